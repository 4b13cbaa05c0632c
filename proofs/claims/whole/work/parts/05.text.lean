/-! the words of the orders: String.length and charAt of a text that stands in the class file -/
theorem MetN.ofX {l : Launch} {g : gT} {y : MethodName} {b : ByteArray} {nL : Nat} {ty : FieldType} {fr lo n : Nat} {h : Nat → Nat} {cel cel' : Nat → va_E} {av : List Value} {r : Int32} (hy : plainName y.cls = true) (hn : narrow ty (.int r) = .int r) (hfit : (lg_sl av).length ≤ nL)
    (body : ∀ (p : Program) (e : Env) (s : State) (m : MethodId) (below : List Frame) (meth : Method) (c : Code) (AV : Array Value) (Q : State → Prop), Cx g p s m AV c b y.cls nL → (∀ (H : Heap) (locs : List Loc) (pc : Nat) (ls : Array Slot), Wd g n h cel' s H locs → decode b pc = .ok (.ireturn, 1) → W p l e (rW fr lo) s m AV below meth c H locs 0 0 Q (F0 m pc ls [.int r])) → ∀ ls : Array Slot, Wd g n h cel s s.heap [] → lv_has ls nL (lv_args 0 av) → W p l e (rW fr lo) s m AV below meth c s.heap [] 0 0 Q (F0 m 0 ls [])) : MetI l g y b nL (some ty) fr lo n h cel cel' av r := by
  intro sz
  refine Met.ofW (cc := b) (maxL := nL) (ret := (some ty)) hy rfl ?_
  intro p e s m args below meth c s₁ B hml hv
  obtain ⟨rfl, hsz, hP, hK, hD0, hSW⟩ := hv
  have hts := atoms_spec (ws := .code y b nL (some ty) :: wsL_law) B.pre
  subst hsz
  have hl := lv_entry av (n := nL) hfit
  rw [lg_entry_eq]
  have X : Cx g p s m av.toArray c b y.cls nL := ⟨B.exec, B.bytes, hml, findClass_of_methodNamed B.named, fun w hw => hts w (List.mem_cons_of_mem _ hw), hK⟩
  exact body p e s m below meth c _ _ X (fun H locs pc ls hw hd => W.zret (v := r) X.1 X.2.1 B.returns hn (fun t ht hW => ⟨⟨r, (), rfl, rfl, by rw [ht]; exact hw.1, va_K.moved hW.alike X.2.2.2.2.2, hw.2.1.weaken (fun _ _ _ _ => trivial)⟩, hw.2.2.1.F ht⟩) hw.2.2.1.2.2 hd B.notSynchronized) _ ⟨hP, AW_D hD0, va_S.rf, hSW⟩ hl
theorem k_Wi {p : Program} {l : Launch} {e : Env} {R : Room} {s : State} {m : MethodId} {args : Array Value} {below : List Frame} {meth : Method} {c : Code} {H : Heap} {locs : List Loc} {Q : State → Prop} {cc : ByteArray} {pc : Nat} {ls : Array Slot} {rest : List Value} {own : String} {nL : Nat} {g : gT} {n : Nat} {h : Nat → Nat} {cel cel' : Nat → va_E} {C : String} {index nA b0 : Nat} {fr lo nM : Nat} {y : MethodName} {b : ByteArray} {rt : Option FieldType} {As : List Value} {r : Int32} (X : Cx g p s m args c cc own nL) (hl : ls.size = nL) (hw : Wd g n h cel s H locs) (M : MetI l g y b nM rt fr lo n h cel cel' (.ref b0 :: As) r)
    (hrv : ∃ cell : Cell, H[b0]? = some cell ∧ cell.vm.isStatics = false ∧ s.vm.findClass C = some cell.cls) (hwd : Cond.methodLink own index y ∈ wsL_law ∧ Cond.instanceMethod y ∈ wsL_law ∧ Cond.selects C y y ∈ wsL_law ∧ Cond.initialized C ∈ wsL_law ∧ Cond.code y b nM rt ∈ wsL_law)
    (hy : y.cls = C ∧ y.cls ≠ "java/lang/invoke/MethodHandle" ∧ y.cls ≠ "java/lang/invoke/VarHandle" ∧ (parseMethodDescriptor y.desc).map (fun d => d.parameters.length) = some nA) (hn : As.length = nA) (hR : fr + 1 ≤ R.frames ∧ 8 + (nM + 11) + lo ≤ R.locals) (hst : (rest.map fun v => v.category).sum ≤ 8) (hdg : decode cc pc = .ok (.invokevirtual index, 3))
    (kk : ∀ (H : Heap) (locs : List Loc), Wd g n h cel' s H locs → W p l e R s m args below meth c H locs 0 0 Q (F0 m (pc + 3) ls (.int r :: rest))) : W p l e R s m args below meth c H locs 0 0 Q (F0 m pc ls (As.reverse ++ .ref b0 :: rest)) := by
  refine va_calli (mc := 0) (ms := 0) (va_runV (As := As) (rest := rest) ⟨X.1, X.2.1, X.2.2.1, X.2.2.2.1, X.2.2.2.2.1⟩ (M H.size) (cwV nA X.2.2.2.2.1 (gi_V hwd.1 hwd.2.1 hwd.2.2.1 hwd.2.2.2.1 hwd.2.2.2.2) rfl rfl rfl hy hR) ⟨PreW_blind, hrv, fun U hU hW => ⟨rfl, hw.pre X hU hW⟩⟩ rfl hn hl rfl (lv_room hst) hdg ⟨Nat.zero_le _, Nat.zero_le _⟩) hw.2.2.1 (fun q _ hq => hw.aw q hq) hw.aw (fun r1 u t H1 locs1 ht hvm hp hB hz1 hk1 hS => ?_)
  subst hp
  exact kk H1 locs1 (hw.post hB ht hS)
theorem yo_J0_length_8abf5 : yJ0_length_8abf5.cls = RJ0 ∧ yJ0_length_8abf5.cls ≠ "java/lang/invoke/MethodHandle" ∧ yJ0_length_8abf5.cls ≠ "java/lang/invoke/VarHandle" ∧ (parseMethodDescriptor yJ0_length_8abf5.desc).map (fun d => d.parameters.length) = some 0 := by decide +kernel
theorem yo_J0_charAt_5068e : yJ0_charAt_5068e.cls = RJ0 ∧ yJ0_charAt_5068e.cls ≠ "java/lang/invoke/MethodHandle" ∧ yJ0_charAt_5068e.cls ≠ "java/lang/invoke/VarHandle" ∧ (parseMethodDescriptor yJ0_charAt_5068e.desc).map (fun d => d.parameters.length) = some 1 := by decide +kernel
theorem yo_J0_coder_7d493 : yJ0_coder_7d493.cls = RJ0 ∧ yJ0_coder_7d493.cls ≠ "java/lang/invoke/MethodHandle" ∧ yJ0_coder_7d493.cls ≠ "java/lang/invoke/VarHandle" ∧ (parseMethodDescriptor yJ0_coder_7d493.desc).map (fun d => d.parameters.length) = some 0 := by decide +kernel
theorem yo_J0_isLatin1_aae02 : yJ0_isLatin1_aae02.cls = RJ0 ∧ yJ0_isLatin1_aae02.cls ≠ "java/lang/invoke/MethodHandle" ∧ yJ0_isLatin1_aae02.cls ≠ "java/lang/invoke/VarHandle" ∧ (parseMethodDescriptor yJ0_isLatin1_aae02.desc).map (fun d => d.parameters.length) = some 0 := by decide +kernel
theorem yo_J0_checkIndex_df160 : yJ0_checkIndex_df160.cls ≠ "java/lang/invoke/MethodHandle" ∧ yJ0_checkIndex_df160.cls ≠ "java/lang/invoke/VarHandle" ∧ (parseMethodDescriptor yJ0_checkIndex_df160.desc).map (fun d => d.parameters.length) = some 2 := by decide +kernel
theorem yo_J1_charAt_3b067 : yJ1_charAt_3b067.cls ≠ "java/lang/invoke/MethodHandle" ∧ yJ1_charAt_3b067.cls ≠ "java/lang/invoke/VarHandle" ∧ (parseMethodDescriptor yJ1_charAt_3b067.desc).map (fun d => d.parameters.length) = some 2 := by decide +kernel
theorem yo_J3_checkIndex_8e157 : yJ3_checkIndex_8e157.cls ≠ "java/lang/invoke/MethodHandle" ∧ yJ3_checkIndex_8e157.cls ≠ "java/lang/invoke/VarHandle" ∧ (parseMethodDescriptor yJ3_checkIndex_8e157.desc).map (fun d => d.parameters.length) = some 3 := by decide +kernel
set_option maxHeartbeats 4000000 in
set_option maxRecDepth 100000 in
theorem c_sCoder {l : Launch} {g : gT} {n : Nat} {h : Nat → Nat} {cel : Nat → va_E} {w : Nat} (hi : w < 7) : MetI l g yJ0_coder_7d493 cJ0_coder_7d493 1 (some .byte) 0 0 n h cel cel [.ref (gK g w)] 0 := by
  refine MetN.ofX (by decide +kernel) rfl (Nat.le_of_ble_eq_true rfl) ?_
  intro p e s m below meth c AV Q X hret ls hw hl
  replace X : Cx g p s m AV c cJ0_coder_7d493 RJ0 1 := X
  replace hl : lv_has ls 1 [(0, .ref (gK g w))] := hl
  refine va_gets X.1 X.2.1 hw.2.2.2.2.2.1 hw.2.2.1 X.2.2.2.1 (X.2.2.2.2.1 _ wq_43_0) (fun _ h9 => h9) dJ0_coder_7d493_0 ?_
  refine lv_if_eq (tgt := 13) X.1 X.2.1 dJ0_coder_7d493_3 (by decide) (fun c_1 => absurd c_1 (by decide)) (fun c_1 => ?_)
  refine lv_aload_n X.1 X.2.1 dJ0_coder_7d493_6 rfl (lv_at hl 0 rfl) ?_
  refine vk_getf X.1 X.2.1 (hw.2.2.2.1.1 w hi).2.1 hw.2.2.1 X.2.2.2.1 (X.2.2.2.2.1 _ wq_43_1) (fun _ h9 => h9) dJ0_coder_7d493_7 ?_
  refine lv_goto (tgt := 14) X.1 X.2.1 dJ0_coder_7d493_10 (by decide) ?_
  exact hret _ _ _ _ hw dJ0_coder_7d493_14
def m_sLen (w : Nat) : Option Int32 := gd (w < 7) (some (nI (lenS.getD w 0)))
set_option maxHeartbeats 4000000 in
set_option maxRecDepth 100000 in
theorem c_sLen {l : Launch} {g : gT} {n : Nat} {h : Nat → Nat} {cel : Nat → va_E} {w : Nat} (hi : w < 7) : MetI l g yJ0_length_8abf5 cJ0_length_8abf5 1 (some .int) 1 20 n h cel cel [.ref (gK g w)] (nI (lenS.getD w 0)) := by
  refine MetI.ofX (by decide +kernel) (Nat.le_of_ble_eq_true rfl) ?_
  intro p e s m below meth c AV Q X hret ls hw hl
  replace X : Cx g p s m AV c cJ0_length_8abf5 RJ0 1 := X
  replace hl : lv_has ls 1 [(0, .ref (gK g w))] := hl
  refine lv_aload_n X.1 X.2.1 dJ0_length_8abf5_0 rfl (lv_at hl 0 rfl) ?_
  refine vk_getf X.1 X.2.1 (hw.2.2.2.1.1 w hi).2.2.1 hw.2.2.1 X.2.2.2.1 (X.2.2.2.2.1 _ wq_42_19) (fun _ h9 => h9) dJ0_length_8abf5_1 ?_
  refine va_tlen X.1 X.2.1 (hw.2.2.2.1.1 w hi).2.2.2 hw.2.2.1 rfl dJ0_length_8abf5_4 ?_
  refine lv_aload_n X.1 X.2.1 dJ0_length_8abf5_5 rfl (lv_at hl 0 rfl) ?_
  refine k_Wi (As := []) X hl.1 hw (c_sCoder hi) (vk_recv hw.2.2.2.1 hi hw.2.2.1) ⟨wq_42_20, wq_42_21, wq_42_22, wq_42_17, wq_42_23⟩ yo_J0_coder_7d493 rfl ⟨Nat.le_of_ble_eq_true rfl, Nat.le_of_ble_eq_true rfl⟩ (Nat.le_of_ble_eq_true rfl) dJ0_length_8abf5_6 (fun H locs hw => ?_)
  refine lv_ishr X.1 X.2.1 dJ0_length_8abf5_9 ?_
  rw [show Int32.ofNat (lenS.getD w 0) >>> ((0 : Int32) &&& 31) = nI (lenS.getD w 0) from sb_shr0 _]
  exact hret _ _ _ _ hw dJ0_length_8abf5_10
set_option maxHeartbeats 4000000 in
set_option maxRecDepth 100000 in
theorem c_sLatin {l : Launch} {g : gT} {n : Nat} {h : Nat → Nat} {cel : Nat → va_E} {w : Nat} (hi : w < 7) : MetI l g yJ0_isLatin1_aae02 cJ0_isLatin1_aae02 1 (some .boolean) 0 0 n h cel cel [.ref (gK g w)] 1 := by
  refine MetN.ofX (by decide +kernel) rfl (Nat.le_of_ble_eq_true rfl) ?_
  intro p e s m below meth c AV Q X hret ls hw hl
  replace X : Cx g p s m AV c cJ0_isLatin1_aae02 RJ0 1 := X
  replace hl : lv_has ls 1 [(0, .ref (gK g w))] := hl
  refine va_gets X.1 X.2.1 hw.2.2.2.2.2.1 hw.2.2.1 X.2.2.2.1 (X.2.2.2.2.1 _ wq_43_0) (fun _ h9 => h9) dJ0_isLatin1_aae02_0 ?_
  refine lv_if_eq (tgt := 17) X.1 X.2.1 dJ0_isLatin1_aae02_3 (by decide) (fun c_1 => absurd c_1 (by decide)) (fun c_1 => ?_)
  refine lv_aload_n X.1 X.2.1 dJ0_isLatin1_aae02_6 rfl (lv_at hl 0 rfl) ?_
  refine vk_getf X.1 X.2.1 (hw.2.2.2.1.1 w hi).2.1 hw.2.2.1 X.2.2.2.1 (X.2.2.2.2.1 _ wq_43_1) (fun _ h9 => h9) dJ0_isLatin1_aae02_7 ?_
  refine lv_if_ne (tgt := 17) X.1 X.2.1 dJ0_isLatin1_aae02_10 (by decide) (fun c_2 => absurd rfl c_2) (fun c_2 => ?_)
  refine lv_iconst (v := 1) X.1 X.2.1 dJ0_isLatin1_aae02_13 (by decide) ?_
  refine lv_goto (tgt := 18) X.1 X.2.1 dJ0_isLatin1_aae02_14 (by decide) ?_
  exact hret _ _ _ _ hw dJ0_isLatin1_aae02_18
set_option maxHeartbeats 4000000 in
set_option maxRecDepth 100000 in
theorem c_sPreN {l : Launch} {g : gT} {n : Nat} {h : Nat → Nat} {cel : Nat → va_E} {x y : Int32} (h1 : ¬ x < 0) (h2 : x < y) : MetI l g yJ3_checkIndex_8e157 cJ3_checkIndex_8e157 3 (some .int) 0 0 n h cel cel [.int x, .int y, .null] x := by
  refine MetI.ofX (by decide +kernel) (Nat.le_of_ble_eq_true rfl) ?_
  intro p e s m below meth c AV Q X hret ls hw hl
  replace X : Cx g p s m AV c cJ3_checkIndex_8e157 RJ3 3 := X
  replace hl : lv_has ls 3 [(0, .int x), (1, .int y), (2, .null)] := hl
  refine lv_iload_n X.1 X.2.1 dJ3_checkIndex_8e157_0 rfl (lv_at hl 0 rfl) ?_
  refine lv_if_lt (tgt := 9) X.1 X.2.1 dJ3_checkIndex_8e157_1 (by decide) (fun c_1 => absurd c_1 h1) (fun c_1 => ?_)
  refine lv_iload_n X.1 X.2.1 dJ3_checkIndex_8e157_4 rfl (lv_at hl 0 rfl) ?_
  refine lv_iload_n X.1 X.2.1 dJ3_checkIndex_8e157_5 rfl (lv_at hl 1 rfl) ?_
  refine lv_icmp_lt (tgt := 16) X.1 X.2.1 dJ3_checkIndex_8e157_6 (by decide) (fun c_2 => ?_) (fun c_2 => absurd h2 c_2)
  refine lv_iload_n X.1 X.2.1 dJ3_checkIndex_8e157_16 rfl (lv_at hl 0 rfl) ?_
  exact hret _ _ _ _ hw dJ3_checkIndex_8e157_17
set_option maxHeartbeats 4000000 in
set_option maxRecDepth 100000 in
theorem c_sPreR {l : Launch} {g : gT} {n : Nat} {h : Nat → Nat} {cel : Nat → va_E} {t : Nat} {x y : Int32} (h1 : ¬ x < 0) (h2 : x < y) : MetI l g yJ3_checkIndex_8e157 cJ3_checkIndex_8e157 3 (some .int) 0 0 n h cel cel [.int x, .int y, .ref t] x := by
  refine MetI.ofX (by decide +kernel) (Nat.le_of_ble_eq_true rfl) ?_
  intro p e s m below meth c AV Q X hret ls hw hl
  replace X : Cx g p s m AV c cJ3_checkIndex_8e157 RJ3 3 := X
  replace hl : lv_has ls 3 [(0, .int x), (1, .int y), (2, .ref t)] := hl
  refine lv_iload_n X.1 X.2.1 dJ3_checkIndex_8e157_0 rfl (lv_at hl 0 rfl) ?_
  refine lv_if_lt (tgt := 9) X.1 X.2.1 dJ3_checkIndex_8e157_1 (by decide) (fun c_1 => absurd c_1 h1) (fun c_1 => ?_)
  refine lv_iload_n X.1 X.2.1 dJ3_checkIndex_8e157_4 rfl (lv_at hl 0 rfl) ?_
  refine lv_iload_n X.1 X.2.1 dJ3_checkIndex_8e157_5 rfl (lv_at hl 1 rfl) ?_
  refine lv_icmp_lt (tgt := 16) X.1 X.2.1 dJ3_checkIndex_8e157_6 (by decide) (fun c_2 => ?_) (fun c_2 => absurd h2 c_2)
  refine lv_iload_n X.1 X.2.1 dJ3_checkIndex_8e157_16 rfl (lv_at hl 0 rfl) ?_
  exact hret _ _ _ _ hw dJ3_checkIndex_8e157_17
set_option maxHeartbeats 4000000 in
set_option maxRecDepth 100000 in
theorem c_sChk {l : Launch} {g : gT} {n : Nat} {h : Nat → Nat} {cel : Nat → va_E} {x y : Int32} (h1 : ¬ x < 0) (h2 : x < y) : MetV l g yJ0_checkIndex_df160 cJ0_checkIndex_df160 2 none 1 22 n h cel cel [.int x, .int y] := by
  refine MetV.ofX (by decide +kernel) (Nat.le_of_ble_eq_true rfl) ?_
  intro p e s m below meth c AV Q X hret ls hw hl
  replace X : Cx g p s m AV c cJ0_checkIndex_df160 RJ0 2 := X
  replace hl : lv_has ls 2 [(0, .int x), (1, .int y)] := hl
  refine lv_iload_n X.1 X.2.1 dJ0_checkIndex_df160_0 rfl (lv_at hl 0 rfl) ?_
  refine lv_iload_n X.1 X.2.1 dJ0_checkIndex_df160_1 rfl (lv_at hl 1 rfl) ?_
  rcases hw.2.2.2.2.2.2 with hq | ⟨tq, hq⟩
  · refine va_gets X.1 X.2.1 hq hw.2.2.1 X.2.2.2.1 (X.2.2.2.2.1 _ wq_43_17) (fun _ h9 => h9) dJ0_checkIndex_df160_2 ?_
    refine k_Si (As := [.int x, .int y, .null]) X hl.1 hw (c_sPreN h1 h2) ⟨wq_43_18, wq_43_19, wq_43_20, wq_43_21⟩ yo_J3_checkIndex_8e157 rfl ⟨Nat.le_of_ble_eq_true rfl, Nat.le_of_ble_eq_true rfl⟩ (Nat.le_of_ble_eq_true rfl) dJ0_checkIndex_df160_5 (fun H locs hw => ?_)
    refine lv_pop X.1 X.2.1 dJ0_checkIndex_df160_8 rfl ?_
    exact hret _ _ _ _ hw dJ0_checkIndex_df160_9
  · refine va_gets X.1 X.2.1 hq hw.2.2.1 X.2.2.2.1 (X.2.2.2.2.1 _ wq_43_17) (fun _ h9 => h9) dJ0_checkIndex_df160_2 ?_
    refine k_Si (As := [.int x, .int y, .ref tq]) X hl.1 hw (c_sPreR h1 h2) ⟨wq_43_18, wq_43_19, wq_43_20, wq_43_21⟩ yo_J3_checkIndex_8e157 rfl ⟨Nat.le_of_ble_eq_true rfl, Nat.le_of_ble_eq_true rfl⟩ (Nat.le_of_ble_eq_true rfl) dJ0_checkIndex_df160_5 (fun H locs hw => ?_)
    refine lv_pop X.1 X.2.1 dJ0_checkIndex_df160_8 rfl ?_
    exact hret _ _ _ _ hw dJ0_checkIndex_df160_9
def sCh (w j : Nat) : Int32 := (bytS.getD w []).getD j 0
theorem sCh_ok : ∀ w, w < 7 → ∀ j, j < lenS.getD w 0 → (((sCh w j) &&& 255).toUInt32 % 65536).toInt32 = sCh w j ∧ narrow .char (.int (sCh w j)) = .int (sCh w j) := by
  intro w hw
  match w, hw with
  | 0, _ => intro j hj; exact (show ∀ j, j < lenS.getD 0 0 → (((sCh 0 j) &&& 255).toUInt32 % 65536).toInt32 = sCh 0 j ∧ narrow .char (.int (sCh 0 j)) = .int (sCh 0 j) by decide +kernel) j hj
  | 1, _ => intro j hj; exact (show ∀ j, j < lenS.getD 1 0 → (((sCh 1 j) &&& 255).toUInt32 % 65536).toInt32 = sCh 1 j ∧ narrow .char (.int (sCh 1 j)) = .int (sCh 1 j) by decide +kernel) j hj
  | 2, _ => intro j hj; exact (show ∀ j, j < lenS.getD 2 0 → (((sCh 2 j) &&& 255).toUInt32 % 65536).toInt32 = sCh 2 j ∧ narrow .char (.int (sCh 2 j)) = .int (sCh 2 j) by decide +kernel) j hj
  | 3, _ => intro j hj; exact (show ∀ j, j < lenS.getD 3 0 → (((sCh 3 j) &&& 255).toUInt32 % 65536).toInt32 = sCh 3 j ∧ narrow .char (.int (sCh 3 j)) = .int (sCh 3 j) by decide +kernel) j hj
  | 4, _ => intro j hj; exact (show ∀ j, j < lenS.getD 4 0 → (((sCh 4 j) &&& 255).toUInt32 % 65536).toInt32 = sCh 4 j ∧ narrow .char (.int (sCh 4 j)) = .int (sCh 4 j) by decide +kernel) j hj
  | 5, _ => intro j hj; exact (show ∀ j, j < lenS.getD 5 0 → (((sCh 5 j) &&& 255).toUInt32 % 65536).toInt32 = sCh 5 j ∧ narrow .char (.int (sCh 5 j)) = .int (sCh 5 j) by decide +kernel) j hj
  | 6, _ => intro j hj; exact (show ∀ j, j < lenS.getD 6 0 → (((sCh 6 j) &&& 255).toUInt32 % 65536).toInt32 = sCh 6 j ∧ narrow .char (.int (sCh 6 j)) = .int (sCh 6 j) by decide +kernel) j hj
  | w + 7, hw => omega
theorem lenS_small : ∀ w, lenS.getD w 0 < 2 ^ 31 := by
  intro w
  match w with
  | 0 => decide
  | 1 => decide
  | 2 => decide
  | 3 => decide
  | 4 => decide
  | 5 => decide
  | 6 => decide
  | w + 7 => exact Nat.two_pow_pos 31
theorem in_lt {x : Int32} {N : Nat} (hN : N < 2 ^ 31) (hx : ¬ (x < 0 ∨ N ≤ x.toNatClampNeg)) : ¬ x < 0 ∧ x < Int32.ofNat N := by
  obtain ⟨j, hj, rfl⟩ := vp_in_of (n := N) hx hN
  exact ⟨nI_pos (by omega), nI_lt hj hN⟩
set_option maxHeartbeats 4000000 in
set_option maxRecDepth 100000 in
theorem c_sLat {l : Launch} {g : gT} {n : Nat} {h : Nat → Nat} {cel : Nat → va_E} {w : Nat} {x : Int32} (hi : w < 7) (hx : ¬ (x < 0 ∨ lenS.getD w 0 ≤ x.toNatClampNeg)) : MetI l g yJ1_charAt_3b067 cJ1_charAt_3b067 2 (some .char) 2 43 n h cel cel [.ref (gV g w), .int x] (sCh w x.toNatClampNeg) := by
  have hlt : x.toNatClampNeg < lenS.getD w 0 := Nat.not_le.mp fun q => hx (Or.inr q)
  refine MetN.ofX (by decide +kernel) (sCh_ok w hi _ hlt).2 (Nat.le_of_ble_eq_true rfl) ?_
  intro p e s m below meth c AV Q X hret ls hw hl
  replace X : Cx g p s m AV c cJ1_charAt_3b067 RJ1 2 := X
  replace hl : lv_has ls 2 [(0, .ref (gV g w)), (1, .int x)] := hl
  refine lv_iload_n X.1 X.2.1 dJ1_charAt_3b067_0 rfl (lv_at hl 1 rfl) ?_
  refine lv_aload_n X.1 X.2.1 dJ1_charAt_3b067_1 rfl (lv_at hl 0 rfl) ?_
  refine va_tlen X.1 X.2.1 (hw.2.2.2.1.1 w hi).2.2.2 hw.2.2.1 rfl dJ1_charAt_3b067_2 ?_
  refine k_Sv (As := [.int x, .int (Int32.ofNat (lenS.getD w 0))]) X hl.1 hw (c_sChk (in_lt (lenS_small w) hx).1 (in_lt (lenS_small w) hx).2) ⟨wq_43_14, wq_43_15, wq_42_17, wq_43_16⟩ yo_J0_checkIndex_df160 rfl ⟨Nat.le_of_ble_eq_true rfl, Nat.le_of_ble_eq_true rfl⟩ (Nat.le_of_ble_eq_true rfl) dJ1_charAt_3b067_3 (fun H locs hw => ?_)
  refine lv_aload_n X.1 X.2.1 dJ1_charAt_3b067_6 rfl (lv_at hl 0 rfl) ?_
  refine lv_iload_n X.1 X.2.1 dJ1_charAt_3b067_7 rfl (lv_at hl 1 rfl) ?_
  refine va_tb X.1 X.2.1 (hw.2.2.2.1.1 w hi).2.2.2 hw.2.2.1 hx rfl dJ1_charAt_3b067_8 ?_
  refine lv_sipush (v := 255) X.1 X.2.1 dJ1_charAt_3b067_9 (by decide) ?_
  refine lv_iand X.1 X.2.1 dJ1_charAt_3b067_12 ?_
  refine lv_i2c X.1 X.2.1 dJ1_charAt_3b067_13 (sCh_ok w hi _ hlt).1 ?_
  exact hret _ _ _ _ hw dJ1_charAt_3b067_14
def m_sAt (w : Nat) (x : Int32) : Option Int32 := gd (w < 7) (gd (¬ (x < 0 ∨ lenS.getD w 0 ≤ x.toNatClampNeg)) (some (sCh w x.toNatClampNeg)))
set_option maxHeartbeats 4000000 in
set_option maxRecDepth 100000 in
theorem c_sAt {l : Launch} {g : gT} {n : Nat} {h : Nat → Nat} {cel : Nat → va_E} {w : Nat} {x : Int32} (hi : w < 7) (hx : ¬ (x < 0 ∨ lenS.getD w 0 ≤ x.toNatClampNeg)) : MetI l g yJ0_charAt_5068e cJ0_charAt_5068e 2 (some .char) 3 64 n h cel cel [.ref (gK g w), .int x] (sCh w x.toNatClampNeg) := by
  have hlt : x.toNatClampNeg < lenS.getD w 0 := Nat.not_le.mp fun q => hx (Or.inr q)
  refine MetN.ofX (by decide +kernel) (sCh_ok w hi _ hlt).2 (Nat.le_of_ble_eq_true rfl) ?_
  intro p e s m below meth c AV Q X hret ls hw hl
  replace X : Cx g p s m AV c cJ0_charAt_5068e RJ0 2 := X
  replace hl : lv_has ls 2 [(0, .ref (gK g w)), (1, .int x)] := hl
  refine lv_aload_n X.1 X.2.1 dJ0_charAt_5068e_0 rfl (lv_at hl 0 rfl) ?_
  refine k_Wi (As := []) X hl.1 hw (c_sLatin hi) (vk_recv hw.2.2.2.1 hi hw.2.2.1) ⟨wq_43_6, wq_43_7, wq_43_8, wq_42_17, wq_43_9⟩ yo_J0_isLatin1_aae02 rfl ⟨Nat.le_of_ble_eq_true rfl, Nat.le_of_ble_eq_true rfl⟩ (Nat.le_of_ble_eq_true rfl) dJ0_charAt_5068e_1 (fun H locs hw => ?_)
  refine lv_if_eq (tgt := 16) X.1 X.2.1 dJ0_charAt_5068e_4 (by decide) (fun c_1 => absurd c_1 (by decide)) (fun c_1 => ?_)
  refine lv_aload_n X.1 X.2.1 dJ0_charAt_5068e_7 rfl (lv_at hl 0 rfl) ?_
  refine vk_getf X.1 X.2.1 (hw.2.2.2.1.1 w hi).2.2.1 hw.2.2.1 X.2.2.2.1 (X.2.2.2.2.1 _ wq_42_19) (fun _ h9 => h9) dJ0_charAt_5068e_8 ?_
  refine lv_iload_n X.1 X.2.1 dJ0_charAt_5068e_11 rfl (lv_at hl 1 rfl) ?_
  refine k_Si (As := [.ref (gV g w), .int x]) X hl.1 hw (c_sLat hi hx) ⟨wq_43_10, wq_43_11, wq_43_12, wq_43_13⟩ yo_J1_charAt_3b067 rfl ⟨Nat.le_of_ble_eq_true rfl, Nat.le_of_ble_eq_true rfl⟩ (Nat.le_of_ble_eq_true rfl) dJ0_charAt_5068e_12 (fun H locs hw => ?_)
  exact hret _ _ _ _ hw dJ0_charAt_5068e_15
theorem x_slen {p : Program} {l : Launch} {e : Env} {R : Room} {s : State} {m : MethodId} {args : Array Value} {below : List Frame} {meth : Method} {c : Code} {H : Heap} {locs : List Loc} {Q : State → Prop} {cc : ByteArray} {pc : Nat} {ls : Array Slot} {rest : List Value} {own : String} {nL : Nat} {g : gT} {n : Nat} {h : Nat → Nat} {cel : Nat → va_E} {w index : Nat} {r : Int32} (X : Cx g p s m args c cc own nL) (hl : ls.size = nL) (hw : Wd g n h cel s H locs) (hm : m_sLen w = some r) (hlk : Cond.methodLink own index yJ0_length_8abf5 ∈ wsL_law) (hR : 1 + 1 ≤ R.frames ∧ 8 + (1 + 11) + 20 ≤ R.locals) (hst : (rest.map fun v => v.category).sum ≤ 8) (hdg : decode cc pc = .ok (.invokevirtual index, 3)) (kk : ∀ (H : Heap) (locs : List Loc), Wd g n h cel s H locs → W p l e R s m args below meth c H locs 0 0 Q (F0 m (pc + 3) ls (.int r :: rest))) : W p l e R s m args below meth c H locs 0 0 Q (F0 m pc ls (.ref (gK g w) :: rest)) := by
  obtain ⟨hi, hm⟩ := gd_e hm
  obtain rfl := Option.some.inj hm
  exact k_Wi (As := []) X hl hw (c_sLen hi) (vk_recv hw.2.2.2.1 hi hw.2.2.1) ⟨hlk, wq_42_15, wq_42_16, wq_42_17, wq_42_18⟩ yo_J0_length_8abf5 rfl hR hst hdg kk
theorem x_sat {p : Program} {l : Launch} {e : Env} {R : Room} {s : State} {m : MethodId} {args : Array Value} {below : List Frame} {meth : Method} {c : Code} {H : Heap} {locs : List Loc} {Q : State → Prop} {cc : ByteArray} {pc : Nat} {ls : Array Slot} {rest : List Value} {own : String} {nL : Nat} {g : gT} {n : Nat} {h : Nat → Nat} {cel : Nat → va_E} {w index : Nat} {x r : Int32} (X : Cx g p s m args c cc own nL) (hl : ls.size = nL) (hw : Wd g n h cel s H locs) (hm : m_sAt w x = some r) (hlk : Cond.methodLink own index yJ0_charAt_5068e ∈ wsL_law) (hR : 3 + 1 ≤ R.frames ∧ 8 + (2 + 11) + 64 ≤ R.locals) (hst : (rest.map fun v => v.category).sum ≤ 8) (hdg : decode cc pc = .ok (.invokevirtual index, 3)) (kk : ∀ (H : Heap) (locs : List Loc), Wd g n h cel s H locs → W p l e R s m args below meth c H locs 0 0 Q (F0 m (pc + 3) ls (.int r :: rest))) : W p l e R s m args below meth c H locs 0 0 Q (F0 m pc ls (.int x :: .ref (gK g w) :: rest)) := by
  obtain ⟨hi, hm⟩ := gd_e hm
  obtain ⟨hx, hm⟩ := gd_e hm
  obtain rfl := Option.some.inj hm
  exact k_Wi (As := [.int x]) X hl hw (c_sAt hi hx) (vk_recv hw.2.2.2.1 hi hw.2.2.1) ⟨hlk, wq_43_3, wq_43_4, wq_42_17, wq_43_5⟩ yo_J0_charAt_5068e rfl hR hst hdg kk
