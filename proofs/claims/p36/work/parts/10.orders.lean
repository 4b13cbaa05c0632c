def m_X4_length (b : ST) : Option (Int32) := some (b.1 7)
theorem yo_X4_length : yX4_length.cls = RX4 ∧ yX4_length.cls ≠ "java/lang/invoke/MethodHandle" ∧ yX4_length.cls ≠ "java/lang/invoke/VarHandle" ∧ (parseMethodDescriptor yX4_length.desc).map (fun d => d.parameters.length) = some 0 := by decide +kernel
set_option maxHeartbeats 4000000 in
set_option maxRecDepth 100000 in
theorem c_X4_length {l : Launch} {g : gT} {h : Nat → Nat} {b : ST} {w : Nat → ST} {r : Int32} (hm : m_X4_length b = some r) : MetI l g yX4_length cX4_length 1 (some .int) 0 0 79 h (cC g h (b, w)) (cC g h (b, w)) [.ref (h 16)] r := by
  refine MetI.ofX (by decide +kernel) (Nat.le_of_ble_eq_true rfl) ?_
  intro p e s m below meth c AV Q X hret ls hw hl
  replace X : Cx g p s m AV c cX4_length RX4 1 := X
  replace hl : lv_has ls 1 [(0, .ref (h 16))] := hl
  unfold m_X4_length at hm
  refine lv_aload_n X.1 X.2.1 dX4_length_0 rfl (lv_at hl 0 rfl) ?_
  refine gX4_length X hw wq_11_23 dX4_length_1 ?_
  obtain rfl := Option.some.inj hm
  exact hret _ _ _ _ hw dX4_length_4
