def m_X7_latestFinding (b : ST) : Option (Int32) := some (b.1 9)
theorem yo_X7_latestFinding : yX7_latestFinding.cls = RX7 ∧ yX7_latestFinding.cls ≠ "java/lang/invoke/MethodHandle" ∧ yX7_latestFinding.cls ≠ "java/lang/invoke/VarHandle" ∧ (parseMethodDescriptor yX7_latestFinding.desc).map (fun d => d.parameters.length) = some 0 := by decide +kernel
set_option maxHeartbeats 4000000 in
set_option maxRecDepth 100000 in
theorem c_X7_latestFinding {l : Launch} {g : gT} {h : Nat → Nat} {b : ST} {w : Nat → ST} {r : Int32} (hm : m_X7_latestFinding b = some r) : MetI l g yX7_latestFinding cX7_latestFinding 1 (some .int) 0 0 79 h (cC g h (b, w)) (cC g h (b, w)) [.ref (h 18)] r := by
  refine MetI.ofX (by decide +kernel) (Nat.le_of_ble_eq_true rfl) ?_
  intro p e s m below meth c AV Q X hret ls hw hl
  replace X : Cx g p s m AV c cX7_latestFinding RX7 1 := X
  replace hl : lv_has ls 1 [(0, .ref (h 18))] := hl
  unfold m_X7_latestFinding at hm
  refine lv_aload_n X.1 X.2.1 dX7_latestFinding_0 rfl (lv_at hl 0 rfl) ?_
  refine gX7_latest X hw wq_12_4 dX7_latestFinding_1 ?_
  obtain rfl := Option.some.inj hm
  exact hret _ _ _ _ hw dX7_latestFinding_4
