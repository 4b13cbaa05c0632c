section LL
variable {p : Program} {l : Launch} {e : Env} {s : State} {m : MethodId} {below : List Frame} {meth : Method} {c : Code} {cells slots : Nat} {g : gT} {h h2 : Nat → Nat} {bb L : Nat} {xs : Nat → Int32}
theorem sw_law (X : Cx g p s m #[Value.ref bb] c cL_law RL 4) (hX : va_X bb L xs s s.heap) (hbl : bb < s.heap.size) {Q : State → Prop} {H : Heap} {locs : List Loc} {b t : ST} {w : Nat → ST} {D : ND} {ls : Array Slot} {i y : Int32} (hw : LW g 79 h (cC g h (b, w)) 20 h2 (cM g h2 t) s H locs) (hI : INV b t D) (hl : lv_has ls 4 [(0, .ref bb), (1, .ref (h 0)), (2, .ref (h2 0)), (3, .int i)]) (hin : ∀ v : Int32, (v = 1 ∨ v = 2 ∨ v = 3 ∨ v = 4 ∨ v = 5) → vp_in (i + v) L) (hcs : cells ≤ room_1.cells ∧ slots ≤ room_1.slots) (go : GoL p l e s m #[Value.ref bb] below meth c Q cells slots ls g h h2) : W p l e room_1 s m #[Value.ref bb] below meth c H locs cells slots Q (F0 m 33 ls [.int y]) := by
  by_cases h0 : y.toInt < 0 ∨ 32 < y.toInt
  · exact lv_tableOut (tgt := 1108) X.1 X.2.1 dL_law_33 h0 (by decide) (go b t w D H locs hI hw)
  · obtain ⟨k, hk, hy⟩ : ∃ k, k < 33 ∧ y = nI k := by
      obtain ⟨k, h1, h2⟩ := vp_in_of (x := y) (n := 33) (vp_in_iff.mpr (by omega)) (by omega)
      exact ⟨k, h1, h2⟩
    rcases (show k = 0 ∨ k = 1 ∨ k = 2 ∨ k = 3 ∨ k = 4 ∨ k = 5 ∨ k = 6 ∨ k = 7 ∨ k = 8 ∨ k = 9 ∨ k = 10 ∨ k = 11 ∨ k = 12 ∨ k = 13 ∨ k = 14 ∨ k = 15 ∨ k = 16 ∨ k = 17 ∨ k = 18 ∨ k = 19 ∨ k = 20 ∨ k = 21 ∨ k = 22 ∨ k = 23 ∨ k = 24 ∨ k = 25 ∨ k = 26 ∨ k = 27 ∨ k = 28 ∨ k = 29 ∨ k = 30 ∨ k = 31 ∨ k = 32 by omega) with rfl | rfl | rfl | rfl | rfl | rfl | rfl | rfl | rfl | rfl | rfl | rfl | rfl | rfl | rfl | rfl | rfl | rfl | rfl | rfl | rfl | rfl | rfl | rfl | rfl | rfl | rfl | rfl | rfl | rfl | rfl | rfl | rfl
    · rw [hy]; exact lv_tableIn X.1 X.2.1 dL_law_33 (by decide) (by decide) rfl (by decide) (cs_0 X hX hbl hw hI hl hin hcs go)
    · rw [hy]; exact lv_tableIn X.1 X.2.1 dL_law_33 (by decide) (by decide) rfl (by decide) (cs_1 X hX hbl hw hI hl hin hcs go)
    · rw [hy]; exact lv_tableIn X.1 X.2.1 dL_law_33 (by decide) (by decide) rfl (by decide) (cs_2 X hX hbl hw hI hl hin hcs go)
    · rw [hy]; exact lv_tableIn X.1 X.2.1 dL_law_33 (by decide) (by decide) rfl (by decide) (cs_3 X hX hbl hw hI hl hin hcs go)
    · rw [hy]; exact lv_tableIn X.1 X.2.1 dL_law_33 (by decide) (by decide) rfl (by decide) (cs_4 X hX hbl hw hI hl hin hcs go)
    · rw [hy]; exact lv_tableIn X.1 X.2.1 dL_law_33 (by decide) (by decide) rfl (by decide) (cs_5 X hX hbl hw hI hl hin hcs go)
    · rw [hy]; exact lv_tableIn X.1 X.2.1 dL_law_33 (by decide) (by decide) rfl (by decide) (cs_6 X hX hbl hw hI hl hin hcs go)
    · rw [hy]; exact lv_tableIn X.1 X.2.1 dL_law_33 (by decide) (by decide) rfl (by decide) (cs_7 X hX hbl hw hI hl hin hcs go)
    · rw [hy]; exact lv_tableIn X.1 X.2.1 dL_law_33 (by decide) (by decide) rfl (by decide) (cs_8 X hX hbl hw hI hl hin hcs go)
    · rw [hy]; exact lv_tableIn X.1 X.2.1 dL_law_33 (by decide) (by decide) rfl (by decide) (cs_9 X hX hbl hw hI hl hin hcs go)
    · rw [hy]; exact lv_tableIn X.1 X.2.1 dL_law_33 (by decide) (by decide) rfl (by decide) (cs_10 X hX hbl hw hI hl hin hcs go)
    · rw [hy]; exact lv_tableIn X.1 X.2.1 dL_law_33 (by decide) (by decide) rfl (by decide) (cs_11 X hX hbl hw hI hl hin hcs go)
    · rw [hy]; exact lv_tableIn X.1 X.2.1 dL_law_33 (by decide) (by decide) rfl (by decide) (cs_12 X hX hbl hw hI hl hin hcs go)
    · rw [hy]; exact lv_tableIn X.1 X.2.1 dL_law_33 (by decide) (by decide) rfl (by decide) (cs_13 X hX hbl hw hI hl hin hcs go)
    · rw [hy]; exact lv_tableIn X.1 X.2.1 dL_law_33 (by decide) (by decide) rfl (by decide) (cs_14 X hX hbl hw hI hl hin hcs go)
    · rw [hy]; exact lv_tableIn X.1 X.2.1 dL_law_33 (by decide) (by decide) rfl (by decide) (cs_15 X hX hbl hw hI hl hin hcs go)
    · rw [hy]; exact lv_tableIn X.1 X.2.1 dL_law_33 (by decide) (by decide) rfl (by decide) (cs_16 X hX hbl hw hI hl hin hcs go)
    · rw [hy]; exact lv_tableIn X.1 X.2.1 dL_law_33 (by decide) (by decide) rfl (by decide) (cs_17 X hX hbl hw hI hl hin hcs go)
    · rw [hy]; exact lv_tableIn X.1 X.2.1 dL_law_33 (by decide) (by decide) rfl (by decide) (cs_18 X hX hbl hw hI hl hin hcs go)
    · rw [hy]; exact lv_tableIn X.1 X.2.1 dL_law_33 (by decide) (by decide) rfl (by decide) (cs_19 X hX hbl hw hI hl hin hcs go)
    · rw [hy]; exact lv_tableIn X.1 X.2.1 dL_law_33 (by decide) (by decide) rfl (by decide) (cs_20 X hX hbl hw hI hl hin hcs go)
    · rw [hy]; exact lv_tableIn X.1 X.2.1 dL_law_33 (by decide) (by decide) rfl (by decide) (cs_21 X hX hbl hw hI hl hin hcs go)
    · rw [hy]; exact lv_tableIn X.1 X.2.1 dL_law_33 (by decide) (by decide) rfl (by decide) (cs_22 X hX hbl hw hI hl hin hcs go)
    · rw [hy]; exact lv_tableIn X.1 X.2.1 dL_law_33 (by decide) (by decide) rfl (by decide) (cs_23 X hX hbl hw hI hl hin hcs go)
    · rw [hy]; exact lv_tableIn X.1 X.2.1 dL_law_33 (by decide) (by decide) rfl (by decide) (cs_24 X hX hbl hw hI hl hin hcs go)
    · rw [hy]; exact lv_tableIn X.1 X.2.1 dL_law_33 (by decide) (by decide) rfl (by decide) (cs_25 X hX hbl hw hI hl hin hcs go)
    · rw [hy]; exact lv_tableIn X.1 X.2.1 dL_law_33 (by decide) (by decide) rfl (by decide) (cs_26 X hX hbl hw hI hl hin hcs go)
    · rw [hy]; exact lv_tableIn X.1 X.2.1 dL_law_33 (by decide) (by decide) rfl (by decide) (cs_27 X hX hbl hw hI hl hin hcs go)
    · rw [hy]; exact lv_tableIn X.1 X.2.1 dL_law_33 (by decide) (by decide) rfl (by decide) (cs_28 X hX hbl hw hI hl hin hcs go)
    · rw [hy]; exact lv_tableIn X.1 X.2.1 dL_law_33 (by decide) (by decide) rfl (by decide) (cs_29 X hX hbl hw hI hl hin hcs go)
    · rw [hy]; exact lv_tableIn X.1 X.2.1 dL_law_33 (by decide) (by decide) rfl (by decide) (cs_30 X hX hbl hw hI hl hin hcs go)
    · rw [hy]; exact lv_tableIn X.1 X.2.1 dL_law_33 (by decide) (by decide) rfl (by decide) (cs_31 X hX hbl hw hI hl hin hcs go)
    · rw [hy]; exact lv_tableIn X.1 X.2.1 dL_law_33 (by decide) (by decide) rfl (by decide) (cs_32 X hX hbl hw hI hl hin hcs go)
theorem gt_law {j L : Nat} (hL : L ≤ 3072) (hj : j ≤ L) (hn : ¬ nI j > nI L - 6) : j + 6 ≤ L := by
  rcases Nat.lt_or_ge L 6 with q | q
  · exfalso
    apply hn
    show nI L - 6 < nI j
    rw [fa_lt, nI_toInt (n := j) (by omega)]
    have h6 : ∀ L, L < 6 → (nI L - 6).toInt < 0 := by decide
    have := h6 L q
    omega
  · have h6 : nI L - 6 = nI (L - 6) := pk_sub (b := 6) q
    rw [h6] at hn
    have hn : ¬ nI (L - 6) < nI j := hn
    rw [qlt (by omega) (by omega)] at hn
    omega
theorem law_loop (C0 : lw_At p s m meth c bb L xs) (X : Cx g p s m #[Value.ref bb] c cL_law RL 4) (hL : L ≤ 3072) (hcs : cells ≤ 600000 ∧ slots ≤ 7302250) : ∀ (n j : Nat), j ≤ L → L < j + n → ∀ {b t : ST} {w : Nat → ST} {D : ND} {H : Heap} {locs : List Loc} {ls : Array Slot}, INV b t D → LW g 79 h (cC g h (b, w)) 20 h2 (cM g h2 t) s H locs → lv_has ls 4 [(0, .ref bb), (1, .ref (h 0)), (2, .ref (h2 0)), (3, .int (nI j))] → W p l e room_1 s m #[Value.ref bb] below meth c H locs cells slots (lw_Z below #[Value.ref bb] s) (F0 m 18 ls []) := by
  obtain ⟨hx, hb, hr, hml, hown, hts, hX, hbl, hlocks, hgv⟩ := C0
  intro n
  induction n with
  | zero => intro j h1 h2; exact absurd h2 (by omega)
  | succ n ih =>
    intro j hj hn b t w D H locs ls hI hw hl
    refine lv_iload_n X.1 X.2.1 dL_law_18 rfl (lv_at hl 3 rfl) ?_
    refine lv_aload_n X.1 X.2.1 dL_law_19 rfl (lv_at hl 0 rfl) ?_
    refine va_slen X.1 X.2.1 hX hbl (Nat.not_le.mpr hbl) hw.2.2.2.2.2.1 dL_law_20 ?_
    refine lv_bipush (v := 6) X.1 X.2.1 dL_law_21 (by decide) ?_
    refine lv_isub X.1 X.2.1 dL_law_23 ?_
    refine lv_icmp_gt (tgt := 1114) X.1 X.2.1 dL_law_24 (by decide) (fun _ => ?_) (fun q => ?_)
    · refine lv_iconst (v := 1) X.1 X.2.1 dL_law_1114 (by decide) ?_
      refine va_forget (fun q hq => hw.2.2.2.2.2.1.2.2 q hq) ?_
      refine W.widen (k := 600000) (n := 7302250) hcs.1 hcs.2 ?_
      exact lw_ret X.1 X.2.1 hr hlocks dL_law_1115
    · have h6 : j + 6 ≤ L := gt_law hL hj q
      have hin : ∀ v, v ≤ 5 → vp_in (nI (j + v)) L := fun v hv => vp_in_nI (by omega) (by omega)
      refine lv_aload_n X.1 X.2.1 dL_law_27 rfl (lv_at hl 0 rfl) ?_
      refine lv_iload_n X.1 X.2.1 dL_law_28 rfl (lv_at hl 3 rfl) ?_
      refine va_sld X.1 X.2.1 hX hbl (Nat.not_le.mpr hbl) hw.2.2.2.2.2.1 (hin 0 (by decide)) dL_law_29 ?_
      refine lv_bipush (v := 63) X.1 X.2.1 dL_law_30 (by decide) ?_
      refine lv_iand X.1 X.2.1 dL_law_32 ?_
      refine sw_law X hX hbl hw hI hl (fun v hv => ?_) hcs (fun b t w D H locs hI hw => ?_)
      · rcases hv with rfl | rfl | rfl | rfl | rfl
        · rw [show nI j + (1 : Int32) = nI (j + 1) from nI_add j 1]; exact hin 1 (by decide)
        · rw [show nI j + (2 : Int32) = nI (j + 2) from nI_add j 2]; exact hin 2 (by decide)
        · rw [show nI j + (3 : Int32) = nI (j + 3) from nI_add j 3]; exact hin 3 (by decide)
        · rw [show nI j + (4 : Int32) = nI (j + 4) from nI_add j 4]; exact hin 4 (by decide)
        · rw [show nI j + (5 : Int32) = nI (j + 5) from nI_add j 5]; exact hin 5 (by decide)
      · refine lv_iinc (v := nI (j + 6)) (lv' := [(3, .int (nI (j + 6))), (0, .ref bb), (1, .ref (h 0)), (2, .ref (h2 0))]) X.1 X.2.1 dL_law_1108 hl (k := 3) rfl (nI_add j 6) (by decide) rfl (fun ls hl => ?_)
        refine lv_goto (tgt := 18) X.1 X.2.1 dL_law_1111 (by decide) ?_
        exact ih (j + 6) h6 (by omega) hI hw (lv_sub hl [1, 2, 3, 0] rfl)
end LL
