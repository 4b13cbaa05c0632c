/-- what the tables say of rows of rows of longs -/
theorem ao_long {args : Array Value} {s : State} (h : (Cond.arrayOver (.array .long)).before args s = true) : ∃ (comp c : ClassId) (k : Class), s.vm.findClass (FieldType.array .long).toString = some comp ∧ s.vm.classes[c]? = some k ∧ k.kind = .array comp (.array .long) ∧ s.vm.findClass ("[" ++ (FieldType.array .long).toString) = some c := by
  have h : (Cond.arrayOver (.array .long)).holds args s none s [] = true := h
  simp only [Cond.holds, Cond.value, beq_iff_eq] at h
  cases h1 : s.vm.findClass (FieldType.array .long).toString with
  | none => simp [h1] at h
  | some comp =>
    simp only [h1, Option.bind_some, Option.bind_eq_some_iff, Option.map_eq_some_iff] at h
    obtain ⟨c, h2, k, hk, h3⟩ := h
    have hp := (Array.findIdx?_eq_some_iff_getElem.mp h2).2.1
    rw [(Array.getElem?_eq_some_iff.mp hk).2] at hp
    cases hkd : k.kind with
    | array component ty =>
      rw [hkd] at h3 hp
      simp at h3 hp
      exact ⟨comp, c, k, rfl, hk, by rw [hkd, hp, h3.1], h3.2⟩
    | _ => rw [hkd] at h3; simp at h3
def tmO (i : Nat) : Term := .string "LinkChances$Orders" (ixS.getD i 0)
set_option maxHeartbeats 4000000 in
theorem sw_start {args : Array Value} {s : State} {A : Nat → Prop} (hts : ∀ w ∈ lw_tbl, w.before args s = true) (hg : (Jvm.Cond.and given_1 narrow_1).before args s = true) (hA : ∀ a : Nat, a < s.heap.size → ¬ A a) : ∃ adK adV : Nat → Nat, vk_S 7 lenS bytS adK adV A s s.heap ∧ (∀ i, i < 7 → vk_R "LinkChances$Orders" (ixS.getD i 0) (txS.getD i "") (adK i) s) ∧ va_Z "java/lang/String" "COMPACT_STRINGS" "Z" (.int 1) A s s.heap ∧ va_Zq "jdk/internal/util/Preconditions" "SIOOBE_FORMATTER" "Ljava/util/function/BiFunction;" A s s.heap := by
  have hs := flat_of_before _ hg
  have q1 : ∀ i, i < 7 → Cond.exactly (tmO i) "java/lang/String" ∈ flatC (Jvm.Cond.and given_1 narrow_1) := by decide +kernel
  have q2 : ∀ i, i < 7 → Cond.eq (.field (tmO i) "java/lang/String" "coder" "B") (.int 0) ∈ flatC (Jvm.Cond.and given_1 narrow_1) := by decide +kernel
  have q3 : ∀ i, i < 7 → Cond.arrayOf (.field (tmO i) "java/lang/String" "value" "[B") .byte ∈ flatC (Jvm.Cond.and given_1 narrow_1) := by decide +kernel
  have q4 : ∀ i, i < 7 → Cond.eq (.length (.field (tmO i) "java/lang/String" "value" "[B")) (.int (Int32.ofNat (lenS.getD i 0))) ∈ flatC (Jvm.Cond.and given_1 narrow_1) := by decide +kernel
  have q5 : ∀ i, i < 7 → ∀ j, j < lenS.getD i 0 → Cond.eq (.elem (.field (tmO i) "java/lang/String" "value" "[B") (.int (Int32.ofNat j))) (.int ((bytS.getD i []).getD j 0)) ∈ flatC (Jvm.Cond.and given_1 narrow_1) := by decide +kernel
  have q6 : ∀ i, i < 7 → ∀ j, j < 7 → i ≠ j → Cond.not (Cond.eq (tmO i) (tmO j)) ∈ flatC (Jvm.Cond.and given_1 narrow_1) ∨ Cond.not (Cond.eq (tmO j) (tmO i)) ∈ flatC (Jvm.Cond.and given_1 narrow_1) := by decide +kernel
  have hN : ∀ i : Nat, i < 7 → lenS.getD i 0 < 2 ^ 31 := by decide
  obtain ⟨adK, adV, h1, h2⟩ := vk_Sof (tm := tmO) (len := lenS) (byt := bytS) (A := A) hN (fun i hi => hs _ (q1 i hi)) (fun i hi => hs _ (q2 i hi)) (fun i hi => hs _ (q3 i hi)) (fun i hi => hs _ (q4 i hi)) (fun i hi j hj => hs _ (q5 i hi j hj)) (fun i j hi hj hij => (q6 i hi j hj hij).elim (fun q => Or.inl (hs _ q)) (fun q => Or.inr (hs _ q))) hA
  refine ⟨adK, adV, h1, fun i hi => ?_, ?_, ?_⟩
  · refine vk_R.of (A := args) ?_ (h2 i hi)
    rcases (show i = 0 ∨ i = 1 ∨ i = 2 ∨ i = 3 ∨ i = 4 ∨ i = 5 ∨ i = 6 by omega) with rfl | rfl | rfl | rfl | rfl | rfl | rfl
    · exact hts _ (tb_4 _ (List.mem_of_getElem? (i := 42) rfl))
    · exact hts _ (tb_4 _ (List.mem_of_getElem? (i := 95) rfl))
    · exact hts _ (tb_4 _ (List.mem_of_getElem? (i := 96) rfl))
    · exact hts _ (tb_4 _ (List.mem_of_getElem? (i := 97) rfl))
    · exact hts _ (tb_4 _ (List.mem_of_getElem? (i := 98) rfl))
    · exact hts _ (tb_4 _ (List.mem_of_getElem? (i := 99) rfl))
    · exact hts _ (tb_4 _ (List.mem_of_getElem? (i := 100) rfl))
  · exact va_Zof (hts _ (tb_4 _ (List.mem_of_getElem? (i := 56) rfl))) (hts _ (tb_1 _ (List.mem_of_getElem? (i := 14) rfl))) (va_eqi (hs (Cond.eq (.static "java/lang/String" "COMPACT_STRINGS" "Z") (.int 1)) (by decide +kernel))) hA
  · exact va_Zqof (hts _ (tb_4 _ (List.mem_of_getElem? (i := 72) rfl))) (hts _ (tb_1 _ (List.mem_of_getElem? (i := 16) rfl))) (hs (Cond.isRef (.static "jdk/internal/util/Preconditions" "SIOOBE_FORMATTER" "Ljava/util/function/BiFunction;")) (by decide +kernel)) hA
set_option maxHeartbeats 4000000 in
theorem law_g {p : Program} {s : State} {m : MethodId} {meth : Method} {c : Code} {bb L : Nat} {xs : Nat → Int32} (C0 : lw_At p s m meth c bb L xs) : ∃ g : gT, Cx g p s m #[Value.ref bb] c cL_law RL 4 ∧ SW g (AL s) s s.heap ∧ LLk g s ∧ va_AO "LinkChances$TidyNet" s ∧ va_Nw (.methodLinkNest RX0 21 yX8_init RX9) s := by
  obtain ⟨hx, hb, hr, hml, hown, hts, hX, hbl, hlocks, hgv⟩ := C0
  have hw : ∀ w ∈ wsL_law, w.before #[Value.ref bb] s = true := fun w h => hts w (wsL_in w h)
  obtain ⟨c0, i0, k0⟩ := u_known (C := RX0) (T := TX0) (N := 5) (n := 5) hw inlX0 (hw _ wq_2_5)
  obtain ⟨c1, i1, k1⟩ := u_known (C := RX2) (T := TX2) (N := 10) (n := 10) hw inlX2 (hw _ wq_1_13)
  obtain ⟨c2, i2, k2⟩ := u_known (C := RX3) (T := TX3) (N := 3) (n := 3) hw inlX3 (hw _ wq_1_17)
  obtain ⟨c3, i3, k3⟩ := u_known (C := RX4) (T := TX4) (N := 4) (n := 4) hw inlX4 (hw _ wq_2_9)
  obtain ⟨c4, i4, k4⟩ := u_known (C := RX5) (T := TX5) (N := 2) (n := 2) hw inlX5 (hw _ wq_1_21)
  obtain ⟨c5, i5, k5⟩ := u_known (C := RX6) (T := TX6) (N := 2) (n := 2) hw inlX6 (hw _ wq_2_1)
  obtain ⟨c6, i6, k6⟩ := u_known (C := RX7) (T := TX7) (N := 3) (n := 3) hw inlX7 (hw _ wq_2_13)
  obtain ⟨c7, i7, k7⟩ := u_known (C := RX8) (T := TX8) (N := 8) (n := 8) hw inlX8 (hw _ wq_4_7)
  obtain ⟨c8, i8, k8⟩ := u_known (C := RX9) (T := TX9) (N := 7) (n := 7) hw inlX9 (hw _ wq_1_1)
  obtain ⟨c9, i9, k9⟩ := u_known (C := RX10) (T := TX10) (N := 30) (n := 30) hw inlX10 (hw _ wq_1_4)
  obtain ⟨aI, kI, pI, aI1, aI2, aI3⟩ := Cond.arrayClass_spec (type := .int) (hw _ wq_2_20)
  obtain ⟨aJ, kJ, pJ, aJ1, aJ2, aJ3⟩ := Cond.arrayClass_spec (type := .long) (hw _ wq_3_2)
  have hAO : va_AO "LinkChances$TidyNet" s := va_AO.of (A := #[Value.ref bb]) (hts _ (tb_1 _ (List.mem_of_getElem? (i := 115) rfl)))
  have hNw : va_Nw (.methodLinkNest RX0 21 yX8_init RX9) s := va_Nw.of rfl (A := #[Value.ref bb]) (hts _ (tb_1 _ (List.mem_of_getElem? (i := 117) rfl)))
  obtain ⟨pT, aT, kT, aT1, -, aT3, aT4, aT5⟩ := Cond.arrayOver_spec hAO
  obtain ⟨pM, aM, kM, aM1, aM2, aM3, aM4⟩ := ao_long (args := #[Value.ref bb]) (s := s) (hts _ (tb_1 _ (List.mem_of_getElem? (i := 188) rfl)))
  have hpM : pM = aJ := Option.some.inj (aM1.symm.trans aJ1)
  subst hpM
  obtain ⟨adK, adV, w1, w2, w3, w4⟩ := sw_start hts hgv (A := AL s) (fun a ha q => absurd ha (Nat.not_lt.mpr q))
  refine ⟨((fun k => [c0, c1, c2, c3, c4, c5, c6, c7, c8, c9].getD k 0, fun k => ([i0, i1, i2, i3, i4, i5, i6, i7, i8, i9] : List (Nat → Nat)).getD k (fun _ => 0)), aI, pM, aT, aM, adK, adV), ⟨hx, hb, hml, hown, hw, ⟨fun k q hq => ?_, fun k q hq => ?_⟩⟩, ⟨w1, w2, w3, w4⟩, ⟨kM, aM2, aM3⟩, hAO, hNw⟩
  · match k, hq with
    | 0, hq => cases hq; exact k0
    | 1, hq => cases hq; exact k1
    | 2, hq => cases hq; exact k2
    | 3, hq => cases hq; exact k3
    | 4, hq => cases hq; exact k4
    | 5, hq => cases hq; exact k5
    | 6, hq => cases hq; exact k6
    | 7, hq => cases hq; exact k7
    | 8, hq => cases hq; exact k8
    | 9, hq => cases hq; exact k9
    | k + 10, hq => exact absurd hq (by show (([] : List vw_C)[k]? = some q) → False; rw [List.getElem?_nil]; exact fun z => by cases z)
  · match k, hq with
    | 0, hq => cases hq; exact ⟨fun n z => ⟨(fun k h => by cases h), kI, aI2, pI, aI3⟩, aI1⟩
    | 1, hq => cases hq; exact ⟨fun n z => ⟨(fun k h => by cases h), kJ, aJ2, pJ, aJ3⟩, aJ1⟩
    | 2, hq => cases hq; exact ⟨fun n z => ⟨(fun k h => by cases h), kT, aT3, pT, aT4⟩, kT, pT, aT3, aT4, aT1, aT5⟩
    | 3, hq => cases hq; exact ⟨fun n z => ⟨(fun k h => by cases h), kM, aM2, pM, aM3⟩, aM4⟩
    | k + 4, hq => exact absurd hq (by show (([] : List (ClassId × FieldType))[k]? = some q) → False; rw [List.getElem?_nil]; exact fun z => by cases z)
