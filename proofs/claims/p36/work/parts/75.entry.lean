/-- what the tables say of rows of rows of longs -/
theorem ao_long {args : Array Value} {s : State} (h : (Cond.arrayOver (.array .long)).before args s = true) : ∃ (comp c : ClassId) (k : Class), s.vm.findClass (FieldType.array .long).toString = some comp ∧ s.vm.classes[c]? = some k ∧ k.kind = .array comp (.array .long) ∧ s.vm.findClass ("[" ++ (FieldType.array .long).toString) = some c := by
  have h : (Cond.arrayOver (.array .long)).holds args s none s [] = true := h
  simp only [Cond.holds, Cond.value, beq_iff_eq] at h
  cases h1 : s.vm.findClass (FieldType.array .long).toString with
  | none => simp [h1] at h
  | some comp =>
    simp only [h1, Option.bind_some, Option.bind_eq_some_iff, Option.map_eq_some_iff] at h
    obtain ⟨c, h2, k, hk, h3⟩ := h
    have hp := (Array.findIdx?_eq_some_iff_getElem.mp h2).2.1
    rw [(Array.getElem?_eq_some_iff.mp hk).2] at hp
    cases hkd : k.kind with
    | array component ty =>
      rw [hkd] at h3 hp
      simp at h3 hp
      exact ⟨comp, c, k, rfl, hk, by rw [hkd, hp, h3.1], h3.2⟩
    | _ => rw [hkd] at h3; simp at h3
set_option maxHeartbeats 4000000 in
theorem law_g {p : Program} {s : State} {m : MethodId} {meth : Method} {c : Code} {bb L : Nat} {xs : Nat → Int32} (C0 : lw_At p s m meth c bb L xs) : ∃ g : gT, Cx g p s m #[Value.ref bb] c cL_law RL 34 ∧ LLk g s ∧ va_AO "LinkChances$TidyNet" s ∧ va_Nw (.methodLinkNest RX0 21 yX8_init RX9) s := by
  obtain ⟨hx, hb, hr, hml, hown, hts, hX, hbl, hlocks, hgv⟩ := C0
  have hw : ∀ w ∈ wsL_law, w.before #[Value.ref bb] s = true := fun w h => hts w (wsL_in w h)
  obtain ⟨c0, i0, k0⟩ := u_known (C := RX0) (T := TX0) (N := 5) (n := 5) hw inlX0 (hw _ wq_2_4)
  obtain ⟨c1, i1, k1⟩ := u_known (C := RX2) (T := TX2) (N := 10) (n := 10) hw inlX2 (hw _ wq_1_12)
  obtain ⟨c2, i2, k2⟩ := u_known (C := RX3) (T := TX3) (N := 3) (n := 3) hw inlX3 (hw _ wq_1_16)
  obtain ⟨c3, i3, k3⟩ := u_known (C := RX4) (T := TX4) (N := 4) (n := 4) hw inlX4 (hw _ wq_2_8)
  obtain ⟨c4, i4, k4⟩ := u_known (C := RX5) (T := TX5) (N := 2) (n := 2) hw inlX5 (hw _ wq_1_20)
  obtain ⟨c5, i5, k5⟩ := u_known (C := RX6) (T := TX6) (N := 2) (n := 2) hw inlX6 (hw _ wq_2_0)
  obtain ⟨c6, i6, k6⟩ := u_known (C := RX7) (T := TX7) (N := 3) (n := 3) hw inlX7 (hw _ wq_2_12)
  obtain ⟨c7, i7, k7⟩ := u_known (C := RX8) (T := TX8) (N := 8) (n := 8) hw inlX8 (hw _ wq_4_5)
  obtain ⟨c8, i8, k8⟩ := u_known (C := RX9) (T := TX9) (N := 7) (n := 7) hw inlX9 (hw _ wq_1_1)
  obtain ⟨aI, kI, pI, aI1, aI2, aI3⟩ := Cond.arrayClass_spec (type := .int) (hw _ wq_1_3)
  obtain ⟨aJ, kJ, pJ, aJ1, aJ2, aJ3⟩ := Cond.arrayClass_spec (type := .long) (hw _ wq_3_0)
  have hAO : va_AO "LinkChances$TidyNet" s := va_AO.of (A := #[Value.ref bb]) (hts _ (tb_1 _ (List.mem_of_getElem? (i := 109) rfl)))
  have hNw : va_Nw (.methodLinkNest RX0 21 yX8_init RX9) s := va_Nw.of rfl (A := #[Value.ref bb]) (hts _ (tb_1 _ (List.mem_of_getElem? (i := 111) rfl)))
  obtain ⟨pT, aT, kT, aT1, -, aT3, aT4, aT5⟩ := Cond.arrayOver_spec hAO
  obtain ⟨pM, aM, kM, aM1, aM2, aM3, aM4⟩ := ao_long (args := #[Value.ref bb]) (s := s) (hts _ (tb_1 _ (List.mem_of_getElem? (i := 181) rfl)))
  have hpM : pM = aJ := Option.some.inj (aM1.symm.trans aJ1)
  subst hpM
  refine ⟨((fun k => [c0, c1, c2, c3, c4, c5, c6, c7, c8].getD k 0, fun k => ([i0, i1, i2, i3, i4, i5, i6, i7, i8] : List (Nat → Nat)).getD k (fun _ => 0)), aI, pM, aT, aM, fun _ => 0, fun _ => 0), ⟨hx, hb, hml, hown, hw, ⟨fun k q hq => ?_, fun k q hq => ?_⟩⟩, ⟨kM, aM2, aM3⟩, hAO, hNw⟩
  · match k, hq with
    | 0, hq => cases hq; exact k0
    | 1, hq => cases hq; exact k1
    | 2, hq => cases hq; exact k2
    | 3, hq => cases hq; exact k3
    | 4, hq => cases hq; exact k4
    | 5, hq => cases hq; exact k5
    | 6, hq => cases hq; exact k6
    | 7, hq => cases hq; exact k7
    | 8, hq => cases hq; exact k8
    | k + 9, hq => exact absurd hq (by show (([] : List vw_C)[k]? = some q) → False; rw [List.getElem?_nil]; exact fun z => by cases z)
  · match k, hq with
    | 0, hq => cases hq; exact ⟨fun n z => ⟨(fun k h => by cases h), kI, aI2, pI, aI3⟩, aI1⟩
    | 1, hq => cases hq; exact ⟨fun n z => ⟨(fun k h => by cases h), kJ, aJ2, pJ, aJ3⟩, aJ1⟩
    | 2, hq => cases hq; exact ⟨fun n z => ⟨(fun k h => by cases h), kT, aT3, pT, aT4⟩, kT, pT, aT3, aT4, aT1, aT5⟩
    | 3, hq => cases hq; exact ⟨fun n z => ⟨(fun k h => by cases h), kM, aM2, pM, aM3⟩, aM4⟩
    | k + 4, hq => exact absurd hq (by show (([] : List (ClassId × FieldType))[k]? = some q) → False; rw [List.getElem?_nil]; exact fun z => by cases z)
