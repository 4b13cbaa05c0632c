/-! the law's round, from its end to its start: a link more; all alike -/
section G1
variable {b : ST} {w : Nat → ST} {v : Nat → Int32} {D : ND}
/-- a piece of the round goes on to the end, with the row as it was -/
def OUT (z : Option ((ST × (Nat → ST) × (Nat → Int32)) ⊕ (Int32 × ST × (Nat → ST) × (Nat → Int32)))) (v : Nat → Int32) : Prop := ∃ b' w' D', z = some (.inl (b', w', v)) ∧ DK b' D'
theorem OUT.e {x y : Option ((ST × (Nat → ST) × (Nat → Int32)) ⊕ (Int32 × ST × (Nat → ST) × (Nat → Int32)))} (h : x = y) (ho : OUT y v) : OUT x v := by rw [h]; exact ho
theorem l1033 (h : DK b D) (hv1 : v 1 = nI (dL D)) : ∃ b', vLoop m_L_law_L1033 FUEL ((0 : Int32), (0 : Int32), b, w, v) = some (nI (NR D), b', w, v) ∧ DK b' D := by
  have hD := h.1
  have hL := hD.2.2.1
  obtain ⟨e, he, b', rfl, h'⟩ := vl_totF (B := m_L_law_L1033) (fun m st => ∃ j b, j ≤ dL D + 1 ∧ m = dL D + 1 - j ∧ st = (nI (sm (fun k => SC D k) j), nI j, b, w, v) ∧ DK b D) (fun e => ∃ b', e = (nI (NR D), b', w, v) ∧ DK b' D) (by
    rintro m st ⟨j, b, hj, rfl, rfl, h⟩
    unfold m_L_law_L1033
    simp only [un, gk1]
    simp only [cz1, hv1]
    by_cases hjL : j = dL D + 1
    · left
      subst hjL
      rw [if_pos (by rw [qlt (by omega) (by omega)]; omega), NR_sum hD]
      exact ⟨_, rfl, b, rfl, h⟩
    · right
      obtain ⟨b1, s1, h1⟩ := ka_sets h (k := j) (by omega)
      rw [if_neg (by rw [qlt (by omega) (by omega)]; omega), s1, Option.bind_some]
      dsimp only
      rw [lt_f, lt_f, nI_add, nI_1]
      exact ⟨_, rfl, dL D + 1 - (j + 1), by omega, j + 1, b1, by omega, rfl, rfl, h1⟩) (i := dL D + 1 - 0) (s := ((0 : Int32), (0 : Int32), b, w, v)) (by omega) ⟨0, b, Nat.zero_le _, rfl, rfl, h⟩
  exact ⟨b', he, h'⟩
theorem l1077 (h : DK b D) (hv1 : v 1 + (1 : Int32) = nI (dL D)) : ∃ b', vLoop m_L_law_L1077 FUEL ((0 : Int32), (0 : Int32), b, w, v) = some (nI (NR D), b', w, v) ∧ DK b' D := by
  have hD := h.1
  have hL := hD.2.2.1
  obtain ⟨e, he, b', rfl, h'⟩ := vl_totF (B := m_L_law_L1077) (fun m st => ∃ j b, j ≤ dL D + 1 ∧ m = dL D + 1 - j ∧ st = (nI (sm (fun k => SC D k) j), nI j, b, w, v) ∧ DK b D) (fun e => ∃ b', e = (nI (NR D), b', w, v) ∧ DK b' D) (by
    rintro m st ⟨j, b, hj, rfl, rfl, h⟩
    unfold m_L_law_L1077
    simp only [un, gk1]
    simp only [cz1, hv1]
    by_cases hjL : j = dL D + 1
    · left
      subst hjL
      rw [if_pos (by rw [qlt (by omega) (by omega)]; omega), NR_sum hD]
      exact ⟨_, rfl, b, rfl, h⟩
    · right
      obtain ⟨b1, s1, h1⟩ := ka_sets h (k := j) (by omega)
      rw [if_neg (by rw [qlt (by omega) (by omega)]; omega), s1, Option.bind_some]
      dsimp only
      rw [lt_f, lt_f, nI_add, nI_1]
      exact ⟨_, rfl, dL D + 1 - (j + 1), by omega, j + 1, b1, by omega, rfl, rfl, h1⟩) (i := dL D + 1 - 0) (s := ((0 : Int32), (0 : Int32), b, w, v)) (by omega) ⟨0, b, Nat.zero_le _, rfl, rfl, h⟩
  exact ⟨b', he, h'⟩
theorem sg_1016 (y3 : Int32) (h : DK b D) (hv1 : v 1 = nI (dL D)) : OUT (m_L_law_S1016 y3 b w v) v := by
  have hD := h.1
  have hL := hD.2.2.1
  have hN := hD.1
  unfold m_L_law_S1016
  simp only [gk1]
  simp only [cz1]
  by_cases h10 : dL D < 10
  · obtain ⟨b1, l1, h1⟩ := l1033 (w := w) h hv1
    obtain ⟨b2, l2, h2⟩ := ka_link h1 (x := 0) (y := 1) (p := 1) (q := 2) h10 (by omega) (by omega) (by decide) (by decide) (by decide) (by decide)
    have hv2 : v 1 + (1 : Int32) = nI (dL (dAdd D (if 1 < 0 then 1 else 0) (if 0 < 1 then 1 else 0) 1 2)) := by
      rw [hv1, nI_1]; rfl
    obtain ⟨b3, l3, h3⟩ := l1077 (w := w) h2 hv2
    obtain ⟨b4, l4, h4⟩ := ka_back h3 (by show dL D + 1 ≠ 0; omega)
    have hm := NR_more (D := D) (a := if 1 < 0 then 1 else 0) (e := if 0 < 1 then 1 else 0) (p := 1) (q := 2)
    have hle := NR_le h3.1
    have l4 : m_X9_back b3 = some (nI (dL D + 1 - 1), b4) := l4
    rw [Nat.add_sub_cancel] at l4
    refine ⟨b4, w, _, ?_, h4⟩
    rw [if_neg (show ¬ (10 : Int32) ≤ v 1 by rw [hv1, qle_10 (by omega)]; omega), l1, Option.bind_some, un_f, un_f, un_f, show m_X9_link b1 (0 : Int32) (1 : Int32) (1 : Int32) (2 : Int32) = _ from l2, Option.bind_some, un_f, if_pos hv1.symm, l3, Option.bind_some, un_f, un_f, un_f, if_neg (show ¬ nI (NR (dAdd D (if 1 < 0 then 1 else 0) (if 0 < 1 then 1 else 0) 1 2)) < (2 : Int32) * nI (NR D) by
      show ¬ _ < nI 2 * nI (NR D)
      rw [pk_mul, qlt (by omega) (by omega)]
      omega), l4, Option.bind_some, un_f, if_pos hv1.symm]
  · refine ⟨b, w, D, ?_, h⟩
    rw [if_pos (show (10 : Int32) ≤ v 1 by rw [hv1, qle_10 (by omega)]; omega)]
theorem ka_joined0 (h : DK b D) (w : Nat → ST) : ∃ b' w', m_X9_joined b w (0 : Int32) = some (lN (fr (RR D) (TT D) 0), b', w') ∧ DK b' D := ka_joined h w (k := 0) (by decide)
theorem ka_joined1 (h : DK b D) (w : Nat → ST) : ∃ b' w', m_X9_joined b w (1 : Int32) = some (lN (fr (RR D) (TT D) 1), b', w') ∧ DK b' D := ka_joined h w (k := 1) (by decide)
theorem cmp0 (x : Int64) : lg_cmp x x = 0 := by rw [lg_cmp_eq]
theorem sg_927 (y3 : Int32) {a c : Nat} (h : DK b D) (hv1 : v 1 = nI (dL D)) (ha : alk D a c) (hac : a ≤ c) (h1c : 1 ≤ c) (hc : c ≤ 9) : OUT (m_L_law_S927 y3 (nI c) (nI a) b w v) v := by
  have hD := h.1
  obtain ⟨t1, t2⟩ := TT_pos hD
  have hr := RR_le hD
  obtain ⟨b1, s1, h1⟩ := ka_like h h1c (by omega) hac (x := 0) (Or.inl rfl)
  obtain ⟨b2, s2, h2⟩ := ka_like h1 h1c (by omega) hac (x := 1) (Or.inr rfl)
  rw [lkT_alk hD ha hac hc, if_pos rfl] at s1
  rw [lkT_alk hD ha hac hc, if_neg (by decide)] at s2
  obtain ⟨b3, s3, h3⟩ := ka_reach h2 (x := 0) (Or.inl rfl)
  obtain ⟨b4, s4, h4⟩ := ka_reach h3 (x := 1) (Or.inr rfl)
  obtain ⟨b5, w5, s5, h5⟩ := ka_joined0 h4 w
  obtain ⟨b6, s6, h6⟩ := ka_reach h5 (x := 0) (Or.inl rfl)
  obtain ⟨b7, w7, s7, h7⟩ := ka_joined1 h6 w5
  obtain ⟨b8, s8, h8⟩ := ka_reach h7 (x := 1) (Or.inr rfl)
  have hg : 0 < Nat.gcd (RR D) (TT D) := Nat.gcd_pos_of_pos_right _ t1
  have hgl : Nat.gcd (RR D) (TT D) ≤ TT D := Nat.gcd_le_right _ t1
  have f0 : fr (RR D) (TT D) 0 = RR D / Nat.gcd (RR D) (TT D) := rfl
  have f1 : fr (RR D) (TT D) 1 = TT D / Nat.gcd (RR D) (TT D) := rfl
  refine OUT.e ?_ (sg_1016 (w := w7) y3 h8 hv1)
  unfold m_L_law_S927
  rw [s1, Option.bind_some, un_f, s2, Option.bind_some, un_f, dvs_e (by omega) (by omega), Option.bind_some, s3, Option.bind_some, un_f, gd_t (lN_n0 hg (by omega)), pk_lDiv (by omega) hg (by omega), ← f0, if_pos (cmp0 _), s4, Option.bind_some, un_f, gd_t (lN_n0 hg (by omega)), pk_lDiv (by omega) hg (by omega), ← f1, if_pos (cmp0 _), s5, Option.bind_some, un_f, un_f, s6, Option.bind_some, un_f, if_pos (cmp0 _), s7, Option.bind_some, un_f, un_f, s8, Option.bind_some, un_f, if_pos (cmp0 _)]
end G1
