/-! the law's round from its start -/
section G5
variable {b : ST} {w : Nat → ST} {v : Nat → Int32} {D : ND}
theorem sg_35 {L t : Nat} {xs : Nat → Int32} (hL : L ≤ 260) (ht : t < 3) (h : DK b D) (hv0 : v 0 = nI (dN D)) (hv1 : v 1 = nI (dL D)) (hv2 : v 2 = nI (dW D)) : OUT (m_L_law_S35 L xs (nI t) b w v) v := by
  have hD := h.1
  have h10 := hD.2.2.1
  obtain ⟨t1, t2⟩ := TT_pos hD
  have hr := RR_le hD
  obtain ⟨c, hc⟩ := cell_e xs hL (k := 13 * t + 11) (by omega)
  have e0 : (13 : Int32) * nI t + (11 : Int32) = nI (13 * t + 11) := by
    show nI 13 * nI t + nI 11 = _
    rw [pk_mul, nI_add]
  obtain ⟨b1, s1, h1⟩ := ka_reach h (x := 0) (Or.inl rfl)
  obtain ⟨b2, s2, h2⟩ := ka_reach h1 (x := 1) (Or.inr rfl)
  obtain ⟨b3, w3, s3, h3⟩ := ka_joined0 h2 w
  obtain ⟨b4, w4, s4, h4⟩ := ka_joined1 h3 w3
  obtain ⟨b5, w5, s5, h5⟩ := ka_joined h4 w4 (k := 3) (by decide)
  obtain ⟨b6, w6, s6, h6⟩ := ka_joined h5 w5 (k := 2) (by decide)
  obtain ⟨b7, w7, s7, h7⟩ := ka_joined h6 w6 (k := 3) (by decide)
  obtain ⟨b8, w8, s8, h8⟩ := ka_joined h7 w7 (k := 4) (by decide)
  obtain ⟨b9, w9, s9, h9⟩ := ka_joined h8 w8 (k := 2) (by decide)
  have s10 := ka_count6 h9
  obtain ⟨j1, j2, j3, j4, j5⟩ := jA_bd hD
  obtain ⟨r1, r2, r3⟩ := red_f (a := RR D) t1
  have hAB : fr (RR D) (TT D) 0 ≤ fr (RR D) (TT D) 1 := Nat.div_le_div_right hr
  have hB : fr (RR D) (TT D) 1 ≤ TT D := Nat.div_le_self _ _
  have hg : Nat.gcd (fr (RR D) (TT D) 0) (fr (RR D) (TT D) 1) = 1 := Nat.coprime_div_gcd_div_gcd (Nat.gcd_pos_of_pos_right _ t1)
  have hb1 : 1 ≤ fr (RR D) (TT D) 1 := r3
  have e1 : (v 1 + (1 : Int32)).toInt64 = lN (dL D + 1) := by rw [hv1, nI_1, nI_l (by omega)]
  have e2 : (2 : Int64) * (v 1).toInt64 * lN (jA D 2) = lN (2 * dL D * jA D 2) := by
    rw [hv1, nI_l (by omega)]
    show lN 2 * lN (dL D) * _ = _
    rw [lN_mul, lN_mul]
  have hp : 2 * dL D * jA D 2 ≤ 20 * 4095 := Nat.mul_le_mul (by omega) j4
  have go := fun y4 => sg_182 (w := w9) (nI t) y4 h9 hv0 hv1 hv2
  have hz : ¬ 0 < RR D → fr (RR D) (TT D) 0 = 0 := fun q => by
    have q : RR D = 0 := by omega
    show RR D / _ = 0
    rw [q, Nat.zero_div]
  generalize fr (RR D) (TT D) 0 = A at *
  generalize fr (RR D) (TT D) 1 = B at *
  refine OUT.e (y := m_L_law_S182 (nI t) c (lN A) (lN B) b9 w9 v) ?_ (go c)
  unfold m_L_law_S35
  simp only [gk1]
  simp only [cz1]
  rw [e0, hc, Option.bind_some, s1, Option.bind_some, un_f, s2, Option.bind_some, un_f, if_neg (by rw [lg_cmp_lt]; exact fun z => by have := (pk_lLT (b := 0) (by omega) (by decide)).mp z; omega), if_neg (by rw [lg_cmp_gt, pk_lLT (by omega) (by omega)]; omega), dvs_e (by omega) (by omega), Option.bind_some, hg, if_pos (show lg_cmp (lN 1) (1 : Int64) = 0 from cmp0 (lN 1)), s3, Option.bind_some, un_f, un_f, if_pos (cmp0 _), s4, Option.bind_some, un_f, un_f, if_pos (cmp0 _)]
  rw [show m_X9_joined b4 w4 (3 : Int32) = _ from s5, Option.bind_some, un_f, un_f, e1, if_neg (by rw [lg_cmp_gt, pk_lLT (by omega) (by omega)]; omega)]
  rw [show m_X9_joined b5 w5 (2 : Int32) = _ from s6, Option.bind_some, un_f, un_f, show m_X9_joined b6 w6 (3 : Int32) = _ from s7, Option.bind_some, un_f, un_f, if_neg (by rw [lg_cmp_lt, pk_lLT (by omega) (by omega)]; omega)]
  rw [show m_X9_joined b7 w7 (4 : Int32) = _ from s8, Option.bind_some, un_f, un_f, show m_X9_joined b8 w8 (2 : Int32) = _ from s9, Option.bind_some, un_f, un_f, lt_f, e2, if_neg (by rw [lg_cmp_gt, pk_lLT (by omega) (by omega)]; omega)]
  by_cases h0 : 0 < RR D
  · by_cases hA0 : lg_cmp (lN A) (0 : Int64) ≤ 0
    · rw [if_pos hA0]
    · rw [if_neg hA0, s10, Option.bind_some, rch_ndn h0, if_pos (show bz true = (1 : Int32) from rfl)]
  · rw [if_pos (by rw [hz h0, lg_cmp_le]; exact (pk_lLE (a := 0) (b := 0) (by decide) (by decide)).mpr (Nat.le_refl 0))]
/-- one round of the law: it goes on, and the class stands well -/
theorem round_e {L t : Nat} {xs : Nat → Int32} (hL : L ≤ 260) (ht : t < 3) (h : DK b D) : ∃ b' w' v' D', m_L_law_S20 L xs (nI t) b w v = some (.inl (b', w', v')) ∧ DK b' D' := by
  obtain ⟨b1, v1, D1, s1, h1, q0, q1, q2⟩ := tells_e (X := 13 * t) (xs := xs) (w := w) (v := v) hL (by omega) h
  obtain ⟨b2, w2, D2, s2, h2⟩ := sg_35 (w := w) (xs := xs) hL ht h1 q0 q1 q2
  refine ⟨b2, w2, v1, D2, ?_, h2⟩
  unfold m_L_law_S20
  rw [show (13 : Int32) * nI t = nI (13 * t) from pk_mul 13 t, s1, Option.bind_some, un_f, un_f, un_f, if_neg (by decide), s2]
end G5
