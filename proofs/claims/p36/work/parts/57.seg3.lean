/-! the law's round: as a rule, pairs, a goal more -/
section G3
variable {b : ST} {w : Nat → ST} {v : Nat → Int32} {D : ND}
theorem fr_N {n T : Nat} (hT : 0 < T) : fr (n * T) T 0 = n ∧ fr (n * T) T 1 = 1 := by
  have h : ∀ x, fr (n * T) T x = fr n 1 x := fun x => by
    have := fr_mul (a := n) (b := 1) (x := x) hT
    rw [Nat.mul_comm T n, Nat.mul_one] at this
    exact this
  rw [h, h]
  unfold fr
  rw [Nat.gcd_one_right]
  exact ⟨Nat.div_one _, Nat.div_one _⟩
theorem fr_1 {T : Nat} (hT : 0 < T) (x : Int32) : fr T T x = 1 := by
  have h := fr_N (n := 1) hT
  rw [Nat.one_mul] at h
  unfold fr at h ⊢
  split
  · exact h.1
  · exact h.2
theorem sg_686 (y3 y4 : Int32) (h : DK b D) (hv0 : v 0 = nI (dN D)) (hv1 : v 1 = nI (dL D)) : OUT (m_L_law_S686 y3 y4 b w v) v := by
  have hD := h.1
  have hN := hD.2.1
  obtain ⟨t1, t2⟩ := TT_pos hD
  have q1 := QS_ge hD
  have q2 := QS_N hD
  have q3 := QS_lt hD
  have q4 : dN D * TT D ≤ 7 * 3486784401 := Nat.mul_le_mul hN t2
  obtain ⟨b1, s1, h1⟩ := ka_rule h (x := 0) (Or.inl rfl)
  obtain ⟨b2, s2, h2⟩ := ka_rule h1 (x := 1) (Or.inr rfl)
  obtain ⟨b3, s3, h3⟩ := ka_rule h2 (x := 0) (Or.inl rfl)
  obtain ⟨b4, s4, h4⟩ := ka_rule h3 (x := 1) (Or.inr rfl)
  have l1 := less_fr (A := QS D) (C := TT D) t1 (by omega) (by omega) (by omega)
  have l2 := less_fr (A := dN D * TT D) (C := QS D) t1 (by omega) (by omega) (by omega)
  rw [fr_1 t1, fr_1 t1] at l1
  rw [(fr_N t1).1, (fr_N t1).2] at l2
  refine OUT.e ?_ (sg_727 (w := w) y3 y4 h4 hv1)
  unfold m_L_law_S686
  simp only [gk0]
  simp only [cz0]
  rw [s1, Option.bind_some, un_f, s2, Option.bind_some, un_f, show m_L_less (lN (fr (QS D) (TT D) 0)) (lN (fr (QS D) (TT D) 1)) (1 : Int64) (1 : Int64) = _ from l1, Option.bind_some, ifz (by omega), s3, Option.bind_some, un_f, s4, Option.bind_some, un_f, hv0, nI_l (by omega), show m_L_less (lN (dN D)) (1 : Int64) (lN (fr (QS D) (TT D) 0)) (lN (fr (QS D) (TT D) 1)) = _ from l2, Option.bind_some, ifz (by omega)]
theorem sg_671 (y3 y4 : Int32) {s o : Nat} (h : DK b D) (hv0 : v 0 = nI (dN D)) (hv1 : v 1 = nI (dL D)) (hs : s < dN D) (ho : o < dN D) : OUT (m_L_law_S671 y3 y4 (nI s) (nI o) (lN (fr (PS D s o) (TT D) 0)) (lN (fr (PS D s o) (TT D) 1)) b w v) v := by
  have hN := h.1.2.1
  obtain ⟨t1, t2⟩ := TT_pos h.1
  refine OUT.e ?_ (sg_686 (w := w) y3 y4 h hv0 hv1)
  unfold m_L_law_S671
  by_cases hso : s = o
  · subst hso
    rw [if_pos rfl, PS_vv h.1 hs, fr_1 t1, fr_1 t1, if_pos (cmp0 _)]
  · rw [if_neg (fun q => hso ((nI_eq (by omega) (by omega)).mp q))]
theorem sg_622 (y3 y4 : Int32) {y18 : Int32} {s o : Nat} (h : DK b D) (hv0 : v 0 = nI (dN D)) (hv1 : v 1 = nI (dL D)) (hs : s < dN D) (ho : o < dN D) (hy : y18 = 0 ∨ ((dW D).testBit s = true ∧ (dW D).testBit o = true)) : OUT (m_L_law_S622 y3 y4 (lN (fr (RR D) (TT D) 0)) (lN (fr (RR D) (TT D) 1)) (nI s) (nI o) (lN (fr (PS D s o) (TT D) 0)) (lN (fr (PS D s o) (TT D) 1)) y18 b w v) v := by
  have hD := h.1
  have hN := hD.2.1
  obtain ⟨t1, t2⟩ := TT_pos hD
  have hr := RR_le hD
  have hp := (PS_lt hD (v := s) (c := o)).2
  obtain ⟨b1, s1, h1⟩ := ka_pair h ho hs (x := 0) (Or.inl rfl)
  obtain ⟨b2, s2, h2⟩ := ka_pair h1 ho hs (x := 1) (Or.inr rfl)
  rw [PS_sy hD ho hs] at s1 s2
  have l1 := less_fr (A := PS D s o) (C := RR D) t1 (by omega) (by omega) (by omega)
  refine OUT.e ?_ (sg_671 (w := w) (s := s) (o := o) y3 y4 h2 hv0 hv1 hs ho)
  unfold m_L_law_S622
  rw [s1, Option.bind_some, un_f, if_pos (cmp0 _), s2, Option.bind_some, un_f, if_pos (cmp0 _)]
  by_cases h0 : y18 = 0
  · rw [if_pos h0]
  · rcases hy with q | ⟨q1, q2⟩
    · exact absurd q h0
    · have := PS_both hD hs ho q1 q2
      rw [if_neg h0, l1, Option.bind_some, ifz (by omega)]
theorem bz1 (c : Bool) : (bz c = (1 : Int32)) = (c = true) := by cases c <;> simp [bz]
theorem sg_556 (y3 y4 : Int32) {s : Nat} (h : DK b D) (hv0 : v 0 = nI (dN D)) (hv1 : v 1 = nI (dL D)) (hv2 : v 2 = nI (dW D)) (hs : s < dN D) : OUT (m_L_law_S556 y3 y4 (lN (fr (RR D) (TT D) 0)) (lN (fr (RR D) (TT D) 1)) (nI s) b w v) v := by
  have hD := h.1
  have hN := hD.2.1
  have hW := dW_lt7 hD
  obtain ⟨o, ho, e1⟩ := lup_e (y4 >>> ((8 : Int32) &&& 31)) (n := dN D) (by omega) (by omega)
  obtain ⟨b1, s1, h1⟩ := ka_pair h hs ho (x := 0) (Or.inl rfl)
  obtain ⟨b2, s2, h2⟩ := ka_pair h1 hs ho (x := 1) (Or.inr rfl)
  unfold m_L_law_S556
  simp only [gk0, gk2]
  simp only [cz0, cz2]
  rw [hv0, e1, Option.bind_some, s1, Option.bind_some, un_f, s2, Option.bind_some, un_f, hv2, sar_bit (by omega) (by omega), sar_bit (by omega) (by omega), lt_f, lt_f]
  simp only [bz1]
  by_cases q1 : (dW D).testBit s = true
  · rw [if_pos q1]
    by_cases q2 : (dW D).testBit o = true
    · rw [if_pos q2]
      exact sg_622 y3 y4 h2 hv0 hv1 hs ho (Or.inr ⟨q1, q2⟩)
    · rw [if_neg q2]
      exact sg_622 y3 y4 h2 hv0 hv1 hs ho (Or.inl rfl)
  · rw [if_neg q1]
    exact sg_622 y3 y4 h2 hv0 hv1 hs ho (Or.inl rfl)
theorem sg_469 (y3 y4 : Int32) (h : DK b D) (hv0 : v 0 = nI (dN D)) (hv1 : v 1 = nI (dL D)) (hv2 : v 2 = nI (dW D)) : OUT (m_L_law_S469 y3 y4 (lN (fr (RR D) (TT D) 0)) (lN (fr (RR D) (TT D) 1)) b w v) v := by
  have hD := h.1
  have hN := hD.2.1
  have hN2 := hD.1
  have hG := hD.2.2.2.2.1
  have hp7 : 2 ^ dN D ≤ 2 ^ 7 := Nat.pow_le_pow_right (by decide) hN
  obtain ⟨t1, t2⟩ := TT_pos hD
  have hr := RR_le hD
  obtain ⟨s, hs, e1⟩ := lup_e (y4 >>> ((4 : Int32) &&& 31)) (n := dN D) (by omega) (by omega)
  have s0 := ka_count3 h
  have hg : dG D ||| 2 ^ s < 2 ^ dN D := or_lt hG (Nat.pow_lt_pow_right (by decide) hs)
  obtain ⟨b1, s1, h1⟩ := ka_goals h hg
  obtain ⟨b2, s2, h2⟩ := ka_reach h1 (x := 0) (Or.inl rfl)
  obtain ⟨b3, s3, h3⟩ := ka_reach h2 (x := 1) (Or.inr rfl)
  obtain ⟨b4, w4, s4, h4⟩ := ka_joined0 h3 w
  obtain ⟨b5, s5, h5⟩ := ka_reach h4 (x := 0) (Or.inl rfl)
  obtain ⟨b6, s6, h6⟩ := ka_goals h5 (n := dG D) hG
  have h6 : DK b6 D := h6
  have s6 : m_X9_goals b5 (nI (dG D)) = some (nI (dG D ||| 2 ^ s), b6) := s6
  have hT : TT (dGo D (dG D ||| 2 ^ s)) = TT D := rfl
  have hmo := RR_goal (D := D) (2 ^ s)
  rw [hT] at s2 s3 s4 s5
  generalize RR (dGo D (dG D ||| 2 ^ s)) = R2 at *
  have l1 := less_fr (A := RR D) (C := R2) t1 (by omega) (by omega) (by omega)
  refine OUT.e ?_ (sg_556 (w := w4) (s := s) y3 y4 h6 hv0 hv1 hv2 hs)
  unfold m_L_law_S469
  simp only [gk0]
  simp only [cz0]
  rw [hv0, e1, Option.bind_some, s0, Option.bind_some, shl_1 s (by omega), fa_or, s1, Option.bind_some, un_f, if_pos rfl, s2, Option.bind_some, un_f, s3, Option.bind_some, un_f, l1, Option.bind_some, ifz (by omega), s4, Option.bind_some, un_f, un_f, s5, Option.bind_some, un_f, if_pos (cmp0 _), s6, Option.bind_some, un_f, if_pos rfl]
end G3
