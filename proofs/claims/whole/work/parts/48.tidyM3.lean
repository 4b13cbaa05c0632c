section TM
variable {t : ST} {V : AN} {N L d : Nat}
theorem dropO_e (hR : repN t N L d V) (h : okA N L V) (hd : d < 12) : m_X10_dropsOwn t (nI d) = some (if rnd V < 10 then ((1 : Int32), dM t d (aP V) (rnd V)) else ((0 : Int32), t)) := by
  have hL := h.2.1
  unfold m_X10_dropsOwn
  have hl : vLoop (m_X10_dropsOwn_L2 (nI d)) FUEL ((0 : Int32), t) = some (if rnd V < 10 then .inr ((1 : Int32), dM t d (aP V) (rnd V)) else .inl t) := by
    refine srch (p := fun i => tP V i && (aA V i == aE V i)) (R := fun i => ((1 : Int32), dM t d (aP V) i)) L 0 hL (by omega) (fun j hj => absurd hj (Nat.not_lt_zero j)) (fun j hj => ?_) (fun j _ hj hp => ?_) (fun j _ hj hp => ?_) ?_
    · show (tP V j && _) = false
      cases q : tP V j
      · rfl
      · exact absurd (okA_10 h q).1 (by omega)
    · have hp : (tP V j && (aA V j == aE V j)) = false := hp
      unfold m_X10_dropsOwn_L2
      simp only [un, lt]
      rw [hR.2.1, if_neg (by rw [qle (by omega) (by omega)]; omega), hasN_e hR h hd (by omega), Option.bind_some, bz_if]
      cases q : tP V j
      · rw [if_neg (by decide), nI_1]
      · rw [q, Bool.true_and, beq_eq_false_iff_ne] at hp
        obtain ⟨r1, r2, -⟩ := hR.2.2.2.2 j q
        obtain ⟨n1, n2⟩ := N31 h q
        rw [if_pos rfl, row_e, gd_in (by omega) (by omega), gd_in (by omega) (by omega), nI_clamp (by omega), r1, r2, if_neg (by rw [qeq n1 n2]; exact hp), nI_1]
    · have hp : (tP V j && (aA V j == aE V j)) = true := hp
      rw [Bool.and_eq_true, beq_iff_eq] at hp
      obtain ⟨r1, r2, -⟩ := hR.2.2.2.2 j hp.1
      unfold m_X10_dropsOwn_L2
      simp only [un, lt]
      rw [hR.2.1, if_neg (by rw [qle (by omega) (by omega)]; omega), hasN_e hR h hd (by omega), hp.1, Option.bind_some, if_neg (by decide), row_e, gd_in (by omega) (by omega), gd_in (by omega) (by omega), nI_clamp (by omega), r1, r2, if_pos (by rw [hp.2]), drp_e hR hd (by omega), Option.bind_some]
    · unfold m_X10_dropsOwn_L2
      simp only [un]
      rw [hR.2.1, if_pos (by rw [qle (by omega) (by omega)]; omega)]
  rw [hl, Option.bind_some]
  by_cases q : rnd V < 10
  · rw [if_pos q, if_pos q]; rfl
  · rw [if_neg q, if_neg q]; rfl
end TM
section TM2
variable {t : ST} {V : AN} {N L d : Nat}
theorem N7 (h : okA N L V) {i : Nat} (hi : tP V i = true) : aA V i < 7 ∧ aE V i < 7 := by
  obtain ⟨a1, a2, -, -⟩ := h.2.2.2.2.2.2 i hi
  have := h.1
  exact ⟨by omega, by omega⟩
theorem dropE_e (hR : repN t N L d V) (h : okA N L V) (hd : d < 12) : m_X10_dropsEnds t (nI d) = some (if edg V < 10 then ((1 : Int32), dM t d (aP V) (edg V)) else ((0 : Int32), t)) := by
  have hL := h.2.1
  unfold m_X10_dropsEnds
  have hl : vLoop (m_X10_dropsEnds_L2 (nI d)) FUEL ((0 : Int32), t) = some (if edg V < 10 then .inr ((1 : Int32), dM t d (aP V) (edg V)) else .inl t) := by
    refine srch (p := fun i => tP V i && (fre V (aA V i) 1 || fre V (aE V i) 1)) (R := fun i => ((1 : Int32), dM t d (aP V) i)) L 0 hL (by omega) (fun j hj => absurd hj (Nat.not_lt_zero j)) (fun j hj => ?_) (fun j _ hj hp => ?_) (fun j _ hj hp => ?_) ?_
    · show (tP V j && _) = false
      cases q : tP V j
      · rfl
      · exact absurd (okA_10 h q).1 (by omega)
    · have hp : (tP V j && (fre V (aA V j) 1 || fre V (aE V j) 1)) = false := hp
      unfold m_X10_dropsEnds_L2
      simp only [un, lt]
      rw [hR.2.1, if_neg (by rw [qle (by omega) (by omega)]; omega), hasN_e hR h hd (by omega), Option.bind_some, bz_if]
      cases q : tP V j
      · rw [if_neg (by decide), nI_1]
      · rw [q, Bool.true_and, Bool.or_eq_false_iff] at hp
        obtain ⟨r1, r2, -⟩ := hR.2.2.2.2 j q
        obtain ⟨n1, n2⟩ := N7 h q
        rw [if_pos rfl, row_e, gd_in (by omega) (by omega), gd_in (by omega) (by omega), nI_clamp (by omega), r1, r2, show (1 : Int32) = nI 1 from rfl, freN_e hR h hd n1 (by omega), Option.bind_some, bz_if, hp.1, if_neg (by decide), freN_e hR h hd n2 (by omega), Option.bind_some, bz_if, hp.2, if_neg (by decide), Option.bind_some]
        exact congrArg (fun x => some (Sum.inl (x, t))) (nI_1 j)
    · have hp : (tP V j && (fre V (aA V j) 1 || fre V (aE V j) 1)) = true := hp
      rw [Bool.and_eq_true, Bool.or_eq_true] at hp
      obtain ⟨r1, r2, -⟩ := hR.2.2.2.2 j hp.1
      obtain ⟨n1, n2⟩ := N7 h hp.1
      unfold m_X10_dropsEnds_L2
      simp only [un, lt]
      rw [hR.2.1, if_neg (by rw [qle (by omega) (by omega)]; omega), hasN_e hR h hd (by omega), hp.1, Option.bind_some, if_neg (by decide), row_e, gd_in (by omega) (by omega), gd_in (by omega) (by omega), nI_clamp (by omega), r1, r2, show (1 : Int32) = nI 1 from rfl, freN_e hR h hd n1 (by omega), Option.bind_some, bz_if, freN_e hR h hd n2 (by omega)]
      by_cases q1 : fre V (aA V j) 1 = true
      · rw [if_pos q1, Option.bind_some]
        show Option.bind (m_X10_drops t (nI d) (nI j)) _ = _
        rw [drp_e hR hd (by omega), Option.bind_some]
      · have q2 : fre V (aE V j) 1 = true := hp.2.resolve_left q1
        rw [if_neg q1, Option.bind_some, bz_if, if_pos q2, Option.bind_some]
        show Option.bind (m_X10_drops t (nI d) (nI j)) _ = _
        rw [drp_e hR hd (by omega), Option.bind_some]
    · unfold m_X10_dropsEnds_L2
      simp only [un]
      rw [hR.2.1, if_pos (by rw [qle (by omega) (by omega)]; omega)]
  rw [hl, Option.bind_some]
  by_cases q : edg V < 10
  · rw [if_pos q, if_pos q]; rfl
  · rw [if_neg q, if_neg q]; rfl
end TM2
