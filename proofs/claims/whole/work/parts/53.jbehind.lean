section TM
variable {t : ST} {V : AN} {N L d : Nat}
theorem jhL_e (hR : repN t N L d V) (h : okA N L V) (hd : d < 12) {i j : Nat} (i10 : i < 10) (j10 : j < 10) : vLoop (m_X10_joinsBehind_L25 (nI d) (nI i) (nI j)) FUEL ((0 : Int32), t) = some (if (tP V i && tP V j && (mid V i j).isSome) = true then .inr ((1 : Int32), chM t V d i j ((mid V i j).getD 0)) else .inl t) := by
  by_cases hi : tP V i = true
  · by_cases hj : tP V j = true
    · have b0 := jhB_e hR h hd hi hj (k := 0) (by decide)
      have b1 := jhB_e hR h hd hi hj (k := 1) (by decide)
      rw [if_pos rfl] at b0
      rw [if_neg (show ¬ (1 = 0) by decide)] at b1
      rw [hi, hj, Bool.true_and, Bool.true_and]
      have b2 : m_X10_joinsBehind_L25 (nI d) (nI i) (nI j) (nI 2, t) = some (.inr (.inl t)) := by
        unfold m_X10_joinsBehind_L25
        simp only [un]
        rw [if_pos (by decide)]
      by_cases q0 : ((aA V j == aA V i || aE V j == aA V i) && fre V (aA V i) 2) = true
      · rw [if_pos q0] at b0
        have hm : mid V i j = some (aA V i) := by unfold mid; rw [if_pos q0]
        rw [hm]
        exact vl_F (fun k => (nI k, t)) 0 0 (Nat.le_refl 0) (by decide) (fun k _ hk => absurd hk (Nat.not_lt_zero k)) b0
      · rw [if_neg q0] at b0
        by_cases q1 : ((aA V j == aE V i || aE V j == aE V i) && fre V (aE V i) 2) = true
        · rw [if_pos q1] at b1
          have hm : mid V i j = some (aE V i) := by unfold mid; rw [if_neg q0, if_pos q1]
          rw [hm]
          refine vl_F (fun k => (nI k, t)) 0 1 (by decide) (by decide) (fun k _ hk => ?_) b1
          rw [show k = 0 by omega]
          exact b0
        · rw [if_neg q1] at b1
          have hm : mid V i j = none := by unfold mid; rw [if_neg q0, if_neg q1]
          rw [hm]
          refine vl_F (fun k => (nI k, t)) 0 2 (by decide) (by decide) (fun k _ hk => ?_) b2
          rcases (show k = 0 ∨ k = 1 by omega) with q | q
          · rw [q]; exact b0
          · rw [q]; exact b1
    · rw [Bool.eq_false_iff.mpr hj, Bool.and_false, Bool.false_and, if_neg (by decide)]
      refine vl_F (fun k => (nI k, t)) 0 0 (Nat.le_refl 0) (by decide) (fun k _ hk => absurd hk (Nat.not_lt_zero k)) ?_
      unfold m_X10_joinsBehind_L25
      simp only [un, lt]
      rw [if_neg (by decide), hasN_e hR h hd i10, Option.bind_some, bz_if, if_pos hi, hasN_e hR h hd j10, Option.bind_some, bz_if, if_neg hj]
  · rw [Bool.eq_false_iff.mpr hi, Bool.false_and, Bool.false_and, if_neg (by decide)]
    refine vl_F (fun k => (nI k, t)) 0 0 (Nat.le_refl 0) (by decide) (fun k _ hk => absurd hk (Nat.not_lt_zero k)) ?_
    unfold m_X10_joinsBehind_L25
    simp only [un, lt]
    rw [if_neg (by decide), hasN_e hR h hd i10, Option.bind_some, bz_if, if_neg hi]
theorem jhM_i (hR : repN t N L d V) (h : okA N L V) (hd : d < 12) {i : Nat} (hi : i < L) : vLoop (m_X10_joinsBehind_L14 (nI d) (nI i)) FUEL (nI (i + 1), t) = some (if chj V i < 10 then .inr ((1 : Int32), chM t V d i (chj V i) ((mid V i (chj V i)).getD 0)) else .inl t) := by
  have hL := h.2.1
  refine srch (p := fun j => decide (i < j) && tP V i && tP V j && (mid V i j).isSome) (R := fun j => ((1 : Int32), chM t V d i j ((mid V i j).getD 0))) L (i + 1) hL (by omega) (fun j hj => ?_) (fun j hj => ?_) (fun j hij hj hp => ?_) (fun j hij hj hp => ?_) ?_
  · show (decide (i < j) && _ && _ && _) = false
    rw [decide_eq_false (by omega)]; rfl
  · show (decide (i < j) && tP V i && tP V j && _) = false
    cases q : tP V j
    · simp
    · exact absurd (okA_10 h q).1 (by omega)
  · have hp : (decide (i < j) && tP V i && tP V j && (mid V i j).isSome) = false := hp
    rw [decide_eq_true (show i < j by omega), Bool.true_and] at hp
    unfold m_X10_joinsBehind_L14
    simp only [un, lt]
    rw [hR.2.1, if_neg (by rw [qle (by omega) (by omega)]; omega), jhL_e hR h hd (by omega) (by omega), Option.bind_some, hp, if_neg (by decide), nI_1]
    rfl
  · have hp : (decide (i < j) && tP V i && tP V j && (mid V i j).isSome) = true := hp
    rw [decide_eq_true (show i < j by omega), Bool.true_and] at hp
    unfold m_X10_joinsBehind_L14
    simp only [un, lt]
    rw [hR.2.1, if_neg (by rw [qle (by omega) (by omega)]; omega), jhL_e hR h hd (by omega) (by omega), Option.bind_some, if_pos hp]
    rfl
  · unfold m_X10_joinsBehind_L14
    simp only [un]
    rw [hR.2.1, if_pos (by rw [qle (by omega) (by omega)]; omega)]
theorem jhM_e (hR : repN t N L d V) (h : okA N L V) (hd : d < 12) : m_X10_joinsBehind t (nI d) = some (if chi V < 10 then ((1 : Int32), chM t V d (chi V) (chj V (chi V)) ((mid V (chi V) (chj V (chi V))).getD 0)) else ((0 : Int32), t)) := by
  have hL := h.2.1
  unfold m_X10_joinsBehind
  have hl : vLoop (m_X10_joinsBehind_L2 (nI d)) FUEL ((0 : Int32), t) = some (if chi V < 10 then .inr ((1 : Int32), chM t V d (chi V) (chj V (chi V)) ((mid V (chi V) (chj V (chi V))).getD 0)) else .inl t) := by
    refine srch (p := fun i => decide (chj V i < 10)) (R := fun i => ((1 : Int32), chM t V d i (chj V i) ((mid V i (chj V i)).getD 0))) L 0 hL (by omega) (fun j hj => absurd hj (Nat.not_lt_zero j)) (fun j hj => ?_) (fun j _ hj hp => ?_) (fun j _ hj hp => ?_) ?_
    · refine decide_eq_false (fun q => ?_)
      have h2 := first_t (p := fun k => decide (j < k) && tP V j && tP V k && (mid V j k).isSome) q
      have h2 : (decide (j < chj V j) && tP V j && tP V (chj V j) && (mid V j (chj V j)).isSome) = true := h2
      simp only [Bool.and_eq_true] at h2
      exact absurd (okA_10 h h2.1.1.2).1 (by omega)
    · have hp := of_decide_eq_false hp
      unfold m_X10_joinsBehind_L2
      simp only [un, lt]
      rw [hR.2.1, if_neg (by rw [qle (by omega) (by omega)]; omega), nI_1, jhM_i hR h hd hj, if_neg hp, Option.bind_some]
      rfl
    · have hp := of_decide_eq_true hp
      unfold m_X10_joinsBehind_L2
      simp only [un, lt]
      rw [hR.2.1, if_neg (by rw [qle (by omega) (by omega)]; omega), nI_1, jhM_i hR h hd hj, if_pos hp, Option.bind_some]
      rfl
    · unfold m_X10_joinsBehind_L2
      simp only [un]
      rw [hR.2.1, if_pos (by rw [qle (by omega) (by omega)]; omega)]
  rw [hl, Option.bind_some]
  by_cases q : chi V < 10
  · rw [if_pos q, if_pos q]; rfl
  · rw [if_neg q, if_neg q]; rfl
end TM
