theorem any_s (p : Nat → Bool) (k : Nat) : ((List.range (k + 1)).any p) = (((List.range k).any p) || p k) := by
  rw [List.range_succ, List.any_append]
  simp
section TM
variable {t : ST} {V : AN} {N L d : Nat}
theorem isA_e (hR : repN t N L d V) (h : okA N L V) (hd : d < 12) : m_X10_isAnswered t (nI d) = some (bz (stl V)) := by
  have hw := okA_w h
  have h7 := h.1
  have hpc := pc_lt (x := aW V)
  unfold m_X10_isAnswered
  rw [gd_in (by omega) (by omega), nI_clamp (by omega), hR.2.2.2.1, bits_e (by omega), Option.bind_some]
  have hb0 : (if nI (pc (aW V)) = (1 : Int32) then some (1 : Int32) else some (0 : Int32)) = some (bz (decide (pc (aW V) = 1))) := by
    by_cases q : pc (aW V) = 1
    · rw [if_pos (by rw [q]; rfl), decide_eq_true q]; rfl
    · rw [if_neg (by rw [qeq_1 (by omega)]; exact q), decide_eq_false q]; rfl
  rw [hb0, Option.bind_some]
  have hs : stl V = (decide (pc (aW V) = 1) || (List.range N).any fun v => (aW V).testBit v && (la V v == 0)) := by
    unfold stl
    congr 1
    rw [Bool.eq_iff_iff, List.any_eq_true, List.any_eq_true]
    constructor
    · rintro ⟨v, v1, v2⟩
      refine ⟨v, List.mem_range.mpr ?_, v2⟩
      rcases Nat.lt_or_ge v N with q | q
      · exact q
      · rw [bit_ge h.2.2.2.1 q] at v2; cases v2
    · rintro ⟨v, v1, v2⟩
      exact ⟨v, List.mem_range.mpr (by have := List.mem_range.mp v1; omega), v2⟩
  rw [hs]
  generalize decide (pc (aW V) = 1) = b0
  have hl : vLoop (m_X10_isAnswered_L21 (nI d) t) FUEL (bz b0, (0 : Int32)) = some (bz (b0 || (List.range N).any fun v => (aW V).testBit v && (la V v == 0))) := by
    have hst : (bz b0, (0 : Int32)) = (fun k => (bz (b0 || (List.range k).any fun v => (aW V).testBit v && (la V v == 0)), nI k)) 0 := by
      show _ = (bz (b0 || false), nI 0)
      rw [Bool.or_false]; rfl
    rw [hst]
    refine vl_F (fun k => (bz (b0 || (List.range k).any fun v => (aW V).testBit v && (la V v == 0)), nI k)) 0 N (by omega) (by omega) (fun k _ hk => ?_) ?_
    · unfold m_X10_isAnswered_L21
      simp only [un, lt]
      rw [hR.1, if_neg (by rw [qle (by omega) (by omega)]; omega), any_s, bz_if, gd_in (by omega) (by omega), nI_clamp (by omega), hR.2.2.2.1, sar_bit (by omega) (by omega), nI_1]
      generalize ((List.range k).any fun v => (aW V).testBit v && (la V v == 0)) = b1
      cases hb : (b0 || b1)
      · rw [if_neg (by decide)]
        have hb := Bool.or_eq_false_iff.mp hb
        rw [hb.1, hb.2, Bool.false_or, Bool.false_or]
        by_cases q1 : (aW V).testBit k = true
        · rw [if_pos (by rw [q1]; rfl), lkN_e hR h hd (by omega), Option.bind_some, q1, Bool.true_and]
          have hl2 := pc_lt (x := la V k)
          have h0 := pc_0 _ (la_lt V k)
          by_cases q2 : la V k = 0
          · rw [if_pos (by rw [h0.mpr q2]; rfl), beq_iff_eq.mpr q2]; rfl
          · rw [if_neg (by rw [qeq_0 (by omega), h0]; exact q2), beq_eq_false_iff_ne.mpr q2]; rfl
        · rw [if_neg (by rw [Bool.eq_false_iff.mpr q1]; decide), Bool.eq_false_iff.mpr q1]; rfl
      · rw [if_pos rfl, ← Bool.or_assoc, hb]; rfl
    · unfold m_X10_isAnswered_L21
      simp only [un]
      rw [hR.1, if_pos (by rw [qle (by omega) (by omega)]; omega)]
  rw [hl, Option.bind_some]
  generalize (b0 || (List.range N).any fun v => (aW V).testBit v && (la V v == 0)) = b
  cases b <;> rfl
theorem fst_e (hR : repN t N L d V) (h : okA N L V) (hd : d < 12) (hp : aP V ≠ 0) : m_X10_first t (nI d) = some (nI (tz (aP V))) := by
  have hpp := okA_p h
  obtain ⟨t1, t2, t3⟩ := tz_10 (aP V) hpp (by omega)
  unfold m_X10_first
  have hl : vLoop (m_X10_first_L2 (nI d) t) FUEL (0 : Int32) = some (nI (tz (aP V))) := by
    refine vl_F (fun k => nI k) 0 (tz (aP V)) (by omega) (by omega) (fun k _ hk => ?_) ?_
    · unfold m_X10_first_L2
      simp only [lt]
      rw [hasN_e hR h hd (by omega), Option.bind_some, bz_if, if_neg (by unfold tP; rw [t3 k hk]; decide), nI_1]
    · unfold m_X10_first_L2
      simp only [lt]
      rw [hasN_e hR h hd t1, Option.bind_some, bz_if, if_pos (show tP V (tz (aP V)) = true from t2)]
  rw [hl, Option.bind_some]
end TM
