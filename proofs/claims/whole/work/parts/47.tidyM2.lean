theorem pc_cnt : ∀ x, x < 1024 → pc x = fa_cnt (fun i => x.testBit i) 10 := by decide +kernel
theorem cnt_ge {p : Nat → Bool} {L : Nat} (h : ∀ k, L ≤ k → p k = false) : ∀ m, fa_cnt p (L + m) = fa_cnt p L
  | 0 => rfl
  | m + 1 => by
    show fa_cnt p ((L + m) + 1) = _
    rw [fa_cnt_no (h (L + m) (by omega))]
    exact cnt_ge h m
section TM
variable {t : ST} {V : AN} {N L d : Nat}
theorem lkN_e (hR : repN t N L d V) (h : okA N L V) (hd : d < 12) {v : Nat} (hv : v < 7) : m_X10_linksAt t (nI d) (nI v) = some (nI (pc (la V v))) := by
  have hL := h.2.1
  unfold m_X10_linksAt
  have hl : vLoop (m_X10_linksAt_L5 (nI d) (nI v) t) FUEL ((0 : Int32), (0 : Int32)) = some (nI (fa_cnt (fun i => (la V v).testBit i) L)) := by
    refine vl_F (fun k => (nI (fa_cnt (fun i => (la V v).testBit i) k), nI k)) 0 L (by omega) (by omega) (fun k _ hk => ?_) ?_
    · unfold m_X10_linksAt_L5
      simp only [un, lt]
      rw [hR.2.1, if_neg (by rw [qle (by omega) (by omega)]; omega), hasN_e hR h hd (by omega), Option.bind_some, bz_if]
      by_cases q : tP V k = true
      · rw [if_pos q, isAt_e hR h hd q hv, Option.bind_some, bz_if]
        by_cases q2 : (aA V k == v || aE V k == v) = true
        · rw [if_pos q2, nI_1, nI_1, fa_cnt_yes (p := fun i => (la V v).testBit i) (n := k) (by show (la V v).testBit k = true; rw [la_bit h, q, q2]; rfl)]
        · rw [if_neg q2, qad_0, nI_1, fa_cnt_no (p := fun i => (la V v).testBit i) (n := k) (by show (la V v).testBit k = false; rw [la_bit h, Bool.eq_false_iff.mpr q2, Bool.and_false])]
          rfl
      · rw [if_neg q, qad_0, nI_1, fa_cnt_no (p := fun i => (la V v).testBit i) (n := k) (by show (la V v).testBit k = false; rw [la_bit h, Bool.eq_false_iff.mpr q, Bool.false_and])]
        rfl
    · unfold m_X10_linksAt_L5
      simp only [un]
      rw [hR.2.1, if_pos (by rw [qle (by omega) (by omega)]; omega)]
  have hc := cnt_ge (p := fun i => (la V v).testBit i) (L := L) (fun k hk => by
    show (la V v).testBit k = false
    rw [la_bit h]
    cases q : tP V k
    · rfl
    · exact absurd (okA_10 h q).1 (by omega)) (10 - L)
  rw [show L + (10 - L) = 10 by omega] at hc
  rw [hl, Option.bind_some, pc_cnt _ (la_lt V v), hc]
theorem freN_e (hR : repN t N L d V) (h : okA N L V) (hd : d < 12) {v n : Nat} (hv : v < 7) (hn : n < 10) : m_X10_isFree t (nI d) (nI v) (nI n) = some (bz (fre V v n)) := by
  have hw := okA_w h
  have hpl := pc_lt (x := la V v)
  unfold m_X10_isFree fre
  dsimp only [lt]
  rw [gd_in (by omega) (by omega), nI_clamp (by omega), hR.2.2.2.1, sar_bit (by omega) (by omega), bz_if]
  by_cases q : (aW V).testBit v = true
  · rw [if_pos q, q]; rfl
  · rw [if_neg q, lkN_e hR h hd hv, Option.bind_some, Bool.eq_false_iff.mpr q]
    by_cases q2 : pc (la V v) = n
    · rw [if_pos (by rw [q2]), decide_eq_true q2]; rfl
    · rw [if_neg (by rw [qeq (by omega) (by omega)]; exact q2), decide_eq_false q2]; rfl
end TM
