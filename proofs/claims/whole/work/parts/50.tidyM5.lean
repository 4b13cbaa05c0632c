section TM
variable {t : ST} {V : AN} {N L d : Nat}
theorem besN_e (hR : repN t N L d V) (h : okA N L V) (hd : d < 12) {i j : Nat} (hi : tP V i = true) (hj : tP V j = true) (hne : aA V j ≠ aE V j) : m_X10_isBeside t (nI d) (nI i) (nI j) = some (bz (sam V i j)) := by
  obtain ⟨-, j10⟩ := okA_10 h hj
  obtain ⟨r1, r2, r3⟩ := hR.2.2.2.2 j hj
  obtain ⟨n1, n2⟩ := N7 h hj
  unfold m_X10_isBeside
  rw [row_e]
  dsimp only [lt]
  rw [gd_in (by omega) (by omega), gd_in (by omega) (by omega), nI_clamp (by omega), r1, r2, isAt_e hR h hd hi n1, Option.bind_some, isAt_e hR h hd hi n2, Option.bind_some, bz_if, bz_if]
  have hs : sam V i j = ((aA V i == aA V j || aE V i == aA V j) && (aA V i == aE V j || aE V i == aE V j)) := by
    unfold sam
    rw [Bool.eq_iff_iff]
    simp only [Bool.or_eq_true, Bool.and_eq_true, beq_iff_eq]
    constructor
    · rintro (⟨q1, q2⟩ | ⟨q1, q2⟩)
      · exact ⟨Or.inl q1, Or.inr q2⟩
      · exact ⟨Or.inr q2, Or.inl q1⟩
    · rintro ⟨q1 | q1, q2 | q2⟩
      · exact absurd (q1.symm.trans q2) hne
      · exact Or.inl ⟨q1, q2⟩
      · exact Or.inr ⟨q2, q1⟩
      · exact absurd (q1.symm.trans q2) hne
  rw [hs]
  cases (aA V i == aA V j || aE V i == aA V j)
  · rfl
  · cases (aA V i == aE V j || aE V i == aE V j) <;> rfl
theorem drp_p {P : Nat} (hP : t.2.2.1 12 d = nI P) (hd : d < 12) {i : Nat} (hi : i < 10) : m_X10_drops t (nI d) (nI i) = some (dM t d P i) := by
  unfold m_X10_drops
  dsimp only [lt]
  rw [gd_in (by omega) (by omega), gd_in (by omega) (by omega), nI_clamp (by omega), hP, shl_1 i (by omega), wo_i]
  rfl
def kI (a b : Int32) : Int32 := if a = 1 then 1 else if b = 1 then 1 else if a = 0 then if b = 0 then 0 else 2 else 2
theorem kI_e : ∀ a, a ≤ 2 → ∀ b, b ≤ 2 → kI (nI a) (nI b) = nI (kdj a b) := by decide +kernel
def twM (t : ST) (V : AN) (d i j : Nat) : ST := dM (wA t 11 (10 * d + i) (nI (kdj (kd (aX V i) (aY V i)) (kd (aX V j) (aY V j))))) d (aP V) j
theorem twM_R (hR : repN t N L d V) (h : okA N L V) {i j : Nat} (hi : tP V i = true) (hj : tP V j = true) : repN (twM t V d i j) N L d (twA V i j) := by
  refine ⟨hR.1, hR.2.1, if_pos rfl, hR.2.2.2.1, fun k hk => ?_⟩
  rw [twA_f] at hk
  obtain ⟨r1, r2, r3⟩ := hR.2.2.2.2 k (wi_t hk).1
  obtain ⟨-, -, yi, xi⟩ := h.2.2.2.2.2.2 i hi
  obtain ⟨-, -, yj, xj⟩ := h.2.2.2.2.2.2 j hj
  refine ⟨r1, r2, ?_⟩
  show (if 10 * d + k = 10 * d + i then _ else _) = nI (kd (va_up (aX V) i _ k) (va_up (aY V) i _ k))
  unfold va_up
  by_cases q : k = i
  · rw [if_pos (by omega), if_pos q, if_pos q, kd_tw yi xi yj xj]
  · rw [if_neg (by omega), if_neg q, if_neg q]; exact r3
theorem jbM_i (hR : repN t N L d V) (h : okA N L V) (hd : d < 12) (hn : ¬ rnd V < 10) {i : Nat} (hi : i < L) : vLoop (m_X10_joinsBeside_L14 (nI d) (nI i)) FUEL (nI (i + 1), t) = some (if twj V i < 10 then .inr ((1 : Int32), twM t V d i (twj V i)) else .inl t) := by
  have hL := h.2.1
  refine srch (p := fun j => decide (i < j) && tP V i && tP V j && sam V i j) (R := fun j => ((1 : Int32), twM t V d i j)) L (i + 1) hL (by omega) (fun j hj => ?_) (fun j hj => ?_) (fun j hij hj hp => ?_) (fun j hij hj hp => ?_) ?_
  · show (decide (i < j) && _ && _ && _) = false
    rw [decide_eq_false (by omega)]; rfl
  · show (decide (i < j) && tP V i && tP V j && _) = false
    cases q : tP V j
    · simp
    · exact absurd (okA_10 h q).1 (by omega)
  · have hp : (decide (i < j) && tP V i && tP V j && sam V i j) = false := hp
    rw [decide_eq_true (show i < j by omega), Bool.true_and] at hp
    unfold m_X10_joinsBeside_L14
    simp only [un, lt]
    rw [hR.2.1, if_neg (by rw [qle (by omega) (by omega)]; omega), hasN_e hR h hd (by omega), Option.bind_some, bz_if, hasN_e hR h hd (by omega), Option.bind_some, bz_if, nI_1]
    cases q1 : tP V i
    · rw [if_neg (by decide)]
    · cases q2 : tP V j
      · rw [if_pos rfl, if_neg (by decide)]
      · rw [q1, q2, Bool.true_and, Bool.true_and] at hp
        rw [if_pos rfl, if_pos rfl, besN_e hR h hd q1 q2 (no_rnd hn q2 (by omega)), Option.bind_some, bz_if, hp, if_neg (by decide)]
  · have hp : (decide (i < j) && tP V i && tP V j && sam V i j) = true := hp
    rw [decide_eq_true (show i < j by omega), Bool.true_and] at hp
    simp only [Bool.and_eq_true] at hp
    obtain ⟨⟨q1, q2⟩, q3⟩ := hp
    obtain ⟨-, -, r3⟩ := hR.2.2.2.2 i q1
    obtain ⟨-, -, r4⟩ := hR.2.2.2.2 j q2
    unfold m_X10_joinsBeside_L14
    simp only [un, lt]
    rw [hR.2.1, if_neg (by rw [qle (by omega) (by omega)]; omega), hasN_e hR h hd (by omega), Option.bind_some, bz_if, if_pos q1, hasN_e hR h hd (by omega), Option.bind_some, bz_if, if_pos q2, besN_e hR h hd q1 q2 (no_rnd hn q2 (by omega)), Option.bind_some, bz_if, if_pos q3]
    simp only [row_e]
    rw [gd_in (by omega) (by omega), gd_in (by omega) (by omega), nI_clamp (n := 10 * d + i) (by omega), nI_clamp (n := 10 * d + j) (by omega), r3, r4]
    have hk : (if nI (kd (aX V i) (aY V i)) = (1 : Int32) then some (1 : Int32) else if nI (kd (aX V j) (aY V j)) = (1 : Int32) then some (1 : Int32) else if nI (kd (aX V i) (aY V i)) = 0 then if nI (kd (aX V j) (aY V j)) = 0 then some (0 : Int32) else some (2 : Int32) else some (2 : Int32)) = some (kI (nI (kd (aX V i) (aY V i))) (nI (kd (aX V j) (aY V j)))) := by
      unfold kI
      split
      · rfl
      · split
        · rfl
        · split
          · split <;> rfl
          · rfl
    rw [hk, Option.bind_some, kI_e _ (kd_le _ _) _ (kd_le _ _), gd_i2 (by omega) (by omega)]
    rw [drp_p (P := aP V) (show (wA t 11 (10 * d + i) _).2.2.1 12 d = _ from hR.2.2.1) hd (by omega), Option.bind_some]
    rfl
  · unfold m_X10_joinsBeside_L14
    simp only [un]
    rw [hR.2.1, if_pos (by rw [qle (by omega) (by omega)]; omega)]
theorem jbM_e (hR : repN t N L d V) (h : okA N L V) (hd : d < 12) (hn : ¬ rnd V < 10) : m_X10_joinsBeside t (nI d) = some (if twi V < 10 then ((1 : Int32), twM t V d (twi V) (twj V (twi V))) else ((0 : Int32), t)) := by
  have hL := h.2.1
  unfold m_X10_joinsBeside
  have hl : vLoop (m_X10_joinsBeside_L2 (nI d)) FUEL ((0 : Int32), t) = some (if twi V < 10 then .inr ((1 : Int32), twM t V d (twi V) (twj V (twi V))) else .inl t) := by
    refine srch (p := fun i => decide (twj V i < 10)) (R := fun i => ((1 : Int32), twM t V d i (twj V i))) L 0 hL (by omega) (fun j hj => absurd hj (Nat.not_lt_zero j)) (fun j hj => ?_) (fun j _ hj hp => ?_) (fun j _ hj hp => ?_) ?_
    · refine decide_eq_false (fun q => ?_)
      have h2 := first_t (p := fun k => decide (j < k) && tP V j && tP V k && sam V j k) q
      have h2 : (decide (j < twj V j) && tP V j && tP V (twj V j) && sam V j (twj V j)) = true := h2
      simp only [Bool.and_eq_true] at h2
      exact absurd (okA_10 h h2.1.1.2).1 (by omega)
    · have hp := of_decide_eq_false hp
      unfold m_X10_joinsBeside_L2
      simp only [un, lt]
      rw [hR.2.1, if_neg (by rw [qle (by omega) (by omega)]; omega), nI_1, jbM_i hR h hd hn hj, if_neg hp, Option.bind_some]
      rfl
    · have hp := of_decide_eq_true hp
      unfold m_X10_joinsBeside_L2
      simp only [un, lt]
      rw [hR.2.1, if_neg (by rw [qle (by omega) (by omega)]; omega), nI_1, jbM_i hR h hd hn hj, if_pos hp, Option.bind_some]
      rfl
    · unfold m_X10_joinsBeside_L2
      simp only [un]
      rw [hR.2.1, if_pos (by rw [qle (by omega) (by omega)]; omega)]
  rw [hl, Option.bind_some]
  by_cases q : twi V < 10
  · rw [if_pos q, if_pos q]; rfl
  · rw [if_neg q, if_neg q]; rfl
end TM
