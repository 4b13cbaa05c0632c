theorem ask_n {n : Nat} (hI : askC n) : askC (n + 1) := by
  intro V N L d S P T b w h hR t0 t1 hd hn hP hdn
  have hpc := okA_p h
  obtain ⟨t2, e1, hR2, e2⟩ := ti_e hR h
  have hp10 : pc (aP V) ≤ 10 := by omega
  obtain ⟨k1, k2, k3, k4, k5, k6⟩ := tdy_k 10 V h hp10
  rw [m_X0_ask, ak]
  simp only [nI_1, nI_clamp (n := d) (by omega)]
  rw [if_neg (nI_pos (by omega)), if_pos (by rw [qlt_11 (by omega)]; omega), gd_i2 (by omega) (by omega), show (K3 b S P T).1 4 + 1 = nI (S + 1) from nI_1 S, K3_4, lt_f, K3_m (b := b) (S := S + 1) (P := P) (T := T) (d := d) (by omega) (by omega), lt_f, K3_5, lt_f, e1, Option.bind_some, un_f, lt_f, show (K3 b (S + 1) (max P (d + 1)) T).1 6 + nI (tdy 10 V).1 = nI (T + (tdy 10 V).1) from nI_add _ _, K3_6, lt_f, vu_s, se_t hR2 k1, Option.bind_some, un_f, lt_f, bz_if]
  generalize hU : (tdy 10 V).2 = U at *
  generalize hk : (tdy 10 V).1 = k at *
  have hrd := red_eq (a := rZ V) (b := pY V) (c := rZ U) (d := pY U) (pY_pos h) (pY_pos k1) k2
  have hr1 : rA (rZ V) (pY V) = rA (rZ U) (pY U) := hrd.1
  have hr2 : rB (rZ V) (pY V) = rB (rZ U) (pY U) := hrd.2
  rw [hr1, hr2]
  by_cases hs : stl U = true
  · rw [if_pos hs, if_pos hs]
    refine ⟨_, rfl, ?_, ?_, fun j hj => ?_⟩
    · rw [vu_s]
      by_cases h1 : pc (aW U) = 1
      · rw [if_pos h1, one_W k1 h1, (rA_1 (pY_pos k1)).1]; rfl
      · have hz : rZ U = 0 := by
          unfold stl at hs
          rw [decide_eq_false h1, Bool.false_or, List.any_eq_true] at hs
          obtain ⟨v, v1, v2⟩ := hs
          rw [Bool.and_eq_true, beq_iff_eq] at v2
          exact zero_W k1 h1 (List.mem_range.mp v1) v2.1 v2.2
        rw [if_neg h1, e2, t0, hz, (rA_0 (pY_pos k1)).1]
    · rw [vu_s]
      by_cases h1 : pc (aW U) = 1
      · rw [if_pos h1, one_W k1 h1, (rA_1 (pY_pos k1)).2]; rfl
      · have hz : rZ U = 0 := by
          unfold stl at hs
          rw [decide_eq_false h1, Bool.false_or, List.any_eq_true] at hs
          obtain ⟨v, v1, v2⟩ := hs
          rw [Bool.and_eq_true, beq_iff_eq] at v2
          exact zero_W k1 h1 (List.mem_range.mp v1) v2.1 v2.2
        rw [if_neg h1, e2, t1, hz, (rA_0 (pY_pos k1)).2]
    · rw [vu_n _ _ (by omega), vu_n _ _ (by omega)]
  · rw [if_neg hs, if_neg hs]
    have h1 : pc (aW U) ≠ 1 := fun q => hs (by unfold stl; rw [decide_eq_true q]; rfl)
    have hp0 : aP U ≠ 0 := fun q => hs (stl_0 k1 q)
    obtain ⟨l1, l2, l3⟩ := ll_e hR2 k1 hp0
    have hpu : pc (aP U) ≠ 0 := fun q => hp0 ((pc_0 _ (okA_p k1)).mp q)
    rw [if_neg h1, if_pos (by rw [qlt_11 (by omega)]; omega), lt_f, nI_clamp (n := d + 1) (by omega), gd_i2 (by omega) (by omega), vu_s, l1, Option.bind_some, cu_e hR2 k1 l2, Option.bind_some]
    generalize hi : tz (aP U) = i at *
    have hnr : ¬ rnd U < 10 := fun q => by
      unfold stp at k6
      rw [if_pos q] at k6
      cases k6
    have hne := no_rnd hnr l2 l3
    have hcj := cut_join k1 l2 hne
    have hle := rZ_le k1
    obtain ⟨w1, a1, a2, a3, a4, a5⟩ := up_s hI (S := S + 1) (P := max P (d + 1)) (T := T + k) (b := b) (w := va_up (va_up w d t2) d t2) (d := d) (R1 := 0) k1 l2 hne (by rw [vu_s]; exact hR2) (by rw [vu_s, e2, (rA_0 (pY_pos k1)).1]; exact t0) (by rw [vu_s, e2, (rA_0 (pY_pos k1)).2]; exact t1) (by omega) (by omega) (by omega) (by omega) (by omega)
    rw [Nat.zero_add] at a3 a4
    have hdp : (if aX U i = 0 then (0, 0, 0) else ak n (cA U i) (d + 1)).2.1 ≤ 12 := by
      have := ak_d n (cA U i) (d + 1)
      split
      · exact Nat.zero_le _
      · omega
    obtain ⟨w2, b1, b2, b3, b4⟩ := dn_s hI (S := S + 1 + (if aX U i = 0 then (0, 0, 0) else ak n (cA U i) (d + 1)).1) (P := max (max P (d + 1)) (if aX U i = 0 then (0, 0, 0) else ak n (cA U i) (d + 1)).2.1) (T := T + k + (if aX U i = 0 then (0, 0, 0) else ak n (cA U i) (d + 1)).2.2) (b := b) (w := w1) (d := d) (R1 := aX U i * rZ (cA U i)) k1 l2 a2 a3 a4 (by omega) (by omega) (by omega) (by omega) (by omega)
    have key : Option.bind (upP n (K3 b (S + 1) (max P (d + 1)) (T + k)) (va_up (va_up w d t2) d t2) d (d + 1) (nI i) (if aX U i = 0 then 0 else 1)) (fun q => un q (fun b29 w30 => Option.bind (m_X8_canBeDown (w30 d) (nI i)) (fun r32 => dnP n b29 w30 d (d + 1) (nI i) r32))) = some (K3 b (S + 1 + (if aX U i = 0 then (0, 0, 0) else ak n (cA U i) (d + 1)).1 + (if aX U i = aY U i then (0, 0, 0) else ak n (dA1 U i) (d + 1)).1) (max (max (max P (d + 1)) (if aX U i = 0 then (0, 0, 0) else ak n (cA U i) (d + 1)).2.1) (if aX U i = aY U i then (0, 0, 0) else ak n (dA1 U i) (d + 1)).2.1) (T + k + (if aX U i = 0 then (0, 0, 0) else ak n (cA U i) (d + 1)).2.2 + (if aX U i = aY U i then (0, 0, 0) else ak n (dA1 U i) (d + 1)).2.2), w2) := by
      rw [a1, Option.bind_some, un_f, cdn_e a2 k1 l2, Option.bind_some]
      exact b1
    unfold upP dnP at key
    rw [vu_s] at key
    rw [← hcj] at b2 b3
    refine ⟨w2, key.trans ?_, b2, b3, fun j hj => ?_⟩
    · generalize (if aX U i = 0 then (0, 0, 0) else ak n (cA U i) (d + 1)) = X1
      generalize (if aX U i = aY U i then (0, 0, 0) else ak n (dA1 U i) (d + 1)) = X2
      rw [show S + (1 + X1.1 + X2.1) = S + 1 + X1.1 + X2.1 by omega, show max P (max (d + 1) (max X1.2.1 X2.2.1)) = max (max (max P (d + 1)) X1.2.1) X2.2.1 by omega, show T + (k + X1.2.2 + X2.2.2) = T + k + X1.2.2 + X2.2.2 by omega]
    · rw [b4 j hj, a5 j hj, vu_n _ _ (by omega), vu_n _ _ (by omega)]
theorem ask_e : ∀ n, askC n := fun n => by
  induction n with
  | zero => intro V N L d S P T b w h hR t0 t1 hd hn hP; exact absurd hn (Nat.not_lt_zero _)
  | succ n ih => exact ask_n ih
