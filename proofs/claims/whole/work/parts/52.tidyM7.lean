section TM
variable {t : ST} {V : AN} {N L d : Nat}
/-- one end of i looked at: does j meet it there, and nothing else -/
theorem jhB_e (hR : repN t N L d V) (h : okA N L V) (hd : d < 12) {i j k : Nat} (hi : tP V i = true) (hj : tP V j = true) (hk : k < 2) : m_X10_joinsBehind_L25 (nI d) (nI i) (nI j) (nI k, t) = some (if ((aA V j == (if k = 0 then aA V i else aE V i) || aE V j == (if k = 0 then aA V i else aE V i)) && fre V (if k = 0 then aA V i else aE V i) 2) = true then .inr (.inr ((1 : Int32), chM t V d i j (if k = 0 then aA V i else aE V i))) else .inl (nI (k + 1), t)) := by
  obtain ⟨-, i10⟩ := okA_10 h hi
  obtain ⟨-, j10⟩ := okA_10 h hj
  obtain ⟨r1, r2, r3⟩ := hR.2.2.2.2 i hi
  obtain ⟨-, -, r4⟩ := hR.2.2.2.2 j hj
  obtain ⟨n1, n2⟩ := N7 h hi
  unfold m_X10_joinsBehind_L25
  simp only [un, lt]
  rw [if_neg (by rw [qle_2 (by omega)]; omega), hasN_e hR h hd i10, Option.bind_some, bz_if, if_pos hi, hasN_e hR h hd j10, Option.bind_some, bz_if, if_pos hj]
  simp only [row_e, gd_in (show 10 * d + i < 120 by omega) (show (120 : Nat) < 2 ^ 31 by decide), gd_in (show 10 * d + j < 120 by omega) (show (120 : Nat) < 2 ^ 31 by decide), nI_clamp (show 10 * d + i < 2 ^ 31 by omega), nI_clamp (show 10 * d + j < 2 ^ 31 by omega), gd_i2 (show 10 * d + i < 120 by omega) (show (120 : Nat) < 2 ^ 31 by decide), gd_i2 (show 10 * d + j < 120 by omega) (show (120 : Nat) < 2 ^ 31 by decide)]
  rw [r1, r2, r3, r4]
  have he : (if nI k = 0 then some (nI (aA V i)) else some (nI (aE V i))) = some (nI (if k = 0 then aA V i else aE V i)) := by
    by_cases q : k = 0
    · rw [if_pos (by rw [q]; rfl), if_pos q]
    · rw [if_neg (by rw [qeq_0 (by omega)]; exact q), if_neg q]
  have hs : (if k = 0 then aA V i else aE V i) < 7 := by split <;> assumption
  rw [he, Option.bind_some]
  generalize (if k = 0 then aA V i else aE V i) = s at hs ⊢
  rw [isAt_e hR h hd hj hs, Option.bind_some, bz_if, show (2 : Int32) = nI 2 from rfl, freN_e hR h hd hs (by omega)]
  by_cases q1 : (aA V j == s || aE V j == s) = true
  · rw [if_pos q1, Option.bind_some, bz_if]
    by_cases q2 : fre V s 2 = true
    · have hb : ((aA V j == s || aE V j == s) && fre V s 2) = true := by rw [q1, q2]; rfl
      rw [if_pos q2, othN_e hR h hd hi hs, Option.bind_some, othN_e hR h hd hj hs, Option.bind_some, if_pos hb]
      have hk2 : (if nI (kd (aX V i) (aY V i)) = 0 then some (0 : Int32) else if nI (kd (aX V j) (aY V j)) = 0 then some (0 : Int32) else if nI (kd (aX V i) (aY V i)) = (1 : Int32) then if nI (kd (aX V j) (aY V j)) = (1 : Int32) then some (1 : Int32) else some (nI 2) else some (nI 2)) = some (kX (nI (kd (aX V i) (aY V i))) (nI (kd (aX V j) (aY V j)))) := by
        unfold kX
        split
        · rfl
        · split
          · rfl
          · split
            · split <;> rfl
            · rfl
      rw [hk2, Option.bind_some, kX_e _ (kd_le _ _) _ (kd_le _ _), drp_p (P := aP V) (show (wA (wA (wA t 9 _ _) 10 _ _) 11 _ _).2.2.1 12 d = _ from hR.2.2.1) hd j10, Option.bind_some]
      rfl
    · rw [if_neg q2, if_neg (by rw [Bool.eq_false_iff.mpr q2, Bool.and_false]; decide), nI_1]
  · rw [if_neg q1, if_neg (by rw [Bool.eq_false_iff.mpr q1, Bool.false_and]; decide), nI_1]
end TM
