/-! the class's cutting from the first net -/
def aV (D : ND) : AN := ((2 ^ dL D - 1, dW D), dA D, dE D, uP D, wP D)
theorem aV_t (D : ND) (k : Nat) : tP (aV D) k = decide (k < dL D) := by
  show (2 ^ dL D - 1).testBit k = _
  rw [Nat.testBit_two_pow_sub_one]
section AV
variable {b : ST} {D : ND}
theorem ta_e (hC : repC b D) (hD : okD D) (t : ST) : ∃ t2, m_X8_takeAll t b = some t2 ∧ repT t2 (aV D) ∧ t2.2.1 0 = lN 0 ∧ t2.2.1 1 = lN 1 := by
  have h10 := hD.2.2.1
  unfold m_X8_takeAll m_X8_answer
  rw [al_e hC hD, Option.bind_some, wa_e hC hD]
  dsimp only [lt]
  rw [Option.bind_some]
  obtain ⟨e, he, hQ⟩ := vl_totF (B := m_X8_takeAll_L18 b) (fun c st => ∃ k s, k ≤ dL D ∧ c = 10 - k ∧ st = (nI k, s) ∧ s.1 0 = nI (2 ^ dL D - 1) ∧ s.1 1 = nI (dW D) ∧ ∀ j, j < k → s.2.2.1 0 j = nI (dA D j) ∧ s.2.2.1 1 j = nI (dE D j) ∧ s.2.2.2 0 j = lN (uP D j) ∧ s.2.2.2 1 j = lN (wP D j)) (fun s => repT s (aV D)) (by
    rintro c st ⟨k, s, hk, rfl, rfl, e0, e1, hc⟩
    unfold m_X8_takeAll_L18
    simp only [un, lt]
    have hl : m_X2_linkCount b = some (nI (dL D)) := by rw [← hC.2.1]; rfl
    rw [hl, Option.bind_some]
    by_cases hkl : k = dL D
    · left
      rw [if_pos (by rw [qle (by omega) (by omega)]; omega)]
      refine ⟨_, rfl, e0, e1, fun j hj => ?_⟩
      rw [aV_t] at hj
      exact hc j (by have := of_decide_eq_true hj; omega)
    · right
      have hkL : k < dL D := by omega
      have hu := uP_le hD hkL
      rw [if_neg (by rw [qle (by omega) (by omega)]; omega), if_neg (by rw [qle_10 (by omega)]; omega)]
      simp only [lo_e hC hD hkL, hi_e hC hD hkL, up_e hC hD hkL, wh_e hC hD hkL, Option.bind_some, gd_in (show k < 10 by omega) (show (10 : Nat) < 2 ^ 31 by decide)]
      simp only [nI_clamp (show k < 2 ^ 31 by omega), nI_1, nI_l (n := uP D k) (by omega), nI_l (n := wP D k) (by omega)]
      refine ⟨_, rfl, 10 - (k + 1), by omega, k + 1, _, by omega, rfl, rfl, e0, e1, fun j hj => ?_⟩
      by_cases hjk : j = k
      · subst hjk
        refine ⟨?_, ?_, ?_, ?_⟩ <;> exact if_pos rfl
      · obtain ⟨c1, c2, c3, c4⟩ := hc j (by omega)
        exact ⟨(if_neg hjk).trans c1, (if_neg hjk).trans c2, (if_neg hjk).trans c3, (if_neg hjk).trans c4⟩) (i := 10 - 0) (s := ((0 : Int32), wI (wI t 0 (nI (2 ^ dL D - 1))) 1 (nI (dW D)))) (by omega) ⟨0, _, by omega, rfl, rfl, rfl, rfl, fun j hj => absurd hj (Nat.not_lt_zero j)⟩
  rw [he, Option.bind_some, Option.bind_some]
  exact ⟨_, rfl, repT_w hQ, rfl, rfl⟩
end AV
