/-! the model's nets -/
/-- never up, always up, or in between -/
def kd (x y : Nat) : Nat := if x = 0 then 0 else if x = y then 1 else 2
def repN (t : ST) (N L d : Nat) (V : AN) : Prop := t.1 1 = nI N ∧ t.1 4 = nI L ∧ t.2.2.1 12 d = nI (aP V) ∧ t.2.2.1 13 d = nI (aW V) ∧ ∀ i, tP V i = true → t.2.2.1 9 (10 * d + i) = nI (aA V i) ∧ t.2.2.1 10 (10 * d + i) = nI (aE V i) ∧ t.2.2.1 11 (10 * d + i) = nI (kd (aX V i) (aY V i))
section TM
variable {t : ST} {V : AN} {N L d : Nat}
theorem row_e {d i : Nat} : (10 : Int32) * nI d + nI i = nI (10 * d + i) := by
  rw [show (10 : Int32) * nI d = nI (10 * d) from pk_mul 10 d, nI_add]
theorem isAt_e (hR : repN t N L d V) (h : okA N L V) (hd : d < 12) {i v : Nat} (hi : tP V i = true) (hv : v < 7) : m_X10_isAt t (nI d) (nI i) (nI v) = some (bz (aA V i == v || aE V i == v)) := by
  obtain ⟨-, h10⟩ := okA_10 h hi
  obtain ⟨r1, r2, r3⟩ := hR.2.2.2.2 i hi
  obtain ⟨n1, n2⟩ := N31 h hi
  unfold m_X10_isAt
  rw [row_e]
  dsimp only [lt]
  rw [gd_in (by omega) (by omega), gd_in (by omega) (by omega), nI_clamp (by omega), r1, r2]
  by_cases q1 : aA V i = v
  · rw [if_pos (by rw [q1]), beq_iff_eq.mpr q1]; rfl
  · rw [if_neg (by rw [qeq n1 (by omega)]; exact q1), beq_eq_false_iff_ne.mpr q1, Bool.false_or]
    by_cases q2 : aE V i = v
    · rw [if_pos (by rw [q2]), beq_iff_eq.mpr q2]; rfl
    · rw [if_neg (by rw [qeq n2 (by omega)]; exact q2), beq_eq_false_iff_ne.mpr q2]; rfl
theorem hasN_e (hR : repN t N L d V) (h : okA N L V) (hd : d < 12) {i : Nat} (hi : i < 10) : m_X10_has t (nI d) (nI i) = some (bz (tP V i)) := by
  have hp := okA_p h
  unfold m_X10_has
  dsimp only [lt]
  rw [gd_in (by omega) (by omega), nI_clamp (by omega), hR.2.2.1, sar_bit (by omega) (by omega)]
  unfold tP
  cases (aP V).testBit i <;> rfl
/-- link i is gone, as the model does it -/
def dM (t : ST) (d P i : Nat) : ST := wI (wA t 12 d (nI (wo P (2 ^ i)))) 8 (t.1 8 + 1)
theorem drp_e (hR : repN t N L d V) (hd : d < 12) {i : Nat} (hi : i < 10) : m_X10_drops t (nI d) (nI i) = some (dM t d (aP V) i) := by
  unfold m_X10_drops
  dsimp only [lt]
  rw [gd_in (by omega) (by omega), gd_in (by omega) (by omega), nI_clamp (by omega), hR.2.2.1, shl_1 i (by omega), wo_i]
  rfl
theorem dM_R (hR : repN t N L d V) {i : Nat} : repN (dM t d (aP V) i) N L d (dA1 V i) := by
  refine ⟨hR.1, hR.2.1, if_pos rfl, hR.2.2.2.1, fun k hk => ?_⟩
  rw [dA1_t] at hk
  exact hR.2.2.2.2 k (wi_t hk).1
end TM
