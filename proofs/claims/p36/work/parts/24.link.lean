/-! a link more -/
section LK
variable {b t : ST} {D : ND}
def dAdd (D : ND) (mn mx p q : Nat) : ND := ((dN D, dL D + 1, dS D, dG D), va_up (dA D) (dL D) mn, va_up (dE D) (dL D) mx, va_up (dP D) (dL D) p, va_up (dQ D) (dL D) q, va_up (dV D) (dL D) 0)
theorem may_of {x y p q : Int64} (hD : okD D) (h : may D x y p q = true) : ∃ i j k l, x = lN i ∧ y = lN j ∧ p = lN k ∧ q = lN l ∧ i < dN D ∧ j < dN D ∧ i ≠ j ∧ 1 ≤ l ∧ l ≤ 9 ∧ k ≤ l := by
  unfold may at h
  simp only [Bool.and_eq_true, Bool.not_eq_true', decide_eq_false_iff_not] at h
  obtain ⟨⟨⟨h1, h2⟩, h3⟩, h4⟩ := h
  have hN := hD.2.1
  have h1 := of_decide_eq_true h1
  have h2 := of_decide_eq_true h2
  obtain ⟨i, k1, rfl⟩ := i64_of h1.1 h1.2 (by omega)
  obtain ⟨j, k2, rfl⟩ := i64_of h2.1 h2.2 (by omega)
  obtain ⟨k, l, k3, k4, k5, k6, k7⟩ := chn_of h4
  exact ⟨i, j, k, l, rfl, rfl, k3, k4, k1, k2, fun q => h3 (by rw [q]), k5, k6, k7⟩
end LK
