def kdj (a b : Nat) : Nat := if a = 1 then 1 else if b = 1 then 1 else if a = 0 then if b = 0 then 0 else 2 else 2
def kdc (a b : Nat) : Nat := if a = 0 then 0 else if b = 0 then 0 else if a = 1 then if b = 1 then 1 else 2 else 2
theorem kd_le (x y : Nat) : kd x y ≤ 2 := by unfold kd; split; omega; split <;> omega
theorem kd_3 (x y : Nat) : (kd x y = 0 ∧ x = 0) ∨ (kd x y = 1 ∧ x = y ∧ x ≠ 0) ∨ (kd x y = 2 ∧ x ≠ 0 ∧ x ≠ y) := by
  unfold kd
  by_cases h : x = 0
  · rw [if_pos h]; exact Or.inl ⟨rfl, h⟩
  · rw [if_neg h]
    by_cases h2 : x = y
    · rw [if_pos h2]; exact Or.inr (Or.inl ⟨rfl, h2, h⟩)
    · rw [if_neg h2]; exact Or.inr (Or.inr ⟨rfl, h, h2⟩)
theorem kd_tw {x1 y1 x2 y2 : Nat} (h1 : 1 ≤ y1) (h2 : x1 ≤ y1) (h3 : 1 ≤ y2) (h4 : x2 ≤ y2) : kd (y1 * y2 - (y1 - x1) * (y2 - x2)) (y1 * y2) = kdj (kd x1 y1) (kd x2 y2) := by
  have hz := zprod h2 h4
  have hy : 0 < y1 * y2 := Nat.mul_pos h1 h3
  have e0 : (y1 * y2 - (y1 - x1) * (y2 - x2) = 0) ↔ x1 = 0 ∧ x2 = 0 := by
    constructor
    · intro q
      have q : (y1 - x1) * (y2 - x2) = y1 * y2 := by omega
      constructor
      · rcases Nat.eq_zero_or_pos x1 with r | r
        · exact r
        · have l1 : (y1 - x1) * (y2 - x2) ≤ (y1 - x1) * y2 := Nat.mul_le_mul_left _ (Nat.sub_le _ _)
          have l2 : (y1 - x1) * y2 < y1 * y2 := Nat.mul_lt_mul_of_pos_right (by omega) h3
          omega
      · rcases Nat.eq_zero_or_pos x2 with r | r
        · exact r
        · have l1 : (y1 - x1) * (y2 - x2) ≤ y1 * (y2 - x2) := Nat.mul_le_mul_right _ (Nat.sub_le _ _)
          have l2 : y1 * (y2 - x2) < y1 * y2 := Nat.mul_lt_mul_of_pos_left (by omega) h1
          omega
    · rintro ⟨rfl, rfl⟩
      exact Nat.sub_self _
  have e1 : (y1 * y2 - (y1 - x1) * (y2 - x2) = y1 * y2) ↔ x1 = y1 ∨ x2 = y2 := by
    constructor
    · intro q
      have q : (y1 - x1) * (y2 - x2) = 0 := by omega
      rcases Nat.mul_eq_zero.mp q with r | r
      · exact Or.inl (by omega)
      · exact Or.inr (by omega)
    · rintro (r | r)
      · rw [r, Nat.sub_self, Nat.zero_mul]; rfl
      · rw [r, Nat.sub_self, Nat.mul_zero]; rfl
  generalize y1 * y2 - (y1 - x1) * (y2 - x2) = X at *
  generalize y1 * y2 = Y at *
  rcases kd_3 x1 y1 with ⟨p1, p2⟩ | ⟨p1, p2, p3⟩ | ⟨p1, p2, p3⟩ <;> rcases kd_3 x2 y2 with ⟨q1, q2⟩ | ⟨q1, q2, q3⟩ | ⟨q1, q2, q3⟩ <;> rcases kd_3 X Y with ⟨r1, r2⟩ | ⟨r1, r2, r3⟩ | ⟨r1, r2, r3⟩ <;> first | (rw [p1, q1, r1]; rfl) | (exfalso; omega)
theorem kd_ch {x1 y1 x2 y2 : Nat} (h1 : 1 ≤ y1) (h2 : x1 ≤ y1) (h3 : 1 ≤ y2) (h4 : x2 ≤ y2) : kd (x1 * x2) (y1 * y2) = kdc (kd x1 y1) (kd x2 y2) := by
  have hy : 0 < y1 * y2 := Nat.mul_pos h1 h3
  have e0 : (x1 * x2 = 0) ↔ x1 = 0 ∨ x2 = 0 := Nat.mul_eq_zero
  have e1 : (x1 * x2 = y1 * y2) ↔ x1 = y1 ∧ x2 = y2 := by
    constructor
    · intro q
      constructor
      · rcases Nat.lt_or_ge x1 y1 with r | r
        · have l1 : x1 * x2 ≤ x1 * y2 := Nat.mul_le_mul_left _ h4
          have l2 : x1 * y2 < y1 * y2 := Nat.mul_lt_mul_of_pos_right r h3
          omega
        · omega
      · rcases Nat.lt_or_ge x2 y2 with r | r
        · have l1 : x1 * x2 ≤ y1 * x2 := Nat.mul_le_mul_right _ h2
          have l2 : y1 * x2 < y1 * y2 := Nat.mul_lt_mul_of_pos_left r h1
          omega
        · omega
    · rintro ⟨rfl, rfl⟩; rfl
  generalize x1 * x2 = X at *
  generalize y1 * y2 = Y at *
  rcases kd_3 x1 y1 with ⟨p1, p2⟩ | ⟨p1, p2, p3⟩ | ⟨p1, p2, p3⟩ <;> rcases kd_3 x2 y2 with ⟨q1, q2⟩ | ⟨q1, q2, q3⟩ | ⟨q1, q2, q3⟩ <;> rcases kd_3 X Y with ⟨r1, r2⟩ | ⟨r1, r2, r3⟩ | ⟨r1, r2, r3⟩ <;> first | (rw [p1, q1, r1]; rfl) | (exfalso; omega)
