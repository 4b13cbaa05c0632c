/-! copy, read, write -/
section CP
variable {b t : ST} {D : ND}
theorem vl_next {S E : Type} {B : S → Option (S ⊕ E)} {s s2 : S} {F : Nat} (h : B s = some (.inl s2)) : vLoop B (F + 1) s = vLoop B F s2 := by
  show (match B s with | none => none | some (.inl t) => vLoop B F t | some (.inr e) => some e) = _
  rw [h]
theorem vl_stop {S E : Type} {B : S → Option (S ⊕ E)} {s : S} {e : E} {F : Nat} (h : B s = some (.inr e)) : vLoop B (F + 1) s = some e := by
  show (match B s with | none => none | some (.inl t) => vLoop B F t | some (.inr e) => some e) = _
  rw [h]
/-! read -/
/-! write -/
end CP
