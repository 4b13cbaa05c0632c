section TM
variable {t : ST} {V : AN} {N L d : Nat}
def kX (a b : Int32) : Int32 := if a = 0 then 0 else if b = 0 then 0 else if a = 1 then if b = 1 then 1 else 2 else 2
theorem kX_e : ∀ a, a ≤ 2 → ∀ b, b ≤ 2 → kX (nI a) (nI b) = nI (kdc a b) := by decide +kernel
theorem othN_e (hR : repN t N L d V) (h : okA N L V) (hd : d < 12) {i v : Nat} (hi : tP V i = true) (hv : v < 7) : m_X10_otherEnd t (nI d) (nI i) (nI v) = some (nI (oth V i v)) := by
  obtain ⟨-, h10⟩ := okA_10 h hi
  obtain ⟨r1, r2, r3⟩ := hR.2.2.2.2 i hi
  obtain ⟨n1, n2⟩ := N31 h hi
  unfold m_X10_otherEnd oth
  rw [row_e]
  dsimp only [lt]
  rw [gd_in (by omega) (by omega), gd_in (by omega) (by omega), gd_in (by omega) (by omega), nI_clamp (by omega), r1, r2]
  by_cases q1 : aA V i = v
  · rw [if_pos (by rw [q1]), if_pos q1]
  · rw [if_neg (by rw [qeq n1 (by omega)]; exact q1), if_neg q1]
def chM (t : ST) (V : AN) (d i j s : Nat) : ST := dM (wA (wA (wA t 9 (10 * d + i) (nI (oth V i s))) 10 (10 * d + i) (nI (oth V j s))) 11 (10 * d + i) (nI (kdc (kd (aX V i) (aY V i)) (kd (aX V j) (aY V j))))) d (aP V) j
theorem chM_R (hR : repN t N L d V) (h : okA N L V) {i j s : Nat} (hi : tP V i = true) (hj : tP V j = true) : repN (chM t V d i j s) N L d (chA V i j s) := by
  refine ⟨hR.1, hR.2.1, if_pos rfl, hR.2.2.2.1, fun k hk => ?_⟩
  rw [chA_f] at hk
  obtain ⟨r1, r2, r3⟩ := hR.2.2.2.2 k (wi_t hk).1
  obtain ⟨-, -, yi, xi⟩ := h.2.2.2.2.2.2 i hi
  obtain ⟨-, -, yj, xj⟩ := h.2.2.2.2.2.2 j hj
  refine ⟨?_, ?_, ?_⟩
  · show (if 10 * d + k = 10 * d + i then _ else _) = nI (va_up (aA V) i _ k)
    unfold va_up
    by_cases q : k = i
    · rw [if_pos (by omega), if_pos q]
    · rw [if_neg (by omega), if_neg q]; exact r1
  · show (if 10 * d + k = 10 * d + i then _ else _) = nI (va_up (aE V) i _ k)
    unfold va_up
    by_cases q : k = i
    · rw [if_pos (by omega), if_pos q]
    · rw [if_neg (by omega), if_neg q]; exact r2
  · show (if 10 * d + k = 10 * d + i then _ else _) = nI (kd (va_up (aX V) i _ k) (va_up (aY V) i _ k))
    unfold va_up
    by_cases q : k = i
    · rw [if_pos (by omega), if_pos q, if_pos q, kd_ch yi xi yj xj]
    · rw [if_neg (by omega), if_neg q, if_neg q]; exact r3
end TM
