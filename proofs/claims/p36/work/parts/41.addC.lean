/-! the class's answers put together -/
theorem rA_fr (a b : Nat) : fr a b 0 = rA a b := rfl
theorem rB_fr (a b : Nat) : fr a b 1 = rB a b := rfl
theorem rA_0 {Y : Nat} (h : 0 < Y) : rA 0 Y = 0 ∧ rB 0 Y = 1 := by
  unfold rA rB
  rw [Nat.gcd_zero_left]
  exact ⟨Nat.zero_div _, Nat.div_self h⟩
theorem rA_1 {Y : Nat} (h : 0 < Y) : rA Y Y = 1 ∧ rB Y Y = 1 := by
  unfold rA rB
  rw [Nat.gcd_self]
  exact ⟨Nat.div_self h, Nat.div_self h⟩
theorem adC_e {t : ST} {A B a b Y R1 R2 : Nat} (t0 : t.2.1 0 = lN A) (t1 : t.2.1 1 = lN B) (hY : 0 < Y) (hY2 : Y ≤ 3486784401) (h1 : A * Y = R1 * B) (hB : B ∣ Y) (h2 : a * Y = R2 * b) (hb : b ∣ Y) (hR : R1 + R2 ≤ Y) : m_X8_add t (lN a) (lN b) = some (wL (wL t 0 (lN (rA (R1 + R2) Y))) 1 (lN (rB (R1 + R2) Y))) := by
  have hB0 : 0 < B := Nat.pos_of_dvd_of_pos hB hY
  have hb0 : 0 < b := Nat.pos_of_dvd_of_pos hb hY
  have hBl := Nat.le_of_dvd hY hB
  have hbl := Nat.le_of_dvd hY hb
  obtain ⟨d0, d1, d2⟩ := add_s hY h1 hB h2 hb hB0 hb0
  obtain ⟨r1, r2⟩ := red_eq d0 hY d2
  have hdl := Nat.le_of_dvd hY d1
  obtain ⟨g1, g2⟩ := gcd_b (a := B) hb0
  have hnl : A * (b / Nat.gcd B b) + a * (B / Nat.gcd B b) ≤ Y := by
    have h5 : (A * (b / Nat.gcd B b) + a * (B / Nat.gcd B b)) * Y ≤ Y * (B / Nat.gcd B b * b) := by rw [d2]; exact Nat.mul_le_mul_right _ hR
    rw [Nat.mul_comm Y] at h5
    exact Nat.le_trans (Nat.le_of_mul_le_mul_right h5 hY) hdl
  have hn := lN_n0 g1 (by omega)
  unfold m_X8_add m_X8_answer
  rw [t1, cd_e (by omega) (by omega), Option.bind_some, if_neg (by rw [lg_cmp_eq]; exact hn), gd_t hn, gd_t hn, pk_lDiv (by omega) g1 (by omega), pk_lDiv (by omega) g1 (by omega)]
  dsimp only [lt]
  rw [gd_t hn, lN_mul, lN_mul, t0, lN_mul, lN_add, told_e (by omega) d0 (by omega), Option.bind_some, told_e (by omega) d0 (by omega), Option.bind_some, rA_fr, rB_fr]
  unfold rA rB
  rw [r1, r2]
  rfl
theorem m4 {x y a q r b : Nat} (h : a * q = r * b) : x * a * (y * q) = x * r * (y * b) := by
  rw [Nat.mul_mul_mul_comm, h, Nat.mul_mul_mul_comm x r]
section AC
variable {t : ST} {V : AN} {N L : Nat}
theorem ll_e (hR : repT t V) (h : okA N L V) (h0 : aP V ≠ 0) : m_X8_leastLink t = some (nI (tz (aP V))) ∧ tP V (tz (aP V)) = true ∧ tz (aP V) < 10 := by
  have hp := okA_p h
  obtain ⟨z1, z2, -⟩ := tz_10 (aP V) (by omega) (by omega)
  refine ⟨?_, z2, z1⟩
  unfold m_X8_leastLink
  rw [hR.1, tz_e _ (by omega) (by omega), Option.bind_some]
theorem aXY (h : okA N L V) {i : Nat} (hi : tP V i = true) : aX V i ≤ aY V i ∧ 1 ≤ aY V i ∧ aY V i ≤ 3486784401 := by
  obtain ⟨-, -, y1, y2⟩ := h.2.2.2.2.2.2 i hi
  have hp := pY_take h hi
  have := h.2.2.2.2.2.1
  obtain ⟨d1, d2, -⟩ := dA1_ok h hi
  have := pY_pos d1
  exact ⟨y2, y1, Nat.le_trans (Nat.le_trans (Nat.le_mul_of_pos_right _ this) (Nat.le_of_eq d2.symm)) h.2.2.2.2.2.1⟩
theorem cu_e (hR : repT t V) (h : okA N L V) {i : Nat} (hi : tP V i = true) : m_X8_canBeUp t (nI i) = some (if aX V i = 0 then 0 else 1) := by
  obtain ⟨-, h10⟩ := okA_10 h hi
  obtain ⟨-, -, r3, r4⟩ := hR.2.2 i hi
  obtain ⟨x1, x2, x3⟩ := aXY h hi
  unfold m_X8_canBeUp
  rw [it_e hR h h10, hi, Option.bind_some, if_neg (by decide), gd_in h10 (by omega), nI_clamp (by omega), r3]
  by_cases q : aX V i = 0
  · rw [if_pos q, if_pos (by rw [lg_cmp_eq, q]; rfl)]
  · rw [if_neg q, if_neg (by rw [lg_cmp_eq]; exact lN_n0 (by omega) (by omega))]
theorem cdn_e (hR : repT t V) (h : okA N L V) {i : Nat} (hi : tP V i = true) : m_X8_canBeDown t (nI i) = some (if aX V i = aY V i then 0 else 1) := by
  obtain ⟨-, h10⟩ := okA_10 h hi
  obtain ⟨-, -, r3, r4⟩ := hR.2.2 i hi
  obtain ⟨x1, x2, x3⟩ := aXY h hi
  unfold m_X8_canBeDown
  rw [it_e hR h h10, hi, Option.bind_some, if_neg (by decide), gd_in h10 (by omega), gd_in h10 (by omega), nI_clamp (by omega), r3, r4]
  by_cases q : aX V i = aY V i
  · rw [if_pos q, if_pos (by rw [lg_cmp_eq, q])]
  · rw [if_neg q, if_neg (by rw [lg_cmp_eq]; exact fun r => q ((pk_lEQ (by omega) (by omega)).mp r))]
theorem au_e {o : ST} {R1 R2 Q : Nat} (hR : repT t V) (h : okA N L V) {i : Nat} (hi : tP V i = true) (t0 : t.2.1 0 = lN (rA R1 (pY V))) (t1 : t.2.1 1 = lN (rB R1 (pY V))) (o0 : o.2.1 0 = lN (rA R2 Q)) (o1 : o.2.1 1 = lN (rB R2 Q)) (hQ : 0 < Q) (hQ2 : pY V = aY V i * Q) (hle : R1 + aX V i * R2 ≤ pY V) : m_X8_addUp t o (nI i) = some (wL (wL t 0 (lN (rA (R1 + aX V i * R2) (pY V)))) 1 (lN (rB (R1 + aX V i * R2) (pY V)))) := by
  obtain ⟨-, h10⟩ := okA_10 h hi
  obtain ⟨-, -, r3, r4⟩ := hR.2.2 i hi
  obtain ⟨q1, q2, q3⟩ := red_f (a := R1) (pY_pos h)
  obtain ⟨p1, p2, p3⟩ := red_f (a := R2) hQ
  unfold m_X8_addUp
  rw [it_e hR h h10, hi, Option.bind_some, if_neg (by decide), gd_in h10 (by omega), gd_in h10 (by omega), nI_clamp (by omega), r3, r4, o0, o1, lN_mul, lN_mul, adC_e t0 t1 (pY_pos h) h.2.2.2.2.2.1 q1 q2 (R2 := aX V i * R2) (by rw [hQ2]; exact m4 p1) (by rw [hQ2]; exact Nat.mul_dvd_mul_left _ p2) hle, Option.bind_some]
theorem ad_e {o : ST} {R1 R2 Q : Nat} (hR : repT t V) (h : okA N L V) {i : Nat} (hi : tP V i = true) (t0 : t.2.1 0 = lN (rA R1 (pY V))) (t1 : t.2.1 1 = lN (rB R1 (pY V))) (o0 : o.2.1 0 = lN (rA R2 Q)) (o1 : o.2.1 1 = lN (rB R2 Q)) (hQ : 0 < Q) (hQ2 : pY V = aY V i * Q) (hle : R1 + (aY V i - aX V i) * R2 ≤ pY V) : m_X8_addDown t o (nI i) = some (wL (wL t 0 (lN (rA (R1 + (aY V i - aX V i) * R2) (pY V)))) 1 (lN (rB (R1 + (aY V i - aX V i) * R2) (pY V)))) := by
  obtain ⟨-, h10⟩ := okA_10 h hi
  obtain ⟨-, -, r3, r4⟩ := hR.2.2 i hi
  obtain ⟨q1, q2, q3⟩ := red_f (a := R1) (pY_pos h)
  obtain ⟨p1, p2, p3⟩ := red_f (a := R2) hQ
  obtain ⟨x1, -, -⟩ := aXY h hi
  unfold m_X8_addDown
  rw [it_e hR h h10, hi, Option.bind_some, if_neg (by decide), gd_in h10 (by omega), gd_in h10 (by omega), nI_clamp (by omega), r3, r4, lN_sub x1, o0, lN_mul]
  dsimp only [lt]
  rw [gd_i2 h10 (by omega), o1, lN_mul, adC_e t0 t1 (pY_pos h) h.2.2.2.2.2.1 q1 q2 (R2 := (aY V i - aX V i) * R2) (by rw [hQ2]; exact m4 p1) (by rw [hQ2]; exact Nat.mul_dvd_mul_left _ p2) hle, Option.bind_some]
end AC
