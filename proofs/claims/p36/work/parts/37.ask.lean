/-! cutting and joining, as plain numbers -/
theorem red_eq {a b c d : Nat} (hb : 0 < b) (hd : 0 < d) (h : a * d = c * b) : a / Nat.gcd a b = c / Nat.gcd c d ∧ b / Nat.gcd a b = d / Nat.gcd c d := by
  have hg : 0 < Nat.gcd a b := Nat.gcd_pos_of_pos_right a hb
  have hh : 0 < Nat.gcd c d := Nat.gcd_pos_of_pos_right c hd
  obtain ⟨a1, ha⟩ := Nat.gcd_dvd_left a b
  obtain ⟨b1, hb1⟩ := Nat.gcd_dvd_right a b
  obtain ⟨c1, hc⟩ := Nat.gcd_dvd_left c d
  obtain ⟨d1, hd1⟩ := Nat.gcd_dvd_right c d
  have e1 : a / Nat.gcd a b = a1 := by
    have := Nat.mul_div_cancel_left a1 hg
    rw [← ha] at this; exact this
  have e2 : b / Nat.gcd a b = b1 := by
    have := Nat.mul_div_cancel_left b1 hg
    rw [← hb1] at this; exact this
  have e3 : c / Nat.gcd c d = c1 := by
    have := Nat.mul_div_cancel_left c1 hh
    rw [← hc] at this; exact this
  have e4 : d / Nat.gcd c d = d1 := by
    have := Nat.mul_div_cancel_left d1 hh
    rw [← hd1] at this; exact this
  have k1 : Nat.Coprime a1 b1 := by rw [← e1, ← e2]; exact Nat.coprime_div_gcd_div_gcd hg
  have k2 : Nat.Coprime c1 d1 := by rw [← e3, ← e4]; exact Nat.coprime_div_gcd_div_gcd hh
  have h2 : a1 * d1 = c1 * b1 := by
    have h3 : (Nat.gcd a b * Nat.gcd c d) * (a1 * d1) = (Nat.gcd a b * Nat.gcd c d) * (c1 * b1) := by
      have l1 : (Nat.gcd a b * Nat.gcd c d) * (a1 * d1) = (Nat.gcd a b * a1) * (Nat.gcd c d * d1) := Nat.mul_mul_mul_comm _ _ _ _
      have l2 : (Nat.gcd a b * Nat.gcd c d) * (c1 * b1) = (Nat.gcd c d * c1) * (Nat.gcd a b * b1) := by rw [Nat.mul_comm (Nat.gcd a b)]; exact Nat.mul_mul_mul_comm _ _ _ _
      rw [l1, l2, ← ha, ← hb1, ← hc, ← hd1]
      exact h
    exact Nat.eq_of_mul_eq_mul_left (Nat.mul_pos hg hh) h3
  have hb0 : 0 < b1 := by rcases Nat.eq_zero_or_pos b1 with q | q; rw [q] at hb1; omega; exact q
  have d1b : b1 ∣ d1 := Nat.Coprime.dvd_of_dvd_mul_left k1.symm ⟨c1, by rw [h2, Nat.mul_comm]⟩
  have b1d : d1 ∣ b1 := Nat.Coprime.dvd_of_dvd_mul_left k2.symm ⟨a1, by rw [← h2, Nat.mul_comm]⟩
  have hbd := Nat.dvd_antisymm d1b b1d
  rw [e1, e2, e3, e4]
  subst hbd
  exact ⟨Nat.eq_of_mul_eq_mul_right hb0 h2, rfl⟩
def rA (a b : Nat) : Nat := a / Nat.gcd a b
def rB (a b : Nat) : Nat := b / Nat.gcd a b
theorem red_f {a b : Nat} (hb : 0 < b) : rA a b * b = a * rB a b ∧ rB a b ∣ b ∧ 0 < rB a b := by
  have hg : 0 < Nat.gcd a b := Nat.gcd_pos_of_pos_right a hb
  obtain ⟨a1, ha⟩ := Nat.gcd_dvd_left a b
  obtain ⟨b1, hb1⟩ := Nat.gcd_dvd_right a b
  have e1 : rA a b = a1 := by
    have := Nat.mul_div_cancel_left a1 hg
    rw [← ha] at this; exact this
  have e2 : rB a b = b1 := by
    have := Nat.mul_div_cancel_left b1 hg
    rw [← hb1] at this; exact this
  have hb0 : 0 < b1 := by rcases Nat.eq_zero_or_pos b1 with q | q; rw [q] at hb1; omega; exact q
  rw [e1, e2]
  refine ⟨?_, ⟨Nat.gcd a b, by rw [Nat.mul_comm]; exact hb1⟩, hb0⟩
  have l1 : a1 * (Nat.gcd a b * b1) = (Nat.gcd a b * a1) * b1 := by rw [Nat.mul_left_comm, Nat.mul_assoc]
  rw [← hb1, ← ha] at l1
  exact l1
/-- two shares together -/
theorem add_s {A B a b Y R1 R2 : Nat} (hY : 0 < Y) (h1 : A * Y = R1 * B) (hB : B ∣ Y) (h2 : a * Y = R2 * b) (hb : b ∣ Y) (hB0 : 0 < B) (hb0 : 0 < b) : 0 < B / Nat.gcd B b * b ∧ B / Nat.gcd B b * b ∣ Y ∧ (A * (b / Nat.gcd B b) + a * (B / Nat.gcd B b)) * Y = (R1 + R2) * (B / Nat.gcd B b * b) := by
  have hg : 0 < Nat.gcd B b := Nat.gcd_pos_of_pos_left b hB0
  obtain ⟨B1, eB⟩ := Nat.gcd_dvd_left B b
  obtain ⟨b1, eb⟩ := Nat.gcd_dvd_right B b
  have e1 : B / Nat.gcd B b = B1 := by
    have := Nat.mul_div_cancel_left B1 hg
    rw [← eB] at this; exact this
  have e2 : b / Nat.gcd B b = b1 := by
    have := Nat.mul_div_cancel_left b1 hg
    rw [← eb] at this; exact this
  have hB1 : 0 < B1 := by rcases Nat.eq_zero_or_pos B1 with q | q; rw [q] at eB; omega; exact q
  have hl : Nat.lcm B b = B1 * b := by
    have h5 := Nat.gcd_mul_lcm B b
    have h6 : Nat.gcd B b * Nat.lcm B b = Nat.gcd B b * (B1 * b) := by rw [h5, ← Nat.mul_assoc, ← eB]
    exact Nat.eq_of_mul_eq_mul_left hg h6
  have hBb : B * b1 = B1 * b := by
    have : Nat.gcd B b * (B * b1) = Nat.gcd B b * (B1 * b) := by rw [Nat.mul_left_comm, ← eb, ← Nat.mul_assoc, ← eB]
    exact Nat.eq_of_mul_eq_mul_left hg this
  rw [e1, e2]
  refine ⟨Nat.mul_pos hB1 hb0, by rw [← hl]; exact Nat.lcm_dvd hB hb, ?_⟩
  rw [Nat.add_mul, Nat.add_mul]
  have l1 : A * b1 * Y = R1 * (B1 * b) := by rw [Nat.mul_right_comm, h1, Nat.mul_assoc, hBb]
  have l2 : a * B1 * Y = R2 * (B1 * b) := by rw [Nat.mul_right_comm, h2, Nat.mul_assoc, Nat.mul_comm b]
  rw [l1, l2]
/-! joining the ends of a link -/
def loA (V : AN) (i : Nat) : Nat := if aE V i < aA V i then aE V i else aA V i
def hiA (V : AN) (i : Nat) : Nat := if aA V i < aE V i then aE V i else aA V i
def jW (V : AN) (i : Nat) : Nat := if (aW V).testBit (hiA V i) = true then wo (aW V) (2 ^ hiA V i) ||| 2 ^ loA V i else aW V
def cA (V : AN) (i : Nat) : AN := ((wo (aP V) (2 ^ i), jW V i), (fun k => sg (loA V i) (hiA V i) (aA V k)), (fun k => sg (loA V i) (hiA V i) (aE V k)), aX V, aY V)
theorem cA_f (V : AN) (i : Nat) : tP (cA V i) = wi (tP V) i := funext (dA1_t V i)
section AS
variable {N L : Nat} {V : AN}
theorem lohi {i : Nat} (h : okA N L V) (hi : tP V i = true) : loA V i < N ∧ hiA V i < N ∧ ((aA V i = loA V i ∧ aE V i = hiA V i) ∨ (aA V i = hiA V i ∧ aE V i = loA V i)) := by
  obtain ⟨ai, ei, -, -⟩ := h.2.2.2.2.2.2 i hi
  unfold loA hiA
  by_cases q1 : aE V i < aA V i
  · rw [if_pos q1, if_neg (by omega)]; exact ⟨ei, ai, Or.inr ⟨rfl, rfl⟩⟩
  · by_cases q2 : aA V i < aE V i
    · rw [if_neg q1, if_pos q2]; exact ⟨ai, ei, Or.inl ⟨rfl, rfl⟩⟩
    · rw [if_neg q1, if_neg q2]; exact ⟨ai, ai, Or.inl ⟨rfl, by omega⟩⟩
theorem jW_t {i : Nat} (hne : loA V i ≠ hiA V i) (h7 : loA V i < 7) (h8 : hiA V i < 7) : ∀ v, v < 7 → ((jW V i).testBit v = true ↔ ∃ u, u < 7 ∧ (aW V).testBit u = true ∧ sg (loA V i) (hiA V i) u = v) := by
  intro v hv
  unfold jW sg
  by_cases hw : (aW V).testBit (hiA V i) = true
  · rw [if_pos hw, Nat.testBit_or, wo_bit, p2_bit, p2_bit]
    simp only [Bool.or_eq_true, Bool.and_eq_true, Bool.not_eq_true', decide_eq_false_iff_not, decide_eq_true_eq]
    constructor
    · rintro (⟨a1, a2⟩ | q)
      · exact ⟨v, hv, a1, by rw [if_neg (fun r => a2 r.symm)]⟩
      · exact ⟨hiA V i, h8, hw, by rw [if_pos rfl]; exact q⟩
    · rintro ⟨u, u1, u2, u3⟩
      split at u3
      · exact Or.inr u3
      · rename_i q
        subst u3
        exact Or.inl ⟨u2, fun r => q r.symm⟩
  · rw [if_neg hw]
    constructor
    · intro a1
      exact ⟨v, hv, a1, by rw [if_neg (fun q => hw (by rw [← q]; exact a1))]⟩
    · rintro ⟨u, u1, u2, u3⟩
      split at u3
      · rename_i q; rw [q] at u2; exact absurd u2 hw
      · subst u3; exact u2
theorem jW_ok {i : Nat} (h : okA N L V) (hi : tP V i = true) : jW V i < 2 ^ N ∧ jW V i ≠ 0 := by
  obtain ⟨l1, l2, -⟩ := lohi h hi
  unfold jW
  split
  · refine ⟨or_lt (wo_lt h.2.2.2.1) (Nat.pow_lt_pow_right (by decide) l1), fun q => ?_⟩
    have h2 : (wo (aW V) (2 ^ hiA V i) ||| 2 ^ loA V i).testBit (loA V i) = true := by rw [Nat.testBit_or, p2_bit]; simp
    rw [q, Nat.zero_testBit] at h2
    cases h2
  · exact ⟨h.2.2.2.1, h.2.2.2.2.1⟩
theorem dA1_ok {i : Nat} (h : okA N L V) (hi : tP V i = true) : okA N L (dA1 V i) ∧ pY V = aY V i * pY (dA1 V i) ∧ pc (aP V) = pc (aP (dA1 V i)) + 1 := by
  obtain ⟨w1, w2⟩ := wi_10 h hi
  have hp := pY_take h hi
  have hp2 : pY (dA1 V i) = pr (aY V) (wi (tP V) i) 10 := by unfold pY; rw [dA1_f]; rfl
  obtain ⟨-, -, y1, -⟩ := h.2.2.2.2.2.2 i hi
  have hle : pY (dA1 V i) ≤ pY V := by rw [hp, hp2]; exact Nat.le_mul_of_pos_left _ y1
  refine ⟨⟨h.1, h.2.1, w1, h.2.2.2.1, h.2.2.2.2.1, Nat.le_trans hle h.2.2.2.2.2.1, fun k hk => ?_⟩, by rw [hp, hp2], w2⟩
  rw [dA1_t] at hk
  exact h.2.2.2.2.2.2 k (wi_t hk).1
theorem sg_lt {lo hi v : Nat} (h1 : lo < N) (h2 : v < N) : sg lo hi v < N := by unfold sg; split <;> assumption
theorem cA_ok {i : Nat} (h : okA N L V) (hi : tP V i = true) : okA N L (cA V i) ∧ pY (cA V i) = pY (dA1 V i) ∧ pc (aP V) = pc (aP (cA V i)) + 1 := by
  obtain ⟨d1, d2, d3⟩ := dA1_ok h hi
  obtain ⟨l1, l2, -⟩ := lohi h hi
  obtain ⟨j1, j2⟩ := jW_ok h hi
  have hp : pY (cA V i) = pY (dA1 V i) := by
    unfold pY
    rw [cA_f, dA1_f]; rfl
  refine ⟨⟨h.1, h.2.1, d1.2.2.1, j1, j2, by rw [hp]; exact d1.2.2.2.2.2.1, fun k hk => ?_⟩, hp, d3⟩
  rw [cA_f] at hk
  obtain ⟨a1, a2, a3, a4⟩ := h.2.2.2.2.2.2 k (wi_t hk).1
  exact ⟨sg_lt l1 a1, sg_lt l1 a2, a3, a4⟩
theorem cut_join {i : Nat} (h : okA N L V) (hi : tP V i = true) (hne : aA V i ≠ aE V i) : rZ V = aX V i * rZ (cA V i) + (aY V i - aX V i) * rZ (dA1 V i) := by
  obtain ⟨l1, l2, l3⟩ := lohi h hi
  have h7 := h.1
  have hlh : loA V i ≠ hiA V i := by rcases l3 with q | q <;> omega
  have hb : eqv [(aA V i, aE V i)] [(loA V i, hiA V i)] := by
    rcases l3 with ⟨q1, q2⟩ | ⟨q1, q2⟩
    · rw [q1, q2]; exact eqv.rf _
    · rw [q1, q2]; exact eqv.flip _ _ _
  unfold rZ
  rw [RZ_take (okA_10 h hi).2 hi, RZ_eqv hb, RZ_con (W2 := jW V i) (by omega) (by omega) (jW_t hlh (by omega) (by omega)), cA_f, dA1_f]
  rfl
theorem rZ_le (h : okA N L V) : rZ V ≤ pY V := by
  unfold rZ pY
  refine Nat.le_trans RZ_le (Nat.le_of_eq (pr_cong (fun _ _ => rfl) (fun k _ hk => ?_)))
  exact xz (h.2.2.2.2.2.2 k hk).2.2.2
/-- answered without cutting -/
def stl (V : AN) : Bool := decide (pc (aW V) = 1) || (List.range 7).any fun v => (aW V).testBit v && (la V v == 0)
theorem one_W (h : okA N L V) (h1 : pc (aW V) = 1) : rZ V = pY V := by
  have hw := okA_w h
  obtain ⟨m1, m2⟩ := pc_1 _ (show aW V < 1024 by omega) h1
  have hc : ∀ U, cn U (aW V) = true := fun U => cn_iff.mpr (fun u v _ _ hu hv => by
    rw [m1, p2_bit] at hu hv
    have hu := of_decide_eq_true hu
    have hv := of_decide_eq_true hv
    rw [← hu, ← hv]; rfl)
  unfold rZ pY
  rw [RZ_sure hc]
  exact pr_cong (fun _ _ => rfl) (fun k _ hk => xz (h.2.2.2.2.2.2 k hk).2.2.2)
theorem two_bits : ∀ m, m < 128 → m ≠ 0 → pc m ≠ 1 → ∀ v, v < 7 → m.testBit v = true → ∃ w, w < 7 ∧ m.testBit w = true ∧ w ≠ v := by
  intro m hm h0 h1 v hv hb
  have h2 := pc_drop m (by omega) v (by omega) hb
  have h3 : wo m (2 ^ v) ≠ 0 := fun q => by rw [q, (pc_0 0 (by decide)).mpr rfl] at h2; omega
  have hw : wo m (2 ^ v) < 2 ^ 7 := wo_lt (n := 7) hm
  obtain ⟨t1, t2, -⟩ := tz_10 (wo m (2 ^ v)) (by omega) (by omega)
  rw [wo_bit, p2_bit, Bool.and_eq_true, Bool.not_eq_true', decide_eq_false_iff_not] at t2
  refine ⟨tz (wo m (2 ^ v)), ?_, t2.1, fun q => t2.2 q.symm⟩
  rcases Nat.lt_or_ge (tz (wo m (2 ^ v))) 7 with q | q
  · exact q
  · rw [bit_ge (n := 7) hm q] at t2; cases t2.1
theorem zero_W (h : okA N L V) (h1 : pc (aW V) ≠ 1) {v : Nat} (hv : v < 7) (hW : (aW V).testBit v = true) (h0 : la V v = 0) : rZ V = 0 := by
  obtain ⟨w, w1, w2, w3⟩ := two_bits _ (okA_w h) h.2.2.2.2.1 h1 v hv hW
  unfold rZ
  refine RZ_never hv w1 hW w2 w3 (fun q hq => absurd hq List.not_mem_nil) (fun k _ hk => ?_)
  have hn : ¬ (aA V k = v ∨ aE V k = v) := fun q => by
    have hb : (la V v).testBit k = true := (la_t h).mpr ⟨hk, q⟩
    rw [h0, Nat.zero_testBit] at hb
    cases hb
  exact ⟨fun q => hn (Or.inl q), fun q => hn (Or.inr q)⟩
/-- with nothing left all is answered -/
theorem stl_0 (h : okA N L V) (hp : aP V = 0) : stl V = true := by
  unfold stl
  by_cases h1 : pc (aW V) = 1
  · rw [decide_eq_true h1]; rfl
  · obtain ⟨t1, t2, -⟩ := tz_10 (aW V) (by have := okA_w h; omega) (Nat.pos_of_ne_zero h.2.2.2.2.1)
    have h7 : tz (aW V) < 7 := by
      rcases Nat.lt_or_ge (tz (aW V)) 7 with q | q
      · exact q
      · rw [bit_ge (n := 7) (okA_w h) q] at t2; cases t2
    have hl : la V (tz (aW V)) = 0 := by
      apply Nat.eq_of_testBit_eq
      intro i
      rw [la_bit h, Nat.zero_testBit]
      unfold tP
      rw [hp, Nat.zero_testBit]
      rfl
    rw [Bool.or_eq_true]
    right
    rw [List.any_eq_true]
    exact ⟨tz (aW V), List.mem_range.mpr h7, by rw [t2, beq_iff_eq.mpr hl]; rfl⟩
/-- how many nets are asked, how deep, how often something is done -/
def ak : Nat → AN → Nat → Nat × Nat × Nat
  | 0, _, _ => (0, 0, 0)
  | n + 1, V, d => if stl (tdy 10 V).2 = true then (1, d + 1, (tdy 10 V).1) else
      (1 + (if aX (tdy 10 V).2 (tz (aP (tdy 10 V).2)) = 0 then (0, 0, 0) else ak n (cA (tdy 10 V).2 (tz (aP (tdy 10 V).2))) (d + 1)).1 + (if aX (tdy 10 V).2 (tz (aP (tdy 10 V).2)) = aY (tdy 10 V).2 (tz (aP (tdy 10 V).2)) then (0, 0, 0) else ak n (dA1 (tdy 10 V).2 (tz (aP (tdy 10 V).2))) (d + 1)).1,
       max (d + 1) (max (if aX (tdy 10 V).2 (tz (aP (tdy 10 V).2)) = 0 then (0, 0, 0) else ak n (cA (tdy 10 V).2 (tz (aP (tdy 10 V).2))) (d + 1)).2.1 (if aX (tdy 10 V).2 (tz (aP (tdy 10 V).2)) = aY (tdy 10 V).2 (tz (aP (tdy 10 V).2)) then (0, 0, 0) else ak n (dA1 (tdy 10 V).2 (tz (aP (tdy 10 V).2))) (d + 1)).2.1),
       (tdy 10 V).1 + (if aX (tdy 10 V).2 (tz (aP (tdy 10 V).2)) = 0 then (0, 0, 0) else ak n (cA (tdy 10 V).2 (tz (aP (tdy 10 V).2))) (d + 1)).2.2 + (if aX (tdy 10 V).2 (tz (aP (tdy 10 V).2)) = aY (tdy 10 V).2 (tz (aP (tdy 10 V).2)) then (0, 0, 0) else ak n (dA1 (tdy 10 V).2 (tz (aP (tdy 10 V).2))) (d + 1)).2.2)
end AS
