theorem ak_s {n d k : Nat} {V U : AN} (hU : tdy 10 V = (k, U)) (hs : stl U = true) : ak (n + 1) V d = (1, d + 1, k) := by
  rw [ak, hU]
  show (if stl U = true then _ else _) = _
  rw [if_pos hs]
theorem ak_u {n d f k : Nat} {V U : AN} (hU : tdy 10 V = (k, U)) (hf : tz (aP U) = f) (hs : ¬ stl U = true) : ak (n + 1) V d = (1 + (if aX U f = 0 then (0, 0, 0) else ak n (cA U f) (d + 1)).1 + (if aX U f = aY U f then (0, 0, 0) else ak n (dA1 U f) (d + 1)).1, max (d + 1) (max (if aX U f = 0 then (0, 0, 0) else ak n (cA U f) (d + 1)).2.1 (if aX U f = aY U f then (0, 0, 0) else ak n (dA1 U f) (d + 1)).2.1), k + (if aX U f = 0 then (0, 0, 0) else ak n (cA U f) (d + 1)).2.2 + (if aX U f = aY U f then (0, 0, 0) else ak n (dA1 U f) (d + 1)).2.2) := by
  rw [ak, hU]
  show (if stl U = true then _ else _) = _
  rw [if_neg hs, hf]
theorem nI_dn (d : Nat) : nI (d + 1) + (-1 : Int32) = nI d := by
  rw [← nI_1, Int32.add_assoc, show (1 : Int32) + (-1) = 0 from rfl, Int32.add_zero]
def runP (n : Nat) : Prop := ∀ {N L d S P T : Nat} {V : AN} {t : ST}, okA N L V → repN t N L d V → t.2.2.1 14 d = 0 → t.1 6 = nI S → t.1 7 = nI P → t.1 8 = nI T → d + pc (aP V) ≤ 10 → pc (aP V) < n → P ≤ 30 → d + n ≤ 12 → ∃ t2 c, c + 3 ≤ 2 * 2 ^ n ∧ (∀ F, vLoop m_X10_asks_L131 (c + F) (nI d, t) = vLoop m_X10_asks_L131 F (nI d + (-1), t2)) ∧ fN d t t2 ∧ t2.1 6 = nI (S + (ak n V d).1) ∧ t2.1 7 = nI (max P (ak n V d).2.1) ∧ t2.1 8 = nI (T + (ak n V d).2.2)
/-- the net behind is put and run through -/
theorem ch_run {n : Nat} (hI : runP n) {N L d S P T f : Nat} {V : AN} {t : ST} (h : okA N L V) (hR : repN t N L d V) (hf : tP V f = true) (w6 : t.1 6 = nI S) (w7 : t.1 7 = nI P) (w8 : t.1 8 = nI T) (hd : d + pc (aP V) ≤ 10) (hn : pc (aP V) < n + 1) (hP : P ≤ 30) (hdn : d + 1 + n ≤ 12) (b : Bool) : ∃ tP t2 c, m_X10_puts t (nI d) (nI f) (bz b) = some tP ∧ c + 3 ≤ 2 * 2 ^ n ∧ (∀ F, vLoop m_X10_asks_L131 (c + F) (nI (d + 1), tP) = vLoop m_X10_asks_L131 F (nI d, t2)) ∧ repN t2 N L d V ∧ t2.2.2.1 14 d = t.2.2.1 14 d ∧ fN d t t2 ∧ t2.1 6 = nI (S + (ak n (if b = true then cA V f else dA1 V f) (d + 1)).1) ∧ t2.1 7 = nI (max P (ak n (if b = true then cA V f else dA1 V f) (d + 1)).2.1) ∧ t2.1 8 = nI (T + (ak n (if b = true then cA V f else dA1 V f) (d + 1)).2.2) := by
  obtain ⟨tP, p1, p2, p3, p4⟩ := puts_e hR h (by
    have := (pc_0 _ (okA_p h))
    have h0 : aP V ≠ 0 := fun q => by unfold tP at hf; rw [q, Nat.zero_testBit] at hf; cases hf
    have h1 : pc (aP V) ≠ 0 := fun q => h0 (this.mp q)
    omega) hf b
  obtain ⟨d1, -, d3⟩ := dA1_ok h hf
  obtain ⟨c1, -, c3⟩ := cA_ok h hf
  have hok : okA N L (if b = true then cA V f else dA1 V f) := by split <;> assumption
  have hpc : pc (aP V) = pc (aP (if b = true then cA V f else dA1 V f)) + 1 := by split <;> assumption
  generalize (if b = true then cA V f else dA1 V f) = V2 at *
  obtain ⟨t2, c, r1, r2, r3, r4, r5, r6⟩ := hI (S := S) (P := P) (T := T) hok p2 p4 (by rw [p3.1]; exact w6) (by rw [p3.1]; exact w7) (by rw [p3.1]; exact w8) (by omega) (by omega) hP hdn
  have hfr : fN (d + 1) t t2 := fN_t (fN_P p3) r3
  refine ⟨tP, t2, c, p1, r1, fun F => ?_, repN_f h hR hfr, hfr.2.2.2 14 d (by omega), fN_up hfr, r4, r5, r6⟩
  rw [r2 F, nI_dn]
theorem run_n {n : Nat} (hI : runP n) : runP (n + 1) := by
  intro N L d S P T V t h hR hs w6 w7 w8 hd hn hP hdn
  have h2n : 1 ≤ 2 ^ n := Nat.one_le_two_pow
  have h2s : 2 ^ (n + 1) = 2 * 2 ^ n := by rw [Nat.pow_succ, Nat.mul_comm]
  rw [h2s]
  generalize 2 ^ n = Z at *
  obtain ⟨tA, a1, a2, a3, a4, a5, a6, a7⟩ := as_0 hR h (by omega) hs w6 w7 w8 hP
  obtain ⟨k1, -, -, -, k5, -⟩ := tdy_k 10 V h pc_lt
  obtain ⟨⟨k, U⟩, hE⟩ : ∃ Q, tdy 10 V = Q := ⟨_, rfl⟩
  rw [hE] at a2 a3 a6 k1 k5
  have a2 : repN tA N L d U := a2
  have a3 : tA.2.2.1 14 d = if stl U = true then 3 else 1 := a3
  have a6 : tA.1 8 = nI (T + k) := a6
  have k1 : okA N L U := k1
  have k5 : pc (aP V) = pc (aP U) + k := k5
  by_cases hst : stl U = true
  · rw [if_pos hst] at a3
    rw [ak_s hE hst]
    refine ⟨tA, 1, by omega, fun F => ?_, a7, a4, a5, a6⟩
    rw [Nat.add_comm 1 F]
    exact vl_next (by rw [a1]; exact as_3 (by omega) a3)
  · rw [if_neg hst] at a3
    have hp0 : aP U ≠ 0 := fun q => hst (stl_0 k1 q)
    obtain ⟨f, hf⟩ : ∃ f, tz (aP U) = f := ⟨_, rfl⟩
    rw [ak_u hE hf hst]
    obtain ⟨-, tf, -⟩ := tz_10 (aP U) (okA_p k1) (by omega)
    rw [hf] at tf
    have hpf : tP U f = true := tf
    obtain ⟨-, -, y1, x1⟩ := k1.2.2.2.2.2.2 f hpf
    have b1 := as_x a2 k1 (by omega) hp0 (s := 1) a3 (Or.inl rfl)
    rw [if_pos rfl, hf] at b1
    have hst14 : ∀ (tt : ST) (v : Int32), (wA tt 14 d v).2.2.1 14 d = v := fun tt v => by rw [rdA, if_pos ⟨rfl, rfl⟩]
    by_cases x0 : aX U f = 0
    · rw [if_pos x0, if_neg (show ¬ aX U f = aY U f by omega)]
      rw [if_pos x0] at b1
      obtain ⟨tP, t2, c, q1, q2, q3, q4, q5, q6, q7, q8, q9⟩ := ch_run hI k1 (repN_14 a2 3) hpf (b := false) (S := S + 1) (P := max P (d + 1)) (T := T + k) a4 a5 a6 (by omega) (by omega) (by omega) (by omega)
      rw [hst14] at q5
      rw [show (0 : Int32) = bz false from rfl, q1, Option.bind_some] at b1
      rw [if_neg (by decide)] at q7 q8 q9
      generalize ak n (dA1 U f) (d + 1) = X2 at *
      refine ⟨t2, c + 2, by omega, fun F => ?_, fN_t (fN_t a7 (fN_A (by omega))) q6, ?_, ?_, ?_⟩
      · rw [show c + 2 + F = (c + (F + 1)) + 1 by omega, vl_next (a1.trans b1), q3, vl_next (as_3 (by omega) q5)]
      · refine q7.trans (congrArg nI ?_); show _ = S + (1 + 0 + X2.1); omega
      · refine q8.trans (congrArg nI ?_); show _ = max P (max (d + 1) (max 0 X2.2.1)); omega
      · refine q9.trans (congrArg nI ?_); show _ = T + (k + 0 + X2.2.2); omega
    · rw [if_neg x0]
      rw [if_neg x0] at b1
      obtain ⟨tP, t2, c, q1, q2, q3, q4, q5, q6, q7, q8, q9⟩ := ch_run hI k1 (repN_14 a2 2) hpf (b := true) (S := S + 1) (P := max P (d + 1)) (T := T + k) a4 a5 a6 (by omega) (by omega) (by omega) (by omega)
      rw [hst14] at q5
      rw [show (1 : Int32) = bz true from rfl, q1, Option.bind_some] at b1
      rw [if_pos rfl] at q7 q8 q9
      have hX1 := ak_d n (cA U f) (d + 1)
      generalize ak n (cA U f) (d + 1) = X1 at *
      have b2 := as_x q4 k1 (by omega) hp0 (s := 2) q5 (Or.inr rfl)
      rw [if_neg (show ¬ 2 = 1 by decide), hf] at b2
      by_cases xy : aX U f = aY U f
      · rw [if_pos xy]
        rw [if_pos xy] at b2
        refine ⟨t2, c + 2, by omega, fun F => ?_, fN_t (fN_t a7 (fN_A (by omega))) q6, ?_, ?_, ?_⟩
        · rw [show c + 2 + F = (c + (F + 1)) + 1 by omega, vl_next (a1.trans b1), q3, vl_next b2]
        · refine q7.trans (congrArg nI ?_); show _ = S + (1 + X1.1 + 0); omega
        · refine q8.trans (congrArg nI ?_); show _ = max P (max (d + 1) (max X1.2.1 0)); omega
        · refine q9.trans (congrArg nI ?_); show _ = T + (k + X1.2.2 + 0); omega
      · rw [if_neg xy]
        rw [if_neg xy] at b2
        obtain ⟨tP2, t3, c2, r1, r2, r3, r4, r5, r6, r7, r8, r9⟩ := ch_run hI k1 (repN_14 q4 3) hpf (b := false) (S := S + 1 + X1.1) (P := max (max P (d + 1)) X1.2.1) (T := T + k + X1.2.2) q7 q8 q9 (by omega) (by omega) (by omega) (by omega)
        rw [hst14] at r5
        rw [show (0 : Int32) = bz false from rfl, r1, Option.bind_some] at b2
        rw [if_neg (by decide)] at r7 r8 r9
        generalize ak n (dA1 U f) (d + 1) = X2 at *
        refine ⟨t3, c + c2 + 3, by omega, fun F => ?_, fN_t (fN_t (fN_t (fN_t a7 (fN_A (by omega))) q6) (fN_A (by omega))) r6, ?_, ?_, ?_⟩
        · rw [show c + c2 + 3 + F = (c + ((c2 + (F + 1)) + 1)) + 1 by omega, vl_next (a1.trans b1), q3, vl_next b2, r3, vl_next (as_3 (by omega) r5)]
        · refine r7.trans (congrArg nI ?_); show _ = S + (1 + X1.1 + X2.1); omega
        · refine r8.trans (congrArg nI ?_); show _ = max P (max (d + 1) (max X1.2.1 X2.2.1)); omega
        · refine r9.trans (congrArg nI ?_); show _ = T + (k + X1.2.2 + X2.2.2); omega
theorem run_e : ∀ n, runP n := fun n => by
  induction n with
  | zero => intro N L d S P T V t h hR hs w6 w7 w8 hd hn hP hdn; exact absurd hn (Nat.not_lt_zero _)
  | succ n ih => exact run_n ih
