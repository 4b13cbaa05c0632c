section AV
variable {b : ST} {D : ND}
theorem pr_ge {y : Nat → Nat} {P : Nat → Bool} {L : Nat} (h : ∀ k, L ≤ k → P k = false) : ∀ m, pr y P (L + m) = pr y P L
  | 0 => rfl
  | m + 1 => by
    show pr y P ((L + m) + 1) = _
    rw [pr, h (L + m) (by omega)]
    exact pr_ge h m
theorem RZ_ge {a e x z : Nat → Nat} {W : Nat} {P : Nat → Bool} {L : Nat} {U : EL} (h : ∀ k, L ≤ k → P k = false) : ∀ m, RZ a e x z W P (L + m) U = RZ a e x z W P L U
  | 0 => rfl
  | m + 1 => by
    show RZ a e x z W P ((L + m) + 1) U = _
    rw [RZ, h (L + m) (by omega)]
    exact RZ_ge h m
theorem aV_n (D : ND) (k : Nat) (h : dL D ≤ k) : tP (aV D) k = false := by rw [aV_t, decide_eq_false (by omega)]
theorem aV_Y (hD : okD D) : pY (aV D) = pr (wP D) PA (dL D) := by
  have h10 := hD.2.2.1
  have := pr_ge (y := aY (aV D)) (aV_n D) (10 - dL D)
  rw [show dL D + (10 - dL D) = 10 by omega] at this
  unfold pY
  rw [this]
  exact pr_cong (fun k hk => by rw [aV_t, decide_eq_true hk]) (fun k _ _ => rfl)
theorem aV_Z (hD : okD D) : rZ (aV D) = RS D (uP D) (wP D) := by
  have h10 := hD.2.2.1
  have := RZ_ge (a := aA (aV D)) (e := aE (aV D)) (x := aX (aV D)) (z := zz (aX (aV D)) (aY (aV D))) (W := aW (aV D)) (U := []) (aV_n D) (10 - dL D)
  rw [show dL D + (10 - dL D) = 10 by omega] at this
  unfold rZ
  have h3 := RZ_cong (a := aA (aV D)) (e := aE (aV D)) (x := aX (aV D)) (z := zz (aX (aV D)) (aY (aV D))) (W := aW (aV D)) (P := tP (aV D)) (U := []) (P2 := fun _ => true) (a2 := dA D) (e2 := dE D) (x2 := uP D) (z2 := zz (uP D) (wP D)) (n := dL D) (fun k hk => by rw [aV_t, decide_eq_true hk]) (fun k _ _ => ⟨rfl, rfl, rfl, rfl⟩)
  rw [this, h3]
  have h2 := sm_RZ (a := dA D) (e := dE D) (x := uP D) (z := zz (uP D) (wP D)) (W := dW D) (n := dL D) (U := [])
  show RZ (dA D) (dE D) (uP D) (zz (uP D) (wP D)) (dW D) (fun _ => true) (dL D) [] = _
  rw [← h2]
  unfold RS rch EDD
  simp only [List.append_nil]
theorem aV_ok (hD : okD D) : okA (dN D) (dL D) (aV D) := by
  refine ⟨hD.2.1, hD.2.2.1, ?_, dW_lt hD, fun q => ?_, ?_, fun k hk => ?_⟩
  · show 2 ^ dL D - 1 < _
    have := Nat.two_pow_pos (dL D)
    omega
  · have h2 := dW_src D
    rw [show dW D = 0 from q, Nat.zero_testBit] at h2
    cases h2
  · rw [aV_Y hD]; exact (okW_pr (okW_D hD)).2
  · rw [aV_t] at hk
    have hk := of_decide_eq_true hk
    obtain ⟨h1, h2, -⟩ := hD.2.2.2.2.2 k hk
    obtain ⟨u1, u2, u3⟩ := uP_le hD hk
    exact ⟨Nat.lt_trans h1 h2, h2, u2, u1⟩
theorem pc_10 (hD : okD D) : pc (aP (aV D)) ≤ 10 := by
  have h10 := hD.2.2.1
  have h1 : ∀ n, n ≤ 10 → pc (2 ^ n - 1) ≤ 10 := by decide +kernel
  exact h1 _ h10
/-- all asked -/
theorem aa_e (hC : repC b D) (hD : okD D) (w : Nat → ST) : ∃ w', m_X0_askAll b w = some (K3 b (ak 12 (aV D) 0).1 (ak 12 (aV D) 0).2.1 (ak 12 (aV D) 0).2.2, w') ∧ (w' 0).2.1 0 = lN (rA (RS D (uP D) (wP D)) (pr (wP D) PA (dL D))) ∧ (w' 0).2.1 1 = lN (rB (RS D (uP D) (wP D)) (pr (wP D) PA (dL D))) := by
  have hC2 : repC (K3 b 0 0 0) D := hC
  obtain ⟨t2, h1, h2, h3, h4⟩ := ta_e hC2 hD (w 0)
  have hp := pc_10 hD
  obtain ⟨w', a1, a2, a3, -⟩ := ask_e 12 (V := aV D) (N := dN D) (L := dL D) (d := 0) (S := 0) (P := 0) (T := 0) (b := b) (w := va_up w 0 t2) (aV_ok hD) (by rw [vu_s]; exact h2) (by rw [vu_s]; exact h3) (by rw [vu_s]; exact h4) (by omega) (by omega) (by omega) (by omega)
  rw [aV_Z hD, aV_Y hD] at a2 a3
  refine ⟨w', ?_, a2, a3⟩
  unfold m_X0_askAll
  dsimp only [lt]
  rw [gd_t (by decide), show (0 : Int32).toNatClampNeg = 0 from rfl, show wI (wI (wI b 4 0) 5 0) 6 0 = K3 b 0 0 0 from rfl, h1, Option.bind_some, show (0 : Int32) = nI 0 from rfl, a1, Option.bind_some, un_f, Nat.zero_add, Nat.zero_add, Nat.max_eq_right (Nat.zero_le _)]
end AV
