section TF
theorem ex_in {α β γ : Type} (a : α) (f : α → Option γ) (k : β → Option γ) : ex (.inl a) f k = f a := rfl
variable {b : ST} {D : ND}
theorem tl_loop {L X N M : Nat} {xs : Nat → Int32} {r2 : Int32} {w : Nat → ST} (hL : L ≤ 260) (hX : X ≤ 100) (hM : M ≤ 10) {b0 : ST} {v0 : Nat → Int32} {D0 : ND} (h : DK b0 D0) (hN : dN D0 = N) (hi : dL D0 = 0) (hS : dS D0 = 0) (hG : dG D0 = 0) (hv0 : v0 0 = nI N) (hv1 : v0 1 = nI M) : ∃ b' v' D', vLoop (m_L_tells_L47 (nI X) r2 L xs) FUEL ((0 : Int32), b0, w, v0) = some (.inl (b', w, v')) ∧ DK b' D' ∧ dN D' = N ∧ dL D' = M ∧ dS D' = 0 ∧ dG D' = 0 ∧ v' 0 = nI N ∧ v' 1 = nI M := by
  obtain ⟨e, he, b', v', D', rfl, g1, g2, g3, g4, g5, g6, g7⟩ := vl_totF (B := m_L_tells_L47 (nI X) r2 L xs) (fun m st => ∃ i b v D, i ≤ M ∧ m = M - i ∧ st = (nI i, b, w, v) ∧ DK b D ∧ dN D = N ∧ dL D = i ∧ dS D = 0 ∧ dG D = 0 ∧ v 0 = nI N ∧ v 1 = nI M) (fun e => ∃ b v D, e = .inl (b, w, v) ∧ DK b D ∧ dN D = N ∧ dL D = M ∧ dS D = 0 ∧ dG D = 0 ∧ v 0 = nI N ∧ v 1 = nI M) (by
    rintro m st ⟨i, b, v, D, h1, rfl, rfl, k1, k2, k3, k4, k5, k6, k7⟩
    by_cases hiM : i = M
    · left
      refine ⟨.inl (b, w, v), ?_, b, v, D, rfl, k1, k2, by omega, k4, k5, k6, k7⟩
      unfold m_L_tells_L47
      simp only [un, gk0, gk1]
      simp only [cz1, k7]
      rw [if_pos (by rw [qle (by omega) (by omega)]; omega)]
    · right
      obtain ⟨b', v', D', e1, e2, e3, e4, e5, e6, e7, e8⟩ := tl_step (r2 := r2) (w := w) (v := v) (xs := xs) hL hX k1 k2 k3 hM (by omega) k4 k5 k6 k7
      exact ⟨_, e1, M - (i + 1), by omega, i + 1, b', v', D', by omega, rfl, rfl, e2, e3, e4, e5, e6, e7, e8⟩) (i := M - 0) (s := ((0 : Int32), b0, w, v0)) (by omega) ⟨0, b0, v0, D0, Nat.zero_le _, rfl, rfl, h, hN, hi, hS, hG, hv0, hv1⟩
  exact ⟨b', v', D', he, g1, g2, g3, g4, g5, g6, g7⟩
theorem tells_e {L X : Nat} {xs : Nat → Int32} {w : Nat → ST} {v : Nat → Int32} (hL : L ≤ 260) (hX : X ≤ 100) (h : DK b D) : ∃ b' v' D', m_L_tells L xs b w v (nI X) = some ((1 : Int32), b', w, v') ∧ DK b' D' ∧ v' 0 = nI (dN D') ∧ v' 1 = nI (dL D') ∧ v' 2 = nI (dW D') := by
  have hD := h.1
  have hN0 := hD.1
  have hN7 := hD.2.1
  obtain ⟨c, hc⟩ := cell_e xs hL (k := X) (by omega)
  obtain ⟨j0, h0, e0⟩ := lup_e c (n := 6) (by decide) (by decide)
  obtain ⟨M, hM, e1⟩ := lup_e (c >>> ((3 : Int32) &&& 31)) (n := 11) (by decide) (by decide)
  obtain ⟨v1, ev1⟩ : ∃ y, y = upd v 0 (nI (2 + j0)) := ⟨_, rfl⟩
  obtain ⟨v2, ev2⟩ : ∃ y, y = upd v1 1 (nI M) := ⟨_, rfl⟩
  have hv0 : v2 0 = nI (2 + j0) := by rw [ev2, upd_o (by decide), ev1, upd_s]
  have hv1 : v2 1 = nI M := by rw [ev2, upd_s]
  obtain ⟨b1, s1, h1⟩ := ka_stations h (n := 2 + j0) (by omega) (by omega)
  obtain ⟨b2, v3, D2, l1, h2, d1, d2, d3, d4, d5, d6⟩ := tl_loop (r2 := c) (w := w) (xs := xs) hL hX (show M ≤ 10 by omega) h1 rfl rfl rfl rfl hv0 hv1
  have d1 : dN D2 = 2 + j0 := d1
  have hN : 2 ^ (2 + j0) ≤ 2 ^ 7 := Nat.pow_le_pow_right (by decide) (by omega)
  obtain ⟨S, hS, e2⟩ := lup_e (c >>> ((9 : Int32) &&& 31)) (n := 2 + j0) (by omega) (by omega)
  obtain ⟨G, hG, e3⟩ := lup_e (c >>> ((12 : Int32) &&& 31)) (n := 2 ^ (2 + j0)) (Nat.two_pow_pos _) (by omega)
  obtain ⟨b3, s3, h3⟩ := ka_source h2 (k := S) (by omega)
  obtain ⟨b4, s4, h4⟩ := ka_goals h3 (n := G) (by show G < 2 ^ dN D2; rw [d1]; exact hG)
  have s5 := ka_count1 h4
  rw [d3] at s3
  have s4 : m_X9_goals b3 (nI G) = some (nI (dG D2), b4) := s4
  rw [d4] at s4
  have s5 : m_X9_count b4 (1 : Int32) = some (nI (dL D2)) := s5
  rw [d2] at s5
  obtain ⟨v4, ev4⟩ : ∃ y, y = upd v3 2 (nI (G ||| 2 ^ S)) := ⟨_, rfl⟩
  have q0 : v4 0 = nI (2 + j0) := by rw [ev4, upd_o (by decide), d5]; rfl
  have q1 : v4 1 = nI M := by rw [ev4, upd_o (by decide), d6]
  have q2 : v4 2 = nI (G ||| 2 ^ S) := by rw [ev4, upd_s]
  refine ⟨b4, v4, dGo (dSrc D2 S) G, ?_, h4, ?_, ?_, q2⟩
  · unfold m_L_tells
    simp only [gk0, gk1, gk2]
    simp only [cz0, cz1, cz2]
    rw [hc, Option.bind_some, show m_L_up c (6 : Int32) = _ from e0, Option.bind_some, lt_f, show (2 : Int32) + nI j0 = nI (2 + j0) from nI_add 2 j0, ← ev1, show m_L_up (c >>> ((3 : Int32) &&& 31)) (11 : Int32) = _ from e1, Option.bind_some, lt_f, ← ev2, hv0, s1, Option.bind_some, un_f, if_pos (show (2 : Int32) ≤ nI (dN D) by show nI 2 ≤ nI (dN D); rw [qle (by omega) (by omega)]; exact hN0), l1, Option.bind_some, ex_in]
    rw [un_f, un_f, show v3 0 = nI (2 + j0) from d5, e2, Option.bind_some, shl_1 _ (by omega), e3, Option.bind_some, lt_f, shl_1 _ (by omega), fa_or, ← ev4, s3, Option.bind_some, un_f, if_pos (show nI 0 = (0 : Int32) from rfl), s4, Option.bind_some, un_f, if_pos (show nI 0 = (0 : Int32) from rfl), s5, Option.bind_some, if_pos q1.symm]
  · rw [q0, ← d1]; rfl
  · rw [q1, ← d2]; rfl
end TF
