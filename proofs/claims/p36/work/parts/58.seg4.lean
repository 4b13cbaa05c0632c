/-! the law's round: a better chance, the worthiest link, each link up and down, what is told at first -/
section G4
variable {b : ST} {w : Nat → ST} {v : Nat → Int32} {D : ND}
theorem sg_342 (y3 y4 : Int32) (h : DK b D) (hv0 : v 0 = nI (dN D)) (hv1 : v 1 = nI (dL D)) (hv2 : v 2 = nI (dW D)) : OUT (m_L_law_S342 y3 y4 (lN (fr (RR D) (TT D) 0)) (lN (fr (RR D) (TT D) 1)) b w v) v := by
  have hD := h.1
  have hL := hD.2.2.1
  obtain ⟨k, hk, e1⟩ := lup_e y4 (n := 10) (by decide) (by decide)
  unfold m_L_law_S342
  simp only [gk1]
  simp only [cz1]
  rw [show m_L_up y4 (10 : Int32) = _ from e1, Option.bind_some]
  by_cases hkL : dL D ≤ k
  · refine OUT.e ?_ (sg_469 (w := w) y3 y4 h hv0 hv1 hv2)
    rw [if_pos (show v 1 ≤ nI k by rw [hv1, qle (by omega) (by omega)]; exact hkL)]
  · have hkL : k < dL D := by omega
    obtain ⟨-, -, q1, q9, pq, -⟩ := hD.2.2.2.2.2 k hkL
    obtain ⟨i2, i3, -⟩ := ka_info h hkL
    obtain ⟨b1, s1, h1⟩ := ka_better h hkL q1 q9 pq (x := 0) (Or.inl rfl)
    obtain ⟨b2, s2, h2⟩ := ka_better h1 hkL q1 q9 pq (x := 1) (Or.inr rfl)
    obtain ⟨b3, s3, h3⟩ := ka_better h2 hkL q1 q9 (Nat.le_refl (dQ D k)) (x := 0) (Or.inl rfl)
    obtain ⟨b4, s4, h4⟩ := ka_better h3 hkL q1 q9 (Nat.le_refl (dQ D k)) (x := 1) (Or.inr rfl)
    obtain ⟨j2, j3, -⟩ := ka_info h4 hkL
    have hW : ∀ p, p ≤ dQ D k → okW (dL D) (va_up (uP D) k p) (va_up (wP D) k (dQ D k)) := fun p hp => ⟨hL, fun l hl => by
      by_cases h : l = k
      · subst h; rw [up_k, up_k]; omega
      · rw [up_n h, up_n h]; exact uP_le hD hl⟩
    obtain ⟨t1, t2⟩ := okW_pr (hW _ pq)
    have r1 := RS_lt (D := D) (hW _ pq)
    have r2 := RS_lt (D := D) (hW _ (Nat.le_refl _))
    have hb := RS_better hD hkL pq
    have l1 := less_fr (A := RS D (va_up (uP D) k (dQ D k)) (va_up (wP D) k (dQ D k))) (C := RS D (va_up (uP D) k (dP D k)) (va_up (wP D) k (dQ D k))) t1 (by omega) (by omega) (by omega)
    refine OUT.e ?_ (sg_469 (w := w) y3 y4 h4 hv0 hv1 hv2)
    rw [if_neg (show ¬ v 1 ≤ nI k by rw [hv1, qle (by omega) (by omega)]; omega), i3, Option.bind_some, i2, Option.bind_some, s1, Option.bind_some, un_f, s2, Option.bind_some, un_f, s3, Option.bind_some, un_f, s4, Option.bind_some, un_f, l1, Option.bind_some, ifz (by omega), j2, Option.bind_some, if_pos rfl, j3, Option.bind_some, if_pos rfl]
theorem worth_T (hD : okD D) {k : Nat} (hk : k < dL D) (x : Int32) : fr (WA D k) (WB D k) x = fr (wP D k * WA D k) (TT D) x := by
  obtain ⟨w1, w2, w3⟩ := uP_le hD hk
  unfold TT
  rw [pr_k hk]
  exact (fr_mul w2).symm
theorem l243 (h : DK b D) (hv1 : v 1 = nI (dL D)) : ∃ b', vLoop (m_L_law_L243 (amI (am D (dL D)))) FUEL ((0 : Int32), b, w, v) = some (.inl (b', w, v)) ∧ DK b' D := by
  have hD := h.1
  have hL := hD.2.2.1
  obtain ⟨t1, t2⟩ := TT_pos hD
  have hwb : ∀ k, k < dL D → wP D k * WA D k ≤ 9 * 3486784401 := fun k hk => Nat.mul_le_mul (uP_le hD hk).2.2 (Nat.le_trans (WA_le hD) (WB_pos hD (k := k)).2)
  obtain ⟨e, he, b', rfl, h'⟩ := vl_totF (B := m_L_law_L243 (amI (am D (dL D)))) (fun m st => ∃ k b, k ≤ dL D ∧ m = dL D - k ∧ st = (nI k, b, w, v) ∧ DK b D) (fun e => ∃ b', e = .inl (b', w, v) ∧ DK b' D) (by
    rintro m st ⟨k, b, hk, rfl, rfl, h⟩
    unfold m_L_law_L243
    simp only [un, gk1]
    simp only [cz1, hv1]
    by_cases hkL : k = dL D
    · left
      rw [if_pos (by rw [qle (by omega) (by omega)]; omega)]
      exact ⟨_, rfl, b, rfl, h⟩
    · right
      have hkl : k < dL D := by omega
      obtain ⟨-, -, i4⟩ := ka_info h hkl
      obtain ⟨-, -, -, -, -, v2⟩ := hD.2.2.2.2.2 k hkl
      have hnx : ∀ b1, DK b1 D → ∃ t, (some (Sum.inl (nI (k + 1), b1, w, v)) : Option ((Int32 × ST × (Nat → ST) × (Nat → Int32)) ⊕ ((ST × (Nat → ST) × (Nat → Int32)) ⊕ (Int32 × ST × (Nat → ST) × (Nat → Int32))))) = some (.inl t) ∧ ∃ j, j < dL D - k ∧ ∃ k b, k ≤ dL D ∧ j = dL D - k ∧ t = (nI k, b, w, v) ∧ DK b D := fun b1 h1 => ⟨_, rfl, dL D - (k + 1), by omega, k + 1, b1, by omega, rfl, rfl, h1⟩
      rw [if_neg (by rw [qle (by omega) (by omega)]; omega), i4, Option.bind_some]
      cases ha : am D (dL D) with
      | none =>
        have h0 := am_none ha k hkl
        have hne : ¬ amI none = nI k := fun q => by
          have := (fa_eq _ _).mp q
          rw [show amI none = (-1 : Int32) from rfl, nI_toInt (by omega), show (-1 : Int32).toInt = -1 from by decide] at this
          omega
        rw [if_neg (show ¬ nI (dV D k) = 0 by rw [qeq_0 (by omega)]; exact h0), Option.bind_some, if_neg (show ¬ 0 ≤ amI none by decide), if_pos rfl, if_pos (show amI none < 0 by decide), if_neg hne, lt_f, nI_1]
        exact hnx b h
      | some i =>
        have hi := am_lt ha
        obtain ⟨a1, a2⟩ := am_some ha
        by_cases h0 : dV D k = 0
        · obtain ⟨b1, s1, h1⟩ := ka_worth h hi (x := 0) (Or.inl rfl)
          obtain ⟨b2, s2, h2⟩ := ka_worth h1 hi (x := 1) (Or.inr rfl)
          obtain ⟨b3, s3, h3⟩ := ka_worth h2 hkl (x := 0) (Or.inl rfl)
          obtain ⟨b4, s4, h4⟩ := ka_worth h3 hkl (x := 1) (Or.inr rfl)
          rw [worth_T hD hi] at s1 s2
          rw [worth_T hD hkl] at s3 s4
          have g1 := hwb i hi
          have g2 := hwb k hkl
          have g3 := a2 k hkl h0
          have l1 := less_fr (A := wP D i * WA D i) (C := wP D k * WA D k) t1 (by omega) (by omega) (by omega)
          rw [if_pos (show nI (dV D k) = 0 by rw [h0]; rfl), Option.bind_some, if_pos (show 0 ≤ amI (some i) from nI_pos' (by omega)), if_neg (amI_neg (by omega)), if_neg (by decide), show m_X9_worth b (amI (some i)) (0 : Int32) = _ from s1, Option.bind_some]
          dsimp only
          rw [show m_X9_worth b1 (amI (some i)) (1 : Int32) = _ from s2, Option.bind_some]
          dsimp only
          rw [s3, Option.bind_some]
          dsimp only
          rw [s4, Option.bind_some]
          dsimp only
          rw [l1, Option.bind_some, ifz (by omega)]
          by_cases hik : amI (some i) = nI k
          · rw [if_pos hik, if_neg (by decide), lt_f, nI_1]
            exact hnx b4 h4
          · rw [if_neg hik, lt_f, nI_1]
            exact hnx b4 h4
        · have hne : ¬ amI (some i) = nI k := fun q => by
            have q : nI i = nI k := q
            rw [nI_eq (by omega) (by omega)] at q
            subst q
            exact h0 a1
          rw [if_neg (show ¬ nI (dV D k) = 0 by rw [qeq_0 (by omega)]; exact h0), Option.bind_some, if_pos (show 0 ≤ amI (some i) from nI_pos' (by omega)), if_neg (amI_neg (by omega)), if_pos rfl, if_neg hne, lt_f, nI_1]
          exact hnx b h) (i := dL D - 0) (s := ((0 : Int32), b, w, v)) (by omega) ⟨0, b, Nat.zero_le _, rfl, rfl, h⟩
  exact ⟨b', he, h'⟩
theorem sg_234 (y3 y4 : Int32) (h : DK b D) (hv0 : v 0 = nI (dN D)) (hv1 : v 1 = nI (dL D)) (hv2 : v 2 = nI (dW D)) : OUT (m_L_law_S234 y3 y4 (lN (fr (RR D) (TT D) 0)) (lN (fr (RR D) (TT D) 1)) b w v) v := by
  obtain ⟨b1, s1, h1⟩ := ka_worthiest h
  obtain ⟨b2, s2, h2⟩ := l243 (w := w) h1 hv1
  refine OUT.e ?_ (sg_342 (w := w) y3 y4 h2 hv0 hv1 hv2)
  unfold m_L_law_S234
  rw [s1, Option.bind_some, un_f, s2, Option.bind_some, ex_in, un_f, un_f]
theorem sg_210 (y3 y4 : Int32) (h : DK b D) (hv0 : v 0 = nI (dN D)) (hv1 : v 1 = nI (dL D)) (hv2 : v 2 = nI (dW D)) : OUT (m_L_law_S210 y3 y4 (lN (fr (RR D) (TT D) 0)) (lN (fr (RR D) (TT D) 1)) b w v) v := by
  obtain ⟨b1, s1, h1⟩ := ka_reach h (x := 0) (Or.inl rfl)
  obtain ⟨b2, s2, h2⟩ := ka_reach h1 (x := 1) (Or.inr rfl)
  refine OUT.e ?_ (sg_234 (w := w) y3 y4 h2 hv0 hv1 hv2)
  unfold m_L_law_S210
  rw [s1, Option.bind_some, un_f, if_pos (cmp0 _), s2, Option.bind_some, un_f, if_pos (cmp0 _)]
theorem l185 (h : DK b D) (hv1 : v 1 = nI (dL D)) : ∃ b', vLoop m_L_law_L185 FUEL ((0 : Int32), b, w, v) = some (.inl (b', w, v)) ∧ DK b' D := by
  have hL := h.1.2.2.1
  obtain ⟨e, he, b', rfl, h'⟩ := vl_totF (B := m_L_law_L185) (fun m st => ∃ k b, k ≤ dL D ∧ m = dL D - k ∧ st = (nI k, b, w, v) ∧ DK b D) (fun e => ∃ b', e = .inl (b', w, v) ∧ DK b' D) (by
    rintro m st ⟨k, b, hk, rfl, rfl, h⟩
    unfold m_L_law_L185
    simp only [un, gk1]
    simp only [cz1, hv1]
    by_cases hkL : k = dL D
    · left
      rw [if_pos (by rw [qle (by omega) (by omega)]; omega)]
      exact ⟨_, rfl, b, rfl, h⟩
    · right
      obtain ⟨b1, s1, h1⟩ := splits_e h (k := k) (by omega)
      rw [if_neg (by rw [qle (by omega) (by omega)]; omega), s1, Option.bind_some]
      dsimp only
      rw [if_neg (by decide), lt_f, nI_1]
      exact ⟨_, rfl, dL D - (k + 1), by omega, k + 1, b1, by omega, rfl, rfl, h1⟩) (i := dL D - 0) (s := ((0 : Int32), b, w, v)) (by omega) ⟨0, b, Nat.zero_le _, rfl, rfl, h⟩
  exact ⟨b', he, h'⟩
theorem sg_182 (y3 y4 : Int32) (h : DK b D) (hv0 : v 0 = nI (dN D)) (hv1 : v 1 = nI (dL D)) (hv2 : v 2 = nI (dW D)) : OUT (m_L_law_S182 y3 y4 (lN (fr (RR D) (TT D) 0)) (lN (fr (RR D) (TT D) 1)) b w v) v := by
  obtain ⟨b1, s1, h1⟩ := l185 (w := w) h hv1
  refine OUT.e ?_ (sg_210 (w := w) y3 y4 h1 hv0 hv1 hv2)
  unfold m_L_law_S182
  rw [s1, Option.bind_some, ex_in, un_f, un_f]
end G4
