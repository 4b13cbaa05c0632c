/-- what the asks leave -/
def frM (t t2 : ST) : Prop := t2.2.1 = t.2.1 ∧ t2.2.2.2 = t.2.2.2 ∧ (∀ k, (k < 6 ∨ 8 < k) → t2.1 k = t.1 k) ∧ ∀ r m, (r < 6 ∨ 14 < r) → t2.2.2.1 r m = t.2.2.1 r m
theorem frM_I {b t t2 : ST} {D : ND} (h : INV b t D) (hf : frM t t2) : INV b t2 D := by
  obtain ⟨hD, hC, hM, hJ, hT, hS⟩ := h
  obtain ⟨f1, f2, f3, f4⟩ := hf
  refine ⟨hD, hC, ⟨(f3 1 (by omega)).trans hM.1, (f3 4 (by omega)).trans hM.2.1, (f3 2 (by omega)).trans hM.2.2.1, (f3 3 (by omega)).trans hM.2.2.2.1, fun k => (f4 1 k (by omega)).trans (hM.2.2.2.2.1 k), fun k => (f4 2 k (by omega)).trans (hM.2.2.2.2.2.1 k), fun k => (f4 3 k (by omega)).trans (hM.2.2.2.2.2.2.1 k), fun k => (f4 4 k (by omega)).trans (hM.2.2.2.2.2.2.2.1 k), fun k => (f4 5 k (by omega)).trans (hM.2.2.2.2.2.2.2.2 k)⟩, hJ, ?_, ?_⟩
  · obtain ⟨⟨n, n1, n2, n3⟩, t2, t3⟩ := hT
    exact ⟨⟨n, n1, n2, (f3 9 (by omega)).trans n3⟩, fun k => (t2 k).trans (f4 15 k (by omega)).symm, t3.trans (f3 10 (by omega)).symm⟩
  · obtain ⟨s1, s2, s3⟩ := hS
    exact ⟨s1.trans (f3 0 (by omega)).symm, fun s hs => ⟨(s2 s hs).1.trans (f4 0 s (by omega)).symm, (s2 s hs).2⟩, fun s i hs hi => (s3 s i hs hi).trans (by rw [f2])⟩
def inG (t : ST) (D : ND) : Nat → ST
  | 0 => t
  | k + 1 => wA (wA (wA (inG t D k) 9 k (nI (dA D k))) 10 k (nI (dE D k))) 11 k (nI (kd (uP D k) (wP D k)))
theorem inG_f (t : ST) (D : ND) : ∀ k, fP 0 t (inG t D k) ∧ (∀ r m, 11 < r → (inG t D k).2.2.1 r m = t.2.2.1 r m) ∧ ∀ j, j < k → (inG t D k).2.2.1 9 j = nI (dA D j) ∧ (inG t D k).2.2.1 10 j = nI (dE D j) ∧ (inG t D k).2.2.1 11 j = nI (kd (uP D j) (wP D j))
  | 0 => ⟨⟨rfl, rfl, rfl, fun _ _ _ => rfl⟩, fun _ _ _ => rfl, fun j hj => absurd hj (Nat.not_lt_zero j)⟩
  | k + 1 => by
    obtain ⟨g1, g2, g3⟩ := inG_f t D k
    rw [inG]
    generalize inG t D k = G at g1 g2 g3
    refine ⟨fP_t (fP_t (fP_t g1 (fP_A (by omega))) (fP_A (by omega))) (fP_A (by omega)), fun r m hr => ?_, fun j hj => ?_⟩
    · rw [rdA, rdA, rdA, if_neg (by omega), if_neg (by omega), if_neg (by omega)]
      exact g2 r m hr
    · by_cases q : j = k
      · subst q
        refine ⟨?_, ?_, ?_⟩
        · rw [rdA, rdA, rdA, if_neg (by omega), if_neg (by omega), if_pos ⟨rfl, rfl⟩]
        · rw [rdA, rdA, if_neg (by omega), if_pos ⟨rfl, rfl⟩]
        · rw [rdA, if_pos ⟨rfl, rfl⟩]
      · obtain ⟨j1, j2, j3⟩ := g3 j (by omega)
        refine ⟨?_, ?_, ?_⟩
        · rw [rdA, rdA, rdA, if_neg (by omega), if_neg (by omega), if_neg (by omega)]; exact j1
        · rw [rdA, rdA, rdA, if_neg (by omega), if_neg (by omega), if_neg (by omega)]; exact j2
        · rw [rdA, rdA, rdA, if_neg (by omega), if_neg (by omega), if_neg (by omega)]; exact j3
section AK
variable {t : ST} {D : ND}
theorem as37_e (hM : repM t D) (hD : okD D) (hT : TOB t D (uP D) (wP D)) : vLoop m_X10_asks_L37 FUEL ((0 : Int32), t) = some (inG t D (dL D)) := by
  have hL := hD.2.2.1
  refine vl_F (fun k => (nI k, inG t D k)) 0 (dL D) (by omega) (by omega) (fun k _ hk => ?_) ?_
  · obtain ⟨⟨g1, -, -, g4⟩, -, -⟩ := inG_f t D k
    obtain ⟨u1, u2, u3⟩ := uP_le hD hk
    have e1 := (g4 1 k (by omega)).trans (hM.2.2.2.2.1 k)
    have e2 := (g4 2 k (by omega)).trans (hM.2.2.2.2.2.1 k)
    have e6 := (g4 6 k (by omega)).trans (hT k hk).1
    have e7 := (g4 7 k (by omega)).trans (hT k hk).2
    unfold m_X10_asks_L37
    simp only [un, lt]
    rw [g1, hM.2.1, if_neg (by rw [qle (by omega) (by omega)]; omega)]
    simp only [gd_in (show k < 10 by omega) (show (10 : Nat) < 2 ^ 31 by decide), gd_in (show k < 120 by omega) (show (120 : Nat) < 2 ^ 31 by decide), gd_i2 (show k < 10 by omega) (show (10 : Nat) < 2 ^ 31 by decide), gd_i2 (show k < 120 by omega) (show (120 : Nat) < 2 ^ 31 by decide), nI_clamp (show k < 2 ^ 31 by omega)]
    have x2 : ∀ x, (wA (inG t D k) 9 k x).2.2.1 2 k = nI (dE D k) := fun _ => e2
    have x6 : ∀ x y, (wA (wA (inG t D k) 9 k x) 10 k y).2.2.1 6 k = nI (uP D k) := fun _ _ => e6
    have x7 : ∀ x y, (wA (wA (inG t D k) 9 k x) 10 k y).2.2.1 7 k = nI (wP D k) := fun _ _ => e7
    rw [e1, x2]
    simp only [x6, x7]
    rw [nI_1]
    have hs : inG t D (k + 1) = wA (wA (wA (inG t D k) 9 k (nI (dA D k))) 10 k (nI (dE D k))) 11 k (nI (kd (uP D k) (wP D k))) := rfl
    rw [hs]
    unfold kd
    by_cases q0 : uP D k = 0
    · rw [if_pos (by rw [q0]; rfl), if_pos q0]; rfl
    · rw [if_neg (by rw [qeq_0 (by omega)]; exact q0), if_neg q0]
      by_cases q1 : uP D k = wP D k
      · rw [if_pos (by rw [q1]), if_pos q1]; rfl
      · rw [if_neg (by rw [qeq (by omega) (by omega)]; exact q1), if_neg q1]; rfl
  · obtain ⟨⟨g1, -, -, g4⟩, -, -⟩ := inG_f t D (dL D)
    unfold m_X10_asks_L37
    simp only [un]
    rw [g1, hM.2.1, if_pos (by rw [qle (by omega) (by omega)]; omega)]
theorem asks_e (hM : repM t D) (hD : okD D) : ∃ t2, m_X10_asks t = some t2 ∧ frM t t2 ∧ t2.1 6 = nI (ak 12 (aV D) 0).1 ∧ t2.1 7 = nI (ak 12 (aV D) 0).2.1 ∧ t2.1 8 = nI (ak 12 (aV D) 0).2.2 := by
  have hL := hD.2.2.1
  obtain ⟨f, g, q1, q2⟩ := asIt_e hM hD
  have hfr : frM t (wD (wD t 6 f) 7 g) := by
    refine ⟨rfl, rfl, fun _ _ => rfl, fun r m hr => ?_⟩
    show (if r = 7 then g else if r = 6 then f else t.2.2.1 r) m = _
    rw [if_neg (by omega), if_neg (by omega)]
  have hM2 : repM (wD (wD t 6 f) 7 g) D := hM
  generalize wD (wD t 6 f) 7 g = u at q1 q2 hfr hM2
  have hx : ((1 : Int32) <<< (u.1 4 &&& 31)) - (1 : Int32) = nI (2 ^ dL D - 1) := by
    rw [hM2.2.1, shl_1 _ (by omega)]
    exact pk_sub (Nat.one_le_two_pow)
  unfold m_X10_asks
  rw [q1, Option.bind_some]
  dsimp only [lt]
  rw [hx, gd_t (by decide), waM_e (t := wA u 12 (0 : Int32).toNatClampNeg (nI (2 ^ dL D - 1))) hM2 hD, Option.bind_some, gd_t (by decide), gd_t (by decide), show (0 : Int32).toNatClampNeg = 0 from rfl]
  have hM3 : repM (wA (wA (wA u 12 0 (nI (2 ^ dL D - 1))) 13 0 (nI (dW D))) 14 0 0) D := hM2
  have hT3 : TOB (wA (wA (wA u 12 0 (nI (2 ^ dL D - 1))) 13 0 (nI (dW D))) 14 0 0) D (uP D) (wP D) := q2
  have hf3 : fP 0 u (wA (wA (wA u 12 0 (nI (2 ^ dL D - 1))) 13 0 (nI (dW D))) 14 0 0) := fP_t (fP_t (fP_A (by omega)) (fP_A (by omega))) (fP_A (by omega))
  have z12 : (wA (wA (wA u 12 0 (nI (2 ^ dL D - 1))) 13 0 (nI (dW D))) 14 0 0).2.2.1 12 0 = nI (2 ^ dL D - 1) := rfl
  have z13 : (wA (wA (wA u 12 0 (nI (2 ^ dL D - 1))) 13 0 (nI (dW D))) 14 0 0).2.2.1 13 0 = nI (dW D) := rfl
  have z14 : (wA (wA (wA u 12 0 (nI (2 ^ dL D - 1))) 13 0 (nI (dW D))) 14 0 0).2.2.1 14 0 = 0 := rfl
  generalize wA (wA (wA u 12 0 (nI (2 ^ dL D - 1))) 13 0 (nI (dW D))) 14 0 0 = v at *
  rw [as37_e hM3 hD hT3, Option.bind_some]
  obtain ⟨g1, g2, g3⟩ := inG_f v D (dL D)
  generalize inG v D (dL D) = G at *
  have hR : repN (wI (wI (wI G 6 0) 7 0) 8 0) (dN D) (dL D) 0 (aV D) := by
    refine ⟨?_, ?_, (g2 12 0 (by omega)).trans z12, (g2 13 0 (by omega)).trans z13, fun i hi => ?_⟩
    · show G.1 1 = _
      rw [g1.1]; exact hM3.1
    · show G.1 4 = _
      rw [g1.1]; exact hM3.2.1
    · rw [aV_t] at hi
      have h3 := g3 i (of_decide_eq_true hi)
      rw [show 10 * 0 + i = i by omega]
      exact h3
  have hp := pc_10 hD
  obtain ⟨t2, c, r1, r2, r3, r4, r5, r6⟩ := run_e 12 (S := 0) (P := 0) (T := 0) (aV_ok hD) hR ((g2 14 0 (by omega)).trans z14) rfl rfl rfl (by omega) (by omega) (by omega) (by omega)
  have hc : c ≤ 8192 := by have : (2 : Nat) * 2 ^ 12 = 8192 := by decide
                           omega
  have hrun : vLoop m_X10_asks_L131 FUEL ((0 : Int32), wI (wI (wI G 6 0) 7 0) 8 0) = some t2 := by
    have h1 := r2 (FUEL - c)
    rw [show c + (FUEL - c) = FUEL by unfold FUEL; omega] at h1
    refine h1.trans ?_
    rw [show FUEL - c = (FUEL - c - 1) + 1 by unfold FUEL; omega]
    refine vl_stop ?_
    unfold m_X10_asks_L131
    simp only [un]
    rw [if_pos (by decide)]
  rw [hrun, Option.bind_some]
  rw [Nat.zero_add] at r4 r6
  rw [Nat.max_eq_right (Nat.zero_le _)] at r5
  refine ⟨t2, rfl, ⟨?_, ?_, fun k hk => ?_, fun r m hr => ?_⟩, r4, r5, r6⟩
  · rw [r3.1, ← hfr.1, ← hf3.2.1]; exact g1.2.1
  · rw [r3.2.1, ← hfr.2.1, ← hf3.2.2.1]; exact g1.2.2.1
  · rw [r3.2.2.1 k hk, ← hfr.2.2.1 k hk, ← hf3.1, ← g1.1]
    show (if k = 8 then _ else if k = 7 then _ else if k = 6 then _ else G.1 k) = G.1 k
    rw [if_neg (by omega), if_neg (by omega), if_neg (by omega)]
  · rw [r3.2.2.2 r m (by omega), ← hfr.2.2.2 r m hr, ← hf3.2.2.2 r m (by omega)]
    exact g1.2.2.2 r m (by omega)
end AK
