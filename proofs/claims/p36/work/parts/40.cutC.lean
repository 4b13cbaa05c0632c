/-! the class's cutting and joining -/
theorem wA_00 (t : ST) (i : Nat) (v : Int32) (j : Nat) : (wA t 0 i v).2.2.1 0 j = if j = i then v else t.2.2.1 0 j := rfl
theorem wA_11 (t : ST) (i : Nat) (v : Int32) (j : Nat) : (wA t 1 i v).2.2.1 1 j = if j = i then v else t.2.2.1 1 j := rfl
def cop (o s : ST) (k : Nat) : Prop := s.2.2.1 0 k = o.2.2.1 0 k ∧ s.2.2.1 1 k = o.2.2.1 1 k ∧ s.2.2.2 0 k = o.2.2.2 0 k ∧ s.2.2.2 1 k = o.2.2.2 1 k
section CC
variable {t o : ST} {V : AN} {N L : Nat}
theorem tc_e {i : Nat} (hR : repT o V) (hi : i < 10) : ∃ t2, m_X8_takeCut t o (nI i) = some t2 ∧ t2.1 0 = nI (wo (aP V) (2 ^ i)) ∧ t2.1 1 = o.1 1 ∧ (∀ k, k < 10 → cop o t2 k) ∧ t2.2.1 0 = lN 0 ∧ t2.2.1 1 = lN 1 := by
  unfold m_X8_takeCut m_X8_answer
  dsimp only [lt]
  rw [hR.1, shl_1 i (by omega), wo_i]
  obtain ⟨e, he, hQ⟩ := vl_totF (B := m_X8_takeCut_L24 o) (fun c st => ∃ k s, k ≤ 10 ∧ c = 10 - k ∧ st = (nI k, s) ∧ s.1 0 = nI (wo (aP V) (2 ^ i)) ∧ s.1 1 = o.1 1 ∧ ∀ j, j < k → cop o s j) (fun s => s.1 0 = nI (wo (aP V) (2 ^ i)) ∧ s.1 1 = o.1 1 ∧ ∀ j, j < 10 → cop o s j) (by
    rintro c st ⟨k, s, hk, rfl, rfl, e0, e1, hc⟩
    unfold m_X8_takeCut_L24
    simp only [un, lt]
    by_cases h10 : k = 10
    · left
      rw [if_pos (by rw [qle_10 (by omega)]; omega)]
      exact ⟨_, rfl, e0, e1, fun j hj => hc j (by omega)⟩
    · right
      rw [if_neg (by rw [qle_10 (by omega)]; omega)]
      simp only [gd_in (show k < 10 by omega) (show (10 : Nat) < 2 ^ 31 by decide)]
      simp only [nI_clamp (show k < 2 ^ 31 by omega), nI_1]
      refine ⟨_, rfl, 10 - (k + 1), by omega, k + 1, _, by omega, rfl, rfl, e0, e1, fun j hj => ?_⟩
      by_cases hjk : j = k
      · subst hjk
        refine ⟨?_, ?_, ?_, ?_⟩
        · show (if j = j then _ else _) = _
          rw [if_pos rfl]
        · show (if j = j then _ else _) = _
          rw [if_pos rfl]
        · show (if j = j then _ else _) = _
          rw [if_pos rfl]
        · show (if j = j then _ else _) = _
          rw [if_pos rfl]
      · obtain ⟨c1, c2, c3, c4⟩ := hc j (by omega)
        refine ⟨?_, ?_, ?_, ?_⟩
        · show (if j = k then _ else _) = _
          rw [if_neg hjk]; exact c1
        · show (if j = k then _ else _) = _
          rw [if_neg hjk]; exact c2
        · show (if j = k then _ else _) = _
          rw [if_neg hjk]; exact c3
        · show (if j = k then _ else _) = _
          rw [if_neg hjk]; exact c4) (i := 10 - 0) (s := ((0 : Int32), wI (wI t 0 (nI (wo (aP V) (2 ^ i)))) 1 (o.1 1))) (by omega) ⟨0, _, by omega, rfl, rfl, rfl, rfl, fun j hj => absurd hj (Nat.not_lt_zero j)⟩
  rw [he, Option.bind_some, Option.bind_some]
  exact ⟨_, rfl, hQ.1, hQ.2.1, hQ.2.2, rfl, rfl⟩
theorem tc_R {i : Nat} {t2 : ST} (h : okA N L V) (hR : repT o V) (e0 : t2.1 0 = nI (wo (aP V) (2 ^ i))) (e1 : t2.1 1 = o.1 1) (hc : ∀ k, k < 10 → cop o t2 k) : repT t2 (dA1 V i) := ⟨e0, by rw [e1]; exact hR.2.1, fun k hk => by
  rw [dA1_t] at hk
  have hk := (wi_t hk).1
  obtain ⟨r1, r2, r3, r4⟩ := hR.2.2 k hk
  obtain ⟨c1, c2, c3, c4⟩ := hc k (okA_10 h hk).2
  exact ⟨by rw [c1]; exact r1, by rw [c2]; exact r2, by rw [c3]; exact r3, by rw [c4]; exact r4⟩⟩
def jI (lo hi x : Int32) : Int32 := if x = hi then lo else x
theorem tj_e {i : Nat} (h : okA N L V) (hR : repT o V) (hi : tP V i = true) (hne : aA V i ≠ aE V i) : ∃ t2, m_X8_takeJoined t o (nI i) = some t2 ∧ repT t2 (cA V i) ∧ t2.2.1 0 = lN 0 ∧ t2.2.1 1 = lN 1 := by
  obtain ⟨hiL, hi10⟩ := okA_10 h hi
  obtain ⟨t1, h1, e0, e1, hc, a0, a1⟩ := tc_e (t := t) hR hi10
  obtain ⟨r1, r2, r3, r4⟩ := hR.2.2 i hi
  obtain ⟨n1, n2⟩ := N31 h hi
  obtain ⟨l1, l2, l3⟩ := lohi h hi
  have h7 := h.1
  obtain ⟨c1, c2, c3, c4⟩ := hc i hi10
  unfold m_X8_takeJoined
  rw [h1, Option.bind_some, if_neg (nI_pos (by omega)), if_pos (by rw [qlt_10 (by omega)]; omega)]
  simp only [gd_in hi10 (show (10 : Nat) < 2 ^ 31 by decide), lt]
  rw [nI_clamp (by omega), c1, c2, r1, r2]
  have hlo : (if nI (aE V i) < nI (aA V i) then nI (aE V i) else nI (aA V i)) = nI (loA V i) := by
    unfold loA
    simp only [qlt n2 n1]
    split <;> rfl
  have hhi : (if nI (aA V i) < nI (aE V i) then nI (aE V i) else nI (aA V i)) = nI (hiA V i) := by
    unfold hiA
    simp only [qlt n1 n2]
    split <;> rfl
  rw [hlo, hhi]
  obtain ⟨s, he, hQ1, hQ2, hQ3, hQ4, hQ5⟩ := vl_totF (B := m_X8_takeJoined_L53 (nI (loA V i)) (nI (hiA V i))) (fun c st => ∃ k s, k ≤ 10 ∧ c = 10 - k ∧ st = (nI k, s) ∧ s.1 = t1.1 ∧ s.2.1 = t1.2.1 ∧ s.2.2.2 = t1.2.2.2 ∧ (∀ j, j < k → s.2.2.1 0 j = jI (nI (loA V i)) (nI (hiA V i)) (t1.2.2.1 0 j) ∧ s.2.2.1 1 j = jI (nI (loA V i)) (nI (hiA V i)) (t1.2.2.1 1 j)) ∧ ∀ j, k ≤ j → s.2.2.1 0 j = t1.2.2.1 0 j ∧ s.2.2.1 1 j = t1.2.2.1 1 j) (fun s => s.1 = t1.1 ∧ s.2.1 = t1.2.1 ∧ s.2.2.2 = t1.2.2.2 ∧ (∀ j, j < 10 → s.2.2.1 0 j = jI (nI (loA V i)) (nI (hiA V i)) (t1.2.2.1 0 j)) ∧ (∀ j, j < 10 → s.2.2.1 1 j = jI (nI (loA V i)) (nI (hiA V i)) (t1.2.2.1 1 j))) (by
    rintro c st ⟨k, s, hk, rfl, rfl, s0, s1, s2, hl, hg⟩
    unfold m_X8_takeJoined_L53
    simp only [un, lt]
    by_cases h10 : k = 10
    · left
      rw [if_pos (by rw [qle_10 (by omega)]; omega)]
      exact ⟨_, rfl, s0, s1, s2, fun j hj => (hl j (by omega)).1, fun j hj => (hl j (by omega)).2⟩
    · right
      rw [if_neg (by rw [qle_10 (by omega)]; omega)]
      simp only [gd_in (show k < 10 by omega) (show (10 : Nat) < 2 ^ 31 by decide)]
      simp only [nI_clamp (show k < 2 ^ 31 by omega), nI_1]
      obtain ⟨g0, g1⟩ := hg k (by omega)
      have hf : (if s.2.2.1 0 k = nI (hiA V i) then some (wA s 0 k (nI (loA V i))) else some s) = some (if s.2.2.1 0 k = nI (hiA V i) then wA s 0 k (nI (loA V i)) else s) := by split <;> rfl
      rw [hf, Option.bind_some]
      obtain ⟨u, hu⟩ : ∃ u, u = (if s.2.2.1 0 k = nI (hiA V i) then wA s 0 k (nI (loA V i)) else s) := ⟨_, rfl⟩
      have u0 : u.1 = s.1 ∧ u.2.1 = s.2.1 ∧ u.2.2.2 = s.2.2.2 ∧ u.2.2.1 1 = s.2.2.1 1 ∧ u.2.2.1 0 k = jI (nI (loA V i)) (nI (hiA V i)) (s.2.2.1 0 k) ∧ ∀ j, j ≠ k → u.2.2.1 0 j = s.2.2.1 0 j := by
        rw [hu]
        unfold jI
        split
        · refine ⟨rfl, rfl, rfl, rfl, ?_, fun j hj => ?_⟩
          · rw [wA_00, if_pos rfl]
          · rw [wA_00, if_neg hj]
        · exact ⟨rfl, rfl, rfl, rfl, rfl, fun j _ => rfl⟩
      rw [← hu]
      clear hu hf
      obtain ⟨u1, u2, u3, u4, u5, u6⟩ := u0
      have hf : (if u.2.2.1 1 k = nI (hiA V i) then (some (Sum.inl (nI (k + 1), wA u 1 k (nI (loA V i)))) : Option ((Int32 × ST) ⊕ ST)) else some (Sum.inl (nI (k + 1), u))) = some (Sum.inl (nI (k + 1), if u.2.2.1 1 k = nI (hiA V i) then wA u 1 k (nI (loA V i)) else u)) := by split <;> rfl
      rw [hf]
      obtain ⟨v, hv⟩ : ∃ v, v = (if u.2.2.1 1 k = nI (hiA V i) then wA u 1 k (nI (loA V i)) else u) := ⟨_, rfl⟩
      have v0 : v.1 = u.1 ∧ v.2.1 = u.2.1 ∧ v.2.2.2 = u.2.2.2 ∧ v.2.2.1 0 = u.2.2.1 0 ∧ v.2.2.1 1 k = jI (nI (loA V i)) (nI (hiA V i)) (u.2.2.1 1 k) ∧ ∀ j, j ≠ k → v.2.2.1 1 j = u.2.2.1 1 j := by
        rw [hv]
        unfold jI
        split
        · refine ⟨rfl, rfl, rfl, rfl, ?_, fun j hj => ?_⟩
          · rw [wA_11, if_pos rfl]
          · rw [wA_11, if_neg hj]
        · exact ⟨rfl, rfl, rfl, rfl, rfl, fun j _ => rfl⟩
      rw [← hv]
      clear hv hf
      obtain ⟨v1, v2, v3, v4, v5, v6⟩ := v0
      refine ⟨_, rfl, 10 - (k + 1), by omega, k + 1, v, by omega, rfl, rfl, by rw [v1, u1, s0], by rw [v2, u2, s1], by rw [v3, u3, s2], fun j hj => ?_, fun j hj => ?_⟩
      · by_cases hjk : j = k
        · subst hjk
          exact ⟨by rw [v4, u5, g0], by rw [v5, u4, g1]⟩
        · rw [v4, u6 j hjk, v6 j hjk, u4]
          exact hl j (by omega)
      · rw [v4, u6 j (by omega), v6 j (by omega), u4]
        exact hg j (by omega)) (i := 10 - 0) (s := ((0 : Int32), t1)) (by omega) ⟨0, _, by omega, rfl, rfl, rfl, rfl, rfl, fun j hj => absurd hj (Nat.not_lt_zero j), fun j _ => ⟨rfl, rfl⟩⟩
  rw [he, Option.bind_some]
  have hw1 : s.1 1 = nI (aW V) := by rw [hQ1, e1]; exact hR.2.1
  have hw := okA_w h
  have hiw : m_X8_isWanted s (nI (hiA V i)) = some (bz ((aW V).testBit (hiA V i))) := by
    unfold m_X8_isWanted
    dsimp only [lt]
    rw [hw1, shr_bit (by omega) (by omega), bz_if]
    cases (aW V).testBit (hiA V i) <;> rfl
  rw [hiw, Option.bind_some, bz_if]
  have hends : ∀ k, tP (cA V i) k = true → s.2.2.1 0 k = nI (aA (cA V i) k) ∧ s.2.2.1 1 k = nI (aE (cA V i) k) ∧ s.2.2.2 0 k = lN (aX (cA V i) k) ∧ s.2.2.2 1 k = lN (aY (cA V i) k) := by
    intro k hk
    rw [cA_f] at hk
    have hk := (wi_t hk).1
    have hk10 := (okA_10 h hk).2
    obtain ⟨q1, q2, q3, q4⟩ := hR.2.2 k hk
    obtain ⟨p1, p2, p3, p4⟩ := hc k hk10
    obtain ⟨m1, m2⟩ := N31 h hk
    refine ⟨?_, ?_, ?_, ?_⟩
    · rw [hQ4 k hk10, p1, q1]
      show jI _ _ _ = nI (sg (loA V i) (hiA V i) (aA V k))
      unfold jI sg
      simp only [qeq m1 (show hiA V i < 2 ^ 31 by omega)]
      split <;> rfl
    · rw [hQ5 k hk10, p2, q2]
      show jI _ _ _ = nI (sg (loA V i) (hiA V i) (aE V k))
      unfold jI sg
      simp only [qeq m2 (show hiA V i < 2 ^ 31 by omega)]
      split <;> rfl
    · rw [hQ3, p3]; exact q3
    · rw [hQ3, p4]; exact q4
  by_cases hb : (aW V).testBit (hiA V i) = true
  · rw [if_pos hb, hw1, shl_1 _ (by omega), shl_1 _ (by omega), wo_i, fa_or]
    refine ⟨_, rfl, ⟨?_, ?_, hends⟩, by show s.2.1 0 = _; rw [hQ2]; exact a0, by show s.2.1 1 = _; rw [hQ2]; exact a1⟩
    · show s.1 0 = _
      rw [hQ1, e0]; rfl
    · show nI _ = nI (jW V i)
      unfold jW
      rw [if_pos hb]
  · rw [if_neg hb]
    refine ⟨_, rfl, ⟨?_, ?_, hends⟩, by rw [hQ2]; exact a0, by rw [hQ2]; exact a1⟩
    · rw [hQ1, e0]; rfl
    · rw [hw1]
      show nI _ = nI (jW V i)
      unfold jW
      rw [if_neg hb]
end CC
