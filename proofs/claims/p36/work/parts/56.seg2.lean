/-! the law's round: all made alike; sets, cut, way, wide -/
section G2
variable {b : ST} {w : Nat → ST} {v : Nat → Int32} {D : ND}
theorem l888 {a c : Nat} (h : DK b D) (hv1 : v 1 = nI (dL D)) (hac : a ≤ c) (h1c : 1 ≤ c) (hc : c ≤ 9) : ∃ b' D', vLoop (m_L_law_L888 (nI c) (nI a)) FUEL ((0 : Int32), b, w, v) = some (.inl (b', w, v)) ∧ DK b' D' ∧ dL D' = dL D ∧ alk D' a c := by
  have hL := h.1.2.2.1
  obtain ⟨e, he, b', D', rfl, h', e1, e2⟩ := vl_totF (B := m_L_law_L888 (nI c) (nI a)) (fun m st => ∃ i b D', i ≤ dL D ∧ m = dL D - i ∧ st = (nI i, b, w, v) ∧ DK b D' ∧ dL D' = dL D ∧ ∀ k, k < i → dP D' k = a ∧ dQ D' k = c ∧ dV D' k = 0) (fun e => ∃ b' D', e = .inl (b', w, v) ∧ DK b' D' ∧ dL D' = dL D ∧ alk D' a c) (by
    rintro m st ⟨i, b, E, hi, rfl, rfl, h, hE, hk⟩
    unfold m_L_law_L888
    simp only [un, gk1]
    simp only [cz1, hv1]
    by_cases hiL : i = dL D
    · left
      rw [if_pos (by rw [qle (by omega) (by omega)]; omega)]
      exact ⟨_, rfl, b, E, rfl, h, hE, fun k hk2 => hk k (by omega)⟩
    · right
      obtain ⟨b1, s1, h1⟩ := ka_see h (k := i) (n := 0) (by omega) (by decide)
      obtain ⟨b2, s2, h2⟩ := ka_chance h1 (k := i) (i := a) (j := c) (show i < dL E by omega) h1c hc hac
      obtain ⟨-, -, -, g1, g2, g3⟩ := h.1.2.2.2.2.2 i (by omega)
      have g4 : dP (dSee E i 0) i = dP E i := rfl
      have g5 : dQ (dSee E i 0) i = dQ E i := rfl
      rw [g4, g5] at s2
      rw [if_neg (by rw [qle (by omega) (by omega)]; omega), show m_X9_see b (nI i) (0 : Int32) = _ from s1, Option.bind_some]
      dsimp only
      rw [if_neg (nI_pos (by omega)), s2, Option.bind_some]
      dsimp only
      rw [if_pos (nI_pos' (by omega)), lt_f, nI_1]
      refine ⟨_, rfl, dL D - (i + 1), by omega, i + 1, b2, dChg (dSee E i 0) i a c, by omega, rfl, rfl, h2, hE, fun k hk2 => ?_⟩
      show va_up (dP E) i a k = a ∧ va_up (dQ E) i c k = c ∧ va_up (dV E) i 0 k = 0
      by_cases hki : k = i
      · subst hki; exact ⟨up_k, up_k, up_k⟩
      · rw [up_n hki, up_n hki, up_n hki]; exact hk k (by omega)) (i := dL D - 0) (s := ((0 : Int32), b, w, v)) (by omega) ⟨0, b, D, Nat.zero_le _, rfl, rfl, h, rfl, fun k hk => absurd hk (Nat.not_lt_zero k)⟩
  exact ⟨b', D', he, h', e1, e2⟩
theorem sg_857 (y3 y4 : Int32) (h : DK b D) (hv1 : v 1 = nI (dL D)) : OUT (m_L_law_S857 y3 y4 b w v) v := by
  obtain ⟨j, hj, e1⟩ := lup_e (y4 >>> ((12 : Int32) &&& 31)) (n := 8) (by decide) (by decide)
  obtain ⟨a, ha, e2⟩ := lup_e (y4 >>> ((16 : Int32) &&& 31)) (n := 2 + j + 1) (by omega) (by omega)
  obtain ⟨b1, D1, l1, h1, d1, d2⟩ := l888 (a := a) (c := 2 + j) (w := w) h hv1 (by omega) (by omega) (by omega)
  refine OUT.e ?_ (sg_927 (w := w) (a := a) (c := 2 + j) y3 h1 (by rw [hv1, d1]) d2 (by omega) (by omega) (by omega))
  unfold m_L_law_S857
  rw [show m_L_up (y4 >>> ((12 : Int32) &&& 31)) (8 : Int32) = _ from e1, Option.bind_some, lt_f, show (2 : Int32) + nI j = nI (2 + j) from nI_add 2 j, nI_1, e2, Option.bind_some, l1, Option.bind_some, ex_in, un_f, un_f]
theorem sg_845 (y3 y4 : Int32) {y20 y22 : Int32} (h : DK b D) (hv1 : v 1 = nI (dL D)) (hy : y22 = 0 → y20 = 0) : OUT (m_L_law_S845 y3 y4 y20 y22 b w v) v := by
  refine OUT.e ?_ (sg_857 (w := w) y3 y4 h hv1)
  unfold m_L_law_S845
  by_cases h0 : y22 = 0
  · rw [if_pos h0, if_pos (hy h0)]
  · rw [if_neg h0]
theorem sg_822 (y3 y4 : Int32) {y20 y22 : Int32} {n : Nat} (hn : n < 2 ^ 31) (h : DK b D) (hv1 : v 1 = nI (dL D)) (hy : y22 = 0 → y20 = 0) : OUT (m_L_law_S822 y3 y4 (nI n) y20 y22 b w v) v := by
  have hL := h.1.2.2.1
  unfold m_L_law_S822
  simp only [gk1]
  simp only [cz1]
  rw [if_neg (nI_pos hn)]
  by_cases h0 : dL D = 0
  · refine OUT.e ?_ (sg_845 (w := w) y3 y4 h hv1 hy)
    rw [if_pos (show v 1 ≤ 0 by rw [hv1, qge_0 (by omega)]; omega)]
  · obtain ⟨b1, s1, h1⟩ := ka_wide h (k := dL D - 1) (by omega)
    rw [WID_last h.1 h0] at s1
    refine OUT.e ?_ (sg_845 (w := w) y3 y4 h1 hv1 hy)
    have e1 : v 1 - (1 : Int32) = nI (dL D - 1) := by rw [hv1]; exact pk_sub (b := 1) (by omega)
    rw [if_neg (show ¬ v 1 ≤ 0 by rw [hv1, qge_0 (by omega)]; omega), e1, s1, Option.bind_some, un_f, if_pos (show nI 0 = (0 : Int32) from rfl)]
theorem amI_neg {m : Nat} (hm : m < 2 ^ 31) : ¬ amI (some m) < 0 := nI_pos hm
theorem sg_807 (y3 y4 : Int32) {y20 y22 : Int32} {n : Nat} (hn : n < 2 ^ 31) (h : DK b D) (hv1 : v 1 = nI (dL D)) (hy : y22 = 0 → y20 = 0) : OUT (m_L_law_S807 y3 y4 (nI n) y20 (amI (mnf (fwC D) (2 ^ dL D))) y22 b w v) v := by
  have hL := h.1.2.2.1
  unfold m_L_law_S807
  cases hm : mnf (fwC D) (2 ^ dL D) with
  | none =>
    refine OUT.e ?_ (sg_822 (w := w) y3 y4 hn h hv1 hy)
    rw [if_pos (show amI none < 0 by decide)]
  | some m =>
    obtain ⟨m1, m2, m3, m4⟩ := way_some h.1 hm
    have m5 := SC_MX D h.1 m
    obtain ⟨b1, s1, h1⟩ := ka_sets h m1
    refine OUT.e ?_ (sg_822 (w := w) y3 y4 hn h1 hv1 hy)
    rw [if_neg (amI_neg (by omega)), show m_X9_sets b (amI (some m)) = _ from s1, Option.bind_some, un_f, if_neg (show ¬ nI (SC D m) < (1 : Int32) by rw [qlt_1 (by omega)]; omega)]
theorem sg_791 (y3 y4 : Int32) {y20 y22 : Int32} {n : Nat} (hn : n < 2 ^ 31) (h : DK b D) (hv1 : v 1 = nI (dL D)) (hy : y22 = 0 → y20 = 0) : OUT (m_L_law_S791 y3 y4 (nI n) y20 (amI (mnf (fwC D) (2 ^ dL D))) y22 b w v) v := by
  have hL := h.1.2.2.1
  unfold m_L_law_S791
  cases hm : mnf (fwC D) (2 ^ dL D) with
  | none =>
    refine OUT.e ?_ (sg_807 (w := w) y3 y4 hn h hv1 hy)
    rw [if_pos (show amI none ≤ 0 by decide), hm]
  | some m =>
    obtain ⟨m1, m2, m3, m4⟩ := way_some h.1 hm
    by_cases h0 : m = 0
    · subst h0
      refine OUT.e ?_ (sg_807 (w := w) y3 y4 hn h hv1 hy)
      rw [if_pos (show amI (some 0) ≤ 0 by decide), hm]
    · obtain ⟨b1, s1, h1⟩ := ka_sets h (k := m - 1) (by omega)
      rw [m4 (by omega)] at s1
      refine OUT.e ?_ (sg_807 (w := w) y3 y4 hn h1 hv1 hy)
      have e1 : amI (some m) - (1 : Int32) = nI (m - 1) := pk_sub (a := m) (b := 1) (by omega)
      rw [if_neg (show ¬ amI (some m) ≤ 0 by show ¬ nI m ≤ 0; rw [qge_0 (by omega)]; omega), e1, s1, Option.bind_some, un_f, if_pos (show nI 0 = (0 : Int32) from rfl), hm]
/-- whether all up reach: told by sets, by way, by cut -/
def allR (D : ND) : Int32 := if rch D (full D) = true then 1 else 0
theorem sg_765 (y3 y4 : Int32) {n : Nat} (hn : n < 2 ^ 31) (h : DK b D) (hv1 : v 1 = nI (dL D)) : OUT (m_L_law_S765 y3 y4 (nI n) (amI (mnf (fcC D) (2 ^ dL D))) (amI (mnf (fwC D) (2 ^ dL D))) (allR D) b w v) v := by
  have hL := h.1.2.2.1
  obtain ⟨b1, s1, h1⟩ := ka_sets h (k := dL D) (Nat.le_refl _)
  have ht := SC_top h.1
  have hle : SC D (dL D) ≤ 1 := by rw [ht]; split <;> omega
  refine OUT.e ?_ (sg_791 (w := w) (y20 := amI (mnf (fcC D) (2 ^ dL D))) (y22 := allR D) y3 y4 hn h1 hv1 (fun q => ?_))
  · unfold m_L_law_S765
    simp only [gk1]
    simp only [cz1]
    rw [hv1, s1, Option.bind_some, un_f, if_neg (show ¬ (1 : Int32) < nI (SC D (dL D)) by show ¬ nI 1 < nI _; rw [qlt (by omega) (by omega)]; omega)]
    cases hm : mnf (fwC D) (2 ^ dL D) with
    | none =>
      have hr := way_none hm
      rw [if_pos (show amI none < 0 by decide), Option.bind_some, if_pos (show allR D = 0 by unfold allR; rw [hr]; rfl)]
    | some m =>
      obtain ⟨m1, m2, m3, m4⟩ := way_some h.1 hm
      rw [if_neg (amI_neg (by omega)), Option.bind_some, if_pos (show allR D = 1 by unfold allR; rw [if_pos m2])]
  · unfold allR at q
    split at q
    · cases q
    · rename_i hr
      rw [cut_0 (Bool.eq_false_iff.mpr hr)]
      rfl
theorem sg_727 (y3 y4 : Int32) (h : DK b D) (hv1 : v 1 = nI (dL D)) : OUT (m_L_law_S727 y3 y4 b w v) v := by
  have hL := h.1.2.2.1
  obtain ⟨b1, s1, h1⟩ := ka_widest h
  have s2 := ka_least0 h1
  have s3 := ka_least1 h1
  obtain ⟨b2, s4, h2⟩ := ka_sets h1 (k := dL D) (Nat.le_refl _)
  have hmx := MXW_le h.1 (dL D) (Nat.le_refl _)
  have ht := SC_top h.1
  refine OUT.e ?_ (sg_765 (w := w) y3 y4 (n := MXW D (dL D)) (by omega) h2 hv1)
  unfold m_L_law_S727
  simp only [gk1]
  simp only [cz1]
  rw [s1, Option.bind_some, un_f, s2, Option.bind_some, s3, Option.bind_some, hv1, s4, Option.bind_some, un_f, ht]
  unfold allR
  by_cases hr : rch D (full D) = true
  · rw [if_pos hr, if_pos hr, if_pos (show nI 1 = (1 : Int32) from rfl)]
  · rw [if_neg hr, if_neg hr, if_neg (show ¬ nI 0 = (1 : Int32) by decide)]
end G2
