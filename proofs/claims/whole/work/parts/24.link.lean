/-! a link more -/
section LK
variable {b t : ST} {D : ND}
theorem shs_C {k : Nat} {F : Nat → Int64} (hk : k < 3) (h : shs b t) : shs (wC b k F) t := ⟨h.1, h.2.1, fun s i hs hi => by
  show (if 3 + s = k then F else b.2.2.2 (3 + s)) i = _
  rw [if_neg (by omega)]
  exact h.2.2 s i hs hi⟩
def dAdd (D : ND) (mn mx p q : Nat) : ND := ((dN D, dL D + 1, dS D, dG D), va_up (dA D) (dL D) mn, va_up (dE D) (dL D) mx, va_up (dP D) (dL D) p, va_up (dQ D) (dL D) q, va_up (dV D) (dL D) 0)
theorem add_m {x y p q mn mx : Nat} (h : INV b t D) (hL : dL D < 10) (hm : mn < mx) (hmx : mx < dN D) (h1 : 1 ≤ q) (h9 : q ≤ 9) (hpq : p ≤ q) (e1 : (if nI y < nI x then nI y else nI x) = nI mn) (e2 : (if nI x < nI y then nI y else nI x) = nI mx) (e3 : (if nI y ≤ nI x then some (nI y) else some (nI x)) = some (nI mn)) (e4 : (if nI y ≤ nI x then some (nI x) else some (nI y)) = some (nI mx)) :
    ∃ b' t', m_X2_addLink b (nI x) (nI y) (nI p) (nI q) = some (nI (dL D), b') ∧ m_X10_adds t (nI x) (nI y) (nI p) (nI q) = some t' ∧ INV b' t' (dAdd D mn mx p q) ∧ b'.2.2.1 7 = b.2.2.1 7 := by
  obtain ⟨hD, hC, hM, hJ, hT, hS⟩ := h
  have hD2 : okD (dAdd D mn mx p q) := by
    refine ⟨hD.1, hD.2.1, by show dL D + 1 ≤ 10; omega, hD.2.2.2.1, hD.2.2.2.2.1, fun k hk => ?_⟩
    have hk : k < dL D + 1 := hk
    show va_up (dA D) (dL D) mn k < va_up (dE D) (dL D) mx k ∧ va_up (dE D) (dL D) mx k < dN D ∧ 1 ≤ va_up (dQ D) (dL D) q k ∧ va_up (dQ D) (dL D) q k ≤ 9 ∧ va_up (dP D) (dL D) p k ≤ va_up (dQ D) (dL D) q k ∧ va_up (dV D) (dL D) 0 k ≤ 2
    unfold va_up
    by_cases hkL : k = dL D
    · simp only [if_pos hkL]; omega
    · simp only [if_neg hkL]; exact hD.2.2.2.2.2 k (by omega)
  have hC2 : repC (wI (wA (wA (wA (wA (wA b 0 (dL D) (nI mn)) 1 (dL D) (nI mx)) 2 (dL D) (nI p)) 3 (dL D) (nI q)) 4 (dL D) (0 : Int32)) 1 (nI (dL D + 1))) (dAdd D mn mx p q) := ⟨hC.1, rfl, hC.2.2.1, hC.2.2.2.1, upI hC.2.2.2.2.1 rfl, upI hC.2.2.2.2.2.1 rfl, upI hC.2.2.2.2.2.2.1 rfl, upI hC.2.2.2.2.2.2.2.1 rfl, upI hC.2.2.2.2.2.2.2.2 rfl⟩
  have hM2 : repM (wI (wA (wA (wA (wA (wA t 1 (dL D) (nI mn)) 2 (dL D) (nI mx)) 3 (dL D) (nI p)) 4 (dL D) (nI q)) 5 (dL D) (0 : Int32)) 4 (nI (dL D + 1))) (dAdd D mn mx p q) := ⟨hM.1, rfl, hM.2.2.1, hM.2.2.2.1, upI hM.2.2.2.2.1 rfl, upI hM.2.2.2.2.2.1 rfl, upI hM.2.2.2.2.2.2.1 rfl, upI hM.2.2.2.2.2.2.2.1 rfl, upI hM.2.2.2.2.2.2.2.2 rfl⟩
  have hup : ∀ (f : Nat → Nat) (v k : Nat), k < dL D → f k = va_up f (dL D) v k := fun f v k hk => by unfold va_up; rw [if_neg (by omega)]
  obtain ⟨F, hF1, hF2⟩ := as_k (k := dL D) hC2 hD2 rfl (fun s hs => by
    obtain ⟨J, j1, j2, j3⟩ := hJ s hs
    refine ⟨J, j1, ?_⟩
    have he : ED (dA D) (dE D) (dL D) s = ED (dA (dAdd D mn mx p q)) (dE (dAdd D mn mx p q)) (dL D) s := ED_cong (fun _ _ => rfl) (fun k hk => ⟨hup (dA D) mn k hk, hup (dE D) mx k hk⟩)
    rw [← he]
    exact ⟨j2, j3⟩)
  refine ⟨wC (wI (wA (wA (wA (wA (wA b 0 (dL D) (nI mn)) 1 (dL D) (nI mx)) 2 (dL D) (nI p)) 3 (dL D) (nI q)) 4 (dL D) (0 : Int32)) 1 (nI (dL D + 1))) 0 F, wI (wA (wA (wA (wA (wA t 1 (dL D) (nI mn)) 2 (dL D) (nI mx)) 3 (dL D) (nI p)) 4 (dL D) (nI q)) 5 (dL D) (0 : Int32)) 4 (nI (dL D + 1)), ?_, ?_, ⟨hD2, hC2, hM2, hF2, hT, shs_C (by omega) (show shs (wI (wA (wA (wA (wA (wA b 0 (dL D) (nI mn)) 1 (dL D) (nI mx)) 2 (dL D) (nI p)) 3 (dL D) (nI q)) 4 (dL D) (0 : Int32)) 1 (nI (dL D + 1))) (wI (wA (wA (wA (wA (wA t 1 (dL D) (nI mn)) 2 (dL D) (nI mx)) 3 (dL D) (nI p)) 4 (dL D) (nI q)) 5 (dL D) (0 : Int32)) 4 (nI (dL D + 1))) from hS)⟩, rfl⟩
  · unfold m_X2_addLink
    simp only [lt, e1, e2]
    rw [hC.2.1, if_neg (nI_pos (by omega)), if_pos (by rw [qlt_10 (by omega)]; omega)]
    simp only [gd_in (i := dL D) (N := 10) (by omega) (by omega), gd_i2 (i := dL D) (N := 10) (by omega) (by omega), nI_clamp (n := dL D) (by omega)]
    rw [show (wA (wA (wA (wA (wA b 0 (dL D) (nI mn)) 1 (dL D) (nI mx)) 2 (dL D) (nI p)) 3 (dL D) (nI q)) 4 (dL D) (0 : Int32)).1 1 + (1 : Int32) = nI (dL D + 1) from (congrArg (fun z => z + (1 : Int32)) hC.2.1).trans (nI_1 _), hF1]
    rfl
  · unfold m_X10_adds
    simp only [e3, e4, lt, Option.bind_some]
    have hk : t.1 4 = nI (dL D) := hM.2.1
    show gd (¬ ((t.1 4) < 0 ∨ 10 ≤ (t.1 4).toNatClampNeg)) (gd (¬ ((t.1 4) < 0 ∨ 10 ≤ (t.1 4).toNatClampNeg)) (gd (¬ ((t.1 4) < 0 ∨ 10 ≤ (t.1 4).toNatClampNeg)) (gd (¬ ((t.1 4) < 0 ∨ 10 ≤ (t.1 4).toNatClampNeg)) (gd (¬ ((t.1 4) < 0 ∨ 10 ≤ (t.1 4).toNatClampNeg)) (some (wI (wA (wA (wA (wA (wA t 1 (t.1 4).toNatClampNeg (nI mn)) 2 (t.1 4).toNatClampNeg (nI mx)) 3 (t.1 4).toNatClampNeg (nI p)) 4 (t.1 4).toNatClampNeg (nI q)) 5 (t.1 4).toNatClampNeg (0 : Int32)) 4 (t.1 4 + (1 : Int32)))))))) = _
    rw [hk]
    simp only [gd_in (i := dL D) (N := 10) (by omega) (by omega), gd_i2 (i := dL D) (N := 10) (by omega) (by omega), nI_clamp (n := dL D) (by omega), qad_1]
theorem add_e {x y p q : Nat} (h : INV b t D) (hL : dL D < 10) (hx : x < dN D) (hy : y < dN D) (hxy : x ≠ y) (h1 : 1 ≤ q) (h9 : q ≤ 9) (hpq : p ≤ q) :
    ∃ b' t' D', m_X2_addLink b (nI x) (nI y) (nI p) (nI q) = some (nI (dL D), b') ∧ m_X10_adds t (nI x) (nI y) (nI p) (nI q) = some t' ∧ INV b' t' D' ∧ dL D' = dL D + 1 ∧ b'.2.2.1 7 = b.2.2.1 7 := by
  have hN := h.1.2.1
  rcases Nat.lt_or_gt_of_ne hxy with q | q
  · obtain ⟨b', t', k1, k2, k3, k4⟩ := add_m (x := x) (y := y) h hL q hy h1 h9 hpq (if_neg (nI_nlt (by omega) (by omega))) (if_pos (nI_lt q (by omega))) (if_neg (nI_ge q (by omega))) (if_neg (nI_ge q (by omega)))
    exact ⟨b', t', _, k1, k2, k3, rfl, k4⟩
  · obtain ⟨b', t', k1, k2, k3, k4⟩ := add_m (x := x) (y := y) h hL q hx h1 h9 hpq (if_pos (nI_lt q (by omega))) (if_neg (nI_nlt (by omega) (by omega))) (if_pos (nI_le (by omega) (by omega))) (if_pos (nI_le (by omega) (by omega)))
    exact ⟨b', t', _, k1, k2, k3, rfl, k4⟩
theorem may_of {x y p q : Int64} (hD : okD D) (h : may D x y p q = true) : ∃ i j k l, x = lN i ∧ y = lN j ∧ p = lN k ∧ q = lN l ∧ i < dN D ∧ j < dN D ∧ i ≠ j ∧ 1 ≤ l ∧ l ≤ 9 ∧ k ≤ l := by
  unfold may at h
  simp only [Bool.and_eq_true, Bool.not_eq_true', decide_eq_false_iff_not] at h
  obtain ⟨⟨⟨h1, h2⟩, h3⟩, h4⟩ := h
  have hN := hD.2.1
  have h1 := of_decide_eq_true h1
  have h2 := of_decide_eq_true h2
  obtain ⟨i, k1, rfl⟩ := i64_of h1.1 h1.2 (by omega)
  obtain ⟨j, k2, rfl⟩ := i64_of h2.1 h2.2 (by omega)
  obtain ⟨k, l, k3, k4, k5, k6, k7⟩ := chn_of h4
  exact ⟨i, j, k, l, rfl, rfl, k3, k4, k1, k2, fun q => h3 (by rw [q]), k5, k6, k7⟩
theorem s_link (h : INV b t D) (x y p q : Int32) : SIM (m_X9_link b x y p q) (m_X10_link t x y p q) := by
  have h0 := h
  obtain ⟨hD, hC, hM, hJ, hT, hS⟩ := h
  have hL := hD.2.2.1
  unfold m_X9_link m_X10_link
  rw [may_e hC hD, mayM_e hM hD, hr_e hC hD, hM.2.1]
  simp only [Option.bind_some, bz_if, decide_eq_true_eq, qeq_10 (i := dL D) (by omega)]
  cases hm : may D x.toInt64 y.toInt64 p.toInt64 q.toInt64
  · exact SIM.mk rfl rfl h0
  · simp only [if_true]
    by_cases hl : dL D < 10
    · rw [if_pos hl, if_neg (by omega)]
      obtain ⟨i, j, k, l, e1, e2, e3, e4, h1, h2, h3, h4, h5, h6⟩ := may_of hD hm
      have hN := hD.2.1
      rw [i32_eq (by omega) e1, i32_eq (by omega) e2, i32_eq (by omega) e3, i32_eq (by omega) e4]
      obtain ⟨b', t', D', k1, k2, k3, k4, k5⟩ := add_e h0 hl h1 h2 h3 h4 h5 h6
      rw [k1, k2]
      simp only [Option.bind_some, un]
      refine SIM.mk rfl ?_ k3
      rw [k3.2.2.1.2.1, k4, show nI (dL D + 1) - (1 : Int32) = nI (dL D) from nI_pred _]
    · rw [if_neg hl, if_pos (by omega)]
      exact SIM.mk rfl rfl h0
end LK
