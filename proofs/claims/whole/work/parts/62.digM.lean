section DM
variable {b t : ST} {D : ND}
theorem ifM (hM : repM t D) (hD : okD D) {k j : Nat} (hk : k < dL D) (hj : j < 5) : m_X10_infoBy t (nI k) (nI j) = some (IF D k j) := by
  have hL := hD.2.2.1
  unfold m_X10_infoBy
  simp only [gd_in (i := k) (N := 10) (by omega) (by omega), gd_i2 (i := k) (N := 10) (by omega) (by omega), nI_clamp (n := k) (by omega), hM.2.2.2.2.1, hM.2.2.2.2.2.1, hM.2.2.2.2.2.2.1, hM.2.2.2.2.2.2.2.1, hM.2.2.2.2.2.2.2.2]
  rcases (show j = 0 ∨ j = 1 ∨ j = 2 ∨ j = 3 ∨ j = 4 by omega) with rfl | rfl | rfl | rfl | rfl <;> rfl
theorem lt_M (h : INV b t D) {k : Nat} (hk : k < dL D) (x : Int64) : ∃ t2, m_X10_linkTells t x (nI k) = some (LT D k x, t2) ∧ INV b t2 D := by
  have hD := h.1
  have hin : vLoop (m_X10_linkTells_L6 (nI k) t) FUEL (x, (0 : Int32)) = some (hsh (fun j => (IF D k j).toInt64) x 5) := by
    refine vl_F (fun j => (hsh (fun j => (IF D k j).toInt64) x j, nI j)) 0 5 (by omega) (by omega) (fun j _ hj => ?_) ?_
    · unfold m_X10_linkTells_L6
      simp only [un, lt]
      rw [if_neg (by rw [qle_5 (by omega)]; omega), ifM h.2.2.1 hD hk hj, Option.bind_some, nI_1]
      rfl
    · unfold m_X10_linkTells_L6
      simp only [un]
      rw [if_pos (by decide)]
  obtain ⟨f, g, G, g1⟩ := wideBy_e h.2.2.1 hD hk
  have hI1 := inv_wm (f := f) (g := g) (G := G) h
  obtain ⟨f2, g2, g3⟩ := worthBy_e hI1.2.2.1 hD hk 0
  have hI2 := inv_ta (f := f2) (g := g2) hI1
  obtain ⟨f4, g4, g5⟩ := worthBy_e hI2.2.2.1 hD hk 1
  have hI3 := inv_ta (f := f4) (g := g4) hI2
  refine ⟨_, ?_, hI3⟩
  unfold m_X10_linkTells
  rw [hin, Option.bind_some, g1, Option.bind_some, un_f, lt_f, g3, Option.bind_some, un_f, lt_f, g5, Option.bind_some, un_f]
  rfl
theorem lts_M (h : INV b t D) (x : Int64) : ∃ t2, vLoop m_X10_digest_L33 FUEL (x, (0 : Int32), t) = some (LTs D x (dL D), t2) ∧ INV b t2 D := by
  have hD := h.1
  have hL := hD.2.2.1
  refine vl_st (B := m_X10_digest_L33) (I := fun t => INV b t D) (fun k => LTs D x k) 0 (dL D) (by omega) (by omega) (fun k t _ hk hI => ?_) (fun t hI => ?_) h
  · obtain ⟨t2, q1, q2⟩ := lt_M hI hk (LTs D x k)
    refine ⟨t2, ?_, q2⟩
    unfold m_X10_digest_L33
    simp only [un, lt]
    rw [hI.2.2.1.2.1, if_neg (by rw [qle (by omega) (by omega)]; omega), q1, Option.bind_some, nI_1]
    rfl
  · unfold m_X10_digest_L33
    simp only [un]
    rw [hI.2.2.1.2.1, if_pos (by rw [qle (by omega) (by omega)]; omega)]
theorem jn_M (h : INV b t D) (x : Int64) (w6 : t.1 6 = nI (ak 12 (aV D) 0).1) (w7 : t.1 7 = nI (ak 12 (aV D) 0).2.1) (w8 : t.1 8 = nI (ak 12 (aV D) 0).2.2) : ∃ t2, vLoop m_X10_digest_L84 FUEL (x, (0 : Int32), t) = some (hsh (JV D) x 5, t2) ∧ INV b t2 D := by
  have hD := h.1
  obtain ⟨t2, q1, q2⟩ := vl_st (B := m_X10_digest_L84) (I := fun t => INV b t D ∧ t.1 6 = nI (ak 12 (aV D) 0).1 ∧ t.1 7 = nI (ak 12 (aV D) 0).2.1 ∧ t.1 8 = nI (ak 12 (aV D) 0).2.2) (fun k => hsh (JV D) x k) 0 5 (by omega) (by omega) (fun k t _ hk hI => by
    obtain ⟨hI, w6, w7, w8⟩ := hI
    have hj : ∃ t2, m_X10_joinedBy t (nI k) = some (JV D k, t2) ∧ INV b t2 D ∧ t2.1 = t.1 := by
      unfold m_X10_joinedBy
      by_cases q2 : k ≤ 1
      · rw [if_neg (show ¬ (2 : Int32) ≤ nI k by rw [qle_2 (by omega)]; omega)]
        obtain ⟨f, g, g1⟩ := reachBy_e hI.2.2.1 hD (nI k)
        have hi2 := inv_ta (f := f) (g := g) hI
        rw [g1, Option.bind_some, un_f]
        refine ⟨_, ?_, hi2, rfl⟩
        rcases (show k = 0 ∨ k = 1 by omega) with q | q
        · subst q; rfl
        · subst q; rfl
      · rw [if_pos (show (2 : Int32) ≤ nI k by rw [qle_2 (by omega)]; omega), w6, w7, w8]
        rcases (show k = 2 ∨ k = 3 ∨ k = 4 by omega) with q | q | q
        · subst q
          rw [if_pos (by decide)]
          exact ⟨t, rfl, hI, rfl⟩
        · subst q
          rw [if_neg (by decide), if_pos (by decide)]
          exact ⟨t, rfl, hI, rfl⟩
        · subst q
          rw [if_neg (by decide), if_neg (by decide)]
          exact ⟨t, rfl, hI, rfl⟩
    obtain ⟨t2, j1, j2, j3⟩ := hj
    refine ⟨t2, ?_, j2, by rw [j3]; exact w6, by rw [j3]; exact w7, by rw [j3]; exact w8⟩
    unfold m_X10_digest_L84
    simp only [un, lt]
    rw [if_neg (by rw [qle_5 (by omega)]; omega), j1, Option.bind_some, nI_1]
    rfl) (fun t hI => by
    unfold m_X10_digest_L84
    simp only [un]
    rw [if_pos (by decide)]) ⟨h, w6, w7, w8⟩
  exact ⟨t2, q1, q2.1⟩
theorem pti_M (h : INV b t D) {u : Nat} (hu : u < dN D) (x : Int64) : ∃ t2, vLoop (m_X10_pairTells_L20 (nI u)) FUEL (x, nI (u + 1), t) = some (PTi D u x (dN D), t2) ∧ INV b t2 D := by
  have hD := h.1
  have hN := hD.2.1
  have h0 : (x, nI (u + 1), t) = (PTi D u x (u + 1), nI (u + 1), t) := by rw [PTi_0 D u x (u + 1) (Nat.le_refl _)]
  rw [h0]
  refine vl_st (B := m_X10_pairTells_L20 (nI u)) (I := fun t => INV b t D) (fun k => PTi D u x k) (u + 1) (dN D) (by omega) (by omega) (fun j t hj1 hj hI => ?_) (fun t hI => ?_) h
  · obtain ⟨f, g, g1⟩ := pairBy_e hI.2.2.1 hD hu hj 0
    have hI1 := inv_ta (f := f) (g := g) hI
    obtain ⟨f2, g2, g3⟩ := pairBy_e hI1.2.2.1 hD hu hj 1
    have hI2 := inv_ta (f := f2) (g := g2) hI1
    refine ⟨_, ?_, hI2⟩
    unfold m_X10_pairTells_L20
    simp only [un, lt]
    rw [hI.2.2.1.1, if_neg (by rw [qle (by omega) (by omega)]; omega), g1, Option.bind_some, g3, Option.bind_some, nI_1]
    show _ = some (Sum.inl ((if u < j then frx (PS D u j) (pr (wP D) PA (dL D)) (PTi D u x j) else PTi D u x j), nI (j + 1), _))
    rw [if_pos (by omega)]
    rfl
  · unfold m_X10_pairTells_L20
    simp only [un]
    rw [hI.2.2.1.1, if_pos (by rw [qle (by omega) (by omega)]; omega)]
theorem pts_M (h : INV b t D) (x : Int64) : ∃ t2, m_X10_pairTells t x = some (PTs D x (dN D), t2) ∧ INV b t2 D := by
  have hD := h.1
  have hN := hD.2.1
  obtain ⟨t2, q1, q2⟩ := vl_st (B := m_X10_pairTells_L5) (I := fun t => INV b t D) (fun k => PTs D x k) 0 (dN D) (by omega) (by omega) (fun j t _ hj hI => by
    obtain ⟨t2, q1, q2⟩ := pti_M hI hj (PTs D x j)
    refine ⟨t2, ?_, q2⟩
    unfold m_X10_pairTells_L5
    simp only [un, lt]
    rw [hI.2.2.1.1, if_neg (by rw [qle (by omega) (by omega)]; omega), nI_1, q1, Option.bind_some]
    rfl) (fun t hI => by
    unfold m_X10_pairTells_L5
    simp only [un]
    rw [hI.2.2.1.1, if_pos (by rw [qle (by omega) (by omega)]; omega)]) h
  refine ⟨t2, ?_, q2⟩
  have q1 : vLoop m_X10_pairTells_L5 FUEL (x, (0 : Int32), t) = some (PTs D x (dN D), t2) := q1
  unfold m_X10_pairTells
  rw [q1]
  rfl
theorem sts_M (hM : repM t D) (hD : okD D) (x : Int64) : vLoop (m_X10_digest_L145 t) FUEL (x, (0 : Int32)) = some (hsh (fun k => (nI (SC D k)).toInt64) x (dL D + 1)) := by
  have hL := hD.2.2.1
  refine vl_F (fun j => (hsh (fun k => (nI (SC D k)).toInt64) x j, nI j)) 0 (dL D + 1) (by omega) (by omega) (fun j _ hj => ?_) ?_
  · unfold m_X10_digest_L145
    simp only [un, lt]
    rw [hM.2.1, if_neg (by rw [qlt (by omega) (by omega)]; omega), setsOf_e hM hD (by omega), Option.bind_some, nI_1]
    rfl
  · unfold m_X10_digest_L145
    simp only [un]
    rw [hM.2.1, if_pos (by rw [qlt (by omega) (by omega)]; omega)]
theorem dgM (h : INV b t D) : ∃ t2, m_X10_digest t = some (DGv D (fun k => ((m_X10_count t (nI k)).getD 0).toInt64) (t.1 10).toInt64, t2) ∧ INV b t2 D := by
  have hD := h.1
  have he : ∀ t2, INV b t2 D → t2.1 10 = t.1 10 := fun t2 h2 => h2.2.2.2.2.1.2.2.symm.trans h.2.2.2.2.1.2.2
  have hcn : vLoop (m_X10_digest_L6 t) FUEL ((17 : Int64), (0 : Int32)) = some (hsh (fun k => ((m_X10_count t (nI k)).getD 0).toInt64) 17 8) := by
    refine vl_F (fun j => (hsh (fun k => ((m_X10_count t (nI k)).getD 0).toInt64) 17 j, nI j)) 0 8 (by omega) (by omega) (fun j _ hj => ?_) ?_
    · obtain ⟨r, q1, q2⟩ := s_count h (nI j)
      unfold m_X10_digest_L6
      simp only [un, lt]
      rw [if_neg (by rw [show (8 : Int32) = nI 8 from rfl, qle (by omega) (by omega)]; omega), q2, Option.bind_some, nI_1]
      show _ = some (Sum.inl ((31 : Int64) * hsh (fun k => ((m_X10_count t (nI k)).getD 0).toInt64) 17 j + ((m_X10_count t (nI j)).getD 0).toInt64, nI (j + 1)))
      rw [q2]
      rfl
    · unfold m_X10_digest_L6
      simp only [un]
      rw [if_pos (by decide)]
  show ∃ t2, m_X10_digest t = some ((31 : Int64) * PTs D ((31 : Int64) * STv D (CHv D (LTs D (hsh (fun k => ((m_X10_count t (nI k)).getD 0).toInt64) 17 8) (dL D))) + (amI (am D (dL D))).toInt64) (dN D) + (t.1 10).toInt64, t2) ∧ INV b t2 D
  unfold m_X10_digest
  rw [hcn, Option.bind_some]
  generalize hsh (fun k => ((m_X10_count t (nI k)).getD 0).toInt64) 17 8 = x0
  obtain ⟨t1, a1, I1⟩ := lts_M h x0
  rw [a1, Option.bind_some, un_f]
  clear a1 hcn
  generalize LTs D x0 (dL D) = y0
  obtain ⟨f, g, b1⟩ := reachBy_e I1.2.2.1 hD 0
  have I2 := inv_ta (f := f) (g := g) I1
  rw [b1, Option.bind_some, un_f, lt_f]
  obtain ⟨f2, g2, b2⟩ := reachBy_e I2.2.2.1 hD 1
  have I3 := inv_ta (f := f2) (g := g2) I2
  rw [b2, Option.bind_some, un_f, lt_f]
  clear b1 b2
  generalize wD (wD (wD (wD t1 6 f) 7 g) 6 f2) 7 g2 = t3 at I3
  unfold CHv
  rw [show (31 : Int64) * ((31 : Int64) * y0 + lN (fr (RS D (uP D) (wP D)) (pr (wP D) PA (dL D)) 0)) + lN (fr (RS D (uP D) (wP D)) (pr (wP D) PA (dL D)) 1) = frx (RS D (uP D) (wP D)) (pr (wP D) PA (dL D)) y0 from rfl]
  generalize frx (RS D (uP D) (wP D)) (pr (wP D) PA (dL D)) y0 = y1
  obtain ⟨t4, s1, s2, s3, s4, s5⟩ := asks_e I3.2.2.1 hD
  have I4 := frM_I I3 s2
  rw [s1, Option.bind_some]
  obtain ⟨t5, c1, I5⟩ := jn_M I4 y1 s3 s4 s5
  rw [c1, Option.bind_some, un_f]
  clear c1 s1 s3 s4 s5
  generalize hsh (JV D) y1 5 = y2
  obtain ⟨f6, g6, G6, c6⟩ := wdn_e I5.2.2.1 hD
  have I6 := inv_wm (f := f6) (g := g6) (G := G6) I5
  rw [c6, Option.bind_some, un_f, lt_f]
  clear c6
  generalize (31 : Int64) * y2 + (nI (MXW D (dL D))).toInt64 = y3
  obtain ⟨f7, g7, c7⟩ := ruleBy_e I6.2.2.1 hD 0
  have I7 := inv_ta (f := f7) (g := g7) I6
  rw [c7, Option.bind_some, un_f, lt_f]
  obtain ⟨f8, g8, c8⟩ := ruleBy_e I7.2.2.1 hD 1
  have I8 := inv_ta (f := f8) (g := g8) I7
  rw [c8, Option.bind_some, un_f, lt_f]
  clear c7 c8
  generalize wD (wD (wD (wD (wD (wD (wD t5 6 f6) 7 g6) 8 G6) 6 f7) 7 g7) 6 f8) 7 g8 = t8 at I8
  rw [show (31 : Int64) * ((31 : Int64) * y3 + lN (fr (QS D) (pr (wP D) PA (dL D)) 0)) + lN (fr (QS D) (pr (wP D) PA (dL D)) 1) = frx (QS D) (pr (wP D) PA (dL D)) y3 from rfl]
  generalize frx (QS D) (pr (wP D) PA (dL D)) y3 = y4
  unfold STv
  rw [sts_M I8.2.2.1 hD, Option.bind_some]
  generalize hsh (fun k => (nI (SC D k)).toInt64) y4 (dL D + 1) = y5
  obtain ⟨o1, d1⟩ := likeBy_e I8.2.2.1 hD (a := 1) (c := 2) (by decide) (by decide) 0
  have I9 := inv_5 (o := o1) I8
  rw [show m_X10_likeBy t8 (1 : Int32) (2 : Int32) (0 : Int32) = _ from d1, Option.bind_some, un_f, lt_f]
  obtain ⟨o2, d2⟩ := likeBy_e I9.2.2.1 hD (a := 1) (c := 2) (by decide) (by decide) 1
  have I10 := inv_5 (o := o2) I9
  rw [show m_X10_likeBy (wI t8 5 o1) (1 : Int32) (2 : Int32) (1 : Int32) = _ from d2, Option.bind_some, un_f, lt_f]
  obtain ⟨o3, d3⟩ := likeBy_e I10.2.2.1 hD (a := 9) (c := 10) (by decide) (by decide) 0
  have I11 := inv_5 (o := o3) I10
  rw [show m_X10_likeBy (wI (wI t8 5 o1) 5 o2) (9 : Int32) (10 : Int32) (0 : Int32) = _ from d3, Option.bind_some, un_f, lt_f]
  clear d1 d2 d3
  generalize wI (wI (wI t8 5 o1) 5 o2) 5 o3 = t11 at I11
  rw [lcM_e I11.2.2.1 hD, Option.bind_some, lt_f, lwM_e I11.2.2.1 hD, Option.bind_some, lt_f, ← lc_eq hD, ← lw_eq hD]
  obtain ⟨f12, g12, c12⟩ := wn_e I11.2.2.1 hD
  have I12 := inv_ta (f := f12) (g := g12) I11
  rw [c12, Option.bind_some, un_f, lt_f]
  clear c12
  generalize wD (wD t11 6 f12) 7 g12 = t12 at I12
  generalize (31 : Int64) * ((31 : Int64) * ((31 : Int64) * ((31 : Int64) * ((31 : Int64) * ((31 : Int64) * y5 + lkT D 1 2 0) + lkT D 1 2 1) + lkT D 9 10 0) + (amI (mnf (fcC D) (2 ^ dL D))).toInt64) + (amI (mnf (fwC D) (2 ^ dL D))).toInt64) + (amI (am D (dL D))).toInt64 = y6
  obtain ⟨t13, e1, I13⟩ := pts_M I12 y6
  rw [e1, Option.bind_some, un_f, he t13 I13]
  exact ⟨t13, rfl, I13⟩
theorem s_digest (h : INV b t D) (w : Nat → ST) : SIMW (m_X9_digest b w) (m_X10_digest t) := by
  obtain ⟨b2, w2, h1, h2⟩ := dgC h w
  obtain ⟨t2, h3, h4⟩ := dgM h2
  exact SIMW.mk h1 h3 h4
end DM
