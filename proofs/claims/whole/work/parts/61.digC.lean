/-! digest: what is mixed, and the class's way -/
def hsh (v : Nat → Int64) (x : Int64) : Nat → Int64
  | 0 => x
  | n + 1 => (31 : Int64) * hsh v x n + v n
def IF (D : ND) (k j : Nat) : Int32 := if j = 0 then nI (dA D k) else if j = 1 then nI (dE D k) else if j = 2 then nI (dP D k) else if j = 3 then nI (dQ D k) else nI (dV D k)
def frx (a p : Nat) (x : Int64) : Int64 := (31 : Int64) * ((31 : Int64) * x + lN (fr a p 0)) + lN (fr a p 1)
def LT (D : ND) (k : Nat) (x : Int64) : Int64 := frx (WA D k) (WB D k) ((31 : Int64) * hsh (fun j => (IF D k j).toInt64) x 5 + (nI (WID D k)).toInt64)
def LTs (D : ND) (x : Int64) : Nat → Int64
  | 0 => x
  | k + 1 => LT D k (LTs D x k)
def JV (D : ND) (k : Nat) : Int64 := if k = 0 then lN (rA (RS D (uP D) (wP D)) (pr (wP D) PA (dL D))) else if k = 1 then lN (rB (RS D (uP D) (wP D)) (pr (wP D) PA (dL D))) else if k = 2 then (nI (ak 12 (aV D) 0).1).toInt64 else if k = 3 then (nI (ak 12 (aV D) 0).2.1).toInt64 else (nI (ak 12 (aV D) 0).2.2).toInt64
def PTi (D : ND) (u : Nat) (x : Int64) : Nat → Int64
  | 0 => x
  | k + 1 => if u < k then frx (PS D u k) (pr (wP D) PA (dL D)) (PTi D u x k) else PTi D u x k
def PTs (D : ND) (x : Int64) : Nat → Int64
  | 0 => x
  | u + 1 => PTi D u (PTs D x u) (dN D)
theorem PTi_0 (D : ND) (u : Nat) (x : Int64) : ∀ k, k ≤ u + 1 → PTi D u x k = x
  | 0, _ => rfl
  | k + 1, h => by
    rw [PTi, if_neg (by omega)]
    exact PTi_0 D u x k (by omega)
def CHv (D : ND) (x : Int64) : Int64 := frx (QS D) (pr (wP D) PA (dL D)) ((31 : Int64) * hsh (JV D) (frx (RS D (uP D) (wP D)) (pr (wP D) PA (dL D)) x) 5 + (nI (MXW D (dL D))).toInt64)
def STv (D : ND) (x : Int64) : Int64 := (31 : Int64) * ((31 : Int64) * ((31 : Int64) * ((31 : Int64) * ((31 : Int64) * hsh (fun k => (nI (SC D k)).toInt64) x (dL D + 1) + lkT D 1 2 0) + lkT D 1 2 1) + lkT D 9 10 0) + (amI (mnf (fcC D) (2 ^ dL D))).toInt64) + (amI (mnf (fwC D) (2 ^ dL D))).toInt64
def DGv (D : ND) (v : Nat → Int64) (e : Int64) : Int64 := (31 : Int64) * PTs D ((31 : Int64) * STv D (CHv D (LTs D (hsh v 17 8) (dL D))) + (amI (am D (dL D))).toInt64) (dN D) + e
theorem vl_st {S : Type} {B : Int64 × Int32 × S → Option ((Int64 × Int32 × S) ⊕ (Int64 × S))} {I : S → Prop} (G : Nat → Int64) (k n : Nat) (hk : k ≤ n) (hn : n < 100000) (hs : ∀ i t, k ≤ i → i < n → I t → ∃ t2, B (G i, nI i, t) = some (.inl (G (i + 1), nI (i + 1), t2)) ∧ I t2) (he : ∀ t, I t → B (G n, nI n, t) = some (.inr (G n, t))) {t : S} (h : I t) : ∃ t2, vLoop B FUEL (G k, nI k, t) = some (G n, t2) ∧ I t2 := by
  obtain ⟨e, h1, t2, h2, h3⟩ := vl_totF (B := B) (fun c st => ∃ i t, k ≤ i ∧ i ≤ n ∧ c = n - i ∧ st = (G i, nI i, t) ∧ I t) (fun e => ∃ t2, e = (G n, t2) ∧ I t2) (by
    rintro c st ⟨i, t, h1, h2, rfl, rfl, h3⟩
    by_cases q : i = n
    · subst q
      exact Or.inl ⟨_, he t h3, t, rfl, h3⟩
    · obtain ⟨t2, q1, q2⟩ := hs i t h1 (by omega) h3
      exact Or.inr ⟨_, q1, n - (i + 1), by omega, i + 1, t2, by omega, by omega, rfl, rfl, q2⟩) (i := n - k) (s := (G k, nI k, t)) (by omega) ⟨k, t, Nat.le_refl k, hk, rfl, rfl, h⟩
  subst h2
  exact ⟨t2, h1, h3⟩
section DG
variable {b t : ST} {D : ND}
theorem if9 (hC : repC b D) (hD : okD D) {k j : Nat} (hk : k < dL D) (hj : j < 5) : m_X9_info b (nI k) (nI j) = some (IF D k j) := by
  unfold m_X9_info
  rw [hl_e hC hD, Option.bind_some, bz_if, lnk_nI hk hD, if_pos rfl, lo_e hC hD hk, hi_e hC hD hk, ab_e hC hD hk, be_e hC hD hk, se_e hC hD hk]
  rcases (show j = 0 ∨ j = 1 ∨ j = 2 ∨ j = 3 ∨ j = 4 by omega) with rfl | rfl | rfl | rfl | rfl <;> rfl
/-- the class, with all that the digest filled beforehand -/
def CI (b t : ST) (D : ND) : Prop := INV b t D ∧ PRT b D (uP D) (wP D) ∧ CNT b D ∧ b.1 4 = nI (ak 12 (aV D) 0).1 ∧ b.1 5 = nI (ak 12 (aV D) 0).2.1 ∧ b.1 6 = nI (ak 12 (aV D) 0).2.2
theorem CI_w {F : Nat → Int64} (h : CI b t D) : CI (wC b 2 F) t D := ⟨inv_wb h.1, h.2.1, h.2.2.1, h.2.2.2.1, h.2.2.2.2.1, h.2.2.2.2.2⟩
theorem wf_e (h : CI b t D) {a : Nat} (ha : a < 2 ^ 63) (x : Int64) : m_X9_withFraction b x (lN a) = some (frx a (pr (wP D) PA (dL D)) x) := by
  unfold m_X9_withFraction m_X9_mixed
  rw [td_e (okW_D h.1.1) h.2.1 ha, Option.bind_some, Option.bind_some, td_e (okW_D h.1.1) h.2.1 ha, Option.bind_some, Option.bind_some]
  rfl
theorem wk_e (h : CI b t D) (x : Int64) : ∃ b2, m_X9_withLinks b x = some (LTs D x (dL D), b2) ∧ CI b2 t D := by
  have hL := h.1.1.2.2.1
  have hD := h.1.1
  obtain ⟨b2, h1, h2⟩ := vl_st (B := m_X9_withLinks_L2) (I := fun b => CI b t D) (fun k => LTs D x k) 0 (dL D) (by omega) (by omega) (fun k b _ hk hI => by
    have hC := hI.1.2.1
    have hJ := hI.1.2.2.2.1
    have hl : m_X2_linkCount b = some (nI (dL D)) := by rw [← hC.2.1]; rfl
    obtain ⟨F, f1⟩ := wb_e hC hJ hD hk
    have hI2 := CI_w (F := F) hI
    have h3 := WA_le hD (k := k)
    obtain ⟨h4, h5⟩ := WB_pos hD (k := k)
    obtain ⟨w1, w2, w3⟩ := uP_le hD hk
    have h6 : wP D k * WA D k ≤ 9 * 3486784401 := Nat.mul_le_mul w3 (Nat.le_trans h3 h5)
    have hin : ∀ y, vLoop (m_X9_withLinks_L16 (nI k) b) FUEL (y, (0 : Int32)) = some (hsh (fun j => (IF D k j).toInt64) y 5) := fun y => by
      refine vl_F (fun j => (hsh (fun j => (IF D k j).toInt64) y j, nI j)) 0 5 (by omega) (by omega) (fun j _ hj => ?_) ?_
      · unfold m_X9_withLinks_L16 m_X9_mixed
        simp only [un, lt]
        rw [if_neg (by rw [show (4 : Int32) = nI 4 from rfl, qlt (by omega) (by omega)]; omega), if9 hC hD hk hj, Option.bind_some, Option.bind_some, nI_1]
        rfl
      · unfold m_X9_withLinks_L16
        simp only [un]
        rw [if_pos (by decide)]
    refine ⟨wC b 2 F, ?_, hI2⟩
    unfold m_X9_withLinks_L2
    simp only [un, lt]
    rw [hl, Option.bind_some, if_neg (by rw [qle (by omega) (by omega)]; omega), hin, Option.bind_some, f1, Option.bind_some]
    dsimp only [m_X9_mixed]
    rw [Option.bind_some, wparts_e hI2.1.2.1 hI2.1.2.2.2.1 hD hI2.2.1 hk, Option.bind_some, wf_e hI2 (by omega), Option.bind_some, nI_1]
    unfold frx
    rw [pr_k hk, fr_mul w2, fr_mul w2]
    rfl) (fun b hI => by
    have hC := hI.1.2.1
    have hl : m_X2_linkCount b = some (nI (dL D)) := by rw [← hC.2.1]; rfl
    unfold m_X9_withLinks_L2
    simp only [un]
    rw [hl, Option.bind_some, if_pos (by rw [qle (by omega) (by omega)]; omega)]) h
  refine ⟨b2, ?_, h2⟩
  unfold m_X9_withLinks
  have h1 : vLoop m_X9_withLinks_L2 FUEL (x, (0 : Int32), b) = some (LTs D x (dL D), b2) := h1
  rw [h1]
  rfl
theorem wch_e (h : CI b t D) {w : Nat → ST} (w0 : (w 0).2.1 0 = lN (rA (RS D (uP D) (wP D)) (pr (wP D) PA (dL D)))) (w1 : (w 0).2.1 1 = lN (rB (RS D (uP D) (wP D)) (pr (wP D) PA (dL D)))) (x : Int64) : ∃ b2, m_X9_withChances b w x = some (CHv D x, b2, w) ∧ CI b2 t D := by
  have hD := h.1.1
  have hr := RS_lt (D := D) (okW_D hD)
  have hq := QS_lt hD
  have hrp : m_X3_reachParts b = some (lN (RS D (uP D) (wP D))) := rp_e h.1.2.1 h.1.2.2.2.1 hD h.2.1
  obtain ⟨F, f1⟩ := gw_e h.1.2.1 h.1.2.2.2.1 hD
  have hI2 := CI_w (F := F) h
  have hru := ru_e hI2.1.2.1 hI2.1.2.2.2.1 hD hI2.2.1
  rw [QS_eq hD] at hru
  have hin : ∀ y, vLoop (m_X9_withChances_L15 b w) FUEL (y, (0 : Int32)) = some (hsh (JV D) y 5) := fun y => by
    refine vl_F (fun j => (hsh (JV D) y j, nI j)) 0 5 (by omega) (by omega) (fun j _ hj => ?_) ?_
    · have ht : m_X0_told b w (nI j) = some (JV D j) := by
        unfold m_X0_told
        rcases (show j = 0 ∨ j = 1 ∨ j = 2 ∨ j = 3 ∨ j = 4 by omega) with rfl | rfl | rfl | rfl | rfl
        · rw [if_pos (show nI 0 = (0 : Int32) from rfl), gd_t (by decide)]
          show Option.bind (some ((w 0).2.1 0)) some = _
          rw [w0]; rfl
        · rw [if_neg (show ¬ nI 1 = (0 : Int32) by decide), if_pos (show nI 1 = (1 : Int32) from rfl), gd_t (by decide)]
          show Option.bind (some ((w 0).2.1 1)) some = _
          rw [w1]; rfl
        · rw [if_neg (by decide), if_neg (by decide), if_pos (by decide), h.2.2.2.1]; rfl
        · rw [if_neg (by decide), if_neg (by decide), if_neg (by decide), if_pos (by decide), h.2.2.2.2.1]; rfl
        · rw [if_neg (by decide), if_neg (by decide), if_neg (by decide), if_neg (by decide), h.2.2.2.2.2]; rfl
      unfold m_X9_withChances_L15 m_X9_mixed
      simp only [un, lt]
      rw [if_neg (by rw [show (4 : Int32) = nI 4 from rfl, qlt (by omega) (by omega)]; omega), ht, Option.bind_some, Option.bind_some, nI_1]
      rfl
    · unfold m_X9_withChances_L15
      simp only [un]
      rw [if_pos (by decide)]
  refine ⟨wC b 2 F, ?_, hI2⟩
  unfold m_X9_withChances
  rw [hrp, Option.bind_some, wf_e h (by omega), Option.bind_some, hin, Option.bind_some, f1, Option.bind_some]
  dsimp only [un, m_X9_mixed]
  rw [Option.bind_some, hru, Option.bind_some, wf_e hI2 (by omega), Option.bind_some]
  rfl
theorem ws_e (h : CI b t D) (x : Int64) : m_X9_withSets b x = some (STv D x) := by
  have hD := h.1.1
  have hC := h.1.2.1
  have hJ := h.1.2.2.2.1
  have hL := hD.2.2.1
  have hl : m_X2_linkCount b = some (nI (dL D)) := by rw [← hC.2.1]; rfl
  have hin : vLoop (m_X9_withSets_L2 b) FUEL (x, (0 : Int32)) = some (hsh (fun k => (nI (SC D k)).toInt64) x (dL D + 1)) := by
    refine vl_F (fun j => (hsh (fun k => (nI (SC D k)).toInt64) x j, nI j)) 0 (dL D + 1) (by omega) (by omega) (fun j _ hj => ?_) ?_
    · unfold m_X9_withSets_L2 m_X9_mixed
      simp only [un, lt]
      rw [hl, Option.bind_some, if_neg (by rw [qlt (by omega) (by omega)]; omega), of_e h.2.2.1 (by omega), Option.bind_some, Option.bind_some, nI_1]
      rfl
    · unfold m_X9_withSets_L2
      simp only [un]
      rw [hl, Option.bind_some, if_pos (by rw [qlt (by omega) (by omega)]; omega)]
  have a1 := alike_e hC hD h.2.2.1 (a := 1) (c := 2) (by decide) (by decide) 0
  have a2 := alike_e hC hD h.2.2.1 (a := 1) (c := 2) (by decide) (by decide) 1
  have a3 := alike_e hC hD h.2.2.1 (a := 9) (c := 10) (by decide) (by decide) 0
  unfold m_X9_withSets
  rw [hin, Option.bind_some, show m_X9_alike b (1 : Int32) (2 : Int32) (0 : Int32) = _ from a1, Option.bind_some]
  dsimp only [m_X9_mixed]
  rw [Option.bind_some, show m_X9_alike b (1 : Int32) (2 : Int32) (1 : Int32) = _ from a2, Option.bind_some, Option.bind_some, show m_X9_alike b (9 : Int32) (10 : Int32) (0 : Int32) = _ from a3, Option.bind_some, Option.bind_some, lc_e hC hJ hD, Option.bind_some, Option.bind_some, lw_e hC hJ hD, Option.bind_some, Option.bind_some]
  rfl
theorem wpi_e (h : CI b t D) {u : Nat} (hu : u < dN D) (x : Int64) : vLoop (m_X9_withPairs_L18 (nI u) b) FUEL (x, nI (u + 1)) = some (PTi D u x (dN D)) := by
  have hD := h.1.1
  have hC := h.1.2.1
  have hJ := h.1.2.2.2.1
  have hN := hD.2.1
  have hl : m_X2_stationCount b = some (nI (dN D)) := by rw [← hC.1]; rfl
  have h0 : (x, nI (u + 1)) = (fun k => (PTi D u x k, nI k)) (u + 1) := by
    show _ = (PTi D u x (u + 1), nI (u + 1))
    rw [PTi_0 D u x (u + 1) (Nat.le_refl _)]
  rw [h0]
  refine vl_F (fun k => (PTi D u x k, nI k)) (u + 1) (dN D) (by omega) (by omega) (fun j hj1 hj => ?_) ?_
  · have hp := pp_e hC hJ hD h.2.1 (v := u) (c := j) (by omega) (by omega)
    have hp : m_X3_pairParts b (nI u) (nI j) = some (lN (PS D u j)) := hp
    have hle := (PS_lt hD (v := u) (c := j)).2
    unfold m_X9_withPairs_L18
    simp only [un, lt]
    rw [hl, Option.bind_some, if_neg (by rw [qle (by omega) (by omega)]; omega), hp, Option.bind_some, wf_e h (by omega), Option.bind_some, nI_1]
    show _ = some (Sum.inl ((if u < j then frx (PS D u j) (pr (wP D) PA (dL D)) (PTi D u x j) else PTi D u x j), nI (j + 1)))
    rw [if_pos (by omega)]
  · unfold m_X9_withPairs_L18
    simp only [un]
    rw [hl, Option.bind_some, if_pos (by rw [qle (by omega) (by omega)]; omega)]
theorem wp_d (h : CI b t D) (x : Int64) : m_X9_withPairs b x = some (PTs D x (dN D)) := by
  have hD := h.1.1
  have hC := h.1.2.1
  have hN := hD.2.1
  have hl : m_X2_stationCount b = some (nI (dN D)) := by rw [← hC.1]; rfl
  unfold m_X9_withPairs
  have hv : vLoop (m_X9_withPairs_L2 b) FUEL (x, (0 : Int32)) = some (PTs D x (dN D)) := by
    refine vl_F (fun k => (PTs D x k, nI k)) 0 (dN D) (by omega) (by omega) (fun j _ hj => ?_) ?_
    · unfold m_X9_withPairs_L2
      simp only [un, lt]
      rw [hl, Option.bind_some, if_neg (by rw [qle (by omega) (by omega)]; omega), nI_1, wpi_e h hj, Option.bind_some]
      rfl
    · unfold m_X9_withPairs_L2
      simp only [un]
      rw [hl, Option.bind_some, if_pos (by rw [qle (by omega) (by omega)]; omega)]
  rw [hv]
  rfl
/-- the class's digest; v is what is counted -/
theorem dgC (h : INV b t D) (w : Nat → ST) : ∃ b2 w2, m_X9_digest b w = some (DGv D (fun k => ((m_X10_count t (nI k)).getD 0).toInt64) (t.1 10).toInt64, b2, w2) ∧ INV b2 t D := by
  obtain ⟨hD, hC, hM, hJ, hT, hS⟩ := id h
  obtain ⟨F, f1, f2⟩ := fill_e hC hD
  have hI1 := inv_od (F := F) (v := lN (pr (wP D) PA (dL D))) h
  obtain ⟨R, r1, r2⟩ := cfill_e hI1.2.1 hI1.2.2.2.1 hD
  have hI2 := inv_cn (R := R) hI1
  obtain ⟨w', a1, a2, a3⟩ := aa_e hI2.2.1 hD w
  have hP : PRT (wC (wL b 0 (lN (pr (wP D) PA (dL D)))) 1 F) D (uP D) (wP D) := ⟨rfl, f2⟩
  have hI3 : CI (K3 (wD (wC (wL b 0 (lN (pr (wP D) PA (dL D)))) 1 F) 5 R) (ak 12 (aV D) 0).1 (ak 12 (aV D) 0).2.1 (ak 12 (aV D) 0).2.2) t D := ⟨K3_I hI2 _ _ _, hP, r2, rfl, rfl, rfl⟩
  unfold m_X9_digest
  rw [f1, Option.bind_some, r1, Option.bind_some, a1, Option.bind_some, un_f]
  generalize K3 (wD (wC (wL b 0 (lN (pr (wP D) PA (dL D)))) 1 F) 5 R) (ak 12 (aV D) 0).1 (ak 12 (aV D) 0).2.1 (ak 12 (aV D) 0).2.2 = B at hI3
  have hcn : vLoop (m_X9_digest_L27 B) FUEL ((17 : Int64), (0 : Int32)) = some (hsh (fun k => ((m_X10_count t (nI k)).getD 0).toInt64) 17 8) := by
    refine vl_F (fun j => (hsh (fun k => ((m_X10_count t (nI k)).getD 0).toInt64) 17 j, nI j)) 0 8 (by omega) (by omega) (fun j _ hj => ?_) ?_
    · obtain ⟨r, q1, q2⟩ := s_count hI3.1 (nI j)
      unfold m_X9_digest_L27 m_X9_mixed
      simp only [un, lt]
      rw [if_neg (by rw [show (7 : Int32) = nI 7 from rfl, qlt (by omega) (by omega)]; omega), q1, Option.bind_some, Option.bind_some, nI_1]
      show _ = some (Sum.inl ((31 : Int64) * hsh (fun k => ((m_X10_count t (nI k)).getD 0).toInt64) 17 j + ((m_X10_count t (nI j)).getD 0).toInt64, nI (j + 1)))
      rw [q2]
      rfl
    · unfold m_X9_digest_L27
      simp only [un]
      rw [if_pos (by decide)]
  obtain ⟨b3, k1, k2⟩ := wk_e hI3 (hsh (fun k => ((m_X10_count t (nI k)).getD 0).toInt64) 17 8)
  obtain ⟨b4, c1, c2⟩ := wch_e k2 a2 a3 (LTs D (hsh (fun k => ((m_X10_count t (nI k)).getD 0).toInt64) 17 8) (dL D))
  rw [hcn, Option.bind_some, k1, Option.bind_some, un_f, c1, Option.bind_some, un_f, un_f, ws_e c2, Option.bind_some, wl_e c2.1.2.1 c2.1.2.2.2.1 hD c2.2.1, Option.bind_some]
  dsimp only [m_X9_mixed]
  rw [Option.bind_some, wp_d c2, Option.bind_some, show m_X4_latestFault b4 = some (b4.1 8) from rfl, Option.bind_some, Option.bind_some, c2.1.2.2.2.2.1.2.2]
  exact ⟨b4, w', rfl, c2.1⟩
end DG
