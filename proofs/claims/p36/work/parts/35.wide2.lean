/-! widths, by class and model -/
section WJ
variable {b t : ST} {D : ND}
theorem mem_d {l : List Nat} {x : Nat} : x ∈ l ↔ ∃ j, j < l.length ∧ l.getD j 0 = x := by
  constructor
  · intro h
    obtain ⟨j, hj, he⟩ := List.mem_iff_getElem.mp h
    exact ⟨j, hj, by rw [List.getD_eq_getElem?_getD, List.getElem?_eq_getElem hj]; exact he⟩
  · rintro ⟨j, hj, he⟩
    rw [List.getD_eq_getElem?_getD, List.getElem?_eq_getElem hj] at he
    exact List.mem_iff_getElem.mpr ⟨j, hj, he⟩
theorem getD_app {l : List Nat} {x j : Nat} : (l ++ [x]).getD j 0 = if j < l.length then l.getD j 0 else if j = l.length then x else 0 := by
  rw [List.getD_eq_getElem?_getD, List.getD_eq_getElem?_getD]
  split
  · rename_i h; rw [List.getElem?_append_left h]
  · rename_i h
    rw [List.getElem?_append_right (by omega)]
    split
    · rename_i h2; rw [h2, Nat.sub_self]; rfl
    · rename_i h2
      rw [List.getElem?_eq_none (by simp; omega)]; rfl
theorem rl_none {k i : Nat} (h : NP D k i = none) : rl D k (i + 1) = rl D k i := by
  show (match NP D k i with | none => rl D k i | some q => if q ∈ rl D k i then rl D k i else rl D k i ++ [q]) = _
  rw [h]
theorem rl_some {k i q : Nat} (h : NP D k i = some q) : rl D k (i + 1) = if q ∈ rl D k i then rl D k i else rl D k i ++ [q] := by
  show (match NP D k i with | none => rl D k i | some q => if q ∈ rl D k i then rl D k i else rl D k i ++ [q]) = _
  rw [h]
theorem wb_e (hC : repC b D) (hJ : jnC b D) (hD : okD D) {k : Nat} (hk : k < dL D) : ∃ F, m_X6_widthBehind b (nI k) = some (nI (WID D k), wC b 2 F) := by
  have hL := hD.2.2.1
  have hp1 : 2 ^ (k + 1) ≤ 2 ^ dL D := Nat.pow_le_pow_right (by decide) hk
  have hp : 2 ^ dL D ≤ 2 ^ 10 := Nat.pow_le_pow_right (by decide) hL
  have hp0 := Nat.two_pow_pos (k + 1)
  have hb1 := bm_lt (fun j => uP D j == wP D j) (k + 1)
  have hb2 := bm_lt (fun j => uP D j == 0) (k + 1)
  unfold m_X6_widthBehind
  rw [ob_b hC hD hk, Option.bind_some, su_b hC hD hk, Option.bind_some, sd_b hC hD hk, Option.bind_some]
  dsimp only [lt]
  rw [nI_1, shl_m (k + 1) (by omega)]
  obtain ⟨e, he, F, rfl⟩ := vl_totF (B := m_X6_widthBehind_L34 (nI (OP D k)) (nI (bm (fun j => uP D j == wP D j) (k + 1))) (nI (bm (fun j => uP D j == 0) (k + 1))) (nI (2 ^ (k + 1) - 1))) (fun m st => ∃ i F, i ≤ 2 ^ (k + 1) ∧ m = 2 ^ (k + 1) - i ∧ st = (nI (rl D k i).length, nI i, wC b 2 F) ∧ ∃ r q : Nat → Nat, ∀ j, j < (rl D k i).length → key D k (r j) (dN D) = (rl D k i).getD j 0 ∧ LK D k (r j) (q j) ∧ F j = lN (q j)) (fun e => ∃ F, e = (nI (WID D k), wC b 2 F)) (by
    rintro m st ⟨i, F, hi, rfl, rfl, r, q, hrq⟩
    have hC2 : repC (wC b 2 F) D := hC
    have hJ2 : jnC (wC b 2 F) D := hJ
    have hlen := rl_len (D := D) (k := k) i
    unfold m_X6_widthBehind_L34
    simp only [un, lt]
    by_cases h : i = 2 ^ (k + 1)
    · left
      rw [if_pos (by rw [qlt (by omega) (by omega)]; omega)]
      subst h
      exact ⟨_, rfl, F, rfl⟩
    · right
      rw [if_neg (by rw [qlt (by omega) (by omega)]; omega), if_neg (by rw [qle_1024 (by omega)]; omega), fa_and, fa_and, nI_1]
      simp only [qeq (a := i &&& bm (fun j => uP D j == wP D j) (k + 1)) (b := bm (fun j => uP D j == wP D j) (k + 1)) (Nat.lt_of_le_of_lt Nat.and_le_left (by omega)) (by omega), qeq_0 (i := i &&& bm (fun j => uP D j == 0) (k + 1)) (Nat.lt_of_le_of_lt Nat.and_le_left (by omega))]
      have hskip : NP D k i = none → ∃ t1, (some (Sum.inl (nI (rl D k i).length, nI (i + 1), wC b 2 F)) : Option ((Int32 × Int32 × ST) ⊕ (Int32 × ST))) = some (Sum.inl t1) ∧ ∃ j, j < 2 ^ (k + 1) - i ∧ ∃ i_1 F_1, i_1 ≤ 2 ^ (k + 1) ∧ j = 2 ^ (k + 1) - i_1 ∧ t1 = (nI (rl D k i_1).length, nI i_1, wC b 2 F_1) ∧ ∃ r q : Nat → Nat, ∀ j, j < (rl D k i_1).length → key D k (r j) (dN D) = (rl D k i_1).getD j 0 ∧ LK D k (r j) (q j) ∧ F_1 j = lN (q j) := fun hn => ⟨_, rfl, 2 ^ (k + 1) - (i + 1), by omega, i + 1, F, by omega, rfl, by rw [rl_none hn], r, q, by rw [rl_none hn]; exact hrq⟩
      by_cases hpB : posB D k i = true
      · obtain ⟨p1, p2⟩ := pos_C.mp hpB
        rw [if_pos p1, if_pos p2, re_e hC2 hJ2 hD (by omega), Option.bind_some, bz_if]
        have hNP : NP D k i = NK D k i := by unfold NP; rw [if_pos hpB]
        by_cases hr : rch D i = true
        · rw [if_pos hr]
          exact hskip (by rw [hNP]; unfold NK; rw [if_pos (Or.inl hr)])
        · rw [if_neg hr, lo_b hC2 hJ2 hD (by omega), Option.bind_some, bz_if]
          by_cases hl : lostB D k i = true
          · rw [if_pos hl]
            exact hskip (by rw [hNP]; unfold NK; rw [if_pos (Or.inr hl)])
          · obtain ⟨ql, q1, q2⟩ := look_e (b := wC b 2 F) hC2 hJ2 hD (k := k) (s := i) (by omega)
            have hNK : NP D k i = some (key D k i (dN D)) := by rw [hNP]; unfold NK; rw [if_neg (fun q => q.elim hr hl)]
            rw [if_neg hl, q1, Option.bind_some, if_neg (by rw [qle_1024 (by omega)]; omega), am_b (by omega), Option.bind_some, bz_if]
            have hql : ql < 2 ^ 56 := q2.1
            have hmem : (∃ j, j < (rl D k i).length ∧ F j = lN ql) ↔ key D k i (dN D) ∈ rl D k i := by
              rw [mem_d]
              constructor
              · rintro ⟨j, a1, a2⟩
                obtain ⟨g1, g2, g3⟩ := hrq j a1
                have hqj : q j < 2 ^ 56 := g2.1
                rw [g3, fb_lN_inj (by omega) (by omega)] at a2
                exact ⟨j, a1, by rw [← g1]; exact (look_key hD g2 q2).mp a2⟩
              · rintro ⟨j, a1, a2⟩
                obtain ⟨g1, g2, g3⟩ := hrq j a1
                exact ⟨j, a1, by rw [g3, (look_key hD g2 q2).mpr (g1.trans a2)]⟩
            by_cases hm : key D k i (dN D) ∈ rl D k i
            · rw [if_pos (decide_eq_true (hmem.mpr hm))]
              refine ⟨_, rfl, 2 ^ (k + 1) - (i + 1), by omega, i + 1, F, by omega, rfl, ?_, r, q, ?_⟩
              · rw [rl_some hNK, if_pos hm]
              · rw [rl_some hNK, if_pos hm]; exact hrq
            · rw [if_neg (by rw [decide_eq_false (fun q => hm (hmem.mp q))]; decide), gd_in (by omega) (by omega), nI_clamp (by omega), wB_wC, nI_1]
              refine ⟨_, rfl, 2 ^ (k + 1) - (i + 1), by omega, i + 1, vp_updL F (rl D k i).length (lN ql), by omega, rfl, ?_, fun j => if j = (rl D k i).length then i else r j, fun j => if j = (rl D k i).length then ql else q j, ?_⟩
              · rw [rl_some hNK, if_neg hm, List.length_append]; rfl
              · rw [rl_some hNK, if_neg hm, List.length_append]
                intro j hj
                have hj : j < (rl D k i).length + 1 := hj
                rw [getD_app]
                unfold vp_updL
                by_cases hje : j = (rl D k i).length
                · subst hje
                  simp only [if_true, Nat.lt_irrefl, if_false]
                  exact ⟨trivial, q2, trivial⟩
                · simp only [if_neg hje, if_pos (show j < (rl D k i).length by omega)]
                  exact hrq j (by omega)
      · have hn : NP D k i = none := by unfold NP; rw [if_neg hpB]
        by_cases p1 : i &&& bm (fun j => uP D j == wP D j) (k + 1) = bm (fun j => uP D j == wP D j) (k + 1)
        · rw [if_pos p1, if_neg (fun p2 => hpB (pos_C.mpr ⟨p1, p2⟩))]
          exact hskip hn
        · rw [if_neg p1]
          exact hskip hn) (i := 2 ^ (k + 1) - 0) (s := ((0 : Int32), (0 : Int32), b)) (by omega) ⟨0, b.2.2.2 2, by omega, rfl, by rw [wC_self]; rfl, fun _ => 0, fun _ => 0, fun j hj => absurd hj (Nat.not_lt_zero j)⟩
  rw [he, Option.bind_some]
  exact ⟨F, rfl⟩
/-! the model's -/
/-- the greatest so far -/
def MXW (D : ND) : Nat → Nat
  | 0 => 0
  | k + 1 => if MXW D k < WID D k then WID D k else MXW D k
theorem WID_le (D : ND) (hD : okD D) {k : Nat} (hk : k < dL D) : WID D k ≤ 1024 := by
  have hp1 : 2 ^ (k + 1) ≤ 2 ^ 10 := Nat.pow_le_pow_right (by decide) (by have := hD.2.2.1; omega)
  exact Nat.le_trans (rl_len _) hp1
theorem MXW_le (hD : okD D) : ∀ k, k ≤ dL D → MXW D k ≤ 1024
  | 0, _ => by show 0 ≤ 1024; decide
  | k + 1, h => by
    have h1 := MXW_le hD k (by omega)
    have h2 := WID_le D hD (show k < dL D by omega)
    show (if MXW D k < WID D k then WID D k else MXW D k) ≤ 1024
    split
    · exact h2
    · exact h1
theorem gw_e (hC : repC b D) (hJ : jnC b D) (hD : okD D) : ∃ F, m_X6_greatestWidth b = some (nI (MXW D (dL D)), wC b 2 F) := by
  have hL := hD.2.2.1
  unfold m_X6_greatestWidth
  obtain ⟨e, he, F, rfl⟩ := vl_totF (B := m_X6_greatestWidth_L4) (fun m st => ∃ i F, i ≤ dL D ∧ m = dL D - i ∧ st = (nI (MXW D i), nI i, wC b 2 F)) (fun e => ∃ F, e = (nI (MXW D (dL D)), wC b 2 F)) (by
    rintro m st ⟨i, F, hi, rfl, rfl⟩
    have hC2 : repC (wC b 2 F) D := hC
    have hJ2 : jnC (wC b 2 F) D := hJ
    have hlc : m_X2_linkCount (wC b 2 F) = some (nI (dL D)) := congrArg some hC.2.1
    unfold m_X6_greatestWidth_L4
    simp only [un, lt]
    rw [hlc, Option.bind_some]
    by_cases h : i = dL D
    · left
      rw [if_pos (by rw [qle (by omega) (by omega)]; omega)]
      subst h
      exact ⟨_, rfl, F, rfl⟩
    · right
      have hil : i < dL D := by omega
      obtain ⟨F2, f1⟩ := wb_e hC2 hJ2 hD hil
      have h1 := MXW_le hD i (by omega)
      have h2 := WID_le D hD hil
      have hcc : wC (wC b 2 F) 2 F2 = wC b 2 F2 := by
        unfold wC
        simp only []
        congr 3
        funext j
        split <;> rfl
      rw [if_neg (by rw [qle (by omega) (by omega)]; omega), f1, Option.bind_some, hcc, nI_1]
      refine ⟨_, rfl, dL D - (i + 1), by omega, i + 1, F2, by omega, rfl, ?_⟩
      have hmx : (if nI (MXW D i) < nI (WID D i) then nI (WID D i) else nI (MXW D i)) = nI (MXW D (i + 1)) := by
        show _ = nI (if MXW D i < WID D i then WID D i else MXW D i)
        by_cases q : MXW D i < WID D i
        · rw [if_pos (nI_lt q (by omega)), if_pos q]
        · rw [if_neg (nI_nlt (by omega) (by omega)), if_neg q]
      rw [← hmx]) (i := dL D - 0) (s := ((0 : Int32), (0 : Int32), b)) (by omega) ⟨0, b.2.2.2 2, by omega, rfl, by rw [wC_self]; rfl⟩
  rw [he, Option.bind_some]
  exact ⟨F, rfl⟩
end WJ
