/-! widths, by class and model -/
section WJ
variable {b t : ST} {D : ND}
theorem mem_d {l : List Nat} {x : Nat} : x ∈ l ↔ ∃ j, j < l.length ∧ l.getD j 0 = x := by
  constructor
  · intro h
    obtain ⟨j, hj, he⟩ := List.mem_iff_getElem.mp h
    exact ⟨j, hj, by rw [List.getD_eq_getElem?_getD, List.getElem?_eq_getElem hj]; exact he⟩
  · rintro ⟨j, hj, he⟩
    rw [List.getD_eq_getElem?_getD, List.getElem?_eq_getElem hj] at he
    exact List.mem_iff_getElem.mpr ⟨j, hj, he⟩
theorem getD_app {l : List Nat} {x j : Nat} : (l ++ [x]).getD j 0 = if j < l.length then l.getD j 0 else if j = l.length then x else 0 := by
  rw [List.getD_eq_getElem?_getD, List.getD_eq_getElem?_getD]
  split
  · rename_i h; rw [List.getElem?_append_left h]
  · rename_i h
    rw [List.getElem?_append_right (by omega)]
    split
    · rename_i h2; rw [h2, Nat.sub_self]; rfl
    · rename_i h2
      rw [List.getElem?_eq_none (by simp; omega)]; rfl
theorem rl_none {k i : Nat} (h : NP D k i = none) : rl D k (i + 1) = rl D k i := by
  show (match NP D k i with | none => rl D k i | some q => if q ∈ rl D k i then rl D k i else rl D k i ++ [q]) = _
  rw [h]
theorem rl_some {k i q : Nat} (h : NP D k i = some q) : rl D k (i + 1) = if q ∈ rl D k i then rl D k i else rl D k i ++ [q] := by
  show (match NP D k i with | none => rl D k i | some q => if q ∈ rl D k i then rl D k i else rl D k i ++ [q]) = _
  rw [h]
theorem wb_e (hC : repC b D) (hJ : jnC b D) (hD : okD D) {k : Nat} (hk : k < dL D) : ∃ F, m_X6_widthBehind b (nI k) = some (nI (WID D k), wC b 2 F) := by
  have hL := hD.2.2.1
  have hp1 : 2 ^ (k + 1) ≤ 2 ^ dL D := Nat.pow_le_pow_right (by decide) hk
  have hp : 2 ^ dL D ≤ 2 ^ 10 := Nat.pow_le_pow_right (by decide) hL
  have hp0 := Nat.two_pow_pos (k + 1)
  have hb1 := bm_lt (fun j => uP D j == wP D j) (k + 1)
  have hb2 := bm_lt (fun j => uP D j == 0) (k + 1)
  unfold m_X6_widthBehind
  rw [ob_b hC hD hk, Option.bind_some, su_b hC hD hk, Option.bind_some, sd_b hC hD hk, Option.bind_some]
  dsimp only [lt]
  rw [nI_1, shl_m (k + 1) (by omega)]
  obtain ⟨e, he, F, rfl⟩ := vl_totF (B := m_X6_widthBehind_L34 (nI (OP D k)) (nI (bm (fun j => uP D j == wP D j) (k + 1))) (nI (bm (fun j => uP D j == 0) (k + 1))) (nI (2 ^ (k + 1) - 1))) (fun m st => ∃ i F, i ≤ 2 ^ (k + 1) ∧ m = 2 ^ (k + 1) - i ∧ st = (nI (rl D k i).length, nI i, wC b 2 F) ∧ ∃ r q : Nat → Nat, ∀ j, j < (rl D k i).length → key D k (r j) (dN D) = (rl D k i).getD j 0 ∧ LK D k (r j) (q j) ∧ F j = lN (q j)) (fun e => ∃ F, e = (nI (WID D k), wC b 2 F)) (by
    rintro m st ⟨i, F, hi, rfl, rfl, r, q, hrq⟩
    have hC2 : repC (wC b 2 F) D := hC
    have hJ2 : jnC (wC b 2 F) D := hJ
    have hlen := rl_len (D := D) (k := k) i
    unfold m_X6_widthBehind_L34
    simp only [un, lt]
    by_cases h : i = 2 ^ (k + 1)
    · left
      rw [if_pos (by rw [qlt (by omega) (by omega)]; omega)]
      subst h
      exact ⟨_, rfl, F, rfl⟩
    · right
      rw [if_neg (by rw [qlt (by omega) (by omega)]; omega), if_neg (by rw [qle_1024 (by omega)]; omega), fa_and, fa_and, nI_1]
      simp only [qeq (a := i &&& bm (fun j => uP D j == wP D j) (k + 1)) (b := bm (fun j => uP D j == wP D j) (k + 1)) (Nat.lt_of_le_of_lt Nat.and_le_left (by omega)) (by omega), qeq_0 (i := i &&& bm (fun j => uP D j == 0) (k + 1)) (Nat.lt_of_le_of_lt Nat.and_le_left (by omega))]
      have hskip : NP D k i = none → ∃ t1, (some (Sum.inl (nI (rl D k i).length, nI (i + 1), wC b 2 F)) : Option ((Int32 × Int32 × ST) ⊕ (Int32 × ST))) = some (Sum.inl t1) ∧ ∃ j, j < 2 ^ (k + 1) - i ∧ ∃ i_1 F_1, i_1 ≤ 2 ^ (k + 1) ∧ j = 2 ^ (k + 1) - i_1 ∧ t1 = (nI (rl D k i_1).length, nI i_1, wC b 2 F_1) ∧ ∃ r q : Nat → Nat, ∀ j, j < (rl D k i_1).length → key D k (r j) (dN D) = (rl D k i_1).getD j 0 ∧ LK D k (r j) (q j) ∧ F_1 j = lN (q j) := fun hn => ⟨_, rfl, 2 ^ (k + 1) - (i + 1), by omega, i + 1, F, by omega, rfl, by rw [rl_none hn], r, q, by rw [rl_none hn]; exact hrq⟩
      by_cases hpB : posB D k i = true
      · obtain ⟨p1, p2⟩ := pos_C.mp hpB
        rw [if_pos p1, if_pos p2, re_e hC2 hJ2 hD (by omega), Option.bind_some, bz_if]
        have hNP : NP D k i = NK D k i := by unfold NP; rw [if_pos hpB]
        by_cases hr : rch D i = true
        · rw [if_pos hr]
          exact hskip (by rw [hNP]; unfold NK; rw [if_pos (Or.inl hr)])
        · rw [if_neg hr, lo_b hC2 hJ2 hD (by omega), Option.bind_some, bz_if]
          by_cases hl : lostB D k i = true
          · rw [if_pos hl]
            exact hskip (by rw [hNP]; unfold NK; rw [if_pos (Or.inr hl)])
          · obtain ⟨ql, q1, q2⟩ := look_e (b := wC b 2 F) hC2 hJ2 hD (k := k) (s := i) (by omega)
            have hNK : NP D k i = some (key D k i (dN D)) := by rw [hNP]; unfold NK; rw [if_neg (fun q => q.elim hr hl)]
            rw [if_neg hl, q1, Option.bind_some, if_neg (by rw [qle_1024 (by omega)]; omega), am_b (by omega), Option.bind_some, bz_if]
            have hql : ql < 2 ^ 56 := q2.1
            have hmem : (∃ j, j < (rl D k i).length ∧ F j = lN ql) ↔ key D k i (dN D) ∈ rl D k i := by
              rw [mem_d]
              constructor
              · rintro ⟨j, a1, a2⟩
                obtain ⟨g1, g2, g3⟩ := hrq j a1
                have hqj : q j < 2 ^ 56 := g2.1
                rw [g3, fb_lN_inj (by omega) (by omega)] at a2
                exact ⟨j, a1, by rw [← g1]; exact (look_key hD g2 q2).mp a2⟩
              · rintro ⟨j, a1, a2⟩
                obtain ⟨g1, g2, g3⟩ := hrq j a1
                exact ⟨j, a1, by rw [g3, (look_key hD g2 q2).mpr (g1.trans a2)]⟩
            by_cases hm : key D k i (dN D) ∈ rl D k i
            · rw [if_pos (decide_eq_true (hmem.mpr hm))]
              refine ⟨_, rfl, 2 ^ (k + 1) - (i + 1), by omega, i + 1, F, by omega, rfl, ?_, r, q, ?_⟩
              · rw [rl_some hNK, if_pos hm]
              · rw [rl_some hNK, if_pos hm]; exact hrq
            · rw [if_neg (by rw [decide_eq_false (fun q => hm (hmem.mp q))]; decide), gd_in (by omega) (by omega), nI_clamp (by omega), wB_wC, nI_1]
              refine ⟨_, rfl, 2 ^ (k + 1) - (i + 1), by omega, i + 1, vp_updL F (rl D k i).length (lN ql), by omega, rfl, ?_, fun j => if j = (rl D k i).length then i else r j, fun j => if j = (rl D k i).length then ql else q j, ?_⟩
              · rw [rl_some hNK, if_neg hm, List.length_append]; rfl
              · rw [rl_some hNK, if_neg hm, List.length_append]
                intro j hj
                have hj : j < (rl D k i).length + 1 := hj
                rw [getD_app]
                unfold vp_updL
                by_cases hje : j = (rl D k i).length
                · subst hje
                  simp only [if_true, Nat.lt_irrefl, if_false]
                  exact ⟨trivial, q2, trivial⟩
                · simp only [if_neg hje, if_pos (show j < (rl D k i).length by omega)]
                  exact hrq j (by omega)
      · have hn : NP D k i = none := by unfold NP; rw [if_neg hpB]
        by_cases p1 : i &&& bm (fun j => uP D j == wP D j) (k + 1) = bm (fun j => uP D j == wP D j) (k + 1)
        · rw [if_pos p1, if_neg (fun p2 => hpB (pos_C.mpr ⟨p1, p2⟩))]
          exact hskip hn
        · rw [if_neg p1]
          exact hskip hn) (i := 2 ^ (k + 1) - 0) (s := ((0 : Int32), (0 : Int32), b)) (by omega) ⟨0, b.2.2.2 2, by omega, rfl, by rw [wC_self]; rfl, fun _ => 0, fun _ => 0, fun j hj => absurd hj (Nat.not_lt_zero j)⟩
  rw [he, Option.bind_some]
  exact ⟨F, rfl⟩
/-! the model's -/
theorem io_e (hM : repM t D) (hD : okD D) {k s : Nat} (hk : k < dL D) (hs : s < 7) : m_X10_isOpen t (nI s) (nI k) = some (bz (opn D k s)) := by
  have hL := hD.2.2.1
  have hN := hD.2.1
  unfold m_X10_isOpen
  dsimp only [lt]
  rw [nI_1]
  obtain ⟨e, he, hQ⟩ := vl_totF (B := m_X10_isOpen_L7 (nI s) t) (fun m st => ∃ i o, k < i ∧ i ≤ dL D ∧ m = dL D - i ∧ st = (bz o, nI i) ∧ (o = true ↔ ∃ j, j < i ∧ k < j ∧ (dA D j = s ∨ dE D j = s))) (fun e => e = bz (opn D k s)) (by
    rintro m st ⟨i, o, hki, hi, rfl, rfl, ho⟩
    unfold m_X10_isOpen_L7
    simp only [un, lt]
    rw [hM.2.1]
    by_cases h : i = dL D
    · left
      rw [if_pos (by rw [qle (by omega) (by omega)]; omega)]
      refine ⟨_, rfl, congrArg bz (Bool.eq_iff_iff.mpr ?_)⟩
      rw [opn_iff, ho, h]
    · right
      obtain ⟨e1, e2, -⟩ := hD.2.2.2.2.2 i (by omega)
      rw [if_neg (by rw [qle (by omega) (by omega)]; omega), bz_if, gd_in (by omega) (by omega), gd_in (by omega) (by omega), nI_clamp (by omega), hM.2.2.2.2.1 i, hM.2.2.2.2.2.1 i, nI_1]
      have hstep : ∀ o2 : Bool, (o2 = true ↔ (o = true ∨ dA D i = s ∨ dE D i = s)) → ∃ t1, (some (Sum.inl (bz o2, nI (i + 1))) : Option ((Int32 × Int32) ⊕ Int32)) = some (Sum.inl t1) ∧ ∃ j, j < dL D - i ∧ ∃ i_1 o, k < i_1 ∧ i_1 ≤ dL D ∧ j = dL D - i_1 ∧ t1 = (bz o, nI i_1) ∧ (o = true ↔ ∃ j, j < i_1 ∧ k < j ∧ (dA D j = s ∨ dE D j = s)) := fun o2 h2 => ⟨_, rfl, dL D - (i + 1), by omega, i + 1, o2, by omega, by omega, rfl, rfl, by
        rw [h2, ho]
        constructor
        · rintro (⟨j, a1, a2, a3⟩ | q)
          · exact ⟨j, by omega, a2, a3⟩
          · exact ⟨i, by omega, hki, q⟩
        · rintro ⟨j, a1, a2, a3⟩
          by_cases hji : j = i
          · subst hji; exact Or.inr a3
          · exact Or.inl ⟨j, by omega, a2, a3⟩⟩
      cases o
      · rw [if_neg (by decide)]
        by_cases q1 : dA D i = s
        · rw [if_pos (by rw [q1])]; exact hstep true (by simp [q1])
        · rw [if_neg (by rw [qeq (by omega) (by omega)]; exact q1)]
          by_cases q2 : dE D i = s
          · rw [if_pos (by rw [q2])]; exact hstep true (by simp [q2])
          · rw [if_neg (by rw [qeq (by omega) (by omega)]; exact q2)]; exact hstep false (by simp [q1, q2])
      · rw [if_pos rfl]; exact hstep true (by simp)) (i := dL D - (k + 1)) (s := ((0 : Int32), nI (k + 1))) (by omega) ⟨k + 1, false, by omega, by omega, rfl, rfl, ⟨fun q => (by cases q), fun ⟨j, a1, a2, _⟩ => (by omega)⟩⟩
  rw [he, Option.bind_some, hQ]
  exact bz_gd _ _
theorem oM_e (hM : repM t D) (hD : okD D) {k : Nat} (hk : k < dL D) : vLoop (m_X10_wideBy_L8 (nI k) t) FUEL ((0 : Int32), (0 : Int32)) = some (nI (OP D k)) := by
  have hN := hD.2.1
  have hz : (0 : Int32) = nI 0 := rfl
  have hfin : bm (opn D k) (dN D) = OP D k := by
    refine bit_ext (n := 7) (Nat.lt_of_lt_of_le (bm_lt _ _) (Nat.pow_le_pow_right (by decide) hN)) (OP_lt D k) (fun i hi => ?_)
    rw [OP_bit hi, bm_bit]
    by_cases h : i < dN D
    · rw [decide_eq_true h]; rfl
    · rw [decide_eq_false h]
      cases q : opn D k i
      · rfl
      · exact absurd (opn_N hD q) h
  rw [← hfin]
  refine vl_F (fun i => (nI (bm (opn D k) i), nI i)) 0 (dN D) (by omega) (by omega) (fun i _ hi => ?_) ?_
  · unfold m_X10_wideBy_L8
    simp only [un, lt]
    rw [hM.1, if_neg (by rw [qle (by omega) (by omega)]; omega), io_e hM hD hk (by omega), Option.bind_some, bz_if, shl_1 i (by omega), fa_or, nI_1]
    by_cases q : opn D k i = true
    · rw [if_pos q, bm_next q]
    · rw [if_neg q, hz, fa_or, Nat.or_zero, bm_same (Bool.eq_false_iff.mpr q)]
  · unfold m_X10_wideBy_L8
    simp only [un]
    rw [hM.1, if_pos (by rw [qle (by omega) (by omega)]; omega)]
theorem ip_e (hM : repM t D) (hD : okD D) (hT : TOB t D (uP D) (wP D)) {k s : Nat} (hk : k < dL D) (hs : s < 1024) : m_X10_isPossible t (nI s) (nI k) = some (bz (posB D k s)) := by
  have hL := hD.2.2.1
  unfold m_X10_isPossible
  obtain ⟨e, he, hQ⟩ := vl_totF (B := m_X10_isPossible_L5 (nI s) (nI k) t) (fun m st => ∃ i o, i ≤ k + 1 ∧ m = k + 1 - i ∧ st = (bz o, nI i) ∧ (o = true ↔ ∀ j, j < i → (uP D j = wP D j → s.testBit j = true) ∧ (uP D j = 0 → s.testBit j = false))) (fun e => e = bz (posB D k s)) (by
    rintro m st ⟨i, o, hi, rfl, rfl, ho⟩
    unfold m_X10_isPossible_L5
    simp only [un, lt]
    by_cases h : i = k + 1
    · left
      rw [if_pos (by rw [qlt (by omega) (by omega)]; omega)]
      refine ⟨_, rfl, congrArg bz (Bool.eq_iff_iff.mpr ?_)⟩
      rw [pos_iff, ho, h]
    · right
      obtain ⟨w1, w2, w3⟩ := uP_le hD (show i < dL D by omega)
      obtain ⟨t1, t2⟩ := hT i (by omega)
      rw [if_neg (by rw [qlt (by omega) (by omega)]; omega), sar_bit (by omega) (by omega), bz_if]
      simp only [gd_in (i := i) (N := 10) (by omega) (by omega), gd_i2 (i := i) (N := 10) (by omega) (by omega), nI_clamp (n := i) (by omega), t1, t2, nI_1, qgt_0 (i := uP D i) (by omega), qlt (a := uP D i) (b := wP D i) (by omega) (by omega), bz_if]
      have hx : (bz (s.testBit i) = (1 : Int32)) = (s.testBit i = true) := by cases s.testBit i <;> simp [bz]
      simp only [hx]
      have hstep : ∀ o2 : Bool, (o2 = true ↔ (o = true ∧ ((uP D i = wP D i → s.testBit i = true) ∧ (uP D i = 0 → s.testBit i = false)))) → ∃ t1, (some (Sum.inl (bz o2, nI (i + 1))) : Option ((Int32 × Int32) ⊕ Int32)) = some (Sum.inl t1) ∧ ∃ j, j < k + 1 - i ∧ ∃ i_1 o, i_1 ≤ k + 1 ∧ j = k + 1 - i_1 ∧ t1 = (bz o, nI i_1) ∧ (o = true ↔ ∀ j, j < i_1 → (uP D j = wP D j → s.testBit j = true) ∧ (uP D j = 0 → s.testBit j = false)) := fun o2 h2 => ⟨_, rfl, k + 1 - (i + 1), by omega, i + 1, o2, by omega, rfl, rfl, by
        rw [h2, ho]
        constructor
        · rintro ⟨a1, a2⟩ j hj
          by_cases hji : j = i
          · subst hji; exact a2
          · exact a1 j (by omega)
        · intro a
          exact ⟨fun j hj => a j (by omega), a i (by omega)⟩⟩
      cases o
      · rw [if_neg (by decide)]; exact hstep false (by simp)
      · rw [if_pos rfl]
        by_cases u0 : 0 < uP D i
        · rw [if_pos u0]
          by_cases uw : uP D i < wP D i
          · rw [if_pos uw]; exact hstep true (by simp; omega)
          · rw [if_neg uw]
            by_cases hb : s.testBit i = true
            · rw [if_pos hb]; exact hstep true (by simp [hb]; omega)
            · rw [if_neg hb]; exact hstep false (by simp [hb]; omega)
        · rw [if_neg u0]
          by_cases hb : s.testBit i = true
          · rw [if_pos hb]; exact hstep false (by simp [hb]; omega)
          · rw [if_neg hb, if_pos (show uP D i < wP D i by omega)]; exact hstep true (by simp [hb]; omega)) (i := k + 1 - 0) (s := ((1 : Int32), (0 : Int32))) (by omega) ⟨0, true, by omega, rfl, rfl, ⟨fun _ j hj => absurd hj (Nat.not_lt_zero j), fun _ => rfl⟩⟩
  rw [he, Option.bind_some, hQ]
  exact bz_gd _ _
def yy (i : Nat) : Int32 := if i = 0 then -1 else nI (i - 1)
theorem fo_l (hD : okD D) {k s v : Nat} : vLoop (m_X10_keyOf_L71 (nI (OP D k)) (nI (mk (EDD D s) v))) FUEL ((7 : Int32), yy (dN D)) = some (nI (fst D k s v)) := by
  have hN := hD.2.1
  have hm := mk_lt (EDD D s) v
  have hle := fa_first_le (fun u => (mk (EDD D s) v &&& OP D k).testBit u) 7
  have hno := fa_first_no (fun u => (mk (EDD D s) v &&& OP D k).testBit u) 7
  have hye := fa_first_yes (fun u => (mk (EDD D s) v &&& OP D k).testBit u) 7
  have hbN : ∀ u, dN D ≤ u → u < 7 → (mk (EDD D s) v &&& OP D k).testBit u = false := fun u h1 h2 => by
    rw [Nat.testBit_and, OP_bit h2]
    cases q : opn D k u
    · exact Bool.and_false _
    · exact absurd (opn_N hD q) (by omega)
  unfold fst
  obtain ⟨e, he, c, rfl, hc⟩ := vl_totF (B := m_X10_keyOf_L71 (nI (OP D k)) (nI (mk (EDD D s) v))) (fun m st => ∃ i c, i ≤ dN D ∧ m = i ∧ st = (nI c, yy i) ∧ c ≤ 7 ∧ i ≤ c ∧ (c < 7 → (mk (EDD D s) v &&& OP D k).testBit c = true) ∧ ∀ u, i ≤ u → u < c → u < 7 → (mk (EDD D s) v &&& OP D k).testBit u = false) (fun e => ∃ c, e = nI c ∧ c ≤ 7 ∧ (c < 7 → (mk (EDD D s) v &&& OP D k).testBit c = true) ∧ ∀ u, u < c → u < 7 → (mk (EDD D s) v &&& OP D k).testBit u = false) (by
    rintro m st ⟨i, c, hi, rfl, rfl, h7, hic, h1, h2⟩
    unfold m_X10_keyOf_L71
    simp only [un, lt]
    cases m with
    | zero =>
      left
      rw [if_pos (show yy 0 < 0 by decide)]
      exact ⟨_, rfl, c, rfl, h7, h1, fun u hu hu7 => h2 u (Nat.zero_le u) hu hu7⟩
    | succ i =>
      right
      have hyi : yy (i + 1) = nI i := by unfold yy; rw [if_neg (by omega)]; rfl
      have hyn : nI i + (-1) = yy i := by
        cases i with
        | zero => decide
        | succ i => unfold yy; rw [if_neg (by omega), pk_m1]; rfl
      have hx : (bz ((mk (EDD D s) v &&& OP D k).testBit i) = (1 : Int32)) = ((mk (EDD D s) v &&& OP D k).testBit i = true) := by cases (mk (EDD D s) v &&& OP D k).testBit i <;> simp [bz]
      rw [hyi, if_neg (nI_pos (by omega)), fa_and, sar_bit (Nat.lt_of_le_of_lt Nat.and_le_left (by omega)) (by omega), hyn]
      simp only [hx]
      by_cases hb : (mk (EDD D s) v &&& OP D k).testBit i = true
      · rw [if_pos hb]
        exact ⟨_, rfl, i, by omega, i, i, by omega, rfl, rfl, by omega, by omega, fun _ => hb, fun u a1 a2 _ => by omega⟩
      · rw [if_neg hb]
        refine ⟨_, rfl, i, by omega, i, c, by omega, rfl, rfl, h7, by omega, h1, fun u a1 a2 a3 => ?_⟩
        by_cases hui : u = i
        · subst hui; exact Bool.eq_false_iff.mpr hb
        · exact h2 u (by omega) a2 a3) (i := dN D) (s := ((7 : Int32), yy (dN D))) (by omega) ⟨dN D, 7, by omega, rfl, rfl, by omega, by omega, fun q => absurd q (Nat.lt_irrefl 7), fun u a1 a2 a3 => hbN u a1 a3⟩
  rw [he]
  obtain ⟨g1, g2, g3⟩ := hc
  congr 2
  generalize fa_first (fun u => (mk (EDD D s) v &&& OP D k).testBit u) 7 = f at hle hno hye
  rcases Nat.lt_trichotomy c f with q | q | q
  · have a1 := hno c q
    have a2 := g2 (by omega)
    rw [a2] at a1; cases a1
  · exact q
  · have a1 := g3 f q (by omega)
    have a2 := hye (by omega)
    rw [a2] at a1; cases a1
theorem ko_e (hM : repM t D) (hD : okD D) {k s : Nat} (hs : s < 2 ^ dL D) : m_X10_keyOf t (nI s) (nI (OP D k)) = some (amI (NK D k s)) := by
  have hN := hD.2.1
  have hW := dW_lt7 hD
  have hWN := dW_lt hD
  have hO := OP_lt D k
  unfold m_X10_keyOf
  rw [waM_e hM hD, Option.bind_some, reW_e hM hD hs, Option.bind_some, bz_if]
  by_cases hr : rch D s = true
  · rw [if_pos hr]
    unfold NK
    rw [if_pos (Or.inl hr)]; rfl
  rw [if_neg hr]
  have hk28 : ∀ n, n ≤ 7 → key D k s n < 2 ^ 28 := fun n hn => Nat.lt_of_lt_of_le (key_lt n) (Nat.le_trans (Nat.pow_le_pow_right (by decide) hn) (by decide))
  obtain ⟨e, he, hQ⟩ := vl_totF (B := m_X10_keyOf_L22 (nI s) (nI (OP D k)) (nI (dW D)) t) (fun m st => ∃ v, v ≤ dN D ∧ m = dN D - v ∧ st = (nI (key D k s v), nI v) ∧ ∀ j, j < v → ((dW D).testBit j && (mk (EDD D s) j &&& OP D k == 0)) = false) (fun e => ex e (fun (j_8 : Int32) => some j_8) (fun r_55 => some r_55) = some (amI (NK D k s))) (by
    rintro m st ⟨v, hv, rfl, rfl, hno⟩
    unfold m_X10_keyOf_L22
    simp only [un, lt]
    rw [hM.1]
    by_cases h : v = dN D
    · left
      rw [if_pos (by rw [qle (by omega) (by omega)]; omega)]
      refine ⟨_, rfl, ?_⟩
      have hl : ¬ lostB D k s = true := by
        intro q
        unfold lostB at q
        rw [List.any_eq_true] at q
        obtain ⟨j, a1, a2⟩ := q
        have hj7 := List.mem_range.mp a1
        by_cases hjN : j < dN D
        · rw [hno j (by omega)] at a2; cases a2
        · rw [bit_ge hWN (by omega)] at a2; cases a2
      unfold NK
      rw [if_neg (fun q => q.elim hr hl), h]
      rfl
    · have hm := mk_lt (EDD D s) v
      have hdg := dgt_le (D := D) k s v
      have hkv := hk28 v (by omega)
      have hfs : fst D k s v ≤ 7 := fa_first_le _ 7
      have hx : ∀ x : Bool, (bz x = (1 : Int32)) = (x = true) := fun x => by cases x <;> simp [bz]
      rw [if_neg (by rw [qle (by omega) (by omega)]; omega), jwM_e hM hD hs (by omega), Option.bind_some, sar_bit (by omega) (by omega), sar_bit (by omega) (by omega), fa_and, fa_and]
      simp only [hx, qeq_0 (i := mk (EDD D s) v &&& OP D k) (Nat.lt_of_le_of_lt Nat.and_le_left (by omega)), qeq_0 (i := mk (EDD D s) v &&& dW D) (Nat.lt_of_le_of_lt Nat.and_le_left (by omega))]
      by_cases hlo : (dW D).testBit v = true ∧ mk (EDD D s) v &&& OP D k = 0
      · left
        rw [if_pos hlo.1, if_pos hlo.2, Option.bind_some]
        refine ⟨_, rfl, ?_⟩
        have hl : lostB D k s = true := by
          unfold lostB
          rw [List.any_eq_true]
          exact ⟨v, List.mem_range.mpr (by omega), by rw [hlo.1, beq_iff_eq.mpr hlo.2]; rfl⟩
        unfold NK
        rw [if_pos (Or.inr hl)]
        rfl
      · right
        have hin : (if (dW D).testBit v = true then if mk (EDD D s) v &&& OP D k = 0 then some (.inr (.inr (.inr (-1 : Int32)))) else some (.inl ()) else some (.inl ()) : Option ((Unit) ⊕ ((Int32 × Int32) ⊕ ((Int32) ⊕ (Int32))))) = some (.inl ()) := by
          by_cases q1 : (dW D).testBit v = true
          · rw [if_pos q1, if_neg (fun q2 => hlo ⟨q1, q2⟩)]
          · rw [if_neg q1]
        have hyN : nI (dN D) - (1 : Int32) = yy (dN D) := by
          have h2 := hD.1
          unfold yy
          rw [if_neg (by omega)]
          exact pk_sub (b := 1) (by omega)
        have hnext : ((dW D).testBit v && (mk (EDD D s) v &&& OP D k == 0)) = false := by
          cases q1 : (dW D).testBit v
          · rfl
          · rw [beq_eq_false_iff_ne.mpr (fun q2 => hlo ⟨q1, q2⟩)]; rfl
        rw [hin, Option.bind_some]
        dsimp only [ex]
        rw [hyN, fo_l hD, Option.bind_some, nI_1]
        refine ⟨(nI (key D k s (v + 1)), nI (v + 1)), ?_, dN D - (v + 1), by omega, v + 1, by omega, rfl, rfl, fun j hj => ?_⟩
        · show _ = some (Sum.inl (nI (16 * key D k s v + dgt D k s v), nI (v + 1)))
          unfold dgt
          have m16 : (16 : Int32) * nI (key D k s v) = nI (16 * key D k s v) := pk_mul 16 _
          have m2 : (2 : Int32) * nI (fst D k s v) = nI (2 * fst D k s v) := pk_mul 2 _
          by_cases ho : (OP D k).testBit v = true
          · rw [if_pos ho, if_pos ho, Option.bind_some, if_neg (by decide), m16, m2]
            by_cases hw : mk (EDD D s) v &&& dW D = 0
            · have hwf : wbt D s v = false := by unfold wbt; rw [beq_iff_eq.mpr hw]; rfl
              rw [if_pos hw, hwf, show (0 : Int32) = nI 0 from rfl, nI_add, nI_add]; rfl
            · have hwf : wbt D s v = true := by unfold wbt; rw [beq_eq_false_iff_ne.mpr hw]; rfl
              rw [if_neg hw, hwf, nI_1, nI_add]; rfl
          · rw [if_neg ho, if_neg ho, Option.bind_some, if_pos rfl, m16, show (15 : Int32) = nI 15 from rfl, nI_add]
        · by_cases hjv : j = v
          · subst hjv; exact hnext
          · exact hno j (by omega)) (i := dN D - 0) (s := ((0 : Int32), (0 : Int32))) (by omega) ⟨0, by omega, rfl, rfl, fun j hj => absurd hj (Nat.not_lt_zero j)⟩
  rw [he, Option.bind_some]
  exact hQ
theorem key_s (hD : okD D) {k s : Nat} : key D k s (dN D) < 2 ^ 28 := Nat.lt_of_lt_of_le (key_lt (dN D)) (Nat.le_trans (Nat.pow_le_pow_right (by decide) hD.2.1) (by decide))
theorem rl_s (hD : okD D) {k : Nat} : ∀ i, ∀ x, x ∈ rl D k i → x < 2 ^ 28
  | 0, x, h => absurd h List.not_mem_nil
  | i + 1, x, h => by
    have ih := rl_s hD (k := k) i x
    cases hn : NP D k i with
    | none => rw [rl_none hn] at h; exact ih h
    | some q =>
      have hq : q < 2 ^ 28 := by
        unfold NP NK at hn
        split at hn
        · split at hn
          · cases hn
          · cases hn; exact key_s hD
        · cases hn
      rw [rl_some hn] at h
      split at h
      · exact ih h
      · rcases List.mem_append.mp h with g | g
        · exact ih g
        · rw [List.mem_singleton.mp g]; exact hq
def fresh (o : Option Nat) (l : List Nat) : Bool := match o with
  | none => false
  | some q => !decide (q ∈ l)
theorem un_l {G : Nat → Int32} {l : List Nat} {o : Option Nat} (hl : l.length ≤ 1024) (hs : ∀ x, x ∈ l → x < 2 ^ 28) (ho : ∀ q, o = some q → q < 2 ^ 28) (hG : ∀ j, j < l.length → G j = nI (l.getD j 0)) : vLoop (m_X10_wideBy_L95 (nI l.length) (amI o) (wD t 8 G)) FUEL (bz o.isSome, (0 : Int32)) = some (bz (fresh o l)) := by
  obtain ⟨e, he, hQ⟩ := vl_totF (B := m_X10_wideBy_L95 (nI l.length) (amI o) (wD t 8 G)) (fun m st => ∃ i x, i ≤ l.length ∧ m = l.length - i ∧ st = (bz x, nI i) ∧ (x = true ↔ ∃ q, o = some q ∧ ∀ j, j < i → l.getD j 0 ≠ q)) (fun e => e = bz (fresh o l)) (by
    rintro m st ⟨i, x, hi, rfl, rfl, hx⟩
    unfold m_X10_wideBy_L95
    simp only [un, lt]
    have hend : (x = false ∨ i = l.length) → bz x = bz (fresh o l) := by
      intro hc
      congr 1
      cases o with
      | none =>
        cases x
        · rfl
        · obtain ⟨q, q1, -⟩ := hx.mp rfl
          cases q1
      | some q =>
        apply Bool.eq_iff_iff.mpr
        rw [hx]
        show _ ↔ (!decide (q ∈ l)) = true
        rw [Bool.not_eq_true', decide_eq_false_iff_not, mem_d]
        constructor
        · rintro ⟨p, p1, p2⟩ ⟨j, j1, j2⟩
          cases p1
          rcases hc with hc | hc
          · subst hc
            exact absurd (hx.mpr ⟨q, rfl, p2⟩) (by decide)
          · exact p2 j (by omega) j2
        · intro hn
          exact ⟨q, rfl, fun j hj hq => hn ⟨j, by omega, hq⟩⟩
    by_cases h : i = l.length
    · left
      rw [if_pos (by rw [qle (by omega) (by omega)]; omega)]
      exact ⟨_, rfl, hend (Or.inr h)⟩
    · rw [if_neg (by rw [qle (by omega) (by omega)]; omega), bz_if]
      cases x
      · left
        rw [if_neg (by decide)]
        exact ⟨_, rfl, hend (Or.inl rfl)⟩
      · right
        obtain ⟨q, rfl, hq⟩ := hx.mp rfl
        have hli : l.getD i 0 < 2 ^ 28 := hs _ (mem_d.mpr ⟨i, by omega, rfl⟩)
        have hq28 := ho q rfl
        rw [if_pos rfl, gd_in (by omega) (by omega), nI_clamp (by omega), show (wD t 8 G).2.2.1 8 i = nI (l.getD i 0) from hG i (by omega), nI_1]
        show ∃ t1, (if nI (l.getD i 0) = nI q then _ else _) = _ ∧ _
        simp only [qeq (a := l.getD i 0) (b := q) (by omega) (by omega)]
        by_cases hc : l.getD i 0 = q
        · rw [if_pos hc]
          refine ⟨_, rfl, l.length - (i + 1), by omega, i + 1, false, by omega, rfl, rfl, ⟨fun q => (by cases q), fun ⟨p, p1, p2⟩ => ?_⟩⟩
          cases p1
          exact absurd hc (p2 i (by omega))
        · rw [if_neg hc]
          refine ⟨_, rfl, l.length - (i + 1), by omega, i + 1, true, by omega, rfl, rfl, ⟨fun _ => ⟨q, rfl, fun j hj => ?_⟩, fun _ => rfl⟩⟩
          by_cases hji : j = i
          · subst hji; exact hc
          · exact hq j (by omega)) (i := l.length - 0) (s := (bz o.isSome, (0 : Int32))) (by omega) ⟨0, o.isSome, by omega, rfl, rfl, by
      cases o with
      | none => exact ⟨fun q => (by cases q), fun ⟨q, q1, _⟩ => (by cases q1)⟩
      | some q => exact ⟨fun _ => ⟨q, rfl, fun j hj => absurd hj (Nat.not_lt_zero j)⟩, fun _ => rfl⟩⟩
  rw [he, hQ]
theorem wideBy_e (hM : repM t D) (hD : okD D) {k : Nat} (hk : k < dL D) : ∃ f g G, m_X10_wideBy t (nI k) = some (nI (WID D k), wD (wD (wD t 6 f) 7 g) 8 G) := by
  have hL := hD.2.2.1
  have hp1 : 2 ^ (k + 1) ≤ 2 ^ dL D := Nat.pow_le_pow_right (by decide) hk
  have hp : 2 ^ dL D ≤ 2 ^ 10 := Nat.pow_le_pow_right (by decide) hL
  have hp0 := Nat.two_pow_pos (k + 1)
  obtain ⟨f, g, h1, h2⟩ := asIt_e hM hD
  have hM2 : repM (wD (wD t 6 f) 7 g) D := hM
  unfold m_X10_wideBy
  rw [h1, Option.bind_some, oM_e hM2 hD hk, Option.bind_some]
  obtain ⟨e, he, G, rfl⟩ := vl_totF (B := m_X10_wideBy_L46 (nI k) (nI (OP D k))) (fun m st => ∃ i G, i ≤ 2 ^ (k + 1) ∧ m = 2 ^ (k + 1) - i ∧ st = (nI (rl D k i).length, nI i, wD (wD (wD t 6 f) 7 g) 8 G) ∧ ∀ j, j < (rl D k i).length → G j = nI ((rl D k i).getD j 0)) (fun e => ∃ G, e = (nI (WID D k), wD (wD (wD t 6 f) 7 g) 8 G)) (by
    rintro m st ⟨i, G, hi, rfl, rfl, hG⟩
    have hM3 : repM (wD (wD (wD t 6 f) 7 g) 8 G) D := hM
    have hT3 : TOB (wD (wD (wD t 6 f) 7 g) 8 G) D (uP D) (wP D) := h2
    have hlen := rl_len (D := D) (k := k) i
    unfold m_X10_wideBy_L46
    simp only [un, lt]
    rw [nI_1, shl_1 (k + 1) (by omega)]
    by_cases h : i = 2 ^ (k + 1)
    · left
      rw [if_pos (by rw [qle (by omega) (by omega)]; omega)]
      subst h
      exact ⟨_, rfl, G, rfl⟩
    · right
      have hkey : Option.bind (if bz (posB D k i) = 0 then some (-1 : Int32) else Option.bind (m_X10_keyOf (wD (wD (wD t 6 f) 7 g) 8 G) (nI i) (nI (OP D k))) (fun (r_55 : Int32) => some r_55)) = Option.bind (some (amI (NP D k i))) (β := (Int32 × Int32 × ST) ⊕ (Int32 × ST)) := by
        rw [ko_e hM3 hD (by omega), bz_if]
        unfold NP
        by_cases q : posB D k i = true
        · rw [if_pos q, if_pos q]; rfl
        · rw [if_neg q, if_neg q]; rfl
      have hNs : ∀ q, NP D k i = some q → q < 2 ^ 28 := fun q hq => by
        unfold NP NK at hq
        split at hq
        · split at hq
          · cases hq
          · cases hq; exact key_s hD
        · cases hq
      have his : Option.bind (if amI (NP D k i) = (-1 : Int32) then some (0 : Int32) else some (1 : Int32)) = Option.bind (some (bz (NP D k i).isSome)) (β := (Int32 × Int32 × ST) ⊕ (Int32 × ST)) := by
        cases hq : NP D k i with
        | none => rw [if_pos (show amI none = (-1 : Int32) from rfl)]; rfl
        | some q =>
          have := hNs q hq
          rw [if_neg (amI_ne (by omega))]; rfl
      rw [if_neg (by rw [qle (by omega) (by omega)]; omega), ip_e hM3 hD hT3 hk (by omega), Option.bind_some, hkey, Option.bind_some, his, Option.bind_some, un_l (t := wD (wD t 6 f) 7 g) (by omega) (rl_s hD i) hNs hG, Option.bind_some, bz_if]
      cases hq : NP D k i with
      | none =>
        rw [if_neg (show ¬ fresh none (rl D k i) = true from Bool.false_ne_true), nI_1]
        exact ⟨_, rfl, 2 ^ (k + 1) - (i + 1), by omega, i + 1, G, by omega, rfl, by rw [rl_none hq], by rw [rl_none hq]; exact hG⟩
      | some q =>
        have hfr : fresh (some q) (rl D k i) = true ↔ q ∉ rl D k i := by
          show (!decide (q ∈ rl D k i)) = true ↔ _
          rw [Bool.not_eq_true', decide_eq_false_iff_not]
        by_cases hm : q ∈ rl D k i
        · rw [if_neg (fun z => hfr.mp z hm), nI_1]
          exact ⟨_, rfl, 2 ^ (k + 1) - (i + 1), by omega, i + 1, G, by omega, rfl, by rw [rl_some hq, if_pos hm], by rw [rl_some hq, if_pos hm]; exact hG⟩
        · rw [if_pos (hfr.mpr hm), gd_in (by omega) (by omega), nI_clamp (by omega), wA_wD, nI_1, nI_1]
          refine ⟨_, rfl, 2 ^ (k + 1) - (i + 1), by omega, i + 1, upd G (rl D k i).length (amI (some q)), by omega, rfl, ?_, ?_⟩
          · rw [rl_some hq, if_neg hm, List.length_append]; rfl
          · rw [rl_some hq, if_neg hm, List.length_append]
            intro j hj
            have hj : j < (rl D k i).length + 1 := hj
            rw [getD_app]
            unfold upd
            by_cases hje : j = (rl D k i).length
            · subst hje
              rw [if_pos rfl, if_neg (Nat.lt_irrefl _), if_pos rfl]; rfl
            · rw [if_neg hje, if_pos (by omega)]
              exact hG j (by omega)) (i := 2 ^ (k + 1) - 0) (s := ((0 : Int32), (0 : Int32), wD (wD t 6 f) 7 g)) (by omega) ⟨0, (wD (wD t 6 f) 7 g).2.2.1 8, by omega, rfl, by rw [wD_self]; rfl, fun j hj => absurd hj (Nat.not_lt_zero j)⟩
  rw [he, Option.bind_some]
  exact ⟨f, g, G, rfl⟩
theorem inv_wb {F : Nat → Int64} (h : INV b t D) : INV (wC b 2 F) t D := ⟨h.1, h.2.1, h.2.2.1, h.2.2.2.1, h.2.2.2.2.1, shs_C (k := 2) (by omega) h.2.2.2.2.2⟩
theorem inv_wm {f g G : Nat → Int32} (h : INV b t D) : INV b (wD (wD (wD t 6 f) 7 g) 8 G) D := ⟨h.1, h.2.1, h.2.2.1, h.2.2.2.1, h.2.2.2.2.1, h.2.2.2.2.2⟩
theorem s_wide (h : INV b t D) (x : Int32) : SIM (m_X9_wide b x) (m_X10_wide t x) := by
  obtain ⟨hD, hC, hM, hJ, hT, hS⟩ := id h
  unfold m_X9_wide m_X10_wide
  rw [hl_e hC hD, isLink_e hM hD, Option.bind_some, Option.bind_some, bz_if, bz_if]
  cases hx : lnk D x
  · exact SIM.mk rfl rfl h
  · obtain ⟨k, hk, rfl⟩ := lnk_of hD hx
    obtain ⟨F, f1⟩ := wb_e hC hJ hD hk
    obtain ⟨f, g, G, g1⟩ := wideBy_e hM hD hk
    rw [if_pos rfl, if_pos rfl, f1, g1]
    exact SIM.mk rfl rfl (inv_wb (inv_wm h))
/-- the greatest so far -/
def MXW (D : ND) : Nat → Nat
  | 0 => 0
  | k + 1 => if MXW D k < WID D k then WID D k else MXW D k
theorem WID_le (D : ND) (hD : okD D) {k : Nat} (hk : k < dL D) : WID D k ≤ 1024 := by
  have hp1 : 2 ^ (k + 1) ≤ 2 ^ 10 := Nat.pow_le_pow_right (by decide) (by have := hD.2.2.1; omega)
  exact Nat.le_trans (rl_len _) hp1
theorem MXW_le (hD : okD D) : ∀ k, k ≤ dL D → MXW D k ≤ 1024
  | 0, _ => by show 0 ≤ 1024; decide
  | k + 1, h => by
    have h1 := MXW_le hD k (by omega)
    have h2 := WID_le D hD (show k < dL D by omega)
    show (if MXW D k < WID D k then WID D k else MXW D k) ≤ 1024
    split
    · exact h2
    · exact h1
theorem gw_e (hC : repC b D) (hJ : jnC b D) (hD : okD D) : ∃ F, m_X6_greatestWidth b = some (nI (MXW D (dL D)), wC b 2 F) := by
  have hL := hD.2.2.1
  unfold m_X6_greatestWidth
  obtain ⟨e, he, F, rfl⟩ := vl_totF (B := m_X6_greatestWidth_L4) (fun m st => ∃ i F, i ≤ dL D ∧ m = dL D - i ∧ st = (nI (MXW D i), nI i, wC b 2 F)) (fun e => ∃ F, e = (nI (MXW D (dL D)), wC b 2 F)) (by
    rintro m st ⟨i, F, hi, rfl, rfl⟩
    have hC2 : repC (wC b 2 F) D := hC
    have hJ2 : jnC (wC b 2 F) D := hJ
    have hlc : m_X2_linkCount (wC b 2 F) = some (nI (dL D)) := congrArg some hC.2.1
    unfold m_X6_greatestWidth_L4
    simp only [un, lt]
    rw [hlc, Option.bind_some]
    by_cases h : i = dL D
    · left
      rw [if_pos (by rw [qle (by omega) (by omega)]; omega)]
      subst h
      exact ⟨_, rfl, F, rfl⟩
    · right
      have hil : i < dL D := by omega
      obtain ⟨F2, f1⟩ := wb_e hC2 hJ2 hD hil
      have h1 := MXW_le hD i (by omega)
      have h2 := WID_le D hD hil
      have hcc : wC (wC b 2 F) 2 F2 = wC b 2 F2 := by
        unfold wC
        simp only []
        congr 3
        funext j
        split <;> rfl
      rw [if_neg (by rw [qle (by omega) (by omega)]; omega), f1, Option.bind_some, hcc, nI_1]
      refine ⟨_, rfl, dL D - (i + 1), by omega, i + 1, F2, by omega, rfl, ?_⟩
      have hmx : (if nI (MXW D i) < nI (WID D i) then nI (WID D i) else nI (MXW D i)) = nI (MXW D (i + 1)) := by
        show _ = nI (if MXW D i < WID D i then WID D i else MXW D i)
        by_cases q : MXW D i < WID D i
        · rw [if_pos (nI_lt q (by omega)), if_pos q]
        · rw [if_neg (nI_nlt (by omega) (by omega)), if_neg q]
      rw [← hmx]) (i := dL D - 0) (s := ((0 : Int32), (0 : Int32), b)) (by omega) ⟨0, b.2.2.2 2, by omega, rfl, by rw [wC_self]; rfl⟩
  rw [he, Option.bind_some]
  exact ⟨F, rfl⟩
theorem wdn_e (hM : repM t D) (hD : okD D) : ∃ f g G, m_X10_widestNow t = some (nI (MXW D (dL D)), wD (wD (wD t 6 f) 7 g) 8 G) := by
  have hL := hD.2.2.1
  unfold m_X10_widestNow
  obtain ⟨e, he, f, g, G, rfl⟩ := vl_totF (B := m_X10_widestNow_L4) (fun m st => ∃ i f g G, i ≤ dL D ∧ m = dL D - i ∧ st = (nI (MXW D i), nI i, wD (wD (wD t 6 f) 7 g) 8 G)) (fun e => ∃ f g G, e = (nI (MXW D (dL D)), wD (wD (wD t 6 f) 7 g) 8 G)) (by
    rintro m st ⟨i, f, g, G, hi, rfl, rfl⟩
    have hM2 : repM (wD (wD (wD t 6 f) 7 g) 8 G) D := hM
    unfold m_X10_widestNow_L4
    simp only [un, lt]
    rw [hM2.2.1]
    by_cases h : i = dL D
    · left
      rw [if_pos (by rw [qle (by omega) (by omega)]; omega)]
      subst h
      exact ⟨_, rfl, f, g, G, rfl⟩
    · right
      have hil : i < dL D := by omega
      obtain ⟨f2, g2, G2, f1⟩ := wideBy_e hM2 hD hil
      have h1 := MXW_le hD i (by omega)
      have h2 := WID_le D hD hil
      have hdd : wD (wD (wD (wD (wD (wD t 6 f) 7 g) 8 G) 6 f2) 7 g2) 8 G2 = wD (wD (wD t 6 f2) 7 g2) 8 G2 := by
        unfold wD
        simp only []
        congr 3
        funext j
        by_cases q8 : j = 8
        · simp [q8]
        · by_cases q7 : j = 7
          · simp [q7]
          · by_cases q6 : j = 6
            · simp [q6]
            · simp [q8, q7, q6]
      rw [if_neg (by rw [qle (by omega) (by omega)]; omega), f1, Option.bind_some, hdd, nI_1]
      refine ⟨(nI (MXW D (i + 1)), nI (i + 1), wD (wD (wD t 6 f2) 7 g2) 8 G2), ?_, dL D - (i + 1), by omega, i + 1, f2, g2, G2, by omega, rfl, rfl⟩
      show (if nI (WID D i) ≤ nI (MXW D i) then _ else _) = some (Sum.inl (nI (if MXW D i < WID D i then WID D i else MXW D i), nI (i + 1), wD (wD (wD t 6 f2) 7 g2) 8 G2))
      by_cases q : MXW D i < WID D i
      · rw [if_neg (nI_ge q (by omega)), if_pos q]
      · rw [if_pos (nI_le (by omega) (by omega)), if_neg q]) (i := dL D - 0) (s := ((0 : Int32), (0 : Int32), t)) (by omega) ⟨0, t.2.2.1 6, t.2.2.1 7, t.2.2.1 8, by omega, rfl, by
      have h6 := wD_self t 6
      have h7 := wD_self t 7
      have h8 := wD_self t 8
      rw [h6, h7, h8]; rfl⟩
  rw [he, Option.bind_some]
  exact ⟨f, g, G, rfl⟩
theorem s_widest (h : INV b t D) : SIM (m_X9_widest b) (m_X10_widest t) := by
  obtain ⟨hD, hC, hM, hJ, hT, hS⟩ := id h
  obtain ⟨F, f1⟩ := gw_e hC hJ hD
  obtain ⟨f, g, G, g1⟩ := wdn_e hM hD
  unfold m_X9_widest m_X10_widest
  rw [f1, g1]
  exact SIM.mk rfl rfl (inv_wb (inv_wm h))
end WJ
