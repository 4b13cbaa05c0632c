/-! copy, read, write -/
section CP
variable {b t : ST} {D : ND}
theorem vl_next {S E : Type} {B : S → Option (S ⊕ E)} {s s2 : S} {F : Nat} (h : B s = some (.inl s2)) : vLoop B (F + 1) s = vLoop B F s2 := by
  show (match B s with | none => none | some (.inl t) => vLoop B F t | some (.inr e) => some e) = _
  rw [h]
theorem vl_stop {S E : Type} {B : S → Option (S ⊕ E)} {s : S} {e : E} {F : Nat} (h : B s = some (.inr e)) : vLoop B (F + 1) s = some e := by
  show (match B s with | none => none | some (.inl t) => vLoop B F t | some (.inr e) => some e) = _
  rw [h]
theorem cp_1 {k i n : Nat} (h : 40 * k + i + n ≤ 120) (hn : n ≤ 40) : ∃ A, vLoop (m_X10_copy_L101 (nI k) (nI i) (nI n)) FUEL ((0 : Int32), t) = some (wC t 1 A) ∧ ∀ y, y < n → A y = t.2.2.2 0 (40 * k + i + y) := by
  obtain ⟨e, he, A, rfl, hA⟩ := vl_totF (B := m_X10_copy_L101 (nI k) (nI i) (nI n)) (fun m st => ∃ p A, p ≤ n ∧ m = n - p ∧ st = (nI p, wC t 1 A) ∧ ∀ y, y < p → A y = t.2.2.2 0 (40 * k + i + y)) (fun e => ∃ A, e = wC t 1 A ∧ ∀ y, y < n → A y = t.2.2.2 0 (40 * k + i + y)) (by
    rintro m st ⟨p, A, hp, rfl, rfl, hA⟩
    unfold m_X10_copy_L101
    simp only [un, lt, qle (a := n) (b := p) (by omega) (by omega)]
    by_cases hpn : p = n
    · left; subst hpn; rw [if_pos (by omega)]; exact ⟨_, rfl, A, rfl, hA⟩
    · right
      have hadd : (40 : Int32) * nI k + nI i + nI p = nI (40 * k + i + p) := by rw [show (40 : Int32) * nI k = nI (40 * k) from pk_mul 40 k, nI_add, nI_add]
      rw [if_neg (by omega), hadd, gd_in (by omega) (by omega), gd_in (by omega) (by omega), nI_clamp (by omega), nI_clamp (by omega), wB_wC, nI_1]
      refine ⟨_, rfl, n - (p + 1), by omega, p + 1, _, by omega, rfl, rfl, fun y hy => ?_⟩
      unfold vp_updL
      by_cases hyp : y = p
      · subst hyp; rw [if_pos rfl]; rfl
      · rw [if_neg hyp]; exact hA y (by omega)) (i := n - 0) (s := ((0 : Int32), t)) (by omega) ⟨0, t.2.2.2 1, by omega, rfl, by rw [wC_self]; rfl, fun y hy => absurd hy (Nat.not_lt_zero y)⟩
  exact ⟨A, he, hA⟩
theorem cp_2 {k j n : Nat} (h : 40 * k + j + n ≤ 120) (hn : n ≤ 40) : ∃ G, vLoop (m_X10_copy_L138 (nI k) (nI j) (nI n)) FUEL ((0 : Int32), t) = some (wC t 0 G) ∧ ∀ z, G z = if 40 * k + j ≤ z ∧ z < 40 * k + j + n then t.2.2.2 1 (z - (40 * k + j)) else t.2.2.2 0 z := by
  obtain ⟨e, he, G, rfl, hG⟩ := vl_totF (B := m_X10_copy_L138 (nI k) (nI j) (nI n)) (fun m st => ∃ p G, p ≤ n ∧ m = n - p ∧ st = (nI p, wC t 0 G) ∧ ∀ z, G z = if 40 * k + j ≤ z ∧ z < 40 * k + j + p then t.2.2.2 1 (z - (40 * k + j)) else t.2.2.2 0 z) (fun e => ∃ G, e = wC t 0 G ∧ ∀ z, G z = if 40 * k + j ≤ z ∧ z < 40 * k + j + n then t.2.2.2 1 (z - (40 * k + j)) else t.2.2.2 0 z) (by
    rintro m st ⟨p, G, hp, rfl, rfl, hG⟩
    unfold m_X10_copy_L138
    simp only [un, lt, qle (a := n) (b := p) (by omega) (by omega)]
    by_cases hpn : p = n
    · left; subst hpn; rw [if_pos (by omega)]; exact ⟨_, rfl, G, rfl, hG⟩
    · right
      have hadd : (40 : Int32) * nI k + nI j + nI p = nI (40 * k + j + p) := by rw [show (40 : Int32) * nI k = nI (40 * k) from pk_mul 40 k, nI_add, nI_add]
      rw [if_neg (by omega), hadd, gd_in (by omega) (by omega), gd_in (by omega) (by omega), nI_clamp (by omega), nI_clamp (by omega), wB_wC, nI_1]
      refine ⟨_, rfl, n - (p + 1), by omega, p + 1, _, by omega, rfl, rfl, fun z => ?_⟩
      unfold vp_updL
      by_cases hz : z = 40 * k + j + p
      · subst hz
        rw [if_pos rfl, if_pos (by omega), show 40 * k + j + p - (40 * k + j) = p by omega]; rfl
      · rw [if_neg hz, hG z]
        by_cases hzz : 40 * k + j ≤ z ∧ z < 40 * k + j + p
        · rw [if_pos hzz, if_pos (by omega)]
        · rw [if_neg hzz, if_neg (by omega)]) (i := n - 0) (s := ((0 : Int32), t)) (by omega) ⟨0, t.2.2.2 0, by omega, rfl, by rw [wC_self]; rfl, fun z => by rw [if_neg (by omega)]⟩
  exact ⟨G, he, hG⟩
theorem s_copy (h : INV b t D) (x i y j n : Int32) : SIM (m_X9_copy b x i y j n) (m_X10_copy t x i y j n) := by
  obtain ⟨hD, hC, hM, hJ, hT, hS⟩ := id h
  unfold m_X9_copy m_X10_copy
  simp only [isSheet_e, isSheetM_e, Option.bind_some, bz_if]
  cases hx : she x
  · exact SIM.mk rfl rfl h
  cases hy : she y
  · exact SIM.mk rfl rfl h
  simp only [if_true]
  obtain ⟨k, hk, rfl⟩ := she_of hx
  obtain ⟨l, hl, rfl⟩ := she_of hy
  rw [gd_in (by omega) (by omega), nI_clamp (by omega)]
  obtain ⟨s1, s2⟩ := hS.2.1 k hk
  obtain ⟨s3, s4⟩ := hS.2.1 l hl
  rcases s2 with z1 | ⟨m1, hm1, z1⟩
  · rw [lost_y hk z1, if_pos (by rw [← s1]; exact z1)]
    exact SIM.mk rfl rfl (inv_f h)
  rw [lost_n hk hm1 z1, if_neg (show ¬ t.2.2.1 0 k = -1 by rw [← s1, z1]; exact nI_m1 (by omega)), gd_in (i := l) (by omega) (by omega), nI_clamp (n := l) (by omega), Option.bind_some, if_pos rfl]
  rcases s4 with z2 | ⟨m2, hm2, z2⟩
  · rw [lost_y hl z2, if_pos (by rw [← s3]; exact z2)]
    exact SIM.mk rfl rfl (inv_f h)
  rw [lost_n hl hm2 z2, if_neg (show ¬ t.2.2.1 0 l = -1 by rw [← s3, z2]; exact nI_m1 (by omega)), Option.bind_some, if_pos rfl, holds_e hk hm1 z1, holds_e hl hm2 z2, Option.bind_some, bz_if]
  have t1 : t.2.2.1 0 k = nI m1 := by rw [← s1, z1]
  have t2 : t.2.2.1 0 l = nI m2 := by rw [← s3, z2]
  rw [t1, t2]
  have z : (0 : Int32).toInt = 0 := by decide
  by_cases hpos : 0 ≤ i.toInt ∧ 0 ≤ j.toInt ∧ 0 ≤ n.toInt
  · rw [if_neg (show ¬ i < 0 by rw [fa_lt, z]; omega), if_neg (show ¬ j < 0 by rw [fa_lt, z]; omega), if_neg (show ¬ n < 0 by rw [fa_lt, z]; omega)]
    obtain ⟨i1, hi1, rfl⟩ := nI_of (x := i) (by rw [fa_lt, z]; omega)
    obtain ⟨j1, hj1, rfl⟩ := nI_of (x := j) (by rw [fa_lt, z]; omega)
    obtain ⟨n1, hn1, rfl⟩ := nI_of (x := n) (by rw [fa_lt, z]; omega)
    rw [nI_toInt hi1, nI_toInt hj1, nI_toInt hn1, nI_l hi1, nI_l hj1, nI_l hn1, lN_add, lN_add, nI_l (n := m1) (by omega), nI_l (n := m2) (by omega)]
    simp only [lg_cmp_gt, lg_cmp_le]
    rw [gd_i2 (i := k) (by omega) (by omega), gd_i2 (i := l) (by omega) (by omega)]
    by_cases g1 : i1 + n1 ≤ m1
    · rw [if_pos (decide_eq_true (by omega)), if_neg (show ¬ lN m1 < lN (i1 + n1) from fun q => by have := (pk_lLT (by omega) (by omega)).mp q; omega), Option.bind_some, bz_if]
      by_cases g2 : j1 + n1 ≤ m2
      · obtain ⟨A, hA1, hA2⟩ := cp_1 (t := t) (k := k) (i := i1) (n := n1) (by omega) (by omega)
        obtain ⟨G, hG1, hG2⟩ := cp_2 (t := wC t 1 A) (k := l) (j := j1) (n := n1) (by omega) (by omega)
        rw [if_pos (decide_eq_true (by omega)), if_pos (show lN (j1 + n1) ≤ lN m2 from (pk_lLE (by omega) (by omega)).mpr g2), hA1, Option.bind_some, hG1, Option.bind_some]
        unfold m_X7_move
        rw [lost_n hk hm1 z1, Option.bind_some, if_pos rfl, lost_n hl hm2 z2, Option.bind_some, if_pos rfl, holds_e hk hm1 z1, Option.bind_some, bz_if, nI_toInt hi1, nI_toInt hn1, if_pos (decide_eq_true (by omega)), holds_e hl hm2 z2, Option.bind_some, bz_if, nI_toInt hj1, nI_toInt hn1, if_pos (decide_eq_true (by omega)), gd_in (by omega) (by omega), gd_in (by omega) (by omega), nI_clamp hi1, nI_clamp hj1, nI_clamp hn1, nI_clamp (n := k) (by omega), nI_clamp (n := l) (by omega), gd_t ⟨nI_pos hi1, nI_pos hj1, nI_pos hn1, by omega, by omega⟩]
        simp only [lt, Option.bind_some, ex]
        refine SIM.mk rfl rfl ⟨hD, hC, hM, jnC_C (b := b) (k := 3 + l) (by omega) hJ, hT, hS.1, hS.2.1, fun s q hs hq => ?_⟩
        show (wC b (3 + l) (va_cpy (b.2.2.2 (3 + k)) (b.2.2.2 (3 + l)) i1 j1 n1)).2.2.2 (3 + s) q = G (40 * s + q)
        rw [hG2]
        by_cases hsl : s = l
        · subst hsl
          rw [wC_eq]
          by_cases hq2 : j1 ≤ q ∧ q < j1 + n1
          · rw [pk_cpy_in hq2.1 hq2.2, if_pos (by omega)]
            have ha := hA2 (40 * s + q - (40 * s + j1)) (by omega)
            show _ = A (40 * s + q - (40 * s + j1))
            rw [ha, hS.2.2 k (i1 + (q - j1)) hk (by omega), show 40 * k + i1 + (40 * s + q - (40 * s + j1)) = 40 * k + (i1 + (q - j1)) by omega]
          · rw [pk_cpy_out (by omega), if_neg (by omega)]
            exact hS.2.2 s q hs hq
        · rw [wC_ne (by omega), if_neg (by omega)]
          exact hS.2.2 s q hs hq
      · rw [if_neg (by rw [decide_eq_false (by omega)]; decide), if_neg (show ¬ lN (j1 + n1) ≤ lN m2 from fun q => by have := (pk_lLE (by omega) (by omega)).mp q; omega)]
        exact SIM.mk rfl rfl (inv_f h)
    · rw [if_neg (by rw [decide_eq_false (by omega)]; decide), if_pos (show lN m1 < lN (i1 + n1) from (pk_lLT (by omega) (by omega)).mpr (by omega))]
      exact SIM.mk rfl rfl (inv_f h)
  · have hf : SIM (some ((-10 : Int32) - 2, wI b 9 2)) (some ((-10 : Int32) - 2, wI t 0 2)) := SIM.mk rfl rfl (inv_f h)
    have hcl : (if decide (0 ≤ i.toInt ∧ 0 ≤ n.toInt ∧ i.toInt + n.toInt ≤ (m1 : Int)) = true then (some (bz (decide (0 ≤ j.toInt ∧ 0 ≤ n.toInt ∧ j.toInt + n.toInt ≤ (m2 : Int))))).bind (fun (r_32 : Int32) => if r_32 = 0 then some (.inl ()) else Option.bind (m_X7_move b (nI k) i (nI l) j n) (fun (b_35 : ST) => some (.inr (.inr ((1 : Int32), b_35))))) else some (.inl ()) : Option ((Unit) ⊕ ((Unit) ⊕ (Int32 × ST)))) = some (.inl ()) := by
      by_cases q : 0 ≤ i.toInt ∧ 0 ≤ n.toInt ∧ i.toInt + n.toInt ≤ (m1 : Int)
      · rw [if_pos (decide_eq_true q), Option.bind_some, bz_if, if_neg (by rw [decide_eq_false (by omega)]; decide)]
      · rw [if_neg (by rw [decide_eq_false q]; decide)]
    rw [hcl]
    by_cases h1 : i < 0
    · rw [if_pos h1]; exact hf
    · rw [if_neg h1]
      by_cases h2 : j < 0
      · rw [if_pos h2]; exact hf
      · rw [if_neg h2]
        by_cases h3 : n < 0
        · rw [if_pos h3]; exact hf
        · exfalso
          rw [fa_lt, z] at h1 h2 h3
          exact hpos ⟨by omega, by omega, by omega⟩
/-! read -/
theorem item_e {k m j : Nat} (hk : k < 3) (hm : m ≤ 40) (h : b.2.2.1 7 k = nI m) (hj : j < m) : m_X7_item b (nI k) (nI j) = some (b.2.2.2 (3 + k) j) := by
  unfold m_X7_item
  rw [has_e hk hm h, decide_eq_true (by rw [nI_toInt (by omega)]; omega), Option.bind_some, if_neg (by decide), gd_in (by omega) (by omega), gd_in (by omega) (by omega), nI_clamp (by omega), nI_clamp (by omega)]
theorem read_l {k m : Nat} (hk : k < 3) (hm : m ≤ 40) : ∀ (r c F F2 : Nat) (b t : ST) (D : ND), r + c = m / 4 → r < F → r + 1 < F2 → INV b t D → b.2.2.1 7 k = nI m → ∃ q b' t' D', vLoop (m_X9_read_L29 (nI k) (nI (m / 4))) F (nI c, b) = some (q, b') ∧ vLoop (m_X10_read_L33 (nI k)) F2 (nI c, (1 : Int32), nI c, t) = some (q, t') ∧ INV b' t' D'
  | r, c, 0, F2, b, t, D, _, h2, _, _, _ => by omega
  | r, c, F + 1, 0, b, t, D, _, h2, h3, _, _ => by omega
  | r, c, F + 1, 1, b, t, D, _, h2, h3, _, _ => by omega
  | r, c, F + 1, F2 + 2, b, t, D, h1, h2, h3, h, hz => by
    obtain ⟨hD, hC, hM, hJ, hT, hS⟩ := id h
    have hL := hD.2.2.1
    have htz : t.2.2.1 0 k = nI m := by rw [← (hS.2.1 k hk).1, hz]
    cases r with
    | zero =>
      have hc : c = m / 4 := by omega
      refine ⟨nI c, b, t, D, vl_stop ?_, vl_stop ?_, h⟩
      · unfold m_X9_read_L29
        simp only [un]
        rw [if_pos (by rw [qle (by omega) (by omega)]; omega)]
      · unfold m_X10_read_L33
        simp only [un]
        rw [gd_in (by omega) (by omega), nI_clamp (by omega), htz, show (4 : Int32) * nI c = nI (4 * c) from pk_mul 4 c, show nI (4 * c) + (3 : Int32) = nI (4 * c + 3) from nI_add _ 3, if_pos (by rw [qle (by omega) (by omega)]; omega)]
    | succ r =>
      have hb4 : (4 : Int32) * nI c = nI (4 * c) := pk_mul 4 c
      have hx : (40 : Int32) * nI k = nI (40 * k) := pk_mul 40 k
      have a1 : nI (40 * k + 4 * c) + (1 : Int32) = nI (40 * k + 4 * c + 1) := nI_1 _
      have a2 : nI (40 * k + 4 * c) + (2 : Int32) = nI (40 * k + 4 * c + 2) := nI_add _ 2
      have a3 : nI (40 * k + 4 * c) + (3 : Int32) = nI (40 * k + 4 * c + 3) := nI_add _ 3
      have e0 := hS.2.2 k (4 * c) hk (by omega)
      have e1 := hS.2.2 k (4 * c + 1) hk (by omega)
      have e2 := hS.2.2 k (4 * c + 2) hk (by omega)
      have e3 := hS.2.2 k (4 * c + 3) hk (by omega)
      -- the model's first half
      have hMm : ∀ R, (Option.bind (if (10 : Int32) ≤ nI (dL D) then some (0 : Int32) else Option.bind (m_X10_mayLink t (t.2.2.2 0 (40 * k + 4 * c)) (t.2.2.2 0 (40 * k + 4 * c + 1)) (t.2.2.2 0 (40 * k + 4 * c + 2)) (t.2.2.2 0 (40 * k + 4 * c + 3))) (fun (r_51 : Int32) => if r_51 = 0 then some (0 : Int32) else some (1 : Int32))) R : Option ((Int32 × Int32 × Int32 × ST) ⊕ (Int32 × ST))) = R (bz (decide (dL D < 10) && may D (t.2.2.2 0 (40 * k + 4 * c)) (t.2.2.2 0 (40 * k + 4 * c + 1)) (t.2.2.2 0 (40 * k + 4 * c + 2)) (t.2.2.2 0 (40 * k + 4 * c + 3)))) := fun R => by
        rw [mayM_e hM hD, Option.bind_some, bz_if]
        by_cases g : dL D < 10
        · rw [if_neg (by rw [qle_10 (by omega)]; omega), decide_eq_true g]
          cases may D (t.2.2.2 0 (40 * k + 4 * c)) (t.2.2.2 0 (40 * k + 4 * c + 1)) (t.2.2.2 0 (40 * k + 4 * c + 2)) (t.2.2.2 0 (40 * k + 4 * c + 3)) <;> rfl
        · rw [if_pos (by rw [qle_10 (by omega)]; omega), decide_eq_false g]; rfl
      by_cases hgo : (decide (dL D < 10) && may D (t.2.2.2 0 (40 * k + 4 * c)) (t.2.2.2 0 (40 * k + 4 * c + 1)) (t.2.2.2 0 (40 * k + 4 * c + 2)) (t.2.2.2 0 (40 * k + 4 * c + 3))) = true
      · obtain ⟨g1, g2⟩ := Bool.and_eq_true_iff.mp hgo
        have g1 := of_decide_eq_true g1
        obtain ⟨i1, i2, i3, i4, q1, q2, q3, q4, w1, w2, w3, w4, w5, w6⟩ := may_of hD g2
        obtain ⟨b', t', D', k1, k2, k3, k4, k5⟩ := add_e h g1 w1 w2 w3 w4 w5 w6
        obtain ⟨q, b2, t2, D2, l1, l2, l3⟩ := read_l hk hm r (c + 1) F (F2 + 1) b' t' D' (by omega) (by omega) (by omega) k3 (by rw [k5]; exact hz)
        refine ⟨q, b2, t2, D2, ?_, ?_, l3⟩
        · rw [vl_next (s2 := (nI (c + 1), b'))]
          · exact l1
          · unfold m_X9_read_L29 m_X9_addFrom
            simp only [un, lt]
            rw [if_neg (by rw [qle (by omega) (by omega)]; omega), hr_e hC hD, decide_eq_true g1, Option.bind_some, if_neg (by decide), hb4, item_e hk hm hz (by omega), Option.bind_some, nI_1, item_e hk hm hz (by omega), Option.bind_some, show nI (4 * c) + (2 : Int32) = nI (4 * c + 2) from nI_add _ 2, item_e hk hm hz (by omega), Option.bind_some, show nI (4 * c) + (3 : Int32) = nI (4 * c + 3) from nI_add _ 3, item_e hk hm hz (by omega), Option.bind_some, e0, e1, e2, e3, may_e hC hD]
            simp only [← Nat.add_assoc]
            rw [g2, Option.bind_some, if_neg (by decide), q1, q2, q3, q4, lN_i, lN_i, lN_i, lN_i, k1, Option.bind_some, Option.bind_some, if_neg (show ¬ (1 : Int32) = 0 by decide), nI_1]
        · rw [vl_next (s2 := (nI (c + 1), (1 : Int32), nI (c + 1), t'))]
          · exact l2
          · unfold m_X10_read_L33
            simp only [un, lt]
            rw [gd_in (by omega) (by omega), nI_clamp (by omega), htz, hb4, show nI (4 * c) + (3 : Int32) = nI (4 * c + 3) from nI_add _ 3, if_neg (by rw [qle (by omega) (by omega)]; omega), if_neg (by decide), hx, nI_add, a1, a2, a3, hM.2.1]
            simp only [gd_in (i := 40 * k + 4 * c) (N := 120) (by omega) (by omega), gd_i2 (i := 40 * k + 4 * c) (N := 120) (by omega) (by omega), gd_in (i := 40 * k + 4 * c + 1) (N := 120) (by omega) (by omega), gd_i2 (i := 40 * k + 4 * c + 1) (N := 120) (by omega) (by omega), gd_in (i := 40 * k + 4 * c + 2) (N := 120) (by omega) (by omega), gd_i2 (i := 40 * k + 4 * c + 2) (N := 120) (by omega) (by omega), gd_in (i := 40 * k + 4 * c + 3) (N := 120) (by omega) (by omega), gd_i2 (i := 40 * k + 4 * c + 3) (N := 120) (by omega) (by omega), nI_clamp (n := 40 * k + 4 * c) (by omega), nI_clamp (n := 40 * k + 4 * c + 1) (by omega), nI_clamp (n := 40 * k + 4 * c + 2) (by omega), nI_clamp (n := 40 * k + 4 * c + 3) (by omega)]
            rw [hMm, hgo, if_neg (by decide), q1, q2, q3, q4, lN_i, lN_i, lN_i, lN_i, k2, Option.bind_some, nI_1]
            rfl
      · have hgo : (decide (dL D < 10) && may D (t.2.2.2 0 (40 * k + 4 * c)) (t.2.2.2 0 (40 * k + 4 * c + 1)) (t.2.2.2 0 (40 * k + 4 * c + 2)) (t.2.2.2 0 (40 * k + 4 * c + 3))) = false := Bool.eq_false_iff.mpr hgo
        refine ⟨nI c, b, t, D, vl_stop ?_, ?_, h⟩
        · unfold m_X9_read_L29 m_X9_addFrom
          simp only [un, lt]
          rw [if_neg (by rw [qle (by omega) (by omega)]; omega), hr_e hC hD, Option.bind_some, bz_if]
          by_cases g1 : dL D < 10
          · rw [decide_eq_true g1] at hgo
            rw [if_pos (decide_eq_true g1), hb4, item_e hk hm hz (by omega), Option.bind_some, nI_1, item_e hk hm hz (by omega), Option.bind_some, show nI (4 * c) + (2 : Int32) = nI (4 * c + 2) from nI_add _ 2, item_e hk hm hz (by omega), Option.bind_some, show nI (4 * c) + (3 : Int32) = nI (4 * c + 3) from nI_add _ 3, item_e hk hm hz (by omega), Option.bind_some, e0, e1, e2, e3, may_e hC hD]
            simp only [← Nat.add_assoc]
            rw [show may D (t.2.2.2 0 (40 * k + 4 * c)) (t.2.2.2 0 (40 * k + 4 * c + 1)) (t.2.2.2 0 (40 * k + 4 * c + 2)) (t.2.2.2 0 (40 * k + 4 * c + 3)) = false from hgo, Option.bind_some, if_pos (show bz false = 0 from rfl), Option.bind_some, if_pos rfl]
          · rw [if_neg (by rw [decide_eq_false g1]; decide)]
        · rw [vl_next (s2 := (nI c, (0 : Int32), nI (c + 1), t)), vl_stop (e := (nI c, t))]
          · unfold m_X10_read_L33
            simp only [un]
            rw [gd_in (by omega) (by omega), nI_clamp (by omega)]
            split
            · rfl
            · rfl
          · unfold m_X10_read_L33
            simp only [un, lt]
            rw [gd_in (by omega) (by omega), nI_clamp (by omega), htz, hb4, show nI (4 * c) + (3 : Int32) = nI (4 * c + 3) from nI_add _ 3, if_neg (by rw [qle (by omega) (by omega)]; omega), if_neg (by decide), hx, nI_add, a1, a2, a3, hM.2.1]
            simp only [gd_in (i := 40 * k + 4 * c) (N := 120) (by omega) (by omega), gd_i2 (i := 40 * k + 4 * c) (N := 120) (by omega) (by omega), gd_in (i := 40 * k + 4 * c + 1) (N := 120) (by omega) (by omega), gd_i2 (i := 40 * k + 4 * c + 1) (N := 120) (by omega) (by omega), gd_in (i := 40 * k + 4 * c + 2) (N := 120) (by omega) (by omega), gd_i2 (i := 40 * k + 4 * c + 2) (N := 120) (by omega) (by omega), gd_in (i := 40 * k + 4 * c + 3) (N := 120) (by omega) (by omega), gd_i2 (i := 40 * k + 4 * c + 3) (N := 120) (by omega) (by omega), nI_clamp (n := 40 * k + 4 * c) (by omega), nI_clamp (n := 40 * k + 4 * c + 1) (by omega), nI_clamp (n := 40 * k + 4 * c + 2) (by omega), nI_clamp (n := 40 * k + 4 * c + 3) (by omega)]
            rw [hMm, hgo, if_pos (show bz false = 0 from rfl), nI_1]
            rfl
theorem s_read (h : INV b t D) (x : Int32) : SIM (m_X9_read b x) (m_X10_read t x) := by
  unfold m_X9_read m_X10_read
  rw [isSheetM_e, Option.bind_some, bz_if]
  rcases rof_e h x with ⟨h1, h2⟩ | ⟨k, hk, rfl, ⟨h1, h2, h3⟩ | ⟨m, hm, h1, h2, h3⟩⟩
  · rw [h2, h1]
    exact SIM.mk rfl rfl h
  · rw [h3, she_k hk, if_pos rfl, gd_in (by omega) (by omega), nI_clamp (by omega), if_pos h2]
    exact SIM.mk rfl rfl (inv_f h)
  · obtain ⟨q, b', t', D', l1, l2, l3⟩ := read_l hk hm (m / 4) 0 FUEL FUEL b t D (by omega) (by unfold FUEL; omega) (by unfold FUEL; omega) h h1
    have l1 : vLoop (m_X9_read_L29 (nI k) (nI (m / 4))) FUEL ((0 : Int32), b) = some (q, b') := l1
    have l2 : vLoop (m_X10_read_L33 (nI k)) FUEL ((0 : Int32), (1 : Int32), (0 : Int32), t) = some (q, t') := l2
    rw [h3, she_k hk, if_pos rfl, gd_in (by omega) (by omega), nI_clamp (by omega), if_neg (by rw [h2]; exact nI_m1 (by omega)), l2, Option.bind_some]
    simp only [un, lt]
    rw [if_pos trivial, size_n hk hm h1, Option.bind_some, gd_t (by decide), show nI m / (4 : Int32) = nI (m / 4) from pk_div (by omega) (by decide) (by decide), l1, Option.bind_some, Option.bind_some]
    exact SIM.mk rfl rfl l3
/-! write -/
theorem write_l {k m c : Nat} (hk : k < 3) (hm : m ≤ 40) (hcm : c ≤ m) (hcL : c ≤ 2 * dL D) : ∀ (r i F F2 : Nat) (b t : ST), r + i = c → r < F → r < F2 → INV b t D → PRT b D (uP D) (wP D) → b.2.2.1 7 k = nI m → ∃ b' t', vLoop (m_X9_write_L46 (nI k) (nI c)) F (nI i, b) = some b' ∧ vLoop (m_X10_write_L59 (nI k) (nI c)) F2 (nI i, t) = some t' ∧ INV b' t' D
  | r, i, 0, F2, b, t, _, h2, _, _, _, _ => by omega
  | r, i, F + 1, 0, b, t, _, h2, h3, _, _, _ => by omega
  | r, i, F + 1, F2 + 1, b, t, h1, h2, h3, h, hP, hz => by
    obtain ⟨hD, hC, hM, hJ, hT, hS⟩ := id h
    have hL := hD.2.2.1
    cases r with
    | zero =>
      refine ⟨b, t, vl_stop ?_, vl_stop ?_, h⟩
      · unfold m_X9_write_L46
        simp only [un]
        rw [if_pos (by rw [qle (by omega) (by omega)]; omega)]
      · unfold m_X10_write_L59
        simp only [un]
        rw [if_pos (by rw [qle (by omega) (by omega)]; omega)]
    | succ r =>
      have hi2 : i / 2 < dL D := by omega
      obtain ⟨f, g, g1⟩ := worthBy_e hM hD hi2 (nI (i % 2))
      obtain ⟨w1, w2, w3⟩ := uP_le hD hi2
      have h4 := WA_le hD (k := i / 2)
      obtain ⟨h5, h6⟩ := WB_pos hD (k := i / 2)
      have h7 : wP D (i / 2) * WA D (i / 2) ≤ 9 * 3486784401 := Nat.mul_le_mul w3 (Nat.le_trans h4 h6)
      have hI := inv_put (k := k) (j := i) hk (by omega) (v := lN (fr (WA D (i / 2)) (WB D (i / 2)) (nI (i % 2)))) (inv_ta (f := f) (g := g) h)
      have hP2 : PRT (wB b (3 + k) i (lN (fr (WA D (i / 2)) (WB D (i / 2)) (nI (i % 2))))) D (uP D) (wP D) := ⟨hP.1, fun s hs => by
        show (if 1 = 3 + k then _ else b.2.2.2 1) s = _
        rw [if_neg (by omega)]; exact hP.2 s hs⟩
      obtain ⟨b', t', l1, l2, l3⟩ := write_l hk hm hcm hcL r (i + 1) F F2 _ _ (by omega) (by omega) (by omega) hI hP2 hz
      have d2 : nI i / (2 : Int32) = nI (i / 2) := pk_div (d := 2) (by omega) (by decide) (by decide)
      have r2 : nI i - nI i / (2 : Int32) * (2 : Int32) = nI (i % 2) := pk_rem (d := 2) (by omega) (by decide) (by decide)
      refine ⟨b', t', ?_, ?_, l3⟩
      · rw [vl_next (s2 := (nI (i + 1), wB b (3 + k) i (lN (fr (WA D (i / 2)) (WB D (i / 2)) (nI (i % 2))))))]
        · exact l1
        · unfold m_X9_write_L46 m_X7_put
          simp only [un, lt]
          rw [if_neg (by rw [qle (by omega) (by omega)]; omega), gd_t (by decide), r2, d2, wparts_e hC hJ hD hP hi2, Option.bind_some, gd_t (by decide), td_e (okW_D hD) hP (by omega), Option.bind_some, pr_k hi2, fr_mul w2, has_e hk hm hz, decide_eq_true (by rw [nI_toInt (by omega)]; omega), Option.bind_some, if_neg (by decide), gd_in (by omega) (by omega), gd_in (by omega) (by omega), nI_clamp (by omega), nI_clamp (by omega), Option.bind_some, nI_1]
          rfl
      · rw [vl_next (s2 := (nI (i + 1), wB (wD (wD t 6 f) 7 g) 0 (40 * k + i) (lN (fr (WA D (i / 2)) (WB D (i / 2)) (nI (i % 2))))))]
        · exact l2
        · have hadd : (40 : Int32) * nI k + nI i = nI (40 * k + i) := by rw [show (40 : Int32) * nI k = nI (40 * k) from pk_mul 40 k, nI_add]
          unfold m_X10_write_L59
          simp only [un, lt]
          rw [if_neg (by rw [qle (by omega) (by omega)]; omega), gd_t (by decide), gd_t (by decide), r2, d2, g1, Option.bind_some, hadd, gd_in (by omega) (by omega), nI_clamp (by omega), nI_1]
theorem s_write (h : INV b t D) (x : Int32) : SIM (m_X9_write b x) (m_X10_write t x) := by
  obtain ⟨hD, hC, hM, hJ, hT, hS⟩ := id h
  have hL := hD.2.2.1
  unfold m_X9_write m_X10_write
  rw [isSheetM_e, Option.bind_some, bz_if]
  rcases rof_e h x with ⟨h1, h2⟩ | ⟨k, hk, rfl, ⟨h1, h2, h3⟩ | ⟨m, hm, h1, h2, h3⟩⟩
  · rw [h2, h1]
    exact SIM.mk rfl rfl h
  · rw [h3, she_k hk, if_pos rfl, gd_in (by omega) (by omega), nI_clamp (by omega), if_pos h2]
    exact SIM.mk rfl rfl (inv_f h)
  · obtain ⟨F, f1, f2⟩ := fill_e hC hD
    have hP : PRT (wC (wL b 0 (lN (pr (wP D) PA (dL D)))) 1 F) D (uP D) (wP D) := ⟨rfl, f2⟩
    have hI := inv_od (F := F) (v := lN (pr (wP D) PA (dL D))) h
    obtain ⟨b', t', l1, l2, l3⟩ := write_l (D := D) (c := if 2 * dL D < m then 2 * dL D else m) hk hm (by split <;> omega) (by split <;> omega) (if 2 * dL D < m then 2 * dL D else m) 0 FUEL FUEL _ t (by omega) (by unfold FUEL; split <;> omega) (by unfold FUEL; split <;> omega) hI hP h1
    have l1 : vLoop (m_X9_write_L46 (nI k) (nI (if 2 * dL D < m then 2 * dL D else m))) FUEL ((0 : Int32), _) = some b' := l1
    have l2 : vLoop (m_X10_write_L59 (nI k) (nI (if 2 * dL D < m then 2 * dL D else m))) FUEL ((0 : Int32), t) = some t' := l2
    have hlc : m_X2_linkCount b = some (nI (dL D)) := congrArg some hC.2.1
    have h2L : (2 : Int32) * nI (dL D) = nI (2 * dL D) := pk_mul 2 (dL D)
    have c1 : (if nI (2 * dL D) < nI m then nI (2 * dL D) else nI m) = nI (if 2 * dL D < m then 2 * dL D else m) := by
      by_cases q : 2 * dL D < m
      · rw [if_pos (nI_lt q (by omega)), if_pos q]
      · rw [if_neg (nI_nlt (by omega) (by omega)), if_neg q]
    have c2 : (if nI (2 * dL D) ≤ nI m then some (nI (2 * dL D)) else some (nI m)) = some (nI (if 2 * dL D < m then 2 * dL D else m)) := by
      by_cases q : 2 * dL D < m
      · rw [if_pos (nI_le (by omega) (by omega)), if_pos q]
      · rw [if_neg q]
        by_cases q2 : 2 * dL D = m
        · rw [if_pos (nI_le (by omega) (by omega)), q2]
        · rw [if_neg (nI_ge (by omega) (by omega))]
    rw [h3, she_k hk, if_pos rfl, gd_in (by omega) (by omega), nI_clamp (by omega), if_neg (by rw [h2]; exact nI_m1 (by omega)), gd_i2 (by omega) (by omega), gd_i2 (by omega) (by omega), h2, hM.2.1, h2L, c2, Option.bind_some, Option.bind_some, l2, Option.bind_some]
    simp only [un, lt]
    rw [if_pos trivial, size_n hk hm h1, Option.bind_some, hlc, Option.bind_some, h2L, c1, f1, Option.bind_some, l1, Option.bind_some]
    exact SIM.mk rfl rfl l3
end CP
