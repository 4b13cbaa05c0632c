/-! the class, call by call: what it answers, and how it stands then -/
def DK (b : ST) (D : ND) : Prop := okD D ∧ repC b D ∧ jnC b D
/-- reach above and below, before it is told in lowest terms -/
def RR (D : ND) : Nat := RS D (uP D) (wP D)
def TT (D : ND) : Nat := pr (wP D) PA (dL D)
def dSee (D : ND) (k n : Nat) : ND := ((dN D, dL D, dS D, dG D), dA D, dE D, dP D, dQ D, va_up (dV D) k n)
def dChg (D : ND) (k p q : Nat) : ND := ((dN D, dL D, dS D, dG D), dA D, dE D, va_up (dP D) k p, va_up (dQ D) k q, dV D)
def dSrc (D : ND) (s : Nat) : ND := ((dN D, dL D, s, dG D), D.2)
def dGo (D : ND) (n : Nat) : ND := ((dN D, dL D, dS D, n), D.2)
def dSta (D : ND) (n : Nat) : ND := ((n, 0, 0, 0), D.2)
def dBack (D : ND) : ND := ((dN D, dL D - 1, dS D, dG D), D.2)
section DK
variable {b : ST} {D : ND}
theorem DK.od {F : Nat → Int64} {v : Int64} (h : DK b D) : DK (wC (wL b 0 v) 1 F) D := ⟨h.1, h.2.1, h.2.2⟩
theorem DK.cn {R : Nat → Int32} (h : DK b D) : DK (wD b 5 R) D := ⟨h.1, h.2.1, h.2.2⟩
theorem DK.wb {F : Nat → Int64} (h : DK b D) : DK (wC b 2 F) D := ⟨h.1, h.2.1, h.2.2⟩
theorem DK.K3 {S P T : Nat} (h : DK b D) : DK (K3 b S P T) D := ⟨h.1, h.2.1, h.2.2⟩
theorem TT_pos (hD : okD D) : 0 < TT D ∧ TT D ≤ 3486784401 := okW_pr (okW_D hD)
theorem RR_le (hD : okD D) : RR D ≤ TT D := okW_le (okW_D hD)
theorem two_of {x : Int32} (hx : x = 0 ∨ x = 1) : two x = true := by rcases hx with rfl | rfl <;> decide
theorem ka_reach (h : DK b D) {x : Int32} (hx : x = 0 ∨ x = 1) : ∃ b', m_X9_reach b x = some (lN (fr (RR D) (TT D) x), b') ∧ DK b' D := by
  obtain ⟨hD, hC, hJ⟩ := id h
  unfold m_X9_reach
  rw [isSide_e, Option.bind_some, bz_if, if_pos (two_of hx)]
  obtain ⟨F, f1, f2⟩ := fill_e hC hD
  have hP : PRT (wC (wL b 0 (lN (pr (wP D) PA (dL D)))) 1 F) D (uP D) (wP D) := ⟨rfl, f2⟩
  have hI := h.od (F := F) (v := lN (pr (wP D) PA (dL D)))
  have hr := RS_lt (D := D) (okW_D hD)
  have ht := td_e (okW_D hD) hP (a := RS D (uP D) (wP D)) (by omega) x
  rw [f1, Option.bind_some, rp_e hI.2.1 hI.2.2 hD hP, Option.bind_some]
  unfold RS at ht
  rw [ht]
  exact ⟨_, rfl, hI⟩
theorem ka_better (h : DK b D) {k i j : Nat} (hk : k < dL D) (h1 : 1 ≤ j) (h9 : j ≤ 9) (hij : i ≤ j) {x : Int32} (hx : x = 0 ∨ x = 1) : ∃ b', m_X9_better b (nI k) (nI i) (nI j) x = some (lN (fr (RS D (va_up (uP D) k i) (va_up (wP D) k j)) (pr (va_up (wP D) k j) PA (dL D)) x), b') ∧ DK b' D := by
  obtain ⟨hD, hC, hJ⟩ := id h
  have hL := hD.2.2.1
  have hch : chn (nI i).toInt64 (nI j).toInt64 = true := by
    rw [nI_l (by omega), nI_l (by omega)]
    exact decide_eq_true (by rw [lN_toInt (by omega), lN_toInt (by omega)]; omega)
  have hW : okW (dL D) (va_up (uP D) k i) (va_up (wP D) k j) := ⟨hL, fun l hl => by
    by_cases h : l = k
    · subst h; rw [up_k, up_k]; omega
    · rw [up_n h, up_n h]; exact uP_le hD hl⟩
  obtain ⟨F, f1, f2⟩ := fw_e (x1 := nI k) (x2 := nI i) (x3 := nI j) hC hD hW (fun l hl hlk => by
    have : l = k := (nI_eq (by omega) (by omega)).mp hlk
    subst this
    rw [up_k, up_k]; exact ⟨rfl, rfl⟩) (fun l hl hlk => by
    have : l ≠ k := fun q => hlk (by rw [q])
    rw [up_n this, up_n this]; exact ⟨rfl, rfl⟩)
  have hP : PRT (wC (wL b 0 (lN (pr (va_up (wP D) k j) PA (dL D)))) 1 F) D (va_up (uP D) k i) (va_up (wP D) k j) := ⟨rfl, f2⟩
  have hI := h.od (F := F) (v := lN (pr (va_up (wP D) k j) PA (dL D)))
  have hr := RS_lt (D := D) hW
  have ht := td_e hW hP (a := RS D (va_up (uP D) k i) (va_up (wP D) k j)) (by omega) x
  unfold m_X9_better
  rw [hl_k hC hD hk, Option.bind_some, if_neg (by decide), chance_e, hch, Option.bind_some, if_neg (by decide), isSide_e, two_of hx, Option.bind_some, if_neg (by decide), f1, Option.bind_some, rp_e hI.2.1 hI.2.2 hD hP, Option.bind_some]
  unfold RS at ht
  rw [ht, Option.bind_some, Option.bind_some]
  exact ⟨_, rfl, hI⟩
theorem ka_worth (h : DK b D) {k : Nat} (hk : k < dL D) {x : Int32} (hx : x = 0 ∨ x = 1) : ∃ b', m_X9_worth b (nI k) x = some (lN (fr (WA D k) (WB D k) x), b') ∧ DK b' D := by
  obtain ⟨hD, hC, hJ⟩ := id h
  obtain ⟨F, f1, f2⟩ := fill_e hC hD
  have hP : PRT (wC (wL b 0 (lN (pr (wP D) PA (dL D)))) 1 F) D (uP D) (wP D) := ⟨rfl, f2⟩
  have hI := h.od (F := F) (v := lN (pr (wP D) PA (dL D)))
  have h3 := WA_le hD (k := k)
  obtain ⟨h4, h5⟩ := WB_pos hD (k := k)
  obtain ⟨w1, w2, w3⟩ := uP_le hD hk
  have h6 : wP D k * WA D k ≤ 9 * 3486784401 := Nat.mul_le_mul w3 (Nat.le_trans h3 h5)
  unfold m_X9_worth
  rw [hl_k hC hD hk, Option.bind_some, if_neg (by decide), isSide_e, two_of hx, Option.bind_some, if_neg (by decide), f1, Option.bind_some, wparts_e hI.2.1 hI.2.2 hD hP hk, Option.bind_some, td_e (okW_D hD) hP (by omega) x, pr_k hk, fr_mul w2, Option.bind_some, Option.bind_some]
  exact ⟨_, rfl, hI⟩
theorem ka_worthiest (h : DK b D) : ∃ b', m_X9_worthiest b = some (amI (am D (dL D)), b') ∧ DK b' D := by
  obtain ⟨hD, hC, hJ⟩ := id h
  obtain ⟨F, f1, f2⟩ := fill_e hC hD
  have hP : PRT (wC (wL b 0 (lN (pr (wP D) PA (dL D)))) 1 F) D (uP D) (wP D) := ⟨rfl, f2⟩
  have hI := h.od (F := F) (v := lN (pr (wP D) PA (dL D)))
  unfold m_X9_worthiest
  rw [f1, Option.bind_some, wl_e hI.2.1 hI.2.2 hD hP, Option.bind_some]
  exact ⟨_, rfl, hI⟩
theorem stn_k (hD : okD D) {k : Nat} (hk : k < dN D) : stn D (nI k).toInt64 = true := by
  have h2 := hD.2.1
  rw [nI_l (by omega)]
  exact decide_eq_true (by rw [lN_toInt (by omega)]; omega)
theorem ka_pair (h : DK b D) {v c : Nat} (hv : v < dN D) (hc : c < dN D) {x : Int32} (hx : x = 0 ∨ x = 1) : ∃ b', m_X9_pair b (nI v) (nI c) x = some (lN (fr (PS D v c) (TT D) x), b') ∧ DK b' D := by
  obtain ⟨hD, hC, hJ⟩ := id h
  have hN := hD.2.1
  obtain ⟨F, f1, f2⟩ := fill_e hC hD
  have hP : PRT (wC (wL b 0 (lN (pr (wP D) PA (dL D)))) 1 F) D (uP D) (wP D) := ⟨rfl, f2⟩
  have hI := h.od (F := F) (v := lN (pr (wP D) PA (dL D)))
  obtain ⟨p3, p4⟩ := PS_lt hD (v := v) (c := c)
  have ht := td_e (okW_D hD) hP (a := PS D v c) (by omega) x
  unfold m_X9_pair
  rw [hs_e hC hD, stn_k hD hv, Option.bind_some, if_neg (by decide), hs_e hC hD, stn_k hD hc, Option.bind_some, if_neg (by decide), isSide_e, two_of hx, Option.bind_some, if_neg (by decide), f1, Option.bind_some, pp_e hI.2.1 hI.2.2 hD hP (by omega) (by omega), Option.bind_some]
  unfold PS at ht
  rw [ht, Option.bind_some, Option.bind_some]
  exact ⟨_, rfl, hI⟩
theorem ka_rule (h : DK b D) {x : Int32} (hx : x = 0 ∨ x = 1) : ∃ b', m_X9_rule b x = some (lN (fr (QS D) (TT D) x), b') ∧ DK b' D := by
  obtain ⟨hD, hC, hJ⟩ := id h
  obtain ⟨F, f1, f2⟩ := fill_e hC hD
  have hP : PRT (wC (wL b 0 (lN (pr (wP D) PA (dL D)))) 1 F) D (uP D) (wP D) := ⟨rfl, f2⟩
  have hI := h.od (F := F) (v := lN (pr (wP D) PA (dL D)))
  have hr := QS_lt hD
  unfold m_X9_rule
  rw [isSide_e, two_of hx, Option.bind_some, if_neg (by decide), f1, Option.bind_some, ru_e hI.2.1 hI.2.2 hD hP, Option.bind_some, QS_eq hD, td_e (okW_D hD) hP (by omega) x, Option.bind_some]
  exact ⟨_, rfl, hI⟩
/-! joined -/
def jA (D : ND) (k : Nat) : Nat := if k = 0 then fr (RR D) (TT D) 0 else if k = 1 then fr (RR D) (TT D) 1 else if k = 2 then (ak 12 (aV D) 0).1 else if k = 3 then (ak 12 (aV D) 0).2.1 else (ak 12 (aV D) 0).2.2
theorem ak_bd {N L : Nat} : ∀ (n : Nat) (V : AN) (d : Nat), okA N L V → pc (aP V) < n → (ak n V d).2.1 ≤ d + pc (aP V) + 1 ∧ (ak n V d).2.1 ≤ d + (ak n V d).1 ∧ (ak n V d).2.2 ≤ (ak n V d).1 * pc (aP V) ∧ (ak n V d).1 ≤ 2 ^ n - 1
  | 0, V, d, _, h => absurd h (Nat.not_lt_zero _)
  | n + 1, V, d, h, hn => by
    obtain ⟨k1, -, -, -, k5, -⟩ := tdy_k 10 V h (by
      have := okA_p h
      exact (show ∀ m, m < 1024 → pc m ≤ 10 by decide +kernel) _ this)
    have hp2 : 2 ^ (n + 1) = 2 ^ n + 2 ^ n := by omega
    have hp0 := Nat.two_pow_pos n
    rw [ak]
    generalize (tdy 10 V).2 = V2 at k1 k5 ⊢
    generalize (tdy 10 V).1 = t at k5 ⊢
    by_cases hs : stl V2 = true
    · rw [if_pos hs]
      show d + 1 ≤ d + pc (aP V) + 1 ∧ d + 1 ≤ d + 1 ∧ t ≤ 1 * pc (aP V) ∧ 1 ≤ 2 ^ (n + 1) - 1
      omega
    · rw [if_neg hs]
      have h0 : aP V2 ≠ 0 := fun q => hs (stl_0 k1 q)
      obtain ⟨-, ht, -⟩ := tz_10 (aP V2) (okA_p k1) (by omega)
      have hi : tP V2 (tz (aP V2)) = true := ht
      generalize tz (aP V2) = i at hi ⊢
      obtain ⟨c1, -, c3⟩ := cA_ok k1 hi
      obtain ⟨d1, -, d3⟩ := dA1_ok k1 hi
      have e1 := ak_bd n (cA V2 i) (d + 1) c1 (by omega)
      have e2 := ak_bd n (dA1 V2 i) (d + 1) d1 (by omega)
      have hm : pc (aP V2) = pc (aP (cA V2 i)) + 1 := c3
      have hm2 : pc (aP V2) = pc (aP (dA1 V2 i)) + 1 := d3
      have hA : ∀ {A : Nat × Nat × Nat} {q : Nat}, pc (aP V2) = q + 1 → A.2.1 ≤ d + 1 + q + 1 → A.2.1 ≤ d + 1 + A.1 → A.2.2 ≤ A.1 * q → A.1 ≤ 2 ^ n - 1 → A.2.1 ≤ d + pc (aP V) + 1 ∧ A.2.1 ≤ d + 1 + A.1 ∧ A.2.2 ≤ A.1 * pc (aP V) ∧ A.1 ≤ 2 ^ n - 1 := fun hq a1 a2 a3 a4 => ⟨by omega, a2, Nat.le_trans a3 (Nat.mul_le_mul_left _ (by omega)), a4⟩
      have f1 := hA hm e1.1 e1.2.1 e1.2.2.1 e1.2.2.2
      have f2 := hA hm2 e2.1 e2.2.1 e2.2.2.1 e2.2.2.2
      have hz : ((0, 0, 0) : Nat × Nat × Nat).2.1 ≤ d + pc (aP V) + 1 ∧ ((0, 0, 0) : Nat × Nat × Nat).2.1 ≤ d + 1 + ((0, 0, 0) : Nat × Nat × Nat).1 ∧ ((0, 0, 0) : Nat × Nat × Nat).2.2 ≤ ((0, 0, 0) : Nat × Nat × Nat).1 * pc (aP V) ∧ ((0, 0, 0) : Nat × Nat × Nat).1 ≤ 2 ^ n - 1 := ⟨Nat.zero_le _, Nat.zero_le _, Nat.zero_le _, Nat.zero_le _⟩
      have g1 : ∀ c : Prop, ∀ _ : Decidable c, ∀ A : Nat × Nat × Nat, (A.2.1 ≤ d + pc (aP V) + 1 ∧ A.2.1 ≤ d + 1 + A.1 ∧ A.2.2 ≤ A.1 * pc (aP V) ∧ A.1 ≤ 2 ^ n - 1) → (if c then (0, 0, 0) else A).2.1 ≤ d + pc (aP V) + 1 ∧ (if c then (0, 0, 0) else A).2.1 ≤ d + 1 + (if c then (0, 0, 0) else A).1 ∧ (if c then (0, 0, 0) else A).2.2 ≤ (if c then (0, 0, 0) else A).1 * pc (aP V) ∧ (if c then (0, 0, 0) else A).1 ≤ 2 ^ n - 1 := fun c _ A hA => by
        by_cases hc : c
        · rw [if_pos hc]; exact hz
        · rw [if_neg hc]; exact hA
      have g2 := g1 (aX V2 i = 0) inferInstance _ f1
      have g3 := g1 (aX V2 i = aY V2 i) inferInstance _ f2
      generalize (if aX V2 i = 0 then (0, 0, 0) else ak n (cA V2 i) (d + 1)) = A at g2 ⊢
      generalize (if aX V2 i = aY V2 i then (0, 0, 0) else ak n (dA1 V2 i) (d + 1)) = B at g3 ⊢
      obtain ⟨a1, a2, a3, a4⟩ := g2
      obtain ⟨b1, b2, b3, b4⟩ := g3
      show max (d + 1) (max A.2.1 B.2.1) ≤ d + pc (aP V) + 1 ∧ max (d + 1) (max A.2.1 B.2.1) ≤ d + (1 + A.1 + B.1) ∧ t + A.2.2 + B.2.2 ≤ (1 + A.1 + B.1) * pc (aP V) ∧ 1 + A.1 + B.1 ≤ 2 ^ (n + 1) - 1
      refine ⟨by omega, by omega, ?_, by omega⟩
      rw [Nat.add_mul, Nat.add_mul]
      omega
theorem jA_bd (hD : okD D) : jA D 3 ≤ dL D + 1 ∧ jA D 3 ≤ jA D 2 ∧ jA D 4 ≤ 2 * dL D * jA D 2 ∧ jA D 2 ≤ 4095 ∧ jA D 4 ≤ 40950 := by
  have h10 := hD.2.2.1
  have hp := pc_10 hD
  have hL : pc (aP (aV D)) = dL D := by
    show pc (2 ^ dL D - 1) = _
    exact (show ∀ n, n ≤ 10 → pc (2 ^ n - 1) = n by decide +kernel) _ h10
  obtain ⟨h1, h2, h3, h4⟩ := ak_bd 12 (aV D) 0 (aV_ok hD) (by omega)
  rw [hL] at h1 h3
  show (ak 12 (aV D) 0).2.1 ≤ _ ∧ (ak 12 (aV D) 0).2.1 ≤ (ak 12 (aV D) 0).1 ∧ (ak 12 (aV D) 0).2.2 ≤ 2 * dL D * (ak 12 (aV D) 0).1 ∧ (ak 12 (aV D) 0).1 ≤ 4095 ∧ (ak 12 (aV D) 0).2.2 ≤ 40950
  generalize ak 12 (aV D) 0 = A at h1 h2 h3 h4 ⊢
  have h5 : A.1 ≤ 4095 := h4
  have h6 : A.1 * dL D ≤ 4095 * 10 := Nat.mul_le_mul h5 h10
  have h7 : A.1 * dL D ≤ 2 * dL D * A.1 := by
    rw [Nat.mul_comm A.1, Nat.mul_assoc]
    exact Nat.le_mul_of_pos_left _ (by decide)
  omega
theorem fr_lt (hD : okD D) (x : Int32) : fr (RR D) (TT D) x ≤ 3486784401 := by
  have h1 := RR_le hD
  have h2 := (TT_pos hD).2
  unfold fr
  refine Nat.le_trans (Nat.div_le_self _ _) ?_
  split <;> omega
theorem jA_lt (hD : okD D) (k : Nat) : jA D k < 2 ^ 40 := by
  obtain ⟨h1, h2, h3, h4, h5⟩ := jA_bd hD
  have h0 := hD.2.2.1
  have f0 := fr_lt hD 0
  have f1 := fr_lt hD 1
  rcases (show k = 0 ∨ k = 1 ∨ k = 2 ∨ k = 3 ∨ 4 ≤ k by omega) with rfl | rfl | rfl | rfl | hk
  · show fr (RR D) (TT D) 0 < _; omega
  · show fr (RR D) (TT D) 1 < _; omega
  · omega
  · omega
  · have : jA D k = jA D 4 := by
      unfold jA
      rw [if_neg (by omega), if_neg (by omega), if_neg (by omega), if_neg (by omega)]
      rfl
    omega
theorem ka_joined (h : DK b D) (w : Nat → ST) {k : Nat} (hk : k ≤ 4) : ∃ b' w', m_X9_joined b w (nI k) = some (lN (jA D k), b', w') ∧ DK b' D := by
  obtain ⟨hD, hC, hJ⟩ := id h
  obtain ⟨w', a1, a2, a3⟩ := aa_e hC hD w
  obtain ⟨h1, h2, h3, h4, h5⟩ := jA_bd hD
  have hL := hD.2.2.1
  have i2 : (nI (ak 12 (aV D) 0).1).toInt64 = lN (jA D 2) := nI_l (n := jA D 2) (by omega)
  have i3 : (nI (ak 12 (aV D) 0).2.1).toInt64 = lN (jA D 3) := nI_l (n := jA D 3) (by omega)
  have i4 : (nI (ak 12 (aV D) 0).2.2).toInt64 = lN (jA D 4) := nI_l (n := jA D 4) (by omega)
  generalize hA : ak 12 (aV D) 0 = A at a1 i2 i3 i4
  have hI : DK (K3 b A.1 A.2.1 A.2.2) D := h.K3
  unfold m_X9_joined
  rw [if_neg (nI_pos (by omega)), if_pos (by rw [show (4 : Int32) = nI 4 from rfl, qle (by omega) (by omega)]; omega), a1, Option.bind_some, un_f]
  have ht : m_X0_told (K3 b A.1 A.2.1 A.2.2) w' (nI k) = some (lN (jA D k)) := by
    unfold m_X0_told
    rcases (show k = 0 ∨ k = 1 ∨ k = 2 ∨ k = 3 ∨ k = 4 by omega) with q | q | q | q | q
    · subst q
      rw [if_pos (show nI 0 = (0 : Int32) from rfl), gd_t (by decide)]
      show Option.bind (some ((w' 0).2.1 0)) some = _
      rw [a2]
      rfl
    · subst q
      rw [if_neg (show ¬ nI 1 = (0 : Int32) by decide), if_pos (show nI 1 = (1 : Int32) from rfl), gd_t (by decide)]
      show Option.bind (some ((w' 0).2.1 1)) some = _
      rw [a3]
      rfl
    · subst q
      rw [if_neg (show ¬ nI 2 = (0 : Int32) by decide), if_neg (show ¬ nI 2 = (1 : Int32) by decide), if_pos (show nI 2 = (2 : Int32) from rfl)]
      exact congrArg some i2
    · subst q
      rw [if_neg (show ¬ nI 3 = (0 : Int32) by decide), if_neg (show ¬ nI 3 = (1 : Int32) by decide), if_neg (show ¬ nI 3 = (2 : Int32) by decide), if_pos (show nI 3 = (3 : Int32) from rfl)]
      exact congrArg some i3
    · subst q
      rw [if_neg (show ¬ nI 4 = (0 : Int32) by decide), if_neg (show ¬ nI 4 = (1 : Int32) by decide), if_neg (show ¬ nI 4 = (2 : Int32) by decide), if_neg (show ¬ nI 4 = (3 : Int32) by decide)]
      exact congrArg some i4
  rw [ht, Option.bind_some, Option.bind_some]
  exact ⟨_, w', rfl, hI⟩
end DK
