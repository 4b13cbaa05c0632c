/-! chances: lowest terms, weights, sums over sets -/
def gB (K : Int32) (σ : Int64 × Int64 × Int32) : Option ((Int64 × Int64 × Int32) ⊕ (Int64)) := un σ (fun y_1 q => un q (fun y_2 y_3 => if K ≤ y_3 then some (.inr y_1) else if (lg_cmp y_2 (0 : Int64)) = 0 then some (.inr y_1) else gd (¬ y_2 = 0) (lt (y_1 - y_1 / y_2 * y_2) (fun x_15 => lt (y_3 + 1) (fun x_16 => some (.inl (y_2, x_15, x_16)))))))
theorem gB_0 {K : Nat} (hK : K < 2 ^ 31) {a k : Nat} (hk : k < K) : gB (nI K) (lN a, lN 0, nI k) = some (.inr (lN a)) := by
  unfold gB un
  simp only []
  rw [if_neg (by rw [qle hK (by omega)]; omega), if_pos (by rw [lg_cmp_eq]; rfl)]
theorem gB_s {K : Nat} (hK : K < 2 ^ 31) {a b k : Nat} (hk : k < K) (ha : a < 2 ^ 63) (hb0 : 0 < b) (hb : b < 2 ^ 63) : gB (nI K) (lN a, lN b, nI k) = some (.inl (lN b, lN (a % b), nI (k + 1))) := by
  unfold gB un
  simp only []
  have hne : ¬ lN b = 0 := fun q => by
    have := (pk_lEQ hb (show 0 < 2 ^ 63 by decide)).mp q
    omega
  rw [if_neg (by rw [qle hK (by omega)]; omega), if_neg (by rw [lg_cmp_eq]; exact hne), gd_t hne, pk_lRem ha hb0 hb, nI_1]
  rfl
theorem mod_half {a b : Nat} (hb : 0 < b) (hr : 0 < a % b) : 2 * (b % (a % b)) < b := by
  have h1 := Nat.mod_lt a hb
  have h2 := Nat.mod_lt b hr
  have h3 := Nat.div_add_mod b (a % b)
  have h4 : 1 ≤ b / (a % b) := (Nat.one_le_div_iff hr).mpr (by omega)
  have h5 : a % b ≤ a % b * (b / (a % b)) := Nat.le_mul_of_pos_right _ h4
  omega
theorem gB_gcd {K : Nat} (hK : K < 2 ^ 31) : ∀ (m F a b k : Nat), m ≤ 63 → a < 2 ^ 63 → b < 2 ^ m → k + 2 * m < K → 2 * m < F → vLoop (gB (nI K)) F (lN a, lN b, nI k) = some (lN (Nat.gcd a b))
  | m, 0, a, b, k, _, _, _, _, h => by omega
  | m, F + 1, a, b, k, hm, ha, hb, hk, hF => by
    have hb63 : b < 2 ^ 63 := Nat.lt_of_lt_of_le hb (Nat.pow_le_pow_right (by decide) hm)
    unfold vLoop
    rcases Nat.eq_zero_or_pos b with rfl | h0
    · rw [gB_0 hK (by omega), Nat.gcd_zero_right]
    · rw [gB_s hK (by omega) ha h0 hb63]
      cases m with
      | zero => omega
      | succ m =>
        cases F with
        | zero => omega
        | succ F =>
          have hg : Nat.gcd a b = Nat.gcd b (a % b) := by rw [Nat.gcd_comm a b, Nat.gcd_rec b a, Nat.gcd_comm]
          have hr := Nat.mod_lt a h0
          simp only []
          unfold vLoop
          rcases Nat.eq_zero_or_pos (a % b) with h1 | h1
          · rw [h1, gB_0 hK (by omega), hg, h1, Nat.gcd_zero_right]
          · rw [gB_s hK (by omega) hb63 h1 (by omega)]
            have h2 := mod_half h0 h1
            have hg2 : Nat.gcd b (a % b) = Nat.gcd (a % b) (b % (a % b)) := by rw [Nat.gcd_comm b (a % b), Nat.gcd_rec (a % b) b, Nat.gcd_comm]
            rw [hg, hg2]
            exact gB_gcd hK m F (a % b) (b % (a % b)) (k + 1 + 1) (by omega) (by omega) (by rw [Nat.pow_succ] at hb; omega) (by omega) (by omega)
/-- above or below in lowest terms -/
def fr (a b : Nat) (w : Int32) : Nat := (if w = 0 then a else b) / Nat.gcd a b
theorem cd_e {a b : Nat} (ha : a < 2 ^ 63) (hb : b < 2 ^ 40) : m_X1_commonDivisor (lN a) (lN b) = some (lN (Nat.gcd a b)) := by
  unfold m_X1_commonDivisor
  have h := gB_gcd (K := 100) (by decide) 40 FUEL a b 0 (by omega) ha hb (by omega) (by unfold FUEL; omega)
  have h : vLoop m_X1_commonDivisor_L3 FUEL (lN a, lN b, (0 : Int32)) = some (lN (Nat.gcd a b)) := h
  rw [h]
  rfl
theorem gcd_b {a b : Nat} (hb0 : 0 < b) : 0 < Nat.gcd a b ∧ Nat.gcd a b ≤ b := ⟨Nat.gcd_pos_of_pos_right a hb0, Nat.gcd_le_right a hb0⟩
theorem lN_n0 {g : Nat} (h0 : 0 < g) (h : g < 2 ^ 63) : ¬ lN g = 0 := fun q => by
  have := (pk_lEQ h (show 0 < 2 ^ 63 by decide)).mp q
  omega
theorem told_e {a b : Nat} {w : Int32} (ha : a < 2 ^ 63) (hb0 : 0 < b) (hb : b < 2 ^ 40) : m_X1_told (lN a) (lN b) w = some (lN (fr a b w)) := by
  unfold m_X1_told fr
  obtain ⟨h1, h2⟩ := gcd_b (a := a) hb0
  have hn := lN_n0 h1 (by omega)
  rw [cd_e ha hb]
  simp only [Option.bind_some]
  rw [if_neg (by rw [lg_cmp_eq]; exact hn), gd_t hn, gd_t hn, pk_lDiv ha h1 (by omega), pk_lDiv (by omega) h1 (by omega)]
  split <;> rfl
/-- all links -/
abbrev PA : Nat → Bool := fun _ => true
theorem cn_0 (E : EL) : cn E 0 = true := cn_iff.mpr (fun u v _ _ h _ => by rw [Nat.zero_testBit] at h; cases h)
theorem sm_wt (x z : Nat → Nat) (n : Nat) : sm (wt x z n) (2 ^ n) = pr (fun k => x k + z k) PA n := by
  have h := sm_RZ (a := x) (e := x) (x := x) (z := z) (W := 0) (n := n) (U := [])
  rw [RZ_sure (fun U => cn_0 U)] at h
  rw [← h]
  exact sm_cong (fun i _ => by rw [if_pos (cn_0 _)])
theorem pr_9 {y : Nat → Nat} {P : Nat → Bool} : ∀ {n : Nat}, (∀ k, k < n → y k ≤ 9) → pr y P n ≤ 9 ^ n
  | 0, _ => Nat.le_refl 1
  | n + 1, h => by
    have ih := pr_9 (y := y) (P := P) (n := n) (fun k hk => h k (by omega))
    have h9 := h n (by omega)
    unfold pr
    rw [Nat.pow_succ]
    split
    · rw [Nat.mul_comm]; exact Nat.mul_le_mul ih h9
    · omega
theorem pr_pos {y : Nat → Nat} {P : Nat → Bool} : ∀ {n : Nat}, (∀ k, k < n → 1 ≤ y k) → 0 < pr y P n
  | 0, _ => Nat.one_pos
  | n + 1, h => by
    have ih := pr_pos (y := y) (P := P) (n := n) (fun k hk => h k (by omega))
    have h9 := h n (by omega)
    unfold pr
    split
    · exact Nat.mul_pos h9 ih
    · exact ih
theorem wt_le9 {x z : Nat → Nat} {s : Nat} : ∀ {n : Nat}, (∀ k, k < n → x k ≤ 9 ∧ z k ≤ 9) → wt x z n s ≤ 9 ^ n
  | 0, _ => Nat.le_refl 1
  | n + 1, h => by
    have ih := wt_le9 (x := x) (z := z) (s := s) (n := n) (fun k hk => h k (by omega))
    have h9 := h n (by omega)
    unfold wt
    rw [Nat.pow_succ, Nat.mul_comm]
    exact Nat.mul_le_mul ih (by split <;> omega)
theorem p9_10 {n : Nat} (h : n ≤ 10) : 9 ^ n ≤ 3486784401 := Nat.le_trans (Nat.pow_le_pow_right (by decide) h) (by decide)
/-- chances that the sums may be taken of -/
def okW (n : Nat) (u w : Nat → Nat) : Prop := n ≤ 10 ∧ ∀ k, k < n → u k ≤ w k ∧ 1 ≤ w k ∧ w k ≤ 9
def zz (u w : Nat → Nat) : Nat → Nat := fun k => w k - u k
theorem okW_pr {n : Nat} {u w : Nat → Nat} (h : okW n u w) : 0 < pr w PA n ∧ pr w PA n ≤ 3486784401 := ⟨pr_pos (fun k hk => (h.2 k hk).2.1), Nat.le_trans (pr_9 (fun k hk => (h.2 k hk).2.2)) (p9_10 h.1)⟩
theorem okW_wt {n s : Nat} {u w : Nat → Nat} (h : okW n u w) : wt u (zz u w) n s ≤ 3486784401 := Nat.le_trans (wt_le9 (fun k hk => by have := h.2 k hk; unfold zz; omega)) (p9_10 h.1)
theorem okW_sm {n : Nat} {u w : Nat → Nat} (h : okW n u w) : sm (wt u (zz u w) n) (2 ^ n) = pr w PA n := by
  rw [sm_wt]
  exact pr_cong (fun _ _ => rfl) (fun k hk _ => by have := h.2 k hk; unfold zz; omega)
theorem okW_le {n : Nat} {u w : Nat → Nat} {f : Nat → Bool} (h : okW n u w) : sm (fun s => if f s = true then wt u (zz u w) n s else 0) (2 ^ n) ≤ pr w PA n := by
  rw [← okW_sm h]
  exact sm_le (fun i _ => by split <;> omega)
/-- the class's sums stand for these chances -/
def PRT (b : ST) (D : ND) (u w : Nat → Nat) : Prop := b.2.1 0 = lN (pr w PA (dL D)) ∧ ∀ s, s < 2 ^ dL D → b.2.2.2 1 s = lN (wt u (zz u w) (dL D) s)
theorem wL_wC (b : ST) (k : Nat) (F : Nat → Int64) (j : Nat) (v : Int64) : wL (wC b k F) j v = wC (wL b j v) k F := rfl
theorem wL_wL (b : ST) (j : Nat) (v v2 : Int64) : wL (wL b j v) j v2 = wL b j v2 := by
  unfold wL vp_updL
  simp only []
  congr 3
  funext i
  split <;> rfl
section OD
variable {b t : ST} {D : ND}
theorem spread_e {k u a : Nat} {v : Int64} {F : Nat → Int64} (hk : k ≤ 9) (hu : u ≤ a) (ha : a ≤ 9) : ∃ F2, m_X3_spread (wC (wL b 0 v) 1 F) (nI k) (nI u) (nI a) = some (wC (wL b 0 (v * lN a)) 1 F2) ∧ ∀ s, s < 2 ^ k → F2 s = F s * lN (a - u) ∧ F2 (2 ^ k + s) = F s * lN u := by
  have hp : 2 ^ k ≤ 2 ^ 9 := Nat.pow_le_pow_right (by decide) hk
  have hp0 := Nat.two_pow_pos k
  unfold m_X3_spread
  rw [shl_1 k (by omega)]
  simp only [lt]
  obtain ⟨e, he, F2, rfl, hF⟩ := vl_totF (B := m_X3_spread_L8 (nI u) (nI a) (nI (2 ^ k))) (fun m st => ∃ i F2, i ≤ 2 ^ k ∧ m = 2 ^ k - i ∧ st = (nI i, wC (wL b 0 v) 1 F2) ∧ (∀ s, s < i → F2 s = F s * lN (a - u) ∧ F2 (2 ^ k + s) = F s * lN u) ∧ ∀ s, i ≤ s → s < 2 ^ k → F2 s = F s)
    (fun e => ∃ F2, e = wC (wL b 0 v) 1 F2 ∧ ∀ s, s < 2 ^ k → F2 s = F s * lN (a - u) ∧ F2 (2 ^ k + s) = F s * lN u) (by
      rintro m st ⟨i, F2, hi, rfl, rfl, h1, h2⟩
      unfold m_X3_spread_L8
      simp only [un, qle (a := 2 ^ k) (b := i) (by omega) (by omega), nI_add]
      by_cases hik : i = 2 ^ k
      · left
        rw [if_pos (by omega)]
        exact ⟨_, rfl, F2, rfl, fun s hs => h1 s (by omega)⟩
      · right
        rw [if_neg (by omega), if_neg (by rw [qle_1024 (by omega)]; omega)]
        simp only [gd_in (i := i) (N := 1024) (by omega) (by omega), gd_in (i := 2 ^ k + i) (N := 1024) (by omega) (by omega), gd_i2 (i := i) (N := 1024) (by omega) (by omega), gd_i2 (i := 2 ^ k + i) (N := 1024) (by omega) (by omega), nI_clamp (n := i) (by omega), nI_clamp (n := 2 ^ k + i) (by omega), lt, wB_wC, nI_1]
        refine ⟨_, rfl, 2 ^ k - (i + 1), by omega, i + 1, _, by omega, rfl, rfl, fun s hs => ?_, fun s hs hs2 => ?_⟩
        · have hra : (nI a - nI u).toInt64 = lN (a - u) := by rw [pk_sub hu, nI_l (by omega)]
          have hru : (nI u).toInt64 = lN u := nI_l (by omega)
          rw [hra, hru]
          have hr : ∀ G : Nat → Int64, (wC (wL b 0 v) 1 G).2.2.2 1 = G := fun G => rfl
          simp only [hr]
          by_cases hsi : s = i
          · subst hsi
            refine ⟨?_, ?_⟩
            · rw [pk_uLs, pk_uLn (by omega), h2 s (by omega) (by omega)]
            · rw [pk_uLn (by omega), pk_uLs, h2 s (by omega) (by omega)]
          · obtain ⟨g1, g2⟩ := h1 s (by omega)
            refine ⟨?_, ?_⟩
            · rw [pk_uLn (by omega), pk_uLn (by omega), g1]
            · rw [pk_uLn (by omega), pk_uLn (by omega), g2]
        · rw [pk_uLn (by omega), pk_uLn (by omega), h2 s (by omega) hs2]) (i := 2 ^ k - 0) (s := ((0 : Int32), wC (wL b 0 v) 1 F)) (by omega) ⟨0, F, by omega, rfl, rfl, fun s hs => absurd hs (Nat.not_lt_zero s), fun _ _ _ => rfl⟩
  rw [he]
  refine ⟨F2, ?_, hF⟩
  simp only [Option.bind_some]
  rw [wL_wC, wL_wL, nI_l (by omega)]
  rfl
theorem fw_e (hC : repC b D) (hD : okD D) {x1 x2 x3 : Int32} {u w : Nat → Nat} (hW : okW (dL D) u w) (h1 : ∀ i, i < dL D → nI i = x1 → x2 = nI (u i) ∧ x3 = nI (w i)) (h2 : ∀ i, i < dL D → ¬ nI i = x1 → uP D i = u i ∧ wP D i = w i) : ∃ F, m_X3_fillWith b x1 x2 x3 = some (wC (wL b 0 (lN (pr w PA (dL D)))) 1 F) ∧ ∀ s, s < 2 ^ dL D → F s = lN (wt u (zz u w) (dL D) s) := by
  have hL := hD.2.2.1
  unfold m_X3_fillWith
  rw [gd_t (by decide)]
  simp only [lt]
  rw [show (0 : Int32).toNatClampNeg = 0 from by decide]
  have hst : ∀ G : Nat → Int64, wL (wB (wC b 1 G) 1 0 1) 0 1 = wC (wL b 0 (lN 1)) 1 (vp_updL G 0 (lN 1)) := fun G => by rw [wB_wC]; rfl
  have hb : wL (wB b 1 0 1) 0 1 = wC (wL b 0 (lN 1)) 1 (vp_updL (b.2.2.2 1) 0 (lN 1)) := by
    have := hst (b.2.2.2 1)
    rw [wC_self] at this
    exact this
  rw [hb]
  obtain ⟨e, he, F, rfl, hF⟩ := vl_totF (B := m_X3_fillWith_L15 x1 x2 x3) (fun m st => ∃ i F, i ≤ dL D ∧ m = dL D - i ∧ st = (nI i, wC (wL b 0 (lN (pr w PA i))) 1 F) ∧ ∀ s, s < 2 ^ i → F s = lN (wt u (zz u w) i s))
    (fun e => ∃ F, e = wC (wL b 0 (lN (pr w PA (dL D)))) 1 F ∧ ∀ s, s < 2 ^ dL D → F s = lN (wt u (zz u w) (dL D) s)) (by
      rintro m st ⟨i, F, hi, rfl, rfl, hF⟩
      have hC2 : repC (wC (wL b 0 (lN (pr w PA i))) 1 F) D := hC
      unfold m_X3_fillWith_L15 m_X2_linkCount
      simp only [un, Option.bind_some, hC2.2.1, qle (a := dL D) (b := i) (by omega) (by omega)]
      by_cases hiL : i = dL D
      · left
        rw [if_pos (by omega)]
        subst hiL
        exact ⟨_, rfl, F, rfl, hF⟩
      · right
        have hil : i < dL D := by omega
        rw [if_neg (by omega)]
        obtain ⟨w1, w2, w3⟩ := hW.2 i hil
        obtain ⟨F2, hs1, hs2⟩ := spread_e (b := b) (k := i) (u := u i) (a := w i) (v := lN (pr w PA i)) (F := F) (by omega) w1 w3
        have hfin : ∀ s, s < 2 ^ (i + 1) → F2 s = lN (wt u (zz u w) (i + 1) s) := fun s hs => by
          rcases Nat.lt_or_ge s (2 ^ i) with q | q
          · rw [(hs2 s q).1, hF s q, lN_mul]
            show _ = lN ((if s.testBit i = true then u i else zz u w i) * wt u (zz u w) i s)
            rw [if_neg (by rw [Nat.testBit_lt_two_pow q]; decide), Nat.mul_comm]
            rfl
          · obtain ⟨j, rfl⟩ : ∃ j, s = 2 ^ i + j := ⟨s - 2 ^ i, by omega⟩
            have hj : j < 2 ^ i := by omega
            rw [(hs2 j hj).2, hF j hj, lN_mul]
            show _ = lN ((if (2 ^ i + j).testBit i = true then u i else zz u w i) * wt u (zz u w) i (2 ^ i + j))
            rw [if_pos (bit_top hj), wt_cong (s2 := j) (fun k hk => bit_low hk) (fun _ _ => ⟨rfl, rfl⟩), Nat.mul_comm]
        have hpr : lN (pr w PA i) * lN (w i) = lN (pr w PA (i + 1)) := by
          rw [lN_mul, Nat.mul_comm]
          rfl
        rw [hpr] at hs1
        by_cases hx : nI i = x1
        · obtain ⟨g1, g2⟩ := h1 i hil hx
          rw [if_pos hx, g1, g2, hs1]
          simp only [Option.bind_some, lt, nI_1]
          exact ⟨_, rfl, dL D - (i + 1), by omega, i + 1, F2, by omega, rfl, rfl, hfin⟩
        · obtain ⟨g1, g2⟩ := h2 i hil hx
          rw [if_neg hx, up_e hC2 hD hil, wh_e hC2 hD hil]
          simp only [Option.bind_some]
          rw [g1, g2, hs1]
          simp only [Option.bind_some, lt, nI_1]
          exact ⟨_, rfl, dL D - (i + 1), by omega, i + 1, F2, by omega, rfl, rfl, hfin⟩) (i := dL D - 0) (s := ((0 : Int32), wC (wL b 0 (lN 1)) 1 (vp_updL (b.2.2.2 1) 0 (lN 1)))) (by omega) ⟨0, _, by omega, rfl, rfl, fun s hs => by
        have hs0 : s = 0 := by have : s < 1 := hs; omega
        subst hs0
        exact pk_uLs⟩
  rw [he]
  exact ⟨F, rfl, hF⟩
theorem okW_D (hD : okD D) : okW (dL D) (uP D) (wP D) := ⟨hD.2.2.1, fun k hk => uP_le hD hk⟩
theorem fill_e (hC : repC b D) (hD : okD D) : ∃ F, m_X3_fill b = some (wC (wL b 0 (lN (pr (wP D) PA (dL D)))) 1 F) ∧ ∀ s, s < 2 ^ dL D → F s = lN (wt (uP D) (zz (uP D) (wP D)) (dL D) s) := by
  have hL := hD.2.2.1
  have hne : ∀ i, i < dL D → ¬ nI i = (-1 : Int32) := fun i hi q => by
    have := (fa_eq _ _).mp q
    rw [nI_toInt (by omega), show (-1 : Int32).toInt = -1 from by decide] at this
    omega
  obtain ⟨F, h1, h2⟩ := fw_e (x1 := (-1 : Int32)) (x2 := 0) (x3 := 1) hC hD (okW_D hD) (fun i hi q => absurd q (hne i hi)) (fun i hi _ => ⟨rfl, rfl⟩)
  unfold m_X3_fill
  rw [h1]
  exact ⟨F, rfl, h2⟩
theorem sum_loop {B : Int64 × Int32 → Option ((Int64 × Int32) ⊕ Int64)} {g : Nat → Nat} {n : Nat} (hn : n ≤ 1024) (hs : ∀ i a, i < n → B (lN a, nI i) = some (.inl (lN (a + g i), nI (i + 1)))) (he : ∀ a, B (lN a, nI n) = some (.inr (lN a))) : vLoop B FUEL ((0 : Int64), (0 : Int32)) = some (lN (sm g n)) :=
  vl_F (fun i => (lN (sm g i), nI i)) 0 n (by omega) (by omega) (fun i _ hi => hs i (sm g i) hi) (he (sm g n))
theorem all_end (hC : repC b D) (hD : okD D) {i : Nat} (hi : i ≤ 2 ^ dL D) : (nI (2 ^ dL D - 1) < nI i) = (i = 2 ^ dL D) := by
  have hp : 2 ^ dL D ≤ 2 ^ 10 := Nat.pow_le_pow_right (by decide) hD.2.2.1
  have hp0 := Nat.two_pow_pos (dL D)
  rw [qlt (by omega) (by omega)]
  exact propext (by omega)
theorem rp_e (hC : repC b D) (hJ : jnC b D) (hD : okD D) {u w : Nat → Nat} (hP : PRT b D u w) : m_X3_reachParts b = some (lN (sm (fun s => if rch D s = true then wt u (zz u w) (dL D) s else 0) (2 ^ dL D))) := by
  have hp : 2 ^ dL D ≤ 2 ^ 10 := Nat.pow_le_pow_right (by decide) hD.2.2.1
  have hp0 := Nat.two_pow_pos (dL D)
  unfold m_X3_reachParts
  rw [sum_loop (B := m_X3_reachParts_L4 b) (g := fun s => if rch D s = true then wt u (zz u w) (dL D) s else 0) (n := 2 ^ dL D) (by omega) (fun i a hi => ?_) (fun a => ?_)]
  · rfl
  · unfold m_X3_reachParts_L4
    simp only [un, al_e hC hD, Option.bind_some, lt]
    rw [if_neg (by rw [all_end hC hD (by omega)]; omega), if_neg (by rw [qle_1024 (by omega)]; omega), re_e hC hJ hD hi]
    simp only [Option.bind_some, bz_if, gd_in (i := i) (N := 1024) (by omega) (by omega), gd_i2 (i := i) (N := 1024) (by omega) (by omega), nI_clamp (n := i) (by omega), hP.2 i hi, lN_add, nI_1]
    split <;> rfl
  · unfold m_X3_reachParts_L4
    simp only [un, al_e hC hD, Option.bind_some]
    rw [if_pos (by rw [all_end hC hD (by omega)])]
theorem pp_e (hC : repC b D) (hJ : jnC b D) (hD : okD D) {u w : Nat → Nat} (hP : PRT b D u w) {v c : Nat} (hv : v < 7) (hc : c < 7) : m_X3_pairParts b (nI v) (nI c) = some (lN (sm (fun s => if (mk (EDD D s) v).testBit c = true then wt u (zz u w) (dL D) s else 0) (2 ^ dL D))) := by
  have hp : 2 ^ dL D ≤ 2 ^ 10 := Nat.pow_le_pow_right (by decide) hD.2.2.1
  have hp0 := Nat.two_pow_pos (dL D)
  unfold m_X3_pairParts
  rw [sum_loop (B := m_X3_pairParts_L5 (nI v) (nI c) b) (g := fun s => if (mk (EDD D s) v).testBit c = true then wt u (zz u w) (dL D) s else 0) (n := 2 ^ dL D) (by omega) (fun i a hi => ?_) (fun a => ?_)]
  · rfl
  · unfold m_X3_pairParts_L5
    simp only [un, al_e hC hD, Option.bind_some, lt]
    have hm := mk_lt (EDD D i) v
    rw [if_neg (by rw [all_end hC hD (by omega)]; omega), if_neg (by rw [qle_1024 (by omega)]; omega), jw_e hJ hD hi hv]
    simp only [Option.bind_some]
    rw [shr_bit (by omega) (by omega)]
    simp only [bz_if, gd_in (i := i) (N := 1024) (by omega) (by omega), gd_i2 (i := i) (N := 1024) (by omega) (by omega), nI_clamp (n := i) (by omega), hP.2 i hi, lN_add, nI_1]
    split <;> rfl
  · unfold m_X3_pairParts_L5
    simp only [un, al_e hC hD, Option.bind_some]
    rw [if_pos (by rw [all_end hC hD (by omega)])]
theorem pc_lt {x : Nat} : pc x ≤ 10 := by
  unfold pc
  generalize (10 : Nat) = n
  exact fa_cnt_le _ n
theorem ru_b (hC : repC b D) (hD : okD D) {u w M c : Nat → Nat} (hP : PRT b D u w) (hj : ∀ s, s < 2 ^ dL D → m_X2_joinedWith b (nI s) (nI (dS D)) = some (nI (M s))) (hc : ∀ s, s < 2 ^ dL D → c s ≤ 10 ∧ m_J6_bitCount_0f7a4 (nI (M s)) = some (nI (c s))) : m_X3_ruleParts b = some (lN (sm (fun s => wt u (zz u w) (dL D) s * c s) (2 ^ dL D))) := by
  have hp : 2 ^ dL D ≤ 2 ^ 10 := Nat.pow_le_pow_right (by decide) hD.2.2.1
  have hp0 := Nat.two_pow_pos (dL D)
  unfold m_X3_ruleParts
  rw [sum_loop (B := m_X3_ruleParts_L4 b) (g := fun s => wt u (zz u w) (dL D) s * c s) (n := 2 ^ dL D) (by omega) (fun i a hi => ?_) (fun a => ?_)]
  · rfl
  · obtain ⟨c1, c2⟩ := hc i hi
    have hss : m_X2_sourceStation b = some (nI (dS D)) := congrArg some hC.2.2.1
    unfold m_X3_ruleParts_L4
    simp only [un, lt]
    rw [al_e hC hD, Option.bind_some, if_neg (by rw [all_end hC hD (by omega)]; omega), if_neg (by rw [qle_1024 (by omega)]; omega), gd_in (by omega) (by omega), hss, Option.bind_some, hj i hi, Option.bind_some, c2, Option.bind_some, nI_clamp (by omega), hP.2 i hi, nI_l (by omega), lN_mul, lN_add, nI_1]
  · unfold m_X3_ruleParts_L4
    simp only [un]
    rw [al_e hC hD, Option.bind_some, if_pos (by rw [all_end hC hD (by omega)])]
theorem ru_e (hC : repC b D) (hJ : jnC b D) (hD : okD D) {u w : Nat → Nat} (hP : PRT b D u w) : m_X3_ruleParts b = some (lN (sm (fun s => wt u (zz u w) (dL D) s * pc (mk (EDD D s) (dS D))) (2 ^ dL D))) := by
  have hN := hD.2.1
  have hS := hD.2.2.2.1
  exact ru_b hC hD (M := fun s => mk (EDD D s) (dS D)) (c := fun s => pc (mk (EDD D s) (dS D))) hP (fun s hs => jw_e hJ hD hs (by omega)) (fun s _ => ⟨pc_lt, bc_e _ (Nat.lt_trans (mk_lt (EDD D s) (dS D)) (by decide))⟩)
theorem td_e {u w : Nat → Nat} (hW : okW (dL D) u w) (hP : PRT b D u w) {a : Nat} (ha : a < 2 ^ 63) (x : Int32) : m_X3_told b (lN a) x = some (lN (fr a (pr w PA (dL D)) x)) := by
  unfold m_X3_told
  obtain ⟨h1, h2⟩ := okW_pr hW
  rw [hP.1, told_e ha h1 (by omega)]
  rfl
/-! the model's -/
def wD (t : ST) (k : Nat) (f : Nat → Int32) : ST := (t.1, t.2.1, (fun j => if j = k then f else t.2.2.1 j), t.2.2.2)
theorem wA_wD (t : ST) (k i : Nat) (f : Nat → Int32) (v : Int32) : wA (wD t k f) k i v = wD t k (upd f i v) := by
  unfold wA wD
  simp only [if_true]
  congr 3
  funext j
  split <;> rfl
theorem wD_wD (t : ST) (k : Nat) (f g : Nat → Int32) : wD (wD t k f) k g = wD t k g := by
  unfold wD
  simp only []
  congr 3
  funext j
  split <;> rfl
theorem wD_self (t : ST) (k : Nat) : wD t k (t.2.2.1 k) = t := by
  unfold wD
  obtain ⟨x, y, z, w⟩ := t
  simp only []
  congr 3
  funext j
  split
  · rename_i h; rw [h]
  · rfl
end OD
