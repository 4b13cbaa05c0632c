/-! sheets, the text of the orders -/
def she (x : Int32) : Bool := decide (0 ≤ x.toInt ∧ x.toInt ≤ 2)
theorem she_of {x : Int32} (h : she x = true) : ∃ k, k < 3 ∧ x = nI k := by
  have h := of_decide_eq_true h
  obtain ⟨k, h1, h2⟩ := vp_in_of (x := x) (n := 3) (vp_in_iff.mpr ⟨h.1, by omega⟩) (by omega)
  exact ⟨k, h1, h2⟩
theorem isSheet_e (b : ST) (x : Int32) : m_X7_isSheet b x = some (bz (she x)) := by
  unfold m_X7_isSheet she
  simp only [fa_lt, fa_le, show (0 : Int32).toInt = 0 from by decide, show (3 : Int32).toInt = 3 from by decide]
  repeat' split
  all_goals first | (rw [bz_d0 (by omega)]; done) | (rw [bz_d1 (by omega)]; done)
theorem isSheetM_e (x : Int32) : m_X10_isSheet x = some (bz (she x)) := by
  unfold m_X10_isSheet
  rw [in_e, i64_0, i64_2, Int32.toInt_toInt64]
  exact bz_gd _ _
theorem she_k {k : Nat} (h : k < 3) : she (nI k) = true := decide_eq_true (by rw [nI_toInt (by omega)]; omega)
theorem wC_ne {b : ST} {k j : Nat} {F : Nat → Int64} (h : j ≠ k) : (wC b k F).2.2.2 j = b.2.2.2 j := if_neg h
theorem wC_eq {b : ST} {k : Nat} {F : Nat → Int64} : (wC b k F).2.2.2 k = F := if_pos rfl
theorem nI_m1 {m : Nat} (h : m < 2 ^ 31) : ¬ nI m = (-1 : Int32) := amI_ne h
section SH
variable {b t : ST} {D : ND}
theorem jnC_C {k : Nat} {F : Nat → Int64} (h0 : 0 < k) (h : jnC b D) : jnC (wC b k F) D := fun s hs => by
  obtain ⟨J, h1, h2⟩ := h s hs
  exact ⟨J, by rw [wC_ne (show 0 ≠ k by omega)]; exact h1, h2⟩
theorem lost_y {k : Nat} (hk : k < 3) (h : b.2.2.1 7 k = -1) : m_X7_isLost b (nI k) = some 1 := by
  unfold m_X7_isLost
  rw [isSheet_e, she_k hk, Option.bind_some, if_neg (by decide), gd_in (by omega) (by omega), nI_clamp (by omega), h, if_pos rfl]
theorem lost_n {k m : Nat} (hk : k < 3) (hm : m ≤ 40) (h : b.2.2.1 7 k = nI m) : m_X7_isLost b (nI k) = some 0 := by
  unfold m_X7_isLost
  rw [isSheet_e, she_k hk, Option.bind_some, if_neg (by decide), gd_in (by omega) (by omega), nI_clamp (by omega), h, if_neg (nI_m1 (by omega))]
theorem size_n {k m : Nat} (hk : k < 3) (hm : m ≤ 40) (h : b.2.2.1 7 k = nI m) : m_X7_sizeOf b (nI k) = some (nI m) := by
  unfold m_X7_sizeOf
  rw [lost_n hk hm h, Option.bind_some, if_pos rfl, gd_in (by omega) (by omega), nI_clamp (by omega), h]
theorem inv_f {v : Int32} (h : INV b t D) : INV (wI b 9 v) (wI t 0 v) D := ⟨h.1, h.2.1, h.2.2.1, h.2.2.2.1, h.2.2.2.2.1, ⟨rfl, h.2.2.2.2.2.2.1, h.2.2.2.2.2.2.2⟩⟩
theorem finding_e (b : ST) (v : Int32) : m_X7_finding b v = some ((-10 : Int32) - v, wI b 9 v) := rfl
theorem finds_e (t : ST) (v : Int32) : m_X10_finds t v = some ((-10 : Int32) - v, wI t 0 v) := rfl
/-- a sheet's refusal: none, or the sheet has some items -/
theorem rof_e (h : INV b t D) (x : Int32) : (she x = false ∧ m_X7_refusalOf b x = some ((-2 : Int32), b)) ∨ ∃ k, k < 3 ∧ x = nI k ∧ ((b.2.2.1 7 k = -1 ∧ t.2.2.1 0 k = -1 ∧ m_X7_refusalOf b x = some ((-10 : Int32) - 1, wI b 9 1)) ∨ ∃ m, m ≤ 40 ∧ b.2.2.1 7 k = nI m ∧ t.2.2.1 0 k = nI m ∧ m_X7_refusalOf b x = some ((0 : Int32), b)) := by
  obtain ⟨hD, hC, hM, hJ, hT, hS⟩ := id h
  cases hx : she x
  · left
    refine ⟨rfl, ?_⟩
    unfold m_X7_refusalOf
    rw [isSheet_e, hx]
    rfl
  · right
    obtain ⟨k, hk, rfl⟩ := she_of hx
    obtain ⟨s1, s2⟩ := hS.2.1 k hk
    refine ⟨k, hk, rfl, ?_⟩
    rcases s2 with hl | ⟨m, hm, hl⟩
    · left
      refine ⟨hl, by rw [← s1, hl], ?_⟩
      unfold m_X7_refusalOf
      rw [isSheet_e, hx, lost_y hk hl]
      rfl
    · right
      refine ⟨m, hm, hl, by rw [← s1, hl], ?_⟩
      unfold m_X7_refusalOf
      rw [isSheet_e, hx, lost_n hk hm hl]
      rfl
theorem s_lose (h : INV b t D) (x : Int32) : SIM (m_X9_lose b x) (m_X10_lose t x) := by
  obtain ⟨hD, hC, hM, hJ, hT, hS⟩ := id h
  unfold m_X9_lose m_X10_lose
  rw [isSheetM_e, Option.bind_some, bz_if]
  rcases rof_e h x with ⟨h1, h2⟩ | ⟨k, hk, rfl, ⟨h1, h2, h3⟩ | ⟨m, hm, h1, h2, h3⟩⟩
  · rw [h2, h1]
    exact SIM.mk rfl rfl h
  · rw [h3, she_k hk, if_pos rfl, gd_in (by omega) (by omega), nI_clamp (by omega), if_pos h2]
    exact SIM.mk rfl rfl (inv_f h)
  · rw [h3, she_k hk, if_pos rfl, gd_in (by omega) (by omega), nI_clamp (by omega), if_neg (by rw [h2]; exact nI_m1 (by omega)), gd_i2 (by omega) (by omega)]
    unfold m_X7_drop
    simp only [un, lt]
    rw [gd_i2 (by omega) (by omega), Option.bind_some, if_pos rfl, size_n hk hm h1, Option.bind_some, isSheet_e, she_k hk, Option.bind_some, if_neg (by decide), gd_in (by omega) (by omega), nI_clamp (by omega), Option.bind_some, h2]
    refine SIM.mk rfl rfl ⟨hD, hC, hM, hJ, hT, hS.1, fun s hs => ?_, hS.2.2⟩
    obtain ⟨s1, s2⟩ := hS.2.1 s hs
    show upd (b.2.2.1 7) k (-1) s = upd (t.2.2.1 0) k (-1) s ∧ (upd (b.2.2.1 7) k (-1) s = -1 ∨ ∃ m, m ≤ 40 ∧ upd (b.2.2.1 7) k (-1) s = nI m)
    unfold upd
    split
    · exact ⟨rfl, Or.inl rfl⟩
    · exact ⟨s1, s2⟩
theorem s_sheet (h : INV b t D) (x n : Int32) : SIM (m_X9_sheet b x n) (m_X10_sheet t x n) := by
  obtain ⟨hD, hC, hM, hJ, hT, hS⟩ := id h
  unfold m_X9_sheet m_X10_sheet
  rw [isSheet_e, isSheetM_e, Option.bind_some, Option.bind_some, bz_if, bz_if]
  cases hx : she x
  · exact SIM.mk rfl rfl h
  · obtain ⟨k, hk, rfl⟩ := she_of hx
    rw [if_pos rfl, if_pos rfl]
    by_cases h40 : n ≤ (40 : Int32)
    · rw [if_pos h40, if_pos h40]
      by_cases h0 : 0 ≤ n
      · rw [if_pos h0, if_pos h0]
        have h40 := (fa_le _ _).mp h40
        have h0 := (fa_le _ _).mp h0
        rw [show (40 : Int32).toInt = 40 from by decide] at h40
        rw [show (0 : Int32).toInt = 0 from by decide] at h0
        obtain ⟨c, hc, rfl⟩ := vp_in_of (x := n) (n := 41) (vp_in_iff.mpr ⟨h0, by omega⟩) (by omega)
        obtain ⟨e, he, F, rfl, hF⟩ := vl_totF (B := m_X7_renew_L23 (nI k) (nI c)) (fun m st => ∃ i F, i ≤ c ∧ m = c - i ∧ st = (nI i, wC b (3 + k) F) ∧ ∀ j, F j = if j < i then 0 else b.2.2.2 (3 + k) j) (fun e => ∃ F, e = wC b (3 + k) F ∧ ∀ j, F j = if j < c then 0 else b.2.2.2 (3 + k) j) (by
          rintro m st ⟨i, F, hi, rfl, rfl, hF⟩
          unfold m_X7_renew_L23
          simp only [un, lt, qle (a := c) (b := i) (by omega) (by omega)]
          by_cases hic : i = c
          · left; subst hic; rw [if_pos (by omega)]; exact ⟨_, rfl, F, rfl, hF⟩
          · right
            rw [if_neg (by omega), gd_in (by omega) (by omega), gd_in (by omega) (by omega), nI_clamp (by omega), nI_clamp (by omega), wB_wC, nI_1]
            refine ⟨_, rfl, c - (i + 1), by omega, i + 1, _, by omega, rfl, rfl, fun j => ?_⟩
            unfold vp_updL
            by_cases hj : j = i
            · rw [if_pos hj, if_pos (by omega)]
            · rw [if_neg hj, hF j]
              by_cases hji : j < i
              · rw [if_pos hji, if_pos (by omega)]
              · rw [if_neg hji, if_neg (by omega)]) (i := c - 0) (s := ((0 : Int32), b)) (by omega) ⟨0, b.2.2.2 (3 + k), by omega, rfl, by rw [wC_self]; rfl, fun j => by rw [if_neg (Nat.not_lt_zero j)]⟩
        obtain ⟨e, he2, G, rfl, hG⟩ := vl_totF (B := m_X10_sheet_L35 (nI k) (nI c)) (fun m st => ∃ i G, i ≤ c ∧ m = c - i ∧ st = (nI i, wC (wA t 0 k (nI c)) 0 G) ∧ ∀ j, G j = if 40 * k ≤ j ∧ j < 40 * k + i then 0 else t.2.2.2 0 j) (fun e => ∃ G, e = wC (wA t 0 k (nI c)) 0 G ∧ ∀ j, G j = if 40 * k ≤ j ∧ j < 40 * k + c then 0 else t.2.2.2 0 j) (by
          rintro m st ⟨i, G, hi, rfl, rfl, hG⟩
          unfold m_X10_sheet_L35
          simp only [un, lt, qle (a := c) (b := i) (by omega) (by omega)]
          by_cases hic : i = c
          · left; subst hic; rw [if_pos (by omega)]; exact ⟨_, rfl, G, rfl, hG⟩
          · right
            have hadd : (40 : Int32) * nI k + nI i = nI (40 * k + i) := by rw [show (40 : Int32) * nI k = nI (40 * k) from pk_mul 40 k, nI_add]
            rw [if_neg (by omega), hadd, gd_in (by omega) (by omega), nI_clamp (by omega), wB_wC, nI_1]
            refine ⟨_, rfl, c - (i + 1), by omega, i + 1, _, by omega, rfl, rfl, fun j => ?_⟩
            unfold vp_updL
            by_cases hj : j = 40 * k + i
            · rw [if_pos hj, if_pos (by omega)]
            · rw [if_neg hj, hG j]
              by_cases hji : 40 * k ≤ j ∧ j < 40 * k + i
              · rw [if_pos hji, if_pos (by omega)]
              · rw [if_neg hji, if_neg (by omega)]) (i := c - 0) (s := ((0 : Int32), wA t 0 k (nI c))) (by omega) ⟨0, t.2.2.2 0, by omega, rfl, by rw [show wC (wA t 0 k (nI c)) 0 (t.2.2.2 0) = wA t 0 k (nI c) from wC_self (wA t 0 k (nI c)) 0]; rfl, fun j => by rw [if_neg (by omega)]⟩
        unfold m_X7_renew
        simp only [lt]
        rw [isSheet_e, she_k hk, Option.bind_some, if_neg (by decide), if_neg (nI_pos (by omega)), if_pos (by rw [qge_40 (by omega)]; omega), he, Option.bind_some, gd_in (by omega) (by omega), nI_clamp (by omega), gd_i2 (by omega) (by omega), he2]
        simp only [Option.bind_some, un]
        refine SIM.mk rfl rfl ⟨hD, hC, hM, jnC_C (b := b) (k := 3 + k) (by omega) hJ, hT, hS.1, fun s hs => ?_, fun s i hs hi => ?_⟩
        · obtain ⟨s1, s2⟩ := hS.2.1 s hs
          show upd (b.2.2.1 7) k (nI c) s = upd (t.2.2.1 0) k (nI c) s ∧ (upd (b.2.2.1 7) k (nI c) s = -1 ∨ ∃ m, m ≤ 40 ∧ upd (b.2.2.1 7) k (nI c) s = nI m)
          unfold upd
          split
          · exact ⟨rfl, Or.inr ⟨c, by omega, rfl⟩⟩
          · exact ⟨s1, s2⟩
        · show (wC b (3 + k) F).2.2.2 (3 + s) i = G (40 * s + i)
          rw [hG]
          by_cases hsk : s = k
          · subst hsk
            rw [wC_eq, hF]
            by_cases hic : i < c
            · rw [if_pos hic, if_pos (by omega)]
            · rw [if_neg hic, if_neg (by omega)]; exact hS.2.2 s i hs hi
          · rw [wC_ne (by omega), if_neg (by omega)]; exact hS.2.2 s i hs hi
      · rw [if_neg h0, if_neg h0]
        exact SIM.mk rfl rfl (inv_f h)
    · rw [if_neg h40, if_neg h40]
      exact SIM.mk rfl rfl h
/-- an item is there, or not -/
theorem has_e {k m : Nat} (hk : k < 3) (hm : m ≤ 40) (h : b.2.2.1 7 k = nI m) (i : Int32) : m_X7_hasItem b (nI k) i = some (bz (decide (0 ≤ i.toInt ∧ i.toInt < (m : Int)))) := by
  unfold m_X7_hasItem
  rw [size_n hk hm h, Option.bind_some]
  simp only [fa_lt, fa_le, nI_toInt (n := m) (by omega), show (0 : Int32).toInt = 0 from by decide, show (40 : Int32).toInt = 40 from by decide]
  repeat' split
  all_goals first | (rw [bz_d0 (by omega)]; done) | (rw [bz_d1 (by omega)]; done)
theorem lacks_e {k m : Nat} (hk : k < 3) (hm : m ≤ 40) (h : t.2.2.1 0 k = nI m) (i : Int32) : m_X10_lacks t (nI k) i = if 0 ≤ i.toInt ∧ i.toInt < (m : Int) then some ((0 : Int32), t) else some ((-10 : Int32) - 2, wI t 0 2) := by
  unfold m_X10_lacks
  rw [gd_in (by omega) (by omega), nI_clamp (by omega), if_neg (by rw [h]; exact nI_m1 (by omega)), gd_i2 (by omega) (by omega), h, in_e, i64_0, sub1_i (by omega), Int32.toInt_toInt64, Option.bind_some, bz_if]
  by_cases hi : 0 ≤ i.toInt ∧ i.toInt < (m : Int)
  · rw [if_pos (decide_eq_true (by omega)), if_pos hi]
  · rw [if_neg (by rw [decide_eq_false (by omega)]; decide), if_neg hi]; rfl
theorem rat_y {k m : Nat} (hk : k < 3) (hm : m ≤ 40) (h : b.2.2.1 7 k = nI m) (h2 : m_X7_refusalOf b (nI k) = some ((0 : Int32), b)) (i : Int32) : m_X7_refusalAt b (nI k) i = if 0 ≤ i.toInt ∧ i.toInt < (m : Int) then some ((0 : Int32), b) else some ((-10 : Int32) - 2, wI b 9 2) := by
  unfold m_X7_refusalAt
  rw [h2, Option.bind_some]
  simp only [un]
  rw [if_pos trivial, has_e hk hm h, Option.bind_some, bz_if]
  by_cases hi : 0 ≤ i.toInt ∧ i.toInt < (m : Int)
  · rw [if_pos (decide_eq_true hi), if_pos hi]
  · rw [if_neg (by rw [decide_eq_false hi]; decide), if_neg hi]; rfl
theorem m11 : ¬ ((-10 : Int32) - 1 = 0) := by decide
theorem m12 : ¬ ((-10 : Int32) - 2 = 0) := by decide
theorem inv_put {k j : Nat} (hk : k < 3) (hj : j < 40) {v : Int64} (h : INV b t D) : INV (wB b (3 + k) j v) (wB t 0 (40 * k + j) v) D := by
  obtain ⟨hD, hC, hM, hJ, hT, hS⟩ := h
  refine ⟨hD, hC, hM, fun s hs => ?_, hT, hS.1, hS.2.1, fun s i hs hi => ?_⟩
  · obtain ⟨J, h1, h2⟩ := hJ s hs
    refine ⟨J, ?_, h2⟩
    show (if 0 = 3 + k then _ else b.2.2.2 0) s = _
    rw [if_neg (by omega)]; exact h1
  · show (if 3 + s = 3 + k then vp_updL (b.2.2.2 (3 + k)) j v else b.2.2.2 (3 + s)) i = vp_updL (t.2.2.2 0) (40 * k + j) v (40 * s + i)
    unfold vp_updL
    by_cases hsk : s = k
    · subst hsk
      rw [if_pos rfl]
      by_cases hij : i = j
      · rw [if_pos hij, if_pos (by omega)]
      · rw [if_neg hij, if_neg (by omega)]; exact hS.2.2 s i hs hi
    · rw [if_neg (by omega), if_neg (by omega)]; exact hS.2.2 s i hs hi
theorem s_lay (h : INV b t D) (x i v : Int32) : SIM (m_X9_lay b x i v) (m_X10_lay t x i v) := by
  unfold m_X9_lay m_X10_lay
  rw [isSheetM_e, Option.bind_some, bz_if]
  rcases rof_e h x with ⟨h1, h2⟩ | ⟨k, hk, rfl, ⟨h1, h2, h3⟩ | ⟨m, hm, h1, h2, h3⟩⟩
  · unfold m_X7_refusalAt
    rw [h2, h1]
    exact SIM.mk rfl rfl h
  · unfold m_X7_refusalAt m_X10_lacks
    rw [h3, she_k hk, if_pos rfl, gd_in (by omega) (by omega), nI_clamp (by omega), if_pos h2]
    exact SIM.mk rfl rfl (inv_f h)
  · rw [she_k hk, if_pos rfl, rat_y hk hm h1 h3, lacks_e hk hm h2]
    by_cases hi : 0 ≤ i.toInt ∧ i.toInt < (m : Int)
    · obtain ⟨j, hj, rfl⟩ := vp_in_of (x := i) (n := m) (vp_in_iff.mpr hi) (by omega)
      have hadd : (40 : Int32) * nI k + nI j = nI (40 * k + j) := by rw [show (40 : Int32) * nI k = nI (40 * k) from pk_mul 40 k, nI_add]
      rw [if_pos hi, if_pos hi, Option.bind_some, Option.bind_some]
      unfold m_X7_put
      simp only [un, lt]
      rw [if_pos trivial, if_pos trivial, has_e hk hm h1, decide_eq_true hi, Option.bind_some, if_neg (by decide), gd_in (by omega) (by omega), gd_in (by omega) (by omega), nI_clamp (by omega), nI_clamp (by omega), hadd, gd_in (by omega) (by omega), nI_clamp (by omega), Option.bind_some]
      exact SIM.mk rfl rfl (inv_put hk (by omega) h)
    · rw [if_neg hi, if_neg hi]
      exact SIM.mk rfl rfl (inv_f h)
theorem s_get (h : INV b t D) (x i : Int32) : SIM (m_X9_get b x i) (m_X10_get t x i) := by
  unfold m_X9_get m_X10_get
  rw [isSheetM_e, Option.bind_some, bz_if]
  rcases rof_e h x with ⟨h1, h2⟩ | ⟨k, hk, rfl, ⟨h1, h2, h3⟩ | ⟨m, hm, h1, h2, h3⟩⟩
  · unfold m_X7_refusalAt
    rw [h2, h1]
    exact SIM.mk rfl rfl h
  · unfold m_X7_refusalAt m_X10_lacks
    rw [h3, she_k hk, if_pos rfl, gd_in (by omega) (by omega), nI_clamp (by omega), if_pos h2]
    exact SIM.mk rfl rfl (inv_f h)
  · rw [she_k hk, if_pos rfl, rat_y hk hm h1 h3, lacks_e hk hm h2]
    by_cases hi : 0 ≤ i.toInt ∧ i.toInt < (m : Int)
    · obtain ⟨j, hj, rfl⟩ := vp_in_of (x := i) (n := m) (vp_in_iff.mpr hi) (by omega)
      have hadd : (40 : Int32) * nI k + nI j = nI (40 * k + j) := by rw [show (40 : Int32) * nI k = nI (40 * k) from pk_mul 40 k, nI_add]
      rw [if_pos hi, if_pos hi, Option.bind_some, Option.bind_some]
      unfold m_X7_item
      simp only [un, lt]
      rw [if_pos trivial, if_pos trivial, has_e hk hm h1, decide_eq_true hi, Option.bind_some, if_neg (by decide), gd_in (by omega) (by omega), gd_in (by omega) (by omega), nI_clamp (by omega), nI_clamp (by omega), hadd, gd_in (by omega) (by omega), nI_clamp (by omega), Option.bind_some, h.2.2.2.2.2.2.2 k j hk (by omega)]
      exact SIM.mk rfl rfl h
    · rw [if_neg hi, if_neg hi]
      exact SIM.mk rfl rfl (inv_f h)
theorem holds_e {k m : Nat} (hk : k < 3) (hm : m ≤ 40) (h : b.2.2.1 7 k = nI m) (i n : Int32) : m_X7_holds b (nI k) i n = some (bz (decide (0 ≤ i.toInt ∧ 0 ≤ n.toInt ∧ i.toInt + n.toInt ≤ (m : Int)))) := by
  unfold m_X7_holds
  rw [size_n hk hm h, Option.bind_some]
  have z : (0 : Int32).toInt = 0 := by decide
  by_cases h1 : i < 0
  · rw [if_pos h1]; have h1 := (fa_lt _ _).mp h1; rw [z] at h1; rw [bz_d0 (by omega)]
  rw [if_neg h1]
  have h1 : ¬ i.toInt < (0 : Int32).toInt := fun q => h1 ((fa_lt _ _).mpr q)
  rw [z] at h1
  by_cases h2 : n < 0
  · rw [if_pos h2]; have h2 := (fa_lt _ _).mp h2; rw [z] at h2; rw [bz_d0 (by omega)]
  rw [if_neg h2]
  have h2 : ¬ n.toInt < (0 : Int32).toInt := fun q => h2 ((fa_lt _ _).mpr q)
  rw [z] at h2
  by_cases h3 : nI m < i
  · rw [if_pos h3]; have h3 := (fa_lt _ _).mp h3; rw [nI_toInt (by omega)] at h3; rw [bz_d0 (by omega)]
  rw [if_neg h3]
  have h3 : ¬ (nI m).toInt < i.toInt := fun q => h3 ((fa_lt _ _).mpr q)
  rw [nI_toInt (by omega)] at h3
  obtain ⟨j, hj, rfl⟩ := vp_in_of (x := i) (n := m + 1) (vp_in_iff.mpr ⟨by omega, by omega⟩) (by omega)
  rw [nI_toInt (by omega)] at h3
  rw [pk_sub (show j ≤ m by omega), nI_toInt (n := j) (by omega)]
  by_cases h4 : nI (m - j) < n
  · rw [if_pos h4]; have h4 := (fa_lt _ _).mp h4; rw [nI_toInt (by omega)] at h4; rw [bz_d0 (by omega)]
  · rw [if_neg h4]
    have h4 : ¬ (nI (m - j)).toInt < n.toInt := fun q => h4 ((fa_lt _ _).mpr q)
    rw [nI_toInt (by omega)] at h4
    rw [bz_d1 (by omega)]
theorem s_wipe (h : INV b t D) : SIM (m_X9_wipe b) (m_X10_wipe t) := by
  obtain ⟨hD, hC, hM, hJ, hT, hS⟩ := id h
  obtain ⟨n, hn, hn1, hn2⟩ := hT.1
  unfold m_X9_wipe m_X10_wipe m_X4_clear
  simp only [lt, un, Option.bind_some]
  rw [hn1, hn2]
  exact SIM.mk rfl rfl ⟨hD, hC, hM, hJ, ⟨⟨0, by omega, rfl, rfl⟩, hT.2⟩, hS⟩
theorem s_type (h : INV b t D) (x : Int32) : SIM (m_X9_type b x) (m_X10_type t x) := by
  obtain ⟨hD, hC, hM, hJ, hT, hS⟩ := id h
  obtain ⟨n, hn, hn1, hn2⟩ := hT.1
  unfold m_X9_type m_X10_type
  rw [in_e, i64_0, i64_255, Int32.toInt_toInt64, Option.bind_some, bz_if]
  by_cases hx : 0 ≤ x.toInt ∧ x.toInt ≤ 255
  · rw [if_neg (by rw [fa_lt]; exact fun q => by rw [show (0 : Int32).toInt = 0 from by decide] at q; omega), if_pos (by rw [fa_le, show (255 : Int32).toInt = 255 from by decide]; exact hx.2), if_pos (decide_eq_true hx)]
    unfold m_X4_isFull m_X4_append
    rw [hn1, hn2]
    by_cases h60 : n < 60
    · rw [if_pos (by rw [qlt_60 (by omega)]; exact h60), Option.bind_some, if_pos rfl, if_neg (nI_pos (by omega)), if_neg (by rw [qle_60 (by omega)]; omega), if_neg (by rw [qeq_60 (by omega)]; omega)]
      simp only [lt, un]
      rw [gd_in (by omega) (by omega), gd_in (by omega) (by omega), nI_clamp (by omega), Option.bind_some]
      have ha : (wA (wI b 7 (nI n + 1)) 6 n x).1 7 = nI n + 1 := rfl
      have hb : (wA t 15 n x).1 9 = nI n := hn2
      rw [ha, hb]
      refine SIM.mk rfl rfl ⟨hD, hC, hM, hJ, ⟨⟨n + 1, by omega, nI_1 n, nI_1 n⟩, fun k => ?_, hT.2.2⟩, hS⟩
      show upd (b.2.2.1 6) n x k = upd (t.2.2.1 15) n x k
      unfold upd
      split
      · rfl
      · exact hT.2.1 k
    · rw [if_neg (by rw [qlt_60 (by omega)]; exact h60), Option.bind_some, if_neg (by decide), if_pos (by rw [qeq_60 (by omega)]; omega)]
      exact SIM.mk rfl rfl h
  · rw [if_neg (show ¬ decide (0 ≤ x.toInt ∧ x.toInt ≤ 255) = true from fun q => hx (of_decide_eq_true q))]
    by_cases h0 : x < 0
    · rw [if_pos h0]; exact SIM.mk rfl rfl h
    · rw [if_neg h0, if_neg]
      · exact SIM.mk rfl rfl h
      · intro q
        rw [fa_lt, show (0 : Int32).toInt = 0 from by decide] at h0
        rw [fa_le, show (255 : Int32).toInt = 255 from by decide] at q
        exact hx ⟨by omega, q⟩
end SH
