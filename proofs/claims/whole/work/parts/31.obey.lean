/-! orders -/
/-- the text: what stands in it, how long it is -/
def TX (b t : ST) (X : Nat → Int32) (T : Nat) : Prop := T ≤ 60 ∧ b.1 7 = nI T ∧ t.1 9 = nI T ∧ (∀ k, b.2.2.1 6 k = X k) ∧ ∀ k, t.2.2.1 15 k = X k
def isL (x : Int32) : Bool := decide (97 ≤ x.toInt ∧ x.toInt ≤ 122)
def isF (x : Int32) : Bool := decide (48 ≤ x.toInt ∧ x.toInt ≤ 57)
def en (X : Nat → Int32) (T st : Nat) : Nat := st + fa_first (fun i => decide (X (st + i) = 59)) (T - st)
def wl (X : Nat → Int32) (st e : Nat) : Nat := fa_first (fun i => !isL (X (st + i))) (e - st)
theorem en_ge (X : Nat → Int32) (T st : Nat) : st ≤ en X T st := Nat.le_add_right _ _
theorem en_le {X : Nat → Int32} {T st : Nat} (h : st ≤ T) : en X T st ≤ T := by
  have := fa_first_le (fun i => decide (X (st + i) = 59)) (T - st)
  unfold en
  omega
theorem wl_le (X : Nat → Int32) (st e : Nat) : wl X st e ≤ e - st := fa_first_le _ _
def W0 (X : Nat → Int32) (st n : Nat) : Bool := decide (n = 2 ∧ X (st + 0) = 117 ∧ X (st + 1) = 112)
def W1 (X : Nat → Int32) (st n : Nat) : Bool := decide (n = 4 ∧ X (st + 0) = 100 ∧ X (st + 1) = 111 ∧ X (st + 2) = 119 ∧ X (st + 3) = 110)
def W2 (X : Nat → Int32) (st n : Nat) : Bool := decide (n = 4 ∧ X (st + 0) = 102 ∧ X (st + 1) = 114 ∧ X (st + 2) = 101 ∧ X (st + 3) = 101)
def W3 (X : Nat → Int32) (st n : Nat) : Bool := decide (n = 4 ∧ X (st + 0) = 103 ∧ X (st + 1) = 111 ∧ X (st + 2) = 97 ∧ X (st + 3) = 108)
def W4 (X : Nat → Int32) (st n : Nat) : Bool := decide (n = 4 ∧ X (st + 0) = 102 ∧ X (st + 1) = 114 ∧ X (st + 2) = 111 ∧ X (st + 3) = 109)
def W5 (X : Nat → Int32) (st n : Nat) : Bool := decide (n = 3 ∧ X (st + 0) = 97 ∧ X (st + 1) = 108 ∧ X (st + 2) = 108)
def W6 (X : Nat → Int32) (st n : Nat) : Bool := decide (n = 4 ∧ X (st + 0) = 110 ∧ X (st + 1) = 111 ∧ X (st + 2) = 110 ∧ X (st + 3) = 101)
def wd (X : Nat → Int32) (st n : Nat) : Nat := if W0 X st n = true then 1 else if W1 X st n = true then 2 else if W2 X st n = true then 3 else if W3 X st n = true then 4 else if W4 X st n = true then 5 else if W5 X st n = true then 6 else if W6 X st n = true then 7 else 0
theorem wd_le (X : Nat → Int32) (st n : Nat) : wd X st n ≤ 7 := by unfold wd; (repeat' split) <;> omega
theorem WP0 (X : Nat → Int32) (st n : Nat) : decide (n = lenS.getD 0 0 ∧ ∀ i, i < lenS.getD 0 0 → X (st + i) = sCh 0 i) = W0 X st n := by
  refine decide_eq_decide.mpr ⟨fun h => ⟨h.1, h.2 0 (by decide), h.2 1 (by decide)⟩, fun h => ⟨h.1, fun i hi => ?_⟩⟩
  have hi : i < 2 := hi
  rcases (show i = 0 ∨ i = 1 by omega) with rfl | rfl
  · exact h.2.1
  · exact h.2.2
theorem WP1 (X : Nat → Int32) (st n : Nat) : decide (n = lenS.getD 1 0 ∧ ∀ i, i < lenS.getD 1 0 → X (st + i) = sCh 1 i) = W1 X st n := by
  refine decide_eq_decide.mpr ⟨fun h => ⟨h.1, h.2 0 (by decide), h.2 1 (by decide), h.2 2 (by decide), h.2 3 (by decide)⟩, fun h => ⟨h.1, fun i hi => ?_⟩⟩
  have hi : i < 4 := hi
  rcases (show i = 0 ∨ i = 1 ∨ i = 2 ∨ i = 3 by omega) with rfl | rfl | rfl | rfl
  · exact h.2.1
  · exact h.2.2.1
  · exact h.2.2.2.1
  · exact h.2.2.2.2
theorem WP2 (X : Nat → Int32) (st n : Nat) : decide (n = lenS.getD 2 0 ∧ ∀ i, i < lenS.getD 2 0 → X (st + i) = sCh 2 i) = W2 X st n := by
  refine decide_eq_decide.mpr ⟨fun h => ⟨h.1, h.2 0 (by decide), h.2 1 (by decide), h.2 2 (by decide), h.2 3 (by decide)⟩, fun h => ⟨h.1, fun i hi => ?_⟩⟩
  have hi : i < 4 := hi
  rcases (show i = 0 ∨ i = 1 ∨ i = 2 ∨ i = 3 by omega) with rfl | rfl | rfl | rfl
  · exact h.2.1
  · exact h.2.2.1
  · exact h.2.2.2.1
  · exact h.2.2.2.2
theorem WP3 (X : Nat → Int32) (st n : Nat) : decide (n = lenS.getD 3 0 ∧ ∀ i, i < lenS.getD 3 0 → X (st + i) = sCh 3 i) = W3 X st n := by
  refine decide_eq_decide.mpr ⟨fun h => ⟨h.1, h.2 0 (by decide), h.2 1 (by decide), h.2 2 (by decide), h.2 3 (by decide)⟩, fun h => ⟨h.1, fun i hi => ?_⟩⟩
  have hi : i < 4 := hi
  rcases (show i = 0 ∨ i = 1 ∨ i = 2 ∨ i = 3 by omega) with rfl | rfl | rfl | rfl
  · exact h.2.1
  · exact h.2.2.1
  · exact h.2.2.2.1
  · exact h.2.2.2.2
theorem WP4 (X : Nat → Int32) (st n : Nat) : decide (n = lenS.getD 4 0 ∧ ∀ i, i < lenS.getD 4 0 → X (st + i) = sCh 4 i) = W4 X st n := by
  refine decide_eq_decide.mpr ⟨fun h => ⟨h.1, h.2 0 (by decide), h.2 1 (by decide), h.2 2 (by decide), h.2 3 (by decide)⟩, fun h => ⟨h.1, fun i hi => ?_⟩⟩
  have hi : i < 4 := hi
  rcases (show i = 0 ∨ i = 1 ∨ i = 2 ∨ i = 3 by omega) with rfl | rfl | rfl | rfl
  · exact h.2.1
  · exact h.2.2.1
  · exact h.2.2.2.1
  · exact h.2.2.2.2
theorem WP5 (X : Nat → Int32) (st n : Nat) : decide (n = lenS.getD 5 0 ∧ ∀ i, i < lenS.getD 5 0 → X (st + i) = sCh 5 i) = W5 X st n := by
  refine decide_eq_decide.mpr ⟨fun h => ⟨h.1, h.2 0 (by decide), h.2 1 (by decide), h.2 2 (by decide)⟩, fun h => ⟨h.1, fun i hi => ?_⟩⟩
  have hi : i < 3 := hi
  rcases (show i = 0 ∨ i = 1 ∨ i = 2 by omega) with rfl | rfl | rfl
  · exact h.2.1
  · exact h.2.2.1
  · exact h.2.2.2
theorem WP6 (X : Nat → Int32) (st n : Nat) : decide (n = lenS.getD 6 0 ∧ ∀ i, i < lenS.getD 6 0 → X (st + i) = sCh 6 i) = W6 X st n := by
  refine decide_eq_decide.mpr ⟨fun h => ⟨h.1, h.2 0 (by decide), h.2 1 (by decide), h.2 2 (by decide), h.2 3 (by decide)⟩, fun h => ⟨h.1, fun i hi => ?_⟩⟩
  have hi : i < 4 := hi
  rcases (show i = 0 ∨ i = 1 ∨ i = 2 ∨ i = 3 by omega) with rfl | rfl | rfl | rfl
  · exact h.2.1
  · exact h.2.2.1
  · exact h.2.2.2.1
  · exact h.2.2.2.2
section OR
variable {b t : ST} {D : ND} {X : Nat → Int32} {T : Nat}
theorem ba_e (h : TX b t X T) {j : Nat} (hj : j < T) : m_X4_byteAt b (nI j) = some (X j) := by
  have h60 := h.1
  unfold m_X4_byteAt
  rw [if_neg (nI_pos (by omega)), h.2.1, if_neg (by rw [qle (by omega) (by omega)]; omega), if_neg (by rw [qle_60 (by omega)]; omega), gd_in (by omega) (by omega), nI_clamp (by omega), h.2.2.2.1 j]
theorem ib_e (x : Int32) : m_X4_isBetween x 97 122 = some (bz (isL x)) := by
  unfold m_X4_isBetween isL
  simp only [fa_lt, show (97 : Int32).toInt = 97 from by decide, show (122 : Int32).toInt = 122 from by decide]
  repeat' split
  all_goals first | (rw [bz_d0 (by omega)]; done) | (rw [bz_d1 (by omega)]; done)
theorem if_e (x : Int32) : m_X4_isBetween x 48 57 = some (bz (isF x)) := by
  unfold m_X4_isBetween isF
  simp only [fa_lt, show (48 : Int32).toInt = 48 from by decide, show (57 : Int32).toInt = 57 from by decide]
  repeat' split
  all_goals first | (rw [bz_d0 (by omega)]; done) | (rw [bz_d1 (by omega)]; done)
theorem ef_e (h : TX b t X T) {st : Nat} (hs : st ≤ T) : m_X4_endFrom b (nI st) = some (nI (en X T st)) := by
  have h60 := h.1
  have hle := fa_first_le (fun i => decide (X (st + i) = 59)) (T - st)
  have hno := fa_first_no (fun i => decide (X (st + i) = 59)) (T - st)
  have hye := fa_first_yes (fun i => decide (X (st + i) = 59)) (T - st)
  unfold m_X4_endFrom en
  generalize fa_first (fun i => decide (X (st + i) = 59)) (T - st) = n at hle hno hye ⊢
  have hl : vLoop (m_X4_endFrom_L2 b) FUEL (nI st) = some (nI (st + n)) := by
    refine vl_F (fun i => nI (st + i)) 0 n (by omega) (by omega) (fun i _ hi => ?_) ?_
    · have h1 := of_decide_eq_false (hno i hi)
      unfold m_X4_endFrom_L2
      dsimp only [lt]
      rw [h.2.1, if_neg (by rw [qle (by omega) (by omega)]; omega), ba_e h (by omega), Option.bind_some, if_neg h1, nI_1]
      rfl
    · unfold m_X4_endFrom_L2
      dsimp only [lt]
      rw [h.2.1]
      by_cases hc : n = T - st
      · rw [if_pos (by rw [qle (by omega) (by omega)]; omega)]
      · have h1 := of_decide_eq_true (hye (by omega))
        rw [if_neg (by rw [qle (by omega) (by omega)]; omega), ba_e h (by omega), Option.bind_some, if_pos h1]
  rw [hl, Option.bind_some]
theorem efM_e (h : TX b t X T) {st : Nat} (hs : st ≤ T) : vLoop (m_X10_obey_L66 t) FUEL (nI st) = some (nI (en X T st)) := by
  have h60 := h.1
  have hle := fa_first_le (fun i => decide (X (st + i) = 59)) (T - st)
  have hno := fa_first_no (fun i => decide (X (st + i) = 59)) (T - st)
  have hye := fa_first_yes (fun i => decide (X (st + i) = 59)) (T - st)
  unfold en
  generalize fa_first (fun i => decide (X (st + i) = 59)) (T - st) = n at hle hno hye ⊢
  refine vl_F (fun i => nI (st + i)) 0 n (by omega) (by omega) (fun i _ hi => ?_) ?_
  · have h1 := of_decide_eq_false (hno i hi)
    unfold m_X10_obey_L66
    dsimp only [lt]
    rw [h.2.2.1, if_neg (by rw [qle (by omega) (by omega)]; omega), gd_in (by omega) (by omega), nI_clamp (by omega), h.2.2.2.2, if_neg h1, nI_1]
    rfl
  · unfold m_X10_obey_L66
    dsimp only [lt]
    rw [h.2.2.1]
    by_cases hc : n = T - st
    · rw [if_pos (by rw [qle (by omega) (by omega)]; omega)]
    · have h1 := of_decide_eq_true (hye (by omega))
      rw [if_neg (by rw [qle (by omega) (by omega)]; omega), gd_in (by omega) (by omega), nI_clamp (by omega), h.2.2.2.2, if_pos h1]
theorem wle_e (h : TX b t X T) {st e : Nat} (hs : st ≤ e) (he : e ≤ T) : m_X4_wordLength b (nI st) (nI e) = some (nI (wl X st e)) := by
  have h60 := h.1
  have hle := fa_first_le (fun i => !isL (X (st + i))) (e - st)
  have hno := fa_first_no (fun i => !isL (X (st + i))) (e - st)
  have hye := fa_first_yes (fun i => !isL (X (st + i))) (e - st)
  unfold m_X4_wordLength wl
  generalize fa_first (fun i => !isL (X (st + i))) (e - st) = n at hle hno hye ⊢
  have hl : vLoop (m_X4_wordLength_L2 (nI e) b) FUEL (nI st) = some (nI (st + n)) := by
    refine vl_F (fun i => nI (st + i)) 0 n (by omega) (by omega) (fun i _ hi => ?_) ?_
    · have h1 := hno i hi
      rw [Bool.not_eq_false'] at h1
      unfold m_X4_wordLength_L2
      dsimp only [lt]
      rw [if_neg (by rw [qle (by omega) (by omega)]; omega), ba_e h (by omega), Option.bind_some, ib_e, h1, Option.bind_some, if_neg (by decide), nI_1]
      rfl
    · unfold m_X4_wordLength_L2
      dsimp only [lt]
      by_cases hc : n = e - st
      · rw [if_pos (by rw [qle (by omega) (by omega)]; omega)]
      · have h1 := hye (by omega)
        rw [Bool.not_eq_true'] at h1
        rw [if_neg (by rw [qle (by omega) (by omega)]; omega), ba_e h (by omega), Option.bind_some, ib_e, h1, Option.bind_some, if_pos (show bz false = 0 from rfl)]
  rw [hl, Option.bind_some, pk_sub (Nat.le_add_right st n), Nat.add_sub_cancel_left]
theorem wlM_e (h : TX b t X T) {st e : Nat} (hs : st ≤ e) (he : e ≤ T) : vLoop (m_X10_does_L2 (nI st) (nI e) t) FUEL (0 : Int32) = some (nI (wl X st e)) := by
  have h60 := h.1
  have hle := fa_first_le (fun i => !isL (X (st + i))) (e - st)
  have hno := fa_first_no (fun i => !isL (X (st + i))) (e - st)
  have hye := fa_first_yes (fun i => !isL (X (st + i))) (e - st)
  unfold wl
  generalize fa_first (fun i => !isL (X (st + i))) (e - st) = n at hle hno hye ⊢
  refine vl_F (fun i => nI i) 0 n (by omega) (by omega) (fun i _ hi => ?_) ?_
  · have h1 := hno i hi
    rw [Bool.not_eq_false'] at h1
    unfold m_X10_does_L2
    dsimp only [lt]
    rw [nI_add, if_neg (by rw [qle (by omega) (by omega)]; omega), gd_in (by omega) (by omega), nI_clamp (by omega), h.2.2.2.2, in_e, i64_97, i64_122, Int32.toInt_toInt64, Option.bind_some, bz_if, if_pos (show decide (97 ≤ (X (st + i)).toInt ∧ (X (st + i)).toInt ≤ 122) = true from h1), nI_1]
  · unfold m_X10_does_L2
    dsimp only [lt]
    rw [nI_add]
    by_cases hc : n = e - st
    · rw [if_pos (by rw [qle (by omega) (by omega)]; omega)]
    · have h1 := hye (by omega)
      rw [Bool.not_eq_true'] at h1
      rw [if_neg (by rw [qle (by omega) (by omega)]; omega), gd_in (by omega) (by omega), nI_clamp (by omega), h.2.2.2.2, in_e, i64_97, i64_122, Int32.toInt_toInt64, Option.bind_some, bz_if, if_neg (show ¬ decide (97 ≤ (X (st + n)).toInt ∧ (X (st + n)).toInt ≤ 122) = true from by show ¬ isL (X (st + n)) = true; rw [h1]; decide)]
theorem lenS_le : ∀ w, w < 7 → lenS.getD w 0 ≤ 4 := by decide
theorem iw_e (h : TX b t X T) {st n sw : Nat} (hs : st + n ≤ T) (hw : sw < 7) : m_X4_isWord b (nI st) (nI (st + n)) sw = some (bz (decide (n = lenS.getD sw 0 ∧ ∀ i, i < lenS.getD sw 0 → X (st + i) = sCh sw i))) := by
  have h60 := h.1
  have hln := lenS_le sw hw
  unfold m_X4_isWord m_sLen
  rw [gd_t hw, Option.bind_some, pk_sub (Nat.le_add_right st n), Nat.add_sub_cancel_left]
  by_cases hn : n = lenS.getD sw 0
  · rw [if_pos (by rw [hn])]
    obtain ⟨e, he, hQ⟩ := vl_totF (B := m_X4_isWord_L15 (nI st) b sw) (fun m s => ∃ y, y ≤ n ∧ m = n - y ∧ s = nI y ∧ ∀ i, i < y → X (st + i) = sCh sw i) (fun e => ex e (fun (_ : Unit) => some (1 : Int32)) (fun r_22 => some r_22) = some (bz (decide (n = lenS.getD sw 0 ∧ ∀ i, i < lenS.getD sw 0 → X (st + i) = sCh sw i)))) (by
      rintro m s ⟨y, hy, rfl, rfl, heq⟩
      unfold m_X4_isWord_L15 m_sLen m_sAt
      dsimp only [lt]
      rw [gd_t hw, Option.bind_some, ← hn]
      by_cases hyn : y = n
      · left
        subst hyn
        rw [if_pos (by rw [qle (by omega) (by omega)]; omega)]
        refine ⟨_, rfl, ?_⟩
        rw [bz_d1 ⟨rfl, heq⟩]
        rfl
      · rw [if_neg (by rw [qle (by omega) (by omega)]; omega), nI_add, ba_e h (by omega), Option.bind_some, gd_t hw, gd_in (by omega) (by omega), nI_clamp (by omega), Option.bind_some]
        by_cases hc : X (st + y) = sCh sw y
        · right
          rw [if_pos hc, nI_1]
          refine ⟨_, rfl, n - (y + 1), by omega, y + 1, by omega, rfl, rfl, fun i hi => ?_⟩
          by_cases hiy : i = y
          · rw [hiy]; exact hc
          · exact heq i (by omega)
        · left
          rw [if_neg hc]
          refine ⟨_, rfl, ?_⟩
          rw [bz_d0 (fun q => hc (q.2 y (by omega)))]
          rfl) (i := n - 0) (s := (0 : Int32)) (by omega) ⟨0, by omega, rfl, rfl, fun i hi => absurd hi (Nat.not_lt_zero i)⟩
    rw [he, Option.bind_some]
    exact hQ
  · rw [if_neg (by rw [qeq (by omega) (by omega)]; exact hn), bz_d0 (fun q => hn q.1)]
theorem wo_e (h : TX b t X T) {st n : Nat} (hs : st + n ≤ T) : m_X4_wordOf b (nI st) (nI (st + n)) = some (nI (wd X st n)) := by
  unfold m_X4_wordOf wd
  rw [iw_e h hs (by omega), iw_e h hs (by omega), iw_e h hs (by omega), iw_e h hs (by omega), iw_e h hs (by omega), iw_e h hs (by omega), iw_e h hs (by omega), WP0, WP1, WP2, WP3, WP4, WP5, WP6]
  simp only [Option.bind_some, bz_if]
  repeat' split
  all_goals rfl
end OR
