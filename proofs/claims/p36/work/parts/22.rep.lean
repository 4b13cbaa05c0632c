/-! the net as plain numbers: stations, links, source, goals; a link's lesser and greater station, its chance above and below, what it is seen as -/
abbrev ND : Type := (Nat × Nat × Nat × Nat) × (Nat → Nat) × (Nat → Nat) × (Nat → Nat) × (Nat → Nat) × (Nat → Nat)
def dN (D : ND) : Nat := D.1.1
def dL (D : ND) : Nat := D.1.2.1
def dS (D : ND) : Nat := D.1.2.2.1
def dG (D : ND) : Nat := D.1.2.2.2
def dA (D : ND) : Nat → Nat := D.2.1
def dE (D : ND) : Nat → Nat := D.2.2.1
def dP (D : ND) : Nat → Nat := D.2.2.2.1
def dQ (D : ND) : Nat → Nat := D.2.2.2.2.1
def dV (D : ND) : Nat → Nat := D.2.2.2.2.2
def okD (D : ND) : Prop := 2 ≤ dN D ∧ dN D ≤ 7 ∧ dL D ≤ 10 ∧ dS D < dN D ∧ dG D < 2 ^ dN D ∧ ∀ k, k < dL D → dA D k < dE D k ∧ dE D k < dN D ∧ 1 ≤ dQ D k ∧ dQ D k ≤ 9 ∧ dP D k ≤ dQ D k ∧ dV D k ≤ 2
def repC (b : ST) (D : ND) : Prop := b.1 0 = nI (dN D) ∧ b.1 1 = nI (dL D) ∧ b.1 2 = nI (dS D) ∧ b.1 3 = nI (dG D) ∧ (∀ k, b.2.2.1 0 k = nI (dA D k)) ∧ (∀ k, b.2.2.1 1 k = nI (dE D k)) ∧ (∀ k, b.2.2.1 2 k = nI (dP D k)) ∧ (∀ k, b.2.2.1 3 k = nI (dQ D k)) ∧ (∀ k, b.2.2.1 4 k = nI (dV D k))
/-- seven bits a station: what it is joined with by a set -/
def jnC (b : ST) (D : ND) : Prop := ∀ s, s < 2 ^ dL D → ∃ J, b.2.2.2 0 s = lN J ∧ J < 2 ^ 49 ∧ ∀ v u, v < 7 → u < 7 → J.testBit (7 * v + u) = (lab (ED (dA D) (dE D) (dL D) s) v == lab (ED (dA D) (dE D) (dL D) s) u)
theorem upI {f : Nat → Int32} {g : Nat → Nat} {k : Nat} {x : Int32} {v : Nat} (h : ∀ j, f j = nI (g j)) (hx : x = nI v) : ∀ j, upd f k x j = nI (va_up g k v j) := fun j => by
  unfold upd va_up
  split
  · exact hx
  · exact h j
theorem bz_d1 {P : Prop} {d : Decidable P} (h : P) : bz (decide P) = 1 := by rw [decide_eq_true h]; rfl
theorem bz_d0 {P : Prop} {d : Decidable P} (h : ¬ P) : bz (decide P) = 0 := by rw [decide_eq_false h]; rfl
theorem i64_0 : (0 : Int64).toInt = 0 := by decide
theorem i64_1 : (1 : Int64).toInt = 1 := by decide
theorem i64_9 : (9 : Int64).toInt = 9 := by decide
def two (x : Int32) : Bool := decide (0 ≤ x.toInt ∧ x.toInt ≤ 1)
theorem two_i {x : Int32} (h : two x = true) : x = 0 ∨ x = 1 := by
  have h := of_decide_eq_true h
  rw [fa_eq, fa_eq, show (0 : Int32).toInt = 0 from by decide, show (1 : Int32).toInt = 1 from by decide]
  omega
theorem isSide_e (x : Int32) : m_X9_isSide x = some (bz (two x)) := by
  unfold m_X9_isSide two
  simp only [fa_eq, show (0 : Int32).toInt = 0 from by decide, show (1 : Int32).toInt = 1 from by decide]
  split
  · rw [bz_d1 (by omega)]
  · split
    · rw [bz_d1 (by omega)]
    · rw [bz_d0 (by omega)]
def stn (D : ND) (x : Int64) : Bool := decide (0 ≤ x.toInt ∧ x.toInt < (dN D : Int))
def lnk (D : ND) (x : Int32) : Bool := decide (0 ≤ x.toInt ∧ x.toInt < (dL D : Int))
def chn (p q : Int64) : Bool := decide (1 ≤ q.toInt ∧ q.toInt ≤ 9 ∧ 0 ≤ p.toInt ∧ p.toInt ≤ q.toInt)
def may (D : ND) (a b p q : Int64) : Bool := stn D a && stn D b && !decide (a = b) && chn p q
theorem lnk_nI {D : ND} {k : Nat} (hk : k < dL D) (hD : okD D) : lnk D (nI k) = true := decide_eq_true (by rw [nI_toInt (by have := hD.2.2.1; omega)]; omega)
theorem lnk_of {D : ND} {x : Int32} (hD : okD D) (h : lnk D x = true) : ∃ k, k < dL D ∧ x = nI k := by
  have h := of_decide_eq_true h
  have h3 := hD.2.2.1
  obtain ⟨k, h1, h2⟩ := vp_in_of (x := x) (n := dL D) (vp_in_iff.mpr h) (by omega)
  exact ⟨k, h1, h2⟩
theorem stn_of {D : ND} {x : Int32} (hD : okD D) (h : stn D x.toInt64 = true) : ∃ k, k < dN D ∧ x = nI k := by
  have h := of_decide_eq_true h
  rw [Int32.toInt_toInt64] at h
  have h3 := hD.2.1
  obtain ⟨k, h1, h2⟩ := vp_in_of (x := x) (n := dN D) (vp_in_iff.mpr h) (by omega)
  exact ⟨k, h1, h2⟩
theorem i64_of {x : Int64} {n : Nat} (h : 0 ≤ x.toInt) (h2 : x.toInt < (n : Int)) (hn : n < 2 ^ 31) : ∃ k, k < n ∧ x = lN k := by
  obtain ⟨k, h3, h4⟩ := pk_lOf (x := x) (fun q => by rw [fa_lt64, i64_0] at q; omega)
  rw [h4, pk_lT h3] at h2
  exact ⟨k, by omega, h4⟩
theorem chn_of {p q : Int64} (h : chn p q = true) : ∃ i j, p = lN i ∧ q = lN j ∧ 1 ≤ j ∧ j ≤ 9 ∧ i ≤ j := by
  have h := of_decide_eq_true h
  obtain ⟨i, h1, h2⟩ := i64_of (x := p) (n := 10) (by omega) (by omega) (by omega)
  obtain ⟨j, h3, h4⟩ := i64_of (x := q) (n := 10) (by omega) (by omega) (by omega)
  rw [h2, h4, lN_toInt (by omega), lN_toInt (by omega)] at h
  exact ⟨i, j, h2, h4, by omega, by omega, by omega⟩
theorem i32_eq {x : Int32} {k : Nat} (hk : k < 2 ^ 31) (h : x.toInt64 = lN k) : x = nI k := by
  rw [fa_eq, nI_toInt hk, ← Int32.toInt_toInt64, h, lN_toInt hk]
theorem chn32 {p q : Int32} (h : chn p.toInt64 q.toInt64 = true) : ∃ i j, p = nI i ∧ q = nI j ∧ 1 ≤ j ∧ j ≤ 9 ∧ i ≤ j := by
  obtain ⟨i, j, h1, h2, h3, h4, h5⟩ := chn_of h
  exact ⟨i, j, i32_eq (by omega) h1, i32_eq (by omega) h2, h3, h4, h5⟩
theorem chance_e (p q : Int64) : m_X1_isChance p q = some (bz (chn p q)) := by
  unfold m_X1_isChance chn
  simp only [lg_cmp_lt, lg_cmp_gt, fa_lt64, i64_0, i64_1, i64_9]
  repeat' split
  all_goals first | (rw [bz_d0 (by omega)]; done) | (rw [bz_d1 (by omega)]; done)
section RS
variable {b t : ST} {D : ND}
theorem hs_e (h : repC b D) (hD : okD D) (x : Int64) : m_X2_hasStation b x = some (bz (stn D x)) := by
  unfold m_X2_hasStation stn
  have h2 := hD.2.1
  simp only [lg_cmp_lt, lg_cmp_ge, fa_lt64, fa_le64, i64_0, h.1, nI_l (n := dN D) (by omega), lN_toInt (n := dN D) (by omega)]
  repeat' split
  all_goals first | (rw [bz_d0 (by omega)]; done) | (rw [bz_d1 (by omega)]; done)
theorem hl_e (h : repC b D) (hD : okD D) (x : Int32) : m_X2_hasLink b x = some (bz (lnk D x)) := by
  unfold m_X2_hasLink lnk
  have h2 := hD.2.2.1
  simp only [fa_lt, fa_le, h.2.1, nI_toInt (n := dL D) (by omega), show (0 : Int32).toInt = 0 from by decide, show (10 : Int32).toInt = 10 from by decide]
  repeat' split
  all_goals first | (rw [bz_d0 (by omega)]; done) | (rw [bz_d1 (by omega)]; done)
theorem hl_k (h : repC b D) (hD : okD D) {k : Nat} (hk : k < dL D) : m_X2_hasLink b (nI k) = some 1 := by rw [hl_e h hD, lnk_nI hk hD]; rfl
theorem hr_e (h : repC b D) (hD : okD D) : m_X2_hasRoom b = some (bz (decide (dL D < 10))) := by
  unfold m_X2_hasRoom
  have h2 := hD.2.2.1
  rw [h.2.1]
  simp only [qle_10 (i := dL D) (by omega)]
  split
  · rw [bz_d0 (by omega)]
  · rw [bz_d1 (by omega)]
theorem sub1_i {n : Nat} (h : n < 2 ^ 30) : (nI n - (1 : Int32)).toInt64.toInt = (n : Int) - 1 := by rw [Int32.toInt_toInt64]; exact pk_sub_toInt h (by decide)
theorem may_e (h : repC b D) (hD : okD D) (x y p q : Int64) : m_X2_mayLink b x y p q = some (bz (may D x y p q)) := by
  unfold m_X2_mayLink may
  rw [hs_e h hD, hs_e h hD, chance_e]
  simp only [Option.bind_some, bz_if, lg_cmp_eq]
  cases stn D x <;> cases stn D y <;> cases chn p q <;> by_cases hxy : x = y <;> simp [hxy, bz]
theorem lo_e (h : repC b D) (hD : okD D) {k : Nat} (hk : k < dL D) : m_X2_lesserOf b (nI k) = some (nI (dA D k)) := by
  unfold m_X2_lesserOf
  have h2 := hD.2.2.1
  rw [hl_k h hD hk]
  simp only [Option.bind_some, show ¬ ((1 : Int32) = 0) by decide, if_false, gd_in (i := k) (N := 10) (by omega) (by omega), gd_i2 (i := k) (N := 10) (by omega) (by omega), nI_clamp (n := k) (by omega), h.2.2.2.2.1]
theorem hi_e (h : repC b D) (hD : okD D) {k : Nat} (hk : k < dL D) : m_X2_greaterOf b (nI k) = some (nI (dE D k)) := by
  unfold m_X2_greaterOf
  have h2 := hD.2.2.1
  rw [hl_k h hD hk]
  simp only [Option.bind_some, show ¬ ((1 : Int32) = 0) by decide, if_false, gd_in (i := k) (N := 10) (by omega) (by omega), gd_i2 (i := k) (N := 10) (by omega) (by omega), nI_clamp (n := k) (by omega), h.2.2.2.2.2.1]
theorem ab_e (h : repC b D) (hD : okD D) {k : Nat} (hk : k < dL D) : m_X2_aboveOf b (nI k) = some (nI (dP D k)) := by
  unfold m_X2_aboveOf
  have h2 := hD.2.2.1
  rw [hl_k h hD hk]
  simp only [Option.bind_some, show ¬ ((1 : Int32) = 0) by decide, if_false, gd_in (i := k) (N := 10) (by omega) (by omega), gd_i2 (i := k) (N := 10) (by omega) (by omega), nI_clamp (n := k) (by omega), h.2.2.2.2.2.2.1]
theorem be_e (h : repC b D) (hD : okD D) {k : Nat} (hk : k < dL D) : m_X2_belowOf b (nI k) = some (nI (dQ D k)) := by
  unfold m_X2_belowOf
  have h2 := hD.2.2.1
  rw [hl_k h hD hk]
  simp only [Option.bind_some, show ¬ ((1 : Int32) = 0) by decide, if_false, gd_in (i := k) (N := 10) (by omega) (by omega), gd_i2 (i := k) (N := 10) (by omega) (by omega), nI_clamp (n := k) (by omega), h.2.2.2.2.2.2.2.1]
theorem se_e (h : repC b D) (hD : okD D) {k : Nat} (hk : k < dL D) : m_X2_seenOf b (nI k) = some (nI (dV D k)) := by
  unfold m_X2_seenOf
  have h2 := hD.2.2.1
  rw [hl_k h hD hk]
  simp only [Option.bind_some, show ¬ ((1 : Int32) = 0) by decide, if_false, gd_in (i := k) (N := 10) (by omega) (by omega), gd_i2 (i := k) (N := 10) (by omega) (by omega), nI_clamp (n := k) (by omega), h.2.2.2.2.2.2.2.2]
/-- the chance as it is seen: above, below -/
def uP (D : ND) (k : Nat) : Nat := if dV D k = 0 then dP D k else if dV D k = 1 then 1 else 0
def wP (D : ND) (k : Nat) : Nat := if dV D k = 0 then dQ D k else 1
theorem uP_le (hD : okD D) {k : Nat} (hk : k < dL D) : uP D k ≤ wP D k ∧ 1 ≤ wP D k ∧ wP D k ≤ 9 := by
  have h := hD.2.2.2.2.2 k hk
  unfold uP wP
  repeat' split
  all_goals omega
theorem up_e (h : repC b D) (hD : okD D) {k : Nat} (hk : k < dL D) : m_X2_upParts b (nI k) = some (nI (uP D k)) := by
  unfold m_X2_upParts uP
  have h2 := hD.2.2.2.2.2 k hk
  rw [se_e h hD hk, ab_e h hD hk]
  simp only [Option.bind_some, qeq_0 (i := dV D k) (by omega), qeq_1 (i := dV D k) (by omega)]
  repeat' split
  all_goals rfl
theorem wh_e (h : repC b D) (hD : okD D) {k : Nat} (hk : k < dL D) : m_X2_wholeParts b (nI k) = some (nI (wP D k)) := by
  unfold m_X2_wholeParts wP
  have h2 := hD.2.2.2.2.2 k hk
  rw [se_e h hD hk, be_e h hD hk]
  simp only [Option.bind_some, qeq_0 (i := dV D k) (by omega)]
  repeat' split
  all_goals rfl
theorem al_e (h : repC b D) (hD : okD D) : m_X2_allLinks b = some (nI (2 ^ dL D - 1)) := by
  unfold m_X2_allLinks lt
  have h2 := hD.2.2.1
  rw [h.2.1, shl_m (dL D) (by omega)]
theorem as_e (h : repC b D) (hD : okD D) : m_X2_allStations b = some (nI (2 ^ dN D - 1)) := by
  unfold m_X2_allStations lt
  have h2 := hD.2.1
  rw [h.1, shl_m (dN D) (by omega)]
/-- what is wanted, as bits -/
def dW (D : ND) : Nat := dG D ||| 2 ^ dS D
theorem dW_lt (hD : okD D) : dW D < 2 ^ dN D := or_lt hD.2.2.2.2.1 (Nat.pow_lt_pow_right (by decide) hD.2.2.2.1)
theorem dW_lt7 (hD : okD D) : dW D < 128 := Nat.lt_of_lt_of_le (dW_lt hD) (Nat.pow_le_pow_right (by decide) hD.2.1)
theorem wa_e (h : repC b D) (hD : okD D) : m_X2_wantedStations b = some (nI (dW D)) := by
  unfold m_X2_wantedStations lt dW
  have h2 := hD.2.1
  have h3 := hD.2.2.2.1
  rw [h.2.2.2.1, h.2.2.1, shl_1 (dS D) (by omega), fa_or]
end RS
/-! the plain acts -/
section PA
variable {b t : ST} {D : ND}
end PA
