/-! the net as plain numbers: stations, links, source, goals; a link's lesser and greater station, its chance above and below, what it is seen as -/
abbrev ND : Type := (Nat × Nat × Nat × Nat) × (Nat → Nat) × (Nat → Nat) × (Nat → Nat) × (Nat → Nat) × (Nat → Nat)
def dN (D : ND) : Nat := D.1.1
def dL (D : ND) : Nat := D.1.2.1
def dS (D : ND) : Nat := D.1.2.2.1
def dG (D : ND) : Nat := D.1.2.2.2
def dA (D : ND) : Nat → Nat := D.2.1
def dE (D : ND) : Nat → Nat := D.2.2.1
def dP (D : ND) : Nat → Nat := D.2.2.2.1
def dQ (D : ND) : Nat → Nat := D.2.2.2.2.1
def dV (D : ND) : Nat → Nat := D.2.2.2.2.2
def okD (D : ND) : Prop := 2 ≤ dN D ∧ dN D ≤ 7 ∧ dL D ≤ 10 ∧ dS D < dN D ∧ dG D < 2 ^ dN D ∧ ∀ k, k < dL D → dA D k < dE D k ∧ dE D k < dN D ∧ 1 ≤ dQ D k ∧ dQ D k ≤ 9 ∧ dP D k ≤ dQ D k ∧ dV D k ≤ 2
def repC (b : ST) (D : ND) : Prop := b.1 0 = nI (dN D) ∧ b.1 1 = nI (dL D) ∧ b.1 2 = nI (dS D) ∧ b.1 3 = nI (dG D) ∧ (∀ k, b.2.2.1 0 k = nI (dA D k)) ∧ (∀ k, b.2.2.1 1 k = nI (dE D k)) ∧ (∀ k, b.2.2.1 2 k = nI (dP D k)) ∧ (∀ k, b.2.2.1 3 k = nI (dQ D k)) ∧ (∀ k, b.2.2.1 4 k = nI (dV D k))
def repM (t : ST) (D : ND) : Prop := t.1 1 = nI (dN D) ∧ t.1 4 = nI (dL D) ∧ t.1 2 = nI (dS D) ∧ t.1 3 = nI (dG D) ∧ (∀ k, t.2.2.1 1 k = nI (dA D k)) ∧ (∀ k, t.2.2.1 2 k = nI (dE D k)) ∧ (∀ k, t.2.2.1 3 k = nI (dP D k)) ∧ (∀ k, t.2.2.1 4 k = nI (dQ D k)) ∧ (∀ k, t.2.2.1 5 k = nI (dV D k))
/-- seven bits a station: what it is joined with by a set -/
def jnC (b : ST) (D : ND) : Prop := ∀ s, s < 2 ^ dL D → ∃ J, b.2.2.2 0 s = lN J ∧ J < 2 ^ 49 ∧ ∀ v u, v < 7 → u < 7 → J.testBit (7 * v + u) = (lab (ED (dA D) (dE D) (dL D) s) v == lab (ED (dA D) (dE D) (dL D) s) u)
def txt (b t : ST) : Prop := (∃ n, n ≤ 60 ∧ b.1 7 = nI n ∧ t.1 9 = nI n) ∧ (∀ k, b.2.2.1 6 k = t.2.2.1 15 k) ∧ b.1 8 = t.1 10
def shs (b t : ST) : Prop := b.1 9 = t.1 0 ∧ (∀ s, s < 3 → b.2.2.1 7 s = t.2.2.1 0 s ∧ (b.2.2.1 7 s = -1 ∨ ∃ m, m ≤ 40 ∧ b.2.2.1 7 s = nI m)) ∧ ∀ s i, s < 3 → i < 40 → b.2.2.2 (3 + s) i = t.2.2.2 0 (40 * s + i)
/-- the class and the model stand alike -/
def INV (b t : ST) (D : ND) : Prop := okD D ∧ repC b D ∧ repM t D ∧ jnC b D ∧ txt b t ∧ shs b t
theorem upI {f : Nat → Int32} {g : Nat → Nat} {k : Nat} {x : Int32} {v : Nat} (h : ∀ j, f j = nI (g j)) (hx : x = nI v) : ∀ j, upd f k x j = nI (va_up g k v j) := fun j => by
  unfold upd va_up
  split
  · exact hx
  · exact h j
theorem bz_d1 {P : Prop} {d : Decidable P} (h : P) : bz (decide P) = 1 := by rw [decide_eq_true h]; rfl
theorem bz_d0 {P : Prop} {d : Decidable P} (h : ¬ P) : bz (decide P) = 0 := by rw [decide_eq_false h]; rfl
theorem i64_0 : (0 : Int64).toInt = 0 := by decide
theorem i64_1 : (1 : Int64).toInt = 1 := by decide
theorem i64_2 : (2 : Int64).toInt = 2 := by decide
theorem i64_4 : (4 : Int64).toInt = 4 := by decide
theorem i64_7 : (7 : Int64).toInt = 7 := by decide
theorem i64_9 : (9 : Int64).toInt = 9 := by decide
theorem i64_48 : (48 : Int64).toInt = 48 := by decide
theorem i64_57 : (57 : Int64).toInt = 57 := by decide
theorem i64_97 : (97 : Int64).toInt = 97 := by decide
theorem i64_99 : (99 : Int64).toInt = 99 := by decide
theorem i64_122 : (122 : Int64).toInt = 122 := by decide
theorem i64_255 : (255 : Int64).toInt = 255 := by decide
theorem in_e (x lo hi : Int64) : m_X10_in x lo hi = some (bz (decide (lo.toInt ≤ x.toInt ∧ x.toInt ≤ hi.toInt))) := by
  unfold m_X10_in
  simp only [lg_cmp_lt, lg_cmp_gt, fa_lt64]
  split
  · rw [bz_d0 (by omega)]
  · split
    · rw [bz_d0 (by omega)]
    · rw [bz_d1 (by omega)]
def two (x : Int32) : Bool := decide (0 ≤ x.toInt ∧ x.toInt ≤ 1)
theorem two_i {x : Int32} (h : two x = true) : x = 0 ∨ x = 1 := by
  have h := of_decide_eq_true h
  rw [fa_eq, fa_eq, show (0 : Int32).toInt = 0 from by decide, show (1 : Int32).toInt = 1 from by decide]
  omega
theorem isTwo_e (x : Int32) : m_X10_isTwo x = some (bz (two x)) := by
  unfold m_X10_isTwo
  rw [in_e, i64_0, i64_1, Int32.toInt_toInt64]
  exact bz_gd _ _
theorem isSide_e (x : Int32) : m_X9_isSide x = some (bz (two x)) := by
  unfold m_X9_isSide two
  simp only [fa_eq, show (0 : Int32).toInt = 0 from by decide, show (1 : Int32).toInt = 1 from by decide]
  split
  · rw [bz_d1 (by omega)]
  · split
    · rw [bz_d1 (by omega)]
    · rw [bz_d0 (by omega)]
def stn (D : ND) (x : Int64) : Bool := decide (0 ≤ x.toInt ∧ x.toInt < (dN D : Int))
def lnk (D : ND) (x : Int32) : Bool := decide (0 ≤ x.toInt ∧ x.toInt < (dL D : Int))
def chn (p q : Int64) : Bool := decide (1 ≤ q.toInt ∧ q.toInt ≤ 9 ∧ 0 ≤ p.toInt ∧ p.toInt ≤ q.toInt)
def may (D : ND) (a b p q : Int64) : Bool := stn D a && stn D b && !decide (a = b) && chn p q
theorem lnk_nI {D : ND} {k : Nat} (hk : k < dL D) (hD : okD D) : lnk D (nI k) = true := decide_eq_true (by rw [nI_toInt (by have := hD.2.2.1; omega)]; omega)
theorem lnk_of {D : ND} {x : Int32} (hD : okD D) (h : lnk D x = true) : ∃ k, k < dL D ∧ x = nI k := by
  have h := of_decide_eq_true h
  have h3 := hD.2.2.1
  obtain ⟨k, h1, h2⟩ := vp_in_of (x := x) (n := dL D) (vp_in_iff.mpr h) (by omega)
  exact ⟨k, h1, h2⟩
theorem stn_of {D : ND} {x : Int32} (hD : okD D) (h : stn D x.toInt64 = true) : ∃ k, k < dN D ∧ x = nI k := by
  have h := of_decide_eq_true h
  rw [Int32.toInt_toInt64] at h
  have h3 := hD.2.1
  obtain ⟨k, h1, h2⟩ := vp_in_of (x := x) (n := dN D) (vp_in_iff.mpr h) (by omega)
  exact ⟨k, h1, h2⟩
theorem i64_of {x : Int64} {n : Nat} (h : 0 ≤ x.toInt) (h2 : x.toInt < (n : Int)) (hn : n < 2 ^ 31) : ∃ k, k < n ∧ x = lN k := by
  obtain ⟨k, h3, h4⟩ := pk_lOf (x := x) (fun q => by rw [fa_lt64, i64_0] at q; omega)
  rw [h4, pk_lT h3] at h2
  exact ⟨k, by omega, h4⟩
theorem chn_of {p q : Int64} (h : chn p q = true) : ∃ i j, p = lN i ∧ q = lN j ∧ 1 ≤ j ∧ j ≤ 9 ∧ i ≤ j := by
  have h := of_decide_eq_true h
  obtain ⟨i, h1, h2⟩ := i64_of (x := p) (n := 10) (by omega) (by omega) (by omega)
  obtain ⟨j, h3, h4⟩ := i64_of (x := q) (n := 10) (by omega) (by omega) (by omega)
  rw [h2, h4, lN_toInt (by omega), lN_toInt (by omega)] at h
  exact ⟨i, j, h2, h4, by omega, by omega, by omega⟩
theorem i32_eq {x : Int32} {k : Nat} (hk : k < 2 ^ 31) (h : x.toInt64 = lN k) : x = nI k := by
  rw [fa_eq, nI_toInt hk, ← Int32.toInt_toInt64, h, lN_toInt hk]
theorem chn32 {p q : Int32} (h : chn p.toInt64 q.toInt64 = true) : ∃ i j, p = nI i ∧ q = nI j ∧ 1 ≤ j ∧ j ≤ 9 ∧ i ≤ j := by
  obtain ⟨i, j, h1, h2, h3, h4, h5⟩ := chn_of h
  exact ⟨i, j, i32_eq (by omega) h1, i32_eq (by omega) h2, h3, h4, h5⟩
theorem chance_e (p q : Int64) : m_X1_isChance p q = some (bz (chn p q)) := by
  unfold m_X1_isChance chn
  simp only [lg_cmp_lt, lg_cmp_gt, fa_lt64, i64_0, i64_1, i64_9]
  repeat' split
  all_goals first | (rw [bz_d0 (by omega)]; done) | (rw [bz_d1 (by omega)]; done)
theorem chanceM_e (p q : Int64) : m_X10_isChance p q = some (bz (chn p q)) := by
  unfold m_X10_isChance
  rw [in_e, in_e, i64_0, i64_1, i64_9]
  simp only [Option.bind_some, bz_if, decide_eq_true_eq]
  unfold chn
  repeat' split
  all_goals first | (rw [bz_d0 (by omega)]; done) | (rw [bz_d1 (by omega)]; done)
section RS
variable {b t : ST} {D : ND}
theorem hs_e (h : repC b D) (hD : okD D) (x : Int64) : m_X2_hasStation b x = some (bz (stn D x)) := by
  unfold m_X2_hasStation stn
  have h2 := hD.2.1
  simp only [lg_cmp_lt, lg_cmp_ge, fa_lt64, fa_le64, i64_0, h.1, nI_l (n := dN D) (by omega), lN_toInt (n := dN D) (by omega)]
  repeat' split
  all_goals first | (rw [bz_d0 (by omega)]; done) | (rw [bz_d1 (by omega)]; done)
theorem hl_e (h : repC b D) (hD : okD D) (x : Int32) : m_X2_hasLink b x = some (bz (lnk D x)) := by
  unfold m_X2_hasLink lnk
  have h2 := hD.2.2.1
  simp only [fa_lt, fa_le, h.2.1, nI_toInt (n := dL D) (by omega), show (0 : Int32).toInt = 0 from by decide, show (10 : Int32).toInt = 10 from by decide]
  repeat' split
  all_goals first | (rw [bz_d0 (by omega)]; done) | (rw [bz_d1 (by omega)]; done)
theorem hl_k (h : repC b D) (hD : okD D) {k : Nat} (hk : k < dL D) : m_X2_hasLink b (nI k) = some 1 := by rw [hl_e h hD, lnk_nI hk hD]; rfl
theorem hr_e (h : repC b D) (hD : okD D) : m_X2_hasRoom b = some (bz (decide (dL D < 10))) := by
  unfold m_X2_hasRoom
  have h2 := hD.2.2.1
  rw [h.2.1]
  simp only [qle_10 (i := dL D) (by omega)]
  split
  · rw [bz_d0 (by omega)]
  · rw [bz_d1 (by omega)]
theorem sub1_i {n : Nat} (h : n < 2 ^ 30) : (nI n - (1 : Int32)).toInt64.toInt = (n : Int) - 1 := by rw [Int32.toInt_toInt64]; exact pk_sub_toInt h (by decide)
theorem isStation_e (h : repM t D) (hD : okD D) (x : Int64) : m_X10_isStation t x = some (bz (stn D x)) := by
  unfold m_X10_isStation
  have h2 := hD.2.1
  rw [in_e, h.1, sub1_i (by omega), i64_0]
  refine (bz_gd _ _).trans ?_
  unfold stn
  exact congrArg (fun q => some (bz q)) (decide_eq_decide.mpr (by omega))
theorem isLink_e (h : repM t D) (hD : okD D) (x : Int32) : m_X10_isLink t x = some (bz (lnk D x)) := by
  unfold m_X10_isLink
  have h2 := hD.2.2.1
  rw [in_e, h.2.1, sub1_i (by omega), i64_0, Int32.toInt_toInt64]
  refine (bz_gd _ _).trans ?_
  unfold lnk
  exact congrArg (fun q => some (bz q)) (decide_eq_decide.mpr (by omega))
theorem may_e (h : repC b D) (hD : okD D) (x y p q : Int64) : m_X2_mayLink b x y p q = some (bz (may D x y p q)) := by
  unfold m_X2_mayLink may
  rw [hs_e h hD, hs_e h hD, chance_e]
  simp only [Option.bind_some, bz_if, lg_cmp_eq]
  cases stn D x <;> cases stn D y <;> cases chn p q <;> by_cases hxy : x = y <;> simp [hxy, bz]
theorem mayM_e (h : repM t D) (hD : okD D) (x y p q : Int64) : m_X10_mayLink t x y p q = some (bz (may D x y p q)) := by
  unfold m_X10_mayLink may
  rw [isStation_e h hD, isStation_e h hD, chanceM_e]
  simp only [Option.bind_some, bz_if, lg_cmp_eq]
  cases stn D x <;> cases stn D y <;> cases chn p q <;> by_cases hxy : x = y <;> simp [hxy, bz]
theorem lo_e (h : repC b D) (hD : okD D) {k : Nat} (hk : k < dL D) : m_X2_lesserOf b (nI k) = some (nI (dA D k)) := by
  unfold m_X2_lesserOf
  have h2 := hD.2.2.1
  rw [hl_k h hD hk]
  simp only [Option.bind_some, show ¬ ((1 : Int32) = 0) by decide, if_false, gd_in (i := k) (N := 10) (by omega) (by omega), gd_i2 (i := k) (N := 10) (by omega) (by omega), nI_clamp (n := k) (by omega), h.2.2.2.2.1]
theorem hi_e (h : repC b D) (hD : okD D) {k : Nat} (hk : k < dL D) : m_X2_greaterOf b (nI k) = some (nI (dE D k)) := by
  unfold m_X2_greaterOf
  have h2 := hD.2.2.1
  rw [hl_k h hD hk]
  simp only [Option.bind_some, show ¬ ((1 : Int32) = 0) by decide, if_false, gd_in (i := k) (N := 10) (by omega) (by omega), gd_i2 (i := k) (N := 10) (by omega) (by omega), nI_clamp (n := k) (by omega), h.2.2.2.2.2.1]
theorem ab_e (h : repC b D) (hD : okD D) {k : Nat} (hk : k < dL D) : m_X2_aboveOf b (nI k) = some (nI (dP D k)) := by
  unfold m_X2_aboveOf
  have h2 := hD.2.2.1
  rw [hl_k h hD hk]
  simp only [Option.bind_some, show ¬ ((1 : Int32) = 0) by decide, if_false, gd_in (i := k) (N := 10) (by omega) (by omega), gd_i2 (i := k) (N := 10) (by omega) (by omega), nI_clamp (n := k) (by omega), h.2.2.2.2.2.2.1]
theorem be_e (h : repC b D) (hD : okD D) {k : Nat} (hk : k < dL D) : m_X2_belowOf b (nI k) = some (nI (dQ D k)) := by
  unfold m_X2_belowOf
  have h2 := hD.2.2.1
  rw [hl_k h hD hk]
  simp only [Option.bind_some, show ¬ ((1 : Int32) = 0) by decide, if_false, gd_in (i := k) (N := 10) (by omega) (by omega), gd_i2 (i := k) (N := 10) (by omega) (by omega), nI_clamp (n := k) (by omega), h.2.2.2.2.2.2.2.1]
theorem se_e (h : repC b D) (hD : okD D) {k : Nat} (hk : k < dL D) : m_X2_seenOf b (nI k) = some (nI (dV D k)) := by
  unfold m_X2_seenOf
  have h2 := hD.2.2.1
  rw [hl_k h hD hk]
  simp only [Option.bind_some, show ¬ ((1 : Int32) = 0) by decide, if_false, gd_in (i := k) (N := 10) (by omega) (by omega), gd_i2 (i := k) (N := 10) (by omega) (by omega), nI_clamp (n := k) (by omega), h.2.2.2.2.2.2.2.2]
/-- the chance as it is seen: above, below -/
def uP (D : ND) (k : Nat) : Nat := if dV D k = 0 then dP D k else if dV D k = 1 then 1 else 0
def wP (D : ND) (k : Nat) : Nat := if dV D k = 0 then dQ D k else 1
theorem uP_le (hD : okD D) {k : Nat} (hk : k < dL D) : uP D k ≤ wP D k ∧ 1 ≤ wP D k ∧ wP D k ≤ 9 := by
  have h := hD.2.2.2.2.2 k hk
  unfold uP wP
  repeat' split
  all_goals omega
theorem up_e (h : repC b D) (hD : okD D) {k : Nat} (hk : k < dL D) : m_X2_upParts b (nI k) = some (nI (uP D k)) := by
  unfold m_X2_upParts uP
  have h2 := hD.2.2.2.2.2 k hk
  rw [se_e h hD hk, ab_e h hD hk]
  simp only [Option.bind_some, qeq_0 (i := dV D k) (by omega), qeq_1 (i := dV D k) (by omega)]
  repeat' split
  all_goals rfl
theorem wh_e (h : repC b D) (hD : okD D) {k : Nat} (hk : k < dL D) : m_X2_wholeParts b (nI k) = some (nI (wP D k)) := by
  unfold m_X2_wholeParts wP
  have h2 := hD.2.2.2.2.2 k hk
  rw [se_e h hD hk, be_e h hD hk]
  simp only [Option.bind_some, qeq_0 (i := dV D k) (by omega)]
  repeat' split
  all_goals rfl
theorem al_e (h : repC b D) (hD : okD D) : m_X2_allLinks b = some (nI (2 ^ dL D - 1)) := by
  unfold m_X2_allLinks lt
  have h2 := hD.2.2.1
  rw [h.2.1, shl_m (dL D) (by omega)]
theorem as_e (h : repC b D) (hD : okD D) : m_X2_allStations b = some (nI (2 ^ dN D - 1)) := by
  unfold m_X2_allStations lt
  have h2 := hD.2.1
  rw [h.1, shl_m (dN D) (by omega)]
/-- what is wanted, as bits -/
def dW (D : ND) : Nat := dG D ||| 2 ^ dS D
theorem dW_lt (hD : okD D) : dW D < 2 ^ dN D := or_lt hD.2.2.2.2.1 (Nat.pow_lt_pow_right (by decide) hD.2.2.2.1)
theorem dW_lt7 (hD : okD D) : dW D < 128 := Nat.lt_of_lt_of_le (dW_lt hD) (Nat.pow_le_pow_right (by decide) hD.2.1)
theorem wa_e (h : repC b D) (hD : okD D) : m_X2_wantedStations b = some (nI (dW D)) := by
  unfold m_X2_wantedStations lt dW
  have h2 := hD.2.1
  have h3 := hD.2.2.2.1
  rw [h.2.2.2.1, h.2.2.1, shl_1 (dS D) (by omega), fa_or]
theorem waM_e (h : repM t D) (hD : okD D) : m_X10_wanted t = some (nI (dW D)) := by
  unfold m_X10_wanted lt dW
  have h2 := hD.2.1
  have h3 := hD.2.2.2.1
  rw [h.2.2.2.1, h.2.2.1, shl_1 (dS D) (by omega), fa_or]
end RS
/-! the plain acts -/
/-- class and model answer alike, and stand alike behind it -/
def SIM {α : Type} (c : Option (α × ST)) (m : Option (α × ST)) : Prop := ∃ r b t D, c = some (r, b) ∧ m = some (r, t) ∧ INV b t D
theorem SIM.mk {α : Type} {c m : Option (α × ST)} {r : α} {b t : ST} {D : ND} (h1 : c = some (r, b)) (h2 : m = some (r, t)) (h : INV b t D) : SIM c m := ⟨r, b, t, D, h1, h2, h⟩
section PA
variable {b t : ST} {D : ND}
theorem s_stations (h : INV b t D) (x : Int32) : SIM (m_X9_stations b x) (m_X10_stations t x) := by
  obtain ⟨hD, hC, hM, hJ, hT, hS⟩ := h
  unfold m_X9_stations m_X10_stations m_X2_stationCount m_X2_renew
  rw [in_e, i64_2, i64_7, Int32.toInt_toInt64]
  simp only [Option.bind_some, bz_if, decide_eq_true_eq, lt]
  by_cases hx : 2 ≤ x.toInt ∧ x.toInt ≤ 7
  · obtain ⟨n, hn, rfl⟩ := vp_in_of (x := x) (n := 8) (vp_in_iff.mpr ⟨by omega, by omega⟩) (by decide)
    rw [nI_toInt (by omega)] at hx
    rw [if_neg (by rw [qlt_2 (by omega)]; omega), if_pos (by rw [qge_7 (by omega)]; omega), if_pos (by rw [nI_toInt (by omega)]; omega)]
    rw [hC.1, hM.1]
    refine SIM.mk (D := ((n, 0, 0, 0), D.2)) rfl rfl ?_
    refine ⟨⟨by show 2 ≤ n; omega, by show n ≤ 7; omega, by show 0 ≤ 10; omega, by show 0 < n; omega, Nat.two_pow_pos _, fun k hk => absurd hk (Nat.not_lt_zero k)⟩, ⟨rfl, rfl, rfl, rfl, hC.2.2.2.2⟩, ⟨rfl, rfl, rfl, rfl, hM.2.2.2.2⟩, ?_, hT, hS⟩
    intro s hs
    have hs0 : s = 0 := by
      have : s < 1 := hs
      omega
    subst hs0
    obtain ⟨J, h1, h2, h3⟩ := hJ 0 (Nat.two_pow_pos _)
    refine ⟨J, h1, h2, fun v u hv hu => ?_⟩
    rw [h3 v u hv hu]
    have he : ED (dA D) (dE D) (dL D) 0 = [] := by
      generalize dL D = n
      induction n with
      | zero => rfl
      | succ n ih => unfold ED; rw [if_neg (by simp), ih]
    rw [he]
    rfl
  · have hc : SIM (some ((-2 : Int32), b)) (some ((-2 : Int32), t)) := SIM.mk rfl rfl ⟨hD, hC, hM, hJ, hT, hS⟩
    rw [if_neg (show ¬ (2 ≤ x.toInt ∧ x.toInt ≤ 7) from hx)]
    simp only [fa_lt, fa_le, show (2 : Int32).toInt = 2 from by decide, show (7 : Int32).toInt = 7 from by decide]
    split
    · exact hc
    · rw [if_neg (by omega)]; exact hc
theorem s_back (h : INV b t D) : SIM (m_X9_back b) (m_X10_back t) := by
  obtain ⟨hD, hC, hM, hJ, hT, hS⟩ := h
  have hL := hD.2.2.1
  unfold m_X9_back m_X10_back m_X2_linkCount m_X2_dropLast
  rw [hC.2.1, hM.2.1]
  simp only [Option.bind_some, qeq_0 (i := dL D) (by omega), qge_0 (i := dL D) (by omega)]
  by_cases h0 : dL D = 0
  · rw [if_pos h0, if_pos h0]; exact SIM.mk rfl rfl ⟨hD, hC, hM, hJ, hT, hS⟩
  · rw [if_neg h0, if_neg h0, if_neg (show ¬ dL D ≤ 0 by omega)]
    have h1 : nI (dL D) - (1 : Int32) = nI (dL D - 1) := pk_sub (show 1 ≤ dL D by omega)
    simp only [lt, Option.bind_some, un, h1]
    refine SIM.mk (D := ((dN D, dL D - 1, dS D, dG D), D.2)) rfl rfl ⟨⟨hD.1, hD.2.1, by show dL D - 1 ≤ 10; omega, hD.2.2.2.1, hD.2.2.2.2.1, fun k hk => hD.2.2.2.2.2 k (by have : k < dL D - 1 := hk; omega)⟩, ⟨hC.1, rfl, hC.2.2.1, hC.2.2.2.1, hC.2.2.2.2⟩, ⟨hM.1, rfl, hM.2.2.1, hM.2.2.2.1, hM.2.2.2.2⟩, ?_, hT, hS⟩
    intro s hs
    have hs : s < 2 ^ (dL D - 1) := hs
    have hp : dL D = (dL D - 1) + 1 := by omega
    obtain ⟨J, k1, k2, k3⟩ := hJ s (Nat.lt_of_lt_of_le hs (Nat.pow_le_pow_right (by decide) (by omega)))
    have he : ED (dA D) (dE D) (dL D) s = ED (dA D) (dE D) (dL D - 1) s := by
      have h2 : ED (dA D) (dE D) (dL D - 1 + 1) s = ED (dA D) (dE D) (dL D - 1) s := by
        show (if s.testBit (dL D - 1) = true then _ else _) = _
        rw [if_neg (by rw [Nat.testBit_lt_two_pow hs]; decide)]
      rw [← hp] at h2
      exact h2
    rw [he] at k3
    exact ⟨J, k1, k2, k3⟩
theorem s_source (h : INV b t D) (x : Int32) : SIM (m_X9_source b x) (m_X10_source t x) := by
  obtain ⟨hD, hC, hM, hJ, hT, hS⟩ := h
  unfold m_X9_source m_X10_source m_X2_sourceStation m_X2_setSource
  rw [hs_e hC hD, isStation_e hM hD]
  simp only [Option.bind_some, bz_if, lt]
  cases hx : stn D x.toInt64
  · exact SIM.mk rfl rfl ⟨hD, hC, hM, hJ, hT, hS⟩
  · obtain ⟨k, hk, rfl⟩ := stn_of hD hx
    simp only [if_true]
    rw [hC.2.2.1, hM.2.2.1]
    refine SIM.mk (D := ((dN D, dL D, k, dG D), D.2)) rfl rfl ?_
    exact ⟨⟨hD.1, hD.2.1, hD.2.2.1, hk, hD.2.2.2.2.1, hD.2.2.2.2.2⟩, ⟨hC.1, hC.2.1, rfl, hC.2.2.2.1, hC.2.2.2.2⟩, ⟨hM.1, hM.2.1, rfl, hM.2.2.2.1, hM.2.2.2.2⟩, hJ, hT, hS⟩
theorem s_goals (h : INV b t D) (x : Int32) : SIM (m_X9_goals b x) (m_X10_goals t x) := by
  obtain ⟨hD, hC, hM, hJ, hT, hS⟩ := h
  have hp : 2 ^ dN D ≤ 2 ^ 7 := Nat.pow_le_pow_right (by decide) hD.2.1
  have hp0 := Nat.two_pow_pos (dN D)
  have hN := hD.2.1
  unfold m_X9_goals m_X10_goals m_X2_goalBits m_X2_setGoals
  rw [as_e hC hD, hM.1, shl_m (dN D) (by omega)]
  simp only [lt, in_e, i64_0, Option.bind_some, bz_if, decide_eq_true_eq, Int32.toInt_toInt64, nI_toInt (n := 2 ^ dN D - 1) (by omega), fa_lt, fa_le, show (0 : Int32).toInt = 0 from by decide]
  by_cases hx : 0 ≤ x.toInt ∧ x.toInt ≤ ((2 ^ dN D - 1 : Nat) : Int)
  · obtain ⟨n, hn, rfl⟩ := vp_in_of (x := x) (n := 2 ^ dN D) (vp_in_iff.mpr ⟨hx.1, by omega⟩) (by omega)
    rw [if_neg (by omega), if_pos hx.2, if_pos hx]
    rw [hC.2.2.2.1, hM.2.2.2.1]
    refine SIM.mk (D := ((dN D, dL D, dS D, n), D.2)) rfl rfl ?_
    exact ⟨⟨hD.1, hD.2.1, hD.2.2.1, hD.2.2.2.1, hn, hD.2.2.2.2.2⟩, ⟨hC.1, hC.2.1, hC.2.2.1, rfl, hC.2.2.2.2⟩, ⟨hM.1, hM.2.1, hM.2.2.1, rfl, hM.2.2.2.2⟩, hJ, hT, hS⟩
  · rw [if_neg hx]
    have hc : SIM (some ((-2 : Int32), b)) (some ((-2 : Int32), t)) := SIM.mk rfl rfl ⟨hD, hC, hM, hJ, hT, hS⟩
    split
    · exact hc
    · rw [if_neg (by omega)]; exact hc
theorem s_see (h : INV b t D) (x v : Int32) : SIM (m_X9_see b x v) (m_X10_see t x v) := by
  obtain ⟨hD, hC, hM, hJ, hT, hS⟩ := h
  have hL := hD.2.2.1
  unfold m_X9_see m_X10_see m_X2_setSeen
  rw [hl_e hC hD, isLink_e hM hD, in_e, i64_0, i64_2, Int32.toInt_toInt64]
  simp only [Option.bind_some, bz_if, lt, decide_eq_true_eq, fa_lt, fa_le, show (0 : Int32).toInt = 0 from by decide, show (2 : Int32).toInt = 2 from by decide]
  have hc : SIM (some ((-2 : Int32), b)) (some ((-2 : Int32), t)) := SIM.mk rfl rfl ⟨hD, hC, hM, hJ, hT, hS⟩
  cases hx : lnk D x
  · exact hc
  · obtain ⟨k, hk, rfl⟩ := lnk_of hD hx
    simp only [if_true]
    by_cases hv : 0 ≤ v.toInt ∧ v.toInt ≤ 2
    · obtain ⟨n, hn, rfl⟩ := vp_in_of (x := v) (n := 3) (vp_in_iff.mpr ⟨by omega, by omega⟩) (by decide)
      rw [if_neg (show ¬ (nI n).toInt < 0 by omega), if_pos hv.2, if_pos hv, se_e hC hD hk]
      simp only [Option.bind_some, gd_in (i := k) (N := 10) (by omega) (by omega), gd_i3 (i := k) (N := 10) (by omega) (by omega), nI_clamp (n := k) (by omega), hM.2.2.2.2.2.2.2.2]
      refine SIM.mk (D := ((dN D, dL D, dS D, dG D), dA D, dE D, dP D, dQ D, va_up (dV D) k n)) rfl rfl ?_
      exact ⟨⟨hD.1, hD.2.1, hD.2.2.1, hD.2.2.2.1, hD.2.2.2.2.1, fun j hj => by
        have h1 := hD.2.2.2.2.2 j hj
        refine ⟨h1.1, h1.2.1, h1.2.2.1, h1.2.2.2.1, h1.2.2.2.2.1, ?_⟩
        show va_up (dV D) k n j ≤ 2
        unfold va_up
        split
        · omega
        · exact h1.2.2.2.2.2⟩, ⟨hC.1, hC.2.1, hC.2.2.1, hC.2.2.2.1, hC.2.2.2.2.1, hC.2.2.2.2.2.1, hC.2.2.2.2.2.2.1, hC.2.2.2.2.2.2.2.1, upI hC.2.2.2.2.2.2.2.2 rfl⟩, ⟨hM.1, hM.2.1, hM.2.2.1, hM.2.2.2.1, hM.2.2.2.2.1, hM.2.2.2.2.2.1, hM.2.2.2.2.2.2.1, hM.2.2.2.2.2.2.2.1, upI hM.2.2.2.2.2.2.2.2 rfl⟩, hJ, hT, hS⟩
    · rw [if_neg hv]
      split
      · exact hc
      · rw [if_neg (by omega)]; exact hc
theorem s_chance (h : INV b t D) (x p q : Int32) : SIM (m_X9_chance b x p q) (m_X10_chance t x p q) := by
  obtain ⟨hD, hC, hM, hJ, hT, hS⟩ := h
  have hL := hD.2.2.1
  unfold m_X9_chance m_X10_chance m_X2_setChance
  rw [hl_e hC hD, isLink_e hM hD, chance_e, chanceM_e]
  simp only [Option.bind_some, bz_if, lt]
  have hc : SIM (some ((-2 : Int32), b)) (some ((-2 : Int32), t)) := SIM.mk rfl rfl ⟨hD, hC, hM, hJ, hT, hS⟩
  cases hx : lnk D x
  · exact hc
  · obtain ⟨k, hk, rfl⟩ := lnk_of hD hx
    cases hv : chn p.toInt64 q.toInt64
    · exact hc
    · obtain ⟨i, j, rfl, rfl, h3, h4, h5⟩ := chn32 hv
      simp only [if_true]
      rw [ab_e hC hD hk, be_e hC hD hk]
      simp only [Option.bind_some, gd_in (i := k) (N := 10) (by omega) (by omega), gd_i2 (i := k) (N := 10) (by omega) (by omega), nI_clamp (n := k) (by omega), hM.2.2.2.2.2.2.1, hM.2.2.2.2.2.2.2.1]
      refine SIM.mk (D := ((dN D, dL D, dS D, dG D), dA D, dE D, va_up (dP D) k i, va_up (dQ D) k j, dV D)) rfl rfl ?_
      exact ⟨⟨hD.1, hD.2.1, hD.2.2.1, hD.2.2.2.1, hD.2.2.2.2.1, fun l hl => by
        have h1 := hD.2.2.2.2.2 l hl
        refine ⟨h1.1, h1.2.1, ?_⟩
        show 1 ≤ va_up (dQ D) k j l ∧ va_up (dQ D) k j l ≤ 9 ∧ va_up (dP D) k i l ≤ va_up (dQ D) k j l ∧ _
        unfold va_up
        split
        · exact ⟨by omega, by omega, by omega, h1.2.2.2.2.2⟩
        · exact h1.2.2⟩, ⟨hC.1, hC.2.1, hC.2.2.1, hC.2.2.2.1, hC.2.2.2.2.1, hC.2.2.2.2.2.1, upI hC.2.2.2.2.2.2.1 rfl, upI hC.2.2.2.2.2.2.2.1 rfl, hC.2.2.2.2.2.2.2.2⟩, ⟨hM.1, hM.2.1, hM.2.2.1, hM.2.2.2.1, hM.2.2.2.2.1, hM.2.2.2.2.2.1, upI hM.2.2.2.2.2.2.1 rfl, upI hM.2.2.2.2.2.2.2.1 rfl, hM.2.2.2.2.2.2.2.2⟩, hJ, hT, hS⟩
theorem s_info (h : INV b t D) (x w : Int32) : ∃ r, m_X9_info b x w = some r ∧ m_X10_info t x w = some r := by
  obtain ⟨hD, hC, hM, hJ, hT, hS⟩ := h
  have hL := hD.2.2.1
  unfold m_X9_info m_X10_info m_X10_infoBy
  rw [hl_e hC hD, isLink_e hM hD, in_e, i64_0, i64_4, Int32.toInt_toInt64]
  simp only [Option.bind_some, bz_if, decide_eq_true_eq]
  cases hx : lnk D x
  · exact ⟨_, rfl, rfl⟩
  · obtain ⟨k, hk, rfl⟩ := lnk_of hD hx
    simp only [if_true]
    rw [lo_e hC hD hk, hi_e hC hD hk, ab_e hC hD hk, be_e hC hD hk, se_e hC hD hk]
    simp only [Option.bind_some, gd_in (i := k) (N := 10) (by omega) (by omega), gd_i2 (i := k) (N := 10) (by omega) (by omega), nI_clamp (n := k) (by omega), hM.2.2.2.2.1, hM.2.2.2.2.2.1, hM.2.2.2.2.2.2.1, hM.2.2.2.2.2.2.2.1, hM.2.2.2.2.2.2.2.2]
    by_cases hv : 0 ≤ w.toInt ∧ w.toInt ≤ 4
    · obtain ⟨n, hn, rfl⟩ := vp_in_of (x := w) (n := 5) (vp_in_iff.mpr ⟨by omega, by omega⟩) (by decide)
      rw [if_pos hv]
      simp only [qeq_0 (i := n) (by omega), qeq_1 (i := n) (by omega), qeq_2 (i := n) (by omega), qeq_3 (i := n) (by omega), qeq_4 (i := n) (by omega)]
      rcases (show n = 0 ∨ n = 1 ∨ n = 2 ∨ n = 3 ∨ n = 4 by omega) with rfl | rfl | rfl | rfl | rfl <;> exact ⟨_, rfl, rfl⟩
    · rw [if_neg hv]
      simp only [fa_eq, show (0 : Int32).toInt = 0 from by decide, show (1 : Int32).toInt = 1 from by decide, show (2 : Int32).toInt = 2 from by decide, show (3 : Int32).toInt = 3 from by decide, show (4 : Int32).toInt = 4 from by decide]
      rw [if_neg (by omega), if_neg (by omega), if_neg (by omega), if_neg (by omega), if_neg (by omega)]
      exact ⟨_, rfl, rfl⟩
end PA
