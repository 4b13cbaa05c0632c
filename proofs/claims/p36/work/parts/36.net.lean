/-! a net that is tidied, cut and joined, as plain numbers: what is there, what is wanted, ends, chances above and below -/
abbrev AN : Type := (Nat × Nat) × (Nat → Nat) × (Nat → Nat) × (Nat → Nat) × (Nat → Nat)
def aP (V : AN) : Nat := V.1.1
def aW (V : AN) : Nat := V.1.2
def aA (V : AN) : Nat → Nat := V.2.1
def aE (V : AN) : Nat → Nat := V.2.2.1
def aX (V : AN) : Nat → Nat := V.2.2.2.1
def aY (V : AN) : Nat → Nat := V.2.2.2.2
def tP (V : AN) (i : Nat) : Bool := (aP V).testBit i
/-- the product of all that is below -/
def pY (V : AN) : Nat := pr (aY V) (tP V) 10
/-- the weight of what joins the wanted -/
def rZ (V : AN) : Nat := RZ (aA V) (aE V) (aX V) (zz (aX V) (aY V)) (aW V) (tP V) 10 []
def okA (N L : Nat) (V : AN) : Prop := N ≤ 7 ∧ L ≤ 10 ∧ aP V < 2 ^ L ∧ aW V < 2 ^ N ∧ aW V ≠ 0 ∧ pY V ≤ 3486784401 ∧ ∀ i, tP V i = true → aA V i < N ∧ aE V i < N ∧ 1 ≤ aY V i ∧ aX V i ≤ aY V i
theorem okA_10 {N L : Nat} {V : AN} (h : okA N L V) {i : Nat} (hi : tP V i = true) : i < L ∧ i < 10 := by
  have h1 := h.2.1
  rcases Nat.lt_or_ge i L with q | q
  · exact ⟨q, by omega⟩
  · unfold tP at hi
    rw [bit_ge h.2.2.1 q] at hi; cases hi
theorem okA_p {N L : Nat} {V : AN} (h : okA N L V) : aP V < 1024 := Nat.lt_of_lt_of_le h.2.2.1 (Nat.pow_le_pow_right (by decide) h.2.1)
theorem okA_w {N L : Nat} {V : AN} (h : okA N L V) : aW V < 128 := Nat.lt_of_lt_of_le h.2.2.2.1 (Nat.pow_le_pow_right (by decide) h.1)
/-- link i is gone -/
def dA1 (V : AN) (i : Nat) : AN := ((wo (aP V) (2 ^ i), aW V), V.2)
theorem dA1_t (V : AN) (i k : Nat) : tP (dA1 V i) k = wi (tP V) i k := by
  show (wo (aP V) (2 ^ i)).testBit k = _
  rw [wo_bit, p2_bit]
  unfold wi tP
  congr 2
  apply Bool.eq_iff_iff.mpr
  rw [decide_eq_true_eq, beq_iff_eq]
  exact eq_comm
theorem dA1_f (V : AN) (i : Nat) : tP (dA1 V i) = wi (tP V) i := funext (dA1_t V i)
/-- links i and j beside each other -/
def twA (V : AN) (i j : Nat) : AN := ((wo (aP V) (2 ^ j), aW V), aA V, aE V, va_up (aX V) i (aY V i * aY V j - (aY V i - aX V i) * (aY V j - aX V j)), va_up (aY V) i (aY V i * aY V j))
theorem twA_f (V : AN) (i j : Nat) : tP (twA V i j) = wi (tP V) j := funext (dA1_t V j)
def oth (V : AN) (i s : Nat) : Nat := if aA V i = s then aE V i else aA V i
/-- links i and j in a row at s -/
def chA (V : AN) (i j s : Nat) : AN := ((wo (aP V) (2 ^ j), aW V), va_up (aA V) i (oth V i s), va_up (aE V) i (oth V j s), va_up (aX V) i (aX V i * aX V j), va_up (aY V) i (aY V i * aY V j))
theorem chA_f (V : AN) (i j s : Nat) : tP (chA V i j s) = wi (tP V) j := funext (dA1_t V j)
/-- the links at a station -/
def la (V : AN) (v : Nat) : Nat := bm (fun i => tP V i && (aA V i == v || aE V i == v)) 10
theorem la_lt (V : AN) (v : Nat) : la V v < 1024 := bm_lt _ 10
theorem la_bit {N L : Nat} {V : AN} (h : okA N L V) (v i : Nat) : (la V v).testBit i = (tP V i && (aA V i == v || aE V i == v)) := by
  unfold la
  rw [bm_bit]
  by_cases hi : i < 10
  · rw [decide_eq_true hi]; rfl
  · rw [decide_eq_false hi]
    cases q : tP V i
    · rfl
    · exact absurd (okA_10 h q).2 hi
theorem la_t {N L : Nat} {V : AN} (h : okA N L V) {v i : Nat} : (la V v).testBit i = true ↔ tP V i = true ∧ (aA V i = v ∨ aE V i = v) := by
  rw [la_bit h, Bool.and_eq_true, Bool.or_eq_true, beq_iff_eq, beq_iff_eq]
/-! masks of one bit, of two -/
theorem pc_1 : ∀ m, m < 1024 → pc m = 1 → m = 2 ^ tz m ∧ tz m < 10 := by decide +kernel
theorem pc_2 : ∀ m, m < 1024 → pc m = 2 → m = 2 ^ tz m ||| 2 ^ tz (wo m (2 ^ tz m)) ∧ tz m < tz (wo m (2 ^ tz m)) ∧ tz (wo m (2 ^ tz m)) < 10 ∧ 0 < m ∧ 0 < wo m (2 ^ tz m) := by decide +kernel
theorem pc_0 : ∀ m, m < 1024 → (pc m = 0 ↔ m = 0) := by decide +kernel
theorem tz_10 : ∀ m, m < 1024 → 0 < m → tz m < 10 ∧ m.testBit (tz m) = true ∧ ∀ i, i < tz m → m.testBit i = false := by
  intro m hm h0
  have h7 : tz m < 10 := (show ∀ m, m < 1024 → 0 < m → tz m < 10 by decide +kernel) m hm h0
  exact ⟨h7, fa_first_yes (fun i => m.testBit i) 10 h7, fa_first_no (fun i => m.testBit i) 10⟩
theorem pc_drop : ∀ m, m < 1024 → ∀ i, i < 10 → m.testBit i = true → pc m = pc (wo m (2 ^ i)) + 1 := by
  intro m hm i hi hb
  have h : fa_cnt (fun k => (wo m (2 ^ i)).testBit k) 10 + fa_cnt (fun k => decide (k = i)) 10 = fa_cnt (fun k => m.testBit k) 10 := cnt_add (fun k _ => by
    rw [wo_bit, p2_bit]
    by_cases hk : k = i
    · subst hk; rw [hb]; simp
    · rw [decide_eq_false (fun q => hk q.symm), decide_eq_false hk]; simp)
  have h2 : ∀ i, i < 10 → fa_cnt (fun k => decide (k = i)) 10 = 1 := by decide
  have h3 := h2 i hi
  unfold pc
  omega
/-! what is done -/
/-- a link from a station to itself; the first one, 10 if there is none -/
def rnd (V : AN) : Nat := fa_first (fun i => tP V i && (aA V i == aE V i)) 10
def sam (V : AN) (i j : Nat) : Bool := (aA V i == aA V j && aE V i == aE V j) || (aA V i == aE V j && aE V i == aA V j)
def twj (V : AN) (i : Nat) : Nat := fa_first (fun j => decide (i < j) && tP V i && tP V j && sam V i j) 10
def twi (V : AN) : Nat := fa_first (fun i => decide (twj V i < 10)) 10
/-- a station with so many links that is not wanted -/
def fre (V : AN) (v n : Nat) : Bool := !(aW V).testBit v && decide (pc (la V v) = n)
def edg (V : AN) : Nat := fa_first (fun i => tP V i && (fre V (aA V i) 1 || fre V (aE V i) 1)) 10
/-- the station at which two links meet and no other, N if there is none -/
def mid (V : AN) (i j : Nat) : Option Nat := if ((aA V j == aA V i || aE V j == aA V i) && fre V (aA V i) 2) = true then some (aA V i) else if ((aA V j == aE V i || aE V j == aE V i) && fre V (aE V i) 2) = true then some (aE V i) else none
def chj (V : AN) (i : Nat) : Nat := fa_first (fun j => decide (i < j) && tP V i && tP V j && (mid V i j).isSome) 10
def chi (V : AN) : Nat := fa_first (fun i => decide (chj V i < 10)) 10
def stp (V : AN) : Option AN :=
  if rnd V < 10 then some (dA1 V (rnd V)) else if twi V < 10 then some (twA V (twi V) (twj V (twi V))) else if edg V < 10 then some (dA1 V (edg V))
  else if chi V < 10 then some (chA V (chi V) (chj V (chi V)) ((mid V (chi V) (chj V (chi V))).getD 0)) else none
def tdy : Nat → AN → Nat × AN
  | 0, V => (0, V)
  | n + 1, V => match stp V with
    | none => (0, V)
    | some V2 => ((tdy n V2).1 + 1, (tdy n V2).2)
/-! what a step keeps -/
/-- alike in what counts: the share of the weight, fewer links, the same wanted -/
def kep (N L : Nat) (V V2 : AN) : Prop := okA N L V2 ∧ rZ V * pY V2 = rZ V2 * pY V ∧ pY V2 ∣ pY V ∧ aW V2 = aW V ∧ pc (aP V) = pc (aP V2) + 1
theorem wi_10 {N L : Nat} {V : AN} (h : okA N L V) {i : Nat} (hi : tP V i = true) : wo (aP V) (2 ^ i) < 2 ^ L ∧ pc (aP V) = pc (wo (aP V) (2 ^ i)) + 1 := ⟨wo_lt h.2.2.1, pc_drop _ (okA_p h) i (okA_10 h hi).2 hi⟩
theorem pY_take {N L : Nat} {V : AN} (h : okA N L V) {i : Nat} (hi : tP V i = true) : pY V = aY V i * pr (aY V) (wi (tP V) i) 10 := pr_take (okA_10 h hi).2 hi
theorem kep_d {N L : Nat} {V : AN} (h : okA N L V) {i : Nat} (hi : tP V i = true) (hr : rZ V = aY V i * RZ (aA V) (aE V) (aX V) (zz (aX V) (aY V)) (aW V) (wi (tP V) i) 10 []) : kep N L V (dA1 V i) := by
  obtain ⟨w1, w2⟩ := wi_10 h hi
  have hp := pY_take h hi
  have hp2 : pY (dA1 V i) = pr (aY V) (wi (tP V) i) 10 := by unfold pY; rw [dA1_f]; rfl
  have hr2 : rZ (dA1 V i) = RZ (aA V) (aE V) (aX V) (zz (aX V) (aY V)) (aW V) (wi (tP V) i) 10 [] := by unfold rZ; rw [dA1_f]; rfl
  obtain ⟨-, -, y1, -⟩ := h.2.2.2.2.2.2 i hi
  have hle : pY (dA1 V i) ≤ pY V := by rw [hp, hp2]; exact Nat.le_mul_of_pos_left _ y1
  refine ⟨⟨h.1, h.2.1, w1, h.2.2.2.1, h.2.2.2.2.1, Nat.le_trans hle h.2.2.2.2.2.1, fun k hk => ?_⟩, ?_, ⟨aY V i, by rw [hp, hp2, Nat.mul_comm]⟩, rfl, w2⟩
  · rw [dA1_t] at hk
    exact h.2.2.2.2.2.2 k (wi_t hk).1
  · rw [hr, hr2, hp, hp2]
    generalize RZ (aA V) (aE V) (aX V) (zz (aX V) (aY V)) (aW V) (wi (tP V) i) 10 [] = R
    generalize pr (aY V) (wi (tP V) i) 10 = Q
    rw [Nat.mul_comm (aY V i) R, Nat.mul_assoc]
theorem xz {V : AN} {i : Nat} (h : aX V i ≤ aY V i) : aX V i + zz (aX V) (aY V) i = aY V i := by unfold zz; omega
theorem first_t {p : Nat → Bool} (h : fa_first p 10 < 10) : p (fa_first p 10) = true := fa_first_yes p 10 h
theorem rnd_k {N L : Nat} {V : AN} (h : okA N L V) (hr : rnd V < 10) : kep N L V (dA1 V (rnd V)) := by
  have h1 := first_t hr
  have h1 : (tP V (rnd V) && (aA V (rnd V) == aE V (rnd V))) = true := h1
  rw [Bool.and_eq_true, beq_iff_eq] at h1
  have h2 := RZ_loop (a := aA V) (e := aE V) (x := aX V) (z := zz (aX V) (aY V)) (W := aW V) (P := tP V) (U := []) hr h1.1 h1.2
  rw [xz (h.2.2.2.2.2.2 _ h1.1).2.2.2] at h2
  exact kep_d h h1.1 h2
theorem la_one {N L : Nat} {V : AN} (h : okA N L V) {v i : Nat} (hi : tP V i = true) (hv : aA V i = v ∨ aE V i = v) (h1 : pc (la V v) = 1) : ∀ k, tP V k = true → k ≠ i → aA V k ≠ v ∧ aE V k ≠ v := by
  obtain ⟨m1, m2⟩ := pc_1 _ (la_lt V v) h1
  intro k hk hki
  have hib : (la V v).testBit i = true := (la_t h).mpr ⟨hi, hv⟩
  rw [m1, p2_bit] at hib
  have hib := of_decide_eq_true hib
  have hn : ¬ (aA V k = v ∨ aE V k = v) := fun q => by
    have hkb : (la V v).testBit k = true := (la_t h).mpr ⟨hk, q⟩
    rw [m1, p2_bit] at hkb
    have hkb := of_decide_eq_true hkb
    omega
  exact ⟨fun q => hn (Or.inl q), fun q => hn (Or.inr q)⟩
theorem edg_k {N L : Nat} {V : AN} (h : okA N L V) (hr : edg V < 10) : kep N L V (dA1 V (edg V)) := by
  have h1 := first_t hr
  have h1 : (tP V (edg V) && (fre V (aA V (edg V)) 1 || fre V (aE V (edg V)) 1)) = true := h1
  generalize edg V = i at h1 hr ⊢
  rw [Bool.and_eq_true, Bool.or_eq_true] at h1
  obtain ⟨hi, hf⟩ := h1
  have hy := (h.2.2.2.2.2.2 _ hi).2.2.2
  have hmain : ∀ v w, (aA V i = v ∧ aE V i = w) ∨ (aA V i = w ∧ aE V i = v) → fre V v 1 = true → kep N L V (dA1 V i) := fun v w hvw hfr => by
    unfold fre at hfr
    rw [Bool.and_eq_true, Bool.not_eq_true', decide_eq_true_eq] at hfr
    have ho := la_one h hi (by rcases hvw with q | q; exact Or.inl q.1; exact Or.inr q.2) hfr.2
    have h2 := RZ_tail (a := aA V) (e := aE V) (x := aX V) (z := zz (aX V) (aY V)) (W := aW V) (P := tP V) (n := 10) hr hi hvw hfr.1 (fun k _ hk hki => ho k hk hki)
    rw [xz hy] at h2
    exact kep_d h hi h2
  rcases hf with q | q
  · exact hmain (aA V i) (aE V i) (Or.inl ⟨rfl, rfl⟩) q
  · exact hmain (aE V i) (aA V i) (Or.inr ⟨rfl, rfl⟩) q
/-- two links become one with the product below -/
theorem kep_2 {N L : Nat} {V V2 : AN} (h : okA N L V) {i j : Nat} (hij : i ≠ j) (hi : tP V i = true) (hj : tP V j = true) (hf : tP V2 = wi (tP V) j) (hPe : aP V2 = wo (aP V) (2 ^ j)) (hW : aW V2 = aW V) (hY : aY V2 = va_up (aY V) i (aY V i * aY V j)) (hrest : ∀ k, k ≠ i → tP V k = true → aA V2 k = aA V k ∧ aE V2 k = aE V k ∧ aX V2 k = aX V k) (hAi : aA V2 i < N) (hEi : aE V2 i < N) (hXi : aX V2 i ≤ aY V i * aY V j) (hr : rZ V = rZ V2) : kep N L V V2 := by
  obtain ⟨w1, w2⟩ := wi_10 h hj
  obtain ⟨ai, ei, yi, xi⟩ := h.2.2.2.2.2.2 i hi
  obtain ⟨aj, ej, yj, xj⟩ := h.2.2.2.2.2.2 j hj
  have hwi : wi (tP V) j i = true := by rw [wi_n hij]; exact hi
  have hpe : pY V2 = pY V := by
    have h1 := pY_take h hj
    rw [pr_take (P := wi (tP V) j) (okA_10 h hi).2 hwi] at h1
    rw [h1]
    unfold pY
    rw [hf, pr_take (P := wi (tP V) j) (okA_10 h hi).2 hwi, hY, up_k, pr_cong (y2 := aY V) (P2 := wi (wi (tP V) j) i) (fun _ _ => rfl) (fun k _ hk => up_n (wi_t hk).2), Nat.mul_comm (aY V i) (aY V j), Nat.mul_assoc]
  refine ⟨⟨h.1, h.2.1, by rw [hPe]; exact w1, by rw [hW]; exact h.2.2.2.1, by rw [hW]; exact h.2.2.2.2.1, by rw [hpe]; exact h.2.2.2.2.2.1, fun k hk => ?_⟩, by rw [hr, hpe], by rw [hpe]; exact Nat.dvd_refl _, hW, by rw [hPe]; exact w2⟩
  rw [hf] at hk
  obtain ⟨k1, k2⟩ := wi_t hk
  rw [hY]
  by_cases hki : k = i
  · subst hki
    rw [up_k]
    exact ⟨hAi, hEi, Nat.mul_pos yi yj, hXi⟩
  · obtain ⟨r1, r2, r3⟩ := hrest k hki k1
    rw [up_n hki, r1, r2, r3]
    exact h.2.2.2.2.2.2 k k1
theorem tw_t {V : AN} (h : twi V < 10) : twj V (twi V) < 10 ∧ twi V < twj V (twi V) ∧ tP V (twi V) = true ∧ tP V (twj V (twi V)) = true ∧ sam V (twi V) (twj V (twi V)) = true := by
  have h0 : decide (twj V (twi V) < 10) = true := first_t (p := fun i => decide (twj V i < 10)) h
  have h1 : twj V (twi V) < 10 := of_decide_eq_true h0
  have h2 := first_t (p := fun j => decide (twi V < j) && tP V (twi V) && tP V j && sam V (twi V) j) h1
  have h2 : (decide (twi V < twj V (twi V)) && tP V (twi V) && tP V (twj V (twi V)) && sam V (twi V) (twj V (twi V))) = true := h2
  simp only [Bool.and_eq_true, decide_eq_true_eq] at h2
  exact ⟨h1, h2.1.1.1, h2.1.1.2, h2.1.2, h2.2⟩
theorem zprod {a x c y : Nat} (h1 : x ≤ a) (h2 : y ≤ c) : (a - x) * (c - y) ≤ a * c := Nat.mul_le_mul (Nat.sub_le _ _) (Nat.sub_le _ _)
theorem twn_k {N L : Nat} {V : AN} (h : okA N L V) (hr : twi V < 10) : kep N L V (twA V (twi V) (twj V (twi V))) := by
  obtain ⟨h1, h2, hi, hj, hs⟩ := tw_t hr
  generalize twj V (twi V) = j at h1 h2 hj hs ⊢
  generalize twi V = i at hr h2 hi hs ⊢
  obtain ⟨ai, ei, yi, xi⟩ := h.2.2.2.2.2.2 i hi
  obtain ⟨aj, ej, yj, xj⟩ := h.2.2.2.2.2.2 j hj
  have hz := zprod xi xj
  have hs2 : (aA V j = aA V i ∧ aE V j = aE V i) ∨ (aA V j = aE V i ∧ aE V j = aA V i) := by
    unfold sam at hs
    simp only [Bool.or_eq_true, Bool.and_eq_true, beq_iff_eq] at hs
    rcases hs with q | q
    · exact Or.inl ⟨q.1.symm, q.2.symm⟩
    · exact Or.inr ⟨q.2.symm, q.1.symm⟩
  refine kep_2 (i := i) (j := j) h (by omega) hi hj (twA_f V i j) rfl rfl rfl (fun k hk _ => ⟨rfl, rfl, up_n hk⟩) ai ei ?_ ?_
  · show va_up (aX V) i _ i ≤ _
    rw [up_k]; omega
  · have hX : (aY V i * aY V j - (aY V i - aX V i) * (aY V j - aX V j)) + zz (aX V) (aY V) i * zz (aX V) (aY V) j = (aX V i + zz (aX V) (aY V) i) * (aX V j + zz (aX V) (aY V) j) := by
      rw [xz xi, xz xj]
      unfold zz
      omega
    have h3 := RZ_twin (a := aA V) (e := aE V) (x := aX V) (z := zz (aX V) (aY V)) (W := aW V) (P := tP V) (n := 10) (U := []) hr h1 (by omega) hi hj hs2 hX
    unfold rZ
    rw [h3, twA_f]
    refine RZ_cong (fun _ _ => rfl) (fun k _ _ => ⟨rfl, rfl, rfl, ?_⟩)
    unfold zz
    show _ = va_up (aY V) i (aY V i * aY V j) k - va_up (aX V) i (aY V i * aY V j - (aY V i - aX V i) * (aY V j - aX V j)) k
    unfold va_up
    split
    · omega
    · rfl
theorem ch_t {V : AN} (h : chi V < 10) : chj V (chi V) < 10 ∧ chi V < chj V (chi V) ∧ tP V (chi V) = true ∧ tP V (chj V (chi V)) = true ∧ ∃ s, mid V (chi V) (chj V (chi V)) = some s := by
  have h0 : decide (chj V (chi V) < 10) = true := first_t (p := fun i => decide (chj V i < 10)) h
  have h1 : chj V (chi V) < 10 := of_decide_eq_true h0
  have h2 := first_t (p := fun j => decide (chi V < j) && tP V (chi V) && tP V j && (mid V (chi V) j).isSome) h1
  have h2 : (decide (chi V < chj V (chi V)) && tP V (chi V) && tP V (chj V (chi V)) && (mid V (chi V) (chj V (chi V))).isSome) = true := h2
  simp only [Bool.and_eq_true, decide_eq_true_eq] at h2
  exact ⟨h1, h2.1.1.1, h2.1.1.2, h2.1.2, Option.isSome_iff_exists.mp h2.2⟩
theorem mid_t {V : AN} {i j s : Nat} (h : mid V i j = some s) : (aA V i = s ∨ aE V i = s) ∧ (aA V j = s ∨ aE V j = s) ∧ fre V s 2 = true := by
  unfold mid at h
  split at h
  · rename_i q
    simp only [Bool.and_eq_true, Bool.or_eq_true, beq_iff_eq] at q
    cases h
    exact ⟨Or.inl rfl, q.1, q.2⟩
  · split at h
    · rename_i q
      simp only [Bool.and_eq_true, Bool.or_eq_true, beq_iff_eq] at q
      cases h
      exact ⟨Or.inr rfl, q.1, q.2⟩
    · cases h
theorem la_two {N L : Nat} {V : AN} (h : okA N L V) {v i j : Nat} (hij : i ≠ j) (hi : tP V i = true) (hj : tP V j = true) (hvi : aA V i = v ∨ aE V i = v) (hvj : aA V j = v ∨ aE V j = v) (h1 : pc (la V v) = 2) : ∀ k, tP V k = true → k ≠ i → k ≠ j → aA V k ≠ v ∧ aE V k ≠ v := by
  obtain ⟨m1, m2, m3, -, -⟩ := pc_2 _ (la_lt V v) h1
  intro k hk hki hkj
  generalize tz (wo (la V v) (2 ^ tz (la V v))) = c at m1 m2 m3
  generalize tz (la V v) = a at m1 m2
  have hb : ∀ q, (la V v).testBit q = true → a = q ∨ c = q := fun q hq => by
    rw [m1, Nat.testBit_or, p2_bit, p2_bit, Bool.or_eq_true, decide_eq_true_eq, decide_eq_true_eq] at hq
    exact hq
  have hib := hb i ((la_t h).mpr ⟨hi, hvi⟩)
  have hjb := hb j ((la_t h).mpr ⟨hj, hvj⟩)
  have hn : ¬ (aA V k = v ∨ aE V k = v) := fun q => by
    have hkb := hb k ((la_t h).mpr ⟨hk, q⟩)
    omega
  exact ⟨fun q => hn (Or.inl q), fun q => hn (Or.inr q)⟩
theorem oth_e {V : AN} {i s : Nat} (h : aA V i = s ∨ aE V i = s) (hl : aA V i ≠ aE V i) : ((aA V i = s ∧ aE V i = oth V i s) ∨ (aA V i = oth V i s ∧ aE V i = s)) ∧ oth V i s ≠ s := by
  unfold oth
  rcases h with q | q
  · rw [if_pos q]; exact ⟨Or.inl ⟨q, rfl⟩, fun r => hl (q.trans r.symm)⟩
  · rw [if_neg (fun r => hl (r.trans q.symm))]; exact ⟨Or.inr ⟨rfl, q⟩, fun r => hl (r.trans q.symm)⟩
theorem no_rnd {V : AN} (h : ¬ rnd V < 10) {i : Nat} (hi : tP V i = true) (h10 : i < 10) : aA V i ≠ aE V i := fun q => by
  have h1 := fa_first_le (fun i => tP V i && (aA V i == aE V i)) 10
  have h2 := fa_first_no (fun i => tP V i && (aA V i == aE V i)) 10 i (by unfold rnd at h; omega)
  have h2 : (tP V i && (aA V i == aE V i)) = false := h2
  rw [hi, beq_iff_eq.mpr q] at h2
  cases h2
theorem chn_k {N L : Nat} {V : AN} (h : okA N L V) (hn : ¬ rnd V < 10) (hr : chi V < 10) : kep N L V (chA V (chi V) (chj V (chi V)) ((mid V (chi V) (chj V (chi V))).getD 0)) := by
  obtain ⟨h1, h2, hi, hj, s, hs⟩ := ch_t hr
  rw [hs]
  obtain ⟨si, sj, sf⟩ := mid_t hs
  show kep N L V (chA V (chi V) (chj V (chi V)) s)
  generalize chj V (chi V) = j at h1 h2 hj sj ⊢
  clear hs
  generalize chi V = i at hr h2 hi si ⊢
  obtain ⟨ai, ei, yi, xi⟩ := h.2.2.2.2.2.2 i hi
  obtain ⟨aj, ej, yj, xj⟩ := h.2.2.2.2.2.2 j hj
  unfold fre at sf
  rw [Bool.and_eq_true, Bool.not_eq_true', decide_eq_true_eq] at sf
  have ho := la_two h (show i ≠ j by omega) hi hj si sj sf.2
  obtain ⟨oi, oi2⟩ := oth_e si (no_rnd hn hi hr)
  obtain ⟨oj, oj2⟩ := oth_e sj (no_rnd hn hj h1)
  have hoi : oth V i s < N := by unfold oth; split <;> assumption
  have hoj : oth V j s < N := by unfold oth; split <;> assumption
  have hxx : aX V i * aX V j ≤ aY V i * aY V j := Nat.mul_le_mul xi xj
  refine kep_2 (i := i) (j := j) h (by omega) hi hj (chA_f V i j s) rfl rfl rfl (fun k hk _ => ⟨up_n hk, up_n hk, up_n hk⟩) ?_ ?_ ?_ ?_
  · show va_up (aA V) i _ i < _; rw [up_k]; exact hoi
  · show va_up (aE V) i _ i < _; rw [up_k]; exact hoj
  · show va_up (aX V) i _ i ≤ _; rw [up_k]; exact hxx
  · have hZ : aX V i * aX V j + (aY V i * aY V j - aX V i * aX V j) = (aX V i + zz (aX V) (aY V) i) * (aX V j + zz (aX V) (aY V) j) := by
      rw [xz xi, xz xj]; omega
    have h3 := RZ_chain (a := aA V) (e := aE V) (x := aX V) (z := zz (aX V) (aY V)) (W := aW V) (P := tP V) (n := 10) hr h1 (by omega) hi hj oi oj oi2 oj2 sf.1 (fun k _ hk hki hkj => ho k hk hki hkj) hZ
    unfold rZ
    rw [h3, chA_f]
    refine RZ_cong (fun _ _ => rfl) (fun k _ _ => ⟨rfl, rfl, rfl, ?_⟩)
    unfold zz
    show _ = va_up (aY V) i (aY V i * aY V j) k - va_up (aX V) i (aX V i * aX V j) k
    unfold va_up
    split <;> rfl
theorem stp_k {N L : Nat} {V V2 : AN} (h : okA N L V) (hs : stp V = some V2) : kep N L V V2 := by
  unfold stp at hs
  split at hs
  · rename_i q; cases hs; exact rnd_k h q
  · rename_i q1
    split at hs
    · rename_i q; cases hs; exact twn_k h q
    · split at hs
      · rename_i q; cases hs; exact edg_k h q
      · split at hs
        · rename_i q; cases hs; exact chn_k h q1 q
        · cases hs
theorem dvd_x {a b c d e f : Nat} (hb : 0 < b) (h1 : a * b = c * d) (h2 : c * e = f * b) (hd : d ≠ 0) : a * e = f * d := by
  have h3 : (a * e) * b = (f * d) * b := by
    rw [Nat.mul_right_comm, h1, Nat.mul_right_comm, h2, Nat.mul_right_comm]
  exact Nat.eq_of_mul_eq_mul_right hb h3
theorem pY_pos {N L : Nat} {V : AN} (h : okA N L V) : 0 < pY V := by
  unfold pY
  have : ∀ n, 0 < pr (aY V) (tP V) n := by
    intro n
    induction n with
    | zero => exact Nat.one_pos
    | succ n ih =>
      unfold pr
      split
      · rename_i q; exact Nat.mul_pos (h.2.2.2.2.2.2 n q).2.2.1 ih
      · exact ih
  exact this 10
theorem tdy_n {n : Nat} {V : AN} (hs : stp V = none) : tdy (n + 1) V = (0, V) := by rw [tdy, hs]
theorem tdy_y {n : Nat} {V V2 : AN} (hs : stp V = some V2) : tdy (n + 1) V = ((tdy n V2).1 + 1, (tdy n V2).2) := by rw [tdy, hs]
/-- behind the tidying: nothing more can be done, the same share -/
theorem tdy_k {N L : Nat} : ∀ (n : Nat) (V : AN), okA N L V → pc (aP V) ≤ n → okA N L (tdy n V).2 ∧ rZ V * pY (tdy n V).2 = rZ (tdy n V).2 * pY V ∧ pY (tdy n V).2 ∣ pY V ∧ aW (tdy n V).2 = aW V ∧ pc (aP V) = pc (aP (tdy n V).2) + (tdy n V).1 ∧ stp (tdy n V).2 = none
  | 0, V, h, hp => by
    have h0 : aP V = 0 := (pc_0 _ (okA_p h)).mp (by omega)
    have hno : ∀ i, tP V i = false := fun i => by unfold tP; rw [h0]; exact Nat.zero_testBit i
    refine ⟨h, rfl, Nat.dvd_refl _, rfl, rfl, ?_⟩
    have hf : ∀ p : Nat → Bool, (∀ i, p i = false) → ¬ fa_first p 10 < 10 := fun p hp q => by
      have := fa_first_yes p 10 q
      rw [hp] at this; cases this
    show stp V = none
    unfold stp
    have t1 : ∀ i, ¬ twj V i < 10 := fun i => hf _ (fun j => by rw [hno i, Bool.and_false]; rfl)
    have t2 : ∀ i, ¬ chj V i < 10 := fun i => hf _ (fun j => by rw [hno i, Bool.and_false]; rfl)
    rw [if_neg (show ¬ rnd V < 10 from hf _ (fun i => by rw [hno i]; rfl)), if_neg (show ¬ twi V < 10 from hf _ (fun i => decide_eq_false (t1 i))), if_neg (show ¬ edg V < 10 from hf _ (fun i => by rw [hno i]; rfl)), if_neg (show ¬ chi V < 10 from hf _ (fun i => decide_eq_false (t2 i)))]
  | n + 1, V, h, hp => by
    cases hs : stp V with
    | none =>
      rw [tdy_n hs]
      exact ⟨h, rfl, Nat.dvd_refl _, rfl, rfl, hs⟩
    | some V2 =>
      obtain ⟨k1, k2, k3, k4, k5⟩ := stp_k h hs
      obtain ⟨r1, r2, r3, r4, r5, r6⟩ := tdy_k n V2 k1 (by omega)
      rw [tdy_y hs]
      refine ⟨r1, dvd_x (pY_pos k1) k2 r2 (by have := pY_pos h; omega), Nat.dvd_trans r3 k3, r4.trans k4, by rw [k5, r5]; rfl, r6⟩
