/-! the class's tidying -/
def repT (t : ST) (V : AN) : Prop := t.1 0 = nI (aP V) ∧ t.1 1 = nI (aW V) ∧ ∀ i, tP V i = true → t.2.2.1 0 i = nI (aA V i) ∧ t.2.2.1 1 i = nI (aE V i) ∧ t.2.2.2 0 i = lN (aX V i) ∧ t.2.2.2 1 i = lN (aY V i)
theorem srch {B : Int32 × ST → Option ((Int32 × ST) ⊕ ((ST) ⊕ (Int32 × ST)))} {t : ST} {p : Nat → Bool} {R : Nat → Int32 × ST} (n k : Nat) (hn : n ≤ 10) (hk : k ≤ n) (h0 : ∀ j, j < k → p j = false) (h1 : ∀ j, n ≤ j → p j = false) (hno : ∀ j, k ≤ j → j < n → p j = false → B (nI j, t) = some (.inl (nI (j + 1), t))) (hyes : ∀ j, k ≤ j → j < n → p j = true → B (nI j, t) = some (.inr (.inr (R j)))) (hend : B (nI n, t) = some (.inr (.inl t))) : vLoop B FUEL (nI k, t) = some (if fa_first p 10 < 10 then .inr (R (fa_first p 10)) else .inl t) := by
  have f1 := fa_first_le p 10
  have f2 := fa_first_no p 10
  have f3 := fa_first_yes p 10
  generalize fa_first p 10 = f at f1 f2 f3 ⊢
  by_cases h : f < 10
  · rw [if_pos h]
    have hp := f3 h
    have hfn : f < n := by
      rcases Nat.lt_or_ge f n with q | q
      · exact q
      · rw [h1 f q] at hp; cases hp
    have hkf : k ≤ f := by
      rcases Nat.lt_or_ge f k with q | q
      · rw [h0 f q] at hp; cases hp
      · exact q
    exact vl_F (fun j => (nI j, t)) k f hkf (by omega) (fun j hj hjf => hno j hj (by omega) (f2 j hjf)) (hyes f hkf hfn hp)
  · rw [if_neg h]
    exact vl_F (fun j => (nI j, t)) k n hk (by omega) (fun j hj hjn => hno j hj hjn (f2 j (by omega))) hend
section TC
variable {t : ST} {V : AN} {N L : Nat}
theorem it_e (hR : repT t V) (h : okA N L V) {i : Nat} (hi : i < 10) : m_X8_isThere t (nI i) = some (bz (tP V i)) := by
  have hp := okA_p h
  unfold m_X8_isThere
  dsimp only [lt]
  rw [if_neg (nI_pos (by omega)), if_neg (by rw [qle_10 (by omega)]; omega), hR.1, shr_bit (by omega) (by omega), bz_if]
  unfold tP
  cases (aP V).testBit i <;> rfl
theorem iw_t (hR : repT t V) (h : okA N L V) {v : Nat} (hv : v < 7) : m_X8_isWanted t (nI v) = some (bz ((aW V).testBit v)) := by
  have hw := okA_w h
  unfold m_X8_isWanted
  dsimp only [lt]
  rw [hR.2.1, shr_bit (by omega) (by omega), bz_if]
  cases (aW V).testBit v <;> rfl
/-- link i is gone, as the class does it -/
def dT (t : ST) (P i : Nat) : ST := wI t 0 (nI (wo P (2 ^ i)))
theorem dT_e (hR : repT t V) {i : Nat} (hi : i < 10) : wI t 0 ((t.1 0) &&& (((1 : Int32) <<< (nI i &&& 31)) ^^^ (-1 : Int32))) = dT t (aP V) i := by
  unfold dT
  rw [hR.1, shl_1 i (by omega), wo_i]
theorem dT_R (hR : repT t V) {i : Nat} : repT (dT t (aP V) i) (dA1 V i) := ⟨rfl, hR.2.1, fun k hk => by
  rw [dA1_t] at hk
  exact hR.2.2 k (wi_t hk).1⟩
theorem N31 (h : okA N L V) {i : Nat} (hi : tP V i = true) : aA V i < 2 ^ 31 ∧ aE V i < 2 ^ 31 := by
  obtain ⟨a1, a2, -, -⟩ := h.2.2.2.2.2.2 i hi
  have := h.1
  exact ⟨by omega, by omega⟩
theorem dr_e (hR : repT t V) (h : okA N L V) : m_X8_dropRound t = some (if rnd V < 10 then ((1 : Int32), dT t (aP V) (rnd V)) else ((0 : Int32), t)) := by
  unfold m_X8_dropRound
  have hl : vLoop m_X8_dropRound_L2 FUEL ((0 : Int32), t) = some (if rnd V < 10 then .inr ((1 : Int32), dT t (aP V) (rnd V)) else .inl t) := by
    refine srch (p := fun i => tP V i && (aA V i == aE V i)) (R := fun i => ((1 : Int32), dT t (aP V) i)) 10 0 (by omega) (by omega) (fun j hj => absurd hj (Nat.not_lt_zero j)) (fun j hj => ?_) (fun j _ hj hp => ?_) (fun j _ hj hp => ?_) ?_
    · show (tP V j && _) = false
      cases q : tP V j
      · rfl
      · exact absurd (okA_10 h q).2 (by omega)
    · have hp : (tP V j && (aA V j == aE V j)) = false := hp
      unfold m_X8_dropRound_L2
      simp only [un, lt]
      rw [if_neg (by rw [qle_10 (by omega)]; omega), it_e hR h hj, Option.bind_some, bz_if]
      cases q : tP V j
      · rw [if_neg (by decide), nI_1]
      · rw [q, Bool.true_and, beq_eq_false_iff_ne] at hp
        obtain ⟨r1, r2, -, -⟩ := hR.2.2 j q
        obtain ⟨n1, n2⟩ := N31 h q
        rw [if_pos rfl, gd_in (by omega) (by omega), gd_in (by omega) (by omega), nI_clamp (by omega), r1, r2, if_neg (by rw [qeq n1 n2]; exact hp), nI_1]
    · have hp : (tP V j && (aA V j == aE V j)) = true := hp
      rw [Bool.and_eq_true, beq_iff_eq] at hp
      obtain ⟨r1, r2, -, -⟩ := hR.2.2 j hp.1
      unfold m_X8_dropRound_L2
      simp only [un, lt]
      rw [if_neg (by rw [qle_10 (by omega)]; omega), it_e hR h hj, hp.1, Option.bind_some, if_neg (by decide), gd_in (by omega) (by omega), gd_in (by omega) (by omega), nI_clamp (by omega), r1, r2, if_pos (by rw [hp.2]), dT_e hR hj]
    · unfold m_X8_dropRound_L2
      simp only [un]
      rw [if_pos (by rw [qle_10 (by omega)]; omega)]
  rw [hl, Option.bind_some]
  by_cases q : rnd V < 10
  · rw [if_pos q, if_pos q]; rfl
  · rw [if_neg q, if_neg q]; rfl
theorem at_e (hR : repT t V) (h : okA N L V) {i j : Nat} (hi : i < 10) (hj : j < 10) : m_X8_areTwins t (nI i) (nI j) = some (bz (tP V i && tP V j && (if aA V i = aA V j then aE V i == aE V j else aA V i == aE V j && aE V i == aA V j))) := by
  unfold m_X8_areTwins
  rw [it_e hR h hi, it_e hR h hj, Option.bind_some, bz_if, Option.bind_some, bz_if]
  cases q1 : tP V i
  · rfl
  · cases q2 : tP V j
    · rfl
    · obtain ⟨r1, r2, -, -⟩ := hR.2.2 i q1
      obtain ⟨r3, r4, -, -⟩ := hR.2.2 j q2
      obtain ⟨n1, n2⟩ := N31 h q1
      obtain ⟨n3, n4⟩ := N31 h q2
      simp only [gd_in (i := i) (N := 10) (by omega) (by omega), gd_i2 (i := i) (N := 10) (by omega) (by omega), gd_in (i := j) (N := 10) (by omega) (by omega), gd_i2 (i := j) (N := 10) (by omega) (by omega), nI_clamp (n := i) (by omega), nI_clamp (n := j) (by omega), r1, r2, r3, r4, qeq n1 n3, qeq n2 n4, qeq n1 n4, qeq n2 n3, if_true, Bool.true_and]
      by_cases c1 : aA V i = aA V j
      · rw [if_pos c1, if_pos c1]
        by_cases c2 : aE V i = aE V j
        · rw [if_pos c2, beq_iff_eq.mpr c2]; rfl
        · rw [if_neg c2, beq_eq_false_iff_ne.mpr c2]; rfl
      · rw [if_neg c1, if_neg c1]
        by_cases c2 : aA V i = aE V j
        · rw [if_pos c2, beq_iff_eq.mpr c2, Bool.true_and]
          by_cases c3 : aE V i = aA V j
          · rw [if_pos c3, beq_iff_eq.mpr c3]; rfl
          · rw [if_neg c3, beq_eq_false_iff_ne.mpr c3]; rfl
        · rw [if_neg c2, beq_eq_false_iff_ne.mpr c2]; rfl
theorem sam_e {i j : Nat} (hj : aA V j ≠ aE V j) : (if aA V i = aA V j then aE V i == aE V j else aA V i == aE V j && aE V i == aA V j) = sam V i j := by
  unfold sam
  by_cases c1 : aA V i = aA V j
  · rw [if_pos c1, beq_iff_eq.mpr c1, Bool.true_and]
    have c2 : (aA V i == aE V j) = false := beq_eq_false_iff_ne.mpr (fun q => hj (c1.symm.trans q))
    rw [c2, Bool.false_and, Bool.or_false]
  · rw [if_neg c1, beq_eq_false_iff_ne.mpr c1, Bool.false_and, Bool.false_or]
/-- links i and j beside each other, as the class does it -/
def twT (t : ST) (V : AN) (i j : Nat) : ST := dT (wB (wB t 0 i (lN (aY V i * aY V j - (aY V i - aX V i) * (aY V j - aX V j)))) 1 i (lN (aY V i * aY V j))) (aP V) j
theorem twT_R (hR : repT t V) (h : okA N L V) {i j : Nat} (hij : i ≠ j) : repT (twT t V i j) (twA V i j) := ⟨rfl, hR.2.1, fun k hk => by
  rw [twA_f] at hk
  obtain ⟨r1, r2, r3, r4⟩ := hR.2.2 k (wi_t hk).1
  refine ⟨r1, r2, ?_, ?_⟩
  · show vp_updL (t.2.2.2 0) i _ k = lN (va_up (aX V) i _ k)
    unfold vp_updL va_up
    split
    · rfl
    · exact r3
  · show vp_updL (t.2.2.2 1) i _ k = lN (va_up (aY V) i _ k)
    unfold vp_updL va_up
    split
    · rfl
    · exact r4⟩
theorem jt_i (hR : repT t V) (h : okA N L V) (hn : ¬ rnd V < 10) {i : Nat} (hi : i < 10) : vLoop (m_X8_joinTwins_L12 (nI i)) FUEL (nI (i + 1), t) = some (if twj V i < 10 then .inr ((1 : Int32), twT t V i (twj V i)) else .inl t) := by
  refine srch (p := fun j => decide (i < j) && tP V i && tP V j && sam V i j) (R := fun j => ((1 : Int32), twT t V i j)) 10 (i + 1) (by omega) (by omega) (fun j hj => ?_) (fun j hj => ?_) (fun j hij hj hp => ?_) (fun j hij hj hp => ?_) ?_
  · show (decide (i < j) && _ && _ && _) = false
    rw [decide_eq_false (by omega)]; rfl
  · show (decide (i < j) && tP V i && tP V j && _) = false
    cases q : tP V j
    · simp
    · exact absurd (okA_10 h q).2 (by omega)
  · have hp : (decide (i < j) && tP V i && tP V j && sam V i j) = false := hp
    rw [decide_eq_true (show i < j by omega), Bool.true_and] at hp
    unfold m_X8_joinTwins_L12
    simp only [un, lt]
    rw [if_neg (by rw [qle_10 (by omega)]; omega), at_e hR h hi hj, Option.bind_some, bz_if, nI_1, if_neg]
    intro q
    by_cases q2 : tP V j = true
    · rw [sam_e (no_rnd hn q2 hj), hp] at q; cases q
    · rw [Bool.eq_false_iff.mpr q2, Bool.and_false, Bool.false_and] at q; cases q
  · have hp : (decide (i < j) && tP V i && tP V j && sam V i j) = true := hp
    rw [decide_eq_true (show i < j by omega), Bool.true_and] at hp
    have hp2 := hp
    simp only [Bool.and_eq_true] at hp2
    obtain ⟨⟨q1, q2⟩, q3⟩ := hp2
    obtain ⟨-, -, r1, r2⟩ := hR.2.2 i q1
    obtain ⟨-, -, r3, r4⟩ := hR.2.2 j q2
    obtain ⟨-, -, yi, xi⟩ := h.2.2.2.2.2.2 i q1
    obtain ⟨-, -, yj, xj⟩ := h.2.2.2.2.2.2 j q2
    have hz := zprod xi xj
    unfold m_X8_joinTwins_L12
    simp only [un, lt]
    rw [if_neg (by rw [qle_10 (by omega)]; omega), at_e hR h hi hj, sam_e (no_rnd hn q2 hj), hp, Option.bind_some, if_neg (by decide)]
    simp only [gd_in (i := i) (N := 10) (by omega) (by omega), gd_i2 (i := i) (N := 10) (by omega) (by omega), gd_in (i := j) (N := 10) (by omega) (by omega), gd_i2 (i := j) (N := 10) (by omega) (by omega), nI_clamp (n := i) (by omega), nI_clamp (n := j) (by omega), r1, r2, r3, r4, lN_mul, lN_sub xi, lN_sub xj, lN_sub hz]
    rw [show (wB (wB t 0 i (lN (aY V i * aY V j - (aY V i - aX V i) * (aY V j - aX V j)))) 1 i (lN (aY V i * aY V j))).1 0 = nI (aP V) from hR.1, shl_1 j (by omega), wo_i]
    rfl
  · unfold m_X8_joinTwins_L12
    simp only [un]
    rw [if_pos (by rw [qle_10 (by omega)]; omega)]
theorem jt_e (hR : repT t V) (h : okA N L V) (hn : ¬ rnd V < 10) : m_X8_joinTwins t = some (if twi V < 10 then ((1 : Int32), twT t V (twi V) (twj V (twi V))) else ((0 : Int32), t)) := by
  unfold m_X8_joinTwins
  have hl : vLoop m_X8_joinTwins_L2 FUEL ((0 : Int32), t) = some (if twi V < 10 then .inr ((1 : Int32), twT t V (twi V) (twj V (twi V))) else .inl t) := by
    refine srch (p := fun i => decide (twj V i < 10)) (R := fun i => ((1 : Int32), twT t V i (twj V i))) 10 0 (by omega) (by omega) (fun j hj => absurd hj (Nat.not_lt_zero j)) (fun j hj => ?_) (fun j _ hj hp => ?_) (fun j _ hj hp => ?_) ?_
    · refine decide_eq_false (fun q => ?_)
      have h2 := first_t (p := fun k => decide (j < k) && tP V j && tP V k && sam V j k) q
      have h2 : (decide (j < twj V j) && tP V j && tP V (twj V j) && sam V j (twj V j)) = true := h2
      simp only [Bool.and_eq_true] at h2
      exact absurd (okA_10 h h2.1.1.2).2 (by omega)
    · have hp := of_decide_eq_false hp
      unfold m_X8_joinTwins_L2
      simp only [un, lt]
      rw [if_neg (by rw [qle_10 (by omega)]; omega), nI_1, jt_i hR h hn hj, if_neg hp, Option.bind_some]
      rfl
    · have hp := of_decide_eq_true hp
      unfold m_X8_joinTwins_L2
      simp only [un, lt]
      rw [if_neg (by rw [qle_10 (by omega)]; omega), nI_1, jt_i hR h hn hj, if_pos hp, Option.bind_some]
      rfl
    · unfold m_X8_joinTwins_L2
      simp only [un]
      rw [if_pos (by rw [qle_10 (by omega)]; omega)]
  rw [hl, Option.bind_some]
  by_cases q : twi V < 10
  · rw [if_pos q, if_pos q]; rfl
  · rw [if_neg q, if_neg q]; rfl
theorem la_e (hR : repT t V) (h : okA N L V) {v : Nat} (hv : v < 7) : m_X8_linksAt t (nI v) = some (nI (la V v)) := by
  unfold m_X8_linksAt la
  have hl : vLoop (m_X8_linksAt_L4 (nI v) t) FUEL ((0 : Int32), (0 : Int32)) = some (nI (bm (fun i => tP V i && (aA V i == v || aE V i == v)) 10)) := by
    refine vl_F (fun i => (nI (bm (fun i => tP V i && (aA V i == v || aE V i == v)) i), nI i)) 0 10 (by omega) (by omega) (fun i _ hi => ?_) ?_
    · unfold m_X8_linksAt_L4
      simp only [un, lt]
      rw [if_neg (by rw [qle_10 (by omega)]; omega), it_e hR h hi, Option.bind_some, bz_if, shl_1 i (by omega), fa_or, nI_1]
      cases q : tP V i
      · rw [if_neg (by decide), bm_same (f := fun i => tP V i && (aA V i == v || aE V i == v)) (by rw [q]; rfl)]
      · obtain ⟨r1, r2, -, -⟩ := hR.2.2 i q
        obtain ⟨n1, n2⟩ := N31 h q
        simp only [gd_in (i := i) (N := 10) (by omega) (by omega), gd_i2 (i := i) (N := 10) (by omega) (by omega), nI_clamp (n := i) (by omega), r1, r2, qeq (b := v) n1 (by omega), qeq (b := v) n2 (by omega), if_true]
        by_cases c1 : aA V i = v
        · rw [if_pos c1, bm_next (f := fun i => tP V i && (aA V i == v || aE V i == v)) (by rw [q, beq_iff_eq.mpr c1]; rfl)]
        · rw [if_neg c1]
          by_cases c2 : aE V i = v
          · rw [if_pos c2, bm_next (f := fun i => tP V i && (aA V i == v || aE V i == v)) (by rw [q, beq_iff_eq.mpr c2, Bool.or_true]; rfl)]
          · rw [if_neg c2, bm_same (f := fun i => tP V i && (aA V i == v || aE V i == v)) (by rw [q, beq_eq_false_iff_ne.mpr c1, beq_eq_false_iff_ne.mpr c2]; rfl)]
    · unfold m_X8_linksAt_L4
      simp only [un]
      rw [if_pos (by rw [qle_10 (by omega)]; omega)]
  rw [hl, Option.bind_some]
theorem fre_t {v n : Nat} : fre V v n = true ↔ (aW V).testBit v = false ∧ pc (la V v) = n := by
  unfold fre
  rw [Bool.and_eq_true, Bool.not_eq_true', decide_eq_true_eq]
theorem la_mem {v : Nat} (h : okA N L V) (h0 : 0 < la V v) : tz (la V v) < 10 ∧ tP V (tz (la V v)) = true ∧ (aA V (tz (la V v)) = v ∨ aE V (tz (la V v)) = v) := by
  obtain ⟨t1, t2, -⟩ := tz_10 _ (la_lt V v) h0
  obtain ⟨t3, t4⟩ := (la_t h).mp t2
  exact ⟨t1, t3, t4⟩
theorem pc_pos {m n : Nat} (hm : m < 1024) (h : pc m = n) (hn : n ≠ 0) : 0 < m := by
  rcases Nat.eq_zero_or_pos m with q | q
  · have := (pc_0 m hm).mpr q
    omega
  · exact q
theorem de_l (hR : repT t V) (h : okA N L V) : vLoop (m_X8_dropEnd_L5 t) FUEL ((10 : Int32), (0 : Int32)) = some (nI (edg V)) := by
  have hN := h.1
  have f1 := fa_first_le (fun i => tP V i && (fre V (aA V i) 1 || fre V (aE V i) 1)) 10
  have f2 := fa_first_no (fun i => tP V i && (fre V (aA V i) 1 || fre V (aE V i) 1)) 10
  have f3 := fa_first_yes (fun i => tP V i && (fre V (aA V i) 1 || fre V (aE V i) 1)) 10
  obtain ⟨e, he, m, rfl, hm10, hm1, hm2⟩ := vl_totF (B := m_X8_dropEnd_L5 t) (fun c st => ∃ v m, v ≤ 7 ∧ c = 7 - v ∧ st = (nI m, nI v) ∧ m ≤ 10 ∧ (m < 10 → ∃ u, u < v ∧ fre V u 1 = true ∧ tz (la V u) = m) ∧ ∀ u, u < v → fre V u 1 = true → m ≤ tz (la V u)) (fun e => ∃ m, e = nI m ∧ m ≤ 10 ∧ (m < 10 → ∃ u, u < 7 ∧ fre V u 1 = true ∧ tz (la V u) = m) ∧ ∀ u, u < 7 → fre V u 1 = true → m ≤ tz (la V u)) (by
    rintro c st ⟨v, m, hv, rfl, rfl, h1, h2, h3⟩
    unfold m_X8_dropEnd_L5
    simp only [un, lt]
    by_cases h7 : v = 7
    · left
      rw [if_pos (by rw [qle_7 (by omega)]; omega)]
      subst h7
      exact ⟨_, rfl, m, rfl, h1, h2, h3⟩
    · right
      have hla := la_lt V v
      rw [if_neg (by rw [qle_7 (by omega)]; omega), la_e hR h (by omega), Option.bind_some, iw_t hR h (by omega), Option.bind_some, bz_if, nI_1]
      have hkeep : ¬ fre V v 1 = true → ∃ t1, (some (Sum.inl (nI m, nI (v + 1))) : Option ((Int32 × Int32) ⊕ Int32)) = some (Sum.inl t1) ∧ ∃ j, j < 7 - v ∧ ∃ v m, v ≤ 7 ∧ j = 7 - v ∧ t1 = (nI m, nI v) ∧ m ≤ 10 ∧ (m < 10 → ∃ u, u < v ∧ fre V u 1 = true ∧ tz (la V u) = m) ∧ ∀ u, u < v → fre V u 1 = true → m ≤ tz (la V u) := fun hf => ⟨_, rfl, 7 - (v + 1), by omega, v + 1, m, by omega, rfl, rfl, h1, fun q => by
        obtain ⟨u, a, c, d⟩ := h2 q
        exact ⟨u, by omega, c, d⟩, fun u hu hfu => by
        by_cases huv : u = v
        · subst huv; exact absurd hfu hf
        · exact h3 u (by omega) hfu⟩
      by_cases hw : (aW V).testBit v = true
      · rw [if_pos hw]
        exact hkeep (fun q => by rw [(fre_t.mp q).1] at hw; cases hw)
      · rw [if_neg hw, bc_e _ hla, Option.bind_some]
        have hpc := pc_lt (x := la V v)
        by_cases h1c : pc (la V v) = 1
        · have hfr : fre V v 1 = true := fre_t.mpr ⟨Bool.eq_false_iff.mpr hw, h1c⟩
          have h0 := pc_pos hla h1c (by omega)
          obtain ⟨t1, -, -⟩ := la_mem h h0
          rw [if_pos (by rw [h1c]; rfl), tz_e _ hla h0, Option.bind_some]
          refine ⟨(nI (if tz (la V v) < m then tz (la V v) else m), nI (v + 1)), ?_, 7 - (v + 1), by omega, v + 1, _, by omega, rfl, rfl, ?_, fun q => ?_, fun u hu hfu => ?_⟩
          · by_cases q : tz (la V v) < m
            · rw [if_pos (nI_lt q (by omega)), if_pos q]
            · rw [if_neg (nI_nlt (by omega) (by omega)), if_neg q]
          · split <;> omega
          · by_cases q2 : tz (la V v) < m
            · rw [if_pos q2]; exact ⟨v, by omega, hfr, rfl⟩
            · rw [if_neg q2] at q ⊢
              obtain ⟨u, a, c, d⟩ := h2 q
              exact ⟨u, by omega, c, d⟩
          · by_cases huv : u = v
            · subst huv; split <;> omega
            · have := h3 u (by omega) hfu
              split <;> omega
        · rw [if_neg (by rw [qeq_1 (by omega)]; exact h1c)]
          exact hkeep (fun q => h1c (fre_t.mp q).2)) (i := 7 - 0) (s := ((10 : Int32), (0 : Int32))) (by omega) ⟨0, 10, by omega, rfl, rfl, by omega, fun q => absurd q (Nat.lt_irrefl 10), fun u hu => absurd hu (Nat.not_lt_zero u)⟩
  rw [he]
  have hfin : m = edg V := by
    unfold edg
    generalize fa_first (fun i => tP V i && (fre V (aA V i) 1 || fre V (aE V i) 1)) 10 = f at f1 f2 f3 ⊢
    apply Nat.le_antisymm
    · rcases Nat.lt_or_ge f 10 with q | q
      · have hp := f3 q
        have hp : (tP V f && (fre V (aA V f) 1 || fre V (aE V f) 1)) = true := hp
        rw [Bool.and_eq_true, Bool.or_eq_true] at hp
        obtain ⟨p1, p2⟩ := hp
        obtain ⟨a1, a2, -, -⟩ := h.2.2.2.2.2.2 f p1
        have hu : ∀ u, u < 7 → (aA V f = u ∨ aE V f = u) → fre V u 1 = true → m ≤ f := fun u hu7 hau hfu => by
          have h4 := hm2 u hu7 hfu
          obtain ⟨m1, m2⟩ := pc_1 _ (la_lt V u) (fre_t.mp hfu).2
          have hb : (la V u).testBit f = true := (la_t h).mpr ⟨p1, hau⟩
          rw [m1, p2_bit] at hb
          have := of_decide_eq_true hb
          omega
        rcases p2 with p2 | p2
        · exact hu (aA V f) (by omega) (Or.inl rfl) p2
        · exact hu (aE V f) (by omega) (Or.inr rfl) p2
      · omega
    · rcases Nat.lt_or_ge m 10 with q | q
      · obtain ⟨u, u1, u2, u3⟩ := hm1 q
        obtain ⟨t1, t2, t3⟩ := la_mem h (pc_pos (la_lt V u) (fre_t.mp u2).2 (by omega))
        rw [u3] at t2 t3
        rcases Nat.lt_or_ge m f with r | r
        · have hp := f2 m r
          have hp : (tP V m && (fre V (aA V m) 1 || fre V (aE V m) 1)) = false := hp
          rw [t2, Bool.true_and] at hp
          rcases t3 with t3 | t3
          · rw [t3, u2] at hp; cases hp
          · rw [t3, u2, Bool.or_true] at hp; cases hp
        · exact r
      · omega
  rw [hfin]
theorem de_e (hR : repT t V) (h : okA N L V) : m_X8_dropEnd t = some (if edg V < 10 then ((1 : Int32), dT t (aP V) (edg V)) else ((0 : Int32), t)) := by
  have f1 : edg V ≤ 10 := fa_first_le _ 10
  unfold m_X8_dropEnd
  dsimp only [lt]
  rw [de_l hR h, Option.bind_some]
  by_cases q : edg V < 10
  · rw [if_pos (by rw [qlt_10 (by omega)]; exact q), if_pos q, dT_e hR q]
  · rw [if_neg (by rw [qlt_10 (by omega)]; exact q), if_neg q]
end TC
