/-! what is shared behind a link -/
def opn (D : ND) (k s : Nat) : Bool := (List.range (dL D)).any fun j => decide (k < j) && (dA D j == s || dE D j == s)
def OP (D : ND) (k : Nat) : Nat := bm (opn D k) 7
def wbt (D : ND) (s v : Nat) : Bool := !(mk (EDD D s) v &&& dW D == 0)
def lostB (D : ND) (k s : Nat) : Bool := (List.range 7).any fun v => (dW D).testBit v && (mk (EDD D s) v &&& OP D k == 0)
def posB (D : ND) (k s : Nat) : Bool := (List.range (k + 1)).all fun j => (!(uP D j == wP D j) || s.testBit j) && (!(uP D j == 0) || !s.testBit j)
def fst (D : ND) (k s v : Nat) : Nat := fa_first (fun u => (mk (EDD D s) v &&& OP D k).testBit u) 7
def dgt (D : ND) (k s v : Nat) : Nat := if (OP D k).testBit v = true then 2 * fst D k s v + (if wbt D s v = true then 1 else 0) else 15
def key (D : ND) (k s : Nat) : Nat → Nat
  | 0 => 0
  | n + 1 => 16 * key D k s n + dgt D k s n
def NK (D : ND) (k s : Nat) : Option Nat := if rch D s = true ∨ lostB D k s = true then none else some (key D k s (dN D))
def NP (D : ND) (k s : Nat) : Option Nat := if posB D k s = true then NK D k s else none
/-- the different ones so far -/
def rl (D : ND) (k : Nat) : Nat → List Nat
  | 0 => []
  | i + 1 => match NP D k i with
    | none => rl D k i
    | some q => if q ∈ rl D k i then rl D k i else rl D k i ++ [q]
def WID (D : ND) (k : Nat) : Nat := (rl D k (2 ^ (k + 1))).length
section WI
variable {b t : ST} {D : ND}
theorem opn_iff {k s : Nat} : opn D k s = true ↔ ∃ j, j < dL D ∧ k < j ∧ (dA D j = s ∨ dE D j = s) := by
  unfold opn
  rw [List.any_eq_true]
  constructor
  · rintro ⟨j, h1, h2⟩
    rw [Bool.and_eq_true, Bool.or_eq_true, beq_iff_eq, beq_iff_eq, decide_eq_true_eq] at h2
    exact ⟨j, List.mem_range.mp h1, h2.1, h2.2⟩
  · rintro ⟨j, h1, h2, h3⟩
    refine ⟨j, List.mem_range.mpr h1, ?_⟩
    rw [Bool.and_eq_true, Bool.or_eq_true, beq_iff_eq, beq_iff_eq, decide_eq_true_eq]
    exact ⟨h2, h3⟩
theorem OP_lt (D : ND) (k : Nat) : OP D k < 128 := bm_lt _ 7
theorem OP_bit {k s : Nat} (hs : s < 7) : (OP D k).testBit s = opn D k s := by
  unfold OP
  rw [bm_bit, decide_eq_true hs]; rfl
theorem opn_N (hD : okD D) {k s : Nat} (h : opn D k s = true) : s < dN D := by
  obtain ⟨j, h1, h2, h3⟩ := opn_iff.mp h
  obtain ⟨e1, e2, -⟩ := hD.2.2.2.2.2 j h1
  omega
theorem ob_b (hC : repC b D) (hD : okD D) {k : Nat} (hk : k < dL D) : m_X6_openBehind b (nI k) = some (nI (OP D k)) := by
  have hL := hD.2.2.1
  have hN := hD.2.1
  unfold m_X6_openBehind
  dsimp only [lt]
  rw [nI_1]
  have hlc : m_X2_linkCount b = some (nI (dL D)) := congrArg some hC.2.1
  obtain ⟨e, he, M, rfl, hM7, hMb⟩ := vl_totF (B := m_X6_openBehind_L6 b) (fun m st => ∃ i M, k < i ∧ i ≤ dL D ∧ m = dL D - i ∧ st = (nI M, nI i) ∧ M < 128 ∧ ∀ s, s < 7 → (M.testBit s = true ↔ ∃ j, j < i ∧ k < j ∧ (dA D j = s ∨ dE D j = s))) (fun e => ∃ M, e = nI M ∧ M < 128 ∧ ∀ s, s < 7 → (M.testBit s = true ↔ ∃ j, j < dL D ∧ k < j ∧ (dA D j = s ∨ dE D j = s))) (by
    rintro m st ⟨i, M, hki, hi, rfl, rfl, h1, h2⟩
    unfold m_X6_openBehind_L6
    simp only [un, lt]
    rw [hlc, Option.bind_some]
    by_cases h : i = dL D
    · left
      rw [if_pos (by rw [qle (by omega) (by omega)]; omega)]
      subst h
      exact ⟨_, rfl, M, rfl, h1, h2⟩
    · right
      obtain ⟨e1, e2, -⟩ := hD.2.2.2.2.2 i (by omega)
      have hen : (2 ^ dA D i ||| 2 ^ dE D i) < 128 := or_lt (n := 7) (Nat.pow_lt_pow_right (by decide) (by omega)) (Nat.pow_lt_pow_right (by decide) (by omega))
      rw [if_neg (by rw [qle (by omega) (by omega)]; omega), lo_e hC hD (by omega), hi_e hC hD (by omega), Option.bind_some, Option.bind_some, shl_1 _ (by omega), shl_1 _ (by omega), fa_or, fa_or, nI_1]
      refine ⟨_, rfl, dL D - (i + 1), by omega, i + 1, M ||| (2 ^ dA D i ||| 2 ^ dE D i), by omega, by omega, rfl, rfl, or_lt (n := 7) h1 hen, fun s hs => ?_⟩
      rw [Nat.testBit_or, Nat.testBit_or, p2_bit, p2_bit]
      simp only [Bool.or_eq_true, decide_eq_true_eq]
      rw [h2 s hs]
      constructor
      · rintro (⟨j, a1, a2, a3⟩ | q)
        · exact ⟨j, by omega, a2, a3⟩
        · exact ⟨i, by omega, hki, q⟩
      · rintro ⟨j, a1, a2, a3⟩
        by_cases hji : j = i
        · subst hji; exact Or.inr a3
        · exact Or.inl ⟨j, by omega, a2, a3⟩) (i := dL D - (k + 1)) (s := ((0 : Int32), nI (k + 1))) (by omega) ⟨k + 1, 0, by omega, by omega, rfl, rfl, by omega, fun s _ => ⟨fun q => (by rw [Nat.zero_testBit] at q; cases q), fun ⟨j, a1, a2, _⟩ => (by omega)⟩⟩
  rw [he, Option.bind_some]
  congr 2
  refine bit_ext (n := 7) hM7 (OP_lt D k) (fun i hi => ?_)
  apply Bool.eq_iff_iff.mpr
  rw [hMb i hi, OP_bit hi, opn_iff]
theorem su_b (hC : repC b D) (hD : okD D) {k : Nat} (hk : k < dL D) : m_X6_surelyUp b (nI k) = some (nI (bm (fun j => uP D j == wP D j) (k + 1))) := by
  have hL := hD.2.2.1
  unfold m_X6_surelyUp
  have hl : vLoop (m_X6_surelyUp_L4 (nI k) b) FUEL ((0 : Int32), (0 : Int32)) = some (nI (bm (fun j => uP D j == wP D j) (k + 1))) := by
    refine vl_F (fun i => (nI (bm (fun j => uP D j == wP D j) i), nI i)) 0 (k + 1) (by omega) (by omega) (fun i _ hi => ?_) ?_
    · obtain ⟨w1, w2, w3⟩ := uP_le hD (show i < dL D by omega)
      unfold m_X6_surelyUp_L4
      simp only [un, lt]
      rw [if_neg (by rw [qlt (by omega) (by omega)]; omega), up_e hC hD (by omega), Option.bind_some, wh_e hC hD (by omega), Option.bind_some, shl_1 i (by omega), fa_or, nI_1]
      by_cases hq : uP D i = wP D i
      · rw [if_pos (by rw [hq]), bm_next (f := fun j => uP D j == wP D j) (beq_iff_eq.mpr hq)]
      · rw [if_neg (by rw [qeq (by omega) (by omega)]; exact hq), bm_same (f := fun j => uP D j == wP D j) (beq_eq_false_iff_ne.mpr hq)]
    · unfold m_X6_surelyUp_L4
      simp only [un]
      rw [if_pos (by rw [qlt (by omega) (by omega)]; omega)]
  rw [hl, Option.bind_some]
theorem sd_b (hC : repC b D) (hD : okD D) {k : Nat} (hk : k < dL D) : m_X6_surelyDown b (nI k) = some (nI (bm (fun j => uP D j == 0) (k + 1))) := by
  have hL := hD.2.2.1
  unfold m_X6_surelyDown
  have hl : vLoop (m_X6_surelyDown_L4 (nI k) b) FUEL ((0 : Int32), (0 : Int32)) = some (nI (bm (fun j => uP D j == 0) (k + 1))) := by
    refine vl_F (fun i => (nI (bm (fun j => uP D j == 0) i), nI i)) 0 (k + 1) (by omega) (by omega) (fun i _ hi => ?_) ?_
    · obtain ⟨w1, w2, w3⟩ := uP_le hD (show i < dL D by omega)
      unfold m_X6_surelyDown_L4
      simp only [un, lt]
      rw [if_neg (by rw [qlt (by omega) (by omega)]; omega), up_e hC hD (by omega), Option.bind_some, shl_1 i (by omega), fa_or, nI_1]
      by_cases hq : uP D i = 0
      · rw [if_pos (by rw [qeq_0 (by omega)]; exact hq), bm_next (f := fun j => uP D j == 0) (beq_iff_eq.mpr hq)]
      · rw [if_neg (by rw [qeq_0 (by omega)]; exact hq), bm_same (f := fun j => uP D j == 0) (beq_eq_false_iff_ne.mpr hq)]
    · unfold m_X6_surelyDown_L4
      simp only [un]
      rw [if_pos (by rw [qlt (by omega) (by omega)]; omega)]
  rw [hl, Option.bind_some]
theorem pos_iff {k s : Nat} : posB D k s = true ↔ ∀ j, j < k + 1 → (uP D j = wP D j → s.testBit j = true) ∧ (uP D j = 0 → s.testBit j = false) := by
  unfold posB
  rw [List.all_eq_true]
  constructor
  · intro h j hj
    have h2 := h j (List.mem_range.mpr hj)
    rw [Bool.and_eq_true, Bool.or_eq_true, Bool.or_eq_true, Bool.not_eq_true', Bool.not_eq_true', Bool.not_eq_true', beq_eq_false_iff_ne, beq_eq_false_iff_ne] at h2
    exact ⟨fun q => h2.1.resolve_left (fun r => r q), fun q => h2.2.resolve_left (fun r => r q)⟩
  · intro h j hj
    obtain ⟨h1, h2⟩ := h j (List.mem_range.mp hj)
    rw [Bool.and_eq_true, Bool.or_eq_true, Bool.or_eq_true, Bool.not_eq_true', Bool.not_eq_true', Bool.not_eq_true', beq_eq_false_iff_ne, beq_eq_false_iff_ne]
    refine ⟨?_, ?_⟩
    · by_cases q : uP D j = wP D j
      · exact Or.inr (h1 q)
      · exact Or.inl q
    · by_cases q : uP D j = 0
      · exact Or.inr (h2 q)
      · exact Or.inl q
theorem pos_C {k s : Nat} : posB D k s = true ↔ (s &&& bm (fun j => uP D j == wP D j) (k + 1) = bm (fun j => uP D j == wP D j) (k + 1) ∧ s &&& bm (fun j => uP D j == 0) (k + 1) = 0) := by
  rw [pos_iff, sub_iff, and0_iff]
  constructor
  · intro h
    refine ⟨fun i hi => ?_, fun i hi => ?_⟩
    · rw [bm_bit, Bool.and_eq_true, decide_eq_true_eq, beq_iff_eq] at hi
      exact (h i hi.1).1 hi.2
    · rw [bm_bit, Bool.and_eq_true, decide_eq_true_eq, beq_iff_eq] at hi
      exact (h i hi.1).2 hi.2
  · rintro ⟨h1, h2⟩ j hj
    refine ⟨fun q => h1 j ?_, fun q => h2 j ?_⟩ <;> (rw [bm_bit, Bool.and_eq_true, decide_eq_true_eq, beq_iff_eq]; exact ⟨hj, q⟩)
theorem lo_b (hC : repC b D) (hJ : jnC b D) (hD : okD D) {k s : Nat} (hs : s < 2 ^ dL D) : m_X6_isLost b (nI s) (nI (OP D k)) = some (bz (lostB D k s)) := by
  have hW := dW_lt7 hD
  have hO := OP_lt D k
  unfold m_X6_isLost
  rw [wa_e hC hD, Option.bind_some]
  obtain ⟨e, he, hQ⟩ := vl_totF (B := m_X6_isLost_L11 (nI s) (nI (OP D k)) (nI (dW D)) b) (fun m st => ∃ v, v ≤ 7 ∧ m = 7 - v ∧ st = nI v ∧ ∀ j, j < v → ((dW D).testBit j && (mk (EDD D s) j &&& OP D k == 0)) = false) (fun e => ex e (fun (_ : Unit) => some (0 : Int32)) (fun r_19 => some r_19) = some (bz (lostB D k s))) (by
    rintro m st ⟨v, hv, rfl, rfl, hno⟩
    unfold m_X6_isLost_L11
    dsimp only [lt]
    by_cases h7 : v = 7
    · left
      rw [if_pos (by rw [qle_7 (by omega)]; omega)]
      refine ⟨_, rfl, ?_⟩
      have hl : lostB D k s = false := by
        unfold lostB
        rw [List.any_eq_false]
        intro j hj
        rw [hno j (by have := List.mem_range.mp hj; omega)]; decide
      rw [hl]
      rfl
    · have hm := mk_lt (EDD D s) v
      have han : (mk (EDD D s) v &&& OP D k) < 128 := Nat.lt_of_le_of_lt Nat.and_le_left hm
      rw [if_neg (by rw [qle_7 (by omega)]; omega), shr_bit (by omega) (by omega), bz_if, jw_e hJ hD hs (by omega), Option.bind_some, fa_and, nI_1]
      by_cases hw : (dW D).testBit v = true
      · rw [if_pos hw]
        by_cases h0 : mk (EDD D s) v &&& OP D k = 0
        · left
          rw [if_pos (by rw [h0]; rfl)]
          refine ⟨_, rfl, ?_⟩
          have hl : lostB D k s = true := by
            unfold lostB
            rw [List.any_eq_true]
            exact ⟨v, List.mem_range.mpr (by omega), by rw [hw, beq_iff_eq.mpr h0]; rfl⟩
          rw [hl]
          rfl
        · right
          rw [if_neg (by rw [qeq_0 (by omega)]; exact h0)]
          refine ⟨_, rfl, 7 - (v + 1), by omega, v + 1, by omega, rfl, rfl, fun j hj => ?_⟩
          by_cases hjv : j = v
          · subst hjv; rw [beq_eq_false_iff_ne.mpr h0, Bool.and_false]
          · exact hno j (by omega)
      · right
        rw [if_neg hw]
        refine ⟨_, rfl, 7 - (v + 1), by omega, v + 1, by omega, rfl, rfl, fun j hj => ?_⟩
        by_cases hjv : j = v
        · subst hjv
          rw [Bool.eq_false_iff.mpr hw]; rfl
        · exact hno j (by omega)) (i := 7 - 0) (s := (0 : Int32)) (by omega) ⟨0, by omega, rfl, rfl, fun j hj => absurd hj (Nat.not_lt_zero j)⟩
  rw [he, Option.bind_some]
  exact hQ
/-- a look: seven bits a station, one more for the wanted -/
def LK (D : ND) (k s q : Nat) : Prop := q < 2 ^ 56 ∧ (∀ v u, v < 7 → u < 7 → q.testBit (7 * v + u) = ((OP D k).testBit v && (mk (EDD D s) v &&& OP D k).testBit u)) ∧ ∀ v, v < 7 → q.testBit (49 + v) = ((OP D k).testBit v && wbt D s v)
theorem shl_b {x n v u c : Nat} (hx : x < 2 ^ 7) (hv : v < 7) (hu : u < 7) (hc : c < 7) : (x * 2 ^ (7 * v)).testBit (7 * c + u) = (decide (c = v) && x.testBit u) := by
  rw [← Nat.shiftLeft_eq, Nat.testBit_shiftLeft]
  rcases Nat.lt_trichotomy c v with h | h | h
  · rw [decide_eq_false (show ¬ (7 * c + u ≥ 7 * v) by omega), decide_eq_false (by omega)]; rfl
  · subst h
    rw [decide_eq_true (show (7 * c + u ≥ 7 * c) by omega), decide_eq_true rfl, Nat.add_sub_cancel_left]
  · rw [decide_eq_false (show ¬ (c = v) by omega), bit_ge (n := 7) hx (by omega)]
    simp
theorem look_e (hC : repC b D) (hJ : jnC b D) (hD : okD D) {k s : Nat} (hs : s < 2 ^ dL D) : ∃ q, m_X6_lookOf b (nI s) (nI (OP D k)) = some (lN q) ∧ LK D k s q := by
  have hW := dW_lt7 hD
  have hO := OP_lt D k
  unfold m_X6_lookOf
  rw [wa_e hC hD, Option.bind_some]
  obtain ⟨e, he, q, rfl, hq⟩ := vl_totF (B := m_X6_lookOf_L14 (nI s) (nI (OP D k)) (nI (dW D)) b) (fun m st => ∃ i q, i ≤ 7 ∧ m = 7 - i ∧ st = (lN q, nI i) ∧ q < 2 ^ 56 ∧ (∀ v u, v < 7 → u < 7 → q.testBit (7 * v + u) = (decide (v < i) && ((OP D k).testBit v && (mk (EDD D s) v &&& OP D k).testBit u))) ∧ ∀ v, v < 7 → q.testBit (49 + v) = (decide (v < i) && ((OP D k).testBit v && wbt D s v))) (fun e => ∃ q, e = lN q ∧ LK D k s q) (by
    rintro m st ⟨i, q, hi, rfl, rfl, h1, h2, h3⟩
    unfold m_X6_lookOf_L14
    simp only [un, lt]
    by_cases h7 : i = 7
    · left
      rw [if_pos (by rw [qle_7 (by omega)]; omega)]
      subst h7
      refine ⟨_, rfl, q, rfl, h1, fun v u hv hu => ?_, fun v hv => ?_⟩
      · rw [h2 v u hv hu, decide_eq_true hv]; rfl
      · rw [h3 v hv, decide_eq_true hv]; rfl
    · right
      have hm := mk_lt (EDD D s) i
      have han : (mk (EDD D s) i &&& OP D k) < 2 ^ 7 := Nat.lt_of_le_of_lt Nat.and_le_left hm
      have han2 : (mk (EDD D s) i &&& dW D) < 2 ^ 7 := Nat.lt_of_le_of_lt Nat.and_le_left hm
      rw [if_neg (by rw [qle_7 (by omega)]; omega), shr_bit (by omega) (by omega), bz_if, jw_e hJ hD hs (by omega), Option.bind_some, fa_and, fa_and, nI_1, nI_l (by omega), show (7 : Int32) * nI i = nI (7 * i) from pk_mul 7 i, show (49 : Int32) + nI i = nI (49 + i) from nI_add 49 i, wb_shl _ (show 7 * i < 64 by omega), fb_orL, show (1 : Int64) = lN 1 from rfl, wb_shl _ (show 49 + i < 64 by omega), fb_orL, Nat.one_mul]
      simp only [qeq_0 (i := mk (EDD D s) i &&& dW D) (by omega)]
      have hmul : (mk (EDD D s) i &&& OP D k) * 2 ^ (7 * i) < 2 ^ 49 := by
        have h4 : (mk (EDD D s) i &&& OP D k) * 2 ^ (7 * i) < 2 ^ 7 * 2 ^ (7 * i) := (Nat.mul_lt_mul_right (Nat.two_pow_pos _)).mpr han
        rw [← Nat.pow_add] at h4
        exact Nat.lt_of_lt_of_le h4 (Nat.pow_le_pow_right (by decide) (by omega))
      by_cases ho : (OP D k).testBit i = true
      · rw [if_pos ho]
        have hq1 : (q ||| (mk (EDD D s) i &&& OP D k) * 2 ^ (7 * i)) < 2 ^ 56 := or_lt h1 (Nat.lt_trans hmul (by decide))
        have hb1 : ∀ v u, v < 7 → u < 7 → (q ||| (mk (EDD D s) i &&& OP D k) * 2 ^ (7 * i)).testBit (7 * v + u) = (decide (v < i + 1) && ((OP D k).testBit v && (mk (EDD D s) v &&& OP D k).testBit u)) := fun v u hv hu => by
          rw [Nat.testBit_or, h2 v u hv hu, shl_b (n := 0) han (by omega) hu hv]
          rcases Nat.lt_trichotomy v i with g | g | g
          · rw [decide_eq_true g, decide_eq_true (show v < i + 1 by omega), decide_eq_false (show ¬ v = i by omega)]; simp
          · subst g
            rw [decide_eq_false (Nat.lt_irrefl v), decide_eq_true (Nat.lt_succ_self v), decide_eq_true rfl, ho]; simp
          · rw [decide_eq_false (show ¬ v < i by omega), decide_eq_false (show ¬ v < i + 1 by omega), decide_eq_false (show ¬ v = i by omega)]; simp
        have hb2 : ∀ v, v < 7 → (q ||| (mk (EDD D s) i &&& OP D k) * 2 ^ (7 * i)).testBit (49 + v) = (decide (v < i) && ((OP D k).testBit v && wbt D s v)) := fun v hv => by
          rw [Nat.testBit_or, h3 v hv, bit_ge hmul (by omega), Bool.or_false]
        by_cases hw : mk (EDD D s) i &&& dW D = 0
        · rw [if_pos hw]
          have hwf : wbt D s i = false := by unfold wbt; rw [beq_iff_eq.mpr hw]; rfl
          refine ⟨_, rfl, 7 - (i + 1), by omega, i + 1, _, by omega, rfl, rfl, hq1, hb1, fun v hv => ?_⟩
          rw [hb2 v hv]
          by_cases g : v = i
          · subst g; rw [hwf, Bool.and_false, Bool.and_false, Bool.and_false]
          · rw [show decide (v < i + 1) = decide (v < i) from decide_eq_decide.mpr (by omega)]
        · rw [if_neg hw]
          have hwf : wbt D s i = true := by unfold wbt; rw [beq_eq_false_iff_ne.mpr hw]; rfl
          refine ⟨_, rfl, 7 - (i + 1), by omega, i + 1, _, by omega, rfl, rfl, or_lt hq1 (Nat.pow_lt_pow_right (by decide) (by omega)), fun v u hv hu => ?_, fun v hv => ?_⟩
          · rw [Nat.testBit_or, hb1 v u hv hu, p2_bit, decide_eq_false (show ¬ 49 + i = 7 * v + u by omega), Bool.or_false]
          · rw [Nat.testBit_or, hb2 v hv, p2_bit]
            rcases Nat.lt_trichotomy v i with g | g | g
            · rw [decide_eq_true g, decide_eq_true (show v < i + 1 by omega), decide_eq_false (show ¬ 49 + i = 49 + v by omega)]; simp
            · subst g
              rw [decide_eq_false (Nat.lt_irrefl v), decide_eq_true (Nat.lt_succ_self v), decide_eq_true rfl, ho, hwf]; simp
            · rw [decide_eq_false (show ¬ v < i by omega), decide_eq_false (show ¬ v < i + 1 by omega), decide_eq_false (show ¬ 49 + i = 49 + v by omega)]; simp
      · rw [if_neg ho]
        have hof := Bool.eq_false_iff.mpr ho
        refine ⟨_, rfl, 7 - (i + 1), by omega, i + 1, q, by omega, rfl, rfl, h1, fun v u hv hu => ?_, fun v hv => ?_⟩
        · rw [h2 v u hv hu]
          by_cases g : v = i
          · subst g; rw [hof, Bool.false_and, Bool.and_false, Bool.and_false]
          · rw [show decide (v < i + 1) = decide (v < i) from decide_eq_decide.mpr (by omega)]
        · rw [h3 v hv]
          by_cases g : v = i
          · subst g; rw [hof, Bool.false_and, Bool.and_false, Bool.and_false]
          · rw [show decide (v < i + 1) = decide (v < i) from decide_eq_decide.mpr (by omega)]) (i := 7 - 0) (s := ((0 : Int64), (0 : Int32))) (by omega) ⟨0, 0, by omega, rfl, rfl, by decide, fun v u _ _ => by rw [Nat.zero_testBit, decide_eq_false (Nat.not_lt_zero v)]; rfl, fun v _ => by rw [Nat.zero_testBit, decide_eq_false (Nat.not_lt_zero v)]; rfl⟩
  rw [he, Option.bind_some]
  exact ⟨q, rfl, hq⟩
/-! looks are equal as keys are -/
theorem dgt_le (k s n : Nat) : dgt D k s n ≤ 15 := by
  have := fa_first_le (fun u => (mk (EDD D s) n &&& OP D k).testBit u) 7
  unfold dgt fst
  (repeat' split) <;> omega
theorem key_eq {k s r : Nat} : ∀ n, key D k s n = key D k r n ↔ ∀ v, v < n → dgt D k s v = dgt D k r v
  | 0 => ⟨fun _ v hv => absurd hv (Nat.not_lt_zero v), fun _ => rfl⟩
  | n + 1 => by
    have ih := key_eq (k := k) (s := s) (r := r) n
    have h1 := dgt_le (D := D) k s n
    have h2 := dgt_le (D := D) k r n
    unfold key
    constructor
    · intro h v hv
      by_cases hvn : v = n
      · subst hvn; omega
      · exact ih.mp (by omega) v (by omega)
    · intro h
      have h3 := ih.mpr (fun v hv => h v (by omega))
      have h4 := h n (by omega)
      omega
theorem an_bit {s v u k : Nat} : (mk (EDD D s) v &&& OP D k).testBit u = true ↔ (mk (EDD D s) v).testBit u = true ∧ (OP D k).testBit u = true := by
  rw [Nat.testBit_and, Bool.and_eq_true]
theorem fst_spec {k s v : Nat} (hv : v < 7) (ho : (OP D k).testBit v = true) : fst D k s v < 7 ∧ jn (EDD D s) v (fst D k s v) ∧ (OP D k).testBit (fst D k s v) = true ∧ ∀ u, u < fst D k s v → (mk (EDD D s) v &&& OP D k).testBit u = false := by
  have hno := fa_first_no (fun u => (mk (EDD D s) v &&& OP D k).testBit u) 7
  have hye := fa_first_yes (fun u => (mk (EDD D s) v &&& OP D k).testBit u) 7
  have hle := fa_first_le (fun u => (mk (EDD D s) v &&& OP D k).testBit u) 7
  unfold fst
  have hvv : (mk (EDD D s) v &&& OP D k).testBit v = true := an_bit.mpr ⟨(mk_jn hv).mpr rfl, ho⟩
  have h7 : fa_first (fun u => (mk (EDD D s) v &&& OP D k).testBit u) 7 < 7 := by
    rcases Nat.lt_or_ge (fa_first (fun u => (mk (EDD D s) v &&& OP D k).testBit u) 7) 7 with q | q
    · exact q
    · have := hno v (by omega)
      rw [hvv] at this; cases this
  obtain ⟨a1, a2⟩ := an_bit.mp (hye h7)
  exact ⟨h7, (mk_jn h7).mp a1, a2, hno⟩
theorem fst_jn {k s v u : Nat} (hv : v < 7) (hu : u < 7) (hov : (OP D k).testBit v = true) (hou : (OP D k).testBit u = true) : jn (EDD D s) v u ↔ fst D k s v = fst D k s u := by
  obtain ⟨a1, a2, a3, a4⟩ := fst_spec (s := s) hv hov
  obtain ⟨b1, b2, b3, b4⟩ := fst_spec (s := s) hu hou
  constructor
  · intro h
    have c1 : (mk (EDD D s) v &&& OP D k).testBit (fst D k s u) = true := an_bit.mpr ⟨(mk_jn b1).mpr (h.trans b2), b3⟩
    have c2 : (mk (EDD D s) u &&& OP D k).testBit (fst D k s v) = true := an_bit.mpr ⟨(mk_jn a1).mpr (h.symm.trans a2), a3⟩
    rcases Nat.lt_trichotomy (fst D k s v) (fst D k s u) with q | q | q
    · rw [b4 _ q] at c2; cases c2
    · exact q
    · rw [a4 _ q] at c1; cases c1
  · intro h
    rw [← h] at b2
    exact a2.trans b2.symm
theorem look_key (hD : okD D) {k s r q p : Nat} (hq : LK D k s q) (hp : LK D k r p) : q = p ↔ key D k s (dN D) = key D k r (dN D) := by
  have hN := hD.2.1
  rw [key_eq]
  constructor
  · rintro rfl v hv
    unfold dgt
    by_cases ho : (OP D k).testBit v = true
    · rw [if_pos ho, if_pos ho]
      have h1 : mk (EDD D s) v &&& OP D k = mk (EDD D r) v &&& OP D k := by
        refine bit_ext (n := 7) (Nat.lt_of_le_of_lt Nat.and_le_left (mk_lt _ _)) (Nat.lt_of_le_of_lt Nat.and_le_left (mk_lt _ _)) (fun u hu => ?_)
        have a1 := hq.2.1 v u (by omega) hu
        have a2 := hp.2.1 v u (by omega) hu
        rw [ho, Bool.true_and] at a1 a2
        rw [← a1, ← a2]
      have h2 : wbt D s v = wbt D r v := by
        have a1 := hq.2.2 v (by omega)
        have a2 := hp.2.2 v (by omega)
        rw [ho, Bool.true_and] at a1 a2
        rw [← a1, ← a2]
      unfold fst
      rw [h1, h2]
    · rw [if_neg ho, if_neg ho]
  · intro h
    have hf : ∀ v, (OP D k).testBit v = true → v < 7 → fst D k s v = fst D k r v ∧ wbt D s v = wbt D r v := fun v ho hv => by
      have hvN : v < dN D := opn_N hD (by rw [← OP_bit hv]; exact ho)
      have h1 := h v hvN
      unfold dgt at h1
      rw [if_pos ho, if_pos ho] at h1
      cases hw1 : wbt D s v <;> cases hw2 : wbt D r v <;> rw [hw1, hw2] at h1 <;> simp at h1 <;> first | exact ⟨by omega, rfl⟩ | (exfalso; omega)
    refine bit_ext (n := 56) hq.1 hp.1 (fun i hi => ?_)
    by_cases h49 : i < 49
    · obtain ⟨v, u, hv, hu, rfl⟩ : ∃ v u, v < 7 ∧ u < 7 ∧ i = 7 * v + u := ⟨i / 7, i % 7, by omega, by omega, by omega⟩
      rw [hq.2.1 v u hv hu, hp.2.1 v u hv hu]
      by_cases ho : (OP D k).testBit v = true
      · rw [ho, Bool.true_and, Bool.true_and]
        apply Bool.eq_iff_iff.mpr
        rw [an_bit, an_bit, mk_jn hu, mk_jn hu]
        constructor
        · rintro ⟨a1, a2⟩
          refine ⟨(fst_jn hv hu ho a2).mpr ?_, a2⟩
          rw [← (hf v ho hv).1, ← (hf u a2 hu).1]
          exact (fst_jn hv hu ho a2).mp a1
        · rintro ⟨a1, a2⟩
          refine ⟨(fst_jn hv hu ho a2).mpr ?_, a2⟩
          rw [(hf v ho hv).1, (hf u a2 hu).1]
          exact (fst_jn hv hu ho a2).mp a1
      · rw [Bool.eq_false_iff.mpr ho]; rfl
    · obtain ⟨v, hv, rfl⟩ : ∃ v, v < 7 ∧ i = 49 + v := ⟨i - 49, by omega, by omega⟩
      rw [hq.2.2 v hv, hp.2.2 v hv]
      by_cases ho : (OP D k).testBit v = true
      · rw [(hf v ho hv).2]
      · rw [Bool.eq_false_iff.mpr ho]; rfl
/-! the class's width -/
theorem rl_len {k : Nat} : ∀ i, (rl D k i).length ≤ i
  | 0 => Nat.le_refl 0
  | i + 1 => by
    have ih := rl_len (k := k) i
    unfold rl
    split
    · omega
    · split
      · omega
      · rw [List.length_append]; show _ + 1 ≤ i + 1; omega
theorem am_b {F : Nat → Int64} {q : Int64} {n : Nat} (hn : n ≤ 1024) : m_X6_isAmong (wC b 2 F) q (nI n) = some (bz (decide (∃ j, j < n ∧ F j = q))) := by
  unfold m_X6_isAmong
  obtain ⟨e, he, hQ⟩ := vl_totF (B := m_X6_isAmong_L3 q (nI n) (wC b 2 F)) (fun m st => ∃ i, i ≤ n ∧ m = n - i ∧ st = nI i ∧ ∀ j, j < i → F j ≠ q) (fun e => ex e (fun (_ : Unit) => some (0 : Int32)) (fun r_15 => some r_15) = some (bz (decide (∃ j, j < n ∧ F j = q)))) (by
    rintro m st ⟨i, hi, rfl, rfl, hno⟩
    unfold m_X6_isAmong_L3
    dsimp only [lt]
    by_cases h : i = n
    · left
      rw [if_pos (by rw [qle (by omega) (by omega)]; omega)]
      refine ⟨_, rfl, ?_⟩
      rw [bz_d0 (fun ⟨j, a1, a2⟩ => hno j (by omega) a2)]
      rfl
    · rw [if_neg (by rw [qle (by omega) (by omega)]; omega), if_neg (by rw [qle_1024 (by omega)]; omega), gd_in (by omega) (by omega), nI_clamp (by omega), nI_1]
      simp only [lg_cmp_eq]
      by_cases hq : F i = q
      · left
        rw [if_pos (show (wC b 2 F).2.2.2 2 i = q from hq)]
        refine ⟨_, rfl, ?_⟩
        rw [bz_d1 ⟨i, by omega, hq⟩]
        rfl
      · right
        rw [if_neg (show ¬ (wC b 2 F).2.2.2 2 i = q from hq)]
        refine ⟨_, rfl, n - (i + 1), by omega, i + 1, by omega, rfl, rfl, fun j hj => ?_⟩
        by_cases hji : j = i
        · subst hji; exact hq
        · exact hno j (by omega)) (i := n - 0) (s := (0 : Int32)) (by omega) ⟨0, by omega, rfl, rfl, fun j hj => absurd hj (Nat.not_lt_zero j)⟩
  rw [he, Option.bind_some]
  exact hQ
end WI
