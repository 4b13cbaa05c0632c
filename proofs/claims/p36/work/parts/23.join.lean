/-! what a set of links joins: kept by the one, closed anew by the other -/
def bm (f : Nat → Bool) : Nat → Nat
  | 0 => 0
  | n + 1 => if f n = true then 2 ^ n + bm f n else bm f n
theorem bm_lt (f : Nat → Bool) : ∀ n, bm f n < 2 ^ n
  | 0 => by show 0 < 1; decide
  | n + 1 => by
    have ih := bm_lt f n
    show (if f n = true then 2 ^ n + bm f n else bm f n) < 2 ^ (n + 1)
    split <;> omega
theorem bm_bit (f : Nat → Bool) : ∀ n i, (bm f n).testBit i = (decide (i < n) && f i)
  | 0, i => by simp [bm]
  | n + 1, i => by
    have ih := bm_bit f n i
    have hl := bm_lt f n
    show (if f n = true then 2 ^ n + bm f n else bm f n).testBit i = _
    rcases Nat.lt_trichotomy i n with h | h | h
    · have h2 : decide (i < n + 1) = true := decide_eq_true (by omega)
      rw [decide_eq_true h] at ih
      rw [h2]
      split
      · rw [bit_low h, ih]
      · rw [ih]
    · subst h
      have h2 : decide (i < i + 1) = true := decide_eq_true (by omega)
      rw [h2]
      split
      · rename_i hf; rw [bit_top hl, hf]; rfl
      · rename_i hf
        rw [Nat.testBit_lt_two_pow hl]
        cases hq : f i
        · rfl
        · exact absurd hq hf
    · have h2 : decide (i < n + 1) = false := decide_eq_false (by omega)
      have h3 : (if f n = true then 2 ^ n + bm f n else bm f n) < 2 ^ (n + 1) := bm_lt f (n + 1)
      rw [h2, bit_ge h3 (by omega)]
      rfl
theorem bit_ext {x y n : Nat} (hx : x < 2 ^ n) (hy : y < 2 ^ n) (h : ∀ i, i < n → x.testBit i = y.testBit i) : x = y := by
  apply Nat.eq_of_testBit_eq
  intro i
  rcases Nat.lt_or_ge i n with q | q
  · exact h i q
  · rw [bit_ge hx q, bit_ge hy q]
theorem sub_iff {x y : Nat} : x &&& y = y ↔ ∀ i, y.testBit i = true → x.testBit i = true := by
  constructor
  · intro h i hi
    rw [← h, Nat.testBit_and] at hi
    exact (Bool.and_eq_true_iff.mp hi).1
  · intro h
    apply Nat.eq_of_testBit_eq
    intro i
    rw [Nat.testBit_and]
    cases hy : y.testBit i
    · exact Bool.and_false _
    · rw [h i hy]; rfl
theorem and0_iff {x y : Nat} : x &&& y = 0 ↔ ∀ i, y.testBit i = true → x.testBit i = false := by
  constructor
  · intro h i hi
    have h2 : (x &&& y).testBit i = false := by rw [h]; exact Nat.zero_testBit i
    rw [Nat.testBit_and, hi, Bool.and_true] at h2
    exact h2
  · intro h
    apply Nat.eq_of_testBit_eq
    intro i
    rw [Nat.testBit_and, Nat.zero_testBit]
    cases hy : y.testBit i
    · exact Bool.and_false _
    · rw [h i hy]; rfl
theorem wo0_iff {x y : Nat} : wo x y = 0 ↔ ∀ i, x.testBit i = true → y.testBit i = true := by
  constructor
  · intro h i hi
    have h2 : (wo x y).testBit i = false := by rw [h]; exact Nat.zero_testBit i
    rw [wo_bit, hi] at h2
    cases hy : y.testBit i
    · rw [hy] at h2; cases h2
    · rfl
  · intro h
    apply Nat.eq_of_testBit_eq
    intro i
    rw [wo_bit, Nat.zero_testBit]
    cases hx : x.testBit i
    · rfl
    · rw [h i hx]; rfl
theorem p2_bit (a i : Nat) : (2 ^ a).testBit i = decide (a = i) := Nat.testBit_two_pow
/-- what v is joined with, as bits -/
def mk (E : EL) (v : Nat) : Nat := bm (fun u => lab E v == lab E u) 7
theorem mk_lt (E : EL) (v : Nat) : mk E v < 128 := bm_lt _ 7
theorem mk_bit (E : EL) (v i : Nat) : (mk E v).testBit i = (decide (i < 7) && (lab E v == lab E i)) := bm_bit _ 7 i
theorem mk_jn {E : EL} {v i : Nat} (hi : i < 7) : (mk E v).testBit i = true ↔ jn E v i := by
  rw [mk_bit, decide_eq_true hi, Bool.true_and, beq_iff_eq]
  exact Iff.rfl
def JOK (J : Nat) (E : EL) : Prop := J < 2 ^ 49 ∧ ∀ v u, v < 7 → u < 7 → J.testBit (7 * v + u) = (lab E v == lab E u)
theorem si_e {J v : Nat} (hJ : J < 2 ^ 49) (hv : v < 7) : m_X2_stationsIn (lN J) (nI v) = some (nI (J / 2 ^ (7 * v) % 128)) := by
  unfold m_X2_stationsIn lt
  have h1 : (7 : Int32) * nI v = nI (7 * v) := pk_mul 7 v
  rw [h1, wb_shr (Nat.lt_trans hJ (by decide)) (show 7 * v < 64 by omega), lN_i, show (127 : Int32) = nI (2 ^ 7 - 1) from rfl, fa_mask]
theorem mk_J {J v : Nat} {E : EL} (h : JOK J E) (hv : v < 7) : J / 2 ^ (7 * v) % 128 = mk E v := by
  refine bit_ext (n := 7) (Nat.mod_lt _ (by decide)) (mk_lt E v) (fun i hi => ?_)
  rw [show (128 : Nat) = 2 ^ 7 from rfl, Nat.testBit_mod_two_pow, ← Nat.shiftRight_eq_div_pow, Nat.testBit_shiftRight, h.2 v i hv hi, mk_bit]
theorem si_mk {J v : Nat} {E : EL} (h : JOK J E) (hv : v < 7) : m_X2_stationsIn (lN J) (nI v) = some (nI (mk E v)) := by rw [si_e h.1 hv, mk_J h hv]
def jg (J T : Nat) : Nat → Nat
  | 0 => J
  | v + 1 => if T.testBit v = true then jg J T v ||| T * 2 ^ (7 * v) else jg J T v
theorem jg_lt {J T : Nat} (hJ : J < 2 ^ 49) (hT : T < 128) : ∀ v, v ≤ 7 → jg J T v < 2 ^ 49
  | 0, _ => hJ
  | v + 1, h => by
    have ih := jg_lt hJ hT v (by omega)
    unfold jg
    split
    · refine or_lt ih ?_
      have h1 : T * 2 ^ (7 * v) < 2 ^ 7 * 2 ^ (7 * v) := (Nat.mul_lt_mul_right (Nat.two_pow_pos _)).mpr hT
      rw [← Nat.pow_add] at h1
      exact Nat.lt_of_lt_of_le h1 (Nat.pow_le_pow_right (by decide) (by omega))
    · exact ih
theorem jg_bit {J T : Nat} (hT : T < 128) {c u : Nat} (hc : c < 7) (hu : u < 7) : ∀ v, (jg J T v).testBit (7 * c + u) = (J.testBit (7 * c + u) || (decide (c < v) && T.testBit c && T.testBit u))
  | 0 => by simp [jg]
  | v + 1 => by
    have ih := jg_bit (J := J) hT hc hu v
    unfold jg
    have hs : (T * 2 ^ (7 * v)).testBit (7 * c + u) = (decide (c = v) && T.testBit u) := by
      rw [← Nat.shiftLeft_eq, Nat.testBit_shiftLeft]
      rcases Nat.lt_trichotomy c v with h | h | h
      · rw [decide_eq_false (show ¬ (7 * c + u ≥ 7 * v) by omega), decide_eq_false (by omega)]; rfl
      · subst h
        rw [decide_eq_true (show (7 * c + u ≥ 7 * c) by omega), decide_eq_true rfl, Nat.add_sub_cancel_left]
      · rw [decide_eq_false (show ¬ (c = v) by omega), bit_ge (n := 7) hT (by omega)]
        simp
    split
    · rename_i hTv
      rw [Nat.testBit_or, ih, hs]
      rcases Nat.lt_trichotomy c v with h | h | h
      · rw [decide_eq_true h, decide_eq_true (show c < v + 1 by omega), decide_eq_false (show ¬ c = v by omega)]; simp
      · subst h
        rw [decide_eq_false (Nat.lt_irrefl c), decide_eq_true (Nat.lt_succ_self c), decide_eq_true rfl, hTv]; simp
      · rw [decide_eq_false (show ¬ c < v by omega), decide_eq_false (show ¬ c < v + 1 by omega), decide_eq_false (show ¬ c = v by omega)]; simp
    · rename_i hTv
      rw [ih]
      by_cases h : c = v
      · subst h
        have h2 : T.testBit c = false := by cases q : T.testBit c; rfl; exact absurd q hTv
        rw [h2]; simp
      · rw [show decide (c < v + 1) = decide (c < v) from decide_eq_decide.mpr (by omega)]
theorem jo_e {J a e : Nat} {E : EL} (h : JOK J E) (ha : a < 7) (he : e < 7) : ∃ J2, m_X2_joinedOver (lN J) (nI a) (nI e) = some (lN J2) ∧ JOK J2 ((a, e) :: E) := by
  have hT : (mk E a ||| mk E e) < 128 := or_lt (n := 7) (mk_lt E a) (mk_lt E e)
  unfold m_X2_joinedOver
  rw [si_mk h ha, si_mk h he]
  simp only [Option.bind_some, lt, fa_or]
  generalize hTe : (mk E a ||| mk E e) = T at hT ⊢
  have hl : vLoop (m_X2_joinedOver_L16 (nI T)) FUEL (lN J, (0 : Int32)) = some (lN (jg J T 7)) := by
    refine vl_F (fun v => (lN (jg J T v), nI v)) 0 7 (by omega) (by omega) (fun i _ hi => ?_) ?_
    · unfold m_X2_joinedOver_L16
      simp only [un, lt]
      rw [if_neg (by rw [qle_7 (by omega)]; omega), shr_bit (by omega) (by omega), bz_if, show (7 : Int32) * nI i = nI (7 * i) from pk_mul 7 i, nI_l (by omega), wb_shl T (show 7 * i < 64 by omega), fb_orL, nI_1]
      show _ = some (Sum.inl (lN (if T.testBit i = true then jg J T i ||| T * 2 ^ (7 * i) else jg J T i), nI (i + 1)))
      split <;> rfl
    · unfold m_X2_joinedOver_L16
      simp only [un]
      rw [if_pos (by rw [qle_7 (by omega)]; omega)]
  rw [hl]
  refine ⟨_, rfl, jg_lt h.1 hT 7 (by omega), fun v u hv hu => ?_⟩
  have hTb : ∀ i, i < 7 → T.testBit i = (lab E a == lab E i || lab E e == lab E i) := fun i hi => by
    rw [← hTe, Nat.testBit_or, mk_bit, mk_bit, decide_eq_true hi]; rfl
  rw [jg_bit hT hv hu 7, h.2 v u hv hu, decide_eq_true hv, hTb v hv, hTb u hu]
  show _ = ((if lab E v = lab E e then lab E a else lab E v) == (if lab E u = lab E e then lab E a else lab E u))
  generalize lab E v = V
  generalize lab E u = U
  generalize lab E a = A
  generalize lab E e = B
  rw [Bool.eq_iff_iff]
  simp only [Bool.or_eq_true, Bool.and_eq_true, beq_iff_eq, true_and, Bool.true_and]
  split <;> split <;> omega
theorem wB_wC (b : ST) (k i : Nat) (F : Nat → Int64) (v : Int64) : wB (wC b k F) k i v = wC b k (vp_updL F i v) := by
  unfold wB wC
  simp only [if_true]
  congr 3
  funext j
  split <;> rfl
theorem wC_self (b : ST) (k : Nat) : wC b k (b.2.2.2 k) = b := by
  unfold wC
  obtain ⟨x, y, z, w⟩ := b
  simp only []
  congr 3
  funext j
  split
  · rename_i h; rw [h]
  · rfl
section JS
variable {b t : ST} {D : ND}
def EDD (D : ND) (s : Nat) : EL := ED (dA D) (dE D) (dL D) s
theorem as_k {k : Nat} (hC : repC b D) (hD : okD D) (hk : dL D = k + 1) (hJ : ∀ s, s < 2 ^ k → ∃ J, b.2.2.2 0 s = lN J ∧ JOK J (ED (dA D) (dE D) k s)) : ∃ F, m_X2_addSetsWith b (nI k) = some (wC b 0 F) ∧ ∀ s, s < 2 ^ (k + 1) → ∃ J, F s = lN J ∧ JOK J (ED (dA D) (dE D) (k + 1) s) := by
  have hL := hD.2.2.1
  have hN := hD.2.1
  have h2k : 2 ^ k ≤ 2 ^ 9 := Nat.pow_le_pow_right (by decide) (by omega)
  have h2p := Nat.two_pow_pos k
  obtain ⟨e1, e2, -⟩ := hD.2.2.2.2.2 k (by omega)
  unfold m_X2_addSetsWith
  rw [shl_1 k (by omega)]
  simp only [lt]
  obtain ⟨e, he, F, rfl, hF1, hF2⟩ := vl_totF (B := m_X2_addSetsWith_L6 (nI k) (nI (2 ^ k))) (fun m st => ∃ i F, i ≤ 2 ^ k ∧ m = 2 ^ k - i ∧ st = (nI i, wC b 0 F) ∧ (∀ s, s < 2 ^ k → F s = b.2.2.2 0 s) ∧ ∀ s, s < i → ∃ J, F (2 ^ k + s) = lN J ∧ JOK J ((dA D k, dE D k) :: ED (dA D) (dE D) k s))
    (fun e => ∃ F, e = wC b 0 F ∧ (∀ s, s < 2 ^ k → F s = b.2.2.2 0 s) ∧ ∀ s, s < 2 ^ k → ∃ J, F (2 ^ k + s) = lN J ∧ JOK J ((dA D k, dE D k) :: ED (dA D) (dE D) k s)) (by
      rintro m st ⟨i, F, hi, rfl, rfl, hF1, hF2⟩
      have hC2 : repC (wC b 0 F) D := hC
      unfold m_X2_addSetsWith_L6
      simp only [un]
      simp only [qle (a := 2 ^ k) (b := i) (by omega) (by omega), nI_add]
      by_cases hik : i = 2 ^ k
      · left
        rw [if_pos (by omega)]
        exact ⟨_, rfl, F, rfl, hF1, fun s hs => hF2 s (by omega)⟩
      · right
        rw [if_neg (by omega), if_neg (by rw [qle_1024 (by omega)]; omega), gd_in (by omega) (by omega), lo_e hC2 hD (by omega), hi_e hC2 hD (by omega)]
        simp only [Option.bind_some, nI_clamp (n := i) (by omega)]
        obtain ⟨J, hJ1, hJ2⟩ := hJ i (by omega)
        obtain ⟨J2, hJ3, hJ4⟩ := jo_e hJ2 (show dA D k < 7 by omega) (show dE D k < 7 by omega)
        have hr : (wC b 0 F).2.2.2 0 i = lN J := (hF1 i (by omega)).trans hJ1
        rw [hr, hJ3]
        simp only [Option.bind_some, lt]
        rw [gd_in (by omega) (by omega), nI_clamp (by omega), wB_wC, nI_1]
        refine ⟨_, rfl, 2 ^ k - (i + 1), by omega, i + 1, _, by omega, rfl, rfl, fun s hs => ?_, fun s hs => ?_⟩
        · rw [pk_uLn (by omega)]; exact hF1 s hs
        · by_cases hsi : s = i
          · subst hsi; exact ⟨J2, pk_uLs, hJ4⟩
          · rw [pk_uLn (by omega)]; exact hF2 s (by omega)) (i := 2 ^ k - 0) (s := ((0 : Int32), b)) (by omega) ⟨0, b.2.2.2 0, by omega, rfl, by rw [wC_self]; rfl, fun _ _ => rfl, fun s hs => absurd hs (Nat.not_lt_zero s)⟩
  rw [he]
  refine ⟨F, rfl, fun s hs => ?_⟩
  rcases Nat.lt_or_ge s (2 ^ k) with h | h
  · have h1 : ED (dA D) (dE D) (k + 1) s = ED (dA D) (dE D) k s := by
      show (if s.testBit k = true then _ else _) = _
      rw [if_neg (by rw [Nat.testBit_lt_two_pow h]; decide)]
    rw [h1, hF1 s h]
    exact hJ s h
  · obtain ⟨i, rfl⟩ : ∃ i, s = 2 ^ k + i := ⟨s - 2 ^ k, by omega⟩
    have hi : i < 2 ^ k := by omega
    have h1 : ED (dA D) (dE D) (k + 1) (2 ^ k + i) = (dA D k, dE D k) :: ED (dA D) (dE D) k i := by
      show (if (2 ^ k + i).testBit k = true then _ else _) = _
      rw [if_pos (bit_top hi), ED_cong (fun j hj => bit_low hj) (fun _ _ => ⟨rfl, rfl⟩)]
    rw [h1]
    exact hF2 i hi
theorem jw_e (hJ : jnC b D) (hD : okD D) {s v : Nat} (hs : s < 2 ^ dL D) (hv : v < 7) : m_X2_joinedWith b (nI s) (nI v) = some (nI (mk (EDD D s) v)) := by
  have hp : 2 ^ dL D ≤ 2 ^ 10 := Nat.pow_le_pow_right (by decide) hD.2.2.1
  obtain ⟨J, h1, h2, h3⟩ := hJ s hs
  unfold m_X2_joinedWith
  rw [if_neg (nI_pos (by omega)), if_pos (by rw [qlt_1024 (by omega)]; omega), gd_in (by omega) (by omega), nI_clamp (by omega), h1, si_mk ⟨h2, h3⟩ hv]
  rfl
theorem cn_src {E : EL} {W S : Nat} (hW : W < 128) (hS : S < 7) (hWS : W.testBit S = true) : cn E W = true ↔ ∀ i, W.testBit i = true → (mk E S).testBit i = true := by
  rw [cn_iff]
  constructor
  · intro h i hi
    have hi7 : i < 7 := by
      rcases Nat.lt_or_ge i 7 with q | q
      · exact q
      · rw [bit_ge (n := 7) hW q] at hi; cases hi
    exact (mk_jn hi7).mpr (h S i hS hi7 hWS hi)
  · intro h u v hu hv h1 h2
    have a1 := (mk_jn hu).mp (h u h1)
    have a2 := (mk_jn hv).mp (h v h2)
    exact a1.symm.trans a2
def rch (D : ND) (s : Nat) : Bool := cn (EDD D s) (dW D)
theorem dW_src (D : ND) : (dW D).testBit (dS D) = true := by unfold dW; rw [Nat.testBit_or, p2_bit, decide_eq_true rfl, Bool.or_true]
theorem re_e (hC : repC b D) (hJ : jnC b D) (hD : okD D) {s : Nat} (hs : s < 2 ^ dL D) : m_X2_reaches b (nI s) = some (bz (rch D s)) := by
  have h1 := hD.2.1
  have h2 := hD.2.2.2.1
  have h3 := dW_lt7 hD
  unfold m_X2_reaches
  rw [wa_e hC hD, hC.2.2.1, jw_e hJ hD hs (by omega)]
  simp only [Option.bind_some, wo_i]
  have hw : wo (dW D) (mk (EDD D s) (dS D)) < 128 := wo_lt (n := 7) h3
  simp only [qeq_0 (i := wo (dW D) (mk (EDD D s) (dS D))) (by omega)]
  unfold rch
  by_cases hc : cn (EDD D s) (dW D) = true
  · rw [hc, if_pos (wo0_iff.mpr ((cn_src h3 (by omega) (dW_src D)).mp hc))]; rfl
  · rw [if_neg (fun q => hc ((cn_src h3 (by omega) (dW_src D)).mpr (wo0_iff.mp q)))]
    have hf : cn (EDD D s) (dW D) = false := by cases q : cn (EDD D s) (dW D); rfl; exact absurd q hc
    rw [hf]; rfl
/-! the model's closing -/
end JS
