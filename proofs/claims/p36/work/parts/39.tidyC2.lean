/-! the class's chains, tidying, settling -/
section TD
variable {t : ST} {V : AN} {N L : Nat}
def lex (i j f g : Nat) : Prop := i < f ∨ (i = f ∧ j < g)
/-- the two links at v -/
def l1 (V : AN) (v : Nat) : Nat := tz (la V v)
def l2 (V : AN) (v : Nat) : Nat := tz (wo (la V v) (2 ^ tz (la V v)))
theorem l12 {v : Nat} (h : okA N L V) (hf : fre V v 2 = true) : l1 V v < l2 V v ∧ l2 V v < 10 ∧ la V v = 2 ^ l1 V v ||| 2 ^ l2 V v ∧ tP V (l1 V v) = true ∧ tP V (l2 V v) = true ∧ (aA V (l1 V v) = v ∨ aE V (l1 V v) = v) ∧ (aA V (l2 V v) = v ∨ aE V (l2 V v) = v) := by
  obtain ⟨m1, m2, m3, -, -⟩ := pc_2 _ (la_lt V v) (fre_t.mp hf).2
  have m1 : la V v = 2 ^ l1 V v ||| 2 ^ l2 V v := m1
  have m2 : l1 V v < l2 V v := m2
  have m3 : l2 V v < 10 := m3
  have b1 : (la V v).testBit (l1 V v) = true := by rw [m1, Nat.testBit_or, p2_bit, p2_bit, decide_eq_true rfl]; rfl
  have b2 : (la V v).testBit (l2 V v) = true := by rw [m1, Nat.testBit_or, p2_bit, p2_bit, decide_eq_true rfl, Bool.or_true]
  obtain ⟨c1, c2⟩ := (la_t h).mp b1
  obtain ⟨d1, d2⟩ := (la_t h).mp b2
  exact ⟨m2, m3, m1, c1, d1, c2, d2⟩
theorem l12_of {v i j : Nat} (h : okA N L V) (hf : fre V v 2 = true) (hij : i < j) (hi : tP V i = true) (hj : tP V j = true) (hvi : aA V i = v ∨ aE V i = v) (hvj : aA V j = v ∨ aE V j = v) : l1 V v = i ∧ l2 V v = j := by
  obtain ⟨m1, m2, m3, -⟩ := l12 h hf
  have hb : ∀ q, (la V v).testBit q = true → l1 V v = q ∨ l2 V v = q := fun q hq => by
    rw [m3, Nat.testBit_or, p2_bit, p2_bit, Bool.or_eq_true, decide_eq_true_eq, decide_eq_true_eq] at hq
    exact hq
  have h1 := hb i ((la_t h).mpr ⟨hi, hvi⟩)
  have h2 := hb j ((la_t h).mpr ⟨hj, hvj⟩)
  omega
theorem jc_l (hR : repT t V) (h : okA N L V) : ∃ f g m, vLoop (m_X8_joinChain_L11 t) FUEL ((10 : Int32), (10 : Int32), (0 : Int32), (0 : Int32)) = some (nI f, nI g, nI m) ∧ ((f = 10 ∧ g = 10) ∨ (m < 7 ∧ fre V m 2 = true ∧ l1 V m = f ∧ l2 V m = g)) ∧ ∀ u, u < 7 → fre V u 2 = true → ¬ lex (l1 V u) (l2 V u) f g := by
  obtain ⟨e, he, f, g, m, rfl, h1, h2⟩ := vl_totF (B := m_X8_joinChain_L11 t) (fun c st => ∃ v f g m, v ≤ 7 ∧ c = 7 - v ∧ st = (nI f, nI g, nI m, nI v) ∧ ((f = 10 ∧ g = 10) ∨ (m < 7 ∧ fre V m 2 = true ∧ l1 V m = f ∧ l2 V m = g)) ∧ ∀ u, u < v → fre V u 2 = true → ¬ lex (l1 V u) (l2 V u) f g) (fun e => ∃ f g m, e = (nI f, nI g, nI m) ∧ ((f = 10 ∧ g = 10) ∨ (m < 7 ∧ fre V m 2 = true ∧ l1 V m = f ∧ l2 V m = g)) ∧ ∀ u, u < 7 → fre V u 2 = true → ¬ lex (l1 V u) (l2 V u) f g) (by
    rintro c st ⟨v, f, g, m, hv, rfl, rfl, h1, h2⟩
    have hfg : f ≤ 10 ∧ g ≤ 10 := by
      rcases h1 with ⟨a, c⟩ | ⟨-, a, c, d⟩
      · omega
      · obtain ⟨e1, e2, -⟩ := l12 h a
        omega
    unfold m_X8_joinChain_L11
    simp only [un, lt]
    by_cases h7 : v = 7
    · left
      rw [if_pos (by rw [qle_7 (by omega)]; omega)]
      subst h7
      exact ⟨_, rfl, f, g, m, rfl, h1, h2⟩
    · right
      have hla := la_lt V v
      have hpc := pc_lt (x := la V v)
      rw [if_neg (by rw [qle_7 (by omega)]; omega), la_e hR h (by omega), Option.bind_some, iw_t hR h (by omega), Option.bind_some, bz_if, nI_1]
      have hkeep : (fre V v 2 = true → ¬ lex (l1 V v) (l2 V v) f g) → ∃ t1, (some (Sum.inl (nI f, nI g, nI m, nI (v + 1))) : Option ((Int32 × Int32 × Int32 × Int32) ⊕ (Int32 × Int32 × Int32))) = some (Sum.inl t1) ∧ ∃ j, j < 7 - v ∧ ∃ v f g m, v ≤ 7 ∧ j = 7 - v ∧ t1 = (nI f, nI g, nI m, nI v) ∧ ((f = 10 ∧ g = 10) ∨ (m < 7 ∧ fre V m 2 = true ∧ l1 V m = f ∧ l2 V m = g)) ∧ ∀ u, u < v → fre V u 2 = true → ¬ lex (l1 V u) (l2 V u) f g := fun hf => ⟨_, rfl, 7 - (v + 1), by omega, v + 1, f, g, m, by omega, rfl, rfl, h1, fun u hu hfu => by
        by_cases huv : u = v
        · subst huv; exact hf hfu
        · exact h2 u (by omega) hfu⟩
      by_cases hw : (aW V).testBit v = true
      · rw [if_pos hw]
        exact hkeep (fun q => by rw [(fre_t.mp q).1] at hw; cases hw)
      · rw [if_neg hw, bc_e _ hla, Option.bind_some]
        by_cases h2c : pc (la V v) = 2
        · have hfr : fre V v 2 = true := fre_t.mpr ⟨Bool.eq_false_iff.mpr hw, h2c⟩
          have h0 := pc_pos hla h2c (by omega)
          obtain ⟨-, -, -, -, h0w⟩ := pc_2 _ hla h2c
          obtain ⟨m1, m2, -⟩ := l12 h hfr
          have hwo : wo (la V v) (2 ^ tz (la V v)) < 2 ^ 10 := wo_lt (n := 10) hla
          rw [if_pos (by rw [h2c]; rfl), tz_e _ hla h0, Option.bind_some, shl_1 _ (by show l1 V v < 31; omega), wo_i, tz_e _ hwo h0w, Option.bind_some]
          show ∃ t1, (if nI f < nI (l1 V v) then some (Sum.inl (nI f, nI g, nI m, nI (v + 1))) else if nI (l1 V v) = nI f then if nI (l2 V v) < nI g then some (Sum.inl (nI (l1 V v), nI (l2 V v), nI v, nI (v + 1))) else some (Sum.inl (nI f, nI g, nI m, nI (v + 1))) else some (Sum.inl (nI (l1 V v), nI (l2 V v), nI v, nI (v + 1))) : Option ((Int32 × Int32 × Int32 × Int32) ⊕ (Int32 × Int32 × Int32))) = some (Sum.inl t1) ∧ _
          have hnew : lex (l1 V v) (l2 V v) f g → ∃ t1, (some (Sum.inl (nI (l1 V v), nI (l2 V v), nI v, nI (v + 1))) : Option ((Int32 × Int32 × Int32 × Int32) ⊕ (Int32 × Int32 × Int32))) = some (Sum.inl t1) ∧ ∃ j, j < 7 - v ∧ ∃ v f g m, v ≤ 7 ∧ j = 7 - v ∧ t1 = (nI f, nI g, nI m, nI v) ∧ ((f = 10 ∧ g = 10) ∨ (m < 7 ∧ fre V m 2 = true ∧ l1 V m = f ∧ l2 V m = g)) ∧ ∀ u, u < v → fre V u 2 = true → ¬ lex (l1 V u) (l2 V u) f g := fun hl => ⟨_, rfl, 7 - (v + 1), by omega, v + 1, l1 V v, l2 V v, v, by omega, rfl, rfl, Or.inr ⟨by omega, hfr, rfl, rfl⟩, fun u hu hfu => by
            by_cases huv : u = v
            · subst huv; unfold lex; omega
            · have := h2 u (by omega) hfu
              unfold lex at *; omega⟩
          by_cases c1 : f < l1 V v
          · rw [if_pos (nI_lt c1 (by omega))]
            exact hkeep (fun _ => by unfold lex; omega)
          · rw [if_neg (nI_nlt (by omega) (by omega))]
            by_cases c2 : l1 V v = f
            · rw [if_pos (by rw [c2])]
              by_cases c3 : l2 V v < g
              · rw [if_pos (nI_lt c3 (by omega))]
                exact hnew (Or.inr ⟨c2, c3⟩)
              · rw [if_neg (nI_nlt (by omega) (by omega))]
                exact hkeep (fun _ => by unfold lex; omega)
            · rw [if_neg (by rw [qeq (by omega) (by omega)]; exact c2)]
              exact hnew (Or.inl (by omega))
        · rw [if_neg (by rw [qeq_2 (by omega)]; exact h2c)]
          exact hkeep (fun q => absurd (fre_t.mp q).2 h2c)) (i := 7 - 0) (s := ((10 : Int32), (10 : Int32), (0 : Int32), (0 : Int32))) (by omega) ⟨0, 10, 10, 0, by omega, rfl, rfl, Or.inl ⟨rfl, rfl⟩, fun u hu => absurd hu (Nat.not_lt_zero u)⟩
  exact ⟨f, g, m, he, h1, h2⟩
/-- no twins: two links share one station at most -/
theorem no_tw (hn : ¬ twi V < 10) {i j : Nat} (hij : i < j) (hj10 : j < 10) (hi : tP V i = true) (hj : tP V j = true) : sam V i j = false := by
  have h1 := fa_first_le (fun i => decide (twj V i < 10)) 10
  have h2 : decide (twj V i < 10) = false := fa_first_no (fun i => decide (twj V i < 10)) 10 i (by unfold twi at hn; omega)
  have h2 := of_decide_eq_false h2
  have h3 : (decide (i < j) && tP V i && tP V j && sam V i j) = false := fa_first_no (fun j => decide (i < j) && tP V i && tP V j && sam V i j) 10 j (by unfold twj at h2; omega)
  rw [decide_eq_true hij, hi, hj, Bool.true_and, Bool.true_and, Bool.true_and] at h3
  exact h3
theorem mid_u (hn : ¬ rnd V < 10) (hn2 : ¬ twi V < 10) {i j m : Nat} (hij : i < j) (hj10 : j < 10) (hi : tP V i = true) (hj : tP V j = true) (hmi : aA V i = m ∨ aE V i = m) (hmj : aA V j = m ∨ aE V j = m) (hf : fre V m 2 = true) : mid V i j = some m := by
  have hs := no_tw hn2 hij hj10 hi hj
  have r1 := no_rnd hn hi (by omega)
  have r2 := no_rnd hn hj hj10
  unfold mid
  by_cases c : ((aA V j == aA V i || aE V j == aA V i) && fre V (aA V i) 2) = true
  · rw [if_pos c]
    rw [Bool.and_eq_true, Bool.or_eq_true, beq_iff_eq, beq_iff_eq] at c
    congr 1
    rcases hmi with q | q
    · exact q
    · exfalso
      unfold sam at hs
      rw [Bool.or_eq_false_iff] at hs
      obtain ⟨s1, s2⟩ := hs
      rcases c.1 with c1 | c1
      · rcases hmj with k | k
        · exact r1 (by rw [q, ← k, c1])
        · rw [beq_iff_eq.mpr c1.symm, beq_iff_eq.mpr (q.trans k.symm)] at s1; cases s1
      · rcases hmj with k | k
        · rw [beq_iff_eq.mpr c1.symm, beq_iff_eq.mpr (q.trans k.symm)] at s2; cases s2
        · exact r1 (by rw [q, ← k, c1])
  · rw [if_neg c]
    have hE : aE V i = m := by
      rcases hmi with q | q
      · exfalso
        apply c
        rw [Bool.and_eq_true, Bool.or_eq_true, beq_iff_eq, beq_iff_eq, q]
        exact ⟨hmj, hf⟩
      · exact q
    rw [if_pos, hE]
    rw [Bool.and_eq_true, Bool.or_eq_true, beq_iff_eq, beq_iff_eq, hE]
    exact ⟨hmj, hf⟩
theorem ch_first (h : okA N L V) (hn : ¬ rnd V < 10) (hn2 : ¬ twi V < 10) {f g m : Nat} (h1 : (f = 10 ∧ g = 10) ∨ (m < 7 ∧ fre V m 2 = true ∧ l1 V m = f ∧ l2 V m = g)) (h2 : ∀ u, u < 7 → fre V u 2 = true → ¬ lex (l1 V u) (l2 V u) f g) : (f = 10 ∧ ¬ chi V < 10) ∨ (f < 10 ∧ chi V = f ∧ chj V f = g ∧ g < 10 ∧ f < g ∧ mid V f g = some m ∧ m < 7 ∧ tP V f = true ∧ tP V g = true ∧ (aA V f = m ∨ aE V f = m) ∧ (aA V g = m ∨ aE V g = m)) := by
  have hN := h.1
  -- what any pair tells
  have hpair : ∀ i j, i < j → tP V i = true → tP V j = true → (mid V i j).isSome = true → ¬ lex i j f g := fun i j hij hi hj hm => by
    obtain ⟨s, hs⟩ := Option.isSome_iff_exists.mp hm
    obtain ⟨s1, s2, s3⟩ := mid_t hs
    obtain ⟨ai, ei, -, -⟩ := h.2.2.2.2.2.2 i hi
    have hs7 : s < 7 := by rcases s1 with q | q <;> omega
    obtain ⟨e1, e2⟩ := l12_of h s3 hij hi hj s1 s2
    have := h2 s hs7 s3
    rw [e1, e2] at this
    exact this
  have hcj : ∀ i, chj V i < 10 → i < chj V i ∧ tP V i = true ∧ tP V (chj V i) = true ∧ (mid V i (chj V i)).isSome = true := fun i hi => by
    have q : (decide (i < chj V i) && tP V i && tP V (chj V i) && (mid V i (chj V i)).isSome) = true := first_t (p := fun j => decide (i < j) && tP V i && tP V j && (mid V i j).isSome) hi
    simp only [Bool.and_eq_true, decide_eq_true_eq] at q
    exact ⟨q.1.1.1, q.1.1.2, q.1.2, q.2⟩
  have hcl : chi V ≤ 10 := fa_first_le _ 10
  rcases h1 with ⟨hf, hg⟩ | ⟨hm7, hfm, e1, e2⟩
  · left
    refine ⟨hf, fun q => ?_⟩
    obtain ⟨c1, c2, c3, c4, s, c5⟩ := ch_t q
    have := hpair _ _ c2 c3 c4 (by rw [c5]; rfl)
    unfold lex at this
    omega
  · right
    obtain ⟨m1, m2, -, p1, p2, a1, a2⟩ := l12 h hfm
    rw [e1, e2] at m1
    rw [e2] at m2 p2 a2
    rw [e1] at p1 a1
    have hmid := mid_u hn hn2 m1 m2 p1 p2 a1 a2 hfm
    have hjf : chj V f ≤ g := by
      rcases Nat.lt_or_ge g (chj V f) with q | q
      · have := fa_first_no (fun j => decide (f < j) && tP V f && tP V j && (mid V f j).isSome) 10 g q
        have : (decide (f < g) && tP V f && tP V g && (mid V f g).isSome) = false := this
        rw [decide_eq_true m1, p1, p2, hmid] at this
        cases this
      · exact q
    obtain ⟨b1, b2, b3, b4⟩ := hcj f (by omega)
    have hjg : chj V f = g := by
      have := hpair f (chj V f) b1 b2 b3 b4
      unfold lex at this
      omega
    have hif : chi V ≤ f := by
      rcases Nat.lt_or_ge f (chi V) with q | q
      · have : decide (chj V f < 10) = false := fa_first_no (fun i => decide (chj V i < 10)) 10 f q
        have := of_decide_eq_false this
        omega
      · exact q
    have hic : chi V = f := by
      obtain ⟨c1, c2, c3, c4, s, c5⟩ := ch_t (V := V) (by omega)
      have := hpair _ _ c2 c3 c4 (by rw [c5]; rfl)
      unfold lex at this
      omega
    exact ⟨by omega, hic, hjg, m2, m1, hmid, hm7, p1, p2, a1, a2⟩
theorem oe_e (hR : repT t V) (h : okA N L V) {i v : Nat} (hi : tP V i = true) (hv : v < 7) : m_X8_otherEnd t (nI i) (nI v) = some (nI (oth V i v)) := by
  have h10 := (okA_10 h hi).2
  obtain ⟨r1, r2, -, -⟩ := hR.2.2 i hi
  obtain ⟨n1, n2⟩ := N31 h hi
  unfold m_X8_otherEnd oth
  rw [it_e hR h h10, hi, Option.bind_some, if_neg (by decide), gd_in (by omega) (by omega), nI_clamp (by omega), r1, r2, gd_i2 (by omega) (by omega), gd_i2 (by omega) (by omega)]
  by_cases q : aA V i = v
  · rw [if_pos (by rw [q]), if_pos q]
  · rw [if_neg (by rw [qeq n1 (by omega)]; exact q), if_neg q]
/-- two links in a row, as the class does it -/
def chT (t : ST) (V : AN) (i j s : Nat) : ST := dT (wB (wB (wA (wA t 0 i (nI (oth V i s))) 1 i (nI (oth V j s))) 0 i (lN (aX V i * aX V j))) 1 i (lN (aY V i * aY V j))) (aP V) j
theorem chT_R (hR : repT t V) {i j s : Nat} : repT (chT t V i j s) (chA V i j s) := ⟨rfl, hR.2.1, fun k hk => by
  rw [chA_f] at hk
  obtain ⟨r1, r2, r3, r4⟩ := hR.2.2 k (wi_t hk).1
  refine ⟨?_, ?_, ?_, ?_⟩
  · show upd (t.2.2.1 0) i _ k = nI (va_up (aA V) i _ k)
    unfold upd va_up
    split
    · rfl
    · exact r1
  · show upd (t.2.2.1 1) i _ k = nI (va_up (aE V) i _ k)
    unfold upd va_up
    split
    · rfl
    · exact r2
  · show vp_updL (t.2.2.2 0) i _ k = lN (va_up (aX V) i _ k)
    unfold vp_updL va_up
    split
    · rfl
    · exact r3
  · show vp_updL (t.2.2.2 1) i _ k = lN (va_up (aY V) i _ k)
    unfold vp_updL va_up
    split
    · rfl
    · exact r4⟩
theorem jc_e (hR : repT t V) (h : okA N L V) (hn : ¬ rnd V < 10) (hn2 : ¬ twi V < 10) : m_X8_joinChain t = some (if chi V < 10 then ((1 : Int32), chT t V (chi V) (chj V (chi V)) ((mid V (chi V) (chj V (chi V))).getD 0)) else ((0 : Int32), t)) := by
  obtain ⟨f, g, m, hl, h1, h2⟩ := jc_l hR h
  unfold m_X8_joinChain
  rw [hl, Option.bind_some]
  simp only [un, lt]
  rcases ch_first h hn hn2 h1 h2 with ⟨hf, hc⟩ | ⟨hf, e1, e2, hg, hfg, hm, hm7, p1, p2, a1, a2⟩
  · rw [if_pos (by rw [hf]; decide), if_neg hc]
  · obtain ⟨-, -, r1, r2⟩ := hR.2.2 f p1
    obtain ⟨-, -, r3, r4⟩ := hR.2.2 g p2
    rw [if_neg (by rw [qle_10 (by omega)]; omega), if_pos (by rw [qlt_10 (by omega)]; omega), oe_e hR h p1 hm7, Option.bind_some, oe_e hR h p2 hm7, Option.bind_some, if_pos (by rw [e1]; exact hf), e1, e2, hm]
    simp only [gd_in (i := f) (N := 10) (by omega) (by omega), gd_i2 (i := f) (N := 10) (by omega) (by omega), gd_in (i := g) (N := 10) (by omega) (by omega), gd_i2 (i := g) (N := 10) (by omega) (by omega), nI_clamp (n := f) (by omega), nI_clamp (n := g) (by omega)]
    have x1 : (wA (wA t 0 f (nI (oth V f m))) 1 f (nI (oth V g m))).2.2.2 0 f = lN (aX V f) := r1
    have x2 : (wA (wA t 0 f (nI (oth V f m))) 1 f (nI (oth V g m))).2.2.2 0 g = lN (aX V g) := r3
    rw [x1, x2, lN_mul]
    have y1 : (wB (wA (wA t 0 f (nI (oth V f m))) 1 f (nI (oth V g m))) 0 f (lN (aX V f * aX V g))).2.2.2 1 f = lN (aY V f) := r2
    have y2 : (wB (wA (wA t 0 f (nI (oth V f m))) 1 f (nI (oth V g m))) 0 f (lN (aX V f * aX V g))).2.2.2 1 g = lN (aY V g) := r4
    rw [y1, y2, lN_mul, show (wB (wB (wA (wA t 0 f (nI (oth V f m))) 1 f (nI (oth V g m))) 0 f (lN (aX V f * aX V g))) 1 f (lN (aY V f * aY V g))).1 0 = nI (aP V) from hR.1, shl_1 g (by omega), wo_i]
    rfl
/-- one step of the tidying -/
theorem step_e (hR : repT t V) (h : okA N L V) {n : Nat} (hn : n < 10) : m_X8_tidy_L2 (nI n, t) = some (match stp V with | none => .inr (nI n, t) | some V2 => .inl (nI (n + 1), if rnd V < 10 then dT t (aP V) (rnd V) else if twi V < 10 then twT t V (twi V) (twj V (twi V)) else if edg V < 10 then dT t (aP V) (edg V) else chT t V (chi V) (chj V (chi V)) ((mid V (chi V) (chj V (chi V))).getD 0))) := by
  unfold m_X8_tidy_L2 stp
  simp only [un, lt]
  rw [if_neg (by rw [qle_10 (by omega)]; omega), dr_e hR h, Option.bind_some]
  by_cases c1 : rnd V < 10
  · rw [if_pos c1, if_pos c1, if_pos c1, if_neg (show ¬ (1 : Int32) = 0 by decide), nI_1]
  · rw [if_neg c1, if_neg c1, if_neg c1, if_pos rfl, jt_e hR h c1, Option.bind_some]
    by_cases c2 : twi V < 10
    · rw [if_pos c2, if_pos c2, if_pos c2, if_neg (show ¬ (1 : Int32) = 0 by decide), nI_1]
    · rw [if_neg c2, if_neg c2, if_neg c2, if_pos rfl, de_e hR h, Option.bind_some]
      by_cases c3 : edg V < 10
      · rw [if_pos c3, if_pos c3, if_pos c3, if_neg (show ¬ (1 : Int32) = 0 by decide), nI_1]
      · rw [if_neg c3, if_neg c3, if_neg c3, if_pos rfl, jc_e hR h c1 c2, Option.bind_some]
        by_cases c4 : chi V < 10
        · rw [if_pos c4, if_pos c4, if_neg (show ¬ (1 : Int32) = 0 by decide), nI_1]
        · rw [if_neg c4, if_neg c4, if_pos rfl]
theorem stepT_R (hR : repT t V) (h : okA N L V) {V2 : AN} (hs : stp V = some V2) : repT (if rnd V < 10 then dT t (aP V) (rnd V) else if twi V < 10 then twT t V (twi V) (twj V (twi V)) else if edg V < 10 then dT t (aP V) (edg V) else chT t V (chi V) (chj V (chi V)) ((mid V (chi V) (chj V (chi V))).getD 0)) V2 := by
  unfold stp at hs
  by_cases c1 : rnd V < 10
  · rw [if_pos c1] at hs ⊢; cases hs; exact dT_R hR
  · rw [if_neg c1] at hs ⊢
    by_cases c2 : twi V < 10
    · rw [if_pos c2] at hs ⊢; cases hs
      obtain ⟨-, q, -⟩ := tw_t c2
      exact twT_R hR h (by omega)
    · rw [if_neg c2] at hs ⊢
      by_cases c3 : edg V < 10
      · rw [if_pos c3] at hs ⊢; cases hs; exact dT_R hR
      · rw [if_neg c3] at hs ⊢
        by_cases c4 : chi V < 10
        · rw [if_pos c4] at hs; cases hs; exact chT_R hR
        · rw [if_neg c4] at hs; cases hs
theorem stepT_L (t : ST) (V : AN) : (if rnd V < 10 then dT t (aP V) (rnd V) else if twi V < 10 then twT t V (twi V) (twj V (twi V)) else if edg V < 10 then dT t (aP V) (edg V) else chT t V (chi V) (chj V (chi V)) ((mid V (chi V) (chj V (chi V))).getD 0)).2.1 = t.2.1 := by
  (repeat' split) <;> rfl
theorem ti_l : ∀ (r c F : Nat) (t : ST) (V : AN), okA N L V → repT t V → r + c = 10 → r < F → ∃ t2, vLoop m_X8_tidy_L2 F (nI c, t) = some (nI (c + (tdy r V).1), t2) ∧ repT t2 (tdy r V).2 ∧ t2.2.1 = t.2.1
  | r, c, 0, t, V, _, _, _, hF => by omega
  | 0, c, F + 1, t, V, h, hR, hc, _ => by
    refine ⟨t, vl_stop ?_, hR, rfl⟩
    unfold m_X8_tidy_L2
    simp only [un]
    rw [if_pos (by rw [qle_10 (by omega)]; omega)]
    rfl
  | r + 1, c, F + 1, t, V, h, hR, hc, hF => by
    have hst := step_e hR h (n := c) (by omega)
    cases hs : stp V with
    | none =>
      rw [hs] at hst
      rw [tdy_n hs]
      exact ⟨t, vl_stop hst, hR, rfl⟩
    | some V2 =>
      rw [hs] at hst
      obtain ⟨k1, -⟩ := stp_k h hs
      obtain ⟨t2, q1, q2, q3⟩ := ti_l r (c + 1) F _ V2 k1 (stepT_R hR h hs) (by omega) (by omega)
      rw [tdy_y hs]
      refine ⟨t2, ?_, q2, q3.trans (stepT_L t V)⟩
      rw [vl_next hst, q1]
      show some (nI (c + 1 + (tdy r V2).1), t2) = some (nI (c + ((tdy r V2).1 + 1)), t2)
      rw [show c + 1 + (tdy r V2).1 = c + ((tdy r V2).1 + 1) by omega]
theorem ti_e (hR : repT t V) (h : okA N L V) : ∃ t2, m_X8_tidy t = some (nI (tdy 10 V).1, t2) ∧ repT t2 (tdy 10 V).2 ∧ t2.2.1 = t.2.1 := by
  obtain ⟨t2, q1, q2, q3⟩ := ti_l 10 0 FUEL t V h hR (by omega) (by unfold FUEL; omega)
  have q1 : vLoop m_X8_tidy_L2 FUEL ((0 : Int32), t) = some (nI (0 + (tdy 10 V).1), t2) := q1
  rw [Nat.zero_add] at q1
  refine ⟨t2, ?_, q2, q3⟩
  unfold m_X8_tidy
  rw [q1]
  rfl
/-- settled or not, with the answer 1 where one station alone is wanted -/
theorem se_t (hR : repT t V) (h : okA N L V) : m_X8_isSettled t = some (bz (stl V), if pc (aW V) = 1 then wL (wL t 0 1) 1 1 else t) := by
  have hw := okA_w h
  have hp := okA_p h
  unfold m_X8_isSettled m_X8_answer stl
  rw [hR.2.1, bc_e _ (by omega), Option.bind_some]
  have hpc := pc_lt (x := aW V)
  by_cases h1 : pc (aW V) = 1
  · rw [if_pos (by rw [h1]; rfl), if_pos h1, decide_eq_true h1, Bool.true_or]
    rfl
  · rw [if_neg (by rw [qeq_1 (by omega)]; exact h1), if_neg h1, decide_eq_false h1, Bool.false_or]
    obtain ⟨e, he, hQ⟩ := vl_totF (B := m_X8_isSettled_L21 t) (fun c st => ∃ v, v ≤ 7 ∧ c = 7 - v ∧ st = nI v ∧ ∀ j, j < v → ((aW V).testBit j && (la V j == 0)) = false) (fun e => ex e (fun (_ : Unit) => if (t.1 0) = 0 then some ((1 : Int32), t) else some ((0 : Int32), t)) (fun r_26 => some r_26) = some (bz ((List.range 7).any fun v => (aW V).testBit v && (la V v == 0)), t)) (by
      rintro c st ⟨v, hv, rfl, rfl, hno⟩
      unfold m_X8_isSettled_L21
      dsimp only [lt]
      by_cases h7 : v = 7
      · left
        rw [if_pos (by rw [qle_7 (by omega)]; omega)]
        refine ⟨_, rfl, ?_⟩
        have hl : ((List.range 7).any fun v => (aW V).testBit v && (la V v == 0)) = false := by
          rw [List.any_eq_false]
          intro j hj
          rw [hno j (by have := List.mem_range.mp hj; omega)]; decide
        have hp0 : aP V ≠ 0 := fun q => by
          have := stl_0 h q
          unfold stl at this
          rw [hl, decide_eq_false h1] at this
          cases this
        rw [hl]
        show (if t.1 0 = 0 then _ else _) = _
        rw [hR.1, if_neg (by rw [qeq_0 (by omega)]; exact hp0)]
        rfl
      · rw [if_neg (by rw [qle_7 (by omega)]; omega), iw_t hR h (by omega), Option.bind_some, bz_if, la_e hR h (by omega), Option.bind_some, nI_1]
        have hla := la_lt V v
        by_cases hwv : (aW V).testBit v = true
        · rw [if_pos hwv]
          by_cases h0 : la V v = 0
          · left
            rw [if_pos (by rw [h0]; rfl)]
            refine ⟨_, rfl, ?_⟩
            have hl : ((List.range 7).any fun v => (aW V).testBit v && (la V v == 0)) = true := by
              rw [List.any_eq_true]
              exact ⟨v, List.mem_range.mpr (by omega), by rw [hwv, beq_iff_eq.mpr h0]; rfl⟩
            rw [hl]
            rfl
          · right
            rw [if_neg (by rw [qeq_0 (by omega)]; exact h0)]
            refine ⟨_, rfl, 7 - (v + 1), by omega, v + 1, by omega, rfl, rfl, fun j hj => ?_⟩
            by_cases hjv : j = v
            · subst hjv; rw [beq_eq_false_iff_ne.mpr h0, Bool.and_false]
            · exact hno j (by omega)
        · right
          rw [if_neg hwv]
          refine ⟨_, rfl, 7 - (v + 1), by omega, v + 1, by omega, rfl, rfl, fun j hj => ?_⟩
          by_cases hjv : j = v
          · subst hjv; rw [Bool.eq_false_iff.mpr hwv]; rfl
          · exact hno j (by omega)) (i := 7 - 0) (s := (0 : Int32)) (by omega) ⟨0, by omega, rfl, rfl, fun j hj => absurd hj (Nat.not_lt_zero j)⟩
    rw [he, Option.bind_some]
    exact hQ
end TD
