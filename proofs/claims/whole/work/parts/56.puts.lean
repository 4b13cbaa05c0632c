theorem rdA (t : ST) (a i : Nat) (v : Int32) (r m : Nat) : (wA t a i v).2.2.1 r m = if r = a ∧ m = i then v else t.2.2.1 r m := by
  show (if r = a then upd (t.2.2.1 a) i v else t.2.2.1 r) m = _
  by_cases q : r = a
  · subst q
    rw [if_pos rfl]
    show (if m = i then v else t.2.2.1 r m) = _
    by_cases q2 : m = i
    · rw [if_pos q2, if_pos ⟨rfl, q2⟩]
    · rw [if_neg q2, if_neg (fun z => q2 z.2)]
  · rw [if_neg q, if_neg (fun z => q z.1)]
/-- rows of links and nets from d on may change, all else stands -/
def fP (d : Nat) (t t2 : ST) : Prop := t2.1 = t.1 ∧ t2.2.1 = t.2.1 ∧ t2.2.2.2 = t.2.2.2 ∧ ∀ r m, (r < 9 ∨ 14 < r ∨ (r < 12 ∧ m < 10 * d) ∨ (12 ≤ r ∧ m < d)) → t2.2.2.1 r m = t.2.2.1 r m
theorem fP_t {d : Nat} {t t2 t3 : ST} (h : fP d t t2) (h2 : fP d t2 t3) : fP d t t3 := ⟨h2.1.trans h.1, h2.2.1.trans h.2.1, h2.2.2.1.trans h.2.2.1, fun r m hm => (h2.2.2.2 r m hm).trans (h.2.2.2 r m hm)⟩
theorem fP_A {d : Nat} {t : ST} {a i : Nat} {v : Int32} (ha : (9 ≤ a ∧ a ≤ 11 ∧ 10 * d ≤ i) ∨ (12 ≤ a ∧ a ≤ 14 ∧ d ≤ i)) : fP d t (wA t a i v) := ⟨rfl, rfl, rfl, fun r m hm => by rw [rdA, if_neg (by omega)]⟩
def puG (t : ST) (d : Nat) (c : Int32 → Int32) : Nat → ST
  | 0 => t
  | k + 1 => wA (wA (wA (puG t d c k) 9 (10 * (d + 1) + k) (c ((puG t d c k).2.2.1 9 (10 * d + k)))) 10 (10 * (d + 1) + k) (c ((puG t d c k).2.2.1 10 (10 * d + k)))) 11 (10 * (d + 1) + k) ((puG t d c k).2.2.1 11 (10 * d + k))
theorem puG_f (t : ST) (d : Nat) (c : Int32 → Int32) : ∀ k, k ≤ 10 → fP (d + 1) t (puG t d c k) ∧ (∀ r m, 11 < r → (puG t d c k).2.2.1 r m = t.2.2.1 r m) ∧ ∀ j, j < k → (puG t d c k).2.2.1 9 (10 * (d + 1) + j) = c (t.2.2.1 9 (10 * d + j)) ∧ (puG t d c k).2.2.1 10 (10 * (d + 1) + j) = c (t.2.2.1 10 (10 * d + j)) ∧ (puG t d c k).2.2.1 11 (10 * (d + 1) + j) = t.2.2.1 11 (10 * d + j)
  | 0, _ => ⟨⟨rfl, rfl, rfl, fun _ _ _ => rfl⟩, fun _ _ _ => rfl, fun j hj => absurd hj (Nat.not_lt_zero j)⟩
  | k + 1, hk => by
    obtain ⟨g1, g2, g3⟩ := puG_f t d c k (by omega)
    have e9 := g1.2.2.2 9 (10 * d + k) (by omega)
    have e10 := g1.2.2.2 10 (10 * d + k) (by omega)
    have e11 := g1.2.2.2 11 (10 * d + k) (by omega)
    show fP (d + 1) t (wA (wA (wA (puG t d c k) 9 (10 * (d + 1) + k) (c ((puG t d c k).2.2.1 9 (10 * d + k)))) 10 (10 * (d + 1) + k) (c ((puG t d c k).2.2.1 10 (10 * d + k)))) 11 (10 * (d + 1) + k) ((puG t d c k).2.2.1 11 (10 * d + k))) ∧ _
    rw [puG, e9, e10, e11]
    generalize puG t d c k = G at g1 g2 g3
    refine ⟨fP_t (fP_t (fP_t g1 (fP_A (by omega))) (fP_A (by omega))) (fP_A (by omega)), fun r m hr => ?_, fun j hj => ?_⟩
    · rw [rdA, rdA, rdA, if_neg (by omega), if_neg (by omega), if_neg (by omega)]
      exact g2 r m hr
    · by_cases q : j = k
      · subst q
        refine ⟨?_, ?_, ?_⟩
        · rw [rdA, rdA, rdA, if_neg (by omega), if_neg (by omega), if_pos ⟨rfl, rfl⟩]
        · rw [rdA, rdA, if_neg (by omega), if_pos ⟨rfl, rfl⟩]
        · rw [rdA, if_pos ⟨rfl, rfl⟩]
      · obtain ⟨j1, j2, j3⟩ := g3 j (by omega)
        refine ⟨?_, ?_, ?_⟩
        · rw [rdA, rdA, rdA, if_neg (by omega), if_neg (by omega), if_neg (by omega)]; exact j1
        · rw [rdA, rdA, rdA, if_neg (by omega), if_neg (by omega), if_neg (by omega)]; exact j2
        · rw [rdA, rdA, rdA, if_neg (by omega), if_neg (by omega), if_neg (by omega)]; exact j3
section TM
variable {t : ST} {V : AN} {N L d : Nat}
theorem puts_e (hR : repN t N L d V) (h : okA N L V) (hd : d + 1 < 12) {f : Nat} (hf : tP V f = true) (b : Bool) : ∃ t2, m_X10_puts t (nI d) (nI f) (bz b) = some t2 ∧ repN t2 N L (d + 1) (if b = true then cA V f else dA1 V f) ∧ fP (d + 1) t t2 ∧ t2.2.2.1 14 (d + 1) = 0 := by
  have hL := h.2.1
  have hw := okA_w h
  have hp := okA_p h
  obtain ⟨-, f10⟩ := okA_10 h hf
  obtain ⟨r1, r2, r3⟩ := hR.2.2.2.2 f hf
  obtain ⟨n1, n2⟩ := N7 h hf
  have hlo : (if nI (aE V f) ≤ nI (aA V f) then some (nI (aE V f)) else some (nI (aA V f))) = some (nI (loA V f)) := by
    unfold loA
    by_cases q : aE V f ≤ aA V f
    · rw [if_pos (by rw [qle (by omega) (by omega)]; omega)]
      by_cases q2 : aE V f < aA V f
      · rw [if_pos q2]
      · rw [if_neg q2, show aE V f = aA V f by omega]
    · rw [if_neg (by rw [qle (by omega) (by omega)]; omega), if_neg (by omega)]
  have hhi : (if nI (aE V f) ≤ nI (aA V f) then some (nI (aA V f)) else some (nI (aE V f))) = some (nI (hiA V f)) := by
    unfold hiA
    by_cases q : aE V f ≤ aA V f
    · rw [if_pos (by rw [qle (by omega) (by omega)]; omega), if_neg (by omega)]
    · rw [if_neg (by rw [qle (by omega) (by omega)]; omega), if_pos (by omega)]
  have l7 : loA V f < 7 := by unfold loA; split <;> assumption
  have h7 : hiA V f < 7 := by unfold hiA; split <;> assumption
  unfold m_X10_puts
  rw [nI_1]
  simp only [lt, row_e]
  rw [gd_in (by omega) (by omega), gd_in (by omega) (by omega), nI_clamp (by omega), r1, r2, hlo, Option.bind_some, hhi, Option.bind_some, gd_in (by omega) (by omega), gd_in (by omega) (by omega), gd_in (by omega) (by omega), gd_in (by omega) (by omega), gd_in (by omega) (by omega), nI_clamp (by omega), nI_clamp (by omega), hR.2.2.1, shl_1 f (by omega), wo_i]
  have e13 : (wA t 12 (d + 1) (nI (wo (aP V) (2 ^ f)))).2.2.1 13 d = nI (aW V) := hR.2.2.2.1
  rw [e13]
  have hc : ∀ x : Int32, (if bz b = 0 then some x else if x = nI (hiA V f) then some (nI (loA V f)) else some x) = some (if b = true then (if x = nI (hiA V f) then nI (loA V f) else x) else x) := fun x => by
    rw [bz_if]
    split
    · split <;> rfl
    · rfl
  generalize hT : wA (wA (wA t 12 (d + 1) (nI (wo (aP V) (2 ^ f)))) 13 (d + 1) (nI (aW V))) 14 (d + 1) (0 : Int32) = T
  have hTf : fP (d + 1) t T := by rw [← hT]; exact fP_t (fP_t (fP_A (by omega)) (fP_A (by omega))) (fP_A (by omega))
  have hT12 : T.2.2.1 12 (d + 1) = nI (wo (aP V) (2 ^ f)) := by rw [← hT, rdA, rdA, rdA, if_neg (by omega), if_neg (by omega), if_pos (by omega)]
  have hT13 : T.2.2.1 13 (d + 1) = nI (aW V) := by rw [← hT, rdA, rdA, if_neg (by omega), if_pos (by omega)]
  have hT14 : T.2.2.1 14 (d + 1) = 0 := by rw [← hT, rdA, if_pos (by omega)]
  have hl : vLoop (m_X10_puts_L106 (nI d) (bz b) (nI (d + 1)) (nI (loA V f)) (nI (hiA V f))) FUEL ((0 : Int32), T) = some (puG T d (fun x => if b = true then (if x = nI (hiA V f) then nI (loA V f) else x) else x) L) := by
    refine vl_F (fun k => (nI k, puG T d (fun x => if b = true then (if x = nI (hiA V f) then nI (loA V f) else x) else x) k)) 0 L (by omega) (by omega) (fun k _ hk => ?_) ?_
    · obtain ⟨g1, -, -⟩ := puG_f T d (fun x => if b = true then (if x = nI (hiA V f) then nI (loA V f) else x) else x) k (by omega)
      unfold m_X10_puts_L106
      simp only [un, lt, row_e]
      rw [g1.1, hTf.1, hR.2.1, if_neg (by rw [qle (by omega) (by omega)]; omega), gd_in (by omega) (by omega), gd_in (by omega) (by omega), hc, Option.bind_some, hc, Option.bind_some, gd_in (by omega) (by omega), gd_in (by omega) (by omega), gd_in (by omega) (by omega), gd_in (by omega) (by omega), nI_clamp (by omega), nI_clamp (by omega), nI_1]
      rfl
    · obtain ⟨g1, -, -⟩ := puG_f T d (fun x => if b = true then (if x = nI (hiA V f) then nI (loA V f) else x) else x) L (by omega)
      unfold m_X10_puts_L106
      simp only [un]
      rw [g1.1, hTf.1, hR.2.1, if_pos (by rw [qle (by omega) (by omega)]; omega)]
  rw [hl, Option.bind_some, bz_if]
  obtain ⟨g1, g2, g3⟩ := puG_f T d (fun x => if b = true then (if x = nI (hiA V f) then nI (loA V f) else x) else x) L hL
  generalize puG T d (fun x => if b = true then (if x = nI (hiA V f) then nI (loA V f) else x) else x) L = G at g1 g2 g3 ⊢
  have hG : fP (d + 1) t G := fP_t hTf g1
  have w12 := (g2 12 (d + 1) (by omega)).trans hT12
  have w13 := (g2 13 (d + 1) (by omega)).trans hT13
  have w14 := (g2 14 (d + 1) (by omega)).trans hT14
  have g13d : G.2.2.1 13 d = nI (aW V) := (hG.2.2.2 13 d (by omega)).trans hR.2.2.2.1
  have hrow : ∀ k, tP V k = true → G.2.2.1 9 (10 * (d + 1) + k) = nI (if b = true then sg (loA V f) (hiA V f) (aA V k) else aA V k) ∧ G.2.2.1 10 (10 * (d + 1) + k) = nI (if b = true then sg (loA V f) (hiA V f) (aE V k) else aE V k) ∧ G.2.2.1 11 (10 * (d + 1) + k) = nI (kd (aX V k) (aY V k)) := fun k hk => by
    obtain ⟨kL, k10⟩ := okA_10 h hk
    obtain ⟨m1, m2⟩ := N7 h hk
    obtain ⟨s1, s2, s3⟩ := g3 k kL
    obtain ⟨p1, p2, p3⟩ := hR.2.2.2.2 k hk
    have hsg : ∀ a, a < 7 → (if b = true then (if nI a = nI (hiA V f) then nI (loA V f) else nI a) else nI a) = nI (if b = true then sg (loA V f) (hiA V f) a else a) := fun a ha => by
      cases b
      · rfl
      · show (if nI a = nI (hiA V f) then nI (loA V f) else nI a) = nI (if a = hiA V f then loA V f else a)
        by_cases q : a = hiA V f
        · rw [if_pos (by rw [q]), if_pos q]
        · rw [if_neg (by rw [qeq (by omega) (by omega)]; exact q), if_neg q]
    rw [hTf.2.2.2 9 _ (by omega), p1] at s1
    rw [hTf.2.2.2 10 _ (by omega), p2] at s2
    rw [hTf.2.2.2 11 _ (by omega), p3] at s3
    exact ⟨s1.trans (hsg _ m1), s2.trans (hsg _ m2), s3⟩
  have hN : G.1 1 = nI N := by rw [hG.1]; exact hR.1
  have hLL : G.1 4 = nI L := by rw [hG.1]; exact hR.2.1
  cases b
  · rw [if_neg (by decide), if_neg (by decide)]
    refine ⟨G, rfl, ⟨hN, hLL, w12, w13, fun k hk => ?_⟩, hG, w14⟩
    rw [dA1_t] at hk
    exact hrow k (wi_t hk).1
  · rw [if_pos rfl, if_pos rfl, gd_i2 (by omega) (by omega), g13d, sar_bit (by omega) (by omega)]
    have hrow2 : ∀ k, tP (cA V f) k = true → G.2.2.1 9 (10 * (d + 1) + k) = nI (aA (cA V f) k) ∧ G.2.2.1 10 (10 * (d + 1) + k) = nI (aE (cA V f) k) ∧ G.2.2.1 11 (10 * (d + 1) + k) = nI (kd (aX (cA V f) k) (aY (cA V f) k)) := fun k hk => by
      rw [cA_f] at hk
      exact hrow k (wi_t hk).1
    by_cases q : (aW V).testBit (hiA V f) = true
    · have hj : aW (cA V f) = wo (aW V) (2 ^ hiA V f) ||| 2 ^ loA V f := by
        show jW V f = _
        unfold jW; rw [if_pos q]
      rw [if_pos (by rw [q]; rfl), gd_i2 (by omega) (by omega), gd_i2 (by omega) (by omega), shl_1 (hiA V f) (by omega), shl_1 (loA V f) (by omega), wo_i, fa_or]
      refine ⟨_, rfl, ⟨hN, hLL, ?_, ?_, fun k hk => ?_⟩, fP_t hG (fP_A (by omega)), ?_⟩
      · rw [rdA, if_neg (by omega)]; exact w12
      · rw [rdA, if_pos (by omega), hj]
      · rw [rdA, rdA, rdA, if_neg (by omega), if_neg (by omega), if_neg (by omega)]
        exact hrow2 k hk
      · rw [rdA, if_neg (by omega)]; exact w14
    · have hj : aW (cA V f) = aW V := by
        show jW V f = _
        unfold jW; rw [if_neg q]
      rw [if_neg (by rw [Bool.eq_false_iff.mpr q]; decide)]
      exact ⟨G, rfl, ⟨hN, hLL, w12, by rw [w13, hj], hrow2⟩, hG, w14⟩
end TM
