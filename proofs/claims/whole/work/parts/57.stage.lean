/-- from row d on, and the three words that are counted, things may change -/
def fN (d : Nat) (t t2 : ST) : Prop := t2.2.1 = t.2.1 ∧ t2.2.2.2 = t.2.2.2 ∧ (∀ k, (k < 6 ∨ 8 < k) → t2.1 k = t.1 k) ∧ ∀ r m, (r < 9 ∨ 14 < r ∨ (r < 12 ∧ m < 10 * d) ∨ (12 ≤ r ∧ m < d)) → t2.2.2.1 r m = t.2.2.1 r m
theorem fN_r (d : Nat) (t : ST) : fN d t t := ⟨rfl, rfl, fun _ _ => rfl, fun _ _ _ => rfl⟩
theorem fN_t {d : Nat} {t t2 t3 : ST} (h : fN d t t2) (h2 : fN d t2 t3) : fN d t t3 := ⟨h2.1.trans h.1, h2.2.1.trans h.2.1, fun k hk => (h2.2.2.1 k hk).trans (h.2.2.1 k hk), fun r m hm => (h2.2.2.2 r m hm).trans (h.2.2.2 r m hm)⟩
theorem fN_P {d : Nat} {t t2 : ST} (h : fP d t t2) : fN d t t2 := ⟨h.2.1, h.2.2.1, fun k _ => by rw [h.1], h.2.2.2⟩
theorem fN_T {d : Nat} {t t2 : ST} (h : fT d t t2) : fN d t t2 := ⟨h.1, h.2.1, fun k hk => h.2.2.1 k (by omega), fun r m hm => h.2.2.2 r m (by omega)⟩
theorem fN_up {d : Nat} {t t2 : ST} (h : fN (d + 1) t t2) : fN d t t2 := ⟨h.1, h.2.1, h.2.2.1, fun r m hm => h.2.2.2 r m (by omega)⟩
theorem fN_A {d : Nat} {t : ST} {a i : Nat} {v : Int32} (ha : (9 ≤ a ∧ a ≤ 11 ∧ 10 * d ≤ i) ∨ (12 ≤ a ∧ a ≤ 14 ∧ d ≤ i)) : fN d t (wA t a i v) := fN_P (fP_A ha)
theorem fN_I {d : Nat} {t : ST} {a : Nat} {v : Int32} (ha : 6 ≤ a ∧ a ≤ 8) : fN d t (wI t a v) := ⟨rfl, rfl, fun k hk => by show (if k = a then v else t.1 k) = _; rw [if_neg (by omega)], fun _ _ _ => rfl⟩
theorem repN_14 {t : ST} {V : AN} {N L d : Nat} (hR : repN t N L d V) (s : Int32) : repN (wA t 14 d s) N L d V := ⟨hR.1, hR.2.1, hR.2.2.1, hR.2.2.2.1, hR.2.2.2.2⟩
theorem repN_f {t t2 : ST} {V : AN} {N L d : Nat} (h : okA N L V) (hR : repN t N L d V) (hf : fN (d + 1) t t2) : repN t2 N L d V := by
  refine ⟨(hf.2.2.1 1 (by omega)).trans hR.1, (hf.2.2.1 4 (by omega)).trans hR.2.1, (hf.2.2.2 12 d (by omega)).trans hR.2.2.1, (hf.2.2.2 13 d (by omega)).trans hR.2.2.2.1, fun i hi => ?_⟩
  obtain ⟨-, i10⟩ := okA_10 h hi
  obtain ⟨r1, r2, r3⟩ := hR.2.2.2.2 i hi
  exact ⟨(hf.2.2.2 9 _ (by omega)).trans r1, (hf.2.2.2 10 _ (by omega)).trans r2, (hf.2.2.2 11 _ (by omega)).trans r3⟩
section TM
variable {t tP : ST} {V : AN} {N L d : Nat}
theorem as_3 (hd : d < 12) (hs : t.2.2.1 14 d = 3) : m_X10_asks_L131 (nI d, t) = some (.inl (nI d + (-1), t)) := by
  unfold m_X10_asks_L131
  simp only [un, lt]
  rw [if_neg (nI_pos (by omega)), gd_in (by omega) (by omega), nI_clamp (by omega), hs, if_neg (by decide), Option.bind_some, gd_i2 (by omega) (by omega), hs, if_pos (by decide), Option.bind_some, show (10 : Int32) * nI d + 0 = nI (10 * d + 0) from row_e, gd_in (by omega) (by omega), gd_i2 (by omega) (by omega), if_neg (by decide), gd_i2 (by omega) (by omega), if_pos (by decide)]
theorem kd_0 {x y : Nat} (hx : x ≠ 0) : kd x y ≠ 0 := by unfold kd; rw [if_neg hx]; split <;> decide
theorem as_x (hR : repN t N L d V) (h : okA N L V) (hd : d < 12) (hp : aP V ≠ 0) {s : Nat} (hs : t.2.2.1 14 d = nI s) (h0 : s = 1 ∨ s = 2) : m_X10_asks_L131 (nI d, t) = (if s = 1 then (if aX V (tz (aP V)) = 0 then Option.bind (m_X10_puts (wA t 14 d 3) (nI d) (nI (tz (aP V))) 0) (fun t2 => some (.inl (nI (d + 1), t2))) else Option.bind (m_X10_puts (wA t 14 d 2) (nI d) (nI (tz (aP V))) 1) (fun t2 => some (.inl (nI (d + 1), t2)))) else if aX V (tz (aP V)) = aY V (tz (aP V)) then some (.inl (nI d + (-1), t)) else Option.bind (m_X10_puts (wA t 14 d 3) (nI d) (nI (tz (aP V))) 0) (fun t2 => some (.inl (nI (d + 1), t2)))) := by
  have hpp := okA_p h
  obtain ⟨t1, t2, -⟩ := tz_10 (aP V) hpp (by omega)
  have hfs := fst_e hR h hd hp
  have hf : tP V (tz (aP V)) = true := t2
  generalize tz (aP V) = f at t1 hfs hf ⊢
  obtain ⟨-, -, r3⟩ := hR.2.2.2.2 f hf
  obtain ⟨-, -, y1, x1⟩ := h.2.2.2.2.2.2 f hf
  unfold m_X10_asks_L131
  simp only [un, lt]
  have h3 : ¬ (3 : Int32) ≤ nI s := by rcases h0 with q | q <;> rw [q] <;> decide
  rw [if_neg (nI_pos (by omega)), gd_in (by omega) (by omega), nI_clamp (by omega), hs, if_neg (by rcases h0 with q | q <;> rw [q] <;> decide), Option.bind_some, gd_i2 (by omega) (by omega), hs, if_neg h3, hfs, Option.bind_some, Option.bind_some, row_e, gd_in (by omega) (by omega), gd_i2 (by omega) (by omega), nI_clamp (n := 10 * d + f) (by omega), r3, gd_i2 (by omega) (by omega), gd_i2 (by omega) (by omega), nI_1]
  rcases h0 with q | q
  · subst q
    rw [if_pos (show nI 1 = (1 : Int32) from rfl), if_pos (show (1 : Nat) = 1 from rfl)]
    unfold kd
    by_cases q2 : aX V f = 0
    · rw [if_pos (show nI (if aX V f = 0 then 0 else _) = 0 by rw [if_pos q2]; rfl), if_neg h3, if_neg (by rw [if_pos q2]; decide), if_pos q2]
    · rw [if_neg (show ¬ nI (if aX V f = 0 then 0 else _) = 0 by rw [if_neg q2]; split <;> decide), if_neg q2, gd_i2 (by omega) (by omega)]
  · subst q
    rw [if_neg (show ¬ nI 2 = (1 : Int32) by decide), if_neg h3, if_neg (show ¬ (2 : Nat) = 1 by decide)]
    unfold kd
    by_cases q2 : aX V f = aY V f
    · rw [if_pos (by rw [if_neg (show ¬ aX V f = 0 by omega), if_pos q2]; rfl), if_pos q2]
    · rw [if_neg (by rw [if_neg q2]; split <;> decide), if_neg q2]
/-- a net is asked about: counted, tidied, and is it answered -/
theorem as_0 (hR : repN t N L d V) (h : okA N L V) (hd : d < 12) (hs : t.2.2.1 14 d = 0) {S P T : Nat} (w6 : t.1 6 = nI S) (w7 : t.1 7 = nI P) (w8 : t.1 8 = nI T) (hP : P ≤ 30) : ∃ t2, m_X10_asks_L131 (nI d, t) = m_X10_asks_L131 (nI d, t2) ∧ repN t2 N L d (tdy 10 V).2 ∧ t2.2.2.1 14 d = (if stl (tdy 10 V).2 = true then 3 else 1) ∧ t2.1 6 = nI (S + 1) ∧ t2.1 7 = nI (max P (d + 1)) ∧ t2.1 8 = nI (T + (tdy 10 V).1) ∧ fN d t t2 := by
  have hR2 : repN (wI (wI t 6 (nI (S + 1))) 7 (nI (max P (d + 1)))) N L d V := ⟨hR.1, hR.2.1, hR.2.2.1, hR.2.2.2.1, hR.2.2.2.2⟩
  obtain ⟨t3, q1, q2, q3, q4⟩ := tdN_e hR2 h hd
  obtain ⟨k1, -⟩ := tdy_k 10 V h pc_lt
  have hi := isA_e q2 k1 hd
  have e6 : t3.1 6 = nI (S + 1) := q3.2.2.1 6 (by decide)
  have e7 : t3.1 7 = nI (max P (d + 1)) := q3.2.2.1 7 (by decide)
  have e8 : t3.1 8 = nI (T + (tdy 10 V).1) := by
    rw [q4]
    show t.1 8 + _ = _
    rw [w8, nI_add]
  have hfr : fN d t t3 := fN_t (fN_t (fN_I (by omega)) (fN_I (by omega))) (fN_T q3)
  generalize tdy 10 V = U at q1 q2 q4 k1 hi e8 ⊢
  have hm : (if nI d + (1 : Int32) ≤ nI P then some (nI P) else some (nI d + (1 : Int32))) = some (nI (max P (d + 1))) := by
    rw [nI_1]
    by_cases q : d + 1 ≤ P
    · rw [if_pos (by rw [qle (by omega) (by omega)]; exact q), show max P (d + 1) = P by omega]
    · rw [if_neg (by rw [qle (by omega) (by omega)]; exact q), show max P (d + 1) = d + 1 by omega]
  have hst : ∀ v : Int32, (wA t3 14 d v).2.2.1 14 d = v := fun v => by rw [rdA, if_pos ⟨rfl, rfl⟩]
  refine ⟨wA t3 14 d (if stl U.2 = true then 3 else 1), ?_, repN_14 q2 _, hst _, e6, e7, e8, fN_t hfr (fN_A (by omega))⟩
  have hask : (if t.2.2.1 14 (nI d).toNatClampNeg = 0 then lt (wI t 6 ((t.1 6) + (1 : Int32))) (fun t_72 => Option.bind (if (nI d + (1 : Int32)) ≤ (t_72.1 7) then some (t_72.1 7) else some (nI d + (1 : Int32))) (fun (j_74 : Int32) => lt (wI t_72 7 j_74) (fun t_75 => Option.bind (m_X10_tidies t_75 (nI d)) (fun (t_77 : ST) => Option.bind (m_X10_isAnswered t_77 (nI d)) (fun (r_79 : Int32) => if r_79 = 0 then gd (¬ (nI d < 0 ∨ 12 ≤ (nI d).toNatClampNeg)) (lt (wA t_77 14 (nI d).toNatClampNeg (1 : Int32)) (fun t_82 => some t_82)) else gd (¬ (nI d < 0 ∨ 12 ≤ (nI d).toNatClampNeg)) (lt (wA t_77 14 (nI d).toNatClampNeg (3 : Int32)) (fun t_84 => some t_84))))))) else some t) = some (wA t3 14 d (if stl U.2 = true then 3 else 1)) := by
    rw [nI_clamp (by omega), if_pos hs, lt_f, w6, nI_1 S, show (wI t 6 (nI (S + 1))).1 7 = nI P from w7, hm, Option.bind_some, lt_f, q1, Option.bind_some, hi, Option.bind_some, bz_if, gd_i2 (by omega) (by omega), gd_i2 (by omega) (by omega), lt_f, lt_f]
    split <;> rfl
  have hnsk : (if (wA t3 14 d (if stl U.2 = true then 3 else 1)).2.2.1 14 (nI d).toNatClampNeg = 0 then lt (wI (wA t3 14 d (if stl U.2 = true then 3 else 1)) 6 (((wA t3 14 d (if stl U.2 = true then 3 else 1)).1 6) + (1 : Int32))) (fun t_72 => Option.bind (if (nI d + (1 : Int32)) ≤ (t_72.1 7) then some (t_72.1 7) else some (nI d + (1 : Int32))) (fun (j_74 : Int32) => lt (wI t_72 7 j_74) (fun t_75 => Option.bind (m_X10_tidies t_75 (nI d)) (fun (t_77 : ST) => Option.bind (m_X10_isAnswered t_77 (nI d)) (fun (r_79 : Int32) => if r_79 = 0 then gd (¬ (nI d < 0 ∨ 12 ≤ (nI d).toNatClampNeg)) (lt (wA t_77 14 (nI d).toNatClampNeg (1 : Int32)) (fun t_82 => some t_82)) else gd (¬ (nI d < 0 ∨ 12 ≤ (nI d).toNatClampNeg)) (lt (wA t_77 14 (nI d).toNatClampNeg (3 : Int32)) (fun t_84 => some t_84))))))) else some (wA t3 14 d (if stl U.2 = true then 3 else 1))) = some (wA t3 14 d (if stl U.2 = true then 3 else 1)) := by
    rw [nI_clamp (by omega), hst, if_neg (by split <;> decide)]
  unfold m_X10_asks_L131
  dsimp only [un]
  have hn0 : ¬ nI d < 0 := nI_pos (by omega)
  rw [if_neg hn0, if_neg hn0, hask, hnsk]
end TM
