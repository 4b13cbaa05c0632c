/-- what lies outside row d's nets, and the words but word 8, stands -/
def fT (d : Nat) (t t2 : ST) : Prop := t2.2.1 = t.2.1 ∧ t2.2.2.2 = t.2.2.2 ∧ (∀ k, k ≠ 8 → t2.1 k = t.1 k) ∧ ∀ r m, (r < 9 ∨ 12 < r ∨ (r < 12 ∧ m < 10 * d) ∨ (r = 12 ∧ m < d)) → t2.2.2.1 r m = t.2.2.1 r m
theorem fT_r (d : Nat) (t : ST) : fT d t t := ⟨rfl, rfl, fun _ _ => rfl, fun _ _ _ => rfl⟩
theorem fT_t {d : Nat} {t t2 t3 : ST} (h : fT d t t2) (h2 : fT d t2 t3) : fT d t t3 := ⟨h2.1.trans h.1, h2.2.1.trans h.2.1, fun k hk => (h2.2.2.1 k hk).trans (h.2.2.1 k hk), fun r m hm => (h2.2.2.2 r m hm).trans (h.2.2.2 r m hm)⟩
theorem fT_A {d : Nat} {t : ST} {a i : Nat} {v : Int32} (ha : (9 ≤ a ∧ a ≤ 11 ∧ 10 * d ≤ i) ∨ (a = 12 ∧ d ≤ i)) : fT d t (wA t a i v) := ⟨rfl, rfl, fun _ _ => rfl, fun r m hm => by
  show (if r = a then upd (t.2.2.1 a) i v else t.2.2.1 r) m = t.2.2.1 r m
  by_cases q : r = a
  · rw [if_pos q, q]
    show (if m = i then v else t.2.2.1 a m) = t.2.2.1 a m
    rw [if_neg (by omega)]
  · rw [if_neg q]⟩
theorem fT_M {d : Nat} {t : ST} {P i : Nat} : fT d t (dM t d P i) := by
  refine fT_t (fT_A (a := 12) (i := d) (v := nI (wo P (2 ^ i))) (Or.inr ⟨rfl, Nat.le_refl d⟩)) ⟨rfl, rfl, fun k hk => ?_, fun _ _ _ => rfl⟩
  show (if k = 8 then _ else _) = _
  rw [if_neg hk]
section TM
variable {t : ST} {V : AN} {N L d : Nat}
def stM (t : ST) (V : AN) (d : Nat) : ST := if rnd V < 10 then dM t d (aP V) (rnd V) else if twi V < 10 then twM t V d (twi V) (twj V (twi V)) else if edg V < 10 then dM t d (aP V) (edg V) else chM t V d (chi V) (chj V (chi V)) ((mid V (chi V) (chj V (chi V))).getD 0)
theorem stM_F : fT d t (stM t V d) := by
  unfold stM
  split
  · exact fT_M
  · split
    · exact fT_t (fT_A (Or.inl ⟨by omega, by omega, by omega⟩)) fT_M
    · split
      · exact fT_M
      · exact fT_t (fT_t (fT_t (fT_A (Or.inl ⟨by omega, by omega, by omega⟩)) (fT_A (Or.inl ⟨by omega, by omega, by omega⟩))) (fT_A (Or.inl ⟨by omega, by omega, by omega⟩))) fT_M
theorem stM_8 : (stM t V d).1 8 = t.1 8 + 1 := by
  unfold stM
  split
  · rfl
  · split
    · rfl
    · split <;> rfl
theorem stM_R (hR : repN t N L d V) (h : okA N L V) {V2 : AN} (hs : stp V = some V2) : repN (stM t V d) N L d V2 := by
  unfold stM
  unfold stp at hs
  by_cases c1 : rnd V < 10
  · rw [if_pos c1] at hs ⊢; cases hs; exact dM_R hR
  · rw [if_neg c1] at hs ⊢
    by_cases c2 : twi V < 10
    · rw [if_pos c2] at hs ⊢; cases hs
      obtain ⟨-, -, q1, q2, -⟩ := tw_t c2
      exact twM_R hR h q1 q2
    · rw [if_neg c2] at hs ⊢
      by_cases c3 : edg V < 10
      · rw [if_pos c3] at hs ⊢; cases hs; exact dM_R hR
      · rw [if_neg c3] at hs ⊢
        by_cases c4 : chi V < 10
        · rw [if_pos c4] at hs; cases hs
          obtain ⟨-, -, q1, q2, -⟩ := ch_t c4
          exact chM_R hR h q1 q2
        · rw [if_neg c4] at hs; cases hs
theorem stN_e (hR : repN t N L d V) (h : okA N L V) (hd : d < 12) : m_X10_tidies_L2 (nI d) ((1 : Int32), t) = some (.inl (match stp V with | none => ((0 : Int32), t) | some _ => ((1 : Int32), stM t V d))) := by
  unfold m_X10_tidies_L2 stp stM
  simp only [un]
  rw [if_neg (show ¬ (1 : Int32) = 0 by decide), dropO_e hR h hd, Option.bind_some]
  by_cases c1 : rnd V < 10
  · rw [if_pos c1, if_pos c1, if_pos c1, if_neg (show ¬ (1 : Int32) = 0 by decide)]
  · rw [if_neg c1, if_neg c1, if_neg c1, if_pos rfl, jbM_e hR h hd c1, Option.bind_some]
    by_cases c2 : twi V < 10
    · rw [if_pos c2, if_pos c2, if_pos c2, if_neg (show ¬ (1 : Int32) = 0 by decide)]
    · rw [if_neg c2, if_neg c2, if_neg c2, if_pos rfl, dropE_e hR h hd, Option.bind_some]
      by_cases c3 : edg V < 10
      · rw [if_pos c3, if_pos c3, if_pos c3, if_neg (show ¬ (1 : Int32) = 0 by decide)]
      · rw [if_neg c3, if_neg c3, if_neg c3, if_pos rfl, jhM_e hR h hd, Option.bind_some]
        by_cases c4 : chi V < 10
        · rw [if_pos c4, if_pos c4, if_neg (show ¬ (1 : Int32) = 0 by decide)]
        · rw [if_neg c4, if_neg c4, if_pos rfl]
theorem tdL_e : ∀ (r F : Nat) (t : ST) (V : AN), okA N L V → repN t N L d V → d < 12 → pc (aP V) ≤ r → r + 2 ≤ F → ∃ t2, vLoop (m_X10_tidies_L2 (nI d)) F ((1 : Int32), t) = some t2 ∧ repN t2 N L d (tdy r V).2 ∧ fT d t t2 ∧ t2.1 8 = t.1 8 + nI (tdy r V).1
  | r, 0, t, V, _, _, _, _, hF => by omega
  | r, 1, t, V, _, _, _, _, hF => by omega
  | r, F + 2, t, V, h, hR, hd, hp, hF => by
    have hst := stN_e hR h hd
    cases hs : stp V with
    | none =>
      rw [hs] at hst
      have hz : tdy r V = (0, V) := by
        cases r with
        | zero => rfl
        | succ n => exact tdy_n hs
      rw [hz]
      refine ⟨t, ?_, hR, fT_r d t, (Int32.add_zero (t.1 8)).symm⟩
      rw [vl_next hst]
      refine vl_stop ?_
      unfold m_X10_tidies_L2
      simp only [un]
      rw [if_pos True.intro]
    | some V2 =>
      rw [hs] at hst
      obtain ⟨k1, -, -, -, k5⟩ := stp_k h hs
      obtain ⟨r2, hr⟩ : ∃ r2, r = r2 + 1 := ⟨r - 1, by omega⟩
      subst hr
      obtain ⟨t2, q1, q2, q3, q4⟩ := tdL_e r2 (F + 1) _ V2 k1 (stM_R hR h hs) hd (by omega) (by omega)
      rw [tdy_y hs]
      refine ⟨t2, ?_, q2, fT_t stM_F q3, ?_⟩
      · rw [vl_next hst, q1]
      · rw [q4, stM_8]
        show _ = t.1 8 + nI ((tdy r2 V2).1 + 1)
        rw [← nI_1, Int32.add_assoc, Int32.add_comm 1]
theorem tdN_e (hR : repN t N L d V) (h : okA N L V) (hd : d < 12) : ∃ t2, m_X10_tidies t (nI d) = some t2 ∧ repN t2 N L d (tdy 10 V).2 ∧ fT d t t2 ∧ t2.1 8 = t.1 8 + nI (tdy 10 V).1 := by
  obtain ⟨t2, q1, q2, q3, q4⟩ := tdL_e 10 FUEL t V h hR hd pc_lt (by unfold FUEL; omega)
  refine ⟨t2, ?_, q2, q3, q4⟩
  unfold m_X10_tidies
  rw [q1]
  rfl
end TM
