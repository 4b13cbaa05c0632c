section JN
variable {b t : ST} {D : ND}
def SIMW {α : Type} (c : Option (α × ST × (Nat → ST))) (m : Option (α × ST)) : Prop := ∃ r b w t D, c = some (r, b, w) ∧ m = some (r, t) ∧ INV b t D
theorem SIMW.mk {α : Type} {c : Option (α × ST × (Nat → ST))} {m : Option (α × ST)} {r : α} {b t : ST} {w : Nat → ST} {D : ND} (h1 : c = some (r, b, w)) (h2 : m = some (r, t)) (h : INV b t D) : SIMW c m := ⟨r, b, w, t, D, h1, h2, h⟩
theorem K3_I (h : INV b t D) (S P T : Nat) : INV (K3 b S P T) t D := h
theorem jB_e (h : INV b t D) (w : Nat → ST) {k : Nat} (hk : k ≤ 4) : ∃ b2 w2 t2 r, m_X0_askAll b w = some (b2, w2) ∧ m_X0_told b2 w2 (nI k) = some r ∧ Option.bind (m_X10_asks t) (fun t5 => m_X10_joinedBy t5 (nI k)) = some (r, t2) ∧ INV b2 t2 D := by
  obtain ⟨hD, hC, hM, hJ, hT, hS⟩ := id h
  obtain ⟨w', a1, a2, a3⟩ := aa_e hC hD w
  obtain ⟨t2, s1, s2, s3, s4, s5⟩ := asks_e hM hD
  generalize ak 12 (aV D) 0 = Q at *
  have hI := frM_I (K3_I h Q.1 Q.2.1 Q.2.2) s2
  rw [a1, s1, Option.bind_some]
  unfold m_X0_told m_X10_joinedBy
  by_cases q2 : k ≤ 1
  · rw [if_neg (show ¬ (2 : Int32) ≤ nI k by rw [qle_2 (by omega)]; omega)]
    obtain ⟨f, g, g1⟩ := reachBy_e hI.2.2.1 hD (nI k)
    have hi2 := inv_ta (f := f) (g := g) hI
    rw [g1, Option.bind_some, un_f]
    refine ⟨_, w', wD (wD t2 6 f) 7 g, _, rfl, ?_, rfl, hi2⟩
    rcases (show k = 0 ∨ k = 1 by omega) with q | q
    · subst q
      rw [if_pos (show nI 0 = (0 : Int32) from rfl), gd_t (by decide)]
      show Option.bind (some ((w' 0).2.1 0)) some = _
      rw [a2]
      rfl
    · subst q
      rw [if_neg (show ¬ nI 1 = (0 : Int32) by decide), if_pos (show nI 1 = (1 : Int32) from rfl), gd_t (by decide)]
      show Option.bind (some ((w' 0).2.1 1)) some = _
      rw [a3]
      rfl
  · rw [if_pos (show (2 : Int32) ≤ nI k by rw [qle_2 (by omega)]; omega)]
    rcases (show k = 2 ∨ k = 3 ∨ k = 4 by omega) with q | q | q
    · subst q
      rw [if_pos (by decide), s3]
      exact ⟨_, w', t2, _, rfl, rfl, rfl, hI⟩
    · subst q
      rw [if_neg (by decide), if_pos (by decide), s4]
      exact ⟨_, w', t2, _, rfl, rfl, rfl, hI⟩
    · subst q
      rw [if_neg (by decide), if_neg (by decide), s5]
      exact ⟨_, w', t2, _, rfl, rfl, rfl, hI⟩
theorem s_joined (h : INV b t D) (w : Nat → ST) (x : Int32) : SIMW (m_X9_joined b w x) (m_X10_joined t x) := by
  unfold m_X9_joined m_X10_joined
  rw [in_e, Option.bind_some, bz_if, i64_0, i64_4, Int32.toInt_toInt64]
  by_cases hx : 0 ≤ x.toInt ∧ x.toInt ≤ 4
  · rw [decide_eq_true hx, if_pos rfl]
    obtain ⟨k, hk, rfl⟩ : ∃ k, k < 5 ∧ x = nI k := by
      obtain ⟨k, h1, h2⟩ := vp_in_of (x := x) (n := 5) (vp_in_iff.mpr (by omega)) (by omega)
      exact ⟨k, h1, h2⟩
    obtain ⟨b2, w2, t2, r, j1, j2, j3, j4⟩ := jB_e h w (k := k) (by omega)
    rw [if_neg (nI_pos (by omega)), if_pos (by rw [show (4 : Int32) = nI 4 from rfl, qle (by omega) (by omega)]; omega), j1, Option.bind_some, un_f, j2, Option.bind_some, Option.bind_some]
    refine SIMW.mk (b := b2) (w := w2) (t := t2) (r := r) rfl ?_ j4
    obtain ⟨t5, e5⟩ : ∃ t5, m_X10_asks t = some t5 := by
      cases hq : m_X10_asks t with
      | none => rw [hq] at j3; cases j3
      | some t5 => exact ⟨t5, rfl⟩
    rw [e5, Option.bind_some] at j3 ⊢
    rw [j3]
    rfl
  · rw [decide_eq_false hx, if_neg (show ¬ (false = true) by decide)]
    refine SIMW.mk (b := b) (w := w) (t := t) ?_ rfl h
    by_cases h0 : x < 0
    · rw [if_pos h0]; rfl
    · rw [if_neg h0, if_neg (by
        rw [fa_lt, show (0 : Int32).toInt = 0 from by decide] at h0
        rw [fa_le, show (4 : Int32).toInt = 4 from by decide]
        omega)]
      rfl
end JN
