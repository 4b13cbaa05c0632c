/-! a net by cells, told: the law's tells -/
section TE
variable {b : ST} {D : ND}
theorem ng0 : ¬ ((0 : Int32) < 0 ∨ 54 ≤ (0 : Int32).toNatClampNeg) := by decide
theorem gk0 {α : Type} {d : Decidable (¬ ((0 : Int32) < 0 ∨ 54 ≤ (0 : Int32).toNatClampNeg))} (x : Option α) : @gd α _ d x = x := gd_t ng0
theorem ng1 : ¬ ((1 : Int32) < 0 ∨ 54 ≤ (1 : Int32).toNatClampNeg) := by decide
theorem gk1 {α : Type} {d : Decidable (¬ ((1 : Int32) < 0 ∨ 54 ≤ (1 : Int32).toNatClampNeg))} (x : Option α) : @gd α _ d x = x := gd_t ng1
theorem ng2 : ¬ ((2 : Int32) < 0 ∨ 54 ≤ (2 : Int32).toNatClampNeg) := by decide
theorem gk2 {α : Type} {d : Decidable (¬ ((2 : Int32) < 0 ∨ 54 ≤ (2 : Int32).toNatClampNeg))} (x : Option α) : @gd α _ d x = x := gd_t ng2
theorem cz0 : (0 : Int32).toNatClampNeg = 0 := rfl
theorem cz1 : (1 : Int32).toNatClampNeg = 1 := rfl
theorem cz2 : (2 : Int32).toNatClampNeg = 2 := rfl
theorem its {α : Type} {c : Prop} {d : Decidable c} {x y : α} : (if c then some x else some y) = some (if c then x else y) := by split <;> rfl
theorem and7 (x : Int32) : ∃ a, a < 8 ∧ x &&& (7 : Int32) = nI a := by
  obtain ⟨n, hn, rfl⟩ := i32_n x
  exact ⟨n % 2 ^ 3, Nat.mod_lt _ (by decide), pk_andN hn 3 (by decide)⟩
theorem upd_s {v : Nat → Int32} {i : Nat} {x : Int32} : upd v i x i = x := if_pos rfl
theorem upd_o {v : Nat → Int32} {i j : Nat} {x : Int32} (h : j ≠ i) : upd v i x j = v j := if_neg h
theorem jp {A x15 : Int32} {V : Nat → Int32} {i q : Nat} (hi : i < 10) (hq : q ≤ 9) (hV : V (34 + i) = nI q) : ∃ p, p ≤ q ∧ (if A = 0 then some (0 : Int32) else if A = (1 : Int32) then lt ((34 : Int32) + nI i) (fun x => gd (¬ (x < 0 ∨ 54 ≤ x.toNatClampNeg)) (some (V x.toNatClampNeg))) else lt ((34 : Int32) + nI i) (fun x => gd (¬ (x < 0 ∨ 54 ≤ x.toNatClampNeg)) (Option.bind (m_L_up x15 (V x.toNatClampNeg + (1 : Int32))) (fun r => some r)))) = some (nI p) := by
  have e : (34 : Int32) + nI i = nI (34 + i) := nI_add 34 i
  by_cases h0 : A = 0
  · rw [if_pos h0]; exact ⟨0, Nat.zero_le _, rfl⟩
  · rw [if_neg h0]
    by_cases h1 : A = 1
    · rw [if_pos h1, lt_f, e, gd_in (by omega) (by omega), nI_clamp (by omega), hV]
      exact ⟨q, Nat.le_refl _, rfl⟩
    · obtain ⟨p, p1, p2⟩ := lup_e x15 (n := q + 1) (by omega) (by omega)
      rw [if_neg h1, lt_f, e, gd_in (by omega) (by omega), nI_clamp (by omega), hV, nI_1, p2]
      exact ⟨p, by omega, rfl⟩
theorem js (x : Int32) : ∃ s, s ≤ 2 ∧ (if (x &&& (7 : Int32)) ≤ (1 : Int32) then lt ((1 : Int32) + (x &&& (7 : Int32))) (fun x_113 => some x_113) else some (0 : Int32)) = some (nI s) := by
  obtain ⟨a, ha, e⟩ := and7 x
  rw [e]
  by_cases h : a ≤ 1
  · rw [if_pos (show nI a ≤ (1 : Int32) by show nI a ≤ nI 1; rw [qle (by omega) (by omega)]; exact h)]
    exact ⟨1 + a, by omega, congrArg some (nI_add 1 a)⟩
  · rw [if_neg (show ¬ nI a ≤ (1 : Int32) by show ¬ nI a ≤ nI 1; rw [qle (by omega) (by omega)]; exact h)]
    exact ⟨0, by omega, rfl⟩
theorem mod_ne {a d N : Nat} (h2 : 2 ≤ N) (h7 : N ≤ 7) (ha : a < N) (hd : d < N - 1) : (a + 1 + d) % N < N ∧ a ≠ (a + 1 + d) % N := by
  rcases (show N = 2 ∨ N = 3 ∨ N = 4 ∨ N = 5 ∨ N = 6 ∨ N = 7 by omega) with rfl | rfl | rfl | rfl | rfl | rfl <;> omega
theorem tl_step {L X N M i : Nat} {xs : Nat → Int32} {r2 : Int32} {w : Nat → ST} {v : Nat → Int32} (hL : L ≤ 260) (hX : X ≤ 100) (h : DK b D) (hN : dN D = N) (hi : dL D = i) (hM : M ≤ 10) (hiM : i < M) (hS : dS D = 0) (hG : dG D = 0) (hv0 : v 0 = nI N) (hv1 : v 1 = nI M) : ∃ b' v' D', m_L_tells_L47 (nI X) r2 L xs (nI i, b, w, v) = some (.inl (nI (i + 1), b', w, v')) ∧ DK b' D' ∧ dN D' = N ∧ dL D' = i + 1 ∧ dS D' = 0 ∧ dG D' = 0 ∧ v' 0 = nI N ∧ v' 1 = nI M := by
  have hD := h.1
  have hN2 : 2 ≤ N := by rw [← hN]; exact hD.1
  have hN7 : N ≤ 7 := by rw [← hN]; exact hD.2.1
  obtain ⟨c, hc⟩ := cell_e xs hL (k := X + 1 + i) (by omega)
  obtain ⟨a, ha, ea⟩ := lup_e c (n := N) (by omega) (by omega)
  obtain ⟨d, hd, ed⟩ := lup_e (c >>> ((4 : Int32) &&& 31)) (n := N - 1) (by omega) (by omega)
  obtain ⟨m1, m2⟩ := mod_ne hN2 hN7 ha hd
  have e0 : (nI X + (1 : Int32)) + nI i = nI (X + 1 + i) := by rw [nI_1, nI_add]
  have e1 : nI N - (1 : Int32) = nI (N - 1) := pk_sub (b := 1) (show 1 ≤ N by omega)
  have e2 : (nI a + (1 : Int32)) + nI d = nI (a + 1 + d) := by rw [nI_1, nI_add]
  have k4 : (4 : Int32) + nI i = nI (4 + i) := nI_add 4 i
  have k14 : (14 : Int32) + nI i = nI (14 + i) := nI_add 14 i
  have k24 : (24 : Int32) + nI i = nI (24 + i) := nI_add 24 i
  have k34 : (34 : Int32) + nI i = nI (34 + i) := nI_add 34 i
  have k44 : (44 : Int32) + nI i = nI (44 + i) := nI_add 44 i
  unfold m_L_tells_L47
  simp only [un, gk0, gk1]
  simp only [cz0, cz1, hv0, hv1]
  rw [if_neg (by rw [qle (by omega) (by omega)]; omega), e0, hc, Option.bind_some, ea, Option.bind_some, e1, ed, Option.bind_some, gd_t (by rw [qeq_0 (by omega)]; omega), e2, pk_rem (by omega) (by omega) (by omega), lt_f]
  generalize (a + 1 + d) % N = e at m1 m2 ⊢
  rw [its, Option.bind_some, k4, gd_in (by omega) (by omega), nI_clamp (by omega), lt_f]
  generalize (if nI e ≤ nI a then nI e else nI a) = J1
  obtain ⟨v1, ev1⟩ : ∃ y, y = upd v (4 + i) J1 := ⟨_, rfl⟩
  rw [← ev1, its, Option.bind_some, k14, gd_in (by omega) (by omega), nI_clamp (by omega), lt_f]
  generalize (if nI e ≤ nI a then nI a else nI e) = J2
  obtain ⟨v2, ev2⟩ : ∃ y, y = upd v1 (14 + i) J2 := ⟨_, rfl⟩
  rw [← ev2, its, Option.bind_some]
  obtain ⟨n, hn, en⟩ : ∃ n, (n = 4 ∨ n = 9) ∧ (if ((r2 >>> ((8 : Int32) &&& 31)) &&& (1 : Int32)) = 0 then (4 : Int32) else (9 : Int32)) = nI n := by
    split
    · exact ⟨4, Or.inl rfl, rfl⟩
    · exact ⟨9, Or.inr rfl, rfl⟩
  obtain ⟨f, hf, ef⟩ := lup_e (c >>> ((8 : Int32) &&& 31)) (n := n) (by omega) (by omega)
  rw [en, ef, Option.bind_some, show (1 : Int32) + nI f = nI (1 + f) from nI_add 1 f, k34, gd_in (by omega) (by omega), nI_clamp (by omega), lt_f]
  obtain ⟨v3, ev3⟩ : ∃ y, y = upd v2 (34 + i) (nI (1 + f)) := ⟨_, rfl⟩
  have h34 : v3 (34 + i) = nI (1 + f) := by rw [ev3, upd_s]
  obtain ⟨p, hp, ep⟩ := jp (A := (c >>> ((12 : Int32) &&& 31)) &&& (7 : Int32)) (x15 := c >>> ((15 : Int32) &&& 31)) (show i < 10 by omega) (show 1 + f ≤ 9 by omega) h34
  obtain ⟨s, hs, es⟩ := js (c >>> ((20 : Int32) &&& 31))
  rw [k34] at ep
  rw [← ev3, ep, Option.bind_some, k24, gd_in (by omega) (by omega), nI_clamp (by omega), lt_f]
  obtain ⟨v4, ev4⟩ : ∃ y, y = upd v3 (24 + i) (nI p) := ⟨_, rfl⟩
  rw [← ev4, es, Option.bind_some, k44, gd_in (by omega) (by omega), nI_clamp (by omega), lt_f]
  obtain ⟨v5, ev5⟩ : ∃ y, y = upd v4 (44 + i) (nI s) := ⟨_, rfl⟩
  have q24 : v5 (24 + i) = nI p := by rw [ev5, upd_o (by omega), ev4, upd_s]
  have q34 : v5 (34 + i) = nI (1 + f) := by rw [ev5, upd_o (by omega), ev4, upd_o (by omega), h34]
  have q44 : v5 (44 + i) = nI s := by rw [ev5, upd_s]
  have q0 : v5 0 = nI N := by rw [ev5, upd_o (by omega), ev4, upd_o (by omega), ev3, upd_o (by omega), ev2, upd_o (by omega), ev1, upd_o (by omega), hv0]
  have q1 : v5 1 = nI M := by rw [ev5, upd_o (by omega), ev4, upd_o (by omega), ev3, upd_o (by omega), ev2, upd_o (by omega), ev1, upd_o (by omega), hv1]
  obtain ⟨b1, l1, h1⟩ := ka_link h (x := a) (y := e) (p := p) (q := 1 + f) (by omega) (by omega) (by omega) m2 (by omega) (by omega) hp
  obtain ⟨b2, l2, h2⟩ := ka_see h1 (k := i) (n := s) (show i < dL D + 1 by omega) hs
  rw [hi] at l1
  have hz : dV (dAdd D (if e < a then e else a) (if a < e then e else a) p (1 + f)) i = 0 := by
    show va_up (dV D) (dL D) 0 i = 0
    rw [hi]
    exact up_k
  rw [hz] at l2
  rw [← ev5, lt_f, gd_in (by omega) (by omega), lt_f, gd_in (by omega) (by omega), nI_clamp (by omega), nI_clamp (by omega), q24, q34, l1, Option.bind_some]
  dsimp only
  rw [if_pos rfl, lt_f, gd_in (by omega) (by omega), nI_clamp (by omega), q44, l2, Option.bind_some]
  dsimp only
  rw [if_pos (show nI 0 = (0 : Int32) from rfl), lt_f, nI_1]
  exact ⟨b2, v5, _, rfl, h2, hN, by show dL D + 1 = i + 1; omega, hS, hG, q0, q1⟩
end TE
