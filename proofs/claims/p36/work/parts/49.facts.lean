/-! what the property says, of nets as plain numbers -/
section FA
variable {D : ND}
theorem RS_Z (D : ND) (u w : Nat → Nat) : RS D u w = RZ (dA D) (dE D) u (zz u w) (dW D) (fun _ => true) (dL D) [] := by
  rw [← sm_RZ]
  unfold RS rch EDD
  simp only [List.append_nil]
/-- a link up, a link down -/
theorem RS_split {k : Nat} (hk : k < dL D) (u w : Nat → Nat) : RS D u w = u k * RS D (va_up u k 1) (va_up w k 1) + (w k - u k) * RS D (va_up u k 0) (va_up w k 1) := by
  have c1 : ∀ c U, RZ (dA D) (dE D) (va_up u k c) (zz (va_up u k c) (va_up w k 1)) (dW D) (wi (fun _ => true) k) (dL D) U = RZ (dA D) (dE D) u (zz u w) (dW D) (wi (fun _ => true) k) (dL D) U := fun c U => RZ_cong (fun _ _ => rfl) (fun j _ hj => ⟨rfl, rfl, up_n (wi_t hj).2, by unfold zz; rw [up_n (wi_t hj).2, up_n (wi_t hj).2]⟩)
  have e1 : ∀ c, zz (va_up u k c) (va_up w k 1) k = 1 - c := fun c => by unfold zz; rw [up_k, up_k]
  rw [RS_Z, RS_Z, RS_Z, RZ_take hk rfl, RZ_take (x := va_up u k 1) hk rfl, RZ_take (x := va_up u k 0) hk rfl, c1, c1, c1, c1, e1, e1, up_k, up_k]
  show u k * _ + (w k - u k) * _ = _
  simp only [Nat.one_mul, Nat.zero_mul, Nat.add_zero, Nat.zero_add, Nat.sub_self, Nat.sub_zero]
theorem RS_ud (hD : okD D) {k : Nat} (hk : k < dL D) : RS D (va_up (uP D) k 0) (va_up (wP D) k 1) ≤ RS D (va_up (uP D) k 1) (va_up (wP D) k 1) := (WA_eq hD hk).2
theorem up_up2 {f : Nat → Nat} {k a c : Nat} : va_up (va_up f k a) k c = va_up f k c := by
  funext j
  unfold va_up
  split <;> rfl
theorem up_same {f : Nat → Nat} {k : Nat} : va_up f k (f k) = f := by
  funext j
  unfold va_up
  split
  · rename_i h; rw [h]
  · rfl
/-- a better chance -/
theorem RS_better (hD : okD D) {k p q : Nat} (hk : k < dL D) (hp : p ≤ q) : RS D (va_up (uP D) k p) (va_up (wP D) k q) ≤ RS D (va_up (uP D) k q) (va_up (wP D) k q) := by
  have h := RS_ud hD hk
  rw [RS_split hk (va_up (uP D) k p) (va_up (wP D) k q), RS_split hk (va_up (uP D) k q) (va_up (wP D) k q)]
  simp only [up_up2, up_k, Nat.sub_self, Nat.zero_mul, Nat.add_zero]
  generalize RS D (va_up (uP D) k 1) (va_up (wP D) k 1) = A at h ⊢
  generalize RS D (va_up (uP D) k 0) (va_up (wP D) k 1) = B at h ⊢
  have h1 : (q - p) * B ≤ (q - p) * A := Nat.mul_le_mul_left _ h
  have h2 : p * A + (q - p) * A = q * A := by rw [← Nat.add_mul]; congr 1; omega
  omega
/-- a goal more -/
theorem rch_goal {g s : Nat} (hs : (dW D ||| g) = dW (dGo D (dG D ||| g))) (h : rch (dGo D (dG D ||| g)) s = true) : rch D s = true := by
  unfold rch at h ⊢
  have he : EDD (dGo D (dG D ||| g)) s = EDD D s := rfl
  rw [he] at h
  rw [cn_iff] at h ⊢
  intro u v hu hv h1 h2
  rw [← hs] at h
  exact h u v hu hv (by rw [Nat.testBit_or, h1]; rfl) (by rw [Nat.testBit_or, h2]; rfl)
theorem RR_goal (g : Nat) : RR (dGo D (dG D ||| g)) ≤ RR D := by
  have hs : (dW D ||| g) = dW (dGo D (dG D ||| g)) := by
    show (dG D ||| 2 ^ dS D) ||| g = (dG D ||| g) ||| 2 ^ dS D
    rw [Nat.or_assoc, Nat.or_assoc, Nat.or_comm g]
  show sm (fun s => if rch (dGo D (dG D ||| g)) s = true then wt (uP D) (zz (uP D) (wP D)) (dL D) s else 0) (2 ^ dL D) ≤ sm (fun s => if rch D s = true then wt (uP D) (zz (uP D) (wP D)) (dL D) s else 0) (2 ^ dL D)
  refine sm_le (fun s _ => ?_)
  by_cases h : rch (dGo D (dG D ||| g)) s = true
  · rw [if_pos h, if_pos (rch_goal hs h)]; exact Nat.le_refl _
  · rw [if_neg h]; exact Nat.zero_le _
/-! pairs, and as a rule -/
theorem mk_sy {E : EL} {v c : Nat} (hv : v < 7) (hc : c < 7) : (mk E v).testBit c = (mk E c).testBit v := by
  apply Bool.eq_iff_iff.mpr
  rw [mk_jn hc, mk_jn hv]
  exact ⟨fun h => h.symm, fun h => h.symm⟩
theorem PS_sy (hD : okD D) {v c : Nat} (hv : v < dN D) (hc : c < dN D) : PS D v c = PS D c v := by
  have hN := hD.2.1
  unfold PS
  refine sm_cong (fun s _ => ?_)
  rw [mk_sy (by omega) (by omega)]
theorem PS_vv (hD : okD D) {v : Nat} (hv : v < dN D) : PS D v v = TT D := by
  have hN := hD.2.1
  unfold PS TT
  rw [← okW_sm (okW_D hD)]
  refine sm_cong (fun s _ => ?_)
  rw [if_pos ((mk_jn (by omega)).mpr rfl)]
theorem PS_both (hD : okD D) {v c : Nat} (hv : v < dN D) (hc : c < dN D) (h1 : (dW D).testBit v = true) (h2 : (dW D).testBit c = true) : RR D ≤ PS D v c := by
  have hN := hD.2.1
  unfold PS RR RS
  refine sm_le (fun s _ => ?_)
  by_cases h : rch D s = true
  · rw [if_pos h, if_pos ((mk_jn (by omega)).mpr (cn_iff.mp h v c (by omega) (by omega) h1 h2))]; exact Nat.le_refl _
  · rw [if_neg h]; exact Nat.zero_le _
theorem QS_ge (hD : okD D) : TT D ≤ QS D := by
  have h := sm_ge (f := fun v => PS D (dS D) v) (i := dS D) (n := dN D) hD.2.2.2.1
  rw [← PS_vv hD hD.2.2.2.1]
  exact h
theorem sm_le_c {f : Nat → Nat} {c : Nat} : ∀ {n : Nat}, (∀ i, i < n → f i ≤ c) → sm f n ≤ n * c
  | 0, _ => by show 0 ≤ _; exact Nat.zero_le _
  | n + 1, h => by
    have ih := sm_le_c (n := n) (fun i hi => h i (by omega))
    have h1 := h n (by omega)
    show sm f n + f n ≤ _
    rw [Nat.succ_mul]
    omega
theorem QS_N (hD : okD D) : QS D ≤ dN D * TT D := sm_le_c (fun v _ => (PS_lt hD).1)
/-! where something reaches with a chance, all that are not down reach -/
theorem wt_pos {x z : Nat → Nat} {s : Nat} : ∀ {n : Nat}, 0 < wt x z n s → ∀ j, j < n → s.testBit j = true → 0 < x j
  | 0, _, j, hj, _ => by omega
  | n + 1, h, j, hj, hb => by
    have h : 0 < (if s.testBit n = true then x n else z n) * wt x z n s := h
    have h1 := Nat.pos_of_mul_pos_right h
    have h2 := Nat.pos_of_mul_pos_left h
    by_cases hjn : j = n
    · subst hjn
      first | (rw [if_pos hb] at h1; exact h1) | (rw [if_pos hb] at h2; exact h2)
    · first | exact wt_pos h2 j (by omega) hb | exact wt_pos h1 j (by omega) hb
theorem rch_sub {s r : Nat} (h : ∀ j, j < dL D → s.testBit j = true → r.testBit j = true) (hr : rch D s = true) : rch D r = true := by
  unfold rch at *
  refine cn_imp (fun e he => ?_) hr
  obtain ⟨j, h1, h2, rfl⟩ := ED_mem.mp he
  exact lab_link (e := (dA D j, dE D j)) (ED_mem.mpr ⟨j, h1, h j h1 h2, rfl⟩)
theorem rch_ndn (h : 0 < RR D) : rch D (ndn D) = true := by
  obtain ⟨s, hs, h1⟩ := sm_pos h
  have h1 : 0 < (if rch D s = true then wt (uP D) (zz (uP D) (wP D)) (dL D) s else 0) := h1
  by_cases hr : rch D s = true
  · rw [if_pos hr] at h1
    refine rch_sub (fun j hj hb => ?_) hr
    have h2 := wt_pos h1 j hj hb
    unfold ndn
    rw [bm_bit, decide_eq_true hj, Bool.true_and, Bool.not_eq_true']
    apply Bool.eq_false_iff.mpr
    intro hv
    have hv : dV D j = 2 := eq_of_beq hv
    unfold uP at h2
    rw [if_neg (by omega), if_neg (by omega)] at h2
    omega
  · rw [if_neg hr] at h1; omega
/-! worthiest -/
theorem am_none : ∀ {n : Nat}, am D n = none → ∀ k, k < n → dV D k ≠ 0
  | 0, _, k, hk => by omega
  | n + 1, h, k, hk => by
    rw [am_step] at h
    split at h
    · cases h
    · rename_i hc
      have ih := am_none h
      by_cases hkn : k = n
      · subst hkn
        intro h0
        exact hc ⟨h0, by rw [h]; rfl⟩
      · exact ih k (by omega)
theorem am_some : ∀ {n j : Nat}, am D n = some j → dV D j = 0 ∧ ∀ k, k < n → dV D k = 0 → wP D k * WA D k ≤ wP D j * WA D j
  | 0, j, h => by cases h
  | n + 1, j, h => by
    rw [am_step] at h
    split at h
    · rename_i hc
      cases h
      refine ⟨hc.1, fun k hk h0 => ?_⟩
      by_cases hkn : k = n
      · subst hkn; exact Nat.le_refl _
      · have hk : k < n := by omega
        have hg := hc.2
        cases ha : am D n with
        | none => exact absurd h0 (am_none ha k hk)
        | some i =>
          rw [ha] at hg
          have hg : wP D i * WA D i < wP D n * WA D n := of_decide_eq_true hg
          have := (am_some ha).2 k hk h0
          omega
    · rename_i hc
      obtain ⟨a1, a2⟩ := am_some h
      refine ⟨a1, fun k hk h0 => ?_⟩
      by_cases hkn : k = n
      · subst hkn
        rw [h] at hc
        have hc : ¬ (dV D k = 0 ∧ decide (wP D j * WA D j < wP D k * WA D k) = true) := hc
        rw [decide_eq_true_eq] at hc
        have := fun q => hc ⟨h0, q⟩
        omega
      · exact a2 k (by omega) h0
/-! sets -/
def full (D : ND) : Nat := 2 ^ dL D - 1
theorem full_lt : full D < 2 ^ dL D := by
  have := Nat.two_pow_pos (dL D)
  unfold full
  omega
theorem rch_full {s : Nat} (h : rch D s = true) : rch D (full D) = true := rch_sub (fun j hj _ => by unfold full; rw [all_bit]; exact decide_eq_true hj) h
theorem pc_le (hD : okD D) {s : Nat} (hs : s < 2 ^ dL D) : pc s ≤ dL D := by
  have := pc_all hD.2.2.1 hs
  omega
theorem pc_full (hD : okD D) {s : Nat} (hs : s < 2 ^ dL D) (h : pc s = dL D) : s = full D := by
  have h1 := pc_all hD.2.2.1 hs
  have hp : 2 ^ dL D ≤ 2 ^ 10 := Nat.pow_le_pow_right (by decide) hD.2.2.1
  have h2 := wo_all_lt (L := dL D) (s := s)
  have h3 := (pc_0 (wo (2 ^ dL D - 1) s) (by omega)).mp (by omega)
  refine bit_ext hs full_lt (fun i hi => ?_)
  have h4 : (wo (2 ^ dL D - 1) s).testBit i = false := by rw [h3]; exact Nat.zero_testBit i
  rw [wo_bit, all_bit, decide_eq_true hi, Bool.true_and, Bool.not_eq_false'] at h4
  unfold full
  rw [h4, all_bit, decide_eq_true hi]
theorem pc_fullL (hD : okD D) : pc (full D) = dL D := (show ∀ n, n ≤ 10 → pc (2 ^ n - 1) = n by decide +kernel) _ hD.2.2.1
theorem sm_at {f : Nat → Nat} {i : Nat} : ∀ {n : Nat}, i < n → (∀ j, j < n → j ≠ i → f j = 0) → sm f n = f i
  | 0, h, _ => by omega
  | n + 1, h, h2 => by
    show sm f n + f n = f i
    by_cases hi : i = n
    · subst hi
      rw [sm_zero (fun j hj => h2 j (by omega) (by omega)), Nat.zero_add]
    · rw [sm_at (n := n) (by omega) (fun j hj hji => h2 j (by omega) hji), h2 n (by omega) (fun q => hi q.symm), Nat.add_zero]
theorem SC_top (hD : okD D) : SC D (dL D) = if rch D (full D) = true then 1 else 0 := by
  unfold SC
  rw [sm_at full_lt (fun j hj hji => if_neg (fun q => hji (pc_full hD hj q.1)))]
  by_cases h : rch D (full D) = true
  · rw [if_pos ⟨pc_fullL hD, h⟩, if_pos h]
  · rw [if_neg (fun q => h q.2), if_neg h]
theorem way_some (hD : okD D) {m : Nat} (h : mnf (fwC D) (2 ^ dL D) = some m) : m ≤ dL D ∧ rch D (full D) = true ∧ 1 ≤ SC D m ∧ (0 < m → SC D (m - 1) = 0) := by
  obtain ⟨⟨i, h1, h2⟩, h3⟩ := (mnf_spec (fwC D) (2 ^ dL D)).2 m h
  unfold fwC at h2
  split at h2
  · rename_i hr
    cases h2
    refine ⟨pc_le hD h1, rch_full hr, ?_, fun hm => sm_zero (fun j hj => if_neg (fun q => ?_))⟩
    · have h4 := sm_ge (f := fun s => if pc s = pc i ∧ rch D s = true then 1 else 0) h1
      have h5 : (if pc i = pc i ∧ rch D i = true then 1 else 0) ≤ SC D (pc i) := h4
      rw [if_pos ⟨rfl, hr⟩] at h5
      exact h5
    · have h4 := h3 j (pc j) hj (by unfold fwC; rw [if_pos q.2])
      have := q.1
      omega
  · cases h2
theorem way_none (h : mnf (fwC D) (2 ^ dL D) = none) : rch D (full D) = false := by
  have h1 := (mnf_spec (fwC D) (2 ^ dL D)).1 h (full D) full_lt
  unfold fwC at h1
  split at h1
  · cases h1
  · rename_i hr; exact Bool.eq_false_iff.mpr hr
theorem cut_0 (h : rch D (full D) = false) : mnf (fcC D) (2 ^ dL D) = some 0 := by
  have h0 : fcC D 0 = some 0 := by
    unfold fcC
    have hw : wo (2 ^ dL D - 1) 0 = full D := by unfold wo full; rw [Nat.and_zero, Nat.xor_zero]
    rw [hw, h, if_neg (by decide)]
    exact congrArg some ((pc_0 0 (by decide)).mpr rfl)
  cases hm : mnf (fcC D) (2 ^ dL D) with
  | none =>
    have := (mnf_spec (fcC D) (2 ^ dL D)).1 hm 0 (Nat.two_pow_pos _)
    rw [h0] at this
    cases this
  | some m =>
    have := ((mnf_spec (fcC D) (2 ^ dL D)).2 m hm).2 0 0 (Nat.two_pow_pos _) h0
    rw [Nat.le_zero.mp this]
theorem rl_nil {k : Nat} (h : ∀ s, NP D k s = none) : ∀ i, rl D k i = []
  | 0 => rfl
  | i + 1 => by rw [rl_none (h i), rl_nil h i]
/-- behind the last link nothing is open -/
theorem WID_last (hD : okD D) (h0 : dL D ≠ 0) : WID D (dL D - 1) = 0 := by
  have hop : OP D (dL D - 1) = 0 := by
    refine bit_ext (n := 7) (OP_lt D _) (by decide) (fun i hi => ?_)
    rw [OP_bit hi, Nat.zero_testBit]
    apply Bool.eq_false_iff.mpr
    intro q
    obtain ⟨j, h1, h2, -⟩ := opn_iff.mp q
    omega
  have h7 : dS D < 7 := Nat.lt_of_lt_of_le hD.2.2.2.1 hD.2.1
  have hlost : ∀ s, lostB D (dL D - 1) s = true := fun s => by
    unfold lostB
    rw [List.any_eq_true]
    exact ⟨dS D, List.mem_range.mpr h7, by rw [dW_src, hop, Nat.and_zero]; rfl⟩
  have hnp : ∀ s, NP D (dL D - 1) s = none := fun s => by
    have hnk : NK D (dL D - 1) s = none := if_pos (Or.inr (hlost s))
    unfold NP
    rw [hnk]
    split <;> rfl
  unfold WID
  rw [rl_nil hnp]
  rfl
end FA
