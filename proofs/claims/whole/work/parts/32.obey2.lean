/-! an order: what it is wrong by, what it does -/
section OB
variable {b t : ST} {D : ND} {X : Nat → Int32} {T : Nat}
theorem let_e (h : TX b t X T) {j : Nat} (hj : j < T) : m_X10_letter t (nI j) (nI T) = some (X j) := by
  have h60 := h.1
  unfold m_X10_letter
  rw [if_neg (by rw [qle (by omega) (by omega)]; omega), gd_in (by omega) (by omega), nI_clamp (by omega), h.2.2.2.2]
theorem iw2 (h : TX b t X T) {st : Nat} (hs : st + 2 ≤ T) {a c : Int32} : m_X10_isWord t (nI st) 2 a c 0 0 = some (bz (decide (X st = a ∧ X (st + 1) = c))) := by
  have h60 := h.1
  unfold m_X10_isWord
  rw [gd_in (by omega) (by omega), nI_clamp (by omega), h.2.2.2.2, nI_1, h.2.2.1, let_e h (show st + 1 < T by omega), Option.bind_some]
  by_cases h1 : X st = a
  · by_cases h2 : X (st + 1) = c
    · rw [if_pos h1, if_pos h2, bz_d1 ⟨h1, h2⟩]; rfl
    · rw [if_pos h1, if_neg h2, bz_d0 (fun q => h2 q.2)]; rfl
  · rw [if_neg h1, bz_d0 (fun q => h1 q.1)]; rfl
theorem iw3 (h : TX b t X T) {st : Nat} (hs : st + 3 ≤ T) {a c d : Int32} : m_X10_isWord t (nI st) 3 a c d 0 = some (bz (decide (X st = a ∧ X (st + 1) = c ∧ X (st + 2) = d))) := by
  have h60 := h.1
  unfold m_X10_isWord
  rw [gd_in (by omega) (by omega), nI_clamp (by omega), h.2.2.2.2, nI_1, h.2.2.1, let_e h (show st + 1 < T by omega), Option.bind_some, show nI st + (2 : Int32) = nI (st + 2) from nI_add _ 2, let_e h (show st + 2 < T by omega)]
  by_cases h1 : X st = a
  · by_cases h2 : X (st + 1) = c
    · by_cases h3 : X (st + 2) = d
      · rw [if_pos h1, if_pos h2, Option.bind_some, if_neg (by decide), if_neg (by decide), Option.bind_some, if_pos h3, bz_d1 ⟨h1, h2, h3⟩]; rfl
      · rw [if_pos h1, if_pos h2, Option.bind_some, if_neg (by decide), if_neg (by decide), Option.bind_some, if_neg h3, bz_d0 (fun q => h3 q.2.2)]; rfl
    · rw [if_pos h1, if_neg h2, bz_d0 (fun q => h2 q.2.1)]; rfl
  · rw [if_neg h1, bz_d0 (fun q => h1 q.1)]; rfl
theorem iw4 (h : TX b t X T) {st : Nat} (hs : st + 4 ≤ T) {a c d e : Int32} : m_X10_isWord t (nI st) 4 a c d e = some (bz (decide (X st = a ∧ X (st + 1) = c ∧ X (st + 2) = d ∧ X (st + 3) = e))) := by
  have h60 := h.1
  unfold m_X10_isWord
  rw [gd_in (by omega) (by omega), nI_clamp (by omega), h.2.2.2.2, nI_1, h.2.2.1, let_e h (show st + 1 < T by omega), Option.bind_some, show nI st + (2 : Int32) = nI (st + 2) from nI_add _ 2, let_e h (show st + 2 < T by omega), show nI st + (3 : Int32) = nI (st + 3) from nI_add _ 3, let_e h (show st + 3 < T by omega)]
  by_cases h1 : X st = a
  · by_cases h2 : X (st + 1) = c
    · by_cases h3 : X (st + 2) = d
      · by_cases h4 : X (st + 3) = e
        · rw [if_pos h1, if_pos h2, Option.bind_some, if_neg (by decide), if_neg (by decide), Option.bind_some, if_pos h3, Option.bind_some, if_neg (by decide), if_neg (by decide), Option.bind_some, if_pos h4, bz_d1 ⟨h1, h2, h3, h4⟩]
        · rw [if_pos h1, if_pos h2, Option.bind_some, if_neg (by decide), if_neg (by decide), Option.bind_some, if_pos h3, Option.bind_some, if_neg (by decide), if_neg (by decide), Option.bind_some, if_neg h4, bz_d0 (fun q => h4 q.2.2.2)]
      · rw [if_pos h1, if_pos h2, Option.bind_some, if_neg (by decide), if_neg (by decide), Option.bind_some, if_neg h3, bz_d0 (fun q => h3 q.2.2.1)]; rfl
    · rw [if_pos h1, if_neg h2, bz_d0 (fun q => h2 q.2.1)]; rfl
  · rw [if_neg h1, bz_d0 (fun q => h1 q.1)]; rfl
theorem w4_ex {A1 A2 A3 A4 A5 : Bool} (e1 : A1 = true → A2 = false ∧ A3 = false ∧ A4 = false ∧ A5 = false) (e2 : A2 = true → A3 = false ∧ A4 = false ∧ A5 = false) (e3 : A3 = true → A4 = false ∧ A5 = false) (e4 : A4 = true → A5 = false) :
    Option.bind (some (bz A1)) (fun (r_5 : Int32) => Option.bind (if r_5 = 0 then Option.bind (some (bz A2)) (fun (r_26 : Int32) => if r_26 = 0 then some (0 : Int32) else some (3 : Int32)) else some (2 : Int32)) (fun (j_7 : Int32) => Option.bind (some (bz A3)) (fun (r_9 : Int32) => Option.bind (if r_9 = 0 then some j_7 else some (4 : Int32)) (fun (j_11 : Int32) => Option.bind (some (bz A4)) (fun (r_13 : Int32) => Option.bind (if r_13 = 0 then some j_11 else some (5 : Int32)) (fun (j_15 : Int32) => Option.bind (some (bz A5)) (fun (r_17 : Int32) => if r_17 = 0 then some j_15 else some (7 : Int32)))))))) = some (nI (if A1 = true then 2 else if A2 = true then 3 else if A3 = true then 4 else if A4 = true then 5 else if A5 = true then 7 else 0)) := by
  cases A1
  · cases A2
    · cases A3
      · cases A4
        · cases A5 <;> rfl
        · rw [e4 rfl]; rfl
      · obtain ⟨q1, q2⟩ := e3 rfl
        rw [q1, q2]; rfl
    · obtain ⟨q1, q2, q3⟩ := e2 rfl
      rw [q1, q2, q3]; rfl
  · obtain ⟨q1, q2, q3, q4⟩ := e1 rfl
    rw [q1, q2, q3, q4]; rfl
theorem woM_e (h : TX b t X T) {st n : Nat} (hs : st + n ≤ T) (hn : 1 ≤ n) : m_X10_wordOf t (nI st) (nI n) = some (nI (wd X st n)) := by
  have h60 := h.1
  have hd : ∀ {P : Prop} {d : Decidable P}, ¬ P → decide P = false := fun q => decide_eq_false q
  unfold m_X10_wordOf
  by_cases h2 : n = 2
  · subst h2
    have e1 : wd X st 2 = if decide (X st = 117 ∧ X (st + 1) = 112) = true then 1 else 0 := by
      unfold wd W0 W1 W2 W3 W4 W5 W6
      simp
    rw [if_pos (show nI 2 = (2 : Int32) from rfl), iw2 h hs, Option.bind_some, bz_if, e1]
    by_cases q : decide (X st = 117 ∧ X (st + 1) = 112) = true
    · rw [if_pos q, if_pos q]; rfl
    · rw [if_neg q, if_neg q]; rfl
  rw [if_neg (by rw [qeq_2 (by omega)]; exact h2), Option.bind_some]
  dsimp only [ex]
  by_cases h3 : n = 3
  · subst h3
    have e1 : wd X st 3 = if decide (X st = 97 ∧ X (st + 1) = 108 ∧ X (st + 2) = 108) = true then 6 else 0 := by
      unfold wd W0 W1 W2 W3 W4 W5 W6
      simp
    rw [if_pos (show nI 3 = (3 : Int32) from rfl), iw3 h hs, Option.bind_some, bz_if, e1]
    by_cases q : decide (X st = 97 ∧ X (st + 1) = 108 ∧ X (st + 2) = 108) = true
    · rw [if_pos q, if_pos q]; rfl
    · rw [if_neg q, if_neg q]; rfl
  rw [if_neg (by rw [qeq_3 (by omega)]; exact h3)]
  by_cases h4 : n = 4
  · subst h4
    rw [if_pos (show nI 4 = (4 : Int32) from rfl), iw4 h hs, iw4 h hs, iw4 h hs, iw4 h hs, iw4 h hs, w4_ex]
    · congr 2
      unfold wd W0 W1 W2 W3 W4 W5 W6
      simp
    · intro q
      have q := of_decide_eq_true q
      refine ⟨hd fun r => ?_, hd fun r => ?_, hd fun r => ?_, hd fun r => ?_⟩ <;> (have := q.1.symm.trans r.1; revert this; decide)
    · intro q
      have q := of_decide_eq_true q
      refine ⟨hd fun r => ?_, hd fun r => ?_, hd fun r => ?_⟩
      · have := q.1.symm.trans r.1; revert this; decide
      · have := q.2.2.1.symm.trans r.2.2.1; revert this; decide
      · have := q.1.symm.trans r.1; revert this; decide
    · intro q
      have q := of_decide_eq_true q
      refine ⟨hd fun r => ?_, hd fun r => ?_⟩ <;> (have := q.1.symm.trans r.1; revert this; decide)
    · intro q
      have q := of_decide_eq_true q
      exact hd fun r => by have := q.1.symm.trans r.1; revert this; decide
  · rw [if_neg (by rw [qeq_4 (by omega)]; exact h4)]
    have e1 : wd X st n = 0 := by
      unfold wd W0 W1 W2 W3 W4 W5 W6
      simp [h2, h3, h4]
    rw [e1]
    rfl
theorem wd_0 (X : Nat → Int32) (st : Nat) : wd X st 0 = 0 := by
  unfold wd W0 W1 W2 W3 W4 W5 W6
  simp
theorem wd_2 {X : Nat → Int32} {st n : Nat} (h : wd X st n ≠ 0) : 2 ≤ n := by
  rcases Nat.lt_or_ge n 2 with q | q
  · exfalso
    apply h
    unfold wd W0 W1 W2 W3 W4 W5 W6
    simp only [show ¬ n = 2 by omega, show ¬ n = 3 by omega, show ¬ n = 4 by omega, false_and, decide_false]
    rfl
  · exact q
/-- the figure behind the word -/
def dg (X : Nat → Int32) (i : Nat) : Nat := ((X i).toInt - 48).toNat
theorem dg_e {i : Nat} (h : isF (X i) = true) : dg X i ≤ 9 ∧ X i = nI (48 + dg X i) ∧ X i - (48 : Int32) = nI (dg X i) := by
  have h := of_decide_eq_true h
  have h1 : dg X i ≤ 9 := by unfold dg; omega
  have h2 : X i = nI (48 + dg X i) := by
    rw [fa_eq, nI_toInt (by omega)]
    unfold dg
    omega
  refine ⟨h1, h2, ?_⟩
  have h3 : nI (48 + dg X i) - (48 : Int32) = nI (48 + dg X i - 48) := pk_sub (b := 48) (by omega)
  rw [Nat.add_sub_cancel_left, ← h2] at h3
  exact h3
def fl (D : ND) (X : Nat → Int32) (st e : Nat) : Nat :=
  if wd X st (wl X st e) = 0 then 1 else if wd X st (wl X st e) = 6 ∨ wd X st (wl X st e) = 7 then (if st + wl X st e = e then 0 else 2)
  else if e - (st + wl X st e) = 1 ∧ isF (X (st + wl X st e)) = true then (if dg X (st + wl X st e) < (if wd X st (wl X st e) = 4 ∨ wd X st (wl X st e) = 5 then dN D else dL D) then 0 else 3) else 2
theorem fl_le (D : ND) (X : Nat → Int32) (st e : Nat) : fl D X st e ≤ 3 := by
  unfold fl
  (repeat' split) <;> omega
theorem stn_l {n : Nat} (hn : n ≤ 9) : stn D (lN n) = decide (n < dN D) := by
  unfold stn
  rw [lN_toInt (by omega)]
  exact decide_eq_decide.mpr (by omega)
theorem lnk_l {n : Nat} (hn : n ≤ 9) : lnk D (nI n) = decide (n < dL D) := by
  unfold lnk
  rw [nI_toInt (by omega)]
  exact decide_eq_decide.mpr (by omega)
theorem fo_end {p q : Nat} (f : Unit → Option Int32) : Option.bind (Option.bind (some (bz (decide (p < q)))) (fun (j_22 : Int32) => if j_22 = 0 then some (.inr (3 : Int32)) else some (.inr (0 : Int32)) : Int32 → Option (Unit ⊕ Int32))) (fun z_33 => ex z_33 f (fun r => some r)) = some (nI (if p < q then 0 else 3)) := by
  by_cases h : p < q
  · rw [decide_eq_true h, if_pos h]; rfl
  · rw [decide_eq_false h, if_neg h]; rfl
theorem fo_e (h : TX b t X T) (hC : repC b D) (hD : okD D) {st e : Nat} (hs : st ≤ e) (he : e ≤ T) : m_X4_faultOf b (nI st) (nI e) = some (nI (fl D X st e)) := by
  have h60 := h.1
  have hwl := wl_le X st e
  have hw7 := wd_le X st (wl X st e)
  unfold m_X4_faultOf fl
  rw [wle_e h hs he, Option.bind_some]
  dsimp only [lt]
  rw [nI_add, wo_e h (by omega), Option.bind_some]
  generalize hw : wd X st (wl X st e) = w at hw7 ⊢
  generalize wl X st e = n at hwl ⊢
  simp only [qeq_0 (i := w) (by omega), qeq_6 (i := w) (by omega), qeq_7 (i := w) (by omega), qeq_4 (i := w) (by omega), qeq_5 (i := w) (by omega)]
  by_cases w0 : w = 0
  · rw [if_pos w0, if_pos w0]; rfl
  rw [if_neg w0, if_neg w0]
  by_cases w67 : w = 6 ∨ w = 7
  · rw [if_pos w67]
    have hx : ∀ Z : Option (Unit ⊕ Int32), (if w = 6 then some (.inl ()) else if w = 7 then some (.inl ()) else Z : Option (Unit ⊕ Int32)) = some (.inl ()) := fun Z => by
      rcases w67 with q | q
      · rw [if_pos q]
      · rw [if_neg (by omega), if_pos q]
    rw [hx, Option.bind_some]
    show (if nI (st + n) = nI e then some (0 : Int32) else some 2) = _
    by_cases q : st + n = e
    · rw [if_pos (by rw [q]), if_pos q]; rfl
    · rw [if_neg (by rw [qeq (by omega) (by omega)]; exact q), if_neg q]; rfl
  rw [if_neg w67, if_neg (fun q => w67 (Or.inl q)), if_neg (fun q => w67 (Or.inr q)), pk_sub (show st + n ≤ e by omega)]
  by_cases h1 : e - (st + n) = 1
  · rw [if_pos (show nI (e - (st + n)) = (1 : Int32) by rw [h1]; rfl), ba_e h (by omega), Option.bind_some, if_e, Option.bind_some, bz_if]
    by_cases hf : isF (X (st + n)) = true
    · obtain ⟨d1, d2, d3⟩ := dg_e hf
      rw [if_pos hf, if_pos (show e - (st + n) = 1 ∧ isF (X (st + n)) = true from ⟨h1, hf⟩), Option.bind_some, d3, nI_l (by omega), hs_e hC hD, hl_e hC hD, stn_l d1, lnk_l d1]
      by_cases w4 : w = 4
      · rw [if_pos w4, if_pos (show w = 4 ∨ w = 5 from Or.inl w4), Option.bind_some, Option.bind_some]
        exact fo_end _
      · rw [if_neg w4]
        by_cases w5 : w = 5
        · rw [if_pos w5, if_pos (show w = 4 ∨ w = 5 from Or.inr w5), Option.bind_some, Option.bind_some]
          exact fo_end _
        · rw [if_neg w5, if_neg (show ¬ (w = 4 ∨ w = 5) by omega), Option.bind_some, Option.bind_some]
          exact fo_end _
    · rw [if_neg hf, if_neg (show ¬ (e - (st + n) = 1 ∧ isF (X (st + n)) = true) from fun q => hf q.2)]; rfl
  · rw [if_neg (show ¬ nI (e - (st + n)) = (1 : Int32) by rw [qeq_1 (by omega)]; exact h1), if_neg (show ¬ (e - (st + n) = 1 ∧ isF (X (st + n)) = true) from fun q => h1 q.1)]; rfl
def sV (D : ND) (k v : Nat) : ND := (D.1, dA D, dE D, dP D, dQ D, va_up (dV D) k v)
def sG (D : ND) (g : Nat) : ND := ((dN D, dL D, dS D, g), D.2)
def sS (D : ND) (s : Nat) : ND := ((dN D, dL D, s, dG D), D.2)
def acW (D : ND) (w d : Nat) : ND := if w = 1 then sV D d 1 else if w = 2 then sV D d 2 else if w = 3 then sV D d 0 else if w = 4 then sG D (dG D ^^^ 2 ^ d) else if w = 5 then sS D d else if w = 6 then sG D (2 ^ dN D - 1) else if w = 7 then sG D 0 else D
def ac (D : ND) (X : Nat → Int32) (st e : Nat) : ND := acW D (wd X st (wl X st e)) (dg X (e - 1))
theorem acW_N (D : ND) (w d : Nat) : dN (acW D w d) = dN D ∧ dL (acW D w d) = dL D ∧ dA (acW D w d) = dA D ∧ dE (acW D w d) = dE D := by
  unfold acW
  (repeat' split) <;> exact ⟨rfl, rfl, rfl, rfl⟩
/-- what the acts of orders leave as it was -/
def SB (b c : ST) : Prop := c.2.2.2 = b.2.2.2 ∧ c.2.2.1 6 = b.2.2.1 6 ∧ c.2.2.1 7 = b.2.2.1 7 ∧ c.1 7 = b.1 7 ∧ c.1 8 = b.1 8 ∧ c.1 9 = b.1 9
def SM (t c : ST) : Prop := c.2.2.2 = t.2.2.2 ∧ c.2.2.1 15 = t.2.2.1 15 ∧ c.2.2.1 0 = t.2.2.1 0 ∧ c.2.2.1 16 = t.2.2.1 16 ∧ c.1 9 = t.1 9 ∧ c.1 0 = t.1 0 ∧ c.1 10 = t.1 10
theorem SB.rf (b : ST) : SB b b := ⟨rfl, rfl, rfl, rfl, rfl, rfl⟩
theorem SM.rf (b : ST) : SM b b := ⟨rfl, rfl, rfl, rfl, rfl, rfl, rfl⟩
theorem SB.tr {a b c : ST} (h : SB a b) (g : SB b c) : SB a c := ⟨g.1.trans h.1, g.2.1.trans h.2.1, g.2.2.1.trans h.2.2.1, g.2.2.2.1.trans h.2.2.2.1, g.2.2.2.2.1.trans h.2.2.2.2.1, g.2.2.2.2.2.trans h.2.2.2.2.2⟩
theorem SM.tr {a b c : ST} (h : SM a b) (g : SM b c) : SM a c := ⟨g.1.trans h.1, g.2.1.trans h.2.1, g.2.2.1.trans h.2.2.1, g.2.2.2.1.trans h.2.2.2.1, g.2.2.2.2.1.trans h.2.2.2.2.1, g.2.2.2.2.2.1.trans h.2.2.2.2.2.1, g.2.2.2.2.2.2.trans h.2.2.2.2.2.2⟩
/-- what an order without fault has -/
theorem fl_0 {st e : Nat} (hs : st ≤ e) (h : fl D X st e = 0) : ∃ w d, wd X st (wl X st e) = w ∧ dg X (e - 1) = d ∧ 1 ≤ w ∧ w ≤ 7 ∧ 1 ≤ e ∧ st + wl X st e ≤ e ∧ ((6 ≤ w ∧ st + wl X st e = e) ∨ (w ≤ 5 ∧ e - (st + wl X st e) = 1 ∧ isF (X (st + wl X st e)) = true ∧ st + wl X st e = e - 1 ∧ d ≤ 9 ∧ (4 ≤ w → d < dN D) ∧ (w ≤ 3 → d < dL D))) := by
  have hw7 := wd_le X st (wl X st e)
  have hwl := wl_le X st e
  refine ⟨_, _, rfl, rfl, ?_⟩
  unfold fl at h
  by_cases w0 : wd X st (wl X st e) = 0
  · rw [if_pos w0] at h; cases h
  have hn2 := wd_2 w0
  rw [if_neg w0] at h
  refine ⟨by omega, hw7, by omega, by omega, ?_⟩
  by_cases w67 : wd X st (wl X st e) = 6 ∨ wd X st (wl X st e) = 7
  · rw [if_pos w67] at h
    left
    refine ⟨by omega, ?_⟩
    split at h
    · assumption
    · cases h
  · right
    rw [if_neg w67] at h
    by_cases q : e - (st + wl X st e) = 1 ∧ isF (X (st + wl X st e)) = true
    · rw [if_pos q] at h
      have he : st + wl X st e = e - 1 := by omega
      obtain ⟨d1, -, -⟩ := dg_e q.2
      rw [he] at d1 h
      refine ⟨by omega, q.1, q.2, he, d1, fun w4 => ?_, fun w3 => ?_⟩
      · rw [if_pos (show wd X st (wl X st e) = 4 ∨ wd X st (wl X st e) = 5 by omega)] at h
        split at h
        · assumption
        · cases h
      · rw [if_neg (show ¬ (wd X st (wl X st e) = 4 ∨ wd X st (wl X st e) = 5) by omega)] at h
        split at h
        · assumption
        · cases h
    · rw [if_neg q] at h; cases h
theorem okV (hD : okD D) {k v : Nat} (hv : v ≤ 2) : okD (sV D k v) := ⟨hD.1, hD.2.1, hD.2.2.1, hD.2.2.2.1, hD.2.2.2.2.1, fun j hj => by
  have h1 := hD.2.2.2.2.2 j hj
  refine ⟨h1.1, h1.2.1, h1.2.2.1, h1.2.2.2.1, h1.2.2.2.2.1, ?_⟩
  show va_up (dV D) k v j ≤ 2
  unfold va_up
  split
  · omega
  · exact h1.2.2.2.2.2⟩
theorem acW_ok (hD : okD D) {w d : Nat} (h : 6 ≤ w ∨ (w ≤ 5 ∧ (4 ≤ w → d < dN D))) : okD (acW D w d) := by
  have hp := Nat.two_pow_pos (dN D)
  unfold acW
  by_cases w1 : w = 1
  · rw [if_pos w1]; exact okV hD (by omega)
  rw [if_neg w1]
  by_cases w2 : w = 2
  · rw [if_pos w2]; exact okV hD (by omega)
  rw [if_neg w2]
  by_cases w3 : w = 3
  · rw [if_pos w3]; exact okV hD (by omega)
  rw [if_neg w3]
  by_cases w4 : w = 4
  · rw [if_pos w4]
    have hd : d < dN D := by rcases h with q | q; omega; exact q.2 (by omega)
    exact ⟨hD.1, hD.2.1, hD.2.2.1, hD.2.2.2.1, Nat.xor_lt_two_pow hD.2.2.2.2.1 (Nat.pow_lt_pow_right (by decide) hd), hD.2.2.2.2.2⟩
  rw [if_neg w4]
  by_cases w5 : w = 5
  · rw [if_pos w5]
    have hd : d < dN D := by rcases h with q | q; omega; exact q.2 (by omega)
    exact ⟨hD.1, hD.2.1, hD.2.2.1, hd, hD.2.2.2.2.1, hD.2.2.2.2.2⟩
  rw [if_neg w5]
  by_cases w6 : w = 6
  · rw [if_pos w6]; exact ⟨hD.1, hD.2.1, hD.2.2.1, hD.2.2.2.1, by show 2 ^ dN D - 1 < 2 ^ dN D; omega, hD.2.2.2.2.2⟩
  rw [if_neg w6]
  by_cases w7 : w = 7
  · rw [if_pos w7]; exact ⟨hD.1, hD.2.1, hD.2.2.1, hD.2.2.2.1, hp, hD.2.2.2.2.2⟩
  rw [if_neg w7]
  exact hD
theorem act_e (h : TX b t X T) (hC : repC b D) (hD : okD D) {st e : Nat} (hs : st ≤ e) (he : e ≤ T) (hf : fl D X st e = 0) : ∃ c, m_X4_act b (nI st) (nI e) = some c ∧ repC c (ac D X st e) ∧ SB b c := by
  have h60 := h.1
  have hL := hD.2.2.1
  have hN := hD.2.1
  obtain ⟨w, d, hw, hd, w1, w7, e1, hle, hcase⟩ := fl_0 hs hf
  unfold m_X4_act ac m_X2_goalBits m_X2_setGoals m_X2_setSource m_X2_setSeen
  rw [show nI e - (1 : Int32) = nI (e - 1) from pk_sub e1, ba_e h (show e - 1 < T by omega), Option.bind_some]
  dsimp only [lt]
  rw [wle_e h hs he, Option.bind_some, nI_add, wo_e h (by omega), Option.bind_some, hw, hd]
  have hv : ∀ v, v ≤ 2 → d < dL D → repC (wA b 4 d (nI v)) (sV D d v) := fun v _ _ => ⟨hC.1, hC.2.1, hC.2.2.1, hC.2.2.2.1, hC.2.2.2.2.1, hC.2.2.2.2.2.1, hC.2.2.2.2.2.2.1, hC.2.2.2.2.2.2.2.1, upI hC.2.2.2.2.2.2.2.2 rfl⟩
  rcases hcase with ⟨w6, hE⟩ | ⟨w5, hE1, hF, hE, d9, dN4, dL3⟩
  · rcases (show w = 6 ∨ w = 7 by omega) with rfl | rfl
    · refine ⟨wI b 3 (nI (2 ^ dN D - 1)), ?_, ⟨hC.1, hC.2.1, hC.2.2.1, rfl, hC.2.2.2.2⟩, ⟨rfl, rfl, rfl, rfl, rfl, rfl⟩⟩
      rw [if_neg (by decide), if_neg (by decide), if_neg (by decide), if_neg (by decide), if_neg (by decide), if_pos (by decide), as_e hC hD]
      rfl
    · refine ⟨wI b 3 (nI 0), ?_, ⟨hC.1, hC.2.1, hC.2.2.1, rfl, hC.2.2.2.2⟩, ⟨rfl, rfl, rfl, rfl, rfl, rfl⟩⟩
      rw [if_neg (by decide), if_neg (by decide), if_neg (by decide), if_neg (by decide), if_neg (by decide), if_neg (by decide), if_pos (by decide)]
      rfl
  · rw [hE] at hF
    obtain ⟨d1, d2, d3⟩ := dg_e hF
    rw [hd] at d3
    rw [d3]
    rcases (show w = 1 ∨ w = 2 ∨ w = 3 ∨ w = 4 ∨ w = 5 by omega) with rfl | rfl | rfl | rfl | rfl
    · have hdl := dL3 (by omega)
      refine ⟨wA b 4 d (nI 1), ?_, hv 1 (by omega) hdl, ⟨rfl, rfl, rfl, rfl, rfl, rfl⟩⟩
      rw [if_pos (by decide), hl_k hC hD hdl, Option.bind_some, if_neg (by decide), gd_in (by omega) (by omega), nI_clamp (by omega)]
      rfl
    · have hdl := dL3 (by omega)
      refine ⟨wA b 4 d (nI 2), ?_, hv 2 (by omega) hdl, ⟨rfl, rfl, rfl, rfl, rfl, rfl⟩⟩
      rw [if_neg (by decide), if_pos (by decide), hl_k hC hD hdl, Option.bind_some, if_neg (by decide), gd_in (by omega) (by omega), nI_clamp (by omega)]
      rfl
    · have hdl := dL3 (by omega)
      refine ⟨wA b 4 d (nI 0), ?_, hv 0 (by omega) hdl, ⟨rfl, rfl, rfl, rfl, rfl, rfl⟩⟩
      rw [if_neg (by decide), if_neg (by decide), if_pos (by decide), hl_k hC hD hdl, Option.bind_some, if_neg (by decide), gd_in (by omega) (by omega), nI_clamp (by omega)]
      rfl
    · have hdn := dN4 (by omega)
      refine ⟨wI b 3 (nI (dG D ^^^ 2 ^ d)), ?_, ⟨hC.1, hC.2.1, hC.2.2.1, rfl, hC.2.2.2.2⟩, ⟨rfl, rfl, rfl, rfl, rfl, rfl⟩⟩
      rw [if_neg (by decide), if_neg (by decide), if_neg (by decide), if_pos (by decide), Option.bind_some, hC.2.2.2.1, shl_1 d (by omega), fb_xorI]
      rfl
    · have hdn := dN4 (by omega)
      refine ⟨wI b 2 (nI d), ?_, ⟨hC.1, hC.2.1, rfl, hC.2.2.2.1, hC.2.2.2.2⟩, ⟨rfl, rfl, rfl, rfl, rfl, rfl⟩⟩
      rw [if_neg (by decide), if_neg (by decide), if_neg (by decide), if_neg (by decide), if_pos (by decide)]
      rfl
end OB
