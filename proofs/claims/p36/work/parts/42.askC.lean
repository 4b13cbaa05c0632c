/-! the class's asking -/
def K3 (b : ST) (S P T : Nat) : ST := wI (wI (wI b 4 (nI S)) 5 (nI P)) 6 (nI T)
theorem lt_f {α β : Type} (x : α) (f : α → β) : lt x f = f x := rfl
theorem un_f {α β γ : Type} (x : α) (y : β) (f : α → β → γ) : un (x, y) f = f x y := rfl
theorem ST_ext1 {s t : ST} (h1 : ∀ k, s.1 k = t.1 k) (h2 : s.2 = t.2) : s = t := Prod.ext (funext h1) h2
theorem K3_4 (b : ST) (S P T : Nat) (x : Nat) : wI (K3 b S P T) 4 (nI x) = K3 b x P T := ST_ext1 (fun k => by
  show (if k = 4 then nI x else if k = 6 then nI T else if k = 5 then nI P else if k = 4 then nI S else b.1 k) = (if k = 6 then nI T else if k = 5 then nI P else if k = 4 then nI x else b.1 k)
  by_cases q4 : k = 4
  · subst q4; rfl
  · rw [if_neg q4, if_neg q4, if_neg q4]) rfl
theorem K3_5 (b : ST) (S P T : Nat) (x : Nat) : wI (K3 b S P T) 5 (nI x) = K3 b S x T := ST_ext1 (fun k => by
  show (if k = 5 then nI x else if k = 6 then nI T else if k = 5 then nI P else if k = 4 then nI S else b.1 k) = (if k = 6 then nI T else if k = 5 then nI x else if k = 4 then nI S else b.1 k)
  by_cases q4 : k = 5
  · subst q4; rfl
  · rw [if_neg q4, if_neg q4, if_neg q4]) rfl
theorem K3_6 (b : ST) (S P T : Nat) (x : Nat) : wI (K3 b S P T) 6 (nI x) = K3 b S P x := ST_ext1 (fun k => by
  show (if k = 6 then nI x else if k = 6 then nI T else if k = 5 then nI P else if k = 4 then nI S else b.1 k) = (if k = 6 then nI x else if k = 5 then nI P else if k = 4 then nI S else b.1 k)
  by_cases q4 : k = 6
  · subst q4; rfl
  · rw [if_neg q4, if_neg q4, if_neg q4]) rfl
theorem K3_m (b : ST) {S P T d : Nat} (hP : P < 2 ^ 31) (hd : d + 1 < 2 ^ 31) : (if (K3 b S P T).1 5 < nI (d + 1) then nI (d + 1) else (K3 b S P T).1 5) = nI (max P (d + 1)) := by
  show (if nI P < nI (d + 1) then nI (d + 1) else nI P) = _
  simp only [qlt hP hd]
  split
  · rw [Nat.max_eq_right (by omega)]
  · rw [Nat.max_eq_left (by omega)]
def upP (n : Nat) (b : ST) (w : Nat → ST) (d e : Nat) (i r : Int32) : Option (ST × (Nat → ST)) := if r = 0 then some (b, w) else gd (¬ d = e) (Option.bind (m_X8_takeJoined (w e) (w d) i) (fun t_53 => lt (va_up w e t_53) (fun w_54 => Option.bind (m_X0_ask n b w_54 (nI e)) (fun q => un q (fun b_56 w_57 => gd (¬ e = d) (Option.bind (m_X8_addUp (w_57 d) (w_57 e) i) (fun t_61 => lt (va_up w_57 d t_61) (fun w_62 => some (b_56, w_62)))))))))
def dnP (n : Nat) (b : ST) (w : Nat → ST) (d e : Nat) (i r : Int32) : Option (ST × (Nat → ST)) := if r = 0 then some (b, w) else gd (¬ d = e) (Option.bind (m_X8_takeCut (w e) (w d) i) (fun t_53 => lt (va_up w e t_53) (fun w_54 => Option.bind (m_X0_ask n b w_54 (nI e)) (fun q => un q (fun b_56 w_57 => gd (¬ e = d) (Option.bind (m_X8_addDown (w_57 d) (w_57 e) i) (fun t_61 => lt (va_up w_57 d t_61) (fun w_62 => some (b_56, w_62)))))))))
theorem vu_s (w : Nat → ST) (d : Nat) (t : ST) : va_up w d t d = t := if_pos rfl
theorem vu_n (w : Nat → ST) {d j : Nat} (t : ST) (h : j ≠ d) : va_up w d t j = w j := if_neg h
def askC (n : Nat) : Prop := ∀ {V : AN} {N L d S P T : Nat} {b : ST} {w : Nat → ST}, okA N L V → repT (w d) V → (w d).2.1 0 = lN 0 → (w d).2.1 1 = lN 1 → d + pc (aP V) ≤ 10 → pc (aP V) < n → P ≤ 30 → d + n ≤ 12 → ∃ w', m_X0_ask n (K3 b S P T) w (nI d) = some (K3 b (S + (ak n V d).1) (max P (ak n V d).2.1) (T + (ak n V d).2.2), w') ∧ (w' d).2.1 0 = lN (rA (rZ V) (pY V)) ∧ (w' d).2.1 1 = lN (rB (rZ V) (pY V)) ∧ ∀ j, j < d → w' j = w j
theorem repT_w {t : ST} {V : AN} {x y : Int64} (h : repT t V) : repT (wL (wL t 0 x) 1 y) V := h
theorem up_s {n : Nat} (hI : askC n) {V : AN} {N L d S P T R1 : Nat} {b : ST} {w : Nat → ST} {i : Nat} (h : okA N L V) (hi : tP V i = true) (hne : aA V i ≠ aE V i) (hR : repT (w d) V) (t0 : (w d).2.1 0 = lN (rA R1 (pY V))) (t1 : (w d).2.1 1 = lN (rB R1 (pY V))) (hd : d + pc (aP V) ≤ 10) (hn : pc (aP V) < n + 1) (hP : P ≤ 30) (hdn : d + 1 + n ≤ 12) (hle : R1 + aX V i * rZ (cA V i) ≤ pY V) : ∃ w', upP n (K3 b S P T) w d (d + 1) (nI i) (if aX V i = 0 then 0 else 1) = some (K3 b (S + (if aX V i = 0 then (0, 0, 0) else ak n (cA V i) (d + 1)).1) (max P (if aX V i = 0 then (0, 0, 0) else ak n (cA V i) (d + 1)).2.1) (T + (if aX V i = 0 then (0, 0, 0) else ak n (cA V i) (d + 1)).2.2), w') ∧ repT (w' d) V ∧ (w' d).2.1 0 = lN (rA (R1 + aX V i * rZ (cA V i)) (pY V)) ∧ (w' d).2.1 1 = lN (rB (R1 + aX V i * rZ (cA V i)) (pY V)) ∧ ∀ j, j < d → w' j = w j := by
  unfold upP
  by_cases hx : aX V i = 0
  · rw [if_pos hx, if_pos hx, if_pos rfl, hx, Nat.zero_mul]
    refine ⟨w, ?_, hR, t0, t1, fun _ _ => rfl⟩
    rw [Nat.max_eq_left (Nat.zero_le _)]
    rfl
  · rw [if_neg hx, if_neg hx, if_neg (by decide), gd_t (by omega)]
    obtain ⟨t2, h2, hR2, z0, z1⟩ := tj_e (t := w (d + 1)) h hR hi hne
    obtain ⟨c1, c2, c3⟩ := cA_ok h hi
    obtain ⟨d1, d2, -⟩ := dA1_ok h hi
    obtain ⟨w3, a1, a2, a3, a4⟩ := hI (b := b) (S := S) (P := P) (T := T) (w := va_up w (d + 1) t2) (d := d + 1) c1 (by rw [vu_s]; exact hR2) (by rw [vu_s]; exact z0) (by rw [vu_s]; exact z1) (by omega) (by omega) hP (by omega)
    have hwd : w3 d = w d := by rw [a4 d (by omega), vu_n _ _ (by omega)]
    rw [h2, Option.bind_some, lt_f, a1, Option.bind_some, un_f, gd_t (by omega), hwd, au_e hR h hi t0 t1 a2 a3 (pY_pos c1) (by rw [d2, c2]) hle, Option.bind_some, lt_f]
    refine ⟨_, rfl, ?_, ?_, ?_, fun j hj => ?_⟩
    · rw [vu_s]; exact repT_w hR
    · rw [vu_s]; rfl
    · rw [vu_s]; rfl
    · rw [vu_n _ _ (by omega), a4 j (by omega), vu_n _ _ (by omega)]
theorem dn_s {n : Nat} (hI : askC n) {V : AN} {N L d S P T R1 : Nat} {b : ST} {w : Nat → ST} {i : Nat} (h : okA N L V) (hi : tP V i = true) (hR : repT (w d) V) (t0 : (w d).2.1 0 = lN (rA R1 (pY V))) (t1 : (w d).2.1 1 = lN (rB R1 (pY V))) (hd : d + pc (aP V) ≤ 10) (hn : pc (aP V) < n + 1) (hP : P ≤ 30) (hdn : d + 1 + n ≤ 12) (hle : R1 + (aY V i - aX V i) * rZ (dA1 V i) ≤ pY V) : ∃ w', dnP n (K3 b S P T) w d (d + 1) (nI i) (if aX V i = aY V i then 0 else 1) = some (K3 b (S + (if aX V i = aY V i then (0, 0, 0) else ak n (dA1 V i) (d + 1)).1) (max P (if aX V i = aY V i then (0, 0, 0) else ak n (dA1 V i) (d + 1)).2.1) (T + (if aX V i = aY V i then (0, 0, 0) else ak n (dA1 V i) (d + 1)).2.2), w') ∧ (w' d).2.1 0 = lN (rA (R1 + (aY V i - aX V i) * rZ (dA1 V i)) (pY V)) ∧ (w' d).2.1 1 = lN (rB (R1 + (aY V i - aX V i) * rZ (dA1 V i)) (pY V)) ∧ ∀ j, j < d → w' j = w j := by
  unfold dnP
  obtain ⟨-, h10⟩ := okA_10 h hi
  by_cases hx : aX V i = aY V i
  · rw [if_pos hx, if_pos hx, if_pos rfl, show aY V i - aX V i = 0 by omega, Nat.zero_mul]
    refine ⟨w, ?_, t0, t1, fun _ _ => rfl⟩
    rw [Nat.max_eq_left (Nat.zero_le _)]
    rfl
  · rw [if_neg hx, if_neg hx, if_neg (by decide), gd_t (by omega)]
    obtain ⟨t2, h2, e0, e1, hc, z0, z1⟩ := tc_e (t := w (d + 1)) hR h10
    have hR2 := tc_R h hR e0 e1 hc
    obtain ⟨d1, d2, d3⟩ := dA1_ok h hi
    obtain ⟨w3, a1, a2, a3, a4⟩ := hI (b := b) (S := S) (P := P) (T := T) (w := va_up w (d + 1) t2) (d := d + 1) d1 (by rw [vu_s]; exact hR2) (by rw [vu_s]; exact z0) (by rw [vu_s]; exact z1) (by omega) (by omega) hP (by omega)
    have hwd : w3 d = w d := by rw [a4 d (by omega), vu_n _ _ (by omega)]
    rw [h2, Option.bind_some, lt_f, a1, Option.bind_some, un_f, gd_t (by omega), hwd, ad_e hR h hi t0 t1 a2 a3 (pY_pos d1) d2 hle, Option.bind_some, lt_f]
    refine ⟨_, rfl, ?_, ?_, fun j hj => ?_⟩
    · rw [vu_s]; rfl
    · rw [vu_s]; rfl
    · rw [vu_n _ _ (by omega), a4 j (by omega), vu_n _ _ (by omega)]
theorem ak_d : ∀ (n : Nat) (V : AN) (d : Nat), (ak n V d).2.1 ≤ d + n
  | 0, V, d => Nat.zero_le _
  | n + 1, V, d => by
    rw [ak]
    generalize tdy 10 V = Q
    have h1 : (if aX Q.2 (tz (aP Q.2)) = 0 then (0, 0, 0) else ak n (cA Q.2 (tz (aP Q.2))) (d + 1)).2.1 ≤ d + 1 + n := by
      split
      · exact Nat.zero_le _
      · exact ak_d n _ _
    have h2 : (if aX Q.2 (tz (aP Q.2)) = aY Q.2 (tz (aP Q.2)) then (0, 0, 0) else ak n (dA1 Q.2 (tz (aP Q.2))) (d + 1)).2.1 ≤ d + 1 + n := by
      split
      · exact Nat.zero_le _
      · exact ak_d n _ _
    generalize (if aX Q.2 (tz (aP Q.2)) = 0 then (0, 0, 0) else ak n (cA Q.2 (tz (aP Q.2))) (d + 1)) = X1 at h1 ⊢
    generalize (if aX Q.2 (tz (aP Q.2)) = aY Q.2 (tz (aP Q.2)) then (0, 0, 0) else ak n (dA1 Q.2 (tz (aP Q.2))) (d + 1)) = X2 at h2 ⊢
    by_cases hs : stl Q.2 = true
    · rw [if_pos hs]
      have h3 : d + 1 ≤ d + (n + 1) := by omega
      exact h3
    · rw [if_neg hs]
      have h3 : max (d + 1) (max X1.2.1 X2.2.1) ≤ d + (n + 1) := by omega
      exact h3
