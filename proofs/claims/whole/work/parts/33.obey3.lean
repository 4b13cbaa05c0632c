/-! to obey -/
section OY
variable {b t : ST} {D : ND} {X : Nat → Int32} {T : Nat}
theorem isFd (x : Int32) : decide ((48 : Int64).toInt ≤ x.toInt64.toInt ∧ x.toInt64.toInt ≤ (57 : Int64).toInt) = isF x := by
  unfold isF
  rw [i64_48, i64_57, Int32.toInt_toInt64]
theorem do_e (h : TX b t X T) (hM : repM t D) (hD : okD D) {st e : Nat} (hs : st ≤ e) (he : e ≤ T) : (fl D X st e ≠ 0 → m_X10_does t (nI st) (nI e) = some (nI (fl D X st e), t)) ∧ (fl D X st e = 0 → ∃ c, m_X10_does t (nI st) (nI e) = some ((0 : Int32), c) ∧ repM c (ac D X st e) ∧ SM t c) := by
  have h60 := h.1
  have hL := hD.2.2.1
  have hN := hD.2.1
  have hwl := wl_le X st e
  have hw7 := wd_le X st (wl X st e)
  have hword : Option.bind (if nI (wl X st e) = 0 then some (0 : Int32) else Option.bind (m_X10_wordOf t (nI st) (nI (wl X st e))) (fun (r_140 : Int32) => some r_140)) = Option.bind (some (nI (wd X st (wl X st e)))) (β := Int32 × ST) := by
    by_cases h0 : wl X st e = 0
    · rw [h0, if_pos (show nI 0 = 0 from rfl), wd_0]; rfl
    · rw [if_neg (by rw [qeq_0 (by omega)]; exact h0), woM_e h (by omega) (by omega)]; rfl
  have hfl0 := fl_0 (D := D) (X := X) hs
  have hx6 : nI e - nI st - nI (wl X st e) = nI (e - (st + wl X st e)) := by rw [pk_sub hs, pk_sub hwl, Nat.sub_sub]
  unfold m_X10_does
  rw [wlM_e h hs he, Option.bind_some, hword, Option.bind_some]
  dsimp only [lt]
  rw [hx6, nI_add]
  have hfd : fl D X st e = if wd X st (wl X st e) = 0 then 1 else if wd X st (wl X st e) = 6 ∨ wd X st (wl X st e) = 7 then (if st + wl X st e = e then 0 else 2) else if e - (st + wl X st e) = 1 ∧ isF (X (st + wl X st e)) = true then (if dg X (st + wl X st e) < (if wd X st (wl X st e) = 4 ∨ wd X st (wl X st e) = 5 then dN D else dL D) then 0 else 3) else 2 := rfl
  have hac : ac D X st e = acW D (wd X st (wl X st e)) (dg X (e - 1)) := rfl
  rw [hac]
  rw [hfd] at hfl0 ⊢
  clear hfd hac hx6 hword
  have hfl1 := hfl0
  generalize hw : wd X st (wl X st e) = w at hw7 ⊢
  generalize hn : wl X st e = n at hwl ⊢
  clear hfl0 hfl1
  by_cases w0 : w = 0
  · rw [if_pos w0]
    refine ⟨fun _ => ?_, fun q => by cases q⟩
    rw [w0, if_pos (show nI 0 = 0 from rfl)]
    rfl
  rw [if_neg w0, if_neg (show ¬ nI w = 0 by rw [qeq_0 (by omega)]; exact w0)]
  by_cases w67 : w = 6 ∨ w = 7
  · rw [if_pos w67]
    by_cases hE : st + n = e
    · rw [if_pos hE]
      refine ⟨fun q => absurd rfl q, fun _ => ?_⟩
      have hz : e - (st + n) = 0 := by omega
      rw [hz]
      rcases w67 with rfl | rfl
      · refine ⟨wI (wI t 3 (nI (2 ^ dN D - 1))) 2 (nI (dS D)), ?_, ⟨hM.1, hM.2.1, rfl, rfl, hM.2.2.2.2⟩, ⟨rfl, rfl, rfl, rfl, rfl, rfl, rfl⟩⟩
        rw [if_neg (show ¬ nI 6 ≤ (5 : Int32) by decide), if_pos (show nI 0 = 0 from rfl), if_neg (show ¬ nI 6 ≤ (5 : Int32) by decide), Option.bind_some, if_pos (show (4 : Int32) ≤ nI 6 by decide), if_pos (show (6 : Int32) ≤ nI 6 by decide), Option.bind_some]
        dsimp only [ex]
        rw [if_pos (show (4 : Int32) ≤ nI 6 by decide), Option.bind_some, if_neg (show ¬ nI 6 = (4 : Int32) by decide), if_pos (show nI 6 = (6 : Int32) by decide), hM.1, shl_m (dN D) (by omega), Option.bind_some, if_neg (show ¬ nI 6 = (5 : Int32) by decide), show (wI t 3 (nI (2 ^ dN D - 1))).1 2 = nI (dS D) from hM.2.2.1]
      · refine ⟨wI (wI t 3 (nI 0)) 2 (nI (dS D)), ?_, ⟨hM.1, hM.2.1, rfl, rfl, hM.2.2.2.2⟩, ⟨rfl, rfl, rfl, rfl, rfl, rfl, rfl⟩⟩
        rw [if_neg (show ¬ nI 7 ≤ (5 : Int32) by decide), if_pos (show nI 0 = 0 from rfl), if_neg (show ¬ nI 7 ≤ (5 : Int32) by decide), Option.bind_some, if_pos (show (4 : Int32) ≤ nI 7 by decide), if_pos (show (6 : Int32) ≤ nI 7 by decide), Option.bind_some]
        dsimp only [ex]
        rw [if_pos (show (4 : Int32) ≤ nI 7 by decide), Option.bind_some, if_neg (show ¬ nI 7 = (4 : Int32) by decide), if_neg (show ¬ nI 7 = (6 : Int32) by decide), if_pos (show nI 7 = (7 : Int32) by decide), Option.bind_some, if_neg (show ¬ nI 7 = (5 : Int32) by decide), show (wI t 3 0).1 2 = nI (dS D) from hM.2.2.1]
        rfl
    · rw [if_neg hE]
      refine ⟨fun _ => ?_, fun q => by cases q⟩
      rw [if_neg (show ¬ nI w ≤ (5 : Int32) by rw [qge_5 (by omega)]; omega), if_neg (show ¬ nI (e - (st + n)) = 0 by rw [qeq_0 (by omega)]; omega)]
      rfl
  rw [if_neg w67, if_pos (show nI w ≤ (5 : Int32) by rw [qge_5 (by omega)]; omega)]
  by_cases h1 : e - (st + n) = 1
  · have hst : st + n = e - 1 := by omega
    have h1 : e - (e - 1) = 1 := by omega
    rw [hst, if_pos (show nI (e - (e - 1)) = (1 : Int32) by rw [h1]; rfl), gd_in (by omega) (by omega), nI_clamp (by omega), h.2.2.2.2, in_e, isFd, Option.bind_some, bz_if]
    by_cases hf : isF (X (e - 1)) = true
    · obtain ⟨d1, d2, d3⟩ := dg_e hf
      generalize hdg : dg X (e - 1) = d at d1 d2 d3 ⊢
      rw [if_pos hf, if_pos (show e - (e - 1) = 1 ∧ isF (X (e - 1)) = true from ⟨h1, hf⟩), if_pos (show nI w ≤ (5 : Int32) by rw [qge_5 (by omega)]; omega), gd_i2 (by omega) (by omega), d3, Option.bind_some]
      by_cases w45 : w = 4 ∨ w = 5
      · rw [if_pos w45, if_pos (show (4 : Int32) ≤ nI w by rw [qle_4 (by omega)]; omega), if_neg (show ¬ (6 : Int32) ≤ nI w by rw [qle_6 (by omega)]; omega), nI_l (by omega), isStation_e hM hD, stn_l d1, Option.bind_some, bz_if]
        by_cases hd : d < dN D
        · rw [if_pos hd, if_pos (decide_eq_true hd), Option.bind_some]
          refine ⟨fun q => absurd rfl q, fun _ => ?_⟩
          dsimp only [ex]
          rw [if_pos (show (4 : Int32) ≤ nI w by rw [qle_4 (by omega)]; omega), Option.bind_some]
          rcases w45 with rfl | rfl
          · refine ⟨wI (wI t 3 (nI (dG D ^^^ 2 ^ d))) 2 (nI (dS D)), ?_, ⟨hM.1, hM.2.1, rfl, rfl, hM.2.2.2.2⟩, ⟨rfl, rfl, rfl, rfl, rfl, rfl, rfl⟩⟩
            rw [if_pos (show nI 4 = (4 : Int32) from rfl), Option.bind_some, if_neg (show ¬ nI 4 = (5 : Int32) by decide), hM.2.2.2.1, shl_1 d (by omega), fb_xorI, show (wI t 3 (nI (dG D ^^^ 2 ^ d))).1 2 = nI (dS D) from hM.2.2.1]
          · refine ⟨wI (wI t 3 (nI (dG D))) 2 (nI d), ?_, ⟨hM.1, hM.2.1, rfl, rfl, hM.2.2.2.2⟩, ⟨rfl, rfl, rfl, rfl, rfl, rfl, rfl⟩⟩
            rw [if_neg (show ¬ nI 5 = (4 : Int32) by decide), if_neg (show ¬ nI 5 = (6 : Int32) by decide), if_neg (show ¬ nI 5 = (7 : Int32) by decide), Option.bind_some, if_pos (show nI 5 = (5 : Int32) from rfl), hM.2.2.2.1]
        · rw [if_neg hd, if_neg (show ¬ decide (d < dN D) = true by rw [decide_eq_false hd]; decide), Option.bind_some]
          exact ⟨fun _ => rfl, fun q => by cases q⟩
      · rw [if_neg w45, if_neg (show ¬ (4 : Int32) ≤ nI w by rw [qle_4 (by omega)]; omega), isLink_e hM hD, lnk_l d1, Option.bind_some, bz_if]
        by_cases hd : d < dL D
        · rw [if_pos hd, if_pos (decide_eq_true hd)]
          refine ⟨fun q => absurd rfl q, fun _ => ?_⟩
          have hst3 : ∀ v, v ≤ 2 → wI (wI (wA t 5 d (nI v)) 3 (nI (dG D))) 2 (nI (dS D)) = wA t 5 d (nI v) := fun v _ => by
            have a1 : wI (wA t 5 d (nI v)) 3 (nI (dG D)) = wA t 5 d (nI v) := by
              rw [← hM.2.2.2.1]; exact wI_self (wA t 5 d (nI v)) 3
            rw [a1, ← hM.2.2.1]
            exact wI_self (wA t 5 d (nI v)) 2
          have hrep : ∀ v, v ≤ 2 → repM (wA t 5 d (nI v)) (sV D d v) := fun v _ => ⟨hM.1, hM.2.1, hM.2.2.1, hM.2.2.2.1, hM.2.2.2.2.1, hM.2.2.2.2.2.1, hM.2.2.2.2.2.2.1, hM.2.2.2.2.2.2.2.1, upI hM.2.2.2.2.2.2.2.2 rfl⟩
          rw [if_neg (show ¬ (4 : Int32) ≤ nI w by rw [qle_4 (by omega)]; omega), gd_t (by decide), gd_in (by omega) (by omega), nI_clamp (by omega)]
          rcases (show w = 1 ∨ w = 2 ∨ w = 3 by omega) with rfl | rfl | rfl
          · refine ⟨wA t 5 d (nI 1), ?_, hrep 1 (by omega), ⟨rfl, rfl, rfl, rfl, rfl, rfl, rfl⟩⟩
            rw [show nI 1 - nI 1 / (3 : Int32) * (3 : Int32) = nI 1 from by decide, Option.bind_some, if_neg (show ¬ nI 1 = (4 : Int32) by decide), if_neg (show ¬ nI 1 = (6 : Int32) by decide), if_neg (show ¬ nI 1 = (7 : Int32) by decide), Option.bind_some, if_neg (show ¬ nI 1 = (5 : Int32) by decide), show (wA t 5 d (nI 1)).1 3 = nI (dG D) from hM.2.2.2.1, show (wI (wA t 5 d (nI 1)) 3 (nI (dG D))).1 2 = nI (dS D) from hM.2.2.1, hst3 1 (by omega)]
          · refine ⟨wA t 5 d (nI 2), ?_, hrep 2 (by omega), ⟨rfl, rfl, rfl, rfl, rfl, rfl, rfl⟩⟩
            rw [show nI 2 - nI 2 / (3 : Int32) * (3 : Int32) = nI 2 from by decide, Option.bind_some, if_neg (show ¬ nI 2 = (4 : Int32) by decide), if_neg (show ¬ nI 2 = (6 : Int32) by decide), if_neg (show ¬ nI 2 = (7 : Int32) by decide), Option.bind_some, if_neg (show ¬ nI 2 = (5 : Int32) by decide), show (wA t 5 d (nI 2)).1 3 = nI (dG D) from hM.2.2.2.1, show (wI (wA t 5 d (nI 2)) 3 (nI (dG D))).1 2 = nI (dS D) from hM.2.2.1, hst3 2 (by omega)]
          · refine ⟨wA t 5 d (nI 0), ?_, hrep 0 (by omega), ⟨rfl, rfl, rfl, rfl, rfl, rfl, rfl⟩⟩
            rw [show nI 3 - nI 3 / (3 : Int32) * (3 : Int32) = nI 0 from by decide, Option.bind_some, if_neg (show ¬ nI 3 = (4 : Int32) by decide), if_neg (show ¬ nI 3 = (6 : Int32) by decide), if_neg (show ¬ nI 3 = (7 : Int32) by decide), Option.bind_some, if_neg (show ¬ nI 3 = (5 : Int32) by decide), show (wA t 5 d (nI 0)).1 3 = nI (dG D) from hM.2.2.2.1, show (wI (wA t 5 d (nI 0)) 3 (nI (dG D))).1 2 = nI (dS D) from hM.2.2.1, hst3 0 (by omega)]
        · rw [if_neg hd, if_neg (show ¬ decide (d < dL D) = true by rw [decide_eq_false hd]; decide)]
          exact ⟨fun _ => rfl, fun q => by cases q⟩
    · rw [if_neg hf, if_neg (show ¬ (e - (e - 1) = 1 ∧ isF (X (e - 1)) = true) from fun q => hf q.2)]
      exact ⟨fun _ => rfl, fun q => by cases q⟩
  · rw [if_neg (show ¬ nI (e - (st + n)) = (1 : Int32) by rw [qeq_1 (by omega)]; exact h1), if_neg (show ¬ (e - (st + n) = 1 ∧ isF (X (st + n)) = true) from fun q => h1 q.1)]
    exact ⟨fun _ => rfl, fun q => by cases q⟩
/-! all orders -/
def lkf (D : ND) (X : Nat → Int32) (T : Nat) : Nat → Nat → Nat → Nat × Nat
  | 0, _, n => (n, 0)
  | f + 1, st, n => if T = 0 ∨ T < st then (n, 0) else if fl D X st (en X T st) = 0 then lkf D X T f (en X T st + 1) (n + 1) else (n, fl D X st (en X T st))
def acf (X : Nat → Int32) (T : Nat) : Nat → Nat → ND → ND
  | 0, _, D => D
  | f + 1, st, D => if T = 0 ∨ T < st then D else acf X T f (en X T st + 1) (ac D X st (en X T st))
theorem fl_N {D2 : ND} (h1 : dN D2 = dN D) (h2 : dL D2 = dL D) (st e : Nat) : fl D2 X st e = fl D X st e := by
  unfold fl
  rw [h1, h2]
theorem lkf_N {D2 : ND} (h1 : dN D2 = dN D) (h2 : dL D2 = dL D) : ∀ f st n, lkf D2 X T f st n = lkf D X T f st n
  | 0, _, _ => rfl
  | f + 1, st, n => by
    unfold lkf
    rw [fl_N h1 h2, lkf_N h1 h2]
theorem lkf_b : ∀ f st n, n ≤ (lkf D X T f st n).1 ∧ (lkf D X T f st n).1 ≤ n + f
  | 0, _, n => ⟨Nat.le_refl n, Nat.le_refl n⟩
  | f + 1, st, n => by
    have ih := lkf_b f (en X T st + 1) (n + 1)
    unfold lkf
    (repeat' split) <;> (constructor <;> (try simp only []) <;> omega)
theorem TX_8 {v : Int32} (h : TX b t X T) : TX (wI b 8 v) t X T := h
theorem n60 {n : Nat} (h : n < 60) : ¬ (60 : Int32) ≤ nI n := by
  show ¬ nI 60 ≤ nI n
  rw [qle (by omega) (by omega)]
  omega
theorem lt_l (h : TX b t X T) (hC : repC b D) (hD : okD D) : ∀ f F st n, 2 * n ≤ st → st ≤ T + 1 → T + 1 ≤ st + f → f < F → vLoop m_X4_lookThrough_L9 F (nI n, nI st, wI b 8 0) = some (if (lkf D X T f st n).2 = 0 then .inl (nI (lkf D X T f st n).1, wI b 8 0) else .inr (nI (lkf D X T f st n).1, wI b 8 (nI (lkf D X T f st n).2)))
  | f, 0, st, n, _, _, _, hF => by omega
  | 0, F + 1, st, n, hn2, hst, hf, _ => by
    have h60 := h.1
    refine vl_stop ?_
    unfold m_X4_lookThrough_L9
    simp only [un]
    rw [if_neg (n60 (n := n) (by omega)), show (wI b 8 0).1 7 = nI T from h.2.1]
    by_cases hT : T = 0
    · rw [if_pos (show nI T ≤ 0 by rw [qge_0 (by omega)]; omega)]; rfl
    · rw [if_neg (show ¬ nI T ≤ 0 by rw [qge_0 (by omega)]; omega), if_pos (show nI T < nI st by rw [qlt (by omega) (by omega)]; omega)]; rfl
  | f + 1, F + 1, st, n, hn2, hst, hf, hF => by
    have h60 := h.1
    by_cases hT : T = 0 ∨ T < st
    · have hk : lkf D X T (f + 1) st n = (n, 0) := by unfold lkf; rw [if_pos hT]
      rw [hk, if_pos rfl]
      refine vl_stop ?_
      unfold m_X4_lookThrough_L9
      simp only [un]
      rw [if_neg (n60 (n := n) (by omega)), show (wI b 8 0).1 7 = nI T from h.2.1]
      by_cases hT0 : T = 0
      · rw [if_pos (show nI T ≤ 0 by rw [qge_0 (by omega)]; omega)]
      · rw [if_neg (show ¬ nI T ≤ 0 by rw [qge_0 (by omega)]; omega), if_pos (show nI T < nI st by rw [qlt (by omega) (by omega)]; omega)]
    · have hle := en_le (X := X) (T := T) (st := st) (by omega)
      have hge := en_ge X T st
      have hfl := fl_le D X st (en X T st)
      have hC8 : repC (wI b 8 0) D := hC
      have hB : ∀ {z : (Int32 × Int32 × ST) ⊕ ((Int32 × ST) ⊕ (Int32 × ST))}, (if fl D X st (en X T st) = 0 then some (Sum.inl (nI (n + 1), nI (en X T st + 1), wI b 8 (nI (fl D X st (en X T st))))) else some (Sum.inr (Sum.inr (nI n, wI b 8 (nI (fl D X st (en X T st)))))) : Option ((Int32 × Int32 × ST) ⊕ ((Int32 × ST) ⊕ (Int32 × ST)))) = some z → m_X4_lookThrough_L9 (nI n, nI st, wI b 8 0) = some z := fun {z} hz => by
        unfold m_X4_lookThrough_L9
        simp only [un, lt]
        rw [if_neg (n60 (n := n) (by omega)), show (wI b 8 0).1 7 = nI T from h.2.1, if_neg (show ¬ nI T ≤ 0 by rw [qge_0 (by omega)]; omega), if_neg (show ¬ nI T < nI st by rw [qlt (by omega) (by omega)]; omega), ef_e (b := wI b 8 0) (t := t) h (by omega), Option.bind_some, fo_e (b := wI b 8 0) (t := t) h hC8 hD hge hle, Option.bind_some, wI_wI]
        rw [← hz]
        show (if nI (fl D X st (en X T st)) = 0 then _ else _) = _
        simp only [qeq_0 (i := fl D X st (en X T st)) (by omega), nI_1]
      by_cases h0 : fl D X st (en X T st) = 0
      · have hk : lkf D X T (f + 1) st n = lkf D X T f (en X T st + 1) (n + 1) := by
          show (if T = 0 ∨ T < st then _ else if fl D X st (en X T st) = 0 then _ else _) = _
          rw [if_neg hT, if_pos h0]
        rw [hk, vl_next (s2 := (nI (n + 1), nI (en X T st + 1), wI b 8 0)) (hB (by rw [if_pos h0, h0]; rfl))]
        obtain ⟨w, d, hw, hd, w1, w7, e1, hlw, hcase⟩ := fl_0 hge h0
        have hst1 : st < en X T st := by
          rcases Nat.lt_or_ge st (en X T st) with q | q
          · exact q
          · exfalso
            have hwl0 : wl X st (en X T st) = 0 := by omega
            rw [hwl0, wd_0] at hw
            omega
        exact lt_l h hC hD f F (en X T st + 1) (n + 1) (by omega) (by omega) (by omega) (by omega)
      · have hk : lkf D X T (f + 1) st n = (n, fl D X st (en X T st)) := by
          show (if T = 0 ∨ T < st then _ else if fl D X st (en X T st) = 0 then _ else _) = _
          rw [if_neg hT, if_neg h0]
        rw [hk, if_neg h0, vl_stop (hB (by rw [if_neg h0]))]
theorem run_l : ∀ f F st i g b D, st ≤ T + 1 → T + 1 ≤ st + f → f < F → i + f ≤ 200 → TX b t X T → repC b D → okD D → lkf D X T f st i = (g, 0) → ∃ c, vLoop (m_X4_run_L21 (nI g)) F (nI st, nI i, b) = some c ∧ repC c (acf X T f st D) ∧ okD (acf X T f st D) ∧ SB b c
  | f, 0, st, i, g, b, D, _, _, hF, _, _, _, _, _ => by omega
  | 0, F + 1, st, i, g, b, D, _, _, _, _, hT, hC, hD, hk => by
    have hk : (i, 0) = (g, 0) := hk
    cases hk
    refine ⟨b, vl_stop ?_, hC, hD, SB.rf b⟩
    unfold m_X4_run_L21
    simp only [un]
    rw [if_pos (show nI i ≤ nI i by rw [qle (by omega) (by omega)]; omega)]
  | f + 1, F + 1, st, i, g, b, D, hst, hf, hF, hi, h, hC, hD, hk => by
    have h60 := h.1
    by_cases hT : T = 0 ∨ T < st
    · have hk2 : lkf D X T (f + 1) st i = (i, 0) := by unfold lkf; rw [if_pos hT]
      rw [hk2] at hk
      cases hk
      have ha : acf X T (f + 1) st D = D := by unfold acf; rw [if_pos hT]
      rw [ha]
      refine ⟨b, vl_stop ?_, hC, hD, SB.rf b⟩
      unfold m_X4_run_L21
      simp only [un]
      rw [if_pos (show nI i ≤ nI i by rw [qle (by omega) (by omega)]; omega)]
    · have hle := en_le (X := X) (T := T) (st := st) (by omega)
      have hge := en_ge X T st
      have hk3 : lkf D X T (f + 1) st i = if fl D X st (en X T st) = 0 then lkf D X T f (en X T st + 1) (i + 1) else (i, fl D X st (en X T st)) := by
        show (if T = 0 ∨ T < st then _ else if fl D X st (en X T st) = 0 then _ else _) = _
        rw [if_neg hT]
      rw [hk3] at hk
      by_cases h0 : fl D X st (en X T st) = 0
      · rw [if_pos h0] at hk
        have ha : acf X T (f + 1) st D = acf X T f (en X T st + 1) (ac D X st (en X T st)) := by
          show (if T = 0 ∨ T < st then _ else _) = _
          rw [if_neg hT]
        obtain ⟨c, c1, c2, c3⟩ := act_e h hC hD hge hle h0
        obtain ⟨w, d, hw, hd, w1, w7, e1, hlw, hcase⟩ := fl_0 hge h0
        have hD2 : okD (ac D X st (en X T st)) := by
          unfold ac
          rw [hw, hd]
          exact acW_ok hD (by rcases hcase with q | q; exact Or.inl q.1; exact Or.inr ⟨q.1, q.2.2.2.2.2.1⟩)
        obtain ⟨n1, n2, -, -⟩ := acW_N D (wd X st (wl X st (en X T st))) (dg X (en X T st - 1))
        have hb := lkf_b (D := D) (X := X) (T := T) f (en X T st + 1) (i + 1)
        rw [hk] at hb
        have h2 : TX c t X T := ⟨h60, by rw [c3.2.2.2.1]; exact h.2.1, h.2.2.1, fun k => by rw [c3.2.1]; exact h.2.2.2.1 k, h.2.2.2.2⟩
        obtain ⟨c', l1, l2, l3, l4⟩ := run_l f F (en X T st + 1) (i + 1) g c (ac D X st (en X T st)) (by omega) (by omega) (by omega) (by omega) h2 c2 hD2 (by rw [← hk]; exact lkf_N (D := D) n1 n2 _ _ _)
        rw [ha]
        refine ⟨c', ?_, l2, l3, c3.tr l4⟩
        rw [vl_next (s2 := (nI (en X T st + 1), nI (i + 1), c))]
        · exact l1
        · unfold m_X4_run_L21
          simp only [un, lt]
          rw [if_neg (show ¬ nI g ≤ nI i by rw [qle (by omega) (by omega)]; omega), ef_e h (by omega), Option.bind_some, c1, Option.bind_some, nI_1, nI_1]
      · rw [if_neg h0] at hk
        exact absurd (Prod.mk.inj hk).2 h0
theorem SM_TX {c : ST} (h : TX b t X T) (hs : SM t c) : TX b c X T := ⟨h.1, h.2.1, by rw [hs.2.2.2.2.1]; exact h.2.2.1, h.2.2.2.1, fun k => by rw [hs.2.1]; exact h.2.2.2.2 k⟩
/-- beyond the tenth nothing is ever seen -/
theorem acW_v {w d j : Nat} (hd : d ≤ 9) (hj : 10 ≤ j) : dV (acW D w d) j = dV D j := by
  have hq : ∀ v, va_up (dV D) d v j = dV D j := fun v => up_n (by omega)
  unfold acW
  by_cases w1 : w = 1
  · rw [if_pos w1]; exact hq 1
  rw [if_neg w1]
  by_cases w2 : w = 2
  · rw [if_pos w2]; exact hq 2
  rw [if_neg w2]
  by_cases w3 : w = 3
  · rw [if_pos w3]; exact hq 0
  rw [if_neg w3]
  (repeat' split) <;> rfl
theorem acW_v6 {w d j : Nat} (hw : 6 ≤ w) : dV (acW D w d) j = dV D j := by
  unfold acW
  rw [if_neg (by omega), if_neg (by omega), if_neg (by omega)]
  (repeat' split) <;> rfl
theorem acW_P (w d : Nat) : dP (acW D w d) = dP D ∧ dQ (acW D w d) = dQ D := by
  unfold acW
  (repeat' split) <;> exact ⟨rfl, rfl⟩
/-- two nets that differ by what orders change alone -/
def likeD (D D2 : ND) : Prop := dN D2 = dN D ∧ dL D2 = dL D ∧ dA D2 = dA D ∧ dE D2 = dE D ∧ dP D2 = dP D ∧ dQ D2 = dQ D ∧ ∀ j, 10 ≤ j → dV D2 j = dV D j
theorem likeD_ac {st e : Nat} (hs : st ≤ e) (h0 : fl D X st e = 0) : likeD D (ac D X st e) := by
  obtain ⟨w, d, hw, hd, w1, w7, e1, hlw, hcase⟩ := fl_0 hs h0
  unfold ac
  rw [hw, hd]
  obtain ⟨n1, n2, n3, n4⟩ := acW_N D w d
  obtain ⟨n5, n6⟩ := acW_P (D := D) w d
  refine ⟨n1, n2, n3, n4, n5, n6, fun j hj => ?_⟩
  rcases hcase with q | q
  · exact acW_v6 q.1
  · exact acW_v q.2.2.2.2.1 hj
theorem likeD.tr {A B C : ND} (h : likeD A B) (g : likeD B C) : likeD A C := ⟨g.1.trans h.1, g.2.1.trans h.2.1, g.2.2.1.trans h.2.2.1, g.2.2.2.1.trans h.2.2.2.1, g.2.2.2.2.1.trans h.2.2.2.2.1, g.2.2.2.2.2.1.trans h.2.2.2.2.2.1, fun j hj => (g.2.2.2.2.2.2 j hj).trans (h.2.2.2.2.2.2 j hj)⟩
/-- what was seen comes back -/
theorem back_l {D0 : ND} (hM : repM t D) (hl : likeD D0 D) (hB : ∀ k, k < 10 → t.2.2.1 16 k = nI (dV D0 k)) : ∃ f, vLoop m_X10_obey_L115 FUEL ((0 : Int32), t) = some (wD t 5 f) ∧ ∀ k, f k = nI (dV D0 k) := by
  obtain ⟨e, he, f, rfl, hf⟩ := vl_totF (B := m_X10_obey_L115) (fun m st => ∃ i f, i ≤ 10 ∧ m = 10 - i ∧ st = (nI i, wD t 5 f) ∧ (∀ k, k < i → f k = nI (dV D0 k)) ∧ ∀ k, 10 ≤ k → f k = nI (dV D0 k)) (fun e => ∃ f, e = wD t 5 f ∧ ∀ k, f k = nI (dV D0 k)) (by
    rintro m st ⟨i, f, hi, rfl, rfl, h1, h2⟩
    unfold m_X10_obey_L115
    simp only [un, lt, qle_10 (i := i) (by omega)]
    by_cases h : i = 10
    · left; subst h; rw [if_pos (by omega)]
      exact ⟨_, rfl, f, rfl, fun k => by
        rcases Nat.lt_or_ge k 10 with q | q
        · exact h1 k q
        · exact h2 k q⟩
    · right
      rw [if_neg (by omega), gd_in (by omega) (by omega), gd_in (by omega) (by omega), nI_clamp (by omega), wA_wD, nI_1]
      refine ⟨_, rfl, 10 - (i + 1), by omega, i + 1, _, by omega, rfl, rfl, fun k hk => ?_, fun k hk => ?_⟩
      · show upd f i (t.2.2.1 16 i) k = _
        unfold upd
        by_cases hki : k = i
        · subst hki; rw [if_pos rfl]; exact hB k (by omega)
        · rw [if_neg hki]; exact h1 k (by omega)
      · show upd f i (t.2.2.1 16 i) k = _
        unfold upd
        rw [if_neg (by omega)]; exact h2 k hk) (i := 10 - 0) (s := ((0 : Int32), t)) (by omega) ⟨0, t.2.2.1 5, by omega, rfl, by rw [wD_self]; rfl, fun k hk => absurd hk (Nat.not_lt_zero k), fun k hk => by rw [hM.2.2.2.2.2.2.2.2 k, hl.2.2.2.2.2.2 k hk]⟩
  exact ⟨f, he, hf⟩
/-- but for its mark -/
def SN (t c : ST) : Prop := c.2.2.2 = t.2.2.2 ∧ c.2.2.1 15 = t.2.2.1 15 ∧ c.2.2.1 0 = t.2.2.1 0 ∧ c.1 9 = t.1 9 ∧ c.1 0 = t.1 0
theorem oM_l {D0 : ND} (hD0 : okD D0) : ∀ f F st n t D, st ≤ T + 1 → T + 1 ≤ st + f → f < F → TX b t X T → repM t D → okD D → likeD D0 D → (∀ k, k < 10 → t.2.2.1 16 k = nI (dV D0 k)) → t.1 10 = 0 → ∃ z, vLoop (m_X10_obey_L46 (nI (dG D0)) (nI (dS D0))) F (nI n, nI st, t) = some z ∧ (((lkf D X T f st n).2 = 0 ∧ ∃ c, z = .inl (nI (lkf D X T f st n).1, c) ∧ repM c (acf X T f st D) ∧ okD (acf X T f st D) ∧ likeD D0 (acf X T f st D) ∧ SN t c ∧ c.1 10 = 0) ∨ ((lkf D X T f st n).2 ≠ 0 ∧ ∃ c, z = .inr ((-100 : Int32) - nI (lkf D X T f st n).1, c) ∧ repM c D0 ∧ SN t c ∧ c.1 10 = nI (lkf D X T f st n).2))
  | f, 0, st, n, t, D, _, _, hF, _, _, _, _, _, _ => by omega
  | 0, F + 1, st, n, t, D, hst, hf, _, h, hM, hD, hl, hB, h10 => by
    have h60 := h.1
    refine ⟨.inl (nI n, t), vl_stop ?_, Or.inl ⟨rfl, t, rfl, hM, hD, hl, ⟨rfl, rfl, rfl, rfl, rfl⟩, h10⟩⟩
    unfold m_X10_obey_L46
    simp only [un]
    rw [h.2.2.1]
    by_cases hT : T = 0
    · rw [if_pos (show nI T ≤ 0 by rw [qge_0 (by omega)]; omega)]
    · rw [if_neg (show ¬ nI T ≤ 0 by rw [qge_0 (by omega)]; omega), if_pos (show nI T < nI st by rw [qlt (by omega) (by omega)]; omega)]
  | f + 1, F + 1, st, n, t, D, hst, hf, hF, h, hM, hD, hl, hB, h10 => by
    have h60 := h.1
    by_cases hT : T = 0 ∨ T < st
    · have hk : lkf D X T (f + 1) st n = (n, 0) := by unfold lkf; rw [if_pos hT]
      have ha : acf X T (f + 1) st D = D := by unfold acf; rw [if_pos hT]
      rw [hk, ha]
      refine ⟨.inl (nI n, t), vl_stop ?_, Or.inl ⟨rfl, t, rfl, hM, hD, hl, ⟨rfl, rfl, rfl, rfl, rfl⟩, h10⟩⟩
      unfold m_X10_obey_L46
      simp only [un]
      rw [h.2.2.1]
      by_cases hT0 : T = 0
      · rw [if_pos (show nI T ≤ 0 by rw [qge_0 (by omega)]; omega)]
      · rw [if_neg (show ¬ nI T ≤ 0 by rw [qge_0 (by omega)]; omega), if_pos (show nI T < nI st by rw [qlt (by omega) (by omega)]; omega)]
    · have hle := en_le (X := X) (T := T) (st := st) (by omega)
      have hge := en_ge X T st
      have hfl := fl_le D X st (en X T st)
      obtain ⟨d1, d2⟩ := do_e h hM hD hge hle
      by_cases h0 : fl D X st (en X T st) = 0
      · obtain ⟨c, c1, c2, c3⟩ := d2 h0
        have hk : lkf D X T (f + 1) st n = lkf D X T f (en X T st + 1) (n + 1) := by
          show (if T = 0 ∨ T < st then _ else if fl D X st (en X T st) = 0 then _ else _) = _
          rw [if_neg hT, if_pos h0]
        have ha : acf X T (f + 1) st D = acf X T f (en X T st + 1) (ac D X st (en X T st)) := by
          show (if T = 0 ∨ T < st then _ else _) = _
          rw [if_neg hT]
        obtain ⟨w, d, hw, hd, w1, w7, e1, hlw, hcase⟩ := fl_0 hge h0
        have hD2 : okD (ac D X st (en X T st)) := by
          unfold ac
          rw [hw, hd]
          exact acW_ok hD (by rcases hcase with q | q; exact Or.inl q.1; exact Or.inr ⟨q.1, q.2.2.2.2.2.1⟩)
        have hla := likeD_ac hge h0
        have hlk := lkf_N (D := D) (D2 := ac D X st (en X T st)) (X := X) (T := T) hla.1 hla.2.1 f (en X T st + 1) (n + 1)
        obtain ⟨z, z1, z2⟩ := oM_l hD0 f F (en X T st + 1) (n + 1) (wI c 10 0) (ac D X st (en X T st)) (by omega) (by omega) (by omega) (show TX b (wI c 10 0) X T from SM_TX (c := c) h c3) c2 hD2 (hl.tr hla) (fun k hk => by show c.2.2.1 16 k = _; rw [c3.2.2.2.1]; exact hB k hk) rfl
        have hSN : ∀ c', SN (wI c 10 0) c' → SN t c' := fun c' q => ⟨q.1.trans c3.1, q.2.1.trans c3.2.1, q.2.2.1.trans c3.2.2.1, q.2.2.2.1.trans c3.2.2.2.2.1, q.2.2.2.2.trans c3.2.2.2.2.2.1⟩
        rw [hk, ha, ← hlk]
        refine ⟨z, ?_, ?_⟩
        · rw [vl_next (s2 := (nI (n + 1), nI (en X T st + 1), wI c 10 0))]
          · exact z1
          · unfold m_X10_obey_L46
            simp only [un, lt]
            rw [h.2.2.1, if_neg (show ¬ nI T ≤ 0 by rw [qge_0 (by omega)]; omega), if_neg (show ¬ nI T < nI st by rw [qlt (by omega) (by omega)]; omega), efM_e h (by omega), Option.bind_some, c1, Option.bind_some, if_pos (show (wI c 10 0).1 10 = 0 from rfl), nI_1, nI_1]
        · rcases z2 with ⟨q1, c', q2, q3, q4, q5, q6, q7⟩ | ⟨q1, c', q2, q3, q4, q5⟩
          · exact Or.inl ⟨q1, c', q2, q3, q4, q5, hSN c' q6, q7⟩
          · exact Or.inr ⟨q1, c', q2, q3, hSN c' q4, q5⟩
      · have hk : lkf D X T (f + 1) st n = (n, fl D X st (en X T st)) := by
          show (if T = 0 ∨ T < st then _ else if fl D X st (en X T st) = 0 then _ else _) = _
          rw [if_neg hT, if_neg h0]
        rw [hk]
        have hM2 : repM (wI t 10 (nI (fl D X st (en X T st)))) D := hM
        obtain ⟨g, g1, g2⟩ := back_l (t := wI t 10 (nI (fl D X st (en X T st)))) hM2 hl hB
        refine ⟨.inr ((-100 : Int32) - nI n, wI (wI (wD (wI t 10 (nI (fl D X st (en X T st)))) 5 g) 3 (nI (dG D0))) 2 (nI (dS D0))), vl_stop ?_, Or.inr ⟨h0, _, rfl, ?_, ⟨rfl, rfl, rfl, rfl, rfl⟩, rfl⟩⟩
        · unfold m_X10_obey_L46
          simp only [un, lt]
          rw [h.2.2.1, if_neg (show ¬ nI T ≤ 0 by rw [qge_0 (by omega)]; omega), if_neg (show ¬ nI T < nI st by rw [qlt (by omega) (by omega)]; omega), efM_e h (by omega), Option.bind_some, d1 h0, Option.bind_some, if_neg (show ¬ (wI t 10 (nI (fl D X st (en X T st)))).1 10 = 0 from fun q : nI (fl D X st (en X T st)) = 0 => h0 (by rw [qeq_0 (by omega)] at q; exact q)), g1, Option.bind_some]
        · obtain ⟨e1, e2, e3, e4, e5, e6, -⟩ := hl
          exact ⟨by rw [← e1]; exact hM.1, by rw [← e2]; exact hM.2.1, rfl, rfl, by rw [← e3]; exact hM.2.2.2.2.1, by rw [← e4]; exact hM.2.2.2.2.2.1, by rw [← e5]; exact hM.2.2.2.2.2.2.1, by rw [← e6]; exact hM.2.2.2.2.2.2.2.1, g2⟩
theorem bef_l (hM : repM t D) : ∃ f, vLoop m_X10_obey_L2 FUEL ((0 : Int32), t) = some (wD t 16 f) ∧ ∀ k, k < 10 → f k = nI (dV D k) := by
  obtain ⟨e, he, f, rfl, hf⟩ := vl_totF (B := m_X10_obey_L2) (fun m st => ∃ i f, i ≤ 10 ∧ m = 10 - i ∧ st = (nI i, wD t 16 f) ∧ ∀ k, k < i → f k = nI (dV D k)) (fun e => ∃ f, e = wD t 16 f ∧ ∀ k, k < 10 → f k = nI (dV D k)) (by
    rintro m st ⟨i, f, hi, rfl, rfl, h1⟩
    unfold m_X10_obey_L2
    simp only [un, lt, qle_10 (i := i) (by omega)]
    by_cases h : i = 10
    · left; subst h; rw [if_pos (by omega)]; exact ⟨_, rfl, f, rfl, h1⟩
    · right
      rw [if_neg (by omega), gd_in (by omega) (by omega), gd_in (by omega) (by omega), nI_clamp (by omega), wA_wD, nI_1]
      refine ⟨_, rfl, 10 - (i + 1), by omega, i + 1, _, by omega, rfl, rfl, fun k hk => ?_⟩
      show upd f i (t.2.2.1 5 i) k = _
      unfold upd
      by_cases hki : k = i
      · subst hki; rw [if_pos rfl]; exact hM.2.2.2.2.2.2.2.2 k
      · rw [if_neg hki]; exact h1 k (by omega)) (i := 10 - 0) (s := ((0 : Int32), t)) (by omega) ⟨0, t.2.2.1 16, by omega, rfl, by rw [wD_self]; rfl, fun k hk => absurd hk (Nat.not_lt_zero k)⟩
  exact ⟨f, he, hf⟩
theorem s_obey (h : INV b t D) : SIM (m_X9_obey b) (m_X10_obey t) := by
  obtain ⟨hD, hC, hM, hJ, hT, hS⟩ := id h
  obtain ⟨n, hn, hn1, hn2⟩ := hT.1
  have hX : TX b t (b.2.2.1 6) n := ⟨hn, hn1, hn2, fun _ => rfl, fun k => (hT.2.1 k).symm⟩
  obtain ⟨f, f1, f2⟩ := bef_l hM
  have hX2 : TX b (wI (wD t 16 f) 10 0) (b.2.2.1 6) n := hX
  have hll := lt_l hX hC hD (n + 1) FUEL 0 0 (by omega) (by omega) (by omega) (by unfold FUEL; omega)
  have hll : vLoop m_X4_lookThrough_L9 FUEL ((0 : Int32), (0 : Int32), wI b 8 0) = _ := hll
  obtain ⟨z, z1, z2⟩ := oM_l hD (n + 1) FUEL 0 0 (wI (wD t 16 f) 10 0) D (by omega) (by omega) (by unfold FUEL; omega) hX2 hM hD ⟨rfl, rfl, rfl, rfl, rfl, rfl, fun _ _ => rfl⟩ f2 rfl
  have z1 : vLoop (m_X10_obey_L46 (nI (dG D)) (nI (dS D))) FUEL ((0 : Int32), (0 : Int32), wI (wD t 16 f) 10 0) = some z := z1
  have hbd := lkf_b (D := D) (X := b.2.2.1 6) (T := n) (n + 1) 0 0
  unfold m_X9_obey m_X10_obey m_X4_run m_X4_lookThrough
  simp only [lt]
  rw [f1, Option.bind_some, show (wD t 16 f).1 3 = nI (dG D) from hM.2.2.2.1, show (wD t 16 f).1 2 = nI (dS D) from hM.2.2.1, z1, hll, Option.bind_some]
  generalize hlk : lkf D (b.2.2.1 6) n (n + 1) 0 0 = r at z2 hbd ⊢
  obtain ⟨g, fa⟩ := r
  rcases z2 with ⟨q1, c, rfl, q3, q4, q5, q6, q7⟩ | ⟨q1, c, rfl, q3, q4, q5⟩
  · have q1 : fa = 0 := q1
    subst q1
    have hC8 : repC (wI b 8 0) D := hC
    have hX8 : TX (wI b 8 0) t (b.2.2.1 6) n := hX
    obtain ⟨c', l1, l2, l3, l4⟩ := run_l (t := t) (n + 1) FUEL 0 0 g (wI b 8 0) D (by omega) (by omega) (by unfold FUEL; omega) (by omega) hX8 hC8 hD hlk
    have l1 : vLoop (m_X4_run_L21 (nI g)) FUEL ((0 : Int32), (0 : Int32), wI b 8 0) = some c' := l1
    rw [if_pos rfl, Option.bind_some]
    dsimp only [ex, un]
    rw [Option.bind_some, if_pos (show (wI b 8 0).1 8 = 0 from rfl), l1, Option.bind_some, Option.bind_some]
    refine SIM.mk (D := acf (b.2.2.1 6) n (n + 1) 0 D) rfl rfl ⟨q4, l2, q3, fun s hs => ?_, ⟨⟨n, hn, by rw [l4.2.2.2.1]; exact hn1, by rw [q6.2.2.2.1]; exact hn2⟩, fun k => ?_, ?_⟩, ?_⟩
    · rw [q5.2.1] at hs
      obtain ⟨J, j1, j2⟩ := hJ s hs
      refine ⟨J, by rw [l4.1]; exact j1, ?_⟩
      rw [q5.2.1, q5.2.2.1, q5.2.2.2.1]
      exact j2
    · rw [l4.2.1, q6.2.1]; exact hT.2.1 k
    · rw [l4.2.2.2.2.1, q7]; rfl
    · refine ⟨by rw [l4.2.2.2.2.2, q6.2.2.2.2]; exact hS.1, fun s hs => ?_, fun s i hs hi => ?_⟩
      · rw [l4.2.2.1, q6.2.2.1]; exact hS.2.1 s hs
      · rw [l4.1, q6.1]; exact hS.2.2 s i hs hi
  · have q1 : fa ≠ 0 := q1
    have hfb : fa ≤ 3 := by
      have hg : ∀ f st n2, (lkf D (b.2.2.1 6) n f st n2).2 ≤ 3 := by
        intro f
        induction f with
        | zero => intro st n2; exact Nat.zero_le 3
        | succ f ih =>
          intro st n2
          have h3 := fl_le D (b.2.2.1 6) st (en (b.2.2.1 6) n st)
          have ih2 := ih (en (b.2.2.1 6) n st + 1) (n2 + 1)
          show (if n = 0 ∨ n < st then (n2, 0) else if fl D (b.2.2.1 6) st (en (b.2.2.1 6) n st) = 0 then _ else (n2, fl D (b.2.2.1 6) st (en (b.2.2.1 6) n st))).2 ≤ 3
          split
          · exact Nat.zero_le 3
          · split
            · exact ih2
            · exact h3
      have := hg (n + 1) 0 0
      rw [hlk] at this
      exact this
    rw [if_neg q1, Option.bind_some]
    dsimp only [ex, un]
    rw [Option.bind_some, if_neg (show ¬ (wI b 8 (nI fa)).1 8 = 0 from fun q : nI fa = 0 => q1 (by rw [qeq_0 (by omega)] at q; exact q)), Option.bind_some]
    refine SIM.mk (D := D) rfl rfl ⟨hD, hC, q3, hJ, ⟨⟨n, hn, hn1, by rw [q4.2.2.2.1]; exact hn2⟩, fun k => ?_, ?_⟩, ?_⟩
    · rw [q4.2.1]; exact hT.2.1 k
    · rw [q5]; rfl
    · refine ⟨by rw [q4.2.2.2.2]; exact hS.1, fun s hs => ?_, fun s i hs hi => ?_⟩
      · rw [q4.2.2.1]; exact hS.2.1 s hs
      · rw [q4.1]; exact hS.2.2 s i hs hi
end OY
