/-! reach, pair, rule, worth, worthiest, better: class and model alike -/
theorem or_top {s n : Nat} (h : s < 2 ^ n) : s ||| 2 ^ n = 2 ^ n + s := by
  have := Nat.two_pow_add_eq_or_of_lt h 1
  rw [Nat.mul_one] at this
  rw [this, Nat.or_comm]
theorem sm_bit : ∀ {n k : Nat} {F : Nat → Nat}, k < n → sm F (2 ^ n) = sm (fun s => if s.testBit k = true then 0 else F s + F (s ||| 2 ^ k)) (2 ^ n)
  | 0, k, F, h => by omega
  | n + 1, k, F, h => by
    rw [show 2 ^ (n + 1) = 2 ^ n + 2 ^ n by omega, sm_split, sm_split]
    by_cases hk : k = n
    · subst hk
      have h2 : sm (fun i => (fun s => if s.testBit k = true then 0 else F s + F (s ||| 2 ^ k)) (2 ^ k + i)) (2 ^ k) = 0 := sm_zero (fun i hi => by show (if (2 ^ k + i).testBit k = true then 0 else _) = 0; rw [if_pos (bit_top hi)])
      rw [h2, ← sm_add, Nat.add_zero]
      exact sm_cong (fun i hi => by show F i + F (2 ^ k + i) = (if i.testBit k = true then 0 else _); rw [if_neg (by rw [Nat.testBit_lt_two_pow hi]; decide), or_top hi])
    · have hkn : k < n := by omega
      have hp : 2 ^ k < 2 ^ n := Nat.pow_lt_pow_right (by decide) hkn
      rw [sm_bit (F := F) hkn, sm_bit (F := fun i => F (2 ^ n + i)) hkn]
      congr 1
      refine sm_cong (fun i hi => ?_)
      show _ = (if (2 ^ n + i).testBit k = true then 0 else F (2 ^ n + i) + F ((2 ^ n + i) ||| 2 ^ k))
      rw [bit_low hkn]
      have h3 : (2 ^ n + i) ||| 2 ^ k = 2 ^ n + (i ||| 2 ^ k) := by
        rw [← or_top hi, ← or_top (or_lt hi hp), Nat.or_assoc, Nat.or_assoc, Nat.or_comm (2 ^ n)]
      rw [h3]
theorem up_k {f : Nat → Nat} {k v : Nat} : va_up f k v k = v := if_pos rfl
theorem up_n {f : Nat → Nat} {k v j : Nat} (h : j ≠ k) : va_up f k v j = f j := if_neg h
theorem wt_k {x z : Nat → Nat} {k s : Nat} : ∀ {n : Nat}, k < n → wt x z n s = (if s.testBit k = true then x k else z k) * wt (va_up x k 1) (va_up z k 1) n s
  | 0, h => by omega
  | n + 1, h => by
    show (if s.testBit n = true then x n else z n) * wt x z n s = _ * ((if s.testBit n = true then va_up x k 1 n else va_up z k 1 n) * wt (va_up x k 1) (va_up z k 1) n s)
    by_cases hk : k = n
    · subst hk
      rw [up_k, up_k, wt_cong (x := x) (z := z) (x2 := va_up x k 1) (z2 := va_up z k 1) (s2 := s) (fun _ _ => rfl) (fun j hj => ⟨(up_n (by omega)).symm, (up_n (by omega)).symm⟩)]
      rw [show (if s.testBit k = true then 1 else 1) = 1 by split <;> rfl, Nat.one_mul]
    · rw [up_n (fun q => hk q.symm), up_n (fun q => hk q.symm), wt_k (k := k) (n := n) (by omega), Nat.mul_left_comm]
theorem wt_in {x z : Nat → Nat} {k s : Nat} : ∀ {n : Nat}, wt (va_up x k 1) (va_up z k 1) n (s ||| 2 ^ k) = wt (va_up x k 1) (va_up z k 1) n s
  | 0 => rfl
  | n + 1 => by
    show (if (s ||| 2 ^ k).testBit n = true then va_up x k 1 n else va_up z k 1 n) * wt _ _ n (s ||| 2 ^ k) = (if s.testBit n = true then va_up x k 1 n else va_up z k 1 n) * wt _ _ n s
    rw [wt_in]
    by_cases hk : k = n
    · subst hk
      rw [up_k, up_k]
      congr 1
      split <;> split <;> rfl
    · rw [Nat.testBit_or, p2_bit, decide_eq_false hk, Bool.or_false]
theorem or_bit_k (s k : Nat) : (s ||| 2 ^ k).testBit k = true := by rw [Nat.testBit_or, p2_bit]; simp
/-- worth: what a link's being up adds, told in two ways -/
theorem worth_eq {n k : Nat} {u w : Nat → Nat} (hW : okW n u w) (hk : k < n) {rc : Nat → Bool} (mono : ∀ s, rc s = true → rc (s ||| 2 ^ k) = true) :
    sm (fun s => if s.testBit k = true then 0 else if rc s = true then 0 else if rc (s ||| 2 ^ k) = true then wt u (zz u w) n s + wt u (zz u w) n (s ||| 2 ^ k) else 0) (2 ^ n) = w k * (sm (fun s => if rc s = true then wt (va_up u k 1) (zz (va_up u k 1) (va_up w k 1)) n s else 0) (2 ^ n) - sm (fun s => if rc s = true then wt (va_up u k 0) (zz (va_up u k 0) (va_up w k 1)) n s else 0) (2 ^ n))
    ∧ sm (fun s => if rc s = true then wt (va_up u k 0) (zz (va_up u k 0) (va_up w k 1)) n s else 0) (2 ^ n) ≤ sm (fun s => if rc s = true then wt (va_up u k 1) (zz (va_up u k 1) (va_up w k 1)) n s else 0) (2 ^ n) := by
  have hz1 : va_up (zz (va_up u k 1) (va_up w k 1)) k 1 = va_up (zz u w) k 1 := by
    funext j
    by_cases hj : j = k
    · subst hj; rw [up_k, up_k]
    · rw [up_n hj, up_n hj]; unfold zz; rw [up_n hj, up_n hj]
  have hz0 : va_up (zz (va_up u k 0) (va_up w k 1)) k 1 = va_up (zz u w) k 1 := by
    funext j
    by_cases hj : j = k
    · subst hj; rw [up_k, up_k]
    · rw [up_n hj, up_n hj]; unfold zz; rw [up_n hj, up_n hj]
  have hu : ∀ c, va_up (va_up u k c) k 1 = va_up u k 1 := fun c => by
    funext j
    by_cases hj : j = k
    · subst hj; rw [up_k, up_k]
    · rw [up_n hj, up_n hj, up_n hj]
  have e1 : ∀ s, wt (va_up u k 1) (zz (va_up u k 1) (va_up w k 1)) n s = (if s.testBit k = true then 1 else 0) * wt (va_up u k 1) (va_up (zz u w) k 1) n s := fun s => by
    rw [wt_k hk, hz1, hu, up_k]
    unfold zz
    rw [up_k, up_k]
  have e0 : ∀ s, wt (va_up u k 0) (zz (va_up u k 0) (va_up w k 1)) n s = (if s.testBit k = true then 0 else 1) * wt (va_up u k 1) (va_up (zz u w) k 1) n s := fun s => by
    rw [wt_k hk, hz0, hu, up_k]
    unfold zz
    rw [up_k, up_k]
  have e2 : ∀ s, wt u (zz u w) n s = (if s.testBit k = true then u k else w k - u k) * wt (va_up u k 1) (va_up (zz u w) k 1) n s := fun s => by rw [wt_k hk]; rfl
  have hR := fun s => wt_in (x := u) (z := zz u w) (k := k) (s := s) (n := n)
  have hA1 : sm (fun s => if rc s = true then wt (va_up u k 1) (zz (va_up u k 1) (va_up w k 1)) n s else 0) (2 ^ n) = sm (fun s => if s.testBit k = true then 0 else if rc (s ||| 2 ^ k) = true then wt (va_up u k 1) (va_up (zz u w) k 1) n s else 0) (2 ^ n) := by
    rw [sm_bit hk]
    refine sm_cong (fun s _ => ?_)
    by_cases hb : s.testBit k = true
    · rw [if_pos hb, if_pos hb]
    · rw [if_neg hb, if_neg hb, e1, e1, if_neg hb, or_bit_k, if_pos rfl, hR]
      simp
  have hA0 : sm (fun s => if rc s = true then wt (va_up u k 0) (zz (va_up u k 0) (va_up w k 1)) n s else 0) (2 ^ n) = sm (fun s => if s.testBit k = true then 0 else if rc s = true then wt (va_up u k 1) (va_up (zz u w) k 1) n s else 0) (2 ^ n) := by
    rw [sm_bit hk]
    refine sm_cong (fun s _ => ?_)
    by_cases hb : s.testBit k = true
    · rw [if_pos hb, if_pos hb]
    · rw [if_neg hb, if_neg hb, e0, e0, if_neg hb, or_bit_k, if_pos rfl]
      simp
  have hG : sm (fun s => if s.testBit k = true then 0 else if rc s = true then 0 else if rc (s ||| 2 ^ k) = true then wt u (zz u w) n s + wt u (zz u w) n (s ||| 2 ^ k) else 0) (2 ^ n) = w k * sm (fun s => if s.testBit k = true then 0 else if rc s = true then 0 else if rc (s ||| 2 ^ k) = true then wt (va_up u k 1) (va_up (zz u w) k 1) n s else 0) (2 ^ n) := by
    rw [← sm_mul]
    refine sm_cong (fun s _ => ?_)
    by_cases hb : s.testBit k = true
    · rw [if_pos hb, if_pos hb]; rfl
    · rw [if_neg hb, if_neg hb, e2, e2, if_neg hb, or_bit_k, if_pos rfl, hR, ← Nat.add_mul]
      have := (hW.2 k hk).1
      rw [show w k - u k + u k = w k by omega]
      split
      · rfl
      · split <;> rfl
  have hsum : sm (fun s => if s.testBit k = true then 0 else if rc (s ||| 2 ^ k) = true then wt (va_up u k 1) (va_up (zz u w) k 1) n s else 0) (2 ^ n) = sm (fun s => if s.testBit k = true then 0 else if rc s = true then wt (va_up u k 1) (va_up (zz u w) k 1) n s else 0) (2 ^ n) + sm (fun s => if s.testBit k = true then 0 else if rc s = true then 0 else if rc (s ||| 2 ^ k) = true then wt (va_up u k 1) (va_up (zz u w) k 1) n s else 0) (2 ^ n) := by
    rw [← sm_add]
    refine sm_cong (fun s _ => ?_)
    by_cases hb : s.testBit k = true
    · simp only [if_pos hb]
    · simp only [if_neg hb]
      by_cases hr : rc s = true
      · rw [if_pos hr, if_pos hr, if_pos (mono s hr), Nat.add_zero]
      · rw [if_neg hr, if_neg hr, Nat.zero_add]
  rw [hA1, hA0, hG, hsum]
  exact ⟨by rw [Nat.add_sub_cancel_left], Nat.le_add_right _ _⟩
theorem fr_mul {c a b : Nat} {x : Int32} (hc : 0 < c) : fr (c * a) (c * b) x = fr a b x := by
  unfold fr
  rw [Nat.gcd_mul_left]
  split <;> exact Nat.mul_div_mul_left _ _ hc
theorem pr_k {w : Nat → Nat} {n k : Nat} (hk : k < n) : pr w PA n = w k * pr (va_up w k 1) PA n := by
  rw [pr_take hk rfl, pr_take (y := va_up w k 1) hk rfl, up_k, Nat.one_mul]
  congr 1
  exact pr_cong (fun _ _ => rfl) (fun j _ hj => (up_n (wi_t hj).2).symm)
theorem okW_1 {n k c : Nat} {u w : Nat → Nat} (hW : okW n u w) (hc : c ≤ 1) : okW n (va_up u k c) (va_up w k 1) := ⟨hW.1, fun j hj => by
  by_cases h : j = k
  · subst h; rw [up_k, up_k]; omega
  · rw [up_n h, up_n h]; exact hW.2 j hj⟩
section WO
variable {b t : ST} {D : ND}
theorem inv_od {F : Nat → Int64} {v : Int64} (h : INV b t D) : INV (wC (wL b 0 v) 1 F) t D := ⟨h.1, h.2.1, h.2.2.1, h.2.2.2.1, h.2.2.2.2.1, shs_C (b := wL b 0 v) (k := 1) (by omega) h.2.2.2.2.2⟩
theorem inv_ta {f g : Nat → Int32} (h : INV b t D) : INV b (wD (wD t 6 f) 7 g) D := ⟨h.1, h.2.1, h.2.2.1, h.2.2.2.1, h.2.2.2.2.1, h.2.2.2.2.2⟩
theorem TOB_up {f g : Nat → Int32} {u w : Nat → Nat} {k c d : Nat} (h : TOB (wD (wD t 6 f) 7 g) D u w) : TOB (wD (wD t 6 (upd f k (nI c))) 7 (upd g k (nI d))) D (va_up u k c) (va_up w k d) := fun j hj => by
  obtain ⟨h1, h2⟩ := h j hj
  have h1 : f j = nI (u j) := h1
  have h2 : g j = nI (w j) := h2
  show upd f k (nI c) j = nI (va_up u k c j) ∧ upd g k (nI d) j = nI (va_up w k d j)
  unfold upd va_up
  split
  · exact ⟨rfl, rfl⟩
  · exact ⟨h1, h2⟩
/-- reach as a sum, above one whole -/
def RS (D : ND) (u w : Nat → Nat) : Nat := sm (fun s => if rch D s = true then wt u (zz u w) (dL D) s else 0) (2 ^ dL D)
theorem RS_lt {u w : Nat → Nat} (hW : okW (dL D) u w) : RS D u w ≤ 3486784401 := Nat.le_trans (okW_le hW) (okW_pr hW).2
theorem ab_r (hM : repM t D) (hD : okD D) {u w : Nat → Nat} (hT : TOB t D u w) (hW : okW (dL D) u w) : m_X10_above t (t.1 2) (nI (dW D)) = some (lN (RS D u w)) := by
  have h1 := hD.2.1
  have h2 := hD.2.2.2.1
  have h3 := dW_lt7 hD
  rw [hM.2.2.1, above_e hM hD hT hW (by omega) (by omega)]
  unfold RS
  simp only [jall_W hD]
theorem reachBy_e (hM : repM t D) (hD : okD D) (x : Int32) : ∃ f g, m_X10_reachBy t x = some (lN (fr (RS D (uP D) (wP D)) (pr (wP D) PA (dL D)) x), wD (wD t 6 f) 7 g) := by
  obtain ⟨f, g, h1, h2⟩ := asIt_e hM hD
  have hM2 : repM (wD (wD t 6 f) 7 g) D := hM
  have hW := okW_D hD
  obtain ⟨p1, p2⟩ := okW_pr hW
  have p3 := RS_lt (D := D) hW
  refine ⟨f, g, ?_⟩
  unfold m_X10_reachBy
  rw [h1, Option.bind_some, waM_e hM2 hD, Option.bind_some, ab_r hM2 hD h2 hW, Option.bind_some, below_e hM2 hD h2 hW, Option.bind_some, part_e (by omega) p1 (by omega), Option.bind_some]
theorem betterBy_e (hM : repM t D) (hD : okD D) {k p q : Nat} (hk : k < dL D) (h1q : 1 ≤ q) (hq9 : q ≤ 9) (hpq : p ≤ q) (x : Int32) : ∃ f g, m_X10_betterBy t (nI k) (nI p) (nI q) x = some (lN (fr (RS D (va_up (uP D) k p) (va_up (wP D) k q)) (pr (va_up (wP D) k q) PA (dL D)) x), wD (wD t 6 f) 7 g) := by
  have hL := hD.2.2.1
  obtain ⟨f, g, h1, h2⟩ := asIt_e hM hD
  have hW : okW (dL D) (va_up (uP D) k p) (va_up (wP D) k q) := ⟨hL, fun j hj => by
    by_cases h : j = k
    · subst h; rw [up_k, up_k]; omega
    · rw [up_n h, up_n h]; exact uP_le hD hj⟩
  have hM2 : repM (wD (wD t 6 (upd f k (nI p))) 7 (upd g k (nI q))) D := hM
  have h3 := TOB_up (k := k) (c := p) (d := q) h2
  obtain ⟨p1, p2⟩ := okW_pr hW
  have p3 := RS_lt (D := D) hW
  refine ⟨upd f k (nI p), upd g k (nI q), ?_⟩
  unfold m_X10_betterBy
  simp only [lt]
  rw [h1, Option.bind_some, gd_in (by omega) (by omega), gd_in (by omega) (by omega), nI_clamp (by omega), wA_wD2 _ _ _ _ _ _ _ (by decide), wA_wD, waM_e hM2 hD, Option.bind_some, ab_r hM2 hD h3 hW, Option.bind_some, below_e hM2 hD h3 hW, Option.bind_some, part_e (by omega) p1 (by omega), Option.bind_some]
/-- a link's worth, above the whole of the others -/
def WA (D : ND) (k : Nat) : Nat := RS D (va_up (uP D) k 1) (va_up (wP D) k 1) - RS D (va_up (uP D) k 0) (va_up (wP D) k 1)
def WB (D : ND) (k : Nat) : Nat := pr (va_up (wP D) k 1) PA (dL D)
theorem rch_mono {s k : Nat} (h : rch D s = true) : rch D (s ||| 2 ^ k) = true := by
  unfold rch at *
  refine cn_imp (fun e he => ?_) h
  obtain ⟨j, h1, h2, rfl⟩ := ED_mem.mp he
  exact lab_link (e := (dA D j, dE D j)) (ED_mem.mpr ⟨j, h1, by rw [Nat.testBit_or, h2]; rfl, rfl⟩)
theorem WA_eq (hD : okD D) {k : Nat} (hk : k < dL D) : sm (fun s => if s.testBit k = true then 0 else if rch D s = true then 0 else if rch D (s ||| 2 ^ k) = true then wt (uP D) (zz (uP D) (wP D)) (dL D) s + wt (uP D) (zz (uP D) (wP D)) (dL D) (s ||| 2 ^ k) else 0) (2 ^ dL D) = wP D k * WA D k ∧ RS D (va_up (uP D) k 0) (va_up (wP D) k 1) ≤ RS D (va_up (uP D) k 1) (va_up (wP D) k 1) := worth_eq (okW_D hD) hk (fun s h => rch_mono h)
theorem WA_le (hD : okD D) {k : Nat} : WA D k ≤ WB D k := Nat.le_trans (Nat.sub_le _ _) (okW_le (okW_1 (okW_D hD) (Nat.le_refl 1)))
theorem WB_pos (hD : okD D) {k : Nat} : 0 < WB D k ∧ WB D k ≤ 3486784401 := okW_pr (okW_1 (k := k) (okW_D hD) (Nat.le_refl 1))
theorem worthAbove_e (hM : repM t D) (hD : okD D) {k : Nat} (hk : k < dL D) : ∃ f g, m_X10_worthAbove t (nI k) = some (lN (WA D k), wD (wD t 6 f) 7 g) ∧ TOB (wD (wD t 6 f) 7 g) D (va_up (uP D) k 0) (va_up (wP D) k 1) := by
  have hL := hD.2.2.1
  obtain ⟨f, g, h1, h2⟩ := asIt_e hM hD
  have hW1 := okW_1 (k := k) (c := 1) (okW_D hD) (by omega)
  have hW0 := okW_1 (k := k) (c := 0) (okW_D hD) (by omega)
  have hM1 : repM (wD (wD t 6 (upd f k (nI 1))) 7 (upd g k (nI 1))) D := hM
  have h3 := TOB_up (k := k) (c := 1) (d := 1) h2
  have huu : upd (upd f k (nI 1)) k (nI 0) = upd f k (nI 0) := by
    funext j
    unfold upd
    split <;> rfl
  have hM0 : repM (wD (wD t 6 (upd f k (nI 0))) 7 (upd g k (nI 1))) D := hM
  have h4 := TOB_up (k := k) (c := 0) (d := 1) h2
  refine ⟨upd f k (nI 0), upd g k (nI 1), ?_, h4⟩
  unfold m_X10_worthAbove
  simp only [lt]
  rw [h1, Option.bind_some, gd_in (by omega) (by omega), gd_in (by omega) (by omega), nI_clamp (by omega), wA_wD, wA_wD2 _ _ _ _ _ _ _ (by decide)]
  rw [show (1 : Int32) = nI 1 from rfl, waM_e hM1 hD, Option.bind_some, ab_r hM1 hD h3 hW1, Option.bind_some, gd_i2 (by omega) (by omega), wA_wD2 _ _ _ _ _ _ _ (by decide), show (0 : Int32) = nI 0 from rfl, huu, waM_e hM0 hD, Option.bind_some, ab_r hM0 hD h4 hW0, Option.bind_some, lN_sub (WA_eq hD hk).2]
  rfl
theorem worthBy_e (hM : repM t D) (hD : okD D) {k : Nat} (hk : k < dL D) (x : Int32) : ∃ f g, m_X10_worthBy t (nI k) x = some (lN (fr (WA D k) (WB D k) x), wD (wD t 6 f) 7 g) := by
  obtain ⟨f, g, h1, h2⟩ := worthAbove_e hM hD hk
  have hM1 : repM (wD (wD t 6 f) 7 g) D := hM
  have h3 := WA_le hD (k := k)
  obtain ⟨h4, h5⟩ := WB_pos hD (k := k)
  refine ⟨f, g, ?_⟩
  unfold m_X10_worthBy
  rw [h1, Option.bind_some]
  simp only [un]
  rw [below_e hM1 hD h2 (okW_1 (okW_D hD) (by omega)), Option.bind_some]
  have h6 := part_e (a := WA D k) (b := WB D k) (w := x) (by omega) h4 (by omega)
  unfold WB at h6
  rw [h6, Option.bind_some]
  rfl
theorem wparts_e (hC : repC b D) (hJ : jnC b D) (hD : okD D) (hP : PRT b D (uP D) (wP D)) {k : Nat} (hk : k < dL D) : m_X3_worthParts b (nI k) = some (lN (wP D k * WA D k)) := by
  have hL := hD.2.2.1
  have hp : 2 ^ dL D ≤ 2 ^ 10 := Nat.pow_le_pow_right (by decide) hL
  have hp0 := Nat.two_pow_pos (dL D)
  have hk2 : 2 ^ k < 2 ^ dL D := Nat.pow_lt_pow_right (by decide) hk
  unfold m_X3_worthParts
  rw [hl_k hC hD hk, Option.bind_some, if_neg (by decide)]
  simp only [lt]
  rw [shl_1 k (by omega), sum_loop (B := m_X3_worthParts_L22 (nI (2 ^ k)) b) (g := fun s => if s.testBit k = true then 0 else if rch D s = true then 0 else if rch D (s ||| 2 ^ k) = true then wt (uP D) (zz (uP D) (wP D)) (dL D) s + wt (uP D) (zz (uP D) (wP D)) (dL D) (s ||| 2 ^ k) else 0) (n := 2 ^ dL D) (by omega) (fun i a hi => ?_) (fun a => ?_)]
  · rw [(WA_eq hD hk).1]
    rfl
  · have ho : (i ||| 2 ^ k) < 2 ^ dL D := or_lt hi hk2
    unfold m_X3_worthParts_L22
    simp only [un, lt]
    rw [al_e hC hD, Option.bind_some, if_neg (by rw [all_end hC hD (by omega)]; omega), fa_or, if_neg (by rw [qle_1024 (by omega)]; omega)]
    simp only [fa_bit (n := i) (j := k) (by omega)]
    cases hb : i.testBit k
    · rw [if_pos rfl, re_e hC hJ hD hi, re_e hC hJ hD ho]
      simp only [Option.bind_some, bz_if, gd_in (i := i) (N := 1024) (by omega) (by omega), gd_i2 (i := i) (N := 1024) (by omega) (by omega), nI_clamp (n := i) (by omega), gd_in (i := i ||| 2 ^ k) (N := 1024) (by omega) (by omega), gd_i2 (i := i ||| 2 ^ k) (N := 1024) (by omega) (by omega), nI_clamp (n := i ||| 2 ^ k) (by omega), hP.2 i hi, hP.2 _ ho, lN_add, nI_1]
      split
      · rfl
      · split <;> rfl
    · rw [if_neg (by decide), nI_1]
      rfl
  · unfold m_X3_worthParts_L22
    simp only [un]
    rw [al_e hC hD, Option.bind_some, if_pos (by rw [all_end hC hD (by omega)])]
/-! the acts -/
theorem s_reach (h : INV b t D) (x : Int32) : SIM (m_X9_reach b x) (m_X10_reach t x) := by
  obtain ⟨hD, hC, hM, hJ, hT, hS⟩ := id h
  unfold m_X9_reach m_X10_reach
  rw [isSide_e, isTwo_e, Option.bind_some, Option.bind_some, bz_if, bz_if]
  cases hx : two x
  · exact SIM.mk rfl rfl h
  · rw [if_pos rfl, if_pos rfl]
    obtain ⟨F, f1, f2⟩ := fill_e hC hD
    obtain ⟨f, g, g1⟩ := reachBy_e hM hD x
    have hP : PRT (wC (wL b 0 (lN (pr (wP D) PA (dL D)))) 1 F) D (uP D) (wP D) := ⟨rfl, f2⟩
    have hI := inv_od (F := F) (v := lN (pr (wP D) PA (dL D))) (inv_ta (f := f) (g := g) h)
    have hr := RS_lt (D := D) (okW_D hD)
    rw [f1, Option.bind_some, rp_e hI.2.1 hI.2.2.2.1 hD hP, Option.bind_some]
    have ht := td_e (okW_D hD) hP (a := RS D (uP D) (wP D)) (by omega) x
    unfold RS at ht g1
    rw [ht, g1]
    exact SIM.mk rfl rfl hI
theorem s_better (h : INV b t D) (x p q y : Int32) : SIM (m_X9_better b x p q y) (m_X10_better t x p q y) := by
  obtain ⟨hD, hC, hM, hJ, hT, hS⟩ := id h
  unfold m_X9_better m_X10_better
  rw [hl_e hC hD, isLink_e hM hD, chance_e, chanceM_e, isSide_e, isTwo_e]
  simp only [Option.bind_some, bz_if]
  cases hx : lnk D x
  · exact SIM.mk rfl rfl h
  · cases hq : chn p.toInt64 q.toInt64
    · exact SIM.mk rfl rfl h
    · cases hy : two y
      · exact SIM.mk rfl rfl h
      · simp only [if_true]
        obtain ⟨k, hk, rfl⟩ := lnk_of hD hx
        obtain ⟨i, j, rfl, rfl, h1j, hj9, hij⟩ := chn32 hq
        have hL := hD.2.2.1
        have hW : okW (dL D) (va_up (uP D) k i) (va_up (wP D) k j) := ⟨hL, fun l hl => by
          by_cases h : l = k
          · subst h; rw [up_k, up_k]; omega
          · rw [up_n h, up_n h]; exact uP_le hD hl⟩
        obtain ⟨F, f1, f2⟩ := fw_e (x1 := nI k) (x2 := nI i) (x3 := nI j) hC hD hW (fun l hl hlk => by
          have : l = k := (nI_eq (by omega) (by omega)).mp hlk
          subst this
          rw [up_k, up_k]; exact ⟨rfl, rfl⟩) (fun l hl hlk => by
          have : l ≠ k := fun q => hlk (by rw [q])
          rw [up_n this, up_n this]; exact ⟨rfl, rfl⟩)
        obtain ⟨f, g, g1⟩ := betterBy_e hM hD hk h1j hj9 hij y
        have hP : PRT (wC (wL b 0 (lN (pr (va_up (wP D) k j) PA (dL D)))) 1 F) D (va_up (uP D) k i) (va_up (wP D) k j) := ⟨rfl, f2⟩
        have hI := inv_od (F := F) (v := lN (pr (va_up (wP D) k j) PA (dL D))) (inv_ta (f := f) (g := g) h)
        have hr := RS_lt (D := D) hW
        rw [f1, Option.bind_some, rp_e hI.2.1 hI.2.2.2.1 hD hP, Option.bind_some]
        have ht := td_e hW hP (a := RS D (va_up (uP D) k i) (va_up (wP D) k j)) (by omega) y
        unfold RS at ht g1
        rw [ht, g1]
        exact SIM.mk rfl rfl hI
theorem s_worth (h : INV b t D) (x y : Int32) : SIM (m_X9_worth b x y) (m_X10_worth t x y) := by
  obtain ⟨hD, hC, hM, hJ, hT, hS⟩ := id h
  unfold m_X9_worth m_X10_worth
  rw [hl_e hC hD, isLink_e hM hD, isSide_e, isTwo_e]
  simp only [Option.bind_some, bz_if]
  cases hx : lnk D x
  · exact SIM.mk rfl rfl h
  · cases hy : two y
    · exact SIM.mk rfl rfl h
    · simp only [if_true]
      obtain ⟨k, hk, rfl⟩ := lnk_of hD hx
      obtain ⟨F, f1, f2⟩ := fill_e hC hD
      obtain ⟨f, g, g1⟩ := worthBy_e hM hD hk y
      have hP : PRT (wC (wL b 0 (lN (pr (wP D) PA (dL D)))) 1 F) D (uP D) (wP D) := ⟨rfl, f2⟩
      have hI := inv_od (F := F) (v := lN (pr (wP D) PA (dL D))) (inv_ta (f := f) (g := g) h)
      have h3 := WA_le hD (k := k)
      obtain ⟨h4, h5⟩ := WB_pos hD (k := k)
      obtain ⟨w1, w2, w3⟩ := uP_le hD hk
      have h6 : wP D k * WA D k ≤ 9 * 3486784401 := Nat.mul_le_mul w3 (Nat.le_trans h3 h5)
      rw [f1, Option.bind_some, wparts_e hI.2.1 hI.2.2.2.1 hD hP hk, Option.bind_some, td_e (okW_D hD) hP (by omega) y, g1, pr_k hk, fr_mul w2]
      exact SIM.mk rfl rfl hI
/-- the sum for two stations -/
def PS (D : ND) (v c : Nat) : Nat := sm (fun s => if (mk (EDD D s) v).testBit c = true then wt (uP D) (zz (uP D) (wP D)) (dL D) s else 0) (2 ^ dL D)
theorem PS_lt (hD : okD D) {v c : Nat} : PS D v c ≤ pr (wP D) PA (dL D) ∧ PS D v c ≤ 3486784401 := ⟨okW_le (f := fun s => (mk (EDD D s) v).testBit c) (okW_D hD), Nat.le_trans (okW_le (f := fun s => (mk (EDD D s) v).testBit c) (okW_D hD)) (okW_pr (okW_D hD)).2⟩
theorem ab_p (hM : repM t D) (hD : okD D) (hT : TOB t D (uP D) (wP D)) {v c : Nat} (hv : v < 7) (hc : c < 7) : m_X10_above t (nI v) ((1 : Int32) <<< (nI c &&& 31)) = some (lN (PS D v c)) := by
  have hc2 : 2 ^ c < 2 ^ 7 := Nat.pow_lt_pow_right (by decide) hc
  rw [shl_1 c (by omega), above_e hM hD hT (okW_D hD) hv (by omega)]
  unfold PS
  simp only [jall_1 hc]
theorem pairBy_e (hM : repM t D) (hD : okD D) {v c : Nat} (hv : v < dN D) (hc : c < dN D) (x : Int32) : ∃ f g, m_X10_pairBy t (nI v) (nI c) x = some (lN (fr (PS D v c) (pr (wP D) PA (dL D)) x), wD (wD t 6 f) 7 g) := by
  have hN := hD.2.1
  obtain ⟨f, g, h1, h2⟩ := asIt_e hM hD
  have hM2 : repM (wD (wD t 6 f) 7 g) D := hM
  have hW := okW_D hD
  obtain ⟨p1, p2⟩ := okW_pr hW
  obtain ⟨p3, p4⟩ := PS_lt hD (v := v) (c := c)
  refine ⟨f, g, ?_⟩
  unfold m_X10_pairBy
  rw [h1, Option.bind_some, ab_p hM2 hD h2 (by omega) (by omega), Option.bind_some, below_e hM2 hD h2 hW, Option.bind_some, part_e (by omega) p1 (by omega), Option.bind_some]
theorem s_pair (h : INV b t D) (x y z : Int32) : SIM (m_X9_pair b x y z) (m_X10_pair t x y z) := by
  obtain ⟨hD, hC, hM, hJ, hT, hS⟩ := id h
  have hN := hD.2.1
  unfold m_X9_pair m_X10_pair
  rw [hs_e hC hD, hs_e hC hD, isStation_e hM hD, isStation_e hM hD, isSide_e, isTwo_e]
  simp only [Option.bind_some, bz_if]
  cases hx : stn D x.toInt64
  · exact SIM.mk rfl rfl h
  · cases hy : stn D y.toInt64
    · exact SIM.mk rfl rfl h
    · cases hz : two z
      · exact SIM.mk rfl rfl h
      · simp only [if_true]
        obtain ⟨v, hv, rfl⟩ := stn_of hD hx
        obtain ⟨c, hc, rfl⟩ := stn_of hD hy
        obtain ⟨F, f1, f2⟩ := fill_e hC hD
        obtain ⟨f, g, g1⟩ := pairBy_e hM hD hv hc z
        have hP : PRT (wC (wL b 0 (lN (pr (wP D) PA (dL D)))) 1 F) D (uP D) (wP D) := ⟨rfl, f2⟩
        have hI := inv_od (F := F) (v := lN (pr (wP D) PA (dL D))) (inv_ta (f := f) (g := g) h)
        obtain ⟨p3, p4⟩ := PS_lt hD (v := v) (c := c)
        have ht := td_e (okW_D hD) hP (a := PS D v c) (by omega) z
        rw [f1, Option.bind_some, pp_e hI.2.1 hI.2.2.2.1 hD hP (by omega) (by omega), Option.bind_some]
        unfold PS at ht g1
        rw [ht, g1]
        exact SIM.mk rfl rfl hI
/-! as a rule -/
theorem sm_bits {W x : Nat} : ∀ n, sm (fun v => if x.testBit v = true then W else 0) n = W * fa_cnt (fun i => x.testBit i) n
  | 0 => rfl
  | n + 1 => by
    show sm _ n + (if x.testBit n = true then W else 0) = W * (fa_cnt (fun i => x.testBit i) n + if x.testBit n = true then 1 else 0)
    rw [sm_bits n, Nat.mul_add]
    split <;> simp
theorem cnt_more {p : Nat → Bool} {n : Nat} : ∀ m, (∀ i, n ≤ i → p i = false) → fa_cnt p (n + m) = fa_cnt p n
  | 0, _ => rfl
  | m + 1, h => by
    show fa_cnt p (n + m) + (if p (n + m) = true then 1 else 0) = _
    rw [cnt_more m h, h (n + m) (by omega)]
    rfl
theorem mk_N (hD : okD D) {s v : Nat} (hv : dN D ≤ v) (hS : (mk (EDD D s) (dS D)).testBit v = true) : False := by
  have hS2 := hD.2.2.2.1
  have h7 : v < 7 := by
    rcases Nat.lt_or_ge v 7 with q | q
    · exact q
    · rw [bit_ge (n := 7) (mk_lt _ _) q] at hS; cases hS
  have h1 := lab_least (fun y => decide (y = v)) (E := EDD D s) (fun e he => by
    obtain ⟨k, h1, h2, rfl⟩ := ED_mem.mp he
    obtain ⟨g1, g2, -⟩ := hD.2.2.2.2.2 k h1
    show decide (dA D k = v) = decide (dE D k = v)
    rw [decide_eq_false (by omega), decide_eq_false (by omega)]) (dS D) v ((mk_jn h7).mp hS)
  have h1 : decide (dS D = v) = decide (v = v) := h1
  rw [decide_eq_false (by omega), decide_eq_true rfl] at h1
  cases h1
theorem pc_N (hD : okD D) (s : Nat) : pc (mk (EDD D s) (dS D)) = fa_cnt (fun i => (mk (EDD D s) (dS D)).testBit i) (dN D) := by
  have hN := hD.2.1
  unfold pc
  obtain ⟨m, hm⟩ : ∃ m, 10 = dN D + m := ⟨10 - dN D, by omega⟩
  rw [hm]
  refine cnt_more m (fun i hi => ?_)
  cases hq : (mk (EDD D s) (dS D)).testBit i
  · rfl
  · exact absurd (mk_N hD hi hq) id
/-- the sum of all stations' chances -/
def QS (D : ND) : Nat := sm (fun v => PS D (dS D) v) (dN D)
theorem QS_eq (hD : okD D) : sm (fun s => wt (uP D) (zz (uP D) (wP D)) (dL D) s * pc (mk (EDD D s) (dS D))) (2 ^ dL D) = QS D := by
  unfold QS PS
  have h := sm_comm (fun v s => if (mk (EDD D s) (dS D)).testBit v = true then wt (uP D) (zz (uP D) (wP D)) (dL D) s else 0) (2 ^ dL D) (dN D)
  rw [h]
  refine sm_cong (fun s _ => ?_)
  rw [sm_bits, pc_N hD]
theorem QS_lt (hD : okD D) : QS D ≤ 7 * 3486784401 := by
  have hN := hD.2.1
  have h1 : QS D ≤ sm (fun _ => 3486784401) (dN D) := sm_le (fun v _ => (PS_lt hD).2)
  have h2 : ∀ n, sm (fun _ => 3486784401) n = n * 3486784401 := fun n => by
    induction n with
    | zero => rfl
    | succ n ih => show sm _ n + 3486784401 = _; rw [ih, Nat.succ_mul]
  rw [h2] at h1
  exact Nat.le_trans h1 (Nat.mul_le_mul_right _ hN)
theorem ruleBy_e (hM : repM t D) (hD : okD D) (x : Int32) : ∃ f g, m_X10_ruleBy t x = some (lN (fr (QS D) (pr (wP D) PA (dL D)) x), wD (wD t 6 f) 7 g) := by
  have hN := hD.2.1
  have hS := hD.2.2.2.1
  obtain ⟨f, g, h1, h2⟩ := asIt_e hM hD
  have hM2 : repM (wD (wD t 6 f) 7 g) D := hM
  have hW := okW_D hD
  obtain ⟨p1, p2⟩ := okW_pr hW
  have p3 := QS_lt hD
  refine ⟨f, g, ?_⟩
  unfold m_X10_ruleBy
  have hl : vLoop (m_X10_ruleBy_L9 (wD (wD t 6 f) 7 g)) FUEL ((0 : Int64), (0 : Int32)) = some (lN (QS D)) := by
    refine sum_loop (g := fun v => PS D (dS D) v) (n := dN D) (by omega) (fun i a hi => ?_) (fun a => ?_)
    · unfold m_X10_ruleBy_L9
      simp only [un, lt]
      rw [hM2.1, if_neg (by rw [qle (by omega) (by omega)]; omega), hM2.2.2.1, ab_p hM2 hD h2 (by omega) (by omega), Option.bind_some, lN_add, nI_1]
    · unfold m_X10_ruleBy_L9
      simp only [un]
      rw [hM2.1, if_pos (by rw [qle (by omega) (by omega)]; omega)]
  rw [h1, Option.bind_some, hl, Option.bind_some, below_e hM2 hD h2 hW, Option.bind_some, part_e (by omega) p1 (by omega), Option.bind_some]
theorem s_rule (h : INV b t D) (x : Int32) : SIM (m_X9_rule b x) (m_X10_rule t x) := by
  obtain ⟨hD, hC, hM, hJ, hT, hS⟩ := id h
  unfold m_X9_rule m_X10_rule
  rw [isSide_e, isTwo_e, Option.bind_some, Option.bind_some, bz_if, bz_if]
  cases hx : two x
  · exact SIM.mk rfl rfl h
  · rw [if_pos rfl, if_pos rfl]
    obtain ⟨F, f1, f2⟩ := fill_e hC hD
    obtain ⟨f, g, g1⟩ := ruleBy_e hM hD x
    have hP : PRT (wC (wL b 0 (lN (pr (wP D) PA (dL D)))) 1 F) D (uP D) (wP D) := ⟨rfl, f2⟩
    have hI := inv_od (F := F) (v := lN (pr (wP D) PA (dL D))) (inv_ta (f := f) (g := g) h)
    have hr := QS_lt hD
    rw [f1, Option.bind_some, ru_e hI.2.1 hI.2.2.2.1 hD hP, Option.bind_some, QS_eq hD, td_e (okW_D hD) hP (by omega) x, g1]
    exact SIM.mk rfl rfl hI
/-! worthiest -/
def gtr (D : ND) (o : Option Nat) (k : Nat) : Bool := match o with
  | none => true
  | some j => decide (wP D j * WA D j < wP D k * WA D k)
/-- the best of the first n links, so far -/
def am (D : ND) : Nat → Option Nat
  | 0 => none
  | k + 1 => if dV D k = 0 ∧ gtr D (am D k) k = true then some k else am D k
def amI (o : Option Nat) : Int32 := match o with
  | none => -1
  | some j => nI j
def amV (D : ND) (o : Option Nat) : Int64 := match o with
  | none => -1
  | some j => lN (wP D j * WA D j)
theorem am_lt : ∀ {n j}, am D n = some j → j < n
  | 0, j, h => by cases h
  | n + 1, j, h => by
    unfold am at h
    split at h
    · cases h; omega
    · have := am_lt h; omega
theorem am_step {k : Nat} : am D (k + 1) = if dV D k = 0 ∧ gtr D (am D k) k = true then some k else am D k := rfl
theorem wl_e (hC : repC b D) (hJ : jnC b D) (hD : okD D) (hP : PRT b D (uP D) (wP D)) : m_X3_worthiestLink b = some (amI (am D (dL D))) := by
  have hL := hD.2.2.1
  unfold m_X3_worthiestLink
  have hl : vLoop (m_X3_worthiestLink_L9 b) FUEL ((-1 : Int32), (-1 : Int64), (0 : Int32)) = some (amI (am D (dL D))) := by
    refine vl_F (fun k => (amI (am D k), amV D (am D k), nI k)) 0 (dL D) (by omega) (by omega) (fun k _ hk => ?_) ?_
    · obtain ⟨-, -, -, -, -, hv⟩ := hD.2.2.2.2.2 k hk
      obtain ⟨w1, w2, w3⟩ := uP_le hD hk
      have h6 : wP D k * WA D k ≤ 9 * 3486784401 := Nat.mul_le_mul w3 (Nat.le_trans (WA_le hD) (WB_pos hD (k := k)).2)
      have hlc : m_X2_linkCount b = some (nI (dL D)) := congrArg some hC.2.1
      unfold m_X3_worthiestLink_L9
      simp only [un, lt]
      rw [hlc, Option.bind_some, if_neg (by rw [qle (by omega) (by omega)]; omega), se_e hC hD hk, Option.bind_some, am_step]
      by_cases h0 : dV D k = 0
      · rw [if_pos (by rw [qeq_0 (by omega)]; exact h0), wparts_e hC hJ hD hP hk, Option.bind_some]
        simp only [lg_cmp_gt, h0, true_and, nI_1]
        cases ha : am D k with
        | none =>
          rw [if_pos (by show (-1 : Int64) < _; rw [fa_lt64, pk_lT (by omega), show (-1 : Int64).toInt = -1 from by decide]; omega)]
          rfl
        | some j =>
          have hj := am_lt ha
          obtain ⟨w1, w2, w3⟩ := uP_le hD (show j < dL D by omega)
          have h7 : wP D j * WA D j ≤ 9 * 3486784401 := Nat.mul_le_mul w3 (Nat.le_trans (WA_le hD) (WB_pos hD (k := j)).2)
          have hc : (amV D (some j) < lN (wP D k * WA D k)) = (wP D j * WA D j < wP D k * WA D k) := propext (pk_lLT (by omega) (by omega))
          simp only [hc, gtr, decide_eq_true_eq]
          split <;> rfl
      · rw [if_neg (by rw [qeq_0 (by omega)]; exact h0), if_neg (fun q => h0 q.1), nI_1]
    · have hlc : m_X2_linkCount b = some (nI (dL D)) := congrArg some hC.2.1
      unfold m_X3_worthiestLink_L9
      simp only [un]
      rw [hlc, Option.bind_some, if_pos (by rw [qle (by omega) (by omega)]; omega)]
  rw [hl]
  rfl
theorem cmp_eq {C1 B1 C2 B2 w1 w2 W : Nat} (hw1 : 0 < w1) (hw2 : 0 < w2) (hB1 : 0 < B1) (hB2 : 0 < B2) (h1 : W = w1 * B1) (h2 : W = w2 * B2) : C2 * (B1 / Nat.gcd B1 B2) < C1 * (B2 / Nat.gcd B1 B2) ↔ w2 * C2 < w1 * C1 := by
  have hg : 0 < Nat.gcd B1 B2 := Nat.gcd_pos_of_pos_left _ hB1
  obtain ⟨x, hx⟩ := Nat.gcd_dvd_left B1 B2
  obtain ⟨y, hy⟩ := Nat.gcd_dvd_right B1 B2
  have e1 : B1 / Nat.gcd B1 B2 = x := by
    have := Nat.mul_div_cancel_left x hg
    rw [← hx] at this
    exact this
  have e2 : B2 / Nat.gcd B1 B2 = y := by
    have := Nat.mul_div_cancel_left y hg
    rw [← hy] at this
    exact this
  rw [e1, e2]
  have hx0 : 0 < x := by rcases Nat.eq_zero_or_pos x with q | q; rw [q] at hx; omega; exact q
  have hy0 : 0 < y := by rcases Nat.eq_zero_or_pos y with q | q; rw [q] at hy; omega; exact q
  have hxy : w1 * x = w2 * y := by
    have h3 : Nat.gcd B1 B2 * (w1 * x) = Nat.gcd B1 B2 * (w2 * y) := by
      rw [Nat.mul_left_comm, ← hx, Nat.mul_left_comm, ← hy, ← h1, ← h2]
    exact Nat.eq_of_mul_eq_mul_left hg h3
  have a1 : w1 * (C2 * x) = y * (w2 * C2) := by rw [Nat.mul_left_comm, hxy, ← Nat.mul_assoc, Nat.mul_comm (C2 * w2), Nat.mul_comm C2]
  have a2 : w1 * (C1 * y) = y * (w1 * C1) := by rw [Nat.mul_comm C1, Nat.mul_left_comm]
  constructor
  · intro h
    have h4 := (Nat.mul_lt_mul_left hw1).mpr h
    rw [a1, a2] at h4
    exact (Nat.mul_lt_mul_left hy0).mp h4
  · intro h
    have h4 := (Nat.mul_lt_mul_left hy0).mpr h
    rw [← a1, ← a2] at h4
    exact (Nat.mul_lt_mul_left hw1).mp h4
theorem div_w {B1 B2 w1 w2 W : Nat} (hB1 : 0 < B1) (hw2 : 0 < w2) (h1 : W = w1 * B1) (h2 : W = w2 * B2) (hB2 : 0 < B2) : B2 / Nat.gcd B1 B2 ≤ w1 := by
  have hg : 0 < Nat.gcd B1 B2 := Nat.gcd_pos_of_pos_left _ hB1
  obtain ⟨x, hx⟩ := Nat.gcd_dvd_left B1 B2
  obtain ⟨y, hy⟩ := Nat.gcd_dvd_right B1 B2
  have e2 : B2 / Nat.gcd B1 B2 = y := by
    have := Nat.mul_div_cancel_left y hg
    rw [← hy] at this
    exact this
  rw [e2]
  have hl : Nat.lcm B1 B2 ∣ W := Nat.lcm_dvd ⟨w1, by rw [h1, Nat.mul_comm]⟩ ⟨w2, by rw [h2, Nat.mul_comm]⟩
  have hW : 0 < W := by
    rw [h2]; exact Nat.mul_pos hw2 hB2
  have h3 : Nat.lcm B1 B2 = B1 * y := by
    have h5 := Nat.gcd_mul_lcm B1 B2
    have h6 : Nat.gcd B1 B2 * Nat.lcm B1 B2 = Nat.gcd B1 B2 * (B1 * y) := by
      rw [h5, Nat.mul_left_comm, ← hy]
    exact Nat.eq_of_mul_eq_mul_left hg h6
  have h4 := Nat.le_of_dvd hW hl
  rw [h3, h1, Nat.mul_comm w1] at h4
  exact Nat.le_of_mul_le_mul_left h4 hB1
/-- the model's best so far, as it keeps it -/
def amU (D : ND) (o : Option Nat) : Nat := match o with
  | none => 0
  | some j => WA D j
def amB (D : ND) (o : Option Nat) : Nat := match o with
  | none => 1
  | some j => WB D j
theorem wn_e (hM : repM t D) (hD : okD D) : ∃ f g, m_X10_worthiestNow t = some (amI (am D (dL D)), wD (wD t 6 f) 7 g) := by
  have hL := hD.2.2.1
  unfold m_X10_worthiestNow
  obtain ⟨e, he, f, g, rfl⟩ := vl_totF (B := m_X10_worthiestNow_L10) (fun m st => ∃ k f g, k ≤ dL D ∧ m = dL D - k ∧ st = (amI (am D k), lN (amU D (am D k)), lN (amB D (am D k)), nI k, wD (wD t 6 f) 7 g)) (fun e => ∃ f g, e = (amI (am D (dL D)), wD (wD t 6 f) 7 g)) (by
      rintro m st ⟨k, f, g, hk, rfl, rfl⟩
      have hM1 : repM (wD (wD t 6 f) 7 g) D := hM
      unfold m_X10_worthiestNow_L10
      simp only [un, lt, hM1.2.1, qle (a := dL D) (b := k) (by omega) (by omega)]
      by_cases hkL : k = dL D
      · left
        subst hkL
        rw [if_pos (by omega)]
        exact ⟨_, rfl, f, g, rfl⟩
      · right
        have hkl : k < dL D := by omega
        obtain ⟨f1, g1, h1, h2⟩ := worthAbove_e hM1 hD hkl
        have hdd : wD (wD (wD (wD t 6 f) 7 g) 6 f1) 7 g1 = wD (wD t 6 f1) 7 g1 := by
          have : wD (wD (wD t 6 f) 7 g) 6 f1 = wD (wD t 6 f1) 7 g := by
            unfold wD
            simp only []
            congr 3
            funext j
            by_cases q : j = 6
            · subst q; simp
            · simp [q]
          rw [this, wD_wD]
        rw [hdd] at h1 h2
        have hM2 : repM (wD (wD t 6 f1) 7 g1) D := hM
        obtain ⟨-, -, -, -, -, hv⟩ := hD.2.2.2.2.2 k hkl
        obtain ⟨w1, w2, w3⟩ := uP_le hD hkl
        have b1 := WA_le hD (k := k)
        obtain ⟨b2, b3⟩ := WB_pos hD (k := k)
        have hB : pr (va_up (wP D) k 1) PA (dL D) = WB D k := rfl
        have ham : 0 < amB D (am D k) ∧ amB D (am D k) ≤ 3486784401 := by
          cases am D k with
          | none => exact ⟨Nat.one_pos, by show 1 ≤ 3486784401; decide⟩
          | some j => exact WB_pos hD
        obtain ⟨q1, q2⟩ := gcd_b (a := WB D k) ham.1
        have hn := lN_n0 q1 (by omega)
        rw [if_neg (by omega), h1, Option.bind_some]
        simp only []
        rw [below_e hM2 hD h2 (okW_1 (okW_D hD) (by omega)), Option.bind_some, hB, dv_e (by omega) (by omega), Option.bind_some, gd_in (by omega) (by omega), nI_clamp (by omega), hM2.2.2.2.2.2.2.2.2 k]
        simp only [qeq_0 (i := dV D k) (by omega), nI_1]
        refine ⟨(amI (am D (k + 1)), lN (amU D (am D (k + 1))), lN (amB D (am D (k + 1))), nI (k + 1), wD (wD t 6 f1) 7 g1), ?_, dL D - (k + 1), by omega, k + 1, f1, g1, by omega, rfl, rfl⟩
        rw [am_step]
        by_cases h0 : dV D k = 0
        · rw [if_pos h0]
          simp only [h0, true_and]
          cases ha : am D k with
          | none =>
            rw [if_pos (show amI none = (-1 : Int32) from rfl), Option.bind_some, if_neg (by decide), if_neg (by decide), Option.bind_some, Option.bind_some, if_neg (by decide)]
            rfl
          | some j =>
            rw [ha] at hn q1 q2 ham
            have hn : ¬ lN (Nat.gcd (WB D k) (WB D j)) = 0 := hn
            have q1 : 0 < Nat.gcd (WB D k) (WB D j) := q1
            have q2 : Nat.gcd (WB D k) (WB D j) ≤ WB D j := q2
            have hj := am_lt ha
            obtain ⟨v1, v2, v3⟩ := uP_le hD (show j < dL D by omega)
            have b4 := WA_le hD (k := j)
            obtain ⟨b5, b6⟩ := WB_pos hD (k := j)
            have e1 : pr (wP D) PA (dL D) = wP D k * WB D k := pr_k hkl
            have e2 : pr (wP D) PA (dL D) = wP D j * WB D j := pr_k (by omega)
            have d1 := div_w b2 v2 e1 e2 b5
            have d2 := div_w (B1 := WB D j) (B2 := WB D k) b5 w2 e2 e1 b2
            have hne : ¬ amI (some j) = (-1 : Int32) := fun q => by
              have := (fa_eq _ _).mp q
              rw [show amI (some j) = nI j from rfl, nI_toInt (by omega), show (-1 : Int32).toInt = -1 from by decide] at this
              omega
            have m1 : WA D k * (WB D j / Nat.gcd (WB D k) (WB D j)) ≤ 3486784401 * 9 := Nat.mul_le_mul (by omega) (by omega)
            have m2 : WA D j * (WB D k / Nat.gcd (WB D k) (WB D j)) ≤ 3486784401 * 9 := Nat.mul_le_mul (by omega) (by rw [Nat.gcd_comm]; omega)
            have hcm := cmp_eq (C1 := WA D k) (C2 := WA D j) (show 0 < wP D k from w2) (show 0 < wP D j from v2) b2 b5 e1 e2
            rw [if_neg hne]
            show Option.bind (gd (¬ lN (Nat.gcd (WB D k) (WB D j)) = 0) (gd (¬ lN (Nat.gcd (WB D k) (WB D j)) = 0) (if lg_cmp (lN (WA D k) * (lN (WB D j) / lN (Nat.gcd (WB D k) (WB D j)))) (lN (WA D j) * (lN (WB D k) / lN (Nat.gcd (WB D k) (WB D j)))) ≤ 0 then some 0 else some 1))) _ = _
            rw [gd_t hn, gd_t hn, pk_lDiv (by omega) q1 (by omega), pk_lDiv (by omega) q1 (by omega), lN_mul, lN_mul]
            by_cases hc : wP D j * WA D j < wP D k * WA D k
            · rw [if_neg (by rw [lg_cmp_le, pk_lLE (by omega) (by omega)]; have := hcm.mpr hc; omega), Option.bind_some, if_neg (by decide), if_neg (by decide), Option.bind_some, Option.bind_some, if_neg (by decide), if_pos (show gtr D (some j) k = true from decide_eq_true hc)]
              rfl
            · rw [if_pos (by rw [lg_cmp_le, pk_lLE (by omega) (by omega)]; have := fun q => hc (hcm.mp q); omega), Option.bind_some, if_pos rfl, if_pos rfl, Option.bind_some, Option.bind_some, if_pos rfl, if_neg (fun q : gtr D (some j) k = true => hc (of_decide_eq_true q))]
        · rw [if_neg h0, Option.bind_some, if_pos rfl, if_pos rfl, Option.bind_some, Option.bind_some, if_pos rfl, if_neg (fun q => h0 q.1)]) (i := dL D - 0) (s := ((-1 : Int32), (0 : Int64), (1 : Int64), (0 : Int32), t)) (by omega) ⟨0, t.2.2.1 6, t.2.2.1 7, by omega, rfl, by rw [wD_self, wD_self]; rfl⟩
  rw [he, Option.bind_some]
  exact ⟨f, g, rfl⟩
theorem s_worthiest (h : INV b t D) : SIM (m_X9_worthiest b) (m_X10_worthiest t) := by
  obtain ⟨hD, hC, hM, hJ, hT, hS⟩ := id h
  unfold m_X9_worthiest m_X10_worthiest
  obtain ⟨F, f1, f2⟩ := fill_e hC hD
  obtain ⟨f, g, g1⟩ := wn_e hM hD
  have hP : PRT (wC (wL b 0 (lN (pr (wP D) PA (dL D)))) 1 F) D (uP D) (wP D) := ⟨rfl, f2⟩
  have hI := inv_od (F := F) (v := lN (pr (wP D) PA (dL D))) (inv_ta (f := f) (g := g) h)
  rw [f1, Option.bind_some, wl_e hI.2.1 hI.2.2.2.1 hD hP, Option.bind_some, g1, Option.bind_some]
  exact SIM.mk rfl rfl hI
end WO
