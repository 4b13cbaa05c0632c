/-! reach, pair, rule, worth, worthiest, better: class and model alike -/
theorem or_top {s n : Nat} (h : s < 2 ^ n) : s ||| 2 ^ n = 2 ^ n + s := by
  have := Nat.two_pow_add_eq_or_of_lt h 1
  rw [Nat.mul_one] at this
  rw [this, Nat.or_comm]
theorem sm_bit : ∀ {n k : Nat} {F : Nat → Nat}, k < n → sm F (2 ^ n) = sm (fun s => if s.testBit k = true then 0 else F s + F (s ||| 2 ^ k)) (2 ^ n)
  | 0, k, F, h => by omega
  | n + 1, k, F, h => by
    rw [show 2 ^ (n + 1) = 2 ^ n + 2 ^ n by omega, sm_split, sm_split]
    by_cases hk : k = n
    · subst hk
      have h2 : sm (fun i => (fun s => if s.testBit k = true then 0 else F s + F (s ||| 2 ^ k)) (2 ^ k + i)) (2 ^ k) = 0 := sm_zero (fun i hi => by show (if (2 ^ k + i).testBit k = true then 0 else _) = 0; rw [if_pos (bit_top hi)])
      rw [h2, ← sm_add, Nat.add_zero]
      exact sm_cong (fun i hi => by show F i + F (2 ^ k + i) = (if i.testBit k = true then 0 else _); rw [if_neg (by rw [Nat.testBit_lt_two_pow hi]; decide), or_top hi])
    · have hkn : k < n := by omega
      have hp : 2 ^ k < 2 ^ n := Nat.pow_lt_pow_right (by decide) hkn
      rw [sm_bit (F := F) hkn, sm_bit (F := fun i => F (2 ^ n + i)) hkn]
      congr 1
      refine sm_cong (fun i hi => ?_)
      show _ = (if (2 ^ n + i).testBit k = true then 0 else F (2 ^ n + i) + F ((2 ^ n + i) ||| 2 ^ k))
      rw [bit_low hkn]
      have h3 : (2 ^ n + i) ||| 2 ^ k = 2 ^ n + (i ||| 2 ^ k) := by
        rw [← or_top hi, ← or_top (or_lt hi hp), Nat.or_assoc, Nat.or_assoc, Nat.or_comm (2 ^ n)]
      rw [h3]
theorem up_k {f : Nat → Nat} {k v : Nat} : va_up f k v k = v := if_pos rfl
theorem up_n {f : Nat → Nat} {k v j : Nat} (h : j ≠ k) : va_up f k v j = f j := if_neg h
theorem wt_k {x z : Nat → Nat} {k s : Nat} : ∀ {n : Nat}, k < n → wt x z n s = (if s.testBit k = true then x k else z k) * wt (va_up x k 1) (va_up z k 1) n s
  | 0, h => by omega
  | n + 1, h => by
    show (if s.testBit n = true then x n else z n) * wt x z n s = _ * ((if s.testBit n = true then va_up x k 1 n else va_up z k 1 n) * wt (va_up x k 1) (va_up z k 1) n s)
    by_cases hk : k = n
    · subst hk
      rw [up_k, up_k, wt_cong (x := x) (z := z) (x2 := va_up x k 1) (z2 := va_up z k 1) (s2 := s) (fun _ _ => rfl) (fun j hj => ⟨(up_n (by omega)).symm, (up_n (by omega)).symm⟩)]
      rw [show (if s.testBit k = true then 1 else 1) = 1 by split <;> rfl, Nat.one_mul]
    · rw [up_n (fun q => hk q.symm), up_n (fun q => hk q.symm), wt_k (k := k) (n := n) (by omega), Nat.mul_left_comm]
theorem wt_in {x z : Nat → Nat} {k s : Nat} : ∀ {n : Nat}, wt (va_up x k 1) (va_up z k 1) n (s ||| 2 ^ k) = wt (va_up x k 1) (va_up z k 1) n s
  | 0 => rfl
  | n + 1 => by
    show (if (s ||| 2 ^ k).testBit n = true then va_up x k 1 n else va_up z k 1 n) * wt _ _ n (s ||| 2 ^ k) = (if s.testBit n = true then va_up x k 1 n else va_up z k 1 n) * wt _ _ n s
    rw [wt_in]
    by_cases hk : k = n
    · subst hk
      rw [up_k, up_k]
      congr 1
      split <;> split <;> rfl
    · rw [Nat.testBit_or, p2_bit, decide_eq_false hk, Bool.or_false]
theorem or_bit_k (s k : Nat) : (s ||| 2 ^ k).testBit k = true := by rw [Nat.testBit_or, p2_bit]; simp
/-- worth: what a link's being up adds, told in two ways -/
theorem worth_eq {n k : Nat} {u w : Nat → Nat} (hW : okW n u w) (hk : k < n) {rc : Nat → Bool} (mono : ∀ s, rc s = true → rc (s ||| 2 ^ k) = true) :
    sm (fun s => if s.testBit k = true then 0 else if rc s = true then 0 else if rc (s ||| 2 ^ k) = true then wt u (zz u w) n s + wt u (zz u w) n (s ||| 2 ^ k) else 0) (2 ^ n) = w k * (sm (fun s => if rc s = true then wt (va_up u k 1) (zz (va_up u k 1) (va_up w k 1)) n s else 0) (2 ^ n) - sm (fun s => if rc s = true then wt (va_up u k 0) (zz (va_up u k 0) (va_up w k 1)) n s else 0) (2 ^ n))
    ∧ sm (fun s => if rc s = true then wt (va_up u k 0) (zz (va_up u k 0) (va_up w k 1)) n s else 0) (2 ^ n) ≤ sm (fun s => if rc s = true then wt (va_up u k 1) (zz (va_up u k 1) (va_up w k 1)) n s else 0) (2 ^ n) := by
  have hz1 : va_up (zz (va_up u k 1) (va_up w k 1)) k 1 = va_up (zz u w) k 1 := by
    funext j
    by_cases hj : j = k
    · subst hj; rw [up_k, up_k]
    · rw [up_n hj, up_n hj]; unfold zz; rw [up_n hj, up_n hj]
  have hz0 : va_up (zz (va_up u k 0) (va_up w k 1)) k 1 = va_up (zz u w) k 1 := by
    funext j
    by_cases hj : j = k
    · subst hj; rw [up_k, up_k]
    · rw [up_n hj, up_n hj]; unfold zz; rw [up_n hj, up_n hj]
  have hu : ∀ c, va_up (va_up u k c) k 1 = va_up u k 1 := fun c => by
    funext j
    by_cases hj : j = k
    · subst hj; rw [up_k, up_k]
    · rw [up_n hj, up_n hj, up_n hj]
  have e1 : ∀ s, wt (va_up u k 1) (zz (va_up u k 1) (va_up w k 1)) n s = (if s.testBit k = true then 1 else 0) * wt (va_up u k 1) (va_up (zz u w) k 1) n s := fun s => by
    rw [wt_k hk, hz1, hu, up_k]
    unfold zz
    rw [up_k, up_k]
  have e0 : ∀ s, wt (va_up u k 0) (zz (va_up u k 0) (va_up w k 1)) n s = (if s.testBit k = true then 0 else 1) * wt (va_up u k 1) (va_up (zz u w) k 1) n s := fun s => by
    rw [wt_k hk, hz0, hu, up_k]
    unfold zz
    rw [up_k, up_k]
  have e2 : ∀ s, wt u (zz u w) n s = (if s.testBit k = true then u k else w k - u k) * wt (va_up u k 1) (va_up (zz u w) k 1) n s := fun s => by rw [wt_k hk]; rfl
  have hR := fun s => wt_in (x := u) (z := zz u w) (k := k) (s := s) (n := n)
  have hA1 : sm (fun s => if rc s = true then wt (va_up u k 1) (zz (va_up u k 1) (va_up w k 1)) n s else 0) (2 ^ n) = sm (fun s => if s.testBit k = true then 0 else if rc (s ||| 2 ^ k) = true then wt (va_up u k 1) (va_up (zz u w) k 1) n s else 0) (2 ^ n) := by
    rw [sm_bit hk]
    refine sm_cong (fun s _ => ?_)
    by_cases hb : s.testBit k = true
    · rw [if_pos hb, if_pos hb]
    · rw [if_neg hb, if_neg hb, e1, e1, if_neg hb, or_bit_k, if_pos rfl, hR]
      simp
  have hA0 : sm (fun s => if rc s = true then wt (va_up u k 0) (zz (va_up u k 0) (va_up w k 1)) n s else 0) (2 ^ n) = sm (fun s => if s.testBit k = true then 0 else if rc s = true then wt (va_up u k 1) (va_up (zz u w) k 1) n s else 0) (2 ^ n) := by
    rw [sm_bit hk]
    refine sm_cong (fun s _ => ?_)
    by_cases hb : s.testBit k = true
    · rw [if_pos hb, if_pos hb]
    · rw [if_neg hb, if_neg hb, e0, e0, if_neg hb, or_bit_k, if_pos rfl]
      simp
  have hG : sm (fun s => if s.testBit k = true then 0 else if rc s = true then 0 else if rc (s ||| 2 ^ k) = true then wt u (zz u w) n s + wt u (zz u w) n (s ||| 2 ^ k) else 0) (2 ^ n) = w k * sm (fun s => if s.testBit k = true then 0 else if rc s = true then 0 else if rc (s ||| 2 ^ k) = true then wt (va_up u k 1) (va_up (zz u w) k 1) n s else 0) (2 ^ n) := by
    rw [← sm_mul]
    refine sm_cong (fun s _ => ?_)
    by_cases hb : s.testBit k = true
    · rw [if_pos hb, if_pos hb]; rfl
    · rw [if_neg hb, if_neg hb, e2, e2, if_neg hb, or_bit_k, if_pos rfl, hR, ← Nat.add_mul]
      have := (hW.2 k hk).1
      rw [show w k - u k + u k = w k by omega]
      split
      · rfl
      · split <;> rfl
  have hsum : sm (fun s => if s.testBit k = true then 0 else if rc (s ||| 2 ^ k) = true then wt (va_up u k 1) (va_up (zz u w) k 1) n s else 0) (2 ^ n) = sm (fun s => if s.testBit k = true then 0 else if rc s = true then wt (va_up u k 1) (va_up (zz u w) k 1) n s else 0) (2 ^ n) + sm (fun s => if s.testBit k = true then 0 else if rc s = true then 0 else if rc (s ||| 2 ^ k) = true then wt (va_up u k 1) (va_up (zz u w) k 1) n s else 0) (2 ^ n) := by
    rw [← sm_add]
    refine sm_cong (fun s _ => ?_)
    by_cases hb : s.testBit k = true
    · simp only [if_pos hb]
    · simp only [if_neg hb]
      by_cases hr : rc s = true
      · rw [if_pos hr, if_pos hr, if_pos (mono s hr), Nat.add_zero]
      · rw [if_neg hr, if_neg hr, Nat.zero_add]
  rw [hA1, hA0, hG, hsum]
  exact ⟨by rw [Nat.add_sub_cancel_left], Nat.le_add_right _ _⟩
theorem fr_mul {c a b : Nat} {x : Int32} (hc : 0 < c) : fr (c * a) (c * b) x = fr a b x := by
  unfold fr
  rw [Nat.gcd_mul_left]
  split <;> exact Nat.mul_div_mul_left _ _ hc
theorem pr_k {w : Nat → Nat} {n k : Nat} (hk : k < n) : pr w PA n = w k * pr (va_up w k 1) PA n := by
  rw [pr_take hk rfl, pr_take (y := va_up w k 1) hk rfl, up_k, Nat.one_mul]
  congr 1
  exact pr_cong (fun _ _ => rfl) (fun j _ hj => (up_n (wi_t hj).2).symm)
theorem okW_1 {n k c : Nat} {u w : Nat → Nat} (hW : okW n u w) (hc : c ≤ 1) : okW n (va_up u k c) (va_up w k 1) := ⟨hW.1, fun j hj => by
  by_cases h : j = k
  · subst h; rw [up_k, up_k]; omega
  · rw [up_n h, up_n h]; exact hW.2 j hj⟩
section WO
variable {b t : ST} {D : ND}
/-- reach as a sum, above one whole -/
def RS (D : ND) (u w : Nat → Nat) : Nat := sm (fun s => if rch D s = true then wt u (zz u w) (dL D) s else 0) (2 ^ dL D)
theorem RS_lt {u w : Nat → Nat} (hW : okW (dL D) u w) : RS D u w ≤ 3486784401 := Nat.le_trans (okW_le hW) (okW_pr hW).2
/-- a link's worth, above the whole of the others -/
def WA (D : ND) (k : Nat) : Nat := RS D (va_up (uP D) k 1) (va_up (wP D) k 1) - RS D (va_up (uP D) k 0) (va_up (wP D) k 1)
def WB (D : ND) (k : Nat) : Nat := pr (va_up (wP D) k 1) PA (dL D)
theorem rch_mono {s k : Nat} (h : rch D s = true) : rch D (s ||| 2 ^ k) = true := by
  unfold rch at *
  refine cn_imp (fun e he => ?_) h
  obtain ⟨j, h1, h2, rfl⟩ := ED_mem.mp he
  exact lab_link (e := (dA D j, dE D j)) (ED_mem.mpr ⟨j, h1, by rw [Nat.testBit_or, h2]; rfl, rfl⟩)
theorem WA_eq (hD : okD D) {k : Nat} (hk : k < dL D) : sm (fun s => if s.testBit k = true then 0 else if rch D s = true then 0 else if rch D (s ||| 2 ^ k) = true then wt (uP D) (zz (uP D) (wP D)) (dL D) s + wt (uP D) (zz (uP D) (wP D)) (dL D) (s ||| 2 ^ k) else 0) (2 ^ dL D) = wP D k * WA D k ∧ RS D (va_up (uP D) k 0) (va_up (wP D) k 1) ≤ RS D (va_up (uP D) k 1) (va_up (wP D) k 1) := worth_eq (okW_D hD) hk (fun s h => rch_mono h)
theorem WA_le (hD : okD D) {k : Nat} : WA D k ≤ WB D k := Nat.le_trans (Nat.sub_le _ _) (okW_le (okW_1 (okW_D hD) (Nat.le_refl 1)))
theorem WB_pos (hD : okD D) {k : Nat} : 0 < WB D k ∧ WB D k ≤ 3486784401 := okW_pr (okW_1 (k := k) (okW_D hD) (Nat.le_refl 1))
theorem wparts_e (hC : repC b D) (hJ : jnC b D) (hD : okD D) (hP : PRT b D (uP D) (wP D)) {k : Nat} (hk : k < dL D) : m_X3_worthParts b (nI k) = some (lN (wP D k * WA D k)) := by
  have hL := hD.2.2.1
  have hp : 2 ^ dL D ≤ 2 ^ 10 := Nat.pow_le_pow_right (by decide) hL
  have hp0 := Nat.two_pow_pos (dL D)
  have hk2 : 2 ^ k < 2 ^ dL D := Nat.pow_lt_pow_right (by decide) hk
  unfold m_X3_worthParts
  rw [hl_k hC hD hk, Option.bind_some, if_neg (by decide)]
  simp only [lt]
  rw [shl_1 k (by omega), sum_loop (B := m_X3_worthParts_L22 (nI (2 ^ k)) b) (g := fun s => if s.testBit k = true then 0 else if rch D s = true then 0 else if rch D (s ||| 2 ^ k) = true then wt (uP D) (zz (uP D) (wP D)) (dL D) s + wt (uP D) (zz (uP D) (wP D)) (dL D) (s ||| 2 ^ k) else 0) (n := 2 ^ dL D) (by omega) (fun i a hi => ?_) (fun a => ?_)]
  · rw [(WA_eq hD hk).1]
    rfl
  · have ho : (i ||| 2 ^ k) < 2 ^ dL D := or_lt hi hk2
    unfold m_X3_worthParts_L22
    simp only [un, lt]
    rw [al_e hC hD, Option.bind_some, if_neg (by rw [all_end hC hD (by omega)]; omega), fa_or, if_neg (by rw [qle_1024 (by omega)]; omega)]
    simp only [fa_bit (n := i) (j := k) (by omega)]
    cases hb : i.testBit k
    · rw [if_pos rfl, re_e hC hJ hD hi, re_e hC hJ hD ho]
      simp only [Option.bind_some, bz_if, gd_in (i := i) (N := 1024) (by omega) (by omega), gd_i2 (i := i) (N := 1024) (by omega) (by omega), nI_clamp (n := i) (by omega), gd_in (i := i ||| 2 ^ k) (N := 1024) (by omega) (by omega), gd_i2 (i := i ||| 2 ^ k) (N := 1024) (by omega) (by omega), nI_clamp (n := i ||| 2 ^ k) (by omega), hP.2 i hi, hP.2 _ ho, lN_add, nI_1]
      split
      · rfl
      · split <;> rfl
    · rw [if_neg (by decide), nI_1]
      rfl
  · unfold m_X3_worthParts_L22
    simp only [un]
    rw [al_e hC hD, Option.bind_some, if_pos (by rw [all_end hC hD (by omega)])]
/-! the acts -/
/-- the sum for two stations -/
def PS (D : ND) (v c : Nat) : Nat := sm (fun s => if (mk (EDD D s) v).testBit c = true then wt (uP D) (zz (uP D) (wP D)) (dL D) s else 0) (2 ^ dL D)
theorem PS_lt (hD : okD D) {v c : Nat} : PS D v c ≤ pr (wP D) PA (dL D) ∧ PS D v c ≤ 3486784401 := ⟨okW_le (f := fun s => (mk (EDD D s) v).testBit c) (okW_D hD), Nat.le_trans (okW_le (f := fun s => (mk (EDD D s) v).testBit c) (okW_D hD)) (okW_pr (okW_D hD)).2⟩
/-! as a rule -/
theorem sm_bits {W x : Nat} : ∀ n, sm (fun v => if x.testBit v = true then W else 0) n = W * fa_cnt (fun i => x.testBit i) n
  | 0 => rfl
  | n + 1 => by
    show sm _ n + (if x.testBit n = true then W else 0) = W * (fa_cnt (fun i => x.testBit i) n + if x.testBit n = true then 1 else 0)
    rw [sm_bits n, Nat.mul_add]
    split <;> simp
theorem cnt_more {p : Nat → Bool} {n : Nat} : ∀ m, (∀ i, n ≤ i → p i = false) → fa_cnt p (n + m) = fa_cnt p n
  | 0, _ => rfl
  | m + 1, h => by
    show fa_cnt p (n + m) + (if p (n + m) = true then 1 else 0) = _
    rw [cnt_more m h, h (n + m) (by omega)]
    rfl
theorem mk_N (hD : okD D) {s v : Nat} (hv : dN D ≤ v) (hS : (mk (EDD D s) (dS D)).testBit v = true) : False := by
  have hS2 := hD.2.2.2.1
  have h7 : v < 7 := by
    rcases Nat.lt_or_ge v 7 with q | q
    · exact q
    · rw [bit_ge (n := 7) (mk_lt _ _) q] at hS; cases hS
  have h1 := lab_least (fun y => decide (y = v)) (E := EDD D s) (fun e he => by
    obtain ⟨k, h1, h2, rfl⟩ := ED_mem.mp he
    obtain ⟨g1, g2, -⟩ := hD.2.2.2.2.2 k h1
    show decide (dA D k = v) = decide (dE D k = v)
    rw [decide_eq_false (by omega), decide_eq_false (by omega)]) (dS D) v ((mk_jn h7).mp hS)
  have h1 : decide (dS D = v) = decide (v = v) := h1
  rw [decide_eq_false (by omega), decide_eq_true rfl] at h1
  cases h1
theorem pc_N (hD : okD D) (s : Nat) : pc (mk (EDD D s) (dS D)) = fa_cnt (fun i => (mk (EDD D s) (dS D)).testBit i) (dN D) := by
  have hN := hD.2.1
  unfold pc
  obtain ⟨m, hm⟩ : ∃ m, 10 = dN D + m := ⟨10 - dN D, by omega⟩
  rw [hm]
  refine cnt_more m (fun i hi => ?_)
  cases hq : (mk (EDD D s) (dS D)).testBit i
  · rfl
  · exact absurd (mk_N hD hi hq) id
/-- the sum of all stations' chances -/
def QS (D : ND) : Nat := sm (fun v => PS D (dS D) v) (dN D)
theorem QS_eq (hD : okD D) : sm (fun s => wt (uP D) (zz (uP D) (wP D)) (dL D) s * pc (mk (EDD D s) (dS D))) (2 ^ dL D) = QS D := by
  unfold QS PS
  have h := sm_comm (fun v s => if (mk (EDD D s) (dS D)).testBit v = true then wt (uP D) (zz (uP D) (wP D)) (dL D) s else 0) (2 ^ dL D) (dN D)
  rw [h]
  refine sm_cong (fun s _ => ?_)
  rw [sm_bits, pc_N hD]
theorem QS_lt (hD : okD D) : QS D ≤ 7 * 3486784401 := by
  have hN := hD.2.1
  have h1 : QS D ≤ sm (fun _ => 3486784401) (dN D) := sm_le (fun v _ => (PS_lt hD).2)
  have h2 : ∀ n, sm (fun _ => 3486784401) n = n * 3486784401 := fun n => by
    induction n with
    | zero => rfl
    | succ n ih => show sm _ n + 3486784401 = _; rw [ih, Nat.succ_mul]
  rw [h2] at h1
  exact Nat.le_trans h1 (Nat.mul_le_mul_right _ hN)
/-! worthiest -/
def gtr (D : ND) (o : Option Nat) (k : Nat) : Bool := match o with
  | none => true
  | some j => decide (wP D j * WA D j < wP D k * WA D k)
/-- the best of the first n links, so far -/
def am (D : ND) : Nat → Option Nat
  | 0 => none
  | k + 1 => if dV D k = 0 ∧ gtr D (am D k) k = true then some k else am D k
def amI (o : Option Nat) : Int32 := match o with
  | none => -1
  | some j => nI j
def amV (D : ND) (o : Option Nat) : Int64 := match o with
  | none => -1
  | some j => lN (wP D j * WA D j)
theorem am_lt : ∀ {n j}, am D n = some j → j < n
  | 0, j, h => by cases h
  | n + 1, j, h => by
    unfold am at h
    split at h
    · cases h; omega
    · have := am_lt h; omega
theorem am_step {k : Nat} : am D (k + 1) = if dV D k = 0 ∧ gtr D (am D k) k = true then some k else am D k := rfl
theorem wl_e (hC : repC b D) (hJ : jnC b D) (hD : okD D) (hP : PRT b D (uP D) (wP D)) : m_X3_worthiestLink b = some (amI (am D (dL D))) := by
  have hL := hD.2.2.1
  unfold m_X3_worthiestLink
  have hl : vLoop (m_X3_worthiestLink_L9 b) FUEL ((-1 : Int32), (-1 : Int64), (0 : Int32)) = some (amI (am D (dL D))) := by
    refine vl_F (fun k => (amI (am D k), amV D (am D k), nI k)) 0 (dL D) (by omega) (by omega) (fun k _ hk => ?_) ?_
    · obtain ⟨-, -, -, -, -, hv⟩ := hD.2.2.2.2.2 k hk
      obtain ⟨w1, w2, w3⟩ := uP_le hD hk
      have h6 : wP D k * WA D k ≤ 9 * 3486784401 := Nat.mul_le_mul w3 (Nat.le_trans (WA_le hD) (WB_pos hD (k := k)).2)
      have hlc : m_X2_linkCount b = some (nI (dL D)) := congrArg some hC.2.1
      unfold m_X3_worthiestLink_L9
      simp only [un, lt]
      rw [hlc, Option.bind_some, if_neg (by rw [qle (by omega) (by omega)]; omega), se_e hC hD hk, Option.bind_some, am_step]
      by_cases h0 : dV D k = 0
      · rw [if_pos (by rw [qeq_0 (by omega)]; exact h0), wparts_e hC hJ hD hP hk, Option.bind_some]
        simp only [lg_cmp_gt, h0, true_and, nI_1]
        cases ha : am D k with
        | none =>
          rw [if_pos (by show (-1 : Int64) < _; rw [fa_lt64, pk_lT (by omega), show (-1 : Int64).toInt = -1 from by decide]; omega)]
          rfl
        | some j =>
          have hj := am_lt ha
          obtain ⟨w1, w2, w3⟩ := uP_le hD (show j < dL D by omega)
          have h7 : wP D j * WA D j ≤ 9 * 3486784401 := Nat.mul_le_mul w3 (Nat.le_trans (WA_le hD) (WB_pos hD (k := j)).2)
          have hc : (amV D (some j) < lN (wP D k * WA D k)) = (wP D j * WA D j < wP D k * WA D k) := propext (pk_lLT (by omega) (by omega))
          simp only [hc, gtr, decide_eq_true_eq]
          split <;> rfl
      · rw [if_neg (by rw [qeq_0 (by omega)]; exact h0), if_neg (fun q => h0 q.1), nI_1]
    · have hlc : m_X2_linkCount b = some (nI (dL D)) := congrArg some hC.2.1
      unfold m_X3_worthiestLink_L9
      simp only [un]
      rw [hlc, Option.bind_some, if_pos (by rw [qle (by omega) (by omega)]; omega)]
  rw [hl]
  rfl
end WO
