/-! all alike; a link more -/
section FL
variable {D : ND}
theorem cnt_pc (hL : dL D ≤ 10) {s : Nat} (hs : s < 2 ^ dL D) : pc s = fa_cnt (fun i => s.testBit i) (dL D) := by
  unfold pc
  obtain ⟨m, hm⟩ : ∃ m, 10 = dL D + m := ⟨10 - dL D, by omega⟩
  rw [hm]
  exact cnt_more m (fun i hi => bit_ge hs hi)
theorem wt_const {x z : Nat → Nat} {a c s : Nat} : ∀ {n : Nat}, (∀ k, k < n → x k = a ∧ z k = c) → wt x z n s = a ^ fa_cnt (fun i => s.testBit i) n * c ^ (n - fa_cnt (fun i => s.testBit i) n)
  | 0, _ => rfl
  | n + 1, h => by
    have ih := wt_const (s := s) (n := n) (fun k hk => h k (by omega))
    have hc := fa_cnt_le (fun i => s.testBit i) n
    have h1 := h n (by omega)
    show (if s.testBit n = true then x n else z n) * wt x z n s = a ^ (fa_cnt (fun i => s.testBit i) n + if s.testBit n = true then 1 else 0) * c ^ (n + 1 - (fa_cnt (fun i => s.testBit i) n + if s.testBit n = true then 1 else 0))
    rw [ih]
    generalize fa_cnt (fun i => s.testBit i) n = m at hc ⊢
    by_cases hb : s.testBit n = true
    · rw [if_pos hb, if_pos hb, h1.1, show n + 1 - (m + 1) = n - m by omega, Nat.pow_succ]
      rw [Nat.mul_comm (a ^ m) a, Nat.mul_assoc]
    · rw [if_neg hb, if_neg hb, h1.2, Nat.add_zero, show n + 1 - m = (n - m) + 1 by omega, Nat.pow_succ]
      rw [Nat.mul_left_comm, Nat.mul_comm c]
/-- by how many are up, or one by one -/
theorem sm_pick {f : Nat → Nat} {m : Nat} : ∀ {n : Nat}, m < n → sm (fun k => if m = k then f k else 0) n = f m
  | 0, h => by omega
  | n + 1, h => by
    show sm _ n + (if m = n then f n else 0) = f m
    by_cases hm : m = n
    · subst hm
      rw [if_pos rfl, sm_zero (fun j hj => if_neg (by omega)), Nat.zero_add]
    · rw [if_neg hm, sm_pick (n := n) (by omega), Nat.add_zero]
theorem by_size (hD : okD D) (f : Nat → Nat) : sm (fun k => SC D k * f k) (dL D + 1) = sm (fun s => if rch D s = true then f (pc s) else 0) (2 ^ dL D) := by
  have h1 : ∀ k, SC D k * f k = sm (fun s => if pc s = k ∧ rch D s = true then f k else 0) (2 ^ dL D) := fun k => by
    unfold SC
    rw [Nat.mul_comm, ← sm_mul]
    refine sm_cong (fun s _ => ?_)
    split
    · exact Nat.mul_one _
    · rfl
  rw [sm_cong (fun k _ => h1 k), sm_comm (fun k s => if pc s = k ∧ rch D s = true then f k else 0)]
  refine sm_cong (fun s hs => ?_)
  by_cases hr : rch D s = true
  · rw [if_pos hr]
    have hp := pc_le hD hs
    rw [← sm_pick (f := f) (m := pc s) (n := dL D + 1) (by omega)]
    refine sm_cong (fun k _ => ?_)
    by_cases hk : pc s = k
    · rw [if_pos ⟨hk, hr⟩, if_pos hk]
    · rw [if_neg (fun q => hk q.1), if_neg hk]
  · rw [if_neg hr]
    exact sm_zero (fun k _ => if_neg (fun q => hr q.2))
theorem pr_const {y : Nat → Nat} {c : Nat} : ∀ {n : Nat}, (∀ k, k < n → y k = c) → pr y PA n = c ^ n
  | 0, _ => rfl
  | n + 1, h => by
    unfold pr
    rw [if_pos rfl, pr_const (n := n) (fun k hk => h k (by omega)), h n (by omega), Nat.pow_succ, Nat.mul_comm]
theorem p9_MX {n x : Nat} (hn : n ≤ 10) (h : x ≤ 9 ^ n) : x ≤ MX := by
  have := p9_10 hn
  unfold MX
  omega
theorem ck_le {n : Nat} (h : n ≤ MX) : ck n = some n := if_pos h
theorem pw_e {v : Nat} (hv : v ≤ 9) : ∀ {n : Nat}, n ≤ 10 → pw v n = some (v ^ n)
  | 0, _ => rfl
  | n + 1, h => by
    show tm (pw v n) (some v) = _
    rw [pw_e hv (by omega)]
    show ck (v ^ n * v) = _
    rw [← Nat.pow_succ]
    exact ck_le (p9_MX h (Nat.pow_le_pow_left hv _))
/-- every link has the chance a by c, none is seen -/
def alk (D : ND) (a c : Nat) : Prop := ∀ k, k < dL D → dP D k = a ∧ dQ D k = c ∧ dV D k = 0
theorem alk_u {a c : Nat} (h : alk D a c) {k : Nat} (hk : k < dL D) : uP D k = a ∧ wP D k = c := by
  obtain ⟨h1, h2, h3⟩ := h k hk
  unfold uP wP
  rw [if_pos h3, if_pos h3]
  exact ⟨h1, h2⟩
theorem TT_alk {a c : Nat} (h : alk D a c) : TT D = c ^ dL D := pr_const (fun k hk => (alk_u h hk).2)
theorem RR_alk (hD : okD D) {a c : Nat} (h : alk D a c) : RR D = sm (fun k => SC D k * (a ^ k * (c - a) ^ (dL D - k))) (dL D + 1) := by
  rw [by_size hD]
  unfold RR RS
  refine sm_cong (fun s hs => ?_)
  by_cases hr : rch D s = true
  · rw [if_pos hr, if_pos hr, wt_const (a := a) (c := c - a) (fun k hk => ⟨(alk_u h hk).1, by unfold zz; rw [(alk_u h hk).1, (alk_u h hk).2]⟩), cnt_pc hD.2.2.1 hs]
  · rw [if_neg hr, if_neg hr]
theorem sm_mono {f : Nat → Nat} {m n : Nat} (h : m ≤ n) : sm f m ≤ sm f n := by
  obtain ⟨k, rfl⟩ : ∃ k, n = m + k := ⟨n - m, by omega⟩
  rw [sm_split]
  exact Nat.le_add_right _ _
theorem lk_alk (hD : okD D) {a c : Nat} (h : alk D a c) (hac : a ≤ c) (hc : c ≤ 9) : ∀ k, k ≤ dL D + 1 → lk D a (c - a) k = some (sm (fun k => SC D k * (a ^ k * (c - a) ^ (dL D - k))) k)
  | 0, _ => rfl
  | k + 1, hk => by
    have hL := hD.2.2.1
    have hT : RR D ≤ 3486784401 := Nat.le_trans (RR_le hD) (TT_pos hD).2
    have h1 := sm_mono (f := fun k => SC D k * (a ^ k * (c - a) ^ (dL D - k))) hk
    rw [← RR_alk hD h] at h1
    have h1 : sm (fun k => SC D k * (a ^ k * (c - a) ^ (dL D - k))) k + SC D k * (a ^ k * (c - a) ^ (dL D - k)) ≤ RR D := h1
    have hm1 : SC D k * a ^ k ≤ MX := by
      have h2 := SC_MX D hD k
      have h3 : a ^ k ≤ 3486784401 := Nat.le_trans (Nat.pow_le_pow_left (show a ≤ 9 by omega) k) (p9_10 (by omega))
      have h4 := Nat.mul_le_mul h2 h3
      unfold MX
      omega
    show pl (lk D a (c - a) k) (tm (tm (some (SC D k)) (pw a k)) (pw (c - a) (dL D - k))) = _
    rw [lk_alk hD h hac hc k (by omega), pw_e (by omega) (by omega), pw_e (by omega) (by omega)]
    show pl _ (tm (ck (SC D k * a ^ k)) _) = _
    rw [ck_le hm1]
    show pl _ (ck (SC D k * a ^ k * (c - a) ^ (dL D - k))) = _
    have hX : SC D k * (a ^ k * (c - a) ^ (dL D - k)) ≤ MX := Nat.le_trans (Nat.le_trans (Nat.le_add_left _ _) h1) (by unfold MX; omega)
    have hY : sm (fun k => SC D k * (a ^ k * (c - a) ^ (dL D - k))) k + SC D k * (a ^ k * (c - a) ^ (dL D - k)) ≤ MX := Nat.le_trans h1 (by unfold MX; omega)
    rw [Nat.mul_assoc, ck_le hX]
    exact ck_le hY
theorem lkT_alk (hD : okD D) {a c : Nat} (h : alk D a c) (hac : a ≤ c) (hc : c ≤ 9) (x : Int32) : lkT D a c x = lN (if x = 0 then RR D else TT D) := by
  have h1 : lkR D a c x = some (if x = 0 then RR D else TT D) := by
    unfold lkR
    rw [lk_alk hD h hac hc _ (Nat.le_refl _), pw_e hc hD.2.2.1, ← RR_alk hD h, ← TT_alk h]
    rfl
  unfold lkT
  rw [h1]
/-- how many sets reach -/
def NR (D : ND) : Nat := sm (fun s => if rch D s = true then 1 else 0) (2 ^ dL D)
theorem NR_sum (hD : okD D) : sm (fun k => SC D k) (dL D + 1) = NR D := by
  have h := by_size hD (fun _ => 1)
  simp only [Nat.mul_one] at h
  exact h
theorem NR_le (hD : okD D) : NR D ≤ 1024 := by
  have h1 : NR D ≤ 2 ^ dL D := sm_1 (fun i _ => by split <;> omega)
  exact Nat.le_trans h1 (Nat.pow_le_pow_right (by decide) hD.2.2.1)
theorem SC_sum_le (hD : okD D) {k : Nat} (hk : k ≤ dL D + 1) : sm (fun k => SC D k) k ≤ 1024 := Nat.le_trans (sm_mono hk) (by rw [NR_sum hD]; exact NR_le hD)
theorem NR_more {a e p q : Nat} : 2 * NR D ≤ NR (dAdd D a e p q) := by
  have hup : ∀ (f : Nat → Nat) (v k : Nat), k < dL D → f k = va_up f (dL D) v k := fun f v k hk => by unfold va_up; rw [if_neg (by omega)]
  have hed : ∀ s r, s < 2 ^ dL D → (∀ k, k < dL D → s.testBit k = r.testBit k) → ED (dA D) (dE D) (dL D) s = ED (dA (dAdd D a e p q)) (dE (dAdd D a e p q)) (dL D) r := fun s r _ hr => ED_cong hr (fun k hk => ⟨hup (dA D) a k hk, hup (dE D) e k hk⟩)
  have h0 : ∀ s, s < 2 ^ dL D → rch D s = true → rch (dAdd D a e p q) s = true := fun s hs hr => by
    have he : EDD (dAdd D a e p q) s = EDD D s := by
      show ED (dA (dAdd D a e p q)) (dE (dAdd D a e p q)) (dL D + 1) s = _
      rw [ED_dn hs]
      exact (hed s s hs (fun _ _ => rfl)).symm
    unfold rch at hr ⊢
    rw [he]
    exact hr
  have h1 : ∀ s, s < 2 ^ dL D → rch D s = true → rch (dAdd D a e p q) (2 ^ dL D + s) = true := fun s hs hr => by
    unfold rch at hr ⊢
    refine cn_imp (fun d hd => ?_) hr
    have hd : d ∈ ED (dA D) (dE D) (dL D) s := hd
    rw [hed s (2 ^ dL D + s) hs (fun k hk => (bit_low hk).symm)] at hd
    refine lab_link ?_
    show d ∈ ED (dA (dAdd D a e p q)) (dE (dAdd D a e p q)) (dL D + 1) (2 ^ dL D + s)
    obtain ⟨k, k1, k2, k3⟩ := ED_mem.mp hd
    exact ED_mem.mpr ⟨k, by omega, k2, k3⟩
  have hs : NR (dAdd D a e p q) = sm (fun s => if rch (dAdd D a e p q) s = true then 1 else 0) (2 ^ dL D + 2 ^ dL D) := by
    unfold NR
    rw [show 2 ^ dL (dAdd D a e p q) = 2 ^ dL D + 2 ^ dL D from by show 2 ^ (dL D + 1) = _; omega]
  rw [hs, sm_split, Nat.two_mul]
  unfold NR
  refine Nat.add_le_add (sm_le (fun s hs => ?_)) (sm_le (fun s hs => ?_))
  · by_cases hr : rch D s = true
    · rw [if_pos hr, if_pos (h0 s hs hr)]; exact Nat.le_refl 1
    · rw [if_neg hr]; exact Nat.zero_le _
  · by_cases hr : rch D s = true
    · rw [if_pos hr, if_pos (h1 s hs hr)]; exact Nat.le_refl 1
    · rw [if_neg hr]; exact Nat.zero_le _
end FL
