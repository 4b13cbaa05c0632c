/-! a link up, a link down: the law's splits -/
section SP
variable {b : ST} {D : ND}
theorem dSee_2 (D : ND) (k a c : Nat) : dSee (dSee D k a) k c = dSee D k c := by
  show ((dN D, dL D, dS D, dG D), dA D, dE D, dP D, dQ D, va_up (va_up (dV D) k a) k c) = _
  rw [up_up2]
  rfl
theorem dSee_s (D : ND) (k : Nat) : dSee D k (dV D k) = D := by
  show ((dN D, dL D, dS D, dG D), dA D, dE D, dP D, dQ D, va_up (dV D) k (dV D k)) = _
  rw [up_same]
  rfl
theorem see_v (D : ND) (k n : Nat) : dV (dSee D k n) k = n := up_k
theorem see_0 (D : ND) (k : Nat) : uP (dSee D k 0) = va_up (uP D) k (dP D k) ∧ wP (dSee D k 0) = va_up (wP D) k (dQ D k) := by
  constructor
  · funext j
    show (if va_up (dV D) k 0 j = 0 then dP D j else if va_up (dV D) k 0 j = 1 then 1 else 0) = _
    by_cases h : j = k
    · subst h; rw [up_k, up_k]; rfl
    · rw [up_n h, up_n h]; rfl
  · funext j
    show (if va_up (dV D) k 0 j = 0 then dQ D j else 1) = _
    by_cases h : j = k
    · subst h; rw [up_k, up_k]; rfl
    · rw [up_n h, up_n h]; rfl
theorem see_1 (D : ND) (k : Nat) : uP (dSee D k 1) = va_up (uP D) k 1 ∧ wP (dSee D k 1) = va_up (wP D) k 1 := by
  constructor
  · funext j
    show (if va_up (dV D) k 1 j = 0 then dP D j else if va_up (dV D) k 1 j = 1 then 1 else 0) = _
    by_cases h : j = k
    · subst h; rw [up_k, up_k]; rfl
    · rw [up_n h, up_n h]; rfl
  · funext j
    show (if va_up (dV D) k 1 j = 0 then dQ D j else 1) = _
    by_cases h : j = k
    · subst h; rw [up_k, up_k]; rfl
    · rw [up_n h, up_n h]; rfl
theorem see_2 (D : ND) (k : Nat) : uP (dSee D k 2) = va_up (uP D) k 0 ∧ wP (dSee D k 2) = va_up (wP D) k 1 := by
  constructor
  · funext j
    show (if va_up (dV D) k 2 j = 0 then dP D j else if va_up (dV D) k 2 j = 1 then 1 else 0) = _
    by_cases h : j = k
    · subst h; rw [up_k, up_k]; rfl
    · rw [up_n h, up_n h]; rfl
  · funext j
    show (if va_up (dV D) k 2 j = 0 then dQ D j else 1) = _
    by_cases h : j = k
    · subst h; rw [up_k, up_k]; rfl
    · rw [up_n h, up_n h]; rfl
def R1 (D : ND) (k : Nat) : Nat := RS D (va_up (uP D) k 1) (va_up (wP D) k 1)
def R0 (D : ND) (k : Nat) : Nat := RS D (va_up (uP D) k 0) (va_up (wP D) k 1)
theorem rr_1 (D : ND) (k : Nat) : RR (dSee D k 1) = R1 D k ∧ TT (dSee D k 1) = WB D k := by
  unfold RR TT R1
  rw [(see_1 D k).1, (see_1 D k).2]
  exact ⟨rfl, rfl⟩
theorem rr_2 (D : ND) (k : Nat) : RR (dSee D k 2) = R0 D k ∧ TT (dSee D k 2) = WB D k := by
  unfold RR TT R0
  rw [(see_2 D k).1, (see_2 D k).2]
  exact ⟨rfl, rfl⟩
theorem rr_0 {k : Nat} (hk : k < dL D) : RR (dSee D k 0) = dP D k * R1 D k + (dQ D k - dP D k) * R0 D k ∧ TT (dSee D k 0) = dQ D k * WB D k := by
  unfold RR TT R1 R0
  rw [(see_0 D k).1, (see_0 D k).2]
  constructor
  · show RS D (va_up (uP D) k (dP D k)) (va_up (wP D) k (dQ D k)) = _
    rw [RS_split hk, up_k, up_k, up_up2, up_up2, up_up2]
  · show pr (va_up (wP D) k (dQ D k)) PA (dL D) = _
    rw [pr_k hk, up_k, up_up2]
    rfl
theorem spl_num {p q A C T : Nat} (hq1 : 1 ≤ q) (hpq : p ≤ q) (hT : 0 < T) (hCA : C ≤ A) (hAT : A ≤ T) {c d e f M hi lo : Nat} (ec : c = fr A T 0) (ed : d = fr A T 1) (ee : e = fr C T 0) (ef : f = fr C T 1) (eM : M = d / Nat.gcd d f * f) (ehi : hi = M / d * c) (elo : lo = M / f * e) :
    0 < d ∧ d ≤ T ∧ 0 < f ∧ f ≤ T ∧ c ≤ d ∧ e ≤ f ∧ 0 < M ∧ M ≤ T ∧ lo ≤ hi ∧ hi ≤ M ∧ (∀ x, fr (p * A + (q - p) * C) (q * T) x = fr (p * hi + (q - p) * lo) (q * M) x) ∧ (∀ x, fr (A - C) T x = fr (hi - lo) M x) := by
  obtain ⟨a1, a2, a3⟩ := red_f (a := A) hT
  obtain ⟨c1, c2, c3⟩ := red_f (a := C) hT
  rw [← rA_fr A T] at a1
  rw [rA_fr] at ec ee
  rw [rB_fr] at ed ef
  rw [← ed] at a1 a2 a3
  rw [← ef] at c1 c2 c3
  rw [rA_fr, ← ec] at a1
  rw [← ee] at c1
  have hg : 0 < Nat.gcd d f := Nat.gcd_pos_of_pos_left f a3
  have hM : M = Nat.lcm d f := by
    rw [eM]
    obtain ⟨d1, hd1⟩ := Nat.gcd_dvd_left d f
    have e1 : d / Nat.gcd d f = d1 := by
      have := Nat.mul_div_cancel_left d1 hg
      rw [← hd1] at this; exact this
    rw [e1]
    have h5 := Nat.gcd_mul_lcm d f
    refine Nat.eq_of_mul_eq_mul_left hg ?_
    rw [h5, ← Nat.mul_assoc, ← hd1]
  have hdM : d ∣ M := by rw [hM]; exact Nat.dvd_lcm_left d f
  have hfM : f ∣ M := by rw [hM]; exact Nat.dvd_lcm_right d f
  have hMT : M ∣ T := by rw [hM]; exact Nat.lcm_dvd a2 c2
  have hM0 : 0 < M := Nat.pos_of_dvd_of_pos hMT hT
  have h1 : hi * T = A * M := by
    obtain ⟨m, hm⟩ := hdM
    have e1 : M / d = m := by
      have := Nat.mul_div_cancel_left m a3
      rw [← hm] at this; exact this
    rw [ehi, e1, Nat.mul_assoc, a1, hm]
    ac_rfl
  have h2 : lo * T = C * M := by
    obtain ⟨m, hm⟩ := hfM
    have e1 : M / f = m := by
      have := Nat.mul_div_cancel_left m c3
      rw [← hm] at this; exact this
    rw [elo, e1, Nat.mul_assoc, c1, hm]
    ac_rfl
  have hlohi : lo ≤ hi := Nat.le_of_mul_le_mul_right (by rw [h1, h2]; exact Nat.mul_le_mul_right _ hCA) hT
  have hhiM : hi ≤ M := Nat.le_of_mul_le_mul_right (by rw [h1, Nat.mul_comm M]; exact Nat.mul_le_mul_right _ hAT) hT
  have hcd : c ≤ d := Nat.le_of_mul_le_mul_right (by rw [a1, Nat.mul_comm d]; exact Nat.mul_le_mul_right _ hAT) hT
  have hef : e ≤ f := Nat.le_of_mul_le_mul_right (by rw [c1, Nat.mul_comm f]; exact Nat.mul_le_mul_right _ (Nat.le_trans hCA hAT)) hT
  have hall : (p * A + (q - p) * C) * (q * M) = (p * hi + (q - p) * lo) * (q * T) := by
    have e1 : p * A * (q * M) = p * hi * (q * T) := by
      have : p * A * (q * M) = p * q * (A * M) := by ac_rfl
      rw [this, ← h1]
      ac_rfl
    have e2 : (q - p) * C * (q * M) = (q - p) * lo * (q * T) := by
      have : (q - p) * C * (q * M) = (q - p) * q * (C * M) := by ac_rfl
      rw [this, ← h2]
      ac_rfl
    rw [Nat.add_mul, Nat.add_mul, e1, e2]
  have hdif : (A - C) * M = (hi - lo) * T := by rw [Nat.sub_mul, Nat.sub_mul, h1, h2]
  have r1 := red_eq (Nat.mul_pos hq1 hT) (Nat.mul_pos hq1 hM0) hall
  have r2 := red_eq hT hM0 hdif
  refine ⟨a3, Nat.le_of_dvd hT a2, c3, Nat.le_of_dvd hT c2, hcd, hef, hM0, Nat.le_of_dvd hT hMT, hlohi, hhiM, fun x => ?_, fun x => ?_⟩
  · unfold fr
    split
    · exact r1.1
    · exact r1.2
  · unfold fr
    split
    · exact r2.1
    · exact r2.2
end SP
