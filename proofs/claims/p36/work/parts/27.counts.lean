/-! sets counted by how many links are up; the chance when all are alike; least cut and way -/
def SC (D : ND) (k : Nat) : Nat := sm (fun s => if pc s = k ∧ rch D s = true then 1 else 0) (2 ^ dL D)
theorem sm_1 {f : Nat → Nat} {n : Nat} (h : ∀ i, i < n → f i ≤ 1) : sm f n ≤ n := by
  induction n with
  | zero => exact Nat.le_refl 0
  | succ n ih =>
    have h1 := ih (fun i hi => h i (by omega))
    have h2 := h n (by omega)
    show sm f n + f n ≤ n + 1
    omega
theorem SC_le (D : ND) (k n : Nat) : sm (fun s => if pc s = k ∧ rch D s = true then 1 else 0) n ≤ n := sm_1 (fun i _ => by split <;> omega)
section CO
variable {b t : ST} {D : ND}
theorem cfill_e (hC : repC b D) (hJ : jnC b D) (hD : okD D) : ∃ R, m_X5_fill b = some (wD b 5 R) ∧ ∀ k, k ≤ 10 → R k = nI (SC D k) := by
  have hL := hD.2.2.1
  have hp : 2 ^ dL D ≤ 2 ^ 10 := Nat.pow_le_pow_right (by decide) hL
  have hp0 := Nat.two_pow_pos (dL D)
  unfold m_X5_fill
  obtain ⟨e, he, R0, rfl, hR0⟩ := vl_totF (B := m_X5_fill_L2) (fun m st => ∃ i R, i ≤ 11 ∧ m = 11 - i ∧ st = (nI i, wD b 5 R) ∧ ∀ k, k < i → R k = 0) (fun e => ∃ R, e = wD b 5 R ∧ ∀ k, k < 11 → R k = 0) (by
    rintro m st ⟨i, R, hi, rfl, rfl, hR⟩
    unfold m_X5_fill_L2
    simp only [un, lt, qle_11 (i := i) (by omega)]
    by_cases h : i = 11
    · left; subst h; rw [if_pos (by omega)]; exact ⟨_, rfl, R, rfl, hR⟩
    · right
      rw [if_neg (by omega), gd_in (by omega) (by omega), nI_clamp (by omega), wA_wD, nI_1]
      refine ⟨_, rfl, 11 - (i + 1), by omega, i + 1, _, by omega, rfl, rfl, fun k hk => ?_⟩
      unfold upd
      split
      · rfl
      · exact hR k (by omega)) (i := 11 - 0) (s := ((0 : Int32), b)) (by omega) ⟨0, b.2.2.1 5, by omega, rfl, by rw [wD_self]; rfl, fun k hk => absurd hk (Nat.not_lt_zero k)⟩
  rw [he, Option.bind_some]
  obtain ⟨e, he, R, rfl, hR⟩ := vl_totF (B := m_X5_fill_L26) (fun m st => ∃ i R, i ≤ 2 ^ dL D ∧ m = 2 ^ dL D - i ∧ st = (nI i, wD b 5 R) ∧ ∀ k, k ≤ 10 → R k = nI (sm (fun s => if pc s = k ∧ rch D s = true then 1 else 0) i)) (fun e => ∃ R, e = wD b 5 R ∧ ∀ k, k ≤ 10 → R k = nI (SC D k)) (by
    rintro m st ⟨i, R, hi, rfl, rfl, hR⟩
    have hC2 : repC (wD b 5 R) D := hC
    have hJ2 : jnC (wD b 5 R) D := hJ
    unfold m_X5_fill_L26
    simp only [un, lt]
    rw [al_e hC2 hD, Option.bind_some]
    by_cases h : i = 2 ^ dL D
    · left; subst h; rw [if_pos (by rw [all_end hC2 hD (by omega)])]; exact ⟨_, rfl, R, rfl, hR⟩
    · right
      have hpc := pc_lt (x := i)
      rw [if_neg (by rw [all_end hC2 hD (by omega)]; omega), bc_e i (by omega), Option.bind_some, if_neg (by rw [qle_11 (by omega)]; omega), re_e hC2 hJ2 hD (by omega), Option.bind_some, bz_if, gd_in (by omega) (by omega), gd_in (by omega) (by omega), nI_clamp (by omega), wA_wD, nI_1]
      cases hr : rch D i
      · rw [if_neg (by decide)]
        refine ⟨_, rfl, 2 ^ dL D - (i + 1), by omega, i + 1, R, by omega, rfl, rfl, fun k hk => ?_⟩
        rw [hR k hk]
        show _ = nI (sm _ i + (if pc i = k ∧ rch D i = true then 1 else 0))
        rw [hr, if_neg (by simp), Nat.add_zero]
      · rw [if_pos rfl]
        refine ⟨_, rfl, 2 ^ dL D - (i + 1), by omega, i + 1, _, by omega, rfl, rfl, fun k hk => ?_⟩
        show upd R (pc i) ((wD b 5 R).2.2.1 5 (pc i) + 1) k = nI (sm _ i + (if pc i = k ∧ rch D i = true then 1 else 0))
        have hRR : (wD b 5 R).2.2.1 5 (pc i) = R (pc i) := rfl
        rw [hRR]
        unfold upd
        by_cases hkp : k = pc i
        · subst hkp
          rw [if_pos rfl, hR _ hk, if_pos ⟨rfl, hr⟩]
          exact nI_1 _
        · rw [if_neg hkp, if_neg (fun q => hkp q.1.symm), Nat.add_zero]; exact hR k hk) (i := 2 ^ dL D - 0) (s := ((0 : Int32), wD b 5 R0)) (by omega) ⟨0, R0, by omega, rfl, rfl, fun k hk => hR0 k (by omega)⟩
  rw [he, Option.bind_some]
  exact ⟨R, rfl, hR⟩
/-- the class's counts stand -/
def CNT (b : ST) (D : ND) : Prop := ∀ k, k ≤ 10 → b.2.2.1 5 k = nI (SC D k)
theorem of_e (hK : CNT b D) {k : Nat} (hk : k ≤ 10) : m_X5_ofSize b (nI k) = some (nI (SC D k)) := by
  unfold m_X5_ofSize
  rw [if_neg (nI_pos (by omega)), if_neg (by rw [qle_11 (by omega)]; omega), gd_in (by omega) (by omega), nI_clamp (by omega), hK k hk]
/-! numbers that may pass the greatest long -/
def MX : Nat := 9223372036854775807
def ck (n : Nat) : Option Nat := if n ≤ MX then some n else none
def enc (o : Option Nat) : Int64 := match o with
  | none => -1
  | some n => lN n
def okO (o : Option Nat) : Prop := ∀ n, o = some n → n ≤ MX
def tm (x y : Option Nat) : Option Nat := x.bind fun m => y.bind fun n => ck (m * n)
def pl (x y : Option Nat) : Option Nat := x.bind fun m => y.bind fun n => ck (m + n)
theorem ck_ok (n : Nat) : okO (ck n) := fun m h => by
  unfold ck at h
  split at h
  · cases h; assumption
  · cases h
theorem tm_ok (x y : Option Nat) : okO (tm x y) := by
  cases x with
  | none => intro n h; cases h
  | some m => cases y with
    | none => intro n h; cases h
    | some n => exact ck_ok _
theorem pl_ok (x y : Option Nat) : okO (pl x y) := by
  cases x with
  | none => intro n h; cases h
  | some m => cases y with
    | none => intro n h; cases h
    | some n => exact ck_ok _
theorem MX_lN : (9223372036854775807 : Int64) = lN MX := by decide
theorem le_div {x y : Nat} (hx : 0 < x) : y ≤ MX / x ↔ x * y ≤ MX := by rw [Nat.le_div_iff_mul_le hx, Nat.mul_comm]
theorem m1_lt : (-1 : Int64) < 0 := by decide
theorem lN_n {n : Nat} (h : n ≤ MX) : ¬ lN n < (0 : Int64) := fun q => by
  have := (pk_lLT (b := 0) (by unfold MX at h; omega) (by decide)).mp q
  omega
theorem times_e {x y : Option Nat} (hx : okO x) (hy : okO y) : m_X5_times (enc x) (enc y) = some (enc (tm x y)) := by
  unfold m_X5_times
  simp only [lg_cmp_lt, lg_cmp_ge, lg_cmp_le]
  cases x with
  | none => rw [if_pos (show enc none < 0 from m1_lt)]; rfl
  | some m =>
    have hm := hx m rfl
    rw [if_neg (show ¬ enc (some m) < 0 from lN_n hm)]
    cases y with
    | none => rw [if_neg (show ¬ (0 : Int64) ≤ enc none from by show ¬ (0 : Int64) ≤ -1; decide)]; rfl
    | some n =>
      have hn := hy n rfl
      have hm63 : m < 2 ^ 63 := by unfold MX at hm; omega
      have hn63 : n < 2 ^ 63 := by unfold MX at hn; omega
      rw [if_pos (show (0 : Int64) ≤ enc (some n) from (pk_lLE (a := 0) (by decide) hn63).mpr (Nat.zero_le n))]
      show (if lN m ≤ 0 then some (lN m * lN n) else gd (¬ lN m = 0) (if lN n ≤ 9223372036854775807 / lN m then some (lN m * lN n) else some (-1))) = some (enc (ck (m * n)))
      unfold ck
      rcases Nat.eq_zero_or_pos m with rfl | h0
      · rw [if_pos (by decide), lN_mul, Nat.zero_mul, if_pos (Nat.zero_le _)]; rfl
      · have hne := lN_n0 h0 hm63
        rw [if_neg (fun q => by have := (pk_lLE (b := 0) hm63 (by decide)).mp q; omega), gd_t hne, MX_lN, pk_lDiv (by decide) h0 hm63, lN_mul]
        have hd : MX / m < 2 ^ 63 := Nat.lt_of_le_of_lt (Nat.div_le_self _ _) (by decide)
        by_cases hc : m * n ≤ MX
        · rw [if_pos ((pk_lLE hn63 hd).mpr ((le_div h0).mpr hc)), if_pos hc]; rfl
        · rw [if_neg (fun q => hc ((le_div h0).mp ((pk_lLE hn63 hd).mp q))), if_neg hc]; rfl
theorem plus_e {x y : Option Nat} (hx : okO x) (hy : okO y) : m_X5_plus (enc x) (enc y) = some (enc (pl x y)) := by
  unfold m_X5_plus
  simp only [lg_cmp_lt, lg_cmp_le]
  cases x with
  | none => rw [if_pos (show enc none < 0 from m1_lt)]; rfl
  | some m =>
    have hm := hx m rfl
    rw [if_neg (show ¬ enc (some m) < 0 from lN_n hm)]
    cases y with
    | none => rw [if_pos (show enc none < 0 from m1_lt)]; rfl
    | some n =>
      have hn := hy n rfl
      have hm63 : m < 2 ^ 63 := by unfold MX at hm; omega
      rw [if_neg (show ¬ enc (some n) < 0 from lN_n hn)]
      show (if lN m ≤ 9223372036854775807 - lN n then some (lN m + lN n) else some (-1)) = some (enc (ck (m + n)))
      unfold ck
      rw [MX_lN, lN_sub hn, lN_add]
      have hd : MX - n < 2 ^ 63 := Nat.lt_of_le_of_lt (Nat.sub_le _ _) (by decide)
      by_cases hc : m + n ≤ MX
      · rw [if_pos ((pk_lLE hm63 hd).mpr (by omega)), if_pos hc]; rfl
      · rw [if_neg (fun q => by have := (pk_lLE hm63 hd).mp q; omega), if_neg hc]; rfl
def pw (v : Nat) : Nat → Option Nat
  | 0 => some 1
  | n + 1 => tm (pw v n) (some v)
theorem pw_ok (v : Nat) : ∀ n, okO (pw v n)
  | 0 => fun m h => by cases h; decide
  | n + 1 => tm_ok _ _
theorem power_e {v n : Nat} (hv : v ≤ MX) (hn : n ≤ 1000) : m_X5_power (lN v) (nI n) = some (enc (pw v n)) := by
  unfold m_X5_power
  have hl : vLoop (m_X5_power_L5 (lN v) (nI n)) FUEL ((1 : Int64), (0 : Int32)) = some (enc (pw v n)) := by
    refine vl_F (fun i => (enc (pw v i), nI i)) 0 n (by omega) (by omega) (fun i _ hi => ?_) ?_
    · unfold m_X5_power_L5
      simp only [un, lt]
      have h1 := times_e (pw_ok v i) (y := some v) (fun m h => by cases h; exact hv)
      rw [if_neg (by rw [qle (by omega) (by omega)]; omega), show lN v = enc (some v) from rfl, h1, Option.bind_some, nI_1]
      rfl
    · unfold m_X5_power_L5
      simp only [un]
      rw [if_pos (by rw [qle (by omega) (by omega)]; omega)]
  rw [hl, Option.bind_some]
/-- the sum so far -/
def lk (D : ND) (a c : Nat) : Nat → Option Nat
  | 0 => some 0
  | k + 1 => pl (lk D a c k) (tm (tm (some (SC D k)) (pw a k)) (pw c (dL D - k)))
theorem lk_ok (D : ND) (a c : Nat) : ∀ n, okO (lk D a c n)
  | 0 => fun m h => by cases h; exact Nat.zero_le _
  | n + 1 => pl_ok _ _
theorem SC_MX (D : ND) (hD : okD D) (k : Nat) : SC D k ≤ 1024 := Nat.le_trans (SC_le D k _) (Nat.le_trans (Nat.pow_le_pow_right (by decide) hD.2.2.1) (by decide))
/-- what like answers: above or below, or nothing -/
def lkR (D : ND) (a c : Nat) (w : Int32) : Option Nat := (lk D a (c - a) (dL D + 1)).bind fun s => (pw c (dL D)).bind fun d => some (if w = 0 then s else d)
theorem likeP_e (hC : repC b D) (hD : okD D) (hK : CNT b D) {a c : Nat} (hac : a ≤ c) (hc : c ≤ 99) (w : Int32) : m_X5_likeParts b (nI a) (nI c) w = some (enc (lkR D a c w)) := by
  have hL := hD.2.2.1
  have hlc : m_X2_linkCount b = some (nI (dL D)) := congrArg some hC.2.1
  have hMX : 2000 ≤ MX := by decide
  unfold m_X5_likeParts
  rw [hlc, Option.bind_some]
  have hl : vLoop (m_X5_likeParts_L15 (nI a) (nI c) (nI (dL D)) b) FUEL ((0 : Int64), (0 : Int32)) = some (enc (lk D a (c - a) (dL D + 1))) := by
    refine vl_F (fun i => (enc (lk D a (c - a) i), nI i)) 0 (dL D + 1) (by omega) (by omega) (fun i _ hi => ?_) ?_
    · have hsc := SC_MX D hD i
      unfold m_X5_likeParts_L15
      simp only [un, lt]
      have h1 := times_e (x := some (SC D i)) (y := pw a i) (fun m h => by cases h; omega) (pw_ok a i)
      have h2 := times_e (x := tm (some (SC D i)) (pw a i)) (y := pw (c - a) (dL D - i)) (tm_ok _ _) (pw_ok _ _)
      have h3 := plus_e (x := lk D a (c - a) i) (y := tm (tm (some (SC D i)) (pw a i)) (pw (c - a) (dL D - i))) (lk_ok _ _ _ _) (tm_ok _ _)
      rw [if_neg (by rw [qlt (by omega) (by omega)]; omega), of_e hK (by omega), Option.bind_some, nI_l (by omega), power_e (by omega) (by omega), Option.bind_some, nI_l (by omega), show lN (SC D i) = enc (some (SC D i)) from rfl, h1, Option.bind_some, pk_sub hac, nI_l (by omega), pk_sub (show i ≤ dL D by omega), power_e (by omega) (by omega), Option.bind_some, h2, Option.bind_some, h3, Option.bind_some, nI_1]
      rfl
    · unfold m_X5_likeParts_L15
      simp only [un]
      rw [if_pos (by rw [qlt (by omega) (by omega)]; omega)]
  rw [hl, Option.bind_some, nI_l (by omega), power_e (by omega) (by omega), Option.bind_some]
  simp only [lg_cmp_lt, lg_cmp_ge]
  unfold lkR
  cases h1 : lk D a (c - a) (dL D + 1) with
  | none => rw [if_pos (show enc none < 0 from m1_lt)]; rfl
  | some s =>
    rw [if_neg (show ¬ enc (some s) < 0 from lN_n (lk_ok _ _ _ _ s h1))]
    cases h2 : pw c (dL D) with
    | none => rw [if_neg (show ¬ (0 : Int64) ≤ enc none from by show ¬ (0 : Int64) ≤ -1; decide)]; rfl
    | some d =>
      have hd := pw_ok _ _ d h2
      rw [if_pos (show (0 : Int64) ≤ enc (some d) from (pk_lLE (a := 0) (by decide) (by unfold MX at hd; omega)).mpr (Nat.zero_le d))]
      show (if w = 0 then some (lN s) else some (lN d)) = some (lN (if w = 0 then s else d))
      split <;> rfl
/-- like, told -/
def lkT (D : ND) (a c : Nat) (w : Int32) : Int64 := match lkR D a c w with
  | none => (-9223372036854775808 : Int64) - (-5 : Int32).toInt64
  | some n => lN n
theorem alike_e (hC : repC b D) (hD : okD D) (hK : CNT b D) {a c : Nat} (hac : a ≤ c) (hc : c ≤ 99) (w : Int32) : m_X9_alike b (nI a) (nI c) w = some (lkT D a c w) := by
  unfold m_X9_alike
  rw [likeP_e hC hD hK hac hc w, Option.bind_some]
  simp only [lg_cmp_ge]
  have hok : okO (lkR D a c w) := by
    intro n hn
    unfold lkR at hn
    cases h1 : lk D a (c - a) (dL D + 1) with
    | none => rw [h1] at hn; cases hn
    | some s =>
      cases h2 : pw c (dL D) with
      | none => rw [h1, h2] at hn; cases hn
      | some d =>
        rw [h1, h2] at hn
        have hn : some (if w = 0 then s else d) = some n := hn
        cases hn
        split
        · exact lk_ok _ _ _ _ s h1
        · exact pw_ok _ _ d h2
  unfold lkT
  cases h : lkR D a c w with
  | none => rw [if_neg (show ¬ (0 : Int64) ≤ enc none from by show ¬ (0 : Int64) ≤ -1; decide)]; rfl
  | some n =>
    have := hok n h
    rw [if_pos (show (0 : Int64) ≤ enc (some n) from (pk_lLE (a := 0) (by decide) (by unfold MX at this; omega)).mpr (Nat.zero_le n))]
    rfl
/-! the model's, with its mark -/
end CO
