/-! sets counted by how many links are up; the chance when all are alike; least cut and way -/
def SC (D : ND) (k : Nat) : Nat := sm (fun s => if pc s = k ∧ rch D s = true then 1 else 0) (2 ^ dL D)
theorem sm_1 {f : Nat → Nat} {n : Nat} (h : ∀ i, i < n → f i ≤ 1) : sm f n ≤ n := by
  induction n with
  | zero => exact Nat.le_refl 0
  | succ n ih =>
    have h1 := ih (fun i hi => h i (by omega))
    have h2 := h n (by omega)
    show sm f n + f n ≤ n + 1
    omega
theorem SC_le (D : ND) (k n : Nat) : sm (fun s => if pc s = k ∧ rch D s = true then 1 else 0) n ≤ n := sm_1 (fun i _ => by split <;> omega)
theorem bits_e {s : Nat} (hs : s < 1024) : m_X10_bitsIn (nI s) = some (nI (pc s)) := by
  unfold m_X10_bitsIn
  have hl : vLoop (m_X10_bitsIn_L4 (nI s)) FUEL ((0 : Int32), (0 : Int32)) = some (nI (pc s)) := by
    refine vl_F (fun i => (nI (fa_cnt (fun j => s.testBit j) i), nI i)) 0 10 (by omega) (by omega) (fun i _ hi => ?_) ?_
    · unfold m_X10_bitsIn_L4
      simp only [un, lt]
      rw [if_neg (by rw [qle_10 (by omega)]; omega), sar_bit (by omega) (by omega), nI_1]
      have hb : bz (s.testBit i) = nI (if s.testBit i = true then 1 else 0) := by cases s.testBit i <;> rfl
      rw [hb, nI_add]
      rfl
    · unfold m_X10_bitsIn_L4
      simp only [un]
      rw [if_pos (by rw [qle_10 (by omega)]; omega)]
      rfl
  rw [hl, Option.bind_some]
section CO
variable {b t : ST} {D : ND}
theorem cfill_e (hC : repC b D) (hJ : jnC b D) (hD : okD D) : ∃ R, m_X5_fill b = some (wD b 5 R) ∧ ∀ k, k ≤ 10 → R k = nI (SC D k) := by
  have hL := hD.2.2.1
  have hp : 2 ^ dL D ≤ 2 ^ 10 := Nat.pow_le_pow_right (by decide) hL
  have hp0 := Nat.two_pow_pos (dL D)
  unfold m_X5_fill
  obtain ⟨e, he, R0, rfl, hR0⟩ := vl_totF (B := m_X5_fill_L2) (fun m st => ∃ i R, i ≤ 11 ∧ m = 11 - i ∧ st = (nI i, wD b 5 R) ∧ ∀ k, k < i → R k = 0) (fun e => ∃ R, e = wD b 5 R ∧ ∀ k, k < 11 → R k = 0) (by
    rintro m st ⟨i, R, hi, rfl, rfl, hR⟩
    unfold m_X5_fill_L2
    simp only [un, lt, qle_11 (i := i) (by omega)]
    by_cases h : i = 11
    · left; subst h; rw [if_pos (by omega)]; exact ⟨_, rfl, R, rfl, hR⟩
    · right
      rw [if_neg (by omega), gd_in (by omega) (by omega), nI_clamp (by omega), wA_wD, nI_1]
      refine ⟨_, rfl, 11 - (i + 1), by omega, i + 1, _, by omega, rfl, rfl, fun k hk => ?_⟩
      unfold upd
      split
      · rfl
      · exact hR k (by omega)) (i := 11 - 0) (s := ((0 : Int32), b)) (by omega) ⟨0, b.2.2.1 5, by omega, rfl, by rw [wD_self]; rfl, fun k hk => absurd hk (Nat.not_lt_zero k)⟩
  rw [he, Option.bind_some]
  obtain ⟨e, he, R, rfl, hR⟩ := vl_totF (B := m_X5_fill_L26) (fun m st => ∃ i R, i ≤ 2 ^ dL D ∧ m = 2 ^ dL D - i ∧ st = (nI i, wD b 5 R) ∧ ∀ k, k ≤ 10 → R k = nI (sm (fun s => if pc s = k ∧ rch D s = true then 1 else 0) i)) (fun e => ∃ R, e = wD b 5 R ∧ ∀ k, k ≤ 10 → R k = nI (SC D k)) (by
    rintro m st ⟨i, R, hi, rfl, rfl, hR⟩
    have hC2 : repC (wD b 5 R) D := hC
    have hJ2 : jnC (wD b 5 R) D := hJ
    unfold m_X5_fill_L26
    simp only [un, lt]
    rw [al_e hC2 hD, Option.bind_some]
    by_cases h : i = 2 ^ dL D
    · left; subst h; rw [if_pos (by rw [all_end hC2 hD (by omega)])]; exact ⟨_, rfl, R, rfl, hR⟩
    · right
      have hpc := pc_lt (x := i)
      rw [if_neg (by rw [all_end hC2 hD (by omega)]; omega), bc_e i (by omega), Option.bind_some, if_neg (by rw [qle_11 (by omega)]; omega), re_e hC2 hJ2 hD (by omega), Option.bind_some, bz_if, gd_in (by omega) (by omega), gd_in (by omega) (by omega), nI_clamp (by omega), wA_wD, nI_1]
      cases hr : rch D i
      · rw [if_neg (by decide)]
        refine ⟨_, rfl, 2 ^ dL D - (i + 1), by omega, i + 1, R, by omega, rfl, rfl, fun k hk => ?_⟩
        rw [hR k hk]
        show _ = nI (sm _ i + (if pc i = k ∧ rch D i = true then 1 else 0))
        rw [hr, if_neg (by simp), Nat.add_zero]
      · rw [if_pos rfl]
        refine ⟨_, rfl, 2 ^ dL D - (i + 1), by omega, i + 1, _, by omega, rfl, rfl, fun k hk => ?_⟩
        show upd R (pc i) ((wD b 5 R).2.2.1 5 (pc i) + 1) k = nI (sm _ i + (if pc i = k ∧ rch D i = true then 1 else 0))
        have hRR : (wD b 5 R).2.2.1 5 (pc i) = R (pc i) := rfl
        rw [hRR]
        unfold upd
        by_cases hkp : k = pc i
        · subst hkp
          rw [if_pos rfl, hR _ hk, if_pos ⟨rfl, hr⟩]
          exact nI_1 _
        · rw [if_neg hkp, if_neg (fun q => hkp q.1.symm), Nat.add_zero]; exact hR k hk) (i := 2 ^ dL D - 0) (s := ((0 : Int32), wD b 5 R0)) (by omega) ⟨0, R0, by omega, rfl, rfl, fun k hk => hR0 k (by omega)⟩
  rw [he, Option.bind_some]
  exact ⟨R, rfl, hR⟩
/-- the class's counts stand -/
def CNT (b : ST) (D : ND) : Prop := ∀ k, k ≤ 10 → b.2.2.1 5 k = nI (SC D k)
theorem of_e (hK : CNT b D) {k : Nat} (hk : k ≤ 10) : m_X5_ofSize b (nI k) = some (nI (SC D k)) := by
  unfold m_X5_ofSize
  rw [if_neg (nI_pos (by omega)), if_neg (by rw [qle_11 (by omega)]; omega), gd_in (by omega) (by omega), nI_clamp (by omega), hK k hk]
theorem setsOf_e (hM : repM t D) (hD : okD D) {k : Nat} (hk : k < 2 ^ 31) : m_X10_setsOf t (nI k) = some (nI (SC D k)) := by
  have hL := hD.2.2.1
  have hp : 2 ^ dL D ≤ 2 ^ 10 := Nat.pow_le_pow_right (by decide) hL
  have hp0 := Nat.two_pow_pos (dL D)
  unfold m_X10_setsOf
  have hl : vLoop (m_X10_setsOf_L4 (nI k) t) FUEL ((0 : Int32), (0 : Int32)) = some (nI (SC D k)) := by
    refine vl_F (fun i => (nI (sm (fun s => if pc s = k ∧ rch D s = true then 1 else 0) i), nI i)) 0 (2 ^ dL D) (by omega) (by omega) (fun i _ hi => ?_) ?_
    · have hpc := pc_lt (x := i)
      have hz : (0 : Int32) = nI 0 := rfl
      unfold m_X10_setsOf_L4
      simp only [un, lt]
      rw [hM.2.1, shl_1 _ (by omega), if_neg (by rw [qle (by omega) (by omega)]; omega), bits_e (by omega), Option.bind_some]
      show _ = some (Sum.inl (nI (sm _ i + (if pc i = k ∧ rch D i = true then 1 else 0)), nI (i + 1)))
      by_cases h1 : pc i = k
      · rw [if_pos (by rw [h1]), waM_e hM hD, Option.bind_some, reW_e hM hD hi, Option.bind_some, bz_if, nI_1]
        cases hr : rch D i
        · rw [if_neg (by decide), if_neg (by simp), hz, nI_add, nI_1]
        · rw [if_pos rfl, if_pos ⟨h1, rfl⟩, nI_1]
      · rw [if_neg (by rw [qeq (by omega) hk]; exact h1), if_neg (fun q => h1 q.1), hz, nI_add, nI_1]
    · unfold m_X10_setsOf_L4
      simp only [un]
      rw [hM.2.1, shl_1 _ (by omega), if_pos (by rw [qle (by omega) (by omega)]; omega)]
      rfl
  rw [hl, Option.bind_some]
theorem inv_cn {R : Nat → Int32} (h : INV b t D) : INV (wD b 5 R) t D := ⟨h.1, h.2.1, h.2.2.1, h.2.2.2.1, h.2.2.2.2.1, h.2.2.2.2.2⟩
/-- alike, where the model changes nothing -/
def SIM1 {α : Type} (c : Option (α × ST)) (m : Option α) (t : ST) : Prop := ∃ r b D, c = some (r, b) ∧ m = some r ∧ INV b t D
theorem SIM1.mk {α : Type} {c : Option (α × ST)} {m : Option α} {r : α} {b t : ST} {D : ND} (h1 : c = some (r, b)) (h2 : m = some r) (h : INV b t D) : SIM1 c m t := ⟨r, b, D, h1, h2, h⟩
theorem s_sets (h : INV b t D) (x : Int32) : SIM1 (m_X9_sets b x) (m_X10_sets t x) t := by
  obtain ⟨hD, hC, hM, hJ, hT, hS⟩ := id h
  have hL := hD.2.2.1
  have hlc : m_X2_linkCount b = some (nI (dL D)) := congrArg some hC.2.1
  unfold m_X9_sets m_X10_sets
  rw [in_e, i64_0, Int32.toInt_toInt64, Int32.toInt_toInt64, hM.2.1, nI_toInt (by omega), Option.bind_some, bz_if, hlc]
  by_cases hx : 0 ≤ x.toInt ∧ x.toInt ≤ (dL D : Int)
  · obtain ⟨k, hk, rfl⟩ := vp_in_of (x := x) (n := dL D + 1) (vp_in_iff.mpr ⟨hx.1, by omega⟩) (by omega)
    obtain ⟨R, r1, r2⟩ := cfill_e hC hJ hD
    rw [if_neg (nI_pos (by omega)), if_pos (decide_eq_true hx), Option.bind_some, if_pos (by rw [qle (by omega) (by omega)]; omega), r1, Option.bind_some, of_e (b := wD b 5 R) (D := D) r2 (by omega), Option.bind_some, setsOf_e hM hD (by omega), Option.bind_some]
    exact SIM1.mk rfl rfl (inv_cn h)
  · rw [if_neg (show ¬ decide (0 ≤ x.toInt ∧ x.toInt ≤ (dL D : Int)) = true from fun q => hx (of_decide_eq_true q))]
    by_cases h0 : x < 0
    · rw [if_pos h0]; exact SIM1.mk rfl rfl h
    · rw [if_neg h0, Option.bind_some, if_neg]
      · exact SIM1.mk rfl rfl h
      · intro q
        rw [fa_lt] at h0
        rw [fa_le, nI_toInt (by omega)] at q
        rw [show (0 : Int32).toInt = 0 from by decide] at h0
        exact hx ⟨by omega, q⟩
/-! numbers that may pass the greatest long -/
def MX : Nat := 9223372036854775807
def ck (n : Nat) : Option Nat := if n ≤ MX then some n else none
def enc (o : Option Nat) : Int64 := match o with
  | none => -1
  | some n => lN n
def okO (o : Option Nat) : Prop := ∀ n, o = some n → n ≤ MX
def tm (x y : Option Nat) : Option Nat := x.bind fun m => y.bind fun n => ck (m * n)
def pl (x y : Option Nat) : Option Nat := x.bind fun m => y.bind fun n => ck (m + n)
theorem ck_ok (n : Nat) : okO (ck n) := fun m h => by
  unfold ck at h
  split at h
  · cases h; assumption
  · cases h
theorem tm_ok (x y : Option Nat) : okO (tm x y) := by
  cases x with
  | none => intro n h; cases h
  | some m => cases y with
    | none => intro n h; cases h
    | some n => exact ck_ok _
theorem pl_ok (x y : Option Nat) : okO (pl x y) := by
  cases x with
  | none => intro n h; cases h
  | some m => cases y with
    | none => intro n h; cases h
    | some n => exact ck_ok _
theorem MX_lN : (9223372036854775807 : Int64) = lN MX := by decide
theorem le_div {x y : Nat} (hx : 0 < x) : y ≤ MX / x ↔ x * y ≤ MX := by rw [Nat.le_div_iff_mul_le hx, Nat.mul_comm]
theorem m1_lt : (-1 : Int64) < 0 := by decide
theorem lN_n {n : Nat} (h : n ≤ MX) : ¬ lN n < (0 : Int64) := fun q => by
  have := (pk_lLT (b := 0) (by unfold MX at h; omega) (by decide)).mp q
  omega
theorem times_e {x y : Option Nat} (hx : okO x) (hy : okO y) : m_X5_times (enc x) (enc y) = some (enc (tm x y)) := by
  unfold m_X5_times
  simp only [lg_cmp_lt, lg_cmp_ge, lg_cmp_le]
  cases x with
  | none => rw [if_pos (show enc none < 0 from m1_lt)]; rfl
  | some m =>
    have hm := hx m rfl
    rw [if_neg (show ¬ enc (some m) < 0 from lN_n hm)]
    cases y with
    | none => rw [if_neg (show ¬ (0 : Int64) ≤ enc none from by show ¬ (0 : Int64) ≤ -1; decide)]; rfl
    | some n =>
      have hn := hy n rfl
      have hm63 : m < 2 ^ 63 := by unfold MX at hm; omega
      have hn63 : n < 2 ^ 63 := by unfold MX at hn; omega
      rw [if_pos (show (0 : Int64) ≤ enc (some n) from (pk_lLE (a := 0) (by decide) hn63).mpr (Nat.zero_le n))]
      show (if lN m ≤ 0 then some (lN m * lN n) else gd (¬ lN m = 0) (if lN n ≤ 9223372036854775807 / lN m then some (lN m * lN n) else some (-1))) = some (enc (ck (m * n)))
      unfold ck
      rcases Nat.eq_zero_or_pos m with rfl | h0
      · rw [if_pos (by decide), lN_mul, Nat.zero_mul, if_pos (Nat.zero_le _)]; rfl
      · have hne := lN_n0 h0 hm63
        rw [if_neg (fun q => by have := (pk_lLE (b := 0) hm63 (by decide)).mp q; omega), gd_t hne, MX_lN, pk_lDiv (by decide) h0 hm63, lN_mul]
        have hd : MX / m < 2 ^ 63 := Nat.lt_of_le_of_lt (Nat.div_le_self _ _) (by decide)
        by_cases hc : m * n ≤ MX
        · rw [if_pos ((pk_lLE hn63 hd).mpr ((le_div h0).mpr hc)), if_pos hc]; rfl
        · rw [if_neg (fun q => hc ((le_div h0).mp ((pk_lLE hn63 hd).mp q))), if_neg hc]; rfl
theorem plus_e {x y : Option Nat} (hx : okO x) (hy : okO y) : m_X5_plus (enc x) (enc y) = some (enc (pl x y)) := by
  unfold m_X5_plus
  simp only [lg_cmp_lt, lg_cmp_le]
  cases x with
  | none => rw [if_pos (show enc none < 0 from m1_lt)]; rfl
  | some m =>
    have hm := hx m rfl
    rw [if_neg (show ¬ enc (some m) < 0 from lN_n hm)]
    cases y with
    | none => rw [if_pos (show enc none < 0 from m1_lt)]; rfl
    | some n =>
      have hn := hy n rfl
      have hm63 : m < 2 ^ 63 := by unfold MX at hm; omega
      rw [if_neg (show ¬ enc (some n) < 0 from lN_n hn)]
      show (if lN m ≤ 9223372036854775807 - lN n then some (lN m + lN n) else some (-1)) = some (enc (ck (m + n)))
      unfold ck
      rw [MX_lN, lN_sub hn, lN_add]
      have hd : MX - n < 2 ^ 63 := Nat.lt_of_le_of_lt (Nat.sub_le _ _) (by decide)
      by_cases hc : m + n ≤ MX
      · rw [if_pos ((pk_lLE hm63 hd).mpr (by omega)), if_pos hc]; rfl
      · rw [if_neg (fun q => by have := (pk_lLE hm63 hd).mp q; omega), if_neg hc]; rfl
def pw (v : Nat) : Nat → Option Nat
  | 0 => some 1
  | n + 1 => tm (pw v n) (some v)
theorem pw_ok (v : Nat) : ∀ n, okO (pw v n)
  | 0 => fun m h => by cases h; decide
  | n + 1 => tm_ok _ _
theorem power_e {v n : Nat} (hv : v ≤ MX) (hn : n ≤ 1000) : m_X5_power (lN v) (nI n) = some (enc (pw v n)) := by
  unfold m_X5_power
  have hl : vLoop (m_X5_power_L5 (lN v) (nI n)) FUEL ((1 : Int64), (0 : Int32)) = some (enc (pw v n)) := by
    refine vl_F (fun i => (enc (pw v i), nI i)) 0 n (by omega) (by omega) (fun i _ hi => ?_) ?_
    · unfold m_X5_power_L5
      simp only [un, lt]
      have h1 := times_e (pw_ok v i) (y := some v) (fun m h => by cases h; exact hv)
      rw [if_neg (by rw [qle (by omega) (by omega)]; omega), show lN v = enc (some v) from rfl, h1, Option.bind_some, nI_1]
      rfl
    · unfold m_X5_power_L5
      simp only [un]
      rw [if_pos (by rw [qle (by omega) (by omega)]; omega)]
  rw [hl, Option.bind_some]
/-- the sum so far -/
def lk (D : ND) (a c : Nat) : Nat → Option Nat
  | 0 => some 0
  | k + 1 => pl (lk D a c k) (tm (tm (some (SC D k)) (pw a k)) (pw c (dL D - k)))
theorem lk_ok (D : ND) (a c : Nat) : ∀ n, okO (lk D a c n)
  | 0 => fun m h => by cases h; exact Nat.zero_le _
  | n + 1 => pl_ok _ _
theorem SC_MX (D : ND) (hD : okD D) (k : Nat) : SC D k ≤ 1024 := Nat.le_trans (SC_le D k _) (Nat.le_trans (Nat.pow_le_pow_right (by decide) hD.2.2.1) (by decide))
/-- what like answers: above or below, or nothing -/
def lkR (D : ND) (a c : Nat) (w : Int32) : Option Nat := (lk D a (c - a) (dL D + 1)).bind fun s => (pw c (dL D)).bind fun d => some (if w = 0 then s else d)
theorem likeP_e (hC : repC b D) (hD : okD D) (hK : CNT b D) {a c : Nat} (hac : a ≤ c) (hc : c ≤ 99) (w : Int32) : m_X5_likeParts b (nI a) (nI c) w = some (enc (lkR D a c w)) := by
  have hL := hD.2.2.1
  have hlc : m_X2_linkCount b = some (nI (dL D)) := congrArg some hC.2.1
  have hMX : 2000 ≤ MX := by decide
  unfold m_X5_likeParts
  rw [hlc, Option.bind_some]
  have hl : vLoop (m_X5_likeParts_L15 (nI a) (nI c) (nI (dL D)) b) FUEL ((0 : Int64), (0 : Int32)) = some (enc (lk D a (c - a) (dL D + 1))) := by
    refine vl_F (fun i => (enc (lk D a (c - a) i), nI i)) 0 (dL D + 1) (by omega) (by omega) (fun i _ hi => ?_) ?_
    · have hsc := SC_MX D hD i
      unfold m_X5_likeParts_L15
      simp only [un, lt]
      have h1 := times_e (x := some (SC D i)) (y := pw a i) (fun m h => by cases h; omega) (pw_ok a i)
      have h2 := times_e (x := tm (some (SC D i)) (pw a i)) (y := pw (c - a) (dL D - i)) (tm_ok _ _) (pw_ok _ _)
      have h3 := plus_e (x := lk D a (c - a) i) (y := tm (tm (some (SC D i)) (pw a i)) (pw (c - a) (dL D - i))) (lk_ok _ _ _ _) (tm_ok _ _)
      rw [if_neg (by rw [qlt (by omega) (by omega)]; omega), of_e hK (by omega), Option.bind_some, nI_l (by omega), power_e (by omega) (by omega), Option.bind_some, nI_l (by omega), show lN (SC D i) = enc (some (SC D i)) from rfl, h1, Option.bind_some, pk_sub hac, nI_l (by omega), pk_sub (show i ≤ dL D by omega), power_e (by omega) (by omega), Option.bind_some, h2, Option.bind_some, h3, Option.bind_some, nI_1]
      rfl
    · unfold m_X5_likeParts_L15
      simp only [un]
      rw [if_pos (by rw [qlt (by omega) (by omega)]; omega)]
  rw [hl, Option.bind_some, nI_l (by omega), power_e (by omega) (by omega), Option.bind_some]
  simp only [lg_cmp_lt, lg_cmp_ge]
  unfold lkR
  cases h1 : lk D a (c - a) (dL D + 1) with
  | none => rw [if_pos (show enc none < 0 from m1_lt)]; rfl
  | some s =>
    rw [if_neg (show ¬ enc (some s) < 0 from lN_n (lk_ok _ _ _ _ s h1))]
    cases h2 : pw c (dL D) with
    | none => rw [if_neg (show ¬ (0 : Int64) ≤ enc none from by show ¬ (0 : Int64) ≤ -1; decide)]; rfl
    | some d =>
      have hd := pw_ok _ _ d h2
      rw [if_pos (show (0 : Int64) ≤ enc (some d) from (pk_lLE (a := 0) (by decide) (by unfold MX at hd; omega)).mpr (Nat.zero_le d))]
      show (if w = 0 then some (lN s) else some (lN d)) = some (lN (if w = 0 then s else d))
      split <;> rfl
/-- like, told -/
def lkT (D : ND) (a c : Nat) (w : Int32) : Int64 := match lkR D a c w with
  | none => (-9223372036854775808 : Int64) - (-5 : Int32).toInt64
  | some n => lN n
theorem alike_e (hC : repC b D) (hD : okD D) (hK : CNT b D) {a c : Nat} (hac : a ≤ c) (hc : c ≤ 99) (w : Int32) : m_X9_alike b (nI a) (nI c) w = some (lkT D a c w) := by
  unfold m_X9_alike
  rw [likeP_e hC hD hK hac hc w, Option.bind_some]
  simp only [lg_cmp_ge]
  have hok : okO (lkR D a c w) := by
    intro n hn
    unfold lkR at hn
    cases h1 : lk D a (c - a) (dL D + 1) with
    | none => rw [h1] at hn; cases hn
    | some s =>
      cases h2 : pw c (dL D) with
      | none => rw [h1, h2] at hn; cases hn
      | some d =>
        rw [h1, h2] at hn
        have hn : some (if w = 0 then s else d) = some n := hn
        cases hn
        split
        · exact lk_ok _ _ _ _ s h1
        · exact pw_ok _ _ d h2
  unfold lkT
  cases h : lkR D a c w with
  | none => rw [if_neg (show ¬ (0 : Int64) ≤ enc none from by show ¬ (0 : Int64) ≤ -1; decide)]; rfl
  | some n =>
    have := hok n h
    rw [if_pos (show (0 : Int64) ≤ enc (some n) from (pk_lLE (a := 0) (by decide) (by unfold MX at this; omega)).mpr (Nat.zero_le n))]
    rfl
/-! the model's, with its mark -/
theorem wI_wI (t : ST) (k : Nat) (x y : Int32) : wI (wI t k x) k y = wI t k y := by
  unfold wI upd
  simp only []
  congr 1
  funext j
  split <;> rfl
theorem wI_self (t : ST) (k : Nat) : wI t k (t.1 k) = t := by
  unfold wI upd
  obtain ⟨x, y⟩ := t
  simp only []
  congr 1
  funext j
  split
  · rename_i h; rw [h]
  · rfl
theorem timesM_0 {x y : Nat} (hx : x ≤ MX) (hy : y ≤ MX) : m_X10_times (wI t 5 0) (lN x) (lN y) = some (lN (x * y), wI t 5 (bz (ck (x * y)).isNone)) := by
  have hm63 : x < 2 ^ 63 := by unfold MX at hx; omega
  have hn63 : y < 2 ^ 63 := by unfold MX at hy; omega
  unfold m_X10_times
  simp only [lg_cmp_le, lt, wI_wI]
  rw [if_pos (show (wI t 5 0).1 5 = 0 from rfl)]
  unfold ck
  rcases Nat.eq_zero_or_pos x with rfl | h0
  · rw [if_pos (by decide), lN_mul, Nat.zero_mul, if_pos (Nat.zero_le _)]; rfl
  · have hne := lN_n0 h0 hm63
    have hd : MX / x < 2 ^ 63 := Nat.lt_of_le_of_lt (Nat.div_le_self _ _) (by decide)
    rw [if_neg (fun q => by have := (pk_lLE (b := 0) hm63 (by decide)).mp q; omega), gd_t hne, MX_lN, pk_lDiv (by decide) h0 hm63, lN_mul]
    by_cases hc : x * y ≤ MX
    · rw [if_pos ((pk_lLE hn63 hd).mpr ((le_div h0).mpr hc)), if_pos hc]; rfl
    · rw [if_neg (fun q => hc ((le_div h0).mp ((pk_lLE hn63 hd).mp q))), if_neg hc]; rfl
theorem timesM_1 (x y : Int64) : m_X10_times (wI t 5 1) x y = some (x * y, wI t 5 1) := by
  unfold m_X10_times
  simp only [lt, wI_wI]
  rw [if_neg (show ¬ (wI t 5 1).1 5 = 0 from fun q : (1 : Int32) = 0 => by revert q; decide)]
theorem powerM_1 (x : Int64) {n : Nat} (hn : n ≤ 1000) : ∃ V, m_X10_power (wI t 5 1) x (nI n) = some (V, wI t 5 1) := by
  unfold m_X10_power
  obtain ⟨e, he, V, rfl⟩ := vl_totF (B := m_X10_power_L6 x (nI n)) (fun m st => ∃ i V, i ≤ n ∧ m = n - i ∧ st = (V, nI i, wI t 5 1)) (fun e => ∃ V, e = (V, wI t 5 1)) (by
    rintro m st ⟨i, V, hi, rfl, rfl⟩
    unfold m_X10_power_L6
    simp only [un, lt, qle (a := n) (b := i) (by omega) (by omega)]
    by_cases h : i = n
    · left; rw [if_pos (by omega)]; exact ⟨_, rfl, V, rfl⟩
    · right
      rw [if_neg (by omega), timesM_1, Option.bind_some, nI_1]
      exact ⟨_, rfl, n - (i + 1), by omega, i + 1, V * x, by omega, rfl, rfl⟩) (i := n - 0) (s := ((1 : Int64), (0 : Int32), wI t 5 1)) (by omega) ⟨0, 1, by omega, rfl, rfl⟩
  rw [he, Option.bind_some]
  exact ⟨V, rfl⟩
theorem powerM_0 {v n : Nat} (hv : v ≤ MX) (hn : n ≤ 1000) : ∃ V, m_X10_power (wI t 5 0) (lN v) (nI n) = some (V, wI t 5 (bz (pw v n).isNone)) ∧ ∀ m, pw v n = some m → V = lN m := by
  unfold m_X10_power
  obtain ⟨e, he, V, rfl, hV⟩ := vl_totF (B := m_X10_power_L6 (lN v) (nI n)) (fun m st => ∃ i V, i ≤ n ∧ m = n - i ∧ st = (V, nI i, wI t 5 (bz (pw v i).isNone)) ∧ ∀ m, pw v i = some m → V = lN m) (fun e => ∃ V, e = (V, wI t 5 (bz (pw v n).isNone)) ∧ ∀ m, pw v n = some m → V = lN m) (by
    rintro m st ⟨i, V, hi, rfl, rfl, hV⟩
    unfold m_X10_power_L6
    simp only [un, lt, qle (a := n) (b := i) (by omega) (by omega)]
    by_cases h : i = n
    · left; subst h; rw [if_pos (by omega)]; exact ⟨_, rfl, V, rfl, hV⟩
    · right
      rw [if_neg (by omega), nI_1]
      cases hp : pw v i with
      | none =>
        rw [show bz (Option.isNone (none : Option Nat)) = 1 from rfl, timesM_1, Option.bind_some]
        have hp2 : pw v (i + 1) = none := by show tm (pw v i) (some v) = none; rw [hp]; rfl
        exact ⟨_, rfl, n - (i + 1), by omega, i + 1, _, by omega, rfl, by rw [hp2]; rfl, fun m hm => by rw [hp2] at hm; cases hm⟩
      | some m =>
        have hm := pw_ok v i m hp
        have hp2 : pw v (i + 1) = ck (m * v) := by show tm (pw v i) (some v) = _; rw [hp]; rfl
        rw [show bz (Option.isNone (some m)) = 0 from rfl, hV m hp, timesM_0 hm hv, Option.bind_some]
        refine ⟨_, rfl, n - (i + 1), by omega, i + 1, _, by omega, rfl, by rw [hp2], fun q hq => ?_⟩
        rw [hp2] at hq
        unfold ck at hq
        split at hq
        · cases hq; rfl
        · cases hq) (i := n - 0) (s := ((1 : Int64), (0 : Int32), wI t 5 0)) (by omega) ⟨0, 1, by omega, rfl, rfl, fun m hm => by cases hm; rfl⟩
  rw [he, Option.bind_some]
  exact ⟨V, rfl, hV⟩
/-- a product that may have a mark already -/
theorem timesM_o {x y : Option Nat} {X Y : Int64} (hx : okO x) (hy : okO y) (hX : ∀ m, x = some m → X = lN m) (hY : ∀ m, y = some m → Y = lN m) (h : x = none → y = none → True) (f : Int32) (hf : f = bz (x.isNone || y.isNone)) : ∃ V, m_X10_times (wI t 5 f) X Y = some (V, wI t 5 (bz (tm x y).isNone)) ∧ ∀ m, tm x y = some m → V = lN m := by
  subst hf
  cases x with
  | none => exact ⟨_, timesM_1 X Y, fun m hm => by cases hm⟩
  | some m => cases y with
    | none => exact ⟨_, timesM_1 X Y, fun m hm => by cases hm⟩
    | some n =>
      rw [hX m rfl, hY n rfl]
      refine ⟨_, timesM_0 (hx m rfl) (hy n rfl), fun q hq => ?_⟩
      have hq : ck (m * n) = some q := hq
      unfold ck at hq
      split at hq
      · cases hq; rfl
      · cases hq
/-- a power that may have a mark already -/
theorem powerM_o {o : Bool} {v n : Nat} (hv : v ≤ MX) (hn : n ≤ 1000) : ∃ V, m_X10_power (wI t 5 (bz o)) (lN v) (nI n) = some (V, wI t 5 (bz (o || (pw v n).isNone))) ∧ ∀ m, pw v n = some m → o = false → V = lN m := by
  cases o
  · obtain ⟨V, h1, h2⟩ := powerM_0 (t := t) hv hn
    exact ⟨V, h1, fun m hm _ => h2 m hm⟩
  · obtain ⟨V, h1⟩ := powerM_1 (t := t) (lN v) hn
    exact ⟨V, h1, fun m hm q => by cases q⟩
theorem repM_5 {o : Int32} (h : repM t D) : repM (wI t 5 o) D := h
theorem likeBy_e (hM : repM t D) (hD : okD D) {a c : Nat} (hac : a ≤ c) (hc : c ≤ 99) (w : Int32) : ∃ o, m_X10_likeBy t (nI a) (nI c) w = some (lkT D a c w, wI t 5 o) := by
  have hL := hD.2.2.1
  have hMX : 2000 ≤ MX := by decide
  unfold m_X10_likeBy
  simp only [lt]
  obtain ⟨e, he, V, rfl, hV⟩ := vl_totF (B := m_X10_likeBy_L11 (nI a) (nI c)) (fun m st => ∃ i V, i ≤ dL D + 1 ∧ m = dL D + 1 - i ∧ st = (V, nI i, wI t 5 (bz (lk D a (c - a) i).isNone)) ∧ ∀ m, lk D a (c - a) i = some m → V = lN m) (fun e => ∃ V, e = (V, wI t 5 (bz (lk D a (c - a) (dL D + 1)).isNone)) ∧ ∀ m, lk D a (c - a) (dL D + 1) = some m → V = lN m) (by
    rintro m st ⟨i, V, hi, rfl, rfl, hV⟩
    unfold m_X10_likeBy_L11
    simp only [un, lt]
    have hk : (wI t 5 (bz (lk D a (c - a) i).isNone)).1 4 = nI (dL D) := hM.2.1
    rw [hk]
    simp only [qlt (a := dL D) (b := i) (by omega) (by omega)]
    by_cases h : i = dL D + 1
    · left; subst h; rw [if_pos (by omega)]; exact ⟨_, rfl, V, rfl, hV⟩
    · rw [if_neg (by omega)]
      have hfl : ∀ o : Bool, (wI t 5 (bz o)).1 5 = bz o := fun o => rfl
      cases hl : lk D a (c - a) i with
      | none =>
        left
        have hst : ∀ j, i ≤ j → lk D a (c - a) j = none := by
          intro j hj
          induction j with
          | zero => rw [show i = 0 by omega] at hl; exact hl
          | succ j ih =>
            by_cases hij : i = j + 1
            · rw [← hij]; exact hl
            · show pl (lk D a (c - a) j) _ = none
              rw [ih (by omega)]; rfl
        rw [if_neg (by rw [hfl]; decide)]
        exact ⟨_, rfl, V, by rw [hst (dL D + 1) (by omega)], fun m hm => by rw [hst (dL D + 1) (by omega)] at hm; cases hm⟩
      | some S =>
        right
        have hSM := lk_ok _ _ _ _ S hl
        have hsc := SC_MX D hD i
        rw [if_pos (by rw [hfl]; rfl)]
        have hVS := hV S hl
        obtain ⟨V1, v1, v1b⟩ := powerM_o (t := t) (o := false) (v := a) (n := i) (by omega) (by omega)
        obtain ⟨V2, v2, v2b⟩ := timesM_o (t := t) (x := some (SC D i)) (y := pw a i) (X := lN (SC D i)) (Y := V1) (fun m h => by cases h; omega) (pw_ok a i) (fun m h => by cases h; rfl) (fun m h => v1b m h rfl) (fun _ _ => trivial) _ rfl
        obtain ⟨V3, v3, v3b⟩ := powerM_o (t := t) (o := (tm (some (SC D i)) (pw a i)).isNone) (v := c - a) (n := dL D - i) (by omega) (by omega)
        have hn1 : (wI t 5 (bz (Option.isNone (some S)))) = wI t 5 (bz false) := rfl
        rw [hn1, setsOf_e (repM_5 hM) hD (by omega), Option.bind_some, nI_l (by omega), v1, Option.bind_some]
        simp only []
        have e2 : bz (Option.isNone (some (SC D i)) || (pw a i).isNone) = bz (false || (pw a i).isNone) := rfl
        rw [nI_l (by omega), ← e2, v2, Option.bind_some]
        simp only []
        have hk2 : (wI t 5 (bz (tm (some (SC D i)) (pw a i)).isNone)).1 4 = nI (dL D) := hM.2.1
        rw [hk2, pk_sub hac, nI_l (by omega), pk_sub (show i ≤ dL D by omega), v3, Option.bind_some]
        simp only []
        have hfin : ∀ P : Option Nat, P = tm (tm (some (SC D i)) (pw a i)) (pw (c - a) (dL D - i)) → ∀ V4, (∀ m, P = some m → V4 = lN m) → ∃ t1 V5, (((if (wI t 5 (bz P.isNone)).1 5 = 0 then if lg_cmp V4 ((9223372036854775807 : Int64) - V) ≤ 0 then some (0 : Int32) else some (1 : Int32) else some (1 : Int32)) : Option Int32).bind (fun j_48 => gd (j_48 = 0 ∨ j_48 = 1) (some (Sum.inl (V + V4, nI (i + 1), wI (wI t 5 (bz P.isNone)) 5 j_48)) : Option ((Int64 × Int32 × ST) ⊕ (Int64 × ST))))) = some (Sum.inl (V5, nI (i + 1), t1)) ∧ t1 = wI t 5 (bz (pl (some S) P).isNone) ∧ ∀ m, pl (some S) P = some m → V5 = lN m := by
          intro P hP V4 hV4
          rw [hfl]
          cases hp : P with
          | none =>
            rw [if_neg (by decide), Option.bind_some, gd_t (Or.inr rfl), wI_wI]
            exact ⟨_, _, rfl, rfl, fun m hm => by cases hm⟩
          | some p =>
            have hpM : p ≤ MX := tm_ok _ _ p (by rw [← hP]; exact hp)
            rw [hp] at hV4
            rw [if_pos (show bz (Option.isNone (some p)) = 0 from rfl), hV4 p rfl, hVS, MX_lN, lN_sub hSM]
            simp only [lg_cmp_le]
            have hpl : pl (some S) (some p) = ck (S + p) := rfl
            have hd : MX - S < 2 ^ 63 := Nat.lt_of_le_of_lt (Nat.sub_le _ _) (by decide)
            have hp63 : p < 2 ^ 63 := by unfold MX at hpM; omega
            rw [hpl]
            unfold ck
            by_cases hcc : S + p ≤ MX
            · rw [if_pos ((pk_lLE hp63 hd).mpr (by omega)), Option.bind_some, gd_t (Or.inl rfl), wI_wI, lN_add, if_pos hcc]
              exact ⟨_, _, rfl, rfl, fun m hm => by cases hm; rfl⟩
            · rw [if_neg (fun q => by have := (pk_lLE hp63 hd).mp q; omega), Option.bind_some, gd_t (Or.inr rfl), wI_wI, if_neg hcc]
              exact ⟨_, _, rfl, rfl, fun m hm => by cases hm⟩
        cases h2 : tm (some (SC D i)) (pw a i) with
        | none =>
          have h4 := timesM_1 (t := t) V2 V3
          rw [show bz (Option.isNone (none : Option Nat) || (pw (c - a) (dL D - i)).isNone) = 1 from rfl, h4, Option.bind_some]
          obtain ⟨t1, V5, k1, k2, k3⟩ := hfin none (by rw [h2]; rfl) (V2 * V3) (fun m hm => by cases hm)
          simp only [nI_1]
          refine ⟨_, k1, dL D + 1 - (i + 1), by omega, i + 1, V5, by omega, rfl, ?_, fun m hm => ?_⟩
          · rw [k2]
            show _ = (V5, nI (i + 1), wI t 5 (bz (pl (lk D a (c - a) i) (tm (tm (some (SC D i)) (pw a i)) (pw (c - a) (dL D - i)))).isNone))
            rw [hl, h2]; rfl
          · have hm : pl (lk D a (c - a) i) (tm (tm (some (SC D i)) (pw a i)) (pw (c - a) (dL D - i))) = some m := hm
            rw [hl, h2] at hm
            exact k3 m hm
        | some q =>
          have hq : okO (some q) := by rw [← h2]; exact tm_ok _ _
          obtain ⟨V4, v4, v4b⟩ := timesM_o (t := t) (x := some q) (y := pw (c - a) (dL D - i)) (X := V2) (Y := V3) hq (pw_ok _ _) (fun m h => by cases h; exact v2b q h2) (fun m h => v3b m h (by rw [h2]; rfl)) (fun _ _ => trivial) _ rfl
          rw [v4, Option.bind_some]
          obtain ⟨t1, V5, k1, k2, k3⟩ := hfin (tm (some q) (pw (c - a) (dL D - i))) (by rw [h2]) V4 v4b
          simp only [nI_1]
          refine ⟨_, k1, dL D + 1 - (i + 1), by omega, i + 1, V5, by omega, rfl, ?_, fun m hm => ?_⟩
          · rw [k2]
            show _ = (V5, nI (i + 1), wI t 5 (bz (pl (lk D a (c - a) i) (tm (tm (some (SC D i)) (pw a i)) (pw (c - a) (dL D - i)))).isNone))
            rw [hl, h2]
          · have hm : pl (lk D a (c - a) i) (tm (tm (some (SC D i)) (pw a i)) (pw (c - a) (dL D - i))) = some m := hm
            rw [hl, h2] at hm
            exact k3 m hm) (i := dL D + 1 - 0) (s := ((0 : Int64), (0 : Int32), wI t 5 0)) (by omega) ⟨0, 0, by omega, rfl, rfl, fun m hm => by cases hm; rfl⟩
  rw [he, Option.bind_some]
  simp only [un]
  have hk2 : (wI t 5 (bz (lk D a (c - a) (dL D + 1)).isNone)).1 4 = nI (dL D) := hM.2.1
  obtain ⟨V1, v1, v1b⟩ := powerM_o (t := t) (o := (lk D a (c - a) (dL D + 1)).isNone) (v := c) (n := dL D) (by omega) (by omega)
  rw [hk2, nI_l (by omega), v1, Option.bind_some]
  refine ⟨bz ((lk D a (c - a) (dL D + 1)).isNone || (pw c (dL D)).isNone), ?_⟩
  have hfl : ∀ o : Bool, (wI t 5 (bz o)).1 5 = bz o := fun o => rfl
  simp only [hfl, bz_if]
  unfold lkT lkR
  cases h1 : lk D a (c - a) (dL D + 1) with
  | none => rw [if_pos (show (Option.isNone (none : Option Nat) || (pw c (dL D)).isNone) = true from rfl)]; rfl
  | some s =>
    cases h2 : pw c (dL D) with
    | none => rw [if_pos (show (Option.isNone (some s) || Option.isNone (none : Option Nat)) = true from rfl)]; rfl
    | some d =>
      rw [if_neg (show ¬ (Option.isNone (some s) || Option.isNone (some d)) = true by simp), hV s h1, v1b d h2 (by rw [h1]; rfl)]
      show (if w = 0 then some (lN s, _) else some (lN d, _)) = some (lN (if w = 0 then s else d), _)
      split <;> rfl
theorem inv_5 {o : Int32} (h : INV b t D) : INV b (wI t 5 o) D := ⟨h.1, h.2.1, h.2.2.1, h.2.2.2.1, h.2.2.2.2.1, h.2.2.2.2.2⟩
theorem s_like (h : INV b t D) (x y z : Int32) : SIM (m_X9_like b x y z) (m_X10_like t x y z) := by
  obtain ⟨hD, hC, hM, hJ, hT, hS⟩ := id h
  unfold m_X9_like m_X10_like
  rw [in_e, in_e, isSide_e, isTwo_e, i64_0, i64_1, i64_99]
  simp only [Int32.toInt_toInt64, Option.bind_some, bz_if, decide_eq_true_eq, fa_lt, show (1 : Int32).toInt = 1 from by decide, show (99 : Int32).toInt = 99 from by decide, show (0 : Int32).toInt = 0 from by decide]
  by_cases hy : 1 ≤ y.toInt ∧ y.toInt ≤ 99
  · rw [if_neg (show ¬ y.toInt < 1 by omega), if_neg (show ¬ 99 < y.toInt by omega), if_pos hy]
    by_cases hx : 0 ≤ x.toInt ∧ x.toInt ≤ y.toInt
    · rw [if_neg (show ¬ x.toInt < 0 by omega), if_neg (show ¬ y.toInt < x.toInt by omega), if_pos hx]
      cases hz : two z
      · exact SIM.mk rfl rfl h
      · obtain ⟨c, hc, rfl⟩ := vp_in_of (x := y) (n := 100) (vp_in_iff.mpr ⟨by omega, by omega⟩) (by decide)
        obtain ⟨a, ha, rfl⟩ := vp_in_of (x := x) (n := c + 1) (vp_in_iff.mpr ⟨by omega, by rw [nI_toInt (n := c) (by omega)] at hx; omega⟩) (by omega)
        obtain ⟨R, r1, r2⟩ := cfill_e hC hJ hD
        obtain ⟨o, o1⟩ := likeBy_e hM hD (a := a) (c := c) (by omega) (by omega) z
        have hI := inv_cn (R := R) (inv_5 (o := o) h)
        rw [if_pos rfl, if_pos rfl, r1, Option.bind_some, alike_e (b := wD b 5 R) hI.2.1 hD r2 (by omega) (by omega) z, o1]
        exact SIM.mk rfl rfl hI
    · rw [if_neg hx]
      by_cases h0 : x.toInt < 0
      · rw [if_pos h0]; exact SIM.mk rfl rfl h
      · rw [if_neg h0, if_pos (show y.toInt < x.toInt by omega)]; exact SIM.mk rfl rfl h
  · rw [if_neg hy]
    by_cases h0 : y.toInt < 1
    · rw [if_pos h0]; exact SIM.mk rfl rfl h
    · rw [if_neg h0, if_pos (show 99 < y.toInt by omega)]; exact SIM.mk rfl rfl h
end CO
