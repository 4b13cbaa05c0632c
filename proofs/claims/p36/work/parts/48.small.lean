/-! the law's own small methods, as plain numbers -/
theorem dl_0 (a : Nat) : m_L_divisor_L28 (lN a, lN 0) = some (.inr (lN a)) := by
  unfold m_L_divisor_L28
  simp only [un]
  rw [if_pos (by rw [lg_cmp_le]; exact (pk_lLE (a := 0) (b := 0) (by decide) (by decide)).mpr (Nat.le_refl 0))]
theorem dl_s {a b : Nat} (ha : a < 2 ^ 63) (hb0 : 0 < b) (hb : b < 2 ^ 63) : m_L_divisor_L28 (lN a, lN b) = some (.inl (lN b, lN (a % b))) := by
  unfold m_L_divisor_L28
  simp only [un]
  have hne : ¬ lN b = 0 := lN_n0 hb0 hb
  rw [if_neg (by rw [lg_cmp_le]; exact fun q => by have := (pk_lLE (b := 0) hb (by decide)).mp q; omega), gd_t hne, pk_lRem ha hb0 hb]
  rfl
theorem dv_gcd : ∀ (m F a b : Nat), m ≤ 63 → a < 2 ^ 63 → b < 2 ^ m → 2 * m < F → vLoop m_L_divisor_L28 F (lN a, lN b) = some (lN (Nat.gcd a b))
  | m, 0, a, b, _, _, _, h => by omega
  | m, F + 1, a, b, hm, ha, hb, hF => by
    have hb63 : b < 2 ^ 63 := Nat.lt_of_lt_of_le hb (Nat.pow_le_pow_right (by decide) hm)
    unfold vLoop
    rcases Nat.eq_zero_or_pos b with rfl | h0
    · rw [dl_0, Nat.gcd_zero_right]
    · rw [dl_s ha h0 hb63]
      cases m with
      | zero => omega
      | succ m =>
        cases F with
        | zero => omega
        | succ F =>
          have hg : Nat.gcd a b = Nat.gcd b (a % b) := by rw [Nat.gcd_comm a b, Nat.gcd_rec b a, Nat.gcd_comm]
          have hr := Nat.mod_lt a h0
          simp only []
          unfold vLoop
          rcases Nat.eq_zero_or_pos (a % b) with h1 | h1
          · rw [h1, dl_0, hg, h1, Nat.gcd_zero_right]
          · rw [dl_s hb63 h1 (by omega)]
            have h2 := mod_half h0 h1
            have hg2 : Nat.gcd b (a % b) = Nat.gcd (a % b) (b % (a % b)) := by rw [Nat.gcd_comm b (a % b), Nat.gcd_rec (a % b) b, Nat.gcd_comm]
            rw [hg, hg2]
            exact dv_gcd m F (a % b) (b % (a % b)) (by omega) (by omega) (by rw [Nat.pow_succ] at hb; omega) (by omega)
theorem dvs_e {a b : Nat} (ha : a < 2 ^ 63) (hb : b < 2 ^ 40) : m_L_divisor (lN a) (lN b) = some (lN (Nat.gcd a b)) := by
  unfold m_L_divisor
  rw [if_pos (by rw [lg_cmp_ge]; exact (pk_lLE (a := 0) (by decide) ha).mpr (Nat.zero_le a)), if_pos (by rw [lg_cmp_ge]; exact (pk_lLE (a := 0) (by decide) (by omega)).mpr (Nat.zero_le b)), Option.bind_some, Option.bind_some, dv_gcd 40 FUEL a b (by omega) ha hb (by unfold FUEL; omega), Option.bind_some]
theorem less_e {a b c d : Nat} (hb0 : 0 < b) (hb : b < 2 ^ 40) (hd0 : 0 < d) (hd : d < 2 ^ 40) (h1 : a * (d / Nat.gcd b d) < 2 ^ 62) (h2 : c * (b / Nat.gcd b d) < 2 ^ 62) : m_L_less (lN a) (lN b) (lN c) (lN d) = some (bz (decide (a * (d / Nat.gcd b d) < c * (b / Nat.gcd b d)))) := by
  have hg : 0 < Nat.gcd b d := Nat.gcd_pos_of_pos_left d hb0
  have hgb : Nat.gcd b d ≤ b := Nat.gcd_le_left d hb0
  have hn := lN_n0 hg (by omega)
  unfold m_L_less
  rw [dvs_e (by omega) hd, Option.bind_some, gd_t hn, gd_t hn, pk_lDiv (by omega) hg (by omega), pk_lDiv (by omega) hg (by omega), lN_mul, lN_mul]
  generalize a * (d / Nat.gcd b d) = x at h1 ⊢
  generalize c * (b / Nat.gcd b d) = y at h2 ⊢
  by_cases h : x < y
  · rw [if_neg (by rw [lg_cmp_ge, pk_lLE (by omega) (by omega)]; omega), decide_eq_true h]; rfl
  · rw [if_pos (by rw [lg_cmp_ge, pk_lLE (by omega) (by omega)]; omega), decide_eq_false h]; rfl
theorem lf {a b c d A C T : Nat} (hT : 0 < T) (h1 : a * T = A * b) (h2 : b ∣ T) (h3 : c * T = C * d) (h4 : d ∣ T) (hb : 0 < b) (hd : 0 < d) : a * (d / Nat.gcd b d) ≤ A ∧ c * (b / Nat.gcd b d) ≤ C ∧ (a * (d / Nat.gcd b d) < c * (b / Nat.gcd b d) ↔ A < C) := by
  have hg : 0 < Nat.gcd b d := Nat.gcd_pos_of_pos_left d hb
  obtain ⟨b1, eb⟩ := Nat.gcd_dvd_left b d
  obtain ⟨d1, ed⟩ := Nat.gcd_dvd_right b d
  have e1 : b / Nat.gcd b d = b1 := by
    have := Nat.mul_div_cancel_left b1 hg
    rw [← eb] at this; exact this
  have e2 : d / Nat.gcd b d = d1 := by
    have := Nat.mul_div_cancel_left d1 hg
    rw [← ed] at this; exact this
  have hl : Nat.lcm b d = b * d1 := by
    have h5 := Nat.gcd_mul_lcm b d
    have h6 : Nat.gcd b d * Nat.lcm b d = Nat.gcd b d * (b * d1) := by rw [h5, Nat.mul_left_comm, ← ed]
    exact Nat.eq_of_mul_eq_mul_left hg h6
  have hbd : b * d1 = d * b1 := by
    have h6 : Nat.gcd b d * (b * d1) = Nat.gcd b d * (d * b1) := by rw [Nat.mul_left_comm, ← ed, Nat.mul_left_comm, ← eb, Nat.mul_comm]
    exact Nat.eq_of_mul_eq_mul_left hg h6
  obtain ⟨z, ez⟩ := Nat.lcm_dvd h2 h4
  rw [hl] at ez
  have hz : 0 < z := by rcases Nat.eq_zero_or_pos z with q | q; rw [q] at ez; omega; exact q
  have k1 : a * d1 * z = A := by
    refine Nat.eq_of_mul_eq_mul_right hb ?_
    rw [← h1, ez]
    ac_rfl
  have k2 : c * b1 * z = C := by
    refine Nat.eq_of_mul_eq_mul_right hd ?_
    rw [← h3, ez, hbd]
    ac_rfl
  rw [e1, e2]
  refine ⟨?_, ?_, ?_⟩
  · rw [← k1]; exact Nat.le_mul_of_pos_right _ hz
  · rw [← k2]; exact Nat.le_mul_of_pos_right _ hz
  · rw [← k1, ← k2]; exact (Nat.mul_lt_mul_right hz).symm
theorem less_fr {A C T : Nat} (hT : 0 < T) (hT2 : T < 2 ^ 40) (hA : A < 2 ^ 62) (hC : C < 2 ^ 62) : m_L_less (lN (fr A T 0)) (lN (fr A T 1)) (lN (fr C T 0)) (lN (fr C T 1)) = some (bz (decide (A < C))) := by
  obtain ⟨a1, a2, a3⟩ := red_f (a := A) hT
  obtain ⟨c1, c2, c3⟩ := red_f (a := C) hT
  obtain ⟨l1, l2, l3⟩ := lf hT a1 a2 c1 c2 a3 c3
  have b1 := Nat.le_of_dvd hT a2
  have b2 := Nat.le_of_dvd hT c2
  rw [rA_fr, rB_fr, rA_fr, rB_fr, less_e a3 (by omega) c3 (by omega) (by omega) (by omega)]
  exact congrArg (fun q => some (bz q)) (decide_eq_decide.mpr l3)
theorem i32_n (x : Int32) : ∃ n, n < 2 ^ 32 ∧ x = nI n := ⟨x.toBitVec.toNat, x.toBitVec.isLt, by
  apply Int32.toBitVec_inj.mp
  show x.toBitVec = BitVec.ofNat 32 x.toBitVec.toNat
  simp⟩
theorem lup_e (x : Int32) {n : Nat} (h0 : 0 < n) (hn : n < 2 ^ 31) : ∃ j, j < n ∧ m_L_up x (nI n) = some (nI j) := by
  obtain ⟨a, ha, rfl⟩ := i32_n x
  have hm : nI a &&& (2147483647 : Int32) = nI (a % 2 ^ 31) := pk_andN ha 31 (by decide)
  refine ⟨a % 2 ^ 31 % n, Nat.mod_lt _ h0, ?_⟩
  unfold m_L_up
  rw [hm, gd_t (by rw [qeq_0 (by omega)]; omega), pk_rem (Nat.mod_lt _ (by decide)) h0 hn]
theorem cell_e (xs : Nat → Int32) {L k : Nat} (hL : L ≤ 260) (hk : k < 2 ^ 30) : ∃ r, m_L_cell L xs (nI k) = some r := by
  unfold m_L_cell
  by_cases h : L ≤ k
  · rw [if_pos (show Int32.ofNat L ≤ nI k by show nI L ≤ nI k; rw [qle (by omega) (by omega)]; exact h)]
    exact ⟨_, rfl⟩
  · rw [if_neg (show ¬ Int32.ofNat L ≤ nI k by show ¬ nI L ≤ nI k; rw [qle (by omega) (by omega)]; exact h), gd_in (by omega) (by omega)]
    exact ⟨_, rfl⟩
