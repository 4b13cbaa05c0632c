/-! the acts that change the net; what it counts -/
section DA
variable {b : ST} {D : ND}
theorem ED_00 (a e : Nat → Nat) : ∀ n, ED a e n 0 = []
  | 0 => rfl
  | n + 1 => by unfold ED; rw [if_neg (by simp), ED_00 a e n]
theorem ED_dn {a e : Nat → Nat} {n s : Nat} (hs : s < 2 ^ n) : ED a e (n + 1) s = ED a e n s := by
  show (if s.testBit n = true then _ else _) = _
  rw [if_neg (by rw [Nat.testBit_lt_two_pow hs]; decide)]
theorem ka_stations (h : DK b D) {n : Nat} (h2 : 2 ≤ n) (h7 : n ≤ 7) : ∃ b', m_X9_stations b (nI n) = some (nI (dN D), b') ∧ DK b' (dSta D n) := by
  obtain ⟨hD, hC, hJ⟩ := h
  unfold m_X9_stations m_X2_stationCount m_X2_renew
  rw [if_neg (by rw [qlt_2 (by omega)]; omega), if_pos (by rw [qge_7 (by omega)]; omega), Option.bind_some, hC.1]
  refine ⟨_, rfl, ⟨h2, h7, Nat.zero_le _, by show 0 < n; omega, Nat.two_pow_pos _, fun k hk => absurd hk (Nat.not_lt_zero k)⟩, ⟨rfl, rfl, rfl, rfl, hC.2.2.2.2⟩, fun s hs => ?_⟩
  have hs0 : s = 0 := by
    have : s < 1 := hs
    omega
  subst hs0
  obtain ⟨J, h1, h2, h3⟩ := hJ 0 (Nat.two_pow_pos _)
  refine ⟨J, h1, h2, fun v u hv hu => ?_⟩
  rw [h3 v u hv hu, ED_00]
  rfl
theorem ka_back (h : DK b D) (h0 : dL D ≠ 0) : ∃ b', m_X9_back b = some (nI (dL D - 1), b') ∧ DK b' (dBack D) := by
  obtain ⟨hD, hC, hJ⟩ := h
  have hL := hD.2.2.1
  have h1 : nI (dL D) - (1 : Int32) = nI (dL D - 1) := pk_sub (show 1 ≤ dL D by omega)
  unfold m_X9_back m_X2_linkCount m_X2_dropLast
  rw [Option.bind_some, hC.2.1, if_neg (by rw [qeq_0 (by omega)]; exact h0), if_neg (by rw [qge_0 (by omega)]; omega), h1]
  refine ⟨wI b 1 (nI (dL D - 1)), rfl, ⟨hD.1, hD.2.1, by show dL D - 1 ≤ 10; omega, hD.2.2.2.1, hD.2.2.2.2.1, fun k hk => hD.2.2.2.2.2 k (by have : k < dL D - 1 := hk; omega)⟩, ⟨hC.1, rfl, hC.2.2.1, hC.2.2.2.1, hC.2.2.2.2⟩, fun s hs => ?_⟩
  have hs : s < 2 ^ (dL D - 1) := hs
  have hp : dL D = (dL D - 1) + 1 := by omega
  obtain ⟨J, k1, k2, k3⟩ := hJ s (Nat.lt_of_lt_of_le hs (Nat.pow_le_pow_right (by decide) (by omega)))
  have he : ED (dA D) (dE D) (dL D) s = ED (dA D) (dE D) (dL D - 1) s := by
    have h2 := ED_dn (a := dA D) (e := dE D) hs
    rw [← hp] at h2
    exact h2
  rw [he] at k3
  exact ⟨J, k1, k2, k3⟩
theorem ka_source (h : DK b D) {k : Nat} (hk : k < dN D) : ∃ b', m_X9_source b (nI k) = some (nI (dS D), b') ∧ DK b' (dSrc D k) := by
  obtain ⟨hD, hC, hJ⟩ := h
  unfold m_X9_source m_X2_sourceStation m_X2_setSource
  rw [hs_e hC hD, stn_k hD hk, Option.bind_some, if_neg (by decide), Option.bind_some, hC.2.2.1]
  exact ⟨wI b 2 (nI k), rfl, ⟨hD.1, hD.2.1, hD.2.2.1, hk, hD.2.2.2.2.1, hD.2.2.2.2.2⟩, ⟨hC.1, hC.2.1, rfl, hC.2.2.2.1, hC.2.2.2.2⟩, hJ⟩
theorem ka_goals (h : DK b D) {n : Nat} (hn : n < 2 ^ dN D) : ∃ b', m_X9_goals b (nI n) = some (nI (dG D), b') ∧ DK b' (dGo D n) := by
  obtain ⟨hD, hC, hJ⟩ := h
  have hp : 2 ^ dN D ≤ 2 ^ 7 := Nat.pow_le_pow_right (by decide) hD.2.1
  unfold m_X9_goals m_X2_goalBits m_X2_setGoals
  rw [if_neg (nI_pos (by omega)), as_e hC hD, Option.bind_some, if_pos (by rw [qle (by omega) (by omega)]; omega), Option.bind_some, hC.2.2.2.1]
  exact ⟨wI b 3 (nI n), rfl, ⟨hD.1, hD.2.1, hD.2.2.1, hD.2.2.2.1, hn, hD.2.2.2.2.2⟩, ⟨hC.1, hC.2.1, hC.2.2.1, rfl, hC.2.2.2.2⟩, hJ⟩
theorem ka_see (h : DK b D) {k n : Nat} (hk : k < dL D) (hn : n ≤ 2) : ∃ b', m_X9_see b (nI k) (nI n) = some (nI (dV D k), b') ∧ DK b' (dSee D k n) := by
  obtain ⟨hD, hC, hJ⟩ := h
  have hL := hD.2.2.1
  unfold m_X9_see m_X2_setSeen
  rw [hl_k hC hD hk, Option.bind_some, if_neg (by decide), if_neg (nI_pos (by omega)), if_pos (by rw [qge_2 (by omega)]; exact hn), se_e hC hD hk, Option.bind_some, Option.bind_some, if_neg (by decide), gd_in (by omega) (by omega), nI_clamp (by omega)]
  refine ⟨wA b 4 k (nI n), rfl, ⟨hD.1, hD.2.1, hD.2.2.1, hD.2.2.2.1, hD.2.2.2.2.1, fun j hj => ?_⟩, ⟨hC.1, hC.2.1, hC.2.2.1, hC.2.2.2.1, hC.2.2.2.2.1, hC.2.2.2.2.2.1, hC.2.2.2.2.2.2.1, hC.2.2.2.2.2.2.2.1, upI hC.2.2.2.2.2.2.2.2 rfl⟩, hJ⟩
  have h1 := hD.2.2.2.2.2 j hj
  refine ⟨h1.1, h1.2.1, h1.2.2.1, h1.2.2.2.1, h1.2.2.2.2.1, ?_⟩
  show va_up (dV D) k n j ≤ 2
  unfold va_up
  split
  · exact hn
  · exact h1.2.2.2.2.2
theorem ka_chance (h : DK b D) {k i j : Nat} (hk : k < dL D) (h1 : 1 ≤ j) (h9 : j ≤ 9) (hij : i ≤ j) : ∃ b', m_X9_chance b (nI k) (nI i) (nI j) = some (nI (10 * dP D k + dQ D k), b') ∧ DK b' (dChg D k i j) := by
  obtain ⟨hD, hC, hJ⟩ := h
  have hL := hD.2.2.1
  have hch : chn (nI i).toInt64 (nI j).toInt64 = true := by
    rw [nI_l (by omega), nI_l (by omega)]
    exact decide_eq_true (by rw [lN_toInt (by omega), lN_toInt (by omega)]; omega)
  unfold m_X9_chance m_X2_setChance
  rw [hl_k hC hD hk, Option.bind_some, if_neg (by decide), chance_e, hch, Option.bind_some, if_neg (by decide), ab_e hC hD hk, be_e hC hD hk, Option.bind_some, Option.bind_some]
  dsimp only [lt]
  rw [Option.bind_some, if_neg (by decide), gd_in (by omega) (by omega), gd_in (by omega) (by omega), nI_clamp (by omega), Option.bind_some, show (10 : Int32) * nI (dP D k) + nI (dQ D k) = nI (10 * dP D k + dQ D k) from by rw [show (10 : Int32) = nI 10 from rfl, pk_mul, nI_add]]
  refine ⟨wA (wA b 2 k (nI i)) 3 k (nI j), rfl, ⟨hD.1, hD.2.1, hD.2.2.1, hD.2.2.2.1, hD.2.2.2.2.1, fun l hl => ?_⟩, ⟨hC.1, hC.2.1, hC.2.2.1, hC.2.2.2.1, hC.2.2.2.2.1, hC.2.2.2.2.2.1, upI hC.2.2.2.2.2.2.1 rfl, upI hC.2.2.2.2.2.2.2.1 rfl, hC.2.2.2.2.2.2.2.2⟩, hJ⟩
  have h2 := hD.2.2.2.2.2 l hl
  refine ⟨h2.1, h2.2.1, ?_⟩
  show 1 ≤ va_up (dQ D) k j l ∧ va_up (dQ D) k j l ≤ 9 ∧ va_up (dP D) k i l ≤ va_up (dQ D) k j l ∧ _
  unfold va_up
  split
  · exact ⟨h1, h9, hij, h2.2.2.2.2.2⟩
  · exact h2.2.2
theorem ka_link (h : DK b D) {x y p q : Nat} (hL : dL D < 10) (hx : x < dN D) (hy : y < dN D) (hxy : x ≠ y) (h1 : 1 ≤ q) (h9 : q ≤ 9) (hpq : p ≤ q) : ∃ b', m_X9_link b (nI x) (nI y) (nI p) (nI q) = some (nI (dL D), b') ∧ DK b' (dAdd D (if y < x then y else x) (if x < y then y else x) p q) := by
  obtain ⟨hD, hC, hJ⟩ := h
  have hN := hD.2.1
  have hmay : may D (nI x).toInt64 (nI y).toInt64 (nI p).toInt64 (nI q).toInt64 = true := by
    unfold may
    rw [stn_k hD hx, stn_k hD hy, show decide ((nI x).toInt64 = (nI y).toInt64) = false from decide_eq_false (by
      rw [nI_l (by omega), nI_l (by omega)]
      exact fun z => hxy ((pk_lEQ (by omega) (by omega)).mp z)), show chn (nI p).toInt64 (nI q).toInt64 = true from by
      rw [nI_l (by omega), nI_l (by omega)]
      exact decide_eq_true (by rw [lN_toInt (by omega), lN_toInt (by omega)]; omega)]
    rfl
  have e1 : (if nI y < nI x then nI y else nI x) = nI (if y < x then y else x) := by
    by_cases q : y < x
    · rw [if_pos q, if_pos (show nI y < nI x by rw [qlt (by omega) (by omega)]; exact q)]
    · rw [if_neg q, if_neg (show ¬ nI y < nI x by rw [qlt (by omega) (by omega)]; exact q)]
  have e2 : (if nI x < nI y then nI y else nI x) = nI (if x < y then y else x) := by
    by_cases q : x < y
    · rw [if_pos q, if_pos (show nI x < nI y by rw [qlt (by omega) (by omega)]; exact q)]
    · rw [if_neg q, if_neg (show ¬ nI x < nI y by rw [qlt (by omega) (by omega)]; exact q)]
  have hm : (if y < x then y else x) < (if x < y then y else x) := by
    repeat' split
    all_goals omega
  have hmx : (if x < y then y else x) < dN D := by split <;> omega
  generalize hmn : (if y < x then y else x) = mn at e1 hm ⊢
  generalize hmx2 : (if x < y then y else x) = mx at e2 hm hmx ⊢
  have hD2 : okD (dAdd D mn mx p q) := by
    refine ⟨hD.1, hD.2.1, by show dL D + 1 ≤ 10; omega, hD.2.2.2.1, hD.2.2.2.2.1, fun k hk => ?_⟩
    have hk : k < dL D + 1 := hk
    show va_up (dA D) (dL D) mn k < va_up (dE D) (dL D) mx k ∧ va_up (dE D) (dL D) mx k < dN D ∧ 1 ≤ va_up (dQ D) (dL D) q k ∧ va_up (dQ D) (dL D) q k ≤ 9 ∧ va_up (dP D) (dL D) p k ≤ va_up (dQ D) (dL D) q k ∧ va_up (dV D) (dL D) 0 k ≤ 2
    unfold va_up
    by_cases hkL : k = dL D
    · simp only [if_pos hkL]; omega
    · simp only [if_neg hkL]; exact hD.2.2.2.2.2 k (by omega)
  have hC2 : repC (wI (wA (wA (wA (wA (wA b 0 (dL D) (nI mn)) 1 (dL D) (nI mx)) 2 (dL D) (nI p)) 3 (dL D) (nI q)) 4 (dL D) (0 : Int32)) 1 (nI (dL D + 1))) (dAdd D mn mx p q) := ⟨hC.1, rfl, hC.2.2.1, hC.2.2.2.1, upI hC.2.2.2.2.1 rfl, upI hC.2.2.2.2.2.1 rfl, upI hC.2.2.2.2.2.2.1 rfl, upI hC.2.2.2.2.2.2.2.1 rfl, upI hC.2.2.2.2.2.2.2.2 rfl⟩
  have hup : ∀ (f : Nat → Nat) (v k : Nat), k < dL D → f k = va_up f (dL D) v k := fun f v k hk => by unfold va_up; rw [if_neg (by omega)]
  obtain ⟨F, hF1, hF2⟩ := as_k (k := dL D) hC2 hD2 rfl (fun s hs => by
    obtain ⟨J, j1, j2, j3⟩ := hJ s hs
    refine ⟨J, j1, ?_⟩
    have he : ED (dA D) (dE D) (dL D) s = ED (dA (dAdd D mn mx p q)) (dE (dAdd D mn mx p q)) (dL D) s := ED_cong (fun _ _ => rfl) (fun k hk => ⟨hup (dA D) mn k hk, hup (dE D) mx k hk⟩)
    rw [← he]
    exact ⟨j2, j3⟩)
  refine ⟨wC (wI (wA (wA (wA (wA (wA b 0 (dL D) (nI mn)) 1 (dL D) (nI mx)) 2 (dL D) (nI p)) 3 (dL D) (nI q)) 4 (dL D) (0 : Int32)) 1 (nI (dL D + 1))) 0 F, ?_, hD2, hC2, hF2⟩
  have hadd : m_X2_addLink b (nI x) (nI y) (nI p) (nI q) = some (nI (dL D), wC (wI (wA (wA (wA (wA (wA b 0 (dL D) (nI mn)) 1 (dL D) (nI mx)) 2 (dL D) (nI p)) 3 (dL D) (nI q)) 4 (dL D) (0 : Int32)) 1 (nI (dL D + 1))) 0 F) := by
    unfold m_X2_addLink
    simp only [lt, e1, e2]
    rw [hC.2.1, if_neg (nI_pos (by omega)), if_pos (by rw [qlt_10 (by omega)]; omega)]
    simp only [gd_in (i := dL D) (N := 10) (by omega) (by omega), gd_i2 (i := dL D) (N := 10) (by omega) (by omega), nI_clamp (n := dL D) (by omega)]
    rw [show (wA (wA (wA (wA (wA b 0 (dL D) (nI mn)) 1 (dL D) (nI mx)) 2 (dL D) (nI p)) 3 (dL D) (nI q)) 4 (dL D) (0 : Int32)).1 1 + (1 : Int32) = nI (dL D + 1) from (congrArg (fun z => z + (1 : Int32)) hC.2.1).trans (nI_1 _), hF1]
    rfl
  unfold m_X9_link
  rw [may_e hC hD, hmay, Option.bind_some, if_neg (by decide), hr_e hC hD, Option.bind_some, bz_if, if_pos (decide_eq_true hL), hadd]
  rfl
theorem ka_info (h : DK b D) {k : Nat} (hk : k < dL D) : m_X9_info b (nI k) (2 : Int32) = some (nI (dP D k)) ∧ m_X9_info b (nI k) (3 : Int32) = some (nI (dQ D k)) ∧ m_X9_info b (nI k) (4 : Int32) = some (nI (dV D k)) := by
  obtain ⟨hD, hC, hJ⟩ := h
  unfold m_X9_info
  rw [hl_k hC hD hk, ab_e hC hD hk, be_e hC hD hk, se_e hC hD hk]
  exact ⟨rfl, rfl, rfl⟩
theorem ka_count1 (h : DK b D) : m_X9_count b (1 : Int32) = some (nI (dL D)) := congrArg some h.2.1.2.1
theorem ka_count3 (h : DK b D) : m_X9_count b (3 : Int32) = some (nI (dG D)) := congrArg some h.2.1.2.2.2.1
/-- the links that are not seen down -/
def ndn (D : ND) : Nat := bm (fun k => !(dV D k == 2)) (dL D)
theorem ka_count6 (h : DK b D) : m_X9_count b (6 : Int32) = some (bz (rch D (ndn D))) := by
  obtain ⟨hD, hC, hJ⟩ := h
  have hL := hD.2.2.1
  have hp : 2 ^ dL D ≤ 2 ^ 10 := Nat.pow_le_pow_right (by decide) hL
  have hwo : wo (2 ^ dL D - 1) (bm (fun k => dV D k == 2) (dL D)) = bm (fun k => !(dV D k == 2)) (dL D) := bit_ext wo_all_lt (bm_lt _ _) (fun i hi => by rw [wo_bit, all_bit, bm_bit, bm_bit, decide_eq_true hi]; rfl)
  have hl1 := bm_lt (fun k => dV D k == 2) (dL D)
  unfold m_X9_count
  rw [if_neg (by decide), if_neg (by decide), if_neg (by decide), if_neg (by decide), if_neg (by decide), if_neg (by decide), if_pos rfl, al_e hC hD, Option.bind_some, show (2 : Int32) = nI 2 from rfl, ls_e hC hD (by omega), Option.bind_some, wo_i, hwo, re_e hC hJ hD (bm_lt _ _), Option.bind_some, bz_if]
  unfold ndn
  cases rch D (bm (fun k => !(dV D k == 2)) (dL D)) <;> rfl
theorem ka_sets (h : DK b D) {k : Nat} (hk : k ≤ dL D) : ∃ b', m_X9_sets b (nI k) = some (nI (SC D k), b') ∧ DK b' D := by
  obtain ⟨hD, hC, hJ⟩ := id h
  have hL := hD.2.2.1
  obtain ⟨R, r1, r2⟩ := cfill_e hC hJ hD
  have hK : CNT (wD b 5 R) D := r2
  unfold m_X9_sets m_X2_linkCount
  rw [if_neg (nI_pos (by omega)), Option.bind_some, hC.2.1, if_pos (by rw [qle (by omega) (by omega)]; exact hk), r1, Option.bind_some, of_e hK (by omega), Option.bind_some]
  exact ⟨_, rfl, h.cn⟩
theorem ka_like (h : DK b D) {a c : Nat} (h1 : 1 ≤ c) (h9 : c ≤ 99) (hac : a ≤ c) {x : Int32} (hx : x = 0 ∨ x = 1) : ∃ b', m_X9_like b (nI a) (nI c) x = some (lkT D a c x, b') ∧ DK b' D := by
  obtain ⟨hD, hC, hJ⟩ := id h
  obtain ⟨R, r1, r2⟩ := cfill_e hC hJ hD
  have hK : CNT (wD b 5 R) D := r2
  have hI := h.cn (R := R)
  unfold m_X9_like
  rw [if_neg (by rw [qlt_1 (by omega)]; omega), if_neg (show ¬ (99 : Int32) < nI c by show ¬ nI 99 < nI c; rw [qlt (by omega) (by omega)]; omega), if_neg (nI_pos (by omega)), if_neg (by rw [qlt (by omega) (by omega)]; omega), isSide_e, two_of hx, Option.bind_some, if_neg (by decide), r1, Option.bind_some, alike_e hI.2.1 hD hK hac h9, Option.bind_some, Option.bind_some]
  exact ⟨_, rfl, hI⟩
theorem ka_least0 (h : DK b D) : m_X9_least b (0 : Int32) = some (amI (mnf (fcC D) (2 ^ dL D))) := by
  unfold m_X9_least
  rw [isSide_e, two_of (Or.inl rfl), Option.bind_some, if_neg (by decide), if_pos rfl, lc_e h.2.1 h.2.2 h.1]
  rfl
theorem ka_least1 (h : DK b D) : m_X9_least b (1 : Int32) = some (amI (mnf (fwC D) (2 ^ dL D))) := by
  unfold m_X9_least
  rw [isSide_e, two_of (Or.inr rfl), Option.bind_some, if_neg (by decide), if_neg (by decide), lw_e h.2.1 h.2.2 h.1]
  rfl
theorem ka_wide (h : DK b D) {k : Nat} (hk : k < dL D) : ∃ b', m_X9_wide b (nI k) = some (nI (WID D k), b') ∧ DK b' D := by
  obtain ⟨hD, hC, hJ⟩ := id h
  obtain ⟨F, f1⟩ := wb_e hC hJ hD hk
  unfold m_X9_wide
  rw [hl_k hC hD hk, Option.bind_some, if_neg (by decide), f1, Option.bind_some]
  exact ⟨_, rfl, h.wb⟩
theorem ka_widest (h : DK b D) : ∃ b', m_X9_widest b = some (nI (MXW D (dL D)), b') ∧ DK b' D := by
  obtain ⟨hD, hC, hJ⟩ := id h
  obtain ⟨F, f1⟩ := gw_e hC hJ hD
  unfold m_X9_widest
  rw [f1, Option.bind_some]
  exact ⟨_, rfl, h.wb⟩
end DA
