section SQ
variable {b : ST} {D : ND}
theorem ifz {α : Type} {c : Prop} {d : Decidable c} {x y : α} (h : ¬ c) : (if bz (decide c) = 0 then x else y) = x := by rw [decide_eq_false h]; rfl
theorem splits_e (h : DK b D) {k : Nat} (hk : k < dL D) : ∃ b', m_L_splits b (nI k) = some ((1 : Int32), b') ∧ DK b' D := by
  have hD := h.1
  have h10 := hD.2.2.1
  obtain ⟨-, -, q1, q9, pq, v2⟩ := hD.2.2.2.2.2 k hk
  obtain ⟨i2, i3, i4⟩ := ka_info h hk
  obtain ⟨b1, w0, h1⟩ := ka_worth h hk (x := 0) (Or.inl rfl)
  obtain ⟨b2, w1, h2⟩ := ka_worth h1 hk (x := 1) (Or.inr rfl)
  obtain ⟨b3, s0, h3⟩ := ka_see h2 hk (n := 0) (by decide)
  obtain ⟨b4, r0, h4⟩ := ka_reach h3 (x := 0) (Or.inl rfl)
  obtain ⟨b5, r1, h5⟩ := ka_reach h4 (x := 1) (Or.inr rfl)
  obtain ⟨b6, s1, h6⟩ := ka_see h5 (show k < dL (dSee D k 0) from hk) (n := 1) (by decide)
  rw [dSee_2] at h6
  obtain ⟨b7, r2, h7⟩ := ka_reach h6 (x := 0) (Or.inl rfl)
  obtain ⟨b8, r3, h8⟩ := ka_reach h7 (x := 1) (Or.inr rfl)
  obtain ⟨b9, s2, h9⟩ := ka_see h8 (show k < dL (dSee D k 1) from hk) (n := 2) (by decide)
  rw [dSee_2] at h9
  obtain ⟨b10, r4, h10'⟩ := ka_reach h9 (x := 0) (Or.inl rfl)
  obtain ⟨b11, r5, h11⟩ := ka_reach h10' (x := 1) (Or.inr rfl)
  obtain ⟨b12, s3, h12⟩ := ka_see h11 (show k < dL (dSee D k 2) from hk) (n := dV D k) v2
  rw [dSee_2, dSee_s] at h12
  rw [see_v] at s1 s2 s3
  have hT := WB_pos hD (k := k)
  have hCA : R0 D k ≤ R1 D k := RS_ud hD hk
  have hAT : R1 D k ≤ WB D k := okW_le (okW_1 (okW_D hD) (Nat.le_refl 1))
  rw [(rr_0 hk).1, (rr_0 hk).2] at r0 r1
  rw [(rr_1 D k).1, (rr_1 D k).2] at r2 r3
  rw [(rr_2 D k).1, (rr_2 D k).2] at r4 r5
  have hWA : WA D k = R1 D k - R0 D k := rfl
  rw [hWA] at w0 w1
  generalize hA : R1 D k = A at *
  generalize hC : R0 D k = C at *
  generalize hTT : WB D k = T at *
  generalize hp : dP D k = p at *
  generalize hq : dQ D k = q at *
  obtain ⟨c, ec⟩ : ∃ c, c = fr A T 0 := ⟨_, rfl⟩
  obtain ⟨d, ed⟩ : ∃ d, d = fr A T 1 := ⟨_, rfl⟩
  obtain ⟨e, ee⟩ : ∃ e, e = fr C T 0 := ⟨_, rfl⟩
  obtain ⟨f, ef⟩ : ∃ f, f = fr C T 1 := ⟨_, rfl⟩
  obtain ⟨M, eM⟩ : ∃ M, M = d / Nat.gcd d f * f := ⟨_, rfl⟩
  obtain ⟨hi, ehi⟩ : ∃ hi, hi = M / d * c := ⟨_, rfl⟩
  obtain ⟨lo, elo⟩ : ∃ lo, lo = M / f * e := ⟨_, rfl⟩
  obtain ⟨n1, n2, n3, n4, n5, n6, n7, n8, n9, n10, n11, n12⟩ := spl_num (p := p) (q := q) q1 pq hT.1 hCA hAT ec ed ee ef eM ehi elo
  have hqT : 0 < q * T := Nat.mul_pos q1 hT.1
  have hqT2 : q * T ≤ 9 * 3486784401 := Nat.mul_le_mul q9 hT.2
  have hqA : q * A ≤ q * T := Nat.mul_le_mul_left _ hAT
  have hqC : q * C ≤ q * T := Nat.mul_le_mul_left _ (Nat.le_trans hCA hAT)
  have hmid1 : p * A + (q - p) * C ≤ q * A := by
    have e1 : (q - p) * C ≤ (q - p) * A := Nat.mul_le_mul_left _ hCA
    have e2 : p * A + (q - p) * A = q * A := by rw [← Nat.add_mul]; congr 1; omega
    omega
  have hmid2 : q * C ≤ p * A + (q - p) * C := by
    have e1 : p * C ≤ p * A := Nat.mul_le_mul_left _ hCA
    have e2 : p * C + (q - p) * C = q * C := by rw [← Nat.add_mul]; congr 1; omega
    omega
  have l1 := less_fr (A := A) (C := C) hT.1 (by omega) (by omega) (by omega)
  have l2 := less_fr (A := q * A) (C := p * A + (q - p) * C) hqT (by omega) (by omega) (by omega)
  have l3 := less_fr (A := p * A + (q - p) * C) (C := q * C) hqT (by omega) (by omega) (by omega)
  rw [fr_mul q1, fr_mul q1] at l2 l3
  rw [← ec] at l1 l2 r2
  rw [← ed] at l1 l2 r3
  rw [← ee] at l1 l3 r4
  rw [← ef] at l1 l3 r5
  rw [n11 0] at l2 l3 r0
  rw [n11 1] at l2 l3 r1
  rw [n12 0] at w0
  rw [n12 1] at w1
  have g0 : 0 < Nat.gcd d f := Nat.gcd_pos_of_pos_left f n1
  have gle : Nat.gcd d f ≤ d := Nat.gcd_le_left f n1
  have eMl : lN d / lN (Nat.gcd d f) * lN f = lN M := by rw [pk_lDiv (by omega) g0 (by omega), lN_mul, ← eM]
  have ehl : lN M / lN d * lN c = lN hi := by rw [pk_lDiv (by omega) n1 (by omega), lN_mul, ← ehi]
  have ell : lN M / lN f * lN e = lN lo := by rw [pk_lDiv (by omega) n3 (by omega), lN_mul, ← elo]
  have b1' : p * hi ≤ p * M := Nat.mul_le_mul_left _ n10
  have b2' : (q - p) * lo ≤ (q - p) * M := Nat.mul_le_mul_left _ (Nat.le_trans n9 n10)
  have b3' : p * M + (q - p) * M = q * M := by rw [← Nat.add_mul]; congr 1; omega
  have b4' : q * M ≤ 9 * 3486784401 := Nat.mul_le_mul q9 (Nat.le_trans n8 hT.2)
  have hZ0 : 0 < q * M := Nat.mul_pos q1 n7
  have eYl : lN p * lN hi + (lN q - lN p) * lN lo = lN (p * hi + (q - p) * lo) := by rw [lN_mul, lN_sub pq, lN_mul, lN_add]
  have eZl : lN q * lN M = lN (q * M) := lN_mul _ _
  have hYZ : p * hi + (q - p) * lo ≤ q * M := by omega
  generalize p * hi + (q - p) * lo = Y at *
  generalize q * M = Z at *
  have x5 : (nI p).toInt64 = lN p := nI_l (by omega)
  have x8 : (nI q).toInt64 = lN q := nI_l (by omega)
  have gY : 0 < Nat.gcd Y Z := Nat.gcd_pos_of_pos_right Y hZ0
  have gYle : Nat.gcd Y Z ≤ Z := Nat.gcd_le_right Y hZ0
  have gW : 0 < Nat.gcd (hi - lo) M := Nat.gcd_pos_of_pos_right _ n7
  have gWle : Nat.gcd (hi - lo) M ≤ M := Nat.gcd_le_right _ n7
  have f0 : fr (hi - lo) M 0 = (hi - lo) / Nat.gcd (hi - lo) M := rfl
  have f1 : fr (hi - lo) M 1 = M / Nat.gcd (hi - lo) M := rfl
  have f2 : fr Y Z 0 = Y / Nat.gcd Y Z := rfl
  have f3 : fr Y Z 1 = Z / Nat.gcd Y Z := rfl
  have hw1 : 1 ≤ fr (hi - lo) M 1 := (red_f n7).2.2
  have hw1b : fr (hi - lo) M 1 ≤ M := Nat.div_le_self _ _
  have hw0b : fr (hi - lo) M 0 ≤ hi - lo := Nat.div_le_self _ _
  refine ⟨b12, ?_, h12⟩
  unfold m_L_splits
  rw [i4, Option.bind_some, i2, Option.bind_some, lt_f, i3, Option.bind_some, lt_f, w0, Option.bind_some, un_f, w1, Option.bind_some, un_f, show m_X9_see b2 (nI k) (0 : Int32) = _ from s0, Option.bind_some, un_f, if_pos rfl, r0, Option.bind_some, un_f, r1, Option.bind_some, un_f]
  rw [show m_X9_see b5 (nI k) (1 : Int32) = _ from s1, Option.bind_some, un_f, if_pos (show nI 0 = (0 : Int32) from rfl), r2, Option.bind_some, un_f, r3, Option.bind_some, un_f]
  rw [show m_X9_see b8 (nI k) (2 : Int32) = _ from s2, Option.bind_some, un_f, if_pos (show nI 1 = (1 : Int32) from rfl), r4, Option.bind_some, un_f, r5, Option.bind_some, un_f]
  rw [s3, Option.bind_some, un_f, if_pos (show nI 2 = (2 : Int32) from rfl), l1, Option.bind_some, ifz (by omega), l2, Option.bind_some, ifz (by omega), l3, Option.bind_some, ifz (by omega)]
  rw [if_neg (by rw [lg_cmp_lt]; exact fun z => by have := (pk_lLT (b := 0) (by omega) (by decide)).mp z; omega), if_pos (by rw [lg_cmp_ge]; exact (pk_lLE (a := 1) (by decide) (by omega)).mpr hw1), dvs_e (by omega) (by omega), Option.bind_some, gd_t (lN_n0 g0 (by omega)), lt_f, eMl, gd_t (lN_n0 n1 (by omega)), lt_f, ehl, gd_t (lN_n0 n3 (by omega)), lt_f, ell, lt_f, x5, x8, eYl, lt_f, eZl, dvs_e (by omega) (by omega), Option.bind_some, lN_sub n9, dvs_e (by omega) (by omega), Option.bind_some]
  rw [gd_t (lN_n0 gY (by omega)), pk_lDiv (by omega) gY (by omega), ← f2, if_pos (by rw [lg_cmp_eq]), gd_t (lN_n0 gY (by omega)), pk_lDiv (by omega) gY (by omega), ← f3, if_pos (by rw [lg_cmp_eq]), gd_t (lN_n0 gW (by omega)), pk_lDiv (by omega) gW (by omega), ← f0, if_pos (by rw [lg_cmp_eq]), gd_t (lN_n0 gW (by omega)), pk_lDiv (by omega) gW (by omega), ← f1, if_pos (by rw [lg_cmp_eq])]
end SQ
