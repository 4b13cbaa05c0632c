/-! ===== order of ints, in all its forms, and through longs ===== -/
theorem fa_lt (a b : Int32) : a < b ↔ a.toInt < b.toInt := Int32.lt_iff_toInt_lt
theorem fa_le (a b : Int32) : a ≤ b ↔ a.toInt ≤ b.toInt := Int32.le_iff_toInt_le
theorem fa_eq (a b : Int32) : a = b ↔ a.toInt = b.toInt := Int32.toInt_inj.symm
theorem fa_lt64 (a b : Int64) : a < b ↔ a.toInt < b.toInt := Int64.lt_iff_toInt_lt
theorem fa_le64 (a b : Int64) : a ≤ b ↔ a.toInt ≤ b.toInt := Int64.le_iff_toInt_le
theorem fa_eq64 (a b : Int64) : a = b ↔ a.toInt = b.toInt := Int64.toInt_inj.symm
/-- a comparison of two ints taken as longs -/
theorem fa_wide_lt (a b : Int32) : a.toInt64 < b.toInt64 ↔ a < b := by rw [fa_lt64, fa_lt, Int32.toInt_toInt64, Int32.toInt_toInt64]
theorem fa_wide_le (a b : Int32) : a.toInt64 ≤ b.toInt64 ↔ a ≤ b := by rw [fa_le64, fa_le, Int32.toInt_toInt64, Int32.toInt_toInt64]
theorem fa_wide_eq (a b : Int32) : a.toInt64 = b.toInt64 ↔ a = b := by rw [fa_eq64, fa_eq, Int32.toInt_toInt64, Int32.toInt_toInt64]
/-- one strict comparison gives all the others -/
theorem fa_of_lt {a b : Int32} (h : a < b) : a ≤ b ∧ ¬ b ≤ a ∧ ¬ b < a ∧ a ≠ b ∧ b ≠ a := by
  rw [fa_lt] at h
  refine ⟨?_, ?_, ?_, ?_, ?_⟩
  · rw [fa_le]; omega
  · rw [fa_le]; omega
  · rw [fa_lt]; omega
  · intro e; rw [fa_eq] at e; omega
  · intro e; rw [fa_eq] at e; omega
theorem fa_of_nlt {a b : Int32} (h : ¬ a < b) : b ≤ a := by
  rw [fa_lt] at h
  rw [fa_le]
  omega
theorem fa_of_nle {a b : Int32} (h : ¬ a ≤ b) : b < a := by
  rw [fa_le] at h
  rw [fa_lt]
  omega
theorem fa_le_ne {a b : Int32} (h : a ≤ b) (h2 : a ≠ b) : a < b := by
  rw [fa_le] at h
  rw [fa_lt]
  have h3 : a.toInt ≠ b.toInt := fun e => h2 ((fa_eq a b).mpr e)
  omega
theorem fa_three (a b : Int32) : a < b ∨ a = b ∨ b < a := by
  rw [fa_lt, fa_lt, fa_eq]
  omega
theorem fa_trans {a b c : Int32} (h : a < b) (h2 : b ≤ c) : a < c := by
  rw [fa_lt] at *
  rw [fa_le] at h2
  omega
/-! ===== small literals as numbers ===== -/
theorem fa_lit (n : Nat) : (OfNat.ofNat n : Int32) = nI n := rfl
theorem fa_litL (n : Nat) : (OfNat.ofNat n : Int64) = lN n := rfl
/-! ===== bits of a number: 'or', masks, one bit ===== -/
theorem fa_and (a b : Nat) : nI a &&& nI b = nI (a &&& b) := by
  apply Int32.toBitVec_inj.1
  show BitVec.ofNat 32 a &&& BitVec.ofNat 32 b = BitVec.ofNat 32 (a &&& b)
  apply BitVec.eq_of_getLsbD_eq
  intro i hi
  simp [hi]
theorem fa_or (a b : Nat) : nI a ||| nI b = nI (a ||| b) := by
  apply Int32.toBitVec_inj.1
  show BitVec.ofNat 32 a ||| BitVec.ofNat 32 b = BitVec.ofNat 32 (a ||| b)
  apply BitVec.eq_of_getLsbD_eq
  intro i hi
  simp [hi]
/-- a remainder by a power of two, as a mask -/
theorem fa_mask (n k : Nat) : nI n &&& nI (2 ^ k - 1) = nI (n % 2 ^ k) := by rw [fa_and, Nat.and_two_pow_sub_one_eq_mod]
/-- 'or' of a high part and a low one that don't meet is their sum -/
theorem fa_or_sum {a k : Nat} (b : Nat) (h : a < 2 ^ k) : nI (2 ^ k * b) ||| nI a = nI (2 ^ k * b + a) := by rw [fa_or, Nat.two_pow_add_eq_or_of_lt h]
/-- one bit, by 'and' with a power of two -/
theorem fa_bit {n j : Nat} (hj : j < 31) : nI n &&& nI (2 ^ j) = 0 ↔ n.testBit j = false := by
  have h2 : (2 : Nat) ^ j < 2 ^ 31 := Nat.pow_lt_pow_right (by decide) hj
  have hle : n &&& 2 ^ j ≤ 2 ^ j := Nat.and_le_right
  have e : n &&& 2 ^ j = 0 ↔ n.testBit j = false := by
    constructor
    · intro h
      have h1 : (n &&& 2 ^ j).testBit j = false := by rw [h]; simp
      rw [Nat.testBit_and] at h1
      first | simpa using h1 | simpa [Nat.testBit_two_pow_self] using h1 | simpa [Nat.testBit_two_pow] using h1
    · intro h
      apply Nat.eq_of_testBit_eq
      intro i
      rw [Nat.testBit_and]
      by_cases hi : j = i
      · subst hi; simp [h]
      · first | (simp [Nat.testBit_two_pow, hi]; done) | (simp [Nat.testBit_two_pow_of_ne hi]; done)
  rw [fa_and]
  constructor
  · intro h
    apply e.mp
    rcases Nat.eq_zero_or_pos (n &&& 2 ^ j) with z | z
    · exact z
    · exact absurd h (nI_ne0 z (Nat.lt_of_le_of_lt hle h2))
  · intro h
    rw [e.mpr h]; exact nI_0
/-- a remainder by a power of two of a number that isn't negative, as Java divides -/
theorem fa_rem {a k : Nat} (ha : a < 2 ^ 31) (hk : k < 31) : nI a - nI a / nI (2 ^ k) * nI (2 ^ k) = nI (a % 2 ^ k) := pk_rem ha (Nat.two_pow_pos k) (Nat.pow_lt_pow_right (by decide) hk)
/-! ===== lN n to 2^64: shifts, and, or, masks, one bit ===== -/
theorem wb_tb (n : Nat) : (lN n).toBitVec = BitVec.ofNat 64 n := rfl
theorem wb_inj {a b : Int64} (h : a.toBitVec = b.toBitVec) : a = b := Int64.toBitVec_inj.mp h
theorem wb_tn {n : Nat} (h : n < 2 ^ 64) : (lN n).toBitVec.toNat = n := by rw [wb_tb, BitVec.toNat_ofNat, Nat.mod_eq_of_lt h]
theorem wb_of (x : Int64) : ∃ n, n < 2 ^ 64 ∧ x = lN n := ⟨x.toBitVec.toNat, x.toBitVec.isLt, wb_inj (by rw [wb_tb]; simp)⟩
theorem wb_of32 (x : Int32) : ∃ n, n < 2 ^ 32 ∧ x = nI n := ⟨x.toBitVec.toNat, x.toBitVec.isLt, Int32.toBitVec_inj.mp (by show _ = BitVec.ofNat 32 _; simp)⟩
theorem wb_c : ∀ k, k < 64 → ((nI k).toInt64 &&& 63) = lN k := by decide +kernel
theorem wb_cu : ∀ k, k < 64 → ((nI k).toInt64.toUInt64 &&& Int64.toUInt64 63) = UInt64.ofNat k := by decide +kernel
theorem wb_sm : ∀ k, k < 64 → (BitVec.ofNat 64 k).smod 64 = BitVec.ofNat 64 k := by decide +kernel
theorem wb_pw {a b : Nat} (h : a ≤ b) : 2 ^ b = 2 ^ a * 2 ^ (b - a) := by rw [← Nat.pow_add]; congr 1; omega
theorem wb_lt2 {a b : Nat} (h : a < b) : 2 ^ a < 2 ^ b := Nat.pow_lt_pow_right (by decide) h
theorem wb_mod (n : Nat) : lN n = lN (n % 2 ^ 64) := wb_inj (by rw [wb_tb, wb_tb]; apply BitVec.eq_of_toNat_eq; rw [BitVec.toNat_ofNat, BitVec.toNat_ofNat, Nat.mod_mod])
theorem wb_shr {n k : Nat} (hn : n < 2 ^ 64) (hk : k < 64) : ((lN n).toUInt64 >>> ((nI k).toInt64.toUInt64 &&& Int64.toUInt64 63)).toInt64 = lN (n / 2 ^ k) := by
  rw [wb_cu k hk]
  apply wb_inj
  apply BitVec.eq_of_toNat_eq
  show ((lN n).toUInt64 >>> UInt64.ofNat k).toNat = (BitVec.ofNat 64 _).toNat
  have h1 : (UInt64.ofNat k).toNat = k := by
    show (BitVec.ofNat 64 k).toNat = k
    rw [BitVec.toNat_ofNat, Nat.mod_eq_of_lt (by omega)]
  have h2 : (lN n).toUInt64.toNat = n := wb_tn hn
  rw [UInt64.toNat_shiftRight, h1, h2, Nat.mod_eq_of_lt hk, Nat.shiftRight_eq_div_pow, BitVec.toNat_ofNat, Nat.mod_eq_of_lt (Nat.lt_of_le_of_lt (Nat.div_le_self _ _) hn)]
theorem wb_shl (n : Nat) {k : Nat} (hk : k < 64) : lN n <<< ((nI k).toInt64 &&& 63) = lN (n * 2 ^ k) := by
  rw [wb_c k hk]
  apply wb_inj
  rw [Int64.toBitVec_shiftLeft, wb_tb, wb_tb, wb_tb, wb_sm k hk]
  apply BitVec.eq_of_toNat_eq
  rw [BitVec.shiftLeft_eq', BitVec.toNat_shiftLeft, BitVec.toNat_ofNat, BitVec.toNat_ofNat, BitVec.toNat_ofNat, Nat.mod_eq_of_lt (show k < 2 ^ 64 by omega), Nat.shiftLeft_eq, Nat.mul_mod, Nat.mod_mod, ← Nat.mul_mod]
theorem wb_and {a b : Nat} (ha : a < 2 ^ 64) (hb : b < 2 ^ 64) : lN a &&& lN b = lN (a &&& b) := by
  apply wb_inj
  rw [Int64.toBitVec_and, wb_tb, wb_tb, wb_tb]
  apply BitVec.eq_of_toNat_eq
  rw [BitVec.toNat_and, BitVec.toNat_ofNat, BitVec.toNat_ofNat, BitVec.toNat_ofNat, Nat.mod_eq_of_lt ha, Nat.mod_eq_of_lt hb, Nat.mod_eq_of_lt (Nat.and_lt_two_pow _ hb)]
theorem wb_or {a b : Nat} (ha : a < 2 ^ 64) (hb : b < 2 ^ 64) : lN a ||| lN b = lN (a ||| b) := by
  apply wb_inj
  rw [Int64.toBitVec_or, wb_tb, wb_tb, wb_tb]
  apply BitVec.eq_of_toNat_eq
  rw [BitVec.toNat_or, BitVec.toNat_ofNat, BitVec.toNat_ofNat, BitVec.toNat_ofNat, Nat.mod_eq_of_lt ha, Nat.mod_eq_of_lt hb, Nat.mod_eq_of_lt (Nat.or_lt_two_pow ha hb)]
theorem wb_mask {n k : Nat} (hn : n < 2 ^ 64) (hk : k < 64) : lN n &&& lN (2 ^ k - 1) = lN (n % 2 ^ k) := by
  rw [wb_and hn (by have := wb_lt2 hk; omega), Nat.and_two_pow_sub_one_eq_mod]
theorem wb_a1 {n : Nat} (hn : n < 2 ^ 64) : lN n &&& 1 = lN (n % 2) := wb_mask (k := 1) hn (by decide)
theorem wb_bit {n k : Nat} (hn : n < 2 ^ 64) (hk : k < 64) : ((lN n).toUInt64 >>> ((nI k).toInt64.toUInt64 &&& Int64.toUInt64 63)).toInt64 &&& 1 = lN (n / 2 ^ k % 2) := by
  rw [wb_shr hn hk, wb_a1 (Nat.lt_of_le_of_lt (Nat.div_le_self _ _) hn)]
theorem wb_xor {q k : Nat} (hk : k < 63) (h : 2 ^ k ≤ q) (h2 : q < 2 ^ (k + 1)) : lN q ^^^ lN (2 ^ k) = lN (q - 2 ^ k) := by
  obtain ⟨r, rfl⟩ : ∃ r, q = 2 ^ k + r := ⟨q - 2 ^ k, by omega⟩
  have hr : r < 2 ^ k := by rw [Nat.pow_succ] at h2; omega
  have hx : (2 ^ k + r) ^^^ 2 ^ k = r := by
    apply Nat.eq_of_testBit_eq
    intro i
    rw [Nat.testBit_xor, Nat.testBit_two_pow]
    rcases Nat.lt_trichotomy i k with h | h | h
    · rw [Nat.testBit_two_pow_add_gt h]
      simp [show ¬ k = i by omega]
    · subst h
      rw [Nat.testBit_two_pow_add_eq]
      simp
    · have a1 : 2 ^ (k + 1) ≤ 2 ^ i := Nat.pow_le_pow_right (by decide) h
      rw [Nat.testBit_lt_two_pow (show 2 ^ k + r < 2 ^ i by omega), Nat.testBit_lt_two_pow (show r < 2 ^ i by omega)]
      simp [show ¬ k = i by omega]
  have b1 := wb_lt2 (show k + 1 < 64 by omega)
  have b2 := wb_lt2 (show k < 64 by omega)
  apply wb_inj
  rw [Int64.toBitVec_xor, wb_tb, wb_tb, wb_tb]
  apply BitVec.eq_of_toNat_eq
  rw [BitVec.toNat_xor, BitVec.toNat_ofNat, BitVec.toNat_ofNat, BitVec.toNat_ofNat, Nat.mod_eq_of_lt (by omega : 2 ^ k + r < 2 ^ 64), Nat.mod_eq_of_lt b2, hx, Nat.add_sub_cancel_left, Nat.mod_eq_of_lt (by omega)]
/-! ===== the first index with a property; a count ===== -/
/-- the first k < n with p k, n if there is none -/
def fa_first (p : Nat → Bool) : Nat → Nat
  | 0 => 0
  | n + 1 => if fa_first p n < n then fa_first p n else if p n then n else n + 1
theorem fa_first_le (p : Nat → Bool) : ∀ n, fa_first p n ≤ n
  | 0 => Nat.le_refl 0
  | n + 1 => by
    have ih := fa_first_le p n
    unfold fa_first
    split
    · omega
    · split
      · omega
      · omega
theorem fa_first_no (p : Nat → Bool) : ∀ n k, k < fa_first p n → p k = false
  | 0, k, h => absurd h (Nat.not_lt_zero k)
  | n + 1, k, h => by
    have ih := fa_first_no p n
    have hl := fa_first_le p n
    unfold fa_first at h
    split at h
    · exact ih k h
    · rename_i h1
      split at h
      · exact ih k (by omega)
      · rename_i h2
        by_cases e : k = n
        · subst e
          exact Bool.eq_false_iff.mpr h2
        · exact ih k (by omega)
theorem fa_first_yes (p : Nat → Bool) : ∀ n, fa_first p n < n → p (fa_first p n) = true
  | 0, h => absurd h (Nat.not_lt_zero _)
  | n + 1, h => by
    have ih := fa_first_yes p n
    have hl := fa_first_le p n
    unfold fa_first at h ⊢
    split at h
    · rename_i h1
      rw [if_pos h1]
      exact ih h1
    · rename_i h1
      rw [if_neg h1]
      split at h
      · rename_i h2
        rw [if_pos h2]
        exact h2
      · omega
/-- how many k < n have p k -/
def fa_cnt (p : Nat → Bool) : Nat → Nat
  | 0 => 0
  | n + 1 => fa_cnt p n + if p n then 1 else 0
theorem fa_cnt_le (p : Nat → Bool) : ∀ n, fa_cnt p n ≤ n
  | 0 => Nat.le_refl 0
  | n + 1 => by
    have ih := fa_cnt_le p n
    unfold fa_cnt
    split
    · omega
    · omega
theorem fa_cnt_yes {p : Nat → Bool} {n : Nat} (h : p n = true) : fa_cnt p (n + 1) = fa_cnt p n + 1 := by rw [fa_cnt, if_pos h]
theorem fa_cnt_no {p : Nat → Bool} {n : Nat} (h : p n = false) : fa_cnt p (n + 1) = fa_cnt p n := by rw [fa_cnt, if_neg (by rw [h]; decide)]; rfl
theorem fa_cnt_cong {p q : Nat → Bool} : ∀ {n : Nat}, (∀ k, k < n → p k = q k) → fa_cnt p n = fa_cnt q n
  | 0, _ => rfl
  | n + 1, h => by rw [fa_cnt, fa_cnt, fa_cnt_cong (fun k hk => h k (Nat.lt_succ_of_lt hk)), h n (Nat.lt_succ_self n)]
theorem fb_andL (a b : Nat) : lN a &&& lN b = lN (a &&& b) := by
  apply Int64.toBitVec_inj.1
  show BitVec.ofNat 64 a &&& BitVec.ofNat 64 b = BitVec.ofNat 64 (a &&& b)
  apply BitVec.eq_of_getLsbD_eq
  intro i hi
  simp [hi]
theorem fb_orL (a b : Nat) : lN a ||| lN b = lN (a ||| b) := by
  apply Int64.toBitVec_inj.1
  show BitVec.ofNat 64 a ||| BitVec.ofNat 64 b = BitVec.ofNat 64 (a ||| b)
  apply BitVec.eq_of_getLsbD_eq
  intro i hi
  simp [hi]
theorem fb_xorL (a b : Nat) : lN a ^^^ lN b = lN (a ^^^ b) := by
  apply Int64.toBitVec_inj.1
  show BitVec.ofNat 64 a ^^^ BitVec.ofNat 64 b = BitVec.ofNat 64 (a ^^^ b)
  apply BitVec.eq_of_getLsbD_eq
  intro i hi
  simp [hi]
theorem fb_xorI (a b : Nat) : nI a ^^^ nI b = nI (a ^^^ b) := by
  apply Int32.toBitVec_inj.1
  show BitVec.ofNat 32 a ^^^ BitVec.ofNat 32 b = BitVec.ofNat 32 (a ^^^ b)
  apply BitVec.eq_of_getLsbD_eq
  intro i hi
  simp [hi]
theorem fb_lN_inj {a b : Nat} (ha : a < 2 ^ 63) (hb : b < 2 ^ 63) : lN a = lN b ↔ a = b := by
  constructor
  · intro h
    have h1 : (BitVec.ofNat 64 a).toNat = (BitVec.ofNat 64 b).toNat := congrArg (fun x : Int64 => x.toBitVec.toNat) h
    rw [BitVec.toNat_ofNat, BitVec.toNat_ofNat, Nat.mod_eq_of_lt (by omega), Nat.mod_eq_of_lt (by omega)] at h1
    exact h1
  · rintro rfl; rfl
theorem fb_bit_nat (n j : Nat) : n &&& 2 ^ j = 0 ↔ n.testBit j = false := by
  constructor
  · intro h
    have h1 : (n &&& 2 ^ j).testBit j = false := by rw [h]; simp
    rw [Nat.testBit_and] at h1
    simpa using h1
  · intro h
    apply Nat.eq_of_testBit_eq
    intro i
    rw [Nat.testBit_and]
    by_cases hi : j = i
    · subst hi; simp [h]
    · first | (simp [Nat.testBit_two_pow, hi]; done) | (simp [Nat.testBit_two_pow_of_ne hi]; done)
theorem fb_bitL {n j : Nat} (hj : j < 63) : lN n &&& lN (2 ^ j) = 0 ↔ n.testBit j = false := by
  have h2 : (2 : Nat) ^ j < 2 ^ 63 := Nat.pow_lt_pow_right (by decide) hj
  have hle : n &&& 2 ^ j ≤ 2 ^ j := Nat.and_le_right
  rw [fb_andL, ← fb_bit_nat, show (0 : Int64) = lN 0 from rfl]
  exact fb_lN_inj (by omega) (by decide)
theorem fb_bit_set (n j i : Nat) : (n ||| 2 ^ j).testBit i = (n.testBit i || decide (i = j)) := by
  rw [Nat.testBit_or]
  by_cases h : j = i
  · subst h; simp
  · have h2 : ¬ i = j := fun e => h e.symm
    first | (simp [Nat.testBit_two_pow, h, h2]; done) | (simp [Nat.testBit_two_pow_of_ne h, h2]; done)
theorem fb_bit_flip (n j i : Nat) : (n ^^^ 2 ^ j).testBit i = (n.testBit i ^^ decide (i = j)) := by
  rw [Nat.testBit_xor]
  by_cases h : j = i
  · subst h; simp
  · have h2 : ¬ i = j := fun e => h e.symm
    first | (simp [Nat.testBit_two_pow, h, h2]; done) | (simp [Nat.testBit_two_pow_of_ne h, h2]; done)
theorem qle_0 {i : Nat} (h : i < 2 ^ 31) : ((0 : Int32) ≤ nI i) = (0 ≤ i) := propext (nI_leI (a := 0) (by decide) h)
theorem qlt_0 {i : Nat} (h : i < 2 ^ 31) : (nI i < (0 : Int32)) = (i < 0) := propext (nI_ltI (b := 0) h (by decide))
theorem qge_0 {i : Nat} (h : i < 2 ^ 31) : (nI i ≤ (0 : Int32)) = (i ≤ 0) := propext (nI_leI (b := 0) h (by decide))
theorem qgt_0 {i : Nat} (h : i < 2 ^ 31) : ((0 : Int32) < nI i) = (0 < i) := propext (nI_ltI (a := 0) (by decide) h)
theorem qeq_0 {i : Nat} (h : i < 2 ^ 31) : (nI i = (0 : Int32)) = (i = 0) := propext (nI_eq (b := 0) h (by decide))
theorem qad_0 (i : Nat) : nI i + (0 : Int32) = nI (i + 0) := nI_add i 0
theorem qle_1 {i : Nat} (h : i < 2 ^ 31) : ((1 : Int32) ≤ nI i) = (1 ≤ i) := propext (nI_leI (a := 1) (by decide) h)
theorem qlt_1 {i : Nat} (h : i < 2 ^ 31) : (nI i < (1 : Int32)) = (i < 1) := propext (nI_ltI (b := 1) h (by decide))
theorem qge_1 {i : Nat} (h : i < 2 ^ 31) : (nI i ≤ (1 : Int32)) = (i ≤ 1) := propext (nI_leI (b := 1) h (by decide))
theorem qgt_1 {i : Nat} (h : i < 2 ^ 31) : ((1 : Int32) < nI i) = (1 < i) := propext (nI_ltI (a := 1) (by decide) h)
theorem qeq_1 {i : Nat} (h : i < 2 ^ 31) : (nI i = (1 : Int32)) = (i = 1) := propext (nI_eq (b := 1) h (by decide))
theorem qad_1 (i : Nat) : nI i + (1 : Int32) = nI (i + 1) := nI_add i 1
theorem qle_2 {i : Nat} (h : i < 2 ^ 31) : ((2 : Int32) ≤ nI i) = (2 ≤ i) := propext (nI_leI (a := 2) (by decide) h)
theorem qlt_2 {i : Nat} (h : i < 2 ^ 31) : (nI i < (2 : Int32)) = (i < 2) := propext (nI_ltI (b := 2) h (by decide))
theorem qge_2 {i : Nat} (h : i < 2 ^ 31) : (nI i ≤ (2 : Int32)) = (i ≤ 2) := propext (nI_leI (b := 2) h (by decide))
theorem qgt_2 {i : Nat} (h : i < 2 ^ 31) : ((2 : Int32) < nI i) = (2 < i) := propext (nI_ltI (a := 2) (by decide) h)
theorem qeq_2 {i : Nat} (h : i < 2 ^ 31) : (nI i = (2 : Int32)) = (i = 2) := propext (nI_eq (b := 2) h (by decide))
theorem qad_2 (i : Nat) : nI i + (2 : Int32) = nI (i + 2) := nI_add i 2
theorem qle_3 {i : Nat} (h : i < 2 ^ 31) : ((3 : Int32) ≤ nI i) = (3 ≤ i) := propext (nI_leI (a := 3) (by decide) h)
theorem qlt_3 {i : Nat} (h : i < 2 ^ 31) : (nI i < (3 : Int32)) = (i < 3) := propext (nI_ltI (b := 3) h (by decide))
theorem qge_3 {i : Nat} (h : i < 2 ^ 31) : (nI i ≤ (3 : Int32)) = (i ≤ 3) := propext (nI_leI (b := 3) h (by decide))
theorem qgt_3 {i : Nat} (h : i < 2 ^ 31) : ((3 : Int32) < nI i) = (3 < i) := propext (nI_ltI (a := 3) (by decide) h)
theorem qeq_3 {i : Nat} (h : i < 2 ^ 31) : (nI i = (3 : Int32)) = (i = 3) := propext (nI_eq (b := 3) h (by decide))
theorem qad_3 (i : Nat) : nI i + (3 : Int32) = nI (i + 3) := nI_add i 3
theorem qle_4 {i : Nat} (h : i < 2 ^ 31) : ((4 : Int32) ≤ nI i) = (4 ≤ i) := propext (nI_leI (a := 4) (by decide) h)
theorem qlt_4 {i : Nat} (h : i < 2 ^ 31) : (nI i < (4 : Int32)) = (i < 4) := propext (nI_ltI (b := 4) h (by decide))
theorem qge_4 {i : Nat} (h : i < 2 ^ 31) : (nI i ≤ (4 : Int32)) = (i ≤ 4) := propext (nI_leI (b := 4) h (by decide))
theorem qgt_4 {i : Nat} (h : i < 2 ^ 31) : ((4 : Int32) < nI i) = (4 < i) := propext (nI_ltI (a := 4) (by decide) h)
theorem qeq_4 {i : Nat} (h : i < 2 ^ 31) : (nI i = (4 : Int32)) = (i = 4) := propext (nI_eq (b := 4) h (by decide))
theorem qad_4 (i : Nat) : nI i + (4 : Int32) = nI (i + 4) := nI_add i 4
theorem qle_5 {i : Nat} (h : i < 2 ^ 31) : ((5 : Int32) ≤ nI i) = (5 ≤ i) := propext (nI_leI (a := 5) (by decide) h)
theorem qlt_5 {i : Nat} (h : i < 2 ^ 31) : (nI i < (5 : Int32)) = (i < 5) := propext (nI_ltI (b := 5) h (by decide))
theorem qge_5 {i : Nat} (h : i < 2 ^ 31) : (nI i ≤ (5 : Int32)) = (i ≤ 5) := propext (nI_leI (b := 5) h (by decide))
theorem qgt_5 {i : Nat} (h : i < 2 ^ 31) : ((5 : Int32) < nI i) = (5 < i) := propext (nI_ltI (a := 5) (by decide) h)
theorem qeq_5 {i : Nat} (h : i < 2 ^ 31) : (nI i = (5 : Int32)) = (i = 5) := propext (nI_eq (b := 5) h (by decide))
theorem qad_5 (i : Nat) : nI i + (5 : Int32) = nI (i + 5) := nI_add i 5
theorem qle_6 {i : Nat} (h : i < 2 ^ 31) : ((6 : Int32) ≤ nI i) = (6 ≤ i) := propext (nI_leI (a := 6) (by decide) h)
theorem qlt_6 {i : Nat} (h : i < 2 ^ 31) : (nI i < (6 : Int32)) = (i < 6) := propext (nI_ltI (b := 6) h (by decide))
theorem qge_6 {i : Nat} (h : i < 2 ^ 31) : (nI i ≤ (6 : Int32)) = (i ≤ 6) := propext (nI_leI (b := 6) h (by decide))
theorem qgt_6 {i : Nat} (h : i < 2 ^ 31) : ((6 : Int32) < nI i) = (6 < i) := propext (nI_ltI (a := 6) (by decide) h)
theorem qeq_6 {i : Nat} (h : i < 2 ^ 31) : (nI i = (6 : Int32)) = (i = 6) := propext (nI_eq (b := 6) h (by decide))
theorem qad_6 (i : Nat) : nI i + (6 : Int32) = nI (i + 6) := nI_add i 6
theorem qle_7 {i : Nat} (h : i < 2 ^ 31) : ((7 : Int32) ≤ nI i) = (7 ≤ i) := propext (nI_leI (a := 7) (by decide) h)
theorem qlt_7 {i : Nat} (h : i < 2 ^ 31) : (nI i < (7 : Int32)) = (i < 7) := propext (nI_ltI (b := 7) h (by decide))
theorem qge_7 {i : Nat} (h : i < 2 ^ 31) : (nI i ≤ (7 : Int32)) = (i ≤ 7) := propext (nI_leI (b := 7) h (by decide))
theorem qgt_7 {i : Nat} (h : i < 2 ^ 31) : ((7 : Int32) < nI i) = (7 < i) := propext (nI_ltI (a := 7) (by decide) h)
theorem qeq_7 {i : Nat} (h : i < 2 ^ 31) : (nI i = (7 : Int32)) = (i = 7) := propext (nI_eq (b := 7) h (by decide))
theorem qad_7 (i : Nat) : nI i + (7 : Int32) = nI (i + 7) := nI_add i 7
theorem qle_8 {i : Nat} (h : i < 2 ^ 31) : ((8 : Int32) ≤ nI i) = (8 ≤ i) := propext (nI_leI (a := 8) (by decide) h)
theorem qlt_8 {i : Nat} (h : i < 2 ^ 31) : (nI i < (8 : Int32)) = (i < 8) := propext (nI_ltI (b := 8) h (by decide))
theorem qge_8 {i : Nat} (h : i < 2 ^ 31) : (nI i ≤ (8 : Int32)) = (i ≤ 8) := propext (nI_leI (b := 8) h (by decide))
theorem qgt_8 {i : Nat} (h : i < 2 ^ 31) : ((8 : Int32) < nI i) = (8 < i) := propext (nI_ltI (a := 8) (by decide) h)
theorem qeq_8 {i : Nat} (h : i < 2 ^ 31) : (nI i = (8 : Int32)) = (i = 8) := propext (nI_eq (b := 8) h (by decide))
theorem qad_8 (i : Nat) : nI i + (8 : Int32) = nI (i + 8) := nI_add i 8
theorem qle_9 {i : Nat} (h : i < 2 ^ 31) : ((9 : Int32) ≤ nI i) = (9 ≤ i) := propext (nI_leI (a := 9) (by decide) h)
theorem qlt_9 {i : Nat} (h : i < 2 ^ 31) : (nI i < (9 : Int32)) = (i < 9) := propext (nI_ltI (b := 9) h (by decide))
theorem qge_9 {i : Nat} (h : i < 2 ^ 31) : (nI i ≤ (9 : Int32)) = (i ≤ 9) := propext (nI_leI (b := 9) h (by decide))
theorem qgt_9 {i : Nat} (h : i < 2 ^ 31) : ((9 : Int32) < nI i) = (9 < i) := propext (nI_ltI (a := 9) (by decide) h)
theorem qeq_9 {i : Nat} (h : i < 2 ^ 31) : (nI i = (9 : Int32)) = (i = 9) := propext (nI_eq (b := 9) h (by decide))
theorem qad_9 (i : Nat) : nI i + (9 : Int32) = nI (i + 9) := nI_add i 9
theorem qle_10 {i : Nat} (h : i < 2 ^ 31) : ((10 : Int32) ≤ nI i) = (10 ≤ i) := propext (nI_leI (a := 10) (by decide) h)
theorem qlt_10 {i : Nat} (h : i < 2 ^ 31) : (nI i < (10 : Int32)) = (i < 10) := propext (nI_ltI (b := 10) h (by decide))
theorem qge_10 {i : Nat} (h : i < 2 ^ 31) : (nI i ≤ (10 : Int32)) = (i ≤ 10) := propext (nI_leI (b := 10) h (by decide))
theorem qgt_10 {i : Nat} (h : i < 2 ^ 31) : ((10 : Int32) < nI i) = (10 < i) := propext (nI_ltI (a := 10) (by decide) h)
theorem qeq_10 {i : Nat} (h : i < 2 ^ 31) : (nI i = (10 : Int32)) = (i = 10) := propext (nI_eq (b := 10) h (by decide))
theorem qad_10 (i : Nat) : nI i + (10 : Int32) = nI (i + 10) := nI_add i 10
theorem qle_11 {i : Nat} (h : i < 2 ^ 31) : ((11 : Int32) ≤ nI i) = (11 ≤ i) := propext (nI_leI (a := 11) (by decide) h)
theorem qlt_11 {i : Nat} (h : i < 2 ^ 31) : (nI i < (11 : Int32)) = (i < 11) := propext (nI_ltI (b := 11) h (by decide))
theorem qge_11 {i : Nat} (h : i < 2 ^ 31) : (nI i ≤ (11 : Int32)) = (i ≤ 11) := propext (nI_leI (b := 11) h (by decide))
theorem qgt_11 {i : Nat} (h : i < 2 ^ 31) : ((11 : Int32) < nI i) = (11 < i) := propext (nI_ltI (a := 11) (by decide) h)
theorem qeq_11 {i : Nat} (h : i < 2 ^ 31) : (nI i = (11 : Int32)) = (i = 11) := propext (nI_eq (b := 11) h (by decide))
theorem qad_11 (i : Nat) : nI i + (11 : Int32) = nI (i + 11) := nI_add i 11
theorem qle_12 {i : Nat} (h : i < 2 ^ 31) : ((12 : Int32) ≤ nI i) = (12 ≤ i) := propext (nI_leI (a := 12) (by decide) h)
theorem qlt_12 {i : Nat} (h : i < 2 ^ 31) : (nI i < (12 : Int32)) = (i < 12) := propext (nI_ltI (b := 12) h (by decide))
theorem qge_12 {i : Nat} (h : i < 2 ^ 31) : (nI i ≤ (12 : Int32)) = (i ≤ 12) := propext (nI_leI (b := 12) h (by decide))
theorem qgt_12 {i : Nat} (h : i < 2 ^ 31) : ((12 : Int32) < nI i) = (12 < i) := propext (nI_ltI (a := 12) (by decide) h)
theorem qeq_12 {i : Nat} (h : i < 2 ^ 31) : (nI i = (12 : Int32)) = (i = 12) := propext (nI_eq (b := 12) h (by decide))
theorem qad_12 (i : Nat) : nI i + (12 : Int32) = nI (i + 12) := nI_add i 12
theorem qle_40 {i : Nat} (h : i < 2 ^ 31) : ((40 : Int32) ≤ nI i) = (40 ≤ i) := propext (nI_leI (a := 40) (by decide) h)
theorem qlt_40 {i : Nat} (h : i < 2 ^ 31) : (nI i < (40 : Int32)) = (i < 40) := propext (nI_ltI (b := 40) h (by decide))
theorem qge_40 {i : Nat} (h : i < 2 ^ 31) : (nI i ≤ (40 : Int32)) = (i ≤ 40) := propext (nI_leI (b := 40) h (by decide))
theorem qgt_40 {i : Nat} (h : i < 2 ^ 31) : ((40 : Int32) < nI i) = (40 < i) := propext (nI_ltI (a := 40) (by decide) h)
theorem qeq_40 {i : Nat} (h : i < 2 ^ 31) : (nI i = (40 : Int32)) = (i = 40) := propext (nI_eq (b := 40) h (by decide))
theorem qad_40 (i : Nat) : nI i + (40 : Int32) = nI (i + 40) := nI_add i 40
theorem qle_47 {i : Nat} (h : i < 2 ^ 31) : ((47 : Int32) ≤ nI i) = (47 ≤ i) := propext (nI_leI (a := 47) (by decide) h)
theorem qlt_47 {i : Nat} (h : i < 2 ^ 31) : (nI i < (47 : Int32)) = (i < 47) := propext (nI_ltI (b := 47) h (by decide))
theorem qge_47 {i : Nat} (h : i < 2 ^ 31) : (nI i ≤ (47 : Int32)) = (i ≤ 47) := propext (nI_leI (b := 47) h (by decide))
theorem qgt_47 {i : Nat} (h : i < 2 ^ 31) : ((47 : Int32) < nI i) = (47 < i) := propext (nI_ltI (a := 47) (by decide) h)
theorem qeq_47 {i : Nat} (h : i < 2 ^ 31) : (nI i = (47 : Int32)) = (i = 47) := propext (nI_eq (b := 47) h (by decide))
theorem qad_47 (i : Nat) : nI i + (47 : Int32) = nI (i + 47) := nI_add i 47
theorem qle_48 {i : Nat} (h : i < 2 ^ 31) : ((48 : Int32) ≤ nI i) = (48 ≤ i) := propext (nI_leI (a := 48) (by decide) h)
theorem qlt_48 {i : Nat} (h : i < 2 ^ 31) : (nI i < (48 : Int32)) = (i < 48) := propext (nI_ltI (b := 48) h (by decide))
theorem qge_48 {i : Nat} (h : i < 2 ^ 31) : (nI i ≤ (48 : Int32)) = (i ≤ 48) := propext (nI_leI (b := 48) h (by decide))
theorem qgt_48 {i : Nat} (h : i < 2 ^ 31) : ((48 : Int32) < nI i) = (48 < i) := propext (nI_ltI (a := 48) (by decide) h)
theorem qeq_48 {i : Nat} (h : i < 2 ^ 31) : (nI i = (48 : Int32)) = (i = 48) := propext (nI_eq (b := 48) h (by decide))
theorem qad_48 (i : Nat) : nI i + (48 : Int32) = nI (i + 48) := nI_add i 48
theorem qle_57 {i : Nat} (h : i < 2 ^ 31) : ((57 : Int32) ≤ nI i) = (57 ≤ i) := propext (nI_leI (a := 57) (by decide) h)
theorem qlt_57 {i : Nat} (h : i < 2 ^ 31) : (nI i < (57 : Int32)) = (i < 57) := propext (nI_ltI (b := 57) h (by decide))
theorem qge_57 {i : Nat} (h : i < 2 ^ 31) : (nI i ≤ (57 : Int32)) = (i ≤ 57) := propext (nI_leI (b := 57) h (by decide))
theorem qgt_57 {i : Nat} (h : i < 2 ^ 31) : ((57 : Int32) < nI i) = (57 < i) := propext (nI_ltI (a := 57) (by decide) h)
theorem qeq_57 {i : Nat} (h : i < 2 ^ 31) : (nI i = (57 : Int32)) = (i = 57) := propext (nI_eq (b := 57) h (by decide))
theorem qad_57 (i : Nat) : nI i + (57 : Int32) = nI (i + 57) := nI_add i 57
theorem qle_58 {i : Nat} (h : i < 2 ^ 31) : ((58 : Int32) ≤ nI i) = (58 ≤ i) := propext (nI_leI (a := 58) (by decide) h)
theorem qlt_58 {i : Nat} (h : i < 2 ^ 31) : (nI i < (58 : Int32)) = (i < 58) := propext (nI_ltI (b := 58) h (by decide))
theorem qge_58 {i : Nat} (h : i < 2 ^ 31) : (nI i ≤ (58 : Int32)) = (i ≤ 58) := propext (nI_leI (b := 58) h (by decide))
theorem qgt_58 {i : Nat} (h : i < 2 ^ 31) : ((58 : Int32) < nI i) = (58 < i) := propext (nI_ltI (a := 58) (by decide) h)
theorem qeq_58 {i : Nat} (h : i < 2 ^ 31) : (nI i = (58 : Int32)) = (i = 58) := propext (nI_eq (b := 58) h (by decide))
theorem qad_58 (i : Nat) : nI i + (58 : Int32) = nI (i + 58) := nI_add i 58
theorem qle_59 {i : Nat} (h : i < 2 ^ 31) : ((59 : Int32) ≤ nI i) = (59 ≤ i) := propext (nI_leI (a := 59) (by decide) h)
theorem qlt_59 {i : Nat} (h : i < 2 ^ 31) : (nI i < (59 : Int32)) = (i < 59) := propext (nI_ltI (b := 59) h (by decide))
theorem qge_59 {i : Nat} (h : i < 2 ^ 31) : (nI i ≤ (59 : Int32)) = (i ≤ 59) := propext (nI_leI (b := 59) h (by decide))
theorem qgt_59 {i : Nat} (h : i < 2 ^ 31) : ((59 : Int32) < nI i) = (59 < i) := propext (nI_ltI (a := 59) (by decide) h)
theorem qeq_59 {i : Nat} (h : i < 2 ^ 31) : (nI i = (59 : Int32)) = (i = 59) := propext (nI_eq (b := 59) h (by decide))
theorem qad_59 (i : Nat) : nI i + (59 : Int32) = nI (i + 59) := nI_add i 59
theorem qle_60 {i : Nat} (h : i < 2 ^ 31) : ((60 : Int32) ≤ nI i) = (60 ≤ i) := propext (nI_leI (a := 60) (by decide) h)
theorem qlt_60 {i : Nat} (h : i < 2 ^ 31) : (nI i < (60 : Int32)) = (i < 60) := propext (nI_ltI (b := 60) h (by decide))
theorem qge_60 {i : Nat} (h : i < 2 ^ 31) : (nI i ≤ (60 : Int32)) = (i ≤ 60) := propext (nI_leI (b := 60) h (by decide))
theorem qgt_60 {i : Nat} (h : i < 2 ^ 31) : ((60 : Int32) < nI i) = (60 < i) := propext (nI_ltI (a := 60) (by decide) h)
theorem qeq_60 {i : Nat} (h : i < 2 ^ 31) : (nI i = (60 : Int32)) = (i = 60) := propext (nI_eq (b := 60) h (by decide))
theorem qad_60 (i : Nat) : nI i + (60 : Int32) = nI (i + 60) := nI_add i 60
theorem qle_97 {i : Nat} (h : i < 2 ^ 31) : ((97 : Int32) ≤ nI i) = (97 ≤ i) := propext (nI_leI (a := 97) (by decide) h)
theorem qlt_97 {i : Nat} (h : i < 2 ^ 31) : (nI i < (97 : Int32)) = (i < 97) := propext (nI_ltI (b := 97) h (by decide))
theorem qge_97 {i : Nat} (h : i < 2 ^ 31) : (nI i ≤ (97 : Int32)) = (i ≤ 97) := propext (nI_leI (b := 97) h (by decide))
theorem qgt_97 {i : Nat} (h : i < 2 ^ 31) : ((97 : Int32) < nI i) = (97 < i) := propext (nI_ltI (a := 97) (by decide) h)
theorem qeq_97 {i : Nat} (h : i < 2 ^ 31) : (nI i = (97 : Int32)) = (i = 97) := propext (nI_eq (b := 97) h (by decide))
theorem qad_97 (i : Nat) : nI i + (97 : Int32) = nI (i + 97) := nI_add i 97
theorem qle_100 {i : Nat} (h : i < 2 ^ 31) : ((100 : Int32) ≤ nI i) = (100 ≤ i) := propext (nI_leI (a := 100) (by decide) h)
theorem qlt_100 {i : Nat} (h : i < 2 ^ 31) : (nI i < (100 : Int32)) = (i < 100) := propext (nI_ltI (b := 100) h (by decide))
theorem qge_100 {i : Nat} (h : i < 2 ^ 31) : (nI i ≤ (100 : Int32)) = (i ≤ 100) := propext (nI_leI (b := 100) h (by decide))
theorem qgt_100 {i : Nat} (h : i < 2 ^ 31) : ((100 : Int32) < nI i) = (100 < i) := propext (nI_ltI (a := 100) (by decide) h)
theorem qeq_100 {i : Nat} (h : i < 2 ^ 31) : (nI i = (100 : Int32)) = (i = 100) := propext (nI_eq (b := 100) h (by decide))
theorem qad_100 (i : Nat) : nI i + (100 : Int32) = nI (i + 100) := nI_add i 100
theorem qle_101 {i : Nat} (h : i < 2 ^ 31) : ((101 : Int32) ≤ nI i) = (101 ≤ i) := propext (nI_leI (a := 101) (by decide) h)
theorem qlt_101 {i : Nat} (h : i < 2 ^ 31) : (nI i < (101 : Int32)) = (i < 101) := propext (nI_ltI (b := 101) h (by decide))
theorem qge_101 {i : Nat} (h : i < 2 ^ 31) : (nI i ≤ (101 : Int32)) = (i ≤ 101) := propext (nI_leI (b := 101) h (by decide))
theorem qgt_101 {i : Nat} (h : i < 2 ^ 31) : ((101 : Int32) < nI i) = (101 < i) := propext (nI_ltI (a := 101) (by decide) h)
theorem qeq_101 {i : Nat} (h : i < 2 ^ 31) : (nI i = (101 : Int32)) = (i = 101) := propext (nI_eq (b := 101) h (by decide))
theorem qad_101 (i : Nat) : nI i + (101 : Int32) = nI (i + 101) := nI_add i 101
theorem qle_102 {i : Nat} (h : i < 2 ^ 31) : ((102 : Int32) ≤ nI i) = (102 ≤ i) := propext (nI_leI (a := 102) (by decide) h)
theorem qlt_102 {i : Nat} (h : i < 2 ^ 31) : (nI i < (102 : Int32)) = (i < 102) := propext (nI_ltI (b := 102) h (by decide))
theorem qge_102 {i : Nat} (h : i < 2 ^ 31) : (nI i ≤ (102 : Int32)) = (i ≤ 102) := propext (nI_leI (b := 102) h (by decide))
theorem qgt_102 {i : Nat} (h : i < 2 ^ 31) : ((102 : Int32) < nI i) = (102 < i) := propext (nI_ltI (a := 102) (by decide) h)
theorem qeq_102 {i : Nat} (h : i < 2 ^ 31) : (nI i = (102 : Int32)) = (i = 102) := propext (nI_eq (b := 102) h (by decide))
theorem qad_102 (i : Nat) : nI i + (102 : Int32) = nI (i + 102) := nI_add i 102
theorem qle_108 {i : Nat} (h : i < 2 ^ 31) : ((108 : Int32) ≤ nI i) = (108 ≤ i) := propext (nI_leI (a := 108) (by decide) h)
theorem qlt_108 {i : Nat} (h : i < 2 ^ 31) : (nI i < (108 : Int32)) = (i < 108) := propext (nI_ltI (b := 108) h (by decide))
theorem qge_108 {i : Nat} (h : i < 2 ^ 31) : (nI i ≤ (108 : Int32)) = (i ≤ 108) := propext (nI_leI (b := 108) h (by decide))
theorem qgt_108 {i : Nat} (h : i < 2 ^ 31) : ((108 : Int32) < nI i) = (108 < i) := propext (nI_ltI (a := 108) (by decide) h)
theorem qeq_108 {i : Nat} (h : i < 2 ^ 31) : (nI i = (108 : Int32)) = (i = 108) := propext (nI_eq (b := 108) h (by decide))
theorem qad_108 (i : Nat) : nI i + (108 : Int32) = nI (i + 108) := nI_add i 108
theorem qle_109 {i : Nat} (h : i < 2 ^ 31) : ((109 : Int32) ≤ nI i) = (109 ≤ i) := propext (nI_leI (a := 109) (by decide) h)
theorem qlt_109 {i : Nat} (h : i < 2 ^ 31) : (nI i < (109 : Int32)) = (i < 109) := propext (nI_ltI (b := 109) h (by decide))
theorem qge_109 {i : Nat} (h : i < 2 ^ 31) : (nI i ≤ (109 : Int32)) = (i ≤ 109) := propext (nI_leI (b := 109) h (by decide))
theorem qgt_109 {i : Nat} (h : i < 2 ^ 31) : ((109 : Int32) < nI i) = (109 < i) := propext (nI_ltI (a := 109) (by decide) h)
theorem qeq_109 {i : Nat} (h : i < 2 ^ 31) : (nI i = (109 : Int32)) = (i = 109) := propext (nI_eq (b := 109) h (by decide))
theorem qad_109 (i : Nat) : nI i + (109 : Int32) = nI (i + 109) := nI_add i 109
theorem qle_110 {i : Nat} (h : i < 2 ^ 31) : ((110 : Int32) ≤ nI i) = (110 ≤ i) := propext (nI_leI (a := 110) (by decide) h)
theorem qlt_110 {i : Nat} (h : i < 2 ^ 31) : (nI i < (110 : Int32)) = (i < 110) := propext (nI_ltI (b := 110) h (by decide))
theorem qge_110 {i : Nat} (h : i < 2 ^ 31) : (nI i ≤ (110 : Int32)) = (i ≤ 110) := propext (nI_leI (b := 110) h (by decide))
theorem qgt_110 {i : Nat} (h : i < 2 ^ 31) : ((110 : Int32) < nI i) = (110 < i) := propext (nI_ltI (a := 110) (by decide) h)
theorem qeq_110 {i : Nat} (h : i < 2 ^ 31) : (nI i = (110 : Int32)) = (i = 110) := propext (nI_eq (b := 110) h (by decide))
theorem qad_110 (i : Nat) : nI i + (110 : Int32) = nI (i + 110) := nI_add i 110
theorem qle_111 {i : Nat} (h : i < 2 ^ 31) : ((111 : Int32) ≤ nI i) = (111 ≤ i) := propext (nI_leI (a := 111) (by decide) h)
theorem qlt_111 {i : Nat} (h : i < 2 ^ 31) : (nI i < (111 : Int32)) = (i < 111) := propext (nI_ltI (b := 111) h (by decide))
theorem qge_111 {i : Nat} (h : i < 2 ^ 31) : (nI i ≤ (111 : Int32)) = (i ≤ 111) := propext (nI_leI (b := 111) h (by decide))
theorem qgt_111 {i : Nat} (h : i < 2 ^ 31) : ((111 : Int32) < nI i) = (111 < i) := propext (nI_ltI (a := 111) (by decide) h)
theorem qeq_111 {i : Nat} (h : i < 2 ^ 31) : (nI i = (111 : Int32)) = (i = 111) := propext (nI_eq (b := 111) h (by decide))
theorem qad_111 (i : Nat) : nI i + (111 : Int32) = nI (i + 111) := nI_add i 111
theorem qle_112 {i : Nat} (h : i < 2 ^ 31) : ((112 : Int32) ≤ nI i) = (112 ≤ i) := propext (nI_leI (a := 112) (by decide) h)
theorem qlt_112 {i : Nat} (h : i < 2 ^ 31) : (nI i < (112 : Int32)) = (i < 112) := propext (nI_ltI (b := 112) h (by decide))
theorem qge_112 {i : Nat} (h : i < 2 ^ 31) : (nI i ≤ (112 : Int32)) = (i ≤ 112) := propext (nI_leI (b := 112) h (by decide))
theorem qgt_112 {i : Nat} (h : i < 2 ^ 31) : ((112 : Int32) < nI i) = (112 < i) := propext (nI_ltI (a := 112) (by decide) h)
theorem qeq_112 {i : Nat} (h : i < 2 ^ 31) : (nI i = (112 : Int32)) = (i = 112) := propext (nI_eq (b := 112) h (by decide))
theorem qad_112 (i : Nat) : nI i + (112 : Int32) = nI (i + 112) := nI_add i 112
theorem qle_114 {i : Nat} (h : i < 2 ^ 31) : ((114 : Int32) ≤ nI i) = (114 ≤ i) := propext (nI_leI (a := 114) (by decide) h)
theorem qlt_114 {i : Nat} (h : i < 2 ^ 31) : (nI i < (114 : Int32)) = (i < 114) := propext (nI_ltI (b := 114) h (by decide))
theorem qge_114 {i : Nat} (h : i < 2 ^ 31) : (nI i ≤ (114 : Int32)) = (i ≤ 114) := propext (nI_leI (b := 114) h (by decide))
theorem qgt_114 {i : Nat} (h : i < 2 ^ 31) : ((114 : Int32) < nI i) = (114 < i) := propext (nI_ltI (a := 114) (by decide) h)
theorem qeq_114 {i : Nat} (h : i < 2 ^ 31) : (nI i = (114 : Int32)) = (i = 114) := propext (nI_eq (b := 114) h (by decide))
theorem qad_114 (i : Nat) : nI i + (114 : Int32) = nI (i + 114) := nI_add i 114
theorem qle_117 {i : Nat} (h : i < 2 ^ 31) : ((117 : Int32) ≤ nI i) = (117 ≤ i) := propext (nI_leI (a := 117) (by decide) h)
theorem qlt_117 {i : Nat} (h : i < 2 ^ 31) : (nI i < (117 : Int32)) = (i < 117) := propext (nI_ltI (b := 117) h (by decide))
theorem qge_117 {i : Nat} (h : i < 2 ^ 31) : (nI i ≤ (117 : Int32)) = (i ≤ 117) := propext (nI_leI (b := 117) h (by decide))
theorem qgt_117 {i : Nat} (h : i < 2 ^ 31) : ((117 : Int32) < nI i) = (117 < i) := propext (nI_ltI (a := 117) (by decide) h)
theorem qeq_117 {i : Nat} (h : i < 2 ^ 31) : (nI i = (117 : Int32)) = (i = 117) := propext (nI_eq (b := 117) h (by decide))
theorem qad_117 (i : Nat) : nI i + (117 : Int32) = nI (i + 117) := nI_add i 117
theorem qle_119 {i : Nat} (h : i < 2 ^ 31) : ((119 : Int32) ≤ nI i) = (119 ≤ i) := propext (nI_leI (a := 119) (by decide) h)
theorem qlt_119 {i : Nat} (h : i < 2 ^ 31) : (nI i < (119 : Int32)) = (i < 119) := propext (nI_ltI (b := 119) h (by decide))
theorem qge_119 {i : Nat} (h : i < 2 ^ 31) : (nI i ≤ (119 : Int32)) = (i ≤ 119) := propext (nI_leI (b := 119) h (by decide))
theorem qgt_119 {i : Nat} (h : i < 2 ^ 31) : ((119 : Int32) < nI i) = (119 < i) := propext (nI_ltI (a := 119) (by decide) h)
theorem qeq_119 {i : Nat} (h : i < 2 ^ 31) : (nI i = (119 : Int32)) = (i = 119) := propext (nI_eq (b := 119) h (by decide))
theorem qad_119 (i : Nat) : nI i + (119 : Int32) = nI (i + 119) := nI_add i 119
theorem qle_120 {i : Nat} (h : i < 2 ^ 31) : ((120 : Int32) ≤ nI i) = (120 ≤ i) := propext (nI_leI (a := 120) (by decide) h)
theorem qlt_120 {i : Nat} (h : i < 2 ^ 31) : (nI i < (120 : Int32)) = (i < 120) := propext (nI_ltI (b := 120) h (by decide))
theorem qge_120 {i : Nat} (h : i < 2 ^ 31) : (nI i ≤ (120 : Int32)) = (i ≤ 120) := propext (nI_leI (b := 120) h (by decide))
theorem qgt_120 {i : Nat} (h : i < 2 ^ 31) : ((120 : Int32) < nI i) = (120 < i) := propext (nI_ltI (a := 120) (by decide) h)
theorem qeq_120 {i : Nat} (h : i < 2 ^ 31) : (nI i = (120 : Int32)) = (i = 120) := propext (nI_eq (b := 120) h (by decide))
theorem qad_120 (i : Nat) : nI i + (120 : Int32) = nI (i + 120) := nI_add i 120
theorem qle_122 {i : Nat} (h : i < 2 ^ 31) : ((122 : Int32) ≤ nI i) = (122 ≤ i) := propext (nI_leI (a := 122) (by decide) h)
theorem qlt_122 {i : Nat} (h : i < 2 ^ 31) : (nI i < (122 : Int32)) = (i < 122) := propext (nI_ltI (b := 122) h (by decide))
theorem qge_122 {i : Nat} (h : i < 2 ^ 31) : (nI i ≤ (122 : Int32)) = (i ≤ 122) := propext (nI_leI (b := 122) h (by decide))
theorem qgt_122 {i : Nat} (h : i < 2 ^ 31) : ((122 : Int32) < nI i) = (122 < i) := propext (nI_ltI (a := 122) (by decide) h)
theorem qeq_122 {i : Nat} (h : i < 2 ^ 31) : (nI i = (122 : Int32)) = (i = 122) := propext (nI_eq (b := 122) h (by decide))
theorem qad_122 (i : Nat) : nI i + (122 : Int32) = nI (i + 122) := nI_add i 122
theorem qle_127 {i : Nat} (h : i < 2 ^ 31) : ((127 : Int32) ≤ nI i) = (127 ≤ i) := propext (nI_leI (a := 127) (by decide) h)
theorem qlt_127 {i : Nat} (h : i < 2 ^ 31) : (nI i < (127 : Int32)) = (i < 127) := propext (nI_ltI (b := 127) h (by decide))
theorem qge_127 {i : Nat} (h : i < 2 ^ 31) : (nI i ≤ (127 : Int32)) = (i ≤ 127) := propext (nI_leI (b := 127) h (by decide))
theorem qgt_127 {i : Nat} (h : i < 2 ^ 31) : ((127 : Int32) < nI i) = (127 < i) := propext (nI_ltI (a := 127) (by decide) h)
theorem qeq_127 {i : Nat} (h : i < 2 ^ 31) : (nI i = (127 : Int32)) = (i = 127) := propext (nI_eq (b := 127) h (by decide))
theorem qad_127 (i : Nat) : nI i + (127 : Int32) = nI (i + 127) := nI_add i 127
theorem qle_200 {i : Nat} (h : i < 2 ^ 31) : ((200 : Int32) ≤ nI i) = (200 ≤ i) := propext (nI_leI (a := 200) (by decide) h)
theorem qlt_200 {i : Nat} (h : i < 2 ^ 31) : (nI i < (200 : Int32)) = (i < 200) := propext (nI_ltI (b := 200) h (by decide))
theorem qge_200 {i : Nat} (h : i < 2 ^ 31) : (nI i ≤ (200 : Int32)) = (i ≤ 200) := propext (nI_leI (b := 200) h (by decide))
theorem qgt_200 {i : Nat} (h : i < 2 ^ 31) : ((200 : Int32) < nI i) = (200 < i) := propext (nI_ltI (a := 200) (by decide) h)
theorem qeq_200 {i : Nat} (h : i < 2 ^ 31) : (nI i = (200 : Int32)) = (i = 200) := propext (nI_eq (b := 200) h (by decide))
theorem qad_200 (i : Nat) : nI i + (200 : Int32) = nI (i + 200) := nI_add i 200
theorem qle_255 {i : Nat} (h : i < 2 ^ 31) : ((255 : Int32) ≤ nI i) = (255 ≤ i) := propext (nI_leI (a := 255) (by decide) h)
theorem qlt_255 {i : Nat} (h : i < 2 ^ 31) : (nI i < (255 : Int32)) = (i < 255) := propext (nI_ltI (b := 255) h (by decide))
theorem qge_255 {i : Nat} (h : i < 2 ^ 31) : (nI i ≤ (255 : Int32)) = (i ≤ 255) := propext (nI_leI (b := 255) h (by decide))
theorem qgt_255 {i : Nat} (h : i < 2 ^ 31) : ((255 : Int32) < nI i) = (255 < i) := propext (nI_ltI (a := 255) (by decide) h)
theorem qeq_255 {i : Nat} (h : i < 2 ^ 31) : (nI i = (255 : Int32)) = (i = 255) := propext (nI_eq (b := 255) h (by decide))
theorem qad_255 (i : Nat) : nI i + (255 : Int32) = nI (i + 255) := nI_add i 255
theorem qle_1024 {i : Nat} (h : i < 2 ^ 31) : ((1024 : Int32) ≤ nI i) = (1024 ≤ i) := propext (nI_leI (a := 1024) (by decide) h)
theorem qlt_1024 {i : Nat} (h : i < 2 ^ 31) : (nI i < (1024 : Int32)) = (i < 1024) := propext (nI_ltI (b := 1024) h (by decide))
theorem qge_1024 {i : Nat} (h : i < 2 ^ 31) : (nI i ≤ (1024 : Int32)) = (i ≤ 1024) := propext (nI_leI (b := 1024) h (by decide))
theorem qgt_1024 {i : Nat} (h : i < 2 ^ 31) : ((1024 : Int32) < nI i) = (1024 < i) := propext (nI_ltI (a := 1024) (by decide) h)
theorem qeq_1024 {i : Nat} (h : i < 2 ^ 31) : (nI i = (1024 : Int32)) = (i = 1024) := propext (nI_eq (b := 1024) h (by decide))
theorem qad_1024 (i : Nat) : nI i + (1024 : Int32) = nI (i + 1024) := nI_add i 1024
theorem qle {a b : Nat} (ha : a < 2 ^ 31) (hb : b < 2 ^ 31) : (nI a ≤ nI b) = (a ≤ b) := propext (nI_leI ha hb)
theorem qlt {a b : Nat} (ha : a < 2 ^ 31) (hb : b < 2 ^ 31) : (nI a < nI b) = (a < b) := propext (nI_ltI ha hb)
theorem qeq {a b : Nat} (ha : a < 2 ^ 31) (hb : b < 2 ^ 31) : (nI a = nI b) = (a = b) := propext (nI_eq ha hb)
theorem gd_in {α : Type} {i N : Nat} {d : Decidable (¬ (nI i < 0 ∨ N ≤ (nI i).toNatClampNeg))} {k : Option α} (h1 : i < N) (h2 : N < 2 ^ 31) : gd (¬ (nI i < 0 ∨ N ≤ (nI i).toNatClampNeg)) k = k := if_pos (nI_in h1 h2)
theorem gd_i2 {α : Type} {i N : Nat} {d : Decidable (¬ (nI i < 0 ∨ N ≤ i))} {k : Option α} (h1 : i < N) (h2 : N < 2 ^ 31) : gd (¬ (nI i < 0 ∨ N ≤ i)) k = k := if_pos (fun q => q.elim (nI_pos (by omega)) (fun q => by omega))
theorem gd_i3 {α : Type} {i N : Nat} {d : Decidable (¬ ((nI i).toInt < 0 ∨ N ≤ i))} {k : Option α} (h1 : i < N) (h2 : N < 2 ^ 31) : gd (¬ ((nI i).toInt < 0 ∨ N ≤ i)) k = k := if_pos (fun q => q.elim (fun q => by rw [nI_toInt (by omega)] at q; omega) (fun q => by omega))
theorem gd_t {α : Type} {c : Prop} {d : Decidable c} {k : Option α} (h : c) : gd c k = k := if_pos h
/-- a boolean as an int -/
def bz (b : Bool) : Int32 := if b then 1 else 0
theorem bz_if {α : Type} (b : Bool) (x y : α) : (if bz b = 0 then x else y) = if b = true then y else x := by cases b <;> rfl
theorem bz_01 (b : Bool) : bz b = 0 ∨ bz b = 1 := by cases b; exact Or.inl rfl; exact Or.inr rfl
theorem bz_t : bz true = 1 := rfl
theorem bz_f : bz false = 0 := rfl
theorem bz_gd {α : Type} (b : Bool) {d : Decidable (bz b = 0 ∨ bz b = 1)} (k : Option α) : gd (bz b = 0 ∨ bz b = 1) k = k := if_pos (bz_01 b)
theorem vl_from {S E : Type} {B : S → Option (S ⊕ E)} (f : Nat → S) (n : Nat) {e : E} (hs : ∀ i, i < n → B (f i) = some (.inl (f (i + 1)))) (he : B (f n) = some (.inr e)) : ∀ F k, k ≤ n → n < k + F → vLoop B F (f k) = some e
  | 0, k, h1, h2 => by omega
  | F + 1, k, h1, h2 => by
    unfold vLoop
    by_cases hk : k = n
    · subst hk; rw [he]
    · rw [hs k (by omega)]
      exact vl_from f n hs he F (k + 1) (by omega) (by omega)
theorem vl_F {S E : Type} {B : S → Option (S ⊕ E)} (f : Nat → S) (k n : Nat) {e : E} (hk : k ≤ n) (hn : n < 100000) (hs : ∀ i, k ≤ i → i < n → B (f i) = some (.inl (f (i + 1)))) (he : B (f n) = some (.inr e)) : vLoop B FUEL (f k) = some e := by
  have h := vl_from (B := B) (fun i => f (k + i)) (n - k) (e := e) (fun i hi => hs (k + i) (by omega) (by omega)) (by show B (f (k + (n - k))) = _; rw [show k + (n - k) = n by omega]; exact he) FUEL 0 (by omega) (by unfold FUEL; omega)
  exact h
theorem vl_tot {S E : Type} {B : S → Option (S ⊕ E)} (P : Nat → S → Prop) (Q : E → Prop) (hs : ∀ i s, P i s → (∃ e, B s = some (.inr e) ∧ Q e) ∨ (∃ t, B s = some (.inl t) ∧ ∃ j, j < i ∧ P j t)) : ∀ F i s, i < F → P i s → ∃ e, vLoop B F s = some e ∧ Q e
  | 0, i, s, h, _ => by omega
  | F + 1, i, s, h, hp => by
    rcases hs i s hp with ⟨e, h1, h2⟩ | ⟨t, h1, j, h2, h3⟩
    · exact ⟨e, by unfold vLoop; rw [h1], h2⟩
    · obtain ⟨e, h4, h5⟩ := vl_tot P Q hs F j t (by omega) h3
      exact ⟨e, by unfold vLoop; rw [h1]; exact h4, h5⟩
theorem vl_totF {S E : Type} {B : S → Option (S ⊕ E)} (P : Nat → S → Prop) (Q : E → Prop) (hs : ∀ i s, P i s → (∃ e, B s = some (.inr e) ∧ Q e) ∨ (∃ t, B s = some (.inl t) ∧ ∃ j, j < i ∧ P j t)) {i : Nat} {s : S} (hi : i < 100000) (h : P i s) : ∃ e, vLoop B FUEL s = some e ∧ Q e := vl_tot P Q hs FUEL i s (by unfold FUEL; exact hi) h
/-- sums below n -/
def sm (f : Nat → Nat) : Nat → Nat
  | 0 => 0
  | n + 1 => sm f n + f n
theorem sm_cong {f g : Nat → Nat} : ∀ {n : Nat}, (∀ i, i < n → f i = g i) → sm f n = sm g n
  | 0, _ => rfl
  | n + 1, h => by unfold sm; rw [sm_cong (fun i hi => h i (by omega)), h n (by omega)]
theorem sm_add (f g : Nat → Nat) : ∀ n, sm (fun i => f i + g i) n = sm f n + sm g n
  | 0 => rfl
  | n + 1 => by unfold sm; rw [sm_add f g n]; omega
theorem sm_mul (c : Nat) (f : Nat → Nat) : ∀ n, sm (fun i => c * f i) n = c * sm f n
  | 0 => rfl
  | n + 1 => by unfold sm; rw [sm_mul c f n, Nat.mul_add]
theorem sm_split (f : Nat → Nat) (m : Nat) : ∀ n, sm f (m + n) = sm f m + sm (fun i => f (m + i)) n
  | 0 => rfl
  | n + 1 => by show sm f (m + n) + f (m + n) = _; rw [sm_split f m n]; exact Nat.add_assoc _ _ _
theorem sm_le {f g : Nat → Nat} : ∀ {n : Nat}, (∀ i, i < n → f i ≤ g i) → sm f n ≤ sm g n
  | 0, _ => Nat.le_refl 0
  | n + 1, h => by unfold sm; exact Nat.add_le_add (sm_le (fun i hi => h i (by omega))) (h n (by omega))
theorem sm_zero {f : Nat → Nat} {n : Nat} (h : ∀ i, i < n → f i = 0) : sm f n = 0 := by
  rw [sm_cong (g := fun _ => 0) h]
  clear h
  induction n with
  | zero => rfl
  | succ n ih => unfold sm; rw [ih]
theorem sm_comm (f : Nat → Nat → Nat) (m : Nat) : ∀ n, sm (fun i => sm (f i) m) n = sm (fun j => sm (fun i => f i j) n) m
  | 0 => (sm_zero (fun _ _ => rfl)).symm
  | n + 1 => by
    show sm (fun i => sm (f i) m) n + sm (f n) m = _
    rw [sm_comm f m n, ← sm_add]
    rfl
/-- a power of two as a shift -/
theorem shl_1 : ∀ k, k < 31 → ((1 : Int32) <<< (nI k &&& 31)) = nI (2 ^ k) := by decide +kernel
theorem shl_m : ∀ k, k < 31 → ((1 : Int32) <<< (nI k &&& 31)) - (1 : Int32) = nI (2 ^ k - 1) := by decide +kernel
theorem i32_31 : ∀ k, k < 32 → ((nI k).toUInt32 &&& Int32.toUInt32 31).toBitVec % 32 = BitVec.ofNat 32 k := by decide +kernel
theorem shr_bit {n k : Nat} (hn : n < 2 ^ 31) (hk : k < 31) : (((nI n).toUInt32 >>> ((nI k).toUInt32 &&& Int32.toUInt32 31)).toInt32 &&& (1 : Int32)) = bz (n.testBit k) := by
  rw [pk_ushrN (by omega) (nI k) k (by rw [i32_31 k (by omega), BitVec.toNat_ofNat]; exact Nat.mod_eq_of_lt (by omega))]
  have h := fa_mask (n / 2 ^ k) 1
  rw [show (1 : Int32) = nI (2 ^ 1 - 1) from rfl, h, Nat.testBit_eq_decide_div_mod_eq]
  rcases (show n / 2 ^ k % 2 ^ 1 = 0 ∨ n / 2 ^ k % 2 ^ 1 = 1 by omega) with q | q
  · rw [q]; rfl
  · rw [q]; rfl
theorem i32_s : ∀ k, k < 31 → ((nI k &&& 31).toBitVec.smod 32).toNat = k := by decide +kernel
theorem sar_bit {n k : Nat} (hn : n < 2 ^ 31) (hk : k < 31) : ((nI n >>> (nI k &&& 31)) &&& (1 : Int32)) = bz (n.testBit k) := by
  rw [pk_shrN hn _ k (i32_s k hk)]
  have h := fa_mask (n / 2 ^ k) 1
  rw [show (1 : Int32) = nI (2 ^ 1 - 1) from rfl, h, Nat.testBit_eq_decide_div_mod_eq]
  rcases (show n / 2 ^ k % 2 ^ 1 = 0 ∨ n / 2 ^ k % 2 ^ 1 = 1 by omega) with q | q
  · rw [q]; rfl
  · rw [q]; rfl
/-- a without the bits of b -/
def wo (a b : Nat) : Nat := a ^^^ (a &&& b)
theorem wo_bit (a b i : Nat) : (wo a b).testBit i = (a.testBit i && !b.testBit i) := by
  unfold wo
  rw [Nat.testBit_xor, Nat.testBit_and]
  cases a.testBit i <;> cases b.testBit i <;> rfl
theorem wo_i (a b : Nat) : nI a &&& (nI b ^^^ (-1 : Int32)) = nI (wo a b) := by
  unfold wo
  rw [← fb_xorI, ← fa_and]
  apply Int32.toBitVec_inj.1
  show (nI a).toBitVec &&& ((nI b).toBitVec ^^^ (-1 : Int32).toBitVec) = (nI a).toBitVec ^^^ ((nI a).toBitVec &&& (nI b).toBitVec)
  generalize (nI a).toBitVec = x
  generalize (nI b).toBitVec = y
  have h : (-1 : Int32).toBitVec = BitVec.allOnes 32 := by decide
  rw [h]
  apply BitVec.eq_of_getLsbD_eq
  intro i hi
  rw [BitVec.getLsbD_and, BitVec.getLsbD_xor, BitVec.getLsbD_xor, BitVec.getLsbD_and, BitVec.getLsbD_allOnes]
  simp only [hi, decide_true]
  cases x.getLsbD i <;> cases y.getLsbD i <;> rfl
theorem bit_lt {x n : Nat} (h : ∀ i, n ≤ i → x.testBit i = false) : x < 2 ^ n := Nat.lt_pow_two_of_testBit x h
theorem bit_ge {x n i : Nat} (h : x < 2 ^ n) (hi : n ≤ i) : x.testBit i = false := Nat.testBit_lt_two_pow (Nat.lt_of_lt_of_le h (Nat.pow_le_pow_right (by decide) hi))
theorem wo_lt {a b n : Nat} (h : a < 2 ^ n) : wo a b < 2 ^ n := bit_lt (fun i hi => by rw [wo_bit, bit_ge h hi]; rfl)
theorem or_lt {a b n : Nat} (h : a < 2 ^ n) (h2 : b < 2 ^ n) : (a ||| b) < 2 ^ n := bit_lt (fun i hi => by rw [Nat.testBit_or, bit_ge h hi, bit_ge h2 hi]; rfl)
/-- how many bits, of ten -/
def pc (x : Nat) : Nat := fa_cnt (fun i => x.testBit i) 10
theorem bc_e : ∀ x, x < 1024 → m_J6_bitCount_0f7a4 (nI x) = some (nI (pc x)) := by decide +kernel
/-- the least bit, of ten -/
def tz (x : Nat) : Nat := fa_first (fun i => x.testBit i) 10
theorem tz_e : ∀ x, x < 1024 → 0 < x → m_J6_numberOfTrailingZeros_0f7a4 (nI x) = some (nI (tz x)) := by decide +kernel
