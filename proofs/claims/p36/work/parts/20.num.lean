/-! ===== order of ints, in all its forms, and through longs ===== -/
theorem fa_lt (a b : Int32) : a < b ↔ a.toInt < b.toInt := Int32.lt_iff_toInt_lt
theorem fa_le (a b : Int32) : a ≤ b ↔ a.toInt ≤ b.toInt := Int32.le_iff_toInt_le
theorem fa_eq (a b : Int32) : a = b ↔ a.toInt = b.toInt := Int32.toInt_inj.symm
theorem fa_lt64 (a b : Int64) : a < b ↔ a.toInt < b.toInt := Int64.lt_iff_toInt_lt
theorem fa_le64 (a b : Int64) : a ≤ b ↔ a.toInt ≤ b.toInt := Int64.le_iff_toInt_le
/-! ===== small literals as numbers ===== -/
/-! ===== bits of a number: 'or', masks, one bit ===== -/
theorem fa_and (a b : Nat) : nI a &&& nI b = nI (a &&& b) := by
  apply Int32.toBitVec_inj.1
  show BitVec.ofNat 32 a &&& BitVec.ofNat 32 b = BitVec.ofNat 32 (a &&& b)
  apply BitVec.eq_of_getLsbD_eq
  intro i hi
  simp [hi]
theorem fa_or (a b : Nat) : nI a ||| nI b = nI (a ||| b) := by
  apply Int32.toBitVec_inj.1
  show BitVec.ofNat 32 a ||| BitVec.ofNat 32 b = BitVec.ofNat 32 (a ||| b)
  apply BitVec.eq_of_getLsbD_eq
  intro i hi
  simp [hi]
/-- a remainder by a power of two, as a mask -/
theorem fa_mask (n k : Nat) : nI n &&& nI (2 ^ k - 1) = nI (n % 2 ^ k) := by rw [fa_and, Nat.and_two_pow_sub_one_eq_mod]
/-- one bit, by 'and' with a power of two -/
theorem fa_bit {n j : Nat} (hj : j < 31) : nI n &&& nI (2 ^ j) = 0 ↔ n.testBit j = false := by
  have h2 : (2 : Nat) ^ j < 2 ^ 31 := Nat.pow_lt_pow_right (by decide) hj
  have hle : n &&& 2 ^ j ≤ 2 ^ j := Nat.and_le_right
  have e : n &&& 2 ^ j = 0 ↔ n.testBit j = false := by
    constructor
    · intro h
      have h1 : (n &&& 2 ^ j).testBit j = false := by rw [h]; simp
      rw [Nat.testBit_and] at h1
      first | simpa using h1 | simpa [Nat.testBit_two_pow_self] using h1 | simpa [Nat.testBit_two_pow] using h1
    · intro h
      apply Nat.eq_of_testBit_eq
      intro i
      rw [Nat.testBit_and]
      by_cases hi : j = i
      · subst hi; simp [h]
      · first | (simp [Nat.testBit_two_pow, hi]; done) | (simp [Nat.testBit_two_pow_of_ne hi]; done)
  rw [fa_and]
  constructor
  · intro h
    apply e.mp
    rcases Nat.eq_zero_or_pos (n &&& 2 ^ j) with z | z
    · exact z
    · exact absurd h (nI_ne0 z (Nat.lt_of_le_of_lt hle h2))
  · intro h
    rw [e.mpr h]; exact nI_0
/-! ===== lN n to 2^64: shifts, and, or, masks, one bit ===== -/
theorem wb_tb (n : Nat) : (lN n).toBitVec = BitVec.ofNat 64 n := rfl
theorem wb_inj {a b : Int64} (h : a.toBitVec = b.toBitVec) : a = b := Int64.toBitVec_inj.mp h
theorem wb_tn {n : Nat} (h : n < 2 ^ 64) : (lN n).toBitVec.toNat = n := by rw [wb_tb, BitVec.toNat_ofNat, Nat.mod_eq_of_lt h]
theorem wb_c : ∀ k, k < 64 → ((nI k).toInt64 &&& 63) = lN k := by decide +kernel
theorem wb_cu : ∀ k, k < 64 → ((nI k).toInt64.toUInt64 &&& Int64.toUInt64 63) = UInt64.ofNat k := by decide +kernel
theorem wb_sm : ∀ k, k < 64 → (BitVec.ofNat 64 k).smod 64 = BitVec.ofNat 64 k := by decide +kernel
theorem wb_shr {n k : Nat} (hn : n < 2 ^ 64) (hk : k < 64) : ((lN n).toUInt64 >>> ((nI k).toInt64.toUInt64 &&& Int64.toUInt64 63)).toInt64 = lN (n / 2 ^ k) := by
  rw [wb_cu k hk]
  apply wb_inj
  apply BitVec.eq_of_toNat_eq
  show ((lN n).toUInt64 >>> UInt64.ofNat k).toNat = (BitVec.ofNat 64 _).toNat
  have h1 : (UInt64.ofNat k).toNat = k := by
    show (BitVec.ofNat 64 k).toNat = k
    rw [BitVec.toNat_ofNat, Nat.mod_eq_of_lt (by omega)]
  have h2 : (lN n).toUInt64.toNat = n := wb_tn hn
  rw [UInt64.toNat_shiftRight, h1, h2, Nat.mod_eq_of_lt hk, Nat.shiftRight_eq_div_pow, BitVec.toNat_ofNat, Nat.mod_eq_of_lt (Nat.lt_of_le_of_lt (Nat.div_le_self _ _) hn)]
theorem wb_shl (n : Nat) {k : Nat} (hk : k < 64) : lN n <<< ((nI k).toInt64 &&& 63) = lN (n * 2 ^ k) := by
  rw [wb_c k hk]
  apply wb_inj
  rw [Int64.toBitVec_shiftLeft, wb_tb, wb_tb, wb_tb, wb_sm k hk]
  apply BitVec.eq_of_toNat_eq
  rw [BitVec.shiftLeft_eq', BitVec.toNat_shiftLeft, BitVec.toNat_ofNat, BitVec.toNat_ofNat, BitVec.toNat_ofNat, Nat.mod_eq_of_lt (show k < 2 ^ 64 by omega), Nat.shiftLeft_eq, Nat.mul_mod, Nat.mod_mod, ← Nat.mul_mod]
/-! ===== the first index with a property; a count ===== -/
/-- the first k < n with p k, n if there is none -/
def fa_first (p : Nat → Bool) : Nat → Nat
  | 0 => 0
  | n + 1 => if fa_first p n < n then fa_first p n else if p n then n else n + 1
theorem fa_first_le (p : Nat → Bool) : ∀ n, fa_first p n ≤ n
  | 0 => Nat.le_refl 0
  | n + 1 => by
    have ih := fa_first_le p n
    unfold fa_first
    split
    · omega
    · split
      · omega
      · omega
theorem fa_first_no (p : Nat → Bool) : ∀ n k, k < fa_first p n → p k = false
  | 0, k, h => absurd h (Nat.not_lt_zero k)
  | n + 1, k, h => by
    have ih := fa_first_no p n
    have hl := fa_first_le p n
    unfold fa_first at h
    split at h
    · exact ih k h
    · rename_i h1
      split at h
      · exact ih k (by omega)
      · rename_i h2
        by_cases e : k = n
        · subst e
          exact Bool.eq_false_iff.mpr h2
        · exact ih k (by omega)
theorem fa_first_yes (p : Nat → Bool) : ∀ n, fa_first p n < n → p (fa_first p n) = true
  | 0, h => absurd h (Nat.not_lt_zero _)
  | n + 1, h => by
    have ih := fa_first_yes p n
    have hl := fa_first_le p n
    unfold fa_first at h ⊢
    split at h
    · rename_i h1
      rw [if_pos h1]
      exact ih h1
    · rename_i h1
      rw [if_neg h1]
      split at h
      · rename_i h2
        rw [if_pos h2]
        exact h2
      · omega
/-- how many k < n have p k -/
def fa_cnt (p : Nat → Bool) : Nat → Nat
  | 0 => 0
  | n + 1 => fa_cnt p n + if p n then 1 else 0
theorem fa_cnt_le (p : Nat → Bool) : ∀ n, fa_cnt p n ≤ n
  | 0 => Nat.le_refl 0
  | n + 1 => by
    have ih := fa_cnt_le p n
    unfold fa_cnt
    split
    · omega
    · omega
theorem fa_cnt_cong {p q : Nat → Bool} : ∀ {n : Nat}, (∀ k, k < n → p k = q k) → fa_cnt p n = fa_cnt q n
  | 0, _ => rfl
  | n + 1, h => by rw [fa_cnt, fa_cnt, fa_cnt_cong (fun k hk => h k (Nat.lt_succ_of_lt hk)), h n (Nat.lt_succ_self n)]
theorem fb_andL (a b : Nat) : lN a &&& lN b = lN (a &&& b) := by
  apply Int64.toBitVec_inj.1
  show BitVec.ofNat 64 a &&& BitVec.ofNat 64 b = BitVec.ofNat 64 (a &&& b)
  apply BitVec.eq_of_getLsbD_eq
  intro i hi
  simp [hi]
theorem fb_orL (a b : Nat) : lN a ||| lN b = lN (a ||| b) := by
  apply Int64.toBitVec_inj.1
  show BitVec.ofNat 64 a ||| BitVec.ofNat 64 b = BitVec.ofNat 64 (a ||| b)
  apply BitVec.eq_of_getLsbD_eq
  intro i hi
  simp [hi]
theorem fb_xorI (a b : Nat) : nI a ^^^ nI b = nI (a ^^^ b) := by
  apply Int32.toBitVec_inj.1
  show BitVec.ofNat 32 a ^^^ BitVec.ofNat 32 b = BitVec.ofNat 32 (a ^^^ b)
  apply BitVec.eq_of_getLsbD_eq
  intro i hi
  simp [hi]
theorem fb_lN_inj {a b : Nat} (ha : a < 2 ^ 63) (hb : b < 2 ^ 63) : lN a = lN b ↔ a = b := by
  constructor
  · intro h
    have h1 : (BitVec.ofNat 64 a).toNat = (BitVec.ofNat 64 b).toNat := congrArg (fun x : Int64 => x.toBitVec.toNat) h
    rw [BitVec.toNat_ofNat, BitVec.toNat_ofNat, Nat.mod_eq_of_lt (by omega), Nat.mod_eq_of_lt (by omega)] at h1
    exact h1
  · rintro rfl; rfl
theorem fb_bit_nat (n j : Nat) : n &&& 2 ^ j = 0 ↔ n.testBit j = false := by
  constructor
  · intro h
    have h1 : (n &&& 2 ^ j).testBit j = false := by rw [h]; simp
    rw [Nat.testBit_and] at h1
    simpa using h1
  · intro h
    apply Nat.eq_of_testBit_eq
    intro i
    rw [Nat.testBit_and]
    by_cases hi : j = i
    · subst hi; simp [h]
    · first | (simp [Nat.testBit_two_pow, hi]; done) | (simp [Nat.testBit_two_pow_of_ne hi]; done)
theorem fb_bitL {n j : Nat} (hj : j < 63) : lN n &&& lN (2 ^ j) = 0 ↔ n.testBit j = false := by
  have h2 : (2 : Nat) ^ j < 2 ^ 63 := Nat.pow_lt_pow_right (by decide) hj
  have hle : n &&& 2 ^ j ≤ 2 ^ j := Nat.and_le_right
  rw [fb_andL, ← fb_bit_nat, show (0 : Int64) = lN 0 from rfl]
  exact fb_lN_inj (by omega) (by decide)
theorem qge_0 {i : Nat} (h : i < 2 ^ 31) : (nI i ≤ (0 : Int32)) = (i ≤ 0) := propext (nI_leI (b := 0) h (by decide))
theorem qeq_0 {i : Nat} (h : i < 2 ^ 31) : (nI i = (0 : Int32)) = (i = 0) := propext (nI_eq (b := 0) h (by decide))
theorem qlt_1 {i : Nat} (h : i < 2 ^ 31) : (nI i < (1 : Int32)) = (i < 1) := propext (nI_ltI (b := 1) h (by decide))
theorem qeq_1 {i : Nat} (h : i < 2 ^ 31) : (nI i = (1 : Int32)) = (i = 1) := propext (nI_eq (b := 1) h (by decide))
theorem qad_1 (i : Nat) : nI i + (1 : Int32) = nI (i + 1) := nI_add i 1
theorem qlt_2 {i : Nat} (h : i < 2 ^ 31) : (nI i < (2 : Int32)) = (i < 2) := propext (nI_ltI (b := 2) h (by decide))
theorem qge_2 {i : Nat} (h : i < 2 ^ 31) : (nI i ≤ (2 : Int32)) = (i ≤ 2) := propext (nI_leI (b := 2) h (by decide))
theorem qeq_2 {i : Nat} (h : i < 2 ^ 31) : (nI i = (2 : Int32)) = (i = 2) := propext (nI_eq (b := 2) h (by decide))
theorem qle_7 {i : Nat} (h : i < 2 ^ 31) : ((7 : Int32) ≤ nI i) = (7 ≤ i) := propext (nI_leI (a := 7) (by decide) h)
theorem qge_7 {i : Nat} (h : i < 2 ^ 31) : (nI i ≤ (7 : Int32)) = (i ≤ 7) := propext (nI_leI (b := 7) h (by decide))
theorem qle_10 {i : Nat} (h : i < 2 ^ 31) : ((10 : Int32) ≤ nI i) = (10 ≤ i) := propext (nI_leI (a := 10) (by decide) h)
theorem qlt_10 {i : Nat} (h : i < 2 ^ 31) : (nI i < (10 : Int32)) = (i < 10) := propext (nI_ltI (b := 10) h (by decide))
theorem qle_11 {i : Nat} (h : i < 2 ^ 31) : ((11 : Int32) ≤ nI i) = (11 ≤ i) := propext (nI_leI (a := 11) (by decide) h)
theorem qlt_11 {i : Nat} (h : i < 2 ^ 31) : (nI i < (11 : Int32)) = (i < 11) := propext (nI_ltI (b := 11) h (by decide))
theorem qle_1024 {i : Nat} (h : i < 2 ^ 31) : ((1024 : Int32) ≤ nI i) = (1024 ≤ i) := propext (nI_leI (a := 1024) (by decide) h)
theorem qlt_1024 {i : Nat} (h : i < 2 ^ 31) : (nI i < (1024 : Int32)) = (i < 1024) := propext (nI_ltI (b := 1024) h (by decide))
theorem qle {a b : Nat} (ha : a < 2 ^ 31) (hb : b < 2 ^ 31) : (nI a ≤ nI b) = (a ≤ b) := propext (nI_leI ha hb)
theorem qlt {a b : Nat} (ha : a < 2 ^ 31) (hb : b < 2 ^ 31) : (nI a < nI b) = (a < b) := propext (nI_ltI ha hb)
theorem qeq {a b : Nat} (ha : a < 2 ^ 31) (hb : b < 2 ^ 31) : (nI a = nI b) = (a = b) := propext (nI_eq ha hb)
theorem gd_in {α : Type} {i N : Nat} {d : Decidable (¬ (nI i < 0 ∨ N ≤ (nI i).toNatClampNeg))} {k : Option α} (h1 : i < N) (h2 : N < 2 ^ 31) : gd (¬ (nI i < 0 ∨ N ≤ (nI i).toNatClampNeg)) k = k := if_pos (nI_in h1 h2)
theorem gd_i2 {α : Type} {i N : Nat} {d : Decidable (¬ (nI i < 0 ∨ N ≤ i))} {k : Option α} (h1 : i < N) (h2 : N < 2 ^ 31) : gd (¬ (nI i < 0 ∨ N ≤ i)) k = k := if_pos (fun q => q.elim (nI_pos (by omega)) (fun q => by omega))
theorem gd_i3 {α : Type} {i N : Nat} {d : Decidable (¬ ((nI i).toInt < 0 ∨ N ≤ i))} {k : Option α} (h1 : i < N) (h2 : N < 2 ^ 31) : gd (¬ ((nI i).toInt < 0 ∨ N ≤ i)) k = k := if_pos (fun q => q.elim (fun q => by rw [nI_toInt (by omega)] at q; omega) (fun q => by omega))
theorem gd_t {α : Type} {c : Prop} {d : Decidable c} {k : Option α} (h : c) : gd c k = k := if_pos h
/-- a boolean as an int -/
def bz (b : Bool) : Int32 := if b then 1 else 0
theorem bz_if {α : Type} (b : Bool) (x y : α) : (if bz b = 0 then x else y) = if b = true then y else x := by cases b <;> rfl
theorem bz_01 (b : Bool) : bz b = 0 ∨ bz b = 1 := by cases b; exact Or.inl rfl; exact Or.inr rfl
theorem bz_gd {α : Type} (b : Bool) {d : Decidable (bz b = 0 ∨ bz b = 1)} (k : Option α) : gd (bz b = 0 ∨ bz b = 1) k = k := if_pos (bz_01 b)
theorem vl_from {S E : Type} {B : S → Option (S ⊕ E)} (f : Nat → S) (n : Nat) {e : E} (hs : ∀ i, i < n → B (f i) = some (.inl (f (i + 1)))) (he : B (f n) = some (.inr e)) : ∀ F k, k ≤ n → n < k + F → vLoop B F (f k) = some e
  | 0, k, h1, h2 => by omega
  | F + 1, k, h1, h2 => by
    unfold vLoop
    by_cases hk : k = n
    · subst hk; rw [he]
    · rw [hs k (by omega)]
      exact vl_from f n hs he F (k + 1) (by omega) (by omega)
theorem vl_F {S E : Type} {B : S → Option (S ⊕ E)} (f : Nat → S) (k n : Nat) {e : E} (hk : k ≤ n) (hn : n < 100000) (hs : ∀ i, k ≤ i → i < n → B (f i) = some (.inl (f (i + 1)))) (he : B (f n) = some (.inr e)) : vLoop B FUEL (f k) = some e := by
  have h := vl_from (B := B) (fun i => f (k + i)) (n - k) (e := e) (fun i hi => hs (k + i) (by omega) (by omega)) (by show B (f (k + (n - k))) = _; rw [show k + (n - k) = n by omega]; exact he) FUEL 0 (by omega) (by unfold FUEL; omega)
  exact h
theorem vl_tot {S E : Type} {B : S → Option (S ⊕ E)} (P : Nat → S → Prop) (Q : E → Prop) (hs : ∀ i s, P i s → (∃ e, B s = some (.inr e) ∧ Q e) ∨ (∃ t, B s = some (.inl t) ∧ ∃ j, j < i ∧ P j t)) : ∀ F i s, i < F → P i s → ∃ e, vLoop B F s = some e ∧ Q e
  | 0, i, s, h, _ => by omega
  | F + 1, i, s, h, hp => by
    rcases hs i s hp with ⟨e, h1, h2⟩ | ⟨t, h1, j, h2, h3⟩
    · exact ⟨e, by unfold vLoop; rw [h1], h2⟩
    · obtain ⟨e, h4, h5⟩ := vl_tot P Q hs F j t (by omega) h3
      exact ⟨e, by unfold vLoop; rw [h1]; exact h4, h5⟩
theorem vl_totF {S E : Type} {B : S → Option (S ⊕ E)} (P : Nat → S → Prop) (Q : E → Prop) (hs : ∀ i s, P i s → (∃ e, B s = some (.inr e) ∧ Q e) ∨ (∃ t, B s = some (.inl t) ∧ ∃ j, j < i ∧ P j t)) {i : Nat} {s : S} (hi : i < 100000) (h : P i s) : ∃ e, vLoop B FUEL s = some e ∧ Q e := vl_tot P Q hs FUEL i s (by unfold FUEL; exact hi) h
/-- sums below n -/
def sm (f : Nat → Nat) : Nat → Nat
  | 0 => 0
  | n + 1 => sm f n + f n
theorem sm_cong {f g : Nat → Nat} : ∀ {n : Nat}, (∀ i, i < n → f i = g i) → sm f n = sm g n
  | 0, _ => rfl
  | n + 1, h => by unfold sm; rw [sm_cong (fun i hi => h i (by omega)), h n (by omega)]
theorem sm_add (f g : Nat → Nat) : ∀ n, sm (fun i => f i + g i) n = sm f n + sm g n
  | 0 => rfl
  | n + 1 => by unfold sm; rw [sm_add f g n]; omega
theorem sm_mul (c : Nat) (f : Nat → Nat) : ∀ n, sm (fun i => c * f i) n = c * sm f n
  | 0 => rfl
  | n + 1 => by unfold sm; rw [sm_mul c f n, Nat.mul_add]
theorem sm_split (f : Nat → Nat) (m : Nat) : ∀ n, sm f (m + n) = sm f m + sm (fun i => f (m + i)) n
  | 0 => rfl
  | n + 1 => by show sm f (m + n) + f (m + n) = _; rw [sm_split f m n]; exact Nat.add_assoc _ _ _
theorem sm_le {f g : Nat → Nat} : ∀ {n : Nat}, (∀ i, i < n → f i ≤ g i) → sm f n ≤ sm g n
  | 0, _ => Nat.le_refl 0
  | n + 1, h => by unfold sm; exact Nat.add_le_add (sm_le (fun i hi => h i (by omega))) (h n (by omega))
theorem sm_zero {f : Nat → Nat} {n : Nat} (h : ∀ i, i < n → f i = 0) : sm f n = 0 := by
  rw [sm_cong (g := fun _ => 0) h]
  clear h
  induction n with
  | zero => rfl
  | succ n ih => unfold sm; rw [ih]
theorem sm_comm (f : Nat → Nat → Nat) (m : Nat) : ∀ n, sm (fun i => sm (f i) m) n = sm (fun j => sm (fun i => f i j) n) m
  | 0 => (sm_zero (fun _ _ => rfl)).symm
  | n + 1 => by
    show sm (fun i => sm (f i) m) n + sm (f n) m = _
    rw [sm_comm f m n, ← sm_add]
    rfl
/-- a power of two as a shift -/
theorem shl_1 : ∀ k, k < 31 → ((1 : Int32) <<< (nI k &&& 31)) = nI (2 ^ k) := by decide +kernel
theorem shl_m : ∀ k, k < 31 → ((1 : Int32) <<< (nI k &&& 31)) - (1 : Int32) = nI (2 ^ k - 1) := by decide +kernel
theorem i32_31 : ∀ k, k < 32 → ((nI k).toUInt32 &&& Int32.toUInt32 31).toBitVec % 32 = BitVec.ofNat 32 k := by decide +kernel
theorem shr_bit {n k : Nat} (hn : n < 2 ^ 31) (hk : k < 31) : (((nI n).toUInt32 >>> ((nI k).toUInt32 &&& Int32.toUInt32 31)).toInt32 &&& (1 : Int32)) = bz (n.testBit k) := by
  rw [pk_ushrN (by omega) (nI k) k (by rw [i32_31 k (by omega), BitVec.toNat_ofNat]; exact Nat.mod_eq_of_lt (by omega))]
  have h := fa_mask (n / 2 ^ k) 1
  rw [show (1 : Int32) = nI (2 ^ 1 - 1) from rfl, h, Nat.testBit_eq_decide_div_mod_eq]
  rcases (show n / 2 ^ k % 2 ^ 1 = 0 ∨ n / 2 ^ k % 2 ^ 1 = 1 by omega) with q | q
  · rw [q]; rfl
  · rw [q]; rfl
theorem i32_s : ∀ k, k < 31 → ((nI k &&& 31).toBitVec.smod 32).toNat = k := by decide +kernel
theorem sar_bit {n k : Nat} (hn : n < 2 ^ 31) (hk : k < 31) : ((nI n >>> (nI k &&& 31)) &&& (1 : Int32)) = bz (n.testBit k) := by
  rw [pk_shrN hn _ k (i32_s k hk)]
  have h := fa_mask (n / 2 ^ k) 1
  rw [show (1 : Int32) = nI (2 ^ 1 - 1) from rfl, h, Nat.testBit_eq_decide_div_mod_eq]
  rcases (show n / 2 ^ k % 2 ^ 1 = 0 ∨ n / 2 ^ k % 2 ^ 1 = 1 by omega) with q | q
  · rw [q]; rfl
  · rw [q]; rfl
/-- a without the bits of b -/
def wo (a b : Nat) : Nat := a ^^^ (a &&& b)
theorem wo_bit (a b i : Nat) : (wo a b).testBit i = (a.testBit i && !b.testBit i) := by
  unfold wo
  rw [Nat.testBit_xor, Nat.testBit_and]
  cases a.testBit i <;> cases b.testBit i <;> rfl
theorem wo_i (a b : Nat) : nI a &&& (nI b ^^^ (-1 : Int32)) = nI (wo a b) := by
  unfold wo
  rw [← fb_xorI, ← fa_and]
  apply Int32.toBitVec_inj.1
  show (nI a).toBitVec &&& ((nI b).toBitVec ^^^ (-1 : Int32).toBitVec) = (nI a).toBitVec ^^^ ((nI a).toBitVec &&& (nI b).toBitVec)
  generalize (nI a).toBitVec = x
  generalize (nI b).toBitVec = y
  have h : (-1 : Int32).toBitVec = BitVec.allOnes 32 := by decide
  rw [h]
  apply BitVec.eq_of_getLsbD_eq
  intro i hi
  rw [BitVec.getLsbD_and, BitVec.getLsbD_xor, BitVec.getLsbD_xor, BitVec.getLsbD_and, BitVec.getLsbD_allOnes]
  simp only [hi, decide_true]
  cases x.getLsbD i <;> cases y.getLsbD i <;> rfl
theorem bit_lt {x n : Nat} (h : ∀ i, n ≤ i → x.testBit i = false) : x < 2 ^ n := Nat.lt_pow_two_of_testBit x h
theorem bit_ge {x n i : Nat} (h : x < 2 ^ n) (hi : n ≤ i) : x.testBit i = false := Nat.testBit_lt_two_pow (Nat.lt_of_lt_of_le h (Nat.pow_le_pow_right (by decide) hi))
theorem wo_lt {a b n : Nat} (h : a < 2 ^ n) : wo a b < 2 ^ n := bit_lt (fun i hi => by rw [wo_bit, bit_ge h hi]; rfl)
theorem or_lt {a b n : Nat} (h : a < 2 ^ n) (h2 : b < 2 ^ n) : (a ||| b) < 2 ^ n := bit_lt (fun i hi => by rw [Nat.testBit_or, bit_ge h hi, bit_ge h2 hi]; rfl)
/-- how many bits, of ten -/
def pc (x : Nat) : Nat := fa_cnt (fun i => x.testBit i) 10
theorem bc_e : ∀ x, x < 1024 → m_J6_bitCount_0f7a4 (nI x) = some (nI (pc x)) := by decide +kernel
/-- the least bit, of ten -/
def tz (x : Nat) : Nat := fa_first (fun i => x.testBit i) 10
theorem tz_e : ∀ x, x < 1024 → 0 < x → m_J6_numberOfTrailingZeros_0f7a4 (nI x) = some (nI (tz x)) := by decide +kernel
