/-! least cut, least way, counts -/
def mstep (r o : Option Nat) : Option Nat := match o with
  | none => r
  | some v => match r with
    | none => some v
    | some m => some (if v < m then v else m)
def mnf (f : Nat → Option Nat) : Nat → Option Nat
  | 0 => none
  | n + 1 => mstep (mnf f n) (f n)
def isMin (f : Nat → Option Nat) (n : Nat) (r : Option Nat) : Prop := (r = none → ∀ i, i < n → f i = none) ∧ ∀ m, r = some m → (∃ i, i < n ∧ f i = some m) ∧ ∀ i v, i < n → f i = some v → m ≤ v
theorem mnf_spec (f : Nat → Option Nat) : ∀ n, isMin f n (mnf f n)
  | 0 => ⟨fun _ i hi => absurd hi (Nat.not_lt_zero i), fun m h => by cases h⟩
  | n + 1 => by
    obtain ⟨h1, h2⟩ := mnf_spec f n
    show isMin f (n + 1) (mstep (mnf f n) (f n))
    cases ho : f n with
    | none =>
      refine ⟨fun h i hi => ?_, fun m hm => ?_⟩
      · by_cases hin : i = n
        · subst hin; exact ho
        · exact h1 h i (by omega)
      · obtain ⟨⟨i, a1, a2⟩, a3⟩ := h2 m hm
        refine ⟨⟨i, by omega, a2⟩, fun j v hj hv => ?_⟩
        by_cases hjn : j = n
        · subst hjn; rw [ho] at hv; cases hv
        · exact a3 j v (by omega) hv
    | some v =>
      cases hr : mnf f n with
      | none =>
        refine ⟨fun h => (by cases h), fun m hm => ?_⟩
        have hm : some v = some m := hm
        cases hm
        refine ⟨⟨n, by omega, ho⟩, fun j w hj hw => ?_⟩
        by_cases hjn : j = n
        · subst hjn; rw [ho] at hw; cases hw; exact Nat.le_refl _
        · rw [h1 hr j (by omega)] at hw; cases hw
      | some k =>
        obtain ⟨⟨i, a1, a2⟩, a3⟩ := h2 k hr
        refine ⟨fun h => (by cases h), fun m hm => ?_⟩
        have hm : some (if v < k then v else k) = some m := hm
        cases hm
        refine ⟨?_, fun j w hj hw => ?_⟩
        · split
          · exact ⟨n, by omega, ho⟩
          · exact ⟨i, by omega, a2⟩
        · by_cases hjn : j = n
          · subst hjn; rw [ho] at hw; cases hw; split <;> omega
          · have := a3 j w (by omega) hw
            split <;> omega
theorem isMin_eq {f g : Nat → Option Nat} {n m : Nat} {r q : Option Nat} (h : ∀ v, (∃ i, i < n ∧ f i = some v) ↔ ∃ j, j < m ∧ g j = some v) (hr : isMin f n r) (hq : isMin g m q) : r = q := by
  cases r with
  | none =>
    cases q with
    | none => rfl
    | some k =>
      obtain ⟨⟨j, a1, a2⟩, -⟩ := hq.2 k rfl
      obtain ⟨i, b1, b2⟩ := (h k).mpr ⟨j, a1, a2⟩
      rw [hr.1 rfl i b1] at b2; cases b2
  | some p =>
    obtain ⟨⟨i, a1, a2⟩, a3⟩ := hr.2 p rfl
    cases q with
    | none =>
      obtain ⟨j, b1, b2⟩ := (h p).mp ⟨i, a1, a2⟩
      rw [hq.1 rfl j b1] at b2; cases b2
    | some k =>
      obtain ⟨⟨j, b1, b2⟩, b3⟩ := hq.2 k rfl
      obtain ⟨j2, c1, c2⟩ := (h p).mp ⟨i, a1, a2⟩
      obtain ⟨i2, d1, d2⟩ := (h k).mpr ⟨j, b1, b2⟩
      have := b3 j2 p c1 c2
      have := a3 i2 k d1 d2
      congr 1
      omega
theorem amI_ne {j : Nat} (h : j < 2 ^ 31) : ¬ amI (some j) = (-1 : Int32) := fun q => by
  have := (fa_eq _ _).mp q
  rw [show amI (some j) = nI j from rfl, nI_toInt h, show (-1 : Int32).toInt = -1 from by decide] at this
  omega
theorem all_bit (n i : Nat) : (2 ^ n - 1).testBit i = decide (i < n) := Nat.testBit_two_pow_sub_one n i
theorem cnt_add {p q r : Nat → Bool} : ∀ {n : Nat}, (∀ i, i < n → (if p i = true then 1 else 0) + (if q i = true then 1 else 0) = (if r i = true then 1 else 0)) → fa_cnt p n + fa_cnt q n = fa_cnt r n
  | 0, _ => rfl
  | n + 1, h => by
    have ih := cnt_add (p := p) (q := q) (r := r) (n := n) (fun i hi => h i (by omega))
    have h2 := h n (by omega)
    unfold fa_cnt
    omega
theorem cnt_lt (L : Nat) : ∀ n, fa_cnt (fun i => decide (i < L)) n = if n ≤ L then n else L
  | 0 => by rw [if_pos (Nat.zero_le _)]; rfl
  | n + 1 => by
    unfold fa_cnt
    rw [cnt_lt L n]
    by_cases h : n < L
    · rw [if_pos (by omega), if_pos (decide_eq_true h), if_pos (by omega)]
    · rw [if_neg (show ¬ decide (n < L) = true by rw [decide_eq_false h]; decide), if_neg (show ¬ n + 1 ≤ L by omega)]
      split <;> omega
theorem wo_all_lt {L s : Nat} : wo (2 ^ L - 1) s < 2 ^ L := wo_lt (by have := Nat.two_pow_pos L; omega)
theorem wo_all2 {L s : Nat} (hs : s < 2 ^ L) : wo (2 ^ L - 1) (wo (2 ^ L - 1) s) = s := by
  refine bit_ext wo_all_lt hs (fun i hi => ?_)
  rw [wo_bit, wo_bit, all_bit, decide_eq_true hi]
  cases s.testBit i <;> rfl
theorem pc_all {L s : Nat} (hL : L ≤ 10) (hs : s < 2 ^ L) : pc s + pc (wo (2 ^ L - 1) s) = L := by
  have h : fa_cnt (fun i => s.testBit i) 10 + fa_cnt (fun i => (wo (2 ^ L - 1) s).testBit i) 10 = fa_cnt (fun i => decide (i < L)) 10 := cnt_add (fun i _ => by
    rw [wo_bit, all_bit]
    by_cases hi : i < L
    · rw [decide_eq_true hi]; cases s.testBit i <;> rfl
    · rw [decide_eq_false hi, bit_ge hs (by omega)]; rfl)
  unfold pc
  rw [h, cnt_lt]
  split <;> omega
section LE
variable {b t : ST} {D : ND}
/-- the values that least cut is the least of, as the one looks, as the other does -/
def fcC (D : ND) (s : Nat) : Option Nat := if rch D (wo (2 ^ dL D - 1) s) = true then none else some (pc s)
def fcM (D : ND) (s : Nat) : Option Nat := if rch D s = true then none else some (dL D - pc s)
def fwC (D : ND) (s : Nat) : Option Nat := if rch D s = true then some (pc s) else none
def fwM (D : ND) (k : Nat) : Option Nat := if 0 < SC D k then some k else none
theorem mnf_lt {f : Nat → Option Nat} {n B : Nat} (h : ∀ i v, i < n → f i = some v → v < B) {m : Nat} (hm : mnf f n = some m) : m < B := by
  obtain ⟨⟨i, a1, a2⟩, -⟩ := (mnf_spec f n).2 m hm
  exact h i m a1 a2
theorem lesser_e {r : Option Nat} {s : Nat} (hr : ∀ m, r = some m → m < 2 ^ 31) (hs : s < 1024) : m_X5_lesserSize (amI r) (nI s) = some (amI (mstep r (some (pc s)))) := by
  have hpc := pc_lt (x := s)
  unfold m_X5_lesserSize
  rw [bc_e s hs, Option.bind_some]
  cases r with
  | none => rfl
  | some m =>
    have hm := hr m rfl
    rw [if_neg (amI_ne hm)]
    show some (if nI (pc s) < nI m then nI (pc s) else nI m) = some (nI (if pc s < m then pc s else m))
    by_cases h : pc s < m
    · rw [if_pos (nI_lt h hm), if_pos h]
    · rw [if_neg (nI_nlt (by omega) (by omega)), if_neg h]
theorem lc_e (hC : repC b D) (hJ : jnC b D) (hD : okD D) : m_X5_leastCut b = some (amI (mnf (fcC D) (2 ^ dL D))) := by
  have hL := hD.2.2.1
  have hp : 2 ^ dL D ≤ 2 ^ 10 := Nat.pow_le_pow_right (by decide) hL
  have hp0 := Nat.two_pow_pos (dL D)
  have hb : ∀ n i v, i < n → fcC D i = some v → v < 2 ^ 31 := fun n i v _ h => by
    have hpc := pc_lt (x := i)
    unfold fcC at h
    split at h
    · cases h
    · cases h; omega
  unfold m_X5_leastCut
  have hl : vLoop (m_X5_leastCut_L4 b) FUEL ((-1 : Int32), (0 : Int32)) = some (amI (mnf (fcC D) (2 ^ dL D))) := by
    refine vl_F (fun i => (amI (mnf (fcC D) i), nI i)) 0 (2 ^ dL D) (by omega) (by omega) (fun i _ hi => ?_) ?_
    · unfold m_X5_leastCut_L4
      simp only [un, lt]
      rw [al_e hC hD, Option.bind_some, if_neg (by rw [all_end hC hD (by omega)]; omega), Option.bind_some, wo_i, re_e hC hJ hD wo_all_lt, Option.bind_some, bz_if, nI_1]
      show _ = some (Sum.inl (amI (mstep (mnf (fcC D) i) (fcC D i)), nI (i + 1)))
      unfold fcC
      cases hr : rch D (wo (2 ^ dL D - 1) i)
      · rw [if_neg (by decide), if_neg (by decide)]
        have hq := lesser_e (r := mnf (fcC D) i) (s := i) (fun m hm => mnf_lt (hb i) hm) (by omega)
        unfold fcC at hq
        rw [hq, Option.bind_some]
      · rw [if_pos rfl, if_pos rfl]; rfl
    · unfold m_X5_leastCut_L4
      simp only [un]
      rw [al_e hC hD, Option.bind_some, if_pos (by rw [all_end hC hD (by omega)])]
  rw [hl, Option.bind_some]
theorem lcM_e (hM : repM t D) (hD : okD D) : m_X10_leastCut t = some (amI (mnf (fcM D) (2 ^ dL D))) := by
  have hL := hD.2.2.1
  have hp : 2 ^ dL D ≤ 2 ^ 10 := Nat.pow_le_pow_right (by decide) hL
  have hp0 := Nat.two_pow_pos (dL D)
  have hb : ∀ n i v, i < n → fcM D i = some v → v < 2 ^ 31 := fun n i v _ h => by
    unfold fcM at h
    split at h
    · cases h
    · cases h; omega
  unfold m_X10_leastCut
  have hl : vLoop (m_X10_leastCut_L4 t) FUEL ((-1 : Int32), (0 : Int32)) = some (amI (mnf (fcM D) (2 ^ dL D))) := by
    refine vl_F (fun i => (amI (mnf (fcM D) i), nI i)) 0 (2 ^ dL D) (by omega) (by omega) (fun i _ hi => ?_) ?_
    · have hpa := pc_all hL hi
      unfold m_X10_leastCut_L4
      simp only [un, lt]
      rw [hM.2.1, shl_1 _ (by omega), if_neg (by rw [qle (by omega) (by omega)]; omega), bits_e (by omega), Option.bind_some, waM_e hM hD, Option.bind_some, reW_e hM hD hi, Option.bind_some, bz_if, nI_1, pk_sub (show pc i ≤ dL D by omega)]
      show _ = some (Sum.inl (amI (mstep (mnf (fcM D) i) (fcM D i)), nI (i + 1)))
      cases hr : rch D i
      · have hf : fcM D i = some (dL D - pc i) := by unfold fcM; rw [hr]; rfl
        rw [if_neg (by decide), hf]
        cases hm : mnf (fcM D) i with
        | none => rw [if_pos (show amI none = (-1 : Int32) from rfl)]; rfl
        | some m =>
          have hm31 := mnf_lt (hb i) hm
          rw [if_neg (amI_ne hm31)]
          show (if nI m ≤ nI (dL D - pc i) then _ else _) = some (Sum.inl (nI (if dL D - pc i < m then dL D - pc i else m), nI (i + 1)))
          by_cases h : dL D - pc i < m
          · rw [if_neg (nI_ge h hm31), if_pos h]
          · rw [if_pos (nI_le (by omega) (by omega)), if_neg h]; rfl
      · have hf : fcM D i = none := by unfold fcM; rw [hr]; rfl
        rw [if_pos rfl, hf]; rfl
    · unfold m_X10_leastCut_L4
      simp only [un]
      rw [hM.2.1, shl_1 _ (by omega), if_pos (by rw [qle (by omega) (by omega)]; omega)]
  rw [hl, Option.bind_some]
theorem lc_eq (hD : okD D) : mnf (fcC D) (2 ^ dL D) = mnf (fcM D) (2 ^ dL D) := by
  have hL := hD.2.2.1
  refine isMin_eq (fun v => ?_) (mnf_spec _ _) (mnf_spec _ _)
  constructor
  · rintro ⟨i, hi, hv⟩
    have hpa := pc_all hL hi
    refine ⟨wo (2 ^ dL D - 1) i, wo_all_lt, ?_⟩
    unfold fcC at hv
    unfold fcM
    split at hv
    · cases hv
    · rename_i hr
      rw [if_neg hr]
      cases hv
      congr 1
      omega
  · rintro ⟨i, hi, hv⟩
    have hpa := pc_all hL hi
    refine ⟨wo (2 ^ dL D - 1) i, wo_all_lt, ?_⟩
    unfold fcM at hv
    unfold fcC
    rw [wo_all2 hi]
    split at hv
    · cases hv
    · rename_i hr
      rw [if_neg hr]
      cases hv
      congr 1
      omega
theorem lw_e (hC : repC b D) (hJ : jnC b D) (hD : okD D) : m_X5_leastWay b = some (amI (mnf (fwC D) (2 ^ dL D))) := by
  have hL := hD.2.2.1
  have hp : 2 ^ dL D ≤ 2 ^ 10 := Nat.pow_le_pow_right (by decide) hL
  have hp0 := Nat.two_pow_pos (dL D)
  have hb : ∀ n i v, i < n → fwC D i = some v → v < 2 ^ 31 := fun n i v _ h => by
    have hpc := pc_lt (x := i)
    unfold fwC at h
    split at h
    · cases h; omega
    · cases h
  unfold m_X5_leastWay
  have hl : vLoop (m_X5_leastWay_L4 b) FUEL ((-1 : Int32), (0 : Int32)) = some (amI (mnf (fwC D) (2 ^ dL D))) := by
    refine vl_F (fun i => (amI (mnf (fwC D) i), nI i)) 0 (2 ^ dL D) (by omega) (by omega) (fun i _ hi => ?_) ?_
    · unfold m_X5_leastWay_L4
      simp only [un, lt]
      rw [al_e hC hD, Option.bind_some, if_neg (by rw [all_end hC hD (by omega)]; omega), re_e hC hJ hD hi, Option.bind_some, bz_if, nI_1]
      show _ = some (Sum.inl (amI (mstep (mnf (fwC D) i) (fwC D i)), nI (i + 1)))
      cases hr : rch D i
      · have hf : fwC D i = none := by unfold fwC; rw [hr]; rfl
        rw [if_neg (by decide), hf]; rfl
      · have hf : fwC D i = some (pc i) := by unfold fwC; rw [hr]; rfl
        rw [if_pos rfl, hf, lesser_e (fun m hm => mnf_lt (hb i) hm) (by omega), Option.bind_some]
    · unfold m_X5_leastWay_L4
      simp only [un]
      rw [al_e hC hD, Option.bind_some, if_pos (by rw [all_end hC hD (by omega)])]
  rw [hl, Option.bind_some]
theorem sm_pos {f : Nat → Nat} : ∀ {n : Nat}, 0 < sm f n → ∃ i, i < n ∧ 0 < f i
  | 0, h => absurd h (Nat.lt_irrefl 0)
  | n + 1, h => by
    have h : 0 < sm f n + f n := h
    rcases Nat.eq_zero_or_pos (f n) with q | q
    · obtain ⟨i, a, c⟩ := sm_pos (f := f) (n := n) (by omega)
      exact ⟨i, by omega, c⟩
    · exact ⟨n, by omega, q⟩
theorem sm_ge {f : Nat → Nat} {i : Nat} : ∀ {n : Nat}, i < n → f i ≤ sm f n
  | 0, h => absurd h (Nat.not_lt_zero i)
  | n + 1, h => by
    show f i ≤ sm f n + f n
    by_cases hi : i = n
    · subst hi; omega
    · have := sm_ge (f := f) (i := i) (n := n) (by omega); omega
theorem lw_eq (hD : okD D) : mnf (fwC D) (2 ^ dL D) = mnf (fwM D) (dL D + 1) := by
  have hL := hD.2.2.1
  refine isMin_eq (fun v => ?_) (mnf_spec _ _) (mnf_spec _ _)
  constructor
  · rintro ⟨i, hi, hv⟩
    have hpa := pc_all hL hi
    unfold fwC at hv
    split at hv
    · rename_i hr
      cases hv
      have h1 := sm_ge (f := fun s => if pc s = pc i ∧ rch D s = true then 1 else 0) hi
      have h1 : (if pc i = pc i ∧ rch D i = true then 1 else 0) ≤ SC D (pc i) := h1
      rw [if_pos ⟨rfl, hr⟩] at h1
      refine ⟨pc i, by omega, ?_⟩
      unfold fwM
      rw [if_pos (by omega)]
    · cases hv
  · rintro ⟨k, hk, hv⟩
    unfold fwM at hv
    split at hv
    · rename_i h0
      have hkv := Option.some.inj hv
      subst hkv
      obtain ⟨i, a, c⟩ := sm_pos h0
      have c : 0 < (if pc i = k ∧ rch D i = true then 1 else 0) := c
      split at c
      · rename_i hh
        refine ⟨i, a, ?_⟩
        unfold fwC
        rw [if_pos hh.2, hh.1]
      · omega
    · cases hv
theorem lwM_e (hM : repM t D) (hD : okD D) : m_X10_leastWay t = some (amI (mnf (fwM D) (dL D + 1))) := by
  have hL := hD.2.2.1
  unfold m_X10_leastWay
  obtain ⟨e, he, hQ⟩ := vl_totF (B := m_X10_leastWay_L2 t) (fun m st => ∃ k, k ≤ dL D + 1 ∧ m = dL D + 1 - k ∧ st = nI k ∧ ∀ j, j < k → fwM D j = none) (fun e => ex e (fun (_ : Unit) => some (-1 : Int32)) (fun r_15 => some r_15) = some (amI (mnf (fwM D) (dL D + 1)))) (by
    rintro m st ⟨k, hk, rfl, rfl, hno⟩
    unfold m_X10_leastWay_L2
    dsimp only
    rw [hM.2.1]
    by_cases h : k = dL D + 1
    · left
      rw [if_pos (by rw [qlt (by omega) (by omega)]; omega)]
      refine ⟨_, rfl, ?_⟩
      have hn : mnf (fwM D) (dL D + 1) = none := by
        cases hq : mnf (fwM D) (dL D + 1) with
        | none => rfl
        | some v =>
          obtain ⟨⟨i, a1, a2⟩, -⟩ := (mnf_spec (fwM D) (dL D + 1)).2 v hq
          rw [hno i (by omega)] at a2; cases a2
      rw [hn]
      rfl
    · have hsc := SC_MX D hD k
      rw [if_neg (by rw [qlt (by omega) (by omega)]; omega), setsOf_e hM hD (by omega), Option.bind_some]
      by_cases h0 : 0 < SC D k
      · left
        rw [if_neg (by rw [qge_0 (by omega)]; omega)]
        refine ⟨_, rfl, ?_⟩
        have hs : mnf (fwM D) (dL D + 1) = some k := by
          refine isMin_eq (f := fwM D) (g := fwM D) (n := dL D + 1) (m := dL D + 1) (fun v => Iff.rfl) (mnf_spec _ _) ⟨fun q => (by cases q), fun m hm => ?_⟩
          cases hm
          refine ⟨⟨k, by omega, by unfold fwM; rw [if_pos h0]⟩, fun j v hj hv => ?_⟩
          rcases Nat.lt_or_ge j k with q | q
          · rw [hno j q] at hv; cases hv
          · unfold fwM at hv
            split at hv
            · cases hv; exact q
            · cases hv
        rw [hs]
        rfl
      · right
        rw [if_pos (by rw [qge_0 (by omega)]; omega)]
        simp only [lt, nI_1]
        refine ⟨_, rfl, dL D + 1 - (k + 1), by omega, k + 1, by omega, rfl, rfl, fun j hj => ?_⟩
        by_cases hjk : j = k
        · subst hjk; unfold fwM; rw [if_neg h0]
        · exact hno j (by omega)) (i := dL D + 1 - 0) (s := (0 : Int32)) (by omega) ⟨0, by omega, rfl, rfl, fun j hj => absurd hj (Nat.not_lt_zero j)⟩
  rw [he, Option.bind_some]
  exact hQ
theorem s_least (h : INV b t D) (x : Int32) : ∃ r, m_X9_least b x = some r ∧ m_X10_least t x = some r := by
  obtain ⟨hD, hC, hM, hJ, hT, hS⟩ := id h
  unfold m_X9_least m_X10_least
  rw [isSide_e, isTwo_e, Option.bind_some, Option.bind_some, bz_if, bz_if, lc_e hC hJ hD, lw_e hC hJ hD, lcM_e hM hD, lwM_e hM hD, lc_eq hD, lw_eq hD]
  cases two x
  · exact ⟨_, rfl, rfl⟩
  · rw [if_pos rfl]
    by_cases h0 : x = 0
    · rw [if_pos h0]; exact ⟨_, rfl, rfl⟩
    · rw [if_neg h0]; exact ⟨_, rfl, rfl⟩
/-! counts -/
theorem pc_bm {f : Nat → Bool} {L : Nat} (hL : L ≤ 10) : pc (bm f L) = fa_cnt f L := by
  unfold pc
  obtain ⟨m, hm⟩ : ∃ m, 10 = L + m := ⟨10 - L, by omega⟩
  rw [hm, cnt_more m (fun i hi => by rw [bm_bit, decide_eq_false (by omega)]; rfl)]
  exact fa_cnt_cong (fun k hk => by rw [bm_bit, decide_eq_true hk]; rfl)
theorem bm_next {f : Nat → Bool} {k : Nat} (h : f k = true) : bm f k ||| 2 ^ k = bm f (k + 1) := by
  rw [or_top (bm_lt f k)]
  show _ = (if f k = true then 2 ^ k + bm f k else bm f k)
  rw [if_pos h]
theorem bm_same {f : Nat → Bool} {k : Nat} (h : f k = false) : bm f (k + 1) = bm f k := by
  show (if f k = true then 2 ^ k + bm f k else bm f k) = _
  rw [if_neg (by rw [h]; decide)]
theorem ls_e (hC : repC b D) (hD : okD D) {v : Nat} (hv : v ≤ 2) : m_X2_linksSeen b (nI v) = some (nI (bm (fun k => dV D k == v) (dL D))) := by
  have hL := hD.2.2.1
  unfold m_X2_linksSeen
  have hl : vLoop (m_X2_linksSeen_L4 (nI v) b) FUEL ((0 : Int32), (0 : Int32)) = some (nI (bm (fun k => dV D k == v) (dL D))) := by
    refine vl_F (fun i => (nI (bm (fun k => dV D k == v) i), nI i)) 0 (dL D) (by omega) (by omega) (fun i _ hi => ?_) ?_
    · obtain ⟨-, -, -, -, -, hv2⟩ := hD.2.2.2.2.2 i hi
      unfold m_X2_linksSeen_L4
      simp only [un, lt]
      rw [hC.2.1, if_neg (by rw [qle (by omega) (by omega)]; omega), se_e hC hD hi, Option.bind_some, shl_1 i (by omega), fa_or, nI_1]
      by_cases hq : dV D i = v
      · rw [if_pos (by rw [hq]), bm_next (f := fun k => dV D k == v) (beq_iff_eq.mpr hq)]
      · rw [if_neg (by rw [qeq (by omega) (by omega)]; exact hq), bm_same (f := fun k => dV D k == v) (beq_eq_false_iff_ne.mpr hq)]
    · unfold m_X2_linksSeen_L4
      simp only [un]
      rw [hC.2.1, if_pos (by rw [qle (by omega) (by omega)]; omega)]
  rw [hl, Option.bind_some]
theorem us_e (hM : repM t D) (hD : okD D) : m_X10_unseen t = some (nI (fa_cnt (fun k => dV D k == 0) (dL D))) := by
  have hL := hD.2.2.1
  unfold m_X10_unseen
  have hl : vLoop (m_X10_unseen_L4 t) FUEL ((0 : Int32), (0 : Int32)) = some (nI (fa_cnt (fun k => dV D k == 0) (dL D))) := by
    refine vl_F (fun i => (nI (fa_cnt (fun k => dV D k == 0) i), nI i)) 0 (dL D) (by omega) (by omega) (fun i _ hi => ?_) ?_
    · obtain ⟨-, -, -, -, -, hv2⟩ := hD.2.2.2.2.2 i hi
      have hz : (0 : Int32) = nI 0 := rfl
      unfold m_X10_unseen_L4
      simp only [un, lt]
      rw [hM.2.1, if_neg (by rw [qle (by omega) (by omega)]; omega), gd_in (by omega) (by omega), nI_clamp (by omega), hM.2.2.2.2.2.2.2.2 i, nI_1]
      by_cases hq : dV D i = 0
      · rw [if_pos (by rw [qeq_0 (by omega)]; exact hq), nI_1, fa_cnt_yes (p := fun k => dV D k == 0) (beq_iff_eq.mpr hq)]
      · rw [if_neg (by rw [qeq_0 (by omega)]; exact hq), hz, nI_add, Nat.add_zero, fa_cnt_no (p := fun k => dV D k == 0) (beq_eq_false_iff_ne.mpr hq), nI_1]
    · unfold m_X10_unseen_L4
      simp only [un]
      rw [hM.2.1, if_pos (by rw [qle (by omega) (by omega)]; omega)]
  rw [hl, Option.bind_some]
theorem ar_e (hM : repM t D) (hD : okD D) : m_X10_allReach t = some (bz (rch D (bm (fun k => !(dV D k == 2)) (dL D)))) := by
  have hL := hD.2.2.1
  unfold m_X10_allReach
  have hl : vLoop (m_X10_allReach_L4 t) FUEL ((0 : Int32), (0 : Int32)) = some (nI (bm (fun k => !(dV D k == 2)) (dL D))) := by
    refine vl_F (fun i => (nI (bm (fun k => !(dV D k == 2)) i), nI i)) 0 (dL D) (by omega) (by omega) (fun i _ hi => ?_) ?_
    · obtain ⟨-, -, -, -, -, hv2⟩ := hD.2.2.2.2.2 i hi
      have hz : (0 : Int32) = nI 0 := rfl
      unfold m_X10_allReach_L4
      simp only [un, lt]
      rw [hM.2.1, if_neg (by rw [qle (by omega) (by omega)]; omega), gd_in (by omega) (by omega), nI_clamp (by omega), hM.2.2.2.2.2.2.2.2 i, shl_1 i (by omega), fa_or, nI_1]
      by_cases hq : dV D i = 2
      · rw [if_pos (by rw [qeq_2 (by omega)]; exact hq), hz, fa_or, Nat.or_zero, bm_same (f := fun k => !(dV D k == 2)) (by rw [beq_iff_eq.mpr hq]; rfl)]
      · rw [if_neg (by rw [qeq_2 (by omega)]; exact hq), bm_next (f := fun k => !(dV D k == 2)) (by rw [beq_eq_false_iff_ne.mpr hq]; rfl)]
    · unfold m_X10_allReach_L4
      simp only [un]
      rw [hM.2.1, if_pos (by rw [qle (by omega) (by omega)]; omega)]
  rw [hl, Option.bind_some, waM_e hM hD, Option.bind_some, reW_e hM hD (bm_lt _ _), Option.bind_some, bz_if]
  cases rch D (bm (fun k => !(dV D k == 2)) (dL D)) <;> rfl
theorem s_count (h : INV b t D) (x : Int32) : ∃ r, m_X9_count b x = some r ∧ m_X10_count t x = some r := by
  obtain ⟨hD, hC, hM, hJ, hT, hS⟩ := id h
  have hL := hD.2.2.1
  have hN := hD.2.1
  have hW := dW_lt7 hD
  have hpc := pc_lt (x := dW D)
  have hl1 := bm_lt (fun k => dV D k == 0) (dL D)
  have hp : 2 ^ dL D ≤ 2 ^ 10 := Nat.pow_le_pow_right (by decide) hL
  obtain ⟨n, hn, hn1, hn2⟩ := hT.1
  have hwo : wo (2 ^ dL D - 1) (bm (fun k => dV D k == 2) (dL D)) = bm (fun k => !(dV D k == 2)) (dL D) := bit_ext wo_all_lt (bm_lt _ _) (fun i hi => by rw [wo_bit, all_bit, bm_bit, bm_bit, decide_eq_true hi]; rfl)
  unfold m_X9_count m_X10_count m_X2_stationCount m_X2_linkCount m_X2_sourceStation m_X2_goalBits m_X4_length m_X7_latestFinding
  by_cases h0 : x = 0
  · rw [if_pos h0, if_pos h0, hC.1, hM.1]; exact ⟨_, rfl, rfl⟩
  rw [if_neg h0, if_neg h0]
  by_cases h1 : x = 1
  · rw [if_pos h1, if_pos h1, hC.2.1, hM.2.1]; exact ⟨_, rfl, rfl⟩
  rw [if_neg h1, if_neg h1]
  by_cases h2 : x = 2
  · rw [if_pos h2, if_pos h2, hC.2.2.1, hM.2.2.1]; exact ⟨_, rfl, rfl⟩
  rw [if_neg h2, if_neg h2]
  by_cases h3 : x = 3
  · rw [if_pos h3, if_pos h3, hC.2.2.2.1, hM.2.2.2.1]; exact ⟨_, rfl, rfl⟩
  rw [if_neg h3, if_neg h3]
  by_cases h4 : x = 4
  · rw [if_pos h4, if_pos h4, wa_e hC hD, waM_e hM hD, Option.bind_some, Option.bind_some, bc_e _ (by omega), bits_e (by omega)]; exact ⟨_, rfl, rfl⟩
  rw [if_neg h4, if_neg h4]
  by_cases h5 : x = 5
  · rw [if_pos h5, if_pos h5, show (0 : Int32) = nI 0 from rfl, ls_e hC hD (by omega), us_e hM hD, Option.bind_some, bc_e _ (by omega), pc_bm hL]; exact ⟨_, rfl, rfl⟩
  rw [if_neg h5, if_neg h5]
  by_cases h6 : x = 6
  · rw [if_pos h6, if_pos h6, show (2 : Int32) = nI 2 from rfl, al_e hC hD, Option.bind_some, ls_e hC hD (by omega), Option.bind_some, wo_i, hwo, re_e hC hJ hD (bm_lt _ _), Option.bind_some, ar_e hM hD]
    cases rch D (bm (fun k => !(dV D k == 2)) (dL D)) <;> exact ⟨_, rfl, rfl⟩
  rw [if_neg h6, if_neg h6]
  by_cases h7 : x = 7
  · rw [if_pos h7, if_pos h7, hn1, hn2]; exact ⟨_, rfl, rfl⟩
  rw [if_neg h7, if_neg h7]
  by_cases h8 : x = 8
  · rw [if_pos h8, if_pos h8, hS.1]; exact ⟨_, rfl, rfl⟩
  rw [if_neg h8, if_neg h8]
  exact ⟨_, rfl, rfl⟩
theorem s_wrong (h : INV b t D) : ∃ r, m_X9_wrong b = some r ∧ m_X10_wrong t = some r := by
  obtain ⟨hD, hC, hM, hJ, hT, hS⟩ := id h
  unfold m_X9_wrong m_X10_wrong m_X4_latestFault
  rw [hT.2.2]
  exact ⟨_, rfl, rfl⟩
end LE
