/-! what links join, told by labels; the weight of all sets that join what is wanted, and how it bears tidying, cutting and joining -/
abbrev EL : Type := List (Nat × Nat)
def lab : EL → Nat → Nat
  | [], v => v
  | e :: E, v => if lab E v = lab E e.2 then lab E e.1 else lab E v
def jn (E : EL) (u v : Nat) : Prop := lab E u = lab E v
theorem lab_map {E : EL} {e : Nat × Nat} {u v : Nat} (h : lab E u = lab E v) : lab (e :: E) u = lab (e :: E) v := by
  show (if lab E u = lab E e.2 then lab E e.1 else lab E u) = (if lab E v = lab E e.2 then lab E e.1 else lab E v)
  rw [h]
theorem lab_link : ∀ {E : EL} {e : Nat × Nat}, e ∈ E → lab E e.1 = lab E e.2
  | [], e, h => absurd h List.not_mem_nil
  | d :: E, e, h => by
    rcases List.mem_cons.mp h with rfl | h
    · show (if lab E e.1 = lab E e.2 then lab E e.1 else lab E e.1) = (if lab E e.2 = lab E e.2 then lab E e.1 else lab E e.2)
      rw [if_pos rfl]
      split <;> rfl
    · exact lab_map (lab_link h)
theorem lab_least {X : Type} (f : Nat → X) : ∀ {E : EL}, (∀ e, e ∈ E → f e.1 = f e.2) → ∀ u v, lab E u = lab E v → f u = f v
  | [], _, u, v, h => by rw [show u = v from h]
  | e :: E, hf, u, v, h => by
    have ih := lab_least f (E := E) (fun d hd => hf d (List.mem_cons_of_mem _ hd))
    have he := hf e List.mem_cons_self
    have h : (if lab E u = lab E e.2 then lab E e.1 else lab E u) = (if lab E v = lab E e.2 then lab E e.1 else lab E v) := h
    by_cases h1 : lab E u = lab E e.2
    · rw [if_pos h1] at h
      by_cases h2 : lab E v = lab E e.2
      · exact ih u v (h1.trans h2.symm)
      · rw [if_neg h2] at h
        rw [ih u e.2 h1, ← he]
        exact ih e.1 v h
    · rw [if_neg h1] at h
      by_cases h2 : lab E v = lab E e.2
      · rw [if_pos h2] at h
        rw [ih v e.2 h2, ← he]
        exact ih u e.1 h
      · rw [if_neg h2] at h
        exact ih u v h
theorem jn_imp {E E2 : EL} (h : ∀ e, e ∈ E → jn E2 e.1 e.2) {u v : Nat} (hj : jn E u v) : jn E2 u v := lab_least (lab E2) h u v hj
theorem jn_sub {E E2 : EL} (h : ∀ e, e ∈ E → e ∈ E2) {u v : Nat} (hj : jn E u v) : jn E2 u v := jn_imp (fun e he => lab_link (h e he)) hj
theorem jn_con {E : EL} {e : Nat × Nat} {u v : Nat} (hj : jn E u v) : jn (e :: E) u v := jn_sub (fun _ h => List.mem_cons_of_mem _ h) hj
theorem jn_hd {E : EL} {e : Nat × Nat} : jn (e :: E) e.1 e.2 := lab_link List.mem_cons_self
/-- the same joined by both -/
def eqv (E E2 : EL) : Prop := ∀ u v, jn E u v ↔ jn E2 u v
theorem eqv.rf (E : EL) : eqv E E := fun _ _ => Iff.rfl
theorem eqv.tr {E E2 E3 : EL} (h : eqv E E2) (h2 : eqv E2 E3) : eqv E E3 := fun u v => (h u v).trans (h2 u v)
theorem eqv.of {E E2 : EL} (h : ∀ e, e ∈ E → jn E2 e.1 e.2) (h2 : ∀ e, e ∈ E2 → jn E e.1 e.2) : eqv E E2 := fun _ _ => ⟨jn_imp h, jn_imp h2⟩
theorem eqv.cons {E E2 : EL} (e : Nat × Nat) (h : eqv E E2) : eqv (e :: E) (e :: E2) := by
  refine eqv.of (fun d hd => ?_) (fun d hd => ?_)
  · rcases List.mem_cons.mp hd with rfl | hd
    · exact jn_hd
    · exact jn_con ((h _ _).mp (lab_link hd))
  · rcases List.mem_cons.mp hd with rfl | hd
    · exact jn_hd
    · exact jn_con ((h _ _).mpr (lab_link hd))
theorem eqv.mem {E E2 : EL} (h : ∀ e, e ∈ E ↔ e ∈ E2) : eqv E E2 := eqv.of (fun e he => lab_link ((h e).mp he)) (fun e he => lab_link ((h e).mpr he))
theorem eqv.swap (d e : Nat × Nat) (E : EL) : eqv (d :: e :: E) (e :: d :: E) := eqv.mem (fun q => by simp only [List.mem_cons]; constructor <;> (rintro (h | h | h) <;> simp [h]))
/-- a link that joins what is joined -/
theorem eqv.drop {e : Nat × Nat} {E : EL} (h : jn E e.1 e.2) : eqv (e :: E) E := by
  refine eqv.of (fun d hd => ?_) (fun d hd => jn_con (lab_link hd))
  rcases List.mem_cons.mp hd with rfl | hd
  · exact h
  · exact lab_link hd
theorem eqv.flip (u v : Nat) (E : EL) : eqv ((u, v) :: E) ((v, u) :: E) := by
  refine eqv.of (fun d hd => ?_) (fun d hd => ?_)
  · rcases List.mem_cons.mp hd with rfl | hd
    · exact (jn_hd (e := (v, u)) (E := E)).symm
    · exact jn_con (lab_link hd)
  · rcases List.mem_cons.mp hd with rfl | hd
    · exact (jn_hd (e := (u, v)) (E := E)).symm
    · exact jn_con (lab_link hd)
/-- what is wanted (bits of seven) is joined -/
def cn (E : EL) (W : Nat) : Bool := (List.range 7).all fun u => (List.range 7).all fun v => !W.testBit u || !W.testBit v || lab E u == lab E v
theorem cn_iff {E : EL} {W : Nat} : cn E W = true ↔ ∀ u v, u < 7 → v < 7 → W.testBit u = true → W.testBit v = true → jn E u v := by
  unfold cn
  rw [List.all_eq_true]
  constructor
  · intro h u v hu hv h1 h2
    have h3 := h u (List.mem_range.mpr hu)
    rw [List.all_eq_true] at h3
    have h4 := h3 v (List.mem_range.mpr hv)
    rw [h1, h2] at h4
    exact eq_of_beq h4
  · intro h u hu
    rw [List.all_eq_true]
    intro v hv
    have h1 := h u v (List.mem_range.mp hu) (List.mem_range.mp hv)
    cases h2 : W.testBit u
    · rfl
    · cases h3 : W.testBit v
      · rfl
      · show (lab E u == lab E v) = true
        exact beq_iff_eq.mpr (h1 h2 h3)
theorem cn_eqv {E E2 : EL} {W : Nat} (h : eqv E E2) : cn E W = cn E2 W := by
  apply Bool.eq_iff_iff.mpr
  rw [cn_iff, cn_iff]
  exact ⟨fun q u v a b c d => (h u v).mp (q u v a b c d), fun q u v a b c d => (h u v).mpr (q u v a b c d)⟩
theorem cn_imp {E E2 : EL} {W : Nat} (h : ∀ e, e ∈ E → jn E2 e.1 e.2) (hc : cn E W = true) : cn E2 W = true := by
  rw [cn_iff] at hc ⊢
  exact fun u v a b c d => jn_imp h (hc u v a b c d)
/-- the weight of all sets of the links k below n with P k, together with U, that join what is wanted -/
def RZ (a e x z : Nat → Nat) (W : Nat) (P : Nat → Bool) : Nat → EL → Nat
  | 0, U => if cn U W = true then 1 else 0
  | n + 1, U => if P n = true then x n * RZ a e x z W P n ((a n, e n) :: U) + z n * RZ a e x z W P n U else RZ a e x z W P n U
section RZS
variable {a e x z : Nat → Nat} {W : Nat} {P : Nat → Bool}
theorem RZ_y {n : Nat} {U : EL} (h : P n = true) : RZ a e x z W P (n + 1) U = x n * RZ a e x z W P n ((a n, e n) :: U) + z n * RZ a e x z W P n U := by
  show (if P n = true then _ else _) = _
  rw [if_pos h]
theorem RZ_n {n : Nat} {U : EL} (h : P n = false) : RZ a e x z W P (n + 1) U = RZ a e x z W P n U := by
  show (if P n = true then _ else _) = _
  rw [if_neg (by rw [h]; decide)]
theorem RZ_eqv : ∀ {n : Nat} {U U2 : EL}, eqv U U2 → RZ a e x z W P n U = RZ a e x z W P n U2
  | 0, U, U2, h => by unfold RZ; rw [cn_eqv h]
  | n + 1, U, U2, h => by
    cases hp : P n
    · rw [RZ_n hp, RZ_n hp]; exact RZ_eqv h
    · rw [RZ_y hp, RZ_y hp, RZ_eqv (h.cons _), RZ_eqv h]
theorem RZ_cong {a2 e2 x2 z2 : Nat → Nat} {P2 : Nat → Bool} : ∀ {n : Nat} {U : EL}, (∀ k, k < n → P k = P2 k) → (∀ k, k < n → P k = true → a k = a2 k ∧ e k = e2 k ∧ x k = x2 k ∧ z k = z2 k) → RZ a e x z W P n U = RZ a2 e2 x2 z2 W P2 n U
  | 0, _, _, _ => rfl
  | n + 1, U, h1, h2 => by
    have ih := fun U => RZ_cong (n := n) (U := U) (fun k hk => h1 k (by omega)) (fun k hk => h2 k (by omega))
    cases hp : P n
    · rw [RZ_n hp, RZ_n (by rw [← h1 n (by omega)]; exact hp), ih]
    · obtain ⟨q1, q2, q3, q4⟩ := h2 n (by omega) hp
      rw [RZ_y hp, RZ_y (by rw [← h1 n (by omega)]; exact hp), ih, ih, q1, q2, q3, q4]
/-- P without i -/
def wi (P : Nat → Bool) (i : Nat) : Nat → Bool := fun k => P k && !(k == i)
theorem wi_i (P : Nat → Bool) (i : Nat) : wi P i i = false := by unfold wi; simp
theorem wi_n {P : Nat → Bool} {i k : Nat} (h : k ≠ i) : wi P i k = P k := by unfold wi; simp [h]
theorem wi_t {P : Nat → Bool} {i k : Nat} (h : wi P i k = true) : P k = true ∧ k ≠ i := by unfold wi at h; simp at h; exact h
theorem RZ_take : ∀ {n i : Nat} {U : EL}, i < n → P i = true → RZ a e x z W P n U = x i * RZ a e x z W (wi P i) n ((a i, e i) :: U) + z i * RZ a e x z W (wi P i) n U
  | 0, i, U, h, _ => by omega
  | n + 1, i, U, h, hp => by
    by_cases hi : i = n
    · subst hi
      rw [RZ_y hp, RZ_n (wi_i P i), RZ_n (wi_i P i)]
      have hc : ∀ U, RZ a e x z W P i U = RZ a e x z W (wi P i) i U := fun U => RZ_cong (fun k hk => (wi_n (by omega)).symm) (fun _ _ _ => ⟨rfl, rfl, rfl, rfl⟩)
      rw [hc, hc]
    · have ih := fun U => RZ_take (n := n) (i := i) (U := U) (by omega) hp
      cases hn : P n
      · rw [RZ_n hn, RZ_n (by rw [wi_n (fun q => hi q.symm)]; exact hn), RZ_n (by rw [wi_n (fun q => hi q.symm)]; exact hn), ih]
      · have hn2 : wi P i n = true := by rw [wi_n (fun q => hi q.symm)]; exact hn
        rw [RZ_y hn, RZ_y hn2, RZ_y hn2, ih, ih, RZ_eqv (eqv.swap (a i, e i) (a n, e n) U)]
        simp only [Nat.mul_add, Nat.mul_left_comm]
        omega
theorem RZ_loop {n i : Nat} {U : EL} (hi : i < n) (hp : P i = true) (h : a i = e i) : RZ a e x z W P n U = (x i + z i) * RZ a e x z W (wi P i) n U := by
  rw [RZ_take hi hp, RZ_eqv (eqv.drop (e := (a i, e i)) (by show jn U (a i) (e i); rw [h]; rfl)), Nat.add_mul]
theorem wi_wi (P : Nat → Bool) (i j : Nat) : wi (wi P i) j = wi (wi P j) i := by
  funext k
  unfold wi
  cases P k <;> cases k == i <;> cases k == j <;> rfl
theorem RZ_twin {n i j X : Nat} {U : EL} (hi : i < n) (hj : j < n) (hij : i ≠ j) (hpi : P i = true) (hpj : P j = true) (h : (a j = a i ∧ e j = e i) ∨ (a j = e i ∧ e j = a i)) (hX : X + z i * z j = (x i + z i) * (x j + z j)) : RZ a e x z W P n U = RZ a e (va_up x i X) (va_up z i (z i * z j)) W (wi P j) n U := by
  have hpi2 : wi P j i = true := by rw [wi_n hij]; exact hpi
  have hpj2 : wi P i j = true := by rw [wi_n (fun q => hij q.symm)]; exact hpj
  have hb : ∀ U : EL, eqv ((a j, e j) :: U) ((a i, e i) :: U) := fun U => by
    rcases h with ⟨h1, h2⟩ | ⟨h1, h2⟩
    · rw [h1, h2]; exact eqv.rf _
    · rw [h1, h2]; exact eqv.flip _ _ _
  have hc : ∀ U, RZ a e (va_up x i X) (va_up z i (z i * z j)) W (wi (wi P j) i) n U = RZ a e x z W (wi (wi P i) j) n U := fun U => by
    rw [wi_wi P i j]
    refine (RZ_cong (fun k hk => rfl) (fun k hk hk2 => ?_)).symm
    have hne : k ≠ i := (wi_t hk2).2
    refine ⟨rfl, rfl, ?_, ?_⟩ <;> (unfold va_up; rw [if_neg hne])
  rw [RZ_take hi hpi, RZ_take hj hpj2, RZ_take hj hpj2, RZ_take (P := wi P j) hi hpi2, hc, hc]
  rw [RZ_eqv (U := (a j, e j) :: (a i, e i) :: U) (U2 := (a i, e i) :: U) ((eqv.drop (by
    rcases h with ⟨h1, h2⟩ | ⟨h1, h2⟩
    · show jn _ (a j) (e j); rw [h1, h2]; exact jn_hd
    · show jn _ (a j) (e j); rw [h1, h2]; exact (jn_hd (e := (a i, e i))).symm))), RZ_eqv (U := (a j, e j) :: U) (hb U)]
  rw [show va_up x i X i = X from if_pos rfl, show va_up z i (z i * z j) i = z i * z j from if_pos rfl]
  generalize RZ a e x z W (wi (wi P i) j) n ((a i, e i) :: U) = A
  generalize RZ a e x z W (wi (wi P i) j) n U = B
  have h2 : X = x i * x j + x i * z j + z i * x j := by
    simp only [Nat.add_mul, Nat.mul_add] at hX
    omega
  subst h2
  simp only [Nat.add_mul, Nat.mul_add, Nat.mul_assoc]
  omega
theorem RZ_pend {v w : Nat} (hW : W.testBit v = false) : ∀ {n : Nat} {U : EL}, (∀ q, q ∈ U → q.1 ≠ v ∧ q.2 ≠ v) → (∀ k, k < n → P k = true → a k ≠ v ∧ e k ≠ v) → RZ a e x z W P n ((v, w) :: U) = RZ a e x z W P n U
  | 0, U, hU, _ => by
    have hc : cn ((v, w) :: U) W = cn U W := by
      apply Bool.eq_iff_iff.mpr
      rw [cn_iff, cn_iff]
      refine ⟨fun q c d hc hd h1 h2 => ?_, fun q c d hc hd h1 h2 => jn_con (q c d hc hd h1 h2)⟩
      have hcv : c ≠ v := fun q => by rw [q, hW] at h1; cases h1
      have hdv : d ≠ v := fun q => by rw [q, hW] at h2; cases h2
      have h3 := lab_least (fun y => if y = v then lab U w else lab U y) (E := (v, w) :: U) (fun y hy => by
        rcases List.mem_cons.mp hy with rfl | hy
        · show (if v = v then lab U w else lab U v) = (if w = v then lab U w else lab U w)
          rw [if_pos rfl]; split <;> rfl
        · obtain ⟨g1, g2⟩ := hU y hy
          show (if y.1 = v then _ else _) = (if y.2 = v then _ else _)
          rw [if_neg g1, if_neg g2]
          exact lab_link hy) c d (q c d hc hd h1 h2)
      rw [if_neg hcv, if_neg hdv] at h3
      exact h3
    unfold RZ
    rw [hc]
  | n + 1, U, hU, hP => by
    have ih := fun {U : EL} (hU : ∀ q, q ∈ U → q.1 ≠ v ∧ q.2 ≠ v) => RZ_pend (w := w) hW (n := n) (U := U) hU (fun k hk => hP k (by omega))
    cases hp : P n
    · rw [RZ_n hp, RZ_n hp, ih hU]
    · rw [RZ_y hp, RZ_y hp, RZ_eqv (eqv.swap (a n, e n) (v, w) U), ih hU, ih (fun q hq => by
        rcases List.mem_cons.mp hq with rfl | hq
        · exact hP n (by omega) hp
        · exact hU q hq)]
theorem RZ_ser {s u w : Nat} (hW : W.testBit s = false) (hu : u ≠ s) (hw : w ≠ s) : ∀ {n : Nat} {U : EL}, (∀ q, q ∈ U → q.1 ≠ s ∧ q.2 ≠ s) → (∀ k, k < n → P k = true → a k ≠ s ∧ e k ≠ s) → RZ a e x z W P n ((s, u) :: (s, w) :: U) = RZ a e x z W P n ((u, w) :: U)
  | 0, U, hU, _ => by
    have hc : cn ((s, u) :: (s, w) :: U) W = cn ((u, w) :: U) W := by
      apply Bool.eq_iff_iff.mpr
      rw [cn_iff, cn_iff]
      have hsu : jn ((s, u) :: (s, w) :: U) s u := jn_hd
      have hsw : jn ((s, u) :: (s, w) :: U) s w := jn_con jn_hd
      refine ⟨fun q c d hc hd h1 h2 => ?_, fun q c d hc hd h1 h2 => jn_imp (fun y hy => ?_) (q c d hc hd h1 h2)⟩
      · have hcv : c ≠ s := fun q => by rw [q, hW] at h1; cases h1
        have hdv : d ≠ s := fun q => by rw [q, hW] at h2; cases h2
        have huw : lab ((u, w) :: U) u = lab ((u, w) :: U) w := jn_hd (e := (u, w))
        have h3 := lab_least (fun y => if y = s then lab ((u, w) :: U) u else lab ((u, w) :: U) y) (E := (s, u) :: (s, w) :: U) (fun y hy => by
          rcases List.mem_cons.mp hy with rfl | hy
          · show (if s = s then _ else _) = (if u = s then _ else _)
            rw [if_pos rfl, if_neg hu]
          · rcases List.mem_cons.mp hy with rfl | hy
            · show (if s = s then _ else _) = (if w = s then _ else _)
              rw [if_pos rfl, if_neg hw]
              exact huw
            · obtain ⟨g1, g2⟩ := hU y hy
              show (if y.1 = s then _ else _) = (if y.2 = s then _ else _)
              rw [if_neg g1, if_neg g2]
              exact jn_con (lab_link hy)) c d (q c d hc hd h1 h2)
        rw [if_neg hcv, if_neg hdv] at h3
        exact h3
      · rcases List.mem_cons.mp hy with rfl | hy
        · exact hsu.symm.trans hsw
        · exact jn_con (jn_con (lab_link hy))
    unfold RZ
    rw [hc]
  | n + 1, U, hU, hP => by
    have ih := fun {U : EL} (hU : ∀ q, q ∈ U → q.1 ≠ s ∧ q.2 ≠ s) => RZ_ser hW hu hw (n := n) (U := U) hU (fun k hk => hP k (by omega))
    cases hp : P n
    · rw [RZ_n hp, RZ_n hp, ih hU]
    · have hU2 : ∀ q, q ∈ (a n, e n) :: U → q.1 ≠ s ∧ q.2 ≠ s := fun q hq => by
        rcases List.mem_cons.mp hq with rfl | hq
        · exact hP n (by omega) hp
        · exact hU q hq
      rw [RZ_y hp, RZ_y hp, ih hU, RZ_eqv (U := (a n, e n) :: (s, u) :: (s, w) :: U) (U2 := (s, u) :: (s, w) :: (a n, e n) :: U) ((eqv.swap _ _ _).tr ((eqv.swap _ _ _).cons _)), ih hU2, RZ_eqv (eqv.swap (u, w) (a n, e n) U)]
/-- two links in a row become one -/
theorem RZ_chain {n i j s u w : Nat} (hi : i < n) (hj : j < n) (hij : i ≠ j) (hpi : P i = true) (hpj : P j = true) (hei : (a i = s ∧ e i = u) ∨ (a i = u ∧ e i = s)) (hej : (a j = s ∧ e j = w) ∨ (a j = w ∧ e j = s)) (hu : u ≠ s) (hw : w ≠ s) (hW : W.testBit s = false) (ho : ∀ k, k < n → P k = true → k ≠ i → k ≠ j → a k ≠ s ∧ e k ≠ s) {Z : Nat} (hZ : x i * x j + Z = (x i + z i) * (x j + z j)) :
    RZ a e x z W P n [] = RZ (va_up a i u) (va_up e i w) (va_up x i (x i * x j)) (va_up z i Z) W (wi P j) n [] := by
  have hpi2 : wi P j i = true := by rw [wi_n hij]; exact hpi
  have hpj2 : wi P i j = true := by rw [wi_n (fun q => hij q.symm)]; exact hpj
  have hP2 : ∀ k, k < n → wi (wi P i) j k = true → a k ≠ s ∧ e k ≠ s := fun k hk h => by
    obtain ⟨h1, h2⟩ := wi_t h
    obtain ⟨h3, h4⟩ := wi_t h1
    exact ho k hk h3 h4 h2
  have hc : ∀ U, RZ (va_up a i u) (va_up e i w) (va_up x i (x i * x j)) (va_up z i Z) W (wi (wi P j) i) n U = RZ a e x z W (wi (wi P i) j) n U := fun U => by
    rw [wi_wi P i j]
    refine (RZ_cong (fun k hk => rfl) (fun k hk hk2 => ?_)).symm
    have hne : k ≠ i := (wi_t hk2).2
    refine ⟨?_, ?_, ?_, ?_⟩ <;> (unfold va_up; rw [if_neg hne])
  have hbi : ∀ U : EL, eqv ((a i, e i) :: U) ((s, u) :: U) := fun U => by
    rcases hei with ⟨h1, h2⟩ | ⟨h1, h2⟩
    · rw [h1, h2]; exact eqv.rf _
    · rw [h1, h2]; exact eqv.flip _ _ _
  have hbj : ∀ U : EL, eqv ((a j, e j) :: U) ((s, w) :: U) := fun U => by
    rcases hej with ⟨h1, h2⟩ | ⟨h1, h2⟩
    · rw [h1, h2]; exact eqv.rf _
    · rw [h1, h2]; exact eqv.flip _ _ _
  have hn : ∀ q : Nat × Nat, q ∈ ([] : EL) → q.1 ≠ s ∧ q.2 ≠ s := fun q h => absurd h List.not_mem_nil
  rw [RZ_take hi hpi, RZ_take hj hpj2, RZ_take hj hpj2, RZ_take (P := wi P j) hi hpi2, hc, hc]
  rw [RZ_eqv (U := (a j, e j) :: (a i, e i) :: []) (U2 := (s, u) :: (s, w) :: []) ((hbj _).tr (((hbi _).cons _).tr (eqv.swap _ _ _))), RZ_ser hW hu hw hn hP2, RZ_eqv (U := [(a i, e i)]) (hbi []), RZ_eqv (U := [(a j, e j)]) (hbj []), RZ_pend hW hn hP2, RZ_pend hW hn hP2]
  rw [show va_up a i u i = u from if_pos rfl, show va_up e i w i = w from if_pos rfl, show va_up x i (x i * x j) i = x i * x j from if_pos rfl, show va_up z i Z i = Z from if_pos rfl]
  generalize RZ a e x z W (wi (wi P i) j) n [(u, w)] = A
  generalize RZ a e x z W (wi (wi P i) j) n [] = B
  have h2 : Z = x i * z j + z i * x j + z i * z j := by
    simp only [Nat.add_mul, Nat.mul_add] at hZ
    omega
  subst h2
  simp only [Nat.add_mul, Nat.mul_add, Nat.mul_assoc]
  omega
/-- a link that is the only one at a station that is not wanted -/
theorem RZ_tail {n i v w : Nat} (hi : i < n) (hpi : P i = true) (hei : (a i = v ∧ e i = w) ∨ (a i = w ∧ e i = v)) (hW : W.testBit v = false) (ho : ∀ k, k < n → P k = true → k ≠ i → a k ≠ v ∧ e k ≠ v) : RZ a e x z W P n [] = (x i + z i) * RZ a e x z W (wi P i) n [] := by
  have hb : eqv [(a i, e i)] [(v, w)] := by
    rcases hei with ⟨h1, h2⟩ | ⟨h1, h2⟩
    · rw [h1, h2]; exact eqv.rf _
    · rw [h1, h2]; exact eqv.flip _ _ _
  rw [RZ_take hi hpi, RZ_eqv hb, RZ_pend hW (fun q h => absurd h List.not_mem_nil) (fun k hk h => ho k hk (wi_t h).1 (wi_t h).2), Nat.add_mul]
/-- the product of all that is below -/
def pr (y : Nat → Nat) (P : Nat → Bool) : Nat → Nat
  | 0 => 1
  | n + 1 => if P n = true then y n * pr y P n else pr y P n
theorem pr_cong {y y2 : Nat → Nat} {P2 : Nat → Bool} : ∀ {n : Nat}, (∀ k, k < n → P k = P2 k) → (∀ k, k < n → P k = true → y k = y2 k) → pr y P n = pr y2 P2 n
  | 0, _, _ => rfl
  | n + 1, h, h2 => by
    have ih := pr_cong (n := n) (fun k hk => h k (by omega)) (fun k hk => h2 k (by omega))
    unfold pr
    rw [← h n (by omega), ih]
    cases hp : P n
    · rfl
    · rw [h2 n (by omega) hp]
theorem pr_take {y : Nat → Nat} : ∀ {n i : Nat}, i < n → P i = true → pr y P n = y i * pr y (wi P i) n
  | 0, i, h, _ => by omega
  | n + 1, i, h, hp => by
    unfold pr
    by_cases hi : i = n
    · subst hi
      rw [if_pos hp, if_neg (by rw [wi_i]; decide)]
      rw [pr_cong (P2 := wi P i) (y2 := y) (fun k hk => (wi_n (by omega)).symm) (fun _ _ _ => rfl)]
    · rw [wi_n (fun q => hi q.symm), pr_take (n := n) (i := i) (by omega) hp]
      cases P n
      · rfl
      · exact Nat.mul_left_comm _ _ _
theorem RZ_le : ∀ {n : Nat} {U : EL}, RZ a e x z W P n U ≤ pr (fun k => x k + z k) P n
  | 0, U => by unfold RZ pr; split <;> omega
  | n + 1, U => by
    unfold RZ pr
    have h1 := RZ_le (n := n) (U := (a n, e n) :: U)
    have h2 := RZ_le (n := n) (U := U)
    cases P n
    · exact h2
    · simp only [if_true]
      rw [Nat.add_mul]
      exact Nat.add_le_add (Nat.mul_le_mul_left _ h1) (Nat.mul_le_mul_left _ h2)
theorem RZ_sure (h : ∀ U, cn U W = true) : ∀ {n : Nat} {U : EL}, RZ a e x z W P n U = pr (fun k => x k + z k) P n
  | 0, U => by unfold RZ pr; rw [if_pos (h U)]
  | n + 1, U => by
    unfold RZ pr
    rw [RZ_sure h, RZ_sure h]
    cases P n
    · rfl
    · simp only [if_true]; rw [Nat.add_mul]
theorem RZ_never {v w : Nat} (hv7 : v < 7) (hw7 : w < 7) (hv : W.testBit v = true) (hw : W.testBit w = true) (hne : w ≠ v) : ∀ {n : Nat} {U : EL}, (∀ q, q ∈ U → q.1 ≠ v ∧ q.2 ≠ v) → (∀ k, k < n → P k = true → a k ≠ v ∧ e k ≠ v) → RZ a e x z W P n U = 0
  | 0, U, hU, _ => by
    unfold RZ
    rw [if_neg]
    intro h
    have h1 := lab_least (fun y => decide (y = v)) (E := U) (fun y hy => by
      obtain ⟨g1, g2⟩ := hU y hy
      simp [g1, g2]) v w (cn_iff.mp h v w hv7 hw7 hv hw)
    simp [hne] at h1
  | n + 1, U, hU, hP => by
    have ih := fun {U : EL} (hU : ∀ q, q ∈ U → q.1 ≠ v ∧ q.2 ≠ v) => RZ_never hv7 hw7 hv hw hne (n := n) (U := U) hU (fun k hk => hP k (by omega))
    cases hp : P n
    · rw [RZ_n hp, ih hU]
    · rw [RZ_y hp, ih hU, ih (fun q hq => by
        rcases List.mem_cons.mp hq with rfl | hq
        · exact hP n (by omega) hp
        · exact hU q hq)]
      rfl
/-- hi is lo from now on -/
def sg (lo hi v : Nat) : Nat := if v = hi then lo else v
theorem jn_sg {lo hi : Nat} {U : EL} (u v : Nat) : jn ((lo, hi) :: U) u v ↔ jn (U.map fun q => (sg lo hi q.1, sg lo hi q.2)) (sg lo hi u) (sg lo hi v) := by
  constructor
  · intro h
    refine lab_least (fun y => lab (U.map fun q => (sg lo hi q.1, sg lo hi q.2)) (sg lo hi y)) (E := (lo, hi) :: U) (fun y hy => ?_) u v h
    rcases List.mem_cons.mp hy with rfl | hy
    · show lab _ (sg lo hi lo) = lab _ (sg lo hi hi)
      unfold sg
      rw [if_pos rfl]
      split <;> rfl
    · exact lab_link (e := (sg lo hi y.1, sg lo hi y.2)) (List.mem_map.mpr ⟨y, hy, rfl⟩)
  · intro h
    have hs : ∀ y, lab ((lo, hi) :: U) (sg lo hi y) = lab ((lo, hi) :: U) y := fun y => by
      unfold sg
      split
      · rename_i q; rw [q]; exact jn_hd (e := (lo, hi))
      · rfl
    have h1 := lab_least (lab ((lo, hi) :: U)) (E := U.map fun q : Nat × Nat => (sg lo hi q.1, sg lo hi q.2)) (fun y hy => by
      obtain ⟨q, hq, rfl⟩ := List.mem_map.mp hy
      show lab _ (sg lo hi q.1) = lab _ (sg lo hi q.2)
      rw [hs, hs]
      exact jn_con (lab_link hq)) (sg lo hi u) (sg lo hi v) h
    rw [hs, hs] at h1
    exact h1
theorem RZ_con {lo hi W2 : Nat} (hlo : lo < 7) (hhi : hi < 7) (hW : ∀ v, v < 7 → (W2.testBit v = true ↔ ∃ u, u < 7 ∧ W.testBit u = true ∧ sg lo hi u = v)) : ∀ {n : Nat} {U : EL}, RZ a e x z W P n ((lo, hi) :: U) = RZ (fun k => sg lo hi (a k)) (fun k => sg lo hi (e k)) x z W2 P n (U.map fun q => (sg lo hi q.1, sg lo hi q.2))
  | 0, U => by
    have hc : cn ((lo, hi) :: U) W = cn (U.map fun q => (sg lo hi q.1, sg lo hi q.2)) W2 := by
      apply Bool.eq_iff_iff.mpr
      rw [cn_iff, cn_iff]
      have hs7 : ∀ u, u < 7 → sg lo hi u < 7 := fun u hu => by unfold sg; split <;> omega
      refine ⟨fun q c d hc hd h1 h2 => ?_, fun q c d hc hd h1 h2 => (jn_sg c d).mpr (q _ _ (hs7 c hc) (hs7 d hd) ((hW _ (hs7 c hc)).mpr ⟨c, hc, h1, rfl⟩) ((hW _ (hs7 d hd)).mpr ⟨d, hd, h2, rfl⟩))⟩
      obtain ⟨c2, k1, k2, rfl⟩ := (hW c hc).mp h1
      obtain ⟨d2, k3, k4, rfl⟩ := (hW d hd).mp h2
      exact (jn_sg c2 d2).mp (q c2 d2 k1 k3 k2 k4)
    unfold RZ
    rw [hc]
  | n + 1, U => by
    have ih := fun {U : EL} => RZ_con hlo hhi hW (n := n) (U := U)
    cases hp : P n
    · rw [RZ_n hp, RZ_n hp, ih]
    · rw [RZ_y hp, RZ_y hp, ih, RZ_eqv (eqv.swap (a n, e n) (lo, hi) U), ih]
      rfl
end RZS
/-- the links of a set, the greatest first -/
def ED (a e : Nat → Nat) : Nat → Nat → EL
  | 0, _ => []
  | n + 1, s => if s.testBit n = true then (a n, e n) :: ED a e n s else ED a e n s
/-- what a set weighs -/
def wt (x z : Nat → Nat) : Nat → Nat → Nat
  | 0, _ => 1
  | n + 1, s => (if s.testBit n = true then x n else z n) * wt x z n s
theorem ED_mem {a e : Nat → Nat} {q : Nat × Nat} {s : Nat} : ∀ {n : Nat}, q ∈ ED a e n s ↔ ∃ k, k < n ∧ s.testBit k = true ∧ q = (a k, e k)
  | 0 => ⟨fun h => absurd h List.not_mem_nil, fun ⟨k, h, _⟩ => by omega⟩
  | n + 1 => by
    have ih := ED_mem (a := a) (e := e) (q := q) (s := s) (n := n)
    unfold ED
    split
    · rename_i h
      rw [List.mem_cons, ih]
      constructor
      · rintro (h1 | ⟨k, h1, h2⟩)
        · exact ⟨n, by omega, h, h1⟩
        · exact ⟨k, by omega, h2⟩
      · rintro ⟨k, h1, h2, h3⟩
        by_cases hk : k = n
        · subst hk; exact Or.inl h3
        · exact Or.inr ⟨k, by omega, h2, h3⟩
    · rename_i h
      rw [ih]
      constructor
      · rintro ⟨k, h1, h2⟩; exact ⟨k, by omega, h2⟩
      · rintro ⟨k, h1, h2, h3⟩
        by_cases hk : k = n
        · subst hk; exact absurd h2 h
        · exact ⟨k, by omega, h2, h3⟩
theorem ED_cong {a e a2 e2 : Nat → Nat} {s s2 : Nat} : ∀ {n : Nat}, (∀ k, k < n → s.testBit k = s2.testBit k) → (∀ k, k < n → a k = a2 k ∧ e k = e2 k) → ED a e n s = ED a2 e2 n s2
  | 0, _, _ => rfl
  | n + 1, h, h2 => by
    unfold ED
    rw [h n (by omega), (h2 n (by omega)).1, (h2 n (by omega)).2, ED_cong (fun k hk => h k (by omega)) (fun k hk => h2 k (by omega))]
theorem wt_cong {x z x2 z2 : Nat → Nat} {s s2 : Nat} : ∀ {n : Nat}, (∀ k, k < n → s.testBit k = s2.testBit k) → (∀ k, k < n → x k = x2 k ∧ z k = z2 k) → wt x z n s = wt x2 z2 n s2
  | 0, _, _ => rfl
  | n + 1, h, h2 => by
    unfold wt
    rw [h n (by omega), (h2 n (by omega)).1, (h2 n (by omega)).2, wt_cong (fun k hk => h k (by omega)) (fun k hk => h2 k (by omega))]
theorem bit_top {n i : Nat} (h : i < 2 ^ n) : (2 ^ n + i).testBit n = true := by rw [Nat.testBit_two_pow_add_eq, Nat.testBit_lt_two_pow h]; rfl
theorem bit_low {n i k : Nat} (hk : k < n) : (2 ^ n + i).testBit k = i.testBit k := Nat.testBit_two_pow_add_gt hk i
/-- all sets: one by one, or link by link -/
theorem sm_RZ {a e x z : Nat → Nat} {W : Nat} : ∀ {n : Nat} {U : EL}, sm (fun s => if cn (ED a e n s ++ U) W = true then wt x z n s else 0) (2 ^ n) = RZ a e x z W (fun _ => true) n U
  | 0, U => by
    show 0 + _ = _
    rw [Nat.zero_add]
    rfl
  | n + 1, U => by
    rw [RZ_y rfl, ← sm_RZ, ← sm_RZ, show 2 ^ (n + 1) = 2 ^ n + 2 ^ n by omega, sm_split, Nat.add_comm, ← sm_mul, ← sm_mul]
    congr 1
    · apply sm_cong
      intro i hi
      have h1 : ED a e (n + 1) (2 ^ n + i) = (a n, e n) :: ED a e n i := by
        show (if (2 ^ n + i).testBit n = true then _ else _) = _
        rw [if_pos (bit_top hi), ED_cong (fun k hk => bit_low hk) (fun _ _ => ⟨rfl, rfl⟩)]
      have h2 : wt x z (n + 1) (2 ^ n + i) = x n * wt x z n i := by
        show (if (2 ^ n + i).testBit n = true then _ else _) * _ = _
        rw [if_pos (bit_top hi), wt_cong (fun k hk => bit_low hk) (fun _ _ => ⟨rfl, rfl⟩)]
      have h3 : cn (ED a e n i ++ (a n, e n) :: U) W = cn ((a n, e n) :: ED a e n i ++ U) W := cn_eqv (eqv.mem (fun q => by simp only [List.mem_append, List.mem_cons, List.cons_append]; constructor <;> (rintro (h | h | h) <;> simp [h])))
      rw [h1, h2, h3]
      split <;> rfl
    · apply sm_cong
      intro i hi
      have h1 : ED a e (n + 1) i = ED a e n i := by
        show (if i.testBit n = true then _ else _) = _
        rw [if_neg (by rw [Nat.testBit_lt_two_pow hi]; decide)]
      have h2 : wt x z (n + 1) i = z n * wt x z n i := by
        show (if i.testBit n = true then _ else _) * _ = _
        rw [if_neg (by rw [Nat.testBit_lt_two_pow hi]; decide)]
      rw [h1, h2]
      split <;> rfl
