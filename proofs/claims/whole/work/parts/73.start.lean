theorem WL_fst (n : Nat) (h : Nat → Nat) (c : Nat → va_E) : (WL n h c).map Prod.fst = (List.range n).map h := by
  unfold WL
  rw [List.map_map]
  rfl
theorem WL_add (n : Nat) (h : Nat → Nat) (c : Nat → va_E) : ∀ m, WL (n + m) h c = WL n h c ++ WL m (fun k => h (n + k)) (fun k => c (n + k))
  | 0 => (List.append_nil _).symm
  | m + 1 => by
    rw [show n + (m + 1) = (n + m) + 1 from rfl, WL_s, WL_add n h c m, WL_s, List.append_assoc]
theorem lv_same {cA : ClassId} {n : Nat} {f f' : Nat → Option Nat} (h : ∀ j, j < n → f j = f' j) : vp_cell cA (n, .inr (.inr (.inr (.inr f)))) = vp_cell cA (n, .inr (.inr (.inr (.inr f')))) := by
  rw [vp_cell_q, vp_cell_q]
  unfold arrV
  have h2 : (fun j : Fin n => va_rf (f j.val)) = (fun j : Fin n => va_rf (f' j.val)) := funext (fun j => by rw [h j.val j.isLt])
  rw [h2]
/-- the start, as worlds -/
def SZ : Nat → Int32 := upd (upd (upd (fun _ => 0) (0 : Int32).toNatClampNeg (-1)) (1 : Int32).toNatClampNeg (-1)) (2 : Int32).toNatClampNeg (-1)
def b0 (f : Nat → Int64) : ST := (fun k => if k = 0 then 4 else 0, fun k => if k = 0 then 1 else 0, fun k => if k = 7 then SZ else fun _ => 0, fun k => if k = 0 then f else fun _ => 0)
def t0 : ST := (fun k => if k = 1 then 4 else 0, fun _ => 0, fun k => if k = 0 then SZ else fun _ => 0, fun _ _ => 0)
def D0 : ND := ((4, 0, 0, 0), fun _ => 0, fun _ => 0, fun _ => 0, fun _ => 0, fun _ => 0)
theorem inv_0 {f : Nat → Int64} (hf : f 0 = lN 282578800148737) : INV (b0 f) t0 D0 := by
  refine ⟨⟨by decide, by decide, by decide, by decide, by decide, fun k hk => absurd hk (Nat.not_lt_zero k)⟩, ⟨rfl, rfl, rfl, rfl, fun _ => rfl, fun _ => rfl, fun _ => rfl, fun _ => rfl, fun _ => rfl⟩, ⟨rfl, rfl, rfl, rfl, fun _ => rfl, fun _ => rfl, fun _ => rfl, fun _ => rfl, fun _ => rfl⟩, fun s hs => ?_, ⟨⟨0, by decide, rfl, rfl⟩, fun _ => rfl, rfl⟩, rfl, fun s hs => ⟨rfl, Or.inl ?_⟩, fun s i hs hi => ?_⟩
  · have hs : s = 0 := by have : (2 : Nat) ^ dL D0 = 1 := rfl
                          omega
    subst hs
    refine ⟨282578800148737, hf, by decide, fun v u hv hu => ?_⟩
    have h1 : ∀ v, v < 7 → ∀ u, u < 7 → (282578800148737 : Nat).testBit (7 * v + u) = (v == u) := by decide
    exact h1 v hv u hu
  · rcases (show s = 0 ∨ s = 1 ∨ s = 2 by omega) with rfl | rfl | rfl <;> rfl
  · show (if 3 + s = 0 then f else fun _ => 0) i = 0
    rw [if_neg (by omega)]

def hC (a : Nat → Nat) (l : List Nat) : Nat → Nat := fun k => if k < 24 then l.getD k 0 else a (k - 24)
theorem hC_a (a : Nat → Nat) (l : List Nat) (k : Nat) : hC a l (24 + k) = a k := by
  unfold hC
  rw [if_neg (by omega), show 24 + k - 24 = k by omega]
theorem st_24 (g : gT) (a : Nat → Nat) (f : Nat → Int64) (h0 zX2 n1 n2 n3 n4 n5 n6 zX3 o1 zX5 c1 zX6 s1 zX0 q zX4 t1 zX7 r0 r1 r2 r3 r4 : Nat) : WL 24 (hC a [h0, zX2, n1, n2, n3, n4, n5, n6, zX3, o1, zX5, c1, zX6, s1, zX0, q, zX4, t1, zX7, r0, r1, r2, r3, r4]) (cC g (hC a [h0, zX2, n1, n2, n3, n4, n5, n6, zX3, o1, zX5, c1, zX6, s1, zX0, q, zX4, t1, zX7, r0, r1, r2, r3, r4]) (b0 f, fun _ => zST)) = [(h0, .inr (8, [.ref zX2, .ref zX3, .ref zX5, .ref zX6, .ref zX0, .ref zX4, .ref zX7])), (zX2, .inr (1, [.ref n1, .ref n2, .ref n3, .ref n4, .ref n5, .ref n6, .int 4, .int 0, .int 0, .int 0])), (n1, .inl (g.2.1, 10, .inl (fun _ => 0))), (n2, .inl (g.2.1, 10, .inl (fun _ => 0))), (n3, .inl (g.2.1, 10, .inl (fun _ => 0))), (n4, .inl (g.2.1, 10, .inl (fun _ => 0))), (n5, .inl (g.2.1, 10, .inl (fun _ => 0))), (n6, .inl (g.2.2.1, 1024, .inr (.inl f))), (zX3, .inr (2, [.ref zX2, .ref o1, .long 1])), (o1, .inl (g.2.2.1, 1024, .inr (.inl (fun _ => 0)))), (zX5, .inr (4, [.ref zX2, .ref c1])), (c1, .inl (g.2.1, 11, .inl (fun _ => 0))), (zX6, .inr (5, [.ref zX2, .ref s1])), (s1, .inl (g.2.2.1, 1024, .inr (.inl (fun _ => 0)))), (zX0, .inr (0, [.ref zX2, .ref q, .int 0, .int 0, .int 0])), (q, .inl (g.2.2.2.1, 11, .inr (.inr (.inr (.inr (fun i => some (hC a [h0, zX2, n1, n2, n3, n4, n5, n6, zX3, o1, zX5, c1, zX6, s1, zX0, q, zX4, t1, zX7, r0, r1, r2, r3, r4] (24 + 5 * i)))))))), (zX4, .inr (3, [.ref zX2, .ref t1, .int 0, .int 0])), (t1, .inl (g.2.1, 60, .inl (fun _ => 0))), (zX7, .inr (6, [.ref r0, .ref r4, .int 0])), (r0, .inl (g.2.2.2.2.1, 3, .inr (.inr (.inr (.inr (fun i => some (hC a [h0, zX2, n1, n2, n3, n4, n5, n6, zX3, o1, zX5, c1, zX6, s1, zX0, q, zX4, t1, zX7, r0, r1, r2, r3, r4] (20 + i)))))))), (r1, .inl (g.2.2.1, 40, .inr (.inl (fun _ => 0)))), (r2, .inl (g.2.2.1, 40, .inr (.inl (fun _ => 0)))), (r3, .inl (g.2.2.1, 40, .inr (.inl (fun _ => 0)))), (r4, .inl (g.2.1, 3, .inl (upd (upd (upd (fun _ => 0) (0 : Int32).toNatClampNeg (-1)) (1 : Int32).toNatClampNeg (-1)) (2 : Int32).toNatClampNeg (-1))))] := rfl
theorem st_55 (g : gT) (a : Nat → Nat) (f : Nat → Int64) (l : List Nat) : WL 55 (fun k => hC a l (24 + k)) (fun k => cC g (hC a l) (b0 f, fun _ => zST) (24 + k)) = WL 55 a (cT g a) := by
  refine WL_cong (fun k hk => ⟨hC_a a l k, ?_⟩)
  obtain ⟨i, j, hj, rfl⟩ : ∃ i j, j < 5 ∧ k = 5 * i + j := ⟨k / 5, k % 5, Nat.mod_lt _ (by decide), by omega⟩
  show cC g (hC a l) (b0 f, fun _ => zST) (24 + (5 * i + j)) = _
  rw [show 24 + (5 * i + j) = 24 + 5 * i + j by omega, cC_tn g (hC a l) (b0 f, fun _ => zST) i j hj, cT_e g a i j hj]
  rcases (show j = 0 ∨ j = 1 ∨ j = 2 ∨ j = 3 ∨ j = 4 by omega) with rfl | rfl | rfl | rfl | rfl
  · show (.inr (7, [.ref (hC a l (24 + 5 * i + 1)), .ref (hC a l (24 + 5 * i + 2)), .ref (hC a l (24 + 5 * i + 3)), .ref (hC a l (24 + 5 * i + 4)), .int 0, .int 0, .long 0, .long 0]) : va_E) = .inr (7, [.ref (a (24 + 5 * i + 1 - 24)), .ref (a (24 + 5 * i + 2 - 24)), .ref (a (24 + 5 * i + 3 - 24)), .ref (a (24 + 5 * i + 4 - 24)), .int 0, .int 0, .long 0, .long 0])
    unfold hC
    rw [if_neg (by omega), if_neg (by omega), if_neg (by omega), if_neg (by omega)]
  · rfl
  · rfl
  · rfl
  · rfl
theorem st_20 (g : gT) (m0 q0 q1 q2 q3 q4 q5 q6 q7 q8 q9 q10 q11 q12 q13 q14 q15 q16 q17 q18 : Nat) : WL 20 (fun k => ([m0, q0, q1, q2, q3, q4, q5, q6, q7, q8, q9, q10, q11, q12, q13, q14, q15, q16, q17, q18] : List Nat).getD k 0) (cM g (fun k => ([m0, q0, q1, q2, q3, q4, q5, q6, q7, q8, q9, q10, q11, q12, q13, q14, q15, q16, q17, q18] : List Nat).getD k 0) t0) = [(m0, .inr (9, [.int 0, .ref q0, .ref q1, .ref q2, .int 4, .int 0, .int 0, .ref q3, .ref q4, .ref q5, .ref q6, .ref q7, .int 0, .ref q8, .ref q9, .int 0, .ref q10, .ref q11, .ref q12, .ref q13, .ref q14, .ref q15, .ref q16, .int 0, .int 0, .int 0, .ref q17, .int 0, .int 0, .ref q18])), (q0, .inl (g.2.1, 3, .inl (upd (upd (upd (fun _ => 0) (0 : Int32).toNatClampNeg (-1)) (1 : Int32).toNatClampNeg (-1)) (2 : Int32).toNatClampNeg (-1)))), (q1, .inl (g.2.2.1, 120, .inr (.inl (fun _ => 0)))), (q2, .inl (g.2.2.1, 40, .inr (.inl (fun _ => 0)))), (q3, .inl (g.2.1, 10, .inl (fun _ => 0))), (q4, .inl (g.2.1, 10, .inl (fun _ => 0))), (q5, .inl (g.2.1, 10, .inl (fun _ => 0))), (q6, .inl (g.2.1, 10, .inl (fun _ => 0))), (q7, .inl (g.2.1, 10, .inl (fun _ => 0))), (q8, .inl (g.2.1, 10, .inl (fun _ => 0))), (q9, .inl (g.2.1, 10, .inl (fun _ => 0))), (q10, .inl (g.2.1, 1024, .inl (fun _ => 0))), (q11, .inl (g.2.1, 120, .inl (fun _ => 0))), (q12, .inl (g.2.1, 120, .inl (fun _ => 0))), (q13, .inl (g.2.1, 120, .inl (fun _ => 0))), (q14, .inl (g.2.1, 12, .inl (fun _ => 0))), (q15, .inl (g.2.1, 12, .inl (fun _ => 0))), (q16, .inl (g.2.1, 12, .inl (fun _ => 0))), (q17, .inl (g.2.1, 60, .inl (fun _ => 0))), (q18, .inl (g.2.1, 10, .inl (fun _ => 0)))] := rfl
