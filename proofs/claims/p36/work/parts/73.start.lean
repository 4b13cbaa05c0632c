theorem WL_fst (n : Nat) (h : Nat → Nat) (c : Nat → va_E) : (WL n h c).map Prod.fst = (List.range n).map h := by
  unfold WL
  rw [List.map_map]
  rfl
theorem WL_add (n : Nat) (h : Nat → Nat) (c : Nat → va_E) : ∀ m, WL (n + m) h c = WL n h c ++ WL m (fun k => h (n + k)) (fun k => c (n + k))
  | 0 => (List.append_nil _).symm
  | m + 1 => by
    rw [show n + (m + 1) = (n + m) + 1 from rfl, WL_s, WL_add n h c m, WL_s, List.append_assoc]
theorem lv_same {cA : ClassId} {n : Nat} {f f' : Nat → Option Nat} (h : ∀ j, j < n → f j = f' j) : vp_cell cA (n, .inr (.inr (.inr (.inr f)))) = vp_cell cA (n, .inr (.inr (.inr (.inr f')))) := by
  rw [vp_cell_q, vp_cell_q]
  unfold arrV
  have h2 : (fun j : Fin n => va_rf (f j.val)) = (fun j : Fin n => va_rf (f' j.val)) := funext (fun j => by rw [h j.val j.isLt])
  rw [h2]
/-- the start, as a world -/
def SZ : Nat → Int32 := upd (upd (upd (fun _ => 0) (0 : Int32).toNatClampNeg (-1)) (1 : Int32).toNatClampNeg (-1)) (2 : Int32).toNatClampNeg (-1)
def b0 (f : Nat → Int64) : ST := (fun k => if k = 0 then 4 else 0, fun k => if k = 0 then 1 else 0, fun k => if k = 7 then SZ else fun _ => 0, fun k => if k = 0 then f else fun _ => 0)
def D0 : ND := ((4, 0, 0, 0), fun _ => 0, fun _ => 0, fun _ => 0, fun _ => 0, fun _ => 0)
theorem dk_0 {f : Nat → Int64} (hf : f 0 = lN 282578800148737) : DK (b0 f) D0 := by
  refine ⟨⟨by decide, by decide, by decide, by decide, by decide, fun k hk => absurd hk (Nat.not_lt_zero k)⟩, ⟨rfl, rfl, rfl, rfl, fun _ => rfl, fun _ => rfl, fun _ => rfl, fun _ => rfl, fun _ => rfl⟩, fun s hs => ?_⟩
  have hs : s = 0 := by have : (2 : Nat) ^ dL D0 = 1 := rfl
                        omega
  subst hs
  refine ⟨282578800148737, hf, by decide, fun v u hv hu => ?_⟩
  have h1 : ∀ v, v < 7 → ∀ u, u < 7 → (282578800148737 : Nat).testBit (7 * v + u) = (v == u) := by decide
  exact h1 v hv u hu
def hC (a : Nat → Nat) (l : List Nat) (m0 : Nat) : Nat → Nat := fun k => if k < 24 then l.getD k 0 else if k < 79 then a (k - 24) else m0
theorem hC_a (a : Nat → Nat) (l : List Nat) (m0 k : Nat) (hk : k < 55) : hC a l m0 (24 + k) = a k := by
  unfold hC
  rw [if_neg (by omega), if_pos (by omega), show 24 + k - 24 = k by omega]
theorem hC_79 (a : Nat → Nat) (l : List Nat) (m0 : Nat) : hC a l m0 79 = m0 := by
  unfold hC
  rw [if_neg (by omega), if_neg (by omega)]
theorem st_24 (g : gT) (a : Nat → Nat) (f : Nat → Int64) (m0 h0 zX2 n1 n2 n3 n4 n5 n6 zX3 o1 zX5 c1 zX6 s1 zX0 q zX4 t1 zX7 r0 r1 r2 r3 r4 : Nat) : WL 24 (hC a [h0, zX2, n1, n2, n3, n4, n5, n6, zX3, o1, zX5, c1, zX6, s1, zX0, q, zX4, t1, zX7, r0, r1, r2, r3, r4] m0) (cC g (hC a [h0, zX2, n1, n2, n3, n4, n5, n6, zX3, o1, zX5, c1, zX6, s1, zX0, q, zX4, t1, zX7, r0, r1, r2, r3, r4] m0) (b0 f, fun _ => zST)) = [(h0, .inr (8, [.ref zX2, .ref zX3, .ref zX5, .ref zX6, .ref zX0, .ref zX4, .ref zX7])), (zX2, .inr (1, [.ref n1, .ref n2, .ref n3, .ref n4, .ref n5, .ref n6, .int 4, .int 0, .int 0, .int 0])), (n1, .inl (g.2.1, 10, .inl (fun _ => 0))), (n2, .inl (g.2.1, 10, .inl (fun _ => 0))), (n3, .inl (g.2.1, 10, .inl (fun _ => 0))), (n4, .inl (g.2.1, 10, .inl (fun _ => 0))), (n5, .inl (g.2.1, 10, .inl (fun _ => 0))), (n6, .inl (g.2.2.1, 1024, .inr (.inl f))), (zX3, .inr (2, [.ref zX2, .ref o1, .long 1])), (o1, .inl (g.2.2.1, 1024, .inr (.inl (fun _ => 0)))), (zX5, .inr (4, [.ref zX2, .ref c1])), (c1, .inl (g.2.1, 11, .inl (fun _ => 0))), (zX6, .inr (5, [.ref zX2, .ref s1])), (s1, .inl (g.2.2.1, 1024, .inr (.inl (fun _ => 0)))), (zX0, .inr (0, [.ref zX2, .ref q, .int 0, .int 0, .int 0])), (q, .inl (g.2.2.2.1, 11, .inr (.inr (.inr (.inr (fun i => some ((hC a [h0, zX2, n1, n2, n3, n4, n5, n6, zX3, o1, zX5, c1, zX6, s1, zX0, q, zX4, t1, zX7, r0, r1, r2, r3, r4] m0) (24 + 5 * i)))))))), (zX4, .inr (3, [.ref zX2, .ref t1, .int 0, .int 0])), (t1, .inl (g.2.1, 60, .inl (fun _ => 0))), (zX7, .inr (6, [.ref r0, .ref r4, .int 0])), (r0, .inl (g.2.2.2.2.1, 3, .inr (.inr (.inr (.inr (fun i => some ((hC a [h0, zX2, n1, n2, n3, n4, n5, n6, zX3, o1, zX5, c1, zX6, s1, zX0, q, zX4, t1, zX7, r0, r1, r2, r3, r4] m0) (20 + i)))))))), (r1, .inl (g.2.2.1, 40, .inr (.inl (fun _ => 0)))), (r2, .inl (g.2.2.1, 40, .inr (.inl (fun _ => 0)))), (r3, .inl (g.2.2.1, 40, .inr (.inl (fun _ => 0)))), (r4, .inl (g.2.1, 3, .inl (upd (upd (upd (fun _ => 0) (0 : Int32).toNatClampNeg (-1)) (1 : Int32).toNatClampNeg (-1)) (2 : Int32).toNatClampNeg (-1))))] := rfl
theorem st_55 (g : gT) (a : Nat → Nat) (f : Nat → Int64) (l : List Nat) (m0 : Nat) : WL 55 (fun k => hC a l m0 (24 + k)) (fun k => cC g (hC a l m0) (b0 f, fun _ => zST) (24 + k)) = WL 55 a (cT g a) := by
  refine WL_cong (fun k hk => ⟨hC_a a l m0 k hk, ?_⟩)
  obtain ⟨i, j, hj, rfl⟩ : ∃ i j, j < 5 ∧ k = 5 * i + j := ⟨k / 5, k % 5, Nat.mod_lt _ (by decide), by omega⟩
  show cC g (hC a l m0) (b0 f, fun _ => zST) (24 + (5 * i + j)) = _
  rw [show 24 + (5 * i + j) = 24 + 5 * i + j by omega, cC_tn g (hC a l m0) (b0 f, fun _ => zST) i j hj, cT_e g a i j hj]
  rcases (show j = 0 ∨ j = 1 ∨ j = 2 ∨ j = 3 ∨ j = 4 by omega) with rfl | rfl | rfl | rfl | rfl
  · show (.inr (7, [.ref (hC a l m0 (24 + 5 * i + 1)), .ref (hC a l m0 (24 + 5 * i + 2)), .ref (hC a l m0 (24 + 5 * i + 3)), .ref (hC a l m0 (24 + 5 * i + 4)), .int 0, .int 0, .long 0, .long 0]) : va_E) = .inr (7, [.ref (a (24 + 5 * i + 1 - 24)), .ref (a (24 + 5 * i + 2 - 24)), .ref (a (24 + 5 * i + 3 - 24)), .ref (a (24 + 5 * i + 4 - 24)), .int 0, .int 0, .long 0, .long 0])
    unfold hC
    rw [if_neg (by omega), if_pos (by omega), if_neg (by omega), if_pos (by omega), if_neg (by omega), if_pos (by omega), if_neg (by omega), if_pos (by omega)]
  · rfl
  · rfl
  · rfl
  · rfl
def AL (s : State) : Nat → Prop := fun q => s.heap.size ≤ q
theorem st_all {g : gT} {s : State} {H : Heap} {locs : List Loc} {a : Nat → Nat} {f : Nat → Int64} {h0 zX2 n1 n2 n3 n4 n5 n6 zX3 o1 zX5 c1 zX6 s1 zX0 q zX4 t1 zX7 r0 r1 r2 r3 r4 m0 : Nat} (hf : f 0 = lN 282578800148737) (hw : Wn g (AL s) ((([(h0, .inr (8, [.ref zX2, .ref zX3, .ref zX5, .ref zX6, .ref zX0, .ref zX4, .ref zX7])), (zX2, .inr (1, [.ref n1, .ref n2, .ref n3, .ref n4, .ref n5, .ref n6, .int 4, .int 0, .int 0, .int 0])), (n1, .inl (g.2.1, 10, .inl (fun _ => 0))), (n2, .inl (g.2.1, 10, .inl (fun _ => 0))), (n3, .inl (g.2.1, 10, .inl (fun _ => 0))), (n4, .inl (g.2.1, 10, .inl (fun _ => 0))), (n5, .inl (g.2.1, 10, .inl (fun _ => 0))), (n6, .inl (g.2.2.1, 1024, .inr (.inl f))), (zX3, .inr (2, [.ref zX2, .ref o1, .long 1])), (o1, .inl (g.2.2.1, 1024, .inr (.inl (fun _ => 0)))), (zX5, .inr (4, [.ref zX2, .ref c1])), (c1, .inl (g.2.1, 11, .inl (fun _ => 0))), (zX6, .inr (5, [.ref zX2, .ref s1])), (s1, .inl (g.2.2.1, 1024, .inr (.inl (fun _ => 0)))), (zX0, .inr (0, [.ref zX2, .ref q, .int 0, .int 0, .int 0])), (q, .inl (g.2.2.2.1, 11, .inr (.inr (.inr (.inr (lvF a 11))))))] ++ WL 55 a (cT g a)) ++ [(zX4, .inr (3, [.ref zX2, .ref t1, .int 0, .int 0])), (t1, .inl (g.2.1, 60, .inl (fun _ => 0))), (zX7, .inr (6, [.ref r0, .ref r4, .int 0])), (r0, .inl (g.2.2.2.2.1, 3, .inr (.inr (.inr (.inr (fun i => if i = 0 then some r1 else if i = 1 then some r2 else if i = 2 then some r3 else none)))))), (r1, .inl (g.2.2.1, 40, .inr (.inl (fun _ => 0)))), (r2, .inl (g.2.2.1, 40, .inr (.inl (fun _ => 0)))), (r3, .inl (g.2.2.1, 40, .inr (.inl (fun _ => 0)))), (r4, .inl (g.2.1, 3, .inl (upd (upd (upd (fun _ => 0) (0 : Int32).toNatClampNeg (-1)) (1 : Int32).toNatClampNeg (-1)) (2 : Int32).toNatClampNeg (-1))))]) ++ [(m0, .inl (g.2.1, 54, .inl (fun _ => 0)))]) s H locs) : ∃ (h : Nat → Nat) (b : ST) (w : Nat → ST) (v : Nat → Int32) (D : ND), h 0 = h0 ∧ h 79 = m0 ∧ DK b D ∧ Wd g 80 h (cW g h (b, w) v) s H locs ∧ ∀ k, k < 80 → s.heap.size ≤ h k := by
  obtain ⟨hP, hD, hS, hA⟩ := hw
  have hP := vaP_mem.mp hP
  obtain ⟨hn, ha⟩ := (vaD_iff _ _).mp hD
  have hl1 : (WL 80 (hC a [h0, zX2, n1, n2, n3, n4, n5, n6, zX3, o1, zX5, c1, zX6, s1, zX0, q, zX4, t1, zX7, r0, r1, r2, r3, r4] m0) (cW g (hC a [h0, zX2, n1, n2, n3, n4, n5, n6, zX3, o1, zX5, c1, zX6, s1, zX0, q, zX4, t1, zX7, r0, r1, r2, r3, r4] m0) (b0 f, fun _ => zST) (fun _ => 0))) = ([(h0, .inr (8, [.ref zX2, .ref zX3, .ref zX5, .ref zX6, .ref zX0, .ref zX4, .ref zX7])), (zX2, .inr (1, [.ref n1, .ref n2, .ref n3, .ref n4, .ref n5, .ref n6, .int 4, .int 0, .int 0, .int 0])), (n1, .inl (g.2.1, 10, .inl (fun _ => 0))), (n2, .inl (g.2.1, 10, .inl (fun _ => 0))), (n3, .inl (g.2.1, 10, .inl (fun _ => 0))), (n4, .inl (g.2.1, 10, .inl (fun _ => 0))), (n5, .inl (g.2.1, 10, .inl (fun _ => 0))), (n6, .inl (g.2.2.1, 1024, .inr (.inl f))), (zX3, .inr (2, [.ref zX2, .ref o1, .long 1])), (o1, .inl (g.2.2.1, 1024, .inr (.inl (fun _ => 0)))), (zX5, .inr (4, [.ref zX2, .ref c1])), (c1, .inl (g.2.1, 11, .inl (fun _ => 0))), (zX6, .inr (5, [.ref zX2, .ref s1])), (s1, .inl (g.2.2.1, 1024, .inr (.inl (fun _ => 0)))), (zX0, .inr (0, [.ref zX2, .ref q, .int 0, .int 0, .int 0])), (q, .inl (g.2.2.2.1, 11, .inr (.inr (.inr (.inr (fun i => some ((hC a [h0, zX2, n1, n2, n3, n4, n5, n6, zX3, o1, zX5, c1, zX6, s1, zX0, q, zX4, t1, zX7, r0, r1, r2, r3, r4] m0) (24 + 5 * i)))))))), (zX4, .inr (3, [.ref zX2, .ref t1, .int 0, .int 0])), (t1, .inl (g.2.1, 60, .inl (fun _ => 0))), (zX7, .inr (6, [.ref r0, .ref r4, .int 0])), (r0, .inl (g.2.2.2.2.1, 3, .inr (.inr (.inr (.inr (fun i => some ((hC a [h0, zX2, n1, n2, n3, n4, n5, n6, zX3, o1, zX5, c1, zX6, s1, zX0, q, zX4, t1, zX7, r0, r1, r2, r3, r4] m0) (20 + i)))))))), (r1, .inl (g.2.2.1, 40, .inr (.inl (fun _ => 0)))), (r2, .inl (g.2.2.1, 40, .inr (.inl (fun _ => 0)))), (r3, .inl (g.2.2.1, 40, .inr (.inl (fun _ => 0)))), (r4, .inl (g.2.1, 3, .inl (upd (upd (upd (fun _ => 0) (0 : Int32).toNatClampNeg (-1)) (1 : Int32).toNatClampNeg (-1)) (2 : Int32).toNatClampNeg (-1))))] ++ WL 55 a (cT g a)) ++ [(m0, .inl (g.2.1, 54, .inl (fun _ => 0)))] := by
    rw [WL_s, cW_79, hC_79, show WL 79 (hC a [h0, zX2, n1, n2, n3, n4, n5, n6, zX3, o1, zX5, c1, zX6, s1, zX0, q, zX4, t1, zX7, r0, r1, r2, r3, r4] m0) (cW g (hC a [h0, zX2, n1, n2, n3, n4, n5, n6, zX3, o1, zX5, c1, zX6, s1, zX0, q, zX4, t1, zX7, r0, r1, r2, r3, r4] m0) (b0 f, fun _ => zST) (fun _ => 0)) = WL 79 (hC a [h0, zX2, n1, n2, n3, n4, n5, n6, zX3, o1, zX5, c1, zX6, s1, zX0, q, zX4, t1, zX7, r0, r1, r2, r3, r4] m0) (cC g (hC a [h0, zX2, n1, n2, n3, n4, n5, n6, zX3, o1, zX5, c1, zX6, s1, zX0, q, zX4, t1, zX7, r0, r1, r2, r3, r4] m0) (b0 f, fun _ => zST)) from WL_cong (fun k hk => ⟨rfl, cW_0 g _ _ _ k hk⟩), show 79 = 24 + 55 from rfl, WL_add, st_24, st_55]
  have hm : (([(h0, .inr (8, [.ref zX2, .ref zX3, .ref zX5, .ref zX6, .ref zX0, .ref zX4, .ref zX7])), (zX2, .inr (1, [.ref n1, .ref n2, .ref n3, .ref n4, .ref n5, .ref n6, .int 4, .int 0, .int 0, .int 0])), (n1, .inl (g.2.1, 10, .inl (fun _ => 0))), (n2, .inl (g.2.1, 10, .inl (fun _ => 0))), (n3, .inl (g.2.1, 10, .inl (fun _ => 0))), (n4, .inl (g.2.1, 10, .inl (fun _ => 0))), (n5, .inl (g.2.1, 10, .inl (fun _ => 0))), (n6, .inl (g.2.2.1, 1024, .inr (.inl f))), (zX3, .inr (2, [.ref zX2, .ref o1, .long 1])), (o1, .inl (g.2.2.1, 1024, .inr (.inl (fun _ => 0)))), (zX5, .inr (4, [.ref zX2, .ref c1])), (c1, .inl (g.2.1, 11, .inl (fun _ => 0))), (zX6, .inr (5, [.ref zX2, .ref s1])), (s1, .inl (g.2.2.1, 1024, .inr (.inl (fun _ => 0)))), (zX0, .inr (0, [.ref zX2, .ref q, .int 0, .int 0, .int 0])), (q, .inl (g.2.2.2.1, 11, .inr (.inr (.inr (.inr (lvF a 11))))))] ++ WL 55 a (cT g a)) ++ [(zX4, .inr (3, [.ref zX2, .ref t1, .int 0, .int 0])), (t1, .inl (g.2.1, 60, .inl (fun _ => 0))), (zX7, .inr (6, [.ref r0, .ref r4, .int 0])), (r0, .inl (g.2.2.2.2.1, 3, .inr (.inr (.inr (.inr (fun i => if i = 0 then some r1 else if i = 1 then some r2 else if i = 2 then some r3 else none)))))), (r1, .inl (g.2.2.1, 40, .inr (.inl (fun _ => 0)))), (r2, .inl (g.2.2.1, 40, .inr (.inl (fun _ => 0)))), (r3, .inl (g.2.2.1, 40, .inr (.inl (fun _ => 0)))), (r4, .inl (g.2.1, 3, .inl (upd (upd (upd (fun _ => 0) (0 : Int32).toNatClampNeg (-1)) (1 : Int32).toNatClampNeg (-1)) (2 : Int32).toNatClampNeg (-1))))] ++ [(m0, .inl (g.2.1, 54, .inl (fun _ => 0)))] : va_W).map Prod.fst = (([h0, zX2, n1, n2, n3, n4, n5, n6, zX3, o1, zX5, c1, zX6, s1, zX0, q] ++ (List.range 55).map a) ++ [zX4, t1, zX7, r0, r1, r2, r3, r4]) ++ [m0] := by
    rw [List.map_append, List.map_append, List.map_append, WL_fst]
    rfl
  rw [hm] at hn ha
  have hperm : ((([h0, zX2, n1, n2, n3, n4, n5, n6, zX3, o1, zX5, c1, zX6, s1, zX0, q] ++ (List.range 55).map a) ++ [zX4, t1, zX7, r0, r1, r2, r3, r4]) ++ [m0]).Perm (([h0, zX2, n1, n2, n3, n4, n5, n6, zX3, o1, zX5, c1, zX6, s1, zX0, q, zX4, t1, zX7, r0, r1, r2, r3, r4] ++ (List.range 55).map a) ++ [m0]) := by
    refine List.Perm.append_right _ ?_
    rw [show ([h0, zX2, n1, n2, n3, n4, n5, n6, zX3, o1, zX5, c1, zX6, s1, zX0, q, zX4, t1, zX7, r0, r1, r2, r3, r4] : List Nat) = [h0, zX2, n1, n2, n3, n4, n5, n6, zX3, o1, zX5, c1, zX6, s1, zX0, q] ++ [zX4, t1, zX7, r0, r1, r2, r3, r4] from rfl, List.append_assoc, List.append_assoc]
    exact List.Perm.append_left _ List.perm_append_comm
  have hn2 := hperm.nodup_iff.mp hn
  have ha2 : ∀ x ∈ ([h0, zX2, n1, n2, n3, n4, n5, n6, zX3, o1, zX5, c1, zX6, s1, zX0, q, zX4, t1, zX7, r0, r1, r2, r3, r4] ++ (List.range 55).map a) ++ [m0], AL s x := fun x hx => ha x (hperm.mem_iff.mpr hx)
  have hf1 : (WL 80 (hC a [h0, zX2, n1, n2, n3, n4, n5, n6, zX3, o1, zX5, c1, zX6, s1, zX0, q, zX4, t1, zX7, r0, r1, r2, r3, r4] m0) (cW g (hC a [h0, zX2, n1, n2, n3, n4, n5, n6, zX3, o1, zX5, c1, zX6, s1, zX0, q, zX4, t1, zX7, r0, r1, r2, r3, r4] m0) (b0 f, fun _ => zST) (fun _ => 0))).map Prod.fst = ([h0, zX2, n1, n2, n3, n4, n5, n6, zX3, o1, zX5, c1, zX6, s1, zX0, q, zX4, t1, zX7, r0, r1, r2, r3, r4] ++ (List.range 55).map a) ++ [m0] := by
    rw [hl1, List.map_append, List.map_append, WL_fst]
    rfl
  have hge : ∀ k, k < 80 → s.heap.size ≤ (hC a [h0, zX2, n1, n2, n3, n4, n5, n6, zX3, o1, zX5, c1, zX6, s1, zX0, q, zX4, t1, zX7, r0, r1, r2, r3, r4] m0) k := fun k hk => ha2 _ (by
    rw [← hf1, WL_fst]
    exact List.mem_map.mpr ⟨k, List.mem_range.mpr hk, rfl⟩)
  refine ⟨(hC a [h0, zX2, n1, n2, n3, n4, n5, n6, zX3, o1, zX5, c1, zX6, s1, zX0, q, zX4, t1, zX7, r0, r1, r2, r3, r4] m0), b0 f, fun _ => zST, fun _ => 0, D0, rfl, hC_79 _ _ _, dk_0 hf, ⟨?_, ?_, ⟨hS.1, fun q h1 h2 => hS.2.1 q h1 (fun h3 => h2 (Or.inr h3)), fun l hl => Or.inr (hS.2.2 l hl)⟩, trivial⟩, hge⟩
  · rw [hl1]
    refine vaP_mem.mpr (fun x hx => ?_)
    rcases List.mem_append.mp hx with hx | hx
    · rcases List.mem_append.mp hx with hx | hx'
      · have hx24 := hx
        have keep : ∀ y ∈ [(h0, .inr (8, [.ref zX2, .ref zX3, .ref zX5, .ref zX6, .ref zX0, .ref zX4, .ref zX7])), (zX2, .inr (1, [.ref n1, .ref n2, .ref n3, .ref n4, .ref n5, .ref n6, .int 4, .int 0, .int 0, .int 0])), (n1, .inl (g.2.1, 10, .inl (fun _ => 0))), (n2, .inl (g.2.1, 10, .inl (fun _ => 0))), (n3, .inl (g.2.1, 10, .inl (fun _ => 0))), (n4, .inl (g.2.1, 10, .inl (fun _ => 0))), (n5, .inl (g.2.1, 10, .inl (fun _ => 0))), (n6, .inl (g.2.2.1, 1024, .inr (.inl f))), (zX3, .inr (2, [.ref zX2, .ref o1, .long 1])), (o1, .inl (g.2.2.1, 1024, .inr (.inl (fun _ => 0)))), (zX5, .inr (4, [.ref zX2, .ref c1])), (c1, .inl (g.2.1, 11, .inl (fun _ => 0))), (zX6, .inr (5, [.ref zX2, .ref s1])), (s1, .inl (g.2.2.1, 1024, .inr (.inl (fun _ => 0)))), (zX0, .inr (0, [.ref zX2, .ref q, .int 0, .int 0, .int 0])), (q, .inl (g.2.2.2.1, 11, .inr (.inr (.inr (.inr (lvF a 11))))))], va_at g.1 vwCl y H := fun y hy => hP y (List.mem_append_left _ (List.mem_append_left _ (List.mem_append_left _ hy)))
        have keep2 : ∀ y ∈ [(zX4, .inr (3, [.ref zX2, .ref t1, .int 0, .int 0])), (t1, .inl (g.2.1, 60, .inl (fun _ => 0))), (zX7, .inr (6, [.ref r0, .ref r4, .int 0])), (r0, .inl (g.2.2.2.2.1, 3, .inr (.inr (.inr (.inr (fun i => if i = 0 then some r1 else if i = 1 then some r2 else if i = 2 then some r3 else none)))))), (r1, .inl (g.2.2.1, 40, .inr (.inl (fun _ => 0)))), (r2, .inl (g.2.2.1, 40, .inr (.inl (fun _ => 0)))), (r3, .inl (g.2.2.1, 40, .inr (.inl (fun _ => 0)))), (r4, .inl (g.2.1, 3, .inl (upd (upd (upd (fun _ => 0) (0 : Int32).toNatClampNeg (-1)) (1 : Int32).toNatClampNeg (-1)) (2 : Int32).toNatClampNeg (-1))))], va_at g.1 vwCl y H := fun y hy => hP y (List.mem_append_left _ (List.mem_append_right _ hy))
        have c15 : va_at g.1 vwCl (q, .inl (g.2.2.2.1, 11, .inr (.inr (.inr (.inr (fun i => some ((hC a [h0, zX2, n1, n2, n3, n4, n5, n6, zX3, o1, zX5, c1, zX6, s1, zX0, q, zX4, t1, zX7, r0, r1, r2, r3, r4] m0) (24 + 5 * i)))))))) H := by
          have h1 := keep (q, .inl (g.2.2.2.1, 11, .inr (.inr (.inr (.inr (lvF a 11)))))) (List.mem_of_getElem? (i := 15) rfl)
          have h1 : H[q]? = some (vp_cell _ _) := h1
          rw [lv_same (f' := fun i => some ((hC a [h0, zX2, n1, n2, n3, n4, n5, n6, zX3, o1, zX5, c1, zX6, s1, zX0, q, zX4, t1, zX7, r0, r1, r2, r3, r4] m0) (24 + 5 * i))) (fun j hj => by unfold lvF; rw [if_pos hj, hC_a _ _ _ _ (by omega)])] at h1
          exact h1
        have c19 : va_at g.1 vwCl (r0, .inl (g.2.2.2.2.1, 3, .inr (.inr (.inr (.inr (fun i => some ((hC a [h0, zX2, n1, n2, n3, n4, n5, n6, zX3, o1, zX5, c1, zX6, s1, zX0, q, zX4, t1, zX7, r0, r1, r2, r3, r4] m0) (20 + i)))))))) H := by
          have h1 := keep2 (r0, .inl (g.2.2.2.2.1, 3, .inr (.inr (.inr (.inr (fun i => if i = 0 then some r1 else if i = 1 then some r2 else if i = 2 then some r3 else none)))))) (List.mem_of_getElem? (i := 3) rfl)
          have h1 : H[r0]? = some (vp_cell _ _) := h1
          rw [lv_same (f' := fun i => some ((hC a [h0, zX2, n1, n2, n3, n4, n5, n6, zX3, o1, zX5, c1, zX6, s1, zX0, q, zX4, t1, zX7, r0, r1, r2, r3, r4] m0) (20 + i))) (fun j hj => by rcases (show j = 0 ∨ j = 1 ∨ j = 2 by omega) with rfl | rfl | rfl <;> rfl)] at h1
          exact h1
        obtain ⟨k, hk⟩ := List.getElem?_of_mem hx24
        have hk24 : k < 24 := (List.getElem?_eq_some_iff.mp hk).1
        rcases (show k = 0 ∨ k = 1 ∨ k = 2 ∨ k = 3 ∨ k = 4 ∨ k = 5 ∨ k = 6 ∨ k = 7 ∨ k = 8 ∨ k = 9 ∨ k = 10 ∨ k = 11 ∨ k = 12 ∨ k = 13 ∨ k = 14 ∨ k = 15 ∨ k = 16 ∨ k = 17 ∨ k = 18 ∨ k = 19 ∨ k = 20 ∨ k = 21 ∨ k = 22 ∨ k = 23 by omega) with rfl | rfl | rfl | rfl | rfl | rfl | rfl | rfl | rfl | rfl | rfl | rfl | rfl | rfl | rfl | rfl | rfl | rfl | rfl | rfl | rfl | rfl | rfl | rfl
        · cases hk; exact keep _ (List.mem_of_getElem? (i := 0) rfl)
        · cases hk; exact keep _ (List.mem_of_getElem? (i := 1) rfl)
        · cases hk; exact keep _ (List.mem_of_getElem? (i := 2) rfl)
        · cases hk; exact keep _ (List.mem_of_getElem? (i := 3) rfl)
        · cases hk; exact keep _ (List.mem_of_getElem? (i := 4) rfl)
        · cases hk; exact keep _ (List.mem_of_getElem? (i := 5) rfl)
        · cases hk; exact keep _ (List.mem_of_getElem? (i := 6) rfl)
        · cases hk; exact keep _ (List.mem_of_getElem? (i := 7) rfl)
        · cases hk; exact keep _ (List.mem_of_getElem? (i := 8) rfl)
        · cases hk; exact keep _ (List.mem_of_getElem? (i := 9) rfl)
        · cases hk; exact keep _ (List.mem_of_getElem? (i := 10) rfl)
        · cases hk; exact keep _ (List.mem_of_getElem? (i := 11) rfl)
        · cases hk; exact keep _ (List.mem_of_getElem? (i := 12) rfl)
        · cases hk; exact keep _ (List.mem_of_getElem? (i := 13) rfl)
        · cases hk; exact keep _ (List.mem_of_getElem? (i := 14) rfl)
        · cases hk; exact c15
        · cases hk; exact keep2 _ (List.mem_of_getElem? (i := 0) rfl)
        · cases hk; exact keep2 _ (List.mem_of_getElem? (i := 1) rfl)
        · cases hk; exact keep2 _ (List.mem_of_getElem? (i := 2) rfl)
        · cases hk; exact c19
        · cases hk; exact keep2 _ (List.mem_of_getElem? (i := 4) rfl)
        · cases hk; exact keep2 _ (List.mem_of_getElem? (i := 5) rfl)
        · cases hk; exact keep2 _ (List.mem_of_getElem? (i := 6) rfl)
        · cases hk; exact keep2 _ (List.mem_of_getElem? (i := 7) rfl)
      · exact hP x (List.mem_append_left _ (List.mem_append_left _ (List.mem_append_right _ hx')))
    · exact hP x (List.mem_append_right _ hx)
  · refine (vaD_iff _ _).mpr ⟨by rw [hf1]; exact hn2, fun x hx => ?_⟩
    rw [hf1] at hx
    exact Or.inr (ha2 x hx)
