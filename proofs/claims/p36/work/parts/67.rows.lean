/-! rows of constructors: a world that grows at its end -/
def Wn (g : gT) (A : Nat → Prop) (ws : va_W) (s : State) (H : Heap) (locs : List Loc) : Prop := va_P g.1 vwCl ws H ∧ va_D A ws ∧ va_S A s.heap H locs ∧ ∀ q : Nat, s.heap.size ≤ q → A q
section WN
variable {p : Program} {l : Launch} {e : Env} {R : Room} {s : State} {m : MethodId} {args : Array Value} {below : List Frame} {meth : Method} {c : Code} {H : Heap} {locs : List Loc} {Q : State → Prop} {cells slots : Nat}
variable {cc : ByteArray} {pc : Nat} {ls : Array Slot} {rest : List Value} {own : String} {nL : Nat} {g : gT} {A : Nat → Prop} {ws : va_W}
theorem n_new {C : String} {T : u_T} {N ci index : Nat} (X : Cx g p s m args c cc own nL) (hw : Wn g A ws s H locs) (hin : ∀ w ∈ u_ws C T N, w ∈ wsL_law) (ty : Nat → FieldType) (hty : ∀ k, k < N → parseFieldDescriptor (T k).2.2.1 = some (ty k)) (hcl : Cond.classLink own index C ∈ wsL_law) (hinst : Cond.instantiable C N ∈ wsL_law) (hini : Cond.initialized C ∈ wsL_law) (hc : vwCl[ci]? = some (C, T, N)) {fs : List Value} (hfs : ∀ j, j < N → defaultValue (ty j) = vp_V fs j) (hcells : cells + 1 ≤ R.cells) (hslots : slots + N ≤ R.slots) (hdg : decode cc pc = .ok (.new index, 3))
    (kk : ∀ (q : Nat) (H1 : Heap), Wn g A (ws ++ [(q, .inr (ci, fs))]) s H1 locs → W p l e R s m args below meth c H1 locs (cells + 1) (slots + N) Q (F0 m (pc + 3) ls (.ref q :: rest))) : W p l e R s m args below meth c H locs cells slots Q (F0 m pc ls rest) :=
  va_new X.1 X.2.1 X.2.2.2.2.1 hin ty hty X.2.2.2.1 (X.2.2.2.2.1 _ hcl) (X.2.2.2.2.1 _ hinst) (X.2.2.2.2.1 _ hini) X.2.2.2.2.2 hw.1 hw.2.1 hw.2.2.1 hw.2.2.2 hc hfs hcells hslots hdg (fun q H1 hP hD hS => kk q H1 ⟨hP, hD, hS, hw.2.2.2⟩)
theorem n_newi {n : Int32} {N' : Nat} (X : Cx g p s m args c cc own nL) (hw : Wn g A ws s H locs) (hn : ¬ n < 0) (hN : n.toNatClampNeg = N') (hb : N' ≤ 100000) (hcells : cells + 1 ≤ R.cells) (hslots : slots + N' ≤ R.slots) (hdg : decode cc pc = .ok (.newarray .int, 2))
    (kk : ∀ (q : Nat) (H1 : Heap), Wn g A (ws ++ [(q, .inl (g.2.1, N', .inl (fun _ => 0)))]) s H1 locs → W p l e R s m args below meth c H1 locs (cells + 1) (slots + N') Q (F0 m (pc + 2) ls (.ref q :: rest))) : W p l e R s m args below meth c H locs cells slots Q (F0 m pc ls (.int n :: rest)) := by
  have harr : (Cond.arrayClass (newarray.typeOf .int)).before args s = true := X.2.2.2.2.1 (Cond.arrayClass .int) wq_1_3
  refine va_newa (atype := .int) (ty := .int) (a0 := (N', .inl (fun _ => 0))) X.1 X.2.1 harr rfl X.2.2.2.2.2 hw.1 hw.2.1 hw.2.2.1 hw.2.2.2 (fun _ => rfl) hn hN (by show N' * 4 ≤ _; omega) hcells hslots hdg (fun q cA H1 hK hP hD hS => ?_)
  have h1 : s.vm.findClass ("[" ++ (FieldType.int).toString) = some cA := (hK.2 4 (cA, .int) rfl).2
  have h2 : s.vm.findClass ("[" ++ (FieldType.int).toString) = some g.2.1 := (X.2.2.2.2.2.2 0 (g.2.1, .int) rfl).2
  have hcA : cA = g.2.1 := Option.some.inj (h1.symm.trans h2)
  subst hcA
  exact kk q H1 ⟨hP, hD, hS, hw.2.2.2⟩
theorem n_newl {n : Int32} {N' : Nat} (X : Cx g p s m args c cc own nL) (hw : Wn g A ws s H locs) (hn : ¬ n < 0) (hN : n.toNatClampNeg = N') (hb : N' ≤ 100000) (hcells : cells + 1 ≤ R.cells) (hslots : slots + N' ≤ R.slots) (hdg : decode cc pc = .ok (.newarray .long, 2))
    (kk : ∀ (q : Nat) (H1 : Heap), Wn g A (ws ++ [(q, .inl (g.2.2.1, N', .inr (.inl (fun _ => 0))))]) s H1 locs → W p l e R s m args below meth c H1 locs (cells + 1) (slots + N') Q (F0 m (pc + 2) ls (.ref q :: rest))) : W p l e R s m args below meth c H locs cells slots Q (F0 m pc ls (.int n :: rest)) := by
  have harr : (Cond.arrayClass (newarray.typeOf .long)).before args s = true := X.2.2.2.2.1 (Cond.arrayClass .long) wq_3_0
  refine va_newa (atype := .long) (ty := .long) (a0 := (N', .inr (.inl (fun _ => 0)))) X.1 X.2.1 harr rfl X.2.2.2.2.2 hw.1 hw.2.1 hw.2.2.1 hw.2.2.2 (fun _ => rfl) hn hN (by show N' * 8 ≤ _; omega) hcells hslots hdg (fun q cA H1 hK hP hD hS => ?_)
  have h1 : s.vm.findClass ("[" ++ (FieldType.long).toString) = some cA := (hK.2 4 (cA, .long) rfl).2
  have h2 : s.vm.findClass ("[" ++ (FieldType.long).toString) = some g.2.2.1 := (X.2.2.2.2.2.2 1 (g.2.2.1, .long) rfl).2
  have hcA : cA = g.2.2.1 := Option.some.inj (h1.symm.trans h2)
  subst hcA
  exact kk q H1 ⟨hP, hD, hS, hw.2.2.2⟩
theorem n_putF {C : String} {T : u_T} {ty0 : Nat → FieldType} {N ci index : Nat} (X : Cx g p s m args c cc own nL) (hname : meth.name = "<init>") (hw : Wn g A ws s H locs) (hin : ∀ w ∈ u_ws C T N, w ∈ wsL_law) (hty : ∀ k, k < N → parseFieldDescriptor (T k).2.2.1 = some (ty0 k)) (hnm : ∀ a, a < N → ∀ b, b < N → a ≠ b → (T a).2.1 ≠ (T b).2.1) (q0 : Nat) {a : Nat} {fs : List Value} (he : ws[q0]? = some (a, .inr (ci, fs))) (hc : vwCl[ci]? = some (C, T, N)) (j : Nat) (hj : j < N) (hlink : Cond.fieldLink own index (T j).1 (T j).2.1 (T j).2.2.1 ∈ wsL_law) (hfin : (T j).2.2.2 = true) (hdecl : (T j).1 = own) {ty : FieldType} {v : Value} (hd : parseFieldDescriptor (T j).2.2.1 = some ty) (hn : narrow ty v = v) (hfit : fits ty v = true) (hl : j < fs.length) (hdg : decode cc pc = .ok (.putfield index, 3))
    (kk : ∀ (H : Heap) (locs : List Loc), Wn g A (ws.set q0 (a, .inr (ci, fs.set j v))) s H locs → W p l e R s m args below meth c H locs cells slots Q (F0 m (pc + 3) ls rest)) : W p l e R s m args below meth c H locs cells slots Q (F0 m pc ls (v :: .ref a :: rest)) :=
  va_putF X.1 X.2.1 X.2.2.2.2.1 hin ty0 hty hnm X.2.2.2.1 X.2.2.2.2.2 hw.1 hw.2.1 hw.2.2.1 q0 he hc j hj (X.2.2.2.2.1 _ hlink) (fun _ h9 => h9) hfin hname hdecl hd hn hfit hl hdg (fun H1 locs1 hP hD hS => kk H1 locs1 ⟨hP, hD, hS, hw.2.2.2⟩)
theorem n_put {C : String} {T : u_T} {ty0 : Nat → FieldType} {N ci index : Nat} (X : Cx g p s m args c cc own nL) (hw : Wn g A ws s H locs) (hin : ∀ w ∈ u_ws C T N, w ∈ wsL_law) (hty : ∀ k, k < N → parseFieldDescriptor (T k).2.2.1 = some (ty0 k)) (hnm : ∀ a, a < N → ∀ b, b < N → a ≠ b → (T a).2.1 ≠ (T b).2.1) (q0 : Nat) {a : Nat} {fs : List Value} (he : ws[q0]? = some (a, .inr (ci, fs))) (hc : vwCl[ci]? = some (C, T, N)) (j : Nat) (hj : j < N) (hlink : Cond.fieldLink own index (T j).1 (T j).2.1 (T j).2.2.1 ∈ wsL_law) (hfin : (T j).2.2.2 = false) {ty : FieldType} {v : Value} (hd : parseFieldDescriptor (T j).2.2.1 = some ty) (hn : narrow ty v = v) (hfit : fits ty v = true) (hl : j < fs.length) (hdg : decode cc pc = .ok (.putfield index, 3))
    (kk : ∀ (H : Heap) (locs : List Loc), Wn g A (ws.set q0 (a, .inr (ci, fs.set j v))) s H locs → W p l e R s m args below meth c H locs cells slots Q (F0 m (pc + 3) ls rest)) : W p l e R s m args below meth c H locs cells slots Q (F0 m pc ls (v :: .ref a :: rest)) :=
  va_put X.1 X.2.1 X.2.2.2.2.1 hin ty0 hty hnm X.2.2.2.1 X.2.2.2.2.2 hw.1 hw.2.1 hw.2.2.1 q0 he hc j hj (X.2.2.2.2.1 _ hlink) (fun _ h9 => h9) hfin hd hn hfit hl hdg (fun H1 locs1 hP hD hS => kk H1 locs1 ⟨hP, hD, hS, hw.2.2.2⟩)
theorem n_get {C : String} {T : u_T} {N ci index : Nat} (X : Cx g p s m args c cc own nL) (hw : Wn g A ws s H locs) (hin : ∀ w ∈ u_ws C T N, w ∈ wsL_law) (q0 : Nat) {a : Nat} {fs : List Value} (he : ws[q0]? = some (a, .inr (ci, fs))) (hc : vwCl[ci]? = some (C, T, N)) (j : Nat) (hj : j < N) (hlink : Cond.fieldLink own index (T j).1 (T j).2.1 (T j).2.2.1 ∈ wsL_law) {v : Value} (hv : fs[j]? = some v) (hdg : decode cc pc = .ok (.getfield index, 3))
    (kk : W p l e R s m args below meth c H locs cells slots Q (F0 m (pc + 3) ls (v :: rest))) : W p l e R s m args below meth c H locs cells slots Q (F0 m pc ls (.ref a :: rest)) :=
  va_get X.1 X.2.1 X.2.2.2.2.1 hin X.2.2.2.1 X.2.2.2.2.2 hw.1 q0 he hc j hj (X.2.2.2.2.1 _ hlink) (fun _ h9 => h9) hv hdg kk
theorem n_iast (X : Cx g p s m args c cc own nL) (hw : Wn g A ws s H locs) (q0 : Nat) {a len : Nat} {f : Nat → Int32} (he : ws[q0]? = some (a, .inl (g.2.1, len, .inl f))) {i x : Int32} (hin : ¬ (i < 0 ∨ len ≤ i.toNatClampNeg)) (hdg : decode cc pc = .ok (.iastore, 1))
    (kk : ∀ (H : Heap) (locs : List Loc), Wn g A (ws.set q0 (a, .inl (g.2.1, len, .inl (upd f i.toNatClampNeg x)))) s H locs → W p l e R s m args below meth c H locs cells slots Q (F0 m (pc + 1) ls rest)) : W p l e R s m args below meth c H locs cells slots Q (F0 m pc ls (.int x :: .int i :: .ref a :: rest)) :=
  va_iast X.1 X.2.1 X.2.2.2.2.2 hw.1 hw.2.1 hw.2.2.1 q0 0 he rfl hin hdg (fun H1 locs1 hP hD hS => kk H1 locs1 ⟨hP, hD, hS, hw.2.2.2⟩)
theorem n_last (X : Cx g p s m args c cc own nL) (hw : Wn g A ws s H locs) (q0 : Nat) {a len : Nat} {f : Nat → Int64} (he : ws[q0]? = some (a, .inl (g.2.2.1, len, .inr (.inl f)))) {i : Int32} {x : Int64} (hin : ¬ (i < 0 ∨ len ≤ i.toNatClampNeg)) (hdg : decode cc pc = .ok (.lastore, 1))
    (kk : ∀ (H : Heap) (locs : List Loc), Wn g A (ws.set q0 (a, .inl (g.2.2.1, len, .inr (.inl (vp_updL f i.toNatClampNeg x))))) s H locs → W p l e R s m args below meth c H locs cells slots Q (F0 m (pc + 1) ls rest)) : W p l e R s m args below meth c H locs cells slots Q (F0 m pc ls (.long x :: .int i :: .ref a :: rest)) :=
  va_last X.1 X.2.1 X.2.2.2.2.2 hw.1 hw.2.1 hw.2.2.1 q0 1 he rfl hin hdg (fun H1 locs1 hP hD hS => kk H1 locs1 ⟨hP, hD, hS, hw.2.2.2⟩)
theorem n_lald (X : Cx g p s m args c cc own nL) (hw : Wn g A ws s H locs) (q0 : Nat) {a len : Nat} {f : Nat → Int64} (he : ws[q0]? = some (a, .inl (g.2.2.1, len, .inr (.inl f)))) {i : Int32} (hin : ¬ (i < 0 ∨ len ≤ i.toNatClampNeg)) (hdg : decode cc pc = .ok (.laload, 1))
    (kk : W p l e R s m args below meth c H locs cells slots Q (F0 m (pc + 1) ls (.long (f i.toNatClampNeg) :: rest))) : W p l e R s m args below meth c H locs cells slots Q (F0 m pc ls (.int i :: .ref a :: rest)) :=
  va_lald X.1 X.2.1 X.2.2.2.2.2 hw.1 q0 1 he rfl hin hdg kk
theorem n_alen (X : Cx g p s m args c cc own nL) (hw : Wn g A ws s H locs) (q0 t : Nat) {a : Nat} {cA : ClassId} {x : vp_A} (he : ws[q0]? = some (a, .inl (cA, x))) {ty : FieldType} (ht : (TY g)[t]? = some (cA, ty)) {v : Int32} (hv : Int32.ofNat x.1 = v) (hdg : decode cc pc = .ok (.arraylength, 1))
    (kk : W p l e R s m args below meth c H locs cells slots Q (F0 m (pc + 1) ls (.int v :: rest))) : W p l e R s m args below meth c H locs cells slots Q (F0 m pc ls (.ref a :: rest)) :=
  va_alen X.1 X.2.1 X.2.2.2.2.2 hw.1 q0 t he ht hv hdg kk
theorem n_astq {v : Nat} {vs : List Value} (X : Cx g p s m args c cc own nL) (hw : Wn g A ws s H locs) (q0 qk : Nat) {a len : Nat} {f : Nat → Option Nat} (he : ws[q0]? = some (a, .inl (g.2.2.2.1, len, .inr (.inr (.inr (.inr f)))))) (hv : ws[qk]? = some (v, .inr (7, vs))) {i : Int32} (hin : ¬ (i < 0 ∨ len ≤ i.toNatClampNeg)) (hdg : decode cc pc = .ok (.aastore, 1))
    (kk : ∀ (H : Heap) (locs : List Loc), Wn g A (ws.set q0 (a, .inl (g.2.2.2.1, len, .inr (.inr (.inr (.inr (va_up f i.toNatClampNeg (some v)))))))) s H locs → W p l e R s m args below meth c H locs cells slots Q (F0 m (pc + 1) ls rest)) : W p l e R s m args below meth c H locs cells slots Q (F0 m pc ls (.ref v :: .int i :: .ref a :: rest)) :=
  va_astq (r := (RX8, TX8, 8)) X.1 X.2.1 X.2.2.2.2.2 hw.1 hw.2.1 hw.2.2.1 q0 2 qk 7 he rfl hv rfl hin hdg (fun H1 locs1 hP hD hS => kk H1 locs1 ⟨hP, hD, hS, hw.2.2.2⟩)
theorem n_newq {n : Int32} {N' index : Nat} (X : Cx g p s m args c cc own nL) (hw : Wn g A ws s H locs) (hcl : Cond.classLink own index "LinkChances$TidyNet" ∈ wsL_law) (hov : va_AO "LinkChances$TidyNet" s) (hn : ¬ n < 0) (hN : n.toNatClampNeg = N') (hb : N' ≤ 100000) (hcells : cells + 1 ≤ R.cells) (hslots : slots + N' ≤ R.slots) (hdg : decode cc pc = .ok (.anewarray index, 3))
    (kk : ∀ (q : Nat) (H1 : Heap), Wn g A (ws ++ [(q, .inl (g.2.2.2.1, N', .inr (.inr (.inr (.inr (fun _ => none))))))]) s H1 locs → W p l e R s m args below meth c H1 locs (cells + 1) (slots + N') Q (F0 m (pc + 3) ls (.ref q :: rest))) : W p l e R s m args below meth c H locs cells slots Q (F0 m pc ls (.int n :: rest)) := by
  refine va_newq (C := "LinkChances$TidyNet") X.1 X.2.1 X.2.2.2.1 (X.2.2.2.2.1 _ hcl) hov X.2.2.2.2.2 hw.1 hw.2.1 hw.2.2.1 hw.2.2.2 hn hN (by omega) hcells hslots hdg (fun q cA H1 hK hP hD hS => ?_)
  obtain ⟨k1, c1, -, -, -, h1⟩ := (hK.2 4 (cA, .object "LinkChances$TidyNet") rfl).2
  obtain ⟨k2, c2, -, -, -, h2⟩ := (X.2.2.2.2.2.2 2 (g.2.2.2.1, .object "LinkChances$TidyNet") rfl).2
  have hcA : cA = g.2.2.2.1 := Option.some.inj (h1.symm.trans h2)
  subst hcA
  exact kk q H1 ⟨hP, hD, hS, hw.2.2.2⟩
theorem n_obj {idx a : Nat} (X : Cx g p s m args c cc own nL) (hl : ls.size = nL) (hlink : Cond.methodLink own idx objectInit ∈ wsL_law) (hR : 1 ≤ R.frames ∧ 28 ≤ R.locals) (hdg : decode cc pc = .ok (.invokespecial idx, 3))
    (kk : W p l e R s m args below meth c H locs cells slots Q (F0 m (pc + 3) ls [])) : W p l e R s m args below meth c H locs cells slots Q (F0 m pc ls [.ref a]) := by
  refine W.objInit X.1 X.2.1 X.2.2.2.1 (X.2.2.2.2.1 _ hlink) (X.2.2.2.2.1 _ wq_1_9) (X.2.2.2.2.1 _ wq_1_10) rfl (hl.trans X.2.2.1.symm) rfl hdg hR.1 ?_ kk
  refine Nat.le_trans ?_ hR.2
  show 2 * _ + (([] : List Value).map fun v => v.category).sum + 12 ≤ 28
  exact Nat.le_of_ble_eq_true rfl
/-- a constructor's contract: what is made lies behind its own cell -/
def MetK (l : Launch) (g : gT) (y : MethodName) (b : ByteArray) (nL : Nat) (fr lo mc ms : Nat) (Ex : State → Prop) (h0 : Nat) (e0 : va_E) (As : List Value) (post : va_W → Prop) : Prop :=
  ∀ sz, Met l y (.code y b nL none :: wsL_law) { frames := fr, cells := mc, slots := ms, locals := lo } (va_Pc (.ref h0 :: As) (fun U => U.heap.size = sz ∧ va_P g.1 vwCl [(h0, e0)] U.heap ∧ va_K g.1 vwCl (TY g) U ∧ va_D (fun _ => True) [(h0, e0)] ∧ Ex U)) (va_Qv post (fun w1 U => va_P g.1 vwCl w1 U.heap ∧ va_K g.1 vwCl (TY g) U ∧ va_D (va_A [(h0, e0)] sz) w1) (va_A [(h0, e0)] sz)) mc ms (va_A [(h0, e0)] sz)
theorem app_map (w1 w2 : va_W) : (List.range w1.length).map (fun i => (w1 ++ w2)[i]?) = w1.map some := by
  apply List.ext_getElem?
  intro k
  rw [List.getElem?_map, List.getElem?_map]
  by_cases hk : k < w1.length
  · rw [List.getElem?_range hk, Option.map_some, List.getElem?_append_left hk, List.getElem?_eq_getElem hk]; rfl
  · rw [List.getElem?_eq_none_iff.mpr (by rw [List.length_range]; omega), List.getElem?_eq_none_iff.mpr (by omega)]; rfl
theorem nd_of : ∀ l : List Nat, l.Nodup → va_nd l = true
  | [], _ => rfl
  | a :: l, h => by
    have h2 := List.nodup_cons.mp h
    show (decide (a ∉ l) && va_nd l) = true
    rw [decide_eq_true h2.1, nd_of l h2.2]
    rfl
theorem last_e (ws : va_W) (x : Nat × va_E) : [ws.length].map (fun i => (ws ++ [x])[i]?) = [x].map some := by
  show [(ws ++ [x])[ws.length]?] = [some x]
  rw [List.getElem?_append_right (Nat.le_refl _), Nat.sub_self]
  rfl
theorem last_f (ws : va_W) (x : Nat × va_E) : [ws.length].filterMap (fun i => (ws ++ [x])[i]?) = [x] := by
  have h : (ws ++ [x])[ws.length]? = some x := by
    rw [List.getElem?_append_right (Nat.le_refl _), Nat.sub_self]
    rfl
  rw [List.filterMap_cons]
  simp only [h]
  rfl
theorem n_call {idx nA : Nat} {fr lo mc ms nM h0 : Nat} {y : MethodName} {b : ByteArray} {As : List Value} {Ex : State → Prop} {e0 : va_E} {post : va_W → Prop} (X : Cx g p s m args c cc own nL) (hl : ls.size = nL) (hw : Wn g A (ws ++ [(h0, e0)]) s H locs) (M : MetK l g y b nM fr lo mc ms Ex h0 e0 As post) (hEb : ∀ u U : State, u.vm = U.vm → Ex u → Ex U) (hE : ∀ U : State, s.WarmedH U.vm → Ex U)
    (hwd : Cond.methodLink own idx y ∈ wsL_law ∧ Cond.instanceMethod y ∈ wsL_law ∧ Cond.initialized y.cls ∈ wsL_law ∧ Cond.code y b nM none ∈ wsL_law) (hy1 : y.name = "<init>") (hy : y.cls ≠ "java/lang/invoke/MethodHandle" ∧ y.cls ≠ "java/lang/invoke/VarHandle" ∧ (parseMethodDescriptor y.desc).map (fun d => d.parameters.length) = some nA) (hn : As.length = nA) (hR : fr + 1 ≤ R.frames ∧ 8 + (nM + 11) + lo ≤ R.locals) (hcs : cells + mc ≤ R.cells ∧ slots + ms ≤ R.slots) (hst : (rest.map fun v => v.category).sum ≤ 8) (hdg : decode cc pc = .ok (.invokespecial idx, 3))
    (kk : ∀ (w1 : va_W) (H : Heap) (locs : List Loc), post w1 → Wn g A (ws ++ w1) s H locs → W p l e R s m args below meth c H locs (cells + mc) (slots + ms) Q (F0 m (pc + 3) ls rest)) : W p l e R s m args below meth c H locs cells slots Q (F0 m pc ls (As.reverse ++ .ref h0 :: rest)) := by
  obtain ⟨hP, hD, hS, hA⟩ := hw
  have hPc : va_P g.1 vwCl [(h0, e0)] H := hP.sub [ws.length] (last_f ws (h0, e0))
  have hDc : va_D A [(h0, e0)] := hD.sub [ws.length] rfl (last_e ws (h0, e0))
  have hFc := va_free (wc := [(h0, e0)]) hD hS hA [ws.length] (last_e ws (h0, e0))
  refine va_callv (va_runI (As := As) (rest := rest) ⟨X.1, X.2.1, X.2.2.1, X.2.2.2.1, X.2.2.2.2.1⟩ (M H.size) (cwI nA X.2.2.2.2.1 (wb_GoodIn hwd.2.2.2) rfl rfl rfl (X.2.2.2.2.1 _ hwd.2.2.1) (X.2.2.2.2.1 _ hwd.1) (X.2.2.2.2.1 _ hwd.2.1) hy1 hy hR) ⟨fun a U gg mk q => ?_, fun U hU hW => ⟨rfl, by rw [hU], by rw [hU]; exact hPc, va_K.moved hW.alike X.2.2.2.2.2, hDc.weaken (fun _ _ _ _ => trivial), hE U hW⟩⟩ rfl hn hl rfl (lv_room hst) hdg hcs) hS (fun q _ h => hFc q h) hFc (fun w1 t H1 locs1 ht hvm hw1 hB hz1 hk1 hS1 => ?_)
  · obtain ⟨q0, q1, qP, qK, qD, qE⟩ := q
    exact ⟨q0, q1, qP, va_K.moved (u := U) (U := U.calling gg mk a) (Vm.Alike.refl U.vm) qK, qD, hEb U (U.calling gg mk a) rfl qE⟩
  · obtain ⟨hP1, hK1, hD1⟩ := hB
    rw [ht] at hP1
    obtain ⟨hP2, hD2⟩ := va_join (wr := ws) (w1 := w1) hP hD [ws.length] (List.range ws.length) (last_e ws (h0, e0)) (app_map ws [(h0, e0)]) (nd_of _ List.nodup_range) (fun i hi hj => by
      have h1 := List.mem_range.mp hi
      have h2 := List.mem_singleton.mp hj
      omega) hk1 hFc hP1 hD1
    exact kk w1 H1 locs1 hw1 ⟨hP2, hD2, hS1, hA⟩
theorem n_callN {host : String} {idx nA : Nat} {fr lo mc ms nM h0 : Nat} {y : MethodName} {b : ByteArray} {As : List Value} {Ex : State → Prop} {e0 : va_E} {post : va_W → Prop} (X : Cx g p s m args c cc own nL) (hl : ls.size = nL) (hw : Wn g A (ws ++ [(h0, e0)]) s H locs) (M : MetK l g y b nM fr lo mc ms Ex h0 e0 As post) (hEb : ∀ u U : State, u.vm = U.vm → Ex u → Ex U) (hE : ∀ U : State, s.WarmedH U.vm → Ex U)
    (hN : va_Nw (.methodLinkNest own idx y host) s) (hwd : Cond.instanceMethod y ∈ wsL_law ∧ Cond.initialized y.cls ∈ wsL_law ∧ Cond.code y b nM none ∈ wsL_law) (hy1 : y.name = "<init>") (hy : y.cls ≠ "java/lang/invoke/MethodHandle" ∧ y.cls ≠ "java/lang/invoke/VarHandle" ∧ (parseMethodDescriptor y.desc).map (fun d => d.parameters.length) = some nA) (hn : As.length = nA) (hR : fr + 1 ≤ R.frames ∧ 8 + (nM + 11) + lo ≤ R.locals) (hcs : cells + mc ≤ R.cells ∧ slots + ms ≤ R.slots) (hst : (rest.map fun v => v.category).sum ≤ 8) (hdg : decode cc pc = .ok (.invokespecial idx, 3))
    (kk : ∀ (w1 : va_W) (H : Heap) (locs : List Loc), post w1 → Wn g A (ws ++ w1) s H locs → W p l e R s m args below meth c H locs (cells + mc) (slots + ms) Q (F0 m (pc + 3) ls rest)) : W p l e R s m args below meth c H locs cells slots Q (F0 m pc ls (As.reverse ++ .ref h0 :: rest)) := by
  obtain ⟨hP, hD, hS, hA⟩ := hw
  have hPc : va_P g.1 vwCl [(h0, e0)] H := hP.sub [ws.length] (last_f ws (h0, e0))
  have hDc : va_D A [(h0, e0)] := hD.sub [ws.length] rfl (last_e ws (h0, e0))
  have hFc := va_free (wc := [(h0, e0)]) hD hS hA [ws.length] (last_e ws (h0, e0))
  refine va_callv (va_runIN (As := As) (rest := rest) ⟨X.1, X.2.1, X.2.2.1, X.2.2.2.1, X.2.2.2.2.1⟩ (M H.size) ⟨va_cnB nA X.2.2.2.2.1 (wb_GoodIn hwd.2.2) rfl rfl rfl hN (X.2.2.2.2.1 _ hwd.2.1) hy hR, hy1, X.2.2.2.2.1 _ hwd.1⟩ ⟨fun a U gg mk q => ?_, fun U hU hW => ⟨rfl, by rw [hU], by rw [hU]; exact hPc, va_K.moved hW.alike X.2.2.2.2.2, hDc.weaken (fun _ _ _ _ => trivial), hE U hW⟩⟩ rfl hn hl rfl (lv_room hst) hdg hcs) hS (fun q _ h => hFc q h) hFc (fun w1 t H1 locs1 ht hvm hw1 hB hz1 hk1 hS1 => ?_)
  · obtain ⟨q0, q1, qP, qK, qD, qE⟩ := q
    exact ⟨q0, q1, qP, va_K.moved (u := U) (U := U.calling gg mk a) (Vm.Alike.refl U.vm) qK, qD, hEb U (U.calling gg mk a) rfl qE⟩
  · obtain ⟨hP1, hK1, hD1⟩ := hB
    rw [ht] at hP1
    obtain ⟨hP2, hD2⟩ := va_join (wr := ws) (w1 := w1) hP hD [ws.length] (List.range ws.length) (last_e ws (h0, e0)) (app_map ws [(h0, e0)]) (nd_of _ List.nodup_range) (fun i hi hj => by
      have h1 := List.mem_range.mp hi
      have h2 := List.mem_singleton.mp hj
      omega) hk1 hFc hP1 hD1
    exact kk w1 H1 locs1 hw1 ⟨hP2, hD2, hS1, hA⟩
end WN
/-- a constructor's contract out of the walk of its body -/
theorem MetK.ofX {l : Launch} {g : gT} {y : MethodName} {b : ByteArray} {nL fr lo mc ms h0 : Nat} {Ex : State → Prop} {e0 : va_E} {As : List Value} {post : va_W → Prop} (hy : plainName y.cls = true) (hy1 : y.name = "<init>") (hfit : (lg_sl (.ref h0 :: As)).length ≤ nL)
    (body : ∀ (p : Program) (e : Env) (s : State) (m : MethodId) (below : List Frame) (meth : Method) (c : Code) (AV : Array Value) (Q : State → Prop) (A : Nat → Prop), Cx g p s m AV c b y.cls nL → meth.name = "<init>" → Ex s → (∀ (w1 : va_W) (H : Heap) (locs : List Loc) (pc cells slots : Nat) (ls : Array Slot), post w1 → Wn g A w1 s H locs → cells ≤ mc → slots ≤ ms → decode b pc = .ok (.return_, 1) → W p l e { frames := fr, cells := mc, slots := ms, locals := lo } s m AV below meth c H locs cells slots Q (F0 m pc ls [])) → ∀ ls : Array Slot, Wn g A [(h0, e0)] s s.heap [] → lv_has ls nL (lv_args 0 (.ref h0 :: As)) → W p l e { frames := fr, cells := mc, slots := ms, locals := lo } s m AV below meth c s.heap [] 0 0 Q (F0 m 0 ls [])) : MetK l g y b nL fr lo mc ms Ex h0 e0 As post := by
  intro sz
  refine Met.ofW (cc := b) (maxL := nL) (ret := none) hy rfl ?_
  intro p e s m args below meth c s₁ B hml hv
  obtain ⟨rfl, hsz, hP, hK, hD0, hE⟩ := hv
  have hts := atoms_spec (ws := .code y b nL none :: wsL_law) B.pre
  subst hsz
  have hD := hD0.self (sz := s.heap.size)
  have hl := lv_entry (.ref h0 :: As) (n := nL) hfit
  rw [lg_entry_eq]
  have X : Cx g p s m (Value.ref h0 :: As).toArray c b y.cls nL := ⟨B.exec, B.bytes, hml, findClass_of_methodNamed B.named, fun w hw => hts w (List.mem_cons_of_mem _ hw), hK⟩
  have hin : meth.name = "<init>" := (name_of_methodNamed B.named B.method).1.trans hy1
  refine body p e s m below meth c _ _ (va_A [(h0, e0)] s.heap.size) X hin hE (fun w1 H locs pc cells slots ls hpost hw hcl hsl hd => ?_) _ ⟨hP, hD, va_S.rf, fun q h => Or.inr h⟩ hl
  refine W.widen (k := mc) (n := ms) hcl hsl ?_
  exact W.vret X.1 X.2.1 B.returns (fun t ht hW => ⟨⟨w1, rfl, hpost, by rw [ht]; exact hw.1, va_K.moved hW.alike X.2.2.2.2.2, hw.2.1⟩, hw.2.2.1.F ht⟩) hw.2.2.1.2.2 hd B.notSynchronized
