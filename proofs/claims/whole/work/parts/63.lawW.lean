/-! the law's world: two objects with all that is theirs, apart -/
def AL (s : State) : Nat → Prop := fun q => s.heap.size ≤ q
def LW (g : gT) (n : Nat) (h : Nat → Nat) (cel : Nat → va_E) (n2 : Nat) (h2 : Nat → Nat) (cel2 : Nat → va_E) (s : State) (H : Heap) (locs : List Loc) : Prop :=
  va_P g.1 vwCl (WL n h cel) H ∧ va_P g.1 vwCl (WL n2 h2 cel2) H ∧ va_D (AL s) (WL n h cel) ∧ va_D (AL s) (WL n2 h2 cel2) ∧ (∀ i j, i < n → j < n2 → h i ≠ h2 j) ∧ va_S (AL s) s.heap H locs ∧ SW g (AL s) s s.heap
theorem LW.swap {g : gT} {n : Nat} {h : Nat → Nat} {cel : Nat → va_E} {n2 : Nat} {h2 : Nat → Nat} {cel2 : Nat → va_E} {s : State} {H : Heap} {locs : List Loc} (hw : LW g n h cel n2 h2 cel2 s H locs) : LW g n2 h2 cel2 n h cel s H locs :=
  ⟨hw.2.1, hw.1, hw.2.2.2.1, hw.2.2.1, fun i j hi hj q => hw.2.2.2.2.1 j i hj hi q.symm, hw.2.2.2.2.2⟩
theorem WL_at {n : Nat} {h : Nat → Nat} {c : Nat → va_E} {A : Nat → Prop} (hD : va_D A (WL n h c)) {k : Nat} (hk : k < n) : A (h k) := hD.2 k (h k, c k) (WL_get hk)
theorem WL_D2 {n : Nat} {h : Nat → Nat} {c c' : Nat → va_E} {A B : Nat → Prop} (hD : va_D A (WL n h c)) (hD' : va_D B (WL n h c')) : va_D A (WL n h c') := ⟨hD'.1, fun k q hk => by
  obtain ⟨h1, rfl⟩ := WL_of hk
  exact WL_at hD h1⟩
section LC
variable {p : Program} {l : Launch} {e : Env} {R : Room} {s : State} {m : MethodId} {args : Array Value} {below : List Frame} {meth : Method} {c : Code} {H : Heap} {locs : List Loc} {Q : State → Prop} {cells slots : Nat}
variable {cc : ByteArray} {pc : Nat} {ls : Array Slot} {rest : List Value} {own : String} {nL : Nat} {g : gT} {n : Nat} {h : Nat → Nat} {cel cel' : Nat → va_E} {n2 : Nat} {h2 : Nat → Nat} {cel2 : Nat → va_E}
theorem LW.aw (hw : LW g n h cel n2 h2 cel2 s H locs) : ∀ q : Nat, AW n h H.size q → AL s q := fun q hq => by
  rcases hq with ⟨k, hk, rfl⟩ | hq
  · exact WL_at hw.2.2.1 hk
  · exact Nat.le_trans hw.2.2.2.2.2.1.1 hq
theorem LW.pre (X : Cx g p s m args c cc own nL) (hw : LW g n h cel n2 h2 cel2 s H locs) {U : State} (hU : U.heap = H) (hW : s.WarmedH U.vm) : PreW g n h cel H.size U :=
  ⟨by rw [hU], by rw [hU]; exact hw.1, va_K.moved hW.alike X.2.2.2.2.2, hw.2.2.1.weaken (fun _ _ _ _ => trivial), by rw [hU]; exact (((hw.2.2.2.2.2.2.kept hw.2.2.2.2.2.1.2.1).narrow hw.aw).moved hW)⟩
theorem LW.post {U : State} {H1 : Heap} {locs1 : List Loc} (hw : LW g n h cel n2 h2 cel2 s H locs) (hB : PostW g n h cel' () U) (ht : U.heap = H1) (hk1 : ∀ q : Nat, q < H.size → ¬ AW n h H.size q → H1[q]? = H[q]?) (hS : va_S (AL s) s.heap H1 locs1) : LW g n h cel' n2 h2 cel2 s H1 locs1 := by
  subst ht
  refine ⟨hB.1, hw.2.1.kept (fun k x hx => ?_), WL_D2 hw.2.2.1 hB.2.2, hw.2.2.2.1, hw.2.2.2.2.1, hS, hw.2.2.2.2.2.2⟩
  have hl := (hw.2.1 k x hx).lt
  obtain ⟨h1, rfl⟩ := WL_of hx
  refine hk1 _ hl (fun q => ?_)
  rcases q with ⟨i, hi, q⟩ | q
  · exact hw.2.2.2.2.1 i k hi h1 q.symm
  · exact absurd hl (Nat.not_lt.mpr q)
theorem L_Vi {C : String} {index k ci nA : Nat} {fs : List Value} {T : u_T} {N fr lo nM : Nat} {y : MethodName} {b : ByteArray} {rt : Option FieldType} {As : List Value} {r : Int32} (X : Cx g p s m args c cc own nL) (hl : ls.size = nL) (hw : LW g n h cel n2 h2 cel2 s H locs) (M : MetI l g y b nM rt fr lo n h cel cel' (.ref (h k) :: As) r)
    (hk : k < n) (he : cel k = .inr (ci, fs)) (hc : vwCl[ci]? = some (C, T, N)) (hwd : Cond.methodLink own index y ∈ wsL_law ∧ Cond.instanceMethod y ∈ wsL_law ∧ Cond.selects C y y ∈ wsL_law ∧ Cond.initialized C ∈ wsL_law ∧ Cond.code y b nM rt ∈ wsL_law)
    (hy : y.cls = C ∧ y.cls ≠ "java/lang/invoke/MethodHandle" ∧ y.cls ≠ "java/lang/invoke/VarHandle" ∧ (parseMethodDescriptor y.desc).map (fun d => d.parameters.length) = some nA) (hn : As.length = nA) (hR : fr + 1 ≤ R.frames ∧ 8 + (nM + 11) + lo ≤ R.locals) (hst : (rest.map fun v => v.category).sum ≤ 8) (hcs : cells ≤ R.cells ∧ slots ≤ R.slots) (hdg : decode cc pc = .ok (.invokevirtual index, 3))
    (kk : ∀ (H : Heap) (locs : List Loc), LW g n h cel' n2 h2 cel2 s H locs → W p l e R s m args below meth c H locs cells slots Q (F0 m (pc + 3) ls (.int r :: rest))) : W p l e R s m args below meth c H locs cells slots Q (F0 m pc ls (As.reverse ++ .ref (h k) :: rest)) := by
  refine va_calli (mc := 0) (ms := 0) (va_runV (As := As) (rest := rest) ⟨X.1, X.2.1, X.2.2.1, X.2.2.2.1, X.2.2.2.2.1⟩ (M H.size) (cwV nA X.2.2.2.2.1 (gi_V hwd.1 hwd.2.1 hwd.2.2.1 hwd.2.2.2.1 hwd.2.2.2.2) rfl rfl rfl hy hR) ⟨PreW_blind, va_recv X.2.2.2.2.2 hw.1 hc (WL_get' hk he), fun U hU hW => ⟨rfl, hw.pre X hU hW⟩⟩ rfl hn hl rfl (lv_room hst) hdg hcs) hw.2.2.2.2.2.1 (fun q _ hq => hw.aw q hq) hw.aw (fun r1 u t H1 locs1 ht hvm hp hB hz1 hk1 hS => ?_)
  subst hp
  exact kk H1 locs1 (hw.post hB ht hk1 hS)
theorem L_Vl {C : String} {index k ci nA : Nat} {fs : List Value} {T : u_T} {N fr lo nM : Nat} {y : MethodName} {b : ByteArray} {rt : Option FieldType} {As : List Value} {r : Int64} (X : Cx g p s m args c cc own nL) (hl : ls.size = nL) (hw : LW g n h cel n2 h2 cel2 s H locs) (M : MetL l g y b nM rt fr lo n h cel cel' (.ref (h k) :: As) r)
    (hk : k < n) (he : cel k = .inr (ci, fs)) (hc : vwCl[ci]? = some (C, T, N)) (hwd : Cond.methodLink own index y ∈ wsL_law ∧ Cond.instanceMethod y ∈ wsL_law ∧ Cond.selects C y y ∈ wsL_law ∧ Cond.initialized C ∈ wsL_law ∧ Cond.code y b nM rt ∈ wsL_law)
    (hy : y.cls = C ∧ y.cls ≠ "java/lang/invoke/MethodHandle" ∧ y.cls ≠ "java/lang/invoke/VarHandle" ∧ (parseMethodDescriptor y.desc).map (fun d => d.parameters.length) = some nA) (hn : As.length = nA) (hR : fr + 1 ≤ R.frames ∧ 8 + (nM + 11) + lo ≤ R.locals) (hst : (rest.map fun v => v.category).sum ≤ 8) (hcs : cells ≤ R.cells ∧ slots ≤ R.slots) (hdg : decode cc pc = .ok (.invokevirtual index, 3))
    (kk : ∀ (H : Heap) (locs : List Loc), LW g n h cel' n2 h2 cel2 s H locs → W p l e R s m args below meth c H locs cells slots Q (F0 m (pc + 3) ls (.long r :: rest))) : W p l e R s m args below meth c H locs cells slots Q (F0 m pc ls (As.reverse ++ .ref (h k) :: rest)) := by
  refine va_calll (mc := 0) (ms := 0) (va_runV (As := As) (rest := rest) ⟨X.1, X.2.1, X.2.2.1, X.2.2.2.1, X.2.2.2.2.1⟩ (M H.size) (cwV nA X.2.2.2.2.1 (gi_V hwd.1 hwd.2.1 hwd.2.2.1 hwd.2.2.2.1 hwd.2.2.2.2) rfl rfl rfl hy hR) ⟨PreW_blind, va_recv X.2.2.2.2.2 hw.1 hc (WL_get' hk he), fun U hU hW => ⟨rfl, hw.pre X hU hW⟩⟩ rfl hn hl rfl (lv_room hst) hdg hcs) hw.2.2.2.2.2.1 (fun q _ hq => hw.aw q hq) hw.aw (fun r1 u t H1 locs1 ht hvm hp hB hz1 hk1 hS => ?_)
  subst hp
  exact kk H1 locs1 (hw.post hB ht hk1 hS)
/-- an int of the script on the stack -/
theorem l_arg {bb L : Nat} {xs : Nat → Int32} {i v : Int32} (X : Cx g p s m args c cc own nL) (hw : LW g n h cel n2 h2 cel2 s H locs) (hX : va_X bb L xs s s.heap) (hbl : bb < s.heap.size) {lv : List (Nat × Value)} (h0 : ls[0]? = some (.val (.ref bb))) (h3 : ls[3]? = some (.val (.int i))) (hin : vp_in (i + v) L) (d0 : decode cc pc = .ok (.aload_n 0, 1)) (d1 : decode cc (pc + 1) = .ok (.iload_n 3, 1)) {o : Int} (d2 : decode cc (pc + 1 + 1) = .ok (.iconst o, 1)) (ho : Int32.ofInt o = v) (d3 : decode cc (pc + 1 + 1 + 1) = .ok (.iadd, 1)) (d4 : decode cc (pc + 1 + 1 + 1 + 1) = .ok (.iaload, 1))
    (kk : W p l e R s m args below meth c H locs cells slots Q (F0 m (pc + 1 + 1 + 1 + 1 + 1) ls (.int (xs (i + v).toNatClampNeg) :: rest))) : W p l e R s m args below meth c H locs cells slots Q (F0 m pc ls rest) := by
  refine lv_aload_n X.1 X.2.1 d0 rfl h0 ?_
  refine lv_iload_n X.1 X.2.1 d1 rfl h3 ?_
  refine lv_iconst X.1 X.2.1 d2 ho ?_
  refine lv_iadd X.1 X.2.1 d3 ?_
  exact va_sld X.1 X.2.1 hX hbl (Nat.not_le.mpr hbl) hw.2.2.2.2.2.1 hin d4 kk
end LC
