/-! the law's world: the 79 cells of the class and the row of the law's own -/
def cW (g : gT) (h : Nat → Nat) (u : CS) (v : Nat → Int32) : Nat → va_E := fun k => if k < 79 then cC g h u k else .inl (g.2.1, 54, .inl v)
theorem cW_0 (g : gT) (h : Nat → Nat) (u : CS) (v : Nat → Int32) : ∀ k, k < 79 → cW g h u v k = cC g h u k := fun k hk => if_pos hk
theorem cW_2 (g : gT) (h : Nat → Nat) (u u' : CS) (v : Nat → Int32) : ∀ k, 79 ≤ k → k < 80 → cW g h u' v k = cW g h u v k := fun k hk _ => by unfold cW; rw [if_neg (by omega), if_neg (by omega)]
theorem cW_79 (g : gT) (h : Nat → Nat) (u : CS) (v : Nat → Int32) : cW g h u v 79 = .inl (g.2.1, 54, .inl v) := if_neg (by decide)
theorem cW_up (g : gT) (h : Nat → Nat) (u : CS) (v v' : Nat → Int32) : ∀ j, j ≠ 79 → j < 80 → cW g h u v' j = cW g h u v j := fun j hj h2 => by unfold cW; rw [if_pos (by omega), if_pos (by omega)]
theorem WL_Dc {N : Nat} {h : Nat → Nat} {c c' : Nat → va_E} {A : Nat → Prop} (hD : va_D A (WL N h c)) : va_D A (WL N h c') := by
  refine ⟨fun i j p q hp hq e => ?_, fun k q hk => ?_⟩
  · obtain ⟨h1, rfl⟩ := WL_of hp
    obtain ⟨h2, rfl⟩ := WL_of hq
    exact hD.1 i j (h i, c i) (h j, c j) (WL_get h1) (WL_get h2) e
  · obtain ⟨h1, rfl⟩ := WL_of hk
    exact hD.2 k (h k, c k) (WL_get h1)
theorem WL_setN {n : Nat} {h : Nat → Nat} {c c' : Nat → va_E} {k : Nat} {e : va_E} (hk : k < n) (he : c' k = e) (ho : ∀ j, j ≠ k → j < n → c' j = c j) : (WL n h c).set k (h k, e) = WL n h c' := by
  apply List.ext_getElem?
  intro j
  rw [List.getElem?_set]
  by_cases hj : k = j
  · subst hj
    rw [if_pos rfl, WL_len, if_pos hk, WL_get hk, he]
  · rw [if_neg hj]
    by_cases hjn : j < n
    · rw [WL_get hjn, WL_get hjn, ho j (fun q => hj q.symm) hjn]
    · rw [List.getElem?_eq_none_iff.mpr (by rw [WL_len]; omega), List.getElem?_eq_none_iff.mpr (by rw [WL_len]; omega)]
section VL
variable {p : Program} {l : Launch} {e : Env} {R : Room} {s : State} {m : MethodId} {args : Array Value} {below : List Frame} {meth : Method} {c : Code} {H : Heap} {locs : List Loc} {Q : State → Prop} {cells slots : Nat}
variable {cc : ByteArray} {pc : Nat} {ls : Array Slot} {rest : List Value} {own : String} {nL : Nat} {g : gT} {N n : Nat} {h : Nat → Nat} {cel cel' c0 c1 : Nat → va_E}
theorem kE_pre (X : Cx g p s m args c cc own nL) (hw : Wd g N h cel s H locs) (hn : n ≤ N) (h0 : ∀ k, k < n → cel k = c0 k) {U : State} (hU : U.heap = H) (hW : s.WarmedH U.vm) : PreW g n h c0 H.size U := by
  refine ⟨by rw [hU], fun k q hq => ?_, va_K.moved hW.alike X.2.2.2.2.2, ⟨fun i j q q' hq hq' e => ?_, fun _ _ _ => trivial⟩, trivial⟩
  · obtain ⟨h1, rfl⟩ := WL_of hq
    rw [hU, ← h0 k h1]
    exact hw.1 k (h k, cel k) (WL_get (Nat.lt_of_lt_of_le h1 hn))
  · obtain ⟨h1, rfl⟩ := WL_of hq
    obtain ⟨h2, rfl⟩ := WL_of hq'
    exact hw.2.1.1 i j (h i, cel i) (h j, cel j) (WL_get (Nat.lt_of_lt_of_le h1 hn)) (WL_get (Nat.lt_of_lt_of_le h2 hn)) e
theorem kE_aw (hw : Wd g N h cel s H locs) (hn : n ≤ N) : ∀ q : Nat, AW n h H.size q → AW N h s.heap.size q := fun q hq => by
  rcases hq with ⟨k, hk, rfl⟩ | hq
  · exact Or.inl ⟨k, Nat.lt_of_lt_of_le hk hn, rfl⟩
  · exact Or.inr (Nat.le_trans hw.2.2.1.1 hq)
theorem kE_post {U : State} {H1 : Heap} {locs1 : List Loc} (hw : Wd g N h cel s H locs) (hn : n ≤ N) (h1 : ∀ k, k < n → cel' k = c1 k) (h2 : ∀ k, n ≤ k → k < N → cel' k = cel k) (hB : PostW g n h c1 () U) (ht : U.heap = H1) (hk1 : ∀ q : Nat, q < H.size → ¬ AW n h H.size q → H1[q]? = H[q]?) (hS : va_S (AW N h s.heap.size) s.heap H1 locs1) : Wd g N h cel' s H1 locs1 := by
  subst ht
  refine ⟨fun k q hq => ?_, WL_Dc hw.2.1, hS, trivial⟩
  obtain ⟨hk, rfl⟩ := WL_of hq
  rcases Nat.lt_or_ge k n with hkn | hkn
  · rw [h1 k hkn]
    exact hB.1 k (h k, c1 k) (WL_get hkn)
  · rw [h2 k hkn hk]
    have h3 := hw.1 k (h k, cel k) (WL_get hk)
    refine h3.kept (hk1 _ h3.lt (fun q => ?_))
    rcases q with ⟨i, hi, q⟩ | q
    · have := hw.2.1.1 k i (h k, cel k) (h i, cel i) (WL_get hk) (WL_get (Nat.lt_of_lt_of_le hi hn)) q
      omega
    · exact absurd h3.lt (Nat.not_lt.mpr q)
theorem kE_Vi {C : String} {index k ci nA : Nat} {fs : List Value} {T : u_T} {NN fr lo nM : Nat} {y : MethodName} {b : ByteArray} {rt : Option FieldType} {As : List Value} {r : Int32} (X : Cx g p s m args c cc own nL) (hl : ls.size = nL) (hw : Wd g N h cel s H locs) (M : MetI l g y b nM rt fr lo n h c0 c1 (.ref (h k) :: As) r) (hnN : n ≤ N) (h0 : ∀ k, k < n → cel k = c0 k) (h1 : ∀ k, k < n → cel' k = c1 k) (h2 : ∀ k, n ≤ k → k < N → cel' k = cel k)
    (hk : k < n) (he : c0 k = .inr (ci, fs)) (hc : vwCl[ci]? = some (C, T, NN)) (hwd : Cond.methodLink own index y ∈ wsL_law ∧ Cond.instanceMethod y ∈ wsL_law ∧ Cond.selects C y y ∈ wsL_law ∧ Cond.initialized C ∈ wsL_law ∧ Cond.code y b nM rt ∈ wsL_law)
    (hy : y.cls = C ∧ y.cls ≠ "java/lang/invoke/MethodHandle" ∧ y.cls ≠ "java/lang/invoke/VarHandle" ∧ (parseMethodDescriptor y.desc).map (fun d => d.parameters.length) = some nA) (hn : As.length = nA) (hR : fr + 1 ≤ R.frames ∧ 8 + (nM + 11) + lo ≤ R.locals) (hst : (rest.map fun v => v.category).sum ≤ 8) (hcs : cells ≤ R.cells ∧ slots ≤ R.slots) (hdg : decode cc pc = .ok (.invokevirtual index, 3))
    (kk : ∀ (H : Heap) (locs : List Loc), Wd g N h cel' s H locs → W p l e R s m args below meth c H locs cells slots Q (F0 m (pc + 3) ls (.int r :: rest))) : W p l e R s m args below meth c H locs cells slots Q (F0 m pc ls (As.reverse ++ .ref (h k) :: rest)) := by
  refine va_calli (mc := 0) (ms := 0) (va_runV (As := As) (rest := rest) ⟨X.1, X.2.1, X.2.2.1, X.2.2.2.1, X.2.2.2.2.1⟩ (M H.size) (cwV nA X.2.2.2.2.1 (gi_V hwd.1 hwd.2.1 hwd.2.2.1 hwd.2.2.2.1 hwd.2.2.2.2) rfl rfl rfl hy hR) ⟨PreW_blind, va_recv X.2.2.2.2.2 hw.1 hc (WL_get' (Nat.lt_of_lt_of_le hk hnN) ((h0 k hk).trans he)), fun U hU hW => ⟨rfl, kE_pre X hw hnN h0 hU hW⟩⟩ rfl hn hl rfl (lv_room hst) hdg hcs) hw.2.2.1 (fun q _ hq => kE_aw hw hnN q hq) (kE_aw hw hnN) (fun r1 u t H1 locs1 ht hvm hp hB hz1 hk1 hS => ?_)
  subst hp
  exact kk H1 locs1 (kE_post hw hnN h1 h2 hB ht hk1 hS)
theorem kE_Si {index nA : Nat} {fr lo nM : Nat} {y : MethodName} {b : ByteArray} {rt : Option FieldType} {As : List Value} {r : Int32} (X : Cx g p s m args c cc own nL) (hl : ls.size = nL) (hw : Wd g N h cel s H locs) (M : MetI l g y b nM rt fr lo n h c0 c1 As r) (hnN : n ≤ N) (h0 : ∀ k, k < n → cel k = c0 k) (h1 : ∀ k, k < n → cel' k = c1 k) (h2 : ∀ k, n ≤ k → k < N → cel' k = cel k)
    (hwd : Cond.methodLink own index y ∈ wsL_law ∧ Cond.static y ∈ wsL_law ∧ Cond.initialized y.cls ∈ wsL_law ∧ Cond.code y b nM rt ∈ wsL_law)
    (hy : y.cls ≠ "java/lang/invoke/MethodHandle" ∧ y.cls ≠ "java/lang/invoke/VarHandle" ∧ (parseMethodDescriptor y.desc).map (fun d => d.parameters.length) = some nA) (hn : As.length = nA) (hR : fr + 1 ≤ R.frames ∧ 8 + (nM + 11) + lo ≤ R.locals) (hst : (rest.map fun v => v.category).sum ≤ 8) (hcs : cells ≤ R.cells ∧ slots ≤ R.slots) (hdg : decode cc pc = .ok (.invokestatic index, 3))
    (kk : ∀ (H : Heap) (locs : List Loc), Wd g N h cel' s H locs → W p l e R s m args below meth c H locs cells slots Q (F0 m (pc + 3) ls (.int r :: rest))) : W p l e R s m args below meth c H locs cells slots Q (F0 m pc ls (As.reverse ++ rest)) := by
  refine va_calli (mc := 0) (ms := 0) (va_runS (As := As) (rest := rest) ⟨X.1, X.2.1, X.2.2.1, X.2.2.2.1, X.2.2.2.2.1⟩ (M H.size) (va_cwS nA X.2.2.2.2.1 (gi_S hwd.1 hwd.2.1 hwd.2.2.1 hwd.2.2.2) rfl rfl rfl hy hR) ⟨PreW_blind, fun U hU hW => ⟨rfl, kE_pre X hw hnN h0 hU hW⟩⟩ rfl hn hl rfl (lv_room hst) hdg hcs) hw.2.2.1 (fun q _ hq => kE_aw hw hnN q hq) (kE_aw hw hnN) (fun r1 u t H1 locs1 ht hvm hp hB hz1 hk1 hS => ?_)
  subst hp
  exact kk H1 locs1 (kE_post hw hnN h1 h2 hB ht hk1 hS)
theorem kE_Vl {C : String} {index k ci nA : Nat} {fs : List Value} {T : u_T} {NN fr lo nM : Nat} {y : MethodName} {b : ByteArray} {rt : Option FieldType} {As : List Value} {r : Int64} (X : Cx g p s m args c cc own nL) (hl : ls.size = nL) (hw : Wd g N h cel s H locs) (M : MetL l g y b nM rt fr lo n h c0 c1 (.ref (h k) :: As) r) (hnN : n ≤ N) (h0 : ∀ k, k < n → cel k = c0 k) (h1 : ∀ k, k < n → cel' k = c1 k) (h2 : ∀ k, n ≤ k → k < N → cel' k = cel k)
    (hk : k < n) (he : c0 k = .inr (ci, fs)) (hc : vwCl[ci]? = some (C, T, NN)) (hwd : Cond.methodLink own index y ∈ wsL_law ∧ Cond.instanceMethod y ∈ wsL_law ∧ Cond.selects C y y ∈ wsL_law ∧ Cond.initialized C ∈ wsL_law ∧ Cond.code y b nM rt ∈ wsL_law)
    (hy : y.cls = C ∧ y.cls ≠ "java/lang/invoke/MethodHandle" ∧ y.cls ≠ "java/lang/invoke/VarHandle" ∧ (parseMethodDescriptor y.desc).map (fun d => d.parameters.length) = some nA) (hn : As.length = nA) (hR : fr + 1 ≤ R.frames ∧ 8 + (nM + 11) + lo ≤ R.locals) (hst : (rest.map fun v => v.category).sum ≤ 8) (hcs : cells ≤ R.cells ∧ slots ≤ R.slots) (hdg : decode cc pc = .ok (.invokevirtual index, 3))
    (kk : ∀ (H : Heap) (locs : List Loc), Wd g N h cel' s H locs → W p l e R s m args below meth c H locs cells slots Q (F0 m (pc + 3) ls (.long r :: rest))) : W p l e R s m args below meth c H locs cells slots Q (F0 m pc ls (As.reverse ++ .ref (h k) :: rest)) := by
  refine va_calll (mc := 0) (ms := 0) (va_runV (As := As) (rest := rest) ⟨X.1, X.2.1, X.2.2.1, X.2.2.2.1, X.2.2.2.2.1⟩ (M H.size) (cwV nA X.2.2.2.2.1 (gi_V hwd.1 hwd.2.1 hwd.2.2.1 hwd.2.2.2.1 hwd.2.2.2.2) rfl rfl rfl hy hR) ⟨PreW_blind, va_recv X.2.2.2.2.2 hw.1 hc (WL_get' (Nat.lt_of_lt_of_le hk hnN) ((h0 k hk).trans he)), fun U hU hW => ⟨rfl, kE_pre X hw hnN h0 hU hW⟩⟩ rfl hn hl rfl (lv_room hst) hdg hcs) hw.2.2.1 (fun q _ hq => kE_aw hw hnN q hq) (kE_aw hw hnN) (fun r1 u t H1 locs1 ht hvm hp hB hz1 hk1 hS => ?_)
  subst hp
  exact kk H1 locs1 (kE_post hw hnN h1 h2 hB ht hk1 hS)
theorem kE_Sl {index nA : Nat} {fr lo nM : Nat} {y : MethodName} {b : ByteArray} {rt : Option FieldType} {As : List Value} {r : Int64} (X : Cx g p s m args c cc own nL) (hl : ls.size = nL) (hw : Wd g N h cel s H locs) (M : MetL l g y b nM rt fr lo n h c0 c1 As r) (hnN : n ≤ N) (h0 : ∀ k, k < n → cel k = c0 k) (h1 : ∀ k, k < n → cel' k = c1 k) (h2 : ∀ k, n ≤ k → k < N → cel' k = cel k)
    (hwd : Cond.methodLink own index y ∈ wsL_law ∧ Cond.static y ∈ wsL_law ∧ Cond.initialized y.cls ∈ wsL_law ∧ Cond.code y b nM rt ∈ wsL_law)
    (hy : y.cls ≠ "java/lang/invoke/MethodHandle" ∧ y.cls ≠ "java/lang/invoke/VarHandle" ∧ (parseMethodDescriptor y.desc).map (fun d => d.parameters.length) = some nA) (hn : As.length = nA) (hR : fr + 1 ≤ R.frames ∧ 8 + (nM + 11) + lo ≤ R.locals) (hst : (rest.map fun v => v.category).sum ≤ 8) (hcs : cells ≤ R.cells ∧ slots ≤ R.slots) (hdg : decode cc pc = .ok (.invokestatic index, 3))
    (kk : ∀ (H : Heap) (locs : List Loc), Wd g N h cel' s H locs → W p l e R s m args below meth c H locs cells slots Q (F0 m (pc + 3) ls (.long r :: rest))) : W p l e R s m args below meth c H locs cells slots Q (F0 m pc ls (As.reverse ++ rest)) := by
  refine va_calll (mc := 0) (ms := 0) (va_runS (As := As) (rest := rest) ⟨X.1, X.2.1, X.2.2.1, X.2.2.2.1, X.2.2.2.2.1⟩ (M H.size) (va_cwS nA X.2.2.2.2.1 (gi_S hwd.1 hwd.2.1 hwd.2.2.1 hwd.2.2.2) rfl rfl rfl hy hR) ⟨PreW_blind, fun U hU hW => ⟨rfl, kE_pre X hw hnN h0 hU hW⟩⟩ rfl hn hl rfl (lv_room hst) hdg hcs) hw.2.2.1 (fun q _ hq => kE_aw hw hnN q hq) (kE_aw hw hnN) (fun r1 u t H1 locs1 ht hvm hp hB hz1 hk1 hS => ?_)
  subst hp
  exact kk H1 locs1 (kE_post hw hnN h1 h2 hB ht hk1 hS)
theorem lV {b : ST} {w : Nat → ST} {v : Nat → Int32} {i : Int32} (X : Cx g p s m args c cc own nL) (hw : Wd g 80 h (cW g h (b, w) v) s H locs) (hin : ¬ (i < 0 ∨ 54 ≤ i.toNatClampNeg)) (hdg : decode cc pc = .ok (.iaload, 1))
    (kk : W p l e R s m args below meth c H locs cells slots Q (F0 m (pc + 1) ls (.int (v i.toNatClampNeg) :: rest))) : W p l e R s m args below meth c H locs cells slots Q (F0 m pc ls (.int i :: .ref (h 79) :: rest)) :=
  va_iald X.1 X.2.1 X.2.2.2.2.2 hw.1 79 0 (WL_get' (by decide) (cW_79 g h (b, w) v)) rfl hin hdg kk
theorem sV {b : ST} {w : Nat → ST} {v : Nat → Int32} {i x : Int32} (X : Cx g p s m args c cc own nL) (hw : Wd g 80 h (cW g h (b, w) v) s H locs) (hin : ¬ (i < 0 ∨ 54 ≤ i.toNatClampNeg)) (hdg : decode cc pc = .ok (.iastore, 1))
    (kk : ∀ (H : Heap) (locs : List Loc), Wd g 80 h (cW g h (b, w) (upd v i.toNatClampNeg x)) s H locs → W p l e R s m args below meth c H locs cells slots Q (F0 m (pc + 1) ls rest)) : W p l e R s m args below meth c H locs cells slots Q (F0 m pc ls (.int x :: .int i :: .ref (h 79) :: rest)) :=
  va_iast X.1 X.2.1 X.2.2.2.2.2 hw.1 hw.2.1 hw.2.2.1 79 0 (WL_get' (by decide) (cW_79 g h (b, w) v)) rfl hin hdg (fun H1 locs1 hP hD hS => by
    rw [WL_setN (by decide) (cW_79 g h (b, w) (upd v i.toNatClampNeg x)) (cW_up g h (b, w) v _)] at hP hD
    exact kk H1 locs1 ⟨hP, hD, hS, trivial⟩)
/-- a contract of a method that reads the script -/
def PreX (g : gT) (n : Nat) (h : Nat → Nat) (cel : Nat → va_E) (sz bb L : Nat) (xs : Nat → Int32) : State → Prop := fun U => PreW g n h cel sz U ∧ va_X bb L xs U U.heap ∧ bb < sz ∧ ¬ AW n h sz bb
def MetXI (l : Launch) (g : gT) (y : MethodName) (b : ByteArray) (nL : Nat) (rt : Option FieldType) (fr lo : Nat) (n : Nat) (h : Nat → Nat) (cel cel' : Nat → va_E) (av : List Value) (r : Int32) (bb L : Nat) (xs : Nat → Int32) : Prop :=
  ∀ sz, Met l y (.code y b nL rt :: wsL_law) (rW fr lo) (va_Pc av (PreX g n h cel sz bb L xs)) (va_Qi (fun x (_ : Unit) => x = r) (PostW g n h cel') (AW n h sz)) 0 0 (AW n h sz)
theorem PreX_blind {sz bb L : Nat} {xs : Nat → Int32} {av : List Value} : FrameBlind (va_Pc av (PreX g n h c0 sz bb L xs)) := fun a U gg mk q => by
  obtain ⟨q0, ⟨q1, qP, qK, qD, qS⟩, qX, q2, q3⟩ := q
  exact ⟨q0, ⟨q1, qP, va_K.moved (u := U) (U := U.calling gg mk a) (Vm.Alike.refl U.vm) qK, qD, trivial⟩, va_X.moved (u := U) (U := U.calling gg mk a) (Vm.Alike.refl U.vm) qX, q2, q3⟩
theorem kX_Si {index nA : Nat} {fr lo nM : Nat} {y : MethodName} {b : ByteArray} {rt : Option FieldType} {As : List Value} {r : Int32} {bb L : Nat} {xs : Nat → Int32} (X : Cx g p s m args c cc own nL) (hX : va_X bb L xs s s.heap) (hbl : bb < s.heap.size) (hbA : ¬ AW n h s.heap.size bb) (hl : ls.size = nL) (hw : Wd g n h cel s H locs) (M : MetXI l g y b nM rt fr lo n h cel cel' As r bb L xs)
    (hwd : Cond.methodLink own index y ∈ wsL_law ∧ Cond.static y ∈ wsL_law ∧ Cond.initialized y.cls ∈ wsL_law ∧ Cond.code y b nM rt ∈ wsL_law)
    (hy : y.cls ≠ "java/lang/invoke/MethodHandle" ∧ y.cls ≠ "java/lang/invoke/VarHandle" ∧ (parseMethodDescriptor y.desc).map (fun d => d.parameters.length) = some nA) (hn : As.length = nA) (hR : fr + 1 ≤ R.frames ∧ 8 + (nM + 11) + lo ≤ R.locals) (hst : (rest.map fun v => v.category).sum ≤ 8) (hcs : cells ≤ R.cells ∧ slots ≤ R.slots) (hdg : decode cc pc = .ok (.invokestatic index, 3))
    (kk : ∀ (H : Heap) (locs : List Loc), Wd g n h cel' s H locs → W p l e R s m args below meth c H locs cells slots Q (F0 m (pc + 3) ls (.int r :: rest))) : W p l e R s m args below meth c H locs cells slots Q (F0 m pc ls (As.reverse ++ rest)) := by
  refine va_calli (mc := 0) (ms := 0) (va_runS (As := As) (rest := rest) ⟨X.1, X.2.1, X.2.2.1, X.2.2.2.1, X.2.2.2.2.1⟩ (M H.size) (va_cwS nA X.2.2.2.2.1 (gi_S hwd.1 hwd.2.1 hwd.2.2.1 hwd.2.2.2) rfl rfl rfl hy hR) ⟨PreX_blind, fun U hU hW => ⟨rfl, hw.pre X hU hW, ?_, Nat.lt_of_lt_of_le hbl hw.2.2.1.1, fun q => hbA (AW_mono hw.2.2.1.1 q)⟩⟩ rfl hn hl rfl (lv_room hst) hdg hcs) hw.2.2.1 (fun q _ hq => hw.aw q hq) hw.aw (fun r1 u t H1 locs1 ht hvm hp hB hz1 hk1 hS => ?_)
  · rw [hU]
    exact (hX.kept (hw.2.2.1.2.1 bb hbl hbA)).moved hW.alike
  · subst hp
    exact kk H1 locs1 (hw.post hB ht hS)
end VL
theorem MetXI.ofX {l : Launch} {g : gT} {y : MethodName} {b : ByteArray} {nL : Nat} {fr lo n : Nat} {h : Nat → Nat} {cel cel' : Nat → va_E} {av : List Value} {r : Int32} {bb L : Nat} {xs : Nat → Int32} (hy : plainName y.cls = true) (hfit : (lg_sl av).length ≤ nL)
    (body : ∀ (p : Program) (e : Env) (s : State) (m : MethodId) (below : List Frame) (meth : Method) (c : Code) (AV : Array Value) (Q : State → Prop), Cx g p s m AV c b y.cls nL → va_X bb L xs s s.heap → bb < s.heap.size → ¬ AW n h s.heap.size bb → (∀ (H : Heap) (locs : List Loc) (pc : Nat) (ls : Array Slot), Wd g n h cel' s H locs → decode b pc = .ok (.ireturn, 1) → W p l e (rW fr lo) s m AV below meth c H locs 0 0 Q (F0 m pc ls [.int r])) → ∀ ls : Array Slot, Wd g n h cel s s.heap [] → lv_has ls nL (lv_args 0 av) → W p l e (rW fr lo) s m AV below meth c s.heap [] 0 0 Q (F0 m 0 ls [])) : MetXI l g y b nL (some .int) fr lo n h cel cel' av r bb L xs := by
  intro sz
  refine Met.ofW (cc := b) (maxL := nL) (ret := (some .int)) hy rfl ?_
  intro p e s m args below meth c s₁ B hml hv
  obtain ⟨rfl, ⟨hsz, hP, hK, hD0, hSW⟩, hX, hbl, hbA⟩ := hv
  have hts := atoms_spec (ws := .code y b nL (some .int) :: wsL_law) B.pre
  subst hsz
  have hl := lv_entry av (n := nL) hfit
  rw [lg_entry_eq]
  have X : Cx g p s m av.toArray c b y.cls nL := ⟨B.exec, B.bytes, hml, findClass_of_methodNamed B.named, fun w hw => hts w (List.mem_cons_of_mem _ hw), hK⟩
  exact body p e s m below meth c _ _ X hX hbl hbA (fun H locs pc ls hw hd => r_i X hw B.returns B.notSynchronized rfl hd) _ ⟨hP, AW_D hD0, va_S.rf, hSW⟩ hl
theorem MetXZ.ofX {l : Launch} {g : gT} {y : MethodName} {b : ByteArray} {nL : Nat} {fr lo n : Nat} {h : Nat → Nat} {cel cel' : Nat → va_E} {av : List Value} {r : Int32} {bb L : Nat} {xs : Nat → Int32} (hy : plainName y.cls = true) (hfit : (lg_sl av).length ≤ nL)
    (body : ∀ (p : Program) (e : Env) (s : State) (m : MethodId) (below : List Frame) (meth : Method) (c : Code) (AV : Array Value) (Q : State → Prop), Cx g p s m AV c b y.cls nL → va_X bb L xs s s.heap → bb < s.heap.size → ¬ AW n h s.heap.size bb → (∀ (H : Heap) (locs : List Loc) (pc : Nat) (ls : Array Slot), Wd g n h cel' s H locs → decode b pc = .ok (.ireturn, 1) → (r = 0 ∨ r = 1) → W p l e (rW fr lo) s m AV below meth c H locs 0 0 Q (F0 m pc ls [.int r])) → ∀ ls : Array Slot, Wd g n h cel s s.heap [] → lv_has ls nL (lv_args 0 av) → W p l e (rW fr lo) s m AV below meth c s.heap [] 0 0 Q (F0 m 0 ls [])) : MetXI l g y b nL (some .boolean) fr lo n h cel cel' av r bb L xs := by
  intro sz
  refine Met.ofW (cc := b) (maxL := nL) (ret := (some .boolean)) hy rfl ?_
  intro p e s m args below meth c s₁ B hml hv
  obtain ⟨rfl, ⟨hsz, hP, hK, hD0, hSW⟩, hX, hbl, hbA⟩ := hv
  have hts := atoms_spec (ws := .code y b nL (some .boolean) :: wsL_law) B.pre
  subst hsz
  have hl := lv_entry av (n := nL) hfit
  rw [lg_entry_eq]
  have X : Cx g p s m av.toArray c b y.cls nL := ⟨B.exec, B.bytes, hml, findClass_of_methodNamed B.named, fun w hw => hts w (List.mem_cons_of_mem _ hw), hK⟩
  exact body p e s m below meth c _ _ X hX hbl hbA (fun H locs pc ls hw hd hz => r_z X hw B.returns B.notSynchronized hz rfl hd) _ ⟨hP, AW_D hD0, va_S.rf, hSW⟩ hl
/-- an int of the script, or a number made up behind its end -/
def m_L_cell (L : Nat) (xs : Nat → Int32) (x1 : Int32) : Option Int32 := if Int32.ofNat L ≤ x1 then some ((763049417 : Int32) * (x1 + (3 : Int32))) else gd (¬ (x1 < 0 ∨ L ≤ x1.toNatClampNeg)) (some (xs x1.toNatClampNeg))
theorem yo_L_cell : yL_cell.cls ≠ "java/lang/invoke/MethodHandle" ∧ yL_cell.cls ≠ "java/lang/invoke/VarHandle" ∧ (parseMethodDescriptor yL_cell.desc).map (fun d => d.parameters.length) = some 2 := by decide +kernel
theorem c_L_cell {l : Launch} {g : gT} {n : Nat} {h : Nat → Nat} {cel : Nat → va_E} {bb L : Nat} {xs : Nat → Int32} {x1 r : Int32} (hm : m_L_cell L xs x1 = some r) : MetXI l g yL_cell cL_cell 2 (some .int) 0 0 n h cel cel [.ref bb, .int x1] r bb L xs := by
  refine MetXI.ofX (by decide +kernel) (Nat.le_of_ble_eq_true rfl) ?_
  intro p e s m below meth c AV Q X hX hbl hbA hret ls hw hl
  replace X : Cx g p s m AV c cL_cell RL 2 := X
  replace hl : lv_has ls 2 [(0, .ref bb), (1, .int x1)] := hl
  unfold m_L_cell at hm
  refine lv_iload_n X.1 X.2.1 dL_cell_0 rfl (lv_at hl 1 rfl) ?_
  refine lv_aload_n X.1 X.2.1 dL_cell_1 rfl (lv_at hl 0 rfl) ?_
  refine va_slen X.1 X.2.1 hX hbl hbA hw.2.2.1 dL_cell_2 ?_
  refine lv_icmp_ge (tgt := 12) X.1 X.2.1 dL_cell_3 (by decide) (fun q => ?_) (fun q => ?_)
  · replace hm := it_p hm q
    refine lv_ldc (v := 763049417) X.1 X.2.1 X.2.2.2.1 (X.2.2.2.2.1 _ wq_5_10) dL_cell_12 ?_
    refine lv_iload_n X.1 X.2.1 dL_cell_14 rfl (lv_at hl 1 rfl) ?_
    refine lv_iconst (v := 3) X.1 X.2.1 dL_cell_15 (by decide) ?_
    refine lv_iadd X.1 X.2.1 dL_cell_16 ?_
    refine lv_imul X.1 X.2.1 dL_cell_17 ?_
    obtain rfl := Option.some.inj hm
    exact hret _ _ _ _ hw dL_cell_18
  · replace hm := it_n hm q
    obtain ⟨hin, hm⟩ := gd_e hm
    refine lv_aload_n X.1 X.2.1 dL_cell_6 rfl (lv_at hl 0 rfl) ?_
    refine lv_iload_n X.1 X.2.1 dL_cell_7 rfl (lv_at hl 1 rfl) ?_
    refine va_sld X.1 X.2.1 hX hbl hbA hw.2.2.1 hin dL_cell_8 ?_
    refine lv_goto (tgt := 18) X.1 X.2.1 dL_cell_9 (by decide) ?_
    obtain rfl := Option.some.inj hm
    exact hret _ _ _ _ hw dL_cell_18
