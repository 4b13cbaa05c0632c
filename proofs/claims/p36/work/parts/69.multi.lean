theorem getE_inj {α : Type} {l : List α} (h : l.Nodup) {i j : Nat} {x : α} (hi : l[i]? = some x) (hj : l[j]? = some x) : i = j := by
  have hl := (List.getElem?_eq_some_iff.mp hi).1
  exact (List.getElem?_inj hl h).mp (hi.trans hj.symm)
theorem vaD_iff (A : Nat → Prop) (ws : va_W) : va_D A ws ↔ (ws.map Prod.fst).Nodup ∧ ∀ x ∈ ws.map Prod.fst, A x := by
  constructor
  · rintro ⟨h1, h2⟩
    refine ⟨?_, fun x hx => ?_⟩
    · rw [List.nodup_iff_pairwise_ne, List.pairwise_iff_getElem]
      intro i j hi hj hij q
      rw [List.length_map] at hi hj
      rw [List.getElem_map, List.getElem_map] at q
      exact absurd (h1 i j ws[i] ws[j] (List.getElem?_eq_getElem hi) (List.getElem?_eq_getElem hj) q) (by omega)
    · obtain ⟨q, hq, rfl⟩ := List.mem_map.mp hx
      obtain ⟨k, hk⟩ := List.getElem?_of_mem hq
      exact h2 k q hk
  · rintro ⟨h1, h2⟩
    refine ⟨fun i j x y hi hj hxy => ?_, fun k q hk => h2 _ (List.mem_map.mpr ⟨q, List.mem_of_getElem? hk, rfl⟩)⟩
    have e1 : (ws.map Prod.fst)[i]? = some x.1 := by rw [List.getElem?_map, hi]; rfl
    have e2 : (ws.map Prod.fst)[j]? = some x.1 := by rw [List.getElem?_map, hj, hxy]; rfl
    exact getE_inj h1 e1 e2
theorem vaP_mem {D : va_G} {cl : List vw_C} {ws : va_W} {H : Heap} : va_P D cl ws H ↔ ∀ q ∈ ws, va_at D cl q H :=
  ⟨fun h q hq => by obtain ⟨k, hk⟩ := List.getElem?_of_mem hq; exact h k q hk, fun h k q hk => h q (List.mem_of_getElem? hk)⟩
def muO (c : ClassId) (a : Nat) : Nat → Cell
  | 0 => { cls := c, slots := Array.replicate 3 .null }
  | k + 1 => (muO c a k).setSlot k (.ref (a + 1 + k))
def muI (c : ClassId) : Cell := { cls := c, slots := Array.replicate 40 (.long 0) }
def muS (s : State) (c ci : ClassId) : Nat → State
  | 0 => s.pushCell (muO c s.heap.size 0)
  | k + 1 => ((muS s c ci k).pushCell (muI ci)).setCell s.heap.size (muO c s.heap.size (k + 1))
theorem muO_f (c : ClassId) (a : Nat) : ∀ k, (muO c a k).cls = c ∧ (muO c a k).vm = .none ∧ (muO c a k).slots.size = 3
  | 0 => ⟨rfl, rfl, by simp [muO]⟩
  | k + 1 => by
    obtain ⟨h1, h2, h3⟩ := muO_f c a k
    exact ⟨h1, h2, by show ((muO c a k).slots.setIfInBounds k _).size = 3; rw [Array.size_setIfInBounds]; exact h3⟩
theorem muS_f (s : State) (c ci : ClassId) : ∀ k, (muS s c ci k).heap.size = s.heap.size + 1 + k ∧ (muS s c ci k).heap[s.heap.size]? = some (muO c s.heap.size k) ∧ (muS s c ci k).vm = s.vm ∧ (muS s c ci k).slotsUsed = s.slotsUsed + 3 + 40 * k ∧ (∀ q : Nat, q < s.heap.size → (muS s c ci k).heap[q]? = s.heap[q]?) ∧ ∀ j : Nat, j < k → (muS s c ci k).heap[s.heap.size + 1 + j]? = some (muI ci)
  | 0 => ⟨by simp [muS], by simp [muS], rfl, by simp [muS, muO], fun q hq => State.heap_pushCell_of_lt _ _ hq, fun j hj => absurd hj (Nat.not_lt_zero j)⟩
  | k + 1 => by
    obtain ⟨h1, h2, h3, h4, h5, h6⟩ := muS_f s c ci k
    have hl : s.heap.size < (muS s c ci k).heap.size := by omega
    have hc : ((muS s c ci k).pushCell (muI ci)).heap[s.heap.size]? = some (muO c s.heap.size k) := by rw [State.heap_pushCell_of_lt (h := hl)]; exact h2
    refine ⟨by simp [muS, State.setCell, h1]; omega, State.heap_setCell_self hc, by simp [muS, h3], by simp [muS, h4, muI]; omega, fun q hq => ?_, fun j hj => ?_⟩
    · show (((muS s c ci k).pushCell (muI ci)).setCell s.heap.size _).heap[q]? = _
      rw [State.heap_setCell_other (Nat.ne_of_gt hq), State.heap_pushCell_of_lt (h := Nat.lt_trans hq hl)]
      exact h5 q hq
    · show (((muS s c ci k).pushCell (muI ci)).setCell s.heap.size _).heap[s.heap.size + 1 + j]? = _
      rw [State.heap_setCell_other (show s.heap.size ≠ s.heap.size + 1 + j by omega)]
      by_cases hjk : j = k
      · subst hjk
        rw [← h1]
        exact State.heap_pushCell_size _ _
      · have hl2 : s.heap.size + 1 + j < (muS s c ci k).heap.size := by omega
        rw [State.heap_pushCell_of_lt (h := hl2)]
        exact h6 j (by omega)
section MU
variable {E : CtlPost} {e : Env} {d : Bool} {acts : List Action} {s : State}
theorem wp_mu {c comp cc : ClassId} {k kc : Class} (hk : s.vm.classes[c]? = some k) (hkind : k.kind = .array comp (.array .long)) (hkc : s.vm.classes[comp]? = some kc) (hkindc : kc.kind = .array cc .long) (hl : 1000 ≤ e.platform.arrayLengthLimit) (hh : 1000 ≤ e.platform.maxHeapBytes) (hc : s.heap.size + 4 ≤ e.platform.maxCells) (hs : s.slotsUsed + 123 ≤ e.platform.maxSlots) {Q : Addr → Pre} (hq : ∀ d' acts', Q s.heap.size d' acts' (muS s c comp 3)) : wp (Op.multianewarray.make c [3, 40]) Q E e d acts s := by
  have hf : (([40] : List Int32).find? (· < 0)) = none := by decide
  have h3 : ¬ (3 : Int32) < 0 := by decide
  have h4 : ¬ (40 : Int32) < 0 := by decide
  have n3 : (3 : Int32).toNatClampNeg = 3 := rfl
  have n40 : (40 : Int32).toNatClampNeg = 40 := rfl
  rw [Op.multianewarray.make]
  simp only [wp_bind', W.ite, h3, if_false, wp_pure', W.theClass, hk, hkind, Option.some.injEq, exists_eq_left']
  refine W.newArray_of hk hkind (by rw [n3]; omega) (by rw [n3]; show ¬ 3 * 4 > _; omega) (by omega) (by rw [n3]; omega) rfl (fun acts1 => ?_)
  simp only [hf]
  rw [ite_self, wp_bind', Std.Legacy.Range.forIn_eq_forIn_range']
  have hsz : ([:(3 : Int32).toNatClampNeg] : Std.Legacy.Range).size = 3 := rfl
  rw [hsz]
  show wp (forIn (List.range' 0 3 1) PUnit.unit _) _ E e d acts1 _
  refine wp_forIn_inv (fun rest s' => ∃ i, i ≤ 3 ∧ rest = List.range' i (3 - i) ∧ s' = muS s c comp i) _ _ ⟨0, Nat.zero_le _, rfl, rfl⟩ ?_ ?_
  · rintro x rest s' d' acts' Q' ⟨i, hi, hr, rfl⟩ hn
    have hlt : i < 3 := by
      rcases Nat.lt_or_ge i 3 with q | q
      · exact q
      · rw [show 3 - i = 0 by omega] at hr; cases hr
    rw [show 3 - i = (3 - (i + 1)) + 1 by omega, List.range'_succ] at hr
    obtain ⟨rfl, rfl⟩ := List.cons.inj hr
    obtain ⟨f1, f2, f3, f4, f5, f6⟩ := muS_f s c comp x
    obtain ⟨o1, o2, o3⟩ := muO_f c s.heap.size x
    rw [wp_bind', Op.multianewarray.make]
    simp only [wp_bind', W.ite, h4, if_false, wp_pure', W.theClass, f3, hkc, hkindc, Option.some.injEq, exists_eq_left']
    refine W.newArray_of (by rw [f3]; exact hkc) hkindc (by rw [n40]; omega) (by rw [n40]; show ¬ 40 * 8 > _; omega) (by rw [f1]; omega) (by rw [f4, n40]; omega) rfl (fun acts2 => ?_)
    have hl0 : s.heap.size < (muS s c comp x).heap.size := by omega
    simp only [wp_bind', W.writeLoc, wp_pure']
    refine ⟨muO c s.heap.size x, by rw [State.heap_pushCell_of_lt (h := hl0)]; exact f2, by rw [o2]; simp, by rw [o3]; exact hlt, ?_, hn _ _ _ ⟨x + 1, hlt, rfl, ?_⟩⟩
    · rw [o1, o2]
      simp [State.fitsSlot, State.slotType?, f3, hk, hkind]
      rfl
    · rw [f1]; rfl
  · rintro s' d' acts' ⟨i, hi, hr, rfl⟩
    have h3i : i = 3 := by
      rcases Nat.lt_or_ge i 3 with q | q
      · rw [show 3 - i = (3 - (i + 1)) + 1 by omega, List.range'_succ] at hr; cases hr
      · omega
    subst h3i
    simp only [wp_pure']
    exact hq _ _
end MU
section MS
variable {p : Program} {l : Launch} {e : Env} {R : Room} {s : State} {m : MethodId} {args : Array Value} {below : List Frame} {meth : Method} {c : Code} {T : State} {locs : List Loc} {cells slots : Nat}
theorem muS_X (X : Stand p l e R s m args below meth c T locs cells slots) (cA comp : ClassId) : ∀ k, Stand p l e R s m args below meth c (muS T cA comp k) (locs ++ (List.range k).map fun j => ⟨T.heap.size, j⟩) (cells + 1 + k) (slots + 3 + 40 * k)
  | 0 => by
    have h := X.pushed (muO cA T.heap.size 0)
    rw [(muO_f cA T.heap.size 0).2.2] at h
    rw [show (List.range 0).map (fun j => (⟨T.heap.size, j⟩ : Loc)) = [] from rfl, List.append_nil]
    exact h
  | k + 1 => by
    have Xk := muS_X X cA comp k
    obtain ⟨h1, h2, -⟩ := muS_f T cA comp k
    have hl : T.heap.size < (muS T cA comp k).heap.size := by omega
    have hc : ((muS T cA comp k).pushCell (muI comp)).heap[T.heap.size]? = some (muO cA T.heap.size k) := by rw [State.heap_pushCell_of_lt (h := hl)]; exact h2
    have h := (Xk.pushed (muI comp)).stored hc k (.ref (T.heap.size + 1 + k))
    rw [show (muI comp).slots.size = 40 by simp [muI], List.append_assoc, show cells + 1 + k + 1 = cells + 1 + (k + 1) by omega, show slots + 3 + 40 * k + 40 = slots + 3 + 40 * (k + 1) by omega] at h
    rw [List.range_succ, List.map_append]
    exact h
theorem muS_T (s : State) (f : JFrame) (c ci : ClassId) : ∀ k, muS (s.setTop f) c ci k = (muS s c ci k).setTop f
  | 0 => rfl
  | k + 1 => by
    show ((muS (s.setTop f) c ci k).pushCell (muI ci)).setCell s.heap.size _ = _
    rw [muS_T s f c ci k]
    rfl
theorem mu_run (X : Stand p l e R s m args below meth c T locs cells slots) (hexec : p.tables.exec = Jvm.exec) {own : String} {index : Nat} (hown : s.vm.findClass own = some m.cls) (hclink : (Cond.classLink own index "[[J").before args s = true) {cA comp cc : ClassId} {kA kC : Class} (hA : s.vm.findClass "[[J" = some cA) (hkA : s.vm.classes[cA]? = some kA) (hkindA : kA.kind = .array comp (.array .long)) (hkC : s.vm.classes[comp]? = some kC) (hkindC : kC.kind = .array cc .long) {g : JFrame} (hg : g.method = m) (hdg : decode c.code g.pc = .ok (.multianewarray index 2, 4)) {rest : List Value} (hstack : g.stack = .int 40 :: .int 3 :: rest) (hcells : cells + 4 ≤ R.cells) (hslots : slots + 123 ≤ R.slots) :
    ∃ vm₁ : Vm, s.WarmedH vm₁ ∧ ∀ target, Steps p.tables e below ((muS (T.setVm vm₁) cA comp 3).setTop { g with pc := g.pc + 4, stack := .ref T.heap.size :: rest }) target → Steps p.tables e below (T.setTop g) target := by
  subst hg
  have hpl : e.platform.magicAccessors = ({} : Platform).magicAccessors := by rw [X.admits.platform]
  obtain ⟨c0, hfc0, hcl⟩ := Cond.classLink_spec hown hclink e.platform hpl
  cases hA.symm.trans hfc0
  obtain ⟨hg₁, hwarm₁, hready₁⟩ := State.classEntry (e := e) X.warmed hcl
  generalize T.vm.noted g.method.cls index (.cls cA) = vm₁ at hg₁ hwarm₁ hready₁
  have hal : s.vm.Alike vm₁ := hwarm₁.alike
  obtain ⟨kA₁, hkA₁, heA⟩ := hal.2.2 _ _ hkA
  obtain ⟨kC₁, hkC₁, heC⟩ := hal.2.2 _ _ hkC
  have X₁ := X.noted hwarm₁
  obtain ⟨hr1, hr2⟩ := X.roomAbove hcells hslots
  refine ⟨vm₁, hwarm₁, fun target hrest => ?_⟩
  jvm_step X.here [hexec, hdg]
  simp only [Op.multianewarray.sem, wp_bind', W.resolveClassAt_links (State.method?_setTop g X.here.top) hg₁]
  rw [W.popN, if_neg (by decide)]
  refine ⟨g, State.topJava?_setTop' (s := T.setVm vm₁) g X.here.top, [.int 3, .int 40], rest, rfl, hstack, ?_⟩
  simp only [List.mapM_cons, List.mapM_nil, wp_bind', wp_pure']
  have eS : ((T.setTop g).setVm vm₁).setTop { g with stack := rest } = (T.setVm vm₁).setTop { g with stack := rest } := by
    show ((T.setVm vm₁).setTop g).setTop _ = _
    rw [State.setTop_setTop]
  rw [eS]
  refine wp_mu (s := (T.setVm vm₁).setTop { g with stack := rest }) (c := cA) (k := kA₁) (kc := kC₁) (comp := comp) (cc := cc) ?_ ?_ ?_ ?_ ?_ ?_ ?_ ?_ (fun d' acts' => ?_)
  · exact hkA₁
  · rw [heA]; exact hkindA
  · exact hkC₁
  · rw [heC]; exact hkindC
  · rw [Launch.admits_arrayLengthLimit X.admits]; exact Nat.le_of_ble_eq_true rfl
  · rw [Launch.admits_maxHeapBytes X.admits]; exact Nat.le_of_ble_eq_true rfl
  · exact hr1
  · exact hr2
  have XF := muS_X X₁ cA comp 3
  rw [muS_T]
  simp only [wp_bind', W.mark, W.pushRef, State.topJava?_setTop' _ XF.here.top, Option.some.injEq, exists_eq_left', State.setTop_setTop, State.heap_setTop]
  intro acts
  simp [jvm, XF.here.top]
  exact hrest
end MS
/-- the class of rows of rows of longs is over the class of rows of longs -/
def LLk (g : gT) (U : State) : Prop := ∃ kA : Class, U.vm.classes[g.2.2.2.2.1]? = some kA ∧ kA.kind = .array g.2.2.1 (.array .long)
theorem LLk.moved {g : gT} {u U : State} (hvm : u.vm.Alike U.vm) (h : LLk g u) : LLk g U := by
  obtain ⟨kA, h1, h2⟩ := h
  obtain ⟨k', hk', he⟩ := hvm.2.2 _ _ h1
  exact ⟨k', hk', by rw [he]; exact h2⟩
theorem muO_v (cA : ClassId) (a : Nat) : muO cA a 3 = vp_cell cA (3, .inr (.inr (.inr (.inr (fun i => if i = 0 then some (a + 1 + 0) else if i = 1 then some (a + 1 + 1) else if i = 2 then some (a + 1 + 2) else none))))) := by
  rw [vp_cell_q]
  unfold arrV
  show ({ cls := cA, slots := (((Array.replicate 3 Value.null).setIfInBounds 0 (.ref (a + 1 + 0))).setIfInBounds 1 (.ref (a + 1 + 1))).setIfInBounds 2 (.ref (a + 1 + 2)), vm := .none } : Cell) = _
  congr 1
theorem muI_v (c : ClassId) : muI c = vp_cell c (40, .inr (.inl (fun _ => 0))) := arrV_new c 40 (.long 0)
section WN
variable {p : Program} {l : Launch} {e : Env} {R : Room} {s : State} {m : MethodId} {args : Array Value} {below : List Frame} {meth : Method} {c : Code} {H : Heap} {locs : List Loc} {Q : State → Prop} {cells slots : Nat}
variable {cc : ByteArray} {pc : Nat} {ls : Array Slot} {rest : List Value} {own : String} {nL : Nat} {g : gT} {A : Nat → Prop} {ws : va_W}
theorem n_new2 {index : Nat} (X : Cx g p s m args c cc own nL) (hw : Wn g A ws s H locs) (hcl : Cond.classLink own index "[[J" ∈ wsL_law) (hE : LLk g s) (hcells : cells + 4 ≤ R.cells) (hslots : slots + 123 ≤ R.slots) (hdg : decode cc pc = .ok (.multianewarray index 2, 4))
    (kk : ∀ (q0 q1 q2 q3 : Nat) (H1 : Heap) (locs : List Loc), Wn g A (ws ++ [(q0, .inl (g.2.2.2.2.1, 3, .inr (.inr (.inr (.inr (fun i => if i = 0 then some q1 else if i = 1 then some q2 else if i = 2 then some q3 else none)))))), (q1, .inl (g.2.2.1, 40, .inr (.inl (fun _ => 0)))), (q2, .inl (g.2.2.1, 40, .inr (.inl (fun _ => 0)))), (q3, .inl (g.2.2.1, 40, .inr (.inl (fun _ => 0))))]) s H1 locs → W p l e R s m args below meth c H1 locs (cells + 4) (slots + 123) Q (F0 m (pc + 4) ls (.ref q0 :: rest))) : W p l e R s m args below meth c H locs cells slots Q (F0 m pc ls (.int 40 :: .int 3 :: rest)) := by
  obtain ⟨hP, hD, hS, hA⟩ := hw
  intro T hT XT
  subst hT
  obtain ⟨kA, hkA, hkindA⟩ := hE
  have hn : ("[" ++ (FieldType.array .long).toString) = "[[J" := by decide +kernel
  have hfA : s.vm.findClass "[[J" = some g.2.2.2.2.1 := by
    rw [← hn]
    exact (X.2.2.2.2.2.2 3 (g.2.2.2.2.1, .array .long) rfl).2
  obtain ⟨-, kC, hkC, pC, hkindC⟩ := (X.2.2.2.2.2.2 1 (g.2.2.1, .long) rfl).1 0 (fun _ => .null)
  obtain ⟨vm₁, hW, st⟩ := mu_run XT X.1 X.2.2.2.1 (X.2.2.2.2.1 _ hcl) hfA hkA hkindA hkC hkindC (g := F0 m pc ls (.int 40 :: .int 3 :: rest)) rfl (by rw [X.2.1]; exact hdg) rfl hcells hslots
  have XS := muS_X (XT.noted hW) g.2.2.2.2.1 g.2.2.1 3
  obtain ⟨f1, f2, -, -, f5, f6⟩ := muS_f (T.setVm vm₁) g.2.2.2.2.1 g.2.2.1 3
  have f1 : (muS (T.setVm vm₁) g.2.2.2.2.1 g.2.2.1 3).heap.size = T.heap.size + 1 + 3 := f1
  have f5 : ∀ q : Nat, q < T.heap.size → (muS (T.setVm vm₁) g.2.2.2.2.1 g.2.2.1 3).heap[q]? = T.heap[q]? := f5
  have hsz := hS.1
  have hap : ∀ q : Nat, T.heap.size ≤ q → A q := fun q hq => hA q (Nat.le_trans hsz hq)
  have hnew : va_P g.1 vwCl [(T.heap.size, .inl (g.2.2.2.2.1, 3, .inr (.inr (.inr (.inr (fun i => if i = 0 then some (T.heap.size + 1 + 0) else if i = 1 then some (T.heap.size + 1 + 1) else if i = 2 then some (T.heap.size + 1 + 2) else none)))))), (T.heap.size + 1 + 0, .inl (g.2.2.1, 40, .inr (.inl (fun _ => 0)))), (T.heap.size + 1 + 1, .inl (g.2.2.1, 40, .inr (.inl (fun _ => 0)))), (T.heap.size + 1 + 2, .inl (g.2.2.1, 40, .inr (.inl (fun _ => 0))))] (muS (T.setVm vm₁) g.2.2.2.2.1 g.2.2.1 3).heap := by
    refine vaP_mem.mpr (fun q hq => ?_)
    have inn : ∀ j, j < 3 → va_at g.1 vwCl (T.heap.size + 1 + j, .inl (g.2.2.1, 40, .inr (.inl (fun _ => 0)))) (muS (T.setVm vm₁) g.2.2.2.2.1 g.2.2.1 3).heap := fun j hj => by
      show (muS (T.setVm vm₁) g.2.2.2.2.1 g.2.2.1 3).heap[T.heap.size + 1 + j]? = some (vp_cell _ _)
      rw [← muI_v]
      exact f6 j hj
    rcases List.mem_cons.mp hq with rfl | hq
    · show (muS (T.setVm vm₁) g.2.2.2.2.1 g.2.2.1 3).heap[T.heap.size]? = some (vp_cell _ _)
      rw [← muO_v]
      exact f2
    rcases List.mem_cons.mp hq with rfl | hq
    · exact inn 0 (by decide)
    rcases List.mem_cons.mp hq with rfl | hq
    · exact inn 1 (by decide)
    rcases List.mem_cons.mp hq with rfl | hq
    · exact inn 2 (by decide)
    · cases hq
  have hP2 := (hP.kept (fun k x hx => f5 x.1 ((hP k x hx).lt))).app hnew
  have hDn : va_D A [(T.heap.size, (.inl (g.2.2.2.2.1, 3, .inr (.inr (.inr (.inr (fun i => if i = 0 then some (T.heap.size + 1 + 0) else if i = 1 then some (T.heap.size + 1 + 1) else if i = 2 then some (T.heap.size + 1 + 2) else none))))) : va_E)), (T.heap.size + 1 + 0, .inl (g.2.2.1, 40, .inr (.inl (fun _ => 0)))), (T.heap.size + 1 + 1, .inl (g.2.2.1, 40, .inr (.inl (fun _ => 0)))), (T.heap.size + 1 + 2, .inl (g.2.2.1, 40, .inr (.inl (fun _ => 0))))] := by
    refine (vaD_iff _ _).mpr ⟨?_, fun x hx => ?_⟩
    · show ([T.heap.size, T.heap.size + 1 + 0, T.heap.size + 1 + 1, T.heap.size + 1 + 2] : List Nat).Nodup
      simp only [List.nodup_cons, List.mem_cons, List.not_mem_nil, or_false, not_or, not_false_eq_true, List.nodup_nil, and_true]
      omega
    · have hx : x ∈ ([T.heap.size, T.heap.size + 1 + 0, T.heap.size + 1 + 1, T.heap.size + 1 + 2] : List Nat) := hx
      simp only [List.mem_cons, List.not_mem_nil, or_false] at hx
      exact hap x (by omega)
  have hD2 := hD.app hDn (fun i j x y hx hy e => by
    have h1 := (hP i x hx).lt
    have hy := List.mem_of_getElem? hy
    simp only [List.mem_cons, List.not_mem_nil, or_false] at hy
    rcases hy with rfl | rfl | rfl | rfl <;> (dsimp only at e; omega))
  have hS2 : va_S A s.heap (muS (T.setVm vm₁) g.2.2.2.2.1 g.2.2.1 3).heap (locs ++ (List.range 3).map fun j => ⟨T.heap.size, j⟩) := by
    refine ⟨by omega, fun q h1 h2 => (f5 q (by omega)).trans (hS.2.1 q h1 h2), fun x hx => ?_⟩
    rcases List.mem_append.mp hx with hx | hx
    · exact hS.2.2 x hx
    · obtain ⟨j, -, rfl⟩ := List.mem_map.mp hx
      exact hap _ (Nat.le_refl _)
  obtain ⟨t, a1, b1⟩ := kk T.heap.size (T.heap.size + 1 + 0) (T.heap.size + 1 + 1) (T.heap.size + 1 + 2) _ _ ⟨hP2, hD2, hS2, hA⟩ (muS (T.setVm vm₁) g.2.2.2.2.1 g.2.2.1 3) rfl XS
  exact ⟨t, st t a1, b1⟩
end WN
