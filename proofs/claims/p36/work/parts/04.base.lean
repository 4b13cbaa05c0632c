/-! the machine's side, for every method: a world is n cells at addresses h 0 .. h (n-1), what they hold is a function of the state; and how a program's own value (an Option) is taken apart along a walk -/
theorem ob_e {α β : Type} {x : Option α} {f : α → Option β} {r : β} (h : x.bind f = some r) : ∃ a, x = some a ∧ f a = some r := by
  cases x with
  | none => cases h
  | some a => exact ⟨a, rfl, h⟩
def gd {α : Type} (c : Prop) [Decidable c] (k : Option α) : Option α := if c then k else none
theorem gd_e {α : Type} {c : Prop} [Decidable c] {k : Option α} {r : α} (h : gd c k = some r) : c ∧ k = some r := by
  unfold gd at h
  split at h
  · exact ⟨by assumption, h⟩
  · cases h
theorem it_p {α : Type} {c : Prop} [Decidable c] {a b r : α} (h : (if c then a else b) = r) (hc : c) : a = r := by rw [if_pos hc] at h; exact h
theorem it_n {α : Type} {c : Prop} [Decidable c] {a b r : α} (h : (if c then a else b) = r) (hc : ¬ c) : b = r := by rw [if_neg hc] at h; exact h
def lt {α β : Type} (e : α) (f : α → β) : β := f e
theorem lt_e {α β : Type} {e : α} {f : α → β} {r : β} (h : lt e f = r) {y : α} (hy : y = e) : f y = r := by subst hy; exact h
theorem lt_n {α β : Type} {e : α} {f : α → β} {r : β} (h : lt e f = r) : ∃ y, y = e ∧ f y = r := ⟨e, rfl, h⟩
def vLoop {S E : Type} (B : S → Option (S ⊕ E)) : Nat → S → Option E
  | 0, _ => none
  | n + 1, s => match B s with
    | none => none
    | some (.inl t) => vLoop B n t
    | some (.inr e) => some e
theorem vLoop_ind {S E : Type} {B : S → Option (S ⊕ E)} (G : S → Prop) (X : E → Prop) (hB : ∀ s z, B s = some z → (∀ t, z = .inl t → G t) → (∀ e, z = .inr e → X e) → G s) : ∀ n s e, vLoop B n s = some e → X e → G s := by
  intro n
  induction n with
  | zero => intro s e h; cases h
  | succ n ih =>
    intro s e h hX
    unfold vLoop at h
    cases hz : B s with
    | none => rw [hz] at h; cases h
    | some z =>
      rw [hz] at h
      cases z with
      | inl t => exact hB s _ hz (fun t' ht => by cases ht; exact ih t e h hX) (fun e' he => by cases he)
      | inr e1 => cases h; exact hB s _ hz (fun t' ht => by cases ht) (fun e' he => by cases he; exact hX)
/-- the fuel of every loop, the same for all -/
def FUEL : Nat := 100000
/-- what an object (a level of the cutting, the whole of the rest) holds: ints, longs, rows of ints, rows of longs -/
abbrev ST : Type := (Nat → Int32) × (Nat → Int64) × (Nat → Nat → Int32) × (Nat → Nat → Int64)
/-- the class: all but the levels; the levels -/
abbrev CS : Type := ST × (Nat → ST)
def wI (t : ST) (k : Nat) (v : Int32) : ST := (upd t.1 k v, t.2)
def wL (t : ST) (k : Nat) (v : Int64) : ST := (t.1, vp_updL t.2.1 k v, t.2.2)
def wA (t : ST) (k : Nat) (i : Nat) (v : Int32) : ST := (t.1, t.2.1, (fun j => if j = k then upd (t.2.2.1 k) i v else t.2.2.1 j), t.2.2.2)
def wB (t : ST) (k : Nat) (i : Nat) (v : Int64) : ST := (t.1, t.2.1, t.2.2.1, fun j => if j = k then vp_updL (t.2.2.2 k) i v else t.2.2.2 j)
def wC (t : ST) (k : Nat) (f : Nat → Int64) : ST := (t.1, t.2.1, t.2.2.1, fun j => if j = k then f else t.2.2.2 j)
def bI (s : CS) (k : Nat) (v : Int32) : CS := (wI s.1 k v, s.2)
def bL (s : CS) (k : Nat) (v : Int64) : CS := (wL s.1 k v, s.2)
def bA (s : CS) (k : Nat) (i : Nat) (v : Int32) : CS := (wA s.1 k i v, s.2)
def bB (s : CS) (k : Nat) (i : Nat) (v : Int64) : CS := (wB s.1 k i v, s.2)
def bC (s : CS) (k : Nat) (f : Nat → Int64) : CS := (wC s.1 k f, s.2)
/-- level d becomes t -/
def bT (s : CS) (d : Nat) (t : ST) : CS := (s.1, va_up s.2 d t)
def WL (n : Nat) (h : Nat → Nat) (c : Nat → va_E) : va_W := (List.range n).map (fun k => (h k, c k))
theorem WL_get {n : Nat} {h : Nat → Nat} {c : Nat → va_E} {k : Nat} (hk : k < n) : (WL n h c)[k]? = some (h k, c k) := by
  unfold WL
  rw [List.getElem?_map, List.getElem?_range hk]
  rfl
theorem WL_get' {n : Nat} {h : Nat → Nat} {c : Nat → va_E} {k : Nat} {e : va_E} (hk : k < n) (he : c k = e) : (WL n h c)[k]? = some (h k, e) := he ▸ WL_get hk
theorem WL_len (n : Nat) (h : Nat → Nat) (c : Nat → va_E) : (WL n h c).length = n := by unfold WL; rw [List.length_map, List.length_range]
theorem WL_of {n : Nat} {h : Nat → Nat} {c : Nat → va_E} {k : Nat} {q : Nat × va_E} (hq : (WL n h c)[k]? = some q) : k < n ∧ q = (h k, c k) := by
  have hk : k < n := by
    have := (List.getElem?_eq_some_iff.mp hq).1
    rw [WL_len] at this
    exact this
  exact ⟨hk, Option.some.inj (hq.symm.trans (WL_get hk))⟩
theorem WL_set {n : Nat} {h : Nat → Nat} {c c' : Nat → va_E} {k : Nat} {e : va_E} (hk : k < n) (he : c' k = e) (ho : ∀ j, j ≠ k → c' j = c j) : (WL n h c).set k (h k, e) = WL n h c' := by
  apply List.ext_getElem?
  intro j
  rw [List.getElem?_set]
  by_cases hj : k = j
  · subst hj
    rw [if_pos rfl, WL_len, if_pos hk, WL_get hk, he]
  · rw [if_neg hj]
    by_cases hjn : j < n
    · rw [WL_get hjn, WL_get hjn, ho j (fun q => hj q.symm)]
    · rw [List.getElem?_eq_none_iff.mpr (by rw [WL_len]; omega), List.getElem?_eq_none_iff.mpr (by rw [WL_len]; omega)]
/-- what a method may write: the world's cells, and what comes new -/
def AW (n : Nat) (h : Nat → Nat) (sz : Nat) : Nat → Prop := fun q => (∃ k, k < n ∧ q = h k) ∨ sz ≤ q
theorem AW_mono {n : Nat} {h : Nat → Nat} {sz sz' : Nat} (hz : sz ≤ sz') {q : Nat} (hq : AW n h sz' q) : AW n h sz q := hq.elim Or.inl fun h1 => Or.inr (Nat.le_trans hz h1)
theorem AW_D {n : Nat} {h : Nat → Nat} {sz : Nat} {c : Nat → va_E} {B : Nat → Prop} (hD : va_D B (WL n h c)) : va_D (AW n h sz) (WL n h c) :=
  ⟨hD.1, fun k q hk => by
    obtain ⟨h1, rfl⟩ := WL_of hk
    exact Or.inl ⟨k, h1, rfl⟩⟩
/-- the class ids: of the objects; of the rows of ints, of longs, of levels, of rows of longs -/
abbrev gT : Type := va_G × ClassId × ClassId × ClassId × ClassId × (Nat → Nat) × (Nat → Nat)
abbrev TY (g : gT) : List (ClassId × FieldType) := [(g.2.1, .int), (g.2.2.1, .long), (g.2.2.2.1, .object "LinkChances$TidyNet"), (g.2.2.2.2.1, .array .long)]
/-- what stands outside the world and is never written: nothing here -/
def SW (_ : gT) (_ : Nat → Prop) (_ : State) (_ : Heap) : Prop := True
theorem SW.moved {g : gT} {A : Nat → Prop} {u U : State} {H : Heap} (_ : u.WarmedH U.vm) (_ : SW g A u H) : SW g A U H := trivial
theorem SW.same {g : gT} {A : Nat → Prop} {u U : State} {H : Heap} (_ : U.vm = u.vm) (_ : u.vm.Alike U.vm) (_ : SW g A u H) : SW g A U H := trivial
theorem SW.kept {g : gT} {A : Nat → Prop} {U : State} {H H1 : Heap} (_ : ∀ a : Nat, a < H.size → ¬ A a → H1[a]? = H[a]?) (_ : SW g A U H) : SW g A U H1 := trivial
theorem SW.narrow {g : gT} {A B : Nat → Prop} {U : State} {H : Heap} (_ : ∀ q, B q → A q) (_ : SW g A U H) : SW g B U H := trivial
/-- what stands fast in a method -/
def Cx (g : gT) (p : Program) (s : State) (m : MethodId) (args : Array Value) (c : Code) (cc : ByteArray) (own : String) (nL : Nat) : Prop :=
  p.tables.exec = Jvm.exec ∧ c.code = cc ∧ c.maxLocals = nL ∧ s.vm.findClass own = some m.cls ∧ (∀ w ∈ wsL_law, w.before args s = true) ∧ va_K g.1 vwCl (TY g) s
/-- the world, as it stands -/
def Wd (g : gT) (n : Nat) (h : Nat → Nat) (cel : Nat → va_E) (s : State) (H : Heap) (locs : List Loc) : Prop :=
  va_P g.1 vwCl (WL n h cel) H ∧ va_D (AW n h s.heap.size) (WL n h cel) ∧ va_S (AW n h s.heap.size) s.heap H locs ∧ SW g (AW n h s.heap.size) s s.heap
/-- a contract's start and its end, over the world -/
def PreW (g : gT) (n : Nat) (h : Nat → Nat) (cel : Nat → va_E) (sz : Nat) : State → Prop := fun U =>
  U.heap.size = sz ∧ va_P g.1 vwCl (WL n h cel) U.heap ∧ va_K g.1 vwCl (TY g) U ∧ va_D (fun _ => True) (WL n h cel) ∧ SW g (AW n h sz) U U.heap
def PostW (g : gT) (n : Nat) (h : Nat → Nat) (cel : Nat → va_E) : Unit → State → Prop := fun _ U =>
  va_P g.1 vwCl (WL n h cel) U.heap ∧ va_K g.1 vwCl (TY g) U ∧ va_D (fun _ => True) (WL n h cel)
abbrev rW (fr lo : Nat) : Room := { frames := fr, cells := 0, slots := 0, locals := lo }
def MetI (l : Launch) (g : gT) (y : MethodName) (b : ByteArray) (nL : Nat) (rt : Option FieldType) (fr lo : Nat) (n : Nat) (h : Nat → Nat) (cel cel' : Nat → va_E) (av : List Value) (r : Int32) : Prop :=
  ∀ sz, Met l y (.code y b nL rt :: wsL_law) (rW fr lo) (va_Pc av (PreW g n h cel sz)) (va_Qi (fun x (_ : Unit) => x = r) (PostW g n h cel') (AW n h sz)) 0 0 (AW n h sz)
def MetL (l : Launch) (g : gT) (y : MethodName) (b : ByteArray) (nL : Nat) (rt : Option FieldType) (fr lo : Nat) (n : Nat) (h : Nat → Nat) (cel cel' : Nat → va_E) (av : List Value) (r : Int64) : Prop :=
  ∀ sz, Met l y (.code y b nL rt :: wsL_law) (rW fr lo) (va_Pc av (PreW g n h cel sz)) (va_Ql (fun x (_ : Unit) => x = r) (PostW g n h cel') (AW n h sz)) 0 0 (AW n h sz)
def MetV (l : Launch) (g : gT) (y : MethodName) (b : ByteArray) (nL : Nat) (rt : Option FieldType) (fr lo : Nat) (n : Nat) (h : Nat → Nat) (cel cel' : Nat → va_E) (av : List Value) : Prop :=
  ∀ sz, Met l y (.code y b nL rt :: wsL_law) (rW fr lo) (va_Pc av (PreW g n h cel sz)) (va_Qv (fun (_ : Unit) => True) (PostW g n h cel') (AW n h sz)) 0 0 (AW n h sz)
theorem wb_ok : wsL_law.all goodWord = true := by decide +kernel
theorem wb_GoodIn {y : MethodName} {b : ByteArray} {nL : Nat} {rt : Option FieldType} (hc : Cond.code y b nL rt ∈ wsL_law) : GoodIn wsL_law (.code y b nL rt :: wsL_law) := fun w hw => by
  have hm : w ∈ wsL_law := (List.mem_cons.mp hw).elim (fun e => e ▸ hc) id
  exact ⟨hm, good_of_word (List.all_eq_true.mp wb_ok w hm)⟩
theorem wb_one {w : Cond} (hm : w ∈ wsL_law) : w ∈ wsL_law ∧ ((w.onTables && w.keeps) = true ∨ ∃ ty, w = .arrayClass ty) := ⟨hm, good_of_word (List.all_eq_true.mp wb_ok w hm)⟩
theorem gi_V {y : MethodName} {b : ByteArray} {nL : Nat} {rt : Option FieldType} {own C : String} {idx : Nat} (h1 : Cond.methodLink own idx y ∈ wsL_law) (h2 : Cond.instanceMethod y ∈ wsL_law) (h3 : Cond.selects C y y ∈ wsL_law) (h4 : Cond.initialized C ∈ wsL_law) (hc : Cond.code y b nL rt ∈ wsL_law) : GoodIn wsL_law (wsV own idx C y (.code y b nL rt :: wsL_law)) := goodIn_app (fun w hw => by
  rcases List.mem_cons.mp hw with rfl | hw
  · exact wb_one h1
  rcases List.mem_cons.mp hw with rfl | hw
  · exact wb_one h2
  rcases List.mem_cons.mp hw with rfl | hw
  · exact wb_one h3
  rcases List.mem_cons.mp hw with rfl | hw
  · exact wb_one h4
  cases hw) (wb_GoodIn hc)
theorem gi_S {y : MethodName} {b : ByteArray} {nL : Nat} {rt : Option FieldType} {own : String} {idx : Nat} (h1 : Cond.methodLink own idx y ∈ wsL_law) (h2 : Cond.static y ∈ wsL_law) (h4 : Cond.initialized y.cls ∈ wsL_law) (hc : Cond.code y b nL rt ∈ wsL_law) : GoodIn wsL_law (va_wsS own idx y (.code y b nL rt :: wsL_law)) := goodIn_app (fun w hw => by
  rcases List.mem_cons.mp hw with rfl | hw
  · exact wb_one h1
  rcases List.mem_cons.mp hw with rfl | hw
  · exact wb_one h2
  rcases List.mem_cons.mp hw with rfl | hw
  · exact wb_one h4
  cases hw) (wb_GoodIn hc)
theorem PreW_blind {g : gT} {n : Nat} {h : Nat → Nat} {cel : Nat → va_E} {sz : Nat} {av : List Value} : FrameBlind (va_Pc av (PreW g n h cel sz)) := fun a U gg mk q => by
  obtain ⟨q0, q1, qP, qK, qD, qS⟩ := q
  exact ⟨q0, q1, qP, va_K.moved (u := U) (U := U.calling gg mk a) (Vm.Alike.refl U.vm) qK, qD, SW.same (u := U) (U := U.calling gg mk a) rfl (Vm.Alike.refl U.vm) qS⟩
section VB
variable {p : Program} {l : Launch} {e : Env} {R : Room} {s : State} {m : MethodId} {args : Array Value} {below : List Frame} {meth : Method} {c : Code} {H : Heap} {locs : List Loc} {Q : State → Prop}
variable {cc : ByteArray} {pc : Nat} {ls : Array Slot} {rest : List Value} {own : String} {nL : Nat} {g : gT} {n : Nat} {h : Nat → Nat} {cel cel' : Nat → va_E}
theorem Wd.pre (X : Cx g p s m args c cc own nL) (hw : Wd g n h cel s H locs) {U : State} (hU : U.heap = H) (hW : s.WarmedH U.vm) : PreW g n h cel H.size U :=
  ⟨by rw [hU], by rw [hU]; exact hw.1, va_K.moved hW.alike X.2.2.2.2.2, hw.2.1.weaken (fun _ _ _ _ => trivial), by rw [hU]; exact (((hw.2.2.2.kept hw.2.2.1.2.1).narrow (fun q hq => AW_mono hw.2.2.1.1 hq)).moved hW)⟩
theorem Wd.aw (hw : Wd g n h cel s H locs) : ∀ q : Nat, AW n h H.size q → AW n h s.heap.size q := fun _ hq => AW_mono hw.2.2.1.1 hq
theorem Wd.post {U : State} {H1 : Heap} {locs1 : List Loc} (hw : Wd g n h cel s H locs) (hB : PostW g n h cel' () U) (ht : U.heap = H1) (hS : va_S (AW n h s.heap.size) s.heap H1 locs1) : Wd g n h cel' s H1 locs1 := by
  subst ht
  exact ⟨hB.1, AW_D hB.2.2, hS, hw.2.2.2⟩
/-- a call of a method of an object of the world: int answer -/
theorem k_Vi {C : String} {index k ci nA : Nat} {fs : List Value} {T : u_T} {N fr lo nM : Nat} {y : MethodName} {b : ByteArray} {rt : Option FieldType} {As : List Value} {r : Int32} (X : Cx g p s m args c cc own nL) (hl : ls.size = nL) (hw : Wd g n h cel s H locs) (M : MetI l g y b nM rt fr lo n h cel cel' (.ref (h k) :: As) r)
    (hk : k < n) (he : cel k = .inr (ci, fs)) (hc : vwCl[ci]? = some (C, T, N)) (hwd : Cond.methodLink own index y ∈ wsL_law ∧ Cond.instanceMethod y ∈ wsL_law ∧ Cond.selects C y y ∈ wsL_law ∧ Cond.initialized C ∈ wsL_law ∧ Cond.code y b nM rt ∈ wsL_law)
    (hy : y.cls = C ∧ y.cls ≠ "java/lang/invoke/MethodHandle" ∧ y.cls ≠ "java/lang/invoke/VarHandle" ∧ (parseMethodDescriptor y.desc).map (fun d => d.parameters.length) = some nA) (hn : As.length = nA) (hR : fr + 1 ≤ R.frames ∧ 8 + (nM + 11) + lo ≤ R.locals) (hst : (rest.map fun v => v.category).sum ≤ 8) (hdg : decode cc pc = .ok (.invokevirtual index, 3))
    (kk : ∀ (H : Heap) (locs : List Loc), Wd g n h cel' s H locs → W p l e R s m args below meth c H locs 0 0 Q (F0 m (pc + 3) ls (.int r :: rest))) : W p l e R s m args below meth c H locs 0 0 Q (F0 m pc ls (As.reverse ++ .ref (h k) :: rest)) := by
  refine va_calli (mc := 0) (ms := 0) (va_runV (As := As) (rest := rest) ⟨X.1, X.2.1, X.2.2.1, X.2.2.2.1, X.2.2.2.2.1⟩ (M H.size) (cwV nA X.2.2.2.2.1 (gi_V hwd.1 hwd.2.1 hwd.2.2.1 hwd.2.2.2.1 hwd.2.2.2.2) rfl rfl rfl hy hR) ⟨PreW_blind, va_recv X.2.2.2.2.2 hw.1 hc (WL_get' hk he), fun U hU hW => ⟨rfl, hw.pre X hU hW⟩⟩ rfl hn hl rfl (lv_room hst) hdg ⟨Nat.zero_le _, Nat.zero_le _⟩) hw.2.2.1 (fun q _ hq => hw.aw q hq) hw.aw (fun r1 u t H1 locs1 ht hvm hp hB hz1 hk1 hS => ?_)
  subst hp
  exact kk H1 locs1 (hw.post hB ht hS)
theorem k_Vl {C : String} {index k ci nA : Nat} {fs : List Value} {T : u_T} {N fr lo nM : Nat} {y : MethodName} {b : ByteArray} {rt : Option FieldType} {As : List Value} {r : Int64} (X : Cx g p s m args c cc own nL) (hl : ls.size = nL) (hw : Wd g n h cel s H locs) (M : MetL l g y b nM rt fr lo n h cel cel' (.ref (h k) :: As) r)
    (hk : k < n) (he : cel k = .inr (ci, fs)) (hc : vwCl[ci]? = some (C, T, N)) (hwd : Cond.methodLink own index y ∈ wsL_law ∧ Cond.instanceMethod y ∈ wsL_law ∧ Cond.selects C y y ∈ wsL_law ∧ Cond.initialized C ∈ wsL_law ∧ Cond.code y b nM rt ∈ wsL_law)
    (hy : y.cls = C ∧ y.cls ≠ "java/lang/invoke/MethodHandle" ∧ y.cls ≠ "java/lang/invoke/VarHandle" ∧ (parseMethodDescriptor y.desc).map (fun d => d.parameters.length) = some nA) (hn : As.length = nA) (hR : fr + 1 ≤ R.frames ∧ 8 + (nM + 11) + lo ≤ R.locals) (hst : (rest.map fun v => v.category).sum ≤ 8) (hdg : decode cc pc = .ok (.invokevirtual index, 3))
    (kk : ∀ (H : Heap) (locs : List Loc), Wd g n h cel' s H locs → W p l e R s m args below meth c H locs 0 0 Q (F0 m (pc + 3) ls (.long r :: rest))) : W p l e R s m args below meth c H locs 0 0 Q (F0 m pc ls (As.reverse ++ .ref (h k) :: rest)) := by
  refine va_calll (mc := 0) (ms := 0) (va_runV (As := As) (rest := rest) ⟨X.1, X.2.1, X.2.2.1, X.2.2.2.1, X.2.2.2.2.1⟩ (M H.size) (cwV nA X.2.2.2.2.1 (gi_V hwd.1 hwd.2.1 hwd.2.2.1 hwd.2.2.2.1 hwd.2.2.2.2) rfl rfl rfl hy hR) ⟨PreW_blind, va_recv X.2.2.2.2.2 hw.1 hc (WL_get' hk he), fun U hU hW => ⟨rfl, hw.pre X hU hW⟩⟩ rfl hn hl rfl (lv_room hst) hdg ⟨Nat.zero_le _, Nat.zero_le _⟩) hw.2.2.1 (fun q _ hq => hw.aw q hq) hw.aw (fun r1 u t H1 locs1 ht hvm hp hB hz1 hk1 hS => ?_)
  subst hp
  exact kk H1 locs1 (hw.post hB ht hS)
theorem k_Vv {C : String} {index k ci nA : Nat} {fs : List Value} {T : u_T} {N fr lo nM : Nat} {y : MethodName} {b : ByteArray} {rt : Option FieldType} {As : List Value} (X : Cx g p s m args c cc own nL) (hl : ls.size = nL) (hw : Wd g n h cel s H locs) (M : MetV l g y b nM rt fr lo n h cel cel' (.ref (h k) :: As))
    (hk : k < n) (he : cel k = .inr (ci, fs)) (hc : vwCl[ci]? = some (C, T, N)) (hwd : Cond.methodLink own index y ∈ wsL_law ∧ Cond.instanceMethod y ∈ wsL_law ∧ Cond.selects C y y ∈ wsL_law ∧ Cond.initialized C ∈ wsL_law ∧ Cond.code y b nM rt ∈ wsL_law)
    (hy : y.cls = C ∧ y.cls ≠ "java/lang/invoke/MethodHandle" ∧ y.cls ≠ "java/lang/invoke/VarHandle" ∧ (parseMethodDescriptor y.desc).map (fun d => d.parameters.length) = some nA) (hn : As.length = nA) (hR : fr + 1 ≤ R.frames ∧ 8 + (nM + 11) + lo ≤ R.locals) (hst : (rest.map fun v => v.category).sum ≤ 8) (hdg : decode cc pc = .ok (.invokevirtual index, 3))
    (kk : ∀ (H : Heap) (locs : List Loc), Wd g n h cel' s H locs → W p l e R s m args below meth c H locs 0 0 Q (F0 m (pc + 3) ls rest)) : W p l e R s m args below meth c H locs 0 0 Q (F0 m pc ls (As.reverse ++ .ref (h k) :: rest)) := by
  refine va_callv (mc := 0) (ms := 0) (va_runV (As := As) (rest := rest) ⟨X.1, X.2.1, X.2.2.1, X.2.2.2.1, X.2.2.2.2.1⟩ (M H.size) (cwV nA X.2.2.2.2.1 (gi_V hwd.1 hwd.2.1 hwd.2.2.1 hwd.2.2.2.1 hwd.2.2.2.2) rfl rfl rfl hy hR) ⟨PreW_blind, va_recv X.2.2.2.2.2 hw.1 hc (WL_get' hk he), fun U hU hW => ⟨rfl, hw.pre X hU hW⟩⟩ rfl hn hl rfl (lv_room hst) hdg ⟨Nat.zero_le _, Nat.zero_le _⟩) hw.2.2.1 (fun q _ hq => hw.aw q hq) hw.aw (fun u t H1 locs1 ht hvm hp hB hz1 hk1 hS => ?_)
  exact kk H1 locs1 (hw.post hB ht hS)
theorem k_Si {index nA : Nat} {fr lo nM : Nat} {y : MethodName} {b : ByteArray} {rt : Option FieldType} {As : List Value} {r : Int32} (X : Cx g p s m args c cc own nL) (hl : ls.size = nL) (hw : Wd g n h cel s H locs) (M : MetI l g y b nM rt fr lo n h cel cel' As r)
    (hwd : Cond.methodLink own index y ∈ wsL_law ∧ Cond.static y ∈ wsL_law ∧ Cond.initialized y.cls ∈ wsL_law ∧ Cond.code y b nM rt ∈ wsL_law)
    (hy : y.cls ≠ "java/lang/invoke/MethodHandle" ∧ y.cls ≠ "java/lang/invoke/VarHandle" ∧ (parseMethodDescriptor y.desc).map (fun d => d.parameters.length) = some nA) (hn : As.length = nA) (hR : fr + 1 ≤ R.frames ∧ 8 + (nM + 11) + lo ≤ R.locals) (hst : (rest.map fun v => v.category).sum ≤ 8) (hdg : decode cc pc = .ok (.invokestatic index, 3))
    (kk : ∀ (H : Heap) (locs : List Loc), Wd g n h cel' s H locs → W p l e R s m args below meth c H locs 0 0 Q (F0 m (pc + 3) ls (.int r :: rest))) : W p l e R s m args below meth c H locs 0 0 Q (F0 m pc ls (As.reverse ++ rest)) := by
  refine va_calli (mc := 0) (ms := 0) (va_runS (As := As) (rest := rest) ⟨X.1, X.2.1, X.2.2.1, X.2.2.2.1, X.2.2.2.2.1⟩ (M H.size) (va_cwS nA X.2.2.2.2.1 (gi_S hwd.1 hwd.2.1 hwd.2.2.1 hwd.2.2.2) rfl rfl rfl hy hR) ⟨PreW_blind, fun U hU hW => ⟨rfl, hw.pre X hU hW⟩⟩ rfl hn hl rfl (lv_room hst) hdg ⟨Nat.zero_le _, Nat.zero_le _⟩) hw.2.2.1 (fun q _ hq => hw.aw q hq) hw.aw (fun r1 u t H1 locs1 ht hvm hp hB hz1 hk1 hS => ?_)
  subst hp
  exact kk H1 locs1 (hw.post hB ht hS)
theorem k_Sl {index nA : Nat} {fr lo nM : Nat} {y : MethodName} {b : ByteArray} {rt : Option FieldType} {As : List Value} {r : Int64} (X : Cx g p s m args c cc own nL) (hl : ls.size = nL) (hw : Wd g n h cel s H locs) (M : MetL l g y b nM rt fr lo n h cel cel' As r)
    (hwd : Cond.methodLink own index y ∈ wsL_law ∧ Cond.static y ∈ wsL_law ∧ Cond.initialized y.cls ∈ wsL_law ∧ Cond.code y b nM rt ∈ wsL_law)
    (hy : y.cls ≠ "java/lang/invoke/MethodHandle" ∧ y.cls ≠ "java/lang/invoke/VarHandle" ∧ (parseMethodDescriptor y.desc).map (fun d => d.parameters.length) = some nA) (hn : As.length = nA) (hR : fr + 1 ≤ R.frames ∧ 8 + (nM + 11) + lo ≤ R.locals) (hst : (rest.map fun v => v.category).sum ≤ 8) (hdg : decode cc pc = .ok (.invokestatic index, 3))
    (kk : ∀ (H : Heap) (locs : List Loc), Wd g n h cel' s H locs → W p l e R s m args below meth c H locs 0 0 Q (F0 m (pc + 3) ls (.long r :: rest))) : W p l e R s m args below meth c H locs 0 0 Q (F0 m pc ls (As.reverse ++ rest)) := by
  refine va_calll (mc := 0) (ms := 0) (va_runS (As := As) (rest := rest) ⟨X.1, X.2.1, X.2.2.1, X.2.2.2.1, X.2.2.2.2.1⟩ (M H.size) (va_cwS nA X.2.2.2.2.1 (gi_S hwd.1 hwd.2.1 hwd.2.2.1 hwd.2.2.2) rfl rfl rfl hy hR) ⟨PreW_blind, fun U hU hW => ⟨rfl, hw.pre X hU hW⟩⟩ rfl hn hl rfl (lv_room hst) hdg ⟨Nat.zero_le _, Nat.zero_le _⟩) hw.2.2.1 (fun q _ hq => hw.aw q hq) hw.aw (fun r1 u t H1 locs1 ht hvm hp hB hz1 hk1 hS => ?_)
  subst hp
  exact kk H1 locs1 (hw.post hB ht hS)
theorem k_Sv {index nA : Nat} {fr lo nM : Nat} {y : MethodName} {b : ByteArray} {rt : Option FieldType} {As : List Value} (X : Cx g p s m args c cc own nL) (hl : ls.size = nL) (hw : Wd g n h cel s H locs) (M : MetV l g y b nM rt fr lo n h cel cel' As)
    (hwd : Cond.methodLink own index y ∈ wsL_law ∧ Cond.static y ∈ wsL_law ∧ Cond.initialized y.cls ∈ wsL_law ∧ Cond.code y b nM rt ∈ wsL_law)
    (hy : y.cls ≠ "java/lang/invoke/MethodHandle" ∧ y.cls ≠ "java/lang/invoke/VarHandle" ∧ (parseMethodDescriptor y.desc).map (fun d => d.parameters.length) = some nA) (hn : As.length = nA) (hR : fr + 1 ≤ R.frames ∧ 8 + (nM + 11) + lo ≤ R.locals) (hst : (rest.map fun v => v.category).sum ≤ 8) (hdg : decode cc pc = .ok (.invokestatic index, 3))
    (kk : ∀ (H : Heap) (locs : List Loc), Wd g n h cel' s H locs → W p l e R s m args below meth c H locs 0 0 Q (F0 m (pc + 3) ls rest)) : W p l e R s m args below meth c H locs 0 0 Q (F0 m pc ls (As.reverse ++ rest)) := by
  refine va_callv (mc := 0) (ms := 0) (va_runS (As := As) (rest := rest) ⟨X.1, X.2.1, X.2.2.1, X.2.2.2.1, X.2.2.2.2.1⟩ (M H.size) (va_cwS nA X.2.2.2.2.1 (gi_S hwd.1 hwd.2.1 hwd.2.2.1 hwd.2.2.2) rfl rfl rfl hy hR) ⟨PreW_blind, fun U hU hW => ⟨rfl, hw.pre X hU hW⟩⟩ rfl hn hl rfl (lv_room hst) hdg ⟨Nat.zero_le _, Nat.zero_le _⟩) hw.2.2.1 (fun q _ hq => hw.aw q hq) hw.aw (fun u t H1 locs1 ht hvm hp hB hz1 hk1 hS => ?_)
  exact kk H1 locs1 (hw.post hB ht hS)
/-- the ends -/
theorem r_i {r v : Int32} (X : Cx g p s m args c cc own nL) (hw : Wd g n h cel s H locs) (hr : meth.sig.returnType = some .int) (hlocks : meth.locks = false) (hm : v = r) (hdg : decode cc pc = .ok (.ireturn, 1)) : W p l e R s m args below meth c H locs 0 0 (MQ below (va_Qi (fun x (_ : Unit) => x = r) (PostW g n h cel) (AW n h s.heap.size)) args s 0 0 (AW n h s.heap.size)) (F0 m pc ls [.int v]) :=
  W.iret (v := v) X.1 X.2.1 hr (fun t ht hW => ⟨⟨v, (), rfl, hm, by rw [ht]; exact hw.1, va_K.moved hW.alike X.2.2.2.2.2, hw.2.1.weaken (fun _ _ _ _ => trivial)⟩, hw.2.2.1.F ht⟩) hw.2.2.1.2.2 hdg hlocks
theorem r_z {r v : Int32} (X : Cx g p s m args c cc own nL) (hw : Wd g n h cel s H locs) (hr : meth.sig.returnType = some .boolean) (hlocks : meth.locks = false) (hz : v = 0 ∨ v = 1) (hm : v = r) (hdg : decode cc pc = .ok (.ireturn, 1)) : W p l e R s m args below meth c H locs 0 0 (MQ below (va_Qi (fun x (_ : Unit) => x = r) (PostW g n h cel) (AW n h s.heap.size)) args s 0 0 (AW n h s.heap.size)) (F0 m pc ls [.int v]) :=
  W.zret (v := v) X.1 X.2.1 hr (by rcases hz with rfl | rfl <;> rfl) (fun t ht hW => ⟨⟨v, (), rfl, hm, by rw [ht]; exact hw.1, va_K.moved hW.alike X.2.2.2.2.2, hw.2.1.weaken (fun _ _ _ _ => trivial)⟩, hw.2.2.1.F ht⟩) hw.2.2.1.2.2 hdg hlocks
theorem r_l {r v : Int64} (X : Cx g p s m args c cc own nL) (hw : Wd g n h cel s H locs) (hr : meth.sig.returnType = some .long) (hlocks : meth.locks = false) (hm : v = r) (hdg : decode cc pc = .ok (.lreturn, 1)) : W p l e R s m args below meth c H locs 0 0 (MQ below (va_Ql (fun x (_ : Unit) => x = r) (PostW g n h cel) (AW n h s.heap.size)) args s 0 0 (AW n h s.heap.size)) (F0 m pc ls [.long v]) :=
  W.lret (v := v) X.1 X.2.1 hr (fun t ht hW => ⟨⟨v, (), rfl, hm, by rw [ht]; exact hw.1, va_K.moved hW.alike X.2.2.2.2.2, hw.2.1.weaken (fun _ _ _ _ => trivial)⟩, hw.2.2.1.F ht⟩) hw.2.2.1.2.2 hdg hlocks
theorem r_v (X : Cx g p s m args c cc own nL) (hw : Wd g n h cel s H locs) (hr : meth.sig.returnType = none) (hlocks : meth.locks = false) (hdg : decode cc pc = .ok (.return_, 1)) : W p l e R s m args below meth c H locs 0 0 (MQ below (va_Qv (fun (_ : Unit) => True) (PostW g n h cel) (AW n h s.heap.size)) args s 0 0 (AW n h s.heap.size)) (F0 m pc ls []) :=
  W.vret X.1 X.2.1 hr (fun t ht hW => ⟨⟨(), rfl, trivial, by rw [ht]; exact hw.1, va_K.moved hW.alike X.2.2.2.2.2, hw.2.1.weaken (fun _ _ _ _ => trivial)⟩, hw.2.2.1.F ht⟩) hw.2.2.1.2.2 hdg hlocks
/-- a field is read -/
theorem x_get {C : String} {T : u_T} {N ci index : Nat} (X : Cx g p s m args c cc own nL) (hw : Wd g n h cel s H locs) (hin : ∀ w ∈ u_ws C T N, w ∈ wsL_law) (hc : vwCl[ci]? = some (C, T, N)) (k : Nat) (hk : k < n) {fs : List Value} (he : cel k = .inr (ci, fs)) (j : Nat) (hj : j < N) (hlink : Cond.fieldLink own index (T j).1 (T j).2.1 (T j).2.2.1 ∈ wsL_law) {v : Value} (hv : fs[j]? = some v) (hdg : decode cc pc = .ok (.getfield index, 3))
    (kk : W p l e R s m args below meth c H locs 0 0 Q (F0 m (pc + 3) ls (v :: rest))) : W p l e R s m args below meth c H locs 0 0 Q (F0 m pc ls (.ref (h k) :: rest)) :=
  va_get X.1 X.2.1 X.2.2.2.2.1 hin X.2.2.2.1 X.2.2.2.2.2 hw.1 k (WL_get' hk he) hc j hj (X.2.2.2.2.1 _ hlink) (fun _ h9 => h9) hv hdg kk
/-- a field is written -/
theorem x_put {C : String} {T : u_T} {ty0 : Nat → FieldType} {N ci index : Nat} (X : Cx g p s m args c cc own nL) (hw : Wd g n h cel s H locs) (hin : ∀ w ∈ u_ws C T N, w ∈ wsL_law) (hty : ∀ k, k < N → parseFieldDescriptor (T k).2.2.1 = some (ty0 k)) (hnm : ∀ a, a < N → ∀ b, b < N → a ≠ b → (T a).2.1 ≠ (T b).2.1) (hc : vwCl[ci]? = some (C, T, N)) (k : Nat) (hk : k < n) {fs : List Value} (he : cel k = .inr (ci, fs)) (j : Nat) (hj : j < N) (hlink : Cond.fieldLink own index (T j).1 (T j).2.1 (T j).2.2.1 ∈ wsL_law) (hfin : (T j).2.2.2 = false) {ty : FieldType} {v : Value} (hd : parseFieldDescriptor (T j).2.2.1 = some ty) (hn : narrow ty v = v) (hfit : fits ty v = true) (hl : j < fs.length) (hdg : decode cc pc = .ok (.putfield index, 3)) (hs1 : cel' k = .inr (ci, fs.set j v)) (hs2 : ∀ i, i ≠ k → cel' i = cel i)
    (kk : ∀ (H : Heap) (locs : List Loc), Wd g n h cel' s H locs → W p l e R s m args below meth c H locs 0 0 Q (F0 m (pc + 3) ls rest)) : W p l e R s m args below meth c H locs 0 0 Q (F0 m pc ls (v :: .ref (h k) :: rest)) :=
  va_put X.1 X.2.1 X.2.2.2.2.1 hin ty0 hty hnm X.2.2.2.1 X.2.2.2.2.2 hw.1 hw.2.1 hw.2.2.1 k (WL_get' hk he) hc j hj (X.2.2.2.2.1 _ hlink) (fun _ h9 => h9) hfin hd hn hfit hl hdg (fun H1 locs1 hP hD hS => by
    rw [WL_set hk hs1 hs2] at hP hD
    exact kk H1 locs1 ⟨hP, hD, hS, hw.2.2.2⟩)
theorem x_iald (X : Cx g p s m args c cc own nL) (hw : Wd g n h cel s H locs) (k : Nat) (hk : k < n) {len : Nat} {f : Nat → Int32} (he : cel k = .inl (g.2.1, len, .inl f)) {i : Int32} (hin : ¬ (i < 0 ∨ len ≤ i.toNatClampNeg)) (hdg : decode cc pc = .ok (.iaload, 1))
    (kk : W p l e R s m args below meth c H locs 0 0 Q (F0 m (pc + 1) ls (.int (f i.toNatClampNeg) :: rest))) : W p l e R s m args below meth c H locs 0 0 Q (F0 m pc ls (.int i :: .ref (h k) :: rest)) :=
  va_iald X.1 X.2.1 X.2.2.2.2.2 hw.1 k 0 (WL_get' hk he) rfl hin hdg kk
theorem x_lald (X : Cx g p s m args c cc own nL) (hw : Wd g n h cel s H locs) (k : Nat) (hk : k < n) {len : Nat} {f : Nat → Int64} (he : cel k = .inl (g.2.2.1, len, .inr (.inl f))) {i : Int32} (hin : ¬ (i < 0 ∨ len ≤ i.toNatClampNeg)) (hdg : decode cc pc = .ok (.laload, 1))
    (kk : W p l e R s m args below meth c H locs 0 0 Q (F0 m (pc + 1) ls (.long (f i.toNatClampNeg) :: rest))) : W p l e R s m args below meth c H locs 0 0 Q (F0 m pc ls (.int i :: .ref (h k) :: rest)) :=
  va_lald X.1 X.2.1 X.2.2.2.2.2 hw.1 k 1 (WL_get' hk he) rfl hin hdg kk
theorem x_iast (X : Cx g p s m args c cc own nL) (hw : Wd g n h cel s H locs) (k : Nat) (hk : k < n) {len : Nat} {f : Nat → Int32} (he : cel k = .inl (g.2.1, len, .inl f)) {i x : Int32} (hin : ¬ (i < 0 ∨ len ≤ i.toNatClampNeg)) (hdg : decode cc pc = .ok (.iastore, 1)) (hs1 : cel' k = .inl (g.2.1, len, .inl (upd f i.toNatClampNeg x))) (hs2 : ∀ j, j ≠ k → cel' j = cel j)
    (kk : ∀ (H : Heap) (locs : List Loc), Wd g n h cel' s H locs → W p l e R s m args below meth c H locs 0 0 Q (F0 m (pc + 1) ls rest)) : W p l e R s m args below meth c H locs 0 0 Q (F0 m pc ls (.int x :: .int i :: .ref (h k) :: rest)) :=
  va_iast X.1 X.2.1 X.2.2.2.2.2 hw.1 hw.2.1 hw.2.2.1 k 0 (WL_get' hk he) rfl hin hdg (fun H1 locs1 hP hD hS => by
    rw [WL_set hk hs1 hs2] at hP hD
    exact kk H1 locs1 ⟨hP, hD, hS, hw.2.2.2⟩)
theorem x_last (X : Cx g p s m args c cc own nL) (hw : Wd g n h cel s H locs) (k : Nat) (hk : k < n) {len : Nat} {f : Nat → Int64} (he : cel k = .inl (g.2.2.1, len, .inr (.inl f))) {i : Int32} {x : Int64} (hin : ¬ (i < 0 ∨ len ≤ i.toNatClampNeg)) (hdg : decode cc pc = .ok (.lastore, 1)) (hs1 : cel' k = .inl (g.2.2.1, len, .inr (.inl (vp_updL f i.toNatClampNeg x)))) (hs2 : ∀ j, j ≠ k → cel' j = cel j)
    (kk : ∀ (H : Heap) (locs : List Loc), Wd g n h cel' s H locs → W p l e R s m args below meth c H locs 0 0 Q (F0 m (pc + 1) ls rest)) : W p l e R s m args below meth c H locs 0 0 Q (F0 m pc ls (.long x :: .int i :: .ref (h k) :: rest)) :=
  va_last X.1 X.2.1 X.2.2.2.2.2 hw.1 hw.2.1 hw.2.2.1 k 1 (WL_get' hk he) rfl hin hdg (fun H1 locs1 hP hD hS => by
    rw [WL_set hk hs1 hs2] at hP hD
    exact kk H1 locs1 ⟨hP, hD, hS, hw.2.2.2⟩)
theorem x_alen (X : Cx g p s m args c cc own nL) (hw : Wd g n h cel s H locs) (k t : Nat) (hk : k < n) {cA : ClassId} {x : vp_A} (he : cel k = .inl (cA, x)) {ty : FieldType} (ht : (TY g)[t]? = some (cA, ty)) {v : Int32} (hv : Int32.ofNat x.1 = v) (hdg : decode cc pc = .ok (.arraylength, 1))
    (kk : W p l e R s m args below meth c H locs 0 0 Q (F0 m (pc + 1) ls (.int v :: rest))) : W p l e R s m args below meth c H locs 0 0 Q (F0 m pc ls (.ref (h k) :: rest)) :=
  va_alen X.1 X.2.1 X.2.2.2.2.2 hw.1 k t (WL_get' hk he) ht hv hdg kk
theorem x_aldq (X : Cx g p s m args c cc own nL) (hw : Wd g n h cel s H locs) (k : Nat) (hk : k < n) {len : Nat} {f : Nat → Option Nat} (he : cel k = .inl (g.2.2.2.1, len, .inr (.inr (.inr (.inr f))))) {i : Int32} {a : Nat} (hin : ¬ (i < 0 ∨ len ≤ i.toNatClampNeg)) (hf : f i.toNatClampNeg = some a) (hdg : decode cc pc = .ok (.aaload, 1))
    (kk : W p l e R s m args below meth c H locs 0 0 Q (F0 m (pc + 1) ls (.ref a :: rest))) : W p l e R s m args below meth c H locs 0 0 Q (F0 m pc ls (.int i :: .ref (h k) :: rest)) :=
  va_aldq X.1 X.2.1 X.2.2.2.2.2 hw.1 k 2 (WL_get' hk he) rfl hin hdg (by rw [hf]; exact kk)
theorem x_ald2 (X : Cx g p s m args c cc own nL) (hw : Wd g n h cel s H locs) (k : Nat) (hk : k < n) {len : Nat} {f : Nat → Option Nat} (he : cel k = .inl (g.2.2.2.2.1, len, .inr (.inr (.inr (.inr f))))) {i : Int32} {a : Nat} (hin : ¬ (i < 0 ∨ len ≤ i.toNatClampNeg)) (hf : f i.toNatClampNeg = some a) (hdg : decode cc pc = .ok (.aaload, 1))
    (kk : W p l e R s m args below meth c H locs 0 0 Q (F0 m (pc + 1) ls (.ref a :: rest))) : W p l e R s m args below meth c H locs 0 0 Q (F0 m pc ls (.int i :: .ref (h k) :: rest)) := by
  have hlt : i.toNatClampNeg < len := Nat.not_le.mp fun q => hin (Or.inr q)
  exact W.aald (v := va_rf (f i.toNatClampNeg)) (ty := .array .long) X.1 X.2.1 (hw.1 k _ (WL_get' hk he)) ((X.2.2.2.2.2.2 3 _ rfl).1 len (fun j => va_rf (f j))) rfl (fun q => by cases q) (by show ¬ (i < 0 ∨ (arrV _ _ _).slots.size ≤ _); rw [arrV_size]; exact hin) (by show (arrV _ _ _).slots[_]? = _; rw [arrV_read _ _ hlt]) rfl rfl hdg (by rw [hf]; exact kk)
theorem x_max {index : Nat} {x y : Int32} {ws' : List Cond} (X : Cx g p s m args c cc own nL) (hl : ls.size = nL) (hlink : Cond.methodLink own index Lib.Math.max.name ∈ wsL_law) (hR : 1 ≤ R.frames) (hst : (rest.map fun v => v.category).sum + 13 ≤ R.locals) (hdg : decode cc pc = .ok (.invokestatic index, 3)) (h1 : Cond.static Lib.Math.max.name ∈ wsL_law) (h2 : Cond.initialized "java/lang/Math" ∈ wsL_law) (h3 : Cond.code Lib.Math.max.name Lib.Math.max.code 2 (some .int) ∈ wsL_law)
    (kk : W p l e R s m args below meth c H locs 0 0 Q (F0 m (pc + 3) ls (.int (if x < y then y else x) :: rest))) : W p l e R s m args below meth c H locs 0 0 Q (F0 m pc ls (.int y :: .int x :: rest)) :=
  va_mmax X.1 X.2.1 (X.2.2.1.trans hl.symm) X.2.2.2.1 (X.2.2.2.2.1 _ hlink) (X.2.2.2.2.1 _ h1) (X.2.2.2.2.1 _ h2) (X.2.2.2.2.1 _ h3) hR hst (Nat.zero_le _) (Nat.zero_le _) hdg kk
theorem x_min {index : Nat} {x y : Int32} {ws' : List Cond} (X : Cx g p s m args c cc own nL) (hl : ls.size = nL) (hlink : Cond.methodLink own index Lib.Math.min.name ∈ wsL_law) (hR : 1 ≤ R.frames) (hst : (rest.map fun v => v.category).sum + 13 ≤ R.locals) (hdg : decode cc pc = .ok (.invokestatic index, 3)) (h1 : Cond.static Lib.Math.min.name ∈ wsL_law) (h2 : Cond.initialized "java/lang/Math" ∈ wsL_law) (h3 : Cond.code Lib.Math.min.name Lib.Math.min.code 2 (some .int) ∈ wsL_law)
    (kk : W p l e R s m args below meth c H locs 0 0 Q (F0 m (pc + 3) ls (.int (if y < x then y else x) :: rest))) : W p l e R s m args below meth c H locs 0 0 Q (F0 m pc ls (.int y :: .int x :: rest)) :=
  va_mmin X.1 X.2.1 (X.2.2.1.trans hl.symm) X.2.2.2.1 (X.2.2.2.2.1 _ hlink) (X.2.2.2.2.1 _ h1) (X.2.2.2.2.1 _ h2) (X.2.2.2.2.1 _ h3) hR hst (Nat.zero_le _) (Nat.zero_le _) hdg kk
end VB
/-- a method's contract out of the walk of its body -/
theorem MetI.ofX {l : Launch} {g : gT} {y : MethodName} {b : ByteArray} {nL : Nat} {fr lo n : Nat} {h : Nat → Nat} {cel cel' : Nat → va_E} {av : List Value} {r : Int32} (hy : plainName y.cls = true) (hfit : (lg_sl av).length ≤ nL)
    (body : ∀ (p : Program) (e : Env) (s : State) (m : MethodId) (below : List Frame) (meth : Method) (c : Code) (AV : Array Value) (Q : State → Prop), Cx g p s m AV c b y.cls nL → (∀ (H : Heap) (locs : List Loc) (pc : Nat) (ls : Array Slot), Wd g n h cel' s H locs → decode b pc = .ok (.ireturn, 1) → W p l e (rW fr lo) s m AV below meth c H locs 0 0 Q (F0 m pc ls [.int r])) → ∀ ls : Array Slot, Wd g n h cel s s.heap [] → lv_has ls nL (lv_args 0 av) → W p l e (rW fr lo) s m AV below meth c s.heap [] 0 0 Q (F0 m 0 ls [])) : MetI l g y b nL (some .int) fr lo n h cel cel' av r := by
  intro sz
  refine Met.ofW (cc := b) (maxL := nL) (ret := (some .int)) hy rfl ?_
  intro p e s m args below meth c s₁ B hml hv
  obtain ⟨rfl, hsz, hP, hK, hD0, hSW⟩ := hv
  have hts := atoms_spec (ws := .code y b nL (some .int) :: wsL_law) B.pre
  subst hsz
  have hl := lv_entry av (n := nL) hfit
  rw [lg_entry_eq]
  have X : Cx g p s m av.toArray c b y.cls nL := ⟨B.exec, B.bytes, hml, findClass_of_methodNamed B.named, fun w hw => hts w (List.mem_cons_of_mem _ hw), hK⟩
  exact body p e s m below meth c _ _ X (fun H locs pc ls hw hd => r_i X hw B.returns B.notSynchronized rfl hd) _ ⟨hP, AW_D hD0, va_S.rf, hSW⟩ hl
theorem MetZ.ofX {l : Launch} {g : gT} {y : MethodName} {b : ByteArray} {nL : Nat} {fr lo n : Nat} {h : Nat → Nat} {cel cel' : Nat → va_E} {av : List Value} {r : Int32} (hy : plainName y.cls = true) (hfit : (lg_sl av).length ≤ nL)
    (body : ∀ (p : Program) (e : Env) (s : State) (m : MethodId) (below : List Frame) (meth : Method) (c : Code) (AV : Array Value) (Q : State → Prop), Cx g p s m AV c b y.cls nL → (∀ (H : Heap) (locs : List Loc) (pc : Nat) (ls : Array Slot), Wd g n h cel' s H locs → decode b pc = .ok (.ireturn, 1) → (r = 0 ∨ r = 1) → W p l e (rW fr lo) s m AV below meth c H locs 0 0 Q (F0 m pc ls [.int r])) → ∀ ls : Array Slot, Wd g n h cel s s.heap [] → lv_has ls nL (lv_args 0 av) → W p l e (rW fr lo) s m AV below meth c s.heap [] 0 0 Q (F0 m 0 ls [])) : MetI l g y b nL (some .boolean) fr lo n h cel cel' av r := by
  intro sz
  refine Met.ofW (cc := b) (maxL := nL) (ret := (some .boolean)) hy rfl ?_
  intro p e s m args below meth c s₁ B hml hv
  obtain ⟨rfl, hsz, hP, hK, hD0, hSW⟩ := hv
  have hts := atoms_spec (ws := .code y b nL (some .boolean) :: wsL_law) B.pre
  subst hsz
  have hl := lv_entry av (n := nL) hfit
  rw [lg_entry_eq]
  have X : Cx g p s m av.toArray c b y.cls nL := ⟨B.exec, B.bytes, hml, findClass_of_methodNamed B.named, fun w hw => hts w (List.mem_cons_of_mem _ hw), hK⟩
  exact body p e s m below meth c _ _ X (fun H locs pc ls hw hd hz => r_z X hw B.returns B.notSynchronized hz rfl hd) _ ⟨hP, AW_D hD0, va_S.rf, hSW⟩ hl
theorem MetL.ofX {l : Launch} {g : gT} {y : MethodName} {b : ByteArray} {nL : Nat} {fr lo n : Nat} {h : Nat → Nat} {cel cel' : Nat → va_E} {av : List Value} {r : Int64} (hy : plainName y.cls = true) (hfit : (lg_sl av).length ≤ nL)
    (body : ∀ (p : Program) (e : Env) (s : State) (m : MethodId) (below : List Frame) (meth : Method) (c : Code) (AV : Array Value) (Q : State → Prop), Cx g p s m AV c b y.cls nL → (∀ (H : Heap) (locs : List Loc) (pc : Nat) (ls : Array Slot), Wd g n h cel' s H locs → decode b pc = .ok (.lreturn, 1) → W p l e (rW fr lo) s m AV below meth c H locs 0 0 Q (F0 m pc ls [.long r])) → ∀ ls : Array Slot, Wd g n h cel s s.heap [] → lv_has ls nL (lv_args 0 av) → W p l e (rW fr lo) s m AV below meth c s.heap [] 0 0 Q (F0 m 0 ls [])) : MetL l g y b nL (some .long) fr lo n h cel cel' av r := by
  intro sz
  refine Met.ofW (cc := b) (maxL := nL) (ret := (some .long)) hy rfl ?_
  intro p e s m args below meth c s₁ B hml hv
  obtain ⟨rfl, hsz, hP, hK, hD0, hSW⟩ := hv
  have hts := atoms_spec (ws := .code y b nL (some .long) :: wsL_law) B.pre
  subst hsz
  have hl := lv_entry av (n := nL) hfit
  rw [lg_entry_eq]
  have X : Cx g p s m av.toArray c b y.cls nL := ⟨B.exec, B.bytes, hml, findClass_of_methodNamed B.named, fun w hw => hts w (List.mem_cons_of_mem _ hw), hK⟩
  exact body p e s m below meth c _ _ X (fun H locs pc ls hw hd => r_l X hw B.returns B.notSynchronized rfl hd) _ ⟨hP, AW_D hD0, va_S.rf, hSW⟩ hl
theorem MetV.ofX {l : Launch} {g : gT} {y : MethodName} {b : ByteArray} {nL : Nat} {fr lo n : Nat} {h : Nat → Nat} {cel cel' : Nat → va_E} {av : List Value}  (hy : plainName y.cls = true) (hfit : (lg_sl av).length ≤ nL)
    (body : ∀ (p : Program) (e : Env) (s : State) (m : MethodId) (below : List Frame) (meth : Method) (c : Code) (AV : Array Value) (Q : State → Prop), Cx g p s m AV c b y.cls nL → (∀ (H : Heap) (locs : List Loc) (pc : Nat) (ls : Array Slot), Wd g n h cel' s H locs → decode b pc = .ok (.return_, 1) → W p l e (rW fr lo) s m AV below meth c H locs 0 0 Q (F0 m pc ls [])) → ∀ ls : Array Slot, Wd g n h cel s s.heap [] → lv_has ls nL (lv_args 0 av) → W p l e (rW fr lo) s m AV below meth c s.heap [] 0 0 Q (F0 m 0 ls [])) : MetV l g y b nL none fr lo n h cel cel' av := by
  intro sz
  refine Met.ofW (cc := b) (maxL := nL) (ret := none) hy rfl ?_
  intro p e s m args below meth c s₁ B hml hv
  obtain ⟨rfl, hsz, hP, hK, hD0, hSW⟩ := hv
  have hts := atoms_spec (ws := .code y b nL none :: wsL_law) B.pre
  subst hsz
  have hl := lv_entry av (n := nL) hfit
  rw [lg_entry_eq]
  have X : Cx g p s m av.toArray c b y.cls nL := ⟨B.exec, B.bytes, hml, findClass_of_methodNamed B.named, fun w hw => hts w (List.mem_cons_of_mem _ hw), hK⟩
  exact body p e s m below meth c _ _ X (fun H locs pc ls hw hd => r_v X hw B.returns B.notSynchronized hd) _ ⟨hP, AW_D hD0, va_S.rf, hSW⟩ hl
/-- how loops that may return hand on: fell out of the loop, or returned -/
def ex {α β γ : Type} (e : α ⊕ β) (f : α → Option γ) (k : β → Option γ) : Option γ := match e with
  | .inl a => f a
  | .inr r => k r
theorem ex_l {α β γ : Type} {a : α} {f : α → Option γ} {k : β → Option γ} {z : γ} (h : ex (.inl a) f k = some z) : f a = some z := h
theorem ex_r {α β γ : Type} {r : β} {f : α → Option γ} {k : β → Option γ} {z : γ} (h : ex (.inr r) f k = some z) : k r = some z := h
def un {α β γ : Type} (q : α × β) (f : α → β → γ) : γ := f q.1 q.2
theorem un_e {α β γ : Type} {a : α} {b : β} {f : α → β → γ} {z : γ} (h : un (a, b) f = z) : f a b = z := h
/-- a switch over a table -/
theorem x_tab {p : Program} {l : Launch} {e : Env} {R : Room} {s : State} {m : MethodId} {args : Array Value} {below : List Frame} {meth : Method} {c : Code} {H : Heap} {locs : List Loc} {Q : State → Prop} {cc : ByteArray} {pc : Nat} {ls : Array Slot} {rest : List Value} {own : String} {nL : Nat} {g : gT} (X : Cx g p s m args c cc own nL) {dflt lo hi : Int} {offs : Array Int} {len : Nat} {x k : Int32} {off : Int} {tgt : Nat} (hx : x = k) (hdg : decode cc pc = .ok (.tableswitch dflt lo hi offs, len)) (h1 : ¬ k.toInt < lo) (h2 : ¬ hi < k.toInt) (ho : offs[(k.toInt - lo).toNat]? = some off) (ht : (pc : Int) + off = (tgt : Int))
    (kk : W p l e R s m args below meth c H locs 0 0 Q (F0 m tgt ls rest)) : W p l e R s m args below meth c H locs 0 0 Q (F0 m pc ls (.int x :: rest)) := by
  subst hx
  exact lv_tableIn X.1 X.2.1 hdg h1 h2 ho ht kk
def cFix (g : gT) (h : Nat → Nat) (t : ST) : Nat → va_E := fun k => match k with
  | 0 => .inr (8, [.ref (h 1), .ref (h 8), .ref (h 10), .ref (h 12), .ref (h 14), .ref (h 16), .ref (h 18)])
  | 1 => .inr (1, [.ref (h 2), .ref (h 3), .ref (h 4), .ref (h 5), .ref (h 6), .ref (h 7), .int (t.1 0), .int (t.1 1), .int (t.1 2), .int (t.1 3)])
  | 2 => .inl (g.2.1, 10, .inl (t.2.2.1 0))
  | 3 => .inl (g.2.1, 10, .inl (t.2.2.1 1))
  | 4 => .inl (g.2.1, 10, .inl (t.2.2.1 2))
  | 5 => .inl (g.2.1, 10, .inl (t.2.2.1 3))
  | 6 => .inl (g.2.1, 10, .inl (t.2.2.1 4))
  | 7 => .inl (g.2.2.1, 1024, .inr (.inl (t.2.2.2 0)))
  | 8 => .inr (2, [.ref (h 1), .ref (h 9), .long (t.2.1 0)])
  | 9 => .inl (g.2.2.1, 1024, .inr (.inl (t.2.2.2 1)))
  | 10 => .inr (4, [.ref (h 1), .ref (h 11)])
  | 11 => .inl (g.2.1, 11, .inl (t.2.2.1 5))
  | 12 => .inr (5, [.ref (h 1), .ref (h 13)])
  | 13 => .inl (g.2.2.1, 1024, .inr (.inl (t.2.2.2 2)))
  | 14 => .inr (0, [.ref (h 1), .ref (h 15), .int (t.1 4), .int (t.1 5), .int (t.1 6)])
  | 15 => .inl (g.2.2.2.1, 11, .inr (.inr (.inr (.inr (fun i => some (h (24 + 5 * i)))))))
  | 16 => .inr (3, [.ref (h 1), .ref (h 17), .int (t.1 7), .int (t.1 8)])
  | 17 => .inl (g.2.1, 60, .inl (t.2.2.1 6))
  | 18 => .inr (6, [.ref (h 19), .ref (h 23), .int (t.1 9)])
  | 19 => .inl (g.2.2.2.2.1, 3, .inr (.inr (.inr (.inr (fun i => some (h (20 + i)))))))
  | 20 => .inl (g.2.2.1, 40, .inr (.inl (t.2.2.2 3)))
  | 21 => .inl (g.2.2.1, 40, .inr (.inl (t.2.2.2 4)))
  | 22 => .inl (g.2.2.1, 40, .inr (.inl (t.2.2.2 5)))
  | 23 => .inl (g.2.1, 3, .inl (t.2.2.1 7))
  | _ => .inl (g.2.1, 0, .inl fun _ => 0)
def cTn (g : gT) (h : Nat → Nat) (t : ST) (d : Nat) : Nat → va_E := fun j => match j with
  | 0 => .inr (7, [.ref (h (24 + 5 * d + 1)), .ref (h (24 + 5 * d + 2)), .ref (h (24 + 5 * d + 3)), .ref (h (24 + 5 * d + 4)), .int (t.1 0), .int (t.1 1), .long (t.2.1 0), .long (t.2.1 1)])
  | 1 => .inl (g.2.1, 10, .inl (t.2.2.1 0))
  | 2 => .inl (g.2.1, 10, .inl (t.2.2.1 1))
  | 3 => .inl (g.2.2.1, 10, .inr (.inl (t.2.2.2 0)))
  | _ => .inl (g.2.2.1, 10, .inr (.inl (t.2.2.2 1)))
/-- the class: what each of its 79 cells holds -/
def cC (g : gT) (h : Nat → Nat) (u : CS) : Nat → va_E := fun k => if k < 24 then cFix g h u.1 k else cTn g h (u.2 ((k - 24) / 5)) ((k - 24) / 5) ((k - 24) % 5)
theorem cC_tn (g : gT) (h : Nat → Nat) (u : CS) (d j : Nat) (hj : j < 5) : cC g h u (24 + 5 * d + j) = cTn g h (u.2 d) d j := by
  unfold cC
  rw [if_neg (by omega), show (24 + 5 * d + j - 24) / 5 = d by omega, show (24 + 5 * d + j - 24) % 5 = j by omega]
theorem cC_tn0 (g : gT) (h : Nat → Nat) (u : CS) (d : Nat) : cC g h u (24 + 5 * d) = cTn g h (u.2 d) d 0 := cC_tn g h u d 0 (by omega)
theorem cC_T (g : gT) (h : Nat → Nat) (u : CS) (d j : Nat) (t : ST) (ht : ∀ i, i < 5 → i ≠ j → cTn g h t d i = cTn g h (u.2 d) d i) : ∀ i, i ≠ 24 + 5 * d + j → cC g h (bT u d t) i = cC g h u i := by
  intro i hi
  unfold cC bT
  by_cases h1 : i < 24
  · rw [if_pos h1, if_pos h1]
  · rw [if_neg h1, if_neg h1]
    dsimp only
    by_cases h2 : (i - 24) / 5 = d
    · subst h2
      unfold va_up
      rw [if_pos rfl]
      exact ht _ (Nat.mod_lt _ (by omega)) (fun q => hi (by omega))
    · unfold va_up
      rw [if_neg h2]
theorem nA0 (g : gT) (h : Nat → Nat) (t : ST) (j : Nat) (v : Int32) : ∀ i, i ≠ 2 → cFix g h (wA t 0 j v) i = cFix g h t i
  | 0, _ => rfl
  | 1, _ => rfl
  | 2, hn => absurd rfl hn
  | 3, _ => rfl
  | 4, _ => rfl
  | 5, _ => rfl
  | 6, _ => rfl
  | 7, _ => rfl
  | 8, _ => rfl
  | 9, _ => rfl
  | 10, _ => rfl
  | 11, _ => rfl
  | 12, _ => rfl
  | 13, _ => rfl
  | 14, _ => rfl
  | 15, _ => rfl
  | 16, _ => rfl
  | 17, _ => rfl
  | 18, _ => rfl
  | 19, _ => rfl
  | 20, _ => rfl
  | 21, _ => rfl
  | 22, _ => rfl
  | 23, _ => rfl
  | _ + 24, _ => rfl
theorem nA1 (g : gT) (h : Nat → Nat) (t : ST) (j : Nat) (v : Int32) : ∀ i, i ≠ 3 → cFix g h (wA t 1 j v) i = cFix g h t i
  | 0, _ => rfl
  | 1, _ => rfl
  | 2, _ => rfl
  | 3, hn => absurd rfl hn
  | 4, _ => rfl
  | 5, _ => rfl
  | 6, _ => rfl
  | 7, _ => rfl
  | 8, _ => rfl
  | 9, _ => rfl
  | 10, _ => rfl
  | 11, _ => rfl
  | 12, _ => rfl
  | 13, _ => rfl
  | 14, _ => rfl
  | 15, _ => rfl
  | 16, _ => rfl
  | 17, _ => rfl
  | 18, _ => rfl
  | 19, _ => rfl
  | 20, _ => rfl
  | 21, _ => rfl
  | 22, _ => rfl
  | 23, _ => rfl
  | _ + 24, _ => rfl
theorem nA2 (g : gT) (h : Nat → Nat) (t : ST) (j : Nat) (v : Int32) : ∀ i, i ≠ 4 → cFix g h (wA t 2 j v) i = cFix g h t i
  | 0, _ => rfl
  | 1, _ => rfl
  | 2, _ => rfl
  | 3, _ => rfl
  | 4, hn => absurd rfl hn
  | 5, _ => rfl
  | 6, _ => rfl
  | 7, _ => rfl
  | 8, _ => rfl
  | 9, _ => rfl
  | 10, _ => rfl
  | 11, _ => rfl
  | 12, _ => rfl
  | 13, _ => rfl
  | 14, _ => rfl
  | 15, _ => rfl
  | 16, _ => rfl
  | 17, _ => rfl
  | 18, _ => rfl
  | 19, _ => rfl
  | 20, _ => rfl
  | 21, _ => rfl
  | 22, _ => rfl
  | 23, _ => rfl
  | _ + 24, _ => rfl
theorem nA3 (g : gT) (h : Nat → Nat) (t : ST) (j : Nat) (v : Int32) : ∀ i, i ≠ 5 → cFix g h (wA t 3 j v) i = cFix g h t i
  | 0, _ => rfl
  | 1, _ => rfl
  | 2, _ => rfl
  | 3, _ => rfl
  | 4, _ => rfl
  | 5, hn => absurd rfl hn
  | 6, _ => rfl
  | 7, _ => rfl
  | 8, _ => rfl
  | 9, _ => rfl
  | 10, _ => rfl
  | 11, _ => rfl
  | 12, _ => rfl
  | 13, _ => rfl
  | 14, _ => rfl
  | 15, _ => rfl
  | 16, _ => rfl
  | 17, _ => rfl
  | 18, _ => rfl
  | 19, _ => rfl
  | 20, _ => rfl
  | 21, _ => rfl
  | 22, _ => rfl
  | 23, _ => rfl
  | _ + 24, _ => rfl
theorem nA4 (g : gT) (h : Nat → Nat) (t : ST) (j : Nat) (v : Int32) : ∀ i, i ≠ 6 → cFix g h (wA t 4 j v) i = cFix g h t i
  | 0, _ => rfl
  | 1, _ => rfl
  | 2, _ => rfl
  | 3, _ => rfl
  | 4, _ => rfl
  | 5, _ => rfl
  | 6, hn => absurd rfl hn
  | 7, _ => rfl
  | 8, _ => rfl
  | 9, _ => rfl
  | 10, _ => rfl
  | 11, _ => rfl
  | 12, _ => rfl
  | 13, _ => rfl
  | 14, _ => rfl
  | 15, _ => rfl
  | 16, _ => rfl
  | 17, _ => rfl
  | 18, _ => rfl
  | 19, _ => rfl
  | 20, _ => rfl
  | 21, _ => rfl
  | 22, _ => rfl
  | 23, _ => rfl
  | _ + 24, _ => rfl
theorem nA5 (g : gT) (h : Nat → Nat) (t : ST) (j : Nat) (v : Int32) : ∀ i, i ≠ 11 → cFix g h (wA t 5 j v) i = cFix g h t i
  | 0, _ => rfl
  | 1, _ => rfl
  | 2, _ => rfl
  | 3, _ => rfl
  | 4, _ => rfl
  | 5, _ => rfl
  | 6, _ => rfl
  | 7, _ => rfl
  | 8, _ => rfl
  | 9, _ => rfl
  | 10, _ => rfl
  | 11, hn => absurd rfl hn
  | 12, _ => rfl
  | 13, _ => rfl
  | 14, _ => rfl
  | 15, _ => rfl
  | 16, _ => rfl
  | 17, _ => rfl
  | 18, _ => rfl
  | 19, _ => rfl
  | 20, _ => rfl
  | 21, _ => rfl
  | 22, _ => rfl
  | 23, _ => rfl
  | _ + 24, _ => rfl
theorem nA6 (g : gT) (h : Nat → Nat) (t : ST) (j : Nat) (v : Int32) : ∀ i, i ≠ 17 → cFix g h (wA t 6 j v) i = cFix g h t i
  | 0, _ => rfl
  | 1, _ => rfl
  | 2, _ => rfl
  | 3, _ => rfl
  | 4, _ => rfl
  | 5, _ => rfl
  | 6, _ => rfl
  | 7, _ => rfl
  | 8, _ => rfl
  | 9, _ => rfl
  | 10, _ => rfl
  | 11, _ => rfl
  | 12, _ => rfl
  | 13, _ => rfl
  | 14, _ => rfl
  | 15, _ => rfl
  | 16, _ => rfl
  | 17, hn => absurd rfl hn
  | 18, _ => rfl
  | 19, _ => rfl
  | 20, _ => rfl
  | 21, _ => rfl
  | 22, _ => rfl
  | 23, _ => rfl
  | _ + 24, _ => rfl
theorem nA7 (g : gT) (h : Nat → Nat) (t : ST) (j : Nat) (v : Int32) : ∀ i, i ≠ 23 → cFix g h (wA t 7 j v) i = cFix g h t i
  | 0, _ => rfl
  | 1, _ => rfl
  | 2, _ => rfl
  | 3, _ => rfl
  | 4, _ => rfl
  | 5, _ => rfl
  | 6, _ => rfl
  | 7, _ => rfl
  | 8, _ => rfl
  | 9, _ => rfl
  | 10, _ => rfl
  | 11, _ => rfl
  | 12, _ => rfl
  | 13, _ => rfl
  | 14, _ => rfl
  | 15, _ => rfl
  | 16, _ => rfl
  | 17, _ => rfl
  | 18, _ => rfl
  | 19, _ => rfl
  | 20, _ => rfl
  | 21, _ => rfl
  | 22, _ => rfl
  | 23, hn => absurd rfl hn
  | _ + 24, _ => rfl
theorem nB0 (g : gT) (h : Nat → Nat) (t : ST) (j : Nat) (v : Int64) : ∀ i, i ≠ 7 → cFix g h (wB t 0 j v) i = cFix g h t i
  | 0, _ => rfl
  | 1, _ => rfl
  | 2, _ => rfl
  | 3, _ => rfl
  | 4, _ => rfl
  | 5, _ => rfl
  | 6, _ => rfl
  | 7, hn => absurd rfl hn
  | 8, _ => rfl
  | 9, _ => rfl
  | 10, _ => rfl
  | 11, _ => rfl
  | 12, _ => rfl
  | 13, _ => rfl
  | 14, _ => rfl
  | 15, _ => rfl
  | 16, _ => rfl
  | 17, _ => rfl
  | 18, _ => rfl
  | 19, _ => rfl
  | 20, _ => rfl
  | 21, _ => rfl
  | 22, _ => rfl
  | 23, _ => rfl
  | _ + 24, _ => rfl
theorem nB1 (g : gT) (h : Nat → Nat) (t : ST) (j : Nat) (v : Int64) : ∀ i, i ≠ 9 → cFix g h (wB t 1 j v) i = cFix g h t i
  | 0, _ => rfl
  | 1, _ => rfl
  | 2, _ => rfl
  | 3, _ => rfl
  | 4, _ => rfl
  | 5, _ => rfl
  | 6, _ => rfl
  | 7, _ => rfl
  | 8, _ => rfl
  | 9, hn => absurd rfl hn
  | 10, _ => rfl
  | 11, _ => rfl
  | 12, _ => rfl
  | 13, _ => rfl
  | 14, _ => rfl
  | 15, _ => rfl
  | 16, _ => rfl
  | 17, _ => rfl
  | 18, _ => rfl
  | 19, _ => rfl
  | 20, _ => rfl
  | 21, _ => rfl
  | 22, _ => rfl
  | 23, _ => rfl
  | _ + 24, _ => rfl
theorem nB2 (g : gT) (h : Nat → Nat) (t : ST) (j : Nat) (v : Int64) : ∀ i, i ≠ 13 → cFix g h (wB t 2 j v) i = cFix g h t i
  | 0, _ => rfl
  | 1, _ => rfl
  | 2, _ => rfl
  | 3, _ => rfl
  | 4, _ => rfl
  | 5, _ => rfl
  | 6, _ => rfl
  | 7, _ => rfl
  | 8, _ => rfl
  | 9, _ => rfl
  | 10, _ => rfl
  | 11, _ => rfl
  | 12, _ => rfl
  | 13, hn => absurd rfl hn
  | 14, _ => rfl
  | 15, _ => rfl
  | 16, _ => rfl
  | 17, _ => rfl
  | 18, _ => rfl
  | 19, _ => rfl
  | 20, _ => rfl
  | 21, _ => rfl
  | 22, _ => rfl
  | 23, _ => rfl
  | _ + 24, _ => rfl
theorem nB3 (g : gT) (h : Nat → Nat) (t : ST) (j : Nat) (v : Int64) : ∀ i, i ≠ 20 → cFix g h (wB t 3 j v) i = cFix g h t i
  | 0, _ => rfl
  | 1, _ => rfl
  | 2, _ => rfl
  | 3, _ => rfl
  | 4, _ => rfl
  | 5, _ => rfl
  | 6, _ => rfl
  | 7, _ => rfl
  | 8, _ => rfl
  | 9, _ => rfl
  | 10, _ => rfl
  | 11, _ => rfl
  | 12, _ => rfl
  | 13, _ => rfl
  | 14, _ => rfl
  | 15, _ => rfl
  | 16, _ => rfl
  | 17, _ => rfl
  | 18, _ => rfl
  | 19, _ => rfl
  | 20, hn => absurd rfl hn
  | 21, _ => rfl
  | 22, _ => rfl
  | 23, _ => rfl
  | _ + 24, _ => rfl
theorem nB4 (g : gT) (h : Nat → Nat) (t : ST) (j : Nat) (v : Int64) : ∀ i, i ≠ 21 → cFix g h (wB t 4 j v) i = cFix g h t i
  | 0, _ => rfl
  | 1, _ => rfl
  | 2, _ => rfl
  | 3, _ => rfl
  | 4, _ => rfl
  | 5, _ => rfl
  | 6, _ => rfl
  | 7, _ => rfl
  | 8, _ => rfl
  | 9, _ => rfl
  | 10, _ => rfl
  | 11, _ => rfl
  | 12, _ => rfl
  | 13, _ => rfl
  | 14, _ => rfl
  | 15, _ => rfl
  | 16, _ => rfl
  | 17, _ => rfl
  | 18, _ => rfl
  | 19, _ => rfl
  | 20, _ => rfl
  | 21, hn => absurd rfl hn
  | 22, _ => rfl
  | 23, _ => rfl
  | _ + 24, _ => rfl
theorem nB5 (g : gT) (h : Nat → Nat) (t : ST) (j : Nat) (v : Int64) : ∀ i, i ≠ 22 → cFix g h (wB t 5 j v) i = cFix g h t i
  | 0, _ => rfl
  | 1, _ => rfl
  | 2, _ => rfl
  | 3, _ => rfl
  | 4, _ => rfl
  | 5, _ => rfl
  | 6, _ => rfl
  | 7, _ => rfl
  | 8, _ => rfl
  | 9, _ => rfl
  | 10, _ => rfl
  | 11, _ => rfl
  | 12, _ => rfl
  | 13, _ => rfl
  | 14, _ => rfl
  | 15, _ => rfl
  | 16, _ => rfl
  | 17, _ => rfl
  | 18, _ => rfl
  | 19, _ => rfl
  | 20, _ => rfl
  | 21, _ => rfl
  | 22, hn => absurd rfl hn
  | 23, _ => rfl
  | _ + 24, _ => rfl
theorem nI0 (g : gT) (h : Nat → Nat) (t : ST) (v : Int32) : ∀ i, i ≠ 1 → cFix g h (wI t 0 v) i = cFix g h t i
  | 0, _ => rfl
  | 1, hn => absurd rfl hn
  | 2, _ => rfl
  | 3, _ => rfl
  | 4, _ => rfl
  | 5, _ => rfl
  | 6, _ => rfl
  | 7, _ => rfl
  | 8, _ => rfl
  | 9, _ => rfl
  | 10, _ => rfl
  | 11, _ => rfl
  | 12, _ => rfl
  | 13, _ => rfl
  | 14, _ => rfl
  | 15, _ => rfl
  | 16, _ => rfl
  | 17, _ => rfl
  | 18, _ => rfl
  | 19, _ => rfl
  | 20, _ => rfl
  | 21, _ => rfl
  | 22, _ => rfl
  | 23, _ => rfl
  | _ + 24, _ => rfl
theorem nI1 (g : gT) (h : Nat → Nat) (t : ST) (v : Int32) : ∀ i, i ≠ 1 → cFix g h (wI t 1 v) i = cFix g h t i
  | 0, _ => rfl
  | 1, hn => absurd rfl hn
  | 2, _ => rfl
  | 3, _ => rfl
  | 4, _ => rfl
  | 5, _ => rfl
  | 6, _ => rfl
  | 7, _ => rfl
  | 8, _ => rfl
  | 9, _ => rfl
  | 10, _ => rfl
  | 11, _ => rfl
  | 12, _ => rfl
  | 13, _ => rfl
  | 14, _ => rfl
  | 15, _ => rfl
  | 16, _ => rfl
  | 17, _ => rfl
  | 18, _ => rfl
  | 19, _ => rfl
  | 20, _ => rfl
  | 21, _ => rfl
  | 22, _ => rfl
  | 23, _ => rfl
  | _ + 24, _ => rfl
theorem nI2 (g : gT) (h : Nat → Nat) (t : ST) (v : Int32) : ∀ i, i ≠ 1 → cFix g h (wI t 2 v) i = cFix g h t i
  | 0, _ => rfl
  | 1, hn => absurd rfl hn
  | 2, _ => rfl
  | 3, _ => rfl
  | 4, _ => rfl
  | 5, _ => rfl
  | 6, _ => rfl
  | 7, _ => rfl
  | 8, _ => rfl
  | 9, _ => rfl
  | 10, _ => rfl
  | 11, _ => rfl
  | 12, _ => rfl
  | 13, _ => rfl
  | 14, _ => rfl
  | 15, _ => rfl
  | 16, _ => rfl
  | 17, _ => rfl
  | 18, _ => rfl
  | 19, _ => rfl
  | 20, _ => rfl
  | 21, _ => rfl
  | 22, _ => rfl
  | 23, _ => rfl
  | _ + 24, _ => rfl
theorem nI3 (g : gT) (h : Nat → Nat) (t : ST) (v : Int32) : ∀ i, i ≠ 1 → cFix g h (wI t 3 v) i = cFix g h t i
  | 0, _ => rfl
  | 1, hn => absurd rfl hn
  | 2, _ => rfl
  | 3, _ => rfl
  | 4, _ => rfl
  | 5, _ => rfl
  | 6, _ => rfl
  | 7, _ => rfl
  | 8, _ => rfl
  | 9, _ => rfl
  | 10, _ => rfl
  | 11, _ => rfl
  | 12, _ => rfl
  | 13, _ => rfl
  | 14, _ => rfl
  | 15, _ => rfl
  | 16, _ => rfl
  | 17, _ => rfl
  | 18, _ => rfl
  | 19, _ => rfl
  | 20, _ => rfl
  | 21, _ => rfl
  | 22, _ => rfl
  | 23, _ => rfl
  | _ + 24, _ => rfl
theorem nI4 (g : gT) (h : Nat → Nat) (t : ST) (v : Int32) : ∀ i, i ≠ 14 → cFix g h (wI t 4 v) i = cFix g h t i
  | 0, _ => rfl
  | 1, _ => rfl
  | 2, _ => rfl
  | 3, _ => rfl
  | 4, _ => rfl
  | 5, _ => rfl
  | 6, _ => rfl
  | 7, _ => rfl
  | 8, _ => rfl
  | 9, _ => rfl
  | 10, _ => rfl
  | 11, _ => rfl
  | 12, _ => rfl
  | 13, _ => rfl
  | 14, hn => absurd rfl hn
  | 15, _ => rfl
  | 16, _ => rfl
  | 17, _ => rfl
  | 18, _ => rfl
  | 19, _ => rfl
  | 20, _ => rfl
  | 21, _ => rfl
  | 22, _ => rfl
  | 23, _ => rfl
  | _ + 24, _ => rfl
theorem nI5 (g : gT) (h : Nat → Nat) (t : ST) (v : Int32) : ∀ i, i ≠ 14 → cFix g h (wI t 5 v) i = cFix g h t i
  | 0, _ => rfl
  | 1, _ => rfl
  | 2, _ => rfl
  | 3, _ => rfl
  | 4, _ => rfl
  | 5, _ => rfl
  | 6, _ => rfl
  | 7, _ => rfl
  | 8, _ => rfl
  | 9, _ => rfl
  | 10, _ => rfl
  | 11, _ => rfl
  | 12, _ => rfl
  | 13, _ => rfl
  | 14, hn => absurd rfl hn
  | 15, _ => rfl
  | 16, _ => rfl
  | 17, _ => rfl
  | 18, _ => rfl
  | 19, _ => rfl
  | 20, _ => rfl
  | 21, _ => rfl
  | 22, _ => rfl
  | 23, _ => rfl
  | _ + 24, _ => rfl
theorem nI6 (g : gT) (h : Nat → Nat) (t : ST) (v : Int32) : ∀ i, i ≠ 14 → cFix g h (wI t 6 v) i = cFix g h t i
  | 0, _ => rfl
  | 1, _ => rfl
  | 2, _ => rfl
  | 3, _ => rfl
  | 4, _ => rfl
  | 5, _ => rfl
  | 6, _ => rfl
  | 7, _ => rfl
  | 8, _ => rfl
  | 9, _ => rfl
  | 10, _ => rfl
  | 11, _ => rfl
  | 12, _ => rfl
  | 13, _ => rfl
  | 14, hn => absurd rfl hn
  | 15, _ => rfl
  | 16, _ => rfl
  | 17, _ => rfl
  | 18, _ => rfl
  | 19, _ => rfl
  | 20, _ => rfl
  | 21, _ => rfl
  | 22, _ => rfl
  | 23, _ => rfl
  | _ + 24, _ => rfl
theorem nI7 (g : gT) (h : Nat → Nat) (t : ST) (v : Int32) : ∀ i, i ≠ 16 → cFix g h (wI t 7 v) i = cFix g h t i
  | 0, _ => rfl
  | 1, _ => rfl
  | 2, _ => rfl
  | 3, _ => rfl
  | 4, _ => rfl
  | 5, _ => rfl
  | 6, _ => rfl
  | 7, _ => rfl
  | 8, _ => rfl
  | 9, _ => rfl
  | 10, _ => rfl
  | 11, _ => rfl
  | 12, _ => rfl
  | 13, _ => rfl
  | 14, _ => rfl
  | 15, _ => rfl
  | 16, hn => absurd rfl hn
  | 17, _ => rfl
  | 18, _ => rfl
  | 19, _ => rfl
  | 20, _ => rfl
  | 21, _ => rfl
  | 22, _ => rfl
  | 23, _ => rfl
  | _ + 24, _ => rfl
theorem nI8 (g : gT) (h : Nat → Nat) (t : ST) (v : Int32) : ∀ i, i ≠ 16 → cFix g h (wI t 8 v) i = cFix g h t i
  | 0, _ => rfl
  | 1, _ => rfl
  | 2, _ => rfl
  | 3, _ => rfl
  | 4, _ => rfl
  | 5, _ => rfl
  | 6, _ => rfl
  | 7, _ => rfl
  | 8, _ => rfl
  | 9, _ => rfl
  | 10, _ => rfl
  | 11, _ => rfl
  | 12, _ => rfl
  | 13, _ => rfl
  | 14, _ => rfl
  | 15, _ => rfl
  | 16, hn => absurd rfl hn
  | 17, _ => rfl
  | 18, _ => rfl
  | 19, _ => rfl
  | 20, _ => rfl
  | 21, _ => rfl
  | 22, _ => rfl
  | 23, _ => rfl
  | _ + 24, _ => rfl
theorem nI9 (g : gT) (h : Nat → Nat) (t : ST) (v : Int32) : ∀ i, i ≠ 18 → cFix g h (wI t 9 v) i = cFix g h t i
  | 0, _ => rfl
  | 1, _ => rfl
  | 2, _ => rfl
  | 3, _ => rfl
  | 4, _ => rfl
  | 5, _ => rfl
  | 6, _ => rfl
  | 7, _ => rfl
  | 8, _ => rfl
  | 9, _ => rfl
  | 10, _ => rfl
  | 11, _ => rfl
  | 12, _ => rfl
  | 13, _ => rfl
  | 14, _ => rfl
  | 15, _ => rfl
  | 16, _ => rfl
  | 17, _ => rfl
  | 18, hn => absurd rfl hn
  | 19, _ => rfl
  | 20, _ => rfl
  | 21, _ => rfl
  | 22, _ => rfl
  | 23, _ => rfl
  | _ + 24, _ => rfl
theorem nL0 (g : gT) (h : Nat → Nat) (t : ST) (v : Int64) : ∀ i, i ≠ 8 → cFix g h (wL t 0 v) i = cFix g h t i
  | 0, _ => rfl
  | 1, _ => rfl
  | 2, _ => rfl
  | 3, _ => rfl
  | 4, _ => rfl
  | 5, _ => rfl
  | 6, _ => rfl
  | 7, _ => rfl
  | 8, hn => absurd rfl hn
  | 9, _ => rfl
  | 10, _ => rfl
  | 11, _ => rfl
  | 12, _ => rfl
  | 13, _ => rfl
  | 14, _ => rfl
  | 15, _ => rfl
  | 16, _ => rfl
  | 17, _ => rfl
  | 18, _ => rfl
  | 19, _ => rfl
  | 20, _ => rfl
  | 21, _ => rfl
  | 22, _ => rfl
  | 23, _ => rfl
  | _ + 24, _ => rfl
theorem nC3 (g : gT) (h : Nat → Nat) (t : ST) (f : Nat → Int64) : ∀ i, i ≠ 20 → cFix g h (wC t 3 f) i = cFix g h t i
  | 0, _ => rfl
  | 1, _ => rfl
  | 2, _ => rfl
  | 3, _ => rfl
  | 4, _ => rfl
  | 5, _ => rfl
  | 6, _ => rfl
  | 7, _ => rfl
  | 8, _ => rfl
  | 9, _ => rfl
  | 10, _ => rfl
  | 11, _ => rfl
  | 12, _ => rfl
  | 13, _ => rfl
  | 14, _ => rfl
  | 15, _ => rfl
  | 16, _ => rfl
  | 17, _ => rfl
  | 18, _ => rfl
  | 19, _ => rfl
  | 20, hn => absurd rfl hn
  | 21, _ => rfl
  | 22, _ => rfl
  | 23, _ => rfl
  | _ + 24, _ => rfl
theorem nC4 (g : gT) (h : Nat → Nat) (t : ST) (f : Nat → Int64) : ∀ i, i ≠ 21 → cFix g h (wC t 4 f) i = cFix g h t i
  | 0, _ => rfl
  | 1, _ => rfl
  | 2, _ => rfl
  | 3, _ => rfl
  | 4, _ => rfl
  | 5, _ => rfl
  | 6, _ => rfl
  | 7, _ => rfl
  | 8, _ => rfl
  | 9, _ => rfl
  | 10, _ => rfl
  | 11, _ => rfl
  | 12, _ => rfl
  | 13, _ => rfl
  | 14, _ => rfl
  | 15, _ => rfl
  | 16, _ => rfl
  | 17, _ => rfl
  | 18, _ => rfl
  | 19, _ => rfl
  | 20, _ => rfl
  | 21, hn => absurd rfl hn
  | 22, _ => rfl
  | 23, _ => rfl
  | _ + 24, _ => rfl
theorem nC5 (g : gT) (h : Nat → Nat) (t : ST) (f : Nat → Int64) : ∀ i, i ≠ 22 → cFix g h (wC t 5 f) i = cFix g h t i
  | 0, _ => rfl
  | 1, _ => rfl
  | 2, _ => rfl
  | 3, _ => rfl
  | 4, _ => rfl
  | 5, _ => rfl
  | 6, _ => rfl
  | 7, _ => rfl
  | 8, _ => rfl
  | 9, _ => rfl
  | 10, _ => rfl
  | 11, _ => rfl
  | 12, _ => rfl
  | 13, _ => rfl
  | 14, _ => rfl
  | 15, _ => rfl
  | 16, _ => rfl
  | 17, _ => rfl
  | 18, _ => rfl
  | 19, _ => rfl
  | 20, _ => rfl
  | 21, _ => rfl
  | 22, hn => absurd rfl hn
  | 23, _ => rfl
  | _ + 24, _ => rfl
theorem bA0_n (g : gT) (h : Nat → Nat) (u : CS) (j : Nat) (v : Int32) : ∀ i, i ≠ 2 → cC g h (bA u 0 j v) i = cC g h u i := fun i hi => by
  unfold cC bA
  split
  · exact nA0 g h u.1 j v i hi
  · rfl
theorem bA1_n (g : gT) (h : Nat → Nat) (u : CS) (j : Nat) (v : Int32) : ∀ i, i ≠ 3 → cC g h (bA u 1 j v) i = cC g h u i := fun i hi => by
  unfold cC bA
  split
  · exact nA1 g h u.1 j v i hi
  · rfl
theorem bA2_n (g : gT) (h : Nat → Nat) (u : CS) (j : Nat) (v : Int32) : ∀ i, i ≠ 4 → cC g h (bA u 2 j v) i = cC g h u i := fun i hi => by
  unfold cC bA
  split
  · exact nA2 g h u.1 j v i hi
  · rfl
theorem bA3_n (g : gT) (h : Nat → Nat) (u : CS) (j : Nat) (v : Int32) : ∀ i, i ≠ 5 → cC g h (bA u 3 j v) i = cC g h u i := fun i hi => by
  unfold cC bA
  split
  · exact nA3 g h u.1 j v i hi
  · rfl
theorem bA4_n (g : gT) (h : Nat → Nat) (u : CS) (j : Nat) (v : Int32) : ∀ i, i ≠ 6 → cC g h (bA u 4 j v) i = cC g h u i := fun i hi => by
  unfold cC bA
  split
  · exact nA4 g h u.1 j v i hi
  · rfl
theorem bA5_n (g : gT) (h : Nat → Nat) (u : CS) (j : Nat) (v : Int32) : ∀ i, i ≠ 11 → cC g h (bA u 5 j v) i = cC g h u i := fun i hi => by
  unfold cC bA
  split
  · exact nA5 g h u.1 j v i hi
  · rfl
theorem bA6_n (g : gT) (h : Nat → Nat) (u : CS) (j : Nat) (v : Int32) : ∀ i, i ≠ 17 → cC g h (bA u 6 j v) i = cC g h u i := fun i hi => by
  unfold cC bA
  split
  · exact nA6 g h u.1 j v i hi
  · rfl
theorem bA7_n (g : gT) (h : Nat → Nat) (u : CS) (j : Nat) (v : Int32) : ∀ i, i ≠ 23 → cC g h (bA u 7 j v) i = cC g h u i := fun i hi => by
  unfold cC bA
  split
  · exact nA7 g h u.1 j v i hi
  · rfl
theorem bB0_n (g : gT) (h : Nat → Nat) (u : CS) (j : Nat) (v : Int64) : ∀ i, i ≠ 7 → cC g h (bB u 0 j v) i = cC g h u i := fun i hi => by
  unfold cC bB
  split
  · exact nB0 g h u.1 j v i hi
  · rfl
theorem bB1_n (g : gT) (h : Nat → Nat) (u : CS) (j : Nat) (v : Int64) : ∀ i, i ≠ 9 → cC g h (bB u 1 j v) i = cC g h u i := fun i hi => by
  unfold cC bB
  split
  · exact nB1 g h u.1 j v i hi
  · rfl
theorem bB2_n (g : gT) (h : Nat → Nat) (u : CS) (j : Nat) (v : Int64) : ∀ i, i ≠ 13 → cC g h (bB u 2 j v) i = cC g h u i := fun i hi => by
  unfold cC bB
  split
  · exact nB2 g h u.1 j v i hi
  · rfl
theorem bB3_n (g : gT) (h : Nat → Nat) (u : CS) (j : Nat) (v : Int64) : ∀ i, i ≠ 20 → cC g h (bB u 3 j v) i = cC g h u i := fun i hi => by
  unfold cC bB
  split
  · exact nB3 g h u.1 j v i hi
  · rfl
theorem bB4_n (g : gT) (h : Nat → Nat) (u : CS) (j : Nat) (v : Int64) : ∀ i, i ≠ 21 → cC g h (bB u 4 j v) i = cC g h u i := fun i hi => by
  unfold cC bB
  split
  · exact nB4 g h u.1 j v i hi
  · rfl
theorem bB5_n (g : gT) (h : Nat → Nat) (u : CS) (j : Nat) (v : Int64) : ∀ i, i ≠ 22 → cC g h (bB u 5 j v) i = cC g h u i := fun i hi => by
  unfold cC bB
  split
  · exact nB5 g h u.1 j v i hi
  · rfl
theorem bI0_n (g : gT) (h : Nat → Nat) (u : CS) (v : Int32) : ∀ i, i ≠ 1 → cC g h (bI u 0 v) i = cC g h u i := fun i hi => by
  unfold cC bI
  split
  · exact nI0 g h u.1 v i hi
  · rfl
theorem bI1_n (g : gT) (h : Nat → Nat) (u : CS) (v : Int32) : ∀ i, i ≠ 1 → cC g h (bI u 1 v) i = cC g h u i := fun i hi => by
  unfold cC bI
  split
  · exact nI1 g h u.1 v i hi
  · rfl
theorem bI2_n (g : gT) (h : Nat → Nat) (u : CS) (v : Int32) : ∀ i, i ≠ 1 → cC g h (bI u 2 v) i = cC g h u i := fun i hi => by
  unfold cC bI
  split
  · exact nI2 g h u.1 v i hi
  · rfl
theorem bI3_n (g : gT) (h : Nat → Nat) (u : CS) (v : Int32) : ∀ i, i ≠ 1 → cC g h (bI u 3 v) i = cC g h u i := fun i hi => by
  unfold cC bI
  split
  · exact nI3 g h u.1 v i hi
  · rfl
theorem bI4_n (g : gT) (h : Nat → Nat) (u : CS) (v : Int32) : ∀ i, i ≠ 14 → cC g h (bI u 4 v) i = cC g h u i := fun i hi => by
  unfold cC bI
  split
  · exact nI4 g h u.1 v i hi
  · rfl
theorem bI5_n (g : gT) (h : Nat → Nat) (u : CS) (v : Int32) : ∀ i, i ≠ 14 → cC g h (bI u 5 v) i = cC g h u i := fun i hi => by
  unfold cC bI
  split
  · exact nI5 g h u.1 v i hi
  · rfl
theorem bI6_n (g : gT) (h : Nat → Nat) (u : CS) (v : Int32) : ∀ i, i ≠ 14 → cC g h (bI u 6 v) i = cC g h u i := fun i hi => by
  unfold cC bI
  split
  · exact nI6 g h u.1 v i hi
  · rfl
theorem bI7_n (g : gT) (h : Nat → Nat) (u : CS) (v : Int32) : ∀ i, i ≠ 16 → cC g h (bI u 7 v) i = cC g h u i := fun i hi => by
  unfold cC bI
  split
  · exact nI7 g h u.1 v i hi
  · rfl
theorem bI8_n (g : gT) (h : Nat → Nat) (u : CS) (v : Int32) : ∀ i, i ≠ 16 → cC g h (bI u 8 v) i = cC g h u i := fun i hi => by
  unfold cC bI
  split
  · exact nI8 g h u.1 v i hi
  · rfl
theorem bI9_n (g : gT) (h : Nat → Nat) (u : CS) (v : Int32) : ∀ i, i ≠ 18 → cC g h (bI u 9 v) i = cC g h u i := fun i hi => by
  unfold cC bI
  split
  · exact nI9 g h u.1 v i hi
  · rfl
theorem bL0_n (g : gT) (h : Nat → Nat) (u : CS) (v : Int64) : ∀ i, i ≠ 8 → cC g h (bL u 0 v) i = cC g h u i := fun i hi => by
  unfold cC bL
  split
  · exact nL0 g h u.1 v i hi
  · rfl
theorem bC3_n (g : gT) (h : Nat → Nat) (u : CS) (f : Nat → Int64) : ∀ i, i ≠ 20 → cC g h (bC u 3 f) i = cC g h u i := fun i hi => by
  unfold cC bC
  split
  · exact nC3 g h u.1 f i hi
  · rfl
theorem bC4_n (g : gT) (h : Nat → Nat) (u : CS) (f : Nat → Int64) : ∀ i, i ≠ 21 → cC g h (bC u 4 f) i = cC g h u i := fun i hi => by
  unfold cC bC
  split
  · exact nC4 g h u.1 f i hi
  · rfl
theorem bC5_n (g : gT) (h : Nat → Nat) (u : CS) (f : Nat → Int64) : ∀ i, i ≠ 22 → cC g h (bC u 5 f) i = cC g h u i := fun i hi => by
  unfold cC bC
  split
  · exact nC5 g h u.1 f i hi
  · rfl
theorem tI0_n (g : gT) (h : Nat → Nat) (t : ST) (d : Nat) (v : Int32) : ∀ i, i < 5 → i ≠ 0 → cTn g h (wI t 0 v) d i = cTn g h t d i
  | 0, _, hn => absurd rfl hn
  | 1, _, _ => rfl
  | 2, _, _ => rfl
  | 3, _, _ => rfl
  | 4, _, _ => rfl
  | i + 5, hi, _ => absurd hi (by omega)
theorem tI1_n (g : gT) (h : Nat → Nat) (t : ST) (d : Nat) (v : Int32) : ∀ i, i < 5 → i ≠ 0 → cTn g h (wI t 1 v) d i = cTn g h t d i
  | 0, _, hn => absurd rfl hn
  | 1, _, _ => rfl
  | 2, _, _ => rfl
  | 3, _, _ => rfl
  | 4, _, _ => rfl
  | i + 5, hi, _ => absurd hi (by omega)
theorem tL0_n (g : gT) (h : Nat → Nat) (t : ST) (d : Nat) (v : Int64) : ∀ i, i < 5 → i ≠ 0 → cTn g h (wL t 0 v) d i = cTn g h t d i
  | 0, _, hn => absurd rfl hn
  | 1, _, _ => rfl
  | 2, _, _ => rfl
  | 3, _, _ => rfl
  | 4, _, _ => rfl
  | i + 5, hi, _ => absurd hi (by omega)
theorem tL1_n (g : gT) (h : Nat → Nat) (t : ST) (d : Nat) (v : Int64) : ∀ i, i < 5 → i ≠ 0 → cTn g h (wL t 1 v) d i = cTn g h t d i
  | 0, _, hn => absurd rfl hn
  | 1, _, _ => rfl
  | 2, _, _ => rfl
  | 3, _, _ => rfl
  | 4, _, _ => rfl
  | i + 5, hi, _ => absurd hi (by omega)
theorem tA0_n (g : gT) (h : Nat → Nat) (t : ST) (d : Nat) (j : Nat) (v : Int32) : ∀ i, i < 5 → i ≠ 1 → cTn g h (wA t 0 j v) d i = cTn g h t d i
  | 0, _, _ => rfl
  | 1, _, hn => absurd rfl hn
  | 2, _, _ => rfl
  | 3, _, _ => rfl
  | 4, _, _ => rfl
  | i + 5, hi, _ => absurd hi (by omega)
theorem tA1_n (g : gT) (h : Nat → Nat) (t : ST) (d : Nat) (j : Nat) (v : Int32) : ∀ i, i < 5 → i ≠ 2 → cTn g h (wA t 1 j v) d i = cTn g h t d i
  | 0, _, _ => rfl
  | 1, _, _ => rfl
  | 2, _, hn => absurd rfl hn
  | 3, _, _ => rfl
  | 4, _, _ => rfl
  | i + 5, hi, _ => absurd hi (by omega)
theorem tB0_n (g : gT) (h : Nat → Nat) (t : ST) (d : Nat) (j : Nat) (v : Int64) : ∀ i, i < 5 → i ≠ 3 → cTn g h (wB t 0 j v) d i = cTn g h t d i
  | 0, _, _ => rfl
  | 1, _, _ => rfl
  | 2, _, _ => rfl
  | 3, _, hn => absurd rfl hn
  | 4, _, _ => rfl
  | i + 5, hi, _ => absurd hi (by omega)
theorem tB1_n (g : gT) (h : Nat → Nat) (t : ST) (d : Nat) (j : Nat) (v : Int64) : ∀ i, i < 5 → i ≠ 4 → cTn g h (wB t 1 j v) d i = cTn g h t d i
  | 0, _, _ => rfl
  | 1, _, _ => rfl
  | 2, _, _ => rfl
  | 3, _, _ => rfl
  | 4, _, hn => absurd rfl hn
  | i + 5, hi, _ => absurd hi (by omega)
theorem he_X9 (g : gT) (h : Nat → Nat) (b : ST) (w : Nat → ST) : cC g h (b, w) 0 = .inr (8, [.ref (h 1), .ref (h 8), .ref (h 10), .ref (h 12), .ref (h 14), .ref (h 16), .ref (h 18)]) := rfl
theorem gX9_net {p : Program} {l : Launch} {e : Env} {R : Room} {s : State} {m : MethodId} {args : Array Value} {below : List Frame} {meth : Method} {c : Code} {H : Heap} {locs : List Loc} {Q : State → Prop} {cc : ByteArray} {pc : Nat} {ls : Array Slot} {rest : List Value} {own : String} {nL : Nat} {g : gT} {h : Nat → Nat} {b : ST} {w : Nat → ST} {index : Nat} (X : Cx g p s m args c cc own nL) (hw : Wd g 79 h (cC g h (b, w)) s H locs) (hlink : Cond.fieldLink own index "LinkChances" "net" "LLinkChances$Net;" ∈ wsL_law) (hdg : decode cc pc = .ok (.getfield index, 3)) (kk : W p l e R s m args below meth c H locs 0 0 Q (F0 m (pc + 3) ls (.ref (h 1) :: rest))) : W p l e R s m args below meth c H locs 0 0 Q (F0 m pc ls (.ref (h 0) :: rest)) := x_get X hw inlX9 rfl 0 (by decide) rfl 0 (by decide) hlink rfl hdg kk
theorem gX9_odds {p : Program} {l : Launch} {e : Env} {R : Room} {s : State} {m : MethodId} {args : Array Value} {below : List Frame} {meth : Method} {c : Code} {H : Heap} {locs : List Loc} {Q : State → Prop} {cc : ByteArray} {pc : Nat} {ls : Array Slot} {rest : List Value} {own : String} {nL : Nat} {g : gT} {h : Nat → Nat} {b : ST} {w : Nat → ST} {index : Nat} (X : Cx g p s m args c cc own nL) (hw : Wd g 79 h (cC g h (b, w)) s H locs) (hlink : Cond.fieldLink own index "LinkChances" "odds" "LLinkChances$Odds;" ∈ wsL_law) (hdg : decode cc pc = .ok (.getfield index, 3)) (kk : W p l e R s m args below meth c H locs 0 0 Q (F0 m (pc + 3) ls (.ref (h 8) :: rest))) : W p l e R s m args below meth c H locs 0 0 Q (F0 m pc ls (.ref (h 0) :: rest)) := x_get X hw inlX9 rfl 0 (by decide) rfl 1 (by decide) hlink rfl hdg kk
theorem gX9_counts {p : Program} {l : Launch} {e : Env} {R : Room} {s : State} {m : MethodId} {args : Array Value} {below : List Frame} {meth : Method} {c : Code} {H : Heap} {locs : List Loc} {Q : State → Prop} {cc : ByteArray} {pc : Nat} {ls : Array Slot} {rest : List Value} {own : String} {nL : Nat} {g : gT} {h : Nat → Nat} {b : ST} {w : Nat → ST} {index : Nat} (X : Cx g p s m args c cc own nL) (hw : Wd g 79 h (cC g h (b, w)) s H locs) (hlink : Cond.fieldLink own index "LinkChances" "counts" "LLinkChances$SetCounts;" ∈ wsL_law) (hdg : decode cc pc = .ok (.getfield index, 3)) (kk : W p l e R s m args below meth c H locs 0 0 Q (F0 m (pc + 3) ls (.ref (h 10) :: rest))) : W p l e R s m args below meth c H locs 0 0 Q (F0 m pc ls (.ref (h 0) :: rest)) := x_get X hw inlX9 rfl 0 (by decide) rfl 2 (by decide) hlink rfl hdg kk
theorem gX9_shared {p : Program} {l : Launch} {e : Env} {R : Room} {s : State} {m : MethodId} {args : Array Value} {below : List Frame} {meth : Method} {c : Code} {H : Heap} {locs : List Loc} {Q : State → Prop} {cc : ByteArray} {pc : Nat} {ls : Array Slot} {rest : List Value} {own : String} {nL : Nat} {g : gT} {h : Nat → Nat} {b : ST} {w : Nat → ST} {index : Nat} (X : Cx g p s m args c cc own nL) (hw : Wd g 79 h (cC g h (b, w)) s H locs) (hlink : Cond.fieldLink own index "LinkChances" "shared" "LLinkChances$Shared;" ∈ wsL_law) (hdg : decode cc pc = .ok (.getfield index, 3)) (kk : W p l e R s m args below meth c H locs 0 0 Q (F0 m (pc + 3) ls (.ref (h 12) :: rest))) : W p l e R s m args below meth c H locs 0 0 Q (F0 m pc ls (.ref (h 0) :: rest)) := x_get X hw inlX9 rfl 0 (by decide) rfl 3 (by decide) hlink rfl hdg kk
theorem gX9_cutAndJoin {p : Program} {l : Launch} {e : Env} {R : Room} {s : State} {m : MethodId} {args : Array Value} {below : List Frame} {meth : Method} {c : Code} {H : Heap} {locs : List Loc} {Q : State → Prop} {cc : ByteArray} {pc : Nat} {ls : Array Slot} {rest : List Value} {own : String} {nL : Nat} {g : gT} {h : Nat → Nat} {b : ST} {w : Nat → ST} {index : Nat} (X : Cx g p s m args c cc own nL) (hw : Wd g 79 h (cC g h (b, w)) s H locs) (hlink : Cond.fieldLink own index "LinkChances" "cutAndJoin" "LLinkChances$CutAndJoin;" ∈ wsL_law) (hdg : decode cc pc = .ok (.getfield index, 3)) (kk : W p l e R s m args below meth c H locs 0 0 Q (F0 m (pc + 3) ls (.ref (h 14) :: rest))) : W p l e R s m args below meth c H locs 0 0 Q (F0 m pc ls (.ref (h 0) :: rest)) := x_get X hw inlX9 rfl 0 (by decide) rfl 4 (by decide) hlink rfl hdg kk
theorem gX9_orders {p : Program} {l : Launch} {e : Env} {R : Room} {s : State} {m : MethodId} {args : Array Value} {below : List Frame} {meth : Method} {c : Code} {H : Heap} {locs : List Loc} {Q : State → Prop} {cc : ByteArray} {pc : Nat} {ls : Array Slot} {rest : List Value} {own : String} {nL : Nat} {g : gT} {h : Nat → Nat} {b : ST} {w : Nat → ST} {index : Nat} (X : Cx g p s m args c cc own nL) (hw : Wd g 79 h (cC g h (b, w)) s H locs) (hlink : Cond.fieldLink own index "LinkChances" "orders" "LLinkChances$Orders;" ∈ wsL_law) (hdg : decode cc pc = .ok (.getfield index, 3)) (kk : W p l e R s m args below meth c H locs 0 0 Q (F0 m (pc + 3) ls (.ref (h 16) :: rest))) : W p l e R s m args below meth c H locs 0 0 Q (F0 m pc ls (.ref (h 0) :: rest)) := x_get X hw inlX9 rfl 0 (by decide) rfl 5 (by decide) hlink rfl hdg kk
theorem gX9_sheets {p : Program} {l : Launch} {e : Env} {R : Room} {s : State} {m : MethodId} {args : Array Value} {below : List Frame} {meth : Method} {c : Code} {H : Heap} {locs : List Loc} {Q : State → Prop} {cc : ByteArray} {pc : Nat} {ls : Array Slot} {rest : List Value} {own : String} {nL : Nat} {g : gT} {h : Nat → Nat} {b : ST} {w : Nat → ST} {index : Nat} (X : Cx g p s m args c cc own nL) (hw : Wd g 79 h (cC g h (b, w)) s H locs) (hlink : Cond.fieldLink own index "LinkChances" "sheets" "LLinkChances$Sheets;" ∈ wsL_law) (hdg : decode cc pc = .ok (.getfield index, 3)) (kk : W p l e R s m args below meth c H locs 0 0 Q (F0 m (pc + 3) ls (.ref (h 18) :: rest))) : W p l e R s m args below meth c H locs 0 0 Q (F0 m pc ls (.ref (h 0) :: rest)) := x_get X hw inlX9 rfl 0 (by decide) rfl 6 (by decide) hlink rfl hdg kk
theorem he_X2 (g : gT) (h : Nat → Nat) (b : ST) (w : Nat → ST) : cC g h (b, w) 1 = .inr (1, [.ref (h 2), .ref (h 3), .ref (h 4), .ref (h 5), .ref (h 6), .ref (h 7), .int (b.1 0), .int (b.1 1), .int (b.1 2), .int (b.1 3)]) := rfl
theorem gX2_lessers {p : Program} {l : Launch} {e : Env} {R : Room} {s : State} {m : MethodId} {args : Array Value} {below : List Frame} {meth : Method} {c : Code} {H : Heap} {locs : List Loc} {Q : State → Prop} {cc : ByteArray} {pc : Nat} {ls : Array Slot} {rest : List Value} {own : String} {nL : Nat} {g : gT} {h : Nat → Nat} {b : ST} {w : Nat → ST} {index : Nat} (X : Cx g p s m args c cc own nL) (hw : Wd g 79 h (cC g h (b, w)) s H locs) (hlink : Cond.fieldLink own index "LinkChances$Net" "lessers" "[I" ∈ wsL_law) (hdg : decode cc pc = .ok (.getfield index, 3)) (kk : W p l e R s m args below meth c H locs 0 0 Q (F0 m (pc + 3) ls (.ref (h 2) :: rest))) : W p l e R s m args below meth c H locs 0 0 Q (F0 m pc ls (.ref (h 1) :: rest)) := x_get X hw inlX2 rfl 1 (by decide) rfl 0 (by decide) hlink rfl hdg kk
theorem gX2_greaters {p : Program} {l : Launch} {e : Env} {R : Room} {s : State} {m : MethodId} {args : Array Value} {below : List Frame} {meth : Method} {c : Code} {H : Heap} {locs : List Loc} {Q : State → Prop} {cc : ByteArray} {pc : Nat} {ls : Array Slot} {rest : List Value} {own : String} {nL : Nat} {g : gT} {h : Nat → Nat} {b : ST} {w : Nat → ST} {index : Nat} (X : Cx g p s m args c cc own nL) (hw : Wd g 79 h (cC g h (b, w)) s H locs) (hlink : Cond.fieldLink own index "LinkChances$Net" "greaters" "[I" ∈ wsL_law) (hdg : decode cc pc = .ok (.getfield index, 3)) (kk : W p l e R s m args below meth c H locs 0 0 Q (F0 m (pc + 3) ls (.ref (h 3) :: rest))) : W p l e R s m args below meth c H locs 0 0 Q (F0 m pc ls (.ref (h 1) :: rest)) := x_get X hw inlX2 rfl 1 (by decide) rfl 1 (by decide) hlink rfl hdg kk
theorem gX2_aboves {p : Program} {l : Launch} {e : Env} {R : Room} {s : State} {m : MethodId} {args : Array Value} {below : List Frame} {meth : Method} {c : Code} {H : Heap} {locs : List Loc} {Q : State → Prop} {cc : ByteArray} {pc : Nat} {ls : Array Slot} {rest : List Value} {own : String} {nL : Nat} {g : gT} {h : Nat → Nat} {b : ST} {w : Nat → ST} {index : Nat} (X : Cx g p s m args c cc own nL) (hw : Wd g 79 h (cC g h (b, w)) s H locs) (hlink : Cond.fieldLink own index "LinkChances$Net" "aboves" "[I" ∈ wsL_law) (hdg : decode cc pc = .ok (.getfield index, 3)) (kk : W p l e R s m args below meth c H locs 0 0 Q (F0 m (pc + 3) ls (.ref (h 4) :: rest))) : W p l e R s m args below meth c H locs 0 0 Q (F0 m pc ls (.ref (h 1) :: rest)) := x_get X hw inlX2 rfl 1 (by decide) rfl 2 (by decide) hlink rfl hdg kk
theorem gX2_belows {p : Program} {l : Launch} {e : Env} {R : Room} {s : State} {m : MethodId} {args : Array Value} {below : List Frame} {meth : Method} {c : Code} {H : Heap} {locs : List Loc} {Q : State → Prop} {cc : ByteArray} {pc : Nat} {ls : Array Slot} {rest : List Value} {own : String} {nL : Nat} {g : gT} {h : Nat → Nat} {b : ST} {w : Nat → ST} {index : Nat} (X : Cx g p s m args c cc own nL) (hw : Wd g 79 h (cC g h (b, w)) s H locs) (hlink : Cond.fieldLink own index "LinkChances$Net" "belows" "[I" ∈ wsL_law) (hdg : decode cc pc = .ok (.getfield index, 3)) (kk : W p l e R s m args below meth c H locs 0 0 Q (F0 m (pc + 3) ls (.ref (h 5) :: rest))) : W p l e R s m args below meth c H locs 0 0 Q (F0 m pc ls (.ref (h 1) :: rest)) := x_get X hw inlX2 rfl 1 (by decide) rfl 3 (by decide) hlink rfl hdg kk
theorem gX2_seens {p : Program} {l : Launch} {e : Env} {R : Room} {s : State} {m : MethodId} {args : Array Value} {below : List Frame} {meth : Method} {c : Code} {H : Heap} {locs : List Loc} {Q : State → Prop} {cc : ByteArray} {pc : Nat} {ls : Array Slot} {rest : List Value} {own : String} {nL : Nat} {g : gT} {h : Nat → Nat} {b : ST} {w : Nat → ST} {index : Nat} (X : Cx g p s m args c cc own nL) (hw : Wd g 79 h (cC g h (b, w)) s H locs) (hlink : Cond.fieldLink own index "LinkChances$Net" "seens" "[I" ∈ wsL_law) (hdg : decode cc pc = .ok (.getfield index, 3)) (kk : W p l e R s m args below meth c H locs 0 0 Q (F0 m (pc + 3) ls (.ref (h 6) :: rest))) : W p l e R s m args below meth c H locs 0 0 Q (F0 m pc ls (.ref (h 1) :: rest)) := x_get X hw inlX2 rfl 1 (by decide) rfl 4 (by decide) hlink rfl hdg kk
theorem gX2_joinings {p : Program} {l : Launch} {e : Env} {R : Room} {s : State} {m : MethodId} {args : Array Value} {below : List Frame} {meth : Method} {c : Code} {H : Heap} {locs : List Loc} {Q : State → Prop} {cc : ByteArray} {pc : Nat} {ls : Array Slot} {rest : List Value} {own : String} {nL : Nat} {g : gT} {h : Nat → Nat} {b : ST} {w : Nat → ST} {index : Nat} (X : Cx g p s m args c cc own nL) (hw : Wd g 79 h (cC g h (b, w)) s H locs) (hlink : Cond.fieldLink own index "LinkChances$Net" "joinings" "[J" ∈ wsL_law) (hdg : decode cc pc = .ok (.getfield index, 3)) (kk : W p l e R s m args below meth c H locs 0 0 Q (F0 m (pc + 3) ls (.ref (h 7) :: rest))) : W p l e R s m args below meth c H locs 0 0 Q (F0 m pc ls (.ref (h 1) :: rest)) := x_get X hw inlX2 rfl 1 (by decide) rfl 5 (by decide) hlink rfl hdg kk
theorem gX2_stationCount {p : Program} {l : Launch} {e : Env} {R : Room} {s : State} {m : MethodId} {args : Array Value} {below : List Frame} {meth : Method} {c : Code} {H : Heap} {locs : List Loc} {Q : State → Prop} {cc : ByteArray} {pc : Nat} {ls : Array Slot} {rest : List Value} {own : String} {nL : Nat} {g : gT} {h : Nat → Nat} {b : ST} {w : Nat → ST} {index : Nat} (X : Cx g p s m args c cc own nL) (hw : Wd g 79 h (cC g h (b, w)) s H locs) (hlink : Cond.fieldLink own index "LinkChances$Net" "stationCount" "I" ∈ wsL_law) (hdg : decode cc pc = .ok (.getfield index, 3)) (kk : W p l e R s m args below meth c H locs 0 0 Q (F0 m (pc + 3) ls (.int (b.1 0) :: rest))) : W p l e R s m args below meth c H locs 0 0 Q (F0 m pc ls (.ref (h 1) :: rest)) := x_get X hw inlX2 rfl 1 (by decide) rfl 6 (by decide) hlink rfl hdg kk
theorem pX2_stationCount {p : Program} {l : Launch} {e : Env} {R : Room} {s : State} {m : MethodId} {args : Array Value} {below : List Frame} {meth : Method} {c : Code} {H : Heap} {locs : List Loc} {Q : State → Prop} {cc : ByteArray} {pc : Nat} {ls : Array Slot} {rest : List Value} {own : String} {nL : Nat} {g : gT} {h : Nat → Nat} {b : ST} {w : Nat → ST} {v : Int32} {index : Nat} (X : Cx g p s m args c cc own nL) (hw : Wd g 79 h (cC g h (b, w)) s H locs) (hlink : Cond.fieldLink own index "LinkChances$Net" "stationCount" "I" ∈ wsL_law) (hdg : decode cc pc = .ok (.putfield index, 3)) (kk : ∀ (H : Heap) (locs : List Loc), Wd g 79 h (cC g h (wI b 0 v, w)) s H locs → W p l e R s m args below meth c H locs 0 0 Q (F0 m (pc + 3) ls rest)) : W p l e R s m args below meth c H locs 0 0 Q (F0 m pc ls (.int v :: .ref (h 1) :: rest)) := x_put (ty := .int) X hw inlX2 tyX2_ok nmX2 rfl 1 (by decide) rfl 6 (by decide) hlink rfl (by decide +kernel) rfl rfl (Nat.le_of_ble_eq_true rfl) hdg rfl (bI0_n g h (b, w) v) kk
theorem gX2_linkCount {p : Program} {l : Launch} {e : Env} {R : Room} {s : State} {m : MethodId} {args : Array Value} {below : List Frame} {meth : Method} {c : Code} {H : Heap} {locs : List Loc} {Q : State → Prop} {cc : ByteArray} {pc : Nat} {ls : Array Slot} {rest : List Value} {own : String} {nL : Nat} {g : gT} {h : Nat → Nat} {b : ST} {w : Nat → ST} {index : Nat} (X : Cx g p s m args c cc own nL) (hw : Wd g 79 h (cC g h (b, w)) s H locs) (hlink : Cond.fieldLink own index "LinkChances$Net" "linkCount" "I" ∈ wsL_law) (hdg : decode cc pc = .ok (.getfield index, 3)) (kk : W p l e R s m args below meth c H locs 0 0 Q (F0 m (pc + 3) ls (.int (b.1 1) :: rest))) : W p l e R s m args below meth c H locs 0 0 Q (F0 m pc ls (.ref (h 1) :: rest)) := x_get X hw inlX2 rfl 1 (by decide) rfl 7 (by decide) hlink rfl hdg kk
theorem pX2_linkCount {p : Program} {l : Launch} {e : Env} {R : Room} {s : State} {m : MethodId} {args : Array Value} {below : List Frame} {meth : Method} {c : Code} {H : Heap} {locs : List Loc} {Q : State → Prop} {cc : ByteArray} {pc : Nat} {ls : Array Slot} {rest : List Value} {own : String} {nL : Nat} {g : gT} {h : Nat → Nat} {b : ST} {w : Nat → ST} {v : Int32} {index : Nat} (X : Cx g p s m args c cc own nL) (hw : Wd g 79 h (cC g h (b, w)) s H locs) (hlink : Cond.fieldLink own index "LinkChances$Net" "linkCount" "I" ∈ wsL_law) (hdg : decode cc pc = .ok (.putfield index, 3)) (kk : ∀ (H : Heap) (locs : List Loc), Wd g 79 h (cC g h (wI b 1 v, w)) s H locs → W p l e R s m args below meth c H locs 0 0 Q (F0 m (pc + 3) ls rest)) : W p l e R s m args below meth c H locs 0 0 Q (F0 m pc ls (.int v :: .ref (h 1) :: rest)) := x_put (ty := .int) X hw inlX2 tyX2_ok nmX2 rfl 1 (by decide) rfl 7 (by decide) hlink rfl (by decide +kernel) rfl rfl (Nat.le_of_ble_eq_true rfl) hdg rfl (bI1_n g h (b, w) v) kk
theorem gX2_source {p : Program} {l : Launch} {e : Env} {R : Room} {s : State} {m : MethodId} {args : Array Value} {below : List Frame} {meth : Method} {c : Code} {H : Heap} {locs : List Loc} {Q : State → Prop} {cc : ByteArray} {pc : Nat} {ls : Array Slot} {rest : List Value} {own : String} {nL : Nat} {g : gT} {h : Nat → Nat} {b : ST} {w : Nat → ST} {index : Nat} (X : Cx g p s m args c cc own nL) (hw : Wd g 79 h (cC g h (b, w)) s H locs) (hlink : Cond.fieldLink own index "LinkChances$Net" "source" "I" ∈ wsL_law) (hdg : decode cc pc = .ok (.getfield index, 3)) (kk : W p l e R s m args below meth c H locs 0 0 Q (F0 m (pc + 3) ls (.int (b.1 2) :: rest))) : W p l e R s m args below meth c H locs 0 0 Q (F0 m pc ls (.ref (h 1) :: rest)) := x_get X hw inlX2 rfl 1 (by decide) rfl 8 (by decide) hlink rfl hdg kk
theorem pX2_source {p : Program} {l : Launch} {e : Env} {R : Room} {s : State} {m : MethodId} {args : Array Value} {below : List Frame} {meth : Method} {c : Code} {H : Heap} {locs : List Loc} {Q : State → Prop} {cc : ByteArray} {pc : Nat} {ls : Array Slot} {rest : List Value} {own : String} {nL : Nat} {g : gT} {h : Nat → Nat} {b : ST} {w : Nat → ST} {v : Int32} {index : Nat} (X : Cx g p s m args c cc own nL) (hw : Wd g 79 h (cC g h (b, w)) s H locs) (hlink : Cond.fieldLink own index "LinkChances$Net" "source" "I" ∈ wsL_law) (hdg : decode cc pc = .ok (.putfield index, 3)) (kk : ∀ (H : Heap) (locs : List Loc), Wd g 79 h (cC g h (wI b 2 v, w)) s H locs → W p l e R s m args below meth c H locs 0 0 Q (F0 m (pc + 3) ls rest)) : W p l e R s m args below meth c H locs 0 0 Q (F0 m pc ls (.int v :: .ref (h 1) :: rest)) := x_put (ty := .int) X hw inlX2 tyX2_ok nmX2 rfl 1 (by decide) rfl 8 (by decide) hlink rfl (by decide +kernel) rfl rfl (Nat.le_of_ble_eq_true rfl) hdg rfl (bI2_n g h (b, w) v) kk
theorem gX2_goals {p : Program} {l : Launch} {e : Env} {R : Room} {s : State} {m : MethodId} {args : Array Value} {below : List Frame} {meth : Method} {c : Code} {H : Heap} {locs : List Loc} {Q : State → Prop} {cc : ByteArray} {pc : Nat} {ls : Array Slot} {rest : List Value} {own : String} {nL : Nat} {g : gT} {h : Nat → Nat} {b : ST} {w : Nat → ST} {index : Nat} (X : Cx g p s m args c cc own nL) (hw : Wd g 79 h (cC g h (b, w)) s H locs) (hlink : Cond.fieldLink own index "LinkChances$Net" "goals" "I" ∈ wsL_law) (hdg : decode cc pc = .ok (.getfield index, 3)) (kk : W p l e R s m args below meth c H locs 0 0 Q (F0 m (pc + 3) ls (.int (b.1 3) :: rest))) : W p l e R s m args below meth c H locs 0 0 Q (F0 m pc ls (.ref (h 1) :: rest)) := x_get X hw inlX2 rfl 1 (by decide) rfl 9 (by decide) hlink rfl hdg kk
theorem pX2_goals {p : Program} {l : Launch} {e : Env} {R : Room} {s : State} {m : MethodId} {args : Array Value} {below : List Frame} {meth : Method} {c : Code} {H : Heap} {locs : List Loc} {Q : State → Prop} {cc : ByteArray} {pc : Nat} {ls : Array Slot} {rest : List Value} {own : String} {nL : Nat} {g : gT} {h : Nat → Nat} {b : ST} {w : Nat → ST} {v : Int32} {index : Nat} (X : Cx g p s m args c cc own nL) (hw : Wd g 79 h (cC g h (b, w)) s H locs) (hlink : Cond.fieldLink own index "LinkChances$Net" "goals" "I" ∈ wsL_law) (hdg : decode cc pc = .ok (.putfield index, 3)) (kk : ∀ (H : Heap) (locs : List Loc), Wd g 79 h (cC g h (wI b 3 v, w)) s H locs → W p l e R s m args below meth c H locs 0 0 Q (F0 m (pc + 3) ls rest)) : W p l e R s m args below meth c H locs 0 0 Q (F0 m pc ls (.int v :: .ref (h 1) :: rest)) := x_put (ty := .int) X hw inlX2 tyX2_ok nmX2 rfl 1 (by decide) rfl 9 (by decide) hlink rfl (by decide +kernel) rfl rfl (Nat.le_of_ble_eq_true rfl) hdg rfl (bI3_n g h (b, w) v) kk
theorem he_X3 (g : gT) (h : Nat → Nat) (b : ST) (w : Nat → ST) : cC g h (b, w) 8 = .inr (2, [.ref (h 1), .ref (h 9), .long (b.2.1 0)]) := rfl
theorem gX3_net {p : Program} {l : Launch} {e : Env} {R : Room} {s : State} {m : MethodId} {args : Array Value} {below : List Frame} {meth : Method} {c : Code} {H : Heap} {locs : List Loc} {Q : State → Prop} {cc : ByteArray} {pc : Nat} {ls : Array Slot} {rest : List Value} {own : String} {nL : Nat} {g : gT} {h : Nat → Nat} {b : ST} {w : Nat → ST} {index : Nat} (X : Cx g p s m args c cc own nL) (hw : Wd g 79 h (cC g h (b, w)) s H locs) (hlink : Cond.fieldLink own index "LinkChances$Odds" "net" "LLinkChances$Net;" ∈ wsL_law) (hdg : decode cc pc = .ok (.getfield index, 3)) (kk : W p l e R s m args below meth c H locs 0 0 Q (F0 m (pc + 3) ls (.ref (h 1) :: rest))) : W p l e R s m args below meth c H locs 0 0 Q (F0 m pc ls (.ref (h 8) :: rest)) := x_get X hw inlX3 rfl 8 (by decide) rfl 0 (by decide) hlink rfl hdg kk
theorem gX3_parts {p : Program} {l : Launch} {e : Env} {R : Room} {s : State} {m : MethodId} {args : Array Value} {below : List Frame} {meth : Method} {c : Code} {H : Heap} {locs : List Loc} {Q : State → Prop} {cc : ByteArray} {pc : Nat} {ls : Array Slot} {rest : List Value} {own : String} {nL : Nat} {g : gT} {h : Nat → Nat} {b : ST} {w : Nat → ST} {index : Nat} (X : Cx g p s m args c cc own nL) (hw : Wd g 79 h (cC g h (b, w)) s H locs) (hlink : Cond.fieldLink own index "LinkChances$Odds" "parts" "[J" ∈ wsL_law) (hdg : decode cc pc = .ok (.getfield index, 3)) (kk : W p l e R s m args below meth c H locs 0 0 Q (F0 m (pc + 3) ls (.ref (h 9) :: rest))) : W p l e R s m args below meth c H locs 0 0 Q (F0 m pc ls (.ref (h 8) :: rest)) := x_get X hw inlX3 rfl 8 (by decide) rfl 1 (by decide) hlink rfl hdg kk
theorem gX3_whole {p : Program} {l : Launch} {e : Env} {R : Room} {s : State} {m : MethodId} {args : Array Value} {below : List Frame} {meth : Method} {c : Code} {H : Heap} {locs : List Loc} {Q : State → Prop} {cc : ByteArray} {pc : Nat} {ls : Array Slot} {rest : List Value} {own : String} {nL : Nat} {g : gT} {h : Nat → Nat} {b : ST} {w : Nat → ST} {index : Nat} (X : Cx g p s m args c cc own nL) (hw : Wd g 79 h (cC g h (b, w)) s H locs) (hlink : Cond.fieldLink own index "LinkChances$Odds" "whole" "J" ∈ wsL_law) (hdg : decode cc pc = .ok (.getfield index, 3)) (kk : W p l e R s m args below meth c H locs 0 0 Q (F0 m (pc + 3) ls (.long (b.2.1 0) :: rest))) : W p l e R s m args below meth c H locs 0 0 Q (F0 m pc ls (.ref (h 8) :: rest)) := x_get X hw inlX3 rfl 8 (by decide) rfl 2 (by decide) hlink rfl hdg kk
theorem pX3_whole {p : Program} {l : Launch} {e : Env} {R : Room} {s : State} {m : MethodId} {args : Array Value} {below : List Frame} {meth : Method} {c : Code} {H : Heap} {locs : List Loc} {Q : State → Prop} {cc : ByteArray} {pc : Nat} {ls : Array Slot} {rest : List Value} {own : String} {nL : Nat} {g : gT} {h : Nat → Nat} {b : ST} {w : Nat → ST} {v : Int64} {index : Nat} (X : Cx g p s m args c cc own nL) (hw : Wd g 79 h (cC g h (b, w)) s H locs) (hlink : Cond.fieldLink own index "LinkChances$Odds" "whole" "J" ∈ wsL_law) (hdg : decode cc pc = .ok (.putfield index, 3)) (kk : ∀ (H : Heap) (locs : List Loc), Wd g 79 h (cC g h (wL b 0 v, w)) s H locs → W p l e R s m args below meth c H locs 0 0 Q (F0 m (pc + 3) ls rest)) : W p l e R s m args below meth c H locs 0 0 Q (F0 m pc ls (.long v :: .ref (h 8) :: rest)) := x_put (ty := .long) X hw inlX3 tyX3_ok nmX3 rfl 8 (by decide) rfl 2 (by decide) hlink rfl (by decide +kernel) rfl rfl (Nat.le_of_ble_eq_true rfl) hdg rfl (bL0_n g h (b, w) v) kk
theorem he_X5 (g : gT) (h : Nat → Nat) (b : ST) (w : Nat → ST) : cC g h (b, w) 10 = .inr (4, [.ref (h 1), .ref (h 11)]) := rfl
theorem gX5_net {p : Program} {l : Launch} {e : Env} {R : Room} {s : State} {m : MethodId} {args : Array Value} {below : List Frame} {meth : Method} {c : Code} {H : Heap} {locs : List Loc} {Q : State → Prop} {cc : ByteArray} {pc : Nat} {ls : Array Slot} {rest : List Value} {own : String} {nL : Nat} {g : gT} {h : Nat → Nat} {b : ST} {w : Nat → ST} {index : Nat} (X : Cx g p s m args c cc own nL) (hw : Wd g 79 h (cC g h (b, w)) s H locs) (hlink : Cond.fieldLink own index "LinkChances$SetCounts" "net" "LLinkChances$Net;" ∈ wsL_law) (hdg : decode cc pc = .ok (.getfield index, 3)) (kk : W p l e R s m args below meth c H locs 0 0 Q (F0 m (pc + 3) ls (.ref (h 1) :: rest))) : W p l e R s m args below meth c H locs 0 0 Q (F0 m pc ls (.ref (h 10) :: rest)) := x_get X hw inlX5 rfl 10 (by decide) rfl 0 (by decide) hlink rfl hdg kk
theorem gX5_reaching {p : Program} {l : Launch} {e : Env} {R : Room} {s : State} {m : MethodId} {args : Array Value} {below : List Frame} {meth : Method} {c : Code} {H : Heap} {locs : List Loc} {Q : State → Prop} {cc : ByteArray} {pc : Nat} {ls : Array Slot} {rest : List Value} {own : String} {nL : Nat} {g : gT} {h : Nat → Nat} {b : ST} {w : Nat → ST} {index : Nat} (X : Cx g p s m args c cc own nL) (hw : Wd g 79 h (cC g h (b, w)) s H locs) (hlink : Cond.fieldLink own index "LinkChances$SetCounts" "reaching" "[I" ∈ wsL_law) (hdg : decode cc pc = .ok (.getfield index, 3)) (kk : W p l e R s m args below meth c H locs 0 0 Q (F0 m (pc + 3) ls (.ref (h 11) :: rest))) : W p l e R s m args below meth c H locs 0 0 Q (F0 m pc ls (.ref (h 10) :: rest)) := x_get X hw inlX5 rfl 10 (by decide) rfl 1 (by decide) hlink rfl hdg kk
theorem he_X6 (g : gT) (h : Nat → Nat) (b : ST) (w : Nat → ST) : cC g h (b, w) 12 = .inr (5, [.ref (h 1), .ref (h 13)]) := rfl
theorem gX6_net {p : Program} {l : Launch} {e : Env} {R : Room} {s : State} {m : MethodId} {args : Array Value} {below : List Frame} {meth : Method} {c : Code} {H : Heap} {locs : List Loc} {Q : State → Prop} {cc : ByteArray} {pc : Nat} {ls : Array Slot} {rest : List Value} {own : String} {nL : Nat} {g : gT} {h : Nat → Nat} {b : ST} {w : Nat → ST} {index : Nat} (X : Cx g p s m args c cc own nL) (hw : Wd g 79 h (cC g h (b, w)) s H locs) (hlink : Cond.fieldLink own index "LinkChances$Shared" "net" "LLinkChances$Net;" ∈ wsL_law) (hdg : decode cc pc = .ok (.getfield index, 3)) (kk : W p l e R s m args below meth c H locs 0 0 Q (F0 m (pc + 3) ls (.ref (h 1) :: rest))) : W p l e R s m args below meth c H locs 0 0 Q (F0 m pc ls (.ref (h 12) :: rest)) := x_get X hw inlX6 rfl 12 (by decide) rfl 0 (by decide) hlink rfl hdg kk
theorem gX6_looks {p : Program} {l : Launch} {e : Env} {R : Room} {s : State} {m : MethodId} {args : Array Value} {below : List Frame} {meth : Method} {c : Code} {H : Heap} {locs : List Loc} {Q : State → Prop} {cc : ByteArray} {pc : Nat} {ls : Array Slot} {rest : List Value} {own : String} {nL : Nat} {g : gT} {h : Nat → Nat} {b : ST} {w : Nat → ST} {index : Nat} (X : Cx g p s m args c cc own nL) (hw : Wd g 79 h (cC g h (b, w)) s H locs) (hlink : Cond.fieldLink own index "LinkChances$Shared" "looks" "[J" ∈ wsL_law) (hdg : decode cc pc = .ok (.getfield index, 3)) (kk : W p l e R s m args below meth c H locs 0 0 Q (F0 m (pc + 3) ls (.ref (h 13) :: rest))) : W p l e R s m args below meth c H locs 0 0 Q (F0 m pc ls (.ref (h 12) :: rest)) := x_get X hw inlX6 rfl 12 (by decide) rfl 1 (by decide) hlink rfl hdg kk
theorem he_X0 (g : gT) (h : Nat → Nat) (b : ST) (w : Nat → ST) : cC g h (b, w) 14 = .inr (0, [.ref (h 1), .ref (h 15), .int (b.1 4), .int (b.1 5), .int (b.1 6)]) := rfl
theorem gX0_net {p : Program} {l : Launch} {e : Env} {R : Room} {s : State} {m : MethodId} {args : Array Value} {below : List Frame} {meth : Method} {c : Code} {H : Heap} {locs : List Loc} {Q : State → Prop} {cc : ByteArray} {pc : Nat} {ls : Array Slot} {rest : List Value} {own : String} {nL : Nat} {g : gT} {h : Nat → Nat} {b : ST} {w : Nat → ST} {index : Nat} (X : Cx g p s m args c cc own nL) (hw : Wd g 79 h (cC g h (b, w)) s H locs) (hlink : Cond.fieldLink own index "LinkChances$CutAndJoin" "net" "LLinkChances$Net;" ∈ wsL_law) (hdg : decode cc pc = .ok (.getfield index, 3)) (kk : W p l e R s m args below meth c H locs 0 0 Q (F0 m (pc + 3) ls (.ref (h 1) :: rest))) : W p l e R s m args below meth c H locs 0 0 Q (F0 m pc ls (.ref (h 14) :: rest)) := x_get X hw inlX0 rfl 14 (by decide) rfl 0 (by decide) hlink rfl hdg kk
theorem gX0_levels {p : Program} {l : Launch} {e : Env} {R : Room} {s : State} {m : MethodId} {args : Array Value} {below : List Frame} {meth : Method} {c : Code} {H : Heap} {locs : List Loc} {Q : State → Prop} {cc : ByteArray} {pc : Nat} {ls : Array Slot} {rest : List Value} {own : String} {nL : Nat} {g : gT} {h : Nat → Nat} {b : ST} {w : Nat → ST} {index : Nat} (X : Cx g p s m args c cc own nL) (hw : Wd g 79 h (cC g h (b, w)) s H locs) (hlink : Cond.fieldLink own index "LinkChances$CutAndJoin" "levels" "[LLinkChances$TidyNet;" ∈ wsL_law) (hdg : decode cc pc = .ok (.getfield index, 3)) (kk : W p l e R s m args below meth c H locs 0 0 Q (F0 m (pc + 3) ls (.ref (h 15) :: rest))) : W p l e R s m args below meth c H locs 0 0 Q (F0 m pc ls (.ref (h 14) :: rest)) := x_get X hw inlX0 rfl 14 (by decide) rfl 1 (by decide) hlink rfl hdg kk
theorem gX0_steps {p : Program} {l : Launch} {e : Env} {R : Room} {s : State} {m : MethodId} {args : Array Value} {below : List Frame} {meth : Method} {c : Code} {H : Heap} {locs : List Loc} {Q : State → Prop} {cc : ByteArray} {pc : Nat} {ls : Array Slot} {rest : List Value} {own : String} {nL : Nat} {g : gT} {h : Nat → Nat} {b : ST} {w : Nat → ST} {index : Nat} (X : Cx g p s m args c cc own nL) (hw : Wd g 79 h (cC g h (b, w)) s H locs) (hlink : Cond.fieldLink own index "LinkChances$CutAndJoin" "steps" "I" ∈ wsL_law) (hdg : decode cc pc = .ok (.getfield index, 3)) (kk : W p l e R s m args below meth c H locs 0 0 Q (F0 m (pc + 3) ls (.int (b.1 4) :: rest))) : W p l e R s m args below meth c H locs 0 0 Q (F0 m pc ls (.ref (h 14) :: rest)) := x_get X hw inlX0 rfl 14 (by decide) rfl 2 (by decide) hlink rfl hdg kk
theorem pX0_steps {p : Program} {l : Launch} {e : Env} {R : Room} {s : State} {m : MethodId} {args : Array Value} {below : List Frame} {meth : Method} {c : Code} {H : Heap} {locs : List Loc} {Q : State → Prop} {cc : ByteArray} {pc : Nat} {ls : Array Slot} {rest : List Value} {own : String} {nL : Nat} {g : gT} {h : Nat → Nat} {b : ST} {w : Nat → ST} {v : Int32} {index : Nat} (X : Cx g p s m args c cc own nL) (hw : Wd g 79 h (cC g h (b, w)) s H locs) (hlink : Cond.fieldLink own index "LinkChances$CutAndJoin" "steps" "I" ∈ wsL_law) (hdg : decode cc pc = .ok (.putfield index, 3)) (kk : ∀ (H : Heap) (locs : List Loc), Wd g 79 h (cC g h (wI b 4 v, w)) s H locs → W p l e R s m args below meth c H locs 0 0 Q (F0 m (pc + 3) ls rest)) : W p l e R s m args below meth c H locs 0 0 Q (F0 m pc ls (.int v :: .ref (h 14) :: rest)) := x_put (ty := .int) X hw inlX0 tyX0_ok nmX0 rfl 14 (by decide) rfl 2 (by decide) hlink rfl (by decide +kernel) rfl rfl (Nat.le_of_ble_eq_true rfl) hdg rfl (bI4_n g h (b, w) v) kk
theorem gX0_deep {p : Program} {l : Launch} {e : Env} {R : Room} {s : State} {m : MethodId} {args : Array Value} {below : List Frame} {meth : Method} {c : Code} {H : Heap} {locs : List Loc} {Q : State → Prop} {cc : ByteArray} {pc : Nat} {ls : Array Slot} {rest : List Value} {own : String} {nL : Nat} {g : gT} {h : Nat → Nat} {b : ST} {w : Nat → ST} {index : Nat} (X : Cx g p s m args c cc own nL) (hw : Wd g 79 h (cC g h (b, w)) s H locs) (hlink : Cond.fieldLink own index "LinkChances$CutAndJoin" "deep" "I" ∈ wsL_law) (hdg : decode cc pc = .ok (.getfield index, 3)) (kk : W p l e R s m args below meth c H locs 0 0 Q (F0 m (pc + 3) ls (.int (b.1 5) :: rest))) : W p l e R s m args below meth c H locs 0 0 Q (F0 m pc ls (.ref (h 14) :: rest)) := x_get X hw inlX0 rfl 14 (by decide) rfl 3 (by decide) hlink rfl hdg kk
theorem pX0_deep {p : Program} {l : Launch} {e : Env} {R : Room} {s : State} {m : MethodId} {args : Array Value} {below : List Frame} {meth : Method} {c : Code} {H : Heap} {locs : List Loc} {Q : State → Prop} {cc : ByteArray} {pc : Nat} {ls : Array Slot} {rest : List Value} {own : String} {nL : Nat} {g : gT} {h : Nat → Nat} {b : ST} {w : Nat → ST} {v : Int32} {index : Nat} (X : Cx g p s m args c cc own nL) (hw : Wd g 79 h (cC g h (b, w)) s H locs) (hlink : Cond.fieldLink own index "LinkChances$CutAndJoin" "deep" "I" ∈ wsL_law) (hdg : decode cc pc = .ok (.putfield index, 3)) (kk : ∀ (H : Heap) (locs : List Loc), Wd g 79 h (cC g h (wI b 5 v, w)) s H locs → W p l e R s m args below meth c H locs 0 0 Q (F0 m (pc + 3) ls rest)) : W p l e R s m args below meth c H locs 0 0 Q (F0 m pc ls (.int v :: .ref (h 14) :: rest)) := x_put (ty := .int) X hw inlX0 tyX0_ok nmX0 rfl 14 (by decide) rfl 3 (by decide) hlink rfl (by decide +kernel) rfl rfl (Nat.le_of_ble_eq_true rfl) hdg rfl (bI5_n g h (b, w) v) kk
theorem gX0_tidied {p : Program} {l : Launch} {e : Env} {R : Room} {s : State} {m : MethodId} {args : Array Value} {below : List Frame} {meth : Method} {c : Code} {H : Heap} {locs : List Loc} {Q : State → Prop} {cc : ByteArray} {pc : Nat} {ls : Array Slot} {rest : List Value} {own : String} {nL : Nat} {g : gT} {h : Nat → Nat} {b : ST} {w : Nat → ST} {index : Nat} (X : Cx g p s m args c cc own nL) (hw : Wd g 79 h (cC g h (b, w)) s H locs) (hlink : Cond.fieldLink own index "LinkChances$CutAndJoin" "tidied" "I" ∈ wsL_law) (hdg : decode cc pc = .ok (.getfield index, 3)) (kk : W p l e R s m args below meth c H locs 0 0 Q (F0 m (pc + 3) ls (.int (b.1 6) :: rest))) : W p l e R s m args below meth c H locs 0 0 Q (F0 m pc ls (.ref (h 14) :: rest)) := x_get X hw inlX0 rfl 14 (by decide) rfl 4 (by decide) hlink rfl hdg kk
theorem pX0_tidied {p : Program} {l : Launch} {e : Env} {R : Room} {s : State} {m : MethodId} {args : Array Value} {below : List Frame} {meth : Method} {c : Code} {H : Heap} {locs : List Loc} {Q : State → Prop} {cc : ByteArray} {pc : Nat} {ls : Array Slot} {rest : List Value} {own : String} {nL : Nat} {g : gT} {h : Nat → Nat} {b : ST} {w : Nat → ST} {v : Int32} {index : Nat} (X : Cx g p s m args c cc own nL) (hw : Wd g 79 h (cC g h (b, w)) s H locs) (hlink : Cond.fieldLink own index "LinkChances$CutAndJoin" "tidied" "I" ∈ wsL_law) (hdg : decode cc pc = .ok (.putfield index, 3)) (kk : ∀ (H : Heap) (locs : List Loc), Wd g 79 h (cC g h (wI b 6 v, w)) s H locs → W p l e R s m args below meth c H locs 0 0 Q (F0 m (pc + 3) ls rest)) : W p l e R s m args below meth c H locs 0 0 Q (F0 m pc ls (.int v :: .ref (h 14) :: rest)) := x_put (ty := .int) X hw inlX0 tyX0_ok nmX0 rfl 14 (by decide) rfl 4 (by decide) hlink rfl (by decide +kernel) rfl rfl (Nat.le_of_ble_eq_true rfl) hdg rfl (bI6_n g h (b, w) v) kk
theorem he_X4 (g : gT) (h : Nat → Nat) (b : ST) (w : Nat → ST) : cC g h (b, w) 16 = .inr (3, [.ref (h 1), .ref (h 17), .int (b.1 7), .int (b.1 8)]) := rfl
theorem gX4_net {p : Program} {l : Launch} {e : Env} {R : Room} {s : State} {m : MethodId} {args : Array Value} {below : List Frame} {meth : Method} {c : Code} {H : Heap} {locs : List Loc} {Q : State → Prop} {cc : ByteArray} {pc : Nat} {ls : Array Slot} {rest : List Value} {own : String} {nL : Nat} {g : gT} {h : Nat → Nat} {b : ST} {w : Nat → ST} {index : Nat} (X : Cx g p s m args c cc own nL) (hw : Wd g 79 h (cC g h (b, w)) s H locs) (hlink : Cond.fieldLink own index "LinkChances$Orders" "net" "LLinkChances$Net;" ∈ wsL_law) (hdg : decode cc pc = .ok (.getfield index, 3)) (kk : W p l e R s m args below meth c H locs 0 0 Q (F0 m (pc + 3) ls (.ref (h 1) :: rest))) : W p l e R s m args below meth c H locs 0 0 Q (F0 m pc ls (.ref (h 16) :: rest)) := x_get X hw inlX4 rfl 16 (by decide) rfl 0 (by decide) hlink rfl hdg kk
theorem gX4_text {p : Program} {l : Launch} {e : Env} {R : Room} {s : State} {m : MethodId} {args : Array Value} {below : List Frame} {meth : Method} {c : Code} {H : Heap} {locs : List Loc} {Q : State → Prop} {cc : ByteArray} {pc : Nat} {ls : Array Slot} {rest : List Value} {own : String} {nL : Nat} {g : gT} {h : Nat → Nat} {b : ST} {w : Nat → ST} {index : Nat} (X : Cx g p s m args c cc own nL) (hw : Wd g 79 h (cC g h (b, w)) s H locs) (hlink : Cond.fieldLink own index "LinkChances$Orders" "text" "[I" ∈ wsL_law) (hdg : decode cc pc = .ok (.getfield index, 3)) (kk : W p l e R s m args below meth c H locs 0 0 Q (F0 m (pc + 3) ls (.ref (h 17) :: rest))) : W p l e R s m args below meth c H locs 0 0 Q (F0 m pc ls (.ref (h 16) :: rest)) := x_get X hw inlX4 rfl 16 (by decide) rfl 1 (by decide) hlink rfl hdg kk
theorem gX4_length {p : Program} {l : Launch} {e : Env} {R : Room} {s : State} {m : MethodId} {args : Array Value} {below : List Frame} {meth : Method} {c : Code} {H : Heap} {locs : List Loc} {Q : State → Prop} {cc : ByteArray} {pc : Nat} {ls : Array Slot} {rest : List Value} {own : String} {nL : Nat} {g : gT} {h : Nat → Nat} {b : ST} {w : Nat → ST} {index : Nat} (X : Cx g p s m args c cc own nL) (hw : Wd g 79 h (cC g h (b, w)) s H locs) (hlink : Cond.fieldLink own index "LinkChances$Orders" "length" "I" ∈ wsL_law) (hdg : decode cc pc = .ok (.getfield index, 3)) (kk : W p l e R s m args below meth c H locs 0 0 Q (F0 m (pc + 3) ls (.int (b.1 7) :: rest))) : W p l e R s m args below meth c H locs 0 0 Q (F0 m pc ls (.ref (h 16) :: rest)) := x_get X hw inlX4 rfl 16 (by decide) rfl 2 (by decide) hlink rfl hdg kk
theorem pX4_length {p : Program} {l : Launch} {e : Env} {R : Room} {s : State} {m : MethodId} {args : Array Value} {below : List Frame} {meth : Method} {c : Code} {H : Heap} {locs : List Loc} {Q : State → Prop} {cc : ByteArray} {pc : Nat} {ls : Array Slot} {rest : List Value} {own : String} {nL : Nat} {g : gT} {h : Nat → Nat} {b : ST} {w : Nat → ST} {v : Int32} {index : Nat} (X : Cx g p s m args c cc own nL) (hw : Wd g 79 h (cC g h (b, w)) s H locs) (hlink : Cond.fieldLink own index "LinkChances$Orders" "length" "I" ∈ wsL_law) (hdg : decode cc pc = .ok (.putfield index, 3)) (kk : ∀ (H : Heap) (locs : List Loc), Wd g 79 h (cC g h (wI b 7 v, w)) s H locs → W p l e R s m args below meth c H locs 0 0 Q (F0 m (pc + 3) ls rest)) : W p l e R s m args below meth c H locs 0 0 Q (F0 m pc ls (.int v :: .ref (h 16) :: rest)) := x_put (ty := .int) X hw inlX4 tyX4_ok nmX4 rfl 16 (by decide) rfl 2 (by decide) hlink rfl (by decide +kernel) rfl rfl (Nat.le_of_ble_eq_true rfl) hdg rfl (bI7_n g h (b, w) v) kk
theorem gX4_fault {p : Program} {l : Launch} {e : Env} {R : Room} {s : State} {m : MethodId} {args : Array Value} {below : List Frame} {meth : Method} {c : Code} {H : Heap} {locs : List Loc} {Q : State → Prop} {cc : ByteArray} {pc : Nat} {ls : Array Slot} {rest : List Value} {own : String} {nL : Nat} {g : gT} {h : Nat → Nat} {b : ST} {w : Nat → ST} {index : Nat} (X : Cx g p s m args c cc own nL) (hw : Wd g 79 h (cC g h (b, w)) s H locs) (hlink : Cond.fieldLink own index "LinkChances$Orders" "fault" "I" ∈ wsL_law) (hdg : decode cc pc = .ok (.getfield index, 3)) (kk : W p l e R s m args below meth c H locs 0 0 Q (F0 m (pc + 3) ls (.int (b.1 8) :: rest))) : W p l e R s m args below meth c H locs 0 0 Q (F0 m pc ls (.ref (h 16) :: rest)) := x_get X hw inlX4 rfl 16 (by decide) rfl 3 (by decide) hlink rfl hdg kk
theorem pX4_fault {p : Program} {l : Launch} {e : Env} {R : Room} {s : State} {m : MethodId} {args : Array Value} {below : List Frame} {meth : Method} {c : Code} {H : Heap} {locs : List Loc} {Q : State → Prop} {cc : ByteArray} {pc : Nat} {ls : Array Slot} {rest : List Value} {own : String} {nL : Nat} {g : gT} {h : Nat → Nat} {b : ST} {w : Nat → ST} {v : Int32} {index : Nat} (X : Cx g p s m args c cc own nL) (hw : Wd g 79 h (cC g h (b, w)) s H locs) (hlink : Cond.fieldLink own index "LinkChances$Orders" "fault" "I" ∈ wsL_law) (hdg : decode cc pc = .ok (.putfield index, 3)) (kk : ∀ (H : Heap) (locs : List Loc), Wd g 79 h (cC g h (wI b 8 v, w)) s H locs → W p l e R s m args below meth c H locs 0 0 Q (F0 m (pc + 3) ls rest)) : W p l e R s m args below meth c H locs 0 0 Q (F0 m pc ls (.int v :: .ref (h 16) :: rest)) := x_put (ty := .int) X hw inlX4 tyX4_ok nmX4 rfl 16 (by decide) rfl 3 (by decide) hlink rfl (by decide +kernel) rfl rfl (Nat.le_of_ble_eq_true rfl) hdg rfl (bI8_n g h (b, w) v) kk
theorem he_X7 (g : gT) (h : Nat → Nat) (b : ST) (w : Nat → ST) : cC g h (b, w) 18 = .inr (6, [.ref (h 19), .ref (h 23), .int (b.1 9)]) := rfl
theorem gX7_rows {p : Program} {l : Launch} {e : Env} {R : Room} {s : State} {m : MethodId} {args : Array Value} {below : List Frame} {meth : Method} {c : Code} {H : Heap} {locs : List Loc} {Q : State → Prop} {cc : ByteArray} {pc : Nat} {ls : Array Slot} {rest : List Value} {own : String} {nL : Nat} {g : gT} {h : Nat → Nat} {b : ST} {w : Nat → ST} {index : Nat} (X : Cx g p s m args c cc own nL) (hw : Wd g 79 h (cC g h (b, w)) s H locs) (hlink : Cond.fieldLink own index "LinkChances$Sheets" "rows" "[[J" ∈ wsL_law) (hdg : decode cc pc = .ok (.getfield index, 3)) (kk : W p l e R s m args below meth c H locs 0 0 Q (F0 m (pc + 3) ls (.ref (h 19) :: rest))) : W p l e R s m args below meth c H locs 0 0 Q (F0 m pc ls (.ref (h 18) :: rest)) := x_get X hw inlX7 rfl 18 (by decide) rfl 0 (by decide) hlink rfl hdg kk
theorem gX7_sizes {p : Program} {l : Launch} {e : Env} {R : Room} {s : State} {m : MethodId} {args : Array Value} {below : List Frame} {meth : Method} {c : Code} {H : Heap} {locs : List Loc} {Q : State → Prop} {cc : ByteArray} {pc : Nat} {ls : Array Slot} {rest : List Value} {own : String} {nL : Nat} {g : gT} {h : Nat → Nat} {b : ST} {w : Nat → ST} {index : Nat} (X : Cx g p s m args c cc own nL) (hw : Wd g 79 h (cC g h (b, w)) s H locs) (hlink : Cond.fieldLink own index "LinkChances$Sheets" "sizes" "[I" ∈ wsL_law) (hdg : decode cc pc = .ok (.getfield index, 3)) (kk : W p l e R s m args below meth c H locs 0 0 Q (F0 m (pc + 3) ls (.ref (h 23) :: rest))) : W p l e R s m args below meth c H locs 0 0 Q (F0 m pc ls (.ref (h 18) :: rest)) := x_get X hw inlX7 rfl 18 (by decide) rfl 1 (by decide) hlink rfl hdg kk
theorem gX7_latest {p : Program} {l : Launch} {e : Env} {R : Room} {s : State} {m : MethodId} {args : Array Value} {below : List Frame} {meth : Method} {c : Code} {H : Heap} {locs : List Loc} {Q : State → Prop} {cc : ByteArray} {pc : Nat} {ls : Array Slot} {rest : List Value} {own : String} {nL : Nat} {g : gT} {h : Nat → Nat} {b : ST} {w : Nat → ST} {index : Nat} (X : Cx g p s m args c cc own nL) (hw : Wd g 79 h (cC g h (b, w)) s H locs) (hlink : Cond.fieldLink own index "LinkChances$Sheets" "latest" "I" ∈ wsL_law) (hdg : decode cc pc = .ok (.getfield index, 3)) (kk : W p l e R s m args below meth c H locs 0 0 Q (F0 m (pc + 3) ls (.int (b.1 9) :: rest))) : W p l e R s m args below meth c H locs 0 0 Q (F0 m pc ls (.ref (h 18) :: rest)) := x_get X hw inlX7 rfl 18 (by decide) rfl 2 (by decide) hlink rfl hdg kk
theorem pX7_latest {p : Program} {l : Launch} {e : Env} {R : Room} {s : State} {m : MethodId} {args : Array Value} {below : List Frame} {meth : Method} {c : Code} {H : Heap} {locs : List Loc} {Q : State → Prop} {cc : ByteArray} {pc : Nat} {ls : Array Slot} {rest : List Value} {own : String} {nL : Nat} {g : gT} {h : Nat → Nat} {b : ST} {w : Nat → ST} {v : Int32} {index : Nat} (X : Cx g p s m args c cc own nL) (hw : Wd g 79 h (cC g h (b, w)) s H locs) (hlink : Cond.fieldLink own index "LinkChances$Sheets" "latest" "I" ∈ wsL_law) (hdg : decode cc pc = .ok (.putfield index, 3)) (kk : ∀ (H : Heap) (locs : List Loc), Wd g 79 h (cC g h (wI b 9 v, w)) s H locs → W p l e R s m args below meth c H locs 0 0 Q (F0 m (pc + 3) ls rest)) : W p l e R s m args below meth c H locs 0 0 Q (F0 m pc ls (.int v :: .ref (h 18) :: rest)) := x_put (ty := .int) X hw inlX7 tyX7_ok nmX7 rfl 18 (by decide) rfl 2 (by decide) hlink rfl (by decide +kernel) rfl rfl (Nat.le_of_ble_eq_true rfl) hdg rfl (bI9_n g h (b, w) v) kk
theorem lA0 {p : Program} {l : Launch} {e : Env} {R : Room} {s : State} {m : MethodId} {args : Array Value} {below : List Frame} {meth : Method} {c : Code} {H : Heap} {locs : List Loc} {Q : State → Prop} {cc : ByteArray} {pc : Nat} {ls : Array Slot} {rest : List Value} {own : String} {nL : Nat} {g : gT} {h : Nat → Nat} {b : ST} {w : Nat → ST} {i : Int32} (X : Cx g p s m args c cc own nL) (hw : Wd g 79 h (cC g h (b, w)) s H locs) (hin : ¬ (i < 0 ∨ 10 ≤ i.toNatClampNeg)) (hdg : decode cc pc = .ok (.iaload, 1)) (kk : W p l e R s m args below meth c H locs 0 0 Q (F0 m (pc + 1) ls (.int (b.2.2.1 0 i.toNatClampNeg) :: rest))) : W p l e R s m args below meth c H locs 0 0 Q (F0 m pc ls (.int i :: .ref (h 2) :: rest)) := x_iald X hw 2 (by decide) rfl hin hdg kk
theorem sA0 {p : Program} {l : Launch} {e : Env} {R : Room} {s : State} {m : MethodId} {args : Array Value} {below : List Frame} {meth : Method} {c : Code} {H : Heap} {locs : List Loc} {Q : State → Prop} {cc : ByteArray} {pc : Nat} {ls : Array Slot} {rest : List Value} {own : String} {nL : Nat} {g : gT} {h : Nat → Nat} {b : ST} {w : Nat → ST} {i : Int32} {v : Int32} (X : Cx g p s m args c cc own nL) (hw : Wd g 79 h (cC g h (b, w)) s H locs) (hin : ¬ (i < 0 ∨ 10 ≤ i.toNatClampNeg)) (hdg : decode cc pc = .ok (.iastore, 1)) (kk : ∀ (H : Heap) (locs : List Loc), Wd g 79 h (cC g h (wA b 0 i.toNatClampNeg v, w)) s H locs → W p l e R s m args below meth c H locs 0 0 Q (F0 m (pc + 1) ls rest)) : W p l e R s m args below meth c H locs 0 0 Q (F0 m pc ls (.int v :: .int i :: .ref (h 2) :: rest)) := x_iast X hw 2 (by decide) rfl hin hdg rfl (bA0_n g h (b, w) _ v) kk
theorem eA0 {p : Program} {l : Launch} {e : Env} {R : Room} {s : State} {m : MethodId} {args : Array Value} {below : List Frame} {meth : Method} {c : Code} {H : Heap} {locs : List Loc} {Q : State → Prop} {cc : ByteArray} {pc : Nat} {ls : Array Slot} {rest : List Value} {own : String} {nL : Nat} {g : gT} {h : Nat → Nat} {b : ST} {w : Nat → ST} {v : Int32} (X : Cx g p s m args c cc own nL) (hw : Wd g 79 h (cC g h (b, w)) s H locs) (hv : Int32.ofNat 10 = v) (hdg : decode cc pc = .ok (.arraylength, 1)) (kk : W p l e R s m args below meth c H locs 0 0 Q (F0 m (pc + 1) ls (.int v :: rest))) : W p l e R s m args below meth c H locs 0 0 Q (F0 m pc ls (.ref (h 2) :: rest)) := x_alen X hw 2 0 (by decide) rfl rfl hv hdg kk
theorem lA1 {p : Program} {l : Launch} {e : Env} {R : Room} {s : State} {m : MethodId} {args : Array Value} {below : List Frame} {meth : Method} {c : Code} {H : Heap} {locs : List Loc} {Q : State → Prop} {cc : ByteArray} {pc : Nat} {ls : Array Slot} {rest : List Value} {own : String} {nL : Nat} {g : gT} {h : Nat → Nat} {b : ST} {w : Nat → ST} {i : Int32} (X : Cx g p s m args c cc own nL) (hw : Wd g 79 h (cC g h (b, w)) s H locs) (hin : ¬ (i < 0 ∨ 10 ≤ i.toNatClampNeg)) (hdg : decode cc pc = .ok (.iaload, 1)) (kk : W p l e R s m args below meth c H locs 0 0 Q (F0 m (pc + 1) ls (.int (b.2.2.1 1 i.toNatClampNeg) :: rest))) : W p l e R s m args below meth c H locs 0 0 Q (F0 m pc ls (.int i :: .ref (h 3) :: rest)) := x_iald X hw 3 (by decide) rfl hin hdg kk
theorem sA1 {p : Program} {l : Launch} {e : Env} {R : Room} {s : State} {m : MethodId} {args : Array Value} {below : List Frame} {meth : Method} {c : Code} {H : Heap} {locs : List Loc} {Q : State → Prop} {cc : ByteArray} {pc : Nat} {ls : Array Slot} {rest : List Value} {own : String} {nL : Nat} {g : gT} {h : Nat → Nat} {b : ST} {w : Nat → ST} {i : Int32} {v : Int32} (X : Cx g p s m args c cc own nL) (hw : Wd g 79 h (cC g h (b, w)) s H locs) (hin : ¬ (i < 0 ∨ 10 ≤ i.toNatClampNeg)) (hdg : decode cc pc = .ok (.iastore, 1)) (kk : ∀ (H : Heap) (locs : List Loc), Wd g 79 h (cC g h (wA b 1 i.toNatClampNeg v, w)) s H locs → W p l e R s m args below meth c H locs 0 0 Q (F0 m (pc + 1) ls rest)) : W p l e R s m args below meth c H locs 0 0 Q (F0 m pc ls (.int v :: .int i :: .ref (h 3) :: rest)) := x_iast X hw 3 (by decide) rfl hin hdg rfl (bA1_n g h (b, w) _ v) kk
theorem eA1 {p : Program} {l : Launch} {e : Env} {R : Room} {s : State} {m : MethodId} {args : Array Value} {below : List Frame} {meth : Method} {c : Code} {H : Heap} {locs : List Loc} {Q : State → Prop} {cc : ByteArray} {pc : Nat} {ls : Array Slot} {rest : List Value} {own : String} {nL : Nat} {g : gT} {h : Nat → Nat} {b : ST} {w : Nat → ST} {v : Int32} (X : Cx g p s m args c cc own nL) (hw : Wd g 79 h (cC g h (b, w)) s H locs) (hv : Int32.ofNat 10 = v) (hdg : decode cc pc = .ok (.arraylength, 1)) (kk : W p l e R s m args below meth c H locs 0 0 Q (F0 m (pc + 1) ls (.int v :: rest))) : W p l e R s m args below meth c H locs 0 0 Q (F0 m pc ls (.ref (h 3) :: rest)) := x_alen X hw 3 0 (by decide) rfl rfl hv hdg kk
theorem lA2 {p : Program} {l : Launch} {e : Env} {R : Room} {s : State} {m : MethodId} {args : Array Value} {below : List Frame} {meth : Method} {c : Code} {H : Heap} {locs : List Loc} {Q : State → Prop} {cc : ByteArray} {pc : Nat} {ls : Array Slot} {rest : List Value} {own : String} {nL : Nat} {g : gT} {h : Nat → Nat} {b : ST} {w : Nat → ST} {i : Int32} (X : Cx g p s m args c cc own nL) (hw : Wd g 79 h (cC g h (b, w)) s H locs) (hin : ¬ (i < 0 ∨ 10 ≤ i.toNatClampNeg)) (hdg : decode cc pc = .ok (.iaload, 1)) (kk : W p l e R s m args below meth c H locs 0 0 Q (F0 m (pc + 1) ls (.int (b.2.2.1 2 i.toNatClampNeg) :: rest))) : W p l e R s m args below meth c H locs 0 0 Q (F0 m pc ls (.int i :: .ref (h 4) :: rest)) := x_iald X hw 4 (by decide) rfl hin hdg kk
theorem sA2 {p : Program} {l : Launch} {e : Env} {R : Room} {s : State} {m : MethodId} {args : Array Value} {below : List Frame} {meth : Method} {c : Code} {H : Heap} {locs : List Loc} {Q : State → Prop} {cc : ByteArray} {pc : Nat} {ls : Array Slot} {rest : List Value} {own : String} {nL : Nat} {g : gT} {h : Nat → Nat} {b : ST} {w : Nat → ST} {i : Int32} {v : Int32} (X : Cx g p s m args c cc own nL) (hw : Wd g 79 h (cC g h (b, w)) s H locs) (hin : ¬ (i < 0 ∨ 10 ≤ i.toNatClampNeg)) (hdg : decode cc pc = .ok (.iastore, 1)) (kk : ∀ (H : Heap) (locs : List Loc), Wd g 79 h (cC g h (wA b 2 i.toNatClampNeg v, w)) s H locs → W p l e R s m args below meth c H locs 0 0 Q (F0 m (pc + 1) ls rest)) : W p l e R s m args below meth c H locs 0 0 Q (F0 m pc ls (.int v :: .int i :: .ref (h 4) :: rest)) := x_iast X hw 4 (by decide) rfl hin hdg rfl (bA2_n g h (b, w) _ v) kk
theorem eA2 {p : Program} {l : Launch} {e : Env} {R : Room} {s : State} {m : MethodId} {args : Array Value} {below : List Frame} {meth : Method} {c : Code} {H : Heap} {locs : List Loc} {Q : State → Prop} {cc : ByteArray} {pc : Nat} {ls : Array Slot} {rest : List Value} {own : String} {nL : Nat} {g : gT} {h : Nat → Nat} {b : ST} {w : Nat → ST} {v : Int32} (X : Cx g p s m args c cc own nL) (hw : Wd g 79 h (cC g h (b, w)) s H locs) (hv : Int32.ofNat 10 = v) (hdg : decode cc pc = .ok (.arraylength, 1)) (kk : W p l e R s m args below meth c H locs 0 0 Q (F0 m (pc + 1) ls (.int v :: rest))) : W p l e R s m args below meth c H locs 0 0 Q (F0 m pc ls (.ref (h 4) :: rest)) := x_alen X hw 4 0 (by decide) rfl rfl hv hdg kk
theorem lA3 {p : Program} {l : Launch} {e : Env} {R : Room} {s : State} {m : MethodId} {args : Array Value} {below : List Frame} {meth : Method} {c : Code} {H : Heap} {locs : List Loc} {Q : State → Prop} {cc : ByteArray} {pc : Nat} {ls : Array Slot} {rest : List Value} {own : String} {nL : Nat} {g : gT} {h : Nat → Nat} {b : ST} {w : Nat → ST} {i : Int32} (X : Cx g p s m args c cc own nL) (hw : Wd g 79 h (cC g h (b, w)) s H locs) (hin : ¬ (i < 0 ∨ 10 ≤ i.toNatClampNeg)) (hdg : decode cc pc = .ok (.iaload, 1)) (kk : W p l e R s m args below meth c H locs 0 0 Q (F0 m (pc + 1) ls (.int (b.2.2.1 3 i.toNatClampNeg) :: rest))) : W p l e R s m args below meth c H locs 0 0 Q (F0 m pc ls (.int i :: .ref (h 5) :: rest)) := x_iald X hw 5 (by decide) rfl hin hdg kk
theorem sA3 {p : Program} {l : Launch} {e : Env} {R : Room} {s : State} {m : MethodId} {args : Array Value} {below : List Frame} {meth : Method} {c : Code} {H : Heap} {locs : List Loc} {Q : State → Prop} {cc : ByteArray} {pc : Nat} {ls : Array Slot} {rest : List Value} {own : String} {nL : Nat} {g : gT} {h : Nat → Nat} {b : ST} {w : Nat → ST} {i : Int32} {v : Int32} (X : Cx g p s m args c cc own nL) (hw : Wd g 79 h (cC g h (b, w)) s H locs) (hin : ¬ (i < 0 ∨ 10 ≤ i.toNatClampNeg)) (hdg : decode cc pc = .ok (.iastore, 1)) (kk : ∀ (H : Heap) (locs : List Loc), Wd g 79 h (cC g h (wA b 3 i.toNatClampNeg v, w)) s H locs → W p l e R s m args below meth c H locs 0 0 Q (F0 m (pc + 1) ls rest)) : W p l e R s m args below meth c H locs 0 0 Q (F0 m pc ls (.int v :: .int i :: .ref (h 5) :: rest)) := x_iast X hw 5 (by decide) rfl hin hdg rfl (bA3_n g h (b, w) _ v) kk
theorem eA3 {p : Program} {l : Launch} {e : Env} {R : Room} {s : State} {m : MethodId} {args : Array Value} {below : List Frame} {meth : Method} {c : Code} {H : Heap} {locs : List Loc} {Q : State → Prop} {cc : ByteArray} {pc : Nat} {ls : Array Slot} {rest : List Value} {own : String} {nL : Nat} {g : gT} {h : Nat → Nat} {b : ST} {w : Nat → ST} {v : Int32} (X : Cx g p s m args c cc own nL) (hw : Wd g 79 h (cC g h (b, w)) s H locs) (hv : Int32.ofNat 10 = v) (hdg : decode cc pc = .ok (.arraylength, 1)) (kk : W p l e R s m args below meth c H locs 0 0 Q (F0 m (pc + 1) ls (.int v :: rest))) : W p l e R s m args below meth c H locs 0 0 Q (F0 m pc ls (.ref (h 5) :: rest)) := x_alen X hw 5 0 (by decide) rfl rfl hv hdg kk
theorem lA4 {p : Program} {l : Launch} {e : Env} {R : Room} {s : State} {m : MethodId} {args : Array Value} {below : List Frame} {meth : Method} {c : Code} {H : Heap} {locs : List Loc} {Q : State → Prop} {cc : ByteArray} {pc : Nat} {ls : Array Slot} {rest : List Value} {own : String} {nL : Nat} {g : gT} {h : Nat → Nat} {b : ST} {w : Nat → ST} {i : Int32} (X : Cx g p s m args c cc own nL) (hw : Wd g 79 h (cC g h (b, w)) s H locs) (hin : ¬ (i < 0 ∨ 10 ≤ i.toNatClampNeg)) (hdg : decode cc pc = .ok (.iaload, 1)) (kk : W p l e R s m args below meth c H locs 0 0 Q (F0 m (pc + 1) ls (.int (b.2.2.1 4 i.toNatClampNeg) :: rest))) : W p l e R s m args below meth c H locs 0 0 Q (F0 m pc ls (.int i :: .ref (h 6) :: rest)) := x_iald X hw 6 (by decide) rfl hin hdg kk
theorem sA4 {p : Program} {l : Launch} {e : Env} {R : Room} {s : State} {m : MethodId} {args : Array Value} {below : List Frame} {meth : Method} {c : Code} {H : Heap} {locs : List Loc} {Q : State → Prop} {cc : ByteArray} {pc : Nat} {ls : Array Slot} {rest : List Value} {own : String} {nL : Nat} {g : gT} {h : Nat → Nat} {b : ST} {w : Nat → ST} {i : Int32} {v : Int32} (X : Cx g p s m args c cc own nL) (hw : Wd g 79 h (cC g h (b, w)) s H locs) (hin : ¬ (i < 0 ∨ 10 ≤ i.toNatClampNeg)) (hdg : decode cc pc = .ok (.iastore, 1)) (kk : ∀ (H : Heap) (locs : List Loc), Wd g 79 h (cC g h (wA b 4 i.toNatClampNeg v, w)) s H locs → W p l e R s m args below meth c H locs 0 0 Q (F0 m (pc + 1) ls rest)) : W p l e R s m args below meth c H locs 0 0 Q (F0 m pc ls (.int v :: .int i :: .ref (h 6) :: rest)) := x_iast X hw 6 (by decide) rfl hin hdg rfl (bA4_n g h (b, w) _ v) kk
theorem eA4 {p : Program} {l : Launch} {e : Env} {R : Room} {s : State} {m : MethodId} {args : Array Value} {below : List Frame} {meth : Method} {c : Code} {H : Heap} {locs : List Loc} {Q : State → Prop} {cc : ByteArray} {pc : Nat} {ls : Array Slot} {rest : List Value} {own : String} {nL : Nat} {g : gT} {h : Nat → Nat} {b : ST} {w : Nat → ST} {v : Int32} (X : Cx g p s m args c cc own nL) (hw : Wd g 79 h (cC g h (b, w)) s H locs) (hv : Int32.ofNat 10 = v) (hdg : decode cc pc = .ok (.arraylength, 1)) (kk : W p l e R s m args below meth c H locs 0 0 Q (F0 m (pc + 1) ls (.int v :: rest))) : W p l e R s m args below meth c H locs 0 0 Q (F0 m pc ls (.ref (h 6) :: rest)) := x_alen X hw 6 0 (by decide) rfl rfl hv hdg kk
theorem lB0 {p : Program} {l : Launch} {e : Env} {R : Room} {s : State} {m : MethodId} {args : Array Value} {below : List Frame} {meth : Method} {c : Code} {H : Heap} {locs : List Loc} {Q : State → Prop} {cc : ByteArray} {pc : Nat} {ls : Array Slot} {rest : List Value} {own : String} {nL : Nat} {g : gT} {h : Nat → Nat} {b : ST} {w : Nat → ST} {i : Int32} (X : Cx g p s m args c cc own nL) (hw : Wd g 79 h (cC g h (b, w)) s H locs) (hin : ¬ (i < 0 ∨ 1024 ≤ i.toNatClampNeg)) (hdg : decode cc pc = .ok (.laload, 1)) (kk : W p l e R s m args below meth c H locs 0 0 Q (F0 m (pc + 1) ls (.long (b.2.2.2 0 i.toNatClampNeg) :: rest))) : W p l e R s m args below meth c H locs 0 0 Q (F0 m pc ls (.int i :: .ref (h 7) :: rest)) := x_lald X hw 7 (by decide) rfl hin hdg kk
theorem sB0 {p : Program} {l : Launch} {e : Env} {R : Room} {s : State} {m : MethodId} {args : Array Value} {below : List Frame} {meth : Method} {c : Code} {H : Heap} {locs : List Loc} {Q : State → Prop} {cc : ByteArray} {pc : Nat} {ls : Array Slot} {rest : List Value} {own : String} {nL : Nat} {g : gT} {h : Nat → Nat} {b : ST} {w : Nat → ST} {i : Int32} {v : Int64} (X : Cx g p s m args c cc own nL) (hw : Wd g 79 h (cC g h (b, w)) s H locs) (hin : ¬ (i < 0 ∨ 1024 ≤ i.toNatClampNeg)) (hdg : decode cc pc = .ok (.lastore, 1)) (kk : ∀ (H : Heap) (locs : List Loc), Wd g 79 h (cC g h (wB b 0 i.toNatClampNeg v, w)) s H locs → W p l e R s m args below meth c H locs 0 0 Q (F0 m (pc + 1) ls rest)) : W p l e R s m args below meth c H locs 0 0 Q (F0 m pc ls (.long v :: .int i :: .ref (h 7) :: rest)) := x_last X hw 7 (by decide) rfl hin hdg rfl (bB0_n g h (b, w) _ v) kk
theorem eB0 {p : Program} {l : Launch} {e : Env} {R : Room} {s : State} {m : MethodId} {args : Array Value} {below : List Frame} {meth : Method} {c : Code} {H : Heap} {locs : List Loc} {Q : State → Prop} {cc : ByteArray} {pc : Nat} {ls : Array Slot} {rest : List Value} {own : String} {nL : Nat} {g : gT} {h : Nat → Nat} {b : ST} {w : Nat → ST} {v : Int32} (X : Cx g p s m args c cc own nL) (hw : Wd g 79 h (cC g h (b, w)) s H locs) (hv : Int32.ofNat 1024 = v) (hdg : decode cc pc = .ok (.arraylength, 1)) (kk : W p l e R s m args below meth c H locs 0 0 Q (F0 m (pc + 1) ls (.int v :: rest))) : W p l e R s m args below meth c H locs 0 0 Q (F0 m pc ls (.ref (h 7) :: rest)) := x_alen X hw 7 1 (by decide) rfl rfl hv hdg kk
theorem lB1 {p : Program} {l : Launch} {e : Env} {R : Room} {s : State} {m : MethodId} {args : Array Value} {below : List Frame} {meth : Method} {c : Code} {H : Heap} {locs : List Loc} {Q : State → Prop} {cc : ByteArray} {pc : Nat} {ls : Array Slot} {rest : List Value} {own : String} {nL : Nat} {g : gT} {h : Nat → Nat} {b : ST} {w : Nat → ST} {i : Int32} (X : Cx g p s m args c cc own nL) (hw : Wd g 79 h (cC g h (b, w)) s H locs) (hin : ¬ (i < 0 ∨ 1024 ≤ i.toNatClampNeg)) (hdg : decode cc pc = .ok (.laload, 1)) (kk : W p l e R s m args below meth c H locs 0 0 Q (F0 m (pc + 1) ls (.long (b.2.2.2 1 i.toNatClampNeg) :: rest))) : W p l e R s m args below meth c H locs 0 0 Q (F0 m pc ls (.int i :: .ref (h 9) :: rest)) := x_lald X hw 9 (by decide) rfl hin hdg kk
theorem sB1 {p : Program} {l : Launch} {e : Env} {R : Room} {s : State} {m : MethodId} {args : Array Value} {below : List Frame} {meth : Method} {c : Code} {H : Heap} {locs : List Loc} {Q : State → Prop} {cc : ByteArray} {pc : Nat} {ls : Array Slot} {rest : List Value} {own : String} {nL : Nat} {g : gT} {h : Nat → Nat} {b : ST} {w : Nat → ST} {i : Int32} {v : Int64} (X : Cx g p s m args c cc own nL) (hw : Wd g 79 h (cC g h (b, w)) s H locs) (hin : ¬ (i < 0 ∨ 1024 ≤ i.toNatClampNeg)) (hdg : decode cc pc = .ok (.lastore, 1)) (kk : ∀ (H : Heap) (locs : List Loc), Wd g 79 h (cC g h (wB b 1 i.toNatClampNeg v, w)) s H locs → W p l e R s m args below meth c H locs 0 0 Q (F0 m (pc + 1) ls rest)) : W p l e R s m args below meth c H locs 0 0 Q (F0 m pc ls (.long v :: .int i :: .ref (h 9) :: rest)) := x_last X hw 9 (by decide) rfl hin hdg rfl (bB1_n g h (b, w) _ v) kk
theorem eB1 {p : Program} {l : Launch} {e : Env} {R : Room} {s : State} {m : MethodId} {args : Array Value} {below : List Frame} {meth : Method} {c : Code} {H : Heap} {locs : List Loc} {Q : State → Prop} {cc : ByteArray} {pc : Nat} {ls : Array Slot} {rest : List Value} {own : String} {nL : Nat} {g : gT} {h : Nat → Nat} {b : ST} {w : Nat → ST} {v : Int32} (X : Cx g p s m args c cc own nL) (hw : Wd g 79 h (cC g h (b, w)) s H locs) (hv : Int32.ofNat 1024 = v) (hdg : decode cc pc = .ok (.arraylength, 1)) (kk : W p l e R s m args below meth c H locs 0 0 Q (F0 m (pc + 1) ls (.int v :: rest))) : W p l e R s m args below meth c H locs 0 0 Q (F0 m pc ls (.ref (h 9) :: rest)) := x_alen X hw 9 1 (by decide) rfl rfl hv hdg kk
theorem lA5 {p : Program} {l : Launch} {e : Env} {R : Room} {s : State} {m : MethodId} {args : Array Value} {below : List Frame} {meth : Method} {c : Code} {H : Heap} {locs : List Loc} {Q : State → Prop} {cc : ByteArray} {pc : Nat} {ls : Array Slot} {rest : List Value} {own : String} {nL : Nat} {g : gT} {h : Nat → Nat} {b : ST} {w : Nat → ST} {i : Int32} (X : Cx g p s m args c cc own nL) (hw : Wd g 79 h (cC g h (b, w)) s H locs) (hin : ¬ (i < 0 ∨ 11 ≤ i.toNatClampNeg)) (hdg : decode cc pc = .ok (.iaload, 1)) (kk : W p l e R s m args below meth c H locs 0 0 Q (F0 m (pc + 1) ls (.int (b.2.2.1 5 i.toNatClampNeg) :: rest))) : W p l e R s m args below meth c H locs 0 0 Q (F0 m pc ls (.int i :: .ref (h 11) :: rest)) := x_iald X hw 11 (by decide) rfl hin hdg kk
theorem sA5 {p : Program} {l : Launch} {e : Env} {R : Room} {s : State} {m : MethodId} {args : Array Value} {below : List Frame} {meth : Method} {c : Code} {H : Heap} {locs : List Loc} {Q : State → Prop} {cc : ByteArray} {pc : Nat} {ls : Array Slot} {rest : List Value} {own : String} {nL : Nat} {g : gT} {h : Nat → Nat} {b : ST} {w : Nat → ST} {i : Int32} {v : Int32} (X : Cx g p s m args c cc own nL) (hw : Wd g 79 h (cC g h (b, w)) s H locs) (hin : ¬ (i < 0 ∨ 11 ≤ i.toNatClampNeg)) (hdg : decode cc pc = .ok (.iastore, 1)) (kk : ∀ (H : Heap) (locs : List Loc), Wd g 79 h (cC g h (wA b 5 i.toNatClampNeg v, w)) s H locs → W p l e R s m args below meth c H locs 0 0 Q (F0 m (pc + 1) ls rest)) : W p l e R s m args below meth c H locs 0 0 Q (F0 m pc ls (.int v :: .int i :: .ref (h 11) :: rest)) := x_iast X hw 11 (by decide) rfl hin hdg rfl (bA5_n g h (b, w) _ v) kk
theorem eA5 {p : Program} {l : Launch} {e : Env} {R : Room} {s : State} {m : MethodId} {args : Array Value} {below : List Frame} {meth : Method} {c : Code} {H : Heap} {locs : List Loc} {Q : State → Prop} {cc : ByteArray} {pc : Nat} {ls : Array Slot} {rest : List Value} {own : String} {nL : Nat} {g : gT} {h : Nat → Nat} {b : ST} {w : Nat → ST} {v : Int32} (X : Cx g p s m args c cc own nL) (hw : Wd g 79 h (cC g h (b, w)) s H locs) (hv : Int32.ofNat 11 = v) (hdg : decode cc pc = .ok (.arraylength, 1)) (kk : W p l e R s m args below meth c H locs 0 0 Q (F0 m (pc + 1) ls (.int v :: rest))) : W p l e R s m args below meth c H locs 0 0 Q (F0 m pc ls (.ref (h 11) :: rest)) := x_alen X hw 11 0 (by decide) rfl rfl hv hdg kk
theorem lB2 {p : Program} {l : Launch} {e : Env} {R : Room} {s : State} {m : MethodId} {args : Array Value} {below : List Frame} {meth : Method} {c : Code} {H : Heap} {locs : List Loc} {Q : State → Prop} {cc : ByteArray} {pc : Nat} {ls : Array Slot} {rest : List Value} {own : String} {nL : Nat} {g : gT} {h : Nat → Nat} {b : ST} {w : Nat → ST} {i : Int32} (X : Cx g p s m args c cc own nL) (hw : Wd g 79 h (cC g h (b, w)) s H locs) (hin : ¬ (i < 0 ∨ 1024 ≤ i.toNatClampNeg)) (hdg : decode cc pc = .ok (.laload, 1)) (kk : W p l e R s m args below meth c H locs 0 0 Q (F0 m (pc + 1) ls (.long (b.2.2.2 2 i.toNatClampNeg) :: rest))) : W p l e R s m args below meth c H locs 0 0 Q (F0 m pc ls (.int i :: .ref (h 13) :: rest)) := x_lald X hw 13 (by decide) rfl hin hdg kk
theorem sB2 {p : Program} {l : Launch} {e : Env} {R : Room} {s : State} {m : MethodId} {args : Array Value} {below : List Frame} {meth : Method} {c : Code} {H : Heap} {locs : List Loc} {Q : State → Prop} {cc : ByteArray} {pc : Nat} {ls : Array Slot} {rest : List Value} {own : String} {nL : Nat} {g : gT} {h : Nat → Nat} {b : ST} {w : Nat → ST} {i : Int32} {v : Int64} (X : Cx g p s m args c cc own nL) (hw : Wd g 79 h (cC g h (b, w)) s H locs) (hin : ¬ (i < 0 ∨ 1024 ≤ i.toNatClampNeg)) (hdg : decode cc pc = .ok (.lastore, 1)) (kk : ∀ (H : Heap) (locs : List Loc), Wd g 79 h (cC g h (wB b 2 i.toNatClampNeg v, w)) s H locs → W p l e R s m args below meth c H locs 0 0 Q (F0 m (pc + 1) ls rest)) : W p l e R s m args below meth c H locs 0 0 Q (F0 m pc ls (.long v :: .int i :: .ref (h 13) :: rest)) := x_last X hw 13 (by decide) rfl hin hdg rfl (bB2_n g h (b, w) _ v) kk
theorem eB2 {p : Program} {l : Launch} {e : Env} {R : Room} {s : State} {m : MethodId} {args : Array Value} {below : List Frame} {meth : Method} {c : Code} {H : Heap} {locs : List Loc} {Q : State → Prop} {cc : ByteArray} {pc : Nat} {ls : Array Slot} {rest : List Value} {own : String} {nL : Nat} {g : gT} {h : Nat → Nat} {b : ST} {w : Nat → ST} {v : Int32} (X : Cx g p s m args c cc own nL) (hw : Wd g 79 h (cC g h (b, w)) s H locs) (hv : Int32.ofNat 1024 = v) (hdg : decode cc pc = .ok (.arraylength, 1)) (kk : W p l e R s m args below meth c H locs 0 0 Q (F0 m (pc + 1) ls (.int v :: rest))) : W p l e R s m args below meth c H locs 0 0 Q (F0 m pc ls (.ref (h 13) :: rest)) := x_alen X hw 13 1 (by decide) rfl rfl hv hdg kk
theorem lA6 {p : Program} {l : Launch} {e : Env} {R : Room} {s : State} {m : MethodId} {args : Array Value} {below : List Frame} {meth : Method} {c : Code} {H : Heap} {locs : List Loc} {Q : State → Prop} {cc : ByteArray} {pc : Nat} {ls : Array Slot} {rest : List Value} {own : String} {nL : Nat} {g : gT} {h : Nat → Nat} {b : ST} {w : Nat → ST} {i : Int32} (X : Cx g p s m args c cc own nL) (hw : Wd g 79 h (cC g h (b, w)) s H locs) (hin : ¬ (i < 0 ∨ 60 ≤ i.toNatClampNeg)) (hdg : decode cc pc = .ok (.iaload, 1)) (kk : W p l e R s m args below meth c H locs 0 0 Q (F0 m (pc + 1) ls (.int (b.2.2.1 6 i.toNatClampNeg) :: rest))) : W p l e R s m args below meth c H locs 0 0 Q (F0 m pc ls (.int i :: .ref (h 17) :: rest)) := x_iald X hw 17 (by decide) rfl hin hdg kk
theorem sA6 {p : Program} {l : Launch} {e : Env} {R : Room} {s : State} {m : MethodId} {args : Array Value} {below : List Frame} {meth : Method} {c : Code} {H : Heap} {locs : List Loc} {Q : State → Prop} {cc : ByteArray} {pc : Nat} {ls : Array Slot} {rest : List Value} {own : String} {nL : Nat} {g : gT} {h : Nat → Nat} {b : ST} {w : Nat → ST} {i : Int32} {v : Int32} (X : Cx g p s m args c cc own nL) (hw : Wd g 79 h (cC g h (b, w)) s H locs) (hin : ¬ (i < 0 ∨ 60 ≤ i.toNatClampNeg)) (hdg : decode cc pc = .ok (.iastore, 1)) (kk : ∀ (H : Heap) (locs : List Loc), Wd g 79 h (cC g h (wA b 6 i.toNatClampNeg v, w)) s H locs → W p l e R s m args below meth c H locs 0 0 Q (F0 m (pc + 1) ls rest)) : W p l e R s m args below meth c H locs 0 0 Q (F0 m pc ls (.int v :: .int i :: .ref (h 17) :: rest)) := x_iast X hw 17 (by decide) rfl hin hdg rfl (bA6_n g h (b, w) _ v) kk
theorem eA6 {p : Program} {l : Launch} {e : Env} {R : Room} {s : State} {m : MethodId} {args : Array Value} {below : List Frame} {meth : Method} {c : Code} {H : Heap} {locs : List Loc} {Q : State → Prop} {cc : ByteArray} {pc : Nat} {ls : Array Slot} {rest : List Value} {own : String} {nL : Nat} {g : gT} {h : Nat → Nat} {b : ST} {w : Nat → ST} {v : Int32} (X : Cx g p s m args c cc own nL) (hw : Wd g 79 h (cC g h (b, w)) s H locs) (hv : Int32.ofNat 60 = v) (hdg : decode cc pc = .ok (.arraylength, 1)) (kk : W p l e R s m args below meth c H locs 0 0 Q (F0 m (pc + 1) ls (.int v :: rest))) : W p l e R s m args below meth c H locs 0 0 Q (F0 m pc ls (.ref (h 17) :: rest)) := x_alen X hw 17 0 (by decide) rfl rfl hv hdg kk
theorem lB3 {p : Program} {l : Launch} {e : Env} {R : Room} {s : State} {m : MethodId} {args : Array Value} {below : List Frame} {meth : Method} {c : Code} {H : Heap} {locs : List Loc} {Q : State → Prop} {cc : ByteArray} {pc : Nat} {ls : Array Slot} {rest : List Value} {own : String} {nL : Nat} {g : gT} {h : Nat → Nat} {b : ST} {w : Nat → ST} {i : Int32} (X : Cx g p s m args c cc own nL) (hw : Wd g 79 h (cC g h (b, w)) s H locs) (hin : ¬ (i < 0 ∨ 40 ≤ i.toNatClampNeg)) (hdg : decode cc pc = .ok (.laload, 1)) (kk : W p l e R s m args below meth c H locs 0 0 Q (F0 m (pc + 1) ls (.long (b.2.2.2 3 i.toNatClampNeg) :: rest))) : W p l e R s m args below meth c H locs 0 0 Q (F0 m pc ls (.int i :: .ref (h 20) :: rest)) := x_lald X hw 20 (by decide) rfl hin hdg kk
theorem sB3 {p : Program} {l : Launch} {e : Env} {R : Room} {s : State} {m : MethodId} {args : Array Value} {below : List Frame} {meth : Method} {c : Code} {H : Heap} {locs : List Loc} {Q : State → Prop} {cc : ByteArray} {pc : Nat} {ls : Array Slot} {rest : List Value} {own : String} {nL : Nat} {g : gT} {h : Nat → Nat} {b : ST} {w : Nat → ST} {i : Int32} {v : Int64} (X : Cx g p s m args c cc own nL) (hw : Wd g 79 h (cC g h (b, w)) s H locs) (hin : ¬ (i < 0 ∨ 40 ≤ i.toNatClampNeg)) (hdg : decode cc pc = .ok (.lastore, 1)) (kk : ∀ (H : Heap) (locs : List Loc), Wd g 79 h (cC g h (wB b 3 i.toNatClampNeg v, w)) s H locs → W p l e R s m args below meth c H locs 0 0 Q (F0 m (pc + 1) ls rest)) : W p l e R s m args below meth c H locs 0 0 Q (F0 m pc ls (.long v :: .int i :: .ref (h 20) :: rest)) := x_last X hw 20 (by decide) rfl hin hdg rfl (bB3_n g h (b, w) _ v) kk
theorem eB3 {p : Program} {l : Launch} {e : Env} {R : Room} {s : State} {m : MethodId} {args : Array Value} {below : List Frame} {meth : Method} {c : Code} {H : Heap} {locs : List Loc} {Q : State → Prop} {cc : ByteArray} {pc : Nat} {ls : Array Slot} {rest : List Value} {own : String} {nL : Nat} {g : gT} {h : Nat → Nat} {b : ST} {w : Nat → ST} {v : Int32} (X : Cx g p s m args c cc own nL) (hw : Wd g 79 h (cC g h (b, w)) s H locs) (hv : Int32.ofNat 40 = v) (hdg : decode cc pc = .ok (.arraylength, 1)) (kk : W p l e R s m args below meth c H locs 0 0 Q (F0 m (pc + 1) ls (.int v :: rest))) : W p l e R s m args below meth c H locs 0 0 Q (F0 m pc ls (.ref (h 20) :: rest)) := x_alen X hw 20 1 (by decide) rfl rfl hv hdg kk
theorem lB4 {p : Program} {l : Launch} {e : Env} {R : Room} {s : State} {m : MethodId} {args : Array Value} {below : List Frame} {meth : Method} {c : Code} {H : Heap} {locs : List Loc} {Q : State → Prop} {cc : ByteArray} {pc : Nat} {ls : Array Slot} {rest : List Value} {own : String} {nL : Nat} {g : gT} {h : Nat → Nat} {b : ST} {w : Nat → ST} {i : Int32} (X : Cx g p s m args c cc own nL) (hw : Wd g 79 h (cC g h (b, w)) s H locs) (hin : ¬ (i < 0 ∨ 40 ≤ i.toNatClampNeg)) (hdg : decode cc pc = .ok (.laload, 1)) (kk : W p l e R s m args below meth c H locs 0 0 Q (F0 m (pc + 1) ls (.long (b.2.2.2 4 i.toNatClampNeg) :: rest))) : W p l e R s m args below meth c H locs 0 0 Q (F0 m pc ls (.int i :: .ref (h 21) :: rest)) := x_lald X hw 21 (by decide) rfl hin hdg kk
theorem sB4 {p : Program} {l : Launch} {e : Env} {R : Room} {s : State} {m : MethodId} {args : Array Value} {below : List Frame} {meth : Method} {c : Code} {H : Heap} {locs : List Loc} {Q : State → Prop} {cc : ByteArray} {pc : Nat} {ls : Array Slot} {rest : List Value} {own : String} {nL : Nat} {g : gT} {h : Nat → Nat} {b : ST} {w : Nat → ST} {i : Int32} {v : Int64} (X : Cx g p s m args c cc own nL) (hw : Wd g 79 h (cC g h (b, w)) s H locs) (hin : ¬ (i < 0 ∨ 40 ≤ i.toNatClampNeg)) (hdg : decode cc pc = .ok (.lastore, 1)) (kk : ∀ (H : Heap) (locs : List Loc), Wd g 79 h (cC g h (wB b 4 i.toNatClampNeg v, w)) s H locs → W p l e R s m args below meth c H locs 0 0 Q (F0 m (pc + 1) ls rest)) : W p l e R s m args below meth c H locs 0 0 Q (F0 m pc ls (.long v :: .int i :: .ref (h 21) :: rest)) := x_last X hw 21 (by decide) rfl hin hdg rfl (bB4_n g h (b, w) _ v) kk
theorem eB4 {p : Program} {l : Launch} {e : Env} {R : Room} {s : State} {m : MethodId} {args : Array Value} {below : List Frame} {meth : Method} {c : Code} {H : Heap} {locs : List Loc} {Q : State → Prop} {cc : ByteArray} {pc : Nat} {ls : Array Slot} {rest : List Value} {own : String} {nL : Nat} {g : gT} {h : Nat → Nat} {b : ST} {w : Nat → ST} {v : Int32} (X : Cx g p s m args c cc own nL) (hw : Wd g 79 h (cC g h (b, w)) s H locs) (hv : Int32.ofNat 40 = v) (hdg : decode cc pc = .ok (.arraylength, 1)) (kk : W p l e R s m args below meth c H locs 0 0 Q (F0 m (pc + 1) ls (.int v :: rest))) : W p l e R s m args below meth c H locs 0 0 Q (F0 m pc ls (.ref (h 21) :: rest)) := x_alen X hw 21 1 (by decide) rfl rfl hv hdg kk
theorem lB5 {p : Program} {l : Launch} {e : Env} {R : Room} {s : State} {m : MethodId} {args : Array Value} {below : List Frame} {meth : Method} {c : Code} {H : Heap} {locs : List Loc} {Q : State → Prop} {cc : ByteArray} {pc : Nat} {ls : Array Slot} {rest : List Value} {own : String} {nL : Nat} {g : gT} {h : Nat → Nat} {b : ST} {w : Nat → ST} {i : Int32} (X : Cx g p s m args c cc own nL) (hw : Wd g 79 h (cC g h (b, w)) s H locs) (hin : ¬ (i < 0 ∨ 40 ≤ i.toNatClampNeg)) (hdg : decode cc pc = .ok (.laload, 1)) (kk : W p l e R s m args below meth c H locs 0 0 Q (F0 m (pc + 1) ls (.long (b.2.2.2 5 i.toNatClampNeg) :: rest))) : W p l e R s m args below meth c H locs 0 0 Q (F0 m pc ls (.int i :: .ref (h 22) :: rest)) := x_lald X hw 22 (by decide) rfl hin hdg kk
theorem sB5 {p : Program} {l : Launch} {e : Env} {R : Room} {s : State} {m : MethodId} {args : Array Value} {below : List Frame} {meth : Method} {c : Code} {H : Heap} {locs : List Loc} {Q : State → Prop} {cc : ByteArray} {pc : Nat} {ls : Array Slot} {rest : List Value} {own : String} {nL : Nat} {g : gT} {h : Nat → Nat} {b : ST} {w : Nat → ST} {i : Int32} {v : Int64} (X : Cx g p s m args c cc own nL) (hw : Wd g 79 h (cC g h (b, w)) s H locs) (hin : ¬ (i < 0 ∨ 40 ≤ i.toNatClampNeg)) (hdg : decode cc pc = .ok (.lastore, 1)) (kk : ∀ (H : Heap) (locs : List Loc), Wd g 79 h (cC g h (wB b 5 i.toNatClampNeg v, w)) s H locs → W p l e R s m args below meth c H locs 0 0 Q (F0 m (pc + 1) ls rest)) : W p l e R s m args below meth c H locs 0 0 Q (F0 m pc ls (.long v :: .int i :: .ref (h 22) :: rest)) := x_last X hw 22 (by decide) rfl hin hdg rfl (bB5_n g h (b, w) _ v) kk
theorem eB5 {p : Program} {l : Launch} {e : Env} {R : Room} {s : State} {m : MethodId} {args : Array Value} {below : List Frame} {meth : Method} {c : Code} {H : Heap} {locs : List Loc} {Q : State → Prop} {cc : ByteArray} {pc : Nat} {ls : Array Slot} {rest : List Value} {own : String} {nL : Nat} {g : gT} {h : Nat → Nat} {b : ST} {w : Nat → ST} {v : Int32} (X : Cx g p s m args c cc own nL) (hw : Wd g 79 h (cC g h (b, w)) s H locs) (hv : Int32.ofNat 40 = v) (hdg : decode cc pc = .ok (.arraylength, 1)) (kk : W p l e R s m args below meth c H locs 0 0 Q (F0 m (pc + 1) ls (.int v :: rest))) : W p l e R s m args below meth c H locs 0 0 Q (F0 m pc ls (.ref (h 22) :: rest)) := x_alen X hw 22 1 (by decide) rfl rfl hv hdg kk
theorem lA7 {p : Program} {l : Launch} {e : Env} {R : Room} {s : State} {m : MethodId} {args : Array Value} {below : List Frame} {meth : Method} {c : Code} {H : Heap} {locs : List Loc} {Q : State → Prop} {cc : ByteArray} {pc : Nat} {ls : Array Slot} {rest : List Value} {own : String} {nL : Nat} {g : gT} {h : Nat → Nat} {b : ST} {w : Nat → ST} {i : Int32} (X : Cx g p s m args c cc own nL) (hw : Wd g 79 h (cC g h (b, w)) s H locs) (hin : ¬ (i < 0 ∨ 3 ≤ i.toNatClampNeg)) (hdg : decode cc pc = .ok (.iaload, 1)) (kk : W p l e R s m args below meth c H locs 0 0 Q (F0 m (pc + 1) ls (.int (b.2.2.1 7 i.toNatClampNeg) :: rest))) : W p l e R s m args below meth c H locs 0 0 Q (F0 m pc ls (.int i :: .ref (h 23) :: rest)) := x_iald X hw 23 (by decide) rfl hin hdg kk
theorem sA7 {p : Program} {l : Launch} {e : Env} {R : Room} {s : State} {m : MethodId} {args : Array Value} {below : List Frame} {meth : Method} {c : Code} {H : Heap} {locs : List Loc} {Q : State → Prop} {cc : ByteArray} {pc : Nat} {ls : Array Slot} {rest : List Value} {own : String} {nL : Nat} {g : gT} {h : Nat → Nat} {b : ST} {w : Nat → ST} {i : Int32} {v : Int32} (X : Cx g p s m args c cc own nL) (hw : Wd g 79 h (cC g h (b, w)) s H locs) (hin : ¬ (i < 0 ∨ 3 ≤ i.toNatClampNeg)) (hdg : decode cc pc = .ok (.iastore, 1)) (kk : ∀ (H : Heap) (locs : List Loc), Wd g 79 h (cC g h (wA b 7 i.toNatClampNeg v, w)) s H locs → W p l e R s m args below meth c H locs 0 0 Q (F0 m (pc + 1) ls rest)) : W p l e R s m args below meth c H locs 0 0 Q (F0 m pc ls (.int v :: .int i :: .ref (h 23) :: rest)) := x_iast X hw 23 (by decide) rfl hin hdg rfl (bA7_n g h (b, w) _ v) kk
theorem eA7 {p : Program} {l : Launch} {e : Env} {R : Room} {s : State} {m : MethodId} {args : Array Value} {below : List Frame} {meth : Method} {c : Code} {H : Heap} {locs : List Loc} {Q : State → Prop} {cc : ByteArray} {pc : Nat} {ls : Array Slot} {rest : List Value} {own : String} {nL : Nat} {g : gT} {h : Nat → Nat} {b : ST} {w : Nat → ST} {v : Int32} (X : Cx g p s m args c cc own nL) (hw : Wd g 79 h (cC g h (b, w)) s H locs) (hv : Int32.ofNat 3 = v) (hdg : decode cc pc = .ok (.arraylength, 1)) (kk : W p l e R s m args below meth c H locs 0 0 Q (F0 m (pc + 1) ls (.int v :: rest))) : W p l e R s m args below meth c H locs 0 0 Q (F0 m pc ls (.ref (h 23) :: rest)) := x_alen X hw 23 0 (by decide) rfl rfl hv hdg kk
theorem l_lev {p : Program} {l : Launch} {e : Env} {R : Room} {s : State} {m : MethodId} {args : Array Value} {below : List Frame} {meth : Method} {c : Code} {H : Heap} {locs : List Loc} {Q : State → Prop} {cc : ByteArray} {pc : Nat} {ls : Array Slot} {rest : List Value} {own : String} {nL : Nat} {g : gT} {h : Nat → Nat} {b : ST} {w : Nat → ST} {i : Int32} (X : Cx g p s m args c cc own nL) (hw : Wd g 79 h (cC g h (b, w)) s H locs) (hin : ¬ (i < 0 ∨ 11 ≤ i.toNatClampNeg)) (hdg : decode cc pc = .ok (.aaload, 1)) (kk : W p l e R s m args below meth c H locs 0 0 Q (F0 m (pc + 1) ls (.ref (h (24 + 5 * i.toNatClampNeg)) :: rest))) : W p l e R s m args below meth c H locs 0 0 Q (F0 m pc ls (.int i :: .ref (h 15) :: rest)) := x_aldq X hw 15 (by decide) rfl hin rfl hdg kk
theorem e_lev {p : Program} {l : Launch} {e : Env} {R : Room} {s : State} {m : MethodId} {args : Array Value} {below : List Frame} {meth : Method} {c : Code} {H : Heap} {locs : List Loc} {Q : State → Prop} {cc : ByteArray} {pc : Nat} {ls : Array Slot} {rest : List Value} {own : String} {nL : Nat} {g : gT} {h : Nat → Nat} {b : ST} {w : Nat → ST} {v : Int32} (X : Cx g p s m args c cc own nL) (hw : Wd g 79 h (cC g h (b, w)) s H locs) (hv : Int32.ofNat 11 = v) (hdg : decode cc pc = .ok (.arraylength, 1)) (kk : W p l e R s m args below meth c H locs 0 0 Q (F0 m (pc + 1) ls (.int v :: rest))) : W p l e R s m args below meth c H locs 0 0 Q (F0 m pc ls (.ref (h 15) :: rest)) := x_alen X hw 15 2 (by decide) rfl rfl hv hdg kk
theorem up_at {α : Type} (w : Nat → α) (d : Nat) (t : α) : va_up w d t d = t := if_pos rfl
theorem up_ne {α : Type} (w : Nat → α) (d k : Nat) (t : α) (hk : k ≠ d) : va_up w d t k = w k := if_neg hk
theorem up_up {α : Type} (w : Nat → α) (d : Nat) (t t2 : α) : va_up (va_up w d t) d t2 = va_up w d t2 := by
  funext k; unfold va_up; split <;> rfl
theorem up_self {α : Type} (w : Nat → α) (d : Nat) : va_up w d (w d) = w := by
  funext k; unfold va_up; split
  · subst k; rfl
  · rfl
theorem up_other {α : Type} (w : Nat → α) (d k : Nat) (t : α) (hk : k ≠ d) : va_up (va_up w d t) k (w k) = va_up w d t := by
  funext j; unfold va_up; by_cases hj : j = k
  · subst hj; rw [if_pos rfl, if_neg hk]
  · rw [if_neg hj]
theorem he_X8 (g : gT) (h : Nat → Nat) (b : ST) (w : Nat → ST) (d : Nat) : cC g h (b, w) (24 + 5 * d) = .inr (7, [.ref (h (24 + 5 * d + 1)), .ref (h (24 + 5 * d + 2)), .ref (h (24 + 5 * d + 3)), .ref (h (24 + 5 * d + 4)), .int ((w d).1 0), .int ((w d).1 1), .long ((w d).2.1 0), .long ((w d).2.1 1)]) := cC_tn0 g h (b, w) d
theorem gX8_nears {p : Program} {l : Launch} {e : Env} {R : Room} {s : State} {m : MethodId} {args : Array Value} {below : List Frame} {meth : Method} {c : Code} {H : Heap} {locs : List Loc} {Q : State → Prop} {cc : ByteArray} {pc : Nat} {ls : Array Slot} {rest : List Value} {own : String} {nL : Nat} {g : gT} {h : Nat → Nat} {b : ST} {w : Nat → ST} {d : Nat} {t : ST} {index : Nat} (hd : d < 11) (X : Cx g p s m args c cc own nL) (hw : Wd g 79 h (cC g h (b, va_up w d t)) s H locs) (hlink : Cond.fieldLink own index "LinkChances$TidyNet" "nears" "[I" ∈ wsL_law) (hdg : decode cc pc = .ok (.getfield index, 3)) (kk : W p l e R s m args below meth c H locs 0 0 Q (F0 m (pc + 3) ls (.ref (h (24 + 5 * d + 1)) :: rest))) : W p l e R s m args below meth c H locs 0 0 Q (F0 m pc ls (.ref (h (24 + 5 * d)) :: rest)) := x_get X hw inlX8 rfl (24 + 5 * d) (by omega) (he_X8 g h b _ d) 0 (by decide) hlink rfl hdg kk
theorem oX8_nears {p : Program} {l : Launch} {e : Env} {R : Room} {s : State} {m : MethodId} {args : Array Value} {below : List Frame} {meth : Method} {c : Code} {H : Heap} {locs : List Loc} {Q : State → Prop} {cc : ByteArray} {pc : Nat} {ls : Array Slot} {rest : List Value} {own : String} {nL : Nat} {g : gT} {h : Nat → Nat} {b : ST} {w : Nat → ST} {d : Nat} {t : ST} {k : Nat} {o : ST} {index : Nat} (hd : d < 11) (hk : k ≠ d) (hk11 : k < 11) (ho : w k = o) (X : Cx g p s m args c cc own nL) (hw : Wd g 79 h (cC g h (b, va_up w d t)) s H locs) (hlink : Cond.fieldLink own index "LinkChances$TidyNet" "nears" "[I" ∈ wsL_law) (hdg : decode cc pc = .ok (.getfield index, 3)) (kk : W p l e R s m args below meth c H locs 0 0 Q (F0 m (pc + 3) ls (.ref (h (24 + 5 * k + 1)) :: rest))) : W p l e R s m args below meth c H locs 0 0 Q (F0 m pc ls (.ref (h (24 + 5 * k)) :: rest)) := x_get X hw inlX8 rfl (24 + 5 * k) (by omega) (he_X8 g h b _ k) 0 (by decide) hlink rfl hdg kk
theorem gX8_fars {p : Program} {l : Launch} {e : Env} {R : Room} {s : State} {m : MethodId} {args : Array Value} {below : List Frame} {meth : Method} {c : Code} {H : Heap} {locs : List Loc} {Q : State → Prop} {cc : ByteArray} {pc : Nat} {ls : Array Slot} {rest : List Value} {own : String} {nL : Nat} {g : gT} {h : Nat → Nat} {b : ST} {w : Nat → ST} {d : Nat} {t : ST} {index : Nat} (hd : d < 11) (X : Cx g p s m args c cc own nL) (hw : Wd g 79 h (cC g h (b, va_up w d t)) s H locs) (hlink : Cond.fieldLink own index "LinkChances$TidyNet" "fars" "[I" ∈ wsL_law) (hdg : decode cc pc = .ok (.getfield index, 3)) (kk : W p l e R s m args below meth c H locs 0 0 Q (F0 m (pc + 3) ls (.ref (h (24 + 5 * d + 2)) :: rest))) : W p l e R s m args below meth c H locs 0 0 Q (F0 m pc ls (.ref (h (24 + 5 * d)) :: rest)) := x_get X hw inlX8 rfl (24 + 5 * d) (by omega) (he_X8 g h b _ d) 1 (by decide) hlink rfl hdg kk
theorem oX8_fars {p : Program} {l : Launch} {e : Env} {R : Room} {s : State} {m : MethodId} {args : Array Value} {below : List Frame} {meth : Method} {c : Code} {H : Heap} {locs : List Loc} {Q : State → Prop} {cc : ByteArray} {pc : Nat} {ls : Array Slot} {rest : List Value} {own : String} {nL : Nat} {g : gT} {h : Nat → Nat} {b : ST} {w : Nat → ST} {d : Nat} {t : ST} {k : Nat} {o : ST} {index : Nat} (hd : d < 11) (hk : k ≠ d) (hk11 : k < 11) (ho : w k = o) (X : Cx g p s m args c cc own nL) (hw : Wd g 79 h (cC g h (b, va_up w d t)) s H locs) (hlink : Cond.fieldLink own index "LinkChances$TidyNet" "fars" "[I" ∈ wsL_law) (hdg : decode cc pc = .ok (.getfield index, 3)) (kk : W p l e R s m args below meth c H locs 0 0 Q (F0 m (pc + 3) ls (.ref (h (24 + 5 * k + 2)) :: rest))) : W p l e R s m args below meth c H locs 0 0 Q (F0 m pc ls (.ref (h (24 + 5 * k)) :: rest)) := x_get X hw inlX8 rfl (24 + 5 * k) (by omega) (he_X8 g h b _ k) 1 (by decide) hlink rfl hdg kk
theorem gX8_aboves {p : Program} {l : Launch} {e : Env} {R : Room} {s : State} {m : MethodId} {args : Array Value} {below : List Frame} {meth : Method} {c : Code} {H : Heap} {locs : List Loc} {Q : State → Prop} {cc : ByteArray} {pc : Nat} {ls : Array Slot} {rest : List Value} {own : String} {nL : Nat} {g : gT} {h : Nat → Nat} {b : ST} {w : Nat → ST} {d : Nat} {t : ST} {index : Nat} (hd : d < 11) (X : Cx g p s m args c cc own nL) (hw : Wd g 79 h (cC g h (b, va_up w d t)) s H locs) (hlink : Cond.fieldLink own index "LinkChances$TidyNet" "aboves" "[J" ∈ wsL_law) (hdg : decode cc pc = .ok (.getfield index, 3)) (kk : W p l e R s m args below meth c H locs 0 0 Q (F0 m (pc + 3) ls (.ref (h (24 + 5 * d + 3)) :: rest))) : W p l e R s m args below meth c H locs 0 0 Q (F0 m pc ls (.ref (h (24 + 5 * d)) :: rest)) := x_get X hw inlX8 rfl (24 + 5 * d) (by omega) (he_X8 g h b _ d) 2 (by decide) hlink rfl hdg kk
theorem oX8_aboves {p : Program} {l : Launch} {e : Env} {R : Room} {s : State} {m : MethodId} {args : Array Value} {below : List Frame} {meth : Method} {c : Code} {H : Heap} {locs : List Loc} {Q : State → Prop} {cc : ByteArray} {pc : Nat} {ls : Array Slot} {rest : List Value} {own : String} {nL : Nat} {g : gT} {h : Nat → Nat} {b : ST} {w : Nat → ST} {d : Nat} {t : ST} {k : Nat} {o : ST} {index : Nat} (hd : d < 11) (hk : k ≠ d) (hk11 : k < 11) (ho : w k = o) (X : Cx g p s m args c cc own nL) (hw : Wd g 79 h (cC g h (b, va_up w d t)) s H locs) (hlink : Cond.fieldLink own index "LinkChances$TidyNet" "aboves" "[J" ∈ wsL_law) (hdg : decode cc pc = .ok (.getfield index, 3)) (kk : W p l e R s m args below meth c H locs 0 0 Q (F0 m (pc + 3) ls (.ref (h (24 + 5 * k + 3)) :: rest))) : W p l e R s m args below meth c H locs 0 0 Q (F0 m pc ls (.ref (h (24 + 5 * k)) :: rest)) := x_get X hw inlX8 rfl (24 + 5 * k) (by omega) (he_X8 g h b _ k) 2 (by decide) hlink rfl hdg kk
theorem gX8_belows {p : Program} {l : Launch} {e : Env} {R : Room} {s : State} {m : MethodId} {args : Array Value} {below : List Frame} {meth : Method} {c : Code} {H : Heap} {locs : List Loc} {Q : State → Prop} {cc : ByteArray} {pc : Nat} {ls : Array Slot} {rest : List Value} {own : String} {nL : Nat} {g : gT} {h : Nat → Nat} {b : ST} {w : Nat → ST} {d : Nat} {t : ST} {index : Nat} (hd : d < 11) (X : Cx g p s m args c cc own nL) (hw : Wd g 79 h (cC g h (b, va_up w d t)) s H locs) (hlink : Cond.fieldLink own index "LinkChances$TidyNet" "belows" "[J" ∈ wsL_law) (hdg : decode cc pc = .ok (.getfield index, 3)) (kk : W p l e R s m args below meth c H locs 0 0 Q (F0 m (pc + 3) ls (.ref (h (24 + 5 * d + 4)) :: rest))) : W p l e R s m args below meth c H locs 0 0 Q (F0 m pc ls (.ref (h (24 + 5 * d)) :: rest)) := x_get X hw inlX8 rfl (24 + 5 * d) (by omega) (he_X8 g h b _ d) 3 (by decide) hlink rfl hdg kk
theorem oX8_belows {p : Program} {l : Launch} {e : Env} {R : Room} {s : State} {m : MethodId} {args : Array Value} {below : List Frame} {meth : Method} {c : Code} {H : Heap} {locs : List Loc} {Q : State → Prop} {cc : ByteArray} {pc : Nat} {ls : Array Slot} {rest : List Value} {own : String} {nL : Nat} {g : gT} {h : Nat → Nat} {b : ST} {w : Nat → ST} {d : Nat} {t : ST} {k : Nat} {o : ST} {index : Nat} (hd : d < 11) (hk : k ≠ d) (hk11 : k < 11) (ho : w k = o) (X : Cx g p s m args c cc own nL) (hw : Wd g 79 h (cC g h (b, va_up w d t)) s H locs) (hlink : Cond.fieldLink own index "LinkChances$TidyNet" "belows" "[J" ∈ wsL_law) (hdg : decode cc pc = .ok (.getfield index, 3)) (kk : W p l e R s m args below meth c H locs 0 0 Q (F0 m (pc + 3) ls (.ref (h (24 + 5 * k + 4)) :: rest))) : W p l e R s m args below meth c H locs 0 0 Q (F0 m pc ls (.ref (h (24 + 5 * k)) :: rest)) := x_get X hw inlX8 rfl (24 + 5 * k) (by omega) (he_X8 g h b _ k) 3 (by decide) hlink rfl hdg kk
theorem gX8_links {p : Program} {l : Launch} {e : Env} {R : Room} {s : State} {m : MethodId} {args : Array Value} {below : List Frame} {meth : Method} {c : Code} {H : Heap} {locs : List Loc} {Q : State → Prop} {cc : ByteArray} {pc : Nat} {ls : Array Slot} {rest : List Value} {own : String} {nL : Nat} {g : gT} {h : Nat → Nat} {b : ST} {w : Nat → ST} {d : Nat} {t : ST} {index : Nat} (hd : d < 11) (X : Cx g p s m args c cc own nL) (hw : Wd g 79 h (cC g h (b, va_up w d t)) s H locs) (hlink : Cond.fieldLink own index "LinkChances$TidyNet" "links" "I" ∈ wsL_law) (hdg : decode cc pc = .ok (.getfield index, 3)) (kk : W p l e R s m args below meth c H locs 0 0 Q (F0 m (pc + 3) ls (.int (t.1 0) :: rest))) : W p l e R s m args below meth c H locs 0 0 Q (F0 m pc ls (.ref (h (24 + 5 * d)) :: rest)) := x_get X hw inlX8 rfl (24 + 5 * d) (by omega) (he_X8 g h b _ d) 4 (by decide) hlink rfl hdg (by rw [up_at]; exact kk)
theorem oX8_links {p : Program} {l : Launch} {e : Env} {R : Room} {s : State} {m : MethodId} {args : Array Value} {below : List Frame} {meth : Method} {c : Code} {H : Heap} {locs : List Loc} {Q : State → Prop} {cc : ByteArray} {pc : Nat} {ls : Array Slot} {rest : List Value} {own : String} {nL : Nat} {g : gT} {h : Nat → Nat} {b : ST} {w : Nat → ST} {d : Nat} {t : ST} {k : Nat} {o : ST} {index : Nat} (hd : d < 11) (hk : k ≠ d) (hk11 : k < 11) (ho : w k = o) (X : Cx g p s m args c cc own nL) (hw : Wd g 79 h (cC g h (b, va_up w d t)) s H locs) (hlink : Cond.fieldLink own index "LinkChances$TidyNet" "links" "I" ∈ wsL_law) (hdg : decode cc pc = .ok (.getfield index, 3)) (kk : W p l e R s m args below meth c H locs 0 0 Q (F0 m (pc + 3) ls (.int (o.1 0) :: rest))) : W p l e R s m args below meth c H locs 0 0 Q (F0 m pc ls (.ref (h (24 + 5 * k)) :: rest)) := x_get X hw inlX8 rfl (24 + 5 * k) (by omega) (he_X8 g h b _ k) 4 (by decide) hlink rfl hdg (by rw [up_ne w d k t hk, ho]; exact kk)
theorem pX8_links {p : Program} {l : Launch} {e : Env} {R : Room} {s : State} {m : MethodId} {args : Array Value} {below : List Frame} {meth : Method} {c : Code} {H : Heap} {locs : List Loc} {Q : State → Prop} {cc : ByteArray} {pc : Nat} {ls : Array Slot} {rest : List Value} {own : String} {nL : Nat} {g : gT} {h : Nat → Nat} {b : ST} {w : Nat → ST} {d : Nat} {t : ST} {v : Int32} {index : Nat} (hd : d < 11) (X : Cx g p s m args c cc own nL) (hw : Wd g 79 h (cC g h (b, va_up w d t)) s H locs) (hlink : Cond.fieldLink own index "LinkChances$TidyNet" "links" "I" ∈ wsL_law) (hdg : decode cc pc = .ok (.putfield index, 3)) (kk : ∀ (H : Heap) (locs : List Loc), Wd g 79 h (cC g h (b, va_up w d (wI t 0 v))) s H locs → W p l e R s m args below meth c H locs 0 0 Q (F0 m (pc + 3) ls rest)) : W p l e R s m args below meth c H locs 0 0 Q (F0 m pc ls (.int v :: .ref (h (24 + 5 * d)) :: rest)) := x_put (ty := .int) (cel' := cC g h (bT (b, va_up w d t) d (wI t 0 v))) X hw inlX8 tyX8_ok nmX8 rfl (24 + 5 * d) (by omega) (he_X8 g h b _ d) 4 (by decide) hlink rfl (by decide +kernel) rfl rfl (Nat.le_of_ble_eq_true rfl) hdg ((he_X8 g h b _ d).trans (by dsimp only; rw [up_at, up_at]; rfl)) (cC_T g h (b, va_up w d t) d 0 _ (fun i hi hne => by dsimp only; rw [up_at]; exact tI0_n g h t d v i hi hne)) (fun H1 locs1 hw1 => kk H1 locs1 (by unfold bT at hw1; dsimp only at hw1; rw [up_up] at hw1; exact hw1))
theorem gX8_wanted {p : Program} {l : Launch} {e : Env} {R : Room} {s : State} {m : MethodId} {args : Array Value} {below : List Frame} {meth : Method} {c : Code} {H : Heap} {locs : List Loc} {Q : State → Prop} {cc : ByteArray} {pc : Nat} {ls : Array Slot} {rest : List Value} {own : String} {nL : Nat} {g : gT} {h : Nat → Nat} {b : ST} {w : Nat → ST} {d : Nat} {t : ST} {index : Nat} (hd : d < 11) (X : Cx g p s m args c cc own nL) (hw : Wd g 79 h (cC g h (b, va_up w d t)) s H locs) (hlink : Cond.fieldLink own index "LinkChances$TidyNet" "wanted" "I" ∈ wsL_law) (hdg : decode cc pc = .ok (.getfield index, 3)) (kk : W p l e R s m args below meth c H locs 0 0 Q (F0 m (pc + 3) ls (.int (t.1 1) :: rest))) : W p l e R s m args below meth c H locs 0 0 Q (F0 m pc ls (.ref (h (24 + 5 * d)) :: rest)) := x_get X hw inlX8 rfl (24 + 5 * d) (by omega) (he_X8 g h b _ d) 5 (by decide) hlink rfl hdg (by rw [up_at]; exact kk)
theorem oX8_wanted {p : Program} {l : Launch} {e : Env} {R : Room} {s : State} {m : MethodId} {args : Array Value} {below : List Frame} {meth : Method} {c : Code} {H : Heap} {locs : List Loc} {Q : State → Prop} {cc : ByteArray} {pc : Nat} {ls : Array Slot} {rest : List Value} {own : String} {nL : Nat} {g : gT} {h : Nat → Nat} {b : ST} {w : Nat → ST} {d : Nat} {t : ST} {k : Nat} {o : ST} {index : Nat} (hd : d < 11) (hk : k ≠ d) (hk11 : k < 11) (ho : w k = o) (X : Cx g p s m args c cc own nL) (hw : Wd g 79 h (cC g h (b, va_up w d t)) s H locs) (hlink : Cond.fieldLink own index "LinkChances$TidyNet" "wanted" "I" ∈ wsL_law) (hdg : decode cc pc = .ok (.getfield index, 3)) (kk : W p l e R s m args below meth c H locs 0 0 Q (F0 m (pc + 3) ls (.int (o.1 1) :: rest))) : W p l e R s m args below meth c H locs 0 0 Q (F0 m pc ls (.ref (h (24 + 5 * k)) :: rest)) := x_get X hw inlX8 rfl (24 + 5 * k) (by omega) (he_X8 g h b _ k) 5 (by decide) hlink rfl hdg (by rw [up_ne w d k t hk, ho]; exact kk)
theorem pX8_wanted {p : Program} {l : Launch} {e : Env} {R : Room} {s : State} {m : MethodId} {args : Array Value} {below : List Frame} {meth : Method} {c : Code} {H : Heap} {locs : List Loc} {Q : State → Prop} {cc : ByteArray} {pc : Nat} {ls : Array Slot} {rest : List Value} {own : String} {nL : Nat} {g : gT} {h : Nat → Nat} {b : ST} {w : Nat → ST} {d : Nat} {t : ST} {v : Int32} {index : Nat} (hd : d < 11) (X : Cx g p s m args c cc own nL) (hw : Wd g 79 h (cC g h (b, va_up w d t)) s H locs) (hlink : Cond.fieldLink own index "LinkChances$TidyNet" "wanted" "I" ∈ wsL_law) (hdg : decode cc pc = .ok (.putfield index, 3)) (kk : ∀ (H : Heap) (locs : List Loc), Wd g 79 h (cC g h (b, va_up w d (wI t 1 v))) s H locs → W p l e R s m args below meth c H locs 0 0 Q (F0 m (pc + 3) ls rest)) : W p l e R s m args below meth c H locs 0 0 Q (F0 m pc ls (.int v :: .ref (h (24 + 5 * d)) :: rest)) := x_put (ty := .int) (cel' := cC g h (bT (b, va_up w d t) d (wI t 1 v))) X hw inlX8 tyX8_ok nmX8 rfl (24 + 5 * d) (by omega) (he_X8 g h b _ d) 5 (by decide) hlink rfl (by decide +kernel) rfl rfl (Nat.le_of_ble_eq_true rfl) hdg ((he_X8 g h b _ d).trans (by dsimp only; rw [up_at, up_at]; rfl)) (cC_T g h (b, va_up w d t) d 0 _ (fun i hi hne => by dsimp only; rw [up_at]; exact tI1_n g h t d v i hi hne)) (fun H1 locs1 hw1 => kk H1 locs1 (by unfold bT at hw1; dsimp only at hw1; rw [up_up] at hw1; exact hw1))
theorem gX8_answerAbove {p : Program} {l : Launch} {e : Env} {R : Room} {s : State} {m : MethodId} {args : Array Value} {below : List Frame} {meth : Method} {c : Code} {H : Heap} {locs : List Loc} {Q : State → Prop} {cc : ByteArray} {pc : Nat} {ls : Array Slot} {rest : List Value} {own : String} {nL : Nat} {g : gT} {h : Nat → Nat} {b : ST} {w : Nat → ST} {d : Nat} {t : ST} {index : Nat} (hd : d < 11) (X : Cx g p s m args c cc own nL) (hw : Wd g 79 h (cC g h (b, va_up w d t)) s H locs) (hlink : Cond.fieldLink own index "LinkChances$TidyNet" "answerAbove" "J" ∈ wsL_law) (hdg : decode cc pc = .ok (.getfield index, 3)) (kk : W p l e R s m args below meth c H locs 0 0 Q (F0 m (pc + 3) ls (.long (t.2.1 0) :: rest))) : W p l e R s m args below meth c H locs 0 0 Q (F0 m pc ls (.ref (h (24 + 5 * d)) :: rest)) := x_get X hw inlX8 rfl (24 + 5 * d) (by omega) (he_X8 g h b _ d) 6 (by decide) hlink rfl hdg (by rw [up_at]; exact kk)
theorem oX8_answerAbove {p : Program} {l : Launch} {e : Env} {R : Room} {s : State} {m : MethodId} {args : Array Value} {below : List Frame} {meth : Method} {c : Code} {H : Heap} {locs : List Loc} {Q : State → Prop} {cc : ByteArray} {pc : Nat} {ls : Array Slot} {rest : List Value} {own : String} {nL : Nat} {g : gT} {h : Nat → Nat} {b : ST} {w : Nat → ST} {d : Nat} {t : ST} {k : Nat} {o : ST} {index : Nat} (hd : d < 11) (hk : k ≠ d) (hk11 : k < 11) (ho : w k = o) (X : Cx g p s m args c cc own nL) (hw : Wd g 79 h (cC g h (b, va_up w d t)) s H locs) (hlink : Cond.fieldLink own index "LinkChances$TidyNet" "answerAbove" "J" ∈ wsL_law) (hdg : decode cc pc = .ok (.getfield index, 3)) (kk : W p l e R s m args below meth c H locs 0 0 Q (F0 m (pc + 3) ls (.long (o.2.1 0) :: rest))) : W p l e R s m args below meth c H locs 0 0 Q (F0 m pc ls (.ref (h (24 + 5 * k)) :: rest)) := x_get X hw inlX8 rfl (24 + 5 * k) (by omega) (he_X8 g h b _ k) 6 (by decide) hlink rfl hdg (by rw [up_ne w d k t hk, ho]; exact kk)
theorem pX8_answerAbove {p : Program} {l : Launch} {e : Env} {R : Room} {s : State} {m : MethodId} {args : Array Value} {below : List Frame} {meth : Method} {c : Code} {H : Heap} {locs : List Loc} {Q : State → Prop} {cc : ByteArray} {pc : Nat} {ls : Array Slot} {rest : List Value} {own : String} {nL : Nat} {g : gT} {h : Nat → Nat} {b : ST} {w : Nat → ST} {d : Nat} {t : ST} {v : Int64} {index : Nat} (hd : d < 11) (X : Cx g p s m args c cc own nL) (hw : Wd g 79 h (cC g h (b, va_up w d t)) s H locs) (hlink : Cond.fieldLink own index "LinkChances$TidyNet" "answerAbove" "J" ∈ wsL_law) (hdg : decode cc pc = .ok (.putfield index, 3)) (kk : ∀ (H : Heap) (locs : List Loc), Wd g 79 h (cC g h (b, va_up w d (wL t 0 v))) s H locs → W p l e R s m args below meth c H locs 0 0 Q (F0 m (pc + 3) ls rest)) : W p l e R s m args below meth c H locs 0 0 Q (F0 m pc ls (.long v :: .ref (h (24 + 5 * d)) :: rest)) := x_put (ty := .long) (cel' := cC g h (bT (b, va_up w d t) d (wL t 0 v))) X hw inlX8 tyX8_ok nmX8 rfl (24 + 5 * d) (by omega) (he_X8 g h b _ d) 6 (by decide) hlink rfl (by decide +kernel) rfl rfl (Nat.le_of_ble_eq_true rfl) hdg ((he_X8 g h b _ d).trans (by dsimp only; rw [up_at, up_at]; rfl)) (cC_T g h (b, va_up w d t) d 0 _ (fun i hi hne => by dsimp only; rw [up_at]; exact tL0_n g h t d v i hi hne)) (fun H1 locs1 hw1 => kk H1 locs1 (by unfold bT at hw1; dsimp only at hw1; rw [up_up] at hw1; exact hw1))
theorem gX8_answerBelow {p : Program} {l : Launch} {e : Env} {R : Room} {s : State} {m : MethodId} {args : Array Value} {below : List Frame} {meth : Method} {c : Code} {H : Heap} {locs : List Loc} {Q : State → Prop} {cc : ByteArray} {pc : Nat} {ls : Array Slot} {rest : List Value} {own : String} {nL : Nat} {g : gT} {h : Nat → Nat} {b : ST} {w : Nat → ST} {d : Nat} {t : ST} {index : Nat} (hd : d < 11) (X : Cx g p s m args c cc own nL) (hw : Wd g 79 h (cC g h (b, va_up w d t)) s H locs) (hlink : Cond.fieldLink own index "LinkChances$TidyNet" "answerBelow" "J" ∈ wsL_law) (hdg : decode cc pc = .ok (.getfield index, 3)) (kk : W p l e R s m args below meth c H locs 0 0 Q (F0 m (pc + 3) ls (.long (t.2.1 1) :: rest))) : W p l e R s m args below meth c H locs 0 0 Q (F0 m pc ls (.ref (h (24 + 5 * d)) :: rest)) := x_get X hw inlX8 rfl (24 + 5 * d) (by omega) (he_X8 g h b _ d) 7 (by decide) hlink rfl hdg (by rw [up_at]; exact kk)
theorem oX8_answerBelow {p : Program} {l : Launch} {e : Env} {R : Room} {s : State} {m : MethodId} {args : Array Value} {below : List Frame} {meth : Method} {c : Code} {H : Heap} {locs : List Loc} {Q : State → Prop} {cc : ByteArray} {pc : Nat} {ls : Array Slot} {rest : List Value} {own : String} {nL : Nat} {g : gT} {h : Nat → Nat} {b : ST} {w : Nat → ST} {d : Nat} {t : ST} {k : Nat} {o : ST} {index : Nat} (hd : d < 11) (hk : k ≠ d) (hk11 : k < 11) (ho : w k = o) (X : Cx g p s m args c cc own nL) (hw : Wd g 79 h (cC g h (b, va_up w d t)) s H locs) (hlink : Cond.fieldLink own index "LinkChances$TidyNet" "answerBelow" "J" ∈ wsL_law) (hdg : decode cc pc = .ok (.getfield index, 3)) (kk : W p l e R s m args below meth c H locs 0 0 Q (F0 m (pc + 3) ls (.long (o.2.1 1) :: rest))) : W p l e R s m args below meth c H locs 0 0 Q (F0 m pc ls (.ref (h (24 + 5 * k)) :: rest)) := x_get X hw inlX8 rfl (24 + 5 * k) (by omega) (he_X8 g h b _ k) 7 (by decide) hlink rfl hdg (by rw [up_ne w d k t hk, ho]; exact kk)
theorem pX8_answerBelow {p : Program} {l : Launch} {e : Env} {R : Room} {s : State} {m : MethodId} {args : Array Value} {below : List Frame} {meth : Method} {c : Code} {H : Heap} {locs : List Loc} {Q : State → Prop} {cc : ByteArray} {pc : Nat} {ls : Array Slot} {rest : List Value} {own : String} {nL : Nat} {g : gT} {h : Nat → Nat} {b : ST} {w : Nat → ST} {d : Nat} {t : ST} {v : Int64} {index : Nat} (hd : d < 11) (X : Cx g p s m args c cc own nL) (hw : Wd g 79 h (cC g h (b, va_up w d t)) s H locs) (hlink : Cond.fieldLink own index "LinkChances$TidyNet" "answerBelow" "J" ∈ wsL_law) (hdg : decode cc pc = .ok (.putfield index, 3)) (kk : ∀ (H : Heap) (locs : List Loc), Wd g 79 h (cC g h (b, va_up w d (wL t 1 v))) s H locs → W p l e R s m args below meth c H locs 0 0 Q (F0 m (pc + 3) ls rest)) : W p l e R s m args below meth c H locs 0 0 Q (F0 m pc ls (.long v :: .ref (h (24 + 5 * d)) :: rest)) := x_put (ty := .long) (cel' := cC g h (bT (b, va_up w d t) d (wL t 1 v))) X hw inlX8 tyX8_ok nmX8 rfl (24 + 5 * d) (by omega) (he_X8 g h b _ d) 7 (by decide) hlink rfl (by decide +kernel) rfl rfl (Nat.le_of_ble_eq_true rfl) hdg ((he_X8 g h b _ d).trans (by dsimp only; rw [up_at, up_at]; rfl)) (cC_T g h (b, va_up w d t) d 0 _ (fun i hi hne => by dsimp only; rw [up_at]; exact tL1_n g h t d v i hi hne)) (fun H1 locs1 hw1 => kk H1 locs1 (by unfold bT at hw1; dsimp only at hw1; rw [up_up] at hw1; exact hw1))
theorem lTA0 {p : Program} {l : Launch} {e : Env} {R : Room} {s : State} {m : MethodId} {args : Array Value} {below : List Frame} {meth : Method} {c : Code} {H : Heap} {locs : List Loc} {Q : State → Prop} {cc : ByteArray} {pc : Nat} {ls : Array Slot} {rest : List Value} {own : String} {nL : Nat} {g : gT} {h : Nat → Nat} {b : ST} {w : Nat → ST} {d : Nat} {t : ST} {i : Int32} (hd : d < 11) (X : Cx g p s m args c cc own nL) (hw : Wd g 79 h (cC g h (b, va_up w d t)) s H locs) (hin : ¬ (i < 0 ∨ 10 ≤ i.toNatClampNeg)) (hdg : decode cc pc = .ok (.iaload, 1)) (kk : W p l e R s m args below meth c H locs 0 0 Q (F0 m (pc + 1) ls (.int (t.2.2.1 0 i.toNatClampNeg) :: rest))) : W p l e R s m args below meth c H locs 0 0 Q (F0 m pc ls (.int i :: .ref (h (24 + 5 * d + 1)) :: rest)) := x_iald X hw (24 + 5 * d + 1) (by omega) (cC_tn g h _ d 1 (by omega)) hin hdg (by dsimp only; rw [up_at]; exact kk)
theorem lOA0 {p : Program} {l : Launch} {e : Env} {R : Room} {s : State} {m : MethodId} {args : Array Value} {below : List Frame} {meth : Method} {c : Code} {H : Heap} {locs : List Loc} {Q : State → Prop} {cc : ByteArray} {pc : Nat} {ls : Array Slot} {rest : List Value} {own : String} {nL : Nat} {g : gT} {h : Nat → Nat} {b : ST} {w : Nat → ST} {d : Nat} {t : ST} {k : Nat} {o : ST} {i : Int32} (hd : d < 11) (hk : k ≠ d) (hk11 : k < 11) (ho : w k = o) (X : Cx g p s m args c cc own nL) (hw : Wd g 79 h (cC g h (b, va_up w d t)) s H locs) (hin : ¬ (i < 0 ∨ 10 ≤ i.toNatClampNeg)) (hdg : decode cc pc = .ok (.iaload, 1)) (kk : W p l e R s m args below meth c H locs 0 0 Q (F0 m (pc + 1) ls (.int (o.2.2.1 0 i.toNatClampNeg) :: rest))) : W p l e R s m args below meth c H locs 0 0 Q (F0 m pc ls (.int i :: .ref (h (24 + 5 * k + 1)) :: rest)) := x_iald X hw (24 + 5 * k + 1) (by omega) (cC_tn g h _ k 1 (by omega)) hin hdg (by dsimp only; rw [up_ne w d k t hk, ho]; exact kk)
theorem sTA0 {p : Program} {l : Launch} {e : Env} {R : Room} {s : State} {m : MethodId} {args : Array Value} {below : List Frame} {meth : Method} {c : Code} {H : Heap} {locs : List Loc} {Q : State → Prop} {cc : ByteArray} {pc : Nat} {ls : Array Slot} {rest : List Value} {own : String} {nL : Nat} {g : gT} {h : Nat → Nat} {b : ST} {w : Nat → ST} {d : Nat} {t : ST} {i : Int32} {v : Int32} (hd : d < 11) (X : Cx g p s m args c cc own nL) (hw : Wd g 79 h (cC g h (b, va_up w d t)) s H locs) (hin : ¬ (i < 0 ∨ 10 ≤ i.toNatClampNeg)) (hdg : decode cc pc = .ok (.iastore, 1)) (kk : ∀ (H : Heap) (locs : List Loc), Wd g 79 h (cC g h (b, va_up w d (wA t 0 i.toNatClampNeg v))) s H locs → W p l e R s m args below meth c H locs 0 0 Q (F0 m (pc + 1) ls rest)) : W p l e R s m args below meth c H locs 0 0 Q (F0 m pc ls (.int v :: .int i :: .ref (h (24 + 5 * d + 1)) :: rest)) := x_iast (cel' := cC g h (bT (b, va_up w d t) d (wA t 0 i.toNatClampNeg v))) X hw (24 + 5 * d + 1) (by omega) (cC_tn g h _ d 1 (by omega)) hin hdg ((cC_tn g h _ d 1 (by omega)).trans (by unfold bT; dsimp only; rw [up_at, up_at]; rfl)) (cC_T g h (b, va_up w d t) d 1 _ (fun i hi hne => by dsimp only; rw [up_at]; exact tA0_n g h t d _ v i hi hne)) (fun H1 locs1 hw1 => kk H1 locs1 (by unfold bT at hw1; dsimp only at hw1; rw [up_up] at hw1; exact hw1))
theorem lTA1 {p : Program} {l : Launch} {e : Env} {R : Room} {s : State} {m : MethodId} {args : Array Value} {below : List Frame} {meth : Method} {c : Code} {H : Heap} {locs : List Loc} {Q : State → Prop} {cc : ByteArray} {pc : Nat} {ls : Array Slot} {rest : List Value} {own : String} {nL : Nat} {g : gT} {h : Nat → Nat} {b : ST} {w : Nat → ST} {d : Nat} {t : ST} {i : Int32} (hd : d < 11) (X : Cx g p s m args c cc own nL) (hw : Wd g 79 h (cC g h (b, va_up w d t)) s H locs) (hin : ¬ (i < 0 ∨ 10 ≤ i.toNatClampNeg)) (hdg : decode cc pc = .ok (.iaload, 1)) (kk : W p l e R s m args below meth c H locs 0 0 Q (F0 m (pc + 1) ls (.int (t.2.2.1 1 i.toNatClampNeg) :: rest))) : W p l e R s m args below meth c H locs 0 0 Q (F0 m pc ls (.int i :: .ref (h (24 + 5 * d + 2)) :: rest)) := x_iald X hw (24 + 5 * d + 2) (by omega) (cC_tn g h _ d 2 (by omega)) hin hdg (by dsimp only; rw [up_at]; exact kk)
theorem lOA1 {p : Program} {l : Launch} {e : Env} {R : Room} {s : State} {m : MethodId} {args : Array Value} {below : List Frame} {meth : Method} {c : Code} {H : Heap} {locs : List Loc} {Q : State → Prop} {cc : ByteArray} {pc : Nat} {ls : Array Slot} {rest : List Value} {own : String} {nL : Nat} {g : gT} {h : Nat → Nat} {b : ST} {w : Nat → ST} {d : Nat} {t : ST} {k : Nat} {o : ST} {i : Int32} (hd : d < 11) (hk : k ≠ d) (hk11 : k < 11) (ho : w k = o) (X : Cx g p s m args c cc own nL) (hw : Wd g 79 h (cC g h (b, va_up w d t)) s H locs) (hin : ¬ (i < 0 ∨ 10 ≤ i.toNatClampNeg)) (hdg : decode cc pc = .ok (.iaload, 1)) (kk : W p l e R s m args below meth c H locs 0 0 Q (F0 m (pc + 1) ls (.int (o.2.2.1 1 i.toNatClampNeg) :: rest))) : W p l e R s m args below meth c H locs 0 0 Q (F0 m pc ls (.int i :: .ref (h (24 + 5 * k + 2)) :: rest)) := x_iald X hw (24 + 5 * k + 2) (by omega) (cC_tn g h _ k 2 (by omega)) hin hdg (by dsimp only; rw [up_ne w d k t hk, ho]; exact kk)
theorem sTA1 {p : Program} {l : Launch} {e : Env} {R : Room} {s : State} {m : MethodId} {args : Array Value} {below : List Frame} {meth : Method} {c : Code} {H : Heap} {locs : List Loc} {Q : State → Prop} {cc : ByteArray} {pc : Nat} {ls : Array Slot} {rest : List Value} {own : String} {nL : Nat} {g : gT} {h : Nat → Nat} {b : ST} {w : Nat → ST} {d : Nat} {t : ST} {i : Int32} {v : Int32} (hd : d < 11) (X : Cx g p s m args c cc own nL) (hw : Wd g 79 h (cC g h (b, va_up w d t)) s H locs) (hin : ¬ (i < 0 ∨ 10 ≤ i.toNatClampNeg)) (hdg : decode cc pc = .ok (.iastore, 1)) (kk : ∀ (H : Heap) (locs : List Loc), Wd g 79 h (cC g h (b, va_up w d (wA t 1 i.toNatClampNeg v))) s H locs → W p l e R s m args below meth c H locs 0 0 Q (F0 m (pc + 1) ls rest)) : W p l e R s m args below meth c H locs 0 0 Q (F0 m pc ls (.int v :: .int i :: .ref (h (24 + 5 * d + 2)) :: rest)) := x_iast (cel' := cC g h (bT (b, va_up w d t) d (wA t 1 i.toNatClampNeg v))) X hw (24 + 5 * d + 2) (by omega) (cC_tn g h _ d 2 (by omega)) hin hdg ((cC_tn g h _ d 2 (by omega)).trans (by unfold bT; dsimp only; rw [up_at, up_at]; rfl)) (cC_T g h (b, va_up w d t) d 2 _ (fun i hi hne => by dsimp only; rw [up_at]; exact tA1_n g h t d _ v i hi hne)) (fun H1 locs1 hw1 => kk H1 locs1 (by unfold bT at hw1; dsimp only at hw1; rw [up_up] at hw1; exact hw1))
theorem lTB0 {p : Program} {l : Launch} {e : Env} {R : Room} {s : State} {m : MethodId} {args : Array Value} {below : List Frame} {meth : Method} {c : Code} {H : Heap} {locs : List Loc} {Q : State → Prop} {cc : ByteArray} {pc : Nat} {ls : Array Slot} {rest : List Value} {own : String} {nL : Nat} {g : gT} {h : Nat → Nat} {b : ST} {w : Nat → ST} {d : Nat} {t : ST} {i : Int32} (hd : d < 11) (X : Cx g p s m args c cc own nL) (hw : Wd g 79 h (cC g h (b, va_up w d t)) s H locs) (hin : ¬ (i < 0 ∨ 10 ≤ i.toNatClampNeg)) (hdg : decode cc pc = .ok (.laload, 1)) (kk : W p l e R s m args below meth c H locs 0 0 Q (F0 m (pc + 1) ls (.long (t.2.2.2 0 i.toNatClampNeg) :: rest))) : W p l e R s m args below meth c H locs 0 0 Q (F0 m pc ls (.int i :: .ref (h (24 + 5 * d + 3)) :: rest)) := x_lald X hw (24 + 5 * d + 3) (by omega) (cC_tn g h _ d 3 (by omega)) hin hdg (by dsimp only; rw [up_at]; exact kk)
theorem lOB0 {p : Program} {l : Launch} {e : Env} {R : Room} {s : State} {m : MethodId} {args : Array Value} {below : List Frame} {meth : Method} {c : Code} {H : Heap} {locs : List Loc} {Q : State → Prop} {cc : ByteArray} {pc : Nat} {ls : Array Slot} {rest : List Value} {own : String} {nL : Nat} {g : gT} {h : Nat → Nat} {b : ST} {w : Nat → ST} {d : Nat} {t : ST} {k : Nat} {o : ST} {i : Int32} (hd : d < 11) (hk : k ≠ d) (hk11 : k < 11) (ho : w k = o) (X : Cx g p s m args c cc own nL) (hw : Wd g 79 h (cC g h (b, va_up w d t)) s H locs) (hin : ¬ (i < 0 ∨ 10 ≤ i.toNatClampNeg)) (hdg : decode cc pc = .ok (.laload, 1)) (kk : W p l e R s m args below meth c H locs 0 0 Q (F0 m (pc + 1) ls (.long (o.2.2.2 0 i.toNatClampNeg) :: rest))) : W p l e R s m args below meth c H locs 0 0 Q (F0 m pc ls (.int i :: .ref (h (24 + 5 * k + 3)) :: rest)) := x_lald X hw (24 + 5 * k + 3) (by omega) (cC_tn g h _ k 3 (by omega)) hin hdg (by dsimp only; rw [up_ne w d k t hk, ho]; exact kk)
theorem sTB0 {p : Program} {l : Launch} {e : Env} {R : Room} {s : State} {m : MethodId} {args : Array Value} {below : List Frame} {meth : Method} {c : Code} {H : Heap} {locs : List Loc} {Q : State → Prop} {cc : ByteArray} {pc : Nat} {ls : Array Slot} {rest : List Value} {own : String} {nL : Nat} {g : gT} {h : Nat → Nat} {b : ST} {w : Nat → ST} {d : Nat} {t : ST} {i : Int32} {v : Int64} (hd : d < 11) (X : Cx g p s m args c cc own nL) (hw : Wd g 79 h (cC g h (b, va_up w d t)) s H locs) (hin : ¬ (i < 0 ∨ 10 ≤ i.toNatClampNeg)) (hdg : decode cc pc = .ok (.lastore, 1)) (kk : ∀ (H : Heap) (locs : List Loc), Wd g 79 h (cC g h (b, va_up w d (wB t 0 i.toNatClampNeg v))) s H locs → W p l e R s m args below meth c H locs 0 0 Q (F0 m (pc + 1) ls rest)) : W p l e R s m args below meth c H locs 0 0 Q (F0 m pc ls (.long v :: .int i :: .ref (h (24 + 5 * d + 3)) :: rest)) := x_last (cel' := cC g h (bT (b, va_up w d t) d (wB t 0 i.toNatClampNeg v))) X hw (24 + 5 * d + 3) (by omega) (cC_tn g h _ d 3 (by omega)) hin hdg ((cC_tn g h _ d 3 (by omega)).trans (by unfold bT; dsimp only; rw [up_at, up_at]; rfl)) (cC_T g h (b, va_up w d t) d 3 _ (fun i hi hne => by dsimp only; rw [up_at]; exact tB0_n g h t d _ v i hi hne)) (fun H1 locs1 hw1 => kk H1 locs1 (by unfold bT at hw1; dsimp only at hw1; rw [up_up] at hw1; exact hw1))
theorem lTB1 {p : Program} {l : Launch} {e : Env} {R : Room} {s : State} {m : MethodId} {args : Array Value} {below : List Frame} {meth : Method} {c : Code} {H : Heap} {locs : List Loc} {Q : State → Prop} {cc : ByteArray} {pc : Nat} {ls : Array Slot} {rest : List Value} {own : String} {nL : Nat} {g : gT} {h : Nat → Nat} {b : ST} {w : Nat → ST} {d : Nat} {t : ST} {i : Int32} (hd : d < 11) (X : Cx g p s m args c cc own nL) (hw : Wd g 79 h (cC g h (b, va_up w d t)) s H locs) (hin : ¬ (i < 0 ∨ 10 ≤ i.toNatClampNeg)) (hdg : decode cc pc = .ok (.laload, 1)) (kk : W p l e R s m args below meth c H locs 0 0 Q (F0 m (pc + 1) ls (.long (t.2.2.2 1 i.toNatClampNeg) :: rest))) : W p l e R s m args below meth c H locs 0 0 Q (F0 m pc ls (.int i :: .ref (h (24 + 5 * d + 4)) :: rest)) := x_lald X hw (24 + 5 * d + 4) (by omega) (cC_tn g h _ d 4 (by omega)) hin hdg (by dsimp only; rw [up_at]; exact kk)
theorem lOB1 {p : Program} {l : Launch} {e : Env} {R : Room} {s : State} {m : MethodId} {args : Array Value} {below : List Frame} {meth : Method} {c : Code} {H : Heap} {locs : List Loc} {Q : State → Prop} {cc : ByteArray} {pc : Nat} {ls : Array Slot} {rest : List Value} {own : String} {nL : Nat} {g : gT} {h : Nat → Nat} {b : ST} {w : Nat → ST} {d : Nat} {t : ST} {k : Nat} {o : ST} {i : Int32} (hd : d < 11) (hk : k ≠ d) (hk11 : k < 11) (ho : w k = o) (X : Cx g p s m args c cc own nL) (hw : Wd g 79 h (cC g h (b, va_up w d t)) s H locs) (hin : ¬ (i < 0 ∨ 10 ≤ i.toNatClampNeg)) (hdg : decode cc pc = .ok (.laload, 1)) (kk : W p l e R s m args below meth c H locs 0 0 Q (F0 m (pc + 1) ls (.long (o.2.2.2 1 i.toNatClampNeg) :: rest))) : W p l e R s m args below meth c H locs 0 0 Q (F0 m pc ls (.int i :: .ref (h (24 + 5 * k + 4)) :: rest)) := x_lald X hw (24 + 5 * k + 4) (by omega) (cC_tn g h _ k 4 (by omega)) hin hdg (by dsimp only; rw [up_ne w d k t hk, ho]; exact kk)
theorem sTB1 {p : Program} {l : Launch} {e : Env} {R : Room} {s : State} {m : MethodId} {args : Array Value} {below : List Frame} {meth : Method} {c : Code} {H : Heap} {locs : List Loc} {Q : State → Prop} {cc : ByteArray} {pc : Nat} {ls : Array Slot} {rest : List Value} {own : String} {nL : Nat} {g : gT} {h : Nat → Nat} {b : ST} {w : Nat → ST} {d : Nat} {t : ST} {i : Int32} {v : Int64} (hd : d < 11) (X : Cx g p s m args c cc own nL) (hw : Wd g 79 h (cC g h (b, va_up w d t)) s H locs) (hin : ¬ (i < 0 ∨ 10 ≤ i.toNatClampNeg)) (hdg : decode cc pc = .ok (.lastore, 1)) (kk : ∀ (H : Heap) (locs : List Loc), Wd g 79 h (cC g h (b, va_up w d (wB t 1 i.toNatClampNeg v))) s H locs → W p l e R s m args below meth c H locs 0 0 Q (F0 m (pc + 1) ls rest)) : W p l e R s m args below meth c H locs 0 0 Q (F0 m pc ls (.long v :: .int i :: .ref (h (24 + 5 * d + 4)) :: rest)) := x_last (cel' := cC g h (bT (b, va_up w d t) d (wB t 1 i.toNatClampNeg v))) X hw (24 + 5 * d + 4) (by omega) (cC_tn g h _ d 4 (by omega)) hin hdg ((cC_tn g h _ d 4 (by omega)).trans (by unfold bT; dsimp only; rw [up_at, up_at]; rfl)) (cC_T g h (b, va_up w d t) d 4 _ (fun i hi hne => by dsimp only; rw [up_at]; exact tB1_n g h t d _ v i hi hne)) (fun H1 locs1 hw1 => kk H1 locs1 (by unfold bT at hw1; dsimp only at hw1; rw [up_up] at hw1; exact hw1))
theorem sh_cell (g : gT) (h : Nat → Nat) (b : ST) (w : Nat → ST) (k : Nat) (hk : k < 3) : cC g h (b, w) (20 + k) = .inl (g.2.2.1, 40, .inr (.inl (b.2.2.2 (3 + k)))) := by
  rcases (show k = 0 ∨ k = 1 ∨ k = 2 by omega) with rfl | rfl | rfl <;> rfl
theorem sh_set (g : gT) (h : Nat → Nat) (b : ST) (w : Nat → ST) (k : Nat) (hk : k < 3) (j : Nat) (v : Int64) : ∀ i, i ≠ 20 + k → cC g h (wB b (3 + k) j v, w) i = cC g h (b, w) i := by
  rcases (show k = 0 ∨ k = 1 ∨ k = 2 by omega) with rfl | rfl | rfl
  · exact bB3_n g h (b, w) j v
  · exact bB4_n g h (b, w) j v
  · exact bB5_n g h (b, w) j v
theorem lSh {p : Program} {l : Launch} {e : Env} {R : Room} {s : State} {m : MethodId} {args : Array Value} {below : List Frame} {meth : Method} {c : Code} {H : Heap} {locs : List Loc} {Q : State → Prop} {cc : ByteArray} {pc : Nat} {ls : Array Slot} {rest : List Value} {own : String} {nL : Nat} {g : gT} {h : Nat → Nat} {b : ST} {w : Nat → ST} {k : Nat} {i : Int32} (hk : k < 3) (X : Cx g p s m args c cc own nL) (hw : Wd g 79 h (cC g h (b, w)) s H locs) (hin : ¬ (i < 0 ∨ 40 ≤ i.toNatClampNeg)) (hdg : decode cc pc = .ok (.laload, 1)) (kk : W p l e R s m args below meth c H locs 0 0 Q (F0 m (pc + 1) ls (.long (b.2.2.2 (3 + k) i.toNatClampNeg) :: rest))) : W p l e R s m args below meth c H locs 0 0 Q (F0 m pc ls (.int i :: .ref (h (20 + k)) :: rest)) := x_lald X hw (20 + k) (by omega) (sh_cell g h b w k hk) hin hdg kk
theorem sSh {p : Program} {l : Launch} {e : Env} {R : Room} {s : State} {m : MethodId} {args : Array Value} {below : List Frame} {meth : Method} {c : Code} {H : Heap} {locs : List Loc} {Q : State → Prop} {cc : ByteArray} {pc : Nat} {ls : Array Slot} {rest : List Value} {own : String} {nL : Nat} {g : gT} {h : Nat → Nat} {b : ST} {w : Nat → ST} {k : Nat} {i : Int32} {v : Int64} (hk : k < 3) (X : Cx g p s m args c cc own nL) (hw : Wd g 79 h (cC g h (b, w)) s H locs) (hin : ¬ (i < 0 ∨ 40 ≤ i.toNatClampNeg)) (hdg : decode cc pc = .ok (.lastore, 1)) (kk : ∀ (H : Heap) (locs : List Loc), Wd g 79 h (cC g h (wB b (3 + k) i.toNatClampNeg v, w)) s H locs → W p l e R s m args below meth c H locs 0 0 Q (F0 m (pc + 1) ls rest)) : W p l e R s m args below meth c H locs 0 0 Q (F0 m pc ls (.long v :: .int i :: .ref (h (20 + k)) :: rest)) := x_last X hw (20 + k) (by omega) (sh_cell g h b w k hk) hin hdg ((sh_cell g h _ w k hk).trans (by unfold wB; dsimp only; rw [if_pos rfl])) (sh_set g h b w k hk _ v) kk
theorem l_rows {p : Program} {l : Launch} {e : Env} {R : Room} {s : State} {m : MethodId} {args : Array Value} {below : List Frame} {meth : Method} {c : Code} {H : Heap} {locs : List Loc} {Q : State → Prop} {cc : ByteArray} {pc : Nat} {ls : Array Slot} {rest : List Value} {own : String} {nL : Nat} {g : gT} {h : Nat → Nat} {b : ST} {w : Nat → ST} {i : Int32} (X : Cx g p s m args c cc own nL) (hw : Wd g 79 h (cC g h (b, w)) s H locs) (hin : ¬ (i < 0 ∨ 3 ≤ i.toNatClampNeg)) (hdg : decode cc pc = .ok (.aaload, 1)) (kk : W p l e R s m args below meth c H locs 0 0 Q (F0 m (pc + 1) ls (.ref (h (20 + i.toNatClampNeg)) :: rest))) : W p l e R s m args below meth c H locs 0 0 Q (F0 m pc ls (.int i :: .ref (h 19) :: rest)) := x_ald2 X hw 19 (by decide) rfl hin rfl hdg kk
theorem sh_setC (g : gT) (h : Nat → Nat) (b : ST) (w : Nat → ST) (k : Nat) (hk : k < 3) (f : Nat → Int64) : ∀ i, i ≠ 20 + k → cC g h (wC b (3 + k) f, w) i = cC g h (b, w) i := by
  rcases (show k = 0 ∨ k = 1 ∨ k = 2 by omega) with rfl | rfl | rfl
  · exact bC3_n g h (b, w) f
  · exact bC4_n g h (b, w) f
  · exact bC5_n g h (b, w) f
