/-- the class of rows of rows of longs is over the class of rows of longs -/
def LLk (g : gT) (U : State) : Prop := ∃ kA : Class, U.vm.classes[g.2.2.2.2.1]? = some kA ∧ kA.kind = .array g.2.2.1 (.array .long)
theorem LLk.moved {g : gT} {u U : State} (hvm : u.vm.Alike U.vm) (h : LLk g u) : LLk g U := by
  obtain ⟨kA, h1, h2⟩ := h
  obtain ⟨k', hk', he⟩ := hvm.2.2 _ _ h1
  exact ⟨k', hk', by rw [he]; exact h2⟩
section WN
variable {p : Program} {l : Launch} {e : Env} {R : Room} {s : State} {m : MethodId} {args : Array Value} {below : List Frame} {meth : Method} {c : Code} {H : Heap} {locs : List Loc} {Q : State → Prop} {cells slots : Nat}
variable {cc : ByteArray} {pc : Nat} {ls : Array Slot} {rest : List Value} {own : String} {nL : Nat} {g : gT} {A : Nat → Prop} {ws : va_W}
theorem n_new2 {index : Nat} (X : Cx g p s m args c cc own nL) (hw : Wn g A ws s H locs) (hcl : Cond.classLink own index "[[J" ∈ wsL_law) (hE : LLk g s) (hcells : cells + 4 ≤ R.cells) (hslots : slots + 123 ≤ R.slots) (hdg : decode cc pc = .ok (.multianewarray index 2, 4))
    (kk : ∀ (q0 q1 q2 q3 : Nat) (H1 : Heap), Wn g A (ws ++ [(q0, .inl (g.2.2.2.2.1, 3, .inr (.inr (.inr (.inr (fun i => if i = 0 then some q1 else if i = 1 then some q2 else if i = 2 then some q3 else none)))))), (q1, .inl (g.2.2.1, 40, .inr (.inl (fun _ => 0)))), (q2, .inl (g.2.2.1, 40, .inr (.inl (fun _ => 0)))), (q3, .inl (g.2.2.1, 40, .inr (.inl (fun _ => 0))))]) s H1 locs → W p l e R s m args below meth c H1 locs (cells + 4) (slots + 123) Q (F0 m (pc + 4) ls (.ref q0 :: rest))) : W p l e R s m args below meth c H locs cells slots Q (F0 m pc ls (.int 40 :: .int 3 :: rest)) := by
  sorry
end WN
