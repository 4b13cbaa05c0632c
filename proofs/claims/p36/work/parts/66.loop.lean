section LL
variable {p : Program} {l : Launch} {e : Env} {s : State} {m : MethodId} {below : List Frame} {meth : Method} {c : Code} {cells slots : Nat} {g : gT} {h : Nat → Nat} {bb L : Nat} {xs : Nat → Int32}
theorem law_rounds (C0 : lw_At p s m meth c bb L xs) (X : Cx g p s m #[Value.ref bb] c cL_law RL 34) (hL : L ≤ 260) (hcs : cells ≤ 600000 ∧ slots ≤ 7302250) (hge : ∀ k, k < 80 → s.heap.size ≤ h k) : ∀ (n t : Nat), t + n = 3 → ∀ {b : ST} {w : Nat → ST} {v : Nat → Int32} {D : ND} {H : Heap} {locs : List Loc} {ls : Array Slot}, DK b D → Wd g 80 h (cW g h (b, w) v) s H locs → lv_has ls 34 [(0, .ref bb), (1, .ref (h 0)), (2, .ref (h 79)), (3, .int (nI t))] → W p l e room_1 s m #[Value.ref bb] below meth c H locs cells slots (lw_Z below #[Value.ref bb] s) (F0 m 15 ls []) := by
  obtain ⟨hx, hb, hr, hml, hown, hts, hX, hbl, hlocks, hgv⟩ := C0
  have hbA : ¬ AW 80 h s.heap.size bb := fun q => by
    rcases q with ⟨k, hk, rfl⟩ | q
    · have := hge k hk; omega
    · omega
  have hforget : ∀ {b : ST} {w : Nat → ST} {v : Nat → Int32} {H : Heap} {locs : List Loc}, Wd g 80 h (cW g h (b, w) v) s H locs → ∀ q ∈ locs, s.heap.size ≤ q.base := fun hw q hq => by
    rcases hw.2.2.1.2.2 q hq with ⟨k, hk, h1⟩ | h1
    · rw [h1]; exact hge k hk
    · exact h1
  intro n
  induction n with
  | zero =>
    intro t ht b w v D H locs ls hK hw hl
    refine lv_iload_n X.1 X.2.1 dL_law_15 rfl (lv_at hl 3 rfl) ?_
    refine lv_iconst (v := 3) X.1 X.2.1 dL_law_16 (by decide) ?_
    refine lv_icmp_ge (tgt := 1131) X.1 X.2.1 dL_law_17 (by decide) (fun _ => ?_) (fun q => ?_)
    · refine lv_iconst (v := 1) X.1 X.2.1 dL_law_1131 (by decide) ?_
      refine va_forget (hforget hw) ?_
      refine W.widen (k := 600000) (n := 7302250) hcs.1 hcs.2 ?_
      exact lw_ret X.1 X.2.1 hr hlocks dL_law_1132
    · have ht : t = 3 := by omega
      subst ht
      exact absurd (show (3 : Int32) ≤ nI 3 by decide) q
  | succ n ih =>
    intro t ht b w v D H locs ls hK hw hl
    refine lv_iload_n X.1 X.2.1 dL_law_15 rfl (lv_at hl 3 rfl) ?_
    refine lv_iconst (v := 3) X.1 X.2.1 dL_law_16 (by decide) ?_
    refine lv_icmp_ge (tgt := 1131) X.1 X.2.1 dL_law_17 (by decide) (fun q => ?_) (fun _ => ?_)
    · have q : nI 3 ≤ nI t := q
      rw [qle (by omega) (by omega)] at q
      omega
    · obtain ⟨b1, w1, v1, D1, hz, h1⟩ := round_e (L := L) (t := t) (xs := xs) (w := w) (v := v) hL (by omega) hK
      refine w_S20 (y3 := nI t) X hX hbl hbA hcs hz (fun b2 w2 v2 hq H locs ls hw hl => ?_) (fun r b2 w2 v2 hq => ?_) hw hl
      · obtain ⟨rfl, rfl, rfl⟩ : b1 = b2 ∧ w1 = w2 ∧ v1 = v2 := by
          have hq := Sum.inl.inj hq
          exact ⟨(Prod.mk.inj hq).1, (Prod.mk.inj (Prod.mk.inj hq).2).1, (Prod.mk.inj (Prod.mk.inj hq).2).2⟩
        refine lv_iinc (v := nI (t + 1)) (lv' := [(3, .int (nI (t + 1))), (0, .ref bb), (1, .ref (h 0)), (2, .ref (h 79))]) X.1 X.2.1 dL_law_1125 hl (k := 3) rfl (nI_add t 1) (by decide) rfl (fun ls hl => ?_)
        refine lv_goto (tgt := 15) X.1 X.2.1 dL_law_1128 (by decide) ?_
        exact ih (t + 1) (by omega) h1 hw (lv_sub hl [1, 2, 3, 0] rfl)
      · cases hq
theorem law_loop (C0 : lw_At p s m meth c bb L xs) (X : Cx g p s m #[Value.ref bb] c cL_law RL 34) (hL : L ≤ 260) (hcs : cells ≤ 600000 ∧ slots ≤ 7302250) (hge : ∀ k, k < 80 → s.heap.size ≤ h k) {b : ST} {w : Nat → ST} {v : Nat → Int32} {D : ND} {H : Heap} {locs : List Loc} {ls : Array Slot} (hK : DK b D) (hw : Wd g 80 h (cW g h (b, w) v) s H locs) (hl : lv_has ls 34 [(0, .ref bb), (1, .ref (h 0)), (2, .ref (h 79))]) : W p l e room_1 s m #[Value.ref bb] below meth c H locs cells slots (lw_Z below #[Value.ref bb] s) (F0 m 13 ls []) := by
  refine lv_iconst (v := 0) X.1 X.2.1 dL_law_13 (by decide) ?_
  refine lv_istore_n (lv' := [(3, .int 0), (0, .ref bb), (1, .ref (h 0)), (2, .ref (h 79))]) X.1 X.2.1 dL_law_14 rfl hl (by decide) rfl (fun ls hl => ?_)
  exact law_rounds C0 X hL hcs hge 3 0 rfl hK hw (lv_sub hl [1, 2, 3, 0] rfl)
end LL
