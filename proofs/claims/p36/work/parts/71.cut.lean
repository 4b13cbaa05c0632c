def zST : ST := (fun _ => 0, fun _ => 0, fun _ _ => 0, fun _ _ => 0)
/-- the cells of the levels, from address a 0 on -/
def cT (g : gT) (a : Nat → Nat) (k : Nat) : va_E := cTn g (fun k => a (k - 24)) zST (k / 5) (k % 5)
def lvF (a : Nat → Nat) (i : Nat) : Nat → Option Nat := fun j => if j < i then some (a (5 * j)) else none
theorem WL_s (n : Nat) (a : Nat → Nat) (c : Nat → va_E) : WL (n + 1) a c = WL n a c ++ [(a n, c n)] := by
  unfold WL
  rw [List.range_succ, List.map_append]
  rfl
theorem WL_cong {n : Nat} {a a' : Nat → Nat} {c c' : Nat → va_E} (h : ∀ k, k < n → a' k = a k ∧ c' k = c k) : WL n a' c' = WL n a c := by
  unfold WL
  refine List.map_congr_left (fun k hk => ?_)
  obtain ⟨h1, h2⟩ := h k (List.mem_range.mp hk)
  rw [h1, h2]
theorem cT_e (g : gT) (a : Nat → Nat) (i j : Nat) (hj : j < 5) : cT g a (5 * i + j) = cTn g (fun k => a (k - 24)) zST i j := by
  unfold cT
  rw [show (5 * i + j) / 5 = i by omega, show (5 * i + j) % 5 = j by omega]
theorem cT_0 (g : gT) (a : Nat → Nat) (i : Nat) : cT g a (5 * i) = .inr (7, [.ref (a (5 * i + 1)), .ref (a (5 * i + 2)), .ref (a (5 * i + 3)), .ref (a (5 * i + 4)), .int 0, .int 0, .long 0, .long 0]) := by
  rw [show 5 * i = 5 * i + 0 from rfl, cT_e g a i 0 (by decide)]
  show (.inr (7, [.ref (a (24 + 5 * i + 1 - 24)), .ref (a (24 + 5 * i + 2 - 24)), .ref (a (24 + 5 * i + 3 - 24)), .ref (a (24 + 5 * i + 4 - 24)), .int 0, .int 0, .long 0, .long 0]) : va_E) = _
  rw [show 24 + 5 * i + 1 - 24 = 5 * i + 1 by omega, show 24 + 5 * i + 2 - 24 = 5 * i + 2 by omega, show 24 + 5 * i + 3 - 24 = 5 * i + 3 by omega, show 24 + 5 * i + 4 - 24 = 5 * i + 4 by omega]
theorem cT_k {g : gT} {a a' : Nat → Nat} {n : Nat} (h : ∀ k, k < 5 * n → a' k = a k) {k : Nat} (hk : k < 5 * n) : cT g a' k = cT g a k := by
  obtain ⟨i, j, hj, rfl⟩ : ∃ i j, j < 5 ∧ k = 5 * i + j := ⟨k / 5, k % 5, Nat.mod_lt _ (by decide), by omega⟩
  rcases (show j = 0 ∨ j = 1 ∨ j = 2 ∨ j = 3 ∨ j = 4 by omega) with rfl | rfl | rfl | rfl | rfl
  · rw [Nat.add_zero, cT_0, cT_0, h _ (by omega), h _ (by omega), h _ (by omega), h _ (by omega)]
  · rw [cT_e g a' i 1 (by decide), cT_e g a i 1 (by decide)]; rfl
  · rw [cT_e g a' i 2 (by decide), cT_e g a i 2 (by decide)]; rfl
  · rw [cT_e g a' i 3 (by decide), cT_e g a i 3 (by decide)]; rfl
  · rw [cT_e g a' i 4 (by decide), cT_e g a i 4 (by decide)]; rfl
theorem wl_5 {g : gT} {a a' : Nat → Nat} {i z q0 q1 q2 q3 : Nat} (h : ∀ k, k < 5 * i → a' k = a k) (h0 : a' (5 * i) = z) (h1 : a' (5 * i + 1) = q0) (h2 : a' (5 * i + 2) = q1) (h3 : a' (5 * i + 3) = q2) (h4 : a' (5 * i + 4) = q3) : WL (5 * i) a (cT g a) ++ [(z, .inr (7, [.ref q0, .ref q1, .ref q2, .ref q3, .int 0, .int 0, .long 0, .long 0])), (q0, .inl (g.2.1, 10, .inl (fun _ => 0))), (q1, .inl (g.2.1, 10, .inl (fun _ => 0))), (q2, .inl (g.2.2.1, 10, .inr (.inl (fun _ => 0)))), (q3, .inl (g.2.2.1, 10, .inr (.inl (fun _ => 0))))] = WL (5 * (i + 1)) a' (cT g a') := by
  rw [show 5 * (i + 1) = 5 * i + 1 + 1 + 1 + 1 + 1 by omega, WL_s, WL_s, WL_s, WL_s, WL_s, WL_cong (a := a) (c := cT g a) (fun k hk => ⟨h k hk, cT_k h hk⟩)]
  rw [show 5 * i + 1 + 1 + 1 + 1 = 5 * i + 4 from rfl, show 5 * i + 1 + 1 + 1 = 5 * i + 3 from rfl, show 5 * i + 1 + 1 = 5 * i + 2 from rfl]
  rw [cT_0, cT_e g a' i 1 (by decide), cT_e g a' i 2 (by decide), cT_e g a' i 3 (by decide), cT_e g a' i 4 (by decide), h0, h1, h2, h3, h4]
  simp only [List.append_assoc]
  rfl
abbrev RmX0 : Room := { frames := 2, cells := 56, slots := 539, locals := 48 }
section X0
variable {p : Program} {l : Launch} {e : Env} {s : State} {m : MethodId} {args : Array Value} {below : List Frame} {meth : Method} {c : Code} {Q : State → Prop} {g : gT} {A : Nat → Prop} {h0 hn q : Nat}
theorem x0_lp (X : Cx g p s m args c cX0_init RX0 3) (hN : va_Nw (.methodLinkNest RX0 21 yX8_init RX9) s) (fin : ∀ (a : Nat → Nat) (H : Heap) (locs : List Loc) (ls : Array Slot), Wn g A ([(h0, .inr (0, [.ref hn, .ref q, .int 0, .int 0, .int 0])), (q, .inl (g.2.2.2.1, 11, .inr (.inr (.inr (.inr (lvF a 11))))))] ++ WL 55 a (cT g a)) s H locs → W p l e RmX0 s m args below meth c H locs 56 539 Q (F0 m 48 ls [])) : ∀ (n i : Nat), i + n = 11 → ∀ (a : Nat → Nat) (H : Heap) (locs : List Loc) (ls : Array Slot), Wn g A ([(h0, .inr (0, [.ref hn, .ref q, .int 0, .int 0, .int 0])), (q, .inl (g.2.2.2.1, 11, .inr (.inr (.inr (.inr (lvF a i))))))] ++ WL (5 * i) a (cT g a)) s H locs → lv_has ls 3 [(0, .ref h0), (1, .ref hn), (2, .int (nI i))] → W p l e RmX0 s m args below meth c H locs (1 + 5 * i) (11 + 48 * i) Q (F0 m 20 ls []) := by
  intro n
  induction n with
  | zero =>
    intro i hi a H locs ls hw hl
    have hi : i = 11 := by omega
    subst hi
    refine lv_iload_n X.1 X.2.1 dX0_init_20 rfl (lv_at hl 2 rfl) ?_
    refine lv_aload_n X.1 X.2.1 dX0_init_21 rfl (lv_at hl 0 rfl) ?_
    refine n_get (T := TX0) (ci := 0) (C := RX0) (N := 5) X hw inlX0 0 rfl rfl 1 (by decide) wq_4_3 rfl dX0_init_22 ?_
    refine n_alen (v := 11) X hw 1 2 rfl rfl rfl dX0_init_25 ?_
    refine lv_icmp_ge (tgt := 48) X.1 X.2.1 dX0_init_26 (by decide) (fun _ => fin a H locs ls hw) (fun q => absurd (by decide) q)
  | succ n ih =>
    intro i hi a H locs ls hw hl
    refine lv_iload_n X.1 X.2.1 dX0_init_20 rfl (lv_at hl 2 rfl) ?_
    refine lv_aload_n X.1 X.2.1 dX0_init_21 rfl (lv_at hl 0 rfl) ?_
    refine n_get (T := TX0) (ci := 0) (C := RX0) (N := 5) X hw inlX0 0 rfl rfl 1 (by decide) wq_4_3 rfl dX0_init_22 ?_
    refine n_alen (v := 11) X hw 1 2 rfl rfl rfl dX0_init_25 ?_
    refine lv_icmp_ge (tgt := 48) X.1 X.2.1 dX0_init_26 (by decide) (fun q => ?_) (fun _ => ?_)
    · exfalso
      have q : nI 11 ≤ nI i := q
      rw [qle (by omega) (by omega)] at q
      omega
    refine lv_aload_n X.1 X.2.1 dX0_init_29 rfl (lv_at hl 0 rfl) ?_
    refine n_get (T := TX0) (ci := 0) (C := RX0) (N := 5) X hw inlX0 0 rfl rfl 1 (by decide) wq_4_3 rfl dX0_init_30 ?_
    refine lv_iload_n X.1 X.2.1 dX0_init_33 rfl (lv_at hl 2 rfl) ?_
    refine n_new (ci := 7) (C := RX8) (T := TX8) (N := 8) (fs := [.null, .null, .null, .null, .int 0, .int 0, .long 0, .long 0]) X hw inlX8 tyX8 tyX8_ok wq_4_2 wq_4_5 wq_4_6 rfl (fun j hj => by rcases (show j = 0 ∨ j = 1 ∨ j = 2 ∨ j = 3 ∨ j = 4 ∨ j = 5 ∨ j = 6 ∨ j = 7 by omega) with rfl | rfl | rfl | rfl | rfl | rfl | rfl | rfl <;> rfl) (by show 1 + 5 * i + 1 ≤ 56; omega) (by show 11 + 48 * i + 8 ≤ 539; omega) dX0_init_34 (fun z H hw => ?_)
    refine lv_dup X.1 X.2.1 dX0_init_37 rfl ?_
    refine n_callN (nA := 0) (As := []) (Ex := fun _ => True) X hl.1 hw cn_X8 (fun _ _ _ _ => True.intro) (fun _ _ => True.intro) hN ⟨wq_4_7, wq_4_6, wq_4_8⟩ rfl (by decide +kernel) rfl ⟨Nat.le_of_ble_eq_true rfl, Nat.le_of_ble_eq_true rfl⟩ ⟨by show 1 + 5 * i + 1 + 4 ≤ 56; omega, by show 11 + 48 * i + 8 + 40 ≤ 539; omega⟩ (Nat.le_of_ble_eq_true rfl) dX0_init_38 (fun w1 H locs hp hw => ?_)
    obtain ⟨q0, q1, q2, q3, rfl⟩ := hp
    obtain ⟨a', e0, e1, e2, e3, e4, ek⟩ : ∃ a' : Nat → Nat, a' (5 * i) = z ∧ a' (5 * i + 1) = q0 ∧ a' (5 * i + 2) = q1 ∧ a' (5 * i + 3) = q2 ∧ a' (5 * i + 4) = q3 ∧ ∀ k, k < 5 * i → a' k = a k := by
      refine ⟨fun k => if k < 5 * i then a k else if k = 5 * i then z else if k = 5 * i + 1 then q0 else if k = 5 * i + 2 then q1 else if k = 5 * i + 3 then q2 else q3, ?_, ?_, ?_, ?_, ?_, fun k hk => if_pos hk⟩
      · show (if 5 * i < 5 * i then _ else if 5 * i = 5 * i then z else _) = z
        rw [if_neg (by omega), if_pos rfl]
      · show (if 5 * i + 1 < 5 * i then _ else if 5 * i + 1 = 5 * i then z else if 5 * i + 1 = 5 * i + 1 then q0 else _) = q0
        rw [if_neg (by omega), if_neg (by omega), if_pos rfl]
      · show (if 5 * i + 2 < 5 * i then _ else if 5 * i + 2 = 5 * i then z else if 5 * i + 2 = 5 * i + 1 then q0 else if 5 * i + 2 = 5 * i + 2 then q1 else _) = q1
        rw [if_neg (by omega), if_neg (by omega), if_neg (by omega), if_pos rfl]
      · show (if 5 * i + 3 < 5 * i then _ else if 5 * i + 3 = 5 * i then z else if 5 * i + 3 = 5 * i + 1 then q0 else if 5 * i + 3 = 5 * i + 2 then q1 else if 5 * i + 3 = 5 * i + 3 then q2 else _) = q2
        rw [if_neg (by omega), if_neg (by omega), if_neg (by omega), if_neg (by omega), if_pos rfl]
      · show (if 5 * i + 4 < 5 * i then _ else if 5 * i + 4 = 5 * i then z else if 5 * i + 4 = 5 * i + 1 then q0 else if 5 * i + 4 = 5 * i + 2 then q1 else if 5 * i + 4 = 5 * i + 3 then q2 else q3) = q3
        rw [if_neg (by omega), if_neg (by omega), if_neg (by omega), if_neg (by omega), if_neg (by omega)]
    have hat : (([(h0, .inr (0, [.ref hn, .ref q, .int 0, .int 0, .int 0])), (q, .inl (g.2.2.2.1, 11, .inr (.inr (.inr (.inr (lvF a i))))))] ++ WL (5 * i) a (cT g a)) ++ [(z, .inr (7, [.ref q0, .ref q1, .ref q2, .ref q3, .int 0, .int 0, .long 0, .long 0])), (q0, .inl (g.2.1, 10, .inl (fun _ => 0))), (q1, .inl (g.2.1, 10, .inl (fun _ => 0))), (q2, .inl (g.2.2.1, 10, .inr (.inl (fun _ => 0)))), (q3, .inl (g.2.2.1, 10, .inr (.inl (fun _ => 0))))] : va_W)[2 + 5 * i]? = some (z, .inr (7, [.ref q0, .ref q1, .ref q2, .ref q3, .int 0, .int 0, .long 0, .long 0])) := by
      have hlen : ([(h0, .inr (0, [.ref hn, .ref q, .int 0, .int 0, .int 0])), (q, .inl (g.2.2.2.1, 11, .inr (.inr (.inr (.inr (lvF a i))))))] ++ WL (5 * i) a (cT g a) : va_W).length = 2 + 5 * i := by
        rw [List.length_append, WL_len]; rfl
      rw [List.getElem?_append_right (by omega), hlen, Nat.sub_self]
      rfl
    refine n_astq X hw 1 (2 + 5 * i) rfl hat (by
      refine fun q => q.elim (nI_pos (by omega)) (fun q => ?_)
      rw [nI_clamp (by omega)] at q
      omega) dX0_init_41 (fun H locs hw => ?_)
    have hf : va_up (lvF a i) (nI i).toNatClampNeg (some z) = lvF a' (i + 1) := by
      funext j
      unfold va_up lvF
      rw [nI_clamp (by omega)]
      by_cases hj : j = i
      · subst hj
        rw [if_pos rfl, if_pos (by omega), e0]
      · rw [if_neg hj]
        by_cases hj2 : j < i
        · rw [if_pos hj2, if_pos (by omega), ek _ (by omega)]
        · rw [if_neg hj2, if_neg (by omega)]
    rw [hf] at hw
    have hw : Wn g A ([(h0, .inr (0, [.ref hn, .ref q, .int 0, .int 0, .int 0])), (q, .inl (g.2.2.2.1, 11, .inr (.inr (.inr (.inr (lvF a' (i + 1)))))))] ++ (WL (5 * i) a (cT g a) ++ [(z, .inr (7, [.ref q0, .ref q1, .ref q2, .ref q3, .int 0, .int 0, .long 0, .long 0])), (q0, .inl (g.2.1, 10, .inl (fun _ => 0))), (q1, .inl (g.2.1, 10, .inl (fun _ => 0))), (q2, .inl (g.2.2.1, 10, .inr (.inl (fun _ => 0)))), (q3, .inl (g.2.2.1, 10, .inr (.inl (fun _ => 0))))])) s H locs := hw
    rw [wl_5 ek e0 e1 e2 e3 e4] at hw
    refine lv_iinc (v := nI (i + 1)) (lv' := [(2, .int (nI (i + 1))), (0, .ref h0), (1, .ref hn)]) X.1 X.2.1 dX0_init_42 hl (k := 2) rfl (nI_add i 1) (by decide) rfl (fun ls hl => ?_)
    refine lv_goto (tgt := 20) X.1 X.2.1 dX0_init_45 (by decide) ?_
    refine W.widen (k := 1 + 5 * (i + 1)) (n := 11 + 48 * (i + 1)) (by omega) (by omega) ?_
    exact ih (i + 1) (by omega) a' H locs ls hw (lv_sub hl [1, 2, 0] rfl)
end X0
theorem cn_X0 {l : Launch} {g : gT} {h0 hn : Nat} : MetK l g yX0_init cX0_init 3 2 48 56 539 (fun U => va_AO "LinkChances$TidyNet" U ∧ va_Nw (.methodLinkNest RX0 21 yX8_init RX9) U) h0 (.inr (0, [.null, .null, .int 0, .int 0, .int 0])) [.ref hn] (fun w1 => ∃ (q : Nat) (a : Nat → Nat), w1 = [(h0, .inr (0, [.ref hn, .ref q, .int 0, .int 0, .int 0])), (q, .inl (g.2.2.2.1, 11, .inr (.inr (.inr (.inr (lvF a 11))))))] ++ WL 55 a (cT g a)) := by
  refine MetK.ofX (by decide +kernel) rfl (Nat.le_of_ble_eq_true rfl) (fun p e s m below meth c AV Q A X hin hE fin ls hw hl => ?_)
  have hl : lv_has ls 3 [(0, .ref h0), (1, .ref hn)] := hl
  refine lv_aload_n X.1 X.2.1 dX0_init_0 rfl (lv_at hl 0 rfl) ?_
  refine n_obj X hl.1 wq_4_1 ⟨Nat.le_of_ble_eq_true rfl, Nat.le_of_ble_eq_true rfl⟩ dX0_init_1 ?_
  refine lv_aload_n X.1 X.2.1 dX0_init_4 rfl (lv_at hl 0 rfl) ?_
  refine lv_bipush (v := 11) X.1 X.2.1 dX0_init_5 (by decide) ?_
  refine n_newq (N' := 11) X hw wq_4_2 hE.1 (by decide) (by decide) (by decide) (Nat.le_of_ble_eq_true rfl) (Nat.le_of_ble_eq_true rfl) dX0_init_7 (fun q H hw => ?_)
  have hw : Wn g A [(h0, .inr (0, [.null, .null, .int 0, .int 0, .int 0])), (q, .inl (g.2.2.2.1, 11, .inr (.inr (.inr (.inr (fun _ => none))))))] s H _ := hw
  refine n_putF (T := TX0) (ci := 0) (C := RX0) (N := 5) (ty0 := tyX0) (ty := .array (.object "LinkChances$TidyNet")) X hin hw inlX0 tyX0_ok nmX0 0 rfl rfl 1 (by decide) wq_4_3 rfl rfl (by decide +kernel) rfl rfl (Nat.le_of_ble_eq_true rfl) dX0_init_10 (fun H locs hw => ?_)
  refine lv_aload_n X.1 X.2.1 dX0_init_13 rfl (lv_at hl 0 rfl) ?_
  refine lv_aload_n X.1 X.2.1 dX0_init_14 rfl (lv_at hl 1 rfl) ?_
  have hw : Wn g A [(h0, .inr (0, [.null, .ref q, .int 0, .int 0, .int 0])), (q, .inl (g.2.2.2.1, 11, .inr (.inr (.inr (.inr (fun _ => none))))))] s H _ := hw
  refine n_putF (T := TX0) (ci := 0) (C := RX0) (N := 5) (ty0 := tyX0) (ty := .object "LinkChances$Net") X hin hw inlX0 tyX0_ok nmX0 0 rfl rfl 0 (by decide) wq_4_4 rfl rfl (by decide +kernel) rfl rfl (Nat.le_of_ble_eq_true rfl) dX0_init_15 (fun H locs hw => ?_)
  have hw : Wn g A ([(h0, .inr (0, [.ref hn, .ref q, .int 0, .int 0, .int 0])), (q, .inl (g.2.2.2.1, 11, .inr (.inr (.inr (.inr (lvF (fun _ => 0) 0))))))] ++ WL (5 * 0) (fun _ => 0) (cT g (fun _ => 0))) s H locs := by
    have hf : (fun _ => none : Nat → Option Nat) = lvF (fun _ => 0) 0 := by
      funext j
      unfold lvF
      rw [if_neg (by omega)]
    rw [← hf]
    exact hw
  refine lv_iconst (v := 0) X.1 X.2.1 dX0_init_18 (by decide) ?_
  refine lv_istore_n (lv' := [(2, .int 0), (0, .ref h0), (1, .ref hn)]) X.1 X.2.1 dX0_init_19 rfl hl (by decide) rfl (fun ls hl => ?_)
  exact x0_lp X hE.2 (fun a H locs ls hw => fin _ H locs _ _ _ ls ⟨q, a, rfl⟩ hw (Nat.le_refl _) (Nat.le_refl _) dX0_init_48) 11 0 rfl (fun _ => 0) H locs ls hw (lv_sub hl [1, 2, 0] rfl)
