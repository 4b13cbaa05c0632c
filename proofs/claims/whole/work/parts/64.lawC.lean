section LS
variable {p : Program} {l : Launch} {e : Env} {s : State} {m : MethodId} {args : Array Value} {below : List Frame} {meth : Method} {c : Code} {H : Heap} {locs : List Loc} {Q : State → Prop} {cells slots : Nat}
variable {ls : Array Slot} {g : gT} {h h2 : Nat → Nat} {b t : ST} {w : Nat → ST} {D : ND} {bb L : Nat} {xs : Nat → Int32} {i : Int32}
/-- at the end of a case -/
def GoL (p : Program) (l : Launch) (e : Env) (s : State) (m : MethodId) (args : Array Value) (below : List Frame) (meth : Method) (c : Code) (Q : State → Prop) (cells slots : Nat) (ls : Array Slot) (g : gT) (h h2 : Nat → Nat) : Prop := ∀ (b t : ST) (w : Nat → ST) (D : ND) (H : Heap) (locs : List Loc), INV b t D → LW g 79 h (cC g h (b, w)) 20 h2 (cM g h2 t) s H locs → W p l e room_1 s m args below meth c H locs cells slots Q (F0 m 1108 ls [])
theorem cs_0 (X : Cx g p s m args c cL_law RL 4) (hX : va_X bb L xs s s.heap) (hbl : bb < s.heap.size) (hw : LW g 79 h (cC g h (b, w)) 20 h2 (cM g h2 t) s H locs) (hI : INV b t D) (hl : lv_has ls 4 [(0, .ref bb), (1, .ref (h 0)), (2, .ref (h2 0)), (3, .int i)]) (hin : ∀ v : Int32, (v = 1 ∨ v = 2 ∨ v = 3 ∨ v = 4 ∨ v = 5) → vp_in (i + v) L) (hcs : cells ≤ room_1.cells ∧ slots ≤ room_1.slots) (go : GoL p l e s m args below meth c Q cells slots ls g h h2) : W p l e room_1 s m args below meth c H locs cells slots Q (F0 m 180 ls []) := by
  obtain ⟨r, b2, t2, D2, e1, e2, hI2⟩ := s_stations hI (xs (i + 1).toNatClampNeg)
  refine lv_aload_n X.1 X.2.1 dL_law_180 rfl (lv_at hl 1 rfl) ?_
  refine l_arg (lv := []) X hw hX hbl (lv_at hl 0 rfl) (lv_at hl 3 rfl) (hin 1 (by decide)) dL_law_181 dL_law_182 dL_law_183 rfl dL_law_184 dL_law_185 ?_
  refine L_Vi (k := 0) (As := [.int (xs (i + 1).toNatClampNeg)]) X hl.1 hw (c_X9_stations (w := w) e1) (by decide) (he_X9 g h _ _) rfl ⟨wq_6_5, wq_6_6, wq_6_7, wq_1_2, wq_6_8⟩ yo_X9_stations rfl ⟨Nat.le_of_ble_eq_true rfl, Nat.le_of_ble_eq_true rfl⟩ (Nat.le_of_ble_eq_true rfl) hcs dL_law_186 (fun H locs hw => ?_)
  refine lv_aload_n X.1 X.2.1 dL_law_189 rfl (lv_at hl 2 rfl) ?_
  refine l_arg (lv := []) X hw hX hbl (lv_at hl 0 rfl) (lv_at hl 3 rfl) (hin 1 (by decide)) dL_law_190 dL_law_191 dL_law_192 rfl dL_law_193 dL_law_194 ?_
  refine L_Vi (k := 0) (As := [.int (xs (i + 1).toNatClampNeg)]) X hl.1 hw.swap (c_X10_stations e2) (by decide) (he_X10 g h2 _) rfl ⟨wq_6_20, wq_6_21, wq_6_22, wq_1_5, wq_6_23⟩ yo_X10_stations rfl ⟨Nat.le_of_ble_eq_true rfl, Nat.le_of_ble_eq_true rfl⟩ (Nat.le_of_ble_eq_true rfl) hcs dL_law_195 (fun H locs hw => ?_)
  exact lv_icmp_eq (tgt := 1108) X.1 X.2.1 dL_law_198 (by decide) (fun _ => go _ _ _ _ _ _ hI2 hw.swap) (fun q => absurd rfl q)
theorem cs_1 (X : Cx g p s m args c cL_law RL 4) (hX : va_X bb L xs s s.heap) (hbl : bb < s.heap.size) (hw : LW g 79 h (cC g h (b, w)) 20 h2 (cM g h2 t) s H locs) (hI : INV b t D) (hl : lv_has ls 4 [(0, .ref bb), (1, .ref (h 0)), (2, .ref (h2 0)), (3, .int i)]) (hin : ∀ v : Int32, (v = 1 ∨ v = 2 ∨ v = 3 ∨ v = 4 ∨ v = 5) → vp_in (i + v) L) (hcs : cells ≤ room_1.cells ∧ slots ≤ room_1.slots) (go : GoL p l e s m args below meth c Q cells slots ls g h h2) : W p l e room_1 s m args below meth c H locs cells slots Q (F0 m 203 ls []) := by
  obtain ⟨r, b2, t2, D2, e1, e2, hI2⟩ := s_link hI (xs (i + 1).toNatClampNeg) (xs (i + 2).toNatClampNeg) (xs (i + 3).toNatClampNeg) (xs (i + 4).toNatClampNeg)
  refine lv_aload_n X.1 X.2.1 dL_law_203 rfl (lv_at hl 1 rfl) ?_
  refine l_arg (lv := []) X hw hX hbl (lv_at hl 0 rfl) (lv_at hl 3 rfl) (hin 1 (by decide)) dL_law_204 dL_law_205 dL_law_206 rfl dL_law_207 dL_law_208 ?_
  refine l_arg (lv := []) X hw hX hbl (lv_at hl 0 rfl) (lv_at hl 3 rfl) (hin 2 (by decide)) dL_law_209 dL_law_210 dL_law_211 rfl dL_law_212 dL_law_213 ?_
  refine l_arg (lv := []) X hw hX hbl (lv_at hl 0 rfl) (lv_at hl 3 rfl) (hin 3 (by decide)) dL_law_214 dL_law_215 dL_law_216 rfl dL_law_217 dL_law_218 ?_
  refine l_arg (lv := []) X hw hX hbl (lv_at hl 0 rfl) (lv_at hl 3 rfl) (hin 4 (by decide)) dL_law_219 dL_law_220 dL_law_221 rfl dL_law_222 dL_law_223 ?_
  refine L_Vi (k := 0) (As := [.int (xs (i + 1).toNatClampNeg), .int (xs (i + 2).toNatClampNeg), .int (xs (i + 3).toNatClampNeg), .int (xs (i + 4).toNatClampNeg)]) X hl.1 hw (c_X9_link (w := w) e1) (by decide) (he_X9 g h _ _) rfl ⟨wq_7_8, wq_7_9, wq_7_10, wq_1_2, wq_7_11⟩ yo_X9_link rfl ⟨Nat.le_of_ble_eq_true rfl, Nat.le_of_ble_eq_true rfl⟩ (Nat.le_of_ble_eq_true rfl) hcs dL_law_224 (fun H locs hw => ?_)
  refine lv_aload_n X.1 X.2.1 dL_law_227 rfl (lv_at hl 2 rfl) ?_
  refine l_arg (lv := []) X hw hX hbl (lv_at hl 0 rfl) (lv_at hl 3 rfl) (hin 1 (by decide)) dL_law_228 dL_law_229 dL_law_230 rfl dL_law_231 dL_law_232 ?_
  refine l_arg (lv := []) X hw hX hbl (lv_at hl 0 rfl) (lv_at hl 3 rfl) (hin 2 (by decide)) dL_law_233 dL_law_234 dL_law_235 rfl dL_law_236 dL_law_237 ?_
  refine l_arg (lv := []) X hw hX hbl (lv_at hl 0 rfl) (lv_at hl 3 rfl) (hin 3 (by decide)) dL_law_238 dL_law_239 dL_law_240 rfl dL_law_241 dL_law_242 ?_
  refine l_arg (lv := []) X hw hX hbl (lv_at hl 0 rfl) (lv_at hl 3 rfl) (hin 4 (by decide)) dL_law_243 dL_law_244 dL_law_245 rfl dL_law_246 dL_law_247 ?_
  refine L_Vi (k := 0) (As := [.int (xs (i + 1).toNatClampNeg), .int (xs (i + 2).toNatClampNeg), .int (xs (i + 3).toNatClampNeg), .int (xs (i + 4).toNatClampNeg)]) X hl.1 hw.swap (c_X10_link e2) (by decide) (he_X10 g h2 _) rfl ⟨wq_9_14, wq_9_15, wq_9_16, wq_1_5, wq_9_17⟩ yo_X10_link rfl ⟨Nat.le_of_ble_eq_true rfl, Nat.le_of_ble_eq_true rfl⟩ (Nat.le_of_ble_eq_true rfl) hcs dL_law_248 (fun H locs hw => ?_)
  exact lv_icmp_eq (tgt := 1108) X.1 X.2.1 dL_law_251 (by decide) (fun _ => go _ _ _ _ _ _ hI2 hw.swap) (fun q => absurd rfl q)
theorem cs_2 (X : Cx g p s m args c cL_law RL 4) (hX : va_X bb L xs s s.heap) (hbl : bb < s.heap.size) (hw : LW g 79 h (cC g h (b, w)) 20 h2 (cM g h2 t) s H locs) (hI : INV b t D) (hl : lv_has ls 4 [(0, .ref bb), (1, .ref (h 0)), (2, .ref (h2 0)), (3, .int i)]) (hin : ∀ v : Int32, (v = 1 ∨ v = 2 ∨ v = 3 ∨ v = 4 ∨ v = 5) → vp_in (i + v) L) (hcs : cells ≤ room_1.cells ∧ slots ≤ room_1.slots) (go : GoL p l e s m args below meth c Q cells slots ls g h h2) : W p l e room_1 s m args below meth c H locs cells slots Q (F0 m 256 ls []) := by
  obtain ⟨r, b2, t2, D2, e1, e2, hI2⟩ := s_back hI 
  refine lv_aload_n X.1 X.2.1 dL_law_256 rfl (lv_at hl 1 rfl) ?_
  refine L_Vi (k := 0) (As := []) X hl.1 hw (c_X9_back (w := w) e1) (by decide) (he_X9 g h _ _) rfl ⟨wq_10_10, wq_10_11, wq_10_12, wq_1_2, wq_10_13⟩ yo_X9_back rfl ⟨Nat.le_of_ble_eq_true rfl, Nat.le_of_ble_eq_true rfl⟩ (Nat.le_of_ble_eq_true rfl) hcs dL_law_257 (fun H locs hw => ?_)
  refine lv_aload_n X.1 X.2.1 dL_law_260 rfl (lv_at hl 2 rfl) ?_
  refine L_Vi (k := 0) (As := []) X hl.1 hw.swap (c_X10_back e2) (by decide) (he_X10 g h2 _) rfl ⟨wq_10_22, wq_10_23, wq_11_0, wq_1_5, wq_11_1⟩ yo_X10_back rfl ⟨Nat.le_of_ble_eq_true rfl, Nat.le_of_ble_eq_true rfl⟩ (Nat.le_of_ble_eq_true rfl) hcs dL_law_261 (fun H locs hw => ?_)
  exact lv_icmp_eq (tgt := 1108) X.1 X.2.1 dL_law_264 (by decide) (fun _ => go _ _ _ _ _ _ hI2 hw.swap) (fun q => absurd rfl q)
theorem cs_3 (X : Cx g p s m args c cL_law RL 4) (hX : va_X bb L xs s s.heap) (hbl : bb < s.heap.size) (hw : LW g 79 h (cC g h (b, w)) 20 h2 (cM g h2 t) s H locs) (hI : INV b t D) (hl : lv_has ls 4 [(0, .ref bb), (1, .ref (h 0)), (2, .ref (h2 0)), (3, .int i)]) (hin : ∀ v : Int32, (v = 1 ∨ v = 2 ∨ v = 3 ∨ v = 4 ∨ v = 5) → vp_in (i + v) L) (hcs : cells ≤ room_1.cells ∧ slots ≤ room_1.slots) (go : GoL p l e s m args below meth c Q cells slots ls g h h2) : W p l e room_1 s m args below meth c H locs cells slots Q (F0 m 269 ls []) := by
  obtain ⟨r, b2, t2, D2, e1, e2, hI2⟩ := s_chance hI (xs (i + 1).toNatClampNeg) (xs (i + 2).toNatClampNeg) (xs (i + 3).toNatClampNeg)
  refine lv_aload_n X.1 X.2.1 dL_law_269 rfl (lv_at hl 1 rfl) ?_
  refine l_arg (lv := []) X hw hX hbl (lv_at hl 0 rfl) (lv_at hl 3 rfl) (hin 1 (by decide)) dL_law_270 dL_law_271 dL_law_272 rfl dL_law_273 dL_law_274 ?_
  refine l_arg (lv := []) X hw hX hbl (lv_at hl 0 rfl) (lv_at hl 3 rfl) (hin 2 (by decide)) dL_law_275 dL_law_276 dL_law_277 rfl dL_law_278 dL_law_279 ?_
  refine l_arg (lv := []) X hw hX hbl (lv_at hl 0 rfl) (lv_at hl 3 rfl) (hin 3 (by decide)) dL_law_280 dL_law_281 dL_law_282 rfl dL_law_283 dL_law_284 ?_
  refine L_Vi (k := 0) (As := [.int (xs (i + 1).toNatClampNeg), .int (xs (i + 2).toNatClampNeg), .int (xs (i + 3).toNatClampNeg)]) X hl.1 hw (c_X9_chance (w := w) e1) (by decide) (he_X9 g h _ _) rfl ⟨wq_11_2, wq_11_3, wq_11_4, wq_1_2, wq_11_5⟩ yo_X9_chance rfl ⟨Nat.le_of_ble_eq_true rfl, Nat.le_of_ble_eq_true rfl⟩ (Nat.le_of_ble_eq_true rfl) hcs dL_law_285 (fun H locs hw => ?_)
  refine lv_aload_n X.1 X.2.1 dL_law_288 rfl (lv_at hl 2 rfl) ?_
  refine l_arg (lv := []) X hw hX hbl (lv_at hl 0 rfl) (lv_at hl 3 rfl) (hin 1 (by decide)) dL_law_289 dL_law_290 dL_law_291 rfl dL_law_292 dL_law_293 ?_
  refine l_arg (lv := []) X hw hX hbl (lv_at hl 0 rfl) (lv_at hl 3 rfl) (hin 2 (by decide)) dL_law_294 dL_law_295 dL_law_296 rfl dL_law_297 dL_law_298 ?_
  refine l_arg (lv := []) X hw hX hbl (lv_at hl 0 rfl) (lv_at hl 3 rfl) (hin 3 (by decide)) dL_law_299 dL_law_300 dL_law_301 rfl dL_law_302 dL_law_303 ?_
  refine L_Vi (k := 0) (As := [.int (xs (i + 1).toNatClampNeg), .int (xs (i + 2).toNatClampNeg), .int (xs (i + 3).toNatClampNeg)]) X hl.1 hw.swap (c_X10_chance e2) (by decide) (he_X10 g h2 _) rfl ⟨wq_11_20, wq_11_21, wq_11_22, wq_1_5, wq_11_23⟩ yo_X10_chance rfl ⟨Nat.le_of_ble_eq_true rfl, Nat.le_of_ble_eq_true rfl⟩ (Nat.le_of_ble_eq_true rfl) hcs dL_law_304 (fun H locs hw => ?_)
  exact lv_icmp_eq (tgt := 1108) X.1 X.2.1 dL_law_307 (by decide) (fun _ => go _ _ _ _ _ _ hI2 hw.swap) (fun q => absurd rfl q)
theorem cs_4 (X : Cx g p s m args c cL_law RL 4) (hX : va_X bb L xs s s.heap) (hbl : bb < s.heap.size) (hw : LW g 79 h (cC g h (b, w)) 20 h2 (cM g h2 t) s H locs) (hI : INV b t D) (hl : lv_has ls 4 [(0, .ref bb), (1, .ref (h 0)), (2, .ref (h2 0)), (3, .int i)]) (hin : ∀ v : Int32, (v = 1 ∨ v = 2 ∨ v = 3 ∨ v = 4 ∨ v = 5) → vp_in (i + v) L) (hcs : cells ≤ room_1.cells ∧ slots ≤ room_1.slots) (go : GoL p l e s m args below meth c Q cells slots ls g h h2) : W p l e room_1 s m args below meth c H locs cells slots Q (F0 m 312 ls []) := by
  obtain ⟨r, b2, t2, D2, e1, e2, hI2⟩ := s_see hI (xs (i + 1).toNatClampNeg) (xs (i + 2).toNatClampNeg)
  refine lv_aload_n X.1 X.2.1 dL_law_312 rfl (lv_at hl 1 rfl) ?_
  refine l_arg (lv := []) X hw hX hbl (lv_at hl 0 rfl) (lv_at hl 3 rfl) (hin 1 (by decide)) dL_law_313 dL_law_314 dL_law_315 rfl dL_law_316 dL_law_317 ?_
  refine l_arg (lv := []) X hw hX hbl (lv_at hl 0 rfl) (lv_at hl 3 rfl) (hin 2 (by decide)) dL_law_318 dL_law_319 dL_law_320 rfl dL_law_321 dL_law_322 ?_
  refine L_Vi (k := 0) (As := [.int (xs (i + 1).toNatClampNeg), .int (xs (i + 2).toNatClampNeg)]) X hl.1 hw (c_X9_see (w := w) e1) (by decide) (he_X9 g h _ _) rfl ⟨wq_12_4, wq_12_5, wq_12_6, wq_1_2, wq_12_7⟩ yo_X9_see rfl ⟨Nat.le_of_ble_eq_true rfl, Nat.le_of_ble_eq_true rfl⟩ (Nat.le_of_ble_eq_true rfl) hcs dL_law_323 (fun H locs hw => ?_)
  refine lv_aload_n X.1 X.2.1 dL_law_326 rfl (lv_at hl 2 rfl) ?_
  refine l_arg (lv := []) X hw hX hbl (lv_at hl 0 rfl) (lv_at hl 3 rfl) (hin 1 (by decide)) dL_law_327 dL_law_328 dL_law_329 rfl dL_law_330 dL_law_331 ?_
  refine l_arg (lv := []) X hw hX hbl (lv_at hl 0 rfl) (lv_at hl 3 rfl) (hin 2 (by decide)) dL_law_332 dL_law_333 dL_law_334 rfl dL_law_335 dL_law_336 ?_
  refine L_Vi (k := 0) (As := [.int (xs (i + 1).toNatClampNeg), .int (xs (i + 2).toNatClampNeg)]) X hl.1 hw.swap (c_X10_see e2) (by decide) (he_X10 g h2 _) rfl ⟨wq_12_16, wq_12_17, wq_12_18, wq_1_5, wq_12_19⟩ yo_X10_see rfl ⟨Nat.le_of_ble_eq_true rfl, Nat.le_of_ble_eq_true rfl⟩ (Nat.le_of_ble_eq_true rfl) hcs dL_law_337 (fun H locs hw => ?_)
  exact lv_icmp_eq (tgt := 1108) X.1 X.2.1 dL_law_340 (by decide) (fun _ => go _ _ _ _ _ _ hI2 hw.swap) (fun q => absurd rfl q)
theorem cs_5 (X : Cx g p s m args c cL_law RL 4) (hX : va_X bb L xs s s.heap) (hbl : bb < s.heap.size) (hw : LW g 79 h (cC g h (b, w)) 20 h2 (cM g h2 t) s H locs) (hI : INV b t D) (hl : lv_has ls 4 [(0, .ref bb), (1, .ref (h 0)), (2, .ref (h2 0)), (3, .int i)]) (hin : ∀ v : Int32, (v = 1 ∨ v = 2 ∨ v = 3 ∨ v = 4 ∨ v = 5) → vp_in (i + v) L) (hcs : cells ≤ room_1.cells ∧ slots ≤ room_1.slots) (go : GoL p l e s m args below meth c Q cells slots ls g h h2) : W p l e room_1 s m args below meth c H locs cells slots Q (F0 m 345 ls []) := by
  obtain ⟨r, b2, t2, D2, e1, e2, hI2⟩ := s_source hI (xs (i + 1).toNatClampNeg)
  refine lv_aload_n X.1 X.2.1 dL_law_345 rfl (lv_at hl 1 rfl) ?_
  refine l_arg (lv := []) X hw hX hbl (lv_at hl 0 rfl) (lv_at hl 3 rfl) (hin 1 (by decide)) dL_law_346 dL_law_347 dL_law_348 rfl dL_law_349 dL_law_350 ?_
  refine L_Vi (k := 0) (As := [.int (xs (i + 1).toNatClampNeg)]) X hl.1 hw (c_X9_source (w := w) e1) (by decide) (he_X9 g h _ _) rfl ⟨wq_12_20, wq_12_21, wq_12_22, wq_1_2, wq_12_23⟩ yo_X9_source rfl ⟨Nat.le_of_ble_eq_true rfl, Nat.le_of_ble_eq_true rfl⟩ (Nat.le_of_ble_eq_true rfl) hcs dL_law_351 (fun H locs hw => ?_)
  refine lv_aload_n X.1 X.2.1 dL_law_354 rfl (lv_at hl 2 rfl) ?_
  refine l_arg (lv := []) X hw hX hbl (lv_at hl 0 rfl) (lv_at hl 3 rfl) (hin 1 (by decide)) dL_law_355 dL_law_356 dL_law_357 rfl dL_law_358 dL_law_359 ?_
  refine L_Vi (k := 0) (As := [.int (xs (i + 1).toNatClampNeg)]) X hl.1 hw.swap (c_X10_source e2) (by decide) (he_X10 g h2 _) rfl ⟨wq_13_9, wq_13_10, wq_13_11, wq_1_5, wq_13_12⟩ yo_X10_source rfl ⟨Nat.le_of_ble_eq_true rfl, Nat.le_of_ble_eq_true rfl⟩ (Nat.le_of_ble_eq_true rfl) hcs dL_law_360 (fun H locs hw => ?_)
  exact lv_icmp_eq (tgt := 1108) X.1 X.2.1 dL_law_363 (by decide) (fun _ => go _ _ _ _ _ _ hI2 hw.swap) (fun q => absurd rfl q)
theorem cs_6 (X : Cx g p s m args c cL_law RL 4) (hX : va_X bb L xs s s.heap) (hbl : bb < s.heap.size) (hw : LW g 79 h (cC g h (b, w)) 20 h2 (cM g h2 t) s H locs) (hI : INV b t D) (hl : lv_has ls 4 [(0, .ref bb), (1, .ref (h 0)), (2, .ref (h2 0)), (3, .int i)]) (hin : ∀ v : Int32, (v = 1 ∨ v = 2 ∨ v = 3 ∨ v = 4 ∨ v = 5) → vp_in (i + v) L) (hcs : cells ≤ room_1.cells ∧ slots ≤ room_1.slots) (go : GoL p l e s m args below meth c Q cells slots ls g h h2) : W p l e room_1 s m args below meth c H locs cells slots Q (F0 m 368 ls []) := by
  obtain ⟨r, b2, t2, D2, e1, e2, hI2⟩ := s_goals hI (xs (i + 1).toNatClampNeg)
  refine lv_aload_n X.1 X.2.1 dL_law_368 rfl (lv_at hl 1 rfl) ?_
  refine l_arg (lv := []) X hw hX hbl (lv_at hl 0 rfl) (lv_at hl 3 rfl) (hin 1 (by decide)) dL_law_369 dL_law_370 dL_law_371 rfl dL_law_372 dL_law_373 ?_
  refine L_Vi (k := 0) (As := [.int (xs (i + 1).toNatClampNeg)]) X hl.1 hw (c_X9_goals (w := w) e1) (by decide) (he_X9 g h _ _) rfl ⟨wq_13_13, wq_13_14, wq_13_15, wq_1_2, wq_13_16⟩ yo_X9_goals rfl ⟨Nat.le_of_ble_eq_true rfl, Nat.le_of_ble_eq_true rfl⟩ (Nat.le_of_ble_eq_true rfl) hcs dL_law_374 (fun H locs hw => ?_)
  refine lv_aload_n X.1 X.2.1 dL_law_377 rfl (lv_at hl 2 rfl) ?_
  refine l_arg (lv := []) X hw hX hbl (lv_at hl 0 rfl) (lv_at hl 3 rfl) (hin 1 (by decide)) dL_law_378 dL_law_379 dL_law_380 rfl dL_law_381 dL_law_382 ?_
  refine L_Vi (k := 0) (As := [.int (xs (i + 1).toNatClampNeg)]) X hl.1 hw.swap (c_X10_goals e2) (by decide) (he_X10 g h2 _) rfl ⟨wq_14_5, wq_14_6, wq_14_7, wq_1_5, wq_14_8⟩ yo_X10_goals rfl ⟨Nat.le_of_ble_eq_true rfl, Nat.le_of_ble_eq_true rfl⟩ (Nat.le_of_ble_eq_true rfl) hcs dL_law_383 (fun H locs hw => ?_)
  exact lv_icmp_eq (tgt := 1108) X.1 X.2.1 dL_law_386 (by decide) (fun _ => go _ _ _ _ _ _ hI2 hw.swap) (fun q => absurd rfl q)
theorem cs_7 (X : Cx g p s m args c cL_law RL 4) (hX : va_X bb L xs s s.heap) (hbl : bb < s.heap.size) (hw : LW g 79 h (cC g h (b, w)) 20 h2 (cM g h2 t) s H locs) (hI : INV b t D) (hl : lv_has ls 4 [(0, .ref bb), (1, .ref (h 0)), (2, .ref (h2 0)), (3, .int i)]) (hin : ∀ v : Int32, (v = 1 ∨ v = 2 ∨ v = 3 ∨ v = 4 ∨ v = 5) → vp_in (i + v) L) (hcs : cells ≤ room_1.cells ∧ slots ≤ room_1.slots) (go : GoL p l e s m args below meth c Q cells slots ls g h h2) : W p l e room_1 s m args below meth c H locs cells slots Q (F0 m 391 ls []) := by
  obtain ⟨r, e1, e2⟩ := s_info hI (xs (i + 1).toNatClampNeg) (xs (i + 2).toNatClampNeg)
  have hI2 := hI
  refine lv_aload_n X.1 X.2.1 dL_law_391 rfl (lv_at hl 1 rfl) ?_
  refine l_arg (lv := []) X hw hX hbl (lv_at hl 0 rfl) (lv_at hl 3 rfl) (hin 1 (by decide)) dL_law_392 dL_law_393 dL_law_394 rfl dL_law_395 dL_law_396 ?_
  refine l_arg (lv := []) X hw hX hbl (lv_at hl 0 rfl) (lv_at hl 3 rfl) (hin 2 (by decide)) dL_law_397 dL_law_398 dL_law_399 rfl dL_law_400 dL_law_401 ?_
  refine L_Vi (k := 0) (As := [.int (xs (i + 1).toNatClampNeg), .int (xs (i + 2).toNatClampNeg)]) X hl.1 hw (c_X9_info (w := w) e1) (by decide) (he_X9 g h _ _) rfl ⟨wq_14_9, wq_14_10, wq_14_11, wq_1_2, wq_14_12⟩ yo_X9_info rfl ⟨Nat.le_of_ble_eq_true rfl, Nat.le_of_ble_eq_true rfl⟩ (Nat.le_of_ble_eq_true rfl) hcs dL_law_402 (fun H locs hw => ?_)
  refine lv_aload_n X.1 X.2.1 dL_law_405 rfl (lv_at hl 2 rfl) ?_
  refine l_arg (lv := []) X hw hX hbl (lv_at hl 0 rfl) (lv_at hl 3 rfl) (hin 1 (by decide)) dL_law_406 dL_law_407 dL_law_408 rfl dL_law_409 dL_law_410 ?_
  refine l_arg (lv := []) X hw hX hbl (lv_at hl 0 rfl) (lv_at hl 3 rfl) (hin 2 (by decide)) dL_law_411 dL_law_412 dL_law_413 rfl dL_law_414 dL_law_415 ?_
  refine L_Vi (k := 0) (As := [.int (xs (i + 1).toNatClampNeg), .int (xs (i + 2).toNatClampNeg)]) X hl.1 hw.swap (c_X10_info e2) (by decide) (he_X10 g h2 _) rfl ⟨wq_14_15, wq_14_16, wq_14_17, wq_1_5, wq_14_18⟩ yo_X10_info rfl ⟨Nat.le_of_ble_eq_true rfl, Nat.le_of_ble_eq_true rfl⟩ (Nat.le_of_ble_eq_true rfl) hcs dL_law_416 (fun H locs hw => ?_)
  exact lv_icmp_eq (tgt := 1108) X.1 X.2.1 dL_law_419 (by decide) (fun _ => go _ _ _ _ _ _ hI2 hw.swap) (fun q => absurd rfl q)
theorem cs_8 (X : Cx g p s m args c cL_law RL 4) (hX : va_X bb L xs s s.heap) (hbl : bb < s.heap.size) (hw : LW g 79 h (cC g h (b, w)) 20 h2 (cM g h2 t) s H locs) (hI : INV b t D) (hl : lv_has ls 4 [(0, .ref bb), (1, .ref (h 0)), (2, .ref (h2 0)), (3, .int i)]) (hin : ∀ v : Int32, (v = 1 ∨ v = 2 ∨ v = 3 ∨ v = 4 ∨ v = 5) → vp_in (i + v) L) (hcs : cells ≤ room_1.cells ∧ slots ≤ room_1.slots) (go : GoL p l e s m args below meth c Q cells slots ls g h h2) : W p l e room_1 s m args below meth c H locs cells slots Q (F0 m 424 ls []) := by
  obtain ⟨r, b2, t2, D2, e1, e2, hI2⟩ := s_reach hI (xs (i + 1).toNatClampNeg)
  refine lv_aload_n X.1 X.2.1 dL_law_424 rfl (lv_at hl 1 rfl) ?_
  refine l_arg (lv := []) X hw hX hbl (lv_at hl 0 rfl) (lv_at hl 3 rfl) (hin 1 (by decide)) dL_law_425 dL_law_426 dL_law_427 rfl dL_law_428 dL_law_429 ?_
  refine L_Vl (k := 0) (As := [.int (xs (i + 1).toNatClampNeg)]) X hl.1 hw (c_X9_reach (w := w) e1) (by decide) (he_X9 g h _ _) rfl ⟨wq_15_0, wq_15_1, wq_15_2, wq_1_2, wq_15_3⟩ yo_X9_reach rfl ⟨Nat.le_of_ble_eq_true rfl, Nat.le_of_ble_eq_true rfl⟩ (Nat.le_of_ble_eq_true rfl) hcs dL_law_430 (fun H locs hw => ?_)
  refine lv_aload_n X.1 X.2.1 dL_law_433 rfl (lv_at hl 2 rfl) ?_
  refine l_arg (lv := []) X hw hX hbl (lv_at hl 0 rfl) (lv_at hl 3 rfl) (hin 1 (by decide)) dL_law_434 dL_law_435 dL_law_436 rfl dL_law_437 dL_law_438 ?_
  refine L_Vl (k := 0) (As := [.int (xs (i + 1).toNatClampNeg)]) X hl.1 hw.swap (c_X10_reach e2) (by decide) (he_X10 g h2 _) rfl ⟨wq_17_17, wq_17_18, wq_17_19, wq_1_5, wq_17_20⟩ yo_X10_reach rfl ⟨Nat.le_of_ble_eq_true rfl, Nat.le_of_ble_eq_true rfl⟩ (Nat.le_of_ble_eq_true rfl) hcs dL_law_439 (fun H locs hw => ?_)
  refine W.lcmp X.1 X.2.1 dL_law_442 ?_
  exact lv_if_eq (tgt := 1108) X.1 X.2.1 dL_law_443 (by decide) (fun _ => go _ _ _ _ _ _ hI2 hw.swap) (fun q => absurd ((lg_cmp_eq _ _).mpr rfl) q)
theorem cs_9 (X : Cx g p s m args c cL_law RL 4) (hX : va_X bb L xs s s.heap) (hbl : bb < s.heap.size) (hw : LW g 79 h (cC g h (b, w)) 20 h2 (cM g h2 t) s H locs) (hI : INV b t D) (hl : lv_has ls 4 [(0, .ref bb), (1, .ref (h 0)), (2, .ref (h2 0)), (3, .int i)]) (hin : ∀ v : Int32, (v = 1 ∨ v = 2 ∨ v = 3 ∨ v = 4 ∨ v = 5) → vp_in (i + v) L) (hcs : cells ≤ room_1.cells ∧ slots ≤ room_1.slots) (go : GoL p l e s m args below meth c Q cells slots ls g h h2) : W p l e room_1 s m args below meth c H locs cells slots Q (F0 m 448 ls []) := by
  obtain ⟨r, b2, w2, t2, D2, e1, e2, hI2⟩ := s_joined hI w (xs (i + 1).toNatClampNeg)
  refine lv_aload_n X.1 X.2.1 dL_law_448 rfl (lv_at hl 1 rfl) ?_
  refine l_arg (lv := []) X hw hX hbl (lv_at hl 0 rfl) (lv_at hl 3 rfl) (hin 1 (by decide)) dL_law_449 dL_law_450 dL_law_451 rfl dL_law_452 dL_law_453 ?_
  refine L_Vl (k := 0) (As := [.int (xs (i + 1).toNatClampNeg)]) X hl.1 hw (c_X9_joined (w := w) e1) (by decide) (he_X9 g h _ _) rfl ⟨wq_19_14, wq_19_15, wq_19_16, wq_1_2, wq_19_17⟩ yo_X9_joined rfl ⟨Nat.le_of_ble_eq_true rfl, Nat.le_of_ble_eq_true rfl⟩ (Nat.le_of_ble_eq_true rfl) hcs dL_law_454 (fun H locs hw => ?_)
  refine lv_aload_n X.1 X.2.1 dL_law_457 rfl (lv_at hl 2 rfl) ?_
  refine l_arg (lv := []) X hw hX hbl (lv_at hl 0 rfl) (lv_at hl 3 rfl) (hin 1 (by decide)) dL_law_458 dL_law_459 dL_law_460 rfl dL_law_461 dL_law_462 ?_
  refine L_Vl (k := 0) (As := [.int (xs (i + 1).toNatClampNeg)]) X hl.1 hw.swap (c_X10_joined e2) (by decide) (he_X10 g h2 _) rfl ⟨wq_25_8, wq_25_9, wq_25_10, wq_1_5, wq_25_11⟩ yo_X10_joined rfl ⟨Nat.le_of_ble_eq_true rfl, Nat.le_of_ble_eq_true rfl⟩ (Nat.le_of_ble_eq_true rfl) hcs dL_law_463 (fun H locs hw => ?_)
  refine W.lcmp X.1 X.2.1 dL_law_466 ?_
  exact lv_if_eq (tgt := 1108) X.1 X.2.1 dL_law_467 (by decide) (fun _ => go _ _ _ _ _ _ hI2 hw.swap) (fun q => absurd ((lg_cmp_eq _ _).mpr rfl) q)
theorem cs_10 (X : Cx g p s m args c cL_law RL 4) (hX : va_X bb L xs s s.heap) (hbl : bb < s.heap.size) (hw : LW g 79 h (cC g h (b, w)) 20 h2 (cM g h2 t) s H locs) (hI : INV b t D) (hl : lv_has ls 4 [(0, .ref bb), (1, .ref (h 0)), (2, .ref (h2 0)), (3, .int i)]) (hin : ∀ v : Int32, (v = 1 ∨ v = 2 ∨ v = 3 ∨ v = 4 ∨ v = 5) → vp_in (i + v) L) (hcs : cells ≤ room_1.cells ∧ slots ≤ room_1.slots) (go : GoL p l e s m args below meth c Q cells slots ls g h h2) : W p l e room_1 s m args below meth c H locs cells slots Q (F0 m 472 ls []) := by
  obtain ⟨r, b2, t2, D2, e1, e2, hI2⟩ := s_wide hI (xs (i + 1).toNatClampNeg)
  refine lv_aload_n X.1 X.2.1 dL_law_472 rfl (lv_at hl 1 rfl) ?_
  refine l_arg (lv := []) X hw hX hbl (lv_at hl 0 rfl) (lv_at hl 3 rfl) (hin 1 (by decide)) dL_law_473 dL_law_474 dL_law_475 rfl dL_law_476 dL_law_477 ?_
  refine L_Vi (k := 0) (As := [.int (xs (i + 1).toNatClampNeg)]) X hl.1 hw (c_X9_wide (w := w) e1) (by decide) (he_X9 g h _ _) rfl ⟨wq_28_14, wq_28_15, wq_28_16, wq_1_2, wq_28_17⟩ yo_X9_wide rfl ⟨Nat.le_of_ble_eq_true rfl, Nat.le_of_ble_eq_true rfl⟩ (Nat.le_of_ble_eq_true rfl) hcs dL_law_478 (fun H locs hw => ?_)
  refine lv_aload_n X.1 X.2.1 dL_law_481 rfl (lv_at hl 2 rfl) ?_
  refine l_arg (lv := []) X hw hX hbl (lv_at hl 0 rfl) (lv_at hl 3 rfl) (hin 1 (by decide)) dL_law_482 dL_law_483 dL_law_484 rfl dL_law_485 dL_law_486 ?_
  refine L_Vi (k := 0) (As := [.int (xs (i + 1).toNatClampNeg)]) X hl.1 hw.swap (c_X10_wide e2) (by decide) (he_X10 g h2 _) rfl ⟨wq_30_6, wq_30_7, wq_30_8, wq_1_5, wq_30_9⟩ yo_X10_wide rfl ⟨Nat.le_of_ble_eq_true rfl, Nat.le_of_ble_eq_true rfl⟩ (Nat.le_of_ble_eq_true rfl) hcs dL_law_487 (fun H locs hw => ?_)
  exact lv_icmp_eq (tgt := 1108) X.1 X.2.1 dL_law_490 (by decide) (fun _ => go _ _ _ _ _ _ hI2 hw.swap) (fun q => absurd rfl q)
theorem cs_11 (X : Cx g p s m args c cL_law RL 4) (hX : va_X bb L xs s s.heap) (hbl : bb < s.heap.size) (hw : LW g 79 h (cC g h (b, w)) 20 h2 (cM g h2 t) s H locs) (hI : INV b t D) (hl : lv_has ls 4 [(0, .ref bb), (1, .ref (h 0)), (2, .ref (h2 0)), (3, .int i)]) (hin : ∀ v : Int32, (v = 1 ∨ v = 2 ∨ v = 3 ∨ v = 4 ∨ v = 5) → vp_in (i + v) L) (hcs : cells ≤ room_1.cells ∧ slots ≤ room_1.slots) (go : GoL p l e s m args below meth c Q cells slots ls g h h2) : W p l e room_1 s m args below meth c H locs cells slots Q (F0 m 495 ls []) := by
  obtain ⟨r, b2, t2, D2, e1, e2, hI2⟩ := s_widest hI 
  refine lv_aload_n X.1 X.2.1 dL_law_495 rfl (lv_at hl 1 rfl) ?_
  refine L_Vi (k := 0) (As := []) X hl.1 hw (c_X9_widest (w := w) e1) (by decide) (he_X9 g h _ _) rfl ⟨wq_31_6, wq_31_7, wq_31_8, wq_1_2, wq_31_9⟩ yo_X9_widest rfl ⟨Nat.le_of_ble_eq_true rfl, Nat.le_of_ble_eq_true rfl⟩ (Nat.le_of_ble_eq_true rfl) hcs dL_law_496 (fun H locs hw => ?_)
  refine lv_aload_n X.1 X.2.1 dL_law_499 rfl (lv_at hl 2 rfl) ?_
  refine L_Vi (k := 0) (As := []) X hl.1 hw.swap (c_X10_widest e2) (by decide) (he_X10 g h2 _) rfl ⟨wq_31_16, wq_31_17, wq_31_18, wq_1_5, wq_31_19⟩ yo_X10_widest rfl ⟨Nat.le_of_ble_eq_true rfl, Nat.le_of_ble_eq_true rfl⟩ (Nat.le_of_ble_eq_true rfl) hcs dL_law_500 (fun H locs hw => ?_)
  exact lv_icmp_eq (tgt := 1108) X.1 X.2.1 dL_law_503 (by decide) (fun _ => go _ _ _ _ _ _ hI2 hw.swap) (fun q => absurd rfl q)
theorem cs_12 (X : Cx g p s m args c cL_law RL 4) (hX : va_X bb L xs s s.heap) (hbl : bb < s.heap.size) (hw : LW g 79 h (cC g h (b, w)) 20 h2 (cM g h2 t) s H locs) (hI : INV b t D) (hl : lv_has ls 4 [(0, .ref bb), (1, .ref (h 0)), (2, .ref (h2 0)), (3, .int i)]) (hin : ∀ v : Int32, (v = 1 ∨ v = 2 ∨ v = 3 ∨ v = 4 ∨ v = 5) → vp_in (i + v) L) (hcs : cells ≤ room_1.cells ∧ slots ≤ room_1.slots) (go : GoL p l e s m args below meth c Q cells slots ls g h h2) : W p l e room_1 s m args below meth c H locs cells slots Q (F0 m 508 ls []) := by
  obtain ⟨r, b2, t2, D2, e1, e2, hI2⟩ := s_pair hI (xs (i + 1).toNatClampNeg) (xs (i + 2).toNatClampNeg) (xs (i + 3).toNatClampNeg)
  refine lv_aload_n X.1 X.2.1 dL_law_508 rfl (lv_at hl 1 rfl) ?_
  refine l_arg (lv := []) X hw hX hbl (lv_at hl 0 rfl) (lv_at hl 3 rfl) (hin 1 (by decide)) dL_law_509 dL_law_510 dL_law_511 rfl dL_law_512 dL_law_513 ?_
  refine l_arg (lv := []) X hw hX hbl (lv_at hl 0 rfl) (lv_at hl 3 rfl) (hin 2 (by decide)) dL_law_514 dL_law_515 dL_law_516 rfl dL_law_517 dL_law_518 ?_
  refine l_arg (lv := []) X hw hX hbl (lv_at hl 0 rfl) (lv_at hl 3 rfl) (hin 3 (by decide)) dL_law_519 dL_law_520 dL_law_521 rfl dL_law_522 dL_law_523 ?_
  refine L_Vl (k := 0) (As := [.int (xs (i + 1).toNatClampNeg), .int (xs (i + 2).toNatClampNeg), .int (xs (i + 3).toNatClampNeg)]) X hl.1 hw (c_X9_pair (w := w) e1) (by decide) (he_X9 g h _ _) rfl ⟨wq_32_0, wq_32_1, wq_32_2, wq_1_2, wq_32_3⟩ yo_X9_pair rfl ⟨Nat.le_of_ble_eq_true rfl, Nat.le_of_ble_eq_true rfl⟩ (Nat.le_of_ble_eq_true rfl) hcs dL_law_524 (fun H locs hw => ?_)
  refine lv_aload_n X.1 X.2.1 dL_law_527 rfl (lv_at hl 2 rfl) ?_
  refine l_arg (lv := []) X hw hX hbl (lv_at hl 0 rfl) (lv_at hl 3 rfl) (hin 1 (by decide)) dL_law_528 dL_law_529 dL_law_530 rfl dL_law_531 dL_law_532 ?_
  refine l_arg (lv := []) X hw hX hbl (lv_at hl 0 rfl) (lv_at hl 3 rfl) (hin 2 (by decide)) dL_law_533 dL_law_534 dL_law_535 rfl dL_law_536 dL_law_537 ?_
  refine l_arg (lv := []) X hw hX hbl (lv_at hl 0 rfl) (lv_at hl 3 rfl) (hin 3 (by decide)) dL_law_538 dL_law_539 dL_law_540 rfl dL_law_541 dL_law_542 ?_
  refine L_Vl (k := 0) (As := [.int (xs (i + 1).toNatClampNeg), .int (xs (i + 2).toNatClampNeg), .int (xs (i + 3).toNatClampNeg)]) X hl.1 hw.swap (c_X10_pair e2) (by decide) (he_X10 g h2 _) rfl ⟨wq_32_9, wq_32_10, wq_32_11, wq_1_5, wq_32_12⟩ yo_X10_pair rfl ⟨Nat.le_of_ble_eq_true rfl, Nat.le_of_ble_eq_true rfl⟩ (Nat.le_of_ble_eq_true rfl) hcs dL_law_543 (fun H locs hw => ?_)
  refine W.lcmp X.1 X.2.1 dL_law_546 ?_
  exact lv_if_eq (tgt := 1108) X.1 X.2.1 dL_law_547 (by decide) (fun _ => go _ _ _ _ _ _ hI2 hw.swap) (fun q => absurd ((lg_cmp_eq _ _).mpr rfl) q)
theorem cs_13 (X : Cx g p s m args c cL_law RL 4) (hX : va_X bb L xs s s.heap) (hbl : bb < s.heap.size) (hw : LW g 79 h (cC g h (b, w)) 20 h2 (cM g h2 t) s H locs) (hI : INV b t D) (hl : lv_has ls 4 [(0, .ref bb), (1, .ref (h 0)), (2, .ref (h2 0)), (3, .int i)]) (hin : ∀ v : Int32, (v = 1 ∨ v = 2 ∨ v = 3 ∨ v = 4 ∨ v = 5) → vp_in (i + v) L) (hcs : cells ≤ room_1.cells ∧ slots ≤ room_1.slots) (go : GoL p l e s m args below meth c Q cells slots ls g h h2) : W p l e room_1 s m args below meth c H locs cells slots Q (F0 m 552 ls []) := by
  obtain ⟨r, b2, t2, D2, e1, e2, hI2⟩ := s_rule hI (xs (i + 1).toNatClampNeg)
  refine lv_aload_n X.1 X.2.1 dL_law_552 rfl (lv_at hl 1 rfl) ?_
  refine l_arg (lv := []) X hw hX hbl (lv_at hl 0 rfl) (lv_at hl 3 rfl) (hin 1 (by decide)) dL_law_553 dL_law_554 dL_law_555 rfl dL_law_556 dL_law_557 ?_
  refine L_Vl (k := 0) (As := [.int (xs (i + 1).toNatClampNeg)]) X hl.1 hw (c_X9_rule (w := w) e1) (by decide) (he_X9 g h _ _) rfl ⟨wq_32_17, wq_32_18, wq_32_19, wq_1_2, wq_32_20⟩ yo_X9_rule rfl ⟨Nat.le_of_ble_eq_true rfl, Nat.le_of_ble_eq_true rfl⟩ (Nat.le_of_ble_eq_true rfl) hcs dL_law_558 (fun H locs hw => ?_)
  refine lv_aload_n X.1 X.2.1 dL_law_561 rfl (lv_at hl 2 rfl) ?_
  refine l_arg (lv := []) X hw hX hbl (lv_at hl 0 rfl) (lv_at hl 3 rfl) (hin 1 (by decide)) dL_law_562 dL_law_563 dL_law_564 rfl dL_law_565 dL_law_566 ?_
  refine L_Vl (k := 0) (As := [.int (xs (i + 1).toNatClampNeg)]) X hl.1 hw.swap (c_X10_rule e2) (by decide) (he_X10 g h2 _) rfl ⟨wq_33_3, wq_33_4, wq_33_5, wq_1_5, wq_33_6⟩ yo_X10_rule rfl ⟨Nat.le_of_ble_eq_true rfl, Nat.le_of_ble_eq_true rfl⟩ (Nat.le_of_ble_eq_true rfl) hcs dL_law_567 (fun H locs hw => ?_)
  refine W.lcmp X.1 X.2.1 dL_law_570 ?_
  exact lv_if_eq (tgt := 1108) X.1 X.2.1 dL_law_571 (by decide) (fun _ => go _ _ _ _ _ _ hI2 hw.swap) (fun q => absurd ((lg_cmp_eq _ _).mpr rfl) q)
theorem cs_14 (X : Cx g p s m args c cL_law RL 4) (hX : va_X bb L xs s s.heap) (hbl : bb < s.heap.size) (hw : LW g 79 h (cC g h (b, w)) 20 h2 (cM g h2 t) s H locs) (hI : INV b t D) (hl : lv_has ls 4 [(0, .ref bb), (1, .ref (h 0)), (2, .ref (h2 0)), (3, .int i)]) (hin : ∀ v : Int32, (v = 1 ∨ v = 2 ∨ v = 3 ∨ v = 4 ∨ v = 5) → vp_in (i + v) L) (hcs : cells ≤ room_1.cells ∧ slots ≤ room_1.slots) (go : GoL p l e s m args below meth c Q cells slots ls g h h2) : W p l e room_1 s m args below meth c H locs cells slots Q (F0 m 576 ls []) := by
  obtain ⟨r, b2, D2, e1, e2, hI2⟩ := s_sets hI (xs (i + 1).toNatClampNeg)
  refine lv_aload_n X.1 X.2.1 dL_law_576 rfl (lv_at hl 1 rfl) ?_
  refine l_arg (lv := []) X hw hX hbl (lv_at hl 0 rfl) (lv_at hl 3 rfl) (hin 1 (by decide)) dL_law_577 dL_law_578 dL_law_579 rfl dL_law_580 dL_law_581 ?_
  refine L_Vi (k := 0) (As := [.int (xs (i + 1).toNatClampNeg)]) X hl.1 hw (c_X9_sets (w := w) e1) (by decide) (he_X9 g h _ _) rfl ⟨wq_33_11, wq_33_12, wq_33_13, wq_1_2, wq_33_14⟩ yo_X9_sets rfl ⟨Nat.le_of_ble_eq_true rfl, Nat.le_of_ble_eq_true rfl⟩ (Nat.le_of_ble_eq_true rfl) hcs dL_law_582 (fun H locs hw => ?_)
  refine lv_aload_n X.1 X.2.1 dL_law_585 rfl (lv_at hl 2 rfl) ?_
  refine l_arg (lv := []) X hw hX hbl (lv_at hl 0 rfl) (lv_at hl 3 rfl) (hin 1 (by decide)) dL_law_586 dL_law_587 dL_law_588 rfl dL_law_589 dL_law_590 ?_
  refine L_Vi (k := 0) (As := [.int (xs (i + 1).toNatClampNeg)]) X hl.1 hw.swap (c_X10_sets e2) (by decide) (he_X10 g h2 _) rfl ⟨wq_34_2, wq_34_3, wq_34_4, wq_1_5, wq_34_5⟩ yo_X10_sets rfl ⟨Nat.le_of_ble_eq_true rfl, Nat.le_of_ble_eq_true rfl⟩ (Nat.le_of_ble_eq_true rfl) hcs dL_law_591 (fun H locs hw => ?_)
  exact lv_icmp_eq (tgt := 1108) X.1 X.2.1 dL_law_594 (by decide) (fun _ => go _ _ _ _ _ _ hI2 hw.swap) (fun q => absurd rfl q)
theorem cs_15 (X : Cx g p s m args c cL_law RL 4) (hX : va_X bb L xs s s.heap) (hbl : bb < s.heap.size) (hw : LW g 79 h (cC g h (b, w)) 20 h2 (cM g h2 t) s H locs) (hI : INV b t D) (hl : lv_has ls 4 [(0, .ref bb), (1, .ref (h 0)), (2, .ref (h2 0)), (3, .int i)]) (hin : ∀ v : Int32, (v = 1 ∨ v = 2 ∨ v = 3 ∨ v = 4 ∨ v = 5) → vp_in (i + v) L) (hcs : cells ≤ room_1.cells ∧ slots ≤ room_1.slots) (go : GoL p l e s m args below meth c Q cells slots ls g h h2) : W p l e room_1 s m args below meth c H locs cells slots Q (F0 m 599 ls []) := by
  obtain ⟨r, b2, t2, D2, e1, e2, hI2⟩ := s_like hI (xs (i + 1).toNatClampNeg) (xs (i + 2).toNatClampNeg) (xs (i + 3).toNatClampNeg)
  refine lv_aload_n X.1 X.2.1 dL_law_599 rfl (lv_at hl 1 rfl) ?_
  refine l_arg (lv := []) X hw hX hbl (lv_at hl 0 rfl) (lv_at hl 3 rfl) (hin 1 (by decide)) dL_law_600 dL_law_601 dL_law_602 rfl dL_law_603 dL_law_604 ?_
  refine l_arg (lv := []) X hw hX hbl (lv_at hl 0 rfl) (lv_at hl 3 rfl) (hin 2 (by decide)) dL_law_605 dL_law_606 dL_law_607 rfl dL_law_608 dL_law_609 ?_
  refine l_arg (lv := []) X hw hX hbl (lv_at hl 0 rfl) (lv_at hl 3 rfl) (hin 3 (by decide)) dL_law_610 dL_law_611 dL_law_612 rfl dL_law_613 dL_law_614 ?_
  refine L_Vl (k := 0) (As := [.int (xs (i + 1).toNatClampNeg), .int (xs (i + 2).toNatClampNeg), .int (xs (i + 3).toNatClampNeg)]) X hl.1 hw (c_X9_like (w := w) e1) (by decide) (he_X9 g h _ _) rfl ⟨wq_34_10, wq_34_11, wq_34_12, wq_1_2, wq_34_13⟩ yo_X9_like rfl ⟨Nat.le_of_ble_eq_true rfl, Nat.le_of_ble_eq_true rfl⟩ (Nat.le_of_ble_eq_true rfl) hcs dL_law_615 (fun H locs hw => ?_)
  refine lv_aload_n X.1 X.2.1 dL_law_618 rfl (lv_at hl 2 rfl) ?_
  refine l_arg (lv := []) X hw hX hbl (lv_at hl 0 rfl) (lv_at hl 3 rfl) (hin 1 (by decide)) dL_law_619 dL_law_620 dL_law_621 rfl dL_law_622 dL_law_623 ?_
  refine l_arg (lv := []) X hw hX hbl (lv_at hl 0 rfl) (lv_at hl 3 rfl) (hin 2 (by decide)) dL_law_624 dL_law_625 dL_law_626 rfl dL_law_627 dL_law_628 ?_
  refine l_arg (lv := []) X hw hX hbl (lv_at hl 0 rfl) (lv_at hl 3 rfl) (hin 3 (by decide)) dL_law_629 dL_law_630 dL_law_631 rfl dL_law_632 dL_law_633 ?_
  refine L_Vl (k := 0) (As := [.int (xs (i + 1).toNatClampNeg), .int (xs (i + 2).toNatClampNeg), .int (xs (i + 3).toNatClampNeg)]) X hl.1 hw.swap (c_X10_like e2) (by decide) (he_X10 g h2 _) rfl ⟨wq_35_11, wq_35_12, wq_35_13, wq_1_5, wq_35_14⟩ yo_X10_like rfl ⟨Nat.le_of_ble_eq_true rfl, Nat.le_of_ble_eq_true rfl⟩ (Nat.le_of_ble_eq_true rfl) hcs dL_law_634 (fun H locs hw => ?_)
  refine W.lcmp X.1 X.2.1 dL_law_637 ?_
  exact lv_if_eq (tgt := 1108) X.1 X.2.1 dL_law_638 (by decide) (fun _ => go _ _ _ _ _ _ hI2 hw.swap) (fun q => absurd ((lg_cmp_eq _ _).mpr rfl) q)
theorem cs_16 (X : Cx g p s m args c cL_law RL 4) (hX : va_X bb L xs s s.heap) (hbl : bb < s.heap.size) (hw : LW g 79 h (cC g h (b, w)) 20 h2 (cM g h2 t) s H locs) (hI : INV b t D) (hl : lv_has ls 4 [(0, .ref bb), (1, .ref (h 0)), (2, .ref (h2 0)), (3, .int i)]) (hin : ∀ v : Int32, (v = 1 ∨ v = 2 ∨ v = 3 ∨ v = 4 ∨ v = 5) → vp_in (i + v) L) (hcs : cells ≤ room_1.cells ∧ slots ≤ room_1.slots) (go : GoL p l e s m args below meth c Q cells slots ls g h h2) : W p l e room_1 s m args below meth c H locs cells slots Q (F0 m 643 ls []) := by
  obtain ⟨r, e1, e2⟩ := s_least hI (xs (i + 1).toNatClampNeg)
  have hI2 := hI
  refine lv_aload_n X.1 X.2.1 dL_law_643 rfl (lv_at hl 1 rfl) ?_
  refine l_arg (lv := []) X hw hX hbl (lv_at hl 0 rfl) (lv_at hl 3 rfl) (hin 1 (by decide)) dL_law_644 dL_law_645 dL_law_646 rfl dL_law_647 dL_law_648 ?_
  refine L_Vi (k := 0) (As := [.int (xs (i + 1).toNatClampNeg)]) X hl.1 hw (c_X9_least (w := w) e1) (by decide) (he_X9 g h _ _) rfl ⟨wq_36_6, wq_36_7, wq_36_8, wq_1_2, wq_36_9⟩ yo_X9_least rfl ⟨Nat.le_of_ble_eq_true rfl, Nat.le_of_ble_eq_true rfl⟩ (Nat.le_of_ble_eq_true rfl) hcs dL_law_649 (fun H locs hw => ?_)
  refine lv_aload_n X.1 X.2.1 dL_law_652 rfl (lv_at hl 2 rfl) ?_
  refine l_arg (lv := []) X hw hX hbl (lv_at hl 0 rfl) (lv_at hl 3 rfl) (hin 1 (by decide)) dL_law_653 dL_law_654 dL_law_655 rfl dL_law_656 dL_law_657 ?_
  refine L_Vi (k := 0) (As := [.int (xs (i + 1).toNatClampNeg)]) X hl.1 hw.swap (c_X10_least e2) (by decide) (he_X10 g h2 _) rfl ⟨wq_36_22, wq_36_23, wq_37_0, wq_1_5, wq_37_1⟩ yo_X10_least rfl ⟨Nat.le_of_ble_eq_true rfl, Nat.le_of_ble_eq_true rfl⟩ (Nat.le_of_ble_eq_true rfl) hcs dL_law_658 (fun H locs hw => ?_)
  exact lv_icmp_eq (tgt := 1108) X.1 X.2.1 dL_law_661 (by decide) (fun _ => go _ _ _ _ _ _ hI2 hw.swap) (fun q => absurd rfl q)
theorem cs_17 (X : Cx g p s m args c cL_law RL 4) (hX : va_X bb L xs s s.heap) (hbl : bb < s.heap.size) (hw : LW g 79 h (cC g h (b, w)) 20 h2 (cM g h2 t) s H locs) (hI : INV b t D) (hl : lv_has ls 4 [(0, .ref bb), (1, .ref (h 0)), (2, .ref (h2 0)), (3, .int i)]) (hin : ∀ v : Int32, (v = 1 ∨ v = 2 ∨ v = 3 ∨ v = 4 ∨ v = 5) → vp_in (i + v) L) (hcs : cells ≤ room_1.cells ∧ slots ≤ room_1.slots) (go : GoL p l e s m args below meth c Q cells slots ls g h h2) : W p l e room_1 s m args below meth c H locs cells slots Q (F0 m 666 ls []) := by
  obtain ⟨r, b2, t2, D2, e1, e2, hI2⟩ := s_worth hI (xs (i + 1).toNatClampNeg) (xs (i + 2).toNatClampNeg)
  refine lv_aload_n X.1 X.2.1 dL_law_666 rfl (lv_at hl 1 rfl) ?_
  refine l_arg (lv := []) X hw hX hbl (lv_at hl 0 rfl) (lv_at hl 3 rfl) (hin 1 (by decide)) dL_law_667 dL_law_668 dL_law_669 rfl dL_law_670 dL_law_671 ?_
  refine l_arg (lv := []) X hw hX hbl (lv_at hl 0 rfl) (lv_at hl 3 rfl) (hin 2 (by decide)) dL_law_672 dL_law_673 dL_law_674 rfl dL_law_675 dL_law_676 ?_
  refine L_Vl (k := 0) (As := [.int (xs (i + 1).toNatClampNeg), .int (xs (i + 2).toNatClampNeg)]) X hl.1 hw (c_X9_worth (w := w) e1) (by decide) (he_X9 g h _ _) rfl ⟨wq_37_10, wq_37_11, wq_37_12, wq_1_2, wq_37_13⟩ yo_X9_worth rfl ⟨Nat.le_of_ble_eq_true rfl, Nat.le_of_ble_eq_true rfl⟩ (Nat.le_of_ble_eq_true rfl) hcs dL_law_677 (fun H locs hw => ?_)
  refine lv_aload_n X.1 X.2.1 dL_law_680 rfl (lv_at hl 2 rfl) ?_
  refine l_arg (lv := []) X hw hX hbl (lv_at hl 0 rfl) (lv_at hl 3 rfl) (hin 1 (by decide)) dL_law_681 dL_law_682 dL_law_683 rfl dL_law_684 dL_law_685 ?_
  refine l_arg (lv := []) X hw hX hbl (lv_at hl 0 rfl) (lv_at hl 3 rfl) (hin 2 (by decide)) dL_law_686 dL_law_687 dL_law_688 rfl dL_law_689 dL_law_690 ?_
  refine L_Vl (k := 0) (As := [.int (xs (i + 1).toNatClampNeg), .int (xs (i + 2).toNatClampNeg)]) X hl.1 hw.swap (c_X10_worth e2) (by decide) (he_X10 g h2 _) rfl ⟨wq_37_19, wq_37_20, wq_37_21, wq_1_5, wq_37_22⟩ yo_X10_worth rfl ⟨Nat.le_of_ble_eq_true rfl, Nat.le_of_ble_eq_true rfl⟩ (Nat.le_of_ble_eq_true rfl) hcs dL_law_691 (fun H locs hw => ?_)
  refine W.lcmp X.1 X.2.1 dL_law_694 ?_
  exact lv_if_eq (tgt := 1108) X.1 X.2.1 dL_law_695 (by decide) (fun _ => go _ _ _ _ _ _ hI2 hw.swap) (fun q => absurd ((lg_cmp_eq _ _).mpr rfl) q)
theorem cs_18 (X : Cx g p s m args c cL_law RL 4) (hX : va_X bb L xs s s.heap) (hbl : bb < s.heap.size) (hw : LW g 79 h (cC g h (b, w)) 20 h2 (cM g h2 t) s H locs) (hI : INV b t D) (hl : lv_has ls 4 [(0, .ref bb), (1, .ref (h 0)), (2, .ref (h2 0)), (3, .int i)]) (hin : ∀ v : Int32, (v = 1 ∨ v = 2 ∨ v = 3 ∨ v = 4 ∨ v = 5) → vp_in (i + v) L) (hcs : cells ≤ room_1.cells ∧ slots ≤ room_1.slots) (go : GoL p l e s m args below meth c Q cells slots ls g h h2) : W p l e room_1 s m args below meth c H locs cells slots Q (F0 m 700 ls []) := by
  obtain ⟨r, b2, t2, D2, e1, e2, hI2⟩ := s_worthiest hI 
  refine lv_aload_n X.1 X.2.1 dL_law_700 rfl (lv_at hl 1 rfl) ?_
  refine L_Vi (k := 0) (As := []) X hl.1 hw (c_X9_worthiest (w := w) e1) (by decide) (he_X9 g h _ _) rfl ⟨wq_38_7, wq_38_8, wq_38_9, wq_1_2, wq_38_10⟩ yo_X9_worthiest rfl ⟨Nat.le_of_ble_eq_true rfl, Nat.le_of_ble_eq_true rfl⟩ (Nat.le_of_ble_eq_true rfl) hcs dL_law_701 (fun H locs hw => ?_)
  refine lv_aload_n X.1 X.2.1 dL_law_704 rfl (lv_at hl 2 rfl) ?_
  refine L_Vi (k := 0) (As := []) X hl.1 hw.swap (c_X10_worthiest e2) (by decide) (he_X10 g h2 _) rfl ⟨wq_38_18, wq_38_19, wq_38_20, wq_1_5, wq_38_21⟩ yo_X10_worthiest rfl ⟨Nat.le_of_ble_eq_true rfl, Nat.le_of_ble_eq_true rfl⟩ (Nat.le_of_ble_eq_true rfl) hcs dL_law_705 (fun H locs hw => ?_)
  exact lv_icmp_eq (tgt := 1108) X.1 X.2.1 dL_law_708 (by decide) (fun _ => go _ _ _ _ _ _ hI2 hw.swap) (fun q => absurd rfl q)
theorem cs_19 (X : Cx g p s m args c cL_law RL 4) (hX : va_X bb L xs s s.heap) (hbl : bb < s.heap.size) (hw : LW g 79 h (cC g h (b, w)) 20 h2 (cM g h2 t) s H locs) (hI : INV b t D) (hl : lv_has ls 4 [(0, .ref bb), (1, .ref (h 0)), (2, .ref (h2 0)), (3, .int i)]) (hin : ∀ v : Int32, (v = 1 ∨ v = 2 ∨ v = 3 ∨ v = 4 ∨ v = 5) → vp_in (i + v) L) (hcs : cells ≤ room_1.cells ∧ slots ≤ room_1.slots) (go : GoL p l e s m args below meth c Q cells slots ls g h h2) : W p l e room_1 s m args below meth c H locs cells slots Q (F0 m 713 ls []) := by
  obtain ⟨r, b2, t2, D2, e1, e2, hI2⟩ := s_better hI (xs (i + 1).toNatClampNeg) (xs (i + 2).toNatClampNeg) (xs (i + 3).toNatClampNeg) (xs (i + 4).toNatClampNeg)
  refine lv_aload_n X.1 X.2.1 dL_law_713 rfl (lv_at hl 1 rfl) ?_
  refine l_arg (lv := []) X hw hX hbl (lv_at hl 0 rfl) (lv_at hl 3 rfl) (hin 1 (by decide)) dL_law_714 dL_law_715 dL_law_716 rfl dL_law_717 dL_law_718 ?_
  refine l_arg (lv := []) X hw hX hbl (lv_at hl 0 rfl) (lv_at hl 3 rfl) (hin 2 (by decide)) dL_law_719 dL_law_720 dL_law_721 rfl dL_law_722 dL_law_723 ?_
  refine l_arg (lv := []) X hw hX hbl (lv_at hl 0 rfl) (lv_at hl 3 rfl) (hin 3 (by decide)) dL_law_724 dL_law_725 dL_law_726 rfl dL_law_727 dL_law_728 ?_
  refine l_arg (lv := []) X hw hX hbl (lv_at hl 0 rfl) (lv_at hl 3 rfl) (hin 4 (by decide)) dL_law_729 dL_law_730 dL_law_731 rfl dL_law_732 dL_law_733 ?_
  refine L_Vl (k := 0) (As := [.int (xs (i + 1).toNatClampNeg), .int (xs (i + 2).toNatClampNeg), .int (xs (i + 3).toNatClampNeg), .int (xs (i + 4).toNatClampNeg)]) X hl.1 hw (c_X9_better (w := w) e1) (by decide) (he_X9 g h _ _) rfl ⟨wq_39_2, wq_39_3, wq_39_4, wq_1_2, wq_39_5⟩ yo_X9_better rfl ⟨Nat.le_of_ble_eq_true rfl, Nat.le_of_ble_eq_true rfl⟩ (Nat.le_of_ble_eq_true rfl) hcs dL_law_734 (fun H locs hw => ?_)
  refine lv_aload_n X.1 X.2.1 dL_law_737 rfl (lv_at hl 2 rfl) ?_
  refine l_arg (lv := []) X hw hX hbl (lv_at hl 0 rfl) (lv_at hl 3 rfl) (hin 1 (by decide)) dL_law_738 dL_law_739 dL_law_740 rfl dL_law_741 dL_law_742 ?_
  refine l_arg (lv := []) X hw hX hbl (lv_at hl 0 rfl) (lv_at hl 3 rfl) (hin 2 (by decide)) dL_law_743 dL_law_744 dL_law_745 rfl dL_law_746 dL_law_747 ?_
  refine l_arg (lv := []) X hw hX hbl (lv_at hl 0 rfl) (lv_at hl 3 rfl) (hin 3 (by decide)) dL_law_748 dL_law_749 dL_law_750 rfl dL_law_751 dL_law_752 ?_
  refine l_arg (lv := []) X hw hX hbl (lv_at hl 0 rfl) (lv_at hl 3 rfl) (hin 4 (by decide)) dL_law_753 dL_law_754 dL_law_755 rfl dL_law_756 dL_law_757 ?_
  refine L_Vl (k := 0) (As := [.int (xs (i + 1).toNatClampNeg), .int (xs (i + 2).toNatClampNeg), .int (xs (i + 3).toNatClampNeg), .int (xs (i + 4).toNatClampNeg)]) X hl.1 hw.swap (c_X10_better e2) (by decide) (he_X10 g h2 _) rfl ⟨wq_39_7, wq_39_8, wq_39_9, wq_1_5, wq_39_10⟩ yo_X10_better rfl ⟨Nat.le_of_ble_eq_true rfl, Nat.le_of_ble_eq_true rfl⟩ (Nat.le_of_ble_eq_true rfl) hcs dL_law_758 (fun H locs hw => ?_)
  refine W.lcmp X.1 X.2.1 dL_law_761 ?_
  exact lv_if_eq (tgt := 1108) X.1 X.2.1 dL_law_762 (by decide) (fun _ => go _ _ _ _ _ _ hI2 hw.swap) (fun q => absurd ((lg_cmp_eq _ _).mpr rfl) q)
theorem cs_20 (X : Cx g p s m args c cL_law RL 4) (hX : va_X bb L xs s s.heap) (hbl : bb < s.heap.size) (hw : LW g 79 h (cC g h (b, w)) 20 h2 (cM g h2 t) s H locs) (hI : INV b t D) (hl : lv_has ls 4 [(0, .ref bb), (1, .ref (h 0)), (2, .ref (h2 0)), (3, .int i)]) (hin : ∀ v : Int32, (v = 1 ∨ v = 2 ∨ v = 3 ∨ v = 4 ∨ v = 5) → vp_in (i + v) L) (hcs : cells ≤ room_1.cells ∧ slots ≤ room_1.slots) (go : GoL p l e s m args below meth c Q cells slots ls g h h2) : W p l e room_1 s m args below meth c H locs cells slots Q (F0 m 767 ls []) := by
  obtain ⟨r, b2, t2, D2, e1, e2, hI2⟩ := s_type hI (xs (i + 1).toNatClampNeg)
  refine lv_aload_n X.1 X.2.1 dL_law_767 rfl (lv_at hl 1 rfl) ?_
  refine l_arg (lv := []) X hw hX hbl (lv_at hl 0 rfl) (lv_at hl 3 rfl) (hin 1 (by decide)) dL_law_768 dL_law_769 dL_law_770 rfl dL_law_771 dL_law_772 ?_
  refine L_Vi (k := 0) (As := [.int (xs (i + 1).toNatClampNeg)]) X hl.1 hw (c_X9_type (w := w) e1) (by decide) (he_X9 g h _ _) rfl ⟨wq_39_15, wq_39_16, wq_39_17, wq_1_2, wq_39_18⟩ yo_X9_type rfl ⟨Nat.le_of_ble_eq_true rfl, Nat.le_of_ble_eq_true rfl⟩ (Nat.le_of_ble_eq_true rfl) hcs dL_law_773 (fun H locs hw => ?_)
  refine lv_aload_n X.1 X.2.1 dL_law_776 rfl (lv_at hl 2 rfl) ?_
  refine l_arg (lv := []) X hw hX hbl (lv_at hl 0 rfl) (lv_at hl 3 rfl) (hin 1 (by decide)) dL_law_777 dL_law_778 dL_law_779 rfl dL_law_780 dL_law_781 ?_
  refine L_Vi (k := 0) (As := [.int (xs (i + 1).toNatClampNeg)]) X hl.1 hw.swap (c_X10_type e2) (by decide) (he_X10 g h2 _) rfl ⟨wq_40_4, wq_40_5, wq_40_6, wq_1_5, wq_40_7⟩ yo_X10_type rfl ⟨Nat.le_of_ble_eq_true rfl, Nat.le_of_ble_eq_true rfl⟩ (Nat.le_of_ble_eq_true rfl) hcs dL_law_782 (fun H locs hw => ?_)
  exact lv_icmp_eq (tgt := 1108) X.1 X.2.1 dL_law_785 (by decide) (fun _ => go _ _ _ _ _ _ hI2 hw.swap) (fun q => absurd rfl q)
theorem cs_21 (X : Cx g p s m args c cL_law RL 4) (hX : va_X bb L xs s s.heap) (hbl : bb < s.heap.size) (hw : LW g 79 h (cC g h (b, w)) 20 h2 (cM g h2 t) s H locs) (hI : INV b t D) (hl : lv_has ls 4 [(0, .ref bb), (1, .ref (h 0)), (2, .ref (h2 0)), (3, .int i)]) (hin : ∀ v : Int32, (v = 1 ∨ v = 2 ∨ v = 3 ∨ v = 4 ∨ v = 5) → vp_in (i + v) L) (hcs : cells ≤ room_1.cells ∧ slots ≤ room_1.slots) (go : GoL p l e s m args below meth c Q cells slots ls g h h2) : W p l e room_1 s m args below meth c H locs cells slots Q (F0 m 790 ls []) := by
  obtain ⟨r, b2, t2, D2, e1, e2, hI2⟩ := s_wipe hI 
  refine lv_aload_n X.1 X.2.1 dL_law_790 rfl (lv_at hl 1 rfl) ?_
  refine L_Vi (k := 0) (As := []) X hl.1 hw (c_X9_wipe (w := w) e1) (by decide) (he_X9 g h _ _) rfl ⟨wq_40_10, wq_40_11, wq_40_12, wq_1_2, wq_40_13⟩ yo_X9_wipe rfl ⟨Nat.le_of_ble_eq_true rfl, Nat.le_of_ble_eq_true rfl⟩ (Nat.le_of_ble_eq_true rfl) hcs dL_law_791 (fun H locs hw => ?_)
  refine lv_aload_n X.1 X.2.1 dL_law_794 rfl (lv_at hl 2 rfl) ?_
  refine L_Vi (k := 0) (As := []) X hl.1 hw.swap (c_X10_wipe e2) (by decide) (he_X10 g h2 _) rfl ⟨wq_40_18, wq_40_19, wq_40_20, wq_1_5, wq_40_21⟩ yo_X10_wipe rfl ⟨Nat.le_of_ble_eq_true rfl, Nat.le_of_ble_eq_true rfl⟩ (Nat.le_of_ble_eq_true rfl) hcs dL_law_795 (fun H locs hw => ?_)
  exact lv_icmp_eq (tgt := 1108) X.1 X.2.1 dL_law_798 (by decide) (fun _ => go _ _ _ _ _ _ hI2 hw.swap) (fun q => absurd rfl q)
theorem cs_22 (X : Cx g p s m args c cL_law RL 4) (hX : va_X bb L xs s s.heap) (hbl : bb < s.heap.size) (hw : LW g 79 h (cC g h (b, w)) 20 h2 (cM g h2 t) s H locs) (hI : INV b t D) (hl : lv_has ls 4 [(0, .ref bb), (1, .ref (h 0)), (2, .ref (h2 0)), (3, .int i)]) (hin : ∀ v : Int32, (v = 1 ∨ v = 2 ∨ v = 3 ∨ v = 4 ∨ v = 5) → vp_in (i + v) L) (hcs : cells ≤ room_1.cells ∧ slots ≤ room_1.slots) (go : GoL p l e s m args below meth c Q cells slots ls g h h2) : W p l e room_1 s m args below meth c H locs cells slots Q (F0 m 803 ls []) := by
  obtain ⟨r, b2, t2, D2, e1, e2, hI2⟩ := s_obey hI 
  refine lv_aload_n X.1 X.2.1 dL_law_803 rfl (lv_at hl 1 rfl) ?_
  refine L_Vi (k := 0) (As := []) X hl.1 hw (c_X9_obey (w := w) e1) (by decide) (he_X9 g h _ _) rfl ⟨wq_40_22, wq_40_23, wq_41_0, wq_1_2, wq_41_1⟩ yo_X9_obey rfl ⟨Nat.le_of_ble_eq_true rfl, Nat.le_of_ble_eq_true rfl⟩ (Nat.le_of_ble_eq_true rfl) hcs dL_law_804 (fun H locs hw => ?_)
  refine lv_aload_n X.1 X.2.1 dL_law_807 rfl (lv_at hl 2 rfl) ?_
  refine L_Vi (k := 0) (As := []) X hl.1 hw.swap (c_X10_obey e2) (by decide) (he_X10 g h2 _) rfl ⟨wq_45_2, wq_45_3, wq_45_4, wq_1_5, wq_45_5⟩ yo_X10_obey rfl ⟨Nat.le_of_ble_eq_true rfl, Nat.le_of_ble_eq_true rfl⟩ (Nat.le_of_ble_eq_true rfl) hcs dL_law_808 (fun H locs hw => ?_)
  exact lv_icmp_eq (tgt := 1108) X.1 X.2.1 dL_law_811 (by decide) (fun _ => go _ _ _ _ _ _ hI2 hw.swap) (fun q => absurd rfl q)
theorem cs_23 (X : Cx g p s m args c cL_law RL 4) (hX : va_X bb L xs s s.heap) (hbl : bb < s.heap.size) (hw : LW g 79 h (cC g h (b, w)) 20 h2 (cM g h2 t) s H locs) (hI : INV b t D) (hl : lv_has ls 4 [(0, .ref bb), (1, .ref (h 0)), (2, .ref (h2 0)), (3, .int i)]) (hin : ∀ v : Int32, (v = 1 ∨ v = 2 ∨ v = 3 ∨ v = 4 ∨ v = 5) → vp_in (i + v) L) (hcs : cells ≤ room_1.cells ∧ slots ≤ room_1.slots) (go : GoL p l e s m args below meth c Q cells slots ls g h h2) : W p l e room_1 s m args below meth c H locs cells slots Q (F0 m 816 ls []) := by
  obtain ⟨r, e1, e2⟩ := s_wrong hI 
  have hI2 := hI
  refine lv_aload_n X.1 X.2.1 dL_law_816 rfl (lv_at hl 1 rfl) ?_
  refine L_Vi (k := 0) (As := []) X hl.1 hw (c_X9_wrong (w := w) e1) (by decide) (he_X9 g h _ _) rfl ⟨wq_46_3, wq_46_4, wq_46_5, wq_1_2, wq_46_6⟩ yo_X9_wrong rfl ⟨Nat.le_of_ble_eq_true rfl, Nat.le_of_ble_eq_true rfl⟩ (Nat.le_of_ble_eq_true rfl) hcs dL_law_817 (fun H locs hw => ?_)
  refine lv_aload_n X.1 X.2.1 dL_law_820 rfl (lv_at hl 2 rfl) ?_
  refine L_Vi (k := 0) (As := []) X hl.1 hw.swap (c_X10_wrong e2) (by decide) (he_X10 g h2 _) rfl ⟨wq_46_11, wq_46_12, wq_46_13, wq_1_5, wq_46_14⟩ yo_X10_wrong rfl ⟨Nat.le_of_ble_eq_true rfl, Nat.le_of_ble_eq_true rfl⟩ (Nat.le_of_ble_eq_true rfl) hcs dL_law_821 (fun H locs hw => ?_)
  exact lv_icmp_eq (tgt := 1108) X.1 X.2.1 dL_law_824 (by decide) (fun _ => go _ _ _ _ _ _ hI2 hw.swap) (fun q => absurd rfl q)
theorem cs_24 (X : Cx g p s m args c cL_law RL 4) (hX : va_X bb L xs s s.heap) (hbl : bb < s.heap.size) (hw : LW g 79 h (cC g h (b, w)) 20 h2 (cM g h2 t) s H locs) (hI : INV b t D) (hl : lv_has ls 4 [(0, .ref bb), (1, .ref (h 0)), (2, .ref (h2 0)), (3, .int i)]) (hin : ∀ v : Int32, (v = 1 ∨ v = 2 ∨ v = 3 ∨ v = 4 ∨ v = 5) → vp_in (i + v) L) (hcs : cells ≤ room_1.cells ∧ slots ≤ room_1.slots) (go : GoL p l e s m args below meth c Q cells slots ls g h h2) : W p l e room_1 s m args below meth c H locs cells slots Q (F0 m 829 ls []) := by
  obtain ⟨r, b2, t2, D2, e1, e2, hI2⟩ := s_sheet hI (xs (i + 1).toNatClampNeg) (xs (i + 2).toNatClampNeg)
  refine lv_aload_n X.1 X.2.1 dL_law_829 rfl (lv_at hl 1 rfl) ?_
  refine l_arg (lv := []) X hw hX hbl (lv_at hl 0 rfl) (lv_at hl 3 rfl) (hin 1 (by decide)) dL_law_830 dL_law_831 dL_law_832 rfl dL_law_833 dL_law_834 ?_
  refine l_arg (lv := []) X hw hX hbl (lv_at hl 0 rfl) (lv_at hl 3 rfl) (hin 2 (by decide)) dL_law_835 dL_law_836 dL_law_837 rfl dL_law_838 dL_law_839 ?_
  refine L_Vi (k := 0) (As := [.int (xs (i + 1).toNatClampNeg), .int (xs (i + 2).toNatClampNeg)]) X hl.1 hw (c_X9_sheet (w := w) e1) (by decide) (he_X9 g h _ _) rfl ⟨wq_46_15, wq_46_16, wq_46_17, wq_1_2, wq_46_18⟩ yo_X9_sheet rfl ⟨Nat.le_of_ble_eq_true rfl, Nat.le_of_ble_eq_true rfl⟩ (Nat.le_of_ble_eq_true rfl) hcs dL_law_840 (fun H locs hw => ?_)
  refine lv_aload_n X.1 X.2.1 dL_law_843 rfl (lv_at hl 2 rfl) ?_
  refine l_arg (lv := []) X hw hX hbl (lv_at hl 0 rfl) (lv_at hl 3 rfl) (hin 1 (by decide)) dL_law_844 dL_law_845 dL_law_846 rfl dL_law_847 dL_law_848 ?_
  refine l_arg (lv := []) X hw hX hbl (lv_at hl 0 rfl) (lv_at hl 3 rfl) (hin 2 (by decide)) dL_law_849 dL_law_850 dL_law_851 rfl dL_law_852 dL_law_853 ?_
  refine L_Vi (k := 0) (As := [.int (xs (i + 1).toNatClampNeg), .int (xs (i + 2).toNatClampNeg)]) X hl.1 hw.swap (c_X10_sheet e2) (by decide) (he_X10 g h2 _) rfl ⟨wq_47_9, wq_47_10, wq_47_11, wq_1_5, wq_47_12⟩ yo_X10_sheet rfl ⟨Nat.le_of_ble_eq_true rfl, Nat.le_of_ble_eq_true rfl⟩ (Nat.le_of_ble_eq_true rfl) hcs dL_law_854 (fun H locs hw => ?_)
  exact lv_icmp_eq (tgt := 1108) X.1 X.2.1 dL_law_857 (by decide) (fun _ => go _ _ _ _ _ _ hI2 hw.swap) (fun q => absurd rfl q)
theorem cs_25 (X : Cx g p s m args c cL_law RL 4) (hX : va_X bb L xs s s.heap) (hbl : bb < s.heap.size) (hw : LW g 79 h (cC g h (b, w)) 20 h2 (cM g h2 t) s H locs) (hI : INV b t D) (hl : lv_has ls 4 [(0, .ref bb), (1, .ref (h 0)), (2, .ref (h2 0)), (3, .int i)]) (hin : ∀ v : Int32, (v = 1 ∨ v = 2 ∨ v = 3 ∨ v = 4 ∨ v = 5) → vp_in (i + v) L) (hcs : cells ≤ room_1.cells ∧ slots ≤ room_1.slots) (go : GoL p l e s m args below meth c Q cells slots ls g h h2) : W p l e room_1 s m args below meth c H locs cells slots Q (F0 m 862 ls []) := by
  obtain ⟨r, b2, t2, D2, e1, e2, hI2⟩ := s_lose hI (xs (i + 1).toNatClampNeg)
  refine lv_aload_n X.1 X.2.1 dL_law_862 rfl (lv_at hl 1 rfl) ?_
  refine l_arg (lv := []) X hw hX hbl (lv_at hl 0 rfl) (lv_at hl 3 rfl) (hin 1 (by decide)) dL_law_863 dL_law_864 dL_law_865 rfl dL_law_866 dL_law_867 ?_
  refine L_Vi (k := 0) (As := [.int (xs (i + 1).toNatClampNeg)]) X hl.1 hw (c_X9_lose (w := w) e1) (by decide) (he_X9 g h _ _) rfl ⟨wq_47_21, wq_47_22, wq_47_23, wq_1_2, wq_48_0⟩ yo_X9_lose rfl ⟨Nat.le_of_ble_eq_true rfl, Nat.le_of_ble_eq_true rfl⟩ (Nat.le_of_ble_eq_true rfl) hcs dL_law_868 (fun H locs hw => ?_)
  refine lv_aload_n X.1 X.2.1 dL_law_871 rfl (lv_at hl 2 rfl) ?_
  refine l_arg (lv := []) X hw hX hbl (lv_at hl 0 rfl) (lv_at hl 3 rfl) (hin 1 (by decide)) dL_law_872 dL_law_873 dL_law_874 rfl dL_law_875 dL_law_876 ?_
  refine L_Vi (k := 0) (As := [.int (xs (i + 1).toNatClampNeg)]) X hl.1 hw.swap (c_X10_lose e2) (by decide) (he_X10 g h2 _) rfl ⟨wq_48_18, wq_48_19, wq_48_20, wq_1_5, wq_48_21⟩ yo_X10_lose rfl ⟨Nat.le_of_ble_eq_true rfl, Nat.le_of_ble_eq_true rfl⟩ (Nat.le_of_ble_eq_true rfl) hcs dL_law_877 (fun H locs hw => ?_)
  exact lv_icmp_eq (tgt := 1108) X.1 X.2.1 dL_law_880 (by decide) (fun _ => go _ _ _ _ _ _ hI2 hw.swap) (fun q => absurd rfl q)
theorem cs_26 (X : Cx g p s m args c cL_law RL 4) (hX : va_X bb L xs s s.heap) (hbl : bb < s.heap.size) (hw : LW g 79 h (cC g h (b, w)) 20 h2 (cM g h2 t) s H locs) (hI : INV b t D) (hl : lv_has ls 4 [(0, .ref bb), (1, .ref (h 0)), (2, .ref (h2 0)), (3, .int i)]) (hin : ∀ v : Int32, (v = 1 ∨ v = 2 ∨ v = 3 ∨ v = 4 ∨ v = 5) → vp_in (i + v) L) (hcs : cells ≤ room_1.cells ∧ slots ≤ room_1.slots) (go : GoL p l e s m args below meth c Q cells slots ls g h h2) : W p l e room_1 s m args below meth c H locs cells slots Q (F0 m 885 ls []) := by
  obtain ⟨r, b2, t2, D2, e1, e2, hI2⟩ := s_lay hI (xs (i + 1).toNatClampNeg) (xs (i + 2).toNatClampNeg) (xs (i + 3).toNatClampNeg)
  refine lv_aload_n X.1 X.2.1 dL_law_885 rfl (lv_at hl 1 rfl) ?_
  refine l_arg (lv := []) X hw hX hbl (lv_at hl 0 rfl) (lv_at hl 3 rfl) (hin 1 (by decide)) dL_law_886 dL_law_887 dL_law_888 rfl dL_law_889 dL_law_890 ?_
  refine l_arg (lv := []) X hw hX hbl (lv_at hl 0 rfl) (lv_at hl 3 rfl) (hin 2 (by decide)) dL_law_891 dL_law_892 dL_law_893 rfl dL_law_894 dL_law_895 ?_
  refine l_arg (lv := []) X hw hX hbl (lv_at hl 0 rfl) (lv_at hl 3 rfl) (hin 3 (by decide)) dL_law_896 dL_law_897 dL_law_898 rfl dL_law_899 dL_law_900 ?_
  refine L_Vi (k := 0) (As := [.int (xs (i + 1).toNatClampNeg), .int (xs (i + 2).toNatClampNeg), .int (xs (i + 3).toNatClampNeg)]) X hl.1 hw (c_X9_lay (w := w) e1) (by decide) (he_X9 g h _ _) rfl ⟨wq_48_22, wq_48_23, wq_49_0, wq_1_2, wq_49_1⟩ yo_X9_lay rfl ⟨Nat.le_of_ble_eq_true rfl, Nat.le_of_ble_eq_true rfl⟩ (Nat.le_of_ble_eq_true rfl) hcs dL_law_901 (fun H locs hw => ?_)
  refine lv_aload_n X.1 X.2.1 dL_law_904 rfl (lv_at hl 2 rfl) ?_
  refine l_arg (lv := []) X hw hX hbl (lv_at hl 0 rfl) (lv_at hl 3 rfl) (hin 1 (by decide)) dL_law_905 dL_law_906 dL_law_907 rfl dL_law_908 dL_law_909 ?_
  refine l_arg (lv := []) X hw hX hbl (lv_at hl 0 rfl) (lv_at hl 3 rfl) (hin 2 (by decide)) dL_law_910 dL_law_911 dL_law_912 rfl dL_law_913 dL_law_914 ?_
  refine l_arg (lv := []) X hw hX hbl (lv_at hl 0 rfl) (lv_at hl 3 rfl) (hin 3 (by decide)) dL_law_915 dL_law_916 dL_law_917 rfl dL_law_918 dL_law_919 ?_
  refine L_Vi (k := 0) (As := [.int (xs (i + 1).toNatClampNeg), .int (xs (i + 2).toNatClampNeg), .int (xs (i + 3).toNatClampNeg)]) X hl.1 hw.swap (c_X10_lay e2) (by decide) (he_X10 g h2 _) rfl ⟨wq_49_15, wq_49_16, wq_49_17, wq_1_5, wq_49_18⟩ yo_X10_lay rfl ⟨Nat.le_of_ble_eq_true rfl, Nat.le_of_ble_eq_true rfl⟩ (Nat.le_of_ble_eq_true rfl) hcs dL_law_920 (fun H locs hw => ?_)
  exact lv_icmp_eq (tgt := 1108) X.1 X.2.1 dL_law_923 (by decide) (fun _ => go _ _ _ _ _ _ hI2 hw.swap) (fun q => absurd rfl q)
theorem cs_27 (X : Cx g p s m args c cL_law RL 4) (hX : va_X bb L xs s s.heap) (hbl : bb < s.heap.size) (hw : LW g 79 h (cC g h (b, w)) 20 h2 (cM g h2 t) s H locs) (hI : INV b t D) (hl : lv_has ls 4 [(0, .ref bb), (1, .ref (h 0)), (2, .ref (h2 0)), (3, .int i)]) (hin : ∀ v : Int32, (v = 1 ∨ v = 2 ∨ v = 3 ∨ v = 4 ∨ v = 5) → vp_in (i + v) L) (hcs : cells ≤ room_1.cells ∧ slots ≤ room_1.slots) (go : GoL p l e s m args below meth c Q cells slots ls g h h2) : W p l e room_1 s m args below meth c H locs cells slots Q (F0 m 928 ls []) := by
  obtain ⟨r, b2, t2, D2, e1, e2, hI2⟩ := s_get hI (xs (i + 1).toNatClampNeg) (xs (i + 2).toNatClampNeg)
  refine lv_aload_n X.1 X.2.1 dL_law_928 rfl (lv_at hl 1 rfl) ?_
  refine l_arg (lv := []) X hw hX hbl (lv_at hl 0 rfl) (lv_at hl 3 rfl) (hin 1 (by decide)) dL_law_929 dL_law_930 dL_law_931 rfl dL_law_932 dL_law_933 ?_
  refine l_arg (lv := []) X hw hX hbl (lv_at hl 0 rfl) (lv_at hl 3 rfl) (hin 2 (by decide)) dL_law_934 dL_law_935 dL_law_936 rfl dL_law_937 dL_law_938 ?_
  refine L_Vl (k := 0) (As := [.int (xs (i + 1).toNatClampNeg), .int (xs (i + 2).toNatClampNeg)]) X hl.1 hw (c_X9_get (w := w) e1) (by decide) (he_X9 g h _ _) rfl ⟨wq_49_23, wq_50_0, wq_50_1, wq_1_2, wq_50_2⟩ yo_X9_get rfl ⟨Nat.le_of_ble_eq_true rfl, Nat.le_of_ble_eq_true rfl⟩ (Nat.le_of_ble_eq_true rfl) hcs dL_law_939 (fun H locs hw => ?_)
  refine lv_aload_n X.1 X.2.1 dL_law_942 rfl (lv_at hl 2 rfl) ?_
  refine l_arg (lv := []) X hw hX hbl (lv_at hl 0 rfl) (lv_at hl 3 rfl) (hin 1 (by decide)) dL_law_943 dL_law_944 dL_law_945 rfl dL_law_946 dL_law_947 ?_
  refine l_arg (lv := []) X hw hX hbl (lv_at hl 0 rfl) (lv_at hl 3 rfl) (hin 2 (by decide)) dL_law_948 dL_law_949 dL_law_950 rfl dL_law_951 dL_law_952 ?_
  refine L_Vl (k := 0) (As := [.int (xs (i + 1).toNatClampNeg), .int (xs (i + 2).toNatClampNeg)]) X hl.1 hw.swap (c_X10_get e2) (by decide) (he_X10 g h2 _) rfl ⟨wq_50_7, wq_50_8, wq_50_9, wq_1_5, wq_50_10⟩ yo_X10_get rfl ⟨Nat.le_of_ble_eq_true rfl, Nat.le_of_ble_eq_true rfl⟩ (Nat.le_of_ble_eq_true rfl) hcs dL_law_953 (fun H locs hw => ?_)
  refine W.lcmp X.1 X.2.1 dL_law_956 ?_
  exact lv_if_eq (tgt := 1108) X.1 X.2.1 dL_law_957 (by decide) (fun _ => go _ _ _ _ _ _ hI2 hw.swap) (fun q => absurd ((lg_cmp_eq _ _).mpr rfl) q)
theorem cs_28 (X : Cx g p s m args c cL_law RL 4) (hX : va_X bb L xs s s.heap) (hbl : bb < s.heap.size) (hw : LW g 79 h (cC g h (b, w)) 20 h2 (cM g h2 t) s H locs) (hI : INV b t D) (hl : lv_has ls 4 [(0, .ref bb), (1, .ref (h 0)), (2, .ref (h2 0)), (3, .int i)]) (hin : ∀ v : Int32, (v = 1 ∨ v = 2 ∨ v = 3 ∨ v = 4 ∨ v = 5) → vp_in (i + v) L) (hcs : cells ≤ room_1.cells ∧ slots ≤ room_1.slots) (go : GoL p l e s m args below meth c Q cells slots ls g h h2) : W p l e room_1 s m args below meth c H locs cells slots Q (F0 m 962 ls []) := by
  obtain ⟨r, b2, t2, D2, e1, e2, hI2⟩ := s_copy hI (xs (i + 1).toNatClampNeg) (xs (i + 2).toNatClampNeg) (xs (i + 3).toNatClampNeg) (xs (i + 4).toNatClampNeg) (xs (i + 5).toNatClampNeg)
  refine lv_aload_n X.1 X.2.1 dL_law_962 rfl (lv_at hl 1 rfl) ?_
  refine l_arg (lv := []) X hw hX hbl (lv_at hl 0 rfl) (lv_at hl 3 rfl) (hin 1 (by decide)) dL_law_963 dL_law_964 dL_law_965 rfl dL_law_966 dL_law_967 ?_
  refine l_arg (lv := []) X hw hX hbl (lv_at hl 0 rfl) (lv_at hl 3 rfl) (hin 2 (by decide)) dL_law_968 dL_law_969 dL_law_970 rfl dL_law_971 dL_law_972 ?_
  refine l_arg (lv := []) X hw hX hbl (lv_at hl 0 rfl) (lv_at hl 3 rfl) (hin 3 (by decide)) dL_law_973 dL_law_974 dL_law_975 rfl dL_law_976 dL_law_977 ?_
  refine l_arg (lv := []) X hw hX hbl (lv_at hl 0 rfl) (lv_at hl 3 rfl) (hin 4 (by decide)) dL_law_978 dL_law_979 dL_law_980 rfl dL_law_981 dL_law_982 ?_
  refine l_arg (lv := []) X hw hX hbl (lv_at hl 0 rfl) (lv_at hl 3 rfl) (hin 5 (by decide)) dL_law_983 dL_law_984 dL_law_985 rfl dL_law_986 dL_law_987 ?_
  refine L_Vi (k := 0) (As := [.int (xs (i + 1).toNatClampNeg), .int (xs (i + 2).toNatClampNeg), .int (xs (i + 3).toNatClampNeg), .int (xs (i + 4).toNatClampNeg), .int (xs (i + 5).toNatClampNeg)]) X hl.1 hw (c_X9_copy (w := w) e1) (by decide) (he_X9 g h _ _) rfl ⟨wq_50_11, wq_50_12, wq_50_13, wq_1_2, wq_50_14⟩ yo_X9_copy rfl ⟨Nat.le_of_ble_eq_true rfl, Nat.le_of_ble_eq_true rfl⟩ (Nat.le_of_ble_eq_true rfl) hcs dL_law_988 (fun H locs hw => ?_)
  refine lv_aload_n X.1 X.2.1 dL_law_991 rfl (lv_at hl 2 rfl) ?_
  refine l_arg (lv := []) X hw hX hbl (lv_at hl 0 rfl) (lv_at hl 3 rfl) (hin 1 (by decide)) dL_law_992 dL_law_993 dL_law_994 rfl dL_law_995 dL_law_996 ?_
  refine l_arg (lv := []) X hw hX hbl (lv_at hl 0 rfl) (lv_at hl 3 rfl) (hin 2 (by decide)) dL_law_997 dL_law_998 dL_law_999 rfl dL_law_1000 dL_law_1001 ?_
  refine l_arg (lv := []) X hw hX hbl (lv_at hl 0 rfl) (lv_at hl 3 rfl) (hin 3 (by decide)) dL_law_1002 dL_law_1003 dL_law_1004 rfl dL_law_1005 dL_law_1006 ?_
  refine l_arg (lv := []) X hw hX hbl (lv_at hl 0 rfl) (lv_at hl 3 rfl) (hin 4 (by decide)) dL_law_1007 dL_law_1008 dL_law_1009 rfl dL_law_1010 dL_law_1011 ?_
  refine l_arg (lv := []) X hw hX hbl (lv_at hl 0 rfl) (lv_at hl 3 rfl) (hin 5 (by decide)) dL_law_1012 dL_law_1013 dL_law_1014 rfl dL_law_1015 dL_law_1016 ?_
  refine L_Vi (k := 0) (As := [.int (xs (i + 1).toNatClampNeg), .int (xs (i + 2).toNatClampNeg), .int (xs (i + 3).toNatClampNeg), .int (xs (i + 4).toNatClampNeg), .int (xs (i + 5).toNatClampNeg)]) X hl.1 hw.swap (c_X10_copy e2) (by decide) (he_X10 g h2 _) rfl ⟨wq_51_5, wq_51_6, wq_51_7, wq_1_5, wq_51_8⟩ yo_X10_copy rfl ⟨Nat.le_of_ble_eq_true rfl, Nat.le_of_ble_eq_true rfl⟩ (Nat.le_of_ble_eq_true rfl) hcs dL_law_1017 (fun H locs hw => ?_)
  exact lv_icmp_eq (tgt := 1108) X.1 X.2.1 dL_law_1020 (by decide) (fun _ => go _ _ _ _ _ _ hI2 hw.swap) (fun q => absurd rfl q)
theorem cs_29 (X : Cx g p s m args c cL_law RL 4) (hX : va_X bb L xs s s.heap) (hbl : bb < s.heap.size) (hw : LW g 79 h (cC g h (b, w)) 20 h2 (cM g h2 t) s H locs) (hI : INV b t D) (hl : lv_has ls 4 [(0, .ref bb), (1, .ref (h 0)), (2, .ref (h2 0)), (3, .int i)]) (hin : ∀ v : Int32, (v = 1 ∨ v = 2 ∨ v = 3 ∨ v = 4 ∨ v = 5) → vp_in (i + v) L) (hcs : cells ≤ room_1.cells ∧ slots ≤ room_1.slots) (go : GoL p l e s m args below meth c Q cells slots ls g h h2) : W p l e room_1 s m args below meth c H locs cells slots Q (F0 m 1025 ls []) := by
  obtain ⟨r, b2, t2, D2, e1, e2, hI2⟩ := s_read hI (xs (i + 1).toNatClampNeg)
  refine lv_aload_n X.1 X.2.1 dL_law_1025 rfl (lv_at hl 1 rfl) ?_
  refine l_arg (lv := []) X hw hX hbl (lv_at hl 0 rfl) (lv_at hl 3 rfl) (hin 1 (by decide)) dL_law_1026 dL_law_1027 dL_law_1028 rfl dL_law_1029 dL_law_1030 ?_
  refine L_Vi (k := 0) (As := [.int (xs (i + 1).toNatClampNeg)]) X hl.1 hw (c_X9_read (w := w) e1) (by decide) (he_X9 g h _ _) rfl ⟨wq_51_9, wq_51_10, wq_51_11, wq_1_2, wq_51_12⟩ yo_X9_read rfl ⟨Nat.le_of_ble_eq_true rfl, Nat.le_of_ble_eq_true rfl⟩ (Nat.le_of_ble_eq_true rfl) hcs dL_law_1031 (fun H locs hw => ?_)
  refine lv_aload_n X.1 X.2.1 dL_law_1034 rfl (lv_at hl 2 rfl) ?_
  refine l_arg (lv := []) X hw hX hbl (lv_at hl 0 rfl) (lv_at hl 3 rfl) (hin 1 (by decide)) dL_law_1035 dL_law_1036 dL_law_1037 rfl dL_law_1038 dL_law_1039 ?_
  refine L_Vi (k := 0) (As := [.int (xs (i + 1).toNatClampNeg)]) X hl.1 hw.swap (c_X10_read e2) (by decide) (he_X10 g h2 _) rfl ⟨wq_51_18, wq_51_19, wq_51_20, wq_1_5, wq_51_21⟩ yo_X10_read rfl ⟨Nat.le_of_ble_eq_true rfl, Nat.le_of_ble_eq_true rfl⟩ (Nat.le_of_ble_eq_true rfl) hcs dL_law_1040 (fun H locs hw => ?_)
  exact lv_icmp_eq (tgt := 1108) X.1 X.2.1 dL_law_1043 (by decide) (fun _ => go _ _ _ _ _ _ hI2 hw.swap) (fun q => absurd rfl q)
theorem cs_30 (X : Cx g p s m args c cL_law RL 4) (hX : va_X bb L xs s s.heap) (hbl : bb < s.heap.size) (hw : LW g 79 h (cC g h (b, w)) 20 h2 (cM g h2 t) s H locs) (hI : INV b t D) (hl : lv_has ls 4 [(0, .ref bb), (1, .ref (h 0)), (2, .ref (h2 0)), (3, .int i)]) (hin : ∀ v : Int32, (v = 1 ∨ v = 2 ∨ v = 3 ∨ v = 4 ∨ v = 5) → vp_in (i + v) L) (hcs : cells ≤ room_1.cells ∧ slots ≤ room_1.slots) (go : GoL p l e s m args below meth c Q cells slots ls g h h2) : W p l e room_1 s m args below meth c H locs cells slots Q (F0 m 1048 ls []) := by
  obtain ⟨r, b2, t2, D2, e1, e2, hI2⟩ := s_write hI (xs (i + 1).toNatClampNeg)
  refine lv_aload_n X.1 X.2.1 dL_law_1048 rfl (lv_at hl 1 rfl) ?_
  refine l_arg (lv := []) X hw hX hbl (lv_at hl 0 rfl) (lv_at hl 3 rfl) (hin 1 (by decide)) dL_law_1049 dL_law_1050 dL_law_1051 rfl dL_law_1052 dL_law_1053 ?_
  refine L_Vi (k := 0) (As := [.int (xs (i + 1).toNatClampNeg)]) X hl.1 hw (c_X9_write (w := w) e1) (by decide) (he_X9 g h _ _) rfl ⟨wq_51_22, wq_51_23, wq_52_0, wq_1_2, wq_52_1⟩ yo_X9_write rfl ⟨Nat.le_of_ble_eq_true rfl, Nat.le_of_ble_eq_true rfl⟩ (Nat.le_of_ble_eq_true rfl) hcs dL_law_1054 (fun H locs hw => ?_)
  refine lv_aload_n X.1 X.2.1 dL_law_1057 rfl (lv_at hl 2 rfl) ?_
  refine l_arg (lv := []) X hw hX hbl (lv_at hl 0 rfl) (lv_at hl 3 rfl) (hin 1 (by decide)) dL_law_1058 dL_law_1059 dL_law_1060 rfl dL_law_1061 dL_law_1062 ?_
  refine L_Vi (k := 0) (As := [.int (xs (i + 1).toNatClampNeg)]) X hl.1 hw.swap (c_X10_write e2) (by decide) (he_X10 g h2 _) rfl ⟨wq_52_3, wq_52_4, wq_52_5, wq_1_5, wq_52_6⟩ yo_X10_write rfl ⟨Nat.le_of_ble_eq_true rfl, Nat.le_of_ble_eq_true rfl⟩ (Nat.le_of_ble_eq_true rfl) hcs dL_law_1063 (fun H locs hw => ?_)
  exact lv_icmp_eq (tgt := 1108) X.1 X.2.1 dL_law_1066 (by decide) (fun _ => go _ _ _ _ _ _ hI2 hw.swap) (fun q => absurd rfl q)
theorem cs_31 (X : Cx g p s m args c cL_law RL 4) (hX : va_X bb L xs s s.heap) (hbl : bb < s.heap.size) (hw : LW g 79 h (cC g h (b, w)) 20 h2 (cM g h2 t) s H locs) (hI : INV b t D) (hl : lv_has ls 4 [(0, .ref bb), (1, .ref (h 0)), (2, .ref (h2 0)), (3, .int i)]) (hin : ∀ v : Int32, (v = 1 ∨ v = 2 ∨ v = 3 ∨ v = 4 ∨ v = 5) → vp_in (i + v) L) (hcs : cells ≤ room_1.cells ∧ slots ≤ room_1.slots) (go : GoL p l e s m args below meth c Q cells slots ls g h h2) : W p l e room_1 s m args below meth c H locs cells slots Q (F0 m 1071 ls []) := by
  obtain ⟨r, e1, e2⟩ := s_count hI (xs (i + 1).toNatClampNeg)
  have hI2 := hI
  refine lv_aload_n X.1 X.2.1 dL_law_1071 rfl (lv_at hl 1 rfl) ?_
  refine l_arg (lv := []) X hw hX hbl (lv_at hl 0 rfl) (lv_at hl 3 rfl) (hin 1 (by decide)) dL_law_1072 dL_law_1073 dL_law_1074 rfl dL_law_1075 dL_law_1076 ?_
  refine L_Vi (k := 0) (As := [.int (xs (i + 1).toNatClampNeg)]) X hl.1 hw (c_X9_count (w := w) e1) (by decide) (he_X9 g h _ _) rfl ⟨wq_52_7, wq_52_8, wq_52_9, wq_1_2, wq_52_10⟩ yo_X9_count rfl ⟨Nat.le_of_ble_eq_true rfl, Nat.le_of_ble_eq_true rfl⟩ (Nat.le_of_ble_eq_true rfl) hcs dL_law_1077 (fun H locs hw => ?_)
  refine lv_aload_n X.1 X.2.1 dL_law_1080 rfl (lv_at hl 2 rfl) ?_
  refine l_arg (lv := []) X hw hX hbl (lv_at hl 0 rfl) (lv_at hl 3 rfl) (hin 1 (by decide)) dL_law_1081 dL_law_1082 dL_law_1083 rfl dL_law_1084 dL_law_1085 ?_
  refine L_Vi (k := 0) (As := [.int (xs (i + 1).toNatClampNeg)]) X hl.1 hw.swap (c_X10_count e2) (by decide) (he_X10 g h2 _) rfl ⟨wq_53_3, wq_53_4, wq_53_5, wq_1_5, wq_53_6⟩ yo_X10_count rfl ⟨Nat.le_of_ble_eq_true rfl, Nat.le_of_ble_eq_true rfl⟩ (Nat.le_of_ble_eq_true rfl) hcs dL_law_1086 (fun H locs hw => ?_)
  exact lv_icmp_eq (tgt := 1108) X.1 X.2.1 dL_law_1089 (by decide) (fun _ => go _ _ _ _ _ _ hI2 hw.swap) (fun q => absurd rfl q)
theorem cs_32 (X : Cx g p s m args c cL_law RL 4) (hX : va_X bb L xs s s.heap) (hbl : bb < s.heap.size) (hw : LW g 79 h (cC g h (b, w)) 20 h2 (cM g h2 t) s H locs) (hI : INV b t D) (hl : lv_has ls 4 [(0, .ref bb), (1, .ref (h 0)), (2, .ref (h2 0)), (3, .int i)]) (hin : ∀ v : Int32, (v = 1 ∨ v = 2 ∨ v = 3 ∨ v = 4 ∨ v = 5) → vp_in (i + v) L) (hcs : cells ≤ room_1.cells ∧ slots ≤ room_1.slots) (go : GoL p l e s m args below meth c Q cells slots ls g h h2) : W p l e room_1 s m args below meth c H locs cells slots Q (F0 m 1094 ls []) := by
  obtain ⟨r, b2, w2, t2, D2, e1, e2, hI2⟩ := s_digest hI w 
  refine lv_aload_n X.1 X.2.1 dL_law_1094 rfl (lv_at hl 1 rfl) ?_
  refine L_Vl (k := 0) (As := []) X hl.1 hw (c_X9_digest (w := w) e1) (by decide) (he_X9 g h _ _) rfl ⟨wq_53_15, wq_53_16, wq_53_17, wq_1_2, wq_53_18⟩ yo_X9_digest rfl ⟨Nat.le_of_ble_eq_true rfl, Nat.le_of_ble_eq_true rfl⟩ (Nat.le_of_ble_eq_true rfl) hcs dL_law_1095 (fun H locs hw => ?_)
  refine lv_aload_n X.1 X.2.1 dL_law_1098 rfl (lv_at hl 2 rfl) ?_
  refine L_Vl (k := 0) (As := []) X hl.1 hw.swap (c_X10_digest e2) (by decide) (he_X10 g h2 _) rfl ⟨wq_54_22, wq_54_23, wq_55_0, wq_1_5, wq_55_1⟩ yo_X10_digest rfl ⟨Nat.le_of_ble_eq_true rfl, Nat.le_of_ble_eq_true rfl⟩ (Nat.le_of_ble_eq_true rfl) hcs dL_law_1099 (fun H locs hw => ?_)
  refine W.lcmp X.1 X.2.1 dL_law_1102 ?_
  exact lv_if_eq (tgt := 1108) X.1 X.2.1 dL_law_1103 (by decide) (fun _ => go _ _ _ _ _ _ hI2 hw.swap) (fun q => absurd ((lg_cmp_eq _ _).mpr rfl) q)
end LS
