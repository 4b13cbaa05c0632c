-- ===== PART A: goes FIRST, ahead of the names: the tables' words, and 'selects' of the private methods out of them =====
/-- a private method of a class that the tables say can be made, by its rows of tables_1 -/
def lw_okq (q : MethodName × Nat) : Prop := (q.1.cls ≠ "java/lang/invoke/MethodHandle" ∧ q.1.cls ≠ "java/lang/invoke/VarHandle") ∧ Cond.instantiable q.1.cls q.2 ∈ tables_1 ∧ Cond.privateMethod q.1 ∈ tables_1 ∧ Cond.instanceMethod q.1 ∈ tables_1
theorem lw_p0 : lw_okq (⟨"LinkChances$Net", "addSetsWith", "(I)V"⟩, 10) := ⟨⟨by decide +kernel, by decide +kernel⟩, List.mem_of_getElem? (i := 22) (by decide +kernel), List.mem_of_getElem? (i := 245) (by decide +kernel), List.mem_of_getElem? (i := 246) (by decide +kernel)⟩
theorem lw_p1 : lw_okq (⟨"LinkChances$Odds", "spread", "(III)V"⟩, 3) := ⟨⟨by decide +kernel, by decide +kernel⟩, List.mem_of_getElem? (i := 61) (by decide +kernel), List.mem_of_getElem? (i := 351) (by decide +kernel), List.mem_of_getElem? (i := 352) (by decide +kernel)⟩
theorem lw_p2 : lw_okq (⟨"LinkChances$TidyNet", "answer", "(JJ)V"⟩, 8) := ⟨⟨by decide +kernel, by decide +kernel⟩, List.mem_of_getElem? (i := 110) (by decide +kernel), List.mem_of_getElem? (i := 415) (by decide +kernel), List.mem_of_getElem? (i := 416) (by decide +kernel)⟩
theorem lw_p3 : lw_okq (⟨"LinkChances$TidyNet", "dropRound", "()Z"⟩, 8) := ⟨⟨by decide +kernel, by decide +kernel⟩, List.mem_of_getElem? (i := 110) (by decide +kernel), List.mem_of_getElem? (i := 427) (by decide +kernel), List.mem_of_getElem? (i := 428) (by decide +kernel)⟩
theorem lw_p4 : lw_okq (⟨"LinkChances$TidyNet", "isThere", "(I)Z"⟩, 8) := ⟨⟨by decide +kernel, by decide +kernel⟩, List.mem_of_getElem? (i := 110) (by decide +kernel), List.mem_of_getElem? (i := 431) (by decide +kernel), List.mem_of_getElem? (i := 432) (by decide +kernel)⟩
theorem lw_p5 : lw_okq (⟨"LinkChances$TidyNet", "joinTwins", "()Z"⟩, 8) := ⟨⟨by decide +kernel, by decide +kernel⟩, List.mem_of_getElem? (i := 110) (by decide +kernel), List.mem_of_getElem? (i := 435) (by decide +kernel), List.mem_of_getElem? (i := 436) (by decide +kernel)⟩
theorem lw_p6 : lw_okq (⟨"LinkChances$TidyNet", "areTwins", "(II)Z"⟩, 8) := ⟨⟨by decide +kernel, by decide +kernel⟩, List.mem_of_getElem? (i := 110) (by decide +kernel), List.mem_of_getElem? (i := 439) (by decide +kernel), List.mem_of_getElem? (i := 440) (by decide +kernel)⟩
theorem lw_p7 : lw_okq (⟨"LinkChances$TidyNet", "dropEnd", "()Z"⟩, 8) := ⟨⟨by decide +kernel, by decide +kernel⟩, List.mem_of_getElem? (i := 110) (by decide +kernel), List.mem_of_getElem? (i := 443) (by decide +kernel), List.mem_of_getElem? (i := 444) (by decide +kernel)⟩
theorem lw_p8 : lw_okq (⟨"LinkChances$TidyNet", "linksAt", "(I)I"⟩, 8) := ⟨⟨by decide +kernel, by decide +kernel⟩, List.mem_of_getElem? (i := 110) (by decide +kernel), List.mem_of_getElem? (i := 447) (by decide +kernel), List.mem_of_getElem? (i := 448) (by decide +kernel)⟩
theorem lw_p9 : lw_okq (⟨"LinkChances$TidyNet", "isWanted", "(I)Z"⟩, 8) := ⟨⟨by decide +kernel, by decide +kernel⟩, List.mem_of_getElem? (i := 110) (by decide +kernel), List.mem_of_getElem? (i := 451) (by decide +kernel), List.mem_of_getElem? (i := 452) (by decide +kernel)⟩
theorem lw_p10 : lw_okq (⟨"LinkChances$TidyNet", "joinChain", "()Z"⟩, 8) := ⟨⟨by decide +kernel, by decide +kernel⟩, List.mem_of_getElem? (i := 110) (by decide +kernel), List.mem_of_getElem? (i := 466) (by decide +kernel), List.mem_of_getElem? (i := 467) (by decide +kernel)⟩
theorem lw_p11 : lw_okq (⟨"LinkChances$TidyNet", "otherEnd", "(II)I"⟩, 8) := ⟨⟨by decide +kernel, by decide +kernel⟩, List.mem_of_getElem? (i := 110) (by decide +kernel), List.mem_of_getElem? (i := 470) (by decide +kernel), List.mem_of_getElem? (i := 471) (by decide +kernel)⟩
theorem lw_p12 : lw_okq (⟨"LinkChances$TidyNet", "add", "(JJ)V"⟩, 8) := ⟨⟨by decide +kernel, by decide +kernel⟩, List.mem_of_getElem? (i := 110) (by decide +kernel), List.mem_of_getElem? (i := 499) (by decide +kernel), List.mem_of_getElem? (i := 500) (by decide +kernel)⟩
theorem lw_p13 : lw_okq (⟨"LinkChances$Shared", "openBehind", "(I)I"⟩, 2) := ⟨⟨by decide +kernel, by decide +kernel⟩, List.mem_of_getElem? (i := 90) (by decide +kernel), List.mem_of_getElem? (i := 534) (by decide +kernel), List.mem_of_getElem? (i := 535) (by decide +kernel)⟩
theorem lw_p14 : lw_okq (⟨"LinkChances$Shared", "surelyUp", "(I)I"⟩, 2) := ⟨⟨by decide +kernel, by decide +kernel⟩, List.mem_of_getElem? (i := 90) (by decide +kernel), List.mem_of_getElem? (i := 541) (by decide +kernel), List.mem_of_getElem? (i := 542) (by decide +kernel)⟩
theorem lw_p15 : lw_okq (⟨"LinkChances$Shared", "surelyDown", "(I)I"⟩, 2) := ⟨⟨by decide +kernel, by decide +kernel⟩, List.mem_of_getElem? (i := 90) (by decide +kernel), List.mem_of_getElem? (i := 547) (by decide +kernel), List.mem_of_getElem? (i := 548) (by decide +kernel)⟩
def lw_privs_1 : List (MethodName × Nat) := [(⟨"LinkChances$Net", "addSetsWith", "(I)V"⟩, 10), (⟨"LinkChances$Odds", "spread", "(III)V"⟩, 3), (⟨"LinkChances$TidyNet", "answer", "(JJ)V"⟩, 8), (⟨"LinkChances$TidyNet", "dropRound", "()Z"⟩, 8), (⟨"LinkChances$TidyNet", "isThere", "(I)Z"⟩, 8), (⟨"LinkChances$TidyNet", "joinTwins", "()Z"⟩, 8), (⟨"LinkChances$TidyNet", "areTwins", "(II)Z"⟩, 8), (⟨"LinkChances$TidyNet", "dropEnd", "()Z"⟩, 8), (⟨"LinkChances$TidyNet", "linksAt", "(I)I"⟩, 8), (⟨"LinkChances$TidyNet", "isWanted", "(I)Z"⟩, 8), (⟨"LinkChances$TidyNet", "joinChain", "()Z"⟩, 8), (⟨"LinkChances$TidyNet", "otherEnd", "(II)I"⟩, 8), (⟨"LinkChances$TidyNet", "add", "(JJ)V"⟩, 8), (⟨"LinkChances$Shared", "openBehind", "(I)I"⟩, 2), (⟨"LinkChances$Shared", "surelyUp", "(I)I"⟩, 2), (⟨"LinkChances$Shared", "surelyDown", "(I)I"⟩, 2)]
theorem lw_r1 : ∀ q ∈ lw_privs_1, lw_okq q := List.forall_mem_cons.mpr ⟨lw_p0, List.forall_mem_cons.mpr ⟨lw_p1, List.forall_mem_cons.mpr ⟨lw_p2, List.forall_mem_cons.mpr ⟨lw_p3, List.forall_mem_cons.mpr ⟨lw_p4, List.forall_mem_cons.mpr ⟨lw_p5, List.forall_mem_cons.mpr ⟨lw_p6, List.forall_mem_cons.mpr ⟨lw_p7, List.forall_mem_cons.mpr ⟨lw_p8, List.forall_mem_cons.mpr ⟨lw_p9, List.forall_mem_cons.mpr ⟨lw_p10, List.forall_mem_cons.mpr ⟨lw_p11, List.forall_mem_cons.mpr ⟨lw_p12, List.forall_mem_cons.mpr ⟨lw_p13, List.forall_mem_cons.mpr ⟨lw_p14, List.forall_mem_cons.mpr ⟨lw_p15, fun _ h => absurd h List.not_mem_nil⟩⟩⟩⟩⟩⟩⟩⟩⟩⟩⟩⟩⟩⟩⟩⟩
theorem lw_p16 : lw_okq (⟨"LinkChances$Shared", "isLost", "(II)Z"⟩, 2) := ⟨⟨by decide +kernel, by decide +kernel⟩, List.mem_of_getElem? (i := 90) (by decide +kernel), List.mem_of_getElem? (i := 552) (by decide +kernel), List.mem_of_getElem? (i := 553) (by decide +kernel)⟩
theorem lw_p17 : lw_okq (⟨"LinkChances$Shared", "lookOf", "(II)J"⟩, 2) := ⟨⟨by decide +kernel, by decide +kernel⟩, List.mem_of_getElem? (i := 90) (by decide +kernel), List.mem_of_getElem? (i := 558) (by decide +kernel), List.mem_of_getElem? (i := 559) (by decide +kernel)⟩
theorem lw_p18 : lw_okq (⟨"LinkChances$Shared", "isAmong", "(JI)Z"⟩, 2) := ⟨⟨by decide +kernel, by decide +kernel⟩, List.mem_of_getElem? (i := 90) (by decide +kernel), List.mem_of_getElem? (i := 562) (by decide +kernel), List.mem_of_getElem? (i := 563) (by decide +kernel)⟩
theorem lw_p19 : lw_okq (⟨"LinkChances", "alike", "(III)J"⟩, 7) := ⟨⟨by decide +kernel, by decide +kernel⟩, List.mem_of_getElem? (i := 14) (by decide +kernel), List.mem_of_getElem? (i := 618) (by decide +kernel), List.mem_of_getElem? (i := 619) (by decide +kernel)⟩
def lw_privs_2 : List (MethodName × Nat) := [(⟨"LinkChances$Shared", "isLost", "(II)Z"⟩, 2), (⟨"LinkChances$Shared", "lookOf", "(II)J"⟩, 2), (⟨"LinkChances$Shared", "isAmong", "(JI)Z"⟩, 2), (⟨"LinkChances", "alike", "(III)J"⟩, 7)]
theorem lw_r2 : ∀ q ∈ lw_privs_2, lw_okq q := List.forall_mem_cons.mpr ⟨lw_p16, List.forall_mem_cons.mpr ⟨lw_p17, List.forall_mem_cons.mpr ⟨lw_p18, List.forall_mem_cons.mpr ⟨lw_p19, fun _ h => absurd h List.not_mem_nil⟩⟩⟩⟩
def lw_privs : List (MethodName × Nat) := lw_privs_1 ++ (lw_privs_2)
def lw_tbl : List Cond := k2_sels lw_privs ++ tables_1
theorem lw_privs_ok : ∀ q ∈ lw_privs, lw_okq q := by
  show ∀ q ∈ lw_privs_1 ++ (lw_privs_2), lw_okq q
  exact List.forall_mem_append.mpr ⟨lw_r1, lw_r2⟩
-- ===== end of PART A; then your names; then what follows =====
/-! ===== BEGIN words of one list among another's, by their places ===== -/
theorem goodIn_r {big : List Cond} (ws : List Cond) (ps : List Nat) (hp : ws = ps.filterMap (fun i => big[i]?)) (h : ws.all goodWord = true) : GoodIn big ws := by
  intro w hw
  have h1 := List.all_eq_true.mp h w hw
  rw [hp] at hw
  obtain ⟨i, -, hi⟩ := List.mem_filterMap.mp hw
  have hm : w ∈ big := by first | exact List.mem_of_getElem? hi | exact List.getElem?_mem hi
  exact ⟨hm, good_of_word h1⟩
theorem goodIn_app {big a b : List Cond} (ha : GoodIn big a) (hb : GoodIn big b) : GoodIn big (a ++ b) := fun w h => (List.mem_append.mp h).elim (ha w) (hb w)
theorem goodIn_ca {big a b : List Cond} {c : Cond} (ha : GoodIn big (c :: a)) (hb : GoodIn big b) : GoodIn big (c :: (a ++ b)) := fun w h => (List.mem_cons.mp h).elim (fun e => ha w (List.mem_cons.mpr (Or.inl e))) (fun h => (List.mem_append.mp h).elim (fun h => ha w (List.mem_cons.mpr (Or.inr h))) (hb w))
theorem goodIn_sub {big ws : List Cond} (hm : ∀ w ∈ ws, w ∈ big) (h : ws.all goodWord = true) : GoodIn big ws := fun w hw => ⟨hm w hw, good_of_word (List.all_eq_true.mp h w hw)⟩
/-! ===== END ===== -/
def RX0 : String := "LinkChances$CutAndJoin"
def TX0 : u_T := fun k => match k with
  | 0 => ("LinkChances$CutAndJoin", "net", "LLinkChances$Net;", true)
  | 1 => ("LinkChances$CutAndJoin", "levels", "[LLinkChances$TidyNet;", true)
  | 2 => ("LinkChances$CutAndJoin", "steps", "I", false)
  | 3 => ("LinkChances$CutAndJoin", "deep", "I", false)
  | _ => ("LinkChances$CutAndJoin", "tidied", "I", false)
def tyX0 : Nat → FieldType := fun k => match k with
  | 0 => .object "LinkChances$Net"
  | 1 => .array (.object "LinkChances$TidyNet")
  | 2 => .int
  | 3 => .int
  | _ => .int
abbrev wsX00 : List Cond := u_ws RX0 TX0 5
theorem nmX0 : ∀ a, a < 5 → ∀ b, b < 5 → a ≠ b → (TX0 a).2.1 ≠ (TX0 b).2.1 := by decide +kernel
theorem tyX0_ok : ∀ k, k < 5 → parseFieldDescriptor (TX0 k).2.2.1 = some (tyX0 k) := by decide +kernel
abbrev cX0_init : ByteArray := prog_2_method_1_code
def yX0_init : MethodName := ⟨RX0, "<init>", "(LLinkChances$Net;)V"⟩
abbrev cX0_askAll : ByteArray := prog_2_method_2_code
def yX0_askAll : MethodName := ⟨RX0, "askAll", "()V"⟩
abbrev cX0_told : ByteArray := prog_2_method_3_code
def yX0_told : MethodName := ⟨RX0, "told", "(I)J"⟩
abbrev cX0_ask : ByteArray := prog_2_method_4_code
def yX0_ask : MethodName := ⟨RX0, "ask", "(LLinkChances$CutAndJoin;I)V"⟩
def RX1 : String := "LinkChances$Fractions"
def TX1 : u_T := fun k => match k with
  | _ => ("", "", "", false)
def tyX1 : Nat → FieldType := fun k => match k with
  | _ => .int
abbrev wsX10 : List Cond := u_ws RX1 TX1 0
theorem nmX1 : ∀ a, a < 0 → ∀ b, b < 0 → a ≠ b → (TX1 a).2.1 ≠ (TX1 b).2.1 := by decide +kernel
theorem tyX1_ok : ∀ k, k < 0 → parseFieldDescriptor (TX1 k).2.2.1 = some (tyX1 k) := by decide +kernel
abbrev cX1_isChance : ByteArray := prog_3_method_2_code
def yX1_isChance : MethodName := ⟨RX1, "isChance", "(JJ)Z"⟩
abbrev cX1_commonDivisor : ByteArray := prog_3_method_3_code
def yX1_commonDivisor : MethodName := ⟨RX1, "commonDivisor", "(JJ)J"⟩
abbrev cX1_told : ByteArray := prog_3_method_4_code
def yX1_told : MethodName := ⟨RX1, "told", "(JJI)J"⟩
def RX2 : String := "LinkChances$Net"
def TX2 : u_T := fun k => match k with
  | 0 => ("LinkChances$Net", "lessers", "[I", true)
  | 1 => ("LinkChances$Net", "greaters", "[I", true)
  | 2 => ("LinkChances$Net", "aboves", "[I", true)
  | 3 => ("LinkChances$Net", "belows", "[I", true)
  | 4 => ("LinkChances$Net", "seens", "[I", true)
  | 5 => ("LinkChances$Net", "joinings", "[J", true)
  | 6 => ("LinkChances$Net", "stationCount", "I", false)
  | 7 => ("LinkChances$Net", "linkCount", "I", false)
  | 8 => ("LinkChances$Net", "source", "I", false)
  | _ => ("LinkChances$Net", "goals", "I", false)
def tyX2 : Nat → FieldType := fun k => match k with
  | 0 => .array .int
  | 1 => .array .int
  | 2 => .array .int
  | 3 => .array .int
  | 4 => .array .int
  | 5 => .array .long
  | 6 => .int
  | 7 => .int
  | 8 => .int
  | _ => .int
abbrev wsX20 : List Cond := u_ws RX2 TX2 10
theorem nmX2 : ∀ a, a < 10 → ∀ b, b < 10 → a ≠ b → (TX2 a).2.1 ≠ (TX2 b).2.1 := by decide +kernel
theorem tyX2_ok : ∀ k, k < 10 → parseFieldDescriptor (TX2 k).2.2.1 = some (tyX2 k) := by decide +kernel
abbrev cX2_init : ByteArray := prog_4_method_1_code
def yX2_init : MethodName := ⟨RX2, "<init>", "()V"⟩
abbrev cX2_renew : ByteArray := prog_4_method_2_code
def yX2_renew : MethodName := ⟨RX2, "renew", "(I)V"⟩
abbrev cX2_stationCount : ByteArray := prog_4_method_3_code
def yX2_stationCount : MethodName := ⟨RX2, "stationCount", "()I"⟩
abbrev cX2_linkCount : ByteArray := prog_4_method_4_code
def yX2_linkCount : MethodName := ⟨RX2, "linkCount", "()I"⟩
abbrev cX2_sourceStation : ByteArray := prog_4_method_5_code
def yX2_sourceStation : MethodName := ⟨RX2, "sourceStation", "()I"⟩
abbrev cX2_goalBits : ByteArray := prog_4_method_6_code
def yX2_goalBits : MethodName := ⟨RX2, "goalBits", "()I"⟩
abbrev cX2_allStations : ByteArray := prog_4_method_7_code
def yX2_allStations : MethodName := ⟨RX2, "allStations", "()I"⟩
abbrev cX2_allLinks : ByteArray := prog_4_method_8_code
def yX2_allLinks : MethodName := ⟨RX2, "allLinks", "()I"⟩
abbrev cX2_wantedStations : ByteArray := prog_4_method_9_code
def yX2_wantedStations : MethodName := ⟨RX2, "wantedStations", "()I"⟩
abbrev cX2_hasStation : ByteArray := prog_4_method_10_code
def yX2_hasStation : MethodName := ⟨RX2, "hasStation", "(J)Z"⟩
abbrev cX2_hasLink : ByteArray := prog_4_method_11_code
def yX2_hasLink : MethodName := ⟨RX2, "hasLink", "(I)Z"⟩
abbrev cX2_hasRoom : ByteArray := prog_4_method_12_code
def yX2_hasRoom : MethodName := ⟨RX2, "hasRoom", "()Z"⟩
abbrev cX2_mayLink : ByteArray := prog_4_method_13_code
def yX2_mayLink : MethodName := ⟨RX2, "mayLink", "(JJJJ)Z"⟩
abbrev cX2_addLink : ByteArray := prog_4_method_14_code
def yX2_addLink : MethodName := ⟨RX2, "addLink", "(IIII)I"⟩
abbrev cX2_dropLast : ByteArray := prog_4_method_15_code
def yX2_dropLast : MethodName := ⟨RX2, "dropLast", "()I"⟩
abbrev cX2_setChance : ByteArray := prog_4_method_16_code
def yX2_setChance : MethodName := ⟨RX2, "setChance", "(III)V"⟩
abbrev cX2_setSeen : ByteArray := prog_4_method_17_code
def yX2_setSeen : MethodName := ⟨RX2, "setSeen", "(II)V"⟩
abbrev cX2_setSource : ByteArray := prog_4_method_18_code
def yX2_setSource : MethodName := ⟨RX2, "setSource", "(I)V"⟩
abbrev cX2_setGoals : ByteArray := prog_4_method_19_code
def yX2_setGoals : MethodName := ⟨RX2, "setGoals", "(I)V"⟩
abbrev cX2_lesserOf : ByteArray := prog_4_method_20_code
def yX2_lesserOf : MethodName := ⟨RX2, "lesserOf", "(I)I"⟩
abbrev cX2_greaterOf : ByteArray := prog_4_method_21_code
def yX2_greaterOf : MethodName := ⟨RX2, "greaterOf", "(I)I"⟩
abbrev cX2_aboveOf : ByteArray := prog_4_method_22_code
def yX2_aboveOf : MethodName := ⟨RX2, "aboveOf", "(I)I"⟩
abbrev cX2_belowOf : ByteArray := prog_4_method_23_code
def yX2_belowOf : MethodName := ⟨RX2, "belowOf", "(I)I"⟩
abbrev cX2_seenOf : ByteArray := prog_4_method_24_code
def yX2_seenOf : MethodName := ⟨RX2, "seenOf", "(I)I"⟩
abbrev cX2_upParts : ByteArray := prog_4_method_25_code
def yX2_upParts : MethodName := ⟨RX2, "upParts", "(I)I"⟩
abbrev cX2_wholeParts : ByteArray := prog_4_method_26_code
def yX2_wholeParts : MethodName := ⟨RX2, "wholeParts", "(I)I"⟩
abbrev cX2_linksSeen : ByteArray := prog_4_method_27_code
def yX2_linksSeen : MethodName := ⟨RX2, "linksSeen", "(I)I"⟩
abbrev cX2_joinedWith : ByteArray := prog_4_method_28_code
def yX2_joinedWith : MethodName := ⟨RX2, "joinedWith", "(II)I"⟩
abbrev cX2_reaches : ByteArray := prog_4_method_29_code
def yX2_reaches : MethodName := ⟨RX2, "reaches", "(I)Z"⟩
abbrev cX2_stationsIn : ByteArray := prog_4_method_30_code
def yX2_stationsIn : MethodName := ⟨RX2, "stationsIn", "(JI)I"⟩
abbrev cX2_addSetsWith : ByteArray := prog_4_method_31_code
def yX2_addSetsWith : MethodName := ⟨RX2, "addSetsWith", "(I)V"⟩
abbrev cX2_joinedOver : ByteArray := prog_4_method_32_code
def yX2_joinedOver : MethodName := ⟨RX2, "joinedOver", "(JII)J"⟩
def RX3 : String := "LinkChances$Odds"
def TX3 : u_T := fun k => match k with
  | 0 => ("LinkChances$Odds", "net", "LLinkChances$Net;", true)
  | 1 => ("LinkChances$Odds", "parts", "[J", true)
  | _ => ("LinkChances$Odds", "whole", "J", false)
def tyX3 : Nat → FieldType := fun k => match k with
  | 0 => .object "LinkChances$Net"
  | 1 => .array .long
  | _ => .long
abbrev wsX30 : List Cond := u_ws RX3 TX3 3
theorem nmX3 : ∀ a, a < 3 → ∀ b, b < 3 → a ≠ b → (TX3 a).2.1 ≠ (TX3 b).2.1 := by decide +kernel
theorem tyX3_ok : ∀ k, k < 3 → parseFieldDescriptor (TX3 k).2.2.1 = some (tyX3 k) := by decide +kernel
abbrev cX3_init : ByteArray := prog_5_method_1_code
def yX3_init : MethodName := ⟨RX3, "<init>", "(LLinkChances$Net;)V"⟩
abbrev cX3_fill : ByteArray := prog_5_method_2_code
def yX3_fill : MethodName := ⟨RX3, "fill", "()V"⟩
abbrev cX3_fillWith : ByteArray := prog_5_method_3_code
def yX3_fillWith : MethodName := ⟨RX3, "fillWith", "(III)V"⟩
abbrev cX3_told : ByteArray := prog_5_method_4_code
def yX3_told : MethodName := ⟨RX3, "told", "(JI)J"⟩
abbrev cX3_reachParts : ByteArray := prog_5_method_5_code
def yX3_reachParts : MethodName := ⟨RX3, "reachParts", "()J"⟩
abbrev cX3_pairParts : ByteArray := prog_5_method_6_code
def yX3_pairParts : MethodName := ⟨RX3, "pairParts", "(II)J"⟩
abbrev cX3_ruleParts : ByteArray := prog_5_method_7_code
def yX3_ruleParts : MethodName := ⟨RX3, "ruleParts", "()J"⟩
abbrev cX3_worthParts : ByteArray := prog_5_method_8_code
def yX3_worthParts : MethodName := ⟨RX3, "worthParts", "(I)J"⟩
abbrev cX3_worthiestLink : ByteArray := prog_5_method_9_code
def yX3_worthiestLink : MethodName := ⟨RX3, "worthiestLink", "()I"⟩
abbrev cX3_spread : ByteArray := prog_5_method_10_code
def yX3_spread : MethodName := ⟨RX3, "spread", "(III)V"⟩
def RX4 : String := "LinkChances$Orders"
def TX4 : u_T := fun k => match k with
  | 0 => ("LinkChances$Orders", "net", "LLinkChances$Net;", true)
  | 1 => ("LinkChances$Orders", "text", "[I", true)
  | 2 => ("LinkChances$Orders", "length", "I", false)
  | _ => ("LinkChances$Orders", "fault", "I", false)
def tyX4 : Nat → FieldType := fun k => match k with
  | 0 => .object "LinkChances$Net"
  | 1 => .array .int
  | 2 => .int
  | _ => .int
abbrev wsX40 : List Cond := u_ws RX4 TX4 4
theorem nmX4 : ∀ a, a < 4 → ∀ b, b < 4 → a ≠ b → (TX4 a).2.1 ≠ (TX4 b).2.1 := by decide +kernel
theorem tyX4_ok : ∀ k, k < 4 → parseFieldDescriptor (TX4 k).2.2.1 = some (tyX4 k) := by decide +kernel
abbrev cX4_init : ByteArray := prog_6_method_1_code
def yX4_init : MethodName := ⟨RX4, "<init>", "(LLinkChances$Net;)V"⟩
abbrev cX4_length : ByteArray := prog_6_method_2_code
def yX4_length : MethodName := ⟨RX4, "length", "()I"⟩
def RX5 : String := "LinkChances$SetCounts"
def TX5 : u_T := fun k => match k with
  | 0 => ("LinkChances$SetCounts", "net", "LLinkChances$Net;", true)
  | _ => ("LinkChances$SetCounts", "reaching", "[I", true)
def tyX5 : Nat → FieldType := fun k => match k with
  | 0 => .object "LinkChances$Net"
  | _ => .array .int
abbrev wsX50 : List Cond := u_ws RX5 TX5 2
theorem nmX5 : ∀ a, a < 2 → ∀ b, b < 2 → a ≠ b → (TX5 a).2.1 ≠ (TX5 b).2.1 := by decide +kernel
theorem tyX5_ok : ∀ k, k < 2 → parseFieldDescriptor (TX5 k).2.2.1 = some (tyX5 k) := by decide +kernel
abbrev cX5_init : ByteArray := prog_7_method_1_code
def yX5_init : MethodName := ⟨RX5, "<init>", "(LLinkChances$Net;)V"⟩
abbrev cX5_fill : ByteArray := prog_7_method_2_code
def yX5_fill : MethodName := ⟨RX5, "fill", "()V"⟩
abbrev cX5_ofSize : ByteArray := prog_7_method_3_code
def yX5_ofSize : MethodName := ⟨RX5, "ofSize", "(I)I"⟩
abbrev cX5_likeParts : ByteArray := prog_7_method_4_code
def yX5_likeParts : MethodName := ⟨RX5, "likeParts", "(III)J"⟩
abbrev cX5_leastCut : ByteArray := prog_7_method_5_code
def yX5_leastCut : MethodName := ⟨RX5, "leastCut", "()I"⟩
abbrev cX5_leastWay : ByteArray := prog_7_method_6_code
def yX5_leastWay : MethodName := ⟨RX5, "leastWay", "()I"⟩
abbrev cX5_lesserSize : ByteArray := prog_7_method_7_code
def yX5_lesserSize : MethodName := ⟨RX5, "lesserSize", "(II)I"⟩
abbrev cX5_power : ByteArray := prog_7_method_8_code
def yX5_power : MethodName := ⟨RX5, "power", "(JI)J"⟩
abbrev cX5_times : ByteArray := prog_7_method_9_code
def yX5_times : MethodName := ⟨RX5, "times", "(JJ)J"⟩
abbrev cX5_plus : ByteArray := prog_7_method_10_code
def yX5_plus : MethodName := ⟨RX5, "plus", "(JJ)J"⟩
def RX6 : String := "LinkChances$Shared"
def TX6 : u_T := fun k => match k with
  | 0 => ("LinkChances$Shared", "net", "LLinkChances$Net;", true)
  | _ => ("LinkChances$Shared", "looks", "[J", true)
def tyX6 : Nat → FieldType := fun k => match k with
  | 0 => .object "LinkChances$Net"
  | _ => .array .long
abbrev wsX60 : List Cond := u_ws RX6 TX6 2
theorem nmX6 : ∀ a, a < 2 → ∀ b, b < 2 → a ≠ b → (TX6 a).2.1 ≠ (TX6 b).2.1 := by decide +kernel
theorem tyX6_ok : ∀ k, k < 2 → parseFieldDescriptor (TX6 k).2.2.1 = some (tyX6 k) := by decide +kernel
abbrev cX6_init : ByteArray := prog_8_method_1_code
def yX6_init : MethodName := ⟨RX6, "<init>", "(LLinkChances$Net;)V"⟩
abbrev cX6_greatestWidth : ByteArray := prog_8_method_2_code
def yX6_greatestWidth : MethodName := ⟨RX6, "greatestWidth", "()I"⟩
abbrev cX6_widthBehind : ByteArray := prog_8_method_3_code
def yX6_widthBehind : MethodName := ⟨RX6, "widthBehind", "(I)I"⟩
abbrev cX6_openBehind : ByteArray := prog_8_method_4_code
def yX6_openBehind : MethodName := ⟨RX6, "openBehind", "(I)I"⟩
abbrev cX6_surelyUp : ByteArray := prog_8_method_5_code
def yX6_surelyUp : MethodName := ⟨RX6, "surelyUp", "(I)I"⟩
abbrev cX6_surelyDown : ByteArray := prog_8_method_6_code
def yX6_surelyDown : MethodName := ⟨RX6, "surelyDown", "(I)I"⟩
abbrev cX6_isLost : ByteArray := prog_8_method_7_code
def yX6_isLost : MethodName := ⟨RX6, "isLost", "(II)Z"⟩
abbrev cX6_lookOf : ByteArray := prog_8_method_8_code
def yX6_lookOf : MethodName := ⟨RX6, "lookOf", "(II)J"⟩
abbrev cX6_isAmong : ByteArray := prog_8_method_9_code
def yX6_isAmong : MethodName := ⟨RX6, "isAmong", "(JI)Z"⟩
def RX7 : String := "LinkChances$Sheets"
def TX7 : u_T := fun k => match k with
  | 0 => ("LinkChances$Sheets", "rows", "[[J", true)
  | 1 => ("LinkChances$Sheets", "sizes", "[I", true)
  | _ => ("LinkChances$Sheets", "latest", "I", false)
def tyX7 : Nat → FieldType := fun k => match k with
  | 0 => .array (.array .long)
  | 1 => .array .int
  | _ => .int
abbrev wsX70 : List Cond := u_ws RX7 TX7 3
theorem nmX7 : ∀ a, a < 3 → ∀ b, b < 3 → a ≠ b → (TX7 a).2.1 ≠ (TX7 b).2.1 := by decide +kernel
theorem tyX7_ok : ∀ k, k < 3 → parseFieldDescriptor (TX7 k).2.2.1 = some (tyX7 k) := by decide +kernel
abbrev cX7_init : ByteArray := prog_9_method_1_code
def yX7_init : MethodName := ⟨RX7, "<init>", "()V"⟩
abbrev cX7_latestFinding : ByteArray := prog_9_method_3_code
def yX7_latestFinding : MethodName := ⟨RX7, "latestFinding", "()I"⟩
def RX8 : String := "LinkChances$TidyNet"
def TX8 : u_T := fun k => match k with
  | 0 => ("LinkChances$TidyNet", "nears", "[I", true)
  | 1 => ("LinkChances$TidyNet", "fars", "[I", true)
  | 2 => ("LinkChances$TidyNet", "aboves", "[J", true)
  | 3 => ("LinkChances$TidyNet", "belows", "[J", true)
  | 4 => ("LinkChances$TidyNet", "links", "I", false)
  | 5 => ("LinkChances$TidyNet", "wanted", "I", false)
  | 6 => ("LinkChances$TidyNet", "answerAbove", "J", false)
  | _ => ("LinkChances$TidyNet", "answerBelow", "J", false)
def tyX8 : Nat → FieldType := fun k => match k with
  | 0 => .array .int
  | 1 => .array .int
  | 2 => .array .long
  | 3 => .array .long
  | 4 => .int
  | 5 => .int
  | 6 => .long
  | _ => .long
abbrev wsX80 : List Cond := u_ws RX8 TX8 8
theorem nmX8 : ∀ a, a < 8 → ∀ b, b < 8 → a ≠ b → (TX8 a).2.1 ≠ (TX8 b).2.1 := by decide +kernel
theorem tyX8_ok : ∀ k, k < 8 → parseFieldDescriptor (TX8 k).2.2.1 = some (tyX8 k) := by decide +kernel
abbrev cX8_init : ByteArray := prog_10_method_1_code
def yX8_init : MethodName := ⟨RX8, "<init>", "()V"⟩
abbrev cX8_takeAll : ByteArray := prog_10_method_2_code
def yX8_takeAll : MethodName := ⟨RX8, "takeAll", "(LLinkChances$Net;)V"⟩
abbrev cX8_takeCut : ByteArray := prog_10_method_3_code
def yX8_takeCut : MethodName := ⟨RX8, "takeCut", "(LLinkChances$TidyNet;I)V"⟩
abbrev cX8_takeJoined : ByteArray := prog_10_method_4_code
def yX8_takeJoined : MethodName := ⟨RX8, "takeJoined", "(LLinkChances$TidyNet;I)V"⟩
abbrev cX8_tidy : ByteArray := prog_10_method_5_code
def yX8_tidy : MethodName := ⟨RX8, "tidy", "()I"⟩
abbrev cX8_isSettled : ByteArray := prog_10_method_6_code
def yX8_isSettled : MethodName := ⟨RX8, "isSettled", "()Z"⟩
abbrev cX8_leastLink : ByteArray := prog_10_method_7_code
def yX8_leastLink : MethodName := ⟨RX8, "leastLink", "()I"⟩
abbrev cX8_canBeUp : ByteArray := prog_10_method_8_code
def yX8_canBeUp : MethodName := ⟨RX8, "canBeUp", "(I)Z"⟩
abbrev cX8_canBeDown : ByteArray := prog_10_method_9_code
def yX8_canBeDown : MethodName := ⟨RX8, "canBeDown", "(I)Z"⟩
abbrev cX8_addUp : ByteArray := prog_10_method_10_code
def yX8_addUp : MethodName := ⟨RX8, "addUp", "(ILLinkChances$TidyNet;)V"⟩
abbrev cX8_addDown : ByteArray := prog_10_method_11_code
def yX8_addDown : MethodName := ⟨RX8, "addDown", "(ILLinkChances$TidyNet;)V"⟩
abbrev cX8_answerAbove : ByteArray := prog_10_method_12_code
def yX8_answerAbove : MethodName := ⟨RX8, "answerAbove", "()J"⟩
abbrev cX8_answerBelow : ByteArray := prog_10_method_13_code
def yX8_answerBelow : MethodName := ⟨RX8, "answerBelow", "()J"⟩
abbrev cX8_answer : ByteArray := prog_10_method_14_code
def yX8_answer : MethodName := ⟨RX8, "answer", "(JJ)V"⟩
abbrev cX8_add : ByteArray := prog_10_method_15_code
def yX8_add : MethodName := ⟨RX8, "add", "(JJ)V"⟩
abbrev cX8_isThere : ByteArray := prog_10_method_16_code
def yX8_isThere : MethodName := ⟨RX8, "isThere", "(I)Z"⟩
abbrev cX8_isWanted : ByteArray := prog_10_method_17_code
def yX8_isWanted : MethodName := ⟨RX8, "isWanted", "(I)Z"⟩
abbrev cX8_linksAt : ByteArray := prog_10_method_18_code
def yX8_linksAt : MethodName := ⟨RX8, "linksAt", "(I)I"⟩
abbrev cX8_dropRound : ByteArray := prog_10_method_19_code
def yX8_dropRound : MethodName := ⟨RX8, "dropRound", "()Z"⟩
abbrev cX8_joinTwins : ByteArray := prog_10_method_20_code
def yX8_joinTwins : MethodName := ⟨RX8, "joinTwins", "()Z"⟩
abbrev cX8_areTwins : ByteArray := prog_10_method_21_code
def yX8_areTwins : MethodName := ⟨RX8, "areTwins", "(II)Z"⟩
abbrev cX8_dropEnd : ByteArray := prog_10_method_22_code
def yX8_dropEnd : MethodName := ⟨RX8, "dropEnd", "()Z"⟩
abbrev cX8_joinChain : ByteArray := prog_10_method_23_code
def yX8_joinChain : MethodName := ⟨RX8, "joinChain", "()Z"⟩
abbrev cX8_otherEnd : ByteArray := prog_10_method_24_code
def yX8_otherEnd : MethodName := ⟨RX8, "otherEnd", "(II)I"⟩
def RX9 : String := "LinkChances"
def TX9 : u_T := fun k => match k with
  | 0 => ("LinkChances", "net", "LLinkChances$Net;", true)
  | 1 => ("LinkChances", "odds", "LLinkChances$Odds;", true)
  | 2 => ("LinkChances", "counts", "LLinkChances$SetCounts;", true)
  | 3 => ("LinkChances", "shared", "LLinkChances$Shared;", true)
  | 4 => ("LinkChances", "cutAndJoin", "LLinkChances$CutAndJoin;", true)
  | 5 => ("LinkChances", "orders", "LLinkChances$Orders;", true)
  | _ => ("LinkChances", "sheets", "LLinkChances$Sheets;", true)
def tyX9 : Nat → FieldType := fun k => match k with
  | 0 => .object "LinkChances$Net"
  | 1 => .object "LinkChances$Odds"
  | 2 => .object "LinkChances$SetCounts"
  | 3 => .object "LinkChances$Shared"
  | 4 => .object "LinkChances$CutAndJoin"
  | 5 => .object "LinkChances$Orders"
  | _ => .object "LinkChances$Sheets"
abbrev wsX90 : List Cond := u_ws RX9 TX9 7
theorem nmX9 : ∀ a, a < 7 → ∀ b, b < 7 → a ≠ b → (TX9 a).2.1 ≠ (TX9 b).2.1 := by decide +kernel
theorem tyX9_ok : ∀ k, k < 7 → parseFieldDescriptor (TX9 k).2.2.1 = some (tyX9 k) := by decide +kernel
abbrev cX9_init : ByteArray := prog_1_method_1_code
def yX9_init : MethodName := ⟨RX9, "<init>", "()V"⟩
abbrev cX9_stations : ByteArray := prog_1_method_2_code
def yX9_stations : MethodName := ⟨RX9, "stations", "(I)I"⟩
abbrev cX9_link : ByteArray := prog_1_method_3_code
def yX9_link : MethodName := ⟨RX9, "link", "(IIII)I"⟩
abbrev cX9_back : ByteArray := prog_1_method_4_code
def yX9_back : MethodName := ⟨RX9, "back", "()I"⟩
abbrev cX9_chance : ByteArray := prog_1_method_5_code
def yX9_chance : MethodName := ⟨RX9, "chance", "(III)I"⟩
abbrev cX9_see : ByteArray := prog_1_method_6_code
def yX9_see : MethodName := ⟨RX9, "see", "(II)I"⟩
abbrev cX9_source : ByteArray := prog_1_method_7_code
def yX9_source : MethodName := ⟨RX9, "source", "(I)I"⟩
abbrev cX9_goals : ByteArray := prog_1_method_8_code
def yX9_goals : MethodName := ⟨RX9, "goals", "(I)I"⟩
abbrev cX9_info : ByteArray := prog_1_method_9_code
def yX9_info : MethodName := ⟨RX9, "info", "(II)I"⟩
abbrev cX9_reach : ByteArray := prog_1_method_10_code
def yX9_reach : MethodName := ⟨RX9, "reach", "(I)J"⟩
abbrev cX9_joined : ByteArray := prog_1_method_11_code
def yX9_joined : MethodName := ⟨RX9, "joined", "(I)J"⟩
abbrev cX9_wide : ByteArray := prog_1_method_12_code
def yX9_wide : MethodName := ⟨RX9, "wide", "(I)I"⟩
abbrev cX9_widest : ByteArray := prog_1_method_13_code
def yX9_widest : MethodName := ⟨RX9, "widest", "()I"⟩
abbrev cX9_pair : ByteArray := prog_1_method_14_code
def yX9_pair : MethodName := ⟨RX9, "pair", "(III)J"⟩
abbrev cX9_rule : ByteArray := prog_1_method_15_code
def yX9_rule : MethodName := ⟨RX9, "rule", "(I)J"⟩
abbrev cX9_sets : ByteArray := prog_1_method_16_code
def yX9_sets : MethodName := ⟨RX9, "sets", "(I)I"⟩
abbrev cX9_like : ByteArray := prog_1_method_17_code
def yX9_like : MethodName := ⟨RX9, "like", "(III)J"⟩
abbrev cX9_least : ByteArray := prog_1_method_18_code
def yX9_least : MethodName := ⟨RX9, "least", "(I)I"⟩
abbrev cX9_worth : ByteArray := prog_1_method_19_code
def yX9_worth : MethodName := ⟨RX9, "worth", "(II)J"⟩
abbrev cX9_worthiest : ByteArray := prog_1_method_20_code
def yX9_worthiest : MethodName := ⟨RX9, "worthiest", "()I"⟩
abbrev cX9_better : ByteArray := prog_1_method_21_code
def yX9_better : MethodName := ⟨RX9, "better", "(IIII)J"⟩
abbrev cX9_count : ByteArray := prog_1_method_33_code
def yX9_count : MethodName := ⟨RX9, "count", "(I)I"⟩
abbrev cX9_isSide : ByteArray := prog_1_method_35_code
def yX9_isSide : MethodName := ⟨RX9, "isSide", "(I)Z"⟩
abbrev cX9_refused : ByteArray := prog_1_method_36_code
def yX9_refused : MethodName := ⟨RX9, "refused", "(I)J"⟩
abbrev cX9_alike : ByteArray := prog_1_method_38_code
def yX9_alike : MethodName := ⟨RX9, "alike", "(III)J"⟩
def RX10 : String := "LinkChancesModel"
def TX10 : u_T := fun k => match k with
  | _ => ("", "", "", false)
def tyX10 : Nat → FieldType := fun k => match k with
  | _ => .int
abbrev wsX100 : List Cond := u_ws RX10 TX10 0
theorem nmX10 : ∀ a, a < 0 → ∀ b, b < 0 → a ≠ b → (TX10 a).2.1 ≠ (TX10 b).2.1 := by decide +kernel
theorem tyX10_ok : ∀ k, k < 0 → parseFieldDescriptor (TX10 k).2.2.1 = some (tyX10 k) := by decide +kernel
def RJ6 : String := "java/lang/Integer"
def TJ6 : u_T := fun k => match k with
  | _ => ("", "", "", false)
def tyJ6 : Nat → FieldType := fun k => match k with
  | _ => .int
abbrev wsJ60 : List Cond := u_ws RJ6 TJ6 0
theorem nmJ6 : ∀ a, a < 0 → ∀ b, b < 0 → a ≠ b → (TJ6 a).2.1 ≠ (TJ6 b).2.1 := by decide +kernel
theorem tyJ6_ok : ∀ k, k < 0 → parseFieldDescriptor (TJ6 k).2.2.1 = some (tyJ6 k) := by decide +kernel
abbrev cJ6_numberOfTrailingZeros_0f7a4 : ByteArray := prog_13_method_48_code
def yJ6_numberOfTrailingZeros_0f7a4 : MethodName := ⟨RJ6, "numberOfTrailingZeros", "(I)I"⟩
abbrev cJ6_bitCount_0f7a4 : ByteArray := prog_13_method_49_code
def yJ6_bitCount_0f7a4 : MethodName := ⟨RJ6, "bitCount", "(I)I"⟩
def RJ9 : String := "java/lang/Math"
def TJ9 : u_T := fun k => match k with
  | _ => ("", "", "", false)
def tyJ9 : Nat → FieldType := fun k => match k with
  | _ => .int
abbrev wsJ90 : List Cond := u_ws RJ9 TJ9 0
theorem nmJ9 : ∀ a, a < 0 → ∀ b, b < 0 → a ≠ b → (TJ9 a).2.1 ≠ (TJ9 b).2.1 := by decide +kernel
theorem tyJ9_ok : ∀ k, k < 0 → parseFieldDescriptor (TJ9 k).2.2.1 = some (tyJ9 k) := by decide +kernel
abbrev cJ9_max_7cf53 : ByteArray := prog_14_method_65_code
def yJ9_max_7cf53 : MethodName := ⟨RJ9, "max", "(II)I"⟩
abbrev cJ9_min_7cf53 : ByteArray := prog_14_method_69_code
def yJ9_min_7cf53 : MethodName := ⟨RJ9, "min", "(II)I"⟩
def RL : String := "LinkChancesLaw"
abbrev cL_cell : ByteArray := method_2_code
def yL_cell : MethodName := ⟨RL, "cell", "([II)I"⟩
abbrev cL_up : ByteArray := method_3_code
def yL_up : MethodName := ⟨RL, "up", "(II)I"⟩
abbrev cL_divisor : ByteArray := method_4_code
def yL_divisor : MethodName := ⟨RL, "divisor", "(JJ)J"⟩
abbrev cL_tells : ByteArray := method_5_code
def yL_tells : MethodName := ⟨RL, "tells", "(LLinkChances;[II[I)Z"⟩
abbrev cL_less : ByteArray := method_10_code
def yL_less : MethodName := ⟨RL, "less", "(JJJJ)Z"⟩
abbrev cL_splits : ByteArray := method_11_code
def yL_splits : MethodName := ⟨RL, "splits", "(LLinkChances;I)Z"⟩
abbrev cL_law : ByteArray := code
def yL_law : MethodName := ⟨RL, "law", "([I)Z"⟩
def wsL_law_r1 : List Cond := [Cond.classLink RL 20 RX9, Cond.instantiable RX9 7, Cond.initialized RX9, Cond.arrayClass .int, Cond.constantLong RL 76 (2), Cond.methodLink RL 68 yX9_init, Cond.instanceMethod yX9_init, Cond.code yX9_init cX9_init 1 none, Cond.methodLink RX9 3 objectInit, Cond.instanceMethod objectInit, Cond.code objectInit ⟨#[0xb1]⟩ 1 none, Cond.classLink RX9 9 RX2, Cond.instantiable RX2 10, Cond.initialized RX2, Cond.fieldLink RX9 12 "LinkChances" "net" "LLinkChances$Net;", Cond.classLink RX9 16 RX3, Cond.instantiable RX3 3, Cond.initialized RX3, Cond.fieldLink RX9 21 "LinkChances" "odds" "LLinkChances$Odds;", Cond.classLink RX9 25 RX5, Cond.instantiable RX5 2, Cond.initialized RX5, Cond.fieldLink RX9 28 "LinkChances" "counts" "LLinkChances$SetCounts;", Cond.classLink RX9 32 RX6]
def wsL_law_r2 : List Cond := [Cond.instantiable RX6 2, Cond.initialized RX6, Cond.fieldLink RX9 35 "LinkChances" "shared" "LLinkChances$Shared;", Cond.classLink RX9 39 RX0, Cond.instantiable RX0 5, Cond.initialized RX0, Cond.fieldLink RX9 42 "LinkChances" "cutAndJoin" "LLinkChances$CutAndJoin;", Cond.classLink RX9 46 RX4, Cond.instantiable RX4 4, Cond.initialized RX4, Cond.fieldLink RX9 49 "LinkChances" "orders" "LLinkChances$Orders;", Cond.classLink RX9 53 RX7, Cond.instantiable RX7 3, Cond.initialized RX7, Cond.fieldLink RX9 56 "LinkChances" "sheets" "LLinkChances$Sheets;", Cond.methodLink RX9 11 yX2_init, Cond.instanceMethod yX2_init, Cond.code yX2_init cX2_init 2 none, Cond.methodLink RX2 3 objectInit, Cond.fieldLink RX2 9 "LinkChances$Net" "lessers" "[I", Cond.fieldLink RX2 15 "LinkChances$Net" "greaters" "[I", Cond.fieldLink RX2 18 "LinkChances$Net" "aboves" "[I", Cond.fieldLink RX2 21 "LinkChances$Net" "belows" "[I", Cond.fieldLink RX2 24 "LinkChances$Net" "seens" "[I"]
def wsL_law_r3 : List Cond := [Cond.arrayClass .long, Cond.fieldLink RX2 27 "LinkChances$Net" "joinings" "[J", Cond.fieldLink RX2 31 "LinkChances$Net" "stationCount" "I", Cond.methodLink RX9 18 yX3_init, Cond.instanceMethod yX3_init, Cond.code yX3_init cX3_init 2 none, Cond.methodLink RX3 3 objectInit, Cond.fieldLink RX3 9 "LinkChances$Odds" "parts" "[J", Cond.fieldLink RX3 15 "LinkChances$Odds" "net" "LLinkChances$Net;", Cond.fieldLink RX3 19 "LinkChances$Odds" "whole" "J", Cond.methodLink RX9 27 yX5_init, Cond.instanceMethod yX5_init, Cond.code yX5_init cX5_init 2 none, Cond.methodLink RX5 3 objectInit, Cond.fieldLink RX5 9 "LinkChances$SetCounts" "reaching" "[I", Cond.fieldLink RX5 15 "LinkChances$SetCounts" "net" "LLinkChances$Net;", Cond.methodLink RX9 34 yX6_init, Cond.instanceMethod yX6_init, Cond.code yX6_init cX6_init 2 none, Cond.methodLink RX6 3 objectInit, Cond.fieldLink RX6 9 "LinkChances$Shared" "looks" "[J", Cond.fieldLink RX6 15 "LinkChances$Shared" "net" "LLinkChances$Net;", Cond.methodLink RX9 41 yX0_init, Cond.instanceMethod yX0_init]
def wsL_law_r4 : List Cond := [Cond.code yX0_init cX0_init 3 none, Cond.methodLink RX0 3 objectInit, Cond.classLink RX0 9 RX8, Cond.fieldLink RX0 11 "LinkChances$CutAndJoin" "levels" "[LLinkChances$TidyNet;", Cond.fieldLink RX0 17 "LinkChances$CutAndJoin" "net" "LLinkChances$Net;", Cond.instantiable RX8 8, Cond.initialized RX8, Cond.instanceMethod yX8_init, Cond.code yX8_init cX8_init 1 none, Cond.methodLink RX8 3 objectInit, Cond.fieldLink RX8 9 "LinkChances$TidyNet" "nears" "[I", Cond.fieldLink RX8 15 "LinkChances$TidyNet" "fars" "[I", Cond.fieldLink RX8 18 "LinkChances$TidyNet" "aboves" "[J", Cond.fieldLink RX8 22 "LinkChances$TidyNet" "belows" "[J", Cond.methodLink RX9 48 yX4_init, Cond.instanceMethod yX4_init, Cond.code yX4_init cX4_init 2 none, Cond.methodLink RX4 1 objectInit, Cond.fieldLink RX4 9 "LinkChances$Orders" "text" "[I", Cond.fieldLink RX4 13 "LinkChances$Orders" "net" "LLinkChances$Net;", Cond.methodLink RX9 55 yX7_init, Cond.instanceMethod yX7_init, Cond.code yX7_init cX7_init 2 none, Cond.methodLink RX7 3 objectInit]
def wsL_law_r5 : List Cond := [Cond.classLink RX7 11 "[[J", Cond.fieldLink RX7 13 "LinkChances$Sheets" "rows" "[[J", Cond.fieldLink RX7 16 "LinkChances$Sheets" "sizes" "[I", Cond.methodLink RL 69 yL_tells, Cond.static yL_tells, Cond.initialized RL, Cond.code yL_tells cL_tells 9 (some .boolean), Cond.methodLink RL 9 yL_cell, Cond.static yL_cell, Cond.code yL_cell cL_cell 2 (some .int), Cond.constant RL 7 (763049417), Cond.methodLink RL 15 yL_up, Cond.static yL_up, Cond.code yL_up cL_up 2 (some .int), Cond.constant RL 8 (2147483647), Cond.methodLink RL 19 yX9_stations, Cond.instanceMethod yX9_stations, Cond.selects RX9 yX9_stations yX9_stations, Cond.code yX9_stations cX9_stations 3 (some .int), Cond.methodLink RX9 60 yX2_stationCount, Cond.instanceMethod yX2_stationCount, Cond.selects RX2 yX2_stationCount yX2_stationCount, Cond.code yX2_stationCount cX2_stationCount 1 (some .int), Cond.methodLink RX9 64 yX2_renew]
def wsL_law_r6 : List Cond := [Cond.instanceMethod yX2_renew, Cond.selects RX2 yX2_renew yX2_renew, Cond.code yX2_renew cX2_renew 2 none, Cond.fieldLink RX2 35 "LinkChances$Net" "linkCount" "I", Cond.fieldLink RX2 38 "LinkChances$Net" "source" "I", Cond.fieldLink RX2 41 "LinkChances$Net" "goals" "I", Cond.methodLink RL 25 yX9_link, Cond.instanceMethod yX9_link, Cond.selects RX9 yX9_link yX9_link, Cond.code yX9_link cX9_link 5 (some .int), Cond.methodLink RX9 68 yX2_mayLink, Cond.instanceMethod yX2_mayLink, Cond.selects RX2 yX2_mayLink yX2_mayLink, Cond.code yX2_mayLink cX2_mayLink 9 (some .boolean), Cond.methodLink RX2 44 yX2_hasStation, Cond.instanceMethod yX2_hasStation, Cond.selects RX2 yX2_hasStation yX2_hasStation, Cond.code yX2_hasStation cX2_hasStation 3 (some .boolean), Cond.methodLink RX2 48 yX1_isChance, Cond.static yX1_isChance, Cond.initialized RX1, Cond.code yX1_isChance cX1_isChance 4 (some .boolean), Cond.constantLong RX1 7 (9), Cond.methodLink RX9 72 yX2_hasRoom]
def wsL_law_r7 : List Cond := [Cond.instanceMethod yX2_hasRoom, Cond.selects RX2 yX2_hasRoom yX2_hasRoom, Cond.code yX2_hasRoom cX2_hasRoom 1 (some .boolean), Cond.methodLink RX9 76 yX2_addLink, Cond.instanceMethod yX2_addLink, Cond.selects RX2 yX2_addLink yX2_addLink, Cond.code yX2_addLink cX2_addLink 6 (some .int), Cond.methodLink RX2 54 Lib.Math.min.name, Cond.static Lib.Math.min.name, Cond.initialized "java/lang/Math", Cond.code Lib.Math.min.name Lib.Math.min.code 2 (some .int), Cond.methodLink RX2 60 Lib.Math.max.name, Cond.static Lib.Math.max.name, Cond.code Lib.Math.max.name Lib.Math.max.code 2 (some .int), Cond.methodLink RX2 63 yX2_addSetsWith, Cond.instanceMethod yX2_addSetsWith, Cond.selects RX2 yX2_addSetsWith yX2_addSetsWith, Cond.code yX2_addSetsWith cX2_addSetsWith 4 none, Cond.methodLink RX2 92 yX2_lesserOf, Cond.instanceMethod yX2_lesserOf, Cond.selects RX2 yX2_lesserOf yX2_lesserOf, Cond.code yX2_lesserOf cX2_lesserOf 2 (some .int), Cond.methodLink RX2 67 yX2_hasLink, Cond.instanceMethod yX2_hasLink]
def wsL_law_r8 : List Cond := [Cond.selects RX2 yX2_hasLink yX2_hasLink, Cond.code yX2_hasLink cX2_hasLink 2 (some .boolean), Cond.methodLink RX2 95 yX2_greaterOf, Cond.instanceMethod yX2_greaterOf, Cond.selects RX2 yX2_greaterOf yX2_greaterOf, Cond.code yX2_greaterOf cX2_greaterOf 2 (some .int), Cond.methodLink RX2 98 yX2_joinedOver, Cond.static yX2_joinedOver, Cond.code yX2_joinedOver cX2_joinedOver 6 (some .long), Cond.methodLink RX2 81 yX2_stationsIn, Cond.static yX2_stationsIn, Cond.code yX2_stationsIn cX2_stationsIn 3 (some .int), Cond.methodLink RL 29 yX9_see, Cond.instanceMethod yX9_see, Cond.selects RX9 yX9_see yX9_see, Cond.code yX9_see cX9_see 4 (some .int), Cond.methodLink RX9 86 yX2_hasLink, Cond.methodLink RX9 107 yX2_seenOf, Cond.instanceMethod yX2_seenOf, Cond.selects RX2 yX2_seenOf yX2_seenOf, Cond.code yX2_seenOf cX2_seenOf 2 (some .int), Cond.methodLink RX9 110 yX2_setSeen, Cond.instanceMethod yX2_setSeen, Cond.selects RX2 yX2_setSeen yX2_setSeen]
def wsL_law_r9 : List Cond := [Cond.code yX2_setSeen cX2_setSeen 3 none, Cond.methodLink RL 32 yX9_source, Cond.instanceMethod yX9_source, Cond.selects RX9 yX9_source yX9_source, Cond.code yX9_source cX9_source 3 (some .int), Cond.methodLink RX9 114 yX2_hasStation, Cond.methodLink RX9 118 yX2_sourceStation, Cond.instanceMethod yX2_sourceStation, Cond.selects RX2 yX2_sourceStation yX2_sourceStation, Cond.code yX2_sourceStation cX2_sourceStation 1 (some .int), Cond.methodLink RX9 121 yX2_setSource, Cond.instanceMethod yX2_setSource, Cond.selects RX2 yX2_setSource yX2_setSource, Cond.code yX2_setSource cX2_setSource 2 none, Cond.methodLink RL 35 yX9_goals, Cond.instanceMethod yX9_goals, Cond.selects RX9 yX9_goals yX9_goals, Cond.code yX9_goals cX9_goals 3 (some .int), Cond.methodLink RX9 124 yX2_allStations, Cond.instanceMethod yX2_allStations, Cond.selects RX2 yX2_allStations yX2_allStations, Cond.code yX2_allStations cX2_allStations 1 (some .int), Cond.methodLink RX9 127 yX2_goalBits, Cond.instanceMethod yX2_goalBits]
def wsL_law_r10 : List Cond := [Cond.selects RX2 yX2_goalBits yX2_goalBits, Cond.code yX2_goalBits cX2_goalBits 1 (some .int), Cond.methodLink RX9 130 yX2_setGoals, Cond.instanceMethod yX2_setGoals, Cond.selects RX2 yX2_setGoals yX2_setGoals, Cond.code yX2_setGoals cX2_setGoals 2 none, Cond.methodLink RL 38 yX9_count, Cond.instanceMethod yX9_count, Cond.selects RX9 yX9_count yX9_count, Cond.code yX9_count cX9_count 2 (some .int), Cond.methodLink RX9 80 yX2_linkCount, Cond.instanceMethod yX2_linkCount, Cond.selects RX2 yX2_linkCount yX2_linkCount, Cond.code yX2_linkCount cX2_linkCount 1 (some .int), Cond.methodLink RX9 261 yX2_wantedStations, Cond.instanceMethod yX2_wantedStations, Cond.selects RX2 yX2_wantedStations yX2_wantedStations, Cond.code yX2_wantedStations cX2_wantedStations 1 (some .int), Cond.methodLink RX9 264 yJ6_bitCount_0f7a4, Cond.static yJ6_bitCount_0f7a4, Cond.initialized RJ6, Cond.code yJ6_bitCount_0f7a4 cJ6_bitCount_0f7a4 1 (some .int), Cond.constant RJ6 265 (1431655765), Cond.constant RJ6 266 (858993459)]
def wsL_law_r11 : List Cond := [Cond.constant RJ6 267 (252645135), Cond.methodLink RX9 269 yX2_linksSeen, Cond.instanceMethod yX2_linksSeen, Cond.selects RX2 yX2_linksSeen yX2_linksSeen, Cond.code yX2_linksSeen cX2_linksSeen 4 (some .int), Cond.methodLink RX2 71 yX2_seenOf, Cond.methodLink RX9 272 yX2_allLinks, Cond.instanceMethod yX2_allLinks, Cond.selects RX2 yX2_allLinks yX2_allLinks, Cond.code yX2_allLinks cX2_allLinks 1 (some .int), Cond.methodLink RX9 275 yX2_reaches, Cond.instanceMethod yX2_reaches, Cond.selects RX2 yX2_reaches yX2_reaches, Cond.code yX2_reaches cX2_reaches 2 (some .boolean), Cond.methodLink RX2 85 yX2_wantedStations, Cond.methodLink RX2 89 yX2_joinedWith, Cond.instanceMethod yX2_joinedWith, Cond.selects RX2 yX2_joinedWith yX2_joinedWith, Cond.code yX2_joinedWith cX2_joinedWith 3 (some .int), Cond.methodLink RX9 278 yX4_length, Cond.instanceMethod yX4_length, Cond.selects RX4 yX4_length yX4_length, Cond.code yX4_length cX4_length 1 (some .int), Cond.fieldLink RX4 17 "LinkChances$Orders" "length" "I"]
def wsL_law_r12 : List Cond := [Cond.methodLink RX9 281 yX7_latestFinding, Cond.instanceMethod yX7_latestFinding, Cond.selects RX7 yX7_latestFinding yX7_latestFinding, Cond.code yX7_latestFinding cX7_latestFinding 1 (some .int), Cond.fieldLink RX7 20 "LinkChances$Sheets" "latest" "I", Cond.methodLink RL 60 yX9_reach, Cond.instanceMethod yX9_reach, Cond.selects RX9 yX9_reach yX9_reach, Cond.code yX9_reach cX9_reach 2 (some .long), Cond.methodLink RX9 139 yX9_isSide, Cond.static yX9_isSide, Cond.code yX9_isSide cX9_isSide 1 (some .boolean), Cond.methodLink RX9 142 yX9_refused, Cond.static yX9_refused, Cond.code yX9_refused cX9_refused 1 (some .long), Cond.constantLong RX9 306 (-9223372036854775808), Cond.methodLink RX9 146 yX3_fill, Cond.instanceMethod yX3_fill, Cond.selects RX3 yX3_fill yX3_fill, Cond.code yX3_fill cX3_fill 1 none, Cond.methodLink RX3 23 yX3_fillWith, Cond.instanceMethod yX3_fillWith, Cond.selects RX3 yX3_fillWith yX3_fillWith, Cond.code yX3_fillWith cX3_fillWith 5 none]
def wsL_law_r13 : List Cond := [Cond.methodLink RX3 27 yX2_linkCount, Cond.methodLink RX3 33 yX3_spread, Cond.instanceMethod yX3_spread, Cond.selects RX3 yX3_spread yX3_spread, Cond.code yX3_spread cX3_spread 6 none, Cond.methodLink RX3 36 yX2_upParts, Cond.instanceMethod yX2_upParts, Cond.selects RX2 yX2_upParts yX2_upParts, Cond.code yX2_upParts cX2_upParts 3 (some .int), Cond.methodLink RX2 75 yX2_aboveOf, Cond.instanceMethod yX2_aboveOf, Cond.selects RX2 yX2_aboveOf yX2_aboveOf, Cond.code yX2_aboveOf cX2_aboveOf 2 (some .int), Cond.methodLink RX3 40 yX2_wholeParts, Cond.instanceMethod yX2_wholeParts, Cond.selects RX2 yX2_wholeParts yX2_wholeParts, Cond.code yX2_wholeParts cX2_wholeParts 2 (some .int), Cond.methodLink RX2 78 yX2_belowOf, Cond.instanceMethod yX2_belowOf, Cond.selects RX2 yX2_belowOf yX2_belowOf, Cond.code yX2_belowOf cX2_belowOf 2 (some .int), Cond.methodLink RX9 149 yX3_reachParts, Cond.instanceMethod yX3_reachParts, Cond.selects RX3 yX3_reachParts yX3_reachParts]
def wsL_law_r14 : List Cond := [Cond.code yX3_reachParts cX3_reachParts 4 (some .long), Cond.methodLink RX3 49 yX2_allLinks, Cond.methodLink RX3 52 yX2_reaches, Cond.methodLink RX9 153 yX3_told, Cond.instanceMethod yX3_told, Cond.selects RX3 yX3_told yX3_told, Cond.code yX3_told cX3_told 4 (some .long), Cond.methodLink RX3 43 yX1_told, Cond.static yX1_told, Cond.code yX1_told cX1_told 7 (some .long), Cond.methodLink RX1 9 yX1_commonDivisor, Cond.static yX1_commonDivisor, Cond.code yX1_commonDivisor cX1_commonDivisor 7 (some .long), Cond.methodLink RL 49 yL_divisor, Cond.static yL_divisor, Cond.code yL_divisor cL_divisor 10 (some .long), Cond.methodLink RL 73 yX9_joined, Cond.instanceMethod yX9_joined, Cond.selects RX9 yX9_joined yX9_joined, Cond.code yX9_joined cX9_joined 2 (some .long), Cond.methodLink RX9 157 yX0_askAll, Cond.instanceMethod yX0_askAll, Cond.selects RX0 yX0_askAll yX0_askAll, Cond.code yX0_askAll cX0_askAll 1 none]
def wsL_law_r15 : List Cond := [Cond.fieldLink RX0 22 "LinkChances$CutAndJoin" "steps" "I", Cond.fieldLink RX0 26 "LinkChances$CutAndJoin" "deep" "I", Cond.fieldLink RX0 29 "LinkChances$CutAndJoin" "tidied" "I", Cond.methodLink RX0 32 yX8_takeAll, Cond.instanceMethod yX8_takeAll, Cond.selects RX8 yX8_takeAll yX8_takeAll, Cond.code yX8_takeAll cX8_takeAll 3 none, Cond.fieldLink RX8 31 "LinkChances$TidyNet" "links" "I", Cond.fieldLink RX8 38 "LinkChances$TidyNet" "wanted" "I", Cond.methodLink RX8 25 yX2_allLinks, Cond.methodLink RX8 35 yX2_wantedStations, Cond.methodLink RX8 41 yX2_linkCount, Cond.methodLink RX8 44 yX2_lesserOf, Cond.methodLink RX8 48 yX2_greaterOf, Cond.methodLink RX8 51 yX2_upParts, Cond.methodLink RX8 54 yX2_wholeParts, Cond.methodLink RX8 57 yX8_answer, Cond.instanceMethod yX8_answer, Cond.selects RX8 yX8_answer yX8_answer, Cond.code yX8_answer cX8_answer 5 none, Cond.fieldLink RX8 105 "LinkChances$TidyNet" "answerAbove" "J", Cond.fieldLink RX8 109 "LinkChances$TidyNet" "answerBelow" "J", Cond.methodLink RX0 36 yX0_ask, Cond.static yX0_ask]
def wsL_law_r16 : List Cond := [Cond.code yX0_ask cX0_ask 5 none, Cond.methodLink RX0 47 Lib.Math.max.name, Cond.methodLink RX0 53 yX8_tidy, Cond.instanceMethod yX8_tidy, Cond.selects RX8 yX8_tidy yX8_tidy, Cond.code yX8_tidy cX8_tidy 2 (some .int), Cond.methodLink RX8 78 yX8_dropRound, Cond.instanceMethod yX8_dropRound, Cond.selects RX8 yX8_dropRound yX8_dropRound, Cond.code yX8_dropRound cX8_dropRound 2 (some .boolean), Cond.methodLink RX8 102 yX8_isThere, Cond.instanceMethod yX8_isThere, Cond.selects RX8 yX8_isThere yX8_isThere, Cond.code yX8_isThere cX8_isThere 2 (some .boolean), Cond.methodLink RX8 82 yX8_joinTwins, Cond.instanceMethod yX8_joinTwins, Cond.selects RX8 yX8_joinTwins yX8_joinTwins, Cond.code yX8_joinTwins cX8_joinTwins 5 (some .boolean), Cond.methodLink RX8 125 yX8_areTwins, Cond.instanceMethod yX8_areTwins, Cond.selects RX8 yX8_areTwins yX8_areTwins, Cond.code yX8_areTwins cX8_areTwins 3 (some .boolean), Cond.methodLink RX8 85 yX8_dropEnd, Cond.instanceMethod yX8_dropEnd]
def wsL_law_r17 : List Cond := [Cond.selects RX8 yX8_dropEnd yX8_dropEnd, Cond.code yX8_dropEnd cX8_dropEnd 4 (some .boolean), Cond.methodLink RX8 65 Lib.Math.min.name, Cond.methodLink RX8 96 yX8_linksAt, Cond.instanceMethod yX8_linksAt, Cond.selects RX8 yX8_linksAt yX8_linksAt, Cond.code yX8_linksAt cX8_linksAt 4 (some .int), Cond.methodLink RX8 74 yX8_isWanted, Cond.instanceMethod yX8_isWanted, Cond.selects RX8 yX8_isWanted yX8_isWanted, Cond.code yX8_isWanted cX8_isWanted 2 (some .boolean), Cond.methodLink RX8 91 yJ6_bitCount_0f7a4, Cond.methodLink RX8 99 yJ6_numberOfTrailingZeros_0f7a4, Cond.static yJ6_numberOfTrailingZeros_0f7a4, Cond.code yJ6_numberOfTrailingZeros_0f7a4 cJ6_numberOfTrailingZeros_0f7a4 2 (some .int), Cond.constant RJ6 264 (65536), Cond.methodLink RX8 88 yX8_joinChain, Cond.instanceMethod yX8_joinChain, Cond.selects RX8 yX8_joinChain yX8_joinChain, Cond.code yX8_joinChain cX8_joinChain 8 (some .boolean), Cond.methodLink RX8 129 yX8_otherEnd, Cond.instanceMethod yX8_otherEnd, Cond.selects RX8 yX8_otherEnd yX8_otherEnd, Cond.code yX8_otherEnd cX8_otherEnd 3 (some .int)]
def wsL_law_r18 : List Cond := [Cond.methodLink RX0 57 yX8_isSettled, Cond.instanceMethod yX8_isSettled, Cond.selects RX8 yX8_isSettled yX8_isSettled, Cond.code yX8_isSettled cX8_isSettled 2 (some .boolean), Cond.methodLink RX0 61 yX8_leastLink, Cond.instanceMethod yX8_leastLink, Cond.selects RX8 yX8_leastLink yX8_leastLink, Cond.code yX8_leastLink cX8_leastLink 1 (some .int), Cond.methodLink RX0 64 yX8_canBeUp, Cond.instanceMethod yX8_canBeUp, Cond.selects RX8 yX8_canBeUp yX8_canBeUp, Cond.code yX8_canBeUp cX8_canBeUp 2 (some .boolean), Cond.methodLink RX0 68 yX8_takeJoined, Cond.instanceMethod yX8_takeJoined, Cond.selects RX8 yX8_takeJoined yX8_takeJoined, Cond.code yX8_takeJoined cX8_takeJoined 6 none, Cond.methodLink RX8 71 Lib.Math.max.name, Cond.methodLink RX8 61 yX8_takeCut, Cond.instanceMethod yX8_takeCut, Cond.selects RX8 yX8_takeCut yX8_takeCut, Cond.code yX8_takeCut cX8_takeCut 4 none, Cond.methodLink RX0 72 yX8_addUp, Cond.instanceMethod yX8_addUp, Cond.selects RX8 yX8_addUp yX8_addUp]
def wsL_law_r19 : List Cond := [Cond.code yX8_addUp cX8_addUp 3 none, Cond.methodLink RX8 112 yX8_add, Cond.instanceMethod yX8_add, Cond.selects RX8 yX8_add yX8_add, Cond.code yX8_add cX8_add 11 none, Cond.methodLink RX8 115 yX1_commonDivisor, Cond.methodLink RX8 121 yX1_told, Cond.methodLink RX0 76 yX8_canBeDown, Cond.instanceMethod yX8_canBeDown, Cond.selects RX8 yX8_canBeDown yX8_canBeDown, Cond.code yX8_canBeDown cX8_canBeDown 2 (some .boolean), Cond.methodLink RX0 79 yX8_takeCut, Cond.methodLink RX0 82 yX8_addDown, Cond.instanceMethod yX8_addDown, Cond.selects RX8 yX8_addDown yX8_addDown, Cond.code yX8_addDown cX8_addDown 3 none, Cond.methodLink RX9 160 yX0_told, Cond.instanceMethod yX0_told, Cond.selects RX0 yX0_told yX0_told, Cond.code yX0_told cX0_told 2 (some .long), Cond.methodLink RX0 40 yX8_answerAbove, Cond.instanceMethod yX8_answerAbove, Cond.selects RX8 yX8_answerAbove yX8_answerAbove, Cond.code yX8_answerAbove cX8_answerAbove 1 (some .long)]
def wsL_law_r20 : List Cond := [Cond.methodLink RX0 44 yX8_answerBelow, Cond.instanceMethod yX8_answerBelow, Cond.selects RX8 yX8_answerBelow yX8_answerBelow, Cond.code yX8_answerBelow cX8_answerBelow 1 (some .long), Cond.methodLink RL 78 yL_splits, Cond.static yL_splits, Cond.code yL_splits cL_splits 37 (some .boolean), Cond.methodLink RL 53 yX9_info, Cond.instanceMethod yX9_info, Cond.selects RX9 yX9_info yX9_info, Cond.code yX9_info cX9_info 3 (some .int), Cond.methodLink RX9 133 yX2_lesserOf, Cond.methodLink RX9 136 yX2_greaterOf, Cond.methodLink RX9 96 yX2_aboveOf, Cond.methodLink RX9 100 yX2_belowOf, Cond.methodLink RL 56 yX9_worth, Cond.instanceMethod yX9_worth, Cond.selects RX9 yX9_worth yX9_worth, Cond.code yX9_worth cX9_worth 3 (some .long), Cond.methodLink RX9 189 yX3_worthParts, Cond.instanceMethod yX3_worthParts, Cond.selects RX3 yX3_worthParts yX3_worthParts, Cond.code yX3_worthParts cX3_worthParts 6 (some .long), Cond.methodLink RX3 68 yX2_hasLink]
def wsL_law_r21 : List Cond := [Cond.methodLink RL 64 yL_less, Cond.static yL_less, Cond.code yL_less cL_less 10 (some .boolean), Cond.methodLink RL 82 yX9_worthiest, Cond.instanceMethod yX9_worthiest, Cond.selects RX9 yX9_worthiest yX9_worthiest, Cond.code yX9_worthiest cX9_worthiest 1 (some .int), Cond.methodLink RX9 192 yX3_worthiestLink, Cond.instanceMethod yX3_worthiestLink, Cond.selects RX3 yX3_worthiestLink yX3_worthiestLink, Cond.code yX3_worthiestLink cX3_worthiestLink 7 (some .int), Cond.constantLong RX3 71 (-1), Cond.methodLink RX3 73 yX2_seenOf, Cond.methodLink RX3 76 yX3_worthParts, Cond.methodLink RL 86 yX9_better, Cond.instanceMethod yX9_better, Cond.selects RX9 yX9_better yX9_better, Cond.code yX9_better cX9_better 5 (some .long), Cond.methodLink RX9 90 yX1_isChance, Cond.methodLink RX9 195 yX3_fillWith, Cond.methodLink RL 90 yX9_pair, Cond.instanceMethod yX9_pair, Cond.selects RX9 yX9_pair yX9_pair, Cond.code yX9_pair cX9_pair 4 (some .long)]
def wsL_law_r22 : List Cond := [Cond.methodLink RX9 168 yX3_pairParts, Cond.instanceMethod yX3_pairParts, Cond.selects RX3 yX3_pairParts yX3_pairParts, Cond.code yX3_pairParts cX3_pairParts 6 (some .long), Cond.methodLink RX3 56 yX2_joinedWith, Cond.methodLink RL 94 yX9_rule, Cond.instanceMethod yX9_rule, Cond.selects RX9 yX9_rule yX9_rule, Cond.code yX9_rule cX9_rule 2 (some .long), Cond.methodLink RX9 172 yX3_ruleParts, Cond.instanceMethod yX3_ruleParts, Cond.selects RX3 yX3_ruleParts yX3_ruleParts, Cond.code yX3_ruleParts cX3_ruleParts 4 (some .long), Cond.methodLink RX3 60 yX2_sourceStation, Cond.methodLink RX3 63 yJ6_bitCount_0f7a4, Cond.methodLink RL 97 yX9_widest, Cond.instanceMethod yX9_widest, Cond.selects RX9 yX9_widest yX9_widest, Cond.code yX9_widest cX9_widest 1 (some .int), Cond.methodLink RX9 165 yX6_greatestWidth, Cond.instanceMethod yX6_greatestWidth, Cond.selects RX6 yX6_greatestWidth yX6_greatestWidth, Cond.code yX6_greatestWidth cX6_greatestWidth 3 (some .int), Cond.methodLink RX6 29 Lib.Math.max.name]
def wsL_law_r23 : List Cond := [Cond.methodLink RX6 19 yX2_linkCount, Cond.methodLink RX6 25 yX6_widthBehind, Cond.instanceMethod yX6_widthBehind, Cond.selects RX6 yX6_widthBehind yX6_widthBehind, Cond.code yX6_widthBehind cX6_widthBehind 10 (some .int), Cond.methodLink RX6 35 yX6_openBehind, Cond.instanceMethod yX6_openBehind, Cond.selects RX6 yX6_openBehind yX6_openBehind, Cond.code yX6_openBehind cX6_openBehind 4 (some .int), Cond.methodLink RX6 60 yX2_lesserOf, Cond.methodLink RX6 63 yX2_greaterOf, Cond.methodLink RX6 38 yX6_surelyUp, Cond.instanceMethod yX6_surelyUp, Cond.selects RX6 yX6_surelyUp yX6_surelyUp, Cond.code yX6_surelyUp cX6_surelyUp 4 (some .int), Cond.methodLink RX6 66 yX2_upParts, Cond.methodLink RX6 69 yX2_wholeParts, Cond.methodLink RX6 41 yX6_surelyDown, Cond.instanceMethod yX6_surelyDown, Cond.selects RX6 yX6_surelyDown yX6_surelyDown, Cond.code yX6_surelyDown cX6_surelyDown 4 (some .int), Cond.methodLink RX6 44 yX2_reaches, Cond.methodLink RX6 48 yX6_isLost, Cond.instanceMethod yX6_isLost]
def wsL_law_r24 : List Cond := [Cond.selects RX6 yX6_isLost yX6_isLost, Cond.code yX6_isLost cX6_isLost 5 (some .boolean), Cond.methodLink RX6 72 yX2_wantedStations, Cond.methodLink RX6 75 yX2_joinedWith, Cond.methodLink RX6 52 yX6_lookOf, Cond.instanceMethod yX6_lookOf, Cond.selects RX6 yX6_lookOf yX6_lookOf, Cond.code yX6_lookOf cX6_lookOf 8 (some .long), Cond.methodLink RX6 56 yX6_isAmong, Cond.instanceMethod yX6_isAmong, Cond.selects RX6 yX6_isAmong yX6_isAmong, Cond.code yX6_isAmong cX6_isAmong 5 (some .boolean), Cond.methodLink RL 100 yX9_least, Cond.instanceMethod yX9_least, Cond.selects RX9 yX9_least yX9_least, Cond.code yX9_least cX9_least 2 (some .int), Cond.methodLink RX9 183 yX5_leastCut, Cond.instanceMethod yX5_leastCut, Cond.selects RX5 yX5_leastCut yX5_leastCut, Cond.code yX5_leastCut cX5_leastCut 3 (some .int), Cond.methodLink RX5 19 yX2_allLinks, Cond.methodLink RX5 31 yX2_reaches, Cond.methodLink RX5 54 yX5_lesserSize, Cond.static yX5_lesserSize]
def wsL_law_r25 : List Cond := [Cond.code yX5_lesserSize cX5_lesserSize 3 (some .int), Cond.methodLink RX5 58 Lib.Math.min.name, Cond.methodLink RX5 25 yJ6_bitCount_0f7a4, Cond.methodLink RX9 186 yX5_leastWay, Cond.instanceMethod yX5_leastWay, Cond.selects RX5 yX5_leastWay yX5_leastWay, Cond.code yX5_leastWay cX5_leastWay 3 (some .int), Cond.methodLink RL 103 yX9_sets, Cond.instanceMethod yX9_sets, Cond.selects RX9 yX9_sets yX9_sets, Cond.code yX9_sets cX9_sets 2 (some .int), Cond.methodLink RX9 175 yX5_fill, Cond.instanceMethod yX5_fill, Cond.selects RX5 yX5_fill yX5_fill, Cond.code yX5_fill cX5_fill 3 none, Cond.methodLink RX9 176 yX5_ofSize, Cond.instanceMethod yX5_ofSize, Cond.selects RX5 yX5_ofSize yX5_ofSize, Cond.code yX5_ofSize cX5_ofSize 2 (some .int), Cond.methodLink RL 106 yX9_wide, Cond.instanceMethod yX9_wide, Cond.selects RX9 yX9_wide yX9_wide, Cond.code yX9_wide cX9_wide 2 (some .int), Cond.methodLink RX9 162 yX6_widthBehind]
def wsL_law_r26 : List Cond := [Cond.methodLink RL 109 yX9_chance, Cond.instanceMethod yX9_chance, Cond.selects RX9 yX9_chance yX9_chance, Cond.code yX9_chance cX9_chance 5 (some .int), Cond.methodLink RX9 103 yX2_setChance, Cond.instanceMethod yX2_setChance, Cond.selects RX2 yX2_setChance yX2_setChance, Cond.code yX2_setChance cX2_setChance 4 none, Cond.methodLink RL 113 yX9_like, Cond.instanceMethod yX9_like, Cond.selects RX9 yX9_like yX9_like, Cond.code yX9_like cX9_like 4 (some .long), Cond.methodLink RX9 179 yX9_alike, Cond.instanceMethod yX9_alike, Cond.selects RX9 yX9_alike yX9_alike, Cond.code yX9_alike cX9_alike 6 (some .long), Cond.methodLink RX9 310 yX5_likeParts, Cond.instanceMethod yX5_likeParts, Cond.selects RX5 yX5_likeParts yX5_likeParts, Cond.code yX5_likeParts cX5_likeParts 10 (some .long), Cond.constantLong RX5 52 (-1), Cond.methodLink RX5 35 yX2_linkCount, Cond.methodLink RX5 38 yX5_ofSize, Cond.methodLink RX5 41 yX5_power]
def wsL_law_r27 : List Cond := [Cond.static yX5_power, Cond.code yX5_power cX5_power 6 (some .long), Cond.methodLink RX5 45 yX5_times, Cond.static yX5_times, Cond.code yX5_times cX5_times 4 (some .long), Cond.constantLong RX5 63 (9223372036854775807), Cond.methodLink RX5 49 yX5_plus, Cond.static yX5_plus, Cond.code yX5_plus cX5_plus 4 (some .long), Cond.methodLink RL 116 yX9_back, Cond.instanceMethod yX9_back, Cond.selects RX9 yX9_back yX9_back, Cond.code yX9_back cX9_back 1 (some .int), Cond.methodLink RX9 83 yX2_dropLast, Cond.instanceMethod yX2_dropLast, Cond.selects RX2 yX2_dropLast yX2_dropLast, Cond.code yX2_dropLast cX2_dropLast 1 (some .int)]
def wsL_law : List Cond := (wsL_law_r1 ++ (wsL_law_r2 ++ (wsL_law_r3 ++ (wsL_law_r4 ++ (wsL_law_r5 ++ (wsL_law_r6 ++ (wsL_law_r7 ++ (wsL_law_r8 ++ (wsL_law_r9 ++ (wsL_law_r10 ++ (wsL_law_r11 ++ (wsL_law_r12 ++ (wsL_law_r13 ++ (wsL_law_r14 ++ (wsL_law_r15 ++ (wsL_law_r16 ++ (wsL_law_r17 ++ (wsL_law_r18 ++ (wsL_law_r19 ++ (wsL_law_r20 ++ (wsL_law_r21 ++ (wsL_law_r22 ++ (wsL_law_r23 ++ (wsL_law_r24 ++ (wsL_law_r25 ++ (wsL_law_r26 ++ wsL_law_r27)))))))))))))))))))))))))) ++ wsX90 ++ wsX20 ++ wsX30 ++ wsX50 ++ wsX60 ++ wsX00 ++ wsX40 ++ wsX70 ++ wsX80 ++ ([] : List Cond)
abbrev vwCl : List vw_C := [(RX0, TX0, 5), (RX2, TX2, 10), (RX3, TX3, 3), (RX4, TX4, 4), (RX5, TX5, 2), (RX6, TX6, 2), (RX7, TX7, 3), (RX8, TX8, 8), (RX9, TX9, 7)]
