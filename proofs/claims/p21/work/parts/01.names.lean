/-! ===== BEGIN words of one list among another's, by their places ===== -/
theorem goodIn_r {big : List Cond} (ws : List Cond) (ps : List Nat) (hp : ws = ps.filterMap (fun i => big[i]?)) (h : ws.all goodWord = true) : GoodIn big ws := by
  intro w hw
  have h1 := List.all_eq_true.mp h w hw
  rw [hp] at hw
  obtain ⟨i, -, hi⟩ := List.mem_filterMap.mp hw
  have hm : w ∈ big := by first | exact List.mem_of_getElem? hi | exact List.getElem?_mem hi
  exact ⟨hm, good_of_word h1⟩
theorem goodIn_app {big a b : List Cond} (ha : GoodIn big a) (hb : GoodIn big b) : GoodIn big (a ++ b) := fun w h => (List.mem_append.mp h).elim (ha w) (hb w)
theorem goodIn_ca {big a b : List Cond} {c : Cond} (ha : GoodIn big (c :: a)) (hb : GoodIn big b) : GoodIn big (c :: (a ++ b)) := fun w h => (List.mem_cons.mp h).elim (fun e => ha w (List.mem_cons.mpr (Or.inl e))) (fun h => (List.mem_append.mp h).elim (fun h => ha w (List.mem_cons.mpr (Or.inr h))) (hb w))
theorem goodIn_sub {big ws : List Cond} (hm : ∀ w ∈ ws, w ∈ big) (h : ws.all goodWord = true) : GoodIn big ws := fun w hw => ⟨hm w hw, good_of_word (List.all_eq_true.mp h w hw)⟩
/-! ===== END ===== -/

/-! ===== BEGIN printed: names, fields, word lists, decode rows ===== -/
def RX0 : String := "CodedWords$Album"
def TX0 : u_T := fun k => match k with
  | _ => ("CodedWords$Album", "kept", "[LCodedWords$Code;", true)
def tyX0 : Nat → FieldType := fun k => match k with
  | _ => .array (.object "CodedWords$Code")
abbrev wsX00 : List Cond := u_ws RX0 TX0 1
theorem nmX0 : ∀ a, a < 1 → ∀ b, b < 1 → a ≠ b → (TX0 a).2.1 ≠ (TX0 b).2.1 := by decide +kernel
theorem tyX0_ok : ∀ k, k < 1 → parseFieldDescriptor (TX0 k).2.2.1 = some (tyX0 k) := by decide +kernel
abbrev cX0_init : ByteArray := prog_2_method_1_code
def yX0_init : MethodName := ⟨RX0, "<init>", "()V"⟩
abbrev cX0_store : ByteArray := prog_2_method_2_code
def yX0_store : MethodName := ⟨RX0, "store", "(ILCodedWords$Code;)V"⟩
abbrev cX0_fetch : ByteArray := prog_2_method_3_code
def yX0_fetch : MethodName := ⟨RX0, "fetch", "(ILCodedWords$Code;)Z"⟩
def RX1 : String := "CodedWords$Chances"
def TX1 : u_T := fun k => match k with
  | 0 => ("CodedWords$Chances", "ways", "[I", true)
  | _ => ("CodedWords$Chances", "waysOneMore", "[I", true)
def tyX1 : Nat → FieldType := fun k => match k with
  | 0 => .array .int
  | _ => .array .int
abbrev wsX10 : List Cond := u_ws RX1 TX1 2
theorem nmX1 : ∀ a, a < 2 → ∀ b, b < 2 → a ≠ b → (TX1 a).2.1 ≠ (TX1 b).2.1 := by decide +kernel
theorem tyX1_ok : ∀ k, k < 2 → parseFieldDescriptor (TX1 k).2.2.1 = some (tyX1 k) := by decide +kernel
abbrev cX1_init : ByteArray := prog_3_method_1_code
def yX1_init : MethodName := ⟨RX1, "<init>", "()V"⟩
abbrev cX1_waysToFit : ByteArray := prog_3_method_2_code
def yX1_waysToFit : MethodName := ⟨RX1, "waysToFit", "(III)I"⟩
abbrev cX1_addStrike : ByteArray := prog_3_method_3_code
def yX1_addStrike : MethodName := ⟨RX1, "addStrike", "(II)V"⟩
def RX2 : String := "CodedWords$Code"
def TX2 : u_T := fun k => match k with
  | 0 => ("CodedWords$Code", "a", "I", false)
  | 1 => ("CodedWords$Code", "width", "I", false)
  | 2 => ("CodedWords$Code", "words", "[I", true)
  | _ => ("CodedWords$Code", "residues", "[I", true)
def tyX2 : Nat → FieldType := fun k => match k with
  | 0 => .int
  | 1 => .int
  | 2 => .array .int
  | _ => .array .int
abbrev wsX20 : List Cond := u_ws RX2 TX2 4
theorem nmX2 : ∀ a, a < 4 → ∀ b, b < 4 → a ≠ b → (TX2 a).2.1 ≠ (TX2 b).2.1 := by decide +kernel
theorem tyX2_ok : ∀ k, k < 4 → parseFieldDescriptor (TX2 k).2.2.1 = some (tyX2 k) := by decide +kernel
abbrev cX2_init : ByteArray := prog_4_method_1_code
def yX2_init : MethodName := ⟨RX2, "<init>", "()V"⟩
abbrev cX2_startAs : ByteArray := prog_4_method_2_code
def yX2_startAs : MethodName := ⟨RX2, "startAs", "(II)V"⟩
abbrev cX2_copyFrom : ByteArray := prog_4_method_3_code
def yX2_copyFrom : MethodName := ⟨RX2, "copyFrom", "(LCodedWords$Code;)V"⟩
abbrev cX2_wordOf : ByteArray := prog_4_method_4_code
def yX2_wordOf : MethodName := ⟨RX2, "wordOf", "(I)I"⟩
abbrev cX2_residueOf : ByteArray := prog_4_method_5_code
def yX2_residueOf : MethodName := ⟨RX2, "residueOf", "(I)I"⟩
abbrev cX2_put : ByteArray := prog_4_method_6_code
def yX2_put : MethodName := ⟨RX2, "put", "(III)V"⟩
abbrev cX2_top : ByteArray := prog_4_method_7_code
def yX2_top : MethodName := ⟨RX2, "top", "()I"⟩
abbrev cX2_reach : ByteArray := prog_4_method_8_code
def yX2_reach : MethodName := ⟨RX2, "reach", "()I"⟩
abbrev cX2_strikeCount : ByteArray := prog_4_method_9_code
def yX2_strikeCount : MethodName := ⟨RX2, "strikeCount", "()I"⟩
abbrev cX2_reaches : ByteArray := prog_4_method_10_code
def yX2_reaches : MethodName := ⟨RX2, "reaches", "(I)Z"⟩
abbrev cX2_fits : ByteArray := prog_4_method_11_code
def yX2_fits : MethodName := ⟨RX2, "fits", "(I)Z"⟩
abbrev cX2_valueOf : ByteArray := prog_4_method_12_code
def yX2_valueOf : MethodName := ⟨RX2, "valueOf", "(I)I"⟩
abbrev cX2_dueResidue : ByteArray := prog_4_method_13_code
def yX2_dueResidue : MethodName := ⟨RX2, "dueResidue", "(I)I"⟩
abbrev cX2_isSound : ByteArray := prog_4_method_14_code
def yX2_isSound : MethodName := ⟨RX2, "isSound", "(I)Z"⟩
abbrev cX2_isRight : ByteArray := prog_4_method_15_code
def yX2_isRight : MethodName := ⟨RX2, "isRight", "(II)Z"⟩
abbrev cX2_registersRight : ByteArray := prog_4_method_16_code
def yX2_registersRight : MethodName := ⟨RX2, "registersRight", "()I"⟩
abbrev cX2_canHalve : ByteArray := prog_4_method_17_code
def yX2_canHalve : MethodName := ⟨RX2, "canHalve", "(I)Z"⟩
abbrev cX2_causesOf : ByteArray := prog_4_method_18_code
def yX2_causesOf : MethodName := ⟨RX2, "causesOf", "(I)I"⟩
abbrev cX2_onlyCauseOf : ByteArray := prog_4_method_19_code
def yX2_onlyCauseOf : MethodName := ⟨RX2, "onlyCauseOf", "(I)I"⟩
abbrev cX2_verdictOf : ByteArray := prog_4_method_20_code
def yX2_verdictOf : MethodName := ⟨RX2, "verdictOf", "(I)I"⟩
def RX3 : String := "CodedWords$Past"
def TX3 : u_T := fun k => match k with
  | 0 => ("CodedWords$Past", "ring", "[LCodedWords$Code;", true)
  | 1 => ("CodedWords$Past", "oldest", "I", false)
  | _ => ("CodedWords$Past", "known", "I", false)
def tyX3 : Nat → FieldType := fun k => match k with
  | 0 => .array (.object "CodedWords$Code")
  | 1 => .int
  | _ => .int
abbrev wsX30 : List Cond := u_ws RX3 TX3 3
theorem nmX3 : ∀ a, a < 3 → ∀ b, b < 3 → a ≠ b → (TX3 a).2.1 ≠ (TX3 b).2.1 := by decide +kernel
theorem tyX3_ok : ∀ k, k < 3 → parseFieldDescriptor (TX3 k).2.2.1 = some (tyX3 k) := by decide +kernel
abbrev cX3_init : ByteArray := prog_5_method_1_code
def yX3_init : MethodName := ⟨RX3, "<init>", "()V"⟩
abbrev cX3_remember : ByteArray := prog_5_method_2_code
def yX3_remember : MethodName := ⟨RX3, "remember", "(LCodedWords$Code;)V"⟩
abbrev cX3_recall : ByteArray := prog_5_method_3_code
def yX3_recall : MethodName := ⟨RX3, "recall", "(LCodedWords$Code;)Z"⟩
abbrev cX3_lose : ByteArray := prog_5_method_4_code
def yX3_lose : MethodName := ⟨RX3, "lose", "()V"⟩
def RX4 : String := "CodedWords$Search"
def TX4 : u_T := fun k => match k with
  | 0 => ("CodedWords$Search", "words", "[I", true)
  | 1 => ("CodedWords$Search", "fits", "[I", true)
  | 2 => ("CodedWords$Search", "open", "[I", true)
  | _ => ("CodedWords$Search", "seen", "I", false)
def tyX4 : Nat → FieldType := fun k => match k with
  | 0 => .array .int
  | 1 => .array .int
  | 2 => .array .int
  | _ => .int
abbrev wsX40 : List Cond := u_ws RX4 TX4 4
theorem nmX4 : ∀ a, a < 4 → ∀ b, b < 4 → a ≠ b → (TX4 a).2.1 ≠ (TX4 b).2.1 := by decide +kernel
theorem tyX4_ok : ∀ k, k < 4 → parseFieldDescriptor (TX4 k).2.2.1 = some (tyX4 k) := by decide +kernel
abbrev cX4_init : ByteArray := prog_6_method_1_code
def yX4_init : MethodName := ⟨RX4, "<init>", "()V"⟩
abbrev cX4_note : ByteArray := prog_6_method_2_code
def yX4_note : MethodName := ⟨RX4, "note", "(II)Z"⟩
abbrev cX4_gatherOpen : ByteArray := prog_6_method_3_code
def yX4_gatherOpen : MethodName := ⟨RX4, "gatherOpen", "()I"⟩
abbrev cX4_leastOpen : ByteArray := prog_6_method_4_code
def yX4_leastOpen : MethodName := ⟨RX4, "leastOpen", "()I"⟩
abbrev cX4_bestTry : ByteArray := prog_6_method_5_code
def yX4_bestTry : MethodName := ⟨RX4, "bestTry", "()I"⟩
abbrev cX4_isOpen : ByteArray := prog_6_method_6_code
def yX4_isOpen : MethodName := ⟨RX4, "isOpen", "(I)Z"⟩
abbrev cX4_openFitting : ByteArray := prog_6_method_7_code
def yX4_openFitting : MethodName := ⟨RX4, "openFitting", "(II)I"⟩
def RX5 : String := "CodedWords"
def TX5 : u_T := fun k => match k with
  | 0 => ("CodedWords", "code", "LCodedWords$Code;", true)
  | 1 => ("CodedWords", "past", "LCodedWords$Past;", true)
  | 2 => ("CodedWords", "album", "LCodedWords$Album;", true)
  | 3 => ("CodedWords", "search", "LCodedWords$Search;", true)
  | _ => ("CodedWords", "chances", "LCodedWords$Chances;", true)
def tyX5 : Nat → FieldType := fun k => match k with
  | 0 => .object "CodedWords$Code"
  | 1 => .object "CodedWords$Past"
  | 2 => .object "CodedWords$Album"
  | 3 => .object "CodedWords$Search"
  | _ => .object "CodedWords$Chances"
abbrev wsX50 : List Cond := u_ws RX5 TX5 5
theorem nmX5 : ∀ a, a < 5 → ∀ b, b < 5 → a ≠ b → (TX5 a).2.1 ≠ (TX5 b).2.1 := by decide +kernel
theorem tyX5_ok : ∀ k, k < 5 → parseFieldDescriptor (TX5 k).2.2.1 = some (tyX5 k) := by decide +kernel
abbrev cX5_init : ByteArray := prog_1_method_1_code
def yX5_init : MethodName := ⟨RX5, "<init>", "()V"⟩
abbrev cX5_codes : ByteArray := prog_1_method_2_code
def yX5_codes : MethodName := ⟨RX5, "codes", "(II)I"⟩
abbrev cX5_sets : ByteArray := prog_1_method_3_code
def yX5_sets : MethodName := ⟨RX5, "sets", "(II)I"⟩
abbrev cX5_does : ByteArray := prog_1_method_4_code
def yX5_does : MethodName := ⟨RX5, "does", "(III)I"⟩
abbrev cX5_strikes : ByteArray := prog_1_method_5_code
def yX5_strikes : MethodName := ⟨RX5, "strikes", "(II)I"⟩
abbrev cX5_bends : ByteArray := prog_1_method_6_code
def yX5_bends : MethodName := ⟨RX5, "bends", "(II)I"⟩
abbrev cX5_mends : ByteArray := prog_1_method_7_code
def yX5_mends : MethodName := ⟨RX5, "mends", "(I)I"⟩
abbrev cX5_undo : ByteArray := prog_1_method_8_code
def yX5_undo : MethodName := ⟨RX5, "undo", "()I"⟩
abbrev cX5_register : ByteArray := prog_1_method_9_code
def yX5_register : MethodName := ⟨RX5, "register", "(II)I"⟩
abbrev cX5_weight : ByteArray := prog_1_method_10_code
def yX5_weight : MethodName := ⟨RX5, "weight", "(I)I"⟩
abbrev cX5_distance : ByteArray := prog_1_method_11_code
def yX5_distance : MethodName := ⟨RX5, "distance", "(II)I"⟩
abbrev cX5_least : ByteArray := prog_1_method_12_code
def yX5_least : MethodName := ⟨RX5, "least", "(II)I"⟩
abbrev cX5_round : ByteArray := prog_1_method_13_code
def yX5_round : MethodName := ⟨RX5, "round", "(I)I"⟩
abbrev cX5_plain : ByteArray := prog_1_method_14_code
def yX5_plain : MethodName := ⟨RX5, "plain", "(II)I"⟩
abbrev cX5_same : ByteArray := prog_1_method_15_code
def yX5_same : MethodName := ⟨RX5, "same", "(II)I"⟩
abbrev cX5_missed : ByteArray := prog_1_method_16_code
def yX5_missed : MethodName := ⟨RX5, "missed", "()I"⟩
abbrev cX5_odds : ByteArray := prog_1_method_17_code
def yX5_odds : MethodName := ⟨RX5, "odds", "(II)I"⟩
abbrev cX5_sees : ByteArray := prog_1_method_18_code
def yX5_sees : MethodName := ⟨RX5, "sees", "(II)I"⟩
abbrev cX5_forget : ByteArray := prog_1_method_19_code
def yX5_forget : MethodName := ⟨RX5, "forget", "()I"⟩
abbrev cX5_unseen : ByteArray := prog_1_method_20_code
def yX5_unseen : MethodName := ⟨RX5, "unseen", "(I)I"⟩
abbrev cX5_next : ByteArray := prog_1_method_21_code
def yX5_next : MethodName := ⟨RX5, "next", "()I"⟩
abbrev cX5_keep : ByteArray := prog_1_method_22_code
def yX5_keep : MethodName := ⟨RX5, "keep", "(I)I"⟩
abbrev cX5_back : ByteArray := prog_1_method_23_code
def yX5_back : MethodName := ⟨RX5, "back", "(I)I"⟩
abbrev cX5_count : ByteArray := prog_1_method_24_code
def yX5_count : MethodName := ⟨RX5, "count", "(I)I"⟩
abbrev cX5_isConstant : ByteArray := prog_1_method_25_code
def yX5_isConstant : MethodName := ⟨RX5, "isConstant", "(I)Z"⟩
abbrev cX5_isWidth : ByteArray := prog_1_method_26_code
def yX5_isWidth : MethodName := ⟨RX5, "isWidth", "(I)Z"⟩
abbrev cX5_isRegister : ByteArray := prog_1_method_27_code
def yX5_isRegister : MethodName := ⟨RX5, "isRegister", "(I)Z"⟩
abbrev cX5_isImage : ByteArray := prog_1_method_28_code
def yX5_isImage : MethodName := ⟨RX5, "isImage", "(I)Z"⟩
abbrev cX5_rest : ByteArray := prog_1_method_29_code
def yX5_rest : MethodName := ⟨RX5, "rest", "(II)I"⟩
abbrev cX5_cut : ByteArray := prog_1_method_30_code
def yX5_cut : MethodName := ⟨RX5, "cut", "(JI)J"⟩
abbrev cX5_commonDivisor : ByteArray := prog_1_method_31_code
def yX5_commonDivisor : MethodName := ⟨RX5, "commonDivisor", "(II)I"⟩
abbrev cX5_digitsNotZero : ByteArray := prog_1_method_32_code
def yX5_digitsNotZero : MethodName := ⟨RX5, "digitsNotZero", "(I)I"⟩
abbrev cX5_lightestMultiple : ByteArray := prog_1_method_33_code
def yX5_lightestMultiple : MethodName := ⟨RX5, "lightestMultiple", "(III)I"⟩
abbrev cX5_change : ByteArray := prog_1_method_34_code
def yX5_change : MethodName := ⟨RX5, "change", "(I)I"⟩
abbrev cX5_strikesLeaving : ByteArray := prog_1_method_35_code
def yX5_strikesLeaving : MethodName := ⟨RX5, "strikesLeaving", "(III)I"⟩
abbrev cX5_firstLeaving : ByteArray := prog_1_method_36_code
def yX5_firstLeaving : MethodName := ⟨RX5, "firstLeaving", "(III)I"⟩
abbrev cX5_wordDone : ByteArray := prog_1_method_37_code
def yX5_wordDone : MethodName := ⟨RX5, "wordDone", "(IJJ)J"⟩
abbrev cX5_residueDone : ByteArray := prog_1_method_38_code
def yX5_residueDone : MethodName := ⟨RX5, "residueDone", "(III)I"⟩
def RX6 : String := "CodedWordsModel"
def TX6 : u_T := fun k => match k with
  | 0 => ("CodedWordsModel", "thrown", "I", false)
  | 1 => ("CodedWordsModel", "s", "[I", true)
  | 2 => ("CodedWordsModel", "undos", "[I", true)
  | 3 => ("CodedWordsModel", "undoMany", "I", false)
  | 4 => ("CodedWordsModel", "kept", "[I", true)
  | 5 => ("CodedWordsModel", "isKept", "[Z", true)
  | 6 => ("CodedWordsModel", "seenWord", "[I", true)
  | 7 => ("CodedWordsModel", "seenFits", "[I", true)
  | 8 => ("CodedWordsModel", "seenMany", "I", false)
  | 9 => ("CodedWordsModel", "ways", "[J", true)
  | 10 => ("CodedWordsModel", "then", "[J", true)
  | _ => ("CodedWordsModel", "can", "[Z", true)
def tyX6 : Nat → FieldType := fun k => match k with
  | 0 => .int
  | 1 => .array .int
  | 2 => .array .int
  | 3 => .int
  | 4 => .array .int
  | 5 => .array .boolean
  | 6 => .array .int
  | 7 => .array .int
  | 8 => .int
  | 9 => .array .long
  | 10 => .array .long
  | _ => .array .boolean
abbrev wsX60 : List Cond := u_ws RX6 TX6 12
theorem nmX6 : ∀ a, a < 12 → ∀ b, b < 12 → a ≠ b → (TX6 a).2.1 ≠ (TX6 b).2.1 := by decide +kernel
theorem tyX6_ok : ∀ k, k < 12 → parseFieldDescriptor (TX6 k).2.2.1 = some (tyX6 k) := by decide +kernel
abbrev cX6_init : ByteArray := prog_8_method_1_code
def yX6_init : MethodName := ⟨RX6, "<init>", "()V"⟩
abbrev cX6_in : ByteArray := prog_8_method_3_code
def yX6_in : MethodName := ⟨RX6, "in", "(III)Z"⟩
abbrev cX6_rest : ByteArray := prog_8_method_4_code
def yX6_rest : MethodName := ⟨RX6, "rest", "(JI)I"⟩
abbrev cX6_isConstant : ByteArray := prog_8_method_5_code
def yX6_isConstant : MethodName := ⟨RX6, "isConstant", "(I)Z"⟩
abbrev cX6_isRegister : ByteArray := prog_8_method_6_code
def yX6_isRegister : MethodName := ⟨RX6, "isRegister", "(I)Z"⟩
abbrev cX6_top : ByteArray := prog_8_method_7_code
def yX6_top : MethodName := ⟨RX6, "top", "()I"⟩
abbrev cX6_reach : ByteArray := prog_8_method_8_code
def yX6_reach : MethodName := ⟨RX6, "reach", "()I"⟩
abbrev cX6_fits : ByteArray := prog_8_method_9_code
def yX6_fits : MethodName := ⟨RX6, "fits", "(I)Z"⟩
abbrev cX6_isInReach : ByteArray := prog_8_method_10_code
def yX6_isInReach : MethodName := ⟨RX6, "isInReach", "(I)Z"⟩
abbrev cX6_isRight : ByteArray := prog_8_method_11_code
def yX6_isRight : MethodName := ⟨RX6, "isRight", "(II)Z"⟩
abbrev cX6_by : ByteArray := prog_8_method_12_code
def yX6_by : MethodName := ⟨RX6, "by", "(I)I"⟩
abbrev cX6_strikeMany : ByteArray := prog_8_method_13_code
def yX6_strikeMany : MethodName := ⟨RX6, "strikeMany", "()I"⟩
abbrev cX6_notes : ByteArray := prog_8_method_14_code
def yX6_notes : MethodName := ⟨RX6, "notes", "()V"⟩
abbrev cX6_codes : ByteArray := prog_8_method_15_code
def yX6_codes : MethodName := ⟨RX6, "codes", "(II)I"⟩
abbrev cX6_sets : ByteArray := prog_8_method_16_code
def yX6_sets : MethodName := ⟨RX6, "sets", "(II)I"⟩
abbrev cX6_makes : ByteArray := prog_8_method_17_code
def yX6_makes : MethodName := ⟨RX6, "makes", "(IJJI)J"⟩
abbrev cX6_does : ByteArray := prog_8_method_18_code
def yX6_does : MethodName := ⟨RX6, "does", "(III)I"⟩
abbrev cX6_strikes : ByteArray := prog_8_method_19_code
def yX6_strikes : MethodName := ⟨RX6, "strikes", "(II)I"⟩
abbrev cX6_bends : ByteArray := prog_8_method_20_code
def yX6_bends : MethodName := ⟨RX6, "bends", "(II)I"⟩
abbrev cX6_isCause : ByteArray := prog_8_method_21_code
def yX6_isCause : MethodName := ⟨RX6, "isCause", "(II)Z"⟩
abbrev cX6_causes : ByteArray := prog_8_method_22_code
def yX6_causes : MethodName := ⟨RX6, "causes", "(I)I"⟩
abbrev cX6_firstCause : ByteArray := prog_8_method_23_code
def yX6_firstCause : MethodName := ⟨RX6, "firstCause", "(I)I"⟩
abbrev cX6_verdict : ByteArray := prog_8_method_24_code
def yX6_verdict : MethodName := ⟨RX6, "verdict", "(I)I"⟩
abbrev cX6_mends : ByteArray := prog_8_method_25_code
def yX6_mends : MethodName := ⟨RX6, "mends", "(I)I"⟩
abbrev cX6_undo : ByteArray := prog_8_method_26_code
def yX6_undo : MethodName := ⟨RX6, "undo", "()I"⟩
abbrev cX6_register : ByteArray := prog_8_method_27_code
def yX6_register : MethodName := ⟨RX6, "register", "(II)I"⟩
abbrev cX6_weightOf : ByteArray := prog_8_method_28_code
def yX6_weightOf : MethodName := ⟨RX6, "weightOf", "(I)I"⟩
abbrev cX6_weight : ByteArray := prog_8_method_29_code
def yX6_weight : MethodName := ⟨RX6, "weight", "(I)I"⟩
abbrev cX6_distanceOf : ByteArray := prog_8_method_30_code
def yX6_distanceOf : MethodName := ⟨RX6, "distanceOf", "(II)I"⟩
abbrev cX6_distance : ByteArray := prog_8_method_31_code
def yX6_distance : MethodName := ⟨RX6, "distance", "(II)I"⟩
abbrev cX6_least : ByteArray := prog_8_method_32_code
def yX6_least : MethodName := ⟨RX6, "least", "(II)I"⟩
abbrev cX6_round : ByteArray := prog_8_method_33_code
def yX6_round : MethodName := ⟨RX6, "round", "(I)I"⟩
abbrev cX6_plain : ByteArray := prog_8_method_34_code
def yX6_plain : MethodName := ⟨RX6, "plain", "(II)I"⟩
abbrev cX6_same : ByteArray := prog_8_method_35_code
def yX6_same : MethodName := ⟨RX6, "same", "(II)I"⟩
abbrev cX6_missed : ByteArray := prog_8_method_36_code
def yX6_missed : MethodName := ⟨RX6, "missed", "()I"⟩
abbrev cX6_gcd : ByteArray := prog_8_method_37_code
def yX6_gcd : MethodName := ⟨RX6, "gcd", "(JJ)J"⟩
abbrev cX6_odds : ByteArray := prog_8_method_38_code
def yX6_odds : MethodName := ⟨RX6, "odds", "(II)I"⟩
abbrev cX6_sees : ByteArray := prog_8_method_39_code
def yX6_sees : MethodName := ⟨RX6, "sees", "(II)I"⟩
abbrev cX6_forget : ByteArray := prog_8_method_40_code
def yX6_forget : MethodName := ⟨RX6, "forget", "()I"⟩
abbrev cX6_marks : ByteArray := prog_8_method_41_code
def yX6_marks : MethodName := ⟨RX6, "marks", "()I"⟩
abbrev cX6_unseen : ByteArray := prog_8_method_42_code
def yX6_unseen : MethodName := ⟨RX6, "unseen", "(I)I"⟩
abbrev cX6_next : ByteArray := prog_8_method_43_code
def yX6_next : MethodName := ⟨RX6, "next", "()I"⟩
abbrev cX6_keep : ByteArray := prog_8_method_44_code
def yX6_keep : MethodName := ⟨RX6, "keep", "(I)I"⟩
abbrev cX6_back : ByteArray := prog_8_method_45_code
def yX6_back : MethodName := ⟨RX6, "back", "(I)I"⟩
abbrev cX6_rightMany : ByteArray := prog_8_method_46_code
def yX6_rightMany : MethodName := ⟨RX6, "rightMany", "()I"⟩
abbrev cX6_count : ByteArray := prog_8_method_47_code
def yX6_count : MethodName := ⟨RX6, "count", "(I)I"⟩
def RJ6 : String := "java/lang/Integer"
def TJ6 : u_T := fun k => match k with
  | _ => ("", "", "", false)
def tyJ6 : Nat → FieldType := fun k => match k with
  | _ => .int
abbrev wsJ60 : List Cond := u_ws RJ6 TJ6 0
theorem nmJ6 : ∀ a, a < 0 → ∀ b, b < 0 → a ≠ b → (TJ6 a).2.1 ≠ (TJ6 b).2.1 := by decide +kernel
theorem tyJ6_ok : ∀ k, k < 0 → parseFieldDescriptor (TJ6 k).2.2.1 = some (tyJ6 k) := by decide +kernel
abbrev cJ6_bitCount_0f7a4 : ByteArray := prog_9_method_49_code
def yJ6_bitCount_0f7a4 : MethodName := ⟨RJ6, "bitCount", "(I)I"⟩
def RJ9 : String := "java/lang/Math"
def TJ9 : u_T := fun k => match k with
  | _ => ("", "", "", false)
def tyJ9 : Nat → FieldType := fun k => match k with
  | _ => .int
abbrev wsJ90 : List Cond := u_ws RJ9 TJ9 0
theorem nmJ9 : ∀ a, a < 0 → ∀ b, b < 0 → a ≠ b → (TJ9 a).2.1 ≠ (TJ9 b).2.1 := by decide +kernel
theorem tyJ9_ok : ∀ k, k < 0 → parseFieldDescriptor (TJ9 k).2.2.1 = some (tyJ9 k) := by decide +kernel
abbrev cJ9_floorMod_7cf53 : ByteArray := prog_10_method_50_code
def yJ9_floorMod_7cf53 : MethodName := ⟨RJ9, "floorMod", "(II)I"⟩
abbrev cJ9_abs_0f7a4 : ByteArray := prog_10_method_59_code
def yJ9_abs_0f7a4 : MethodName := ⟨RJ9, "abs", "(I)I"⟩
abbrev cJ9_max_7cf53 : ByteArray := prog_10_method_65_code
def yJ9_max_7cf53 : MethodName := ⟨RJ9, "max", "(II)I"⟩
abbrev cJ9_min_7cf53 : ByteArray := prog_10_method_69_code
def yJ9_min_7cf53 : MethodName := ⟨RJ9, "min", "(II)I"⟩
def RJ7 : String := "java/util/Arrays"
def TJ7 : u_T := fun k => match k with
  | _ => ("", "", "", false)
def tyJ7 : Nat → FieldType := fun k => match k with
  | _ => .int
abbrev wsJ70 : List Cond := u_ws RJ7 TJ7 0
theorem nmJ7 : ∀ a, a < 0 → ∀ b, b < 0 → a ≠ b → (TJ7 a).2.1 ≠ (TJ7 b).2.1 := by decide +kernel
theorem tyJ7_ok : ∀ k, k < 0 → parseFieldDescriptor (TJ7 k).2.2.1 = some (tyJ7 k) := by decide +kernel
abbrev cJ7_fill_53178 : ByteArray := prog_11_method_103_code
def yJ7_fill_53178 : MethodName := ⟨RJ7, "fill", "([II)V"⟩
def RL : String := "CodedWordsLaw"
abbrev cL_law : ByteArray := code
def yL_law : MethodName := ⟨RL, "law", "([I)Z"⟩
def wsX0_init : List Cond := .code yX0_init cX0_init 1 none :: ([.methodLink RX0 3 objectInit, .instanceMethod objectInit, .code objectInit ⟨#[0xb1]⟩ 1 none, .classLink RX0 9 RX2, .fieldLink RX0 11 "CodedWords$Album" "kept" "[LCodedWords$Code;"] ++ wsX00)
def wsX5_isImage : List Cond := .code yX5_isImage cX5_isImage 1 (some .boolean) :: ([])
def wsX2_init : List Cond := .code yX2_init cX2_init 1 none :: ([.methodLink RX2 3 objectInit, .instanceMethod objectInit, .code objectInit ⟨#[0xb1]⟩ 1 none, .fieldLink RX2 9 "CodedWords$Code" "a" "I", .fieldLink RX2 15 "CodedWords$Code" "width" "I", .arrayClass .int, .fieldLink RX2 18 "CodedWords$Code" "words" "[I", .fieldLink RX2 22 "CodedWords$Code" "residues" "[I"] ++ wsX20)
def wsX5_isRegister : List Cond := .code yX5_isRegister cX5_isRegister 1 (some .boolean) :: ([])
def wsX2_wordOf : List Cond := .code yX2_wordOf cX2_wordOf 2 (some .int) :: ([.fieldLink RX2 18 "CodedWords$Code" "words" "[I", .static yX5_isRegister, .initialized RX5, .code yX5_isRegister cX5_isRegister 1 (some .boolean)] ++ wsX20)
def wsX2_residueOf : List Cond := .code yX2_residueOf cX2_residueOf 2 (some .int) :: ([.fieldLink RX2 22 "CodedWords$Code" "residues" "[I", .static yX5_isRegister, .initialized RX5, .code yX5_isRegister cX5_isRegister 1 (some .boolean)] ++ wsX20)
def wsX2_put : List Cond := .code yX2_put cX2_put 4 none :: ([.fieldLink RX2 18 "CodedWords$Code" "words" "[I", .fieldLink RX2 22 "CodedWords$Code" "residues" "[I", .static yX5_isRegister, .initialized RX5, .code yX5_isRegister cX5_isRegister 1 (some .boolean)] ++ wsX20)
def wsX2_copyFrom : List Cond := .code yX2_copyFrom cX2_copyFrom 3 none :: ([.fieldLink RX2 9 "CodedWords$Code" "a" "I", .fieldLink RX2 15 "CodedWords$Code" "width" "I", .methodLink RX2 31 yX2_wordOf, .instanceMethod yX2_wordOf, .selects RX2 yX2_wordOf yX2_wordOf, .initialized RX2, .code yX2_wordOf cX2_wordOf 2 (some .int), .fieldLink RX2 18 "CodedWords$Code" "words" "[I", .static yX5_isRegister, .initialized RX5, .code yX5_isRegister cX5_isRegister 1 (some .boolean), .methodLink RX2 35 yX2_residueOf, .instanceMethod yX2_residueOf, .selects RX2 yX2_residueOf yX2_residueOf, .code yX2_residueOf cX2_residueOf 2 (some .int), .fieldLink RX2 22 "CodedWords$Code" "residues" "[I", .methodLink RX2 38 yX2_put, .instanceMethod yX2_put, .selects RX2 yX2_put yX2_put, .code yX2_put cX2_put 4 none] ++ wsX20)
def wsX0_store_r1 : List Cond := [Cond.fieldLink RX0 11 "CodedWords$Album" "kept" "[LCodedWords$Code;", Cond.classLink RX0 9 RX2, Cond.instantiable RX2 4, Cond.initialized RX2, Cond.static yX5_isImage, Cond.initialized RX5, Cond.code yX5_isImage cX5_isImage 1 (some .boolean), Cond.instanceMethod yX2_init, Cond.code yX2_init cX2_init 1 none, Cond.methodLink RX2 3 objectInit, Cond.instanceMethod objectInit, Cond.code objectInit ⟨#[0xb1]⟩ 1 none, Cond.fieldLink RX2 9 "CodedWords$Code" "a" "I", Cond.fieldLink RX2 15 "CodedWords$Code" "width" "I", Cond.arrayClass .int, Cond.fieldLink RX2 18 "CodedWords$Code" "words" "[I", Cond.fieldLink RX2 22 "CodedWords$Code" "residues" "[I", Cond.methodLink RX0 22 yX2_copyFrom, Cond.instanceMethod yX2_copyFrom, Cond.selects RX2 yX2_copyFrom yX2_copyFrom, Cond.code yX2_copyFrom cX2_copyFrom 3 none, Cond.methodLink RX2 31 yX2_wordOf, Cond.instanceMethod yX2_wordOf, Cond.selects RX2 yX2_wordOf yX2_wordOf]
def wsX0_store_r2 : List Cond := [Cond.code yX2_wordOf cX2_wordOf 2 (some .int), Cond.static yX5_isRegister, Cond.code yX5_isRegister cX5_isRegister 1 (some .boolean), Cond.methodLink RX2 35 yX2_residueOf, Cond.instanceMethod yX2_residueOf, Cond.selects RX2 yX2_residueOf yX2_residueOf, Cond.code yX2_residueOf cX2_residueOf 2 (some .int), Cond.methodLink RX2 38 yX2_put, Cond.instanceMethod yX2_put, Cond.selects RX2 yX2_put yX2_put, Cond.code yX2_put cX2_put 4 none]
def wsX0_store : List Cond := .code yX0_store cX0_store 4 none :: ((wsX0_store_r1 ++ wsX0_store_r2) ++ wsX00 ++ wsX20)
def wsX0_fetch_r1 : List Cond := [Cond.fieldLink RX0 11 "CodedWords$Album" "kept" "[LCodedWords$Code;", Cond.static yX5_isImage, Cond.initialized RX5, Cond.code yX5_isImage cX5_isImage 1 (some .boolean), Cond.methodLink RX0 22 yX2_copyFrom, Cond.instanceMethod yX2_copyFrom, Cond.selects RX2 yX2_copyFrom yX2_copyFrom, Cond.initialized RX2, Cond.code yX2_copyFrom cX2_copyFrom 3 none, Cond.fieldLink RX2 9 "CodedWords$Code" "a" "I", Cond.fieldLink RX2 15 "CodedWords$Code" "width" "I", Cond.methodLink RX2 31 yX2_wordOf, Cond.instanceMethod yX2_wordOf, Cond.selects RX2 yX2_wordOf yX2_wordOf, Cond.code yX2_wordOf cX2_wordOf 2 (some .int), Cond.fieldLink RX2 18 "CodedWords$Code" "words" "[I", Cond.static yX5_isRegister, Cond.code yX5_isRegister cX5_isRegister 1 (some .boolean), Cond.methodLink RX2 35 yX2_residueOf, Cond.instanceMethod yX2_residueOf, Cond.selects RX2 yX2_residueOf yX2_residueOf, Cond.code yX2_residueOf cX2_residueOf 2 (some .int), Cond.fieldLink RX2 22 "CodedWords$Code" "residues" "[I", Cond.methodLink RX2 38 yX2_put]
def wsX0_fetch_r2 : List Cond := [Cond.instanceMethod yX2_put, Cond.selects RX2 yX2_put yX2_put, Cond.code yX2_put cX2_put 4 none]
def wsX0_fetch : List Cond := .code yX0_fetch cX0_fetch 4 (some .boolean) :: ((wsX0_fetch_r1 ++ wsX0_fetch_r2) ++ wsX00 ++ wsX20)
def wsX1_init : List Cond := .code yX1_init cX1_init 1 none :: ([.methodLink RX1 3 objectInit, .instanceMethod objectInit, .code objectInit ⟨#[0xb1]⟩ 1 none, .arrayClass .int, .fieldLink RX1 9 "CodedWords$Chances" "ways" "[I", .fieldLink RX1 15 "CodedWords$Chances" "waysOneMore" "[I"] ++ wsX10)
def wsJ7_fill_53178 : List Cond := .code yJ7_fill_53178 cJ7_fill_53178 4 none :: ([])
def wsX5_change : List Cond := .code yX5_change cX5_change 2 (some .int) :: ([])
def wsJ9_floorMod_7cf53 : List Cond := .code yJ9_floorMod_7cf53 cJ9_floorMod_7cf53 3 (some .int) :: ([])
def wsX5_rest : List Cond := .code yX5_rest cX5_rest 2 (some .int) :: ([.methodLink RX5 210 yJ9_floorMod_7cf53, .static yJ9_floorMod_7cf53, .initialized RJ9, .code yJ9_floorMod_7cf53 cJ9_floorMod_7cf53 3 (some .int)])
def wsX1_addStrike : List Cond := .code yX1_addStrike cX1_addStrike 7 none :: ([.methodLink RX1 28 Lib.Math.min.name, .static Lib.Math.min.name, .initialized "java/lang/Math", .code Lib.Math.min.name Lib.Math.min.code 2 (some .int), .fieldLink RX1 15 "CodedWords$Chances" "waysOneMore" "[I", .fieldLink RX1 9 "CodedWords$Chances" "ways" "[I", .methodLink RX1 18 yJ7_fill_53178, .static yJ7_fill_53178, .initialized RJ7, .code yJ7_fill_53178 cJ7_fill_53178 4 none, .static yX5_change, .initialized RX5, .code yX5_change cX5_change 2 (some .int), .static yX5_rest, .code yX5_rest cX5_rest 2 (some .int), .methodLink RX5 210 yJ9_floorMod_7cf53, .static yJ9_floorMod_7cf53, .initialized RJ9, .code yJ9_floorMod_7cf53 cJ9_floorMod_7cf53 3 (some .int)] ++ wsX10)
def wsX1_waysToFit : List Cond := .code yX1_waysToFit cX1_waysToFit 5 (some .int) :: ([.fieldLink RX1 9 "CodedWords$Chances" "ways" "[I", .methodLink RX1 18 yJ7_fill_53178, .static yJ7_fill_53178, .initialized RJ7, .code yJ7_fill_53178 cJ7_fill_53178 4 none, .methodLink RX1 24 yX1_addStrike, .instanceMethod yX1_addStrike, .selects RX1 yX1_addStrike yX1_addStrike, .initialized RX1, .code yX1_addStrike cX1_addStrike 7 none, .methodLink RX1 28 Lib.Math.min.name, .static Lib.Math.min.name, .initialized "java/lang/Math", .code Lib.Math.min.name Lib.Math.min.code 2 (some .int), .fieldLink RX1 15 "CodedWords$Chances" "waysOneMore" "[I", .static yX5_change, .initialized RX5, .code yX5_change cX5_change 2 (some .int), .static yX5_rest, .code yX5_rest cX5_rest 2 (some .int), .methodLink RX5 210 yJ9_floorMod_7cf53, .static yJ9_floorMod_7cf53, .initialized RJ9, .code yJ9_floorMod_7cf53 cJ9_floorMod_7cf53 3 (some .int)] ++ wsX10)
def wsX2_startAs : List Cond := .code yX2_startAs cX2_startAs 3 none :: ([.fieldLink RX2 9 "CodedWords$Code" "a" "I", .fieldLink RX2 15 "CodedWords$Code" "width" "I", .fieldLink RX2 18 "CodedWords$Code" "words" "[I", .fieldLink RX2 22 "CodedWords$Code" "residues" "[I", .methodLink RX2 25 yJ7_fill_53178, .static yJ7_fill_53178, .initialized RJ7, .code yJ7_fill_53178 cJ7_fill_53178 4 none] ++ wsX20)
def wsX2_top : List Cond := .code yX2_top cX2_top 1 (some .int) :: ([.fieldLink RX2 15 "CodedWords$Code" "width" "I"] ++ wsX20)
def wsX5_cut : List Cond := .code yX5_cut cX5_cut 3 (some .long) :: ([])
def wsX2_reach : List Cond := .code yX2_reach cX2_reach 1 (some .int) :: ([.fieldLink RX2 9 "CodedWords$Code" "a" "I", .methodLink RX2 46 yX2_top, .instanceMethod yX2_top, .selects RX2 yX2_top yX2_top, .initialized RX2, .code yX2_top cX2_top 1 (some .int), .fieldLink RX2 15 "CodedWords$Code" "width" "I", .static yX5_cut, .initialized RX5, .code yX5_cut cX5_cut 3 (some .long)] ++ wsX20)
def wsX2_strikeCount : List Cond := .code yX2_strikeCount cX2_strikeCount 1 (some .int) :: ([.fieldLink RX2 15 "CodedWords$Code" "width" "I"] ++ wsX20)
def wsX2_reaches : List Cond := .code yX2_reaches cX2_reaches 2 (some .boolean) :: ([.methodLink RX2 54 yX2_reach, .instanceMethod yX2_reach, .selects RX2 yX2_reach yX2_reach, .initialized RX2, .code yX2_reach cX2_reach 1 (some .int), .fieldLink RX2 9 "CodedWords$Code" "a" "I", .methodLink RX2 46 yX2_top, .instanceMethod yX2_top, .selects RX2 yX2_top yX2_top, .code yX2_top cX2_top 1 (some .int), .fieldLink RX2 15 "CodedWords$Code" "width" "I", .static yX5_cut, .initialized RX5, .code yX5_cut cX5_cut 3 (some .long)] ++ wsX20)
def wsX2_fits : List Cond := .code yX2_fits cX2_fits 2 (some .boolean) :: ([.fieldLink RX2 9 "CodedWords$Code" "a" "I", .static yX5_rest, .initialized RX5, .code yX5_rest cX5_rest 2 (some .int), .methodLink RX5 210 yJ9_floorMod_7cf53, .static yJ9_floorMod_7cf53, .initialized RJ9, .code yJ9_floorMod_7cf53 cJ9_floorMod_7cf53 3 (some .int)] ++ wsX20)
def wsX2_valueOf : List Cond := .code yX2_valueOf cX2_valueOf 2 (some .int) :: ([.fieldLink RX2 9 "CodedWords$Code" "a" "I", .static yX5_cut, .initialized RX5, .code yX5_cut cX5_cut 3 (some .long)] ++ wsX20)
def wsX2_dueResidue : List Cond := .code yX2_dueResidue cX2_dueResidue 2 (some .int) :: ([.methodLink RX2 61 yX2_valueOf, .instanceMethod yX2_valueOf, .selects RX2 yX2_valueOf yX2_valueOf, .initialized RX2, .code yX2_valueOf cX2_valueOf 2 (some .int), .fieldLink RX2 9 "CodedWords$Code" "a" "I", .static yX5_cut, .initialized RX5, .code yX5_cut cX5_cut 3 (some .long), .static yX5_rest, .code yX5_rest cX5_rest 2 (some .int), .methodLink RX5 210 yJ9_floorMod_7cf53, .static yJ9_floorMod_7cf53, .initialized RJ9, .code yJ9_floorMod_7cf53 cJ9_floorMod_7cf53 3 (some .int)] ++ wsX20)
def wsX2_isSound : List Cond := .code yX2_isSound cX2_isSound 2 (some .boolean) :: ([.methodLink RX2 64 yX2_fits, .instanceMethod yX2_fits, .selects RX2 yX2_fits yX2_fits, .initialized RX2, .code yX2_fits cX2_fits 2 (some .boolean), .fieldLink RX2 9 "CodedWords$Code" "a" "I", .static yX5_rest, .initialized RX5, .code yX5_rest cX5_rest 2 (some .int), .methodLink RX5 210 yJ9_floorMod_7cf53, .static yJ9_floorMod_7cf53, .initialized RJ9, .code yJ9_floorMod_7cf53 cJ9_floorMod_7cf53 3 (some .int), .methodLink RX2 46 yX2_top, .instanceMethod yX2_top, .selects RX2 yX2_top yX2_top, .code yX2_top cX2_top 1 (some .int), .fieldLink RX2 15 "CodedWords$Code" "width" "I"] ++ wsX20)
def wsX2_isRight_r1 : List Cond := [Cond.methodLink RX2 67 yX2_isSound, Cond.instanceMethod yX2_isSound, Cond.selects RX2 yX2_isSound yX2_isSound, Cond.initialized RX2, Cond.code yX2_isSound cX2_isSound 2 (some .boolean), Cond.methodLink RX2 64 yX2_fits, Cond.instanceMethod yX2_fits, Cond.selects RX2 yX2_fits yX2_fits, Cond.code yX2_fits cX2_fits 2 (some .boolean), Cond.fieldLink RX2 9 "CodedWords$Code" "a" "I", Cond.static yX5_rest, Cond.initialized RX5, Cond.code yX5_rest cX5_rest 2 (some .int), Cond.methodLink RX5 210 yJ9_floorMod_7cf53, Cond.static yJ9_floorMod_7cf53, Cond.initialized RJ9, Cond.code yJ9_floorMod_7cf53 cJ9_floorMod_7cf53 3 (some .int), Cond.methodLink RX2 46 yX2_top, Cond.instanceMethod yX2_top, Cond.selects RX2 yX2_top yX2_top, Cond.code yX2_top cX2_top 1 (some .int), Cond.fieldLink RX2 15 "CodedWords$Code" "width" "I", Cond.methodLink RX2 70 yX2_dueResidue, Cond.instanceMethod yX2_dueResidue]
def wsX2_isRight_r2 : List Cond := [Cond.selects RX2 yX2_dueResidue yX2_dueResidue, Cond.code yX2_dueResidue cX2_dueResidue 2 (some .int), Cond.methodLink RX2 61 yX2_valueOf, Cond.instanceMethod yX2_valueOf, Cond.selects RX2 yX2_valueOf yX2_valueOf, Cond.code yX2_valueOf cX2_valueOf 2 (some .int), Cond.static yX5_cut, Cond.code yX5_cut cX5_cut 3 (some .long)]
def wsX2_isRight : List Cond := .code yX2_isRight cX2_isRight 3 (some .boolean) :: ((wsX2_isRight_r1 ++ wsX2_isRight_r2) ++ wsX20)
def wsX2_registersRight_r1 : List Cond := [Cond.methodLink RX2 31 yX2_wordOf, Cond.instanceMethod yX2_wordOf, Cond.selects RX2 yX2_wordOf yX2_wordOf, Cond.initialized RX2, Cond.code yX2_wordOf cX2_wordOf 2 (some .int), Cond.fieldLink RX2 18 "CodedWords$Code" "words" "[I", Cond.static yX5_isRegister, Cond.initialized RX5, Cond.code yX5_isRegister cX5_isRegister 1 (some .boolean), Cond.methodLink RX2 35 yX2_residueOf, Cond.instanceMethod yX2_residueOf, Cond.selects RX2 yX2_residueOf yX2_residueOf, Cond.code yX2_residueOf cX2_residueOf 2 (some .int), Cond.fieldLink RX2 22 "CodedWords$Code" "residues" "[I", Cond.methodLink RX2 73 yX2_isRight, Cond.instanceMethod yX2_isRight, Cond.selects RX2 yX2_isRight yX2_isRight, Cond.code yX2_isRight cX2_isRight 3 (some .boolean), Cond.methodLink RX2 67 yX2_isSound, Cond.instanceMethod yX2_isSound, Cond.selects RX2 yX2_isSound yX2_isSound, Cond.code yX2_isSound cX2_isSound 2 (some .boolean), Cond.methodLink RX2 64 yX2_fits, Cond.instanceMethod yX2_fits]
def wsX2_registersRight_r2 : List Cond := [Cond.selects RX2 yX2_fits yX2_fits, Cond.code yX2_fits cX2_fits 2 (some .boolean), Cond.fieldLink RX2 9 "CodedWords$Code" "a" "I", Cond.static yX5_rest, Cond.code yX5_rest cX5_rest 2 (some .int), Cond.methodLink RX5 210 yJ9_floorMod_7cf53, Cond.static yJ9_floorMod_7cf53, Cond.initialized RJ9, Cond.code yJ9_floorMod_7cf53 cJ9_floorMod_7cf53 3 (some .int), Cond.methodLink RX2 46 yX2_top, Cond.instanceMethod yX2_top, Cond.selects RX2 yX2_top yX2_top, Cond.code yX2_top cX2_top 1 (some .int), Cond.fieldLink RX2 15 "CodedWords$Code" "width" "I", Cond.methodLink RX2 70 yX2_dueResidue, Cond.instanceMethod yX2_dueResidue, Cond.selects RX2 yX2_dueResidue yX2_dueResidue, Cond.code yX2_dueResidue cX2_dueResidue 2 (some .int), Cond.methodLink RX2 61 yX2_valueOf, Cond.instanceMethod yX2_valueOf, Cond.selects RX2 yX2_valueOf yX2_valueOf, Cond.code yX2_valueOf cX2_valueOf 2 (some .int), Cond.static yX5_cut, Cond.code yX5_cut cX5_cut 3 (some .long)]
def wsX2_registersRight : List Cond := .code yX2_registersRight cX2_registersRight 3 (some .int) :: ((wsX2_registersRight_r1 ++ wsX2_registersRight_r2) ++ wsX20)
def wsX2_canHalve_r1 : List Cond := [Cond.methodLink RX2 31 yX2_wordOf, Cond.instanceMethod yX2_wordOf, Cond.selects RX2 yX2_wordOf yX2_wordOf, Cond.initialized RX2, Cond.code yX2_wordOf cX2_wordOf 2 (some .int), Cond.fieldLink RX2 18 "CodedWords$Code" "words" "[I", Cond.static yX5_isRegister, Cond.initialized RX5, Cond.code yX5_isRegister cX5_isRegister 1 (some .boolean), Cond.methodLink RX2 64 yX2_fits, Cond.instanceMethod yX2_fits, Cond.selects RX2 yX2_fits yX2_fits, Cond.code yX2_fits cX2_fits 2 (some .boolean), Cond.fieldLink RX2 9 "CodedWords$Code" "a" "I", Cond.static yX5_rest, Cond.code yX5_rest cX5_rest 2 (some .int), Cond.methodLink RX5 210 yJ9_floorMod_7cf53, Cond.static yJ9_floorMod_7cf53, Cond.initialized RJ9, Cond.code yJ9_floorMod_7cf53 cJ9_floorMod_7cf53 3 (some .int), Cond.methodLink RX2 61 yX2_valueOf, Cond.instanceMethod yX2_valueOf, Cond.selects RX2 yX2_valueOf yX2_valueOf, Cond.code yX2_valueOf cX2_valueOf 2 (some .int)]
def wsX2_canHalve_r2 : List Cond := [Cond.static yX5_cut, Cond.code yX5_cut cX5_cut 3 (some .long)]
def wsX2_canHalve : List Cond := .code yX2_canHalve cX2_canHalve 3 (some .boolean) :: ((wsX2_canHalve_r1 ++ wsX2_canHalve_r2) ++ wsX20)
def wsX2_causesOf_r1 : List Cond := [Cond.methodLink RX2 31 yX2_wordOf, Cond.instanceMethod yX2_wordOf, Cond.selects RX2 yX2_wordOf yX2_wordOf, Cond.initialized RX2, Cond.code yX2_wordOf cX2_wordOf 2 (some .int), Cond.fieldLink RX2 18 "CodedWords$Code" "words" "[I", Cond.static yX5_isRegister, Cond.initialized RX5, Cond.code yX5_isRegister cX5_isRegister 1 (some .boolean), Cond.methodLink RX2 67 yX2_isSound, Cond.instanceMethod yX2_isSound, Cond.selects RX2 yX2_isSound yX2_isSound, Cond.code yX2_isSound cX2_isSound 2 (some .boolean), Cond.methodLink RX2 64 yX2_fits, Cond.instanceMethod yX2_fits, Cond.selects RX2 yX2_fits yX2_fits, Cond.code yX2_fits cX2_fits 2 (some .boolean), Cond.fieldLink RX2 9 "CodedWords$Code" "a" "I", Cond.static yX5_rest, Cond.code yX5_rest cX5_rest 2 (some .int), Cond.methodLink RX5 210 yJ9_floorMod_7cf53, Cond.static yJ9_floorMod_7cf53, Cond.initialized RJ9, Cond.code yJ9_floorMod_7cf53 cJ9_floorMod_7cf53 3 (some .int)]
def wsX2_causesOf_r2 : List Cond := [Cond.methodLink RX2 46 yX2_top, Cond.instanceMethod yX2_top, Cond.selects RX2 yX2_top yX2_top, Cond.code yX2_top cX2_top 1 (some .int), Cond.fieldLink RX2 15 "CodedWords$Code" "width" "I", Cond.methodLink RX2 77 yX2_strikeCount, Cond.instanceMethod yX2_strikeCount, Cond.selects RX2 yX2_strikeCount yX2_strikeCount, Cond.code yX2_strikeCount cX2_strikeCount 1 (some .int), Cond.static yX5_change, Cond.code yX5_change cX5_change 2 (some .int), Cond.methodLink RX2 35 yX2_residueOf, Cond.instanceMethod yX2_residueOf, Cond.selects RX2 yX2_residueOf yX2_residueOf, Cond.code yX2_residueOf cX2_residueOf 2 (some .int), Cond.fieldLink RX2 22 "CodedWords$Code" "residues" "[I", Cond.methodLink RX2 73 yX2_isRight, Cond.instanceMethod yX2_isRight, Cond.selects RX2 yX2_isRight yX2_isRight, Cond.code yX2_isRight cX2_isRight 3 (some .boolean), Cond.methodLink RX2 70 yX2_dueResidue, Cond.instanceMethod yX2_dueResidue, Cond.selects RX2 yX2_dueResidue yX2_dueResidue, Cond.code yX2_dueResidue cX2_dueResidue 2 (some .int)]
def wsX2_causesOf_r3 : List Cond := [Cond.methodLink RX2 61 yX2_valueOf, Cond.instanceMethod yX2_valueOf, Cond.selects RX2 yX2_valueOf yX2_valueOf, Cond.code yX2_valueOf cX2_valueOf 2 (some .int), Cond.static yX5_cut, Cond.code yX5_cut cX5_cut 3 (some .long)]
def wsX2_causesOf : List Cond := .code yX2_causesOf cX2_causesOf 4 (some .int) :: ((wsX2_causesOf_r1 ++ (wsX2_causesOf_r2 ++ wsX2_causesOf_r3)) ++ wsX20)
def wsX2_onlyCauseOf_r1 : List Cond := [Cond.constant RX2 86 (-1000000), Cond.methodLink RX2 83 yX2_causesOf, Cond.instanceMethod yX2_causesOf, Cond.selects RX2 yX2_causesOf yX2_causesOf, Cond.initialized RX2, Cond.code yX2_causesOf cX2_causesOf 4 (some .int), Cond.methodLink RX2 31 yX2_wordOf, Cond.instanceMethod yX2_wordOf, Cond.selects RX2 yX2_wordOf yX2_wordOf, Cond.code yX2_wordOf cX2_wordOf 2 (some .int), Cond.fieldLink RX2 18 "CodedWords$Code" "words" "[I", Cond.static yX5_isRegister, Cond.initialized RX5, Cond.code yX5_isRegister cX5_isRegister 1 (some .boolean), Cond.methodLink RX2 67 yX2_isSound, Cond.instanceMethod yX2_isSound, Cond.selects RX2 yX2_isSound yX2_isSound, Cond.code yX2_isSound cX2_isSound 2 (some .boolean), Cond.methodLink RX2 64 yX2_fits, Cond.instanceMethod yX2_fits, Cond.selects RX2 yX2_fits yX2_fits, Cond.code yX2_fits cX2_fits 2 (some .boolean), Cond.fieldLink RX2 9 "CodedWords$Code" "a" "I", Cond.static yX5_rest]
def wsX2_onlyCauseOf_r2 : List Cond := [Cond.code yX5_rest cX5_rest 2 (some .int), Cond.methodLink RX5 210 yJ9_floorMod_7cf53, Cond.static yJ9_floorMod_7cf53, Cond.initialized RJ9, Cond.code yJ9_floorMod_7cf53 cJ9_floorMod_7cf53 3 (some .int), Cond.methodLink RX2 46 yX2_top, Cond.instanceMethod yX2_top, Cond.selects RX2 yX2_top yX2_top, Cond.code yX2_top cX2_top 1 (some .int), Cond.fieldLink RX2 15 "CodedWords$Code" "width" "I", Cond.methodLink RX2 77 yX2_strikeCount, Cond.instanceMethod yX2_strikeCount, Cond.selects RX2 yX2_strikeCount yX2_strikeCount, Cond.code yX2_strikeCount cX2_strikeCount 1 (some .int), Cond.static yX5_change, Cond.code yX5_change cX5_change 2 (some .int), Cond.methodLink RX2 35 yX2_residueOf, Cond.instanceMethod yX2_residueOf, Cond.selects RX2 yX2_residueOf yX2_residueOf, Cond.code yX2_residueOf cX2_residueOf 2 (some .int), Cond.fieldLink RX2 22 "CodedWords$Code" "residues" "[I", Cond.methodLink RX2 73 yX2_isRight, Cond.instanceMethod yX2_isRight, Cond.selects RX2 yX2_isRight yX2_isRight]
def wsX2_onlyCauseOf_r3 : List Cond := [Cond.code yX2_isRight cX2_isRight 3 (some .boolean), Cond.methodLink RX2 70 yX2_dueResidue, Cond.instanceMethod yX2_dueResidue, Cond.selects RX2 yX2_dueResidue yX2_dueResidue, Cond.code yX2_dueResidue cX2_dueResidue 2 (some .int), Cond.methodLink RX2 61 yX2_valueOf, Cond.instanceMethod yX2_valueOf, Cond.selects RX2 yX2_valueOf yX2_valueOf, Cond.code yX2_valueOf cX2_valueOf 2 (some .int), Cond.static yX5_cut, Cond.code yX5_cut cX5_cut 3 (some .long)]
def wsX2_onlyCauseOf : List Cond := .code yX2_onlyCauseOf cX2_onlyCauseOf 3 (some .int) :: ((wsX2_onlyCauseOf_r1 ++ (wsX2_onlyCauseOf_r2 ++ wsX2_onlyCauseOf_r3)) ++ wsX20)
def wsX2_verdictOf_r1 : List Cond := [Cond.methodLink RX2 31 yX2_wordOf, Cond.instanceMethod yX2_wordOf, Cond.selects RX2 yX2_wordOf yX2_wordOf, Cond.initialized RX2, Cond.code yX2_wordOf cX2_wordOf 2 (some .int), Cond.fieldLink RX2 18 "CodedWords$Code" "words" "[I", Cond.static yX5_isRegister, Cond.initialized RX5, Cond.code yX5_isRegister cX5_isRegister 1 (some .boolean), Cond.methodLink RX2 67 yX2_isSound, Cond.instanceMethod yX2_isSound, Cond.selects RX2 yX2_isSound yX2_isSound, Cond.code yX2_isSound cX2_isSound 2 (some .boolean), Cond.methodLink RX2 64 yX2_fits, Cond.instanceMethod yX2_fits, Cond.selects RX2 yX2_fits yX2_fits, Cond.code yX2_fits cX2_fits 2 (some .boolean), Cond.fieldLink RX2 9 "CodedWords$Code" "a" "I", Cond.static yX5_rest, Cond.code yX5_rest cX5_rest 2 (some .int), Cond.methodLink RX5 210 yJ9_floorMod_7cf53, Cond.static yJ9_floorMod_7cf53, Cond.initialized RJ9, Cond.code yJ9_floorMod_7cf53 cJ9_floorMod_7cf53 3 (some .int)]
def wsX2_verdictOf_r2 : List Cond := [Cond.methodLink RX2 46 yX2_top, Cond.instanceMethod yX2_top, Cond.selects RX2 yX2_top yX2_top, Cond.code yX2_top cX2_top 1 (some .int), Cond.fieldLink RX2 15 "CodedWords$Code" "width" "I", Cond.methodLink RX2 35 yX2_residueOf, Cond.instanceMethod yX2_residueOf, Cond.selects RX2 yX2_residueOf yX2_residueOf, Cond.code yX2_residueOf cX2_residueOf 2 (some .int), Cond.fieldLink RX2 22 "CodedWords$Code" "residues" "[I", Cond.methodLink RX2 73 yX2_isRight, Cond.instanceMethod yX2_isRight, Cond.selects RX2 yX2_isRight yX2_isRight, Cond.code yX2_isRight cX2_isRight 3 (some .boolean), Cond.methodLink RX2 70 yX2_dueResidue, Cond.instanceMethod yX2_dueResidue, Cond.selects RX2 yX2_dueResidue yX2_dueResidue, Cond.code yX2_dueResidue cX2_dueResidue 2 (some .int), Cond.methodLink RX2 61 yX2_valueOf, Cond.instanceMethod yX2_valueOf, Cond.selects RX2 yX2_valueOf yX2_valueOf, Cond.code yX2_valueOf cX2_valueOf 2 (some .int), Cond.static yX5_cut, Cond.code yX5_cut cX5_cut 3 (some .long)]
def wsX2_verdictOf_r3 : List Cond := [Cond.methodLink RX2 83 yX2_causesOf, Cond.instanceMethod yX2_causesOf, Cond.selects RX2 yX2_causesOf yX2_causesOf, Cond.code yX2_causesOf cX2_causesOf 4 (some .int), Cond.methodLink RX2 77 yX2_strikeCount, Cond.instanceMethod yX2_strikeCount, Cond.selects RX2 yX2_strikeCount yX2_strikeCount, Cond.code yX2_strikeCount cX2_strikeCount 1 (some .int), Cond.static yX5_change, Cond.code yX5_change cX5_change 2 (some .int)]
def wsX2_verdictOf : List Cond := .code yX2_verdictOf cX2_verdictOf 3 (some .int) :: ((wsX2_verdictOf_r1 ++ (wsX2_verdictOf_r2 ++ wsX2_verdictOf_r3)) ++ wsX20)
def wsX3_init : List Cond := .code yX3_init cX3_init 2 none :: ([.methodLink RX3 3 objectInit, .instanceMethod objectInit, .code objectInit ⟨#[0xb1]⟩ 1 none, .classLink RX3 9 RX2, .fieldLink RX3 11 "CodedWords$Past" "ring" "[LCodedWords$Code;", .fieldLink RX3 17 "CodedWords$Past" "oldest" "I", .fieldLink RX3 21 "CodedWords$Past" "known" "I", .instantiable RX2 4, .initialized RX2, .instanceMethod yX2_init, .code yX2_init cX2_init 1 none, .methodLink RX2 3 objectInit, .fieldLink RX2 9 "CodedWords$Code" "a" "I", .fieldLink RX2 15 "CodedWords$Code" "width" "I", .arrayClass .int, .fieldLink RX2 18 "CodedWords$Code" "words" "[I", .fieldLink RX2 22 "CodedWords$Code" "residues" "[I"] ++ wsX30 ++ wsX20)
def wsX3_remember_r1 : List Cond := [Cond.fieldLink RX3 21 "CodedWords$Past" "known" "I", Cond.fieldLink RX3 17 "CodedWords$Past" "oldest" "I", Cond.fieldLink RX3 11 "CodedWords$Past" "ring" "[LCodedWords$Code;", Cond.static yX5_rest, Cond.initialized RX5, Cond.code yX5_rest cX5_rest 2 (some .int), Cond.methodLink RX5 210 yJ9_floorMod_7cf53, Cond.static yJ9_floorMod_7cf53, Cond.initialized RJ9, Cond.code yJ9_floorMod_7cf53 cJ9_floorMod_7cf53 3 (some .int), Cond.methodLink RX3 29 yJ9_floorMod_7cf53, Cond.methodLink RX3 34 yX2_copyFrom, Cond.instanceMethod yX2_copyFrom, Cond.selects RX2 yX2_copyFrom yX2_copyFrom, Cond.initialized RX2, Cond.code yX2_copyFrom cX2_copyFrom 3 none, Cond.fieldLink RX2 9 "CodedWords$Code" "a" "I", Cond.fieldLink RX2 15 "CodedWords$Code" "width" "I", Cond.methodLink RX2 31 yX2_wordOf, Cond.instanceMethod yX2_wordOf, Cond.selects RX2 yX2_wordOf yX2_wordOf, Cond.code yX2_wordOf cX2_wordOf 2 (some .int), Cond.fieldLink RX2 18 "CodedWords$Code" "words" "[I", Cond.static yX5_isRegister]
def wsX3_remember_r2 : List Cond := [Cond.code yX5_isRegister cX5_isRegister 1 (some .boolean), Cond.methodLink RX2 35 yX2_residueOf, Cond.instanceMethod yX2_residueOf, Cond.selects RX2 yX2_residueOf yX2_residueOf, Cond.code yX2_residueOf cX2_residueOf 2 (some .int), Cond.fieldLink RX2 22 "CodedWords$Code" "residues" "[I", Cond.methodLink RX2 38 yX2_put, Cond.instanceMethod yX2_put, Cond.selects RX2 yX2_put yX2_put, Cond.code yX2_put cX2_put 4 none]
def wsX3_remember : List Cond := .code yX3_remember cX3_remember 3 none :: ((wsX3_remember_r1 ++ wsX3_remember_r2) ++ wsX30 ++ wsX20)
def wsX3_recall_r1 : List Cond := [Cond.fieldLink RX3 21 "CodedWords$Past" "known" "I", Cond.fieldLink RX3 11 "CodedWords$Past" "ring" "[LCodedWords$Code;", Cond.fieldLink RX3 17 "CodedWords$Past" "oldest" "I", Cond.methodLink RX3 29 yJ9_floorMod_7cf53, Cond.static yJ9_floorMod_7cf53, Cond.initialized RJ9, Cond.code yJ9_floorMod_7cf53 cJ9_floorMod_7cf53 3 (some .int), Cond.methodLink RX3 34 yX2_copyFrom, Cond.instanceMethod yX2_copyFrom, Cond.selects RX2 yX2_copyFrom yX2_copyFrom, Cond.initialized RX2, Cond.code yX2_copyFrom cX2_copyFrom 3 none, Cond.fieldLink RX2 9 "CodedWords$Code" "a" "I", Cond.fieldLink RX2 15 "CodedWords$Code" "width" "I", Cond.methodLink RX2 31 yX2_wordOf, Cond.instanceMethod yX2_wordOf, Cond.selects RX2 yX2_wordOf yX2_wordOf, Cond.code yX2_wordOf cX2_wordOf 2 (some .int), Cond.fieldLink RX2 18 "CodedWords$Code" "words" "[I", Cond.static yX5_isRegister, Cond.initialized RX5, Cond.code yX5_isRegister cX5_isRegister 1 (some .boolean), Cond.methodLink RX2 35 yX2_residueOf, Cond.instanceMethod yX2_residueOf]
def wsX3_recall_r2 : List Cond := [Cond.selects RX2 yX2_residueOf yX2_residueOf, Cond.code yX2_residueOf cX2_residueOf 2 (some .int), Cond.fieldLink RX2 22 "CodedWords$Code" "residues" "[I", Cond.methodLink RX2 38 yX2_put, Cond.instanceMethod yX2_put, Cond.selects RX2 yX2_put yX2_put, Cond.code yX2_put cX2_put 4 none]
def wsX3_recall : List Cond := .code yX3_recall cX3_recall 3 (some .boolean) :: ((wsX3_recall_r1 ++ wsX3_recall_r2) ++ wsX30 ++ wsX20)
def wsX3_lose : List Cond := .code yX3_lose cX3_lose 1 none :: ([.fieldLink RX3 21 "CodedWords$Past" "known" "I"] ++ wsX30)
def wsX4_init : List Cond := .code yX4_init cX4_init 1 none :: ([.methodLink RX4 3 objectInit, .instanceMethod objectInit, .code objectInit ⟨#[0xb1]⟩ 1 none, .arrayClass .int, .fieldLink RX4 9 "CodedWords$Search" "words" "[I", .fieldLink RX4 15 "CodedWords$Search" "fits" "[I", .fieldLink RX4 18 "CodedWords$Search" "open" "[I", .fieldLink RX4 21 "CodedWords$Search" "seen" "I"] ++ wsX40)
def wsX4_note : List Cond := .code yX4_note cX4_note 3 (some .boolean) :: ([.fieldLink RX4 21 "CodedWords$Search" "seen" "I", .fieldLink RX4 9 "CodedWords$Search" "words" "[I", .fieldLink RX4 15 "CodedWords$Search" "fits" "[I"] ++ wsX40)
def wsX4_isOpen : List Cond := .code yX4_isOpen cX4_isOpen 4 (some .boolean) :: ([.fieldLink RX4 21 "CodedWords$Search" "seen" "I", .fieldLink RX4 9 "CodedWords$Search" "words" "[I", .fieldLink RX4 15 "CodedWords$Search" "fits" "[I", .static yX5_rest, .initialized RX5, .code yX5_rest cX5_rest 2 (some .int), .methodLink RX5 210 yJ9_floorMod_7cf53, .static yJ9_floorMod_7cf53, .initialized RJ9, .code yJ9_floorMod_7cf53 cJ9_floorMod_7cf53 3 (some .int)] ++ wsX40)
def wsX4_gatherOpen : List Cond := .code yX4_gatherOpen cX4_gatherOpen 3 (some .int) :: ([.fieldLink RX4 18 "CodedWords$Search" "open" "[I", .methodLink RX4 25 yX4_isOpen, .instanceMethod yX4_isOpen, .selects RX4 yX4_isOpen yX4_isOpen, .initialized RX4, .code yX4_isOpen cX4_isOpen 4 (some .boolean), .fieldLink RX4 21 "CodedWords$Search" "seen" "I", .fieldLink RX4 9 "CodedWords$Search" "words" "[I", .fieldLink RX4 15 "CodedWords$Search" "fits" "[I", .static yX5_rest, .initialized RX5, .code yX5_rest cX5_rest 2 (some .int), .methodLink RX5 210 yJ9_floorMod_7cf53, .static yJ9_floorMod_7cf53, .initialized RJ9, .code yJ9_floorMod_7cf53 cJ9_floorMod_7cf53 3 (some .int)] ++ wsX40)
def wsX4_leastOpen : List Cond := .code yX4_leastOpen cX4_leastOpen 1 (some .int) :: ([.constant RX4 33 (-1000000), .fieldLink RX4 18 "CodedWords$Search" "open" "[I", .methodLink RX4 29 yX4_gatherOpen, .instanceMethod yX4_gatherOpen, .selects RX4 yX4_gatherOpen yX4_gatherOpen, .initialized RX4, .code yX4_gatherOpen cX4_gatherOpen 3 (some .int), .methodLink RX4 25 yX4_isOpen, .instanceMethod yX4_isOpen, .selects RX4 yX4_isOpen yX4_isOpen, .code yX4_isOpen cX4_isOpen 4 (some .boolean), .fieldLink RX4 21 "CodedWords$Search" "seen" "I", .fieldLink RX4 9 "CodedWords$Search" "words" "[I", .fieldLink RX4 15 "CodedWords$Search" "fits" "[I", .static yX5_rest, .initialized RX5, .code yX5_rest cX5_rest 2 (some .int), .methodLink RX5 210 yJ9_floorMod_7cf53, .static yJ9_floorMod_7cf53, .initialized RJ9, .code yJ9_floorMod_7cf53 cJ9_floorMod_7cf53 3 (some .int)] ++ wsX40)
def wsX4_openFitting : List Cond := .code yX4_openFitting cX4_openFitting 5 (some .int) :: ([.fieldLink RX4 18 "CodedWords$Search" "open" "[I", .static yX5_rest, .initialized RX5, .code yX5_rest cX5_rest 2 (some .int), .methodLink RX5 210 yJ9_floorMod_7cf53, .static yJ9_floorMod_7cf53, .initialized RJ9, .code yJ9_floorMod_7cf53 cJ9_floorMod_7cf53 3 (some .int)] ++ wsX40)
def wsX4_bestTry_r1 : List Cond := [Cond.constant RX4 33 (-1000000), Cond.methodLink RX4 38 Lib.Math.max.name, Cond.static Lib.Math.max.name, Cond.initialized "java/lang/Math", Cond.code Lib.Math.max.name Lib.Math.max.code 2 (some .int), Cond.methodLink RX4 29 yX4_gatherOpen, Cond.instanceMethod yX4_gatherOpen, Cond.selects RX4 yX4_gatherOpen yX4_gatherOpen, Cond.initialized RX4, Cond.code yX4_gatherOpen cX4_gatherOpen 3 (some .int), Cond.fieldLink RX4 18 "CodedWords$Search" "open" "[I", Cond.methodLink RX4 25 yX4_isOpen, Cond.instanceMethod yX4_isOpen, Cond.selects RX4 yX4_isOpen yX4_isOpen, Cond.code yX4_isOpen cX4_isOpen 4 (some .boolean), Cond.fieldLink RX4 21 "CodedWords$Search" "seen" "I", Cond.fieldLink RX4 9 "CodedWords$Search" "words" "[I", Cond.fieldLink RX4 15 "CodedWords$Search" "fits" "[I", Cond.static yX5_rest, Cond.initialized RX5, Cond.code yX5_rest cX5_rest 2 (some .int), Cond.methodLink RX5 210 yJ9_floorMod_7cf53, Cond.static yJ9_floorMod_7cf53, Cond.initialized RJ9]
def wsX4_bestTry_r2 : List Cond := [Cond.code yJ9_floorMod_7cf53 cJ9_floorMod_7cf53 3 (some .int), Cond.methodLink RX4 34 yX4_openFitting, Cond.instanceMethod yX4_openFitting, Cond.selects RX4 yX4_openFitting yX4_openFitting, Cond.code yX4_openFitting cX4_openFitting 5 (some .int)]
def wsX4_bestTry : List Cond := .code yX4_bestTry cX4_bestTry 7 (some .int) :: ((wsX4_bestTry_r1 ++ wsX4_bestTry_r2) ++ wsX40)
def wsX5_init_r1 : List Cond := [Cond.methodLink RX5 1 objectInit, Cond.instanceMethod objectInit, Cond.code objectInit ⟨#[0xb1]⟩ 1 none, Cond.classLink RX5 7 RX2, Cond.instantiable RX2 4, Cond.initialized RX2, Cond.fieldLink RX5 10 "CodedWords" "code" "LCodedWords$Code;", Cond.classLink RX5 16 RX3, Cond.instantiable RX3 3, Cond.initialized RX3, Cond.fieldLink RX5 19 "CodedWords" "past" "LCodedWords$Past;", Cond.classLink RX5 23 RX0, Cond.instantiable RX0 1, Cond.initialized RX0, Cond.fieldLink RX5 26 "CodedWords" "album" "LCodedWords$Album;", Cond.classLink RX5 30 RX4, Cond.instantiable RX4 4, Cond.initialized RX4, Cond.fieldLink RX5 33 "CodedWords" "search" "LCodedWords$Search;", Cond.classLink RX5 37 RX1, Cond.instantiable RX1 2, Cond.initialized RX1, Cond.fieldLink RX5 40 "CodedWords" "chances" "LCodedWords$Chances;", Cond.instanceMethod yX2_init]
def wsX5_init_r2 : List Cond := [Cond.code yX2_init cX2_init 1 none, Cond.methodLink RX2 3 objectInit, Cond.fieldLink RX2 9 "CodedWords$Code" "a" "I", Cond.fieldLink RX2 15 "CodedWords$Code" "width" "I", Cond.arrayClass .int, Cond.fieldLink RX2 18 "CodedWords$Code" "words" "[I", Cond.fieldLink RX2 22 "CodedWords$Code" "residues" "[I", Cond.methodLink RX5 18 yX3_init, Cond.instanceMethod yX3_init, Cond.code yX3_init cX3_init 2 none, Cond.methodLink RX3 3 objectInit, Cond.classLink RX3 9 RX2, Cond.fieldLink RX3 11 "CodedWords$Past" "ring" "[LCodedWords$Code;", Cond.fieldLink RX3 17 "CodedWords$Past" "oldest" "I", Cond.fieldLink RX3 21 "CodedWords$Past" "known" "I", Cond.instanceMethod yX0_init, Cond.code yX0_init cX0_init 1 none, Cond.methodLink RX0 3 objectInit, Cond.classLink RX0 9 RX2, Cond.fieldLink RX0 11 "CodedWords$Album" "kept" "[LCodedWords$Code;", Cond.instanceMethod yX4_init, Cond.code yX4_init cX4_init 1 none, Cond.methodLink RX4 3 objectInit, Cond.fieldLink RX4 9 "CodedWords$Search" "words" "[I"]
def wsX5_init_r3 : List Cond := [Cond.fieldLink RX4 15 "CodedWords$Search" "fits" "[I", Cond.fieldLink RX4 18 "CodedWords$Search" "open" "[I", Cond.fieldLink RX4 21 "CodedWords$Search" "seen" "I", Cond.instanceMethod yX1_init, Cond.code yX1_init cX1_init 1 none, Cond.methodLink RX1 3 objectInit, Cond.fieldLink RX1 9 "CodedWords$Chances" "ways" "[I", Cond.fieldLink RX1 15 "CodedWords$Chances" "waysOneMore" "[I"]
def wsX5_init : List Cond := .code yX5_init cX5_init 1 none :: ((wsX5_init_r1 ++ (wsX5_init_r2 ++ wsX5_init_r3)) ++ wsX20 ++ wsX50 ++ wsX30 ++ wsX00 ++ wsX40 ++ wsX10)
def wsX5_isConstant : List Cond := .code yX5_isConstant cX5_isConstant 1 (some .boolean) :: ([])
def wsX5_isWidth : List Cond := .code yX5_isWidth cX5_isWidth 1 (some .boolean) :: ([])
def wsX5_codes_r1 : List Cond := [Cond.constant RX5 51 (-1000001), Cond.fieldLink RX5 19 "CodedWords" "past" "LCodedWords$Past;", Cond.fieldLink RX5 10 "CodedWords" "code" "LCodedWords$Code;", Cond.methodLink RX5 44 yX5_isConstant, Cond.static yX5_isConstant, Cond.initialized RX5, Cond.code yX5_isConstant cX5_isConstant 1 (some .boolean), Cond.methodLink RX5 48 yX5_isWidth, Cond.static yX5_isWidth, Cond.code yX5_isWidth cX5_isWidth 1 (some .boolean), Cond.methodLink RX5 52 yX3_remember, Cond.instanceMethod yX3_remember, Cond.selects RX3 yX3_remember yX3_remember, Cond.initialized RX3, Cond.code yX3_remember cX3_remember 3 none, Cond.fieldLink RX3 21 "CodedWords$Past" "known" "I", Cond.fieldLink RX3 17 "CodedWords$Past" "oldest" "I", Cond.fieldLink RX3 11 "CodedWords$Past" "ring" "[LCodedWords$Code;", Cond.static yX5_rest, Cond.code yX5_rest cX5_rest 2 (some .int), Cond.methodLink RX5 210 yJ9_floorMod_7cf53, Cond.static yJ9_floorMod_7cf53, Cond.initialized RJ9, Cond.code yJ9_floorMod_7cf53 cJ9_floorMod_7cf53 3 (some .int)]
def wsX5_codes_r2 : List Cond := [Cond.methodLink RX3 29 yJ9_floorMod_7cf53, Cond.methodLink RX3 34 yX2_copyFrom, Cond.instanceMethod yX2_copyFrom, Cond.selects RX2 yX2_copyFrom yX2_copyFrom, Cond.initialized RX2, Cond.code yX2_copyFrom cX2_copyFrom 3 none, Cond.fieldLink RX2 9 "CodedWords$Code" "a" "I", Cond.fieldLink RX2 15 "CodedWords$Code" "width" "I", Cond.methodLink RX2 31 yX2_wordOf, Cond.instanceMethod yX2_wordOf, Cond.selects RX2 yX2_wordOf yX2_wordOf, Cond.code yX2_wordOf cX2_wordOf 2 (some .int), Cond.fieldLink RX2 18 "CodedWords$Code" "words" "[I", Cond.static yX5_isRegister, Cond.code yX5_isRegister cX5_isRegister 1 (some .boolean), Cond.methodLink RX2 35 yX2_residueOf, Cond.instanceMethod yX2_residueOf, Cond.selects RX2 yX2_residueOf yX2_residueOf, Cond.code yX2_residueOf cX2_residueOf 2 (some .int), Cond.fieldLink RX2 22 "CodedWords$Code" "residues" "[I", Cond.methodLink RX2 38 yX2_put, Cond.instanceMethod yX2_put, Cond.selects RX2 yX2_put yX2_put, Cond.code yX2_put cX2_put 4 none]
def wsX5_codes_r3 : List Cond := [Cond.methodLink RX5 56 yX2_startAs, Cond.instanceMethod yX2_startAs, Cond.selects RX2 yX2_startAs yX2_startAs, Cond.code yX2_startAs cX2_startAs 3 none, Cond.methodLink RX2 25 yJ7_fill_53178, Cond.static yJ7_fill_53178, Cond.initialized RJ7, Cond.code yJ7_fill_53178 cJ7_fill_53178 4 none, Cond.methodLink RX5 60 yX2_reach, Cond.instanceMethod yX2_reach, Cond.selects RX2 yX2_reach yX2_reach, Cond.code yX2_reach cX2_reach 1 (some .int), Cond.methodLink RX2 46 yX2_top, Cond.instanceMethod yX2_top, Cond.selects RX2 yX2_top yX2_top, Cond.code yX2_top cX2_top 1 (some .int), Cond.static yX5_cut, Cond.code yX5_cut cX5_cut 3 (some .long)]
def wsX5_codes : List Cond := .code yX5_codes cX5_codes 3 (some .int) :: ((wsX5_codes_r1 ++ (wsX5_codes_r2 ++ wsX5_codes_r3)) ++ wsX50 ++ wsX30 ++ wsX20)
def wsX5_sets_r1 : List Cond := [Cond.fieldLink RX5 10 "CodedWords" "code" "LCodedWords$Code;", Cond.constant RX5 51 (-1000001), Cond.fieldLink RX5 19 "CodedWords" "past" "LCodedWords$Past;", Cond.methodLink RX5 64 yX5_isRegister, Cond.static yX5_isRegister, Cond.initialized RX5, Cond.code yX5_isRegister cX5_isRegister 1 (some .boolean), Cond.methodLink RX5 67 yX2_reaches, Cond.instanceMethod yX2_reaches, Cond.selects RX2 yX2_reaches yX2_reaches, Cond.initialized RX2, Cond.code yX2_reaches cX2_reaches 2 (some .boolean), Cond.methodLink RX2 54 yX2_reach, Cond.instanceMethod yX2_reach, Cond.selects RX2 yX2_reach yX2_reach, Cond.code yX2_reach cX2_reach 1 (some .int), Cond.fieldLink RX2 9 "CodedWords$Code" "a" "I", Cond.methodLink RX2 46 yX2_top, Cond.instanceMethod yX2_top, Cond.selects RX2 yX2_top yX2_top, Cond.code yX2_top cX2_top 1 (some .int), Cond.fieldLink RX2 15 "CodedWords$Code" "width" "I", Cond.static yX5_cut, Cond.code yX5_cut cX5_cut 3 (some .long)]
def wsX5_sets_r2 : List Cond := [Cond.methodLink RX5 52 yX3_remember, Cond.instanceMethod yX3_remember, Cond.selects RX3 yX3_remember yX3_remember, Cond.initialized RX3, Cond.code yX3_remember cX3_remember 3 none, Cond.fieldLink RX3 21 "CodedWords$Past" "known" "I", Cond.fieldLink RX3 17 "CodedWords$Past" "oldest" "I", Cond.fieldLink RX3 11 "CodedWords$Past" "ring" "[LCodedWords$Code;", Cond.static yX5_rest, Cond.code yX5_rest cX5_rest 2 (some .int), Cond.methodLink RX5 210 yJ9_floorMod_7cf53, Cond.static yJ9_floorMod_7cf53, Cond.initialized RJ9, Cond.code yJ9_floorMod_7cf53 cJ9_floorMod_7cf53 3 (some .int), Cond.methodLink RX3 29 yJ9_floorMod_7cf53, Cond.methodLink RX3 34 yX2_copyFrom, Cond.instanceMethod yX2_copyFrom, Cond.selects RX2 yX2_copyFrom yX2_copyFrom, Cond.code yX2_copyFrom cX2_copyFrom 3 none, Cond.methodLink RX2 31 yX2_wordOf, Cond.instanceMethod yX2_wordOf, Cond.selects RX2 yX2_wordOf yX2_wordOf, Cond.code yX2_wordOf cX2_wordOf 2 (some .int), Cond.fieldLink RX2 18 "CodedWords$Code" "words" "[I"]
def wsX5_sets_r3 : List Cond := [Cond.methodLink RX2 35 yX2_residueOf, Cond.instanceMethod yX2_residueOf, Cond.selects RX2 yX2_residueOf yX2_residueOf, Cond.code yX2_residueOf cX2_residueOf 2 (some .int), Cond.fieldLink RX2 22 "CodedWords$Code" "residues" "[I", Cond.methodLink RX2 38 yX2_put, Cond.instanceMethod yX2_put, Cond.selects RX2 yX2_put yX2_put, Cond.code yX2_put cX2_put 4 none, Cond.methodLink RX5 74 yX5_rest, Cond.methodLink RX5 78 yX2_put, Cond.methodLink RX5 82 yX2_wordOf]
def wsX5_sets : List Cond := .code yX5_sets cX5_sets 3 (some .int) :: ((wsX5_sets_r1 ++ (wsX5_sets_r2 ++ wsX5_sets_r3)) ++ wsX50 ++ wsX20 ++ wsX30)
def wsX5_wordDone : List Cond := .code yX5_wordDone cX5_wordDone 6 (some .long) :: ([.fieldLink RX5 10 "CodedWords" "code" "LCodedWords$Code;", .constantLong RX5 218 (2), .methodLink RX5 173 yX5_cut, .static yX5_cut, .initialized RX5, .code yX5_cut cX5_cut 3 (some .long)] ++ wsX50 ++ wsX20)
def wsX5_residueDone : List Cond := .code yX5_residueDone cX5_residueDone 3 (some .int) :: ([])
def wsX5_does_r1 : List Cond := [Cond.constant RX5 51 (-1000001), Cond.fieldLink RX5 10 "CodedWords" "code" "LCodedWords$Code;", Cond.constant RX5 89 (-1000002), Cond.constant RX5 97 (-1000004), Cond.fieldLink RX5 19 "CodedWords" "past" "LCodedWords$Past;", Cond.methodLink RX5 64 yX5_isRegister, Cond.static yX5_isRegister, Cond.initialized RX5, Cond.code yX5_isRegister cX5_isRegister 1 (some .boolean), Cond.methodLink RX5 86 yX2_canHalve, Cond.instanceMethod yX2_canHalve, Cond.selects RX2 yX2_canHalve yX2_canHalve, Cond.initialized RX2, Cond.code yX2_canHalve cX2_canHalve 3 (some .boolean), Cond.methodLink RX2 31 yX2_wordOf, Cond.instanceMethod yX2_wordOf, Cond.selects RX2 yX2_wordOf yX2_wordOf, Cond.code yX2_wordOf cX2_wordOf 2 (some .int), Cond.fieldLink RX2 18 "CodedWords$Code" "words" "[I", Cond.methodLink RX2 64 yX2_fits, Cond.instanceMethod yX2_fits, Cond.selects RX2 yX2_fits yX2_fits, Cond.code yX2_fits cX2_fits 2 (some .boolean), Cond.fieldLink RX2 9 "CodedWords$Code" "a" "I"]
def wsX5_does_r2 : List Cond := [Cond.static yX5_rest, Cond.code yX5_rest cX5_rest 2 (some .int), Cond.methodLink RX5 210 yJ9_floorMod_7cf53, Cond.static yJ9_floorMod_7cf53, Cond.initialized RJ9, Cond.code yJ9_floorMod_7cf53 cJ9_floorMod_7cf53 3 (some .int), Cond.methodLink RX2 61 yX2_valueOf, Cond.instanceMethod yX2_valueOf, Cond.selects RX2 yX2_valueOf yX2_valueOf, Cond.code yX2_valueOf cX2_valueOf 2 (some .int), Cond.static yX5_cut, Cond.code yX5_cut cX5_cut 3 (some .long), Cond.methodLink RX5 82 yX2_wordOf, Cond.methodLink RX5 90 yX5_wordDone, Cond.instanceMethod yX5_wordDone, Cond.selects RX5 yX5_wordDone yX5_wordDone, Cond.code yX5_wordDone cX5_wordDone 6 (some .long), Cond.constantLong RX5 218 (2), Cond.methodLink RX5 173 yX5_cut, Cond.methodLink RX5 94 yX2_top, Cond.instanceMethod yX2_top, Cond.selects RX2 yX2_top yX2_top, Cond.code yX2_top cX2_top 1 (some .int), Cond.fieldLink RX2 15 "CodedWords$Code" "width" "I"]
def wsX5_does_r3 : List Cond := [Cond.methodLink RX5 98 yX2_residueOf, Cond.instanceMethod yX2_residueOf, Cond.selects RX2 yX2_residueOf yX2_residueOf, Cond.code yX2_residueOf cX2_residueOf 2 (some .int), Cond.fieldLink RX2 22 "CodedWords$Code" "residues" "[I", Cond.methodLink RX5 101 yX5_residueDone, Cond.static yX5_residueDone, Cond.code yX5_residueDone cX5_residueDone 3 (some .int), Cond.methodLink RX5 52 yX3_remember, Cond.instanceMethod yX3_remember, Cond.selects RX3 yX3_remember yX3_remember, Cond.initialized RX3, Cond.code yX3_remember cX3_remember 3 none, Cond.fieldLink RX3 21 "CodedWords$Past" "known" "I", Cond.fieldLink RX3 17 "CodedWords$Past" "oldest" "I", Cond.fieldLink RX3 11 "CodedWords$Past" "ring" "[LCodedWords$Code;", Cond.methodLink RX3 29 yJ9_floorMod_7cf53, Cond.methodLink RX3 34 yX2_copyFrom, Cond.instanceMethod yX2_copyFrom, Cond.selects RX2 yX2_copyFrom yX2_copyFrom, Cond.code yX2_copyFrom cX2_copyFrom 3 none, Cond.methodLink RX2 35 yX2_residueOf, Cond.methodLink RX2 38 yX2_put, Cond.instanceMethod yX2_put]
def wsX5_does_r4 : List Cond := [Cond.selects RX2 yX2_put yX2_put, Cond.code yX2_put cX2_put 4 none, Cond.methodLink RX5 74 yX5_rest, Cond.methodLink RX5 78 yX2_put]
def wsX5_does : List Cond := .code yX5_does cX5_does 7 (some .int) :: ((wsX5_does_r1 ++ (wsX5_does_r2 ++ (wsX5_does_r3 ++ wsX5_does_r4))) ++ wsX50 ++ wsX20 ++ wsX30)
def wsX5_strikes_r1 : List Cond := [Cond.fieldLink RX5 10 "CodedWords" "code" "LCodedWords$Code;", Cond.constant RX5 51 (-1000001), Cond.constant RX5 89 (-1000002), Cond.fieldLink RX5 19 "CodedWords" "past" "LCodedWords$Past;", Cond.methodLink RX5 64 yX5_isRegister, Cond.static yX5_isRegister, Cond.initialized RX5, Cond.code yX5_isRegister cX5_isRegister 1 (some .boolean), Cond.methodLink RX5 105 yX2_strikeCount, Cond.instanceMethod yX2_strikeCount, Cond.selects RX2 yX2_strikeCount yX2_strikeCount, Cond.initialized RX2, Cond.code yX2_strikeCount cX2_strikeCount 1 (some .int), Cond.fieldLink RX2 15 "CodedWords$Code" "width" "I", Cond.methodLink RX5 82 yX2_wordOf, Cond.instanceMethod yX2_wordOf, Cond.selects RX2 yX2_wordOf yX2_wordOf, Cond.code yX2_wordOf cX2_wordOf 2 (some .int), Cond.fieldLink RX2 18 "CodedWords$Code" "words" "[I", Cond.methodLink RX5 108 yX5_change, Cond.static yX5_change, Cond.code yX5_change cX5_change 2 (some .int), Cond.methodLink RX5 94 yX2_top, Cond.instanceMethod yX2_top]
def wsX5_strikes_r2 : List Cond := [Cond.selects RX2 yX2_top yX2_top, Cond.code yX2_top cX2_top 1 (some .int), Cond.methodLink RX5 52 yX3_remember, Cond.instanceMethod yX3_remember, Cond.selects RX3 yX3_remember yX3_remember, Cond.initialized RX3, Cond.code yX3_remember cX3_remember 3 none, Cond.fieldLink RX3 21 "CodedWords$Past" "known" "I", Cond.fieldLink RX3 17 "CodedWords$Past" "oldest" "I", Cond.fieldLink RX3 11 "CodedWords$Past" "ring" "[LCodedWords$Code;", Cond.static yX5_rest, Cond.code yX5_rest cX5_rest 2 (some .int), Cond.methodLink RX5 210 yJ9_floorMod_7cf53, Cond.static yJ9_floorMod_7cf53, Cond.initialized RJ9, Cond.code yJ9_floorMod_7cf53 cJ9_floorMod_7cf53 3 (some .int), Cond.methodLink RX3 29 yJ9_floorMod_7cf53, Cond.methodLink RX3 34 yX2_copyFrom, Cond.instanceMethod yX2_copyFrom, Cond.selects RX2 yX2_copyFrom yX2_copyFrom, Cond.code yX2_copyFrom cX2_copyFrom 3 none, Cond.fieldLink RX2 9 "CodedWords$Code" "a" "I", Cond.methodLink RX2 31 yX2_wordOf, Cond.methodLink RX2 35 yX2_residueOf]
def wsX5_strikes_r3 : List Cond := [Cond.instanceMethod yX2_residueOf, Cond.selects RX2 yX2_residueOf yX2_residueOf, Cond.code yX2_residueOf cX2_residueOf 2 (some .int), Cond.fieldLink RX2 22 "CodedWords$Code" "residues" "[I", Cond.methodLink RX2 38 yX2_put, Cond.instanceMethod yX2_put, Cond.selects RX2 yX2_put yX2_put, Cond.code yX2_put cX2_put 4 none, Cond.methodLink RX5 98 yX2_residueOf, Cond.methodLink RX5 78 yX2_put]
def wsX5_strikes : List Cond := .code yX5_strikes cX5_strikes 5 (some .int) :: ((wsX5_strikes_r1 ++ (wsX5_strikes_r2 ++ wsX5_strikes_r3)) ++ wsX50 ++ wsX20 ++ wsX30)
def wsX5_bends_r1 : List Cond := [Cond.constant RX5 51 (-1000001), Cond.fieldLink RX5 19 "CodedWords" "past" "LCodedWords$Past;", Cond.fieldLink RX5 10 "CodedWords" "code" "LCodedWords$Code;", Cond.methodLink RX5 64 yX5_isRegister, Cond.static yX5_isRegister, Cond.initialized RX5, Cond.code yX5_isRegister cX5_isRegister 1 (some .boolean), Cond.methodLink RX5 52 yX3_remember, Cond.instanceMethod yX3_remember, Cond.selects RX3 yX3_remember yX3_remember, Cond.initialized RX3, Cond.code yX3_remember cX3_remember 3 none, Cond.fieldLink RX3 21 "CodedWords$Past" "known" "I", Cond.fieldLink RX3 17 "CodedWords$Past" "oldest" "I", Cond.fieldLink RX3 11 "CodedWords$Past" "ring" "[LCodedWords$Code;", Cond.static yX5_rest, Cond.code yX5_rest cX5_rest 2 (some .int), Cond.methodLink RX5 210 yJ9_floorMod_7cf53, Cond.static yJ9_floorMod_7cf53, Cond.initialized RJ9, Cond.code yJ9_floorMod_7cf53 cJ9_floorMod_7cf53 3 (some .int), Cond.methodLink RX3 29 yJ9_floorMod_7cf53, Cond.methodLink RX3 34 yX2_copyFrom, Cond.instanceMethod yX2_copyFrom]
def wsX5_bends_r2 : List Cond := [Cond.selects RX2 yX2_copyFrom yX2_copyFrom, Cond.initialized RX2, Cond.code yX2_copyFrom cX2_copyFrom 3 none, Cond.fieldLink RX2 9 "CodedWords$Code" "a" "I", Cond.fieldLink RX2 15 "CodedWords$Code" "width" "I", Cond.methodLink RX2 31 yX2_wordOf, Cond.instanceMethod yX2_wordOf, Cond.selects RX2 yX2_wordOf yX2_wordOf, Cond.code yX2_wordOf cX2_wordOf 2 (some .int), Cond.fieldLink RX2 18 "CodedWords$Code" "words" "[I", Cond.methodLink RX2 35 yX2_residueOf, Cond.instanceMethod yX2_residueOf, Cond.selects RX2 yX2_residueOf yX2_residueOf, Cond.code yX2_residueOf cX2_residueOf 2 (some .int), Cond.fieldLink RX2 22 "CodedWords$Code" "residues" "[I", Cond.methodLink RX2 38 yX2_put, Cond.instanceMethod yX2_put, Cond.selects RX2 yX2_put yX2_put, Cond.code yX2_put cX2_put 4 none, Cond.methodLink RX5 82 yX2_wordOf, Cond.methodLink RX5 98 yX2_residueOf, Cond.methodLink RX5 74 yX5_rest, Cond.methodLink RX5 78 yX2_put]
def wsX5_bends : List Cond := .code yX5_bends cX5_bends 3 (some .int) :: ((wsX5_bends_r1 ++ wsX5_bends_r2) ++ wsX50 ++ wsX30 ++ wsX20)
def wsX5_mends_r1 : List Cond := [Cond.constant RX5 51 (-1000001), Cond.fieldLink RX5 10 "CodedWords" "code" "LCodedWords$Code;", Cond.fieldLink RX5 19 "CodedWords" "past" "LCodedWords$Past;", Cond.constant RX5 120 (-1000005), Cond.methodLink RX5 64 yX5_isRegister, Cond.static yX5_isRegister, Cond.initialized RX5, Cond.code yX5_isRegister cX5_isRegister 1 (some .boolean), Cond.methodLink RX5 82 yX2_wordOf, Cond.instanceMethod yX2_wordOf, Cond.selects RX2 yX2_wordOf yX2_wordOf, Cond.initialized RX2, Cond.code yX2_wordOf cX2_wordOf 2 (some .int), Cond.fieldLink RX2 18 "CodedWords$Code" "words" "[I", Cond.methodLink RX5 111 yX2_verdictOf, Cond.instanceMethod yX2_verdictOf, Cond.selects RX2 yX2_verdictOf yX2_verdictOf, Cond.code yX2_verdictOf cX2_verdictOf 3 (some .int), Cond.methodLink RX2 31 yX2_wordOf, Cond.methodLink RX2 67 yX2_isSound, Cond.instanceMethod yX2_isSound, Cond.selects RX2 yX2_isSound yX2_isSound, Cond.code yX2_isSound cX2_isSound 2 (some .boolean), Cond.methodLink RX2 64 yX2_fits]
def wsX5_mends_r2 : List Cond := [Cond.instanceMethod yX2_fits, Cond.selects RX2 yX2_fits yX2_fits, Cond.code yX2_fits cX2_fits 2 (some .boolean), Cond.fieldLink RX2 9 "CodedWords$Code" "a" "I", Cond.static yX5_rest, Cond.code yX5_rest cX5_rest 2 (some .int), Cond.methodLink RX5 210 yJ9_floorMod_7cf53, Cond.static yJ9_floorMod_7cf53, Cond.initialized RJ9, Cond.code yJ9_floorMod_7cf53 cJ9_floorMod_7cf53 3 (some .int), Cond.methodLink RX2 46 yX2_top, Cond.instanceMethod yX2_top, Cond.selects RX2 yX2_top yX2_top, Cond.code yX2_top cX2_top 1 (some .int), Cond.fieldLink RX2 15 "CodedWords$Code" "width" "I", Cond.methodLink RX2 35 yX2_residueOf, Cond.instanceMethod yX2_residueOf, Cond.selects RX2 yX2_residueOf yX2_residueOf, Cond.code yX2_residueOf cX2_residueOf 2 (some .int), Cond.fieldLink RX2 22 "CodedWords$Code" "residues" "[I", Cond.methodLink RX2 73 yX2_isRight, Cond.instanceMethod yX2_isRight, Cond.selects RX2 yX2_isRight yX2_isRight, Cond.code yX2_isRight cX2_isRight 3 (some .boolean)]
def wsX5_mends_r3 : List Cond := [Cond.methodLink RX2 70 yX2_dueResidue, Cond.instanceMethod yX2_dueResidue, Cond.selects RX2 yX2_dueResidue yX2_dueResidue, Cond.code yX2_dueResidue cX2_dueResidue 2 (some .int), Cond.methodLink RX2 61 yX2_valueOf, Cond.instanceMethod yX2_valueOf, Cond.selects RX2 yX2_valueOf yX2_valueOf, Cond.code yX2_valueOf cX2_valueOf 2 (some .int), Cond.static yX5_cut, Cond.code yX5_cut cX5_cut 3 (some .long), Cond.methodLink RX2 83 yX2_causesOf, Cond.instanceMethod yX2_causesOf, Cond.selects RX2 yX2_causesOf yX2_causesOf, Cond.code yX2_causesOf cX2_causesOf 4 (some .int), Cond.methodLink RX2 77 yX2_strikeCount, Cond.instanceMethod yX2_strikeCount, Cond.selects RX2 yX2_strikeCount yX2_strikeCount, Cond.code yX2_strikeCount cX2_strikeCount 1 (some .int), Cond.static yX5_change, Cond.code yX5_change cX5_change 2 (some .int), Cond.methodLink RX5 52 yX3_remember, Cond.instanceMethod yX3_remember, Cond.selects RX3 yX3_remember yX3_remember, Cond.initialized RX3]
def wsX5_mends_r4 : List Cond := [Cond.code yX3_remember cX3_remember 3 none, Cond.fieldLink RX3 21 "CodedWords$Past" "known" "I", Cond.fieldLink RX3 17 "CodedWords$Past" "oldest" "I", Cond.fieldLink RX3 11 "CodedWords$Past" "ring" "[LCodedWords$Code;", Cond.methodLink RX3 29 yJ9_floorMod_7cf53, Cond.methodLink RX3 34 yX2_copyFrom, Cond.instanceMethod yX2_copyFrom, Cond.selects RX2 yX2_copyFrom yX2_copyFrom, Cond.code yX2_copyFrom cX2_copyFrom 3 none, Cond.methodLink RX2 38 yX2_put, Cond.instanceMethod yX2_put, Cond.selects RX2 yX2_put yX2_put, Cond.code yX2_put cX2_put 4 none, Cond.methodLink RX5 114 yX2_dueResidue, Cond.methodLink RX5 78 yX2_put, Cond.methodLink RX5 117 yX2_onlyCauseOf, Cond.instanceMethod yX2_onlyCauseOf, Cond.selects RX2 yX2_onlyCauseOf yX2_onlyCauseOf, Cond.code yX2_onlyCauseOf cX2_onlyCauseOf 3 (some .int), Cond.constant RX2 86 (-1000000), Cond.methodLink RX5 108 yX5_change, Cond.methodLink RX5 98 yX2_residueOf]
def wsX5_mends : List Cond := .code yX5_mends cX5_mends 4 (some .int) :: ((wsX5_mends_r1 ++ (wsX5_mends_r2 ++ (wsX5_mends_r3 ++ wsX5_mends_r4))) ++ wsX50 ++ wsX20 ++ wsX30)
def wsX5_undo_r1 : List Cond := [Cond.fieldLink RX5 19 "CodedWords" "past" "LCodedWords$Past;", Cond.fieldLink RX5 10 "CodedWords" "code" "LCodedWords$Code;", Cond.constant RX5 89 (-1000002), Cond.methodLink RX5 121 yX3_recall, Cond.instanceMethod yX3_recall, Cond.selects RX3 yX3_recall yX3_recall, Cond.initialized RX3, Cond.code yX3_recall cX3_recall 3 (some .boolean), Cond.fieldLink RX3 21 "CodedWords$Past" "known" "I", Cond.fieldLink RX3 11 "CodedWords$Past" "ring" "[LCodedWords$Code;", Cond.fieldLink RX3 17 "CodedWords$Past" "oldest" "I", Cond.methodLink RX3 29 yJ9_floorMod_7cf53, Cond.static yJ9_floorMod_7cf53, Cond.initialized RJ9, Cond.code yJ9_floorMod_7cf53 cJ9_floorMod_7cf53 3 (some .int), Cond.methodLink RX3 34 yX2_copyFrom, Cond.instanceMethod yX2_copyFrom, Cond.selects RX2 yX2_copyFrom yX2_copyFrom, Cond.initialized RX2, Cond.code yX2_copyFrom cX2_copyFrom 3 none, Cond.fieldLink RX2 9 "CodedWords$Code" "a" "I", Cond.fieldLink RX2 15 "CodedWords$Code" "width" "I", Cond.methodLink RX2 31 yX2_wordOf, Cond.instanceMethod yX2_wordOf]
def wsX5_undo_r2 : List Cond := [Cond.selects RX2 yX2_wordOf yX2_wordOf, Cond.code yX2_wordOf cX2_wordOf 2 (some .int), Cond.fieldLink RX2 18 "CodedWords$Code" "words" "[I", Cond.static yX5_isRegister, Cond.initialized RX5, Cond.code yX5_isRegister cX5_isRegister 1 (some .boolean), Cond.methodLink RX2 35 yX2_residueOf, Cond.instanceMethod yX2_residueOf, Cond.selects RX2 yX2_residueOf yX2_residueOf, Cond.code yX2_residueOf cX2_residueOf 2 (some .int), Cond.fieldLink RX2 22 "CodedWords$Code" "residues" "[I", Cond.methodLink RX2 38 yX2_put, Cond.instanceMethod yX2_put, Cond.selects RX2 yX2_put yX2_put, Cond.code yX2_put cX2_put 4 none]
def wsX5_undo : List Cond := .code yX5_undo cX5_undo 1 (some .int) :: ((wsX5_undo_r1 ++ wsX5_undo_r2) ++ wsX50 ++ wsX30 ++ wsX20)
def wsX5_register_r1 : List Cond := [Cond.constant RX5 51 (-1000001), Cond.fieldLink RX5 10 "CodedWords" "code" "LCodedWords$Code;", Cond.constant RX5 134 (-1000000), Cond.methodLink RX5 64 yX5_isRegister, Cond.static yX5_isRegister, Cond.initialized RX5, Cond.code yX5_isRegister cX5_isRegister 1 (some .boolean), Cond.methodLink RX5 82 yX2_wordOf, Cond.instanceMethod yX2_wordOf, Cond.selects RX2 yX2_wordOf yX2_wordOf, Cond.initialized RX2, Cond.code yX2_wordOf cX2_wordOf 2 (some .int), Cond.fieldLink RX2 18 "CodedWords$Code" "words" "[I", Cond.methodLink RX5 98 yX2_residueOf, Cond.instanceMethod yX2_residueOf, Cond.selects RX2 yX2_residueOf yX2_residueOf, Cond.code yX2_residueOf cX2_residueOf 2 (some .int), Cond.fieldLink RX2 22 "CodedWords$Code" "residues" "[I", Cond.methodLink RX5 74 yX5_rest, Cond.static yX5_rest, Cond.code yX5_rest cX5_rest 2 (some .int), Cond.methodLink RX5 210 yJ9_floorMod_7cf53, Cond.static yJ9_floorMod_7cf53, Cond.initialized RJ9]
def wsX5_register_r2 : List Cond := [Cond.code yJ9_floorMod_7cf53 cJ9_floorMod_7cf53 3 (some .int), Cond.methodLink RX5 128 yX2_fits, Cond.instanceMethod yX2_fits, Cond.selects RX2 yX2_fits yX2_fits, Cond.code yX2_fits cX2_fits 2 (some .boolean), Cond.fieldLink RX2 9 "CodedWords$Code" "a" "I", Cond.methodLink RX5 131 yX2_valueOf, Cond.instanceMethod yX2_valueOf, Cond.selects RX2 yX2_valueOf yX2_valueOf, Cond.code yX2_valueOf cX2_valueOf 2 (some .int), Cond.static yX5_cut, Cond.code yX5_cut cX5_cut 3 (some .long), Cond.methodLink RX5 135 yX2_isRight, Cond.instanceMethod yX2_isRight, Cond.selects RX2 yX2_isRight yX2_isRight, Cond.code yX2_isRight cX2_isRight 3 (some .boolean), Cond.methodLink RX2 67 yX2_isSound, Cond.instanceMethod yX2_isSound, Cond.selects RX2 yX2_isSound yX2_isSound, Cond.code yX2_isSound cX2_isSound 2 (some .boolean), Cond.methodLink RX2 64 yX2_fits, Cond.methodLink RX2 46 yX2_top, Cond.instanceMethod yX2_top, Cond.selects RX2 yX2_top yX2_top]
def wsX5_register_r3 : List Cond := [Cond.code yX2_top cX2_top 1 (some .int), Cond.fieldLink RX2 15 "CodedWords$Code" "width" "I", Cond.methodLink RX2 70 yX2_dueResidue, Cond.instanceMethod yX2_dueResidue, Cond.selects RX2 yX2_dueResidue yX2_dueResidue, Cond.code yX2_dueResidue cX2_dueResidue 2 (some .int), Cond.methodLink RX2 61 yX2_valueOf, Cond.methodLink RX5 111 yX2_verdictOf, Cond.instanceMethod yX2_verdictOf, Cond.selects RX2 yX2_verdictOf yX2_verdictOf, Cond.code yX2_verdictOf cX2_verdictOf 3 (some .int), Cond.methodLink RX2 31 yX2_wordOf, Cond.methodLink RX2 35 yX2_residueOf, Cond.methodLink RX2 73 yX2_isRight, Cond.methodLink RX2 83 yX2_causesOf, Cond.instanceMethod yX2_causesOf, Cond.selects RX2 yX2_causesOf yX2_causesOf, Cond.code yX2_causesOf cX2_causesOf 4 (some .int), Cond.methodLink RX2 77 yX2_strikeCount, Cond.instanceMethod yX2_strikeCount, Cond.selects RX2 yX2_strikeCount yX2_strikeCount, Cond.code yX2_strikeCount cX2_strikeCount 1 (some .int), Cond.static yX5_change, Cond.code yX5_change cX5_change 2 (some .int)]
def wsX5_register_r4 : List Cond := [Cond.methodLink RX5 117 yX2_onlyCauseOf, Cond.instanceMethod yX2_onlyCauseOf, Cond.selects RX2 yX2_onlyCauseOf yX2_onlyCauseOf, Cond.code yX2_onlyCauseOf cX2_onlyCauseOf 3 (some .int), Cond.constant RX2 86 (-1000000), Cond.methodLink RX5 139 yX2_causesOf]
def wsX5_register : List Cond := .code yX5_register cX5_register 4 (some .int) :: ((wsX5_register_r1 ++ (wsX5_register_r2 ++ (wsX5_register_r3 ++ wsX5_register_r4))) ++ wsX50 ++ wsX20)
def wsJ6_bitCount_0f7a4 : List Cond := .code yJ6_bitCount_0f7a4 cJ6_bitCount_0f7a4 1 (some .int) :: ([.constant RJ6 265 (1431655765), .constant RJ6 266 (858993459), .constant RJ6 267 (252645135)])
def wsX5_digitsNotZero : List Cond := .code yX5_digitsNotZero cX5_digitsNotZero 1 (some .int) :: ([.methodLink RX5 213 yJ6_bitCount_0f7a4, .static yJ6_bitCount_0f7a4, .initialized RJ6, .code yJ6_bitCount_0f7a4 cJ6_bitCount_0f7a4 1 (some .int), .constant RJ6 265 (1431655765), .constant RJ6 266 (858993459), .constant RJ6 267 (252645135)])
def wsX5_weight : List Cond := .code yX5_weight cX5_weight 2 (some .int) :: ([.constant RX5 142 (-99999), .constant RX5 143 (99999), .constant RX5 51 (-1000001), .methodLink RX5 144 Lib.Math.abs.name, .static Lib.Math.abs.name, .initialized "java/lang/Math", .code Lib.Math.abs.name Lib.Math.abs.code 1 (some .int), .methodLink RX5 149 yX5_digitsNotZero, .static yX5_digitsNotZero, .initialized RX5, .code yX5_digitsNotZero cX5_digitsNotZero 1 (some .int), .methodLink RX5 213 yJ6_bitCount_0f7a4, .static yJ6_bitCount_0f7a4, .initialized RJ6, .code yJ6_bitCount_0f7a4 cJ6_bitCount_0f7a4 1 (some .int), .constant RJ6 265 (1431655765), .constant RJ6 266 (858993459), .constant RJ6 267 (252645135)])
def wsX5_lightestMultiple : List Cond := .code yX5_lightestMultiple cX5_lightestMultiple 7 (some .int) :: ([.constant RX5 134 (-1000000), .methodLink RX5 149 yX5_digitsNotZero, .static yX5_digitsNotZero, .initialized RX5, .code yX5_digitsNotZero cX5_digitsNotZero 1 (some .int), .methodLink RX5 213 yJ6_bitCount_0f7a4, .static yJ6_bitCount_0f7a4, .initialized RJ6, .code yJ6_bitCount_0f7a4 cJ6_bitCount_0f7a4 1 (some .int), .constant RJ6 265 (1431655765), .constant RJ6 266 (858993459), .constant RJ6 267 (252645135)])
def wsX5_distance : List Cond := .code yX5_distance cX5_distance 3 (some .int) :: ([.constant RX5 51 (-1000001), .methodLink RX5 44 yX5_isConstant, .static yX5_isConstant, .initialized RX5, .code yX5_isConstant cX5_isConstant 1 (some .boolean), .methodLink RX5 48 yX5_isWidth, .static yX5_isWidth, .code yX5_isWidth cX5_isWidth 1 (some .boolean), .methodLink RX5 152 yX5_lightestMultiple, .static yX5_lightestMultiple, .code yX5_lightestMultiple cX5_lightestMultiple 7 (some .int), .constant RX5 134 (-1000000), .methodLink RX5 149 yX5_digitsNotZero, .static yX5_digitsNotZero, .code yX5_digitsNotZero cX5_digitsNotZero 1 (some .int), .methodLink RX5 213 yJ6_bitCount_0f7a4, .static yJ6_bitCount_0f7a4, .initialized RJ6, .code yJ6_bitCount_0f7a4 cJ6_bitCount_0f7a4 1 (some .int), .constant RJ6 265 (1431655765), .constant RJ6 266 (858993459), .constant RJ6 267 (252645135)])
def wsX5_least : List Cond := .code yX5_least cX5_least 5 (some .int) :: ([.constant RX5 51 (-1000001), .methodLink RX5 155 Lib.Math.max.name, .static Lib.Math.max.name, .initialized "java/lang/Math", .code Lib.Math.max.name Lib.Math.max.code 2 (some .int), .constant RX5 134 (-1000000), .methodLink RX5 48 yX5_isWidth, .static yX5_isWidth, .initialized RX5, .code yX5_isWidth cX5_isWidth 1 (some .boolean), .methodLink RX5 152 yX5_lightestMultiple, .static yX5_lightestMultiple, .code yX5_lightestMultiple cX5_lightestMultiple 7 (some .int), .methodLink RX5 149 yX5_digitsNotZero, .static yX5_digitsNotZero, .code yX5_digitsNotZero cX5_digitsNotZero 1 (some .int), .methodLink RX5 213 yJ6_bitCount_0f7a4, .static yJ6_bitCount_0f7a4, .initialized RJ6, .code yJ6_bitCount_0f7a4 cJ6_bitCount_0f7a4 1 (some .int), .constant RJ6 265 (1431655765), .constant RJ6 266 (858993459), .constant RJ6 267 (252645135)])
def wsX5_round : List Cond := .code yX5_round cX5_round 4 (some .int) :: ([.constant RX5 51 (-1000001), .constant RX5 134 (-1000000), .methodLink RX5 44 yX5_isConstant, .static yX5_isConstant, .initialized RX5, .code yX5_isConstant cX5_isConstant 1 (some .boolean), .methodLink RX5 74 yX5_rest, .static yX5_rest, .code yX5_rest cX5_rest 2 (some .int), .methodLink RX5 210 yJ9_floorMod_7cf53, .static yJ9_floorMod_7cf53, .initialized RJ9, .code yJ9_floorMod_7cf53 cJ9_floorMod_7cf53 3 (some .int)])
def wsX5_strikesLeaving : List Cond := .code yX5_strikesLeaving cX5_strikesLeaving 5 (some .int) :: ([.methodLink RX5 108 yX5_change, .static yX5_change, .initialized RX5, .code yX5_change cX5_change 2 (some .int), .methodLink RX5 74 yX5_rest, .static yX5_rest, .code yX5_rest cX5_rest 2 (some .int), .methodLink RX5 210 yJ9_floorMod_7cf53, .static yJ9_floorMod_7cf53, .initialized RJ9, .code yJ9_floorMod_7cf53 cJ9_floorMod_7cf53 3 (some .int)])
def wsX5_plain : List Cond := .code yX5_plain cX5_plain 5 (some .int) :: ([.constant RX5 51 (-1000001), .methodLink RX5 44 yX5_isConstant, .static yX5_isConstant, .initialized RX5, .code yX5_isConstant cX5_isConstant 1 (some .boolean), .methodLink RX5 48 yX5_isWidth, .static yX5_isWidth, .code yX5_isWidth cX5_isWidth 1 (some .boolean), .methodLink RX5 108 yX5_change, .static yX5_change, .code yX5_change cX5_change 2 (some .int), .methodLink RX5 74 yX5_rest, .static yX5_rest, .code yX5_rest cX5_rest 2 (some .int), .methodLink RX5 210 yJ9_floorMod_7cf53, .static yJ9_floorMod_7cf53, .initialized RJ9, .code yJ9_floorMod_7cf53 cJ9_floorMod_7cf53 3 (some .int), .methodLink RX5 158 yX5_strikesLeaving, .static yX5_strikesLeaving, .code yX5_strikesLeaving cX5_strikesLeaving 5 (some .int)])
def wsX5_firstLeaving : List Cond := .code yX5_firstLeaving cX5_firstLeaving 4 (some .int) :: ([.constant RX5 134 (-1000000), .methodLink RX5 108 yX5_change, .static yX5_change, .initialized RX5, .code yX5_change cX5_change 2 (some .int), .methodLink RX5 74 yX5_rest, .static yX5_rest, .code yX5_rest cX5_rest 2 (some .int), .methodLink RX5 210 yJ9_floorMod_7cf53, .static yJ9_floorMod_7cf53, .initialized RJ9, .code yJ9_floorMod_7cf53 cJ9_floorMod_7cf53 3 (some .int)])
def wsX5_same : List Cond := .code yX5_same cX5_same 3 (some .int) :: ([.fieldLink RX5 10 "CodedWords" "code" "LCodedWords$Code;", .constant RX5 51 (-1000001), .methodLink RX5 158 yX5_strikesLeaving, .static yX5_strikesLeaving, .initialized RX5, .code yX5_strikesLeaving cX5_strikesLeaving 5 (some .int), .methodLink RX5 108 yX5_change, .static yX5_change, .code yX5_change cX5_change 2 (some .int), .methodLink RX5 74 yX5_rest, .static yX5_rest, .code yX5_rest cX5_rest 2 (some .int), .methodLink RX5 210 yJ9_floorMod_7cf53, .static yJ9_floorMod_7cf53, .initialized RJ9, .code yJ9_floorMod_7cf53 cJ9_floorMod_7cf53 3 (some .int), .methodLink RX5 164 yX5_firstLeaving, .static yX5_firstLeaving, .code yX5_firstLeaving cX5_firstLeaving 4 (some .int), .constant RX5 134 (-1000000)] ++ wsX50 ++ wsX20)
def wsX5_missed : List Cond := .code yX5_missed cX5_missed 4 (some .int) :: ([.fieldLink RX5 10 "CodedWords" "code" "LCodedWords$Code;", .methodLink RX5 105 yX2_strikeCount, .instanceMethod yX2_strikeCount, .selects RX2 yX2_strikeCount yX2_strikeCount, .initialized RX2, .code yX2_strikeCount cX2_strikeCount 1 (some .int), .fieldLink RX2 15 "CodedWords$Code" "width" "I", .methodLink RX5 108 yX5_change, .static yX5_change, .initialized RX5, .code yX5_change cX5_change 2 (some .int), .methodLink RX5 128 yX2_fits, .instanceMethod yX2_fits, .selects RX2 yX2_fits yX2_fits, .code yX2_fits cX2_fits 2 (some .boolean), .fieldLink RX2 9 "CodedWords$Code" "a" "I", .static yX5_rest, .code yX5_rest cX5_rest 2 (some .int), .methodLink RX5 210 yJ9_floorMod_7cf53, .static yJ9_floorMod_7cf53, .initialized RJ9, .code yJ9_floorMod_7cf53 cJ9_floorMod_7cf53 3 (some .int)] ++ wsX50 ++ wsX20)
def wsX5_commonDivisor : List Cond := .code yX5_commonDivisor cX5_commonDivisor 6 (some .int) :: ([.methodLink RX5 74 yX5_rest, .static yX5_rest, .initialized RX5, .code yX5_rest cX5_rest 2 (some .int), .methodLink RX5 210 yJ9_floorMod_7cf53, .static yJ9_floorMod_7cf53, .initialized RJ9, .code yJ9_floorMod_7cf53 cJ9_floorMod_7cf53 3 (some .int)])
def wsX5_odds_r1 : List Cond := [Cond.constant RX5 51 (-1000001), Cond.fieldLink RX5 40 "CodedWords" "chances" "LCodedWords$Chances;", Cond.fieldLink RX5 10 "CodedWords" "code" "LCodedWords$Code;", Cond.methodLink RX5 167 yX1_waysToFit, Cond.instanceMethod yX1_waysToFit, Cond.selects RX1 yX1_waysToFit yX1_waysToFit, Cond.initialized RX1, Cond.code yX1_waysToFit cX1_waysToFit 5 (some .int), Cond.fieldLink RX1 9 "CodedWords$Chances" "ways" "[I", Cond.methodLink RX1 18 yJ7_fill_53178, Cond.static yJ7_fill_53178, Cond.initialized RJ7, Cond.code yJ7_fill_53178 cJ7_fill_53178 4 none, Cond.methodLink RX1 24 yX1_addStrike, Cond.instanceMethod yX1_addStrike, Cond.selects RX1 yX1_addStrike yX1_addStrike, Cond.code yX1_addStrike cX1_addStrike 7 none, Cond.methodLink RX1 28 Lib.Math.min.name, Cond.static Lib.Math.min.name, Cond.initialized "java/lang/Math", Cond.code Lib.Math.min.name Lib.Math.min.code 2 (some .int), Cond.fieldLink RX1 15 "CodedWords$Chances" "waysOneMore" "[I", Cond.static yX5_change, Cond.initialized RX5]
def wsX5_odds_r2 : List Cond := [Cond.code yX5_change cX5_change 2 (some .int), Cond.static yX5_rest, Cond.code yX5_rest cX5_rest 2 (some .int), Cond.methodLink RX5 210 yJ9_floorMod_7cf53, Cond.static yJ9_floorMod_7cf53, Cond.initialized RJ9, Cond.code yJ9_floorMod_7cf53 cJ9_floorMod_7cf53 3 (some .int), Cond.methodLink RX5 105 yX2_strikeCount, Cond.instanceMethod yX2_strikeCount, Cond.selects RX2 yX2_strikeCount yX2_strikeCount, Cond.initialized RX2, Cond.code yX2_strikeCount cX2_strikeCount 1 (some .int), Cond.fieldLink RX2 15 "CodedWords$Code" "width" "I", Cond.methodLink RX5 170 yX5_commonDivisor, Cond.static yX5_commonDivisor, Cond.code yX5_commonDivisor cX5_commonDivisor 6 (some .int), Cond.methodLink RX5 74 yX5_rest, Cond.methodLink RX5 173 yX5_cut, Cond.static yX5_cut, Cond.code yX5_cut cX5_cut 3 (some .long)]
def wsX5_odds : List Cond := .code yX5_odds cX5_odds 6 (some .int) :: ((wsX5_odds_r1 ++ wsX5_odds_r2) ++ wsX50 ++ wsX20 ++ wsX10)
def wsX5_sees : List Cond := .code yX5_sees cX5_sees 3 (some .int) :: ([.constant RX5 51 (-1000001), .fieldLink RX5 33 "CodedWords" "search" "LCodedWords$Search;", .constant RX5 183 (-1000003), .methodLink RX5 177 yX4_note, .instanceMethod yX4_note, .selects RX4 yX4_note yX4_note, .initialized RX4, .code yX4_note cX4_note 3 (some .boolean), .fieldLink RX4 21 "CodedWords$Search" "seen" "I", .fieldLink RX4 9 "CodedWords$Search" "words" "[I", .fieldLink RX4 15 "CodedWords$Search" "fits" "[I"] ++ wsX50 ++ wsX40)
def wsX5_forget : List Cond := .code yX5_forget cX5_forget 2 (some .int) :: ([.fieldLink RX5 33 "CodedWords" "search" "LCodedWords$Search;"] ++ wsX50 ++ wsX40)
def wsX5_unseen_r1 : List Cond := [Cond.fieldLink RX5 33 "CodedWords" "search" "LCodedWords$Search;", Cond.constant RX5 51 (-1000001), Cond.methodLink RX5 184 yX4_gatherOpen, Cond.instanceMethod yX4_gatherOpen, Cond.selects RX4 yX4_gatherOpen yX4_gatherOpen, Cond.initialized RX4, Cond.code yX4_gatherOpen cX4_gatherOpen 3 (some .int), Cond.fieldLink RX4 18 "CodedWords$Search" "open" "[I", Cond.methodLink RX4 25 yX4_isOpen, Cond.instanceMethod yX4_isOpen, Cond.selects RX4 yX4_isOpen yX4_isOpen, Cond.code yX4_isOpen cX4_isOpen 4 (some .boolean), Cond.fieldLink RX4 21 "CodedWords$Search" "seen" "I", Cond.fieldLink RX4 9 "CodedWords$Search" "words" "[I", Cond.fieldLink RX4 15 "CodedWords$Search" "fits" "[I", Cond.static yX5_rest, Cond.initialized RX5, Cond.code yX5_rest cX5_rest 2 (some .int), Cond.methodLink RX5 210 yJ9_floorMod_7cf53, Cond.static yJ9_floorMod_7cf53, Cond.initialized RJ9, Cond.code yJ9_floorMod_7cf53 cJ9_floorMod_7cf53 3 (some .int), Cond.methodLink RX5 187 yX4_leastOpen, Cond.instanceMethod yX4_leastOpen]
def wsX5_unseen_r2 : List Cond := [Cond.selects RX4 yX4_leastOpen yX4_leastOpen, Cond.code yX4_leastOpen cX4_leastOpen 1 (some .int), Cond.constant RX4 33 (-1000000), Cond.methodLink RX4 29 yX4_gatherOpen]
def wsX5_unseen : List Cond := .code yX5_unseen cX5_unseen 2 (some .int) :: ((wsX5_unseen_r1 ++ wsX5_unseen_r2) ++ wsX50 ++ wsX40)
def wsX5_next_r1 : List Cond := [Cond.fieldLink RX5 33 "CodedWords" "search" "LCodedWords$Search;", Cond.methodLink RX5 190 yX4_bestTry, Cond.instanceMethod yX4_bestTry, Cond.selects RX4 yX4_bestTry yX4_bestTry, Cond.initialized RX4, Cond.code yX4_bestTry cX4_bestTry 7 (some .int), Cond.constant RX4 33 (-1000000), Cond.methodLink RX4 38 Lib.Math.max.name, Cond.static Lib.Math.max.name, Cond.initialized "java/lang/Math", Cond.code Lib.Math.max.name Lib.Math.max.code 2 (some .int), Cond.methodLink RX4 29 yX4_gatherOpen, Cond.instanceMethod yX4_gatherOpen, Cond.selects RX4 yX4_gatherOpen yX4_gatherOpen, Cond.code yX4_gatherOpen cX4_gatherOpen 3 (some .int), Cond.fieldLink RX4 18 "CodedWords$Search" "open" "[I", Cond.methodLink RX4 25 yX4_isOpen, Cond.instanceMethod yX4_isOpen, Cond.selects RX4 yX4_isOpen yX4_isOpen, Cond.code yX4_isOpen cX4_isOpen 4 (some .boolean), Cond.fieldLink RX4 21 "CodedWords$Search" "seen" "I", Cond.fieldLink RX4 9 "CodedWords$Search" "words" "[I", Cond.fieldLink RX4 15 "CodedWords$Search" "fits" "[I", Cond.static yX5_rest]
def wsX5_next_r2 : List Cond := [Cond.initialized RX5, Cond.code yX5_rest cX5_rest 2 (some .int), Cond.methodLink RX5 210 yJ9_floorMod_7cf53, Cond.static yJ9_floorMod_7cf53, Cond.initialized RJ9, Cond.code yJ9_floorMod_7cf53 cJ9_floorMod_7cf53 3 (some .int), Cond.methodLink RX4 34 yX4_openFitting, Cond.instanceMethod yX4_openFitting, Cond.selects RX4 yX4_openFitting yX4_openFitting, Cond.code yX4_openFitting cX4_openFitting 5 (some .int)]
def wsX5_next : List Cond := .code yX5_next cX5_next 1 (some .int) :: ((wsX5_next_r1 ++ wsX5_next_r2) ++ wsX50 ++ wsX40)
def wsX5_keep_r1 : List Cond := [Cond.constant RX5 51 (-1000001), Cond.fieldLink RX5 26 "CodedWords" "album" "LCodedWords$Album;", Cond.fieldLink RX5 10 "CodedWords" "code" "LCodedWords$Code;", Cond.methodLink RX5 193 yX5_isImage, Cond.static yX5_isImage, Cond.initialized RX5, Cond.code yX5_isImage cX5_isImage 1 (some .boolean), Cond.methodLink RX5 196 yX0_store, Cond.instanceMethod yX0_store, Cond.selects RX0 yX0_store yX0_store, Cond.initialized RX0, Cond.code yX0_store cX0_store 4 none, Cond.fieldLink RX0 11 "CodedWords$Album" "kept" "[LCodedWords$Code;", Cond.classLink RX0 9 RX2, Cond.instantiable RX2 4, Cond.initialized RX2, Cond.instanceMethod yX2_init, Cond.code yX2_init cX2_init 1 none, Cond.methodLink RX2 3 objectInit, Cond.instanceMethod objectInit, Cond.code objectInit ⟨#[0xb1]⟩ 1 none, Cond.fieldLink RX2 9 "CodedWords$Code" "a" "I", Cond.fieldLink RX2 15 "CodedWords$Code" "width" "I", Cond.arrayClass .int]
def wsX5_keep_r2 : List Cond := [Cond.fieldLink RX2 18 "CodedWords$Code" "words" "[I", Cond.fieldLink RX2 22 "CodedWords$Code" "residues" "[I", Cond.methodLink RX0 22 yX2_copyFrom, Cond.instanceMethod yX2_copyFrom, Cond.selects RX2 yX2_copyFrom yX2_copyFrom, Cond.code yX2_copyFrom cX2_copyFrom 3 none, Cond.methodLink RX2 31 yX2_wordOf, Cond.instanceMethod yX2_wordOf, Cond.selects RX2 yX2_wordOf yX2_wordOf, Cond.code yX2_wordOf cX2_wordOf 2 (some .int), Cond.static yX5_isRegister, Cond.code yX5_isRegister cX5_isRegister 1 (some .boolean), Cond.methodLink RX2 35 yX2_residueOf, Cond.instanceMethod yX2_residueOf, Cond.selects RX2 yX2_residueOf yX2_residueOf, Cond.code yX2_residueOf cX2_residueOf 2 (some .int), Cond.methodLink RX2 38 yX2_put, Cond.instanceMethod yX2_put, Cond.selects RX2 yX2_put yX2_put, Cond.code yX2_put cX2_put 4 none]
def wsX5_keep : List Cond := .code yX5_keep cX5_keep 2 (some .int) :: ((wsX5_keep_r1 ++ wsX5_keep_r2) ++ wsX50 ++ wsX20 ++ wsX00)
def wsX5_back_r1 : List Cond := [Cond.constant RX5 51 (-1000001), Cond.fieldLink RX5 26 "CodedWords" "album" "LCodedWords$Album;", Cond.fieldLink RX5 10 "CodedWords" "code" "LCodedWords$Code;", Cond.constant RX5 89 (-1000002), Cond.fieldLink RX5 19 "CodedWords" "past" "LCodedWords$Past;", Cond.methodLink RX5 193 yX5_isImage, Cond.static yX5_isImage, Cond.initialized RX5, Cond.code yX5_isImage cX5_isImage 1 (some .boolean), Cond.methodLink RX5 200 yX0_fetch, Cond.instanceMethod yX0_fetch, Cond.selects RX0 yX0_fetch yX0_fetch, Cond.initialized RX0, Cond.code yX0_fetch cX0_fetch 4 (some .boolean), Cond.fieldLink RX0 11 "CodedWords$Album" "kept" "[LCodedWords$Code;", Cond.methodLink RX0 22 yX2_copyFrom, Cond.instanceMethod yX2_copyFrom, Cond.selects RX2 yX2_copyFrom yX2_copyFrom, Cond.initialized RX2, Cond.code yX2_copyFrom cX2_copyFrom 3 none, Cond.fieldLink RX2 9 "CodedWords$Code" "a" "I", Cond.fieldLink RX2 15 "CodedWords$Code" "width" "I", Cond.methodLink RX2 31 yX2_wordOf, Cond.instanceMethod yX2_wordOf]
def wsX5_back_r2 : List Cond := [Cond.selects RX2 yX2_wordOf yX2_wordOf, Cond.code yX2_wordOf cX2_wordOf 2 (some .int), Cond.fieldLink RX2 18 "CodedWords$Code" "words" "[I", Cond.static yX5_isRegister, Cond.code yX5_isRegister cX5_isRegister 1 (some .boolean), Cond.methodLink RX2 35 yX2_residueOf, Cond.instanceMethod yX2_residueOf, Cond.selects RX2 yX2_residueOf yX2_residueOf, Cond.code yX2_residueOf cX2_residueOf 2 (some .int), Cond.fieldLink RX2 22 "CodedWords$Code" "residues" "[I", Cond.methodLink RX2 38 yX2_put, Cond.instanceMethod yX2_put, Cond.selects RX2 yX2_put yX2_put, Cond.code yX2_put cX2_put 4 none, Cond.methodLink RX5 204 yX3_lose, Cond.instanceMethod yX3_lose, Cond.selects RX3 yX3_lose yX3_lose, Cond.initialized RX3, Cond.code yX3_lose cX3_lose 1 none, Cond.fieldLink RX3 21 "CodedWords$Past" "known" "I"]
def wsX5_back : List Cond := .code yX5_back cX5_back 2 (some .int) :: ((wsX5_back_r1 ++ wsX5_back_r2) ++ wsX50 ++ wsX20 ++ wsX00 ++ wsX30)
def wsX5_count_r1 : List Cond := [Cond.fieldLink RX5 10 "CodedWords" "code" "LCodedWords$Code;", Cond.fieldLink RX5 33 "CodedWords" "search" "LCodedWords$Search;", Cond.fieldLink RX5 19 "CodedWords" "past" "LCodedWords$Past;", Cond.constant RX5 51 (-1000001), Cond.methodLink RX5 94 yX2_top, Cond.instanceMethod yX2_top, Cond.selects RX2 yX2_top yX2_top, Cond.initialized RX2, Cond.code yX2_top cX2_top 1 (some .int), Cond.fieldLink RX2 15 "CodedWords$Code" "width" "I", Cond.methodLink RX5 60 yX2_reach, Cond.instanceMethod yX2_reach, Cond.selects RX2 yX2_reach yX2_reach, Cond.code yX2_reach cX2_reach 1 (some .int), Cond.fieldLink RX2 9 "CodedWords$Code" "a" "I", Cond.methodLink RX2 46 yX2_top, Cond.static yX5_cut, Cond.initialized RX5, Cond.code yX5_cut cX5_cut 3 (some .long), Cond.methodLink RX5 207 yX2_registersRight, Cond.instanceMethod yX2_registersRight, Cond.selects RX2 yX2_registersRight yX2_registersRight, Cond.code yX2_registersRight cX2_registersRight 3 (some .int), Cond.methodLink RX2 31 yX2_wordOf]
def wsX5_count_r2 : List Cond := [Cond.instanceMethod yX2_wordOf, Cond.selects RX2 yX2_wordOf yX2_wordOf, Cond.code yX2_wordOf cX2_wordOf 2 (some .int), Cond.fieldLink RX2 18 "CodedWords$Code" "words" "[I", Cond.static yX5_isRegister, Cond.code yX5_isRegister cX5_isRegister 1 (some .boolean), Cond.methodLink RX2 35 yX2_residueOf, Cond.instanceMethod yX2_residueOf, Cond.selects RX2 yX2_residueOf yX2_residueOf, Cond.code yX2_residueOf cX2_residueOf 2 (some .int), Cond.fieldLink RX2 22 "CodedWords$Code" "residues" "[I", Cond.methodLink RX2 73 yX2_isRight, Cond.instanceMethod yX2_isRight, Cond.selects RX2 yX2_isRight yX2_isRight, Cond.code yX2_isRight cX2_isRight 3 (some .boolean), Cond.methodLink RX2 67 yX2_isSound, Cond.instanceMethod yX2_isSound, Cond.selects RX2 yX2_isSound yX2_isSound, Cond.code yX2_isSound cX2_isSound 2 (some .boolean), Cond.methodLink RX2 64 yX2_fits, Cond.instanceMethod yX2_fits, Cond.selects RX2 yX2_fits yX2_fits, Cond.code yX2_fits cX2_fits 2 (some .boolean), Cond.static yX5_rest]
def wsX5_count_r3 : List Cond := [Cond.code yX5_rest cX5_rest 2 (some .int), Cond.methodLink RX5 210 yJ9_floorMod_7cf53, Cond.static yJ9_floorMod_7cf53, Cond.initialized RJ9, Cond.code yJ9_floorMod_7cf53 cJ9_floorMod_7cf53 3 (some .int), Cond.methodLink RX2 70 yX2_dueResidue, Cond.instanceMethod yX2_dueResidue, Cond.selects RX2 yX2_dueResidue yX2_dueResidue, Cond.code yX2_dueResidue cX2_dueResidue 2 (some .int), Cond.methodLink RX2 61 yX2_valueOf, Cond.instanceMethod yX2_valueOf, Cond.selects RX2 yX2_valueOf yX2_valueOf, Cond.code yX2_valueOf cX2_valueOf 2 (some .int)]
def wsX5_count : List Cond := .code yX5_count cX5_count 2 (some .int) :: ((wsX5_count_r1 ++ (wsX5_count_r2 ++ wsX5_count_r3)) ++ wsX50 ++ wsX20 ++ wsX40 ++ wsX30)
def wsX6_init : List Cond := .code yX6_init cX6_init 1 none :: ([.methodLink RX6 1 objectInit, .instanceMethod objectInit, .code objectInit ⟨#[0xb1]⟩ 1 none, .arrayClass .int, .fieldLink RX6 7 "CodedWordsModel" "s" "[I", .fieldLink RX6 13 "CodedWordsModel" "undos" "[I", .fieldLink RX6 16 "CodedWordsModel" "kept" "[I", .arrayClass .boolean, .fieldLink RX6 19 "CodedWordsModel" "isKept" "[Z", .fieldLink RX6 23 "CodedWordsModel" "seenWord" "[I", .fieldLink RX6 26 "CodedWordsModel" "seenFits" "[I", .arrayClass .long, .fieldLink RX6 29 "CodedWordsModel" "ways" "[J", .fieldLink RX6 33 "CodedWordsModel" "then" "[J", .fieldLink RX6 36 "CodedWordsModel" "can" "[Z"] ++ wsX60)
def wsX6_in : List Cond := .code yX6_in cX6_in 3 (some .boolean) :: ([])
def wsX6_rest : List Cond := .code yX6_rest cX6_rest 4 (some .int) :: ([])
def wsX6_isConstant : List Cond := .code yX6_isConstant cX6_isConstant 1 (some .boolean) :: ([.methodLink RX6 43 yX6_in, .static yX6_in, .initialized RX6, .code yX6_in cX6_in 3 (some .boolean)])
def wsX6_isRegister : List Cond := .code yX6_isRegister cX6_isRegister 1 (some .boolean) :: ([.methodLink RX6 43 yX6_in, .static yX6_in, .initialized RX6, .code yX6_in cX6_in 3 (some .boolean)])
def wsX6_top : List Cond := .code yX6_top cX6_top 1 (some .int) :: ([.fieldLink RX6 7 "CodedWordsModel" "s" "[I"] ++ wsX60)
def wsX6_reach : List Cond := .code yX6_reach cX6_reach 1 (some .int) :: ([.fieldLink RX6 7 "CodedWordsModel" "s" "[I", .methodLink RX6 47 yX6_top, .instanceMethod yX6_top, .selects RX6 yX6_top yX6_top, .initialized RX6, .code yX6_top cX6_top 1 (some .int)] ++ wsX60)
def wsX6_fits : List Cond := .code yX6_fits cX6_fits 2 (some .boolean) :: ([.fieldLink RX6 7 "CodedWordsModel" "s" "[I"] ++ wsX60)
def wsX6_isInReach : List Cond := .code yX6_isInReach cX6_isInReach 2 (some .boolean) :: ([.fieldLink RX6 7 "CodedWordsModel" "s" "[I", .methodLink RX6 51 yX6_fits, .instanceMethod yX6_fits, .selects RX6 yX6_fits yX6_fits, .initialized RX6, .code yX6_fits cX6_fits 2 (some .boolean), .methodLink RX6 55 yX6_reach, .instanceMethod yX6_reach, .selects RX6 yX6_reach yX6_reach, .code yX6_reach cX6_reach 1 (some .int), .methodLink RX6 47 yX6_top, .instanceMethod yX6_top, .selects RX6 yX6_top yX6_top, .code yX6_top cX6_top 1 (some .int), .methodLink RX6 43 yX6_in, .static yX6_in, .code yX6_in cX6_in 3 (some .boolean)] ++ wsX60)
def wsX6_isRight : List Cond := .code yX6_isRight cX6_isRight 3 (some .boolean) :: ([.fieldLink RX6 7 "CodedWordsModel" "s" "[I", .methodLink RX6 58 yX6_isInReach, .instanceMethod yX6_isInReach, .selects RX6 yX6_isInReach yX6_isInReach, .initialized RX6, .code yX6_isInReach cX6_isInReach 2 (some .boolean), .methodLink RX6 51 yX6_fits, .instanceMethod yX6_fits, .selects RX6 yX6_fits yX6_fits, .code yX6_fits cX6_fits 2 (some .boolean), .methodLink RX6 55 yX6_reach, .instanceMethod yX6_reach, .selects RX6 yX6_reach yX6_reach, .code yX6_reach cX6_reach 1 (some .int), .methodLink RX6 47 yX6_top, .instanceMethod yX6_top, .selects RX6 yX6_top yX6_top, .code yX6_top cX6_top 1 (some .int), .methodLink RX6 43 yX6_in, .static yX6_in, .code yX6_in cX6_in 3 (some .boolean), .methodLink RX6 61 yX6_rest, .static yX6_rest, .code yX6_rest cX6_rest 4 (some .int)] ++ wsX60)
def wsX6_by : List Cond := .code yX6_by cX6_by 1 (some .int) :: ([])
def wsX6_strikeMany : List Cond := .code yX6_strikeMany cX6_strikeMany 1 (some .int) :: ([.fieldLink RX6 7 "CodedWordsModel" "s" "[I"] ++ wsX60)
def wsX6_notes : List Cond := .code yX6_notes cX6_notes 2 none :: ([.fieldLink RX6 65 "CodedWordsModel" "undoMany" "I", .fieldLink RX6 13 "CodedWordsModel" "undos" "[I", .fieldLink RX6 7 "CodedWordsModel" "s" "[I"] ++ wsX60)
def wsX6_codes : List Cond := .code yX6_codes cX6_codes 4 (some .int) :: ([.fieldLink RX6 39 "CodedWordsModel" "thrown" "I", .constant RX6 71 (-1000001), .fieldLink RX6 7 "CodedWordsModel" "s" "[I", .methodLink RX6 68 yX6_isConstant, .static yX6_isConstant, .initialized RX6, .code yX6_isConstant cX6_isConstant 1 (some .boolean), .methodLink RX6 43 yX6_in, .static yX6_in, .code yX6_in cX6_in 3 (some .boolean), .methodLink RX6 72 yX6_notes, .instanceMethod yX6_notes, .selects RX6 yX6_notes yX6_notes, .code yX6_notes cX6_notes 2 none, .fieldLink RX6 65 "CodedWordsModel" "undoMany" "I", .fieldLink RX6 13 "CodedWordsModel" "undos" "[I", .methodLink RX6 55 yX6_reach, .instanceMethod yX6_reach, .selects RX6 yX6_reach yX6_reach, .code yX6_reach cX6_reach 1 (some .int), .methodLink RX6 47 yX6_top, .instanceMethod yX6_top, .selects RX6 yX6_top yX6_top, .code yX6_top cX6_top 1 (some .int)] ++ wsX60)
def wsX6_sets_r1 : List Cond := [Cond.fieldLink RX6 39 "CodedWordsModel" "thrown" "I", Cond.constant RX6 71 (-1000001), Cond.fieldLink RX6 7 "CodedWordsModel" "s" "[I", Cond.methodLink RX6 75 yX6_isRegister, Cond.static yX6_isRegister, Cond.initialized RX6, Cond.code yX6_isRegister cX6_isRegister 1 (some .boolean), Cond.methodLink RX6 43 yX6_in, Cond.static yX6_in, Cond.code yX6_in cX6_in 3 (some .boolean), Cond.methodLink RX6 55 yX6_reach, Cond.instanceMethod yX6_reach, Cond.selects RX6 yX6_reach yX6_reach, Cond.code yX6_reach cX6_reach 1 (some .int), Cond.methodLink RX6 47 yX6_top, Cond.instanceMethod yX6_top, Cond.selects RX6 yX6_top yX6_top, Cond.code yX6_top cX6_top 1 (some .int), Cond.methodLink RX6 72 yX6_notes, Cond.instanceMethod yX6_notes, Cond.selects RX6 yX6_notes yX6_notes, Cond.code yX6_notes cX6_notes 2 none, Cond.fieldLink RX6 65 "CodedWordsModel" "undoMany" "I", Cond.fieldLink RX6 13 "CodedWordsModel" "undos" "[I"]
def wsX6_sets_r2 : List Cond := [Cond.methodLink RX6 61 yX6_rest, Cond.static yX6_rest, Cond.code yX6_rest cX6_rest 4 (some .int)]
def wsX6_sets : List Cond := .code yX6_sets cX6_sets 3 (some .int) :: ((wsX6_sets_r1 ++ wsX6_sets_r2) ++ wsX60)
def wsX6_makes : List Cond := .code yX6_makes cX6_makes 6 (some .long) :: ([])
def wsX6_does_r1 : List Cond := [Cond.fieldLink RX6 39 "CodedWordsModel" "thrown" "I", Cond.constant RX6 71 (-1000001), Cond.fieldLink RX6 7 "CodedWordsModel" "s" "[I", Cond.constant RX6 78 (-1000002), Cond.constant RX6 83 (-1000004), Cond.constantLong RX6 84 (8), Cond.methodLink RX6 43 yX6_in, Cond.static yX6_in, Cond.initialized RX6, Cond.code yX6_in cX6_in 3 (some .boolean), Cond.methodLink RX6 75 yX6_isRegister, Cond.static yX6_isRegister, Cond.code yX6_isRegister cX6_isRegister 1 (some .boolean), Cond.methodLink RX6 51 yX6_fits, Cond.instanceMethod yX6_fits, Cond.selects RX6 yX6_fits yX6_fits, Cond.code yX6_fits cX6_fits 2 (some .boolean), Cond.methodLink RX6 79 yX6_makes, Cond.static yX6_makes, Cond.code yX6_makes cX6_makes 6 (some .long), Cond.methodLink RX6 47 yX6_top, Cond.instanceMethod yX6_top, Cond.selects RX6 yX6_top yX6_top, Cond.code yX6_top cX6_top 1 (some .int)]
def wsX6_does_r2 : List Cond := [Cond.methodLink RX6 72 yX6_notes, Cond.instanceMethod yX6_notes, Cond.selects RX6 yX6_notes yX6_notes, Cond.code yX6_notes cX6_notes 2 none, Cond.fieldLink RX6 65 "CodedWordsModel" "undoMany" "I", Cond.fieldLink RX6 13 "CodedWordsModel" "undos" "[I", Cond.methodLink RX6 61 yX6_rest, Cond.static yX6_rest, Cond.code yX6_rest cX6_rest 4 (some .int)]
def wsX6_does : List Cond := .code yX6_does cX6_does 10 (some .int) :: ((wsX6_does_r1 ++ wsX6_does_r2) ++ wsX60)
def wsX6_strikes_r1 : List Cond := [Cond.fieldLink RX6 39 "CodedWordsModel" "thrown" "I", Cond.constant RX6 71 (-1000001), Cond.fieldLink RX6 7 "CodedWordsModel" "s" "[I", Cond.constant RX6 78 (-1000002), Cond.methodLink RX6 75 yX6_isRegister, Cond.static yX6_isRegister, Cond.initialized RX6, Cond.code yX6_isRegister cX6_isRegister 1 (some .boolean), Cond.methodLink RX6 43 yX6_in, Cond.static yX6_in, Cond.code yX6_in cX6_in 3 (some .boolean), Cond.methodLink RX6 86 yX6_strikeMany, Cond.instanceMethod yX6_strikeMany, Cond.selects RX6 yX6_strikeMany yX6_strikeMany, Cond.code yX6_strikeMany cX6_strikeMany 1 (some .int), Cond.methodLink RX6 89 yX6_by, Cond.static yX6_by, Cond.code yX6_by cX6_by 1 (some .int), Cond.methodLink RX6 47 yX6_top, Cond.instanceMethod yX6_top, Cond.selects RX6 yX6_top yX6_top, Cond.code yX6_top cX6_top 1 (some .int), Cond.methodLink RX6 72 yX6_notes, Cond.instanceMethod yX6_notes]
def wsX6_strikes_r2 : List Cond := [Cond.selects RX6 yX6_notes yX6_notes, Cond.code yX6_notes cX6_notes 2 none, Cond.fieldLink RX6 65 "CodedWordsModel" "undoMany" "I", Cond.fieldLink RX6 13 "CodedWordsModel" "undos" "[I"]
def wsX6_strikes : List Cond := .code yX6_strikes cX6_strikes 4 (some .int) :: ((wsX6_strikes_r1 ++ wsX6_strikes_r2) ++ wsX60)
def wsX6_bends : List Cond := .code yX6_bends cX6_bends 3 (some .int) :: ([.fieldLink RX6 39 "CodedWordsModel" "thrown" "I", .constant RX6 71 (-1000001), .fieldLink RX6 7 "CodedWordsModel" "s" "[I", .methodLink RX6 75 yX6_isRegister, .static yX6_isRegister, .initialized RX6, .code yX6_isRegister cX6_isRegister 1 (some .boolean), .methodLink RX6 43 yX6_in, .static yX6_in, .code yX6_in cX6_in 3 (some .boolean), .methodLink RX6 72 yX6_notes, .instanceMethod yX6_notes, .selects RX6 yX6_notes yX6_notes, .code yX6_notes cX6_notes 2 none, .fieldLink RX6 65 "CodedWordsModel" "undoMany" "I", .fieldLink RX6 13 "CodedWordsModel" "undos" "[I"] ++ wsX60)
def wsX6_isCause_r1 : List Cond := [Cond.fieldLink RX6 7 "CodedWordsModel" "s" "[I", Cond.methodLink RX6 89 yX6_by, Cond.static yX6_by, Cond.initialized RX6, Cond.code yX6_by cX6_by 1 (some .int), Cond.methodLink RX6 93 yX6_isRight, Cond.instanceMethod yX6_isRight, Cond.selects RX6 yX6_isRight yX6_isRight, Cond.code yX6_isRight cX6_isRight 3 (some .boolean), Cond.methodLink RX6 58 yX6_isInReach, Cond.instanceMethod yX6_isInReach, Cond.selects RX6 yX6_isInReach yX6_isInReach, Cond.code yX6_isInReach cX6_isInReach 2 (some .boolean), Cond.methodLink RX6 51 yX6_fits, Cond.instanceMethod yX6_fits, Cond.selects RX6 yX6_fits yX6_fits, Cond.code yX6_fits cX6_fits 2 (some .boolean), Cond.methodLink RX6 55 yX6_reach, Cond.instanceMethod yX6_reach, Cond.selects RX6 yX6_reach yX6_reach, Cond.code yX6_reach cX6_reach 1 (some .int), Cond.methodLink RX6 47 yX6_top, Cond.instanceMethod yX6_top, Cond.selects RX6 yX6_top yX6_top]
def wsX6_isCause_r2 : List Cond := [Cond.code yX6_top cX6_top 1 (some .int), Cond.methodLink RX6 43 yX6_in, Cond.static yX6_in, Cond.code yX6_in cX6_in 3 (some .boolean), Cond.methodLink RX6 61 yX6_rest, Cond.static yX6_rest, Cond.code yX6_rest cX6_rest 4 (some .int)]
def wsX6_isCause : List Cond := .code yX6_isCause cX6_isCause 3 (some .boolean) :: ((wsX6_isCause_r1 ++ wsX6_isCause_r2) ++ wsX60)
def wsX6_causes_r1 : List Cond := [Cond.fieldLink RX6 7 "CodedWordsModel" "s" "[I", Cond.methodLink RX6 86 yX6_strikeMany, Cond.instanceMethod yX6_strikeMany, Cond.selects RX6 yX6_strikeMany yX6_strikeMany, Cond.initialized RX6, Cond.code yX6_strikeMany cX6_strikeMany 1 (some .int), Cond.methodLink RX6 58 yX6_isInReach, Cond.instanceMethod yX6_isInReach, Cond.selects RX6 yX6_isInReach yX6_isInReach, Cond.code yX6_isInReach cX6_isInReach 2 (some .boolean), Cond.methodLink RX6 51 yX6_fits, Cond.instanceMethod yX6_fits, Cond.selects RX6 yX6_fits yX6_fits, Cond.code yX6_fits cX6_fits 2 (some .boolean), Cond.methodLink RX6 55 yX6_reach, Cond.instanceMethod yX6_reach, Cond.selects RX6 yX6_reach yX6_reach, Cond.code yX6_reach cX6_reach 1 (some .int), Cond.methodLink RX6 47 yX6_top, Cond.instanceMethod yX6_top, Cond.selects RX6 yX6_top yX6_top, Cond.code yX6_top cX6_top 1 (some .int), Cond.methodLink RX6 43 yX6_in, Cond.static yX6_in]
def wsX6_causes_r2 : List Cond := [Cond.code yX6_in cX6_in 3 (some .boolean), Cond.methodLink RX6 97 yX6_isCause, Cond.instanceMethod yX6_isCause, Cond.selects RX6 yX6_isCause yX6_isCause, Cond.code yX6_isCause cX6_isCause 3 (some .boolean), Cond.methodLink RX6 89 yX6_by, Cond.static yX6_by, Cond.code yX6_by cX6_by 1 (some .int), Cond.methodLink RX6 93 yX6_isRight, Cond.instanceMethod yX6_isRight, Cond.selects RX6 yX6_isRight yX6_isRight, Cond.code yX6_isRight cX6_isRight 3 (some .boolean), Cond.methodLink RX6 61 yX6_rest, Cond.static yX6_rest, Cond.code yX6_rest cX6_rest 4 (some .int)]
def wsX6_causes : List Cond := .code yX6_causes cX6_causes 4 (some .int) :: ((wsX6_causes_r1 ++ wsX6_causes_r2) ++ wsX60)
def wsX6_firstCause_r1 : List Cond := [Cond.methodLink RX6 97 yX6_isCause, Cond.instanceMethod yX6_isCause, Cond.selects RX6 yX6_isCause yX6_isCause, Cond.initialized RX6, Cond.code yX6_isCause cX6_isCause 3 (some .boolean), Cond.fieldLink RX6 7 "CodedWordsModel" "s" "[I", Cond.methodLink RX6 89 yX6_by, Cond.static yX6_by, Cond.code yX6_by cX6_by 1 (some .int), Cond.methodLink RX6 93 yX6_isRight, Cond.instanceMethod yX6_isRight, Cond.selects RX6 yX6_isRight yX6_isRight, Cond.code yX6_isRight cX6_isRight 3 (some .boolean), Cond.methodLink RX6 58 yX6_isInReach, Cond.instanceMethod yX6_isInReach, Cond.selects RX6 yX6_isInReach yX6_isInReach, Cond.code yX6_isInReach cX6_isInReach 2 (some .boolean), Cond.methodLink RX6 51 yX6_fits, Cond.instanceMethod yX6_fits, Cond.selects RX6 yX6_fits yX6_fits, Cond.code yX6_fits cX6_fits 2 (some .boolean), Cond.methodLink RX6 55 yX6_reach, Cond.instanceMethod yX6_reach, Cond.selects RX6 yX6_reach yX6_reach]
def wsX6_firstCause_r2 : List Cond := [Cond.code yX6_reach cX6_reach 1 (some .int), Cond.methodLink RX6 47 yX6_top, Cond.instanceMethod yX6_top, Cond.selects RX6 yX6_top yX6_top, Cond.code yX6_top cX6_top 1 (some .int), Cond.methodLink RX6 43 yX6_in, Cond.static yX6_in, Cond.code yX6_in cX6_in 3 (some .boolean), Cond.methodLink RX6 61 yX6_rest, Cond.static yX6_rest, Cond.code yX6_rest cX6_rest 4 (some .int)]
def wsX6_firstCause : List Cond := .code yX6_firstCause cX6_firstCause 3 (some .int) :: ((wsX6_firstCause_r1 ++ wsX6_firstCause_r2) ++ wsX60)
def wsX6_verdict_r1 : List Cond := [Cond.fieldLink RX6 7 "CodedWordsModel" "s" "[I", Cond.methodLink RX6 58 yX6_isInReach, Cond.instanceMethod yX6_isInReach, Cond.selects RX6 yX6_isInReach yX6_isInReach, Cond.initialized RX6, Cond.code yX6_isInReach cX6_isInReach 2 (some .boolean), Cond.methodLink RX6 51 yX6_fits, Cond.instanceMethod yX6_fits, Cond.selects RX6 yX6_fits yX6_fits, Cond.code yX6_fits cX6_fits 2 (some .boolean), Cond.methodLink RX6 55 yX6_reach, Cond.instanceMethod yX6_reach, Cond.selects RX6 yX6_reach yX6_reach, Cond.code yX6_reach cX6_reach 1 (some .int), Cond.methodLink RX6 47 yX6_top, Cond.instanceMethod yX6_top, Cond.selects RX6 yX6_top yX6_top, Cond.code yX6_top cX6_top 1 (some .int), Cond.methodLink RX6 43 yX6_in, Cond.static yX6_in, Cond.code yX6_in cX6_in 3 (some .boolean), Cond.methodLink RX6 93 yX6_isRight, Cond.instanceMethod yX6_isRight, Cond.selects RX6 yX6_isRight yX6_isRight]
def wsX6_verdict_r2 : List Cond := [Cond.code yX6_isRight cX6_isRight 3 (some .boolean), Cond.methodLink RX6 61 yX6_rest, Cond.static yX6_rest, Cond.code yX6_rest cX6_rest 4 (some .int), Cond.methodLink RX6 100 yX6_causes, Cond.instanceMethod yX6_causes, Cond.selects RX6 yX6_causes yX6_causes, Cond.code yX6_causes cX6_causes 4 (some .int), Cond.methodLink RX6 86 yX6_strikeMany, Cond.instanceMethod yX6_strikeMany, Cond.selects RX6 yX6_strikeMany yX6_strikeMany, Cond.code yX6_strikeMany cX6_strikeMany 1 (some .int), Cond.methodLink RX6 97 yX6_isCause, Cond.instanceMethod yX6_isCause, Cond.selects RX6 yX6_isCause yX6_isCause, Cond.code yX6_isCause cX6_isCause 3 (some .boolean), Cond.methodLink RX6 89 yX6_by, Cond.static yX6_by, Cond.code yX6_by cX6_by 1 (some .int)]
def wsX6_verdict : List Cond := .code yX6_verdict cX6_verdict 2 (some .int) :: ((wsX6_verdict_r1 ++ wsX6_verdict_r2) ++ wsX60)
def wsX6_mends_r1 : List Cond := [Cond.fieldLink RX6 39 "CodedWordsModel" "thrown" "I", Cond.constant RX6 71 (-1000001), Cond.constant RX6 106 (-1000005), Cond.fieldLink RX6 7 "CodedWordsModel" "s" "[I", Cond.methodLink RX6 75 yX6_isRegister, Cond.static yX6_isRegister, Cond.initialized RX6, Cond.code yX6_isRegister cX6_isRegister 1 (some .boolean), Cond.methodLink RX6 43 yX6_in, Cond.static yX6_in, Cond.code yX6_in cX6_in 3 (some .boolean), Cond.methodLink RX6 103 yX6_verdict, Cond.instanceMethod yX6_verdict, Cond.selects RX6 yX6_verdict yX6_verdict, Cond.code yX6_verdict cX6_verdict 2 (some .int), Cond.methodLink RX6 58 yX6_isInReach, Cond.instanceMethod yX6_isInReach, Cond.selects RX6 yX6_isInReach yX6_isInReach, Cond.code yX6_isInReach cX6_isInReach 2 (some .boolean), Cond.methodLink RX6 51 yX6_fits, Cond.instanceMethod yX6_fits, Cond.selects RX6 yX6_fits yX6_fits, Cond.code yX6_fits cX6_fits 2 (some .boolean), Cond.methodLink RX6 55 yX6_reach]
def wsX6_mends_r2 : List Cond := [Cond.instanceMethod yX6_reach, Cond.selects RX6 yX6_reach yX6_reach, Cond.code yX6_reach cX6_reach 1 (some .int), Cond.methodLink RX6 47 yX6_top, Cond.instanceMethod yX6_top, Cond.selects RX6 yX6_top yX6_top, Cond.code yX6_top cX6_top 1 (some .int), Cond.methodLink RX6 93 yX6_isRight, Cond.instanceMethod yX6_isRight, Cond.selects RX6 yX6_isRight yX6_isRight, Cond.code yX6_isRight cX6_isRight 3 (some .boolean), Cond.methodLink RX6 61 yX6_rest, Cond.static yX6_rest, Cond.code yX6_rest cX6_rest 4 (some .int), Cond.methodLink RX6 100 yX6_causes, Cond.instanceMethod yX6_causes, Cond.selects RX6 yX6_causes yX6_causes, Cond.code yX6_causes cX6_causes 4 (some .int), Cond.methodLink RX6 86 yX6_strikeMany, Cond.instanceMethod yX6_strikeMany, Cond.selects RX6 yX6_strikeMany yX6_strikeMany, Cond.code yX6_strikeMany cX6_strikeMany 1 (some .int), Cond.methodLink RX6 97 yX6_isCause, Cond.instanceMethod yX6_isCause]
def wsX6_mends_r3 : List Cond := [Cond.selects RX6 yX6_isCause yX6_isCause, Cond.code yX6_isCause cX6_isCause 3 (some .boolean), Cond.methodLink RX6 89 yX6_by, Cond.static yX6_by, Cond.code yX6_by cX6_by 1 (some .int), Cond.methodLink RX6 72 yX6_notes, Cond.instanceMethod yX6_notes, Cond.selects RX6 yX6_notes yX6_notes, Cond.code yX6_notes cX6_notes 2 none, Cond.fieldLink RX6 65 "CodedWordsModel" "undoMany" "I", Cond.fieldLink RX6 13 "CodedWordsModel" "undos" "[I", Cond.methodLink RX6 107 yX6_firstCause, Cond.instanceMethod yX6_firstCause, Cond.selects RX6 yX6_firstCause yX6_firstCause, Cond.code yX6_firstCause cX6_firstCause 3 (some .int)]
def wsX6_mends : List Cond := .code yX6_mends cX6_mends 4 (some .int) :: ((wsX6_mends_r1 ++ (wsX6_mends_r2 ++ wsX6_mends_r3)) ++ wsX60)
def wsX6_undo : List Cond := .code yX6_undo cX6_undo 2 (some .int) :: ([.fieldLink RX6 39 "CodedWordsModel" "thrown" "I", .fieldLink RX6 65 "CodedWordsModel" "undoMany" "I", .constant RX6 78 (-1000002), .fieldLink RX6 7 "CodedWordsModel" "s" "[I", .fieldLink RX6 13 "CodedWordsModel" "undos" "[I"] ++ wsX60)
def wsX6_register_r1 : List Cond := [Cond.fieldLink RX6 39 "CodedWordsModel" "thrown" "I", Cond.constant RX6 71 (-1000001), Cond.fieldLink RX6 7 "CodedWordsModel" "s" "[I", Cond.constant RX6 110 (-1000000), Cond.methodLink RX6 75 yX6_isRegister, Cond.static yX6_isRegister, Cond.initialized RX6, Cond.code yX6_isRegister cX6_isRegister 1 (some .boolean), Cond.methodLink RX6 43 yX6_in, Cond.static yX6_in, Cond.code yX6_in cX6_in 3 (some .boolean), Cond.methodLink RX6 61 yX6_rest, Cond.static yX6_rest, Cond.code yX6_rest cX6_rest 4 (some .int), Cond.methodLink RX6 51 yX6_fits, Cond.instanceMethod yX6_fits, Cond.selects RX6 yX6_fits yX6_fits, Cond.code yX6_fits cX6_fits 2 (some .boolean), Cond.methodLink RX6 103 yX6_verdict, Cond.instanceMethod yX6_verdict, Cond.selects RX6 yX6_verdict yX6_verdict, Cond.code yX6_verdict cX6_verdict 2 (some .int), Cond.methodLink RX6 58 yX6_isInReach, Cond.instanceMethod yX6_isInReach]
def wsX6_register_r2 : List Cond := [Cond.selects RX6 yX6_isInReach yX6_isInReach, Cond.code yX6_isInReach cX6_isInReach 2 (some .boolean), Cond.methodLink RX6 55 yX6_reach, Cond.instanceMethod yX6_reach, Cond.selects RX6 yX6_reach yX6_reach, Cond.code yX6_reach cX6_reach 1 (some .int), Cond.methodLink RX6 47 yX6_top, Cond.instanceMethod yX6_top, Cond.selects RX6 yX6_top yX6_top, Cond.code yX6_top cX6_top 1 (some .int), Cond.methodLink RX6 93 yX6_isRight, Cond.instanceMethod yX6_isRight, Cond.selects RX6 yX6_isRight yX6_isRight, Cond.code yX6_isRight cX6_isRight 3 (some .boolean), Cond.methodLink RX6 100 yX6_causes, Cond.instanceMethod yX6_causes, Cond.selects RX6 yX6_causes yX6_causes, Cond.code yX6_causes cX6_causes 4 (some .int), Cond.methodLink RX6 86 yX6_strikeMany, Cond.instanceMethod yX6_strikeMany, Cond.selects RX6 yX6_strikeMany yX6_strikeMany, Cond.code yX6_strikeMany cX6_strikeMany 1 (some .int), Cond.methodLink RX6 97 yX6_isCause, Cond.instanceMethod yX6_isCause]
def wsX6_register_r3 : List Cond := [Cond.selects RX6 yX6_isCause yX6_isCause, Cond.code yX6_isCause cX6_isCause 3 (some .boolean), Cond.methodLink RX6 89 yX6_by, Cond.static yX6_by, Cond.code yX6_by cX6_by 1 (some .int), Cond.methodLink RX6 107 yX6_firstCause, Cond.instanceMethod yX6_firstCause, Cond.selects RX6 yX6_firstCause yX6_firstCause, Cond.code yX6_firstCause cX6_firstCause 3 (some .int)]
def wsX6_register : List Cond := .code yX6_register cX6_register 4 (some .int) :: ((wsX6_register_r1 ++ (wsX6_register_r2 ++ wsX6_register_r3)) ++ wsX60)
def wsX6_weightOf : List Cond := .code yX6_weightOf cX6_weightOf 3 (some .int) :: ([])
def wsX6_weight : List Cond := .code yX6_weight cX6_weight 2 (some .int) :: ([.fieldLink RX6 39 "CodedWordsModel" "thrown" "I", .constant RX6 111 (-99999), .constant RX6 112 (99999), .constant RX6 71 (-1000001), .methodLink RX6 43 yX6_in, .static yX6_in, .initialized RX6, .code yX6_in cX6_in 3 (some .boolean), .methodLink RX6 113 yX6_weightOf, .static yX6_weightOf, .code yX6_weightOf cX6_weightOf 3 (some .int)] ++ wsX60)
def wsX6_distanceOf : List Cond := .code yX6_distanceOf cX6_distanceOf 5 (some .int) :: ([.constant RX6 110 (-1000000), .methodLink RX6 113 yX6_weightOf, .static yX6_weightOf, .initialized RX6, .code yX6_weightOf cX6_weightOf 3 (some .int)])
def wsX6_distance : List Cond := .code yX6_distance cX6_distance 3 (some .int) :: ([.fieldLink RX6 39 "CodedWordsModel" "thrown" "I", .constant RX6 71 (-1000001), .methodLink RX6 68 yX6_isConstant, .static yX6_isConstant, .initialized RX6, .code yX6_isConstant cX6_isConstant 1 (some .boolean), .methodLink RX6 43 yX6_in, .static yX6_in, .code yX6_in cX6_in 3 (some .boolean), .methodLink RX6 116 yX6_distanceOf, .static yX6_distanceOf, .code yX6_distanceOf cX6_distanceOf 5 (some .int), .constant RX6 110 (-1000000), .methodLink RX6 113 yX6_weightOf, .static yX6_weightOf, .code yX6_weightOf cX6_weightOf 3 (some .int)] ++ wsX60)
def wsX6_least : List Cond := .code yX6_least cX6_least 4 (some .int) :: ([.fieldLink RX6 39 "CodedWordsModel" "thrown" "I", .constant RX6 71 (-1000001), .constant RX6 110 (-1000000), .methodLink RX6 43 yX6_in, .static yX6_in, .initialized RX6, .code yX6_in cX6_in 3 (some .boolean), .methodLink RX6 116 yX6_distanceOf, .static yX6_distanceOf, .code yX6_distanceOf cX6_distanceOf 5 (some .int), .methodLink RX6 113 yX6_weightOf, .static yX6_weightOf, .code yX6_weightOf cX6_weightOf 3 (some .int)] ++ wsX60)
def wsX6_round : List Cond := .code yX6_round cX6_round 4 (some .int) :: ([.fieldLink RX6 39 "CodedWordsModel" "thrown" "I", .constant RX6 71 (-1000001), .methodLink RX6 68 yX6_isConstant, .static yX6_isConstant, .initialized RX6, .code yX6_isConstant cX6_isConstant 1 (some .boolean), .methodLink RX6 43 yX6_in, .static yX6_in, .code yX6_in cX6_in 3 (some .boolean)] ++ wsX60)
def wsX6_plain : List Cond := .code yX6_plain cX6_plain 6 (some .int) :: ([.fieldLink RX6 39 "CodedWordsModel" "thrown" "I", .constant RX6 71 (-1000001), .methodLink RX6 68 yX6_isConstant, .static yX6_isConstant, .initialized RX6, .code yX6_isConstant cX6_isConstant 1 (some .boolean), .methodLink RX6 43 yX6_in, .static yX6_in, .code yX6_in cX6_in 3 (some .boolean), .methodLink RX6 89 yX6_by, .static yX6_by, .code yX6_by cX6_by 1 (some .int), .methodLink RX6 61 yX6_rest, .static yX6_rest, .code yX6_rest cX6_rest 4 (some .int)] ++ wsX60)
def wsX6_same : List Cond := .code yX6_same cX6_same 6 (some .int) :: ([.fieldLink RX6 39 "CodedWordsModel" "thrown" "I", .fieldLink RX6 7 "CodedWordsModel" "s" "[I", .constant RX6 71 (-1000001), .constant RX6 110 (-1000000), .methodLink RX6 43 yX6_in, .static yX6_in, .initialized RX6, .code yX6_in cX6_in 3 (some .boolean), .methodLink RX6 86 yX6_strikeMany, .instanceMethod yX6_strikeMany, .selects RX6 yX6_strikeMany yX6_strikeMany, .code yX6_strikeMany cX6_strikeMany 1 (some .int), .methodLink RX6 89 yX6_by, .static yX6_by, .code yX6_by cX6_by 1 (some .int), .methodLink RX6 61 yX6_rest, .static yX6_rest, .code yX6_rest cX6_rest 4 (some .int)] ++ wsX60)
def wsX6_missed : List Cond := .code yX6_missed cX6_missed 4 (some .int) :: ([.fieldLink RX6 39 "CodedWordsModel" "thrown" "I", .methodLink RX6 86 yX6_strikeMany, .instanceMethod yX6_strikeMany, .selects RX6 yX6_strikeMany yX6_strikeMany, .initialized RX6, .code yX6_strikeMany cX6_strikeMany 1 (some .int), .fieldLink RX6 7 "CodedWordsModel" "s" "[I", .methodLink RX6 89 yX6_by, .static yX6_by, .code yX6_by cX6_by 1 (some .int), .methodLink RX6 51 yX6_fits, .instanceMethod yX6_fits, .selects RX6 yX6_fits yX6_fits, .code yX6_fits cX6_fits 2 (some .boolean)] ++ wsX60)
def wsX6_gcd : List Cond := .code yX6_gcd cX6_gcd 10 (some .long) :: ([])
def wsX6_odds : List Cond := .code yX6_odds cX6_odds 8 (some .int) :: ([.fieldLink RX6 39 "CodedWordsModel" "thrown" "I", .constant RX6 71 (-1000001), .fieldLink RX6 29 "CodedWordsModel" "ways" "[J", .fieldLink RX6 33 "CodedWordsModel" "then" "[J", .fieldLink RX6 7 "CodedWordsModel" "s" "[I", .methodLink RX6 43 yX6_in, .static yX6_in, .initialized RX6, .code yX6_in cX6_in 3 (some .boolean), .methodLink RX6 86 yX6_strikeMany, .instanceMethod yX6_strikeMany, .selects RX6 yX6_strikeMany yX6_strikeMany, .code yX6_strikeMany cX6_strikeMany 1 (some .int), .methodLink RX6 89 yX6_by, .static yX6_by, .code yX6_by cX6_by 1 (some .int), .methodLink RX6 61 yX6_rest, .static yX6_rest, .code yX6_rest cX6_rest 4 (some .int), .methodLink RX6 120 yX6_gcd, .static yX6_gcd, .code yX6_gcd cX6_gcd 10 (some .long)] ++ wsX60)
def wsX6_sees : List Cond := .code yX6_sees cX6_sees 3 (some .int) :: ([.fieldLink RX6 39 "CodedWordsModel" "thrown" "I", .constant RX6 71 (-1000001), .fieldLink RX6 124 "CodedWordsModel" "seenMany" "I", .constant RX6 127 (-1000003), .fieldLink RX6 23 "CodedWordsModel" "seenWord" "[I", .fieldLink RX6 26 "CodedWordsModel" "seenFits" "[I", .methodLink RX6 43 yX6_in, .static yX6_in, .initialized RX6, .code yX6_in cX6_in 3 (some .boolean)] ++ wsX60)
def wsX6_forget : List Cond := .code yX6_forget cX6_forget 2 (some .int) :: ([.fieldLink RX6 39 "CodedWordsModel" "thrown" "I", .fieldLink RX6 124 "CodedWordsModel" "seenMany" "I"] ++ wsX60)
def wsX6_marks : List Cond := .code yX6_marks cX6_marks 5 (some .int) :: ([.fieldLink RX6 124 "CodedWordsModel" "seenMany" "I", .fieldLink RX6 23 "CodedWordsModel" "seenWord" "[I", .fieldLink RX6 26 "CodedWordsModel" "seenFits" "[I", .fieldLink RX6 36 "CodedWordsModel" "can" "[Z"] ++ wsX60)
def wsX6_unseen : List Cond := .code yX6_unseen cX6_unseen 4 (some .int) :: ([.fieldLink RX6 39 "CodedWordsModel" "thrown" "I", .constant RX6 71 (-1000001), .fieldLink RX6 36 "CodedWordsModel" "can" "[Z", .constant RX6 110 (-1000000), .methodLink RX6 43 yX6_in, .static yX6_in, .initialized RX6, .code yX6_in cX6_in 3 (some .boolean), .methodLink RX6 128 yX6_marks, .instanceMethod yX6_marks, .selects RX6 yX6_marks yX6_marks, .code yX6_marks cX6_marks 5 (some .int), .fieldLink RX6 124 "CodedWordsModel" "seenMany" "I", .fieldLink RX6 23 "CodedWordsModel" "seenWord" "[I", .fieldLink RX6 26 "CodedWordsModel" "seenFits" "[I"] ++ wsX60)
def wsX6_next : List Cond := .code yX6_next cX6_next 7 (some .int) :: ([.fieldLink RX6 39 "CodedWordsModel" "thrown" "I", .constant RX6 110 (-1000000), .fieldLink RX6 36 "CodedWordsModel" "can" "[Z", .methodLink RX6 128 yX6_marks, .instanceMethod yX6_marks, .selects RX6 yX6_marks yX6_marks, .initialized RX6, .code yX6_marks cX6_marks 5 (some .int), .fieldLink RX6 124 "CodedWordsModel" "seenMany" "I", .fieldLink RX6 23 "CodedWordsModel" "seenWord" "[I", .fieldLink RX6 26 "CodedWordsModel" "seenFits" "[I"] ++ wsX60)
def wsX6_keep : List Cond := .code yX6_keep cX6_keep 3 (some .int) :: ([.fieldLink RX6 39 "CodedWordsModel" "thrown" "I", .constant RX6 71 (-1000001), .fieldLink RX6 16 "CodedWordsModel" "kept" "[I", .fieldLink RX6 7 "CodedWordsModel" "s" "[I", .fieldLink RX6 19 "CodedWordsModel" "isKept" "[Z", .methodLink RX6 43 yX6_in, .static yX6_in, .initialized RX6, .code yX6_in cX6_in 3 (some .boolean)] ++ wsX60)
def wsX6_back : List Cond := .code yX6_back cX6_back 3 (some .int) :: ([.fieldLink RX6 39 "CodedWordsModel" "thrown" "I", .constant RX6 71 (-1000001), .fieldLink RX6 19 "CodedWordsModel" "isKept" "[Z", .constant RX6 78 (-1000002), .fieldLink RX6 7 "CodedWordsModel" "s" "[I", .fieldLink RX6 16 "CodedWordsModel" "kept" "[I", .fieldLink RX6 65 "CodedWordsModel" "undoMany" "I", .methodLink RX6 43 yX6_in, .static yX6_in, .initialized RX6, .code yX6_in cX6_in 3 (some .boolean)] ++ wsX60)
def wsX6_rightMany_r1 : List Cond := [Cond.fieldLink RX6 7 "CodedWordsModel" "s" "[I", Cond.methodLink RX6 93 yX6_isRight, Cond.instanceMethod yX6_isRight, Cond.selects RX6 yX6_isRight yX6_isRight, Cond.initialized RX6, Cond.code yX6_isRight cX6_isRight 3 (some .boolean), Cond.methodLink RX6 58 yX6_isInReach, Cond.instanceMethod yX6_isInReach, Cond.selects RX6 yX6_isInReach yX6_isInReach, Cond.code yX6_isInReach cX6_isInReach 2 (some .boolean), Cond.methodLink RX6 51 yX6_fits, Cond.instanceMethod yX6_fits, Cond.selects RX6 yX6_fits yX6_fits, Cond.code yX6_fits cX6_fits 2 (some .boolean), Cond.methodLink RX6 55 yX6_reach, Cond.instanceMethod yX6_reach, Cond.selects RX6 yX6_reach yX6_reach, Cond.code yX6_reach cX6_reach 1 (some .int), Cond.methodLink RX6 47 yX6_top, Cond.instanceMethod yX6_top, Cond.selects RX6 yX6_top yX6_top, Cond.code yX6_top cX6_top 1 (some .int), Cond.methodLink RX6 43 yX6_in, Cond.static yX6_in]
def wsX6_rightMany_r2 : List Cond := [Cond.code yX6_in cX6_in 3 (some .boolean), Cond.methodLink RX6 61 yX6_rest, Cond.static yX6_rest, Cond.code yX6_rest cX6_rest 4 (some .int)]
def wsX6_rightMany : List Cond := .code yX6_rightMany cX6_rightMany 3 (some .int) :: ((wsX6_rightMany_r1 ++ wsX6_rightMany_r2) ++ wsX60)
def wsX6_count_r1 : List Cond := [Cond.fieldLink RX6 39 "CodedWordsModel" "thrown" "I", Cond.constant RX6 71 (-1000001), Cond.fieldLink RX6 7 "CodedWordsModel" "s" "[I", Cond.fieldLink RX6 124 "CodedWordsModel" "seenMany" "I", Cond.fieldLink RX6 65 "CodedWordsModel" "undoMany" "I", Cond.methodLink RX6 43 yX6_in, Cond.static yX6_in, Cond.initialized RX6, Cond.code yX6_in cX6_in 3 (some .boolean), Cond.methodLink RX6 47 yX6_top, Cond.instanceMethod yX6_top, Cond.selects RX6 yX6_top yX6_top, Cond.code yX6_top cX6_top 1 (some .int), Cond.methodLink RX6 55 yX6_reach, Cond.instanceMethod yX6_reach, Cond.selects RX6 yX6_reach yX6_reach, Cond.code yX6_reach cX6_reach 1 (some .int), Cond.methodLink RX6 131 yX6_rightMany, Cond.instanceMethod yX6_rightMany, Cond.selects RX6 yX6_rightMany yX6_rightMany, Cond.code yX6_rightMany cX6_rightMany 3 (some .int), Cond.methodLink RX6 93 yX6_isRight, Cond.instanceMethod yX6_isRight, Cond.selects RX6 yX6_isRight yX6_isRight]
def wsX6_count_r2 : List Cond := [Cond.code yX6_isRight cX6_isRight 3 (some .boolean), Cond.methodLink RX6 58 yX6_isInReach, Cond.instanceMethod yX6_isInReach, Cond.selects RX6 yX6_isInReach yX6_isInReach, Cond.code yX6_isInReach cX6_isInReach 2 (some .boolean), Cond.methodLink RX6 51 yX6_fits, Cond.instanceMethod yX6_fits, Cond.selects RX6 yX6_fits yX6_fits, Cond.code yX6_fits cX6_fits 2 (some .boolean), Cond.methodLink RX6 61 yX6_rest, Cond.static yX6_rest, Cond.code yX6_rest cX6_rest 4 (some .int)]
def wsX6_count : List Cond := .code yX6_count cX6_count 2 (some .int) :: ((wsX6_count_r1 ++ wsX6_count_r2) ++ wsX60)
def wsJ9_abs_0f7a4 : List Cond := .code yJ9_abs_0f7a4 cJ9_abs_0f7a4 1 (some .int) :: ([])
def wsJ9_max_7cf53 : List Cond := .code yJ9_max_7cf53 cJ9_max_7cf53 2 (some .int) :: ([])
def wsJ9_min_7cf53 : List Cond := .code yJ9_min_7cf53 cJ9_min_7cf53 2 (some .int) :: ([])
def wsL_law_r1 : List Cond := [Cond.classLink RL 7 RX5, Cond.instantiable RX5 5, Cond.initialized RX5, Cond.classLink RL 10 RX6, Cond.instantiable RX6 12, Cond.initialized RX6, Cond.methodLink RL 9 yX5_init, Cond.instanceMethod yX5_init, Cond.code yX5_init cX5_init 1 none, Cond.methodLink RX5 1 objectInit, Cond.instanceMethod objectInit, Cond.code objectInit ⟨#[0xb1]⟩ 1 none, Cond.classLink RX5 7 RX2, Cond.instantiable RX2 4, Cond.initialized RX2, Cond.fieldLink RX5 10 "CodedWords" "code" "LCodedWords$Code;", Cond.classLink RX5 16 RX3, Cond.instantiable RX3 3, Cond.initialized RX3, Cond.fieldLink RX5 19 "CodedWords" "past" "LCodedWords$Past;", Cond.classLink RX5 23 RX0, Cond.instantiable RX0 1, Cond.initialized RX0, Cond.fieldLink RX5 26 "CodedWords" "album" "LCodedWords$Album;"]
def wsL_law_r2 : List Cond := [Cond.classLink RX5 30 RX4, Cond.instantiable RX4 4, Cond.initialized RX4, Cond.fieldLink RX5 33 "CodedWords" "search" "LCodedWords$Search;", Cond.classLink RX5 37 RX1, Cond.instantiable RX1 2, Cond.initialized RX1, Cond.fieldLink RX5 40 "CodedWords" "chances" "LCodedWords$Chances;", Cond.instanceMethod yX2_init, Cond.code yX2_init cX2_init 1 none, Cond.methodLink RX2 3 objectInit, Cond.fieldLink RX2 9 "CodedWords$Code" "a" "I", Cond.fieldLink RX2 15 "CodedWords$Code" "width" "I", Cond.arrayClass .int, Cond.fieldLink RX2 18 "CodedWords$Code" "words" "[I", Cond.fieldLink RX2 22 "CodedWords$Code" "residues" "[I", Cond.methodLink RX5 18 yX3_init, Cond.instanceMethod yX3_init, Cond.code yX3_init cX3_init 2 none, Cond.methodLink RX3 3 objectInit, Cond.classLink RX3 9 RX2, Cond.fieldLink RX3 11 "CodedWords$Past" "ring" "[LCodedWords$Code;", Cond.fieldLink RX3 17 "CodedWords$Past" "oldest" "I", Cond.fieldLink RX3 21 "CodedWords$Past" "known" "I"]
def wsL_law_r3 : List Cond := [Cond.instanceMethod yX0_init, Cond.code yX0_init cX0_init 1 none, Cond.methodLink RX0 3 objectInit, Cond.classLink RX0 9 RX2, Cond.fieldLink RX0 11 "CodedWords$Album" "kept" "[LCodedWords$Code;", Cond.instanceMethod yX4_init, Cond.code yX4_init cX4_init 1 none, Cond.methodLink RX4 3 objectInit, Cond.fieldLink RX4 9 "CodedWords$Search" "words" "[I", Cond.fieldLink RX4 15 "CodedWords$Search" "fits" "[I", Cond.fieldLink RX4 18 "CodedWords$Search" "open" "[I", Cond.fieldLink RX4 21 "CodedWords$Search" "seen" "I", Cond.instanceMethod yX1_init, Cond.code yX1_init cX1_init 1 none, Cond.methodLink RX1 3 objectInit, Cond.fieldLink RX1 9 "CodedWords$Chances" "ways" "[I", Cond.fieldLink RX1 15 "CodedWords$Chances" "waysOneMore" "[I", Cond.methodLink RL 12 yX6_init, Cond.instanceMethod yX6_init, Cond.code yX6_init cX6_init 1 none, Cond.methodLink RX6 1 objectInit, Cond.fieldLink RX6 7 "CodedWordsModel" "s" "[I", Cond.fieldLink RX6 13 "CodedWordsModel" "undos" "[I", Cond.fieldLink RX6 16 "CodedWordsModel" "kept" "[I"]
def wsL_law_r4 : List Cond := [Cond.arrayClass .boolean, Cond.fieldLink RX6 19 "CodedWordsModel" "isKept" "[Z", Cond.fieldLink RX6 23 "CodedWordsModel" "seenWord" "[I", Cond.fieldLink RX6 26 "CodedWordsModel" "seenFits" "[I", Cond.arrayClass .long, Cond.fieldLink RX6 29 "CodedWordsModel" "ways" "[J", Cond.fieldLink RX6 33 "CodedWordsModel" "then" "[J", Cond.fieldLink RX6 36 "CodedWordsModel" "can" "[Z", Cond.methodLink RL 13 yX5_codes, Cond.instanceMethod yX5_codes, Cond.selects RX5 yX5_codes yX5_codes, Cond.code yX5_codes cX5_codes 3 (some .int), Cond.constant RX5 51 (-1000001), Cond.methodLink RX5 44 yX5_isConstant, Cond.static yX5_isConstant, Cond.code yX5_isConstant cX5_isConstant 1 (some .boolean), Cond.methodLink RX5 48 yX5_isWidth, Cond.static yX5_isWidth, Cond.code yX5_isWidth cX5_isWidth 1 (some .boolean), Cond.methodLink RX5 52 yX3_remember, Cond.instanceMethod yX3_remember, Cond.selects RX3 yX3_remember yX3_remember, Cond.code yX3_remember cX3_remember 3 none, Cond.static yX5_rest]
def wsL_law_r5 : List Cond := [Cond.code yX5_rest cX5_rest 2 (some .int), Cond.methodLink RX5 210 yJ9_floorMod_7cf53, Cond.static yJ9_floorMod_7cf53, Cond.initialized RJ9, Cond.code yJ9_floorMod_7cf53 cJ9_floorMod_7cf53 3 (some .int), Cond.methodLink RX3 29 yJ9_floorMod_7cf53, Cond.methodLink RX3 34 yX2_copyFrom, Cond.instanceMethod yX2_copyFrom, Cond.selects RX2 yX2_copyFrom yX2_copyFrom, Cond.code yX2_copyFrom cX2_copyFrom 3 none, Cond.methodLink RX2 31 yX2_wordOf, Cond.instanceMethod yX2_wordOf, Cond.selects RX2 yX2_wordOf yX2_wordOf, Cond.code yX2_wordOf cX2_wordOf 2 (some .int), Cond.static yX5_isRegister, Cond.code yX5_isRegister cX5_isRegister 1 (some .boolean), Cond.methodLink RX2 35 yX2_residueOf, Cond.instanceMethod yX2_residueOf, Cond.selects RX2 yX2_residueOf yX2_residueOf, Cond.code yX2_residueOf cX2_residueOf 2 (some .int), Cond.methodLink RX2 38 yX2_put, Cond.instanceMethod yX2_put, Cond.selects RX2 yX2_put yX2_put, Cond.code yX2_put cX2_put 4 none]
def wsL_law_r6 : List Cond := [Cond.methodLink RX5 56 yX2_startAs, Cond.instanceMethod yX2_startAs, Cond.selects RX2 yX2_startAs yX2_startAs, Cond.code yX2_startAs cX2_startAs 3 none, Cond.methodLink RX2 25 yJ7_fill_53178, Cond.static yJ7_fill_53178, Cond.initialized RJ7, Cond.code yJ7_fill_53178 cJ7_fill_53178 4 none, Cond.methodLink RX5 60 yX2_reach, Cond.instanceMethod yX2_reach, Cond.selects RX2 yX2_reach yX2_reach, Cond.code yX2_reach cX2_reach 1 (some .int), Cond.methodLink RX2 46 yX2_top, Cond.instanceMethod yX2_top, Cond.selects RX2 yX2_top yX2_top, Cond.code yX2_top cX2_top 1 (some .int), Cond.static yX5_cut, Cond.code yX5_cut cX5_cut 3 (some .long), Cond.methodLink RL 17 yX6_codes, Cond.instanceMethod yX6_codes, Cond.selects RX6 yX6_codes yX6_codes, Cond.code yX6_codes cX6_codes 4 (some .int), Cond.fieldLink RX6 39 "CodedWordsModel" "thrown" "I", Cond.constant RX6 71 (-1000001)]
def wsL_law_r7 : List Cond := [Cond.methodLink RX6 68 yX6_isConstant, Cond.static yX6_isConstant, Cond.code yX6_isConstant cX6_isConstant 1 (some .boolean), Cond.methodLink RX6 43 yX6_in, Cond.static yX6_in, Cond.code yX6_in cX6_in 3 (some .boolean), Cond.methodLink RX6 72 yX6_notes, Cond.instanceMethod yX6_notes, Cond.selects RX6 yX6_notes yX6_notes, Cond.code yX6_notes cX6_notes 2 none, Cond.fieldLink RX6 65 "CodedWordsModel" "undoMany" "I", Cond.methodLink RX6 55 yX6_reach, Cond.instanceMethod yX6_reach, Cond.selects RX6 yX6_reach yX6_reach, Cond.code yX6_reach cX6_reach 1 (some .int), Cond.methodLink RX6 47 yX6_top, Cond.instanceMethod yX6_top, Cond.selects RX6 yX6_top yX6_top, Cond.code yX6_top cX6_top 1 (some .int), Cond.methodLink RL 18 yX5_sets, Cond.instanceMethod yX5_sets, Cond.selects RX5 yX5_sets yX5_sets, Cond.code yX5_sets cX5_sets 3 (some .int), Cond.methodLink RX5 64 yX5_isRegister]
def wsL_law_r8 : List Cond := [Cond.methodLink RX5 67 yX2_reaches, Cond.instanceMethod yX2_reaches, Cond.selects RX2 yX2_reaches yX2_reaches, Cond.code yX2_reaches cX2_reaches 2 (some .boolean), Cond.methodLink RX2 54 yX2_reach, Cond.methodLink RX5 74 yX5_rest, Cond.methodLink RX5 78 yX2_put, Cond.methodLink RX5 82 yX2_wordOf, Cond.methodLink RL 21 yX6_sets, Cond.instanceMethod yX6_sets, Cond.selects RX6 yX6_sets yX6_sets, Cond.code yX6_sets cX6_sets 3 (some .int), Cond.methodLink RX6 75 yX6_isRegister, Cond.static yX6_isRegister, Cond.code yX6_isRegister cX6_isRegister 1 (some .boolean), Cond.methodLink RX6 61 yX6_rest, Cond.static yX6_rest, Cond.code yX6_rest cX6_rest 4 (some .int), Cond.methodLink RL 22 yX5_does, Cond.instanceMethod yX5_does, Cond.selects RX5 yX5_does yX5_does, Cond.code yX5_does cX5_does 7 (some .int), Cond.constant RX5 89 (-1000002), Cond.constant RX5 97 (-1000004)]
def wsL_law_r9 : List Cond := [Cond.methodLink RX5 86 yX2_canHalve, Cond.instanceMethod yX2_canHalve, Cond.selects RX2 yX2_canHalve yX2_canHalve, Cond.code yX2_canHalve cX2_canHalve 3 (some .boolean), Cond.methodLink RX2 64 yX2_fits, Cond.instanceMethod yX2_fits, Cond.selects RX2 yX2_fits yX2_fits, Cond.code yX2_fits cX2_fits 2 (some .boolean), Cond.methodLink RX2 61 yX2_valueOf, Cond.instanceMethod yX2_valueOf, Cond.selects RX2 yX2_valueOf yX2_valueOf, Cond.code yX2_valueOf cX2_valueOf 2 (some .int), Cond.methodLink RX5 90 yX5_wordDone, Cond.instanceMethod yX5_wordDone, Cond.selects RX5 yX5_wordDone yX5_wordDone, Cond.code yX5_wordDone cX5_wordDone 6 (some .long), Cond.constantLong RX5 218 (2), Cond.methodLink RX5 173 yX5_cut, Cond.methodLink RX5 94 yX2_top, Cond.methodLink RX5 98 yX2_residueOf, Cond.methodLink RX5 101 yX5_residueDone, Cond.static yX5_residueDone, Cond.code yX5_residueDone cX5_residueDone 3 (some .int), Cond.methodLink RL 26 yX6_does]
def wsL_law_r10 : List Cond := [Cond.instanceMethod yX6_does, Cond.selects RX6 yX6_does yX6_does, Cond.code yX6_does cX6_does 10 (some .int), Cond.constant RX6 78 (-1000002), Cond.constant RX6 83 (-1000004), Cond.constantLong RX6 84 (8), Cond.methodLink RX6 51 yX6_fits, Cond.instanceMethod yX6_fits, Cond.selects RX6 yX6_fits yX6_fits, Cond.code yX6_fits cX6_fits 2 (some .boolean), Cond.methodLink RX6 79 yX6_makes, Cond.static yX6_makes, Cond.code yX6_makes cX6_makes 6 (some .long), Cond.methodLink RL 27 yX5_strikes, Cond.instanceMethod yX5_strikes, Cond.selects RX5 yX5_strikes yX5_strikes, Cond.code yX5_strikes cX5_strikes 5 (some .int), Cond.methodLink RX5 105 yX2_strikeCount, Cond.instanceMethod yX2_strikeCount, Cond.selects RX2 yX2_strikeCount yX2_strikeCount, Cond.code yX2_strikeCount cX2_strikeCount 1 (some .int), Cond.methodLink RX5 108 yX5_change, Cond.static yX5_change, Cond.code yX5_change cX5_change 2 (some .int)]
def wsL_law_r11 : List Cond := [Cond.methodLink RL 30 yX6_strikes, Cond.instanceMethod yX6_strikes, Cond.selects RX6 yX6_strikes yX6_strikes, Cond.code yX6_strikes cX6_strikes 4 (some .int), Cond.methodLink RX6 86 yX6_strikeMany, Cond.instanceMethod yX6_strikeMany, Cond.selects RX6 yX6_strikeMany yX6_strikeMany, Cond.code yX6_strikeMany cX6_strikeMany 1 (some .int), Cond.methodLink RX6 89 yX6_by, Cond.static yX6_by, Cond.code yX6_by cX6_by 1 (some .int), Cond.methodLink RL 31 yX5_bends, Cond.instanceMethod yX5_bends, Cond.selects RX5 yX5_bends yX5_bends, Cond.code yX5_bends cX5_bends 3 (some .int), Cond.methodLink RL 34 yX6_bends, Cond.instanceMethod yX6_bends, Cond.selects RX6 yX6_bends yX6_bends, Cond.code yX6_bends cX6_bends 3 (some .int), Cond.methodLink RL 35 yX5_mends, Cond.instanceMethod yX5_mends, Cond.selects RX5 yX5_mends yX5_mends, Cond.code yX5_mends cX5_mends 4 (some .int), Cond.constant RX5 120 (-1000005)]
def wsL_law_r12 : List Cond := [Cond.methodLink RX5 111 yX2_verdictOf, Cond.instanceMethod yX2_verdictOf, Cond.selects RX2 yX2_verdictOf yX2_verdictOf, Cond.code yX2_verdictOf cX2_verdictOf 3 (some .int), Cond.methodLink RX2 67 yX2_isSound, Cond.instanceMethod yX2_isSound, Cond.selects RX2 yX2_isSound yX2_isSound, Cond.code yX2_isSound cX2_isSound 2 (some .boolean), Cond.methodLink RX2 73 yX2_isRight, Cond.instanceMethod yX2_isRight, Cond.selects RX2 yX2_isRight yX2_isRight, Cond.code yX2_isRight cX2_isRight 3 (some .boolean), Cond.methodLink RX2 70 yX2_dueResidue, Cond.instanceMethod yX2_dueResidue, Cond.selects RX2 yX2_dueResidue yX2_dueResidue, Cond.code yX2_dueResidue cX2_dueResidue 2 (some .int), Cond.methodLink RX2 83 yX2_causesOf, Cond.instanceMethod yX2_causesOf, Cond.selects RX2 yX2_causesOf yX2_causesOf, Cond.code yX2_causesOf cX2_causesOf 4 (some .int), Cond.methodLink RX2 77 yX2_strikeCount, Cond.methodLink RX5 114 yX2_dueResidue, Cond.methodLink RX5 117 yX2_onlyCauseOf, Cond.instanceMethod yX2_onlyCauseOf]
def wsL_law_r13 : List Cond := [Cond.selects RX2 yX2_onlyCauseOf yX2_onlyCauseOf, Cond.code yX2_onlyCauseOf cX2_onlyCauseOf 3 (some .int), Cond.constant RX2 86 (-1000000), Cond.methodLink RL 39 yX6_mends, Cond.instanceMethod yX6_mends, Cond.selects RX6 yX6_mends yX6_mends, Cond.code yX6_mends cX6_mends 4 (some .int), Cond.constant RX6 106 (-1000005), Cond.methodLink RX6 103 yX6_verdict, Cond.instanceMethod yX6_verdict, Cond.selects RX6 yX6_verdict yX6_verdict, Cond.code yX6_verdict cX6_verdict 2 (some .int), Cond.methodLink RX6 58 yX6_isInReach, Cond.instanceMethod yX6_isInReach, Cond.selects RX6 yX6_isInReach yX6_isInReach, Cond.code yX6_isInReach cX6_isInReach 2 (some .boolean), Cond.methodLink RX6 93 yX6_isRight, Cond.instanceMethod yX6_isRight, Cond.selects RX6 yX6_isRight yX6_isRight, Cond.code yX6_isRight cX6_isRight 3 (some .boolean), Cond.methodLink RX6 100 yX6_causes, Cond.instanceMethod yX6_causes, Cond.selects RX6 yX6_causes yX6_causes, Cond.code yX6_causes cX6_causes 4 (some .int)]
def wsL_law_r14 : List Cond := [Cond.methodLink RX6 97 yX6_isCause, Cond.instanceMethod yX6_isCause, Cond.selects RX6 yX6_isCause yX6_isCause, Cond.code yX6_isCause cX6_isCause 3 (some .boolean), Cond.methodLink RX6 107 yX6_firstCause, Cond.instanceMethod yX6_firstCause, Cond.selects RX6 yX6_firstCause yX6_firstCause, Cond.code yX6_firstCause cX6_firstCause 3 (some .int), Cond.methodLink RL 40 yX5_undo, Cond.instanceMethod yX5_undo, Cond.selects RX5 yX5_undo yX5_undo, Cond.code yX5_undo cX5_undo 1 (some .int), Cond.methodLink RX5 121 yX3_recall, Cond.instanceMethod yX3_recall, Cond.selects RX3 yX3_recall yX3_recall, Cond.code yX3_recall cX3_recall 3 (some .boolean), Cond.methodLink RL 44 yX6_undo, Cond.instanceMethod yX6_undo, Cond.selects RX6 yX6_undo yX6_undo, Cond.code yX6_undo cX6_undo 2 (some .int), Cond.methodLink RL 45 yX5_register, Cond.instanceMethod yX5_register, Cond.selects RX5 yX5_register yX5_register, Cond.code yX5_register cX5_register 4 (some .int)]
def wsL_law_r15 : List Cond := [Cond.constant RX5 134 (-1000000), Cond.methodLink RX5 128 yX2_fits, Cond.methodLink RX5 131 yX2_valueOf, Cond.methodLink RX5 135 yX2_isRight, Cond.methodLink RX5 139 yX2_causesOf, Cond.methodLink RL 48 yX6_register, Cond.instanceMethod yX6_register, Cond.selects RX6 yX6_register yX6_register, Cond.code yX6_register cX6_register 4 (some .int), Cond.constant RX6 110 (-1000000), Cond.methodLink RL 49 yX5_weight, Cond.instanceMethod yX5_weight, Cond.selects RX5 yX5_weight yX5_weight, Cond.code yX5_weight cX5_weight 2 (some .int), Cond.constant RX5 142 (-99999), Cond.constant RX5 143 (99999), Cond.methodLink RX5 144 Lib.Math.abs.name, Cond.static Lib.Math.abs.name, Cond.initialized "java/lang/Math", Cond.code Lib.Math.abs.name Lib.Math.abs.code 1 (some .int), Cond.methodLink RX5 149 yX5_digitsNotZero, Cond.static yX5_digitsNotZero, Cond.code yX5_digitsNotZero cX5_digitsNotZero 1 (some .int), Cond.methodLink RX5 213 yJ6_bitCount_0f7a4]
def wsL_law_r16 : List Cond := [Cond.static yJ6_bitCount_0f7a4, Cond.initialized RJ6, Cond.code yJ6_bitCount_0f7a4 cJ6_bitCount_0f7a4 1 (some .int), Cond.constant RJ6 265 (1431655765), Cond.constant RJ6 266 (858993459), Cond.constant RJ6 267 (252645135), Cond.methodLink RL 52 yX6_weight, Cond.instanceMethod yX6_weight, Cond.selects RX6 yX6_weight yX6_weight, Cond.code yX6_weight cX6_weight 2 (some .int), Cond.constant RX6 111 (-99999), Cond.constant RX6 112 (99999), Cond.methodLink RX6 113 yX6_weightOf, Cond.static yX6_weightOf, Cond.code yX6_weightOf cX6_weightOf 3 (some .int), Cond.methodLink RL 53 yX5_distance, Cond.instanceMethod yX5_distance, Cond.selects RX5 yX5_distance yX5_distance, Cond.code yX5_distance cX5_distance 3 (some .int), Cond.methodLink RX5 152 yX5_lightestMultiple, Cond.static yX5_lightestMultiple, Cond.code yX5_lightestMultiple cX5_lightestMultiple 7 (some .int), Cond.methodLink RL 56 yX6_distance, Cond.instanceMethod yX6_distance]
def wsL_law_r17 : List Cond := [Cond.selects RX6 yX6_distance yX6_distance, Cond.code yX6_distance cX6_distance 3 (some .int), Cond.methodLink RX6 116 yX6_distanceOf, Cond.static yX6_distanceOf, Cond.code yX6_distanceOf cX6_distanceOf 5 (some .int), Cond.methodLink RL 57 yX5_least, Cond.instanceMethod yX5_least, Cond.selects RX5 yX5_least yX5_least, Cond.code yX5_least cX5_least 5 (some .int), Cond.methodLink RX5 155 Lib.Math.max.name, Cond.static Lib.Math.max.name, Cond.code Lib.Math.max.name Lib.Math.max.code 2 (some .int), Cond.methodLink RL 60 yX6_least, Cond.instanceMethod yX6_least, Cond.selects RX6 yX6_least yX6_least, Cond.code yX6_least cX6_least 4 (some .int), Cond.methodLink RL 61 yX5_round, Cond.instanceMethod yX5_round, Cond.selects RX5 yX5_round yX5_round, Cond.code yX5_round cX5_round 4 (some .int), Cond.methodLink RL 64 yX6_round, Cond.instanceMethod yX6_round, Cond.selects RX6 yX6_round yX6_round, Cond.code yX6_round cX6_round 4 (some .int)]
def wsL_law_r18 : List Cond := [Cond.methodLink RL 65 yX5_plain, Cond.instanceMethod yX5_plain, Cond.selects RX5 yX5_plain yX5_plain, Cond.code yX5_plain cX5_plain 5 (some .int), Cond.methodLink RX5 158 yX5_strikesLeaving, Cond.static yX5_strikesLeaving, Cond.code yX5_strikesLeaving cX5_strikesLeaving 5 (some .int), Cond.methodLink RL 68 yX6_plain, Cond.instanceMethod yX6_plain, Cond.selects RX6 yX6_plain yX6_plain, Cond.code yX6_plain cX6_plain 6 (some .int), Cond.methodLink RL 69 yX5_same, Cond.instanceMethod yX5_same, Cond.selects RX5 yX5_same yX5_same, Cond.code yX5_same cX5_same 3 (some .int), Cond.methodLink RX5 164 yX5_firstLeaving, Cond.static yX5_firstLeaving, Cond.code yX5_firstLeaving cX5_firstLeaving 4 (some .int), Cond.methodLink RL 72 yX6_same, Cond.instanceMethod yX6_same, Cond.selects RX6 yX6_same yX6_same, Cond.code yX6_same cX6_same 6 (some .int), Cond.methodLink RL 73 yX5_missed, Cond.instanceMethod yX5_missed]
def wsL_law_r19 : List Cond := [Cond.selects RX5 yX5_missed yX5_missed, Cond.code yX5_missed cX5_missed 4 (some .int), Cond.methodLink RL 76 yX6_missed, Cond.instanceMethod yX6_missed, Cond.selects RX6 yX6_missed yX6_missed, Cond.code yX6_missed cX6_missed 4 (some .int), Cond.methodLink RL 77 yX5_odds, Cond.instanceMethod yX5_odds, Cond.selects RX5 yX5_odds yX5_odds, Cond.code yX5_odds cX5_odds 6 (some .int), Cond.methodLink RX5 167 yX1_waysToFit, Cond.instanceMethod yX1_waysToFit, Cond.selects RX1 yX1_waysToFit yX1_waysToFit, Cond.code yX1_waysToFit cX1_waysToFit 5 (some .int), Cond.methodLink RX1 18 yJ7_fill_53178, Cond.methodLink RX1 24 yX1_addStrike, Cond.instanceMethod yX1_addStrike, Cond.selects RX1 yX1_addStrike yX1_addStrike, Cond.code yX1_addStrike cX1_addStrike 7 none, Cond.methodLink RX1 28 Lib.Math.min.name, Cond.static Lib.Math.min.name, Cond.code Lib.Math.min.name Lib.Math.min.code 2 (some .int), Cond.methodLink RX5 170 yX5_commonDivisor, Cond.static yX5_commonDivisor]
def wsL_law_r20 : List Cond := [Cond.code yX5_commonDivisor cX5_commonDivisor 6 (some .int), Cond.methodLink RL 80 yX6_odds, Cond.instanceMethod yX6_odds, Cond.selects RX6 yX6_odds yX6_odds, Cond.code yX6_odds cX6_odds 8 (some .int), Cond.methodLink RX6 120 yX6_gcd, Cond.static yX6_gcd, Cond.code yX6_gcd cX6_gcd 10 (some .long), Cond.methodLink RL 81 yX5_sees, Cond.instanceMethod yX5_sees, Cond.selects RX5 yX5_sees yX5_sees, Cond.code yX5_sees cX5_sees 3 (some .int), Cond.constant RX5 183 (-1000003), Cond.methodLink RX5 177 yX4_note, Cond.instanceMethod yX4_note, Cond.selects RX4 yX4_note yX4_note, Cond.code yX4_note cX4_note 3 (some .boolean), Cond.methodLink RL 84 yX6_sees, Cond.instanceMethod yX6_sees, Cond.selects RX6 yX6_sees yX6_sees, Cond.code yX6_sees cX6_sees 3 (some .int), Cond.fieldLink RX6 124 "CodedWordsModel" "seenMany" "I", Cond.constant RX6 127 (-1000003), Cond.methodLink RL 85 yX5_forget]
def wsL_law_r21 : List Cond := [Cond.instanceMethod yX5_forget, Cond.selects RX5 yX5_forget yX5_forget, Cond.code yX5_forget cX5_forget 2 (some .int), Cond.methodLink RL 88 yX6_forget, Cond.instanceMethod yX6_forget, Cond.selects RX6 yX6_forget yX6_forget, Cond.code yX6_forget cX6_forget 2 (some .int), Cond.methodLink RL 89 yX5_unseen, Cond.instanceMethod yX5_unseen, Cond.selects RX5 yX5_unseen yX5_unseen, Cond.code yX5_unseen cX5_unseen 2 (some .int), Cond.methodLink RX5 184 yX4_gatherOpen, Cond.instanceMethod yX4_gatherOpen, Cond.selects RX4 yX4_gatherOpen yX4_gatherOpen, Cond.code yX4_gatherOpen cX4_gatherOpen 3 (some .int), Cond.methodLink RX4 25 yX4_isOpen, Cond.instanceMethod yX4_isOpen, Cond.selects RX4 yX4_isOpen yX4_isOpen, Cond.code yX4_isOpen cX4_isOpen 4 (some .boolean), Cond.methodLink RX5 187 yX4_leastOpen, Cond.instanceMethod yX4_leastOpen, Cond.selects RX4 yX4_leastOpen yX4_leastOpen, Cond.code yX4_leastOpen cX4_leastOpen 1 (some .int), Cond.constant RX4 33 (-1000000)]
def wsL_law_r22 : List Cond := [Cond.methodLink RX4 29 yX4_gatherOpen, Cond.methodLink RL 92 yX6_unseen, Cond.instanceMethod yX6_unseen, Cond.selects RX6 yX6_unseen yX6_unseen, Cond.code yX6_unseen cX6_unseen 4 (some .int), Cond.methodLink RX6 128 yX6_marks, Cond.instanceMethod yX6_marks, Cond.selects RX6 yX6_marks yX6_marks, Cond.code yX6_marks cX6_marks 5 (some .int), Cond.methodLink RL 93 yX5_next, Cond.instanceMethod yX5_next, Cond.selects RX5 yX5_next yX5_next, Cond.code yX5_next cX5_next 1 (some .int), Cond.methodLink RX5 190 yX4_bestTry, Cond.instanceMethod yX4_bestTry, Cond.selects RX4 yX4_bestTry yX4_bestTry, Cond.code yX4_bestTry cX4_bestTry 7 (some .int), Cond.methodLink RX4 38 Lib.Math.max.name, Cond.methodLink RX4 34 yX4_openFitting, Cond.instanceMethod yX4_openFitting, Cond.selects RX4 yX4_openFitting yX4_openFitting, Cond.code yX4_openFitting cX4_openFitting 5 (some .int), Cond.methodLink RL 96 yX6_next, Cond.instanceMethod yX6_next]
def wsL_law_r23 : List Cond := [Cond.selects RX6 yX6_next yX6_next, Cond.code yX6_next cX6_next 7 (some .int), Cond.methodLink RL 97 yX5_keep, Cond.instanceMethod yX5_keep, Cond.selects RX5 yX5_keep yX5_keep, Cond.code yX5_keep cX5_keep 2 (some .int), Cond.methodLink RX5 193 yX5_isImage, Cond.static yX5_isImage, Cond.code yX5_isImage cX5_isImage 1 (some .boolean), Cond.methodLink RX5 196 yX0_store, Cond.instanceMethod yX0_store, Cond.selects RX0 yX0_store yX0_store, Cond.code yX0_store cX0_store 4 none, Cond.methodLink RX0 22 yX2_copyFrom, Cond.methodLink RL 100 yX6_keep, Cond.instanceMethod yX6_keep, Cond.selects RX6 yX6_keep yX6_keep, Cond.code yX6_keep cX6_keep 3 (some .int), Cond.methodLink RL 101 yX5_back, Cond.instanceMethod yX5_back, Cond.selects RX5 yX5_back yX5_back, Cond.code yX5_back cX5_back 2 (some .int), Cond.methodLink RX5 200 yX0_fetch, Cond.instanceMethod yX0_fetch]
def wsL_law_r24 : List Cond := [Cond.selects RX0 yX0_fetch yX0_fetch, Cond.code yX0_fetch cX0_fetch 4 (some .boolean), Cond.methodLink RX5 204 yX3_lose, Cond.instanceMethod yX3_lose, Cond.selects RX3 yX3_lose yX3_lose, Cond.code yX3_lose cX3_lose 1 none, Cond.methodLink RL 104 yX6_back, Cond.instanceMethod yX6_back, Cond.selects RX6 yX6_back yX6_back, Cond.code yX6_back cX6_back 3 (some .int), Cond.methodLink RL 105 yX5_count, Cond.instanceMethod yX5_count, Cond.selects RX5 yX5_count yX5_count, Cond.code yX5_count cX5_count 2 (some .int), Cond.methodLink RX5 207 yX2_registersRight, Cond.instanceMethod yX2_registersRight, Cond.selects RX2 yX2_registersRight yX2_registersRight, Cond.code yX2_registersRight cX2_registersRight 3 (some .int), Cond.methodLink RL 108 yX6_count, Cond.instanceMethod yX6_count, Cond.selects RX6 yX6_count yX6_count, Cond.code yX6_count cX6_count 2 (some .int), Cond.methodLink RX6 131 yX6_rightMany, Cond.instanceMethod yX6_rightMany]
def wsL_law_r25 : List Cond := [Cond.selects RX6 yX6_rightMany yX6_rightMany, Cond.code yX6_rightMany cX6_rightMany 3 (some .int)]
def wsL_law : List Cond := (wsL_law_r1 ++ (wsL_law_r2 ++ (wsL_law_r3 ++ (wsL_law_r4 ++ (wsL_law_r5 ++ (wsL_law_r6 ++ (wsL_law_r7 ++ (wsL_law_r8 ++ (wsL_law_r9 ++ (wsL_law_r10 ++ (wsL_law_r11 ++ (wsL_law_r12 ++ (wsL_law_r13 ++ (wsL_law_r14 ++ (wsL_law_r15 ++ (wsL_law_r16 ++ (wsL_law_r17 ++ (wsL_law_r18 ++ (wsL_law_r19 ++ (wsL_law_r20 ++ (wsL_law_r21 ++ (wsL_law_r22 ++ (wsL_law_r23 ++ (wsL_law_r24 ++ wsL_law_r25)))))))))))))))))))))))) ++ wsX50 ++ wsX60 ++ wsX20 ++ wsX30 ++ wsX00 ++ wsX40 ++ wsX10 ++ ([] : List Cond)
theorem inlX0 : ∀ w ∈ wsX00, w ∈ wsL_law := fun _ h => List.mem_append_left _ (List.mem_append_left _ (List.mem_append_left _ (List.mem_append_right _ h)))
theorem inlX1 : ∀ w ∈ wsX10, w ∈ wsL_law := fun _ h => List.mem_append_left _ (List.mem_append_right _ h)
theorem inlX2 : ∀ w ∈ wsX20, w ∈ wsL_law := fun _ h => List.mem_append_left _ (List.mem_append_left _ (List.mem_append_left _ (List.mem_append_left _ (List.mem_append_left _ (List.mem_append_right _ h)))))
theorem inlX3 : ∀ w ∈ wsX30, w ∈ wsL_law := fun _ h => List.mem_append_left _ (List.mem_append_left _ (List.mem_append_left _ (List.mem_append_left _ (List.mem_append_right _ h))))
theorem inlX4 : ∀ w ∈ wsX40, w ∈ wsL_law := fun _ h => List.mem_append_left _ (List.mem_append_left _ (List.mem_append_right _ h))
theorem inlX5 : ∀ w ∈ wsX50, w ∈ wsL_law := fun _ h => List.mem_append_left _ (List.mem_append_left _ (List.mem_append_left _ (List.mem_append_left _ (List.mem_append_left _ (List.mem_append_left _ (List.mem_append_left _ (List.mem_append_right _ h)))))))
theorem inlX6 : ∀ w ∈ wsX60, w ∈ wsL_law := fun _ h => List.mem_append_left _ (List.mem_append_left _ (List.mem_append_left _ (List.mem_append_left _ (List.mem_append_left _ (List.mem_append_left _ (List.mem_append_right _ h))))))
theorem dX0_init_0 : decode cX0_init 0 = .ok (.aload_n 0, 1) := by decide +kernel
theorem dX0_init_1 : decode cX0_init 1 = .ok (.invokespecial 3, 3) := by decide +kernel
theorem dX0_init_4 : decode cX0_init 4 = .ok (.aload_n 0, 1) := by decide +kernel
theorem dX0_init_5 : decode cX0_init 5 = .ok (.iconst 2, 1) := by decide +kernel
theorem dX0_init_6 : decode cX0_init 6 = .ok (.anewarray 9, 3) := by decide +kernel
theorem dX0_init_9 : decode cX0_init 9 = .ok (.putfield 11, 3) := by decide +kernel
theorem dX0_init_12 : decode cX0_init 12 = .ok (.return_, 1) := by decide +kernel
set_option maxRecDepth 20000 in
theorem ggX0_store_X5_isImage : GoodIn wsX0_store wsX5_isImage := goodIn_r _ [7] (by decide +kernel) (by decide +kernel)
set_option maxRecDepth 20000 in
theorem gX0_store_X5_isImage_n17 : GoodIn wsX0_store (wsX5_isImage) := ggX0_store_X5_isImage
set_option maxRecDepth 20000 in
theorem ggX0_store_X2_init : GoodIn wsX0_store wsX2_init := goodIn_r _ [9, 10, 11, 12, 13, 14, 15, 16, 17, 37, 38, 39, 40] (by decide +kernel) (by decide +kernel)
set_option maxRecDepth 20000 in
theorem gX0_store_X2_init_n21 : GoodIn wsX0_store (wsX2_init) := ggX0_store_X2_init
set_option maxRecDepth 20000 in
theorem ggX0_store_X2_copyFrom : GoodIn wsX0_store wsX2_copyFrom := goodIn_r _ [21, 13, 14, 22, 23, 24, 4, 25, 16, 26, 6, 27, 28, 29, 30, 31, 17, 32, 33, 34, 35, 37, 38, 39, 40] (by decide +kernel) (by decide +kernel)
set_option maxRecDepth 20000 in
theorem gX0_store_X2_copyFrom : GoodIn wsX0_store (wsV RX0 22 RX2 yX2_copyFrom wsX2_copyFrom) := goodIn_app (goodIn_of _ (by decide +kernel)) ggX0_store_X2_copyFrom
theorem dX0_store_0 : decode cX0_store 0 = .ok (.iload_n 1, 1) := by decide +kernel
theorem dX0_store_1 : decode cX0_store 1 = .ok (.invokestatic 17, 3) := by decide +kernel
theorem dX0_store_4 : decode cX0_store 4 = .ok (.ifCond .ne 4, 3) := by decide +kernel
theorem dX0_store_7 : decode cX0_store 7 = .ok (.return_, 1) := by decide +kernel
theorem dX0_store_8 : decode cX0_store 8 = .ok (.aload_n 0, 1) := by decide +kernel
theorem dX0_store_9 : decode cX0_store 9 = .ok (.getfield 11, 3) := by decide +kernel
theorem dX0_store_12 : decode cX0_store 12 = .ok (.iload_n 1, 1) := by decide +kernel
theorem dX0_store_13 : decode cX0_store 13 = .ok (.aaload, 1) := by decide +kernel
theorem dX0_store_14 : decode cX0_store 14 = .ok (.astore_n 3, 1) := by decide +kernel
theorem dX0_store_15 : decode cX0_store 15 = .ok (.aload_n 3, 1) := by decide +kernel
theorem dX0_store_16 : decode cX0_store 16 = .ok (.ifnonnull 18, 3) := by decide +kernel
theorem dX0_store_19 : decode cX0_store 19 = .ok (.new 9, 3) := by decide +kernel
theorem dX0_store_22 : decode cX0_store 22 = .ok (.dup, 1) := by decide +kernel
theorem dX0_store_23 : decode cX0_store 23 = .ok (.invokespecial 21, 3) := by decide +kernel
theorem dX0_store_26 : decode cX0_store 26 = .ok (.astore_n 3, 1) := by decide +kernel
theorem dX0_store_27 : decode cX0_store 27 = .ok (.aload_n 0, 1) := by decide +kernel
theorem dX0_store_28 : decode cX0_store 28 = .ok (.getfield 11, 3) := by decide +kernel
theorem dX0_store_31 : decode cX0_store 31 = .ok (.iload_n 1, 1) := by decide +kernel
theorem dX0_store_32 : decode cX0_store 32 = .ok (.aload_n 3, 1) := by decide +kernel
theorem dX0_store_33 : decode cX0_store 33 = .ok (.aastore, 1) := by decide +kernel
theorem dX0_store_34 : decode cX0_store 34 = .ok (.aload_n 3, 1) := by decide +kernel
theorem dX0_store_35 : decode cX0_store 35 = .ok (.aload_n 2, 1) := by decide +kernel
theorem dX0_store_36 : decode cX0_store 36 = .ok (.invokevirtual 22, 3) := by decide +kernel
theorem dX0_store_39 : decode cX0_store 39 = .ok (.return_, 1) := by decide +kernel
set_option maxRecDepth 20000 in
theorem ggX0_fetch_X5_isImage : GoodIn wsX0_fetch wsX5_isImage := goodIn_r _ [4] (by decide +kernel) (by decide +kernel)
set_option maxRecDepth 20000 in
theorem gX0_fetch_X5_isImage_n17 : GoodIn wsX0_fetch (wsX5_isImage) := ggX0_fetch_X5_isImage
set_option maxRecDepth 20000 in
theorem ggX0_fetch_X2_copyFrom : GoodIn wsX0_fetch wsX2_copyFrom := goodIn_r _ [9, 10, 11, 12, 13, 14, 8, 15, 16, 17, 3, 18, 19, 20, 21, 22, 23, 24, 25, 26, 27, 29, 30, 31, 32] (by decide +kernel) (by decide +kernel)
set_option maxRecDepth 20000 in
theorem gX0_fetch_X2_copyFrom : GoodIn wsX0_fetch (wsV RX0 22 RX2 yX2_copyFrom wsX2_copyFrom) := goodIn_app (goodIn_of _ (by decide +kernel)) ggX0_fetch_X2_copyFrom
theorem dX0_fetch_0 : decode cX0_fetch 0 = .ok (.iload_n 1, 1) := by decide +kernel
theorem dX0_fetch_1 : decode cX0_fetch 1 = .ok (.invokestatic 17, 3) := by decide +kernel
theorem dX0_fetch_4 : decode cX0_fetch 4 = .ok (.ifCond .ne 5, 3) := by decide +kernel
theorem dX0_fetch_7 : decode cX0_fetch 7 = .ok (.iconst 0, 1) := by decide +kernel
theorem dX0_fetch_8 : decode cX0_fetch 8 = .ok (.ireturn, 1) := by decide +kernel
theorem dX0_fetch_9 : decode cX0_fetch 9 = .ok (.aload_n 0, 1) := by decide +kernel
theorem dX0_fetch_10 : decode cX0_fetch 10 = .ok (.getfield 11, 3) := by decide +kernel
theorem dX0_fetch_13 : decode cX0_fetch 13 = .ok (.iload_n 1, 1) := by decide +kernel
theorem dX0_fetch_14 : decode cX0_fetch 14 = .ok (.aaload, 1) := by decide +kernel
theorem dX0_fetch_15 : decode cX0_fetch 15 = .ok (.astore_n 3, 1) := by decide +kernel
theorem dX0_fetch_16 : decode cX0_fetch 16 = .ok (.aload_n 3, 1) := by decide +kernel
theorem dX0_fetch_17 : decode cX0_fetch 17 = .ok (.ifnonnull 5, 3) := by decide +kernel
theorem dX0_fetch_20 : decode cX0_fetch 20 = .ok (.iconst 0, 1) := by decide +kernel
theorem dX0_fetch_21 : decode cX0_fetch 21 = .ok (.ireturn, 1) := by decide +kernel
theorem dX0_fetch_22 : decode cX0_fetch 22 = .ok (.aload_n 2, 1) := by decide +kernel
theorem dX0_fetch_23 : decode cX0_fetch 23 = .ok (.aload_n 3, 1) := by decide +kernel
theorem dX0_fetch_24 : decode cX0_fetch 24 = .ok (.invokevirtual 22, 3) := by decide +kernel
theorem dX0_fetch_27 : decode cX0_fetch 27 = .ok (.iconst 1, 1) := by decide +kernel
theorem dX0_fetch_28 : decode cX0_fetch 28 = .ok (.ireturn, 1) := by decide +kernel
theorem dX1_init_0 : decode cX1_init 0 = .ok (.aload_n 0, 1) := by decide +kernel
theorem dX1_init_1 : decode cX1_init 1 = .ok (.invokespecial 3, 3) := by decide +kernel
theorem dX1_init_4 : decode cX1_init 4 = .ok (.aload_n 0, 1) := by decide +kernel
theorem dX1_init_5 : decode cX1_init 5 = .ok (.sipush 199, 3) := by decide +kernel
theorem dX1_init_8 : decode cX1_init 8 = .ok (.newarray .int, 2) := by decide +kernel
theorem dX1_init_10 : decode cX1_init 10 = .ok (.putfield 9, 3) := by decide +kernel
theorem dX1_init_13 : decode cX1_init 13 = .ok (.aload_n 0, 1) := by decide +kernel
theorem dX1_init_14 : decode cX1_init 14 = .ok (.sipush 199, 3) := by decide +kernel
theorem dX1_init_17 : decode cX1_init 17 = .ok (.newarray .int, 2) := by decide +kernel
theorem dX1_init_19 : decode cX1_init 19 = .ok (.putfield 15, 3) := by decide +kernel
theorem dX1_init_22 : decode cX1_init 22 = .ok (.return_, 1) := by decide +kernel
set_option maxRecDepth 20000 in
theorem ggX1_waysToFit_J7_fill_53178 : GoodIn wsX1_waysToFit wsJ7_fill_53178 := goodIn_r _ [5] (by decide +kernel) (by decide +kernel)
set_option maxRecDepth 20000 in
theorem gX1_waysToFit_J7_fill_53178 : GoodIn wsX1_waysToFit (va_wsS RX1 18 yJ7_fill_53178 wsJ7_fill_53178) := goodIn_app (goodIn_of _ (by decide +kernel)) ggX1_waysToFit_J7_fill_53178
set_option maxRecDepth 20000 in
theorem ggX1_waysToFit_X1_addStrike : GoodIn wsX1_waysToFit wsX1_addStrike := goodIn_r _ [10, 11, 12, 13, 14, 15, 1, 2, 3, 4, 5, 16, 17, 18, 19, 20, 21, 22, 23, 24, 25, 26] (by decide +kernel) (by decide +kernel)
set_option maxRecDepth 20000 in
theorem gX1_waysToFit_X1_addStrike : GoodIn wsX1_waysToFit (wsV RX1 24 RX1 yX1_addStrike wsX1_addStrike) := goodIn_app (goodIn_of _ (by decide +kernel)) ggX1_waysToFit_X1_addStrike
theorem dX1_waysToFit_0 : decode cX1_waysToFit 0 = .ok (.aload_n 0, 1) := by decide +kernel
theorem dX1_waysToFit_1 : decode cX1_waysToFit 1 = .ok (.getfield 9, 3) := by decide +kernel
theorem dX1_waysToFit_4 : decode cX1_waysToFit 4 = .ok (.iconst 0, 1) := by decide +kernel
theorem dX1_waysToFit_5 : decode cX1_waysToFit 5 = .ok (.invokestatic 18, 3) := by decide +kernel
theorem dX1_waysToFit_8 : decode cX1_waysToFit 8 = .ok (.aload_n 0, 1) := by decide +kernel
theorem dX1_waysToFit_9 : decode cX1_waysToFit 9 = .ok (.getfield 9, 3) := by decide +kernel
theorem dX1_waysToFit_12 : decode cX1_waysToFit 12 = .ok (.iconst 0, 1) := by decide +kernel
theorem dX1_waysToFit_13 : decode cX1_waysToFit 13 = .ok (.iconst 1, 1) := by decide +kernel
theorem dX1_waysToFit_14 : decode cX1_waysToFit 14 = .ok (.iastore, 1) := by decide +kernel
theorem dX1_waysToFit_15 : decode cX1_waysToFit 15 = .ok (.iconst 0, 1) := by decide +kernel
theorem dX1_waysToFit_16 : decode cX1_waysToFit 16 = .ok (.istore 4, 2) := by decide +kernel
theorem dX1_waysToFit_18 : decode cX1_waysToFit 18 = .ok (.iload 4, 2) := by decide +kernel
theorem dX1_waysToFit_20 : decode cX1_waysToFit 20 = .ok (.iload_n 1, 1) := by decide +kernel
theorem dX1_waysToFit_21 : decode cX1_waysToFit 21 = .ok (.if_icmp .ge 15, 3) := by decide +kernel
theorem dX1_waysToFit_24 : decode cX1_waysToFit 24 = .ok (.aload_n 0, 1) := by decide +kernel
theorem dX1_waysToFit_25 : decode cX1_waysToFit 25 = .ok (.iload_n 2, 1) := by decide +kernel
theorem dX1_waysToFit_26 : decode cX1_waysToFit 26 = .ok (.iload_n 3, 1) := by decide +kernel
theorem dX1_waysToFit_27 : decode cX1_waysToFit 27 = .ok (.invokevirtual 24, 3) := by decide +kernel
theorem dX1_waysToFit_30 : decode cX1_waysToFit 30 = .ok (.iinc 4 1, 3) := by decide +kernel
theorem dX1_waysToFit_33 : decode cX1_waysToFit 33 = .ok (.goto (-15), 3) := by decide +kernel
theorem dX1_waysToFit_36 : decode cX1_waysToFit 36 = .ok (.aload_n 0, 1) := by decide +kernel
theorem dX1_waysToFit_37 : decode cX1_waysToFit 37 = .ok (.getfield 9, 3) := by decide +kernel
theorem dX1_waysToFit_40 : decode cX1_waysToFit 40 = .ok (.iconst 0, 1) := by decide +kernel
theorem dX1_waysToFit_41 : decode cX1_waysToFit 41 = .ok (.iaload, 1) := by decide +kernel
theorem dX1_waysToFit_42 : decode cX1_waysToFit 42 = .ok (.ireturn, 1) := by decide +kernel
set_option maxRecDepth 20000 in
theorem ggX1_addStrike_J7_fill_53178 : GoodIn wsX1_addStrike wsJ7_fill_53178 := goodIn_r _ [10] (by decide +kernel) (by decide +kernel)
set_option maxRecDepth 20000 in
theorem gX1_addStrike_J7_fill_53178 : GoodIn wsX1_addStrike (va_wsS RX1 18 yJ7_fill_53178 wsJ7_fill_53178) := goodIn_app (goodIn_of _ (by decide +kernel)) ggX1_addStrike_J7_fill_53178
set_option maxRecDepth 20000 in
theorem ggX1_addStrike_X5_change : GoodIn wsX1_addStrike wsX5_change := goodIn_r _ [13] (by decide +kernel) (by decide +kernel)
set_option maxRecDepth 20000 in
theorem gX1_addStrike_X5_change_n34 : GoodIn wsX1_addStrike (wsX5_change) := ggX1_addStrike_X5_change
set_option maxRecDepth 20000 in
theorem ggX1_addStrike_X5_rest : GoodIn wsX1_addStrike wsX5_rest := goodIn_r _ [15, 16, 17, 18, 19] (by decide +kernel) (by decide +kernel)
set_option maxRecDepth 20000 in
theorem gX1_addStrike_X5_rest_n38 : GoodIn wsX1_addStrike (wsX5_rest) := ggX1_addStrike_X5_rest
theorem dX1_addStrike_0 : decode cX1_addStrike 0 = .ok (.iload_n 1, 1) := by decide +kernel
theorem dX1_addStrike_1 : decode cX1_addStrike 1 = .ok (.sipush 199, 3) := by decide +kernel
theorem dX1_addStrike_4 : decode cX1_addStrike 4 = .ok (.invokestatic 28, 3) := by decide +kernel
theorem dX1_addStrike_7 : decode cX1_addStrike 7 = .ok (.istore_n 3, 1) := by decide +kernel
theorem dX1_addStrike_8 : decode cX1_addStrike 8 = .ok (.aload_n 0, 1) := by decide +kernel
theorem dX1_addStrike_9 : decode cX1_addStrike 9 = .ok (.getfield 15, 3) := by decide +kernel
theorem dX1_addStrike_12 : decode cX1_addStrike 12 = .ok (.iconst 0, 1) := by decide +kernel
theorem dX1_addStrike_13 : decode cX1_addStrike 13 = .ok (.invokestatic 18, 3) := by decide +kernel
theorem dX1_addStrike_16 : decode cX1_addStrike 16 = .ok (.iconst 0, 1) := by decide +kernel
theorem dX1_addStrike_17 : decode cX1_addStrike 17 = .ok (.istore 4, 2) := by decide +kernel
theorem dX1_addStrike_19 : decode cX1_addStrike 19 = .ok (.iload 4, 2) := by decide +kernel
theorem dX1_addStrike_21 : decode cX1_addStrike 21 = .ok (.iconst 2, 1) := by decide +kernel
theorem dX1_addStrike_22 : decode cX1_addStrike 22 = .ok (.iload_n 2, 1) := by decide +kernel
theorem dX1_addStrike_23 : decode cX1_addStrike 23 = .ok (.imul, 1) := by decide +kernel
theorem dX1_addStrike_24 : decode cX1_addStrike 24 = .ok (.if_icmp .ge 82, 3) := by decide +kernel
theorem dX1_addStrike_27 : decode cX1_addStrike 27 = .ok (.iload 4, 2) := by decide +kernel
theorem dX1_addStrike_29 : decode cX1_addStrike 29 = .ok (.invokestatic 34, 3) := by decide +kernel
theorem dX1_addStrike_32 : decode cX1_addStrike 32 = .ok (.ineg, 1) := by decide +kernel
theorem dX1_addStrike_33 : decode cX1_addStrike 33 = .ok (.iload_n 3, 1) := by decide +kernel
theorem dX1_addStrike_34 : decode cX1_addStrike 34 = .ok (.invokestatic 38, 3) := by decide +kernel
theorem dX1_addStrike_37 : decode cX1_addStrike 37 = .ok (.istore 5, 2) := by decide +kernel
theorem dX1_addStrike_39 : decode cX1_addStrike 39 = .ok (.iconst 0, 1) := by decide +kernel
theorem dX1_addStrike_40 : decode cX1_addStrike 40 = .ok (.istore 6, 2) := by decide +kernel
theorem dX1_addStrike_42 : decode cX1_addStrike 42 = .ok (.iload 6, 2) := by decide +kernel
theorem dX1_addStrike_44 : decode cX1_addStrike 44 = .ok (.iload_n 3, 1) := by decide +kernel
theorem dX1_addStrike_45 : decode cX1_addStrike 45 = .ok (.if_icmp .ge 55, 3) := by decide +kernel
theorem dX1_addStrike_48 : decode cX1_addStrike 48 = .ok (.iload 5, 2) := by decide +kernel
theorem dX1_addStrike_50 : decode cX1_addStrike 50 = .ok (.ifCond .lt 26, 3) := by decide +kernel
theorem dX1_addStrike_53 : decode cX1_addStrike 53 = .ok (.iload 5, 2) := by decide +kernel
theorem dX1_addStrike_55 : decode cX1_addStrike 55 = .ok (.iload_n 3, 1) := by decide +kernel
theorem dX1_addStrike_56 : decode cX1_addStrike 56 = .ok (.if_icmp .ge 20, 3) := by decide +kernel
theorem dX1_addStrike_59 : decode cX1_addStrike 59 = .ok (.aload_n 0, 1) := by decide +kernel
theorem dX1_addStrike_60 : decode cX1_addStrike 60 = .ok (.getfield 15, 3) := by decide +kernel
theorem dX1_addStrike_63 : decode cX1_addStrike 63 = .ok (.iload 6, 2) := by decide +kernel
theorem dX1_addStrike_65 : decode cX1_addStrike 65 = .ok (.dup2, 1) := by decide +kernel
theorem dX1_addStrike_66 : decode cX1_addStrike 66 = .ok (.iaload, 1) := by decide +kernel
theorem dX1_addStrike_67 : decode cX1_addStrike 67 = .ok (.aload_n 0, 1) := by decide +kernel
theorem dX1_addStrike_68 : decode cX1_addStrike 68 = .ok (.getfield 9, 3) := by decide +kernel
theorem dX1_addStrike_71 : decode cX1_addStrike 71 = .ok (.iload 5, 2) := by decide +kernel
theorem dX1_addStrike_73 : decode cX1_addStrike 73 = .ok (.iaload, 1) := by decide +kernel
theorem dX1_addStrike_74 : decode cX1_addStrike 74 = .ok (.iadd, 1) := by decide +kernel
theorem dX1_addStrike_75 : decode cX1_addStrike 75 = .ok (.iastore, 1) := by decide +kernel
theorem dX1_addStrike_76 : decode cX1_addStrike 76 = .ok (.iload 5, 2) := by decide +kernel
theorem dX1_addStrike_78 : decode cX1_addStrike 78 = .ok (.iconst 1, 1) := by decide +kernel
theorem dX1_addStrike_79 : decode cX1_addStrike 79 = .ok (.iadd, 1) := by decide +kernel
theorem dX1_addStrike_80 : decode cX1_addStrike 80 = .ok (.iload_n 3, 1) := by decide +kernel
theorem dX1_addStrike_81 : decode cX1_addStrike 81 = .ok (.if_icmp .ge 10, 3) := by decide +kernel
theorem dX1_addStrike_84 : decode cX1_addStrike 84 = .ok (.iload 5, 2) := by decide +kernel
theorem dX1_addStrike_86 : decode cX1_addStrike 86 = .ok (.iconst 1, 1) := by decide +kernel
theorem dX1_addStrike_87 : decode cX1_addStrike 87 = .ok (.iadd, 1) := by decide +kernel
theorem dX1_addStrike_88 : decode cX1_addStrike 88 = .ok (.goto 4, 3) := by decide +kernel
theorem dX1_addStrike_91 : decode cX1_addStrike 91 = .ok (.iconst 0, 1) := by decide +kernel
theorem dX1_addStrike_92 : decode cX1_addStrike 92 = .ok (.istore 5, 2) := by decide +kernel
theorem dX1_addStrike_94 : decode cX1_addStrike 94 = .ok (.iinc 6 1, 3) := by decide +kernel
theorem dX1_addStrike_97 : decode cX1_addStrike 97 = .ok (.goto (-55), 3) := by decide +kernel
theorem dX1_addStrike_100 : decode cX1_addStrike 100 = .ok (.iinc 4 1, 3) := by decide +kernel
theorem dX1_addStrike_103 : decode cX1_addStrike 103 = .ok (.goto (-84), 3) := by decide +kernel
theorem dX1_addStrike_106 : decode cX1_addStrike 106 = .ok (.iconst 0, 1) := by decide +kernel
theorem dX1_addStrike_107 : decode cX1_addStrike 107 = .ok (.istore 4, 2) := by decide +kernel
theorem dX1_addStrike_109 : decode cX1_addStrike 109 = .ok (.iload 4, 2) := by decide +kernel
theorem dX1_addStrike_111 : decode cX1_addStrike 111 = .ok (.iload_n 3, 1) := by decide +kernel
theorem dX1_addStrike_112 : decode cX1_addStrike 112 = .ok (.if_icmp .ge 23, 3) := by decide +kernel
theorem dX1_addStrike_115 : decode cX1_addStrike 115 = .ok (.aload_n 0, 1) := by decide +kernel
theorem dX1_addStrike_116 : decode cX1_addStrike 116 = .ok (.getfield 9, 3) := by decide +kernel
theorem dX1_addStrike_119 : decode cX1_addStrike 119 = .ok (.iload 4, 2) := by decide +kernel
theorem dX1_addStrike_121 : decode cX1_addStrike 121 = .ok (.aload_n 0, 1) := by decide +kernel
theorem dX1_addStrike_122 : decode cX1_addStrike 122 = .ok (.getfield 15, 3) := by decide +kernel
theorem dX1_addStrike_125 : decode cX1_addStrike 125 = .ok (.iload 4, 2) := by decide +kernel
theorem dX1_addStrike_127 : decode cX1_addStrike 127 = .ok (.iaload, 1) := by decide +kernel
theorem dX1_addStrike_128 : decode cX1_addStrike 128 = .ok (.iastore, 1) := by decide +kernel
theorem dX1_addStrike_129 : decode cX1_addStrike 129 = .ok (.iinc 4 1, 3) := by decide +kernel
theorem dX1_addStrike_132 : decode cX1_addStrike 132 = .ok (.goto (-23), 3) := by decide +kernel
theorem dX1_addStrike_135 : decode cX1_addStrike 135 = .ok (.return_, 1) := by decide +kernel
theorem dX2_init_0 : decode cX2_init 0 = .ok (.aload_n 0, 1) := by decide +kernel
theorem dX2_init_1 : decode cX2_init 1 = .ok (.invokespecial 3, 3) := by decide +kernel
theorem dX2_init_4 : decode cX2_init 4 = .ok (.aload_n 0, 1) := by decide +kernel
theorem dX2_init_5 : decode cX2_init 5 = .ok (.bipush 13, 2) := by decide +kernel
theorem dX2_init_7 : decode cX2_init 7 = .ok (.putfield 9, 3) := by decide +kernel
theorem dX2_init_10 : decode cX2_init 10 = .ok (.aload_n 0, 1) := by decide +kernel
theorem dX2_init_11 : decode cX2_init 11 = .ok (.bipush 9, 2) := by decide +kernel
theorem dX2_init_13 : decode cX2_init 13 = .ok (.putfield 15, 3) := by decide +kernel
theorem dX2_init_16 : decode cX2_init 16 = .ok (.aload_n 0, 1) := by decide +kernel
theorem dX2_init_17 : decode cX2_init 17 = .ok (.iconst 4, 1) := by decide +kernel
theorem dX2_init_18 : decode cX2_init 18 = .ok (.newarray .int, 2) := by decide +kernel
theorem dX2_init_20 : decode cX2_init 20 = .ok (.putfield 18, 3) := by decide +kernel
theorem dX2_init_23 : decode cX2_init 23 = .ok (.aload_n 0, 1) := by decide +kernel
theorem dX2_init_24 : decode cX2_init 24 = .ok (.iconst 4, 1) := by decide +kernel
theorem dX2_init_25 : decode cX2_init 25 = .ok (.newarray .int, 2) := by decide +kernel
theorem dX2_init_27 : decode cX2_init 27 = .ok (.putfield 22, 3) := by decide +kernel
theorem dX2_init_30 : decode cX2_init 30 = .ok (.return_, 1) := by decide +kernel
set_option maxRecDepth 20000 in
theorem ggX2_startAs_J7_fill_53178 : GoodIn wsX2_startAs wsJ7_fill_53178 := goodIn_r _ [8] (by decide +kernel) (by decide +kernel)
set_option maxRecDepth 20000 in
theorem gX2_startAs_J7_fill_53178 : GoodIn wsX2_startAs (va_wsS RX2 25 yJ7_fill_53178 wsJ7_fill_53178) := goodIn_app (goodIn_of _ (by decide +kernel)) ggX2_startAs_J7_fill_53178
theorem dX2_startAs_0 : decode cX2_startAs 0 = .ok (.aload_n 0, 1) := by decide +kernel
theorem dX2_startAs_1 : decode cX2_startAs 1 = .ok (.iload_n 1, 1) := by decide +kernel
theorem dX2_startAs_2 : decode cX2_startAs 2 = .ok (.putfield 9, 3) := by decide +kernel
theorem dX2_startAs_5 : decode cX2_startAs 5 = .ok (.aload_n 0, 1) := by decide +kernel
theorem dX2_startAs_6 : decode cX2_startAs 6 = .ok (.iload_n 2, 1) := by decide +kernel
theorem dX2_startAs_7 : decode cX2_startAs 7 = .ok (.putfield 15, 3) := by decide +kernel
theorem dX2_startAs_10 : decode cX2_startAs 10 = .ok (.aload_n 0, 1) := by decide +kernel
theorem dX2_startAs_11 : decode cX2_startAs 11 = .ok (.getfield 18, 3) := by decide +kernel
theorem dX2_startAs_14 : decode cX2_startAs 14 = .ok (.iconst 0, 1) := by decide +kernel
theorem dX2_startAs_15 : decode cX2_startAs 15 = .ok (.invokestatic 25, 3) := by decide +kernel
theorem dX2_startAs_18 : decode cX2_startAs 18 = .ok (.aload_n 0, 1) := by decide +kernel
theorem dX2_startAs_19 : decode cX2_startAs 19 = .ok (.getfield 22, 3) := by decide +kernel
theorem dX2_startAs_22 : decode cX2_startAs 22 = .ok (.iconst 0, 1) := by decide +kernel
theorem dX2_startAs_23 : decode cX2_startAs 23 = .ok (.invokestatic 25, 3) := by decide +kernel
theorem dX2_startAs_26 : decode cX2_startAs 26 = .ok (.return_, 1) := by decide +kernel
set_option maxRecDepth 20000 in
theorem ggX2_copyFrom_X2_wordOf : GoodIn wsX2_copyFrom wsX2_wordOf := goodIn_r _ [7, 8, 9, 10, 11, 21, 22, 23, 24] (by decide +kernel) (by decide +kernel)
set_option maxRecDepth 20000 in
theorem gX2_copyFrom_X2_wordOf : GoodIn wsX2_copyFrom (wsV RX2 31 RX2 yX2_wordOf wsX2_wordOf) := goodIn_app (goodIn_of _ (by decide +kernel)) ggX2_copyFrom_X2_wordOf
set_option maxRecDepth 20000 in
theorem ggX2_copyFrom_X2_residueOf : GoodIn wsX2_copyFrom wsX2_residueOf := goodIn_r _ [15, 16, 9, 10, 11, 21, 22, 23, 24] (by decide +kernel) (by decide +kernel)
set_option maxRecDepth 20000 in
theorem gX2_copyFrom_X2_residueOf : GoodIn wsX2_copyFrom (wsV RX2 35 RX2 yX2_residueOf wsX2_residueOf) := goodIn_app (goodIn_of _ (by decide +kernel)) ggX2_copyFrom_X2_residueOf
set_option maxRecDepth 20000 in
theorem ggX2_copyFrom_X2_put : GoodIn wsX2_copyFrom wsX2_put := goodIn_r _ [20, 8, 16, 9, 10, 11, 21, 22, 23, 24] (by decide +kernel) (by decide +kernel)
set_option maxRecDepth 20000 in
theorem gX2_copyFrom_X2_put : GoodIn wsX2_copyFrom (wsV RX2 38 RX2 yX2_put wsX2_put) := goodIn_app (goodIn_of _ (by decide +kernel)) ggX2_copyFrom_X2_put
theorem dX2_copyFrom_0 : decode cX2_copyFrom 0 = .ok (.aload_n 0, 1) := by decide +kernel
theorem dX2_copyFrom_1 : decode cX2_copyFrom 1 = .ok (.aload_n 1, 1) := by decide +kernel
theorem dX2_copyFrom_2 : decode cX2_copyFrom 2 = .ok (.getfield 9, 3) := by decide +kernel
theorem dX2_copyFrom_5 : decode cX2_copyFrom 5 = .ok (.putfield 9, 3) := by decide +kernel
theorem dX2_copyFrom_8 : decode cX2_copyFrom 8 = .ok (.aload_n 0, 1) := by decide +kernel
theorem dX2_copyFrom_9 : decode cX2_copyFrom 9 = .ok (.aload_n 1, 1) := by decide +kernel
theorem dX2_copyFrom_10 : decode cX2_copyFrom 10 = .ok (.getfield 15, 3) := by decide +kernel
theorem dX2_copyFrom_13 : decode cX2_copyFrom 13 = .ok (.putfield 15, 3) := by decide +kernel
theorem dX2_copyFrom_16 : decode cX2_copyFrom 16 = .ok (.iconst 0, 1) := by decide +kernel
theorem dX2_copyFrom_17 : decode cX2_copyFrom 17 = .ok (.istore_n 2, 1) := by decide +kernel
theorem dX2_copyFrom_18 : decode cX2_copyFrom 18 = .ok (.iload_n 2, 1) := by decide +kernel
theorem dX2_copyFrom_19 : decode cX2_copyFrom 19 = .ok (.iconst 4, 1) := by decide +kernel
theorem dX2_copyFrom_20 : decode cX2_copyFrom 20 = .ok (.if_icmp .ge 24, 3) := by decide +kernel
theorem dX2_copyFrom_23 : decode cX2_copyFrom 23 = .ok (.aload_n 0, 1) := by decide +kernel
theorem dX2_copyFrom_24 : decode cX2_copyFrom 24 = .ok (.iload_n 2, 1) := by decide +kernel
theorem dX2_copyFrom_25 : decode cX2_copyFrom 25 = .ok (.aload_n 1, 1) := by decide +kernel
theorem dX2_copyFrom_26 : decode cX2_copyFrom 26 = .ok (.iload_n 2, 1) := by decide +kernel
theorem dX2_copyFrom_27 : decode cX2_copyFrom 27 = .ok (.invokevirtual 31, 3) := by decide +kernel
theorem dX2_copyFrom_30 : decode cX2_copyFrom 30 = .ok (.aload_n 1, 1) := by decide +kernel
theorem dX2_copyFrom_31 : decode cX2_copyFrom 31 = .ok (.iload_n 2, 1) := by decide +kernel
theorem dX2_copyFrom_32 : decode cX2_copyFrom 32 = .ok (.invokevirtual 35, 3) := by decide +kernel
theorem dX2_copyFrom_35 : decode cX2_copyFrom 35 = .ok (.invokevirtual 38, 3) := by decide +kernel
theorem dX2_copyFrom_38 : decode cX2_copyFrom 38 = .ok (.iinc 2 1, 3) := by decide +kernel
theorem dX2_copyFrom_41 : decode cX2_copyFrom 41 = .ok (.goto (-23), 3) := by decide +kernel
theorem dX2_copyFrom_44 : decode cX2_copyFrom 44 = .ok (.return_, 1) := by decide +kernel
set_option maxRecDepth 20000 in
theorem ggX2_wordOf_X5_isRegister : GoodIn wsX2_wordOf wsX5_isRegister := goodIn_r _ [4] (by decide +kernel) (by decide +kernel)
set_option maxRecDepth 20000 in
theorem gX2_wordOf_X5_isRegister_n42 : GoodIn wsX2_wordOf (wsX5_isRegister) := ggX2_wordOf_X5_isRegister
theorem dX2_wordOf_0 : decode cX2_wordOf 0 = .ok (.iload_n 1, 1) := by decide +kernel
theorem dX2_wordOf_1 : decode cX2_wordOf 1 = .ok (.invokestatic 42, 3) := by decide +kernel
theorem dX2_wordOf_4 : decode cX2_wordOf 4 = .ok (.ifCond .eq 12, 3) := by decide +kernel
theorem dX2_wordOf_7 : decode cX2_wordOf 7 = .ok (.aload_n 0, 1) := by decide +kernel
theorem dX2_wordOf_8 : decode cX2_wordOf 8 = .ok (.getfield 18, 3) := by decide +kernel
theorem dX2_wordOf_11 : decode cX2_wordOf 11 = .ok (.iload_n 1, 1) := by decide +kernel
theorem dX2_wordOf_12 : decode cX2_wordOf 12 = .ok (.iaload, 1) := by decide +kernel
theorem dX2_wordOf_13 : decode cX2_wordOf 13 = .ok (.goto 4, 3) := by decide +kernel
theorem dX2_wordOf_16 : decode cX2_wordOf 16 = .ok (.iconst 0, 1) := by decide +kernel
theorem dX2_wordOf_17 : decode cX2_wordOf 17 = .ok (.ireturn, 1) := by decide +kernel
set_option maxRecDepth 20000 in
theorem ggX2_residueOf_X5_isRegister : GoodIn wsX2_residueOf wsX5_isRegister := goodIn_r _ [4] (by decide +kernel) (by decide +kernel)
set_option maxRecDepth 20000 in
theorem gX2_residueOf_X5_isRegister_n42 : GoodIn wsX2_residueOf (wsX5_isRegister) := ggX2_residueOf_X5_isRegister
theorem dX2_residueOf_0 : decode cX2_residueOf 0 = .ok (.iload_n 1, 1) := by decide +kernel
theorem dX2_residueOf_1 : decode cX2_residueOf 1 = .ok (.invokestatic 42, 3) := by decide +kernel
theorem dX2_residueOf_4 : decode cX2_residueOf 4 = .ok (.ifCond .eq 12, 3) := by decide +kernel
theorem dX2_residueOf_7 : decode cX2_residueOf 7 = .ok (.aload_n 0, 1) := by decide +kernel
theorem dX2_residueOf_8 : decode cX2_residueOf 8 = .ok (.getfield 22, 3) := by decide +kernel
theorem dX2_residueOf_11 : decode cX2_residueOf 11 = .ok (.iload_n 1, 1) := by decide +kernel
theorem dX2_residueOf_12 : decode cX2_residueOf 12 = .ok (.iaload, 1) := by decide +kernel
theorem dX2_residueOf_13 : decode cX2_residueOf 13 = .ok (.goto 4, 3) := by decide +kernel
theorem dX2_residueOf_16 : decode cX2_residueOf 16 = .ok (.iconst 0, 1) := by decide +kernel
theorem dX2_residueOf_17 : decode cX2_residueOf 17 = .ok (.ireturn, 1) := by decide +kernel
set_option maxRecDepth 20000 in
theorem ggX2_put_X5_isRegister : GoodIn wsX2_put wsX5_isRegister := goodIn_r _ [5] (by decide +kernel) (by decide +kernel)
set_option maxRecDepth 20000 in
theorem gX2_put_X5_isRegister_n42 : GoodIn wsX2_put (wsX5_isRegister) := ggX2_put_X5_isRegister
theorem dX2_put_0 : decode cX2_put 0 = .ok (.iload_n 1, 1) := by decide +kernel
theorem dX2_put_1 : decode cX2_put 1 = .ok (.invokestatic 42, 3) := by decide +kernel
theorem dX2_put_4 : decode cX2_put 4 = .ok (.ifCond .eq 17, 3) := by decide +kernel
theorem dX2_put_7 : decode cX2_put 7 = .ok (.aload_n 0, 1) := by decide +kernel
theorem dX2_put_8 : decode cX2_put 8 = .ok (.getfield 18, 3) := by decide +kernel
theorem dX2_put_11 : decode cX2_put 11 = .ok (.iload_n 1, 1) := by decide +kernel
theorem dX2_put_12 : decode cX2_put 12 = .ok (.iload_n 2, 1) := by decide +kernel
theorem dX2_put_13 : decode cX2_put 13 = .ok (.iastore, 1) := by decide +kernel
theorem dX2_put_14 : decode cX2_put 14 = .ok (.aload_n 0, 1) := by decide +kernel
theorem dX2_put_15 : decode cX2_put 15 = .ok (.getfield 22, 3) := by decide +kernel
theorem dX2_put_18 : decode cX2_put 18 = .ok (.iload_n 1, 1) := by decide +kernel
theorem dX2_put_19 : decode cX2_put 19 = .ok (.iload_n 3, 1) := by decide +kernel
theorem dX2_put_20 : decode cX2_put 20 = .ok (.iastore, 1) := by decide +kernel
theorem dX2_put_21 : decode cX2_put 21 = .ok (.return_, 1) := by decide +kernel
theorem dX2_top_0 : decode cX2_top 0 = .ok (.iconst 1, 1) := by decide +kernel
theorem dX2_top_1 : decode cX2_top 1 = .ok (.aload_n 0, 1) := by decide +kernel
theorem dX2_top_2 : decode cX2_top 2 = .ok (.getfield 15, 3) := by decide +kernel
theorem dX2_top_5 : decode cX2_top 5 = .ok (.ishl, 1) := by decide +kernel
theorem dX2_top_6 : decode cX2_top 6 = .ok (.iconst 1, 1) := by decide +kernel
theorem dX2_top_7 : decode cX2_top 7 = .ok (.isub, 1) := by decide +kernel
theorem dX2_top_8 : decode cX2_top 8 = .ok (.ireturn, 1) := by decide +kernel
set_option maxRecDepth 20000 in
theorem ggX2_reach_X2_top : GoodIn wsX2_reach wsX2_top := goodIn_r _ [6, 7, 11, 12, 13, 14] (by decide +kernel) (by decide +kernel)
set_option maxRecDepth 20000 in
theorem gX2_reach_X2_top : GoodIn wsX2_reach (wsV RX2 46 RX2 yX2_top wsX2_top) := goodIn_app (goodIn_of _ (by decide +kernel)) ggX2_reach_X2_top
set_option maxRecDepth 20000 in
theorem ggX2_reach_X5_cut : GoodIn wsX2_reach wsX5_cut := goodIn_r _ [10] (by decide +kernel) (by decide +kernel)
set_option maxRecDepth 20000 in
theorem gX2_reach_X5_cut_n50 : GoodIn wsX2_reach (wsX5_cut) := ggX2_reach_X5_cut
theorem dX2_reach_0 : decode cX2_reach 0 = .ok (.aload_n 0, 1) := by decide +kernel
theorem dX2_reach_1 : decode cX2_reach 1 = .ok (.invokevirtual 46, 3) := by decide +kernel
theorem dX2_reach_4 : decode cX2_reach 4 = .ok (.i2l, 1) := by decide +kernel
theorem dX2_reach_5 : decode cX2_reach 5 = .ok (.aload_n 0, 1) := by decide +kernel
theorem dX2_reach_6 : decode cX2_reach 6 = .ok (.getfield 9, 3) := by decide +kernel
theorem dX2_reach_9 : decode cX2_reach 9 = .ok (.invokestatic 50, 3) := by decide +kernel
theorem dX2_reach_12 : decode cX2_reach 12 = .ok (.l2i, 1) := by decide +kernel
theorem dX2_reach_13 : decode cX2_reach 13 = .ok (.ireturn, 1) := by decide +kernel
theorem dX2_strikeCount_0 : decode cX2_strikeCount 0 = .ok (.iconst 2, 1) := by decide +kernel
theorem dX2_strikeCount_1 : decode cX2_strikeCount 1 = .ok (.aload_n 0, 1) := by decide +kernel
theorem dX2_strikeCount_2 : decode cX2_strikeCount 2 = .ok (.getfield 15, 3) := by decide +kernel
theorem dX2_strikeCount_5 : decode cX2_strikeCount 5 = .ok (.imul, 1) := by decide +kernel
theorem dX2_strikeCount_6 : decode cX2_strikeCount 6 = .ok (.ireturn, 1) := by decide +kernel
set_option maxRecDepth 20000 in
theorem ggX2_reaches_X2_reach : GoodIn wsX2_reaches wsX2_reach := goodIn_r _ [5, 6, 7, 8, 9, 4, 10, 11, 12, 13, 14, 15, 16, 17, 18] (by decide +kernel) (by decide +kernel)
set_option maxRecDepth 20000 in
theorem gX2_reaches_X2_reach : GoodIn wsX2_reaches (wsV RX2 54 RX2 yX2_reach wsX2_reach) := goodIn_app (goodIn_of _ (by decide +kernel)) ggX2_reaches_X2_reach
theorem dX2_reaches_0 : decode cX2_reaches 0 = .ok (.iload_n 1, 1) := by decide +kernel
theorem dX2_reaches_1 : decode cX2_reaches 1 = .ok (.aload_n 0, 1) := by decide +kernel
theorem dX2_reaches_2 : decode cX2_reaches 2 = .ok (.invokevirtual 54, 3) := by decide +kernel
theorem dX2_reaches_5 : decode cX2_reaches 5 = .ok (.ineg, 1) := by decide +kernel
theorem dX2_reaches_6 : decode cX2_reaches 6 = .ok (.if_icmp .lt 15, 3) := by decide +kernel
theorem dX2_reaches_9 : decode cX2_reaches 9 = .ok (.iload_n 1, 1) := by decide +kernel
theorem dX2_reaches_10 : decode cX2_reaches 10 = .ok (.aload_n 0, 1) := by decide +kernel
theorem dX2_reaches_11 : decode cX2_reaches 11 = .ok (.invokevirtual 54, 3) := by decide +kernel
theorem dX2_reaches_14 : decode cX2_reaches 14 = .ok (.if_icmp .gt 7, 3) := by decide +kernel
theorem dX2_reaches_17 : decode cX2_reaches 17 = .ok (.iconst 1, 1) := by decide +kernel
theorem dX2_reaches_18 : decode cX2_reaches 18 = .ok (.goto 4, 3) := by decide +kernel
theorem dX2_reaches_21 : decode cX2_reaches 21 = .ok (.iconst 0, 1) := by decide +kernel
theorem dX2_reaches_22 : decode cX2_reaches 22 = .ok (.ireturn, 1) := by decide +kernel
set_option maxRecDepth 20000 in
theorem ggX2_fits_X5_rest : GoodIn wsX2_fits wsX5_rest := goodIn_r _ [4, 5, 6, 7, 8] (by decide +kernel) (by decide +kernel)
set_option maxRecDepth 20000 in
theorem gX2_fits_X5_rest_n57 : GoodIn wsX2_fits (wsX5_rest) := ggX2_fits_X5_rest
theorem dX2_fits_0 : decode cX2_fits 0 = .ok (.iload_n 1, 1) := by decide +kernel
theorem dX2_fits_1 : decode cX2_fits 1 = .ok (.aload_n 0, 1) := by decide +kernel
theorem dX2_fits_2 : decode cX2_fits 2 = .ok (.getfield 9, 3) := by decide +kernel
theorem dX2_fits_5 : decode cX2_fits 5 = .ok (.invokestatic 57, 3) := by decide +kernel
theorem dX2_fits_8 : decode cX2_fits 8 = .ok (.ifCond .ne 7, 3) := by decide +kernel
theorem dX2_fits_11 : decode cX2_fits 11 = .ok (.iconst 1, 1) := by decide +kernel
theorem dX2_fits_12 : decode cX2_fits 12 = .ok (.goto 4, 3) := by decide +kernel
theorem dX2_fits_15 : decode cX2_fits 15 = .ok (.iconst 0, 1) := by decide +kernel
theorem dX2_fits_16 : decode cX2_fits 16 = .ok (.ireturn, 1) := by decide +kernel
set_option maxRecDepth 20000 in
theorem ggX2_valueOf_X5_cut : GoodIn wsX2_valueOf wsX5_cut := goodIn_r _ [4] (by decide +kernel) (by decide +kernel)
set_option maxRecDepth 20000 in
theorem gX2_valueOf_X5_cut_n50 : GoodIn wsX2_valueOf (wsX5_cut) := ggX2_valueOf_X5_cut
theorem dX2_valueOf_0 : decode cX2_valueOf 0 = .ok (.iload_n 1, 1) := by decide +kernel
theorem dX2_valueOf_1 : decode cX2_valueOf 1 = .ok (.i2l, 1) := by decide +kernel
theorem dX2_valueOf_2 : decode cX2_valueOf 2 = .ok (.aload_n 0, 1) := by decide +kernel
theorem dX2_valueOf_3 : decode cX2_valueOf 3 = .ok (.getfield 9, 3) := by decide +kernel
theorem dX2_valueOf_6 : decode cX2_valueOf 6 = .ok (.invokestatic 50, 3) := by decide +kernel
theorem dX2_valueOf_9 : decode cX2_valueOf 9 = .ok (.l2i, 1) := by decide +kernel
theorem dX2_valueOf_10 : decode cX2_valueOf 10 = .ok (.ireturn, 1) := by decide +kernel
set_option maxRecDepth 20000 in
theorem ggX2_dueResidue_X2_valueOf : GoodIn wsX2_dueResidue wsX2_valueOf := goodIn_r _ [5, 6, 7, 8, 9, 16, 17, 18, 19] (by decide +kernel) (by decide +kernel)
set_option maxRecDepth 20000 in
theorem gX2_dueResidue_X2_valueOf : GoodIn wsX2_dueResidue (wsV RX2 61 RX2 yX2_valueOf wsX2_valueOf) := goodIn_app (goodIn_of _ (by decide +kernel)) ggX2_dueResidue_X2_valueOf
set_option maxRecDepth 20000 in
theorem ggX2_dueResidue_X5_rest : GoodIn wsX2_dueResidue wsX5_rest := goodIn_r _ [11, 12, 13, 14, 15] (by decide +kernel) (by decide +kernel)
set_option maxRecDepth 20000 in
theorem gX2_dueResidue_X5_rest_n57 : GoodIn wsX2_dueResidue (wsX5_rest) := ggX2_dueResidue_X5_rest
theorem dX2_dueResidue_0 : decode cX2_dueResidue 0 = .ok (.aload_n 0, 1) := by decide +kernel
theorem dX2_dueResidue_1 : decode cX2_dueResidue 1 = .ok (.iload_n 1, 1) := by decide +kernel
theorem dX2_dueResidue_2 : decode cX2_dueResidue 2 = .ok (.invokevirtual 61, 3) := by decide +kernel
theorem dX2_dueResidue_5 : decode cX2_dueResidue 5 = .ok (.bipush 15, 2) := by decide +kernel
theorem dX2_dueResidue_7 : decode cX2_dueResidue 7 = .ok (.invokestatic 57, 3) := by decide +kernel
theorem dX2_dueResidue_10 : decode cX2_dueResidue 10 = .ok (.ireturn, 1) := by decide +kernel
set_option maxRecDepth 20000 in
theorem ggX2_isSound_X2_fits : GoodIn wsX2_isSound wsX2_fits := goodIn_r _ [5, 6, 7, 8, 9, 10, 11, 12, 13, 19, 20, 21, 22] (by decide +kernel) (by decide +kernel)
set_option maxRecDepth 20000 in
theorem gX2_isSound_X2_fits : GoodIn wsX2_isSound (wsV RX2 64 RX2 yX2_fits wsX2_fits) := goodIn_app (goodIn_of _ (by decide +kernel)) ggX2_isSound_X2_fits
set_option maxRecDepth 20000 in
theorem ggX2_isSound_X2_top : GoodIn wsX2_isSound wsX2_top := goodIn_r _ [17, 18, 19, 20, 21, 22] (by decide +kernel) (by decide +kernel)
set_option maxRecDepth 20000 in
theorem gX2_isSound_X2_top : GoodIn wsX2_isSound (wsV RX2 46 RX2 yX2_top wsX2_top) := goodIn_app (goodIn_of _ (by decide +kernel)) ggX2_isSound_X2_top
theorem dX2_isSound_0 : decode cX2_isSound 0 = .ok (.aload_n 0, 1) := by decide +kernel
theorem dX2_isSound_1 : decode cX2_isSound 1 = .ok (.iload_n 1, 1) := by decide +kernel
theorem dX2_isSound_2 : decode cX2_isSound 2 = .ok (.invokevirtual 64, 3) := by decide +kernel
theorem dX2_isSound_5 : decode cX2_isSound 5 = .ok (.ifCond .eq 24, 3) := by decide +kernel
theorem dX2_isSound_8 : decode cX2_isSound 8 = .ok (.iload_n 1, 1) := by decide +kernel
theorem dX2_isSound_9 : decode cX2_isSound 9 = .ok (.aload_n 0, 1) := by decide +kernel
theorem dX2_isSound_10 : decode cX2_isSound 10 = .ok (.invokevirtual 46, 3) := by decide +kernel
theorem dX2_isSound_13 : decode cX2_isSound 13 = .ok (.ineg, 1) := by decide +kernel
theorem dX2_isSound_14 : decode cX2_isSound 14 = .ok (.if_icmp .lt 15, 3) := by decide +kernel
theorem dX2_isSound_17 : decode cX2_isSound 17 = .ok (.iload_n 1, 1) := by decide +kernel
theorem dX2_isSound_18 : decode cX2_isSound 18 = .ok (.aload_n 0, 1) := by decide +kernel
theorem dX2_isSound_19 : decode cX2_isSound 19 = .ok (.invokevirtual 46, 3) := by decide +kernel
theorem dX2_isSound_22 : decode cX2_isSound 22 = .ok (.if_icmp .gt 7, 3) := by decide +kernel
theorem dX2_isSound_25 : decode cX2_isSound 25 = .ok (.iconst 1, 1) := by decide +kernel
theorem dX2_isSound_26 : decode cX2_isSound 26 = .ok (.goto 4, 3) := by decide +kernel
theorem dX2_isSound_29 : decode cX2_isSound 29 = .ok (.iconst 0, 1) := by decide +kernel
theorem dX2_isSound_30 : decode cX2_isSound 30 = .ok (.ireturn, 1) := by decide +kernel
set_option maxRecDepth 20000 in
theorem ggX2_isRight_X2_isSound : GoodIn wsX2_isRight wsX2_isSound := goodIn_r _ [5, 6, 7, 8, 4, 9, 10, 11, 12, 13, 14, 15, 16, 17, 18, 19, 20, 21, 22, 33, 34, 35, 36] (by decide +kernel) (by decide +kernel)
set_option maxRecDepth 20000 in
theorem gX2_isRight_X2_isSound : GoodIn wsX2_isRight (wsV RX2 67 RX2 yX2_isSound wsX2_isSound) := goodIn_app (goodIn_of _ (by decide +kernel)) ggX2_isRight_X2_isSound
set_option maxRecDepth 20000 in
theorem ggX2_isRight_X2_dueResidue : GoodIn wsX2_isRight wsX2_dueResidue := goodIn_r _ [26, 27, 28, 29, 4, 30, 10, 31, 12, 32, 11, 13, 14, 15, 16, 17, 33, 34, 35, 36] (by decide +kernel) (by decide +kernel)
set_option maxRecDepth 20000 in
theorem gX2_isRight_X2_dueResidue : GoodIn wsX2_isRight (wsV RX2 70 RX2 yX2_dueResidue wsX2_dueResidue) := goodIn_app (goodIn_of _ (by decide +kernel)) ggX2_isRight_X2_dueResidue
theorem dX2_isRight_0 : decode cX2_isRight 0 = .ok (.aload_n 0, 1) := by decide +kernel
theorem dX2_isRight_1 : decode cX2_isRight 1 = .ok (.iload_n 1, 1) := by decide +kernel
theorem dX2_isRight_2 : decode cX2_isRight 2 = .ok (.invokevirtual 67, 3) := by decide +kernel
theorem dX2_isRight_5 : decode cX2_isRight 5 = .ok (.ifCond .eq 16, 3) := by decide +kernel
theorem dX2_isRight_8 : decode cX2_isRight 8 = .ok (.aload_n 0, 1) := by decide +kernel
theorem dX2_isRight_9 : decode cX2_isRight 9 = .ok (.iload_n 1, 1) := by decide +kernel
theorem dX2_isRight_10 : decode cX2_isRight 10 = .ok (.invokevirtual 70, 3) := by decide +kernel
theorem dX2_isRight_13 : decode cX2_isRight 13 = .ok (.iload_n 2, 1) := by decide +kernel
theorem dX2_isRight_14 : decode cX2_isRight 14 = .ok (.if_icmp .ne 7, 3) := by decide +kernel
theorem dX2_isRight_17 : decode cX2_isRight 17 = .ok (.iconst 1, 1) := by decide +kernel
theorem dX2_isRight_18 : decode cX2_isRight 18 = .ok (.goto 4, 3) := by decide +kernel
theorem dX2_isRight_21 : decode cX2_isRight 21 = .ok (.iconst 0, 1) := by decide +kernel
theorem dX2_isRight_22 : decode cX2_isRight 22 = .ok (.ireturn, 1) := by decide +kernel
set_option maxRecDepth 20000 in
theorem ggX2_registersRight_X2_wordOf : GoodIn wsX2_registersRight wsX2_wordOf := goodIn_r _ [5, 6, 7, 8, 9, 49, 50, 51, 52] (by decide +kernel) (by decide +kernel)
set_option maxRecDepth 20000 in
theorem gX2_registersRight_X2_wordOf : GoodIn wsX2_registersRight (wsV RX2 31 RX2 yX2_wordOf wsX2_wordOf) := goodIn_app (goodIn_of _ (by decide +kernel)) ggX2_registersRight_X2_wordOf
set_option maxRecDepth 20000 in
theorem ggX2_registersRight_X2_residueOf : GoodIn wsX2_registersRight wsX2_residueOf := goodIn_r _ [13, 14, 7, 8, 9, 49, 50, 51, 52] (by decide +kernel) (by decide +kernel)
set_option maxRecDepth 20000 in
theorem gX2_registersRight_X2_residueOf : GoodIn wsX2_registersRight (wsV RX2 35 RX2 yX2_residueOf wsX2_residueOf) := goodIn_app (goodIn_of _ (by decide +kernel)) ggX2_registersRight_X2_residueOf
set_option maxRecDepth 20000 in
theorem ggX2_registersRight_X2_isRight : GoodIn wsX2_registersRight wsX2_isRight := goodIn_r _ [18, 19, 20, 21, 4, 22, 23, 24, 25, 26, 27, 28, 8, 29, 30, 31, 32, 33, 34, 35, 36, 37, 38, 39, 40, 41, 42, 43, 44, 45, 46, 47, 48, 49, 50, 51, 52] (by decide +kernel) (by decide +kernel)
set_option maxRecDepth 20000 in
theorem gX2_registersRight_X2_isRight : GoodIn wsX2_registersRight (wsV RX2 73 RX2 yX2_isRight wsX2_isRight) := goodIn_app (goodIn_of _ (by decide +kernel)) ggX2_registersRight_X2_isRight
theorem dX2_registersRight_0 : decode cX2_registersRight 0 = .ok (.iconst 0, 1) := by decide +kernel
theorem dX2_registersRight_1 : decode cX2_registersRight 1 = .ok (.istore_n 1, 1) := by decide +kernel
theorem dX2_registersRight_2 : decode cX2_registersRight 2 = .ok (.iconst 0, 1) := by decide +kernel
theorem dX2_registersRight_3 : decode cX2_registersRight 3 = .ok (.istore_n 2, 1) := by decide +kernel
theorem dX2_registersRight_4 : decode cX2_registersRight 4 = .ok (.iload_n 2, 1) := by decide +kernel
theorem dX2_registersRight_5 : decode cX2_registersRight 5 = .ok (.iconst 4, 1) := by decide +kernel
theorem dX2_registersRight_6 : decode cX2_registersRight 6 = .ok (.if_icmp .ge 29, 3) := by decide +kernel
theorem dX2_registersRight_9 : decode cX2_registersRight 9 = .ok (.aload_n 0, 1) := by decide +kernel
theorem dX2_registersRight_10 : decode cX2_registersRight 10 = .ok (.aload_n 0, 1) := by decide +kernel
theorem dX2_registersRight_11 : decode cX2_registersRight 11 = .ok (.iload_n 2, 1) := by decide +kernel
theorem dX2_registersRight_12 : decode cX2_registersRight 12 = .ok (.invokevirtual 31, 3) := by decide +kernel
theorem dX2_registersRight_15 : decode cX2_registersRight 15 = .ok (.aload_n 0, 1) := by decide +kernel
theorem dX2_registersRight_16 : decode cX2_registersRight 16 = .ok (.iload_n 2, 1) := by decide +kernel
theorem dX2_registersRight_17 : decode cX2_registersRight 17 = .ok (.invokevirtual 35, 3) := by decide +kernel
theorem dX2_registersRight_20 : decode cX2_registersRight 20 = .ok (.invokevirtual 73, 3) := by decide +kernel
theorem dX2_registersRight_23 : decode cX2_registersRight 23 = .ok (.ifCond .eq 6, 3) := by decide +kernel
theorem dX2_registersRight_26 : decode cX2_registersRight 26 = .ok (.iinc 1 1, 3) := by decide +kernel
theorem dX2_registersRight_29 : decode cX2_registersRight 29 = .ok (.iinc 2 1, 3) := by decide +kernel
theorem dX2_registersRight_32 : decode cX2_registersRight 32 = .ok (.goto (-28), 3) := by decide +kernel
theorem dX2_registersRight_35 : decode cX2_registersRight 35 = .ok (.iload_n 1, 1) := by decide +kernel
theorem dX2_registersRight_36 : decode cX2_registersRight 36 = .ok (.ireturn, 1) := by decide +kernel
set_option maxRecDepth 20000 in
theorem ggX2_canHalve_X2_wordOf : GoodIn wsX2_canHalve wsX2_wordOf := goodIn_r _ [5, 6, 7, 8, 9, 27, 28, 29, 30] (by decide +kernel) (by decide +kernel)
set_option maxRecDepth 20000 in
theorem gX2_canHalve_X2_wordOf : GoodIn wsX2_canHalve (wsV RX2 31 RX2 yX2_wordOf wsX2_wordOf) := goodIn_app (goodIn_of _ (by decide +kernel)) ggX2_canHalve_X2_wordOf
set_option maxRecDepth 20000 in
theorem ggX2_canHalve_X2_fits : GoodIn wsX2_canHalve wsX2_fits := goodIn_r _ [13, 14, 15, 8, 16, 17, 18, 19, 20, 27, 28, 29, 30] (by decide +kernel) (by decide +kernel)
set_option maxRecDepth 20000 in
theorem gX2_canHalve_X2_fits : GoodIn wsX2_canHalve (wsV RX2 64 RX2 yX2_fits wsX2_fits) := goodIn_app (goodIn_of _ (by decide +kernel)) ggX2_canHalve_X2_fits
set_option maxRecDepth 20000 in
theorem ggX2_canHalve_X2_valueOf : GoodIn wsX2_canHalve wsX2_valueOf := goodIn_r _ [24, 14, 25, 8, 26, 27, 28, 29, 30] (by decide +kernel) (by decide +kernel)
set_option maxRecDepth 20000 in
theorem gX2_canHalve_X2_valueOf : GoodIn wsX2_canHalve (wsV RX2 61 RX2 yX2_valueOf wsX2_valueOf) := goodIn_app (goodIn_of _ (by decide +kernel)) ggX2_canHalve_X2_valueOf
theorem dX2_canHalve_0 : decode cX2_canHalve 0 = .ok (.aload_n 0, 1) := by decide +kernel
theorem dX2_canHalve_1 : decode cX2_canHalve 1 = .ok (.iload_n 1, 1) := by decide +kernel
theorem dX2_canHalve_2 : decode cX2_canHalve 2 = .ok (.invokevirtual 31, 3) := by decide +kernel
theorem dX2_canHalve_5 : decode cX2_canHalve 5 = .ok (.istore_n 2, 1) := by decide +kernel
theorem dX2_canHalve_6 : decode cX2_canHalve 6 = .ok (.aload_n 0, 1) := by decide +kernel
theorem dX2_canHalve_7 : decode cX2_canHalve 7 = .ok (.iload_n 2, 1) := by decide +kernel
theorem dX2_canHalve_8 : decode cX2_canHalve 8 = .ok (.invokevirtual 64, 3) := by decide +kernel
theorem dX2_canHalve_11 : decode cX2_canHalve 11 = .ok (.ifCond .eq 17, 3) := by decide +kernel
theorem dX2_canHalve_14 : decode cX2_canHalve 14 = .ok (.aload_n 0, 1) := by decide +kernel
theorem dX2_canHalve_15 : decode cX2_canHalve 15 = .ok (.iload_n 2, 1) := by decide +kernel
theorem dX2_canHalve_16 : decode cX2_canHalve 16 = .ok (.invokevirtual 61, 3) := by decide +kernel
theorem dX2_canHalve_19 : decode cX2_canHalve 19 = .ok (.iconst 2, 1) := by decide +kernel
theorem dX2_canHalve_20 : decode cX2_canHalve 20 = .ok (.irem, 1) := by decide +kernel
theorem dX2_canHalve_21 : decode cX2_canHalve 21 = .ok (.ifCond .ne 7, 3) := by decide +kernel
theorem dX2_canHalve_24 : decode cX2_canHalve 24 = .ok (.iconst 1, 1) := by decide +kernel
theorem dX2_canHalve_25 : decode cX2_canHalve 25 = .ok (.goto 4, 3) := by decide +kernel
theorem dX2_canHalve_28 : decode cX2_canHalve 28 = .ok (.iconst 0, 1) := by decide +kernel
theorem dX2_canHalve_29 : decode cX2_canHalve 29 = .ok (.ireturn, 1) := by decide +kernel
set_option maxRecDepth 20000 in
theorem ggX2_causesOf_X2_wordOf : GoodIn wsX2_causesOf wsX2_wordOf := goodIn_r _ [5, 6, 7, 8, 9, 55, 56, 57, 58] (by decide +kernel) (by decide +kernel)
set_option maxRecDepth 20000 in
theorem gX2_causesOf_X2_wordOf : GoodIn wsX2_causesOf (wsV RX2 31 RX2 yX2_wordOf wsX2_wordOf) := goodIn_app (goodIn_of _ (by decide +kernel)) ggX2_causesOf_X2_wordOf
set_option maxRecDepth 20000 in
theorem ggX2_causesOf_X2_isSound : GoodIn wsX2_causesOf wsX2_isSound := goodIn_r _ [13, 14, 15, 16, 4, 17, 18, 19, 8, 20, 21, 22, 23, 24, 25, 26, 27, 28, 29, 55, 56, 57, 58] (by decide +kernel) (by decide +kernel)
set_option maxRecDepth 20000 in
theorem gX2_causesOf_X2_isSound : GoodIn wsX2_causesOf (wsV RX2 67 RX2 yX2_isSound wsX2_isSound) := goodIn_app (goodIn_of _ (by decide +kernel)) ggX2_causesOf_X2_isSound
set_option maxRecDepth 20000 in
theorem ggX2_causesOf_X2_strikeCount : GoodIn wsX2_causesOf wsX2_strikeCount := goodIn_r _ [33, 29, 55, 56, 57, 58] (by decide +kernel) (by decide +kernel)
set_option maxRecDepth 20000 in
theorem gX2_causesOf_X2_strikeCount : GoodIn wsX2_causesOf (wsV RX2 77 RX2 yX2_strikeCount wsX2_strikeCount) := goodIn_app (goodIn_of _ (by decide +kernel)) ggX2_causesOf_X2_strikeCount
set_option maxRecDepth 20000 in
theorem ggX2_causesOf_X5_change : GoodIn wsX2_causesOf wsX5_change := goodIn_r _ [35] (by decide +kernel) (by decide +kernel)
set_option maxRecDepth 20000 in
theorem gX2_causesOf_X5_change_n80 : GoodIn wsX2_causesOf (wsX5_change) := ggX2_causesOf_X5_change
set_option maxRecDepth 20000 in
theorem ggX2_causesOf_X2_residueOf : GoodIn wsX2_causesOf wsX2_residueOf := goodIn_r _ [39, 40, 7, 8, 9, 55, 56, 57, 58] (by decide +kernel) (by decide +kernel)
set_option maxRecDepth 20000 in
theorem gX2_causesOf_X2_residueOf : GoodIn wsX2_causesOf (wsV RX2 35 RX2 yX2_residueOf wsX2_residueOf) := goodIn_app (goodIn_of _ (by decide +kernel)) ggX2_causesOf_X2_residueOf
set_option maxRecDepth 20000 in
theorem ggX2_causesOf_X2_isRight : GoodIn wsX2_causesOf wsX2_isRight := goodIn_r _ [44, 10, 11, 12, 4, 13, 14, 15, 16, 17, 18, 19, 8, 20, 21, 22, 23, 24, 25, 26, 27, 28, 29, 45, 46, 47, 48, 49, 50, 51, 52, 53, 54, 55, 56, 57, 58] (by decide +kernel) (by decide +kernel)
set_option maxRecDepth 20000 in
theorem gX2_causesOf_X2_isRight : GoodIn wsX2_causesOf (wsV RX2 73 RX2 yX2_isRight wsX2_isRight) := goodIn_app (goodIn_of _ (by decide +kernel)) ggX2_causesOf_X2_isRight
theorem dX2_causesOf_0 : decode cX2_causesOf 0 = .ok (.aload_n 0, 1) := by decide +kernel
theorem dX2_causesOf_1 : decode cX2_causesOf 1 = .ok (.aload_n 0, 1) := by decide +kernel
theorem dX2_causesOf_2 : decode cX2_causesOf 2 = .ok (.iload_n 1, 1) := by decide +kernel
theorem dX2_causesOf_3 : decode cX2_causesOf 3 = .ok (.invokevirtual 31, 3) := by decide +kernel
theorem dX2_causesOf_6 : decode cX2_causesOf 6 = .ok (.invokevirtual 67, 3) := by decide +kernel
theorem dX2_causesOf_9 : decode cX2_causesOf 9 = .ok (.ifCond .eq 5, 3) := by decide +kernel
theorem dX2_causesOf_12 : decode cX2_causesOf 12 = .ok (.iconst 0, 1) := by decide +kernel
theorem dX2_causesOf_13 : decode cX2_causesOf 13 = .ok (.ireturn, 1) := by decide +kernel
theorem dX2_causesOf_14 : decode cX2_causesOf 14 = .ok (.iconst 0, 1) := by decide +kernel
theorem dX2_causesOf_15 : decode cX2_causesOf 15 = .ok (.istore_n 2, 1) := by decide +kernel
theorem dX2_causesOf_16 : decode cX2_causesOf 16 = .ok (.iconst 0, 1) := by decide +kernel
theorem dX2_causesOf_17 : decode cX2_causesOf 17 = .ok (.istore_n 3, 1) := by decide +kernel
theorem dX2_causesOf_18 : decode cX2_causesOf 18 = .ok (.iload_n 3, 1) := by decide +kernel
theorem dX2_causesOf_19 : decode cX2_causesOf 19 = .ok (.aload_n 0, 1) := by decide +kernel
theorem dX2_causesOf_20 : decode cX2_causesOf 20 = .ok (.invokevirtual 77, 3) := by decide +kernel
theorem dX2_causesOf_23 : decode cX2_causesOf 23 = .ok (.if_icmp .ge 34, 3) := by decide +kernel
theorem dX2_causesOf_26 : decode cX2_causesOf 26 = .ok (.aload_n 0, 1) := by decide +kernel
theorem dX2_causesOf_27 : decode cX2_causesOf 27 = .ok (.aload_n 0, 1) := by decide +kernel
theorem dX2_causesOf_28 : decode cX2_causesOf 28 = .ok (.iload_n 1, 1) := by decide +kernel
theorem dX2_causesOf_29 : decode cX2_causesOf 29 = .ok (.invokevirtual 31, 3) := by decide +kernel
theorem dX2_causesOf_32 : decode cX2_causesOf 32 = .ok (.iload_n 3, 1) := by decide +kernel
theorem dX2_causesOf_33 : decode cX2_causesOf 33 = .ok (.invokestatic 80, 3) := by decide +kernel
theorem dX2_causesOf_36 : decode cX2_causesOf 36 = .ok (.isub, 1) := by decide +kernel
theorem dX2_causesOf_37 : decode cX2_causesOf 37 = .ok (.aload_n 0, 1) := by decide +kernel
theorem dX2_causesOf_38 : decode cX2_causesOf 38 = .ok (.iload_n 1, 1) := by decide +kernel
theorem dX2_causesOf_39 : decode cX2_causesOf 39 = .ok (.invokevirtual 35, 3) := by decide +kernel
theorem dX2_causesOf_42 : decode cX2_causesOf 42 = .ok (.invokevirtual 73, 3) := by decide +kernel
theorem dX2_causesOf_45 : decode cX2_causesOf 45 = .ok (.ifCond .eq 6, 3) := by decide +kernel
theorem dX2_causesOf_48 : decode cX2_causesOf 48 = .ok (.iinc 2 1, 3) := by decide +kernel
theorem dX2_causesOf_51 : decode cX2_causesOf 51 = .ok (.iinc 3 1, 3) := by decide +kernel
theorem dX2_causesOf_54 : decode cX2_causesOf 54 = .ok (.goto (-36), 3) := by decide +kernel
theorem dX2_causesOf_57 : decode cX2_causesOf 57 = .ok (.iload_n 2, 1) := by decide +kernel
theorem dX2_causesOf_58 : decode cX2_causesOf 58 = .ok (.ireturn, 1) := by decide +kernel
set_option maxRecDepth 20000 in
theorem ggX2_onlyCauseOf_X2_causesOf : GoodIn wsX2_onlyCauseOf wsX2_causesOf := goodIn_r _ [6, 7, 8, 9, 5, 10, 11, 12, 13, 14, 15, 16, 17, 18, 19, 20, 21, 22, 23, 24, 25, 26, 27, 28, 29, 30, 31, 32, 33, 34, 35, 36, 37, 38, 39, 40, 41, 42, 43, 44, 45, 46, 47, 48, 49, 50, 51, 52, 53, 54, 55, 56, 57, 58, 59, 60, 61, 62, 63] (by decide +kernel) (by decide +kernel)
set_option maxRecDepth 20000 in
theorem gX2_onlyCauseOf_X2_causesOf : GoodIn wsX2_onlyCauseOf (wsV RX2 83 RX2 yX2_causesOf wsX2_causesOf) := goodIn_app (goodIn_of _ (by decide +kernel)) ggX2_onlyCauseOf_X2_causesOf
set_option maxRecDepth 20000 in
theorem ggX2_onlyCauseOf_X2_strikeCount : GoodIn wsX2_onlyCauseOf wsX2_strikeCount := goodIn_r _ [38, 34, 60, 61, 62, 63] (by decide +kernel) (by decide +kernel)
set_option maxRecDepth 20000 in
theorem gX2_onlyCauseOf_X2_strikeCount : GoodIn wsX2_onlyCauseOf (wsV RX2 77 RX2 yX2_strikeCount wsX2_strikeCount) := goodIn_app (goodIn_of _ (by decide +kernel)) ggX2_onlyCauseOf_X2_strikeCount
set_option maxRecDepth 20000 in
theorem ggX2_onlyCauseOf_X2_wordOf : GoodIn wsX2_onlyCauseOf wsX2_wordOf := goodIn_r _ [10, 11, 12, 13, 14, 60, 61, 62, 63] (by decide +kernel) (by decide +kernel)
set_option maxRecDepth 20000 in
theorem gX2_onlyCauseOf_X2_wordOf : GoodIn wsX2_onlyCauseOf (wsV RX2 31 RX2 yX2_wordOf wsX2_wordOf) := goodIn_app (goodIn_of _ (by decide +kernel)) ggX2_onlyCauseOf_X2_wordOf
set_option maxRecDepth 20000 in
theorem ggX2_onlyCauseOf_X5_change : GoodIn wsX2_onlyCauseOf wsX5_change := goodIn_r _ [40] (by decide +kernel) (by decide +kernel)
set_option maxRecDepth 20000 in
theorem gX2_onlyCauseOf_X5_change_n80 : GoodIn wsX2_onlyCauseOf (wsX5_change) := ggX2_onlyCauseOf_X5_change
set_option maxRecDepth 20000 in
theorem ggX2_onlyCauseOf_X2_residueOf : GoodIn wsX2_onlyCauseOf wsX2_residueOf := goodIn_r _ [44, 45, 12, 13, 14, 60, 61, 62, 63] (by decide +kernel) (by decide +kernel)
set_option maxRecDepth 20000 in
theorem gX2_onlyCauseOf_X2_residueOf : GoodIn wsX2_onlyCauseOf (wsV RX2 35 RX2 yX2_residueOf wsX2_residueOf) := goodIn_app (goodIn_of _ (by decide +kernel)) ggX2_onlyCauseOf_X2_residueOf
set_option maxRecDepth 20000 in
theorem ggX2_onlyCauseOf_X2_isRight : GoodIn wsX2_onlyCauseOf wsX2_isRight := goodIn_r _ [49, 15, 16, 17, 5, 18, 19, 20, 21, 22, 23, 24, 13, 25, 26, 27, 28, 29, 30, 31, 32, 33, 34, 50, 51, 52, 53, 54, 55, 56, 57, 58, 59, 60, 61, 62, 63] (by decide +kernel) (by decide +kernel)
set_option maxRecDepth 20000 in
theorem gX2_onlyCauseOf_X2_isRight : GoodIn wsX2_onlyCauseOf (wsV RX2 73 RX2 yX2_isRight wsX2_isRight) := goodIn_app (goodIn_of _ (by decide +kernel)) ggX2_onlyCauseOf_X2_isRight
theorem dX2_onlyCauseOf_0 : decode cX2_onlyCauseOf 0 = .ok (.aload_n 0, 1) := by decide +kernel
theorem dX2_onlyCauseOf_1 : decode cX2_onlyCauseOf 1 = .ok (.iload_n 1, 1) := by decide +kernel
theorem dX2_onlyCauseOf_2 : decode cX2_onlyCauseOf 2 = .ok (.invokevirtual 83, 3) := by decide +kernel
theorem dX2_onlyCauseOf_5 : decode cX2_onlyCauseOf 5 = .ok (.iconst 1, 1) := by decide +kernel
theorem dX2_onlyCauseOf_6 : decode cX2_onlyCauseOf 6 = .ok (.if_icmp .eq 6, 3) := by decide +kernel
theorem dX2_onlyCauseOf_9 : decode cX2_onlyCauseOf 9 = .ok (.ldc 86, 2) := by decide +kernel
theorem dX2_onlyCauseOf_11 : decode cX2_onlyCauseOf 11 = .ok (.ireturn, 1) := by decide +kernel
theorem dX2_onlyCauseOf_12 : decode cX2_onlyCauseOf 12 = .ok (.iconst 0, 1) := by decide +kernel
theorem dX2_onlyCauseOf_13 : decode cX2_onlyCauseOf 13 = .ok (.istore_n 2, 1) := by decide +kernel
theorem dX2_onlyCauseOf_14 : decode cX2_onlyCauseOf 14 = .ok (.iload_n 2, 1) := by decide +kernel
theorem dX2_onlyCauseOf_15 : decode cX2_onlyCauseOf 15 = .ok (.aload_n 0, 1) := by decide +kernel
theorem dX2_onlyCauseOf_16 : decode cX2_onlyCauseOf 16 = .ok (.invokevirtual 77, 3) := by decide +kernel
theorem dX2_onlyCauseOf_19 : decode cX2_onlyCauseOf 19 = .ok (.if_icmp .ge 33, 3) := by decide +kernel
theorem dX2_onlyCauseOf_22 : decode cX2_onlyCauseOf 22 = .ok (.aload_n 0, 1) := by decide +kernel
theorem dX2_onlyCauseOf_23 : decode cX2_onlyCauseOf 23 = .ok (.aload_n 0, 1) := by decide +kernel
theorem dX2_onlyCauseOf_24 : decode cX2_onlyCauseOf 24 = .ok (.iload_n 1, 1) := by decide +kernel
theorem dX2_onlyCauseOf_25 : decode cX2_onlyCauseOf 25 = .ok (.invokevirtual 31, 3) := by decide +kernel
theorem dX2_onlyCauseOf_28 : decode cX2_onlyCauseOf 28 = .ok (.iload_n 2, 1) := by decide +kernel
theorem dX2_onlyCauseOf_29 : decode cX2_onlyCauseOf 29 = .ok (.invokestatic 80, 3) := by decide +kernel
theorem dX2_onlyCauseOf_32 : decode cX2_onlyCauseOf 32 = .ok (.isub, 1) := by decide +kernel
theorem dX2_onlyCauseOf_33 : decode cX2_onlyCauseOf 33 = .ok (.aload_n 0, 1) := by decide +kernel
theorem dX2_onlyCauseOf_34 : decode cX2_onlyCauseOf 34 = .ok (.iload_n 1, 1) := by decide +kernel
theorem dX2_onlyCauseOf_35 : decode cX2_onlyCauseOf 35 = .ok (.invokevirtual 35, 3) := by decide +kernel
theorem dX2_onlyCauseOf_38 : decode cX2_onlyCauseOf 38 = .ok (.invokevirtual 73, 3) := by decide +kernel
theorem dX2_onlyCauseOf_41 : decode cX2_onlyCauseOf 41 = .ok (.ifCond .eq 5, 3) := by decide +kernel
theorem dX2_onlyCauseOf_44 : decode cX2_onlyCauseOf 44 = .ok (.iload_n 2, 1) := by decide +kernel
theorem dX2_onlyCauseOf_45 : decode cX2_onlyCauseOf 45 = .ok (.ireturn, 1) := by decide +kernel
theorem dX2_onlyCauseOf_46 : decode cX2_onlyCauseOf 46 = .ok (.iinc 2 1, 3) := by decide +kernel
theorem dX2_onlyCauseOf_49 : decode cX2_onlyCauseOf 49 = .ok (.goto (-35), 3) := by decide +kernel
theorem dX2_onlyCauseOf_52 : decode cX2_onlyCauseOf 52 = .ok (.ldc 86, 2) := by decide +kernel
theorem dX2_onlyCauseOf_54 : decode cX2_onlyCauseOf 54 = .ok (.ireturn, 1) := by decide +kernel
set_option maxRecDepth 20000 in
theorem ggX2_verdictOf_X2_wordOf : GoodIn wsX2_verdictOf wsX2_wordOf := goodIn_r _ [5, 6, 7, 8, 9, 59, 60, 61, 62] (by decide +kernel) (by decide +kernel)
set_option maxRecDepth 20000 in
theorem gX2_verdictOf_X2_wordOf : GoodIn wsX2_verdictOf (wsV RX2 31 RX2 yX2_wordOf wsX2_wordOf) := goodIn_app (goodIn_of _ (by decide +kernel)) ggX2_verdictOf_X2_wordOf
set_option maxRecDepth 20000 in
theorem ggX2_verdictOf_X2_isSound : GoodIn wsX2_verdictOf wsX2_isSound := goodIn_r _ [13, 14, 15, 16, 4, 17, 18, 19, 8, 20, 21, 22, 23, 24, 25, 26, 27, 28, 29, 59, 60, 61, 62] (by decide +kernel) (by decide +kernel)
set_option maxRecDepth 20000 in
theorem gX2_verdictOf_X2_isSound : GoodIn wsX2_verdictOf (wsV RX2 67 RX2 yX2_isSound wsX2_isSound) := goodIn_app (goodIn_of _ (by decide +kernel)) ggX2_verdictOf_X2_isSound
set_option maxRecDepth 20000 in
theorem ggX2_verdictOf_X2_residueOf : GoodIn wsX2_verdictOf wsX2_residueOf := goodIn_r _ [33, 34, 7, 8, 9, 59, 60, 61, 62] (by decide +kernel) (by decide +kernel)
set_option maxRecDepth 20000 in
theorem gX2_verdictOf_X2_residueOf : GoodIn wsX2_verdictOf (wsV RX2 35 RX2 yX2_residueOf wsX2_residueOf) := goodIn_app (goodIn_of _ (by decide +kernel)) ggX2_verdictOf_X2_residueOf
set_option maxRecDepth 20000 in
theorem ggX2_verdictOf_X2_isRight : GoodIn wsX2_verdictOf wsX2_isRight := goodIn_r _ [38, 10, 11, 12, 4, 13, 14, 15, 16, 17, 18, 19, 8, 20, 21, 22, 23, 24, 25, 26, 27, 28, 29, 39, 40, 41, 42, 43, 44, 45, 46, 47, 48, 59, 60, 61, 62] (by decide +kernel) (by decide +kernel)
set_option maxRecDepth 20000 in
theorem gX2_verdictOf_X2_isRight : GoodIn wsX2_verdictOf (wsV RX2 73 RX2 yX2_isRight wsX2_isRight) := goodIn_app (goodIn_of _ (by decide +kernel)) ggX2_verdictOf_X2_isRight
set_option maxRecDepth 20000 in
theorem ggX2_verdictOf_X2_causesOf : GoodIn wsX2_verdictOf wsX2_causesOf := goodIn_r _ [52, 1, 2, 3, 4, 5, 6, 7, 8, 9, 10, 11, 12, 13, 14, 15, 16, 17, 18, 19, 20, 21, 22, 23, 24, 25, 26, 27, 28, 29, 53, 54, 55, 56, 57, 58, 30, 31, 32, 33, 34, 35, 36, 37, 38, 39, 40, 41, 42, 43, 44, 45, 46, 47, 48, 59, 60, 61, 62] (by decide +kernel) (by decide +kernel)
set_option maxRecDepth 20000 in
theorem gX2_verdictOf_X2_causesOf : GoodIn wsX2_verdictOf (wsV RX2 83 RX2 yX2_causesOf wsX2_causesOf) := goodIn_app (goodIn_of _ (by decide +kernel)) ggX2_verdictOf_X2_causesOf
theorem dX2_verdictOf_0 : decode cX2_verdictOf 0 = .ok (.aload_n 0, 1) := by decide +kernel
theorem dX2_verdictOf_1 : decode cX2_verdictOf 1 = .ok (.iload_n 1, 1) := by decide +kernel
theorem dX2_verdictOf_2 : decode cX2_verdictOf 2 = .ok (.invokevirtual 31, 3) := by decide +kernel
theorem dX2_verdictOf_5 : decode cX2_verdictOf 5 = .ok (.istore_n 2, 1) := by decide +kernel
theorem dX2_verdictOf_6 : decode cX2_verdictOf 6 = .ok (.aload_n 0, 1) := by decide +kernel
theorem dX2_verdictOf_7 : decode cX2_verdictOf 7 = .ok (.iload_n 2, 1) := by decide +kernel
theorem dX2_verdictOf_8 : decode cX2_verdictOf 8 = .ok (.invokevirtual 67, 3) := by decide +kernel
theorem dX2_verdictOf_11 : decode cX2_verdictOf 11 = .ok (.ifCond .eq 22, 3) := by decide +kernel
theorem dX2_verdictOf_14 : decode cX2_verdictOf 14 = .ok (.aload_n 0, 1) := by decide +kernel
theorem dX2_verdictOf_15 : decode cX2_verdictOf 15 = .ok (.iload_n 2, 1) := by decide +kernel
theorem dX2_verdictOf_16 : decode cX2_verdictOf 16 = .ok (.aload_n 0, 1) := by decide +kernel
theorem dX2_verdictOf_17 : decode cX2_verdictOf 17 = .ok (.iload_n 1, 1) := by decide +kernel
theorem dX2_verdictOf_18 : decode cX2_verdictOf 18 = .ok (.invokevirtual 35, 3) := by decide +kernel
theorem dX2_verdictOf_21 : decode cX2_verdictOf 21 = .ok (.invokevirtual 73, 3) := by decide +kernel
theorem dX2_verdictOf_24 : decode cX2_verdictOf 24 = .ok (.ifCond .eq 7, 3) := by decide +kernel
theorem dX2_verdictOf_27 : decode cX2_verdictOf 27 = .ok (.iconst 0, 1) := by decide +kernel
theorem dX2_verdictOf_28 : decode cX2_verdictOf 28 = .ok (.goto 4, 3) := by decide +kernel
theorem dX2_verdictOf_31 : decode cX2_verdictOf 31 = .ok (.iconst 1, 1) := by decide +kernel
theorem dX2_verdictOf_32 : decode cX2_verdictOf 32 = .ok (.ireturn, 1) := by decide +kernel
theorem dX2_verdictOf_33 : decode cX2_verdictOf 33 = .ok (.aload_n 0, 1) := by decide +kernel
theorem dX2_verdictOf_34 : decode cX2_verdictOf 34 = .ok (.iload_n 1, 1) := by decide +kernel
theorem dX2_verdictOf_35 : decode cX2_verdictOf 35 = .ok (.invokevirtual 83, 3) := by decide +kernel
theorem dX2_verdictOf_38 : decode cX2_verdictOf 38 = .ok (.iconst 1, 1) := by decide +kernel
theorem dX2_verdictOf_39 : decode cX2_verdictOf 39 = .ok (.if_icmp .ne 7, 3) := by decide +kernel
theorem dX2_verdictOf_42 : decode cX2_verdictOf 42 = .ok (.iconst 2, 1) := by decide +kernel
theorem dX2_verdictOf_43 : decode cX2_verdictOf 43 = .ok (.goto 4, 3) := by decide +kernel
theorem dX2_verdictOf_46 : decode cX2_verdictOf 46 = .ok (.iconst 3, 1) := by decide +kernel
theorem dX2_verdictOf_47 : decode cX2_verdictOf 47 = .ok (.ireturn, 1) := by decide +kernel
set_option maxRecDepth 20000 in
theorem ggX3_init_X2_init : GoodIn wsX3_init wsX2_init := goodIn_r _ [11, 12, 2, 3, 13, 14, 15, 16, 17, 21, 22, 23, 24] (by decide +kernel) (by decide +kernel)
set_option maxRecDepth 20000 in
theorem gX3_init_X2_init_n24 : GoodIn wsX3_init (wsX2_init) := ggX3_init_X2_init
theorem dX3_init_0 : decode cX3_init 0 = .ok (.aload_n 0, 1) := by decide +kernel
theorem dX3_init_1 : decode cX3_init 1 = .ok (.invokespecial 3, 3) := by decide +kernel
theorem dX3_init_4 : decode cX3_init 4 = .ok (.aload_n 0, 1) := by decide +kernel
theorem dX3_init_5 : decode cX3_init 5 = .ok (.bipush 12, 2) := by decide +kernel
theorem dX3_init_7 : decode cX3_init 7 = .ok (.anewarray 9, 3) := by decide +kernel
theorem dX3_init_10 : decode cX3_init 10 = .ok (.putfield 11, 3) := by decide +kernel
theorem dX3_init_13 : decode cX3_init 13 = .ok (.aload_n 0, 1) := by decide +kernel
theorem dX3_init_14 : decode cX3_init 14 = .ok (.iconst 0, 1) := by decide +kernel
theorem dX3_init_15 : decode cX3_init 15 = .ok (.putfield 17, 3) := by decide +kernel
theorem dX3_init_18 : decode cX3_init 18 = .ok (.aload_n 0, 1) := by decide +kernel
theorem dX3_init_19 : decode cX3_init 19 = .ok (.iconst 0, 1) := by decide +kernel
theorem dX3_init_20 : decode cX3_init 20 = .ok (.putfield 21, 3) := by decide +kernel
theorem dX3_init_23 : decode cX3_init 23 = .ok (.iconst 0, 1) := by decide +kernel
theorem dX3_init_24 : decode cX3_init 24 = .ok (.istore_n 1, 1) := by decide +kernel
theorem dX3_init_25 : decode cX3_init 25 = .ok (.iload_n 1, 1) := by decide +kernel
theorem dX3_init_26 : decode cX3_init 26 = .ok (.bipush 12, 2) := by decide +kernel
theorem dX3_init_28 : decode cX3_init 28 = .ok (.if_icmp .ge 22, 3) := by decide +kernel
theorem dX3_init_31 : decode cX3_init 31 = .ok (.aload_n 0, 1) := by decide +kernel
theorem dX3_init_32 : decode cX3_init 32 = .ok (.getfield 11, 3) := by decide +kernel
theorem dX3_init_35 : decode cX3_init 35 = .ok (.iload_n 1, 1) := by decide +kernel
theorem dX3_init_36 : decode cX3_init 36 = .ok (.new 9, 3) := by decide +kernel
theorem dX3_init_39 : decode cX3_init 39 = .ok (.dup, 1) := by decide +kernel
theorem dX3_init_40 : decode cX3_init 40 = .ok (.invokespecial 24, 3) := by decide +kernel
theorem dX3_init_43 : decode cX3_init 43 = .ok (.aastore, 1) := by decide +kernel
theorem dX3_init_44 : decode cX3_init 44 = .ok (.iinc 1 1, 3) := by decide +kernel
theorem dX3_init_47 : decode cX3_init 47 = .ok (.goto (-22), 3) := by decide +kernel
theorem dX3_init_50 : decode cX3_init 50 = .ok (.return_, 1) := by decide +kernel
set_option maxRecDepth 20000 in
theorem ggX3_remember_X5_rest : GoodIn wsX3_remember wsX5_rest := goodIn_r _ [6, 7, 8, 9, 10] (by decide +kernel) (by decide +kernel)
set_option maxRecDepth 20000 in
theorem gX3_remember_X5_rest_n25 : GoodIn wsX3_remember (wsX5_rest) := ggX3_remember_X5_rest
set_option maxRecDepth 20000 in
theorem ggX3_remember_J9_floorMod_7cf53 : GoodIn wsX3_remember wsJ9_floorMod_7cf53 := goodIn_r _ [10] (by decide +kernel) (by decide +kernel)
set_option maxRecDepth 20000 in
theorem gX3_remember_J9_floorMod_7cf53 : GoodIn wsX3_remember (va_wsS RX3 29 yJ9_floorMod_7cf53 wsJ9_floorMod_7cf53) := goodIn_app (goodIn_of _ (by decide +kernel)) ggX3_remember_J9_floorMod_7cf53
set_option maxRecDepth 20000 in
theorem ggX3_remember_X2_copyFrom : GoodIn wsX3_remember wsX2_copyFrom := goodIn_r _ [16, 17, 18, 19, 20, 21, 15, 22, 23, 24, 5, 25, 26, 27, 28, 29, 30, 31, 32, 33, 34, 38, 39, 40, 41] (by decide +kernel) (by decide +kernel)
set_option maxRecDepth 20000 in
theorem gX3_remember_X2_copyFrom : GoodIn wsX3_remember (wsV RX3 34 RX2 yX2_copyFrom wsX2_copyFrom) := goodIn_app (goodIn_of _ (by decide +kernel)) ggX3_remember_X2_copyFrom
theorem dX3_remember_0 : decode cX3_remember 0 = .ok (.aload_n 0, 1) := by decide +kernel
theorem dX3_remember_1 : decode cX3_remember 1 = .ok (.getfield 21, 3) := by decide +kernel
theorem dX3_remember_4 : decode cX3_remember 4 = .ok (.bipush 12, 2) := by decide +kernel
theorem dX3_remember_6 : decode cX3_remember 6 = .ok (.if_icmp .ne 28, 3) := by decide +kernel
theorem dX3_remember_9 : decode cX3_remember 9 = .ok (.aload_n 0, 1) := by decide +kernel
theorem dX3_remember_10 : decode cX3_remember 10 = .ok (.aload_n 0, 1) := by decide +kernel
theorem dX3_remember_11 : decode cX3_remember 11 = .ok (.getfield 17, 3) := by decide +kernel
theorem dX3_remember_14 : decode cX3_remember 14 = .ok (.iconst 1, 1) := by decide +kernel
theorem dX3_remember_15 : decode cX3_remember 15 = .ok (.iadd, 1) := by decide +kernel
theorem dX3_remember_16 : decode cX3_remember 16 = .ok (.bipush 12, 2) := by decide +kernel
theorem dX3_remember_18 : decode cX3_remember 18 = .ok (.invokestatic 25, 3) := by decide +kernel
theorem dX3_remember_21 : decode cX3_remember 21 = .ok (.putfield 17, 3) := by decide +kernel
theorem dX3_remember_24 : decode cX3_remember 24 = .ok (.aload_n 0, 1) := by decide +kernel
theorem dX3_remember_25 : decode cX3_remember 25 = .ok (.dup, 1) := by decide +kernel
theorem dX3_remember_26 : decode cX3_remember 26 = .ok (.getfield 21, 3) := by decide +kernel
theorem dX3_remember_29 : decode cX3_remember 29 = .ok (.iconst 1, 1) := by decide +kernel
theorem dX3_remember_30 : decode cX3_remember 30 = .ok (.isub, 1) := by decide +kernel
theorem dX3_remember_31 : decode cX3_remember 31 = .ok (.putfield 21, 3) := by decide +kernel
theorem dX3_remember_34 : decode cX3_remember 34 = .ok (.aload_n 0, 1) := by decide +kernel
theorem dX3_remember_35 : decode cX3_remember 35 = .ok (.getfield 11, 3) := by decide +kernel
theorem dX3_remember_38 : decode cX3_remember 38 = .ok (.aload_n 0, 1) := by decide +kernel
theorem dX3_remember_39 : decode cX3_remember 39 = .ok (.getfield 17, 3) := by decide +kernel
theorem dX3_remember_42 : decode cX3_remember 42 = .ok (.aload_n 0, 1) := by decide +kernel
theorem dX3_remember_43 : decode cX3_remember 43 = .ok (.getfield 21, 3) := by decide +kernel
theorem dX3_remember_46 : decode cX3_remember 46 = .ok (.iadd, 1) := by decide +kernel
theorem dX3_remember_47 : decode cX3_remember 47 = .ok (.bipush 12, 2) := by decide +kernel
theorem dX3_remember_49 : decode cX3_remember 49 = .ok (.invokestatic 29, 3) := by decide +kernel
theorem dX3_remember_52 : decode cX3_remember 52 = .ok (.aaload, 1) := by decide +kernel
theorem dX3_remember_53 : decode cX3_remember 53 = .ok (.astore_n 2, 1) := by decide +kernel
theorem dX3_remember_54 : decode cX3_remember 54 = .ok (.aload_n 2, 1) := by decide +kernel
theorem dX3_remember_55 : decode cX3_remember 55 = .ok (.ifnull 18, 3) := by decide +kernel
theorem dX3_remember_58 : decode cX3_remember 58 = .ok (.aload_n 2, 1) := by decide +kernel
theorem dX3_remember_59 : decode cX3_remember 59 = .ok (.aload_n 1, 1) := by decide +kernel
theorem dX3_remember_60 : decode cX3_remember 60 = .ok (.invokevirtual 34, 3) := by decide +kernel
theorem dX3_remember_63 : decode cX3_remember 63 = .ok (.aload_n 0, 1) := by decide +kernel
theorem dX3_remember_64 : decode cX3_remember 64 = .ok (.dup, 1) := by decide +kernel
theorem dX3_remember_65 : decode cX3_remember 65 = .ok (.getfield 21, 3) := by decide +kernel
theorem dX3_remember_68 : decode cX3_remember 68 = .ok (.iconst 1, 1) := by decide +kernel
theorem dX3_remember_69 : decode cX3_remember 69 = .ok (.iadd, 1) := by decide +kernel
theorem dX3_remember_70 : decode cX3_remember 70 = .ok (.putfield 21, 3) := by decide +kernel
theorem dX3_remember_73 : decode cX3_remember 73 = .ok (.return_, 1) := by decide +kernel
set_option maxRecDepth 20000 in
theorem ggX3_recall_J9_floorMod_7cf53 : GoodIn wsX3_recall wsJ9_floorMod_7cf53 := goodIn_r _ [7] (by decide +kernel) (by decide +kernel)
set_option maxRecDepth 20000 in
theorem gX3_recall_J9_floorMod_7cf53 : GoodIn wsX3_recall (va_wsS RX3 29 yJ9_floorMod_7cf53 wsJ9_floorMod_7cf53) := goodIn_app (goodIn_of _ (by decide +kernel)) ggX3_recall_J9_floorMod_7cf53
set_option maxRecDepth 20000 in
theorem ggX3_recall_X2_copyFrom : GoodIn wsX3_recall wsX2_copyFrom := goodIn_r _ [12, 13, 14, 15, 16, 17, 11, 18, 19, 20, 21, 22, 23, 24, 25, 26, 27, 28, 29, 30, 31, 35, 36, 37, 38] (by decide +kernel) (by decide +kernel)
set_option maxRecDepth 20000 in
theorem gX3_recall_X2_copyFrom : GoodIn wsX3_recall (wsV RX3 34 RX2 yX2_copyFrom wsX2_copyFrom) := goodIn_app (goodIn_of _ (by decide +kernel)) ggX3_recall_X2_copyFrom
theorem dX3_recall_0 : decode cX3_recall 0 = .ok (.aload_n 0, 1) := by decide +kernel
theorem dX3_recall_1 : decode cX3_recall 1 = .ok (.getfield 21, 3) := by decide +kernel
theorem dX3_recall_4 : decode cX3_recall 4 = .ok (.ifCond .ne 5, 3) := by decide +kernel
theorem dX3_recall_7 : decode cX3_recall 7 = .ok (.iconst 0, 1) := by decide +kernel
theorem dX3_recall_8 : decode cX3_recall 8 = .ok (.ireturn, 1) := by decide +kernel
theorem dX3_recall_9 : decode cX3_recall 9 = .ok (.aload_n 0, 1) := by decide +kernel
theorem dX3_recall_10 : decode cX3_recall 10 = .ok (.getfield 11, 3) := by decide +kernel
theorem dX3_recall_13 : decode cX3_recall 13 = .ok (.aload_n 0, 1) := by decide +kernel
theorem dX3_recall_14 : decode cX3_recall 14 = .ok (.getfield 17, 3) := by decide +kernel
theorem dX3_recall_17 : decode cX3_recall 17 = .ok (.aload_n 0, 1) := by decide +kernel
theorem dX3_recall_18 : decode cX3_recall 18 = .ok (.getfield 21, 3) := by decide +kernel
theorem dX3_recall_21 : decode cX3_recall 21 = .ok (.iadd, 1) := by decide +kernel
theorem dX3_recall_22 : decode cX3_recall 22 = .ok (.iconst 1, 1) := by decide +kernel
theorem dX3_recall_23 : decode cX3_recall 23 = .ok (.isub, 1) := by decide +kernel
theorem dX3_recall_24 : decode cX3_recall 24 = .ok (.bipush 12, 2) := by decide +kernel
theorem dX3_recall_26 : decode cX3_recall 26 = .ok (.invokestatic 29, 3) := by decide +kernel
theorem dX3_recall_29 : decode cX3_recall 29 = .ok (.aaload, 1) := by decide +kernel
theorem dX3_recall_30 : decode cX3_recall 30 = .ok (.astore_n 2, 1) := by decide +kernel
theorem dX3_recall_31 : decode cX3_recall 31 = .ok (.aload_n 2, 1) := by decide +kernel
theorem dX3_recall_32 : decode cX3_recall 32 = .ok (.ifnonnull 5, 3) := by decide +kernel
theorem dX3_recall_35 : decode cX3_recall 35 = .ok (.iconst 0, 1) := by decide +kernel
theorem dX3_recall_36 : decode cX3_recall 36 = .ok (.ireturn, 1) := by decide +kernel
theorem dX3_recall_37 : decode cX3_recall 37 = .ok (.aload_n 1, 1) := by decide +kernel
theorem dX3_recall_38 : decode cX3_recall 38 = .ok (.aload_n 2, 1) := by decide +kernel
theorem dX3_recall_39 : decode cX3_recall 39 = .ok (.invokevirtual 34, 3) := by decide +kernel
theorem dX3_recall_42 : decode cX3_recall 42 = .ok (.aload_n 0, 1) := by decide +kernel
theorem dX3_recall_43 : decode cX3_recall 43 = .ok (.dup, 1) := by decide +kernel
theorem dX3_recall_44 : decode cX3_recall 44 = .ok (.getfield 21, 3) := by decide +kernel
theorem dX3_recall_47 : decode cX3_recall 47 = .ok (.iconst 1, 1) := by decide +kernel
theorem dX3_recall_48 : decode cX3_recall 48 = .ok (.isub, 1) := by decide +kernel
theorem dX3_recall_49 : decode cX3_recall 49 = .ok (.putfield 21, 3) := by decide +kernel
theorem dX3_recall_52 : decode cX3_recall 52 = .ok (.iconst 1, 1) := by decide +kernel
theorem dX3_recall_53 : decode cX3_recall 53 = .ok (.ireturn, 1) := by decide +kernel
theorem dX3_lose_0 : decode cX3_lose 0 = .ok (.aload_n 0, 1) := by decide +kernel
theorem dX3_lose_1 : decode cX3_lose 1 = .ok (.iconst 0, 1) := by decide +kernel
theorem dX3_lose_2 : decode cX3_lose 2 = .ok (.putfield 21, 3) := by decide +kernel
theorem dX3_lose_5 : decode cX3_lose 5 = .ok (.return_, 1) := by decide +kernel
theorem dX4_init_0 : decode cX4_init 0 = .ok (.aload_n 0, 1) := by decide +kernel
theorem dX4_init_1 : decode cX4_init 1 = .ok (.invokespecial 3, 3) := by decide +kernel
theorem dX4_init_4 : decode cX4_init 4 = .ok (.aload_n 0, 1) := by decide +kernel
theorem dX4_init_5 : decode cX4_init 5 = .ok (.bipush 6, 2) := by decide +kernel
theorem dX4_init_7 : decode cX4_init 7 = .ok (.newarray .int, 2) := by decide +kernel
theorem dX4_init_9 : decode cX4_init 9 = .ok (.putfield 9, 3) := by decide +kernel
theorem dX4_init_12 : decode cX4_init 12 = .ok (.aload_n 0, 1) := by decide +kernel
theorem dX4_init_13 : decode cX4_init 13 = .ok (.bipush 6, 2) := by decide +kernel
theorem dX4_init_15 : decode cX4_init 15 = .ok (.newarray .int, 2) := by decide +kernel
theorem dX4_init_17 : decode cX4_init 17 = .ok (.putfield 15, 3) := by decide +kernel
theorem dX4_init_20 : decode cX4_init 20 = .ok (.aload_n 0, 1) := by decide +kernel
theorem dX4_init_21 : decode cX4_init 21 = .ok (.bipush 99, 2) := by decide +kernel
theorem dX4_init_23 : decode cX4_init 23 = .ok (.newarray .int, 2) := by decide +kernel
theorem dX4_init_25 : decode cX4_init 25 = .ok (.putfield 18, 3) := by decide +kernel
theorem dX4_init_28 : decode cX4_init 28 = .ok (.aload_n 0, 1) := by decide +kernel
theorem dX4_init_29 : decode cX4_init 29 = .ok (.iconst 0, 1) := by decide +kernel
theorem dX4_init_30 : decode cX4_init 30 = .ok (.putfield 21, 3) := by decide +kernel
theorem dX4_init_33 : decode cX4_init 33 = .ok (.return_, 1) := by decide +kernel
theorem dX4_note_0 : decode cX4_note 0 = .ok (.aload_n 0, 1) := by decide +kernel
theorem dX4_note_1 : decode cX4_note 1 = .ok (.getfield 21, 3) := by decide +kernel
theorem dX4_note_4 : decode cX4_note 4 = .ok (.ifCond .lt 12, 3) := by decide +kernel
theorem dX4_note_7 : decode cX4_note 7 = .ok (.aload_n 0, 1) := by decide +kernel
theorem dX4_note_8 : decode cX4_note 8 = .ok (.getfield 21, 3) := by decide +kernel
theorem dX4_note_11 : decode cX4_note 11 = .ok (.bipush 6, 2) := by decide +kernel
theorem dX4_note_13 : decode cX4_note 13 = .ok (.if_icmp .lt 5, 3) := by decide +kernel
theorem dX4_note_16 : decode cX4_note 16 = .ok (.iconst 0, 1) := by decide +kernel
theorem dX4_note_17 : decode cX4_note 17 = .ok (.ireturn, 1) := by decide +kernel
theorem dX4_note_18 : decode cX4_note 18 = .ok (.aload_n 0, 1) := by decide +kernel
theorem dX4_note_19 : decode cX4_note 19 = .ok (.getfield 9, 3) := by decide +kernel
theorem dX4_note_22 : decode cX4_note 22 = .ok (.aload_n 0, 1) := by decide +kernel
theorem dX4_note_23 : decode cX4_note 23 = .ok (.getfield 21, 3) := by decide +kernel
theorem dX4_note_26 : decode cX4_note 26 = .ok (.iload_n 1, 1) := by decide +kernel
theorem dX4_note_27 : decode cX4_note 27 = .ok (.iastore, 1) := by decide +kernel
theorem dX4_note_28 : decode cX4_note 28 = .ok (.aload_n 0, 1) := by decide +kernel
theorem dX4_note_29 : decode cX4_note 29 = .ok (.getfield 15, 3) := by decide +kernel
theorem dX4_note_32 : decode cX4_note 32 = .ok (.aload_n 0, 1) := by decide +kernel
theorem dX4_note_33 : decode cX4_note 33 = .ok (.getfield 21, 3) := by decide +kernel
theorem dX4_note_36 : decode cX4_note 36 = .ok (.iload_n 2, 1) := by decide +kernel
theorem dX4_note_37 : decode cX4_note 37 = .ok (.iastore, 1) := by decide +kernel
theorem dX4_note_38 : decode cX4_note 38 = .ok (.aload_n 0, 1) := by decide +kernel
theorem dX4_note_39 : decode cX4_note 39 = .ok (.dup, 1) := by decide +kernel
theorem dX4_note_40 : decode cX4_note 40 = .ok (.getfield 21, 3) := by decide +kernel
theorem dX4_note_43 : decode cX4_note 43 = .ok (.iconst 1, 1) := by decide +kernel
theorem dX4_note_44 : decode cX4_note 44 = .ok (.iadd, 1) := by decide +kernel
theorem dX4_note_45 : decode cX4_note 45 = .ok (.putfield 21, 3) := by decide +kernel
theorem dX4_note_48 : decode cX4_note 48 = .ok (.iconst 1, 1) := by decide +kernel
theorem dX4_note_49 : decode cX4_note 49 = .ok (.ireturn, 1) := by decide +kernel
set_option maxRecDepth 20000 in
theorem ggX4_gatherOpen_X4_isOpen : GoodIn wsX4_gatherOpen wsX4_isOpen := goodIn_r _ [6, 7, 8, 9, 10, 11, 12, 13, 14, 15, 16, 17, 18, 19, 20] (by decide +kernel) (by decide +kernel)
set_option maxRecDepth 20000 in
theorem gX4_gatherOpen_X4_isOpen : GoodIn wsX4_gatherOpen (wsV RX4 25 RX4 yX4_isOpen wsX4_isOpen) := goodIn_app (goodIn_of _ (by decide +kernel)) ggX4_gatherOpen_X4_isOpen
theorem dX4_gatherOpen_0 : decode cX4_gatherOpen 0 = .ok (.iconst 0, 1) := by decide +kernel
theorem dX4_gatherOpen_1 : decode cX4_gatherOpen 1 = .ok (.istore_n 1, 1) := by decide +kernel
theorem dX4_gatherOpen_2 : decode cX4_gatherOpen 2 = .ok (.iconst 3, 1) := by decide +kernel
theorem dX4_gatherOpen_3 : decode cX4_gatherOpen 3 = .ok (.istore_n 2, 1) := by decide +kernel
theorem dX4_gatherOpen_4 : decode cX4_gatherOpen 4 = .ok (.iload_n 2, 1) := by decide +kernel
theorem dX4_gatherOpen_5 : decode cX4_gatherOpen 5 = .ok (.sipush 199, 3) := by decide +kernel
theorem dX4_gatherOpen_8 : decode cX4_gatherOpen 8 = .ok (.if_icmp .gt 36, 3) := by decide +kernel
theorem dX4_gatherOpen_11 : decode cX4_gatherOpen 11 = .ok (.aload_n 0, 1) := by decide +kernel
theorem dX4_gatherOpen_12 : decode cX4_gatherOpen 12 = .ok (.iload_n 2, 1) := by decide +kernel
theorem dX4_gatherOpen_13 : decode cX4_gatherOpen 13 = .ok (.invokevirtual 25, 3) := by decide +kernel
theorem dX4_gatherOpen_16 : decode cX4_gatherOpen 16 = .ok (.ifCond .eq 22, 3) := by decide +kernel
theorem dX4_gatherOpen_19 : decode cX4_gatherOpen 19 = .ok (.iload_n 1, 1) := by decide +kernel
theorem dX4_gatherOpen_20 : decode cX4_gatherOpen 20 = .ok (.aload_n 0, 1) := by decide +kernel
theorem dX4_gatherOpen_21 : decode cX4_gatherOpen 21 = .ok (.getfield 18, 3) := by decide +kernel
theorem dX4_gatherOpen_24 : decode cX4_gatherOpen 24 = .ok (.arraylength, 1) := by decide +kernel
theorem dX4_gatherOpen_25 : decode cX4_gatherOpen 25 = .ok (.if_icmp .ge 13, 3) := by decide +kernel
theorem dX4_gatherOpen_28 : decode cX4_gatherOpen 28 = .ok (.aload_n 0, 1) := by decide +kernel
theorem dX4_gatherOpen_29 : decode cX4_gatherOpen 29 = .ok (.getfield 18, 3) := by decide +kernel
theorem dX4_gatherOpen_32 : decode cX4_gatherOpen 32 = .ok (.iload_n 1, 1) := by decide +kernel
theorem dX4_gatherOpen_33 : decode cX4_gatherOpen 33 = .ok (.iload_n 2, 1) := by decide +kernel
theorem dX4_gatherOpen_34 : decode cX4_gatherOpen 34 = .ok (.iastore, 1) := by decide +kernel
theorem dX4_gatherOpen_35 : decode cX4_gatherOpen 35 = .ok (.iinc 1 1, 3) := by decide +kernel
theorem dX4_gatherOpen_38 : decode cX4_gatherOpen 38 = .ok (.iinc 2 2, 3) := by decide +kernel
theorem dX4_gatherOpen_41 : decode cX4_gatherOpen 41 = .ok (.goto (-37), 3) := by decide +kernel
theorem dX4_gatherOpen_44 : decode cX4_gatherOpen 44 = .ok (.iload_n 1, 1) := by decide +kernel
theorem dX4_gatherOpen_45 : decode cX4_gatherOpen 45 = .ok (.ireturn, 1) := by decide +kernel
set_option maxRecDepth 20000 in
theorem ggX4_leastOpen_X4_gatherOpen : GoodIn wsX4_leastOpen wsX4_gatherOpen := goodIn_r _ [7, 2, 8, 9, 10, 6, 11, 12, 13, 14, 15, 16, 17, 18, 19, 20, 21, 22, 23, 24, 25] (by decide +kernel) (by decide +kernel)
set_option maxRecDepth 20000 in
theorem gX4_leastOpen_X4_gatherOpen : GoodIn wsX4_leastOpen (wsV RX4 29 RX4 yX4_gatherOpen wsX4_gatherOpen) := goodIn_app (goodIn_of _ (by decide +kernel)) ggX4_leastOpen_X4_gatherOpen
theorem dX4_leastOpen_0 : decode cX4_leastOpen 0 = .ok (.aload_n 0, 1) := by decide +kernel
theorem dX4_leastOpen_1 : decode cX4_leastOpen 1 = .ok (.invokevirtual 29, 3) := by decide +kernel
theorem dX4_leastOpen_4 : decode cX4_leastOpen 4 = .ok (.ifCond .ne 8, 3) := by decide +kernel
theorem dX4_leastOpen_7 : decode cX4_leastOpen 7 = .ok (.ldc 33, 2) := by decide +kernel
theorem dX4_leastOpen_9 : decode cX4_leastOpen 9 = .ok (.goto 9, 3) := by decide +kernel
theorem dX4_leastOpen_12 : decode cX4_leastOpen 12 = .ok (.aload_n 0, 1) := by decide +kernel
theorem dX4_leastOpen_13 : decode cX4_leastOpen 13 = .ok (.getfield 18, 3) := by decide +kernel
theorem dX4_leastOpen_16 : decode cX4_leastOpen 16 = .ok (.iconst 0, 1) := by decide +kernel
theorem dX4_leastOpen_17 : decode cX4_leastOpen 17 = .ok (.iaload, 1) := by decide +kernel
theorem dX4_leastOpen_18 : decode cX4_leastOpen 18 = .ok (.ireturn, 1) := by decide +kernel
set_option maxRecDepth 20000 in
theorem ggX4_bestTry_X4_gatherOpen : GoodIn wsX4_bestTry wsX4_gatherOpen := goodIn_r _ [10, 11, 12, 13, 14, 9, 15, 16, 17, 18, 19, 20, 21, 22, 23, 24, 25, 30, 31, 32, 33] (by decide +kernel) (by decide +kernel)
set_option maxRecDepth 20000 in
theorem gX4_bestTry_X4_gatherOpen : GoodIn wsX4_bestTry (wsV RX4 29 RX4 yX4_gatherOpen wsX4_gatherOpen) := goodIn_app (goodIn_of _ (by decide +kernel)) ggX4_bestTry_X4_gatherOpen
set_option maxRecDepth 20000 in
theorem ggX4_bestTry_X4_openFitting : GoodIn wsX4_bestTry wsX4_openFitting := goodIn_r _ [29, 11, 19, 20, 21, 22, 23, 24, 25, 30, 31, 32, 33] (by decide +kernel) (by decide +kernel)
set_option maxRecDepth 20000 in
theorem gX4_bestTry_X4_openFitting : GoodIn wsX4_bestTry (wsV RX4 34 RX4 yX4_openFitting wsX4_openFitting) := goodIn_app (goodIn_of _ (by decide +kernel)) ggX4_bestTry_X4_openFitting
theorem dX4_bestTry_0 : decode cX4_bestTry 0 = .ok (.aload_n 0, 1) := by decide +kernel
theorem dX4_bestTry_1 : decode cX4_bestTry 1 = .ok (.invokevirtual 29, 3) := by decide +kernel
theorem dX4_bestTry_4 : decode cX4_bestTry 4 = .ok (.istore_n 1, 1) := by decide +kernel
theorem dX4_bestTry_5 : decode cX4_bestTry 5 = .ok (.iload_n 1, 1) := by decide +kernel
theorem dX4_bestTry_6 : decode cX4_bestTry 6 = .ok (.iconst 1, 1) := by decide +kernel
theorem dX4_bestTry_7 : decode cX4_bestTry 7 = .ok (.if_icmp .gt 6, 3) := by decide +kernel
theorem dX4_bestTry_10 : decode cX4_bestTry 10 = .ok (.ldc 33, 2) := by decide +kernel
theorem dX4_bestTry_12 : decode cX4_bestTry 12 = .ok (.ireturn, 1) := by decide +kernel
theorem dX4_bestTry_13 : decode cX4_bestTry 13 = .ok (.ldc 33, 2) := by decide +kernel
theorem dX4_bestTry_15 : decode cX4_bestTry 15 = .ok (.istore_n 2, 1) := by decide +kernel
theorem dX4_bestTry_16 : decode cX4_bestTry 16 = .ok (.iload_n 1, 1) := by decide +kernel
theorem dX4_bestTry_17 : decode cX4_bestTry 17 = .ok (.iconst 1, 1) := by decide +kernel
theorem dX4_bestTry_18 : decode cX4_bestTry 18 = .ok (.iadd, 1) := by decide +kernel
theorem dX4_bestTry_19 : decode cX4_bestTry 19 = .ok (.istore_n 3, 1) := by decide +kernel
theorem dX4_bestTry_20 : decode cX4_bestTry 20 = .ok (.iconst 1, 1) := by decide +kernel
theorem dX4_bestTry_21 : decode cX4_bestTry 21 = .ok (.istore 4, 2) := by decide +kernel
theorem dX4_bestTry_23 : decode cX4_bestTry 23 = .ok (.iload 4, 2) := by decide +kernel
theorem dX4_bestTry_25 : decode cX4_bestTry 25 = .ok (.bipush 99, 2) := by decide +kernel
theorem dX4_bestTry_27 : decode cX4_bestTry 27 = .ok (.if_icmp .gt 41, 3) := by decide +kernel
theorem dX4_bestTry_30 : decode cX4_bestTry 30 = .ok (.aload_n 0, 1) := by decide +kernel
theorem dX4_bestTry_31 : decode cX4_bestTry 31 = .ok (.iload 4, 2) := by decide +kernel
theorem dX4_bestTry_33 : decode cX4_bestTry 33 = .ok (.iload_n 1, 1) := by decide +kernel
theorem dX4_bestTry_34 : decode cX4_bestTry 34 = .ok (.invokevirtual 34, 3) := by decide +kernel
theorem dX4_bestTry_37 : decode cX4_bestTry 37 = .ok (.istore 5, 2) := by decide +kernel
theorem dX4_bestTry_39 : decode cX4_bestTry 39 = .ok (.iload 5, 2) := by decide +kernel
theorem dX4_bestTry_41 : decode cX4_bestTry 41 = .ok (.iload_n 1, 1) := by decide +kernel
theorem dX4_bestTry_42 : decode cX4_bestTry 42 = .ok (.iload 5, 2) := by decide +kernel
theorem dX4_bestTry_44 : decode cX4_bestTry 44 = .ok (.isub, 1) := by decide +kernel
theorem dX4_bestTry_45 : decode cX4_bestTry 45 = .ok (.invokestatic 38, 3) := by decide +kernel
theorem dX4_bestTry_48 : decode cX4_bestTry 48 = .ok (.istore 6, 2) := by decide +kernel
theorem dX4_bestTry_50 : decode cX4_bestTry 50 = .ok (.iload 6, 2) := by decide +kernel
theorem dX4_bestTry_52 : decode cX4_bestTry 52 = .ok (.iload_n 3, 1) := by decide +kernel
theorem dX4_bestTry_53 : decode cX4_bestTry 53 = .ok (.if_icmp .ge 9, 3) := by decide +kernel
theorem dX4_bestTry_56 : decode cX4_bestTry 56 = .ok (.iload 6, 2) := by decide +kernel
theorem dX4_bestTry_58 : decode cX4_bestTry 58 = .ok (.istore_n 3, 1) := by decide +kernel
theorem dX4_bestTry_59 : decode cX4_bestTry 59 = .ok (.iload 4, 2) := by decide +kernel
theorem dX4_bestTry_61 : decode cX4_bestTry 61 = .ok (.istore_n 2, 1) := by decide +kernel
theorem dX4_bestTry_62 : decode cX4_bestTry 62 = .ok (.iinc 4 1, 3) := by decide +kernel
theorem dX4_bestTry_65 : decode cX4_bestTry 65 = .ok (.goto (-42), 3) := by decide +kernel
theorem dX4_bestTry_68 : decode cX4_bestTry 68 = .ok (.iload_n 2, 1) := by decide +kernel
theorem dX4_bestTry_69 : decode cX4_bestTry 69 = .ok (.ireturn, 1) := by decide +kernel
set_option maxRecDepth 20000 in
theorem ggX4_isOpen_X5_rest : GoodIn wsX4_isOpen wsX5_rest := goodIn_r _ [6, 7, 8, 9, 10] (by decide +kernel) (by decide +kernel)
set_option maxRecDepth 20000 in
theorem gX4_isOpen_X5_rest_n43 : GoodIn wsX4_isOpen (wsX5_rest) := ggX4_isOpen_X5_rest
theorem dX4_isOpen_0 : decode cX4_isOpen 0 = .ok (.iconst 0, 1) := by decide +kernel
theorem dX4_isOpen_1 : decode cX4_isOpen 1 = .ok (.istore_n 2, 1) := by decide +kernel
theorem dX4_isOpen_2 : decode cX4_isOpen 2 = .ok (.iload_n 2, 1) := by decide +kernel
theorem dX4_isOpen_3 : decode cX4_isOpen 3 = .ok (.aload_n 0, 1) := by decide +kernel
theorem dX4_isOpen_4 : decode cX4_isOpen 4 = .ok (.getfield 21, 3) := by decide +kernel
theorem dX4_isOpen_7 : decode cX4_isOpen 7 = .ok (.if_icmp .ge 46, 3) := by decide +kernel
theorem dX4_isOpen_10 : decode cX4_isOpen 10 = .ok (.iload_n 2, 1) := by decide +kernel
theorem dX4_isOpen_11 : decode cX4_isOpen 11 = .ok (.bipush 6, 2) := by decide +kernel
theorem dX4_isOpen_13 : decode cX4_isOpen 13 = .ok (.if_icmp .ge 40, 3) := by decide +kernel
theorem dX4_isOpen_16 : decode cX4_isOpen 16 = .ok (.aload_n 0, 1) := by decide +kernel
theorem dX4_isOpen_17 : decode cX4_isOpen 17 = .ok (.getfield 9, 3) := by decide +kernel
theorem dX4_isOpen_20 : decode cX4_isOpen 20 = .ok (.iload_n 2, 1) := by decide +kernel
theorem dX4_isOpen_21 : decode cX4_isOpen 21 = .ok (.iaload, 1) := by decide +kernel
theorem dX4_isOpen_22 : decode cX4_isOpen 22 = .ok (.iload_n 1, 1) := by decide +kernel
theorem dX4_isOpen_23 : decode cX4_isOpen 23 = .ok (.invokestatic 43, 3) := by decide +kernel
theorem dX4_isOpen_26 : decode cX4_isOpen 26 = .ok (.ifCond .ne 7, 3) := by decide +kernel
theorem dX4_isOpen_29 : decode cX4_isOpen 29 = .ok (.iconst 1, 1) := by decide +kernel
theorem dX4_isOpen_30 : decode cX4_isOpen 30 = .ok (.goto 4, 3) := by decide +kernel
theorem dX4_isOpen_33 : decode cX4_isOpen 33 = .ok (.iconst 0, 1) := by decide +kernel
theorem dX4_isOpen_34 : decode cX4_isOpen 34 = .ok (.istore_n 3, 1) := by decide +kernel
theorem dX4_isOpen_35 : decode cX4_isOpen 35 = .ok (.iload_n 3, 1) := by decide +kernel
theorem dX4_isOpen_36 : decode cX4_isOpen 36 = .ok (.aload_n 0, 1) := by decide +kernel
theorem dX4_isOpen_37 : decode cX4_isOpen 37 = .ok (.getfield 15, 3) := by decide +kernel
theorem dX4_isOpen_40 : decode cX4_isOpen 40 = .ok (.iload_n 2, 1) := by decide +kernel
theorem dX4_isOpen_41 : decode cX4_isOpen 41 = .ok (.iaload, 1) := by decide +kernel
theorem dX4_isOpen_42 : decode cX4_isOpen 42 = .ok (.if_icmp .eq 5, 3) := by decide +kernel
theorem dX4_isOpen_45 : decode cX4_isOpen 45 = .ok (.iconst 0, 1) := by decide +kernel
theorem dX4_isOpen_46 : decode cX4_isOpen 46 = .ok (.ireturn, 1) := by decide +kernel
theorem dX4_isOpen_47 : decode cX4_isOpen 47 = .ok (.iinc 2 1, 3) := by decide +kernel
theorem dX4_isOpen_50 : decode cX4_isOpen 50 = .ok (.goto (-48), 3) := by decide +kernel
theorem dX4_isOpen_53 : decode cX4_isOpen 53 = .ok (.iconst 1, 1) := by decide +kernel
theorem dX4_isOpen_54 : decode cX4_isOpen 54 = .ok (.ireturn, 1) := by decide +kernel
set_option maxRecDepth 20000 in
theorem ggX4_openFitting_X5_rest : GoodIn wsX4_openFitting wsX5_rest := goodIn_r _ [4, 5, 6, 7, 8] (by decide +kernel) (by decide +kernel)
set_option maxRecDepth 20000 in
theorem gX4_openFitting_X5_rest_n43 : GoodIn wsX4_openFitting (wsX5_rest) := ggX4_openFitting_X5_rest
theorem dX4_openFitting_0 : decode cX4_openFitting 0 = .ok (.iconst 0, 1) := by decide +kernel
theorem dX4_openFitting_1 : decode cX4_openFitting 1 = .ok (.istore_n 3, 1) := by decide +kernel
theorem dX4_openFitting_2 : decode cX4_openFitting 2 = .ok (.iconst 0, 1) := by decide +kernel
theorem dX4_openFitting_3 : decode cX4_openFitting 3 = .ok (.istore 4, 2) := by decide +kernel
theorem dX4_openFitting_5 : decode cX4_openFitting 5 = .ok (.iload 4, 2) := by decide +kernel
theorem dX4_openFitting_7 : decode cX4_openFitting 7 = .ok (.iload_n 2, 1) := by decide +kernel
theorem dX4_openFitting_8 : decode cX4_openFitting 8 = .ok (.if_icmp .ge 36, 3) := by decide +kernel
theorem dX4_openFitting_11 : decode cX4_openFitting 11 = .ok (.iload 4, 2) := by decide +kernel
theorem dX4_openFitting_13 : decode cX4_openFitting 13 = .ok (.aload_n 0, 1) := by decide +kernel
theorem dX4_openFitting_14 : decode cX4_openFitting 14 = .ok (.getfield 18, 3) := by decide +kernel
theorem dX4_openFitting_17 : decode cX4_openFitting 17 = .ok (.arraylength, 1) := by decide +kernel
theorem dX4_openFitting_18 : decode cX4_openFitting 18 = .ok (.if_icmp .ge 26, 3) := by decide +kernel
theorem dX4_openFitting_21 : decode cX4_openFitting 21 = .ok (.iload_n 1, 1) := by decide +kernel
theorem dX4_openFitting_22 : decode cX4_openFitting 22 = .ok (.aload_n 0, 1) := by decide +kernel
theorem dX4_openFitting_23 : decode cX4_openFitting 23 = .ok (.getfield 18, 3) := by decide +kernel
theorem dX4_openFitting_26 : decode cX4_openFitting 26 = .ok (.iload 4, 2) := by decide +kernel
theorem dX4_openFitting_28 : decode cX4_openFitting 28 = .ok (.iaload, 1) := by decide +kernel
theorem dX4_openFitting_29 : decode cX4_openFitting 29 = .ok (.invokestatic 43, 3) := by decide +kernel
theorem dX4_openFitting_32 : decode cX4_openFitting 32 = .ok (.ifCond .ne 6, 3) := by decide +kernel
theorem dX4_openFitting_35 : decode cX4_openFitting 35 = .ok (.iinc 3 1, 3) := by decide +kernel
theorem dX4_openFitting_38 : decode cX4_openFitting 38 = .ok (.iinc 4 1, 3) := by decide +kernel
theorem dX4_openFitting_41 : decode cX4_openFitting 41 = .ok (.goto (-36), 3) := by decide +kernel
theorem dX4_openFitting_44 : decode cX4_openFitting 44 = .ok (.iload_n 3, 1) := by decide +kernel
theorem dX4_openFitting_45 : decode cX4_openFitting 45 = .ok (.ireturn, 1) := by decide +kernel
set_option maxRecDepth 20000 in
theorem ggX5_init_X2_init : GoodIn wsX5_init wsX2_init := goodIn_r _ [25, 26, 2, 3, 27, 28, 29, 30, 31, 57, 58, 59, 60] (by decide +kernel) (by decide +kernel)
set_option maxRecDepth 20000 in
theorem gX5_init_X2_init_n9 : GoodIn wsX5_init (wsX2_init) := ggX5_init_X2_init
set_option maxRecDepth 20000 in
theorem ggX5_init_X3_init : GoodIn wsX5_init wsX3_init := goodIn_r _ [34, 35, 2, 3, 36, 37, 38, 39, 5, 6, 24, 25, 26, 27, 28, 29, 30, 31, 66, 67, 68, 57, 58, 59, 60] (by decide +kernel) (by decide +kernel)
set_option maxRecDepth 20000 in
theorem gX5_init_X3_init : GoodIn wsX5_init (wsX3_init) := ggX5_init_X3_init
set_option maxRecDepth 20000 in
theorem ggX5_init_X0_init : GoodIn wsX5_init wsX0_init := goodIn_r _ [41, 42, 2, 3, 43, 44, 69] (by decide +kernel) (by decide +kernel)
set_option maxRecDepth 20000 in
theorem gX5_init_X0_init_n25 : GoodIn wsX5_init (wsX0_init) := ggX5_init_X0_init
set_option maxRecDepth 20000 in
theorem ggX5_init_X4_init : GoodIn wsX5_init wsX4_init := goodIn_r _ [46, 47, 2, 3, 29, 48, 49, 50, 51, 70, 71, 72, 73] (by decide +kernel) (by decide +kernel)
set_option maxRecDepth 20000 in
theorem gX5_init_X4_init_n32 : GoodIn wsX5_init (wsX4_init) := ggX5_init_X4_init
set_option maxRecDepth 20000 in
theorem ggX5_init_X1_init : GoodIn wsX5_init wsX1_init := goodIn_r _ [53, 54, 2, 3, 29, 55, 56, 74, 75] (by decide +kernel) (by decide +kernel)
set_option maxRecDepth 20000 in
theorem gX5_init_X1_init_n39 : GoodIn wsX5_init (wsX1_init) := ggX5_init_X1_init
theorem dX5_init_0 : decode cX5_init 0 = .ok (.aload_n 0, 1) := by decide +kernel
theorem dX5_init_1 : decode cX5_init 1 = .ok (.invokespecial 1, 3) := by decide +kernel
theorem dX5_init_4 : decode cX5_init 4 = .ok (.aload_n 0, 1) := by decide +kernel
theorem dX5_init_5 : decode cX5_init 5 = .ok (.new 7, 3) := by decide +kernel
theorem dX5_init_8 : decode cX5_init 8 = .ok (.dup, 1) := by decide +kernel
theorem dX5_init_9 : decode cX5_init 9 = .ok (.invokespecial 9, 3) := by decide +kernel
theorem dX5_init_12 : decode cX5_init 12 = .ok (.putfield 10, 3) := by decide +kernel
theorem dX5_init_15 : decode cX5_init 15 = .ok (.aload_n 0, 1) := by decide +kernel
theorem dX5_init_16 : decode cX5_init 16 = .ok (.new 16, 3) := by decide +kernel
theorem dX5_init_19 : decode cX5_init 19 = .ok (.dup, 1) := by decide +kernel
theorem dX5_init_20 : decode cX5_init 20 = .ok (.invokespecial 18, 3) := by decide +kernel
theorem dX5_init_23 : decode cX5_init 23 = .ok (.putfield 19, 3) := by decide +kernel
theorem dX5_init_26 : decode cX5_init 26 = .ok (.aload_n 0, 1) := by decide +kernel
theorem dX5_init_27 : decode cX5_init 27 = .ok (.new 23, 3) := by decide +kernel
theorem dX5_init_30 : decode cX5_init 30 = .ok (.dup, 1) := by decide +kernel
theorem dX5_init_31 : decode cX5_init 31 = .ok (.invokespecial 25, 3) := by decide +kernel
theorem dX5_init_34 : decode cX5_init 34 = .ok (.putfield 26, 3) := by decide +kernel
theorem dX5_init_37 : decode cX5_init 37 = .ok (.aload_n 0, 1) := by decide +kernel
theorem dX5_init_38 : decode cX5_init 38 = .ok (.new 30, 3) := by decide +kernel
theorem dX5_init_41 : decode cX5_init 41 = .ok (.dup, 1) := by decide +kernel
theorem dX5_init_42 : decode cX5_init 42 = .ok (.invokespecial 32, 3) := by decide +kernel
theorem dX5_init_45 : decode cX5_init 45 = .ok (.putfield 33, 3) := by decide +kernel
theorem dX5_init_48 : decode cX5_init 48 = .ok (.aload_n 0, 1) := by decide +kernel
theorem dX5_init_49 : decode cX5_init 49 = .ok (.new 37, 3) := by decide +kernel
theorem dX5_init_52 : decode cX5_init 52 = .ok (.dup, 1) := by decide +kernel
theorem dX5_init_53 : decode cX5_init 53 = .ok (.invokespecial 39, 3) := by decide +kernel
theorem dX5_init_56 : decode cX5_init 56 = .ok (.putfield 40, 3) := by decide +kernel
theorem dX5_init_59 : decode cX5_init 59 = .ok (.return_, 1) := by decide +kernel
set_option maxRecDepth 20000 in
theorem ggX5_codes_X5_isConstant : GoodIn wsX5_codes wsX5_isConstant := goodIn_r _ [7] (by decide +kernel) (by decide +kernel)
set_option maxRecDepth 20000 in
theorem gX5_codes_X5_isConstant : GoodIn wsX5_codes (va_wsS RX5 44 yX5_isConstant wsX5_isConstant) := goodIn_app (goodIn_of _ (by decide +kernel)) ggX5_codes_X5_isConstant
set_option maxRecDepth 20000 in
theorem ggX5_codes_X5_isWidth : GoodIn wsX5_codes wsX5_isWidth := goodIn_r _ [10] (by decide +kernel) (by decide +kernel)
set_option maxRecDepth 20000 in
theorem gX5_codes_X5_isWidth : GoodIn wsX5_codes (va_wsS RX5 48 yX5_isWidth wsX5_isWidth) := goodIn_app (goodIn_of _ (by decide +kernel)) ggX5_codes_X5_isWidth
set_option maxRecDepth 20000 in
theorem ggX5_codes_X3_remember : GoodIn wsX5_codes wsX3_remember := goodIn_r _ [15, 16, 17, 18, 19, 6, 20, 21, 22, 23, 24, 25, 26, 27, 28, 29, 30, 31, 32, 33, 34, 35, 36, 37, 38, 39, 40, 41, 42, 43, 44, 45, 46, 47, 48, 72, 73, 74, 75, 76, 77, 78] (by decide +kernel) (by decide +kernel)
set_option maxRecDepth 20000 in
theorem gX5_codes_X3_remember : GoodIn wsX5_codes (wsV RX5 52 RX3 yX3_remember wsX3_remember) := goodIn_app (goodIn_of _ (by decide +kernel)) ggX5_codes_X3_remember
set_option maxRecDepth 20000 in
theorem ggX5_codes_X2_startAs : GoodIn wsX5_codes wsX2_startAs := goodIn_r _ [52, 31, 32, 37, 44, 53, 54, 55, 56, 75, 76, 77, 78] (by decide +kernel) (by decide +kernel)
set_option maxRecDepth 20000 in
theorem gX5_codes_X2_startAs : GoodIn wsX5_codes (wsV RX5 56 RX2 yX2_startAs wsX2_startAs) := goodIn_app (goodIn_of _ (by decide +kernel)) ggX5_codes_X2_startAs
set_option maxRecDepth 20000 in
theorem ggX5_codes_X2_reach : GoodIn wsX5_codes wsX2_reach := goodIn_r _ [60, 31, 61, 62, 63, 29, 64, 32, 65, 6, 66, 75, 76, 77, 78] (by decide +kernel) (by decide +kernel)
set_option maxRecDepth 20000 in
theorem gX5_codes_X2_reach : GoodIn wsX5_codes (wsV RX5 60 RX2 yX2_reach wsX2_reach) := goodIn_app (goodIn_of _ (by decide +kernel)) ggX5_codes_X2_reach
theorem dX5_codes_0 : decode cX5_codes 0 = .ok (.iload_n 1, 1) := by decide +kernel
theorem dX5_codes_1 : decode cX5_codes 1 = .ok (.invokestatic 44, 3) := by decide +kernel
theorem dX5_codes_4 : decode cX5_codes 4 = .ok (.ifCond .eq 10, 3) := by decide +kernel
theorem dX5_codes_7 : decode cX5_codes 7 = .ok (.iload_n 2, 1) := by decide +kernel
theorem dX5_codes_8 : decode cX5_codes 8 = .ok (.invokestatic 48, 3) := by decide +kernel
theorem dX5_codes_11 : decode cX5_codes 11 = .ok (.ifCond .ne 6, 3) := by decide +kernel
theorem dX5_codes_14 : decode cX5_codes 14 = .ok (.ldc 51, 2) := by decide +kernel
theorem dX5_codes_16 : decode cX5_codes 16 = .ok (.ireturn, 1) := by decide +kernel
theorem dX5_codes_17 : decode cX5_codes 17 = .ok (.aload_n 0, 1) := by decide +kernel
theorem dX5_codes_18 : decode cX5_codes 18 = .ok (.getfield 19, 3) := by decide +kernel
theorem dX5_codes_21 : decode cX5_codes 21 = .ok (.aload_n 0, 1) := by decide +kernel
theorem dX5_codes_22 : decode cX5_codes 22 = .ok (.getfield 10, 3) := by decide +kernel
theorem dX5_codes_25 : decode cX5_codes 25 = .ok (.invokevirtual 52, 3) := by decide +kernel
theorem dX5_codes_28 : decode cX5_codes 28 = .ok (.aload_n 0, 1) := by decide +kernel
theorem dX5_codes_29 : decode cX5_codes 29 = .ok (.getfield 10, 3) := by decide +kernel
theorem dX5_codes_32 : decode cX5_codes 32 = .ok (.iload_n 1, 1) := by decide +kernel
theorem dX5_codes_33 : decode cX5_codes 33 = .ok (.iload_n 2, 1) := by decide +kernel
theorem dX5_codes_34 : decode cX5_codes 34 = .ok (.invokevirtual 56, 3) := by decide +kernel
theorem dX5_codes_37 : decode cX5_codes 37 = .ok (.aload_n 0, 1) := by decide +kernel
theorem dX5_codes_38 : decode cX5_codes 38 = .ok (.getfield 10, 3) := by decide +kernel
theorem dX5_codes_41 : decode cX5_codes 41 = .ok (.invokevirtual 60, 3) := by decide +kernel
theorem dX5_codes_44 : decode cX5_codes 44 = .ok (.ireturn, 1) := by decide +kernel
set_option maxRecDepth 20000 in
theorem ggX5_sets_X5_isRegister : GoodIn wsX5_sets wsX5_isRegister := goodIn_r _ [7] (by decide +kernel) (by decide +kernel)
set_option maxRecDepth 20000 in
theorem gX5_sets_X5_isRegister : GoodIn wsX5_sets (va_wsS RX5 64 yX5_isRegister wsX5_isRegister) := goodIn_app (goodIn_of _ (by decide +kernel)) ggX5_sets_X5_isRegister
set_option maxRecDepth 20000 in
theorem ggX5_sets_X2_reaches : GoodIn wsX5_sets wsX2_reaches := goodIn_r _ [12, 13, 14, 15, 11, 16, 17, 18, 19, 20, 21, 22, 23, 6, 24, 66, 67, 68, 69] (by decide +kernel) (by decide +kernel)
set_option maxRecDepth 20000 in
theorem gX5_sets_X2_reaches : GoodIn wsX5_sets (wsV RX5 67 RX2 yX2_reaches wsX2_reaches) := goodIn_app (goodIn_of _ (by decide +kernel)) ggX5_sets_X2_reaches
set_option maxRecDepth 20000 in
theorem ggX5_sets_X3_remember : GoodIn wsX5_sets wsX3_remember := goodIn_r _ [29, 30, 31, 32, 33, 6, 34, 35, 36, 37, 38, 39, 40, 41, 42, 11, 43, 17, 22, 44, 45, 46, 47, 48, 5, 7, 49, 50, 51, 52, 53, 54, 55, 56, 57, 70, 71, 72, 66, 67, 68, 69] (by decide +kernel) (by decide +kernel)
set_option maxRecDepth 20000 in
theorem gX5_sets_X3_remember : GoodIn wsX5_sets (wsV RX5 52 RX3 yX3_remember wsX3_remember) := goodIn_app (goodIn_of _ (by decide +kernel)) ggX5_sets_X3_remember
set_option maxRecDepth 20000 in
theorem ggX5_sets_X5_rest : GoodIn wsX5_sets wsX5_rest := goodIn_r _ [34, 35, 36, 37, 38] (by decide +kernel) (by decide +kernel)
set_option maxRecDepth 20000 in
theorem gX5_sets_X5_rest : GoodIn wsX5_sets (va_wsS RX5 74 yX5_rest wsX5_rest) := goodIn_app (goodIn_of _ (by decide +kernel)) ggX5_sets_X5_rest
set_option maxRecDepth 20000 in
theorem ggX5_sets_X2_put : GoodIn wsX5_sets wsX2_put := goodIn_r _ [57, 48, 53, 5, 6, 7, 66, 67, 68, 69] (by decide +kernel) (by decide +kernel)
set_option maxRecDepth 20000 in
theorem gX5_sets_X2_put : GoodIn wsX5_sets (wsV RX5 78 RX2 yX2_put wsX2_put) := goodIn_app (goodIn_of _ (by decide +kernel)) ggX5_sets_X2_put
set_option maxRecDepth 20000 in
theorem ggX5_sets_X2_wordOf : GoodIn wsX5_sets wsX2_wordOf := goodIn_r _ [47, 48, 5, 6, 7, 66, 67, 68, 69] (by decide +kernel) (by decide +kernel)
set_option maxRecDepth 20000 in
theorem gX5_sets_X2_wordOf : GoodIn wsX5_sets (wsV RX5 82 RX2 yX2_wordOf wsX2_wordOf) := goodIn_app (goodIn_of _ (by decide +kernel)) ggX5_sets_X2_wordOf
theorem dX5_sets_0 : decode cX5_sets 0 = .ok (.iload_n 1, 1) := by decide +kernel
theorem dX5_sets_1 : decode cX5_sets 1 = .ok (.invokestatic 64, 3) := by decide +kernel
theorem dX5_sets_4 : decode cX5_sets 4 = .ok (.ifCond .eq 14, 3) := by decide +kernel
theorem dX5_sets_7 : decode cX5_sets 7 = .ok (.aload_n 0, 1) := by decide +kernel
theorem dX5_sets_8 : decode cX5_sets 8 = .ok (.getfield 10, 3) := by decide +kernel
theorem dX5_sets_11 : decode cX5_sets 11 = .ok (.iload_n 2, 1) := by decide +kernel
theorem dX5_sets_12 : decode cX5_sets 12 = .ok (.invokevirtual 67, 3) := by decide +kernel
theorem dX5_sets_15 : decode cX5_sets 15 = .ok (.ifCond .ne 6, 3) := by decide +kernel
theorem dX5_sets_18 : decode cX5_sets 18 = .ok (.ldc 51, 2) := by decide +kernel
theorem dX5_sets_20 : decode cX5_sets 20 = .ok (.ireturn, 1) := by decide +kernel
theorem dX5_sets_21 : decode cX5_sets 21 = .ok (.aload_n 0, 1) := by decide +kernel
theorem dX5_sets_22 : decode cX5_sets 22 = .ok (.getfield 19, 3) := by decide +kernel
theorem dX5_sets_25 : decode cX5_sets 25 = .ok (.aload_n 0, 1) := by decide +kernel
theorem dX5_sets_26 : decode cX5_sets 26 = .ok (.getfield 10, 3) := by decide +kernel
theorem dX5_sets_29 : decode cX5_sets 29 = .ok (.invokevirtual 52, 3) := by decide +kernel
theorem dX5_sets_32 : decode cX5_sets 32 = .ok (.aload_n 0, 1) := by decide +kernel
theorem dX5_sets_33 : decode cX5_sets 33 = .ok (.getfield 10, 3) := by decide +kernel
theorem dX5_sets_36 : decode cX5_sets 36 = .ok (.iload_n 1, 1) := by decide +kernel
theorem dX5_sets_37 : decode cX5_sets 37 = .ok (.aload_n 0, 1) := by decide +kernel
theorem dX5_sets_38 : decode cX5_sets 38 = .ok (.getfield 10, 3) := by decide +kernel
theorem dX5_sets_41 : decode cX5_sets 41 = .ok (.getfield 70, 3) := by decide +kernel
theorem dX5_sets_44 : decode cX5_sets 44 = .ok (.iload_n 2, 1) := by decide +kernel
theorem dX5_sets_45 : decode cX5_sets 45 = .ok (.imul, 1) := by decide +kernel
theorem dX5_sets_46 : decode cX5_sets 46 = .ok (.iload_n 2, 1) := by decide +kernel
theorem dX5_sets_47 : decode cX5_sets 47 = .ok (.bipush 15, 2) := by decide +kernel
theorem dX5_sets_49 : decode cX5_sets 49 = .ok (.invokestatic 74, 3) := by decide +kernel
theorem dX5_sets_52 : decode cX5_sets 52 = .ok (.invokevirtual 78, 3) := by decide +kernel
theorem dX5_sets_55 : decode cX5_sets 55 = .ok (.aload_n 0, 1) := by decide +kernel
theorem dX5_sets_56 : decode cX5_sets 56 = .ok (.getfield 10, 3) := by decide +kernel
theorem dX5_sets_59 : decode cX5_sets 59 = .ok (.iload_n 1, 1) := by decide +kernel
theorem dX5_sets_60 : decode cX5_sets 60 = .ok (.invokevirtual 82, 3) := by decide +kernel
theorem dX5_sets_63 : decode cX5_sets 63 = .ok (.ireturn, 1) := by decide +kernel
set_option maxRecDepth 20000 in
theorem ggX5_does_X5_isRegister : GoodIn wsX5_does wsX5_isRegister := goodIn_r _ [9] (by decide +kernel) (by decide +kernel)
set_option maxRecDepth 20000 in
theorem gX5_does_X5_isRegister : GoodIn wsX5_does (va_wsS RX5 64 yX5_isRegister wsX5_isRegister) := goodIn_app (goodIn_of _ (by decide +kernel)) ggX5_does_X5_isRegister
set_option maxRecDepth 20000 in
theorem ggX5_does_X2_canHalve : GoodIn wsX5_does wsX2_canHalve := goodIn_r _ [14, 15, 16, 17, 13, 18, 19, 7, 8, 9, 20, 21, 22, 23, 24, 25, 26, 27, 28, 29, 30, 31, 32, 33, 34, 35, 36, 82, 83, 84, 85] (by decide +kernel) (by decide +kernel)
set_option maxRecDepth 20000 in
theorem gX5_does_X2_canHalve : GoodIn wsX5_does (wsV RX5 86 RX2 yX2_canHalve wsX2_canHalve) := goodIn_app (goodIn_of _ (by decide +kernel)) ggX5_does_X2_canHalve
set_option maxRecDepth 20000 in
theorem ggX5_does_X2_wordOf : GoodIn wsX5_does wsX2_wordOf := goodIn_r _ [18, 19, 7, 8, 9, 82, 83, 84, 85] (by decide +kernel) (by decide +kernel)
set_option maxRecDepth 20000 in
theorem gX5_does_X2_wordOf : GoodIn wsX5_does (wsV RX5 82 RX2 yX2_wordOf wsX2_wordOf) := goodIn_app (goodIn_of _ (by decide +kernel)) ggX5_does_X2_wordOf
set_option maxRecDepth 20000 in
theorem ggX5_does_X5_wordDone : GoodIn wsX5_does wsX5_wordDone := goodIn_r _ [41, 2, 42, 43, 35, 8, 36, 77, 78, 79, 80, 81, 82, 83, 84, 85] (by decide +kernel) (by decide +kernel)
set_option maxRecDepth 20000 in
theorem gX5_does_X5_wordDone : GoodIn wsX5_does (wsV RX5 90 RX5 yX5_wordDone wsX5_wordDone) := goodIn_app (goodIn_of _ (by decide +kernel)) ggX5_does_X5_wordDone
set_option maxRecDepth 20000 in
theorem ggX5_does_X2_top : GoodIn wsX5_does wsX2_top := goodIn_r _ [47, 48, 82, 83, 84, 85] (by decide +kernel) (by decide +kernel)
set_option maxRecDepth 20000 in
theorem gX5_does_X2_top : GoodIn wsX5_does (wsV RX5 94 RX2 yX2_top wsX2_top) := goodIn_app (goodIn_of _ (by decide +kernel)) ggX5_does_X2_top
set_option maxRecDepth 20000 in
theorem ggX5_does_X2_residueOf : GoodIn wsX5_does wsX2_residueOf := goodIn_r _ [52, 53, 7, 8, 9, 82, 83, 84, 85] (by decide +kernel) (by decide +kernel)
set_option maxRecDepth 20000 in
theorem gX5_does_X2_residueOf : GoodIn wsX5_does (wsV RX5 98 RX2 yX2_residueOf wsX2_residueOf) := goodIn_app (goodIn_of _ (by decide +kernel)) ggX5_does_X2_residueOf
set_option maxRecDepth 20000 in
theorem ggX5_does_X5_residueDone : GoodIn wsX5_does wsX5_residueDone := goodIn_r _ [56] (by decide +kernel) (by decide +kernel)
set_option maxRecDepth 20000 in
theorem gX5_does_X5_residueDone : GoodIn wsX5_does (va_wsS RX5 101 yX5_residueDone wsX5_residueDone) := goodIn_app (goodIn_of _ (by decide +kernel)) ggX5_does_X5_residueDone
set_option maxRecDepth 20000 in
theorem ggX5_does_X3_remember : GoodIn wsX5_does wsX3_remember := goodIn_r _ [61, 62, 63, 64, 25, 8, 26, 27, 28, 29, 30, 65, 66, 67, 68, 13, 69, 24, 48, 15, 16, 17, 18, 19, 7, 9, 70, 50, 51, 52, 53, 71, 72, 73, 74, 86, 87, 88, 82, 83, 84, 85] (by decide +kernel) (by decide +kernel)
set_option maxRecDepth 20000 in
theorem gX5_does_X3_remember : GoodIn wsX5_does (wsV RX5 52 RX3 yX3_remember wsX3_remember) := goodIn_app (goodIn_of _ (by decide +kernel)) ggX5_does_X3_remember
set_option maxRecDepth 20000 in
theorem ggX5_does_X5_rest : GoodIn wsX5_does wsX5_rest := goodIn_r _ [26, 27, 28, 29, 30] (by decide +kernel) (by decide +kernel)
set_option maxRecDepth 20000 in
theorem gX5_does_X5_rest : GoodIn wsX5_does (va_wsS RX5 74 yX5_rest wsX5_rest) := goodIn_app (goodIn_of _ (by decide +kernel)) ggX5_does_X5_rest
set_option maxRecDepth 20000 in
theorem ggX5_does_X2_put : GoodIn wsX5_does wsX2_put := goodIn_r _ [74, 19, 53, 7, 8, 9, 82, 83, 84, 85] (by decide +kernel) (by decide +kernel)
set_option maxRecDepth 20000 in
theorem gX5_does_X2_put : GoodIn wsX5_does (wsV RX5 78 RX2 yX2_put wsX2_put) := goodIn_app (goodIn_of _ (by decide +kernel)) ggX5_does_X2_put
theorem dX5_does_0 : decode cX5_does 0 = .ok (.iload_n 1, 1) := by decide +kernel
theorem dX5_does_1 : decode cX5_does 1 = .ok (.ifCond .lt 15, 3) := by decide +kernel
theorem dX5_does_4 : decode cX5_does 4 = .ok (.iload_n 1, 1) := by decide +kernel
theorem dX5_does_5 : decode cX5_does 5 = .ok (.iconst 5, 1) := by decide +kernel
theorem dX5_does_6 : decode cX5_does 6 = .ok (.if_icmp .gt 10, 3) := by decide +kernel
theorem dX5_does_9 : decode cX5_does 9 = .ok (.iload_n 2, 1) := by decide +kernel
theorem dX5_does_10 : decode cX5_does 10 = .ok (.invokestatic 64, 3) := by decide +kernel
theorem dX5_does_13 : decode cX5_does 13 = .ok (.ifCond .ne 6, 3) := by decide +kernel
theorem dX5_does_16 : decode cX5_does 16 = .ok (.ldc 51, 2) := by decide +kernel
theorem dX5_does_18 : decode cX5_does 18 = .ok (.ireturn, 1) := by decide +kernel
theorem dX5_does_19 : decode cX5_does 19 = .ok (.iload_n 1, 1) := by decide +kernel
theorem dX5_does_20 : decode cX5_does 20 = .ok (.iconst 2, 1) := by decide +kernel
theorem dX5_does_21 : decode cX5_does 21 = .ok (.if_icmp .gt 13, 3) := by decide +kernel
theorem dX5_does_24 : decode cX5_does 24 = .ok (.iload_n 3, 1) := by decide +kernel
theorem dX5_does_25 : decode cX5_does 25 = .ok (.invokestatic 64, 3) := by decide +kernel
theorem dX5_does_28 : decode cX5_does 28 = .ok (.ifCond .ne 6, 3) := by decide +kernel
theorem dX5_does_31 : decode cX5_does 31 = .ok (.ldc 51, 2) := by decide +kernel
theorem dX5_does_33 : decode cX5_does 33 = .ok (.ireturn, 1) := by decide +kernel
theorem dX5_does_34 : decode cX5_does 34 = .ok (.iload_n 1, 1) := by decide +kernel
theorem dX5_does_35 : decode cX5_does 35 = .ok (.iconst 5, 1) := by decide +kernel
theorem dX5_does_36 : decode cX5_does 36 = .ok (.if_icmp .ne 17, 3) := by decide +kernel
theorem dX5_does_39 : decode cX5_does 39 = .ok (.aload_n 0, 1) := by decide +kernel
theorem dX5_does_40 : decode cX5_does 40 = .ok (.getfield 10, 3) := by decide +kernel
theorem dX5_does_43 : decode cX5_does 43 = .ok (.iload_n 2, 1) := by decide +kernel
theorem dX5_does_44 : decode cX5_does 44 = .ok (.invokevirtual 86, 3) := by decide +kernel
theorem dX5_does_47 : decode cX5_does 47 = .ok (.ifCond .ne 6, 3) := by decide +kernel
theorem dX5_does_50 : decode cX5_does 50 = .ok (.ldc 89, 2) := by decide +kernel
theorem dX5_does_52 : decode cX5_does 52 = .ok (.ireturn, 1) := by decide +kernel
theorem dX5_does_53 : decode cX5_does 53 = .ok (.aload_n 0, 1) := by decide +kernel
theorem dX5_does_54 : decode cX5_does 54 = .ok (.iload_n 1, 1) := by decide +kernel
theorem dX5_does_55 : decode cX5_does 55 = .ok (.aload_n 0, 1) := by decide +kernel
theorem dX5_does_56 : decode cX5_does 56 = .ok (.getfield 10, 3) := by decide +kernel
theorem dX5_does_59 : decode cX5_does 59 = .ok (.iload_n 2, 1) := by decide +kernel
theorem dX5_does_60 : decode cX5_does 60 = .ok (.invokevirtual 82, 3) := by decide +kernel
theorem dX5_does_63 : decode cX5_does 63 = .ok (.i2l, 1) := by decide +kernel
theorem dX5_does_64 : decode cX5_does 64 = .ok (.aload_n 0, 1) := by decide +kernel
theorem dX5_does_65 : decode cX5_does 65 = .ok (.getfield 10, 3) := by decide +kernel
theorem dX5_does_68 : decode cX5_does 68 = .ok (.iload_n 3, 1) := by decide +kernel
theorem dX5_does_69 : decode cX5_does 69 = .ok (.invokevirtual 82, 3) := by decide +kernel
theorem dX5_does_72 : decode cX5_does 72 = .ok (.i2l, 1) := by decide +kernel
theorem dX5_does_73 : decode cX5_does 73 = .ok (.invokevirtual 90, 3) := by decide +kernel
theorem dX5_does_76 : decode cX5_does 76 = .ok (.lstore 4, 2) := by decide +kernel
theorem dX5_does_78 : decode cX5_does 78 = .ok (.lload 4, 2) := by decide +kernel
theorem dX5_does_80 : decode cX5_does 80 = .ok (.aload_n 0, 1) := by decide +kernel
theorem dX5_does_81 : decode cX5_does 81 = .ok (.getfield 10, 3) := by decide +kernel
theorem dX5_does_84 : decode cX5_does 84 = .ok (.invokevirtual 94, 3) := by decide +kernel
theorem dX5_does_87 : decode cX5_does 87 = .ok (.ineg, 1) := by decide +kernel
theorem dX5_does_88 : decode cX5_does 88 = .ok (.i2l, 1) := by decide +kernel
theorem dX5_does_89 : decode cX5_does 89 = .ok (.lcmp, 1) := by decide +kernel
theorem dX5_does_90 : decode cX5_does 90 = .ok (.ifCond .lt 17, 3) := by decide +kernel
theorem dX5_does_93 : decode cX5_does 93 = .ok (.lload 4, 2) := by decide +kernel
theorem dX5_does_95 : decode cX5_does 95 = .ok (.aload_n 0, 1) := by decide +kernel
theorem dX5_does_96 : decode cX5_does 96 = .ok (.getfield 10, 3) := by decide +kernel
theorem dX5_does_99 : decode cX5_does 99 = .ok (.invokevirtual 94, 3) := by decide +kernel
theorem dX5_does_102 : decode cX5_does 102 = .ok (.i2l, 1) := by decide +kernel
theorem dX5_does_103 : decode cX5_does 103 = .ok (.lcmp, 1) := by decide +kernel
theorem dX5_does_104 : decode cX5_does 104 = .ok (.ifCond .le 6, 3) := by decide +kernel
theorem dX5_does_107 : decode cX5_does 107 = .ok (.ldc 97, 2) := by decide +kernel
theorem dX5_does_109 : decode cX5_does 109 = .ok (.ireturn, 1) := by decide +kernel
theorem dX5_does_110 : decode cX5_does 110 = .ok (.iload_n 1, 1) := by decide +kernel
theorem dX5_does_111 : decode cX5_does 111 = .ok (.aload_n 0, 1) := by decide +kernel
theorem dX5_does_112 : decode cX5_does 112 = .ok (.getfield 10, 3) := by decide +kernel
theorem dX5_does_115 : decode cX5_does 115 = .ok (.iload_n 2, 1) := by decide +kernel
theorem dX5_does_116 : decode cX5_does 116 = .ok (.invokevirtual 98, 3) := by decide +kernel
theorem dX5_does_119 : decode cX5_does 119 = .ok (.aload_n 0, 1) := by decide +kernel
theorem dX5_does_120 : decode cX5_does 120 = .ok (.getfield 10, 3) := by decide +kernel
theorem dX5_does_123 : decode cX5_does 123 = .ok (.iload_n 3, 1) := by decide +kernel
theorem dX5_does_124 : decode cX5_does 124 = .ok (.invokevirtual 98, 3) := by decide +kernel
theorem dX5_does_127 : decode cX5_does 127 = .ok (.invokestatic 101, 3) := by decide +kernel
theorem dX5_does_130 : decode cX5_does 130 = .ok (.istore 6, 2) := by decide +kernel
theorem dX5_does_132 : decode cX5_does 132 = .ok (.aload_n 0, 1) := by decide +kernel
theorem dX5_does_133 : decode cX5_does 133 = .ok (.getfield 19, 3) := by decide +kernel
theorem dX5_does_136 : decode cX5_does 136 = .ok (.aload_n 0, 1) := by decide +kernel
theorem dX5_does_137 : decode cX5_does 137 = .ok (.getfield 10, 3) := by decide +kernel
theorem dX5_does_140 : decode cX5_does 140 = .ok (.invokevirtual 52, 3) := by decide +kernel
theorem dX5_does_143 : decode cX5_does 143 = .ok (.aload_n 0, 1) := by decide +kernel
theorem dX5_does_144 : decode cX5_does 144 = .ok (.getfield 10, 3) := by decide +kernel
theorem dX5_does_147 : decode cX5_does 147 = .ok (.iload_n 2, 1) := by decide +kernel
theorem dX5_does_148 : decode cX5_does 148 = .ok (.lload 4, 2) := by decide +kernel
theorem dX5_does_150 : decode cX5_does 150 = .ok (.l2i, 1) := by decide +kernel
theorem dX5_does_151 : decode cX5_does 151 = .ok (.iload 6, 2) := by decide +kernel
theorem dX5_does_153 : decode cX5_does 153 = .ok (.bipush 15, 2) := by decide +kernel
theorem dX5_does_155 : decode cX5_does 155 = .ok (.invokestatic 74, 3) := by decide +kernel
theorem dX5_does_158 : decode cX5_does 158 = .ok (.invokevirtual 78, 3) := by decide +kernel
theorem dX5_does_161 : decode cX5_does 161 = .ok (.aload_n 0, 1) := by decide +kernel
theorem dX5_does_162 : decode cX5_does 162 = .ok (.getfield 10, 3) := by decide +kernel
theorem dX5_does_165 : decode cX5_does 165 = .ok (.iload_n 2, 1) := by decide +kernel
theorem dX5_does_166 : decode cX5_does 166 = .ok (.invokevirtual 82, 3) := by decide +kernel
theorem dX5_does_169 : decode cX5_does 169 = .ok (.ireturn, 1) := by decide +kernel
set_option maxRecDepth 20000 in
theorem ggX5_strikes_X5_isRegister : GoodIn wsX5_strikes wsX5_isRegister := goodIn_r _ [8] (by decide +kernel) (by decide +kernel)
set_option maxRecDepth 20000 in
theorem gX5_strikes_X5_isRegister : GoodIn wsX5_strikes (va_wsS RX5 64 yX5_isRegister wsX5_isRegister) := goodIn_app (goodIn_of _ (by decide +kernel)) ggX5_strikes_X5_isRegister
set_option maxRecDepth 20000 in
theorem ggX5_strikes_X2_strikeCount : GoodIn wsX5_strikes wsX2_strikeCount := goodIn_r _ [13, 14, 64, 65, 66, 67] (by decide +kernel) (by decide +kernel)
set_option maxRecDepth 20000 in
theorem gX5_strikes_X2_strikeCount : GoodIn wsX5_strikes (wsV RX5 105 RX2 yX2_strikeCount wsX2_strikeCount) := goodIn_app (goodIn_of _ (by decide +kernel)) ggX5_strikes_X2_strikeCount
set_option maxRecDepth 20000 in
theorem ggX5_strikes_X2_wordOf : GoodIn wsX5_strikes wsX2_wordOf := goodIn_r _ [18, 19, 6, 7, 8, 64, 65, 66, 67] (by decide +kernel) (by decide +kernel)
set_option maxRecDepth 20000 in
theorem gX5_strikes_X2_wordOf : GoodIn wsX5_strikes (wsV RX5 82 RX2 yX2_wordOf wsX2_wordOf) := goodIn_app (goodIn_of _ (by decide +kernel)) ggX5_strikes_X2_wordOf
set_option maxRecDepth 20000 in
theorem ggX5_strikes_X5_change : GoodIn wsX5_strikes wsX5_change := goodIn_r _ [22] (by decide +kernel) (by decide +kernel)
set_option maxRecDepth 20000 in
theorem gX5_strikes_X5_change : GoodIn wsX5_strikes (va_wsS RX5 108 yX5_change wsX5_change) := goodIn_app (goodIn_of _ (by decide +kernel)) ggX5_strikes_X5_change
set_option maxRecDepth 20000 in
theorem ggX5_strikes_X2_top : GoodIn wsX5_strikes wsX2_top := goodIn_r _ [26, 14, 64, 65, 66, 67] (by decide +kernel) (by decide +kernel)
set_option maxRecDepth 20000 in
theorem gX5_strikes_X2_top : GoodIn wsX5_strikes (wsV RX5 94 RX2 yX2_top wsX2_top) := goodIn_app (goodIn_of _ (by decide +kernel)) ggX5_strikes_X2_top
set_option maxRecDepth 20000 in
theorem ggX5_strikes_X3_remember : GoodIn wsX5_strikes wsX3_remember := goodIn_r _ [31, 32, 33, 34, 35, 7, 36, 37, 38, 39, 40, 41, 42, 43, 44, 12, 45, 46, 14, 47, 16, 17, 18, 19, 6, 8, 48, 49, 50, 51, 52, 53, 54, 55, 56, 68, 69, 70, 64, 65, 66, 67] (by decide +kernel) (by decide +kernel)
set_option maxRecDepth 20000 in
theorem gX5_strikes_X3_remember : GoodIn wsX5_strikes (wsV RX5 52 RX3 yX3_remember wsX3_remember) := goodIn_app (goodIn_of _ (by decide +kernel)) ggX5_strikes_X3_remember
set_option maxRecDepth 20000 in
theorem ggX5_strikes_X2_residueOf : GoodIn wsX5_strikes wsX2_residueOf := goodIn_r _ [51, 52, 6, 7, 8, 64, 65, 66, 67] (by decide +kernel) (by decide +kernel)
set_option maxRecDepth 20000 in
theorem gX5_strikes_X2_residueOf : GoodIn wsX5_strikes (wsV RX5 98 RX2 yX2_residueOf wsX2_residueOf) := goodIn_app (goodIn_of _ (by decide +kernel)) ggX5_strikes_X2_residueOf
set_option maxRecDepth 20000 in
theorem ggX5_strikes_X2_put : GoodIn wsX5_strikes wsX2_put := goodIn_r _ [56, 19, 52, 6, 7, 8, 64, 65, 66, 67] (by decide +kernel) (by decide +kernel)
set_option maxRecDepth 20000 in
theorem gX5_strikes_X2_put : GoodIn wsX5_strikes (wsV RX5 78 RX2 yX2_put wsX2_put) := goodIn_app (goodIn_of _ (by decide +kernel)) ggX5_strikes_X2_put
theorem dX5_strikes_0 : decode cX5_strikes 0 = .ok (.iload_n 1, 1) := by decide +kernel
theorem dX5_strikes_1 : decode cX5_strikes 1 = .ok (.invokestatic 64, 3) := by decide +kernel
theorem dX5_strikes_4 : decode cX5_strikes 4 = .ok (.ifCond .eq 18, 3) := by decide +kernel
theorem dX5_strikes_7 : decode cX5_strikes 7 = .ok (.iload_n 2, 1) := by decide +kernel
theorem dX5_strikes_8 : decode cX5_strikes 8 = .ok (.ifCond .lt 14, 3) := by decide +kernel
theorem dX5_strikes_11 : decode cX5_strikes 11 = .ok (.iload_n 2, 1) := by decide +kernel
theorem dX5_strikes_12 : decode cX5_strikes 12 = .ok (.aload_n 0, 1) := by decide +kernel
theorem dX5_strikes_13 : decode cX5_strikes 13 = .ok (.getfield 10, 3) := by decide +kernel
theorem dX5_strikes_16 : decode cX5_strikes 16 = .ok (.invokevirtual 105, 3) := by decide +kernel
theorem dX5_strikes_19 : decode cX5_strikes 19 = .ok (.if_icmp .lt 6, 3) := by decide +kernel
theorem dX5_strikes_22 : decode cX5_strikes 22 = .ok (.ldc 51, 2) := by decide +kernel
theorem dX5_strikes_24 : decode cX5_strikes 24 = .ok (.ireturn, 1) := by decide +kernel
theorem dX5_strikes_25 : decode cX5_strikes 25 = .ok (.aload_n 0, 1) := by decide +kernel
theorem dX5_strikes_26 : decode cX5_strikes 26 = .ok (.getfield 10, 3) := by decide +kernel
theorem dX5_strikes_29 : decode cX5_strikes 29 = .ok (.iload_n 1, 1) := by decide +kernel
theorem dX5_strikes_30 : decode cX5_strikes 30 = .ok (.invokevirtual 82, 3) := by decide +kernel
theorem dX5_strikes_33 : decode cX5_strikes 33 = .ok (.iload_n 2, 1) := by decide +kernel
theorem dX5_strikes_34 : decode cX5_strikes 34 = .ok (.invokestatic 108, 3) := by decide +kernel
theorem dX5_strikes_37 : decode cX5_strikes 37 = .ok (.iadd, 1) := by decide +kernel
theorem dX5_strikes_38 : decode cX5_strikes 38 = .ok (.istore_n 3, 1) := by decide +kernel
theorem dX5_strikes_39 : decode cX5_strikes 39 = .ok (.iconst 2, 1) := by decide +kernel
theorem dX5_strikes_40 : decode cX5_strikes 40 = .ok (.aload_n 0, 1) := by decide +kernel
theorem dX5_strikes_41 : decode cX5_strikes 41 = .ok (.getfield 10, 3) := by decide +kernel
theorem dX5_strikes_44 : decode cX5_strikes 44 = .ok (.invokevirtual 94, 3) := by decide +kernel
theorem dX5_strikes_47 : decode cX5_strikes 47 = .ok (.imul, 1) := by decide +kernel
theorem dX5_strikes_48 : decode cX5_strikes 48 = .ok (.istore 4, 2) := by decide +kernel
theorem dX5_strikes_50 : decode cX5_strikes 50 = .ok (.iload_n 3, 1) := by decide +kernel
theorem dX5_strikes_51 : decode cX5_strikes 51 = .ok (.iload 4, 2) := by decide +kernel
theorem dX5_strikes_53 : decode cX5_strikes 53 = .ok (.ineg, 1) := by decide +kernel
theorem dX5_strikes_54 : decode cX5_strikes 54 = .ok (.if_icmp .lt 9, 3) := by decide +kernel
theorem dX5_strikes_57 : decode cX5_strikes 57 = .ok (.iload_n 3, 1) := by decide +kernel
theorem dX5_strikes_58 : decode cX5_strikes 58 = .ok (.iload 4, 2) := by decide +kernel
theorem dX5_strikes_60 : decode cX5_strikes 60 = .ok (.if_icmp .le 6, 3) := by decide +kernel
theorem dX5_strikes_63 : decode cX5_strikes 63 = .ok (.ldc 89, 2) := by decide +kernel
theorem dX5_strikes_65 : decode cX5_strikes 65 = .ok (.ireturn, 1) := by decide +kernel
theorem dX5_strikes_66 : decode cX5_strikes 66 = .ok (.aload_n 0, 1) := by decide +kernel
theorem dX5_strikes_67 : decode cX5_strikes 67 = .ok (.getfield 19, 3) := by decide +kernel
theorem dX5_strikes_70 : decode cX5_strikes 70 = .ok (.aload_n 0, 1) := by decide +kernel
theorem dX5_strikes_71 : decode cX5_strikes 71 = .ok (.getfield 10, 3) := by decide +kernel
theorem dX5_strikes_74 : decode cX5_strikes 74 = .ok (.invokevirtual 52, 3) := by decide +kernel
theorem dX5_strikes_77 : decode cX5_strikes 77 = .ok (.aload_n 0, 1) := by decide +kernel
theorem dX5_strikes_78 : decode cX5_strikes 78 = .ok (.getfield 10, 3) := by decide +kernel
theorem dX5_strikes_81 : decode cX5_strikes 81 = .ok (.iload_n 1, 1) := by decide +kernel
theorem dX5_strikes_82 : decode cX5_strikes 82 = .ok (.iload_n 3, 1) := by decide +kernel
theorem dX5_strikes_83 : decode cX5_strikes 83 = .ok (.aload_n 0, 1) := by decide +kernel
theorem dX5_strikes_84 : decode cX5_strikes 84 = .ok (.getfield 10, 3) := by decide +kernel
theorem dX5_strikes_87 : decode cX5_strikes 87 = .ok (.iload_n 1, 1) := by decide +kernel
theorem dX5_strikes_88 : decode cX5_strikes 88 = .ok (.invokevirtual 98, 3) := by decide +kernel
theorem dX5_strikes_91 : decode cX5_strikes 91 = .ok (.invokevirtual 78, 3) := by decide +kernel
theorem dX5_strikes_94 : decode cX5_strikes 94 = .ok (.iload_n 3, 1) := by decide +kernel
theorem dX5_strikes_95 : decode cX5_strikes 95 = .ok (.ireturn, 1) := by decide +kernel
set_option maxRecDepth 20000 in
theorem ggX5_bends_X5_isRegister : GoodIn wsX5_bends wsX5_isRegister := goodIn_r _ [7] (by decide +kernel) (by decide +kernel)
set_option maxRecDepth 20000 in
theorem gX5_bends_X5_isRegister : GoodIn wsX5_bends (va_wsS RX5 64 yX5_isRegister wsX5_isRegister) := goodIn_app (goodIn_of _ (by decide +kernel)) ggX5_bends_X5_isRegister
set_option maxRecDepth 20000 in
theorem ggX5_bends_X3_remember : GoodIn wsX5_bends wsX3_remember := goodIn_r _ [12, 13, 14, 15, 16, 6, 17, 18, 19, 20, 21, 22, 23, 24, 25, 26, 27, 28, 29, 30, 31, 32, 33, 34, 5, 7, 35, 36, 37, 38, 39, 40, 41, 42, 43, 53, 54, 55, 56, 57, 58, 59] (by decide +kernel) (by decide +kernel)
set_option maxRecDepth 20000 in
theorem gX5_bends_X3_remember : GoodIn wsX5_bends (wsV RX5 52 RX3 yX3_remember wsX3_remember) := goodIn_app (goodIn_of _ (by decide +kernel)) ggX5_bends_X3_remember
set_option maxRecDepth 20000 in
theorem ggX5_bends_X2_wordOf : GoodIn wsX5_bends wsX2_wordOf := goodIn_r _ [33, 34, 5, 6, 7, 56, 57, 58, 59] (by decide +kernel) (by decide +kernel)
set_option maxRecDepth 20000 in
theorem gX5_bends_X2_wordOf : GoodIn wsX5_bends (wsV RX5 82 RX2 yX2_wordOf wsX2_wordOf) := goodIn_app (goodIn_of _ (by decide +kernel)) ggX5_bends_X2_wordOf
set_option maxRecDepth 20000 in
theorem ggX5_bends_X2_residueOf : GoodIn wsX5_bends wsX2_residueOf := goodIn_r _ [38, 39, 5, 6, 7, 56, 57, 58, 59] (by decide +kernel) (by decide +kernel)
set_option maxRecDepth 20000 in
theorem gX5_bends_X2_residueOf : GoodIn wsX5_bends (wsV RX5 98 RX2 yX2_residueOf wsX2_residueOf) := goodIn_app (goodIn_of _ (by decide +kernel)) ggX5_bends_X2_residueOf
set_option maxRecDepth 20000 in
theorem ggX5_bends_X5_rest : GoodIn wsX5_bends wsX5_rest := goodIn_r _ [17, 18, 19, 20, 21] (by decide +kernel) (by decide +kernel)
set_option maxRecDepth 20000 in
theorem gX5_bends_X5_rest : GoodIn wsX5_bends (va_wsS RX5 74 yX5_rest wsX5_rest) := goodIn_app (goodIn_of _ (by decide +kernel)) ggX5_bends_X5_rest
set_option maxRecDepth 20000 in
theorem ggX5_bends_X2_put : GoodIn wsX5_bends wsX2_put := goodIn_r _ [43, 34, 39, 5, 6, 7, 56, 57, 58, 59] (by decide +kernel) (by decide +kernel)
set_option maxRecDepth 20000 in
theorem gX5_bends_X2_put : GoodIn wsX5_bends (wsV RX5 78 RX2 yX2_put wsX2_put) := goodIn_app (goodIn_of _ (by decide +kernel)) ggX5_bends_X2_put
theorem dX5_bends_0 : decode cX5_bends 0 = .ok (.iload_n 1, 1) := by decide +kernel
theorem dX5_bends_1 : decode cX5_bends 1 = .ok (.invokestatic 64, 3) := by decide +kernel
theorem dX5_bends_4 : decode cX5_bends 4 = .ok (.ifCond .eq 14, 3) := by decide +kernel
theorem dX5_bends_7 : decode cX5_bends 7 = .ok (.iload_n 2, 1) := by decide +kernel
theorem dX5_bends_8 : decode cX5_bends 8 = .ok (.iconst 1, 1) := by decide +kernel
theorem dX5_bends_9 : decode cX5_bends 9 = .ok (.if_icmp .lt 9, 3) := by decide +kernel
theorem dX5_bends_12 : decode cX5_bends 12 = .ok (.iload_n 2, 1) := by decide +kernel
theorem dX5_bends_13 : decode cX5_bends 13 = .ok (.bipush 15, 2) := by decide +kernel
theorem dX5_bends_15 : decode cX5_bends 15 = .ok (.if_icmp .lt 6, 3) := by decide +kernel
theorem dX5_bends_18 : decode cX5_bends 18 = .ok (.ldc 51, 2) := by decide +kernel
theorem dX5_bends_20 : decode cX5_bends 20 = .ok (.ireturn, 1) := by decide +kernel
theorem dX5_bends_21 : decode cX5_bends 21 = .ok (.aload_n 0, 1) := by decide +kernel
theorem dX5_bends_22 : decode cX5_bends 22 = .ok (.getfield 19, 3) := by decide +kernel
theorem dX5_bends_25 : decode cX5_bends 25 = .ok (.aload_n 0, 1) := by decide +kernel
theorem dX5_bends_26 : decode cX5_bends 26 = .ok (.getfield 10, 3) := by decide +kernel
theorem dX5_bends_29 : decode cX5_bends 29 = .ok (.invokevirtual 52, 3) := by decide +kernel
theorem dX5_bends_32 : decode cX5_bends 32 = .ok (.aload_n 0, 1) := by decide +kernel
theorem dX5_bends_33 : decode cX5_bends 33 = .ok (.getfield 10, 3) := by decide +kernel
theorem dX5_bends_36 : decode cX5_bends 36 = .ok (.iload_n 1, 1) := by decide +kernel
theorem dX5_bends_37 : decode cX5_bends 37 = .ok (.aload_n 0, 1) := by decide +kernel
theorem dX5_bends_38 : decode cX5_bends 38 = .ok (.getfield 10, 3) := by decide +kernel
theorem dX5_bends_41 : decode cX5_bends 41 = .ok (.iload_n 1, 1) := by decide +kernel
theorem dX5_bends_42 : decode cX5_bends 42 = .ok (.invokevirtual 82, 3) := by decide +kernel
theorem dX5_bends_45 : decode cX5_bends 45 = .ok (.aload_n 0, 1) := by decide +kernel
theorem dX5_bends_46 : decode cX5_bends 46 = .ok (.getfield 10, 3) := by decide +kernel
theorem dX5_bends_49 : decode cX5_bends 49 = .ok (.iload_n 1, 1) := by decide +kernel
theorem dX5_bends_50 : decode cX5_bends 50 = .ok (.invokevirtual 98, 3) := by decide +kernel
theorem dX5_bends_53 : decode cX5_bends 53 = .ok (.iload_n 2, 1) := by decide +kernel
theorem dX5_bends_54 : decode cX5_bends 54 = .ok (.iadd, 1) := by decide +kernel
theorem dX5_bends_55 : decode cX5_bends 55 = .ok (.bipush 15, 2) := by decide +kernel
theorem dX5_bends_57 : decode cX5_bends 57 = .ok (.invokestatic 74, 3) := by decide +kernel
theorem dX5_bends_60 : decode cX5_bends 60 = .ok (.invokevirtual 78, 3) := by decide +kernel
theorem dX5_bends_63 : decode cX5_bends 63 = .ok (.aload_n 0, 1) := by decide +kernel
theorem dX5_bends_64 : decode cX5_bends 64 = .ok (.getfield 10, 3) := by decide +kernel
theorem dX5_bends_67 : decode cX5_bends 67 = .ok (.iload_n 1, 1) := by decide +kernel
theorem dX5_bends_68 : decode cX5_bends 68 = .ok (.invokevirtual 98, 3) := by decide +kernel
theorem dX5_bends_71 : decode cX5_bends 71 = .ok (.ireturn, 1) := by decide +kernel
set_option maxRecDepth 20000 in
theorem ggX5_mends_X5_isRegister : GoodIn wsX5_mends wsX5_isRegister := goodIn_r _ [8] (by decide +kernel) (by decide +kernel)
set_option maxRecDepth 20000 in
theorem gX5_mends_X5_isRegister : GoodIn wsX5_mends (va_wsS RX5 64 yX5_isRegister wsX5_isRegister) := goodIn_app (goodIn_of _ (by decide +kernel)) ggX5_mends_X5_isRegister
set_option maxRecDepth 20000 in
theorem ggX5_mends_X2_wordOf : GoodIn wsX5_mends wsX2_wordOf := goodIn_r _ [13, 14, 6, 7, 8, 100, 101, 102, 103] (by decide +kernel) (by decide +kernel)
set_option maxRecDepth 20000 in
theorem gX5_mends_X2_wordOf : GoodIn wsX5_mends (wsV RX5 82 RX2 yX2_wordOf wsX2_wordOf) := goodIn_app (goodIn_of _ (by decide +kernel)) ggX5_mends_X2_wordOf
set_option maxRecDepth 20000 in
theorem ggX5_mends_X2_verdictOf : GoodIn wsX5_mends wsX2_verdictOf := goodIn_r _ [18, 19, 10, 11, 12, 13, 14, 6, 7, 8, 20, 21, 22, 23, 24, 25, 26, 27, 28, 29, 30, 31, 32, 33, 34, 35, 36, 37, 38, 39, 40, 41, 42, 43, 44, 45, 46, 47, 48, 49, 50, 51, 52, 53, 54, 55, 56, 57, 58, 59, 60, 61, 62, 63, 64, 65, 66, 67, 68, 100, 101, 102, 103] (by decide +kernel) (by decide +kernel)
set_option maxRecDepth 20000 in
theorem gX5_mends_X2_verdictOf : GoodIn wsX5_mends (wsV RX5 111 RX2 yX2_verdictOf wsX2_verdictOf) := goodIn_app (goodIn_of _ (by decide +kernel)) ggX5_mends_X2_verdictOf
set_option maxRecDepth 20000 in
theorem ggX5_mends_X3_remember : GoodIn wsX5_mends wsX3_remember := goodIn_r _ [73, 74, 75, 76, 29, 7, 30, 31, 32, 33, 34, 77, 78, 79, 80, 12, 81, 28, 39, 19, 10, 11, 13, 14, 6, 8, 40, 41, 42, 43, 44, 82, 83, 84, 85, 104, 105, 106, 100, 101, 102, 103] (by decide +kernel) (by decide +kernel)
set_option maxRecDepth 20000 in
theorem gX5_mends_X3_remember : GoodIn wsX5_mends (wsV RX5 52 RX3 yX3_remember wsX3_remember) := goodIn_app (goodIn_of _ (by decide +kernel)) ggX5_mends_X3_remember
set_option maxRecDepth 20000 in
theorem ggX5_mends_X2_dueResidue : GoodIn wsX5_mends wsX2_dueResidue := goodIn_r _ [52, 53, 54, 55, 12, 56, 28, 57, 7, 58, 29, 30, 31, 32, 33, 34, 100, 101, 102, 103] (by decide +kernel) (by decide +kernel)
set_option maxRecDepth 20000 in
theorem gX5_mends_X2_dueResidue : GoodIn wsX5_mends (wsV RX5 114 RX2 yX2_dueResidue wsX2_dueResidue) := goodIn_app (goodIn_of _ (by decide +kernel)) ggX5_mends_X2_dueResidue
set_option maxRecDepth 20000 in
theorem ggX5_mends_X2_put : GoodIn wsX5_mends wsX2_put := goodIn_r _ [85, 14, 44, 6, 7, 8, 100, 101, 102, 103] (by decide +kernel) (by decide +kernel)
set_option maxRecDepth 20000 in
theorem gX5_mends_X2_put : GoodIn wsX5_mends (wsV RX5 78 RX2 yX2_put wsX2_put) := goodIn_app (goodIn_of _ (by decide +kernel)) ggX5_mends_X2_put
set_option maxRecDepth 20000 in
theorem ggX5_mends_X2_onlyCauseOf : GoodIn wsX5_mends wsX2_onlyCauseOf := goodIn_r _ [91, 92, 59, 60, 61, 12, 62, 19, 10, 11, 13, 14, 6, 7, 8, 20, 21, 22, 23, 24, 25, 26, 27, 28, 29, 30, 31, 32, 33, 34, 35, 36, 37, 38, 39, 63, 64, 65, 66, 67, 68, 40, 41, 42, 43, 44, 45, 46, 47, 48, 49, 50, 51, 52, 53, 54, 55, 56, 57, 58, 100, 101, 102, 103] (by decide +kernel) (by decide +kernel)
set_option maxRecDepth 20000 in
theorem gX5_mends_X2_onlyCauseOf : GoodIn wsX5_mends (wsV RX5 117 RX2 yX2_onlyCauseOf wsX2_onlyCauseOf) := goodIn_app (goodIn_of _ (by decide +kernel)) ggX5_mends_X2_onlyCauseOf
set_option maxRecDepth 20000 in
theorem ggX5_mends_X5_change : GoodIn wsX5_mends wsX5_change := goodIn_r _ [68] (by decide +kernel) (by decide +kernel)
set_option maxRecDepth 20000 in
theorem gX5_mends_X5_change : GoodIn wsX5_mends (va_wsS RX5 108 yX5_change wsX5_change) := goodIn_app (goodIn_of _ (by decide +kernel)) ggX5_mends_X5_change
set_option maxRecDepth 20000 in
theorem ggX5_mends_X2_residueOf : GoodIn wsX5_mends wsX2_residueOf := goodIn_r _ [43, 44, 6, 7, 8, 100, 101, 102, 103] (by decide +kernel) (by decide +kernel)
set_option maxRecDepth 20000 in
theorem gX5_mends_X2_residueOf : GoodIn wsX5_mends (wsV RX5 98 RX2 yX2_residueOf wsX2_residueOf) := goodIn_app (goodIn_of _ (by decide +kernel)) ggX5_mends_X2_residueOf
theorem dX5_mends_0 : decode cX5_mends 0 = .ok (.iload_n 1, 1) := by decide +kernel
theorem dX5_mends_1 : decode cX5_mends 1 = .ok (.invokestatic 64, 3) := by decide +kernel
theorem dX5_mends_4 : decode cX5_mends 4 = .ok (.ifCond .ne 6, 3) := by decide +kernel
theorem dX5_mends_7 : decode cX5_mends 7 = .ok (.ldc 51, 2) := by decide +kernel
theorem dX5_mends_9 : decode cX5_mends 9 = .ok (.ireturn, 1) := by decide +kernel
theorem dX5_mends_10 : decode cX5_mends 10 = .ok (.aload_n 0, 1) := by decide +kernel
theorem dX5_mends_11 : decode cX5_mends 11 = .ok (.getfield 10, 3) := by decide +kernel
theorem dX5_mends_14 : decode cX5_mends 14 = .ok (.iload_n 1, 1) := by decide +kernel
theorem dX5_mends_15 : decode cX5_mends 15 = .ok (.invokevirtual 82, 3) := by decide +kernel
theorem dX5_mends_18 : decode cX5_mends 18 = .ok (.istore_n 2, 1) := by decide +kernel
theorem dX5_mends_19 : decode cX5_mends 19 = .ok (.aload_n 0, 1) := by decide +kernel
theorem dX5_mends_20 : decode cX5_mends 20 = .ok (.getfield 10, 3) := by decide +kernel
theorem dX5_mends_23 : decode cX5_mends 23 = .ok (.iload_n 1, 1) := by decide +kernel
theorem dX5_mends_24 : decode cX5_mends 24 = .ok (.invokevirtual 111, 3) := by decide +kernel
theorem dX5_mends_27 : decode cX5_mends 27 = .ok (.tableswitch 103 0 2 #[25, 27, 57], 25) := by decide +kernel
theorem dX5_mends_52 : decode cX5_mends 52 = .ok (.iconst 0, 1) := by decide +kernel
theorem dX5_mends_53 : decode cX5_mends 53 = .ok (.ireturn, 1) := by decide +kernel
theorem dX5_mends_54 : decode cX5_mends 54 = .ok (.aload_n 0, 1) := by decide +kernel
theorem dX5_mends_55 : decode cX5_mends 55 = .ok (.getfield 19, 3) := by decide +kernel
theorem dX5_mends_58 : decode cX5_mends 58 = .ok (.aload_n 0, 1) := by decide +kernel
theorem dX5_mends_59 : decode cX5_mends 59 = .ok (.getfield 10, 3) := by decide +kernel
theorem dX5_mends_62 : decode cX5_mends 62 = .ok (.invokevirtual 52, 3) := by decide +kernel
theorem dX5_mends_65 : decode cX5_mends 65 = .ok (.aload_n 0, 1) := by decide +kernel
theorem dX5_mends_66 : decode cX5_mends 66 = .ok (.getfield 10, 3) := by decide +kernel
theorem dX5_mends_69 : decode cX5_mends 69 = .ok (.iload_n 1, 1) := by decide +kernel
theorem dX5_mends_70 : decode cX5_mends 70 = .ok (.iload_n 2, 1) := by decide +kernel
theorem dX5_mends_71 : decode cX5_mends 71 = .ok (.aload_n 0, 1) := by decide +kernel
theorem dX5_mends_72 : decode cX5_mends 72 = .ok (.getfield 10, 3) := by decide +kernel
theorem dX5_mends_75 : decode cX5_mends 75 = .ok (.iload_n 2, 1) := by decide +kernel
theorem dX5_mends_76 : decode cX5_mends 76 = .ok (.invokevirtual 114, 3) := by decide +kernel
theorem dX5_mends_79 : decode cX5_mends 79 = .ok (.invokevirtual 78, 3) := by decide +kernel
theorem dX5_mends_82 : decode cX5_mends 82 = .ok (.iconst 1, 1) := by decide +kernel
theorem dX5_mends_83 : decode cX5_mends 83 = .ok (.ireturn, 1) := by decide +kernel
theorem dX5_mends_84 : decode cX5_mends 84 = .ok (.aload_n 0, 1) := by decide +kernel
theorem dX5_mends_85 : decode cX5_mends 85 = .ok (.getfield 10, 3) := by decide +kernel
theorem dX5_mends_88 : decode cX5_mends 88 = .ok (.iload_n 1, 1) := by decide +kernel
theorem dX5_mends_89 : decode cX5_mends 89 = .ok (.invokevirtual 117, 3) := by decide +kernel
theorem dX5_mends_92 : decode cX5_mends 92 = .ok (.istore_n 3, 1) := by decide +kernel
theorem dX5_mends_93 : decode cX5_mends 93 = .ok (.aload_n 0, 1) := by decide +kernel
theorem dX5_mends_94 : decode cX5_mends 94 = .ok (.getfield 19, 3) := by decide +kernel
theorem dX5_mends_97 : decode cX5_mends 97 = .ok (.aload_n 0, 1) := by decide +kernel
theorem dX5_mends_98 : decode cX5_mends 98 = .ok (.getfield 10, 3) := by decide +kernel
theorem dX5_mends_101 : decode cX5_mends 101 = .ok (.invokevirtual 52, 3) := by decide +kernel
theorem dX5_mends_104 : decode cX5_mends 104 = .ok (.aload_n 0, 1) := by decide +kernel
theorem dX5_mends_105 : decode cX5_mends 105 = .ok (.getfield 10, 3) := by decide +kernel
theorem dX5_mends_108 : decode cX5_mends 108 = .ok (.iload_n 1, 1) := by decide +kernel
theorem dX5_mends_109 : decode cX5_mends 109 = .ok (.iload_n 2, 1) := by decide +kernel
theorem dX5_mends_110 : decode cX5_mends 110 = .ok (.iload_n 3, 1) := by decide +kernel
theorem dX5_mends_111 : decode cX5_mends 111 = .ok (.invokestatic 108, 3) := by decide +kernel
theorem dX5_mends_114 : decode cX5_mends 114 = .ok (.isub, 1) := by decide +kernel
theorem dX5_mends_115 : decode cX5_mends 115 = .ok (.aload_n 0, 1) := by decide +kernel
theorem dX5_mends_116 : decode cX5_mends 116 = .ok (.getfield 10, 3) := by decide +kernel
theorem dX5_mends_119 : decode cX5_mends 119 = .ok (.iload_n 1, 1) := by decide +kernel
theorem dX5_mends_120 : decode cX5_mends 120 = .ok (.invokevirtual 98, 3) := by decide +kernel
theorem dX5_mends_123 : decode cX5_mends 123 = .ok (.invokevirtual 78, 3) := by decide +kernel
theorem dX5_mends_126 : decode cX5_mends 126 = .ok (.iconst 2, 1) := by decide +kernel
theorem dX5_mends_127 : decode cX5_mends 127 = .ok (.iload_n 3, 1) := by decide +kernel
theorem dX5_mends_128 : decode cX5_mends 128 = .ok (.iadd, 1) := by decide +kernel
theorem dX5_mends_129 : decode cX5_mends 129 = .ok (.ireturn, 1) := by decide +kernel
theorem dX5_mends_130 : decode cX5_mends 130 = .ok (.ldc 120, 2) := by decide +kernel
theorem dX5_mends_132 : decode cX5_mends 132 = .ok (.ireturn, 1) := by decide +kernel
set_option maxRecDepth 20000 in
theorem ggX5_undo_X3_recall : GoodIn wsX5_undo wsX3_recall := goodIn_r _ [8, 9, 10, 11, 12, 13, 14, 15, 16, 17, 18, 19, 20, 21, 22, 23, 24, 25, 26, 27, 28, 29, 30, 31, 32, 33, 34, 35, 36, 37, 38, 39, 45, 46, 47, 48, 49, 50, 51] (by decide +kernel) (by decide +kernel)
set_option maxRecDepth 20000 in
theorem gX5_undo_X3_recall : GoodIn wsX5_undo (wsV RX5 121 RX3 yX3_recall wsX3_recall) := goodIn_app (goodIn_of _ (by decide +kernel)) ggX5_undo_X3_recall
theorem dX5_undo_0 : decode cX5_undo 0 = .ok (.aload_n 0, 1) := by decide +kernel
theorem dX5_undo_1 : decode cX5_undo 1 = .ok (.getfield 19, 3) := by decide +kernel
theorem dX5_undo_4 : decode cX5_undo 4 = .ok (.aload_n 0, 1) := by decide +kernel
theorem dX5_undo_5 : decode cX5_undo 5 = .ok (.getfield 10, 3) := by decide +kernel
theorem dX5_undo_8 : decode cX5_undo 8 = .ok (.invokevirtual 121, 3) := by decide +kernel
theorem dX5_undo_11 : decode cX5_undo 11 = .ok (.ifCond .eq 13, 3) := by decide +kernel
theorem dX5_undo_14 : decode cX5_undo 14 = .ok (.aload_n 0, 1) := by decide +kernel
theorem dX5_undo_15 : decode cX5_undo 15 = .ok (.getfield 19, 3) := by decide +kernel
theorem dX5_undo_18 : decode cX5_undo 18 = .ok (.getfield 125, 3) := by decide +kernel
theorem dX5_undo_21 : decode cX5_undo 21 = .ok (.goto 5, 3) := by decide +kernel
theorem dX5_undo_24 : decode cX5_undo 24 = .ok (.ldc 89, 2) := by decide +kernel
theorem dX5_undo_26 : decode cX5_undo 26 = .ok (.ireturn, 1) := by decide +kernel
set_option maxRecDepth 20000 in
theorem ggX5_register_X5_isRegister : GoodIn wsX5_register wsX5_isRegister := goodIn_r _ [7] (by decide +kernel) (by decide +kernel)
set_option maxRecDepth 20000 in
theorem gX5_register_X5_isRegister : GoodIn wsX5_register (va_wsS RX5 64 yX5_isRegister wsX5_isRegister) := goodIn_app (goodIn_of _ (by decide +kernel)) ggX5_register_X5_isRegister
set_option maxRecDepth 20000 in
theorem ggX5_register_X2_wordOf : GoodIn wsX5_register wsX2_wordOf := goodIn_r _ [12, 13, 5, 6, 7, 84, 85, 86, 87] (by decide +kernel) (by decide +kernel)
set_option maxRecDepth 20000 in
theorem gX5_register_X2_wordOf : GoodIn wsX5_register (wsV RX5 82 RX2 yX2_wordOf wsX2_wordOf) := goodIn_app (goodIn_of _ (by decide +kernel)) ggX5_register_X2_wordOf
set_option maxRecDepth 20000 in
theorem ggX5_register_X2_residueOf : GoodIn wsX5_register wsX2_residueOf := goodIn_r _ [17, 18, 5, 6, 7, 84, 85, 86, 87] (by decide +kernel) (by decide +kernel)
set_option maxRecDepth 20000 in
theorem gX5_register_X2_residueOf : GoodIn wsX5_register (wsV RX5 98 RX2 yX2_residueOf wsX2_residueOf) := goodIn_app (goodIn_of _ (by decide +kernel)) ggX5_register_X2_residueOf
set_option maxRecDepth 20000 in
theorem ggX5_register_X5_rest : GoodIn wsX5_register wsX5_rest := goodIn_r _ [21, 22, 23, 24, 25] (by decide +kernel) (by decide +kernel)
set_option maxRecDepth 20000 in
theorem gX5_register_X5_rest : GoodIn wsX5_register (va_wsS RX5 74 yX5_rest wsX5_rest) := goodIn_app (goodIn_of _ (by decide +kernel)) ggX5_register_X5_rest
set_option maxRecDepth 20000 in
theorem ggX5_register_X2_fits : GoodIn wsX5_register wsX2_fits := goodIn_r _ [29, 30, 20, 6, 21, 22, 23, 24, 25, 84, 85, 86, 87] (by decide +kernel) (by decide +kernel)
set_option maxRecDepth 20000 in
theorem gX5_register_X2_fits : GoodIn wsX5_register (wsV RX5 128 RX2 yX2_fits wsX2_fits) := goodIn_app (goodIn_of _ (by decide +kernel)) ggX5_register_X2_fits
set_option maxRecDepth 20000 in
theorem ggX5_register_X2_valueOf : GoodIn wsX5_register wsX2_valueOf := goodIn_r _ [34, 30, 35, 6, 36, 84, 85, 86, 87] (by decide +kernel) (by decide +kernel)
set_option maxRecDepth 20000 in
theorem gX5_register_X2_valueOf : GoodIn wsX5_register (wsV RX5 131 RX2 yX2_valueOf wsX2_valueOf) := goodIn_app (goodIn_of _ (by decide +kernel)) ggX5_register_X2_valueOf
set_option maxRecDepth 20000 in
theorem ggX5_register_X2_isRight : GoodIn wsX5_register wsX2_isRight := goodIn_r _ [40, 41, 42, 43, 11, 44, 45, 27, 28, 29, 30, 20, 6, 21, 22, 23, 24, 25, 46, 47, 48, 49, 50, 51, 52, 53, 54, 55, 32, 33, 34, 35, 36, 84, 85, 86, 87] (by decide +kernel) (by decide +kernel)
set_option maxRecDepth 20000 in
theorem gX5_register_X2_isRight : GoodIn wsX5_register (wsV RX5 135 RX2 yX2_isRight wsX2_isRight) := goodIn_app (goodIn_of _ (by decide +kernel)) ggX5_register_X2_isRight
set_option maxRecDepth 20000 in
theorem ggX5_register_X2_verdictOf : GoodIn wsX5_register wsX2_verdictOf := goodIn_r _ [59, 60, 9, 10, 11, 12, 13, 5, 6, 7, 41, 42, 43, 44, 45, 27, 28, 29, 30, 20, 21, 22, 23, 24, 25, 46, 47, 48, 49, 50, 61, 15, 16, 17, 18, 62, 38, 39, 40, 51, 52, 53, 54, 55, 32, 33, 34, 35, 36, 63, 64, 65, 66, 67, 68, 69, 70, 71, 72, 84, 85, 86, 87] (by decide +kernel) (by decide +kernel)
set_option maxRecDepth 20000 in
theorem gX5_register_X2_verdictOf : GoodIn wsX5_register (wsV RX5 111 RX2 yX2_verdictOf wsX2_verdictOf) := goodIn_app (goodIn_of _ (by decide +kernel)) ggX5_register_X2_verdictOf
set_option maxRecDepth 20000 in
theorem ggX5_register_X2_onlyCauseOf : GoodIn wsX5_register wsX2_onlyCauseOf := goodIn_r _ [76, 77, 63, 64, 65, 11, 66, 60, 9, 10, 12, 13, 5, 6, 7, 41, 42, 43, 44, 45, 27, 28, 29, 30, 20, 21, 22, 23, 24, 25, 46, 47, 48, 49, 50, 67, 68, 69, 70, 71, 72, 61, 15, 16, 17, 18, 62, 38, 39, 40, 51, 52, 53, 54, 55, 32, 33, 34, 35, 36, 84, 85, 86, 87] (by decide +kernel) (by decide +kernel)
set_option maxRecDepth 20000 in
theorem gX5_register_X2_onlyCauseOf : GoodIn wsX5_register (wsV RX5 117 RX2 yX2_onlyCauseOf wsX2_onlyCauseOf) := goodIn_app (goodIn_of _ (by decide +kernel)) ggX5_register_X2_onlyCauseOf
set_option maxRecDepth 20000 in
theorem ggX5_register_X2_causesOf : GoodIn wsX5_register wsX2_causesOf := goodIn_r _ [66, 60, 9, 10, 11, 12, 13, 5, 6, 7, 41, 42, 43, 44, 45, 27, 28, 29, 30, 20, 21, 22, 23, 24, 25, 46, 47, 48, 49, 50, 67, 68, 69, 70, 71, 72, 61, 15, 16, 17, 18, 62, 38, 39, 40, 51, 52, 53, 54, 55, 32, 33, 34, 35, 36, 84, 85, 86, 87] (by decide +kernel) (by decide +kernel)
set_option maxRecDepth 20000 in
theorem gX5_register_X2_causesOf : GoodIn wsX5_register (wsV RX5 139 RX2 yX2_causesOf wsX2_causesOf) := goodIn_app (goodIn_of _ (by decide +kernel)) ggX5_register_X2_causesOf
theorem dX5_register_0 : decode cX5_register 0 = .ok (.iload_n 1, 1) := by decide +kernel
theorem dX5_register_1 : decode cX5_register 1 = .ok (.invokestatic 64, 3) := by decide +kernel
theorem dX5_register_4 : decode cX5_register 4 = .ok (.ifCond .ne 6, 3) := by decide +kernel
theorem dX5_register_7 : decode cX5_register 7 = .ok (.ldc 51, 2) := by decide +kernel
theorem dX5_register_9 : decode cX5_register 9 = .ok (.ireturn, 1) := by decide +kernel
theorem dX5_register_10 : decode cX5_register 10 = .ok (.aload_n 0, 1) := by decide +kernel
theorem dX5_register_11 : decode cX5_register 11 = .ok (.getfield 10, 3) := by decide +kernel
theorem dX5_register_14 : decode cX5_register 14 = .ok (.iload_n 1, 1) := by decide +kernel
theorem dX5_register_15 : decode cX5_register 15 = .ok (.invokevirtual 82, 3) := by decide +kernel
theorem dX5_register_18 : decode cX5_register 18 = .ok (.istore_n 3, 1) := by decide +kernel
theorem dX5_register_19 : decode cX5_register 19 = .ok (.iload_n 2, 1) := by decide +kernel
theorem dX5_register_20 : decode cX5_register 20 = .ok (.tableswitch 148 0 7 #[48, 50, 59, 71, 96, 121, 130, 139], 48) := by decide +kernel
theorem dX5_register_68 : decode cX5_register 68 = .ok (.iload_n 3, 1) := by decide +kernel
theorem dX5_register_69 : decode cX5_register 69 = .ok (.ireturn, 1) := by decide +kernel
theorem dX5_register_70 : decode cX5_register 70 = .ok (.aload_n 0, 1) := by decide +kernel
theorem dX5_register_71 : decode cX5_register 71 = .ok (.getfield 10, 3) := by decide +kernel
theorem dX5_register_74 : decode cX5_register 74 = .ok (.iload_n 1, 1) := by decide +kernel
theorem dX5_register_75 : decode cX5_register 75 = .ok (.invokevirtual 98, 3) := by decide +kernel
theorem dX5_register_78 : decode cX5_register 78 = .ok (.ireturn, 1) := by decide +kernel
theorem dX5_register_79 : decode cX5_register 79 = .ok (.iload_n 3, 1) := by decide +kernel
theorem dX5_register_80 : decode cX5_register 80 = .ok (.aload_n 0, 1) := by decide +kernel
theorem dX5_register_81 : decode cX5_register 81 = .ok (.getfield 10, 3) := by decide +kernel
theorem dX5_register_84 : decode cX5_register 84 = .ok (.getfield 70, 3) := by decide +kernel
theorem dX5_register_87 : decode cX5_register 87 = .ok (.invokestatic 74, 3) := by decide +kernel
theorem dX5_register_90 : decode cX5_register 90 = .ok (.ireturn, 1) := by decide +kernel
theorem dX5_register_91 : decode cX5_register 91 = .ok (.aload_n 0, 1) := by decide +kernel
theorem dX5_register_92 : decode cX5_register 92 = .ok (.getfield 10, 3) := by decide +kernel
theorem dX5_register_95 : decode cX5_register 95 = .ok (.iload_n 3, 1) := by decide +kernel
theorem dX5_register_96 : decode cX5_register 96 = .ok (.invokevirtual 128, 3) := by decide +kernel
theorem dX5_register_99 : decode cX5_register 99 = .ok (.ifCond .eq 14, 3) := by decide +kernel
theorem dX5_register_102 : decode cX5_register 102 = .ok (.aload_n 0, 1) := by decide +kernel
theorem dX5_register_103 : decode cX5_register 103 = .ok (.getfield 10, 3) := by decide +kernel
theorem dX5_register_106 : decode cX5_register 106 = .ok (.iload_n 3, 1) := by decide +kernel
theorem dX5_register_107 : decode cX5_register 107 = .ok (.invokevirtual 131, 3) := by decide +kernel
theorem dX5_register_110 : decode cX5_register 110 = .ok (.goto 5, 3) := by decide +kernel
theorem dX5_register_113 : decode cX5_register 113 = .ok (.ldc 134, 2) := by decide +kernel
theorem dX5_register_115 : decode cX5_register 115 = .ok (.ireturn, 1) := by decide +kernel
theorem dX5_register_116 : decode cX5_register 116 = .ok (.aload_n 0, 1) := by decide +kernel
theorem dX5_register_117 : decode cX5_register 117 = .ok (.getfield 10, 3) := by decide +kernel
theorem dX5_register_120 : decode cX5_register 120 = .ok (.iload_n 3, 1) := by decide +kernel
theorem dX5_register_121 : decode cX5_register 121 = .ok (.aload_n 0, 1) := by decide +kernel
theorem dX5_register_122 : decode cX5_register 122 = .ok (.getfield 10, 3) := by decide +kernel
theorem dX5_register_125 : decode cX5_register 125 = .ok (.iload_n 1, 1) := by decide +kernel
theorem dX5_register_126 : decode cX5_register 126 = .ok (.invokevirtual 98, 3) := by decide +kernel
theorem dX5_register_129 : decode cX5_register 129 = .ok (.invokevirtual 135, 3) := by decide +kernel
theorem dX5_register_132 : decode cX5_register 132 = .ok (.ifCond .eq 7, 3) := by decide +kernel
theorem dX5_register_135 : decode cX5_register 135 = .ok (.iconst 1, 1) := by decide +kernel
theorem dX5_register_136 : decode cX5_register 136 = .ok (.goto 4, 3) := by decide +kernel
theorem dX5_register_139 : decode cX5_register 139 = .ok (.iconst 0, 1) := by decide +kernel
theorem dX5_register_140 : decode cX5_register 140 = .ok (.ireturn, 1) := by decide +kernel
theorem dX5_register_141 : decode cX5_register 141 = .ok (.aload_n 0, 1) := by decide +kernel
theorem dX5_register_142 : decode cX5_register 142 = .ok (.getfield 10, 3) := by decide +kernel
theorem dX5_register_145 : decode cX5_register 145 = .ok (.iload_n 1, 1) := by decide +kernel
theorem dX5_register_146 : decode cX5_register 146 = .ok (.invokevirtual 111, 3) := by decide +kernel
theorem dX5_register_149 : decode cX5_register 149 = .ok (.ireturn, 1) := by decide +kernel
theorem dX5_register_150 : decode cX5_register 150 = .ok (.aload_n 0, 1) := by decide +kernel
theorem dX5_register_151 : decode cX5_register 151 = .ok (.getfield 10, 3) := by decide +kernel
theorem dX5_register_154 : decode cX5_register 154 = .ok (.iload_n 1, 1) := by decide +kernel
theorem dX5_register_155 : decode cX5_register 155 = .ok (.invokevirtual 117, 3) := by decide +kernel
theorem dX5_register_158 : decode cX5_register 158 = .ok (.ireturn, 1) := by decide +kernel
theorem dX5_register_159 : decode cX5_register 159 = .ok (.aload_n 0, 1) := by decide +kernel
theorem dX5_register_160 : decode cX5_register 160 = .ok (.getfield 10, 3) := by decide +kernel
theorem dX5_register_163 : decode cX5_register 163 = .ok (.iload_n 1, 1) := by decide +kernel
theorem dX5_register_164 : decode cX5_register 164 = .ok (.invokevirtual 139, 3) := by decide +kernel
theorem dX5_register_167 : decode cX5_register 167 = .ok (.ireturn, 1) := by decide +kernel
theorem dX5_register_168 : decode cX5_register 168 = .ok (.ldc 51, 2) := by decide +kernel
theorem dX5_register_170 : decode cX5_register 170 = .ok (.ireturn, 1) := by decide +kernel
set_option maxRecDepth 20000 in
theorem ggX5_weight_X5_digitsNotZero : GoodIn wsX5_weight wsX5_digitsNotZero := goodIn_r _ [11, 12, 13, 14, 15, 16, 17, 18] (by decide +kernel) (by decide +kernel)
set_option maxRecDepth 20000 in
theorem gX5_weight_X5_digitsNotZero : GoodIn wsX5_weight (va_wsS RX5 149 yX5_digitsNotZero wsX5_digitsNotZero) := goodIn_app (goodIn_of _ (by decide +kernel)) ggX5_weight_X5_digitsNotZero
theorem dX5_weight_0 : decode cX5_weight 0 = .ok (.iload_n 1, 1) := by decide +kernel
theorem dX5_weight_1 : decode cX5_weight 1 = .ok (.ldc 142, 2) := by decide +kernel
theorem dX5_weight_3 : decode cX5_weight 3 = .ok (.if_icmp .lt 9, 3) := by decide +kernel
theorem dX5_weight_6 : decode cX5_weight 6 = .ok (.iload_n 1, 1) := by decide +kernel
theorem dX5_weight_7 : decode cX5_weight 7 = .ok (.ldc 143, 2) := by decide +kernel
theorem dX5_weight_9 : decode cX5_weight 9 = .ok (.if_icmp .le 8, 3) := by decide +kernel
theorem dX5_weight_12 : decode cX5_weight 12 = .ok (.ldc 51, 2) := by decide +kernel
theorem dX5_weight_14 : decode cX5_weight 14 = .ok (.goto 10, 3) := by decide +kernel
theorem dX5_weight_17 : decode cX5_weight 17 = .ok (.iload_n 1, 1) := by decide +kernel
theorem dX5_weight_18 : decode cX5_weight 18 = .ok (.invokestatic 144, 3) := by decide +kernel
theorem dX5_weight_21 : decode cX5_weight 21 = .ok (.invokestatic 149, 3) := by decide +kernel
theorem dX5_weight_24 : decode cX5_weight 24 = .ok (.ireturn, 1) := by decide +kernel
set_option maxRecDepth 20000 in
theorem ggX5_distance_X5_isConstant : GoodIn wsX5_distance wsX5_isConstant := goodIn_r _ [5] (by decide +kernel) (by decide +kernel)
set_option maxRecDepth 20000 in
theorem gX5_distance_X5_isConstant : GoodIn wsX5_distance (va_wsS RX5 44 yX5_isConstant wsX5_isConstant) := goodIn_app (goodIn_of _ (by decide +kernel)) ggX5_distance_X5_isConstant
set_option maxRecDepth 20000 in
theorem ggX5_distance_X5_isWidth : GoodIn wsX5_distance wsX5_isWidth := goodIn_r _ [8] (by decide +kernel) (by decide +kernel)
set_option maxRecDepth 20000 in
theorem gX5_distance_X5_isWidth : GoodIn wsX5_distance (va_wsS RX5 48 yX5_isWidth wsX5_isWidth) := goodIn_app (goodIn_of _ (by decide +kernel)) ggX5_distance_X5_isWidth
set_option maxRecDepth 20000 in
theorem ggX5_distance_X5_lightestMultiple : GoodIn wsX5_distance wsX5_lightestMultiple := goodIn_r _ [11, 12, 13, 14, 4, 15, 16, 17, 18, 19, 20, 21, 22] (by decide +kernel) (by decide +kernel)
set_option maxRecDepth 20000 in
theorem gX5_distance_X5_lightestMultiple : GoodIn wsX5_distance (va_wsS RX5 152 yX5_lightestMultiple wsX5_lightestMultiple) := goodIn_app (goodIn_of _ (by decide +kernel)) ggX5_distance_X5_lightestMultiple
theorem dX5_distance_0 : decode cX5_distance 0 = .ok (.iload_n 1, 1) := by decide +kernel
theorem dX5_distance_1 : decode cX5_distance 1 = .ok (.invokestatic 44, 3) := by decide +kernel
theorem dX5_distance_4 : decode cX5_distance 4 = .ok (.ifCond .eq 19, 3) := by decide +kernel
theorem dX5_distance_7 : decode cX5_distance 7 = .ok (.iload_n 2, 1) := by decide +kernel
theorem dX5_distance_8 : decode cX5_distance 8 = .ok (.invokestatic 48, 3) := by decide +kernel
theorem dX5_distance_11 : decode cX5_distance 11 = .ok (.ifCond .eq 12, 3) := by decide +kernel
theorem dX5_distance_14 : decode cX5_distance 14 = .ok (.iload_n 1, 1) := by decide +kernel
theorem dX5_distance_15 : decode cX5_distance 15 = .ok (.iload_n 2, 1) := by decide +kernel
theorem dX5_distance_16 : decode cX5_distance 16 = .ok (.iconst 2, 1) := by decide +kernel
theorem dX5_distance_17 : decode cX5_distance 17 = .ok (.invokestatic 152, 3) := by decide +kernel
theorem dX5_distance_20 : decode cX5_distance 20 = .ok (.goto 5, 3) := by decide +kernel
theorem dX5_distance_23 : decode cX5_distance 23 = .ok (.ldc 51, 2) := by decide +kernel
theorem dX5_distance_25 : decode cX5_distance 25 = .ok (.ireturn, 1) := by decide +kernel
set_option maxRecDepth 20000 in
theorem ggX5_least_X5_isWidth : GoodIn wsX5_least wsX5_isWidth := goodIn_r _ [10] (by decide +kernel) (by decide +kernel)
set_option maxRecDepth 20000 in
theorem gX5_least_X5_isWidth : GoodIn wsX5_least (va_wsS RX5 48 yX5_isWidth wsX5_isWidth) := goodIn_app (goodIn_of _ (by decide +kernel)) ggX5_least_X5_isWidth
set_option maxRecDepth 20000 in
theorem ggX5_least_X5_lightestMultiple : GoodIn wsX5_least wsX5_lightestMultiple := goodIn_r _ [13, 6, 14, 15, 9, 16, 17, 18, 19, 20, 21, 22, 23] (by decide +kernel) (by decide +kernel)
set_option maxRecDepth 20000 in
theorem gX5_least_X5_lightestMultiple : GoodIn wsX5_least (va_wsS RX5 152 yX5_lightestMultiple wsX5_lightestMultiple) := goodIn_app (goodIn_of _ (by decide +kernel)) ggX5_least_X5_lightestMultiple
theorem dX5_least_0 : decode cX5_least 0 = .ok (.iload_n 1, 1) := by decide +kernel
theorem dX5_least_1 : decode cX5_least 1 = .ok (.iconst 1, 1) := by decide +kernel
theorem dX5_least_2 : decode cX5_least 2 = .ok (.if_icmp .lt 15, 3) := by decide +kernel
theorem dX5_least_5 : decode cX5_least 5 = .ok (.iload_n 1, 1) := by decide +kernel
theorem dX5_least_6 : decode cX5_least 6 = .ok (.iconst 5, 1) := by decide +kernel
theorem dX5_least_7 : decode cX5_least 7 = .ok (.if_icmp .gt 10, 3) := by decide +kernel
theorem dX5_least_10 : decode cX5_least 10 = .ok (.iload_n 2, 1) := by decide +kernel
theorem dX5_least_11 : decode cX5_least 11 = .ok (.invokestatic 48, 3) := by decide +kernel
theorem dX5_least_14 : decode cX5_least 14 = .ok (.ifCond .ne 6, 3) := by decide +kernel
theorem dX5_least_17 : decode cX5_least 17 = .ok (.ldc 51, 2) := by decide +kernel
theorem dX5_least_19 : decode cX5_least 19 = .ok (.ireturn, 1) := by decide +kernel
theorem dX5_least_20 : decode cX5_least 20 = .ok (.iconst 2, 1) := by decide +kernel
theorem dX5_least_21 : decode cX5_least 21 = .ok (.iload_n 1, 1) := by decide +kernel
theorem dX5_least_22 : decode cX5_least 22 = .ok (.iconst 1, 1) := by decide +kernel
theorem dX5_least_23 : decode cX5_least 23 = .ok (.isub, 1) := by decide +kernel
theorem dX5_least_24 : decode cX5_least 24 = .ok (.invokestatic 155, 3) := by decide +kernel
theorem dX5_least_27 : decode cX5_least 27 = .ok (.istore_n 3, 1) := by decide +kernel
theorem dX5_least_28 : decode cX5_least 28 = .ok (.iconst 3, 1) := by decide +kernel
theorem dX5_least_29 : decode cX5_least 29 = .ok (.istore 4, 2) := by decide +kernel
theorem dX5_least_31 : decode cX5_least 31 = .ok (.iload 4, 2) := by decide +kernel
theorem dX5_least_33 : decode cX5_least 33 = .ok (.sipush 199, 3) := by decide +kernel
theorem dX5_least_36 : decode cX5_least 36 = .ok (.if_icmp .gt 23, 3) := by decide +kernel
theorem dX5_least_39 : decode cX5_least 39 = .ok (.iload 4, 2) := by decide +kernel
theorem dX5_least_41 : decode cX5_least 41 = .ok (.iload_n 2, 1) := by decide +kernel
theorem dX5_least_42 : decode cX5_least 42 = .ok (.iload_n 3, 1) := by decide +kernel
theorem dX5_least_43 : decode cX5_least 43 = .ok (.invokestatic 152, 3) := by decide +kernel
theorem dX5_least_46 : decode cX5_least 46 = .ok (.iload_n 1, 1) := by decide +kernel
theorem dX5_least_47 : decode cX5_least 47 = .ok (.if_icmp .lt 6, 3) := by decide +kernel
theorem dX5_least_50 : decode cX5_least 50 = .ok (.iload 4, 2) := by decide +kernel
theorem dX5_least_52 : decode cX5_least 52 = .ok (.ireturn, 1) := by decide +kernel
theorem dX5_least_53 : decode cX5_least 53 = .ok (.iinc 4 2, 3) := by decide +kernel
theorem dX5_least_56 : decode cX5_least 56 = .ok (.goto (-25), 3) := by decide +kernel
theorem dX5_least_59 : decode cX5_least 59 = .ok (.ldc 134, 2) := by decide +kernel
theorem dX5_least_61 : decode cX5_least 61 = .ok (.ireturn, 1) := by decide +kernel
set_option maxRecDepth 20000 in
theorem ggX5_round_X5_isConstant : GoodIn wsX5_round wsX5_isConstant := goodIn_r _ [6] (by decide +kernel) (by decide +kernel)
set_option maxRecDepth 20000 in
theorem gX5_round_X5_isConstant : GoodIn wsX5_round (va_wsS RX5 44 yX5_isConstant wsX5_isConstant) := goodIn_app (goodIn_of _ (by decide +kernel)) ggX5_round_X5_isConstant
set_option maxRecDepth 20000 in
theorem ggX5_round_X5_rest : GoodIn wsX5_round wsX5_rest := goodIn_r _ [9, 10, 11, 12, 13] (by decide +kernel) (by decide +kernel)
set_option maxRecDepth 20000 in
theorem gX5_round_X5_rest : GoodIn wsX5_round (va_wsS RX5 74 yX5_rest wsX5_rest) := goodIn_app (goodIn_of _ (by decide +kernel)) ggX5_round_X5_rest
theorem dX5_round_0 : decode cX5_round 0 = .ok (.iload_n 1, 1) := by decide +kernel
theorem dX5_round_1 : decode cX5_round 1 = .ok (.invokestatic 44, 3) := by decide +kernel
theorem dX5_round_4 : decode cX5_round 4 = .ok (.ifCond .ne 6, 3) := by decide +kernel
theorem dX5_round_7 : decode cX5_round 7 = .ok (.ldc 51, 2) := by decide +kernel
theorem dX5_round_9 : decode cX5_round 9 = .ok (.ireturn, 1) := by decide +kernel
theorem dX5_round_10 : decode cX5_round 10 = .ok (.iconst 1, 1) := by decide +kernel
theorem dX5_round_11 : decode cX5_round 11 = .ok (.istore_n 2, 1) := by decide +kernel
theorem dX5_round_12 : decode cX5_round 12 = .ok (.iconst 1, 1) := by decide +kernel
theorem dX5_round_13 : decode cX5_round 13 = .ok (.istore_n 3, 1) := by decide +kernel
theorem dX5_round_14 : decode cX5_round 14 = .ok (.iload_n 3, 1) := by decide +kernel
theorem dX5_round_15 : decode cX5_round 15 = .ok (.iload_n 1, 1) := by decide +kernel
theorem dX5_round_16 : decode cX5_round 16 = .ok (.if_icmp .gt 31, 3) := by decide +kernel
theorem dX5_round_19 : decode cX5_round 19 = .ok (.iconst 2, 1) := by decide +kernel
theorem dX5_round_20 : decode cX5_round 20 = .ok (.iload_n 2, 1) := by decide +kernel
theorem dX5_round_21 : decode cX5_round 21 = .ok (.imul, 1) := by decide +kernel
theorem dX5_round_22 : decode cX5_round 22 = .ok (.iload_n 1, 1) := by decide +kernel
theorem dX5_round_23 : decode cX5_round 23 = .ok (.invokestatic 74, 3) := by decide +kernel
theorem dX5_round_26 : decode cX5_round 26 = .ok (.istore_n 2, 1) := by decide +kernel
theorem dX5_round_27 : decode cX5_round 27 = .ok (.iload_n 2, 1) := by decide +kernel
theorem dX5_round_28 : decode cX5_round 28 = .ok (.iconst 1, 1) := by decide +kernel
theorem dX5_round_29 : decode cX5_round 29 = .ok (.if_icmp .eq 10, 3) := by decide +kernel
theorem dX5_round_32 : decode cX5_round 32 = .ok (.iload_n 2, 1) := by decide +kernel
theorem dX5_round_33 : decode cX5_round 33 = .ok (.iload_n 1, 1) := by decide +kernel
theorem dX5_round_34 : decode cX5_round 34 = .ok (.iconst 1, 1) := by decide +kernel
theorem dX5_round_35 : decode cX5_round 35 = .ok (.isub, 1) := by decide +kernel
theorem dX5_round_36 : decode cX5_round 36 = .ok (.if_icmp .ne 5, 3) := by decide +kernel
theorem dX5_round_39 : decode cX5_round 39 = .ok (.iload_n 3, 1) := by decide +kernel
theorem dX5_round_40 : decode cX5_round 40 = .ok (.ireturn, 1) := by decide +kernel
theorem dX5_round_41 : decode cX5_round 41 = .ok (.iinc 3 1, 3) := by decide +kernel
theorem dX5_round_44 : decode cX5_round 44 = .ok (.goto (-30), 3) := by decide +kernel
theorem dX5_round_47 : decode cX5_round 47 = .ok (.ldc 134, 2) := by decide +kernel
theorem dX5_round_49 : decode cX5_round 49 = .ok (.ireturn, 1) := by decide +kernel
set_option maxRecDepth 20000 in
theorem ggX5_plain_X5_isConstant : GoodIn wsX5_plain wsX5_isConstant := goodIn_r _ [5] (by decide +kernel) (by decide +kernel)
set_option maxRecDepth 20000 in
theorem gX5_plain_X5_isConstant : GoodIn wsX5_plain (va_wsS RX5 44 yX5_isConstant wsX5_isConstant) := goodIn_app (goodIn_of _ (by decide +kernel)) ggX5_plain_X5_isConstant
set_option maxRecDepth 20000 in
theorem ggX5_plain_X5_isWidth : GoodIn wsX5_plain wsX5_isWidth := goodIn_r _ [8] (by decide +kernel) (by decide +kernel)
set_option maxRecDepth 20000 in
theorem gX5_plain_X5_isWidth : GoodIn wsX5_plain (va_wsS RX5 48 yX5_isWidth wsX5_isWidth) := goodIn_app (goodIn_of _ (by decide +kernel)) ggX5_plain_X5_isWidth
set_option maxRecDepth 20000 in
theorem ggX5_plain_X5_change : GoodIn wsX5_plain wsX5_change := goodIn_r _ [11] (by decide +kernel) (by decide +kernel)
set_option maxRecDepth 20000 in
theorem gX5_plain_X5_change : GoodIn wsX5_plain (va_wsS RX5 108 yX5_change wsX5_change) := goodIn_app (goodIn_of _ (by decide +kernel)) ggX5_plain_X5_change
set_option maxRecDepth 20000 in
theorem ggX5_plain_X5_rest : GoodIn wsX5_plain wsX5_rest := goodIn_r _ [14, 15, 16, 17, 18] (by decide +kernel) (by decide +kernel)
set_option maxRecDepth 20000 in
theorem gX5_plain_X5_rest : GoodIn wsX5_plain (va_wsS RX5 74 yX5_rest wsX5_rest) := goodIn_app (goodIn_of _ (by decide +kernel)) ggX5_plain_X5_rest
set_option maxRecDepth 20000 in
theorem ggX5_plain_X5_strikesLeaving : GoodIn wsX5_plain wsX5_strikesLeaving := goodIn_r _ [21, 9, 10, 4, 11, 12, 13, 14, 15, 16, 17, 18] (by decide +kernel) (by decide +kernel)
set_option maxRecDepth 20000 in
theorem gX5_plain_X5_strikesLeaving : GoodIn wsX5_plain (va_wsS RX5 158 yX5_strikesLeaving wsX5_strikesLeaving) := goodIn_app (goodIn_of _ (by decide +kernel)) ggX5_plain_X5_strikesLeaving
theorem dX5_plain_0 : decode cX5_plain 0 = .ok (.iload_n 1, 1) := by decide +kernel
theorem dX5_plain_1 : decode cX5_plain 1 = .ok (.invokestatic 44, 3) := by decide +kernel
theorem dX5_plain_4 : decode cX5_plain 4 = .ok (.ifCond .eq 10, 3) := by decide +kernel
theorem dX5_plain_7 : decode cX5_plain 7 = .ok (.iload_n 2, 1) := by decide +kernel
theorem dX5_plain_8 : decode cX5_plain 8 = .ok (.invokestatic 48, 3) := by decide +kernel
theorem dX5_plain_11 : decode cX5_plain 11 = .ok (.ifCond .ne 6, 3) := by decide +kernel
theorem dX5_plain_14 : decode cX5_plain 14 = .ok (.ldc 51, 2) := by decide +kernel
theorem dX5_plain_16 : decode cX5_plain 16 = .ok (.ireturn, 1) := by decide +kernel
theorem dX5_plain_17 : decode cX5_plain 17 = .ok (.iconst 0, 1) := by decide +kernel
theorem dX5_plain_18 : decode cX5_plain 18 = .ok (.istore_n 3, 1) := by decide +kernel
theorem dX5_plain_19 : decode cX5_plain 19 = .ok (.iload_n 3, 1) := by decide +kernel
theorem dX5_plain_20 : decode cX5_plain 20 = .ok (.iconst 2, 1) := by decide +kernel
theorem dX5_plain_21 : decode cX5_plain 21 = .ok (.iload_n 2, 1) := by decide +kernel
theorem dX5_plain_22 : decode cX5_plain 22 = .ok (.imul, 1) := by decide +kernel
theorem dX5_plain_23 : decode cX5_plain 23 = .ok (.if_icmp .ge 37, 3) := by decide +kernel
theorem dX5_plain_26 : decode cX5_plain 26 = .ok (.iload_n 3, 1) := by decide +kernel
theorem dX5_plain_27 : decode cX5_plain 27 = .ok (.invokestatic 108, 3) := by decide +kernel
theorem dX5_plain_30 : decode cX5_plain 30 = .ok (.iload_n 1, 1) := by decide +kernel
theorem dX5_plain_31 : decode cX5_plain 31 = .ok (.invokestatic 74, 3) := by decide +kernel
theorem dX5_plain_34 : decode cX5_plain 34 = .ok (.istore 4, 2) := by decide +kernel
theorem dX5_plain_36 : decode cX5_plain 36 = .ok (.iload 4, 2) := by decide +kernel
theorem dX5_plain_38 : decode cX5_plain 38 = .ok (.ifCond .eq 14, 3) := by decide +kernel
theorem dX5_plain_41 : decode cX5_plain 41 = .ok (.iload 4, 2) := by decide +kernel
theorem dX5_plain_43 : decode cX5_plain 43 = .ok (.iload_n 1, 1) := by decide +kernel
theorem dX5_plain_44 : decode cX5_plain 44 = .ok (.iload_n 2, 1) := by decide +kernel
theorem dX5_plain_45 : decode cX5_plain 45 = .ok (.invokestatic 158, 3) := by decide +kernel
theorem dX5_plain_48 : decode cX5_plain 48 = .ok (.iconst 1, 1) := by decide +kernel
theorem dX5_plain_49 : decode cX5_plain 49 = .ok (.if_icmp .eq 5, 3) := by decide +kernel
theorem dX5_plain_52 : decode cX5_plain 52 = .ok (.iconst 0, 1) := by decide +kernel
theorem dX5_plain_53 : decode cX5_plain 53 = .ok (.ireturn, 1) := by decide +kernel
theorem dX5_plain_54 : decode cX5_plain 54 = .ok (.iinc 3 1, 3) := by decide +kernel
theorem dX5_plain_57 : decode cX5_plain 57 = .ok (.goto (-38), 3) := by decide +kernel
theorem dX5_plain_60 : decode cX5_plain 60 = .ok (.iconst 1, 1) := by decide +kernel
theorem dX5_plain_61 : decode cX5_plain 61 = .ok (.ireturn, 1) := by decide +kernel
set_option maxRecDepth 20000 in
theorem ggX5_same_X5_strikesLeaving : GoodIn wsX5_same wsX5_strikesLeaving := goodIn_r _ [6, 7, 8, 5, 9, 10, 11, 12, 13, 14, 15, 16] (by decide +kernel) (by decide +kernel)
set_option maxRecDepth 20000 in
theorem gX5_same_X5_strikesLeaving : GoodIn wsX5_same (va_wsS RX5 158 yX5_strikesLeaving wsX5_strikesLeaving) := goodIn_app (goodIn_of _ (by decide +kernel)) ggX5_same_X5_strikesLeaving
set_option maxRecDepth 20000 in
theorem ggX5_same_X5_firstLeaving : GoodIn wsX5_same wsX5_firstLeaving := goodIn_r _ [19, 20, 7, 8, 5, 9, 10, 11, 12, 13, 14, 15, 16] (by decide +kernel) (by decide +kernel)
set_option maxRecDepth 20000 in
theorem gX5_same_X5_firstLeaving : GoodIn wsX5_same (va_wsS RX5 164 yX5_firstLeaving wsX5_firstLeaving) := goodIn_app (goodIn_of _ (by decide +kernel)) ggX5_same_X5_firstLeaving
theorem dX5_same_0 : decode cX5_same 0 = .ok (.iload_n 1, 1) := by decide +kernel
theorem dX5_same_1 : decode cX5_same 1 = .ok (.ifCond .lt 14, 3) := by decide +kernel
theorem dX5_same_4 : decode cX5_same 4 = .ok (.iload_n 1, 1) := by decide +kernel
theorem dX5_same_5 : decode cX5_same 5 = .ok (.aload_n 0, 1) := by decide +kernel
theorem dX5_same_6 : decode cX5_same 6 = .ok (.getfield 10, 3) := by decide +kernel
theorem dX5_same_9 : decode cX5_same 9 = .ok (.getfield 70, 3) := by decide +kernel
theorem dX5_same_12 : decode cX5_same 12 = .ok (.if_icmp .lt 6, 3) := by decide +kernel
theorem dX5_same_15 : decode cX5_same 15 = .ok (.ldc 51, 2) := by decide +kernel
theorem dX5_same_17 : decode cX5_same 17 = .ok (.ireturn, 1) := by decide +kernel
theorem dX5_same_18 : decode cX5_same 18 = .ok (.iload_n 2, 1) := by decide +kernel
theorem dX5_same_19 : decode cX5_same 19 = .ok (.lookupswitch 63 #[(0, 25), (1, 44)], 25) := by decide +kernel
theorem dX5_same_44 : decode cX5_same 44 = .ok (.iload_n 1, 1) := by decide +kernel
theorem dX5_same_45 : decode cX5_same 45 = .ok (.aload_n 0, 1) := by decide +kernel
theorem dX5_same_46 : decode cX5_same 46 = .ok (.getfield 10, 3) := by decide +kernel
theorem dX5_same_49 : decode cX5_same 49 = .ok (.getfield 70, 3) := by decide +kernel
theorem dX5_same_52 : decode cX5_same 52 = .ok (.aload_n 0, 1) := by decide +kernel
theorem dX5_same_53 : decode cX5_same 53 = .ok (.getfield 10, 3) := by decide +kernel
theorem dX5_same_56 : decode cX5_same 56 = .ok (.getfield 161, 3) := by decide +kernel
theorem dX5_same_59 : decode cX5_same 59 = .ok (.invokestatic 158, 3) := by decide +kernel
theorem dX5_same_62 : decode cX5_same 62 = .ok (.ireturn, 1) := by decide +kernel
theorem dX5_same_63 : decode cX5_same 63 = .ok (.iload_n 1, 1) := by decide +kernel
theorem dX5_same_64 : decode cX5_same 64 = .ok (.aload_n 0, 1) := by decide +kernel
theorem dX5_same_65 : decode cX5_same 65 = .ok (.getfield 10, 3) := by decide +kernel
theorem dX5_same_68 : decode cX5_same 68 = .ok (.getfield 70, 3) := by decide +kernel
theorem dX5_same_71 : decode cX5_same 71 = .ok (.aload_n 0, 1) := by decide +kernel
theorem dX5_same_72 : decode cX5_same 72 = .ok (.getfield 10, 3) := by decide +kernel
theorem dX5_same_75 : decode cX5_same 75 = .ok (.getfield 161, 3) := by decide +kernel
theorem dX5_same_78 : decode cX5_same 78 = .ok (.invokestatic 164, 3) := by decide +kernel
theorem dX5_same_81 : decode cX5_same 81 = .ok (.ireturn, 1) := by decide +kernel
theorem dX5_same_82 : decode cX5_same 82 = .ok (.ldc 51, 2) := by decide +kernel
theorem dX5_same_84 : decode cX5_same 84 = .ok (.ireturn, 1) := by decide +kernel
set_option maxRecDepth 20000 in
theorem ggX5_missed_X2_strikeCount : GoodIn wsX5_missed wsX2_strikeCount := goodIn_r _ [6, 7, 28, 29, 30, 31] (by decide +kernel) (by decide +kernel)
set_option maxRecDepth 20000 in
theorem gX5_missed_X2_strikeCount : GoodIn wsX5_missed (wsV RX5 105 RX2 yX2_strikeCount wsX2_strikeCount) := goodIn_app (goodIn_of _ (by decide +kernel)) ggX5_missed_X2_strikeCount
set_option maxRecDepth 20000 in
theorem ggX5_missed_X5_change : GoodIn wsX5_missed wsX5_change := goodIn_r _ [11] (by decide +kernel) (by decide +kernel)
set_option maxRecDepth 20000 in
theorem gX5_missed_X5_change : GoodIn wsX5_missed (va_wsS RX5 108 yX5_change wsX5_change) := goodIn_app (goodIn_of _ (by decide +kernel)) ggX5_missed_X5_change
set_option maxRecDepth 20000 in
theorem ggX5_missed_X2_fits : GoodIn wsX5_missed wsX2_fits := goodIn_r _ [15, 16, 17, 10, 18, 19, 20, 21, 22, 28, 29, 30, 31] (by decide +kernel) (by decide +kernel)
set_option maxRecDepth 20000 in
theorem gX5_missed_X2_fits : GoodIn wsX5_missed (wsV RX5 128 RX2 yX2_fits wsX2_fits) := goodIn_app (goodIn_of _ (by decide +kernel)) ggX5_missed_X2_fits
theorem dX5_missed_0 : decode cX5_missed 0 = .ok (.iconst 0, 1) := by decide +kernel
theorem dX5_missed_1 : decode cX5_missed 1 = .ok (.istore_n 1, 1) := by decide +kernel
theorem dX5_missed_2 : decode cX5_missed 2 = .ok (.iconst 2, 1) := by decide +kernel
theorem dX5_missed_3 : decode cX5_missed 3 = .ok (.istore_n 2, 1) := by decide +kernel
theorem dX5_missed_4 : decode cX5_missed 4 = .ok (.iload_n 2, 1) := by decide +kernel
theorem dX5_missed_5 : decode cX5_missed 5 = .ok (.aload_n 0, 1) := by decide +kernel
theorem dX5_missed_6 : decode cX5_missed 6 = .ok (.getfield 10, 3) := by decide +kernel
theorem dX5_missed_9 : decode cX5_missed 9 = .ok (.invokevirtual 105, 3) := by decide +kernel
theorem dX5_missed_12 : decode cX5_missed 12 = .ok (.if_icmp .ge 48, 3) := by decide +kernel
theorem dX5_missed_15 : decode cX5_missed 15 = .ok (.iconst 0, 1) := by decide +kernel
theorem dX5_missed_16 : decode cX5_missed 16 = .ok (.istore_n 3, 1) := by decide +kernel
theorem dX5_missed_17 : decode cX5_missed 17 = .ok (.iload_n 3, 1) := by decide +kernel
theorem dX5_missed_18 : decode cX5_missed 18 = .ok (.iload_n 2, 1) := by decide +kernel
theorem dX5_missed_19 : decode cX5_missed 19 = .ok (.iconst 2, 1) := by decide +kernel
theorem dX5_missed_20 : decode cX5_missed 20 = .ok (.idiv, 1) := by decide +kernel
theorem dX5_missed_21 : decode cX5_missed 21 = .ok (.iconst 2, 1) := by decide +kernel
theorem dX5_missed_22 : decode cX5_missed 22 = .ok (.imul, 1) := by decide +kernel
theorem dX5_missed_23 : decode cX5_missed 23 = .ok (.if_icmp .ge 31, 3) := by decide +kernel
theorem dX5_missed_26 : decode cX5_missed 26 = .ok (.aload_n 0, 1) := by decide +kernel
theorem dX5_missed_27 : decode cX5_missed 27 = .ok (.getfield 10, 3) := by decide +kernel
theorem dX5_missed_30 : decode cX5_missed 30 = .ok (.iload_n 3, 1) := by decide +kernel
theorem dX5_missed_31 : decode cX5_missed 31 = .ok (.invokestatic 108, 3) := by decide +kernel
theorem dX5_missed_34 : decode cX5_missed 34 = .ok (.iload_n 2, 1) := by decide +kernel
theorem dX5_missed_35 : decode cX5_missed 35 = .ok (.invokestatic 108, 3) := by decide +kernel
theorem dX5_missed_38 : decode cX5_missed 38 = .ok (.iadd, 1) := by decide +kernel
theorem dX5_missed_39 : decode cX5_missed 39 = .ok (.invokevirtual 128, 3) := by decide +kernel
theorem dX5_missed_42 : decode cX5_missed 42 = .ok (.ifCond .eq 6, 3) := by decide +kernel
theorem dX5_missed_45 : decode cX5_missed 45 = .ok (.iinc 1 1, 3) := by decide +kernel
theorem dX5_missed_48 : decode cX5_missed 48 = .ok (.iinc 3 1, 3) := by decide +kernel
theorem dX5_missed_51 : decode cX5_missed 51 = .ok (.goto (-34), 3) := by decide +kernel
theorem dX5_missed_54 : decode cX5_missed 54 = .ok (.iinc 2 1, 3) := by decide +kernel
theorem dX5_missed_57 : decode cX5_missed 57 = .ok (.goto (-53), 3) := by decide +kernel
theorem dX5_missed_60 : decode cX5_missed 60 = .ok (.iload_n 1, 1) := by decide +kernel
theorem dX5_missed_61 : decode cX5_missed 61 = .ok (.ireturn, 1) := by decide +kernel
set_option maxRecDepth 20000 in
theorem ggX5_odds_X1_waysToFit : GoodIn wsX5_odds wsX1_waysToFit := goodIn_r _ [8, 9, 10, 11, 12, 13, 14, 15, 16, 7, 17, 18, 19, 20, 21, 22, 23, 24, 25, 26, 27, 28, 29, 30, 31, 54, 55] (by decide +kernel) (by decide +kernel)
set_option maxRecDepth 20000 in
theorem gX5_odds_X1_waysToFit : GoodIn wsX5_odds (wsV RX5 167 RX1 yX1_waysToFit wsX1_waysToFit) := goodIn_app (goodIn_of _ (by decide +kernel)) ggX5_odds_X1_waysToFit
set_option maxRecDepth 20000 in
theorem ggX5_odds_X2_strikeCount : GoodIn wsX5_odds wsX2_strikeCount := goodIn_r _ [36, 37, 50, 51, 52, 53] (by decide +kernel) (by decide +kernel)
set_option maxRecDepth 20000 in
theorem gX5_odds_X2_strikeCount : GoodIn wsX5_odds (wsV RX5 105 RX2 yX2_strikeCount wsX2_strikeCount) := goodIn_app (goodIn_of _ (by decide +kernel)) ggX5_odds_X2_strikeCount
set_option maxRecDepth 20000 in
theorem ggX5_odds_X5_commonDivisor : GoodIn wsX5_odds wsX5_commonDivisor := goodIn_r _ [40, 41, 26, 24, 27, 28, 29, 30, 31] (by decide +kernel) (by decide +kernel)
set_option maxRecDepth 20000 in
theorem gX5_odds_X5_commonDivisor : GoodIn wsX5_odds (va_wsS RX5 170 yX5_commonDivisor wsX5_commonDivisor) := goodIn_app (goodIn_of _ (by decide +kernel)) ggX5_odds_X5_commonDivisor
set_option maxRecDepth 20000 in
theorem ggX5_odds_X5_cut : GoodIn wsX5_odds wsX5_cut := goodIn_r _ [44] (by decide +kernel) (by decide +kernel)
set_option maxRecDepth 20000 in
theorem gX5_odds_X5_cut : GoodIn wsX5_odds (va_wsS RX5 173 yX5_cut wsX5_cut) := goodIn_app (goodIn_of _ (by decide +kernel)) ggX5_odds_X5_cut
theorem dX5_odds_0 : decode cX5_odds 0 = .ok (.iload_n 1, 1) := by decide +kernel
theorem dX5_odds_1 : decode cX5_odds 1 = .ok (.iconst 1, 1) := by decide +kernel
theorem dX5_odds_2 : decode cX5_odds 2 = .ok (.if_icmp .lt 17, 3) := by decide +kernel
theorem dX5_odds_5 : decode cX5_odds 5 = .ok (.iload_n 1, 1) := by decide +kernel
theorem dX5_odds_6 : decode cX5_odds 6 = .ok (.iconst 4, 1) := by decide +kernel
theorem dX5_odds_7 : decode cX5_odds 7 = .ok (.if_icmp .gt 12, 3) := by decide +kernel
theorem dX5_odds_10 : decode cX5_odds 10 = .ok (.iload_n 2, 1) := by decide +kernel
theorem dX5_odds_11 : decode cX5_odds 11 = .ok (.ifCond .lt 8, 3) := by decide +kernel
theorem dX5_odds_14 : decode cX5_odds 14 = .ok (.iload_n 2, 1) := by decide +kernel
theorem dX5_odds_15 : decode cX5_odds 15 = .ok (.iconst 1, 1) := by decide +kernel
theorem dX5_odds_16 : decode cX5_odds 16 = .ok (.if_icmp .le 6, 3) := by decide +kernel
theorem dX5_odds_19 : decode cX5_odds 19 = .ok (.ldc 51, 2) := by decide +kernel
theorem dX5_odds_21 : decode cX5_odds 21 = .ok (.ireturn, 1) := by decide +kernel
theorem dX5_odds_22 : decode cX5_odds 22 = .ok (.aload_n 0, 1) := by decide +kernel
theorem dX5_odds_23 : decode cX5_odds 23 = .ok (.getfield 40, 3) := by decide +kernel
theorem dX5_odds_26 : decode cX5_odds 26 = .ok (.iload_n 1, 1) := by decide +kernel
theorem dX5_odds_27 : decode cX5_odds 27 = .ok (.aload_n 0, 1) := by decide +kernel
theorem dX5_odds_28 : decode cX5_odds 28 = .ok (.getfield 10, 3) := by decide +kernel
theorem dX5_odds_31 : decode cX5_odds 31 = .ok (.getfield 70, 3) := by decide +kernel
theorem dX5_odds_34 : decode cX5_odds 34 = .ok (.aload_n 0, 1) := by decide +kernel
theorem dX5_odds_35 : decode cX5_odds 35 = .ok (.getfield 10, 3) := by decide +kernel
theorem dX5_odds_38 : decode cX5_odds 38 = .ok (.getfield 161, 3) := by decide +kernel
theorem dX5_odds_41 : decode cX5_odds 41 = .ok (.invokevirtual 167, 3) := by decide +kernel
theorem dX5_odds_44 : decode cX5_odds 44 = .ok (.istore_n 3, 1) := by decide +kernel
theorem dX5_odds_45 : decode cX5_odds 45 = .ok (.iconst 1, 1) := by decide +kernel
theorem dX5_odds_46 : decode cX5_odds 46 = .ok (.istore 4, 2) := by decide +kernel
theorem dX5_odds_48 : decode cX5_odds 48 = .ok (.iconst 0, 1) := by decide +kernel
theorem dX5_odds_49 : decode cX5_odds 49 = .ok (.istore 5, 2) := by decide +kernel
theorem dX5_odds_51 : decode cX5_odds 51 = .ok (.iload 5, 2) := by decide +kernel
theorem dX5_odds_53 : decode cX5_odds 53 = .ok (.iload_n 1, 1) := by decide +kernel
theorem dX5_odds_54 : decode cX5_odds 54 = .ok (.if_icmp .ge 21, 3) := by decide +kernel
theorem dX5_odds_57 : decode cX5_odds 57 = .ok (.iload 4, 2) := by decide +kernel
theorem dX5_odds_59 : decode cX5_odds 59 = .ok (.aload_n 0, 1) := by decide +kernel
theorem dX5_odds_60 : decode cX5_odds 60 = .ok (.getfield 10, 3) := by decide +kernel
theorem dX5_odds_63 : decode cX5_odds 63 = .ok (.invokevirtual 105, 3) := by decide +kernel
theorem dX5_odds_66 : decode cX5_odds 66 = .ok (.imul, 1) := by decide +kernel
theorem dX5_odds_67 : decode cX5_odds 67 = .ok (.istore 4, 2) := by decide +kernel
theorem dX5_odds_69 : decode cX5_odds 69 = .ok (.iinc 5 1, 3) := by decide +kernel
theorem dX5_odds_72 : decode cX5_odds 72 = .ok (.goto (-21), 3) := by decide +kernel
theorem dX5_odds_75 : decode cX5_odds 75 = .ok (.iload_n 2, 1) := by decide +kernel
theorem dX5_odds_76 : decode cX5_odds 76 = .ok (.ifCond .ne 8, 3) := by decide +kernel
theorem dX5_odds_79 : decode cX5_odds 79 = .ok (.iload_n 3, 1) := by decide +kernel
theorem dX5_odds_80 : decode cX5_odds 80 = .ok (.i2l, 1) := by decide +kernel
theorem dX5_odds_81 : decode cX5_odds 81 = .ok (.goto 6, 3) := by decide +kernel
theorem dX5_odds_84 : decode cX5_odds 84 = .ok (.iload 4, 2) := by decide +kernel
theorem dX5_odds_86 : decode cX5_odds 86 = .ok (.i2l, 1) := by decide +kernel
theorem dX5_odds_87 : decode cX5_odds 87 = .ok (.iload_n 3, 1) := by decide +kernel
theorem dX5_odds_88 : decode cX5_odds 88 = .ok (.iload 4, 2) := by decide +kernel
theorem dX5_odds_90 : decode cX5_odds 90 = .ok (.invokestatic 170, 3) := by decide +kernel
theorem dX5_odds_93 : decode cX5_odds 93 = .ok (.invokestatic 173, 3) := by decide +kernel
theorem dX5_odds_96 : decode cX5_odds 96 = .ok (.l2i, 1) := by decide +kernel
theorem dX5_odds_97 : decode cX5_odds 97 = .ok (.ireturn, 1) := by decide +kernel
set_option maxRecDepth 20000 in
theorem ggX5_sees_X4_note : GoodIn wsX5_sees wsX4_note := goodIn_r _ [8, 9, 10, 11, 17, 18, 19, 20] (by decide +kernel) (by decide +kernel)
set_option maxRecDepth 20000 in
theorem gX5_sees_X4_note : GoodIn wsX5_sees (wsV RX5 177 RX4 yX4_note wsX4_note) := goodIn_app (goodIn_of _ (by decide +kernel)) ggX5_sees_X4_note
theorem dX5_sees_0 : decode cX5_sees 0 = .ok (.iload_n 1, 1) := by decide +kernel
theorem dX5_sees_1 : decode cX5_sees 1 = .ok (.iconst 1, 1) := by decide +kernel
theorem dX5_sees_2 : decode cX5_sees 2 = .ok (.if_icmp .lt 19, 3) := by decide +kernel
theorem dX5_sees_5 : decode cX5_sees 5 = .ok (.iload_n 1, 1) := by decide +kernel
theorem dX5_sees_6 : decode cX5_sees 6 = .ok (.sipush 9999, 3) := by decide +kernel
theorem dX5_sees_9 : decode cX5_sees 9 = .ok (.if_icmp .gt 12, 3) := by decide +kernel
theorem dX5_sees_12 : decode cX5_sees 12 = .ok (.iload_n 2, 1) := by decide +kernel
theorem dX5_sees_13 : decode cX5_sees 13 = .ok (.ifCond .lt 8, 3) := by decide +kernel
theorem dX5_sees_16 : decode cX5_sees 16 = .ok (.iload_n 2, 1) := by decide +kernel
theorem dX5_sees_17 : decode cX5_sees 17 = .ok (.iconst 1, 1) := by decide +kernel
theorem dX5_sees_18 : decode cX5_sees 18 = .ok (.if_icmp .le 6, 3) := by decide +kernel
theorem dX5_sees_21 : decode cX5_sees 21 = .ok (.ldc 51, 2) := by decide +kernel
theorem dX5_sees_23 : decode cX5_sees 23 = .ok (.ireturn, 1) := by decide +kernel
theorem dX5_sees_24 : decode cX5_sees 24 = .ok (.aload_n 0, 1) := by decide +kernel
theorem dX5_sees_25 : decode cX5_sees 25 = .ok (.getfield 33, 3) := by decide +kernel
theorem dX5_sees_28 : decode cX5_sees 28 = .ok (.iload_n 1, 1) := by decide +kernel
theorem dX5_sees_29 : decode cX5_sees 29 = .ok (.iload_n 2, 1) := by decide +kernel
theorem dX5_sees_30 : decode cX5_sees 30 = .ok (.invokevirtual 177, 3) := by decide +kernel
theorem dX5_sees_33 : decode cX5_sees 33 = .ok (.ifCond .eq 13, 3) := by decide +kernel
theorem dX5_sees_36 : decode cX5_sees 36 = .ok (.aload_n 0, 1) := by decide +kernel
theorem dX5_sees_37 : decode cX5_sees 37 = .ok (.getfield 33, 3) := by decide +kernel
theorem dX5_sees_40 : decode cX5_sees 40 = .ok (.getfield 180, 3) := by decide +kernel
theorem dX5_sees_43 : decode cX5_sees 43 = .ok (.goto 5, 3) := by decide +kernel
theorem dX5_sees_46 : decode cX5_sees 46 = .ok (.ldc 183, 2) := by decide +kernel
theorem dX5_sees_48 : decode cX5_sees 48 = .ok (.ireturn, 1) := by decide +kernel
theorem dX5_forget_0 : decode cX5_forget 0 = .ok (.aload_n 0, 1) := by decide +kernel
theorem dX5_forget_1 : decode cX5_forget 1 = .ok (.getfield 33, 3) := by decide +kernel
theorem dX5_forget_4 : decode cX5_forget 4 = .ok (.getfield 180, 3) := by decide +kernel
theorem dX5_forget_7 : decode cX5_forget 7 = .ok (.istore_n 1, 1) := by decide +kernel
theorem dX5_forget_8 : decode cX5_forget 8 = .ok (.aload_n 0, 1) := by decide +kernel
theorem dX5_forget_9 : decode cX5_forget 9 = .ok (.getfield 33, 3) := by decide +kernel
theorem dX5_forget_12 : decode cX5_forget 12 = .ok (.iconst 0, 1) := by decide +kernel
theorem dX5_forget_13 : decode cX5_forget 13 = .ok (.putfield 180, 3) := by decide +kernel
theorem dX5_forget_16 : decode cX5_forget 16 = .ok (.iload_n 1, 1) := by decide +kernel
theorem dX5_forget_17 : decode cX5_forget 17 = .ok (.ireturn, 1) := by decide +kernel
set_option maxRecDepth 20000 in
theorem ggX5_unseen_X4_gatherOpen : GoodIn wsX5_unseen wsX4_gatherOpen := goodIn_r _ [7, 8, 9, 10, 11, 6, 12, 13, 14, 15, 16, 17, 18, 19, 20, 21, 22, 34, 35, 36, 37] (by decide +kernel) (by decide +kernel)
set_option maxRecDepth 20000 in
theorem gX5_unseen_X4_gatherOpen : GoodIn wsX5_unseen (wsV RX5 184 RX4 yX4_gatherOpen wsX4_gatherOpen) := goodIn_app (goodIn_of _ (by decide +kernel)) ggX5_unseen_X4_gatherOpen
set_option maxRecDepth 20000 in
theorem ggX5_unseen_X4_leastOpen : GoodIn wsX5_unseen wsX4_leastOpen := goodIn_r _ [26, 27, 8, 28, 4, 5, 6, 7, 9, 10, 11, 12, 13, 14, 15, 16, 17, 18, 19, 20, 21, 22, 34, 35, 36, 37] (by decide +kernel) (by decide +kernel)
set_option maxRecDepth 20000 in
theorem gX5_unseen_X4_leastOpen : GoodIn wsX5_unseen (wsV RX5 187 RX4 yX4_leastOpen wsX4_leastOpen) := goodIn_app (goodIn_of _ (by decide +kernel)) ggX5_unseen_X4_leastOpen
theorem dX5_unseen_0 : decode cX5_unseen 0 = .ok (.iload_n 1, 1) := by decide +kernel
theorem dX5_unseen_1 : decode cX5_unseen 1 = .ok (.lookupswitch 43 #[(0, 27), (1, 35)], 27) := by decide +kernel
theorem dX5_unseen_28 : decode cX5_unseen 28 = .ok (.aload_n 0, 1) := by decide +kernel
theorem dX5_unseen_29 : decode cX5_unseen 29 = .ok (.getfield 33, 3) := by decide +kernel
theorem dX5_unseen_32 : decode cX5_unseen 32 = .ok (.invokevirtual 184, 3) := by decide +kernel
theorem dX5_unseen_35 : decode cX5_unseen 35 = .ok (.ireturn, 1) := by decide +kernel
theorem dX5_unseen_36 : decode cX5_unseen 36 = .ok (.aload_n 0, 1) := by decide +kernel
theorem dX5_unseen_37 : decode cX5_unseen 37 = .ok (.getfield 33, 3) := by decide +kernel
theorem dX5_unseen_40 : decode cX5_unseen 40 = .ok (.invokevirtual 187, 3) := by decide +kernel
theorem dX5_unseen_43 : decode cX5_unseen 43 = .ok (.ireturn, 1) := by decide +kernel
theorem dX5_unseen_44 : decode cX5_unseen 44 = .ok (.ldc 51, 2) := by decide +kernel
theorem dX5_unseen_46 : decode cX5_unseen 46 = .ok (.ireturn, 1) := by decide +kernel
set_option maxRecDepth 20000 in
theorem ggX5_next_X4_bestTry : GoodIn wsX5_next wsX4_bestTry := goodIn_r _ [6, 7, 8, 9, 10, 11, 12, 13, 14, 5, 15, 16, 17, 18, 19, 20, 21, 22, 23, 24, 25, 26, 27, 28, 29, 30, 31, 32, 33, 34, 40, 41, 42, 43] (by decide +kernel) (by decide +kernel)
set_option maxRecDepth 20000 in
theorem gX5_next_X4_bestTry : GoodIn wsX5_next (wsV RX5 190 RX4 yX4_bestTry wsX4_bestTry) := goodIn_app (goodIn_of _ (by decide +kernel)) ggX5_next_X4_bestTry
theorem dX5_next_0 : decode cX5_next 0 = .ok (.aload_n 0, 1) := by decide +kernel
theorem dX5_next_1 : decode cX5_next 1 = .ok (.getfield 33, 3) := by decide +kernel
theorem dX5_next_4 : decode cX5_next 4 = .ok (.invokevirtual 190, 3) := by decide +kernel
theorem dX5_next_7 : decode cX5_next 7 = .ok (.ireturn, 1) := by decide +kernel
set_option maxRecDepth 20000 in
theorem ggX5_keep_X5_isImage : GoodIn wsX5_keep wsX5_isImage := goodIn_r _ [7] (by decide +kernel) (by decide +kernel)
set_option maxRecDepth 20000 in
theorem gX5_keep_X5_isImage : GoodIn wsX5_keep (va_wsS RX5 193 yX5_isImage wsX5_isImage) := goodIn_app (goodIn_of _ (by decide +kernel)) ggX5_keep_X5_isImage
set_option maxRecDepth 20000 in
theorem ggX5_keep_X0_store : GoodIn wsX5_keep wsX0_store := goodIn_r _ [12, 13, 14, 15, 16, 5, 6, 7, 17, 18, 19, 20, 21, 22, 23, 24, 25, 26, 27, 28, 29, 30, 31, 32, 33, 34, 35, 36, 37, 38, 39, 40, 41, 42, 43, 44, 54, 50, 51, 52, 53] (by decide +kernel) (by decide +kernel)
set_option maxRecDepth 20000 in
theorem gX5_keep_X0_store : GoodIn wsX5_keep (wsV RX5 196 RX0 yX0_store wsX0_store) := goodIn_app (goodIn_of _ (by decide +kernel)) ggX5_keep_X0_store
theorem dX5_keep_0 : decode cX5_keep 0 = .ok (.iload_n 1, 1) := by decide +kernel
theorem dX5_keep_1 : decode cX5_keep 1 = .ok (.invokestatic 193, 3) := by decide +kernel
theorem dX5_keep_4 : decode cX5_keep 4 = .ok (.ifCond .ne 6, 3) := by decide +kernel
theorem dX5_keep_7 : decode cX5_keep 7 = .ok (.ldc 51, 2) := by decide +kernel
theorem dX5_keep_9 : decode cX5_keep 9 = .ok (.ireturn, 1) := by decide +kernel
theorem dX5_keep_10 : decode cX5_keep 10 = .ok (.aload_n 0, 1) := by decide +kernel
theorem dX5_keep_11 : decode cX5_keep 11 = .ok (.getfield 26, 3) := by decide +kernel
theorem dX5_keep_14 : decode cX5_keep 14 = .ok (.iload_n 1, 1) := by decide +kernel
theorem dX5_keep_15 : decode cX5_keep 15 = .ok (.aload_n 0, 1) := by decide +kernel
theorem dX5_keep_16 : decode cX5_keep 16 = .ok (.getfield 10, 3) := by decide +kernel
theorem dX5_keep_19 : decode cX5_keep 19 = .ok (.invokevirtual 196, 3) := by decide +kernel
theorem dX5_keep_22 : decode cX5_keep 22 = .ok (.aload_n 0, 1) := by decide +kernel
theorem dX5_keep_23 : decode cX5_keep 23 = .ok (.getfield 10, 3) := by decide +kernel
theorem dX5_keep_26 : decode cX5_keep 26 = .ok (.getfield 70, 3) := by decide +kernel
theorem dX5_keep_29 : decode cX5_keep 29 = .ok (.ireturn, 1) := by decide +kernel
set_option maxRecDepth 20000 in
theorem ggX5_back_X5_isImage : GoodIn wsX5_back wsX5_isImage := goodIn_r _ [9] (by decide +kernel) (by decide +kernel)
set_option maxRecDepth 20000 in
theorem gX5_back_X5_isImage : GoodIn wsX5_back (va_wsS RX5 193 yX5_isImage wsX5_isImage) := goodIn_app (goodIn_of _ (by decide +kernel)) ggX5_back_X5_isImage
set_option maxRecDepth 20000 in
theorem ggX5_back_X0_fetch : GoodIn wsX5_back wsX0_fetch := goodIn_r _ [14, 15, 7, 8, 9, 16, 17, 18, 19, 20, 21, 22, 23, 24, 25, 26, 27, 28, 29, 30, 31, 32, 33, 34, 35, 36, 37, 38, 54, 50, 51, 52, 53] (by decide +kernel) (by decide +kernel)
set_option maxRecDepth 20000 in
theorem gX5_back_X0_fetch : GoodIn wsX5_back (wsV RX5 200 RX0 yX0_fetch wsX0_fetch) := goodIn_app (goodIn_of _ (by decide +kernel)) ggX5_back_X0_fetch
set_option maxRecDepth 20000 in
theorem ggX5_back_X3_lose : GoodIn wsX5_back wsX3_lose := goodIn_r _ [43, 44, 55, 56, 57] (by decide +kernel) (by decide +kernel)
set_option maxRecDepth 20000 in
theorem gX5_back_X3_lose : GoodIn wsX5_back (wsV RX5 204 RX3 yX3_lose wsX3_lose) := goodIn_app (goodIn_of _ (by decide +kernel)) ggX5_back_X3_lose
theorem dX5_back_0 : decode cX5_back 0 = .ok (.iload_n 1, 1) := by decide +kernel
theorem dX5_back_1 : decode cX5_back 1 = .ok (.invokestatic 193, 3) := by decide +kernel
theorem dX5_back_4 : decode cX5_back 4 = .ok (.ifCond .ne 6, 3) := by decide +kernel
theorem dX5_back_7 : decode cX5_back 7 = .ok (.ldc 51, 2) := by decide +kernel
theorem dX5_back_9 : decode cX5_back 9 = .ok (.ireturn, 1) := by decide +kernel
theorem dX5_back_10 : decode cX5_back 10 = .ok (.aload_n 0, 1) := by decide +kernel
theorem dX5_back_11 : decode cX5_back 11 = .ok (.getfield 26, 3) := by decide +kernel
theorem dX5_back_14 : decode cX5_back 14 = .ok (.iload_n 1, 1) := by decide +kernel
theorem dX5_back_15 : decode cX5_back 15 = .ok (.aload_n 0, 1) := by decide +kernel
theorem dX5_back_16 : decode cX5_back 16 = .ok (.getfield 10, 3) := by decide +kernel
theorem dX5_back_19 : decode cX5_back 19 = .ok (.invokevirtual 200, 3) := by decide +kernel
theorem dX5_back_22 : decode cX5_back 22 = .ok (.ifCond .ne 6, 3) := by decide +kernel
theorem dX5_back_25 : decode cX5_back 25 = .ok (.ldc 89, 2) := by decide +kernel
theorem dX5_back_27 : decode cX5_back 27 = .ok (.ireturn, 1) := by decide +kernel
theorem dX5_back_28 : decode cX5_back 28 = .ok (.aload_n 0, 1) := by decide +kernel
theorem dX5_back_29 : decode cX5_back 29 = .ok (.getfield 19, 3) := by decide +kernel
theorem dX5_back_32 : decode cX5_back 32 = .ok (.invokevirtual 204, 3) := by decide +kernel
theorem dX5_back_35 : decode cX5_back 35 = .ok (.aload_n 0, 1) := by decide +kernel
theorem dX5_back_36 : decode cX5_back 36 = .ok (.getfield 10, 3) := by decide +kernel
theorem dX5_back_39 : decode cX5_back 39 = .ok (.getfield 70, 3) := by decide +kernel
theorem dX5_back_42 : decode cX5_back 42 = .ok (.ireturn, 1) := by decide +kernel
set_option maxRecDepth 20000 in
theorem ggX5_count_X2_top : GoodIn wsX5_count wsX2_top := goodIn_r _ [9, 10, 67, 68, 69, 70] (by decide +kernel) (by decide +kernel)
set_option maxRecDepth 20000 in
theorem gX5_count_X2_top : GoodIn wsX5_count (wsV RX5 94 RX2 yX2_top wsX2_top) := goodIn_app (goodIn_of _ (by decide +kernel)) ggX5_count_X2_top
set_option maxRecDepth 20000 in
theorem ggX5_count_X2_reach : GoodIn wsX5_count wsX2_reach := goodIn_r _ [14, 15, 16, 6, 7, 8, 9, 10, 17, 18, 19, 67, 68, 69, 70] (by decide +kernel) (by decide +kernel)
set_option maxRecDepth 20000 in
theorem gX5_count_X2_reach : GoodIn wsX5_count (wsV RX5 60 RX2 yX2_reach wsX2_reach) := goodIn_app (goodIn_of _ (by decide +kernel)) ggX5_count_X2_reach
set_option maxRecDepth 20000 in
theorem ggX5_count_X2_registersRight : GoodIn wsX5_count wsX2_registersRight := goodIn_r _ [23, 24, 25, 26, 8, 27, 28, 29, 18, 30, 31, 32, 33, 34, 35, 36, 37, 38, 39, 40, 41, 42, 43, 44, 45, 46, 47, 15, 48, 49, 50, 51, 52, 53, 16, 6, 7, 9, 10, 54, 55, 56, 57, 58, 59, 60, 61, 17, 19, 67, 68, 69, 70] (by decide +kernel) (by decide +kernel)
set_option maxRecDepth 20000 in
theorem gX5_count_X2_registersRight : GoodIn wsX5_count (wsV RX5 207 RX2 yX2_registersRight wsX2_registersRight) := goodIn_app (goodIn_of _ (by decide +kernel)) ggX5_count_X2_registersRight
theorem dX5_count_0 : decode cX5_count 0 = .ok (.iload_n 1, 1) := by decide +kernel
theorem dX5_count_1 : decode cX5_count 1 = .ok (.tableswitch 99 0 6 #[43, 51, 59, 67, 75, 83, 91], 43) := by decide +kernel
theorem dX5_count_44 : decode cX5_count 44 = .ok (.aload_n 0, 1) := by decide +kernel
theorem dX5_count_45 : decode cX5_count 45 = .ok (.getfield 10, 3) := by decide +kernel
theorem dX5_count_48 : decode cX5_count 48 = .ok (.getfield 70, 3) := by decide +kernel
theorem dX5_count_51 : decode cX5_count 51 = .ok (.ireturn, 1) := by decide +kernel
theorem dX5_count_52 : decode cX5_count 52 = .ok (.aload_n 0, 1) := by decide +kernel
theorem dX5_count_53 : decode cX5_count 53 = .ok (.getfield 10, 3) := by decide +kernel
theorem dX5_count_56 : decode cX5_count 56 = .ok (.getfield 161, 3) := by decide +kernel
theorem dX5_count_59 : decode cX5_count 59 = .ok (.ireturn, 1) := by decide +kernel
theorem dX5_count_60 : decode cX5_count 60 = .ok (.aload_n 0, 1) := by decide +kernel
theorem dX5_count_61 : decode cX5_count 61 = .ok (.getfield 10, 3) := by decide +kernel
theorem dX5_count_64 : decode cX5_count 64 = .ok (.invokevirtual 94, 3) := by decide +kernel
theorem dX5_count_67 : decode cX5_count 67 = .ok (.ireturn, 1) := by decide +kernel
theorem dX5_count_68 : decode cX5_count 68 = .ok (.aload_n 0, 1) := by decide +kernel
theorem dX5_count_69 : decode cX5_count 69 = .ok (.getfield 10, 3) := by decide +kernel
theorem dX5_count_72 : decode cX5_count 72 = .ok (.invokevirtual 60, 3) := by decide +kernel
theorem dX5_count_75 : decode cX5_count 75 = .ok (.ireturn, 1) := by decide +kernel
theorem dX5_count_76 : decode cX5_count 76 = .ok (.aload_n 0, 1) := by decide +kernel
theorem dX5_count_77 : decode cX5_count 77 = .ok (.getfield 10, 3) := by decide +kernel
theorem dX5_count_80 : decode cX5_count 80 = .ok (.invokevirtual 207, 3) := by decide +kernel
theorem dX5_count_83 : decode cX5_count 83 = .ok (.ireturn, 1) := by decide +kernel
theorem dX5_count_84 : decode cX5_count 84 = .ok (.aload_n 0, 1) := by decide +kernel
theorem dX5_count_85 : decode cX5_count 85 = .ok (.getfield 33, 3) := by decide +kernel
theorem dX5_count_88 : decode cX5_count 88 = .ok (.getfield 180, 3) := by decide +kernel
theorem dX5_count_91 : decode cX5_count 91 = .ok (.ireturn, 1) := by decide +kernel
theorem dX5_count_92 : decode cX5_count 92 = .ok (.aload_n 0, 1) := by decide +kernel
theorem dX5_count_93 : decode cX5_count 93 = .ok (.getfield 19, 3) := by decide +kernel
theorem dX5_count_96 : decode cX5_count 96 = .ok (.getfield 125, 3) := by decide +kernel
theorem dX5_count_99 : decode cX5_count 99 = .ok (.ireturn, 1) := by decide +kernel
theorem dX5_count_100 : decode cX5_count 100 = .ok (.ldc 51, 2) := by decide +kernel
theorem dX5_count_102 : decode cX5_count 102 = .ok (.ireturn, 1) := by decide +kernel
theorem dX5_isConstant_0 : decode cX5_isConstant 0 = .ok (.iload_n 0, 1) := by decide +kernel
theorem dX5_isConstant_1 : decode cX5_isConstant 1 = .ok (.iconst 3, 1) := by decide +kernel
theorem dX5_isConstant_2 : decode cX5_isConstant 2 = .ok (.if_icmp .lt 21, 3) := by decide +kernel
theorem dX5_isConstant_5 : decode cX5_isConstant 5 = .ok (.iload_n 0, 1) := by decide +kernel
theorem dX5_isConstant_6 : decode cX5_isConstant 6 = .ok (.sipush 199, 3) := by decide +kernel
theorem dX5_isConstant_9 : decode cX5_isConstant 9 = .ok (.if_icmp .gt 14, 3) := by decide +kernel
theorem dX5_isConstant_12 : decode cX5_isConstant 12 = .ok (.iload_n 0, 1) := by decide +kernel
theorem dX5_isConstant_13 : decode cX5_isConstant 13 = .ok (.iconst 2, 1) := by decide +kernel
theorem dX5_isConstant_14 : decode cX5_isConstant 14 = .ok (.irem, 1) := by decide +kernel
theorem dX5_isConstant_15 : decode cX5_isConstant 15 = .ok (.iconst 1, 1) := by decide +kernel
theorem dX5_isConstant_16 : decode cX5_isConstant 16 = .ok (.if_icmp .ne 7, 3) := by decide +kernel
theorem dX5_isConstant_19 : decode cX5_isConstant 19 = .ok (.iconst 1, 1) := by decide +kernel
theorem dX5_isConstant_20 : decode cX5_isConstant 20 = .ok (.goto 4, 3) := by decide +kernel
theorem dX5_isConstant_23 : decode cX5_isConstant 23 = .ok (.iconst 0, 1) := by decide +kernel
theorem dX5_isConstant_24 : decode cX5_isConstant 24 = .ok (.ireturn, 1) := by decide +kernel
theorem dX5_isWidth_0 : decode cX5_isWidth 0 = .ok (.iload_n 0, 1) := by decide +kernel
theorem dX5_isWidth_1 : decode cX5_isWidth 1 = .ok (.iconst 4, 1) := by decide +kernel
theorem dX5_isWidth_2 : decode cX5_isWidth 2 = .ok (.if_icmp .lt 13, 3) := by decide +kernel
theorem dX5_isWidth_5 : decode cX5_isWidth 5 = .ok (.iload_n 0, 1) := by decide +kernel
theorem dX5_isWidth_6 : decode cX5_isWidth 6 = .ok (.bipush 16, 2) := by decide +kernel
theorem dX5_isWidth_8 : decode cX5_isWidth 8 = .ok (.if_icmp .gt 7, 3) := by decide +kernel
theorem dX5_isWidth_11 : decode cX5_isWidth 11 = .ok (.iconst 1, 1) := by decide +kernel
theorem dX5_isWidth_12 : decode cX5_isWidth 12 = .ok (.goto 4, 3) := by decide +kernel
theorem dX5_isWidth_15 : decode cX5_isWidth 15 = .ok (.iconst 0, 1) := by decide +kernel
theorem dX5_isWidth_16 : decode cX5_isWidth 16 = .ok (.ireturn, 1) := by decide +kernel
theorem dX5_isRegister_0 : decode cX5_isRegister 0 = .ok (.iload_n 0, 1) := by decide +kernel
theorem dX5_isRegister_1 : decode cX5_isRegister 1 = .ok (.ifCond .lt 12, 3) := by decide +kernel
theorem dX5_isRegister_4 : decode cX5_isRegister 4 = .ok (.iload_n 0, 1) := by decide +kernel
theorem dX5_isRegister_5 : decode cX5_isRegister 5 = .ok (.iconst 4, 1) := by decide +kernel
theorem dX5_isRegister_6 : decode cX5_isRegister 6 = .ok (.if_icmp .ge 7, 3) := by decide +kernel
theorem dX5_isRegister_9 : decode cX5_isRegister 9 = .ok (.iconst 1, 1) := by decide +kernel
theorem dX5_isRegister_10 : decode cX5_isRegister 10 = .ok (.goto 4, 3) := by decide +kernel
theorem dX5_isRegister_13 : decode cX5_isRegister 13 = .ok (.iconst 0, 1) := by decide +kernel
theorem dX5_isRegister_14 : decode cX5_isRegister 14 = .ok (.ireturn, 1) := by decide +kernel
theorem dX5_isImage_0 : decode cX5_isImage 0 = .ok (.iload_n 0, 1) := by decide +kernel
theorem dX5_isImage_1 : decode cX5_isImage 1 = .ok (.ifCond .lt 12, 3) := by decide +kernel
theorem dX5_isImage_4 : decode cX5_isImage 4 = .ok (.iload_n 0, 1) := by decide +kernel
theorem dX5_isImage_5 : decode cX5_isImage 5 = .ok (.iconst 2, 1) := by decide +kernel
theorem dX5_isImage_6 : decode cX5_isImage 6 = .ok (.if_icmp .ge 7, 3) := by decide +kernel
theorem dX5_isImage_9 : decode cX5_isImage 9 = .ok (.iconst 1, 1) := by decide +kernel
theorem dX5_isImage_10 : decode cX5_isImage 10 = .ok (.goto 4, 3) := by decide +kernel
theorem dX5_isImage_13 : decode cX5_isImage 13 = .ok (.iconst 0, 1) := by decide +kernel
theorem dX5_isImage_14 : decode cX5_isImage 14 = .ok (.ireturn, 1) := by decide +kernel
set_option maxRecDepth 20000 in
theorem ggX5_rest_J9_floorMod_7cf53 : GoodIn wsX5_rest wsJ9_floorMod_7cf53 := goodIn_r _ [4] (by decide +kernel) (by decide +kernel)
set_option maxRecDepth 20000 in
theorem gX5_rest_J9_floorMod_7cf53 : GoodIn wsX5_rest (va_wsS RX5 210 yJ9_floorMod_7cf53 wsJ9_floorMod_7cf53) := goodIn_app (goodIn_of _ (by decide +kernel)) ggX5_rest_J9_floorMod_7cf53
theorem dX5_rest_0 : decode cX5_rest 0 = .ok (.iload_n 1, 1) := by decide +kernel
theorem dX5_rest_1 : decode cX5_rest 1 = .ok (.iconst 1, 1) := by decide +kernel
theorem dX5_rest_2 : decode cX5_rest 2 = .ok (.if_icmp .ge 7, 3) := by decide +kernel
theorem dX5_rest_5 : decode cX5_rest 5 = .ok (.iconst 0, 1) := by decide +kernel
theorem dX5_rest_6 : decode cX5_rest 6 = .ok (.goto 8, 3) := by decide +kernel
theorem dX5_rest_9 : decode cX5_rest 9 = .ok (.iload_n 0, 1) := by decide +kernel
theorem dX5_rest_10 : decode cX5_rest 10 = .ok (.iload_n 1, 1) := by decide +kernel
theorem dX5_rest_11 : decode cX5_rest 11 = .ok (.invokestatic 210, 3) := by decide +kernel
theorem dX5_rest_14 : decode cX5_rest 14 = .ok (.ireturn, 1) := by decide +kernel
theorem dX5_cut_0 : decode cX5_cut 0 = .ok (.iload_n 2, 1) := by decide +kernel
theorem dX5_cut_1 : decode cX5_cut 1 = .ok (.iconst 1, 1) := by decide +kernel
theorem dX5_cut_2 : decode cX5_cut 2 = .ok (.if_icmp .ge 7, 3) := by decide +kernel
theorem dX5_cut_5 : decode cX5_cut 5 = .ok (.lconst 0, 1) := by decide +kernel
theorem dX5_cut_6 : decode cX5_cut 6 = .ok (.goto 7, 3) := by decide +kernel
theorem dX5_cut_9 : decode cX5_cut 9 = .ok (.lload_n 0, 1) := by decide +kernel
theorem dX5_cut_10 : decode cX5_cut 10 = .ok (.iload_n 2, 1) := by decide +kernel
theorem dX5_cut_11 : decode cX5_cut 11 = .ok (.i2l, 1) := by decide +kernel
theorem dX5_cut_12 : decode cX5_cut 12 = .ok (.ldiv, 1) := by decide +kernel
theorem dX5_cut_13 : decode cX5_cut 13 = .ok (.lreturn, 1) := by decide +kernel
set_option maxRecDepth 20000 in
theorem ggX5_commonDivisor_X5_rest : GoodIn wsX5_commonDivisor wsX5_rest := goodIn_r _ [4, 5, 6, 7, 8] (by decide +kernel) (by decide +kernel)
set_option maxRecDepth 20000 in
theorem gX5_commonDivisor_X5_rest : GoodIn wsX5_commonDivisor (va_wsS RX5 74 yX5_rest wsX5_rest) := goodIn_app (goodIn_of _ (by decide +kernel)) ggX5_commonDivisor_X5_rest
theorem dX5_commonDivisor_0 : decode cX5_commonDivisor 0 = .ok (.iload_n 0, 1) := by decide +kernel
theorem dX5_commonDivisor_1 : decode cX5_commonDivisor 1 = .ok (.istore_n 2, 1) := by decide +kernel
theorem dX5_commonDivisor_2 : decode cX5_commonDivisor 2 = .ok (.iload_n 1, 1) := by decide +kernel
theorem dX5_commonDivisor_3 : decode cX5_commonDivisor 3 = .ok (.istore_n 3, 1) := by decide +kernel
theorem dX5_commonDivisor_4 : decode cX5_commonDivisor 4 = .ok (.iconst 0, 1) := by decide +kernel
theorem dX5_commonDivisor_5 : decode cX5_commonDivisor 5 = .ok (.istore 4, 2) := by decide +kernel
theorem dX5_commonDivisor_7 : decode cX5_commonDivisor 7 = .ok (.iload 4, 2) := by decide +kernel
theorem dX5_commonDivisor_9 : decode cX5_commonDivisor 9 = .ok (.bipush 64, 2) := by decide +kernel
theorem dX5_commonDivisor_11 : decode cX5_commonDivisor 11 = .ok (.if_icmp .ge 25, 3) := by decide +kernel
theorem dX5_commonDivisor_14 : decode cX5_commonDivisor 14 = .ok (.iload_n 3, 1) := by decide +kernel
theorem dX5_commonDivisor_15 : decode cX5_commonDivisor 15 = .ok (.ifCond .eq 21, 3) := by decide +kernel
theorem dX5_commonDivisor_18 : decode cX5_commonDivisor 18 = .ok (.iload_n 2, 1) := by decide +kernel
theorem dX5_commonDivisor_19 : decode cX5_commonDivisor 19 = .ok (.iload_n 3, 1) := by decide +kernel
theorem dX5_commonDivisor_20 : decode cX5_commonDivisor 20 = .ok (.invokestatic 74, 3) := by decide +kernel
theorem dX5_commonDivisor_23 : decode cX5_commonDivisor 23 = .ok (.istore 5, 2) := by decide +kernel
theorem dX5_commonDivisor_25 : decode cX5_commonDivisor 25 = .ok (.iload_n 3, 1) := by decide +kernel
theorem dX5_commonDivisor_26 : decode cX5_commonDivisor 26 = .ok (.istore_n 2, 1) := by decide +kernel
theorem dX5_commonDivisor_27 : decode cX5_commonDivisor 27 = .ok (.iload 5, 2) := by decide +kernel
theorem dX5_commonDivisor_29 : decode cX5_commonDivisor 29 = .ok (.istore_n 3, 1) := by decide +kernel
theorem dX5_commonDivisor_30 : decode cX5_commonDivisor 30 = .ok (.iinc 4 1, 3) := by decide +kernel
theorem dX5_commonDivisor_33 : decode cX5_commonDivisor 33 = .ok (.goto (-26), 3) := by decide +kernel
theorem dX5_commonDivisor_36 : decode cX5_commonDivisor 36 = .ok (.iload_n 2, 1) := by decide +kernel
theorem dX5_commonDivisor_37 : decode cX5_commonDivisor 37 = .ok (.ireturn, 1) := by decide +kernel
set_option maxRecDepth 20000 in
theorem ggX5_digitsNotZero_J6_bitCount_0f7a4 : GoodIn wsX5_digitsNotZero wsJ6_bitCount_0f7a4 := goodIn_r _ [4, 5, 6, 7] (by decide +kernel) (by decide +kernel)
set_option maxRecDepth 20000 in
theorem gX5_digitsNotZero_J6_bitCount_0f7a4 : GoodIn wsX5_digitsNotZero (va_wsS RX5 213 yJ6_bitCount_0f7a4 wsJ6_bitCount_0f7a4) := goodIn_app (goodIn_of _ (by decide +kernel)) ggX5_digitsNotZero_J6_bitCount_0f7a4
theorem dX5_digitsNotZero_0 : decode cX5_digitsNotZero 0 = .ok (.iload_n 0, 1) := by decide +kernel
theorem dX5_digitsNotZero_1 : decode cX5_digitsNotZero 1 = .ok (.iconst 3, 1) := by decide +kernel
theorem dX5_digitsNotZero_2 : decode cX5_digitsNotZero 2 = .ok (.iload_n 0, 1) := by decide +kernel
theorem dX5_digitsNotZero_3 : decode cX5_digitsNotZero 3 = .ok (.imul, 1) := by decide +kernel
theorem dX5_digitsNotZero_4 : decode cX5_digitsNotZero 4 = .ok (.ixor, 1) := by decide +kernel
theorem dX5_digitsNotZero_5 : decode cX5_digitsNotZero 5 = .ok (.invokestatic 213, 3) := by decide +kernel
theorem dX5_digitsNotZero_8 : decode cX5_digitsNotZero 8 = .ok (.ireturn, 1) := by decide +kernel
set_option maxRecDepth 20000 in
theorem ggX5_lightestMultiple_X5_digitsNotZero : GoodIn wsX5_lightestMultiple wsX5_digitsNotZero := goodIn_r _ [5, 6, 7, 8, 9, 10, 11, 12] (by decide +kernel) (by decide +kernel)
set_option maxRecDepth 20000 in
theorem gX5_lightestMultiple_X5_digitsNotZero : GoodIn wsX5_lightestMultiple (va_wsS RX5 149 yX5_digitsNotZero wsX5_digitsNotZero) := goodIn_app (goodIn_of _ (by decide +kernel)) ggX5_lightestMultiple_X5_digitsNotZero
theorem dX5_lightestMultiple_0 : decode cX5_lightestMultiple 0 = .ok (.iconst 1, 1) := by decide +kernel
theorem dX5_lightestMultiple_1 : decode cX5_lightestMultiple 1 = .ok (.iload_n 1, 1) := by decide +kernel
theorem dX5_lightestMultiple_2 : decode cX5_lightestMultiple 2 = .ok (.ishl, 1) := by decide +kernel
theorem dX5_lightestMultiple_3 : decode cX5_lightestMultiple 3 = .ok (.istore_n 3, 1) := by decide +kernel
theorem dX5_lightestMultiple_4 : decode cX5_lightestMultiple 4 = .ok (.ldc 134, 2) := by decide +kernel
theorem dX5_lightestMultiple_6 : decode cX5_lightestMultiple 6 = .ok (.istore 4, 2) := by decide +kernel
theorem dX5_lightestMultiple_8 : decode cX5_lightestMultiple 8 = .ok (.iload_n 0, 1) := by decide +kernel
theorem dX5_lightestMultiple_9 : decode cX5_lightestMultiple 9 = .ok (.istore 5, 2) := by decide +kernel
theorem dX5_lightestMultiple_11 : decode cX5_lightestMultiple 11 = .ok (.iload 5, 2) := by decide +kernel
theorem dX5_lightestMultiple_13 : decode cX5_lightestMultiple 13 = .ok (.ifCond .le 54, 3) := by decide +kernel
theorem dX5_lightestMultiple_16 : decode cX5_lightestMultiple 16 = .ok (.iload 5, 2) := by decide +kernel
theorem dX5_lightestMultiple_18 : decode cX5_lightestMultiple 18 = .ok (.iload_n 3, 1) := by decide +kernel
theorem dX5_lightestMultiple_19 : decode cX5_lightestMultiple 19 = .ok (.if_icmp .ge 48, 3) := by decide +kernel
theorem dX5_lightestMultiple_22 : decode cX5_lightestMultiple 22 = .ok (.iload 5, 2) := by decide +kernel
theorem dX5_lightestMultiple_24 : decode cX5_lightestMultiple 24 = .ok (.invokestatic 149, 3) := by decide +kernel
theorem dX5_lightestMultiple_27 : decode cX5_lightestMultiple 27 = .ok (.istore 6, 2) := by decide +kernel
theorem dX5_lightestMultiple_29 : decode cX5_lightestMultiple 29 = .ok (.iload 4, 2) := by decide +kernel
theorem dX5_lightestMultiple_31 : decode cX5_lightestMultiple 31 = .ok (.ldc 134, 2) := by decide +kernel
theorem dX5_lightestMultiple_33 : decode cX5_lightestMultiple 33 = .ok (.if_icmp .eq 10, 3) := by decide +kernel
theorem dX5_lightestMultiple_36 : decode cX5_lightestMultiple 36 = .ok (.iload 6, 2) := by decide +kernel
theorem dX5_lightestMultiple_38 : decode cX5_lightestMultiple 38 = .ok (.iload 4, 2) := by decide +kernel
theorem dX5_lightestMultiple_40 : decode cX5_lightestMultiple 40 = .ok (.if_icmp .ge 7, 3) := by decide +kernel
theorem dX5_lightestMultiple_43 : decode cX5_lightestMultiple 43 = .ok (.iload 6, 2) := by decide +kernel
theorem dX5_lightestMultiple_45 : decode cX5_lightestMultiple 45 = .ok (.istore 4, 2) := by decide +kernel
theorem dX5_lightestMultiple_47 : decode cX5_lightestMultiple 47 = .ok (.iload 4, 2) := by decide +kernel
theorem dX5_lightestMultiple_49 : decode cX5_lightestMultiple 49 = .ok (.iload_n 2, 1) := by decide +kernel
theorem dX5_lightestMultiple_50 : decode cX5_lightestMultiple 50 = .ok (.if_icmp .gt 6, 3) := by decide +kernel
theorem dX5_lightestMultiple_53 : decode cX5_lightestMultiple 53 = .ok (.iload 4, 2) := by decide +kernel
theorem dX5_lightestMultiple_55 : decode cX5_lightestMultiple 55 = .ok (.ireturn, 1) := by decide +kernel
theorem dX5_lightestMultiple_56 : decode cX5_lightestMultiple 56 = .ok (.iload 5, 2) := by decide +kernel
theorem dX5_lightestMultiple_58 : decode cX5_lightestMultiple 58 = .ok (.iconst 2, 1) := by decide +kernel
theorem dX5_lightestMultiple_59 : decode cX5_lightestMultiple 59 = .ok (.iload_n 0, 1) := by decide +kernel
theorem dX5_lightestMultiple_60 : decode cX5_lightestMultiple 60 = .ok (.imul, 1) := by decide +kernel
theorem dX5_lightestMultiple_61 : decode cX5_lightestMultiple 61 = .ok (.iadd, 1) := by decide +kernel
theorem dX5_lightestMultiple_62 : decode cX5_lightestMultiple 62 = .ok (.istore 5, 2) := by decide +kernel
theorem dX5_lightestMultiple_64 : decode cX5_lightestMultiple 64 = .ok (.goto (-53), 3) := by decide +kernel
theorem dX5_lightestMultiple_67 : decode cX5_lightestMultiple 67 = .ok (.iload 4, 2) := by decide +kernel
theorem dX5_lightestMultiple_69 : decode cX5_lightestMultiple 69 = .ok (.ireturn, 1) := by decide +kernel
theorem dX5_change_0 : decode cX5_change 0 = .ok (.iconst 1, 1) := by decide +kernel
theorem dX5_change_1 : decode cX5_change 1 = .ok (.iload_n 0, 1) := by decide +kernel
theorem dX5_change_2 : decode cX5_change 2 = .ok (.iconst 2, 1) := by decide +kernel
theorem dX5_change_3 : decode cX5_change 3 = .ok (.idiv, 1) := by decide +kernel
theorem dX5_change_4 : decode cX5_change 4 = .ok (.ishl, 1) := by decide +kernel
theorem dX5_change_5 : decode cX5_change 5 = .ok (.istore_n 1, 1) := by decide +kernel
theorem dX5_change_6 : decode cX5_change 6 = .ok (.iload_n 0, 1) := by decide +kernel
theorem dX5_change_7 : decode cX5_change 7 = .ok (.iconst 2, 1) := by decide +kernel
theorem dX5_change_8 : decode cX5_change 8 = .ok (.irem, 1) := by decide +kernel
theorem dX5_change_9 : decode cX5_change 9 = .ok (.ifCond .ne 7, 3) := by decide +kernel
theorem dX5_change_12 : decode cX5_change 12 = .ok (.iload_n 1, 1) := by decide +kernel
theorem dX5_change_13 : decode cX5_change 13 = .ok (.goto 5, 3) := by decide +kernel
theorem dX5_change_16 : decode cX5_change 16 = .ok (.iload_n 1, 1) := by decide +kernel
theorem dX5_change_17 : decode cX5_change 17 = .ok (.ineg, 1) := by decide +kernel
theorem dX5_change_18 : decode cX5_change 18 = .ok (.ireturn, 1) := by decide +kernel
set_option maxRecDepth 20000 in
theorem ggX5_strikesLeaving_X5_change : GoodIn wsX5_strikesLeaving wsX5_change := goodIn_r _ [4] (by decide +kernel) (by decide +kernel)
set_option maxRecDepth 20000 in
theorem gX5_strikesLeaving_X5_change : GoodIn wsX5_strikesLeaving (va_wsS RX5 108 yX5_change wsX5_change) := goodIn_app (goodIn_of _ (by decide +kernel)) ggX5_strikesLeaving_X5_change
set_option maxRecDepth 20000 in
theorem ggX5_strikesLeaving_X5_rest : GoodIn wsX5_strikesLeaving wsX5_rest := goodIn_r _ [7, 8, 9, 10, 11] (by decide +kernel) (by decide +kernel)
set_option maxRecDepth 20000 in
theorem gX5_strikesLeaving_X5_rest : GoodIn wsX5_strikesLeaving (va_wsS RX5 74 yX5_rest wsX5_rest) := goodIn_app (goodIn_of _ (by decide +kernel)) ggX5_strikesLeaving_X5_rest
theorem dX5_strikesLeaving_0 : decode cX5_strikesLeaving 0 = .ok (.iconst 0, 1) := by decide +kernel
theorem dX5_strikesLeaving_1 : decode cX5_strikesLeaving 1 = .ok (.istore_n 3, 1) := by decide +kernel
theorem dX5_strikesLeaving_2 : decode cX5_strikesLeaving 2 = .ok (.iconst 0, 1) := by decide +kernel
theorem dX5_strikesLeaving_3 : decode cX5_strikesLeaving 3 = .ok (.istore 4, 2) := by decide +kernel
theorem dX5_strikesLeaving_5 : decode cX5_strikesLeaving 5 = .ok (.iload 4, 2) := by decide +kernel
theorem dX5_strikesLeaving_7 : decode cX5_strikesLeaving 7 = .ok (.iconst 2, 1) := by decide +kernel
theorem dX5_strikesLeaving_8 : decode cX5_strikesLeaving 8 = .ok (.iload_n 2, 1) := by decide +kernel
theorem dX5_strikesLeaving_9 : decode cX5_strikesLeaving 9 = .ok (.imul, 1) := by decide +kernel
theorem dX5_strikesLeaving_10 : decode cX5_strikesLeaving 10 = .ok (.if_icmp .ge 25, 3) := by decide +kernel
theorem dX5_strikesLeaving_13 : decode cX5_strikesLeaving 13 = .ok (.iload 4, 2) := by decide +kernel
theorem dX5_strikesLeaving_15 : decode cX5_strikesLeaving 15 = .ok (.invokestatic 108, 3) := by decide +kernel
theorem dX5_strikesLeaving_18 : decode cX5_strikesLeaving 18 = .ok (.iload_n 1, 1) := by decide +kernel
theorem dX5_strikesLeaving_19 : decode cX5_strikesLeaving 19 = .ok (.invokestatic 74, 3) := by decide +kernel
theorem dX5_strikesLeaving_22 : decode cX5_strikesLeaving 22 = .ok (.iload_n 0, 1) := by decide +kernel
theorem dX5_strikesLeaving_23 : decode cX5_strikesLeaving 23 = .ok (.if_icmp .ne 6, 3) := by decide +kernel
theorem dX5_strikesLeaving_26 : decode cX5_strikesLeaving 26 = .ok (.iinc 3 1, 3) := by decide +kernel
theorem dX5_strikesLeaving_29 : decode cX5_strikesLeaving 29 = .ok (.iinc 4 1, 3) := by decide +kernel
theorem dX5_strikesLeaving_32 : decode cX5_strikesLeaving 32 = .ok (.goto (-27), 3) := by decide +kernel
theorem dX5_strikesLeaving_35 : decode cX5_strikesLeaving 35 = .ok (.iload_n 3, 1) := by decide +kernel
theorem dX5_strikesLeaving_36 : decode cX5_strikesLeaving 36 = .ok (.ireturn, 1) := by decide +kernel
set_option maxRecDepth 20000 in
theorem ggX5_firstLeaving_X5_change : GoodIn wsX5_firstLeaving wsX5_change := goodIn_r _ [5] (by decide +kernel) (by decide +kernel)
set_option maxRecDepth 20000 in
theorem gX5_firstLeaving_X5_change : GoodIn wsX5_firstLeaving (va_wsS RX5 108 yX5_change wsX5_change) := goodIn_app (goodIn_of _ (by decide +kernel)) ggX5_firstLeaving_X5_change
set_option maxRecDepth 20000 in
theorem ggX5_firstLeaving_X5_rest : GoodIn wsX5_firstLeaving wsX5_rest := goodIn_r _ [8, 9, 10, 11, 12] (by decide +kernel) (by decide +kernel)
set_option maxRecDepth 20000 in
theorem gX5_firstLeaving_X5_rest : GoodIn wsX5_firstLeaving (va_wsS RX5 74 yX5_rest wsX5_rest) := goodIn_app (goodIn_of _ (by decide +kernel)) ggX5_firstLeaving_X5_rest
theorem dX5_firstLeaving_0 : decode cX5_firstLeaving 0 = .ok (.iconst 0, 1) := by decide +kernel
theorem dX5_firstLeaving_1 : decode cX5_firstLeaving 1 = .ok (.istore_n 3, 1) := by decide +kernel
theorem dX5_firstLeaving_2 : decode cX5_firstLeaving 2 = .ok (.iload_n 3, 1) := by decide +kernel
theorem dX5_firstLeaving_3 : decode cX5_firstLeaving 3 = .ok (.iconst 2, 1) := by decide +kernel
theorem dX5_firstLeaving_4 : decode cX5_firstLeaving 4 = .ok (.iload_n 2, 1) := by decide +kernel
theorem dX5_firstLeaving_5 : decode cX5_firstLeaving 5 = .ok (.imul, 1) := by decide +kernel
theorem dX5_firstLeaving_6 : decode cX5_firstLeaving 6 = .ok (.if_icmp .ge 23, 3) := by decide +kernel
theorem dX5_firstLeaving_9 : decode cX5_firstLeaving 9 = .ok (.iload_n 3, 1) := by decide +kernel
theorem dX5_firstLeaving_10 : decode cX5_firstLeaving 10 = .ok (.invokestatic 108, 3) := by decide +kernel
theorem dX5_firstLeaving_13 : decode cX5_firstLeaving 13 = .ok (.iload_n 1, 1) := by decide +kernel
theorem dX5_firstLeaving_14 : decode cX5_firstLeaving 14 = .ok (.invokestatic 74, 3) := by decide +kernel
theorem dX5_firstLeaving_17 : decode cX5_firstLeaving 17 = .ok (.iload_n 0, 1) := by decide +kernel
theorem dX5_firstLeaving_18 : decode cX5_firstLeaving 18 = .ok (.if_icmp .ne 5, 3) := by decide +kernel
theorem dX5_firstLeaving_21 : decode cX5_firstLeaving 21 = .ok (.iload_n 3, 1) := by decide +kernel
theorem dX5_firstLeaving_22 : decode cX5_firstLeaving 22 = .ok (.ireturn, 1) := by decide +kernel
theorem dX5_firstLeaving_23 : decode cX5_firstLeaving 23 = .ok (.iinc 3 1, 3) := by decide +kernel
theorem dX5_firstLeaving_26 : decode cX5_firstLeaving 26 = .ok (.goto (-24), 3) := by decide +kernel
theorem dX5_firstLeaving_29 : decode cX5_firstLeaving 29 = .ok (.ldc 134, 2) := by decide +kernel
theorem dX5_firstLeaving_31 : decode cX5_firstLeaving 31 = .ok (.ireturn, 1) := by decide +kernel
set_option maxRecDepth 20000 in
theorem ggX5_wordDone_X5_cut : GoodIn wsX5_wordDone wsX5_cut := goodIn_r _ [6] (by decide +kernel) (by decide +kernel)
set_option maxRecDepth 20000 in
theorem gX5_wordDone_X5_cut : GoodIn wsX5_wordDone (va_wsS RX5 173 yX5_cut wsX5_cut) := goodIn_app (goodIn_of _ (by decide +kernel)) ggX5_wordDone_X5_cut
theorem dX5_wordDone_0 : decode cX5_wordDone 0 = .ok (.iload_n 1, 1) := by decide +kernel
theorem dX5_wordDone_1 : decode cX5_wordDone 1 = .ok (.tableswitch 67 0 4 #[35, 40, 45, 60, 64], 35) := by decide +kernel
theorem dX5_wordDone_36 : decode cX5_wordDone 36 = .ok (.lload_n 2, 1) := by decide +kernel
theorem dX5_wordDone_37 : decode cX5_wordDone 37 = .ok (.lload 4, 2) := by decide +kernel
theorem dX5_wordDone_39 : decode cX5_wordDone 39 = .ok (.ladd, 1) := by decide +kernel
theorem dX5_wordDone_40 : decode cX5_wordDone 40 = .ok (.lreturn, 1) := by decide +kernel
theorem dX5_wordDone_41 : decode cX5_wordDone 41 = .ok (.lload_n 2, 1) := by decide +kernel
theorem dX5_wordDone_42 : decode cX5_wordDone 42 = .ok (.lload 4, 2) := by decide +kernel
theorem dX5_wordDone_44 : decode cX5_wordDone 44 = .ok (.lsub, 1) := by decide +kernel
theorem dX5_wordDone_45 : decode cX5_wordDone 45 = .ok (.lreturn, 1) := by decide +kernel
theorem dX5_wordDone_46 : decode cX5_wordDone 46 = .ok (.lload_n 2, 1) := by decide +kernel
theorem dX5_wordDone_47 : decode cX5_wordDone 47 = .ok (.lload 4, 2) := by decide +kernel
theorem dX5_wordDone_49 : decode cX5_wordDone 49 = .ok (.lmul, 1) := by decide +kernel
theorem dX5_wordDone_50 : decode cX5_wordDone 50 = .ok (.aload_n 0, 1) := by decide +kernel
theorem dX5_wordDone_51 : decode cX5_wordDone 51 = .ok (.getfield 10, 3) := by decide +kernel
theorem dX5_wordDone_54 : decode cX5_wordDone 54 = .ok (.getfield 70, 3) := by decide +kernel
theorem dX5_wordDone_57 : decode cX5_wordDone 57 = .ok (.invokestatic 173, 3) := by decide +kernel
theorem dX5_wordDone_60 : decode cX5_wordDone 60 = .ok (.lreturn, 1) := by decide +kernel
theorem dX5_wordDone_61 : decode cX5_wordDone 61 = .ok (.lload_n 2, 1) := by decide +kernel
theorem dX5_wordDone_62 : decode cX5_wordDone 62 = .ok (.lload_n 2, 1) := by decide +kernel
theorem dX5_wordDone_63 : decode cX5_wordDone 63 = .ok (.ladd, 1) := by decide +kernel
theorem dX5_wordDone_64 : decode cX5_wordDone 64 = .ok (.lreturn, 1) := by decide +kernel
theorem dX5_wordDone_65 : decode cX5_wordDone 65 = .ok (.lload_n 2, 1) := by decide +kernel
theorem dX5_wordDone_66 : decode cX5_wordDone 66 = .ok (.lneg, 1) := by decide +kernel
theorem dX5_wordDone_67 : decode cX5_wordDone 67 = .ok (.lreturn, 1) := by decide +kernel
theorem dX5_wordDone_68 : decode cX5_wordDone 68 = .ok (.lload_n 2, 1) := by decide +kernel
theorem dX5_wordDone_69 : decode cX5_wordDone 69 = .ok (.ldc2_w 218, 3) := by decide +kernel
theorem dX5_wordDone_72 : decode cX5_wordDone 72 = .ok (.ldiv, 1) := by decide +kernel
theorem dX5_wordDone_73 : decode cX5_wordDone 73 = .ok (.lreturn, 1) := by decide +kernel
theorem dX5_residueDone_0 : decode cX5_residueDone 0 = .ok (.iload_n 0, 1) := by decide +kernel
theorem dX5_residueDone_1 : decode cX5_residueDone 1 = .ok (.tableswitch 54 0 4 #[35, 39, 43, 47, 51], 35) := by decide +kernel
theorem dX5_residueDone_36 : decode cX5_residueDone 36 = .ok (.iload_n 1, 1) := by decide +kernel
theorem dX5_residueDone_37 : decode cX5_residueDone 37 = .ok (.iload_n 2, 1) := by decide +kernel
theorem dX5_residueDone_38 : decode cX5_residueDone 38 = .ok (.iadd, 1) := by decide +kernel
theorem dX5_residueDone_39 : decode cX5_residueDone 39 = .ok (.ireturn, 1) := by decide +kernel
theorem dX5_residueDone_40 : decode cX5_residueDone 40 = .ok (.iload_n 1, 1) := by decide +kernel
theorem dX5_residueDone_41 : decode cX5_residueDone 41 = .ok (.iload_n 2, 1) := by decide +kernel
theorem dX5_residueDone_42 : decode cX5_residueDone 42 = .ok (.isub, 1) := by decide +kernel
theorem dX5_residueDone_43 : decode cX5_residueDone 43 = .ok (.ireturn, 1) := by decide +kernel
theorem dX5_residueDone_44 : decode cX5_residueDone 44 = .ok (.iload_n 1, 1) := by decide +kernel
theorem dX5_residueDone_45 : decode cX5_residueDone 45 = .ok (.iload_n 2, 1) := by decide +kernel
theorem dX5_residueDone_46 : decode cX5_residueDone 46 = .ok (.imul, 1) := by decide +kernel
theorem dX5_residueDone_47 : decode cX5_residueDone 47 = .ok (.ireturn, 1) := by decide +kernel
theorem dX5_residueDone_48 : decode cX5_residueDone 48 = .ok (.iload_n 1, 1) := by decide +kernel
theorem dX5_residueDone_49 : decode cX5_residueDone 49 = .ok (.iload_n 1, 1) := by decide +kernel
theorem dX5_residueDone_50 : decode cX5_residueDone 50 = .ok (.iadd, 1) := by decide +kernel
theorem dX5_residueDone_51 : decode cX5_residueDone 51 = .ok (.ireturn, 1) := by decide +kernel
theorem dX5_residueDone_52 : decode cX5_residueDone 52 = .ok (.iload_n 1, 1) := by decide +kernel
theorem dX5_residueDone_53 : decode cX5_residueDone 53 = .ok (.ineg, 1) := by decide +kernel
theorem dX5_residueDone_54 : decode cX5_residueDone 54 = .ok (.ireturn, 1) := by decide +kernel
theorem dX5_residueDone_55 : decode cX5_residueDone 55 = .ok (.bipush 8, 2) := by decide +kernel
theorem dX5_residueDone_57 : decode cX5_residueDone 57 = .ok (.iload_n 1, 1) := by decide +kernel
theorem dX5_residueDone_58 : decode cX5_residueDone 58 = .ok (.imul, 1) := by decide +kernel
theorem dX5_residueDone_59 : decode cX5_residueDone 59 = .ok (.ireturn, 1) := by decide +kernel
theorem dX6_init_0 : decode cX6_init 0 = .ok (.aload_n 0, 1) := by decide +kernel
theorem dX6_init_1 : decode cX6_init 1 = .ok (.invokespecial 1, 3) := by decide +kernel
theorem dX6_init_4 : decode cX6_init 4 = .ok (.aload_n 0, 1) := by decide +kernel
theorem dX6_init_5 : decode cX6_init 5 = .ok (.bipush 10, 2) := by decide +kernel
theorem dX6_init_7 : decode cX6_init 7 = .ok (.newarray .int, 2) := by decide +kernel
theorem dX6_init_9 : decode cX6_init 9 = .ok (.putfield 7, 3) := by decide +kernel
theorem dX6_init_12 : decode cX6_init 12 = .ok (.aload_n 0, 1) := by decide +kernel
theorem dX6_init_13 : decode cX6_init 13 = .ok (.bipush 120, 2) := by decide +kernel
theorem dX6_init_15 : decode cX6_init 15 = .ok (.newarray .int, 2) := by decide +kernel
theorem dX6_init_17 : decode cX6_init 17 = .ok (.putfield 13, 3) := by decide +kernel
theorem dX6_init_20 : decode cX6_init 20 = .ok (.aload_n 0, 1) := by decide +kernel
theorem dX6_init_21 : decode cX6_init 21 = .ok (.bipush 20, 2) := by decide +kernel
theorem dX6_init_23 : decode cX6_init 23 = .ok (.newarray .int, 2) := by decide +kernel
theorem dX6_init_25 : decode cX6_init 25 = .ok (.putfield 16, 3) := by decide +kernel
theorem dX6_init_28 : decode cX6_init 28 = .ok (.aload_n 0, 1) := by decide +kernel
theorem dX6_init_29 : decode cX6_init 29 = .ok (.iconst 2, 1) := by decide +kernel
theorem dX6_init_30 : decode cX6_init 30 = .ok (.newarray .boolean, 2) := by decide +kernel
theorem dX6_init_32 : decode cX6_init 32 = .ok (.putfield 19, 3) := by decide +kernel
theorem dX6_init_35 : decode cX6_init 35 = .ok (.aload_n 0, 1) := by decide +kernel
theorem dX6_init_36 : decode cX6_init 36 = .ok (.bipush 6, 2) := by decide +kernel
theorem dX6_init_38 : decode cX6_init 38 = .ok (.newarray .int, 2) := by decide +kernel
theorem dX6_init_40 : decode cX6_init 40 = .ok (.putfield 23, 3) := by decide +kernel
theorem dX6_init_43 : decode cX6_init 43 = .ok (.aload_n 0, 1) := by decide +kernel
theorem dX6_init_44 : decode cX6_init 44 = .ok (.bipush 6, 2) := by decide +kernel
theorem dX6_init_46 : decode cX6_init 46 = .ok (.newarray .int, 2) := by decide +kernel
theorem dX6_init_48 : decode cX6_init 48 = .ok (.putfield 26, 3) := by decide +kernel
theorem dX6_init_51 : decode cX6_init 51 = .ok (.aload_n 0, 1) := by decide +kernel
theorem dX6_init_52 : decode cX6_init 52 = .ok (.sipush 200, 3) := by decide +kernel
theorem dX6_init_55 : decode cX6_init 55 = .ok (.newarray .long, 2) := by decide +kernel
theorem dX6_init_57 : decode cX6_init 57 = .ok (.putfield 29, 3) := by decide +kernel
theorem dX6_init_60 : decode cX6_init 60 = .ok (.aload_n 0, 1) := by decide +kernel
theorem dX6_init_61 : decode cX6_init 61 = .ok (.sipush 200, 3) := by decide +kernel
theorem dX6_init_64 : decode cX6_init 64 = .ok (.newarray .long, 2) := by decide +kernel
theorem dX6_init_66 : decode cX6_init 66 = .ok (.putfield 33, 3) := by decide +kernel
theorem dX6_init_69 : decode cX6_init 69 = .ok (.aload_n 0, 1) := by decide +kernel
theorem dX6_init_70 : decode cX6_init 70 = .ok (.sipush 200, 3) := by decide +kernel
theorem dX6_init_73 : decode cX6_init 73 = .ok (.newarray .boolean, 2) := by decide +kernel
theorem dX6_init_75 : decode cX6_init 75 = .ok (.putfield 36, 3) := by decide +kernel
theorem dX6_init_78 : decode cX6_init 78 = .ok (.aload_n 0, 1) := by decide +kernel
theorem dX6_init_79 : decode cX6_init 79 = .ok (.getfield 7, 3) := by decide +kernel
theorem dX6_init_82 : decode cX6_init 82 = .ok (.iconst 0, 1) := by decide +kernel
theorem dX6_init_83 : decode cX6_init 83 = .ok (.bipush 13, 2) := by decide +kernel
theorem dX6_init_85 : decode cX6_init 85 = .ok (.iastore, 1) := by decide +kernel
theorem dX6_init_86 : decode cX6_init 86 = .ok (.aload_n 0, 1) := by decide +kernel
theorem dX6_init_87 : decode cX6_init 87 = .ok (.getfield 7, 3) := by decide +kernel
theorem dX6_init_90 : decode cX6_init 90 = .ok (.iconst 1, 1) := by decide +kernel
theorem dX6_init_91 : decode cX6_init 91 = .ok (.bipush 9, 2) := by decide +kernel
theorem dX6_init_93 : decode cX6_init 93 = .ok (.iastore, 1) := by decide +kernel
theorem dX6_init_94 : decode cX6_init 94 = .ok (.return_, 1) := by decide +kernel
theorem dX6_in_0 : decode cX6_in 0 = .ok (.iload_n 0, 1) := by decide +kernel
theorem dX6_in_1 : decode cX6_in 1 = .ok (.iload_n 1, 1) := by decide +kernel
theorem dX6_in_2 : decode cX6_in 2 = .ok (.if_icmp .lt 12, 3) := by decide +kernel
theorem dX6_in_5 : decode cX6_in 5 = .ok (.iload_n 0, 1) := by decide +kernel
theorem dX6_in_6 : decode cX6_in 6 = .ok (.iload_n 2, 1) := by decide +kernel
theorem dX6_in_7 : decode cX6_in 7 = .ok (.if_icmp .gt 7, 3) := by decide +kernel
theorem dX6_in_10 : decode cX6_in 10 = .ok (.iconst 1, 1) := by decide +kernel
theorem dX6_in_11 : decode cX6_in 11 = .ok (.goto 4, 3) := by decide +kernel
theorem dX6_in_14 : decode cX6_in 14 = .ok (.iconst 0, 1) := by decide +kernel
theorem dX6_in_15 : decode cX6_in 15 = .ok (.ireturn, 1) := by decide +kernel
theorem dX6_rest_0 : decode cX6_rest 0 = .ok (.lload_n 0, 1) := by decide +kernel
theorem dX6_rest_1 : decode cX6_rest 1 = .ok (.iload_n 2, 1) := by decide +kernel
theorem dX6_rest_2 : decode cX6_rest 2 = .ok (.i2l, 1) := by decide +kernel
theorem dX6_rest_3 : decode cX6_rest 3 = .ok (.lrem, 1) := by decide +kernel
theorem dX6_rest_4 : decode cX6_rest 4 = .ok (.l2i, 1) := by decide +kernel
theorem dX6_rest_5 : decode cX6_rest 5 = .ok (.istore_n 3, 1) := by decide +kernel
theorem dX6_rest_6 : decode cX6_rest 6 = .ok (.iload_n 3, 1) := by decide +kernel
theorem dX6_rest_7 : decode cX6_rest 7 = .ok (.ifCond .ge 9, 3) := by decide +kernel
theorem dX6_rest_10 : decode cX6_rest 10 = .ok (.iload_n 3, 1) := by decide +kernel
theorem dX6_rest_11 : decode cX6_rest 11 = .ok (.iload_n 2, 1) := by decide +kernel
theorem dX6_rest_12 : decode cX6_rest 12 = .ok (.iadd, 1) := by decide +kernel
theorem dX6_rest_13 : decode cX6_rest 13 = .ok (.goto 4, 3) := by decide +kernel
theorem dX6_rest_16 : decode cX6_rest 16 = .ok (.iload_n 3, 1) := by decide +kernel
theorem dX6_rest_17 : decode cX6_rest 17 = .ok (.ireturn, 1) := by decide +kernel
set_option maxRecDepth 20000 in
theorem ggX6_isConstant_X6_in : GoodIn wsX6_isConstant wsX6_in := goodIn_r _ [4] (by decide +kernel) (by decide +kernel)
set_option maxRecDepth 20000 in
theorem gX6_isConstant_X6_in : GoodIn wsX6_isConstant (va_wsS RX6 43 yX6_in wsX6_in) := goodIn_app (goodIn_of _ (by decide +kernel)) ggX6_isConstant_X6_in
theorem dX6_isConstant_0 : decode cX6_isConstant 0 = .ok (.iload_n 0, 1) := by decide +kernel
theorem dX6_isConstant_1 : decode cX6_isConstant 1 = .ok (.iconst 3, 1) := by decide +kernel
theorem dX6_isConstant_2 : decode cX6_isConstant 2 = .ok (.sipush 199, 3) := by decide +kernel
theorem dX6_isConstant_5 : decode cX6_isConstant 5 = .ok (.invokestatic 43, 3) := by decide +kernel
theorem dX6_isConstant_8 : decode cX6_isConstant 8 = .ok (.ifCond .eq 14, 3) := by decide +kernel
theorem dX6_isConstant_11 : decode cX6_isConstant 11 = .ok (.iload_n 0, 1) := by decide +kernel
theorem dX6_isConstant_12 : decode cX6_isConstant 12 = .ok (.iconst 2, 1) := by decide +kernel
theorem dX6_isConstant_13 : decode cX6_isConstant 13 = .ok (.irem, 1) := by decide +kernel
theorem dX6_isConstant_14 : decode cX6_isConstant 14 = .ok (.iconst 1, 1) := by decide +kernel
theorem dX6_isConstant_15 : decode cX6_isConstant 15 = .ok (.if_icmp .ne 7, 3) := by decide +kernel
theorem dX6_isConstant_18 : decode cX6_isConstant 18 = .ok (.iconst 1, 1) := by decide +kernel
theorem dX6_isConstant_19 : decode cX6_isConstant 19 = .ok (.goto 4, 3) := by decide +kernel
theorem dX6_isConstant_22 : decode cX6_isConstant 22 = .ok (.iconst 0, 1) := by decide +kernel
theorem dX6_isConstant_23 : decode cX6_isConstant 23 = .ok (.ireturn, 1) := by decide +kernel
set_option maxRecDepth 20000 in
theorem ggX6_isRegister_X6_in : GoodIn wsX6_isRegister wsX6_in := goodIn_r _ [4] (by decide +kernel) (by decide +kernel)
set_option maxRecDepth 20000 in
theorem gX6_isRegister_X6_in : GoodIn wsX6_isRegister (va_wsS RX6 43 yX6_in wsX6_in) := goodIn_app (goodIn_of _ (by decide +kernel)) ggX6_isRegister_X6_in
theorem dX6_isRegister_0 : decode cX6_isRegister 0 = .ok (.iload_n 0, 1) := by decide +kernel
theorem dX6_isRegister_1 : decode cX6_isRegister 1 = .ok (.iconst 0, 1) := by decide +kernel
theorem dX6_isRegister_2 : decode cX6_isRegister 2 = .ok (.iconst 3, 1) := by decide +kernel
theorem dX6_isRegister_3 : decode cX6_isRegister 3 = .ok (.invokestatic 43, 3) := by decide +kernel
theorem dX6_isRegister_6 : decode cX6_isRegister 6 = .ok (.ireturn, 1) := by decide +kernel
theorem dX6_top_0 : decode cX6_top 0 = .ok (.iconst 1, 1) := by decide +kernel
theorem dX6_top_1 : decode cX6_top 1 = .ok (.aload_n 0, 1) := by decide +kernel
theorem dX6_top_2 : decode cX6_top 2 = .ok (.getfield 7, 3) := by decide +kernel
theorem dX6_top_5 : decode cX6_top 5 = .ok (.iconst 1, 1) := by decide +kernel
theorem dX6_top_6 : decode cX6_top 6 = .ok (.iaload, 1) := by decide +kernel
theorem dX6_top_7 : decode cX6_top 7 = .ok (.ishl, 1) := by decide +kernel
theorem dX6_top_8 : decode cX6_top 8 = .ok (.iconst 1, 1) := by decide +kernel
theorem dX6_top_9 : decode cX6_top 9 = .ok (.isub, 1) := by decide +kernel
theorem dX6_top_10 : decode cX6_top 10 = .ok (.ireturn, 1) := by decide +kernel
set_option maxRecDepth 20000 in
theorem ggX6_reach_X6_top : GoodIn wsX6_reach wsX6_top := goodIn_r _ [6, 1, 7, 8, 9, 10, 11, 12, 13, 14, 15, 16, 17, 18] (by decide +kernel) (by decide +kernel)
set_option maxRecDepth 20000 in
theorem gX6_reach_X6_top : GoodIn wsX6_reach (wsV RX6 47 RX6 yX6_top wsX6_top) := goodIn_app (goodIn_of _ (by decide +kernel)) ggX6_reach_X6_top
theorem dX6_reach_0 : decode cX6_reach 0 = .ok (.aload_n 0, 1) := by decide +kernel
theorem dX6_reach_1 : decode cX6_reach 1 = .ok (.invokevirtual 47, 3) := by decide +kernel
theorem dX6_reach_4 : decode cX6_reach 4 = .ok (.aload_n 0, 1) := by decide +kernel
theorem dX6_reach_5 : decode cX6_reach 5 = .ok (.getfield 7, 3) := by decide +kernel
theorem dX6_reach_8 : decode cX6_reach 8 = .ok (.iconst 0, 1) := by decide +kernel
theorem dX6_reach_9 : decode cX6_reach 9 = .ok (.iaload, 1) := by decide +kernel
theorem dX6_reach_10 : decode cX6_reach 10 = .ok (.idiv, 1) := by decide +kernel
theorem dX6_reach_11 : decode cX6_reach 11 = .ok (.ireturn, 1) := by decide +kernel
theorem dX6_fits_0 : decode cX6_fits 0 = .ok (.iload_n 1, 1) := by decide +kernel
theorem dX6_fits_1 : decode cX6_fits 1 = .ok (.aload_n 0, 1) := by decide +kernel
theorem dX6_fits_2 : decode cX6_fits 2 = .ok (.getfield 7, 3) := by decide +kernel
theorem dX6_fits_5 : decode cX6_fits 5 = .ok (.iconst 0, 1) := by decide +kernel
theorem dX6_fits_6 : decode cX6_fits 6 = .ok (.iaload, 1) := by decide +kernel
theorem dX6_fits_7 : decode cX6_fits 7 = .ok (.irem, 1) := by decide +kernel
theorem dX6_fits_8 : decode cX6_fits 8 = .ok (.ifCond .ne 7, 3) := by decide +kernel
theorem dX6_fits_11 : decode cX6_fits 11 = .ok (.iconst 1, 1) := by decide +kernel
theorem dX6_fits_12 : decode cX6_fits 12 = .ok (.goto 4, 3) := by decide +kernel
theorem dX6_fits_15 : decode cX6_fits 15 = .ok (.iconst 0, 1) := by decide +kernel
theorem dX6_fits_16 : decode cX6_fits 16 = .ok (.ireturn, 1) := by decide +kernel
set_option maxRecDepth 20000 in
theorem ggX6_isInReach_X6_fits : GoodIn wsX6_isInReach wsX6_fits := goodIn_r _ [6, 1, 18, 19, 20, 21, 22, 23, 24, 25, 26, 27, 28, 29] (by decide +kernel) (by decide +kernel)
set_option maxRecDepth 20000 in
theorem gX6_isInReach_X6_fits : GoodIn wsX6_isInReach (wsV RX6 51 RX6 yX6_fits wsX6_fits) := goodIn_app (goodIn_of _ (by decide +kernel)) ggX6_isInReach_X6_fits
set_option maxRecDepth 20000 in
theorem ggX6_isInReach_X6_reach : GoodIn wsX6_isInReach wsX6_reach := goodIn_r _ [10, 1, 11, 12, 13, 5, 14, 18, 19, 20, 21, 22, 23, 24, 25, 26, 27, 28, 29] (by decide +kernel) (by decide +kernel)
set_option maxRecDepth 20000 in
theorem gX6_isInReach_X6_reach : GoodIn wsX6_isInReach (wsV RX6 55 RX6 yX6_reach wsX6_reach) := goodIn_app (goodIn_of _ (by decide +kernel)) ggX6_isInReach_X6_reach
set_option maxRecDepth 20000 in
theorem ggX6_isInReach_X6_in : GoodIn wsX6_isInReach wsX6_in := goodIn_r _ [17] (by decide +kernel) (by decide +kernel)
set_option maxRecDepth 20000 in
theorem gX6_isInReach_X6_in : GoodIn wsX6_isInReach (va_wsS RX6 43 yX6_in wsX6_in) := goodIn_app (goodIn_of _ (by decide +kernel)) ggX6_isInReach_X6_in
theorem dX6_isInReach_0 : decode cX6_isInReach 0 = .ok (.aload_n 0, 1) := by decide +kernel
theorem dX6_isInReach_1 : decode cX6_isInReach 1 = .ok (.iload_n 1, 1) := by decide +kernel
theorem dX6_isInReach_2 : decode cX6_isInReach 2 = .ok (.invokevirtual 51, 3) := by decide +kernel
theorem dX6_isInReach_5 : decode cX6_isInReach 5 = .ok (.ifCond .eq 30, 3) := by decide +kernel
theorem dX6_isInReach_8 : decode cX6_isInReach 8 = .ok (.iload_n 1, 1) := by decide +kernel
theorem dX6_isInReach_9 : decode cX6_isInReach 9 = .ok (.aload_n 0, 1) := by decide +kernel
theorem dX6_isInReach_10 : decode cX6_isInReach 10 = .ok (.getfield 7, 3) := by decide +kernel
theorem dX6_isInReach_13 : decode cX6_isInReach 13 = .ok (.iconst 0, 1) := by decide +kernel
theorem dX6_isInReach_14 : decode cX6_isInReach 14 = .ok (.iaload, 1) := by decide +kernel
theorem dX6_isInReach_15 : decode cX6_isInReach 15 = .ok (.idiv, 1) := by decide +kernel
theorem dX6_isInReach_16 : decode cX6_isInReach 16 = .ok (.aload_n 0, 1) := by decide +kernel
theorem dX6_isInReach_17 : decode cX6_isInReach 17 = .ok (.invokevirtual 55, 3) := by decide +kernel
theorem dX6_isInReach_20 : decode cX6_isInReach 20 = .ok (.ineg, 1) := by decide +kernel
theorem dX6_isInReach_21 : decode cX6_isInReach 21 = .ok (.aload_n 0, 1) := by decide +kernel
theorem dX6_isInReach_22 : decode cX6_isInReach 22 = .ok (.invokevirtual 55, 3) := by decide +kernel
theorem dX6_isInReach_25 : decode cX6_isInReach 25 = .ok (.invokestatic 43, 3) := by decide +kernel
theorem dX6_isInReach_28 : decode cX6_isInReach 28 = .ok (.ifCond .eq 7, 3) := by decide +kernel
theorem dX6_isInReach_31 : decode cX6_isInReach 31 = .ok (.iconst 1, 1) := by decide +kernel
theorem dX6_isInReach_32 : decode cX6_isInReach 32 = .ok (.goto 4, 3) := by decide +kernel
theorem dX6_isInReach_35 : decode cX6_isInReach 35 = .ok (.iconst 0, 1) := by decide +kernel
theorem dX6_isInReach_36 : decode cX6_isInReach 36 = .ok (.ireturn, 1) := by decide +kernel
set_option maxRecDepth 20000 in
theorem ggX6_isRight_X6_isInReach : GoodIn wsX6_isRight wsX6_isInReach := goodIn_r _ [6, 1, 7, 8, 9, 5, 10, 11, 12, 13, 14, 15, 16, 17, 18, 19, 20, 21, 25, 26, 27, 28, 29, 30, 31, 32, 33, 34, 35, 36] (by decide +kernel) (by decide +kernel)
set_option maxRecDepth 20000 in
theorem gX6_isRight_X6_isInReach : GoodIn wsX6_isRight (wsV RX6 58 RX6 yX6_isInReach wsX6_isInReach) := goodIn_app (goodIn_of _ (by decide +kernel)) ggX6_isRight_X6_isInReach
set_option maxRecDepth 20000 in
theorem ggX6_isRight_X6_rest : GoodIn wsX6_isRight wsX6_rest := goodIn_r _ [24] (by decide +kernel) (by decide +kernel)
set_option maxRecDepth 20000 in
theorem gX6_isRight_X6_rest : GoodIn wsX6_isRight (va_wsS RX6 61 yX6_rest wsX6_rest) := goodIn_app (goodIn_of _ (by decide +kernel)) ggX6_isRight_X6_rest
theorem dX6_isRight_0 : decode cX6_isRight 0 = .ok (.aload_n 0, 1) := by decide +kernel
theorem dX6_isRight_1 : decode cX6_isRight 1 = .ok (.iload_n 1, 1) := by decide +kernel
theorem dX6_isRight_2 : decode cX6_isRight 2 = .ok (.invokevirtual 58, 3) := by decide +kernel
theorem dX6_isRight_5 : decode cX6_isRight 5 = .ok (.ifCond .eq 25, 3) := by decide +kernel
theorem dX6_isRight_8 : decode cX6_isRight 8 = .ok (.iload_n 1, 1) := by decide +kernel
theorem dX6_isRight_9 : decode cX6_isRight 9 = .ok (.aload_n 0, 1) := by decide +kernel
theorem dX6_isRight_10 : decode cX6_isRight 10 = .ok (.getfield 7, 3) := by decide +kernel
theorem dX6_isRight_13 : decode cX6_isRight 13 = .ok (.iconst 0, 1) := by decide +kernel
theorem dX6_isRight_14 : decode cX6_isRight 14 = .ok (.iaload, 1) := by decide +kernel
theorem dX6_isRight_15 : decode cX6_isRight 15 = .ok (.idiv, 1) := by decide +kernel
theorem dX6_isRight_16 : decode cX6_isRight 16 = .ok (.i2l, 1) := by decide +kernel
theorem dX6_isRight_17 : decode cX6_isRight 17 = .ok (.bipush 15, 2) := by decide +kernel
theorem dX6_isRight_19 : decode cX6_isRight 19 = .ok (.invokestatic 61, 3) := by decide +kernel
theorem dX6_isRight_22 : decode cX6_isRight 22 = .ok (.iload_n 2, 1) := by decide +kernel
theorem dX6_isRight_23 : decode cX6_isRight 23 = .ok (.if_icmp .ne 7, 3) := by decide +kernel
theorem dX6_isRight_26 : decode cX6_isRight 26 = .ok (.iconst 1, 1) := by decide +kernel
theorem dX6_isRight_27 : decode cX6_isRight 27 = .ok (.goto 4, 3) := by decide +kernel
theorem dX6_isRight_30 : decode cX6_isRight 30 = .ok (.iconst 0, 1) := by decide +kernel
theorem dX6_isRight_31 : decode cX6_isRight 31 = .ok (.ireturn, 1) := by decide +kernel
theorem dX6_by_0 : decode cX6_by 0 = .ok (.iload_n 0, 1) := by decide +kernel
theorem dX6_by_1 : decode cX6_by 1 = .ok (.iconst 2, 1) := by decide +kernel
theorem dX6_by_2 : decode cX6_by 2 = .ok (.irem, 1) := by decide +kernel
theorem dX6_by_3 : decode cX6_by 3 = .ok (.ifCond .ne 11, 3) := by decide +kernel
theorem dX6_by_6 : decode cX6_by 6 = .ok (.iconst 1, 1) := by decide +kernel
theorem dX6_by_7 : decode cX6_by 7 = .ok (.iload_n 0, 1) := by decide +kernel
theorem dX6_by_8 : decode cX6_by 8 = .ok (.iconst 2, 1) := by decide +kernel
theorem dX6_by_9 : decode cX6_by 9 = .ok (.idiv, 1) := by decide +kernel
theorem dX6_by_10 : decode cX6_by 10 = .ok (.ishl, 1) := by decide +kernel
theorem dX6_by_11 : decode cX6_by 11 = .ok (.goto 9, 3) := by decide +kernel
theorem dX6_by_14 : decode cX6_by 14 = .ok (.iconst 1, 1) := by decide +kernel
theorem dX6_by_15 : decode cX6_by 15 = .ok (.iload_n 0, 1) := by decide +kernel
theorem dX6_by_16 : decode cX6_by 16 = .ok (.iconst 2, 1) := by decide +kernel
theorem dX6_by_17 : decode cX6_by 17 = .ok (.idiv, 1) := by decide +kernel
theorem dX6_by_18 : decode cX6_by 18 = .ok (.ishl, 1) := by decide +kernel
theorem dX6_by_19 : decode cX6_by 19 = .ok (.ineg, 1) := by decide +kernel
theorem dX6_by_20 : decode cX6_by 20 = .ok (.ireturn, 1) := by decide +kernel
theorem dX6_strikeMany_0 : decode cX6_strikeMany 0 = .ok (.iconst 2, 1) := by decide +kernel
theorem dX6_strikeMany_1 : decode cX6_strikeMany 1 = .ok (.aload_n 0, 1) := by decide +kernel
theorem dX6_strikeMany_2 : decode cX6_strikeMany 2 = .ok (.getfield 7, 3) := by decide +kernel
theorem dX6_strikeMany_5 : decode cX6_strikeMany 5 = .ok (.iconst 1, 1) := by decide +kernel
theorem dX6_strikeMany_6 : decode cX6_strikeMany 6 = .ok (.iaload, 1) := by decide +kernel
theorem dX6_strikeMany_7 : decode cX6_strikeMany 7 = .ok (.imul, 1) := by decide +kernel
theorem dX6_strikeMany_8 : decode cX6_strikeMany 8 = .ok (.ireturn, 1) := by decide +kernel
theorem dX6_notes_0 : decode cX6_notes 0 = .ok (.aload_n 0, 1) := by decide +kernel
theorem dX6_notes_1 : decode cX6_notes 1 = .ok (.getfield 65, 3) := by decide +kernel
theorem dX6_notes_4 : decode cX6_notes 4 = .ok (.bipush 12, 2) := by decide +kernel
theorem dX6_notes_6 : decode cX6_notes 6 = .ok (.if_icmp .ne 38, 3) := by decide +kernel
theorem dX6_notes_9 : decode cX6_notes 9 = .ok (.iconst 0, 1) := by decide +kernel
theorem dX6_notes_10 : decode cX6_notes 10 = .ok (.istore_n 1, 1) := by decide +kernel
theorem dX6_notes_11 : decode cX6_notes 11 = .ok (.iload_n 1, 1) := by decide +kernel
theorem dX6_notes_12 : decode cX6_notes 12 = .ok (.bipush 110, 2) := by decide +kernel
theorem dX6_notes_14 : decode cX6_notes 14 = .ok (.if_icmp .ge 24, 3) := by decide +kernel
theorem dX6_notes_17 : decode cX6_notes 17 = .ok (.aload_n 0, 1) := by decide +kernel
theorem dX6_notes_18 : decode cX6_notes 18 = .ok (.getfield 13, 3) := by decide +kernel
theorem dX6_notes_21 : decode cX6_notes 21 = .ok (.iload_n 1, 1) := by decide +kernel
theorem dX6_notes_22 : decode cX6_notes 22 = .ok (.aload_n 0, 1) := by decide +kernel
theorem dX6_notes_23 : decode cX6_notes 23 = .ok (.getfield 13, 3) := by decide +kernel
theorem dX6_notes_26 : decode cX6_notes 26 = .ok (.iload_n 1, 1) := by decide +kernel
theorem dX6_notes_27 : decode cX6_notes 27 = .ok (.bipush 10, 2) := by decide +kernel
theorem dX6_notes_29 : decode cX6_notes 29 = .ok (.iadd, 1) := by decide +kernel
theorem dX6_notes_30 : decode cX6_notes 30 = .ok (.iaload, 1) := by decide +kernel
theorem dX6_notes_31 : decode cX6_notes 31 = .ok (.iastore, 1) := by decide +kernel
theorem dX6_notes_32 : decode cX6_notes 32 = .ok (.iinc 1 1, 3) := by decide +kernel
theorem dX6_notes_35 : decode cX6_notes 35 = .ok (.goto (-24), 3) := by decide +kernel
theorem dX6_notes_38 : decode cX6_notes 38 = .ok (.aload_n 0, 1) := by decide +kernel
theorem dX6_notes_39 : decode cX6_notes 39 = .ok (.bipush 11, 2) := by decide +kernel
theorem dX6_notes_41 : decode cX6_notes 41 = .ok (.putfield 65, 3) := by decide +kernel
theorem dX6_notes_44 : decode cX6_notes 44 = .ok (.iconst 0, 1) := by decide +kernel
theorem dX6_notes_45 : decode cX6_notes 45 = .ok (.istore_n 1, 1) := by decide +kernel
theorem dX6_notes_46 : decode cX6_notes 46 = .ok (.iload_n 1, 1) := by decide +kernel
theorem dX6_notes_47 : decode cX6_notes 47 = .ok (.bipush 10, 2) := by decide +kernel
theorem dX6_notes_49 : decode cX6_notes 49 = .ok (.if_icmp .ge 29, 3) := by decide +kernel
theorem dX6_notes_52 : decode cX6_notes 52 = .ok (.aload_n 0, 1) := by decide +kernel
theorem dX6_notes_53 : decode cX6_notes 53 = .ok (.getfield 13, 3) := by decide +kernel
theorem dX6_notes_56 : decode cX6_notes 56 = .ok (.bipush 10, 2) := by decide +kernel
theorem dX6_notes_58 : decode cX6_notes 58 = .ok (.aload_n 0, 1) := by decide +kernel
theorem dX6_notes_59 : decode cX6_notes 59 = .ok (.getfield 65, 3) := by decide +kernel
theorem dX6_notes_62 : decode cX6_notes 62 = .ok (.imul, 1) := by decide +kernel
theorem dX6_notes_63 : decode cX6_notes 63 = .ok (.iload_n 1, 1) := by decide +kernel
theorem dX6_notes_64 : decode cX6_notes 64 = .ok (.iadd, 1) := by decide +kernel
theorem dX6_notes_65 : decode cX6_notes 65 = .ok (.aload_n 0, 1) := by decide +kernel
theorem dX6_notes_66 : decode cX6_notes 66 = .ok (.getfield 7, 3) := by decide +kernel
theorem dX6_notes_69 : decode cX6_notes 69 = .ok (.iload_n 1, 1) := by decide +kernel
theorem dX6_notes_70 : decode cX6_notes 70 = .ok (.iaload, 1) := by decide +kernel
theorem dX6_notes_71 : decode cX6_notes 71 = .ok (.iastore, 1) := by decide +kernel
theorem dX6_notes_72 : decode cX6_notes 72 = .ok (.iinc 1 1, 3) := by decide +kernel
theorem dX6_notes_75 : decode cX6_notes 75 = .ok (.goto (-29), 3) := by decide +kernel
theorem dX6_notes_78 : decode cX6_notes 78 = .ok (.aload_n 0, 1) := by decide +kernel
theorem dX6_notes_79 : decode cX6_notes 79 = .ok (.dup, 1) := by decide +kernel
theorem dX6_notes_80 : decode cX6_notes 80 = .ok (.getfield 65, 3) := by decide +kernel
theorem dX6_notes_83 : decode cX6_notes 83 = .ok (.iconst 1, 1) := by decide +kernel
theorem dX6_notes_84 : decode cX6_notes 84 = .ok (.iadd, 1) := by decide +kernel
theorem dX6_notes_85 : decode cX6_notes 85 = .ok (.putfield 65, 3) := by decide +kernel
theorem dX6_notes_88 : decode cX6_notes 88 = .ok (.return_, 1) := by decide +kernel
set_option maxRecDepth 20000 in
theorem ggX6_codes_X6_isConstant : GoodIn wsX6_codes wsX6_isConstant := goodIn_r _ [7, 8, 9, 6, 10] (by decide +kernel) (by decide +kernel)
set_option maxRecDepth 20000 in
theorem gX6_codes_X6_isConstant : GoodIn wsX6_codes (va_wsS RX6 68 yX6_isConstant wsX6_isConstant) := goodIn_app (goodIn_of _ (by decide +kernel)) ggX6_codes_X6_isConstant
set_option maxRecDepth 20000 in
theorem ggX6_codes_X6_in : GoodIn wsX6_codes wsX6_in := goodIn_r _ [10] (by decide +kernel) (by decide +kernel)
set_option maxRecDepth 20000 in
theorem gX6_codes_X6_in : GoodIn wsX6_codes (va_wsS RX6 43 yX6_in wsX6_in) := goodIn_app (goodIn_of _ (by decide +kernel)) ggX6_codes_X6_in
set_option maxRecDepth 20000 in
theorem ggX6_codes_X6_notes : GoodIn wsX6_codes wsX6_notes := goodIn_r _ [14, 15, 16, 3, 25, 26, 27, 28, 29, 30, 31, 32, 33, 34, 35, 36] (by decide +kernel) (by decide +kernel)
set_option maxRecDepth 20000 in
theorem gX6_codes_X6_notes : GoodIn wsX6_codes (wsV RX6 72 RX6 yX6_notes wsX6_notes) := goodIn_app (goodIn_of _ (by decide +kernel)) ggX6_codes_X6_notes
set_option maxRecDepth 20000 in
theorem ggX6_codes_X6_reach : GoodIn wsX6_codes wsX6_reach := goodIn_r _ [20, 3, 21, 22, 23, 6, 24, 25, 26, 27, 28, 29, 30, 31, 32, 33, 34, 35, 36] (by decide +kernel) (by decide +kernel)
set_option maxRecDepth 20000 in
theorem gX6_codes_X6_reach : GoodIn wsX6_codes (wsV RX6 55 RX6 yX6_reach wsX6_reach) := goodIn_app (goodIn_of _ (by decide +kernel)) ggX6_codes_X6_reach
theorem dX6_codes_0 : decode cX6_codes 0 = .ok (.aload_n 0, 1) := by decide +kernel
theorem dX6_codes_1 : decode cX6_codes 1 = .ok (.iconst 0, 1) := by decide +kernel
theorem dX6_codes_2 : decode cX6_codes 2 = .ok (.putfield 39, 3) := by decide +kernel
theorem dX6_codes_5 : decode cX6_codes 5 = .ok (.iload_n 1, 1) := by decide +kernel
theorem dX6_codes_6 : decode cX6_codes 6 = .ok (.invokestatic 68, 3) := by decide +kernel
theorem dX6_codes_9 : decode cX6_codes 9 = .ok (.ifCond .eq 13, 3) := by decide +kernel
theorem dX6_codes_12 : decode cX6_codes 12 = .ok (.iload_n 2, 1) := by decide +kernel
theorem dX6_codes_13 : decode cX6_codes 13 = .ok (.iconst 4, 1) := by decide +kernel
theorem dX6_codes_14 : decode cX6_codes 14 = .ok (.bipush 16, 2) := by decide +kernel
theorem dX6_codes_16 : decode cX6_codes 16 = .ok (.invokestatic 43, 3) := by decide +kernel
theorem dX6_codes_19 : decode cX6_codes 19 = .ok (.ifCond .ne 6, 3) := by decide +kernel
theorem dX6_codes_22 : decode cX6_codes 22 = .ok (.ldc 71, 2) := by decide +kernel
theorem dX6_codes_24 : decode cX6_codes 24 = .ok (.ireturn, 1) := by decide +kernel
theorem dX6_codes_25 : decode cX6_codes 25 = .ok (.aload_n 0, 1) := by decide +kernel
theorem dX6_codes_26 : decode cX6_codes 26 = .ok (.invokevirtual 72, 3) := by decide +kernel
theorem dX6_codes_29 : decode cX6_codes 29 = .ok (.iconst 0, 1) := by decide +kernel
theorem dX6_codes_30 : decode cX6_codes 30 = .ok (.istore_n 3, 1) := by decide +kernel
theorem dX6_codes_31 : decode cX6_codes 31 = .ok (.iload_n 3, 1) := by decide +kernel
theorem dX6_codes_32 : decode cX6_codes 32 = .ok (.bipush 10, 2) := by decide +kernel
theorem dX6_codes_34 : decode cX6_codes 34 = .ok (.if_icmp .ge 16, 3) := by decide +kernel
theorem dX6_codes_37 : decode cX6_codes 37 = .ok (.aload_n 0, 1) := by decide +kernel
theorem dX6_codes_38 : decode cX6_codes 38 = .ok (.getfield 7, 3) := by decide +kernel
theorem dX6_codes_41 : decode cX6_codes 41 = .ok (.iload_n 3, 1) := by decide +kernel
theorem dX6_codes_42 : decode cX6_codes 42 = .ok (.iconst 0, 1) := by decide +kernel
theorem dX6_codes_43 : decode cX6_codes 43 = .ok (.iastore, 1) := by decide +kernel
theorem dX6_codes_44 : decode cX6_codes 44 = .ok (.iinc 3 1, 3) := by decide +kernel
theorem dX6_codes_47 : decode cX6_codes 47 = .ok (.goto (-16), 3) := by decide +kernel
theorem dX6_codes_50 : decode cX6_codes 50 = .ok (.aload_n 0, 1) := by decide +kernel
theorem dX6_codes_51 : decode cX6_codes 51 = .ok (.getfield 7, 3) := by decide +kernel
theorem dX6_codes_54 : decode cX6_codes 54 = .ok (.iconst 0, 1) := by decide +kernel
theorem dX6_codes_55 : decode cX6_codes 55 = .ok (.iload_n 1, 1) := by decide +kernel
theorem dX6_codes_56 : decode cX6_codes 56 = .ok (.iastore, 1) := by decide +kernel
theorem dX6_codes_57 : decode cX6_codes 57 = .ok (.aload_n 0, 1) := by decide +kernel
theorem dX6_codes_58 : decode cX6_codes 58 = .ok (.getfield 7, 3) := by decide +kernel
theorem dX6_codes_61 : decode cX6_codes 61 = .ok (.iconst 1, 1) := by decide +kernel
theorem dX6_codes_62 : decode cX6_codes 62 = .ok (.iload_n 2, 1) := by decide +kernel
theorem dX6_codes_63 : decode cX6_codes 63 = .ok (.iastore, 1) := by decide +kernel
theorem dX6_codes_64 : decode cX6_codes 64 = .ok (.aload_n 0, 1) := by decide +kernel
theorem dX6_codes_65 : decode cX6_codes 65 = .ok (.invokevirtual 55, 3) := by decide +kernel
theorem dX6_codes_68 : decode cX6_codes 68 = .ok (.ireturn, 1) := by decide +kernel
set_option maxRecDepth 20000 in
theorem ggX6_sets_X6_isRegister : GoodIn wsX6_sets wsX6_isRegister := goodIn_r _ [7, 8, 9, 6, 10] (by decide +kernel) (by decide +kernel)
set_option maxRecDepth 20000 in
theorem gX6_sets_X6_isRegister : GoodIn wsX6_sets (va_wsS RX6 75 yX6_isRegister wsX6_isRegister) := goodIn_app (goodIn_of _ (by decide +kernel)) ggX6_sets_X6_isRegister
set_option maxRecDepth 20000 in
theorem ggX6_sets_X6_reach : GoodIn wsX6_sets wsX6_reach := goodIn_r _ [14, 3, 15, 16, 17, 6, 18, 28, 29, 30, 31, 32, 33, 34, 35, 36, 37, 38, 39] (by decide +kernel) (by decide +kernel)
set_option maxRecDepth 20000 in
theorem gX6_sets_X6_reach : GoodIn wsX6_sets (wsV RX6 55 RX6 yX6_reach wsX6_reach) := goodIn_app (goodIn_of _ (by decide +kernel)) ggX6_sets_X6_reach
set_option maxRecDepth 20000 in
theorem ggX6_sets_X6_in : GoodIn wsX6_sets wsX6_in := goodIn_r _ [10] (by decide +kernel) (by decide +kernel)
set_option maxRecDepth 20000 in
theorem gX6_sets_X6_in : GoodIn wsX6_sets (va_wsS RX6 43 yX6_in wsX6_in) := goodIn_app (goodIn_of _ (by decide +kernel)) ggX6_sets_X6_in
set_option maxRecDepth 20000 in
theorem ggX6_sets_X6_notes : GoodIn wsX6_sets wsX6_notes := goodIn_r _ [22, 23, 24, 3, 28, 29, 30, 31, 32, 33, 34, 35, 36, 37, 38, 39] (by decide +kernel) (by decide +kernel)
set_option maxRecDepth 20000 in
theorem gX6_sets_X6_notes : GoodIn wsX6_sets (wsV RX6 72 RX6 yX6_notes wsX6_notes) := goodIn_app (goodIn_of _ (by decide +kernel)) ggX6_sets_X6_notes
set_option maxRecDepth 20000 in
theorem ggX6_sets_X6_rest : GoodIn wsX6_sets wsX6_rest := goodIn_r _ [27] (by decide +kernel) (by decide +kernel)
set_option maxRecDepth 20000 in
theorem gX6_sets_X6_rest : GoodIn wsX6_sets (va_wsS RX6 61 yX6_rest wsX6_rest) := goodIn_app (goodIn_of _ (by decide +kernel)) ggX6_sets_X6_rest
theorem dX6_sets_0 : decode cX6_sets 0 = .ok (.aload_n 0, 1) := by decide +kernel
theorem dX6_sets_1 : decode cX6_sets 1 = .ok (.iconst 0, 1) := by decide +kernel
theorem dX6_sets_2 : decode cX6_sets 2 = .ok (.putfield 39, 3) := by decide +kernel
theorem dX6_sets_5 : decode cX6_sets 5 = .ok (.iload_n 1, 1) := by decide +kernel
theorem dX6_sets_6 : decode cX6_sets 6 = .ok (.invokestatic 75, 3) := by decide +kernel
theorem dX6_sets_9 : decode cX6_sets 9 = .ok (.ifCond .eq 19, 3) := by decide +kernel
theorem dX6_sets_12 : decode cX6_sets 12 = .ok (.iload_n 2, 1) := by decide +kernel
theorem dX6_sets_13 : decode cX6_sets 13 = .ok (.aload_n 0, 1) := by decide +kernel
theorem dX6_sets_14 : decode cX6_sets 14 = .ok (.invokevirtual 55, 3) := by decide +kernel
theorem dX6_sets_17 : decode cX6_sets 17 = .ok (.ineg, 1) := by decide +kernel
theorem dX6_sets_18 : decode cX6_sets 18 = .ok (.aload_n 0, 1) := by decide +kernel
theorem dX6_sets_19 : decode cX6_sets 19 = .ok (.invokevirtual 55, 3) := by decide +kernel
theorem dX6_sets_22 : decode cX6_sets 22 = .ok (.invokestatic 43, 3) := by decide +kernel
theorem dX6_sets_25 : decode cX6_sets 25 = .ok (.ifCond .ne 6, 3) := by decide +kernel
theorem dX6_sets_28 : decode cX6_sets 28 = .ok (.ldc 71, 2) := by decide +kernel
theorem dX6_sets_30 : decode cX6_sets 30 = .ok (.ireturn, 1) := by decide +kernel
theorem dX6_sets_31 : decode cX6_sets 31 = .ok (.aload_n 0, 1) := by decide +kernel
theorem dX6_sets_32 : decode cX6_sets 32 = .ok (.invokevirtual 72, 3) := by decide +kernel
theorem dX6_sets_35 : decode cX6_sets 35 = .ok (.aload_n 0, 1) := by decide +kernel
theorem dX6_sets_36 : decode cX6_sets 36 = .ok (.getfield 7, 3) := by decide +kernel
theorem dX6_sets_39 : decode cX6_sets 39 = .ok (.iconst 2, 1) := by decide +kernel
theorem dX6_sets_40 : decode cX6_sets 40 = .ok (.iload_n 1, 1) := by decide +kernel
theorem dX6_sets_41 : decode cX6_sets 41 = .ok (.iadd, 1) := by decide +kernel
theorem dX6_sets_42 : decode cX6_sets 42 = .ok (.aload_n 0, 1) := by decide +kernel
theorem dX6_sets_43 : decode cX6_sets 43 = .ok (.getfield 7, 3) := by decide +kernel
theorem dX6_sets_46 : decode cX6_sets 46 = .ok (.iconst 0, 1) := by decide +kernel
theorem dX6_sets_47 : decode cX6_sets 47 = .ok (.iaload, 1) := by decide +kernel
theorem dX6_sets_48 : decode cX6_sets 48 = .ok (.iload_n 2, 1) := by decide +kernel
theorem dX6_sets_49 : decode cX6_sets 49 = .ok (.imul, 1) := by decide +kernel
theorem dX6_sets_50 : decode cX6_sets 50 = .ok (.iastore, 1) := by decide +kernel
theorem dX6_sets_51 : decode cX6_sets 51 = .ok (.aload_n 0, 1) := by decide +kernel
theorem dX6_sets_52 : decode cX6_sets 52 = .ok (.getfield 7, 3) := by decide +kernel
theorem dX6_sets_55 : decode cX6_sets 55 = .ok (.bipush 6, 2) := by decide +kernel
theorem dX6_sets_57 : decode cX6_sets 57 = .ok (.iload_n 1, 1) := by decide +kernel
theorem dX6_sets_58 : decode cX6_sets 58 = .ok (.iadd, 1) := by decide +kernel
theorem dX6_sets_59 : decode cX6_sets 59 = .ok (.iload_n 2, 1) := by decide +kernel
theorem dX6_sets_60 : decode cX6_sets 60 = .ok (.i2l, 1) := by decide +kernel
theorem dX6_sets_61 : decode cX6_sets 61 = .ok (.bipush 15, 2) := by decide +kernel
theorem dX6_sets_63 : decode cX6_sets 63 = .ok (.invokestatic 61, 3) := by decide +kernel
theorem dX6_sets_66 : decode cX6_sets 66 = .ok (.iastore, 1) := by decide +kernel
theorem dX6_sets_67 : decode cX6_sets 67 = .ok (.aload_n 0, 1) := by decide +kernel
theorem dX6_sets_68 : decode cX6_sets 68 = .ok (.getfield 7, 3) := by decide +kernel
theorem dX6_sets_71 : decode cX6_sets 71 = .ok (.iconst 2, 1) := by decide +kernel
theorem dX6_sets_72 : decode cX6_sets 72 = .ok (.iload_n 1, 1) := by decide +kernel
theorem dX6_sets_73 : decode cX6_sets 73 = .ok (.iadd, 1) := by decide +kernel
theorem dX6_sets_74 : decode cX6_sets 74 = .ok (.iaload, 1) := by decide +kernel
theorem dX6_sets_75 : decode cX6_sets 75 = .ok (.ireturn, 1) := by decide +kernel
theorem dX6_makes_0 : decode cX6_makes 0 = .ok (.iload_n 0, 1) := by decide +kernel
theorem dX6_makes_1 : decode cX6_makes 1 = .ok (.ifCond .ne 9, 3) := by decide +kernel
theorem dX6_makes_4 : decode cX6_makes 4 = .ok (.lload_n 1, 1) := by decide +kernel
theorem dX6_makes_5 : decode cX6_makes 5 = .ok (.lload_n 3, 1) := by decide +kernel
theorem dX6_makes_6 : decode cX6_makes 6 = .ok (.ladd, 1) := by decide +kernel
theorem dX6_makes_7 : decode cX6_makes 7 = .ok (.goto 51, 3) := by decide +kernel
theorem dX6_makes_10 : decode cX6_makes 10 = .ok (.iload_n 0, 1) := by decide +kernel
theorem dX6_makes_11 : decode cX6_makes 11 = .ok (.iconst 1, 1) := by decide +kernel
theorem dX6_makes_12 : decode cX6_makes 12 = .ok (.if_icmp .ne 9, 3) := by decide +kernel
theorem dX6_makes_15 : decode cX6_makes 15 = .ok (.lload_n 1, 1) := by decide +kernel
theorem dX6_makes_16 : decode cX6_makes 16 = .ok (.lload_n 3, 1) := by decide +kernel
theorem dX6_makes_17 : decode cX6_makes 17 = .ok (.lsub, 1) := by decide +kernel
theorem dX6_makes_18 : decode cX6_makes 18 = .ok (.goto 40, 3) := by decide +kernel
theorem dX6_makes_21 : decode cX6_makes 21 = .ok (.iload_n 0, 1) := by decide +kernel
theorem dX6_makes_22 : decode cX6_makes 22 = .ok (.iconst 2, 1) := by decide +kernel
theorem dX6_makes_23 : decode cX6_makes 23 = .ok (.if_icmp .ne 13, 3) := by decide +kernel
theorem dX6_makes_26 : decode cX6_makes 26 = .ok (.lload_n 1, 1) := by decide +kernel
theorem dX6_makes_27 : decode cX6_makes 27 = .ok (.lload_n 3, 1) := by decide +kernel
theorem dX6_makes_28 : decode cX6_makes 28 = .ok (.lmul, 1) := by decide +kernel
theorem dX6_makes_29 : decode cX6_makes 29 = .ok (.iload 5, 2) := by decide +kernel
theorem dX6_makes_31 : decode cX6_makes 31 = .ok (.i2l, 1) := by decide +kernel
theorem dX6_makes_32 : decode cX6_makes 32 = .ok (.ldiv, 1) := by decide +kernel
theorem dX6_makes_33 : decode cX6_makes 33 = .ok (.goto 25, 3) := by decide +kernel
theorem dX6_makes_36 : decode cX6_makes 36 = .ok (.iload_n 0, 1) := by decide +kernel
theorem dX6_makes_37 : decode cX6_makes 37 = .ok (.iconst 3, 1) := by decide +kernel
theorem dX6_makes_38 : decode cX6_makes 38 = .ok (.if_icmp .ne 9, 3) := by decide +kernel
theorem dX6_makes_41 : decode cX6_makes 41 = .ok (.lload_n 1, 1) := by decide +kernel
theorem dX6_makes_42 : decode cX6_makes 42 = .ok (.lload_n 1, 1) := by decide +kernel
theorem dX6_makes_43 : decode cX6_makes 43 = .ok (.ladd, 1) := by decide +kernel
theorem dX6_makes_44 : decode cX6_makes 44 = .ok (.goto 14, 3) := by decide +kernel
theorem dX6_makes_47 : decode cX6_makes 47 = .ok (.iload_n 0, 1) := by decide +kernel
theorem dX6_makes_48 : decode cX6_makes 48 = .ok (.iconst 4, 1) := by decide +kernel
theorem dX6_makes_49 : decode cX6_makes 49 = .ok (.if_icmp .ne 8, 3) := by decide +kernel
theorem dX6_makes_52 : decode cX6_makes 52 = .ok (.lload_n 1, 1) := by decide +kernel
theorem dX6_makes_53 : decode cX6_makes 53 = .ok (.lneg, 1) := by decide +kernel
theorem dX6_makes_54 : decode cX6_makes 54 = .ok (.goto 4, 3) := by decide +kernel
theorem dX6_makes_57 : decode cX6_makes 57 = .ok (.lload_n 1, 1) := by decide +kernel
theorem dX6_makes_58 : decode cX6_makes 58 = .ok (.lreturn, 1) := by decide +kernel
set_option maxRecDepth 20000 in
theorem ggX6_does_X6_in : GoodIn wsX6_does wsX6_in := goodIn_r _ [10] (by decide +kernel) (by decide +kernel)
set_option maxRecDepth 20000 in
theorem gX6_does_X6_in : GoodIn wsX6_does (va_wsS RX6 43 yX6_in wsX6_in) := goodIn_app (goodIn_of _ (by decide +kernel)) ggX6_does_X6_in
set_option maxRecDepth 20000 in
theorem ggX6_does_X6_isRegister : GoodIn wsX6_does wsX6_isRegister := goodIn_r _ [13, 7, 8, 9, 10] (by decide +kernel) (by decide +kernel)
set_option maxRecDepth 20000 in
theorem gX6_does_X6_isRegister : GoodIn wsX6_does (va_wsS RX6 75 yX6_isRegister wsX6_isRegister) := goodIn_app (goodIn_of _ (by decide +kernel)) ggX6_does_X6_isRegister
set_option maxRecDepth 20000 in
theorem ggX6_does_X6_fits : GoodIn wsX6_does wsX6_fits := goodIn_r _ [17, 3, 34, 35, 36, 37, 38, 39, 40, 41, 42, 43, 44, 45] (by decide +kernel) (by decide +kernel)
set_option maxRecDepth 20000 in
theorem gX6_does_X6_fits : GoodIn wsX6_does (wsV RX6 51 RX6 yX6_fits wsX6_fits) := goodIn_app (goodIn_of _ (by decide +kernel)) ggX6_does_X6_fits
set_option maxRecDepth 20000 in
theorem ggX6_does_X6_makes : GoodIn wsX6_does wsX6_makes := goodIn_r _ [20] (by decide +kernel) (by decide +kernel)
set_option maxRecDepth 20000 in
theorem gX6_does_X6_makes : GoodIn wsX6_does (va_wsS RX6 79 yX6_makes wsX6_makes) := goodIn_app (goodIn_of _ (by decide +kernel)) ggX6_does_X6_makes
set_option maxRecDepth 20000 in
theorem ggX6_does_X6_top : GoodIn wsX6_does wsX6_top := goodIn_r _ [24, 3, 34, 35, 36, 37, 38, 39, 40, 41, 42, 43, 44, 45] (by decide +kernel) (by decide +kernel)
set_option maxRecDepth 20000 in
theorem gX6_does_X6_top : GoodIn wsX6_does (wsV RX6 47 RX6 yX6_top wsX6_top) := goodIn_app (goodIn_of _ (by decide +kernel)) ggX6_does_X6_top
set_option maxRecDepth 20000 in
theorem ggX6_does_X6_notes : GoodIn wsX6_does wsX6_notes := goodIn_r _ [28, 29, 30, 3, 34, 35, 36, 37, 38, 39, 40, 41, 42, 43, 44, 45] (by decide +kernel) (by decide +kernel)
set_option maxRecDepth 20000 in
theorem gX6_does_X6_notes : GoodIn wsX6_does (wsV RX6 72 RX6 yX6_notes wsX6_notes) := goodIn_app (goodIn_of _ (by decide +kernel)) ggX6_does_X6_notes
set_option maxRecDepth 20000 in
theorem ggX6_does_X6_rest : GoodIn wsX6_does wsX6_rest := goodIn_r _ [33] (by decide +kernel) (by decide +kernel)
set_option maxRecDepth 20000 in
theorem gX6_does_X6_rest : GoodIn wsX6_does (va_wsS RX6 61 yX6_rest wsX6_rest) := goodIn_app (goodIn_of _ (by decide +kernel)) ggX6_does_X6_rest
theorem dX6_does_0 : decode cX6_does 0 = .ok (.aload_n 0, 1) := by decide +kernel
theorem dX6_does_1 : decode cX6_does 1 = .ok (.iconst 0, 1) := by decide +kernel
theorem dX6_does_2 : decode cX6_does 2 = .ok (.putfield 39, 3) := by decide +kernel
theorem dX6_does_5 : decode cX6_does 5 = .ok (.iload_n 1, 1) := by decide +kernel
theorem dX6_does_6 : decode cX6_does 6 = .ok (.iconst 0, 1) := by decide +kernel
theorem dX6_does_7 : decode cX6_does 7 = .ok (.iconst 5, 1) := by decide +kernel
theorem dX6_does_8 : decode cX6_does 8 = .ok (.invokestatic 43, 3) := by decide +kernel
theorem dX6_does_11 : decode cX6_does 11 = .ok (.ifCond .eq 17, 3) := by decide +kernel
theorem dX6_does_14 : decode cX6_does 14 = .ok (.iload_n 2, 1) := by decide +kernel
theorem dX6_does_15 : decode cX6_does 15 = .ok (.invokestatic 75, 3) := by decide +kernel
theorem dX6_does_18 : decode cX6_does 18 = .ok (.ifCond .eq 10, 3) := by decide +kernel
theorem dX6_does_21 : decode cX6_does 21 = .ok (.iload_n 3, 1) := by decide +kernel
theorem dX6_does_22 : decode cX6_does 22 = .ok (.invokestatic 75, 3) := by decide +kernel
theorem dX6_does_25 : decode cX6_does 25 = .ok (.ifCond .ne 6, 3) := by decide +kernel
theorem dX6_does_28 : decode cX6_does 28 = .ok (.ldc 71, 2) := by decide +kernel
theorem dX6_does_30 : decode cX6_does 30 = .ok (.ireturn, 1) := by decide +kernel
theorem dX6_does_31 : decode cX6_does 31 = .ok (.iload_n 1, 1) := by decide +kernel
theorem dX6_does_32 : decode cX6_does 32 = .ok (.iconst 5, 1) := by decide +kernel
theorem dX6_does_33 : decode cX6_does 33 = .ok (.if_icmp .ne 7, 3) := by decide +kernel
theorem dX6_does_36 : decode cX6_does 36 = .ok (.iconst 1, 1) := by decide +kernel
theorem dX6_does_37 : decode cX6_does 37 = .ok (.goto 4, 3) := by decide +kernel
theorem dX6_does_40 : decode cX6_does 40 = .ok (.iconst 0, 1) := by decide +kernel
theorem dX6_does_41 : decode cX6_does 41 = .ok (.istore 4, 2) := by decide +kernel
theorem dX6_does_43 : decode cX6_does 43 = .ok (.aload_n 0, 1) := by decide +kernel
theorem dX6_does_44 : decode cX6_does 44 = .ok (.getfield 7, 3) := by decide +kernel
theorem dX6_does_47 : decode cX6_does 47 = .ok (.iconst 2, 1) := by decide +kernel
theorem dX6_does_48 : decode cX6_does 48 = .ok (.iload_n 2, 1) := by decide +kernel
theorem dX6_does_49 : decode cX6_does 49 = .ok (.iadd, 1) := by decide +kernel
theorem dX6_does_50 : decode cX6_does 50 = .ok (.iaload, 1) := by decide +kernel
theorem dX6_does_51 : decode cX6_does 51 = .ok (.istore 5, 2) := by decide +kernel
theorem dX6_does_53 : decode cX6_does 53 = .ok (.iload 4, 2) := by decide +kernel
theorem dX6_does_55 : decode cX6_does 55 = .ok (.ifCond .eq 29, 3) := by decide +kernel
theorem dX6_does_58 : decode cX6_does 58 = .ok (.aload_n 0, 1) := by decide +kernel
theorem dX6_does_59 : decode cX6_does 59 = .ok (.iload 5, 2) := by decide +kernel
theorem dX6_does_61 : decode cX6_does 61 = .ok (.invokevirtual 51, 3) := by decide +kernel
theorem dX6_does_64 : decode cX6_does 64 = .ok (.ifCond .eq 17, 3) := by decide +kernel
theorem dX6_does_67 : decode cX6_does 67 = .ok (.iload 5, 2) := by decide +kernel
theorem dX6_does_69 : decode cX6_does 69 = .ok (.aload_n 0, 1) := by decide +kernel
theorem dX6_does_70 : decode cX6_does 70 = .ok (.getfield 7, 3) := by decide +kernel
theorem dX6_does_73 : decode cX6_does 73 = .ok (.iconst 0, 1) := by decide +kernel
theorem dX6_does_74 : decode cX6_does 74 = .ok (.iaload, 1) := by decide +kernel
theorem dX6_does_75 : decode cX6_does 75 = .ok (.idiv, 1) := by decide +kernel
theorem dX6_does_76 : decode cX6_does 76 = .ok (.iconst 2, 1) := by decide +kernel
theorem dX6_does_77 : decode cX6_does 77 = .ok (.irem, 1) := by decide +kernel
theorem dX6_does_78 : decode cX6_does 78 = .ok (.ifCond .eq 6, 3) := by decide +kernel
theorem dX6_does_81 : decode cX6_does 81 = .ok (.ldc 78, 2) := by decide +kernel
theorem dX6_does_83 : decode cX6_does 83 = .ok (.ireturn, 1) := by decide +kernel
theorem dX6_does_84 : decode cX6_does 84 = .ok (.iload 4, 2) := by decide +kernel
theorem dX6_does_86 : decode cX6_does 86 = .ok (.ifCond .eq 11, 3) := by decide +kernel
theorem dX6_does_89 : decode cX6_does 89 = .ok (.iload 5, 2) := by decide +kernel
theorem dX6_does_91 : decode cX6_does 91 = .ok (.iconst 2, 1) := by decide +kernel
theorem dX6_does_92 : decode cX6_does 92 = .ok (.idiv, 1) := by decide +kernel
theorem dX6_does_93 : decode cX6_does 93 = .ok (.i2l, 1) := by decide +kernel
theorem dX6_does_94 : decode cX6_does 94 = .ok (.goto 25, 3) := by decide +kernel
theorem dX6_does_97 : decode cX6_does 97 = .ok (.iload_n 1, 1) := by decide +kernel
theorem dX6_does_98 : decode cX6_does 98 = .ok (.iload 5, 2) := by decide +kernel
theorem dX6_does_100 : decode cX6_does 100 = .ok (.i2l, 1) := by decide +kernel
theorem dX6_does_101 : decode cX6_does 101 = .ok (.aload_n 0, 1) := by decide +kernel
theorem dX6_does_102 : decode cX6_does 102 = .ok (.getfield 7, 3) := by decide +kernel
theorem dX6_does_105 : decode cX6_does 105 = .ok (.iconst 2, 1) := by decide +kernel
theorem dX6_does_106 : decode cX6_does 106 = .ok (.iload_n 3, 1) := by decide +kernel
theorem dX6_does_107 : decode cX6_does 107 = .ok (.iadd, 1) := by decide +kernel
theorem dX6_does_108 : decode cX6_does 108 = .ok (.iaload, 1) := by decide +kernel
theorem dX6_does_109 : decode cX6_does 109 = .ok (.i2l, 1) := by decide +kernel
theorem dX6_does_110 : decode cX6_does 110 = .ok (.aload_n 0, 1) := by decide +kernel
theorem dX6_does_111 : decode cX6_does 111 = .ok (.getfield 7, 3) := by decide +kernel
theorem dX6_does_114 : decode cX6_does 114 = .ok (.iconst 0, 1) := by decide +kernel
theorem dX6_does_115 : decode cX6_does 115 = .ok (.iaload, 1) := by decide +kernel
theorem dX6_does_116 : decode cX6_does 116 = .ok (.invokestatic 79, 3) := by decide +kernel
theorem dX6_does_119 : decode cX6_does 119 = .ok (.lstore 6, 2) := by decide +kernel
theorem dX6_does_121 : decode cX6_does 121 = .ok (.lload 6, 2) := by decide +kernel
theorem dX6_does_123 : decode cX6_does 123 = .ok (.aload_n 0, 1) := by decide +kernel
theorem dX6_does_124 : decode cX6_does 124 = .ok (.invokevirtual 47, 3) := by decide +kernel
theorem dX6_does_127 : decode cX6_does 127 = .ok (.i2l, 1) := by decide +kernel
theorem dX6_does_128 : decode cX6_does 128 = .ok (.lcmp, 1) := by decide +kernel
theorem dX6_does_129 : decode cX6_does 129 = .ok (.ifCond .gt 15, 3) := by decide +kernel
theorem dX6_does_132 : decode cX6_does 132 = .ok (.lload 6, 2) := by decide +kernel
theorem dX6_does_134 : decode cX6_does 134 = .ok (.aload_n 0, 1) := by decide +kernel
theorem dX6_does_135 : decode cX6_does 135 = .ok (.invokevirtual 47, 3) := by decide +kernel
theorem dX6_does_138 : decode cX6_does 138 = .ok (.ineg, 1) := by decide +kernel
theorem dX6_does_139 : decode cX6_does 139 = .ok (.i2l, 1) := by decide +kernel
theorem dX6_does_140 : decode cX6_does 140 = .ok (.lcmp, 1) := by decide +kernel
theorem dX6_does_141 : decode cX6_does 141 = .ok (.ifCond .ge 6, 3) := by decide +kernel
theorem dX6_does_144 : decode cX6_does 144 = .ok (.ldc 83, 2) := by decide +kernel
theorem dX6_does_146 : decode cX6_does 146 = .ok (.ireturn, 1) := by decide +kernel
theorem dX6_does_147 : decode cX6_does 147 = .ok (.iload 4, 2) := by decide +kernel
theorem dX6_does_149 : decode cX6_does 149 = .ok (.ifCond .eq 20, 3) := by decide +kernel
theorem dX6_does_152 : decode cX6_does 152 = .ok (.ldc2_w 84, 3) := by decide +kernel
theorem dX6_does_155 : decode cX6_does 155 = .ok (.aload_n 0, 1) := by decide +kernel
theorem dX6_does_156 : decode cX6_does 156 = .ok (.getfield 7, 3) := by decide +kernel
theorem dX6_does_159 : decode cX6_does 159 = .ok (.bipush 6, 2) := by decide +kernel
theorem dX6_does_161 : decode cX6_does 161 = .ok (.iload_n 2, 1) := by decide +kernel
theorem dX6_does_162 : decode cX6_does 162 = .ok (.iadd, 1) := by decide +kernel
theorem dX6_does_163 : decode cX6_does 163 = .ok (.iaload, 1) := by decide +kernel
theorem dX6_does_164 : decode cX6_does 164 = .ok (.i2l, 1) := by decide +kernel
theorem dX6_does_165 : decode cX6_does 165 = .ok (.lmul, 1) := by decide +kernel
theorem dX6_does_166 : decode cX6_does 166 = .ok (.goto 28, 3) := by decide +kernel
theorem dX6_does_169 : decode cX6_does 169 = .ok (.iload_n 1, 1) := by decide +kernel
theorem dX6_does_170 : decode cX6_does 170 = .ok (.aload_n 0, 1) := by decide +kernel
theorem dX6_does_171 : decode cX6_does 171 = .ok (.getfield 7, 3) := by decide +kernel
theorem dX6_does_174 : decode cX6_does 174 = .ok (.bipush 6, 2) := by decide +kernel
theorem dX6_does_176 : decode cX6_does 176 = .ok (.iload_n 2, 1) := by decide +kernel
theorem dX6_does_177 : decode cX6_does 177 = .ok (.iadd, 1) := by decide +kernel
theorem dX6_does_178 : decode cX6_does 178 = .ok (.iaload, 1) := by decide +kernel
theorem dX6_does_179 : decode cX6_does 179 = .ok (.i2l, 1) := by decide +kernel
theorem dX6_does_180 : decode cX6_does 180 = .ok (.aload_n 0, 1) := by decide +kernel
theorem dX6_does_181 : decode cX6_does 181 = .ok (.getfield 7, 3) := by decide +kernel
theorem dX6_does_184 : decode cX6_does 184 = .ok (.bipush 6, 2) := by decide +kernel
theorem dX6_does_186 : decode cX6_does 186 = .ok (.iload_n 3, 1) := by decide +kernel
theorem dX6_does_187 : decode cX6_does 187 = .ok (.iadd, 1) := by decide +kernel
theorem dX6_does_188 : decode cX6_does 188 = .ok (.iaload, 1) := by decide +kernel
theorem dX6_does_189 : decode cX6_does 189 = .ok (.i2l, 1) := by decide +kernel
theorem dX6_does_190 : decode cX6_does 190 = .ok (.iconst 1, 1) := by decide +kernel
theorem dX6_does_191 : decode cX6_does 191 = .ok (.invokestatic 79, 3) := by decide +kernel
theorem dX6_does_194 : decode cX6_does 194 = .ok (.lstore 8, 2) := by decide +kernel
theorem dX6_does_196 : decode cX6_does 196 = .ok (.aload_n 0, 1) := by decide +kernel
theorem dX6_does_197 : decode cX6_does 197 = .ok (.invokevirtual 72, 3) := by decide +kernel
theorem dX6_does_200 : decode cX6_does 200 = .ok (.aload_n 0, 1) := by decide +kernel
theorem dX6_does_201 : decode cX6_does 201 = .ok (.getfield 7, 3) := by decide +kernel
theorem dX6_does_204 : decode cX6_does 204 = .ok (.iconst 2, 1) := by decide +kernel
theorem dX6_does_205 : decode cX6_does 205 = .ok (.iload_n 2, 1) := by decide +kernel
theorem dX6_does_206 : decode cX6_does 206 = .ok (.iadd, 1) := by decide +kernel
theorem dX6_does_207 : decode cX6_does 207 = .ok (.lload 6, 2) := by decide +kernel
theorem dX6_does_209 : decode cX6_does 209 = .ok (.l2i, 1) := by decide +kernel
theorem dX6_does_210 : decode cX6_does 210 = .ok (.iastore, 1) := by decide +kernel
theorem dX6_does_211 : decode cX6_does 211 = .ok (.aload_n 0, 1) := by decide +kernel
theorem dX6_does_212 : decode cX6_does 212 = .ok (.getfield 7, 3) := by decide +kernel
theorem dX6_does_215 : decode cX6_does 215 = .ok (.bipush 6, 2) := by decide +kernel
theorem dX6_does_217 : decode cX6_does 217 = .ok (.iload_n 2, 1) := by decide +kernel
theorem dX6_does_218 : decode cX6_does 218 = .ok (.iadd, 1) := by decide +kernel
theorem dX6_does_219 : decode cX6_does 219 = .ok (.lload 8, 2) := by decide +kernel
theorem dX6_does_221 : decode cX6_does 221 = .ok (.bipush 15, 2) := by decide +kernel
theorem dX6_does_223 : decode cX6_does 223 = .ok (.invokestatic 61, 3) := by decide +kernel
theorem dX6_does_226 : decode cX6_does 226 = .ok (.iastore, 1) := by decide +kernel
theorem dX6_does_227 : decode cX6_does 227 = .ok (.aload_n 0, 1) := by decide +kernel
theorem dX6_does_228 : decode cX6_does 228 = .ok (.getfield 7, 3) := by decide +kernel
theorem dX6_does_231 : decode cX6_does 231 = .ok (.iconst 2, 1) := by decide +kernel
theorem dX6_does_232 : decode cX6_does 232 = .ok (.iload_n 2, 1) := by decide +kernel
theorem dX6_does_233 : decode cX6_does 233 = .ok (.iadd, 1) := by decide +kernel
theorem dX6_does_234 : decode cX6_does 234 = .ok (.iaload, 1) := by decide +kernel
theorem dX6_does_235 : decode cX6_does 235 = .ok (.ireturn, 1) := by decide +kernel
set_option maxRecDepth 20000 in
theorem ggX6_strikes_X6_isRegister : GoodIn wsX6_strikes wsX6_isRegister := goodIn_r _ [8, 9, 10, 7, 11] (by decide +kernel) (by decide +kernel)
set_option maxRecDepth 20000 in
theorem gX6_strikes_X6_isRegister : GoodIn wsX6_strikes (va_wsS RX6 75 yX6_isRegister wsX6_isRegister) := goodIn_app (goodIn_of _ (by decide +kernel)) ggX6_strikes_X6_isRegister
set_option maxRecDepth 20000 in
theorem ggX6_strikes_X6_strikeMany : GoodIn wsX6_strikes wsX6_strikeMany := goodIn_r _ [15, 3, 29, 30, 31, 32, 33, 34, 35, 36, 37, 38, 39, 40] (by decide +kernel) (by decide +kernel)
set_option maxRecDepth 20000 in
theorem gX6_strikes_X6_strikeMany : GoodIn wsX6_strikes (wsV RX6 86 RX6 yX6_strikeMany wsX6_strikeMany) := goodIn_app (goodIn_of _ (by decide +kernel)) ggX6_strikes_X6_strikeMany
set_option maxRecDepth 20000 in
theorem ggX6_strikes_X6_in : GoodIn wsX6_strikes wsX6_in := goodIn_r _ [11] (by decide +kernel) (by decide +kernel)
set_option maxRecDepth 20000 in
theorem gX6_strikes_X6_in : GoodIn wsX6_strikes (va_wsS RX6 43 yX6_in wsX6_in) := goodIn_app (goodIn_of _ (by decide +kernel)) ggX6_strikes_X6_in
set_option maxRecDepth 20000 in
theorem ggX6_strikes_X6_by : GoodIn wsX6_strikes wsX6_by := goodIn_r _ [18] (by decide +kernel) (by decide +kernel)
set_option maxRecDepth 20000 in
theorem gX6_strikes_X6_by : GoodIn wsX6_strikes (va_wsS RX6 89 yX6_by wsX6_by) := goodIn_app (goodIn_of _ (by decide +kernel)) ggX6_strikes_X6_by
set_option maxRecDepth 20000 in
theorem ggX6_strikes_X6_top : GoodIn wsX6_strikes wsX6_top := goodIn_r _ [22, 3, 29, 30, 31, 32, 33, 34, 35, 36, 37, 38, 39, 40] (by decide +kernel) (by decide +kernel)
set_option maxRecDepth 20000 in
theorem gX6_strikes_X6_top : GoodIn wsX6_strikes (wsV RX6 47 RX6 yX6_top wsX6_top) := goodIn_app (goodIn_of _ (by decide +kernel)) ggX6_strikes_X6_top
set_option maxRecDepth 20000 in
theorem ggX6_strikes_X6_notes : GoodIn wsX6_strikes wsX6_notes := goodIn_r _ [26, 27, 28, 3, 29, 30, 31, 32, 33, 34, 35, 36, 37, 38, 39, 40] (by decide +kernel) (by decide +kernel)
set_option maxRecDepth 20000 in
theorem gX6_strikes_X6_notes : GoodIn wsX6_strikes (wsV RX6 72 RX6 yX6_notes wsX6_notes) := goodIn_app (goodIn_of _ (by decide +kernel)) ggX6_strikes_X6_notes
theorem dX6_strikes_0 : decode cX6_strikes 0 = .ok (.aload_n 0, 1) := by decide +kernel
theorem dX6_strikes_1 : decode cX6_strikes 1 = .ok (.iconst 0, 1) := by decide +kernel
theorem dX6_strikes_2 : decode cX6_strikes 2 = .ok (.putfield 39, 3) := by decide +kernel
theorem dX6_strikes_5 : decode cX6_strikes 5 = .ok (.iload_n 1, 1) := by decide +kernel
theorem dX6_strikes_6 : decode cX6_strikes 6 = .ok (.invokestatic 75, 3) := by decide +kernel
theorem dX6_strikes_9 : decode cX6_strikes 9 = .ok (.ifCond .eq 17, 3) := by decide +kernel
theorem dX6_strikes_12 : decode cX6_strikes 12 = .ok (.iload_n 2, 1) := by decide +kernel
theorem dX6_strikes_13 : decode cX6_strikes 13 = .ok (.iconst 0, 1) := by decide +kernel
theorem dX6_strikes_14 : decode cX6_strikes 14 = .ok (.aload_n 0, 1) := by decide +kernel
theorem dX6_strikes_15 : decode cX6_strikes 15 = .ok (.invokevirtual 86, 3) := by decide +kernel
theorem dX6_strikes_18 : decode cX6_strikes 18 = .ok (.iconst 1, 1) := by decide +kernel
theorem dX6_strikes_19 : decode cX6_strikes 19 = .ok (.isub, 1) := by decide +kernel
theorem dX6_strikes_20 : decode cX6_strikes 20 = .ok (.invokestatic 43, 3) := by decide +kernel
theorem dX6_strikes_23 : decode cX6_strikes 23 = .ok (.ifCond .ne 6, 3) := by decide +kernel
theorem dX6_strikes_26 : decode cX6_strikes 26 = .ok (.ldc 71, 2) := by decide +kernel
theorem dX6_strikes_28 : decode cX6_strikes 28 = .ok (.ireturn, 1) := by decide +kernel
theorem dX6_strikes_29 : decode cX6_strikes 29 = .ok (.aload_n 0, 1) := by decide +kernel
theorem dX6_strikes_30 : decode cX6_strikes 30 = .ok (.getfield 7, 3) := by decide +kernel
theorem dX6_strikes_33 : decode cX6_strikes 33 = .ok (.iconst 2, 1) := by decide +kernel
theorem dX6_strikes_34 : decode cX6_strikes 34 = .ok (.iload_n 1, 1) := by decide +kernel
theorem dX6_strikes_35 : decode cX6_strikes 35 = .ok (.iadd, 1) := by decide +kernel
theorem dX6_strikes_36 : decode cX6_strikes 36 = .ok (.iaload, 1) := by decide +kernel
theorem dX6_strikes_37 : decode cX6_strikes 37 = .ok (.iload_n 2, 1) := by decide +kernel
theorem dX6_strikes_38 : decode cX6_strikes 38 = .ok (.invokestatic 89, 3) := by decide +kernel
theorem dX6_strikes_41 : decode cX6_strikes 41 = .ok (.iadd, 1) := by decide +kernel
theorem dX6_strikes_42 : decode cX6_strikes 42 = .ok (.istore_n 3, 1) := by decide +kernel
theorem dX6_strikes_43 : decode cX6_strikes 43 = .ok (.iload_n 3, 1) := by decide +kernel
theorem dX6_strikes_44 : decode cX6_strikes 44 = .ok (.bipush (-2), 2) := by decide +kernel
theorem dX6_strikes_46 : decode cX6_strikes 46 = .ok (.aload_n 0, 1) := by decide +kernel
theorem dX6_strikes_47 : decode cX6_strikes 47 = .ok (.invokevirtual 47, 3) := by decide +kernel
theorem dX6_strikes_50 : decode cX6_strikes 50 = .ok (.imul, 1) := by decide +kernel
theorem dX6_strikes_51 : decode cX6_strikes 51 = .ok (.iconst 2, 1) := by decide +kernel
theorem dX6_strikes_52 : decode cX6_strikes 52 = .ok (.aload_n 0, 1) := by decide +kernel
theorem dX6_strikes_53 : decode cX6_strikes 53 = .ok (.invokevirtual 47, 3) := by decide +kernel
theorem dX6_strikes_56 : decode cX6_strikes 56 = .ok (.imul, 1) := by decide +kernel
theorem dX6_strikes_57 : decode cX6_strikes 57 = .ok (.invokestatic 43, 3) := by decide +kernel
theorem dX6_strikes_60 : decode cX6_strikes 60 = .ok (.ifCond .ne 6, 3) := by decide +kernel
theorem dX6_strikes_63 : decode cX6_strikes 63 = .ok (.ldc 78, 2) := by decide +kernel
theorem dX6_strikes_65 : decode cX6_strikes 65 = .ok (.ireturn, 1) := by decide +kernel
theorem dX6_strikes_66 : decode cX6_strikes 66 = .ok (.aload_n 0, 1) := by decide +kernel
theorem dX6_strikes_67 : decode cX6_strikes 67 = .ok (.invokevirtual 72, 3) := by decide +kernel
theorem dX6_strikes_70 : decode cX6_strikes 70 = .ok (.aload_n 0, 1) := by decide +kernel
theorem dX6_strikes_71 : decode cX6_strikes 71 = .ok (.getfield 7, 3) := by decide +kernel
theorem dX6_strikes_74 : decode cX6_strikes 74 = .ok (.iconst 2, 1) := by decide +kernel
theorem dX6_strikes_75 : decode cX6_strikes 75 = .ok (.iload_n 1, 1) := by decide +kernel
theorem dX6_strikes_76 : decode cX6_strikes 76 = .ok (.iadd, 1) := by decide +kernel
theorem dX6_strikes_77 : decode cX6_strikes 77 = .ok (.iload_n 3, 1) := by decide +kernel
theorem dX6_strikes_78 : decode cX6_strikes 78 = .ok (.iastore, 1) := by decide +kernel
theorem dX6_strikes_79 : decode cX6_strikes 79 = .ok (.iload_n 3, 1) := by decide +kernel
theorem dX6_strikes_80 : decode cX6_strikes 80 = .ok (.ireturn, 1) := by decide +kernel
set_option maxRecDepth 20000 in
theorem ggX6_bends_X6_isRegister : GoodIn wsX6_bends wsX6_isRegister := goodIn_r _ [7, 8, 9, 6, 10] (by decide +kernel) (by decide +kernel)
set_option maxRecDepth 20000 in
theorem gX6_bends_X6_isRegister : GoodIn wsX6_bends (va_wsS RX6 75 yX6_isRegister wsX6_isRegister) := goodIn_app (goodIn_of _ (by decide +kernel)) ggX6_bends_X6_isRegister
set_option maxRecDepth 20000 in
theorem ggX6_bends_X6_in : GoodIn wsX6_bends wsX6_in := goodIn_r _ [10] (by decide +kernel) (by decide +kernel)
set_option maxRecDepth 20000 in
theorem gX6_bends_X6_in : GoodIn wsX6_bends (va_wsS RX6 43 yX6_in wsX6_in) := goodIn_app (goodIn_of _ (by decide +kernel)) ggX6_bends_X6_in
set_option maxRecDepth 20000 in
theorem ggX6_bends_X6_notes : GoodIn wsX6_bends wsX6_notes := goodIn_r _ [14, 15, 16, 3, 17, 18, 19, 20, 21, 22, 23, 24, 25, 26, 27, 28] (by decide +kernel) (by decide +kernel)
set_option maxRecDepth 20000 in
theorem gX6_bends_X6_notes : GoodIn wsX6_bends (wsV RX6 72 RX6 yX6_notes wsX6_notes) := goodIn_app (goodIn_of _ (by decide +kernel)) ggX6_bends_X6_notes
theorem dX6_bends_0 : decode cX6_bends 0 = .ok (.aload_n 0, 1) := by decide +kernel
theorem dX6_bends_1 : decode cX6_bends 1 = .ok (.iconst 0, 1) := by decide +kernel
theorem dX6_bends_2 : decode cX6_bends 2 = .ok (.putfield 39, 3) := by decide +kernel
theorem dX6_bends_5 : decode cX6_bends 5 = .ok (.iload_n 1, 1) := by decide +kernel
theorem dX6_bends_6 : decode cX6_bends 6 = .ok (.invokestatic 75, 3) := by decide +kernel
theorem dX6_bends_9 : decode cX6_bends 9 = .ok (.ifCond .eq 13, 3) := by decide +kernel
theorem dX6_bends_12 : decode cX6_bends 12 = .ok (.iload_n 2, 1) := by decide +kernel
theorem dX6_bends_13 : decode cX6_bends 13 = .ok (.iconst 1, 1) := by decide +kernel
theorem dX6_bends_14 : decode cX6_bends 14 = .ok (.bipush 14, 2) := by decide +kernel
theorem dX6_bends_16 : decode cX6_bends 16 = .ok (.invokestatic 43, 3) := by decide +kernel
theorem dX6_bends_19 : decode cX6_bends 19 = .ok (.ifCond .ne 6, 3) := by decide +kernel
theorem dX6_bends_22 : decode cX6_bends 22 = .ok (.ldc 71, 2) := by decide +kernel
theorem dX6_bends_24 : decode cX6_bends 24 = .ok (.ireturn, 1) := by decide +kernel
theorem dX6_bends_25 : decode cX6_bends 25 = .ok (.aload_n 0, 1) := by decide +kernel
theorem dX6_bends_26 : decode cX6_bends 26 = .ok (.invokevirtual 72, 3) := by decide +kernel
theorem dX6_bends_29 : decode cX6_bends 29 = .ok (.aload_n 0, 1) := by decide +kernel
theorem dX6_bends_30 : decode cX6_bends 30 = .ok (.getfield 7, 3) := by decide +kernel
theorem dX6_bends_33 : decode cX6_bends 33 = .ok (.bipush 6, 2) := by decide +kernel
theorem dX6_bends_35 : decode cX6_bends 35 = .ok (.iload_n 1, 1) := by decide +kernel
theorem dX6_bends_36 : decode cX6_bends 36 = .ok (.iadd, 1) := by decide +kernel
theorem dX6_bends_37 : decode cX6_bends 37 = .ok (.aload_n 0, 1) := by decide +kernel
theorem dX6_bends_38 : decode cX6_bends 38 = .ok (.getfield 7, 3) := by decide +kernel
theorem dX6_bends_41 : decode cX6_bends 41 = .ok (.bipush 6, 2) := by decide +kernel
theorem dX6_bends_43 : decode cX6_bends 43 = .ok (.iload_n 1, 1) := by decide +kernel
theorem dX6_bends_44 : decode cX6_bends 44 = .ok (.iadd, 1) := by decide +kernel
theorem dX6_bends_45 : decode cX6_bends 45 = .ok (.iaload, 1) := by decide +kernel
theorem dX6_bends_46 : decode cX6_bends 46 = .ok (.iload_n 2, 1) := by decide +kernel
theorem dX6_bends_47 : decode cX6_bends 47 = .ok (.iadd, 1) := by decide +kernel
theorem dX6_bends_48 : decode cX6_bends 48 = .ok (.bipush 15, 2) := by decide +kernel
theorem dX6_bends_50 : decode cX6_bends 50 = .ok (.irem, 1) := by decide +kernel
theorem dX6_bends_51 : decode cX6_bends 51 = .ok (.iastore, 1) := by decide +kernel
theorem dX6_bends_52 : decode cX6_bends 52 = .ok (.aload_n 0, 1) := by decide +kernel
theorem dX6_bends_53 : decode cX6_bends 53 = .ok (.getfield 7, 3) := by decide +kernel
theorem dX6_bends_56 : decode cX6_bends 56 = .ok (.bipush 6, 2) := by decide +kernel
theorem dX6_bends_58 : decode cX6_bends 58 = .ok (.iload_n 1, 1) := by decide +kernel
theorem dX6_bends_59 : decode cX6_bends 59 = .ok (.iadd, 1) := by decide +kernel
theorem dX6_bends_60 : decode cX6_bends 60 = .ok (.iaload, 1) := by decide +kernel
theorem dX6_bends_61 : decode cX6_bends 61 = .ok (.ireturn, 1) := by decide +kernel
set_option maxRecDepth 20000 in
theorem ggX6_isCause_X6_by : GoodIn wsX6_isCause wsX6_by := goodIn_r _ [5] (by decide +kernel) (by decide +kernel)
set_option maxRecDepth 20000 in
theorem gX6_isCause_X6_by : GoodIn wsX6_isCause (va_wsS RX6 89 yX6_by wsX6_by) := goodIn_app (goodIn_of _ (by decide +kernel)) ggX6_isCause_X6_by
set_option maxRecDepth 20000 in
theorem ggX6_isCause_X6_isRight : GoodIn wsX6_isCause wsX6_isRight := goodIn_r _ [9, 1, 10, 11, 12, 4, 13, 14, 15, 16, 17, 18, 19, 20, 21, 22, 23, 24, 25, 26, 27, 28, 29, 30, 31, 32, 33, 34, 35, 36, 37, 38, 39, 40, 41, 42, 43] (by decide +kernel) (by decide +kernel)
set_option maxRecDepth 20000 in
theorem gX6_isCause_X6_isRight : GoodIn wsX6_isCause (wsV RX6 93 RX6 yX6_isRight wsX6_isRight) := goodIn_app (goodIn_of _ (by decide +kernel)) ggX6_isCause_X6_isRight
theorem dX6_isCause_0 : decode cX6_isCause 0 = .ok (.aload_n 0, 1) := by decide +kernel
theorem dX6_isCause_1 : decode cX6_isCause 1 = .ok (.aload_n 0, 1) := by decide +kernel
theorem dX6_isCause_2 : decode cX6_isCause 2 = .ok (.getfield 7, 3) := by decide +kernel
theorem dX6_isCause_5 : decode cX6_isCause 5 = .ok (.iconst 2, 1) := by decide +kernel
theorem dX6_isCause_6 : decode cX6_isCause 6 = .ok (.iload_n 1, 1) := by decide +kernel
theorem dX6_isCause_7 : decode cX6_isCause 7 = .ok (.iadd, 1) := by decide +kernel
theorem dX6_isCause_8 : decode cX6_isCause 8 = .ok (.iaload, 1) := by decide +kernel
theorem dX6_isCause_9 : decode cX6_isCause 9 = .ok (.iload_n 2, 1) := by decide +kernel
theorem dX6_isCause_10 : decode cX6_isCause 10 = .ok (.invokestatic 89, 3) := by decide +kernel
theorem dX6_isCause_13 : decode cX6_isCause 13 = .ok (.isub, 1) := by decide +kernel
theorem dX6_isCause_14 : decode cX6_isCause 14 = .ok (.aload_n 0, 1) := by decide +kernel
theorem dX6_isCause_15 : decode cX6_isCause 15 = .ok (.getfield 7, 3) := by decide +kernel
theorem dX6_isCause_18 : decode cX6_isCause 18 = .ok (.bipush 6, 2) := by decide +kernel
theorem dX6_isCause_20 : decode cX6_isCause 20 = .ok (.iload_n 1, 1) := by decide +kernel
theorem dX6_isCause_21 : decode cX6_isCause 21 = .ok (.iadd, 1) := by decide +kernel
theorem dX6_isCause_22 : decode cX6_isCause 22 = .ok (.iaload, 1) := by decide +kernel
theorem dX6_isCause_23 : decode cX6_isCause 23 = .ok (.invokevirtual 93, 3) := by decide +kernel
theorem dX6_isCause_26 : decode cX6_isCause 26 = .ok (.ireturn, 1) := by decide +kernel
set_option maxRecDepth 20000 in
theorem ggX6_causes_X6_strikeMany : GoodIn wsX6_causes wsX6_strikeMany := goodIn_r _ [6, 1, 40, 41, 42, 43, 44, 45, 46, 47, 48, 49, 50, 51] (by decide +kernel) (by decide +kernel)
set_option maxRecDepth 20000 in
theorem gX6_causes_X6_strikeMany : GoodIn wsX6_causes (wsV RX6 86 RX6 yX6_strikeMany wsX6_strikeMany) := goodIn_app (goodIn_of _ (by decide +kernel)) ggX6_causes_X6_strikeMany
set_option maxRecDepth 20000 in
theorem ggX6_causes_X6_isInReach : GoodIn wsX6_causes wsX6_isInReach := goodIn_r _ [10, 1, 11, 12, 13, 5, 14, 15, 16, 17, 18, 19, 20, 21, 22, 23, 24, 25, 40, 41, 42, 43, 44, 45, 46, 47, 48, 49, 50, 51] (by decide +kernel) (by decide +kernel)
set_option maxRecDepth 20000 in
theorem gX6_causes_X6_isInReach : GoodIn wsX6_causes (wsV RX6 58 RX6 yX6_isInReach wsX6_isInReach) := goodIn_app (goodIn_of _ (by decide +kernel)) ggX6_causes_X6_isInReach
set_option maxRecDepth 20000 in
theorem ggX6_causes_X6_isCause : GoodIn wsX6_causes wsX6_isCause := goodIn_r _ [29, 1, 30, 31, 5, 32, 33, 34, 35, 36, 7, 8, 9, 10, 11, 12, 13, 14, 15, 16, 17, 18, 19, 20, 21, 22, 23, 24, 25, 37, 38, 39, 40, 41, 42, 43, 44, 45, 46, 47, 48, 49, 50, 51] (by decide +kernel) (by decide +kernel)
set_option maxRecDepth 20000 in
theorem gX6_causes_X6_isCause : GoodIn wsX6_causes (wsV RX6 97 RX6 yX6_isCause wsX6_isCause) := goodIn_app (goodIn_of _ (by decide +kernel)) ggX6_causes_X6_isCause
theorem dX6_causes_0 : decode cX6_causes 0 = .ok (.iconst 0, 1) := by decide +kernel
theorem dX6_causes_1 : decode cX6_causes 1 = .ok (.istore_n 2, 1) := by decide +kernel
theorem dX6_causes_2 : decode cX6_causes 2 = .ok (.iconst 0, 1) := by decide +kernel
theorem dX6_causes_3 : decode cX6_causes 3 = .ok (.istore_n 3, 1) := by decide +kernel
theorem dX6_causes_4 : decode cX6_causes 4 = .ok (.iload_n 3, 1) := by decide +kernel
theorem dX6_causes_5 : decode cX6_causes 5 = .ok (.aload_n 0, 1) := by decide +kernel
theorem dX6_causes_6 : decode cX6_causes 6 = .ok (.invokevirtual 86, 3) := by decide +kernel
theorem dX6_causes_9 : decode cX6_causes 9 = .ok (.if_icmp .ge 41, 3) := by decide +kernel
theorem dX6_causes_12 : decode cX6_causes 12 = .ok (.aload_n 0, 1) := by decide +kernel
theorem dX6_causes_13 : decode cX6_causes 13 = .ok (.aload_n 0, 1) := by decide +kernel
theorem dX6_causes_14 : decode cX6_causes 14 = .ok (.getfield 7, 3) := by decide +kernel
theorem dX6_causes_17 : decode cX6_causes 17 = .ok (.iconst 2, 1) := by decide +kernel
theorem dX6_causes_18 : decode cX6_causes 18 = .ok (.iload_n 1, 1) := by decide +kernel
theorem dX6_causes_19 : decode cX6_causes 19 = .ok (.iadd, 1) := by decide +kernel
theorem dX6_causes_20 : decode cX6_causes 20 = .ok (.iaload, 1) := by decide +kernel
theorem dX6_causes_21 : decode cX6_causes 21 = .ok (.invokevirtual 58, 3) := by decide +kernel
theorem dX6_causes_24 : decode cX6_causes 24 = .ok (.ifCond .ne 26, 3) := by decide +kernel
theorem dX6_causes_27 : decode cX6_causes 27 = .ok (.iload_n 2, 1) := by decide +kernel
theorem dX6_causes_28 : decode cX6_causes 28 = .ok (.aload_n 0, 1) := by decide +kernel
theorem dX6_causes_29 : decode cX6_causes 29 = .ok (.iload_n 1, 1) := by decide +kernel
theorem dX6_causes_30 : decode cX6_causes 30 = .ok (.iload_n 3, 1) := by decide +kernel
theorem dX6_causes_31 : decode cX6_causes 31 = .ok (.invokevirtual 97, 3) := by decide +kernel
theorem dX6_causes_34 : decode cX6_causes 34 = .ok (.ifCond .eq 7, 3) := by decide +kernel
theorem dX6_causes_37 : decode cX6_causes 37 = .ok (.iconst 1, 1) := by decide +kernel
theorem dX6_causes_38 : decode cX6_causes 38 = .ok (.goto 4, 3) := by decide +kernel
theorem dX6_causes_41 : decode cX6_causes 41 = .ok (.iconst 0, 1) := by decide +kernel
theorem dX6_causes_42 : decode cX6_causes 42 = .ok (.iadd, 1) := by decide +kernel
theorem dX6_causes_43 : decode cX6_causes 43 = .ok (.istore_n 2, 1) := by decide +kernel
theorem dX6_causes_44 : decode cX6_causes 44 = .ok (.iinc 3 1, 3) := by decide +kernel
theorem dX6_causes_47 : decode cX6_causes 47 = .ok (.goto (-43), 3) := by decide +kernel
theorem dX6_causes_50 : decode cX6_causes 50 = .ok (.iload_n 2, 1) := by decide +kernel
theorem dX6_causes_51 : decode cX6_causes 51 = .ok (.ireturn, 1) := by decide +kernel
set_option maxRecDepth 20000 in
theorem ggX6_firstCause_X6_isCause : GoodIn wsX6_firstCause wsX6_isCause := goodIn_r _ [5, 6, 7, 8, 4, 9, 10, 11, 12, 13, 14, 15, 16, 17, 18, 19, 20, 21, 22, 23, 24, 25, 26, 27, 28, 29, 30, 31, 32, 33, 34, 35, 36, 37, 38, 39, 40, 41, 42, 43, 44, 45, 46, 47] (by decide +kernel) (by decide +kernel)
set_option maxRecDepth 20000 in
theorem gX6_firstCause_X6_isCause : GoodIn wsX6_firstCause (wsV RX6 97 RX6 yX6_isCause wsX6_isCause) := goodIn_app (goodIn_of _ (by decide +kernel)) ggX6_firstCause_X6_isCause
theorem dX6_firstCause_0 : decode cX6_firstCause 0 = .ok (.iconst 0, 1) := by decide +kernel
theorem dX6_firstCause_1 : decode cX6_firstCause 1 = .ok (.istore_n 2, 1) := by decide +kernel
theorem dX6_firstCause_2 : decode cX6_firstCause 2 = .ok (.aload_n 0, 1) := by decide +kernel
theorem dX6_firstCause_3 : decode cX6_firstCause 3 = .ok (.iload_n 1, 1) := by decide +kernel
theorem dX6_firstCause_4 : decode cX6_firstCause 4 = .ok (.iload_n 2, 1) := by decide +kernel
theorem dX6_firstCause_5 : decode cX6_firstCause 5 = .ok (.invokevirtual 97, 3) := by decide +kernel
theorem dX6_firstCause_8 : decode cX6_firstCause 8 = .ok (.ifCond .ne 9, 3) := by decide +kernel
theorem dX6_firstCause_11 : decode cX6_firstCause 11 = .ok (.iinc 2 1, 3) := by decide +kernel
theorem dX6_firstCause_14 : decode cX6_firstCause 14 = .ok (.goto (-12), 3) := by decide +kernel
theorem dX6_firstCause_17 : decode cX6_firstCause 17 = .ok (.iload_n 2, 1) := by decide +kernel
theorem dX6_firstCause_18 : decode cX6_firstCause 18 = .ok (.ireturn, 1) := by decide +kernel
set_option maxRecDepth 20000 in
theorem ggX6_verdict_X6_isInReach : GoodIn wsX6_verdict wsX6_isInReach := goodIn_r _ [6, 1, 7, 8, 9, 5, 10, 11, 12, 13, 14, 15, 16, 17, 18, 19, 20, 21, 44, 45, 46, 47, 48, 49, 50, 51, 52, 53, 54, 55] (by decide +kernel) (by decide +kernel)
set_option maxRecDepth 20000 in
theorem gX6_verdict_X6_isInReach : GoodIn wsX6_verdict (wsV RX6 58 RX6 yX6_isInReach wsX6_isInReach) := goodIn_app (goodIn_of _ (by decide +kernel)) ggX6_verdict_X6_isInReach
set_option maxRecDepth 20000 in
theorem ggX6_verdict_X6_isRight : GoodIn wsX6_verdict wsX6_isRight := goodIn_r _ [25, 1, 2, 3, 4, 5, 6, 7, 8, 9, 10, 11, 12, 13, 14, 15, 16, 17, 18, 19, 20, 21, 26, 27, 28, 44, 45, 46, 47, 48, 49, 50, 51, 52, 53, 54, 55] (by decide +kernel) (by decide +kernel)
set_option maxRecDepth 20000 in
theorem gX6_verdict_X6_isRight : GoodIn wsX6_verdict (wsV RX6 93 RX6 yX6_isRight wsX6_isRight) := goodIn_app (goodIn_of _ (by decide +kernel)) ggX6_verdict_X6_isRight
set_option maxRecDepth 20000 in
theorem ggX6_verdict_X6_causes : GoodIn wsX6_verdict wsX6_causes := goodIn_r _ [32, 1, 33, 34, 35, 5, 36, 2, 3, 4, 6, 7, 8, 9, 10, 11, 12, 13, 14, 15, 16, 17, 18, 19, 20, 21, 37, 38, 39, 40, 41, 42, 43, 22, 23, 24, 25, 26, 27, 28, 44, 45, 46, 47, 48, 49, 50, 51, 52, 53, 54, 55] (by decide +kernel) (by decide +kernel)
set_option maxRecDepth 20000 in
theorem gX6_verdict_X6_causes : GoodIn wsX6_verdict (wsV RX6 100 RX6 yX6_causes wsX6_causes) := goodIn_app (goodIn_of _ (by decide +kernel)) ggX6_verdict_X6_causes
theorem dX6_verdict_0 : decode cX6_verdict 0 = .ok (.aload_n 0, 1) := by decide +kernel
theorem dX6_verdict_1 : decode cX6_verdict 1 = .ok (.aload_n 0, 1) := by decide +kernel
theorem dX6_verdict_2 : decode cX6_verdict 2 = .ok (.getfield 7, 3) := by decide +kernel
theorem dX6_verdict_5 : decode cX6_verdict 5 = .ok (.iconst 2, 1) := by decide +kernel
theorem dX6_verdict_6 : decode cX6_verdict 6 = .ok (.iload_n 1, 1) := by decide +kernel
theorem dX6_verdict_7 : decode cX6_verdict 7 = .ok (.iadd, 1) := by decide +kernel
theorem dX6_verdict_8 : decode cX6_verdict 8 = .ok (.iaload, 1) := by decide +kernel
theorem dX6_verdict_9 : decode cX6_verdict 9 = .ok (.invokevirtual 58, 3) := by decide +kernel
theorem dX6_verdict_12 : decode cX6_verdict 12 = .ok (.ifCond .eq 33, 3) := by decide +kernel
theorem dX6_verdict_15 : decode cX6_verdict 15 = .ok (.aload_n 0, 1) := by decide +kernel
theorem dX6_verdict_16 : decode cX6_verdict 16 = .ok (.aload_n 0, 1) := by decide +kernel
theorem dX6_verdict_17 : decode cX6_verdict 17 = .ok (.getfield 7, 3) := by decide +kernel
theorem dX6_verdict_20 : decode cX6_verdict 20 = .ok (.iconst 2, 1) := by decide +kernel
theorem dX6_verdict_21 : decode cX6_verdict 21 = .ok (.iload_n 1, 1) := by decide +kernel
theorem dX6_verdict_22 : decode cX6_verdict 22 = .ok (.iadd, 1) := by decide +kernel
theorem dX6_verdict_23 : decode cX6_verdict 23 = .ok (.iaload, 1) := by decide +kernel
theorem dX6_verdict_24 : decode cX6_verdict 24 = .ok (.aload_n 0, 1) := by decide +kernel
theorem dX6_verdict_25 : decode cX6_verdict 25 = .ok (.getfield 7, 3) := by decide +kernel
theorem dX6_verdict_28 : decode cX6_verdict 28 = .ok (.bipush 6, 2) := by decide +kernel
theorem dX6_verdict_30 : decode cX6_verdict 30 = .ok (.iload_n 1, 1) := by decide +kernel
theorem dX6_verdict_31 : decode cX6_verdict 31 = .ok (.iadd, 1) := by decide +kernel
theorem dX6_verdict_32 : decode cX6_verdict 32 = .ok (.iaload, 1) := by decide +kernel
theorem dX6_verdict_33 : decode cX6_verdict 33 = .ok (.invokevirtual 93, 3) := by decide +kernel
theorem dX6_verdict_36 : decode cX6_verdict 36 = .ok (.ifCond .eq 7, 3) := by decide +kernel
theorem dX6_verdict_39 : decode cX6_verdict 39 = .ok (.iconst 0, 1) := by decide +kernel
theorem dX6_verdict_40 : decode cX6_verdict 40 = .ok (.goto 4, 3) := by decide +kernel
theorem dX6_verdict_43 : decode cX6_verdict 43 = .ok (.iconst 1, 1) := by decide +kernel
theorem dX6_verdict_44 : decode cX6_verdict 44 = .ok (.ireturn, 1) := by decide +kernel
theorem dX6_verdict_45 : decode cX6_verdict 45 = .ok (.aload_n 0, 1) := by decide +kernel
theorem dX6_verdict_46 : decode cX6_verdict 46 = .ok (.iload_n 1, 1) := by decide +kernel
theorem dX6_verdict_47 : decode cX6_verdict 47 = .ok (.invokevirtual 100, 3) := by decide +kernel
theorem dX6_verdict_50 : decode cX6_verdict 50 = .ok (.iconst 1, 1) := by decide +kernel
theorem dX6_verdict_51 : decode cX6_verdict 51 = .ok (.if_icmp .ne 7, 3) := by decide +kernel
theorem dX6_verdict_54 : decode cX6_verdict 54 = .ok (.iconst 2, 1) := by decide +kernel
theorem dX6_verdict_55 : decode cX6_verdict 55 = .ok (.goto 4, 3) := by decide +kernel
theorem dX6_verdict_58 : decode cX6_verdict 58 = .ok (.iconst 3, 1) := by decide +kernel
theorem dX6_verdict_59 : decode cX6_verdict 59 = .ok (.ireturn, 1) := by decide +kernel
set_option maxRecDepth 20000 in
theorem ggX6_mends_X6_isRegister : GoodIn wsX6_mends wsX6_isRegister := goodIn_r _ [8, 9, 10, 7, 11] (by decide +kernel) (by decide +kernel)
set_option maxRecDepth 20000 in
theorem gX6_mends_X6_isRegister : GoodIn wsX6_mends (va_wsS RX6 75 yX6_isRegister wsX6_isRegister) := goodIn_app (goodIn_of _ (by decide +kernel)) ggX6_mends_X6_isRegister
set_option maxRecDepth 20000 in
theorem ggX6_mends_X6_verdict : GoodIn wsX6_mends wsX6_verdict := goodIn_r _ [15, 4, 16, 17, 18, 7, 19, 20, 21, 22, 23, 24, 25, 26, 27, 28, 29, 30, 31, 9, 10, 11, 32, 33, 34, 35, 36, 37, 38, 39, 40, 41, 42, 43, 44, 45, 46, 47, 48, 49, 50, 51, 52, 53, 64, 65, 66, 67, 68, 69, 70, 71, 72, 73, 74, 75] (by decide +kernel) (by decide +kernel)
set_option maxRecDepth 20000 in
theorem gX6_mends_X6_verdict : GoodIn wsX6_mends (wsV RX6 103 RX6 yX6_verdict wsX6_verdict) := goodIn_app (goodIn_of _ (by decide +kernel)) ggX6_mends_X6_verdict
set_option maxRecDepth 20000 in
theorem ggX6_mends_X6_notes : GoodIn wsX6_mends wsX6_notes := goodIn_r _ [57, 58, 59, 4, 64, 65, 66, 67, 68, 69, 70, 71, 72, 73, 74, 75] (by decide +kernel) (by decide +kernel)
set_option maxRecDepth 20000 in
theorem gX6_mends_X6_notes : GoodIn wsX6_mends (wsV RX6 72 RX6 yX6_notes wsX6_notes) := goodIn_app (goodIn_of _ (by decide +kernel)) ggX6_mends_X6_notes
set_option maxRecDepth 20000 in
theorem ggX6_mends_X6_rest : GoodIn wsX6_mends wsX6_rest := goodIn_r _ [38] (by decide +kernel) (by decide +kernel)
set_option maxRecDepth 20000 in
theorem gX6_mends_X6_rest : GoodIn wsX6_mends (va_wsS RX6 61 yX6_rest wsX6_rest) := goodIn_app (goodIn_of _ (by decide +kernel)) ggX6_mends_X6_rest
set_option maxRecDepth 20000 in
theorem ggX6_mends_X6_firstCause : GoodIn wsX6_mends wsX6_firstCause := goodIn_r _ [63, 47, 48, 49, 7, 50, 4, 51, 52, 53, 32, 33, 34, 35, 16, 17, 18, 19, 20, 21, 22, 23, 24, 25, 26, 27, 28, 29, 30, 31, 9, 10, 11, 36, 37, 38, 64, 65, 66, 67, 68, 69, 70, 71, 72, 73, 74, 75] (by decide +kernel) (by decide +kernel)
set_option maxRecDepth 20000 in
theorem gX6_mends_X6_firstCause : GoodIn wsX6_mends (wsV RX6 107 RX6 yX6_firstCause wsX6_firstCause) := goodIn_app (goodIn_of _ (by decide +kernel)) ggX6_mends_X6_firstCause
set_option maxRecDepth 20000 in
theorem ggX6_mends_X6_by : GoodIn wsX6_mends wsX6_by := goodIn_r _ [53] (by decide +kernel) (by decide +kernel)
set_option maxRecDepth 20000 in
theorem gX6_mends_X6_by : GoodIn wsX6_mends (va_wsS RX6 89 yX6_by wsX6_by) := goodIn_app (goodIn_of _ (by decide +kernel)) ggX6_mends_X6_by
theorem dX6_mends_0 : decode cX6_mends 0 = .ok (.aload_n 0, 1) := by decide +kernel
theorem dX6_mends_1 : decode cX6_mends 1 = .ok (.iconst 0, 1) := by decide +kernel
theorem dX6_mends_2 : decode cX6_mends 2 = .ok (.putfield 39, 3) := by decide +kernel
theorem dX6_mends_5 : decode cX6_mends 5 = .ok (.iload_n 1, 1) := by decide +kernel
theorem dX6_mends_6 : decode cX6_mends 6 = .ok (.invokestatic 75, 3) := by decide +kernel
theorem dX6_mends_9 : decode cX6_mends 9 = .ok (.ifCond .ne 6, 3) := by decide +kernel
theorem dX6_mends_12 : decode cX6_mends 12 = .ok (.ldc 71, 2) := by decide +kernel
theorem dX6_mends_14 : decode cX6_mends 14 = .ok (.ireturn, 1) := by decide +kernel
theorem dX6_mends_15 : decode cX6_mends 15 = .ok (.aload_n 0, 1) := by decide +kernel
theorem dX6_mends_16 : decode cX6_mends 16 = .ok (.iload_n 1, 1) := by decide +kernel
theorem dX6_mends_17 : decode cX6_mends 17 = .ok (.invokevirtual 103, 3) := by decide +kernel
theorem dX6_mends_20 : decode cX6_mends 20 = .ok (.istore_n 2, 1) := by decide +kernel
theorem dX6_mends_21 : decode cX6_mends 21 = .ok (.iload_n 2, 1) := by decide +kernel
theorem dX6_mends_22 : decode cX6_mends 22 = .ok (.ifCond .ne 5, 3) := by decide +kernel
theorem dX6_mends_25 : decode cX6_mends 25 = .ok (.iconst 0, 1) := by decide +kernel
theorem dX6_mends_26 : decode cX6_mends 26 = .ok (.ireturn, 1) := by decide +kernel
theorem dX6_mends_27 : decode cX6_mends 27 = .ok (.iload_n 2, 1) := by decide +kernel
theorem dX6_mends_28 : decode cX6_mends 28 = .ok (.iconst 3, 1) := by decide +kernel
theorem dX6_mends_29 : decode cX6_mends 29 = .ok (.if_icmp .ne 6, 3) := by decide +kernel
theorem dX6_mends_32 : decode cX6_mends 32 = .ok (.ldc 106, 2) := by decide +kernel
theorem dX6_mends_34 : decode cX6_mends 34 = .ok (.ireturn, 1) := by decide +kernel
theorem dX6_mends_35 : decode cX6_mends 35 = .ok (.aload_n 0, 1) := by decide +kernel
theorem dX6_mends_36 : decode cX6_mends 36 = .ok (.invokevirtual 72, 3) := by decide +kernel
theorem dX6_mends_39 : decode cX6_mends 39 = .ok (.iload_n 2, 1) := by decide +kernel
theorem dX6_mends_40 : decode cX6_mends 40 = .ok (.iconst 1, 1) := by decide +kernel
theorem dX6_mends_41 : decode cX6_mends 41 = .ok (.if_icmp .ne 35, 3) := by decide +kernel
theorem dX6_mends_44 : decode cX6_mends 44 = .ok (.aload_n 0, 1) := by decide +kernel
theorem dX6_mends_45 : decode cX6_mends 45 = .ok (.getfield 7, 3) := by decide +kernel
theorem dX6_mends_48 : decode cX6_mends 48 = .ok (.bipush 6, 2) := by decide +kernel
theorem dX6_mends_50 : decode cX6_mends 50 = .ok (.iload_n 1, 1) := by decide +kernel
theorem dX6_mends_51 : decode cX6_mends 51 = .ok (.iadd, 1) := by decide +kernel
theorem dX6_mends_52 : decode cX6_mends 52 = .ok (.aload_n 0, 1) := by decide +kernel
theorem dX6_mends_53 : decode cX6_mends 53 = .ok (.getfield 7, 3) := by decide +kernel
theorem dX6_mends_56 : decode cX6_mends 56 = .ok (.iconst 2, 1) := by decide +kernel
theorem dX6_mends_57 : decode cX6_mends 57 = .ok (.iload_n 1, 1) := by decide +kernel
theorem dX6_mends_58 : decode cX6_mends 58 = .ok (.iadd, 1) := by decide +kernel
theorem dX6_mends_59 : decode cX6_mends 59 = .ok (.iaload, 1) := by decide +kernel
theorem dX6_mends_60 : decode cX6_mends 60 = .ok (.aload_n 0, 1) := by decide +kernel
theorem dX6_mends_61 : decode cX6_mends 61 = .ok (.getfield 7, 3) := by decide +kernel
theorem dX6_mends_64 : decode cX6_mends 64 = .ok (.iconst 0, 1) := by decide +kernel
theorem dX6_mends_65 : decode cX6_mends 65 = .ok (.iaload, 1) := by decide +kernel
theorem dX6_mends_66 : decode cX6_mends 66 = .ok (.idiv, 1) := by decide +kernel
theorem dX6_mends_67 : decode cX6_mends 67 = .ok (.i2l, 1) := by decide +kernel
theorem dX6_mends_68 : decode cX6_mends 68 = .ok (.bipush 15, 2) := by decide +kernel
theorem dX6_mends_70 : decode cX6_mends 70 = .ok (.invokestatic 61, 3) := by decide +kernel
theorem dX6_mends_73 : decode cX6_mends 73 = .ok (.iastore, 1) := by decide +kernel
theorem dX6_mends_74 : decode cX6_mends 74 = .ok (.iconst 1, 1) := by decide +kernel
theorem dX6_mends_75 : decode cX6_mends 75 = .ok (.ireturn, 1) := by decide +kernel
theorem dX6_mends_76 : decode cX6_mends 76 = .ok (.aload_n 0, 1) := by decide +kernel
theorem dX6_mends_77 : decode cX6_mends 77 = .ok (.iload_n 1, 1) := by decide +kernel
theorem dX6_mends_78 : decode cX6_mends 78 = .ok (.invokevirtual 107, 3) := by decide +kernel
theorem dX6_mends_81 : decode cX6_mends 81 = .ok (.istore_n 3, 1) := by decide +kernel
theorem dX6_mends_82 : decode cX6_mends 82 = .ok (.aload_n 0, 1) := by decide +kernel
theorem dX6_mends_83 : decode cX6_mends 83 = .ok (.getfield 7, 3) := by decide +kernel
theorem dX6_mends_86 : decode cX6_mends 86 = .ok (.iconst 2, 1) := by decide +kernel
theorem dX6_mends_87 : decode cX6_mends 87 = .ok (.iload_n 1, 1) := by decide +kernel
theorem dX6_mends_88 : decode cX6_mends 88 = .ok (.iadd, 1) := by decide +kernel
theorem dX6_mends_89 : decode cX6_mends 89 = .ok (.dup2, 1) := by decide +kernel
theorem dX6_mends_90 : decode cX6_mends 90 = .ok (.iaload, 1) := by decide +kernel
theorem dX6_mends_91 : decode cX6_mends 91 = .ok (.iload_n 3, 1) := by decide +kernel
theorem dX6_mends_92 : decode cX6_mends 92 = .ok (.invokestatic 89, 3) := by decide +kernel
theorem dX6_mends_95 : decode cX6_mends 95 = .ok (.isub, 1) := by decide +kernel
theorem dX6_mends_96 : decode cX6_mends 96 = .ok (.iastore, 1) := by decide +kernel
theorem dX6_mends_97 : decode cX6_mends 97 = .ok (.iconst 2, 1) := by decide +kernel
theorem dX6_mends_98 : decode cX6_mends 98 = .ok (.iload_n 3, 1) := by decide +kernel
theorem dX6_mends_99 : decode cX6_mends 99 = .ok (.iadd, 1) := by decide +kernel
theorem dX6_mends_100 : decode cX6_mends 100 = .ok (.ireturn, 1) := by decide +kernel
theorem dX6_undo_0 : decode cX6_undo 0 = .ok (.aload_n 0, 1) := by decide +kernel
theorem dX6_undo_1 : decode cX6_undo 1 = .ok (.iconst 0, 1) := by decide +kernel
theorem dX6_undo_2 : decode cX6_undo 2 = .ok (.putfield 39, 3) := by decide +kernel
theorem dX6_undo_5 : decode cX6_undo 5 = .ok (.aload_n 0, 1) := by decide +kernel
theorem dX6_undo_6 : decode cX6_undo 6 = .ok (.getfield 65, 3) := by decide +kernel
theorem dX6_undo_9 : decode cX6_undo 9 = .ok (.ifCond .ne 6, 3) := by decide +kernel
theorem dX6_undo_12 : decode cX6_undo 12 = .ok (.ldc 78, 2) := by decide +kernel
theorem dX6_undo_14 : decode cX6_undo 14 = .ok (.ireturn, 1) := by decide +kernel
theorem dX6_undo_15 : decode cX6_undo 15 = .ok (.aload_n 0, 1) := by decide +kernel
theorem dX6_undo_16 : decode cX6_undo 16 = .ok (.dup, 1) := by decide +kernel
theorem dX6_undo_17 : decode cX6_undo 17 = .ok (.getfield 65, 3) := by decide +kernel
theorem dX6_undo_20 : decode cX6_undo 20 = .ok (.iconst 1, 1) := by decide +kernel
theorem dX6_undo_21 : decode cX6_undo 21 = .ok (.isub, 1) := by decide +kernel
theorem dX6_undo_22 : decode cX6_undo 22 = .ok (.putfield 65, 3) := by decide +kernel
theorem dX6_undo_25 : decode cX6_undo 25 = .ok (.iconst 0, 1) := by decide +kernel
theorem dX6_undo_26 : decode cX6_undo 26 = .ok (.istore_n 1, 1) := by decide +kernel
theorem dX6_undo_27 : decode cX6_undo 27 = .ok (.iload_n 1, 1) := by decide +kernel
theorem dX6_undo_28 : decode cX6_undo 28 = .ok (.bipush 10, 2) := by decide +kernel
theorem dX6_undo_30 : decode cX6_undo 30 = .ok (.if_icmp .ge 29, 3) := by decide +kernel
theorem dX6_undo_33 : decode cX6_undo 33 = .ok (.aload_n 0, 1) := by decide +kernel
theorem dX6_undo_34 : decode cX6_undo 34 = .ok (.getfield 7, 3) := by decide +kernel
theorem dX6_undo_37 : decode cX6_undo 37 = .ok (.iload_n 1, 1) := by decide +kernel
theorem dX6_undo_38 : decode cX6_undo 38 = .ok (.aload_n 0, 1) := by decide +kernel
theorem dX6_undo_39 : decode cX6_undo 39 = .ok (.getfield 13, 3) := by decide +kernel
theorem dX6_undo_42 : decode cX6_undo 42 = .ok (.bipush 10, 2) := by decide +kernel
theorem dX6_undo_44 : decode cX6_undo 44 = .ok (.aload_n 0, 1) := by decide +kernel
theorem dX6_undo_45 : decode cX6_undo 45 = .ok (.getfield 65, 3) := by decide +kernel
theorem dX6_undo_48 : decode cX6_undo 48 = .ok (.imul, 1) := by decide +kernel
theorem dX6_undo_49 : decode cX6_undo 49 = .ok (.iload_n 1, 1) := by decide +kernel
theorem dX6_undo_50 : decode cX6_undo 50 = .ok (.iadd, 1) := by decide +kernel
theorem dX6_undo_51 : decode cX6_undo 51 = .ok (.iaload, 1) := by decide +kernel
theorem dX6_undo_52 : decode cX6_undo 52 = .ok (.iastore, 1) := by decide +kernel
theorem dX6_undo_53 : decode cX6_undo 53 = .ok (.iinc 1 1, 3) := by decide +kernel
theorem dX6_undo_56 : decode cX6_undo 56 = .ok (.goto (-29), 3) := by decide +kernel
theorem dX6_undo_59 : decode cX6_undo 59 = .ok (.aload_n 0, 1) := by decide +kernel
theorem dX6_undo_60 : decode cX6_undo 60 = .ok (.getfield 65, 3) := by decide +kernel
theorem dX6_undo_63 : decode cX6_undo 63 = .ok (.ireturn, 1) := by decide +kernel
set_option maxRecDepth 20000 in
theorem ggX6_register_X6_isRegister : GoodIn wsX6_register wsX6_isRegister := goodIn_r _ [8, 9, 10, 7, 11] (by decide +kernel) (by decide +kernel)
set_option maxRecDepth 20000 in
theorem gX6_register_X6_isRegister : GoodIn wsX6_register (va_wsS RX6 75 yX6_isRegister wsX6_isRegister) := goodIn_app (goodIn_of _ (by decide +kernel)) ggX6_register_X6_isRegister
set_option maxRecDepth 20000 in
theorem ggX6_register_X6_in : GoodIn wsX6_register wsX6_in := goodIn_r _ [11] (by decide +kernel) (by decide +kernel)
set_option maxRecDepth 20000 in
theorem gX6_register_X6_in : GoodIn wsX6_register (va_wsS RX6 43 yX6_in wsX6_in) := goodIn_app (goodIn_of _ (by decide +kernel)) ggX6_register_X6_in
set_option maxRecDepth 20000 in
theorem ggX6_register_X6_rest : GoodIn wsX6_register wsX6_rest := goodIn_r _ [14] (by decide +kernel) (by decide +kernel)
set_option maxRecDepth 20000 in
theorem gX6_register_X6_rest : GoodIn wsX6_register (va_wsS RX6 61 yX6_rest wsX6_rest) := goodIn_app (goodIn_of _ (by decide +kernel)) ggX6_register_X6_rest
set_option maxRecDepth 20000 in
theorem ggX6_register_X6_fits : GoodIn wsX6_register wsX6_fits := goodIn_r _ [18, 3, 58, 59, 60, 61, 62, 63, 64, 65, 66, 67, 68, 69] (by decide +kernel) (by decide +kernel)
set_option maxRecDepth 20000 in
theorem gX6_register_X6_fits : GoodIn wsX6_register (wsV RX6 51 RX6 yX6_fits wsX6_fits) := goodIn_app (goodIn_of _ (by decide +kernel)) ggX6_register_X6_fits
set_option maxRecDepth 20000 in
theorem ggX6_register_X6_verdict : GoodIn wsX6_register wsX6_verdict := goodIn_r _ [22, 3, 23, 24, 25, 7, 26, 15, 16, 17, 18, 27, 28, 29, 30, 31, 32, 33, 34, 9, 10, 11, 35, 36, 37, 38, 12, 13, 14, 39, 40, 41, 42, 43, 44, 45, 46, 47, 48, 49, 50, 51, 52, 53, 58, 59, 60, 61, 62, 63, 64, 65, 66, 67, 68, 69] (by decide +kernel) (by decide +kernel)
set_option maxRecDepth 20000 in
theorem gX6_register_X6_verdict : GoodIn wsX6_register (wsV RX6 103 RX6 yX6_verdict wsX6_verdict) := goodIn_app (goodIn_of _ (by decide +kernel)) ggX6_register_X6_verdict
set_option maxRecDepth 20000 in
theorem ggX6_register_X6_isRight : GoodIn wsX6_register wsX6_isRight := goodIn_r _ [38, 3, 23, 24, 25, 7, 26, 15, 16, 17, 18, 27, 28, 29, 30, 31, 32, 33, 34, 9, 10, 11, 12, 13, 14, 58, 59, 60, 61, 62, 63, 64, 65, 66, 67, 68, 69] (by decide +kernel) (by decide +kernel)
set_option maxRecDepth 20000 in
theorem gX6_register_X6_isRight : GoodIn wsX6_register (wsV RX6 93 RX6 yX6_isRight wsX6_isRight) := goodIn_app (goodIn_of _ (by decide +kernel)) ggX6_register_X6_isRight
set_option maxRecDepth 20000 in
theorem ggX6_register_X6_causes : GoodIn wsX6_register wsX6_causes := goodIn_r _ [42, 3, 43, 44, 45, 7, 46, 23, 24, 25, 26, 15, 16, 17, 18, 27, 28, 29, 30, 31, 32, 33, 34, 9, 10, 11, 47, 48, 49, 50, 51, 52, 53, 35, 36, 37, 38, 12, 13, 14, 58, 59, 60, 61, 62, 63, 64, 65, 66, 67, 68, 69] (by decide +kernel) (by decide +kernel)
set_option maxRecDepth 20000 in
theorem gX6_register_X6_causes : GoodIn wsX6_register (wsV RX6 100 RX6 yX6_causes wsX6_causes) := goodIn_app (goodIn_of _ (by decide +kernel)) ggX6_register_X6_causes
set_option maxRecDepth 20000 in
theorem ggX6_register_X6_firstCause : GoodIn wsX6_register wsX6_firstCause := goodIn_r _ [57, 47, 48, 49, 7, 50, 3, 51, 52, 53, 35, 36, 37, 38, 23, 24, 25, 26, 15, 16, 17, 18, 27, 28, 29, 30, 31, 32, 33, 34, 9, 10, 11, 12, 13, 14, 58, 59, 60, 61, 62, 63, 64, 65, 66, 67, 68, 69] (by decide +kernel) (by decide +kernel)
set_option maxRecDepth 20000 in
theorem gX6_register_X6_firstCause : GoodIn wsX6_register (wsV RX6 107 RX6 yX6_firstCause wsX6_firstCause) := goodIn_app (goodIn_of _ (by decide +kernel)) ggX6_register_X6_firstCause
theorem dX6_register_0 : decode cX6_register 0 = .ok (.aload_n 0, 1) := by decide +kernel
theorem dX6_register_1 : decode cX6_register 1 = .ok (.iconst 0, 1) := by decide +kernel
theorem dX6_register_2 : decode cX6_register 2 = .ok (.putfield 39, 3) := by decide +kernel
theorem dX6_register_5 : decode cX6_register 5 = .ok (.iload_n 1, 1) := by decide +kernel
theorem dX6_register_6 : decode cX6_register 6 = .ok (.invokestatic 75, 3) := by decide +kernel
theorem dX6_register_9 : decode cX6_register 9 = .ok (.ifCond .eq 13, 3) := by decide +kernel
theorem dX6_register_12 : decode cX6_register 12 = .ok (.iload_n 2, 1) := by decide +kernel
theorem dX6_register_13 : decode cX6_register 13 = .ok (.iconst 0, 1) := by decide +kernel
theorem dX6_register_14 : decode cX6_register 14 = .ok (.bipush 7, 2) := by decide +kernel
theorem dX6_register_16 : decode cX6_register 16 = .ok (.invokestatic 43, 3) := by decide +kernel
theorem dX6_register_19 : decode cX6_register 19 = .ok (.ifCond .ne 6, 3) := by decide +kernel
theorem dX6_register_22 : decode cX6_register 22 = .ok (.ldc 71, 2) := by decide +kernel
theorem dX6_register_24 : decode cX6_register 24 = .ok (.ireturn, 1) := by decide +kernel
theorem dX6_register_25 : decode cX6_register 25 = .ok (.aload_n 0, 1) := by decide +kernel
theorem dX6_register_26 : decode cX6_register 26 = .ok (.getfield 7, 3) := by decide +kernel
theorem dX6_register_29 : decode cX6_register 29 = .ok (.iconst 2, 1) := by decide +kernel
theorem dX6_register_30 : decode cX6_register 30 = .ok (.iload_n 1, 1) := by decide +kernel
theorem dX6_register_31 : decode cX6_register 31 = .ok (.iadd, 1) := by decide +kernel
theorem dX6_register_32 : decode cX6_register 32 = .ok (.iaload, 1) := by decide +kernel
theorem dX6_register_33 : decode cX6_register 33 = .ok (.istore_n 3, 1) := by decide +kernel
theorem dX6_register_34 : decode cX6_register 34 = .ok (.iload_n 2, 1) := by decide +kernel
theorem dX6_register_35 : decode cX6_register 35 = .ok (.iconst 4, 1) := by decide +kernel
theorem dX6_register_36 : decode cX6_register 36 = .ok (.if_icmp .ge 69, 3) := by decide +kernel
theorem dX6_register_39 : decode cX6_register 39 = .ok (.iload_n 2, 1) := by decide +kernel
theorem dX6_register_40 : decode cX6_register 40 = .ok (.ifCond .ne 7, 3) := by decide +kernel
theorem dX6_register_43 : decode cX6_register 43 = .ok (.iload_n 3, 1) := by decide +kernel
theorem dX6_register_44 : decode cX6_register 44 = .ok (.goto 60, 3) := by decide +kernel
theorem dX6_register_47 : decode cX6_register 47 = .ok (.iload_n 2, 1) := by decide +kernel
theorem dX6_register_48 : decode cX6_register 48 = .ok (.iconst 1, 1) := by decide +kernel
theorem dX6_register_49 : decode cX6_register 49 = .ok (.if_icmp .ne 15, 3) := by decide +kernel
theorem dX6_register_52 : decode cX6_register 52 = .ok (.aload_n 0, 1) := by decide +kernel
theorem dX6_register_53 : decode cX6_register 53 = .ok (.getfield 7, 3) := by decide +kernel
theorem dX6_register_56 : decode cX6_register 56 = .ok (.bipush 6, 2) := by decide +kernel
theorem dX6_register_58 : decode cX6_register 58 = .ok (.iload_n 1, 1) := by decide +kernel
theorem dX6_register_59 : decode cX6_register 59 = .ok (.iadd, 1) := by decide +kernel
theorem dX6_register_60 : decode cX6_register 60 = .ok (.iaload, 1) := by decide +kernel
theorem dX6_register_61 : decode cX6_register 61 = .ok (.goto 43, 3) := by decide +kernel
theorem dX6_register_64 : decode cX6_register 64 = .ok (.iload_n 2, 1) := by decide +kernel
theorem dX6_register_65 : decode cX6_register 65 = .ok (.iconst 2, 1) := by decide +kernel
theorem dX6_register_66 : decode cX6_register 66 = .ok (.if_icmp .ne 17, 3) := by decide +kernel
theorem dX6_register_69 : decode cX6_register 69 = .ok (.iload_n 3, 1) := by decide +kernel
theorem dX6_register_70 : decode cX6_register 70 = .ok (.i2l, 1) := by decide +kernel
theorem dX6_register_71 : decode cX6_register 71 = .ok (.aload_n 0, 1) := by decide +kernel
theorem dX6_register_72 : decode cX6_register 72 = .ok (.getfield 7, 3) := by decide +kernel
theorem dX6_register_75 : decode cX6_register 75 = .ok (.iconst 0, 1) := by decide +kernel
theorem dX6_register_76 : decode cX6_register 76 = .ok (.iaload, 1) := by decide +kernel
theorem dX6_register_77 : decode cX6_register 77 = .ok (.invokestatic 61, 3) := by decide +kernel
theorem dX6_register_80 : decode cX6_register 80 = .ok (.goto 24, 3) := by decide +kernel
theorem dX6_register_83 : decode cX6_register 83 = .ok (.aload_n 0, 1) := by decide +kernel
theorem dX6_register_84 : decode cX6_register 84 = .ok (.iload_n 3, 1) := by decide +kernel
theorem dX6_register_85 : decode cX6_register 85 = .ok (.invokevirtual 51, 3) := by decide +kernel
theorem dX6_register_88 : decode cX6_register 88 = .ok (.ifCond .eq 14, 3) := by decide +kernel
theorem dX6_register_91 : decode cX6_register 91 = .ok (.iload_n 3, 1) := by decide +kernel
theorem dX6_register_92 : decode cX6_register 92 = .ok (.aload_n 0, 1) := by decide +kernel
theorem dX6_register_93 : decode cX6_register 93 = .ok (.getfield 7, 3) := by decide +kernel
theorem dX6_register_96 : decode cX6_register 96 = .ok (.iconst 0, 1) := by decide +kernel
theorem dX6_register_97 : decode cX6_register 97 = .ok (.iaload, 1) := by decide +kernel
theorem dX6_register_98 : decode cX6_register 98 = .ok (.idiv, 1) := by decide +kernel
theorem dX6_register_99 : decode cX6_register 99 = .ok (.goto 5, 3) := by decide +kernel
theorem dX6_register_102 : decode cX6_register 102 = .ok (.ldc 110, 2) := by decide +kernel
theorem dX6_register_104 : decode cX6_register 104 = .ok (.ireturn, 1) := by decide +kernel
theorem dX6_register_105 : decode cX6_register 105 = .ok (.iload_n 2, 1) := by decide +kernel
theorem dX6_register_106 : decode cX6_register 106 = .ok (.bipush 6, 2) := by decide +kernel
theorem dX6_register_108 : decode cX6_register 108 = .ok (.if_icmp .ge 39, 3) := by decide +kernel
theorem dX6_register_111 : decode cX6_register 111 = .ok (.iload_n 2, 1) := by decide +kernel
theorem dX6_register_112 : decode cX6_register 112 = .ok (.iconst 5, 1) := by decide +kernel
theorem dX6_register_113 : decode cX6_register 113 = .ok (.if_icmp .ne 11, 3) := by decide +kernel
theorem dX6_register_116 : decode cX6_register 116 = .ok (.aload_n 0, 1) := by decide +kernel
theorem dX6_register_117 : decode cX6_register 117 = .ok (.iload_n 1, 1) := by decide +kernel
theorem dX6_register_118 : decode cX6_register 118 = .ok (.invokevirtual 103, 3) := by decide +kernel
theorem dX6_register_121 : decode cX6_register 121 = .ok (.goto 25, 3) := by decide +kernel
theorem dX6_register_124 : decode cX6_register 124 = .ok (.aload_n 0, 1) := by decide +kernel
theorem dX6_register_125 : decode cX6_register 125 = .ok (.iload_n 3, 1) := by decide +kernel
theorem dX6_register_126 : decode cX6_register 126 = .ok (.aload_n 0, 1) := by decide +kernel
theorem dX6_register_127 : decode cX6_register 127 = .ok (.getfield 7, 3) := by decide +kernel
theorem dX6_register_130 : decode cX6_register 130 = .ok (.bipush 6, 2) := by decide +kernel
theorem dX6_register_132 : decode cX6_register 132 = .ok (.iload_n 1, 1) := by decide +kernel
theorem dX6_register_133 : decode cX6_register 133 = .ok (.iadd, 1) := by decide +kernel
theorem dX6_register_134 : decode cX6_register 134 = .ok (.iaload, 1) := by decide +kernel
theorem dX6_register_135 : decode cX6_register 135 = .ok (.invokevirtual 93, 3) := by decide +kernel
theorem dX6_register_138 : decode cX6_register 138 = .ok (.ifCond .eq 7, 3) := by decide +kernel
theorem dX6_register_141 : decode cX6_register 141 = .ok (.iconst 1, 1) := by decide +kernel
theorem dX6_register_142 : decode cX6_register 142 = .ok (.goto 4, 3) := by decide +kernel
theorem dX6_register_145 : decode cX6_register 145 = .ok (.iconst 0, 1) := by decide +kernel
theorem dX6_register_146 : decode cX6_register 146 = .ok (.ireturn, 1) := by decide +kernel
theorem dX6_register_147 : decode cX6_register 147 = .ok (.iload_n 2, 1) := by decide +kernel
theorem dX6_register_148 : decode cX6_register 148 = .ok (.bipush 7, 2) := by decide +kernel
theorem dX6_register_150 : decode cX6_register 150 = .ok (.if_icmp .ne 11, 3) := by decide +kernel
theorem dX6_register_153 : decode cX6_register 153 = .ok (.aload_n 0, 1) := by decide +kernel
theorem dX6_register_154 : decode cX6_register 154 = .ok (.iload_n 1, 1) := by decide +kernel
theorem dX6_register_155 : decode cX6_register 155 = .ok (.invokevirtual 100, 3) := by decide +kernel
theorem dX6_register_158 : decode cX6_register 158 = .ok (.goto 22, 3) := by decide +kernel
theorem dX6_register_161 : decode cX6_register 161 = .ok (.aload_n 0, 1) := by decide +kernel
theorem dX6_register_162 : decode cX6_register 162 = .ok (.iload_n 1, 1) := by decide +kernel
theorem dX6_register_163 : decode cX6_register 163 = .ok (.invokevirtual 103, 3) := by decide +kernel
theorem dX6_register_166 : decode cX6_register 166 = .ok (.iconst 2, 1) := by decide +kernel
theorem dX6_register_167 : decode cX6_register 167 = .ok (.if_icmp .ne 11, 3) := by decide +kernel
theorem dX6_register_170 : decode cX6_register 170 = .ok (.aload_n 0, 1) := by decide +kernel
theorem dX6_register_171 : decode cX6_register 171 = .ok (.iload_n 1, 1) := by decide +kernel
theorem dX6_register_172 : decode cX6_register 172 = .ok (.invokevirtual 107, 3) := by decide +kernel
theorem dX6_register_175 : decode cX6_register 175 = .ok (.goto 5, 3) := by decide +kernel
theorem dX6_register_178 : decode cX6_register 178 = .ok (.ldc 110, 2) := by decide +kernel
theorem dX6_register_180 : decode cX6_register 180 = .ok (.ireturn, 1) := by decide +kernel
theorem dX6_weightOf_0 : decode cX6_weightOf 0 = .ok (.iload_n 0, 1) := by decide +kernel
theorem dX6_weightOf_1 : decode cX6_weightOf 1 = .ok (.ifCond .ge 8, 3) := by decide +kernel
theorem dX6_weightOf_4 : decode cX6_weightOf 4 = .ok (.iload_n 0, 1) := by decide +kernel
theorem dX6_weightOf_5 : decode cX6_weightOf 5 = .ok (.ineg, 1) := by decide +kernel
theorem dX6_weightOf_6 : decode cX6_weightOf 6 = .ok (.goto 4, 3) := by decide +kernel
theorem dX6_weightOf_9 : decode cX6_weightOf 9 = .ok (.iload_n 0, 1) := by decide +kernel
theorem dX6_weightOf_10 : decode cX6_weightOf 10 = .ok (.istore_n 1, 1) := by decide +kernel
theorem dX6_weightOf_11 : decode cX6_weightOf 11 = .ok (.iconst 0, 1) := by decide +kernel
theorem dX6_weightOf_12 : decode cX6_weightOf 12 = .ok (.istore_n 2, 1) := by decide +kernel
theorem dX6_weightOf_13 : decode cX6_weightOf 13 = .ok (.iload_n 1, 1) := by decide +kernel
theorem dX6_weightOf_14 : decode cX6_weightOf 14 = .ok (.ifCond .le 35, 3) := by decide +kernel
theorem dX6_weightOf_17 : decode cX6_weightOf 17 = .ok (.iload_n 1, 1) := by decide +kernel
theorem dX6_weightOf_18 : decode cX6_weightOf 18 = .ok (.iconst 2, 1) := by decide +kernel
theorem dX6_weightOf_19 : decode cX6_weightOf 19 = .ok (.irem, 1) := by decide +kernel
theorem dX6_weightOf_20 : decode cX6_weightOf 20 = .ok (.iconst 1, 1) := by decide +kernel
theorem dX6_weightOf_21 : decode cX6_weightOf 21 = .ok (.if_icmp .ne 21, 3) := by decide +kernel
theorem dX6_weightOf_24 : decode cX6_weightOf 24 = .ok (.iinc 2 1, 3) := by decide +kernel
theorem dX6_weightOf_27 : decode cX6_weightOf 27 = .ok (.iload_n 1, 1) := by decide +kernel
theorem dX6_weightOf_28 : decode cX6_weightOf 28 = .ok (.iload_n 1, 1) := by decide +kernel
theorem dX6_weightOf_29 : decode cX6_weightOf 29 = .ok (.iconst 4, 1) := by decide +kernel
theorem dX6_weightOf_30 : decode cX6_weightOf 30 = .ok (.irem, 1) := by decide +kernel
theorem dX6_weightOf_31 : decode cX6_weightOf 31 = .ok (.iconst 3, 1) := by decide +kernel
theorem dX6_weightOf_32 : decode cX6_weightOf 32 = .ok (.if_icmp .ne 7, 3) := by decide +kernel
theorem dX6_weightOf_35 : decode cX6_weightOf 35 = .ok (.iconst 1, 1) := by decide +kernel
theorem dX6_weightOf_36 : decode cX6_weightOf 36 = .ok (.goto 4, 3) := by decide +kernel
theorem dX6_weightOf_39 : decode cX6_weightOf 39 = .ok (.iconst (-1), 1) := by decide +kernel
theorem dX6_weightOf_40 : decode cX6_weightOf 40 = .ok (.iadd, 1) := by decide +kernel
theorem dX6_weightOf_41 : decode cX6_weightOf 41 = .ok (.istore_n 1, 1) := by decide +kernel
theorem dX6_weightOf_42 : decode cX6_weightOf 42 = .ok (.iload_n 1, 1) := by decide +kernel
theorem dX6_weightOf_43 : decode cX6_weightOf 43 = .ok (.iconst 2, 1) := by decide +kernel
theorem dX6_weightOf_44 : decode cX6_weightOf 44 = .ok (.idiv, 1) := by decide +kernel
theorem dX6_weightOf_45 : decode cX6_weightOf 45 = .ok (.istore_n 1, 1) := by decide +kernel
theorem dX6_weightOf_46 : decode cX6_weightOf 46 = .ok (.goto (-33), 3) := by decide +kernel
theorem dX6_weightOf_49 : decode cX6_weightOf 49 = .ok (.iload_n 2, 1) := by decide +kernel
theorem dX6_weightOf_50 : decode cX6_weightOf 50 = .ok (.ireturn, 1) := by decide +kernel
set_option maxRecDepth 20000 in
theorem ggX6_weight_X6_in : GoodIn wsX6_weight wsX6_in := goodIn_r _ [8] (by decide +kernel) (by decide +kernel)
set_option maxRecDepth 20000 in
theorem gX6_weight_X6_in : GoodIn wsX6_weight (va_wsS RX6 43 yX6_in wsX6_in) := goodIn_app (goodIn_of _ (by decide +kernel)) ggX6_weight_X6_in
set_option maxRecDepth 20000 in
theorem ggX6_weight_X6_weightOf : GoodIn wsX6_weight wsX6_weightOf := goodIn_r _ [11] (by decide +kernel) (by decide +kernel)
set_option maxRecDepth 20000 in
theorem gX6_weight_X6_weightOf : GoodIn wsX6_weight (va_wsS RX6 113 yX6_weightOf wsX6_weightOf) := goodIn_app (goodIn_of _ (by decide +kernel)) ggX6_weight_X6_weightOf
theorem dX6_weight_0 : decode cX6_weight 0 = .ok (.aload_n 0, 1) := by decide +kernel
theorem dX6_weight_1 : decode cX6_weight 1 = .ok (.iconst 0, 1) := by decide +kernel
theorem dX6_weight_2 : decode cX6_weight 2 = .ok (.putfield 39, 3) := by decide +kernel
theorem dX6_weight_5 : decode cX6_weight 5 = .ok (.iload_n 1, 1) := by decide +kernel
theorem dX6_weight_6 : decode cX6_weight 6 = .ok (.ldc 111, 2) := by decide +kernel
theorem dX6_weight_8 : decode cX6_weight 8 = .ok (.ldc 112, 2) := by decide +kernel
theorem dX6_weight_10 : decode cX6_weight 10 = .ok (.invokestatic 43, 3) := by decide +kernel
theorem dX6_weight_13 : decode cX6_weight 13 = .ok (.ifCond .eq 10, 3) := by decide +kernel
theorem dX6_weight_16 : decode cX6_weight 16 = .ok (.iload_n 1, 1) := by decide +kernel
theorem dX6_weight_17 : decode cX6_weight 17 = .ok (.invokestatic 113, 3) := by decide +kernel
theorem dX6_weight_20 : decode cX6_weight 20 = .ok (.goto 5, 3) := by decide +kernel
theorem dX6_weight_23 : decode cX6_weight 23 = .ok (.ldc 71, 2) := by decide +kernel
theorem dX6_weight_25 : decode cX6_weight 25 = .ok (.ireturn, 1) := by decide +kernel
set_option maxRecDepth 20000 in
theorem ggX6_distanceOf_X6_weightOf : GoodIn wsX6_distanceOf wsX6_weightOf := goodIn_r _ [5] (by decide +kernel) (by decide +kernel)
set_option maxRecDepth 20000 in
theorem gX6_distanceOf_X6_weightOf : GoodIn wsX6_distanceOf (va_wsS RX6 113 yX6_weightOf wsX6_weightOf) := goodIn_app (goodIn_of _ (by decide +kernel)) ggX6_distanceOf_X6_weightOf
theorem dX6_distanceOf_0 : decode cX6_distanceOf 0 = .ok (.ldc 110, 2) := by decide +kernel
theorem dX6_distanceOf_2 : decode cX6_distanceOf 2 = .ok (.istore_n 2, 1) := by decide +kernel
theorem dX6_distanceOf_3 : decode cX6_distanceOf 3 = .ok (.iload_n 0, 1) := by decide +kernel
theorem dX6_distanceOf_4 : decode cX6_distanceOf 4 = .ok (.istore_n 3, 1) := by decide +kernel
theorem dX6_distanceOf_5 : decode cX6_distanceOf 5 = .ok (.iload_n 3, 1) := by decide +kernel
theorem dX6_distanceOf_6 : decode cX6_distanceOf 6 = .ok (.iconst 1, 1) := by decide +kernel
theorem dX6_distanceOf_7 : decode cX6_distanceOf 7 = .ok (.iload_n 1, 1) := by decide +kernel
theorem dX6_distanceOf_8 : decode cX6_distanceOf 8 = .ok (.ishl, 1) := by decide +kernel
theorem dX6_distanceOf_9 : decode cX6_distanceOf 9 = .ok (.if_icmp .ge 35, 3) := by decide +kernel
theorem dX6_distanceOf_12 : decode cX6_distanceOf 12 = .ok (.iload_n 3, 1) := by decide +kernel
theorem dX6_distanceOf_13 : decode cX6_distanceOf 13 = .ok (.invokestatic 113, 3) := by decide +kernel
theorem dX6_distanceOf_16 : decode cX6_distanceOf 16 = .ok (.istore 4, 2) := by decide +kernel
theorem dX6_distanceOf_18 : decode cX6_distanceOf 18 = .ok (.iload_n 2, 1) := by decide +kernel
theorem dX6_distanceOf_19 : decode cX6_distanceOf 19 = .ok (.ldc 110, 2) := by decide +kernel
theorem dX6_distanceOf_21 : decode cX6_distanceOf 21 = .ok (.if_icmp .eq 9, 3) := by decide +kernel
theorem dX6_distanceOf_24 : decode cX6_distanceOf 24 = .ok (.iload 4, 2) := by decide +kernel
theorem dX6_distanceOf_26 : decode cX6_distanceOf 26 = .ok (.iload_n 2, 1) := by decide +kernel
theorem dX6_distanceOf_27 : decode cX6_distanceOf 27 = .ok (.if_icmp .ge 8, 3) := by decide +kernel
theorem dX6_distanceOf_30 : decode cX6_distanceOf 30 = .ok (.iload 4, 2) := by decide +kernel
theorem dX6_distanceOf_32 : decode cX6_distanceOf 32 = .ok (.goto 4, 3) := by decide +kernel
theorem dX6_distanceOf_35 : decode cX6_distanceOf 35 = .ok (.iload_n 2, 1) := by decide +kernel
theorem dX6_distanceOf_36 : decode cX6_distanceOf 36 = .ok (.istore_n 2, 1) := by decide +kernel
theorem dX6_distanceOf_37 : decode cX6_distanceOf 37 = .ok (.iload_n 3, 1) := by decide +kernel
theorem dX6_distanceOf_38 : decode cX6_distanceOf 38 = .ok (.iload_n 0, 1) := by decide +kernel
theorem dX6_distanceOf_39 : decode cX6_distanceOf 39 = .ok (.iadd, 1) := by decide +kernel
theorem dX6_distanceOf_40 : decode cX6_distanceOf 40 = .ok (.istore_n 3, 1) := by decide +kernel
theorem dX6_distanceOf_41 : decode cX6_distanceOf 41 = .ok (.goto (-36), 3) := by decide +kernel
theorem dX6_distanceOf_44 : decode cX6_distanceOf 44 = .ok (.iload_n 2, 1) := by decide +kernel
theorem dX6_distanceOf_45 : decode cX6_distanceOf 45 = .ok (.ireturn, 1) := by decide +kernel
set_option maxRecDepth 20000 in
theorem ggX6_distance_X6_isConstant : GoodIn wsX6_distance wsX6_isConstant := goodIn_r _ [6, 7, 8, 5, 9] (by decide +kernel) (by decide +kernel)
set_option maxRecDepth 20000 in
theorem gX6_distance_X6_isConstant : GoodIn wsX6_distance (va_wsS RX6 68 yX6_isConstant wsX6_isConstant) := goodIn_app (goodIn_of _ (by decide +kernel)) ggX6_distance_X6_isConstant
set_option maxRecDepth 20000 in
theorem ggX6_distance_X6_in : GoodIn wsX6_distance wsX6_in := goodIn_r _ [9] (by decide +kernel) (by decide +kernel)
set_option maxRecDepth 20000 in
theorem gX6_distance_X6_in : GoodIn wsX6_distance (va_wsS RX6 43 yX6_in wsX6_in) := goodIn_app (goodIn_of _ (by decide +kernel)) ggX6_distance_X6_in
set_option maxRecDepth 20000 in
theorem ggX6_distance_X6_distanceOf : GoodIn wsX6_distance wsX6_distanceOf := goodIn_r _ [12, 13, 14, 15, 5, 16] (by decide +kernel) (by decide +kernel)
set_option maxRecDepth 20000 in
theorem gX6_distance_X6_distanceOf : GoodIn wsX6_distance (va_wsS RX6 116 yX6_distanceOf wsX6_distanceOf) := goodIn_app (goodIn_of _ (by decide +kernel)) ggX6_distance_X6_distanceOf
theorem dX6_distance_0 : decode cX6_distance 0 = .ok (.aload_n 0, 1) := by decide +kernel
theorem dX6_distance_1 : decode cX6_distance 1 = .ok (.iconst 0, 1) := by decide +kernel
theorem dX6_distance_2 : decode cX6_distance 2 = .ok (.putfield 39, 3) := by decide +kernel
theorem dX6_distance_5 : decode cX6_distance 5 = .ok (.iload_n 1, 1) := by decide +kernel
theorem dX6_distance_6 : decode cX6_distance 6 = .ok (.invokestatic 68, 3) := by decide +kernel
theorem dX6_distance_9 : decode cX6_distance 9 = .ok (.ifCond .eq 21, 3) := by decide +kernel
theorem dX6_distance_12 : decode cX6_distance 12 = .ok (.iload_n 2, 1) := by decide +kernel
theorem dX6_distance_13 : decode cX6_distance 13 = .ok (.iconst 4, 1) := by decide +kernel
theorem dX6_distance_14 : decode cX6_distance 14 = .ok (.bipush 16, 2) := by decide +kernel
theorem dX6_distance_16 : decode cX6_distance 16 = .ok (.invokestatic 43, 3) := by decide +kernel
theorem dX6_distance_19 : decode cX6_distance 19 = .ok (.ifCond .eq 11, 3) := by decide +kernel
theorem dX6_distance_22 : decode cX6_distance 22 = .ok (.iload_n 1, 1) := by decide +kernel
theorem dX6_distance_23 : decode cX6_distance 23 = .ok (.iload_n 2, 1) := by decide +kernel
theorem dX6_distance_24 : decode cX6_distance 24 = .ok (.invokestatic 116, 3) := by decide +kernel
theorem dX6_distance_27 : decode cX6_distance 27 = .ok (.goto 5, 3) := by decide +kernel
theorem dX6_distance_30 : decode cX6_distance 30 = .ok (.ldc 71, 2) := by decide +kernel
theorem dX6_distance_32 : decode cX6_distance 32 = .ok (.ireturn, 1) := by decide +kernel
set_option maxRecDepth 20000 in
theorem ggX6_least_X6_in : GoodIn wsX6_least wsX6_in := goodIn_r _ [7] (by decide +kernel) (by decide +kernel)
set_option maxRecDepth 20000 in
theorem gX6_least_X6_in : GoodIn wsX6_least (va_wsS RX6 43 yX6_in wsX6_in) := goodIn_app (goodIn_of _ (by decide +kernel)) ggX6_least_X6_in
set_option maxRecDepth 20000 in
theorem ggX6_least_X6_distanceOf : GoodIn wsX6_least wsX6_distanceOf := goodIn_r _ [10, 3, 11, 12, 6, 13] (by decide +kernel) (by decide +kernel)
set_option maxRecDepth 20000 in
theorem gX6_least_X6_distanceOf : GoodIn wsX6_least (va_wsS RX6 116 yX6_distanceOf wsX6_distanceOf) := goodIn_app (goodIn_of _ (by decide +kernel)) ggX6_least_X6_distanceOf
theorem dX6_least_0 : decode cX6_least 0 = .ok (.aload_n 0, 1) := by decide +kernel
theorem dX6_least_1 : decode cX6_least 1 = .ok (.iconst 0, 1) := by decide +kernel
theorem dX6_least_2 : decode cX6_least 2 = .ok (.putfield 39, 3) := by decide +kernel
theorem dX6_least_5 : decode cX6_least 5 = .ok (.iload_n 1, 1) := by decide +kernel
theorem dX6_least_6 : decode cX6_least 6 = .ok (.iconst 1, 1) := by decide +kernel
theorem dX6_least_7 : decode cX6_least 7 = .ok (.iconst 5, 1) := by decide +kernel
theorem dX6_least_8 : decode cX6_least 8 = .ok (.invokestatic 43, 3) := by decide +kernel
theorem dX6_least_11 : decode cX6_least 11 = .ok (.ifCond .eq 13, 3) := by decide +kernel
theorem dX6_least_14 : decode cX6_least 14 = .ok (.iload_n 2, 1) := by decide +kernel
theorem dX6_least_15 : decode cX6_least 15 = .ok (.iconst 4, 1) := by decide +kernel
theorem dX6_least_16 : decode cX6_least 16 = .ok (.bipush 16, 2) := by decide +kernel
theorem dX6_least_18 : decode cX6_least 18 = .ok (.invokestatic 43, 3) := by decide +kernel
theorem dX6_least_21 : decode cX6_least 21 = .ok (.ifCond .ne 6, 3) := by decide +kernel
theorem dX6_least_24 : decode cX6_least 24 = .ok (.ldc 71, 2) := by decide +kernel
theorem dX6_least_26 : decode cX6_least 26 = .ok (.ireturn, 1) := by decide +kernel
theorem dX6_least_27 : decode cX6_least 27 = .ok (.iconst 3, 1) := by decide +kernel
theorem dX6_least_28 : decode cX6_least 28 = .ok (.istore_n 3, 1) := by decide +kernel
theorem dX6_least_29 : decode cX6_least 29 = .ok (.iload_n 3, 1) := by decide +kernel
theorem dX6_least_30 : decode cX6_least 30 = .ok (.sipush 200, 3) := by decide +kernel
theorem dX6_least_33 : decode cX6_least 33 = .ok (.if_icmp .ge 20, 3) := by decide +kernel
theorem dX6_least_36 : decode cX6_least 36 = .ok (.iload_n 3, 1) := by decide +kernel
theorem dX6_least_37 : decode cX6_least 37 = .ok (.iload_n 2, 1) := by decide +kernel
theorem dX6_least_38 : decode cX6_least 38 = .ok (.invokestatic 116, 3) := by decide +kernel
theorem dX6_least_41 : decode cX6_least 41 = .ok (.iload_n 1, 1) := by decide +kernel
theorem dX6_least_42 : decode cX6_least 42 = .ok (.if_icmp .lt 5, 3) := by decide +kernel
theorem dX6_least_45 : decode cX6_least 45 = .ok (.iload_n 3, 1) := by decide +kernel
theorem dX6_least_46 : decode cX6_least 46 = .ok (.ireturn, 1) := by decide +kernel
theorem dX6_least_47 : decode cX6_least 47 = .ok (.iinc 3 2, 3) := by decide +kernel
theorem dX6_least_50 : decode cX6_least 50 = .ok (.goto (-21), 3) := by decide +kernel
theorem dX6_least_53 : decode cX6_least 53 = .ok (.ldc 110, 2) := by decide +kernel
theorem dX6_least_55 : decode cX6_least 55 = .ok (.ireturn, 1) := by decide +kernel
set_option maxRecDepth 20000 in
theorem ggX6_round_X6_isConstant : GoodIn wsX6_round wsX6_isConstant := goodIn_r _ [6, 7, 8, 5, 9] (by decide +kernel) (by decide +kernel)
set_option maxRecDepth 20000 in
theorem gX6_round_X6_isConstant : GoodIn wsX6_round (va_wsS RX6 68 yX6_isConstant wsX6_isConstant) := goodIn_app (goodIn_of _ (by decide +kernel)) ggX6_round_X6_isConstant
theorem dX6_round_0 : decode cX6_round 0 = .ok (.aload_n 0, 1) := by decide +kernel
theorem dX6_round_1 : decode cX6_round 1 = .ok (.iconst 0, 1) := by decide +kernel
theorem dX6_round_2 : decode cX6_round 2 = .ok (.putfield 39, 3) := by decide +kernel
theorem dX6_round_5 : decode cX6_round 5 = .ok (.iload_n 1, 1) := by decide +kernel
theorem dX6_round_6 : decode cX6_round 6 = .ok (.invokestatic 68, 3) := by decide +kernel
theorem dX6_round_9 : decode cX6_round 9 = .ok (.ifCond .ne 6, 3) := by decide +kernel
theorem dX6_round_12 : decode cX6_round 12 = .ok (.ldc 71, 2) := by decide +kernel
theorem dX6_round_14 : decode cX6_round 14 = .ok (.ireturn, 1) := by decide +kernel
theorem dX6_round_15 : decode cX6_round 15 = .ok (.iconst 1, 1) := by decide +kernel
theorem dX6_round_16 : decode cX6_round 16 = .ok (.istore_n 2, 1) := by decide +kernel
theorem dX6_round_17 : decode cX6_round 17 = .ok (.iconst 2, 1) := by decide +kernel
theorem dX6_round_18 : decode cX6_round 18 = .ok (.iload_n 1, 1) := by decide +kernel
theorem dX6_round_19 : decode cX6_round 19 = .ok (.irem, 1) := by decide +kernel
theorem dX6_round_20 : decode cX6_round 20 = .ok (.istore_n 3, 1) := by decide +kernel
theorem dX6_round_21 : decode cX6_round 21 = .ok (.iload_n 3, 1) := by decide +kernel
theorem dX6_round_22 : decode cX6_round 22 = .ok (.iconst 1, 1) := by decide +kernel
theorem dX6_round_23 : decode cX6_round 23 = .ok (.if_icmp .eq 22, 3) := by decide +kernel
theorem dX6_round_26 : decode cX6_round 26 = .ok (.iload_n 3, 1) := by decide +kernel
theorem dX6_round_27 : decode cX6_round 27 = .ok (.iload_n 1, 1) := by decide +kernel
theorem dX6_round_28 : decode cX6_round 28 = .ok (.iconst 1, 1) := by decide +kernel
theorem dX6_round_29 : decode cX6_round 29 = .ok (.isub, 1) := by decide +kernel
theorem dX6_round_30 : decode cX6_round 30 = .ok (.if_icmp .eq 15, 3) := by decide +kernel
theorem dX6_round_33 : decode cX6_round 33 = .ok (.iconst 2, 1) := by decide +kernel
theorem dX6_round_34 : decode cX6_round 34 = .ok (.iload_n 3, 1) := by decide +kernel
theorem dX6_round_35 : decode cX6_round 35 = .ok (.imul, 1) := by decide +kernel
theorem dX6_round_36 : decode cX6_round 36 = .ok (.iload_n 1, 1) := by decide +kernel
theorem dX6_round_37 : decode cX6_round 37 = .ok (.irem, 1) := by decide +kernel
theorem dX6_round_38 : decode cX6_round 38 = .ok (.istore_n 3, 1) := by decide +kernel
theorem dX6_round_39 : decode cX6_round 39 = .ok (.iinc 2 1, 3) := by decide +kernel
theorem dX6_round_42 : decode cX6_round 42 = .ok (.goto (-21), 3) := by decide +kernel
theorem dX6_round_45 : decode cX6_round 45 = .ok (.iload_n 2, 1) := by decide +kernel
theorem dX6_round_46 : decode cX6_round 46 = .ok (.ireturn, 1) := by decide +kernel
set_option maxRecDepth 20000 in
theorem ggX6_plain_X6_isConstant : GoodIn wsX6_plain wsX6_isConstant := goodIn_r _ [6, 7, 8, 5, 9] (by decide +kernel) (by decide +kernel)
set_option maxRecDepth 20000 in
theorem gX6_plain_X6_isConstant : GoodIn wsX6_plain (va_wsS RX6 68 yX6_isConstant wsX6_isConstant) := goodIn_app (goodIn_of _ (by decide +kernel)) ggX6_plain_X6_isConstant
set_option maxRecDepth 20000 in
theorem ggX6_plain_X6_in : GoodIn wsX6_plain wsX6_in := goodIn_r _ [9] (by decide +kernel) (by decide +kernel)
set_option maxRecDepth 20000 in
theorem gX6_plain_X6_in : GoodIn wsX6_plain (va_wsS RX6 43 yX6_in wsX6_in) := goodIn_app (goodIn_of _ (by decide +kernel)) ggX6_plain_X6_in
set_option maxRecDepth 20000 in
theorem ggX6_plain_X6_by : GoodIn wsX6_plain wsX6_by := goodIn_r _ [12] (by decide +kernel) (by decide +kernel)
set_option maxRecDepth 20000 in
theorem gX6_plain_X6_by : GoodIn wsX6_plain (va_wsS RX6 89 yX6_by wsX6_by) := goodIn_app (goodIn_of _ (by decide +kernel)) ggX6_plain_X6_by
set_option maxRecDepth 20000 in
theorem ggX6_plain_X6_rest : GoodIn wsX6_plain wsX6_rest := goodIn_r _ [15] (by decide +kernel) (by decide +kernel)
set_option maxRecDepth 20000 in
theorem gX6_plain_X6_rest : GoodIn wsX6_plain (va_wsS RX6 61 yX6_rest wsX6_rest) := goodIn_app (goodIn_of _ (by decide +kernel)) ggX6_plain_X6_rest
theorem dX6_plain_0 : decode cX6_plain 0 = .ok (.aload_n 0, 1) := by decide +kernel
theorem dX6_plain_1 : decode cX6_plain 1 = .ok (.iconst 0, 1) := by decide +kernel
theorem dX6_plain_2 : decode cX6_plain 2 = .ok (.putfield 39, 3) := by decide +kernel
theorem dX6_plain_5 : decode cX6_plain 5 = .ok (.iload_n 1, 1) := by decide +kernel
theorem dX6_plain_6 : decode cX6_plain 6 = .ok (.invokestatic 68, 3) := by decide +kernel
theorem dX6_plain_9 : decode cX6_plain 9 = .ok (.ifCond .eq 13, 3) := by decide +kernel
theorem dX6_plain_12 : decode cX6_plain 12 = .ok (.iload_n 2, 1) := by decide +kernel
theorem dX6_plain_13 : decode cX6_plain 13 = .ok (.iconst 4, 1) := by decide +kernel
theorem dX6_plain_14 : decode cX6_plain 14 = .ok (.bipush 16, 2) := by decide +kernel
theorem dX6_plain_16 : decode cX6_plain 16 = .ok (.invokestatic 43, 3) := by decide +kernel
theorem dX6_plain_19 : decode cX6_plain 19 = .ok (.ifCond .ne 6, 3) := by decide +kernel
theorem dX6_plain_22 : decode cX6_plain 22 = .ok (.ldc 71, 2) := by decide +kernel
theorem dX6_plain_24 : decode cX6_plain 24 = .ok (.ireturn, 1) := by decide +kernel
theorem dX6_plain_25 : decode cX6_plain 25 = .ok (.iconst 1, 1) := by decide +kernel
theorem dX6_plain_26 : decode cX6_plain 26 = .ok (.istore_n 3, 1) := by decide +kernel
theorem dX6_plain_27 : decode cX6_plain 27 = .ok (.iconst 0, 1) := by decide +kernel
theorem dX6_plain_28 : decode cX6_plain 28 = .ok (.istore 4, 2) := by decide +kernel
theorem dX6_plain_30 : decode cX6_plain 30 = .ok (.iload 4, 2) := by decide +kernel
theorem dX6_plain_32 : decode cX6_plain 32 = .ok (.iconst 2, 1) := by decide +kernel
theorem dX6_plain_33 : decode cX6_plain 33 = .ok (.iload_n 2, 1) := by decide +kernel
theorem dX6_plain_34 : decode cX6_plain 34 = .ok (.imul, 1) := by decide +kernel
theorem dX6_plain_35 : decode cX6_plain 35 = .ok (.if_icmp .ge 81, 3) := by decide +kernel
theorem dX6_plain_38 : decode cX6_plain 38 = .ok (.iload_n 3, 1) := by decide +kernel
theorem dX6_plain_39 : decode cX6_plain 39 = .ok (.ifCond .eq 20, 3) := by decide +kernel
theorem dX6_plain_42 : decode cX6_plain 42 = .ok (.iload 4, 2) := by decide +kernel
theorem dX6_plain_44 : decode cX6_plain 44 = .ok (.invokestatic 89, 3) := by decide +kernel
theorem dX6_plain_47 : decode cX6_plain 47 = .ok (.i2l, 1) := by decide +kernel
theorem dX6_plain_48 : decode cX6_plain 48 = .ok (.iload_n 1, 1) := by decide +kernel
theorem dX6_plain_49 : decode cX6_plain 49 = .ok (.invokestatic 61, 3) := by decide +kernel
theorem dX6_plain_52 : decode cX6_plain 52 = .ok (.ifCond .eq 7, 3) := by decide +kernel
theorem dX6_plain_55 : decode cX6_plain 55 = .ok (.iconst 1, 1) := by decide +kernel
theorem dX6_plain_56 : decode cX6_plain 56 = .ok (.goto 4, 3) := by decide +kernel
theorem dX6_plain_59 : decode cX6_plain 59 = .ok (.iconst 0, 1) := by decide +kernel
theorem dX6_plain_60 : decode cX6_plain 60 = .ok (.istore_n 3, 1) := by decide +kernel
theorem dX6_plain_61 : decode cX6_plain 61 = .ok (.iconst 0, 1) := by decide +kernel
theorem dX6_plain_62 : decode cX6_plain 62 = .ok (.istore 5, 2) := by decide +kernel
theorem dX6_plain_64 : decode cX6_plain 64 = .ok (.iload 5, 2) := by decide +kernel
theorem dX6_plain_66 : decode cX6_plain 66 = .ok (.iload 4, 2) := by decide +kernel
theorem dX6_plain_68 : decode cX6_plain 68 = .ok (.if_icmp .ge 42, 3) := by decide +kernel
theorem dX6_plain_71 : decode cX6_plain 71 = .ok (.iload_n 3, 1) := by decide +kernel
theorem dX6_plain_72 : decode cX6_plain 72 = .ok (.ifCond .eq 30, 3) := by decide +kernel
theorem dX6_plain_75 : decode cX6_plain 75 = .ok (.iload 4, 2) := by decide +kernel
theorem dX6_plain_77 : decode cX6_plain 77 = .ok (.invokestatic 89, 3) := by decide +kernel
theorem dX6_plain_80 : decode cX6_plain 80 = .ok (.i2l, 1) := by decide +kernel
theorem dX6_plain_81 : decode cX6_plain 81 = .ok (.iload_n 1, 1) := by decide +kernel
theorem dX6_plain_82 : decode cX6_plain 82 = .ok (.invokestatic 61, 3) := by decide +kernel
theorem dX6_plain_85 : decode cX6_plain 85 = .ok (.iload 5, 2) := by decide +kernel
theorem dX6_plain_87 : decode cX6_plain 87 = .ok (.invokestatic 89, 3) := by decide +kernel
theorem dX6_plain_90 : decode cX6_plain 90 = .ok (.i2l, 1) := by decide +kernel
theorem dX6_plain_91 : decode cX6_plain 91 = .ok (.iload_n 1, 1) := by decide +kernel
theorem dX6_plain_92 : decode cX6_plain 92 = .ok (.invokestatic 61, 3) := by decide +kernel
theorem dX6_plain_95 : decode cX6_plain 95 = .ok (.if_icmp .eq 7, 3) := by decide +kernel
theorem dX6_plain_98 : decode cX6_plain 98 = .ok (.iconst 1, 1) := by decide +kernel
theorem dX6_plain_99 : decode cX6_plain 99 = .ok (.goto 4, 3) := by decide +kernel
theorem dX6_plain_102 : decode cX6_plain 102 = .ok (.iconst 0, 1) := by decide +kernel
theorem dX6_plain_103 : decode cX6_plain 103 = .ok (.istore_n 3, 1) := by decide +kernel
theorem dX6_plain_104 : decode cX6_plain 104 = .ok (.iinc 5 1, 3) := by decide +kernel
theorem dX6_plain_107 : decode cX6_plain 107 = .ok (.goto (-43), 3) := by decide +kernel
theorem dX6_plain_110 : decode cX6_plain 110 = .ok (.iinc 4 1, 3) := by decide +kernel
theorem dX6_plain_113 : decode cX6_plain 113 = .ok (.goto (-83), 3) := by decide +kernel
theorem dX6_plain_116 : decode cX6_plain 116 = .ok (.iload_n 3, 1) := by decide +kernel
theorem dX6_plain_117 : decode cX6_plain 117 = .ok (.ifCond .eq 7, 3) := by decide +kernel
theorem dX6_plain_120 : decode cX6_plain 120 = .ok (.iconst 1, 1) := by decide +kernel
theorem dX6_plain_121 : decode cX6_plain 121 = .ok (.goto 4, 3) := by decide +kernel
theorem dX6_plain_124 : decode cX6_plain 124 = .ok (.iconst 0, 1) := by decide +kernel
theorem dX6_plain_125 : decode cX6_plain 125 = .ok (.ireturn, 1) := by decide +kernel
set_option maxRecDepth 20000 in
theorem ggX6_same_X6_in : GoodIn wsX6_same wsX6_in := goodIn_r _ [8] (by decide +kernel) (by decide +kernel)
set_option maxRecDepth 20000 in
theorem gX6_same_X6_in : GoodIn wsX6_same (va_wsS RX6 43 yX6_in wsX6_in) := goodIn_app (goodIn_of _ (by decide +kernel)) ggX6_same_X6_in
set_option maxRecDepth 20000 in
theorem ggX6_same_X6_strikeMany : GoodIn wsX6_same wsX6_strikeMany := goodIn_r _ [12, 2, 19, 20, 21, 22, 23, 24, 25, 26, 27, 28, 29, 30] (by decide +kernel) (by decide +kernel)
set_option maxRecDepth 20000 in
theorem gX6_same_X6_strikeMany : GoodIn wsX6_same (wsV RX6 86 RX6 yX6_strikeMany wsX6_strikeMany) := goodIn_app (goodIn_of _ (by decide +kernel)) ggX6_same_X6_strikeMany
set_option maxRecDepth 20000 in
theorem ggX6_same_X6_by : GoodIn wsX6_same wsX6_by := goodIn_r _ [15] (by decide +kernel) (by decide +kernel)
set_option maxRecDepth 20000 in
theorem gX6_same_X6_by : GoodIn wsX6_same (va_wsS RX6 89 yX6_by wsX6_by) := goodIn_app (goodIn_of _ (by decide +kernel)) ggX6_same_X6_by
set_option maxRecDepth 20000 in
theorem ggX6_same_X6_rest : GoodIn wsX6_same wsX6_rest := goodIn_r _ [18] (by decide +kernel) (by decide +kernel)
set_option maxRecDepth 20000 in
theorem gX6_same_X6_rest : GoodIn wsX6_same (va_wsS RX6 61 yX6_rest wsX6_rest) := goodIn_app (goodIn_of _ (by decide +kernel)) ggX6_same_X6_rest
theorem dX6_same_0 : decode cX6_same 0 = .ok (.aload_n 0, 1) := by decide +kernel
theorem dX6_same_1 : decode cX6_same 1 = .ok (.iconst 0, 1) := by decide +kernel
theorem dX6_same_2 : decode cX6_same 2 = .ok (.putfield 39, 3) := by decide +kernel
theorem dX6_same_5 : decode cX6_same 5 = .ok (.iload_n 1, 1) := by decide +kernel
theorem dX6_same_6 : decode cX6_same 6 = .ok (.iconst 0, 1) := by decide +kernel
theorem dX6_same_7 : decode cX6_same 7 = .ok (.aload_n 0, 1) := by decide +kernel
theorem dX6_same_8 : decode cX6_same 8 = .ok (.getfield 7, 3) := by decide +kernel
theorem dX6_same_11 : decode cX6_same 11 = .ok (.iconst 0, 1) := by decide +kernel
theorem dX6_same_12 : decode cX6_same 12 = .ok (.iaload, 1) := by decide +kernel
theorem dX6_same_13 : decode cX6_same 13 = .ok (.iconst 1, 1) := by decide +kernel
theorem dX6_same_14 : decode cX6_same 14 = .ok (.isub, 1) := by decide +kernel
theorem dX6_same_15 : decode cX6_same 15 = .ok (.invokestatic 43, 3) := by decide +kernel
theorem dX6_same_18 : decode cX6_same 18 = .ok (.ifCond .eq 12, 3) := by decide +kernel
theorem dX6_same_21 : decode cX6_same 21 = .ok (.iload_n 2, 1) := by decide +kernel
theorem dX6_same_22 : decode cX6_same 22 = .ok (.iconst 0, 1) := by decide +kernel
theorem dX6_same_23 : decode cX6_same 23 = .ok (.iconst 1, 1) := by decide +kernel
theorem dX6_same_24 : decode cX6_same 24 = .ok (.invokestatic 43, 3) := by decide +kernel
theorem dX6_same_27 : decode cX6_same 27 = .ok (.ifCond .ne 6, 3) := by decide +kernel
theorem dX6_same_30 : decode cX6_same 30 = .ok (.ldc 71, 2) := by decide +kernel
theorem dX6_same_32 : decode cX6_same 32 = .ok (.ireturn, 1) := by decide +kernel
theorem dX6_same_33 : decode cX6_same 33 = .ok (.iconst 0, 1) := by decide +kernel
theorem dX6_same_34 : decode cX6_same 34 = .ok (.istore_n 3, 1) := by decide +kernel
theorem dX6_same_35 : decode cX6_same 35 = .ok (.ldc 110, 2) := by decide +kernel
theorem dX6_same_37 : decode cX6_same 37 = .ok (.istore 4, 2) := by decide +kernel
theorem dX6_same_39 : decode cX6_same 39 = .ok (.aload_n 0, 1) := by decide +kernel
theorem dX6_same_40 : decode cX6_same 40 = .ok (.invokevirtual 86, 3) := by decide +kernel
theorem dX6_same_43 : decode cX6_same 43 = .ok (.iconst 1, 1) := by decide +kernel
theorem dX6_same_44 : decode cX6_same 44 = .ok (.isub, 1) := by decide +kernel
theorem dX6_same_45 : decode cX6_same 45 = .ok (.istore 5, 2) := by decide +kernel
theorem dX6_same_47 : decode cX6_same 47 = .ok (.iload 5, 2) := by decide +kernel
theorem dX6_same_49 : decode cX6_same 49 = .ok (.ifCond .lt 35, 3) := by decide +kernel
theorem dX6_same_52 : decode cX6_same 52 = .ok (.iload 5, 2) := by decide +kernel
theorem dX6_same_54 : decode cX6_same 54 = .ok (.invokestatic 89, 3) := by decide +kernel
theorem dX6_same_57 : decode cX6_same 57 = .ok (.i2l, 1) := by decide +kernel
theorem dX6_same_58 : decode cX6_same 58 = .ok (.aload_n 0, 1) := by decide +kernel
theorem dX6_same_59 : decode cX6_same 59 = .ok (.getfield 7, 3) := by decide +kernel
theorem dX6_same_62 : decode cX6_same 62 = .ok (.iconst 0, 1) := by decide +kernel
theorem dX6_same_63 : decode cX6_same 63 = .ok (.iaload, 1) := by decide +kernel
theorem dX6_same_64 : decode cX6_same 64 = .ok (.invokestatic 61, 3) := by decide +kernel
theorem dX6_same_67 : decode cX6_same 67 = .ok (.iload_n 1, 1) := by decide +kernel
theorem dX6_same_68 : decode cX6_same 68 = .ok (.if_icmp .ne 10, 3) := by decide +kernel
theorem dX6_same_71 : decode cX6_same 71 = .ok (.iinc 3 1, 3) := by decide +kernel
theorem dX6_same_74 : decode cX6_same 74 = .ok (.iload 5, 2) := by decide +kernel
theorem dX6_same_76 : decode cX6_same 76 = .ok (.istore 4, 2) := by decide +kernel
theorem dX6_same_78 : decode cX6_same 78 = .ok (.iinc 5 (-1), 3) := by decide +kernel
theorem dX6_same_81 : decode cX6_same 81 = .ok (.goto (-34), 3) := by decide +kernel
theorem dX6_same_84 : decode cX6_same 84 = .ok (.iload_n 2, 1) := by decide +kernel
theorem dX6_same_85 : decode cX6_same 85 = .ok (.ifCond .ne 7, 3) := by decide +kernel
theorem dX6_same_88 : decode cX6_same 88 = .ok (.iload_n 3, 1) := by decide +kernel
theorem dX6_same_89 : decode cX6_same 89 = .ok (.goto 5, 3) := by decide +kernel
theorem dX6_same_92 : decode cX6_same 92 = .ok (.iload 4, 2) := by decide +kernel
theorem dX6_same_94 : decode cX6_same 94 = .ok (.ireturn, 1) := by decide +kernel
set_option maxRecDepth 20000 in
theorem ggX6_missed_X6_strikeMany : GoodIn wsX6_missed wsX6_strikeMany := goodIn_r _ [6, 7, 15, 16, 17, 18, 19, 20, 21, 22, 23, 24, 25, 26] (by decide +kernel) (by decide +kernel)
set_option maxRecDepth 20000 in
theorem gX6_missed_X6_strikeMany : GoodIn wsX6_missed (wsV RX6 86 RX6 yX6_strikeMany wsX6_strikeMany) := goodIn_app (goodIn_of _ (by decide +kernel)) ggX6_missed_X6_strikeMany
set_option maxRecDepth 20000 in
theorem ggX6_missed_X6_by : GoodIn wsX6_missed wsX6_by := goodIn_r _ [10] (by decide +kernel) (by decide +kernel)
set_option maxRecDepth 20000 in
theorem gX6_missed_X6_by : GoodIn wsX6_missed (va_wsS RX6 89 yX6_by wsX6_by) := goodIn_app (goodIn_of _ (by decide +kernel)) ggX6_missed_X6_by
set_option maxRecDepth 20000 in
theorem ggX6_missed_X6_fits : GoodIn wsX6_missed wsX6_fits := goodIn_r _ [14, 7, 15, 16, 17, 18, 19, 20, 21, 22, 23, 24, 25, 26] (by decide +kernel) (by decide +kernel)
set_option maxRecDepth 20000 in
theorem gX6_missed_X6_fits : GoodIn wsX6_missed (wsV RX6 51 RX6 yX6_fits wsX6_fits) := goodIn_app (goodIn_of _ (by decide +kernel)) ggX6_missed_X6_fits
theorem dX6_missed_0 : decode cX6_missed 0 = .ok (.aload_n 0, 1) := by decide +kernel
theorem dX6_missed_1 : decode cX6_missed 1 = .ok (.iconst 0, 1) := by decide +kernel
theorem dX6_missed_2 : decode cX6_missed 2 = .ok (.putfield 39, 3) := by decide +kernel
theorem dX6_missed_5 : decode cX6_missed 5 = .ok (.iconst 0, 1) := by decide +kernel
theorem dX6_missed_6 : decode cX6_missed 6 = .ok (.istore_n 1, 1) := by decide +kernel
theorem dX6_missed_7 : decode cX6_missed 7 = .ok (.iconst 0, 1) := by decide +kernel
theorem dX6_missed_8 : decode cX6_missed 8 = .ok (.istore_n 2, 1) := by decide +kernel
theorem dX6_missed_9 : decode cX6_missed 9 = .ok (.iload_n 2, 1) := by decide +kernel
theorem dX6_missed_10 : decode cX6_missed 10 = .ok (.aload_n 0, 1) := by decide +kernel
theorem dX6_missed_11 : decode cX6_missed 11 = .ok (.invokevirtual 86, 3) := by decide +kernel
theorem dX6_missed_14 : decode cX6_missed 14 = .ok (.if_icmp .ge 60, 3) := by decide +kernel
theorem dX6_missed_17 : decode cX6_missed 17 = .ok (.iload_n 2, 1) := by decide +kernel
theorem dX6_missed_18 : decode cX6_missed 18 = .ok (.iconst 1, 1) := by decide +kernel
theorem dX6_missed_19 : decode cX6_missed 19 = .ok (.iadd, 1) := by decide +kernel
theorem dX6_missed_20 : decode cX6_missed 20 = .ok (.istore_n 3, 1) := by decide +kernel
theorem dX6_missed_21 : decode cX6_missed 21 = .ok (.iload_n 3, 1) := by decide +kernel
theorem dX6_missed_22 : decode cX6_missed 22 = .ok (.aload_n 0, 1) := by decide +kernel
theorem dX6_missed_23 : decode cX6_missed 23 = .ok (.invokevirtual 86, 3) := by decide +kernel
theorem dX6_missed_26 : decode cX6_missed 26 = .ok (.if_icmp .ge 42, 3) := by decide +kernel
theorem dX6_missed_29 : decode cX6_missed 29 = .ok (.iload_n 1, 1) := by decide +kernel
theorem dX6_missed_30 : decode cX6_missed 30 = .ok (.iload_n 2, 1) := by decide +kernel
theorem dX6_missed_31 : decode cX6_missed 31 = .ok (.iconst 2, 1) := by decide +kernel
theorem dX6_missed_32 : decode cX6_missed 32 = .ok (.idiv, 1) := by decide +kernel
theorem dX6_missed_33 : decode cX6_missed 33 = .ok (.iload_n 3, 1) := by decide +kernel
theorem dX6_missed_34 : decode cX6_missed 34 = .ok (.iconst 2, 1) := by decide +kernel
theorem dX6_missed_35 : decode cX6_missed 35 = .ok (.idiv, 1) := by decide +kernel
theorem dX6_missed_36 : decode cX6_missed 36 = .ok (.if_icmp .eq 23, 3) := by decide +kernel
theorem dX6_missed_39 : decode cX6_missed 39 = .ok (.aload_n 0, 1) := by decide +kernel
theorem dX6_missed_40 : decode cX6_missed 40 = .ok (.iload_n 2, 1) := by decide +kernel
theorem dX6_missed_41 : decode cX6_missed 41 = .ok (.invokestatic 89, 3) := by decide +kernel
theorem dX6_missed_44 : decode cX6_missed 44 = .ok (.iload_n 3, 1) := by decide +kernel
theorem dX6_missed_45 : decode cX6_missed 45 = .ok (.invokestatic 89, 3) := by decide +kernel
theorem dX6_missed_48 : decode cX6_missed 48 = .ok (.iadd, 1) := by decide +kernel
theorem dX6_missed_49 : decode cX6_missed 49 = .ok (.invokevirtual 51, 3) := by decide +kernel
theorem dX6_missed_52 : decode cX6_missed 52 = .ok (.ifCond .eq 7, 3) := by decide +kernel
theorem dX6_missed_55 : decode cX6_missed 55 = .ok (.iconst 1, 1) := by decide +kernel
theorem dX6_missed_56 : decode cX6_missed 56 = .ok (.goto 4, 3) := by decide +kernel
theorem dX6_missed_59 : decode cX6_missed 59 = .ok (.iconst 0, 1) := by decide +kernel
theorem dX6_missed_60 : decode cX6_missed 60 = .ok (.iadd, 1) := by decide +kernel
theorem dX6_missed_61 : decode cX6_missed 61 = .ok (.istore_n 1, 1) := by decide +kernel
theorem dX6_missed_62 : decode cX6_missed 62 = .ok (.iinc 3 1, 3) := by decide +kernel
theorem dX6_missed_65 : decode cX6_missed 65 = .ok (.goto (-44), 3) := by decide +kernel
theorem dX6_missed_68 : decode cX6_missed 68 = .ok (.iinc 2 1, 3) := by decide +kernel
theorem dX6_missed_71 : decode cX6_missed 71 = .ok (.goto (-62), 3) := by decide +kernel
theorem dX6_missed_74 : decode cX6_missed 74 = .ok (.iload_n 1, 1) := by decide +kernel
theorem dX6_missed_75 : decode cX6_missed 75 = .ok (.ireturn, 1) := by decide +kernel
theorem dX6_gcd_0 : decode cX6_gcd 0 = .ok (.lload_n 0, 1) := by decide +kernel
theorem dX6_gcd_1 : decode cX6_gcd 1 = .ok (.lstore 4, 2) := by decide +kernel
theorem dX6_gcd_3 : decode cX6_gcd 3 = .ok (.lload_n 2, 1) := by decide +kernel
theorem dX6_gcd_4 : decode cX6_gcd 4 = .ok (.lstore 6, 2) := by decide +kernel
theorem dX6_gcd_6 : decode cX6_gcd 6 = .ok (.lload 6, 2) := by decide +kernel
theorem dX6_gcd_8 : decode cX6_gcd 8 = .ok (.lconst 0, 1) := by decide +kernel
theorem dX6_gcd_9 : decode cX6_gcd 9 = .ok (.lcmp, 1) := by decide +kernel
theorem dX6_gcd_10 : decode cX6_gcd 10 = .ok (.ifCond .eq 21, 3) := by decide +kernel
theorem dX6_gcd_13 : decode cX6_gcd 13 = .ok (.lload 4, 2) := by decide +kernel
theorem dX6_gcd_15 : decode cX6_gcd 15 = .ok (.lload 6, 2) := by decide +kernel
theorem dX6_gcd_17 : decode cX6_gcd 17 = .ok (.lrem, 1) := by decide +kernel
theorem dX6_gcd_18 : decode cX6_gcd 18 = .ok (.lstore 8, 2) := by decide +kernel
theorem dX6_gcd_20 : decode cX6_gcd 20 = .ok (.lload 6, 2) := by decide +kernel
theorem dX6_gcd_22 : decode cX6_gcd 22 = .ok (.lstore 4, 2) := by decide +kernel
theorem dX6_gcd_24 : decode cX6_gcd 24 = .ok (.lload 8, 2) := by decide +kernel
theorem dX6_gcd_26 : decode cX6_gcd 26 = .ok (.lstore 6, 2) := by decide +kernel
theorem dX6_gcd_28 : decode cX6_gcd 28 = .ok (.goto (-22), 3) := by decide +kernel
theorem dX6_gcd_31 : decode cX6_gcd 31 = .ok (.lload 4, 2) := by decide +kernel
theorem dX6_gcd_33 : decode cX6_gcd 33 = .ok (.lreturn, 1) := by decide +kernel
set_option maxRecDepth 20000 in
theorem ggX6_odds_X6_in : GoodIn wsX6_odds wsX6_in := goodIn_r _ [9] (by decide +kernel) (by decide +kernel)
set_option maxRecDepth 20000 in
theorem gX6_odds_X6_in : GoodIn wsX6_odds (va_wsS RX6 43 yX6_in wsX6_in) := goodIn_app (goodIn_of _ (by decide +kernel)) ggX6_odds_X6_in
set_option maxRecDepth 20000 in
theorem ggX6_odds_X6_strikeMany : GoodIn wsX6_odds wsX6_strikeMany := goodIn_r _ [13, 5, 23, 24, 25, 26, 27, 28, 29, 30, 31, 32, 33, 34] (by decide +kernel) (by decide +kernel)
set_option maxRecDepth 20000 in
theorem gX6_odds_X6_strikeMany : GoodIn wsX6_odds (wsV RX6 86 RX6 yX6_strikeMany wsX6_strikeMany) := goodIn_app (goodIn_of _ (by decide +kernel)) ggX6_odds_X6_strikeMany
set_option maxRecDepth 20000 in
theorem ggX6_odds_X6_by : GoodIn wsX6_odds wsX6_by := goodIn_r _ [16] (by decide +kernel) (by decide +kernel)
set_option maxRecDepth 20000 in
theorem gX6_odds_X6_by : GoodIn wsX6_odds (va_wsS RX6 89 yX6_by wsX6_by) := goodIn_app (goodIn_of _ (by decide +kernel)) ggX6_odds_X6_by
set_option maxRecDepth 20000 in
theorem ggX6_odds_X6_rest : GoodIn wsX6_odds wsX6_rest := goodIn_r _ [19] (by decide +kernel) (by decide +kernel)
set_option maxRecDepth 20000 in
theorem gX6_odds_X6_rest : GoodIn wsX6_odds (va_wsS RX6 61 yX6_rest wsX6_rest) := goodIn_app (goodIn_of _ (by decide +kernel)) ggX6_odds_X6_rest
set_option maxRecDepth 20000 in
theorem ggX6_odds_X6_gcd : GoodIn wsX6_odds wsX6_gcd := goodIn_r _ [22] (by decide +kernel) (by decide +kernel)
set_option maxRecDepth 20000 in
theorem gX6_odds_X6_gcd : GoodIn wsX6_odds (va_wsS RX6 120 yX6_gcd wsX6_gcd) := goodIn_app (goodIn_of _ (by decide +kernel)) ggX6_odds_X6_gcd
theorem dX6_odds_0 : decode cX6_odds 0 = .ok (.aload_n 0, 1) := by decide +kernel
theorem dX6_odds_1 : decode cX6_odds 1 = .ok (.iconst 0, 1) := by decide +kernel
theorem dX6_odds_2 : decode cX6_odds 2 = .ok (.putfield 39, 3) := by decide +kernel
theorem dX6_odds_5 : decode cX6_odds 5 = .ok (.iload_n 1, 1) := by decide +kernel
theorem dX6_odds_6 : decode cX6_odds 6 = .ok (.iconst 1, 1) := by decide +kernel
theorem dX6_odds_7 : decode cX6_odds 7 = .ok (.iconst 4, 1) := by decide +kernel
theorem dX6_odds_8 : decode cX6_odds 8 = .ok (.invokestatic 43, 3) := by decide +kernel
theorem dX6_odds_11 : decode cX6_odds 11 = .ok (.ifCond .eq 12, 3) := by decide +kernel
theorem dX6_odds_14 : decode cX6_odds 14 = .ok (.iload_n 2, 1) := by decide +kernel
theorem dX6_odds_15 : decode cX6_odds 15 = .ok (.iconst 0, 1) := by decide +kernel
theorem dX6_odds_16 : decode cX6_odds 16 = .ok (.iconst 1, 1) := by decide +kernel
theorem dX6_odds_17 : decode cX6_odds 17 = .ok (.invokestatic 43, 3) := by decide +kernel
theorem dX6_odds_20 : decode cX6_odds 20 = .ok (.ifCond .ne 6, 3) := by decide +kernel
theorem dX6_odds_23 : decode cX6_odds 23 = .ok (.ldc 71, 2) := by decide +kernel
theorem dX6_odds_25 : decode cX6_odds 25 = .ok (.ireturn, 1) := by decide +kernel
theorem dX6_odds_26 : decode cX6_odds 26 = .ok (.lconst 1, 1) := by decide +kernel
theorem dX6_odds_27 : decode cX6_odds 27 = .ok (.lstore_n 3, 1) := by decide +kernel
theorem dX6_odds_28 : decode cX6_odds 28 = .ok (.iconst 0, 1) := by decide +kernel
theorem dX6_odds_29 : decode cX6_odds 29 = .ok (.istore 5, 2) := by decide +kernel
theorem dX6_odds_31 : decode cX6_odds 31 = .ok (.iload 5, 2) := by decide +kernel
theorem dX6_odds_33 : decode cX6_odds 33 = .ok (.sipush 200, 3) := by decide +kernel
theorem dX6_odds_36 : decode cX6_odds 36 = .ok (.if_icmp .ge 26, 3) := by decide +kernel
theorem dX6_odds_39 : decode cX6_odds 39 = .ok (.aload_n 0, 1) := by decide +kernel
theorem dX6_odds_40 : decode cX6_odds 40 = .ok (.getfield 29, 3) := by decide +kernel
theorem dX6_odds_43 : decode cX6_odds 43 = .ok (.iload 5, 2) := by decide +kernel
theorem dX6_odds_45 : decode cX6_odds 45 = .ok (.iload 5, 2) := by decide +kernel
theorem dX6_odds_47 : decode cX6_odds 47 = .ok (.ifCond .ne 7, 3) := by decide +kernel
theorem dX6_odds_50 : decode cX6_odds 50 = .ok (.lconst 1, 1) := by decide +kernel
theorem dX6_odds_51 : decode cX6_odds 51 = .ok (.goto 4, 3) := by decide +kernel
theorem dX6_odds_54 : decode cX6_odds 54 = .ok (.lconst 0, 1) := by decide +kernel
theorem dX6_odds_55 : decode cX6_odds 55 = .ok (.lastore, 1) := by decide +kernel
theorem dX6_odds_56 : decode cX6_odds 56 = .ok (.iinc 5 1, 3) := by decide +kernel
theorem dX6_odds_59 : decode cX6_odds 59 = .ok (.goto (-28), 3) := by decide +kernel
theorem dX6_odds_62 : decode cX6_odds 62 = .ok (.iconst 0, 1) := by decide +kernel
theorem dX6_odds_63 : decode cX6_odds 63 = .ok (.istore 5, 2) := by decide +kernel
theorem dX6_odds_65 : decode cX6_odds 65 = .ok (.iload 5, 2) := by decide +kernel
theorem dX6_odds_67 : decode cX6_odds 67 = .ok (.iload_n 1, 1) := by decide +kernel
theorem dX6_odds_68 : decode cX6_odds 68 = .ok (.if_icmp .ge 144, 3) := by decide +kernel
theorem dX6_odds_71 : decode cX6_odds 71 = .ok (.lload_n 3, 1) := by decide +kernel
theorem dX6_odds_72 : decode cX6_odds 72 = .ok (.aload_n 0, 1) := by decide +kernel
theorem dX6_odds_73 : decode cX6_odds 73 = .ok (.invokevirtual 86, 3) := by decide +kernel
theorem dX6_odds_76 : decode cX6_odds 76 = .ok (.i2l, 1) := by decide +kernel
theorem dX6_odds_77 : decode cX6_odds 77 = .ok (.lmul, 1) := by decide +kernel
theorem dX6_odds_78 : decode cX6_odds 78 = .ok (.lstore_n 3, 1) := by decide +kernel
theorem dX6_odds_79 : decode cX6_odds 79 = .ok (.iconst 0, 1) := by decide +kernel
theorem dX6_odds_80 : decode cX6_odds 80 = .ok (.istore 6, 2) := by decide +kernel
theorem dX6_odds_82 : decode cX6_odds 82 = .ok (.iload 6, 2) := by decide +kernel
theorem dX6_odds_84 : decode cX6_odds 84 = .ok (.sipush 200, 3) := by decide +kernel
theorem dX6_odds_87 : decode cX6_odds 87 = .ok (.if_icmp .ge 17, 3) := by decide +kernel
theorem dX6_odds_90 : decode cX6_odds 90 = .ok (.aload_n 0, 1) := by decide +kernel
theorem dX6_odds_91 : decode cX6_odds 91 = .ok (.getfield 33, 3) := by decide +kernel
theorem dX6_odds_94 : decode cX6_odds 94 = .ok (.iload 6, 2) := by decide +kernel
theorem dX6_odds_96 : decode cX6_odds 96 = .ok (.lconst 0, 1) := by decide +kernel
theorem dX6_odds_97 : decode cX6_odds 97 = .ok (.lastore, 1) := by decide +kernel
theorem dX6_odds_98 : decode cX6_odds 98 = .ok (.iinc 6 1, 3) := by decide +kernel
theorem dX6_odds_101 : decode cX6_odds 101 = .ok (.goto (-19), 3) := by decide +kernel
theorem dX6_odds_104 : decode cX6_odds 104 = .ok (.iconst 0, 1) := by decide +kernel
theorem dX6_odds_105 : decode cX6_odds 105 = .ok (.istore 6, 2) := by decide +kernel
theorem dX6_odds_107 : decode cX6_odds 107 = .ok (.iload 6, 2) := by decide +kernel
theorem dX6_odds_109 : decode cX6_odds 109 = .ok (.aload_n 0, 1) := by decide +kernel
theorem dX6_odds_110 : decode cX6_odds 110 = .ok (.getfield 7, 3) := by decide +kernel
theorem dX6_odds_113 : decode cX6_odds 113 = .ok (.iconst 0, 1) := by decide +kernel
theorem dX6_odds_114 : decode cX6_odds 114 = .ok (.iaload, 1) := by decide +kernel
theorem dX6_odds_115 : decode cX6_odds 115 = .ok (.if_icmp .ge 60, 3) := by decide +kernel
theorem dX6_odds_118 : decode cX6_odds 118 = .ok (.iconst 0, 1) := by decide +kernel
theorem dX6_odds_119 : decode cX6_odds 119 = .ok (.istore 7, 2) := by decide +kernel
theorem dX6_odds_121 : decode cX6_odds 121 = .ok (.iload 7, 2) := by decide +kernel
theorem dX6_odds_123 : decode cX6_odds 123 = .ok (.aload_n 0, 1) := by decide +kernel
theorem dX6_odds_124 : decode cX6_odds 124 = .ok (.invokevirtual 86, 3) := by decide +kernel
theorem dX6_odds_127 : decode cX6_odds 127 = .ok (.if_icmp .ge 42, 3) := by decide +kernel
theorem dX6_odds_130 : decode cX6_odds 130 = .ok (.aload_n 0, 1) := by decide +kernel
theorem dX6_odds_131 : decode cX6_odds 131 = .ok (.getfield 33, 3) := by decide +kernel
theorem dX6_odds_134 : decode cX6_odds 134 = .ok (.iload 6, 2) := by decide +kernel
theorem dX6_odds_136 : decode cX6_odds 136 = .ok (.iload 7, 2) := by decide +kernel
theorem dX6_odds_138 : decode cX6_odds 138 = .ok (.invokestatic 89, 3) := by decide +kernel
theorem dX6_odds_141 : decode cX6_odds 141 = .ok (.iadd, 1) := by decide +kernel
theorem dX6_odds_142 : decode cX6_odds 142 = .ok (.i2l, 1) := by decide +kernel
theorem dX6_odds_143 : decode cX6_odds 143 = .ok (.aload_n 0, 1) := by decide +kernel
theorem dX6_odds_144 : decode cX6_odds 144 = .ok (.getfield 7, 3) := by decide +kernel
theorem dX6_odds_147 : decode cX6_odds 147 = .ok (.iconst 0, 1) := by decide +kernel
theorem dX6_odds_148 : decode cX6_odds 148 = .ok (.iaload, 1) := by decide +kernel
theorem dX6_odds_149 : decode cX6_odds 149 = .ok (.invokestatic 61, 3) := by decide +kernel
theorem dX6_odds_152 : decode cX6_odds 152 = .ok (.dup2, 1) := by decide +kernel
theorem dX6_odds_153 : decode cX6_odds 153 = .ok (.laload, 1) := by decide +kernel
theorem dX6_odds_154 : decode cX6_odds 154 = .ok (.aload_n 0, 1) := by decide +kernel
theorem dX6_odds_155 : decode cX6_odds 155 = .ok (.getfield 29, 3) := by decide +kernel
theorem dX6_odds_158 : decode cX6_odds 158 = .ok (.iload 6, 2) := by decide +kernel
theorem dX6_odds_160 : decode cX6_odds 160 = .ok (.laload, 1) := by decide +kernel
theorem dX6_odds_161 : decode cX6_odds 161 = .ok (.ladd, 1) := by decide +kernel
theorem dX6_odds_162 : decode cX6_odds 162 = .ok (.lastore, 1) := by decide +kernel
theorem dX6_odds_163 : decode cX6_odds 163 = .ok (.iinc 7 1, 3) := by decide +kernel
theorem dX6_odds_166 : decode cX6_odds 166 = .ok (.goto (-45), 3) := by decide +kernel
theorem dX6_odds_169 : decode cX6_odds 169 = .ok (.iinc 6 1, 3) := by decide +kernel
theorem dX6_odds_172 : decode cX6_odds 172 = .ok (.goto (-65), 3) := by decide +kernel
theorem dX6_odds_175 : decode cX6_odds 175 = .ok (.iconst 0, 1) := by decide +kernel
theorem dX6_odds_176 : decode cX6_odds 176 = .ok (.istore 6, 2) := by decide +kernel
theorem dX6_odds_178 : decode cX6_odds 178 = .ok (.iload 6, 2) := by decide +kernel
theorem dX6_odds_180 : decode cX6_odds 180 = .ok (.sipush 200, 3) := by decide +kernel
theorem dX6_odds_183 : decode cX6_odds 183 = .ok (.if_icmp .ge 23, 3) := by decide +kernel
theorem dX6_odds_186 : decode cX6_odds 186 = .ok (.aload_n 0, 1) := by decide +kernel
theorem dX6_odds_187 : decode cX6_odds 187 = .ok (.getfield 29, 3) := by decide +kernel
theorem dX6_odds_190 : decode cX6_odds 190 = .ok (.iload 6, 2) := by decide +kernel
theorem dX6_odds_192 : decode cX6_odds 192 = .ok (.aload_n 0, 1) := by decide +kernel
theorem dX6_odds_193 : decode cX6_odds 193 = .ok (.getfield 33, 3) := by decide +kernel
theorem dX6_odds_196 : decode cX6_odds 196 = .ok (.iload 6, 2) := by decide +kernel
theorem dX6_odds_198 : decode cX6_odds 198 = .ok (.laload, 1) := by decide +kernel
theorem dX6_odds_199 : decode cX6_odds 199 = .ok (.lastore, 1) := by decide +kernel
theorem dX6_odds_200 : decode cX6_odds 200 = .ok (.iinc 6 1, 3) := by decide +kernel
theorem dX6_odds_203 : decode cX6_odds 203 = .ok (.goto (-25), 3) := by decide +kernel
theorem dX6_odds_206 : decode cX6_odds 206 = .ok (.iinc 5 1, 3) := by decide +kernel
theorem dX6_odds_209 : decode cX6_odds 209 = .ok (.goto (-144), 3) := by decide +kernel
theorem dX6_odds_212 : decode cX6_odds 212 = .ok (.aload_n 0, 1) := by decide +kernel
theorem dX6_odds_213 : decode cX6_odds 213 = .ok (.getfield 29, 3) := by decide +kernel
theorem dX6_odds_216 : decode cX6_odds 216 = .ok (.iconst 0, 1) := by decide +kernel
theorem dX6_odds_217 : decode cX6_odds 217 = .ok (.laload, 1) := by decide +kernel
theorem dX6_odds_218 : decode cX6_odds 218 = .ok (.lload_n 3, 1) := by decide +kernel
theorem dX6_odds_219 : decode cX6_odds 219 = .ok (.invokestatic 120, 3) := by decide +kernel
theorem dX6_odds_222 : decode cX6_odds 222 = .ok (.lstore 5, 2) := by decide +kernel
theorem dX6_odds_224 : decode cX6_odds 224 = .ok (.iload_n 2, 1) := by decide +kernel
theorem dX6_odds_225 : decode cX6_odds 225 = .ok (.ifCond .ne 15, 3) := by decide +kernel
theorem dX6_odds_228 : decode cX6_odds 228 = .ok (.aload_n 0, 1) := by decide +kernel
theorem dX6_odds_229 : decode cX6_odds 229 = .ok (.getfield 29, 3) := by decide +kernel
theorem dX6_odds_232 : decode cX6_odds 232 = .ok (.iconst 0, 1) := by decide +kernel
theorem dX6_odds_233 : decode cX6_odds 233 = .ok (.laload, 1) := by decide +kernel
theorem dX6_odds_234 : decode cX6_odds 234 = .ok (.lload 5, 2) := by decide +kernel
theorem dX6_odds_236 : decode cX6_odds 236 = .ok (.ldiv, 1) := by decide +kernel
theorem dX6_odds_237 : decode cX6_odds 237 = .ok (.goto 7, 3) := by decide +kernel
theorem dX6_odds_240 : decode cX6_odds 240 = .ok (.lload_n 3, 1) := by decide +kernel
theorem dX6_odds_241 : decode cX6_odds 241 = .ok (.lload 5, 2) := by decide +kernel
theorem dX6_odds_243 : decode cX6_odds 243 = .ok (.ldiv, 1) := by decide +kernel
theorem dX6_odds_244 : decode cX6_odds 244 = .ok (.l2i, 1) := by decide +kernel
theorem dX6_odds_245 : decode cX6_odds 245 = .ok (.ireturn, 1) := by decide +kernel
set_option maxRecDepth 20000 in
theorem ggX6_sees_X6_in : GoodIn wsX6_sees wsX6_in := goodIn_r _ [10] (by decide +kernel) (by decide +kernel)
set_option maxRecDepth 20000 in
theorem gX6_sees_X6_in : GoodIn wsX6_sees (va_wsS RX6 43 yX6_in wsX6_in) := goodIn_app (goodIn_of _ (by decide +kernel)) ggX6_sees_X6_in
theorem dX6_sees_0 : decode cX6_sees 0 = .ok (.aload_n 0, 1) := by decide +kernel
theorem dX6_sees_1 : decode cX6_sees 1 = .ok (.iconst 0, 1) := by decide +kernel
theorem dX6_sees_2 : decode cX6_sees 2 = .ok (.putfield 39, 3) := by decide +kernel
theorem dX6_sees_5 : decode cX6_sees 5 = .ok (.iload_n 1, 1) := by decide +kernel
theorem dX6_sees_6 : decode cX6_sees 6 = .ok (.iconst 1, 1) := by decide +kernel
theorem dX6_sees_7 : decode cX6_sees 7 = .ok (.sipush 9999, 3) := by decide +kernel
theorem dX6_sees_10 : decode cX6_sees 10 = .ok (.invokestatic 43, 3) := by decide +kernel
theorem dX6_sees_13 : decode cX6_sees 13 = .ok (.ifCond .eq 12, 3) := by decide +kernel
theorem dX6_sees_16 : decode cX6_sees 16 = .ok (.iload_n 2, 1) := by decide +kernel
theorem dX6_sees_17 : decode cX6_sees 17 = .ok (.iconst 0, 1) := by decide +kernel
theorem dX6_sees_18 : decode cX6_sees 18 = .ok (.iconst 1, 1) := by decide +kernel
theorem dX6_sees_19 : decode cX6_sees 19 = .ok (.invokestatic 43, 3) := by decide +kernel
theorem dX6_sees_22 : decode cX6_sees 22 = .ok (.ifCond .ne 6, 3) := by decide +kernel
theorem dX6_sees_25 : decode cX6_sees 25 = .ok (.ldc 71, 2) := by decide +kernel
theorem dX6_sees_27 : decode cX6_sees 27 = .ok (.ireturn, 1) := by decide +kernel
theorem dX6_sees_28 : decode cX6_sees 28 = .ok (.aload_n 0, 1) := by decide +kernel
theorem dX6_sees_29 : decode cX6_sees 29 = .ok (.getfield 124, 3) := by decide +kernel
theorem dX6_sees_32 : decode cX6_sees 32 = .ok (.bipush 6, 2) := by decide +kernel
theorem dX6_sees_34 : decode cX6_sees 34 = .ok (.if_icmp .ne 6, 3) := by decide +kernel
theorem dX6_sees_37 : decode cX6_sees 37 = .ok (.ldc 127, 2) := by decide +kernel
theorem dX6_sees_39 : decode cX6_sees 39 = .ok (.ireturn, 1) := by decide +kernel
theorem dX6_sees_40 : decode cX6_sees 40 = .ok (.aload_n 0, 1) := by decide +kernel
theorem dX6_sees_41 : decode cX6_sees 41 = .ok (.getfield 23, 3) := by decide +kernel
theorem dX6_sees_44 : decode cX6_sees 44 = .ok (.aload_n 0, 1) := by decide +kernel
theorem dX6_sees_45 : decode cX6_sees 45 = .ok (.getfield 124, 3) := by decide +kernel
theorem dX6_sees_48 : decode cX6_sees 48 = .ok (.iload_n 1, 1) := by decide +kernel
theorem dX6_sees_49 : decode cX6_sees 49 = .ok (.iastore, 1) := by decide +kernel
theorem dX6_sees_50 : decode cX6_sees 50 = .ok (.aload_n 0, 1) := by decide +kernel
theorem dX6_sees_51 : decode cX6_sees 51 = .ok (.getfield 26, 3) := by decide +kernel
theorem dX6_sees_54 : decode cX6_sees 54 = .ok (.aload_n 0, 1) := by decide +kernel
theorem dX6_sees_55 : decode cX6_sees 55 = .ok (.getfield 124, 3) := by decide +kernel
theorem dX6_sees_58 : decode cX6_sees 58 = .ok (.iload_n 2, 1) := by decide +kernel
theorem dX6_sees_59 : decode cX6_sees 59 = .ok (.iastore, 1) := by decide +kernel
theorem dX6_sees_60 : decode cX6_sees 60 = .ok (.aload_n 0, 1) := by decide +kernel
theorem dX6_sees_61 : decode cX6_sees 61 = .ok (.dup, 1) := by decide +kernel
theorem dX6_sees_62 : decode cX6_sees 62 = .ok (.getfield 124, 3) := by decide +kernel
theorem dX6_sees_65 : decode cX6_sees 65 = .ok (.iconst 1, 1) := by decide +kernel
theorem dX6_sees_66 : decode cX6_sees 66 = .ok (.iadd, 1) := by decide +kernel
theorem dX6_sees_67 : decode cX6_sees 67 = .ok (.putfield 124, 3) := by decide +kernel
theorem dX6_sees_70 : decode cX6_sees 70 = .ok (.aload_n 0, 1) := by decide +kernel
theorem dX6_sees_71 : decode cX6_sees 71 = .ok (.getfield 124, 3) := by decide +kernel
theorem dX6_sees_74 : decode cX6_sees 74 = .ok (.ireturn, 1) := by decide +kernel
theorem dX6_forget_0 : decode cX6_forget 0 = .ok (.aload_n 0, 1) := by decide +kernel
theorem dX6_forget_1 : decode cX6_forget 1 = .ok (.iconst 0, 1) := by decide +kernel
theorem dX6_forget_2 : decode cX6_forget 2 = .ok (.putfield 39, 3) := by decide +kernel
theorem dX6_forget_5 : decode cX6_forget 5 = .ok (.aload_n 0, 1) := by decide +kernel
theorem dX6_forget_6 : decode cX6_forget 6 = .ok (.getfield 124, 3) := by decide +kernel
theorem dX6_forget_9 : decode cX6_forget 9 = .ok (.istore_n 1, 1) := by decide +kernel
theorem dX6_forget_10 : decode cX6_forget 10 = .ok (.aload_n 0, 1) := by decide +kernel
theorem dX6_forget_11 : decode cX6_forget 11 = .ok (.iconst 0, 1) := by decide +kernel
theorem dX6_forget_12 : decode cX6_forget 12 = .ok (.putfield 124, 3) := by decide +kernel
theorem dX6_forget_15 : decode cX6_forget 15 = .ok (.iload_n 1, 1) := by decide +kernel
theorem dX6_forget_16 : decode cX6_forget 16 = .ok (.ireturn, 1) := by decide +kernel
theorem dX6_marks_0 : decode cX6_marks 0 = .ok (.iconst 0, 1) := by decide +kernel
theorem dX6_marks_1 : decode cX6_marks 1 = .ok (.istore_n 1, 1) := by decide +kernel
theorem dX6_marks_2 : decode cX6_marks 2 = .ok (.iconst 3, 1) := by decide +kernel
theorem dX6_marks_3 : decode cX6_marks 3 = .ok (.istore_n 2, 1) := by decide +kernel
theorem dX6_marks_4 : decode cX6_marks 4 = .ok (.iload_n 2, 1) := by decide +kernel
theorem dX6_marks_5 : decode cX6_marks 5 = .ok (.sipush 200, 3) := by decide +kernel
theorem dX6_marks_8 : decode cX6_marks 8 = .ok (.if_icmp .ge 94, 3) := by decide +kernel
theorem dX6_marks_11 : decode cX6_marks 11 = .ok (.iconst 1, 1) := by decide +kernel
theorem dX6_marks_12 : decode cX6_marks 12 = .ok (.istore_n 3, 1) := by decide +kernel
theorem dX6_marks_13 : decode cX6_marks 13 = .ok (.iconst 0, 1) := by decide +kernel
theorem dX6_marks_14 : decode cX6_marks 14 = .ok (.istore 4, 2) := by decide +kernel
theorem dX6_marks_16 : decode cX6_marks 16 = .ok (.iload 4, 2) := by decide +kernel
theorem dX6_marks_18 : decode cX6_marks 18 = .ok (.aload_n 0, 1) := by decide +kernel
theorem dX6_marks_19 : decode cX6_marks 19 = .ok (.getfield 124, 3) := by decide +kernel
theorem dX6_marks_22 : decode cX6_marks 22 = .ok (.if_icmp .ge 55, 3) := by decide +kernel
theorem dX6_marks_25 : decode cX6_marks 25 = .ok (.iload_n 3, 1) := by decide +kernel
theorem dX6_marks_26 : decode cX6_marks 26 = .ok (.ifCond .eq 43, 3) := by decide +kernel
theorem dX6_marks_29 : decode cX6_marks 29 = .ok (.aload_n 0, 1) := by decide +kernel
theorem dX6_marks_30 : decode cX6_marks 30 = .ok (.getfield 23, 3) := by decide +kernel
theorem dX6_marks_33 : decode cX6_marks 33 = .ok (.iload 4, 2) := by decide +kernel
theorem dX6_marks_35 : decode cX6_marks 35 = .ok (.iaload, 1) := by decide +kernel
theorem dX6_marks_36 : decode cX6_marks 36 = .ok (.iload_n 2, 1) := by decide +kernel
theorem dX6_marks_37 : decode cX6_marks 37 = .ok (.irem, 1) := by decide +kernel
theorem dX6_marks_38 : decode cX6_marks 38 = .ok (.ifCond .ne 7, 3) := by decide +kernel
theorem dX6_marks_41 : decode cX6_marks 41 = .ok (.iconst 1, 1) := by decide +kernel
theorem dX6_marks_42 : decode cX6_marks 42 = .ok (.goto 4, 3) := by decide +kernel
theorem dX6_marks_45 : decode cX6_marks 45 = .ok (.iconst 0, 1) := by decide +kernel
theorem dX6_marks_46 : decode cX6_marks 46 = .ok (.aload_n 0, 1) := by decide +kernel
theorem dX6_marks_47 : decode cX6_marks 47 = .ok (.getfield 26, 3) := by decide +kernel
theorem dX6_marks_50 : decode cX6_marks 50 = .ok (.iload 4, 2) := by decide +kernel
theorem dX6_marks_52 : decode cX6_marks 52 = .ok (.iaload, 1) := by decide +kernel
theorem dX6_marks_53 : decode cX6_marks 53 = .ok (.iconst 1, 1) := by decide +kernel
theorem dX6_marks_54 : decode cX6_marks 54 = .ok (.if_icmp .ne 7, 3) := by decide +kernel
theorem dX6_marks_57 : decode cX6_marks 57 = .ok (.iconst 1, 1) := by decide +kernel
theorem dX6_marks_58 : decode cX6_marks 58 = .ok (.goto 4, 3) := by decide +kernel
theorem dX6_marks_61 : decode cX6_marks 61 = .ok (.iconst 0, 1) := by decide +kernel
theorem dX6_marks_62 : decode cX6_marks 62 = .ok (.if_icmp .ne 7, 3) := by decide +kernel
theorem dX6_marks_65 : decode cX6_marks 65 = .ok (.iconst 1, 1) := by decide +kernel
theorem dX6_marks_66 : decode cX6_marks 66 = .ok (.goto 4, 3) := by decide +kernel
theorem dX6_marks_69 : decode cX6_marks 69 = .ok (.iconst 0, 1) := by decide +kernel
theorem dX6_marks_70 : decode cX6_marks 70 = .ok (.istore_n 3, 1) := by decide +kernel
theorem dX6_marks_71 : decode cX6_marks 71 = .ok (.iinc 4 1, 3) := by decide +kernel
theorem dX6_marks_74 : decode cX6_marks 74 = .ok (.goto (-58), 3) := by decide +kernel
theorem dX6_marks_77 : decode cX6_marks 77 = .ok (.aload_n 0, 1) := by decide +kernel
theorem dX6_marks_78 : decode cX6_marks 78 = .ok (.getfield 36, 3) := by decide +kernel
theorem dX6_marks_81 : decode cX6_marks 81 = .ok (.iload_n 2, 1) := by decide +kernel
theorem dX6_marks_82 : decode cX6_marks 82 = .ok (.iload_n 3, 1) := by decide +kernel
theorem dX6_marks_83 : decode cX6_marks 83 = .ok (.bastore, 1) := by decide +kernel
theorem dX6_marks_84 : decode cX6_marks 84 = .ok (.iload_n 1, 1) := by decide +kernel
theorem dX6_marks_85 : decode cX6_marks 85 = .ok (.iload_n 3, 1) := by decide +kernel
theorem dX6_marks_86 : decode cX6_marks 86 = .ok (.ifCond .eq 7, 3) := by decide +kernel
theorem dX6_marks_89 : decode cX6_marks 89 = .ok (.iconst 1, 1) := by decide +kernel
theorem dX6_marks_90 : decode cX6_marks 90 = .ok (.goto 4, 3) := by decide +kernel
theorem dX6_marks_93 : decode cX6_marks 93 = .ok (.iconst 0, 1) := by decide +kernel
theorem dX6_marks_94 : decode cX6_marks 94 = .ok (.iadd, 1) := by decide +kernel
theorem dX6_marks_95 : decode cX6_marks 95 = .ok (.istore_n 1, 1) := by decide +kernel
theorem dX6_marks_96 : decode cX6_marks 96 = .ok (.iinc 2 2, 3) := by decide +kernel
theorem dX6_marks_99 : decode cX6_marks 99 = .ok (.goto (-95), 3) := by decide +kernel
theorem dX6_marks_102 : decode cX6_marks 102 = .ok (.iload_n 1, 1) := by decide +kernel
theorem dX6_marks_103 : decode cX6_marks 103 = .ok (.ireturn, 1) := by decide +kernel
set_option maxRecDepth 20000 in
theorem ggX6_unseen_X6_in : GoodIn wsX6_unseen wsX6_in := goodIn_r _ [8] (by decide +kernel) (by decide +kernel)
set_option maxRecDepth 20000 in
theorem gX6_unseen_X6_in : GoodIn wsX6_unseen (va_wsS RX6 43 yX6_in wsX6_in) := goodIn_app (goodIn_of _ (by decide +kernel)) ggX6_unseen_X6_in
set_option maxRecDepth 20000 in
theorem ggX6_unseen_X6_marks : GoodIn wsX6_unseen wsX6_marks := goodIn_r _ [12, 13, 14, 15, 3, 16, 17, 18, 19, 20, 21, 22, 23, 24, 25, 26, 27] (by decide +kernel) (by decide +kernel)
set_option maxRecDepth 20000 in
theorem gX6_unseen_X6_marks : GoodIn wsX6_unseen (wsV RX6 128 RX6 yX6_marks wsX6_marks) := goodIn_app (goodIn_of _ (by decide +kernel)) ggX6_unseen_X6_marks
theorem dX6_unseen_0 : decode cX6_unseen 0 = .ok (.aload_n 0, 1) := by decide +kernel
theorem dX6_unseen_1 : decode cX6_unseen 1 = .ok (.iconst 0, 1) := by decide +kernel
theorem dX6_unseen_2 : decode cX6_unseen 2 = .ok (.putfield 39, 3) := by decide +kernel
theorem dX6_unseen_5 : decode cX6_unseen 5 = .ok (.iload_n 1, 1) := by decide +kernel
theorem dX6_unseen_6 : decode cX6_unseen 6 = .ok (.iconst 0, 1) := by decide +kernel
theorem dX6_unseen_7 : decode cX6_unseen 7 = .ok (.iconst 1, 1) := by decide +kernel
theorem dX6_unseen_8 : decode cX6_unseen 8 = .ok (.invokestatic 43, 3) := by decide +kernel
theorem dX6_unseen_11 : decode cX6_unseen 11 = .ok (.ifCond .ne 6, 3) := by decide +kernel
theorem dX6_unseen_14 : decode cX6_unseen 14 = .ok (.ldc 71, 2) := by decide +kernel
theorem dX6_unseen_16 : decode cX6_unseen 16 = .ok (.ireturn, 1) := by decide +kernel
theorem dX6_unseen_17 : decode cX6_unseen 17 = .ok (.aload_n 0, 1) := by decide +kernel
theorem dX6_unseen_18 : decode cX6_unseen 18 = .ok (.invokevirtual 128, 3) := by decide +kernel
theorem dX6_unseen_21 : decode cX6_unseen 21 = .ok (.istore_n 2, 1) := by decide +kernel
theorem dX6_unseen_22 : decode cX6_unseen 22 = .ok (.iconst 3, 1) := by decide +kernel
theorem dX6_unseen_23 : decode cX6_unseen 23 = .ok (.istore_n 3, 1) := by decide +kernel
theorem dX6_unseen_24 : decode cX6_unseen 24 = .ok (.iload_n 3, 1) := by decide +kernel
theorem dX6_unseen_25 : decode cX6_unseen 25 = .ok (.sipush 200, 3) := by decide +kernel
theorem dX6_unseen_28 : decode cX6_unseen 28 = .ok (.if_icmp .ge 18, 3) := by decide +kernel
theorem dX6_unseen_31 : decode cX6_unseen 31 = .ok (.aload_n 0, 1) := by decide +kernel
theorem dX6_unseen_32 : decode cX6_unseen 32 = .ok (.getfield 36, 3) := by decide +kernel
theorem dX6_unseen_35 : decode cX6_unseen 35 = .ok (.iload_n 3, 1) := by decide +kernel
theorem dX6_unseen_36 : decode cX6_unseen 36 = .ok (.baload, 1) := by decide +kernel
theorem dX6_unseen_37 : decode cX6_unseen 37 = .ok (.ifCond .ne 9, 3) := by decide +kernel
theorem dX6_unseen_40 : decode cX6_unseen 40 = .ok (.iinc 3 2, 3) := by decide +kernel
theorem dX6_unseen_43 : decode cX6_unseen 43 = .ok (.goto (-19), 3) := by decide +kernel
theorem dX6_unseen_46 : decode cX6_unseen 46 = .ok (.iload_n 1, 1) := by decide +kernel
theorem dX6_unseen_47 : decode cX6_unseen 47 = .ok (.ifCond .ne 7, 3) := by decide +kernel
theorem dX6_unseen_50 : decode cX6_unseen 50 = .ok (.iload_n 2, 1) := by decide +kernel
theorem dX6_unseen_51 : decode cX6_unseen 51 = .ok (.goto 16, 3) := by decide +kernel
theorem dX6_unseen_54 : decode cX6_unseen 54 = .ok (.iload_n 3, 1) := by decide +kernel
theorem dX6_unseen_55 : decode cX6_unseen 55 = .ok (.sipush 200, 3) := by decide +kernel
theorem dX6_unseen_58 : decode cX6_unseen 58 = .ok (.if_icmp .ge 7, 3) := by decide +kernel
theorem dX6_unseen_61 : decode cX6_unseen 61 = .ok (.iload_n 3, 1) := by decide +kernel
theorem dX6_unseen_62 : decode cX6_unseen 62 = .ok (.goto 5, 3) := by decide +kernel
theorem dX6_unseen_65 : decode cX6_unseen 65 = .ok (.ldc 110, 2) := by decide +kernel
theorem dX6_unseen_67 : decode cX6_unseen 67 = .ok (.ireturn, 1) := by decide +kernel
set_option maxRecDepth 20000 in
theorem ggX6_next_X6_marks : GoodIn wsX6_next wsX6_marks := goodIn_r _ [8, 9, 10, 11, 3, 12, 13, 14, 15, 16, 17, 18, 19, 20, 21, 22, 23] (by decide +kernel) (by decide +kernel)
set_option maxRecDepth 20000 in
theorem gX6_next_X6_marks : GoodIn wsX6_next (wsV RX6 128 RX6 yX6_marks wsX6_marks) := goodIn_app (goodIn_of _ (by decide +kernel)) ggX6_next_X6_marks
theorem dX6_next_0 : decode cX6_next 0 = .ok (.aload_n 0, 1) := by decide +kernel
theorem dX6_next_1 : decode cX6_next 1 = .ok (.iconst 0, 1) := by decide +kernel
theorem dX6_next_2 : decode cX6_next 2 = .ok (.putfield 39, 3) := by decide +kernel
theorem dX6_next_5 : decode cX6_next 5 = .ok (.aload_n 0, 1) := by decide +kernel
theorem dX6_next_6 : decode cX6_next 6 = .ok (.invokevirtual 128, 3) := by decide +kernel
theorem dX6_next_9 : decode cX6_next 9 = .ok (.istore_n 1, 1) := by decide +kernel
theorem dX6_next_10 : decode cX6_next 10 = .ok (.ldc 110, 2) := by decide +kernel
theorem dX6_next_12 : decode cX6_next 12 = .ok (.istore_n 2, 1) := by decide +kernel
theorem dX6_next_13 : decode cX6_next 13 = .ok (.sipush 999, 3) := by decide +kernel
theorem dX6_next_16 : decode cX6_next 16 = .ok (.istore_n 3, 1) := by decide +kernel
theorem dX6_next_17 : decode cX6_next 17 = .ok (.iconst 1, 1) := by decide +kernel
theorem dX6_next_18 : decode cX6_next 18 = .ok (.istore 4, 2) := by decide +kernel
theorem dX6_next_20 : decode cX6_next 20 = .ok (.iload 4, 2) := by decide +kernel
theorem dX6_next_22 : decode cX6_next 22 = .ok (.bipush 100, 2) := by decide +kernel
theorem dX6_next_24 : decode cX6_next 24 = .ok (.if_icmp .ge 108, 3) := by decide +kernel
theorem dX6_next_27 : decode cX6_next 27 = .ok (.iload_n 1, 1) := by decide +kernel
theorem dX6_next_28 : decode cX6_next 28 = .ok (.iconst 1, 1) := by decide +kernel
theorem dX6_next_29 : decode cX6_next 29 = .ok (.if_icmp .le 103, 3) := by decide +kernel
theorem dX6_next_32 : decode cX6_next 32 = .ok (.iconst 0, 1) := by decide +kernel
theorem dX6_next_33 : decode cX6_next 33 = .ok (.istore 5, 2) := by decide +kernel
theorem dX6_next_35 : decode cX6_next 35 = .ok (.iconst 3, 1) := by decide +kernel
theorem dX6_next_36 : decode cX6_next 36 = .ok (.istore 6, 2) := by decide +kernel
theorem dX6_next_38 : decode cX6_next 38 = .ok (.iload 6, 2) := by decide +kernel
theorem dX6_next_40 : decode cX6_next 40 = .ok (.sipush 200, 3) := by decide +kernel
theorem dX6_next_43 : decode cX6_next 43 = .ok (.if_icmp .ge 37, 3) := by decide +kernel
theorem dX6_next_46 : decode cX6_next 46 = .ok (.iload 5, 2) := by decide +kernel
theorem dX6_next_48 : decode cX6_next 48 = .ok (.aload_n 0, 1) := by decide +kernel
theorem dX6_next_49 : decode cX6_next 49 = .ok (.getfield 36, 3) := by decide +kernel
theorem dX6_next_52 : decode cX6_next 52 = .ok (.iload 6, 2) := by decide +kernel
theorem dX6_next_54 : decode cX6_next 54 = .ok (.baload, 1) := by decide +kernel
theorem dX6_next_55 : decode cX6_next 55 = .ok (.ifCond .eq 15, 3) := by decide +kernel
theorem dX6_next_58 : decode cX6_next 58 = .ok (.iload 4, 2) := by decide +kernel
theorem dX6_next_60 : decode cX6_next 60 = .ok (.iload 6, 2) := by decide +kernel
theorem dX6_next_62 : decode cX6_next 62 = .ok (.irem, 1) := by decide +kernel
theorem dX6_next_63 : decode cX6_next 63 = .ok (.ifCond .ne 7, 3) := by decide +kernel
theorem dX6_next_66 : decode cX6_next 66 = .ok (.iconst 1, 1) := by decide +kernel
theorem dX6_next_67 : decode cX6_next 67 = .ok (.goto 4, 3) := by decide +kernel
theorem dX6_next_70 : decode cX6_next 70 = .ok (.iconst 0, 1) := by decide +kernel
theorem dX6_next_71 : decode cX6_next 71 = .ok (.iadd, 1) := by decide +kernel
theorem dX6_next_72 : decode cX6_next 72 = .ok (.istore 5, 2) := by decide +kernel
theorem dX6_next_74 : decode cX6_next 74 = .ok (.iinc 6 2, 3) := by decide +kernel
theorem dX6_next_77 : decode cX6_next 77 = .ok (.goto (-39), 3) := by decide +kernel
theorem dX6_next_80 : decode cX6_next 80 = .ok (.iload 5, 2) := by decide +kernel
theorem dX6_next_82 : decode cX6_next 82 = .ok (.iload_n 1, 1) := by decide +kernel
theorem dX6_next_83 : decode cX6_next 83 = .ok (.iload 5, 2) := by decide +kernel
theorem dX6_next_85 : decode cX6_next 85 = .ok (.isub, 1) := by decide +kernel
theorem dX6_next_86 : decode cX6_next 86 = .ok (.if_icmp .le 8, 3) := by decide +kernel
theorem dX6_next_89 : decode cX6_next 89 = .ok (.iload 5, 2) := by decide +kernel
theorem dX6_next_91 : decode cX6_next 91 = .ok (.goto 7, 3) := by decide +kernel
theorem dX6_next_94 : decode cX6_next 94 = .ok (.iload_n 1, 1) := by decide +kernel
theorem dX6_next_95 : decode cX6_next 95 = .ok (.iload 5, 2) := by decide +kernel
theorem dX6_next_97 : decode cX6_next 97 = .ok (.isub, 1) := by decide +kernel
theorem dX6_next_98 : decode cX6_next 98 = .ok (.istore 6, 2) := by decide +kernel
theorem dX6_next_100 : decode cX6_next 100 = .ok (.iload 6, 2) := by decide +kernel
theorem dX6_next_102 : decode cX6_next 102 = .ok (.iload_n 3, 1) := by decide +kernel
theorem dX6_next_103 : decode cX6_next 103 = .ok (.if_icmp .ge 8, 3) := by decide +kernel
theorem dX6_next_106 : decode cX6_next 106 = .ok (.iload 4, 2) := by decide +kernel
theorem dX6_next_108 : decode cX6_next 108 = .ok (.goto 4, 3) := by decide +kernel
theorem dX6_next_111 : decode cX6_next 111 = .ok (.iload_n 2, 1) := by decide +kernel
theorem dX6_next_112 : decode cX6_next 112 = .ok (.istore_n 2, 1) := by decide +kernel
theorem dX6_next_113 : decode cX6_next 113 = .ok (.iload 6, 2) := by decide +kernel
theorem dX6_next_115 : decode cX6_next 115 = .ok (.iload_n 3, 1) := by decide +kernel
theorem dX6_next_116 : decode cX6_next 116 = .ok (.if_icmp .ge 8, 3) := by decide +kernel
theorem dX6_next_119 : decode cX6_next 119 = .ok (.iload 6, 2) := by decide +kernel
theorem dX6_next_121 : decode cX6_next 121 = .ok (.goto 4, 3) := by decide +kernel
theorem dX6_next_124 : decode cX6_next 124 = .ok (.iload_n 3, 1) := by decide +kernel
theorem dX6_next_125 : decode cX6_next 125 = .ok (.istore_n 3, 1) := by decide +kernel
theorem dX6_next_126 : decode cX6_next 126 = .ok (.iinc 4 1, 3) := by decide +kernel
theorem dX6_next_129 : decode cX6_next 129 = .ok (.goto (-109), 3) := by decide +kernel
theorem dX6_next_132 : decode cX6_next 132 = .ok (.iload_n 2, 1) := by decide +kernel
theorem dX6_next_133 : decode cX6_next 133 = .ok (.ireturn, 1) := by decide +kernel
set_option maxRecDepth 20000 in
theorem ggX6_keep_X6_in : GoodIn wsX6_keep wsX6_in := goodIn_r _ [9] (by decide +kernel) (by decide +kernel)
set_option maxRecDepth 20000 in
theorem gX6_keep_X6_in : GoodIn wsX6_keep (va_wsS RX6 43 yX6_in wsX6_in) := goodIn_app (goodIn_of _ (by decide +kernel)) ggX6_keep_X6_in
theorem dX6_keep_0 : decode cX6_keep 0 = .ok (.aload_n 0, 1) := by decide +kernel
theorem dX6_keep_1 : decode cX6_keep 1 = .ok (.iconst 0, 1) := by decide +kernel
theorem dX6_keep_2 : decode cX6_keep 2 = .ok (.putfield 39, 3) := by decide +kernel
theorem dX6_keep_5 : decode cX6_keep 5 = .ok (.iload_n 1, 1) := by decide +kernel
theorem dX6_keep_6 : decode cX6_keep 6 = .ok (.iconst 0, 1) := by decide +kernel
theorem dX6_keep_7 : decode cX6_keep 7 = .ok (.iconst 1, 1) := by decide +kernel
theorem dX6_keep_8 : decode cX6_keep 8 = .ok (.invokestatic 43, 3) := by decide +kernel
theorem dX6_keep_11 : decode cX6_keep 11 = .ok (.ifCond .ne 6, 3) := by decide +kernel
theorem dX6_keep_14 : decode cX6_keep 14 = .ok (.ldc 71, 2) := by decide +kernel
theorem dX6_keep_16 : decode cX6_keep 16 = .ok (.ireturn, 1) := by decide +kernel
theorem dX6_keep_17 : decode cX6_keep 17 = .ok (.iconst 0, 1) := by decide +kernel
theorem dX6_keep_18 : decode cX6_keep 18 = .ok (.istore_n 2, 1) := by decide +kernel
theorem dX6_keep_19 : decode cX6_keep 19 = .ok (.iload_n 2, 1) := by decide +kernel
theorem dX6_keep_20 : decode cX6_keep 20 = .ok (.bipush 10, 2) := by decide +kernel
theorem dX6_keep_22 : decode cX6_keep 22 = .ok (.if_icmp .ge 26, 3) := by decide +kernel
theorem dX6_keep_25 : decode cX6_keep 25 = .ok (.aload_n 0, 1) := by decide +kernel
theorem dX6_keep_26 : decode cX6_keep 26 = .ok (.getfield 16, 3) := by decide +kernel
theorem dX6_keep_29 : decode cX6_keep 29 = .ok (.bipush 10, 2) := by decide +kernel
theorem dX6_keep_31 : decode cX6_keep 31 = .ok (.iload_n 1, 1) := by decide +kernel
theorem dX6_keep_32 : decode cX6_keep 32 = .ok (.imul, 1) := by decide +kernel
theorem dX6_keep_33 : decode cX6_keep 33 = .ok (.iload_n 2, 1) := by decide +kernel
theorem dX6_keep_34 : decode cX6_keep 34 = .ok (.iadd, 1) := by decide +kernel
theorem dX6_keep_35 : decode cX6_keep 35 = .ok (.aload_n 0, 1) := by decide +kernel
theorem dX6_keep_36 : decode cX6_keep 36 = .ok (.getfield 7, 3) := by decide +kernel
theorem dX6_keep_39 : decode cX6_keep 39 = .ok (.iload_n 2, 1) := by decide +kernel
theorem dX6_keep_40 : decode cX6_keep 40 = .ok (.iaload, 1) := by decide +kernel
theorem dX6_keep_41 : decode cX6_keep 41 = .ok (.iastore, 1) := by decide +kernel
theorem dX6_keep_42 : decode cX6_keep 42 = .ok (.iinc 2 1, 3) := by decide +kernel
theorem dX6_keep_45 : decode cX6_keep 45 = .ok (.goto (-26), 3) := by decide +kernel
theorem dX6_keep_48 : decode cX6_keep 48 = .ok (.aload_n 0, 1) := by decide +kernel
theorem dX6_keep_49 : decode cX6_keep 49 = .ok (.getfield 19, 3) := by decide +kernel
theorem dX6_keep_52 : decode cX6_keep 52 = .ok (.iload_n 1, 1) := by decide +kernel
theorem dX6_keep_53 : decode cX6_keep 53 = .ok (.iconst 1, 1) := by decide +kernel
theorem dX6_keep_54 : decode cX6_keep 54 = .ok (.bastore, 1) := by decide +kernel
theorem dX6_keep_55 : decode cX6_keep 55 = .ok (.aload_n 0, 1) := by decide +kernel
theorem dX6_keep_56 : decode cX6_keep 56 = .ok (.getfield 7, 3) := by decide +kernel
theorem dX6_keep_59 : decode cX6_keep 59 = .ok (.iconst 0, 1) := by decide +kernel
theorem dX6_keep_60 : decode cX6_keep 60 = .ok (.iaload, 1) := by decide +kernel
theorem dX6_keep_61 : decode cX6_keep 61 = .ok (.ireturn, 1) := by decide +kernel
set_option maxRecDepth 20000 in
theorem ggX6_back_X6_in : GoodIn wsX6_back wsX6_in := goodIn_r _ [11] (by decide +kernel) (by decide +kernel)
set_option maxRecDepth 20000 in
theorem gX6_back_X6_in : GoodIn wsX6_back (va_wsS RX6 43 yX6_in wsX6_in) := goodIn_app (goodIn_of _ (by decide +kernel)) ggX6_back_X6_in
theorem dX6_back_0 : decode cX6_back 0 = .ok (.aload_n 0, 1) := by decide +kernel
theorem dX6_back_1 : decode cX6_back 1 = .ok (.iconst 0, 1) := by decide +kernel
theorem dX6_back_2 : decode cX6_back 2 = .ok (.putfield 39, 3) := by decide +kernel
theorem dX6_back_5 : decode cX6_back 5 = .ok (.iload_n 1, 1) := by decide +kernel
theorem dX6_back_6 : decode cX6_back 6 = .ok (.iconst 0, 1) := by decide +kernel
theorem dX6_back_7 : decode cX6_back 7 = .ok (.iconst 1, 1) := by decide +kernel
theorem dX6_back_8 : decode cX6_back 8 = .ok (.invokestatic 43, 3) := by decide +kernel
theorem dX6_back_11 : decode cX6_back 11 = .ok (.ifCond .ne 6, 3) := by decide +kernel
theorem dX6_back_14 : decode cX6_back 14 = .ok (.ldc 71, 2) := by decide +kernel
theorem dX6_back_16 : decode cX6_back 16 = .ok (.ireturn, 1) := by decide +kernel
theorem dX6_back_17 : decode cX6_back 17 = .ok (.aload_n 0, 1) := by decide +kernel
theorem dX6_back_18 : decode cX6_back 18 = .ok (.getfield 19, 3) := by decide +kernel
theorem dX6_back_21 : decode cX6_back 21 = .ok (.iload_n 1, 1) := by decide +kernel
theorem dX6_back_22 : decode cX6_back 22 = .ok (.baload, 1) := by decide +kernel
theorem dX6_back_23 : decode cX6_back 23 = .ok (.ifCond .ne 6, 3) := by decide +kernel
theorem dX6_back_26 : decode cX6_back 26 = .ok (.ldc 78, 2) := by decide +kernel
theorem dX6_back_28 : decode cX6_back 28 = .ok (.ireturn, 1) := by decide +kernel
theorem dX6_back_29 : decode cX6_back 29 = .ok (.iconst 0, 1) := by decide +kernel
theorem dX6_back_30 : decode cX6_back 30 = .ok (.istore_n 2, 1) := by decide +kernel
theorem dX6_back_31 : decode cX6_back 31 = .ok (.iload_n 2, 1) := by decide +kernel
theorem dX6_back_32 : decode cX6_back 32 = .ok (.bipush 10, 2) := by decide +kernel
theorem dX6_back_34 : decode cX6_back 34 = .ok (.if_icmp .ge 26, 3) := by decide +kernel
theorem dX6_back_37 : decode cX6_back 37 = .ok (.aload_n 0, 1) := by decide +kernel
theorem dX6_back_38 : decode cX6_back 38 = .ok (.getfield 7, 3) := by decide +kernel
theorem dX6_back_41 : decode cX6_back 41 = .ok (.iload_n 2, 1) := by decide +kernel
theorem dX6_back_42 : decode cX6_back 42 = .ok (.aload_n 0, 1) := by decide +kernel
theorem dX6_back_43 : decode cX6_back 43 = .ok (.getfield 16, 3) := by decide +kernel
theorem dX6_back_46 : decode cX6_back 46 = .ok (.bipush 10, 2) := by decide +kernel
theorem dX6_back_48 : decode cX6_back 48 = .ok (.iload_n 1, 1) := by decide +kernel
theorem dX6_back_49 : decode cX6_back 49 = .ok (.imul, 1) := by decide +kernel
theorem dX6_back_50 : decode cX6_back 50 = .ok (.iload_n 2, 1) := by decide +kernel
theorem dX6_back_51 : decode cX6_back 51 = .ok (.iadd, 1) := by decide +kernel
theorem dX6_back_52 : decode cX6_back 52 = .ok (.iaload, 1) := by decide +kernel
theorem dX6_back_53 : decode cX6_back 53 = .ok (.iastore, 1) := by decide +kernel
theorem dX6_back_54 : decode cX6_back 54 = .ok (.iinc 2 1, 3) := by decide +kernel
theorem dX6_back_57 : decode cX6_back 57 = .ok (.goto (-26), 3) := by decide +kernel
theorem dX6_back_60 : decode cX6_back 60 = .ok (.aload_n 0, 1) := by decide +kernel
theorem dX6_back_61 : decode cX6_back 61 = .ok (.iconst 0, 1) := by decide +kernel
theorem dX6_back_62 : decode cX6_back 62 = .ok (.putfield 65, 3) := by decide +kernel
theorem dX6_back_65 : decode cX6_back 65 = .ok (.aload_n 0, 1) := by decide +kernel
theorem dX6_back_66 : decode cX6_back 66 = .ok (.getfield 7, 3) := by decide +kernel
theorem dX6_back_69 : decode cX6_back 69 = .ok (.iconst 0, 1) := by decide +kernel
theorem dX6_back_70 : decode cX6_back 70 = .ok (.iaload, 1) := by decide +kernel
theorem dX6_back_71 : decode cX6_back 71 = .ok (.ireturn, 1) := by decide +kernel
set_option maxRecDepth 20000 in
theorem ggX6_rightMany_X6_isRight : GoodIn wsX6_rightMany wsX6_isRight := goodIn_r _ [6, 1, 7, 8, 9, 5, 10, 11, 12, 13, 14, 15, 16, 17, 18, 19, 20, 21, 22, 23, 24, 25, 26, 27, 28, 29, 30, 31, 32, 33, 34, 35, 36, 37, 38, 39, 40] (by decide +kernel) (by decide +kernel)
set_option maxRecDepth 20000 in
theorem gX6_rightMany_X6_isRight : GoodIn wsX6_rightMany (wsV RX6 93 RX6 yX6_isRight wsX6_isRight) := goodIn_app (goodIn_of _ (by decide +kernel)) ggX6_rightMany_X6_isRight
theorem dX6_rightMany_0 : decode cX6_rightMany 0 = .ok (.iconst 0, 1) := by decide +kernel
theorem dX6_rightMany_1 : decode cX6_rightMany 1 = .ok (.istore_n 1, 1) := by decide +kernel
theorem dX6_rightMany_2 : decode cX6_rightMany 2 = .ok (.iconst 0, 1) := by decide +kernel
theorem dX6_rightMany_3 : decode cX6_rightMany 3 = .ok (.istore_n 2, 1) := by decide +kernel
theorem dX6_rightMany_4 : decode cX6_rightMany 4 = .ok (.iload_n 2, 1) := by decide +kernel
theorem dX6_rightMany_5 : decode cX6_rightMany 5 = .ok (.iconst 4, 1) := by decide +kernel
theorem dX6_rightMany_6 : decode cX6_rightMany 6 = .ok (.if_icmp .ge 41, 3) := by decide +kernel
theorem dX6_rightMany_9 : decode cX6_rightMany 9 = .ok (.iload_n 1, 1) := by decide +kernel
theorem dX6_rightMany_10 : decode cX6_rightMany 10 = .ok (.aload_n 0, 1) := by decide +kernel
theorem dX6_rightMany_11 : decode cX6_rightMany 11 = .ok (.aload_n 0, 1) := by decide +kernel
theorem dX6_rightMany_12 : decode cX6_rightMany 12 = .ok (.getfield 7, 3) := by decide +kernel
theorem dX6_rightMany_15 : decode cX6_rightMany 15 = .ok (.iconst 2, 1) := by decide +kernel
theorem dX6_rightMany_16 : decode cX6_rightMany 16 = .ok (.iload_n 2, 1) := by decide +kernel
theorem dX6_rightMany_17 : decode cX6_rightMany 17 = .ok (.iadd, 1) := by decide +kernel
theorem dX6_rightMany_18 : decode cX6_rightMany 18 = .ok (.iaload, 1) := by decide +kernel
theorem dX6_rightMany_19 : decode cX6_rightMany 19 = .ok (.aload_n 0, 1) := by decide +kernel
theorem dX6_rightMany_20 : decode cX6_rightMany 20 = .ok (.getfield 7, 3) := by decide +kernel
theorem dX6_rightMany_23 : decode cX6_rightMany 23 = .ok (.bipush 6, 2) := by decide +kernel
theorem dX6_rightMany_25 : decode cX6_rightMany 25 = .ok (.iload_n 2, 1) := by decide +kernel
theorem dX6_rightMany_26 : decode cX6_rightMany 26 = .ok (.iadd, 1) := by decide +kernel
theorem dX6_rightMany_27 : decode cX6_rightMany 27 = .ok (.iaload, 1) := by decide +kernel
theorem dX6_rightMany_28 : decode cX6_rightMany 28 = .ok (.invokevirtual 93, 3) := by decide +kernel
theorem dX6_rightMany_31 : decode cX6_rightMany 31 = .ok (.ifCond .eq 7, 3) := by decide +kernel
theorem dX6_rightMany_34 : decode cX6_rightMany 34 = .ok (.iconst 1, 1) := by decide +kernel
theorem dX6_rightMany_35 : decode cX6_rightMany 35 = .ok (.goto 4, 3) := by decide +kernel
theorem dX6_rightMany_38 : decode cX6_rightMany 38 = .ok (.iconst 0, 1) := by decide +kernel
theorem dX6_rightMany_39 : decode cX6_rightMany 39 = .ok (.iadd, 1) := by decide +kernel
theorem dX6_rightMany_40 : decode cX6_rightMany 40 = .ok (.istore_n 1, 1) := by decide +kernel
theorem dX6_rightMany_41 : decode cX6_rightMany 41 = .ok (.iinc 2 1, 3) := by decide +kernel
theorem dX6_rightMany_44 : decode cX6_rightMany 44 = .ok (.goto (-40), 3) := by decide +kernel
theorem dX6_rightMany_47 : decode cX6_rightMany 47 = .ok (.iload_n 1, 1) := by decide +kernel
theorem dX6_rightMany_48 : decode cX6_rightMany 48 = .ok (.ireturn, 1) := by decide +kernel
set_option maxRecDepth 20000 in
theorem ggX6_count_X6_in : GoodIn wsX6_count wsX6_in := goodIn_r _ [9] (by decide +kernel) (by decide +kernel)
set_option maxRecDepth 20000 in
theorem gX6_count_X6_in : GoodIn wsX6_count (va_wsS RX6 43 yX6_in wsX6_in) := goodIn_app (goodIn_of _ (by decide +kernel)) ggX6_count_X6_in
set_option maxRecDepth 20000 in
theorem ggX6_count_X6_top : GoodIn wsX6_count wsX6_top := goodIn_r _ [13, 3, 37, 38, 39, 40, 41, 42, 43, 44, 45, 46, 47, 48] (by decide +kernel) (by decide +kernel)
set_option maxRecDepth 20000 in
theorem gX6_count_X6_top : GoodIn wsX6_count (wsV RX6 47 RX6 yX6_top wsX6_top) := goodIn_app (goodIn_of _ (by decide +kernel)) ggX6_count_X6_top
set_option maxRecDepth 20000 in
theorem ggX6_count_X6_reach : GoodIn wsX6_count wsX6_reach := goodIn_r _ [17, 3, 10, 11, 12, 8, 13, 37, 38, 39, 40, 41, 42, 43, 44, 45, 46, 47, 48] (by decide +kernel) (by decide +kernel)
set_option maxRecDepth 20000 in
theorem gX6_count_X6_reach : GoodIn wsX6_count (wsV RX6 55 RX6 yX6_reach wsX6_reach) := goodIn_app (goodIn_of _ (by decide +kernel)) ggX6_count_X6_reach
set_option maxRecDepth 20000 in
theorem ggX6_count_X6_rightMany : GoodIn wsX6_count wsX6_rightMany := goodIn_r _ [21, 3, 22, 23, 24, 8, 25, 26, 27, 28, 29, 30, 31, 32, 33, 14, 15, 16, 17, 10, 11, 12, 13, 6, 7, 9, 34, 35, 36, 37, 38, 39, 40, 41, 42, 43, 44, 45, 46, 47, 48] (by decide +kernel) (by decide +kernel)
set_option maxRecDepth 20000 in
theorem gX6_count_X6_rightMany : GoodIn wsX6_count (wsV RX6 131 RX6 yX6_rightMany wsX6_rightMany) := goodIn_app (goodIn_of _ (by decide +kernel)) ggX6_count_X6_rightMany
theorem dX6_count_0 : decode cX6_count 0 = .ok (.aload_n 0, 1) := by decide +kernel
theorem dX6_count_1 : decode cX6_count 1 = .ok (.iconst 0, 1) := by decide +kernel
theorem dX6_count_2 : decode cX6_count 2 = .ok (.putfield 39, 3) := by decide +kernel
theorem dX6_count_5 : decode cX6_count 5 = .ok (.iload_n 1, 1) := by decide +kernel
theorem dX6_count_6 : decode cX6_count 6 = .ok (.iconst 0, 1) := by decide +kernel
theorem dX6_count_7 : decode cX6_count 7 = .ok (.bipush 6, 2) := by decide +kernel
theorem dX6_count_9 : decode cX6_count 9 = .ok (.invokestatic 43, 3) := by decide +kernel
theorem dX6_count_12 : decode cX6_count 12 = .ok (.ifCond .ne 6, 3) := by decide +kernel
theorem dX6_count_15 : decode cX6_count 15 = .ok (.ldc 71, 2) := by decide +kernel
theorem dX6_count_17 : decode cX6_count 17 = .ok (.ireturn, 1) := by decide +kernel
theorem dX6_count_18 : decode cX6_count 18 = .ok (.iload_n 1, 1) := by decide +kernel
theorem dX6_count_19 : decode cX6_count 19 = .ok (.iconst 4, 1) := by decide +kernel
theorem dX6_count_20 : decode cX6_count 20 = .ok (.if_icmp .ge 47, 3) := by decide +kernel
theorem dX6_count_23 : decode cX6_count 23 = .ok (.iload_n 1, 1) := by decide +kernel
theorem dX6_count_24 : decode cX6_count 24 = .ok (.ifCond .ne 12, 3) := by decide +kernel
theorem dX6_count_27 : decode cX6_count 27 = .ok (.aload_n 0, 1) := by decide +kernel
theorem dX6_count_28 : decode cX6_count 28 = .ok (.getfield 7, 3) := by decide +kernel
theorem dX6_count_31 : decode cX6_count 31 = .ok (.iconst 0, 1) := by decide +kernel
theorem dX6_count_32 : decode cX6_count 32 = .ok (.iaload, 1) := by decide +kernel
theorem dX6_count_33 : decode cX6_count 33 = .ok (.goto 33, 3) := by decide +kernel
theorem dX6_count_36 : decode cX6_count 36 = .ok (.iload_n 1, 1) := by decide +kernel
theorem dX6_count_37 : decode cX6_count 37 = .ok (.iconst 1, 1) := by decide +kernel
theorem dX6_count_38 : decode cX6_count 38 = .ok (.if_icmp .ne 12, 3) := by decide +kernel
theorem dX6_count_41 : decode cX6_count 41 = .ok (.aload_n 0, 1) := by decide +kernel
theorem dX6_count_42 : decode cX6_count 42 = .ok (.getfield 7, 3) := by decide +kernel
theorem dX6_count_45 : decode cX6_count 45 = .ok (.iconst 1, 1) := by decide +kernel
theorem dX6_count_46 : decode cX6_count 46 = .ok (.iaload, 1) := by decide +kernel
theorem dX6_count_47 : decode cX6_count 47 = .ok (.goto 19, 3) := by decide +kernel
theorem dX6_count_50 : decode cX6_count 50 = .ok (.iload_n 1, 1) := by decide +kernel
theorem dX6_count_51 : decode cX6_count 51 = .ok (.iconst 2, 1) := by decide +kernel
theorem dX6_count_52 : decode cX6_count 52 = .ok (.if_icmp .ne 10, 3) := by decide +kernel
theorem dX6_count_55 : decode cX6_count 55 = .ok (.aload_n 0, 1) := by decide +kernel
theorem dX6_count_56 : decode cX6_count 56 = .ok (.invokevirtual 47, 3) := by decide +kernel
theorem dX6_count_59 : decode cX6_count 59 = .ok (.goto 7, 3) := by decide +kernel
theorem dX6_count_62 : decode cX6_count 62 = .ok (.aload_n 0, 1) := by decide +kernel
theorem dX6_count_63 : decode cX6_count 63 = .ok (.invokevirtual 55, 3) := by decide +kernel
theorem dX6_count_66 : decode cX6_count 66 = .ok (.ireturn, 1) := by decide +kernel
theorem dX6_count_67 : decode cX6_count 67 = .ok (.iload_n 1, 1) := by decide +kernel
theorem dX6_count_68 : decode cX6_count 68 = .ok (.iconst 4, 1) := by decide +kernel
theorem dX6_count_69 : decode cX6_count 69 = .ok (.if_icmp .ne 10, 3) := by decide +kernel
theorem dX6_count_72 : decode cX6_count 72 = .ok (.aload_n 0, 1) := by decide +kernel
theorem dX6_count_73 : decode cX6_count 73 = .ok (.invokevirtual 131, 3) := by decide +kernel
theorem dX6_count_76 : decode cX6_count 76 = .ok (.goto 19, 3) := by decide +kernel
theorem dX6_count_79 : decode cX6_count 79 = .ok (.iload_n 1, 1) := by decide +kernel
theorem dX6_count_80 : decode cX6_count 80 = .ok (.iconst 5, 1) := by decide +kernel
theorem dX6_count_81 : decode cX6_count 81 = .ok (.if_icmp .ne 10, 3) := by decide +kernel
theorem dX6_count_84 : decode cX6_count 84 = .ok (.aload_n 0, 1) := by decide +kernel
theorem dX6_count_85 : decode cX6_count 85 = .ok (.getfield 124, 3) := by decide +kernel
theorem dX6_count_88 : decode cX6_count 88 = .ok (.goto 7, 3) := by decide +kernel
theorem dX6_count_91 : decode cX6_count 91 = .ok (.aload_n 0, 1) := by decide +kernel
theorem dX6_count_92 : decode cX6_count 92 = .ok (.getfield 65, 3) := by decide +kernel
theorem dX6_count_95 : decode cX6_count 95 = .ok (.ireturn, 1) := by decide +kernel
theorem dJ6_bitCount_0f7a4_0 : decode cJ6_bitCount_0f7a4 0 = .ok (.iload_n 0, 1) := by decide +kernel
theorem dJ6_bitCount_0f7a4_1 : decode cJ6_bitCount_0f7a4 1 = .ok (.iload_n 0, 1) := by decide +kernel
theorem dJ6_bitCount_0f7a4_2 : decode cJ6_bitCount_0f7a4 2 = .ok (.iconst 1, 1) := by decide +kernel
theorem dJ6_bitCount_0f7a4_3 : decode cJ6_bitCount_0f7a4 3 = .ok (.iushr, 1) := by decide +kernel
theorem dJ6_bitCount_0f7a4_4 : decode cJ6_bitCount_0f7a4 4 = .ok (.ldc_w 265, 3) := by decide +kernel
theorem dJ6_bitCount_0f7a4_7 : decode cJ6_bitCount_0f7a4 7 = .ok (.iand, 1) := by decide +kernel
theorem dJ6_bitCount_0f7a4_8 : decode cJ6_bitCount_0f7a4 8 = .ok (.isub, 1) := by decide +kernel
theorem dJ6_bitCount_0f7a4_9 : decode cJ6_bitCount_0f7a4 9 = .ok (.istore_n 0, 1) := by decide +kernel
theorem dJ6_bitCount_0f7a4_10 : decode cJ6_bitCount_0f7a4 10 = .ok (.iload_n 0, 1) := by decide +kernel
theorem dJ6_bitCount_0f7a4_11 : decode cJ6_bitCount_0f7a4 11 = .ok (.ldc_w 266, 3) := by decide +kernel
theorem dJ6_bitCount_0f7a4_14 : decode cJ6_bitCount_0f7a4 14 = .ok (.iand, 1) := by decide +kernel
theorem dJ6_bitCount_0f7a4_15 : decode cJ6_bitCount_0f7a4 15 = .ok (.iload_n 0, 1) := by decide +kernel
theorem dJ6_bitCount_0f7a4_16 : decode cJ6_bitCount_0f7a4 16 = .ok (.iconst 2, 1) := by decide +kernel
theorem dJ6_bitCount_0f7a4_17 : decode cJ6_bitCount_0f7a4 17 = .ok (.iushr, 1) := by decide +kernel
theorem dJ6_bitCount_0f7a4_18 : decode cJ6_bitCount_0f7a4 18 = .ok (.ldc_w 266, 3) := by decide +kernel
theorem dJ6_bitCount_0f7a4_21 : decode cJ6_bitCount_0f7a4 21 = .ok (.iand, 1) := by decide +kernel
theorem dJ6_bitCount_0f7a4_22 : decode cJ6_bitCount_0f7a4 22 = .ok (.iadd, 1) := by decide +kernel
theorem dJ6_bitCount_0f7a4_23 : decode cJ6_bitCount_0f7a4 23 = .ok (.istore_n 0, 1) := by decide +kernel
theorem dJ6_bitCount_0f7a4_24 : decode cJ6_bitCount_0f7a4 24 = .ok (.iload_n 0, 1) := by decide +kernel
theorem dJ6_bitCount_0f7a4_25 : decode cJ6_bitCount_0f7a4 25 = .ok (.iload_n 0, 1) := by decide +kernel
theorem dJ6_bitCount_0f7a4_26 : decode cJ6_bitCount_0f7a4 26 = .ok (.iconst 4, 1) := by decide +kernel
theorem dJ6_bitCount_0f7a4_27 : decode cJ6_bitCount_0f7a4 27 = .ok (.iushr, 1) := by decide +kernel
theorem dJ6_bitCount_0f7a4_28 : decode cJ6_bitCount_0f7a4 28 = .ok (.iadd, 1) := by decide +kernel
theorem dJ6_bitCount_0f7a4_29 : decode cJ6_bitCount_0f7a4 29 = .ok (.ldc_w 267, 3) := by decide +kernel
theorem dJ6_bitCount_0f7a4_32 : decode cJ6_bitCount_0f7a4 32 = .ok (.iand, 1) := by decide +kernel
theorem dJ6_bitCount_0f7a4_33 : decode cJ6_bitCount_0f7a4 33 = .ok (.istore_n 0, 1) := by decide +kernel
theorem dJ6_bitCount_0f7a4_34 : decode cJ6_bitCount_0f7a4 34 = .ok (.iload_n 0, 1) := by decide +kernel
theorem dJ6_bitCount_0f7a4_35 : decode cJ6_bitCount_0f7a4 35 = .ok (.iload_n 0, 1) := by decide +kernel
theorem dJ6_bitCount_0f7a4_36 : decode cJ6_bitCount_0f7a4 36 = .ok (.bipush 8, 2) := by decide +kernel
theorem dJ6_bitCount_0f7a4_38 : decode cJ6_bitCount_0f7a4 38 = .ok (.iushr, 1) := by decide +kernel
theorem dJ6_bitCount_0f7a4_39 : decode cJ6_bitCount_0f7a4 39 = .ok (.iadd, 1) := by decide +kernel
theorem dJ6_bitCount_0f7a4_40 : decode cJ6_bitCount_0f7a4 40 = .ok (.istore_n 0, 1) := by decide +kernel
theorem dJ6_bitCount_0f7a4_41 : decode cJ6_bitCount_0f7a4 41 = .ok (.iload_n 0, 1) := by decide +kernel
theorem dJ6_bitCount_0f7a4_42 : decode cJ6_bitCount_0f7a4 42 = .ok (.iload_n 0, 1) := by decide +kernel
theorem dJ6_bitCount_0f7a4_43 : decode cJ6_bitCount_0f7a4 43 = .ok (.bipush 16, 2) := by decide +kernel
theorem dJ6_bitCount_0f7a4_45 : decode cJ6_bitCount_0f7a4 45 = .ok (.iushr, 1) := by decide +kernel
theorem dJ6_bitCount_0f7a4_46 : decode cJ6_bitCount_0f7a4 46 = .ok (.iadd, 1) := by decide +kernel
theorem dJ6_bitCount_0f7a4_47 : decode cJ6_bitCount_0f7a4 47 = .ok (.istore_n 0, 1) := by decide +kernel
theorem dJ6_bitCount_0f7a4_48 : decode cJ6_bitCount_0f7a4 48 = .ok (.iload_n 0, 1) := by decide +kernel
theorem dJ6_bitCount_0f7a4_49 : decode cJ6_bitCount_0f7a4 49 = .ok (.bipush 63, 2) := by decide +kernel
theorem dJ6_bitCount_0f7a4_51 : decode cJ6_bitCount_0f7a4 51 = .ok (.iand, 1) := by decide +kernel
theorem dJ6_bitCount_0f7a4_52 : decode cJ6_bitCount_0f7a4 52 = .ok (.ireturn, 1) := by decide +kernel
theorem dJ9_floorMod_7cf53_0 : decode cJ9_floorMod_7cf53 0 = .ok (.iload_n 0, 1) := by decide +kernel
theorem dJ9_floorMod_7cf53_1 : decode cJ9_floorMod_7cf53 1 = .ok (.iload_n 1, 1) := by decide +kernel
theorem dJ9_floorMod_7cf53_2 : decode cJ9_floorMod_7cf53 2 = .ok (.irem, 1) := by decide +kernel
theorem dJ9_floorMod_7cf53_3 : decode cJ9_floorMod_7cf53 3 = .ok (.istore_n 2, 1) := by decide +kernel
theorem dJ9_floorMod_7cf53_4 : decode cJ9_floorMod_7cf53 4 = .ok (.iload_n 0, 1) := by decide +kernel
theorem dJ9_floorMod_7cf53_5 : decode cJ9_floorMod_7cf53 5 = .ok (.iload_n 1, 1) := by decide +kernel
theorem dJ9_floorMod_7cf53_6 : decode cJ9_floorMod_7cf53 6 = .ok (.ixor, 1) := by decide +kernel
theorem dJ9_floorMod_7cf53_7 : decode cJ9_floorMod_7cf53 7 = .ok (.ifCond .ge 11, 3) := by decide +kernel
theorem dJ9_floorMod_7cf53_10 : decode cJ9_floorMod_7cf53 10 = .ok (.iload_n 2, 1) := by decide +kernel
theorem dJ9_floorMod_7cf53_11 : decode cJ9_floorMod_7cf53 11 = .ok (.ifCond .eq 7, 3) := by decide +kernel
theorem dJ9_floorMod_7cf53_14 : decode cJ9_floorMod_7cf53 14 = .ok (.iload_n 2, 1) := by decide +kernel
theorem dJ9_floorMod_7cf53_15 : decode cJ9_floorMod_7cf53 15 = .ok (.iload_n 1, 1) := by decide +kernel
theorem dJ9_floorMod_7cf53_16 : decode cJ9_floorMod_7cf53 16 = .ok (.iadd, 1) := by decide +kernel
theorem dJ9_floorMod_7cf53_17 : decode cJ9_floorMod_7cf53 17 = .ok (.ireturn, 1) := by decide +kernel
theorem dJ9_floorMod_7cf53_18 : decode cJ9_floorMod_7cf53 18 = .ok (.iload_n 2, 1) := by decide +kernel
theorem dJ9_floorMod_7cf53_19 : decode cJ9_floorMod_7cf53 19 = .ok (.ireturn, 1) := by decide +kernel
theorem dJ9_abs_0f7a4_0 : decode cJ9_abs_0f7a4 0 = .ok (.iload_n 0, 1) := by decide +kernel
theorem dJ9_abs_0f7a4_1 : decode cJ9_abs_0f7a4 1 = .ok (.ifCond .ge 8, 3) := by decide +kernel
theorem dJ9_abs_0f7a4_4 : decode cJ9_abs_0f7a4 4 = .ok (.iload_n 0, 1) := by decide +kernel
theorem dJ9_abs_0f7a4_5 : decode cJ9_abs_0f7a4 5 = .ok (.ineg, 1) := by decide +kernel
theorem dJ9_abs_0f7a4_6 : decode cJ9_abs_0f7a4 6 = .ok (.goto 4, 3) := by decide +kernel
theorem dJ9_abs_0f7a4_9 : decode cJ9_abs_0f7a4 9 = .ok (.iload_n 0, 1) := by decide +kernel
theorem dJ9_abs_0f7a4_10 : decode cJ9_abs_0f7a4 10 = .ok (.ireturn, 1) := by decide +kernel
theorem dJ9_max_7cf53_0 : decode cJ9_max_7cf53 0 = .ok (.iload_n 0, 1) := by decide +kernel
theorem dJ9_max_7cf53_1 : decode cJ9_max_7cf53 1 = .ok (.iload_n 1, 1) := by decide +kernel
theorem dJ9_max_7cf53_2 : decode cJ9_max_7cf53 2 = .ok (.if_icmp .lt 7, 3) := by decide +kernel
theorem dJ9_max_7cf53_5 : decode cJ9_max_7cf53 5 = .ok (.iload_n 0, 1) := by decide +kernel
theorem dJ9_max_7cf53_6 : decode cJ9_max_7cf53 6 = .ok (.goto 4, 3) := by decide +kernel
theorem dJ9_max_7cf53_9 : decode cJ9_max_7cf53 9 = .ok (.iload_n 1, 1) := by decide +kernel
theorem dJ9_max_7cf53_10 : decode cJ9_max_7cf53 10 = .ok (.ireturn, 1) := by decide +kernel
theorem dJ9_min_7cf53_0 : decode cJ9_min_7cf53 0 = .ok (.iload_n 0, 1) := by decide +kernel
theorem dJ9_min_7cf53_1 : decode cJ9_min_7cf53 1 = .ok (.iload_n 1, 1) := by decide +kernel
theorem dJ9_min_7cf53_2 : decode cJ9_min_7cf53 2 = .ok (.if_icmp .gt 7, 3) := by decide +kernel
theorem dJ9_min_7cf53_5 : decode cJ9_min_7cf53 5 = .ok (.iload_n 0, 1) := by decide +kernel
theorem dJ9_min_7cf53_6 : decode cJ9_min_7cf53 6 = .ok (.goto 4, 3) := by decide +kernel
theorem dJ9_min_7cf53_9 : decode cJ9_min_7cf53 9 = .ok (.iload_n 1, 1) := by decide +kernel
theorem dJ9_min_7cf53_10 : decode cJ9_min_7cf53 10 = .ok (.ireturn, 1) := by decide +kernel
theorem dJ7_fill_53178_0 : decode cJ7_fill_53178 0 = .ok (.iconst 0, 1) := by decide +kernel
theorem dJ7_fill_53178_1 : decode cJ7_fill_53178 1 = .ok (.istore_n 2, 1) := by decide +kernel
theorem dJ7_fill_53178_2 : decode cJ7_fill_53178 2 = .ok (.aload_n 0, 1) := by decide +kernel
theorem dJ7_fill_53178_3 : decode cJ7_fill_53178 3 = .ok (.arraylength, 1) := by decide +kernel
theorem dJ7_fill_53178_4 : decode cJ7_fill_53178 4 = .ok (.istore_n 3, 1) := by decide +kernel
theorem dJ7_fill_53178_5 : decode cJ7_fill_53178 5 = .ok (.iload_n 2, 1) := by decide +kernel
theorem dJ7_fill_53178_6 : decode cJ7_fill_53178 6 = .ok (.iload_n 3, 1) := by decide +kernel
theorem dJ7_fill_53178_7 : decode cJ7_fill_53178 7 = .ok (.if_icmp .ge 13, 3) := by decide +kernel
theorem dJ7_fill_53178_10 : decode cJ7_fill_53178 10 = .ok (.aload_n 0, 1) := by decide +kernel
theorem dJ7_fill_53178_11 : decode cJ7_fill_53178 11 = .ok (.iload_n 2, 1) := by decide +kernel
theorem dJ7_fill_53178_12 : decode cJ7_fill_53178 12 = .ok (.iload_n 1, 1) := by decide +kernel
theorem dJ7_fill_53178_13 : decode cJ7_fill_53178 13 = .ok (.iastore, 1) := by decide +kernel
theorem dJ7_fill_53178_14 : decode cJ7_fill_53178 14 = .ok (.iinc 2 1, 3) := by decide +kernel
theorem dJ7_fill_53178_17 : decode cJ7_fill_53178 17 = .ok (.goto (-12), 3) := by decide +kernel
theorem dJ7_fill_53178_20 : decode cJ7_fill_53178 20 = .ok (.return_, 1) := by decide +kernel
abbrev vwCl : List vw_C := [(RX0, TX0, 1), (RX1, TX1, 2), (RX2, TX2, 4), (RX3, TX3, 3), (RX4, TX4, 4), (RX5, TX5, 5), (RX6, TX6, 12)]
