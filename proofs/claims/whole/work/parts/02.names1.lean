/-! ===== BEGIN words of one list among another's, by their places ===== -/
theorem goodIn_r {big : List Cond} (ws : List Cond) (ps : List Nat) (hp : ws = ps.filterMap (fun i => big[i]?)) (h : ws.all goodWord = true) : GoodIn big ws := by
  intro w hw
  have h1 := List.all_eq_true.mp h w hw
  rw [hp] at hw
  obtain ⟨i, -, hi⟩ := List.mem_filterMap.mp hw
  have hm : w ∈ big := by first | exact List.mem_of_getElem? hi | exact List.getElem?_mem hi
  exact ⟨hm, good_of_word h1⟩
theorem goodIn_app {big a b : List Cond} (ha : GoodIn big a) (hb : GoodIn big b) : GoodIn big (a ++ b) := fun w h => (List.mem_append.mp h).elim (ha w) (hb w)
theorem goodIn_ca {big a b : List Cond} {c : Cond} (ha : GoodIn big (c :: a)) (hb : GoodIn big b) : GoodIn big (c :: (a ++ b)) := fun w h => (List.mem_cons.mp h).elim (fun e => ha w (List.mem_cons.mpr (Or.inl e))) (fun h => (List.mem_append.mp h).elim (fun h => ha w (List.mem_cons.mpr (Or.inr h))) (hb w))
theorem goodIn_sub {big ws : List Cond} (hm : ∀ w ∈ ws, w ∈ big) (h : ws.all goodWord = true) : GoodIn big ws := fun w hw => ⟨hm w hw, good_of_word (List.all_eq_true.mp h w hw)⟩
/-! ===== END ===== -/

/-! ===== BEGIN printed: names, fields, word lists, decode rows ===== -/
def RX0 : String := "ForkedStamps$Pad"
def TX0 : u_T := fun k => match k with
  | 0 => ("ForkedStamps$Pad", "characters", "[C", true)
  | 1 => ("ForkedStamps$Pad", "stamp", "LForkedStamps$Stamp;", true)
  | 2 => ("ForkedStamps$Pad", "length", "I", false)
  | 3 => ("ForkedStamps$Pad", "first", "I", false)
  | 4 => ("ForkedStamps$Pad", "size", "I", false)
  | 5 => ("ForkedStamps$Pad", "stage", "I", false)
  | _ => ("ForkedStamps$Pad", "number", "I", false)
def tyX0 : Nat → FieldType := fun k => match k with
  | 0 => .array .char
  | 1 => .object "ForkedStamps$Stamp"
  | 2 => .int
  | 3 => .int
  | 4 => .int
  | 5 => .int
  | _ => .int
abbrev wsX00 : List Cond := u_ws RX0 TX0 7
theorem nmX0 : ∀ a, a < 7 → ∀ b, b < 7 → a ≠ b → (TX0 a).2.1 ≠ (TX0 b).2.1 := by decide +kernel
theorem tyX0_ok : ∀ k, k < 7 → parseFieldDescriptor (TX0 k).2.2.1 = some (tyX0 k) := by decide +kernel
abbrev cX0_init : ByteArray := prog_2_method_1_code
def yX0_init : MethodName := ⟨RX0, "<init>", "()V"⟩
abbrev cX0_append : ByteArray := prog_2_method_2_code
def yX0_append : MethodName := ⟨RX0, "append", "(JI)V"⟩
abbrev cX0_read : ByteArray := prog_2_method_3_code
def yX0_read : MethodName := ⟨RX0, "read", "()I"⟩
abbrev cX0_accepts : ByteArray := prog_2_method_4_code
def yX0_accepts : MethodName := ⟨RX0, "accepts", "(C)Z"⟩
abbrev cX0_acceptsDigit : ByteArray := prog_2_method_5_code
def yX0_acceptsDigit : MethodName := ⟨RX0, "acceptsDigit", "(I)Z"⟩
abbrev cX0_fillRow : ByteArray := prog_2_method_6_code
def yX0_fillRow : MethodName := ⟨RX0, "fillRow", "()V"⟩
abbrev cX0_acceptsOpening : ByteArray := prog_2_method_7_code
def yX0_acceptsOpening : MethodName := ⟨RX0, "acceptsOpening", "()Z"⟩
abbrev cX0_acceptsComma : ByteArray := prog_2_method_8_code
def yX0_acceptsComma : MethodName := ⟨RX0, "acceptsComma", "()Z"⟩
abbrev cX0_acceptsClosing : ByteArray := prog_2_method_9_code
def yX0_acceptsClosing : MethodName := ⟨RX0, "acceptsClosing", "()Z"⟩
abbrev cX0_isUpperHalf : ByteArray := prog_2_method_10_code
def yX0_isUpperHalf : MethodName := ⟨RX0, "isUpperHalf", "()Z"⟩
def RX1 : String := "ForkedStamps$Stamp"
def TX1 : u_T := fun k => match k with
  | 0 => ("ForkedStamps$Stamp", "heights", "[I", true)
  | 1 => ("ForkedStamps$Stamp", "knownEarly", "J", false)
  | _ => ("ForkedStamps$Stamp", "knownLate", "J", false)
def tyX1 : Nat → FieldType := fun k => match k with
  | 0 => .array .int
  | 1 => .long
  | _ => .long
abbrev wsX10 : List Cond := u_ws RX1 TX1 3
theorem nmX1 : ∀ a, a < 3 → ∀ b, b < 3 → a ≠ b → (TX1 a).2.1 ≠ (TX1 b).2.1 := by decide +kernel
theorem tyX1_ok : ∀ k, k < 3 → parseFieldDescriptor (TX1 k).2.2.1 = some (tyX1 k) := by decide +kernel
abbrev cX1_init : ByteArray := prog_3_method_1_code
def yX1_init : MethodName := ⟨RX1, "<init>", "()V"⟩
abbrev cX1_become : ByteArray := prog_3_method_2_code
def yX1_become : MethodName := ⟨RX1, "become", "(LForkedStamps$Stamp;)V"⟩
abbrev cX1_takeOver : ByteArray := prog_3_method_3_code
def yX1_takeOver : MethodName := ⟨RX1, "takeOver", "(LForkedStamps$Stamp;)V"⟩
abbrev cX1_raise : ByteArray := prog_3_method_4_code
def yX1_raise : MethodName := ⟨RX1, "raise", "(I)V"⟩
abbrev cX1_isLevel : ByteArray := prog_3_method_5_code
def yX1_isLevel : MethodName := ⟨RX1, "isLevel", "(II)Z"⟩
abbrev cX1_greatestIn : ByteArray := prog_3_method_6_code
def yX1_greatestIn : MethodName := ⟨RX1, "greatestIn", "(I)I"⟩
abbrev cX1_sum : ByteArray := prog_3_method_7_code
def yX1_sum : MethodName := ⟨RX1, "sum", "()I"⟩
abbrev cX1_orderTo : ByteArray := prog_3_method_8_code
def yX1_orderTo : MethodName := ⟨RX1, "orderTo", "(LForkedStamps$Stamp;)I"⟩
abbrev cX1_learn : ByteArray := prog_3_method_9_code
def yX1_learn : MethodName := ⟨RX1, "learn", "(I)V"⟩
abbrev cX1_isKnown : ByteArray := prog_3_method_10_code
def yX1_isKnown : MethodName := ⟨RX1, "isKnown", "(I)Z"⟩
abbrev cX1_knownCount : ByteArray := prog_3_method_11_code
def yX1_knownCount : MethodName := ⟨RX1, "knownCount", "()I"⟩
abbrev cX1_knownBeyond : ByteArray := prog_3_method_12_code
def yX1_knownBeyond : MethodName := ⟨RX1, "knownBeyond", "(LForkedStamps$Stamp;)I"⟩
abbrev cX1_latestKnown : ByteArray := prog_3_method_13_code
def yX1_latestKnown : MethodName := ⟨RX1, "latestKnown", "()I"⟩
abbrev cX1_knots : ByteArray := prog_3_method_14_code
def yX1_knots : MethodName := ⟨RX1, "knots", "()I"⟩
abbrev cX1_print : ByteArray := prog_3_method_15_code
def yX1_print : MethodName := ⟨RX1, "print", "(Ljava/lang/StringBuilder;)V"⟩
abbrev cX1_isIn : ByteArray := prog_3_method_16_code
def yX1_isIn : MethodName := ⟨RX1, "isIn", "(II)Z"⟩
abbrev cX1_knotsOfRow : ByteArray := prog_3_method_17_code
def yX1_knotsOfRow : MethodName := ⟨RX1, "knotsOfRow", "([III)I"⟩
abbrev cX1_printRow : ByteArray := prog_3_method_18_code
def yX1_printRow : MethodName := ⟨RX1, "printRow", "([IIILjava/lang/StringBuilder;)V"⟩
abbrev cX1_isLeaf : ByteArray := prog_3_method_19_code
def yX1_isLeaf : MethodName := ⟨RX1, "isLeaf", "([III)Z"⟩
def RX2 : String := "ForkedStamps$State"
def TX2 : u_T := fun k => match k with
  | 0 => ("ForkedStamps$State", "shares", "[I", true)
  | 1 => ("ForkedStamps$State", "helpers", "[LForkedStamps$Stamp;", true)
  | 2 => ("ForkedStamps$State", "messages", "[LForkedStamps$Stamp;", true)
  | 3 => ("ForkedStamps$State", "senders", "[I", true)
  | 4 => ("ForkedStamps$State", "messageCount", "I", false)
  | 5 => ("ForkedStamps$State", "actors", "[I", true)
  | _ => ("ForkedStamps$State", "eventCount", "I", false)
def tyX2 : Nat → FieldType := fun k => match k with
  | 0 => .array .int
  | 1 => .array (.object "ForkedStamps$Stamp")
  | 2 => .array (.object "ForkedStamps$Stamp")
  | 3 => .array .int
  | 4 => .int
  | 5 => .array .int
  | _ => .int
abbrev wsX20 : List Cond := u_ws RX2 TX2 7
theorem nmX2 : ∀ a, a < 7 → ∀ b, b < 7 → a ≠ b → (TX2 a).2.1 ≠ (TX2 b).2.1 := by decide +kernel
theorem tyX2_ok : ∀ k, k < 7 → parseFieldDescriptor (TX2 k).2.2.1 = some (tyX2 k) := by decide +kernel
abbrev cX2_init : ByteArray := prog_4_method_1_code
def yX2_init : MethodName := ⟨RX2, "<init>", "()V"⟩
abbrev cX2_become : ByteArray := prog_4_method_2_code
def yX2_become : MethodName := ⟨RX2, "become", "(LForkedStamps$State;)V"⟩
abbrev cX2_isHelper : ByteArray := prog_4_method_3_code
def yX2_isHelper : MethodName := ⟨RX2, "isHelper", "(I)Z"⟩
abbrev cX2_isMessage : ByteArray := prog_4_method_4_code
def yX2_isMessage : MethodName := ⟨RX2, "isMessage", "(I)Z"⟩
abbrev cX2_isEvent : ByteArray := prog_4_method_5_code
def yX2_isEvent : MethodName := ⟨RX2, "isEvent", "(I)Z"⟩
abbrev cX2_stampOf : ByteArray := prog_4_method_6_code
def yX2_stampOf : MethodName := ⟨RX2, "stampOf", "(II)LForkedStamps$Stamp;"⟩
abbrev cX2_lowestFreeHelper : ByteArray := prog_4_method_7_code
def yX2_lowestFreeHelper : MethodName := ⟨RX2, "lowestFreeHelper", "()I"⟩
abbrev cX2_split : ByteArray := prog_4_method_8_code
def yX2_split : MethodName := ⟨RX2, "split", "(II)V"⟩
abbrev cX2_lowestCells : ByteArray := prog_4_method_9_code
def yX2_lowestCells : MethodName := ⟨RX2, "lowestCells", "(II)I"⟩
abbrev cX2_merge : ByteArray := prog_4_method_10_code
def yX2_merge : MethodName := ⟨RX2, "merge", "(II)V"⟩
abbrev cX2_addEvent : ByteArray := prog_4_method_11_code
def yX2_addEvent : MethodName := ⟨RX2, "addEvent", "(I)I"⟩
abbrev cX2_addMessage : ByteArray := prog_4_method_12_code
def yX2_addMessage : MethodName := ⟨RX2, "addMessage", "(I)I"⟩
abbrev cX2_removeMessage : ByteArray := prog_4_method_13_code
def yX2_removeMessage : MethodName := ⟨RX2, "removeMessage", "(I)V"⟩
abbrev cX2_helperSet : ByteArray := prog_4_method_14_code
def yX2_helperSet : MethodName := ⟨RX2, "helperSet", "()I"⟩
abbrev cX2_clashingPairs : ByteArray := prog_4_method_15_code
def yX2_clashingPairs : MethodName := ⟨RX2, "clashingPairs", "()I"⟩
abbrev cX2_knotsOfHelpers : ByteArray := prog_4_method_16_code
def yX2_knotsOfHelpers : MethodName := ⟨RX2, "knotsOfHelpers", "()I"⟩
abbrev cX2_foremost : ByteArray := prog_4_method_17_code
def yX2_foremost : MethodName := ⟨RX2, "foremost", "()I"⟩
abbrev cX2_isForemost : ByteArray := prog_4_method_18_code
def yX2_isForemost : MethodName := ⟨RX2, "isForemost", "(I)Z"⟩
abbrev cX2_leastKnowing : ByteArray := prog_4_method_19_code
def yX2_leastKnowing : MethodName := ⟨RX2, "leastKnowing", "()I"⟩
def RX3 : String := "ForkedStamps"
def TX3 : u_T := fun k => match k with
  | 0 => ("ForkedStamps", "now", "LForkedStamps$State;", true)
  | 1 => ("ForkedStamps", "history", "[LForkedStamps$State;", true)
  | 2 => ("ForkedStamps", "historyCount", "I", false)
  | 3 => ("ForkedStamps", "slots", "[LForkedStamps$State;", true)
  | 4 => ("ForkedStamps", "saved", "[Z", true)
  | 5 => ("ForkedStamps", "pad", "LForkedStamps$Pad;", true)
  | 6 => ("ForkedStamps", "trial", "LForkedStamps$Stamp;", true)
  | _ => ("ForkedStamps", "text", "Ljava/lang/StringBuilder;", true)
def tyX3 : Nat → FieldType := fun k => match k with
  | 0 => .object "ForkedStamps$State"
  | 1 => .array (.object "ForkedStamps$State")
  | 2 => .int
  | 3 => .array (.object "ForkedStamps$State")
  | 4 => .array .boolean
  | 5 => .object "ForkedStamps$Pad"
  | 6 => .object "ForkedStamps$Stamp"
  | _ => .object "java/lang/StringBuilder"
abbrev wsX30 : List Cond := u_ws RX3 TX3 8
theorem nmX3 : ∀ a, a < 8 → ∀ b, b < 8 → a ≠ b → (TX3 a).2.1 ≠ (TX3 b).2.1 := by decide +kernel
theorem tyX3_ok : ∀ k, k < 8 → parseFieldDescriptor (TX3 k).2.2.1 = some (tyX3 k) := by decide +kernel
abbrev cX3_init : ByteArray := prog_1_method_1_code
def yX3_init : MethodName := ⟨RX3, "<init>", "()V"⟩
abbrev cX3_fork : ByteArray := prog_1_method_2_code
def yX3_fork : MethodName := ⟨RX3, "fork", "(I)I"⟩
abbrev cX3_gather : ByteArray := prog_1_method_3_code
def yX3_gather : MethodName := ⟨RX3, "gather", "(II)I"⟩
abbrev cX3_event : ByteArray := prog_1_method_4_code
def yX3_event : MethodName := ⟨RX3, "event", "(I)I"⟩
abbrev cX3_send : ByteArray := prog_1_method_5_code
def yX3_send : MethodName := ⟨RX3, "send", "(I)I"⟩
abbrev cX3_receive : ByteArray := prog_1_method_6_code
def yX3_receive : MethodName := ⟨RX3, "receive", "(II)I"⟩
abbrev cX3_drop : ByteArray := prog_1_method_7_code
def yX3_drop : MethodName := ⟨RX3, "drop", "(I)I"⟩
abbrev cX3_of : ByteArray := prog_1_method_8_code
def yX3_of : MethodName := ⟨RX3, "of", "(II)I"⟩
abbrev cX3_ofMessage : ByteArray := prog_1_method_9_code
def yX3_ofMessage : MethodName := ⟨RX3, "ofMessage", "(II)I"⟩
abbrev cX3_height : ByteArray := prog_1_method_10_code
def yX3_height : MethodName := ⟨RX3, "height", "(III)I"⟩
abbrev cX3_knows : ByteArray := prog_1_method_11_code
def yX3_knows : MethodName := ⟨RX3, "knows", "(III)I"⟩
abbrev cX3_count : ByteArray := prog_1_method_12_code
def yX3_count : MethodName := ⟨RX3, "count", "(I)I"⟩
abbrev cX3_whose : ByteArray := prog_1_method_13_code
def yX3_whose : MethodName := ⟨RX3, "whose", "(I)I"⟩
abbrev cX3_order : ByteArray := prog_1_method_14_code
def yX3_order : MethodName := ⟨RX3, "order", "(IIII)I"⟩
abbrev cX3_more : ByteArray := prog_1_method_15_code
def yX3_more : MethodName := ⟨RX3, "more", "(IIII)I"⟩
abbrev cX3_orderToPad : ByteArray := prog_1_method_16_code
def yX3_orderToPad : MethodName := ⟨RX3, "orderToPad", "(I)I"⟩
abbrev cX3_printed : ByteArray := prog_1_method_17_code
def yX3_printed : MethodName := ⟨RX3, "printed", "(II)I"⟩
abbrev cX3_ifReceive : ByteArray := prog_1_method_18_code
def yX3_ifReceive : MethodName := ⟨RX3, "ifReceive", "(III)I"⟩
abbrev cX3_laggard : ByteArray := prog_1_method_19_code
def yX3_laggard : MethodName := ⟨RX3, "laggard", "(I)I"⟩
abbrev cX3_put : ByteArray := prog_1_method_20_code
def yX3_put : MethodName := ⟨RX3, "put", "(J)I"⟩
abbrev cX3_wipe : ByteArray := prog_1_method_21_code
def yX3_wipe : MethodName := ⟨RX3, "wipe", "()I"⟩
abbrev cX3_fault : ByteArray := prog_1_method_22_code
def yX3_fault : MethodName := ⟨RX3, "fault", "()I"⟩
abbrev cX3_undo : ByteArray := prog_1_method_23_code
def yX3_undo : MethodName := ⟨RX3, "undo", "()I"⟩
abbrev cX3_save : ByteArray := prog_1_method_24_code
def yX3_save : MethodName := ⟨RX3, "save", "(I)I"⟩
abbrev cX3_restore : ByteArray := prog_1_method_25_code
def yX3_restore : MethodName := ⟨RX3, "restore", "(I)I"⟩
abbrev cX3_isKind : ByteArray := prog_1_method_26_code
def yX3_isKind : MethodName := ⟨RX3, "isKind", "(I)Z"⟩
abbrev cX3_isSlot : ByteArray := prog_1_method_27_code
def yX3_isSlot : MethodName := ⟨RX3, "isSlot", "(I)Z"⟩
abbrev cX3_remember : ByteArray := prog_1_method_28_code
def yX3_remember : MethodName := ⟨RX3, "remember", "()V"⟩
abbrev cX3_forgetOldest : ByteArray := prog_1_method_29_code
def yX3_forgetOldest : MethodName := ⟨RX3, "forgetOldest", "()V"⟩
abbrev cX3_textOf : ByteArray := prog_1_method_30_code
def yX3_textOf : MethodName := ⟨RX3, "textOf", "(LForkedStamps$Stamp;)Ljava/lang/StringBuilder;"⟩
abbrev cX3_charactersIn : ByteArray := prog_1_method_31_code
def yX3_charactersIn : MethodName := ⟨RX3, "charactersIn", "(J)I"⟩
def RX4 : String := "ForkedStampsModel"
def TX4 : u_T := fun k => match k with
  | 0 => ("ForkedStampsModel", "state", "[I", true)
  | 1 => ("ForkedStampsModel", "history", "[I", true)
  | 2 => ("ForkedStampsModel", "recorded", "I", false)
  | 3 => ("ForkedStampsModel", "slots", "[I", true)
  | 4 => ("ForkedStampsModel", "isSaved", "[I", true)
  | 5 => ("ForkedStampsModel", "pad", "[I", true)
  | 6 => ("ForkedStampsModel", "padLength", "I", false)
  | 7 => ("ForkedStampsModel", "tried", "[I", true)
  | 8 => ("ForkedStampsModel", "told", "[I", true)
  | 9 => ("ForkedStampsModel", "sizes", "[I", true)
  | 10 => ("ForkedStampsModel", "halves", "[I", true)
  | 11 => ("ForkedStampsModel", "text", "[I", true)
  | _ => ("ForkedStampsModel", "textLength", "I", false)
def tyX4 : Nat → FieldType := fun k => match k with
  | 0 => .array .int
  | 1 => .array .int
  | 2 => .int
  | 3 => .array .int
  | 4 => .array .int
  | 5 => .array .int
  | 6 => .int
  | 7 => .array .int
  | 8 => .array .int
  | 9 => .array .int
  | 10 => .array .int
  | 11 => .array .int
  | _ => .int
abbrev wsX40 : List Cond := u_ws RX4 TX4 13
theorem nmX4 : ∀ a, a < 13 → ∀ b, b < 13 → a ≠ b → (TX4 a).2.1 ≠ (TX4 b).2.1 := by decide +kernel
theorem tyX4_ok : ∀ k, k < 13 → parseFieldDescriptor (TX4 k).2.2.1 = some (tyX4 k) := by decide +kernel
abbrev cX4_init : ByteArray := prog_6_method_1_code
def yX4_init : MethodName := ⟨RX4, "<init>", "()V"⟩
abbrev cX4_moves : ByteArray := prog_6_method_3_code
def yX4_moves : MethodName := ⟨RX4, "moves", "([II[III)V"⟩
abbrev cX4_within : ByteArray := prog_6_method_4_code
def yX4_within : MethodName := ⟨RX4, "within", "(III)Z"⟩
abbrev cX4_record : ByteArray := prog_6_method_5_code
def yX4_record : MethodName := ⟨RX4, "record", "()V"⟩
abbrev cX4_isHelper : ByteArray := prog_6_method_6_code
def yX4_isHelper : MethodName := ⟨RX4, "isHelper", "(I)Z"⟩
abbrev cX4_isMessage : ByteArray := prog_6_method_7_code
def yX4_isMessage : MethodName := ⟨RX4, "isMessage", "(I)Z"⟩
abbrev cX4_helperAt : ByteArray := prog_6_method_8_code
def yX4_helperAt : MethodName := ⟨RX4, "helperAt", "(I)I"⟩
abbrev cX4_messageAt : ByteArray := prog_6_method_9_code
def yX4_messageAt : MethodName := ⟨RX4, "messageAt", "(I)I"⟩
abbrev cX4_isThere : ByteArray := prog_6_method_10_code
def yX4_isThere : MethodName := ⟨RX4, "isThere", "(II)Z"⟩
abbrev cX4_placeOf : ByteArray := prog_6_method_11_code
def yX4_placeOf : MethodName := ⟨RX4, "placeOf", "(II)I"⟩
abbrev cX4_bits : ByteArray := prog_6_method_12_code
def yX4_bits : MethodName := ⟨RX4, "bits", "(I)I"⟩
abbrev cX4_orderOf : ByteArray := prog_6_method_13_code
def yX4_orderOf : MethodName := ⟨RX4, "orderOf", "([II[II)I"⟩
abbrev cX4_takeOver : ByteArray := prog_6_method_14_code
def yX4_takeOver : MethodName := ⟨RX4, "takeOver", "([II[II)V"⟩
abbrev cX4_knownMany : ByteArray := prog_6_method_15_code
def yX4_knownMany : MethodName := ⟨RX4, "knownMany", "([II)I"⟩
abbrev cX4_isOwn : ByteArray := prog_6_method_16_code
def yX4_isOwn : MethodName := ⟨RX4, "isOwn", "([III)Z"⟩
abbrev cX4_raise : ByteArray := prog_6_method_17_code
def yX4_raise : MethodName := ⟨RX4, "raise", "([II)V"⟩
abbrev cX4_areAlike : ByteArray := prog_6_method_18_code
def yX4_areAlike : MethodName := ⟨RX4, "areAlike", "([IIII)Z"⟩
abbrev cX4_knots : ByteArray := prog_6_method_19_code
def yX4_knots : MethodName := ⟨RX4, "knots", "([II)I"⟩
abbrev cX4_says : ByteArray := prog_6_method_20_code
def yX4_says : MethodName := ⟨RX4, "says", "(I)V"⟩
abbrev cX4_saysNumber : ByteArray := prog_6_method_21_code
def yX4_saysNumber : MethodName := ⟨RX4, "saysNumber", "(I)V"⟩
abbrev cX4_print : ByteArray := prog_6_method_22_code
def yX4_print : MethodName := ⟨RX4, "print", "(I)V"⟩
abbrev cX4_freeNumber : ByteArray := prog_6_method_23_code
def yX4_freeNumber : MethodName := ⟨RX4, "freeNumber", "()I"⟩
abbrev cX4_fork : ByteArray := prog_6_method_24_code
def yX4_fork : MethodName := ⟨RX4, "fork", "(I)I"⟩
abbrev cX4_gather : ByteArray := prog_6_method_25_code
def yX4_gather : MethodName := ⟨RX4, "gather", "(II)I"⟩
abbrev cX4_learns : ByteArray := prog_6_method_26_code
def yX4_learns : MethodName := ⟨RX4, "learns", "([III)V"⟩
abbrev cX4_happens : ByteArray := prog_6_method_27_code
def yX4_happens : MethodName := ⟨RX4, "happens", "(I)I"⟩
abbrev cX4_event : ByteArray := prog_6_method_28_code
def yX4_event : MethodName := ⟨RX4, "event", "(I)I"⟩
abbrev cX4_send : ByteArray := prog_6_method_29_code
def yX4_send : MethodName := ⟨RX4, "send", "(I)I"⟩
abbrev cX4_receive : ByteArray := prog_6_method_30_code
def yX4_receive : MethodName := ⟨RX4, "receive", "(II)I"⟩
abbrev cX4_drop : ByteArray := prog_6_method_31_code
def yX4_drop : MethodName := ⟨RX4, "drop", "(I)I"⟩
abbrev cX4_heights : ByteArray := prog_6_method_32_code
def yX4_heights : MethodName := ⟨RX4, "heights", "(IZ)I"⟩
abbrev cX4_isKnown : ByteArray := prog_6_method_33_code
def yX4_isKnown : MethodName := ⟨RX4, "isKnown", "(II)Z"⟩
abbrev cX4_latestOf : ByteArray := prog_6_method_34_code
def yX4_latestOf : MethodName := ⟨RX4, "latestOf", "(I)I"⟩
abbrev cX4_of : ByteArray := prog_6_method_35_code
def yX4_of : MethodName := ⟨RX4, "of", "(II)I"⟩
abbrev cX4_ofMessage : ByteArray := prog_6_method_36_code
def yX4_ofMessage : MethodName := ⟨RX4, "ofMessage", "(II)I"⟩
abbrev cX4_height : ByteArray := prog_6_method_37_code
def yX4_height : MethodName := ⟨RX4, "height", "(III)I"⟩
abbrev cX4_knows : ByteArray := prog_6_method_38_code
def yX4_knows : MethodName := ⟨RX4, "knows", "(III)I"⟩
abbrev cX4_orderOfHelpers : ByteArray := prog_6_method_39_code
def yX4_orderOfHelpers : MethodName := ⟨RX4, "orderOfHelpers", "(II)I"⟩
abbrev cX4_clashes : ByteArray := prog_6_method_40_code
def yX4_clashes : MethodName := ⟨RX4, "clashes", "()I"⟩
abbrev cX4_allKnots : ByteArray := prog_6_method_41_code
def yX4_allKnots : MethodName := ⟨RX4, "allKnots", "()I"⟩
abbrev cX4_isAhead : ByteArray := prog_6_method_42_code
def yX4_isAhead : MethodName := ⟨RX4, "isAhead", "(I)Z"⟩
abbrev cX4_leader : ByteArray := prog_6_method_43_code
def yX4_leader : MethodName := ⟨RX4, "leader", "()I"⟩
abbrev cX4_count : ByteArray := prog_6_method_44_code
def yX4_count : MethodName := ⟨RX4, "count", "(I)I"⟩
abbrev cX4_whose : ByteArray := prog_6_method_45_code
def yX4_whose : MethodName := ⟨RX4, "whose", "(I)I"⟩
abbrev cX4_whyNoOrder : ByteArray := prog_6_method_46_code
def yX4_whyNoOrder : MethodName := ⟨RX4, "whyNoOrder", "(IIII)I"⟩
abbrev cX4_order : ByteArray := prog_6_method_47_code
def yX4_order : MethodName := ⟨RX4, "order", "(IIII)I"⟩
abbrev cX4_more : ByteArray := prog_6_method_48_code
def yX4_more : MethodName := ⟨RX4, "more", "(IIII)I"⟩
abbrev cX4_orderToPad : ByteArray := prog_6_method_49_code
def yX4_orderToPad : MethodName := ⟨RX4, "orderToPad", "(I)I"⟩
abbrev cX4_printed : ByteArray := prog_6_method_50_code
def yX4_printed : MethodName := ⟨RX4, "printed", "(II)I"⟩
abbrev cX4_ifReceive : ByteArray := prog_6_method_51_code
def yX4_ifReceive : MethodName := ⟨RX4, "ifReceive", "(III)I"⟩
abbrev cX4_laggard : ByteArray := prog_6_method_52_code
def yX4_laggard : MethodName := ⟨RX4, "laggard", "(I)I"⟩
abbrev cX4_put : ByteArray := prog_6_method_53_code
def yX4_put : MethodName := ⟨RX4, "put", "(J)I"⟩
abbrev cX4_wipe : ByteArray := prog_6_method_54_code
def yX4_wipe : MethodName := ⟨RX4, "wipe", "()I"⟩
abbrev cX4_character : ByteArray := prog_6_method_55_code
def yX4_character : MethodName := ⟨RX4, "character", "(I)I"⟩
abbrev cX4_findFault : ByteArray := prog_6_method_56_code
def yX4_findFault : MethodName := ⟨RX4, "findFault", "()I"⟩
abbrev cX4_fault : ByteArray := prog_6_method_57_code
def yX4_fault : MethodName := ⟨RX4, "fault", "()I"⟩
abbrev cX4_undo : ByteArray := prog_6_method_58_code
def yX4_undo : MethodName := ⟨RX4, "undo", "()I"⟩
abbrev cX4_save : ByteArray := prog_6_method_59_code
def yX4_save : MethodName := ⟨RX4, "save", "(I)I"⟩
abbrev cX4_restore : ByteArray := prog_6_method_60_code
def yX4_restore : MethodName := ⟨RX4, "restore", "(I)I"⟩
def RJ5 : String := "java/lang/AbstractStringBuilder"
def TJ5 : u_T := fun k => match k with
  | _ => ("", "", "", false)
def tyJ5 : Nat → FieldType := fun k => match k with
  | _ => .int
abbrev wsJ50 : List Cond := u_ws RJ5 TJ5 0
theorem nmJ5 : ∀ a, a < 0 → ∀ b, b < 0 → a ≠ b → (TJ5 a).2.1 ≠ (TJ5 b).2.1 := by decide +kernel
theorem tyJ5_ok : ∀ k, k < 0 → parseFieldDescriptor (TJ5 k).2.2.1 = some (tyJ5 k) := by decide +kernel
abbrev cJ5_init_d00df : ByteArray := prog_7_method_2_code
def yJ5_init_d00df : MethodName := ⟨RJ5, "<init>", "(I)V"⟩
abbrev cJ5_length_8abf5 : ByteArray := prog_7_method_6_code
def yJ5_length_8abf5 : MethodName := ⟨RJ5, "length", "()I"⟩
abbrev cJ5_ensureCapacityInternal_d00df : ByteArray := prog_7_method_9_code
def yJ5_ensureCapacityInternal_d00df : MethodName := ⟨RJ5, "ensureCapacityInternal", "(I)V"⟩
abbrev cJ5_newCapacity_0f7a4 : ByteArray := prog_7_method_10_code
def yJ5_newCapacity_0f7a4 : MethodName := ⟨RJ5, "newCapacity", "(I)I"⟩
abbrev cJ5_inflate_da8c8 : ByteArray := prog_7_method_11_code
def yJ5_inflate_da8c8 : MethodName := ⟨RJ5, "inflate", "()V"⟩
abbrev cJ5_setLength_d00df : ByteArray := prog_7_method_13_code
def yJ5_setLength_d00df : MethodName := ⟨RJ5, "setLength", "(I)V"⟩
abbrev cJ5_charAt_5068e : ByteArray := prog_7_method_14_code
def yJ5_charAt_5068e : MethodName := ⟨RJ5, "charAt", "(I)C"⟩
abbrev cJ5_append_3fe6f : ByteArray := prog_7_method_31_code
def yJ5_append_3fe6f : MethodName := ⟨RJ5, "append", "(C)Ljava/lang/AbstractStringBuilder;"⟩
abbrev cJ5_append_c97b9 : ByteArray := prog_7_method_32_code
def yJ5_append_c97b9 : MethodName := ⟨RJ5, "append", "(I)Ljava/lang/AbstractStringBuilder;"⟩
abbrev cJ5_isLatin1_aae02 : ByteArray := prog_7_method_68_code
def yJ5_isLatin1_aae02 : MethodName := ⟨RJ5, "isLatin1", "()Z"⟩
def RJx8e188 : String := "java/lang/Cloneable"
def TJx8e188 : u_T := fun k => match k with
  | _ => ("", "", "", false)
def tyJx8e188 : Nat → FieldType := fun k => match k with
  | _ => .int
abbrev wsJx8e1880 : List Cond := u_ws RJx8e188 TJx8e188 0
theorem nmJx8e188 : ∀ a, a < 0 → ∀ b, b < 0 → a ≠ b → (TJx8e188 a).2.1 ≠ (TJx8e188 b).2.1 := by decide +kernel
theorem tyJx8e188_ok : ∀ k, k < 0 → parseFieldDescriptor (TJx8e188 k).2.2.1 = some (tyJx8e188 k) := by decide +kernel
def RJ6 : String := "java/lang/Integer"
def TJ6 : u_T := fun k => match k with
  | _ => ("", "", "", false)
def tyJ6 : Nat → FieldType := fun k => match k with
  | _ => .int
abbrev wsJ60 : List Cond := u_ws RJ6 TJ6 0
theorem nmJ6 : ∀ a, a < 0 → ∀ b, b < 0 → a ≠ b → (TJ6 a).2.1 ≠ (TJ6 b).2.1 := by decide +kernel
theorem tyJ6_ok : ∀ k, k < 0 → parseFieldDescriptor (TJ6 k).2.2.1 = some (tyJ6 k) := by decide +kernel
abbrev cJ6_getChars_ba4f3 : ByteArray := prog_9_method_12_code
def yJ6_getChars_ba4f3 : MethodName := ⟨RJ6, "getChars", "(II[B)I"⟩
abbrev cJ6_stringSize_0f7a4 : ByteArray := prog_9_method_13_code
def yJ6_stringSize_0f7a4 : MethodName := ⟨RJ6, "stringSize", "(I)I"⟩
abbrev cJ6_bitCount_0f7a4 : ByteArray := prog_9_method_49_code
def yJ6_bitCount_0f7a4 : MethodName := ⟨RJ6, "bitCount", "(I)I"⟩
def RJ13 : String := "java/lang/Long"
def TJ13 : u_T := fun k => match k with
  | _ => ("", "", "", false)
def tyJ13 : Nat → FieldType := fun k => match k with
  | _ => .int
abbrev wsJ130 : List Cond := u_ws RJ13 TJ13 0
theorem nmJ13 : ∀ a, a < 0 → ∀ b, b < 0 → a ≠ b → (TJ13 a).2.1 ≠ (TJ13 b).2.1 := by decide +kernel
theorem tyJ13_ok : ∀ k, k < 0 → parseFieldDescriptor (TJ13 k).2.2.1 = some (tyJ13 k) := by decide +kernel
abbrev cJ13_bitCount_95d88 : ByteArray := prog_10_method_50_code
def yJ13_bitCount_95d88 : MethodName := ⟨RJ13, "bitCount", "(J)I"⟩
def RJ9 : String := "java/lang/Math"
def TJ9 : u_T := fun k => match k with
  | _ => ("", "", "", false)
def tyJ9 : Nat → FieldType := fun k => match k with
  | _ => .int
abbrev wsJ90 : List Cond := u_ws RJ9 TJ9 0
theorem nmJ9 : ∀ a, a < 0 → ∀ b, b < 0 → a ≠ b → (TJ9 a).2.1 ≠ (TJ9 b).2.1 := by decide +kernel
theorem tyJ9_ok : ∀ k, k < 0 → parseFieldDescriptor (TJ9 k).2.2.1 = some (tyJ9 k) := by decide +kernel
abbrev cJ9_max_7cf53 : ByteArray := prog_11_method_65_code
def yJ9_max_7cf53 : MethodName := ⟨RJ9, "max", "(II)I"⟩
abbrev cJ9_min_7cf53 : ByteArray := prog_11_method_69_code
def yJ9_min_7cf53 : MethodName := ⟨RJ9, "min", "(II)I"⟩
def RJ0 : String := "java/lang/String"
def TJ0 : u_T := fun k => match k with
  | _ => ("", "", "", false)
def tyJ0 : Nat → FieldType := fun k => match k with
  | _ => .int
abbrev wsJ00 : List Cond := u_ws RJ0 TJ0 0
theorem nmJ0 : ∀ a, a < 0 → ∀ b, b < 0 → a ≠ b → (TJ0 a).2.1 ≠ (TJ0 b).2.1 := by decide +kernel
theorem tyJ0_ok : ∀ k, k < 0 → parseFieldDescriptor (TJ0 k).2.2.1 = some (tyJ0 k) := by decide +kernel
abbrev cJ0_checkIndex_df160 : ByteArray := prog_12_method_155_code
def yJ0_checkIndex_df160 : MethodName := ⟨RJ0, "checkIndex", "(II)V"⟩
abbrev cJ0_checkBoundsOffCount_cabcc : ByteArray := prog_12_method_157_code
def yJ0_checkBoundsOffCount_cabcc : MethodName := ⟨RJ0, "checkBoundsOffCount", "(III)I"⟩
abbrev cJ0_checkBoundsBeginEnd_23922 : ByteArray := prog_12_method_158_code
def yJ0_checkBoundsBeginEnd_23922 : MethodName := ⟨RJ0, "checkBoundsBeginEnd", "(III)V"⟩
def RJ4 : String := "java/lang/StringBuilder"
def TJ4 : u_T := fun k => match k with
  | 0 => ("java/lang/AbstractStringBuilder", "value", "[B", false)
  | 1 => ("java/lang/AbstractStringBuilder", "coder", "B", false)
  | 2 => ("java/lang/AbstractStringBuilder", "maybeLatin1", "Z", false)
  | _ => ("java/lang/AbstractStringBuilder", "count", "I", false)
def tyJ4 : Nat → FieldType := fun k => match k with
  | 0 => .array .byte
  | 1 => .byte
  | 2 => .boolean
  | _ => .int
abbrev wsJ40 : List Cond := u_ws RJ4 TJ4 4
theorem nmJ4 : ∀ a, a < 4 → ∀ b, b < 4 → a ≠ b → (TJ4 a).2.1 ≠ (TJ4 b).2.1 := by decide +kernel
theorem tyJ4_ok : ∀ k, k < 4 → parseFieldDescriptor (TJ4 k).2.2.1 = some (tyJ4 k) := by decide +kernel
abbrev cJ4_init_da8c8 : ByteArray := prog_13_method_1_code
def yJ4_init_da8c8 : MethodName := ⟨RJ4, "<init>", "()V"⟩
abbrev cJ4_append_cf468 : ByteArray := prog_13_method_14_code
def yJ4_append_cf468 : MethodName := ⟨RJ4, "append", "(C)Ljava/lang/StringBuilder;"⟩
abbrev cJ4_append_bf812 : ByteArray := prog_13_method_15_code
def yJ4_append_bf812 : MethodName := ⟨RJ4, "append", "(I)Ljava/lang/StringBuilder;"⟩
abbrev cJ4_charAt_5068e : ByteArray := prog_13_method_88_code
def yJ4_charAt_5068e : MethodName := ⟨RJ4, "charAt", "(I)C"⟩
abbrev cJ4_setLength_d00df : ByteArray := prog_13_method_89_code
def yJ4_setLength_d00df : MethodName := ⟨RJ4, "setLength", "(I)V"⟩
abbrev cJ4_length_8abf5 : ByteArray := prog_13_method_93_code
def yJ4_length_8abf5 : MethodName := ⟨RJ4, "length", "()I"⟩
def RJ1 : String := "java/lang/StringLatin1"
def TJ1 : u_T := fun k => match k with
  | _ => ("", "", "", false)
def tyJ1 : Nat → FieldType := fun k => match k with
  | _ => .int
abbrev wsJ10 : List Cond := u_ws RJ1 TJ1 0
theorem nmJ1 : ∀ a, a < 0 → ∀ b, b < 0 → a ≠ b → (TJ1 a).2.1 ≠ (TJ1 b).2.1 := by decide +kernel
theorem tyJ1_ok : ∀ k, k < 0 → parseFieldDescriptor (TJ1 k).2.2.1 = some (tyJ1 k) := by decide +kernel
abbrev cJ1_canEncode_fc78d : ByteArray := prog_14_method_3_code
def yJ1_canEncode_fc78d : MethodName := ⟨RJ1, "canEncode", "(C)Z"⟩
abbrev cJ1_fillNull_b72d1 : ByteArray := prog_14_method_48_code
def yJ1_fillNull_b72d1 : MethodName := ⟨RJ1, "fillNull", "([BII)V"⟩
abbrev cJ1_inflate_0e8fd : ByteArray := prog_14_method_50_code
def yJ1_inflate_0e8fd : MethodName := ⟨RJ1, "inflate", "([BI[BII)V"⟩
def RJ2 : String := "java/lang/StringUTF16"
def TJ2 : u_T := fun k => match k with
  | _ => ("", "", "", false)
def tyJ2 : Nat → FieldType := fun k => match k with
  | _ => .int
abbrev wsJ20 : List Cond := u_ws RJ2 TJ2 0
theorem nmJ2 : ∀ a, a < 0 → ∀ b, b < 0 → a ≠ b → (TJ2 a).2.1 ≠ (TJ2 b).2.1 := by decide +kernel
theorem tyJ2_ok : ∀ k, k < 0 → parseFieldDescriptor (TJ2 k).2.2.1 = some (tyJ2 k) := by decide +kernel
abbrev cJ2_newBytesFor_77867 : ByteArray := prog_15_method_2_code
def yJ2_newBytesFor_77867 : MethodName := ⟨RJ2, "newBytesFor", "(I)[B"⟩
abbrev cJ2_newBytesLength_0f7a4 : ByteArray := prog_15_method_3_code
def yJ2_newBytesLength_0f7a4 : MethodName := ⟨RJ2, "newBytesLength", "(I)I"⟩
abbrev cJ2_putChar_b72d1 : ByteArray := prog_15_method_4_code
def yJ2_putChar_b72d1 : MethodName := ⟨RJ2, "putChar", "([BII)V"⟩
abbrev cJ2_getChar_3b067 : ByteArray := prog_15_method_5_code
def yJ2_getChar_3b067 : MethodName := ⟨RJ2, "getChar", "([BI)C"⟩
abbrev cJ2_length_9d52b : ByteArray := prog_15_method_6_code
def yJ2_length_9d52b : MethodName := ⟨RJ2, "length", "([B)I"⟩
abbrev cJ2_fillNull_b72d1 : ByteArray := prog_15_method_70_code
def yJ2_fillNull_b72d1 : MethodName := ⟨RJ2, "fillNull", "([BII)V"⟩
abbrev cJ2_putCharSB_b72d1 : ByteArray := prog_15_method_71_code
def yJ2_putCharSB_b72d1 : MethodName := ⟨RJ2, "putCharSB", "([BII)V"⟩
abbrev cJ2_getChars_46870 : ByteArray := prog_15_method_77_code
def yJ2_getChars_46870 : MethodName := ⟨RJ2, "getChars", "(III[B)I"⟩
abbrev cJ2_inflate_0e8fd : ByteArray := prog_15_method_86_code
def yJ2_inflate_0e8fd : MethodName := ⟨RJ2, "inflate", "([BI[BII)V"⟩
abbrev cJ2_getChars_ba4f3 : ByteArray := prog_15_method_89_code
def yJ2_getChars_ba4f3 : MethodName := ⟨RJ2, "getChars", "(II[B)I"⟩
abbrev cJ2_checkIndex_2214a : ByteArray := prog_15_method_91_code
def yJ2_checkIndex_2214a : MethodName := ⟨RJ2, "checkIndex", "(I[B)V"⟩
abbrev cJ2_checkBoundsBeginEnd_d044e : ByteArray := prog_15_method_93_code
def yJ2_checkBoundsBeginEnd_d044e : MethodName := ⟨RJ2, "checkBoundsBeginEnd", "(II[B)V"⟩
abbrev cJ2_checkBoundsOffCount_d044e : ByteArray := prog_15_method_94_code
def yJ2_checkBoundsOffCount_d044e : MethodName := ⟨RJ2, "checkBoundsOffCount", "(II[B)V"⟩
def RJ10 : String := "java/lang/System"
def TJ10 : u_T := fun k => match k with
  | _ => ("", "", "", false)
def tyJ10 : Nat → FieldType := fun k => match k with
  | _ => .int
abbrev wsJ100 : List Cond := u_ws RJ10 TJ10 0
theorem nmJ10 : ∀ a, a < 0 → ∀ b, b < 0 → a ≠ b → (TJ10 a).2.1 ≠ (TJ10 b).2.1 := by decide +kernel
theorem tyJ10_ok : ∀ k, k < 0 → parseFieldDescriptor (TJ10 k).2.2.1 = some (tyJ10 k) := by decide +kernel
def RJ7 : String := "java/util/Arrays"
def TJ7 : u_T := fun k => match k with
  | _ => ("", "", "", false)
def tyJ7 : Nat → FieldType := fun k => match k with
  | _ => .int
abbrev wsJ70 : List Cond := u_ws RJ7 TJ7 0
theorem nmJ7 : ∀ a, a < 0 → ∀ b, b < 0 → a ≠ b → (TJ7 a).2.1 ≠ (TJ7 b).2.1 := by decide +kernel
theorem tyJ7_ok : ∀ k, k < 0 → parseFieldDescriptor (TJ7 k).2.2.1 = some (tyJ7 k) := by decide +kernel
abbrev cJ7_rangeCheck_23922 : ByteArray := prog_17_method_30_code
def yJ7_rangeCheck_23922 : MethodName := ⟨RJ7, "rangeCheck", "(III)V"⟩
abbrev cJ7_fill_eb02e : ByteArray := prog_17_method_110_code
def yJ7_fill_eb02e : MethodName := ⟨RJ7, "fill", "([BIIB)V"⟩
abbrev cJ7_copyOf_9075b : ByteArray := prog_17_method_121_code
def yJ7_copyOf_9075b : MethodName := ⟨RJ7, "copyOf", "([BI)[B"⟩
def RJ8 : String := "jdk/internal/util/ArraysSupport"
def TJ8 : u_T := fun k => match k with
  | _ => ("", "", "", false)
def tyJ8 : Nat → FieldType := fun k => match k with
  | _ => .int
abbrev wsJ80 : List Cond := u_ws RJ8 TJ8 0
theorem nmJ8 : ∀ a, a < 0 → ∀ b, b < 0 → a ≠ b → (TJ8 a).2.1 ≠ (TJ8 b).2.1 := by decide +kernel
theorem tyJ8_ok : ∀ k, k < 0 → parseFieldDescriptor (TJ8 k).2.2.1 = some (tyJ8 k) := by decide +kernel
abbrev cJ8_newLength_cabcc : ByteArray := prog_18_method_27_code
def yJ8_newLength_cabcc : MethodName := ⟨RJ8, "newLength", "(III)I"⟩
abbrev cJ8_hugeLength_7cf53 : ByteArray := prog_18_method_28_code
def yJ8_hugeLength_7cf53 : MethodName := ⟨RJ8, "hugeLength", "(II)I"⟩
def RJ3 : String := "jdk/internal/util/Preconditions"
def TJ3 : u_T := fun k => match k with
  | _ => ("", "", "", false)
def tyJ3 : Nat → FieldType := fun k => match k with
  | _ => .int
abbrev wsJ30 : List Cond := u_ws RJ3 TJ3 0
theorem nmJ3 : ∀ a, a < 0 → ∀ b, b < 0 → a ≠ b → (TJ3 a).2.1 ≠ (TJ3 b).2.1 := by decide +kernel
theorem tyJ3_ok : ∀ k, k < 0 → parseFieldDescriptor (TJ3 k).2.2.1 = some (tyJ3 k) := by decide +kernel
abbrev cJ3_checkIndex_8e157 : ByteArray := prog_19_method_11_code
def yJ3_checkIndex_8e157 : MethodName := ⟨RJ3, "checkIndex", "(IILjava/util/function/BiFunction;)I"⟩
abbrev cJ3_checkFromToIndex_8c36e : ByteArray := prog_19_method_12_code
def yJ3_checkFromToIndex_8c36e : MethodName := ⟨RJ3, "checkFromToIndex", "(IIILjava/util/function/BiFunction;)I"⟩
abbrev cJ3_checkFromIndexSize_8c36e : ByteArray := prog_19_method_13_code
def yJ3_checkFromIndexSize_8c36e : MethodName := ⟨RJ3, "checkFromIndexSize", "(IIILjava/util/function/BiFunction;)I"⟩
def RL : String := "ForkedStampsLaw"
abbrev cL_law : ByteArray := code
def yL_law : MethodName := ⟨RL, "law", "([I)Z"⟩
def wsX1_init : List Cond := .code yX1_init cX1_init 1 none :: ([.methodLink RX1 3 objectInit, .instanceMethod objectInit, .code objectInit ⟨#[0xb1]⟩ 1 none, .arrayClass .int, .fieldLink RX1 9 "ForkedStamps$Stamp" "heights" "[I"] ++ wsX10)
def wsX0_init : List Cond := .code yX0_init cX0_init 1 none :: ([.methodLink RX0 3 objectInit, .instanceMethod objectInit, .code objectInit ⟨#[0xb1]⟩ 1 none, .arrayClass .char, .fieldLink RX0 9 "ForkedStamps$Pad" "characters" "[C", .classLink RX0 15 RX1, .instantiable RX1 3, .initialized RX1, .fieldLink RX0 18 "ForkedStamps$Pad" "stamp" "LForkedStamps$Stamp;", .instanceMethod yX1_init, .code yX1_init cX1_init 1 none, .methodLink RX1 3 objectInit, .arrayClass .int, .fieldLink RX1 9 "ForkedStamps$Stamp" "heights" "[I"] ++ wsX00 ++ wsX10)
def wsX0_append : List Cond := .code yX0_append cX0_append 5 none :: ([.fieldLink RX0 22 "ForkedStamps$Pad" "length" "I", .fieldLink RX0 9 "ForkedStamps$Pad" "characters" "[C", .constantLong RX0 26 (255)] ++ wsX00)
def wsX0_fillRow : List Cond := .code yX0_fillRow cX0_fillRow 2 none :: ([.fieldLink RX0 28 "ForkedStamps$Pad" "first" "I", .fieldLink RX0 31 "ForkedStamps$Pad" "size" "I", .fieldLink RX0 18 "ForkedStamps$Pad" "stamp" "LForkedStamps$Stamp;", .fieldLink RX0 61 "ForkedStamps$Stamp" "heights" "[I", .fieldLink RX0 55 "ForkedStamps$Pad" "number" "I"] ++ wsX00 ++ wsX10)
def wsX0_acceptsDigit : List Cond := .code yX0_acceptsDigit cX0_acceptsDigit 3 (some .boolean) :: ([.fieldLink RX0 34 "ForkedStamps$Pad" "stage" "I", .fieldLink RX0 55 "ForkedStamps$Pad" "number" "I", .methodLink RX0 58 yX0_fillRow, .instanceMethod yX0_fillRow, .selects RX0 yX0_fillRow yX0_fillRow, .initialized RX0, .code yX0_fillRow cX0_fillRow 2 none, .fieldLink RX0 28 "ForkedStamps$Pad" "first" "I", .fieldLink RX0 31 "ForkedStamps$Pad" "size" "I", .fieldLink RX0 18 "ForkedStamps$Pad" "stamp" "LForkedStamps$Stamp;", .fieldLink RX0 61 "ForkedStamps$Stamp" "heights" "[I"] ++ wsX00 ++ wsX10)
def wsX0_acceptsOpening : List Cond := .code yX0_acceptsOpening cX0_acceptsOpening 1 (some .boolean) :: ([.fieldLink RX0 34 "ForkedStamps$Pad" "stage" "I", .fieldLink RX0 31 "ForkedStamps$Pad" "size" "I"] ++ wsX00)
def wsX0_isUpperHalf : List Cond := .code yX0_isUpperHalf cX0_isUpperHalf 1 (some .boolean) :: ([.fieldLink RX0 28 "ForkedStamps$Pad" "first" "I", .fieldLink RX0 31 "ForkedStamps$Pad" "size" "I"] ++ wsX00)
def wsX0_acceptsComma : List Cond := .code yX0_acceptsComma cX0_acceptsComma 1 (some .boolean) :: ([.fieldLink RX0 34 "ForkedStamps$Pad" "stage" "I", .fieldLink RX0 31 "ForkedStamps$Pad" "size" "I", .fieldLink RX0 28 "ForkedStamps$Pad" "first" "I", .methodLink RX0 65 yX0_isUpperHalf, .instanceMethod yX0_isUpperHalf, .selects RX0 yX0_isUpperHalf yX0_isUpperHalf, .initialized RX0, .code yX0_isUpperHalf cX0_isUpperHalf 1 (some .boolean)] ++ wsX00)
def wsX0_acceptsClosing : List Cond := .code yX0_acceptsClosing cX0_acceptsClosing 1 (some .boolean) :: ([.fieldLink RX0 34 "ForkedStamps$Pad" "stage" "I", .fieldLink RX0 31 "ForkedStamps$Pad" "size" "I", .fieldLink RX0 28 "ForkedStamps$Pad" "first" "I", .methodLink RX0 65 yX0_isUpperHalf, .instanceMethod yX0_isUpperHalf, .selects RX0 yX0_isUpperHalf yX0_isUpperHalf, .initialized RX0, .code yX0_isUpperHalf cX0_isUpperHalf 1 (some .boolean)] ++ wsX00)
def wsX0_accepts_r1 : List Cond := [Cond.methodLink RX0 41 yX0_acceptsDigit, Cond.instanceMethod yX0_acceptsDigit, Cond.selects RX0 yX0_acceptsDigit yX0_acceptsDigit, Cond.initialized RX0, Cond.code yX0_acceptsDigit cX0_acceptsDigit 3 (some .boolean), Cond.fieldLink RX0 34 "ForkedStamps$Pad" "stage" "I", Cond.fieldLink RX0 55 "ForkedStamps$Pad" "number" "I", Cond.methodLink RX0 58 yX0_fillRow, Cond.instanceMethod yX0_fillRow, Cond.selects RX0 yX0_fillRow yX0_fillRow, Cond.code yX0_fillRow cX0_fillRow 2 none, Cond.fieldLink RX0 28 "ForkedStamps$Pad" "first" "I", Cond.fieldLink RX0 31 "ForkedStamps$Pad" "size" "I", Cond.fieldLink RX0 18 "ForkedStamps$Pad" "stamp" "LForkedStamps$Stamp;", Cond.fieldLink RX0 61 "ForkedStamps$Stamp" "heights" "[I", Cond.methodLink RX0 45 yX0_acceptsOpening, Cond.instanceMethod yX0_acceptsOpening, Cond.selects RX0 yX0_acceptsOpening yX0_acceptsOpening, Cond.code yX0_acceptsOpening cX0_acceptsOpening 1 (some .boolean), Cond.methodLink RX0 49 yX0_acceptsComma, Cond.instanceMethod yX0_acceptsComma, Cond.selects RX0 yX0_acceptsComma yX0_acceptsComma, Cond.code yX0_acceptsComma cX0_acceptsComma 1 (some .boolean), Cond.methodLink RX0 65 yX0_isUpperHalf]
def wsX0_accepts_r2 : List Cond := [Cond.instanceMethod yX0_isUpperHalf, Cond.selects RX0 yX0_isUpperHalf yX0_isUpperHalf, Cond.code yX0_isUpperHalf cX0_isUpperHalf 1 (some .boolean), Cond.methodLink RX0 52 yX0_acceptsClosing, Cond.instanceMethod yX0_acceptsClosing, Cond.selects RX0 yX0_acceptsClosing yX0_acceptsClosing, Cond.code yX0_acceptsClosing cX0_acceptsClosing 1 (some .boolean)]
def wsX0_accepts : List Cond := .code yX0_accepts cX0_accepts 2 (some .boolean) :: ((wsX0_accepts_r1 ++ wsX0_accepts_r2) ++ wsX00 ++ wsX10)
def wsX0_read_r1 : List Cond := [Cond.fieldLink RX0 28 "ForkedStamps$Pad" "first" "I", Cond.fieldLink RX0 31 "ForkedStamps$Pad" "size" "I", Cond.fieldLink RX0 34 "ForkedStamps$Pad" "stage" "I", Cond.fieldLink RX0 22 "ForkedStamps$Pad" "length" "I", Cond.fieldLink RX0 9 "ForkedStamps$Pad" "characters" "[C", Cond.methodLink RX0 37 yX0_accepts, Cond.instanceMethod yX0_accepts, Cond.selects RX0 yX0_accepts yX0_accepts, Cond.initialized RX0, Cond.code yX0_accepts cX0_accepts 2 (some .boolean), Cond.methodLink RX0 41 yX0_acceptsDigit, Cond.instanceMethod yX0_acceptsDigit, Cond.selects RX0 yX0_acceptsDigit yX0_acceptsDigit, Cond.code yX0_acceptsDigit cX0_acceptsDigit 3 (some .boolean), Cond.fieldLink RX0 55 "ForkedStamps$Pad" "number" "I", Cond.methodLink RX0 58 yX0_fillRow, Cond.instanceMethod yX0_fillRow, Cond.selects RX0 yX0_fillRow yX0_fillRow, Cond.code yX0_fillRow cX0_fillRow 2 none, Cond.fieldLink RX0 18 "ForkedStamps$Pad" "stamp" "LForkedStamps$Stamp;", Cond.fieldLink RX0 61 "ForkedStamps$Stamp" "heights" "[I", Cond.methodLink RX0 45 yX0_acceptsOpening, Cond.instanceMethod yX0_acceptsOpening, Cond.selects RX0 yX0_acceptsOpening yX0_acceptsOpening]
def wsX0_read_r2 : List Cond := [Cond.code yX0_acceptsOpening cX0_acceptsOpening 1 (some .boolean), Cond.methodLink RX0 49 yX0_acceptsComma, Cond.instanceMethod yX0_acceptsComma, Cond.selects RX0 yX0_acceptsComma yX0_acceptsComma, Cond.code yX0_acceptsComma cX0_acceptsComma 1 (some .boolean), Cond.methodLink RX0 65 yX0_isUpperHalf, Cond.instanceMethod yX0_isUpperHalf, Cond.selects RX0 yX0_isUpperHalf yX0_isUpperHalf, Cond.code yX0_isUpperHalf cX0_isUpperHalf 1 (some .boolean), Cond.methodLink RX0 52 yX0_acceptsClosing, Cond.instanceMethod yX0_acceptsClosing, Cond.selects RX0 yX0_acceptsClosing yX0_acceptsClosing, Cond.code yX0_acceptsClosing cX0_acceptsClosing 1 (some .boolean)]
def wsX0_read : List Cond := .code yX0_read cX0_read 2 (some .int) :: ((wsX0_read_r1 ++ wsX0_read_r2) ++ wsX00 ++ wsX10)
def wsX1_become : List Cond := .code yX1_become cX1_become 2 none :: ([.fieldLink RX1 9 "ForkedStamps$Stamp" "heights" "[I", .methodLink RX1 15 arraycopyName, .native arraycopyName, .static arraycopyName, .initialized "java/lang/System", .fieldLink RX1 21 "ForkedStamps$Stamp" "knownEarly" "J", .fieldLink RX1 25 "ForkedStamps$Stamp" "knownLate" "J"] ++ wsX10)
def wsX1_takeOver : List Cond := .code yX1_takeOver cX1_takeOver 3 none :: ([.fieldLink RX1 9 "ForkedStamps$Stamp" "heights" "[I", .methodLink RX1 28 Lib.Math.max.name, .static Lib.Math.max.name, .initialized "java/lang/Math", .code Lib.Math.max.name Lib.Math.max.code 2 (some .int), .fieldLink RX1 21 "ForkedStamps$Stamp" "knownEarly" "J", .fieldLink RX1 25 "ForkedStamps$Stamp" "knownLate" "J"] ++ wsX10)
def wsX1_isIn : List Cond := .code yX1_isIn cX1_isIn 2 (some .boolean) :: ([])
def wsX1_greatestIn : List Cond := .code yX1_greatestIn cX1_greatestIn 4 (some .int) :: ([.fieldLink RX1 9 "ForkedStamps$Stamp" "heights" "[I", .methodLink RX1 28 Lib.Math.max.name, .static Lib.Math.max.name, .initialized "java/lang/Math", .code Lib.Math.max.name Lib.Math.max.code 2 (some .int), .methodLink RX1 42 yX1_isIn, .static yX1_isIn, .initialized RX1, .code yX1_isIn cX1_isIn 2 (some .boolean)] ++ wsX10)
def wsX1_isLevel : List Cond := .code yX1_isLevel cX1_isLevel 4 (some .boolean) :: ([.fieldLink RX1 9 "ForkedStamps$Stamp" "heights" "[I", .methodLink RX1 42 yX1_isIn, .static yX1_isIn, .initialized RX1, .code yX1_isIn cX1_isIn 2 (some .boolean)] ++ wsX10)
def wsX1_raise : List Cond := .code yX1_raise cX1_raise 5 none :: ([.fieldLink RX1 9 "ForkedStamps$Stamp" "heights" "[I", .methodLink RX1 34 yX1_greatestIn, .instanceMethod yX1_greatestIn, .selects RX1 yX1_greatestIn yX1_greatestIn, .initialized RX1, .code yX1_greatestIn cX1_greatestIn 4 (some .int), .methodLink RX1 28 Lib.Math.max.name, .static Lib.Math.max.name, .initialized "java/lang/Math", .code Lib.Math.max.name Lib.Math.max.code 2 (some .int), .methodLink RX1 42 yX1_isIn, .static yX1_isIn, .code yX1_isIn cX1_isIn 2 (some .boolean), .methodLink RX1 38 yX1_isLevel, .instanceMethod yX1_isLevel, .selects RX1 yX1_isLevel yX1_isLevel, .code yX1_isLevel cX1_isLevel 4 (some .boolean)] ++ wsX10)
def wsX1_sum : List Cond := .code yX1_sum cX1_sum 6 (some .int) :: ([.fieldLink RX1 9 "ForkedStamps$Stamp" "heights" "[I"] ++ wsX10)
def wsX1_orderTo : List Cond := .code yX1_orderTo cX1_orderTo 5 (some .int) :: ([.fieldLink RX1 9 "ForkedStamps$Stamp" "heights" "[I"] ++ wsX10)
def wsX1_learn : List Cond := .code yX1_learn cX1_learn 2 none :: ([.fieldLink RX1 21 "ForkedStamps$Stamp" "knownEarly" "J", .fieldLink RX1 25 "ForkedStamps$Stamp" "knownLate" "J"] ++ wsX10)
def wsX1_isKnown : List Cond := .code yX1_isKnown cX1_isKnown 4 (some .boolean) :: ([.fieldLink RX1 21 "ForkedStamps$Stamp" "knownEarly" "J", .fieldLink RX1 25 "ForkedStamps$Stamp" "knownLate" "J"] ++ wsX10)
def wsJ13_bitCount_95d88 : List Cond := .code yJ13_bitCount_95d88 cJ13_bitCount_95d88 2 (some .int) :: ([.constantLong RJ13 314 (6148914691236517205), .constantLong RJ13 316 (3689348814741910323), .constantLong RJ13 318 (1085102592571150095)])
def wsX1_knownCount : List Cond := .code yX1_knownCount cX1_knownCount 1 (some .int) :: ([.fieldLink RX1 21 "ForkedStamps$Stamp" "knownEarly" "J", .fieldLink RX1 25 "ForkedStamps$Stamp" "knownLate" "J", .methodLink RX1 45 yJ13_bitCount_95d88, .static yJ13_bitCount_95d88, .initialized RJ13, .code yJ13_bitCount_95d88 cJ13_bitCount_95d88 2 (some .int), .constantLong RJ13 314 (6148914691236517205), .constantLong RJ13 316 (3689348814741910323), .constantLong RJ13 318 (1085102592571150095)] ++ wsX10)
def wsX1_knownBeyond : List Cond := .code yX1_knownBeyond cX1_knownBeyond 2 (some .int) :: ([.fieldLink RX1 21 "ForkedStamps$Stamp" "knownEarly" "J", .constantLong RX1 51 (-1), .fieldLink RX1 25 "ForkedStamps$Stamp" "knownLate" "J", .methodLink RX1 45 yJ13_bitCount_95d88, .static yJ13_bitCount_95d88, .initialized RJ13, .code yJ13_bitCount_95d88 cJ13_bitCount_95d88 2 (some .int), .constantLong RJ13 314 (6148914691236517205), .constantLong RJ13 316 (3689348814741910323), .constantLong RJ13 318 (1085102592571150095)] ++ wsX10)
def wsX1_latestKnown : List Cond := .code yX1_latestKnown cX1_latestKnown 2 (some .int) :: ([.methodLink RX1 53 yX1_isKnown, .instanceMethod yX1_isKnown, .selects RX1 yX1_isKnown yX1_isKnown, .initialized RX1, .code yX1_isKnown cX1_isKnown 4 (some .boolean), .fieldLink RX1 21 "ForkedStamps$Stamp" "knownEarly" "J", .fieldLink RX1 25 "ForkedStamps$Stamp" "knownLate" "J"] ++ wsX10)
def wsX1_isLeaf : List Cond := .code yX1_isLeaf cX1_isLeaf 4 (some .boolean) :: ([])
def wsX1_knotsOfRow : List Cond := .code yX1_knotsOfRow cX1_knotsOfRow 4 (some .int) :: ([.methodLink RX1 65 yX1_isLeaf, .static yX1_isLeaf, .initialized RX1, .code yX1_isLeaf cX1_isLeaf 4 (some .boolean), .methodLink RX1 57 yX1_knotsOfRow, .static yX1_knotsOfRow])
def wsX1_knots : List Cond := .code yX1_knots cX1_knots 1 (some .int) :: ([.fieldLink RX1 9 "ForkedStamps$Stamp" "heights" "[I", .methodLink RX1 57 yX1_knotsOfRow, .static yX1_knotsOfRow, .initialized RX1, .code yX1_knotsOfRow cX1_knotsOfRow 4 (some .int), .methodLink RX1 65 yX1_isLeaf, .static yX1_isLeaf, .code yX1_isLeaf cX1_isLeaf 4 (some .boolean)] ++ wsX10)
def wsJ6_stringSize_0f7a4 : List Cond := .code yJ6_stringSize_0f7a4 cJ6_stringSize_0f7a4 4 (some .int) :: ([])
def wsJ8_hugeLength_7cf53 : List Cond := .code yJ8_hugeLength_7cf53 cJ8_hugeLength_7cf53 3 (some .int) :: ([.constant RJ8 200 (2147483639)])
def wsJ8_newLength_cabcc : List Cond := .code yJ8_newLength_cabcc cJ8_newLength_cabcc 4 (some .int) :: ([.methodLink RJ8 194 Lib.Math.max.name, .static Lib.Math.max.name, .initialized "java/lang/Math", .code Lib.Math.max.name Lib.Math.max.code 2 (some .int), .constant RJ8 200 (2147483639), .methodLink RJ8 201 yJ8_hugeLength_7cf53, .static yJ8_hugeLength_7cf53, .initialized RJ8, .code yJ8_hugeLength_7cf53 cJ8_hugeLength_7cf53 3 (some .int)])
def wsJ5_newCapacity_0f7a4 : List Cond := .code yJ5_newCapacity_0f7a4 cJ5_newCapacity_0f7a4 6 (some .int) :: ([.fieldLink RJ5 15 "java/lang/AbstractStringBuilder" "value" "[B", .fieldLink RJ5 22 "java/lang/AbstractStringBuilder" "coder" "B", .constant RJ5 39 (2147483647), .methodLink RJ5 114 yJ8_newLength_cabcc, .static yJ8_newLength_cabcc, .initialized RJ8, .code yJ8_newLength_cabcc cJ8_newLength_cabcc 4 (some .int), .methodLink RJ8 194 Lib.Math.max.name, .static Lib.Math.max.name, .initialized "java/lang/Math", .code Lib.Math.max.name Lib.Math.max.code 2 (some .int), .constant RJ8 200 (2147483639), .methodLink RJ8 201 yJ8_hugeLength_7cf53, .static yJ8_hugeLength_7cf53, .code yJ8_hugeLength_7cf53 cJ8_hugeLength_7cf53 3 (some .int)] ++ wsJ40)
def wsJ7_copyOf_9075b : List Cond := .code yJ7_copyOf_9075b cJ7_copyOf_9075b 3 (some (.array .byte)) :: ([.methodLink RJ7 310 ⟨"[B", "clone", "()Ljava/lang/Object;"⟩, .sameMethod "[B" "java/lang/Object" "clone" "()Ljava/lang/Object;", .native ⟨"java/lang/Object", "clone", "()Ljava/lang/Object;"⟩, .instanceMethod ⟨"java/lang/Object", "clone", "()Ljava/lang/Object;"⟩, .selects "[B" ⟨"[B", "clone", "()Ljava/lang/Object;"⟩ ⟨"java/lang/Object", "clone", "()Ljava/lang/Object;"⟩, .classLink RJ7 311 "[B", .arrayClass .byte, .methodLink RJ7 304 Lib.Math.min.name, .static Lib.Math.min.name, .initialized "java/lang/Math", .code Lib.Math.min.name Lib.Math.min.code 2 (some .int), .methodLink RJ7 150 arraycopyName, .native arraycopyName, .static arraycopyName, .initialized "java/lang/System"])
def wsJ5_ensureCapacityInternal_d00df_r1 : List Cond := [Cond.fieldLink RJ5 15 "java/lang/AbstractStringBuilder" "value" "[B", Cond.fieldLink RJ5 22 "java/lang/AbstractStringBuilder" "coder" "B", Cond.methodLink RJ5 104 ⟨"java/lang/AbstractStringBuilder", "newCapacity", "(I)I"⟩, Cond.sameMethod "java/lang/AbstractStringBuilder" "java/lang/AbstractStringBuilder" "newCapacity" "(I)I", Cond.selects RJ4 ⟨"java/lang/AbstractStringBuilder", "newCapacity", "(I)I"⟩ yJ5_newCapacity_0f7a4, Cond.instanceMethod yJ5_newCapacity_0f7a4, Cond.initialized RJ5, Cond.code yJ5_newCapacity_0f7a4 cJ5_newCapacity_0f7a4 6 (some .int), Cond.constant RJ5 39 (2147483647), Cond.methodLink RJ5 114 yJ8_newLength_cabcc, Cond.static yJ8_newLength_cabcc, Cond.initialized RJ8, Cond.code yJ8_newLength_cabcc cJ8_newLength_cabcc 4 (some .int), Cond.methodLink RJ8 194 Lib.Math.max.name, Cond.static Lib.Math.max.name, Cond.initialized "java/lang/Math", Cond.code Lib.Math.max.name Lib.Math.max.code 2 (some .int), Cond.constant RJ8 200 (2147483639), Cond.methodLink RJ8 201 yJ8_hugeLength_7cf53, Cond.static yJ8_hugeLength_7cf53, Cond.code yJ8_hugeLength_7cf53 cJ8_hugeLength_7cf53 3 (some .int), Cond.methodLink RJ5 108 yJ7_copyOf_9075b, Cond.static yJ7_copyOf_9075b, Cond.initialized RJ7]
def wsJ5_ensureCapacityInternal_d00df_r2 : List Cond := [Cond.code yJ7_copyOf_9075b cJ7_copyOf_9075b 3 (some (.array .byte)), Cond.methodLink RJ7 310 ⟨"[B", "clone", "()Ljava/lang/Object;"⟩, Cond.sameMethod "[B" "java/lang/Object" "clone" "()Ljava/lang/Object;", Cond.native ⟨"java/lang/Object", "clone", "()Ljava/lang/Object;"⟩, Cond.instanceMethod ⟨"java/lang/Object", "clone", "()Ljava/lang/Object;"⟩, Cond.selects "[B" ⟨"[B", "clone", "()Ljava/lang/Object;"⟩ ⟨"java/lang/Object", "clone", "()Ljava/lang/Object;"⟩, Cond.classLink RJ7 311 "[B", Cond.arrayClass .byte, Cond.methodLink RJ7 304 Lib.Math.min.name, Cond.static Lib.Math.min.name, Cond.code Lib.Math.min.name Lib.Math.min.code 2 (some .int), Cond.methodLink RJ7 150 arraycopyName, Cond.native arraycopyName, Cond.static arraycopyName, Cond.initialized "java/lang/System"]
def wsJ5_ensureCapacityInternal_d00df : List Cond := .code yJ5_ensureCapacityInternal_d00df cJ5_ensureCapacityInternal_d00df 3 none :: ((wsJ5_ensureCapacityInternal_d00df_r1 ++ wsJ5_ensureCapacityInternal_d00df_r2) ++ wsJ40)
def wsJ5_isLatin1_aae02 : List Cond := .code yJ5_isLatin1_aae02 cJ5_isLatin1_aae02 1 (some .boolean) :: ([.fieldLink RJ5 18 "java/lang/String" "COMPACT_STRINGS" "Z", .fieldLink RJ5 22 "java/lang/AbstractStringBuilder" "coder" "B"] ++ wsJ40)
def wsJ6_getChars_ba4f3 : List Cond := .code yJ6_getChars_ba4f3 cJ6_getChars_ba4f3 7 (some .int) :: ([.fieldLink RJ6 83 "java/lang/Integer" "DigitOnes" "[B", .fieldLink RJ6 87 "java/lang/Integer" "DigitTens" "[B"])
def wsJ2_length_9d52b : List Cond := .code yJ2_length_9d52b cJ2_length_9d52b 1 (some .int) :: ([])
def wsJ3_checkFromToIndex_8c36e : List Cond := .code yJ3_checkFromToIndex_8c36e cJ3_checkFromToIndex_8c36e 4 (some .int) :: ([])
def wsJ0_checkBoundsBeginEnd_23922 : List Cond := .code yJ0_checkBoundsBeginEnd_23922 cJ0_checkBoundsBeginEnd_23922 3 none :: ([.fieldLink RJ0 1053 "jdk/internal/util/Preconditions" "SIOOBE_FORMATTER" "Ljava/util/function/BiFunction;", .methodLink RJ0 1062 yJ3_checkFromToIndex_8c36e, .static yJ3_checkFromToIndex_8c36e, .initialized RJ3, .code yJ3_checkFromToIndex_8c36e cJ3_checkFromToIndex_8c36e 4 (some .int)])
def wsJ2_checkBoundsBeginEnd_d044e : List Cond := .code yJ2_checkBoundsBeginEnd_d044e cJ2_checkBoundsBeginEnd_d044e 3 none :: ([.methodLink RJ2 48 yJ2_length_9d52b, .static yJ2_length_9d52b, .initialized RJ2, .code yJ2_length_9d52b cJ2_length_9d52b 1 (some .int), .methodLink RJ2 241 yJ0_checkBoundsBeginEnd_23922, .static yJ0_checkBoundsBeginEnd_23922, .initialized RJ0, .code yJ0_checkBoundsBeginEnd_23922 cJ0_checkBoundsBeginEnd_23922 3 none, .fieldLink RJ0 1053 "jdk/internal/util/Preconditions" "SIOOBE_FORMATTER" "Ljava/util/function/BiFunction;", .methodLink RJ0 1062 yJ3_checkFromToIndex_8c36e, .static yJ3_checkFromToIndex_8c36e, .initialized RJ3, .code yJ3_checkFromToIndex_8c36e cJ3_checkFromToIndex_8c36e 4 (some .int)])
def wsJ2_putChar_b72d1 : List Cond := .code yJ2_putChar_b72d1 cJ2_putChar_b72d1 3 none :: ([.fieldLink RJ2 44 "java/lang/StringUTF16" "$assertionsDisabled" "Z", .fieldLink RJ2 59 "java/lang/StringUTF16" "HI_BYTE_SHIFT" "I", .fieldLink RJ2 63 "java/lang/StringUTF16" "LO_BYTE_SHIFT" "I", .methodLink RJ2 48 yJ2_length_9d52b, .static yJ2_length_9d52b, .initialized RJ2, .code yJ2_length_9d52b cJ2_length_9d52b 1 (some .int)])
def wsJ2_getChars_ba4f3 : List Cond := .code yJ2_getChars_ba4f3 cJ2_getChars_ba4f3 7 (some .int) :: ([.fieldLink RJ2 403 "java/lang/Integer" "DigitOnes" "[B", .fieldLink RJ2 407 "java/lang/Integer" "DigitTens" "[B", .methodLink RJ2 111 yJ2_putChar_b72d1, .static yJ2_putChar_b72d1, .initialized RJ2, .code yJ2_putChar_b72d1 cJ2_putChar_b72d1 3 none, .fieldLink RJ2 44 "java/lang/StringUTF16" "$assertionsDisabled" "Z", .fieldLink RJ2 59 "java/lang/StringUTF16" "HI_BYTE_SHIFT" "I", .fieldLink RJ2 63 "java/lang/StringUTF16" "LO_BYTE_SHIFT" "I", .methodLink RJ2 48 yJ2_length_9d52b, .static yJ2_length_9d52b, .code yJ2_length_9d52b cJ2_length_9d52b 1 (some .int)])
def wsJ2_getChars_46870_r1 : List Cond := [Cond.fieldLink RJ2 44 "java/lang/StringUTF16" "$assertionsDisabled" "Z", Cond.methodLink RJ2 96 yJ2_checkBoundsBeginEnd_d044e, Cond.static yJ2_checkBoundsBeginEnd_d044e, Cond.initialized RJ2, Cond.code yJ2_checkBoundsBeginEnd_d044e cJ2_checkBoundsBeginEnd_d044e 3 none, Cond.methodLink RJ2 48 yJ2_length_9d52b, Cond.static yJ2_length_9d52b, Cond.code yJ2_length_9d52b cJ2_length_9d52b 1 (some .int), Cond.methodLink RJ2 241 yJ0_checkBoundsBeginEnd_23922, Cond.static yJ0_checkBoundsBeginEnd_23922, Cond.initialized RJ0, Cond.code yJ0_checkBoundsBeginEnd_23922 cJ0_checkBoundsBeginEnd_23922 3 none, Cond.fieldLink RJ0 1053 "jdk/internal/util/Preconditions" "SIOOBE_FORMATTER" "Ljava/util/function/BiFunction;", Cond.methodLink RJ0 1062 yJ3_checkFromToIndex_8c36e, Cond.static yJ3_checkFromToIndex_8c36e, Cond.initialized RJ3, Cond.code yJ3_checkFromToIndex_8c36e cJ3_checkFromToIndex_8c36e 4 (some .int), Cond.methodLink RJ2 393 yJ2_getChars_ba4f3, Cond.static yJ2_getChars_ba4f3, Cond.code yJ2_getChars_ba4f3 cJ2_getChars_ba4f3 7 (some .int), Cond.fieldLink RJ2 403 "java/lang/Integer" "DigitOnes" "[B", Cond.fieldLink RJ2 407 "java/lang/Integer" "DigitTens" "[B", Cond.methodLink RJ2 111 yJ2_putChar_b72d1, Cond.static yJ2_putChar_b72d1]
def wsJ2_getChars_46870_r2 : List Cond := [Cond.code yJ2_putChar_b72d1 cJ2_putChar_b72d1 3 none, Cond.fieldLink RJ2 59 "java/lang/StringUTF16" "HI_BYTE_SHIFT" "I", Cond.fieldLink RJ2 63 "java/lang/StringUTF16" "LO_BYTE_SHIFT" "I"]
def wsJ2_getChars_46870 : List Cond := .code yJ2_getChars_46870 cJ2_getChars_46870 5 (some .int) :: ((wsJ2_getChars_46870_r1 ++ wsJ2_getChars_46870_r2))
def wsJ5_append_c97b9_r1 : List Cond := [Cond.fieldLink RJ5 79 "java/lang/AbstractStringBuilder" "count" "I", Cond.fieldLink RJ5 15 "java/lang/AbstractStringBuilder" "value" "[B", Cond.methodLink RJ5 245 yJ6_stringSize_0f7a4, Cond.static yJ6_stringSize_0f7a4, Cond.initialized RJ6, Cond.code yJ6_stringSize_0f7a4 cJ6_stringSize_0f7a4 4 (some .int), Cond.methodLink RJ5 100 ⟨"java/lang/AbstractStringBuilder", "ensureCapacityInternal", "(I)V"⟩, Cond.sameMethod "java/lang/AbstractStringBuilder" "java/lang/AbstractStringBuilder" "ensureCapacityInternal" "(I)V", Cond.selects RJ4 ⟨"java/lang/AbstractStringBuilder", "ensureCapacityInternal", "(I)V"⟩ yJ5_ensureCapacityInternal_d00df, Cond.instanceMethod yJ5_ensureCapacityInternal_d00df, Cond.initialized RJ5, Cond.code yJ5_ensureCapacityInternal_d00df cJ5_ensureCapacityInternal_d00df 3 none, Cond.fieldLink RJ5 22 "java/lang/AbstractStringBuilder" "coder" "B", Cond.methodLink RJ5 104 ⟨"java/lang/AbstractStringBuilder", "newCapacity", "(I)I"⟩, Cond.sameMethod "java/lang/AbstractStringBuilder" "java/lang/AbstractStringBuilder" "newCapacity" "(I)I", Cond.selects RJ4 ⟨"java/lang/AbstractStringBuilder", "newCapacity", "(I)I"⟩ yJ5_newCapacity_0f7a4, Cond.instanceMethod yJ5_newCapacity_0f7a4, Cond.code yJ5_newCapacity_0f7a4 cJ5_newCapacity_0f7a4 6 (some .int), Cond.constant RJ5 39 (2147483647), Cond.methodLink RJ5 114 yJ8_newLength_cabcc, Cond.static yJ8_newLength_cabcc, Cond.initialized RJ8, Cond.code yJ8_newLength_cabcc cJ8_newLength_cabcc 4 (some .int), Cond.methodLink RJ8 194 Lib.Math.max.name]
def wsJ5_append_c97b9_r2 : List Cond := [Cond.static Lib.Math.max.name, Cond.initialized "java/lang/Math", Cond.code Lib.Math.max.name Lib.Math.max.code 2 (some .int), Cond.constant RJ8 200 (2147483639), Cond.methodLink RJ8 201 yJ8_hugeLength_7cf53, Cond.static yJ8_hugeLength_7cf53, Cond.code yJ8_hugeLength_7cf53 cJ8_hugeLength_7cf53 3 (some .int), Cond.methodLink RJ5 108 yJ7_copyOf_9075b, Cond.static yJ7_copyOf_9075b, Cond.initialized RJ7, Cond.code yJ7_copyOf_9075b cJ7_copyOf_9075b 3 (some (.array .byte)), Cond.methodLink RJ7 310 ⟨"[B", "clone", "()Ljava/lang/Object;"⟩, Cond.sameMethod "[B" "java/lang/Object" "clone" "()Ljava/lang/Object;", Cond.native ⟨"java/lang/Object", "clone", "()Ljava/lang/Object;"⟩, Cond.instanceMethod ⟨"java/lang/Object", "clone", "()Ljava/lang/Object;"⟩, Cond.selects "[B" ⟨"[B", "clone", "()Ljava/lang/Object;"⟩ ⟨"java/lang/Object", "clone", "()Ljava/lang/Object;"⟩, Cond.classLink RJ7 311 "[B", Cond.arrayClass .byte, Cond.methodLink RJ7 304 Lib.Math.min.name, Cond.static Lib.Math.min.name, Cond.code Lib.Math.min.name Lib.Math.min.code 2 (some .int), Cond.methodLink RJ7 150 arraycopyName, Cond.native arraycopyName, Cond.static arraycopyName]
def wsJ5_append_c97b9_r3 : List Cond := [Cond.initialized "java/lang/System", Cond.methodLink RJ5 83 ⟨"java/lang/AbstractStringBuilder", "isLatin1", "()Z"⟩, Cond.sameMethod "java/lang/AbstractStringBuilder" "java/lang/AbstractStringBuilder" "isLatin1" "()Z", Cond.selects RJ4 ⟨"java/lang/AbstractStringBuilder", "isLatin1", "()Z"⟩ yJ5_isLatin1_aae02, Cond.instanceMethod yJ5_isLatin1_aae02, Cond.code yJ5_isLatin1_aae02 cJ5_isLatin1_aae02 1 (some .boolean), Cond.fieldLink RJ5 18 "java/lang/String" "COMPACT_STRINGS" "Z", Cond.methodLink RJ5 248 yJ6_getChars_ba4f3, Cond.static yJ6_getChars_ba4f3, Cond.code yJ6_getChars_ba4f3 cJ6_getChars_ba4f3 7 (some .int), Cond.fieldLink RJ6 83 "java/lang/Integer" "DigitOnes" "[B", Cond.fieldLink RJ6 87 "java/lang/Integer" "DigitTens" "[B", Cond.methodLink RJ5 251 yJ2_getChars_46870, Cond.static yJ2_getChars_46870, Cond.initialized RJ2, Cond.code yJ2_getChars_46870 cJ2_getChars_46870 5 (some .int), Cond.fieldLink RJ2 44 "java/lang/StringUTF16" "$assertionsDisabled" "Z", Cond.methodLink RJ2 96 yJ2_checkBoundsBeginEnd_d044e, Cond.static yJ2_checkBoundsBeginEnd_d044e, Cond.code yJ2_checkBoundsBeginEnd_d044e cJ2_checkBoundsBeginEnd_d044e 3 none, Cond.methodLink RJ2 48 yJ2_length_9d52b, Cond.static yJ2_length_9d52b, Cond.code yJ2_length_9d52b cJ2_length_9d52b 1 (some .int), Cond.methodLink RJ2 241 yJ0_checkBoundsBeginEnd_23922]
def wsJ5_append_c97b9_r4 : List Cond := [Cond.static yJ0_checkBoundsBeginEnd_23922, Cond.initialized RJ0, Cond.code yJ0_checkBoundsBeginEnd_23922 cJ0_checkBoundsBeginEnd_23922 3 none, Cond.fieldLink RJ0 1053 "jdk/internal/util/Preconditions" "SIOOBE_FORMATTER" "Ljava/util/function/BiFunction;", Cond.methodLink RJ0 1062 yJ3_checkFromToIndex_8c36e, Cond.static yJ3_checkFromToIndex_8c36e, Cond.initialized RJ3, Cond.code yJ3_checkFromToIndex_8c36e cJ3_checkFromToIndex_8c36e 4 (some .int), Cond.methodLink RJ2 393 yJ2_getChars_ba4f3, Cond.static yJ2_getChars_ba4f3, Cond.code yJ2_getChars_ba4f3 cJ2_getChars_ba4f3 7 (some .int), Cond.fieldLink RJ2 403 "java/lang/Integer" "DigitOnes" "[B", Cond.fieldLink RJ2 407 "java/lang/Integer" "DigitTens" "[B", Cond.methodLink RJ2 111 yJ2_putChar_b72d1, Cond.static yJ2_putChar_b72d1, Cond.code yJ2_putChar_b72d1 cJ2_putChar_b72d1 3 none, Cond.fieldLink RJ2 59 "java/lang/StringUTF16" "HI_BYTE_SHIFT" "I", Cond.fieldLink RJ2 63 "java/lang/StringUTF16" "LO_BYTE_SHIFT" "I"]
def wsJ5_append_c97b9 : List Cond := .code yJ5_append_c97b9 cJ5_append_c97b9 4 (some (.object "java/lang/AbstractStringBuilder")) :: ((wsJ5_append_c97b9_r1 ++ (wsJ5_append_c97b9_r2 ++ (wsJ5_append_c97b9_r3 ++ wsJ5_append_c97b9_r4))) ++ wsJ40)
def wsJ4_append_bf812_r1 : List Cond := [Cond.methodLink RJ4 53 yJ5_append_c97b9, Cond.sameMethod "java/lang/AbstractStringBuilder" "java/lang/AbstractStringBuilder" "append" "(I)Ljava/lang/AbstractStringBuilder;", Cond.superclass RJ4 RJ5, Cond.instanceMethod yJ5_append_c97b9, Cond.initialized RJ5, Cond.code yJ5_append_c97b9 cJ5_append_c97b9 4 (some (.object "java/lang/AbstractStringBuilder")), Cond.fieldLink RJ5 79 "java/lang/AbstractStringBuilder" "count" "I", Cond.fieldLink RJ5 15 "java/lang/AbstractStringBuilder" "value" "[B", Cond.methodLink RJ5 245 yJ6_stringSize_0f7a4, Cond.static yJ6_stringSize_0f7a4, Cond.initialized RJ6, Cond.code yJ6_stringSize_0f7a4 cJ6_stringSize_0f7a4 4 (some .int), Cond.methodLink RJ5 100 ⟨"java/lang/AbstractStringBuilder", "ensureCapacityInternal", "(I)V"⟩, Cond.sameMethod "java/lang/AbstractStringBuilder" "java/lang/AbstractStringBuilder" "ensureCapacityInternal" "(I)V", Cond.selects RJ4 ⟨"java/lang/AbstractStringBuilder", "ensureCapacityInternal", "(I)V"⟩ yJ5_ensureCapacityInternal_d00df, Cond.instanceMethod yJ5_ensureCapacityInternal_d00df, Cond.code yJ5_ensureCapacityInternal_d00df cJ5_ensureCapacityInternal_d00df 3 none, Cond.fieldLink RJ5 22 "java/lang/AbstractStringBuilder" "coder" "B", Cond.methodLink RJ5 104 ⟨"java/lang/AbstractStringBuilder", "newCapacity", "(I)I"⟩, Cond.sameMethod "java/lang/AbstractStringBuilder" "java/lang/AbstractStringBuilder" "newCapacity" "(I)I", Cond.selects RJ4 ⟨"java/lang/AbstractStringBuilder", "newCapacity", "(I)I"⟩ yJ5_newCapacity_0f7a4, Cond.instanceMethod yJ5_newCapacity_0f7a4, Cond.code yJ5_newCapacity_0f7a4 cJ5_newCapacity_0f7a4 6 (some .int), Cond.constant RJ5 39 (2147483647)]
def wsJ4_append_bf812_r2 : List Cond := [Cond.methodLink RJ5 114 yJ8_newLength_cabcc, Cond.static yJ8_newLength_cabcc, Cond.initialized RJ8, Cond.code yJ8_newLength_cabcc cJ8_newLength_cabcc 4 (some .int), Cond.methodLink RJ8 194 Lib.Math.max.name, Cond.static Lib.Math.max.name, Cond.initialized "java/lang/Math", Cond.code Lib.Math.max.name Lib.Math.max.code 2 (some .int), Cond.constant RJ8 200 (2147483639), Cond.methodLink RJ8 201 yJ8_hugeLength_7cf53, Cond.static yJ8_hugeLength_7cf53, Cond.code yJ8_hugeLength_7cf53 cJ8_hugeLength_7cf53 3 (some .int), Cond.methodLink RJ5 108 yJ7_copyOf_9075b, Cond.static yJ7_copyOf_9075b, Cond.initialized RJ7, Cond.code yJ7_copyOf_9075b cJ7_copyOf_9075b 3 (some (.array .byte)), Cond.methodLink RJ7 310 ⟨"[B", "clone", "()Ljava/lang/Object;"⟩, Cond.sameMethod "[B" "java/lang/Object" "clone" "()Ljava/lang/Object;", Cond.native ⟨"java/lang/Object", "clone", "()Ljava/lang/Object;"⟩, Cond.instanceMethod ⟨"java/lang/Object", "clone", "()Ljava/lang/Object;"⟩, Cond.selects "[B" ⟨"[B", "clone", "()Ljava/lang/Object;"⟩ ⟨"java/lang/Object", "clone", "()Ljava/lang/Object;"⟩, Cond.classLink RJ7 311 "[B", Cond.arrayClass .byte, Cond.methodLink RJ7 304 Lib.Math.min.name]
def wsJ4_append_bf812_r3 : List Cond := [Cond.static Lib.Math.min.name, Cond.code Lib.Math.min.name Lib.Math.min.code 2 (some .int), Cond.methodLink RJ7 150 arraycopyName, Cond.native arraycopyName, Cond.static arraycopyName, Cond.initialized "java/lang/System", Cond.methodLink RJ5 83 ⟨"java/lang/AbstractStringBuilder", "isLatin1", "()Z"⟩, Cond.sameMethod "java/lang/AbstractStringBuilder" "java/lang/AbstractStringBuilder" "isLatin1" "()Z", Cond.selects RJ4 ⟨"java/lang/AbstractStringBuilder", "isLatin1", "()Z"⟩ yJ5_isLatin1_aae02, Cond.instanceMethod yJ5_isLatin1_aae02, Cond.code yJ5_isLatin1_aae02 cJ5_isLatin1_aae02 1 (some .boolean), Cond.fieldLink RJ5 18 "java/lang/String" "COMPACT_STRINGS" "Z", Cond.methodLink RJ5 248 yJ6_getChars_ba4f3, Cond.static yJ6_getChars_ba4f3, Cond.code yJ6_getChars_ba4f3 cJ6_getChars_ba4f3 7 (some .int), Cond.fieldLink RJ6 83 "java/lang/Integer" "DigitOnes" "[B", Cond.fieldLink RJ6 87 "java/lang/Integer" "DigitTens" "[B", Cond.methodLink RJ5 251 yJ2_getChars_46870, Cond.static yJ2_getChars_46870, Cond.initialized RJ2, Cond.code yJ2_getChars_46870 cJ2_getChars_46870 5 (some .int), Cond.fieldLink RJ2 44 "java/lang/StringUTF16" "$assertionsDisabled" "Z", Cond.methodLink RJ2 96 yJ2_checkBoundsBeginEnd_d044e, Cond.static yJ2_checkBoundsBeginEnd_d044e]
def wsJ4_append_bf812_r4 : List Cond := [Cond.code yJ2_checkBoundsBeginEnd_d044e cJ2_checkBoundsBeginEnd_d044e 3 none, Cond.methodLink RJ2 48 yJ2_length_9d52b, Cond.static yJ2_length_9d52b, Cond.code yJ2_length_9d52b cJ2_length_9d52b 1 (some .int), Cond.methodLink RJ2 241 yJ0_checkBoundsBeginEnd_23922, Cond.static yJ0_checkBoundsBeginEnd_23922, Cond.initialized RJ0, Cond.code yJ0_checkBoundsBeginEnd_23922 cJ0_checkBoundsBeginEnd_23922 3 none, Cond.fieldLink RJ0 1053 "jdk/internal/util/Preconditions" "SIOOBE_FORMATTER" "Ljava/util/function/BiFunction;", Cond.methodLink RJ0 1062 yJ3_checkFromToIndex_8c36e, Cond.static yJ3_checkFromToIndex_8c36e, Cond.initialized RJ3, Cond.code yJ3_checkFromToIndex_8c36e cJ3_checkFromToIndex_8c36e 4 (some .int), Cond.methodLink RJ2 393 yJ2_getChars_ba4f3, Cond.static yJ2_getChars_ba4f3, Cond.code yJ2_getChars_ba4f3 cJ2_getChars_ba4f3 7 (some .int), Cond.fieldLink RJ2 403 "java/lang/Integer" "DigitOnes" "[B", Cond.fieldLink RJ2 407 "java/lang/Integer" "DigitTens" "[B", Cond.methodLink RJ2 111 yJ2_putChar_b72d1, Cond.static yJ2_putChar_b72d1, Cond.code yJ2_putChar_b72d1 cJ2_putChar_b72d1 3 none, Cond.fieldLink RJ2 59 "java/lang/StringUTF16" "HI_BYTE_SHIFT" "I", Cond.fieldLink RJ2 63 "java/lang/StringUTF16" "LO_BYTE_SHIFT" "I"]
def wsJ4_append_bf812 : List Cond := .code yJ4_append_bf812 cJ4_append_bf812 2 (some (.object "java/lang/StringBuilder")) :: ((wsJ4_append_bf812_r1 ++ (wsJ4_append_bf812_r2 ++ (wsJ4_append_bf812_r3 ++ wsJ4_append_bf812_r4))) ++ wsJ40)
def wsJ1_canEncode_fc78d : List Cond := .code yJ1_canEncode_fc78d cJ1_canEncode_fc78d 1 (some .boolean) :: ([])
def wsJ2_newBytesLength_0f7a4 : List Cond := .code yJ2_newBytesLength_0f7a4 cJ2_newBytesLength_0f7a4 1 (some .int) :: ([.constant RJ2 20 (1073741823)])
def wsJ2_newBytesFor_77867 : List Cond := .code yJ2_newBytesFor_77867 cJ2_newBytesFor_77867 1 (some (.array .byte)) :: ([.arrayClass .byte, .methodLink RJ2 11 yJ2_newBytesLength_0f7a4, .static yJ2_newBytesLength_0f7a4, .initialized RJ2, .code yJ2_newBytesLength_0f7a4 cJ2_newBytesLength_0f7a4 1 (some .int), .constant RJ2 20 (1073741823)])
def wsJ3_checkFromIndexSize_8c36e : List Cond := .code yJ3_checkFromIndexSize_8c36e cJ3_checkFromIndexSize_8c36e 4 (some .int) :: ([])
def wsJ0_checkBoundsOffCount_cabcc : List Cond := .code yJ0_checkBoundsOffCount_cabcc cJ0_checkBoundsOffCount_cabcc 3 (some .int) :: ([.fieldLink RJ0 1053 "jdk/internal/util/Preconditions" "SIOOBE_FORMATTER" "Ljava/util/function/BiFunction;", .methodLink RJ0 1065 yJ3_checkFromIndexSize_8c36e, .static yJ3_checkFromIndexSize_8c36e, .initialized RJ3, .code yJ3_checkFromIndexSize_8c36e cJ3_checkFromIndexSize_8c36e 4 (some .int)])
def wsJ2_checkBoundsOffCount_d044e : List Cond := .code yJ2_checkBoundsOffCount_d044e cJ2_checkBoundsOffCount_d044e 3 none :: ([.methodLink RJ2 48 yJ2_length_9d52b, .static yJ2_length_9d52b, .initialized RJ2, .code yJ2_length_9d52b cJ2_length_9d52b 1 (some .int), .methodLink RJ2 419 yJ0_checkBoundsOffCount_cabcc, .static yJ0_checkBoundsOffCount_cabcc, .initialized RJ0, .code yJ0_checkBoundsOffCount_cabcc cJ0_checkBoundsOffCount_cabcc 3 (some .int), .fieldLink RJ0 1053 "jdk/internal/util/Preconditions" "SIOOBE_FORMATTER" "Ljava/util/function/BiFunction;", .methodLink RJ0 1065 yJ3_checkFromIndexSize_8c36e, .static yJ3_checkFromIndexSize_8c36e, .initialized RJ3, .code yJ3_checkFromIndexSize_8c36e cJ3_checkFromIndexSize_8c36e 4 (some .int)])
def wsJ2_inflate_0e8fd : List Cond := .code yJ2_inflate_0e8fd cJ2_inflate_0e8fd 6 none :: ([.methodLink RJ2 173 yJ2_checkBoundsOffCount_d044e, .static yJ2_checkBoundsOffCount_d044e, .initialized RJ2, .code yJ2_checkBoundsOffCount_d044e cJ2_checkBoundsOffCount_d044e 3 none, .methodLink RJ2 48 yJ2_length_9d52b, .static yJ2_length_9d52b, .code yJ2_length_9d52b cJ2_length_9d52b 1 (some .int), .methodLink RJ2 419 yJ0_checkBoundsOffCount_cabcc, .static yJ0_checkBoundsOffCount_cabcc, .initialized RJ0, .code yJ0_checkBoundsOffCount_cabcc cJ0_checkBoundsOffCount_cabcc 3 (some .int), .fieldLink RJ0 1053 "jdk/internal/util/Preconditions" "SIOOBE_FORMATTER" "Ljava/util/function/BiFunction;", .methodLink RJ0 1065 yJ3_checkFromIndexSize_8c36e, .static yJ3_checkFromIndexSize_8c36e, .initialized RJ3, .code yJ3_checkFromIndexSize_8c36e cJ3_checkFromIndexSize_8c36e 4 (some .int), .methodLink RJ2 111 yJ2_putChar_b72d1, .static yJ2_putChar_b72d1, .code yJ2_putChar_b72d1 cJ2_putChar_b72d1 3 none, .fieldLink RJ2 44 "java/lang/StringUTF16" "$assertionsDisabled" "Z", .fieldLink RJ2 59 "java/lang/StringUTF16" "HI_BYTE_SHIFT" "I", .fieldLink RJ2 63 "java/lang/StringUTF16" "LO_BYTE_SHIFT" "I"])
def wsJ1_inflate_0e8fd_r1 : List Cond := [Cond.methodLink RJ1 240 yJ2_inflate_0e8fd, Cond.static yJ2_inflate_0e8fd, Cond.initialized RJ2, Cond.code yJ2_inflate_0e8fd cJ2_inflate_0e8fd 6 none, Cond.methodLink RJ2 173 yJ2_checkBoundsOffCount_d044e, Cond.static yJ2_checkBoundsOffCount_d044e, Cond.code yJ2_checkBoundsOffCount_d044e cJ2_checkBoundsOffCount_d044e 3 none, Cond.methodLink RJ2 48 yJ2_length_9d52b, Cond.static yJ2_length_9d52b, Cond.code yJ2_length_9d52b cJ2_length_9d52b 1 (some .int), Cond.methodLink RJ2 419 yJ0_checkBoundsOffCount_cabcc, Cond.static yJ0_checkBoundsOffCount_cabcc, Cond.initialized RJ0, Cond.code yJ0_checkBoundsOffCount_cabcc cJ0_checkBoundsOffCount_cabcc 3 (some .int), Cond.fieldLink RJ0 1053 "jdk/internal/util/Preconditions" "SIOOBE_FORMATTER" "Ljava/util/function/BiFunction;", Cond.methodLink RJ0 1065 yJ3_checkFromIndexSize_8c36e, Cond.static yJ3_checkFromIndexSize_8c36e, Cond.initialized RJ3, Cond.code yJ3_checkFromIndexSize_8c36e cJ3_checkFromIndexSize_8c36e 4 (some .int), Cond.methodLink RJ2 111 yJ2_putChar_b72d1, Cond.static yJ2_putChar_b72d1, Cond.code yJ2_putChar_b72d1 cJ2_putChar_b72d1 3 none, Cond.fieldLink RJ2 44 "java/lang/StringUTF16" "$assertionsDisabled" "Z", Cond.fieldLink RJ2 59 "java/lang/StringUTF16" "HI_BYTE_SHIFT" "I"]
def wsJ1_inflate_0e8fd_r2 : List Cond := [Cond.fieldLink RJ2 63 "java/lang/StringUTF16" "LO_BYTE_SHIFT" "I"]
def wsJ1_inflate_0e8fd : List Cond := .code yJ1_inflate_0e8fd cJ1_inflate_0e8fd 5 none :: ((wsJ1_inflate_0e8fd_r1 ++ wsJ1_inflate_0e8fd_r2))
def wsJ5_inflate_da8c8_r1 : List Cond := [Cond.fieldLink RJ5 15 "java/lang/AbstractStringBuilder" "value" "[B", Cond.fieldLink RJ5 79 "java/lang/AbstractStringBuilder" "count" "I", Cond.fieldLink RJ5 22 "java/lang/AbstractStringBuilder" "coder" "B", Cond.methodLink RJ5 83 ⟨"java/lang/AbstractStringBuilder", "isLatin1", "()Z"⟩, Cond.sameMethod "java/lang/AbstractStringBuilder" "java/lang/AbstractStringBuilder" "isLatin1" "()Z", Cond.selects RJ4 ⟨"java/lang/AbstractStringBuilder", "isLatin1", "()Z"⟩ yJ5_isLatin1_aae02, Cond.instanceMethod yJ5_isLatin1_aae02, Cond.initialized RJ5, Cond.code yJ5_isLatin1_aae02 cJ5_isLatin1_aae02 1 (some .boolean), Cond.fieldLink RJ5 18 "java/lang/String" "COMPACT_STRINGS" "Z", Cond.methodLink RJ5 26 yJ2_newBytesFor_77867, Cond.static yJ2_newBytesFor_77867, Cond.initialized RJ2, Cond.code yJ2_newBytesFor_77867 cJ2_newBytesFor_77867 1 (some (.array .byte)), Cond.arrayClass .byte, Cond.methodLink RJ2 11 yJ2_newBytesLength_0f7a4, Cond.static yJ2_newBytesLength_0f7a4, Cond.code yJ2_newBytesLength_0f7a4 cJ2_newBytesLength_0f7a4 1 (some .int), Cond.constant RJ2 20 (1073741823), Cond.methodLink RJ5 125 yJ1_inflate_0e8fd, Cond.static yJ1_inflate_0e8fd, Cond.initialized RJ1, Cond.code yJ1_inflate_0e8fd cJ1_inflate_0e8fd 5 none, Cond.methodLink RJ1 240 yJ2_inflate_0e8fd]
def wsJ5_inflate_da8c8_r2 : List Cond := [Cond.static yJ2_inflate_0e8fd, Cond.code yJ2_inflate_0e8fd cJ2_inflate_0e8fd 6 none, Cond.methodLink RJ2 173 yJ2_checkBoundsOffCount_d044e, Cond.static yJ2_checkBoundsOffCount_d044e, Cond.code yJ2_checkBoundsOffCount_d044e cJ2_checkBoundsOffCount_d044e 3 none, Cond.methodLink RJ2 48 yJ2_length_9d52b, Cond.static yJ2_length_9d52b, Cond.code yJ2_length_9d52b cJ2_length_9d52b 1 (some .int), Cond.methodLink RJ2 419 yJ0_checkBoundsOffCount_cabcc, Cond.static yJ0_checkBoundsOffCount_cabcc, Cond.initialized RJ0, Cond.code yJ0_checkBoundsOffCount_cabcc cJ0_checkBoundsOffCount_cabcc 3 (some .int), Cond.fieldLink RJ0 1053 "jdk/internal/util/Preconditions" "SIOOBE_FORMATTER" "Ljava/util/function/BiFunction;", Cond.methodLink RJ0 1065 yJ3_checkFromIndexSize_8c36e, Cond.static yJ3_checkFromIndexSize_8c36e, Cond.initialized RJ3, Cond.code yJ3_checkFromIndexSize_8c36e cJ3_checkFromIndexSize_8c36e 4 (some .int), Cond.methodLink RJ2 111 yJ2_putChar_b72d1, Cond.static yJ2_putChar_b72d1, Cond.code yJ2_putChar_b72d1 cJ2_putChar_b72d1 3 none, Cond.fieldLink RJ2 44 "java/lang/StringUTF16" "$assertionsDisabled" "Z", Cond.fieldLink RJ2 59 "java/lang/StringUTF16" "HI_BYTE_SHIFT" "I", Cond.fieldLink RJ2 63 "java/lang/StringUTF16" "LO_BYTE_SHIFT" "I"]
def wsJ5_inflate_da8c8 : List Cond := .code yJ5_inflate_da8c8 cJ5_inflate_da8c8 2 none :: ((wsJ5_inflate_da8c8_r1 ++ wsJ5_inflate_da8c8_r2) ++ wsJ40)
def wsJ3_checkIndex_8e157 : List Cond := .code yJ3_checkIndex_8e157 cJ3_checkIndex_8e157 3 (some .int) :: ([])
def wsJ0_checkIndex_df160 : List Cond := .code yJ0_checkIndex_df160 cJ0_checkIndex_df160 2 none :: ([.fieldLink RJ0 1053 "jdk/internal/util/Preconditions" "SIOOBE_FORMATTER" "Ljava/util/function/BiFunction;", .methodLink RJ0 1059 yJ3_checkIndex_8e157, .static yJ3_checkIndex_8e157, .initialized RJ3, .code yJ3_checkIndex_8e157 cJ3_checkIndex_8e157 3 (some .int)])
def wsJ2_checkIndex_2214a : List Cond := .code yJ2_checkIndex_2214a cJ2_checkIndex_2214a 2 none :: ([.methodLink RJ2 48 yJ2_length_9d52b, .static yJ2_length_9d52b, .initialized RJ2, .code yJ2_length_9d52b cJ2_length_9d52b 1 (some .int), .methodLink RJ2 414 yJ0_checkIndex_df160, .static yJ0_checkIndex_df160, .initialized RJ0, .code yJ0_checkIndex_df160 cJ0_checkIndex_df160 2 none, .fieldLink RJ0 1053 "jdk/internal/util/Preconditions" "SIOOBE_FORMATTER" "Ljava/util/function/BiFunction;", .methodLink RJ0 1059 yJ3_checkIndex_8e157, .static yJ3_checkIndex_8e157, .initialized RJ3, .code yJ3_checkIndex_8e157 cJ3_checkIndex_8e157 3 (some .int)])
def wsJ2_putCharSB_b72d1 : List Cond := .code yJ2_putCharSB_b72d1 cJ2_putCharSB_b72d1 3 none :: ([.methodLink RJ2 67 yJ2_checkIndex_2214a, .static yJ2_checkIndex_2214a, .initialized RJ2, .code yJ2_checkIndex_2214a cJ2_checkIndex_2214a 2 none, .methodLink RJ2 48 yJ2_length_9d52b, .static yJ2_length_9d52b, .code yJ2_length_9d52b cJ2_length_9d52b 1 (some .int), .methodLink RJ2 414 yJ0_checkIndex_df160, .static yJ0_checkIndex_df160, .initialized RJ0, .code yJ0_checkIndex_df160 cJ0_checkIndex_df160 2 none, .fieldLink RJ0 1053 "jdk/internal/util/Preconditions" "SIOOBE_FORMATTER" "Ljava/util/function/BiFunction;", .methodLink RJ0 1059 yJ3_checkIndex_8e157, .static yJ3_checkIndex_8e157, .initialized RJ3, .code yJ3_checkIndex_8e157 cJ3_checkIndex_8e157 3 (some .int), .methodLink RJ2 111 yJ2_putChar_b72d1, .static yJ2_putChar_b72d1, .code yJ2_putChar_b72d1 cJ2_putChar_b72d1 3 none, .fieldLink RJ2 44 "java/lang/StringUTF16" "$assertionsDisabled" "Z", .fieldLink RJ2 59 "java/lang/StringUTF16" "HI_BYTE_SHIFT" "I", .fieldLink RJ2 63 "java/lang/StringUTF16" "LO_BYTE_SHIFT" "I"])
def wsJ5_append_3fe6f_r1 : List Cond := [Cond.fieldLink RJ5 79 "java/lang/AbstractStringBuilder" "count" "I", Cond.fieldLink RJ5 15 "java/lang/AbstractStringBuilder" "value" "[B", Cond.methodLink RJ5 100 ⟨"java/lang/AbstractStringBuilder", "ensureCapacityInternal", "(I)V"⟩, Cond.sameMethod "java/lang/AbstractStringBuilder" "java/lang/AbstractStringBuilder" "ensureCapacityInternal" "(I)V", Cond.selects RJ4 ⟨"java/lang/AbstractStringBuilder", "ensureCapacityInternal", "(I)V"⟩ yJ5_ensureCapacityInternal_d00df, Cond.instanceMethod yJ5_ensureCapacityInternal_d00df, Cond.initialized RJ5, Cond.code yJ5_ensureCapacityInternal_d00df cJ5_ensureCapacityInternal_d00df 3 none, Cond.fieldLink RJ5 22 "java/lang/AbstractStringBuilder" "coder" "B", Cond.methodLink RJ5 104 ⟨"java/lang/AbstractStringBuilder", "newCapacity", "(I)I"⟩, Cond.sameMethod "java/lang/AbstractStringBuilder" "java/lang/AbstractStringBuilder" "newCapacity" "(I)I", Cond.selects RJ4 ⟨"java/lang/AbstractStringBuilder", "newCapacity", "(I)I"⟩ yJ5_newCapacity_0f7a4, Cond.instanceMethod yJ5_newCapacity_0f7a4, Cond.code yJ5_newCapacity_0f7a4 cJ5_newCapacity_0f7a4 6 (some .int), Cond.constant RJ5 39 (2147483647), Cond.methodLink RJ5 114 yJ8_newLength_cabcc, Cond.static yJ8_newLength_cabcc, Cond.initialized RJ8, Cond.code yJ8_newLength_cabcc cJ8_newLength_cabcc 4 (some .int), Cond.methodLink RJ8 194 Lib.Math.max.name, Cond.static Lib.Math.max.name, Cond.initialized "java/lang/Math", Cond.code Lib.Math.max.name Lib.Math.max.code 2 (some .int), Cond.constant RJ8 200 (2147483639)]
def wsJ5_append_3fe6f_r2 : List Cond := [Cond.methodLink RJ8 201 yJ8_hugeLength_7cf53, Cond.static yJ8_hugeLength_7cf53, Cond.code yJ8_hugeLength_7cf53 cJ8_hugeLength_7cf53 3 (some .int), Cond.methodLink RJ5 108 yJ7_copyOf_9075b, Cond.static yJ7_copyOf_9075b, Cond.initialized RJ7, Cond.code yJ7_copyOf_9075b cJ7_copyOf_9075b 3 (some (.array .byte)), Cond.methodLink RJ7 310 ⟨"[B", "clone", "()Ljava/lang/Object;"⟩, Cond.sameMethod "[B" "java/lang/Object" "clone" "()Ljava/lang/Object;", Cond.native ⟨"java/lang/Object", "clone", "()Ljava/lang/Object;"⟩, Cond.instanceMethod ⟨"java/lang/Object", "clone", "()Ljava/lang/Object;"⟩, Cond.selects "[B" ⟨"[B", "clone", "()Ljava/lang/Object;"⟩ ⟨"java/lang/Object", "clone", "()Ljava/lang/Object;"⟩, Cond.classLink RJ7 311 "[B", Cond.arrayClass .byte, Cond.methodLink RJ7 304 Lib.Math.min.name, Cond.static Lib.Math.min.name, Cond.code Lib.Math.min.name Lib.Math.min.code 2 (some .int), Cond.methodLink RJ7 150 arraycopyName, Cond.native arraycopyName, Cond.static arraycopyName, Cond.initialized "java/lang/System", Cond.methodLink RJ5 83 ⟨"java/lang/AbstractStringBuilder", "isLatin1", "()Z"⟩, Cond.sameMethod "java/lang/AbstractStringBuilder" "java/lang/AbstractStringBuilder" "isLatin1" "()Z", Cond.selects RJ4 ⟨"java/lang/AbstractStringBuilder", "isLatin1", "()Z"⟩ yJ5_isLatin1_aae02]
def wsJ5_append_3fe6f_r3 : List Cond := [Cond.instanceMethod yJ5_isLatin1_aae02, Cond.code yJ5_isLatin1_aae02 cJ5_isLatin1_aae02 1 (some .boolean), Cond.fieldLink RJ5 18 "java/lang/String" "COMPACT_STRINGS" "Z", Cond.methodLink RJ5 191 yJ1_canEncode_fc78d, Cond.static yJ1_canEncode_fc78d, Cond.initialized RJ1, Cond.code yJ1_canEncode_fc78d cJ1_canEncode_fc78d 1 (some .boolean), Cond.methodLink RJ5 195 ⟨"java/lang/AbstractStringBuilder", "inflate", "()V"⟩, Cond.sameMethod "java/lang/AbstractStringBuilder" "java/lang/AbstractStringBuilder" "inflate" "()V", Cond.selects RJ4 ⟨"java/lang/AbstractStringBuilder", "inflate", "()V"⟩ yJ5_inflate_da8c8, Cond.instanceMethod yJ5_inflate_da8c8, Cond.code yJ5_inflate_da8c8 cJ5_inflate_da8c8 2 none, Cond.methodLink RJ5 26 yJ2_newBytesFor_77867, Cond.static yJ2_newBytesFor_77867, Cond.initialized RJ2, Cond.code yJ2_newBytesFor_77867 cJ2_newBytesFor_77867 1 (some (.array .byte)), Cond.methodLink RJ2 11 yJ2_newBytesLength_0f7a4, Cond.static yJ2_newBytesLength_0f7a4, Cond.code yJ2_newBytesLength_0f7a4 cJ2_newBytesLength_0f7a4 1 (some .int), Cond.constant RJ2 20 (1073741823), Cond.methodLink RJ5 125 yJ1_inflate_0e8fd, Cond.static yJ1_inflate_0e8fd, Cond.code yJ1_inflate_0e8fd cJ1_inflate_0e8fd 5 none, Cond.methodLink RJ1 240 yJ2_inflate_0e8fd]
def wsJ5_append_3fe6f_r4 : List Cond := [Cond.static yJ2_inflate_0e8fd, Cond.code yJ2_inflate_0e8fd cJ2_inflate_0e8fd 6 none, Cond.methodLink RJ2 173 yJ2_checkBoundsOffCount_d044e, Cond.static yJ2_checkBoundsOffCount_d044e, Cond.code yJ2_checkBoundsOffCount_d044e cJ2_checkBoundsOffCount_d044e 3 none, Cond.methodLink RJ2 48 yJ2_length_9d52b, Cond.static yJ2_length_9d52b, Cond.code yJ2_length_9d52b cJ2_length_9d52b 1 (some .int), Cond.methodLink RJ2 419 yJ0_checkBoundsOffCount_cabcc, Cond.static yJ0_checkBoundsOffCount_cabcc, Cond.initialized RJ0, Cond.code yJ0_checkBoundsOffCount_cabcc cJ0_checkBoundsOffCount_cabcc 3 (some .int), Cond.fieldLink RJ0 1053 "jdk/internal/util/Preconditions" "SIOOBE_FORMATTER" "Ljava/util/function/BiFunction;", Cond.methodLink RJ0 1065 yJ3_checkFromIndexSize_8c36e, Cond.static yJ3_checkFromIndexSize_8c36e, Cond.initialized RJ3, Cond.code yJ3_checkFromIndexSize_8c36e cJ3_checkFromIndexSize_8c36e 4 (some .int), Cond.methodLink RJ2 111 yJ2_putChar_b72d1, Cond.static yJ2_putChar_b72d1, Cond.code yJ2_putChar_b72d1 cJ2_putChar_b72d1 3 none, Cond.fieldLink RJ2 44 "java/lang/StringUTF16" "$assertionsDisabled" "Z", Cond.fieldLink RJ2 59 "java/lang/StringUTF16" "HI_BYTE_SHIFT" "I", Cond.fieldLink RJ2 63 "java/lang/StringUTF16" "LO_BYTE_SHIFT" "I", Cond.methodLink RJ5 197 yJ2_putCharSB_b72d1]
def wsJ5_append_3fe6f_r5 : List Cond := [Cond.static yJ2_putCharSB_b72d1, Cond.code yJ2_putCharSB_b72d1 cJ2_putCharSB_b72d1 3 none, Cond.methodLink RJ2 67 yJ2_checkIndex_2214a, Cond.static yJ2_checkIndex_2214a, Cond.code yJ2_checkIndex_2214a cJ2_checkIndex_2214a 2 none, Cond.methodLink RJ2 414 yJ0_checkIndex_df160, Cond.static yJ0_checkIndex_df160, Cond.code yJ0_checkIndex_df160 cJ0_checkIndex_df160 2 none, Cond.methodLink RJ0 1059 yJ3_checkIndex_8e157, Cond.static yJ3_checkIndex_8e157, Cond.code yJ3_checkIndex_8e157 cJ3_checkIndex_8e157 3 (some .int)]
def wsJ5_append_3fe6f : List Cond := .code yJ5_append_3fe6f cJ5_append_3fe6f 2 (some (.object "java/lang/AbstractStringBuilder")) :: ((wsJ5_append_3fe6f_r1 ++ (wsJ5_append_3fe6f_r2 ++ (wsJ5_append_3fe6f_r3 ++ (wsJ5_append_3fe6f_r4 ++ wsJ5_append_3fe6f_r5)))) ++ wsJ40)
def wsJ4_append_cf468_r1 : List Cond := [Cond.methodLink RJ4 50 yJ5_append_3fe6f, Cond.sameMethod "java/lang/AbstractStringBuilder" "java/lang/AbstractStringBuilder" "append" "(C)Ljava/lang/AbstractStringBuilder;", Cond.superclass RJ4 RJ5, Cond.instanceMethod yJ5_append_3fe6f, Cond.initialized RJ5, Cond.code yJ5_append_3fe6f cJ5_append_3fe6f 2 (some (.object "java/lang/AbstractStringBuilder")), Cond.fieldLink RJ5 79 "java/lang/AbstractStringBuilder" "count" "I", Cond.fieldLink RJ5 15 "java/lang/AbstractStringBuilder" "value" "[B", Cond.methodLink RJ5 100 ⟨"java/lang/AbstractStringBuilder", "ensureCapacityInternal", "(I)V"⟩, Cond.sameMethod "java/lang/AbstractStringBuilder" "java/lang/AbstractStringBuilder" "ensureCapacityInternal" "(I)V", Cond.selects RJ4 ⟨"java/lang/AbstractStringBuilder", "ensureCapacityInternal", "(I)V"⟩ yJ5_ensureCapacityInternal_d00df, Cond.instanceMethod yJ5_ensureCapacityInternal_d00df, Cond.code yJ5_ensureCapacityInternal_d00df cJ5_ensureCapacityInternal_d00df 3 none, Cond.fieldLink RJ5 22 "java/lang/AbstractStringBuilder" "coder" "B", Cond.methodLink RJ5 104 ⟨"java/lang/AbstractStringBuilder", "newCapacity", "(I)I"⟩, Cond.sameMethod "java/lang/AbstractStringBuilder" "java/lang/AbstractStringBuilder" "newCapacity" "(I)I", Cond.selects RJ4 ⟨"java/lang/AbstractStringBuilder", "newCapacity", "(I)I"⟩ yJ5_newCapacity_0f7a4, Cond.instanceMethod yJ5_newCapacity_0f7a4, Cond.code yJ5_newCapacity_0f7a4 cJ5_newCapacity_0f7a4 6 (some .int), Cond.constant RJ5 39 (2147483647), Cond.methodLink RJ5 114 yJ8_newLength_cabcc, Cond.static yJ8_newLength_cabcc, Cond.initialized RJ8, Cond.code yJ8_newLength_cabcc cJ8_newLength_cabcc 4 (some .int)]
def wsJ4_append_cf468_r2 : List Cond := [Cond.methodLink RJ8 194 Lib.Math.max.name, Cond.static Lib.Math.max.name, Cond.initialized "java/lang/Math", Cond.code Lib.Math.max.name Lib.Math.max.code 2 (some .int), Cond.constant RJ8 200 (2147483639), Cond.methodLink RJ8 201 yJ8_hugeLength_7cf53, Cond.static yJ8_hugeLength_7cf53, Cond.code yJ8_hugeLength_7cf53 cJ8_hugeLength_7cf53 3 (some .int), Cond.methodLink RJ5 108 yJ7_copyOf_9075b, Cond.static yJ7_copyOf_9075b, Cond.initialized RJ7, Cond.code yJ7_copyOf_9075b cJ7_copyOf_9075b 3 (some (.array .byte)), Cond.methodLink RJ7 310 ⟨"[B", "clone", "()Ljava/lang/Object;"⟩, Cond.sameMethod "[B" "java/lang/Object" "clone" "()Ljava/lang/Object;", Cond.native ⟨"java/lang/Object", "clone", "()Ljava/lang/Object;"⟩, Cond.instanceMethod ⟨"java/lang/Object", "clone", "()Ljava/lang/Object;"⟩, Cond.selects "[B" ⟨"[B", "clone", "()Ljava/lang/Object;"⟩ ⟨"java/lang/Object", "clone", "()Ljava/lang/Object;"⟩, Cond.classLink RJ7 311 "[B", Cond.arrayClass .byte, Cond.methodLink RJ7 304 Lib.Math.min.name, Cond.static Lib.Math.min.name, Cond.code Lib.Math.min.name Lib.Math.min.code 2 (some .int), Cond.methodLink RJ7 150 arraycopyName, Cond.native arraycopyName]
def wsJ4_append_cf468_r3 : List Cond := [Cond.static arraycopyName, Cond.initialized "java/lang/System", Cond.methodLink RJ5 83 ⟨"java/lang/AbstractStringBuilder", "isLatin1", "()Z"⟩, Cond.sameMethod "java/lang/AbstractStringBuilder" "java/lang/AbstractStringBuilder" "isLatin1" "()Z", Cond.selects RJ4 ⟨"java/lang/AbstractStringBuilder", "isLatin1", "()Z"⟩ yJ5_isLatin1_aae02, Cond.instanceMethod yJ5_isLatin1_aae02, Cond.code yJ5_isLatin1_aae02 cJ5_isLatin1_aae02 1 (some .boolean), Cond.fieldLink RJ5 18 "java/lang/String" "COMPACT_STRINGS" "Z", Cond.methodLink RJ5 191 yJ1_canEncode_fc78d, Cond.static yJ1_canEncode_fc78d, Cond.initialized RJ1, Cond.code yJ1_canEncode_fc78d cJ1_canEncode_fc78d 1 (some .boolean), Cond.methodLink RJ5 195 ⟨"java/lang/AbstractStringBuilder", "inflate", "()V"⟩, Cond.sameMethod "java/lang/AbstractStringBuilder" "java/lang/AbstractStringBuilder" "inflate" "()V", Cond.selects RJ4 ⟨"java/lang/AbstractStringBuilder", "inflate", "()V"⟩ yJ5_inflate_da8c8, Cond.instanceMethod yJ5_inflate_da8c8, Cond.code yJ5_inflate_da8c8 cJ5_inflate_da8c8 2 none, Cond.methodLink RJ5 26 yJ2_newBytesFor_77867, Cond.static yJ2_newBytesFor_77867, Cond.initialized RJ2, Cond.code yJ2_newBytesFor_77867 cJ2_newBytesFor_77867 1 (some (.array .byte)), Cond.methodLink RJ2 11 yJ2_newBytesLength_0f7a4, Cond.static yJ2_newBytesLength_0f7a4, Cond.code yJ2_newBytesLength_0f7a4 cJ2_newBytesLength_0f7a4 1 (some .int)]
def wsJ4_append_cf468_r4 : List Cond := [Cond.constant RJ2 20 (1073741823), Cond.methodLink RJ5 125 yJ1_inflate_0e8fd, Cond.static yJ1_inflate_0e8fd, Cond.code yJ1_inflate_0e8fd cJ1_inflate_0e8fd 5 none, Cond.methodLink RJ1 240 yJ2_inflate_0e8fd, Cond.static yJ2_inflate_0e8fd, Cond.code yJ2_inflate_0e8fd cJ2_inflate_0e8fd 6 none, Cond.methodLink RJ2 173 yJ2_checkBoundsOffCount_d044e, Cond.static yJ2_checkBoundsOffCount_d044e, Cond.code yJ2_checkBoundsOffCount_d044e cJ2_checkBoundsOffCount_d044e 3 none, Cond.methodLink RJ2 48 yJ2_length_9d52b, Cond.static yJ2_length_9d52b, Cond.code yJ2_length_9d52b cJ2_length_9d52b 1 (some .int), Cond.methodLink RJ2 419 yJ0_checkBoundsOffCount_cabcc, Cond.static yJ0_checkBoundsOffCount_cabcc, Cond.initialized RJ0, Cond.code yJ0_checkBoundsOffCount_cabcc cJ0_checkBoundsOffCount_cabcc 3 (some .int), Cond.fieldLink RJ0 1053 "jdk/internal/util/Preconditions" "SIOOBE_FORMATTER" "Ljava/util/function/BiFunction;", Cond.methodLink RJ0 1065 yJ3_checkFromIndexSize_8c36e, Cond.static yJ3_checkFromIndexSize_8c36e, Cond.initialized RJ3, Cond.code yJ3_checkFromIndexSize_8c36e cJ3_checkFromIndexSize_8c36e 4 (some .int), Cond.methodLink RJ2 111 yJ2_putChar_b72d1, Cond.static yJ2_putChar_b72d1]
def wsJ4_append_cf468_r5 : List Cond := [Cond.code yJ2_putChar_b72d1 cJ2_putChar_b72d1 3 none, Cond.fieldLink RJ2 44 "java/lang/StringUTF16" "$assertionsDisabled" "Z", Cond.fieldLink RJ2 59 "java/lang/StringUTF16" "HI_BYTE_SHIFT" "I", Cond.fieldLink RJ2 63 "java/lang/StringUTF16" "LO_BYTE_SHIFT" "I", Cond.methodLink RJ5 197 yJ2_putCharSB_b72d1, Cond.static yJ2_putCharSB_b72d1, Cond.code yJ2_putCharSB_b72d1 cJ2_putCharSB_b72d1 3 none, Cond.methodLink RJ2 67 yJ2_checkIndex_2214a, Cond.static yJ2_checkIndex_2214a, Cond.code yJ2_checkIndex_2214a cJ2_checkIndex_2214a 2 none, Cond.methodLink RJ2 414 yJ0_checkIndex_df160, Cond.static yJ0_checkIndex_df160, Cond.code yJ0_checkIndex_df160 cJ0_checkIndex_df160 2 none, Cond.methodLink RJ0 1059 yJ3_checkIndex_8e157, Cond.static yJ3_checkIndex_8e157, Cond.code yJ3_checkIndex_8e157 cJ3_checkIndex_8e157 3 (some .int)]
def wsJ4_append_cf468 : List Cond := .code yJ4_append_cf468 cJ4_append_cf468 2 (some (.object "java/lang/StringBuilder")) :: ((wsJ4_append_cf468_r1 ++ (wsJ4_append_cf468_r2 ++ (wsJ4_append_cf468_r3 ++ (wsJ4_append_cf468_r4 ++ wsJ4_append_cf468_r5)))) ++ wsJ40)
def wsX1_printRow_r1 : List Cond := [Cond.methodLink RX1 65 yX1_isLeaf, Cond.static yX1_isLeaf, Cond.initialized RX1, Cond.code yX1_isLeaf cX1_isLeaf 4 (some .boolean), Cond.methodLink RX1 69 yJ4_append_bf812, Cond.instanceMethod yJ4_append_bf812, Cond.selects RJ4 yJ4_append_bf812 yJ4_append_bf812, Cond.initialized RJ4, Cond.code yJ4_append_bf812 cJ4_append_bf812 2 (some (.object "java/lang/StringBuilder")), Cond.methodLink RJ4 53 yJ5_append_c97b9, Cond.sameMethod "java/lang/AbstractStringBuilder" "java/lang/AbstractStringBuilder" "append" "(I)Ljava/lang/AbstractStringBuilder;", Cond.superclass RJ4 RJ5, Cond.instanceMethod yJ5_append_c97b9, Cond.initialized RJ5, Cond.code yJ5_append_c97b9 cJ5_append_c97b9 4 (some (.object "java/lang/AbstractStringBuilder")), Cond.fieldLink RJ5 79 "java/lang/AbstractStringBuilder" "count" "I", Cond.fieldLink RJ5 15 "java/lang/AbstractStringBuilder" "value" "[B", Cond.methodLink RJ5 245 yJ6_stringSize_0f7a4, Cond.static yJ6_stringSize_0f7a4, Cond.initialized RJ6, Cond.code yJ6_stringSize_0f7a4 cJ6_stringSize_0f7a4 4 (some .int), Cond.methodLink RJ5 100 ⟨"java/lang/AbstractStringBuilder", "ensureCapacityInternal", "(I)V"⟩, Cond.sameMethod "java/lang/AbstractStringBuilder" "java/lang/AbstractStringBuilder" "ensureCapacityInternal" "(I)V", Cond.selects RJ4 ⟨"java/lang/AbstractStringBuilder", "ensureCapacityInternal", "(I)V"⟩ yJ5_ensureCapacityInternal_d00df]
def wsX1_printRow_r2 : List Cond := [Cond.instanceMethod yJ5_ensureCapacityInternal_d00df, Cond.code yJ5_ensureCapacityInternal_d00df cJ5_ensureCapacityInternal_d00df 3 none, Cond.fieldLink RJ5 22 "java/lang/AbstractStringBuilder" "coder" "B", Cond.methodLink RJ5 104 ⟨"java/lang/AbstractStringBuilder", "newCapacity", "(I)I"⟩, Cond.sameMethod "java/lang/AbstractStringBuilder" "java/lang/AbstractStringBuilder" "newCapacity" "(I)I", Cond.selects RJ4 ⟨"java/lang/AbstractStringBuilder", "newCapacity", "(I)I"⟩ yJ5_newCapacity_0f7a4, Cond.instanceMethod yJ5_newCapacity_0f7a4, Cond.code yJ5_newCapacity_0f7a4 cJ5_newCapacity_0f7a4 6 (some .int), Cond.constant RJ5 39 (2147483647), Cond.methodLink RJ5 114 yJ8_newLength_cabcc, Cond.static yJ8_newLength_cabcc, Cond.initialized RJ8, Cond.code yJ8_newLength_cabcc cJ8_newLength_cabcc 4 (some .int), Cond.methodLink RJ8 194 Lib.Math.max.name, Cond.static Lib.Math.max.name, Cond.initialized "java/lang/Math", Cond.code Lib.Math.max.name Lib.Math.max.code 2 (some .int), Cond.constant RJ8 200 (2147483639), Cond.methodLink RJ8 201 yJ8_hugeLength_7cf53, Cond.static yJ8_hugeLength_7cf53, Cond.code yJ8_hugeLength_7cf53 cJ8_hugeLength_7cf53 3 (some .int), Cond.methodLink RJ5 108 yJ7_copyOf_9075b, Cond.static yJ7_copyOf_9075b, Cond.initialized RJ7]
def wsX1_printRow_r3 : List Cond := [Cond.code yJ7_copyOf_9075b cJ7_copyOf_9075b 3 (some (.array .byte)), Cond.methodLink RJ7 310 ⟨"[B", "clone", "()Ljava/lang/Object;"⟩, Cond.sameMethod "[B" "java/lang/Object" "clone" "()Ljava/lang/Object;", Cond.native ⟨"java/lang/Object", "clone", "()Ljava/lang/Object;"⟩, Cond.instanceMethod ⟨"java/lang/Object", "clone", "()Ljava/lang/Object;"⟩, Cond.selects "[B" ⟨"[B", "clone", "()Ljava/lang/Object;"⟩ ⟨"java/lang/Object", "clone", "()Ljava/lang/Object;"⟩, Cond.classLink RJ7 311 "[B", Cond.arrayClass .byte, Cond.methodLink RJ7 304 Lib.Math.min.name, Cond.static Lib.Math.min.name, Cond.code Lib.Math.min.name Lib.Math.min.code 2 (some .int), Cond.methodLink RJ7 150 arraycopyName, Cond.native arraycopyName, Cond.static arraycopyName, Cond.initialized "java/lang/System", Cond.methodLink RJ5 83 ⟨"java/lang/AbstractStringBuilder", "isLatin1", "()Z"⟩, Cond.sameMethod "java/lang/AbstractStringBuilder" "java/lang/AbstractStringBuilder" "isLatin1" "()Z", Cond.selects RJ4 ⟨"java/lang/AbstractStringBuilder", "isLatin1", "()Z"⟩ yJ5_isLatin1_aae02, Cond.instanceMethod yJ5_isLatin1_aae02, Cond.code yJ5_isLatin1_aae02 cJ5_isLatin1_aae02 1 (some .boolean), Cond.fieldLink RJ5 18 "java/lang/String" "COMPACT_STRINGS" "Z", Cond.methodLink RJ5 248 yJ6_getChars_ba4f3, Cond.static yJ6_getChars_ba4f3, Cond.code yJ6_getChars_ba4f3 cJ6_getChars_ba4f3 7 (some .int)]
def wsX1_printRow_r4 : List Cond := [Cond.fieldLink RJ6 83 "java/lang/Integer" "DigitOnes" "[B", Cond.fieldLink RJ6 87 "java/lang/Integer" "DigitTens" "[B", Cond.methodLink RJ5 251 yJ2_getChars_46870, Cond.static yJ2_getChars_46870, Cond.initialized RJ2, Cond.code yJ2_getChars_46870 cJ2_getChars_46870 5 (some .int), Cond.fieldLink RJ2 44 "java/lang/StringUTF16" "$assertionsDisabled" "Z", Cond.methodLink RJ2 96 yJ2_checkBoundsBeginEnd_d044e, Cond.static yJ2_checkBoundsBeginEnd_d044e, Cond.code yJ2_checkBoundsBeginEnd_d044e cJ2_checkBoundsBeginEnd_d044e 3 none, Cond.methodLink RJ2 48 yJ2_length_9d52b, Cond.static yJ2_length_9d52b, Cond.code yJ2_length_9d52b cJ2_length_9d52b 1 (some .int), Cond.methodLink RJ2 241 yJ0_checkBoundsBeginEnd_23922, Cond.static yJ0_checkBoundsBeginEnd_23922, Cond.initialized RJ0, Cond.code yJ0_checkBoundsBeginEnd_23922 cJ0_checkBoundsBeginEnd_23922 3 none, Cond.fieldLink RJ0 1053 "jdk/internal/util/Preconditions" "SIOOBE_FORMATTER" "Ljava/util/function/BiFunction;", Cond.methodLink RJ0 1062 yJ3_checkFromToIndex_8c36e, Cond.static yJ3_checkFromToIndex_8c36e, Cond.initialized RJ3, Cond.code yJ3_checkFromToIndex_8c36e cJ3_checkFromToIndex_8c36e 4 (some .int), Cond.methodLink RJ2 393 yJ2_getChars_ba4f3, Cond.static yJ2_getChars_ba4f3]
def wsX1_printRow_r5 : List Cond := [Cond.code yJ2_getChars_ba4f3 cJ2_getChars_ba4f3 7 (some .int), Cond.fieldLink RJ2 403 "java/lang/Integer" "DigitOnes" "[B", Cond.fieldLink RJ2 407 "java/lang/Integer" "DigitTens" "[B", Cond.methodLink RJ2 111 yJ2_putChar_b72d1, Cond.static yJ2_putChar_b72d1, Cond.code yJ2_putChar_b72d1 cJ2_putChar_b72d1 3 none, Cond.fieldLink RJ2 59 "java/lang/StringUTF16" "HI_BYTE_SHIFT" "I", Cond.fieldLink RJ2 63 "java/lang/StringUTF16" "LO_BYTE_SHIFT" "I", Cond.methodLink RX1 75 yJ4_append_cf468, Cond.instanceMethod yJ4_append_cf468, Cond.selects RJ4 yJ4_append_cf468 yJ4_append_cf468, Cond.code yJ4_append_cf468 cJ4_append_cf468 2 (some (.object "java/lang/StringBuilder")), Cond.methodLink RJ4 50 yJ5_append_3fe6f, Cond.sameMethod "java/lang/AbstractStringBuilder" "java/lang/AbstractStringBuilder" "append" "(C)Ljava/lang/AbstractStringBuilder;", Cond.instanceMethod yJ5_append_3fe6f, Cond.code yJ5_append_3fe6f cJ5_append_3fe6f 2 (some (.object "java/lang/AbstractStringBuilder")), Cond.methodLink RJ5 191 yJ1_canEncode_fc78d, Cond.static yJ1_canEncode_fc78d, Cond.initialized RJ1, Cond.code yJ1_canEncode_fc78d cJ1_canEncode_fc78d 1 (some .boolean), Cond.methodLink RJ5 195 ⟨"java/lang/AbstractStringBuilder", "inflate", "()V"⟩, Cond.sameMethod "java/lang/AbstractStringBuilder" "java/lang/AbstractStringBuilder" "inflate" "()V", Cond.selects RJ4 ⟨"java/lang/AbstractStringBuilder", "inflate", "()V"⟩ yJ5_inflate_da8c8, Cond.instanceMethod yJ5_inflate_da8c8]
def wsX1_printRow_r6 : List Cond := [Cond.code yJ5_inflate_da8c8 cJ5_inflate_da8c8 2 none, Cond.methodLink RJ5 26 yJ2_newBytesFor_77867, Cond.static yJ2_newBytesFor_77867, Cond.code yJ2_newBytesFor_77867 cJ2_newBytesFor_77867 1 (some (.array .byte)), Cond.methodLink RJ2 11 yJ2_newBytesLength_0f7a4, Cond.static yJ2_newBytesLength_0f7a4, Cond.code yJ2_newBytesLength_0f7a4 cJ2_newBytesLength_0f7a4 1 (some .int), Cond.constant RJ2 20 (1073741823), Cond.methodLink RJ5 125 yJ1_inflate_0e8fd, Cond.static yJ1_inflate_0e8fd, Cond.code yJ1_inflate_0e8fd cJ1_inflate_0e8fd 5 none, Cond.methodLink RJ1 240 yJ2_inflate_0e8fd, Cond.static yJ2_inflate_0e8fd, Cond.code yJ2_inflate_0e8fd cJ2_inflate_0e8fd 6 none, Cond.methodLink RJ2 173 yJ2_checkBoundsOffCount_d044e, Cond.static yJ2_checkBoundsOffCount_d044e, Cond.code yJ2_checkBoundsOffCount_d044e cJ2_checkBoundsOffCount_d044e 3 none, Cond.methodLink RJ2 419 yJ0_checkBoundsOffCount_cabcc, Cond.static yJ0_checkBoundsOffCount_cabcc, Cond.code yJ0_checkBoundsOffCount_cabcc cJ0_checkBoundsOffCount_cabcc 3 (some .int), Cond.methodLink RJ0 1065 yJ3_checkFromIndexSize_8c36e, Cond.static yJ3_checkFromIndexSize_8c36e, Cond.code yJ3_checkFromIndexSize_8c36e cJ3_checkFromIndexSize_8c36e 4 (some .int), Cond.methodLink RJ5 197 yJ2_putCharSB_b72d1]
def wsX1_printRow_r7 : List Cond := [Cond.static yJ2_putCharSB_b72d1, Cond.code yJ2_putCharSB_b72d1 cJ2_putCharSB_b72d1 3 none, Cond.methodLink RJ2 67 yJ2_checkIndex_2214a, Cond.static yJ2_checkIndex_2214a, Cond.code yJ2_checkIndex_2214a cJ2_checkIndex_2214a 2 none, Cond.methodLink RJ2 414 yJ0_checkIndex_df160, Cond.static yJ0_checkIndex_df160, Cond.code yJ0_checkIndex_df160 cJ0_checkIndex_df160 2 none, Cond.methodLink RJ0 1059 yJ3_checkIndex_8e157, Cond.static yJ3_checkIndex_8e157, Cond.code yJ3_checkIndex_8e157 cJ3_checkIndex_8e157 3 (some .int), Cond.methodLink RX1 61 yX1_printRow, Cond.static yX1_printRow]
def wsX1_printRow : List Cond := .code yX1_printRow cX1_printRow 5 none :: ((wsX1_printRow_r1 ++ (wsX1_printRow_r2 ++ (wsX1_printRow_r3 ++ (wsX1_printRow_r4 ++ (wsX1_printRow_r5 ++ (wsX1_printRow_r6 ++ wsX1_printRow_r7)))))) ++ wsJ40)
def wsX1_print_r1 : List Cond := [Cond.fieldLink RX1 9 "ForkedStamps$Stamp" "heights" "[I", Cond.methodLink RX1 61 yX1_printRow, Cond.static yX1_printRow, Cond.initialized RX1, Cond.code yX1_printRow cX1_printRow 5 none, Cond.methodLink RX1 65 yX1_isLeaf, Cond.static yX1_isLeaf, Cond.code yX1_isLeaf cX1_isLeaf 4 (some .boolean), Cond.methodLink RX1 69 yJ4_append_bf812, Cond.instanceMethod yJ4_append_bf812, Cond.selects RJ4 yJ4_append_bf812 yJ4_append_bf812, Cond.initialized RJ4, Cond.code yJ4_append_bf812 cJ4_append_bf812 2 (some (.object "java/lang/StringBuilder")), Cond.methodLink RJ4 53 yJ5_append_c97b9, Cond.sameMethod "java/lang/AbstractStringBuilder" "java/lang/AbstractStringBuilder" "append" "(I)Ljava/lang/AbstractStringBuilder;", Cond.superclass RJ4 RJ5, Cond.instanceMethod yJ5_append_c97b9, Cond.initialized RJ5, Cond.code yJ5_append_c97b9 cJ5_append_c97b9 4 (some (.object "java/lang/AbstractStringBuilder")), Cond.fieldLink RJ5 79 "java/lang/AbstractStringBuilder" "count" "I", Cond.fieldLink RJ5 15 "java/lang/AbstractStringBuilder" "value" "[B", Cond.methodLink RJ5 245 yJ6_stringSize_0f7a4, Cond.static yJ6_stringSize_0f7a4, Cond.initialized RJ6]
def wsX1_print_r2 : List Cond := [Cond.code yJ6_stringSize_0f7a4 cJ6_stringSize_0f7a4 4 (some .int), Cond.methodLink RJ5 100 ⟨"java/lang/AbstractStringBuilder", "ensureCapacityInternal", "(I)V"⟩, Cond.sameMethod "java/lang/AbstractStringBuilder" "java/lang/AbstractStringBuilder" "ensureCapacityInternal" "(I)V", Cond.selects RJ4 ⟨"java/lang/AbstractStringBuilder", "ensureCapacityInternal", "(I)V"⟩ yJ5_ensureCapacityInternal_d00df, Cond.instanceMethod yJ5_ensureCapacityInternal_d00df, Cond.code yJ5_ensureCapacityInternal_d00df cJ5_ensureCapacityInternal_d00df 3 none, Cond.fieldLink RJ5 22 "java/lang/AbstractStringBuilder" "coder" "B", Cond.methodLink RJ5 104 ⟨"java/lang/AbstractStringBuilder", "newCapacity", "(I)I"⟩, Cond.sameMethod "java/lang/AbstractStringBuilder" "java/lang/AbstractStringBuilder" "newCapacity" "(I)I", Cond.selects RJ4 ⟨"java/lang/AbstractStringBuilder", "newCapacity", "(I)I"⟩ yJ5_newCapacity_0f7a4, Cond.instanceMethod yJ5_newCapacity_0f7a4, Cond.code yJ5_newCapacity_0f7a4 cJ5_newCapacity_0f7a4 6 (some .int), Cond.constant RJ5 39 (2147483647), Cond.methodLink RJ5 114 yJ8_newLength_cabcc, Cond.static yJ8_newLength_cabcc, Cond.initialized RJ8, Cond.code yJ8_newLength_cabcc cJ8_newLength_cabcc 4 (some .int), Cond.methodLink RJ8 194 Lib.Math.max.name, Cond.static Lib.Math.max.name, Cond.initialized "java/lang/Math", Cond.code Lib.Math.max.name Lib.Math.max.code 2 (some .int), Cond.constant RJ8 200 (2147483639), Cond.methodLink RJ8 201 yJ8_hugeLength_7cf53, Cond.static yJ8_hugeLength_7cf53]
def wsX1_print_r3 : List Cond := [Cond.code yJ8_hugeLength_7cf53 cJ8_hugeLength_7cf53 3 (some .int), Cond.methodLink RJ5 108 yJ7_copyOf_9075b, Cond.static yJ7_copyOf_9075b, Cond.initialized RJ7, Cond.code yJ7_copyOf_9075b cJ7_copyOf_9075b 3 (some (.array .byte)), Cond.methodLink RJ7 310 ⟨"[B", "clone", "()Ljava/lang/Object;"⟩, Cond.sameMethod "[B" "java/lang/Object" "clone" "()Ljava/lang/Object;", Cond.native ⟨"java/lang/Object", "clone", "()Ljava/lang/Object;"⟩, Cond.instanceMethod ⟨"java/lang/Object", "clone", "()Ljava/lang/Object;"⟩, Cond.selects "[B" ⟨"[B", "clone", "()Ljava/lang/Object;"⟩ ⟨"java/lang/Object", "clone", "()Ljava/lang/Object;"⟩, Cond.classLink RJ7 311 "[B", Cond.arrayClass .byte, Cond.methodLink RJ7 304 Lib.Math.min.name, Cond.static Lib.Math.min.name, Cond.code Lib.Math.min.name Lib.Math.min.code 2 (some .int), Cond.methodLink RJ7 150 arraycopyName, Cond.native arraycopyName, Cond.static arraycopyName, Cond.initialized "java/lang/System", Cond.methodLink RJ5 83 ⟨"java/lang/AbstractStringBuilder", "isLatin1", "()Z"⟩, Cond.sameMethod "java/lang/AbstractStringBuilder" "java/lang/AbstractStringBuilder" "isLatin1" "()Z", Cond.selects RJ4 ⟨"java/lang/AbstractStringBuilder", "isLatin1", "()Z"⟩ yJ5_isLatin1_aae02, Cond.instanceMethod yJ5_isLatin1_aae02, Cond.code yJ5_isLatin1_aae02 cJ5_isLatin1_aae02 1 (some .boolean)]
def wsX1_print_r4 : List Cond := [Cond.fieldLink RJ5 18 "java/lang/String" "COMPACT_STRINGS" "Z", Cond.methodLink RJ5 248 yJ6_getChars_ba4f3, Cond.static yJ6_getChars_ba4f3, Cond.code yJ6_getChars_ba4f3 cJ6_getChars_ba4f3 7 (some .int), Cond.fieldLink RJ6 83 "java/lang/Integer" "DigitOnes" "[B", Cond.fieldLink RJ6 87 "java/lang/Integer" "DigitTens" "[B", Cond.methodLink RJ5 251 yJ2_getChars_46870, Cond.static yJ2_getChars_46870, Cond.initialized RJ2, Cond.code yJ2_getChars_46870 cJ2_getChars_46870 5 (some .int), Cond.fieldLink RJ2 44 "java/lang/StringUTF16" "$assertionsDisabled" "Z", Cond.methodLink RJ2 96 yJ2_checkBoundsBeginEnd_d044e, Cond.static yJ2_checkBoundsBeginEnd_d044e, Cond.code yJ2_checkBoundsBeginEnd_d044e cJ2_checkBoundsBeginEnd_d044e 3 none, Cond.methodLink RJ2 48 yJ2_length_9d52b, Cond.static yJ2_length_9d52b, Cond.code yJ2_length_9d52b cJ2_length_9d52b 1 (some .int), Cond.methodLink RJ2 241 yJ0_checkBoundsBeginEnd_23922, Cond.static yJ0_checkBoundsBeginEnd_23922, Cond.initialized RJ0, Cond.code yJ0_checkBoundsBeginEnd_23922 cJ0_checkBoundsBeginEnd_23922 3 none, Cond.fieldLink RJ0 1053 "jdk/internal/util/Preconditions" "SIOOBE_FORMATTER" "Ljava/util/function/BiFunction;", Cond.methodLink RJ0 1062 yJ3_checkFromToIndex_8c36e, Cond.static yJ3_checkFromToIndex_8c36e]
def wsX1_print_r5 : List Cond := [Cond.initialized RJ3, Cond.code yJ3_checkFromToIndex_8c36e cJ3_checkFromToIndex_8c36e 4 (some .int), Cond.methodLink RJ2 393 yJ2_getChars_ba4f3, Cond.static yJ2_getChars_ba4f3, Cond.code yJ2_getChars_ba4f3 cJ2_getChars_ba4f3 7 (some .int), Cond.fieldLink RJ2 403 "java/lang/Integer" "DigitOnes" "[B", Cond.fieldLink RJ2 407 "java/lang/Integer" "DigitTens" "[B", Cond.methodLink RJ2 111 yJ2_putChar_b72d1, Cond.static yJ2_putChar_b72d1, Cond.code yJ2_putChar_b72d1 cJ2_putChar_b72d1 3 none, Cond.fieldLink RJ2 59 "java/lang/StringUTF16" "HI_BYTE_SHIFT" "I", Cond.fieldLink RJ2 63 "java/lang/StringUTF16" "LO_BYTE_SHIFT" "I", Cond.methodLink RX1 75 yJ4_append_cf468, Cond.instanceMethod yJ4_append_cf468, Cond.selects RJ4 yJ4_append_cf468 yJ4_append_cf468, Cond.code yJ4_append_cf468 cJ4_append_cf468 2 (some (.object "java/lang/StringBuilder")), Cond.methodLink RJ4 50 yJ5_append_3fe6f, Cond.sameMethod "java/lang/AbstractStringBuilder" "java/lang/AbstractStringBuilder" "append" "(C)Ljava/lang/AbstractStringBuilder;", Cond.instanceMethod yJ5_append_3fe6f, Cond.code yJ5_append_3fe6f cJ5_append_3fe6f 2 (some (.object "java/lang/AbstractStringBuilder")), Cond.methodLink RJ5 191 yJ1_canEncode_fc78d, Cond.static yJ1_canEncode_fc78d, Cond.initialized RJ1, Cond.code yJ1_canEncode_fc78d cJ1_canEncode_fc78d 1 (some .boolean)]
def wsX1_print_r6 : List Cond := [Cond.methodLink RJ5 195 ⟨"java/lang/AbstractStringBuilder", "inflate", "()V"⟩, Cond.sameMethod "java/lang/AbstractStringBuilder" "java/lang/AbstractStringBuilder" "inflate" "()V", Cond.selects RJ4 ⟨"java/lang/AbstractStringBuilder", "inflate", "()V"⟩ yJ5_inflate_da8c8, Cond.instanceMethod yJ5_inflate_da8c8, Cond.code yJ5_inflate_da8c8 cJ5_inflate_da8c8 2 none, Cond.methodLink RJ5 26 yJ2_newBytesFor_77867, Cond.static yJ2_newBytesFor_77867, Cond.code yJ2_newBytesFor_77867 cJ2_newBytesFor_77867 1 (some (.array .byte)), Cond.methodLink RJ2 11 yJ2_newBytesLength_0f7a4, Cond.static yJ2_newBytesLength_0f7a4, Cond.code yJ2_newBytesLength_0f7a4 cJ2_newBytesLength_0f7a4 1 (some .int), Cond.constant RJ2 20 (1073741823), Cond.methodLink RJ5 125 yJ1_inflate_0e8fd, Cond.static yJ1_inflate_0e8fd, Cond.code yJ1_inflate_0e8fd cJ1_inflate_0e8fd 5 none, Cond.methodLink RJ1 240 yJ2_inflate_0e8fd, Cond.static yJ2_inflate_0e8fd, Cond.code yJ2_inflate_0e8fd cJ2_inflate_0e8fd 6 none, Cond.methodLink RJ2 173 yJ2_checkBoundsOffCount_d044e, Cond.static yJ2_checkBoundsOffCount_d044e, Cond.code yJ2_checkBoundsOffCount_d044e cJ2_checkBoundsOffCount_d044e 3 none, Cond.methodLink RJ2 419 yJ0_checkBoundsOffCount_cabcc, Cond.static yJ0_checkBoundsOffCount_cabcc, Cond.code yJ0_checkBoundsOffCount_cabcc cJ0_checkBoundsOffCount_cabcc 3 (some .int)]
def wsX1_print_r7 : List Cond := [Cond.methodLink RJ0 1065 yJ3_checkFromIndexSize_8c36e, Cond.static yJ3_checkFromIndexSize_8c36e, Cond.code yJ3_checkFromIndexSize_8c36e cJ3_checkFromIndexSize_8c36e 4 (some .int), Cond.methodLink RJ5 197 yJ2_putCharSB_b72d1, Cond.static yJ2_putCharSB_b72d1, Cond.code yJ2_putCharSB_b72d1 cJ2_putCharSB_b72d1 3 none, Cond.methodLink RJ2 67 yJ2_checkIndex_2214a, Cond.static yJ2_checkIndex_2214a, Cond.code yJ2_checkIndex_2214a cJ2_checkIndex_2214a 2 none, Cond.methodLink RJ2 414 yJ0_checkIndex_df160, Cond.static yJ0_checkIndex_df160, Cond.code yJ0_checkIndex_df160 cJ0_checkIndex_df160 2 none, Cond.methodLink RJ0 1059 yJ3_checkIndex_8e157, Cond.static yJ3_checkIndex_8e157, Cond.code yJ3_checkIndex_8e157 cJ3_checkIndex_8e157 3 (some .int)]
def wsX1_print : List Cond := .code yX1_print cX1_print 2 none :: ((wsX1_print_r1 ++ (wsX1_print_r2 ++ (wsX1_print_r3 ++ (wsX1_print_r4 ++ (wsX1_print_r5 ++ (wsX1_print_r6 ++ wsX1_print_r7)))))) ++ wsX10 ++ wsJ40)
def wsX2_init : List Cond := .code yX2_init cX2_init 2 none :: ([.methodLink RX2 3 objectInit, .instanceMethod objectInit, .code objectInit ⟨#[0xb1]⟩ 1 none, .arrayClass .int, .fieldLink RX2 9 "ForkedStamps$State" "shares" "[I", .classLink RX2 15 RX1, .fieldLink RX2 17 "ForkedStamps$State" "helpers" "[LForkedStamps$Stamp;", .fieldLink RX2 21 "ForkedStamps$State" "messages" "[LForkedStamps$Stamp;", .fieldLink RX2 24 "ForkedStamps$State" "senders" "[I", .fieldLink RX2 27 "ForkedStamps$State" "actors" "[I", .instantiable RX1 3, .initialized RX1, .instanceMethod yX1_init, .code yX1_init cX1_init 1 none, .methodLink RX1 3 objectInit, .fieldLink RX1 9 "ForkedStamps$Stamp" "heights" "[I"] ++ wsX20 ++ wsX10)
def wsX2_become : List Cond := .code yX2_become cX2_become 3 none :: ([.fieldLink RX2 9 "ForkedStamps$State" "shares" "[I", .methodLink RX2 31 arraycopyName, .native arraycopyName, .static arraycopyName, .initialized "java/lang/System", .fieldLink RX2 17 "ForkedStamps$State" "helpers" "[LForkedStamps$Stamp;", .fieldLink RX2 24 "ForkedStamps$State" "senders" "[I", .fieldLink RX2 21 "ForkedStamps$State" "messages" "[LForkedStamps$Stamp;", .fieldLink RX2 41 "ForkedStamps$State" "messageCount" "I", .fieldLink RX2 27 "ForkedStamps$State" "actors" "[I", .fieldLink RX2 45 "ForkedStamps$State" "eventCount" "I", .methodLink RX2 37 yX1_become, .instanceMethod yX1_become, .selects RX1 yX1_become yX1_become, .initialized RX1, .code yX1_become cX1_become 2 none, .fieldLink RX1 9 "ForkedStamps$Stamp" "heights" "[I", .methodLink RX1 15 arraycopyName, .fieldLink RX1 21 "ForkedStamps$Stamp" "knownEarly" "J", .fieldLink RX1 25 "ForkedStamps$Stamp" "knownLate" "J"] ++ wsX20 ++ wsX10)
def wsX2_isHelper : List Cond := .code yX2_isHelper cX2_isHelper 2 (some .boolean) :: ([.fieldLink RX2 9 "ForkedStamps$State" "shares" "[I"] ++ wsX20)
def wsX2_isMessage : List Cond := .code yX2_isMessage cX2_isMessage 2 (some .boolean) :: ([.fieldLink RX2 41 "ForkedStamps$State" "messageCount" "I"] ++ wsX20)
def wsX2_isEvent : List Cond := .code yX2_isEvent cX2_isEvent 2 (some .boolean) :: ([.fieldLink RX2 45 "ForkedStamps$State" "eventCount" "I"] ++ wsX20)
def wsX2_stampOf : List Cond := .code yX2_stampOf cX2_stampOf 3 (some (.object "ForkedStamps$Stamp")) :: ([.fieldLink RX2 17 "ForkedStamps$State" "helpers" "[LForkedStamps$Stamp;", .fieldLink RX2 21 "ForkedStamps$State" "messages" "[LForkedStamps$Stamp;", .methodLink RX2 48 yX2_isHelper, .instanceMethod yX2_isHelper, .selects RX2 yX2_isHelper yX2_isHelper, .initialized RX2, .code yX2_isHelper cX2_isHelper 2 (some .boolean), .fieldLink RX2 9 "ForkedStamps$State" "shares" "[I", .methodLink RX2 52 yX2_isMessage, .instanceMethod yX2_isMessage, .selects RX2 yX2_isMessage yX2_isMessage, .code yX2_isMessage cX2_isMessage 2 (some .boolean), .fieldLink RX2 41 "ForkedStamps$State" "messageCount" "I"] ++ wsX20)
def wsX2_lowestFreeHelper : List Cond := .code yX2_lowestFreeHelper cX2_lowestFreeHelper 2 (some .int) :: ([.methodLink RX2 48 yX2_isHelper, .instanceMethod yX2_isHelper, .selects RX2 yX2_isHelper yX2_isHelper, .initialized RX2, .code yX2_isHelper cX2_isHelper 2 (some .boolean), .fieldLink RX2 9 "ForkedStamps$State" "shares" "[I"] ++ wsX20)
def wsJ6_bitCount_0f7a4 : List Cond := .code yJ6_bitCount_0f7a4 cJ6_bitCount_0f7a4 1 (some .int) :: ([.constant RJ6 265 (1431655765), .constant RJ6 266 (858993459), .constant RJ6 267 (252645135)])
def wsX2_lowestCells : List Cond := .code yX2_lowestCells cX2_lowestCells 4 (some .int) :: ([.methodLink RX2 55 yJ6_bitCount_0f7a4, .static yJ6_bitCount_0f7a4, .initialized RJ6, .code yJ6_bitCount_0f7a4 cJ6_bitCount_0f7a4 1 (some .int), .constant RJ6 265 (1431655765), .constant RJ6 266 (858993459), .constant RJ6 267 (252645135)])
def wsX2_split_r1 : List Cond := [Cond.fieldLink RX2 9 "ForkedStamps$State" "shares" "[I", Cond.fieldLink RX2 17 "ForkedStamps$State" "helpers" "[LForkedStamps$Stamp;", Cond.methodLink RX2 55 yJ6_bitCount_0f7a4, Cond.static yJ6_bitCount_0f7a4, Cond.initialized RJ6, Cond.code yJ6_bitCount_0f7a4 cJ6_bitCount_0f7a4 1 (some .int), Cond.constant RJ6 265 (1431655765), Cond.constant RJ6 266 (858993459), Cond.constant RJ6 267 (252645135), Cond.methodLink RX2 61 yX2_lowestCells, Cond.static yX2_lowestCells, Cond.initialized RX2, Cond.code yX2_lowestCells cX2_lowestCells 4 (some .int), Cond.methodLink RX2 37 yX1_become, Cond.instanceMethod yX1_become, Cond.selects RX1 yX1_become yX1_become, Cond.initialized RX1, Cond.code yX1_become cX1_become 2 none, Cond.fieldLink RX1 9 "ForkedStamps$Stamp" "heights" "[I", Cond.methodLink RX1 15 arraycopyName, Cond.native arraycopyName, Cond.static arraycopyName, Cond.initialized "java/lang/System", Cond.fieldLink RX1 21 "ForkedStamps$Stamp" "knownEarly" "J"]
def wsX2_split_r2 : List Cond := [Cond.fieldLink RX1 25 "ForkedStamps$Stamp" "knownLate" "J"]
def wsX2_split : List Cond := .code yX2_split cX2_split 6 none :: ((wsX2_split_r1 ++ wsX2_split_r2) ++ wsX20 ++ wsX10)
def wsX2_merge : List Cond := .code yX2_merge cX2_merge 3 none :: ([.fieldLink RX2 17 "ForkedStamps$State" "helpers" "[LForkedStamps$Stamp;", .fieldLink RX2 9 "ForkedStamps$State" "shares" "[I", .methodLink RX2 65 yX1_takeOver, .instanceMethod yX1_takeOver, .selects RX1 yX1_takeOver yX1_takeOver, .initialized RX1, .code yX1_takeOver cX1_takeOver 3 none, .fieldLink RX1 9 "ForkedStamps$Stamp" "heights" "[I", .methodLink RX1 28 Lib.Math.max.name, .static Lib.Math.max.name, .initialized "java/lang/Math", .code Lib.Math.max.name Lib.Math.max.code 2 (some .int), .fieldLink RX1 21 "ForkedStamps$Stamp" "knownEarly" "J", .fieldLink RX1 25 "ForkedStamps$Stamp" "knownLate" "J"] ++ wsX20 ++ wsX10)
def wsX2_addEvent_r1 : List Cond := [Cond.fieldLink RX2 45 "ForkedStamps$State" "eventCount" "I", Cond.fieldLink RX2 17 "ForkedStamps$State" "helpers" "[LForkedStamps$Stamp;", Cond.fieldLink RX2 9 "ForkedStamps$State" "shares" "[I", Cond.fieldLink RX2 27 "ForkedStamps$State" "actors" "[I", Cond.methodLink RX2 68 yX1_raise, Cond.instanceMethod yX1_raise, Cond.selects RX1 yX1_raise yX1_raise, Cond.initialized RX1, Cond.code yX1_raise cX1_raise 5 none, Cond.fieldLink RX1 9 "ForkedStamps$Stamp" "heights" "[I", Cond.methodLink RX1 34 yX1_greatestIn, Cond.instanceMethod yX1_greatestIn, Cond.selects RX1 yX1_greatestIn yX1_greatestIn, Cond.code yX1_greatestIn cX1_greatestIn 4 (some .int), Cond.methodLink RX1 28 Lib.Math.max.name, Cond.static Lib.Math.max.name, Cond.initialized "java/lang/Math", Cond.code Lib.Math.max.name Lib.Math.max.code 2 (some .int), Cond.methodLink RX1 42 yX1_isIn, Cond.static yX1_isIn, Cond.code yX1_isIn cX1_isIn 2 (some .boolean), Cond.methodLink RX1 38 yX1_isLevel, Cond.instanceMethod yX1_isLevel, Cond.selects RX1 yX1_isLevel yX1_isLevel]
def wsX2_addEvent_r2 : List Cond := [Cond.code yX1_isLevel cX1_isLevel 4 (some .boolean), Cond.methodLink RX2 72 yX1_learn, Cond.instanceMethod yX1_learn, Cond.selects RX1 yX1_learn yX1_learn, Cond.code yX1_learn cX1_learn 2 none, Cond.fieldLink RX1 21 "ForkedStamps$Stamp" "knownEarly" "J", Cond.fieldLink RX1 25 "ForkedStamps$Stamp" "knownLate" "J"]
def wsX2_addEvent : List Cond := .code yX2_addEvent cX2_addEvent 3 (some .int) :: ((wsX2_addEvent_r1 ++ wsX2_addEvent_r2) ++ wsX20 ++ wsX10)
def wsX2_addMessage : List Cond := .code yX2_addMessage cX2_addMessage 3 (some .int) :: ([.fieldLink RX2 41 "ForkedStamps$State" "messageCount" "I", .fieldLink RX2 21 "ForkedStamps$State" "messages" "[LForkedStamps$Stamp;", .fieldLink RX2 17 "ForkedStamps$State" "helpers" "[LForkedStamps$Stamp;", .fieldLink RX2 24 "ForkedStamps$State" "senders" "[I", .methodLink RX2 37 yX1_become, .instanceMethod yX1_become, .selects RX1 yX1_become yX1_become, .initialized RX1, .code yX1_become cX1_become 2 none, .fieldLink RX1 9 "ForkedStamps$Stamp" "heights" "[I", .methodLink RX1 15 arraycopyName, .native arraycopyName, .static arraycopyName, .initialized "java/lang/System", .fieldLink RX1 21 "ForkedStamps$Stamp" "knownEarly" "J", .fieldLink RX1 25 "ForkedStamps$Stamp" "knownLate" "J"] ++ wsX20 ++ wsX10)
def wsX2_removeMessage : List Cond := .code yX2_removeMessage cX2_removeMessage 3 none :: ([.fieldLink RX2 41 "ForkedStamps$State" "messageCount" "I", .fieldLink RX2 21 "ForkedStamps$State" "messages" "[LForkedStamps$Stamp;", .fieldLink RX2 24 "ForkedStamps$State" "senders" "[I", .methodLink RX2 37 yX1_become, .instanceMethod yX1_become, .selects RX1 yX1_become yX1_become, .initialized RX1, .code yX1_become cX1_become 2 none, .fieldLink RX1 9 "ForkedStamps$Stamp" "heights" "[I", .methodLink RX1 15 arraycopyName, .native arraycopyName, .static arraycopyName, .initialized "java/lang/System", .fieldLink RX1 21 "ForkedStamps$Stamp" "knownEarly" "J", .fieldLink RX1 25 "ForkedStamps$Stamp" "knownLate" "J"] ++ wsX20 ++ wsX10)
def wsX2_helperSet : List Cond := .code yX2_helperSet cX2_helperSet 3 (some .int) :: ([.methodLink RX2 48 yX2_isHelper, .instanceMethod yX2_isHelper, .selects RX2 yX2_isHelper yX2_isHelper, .initialized RX2, .code yX2_isHelper cX2_isHelper 2 (some .boolean), .fieldLink RX2 9 "ForkedStamps$State" "shares" "[I"] ++ wsX20)
def wsX2_clashingPairs : List Cond := .code yX2_clashingPairs cX2_clashingPairs 4 (some .int) :: ([.fieldLink RX2 17 "ForkedStamps$State" "helpers" "[LForkedStamps$Stamp;", .methodLink RX2 48 yX2_isHelper, .instanceMethod yX2_isHelper, .selects RX2 yX2_isHelper yX2_isHelper, .initialized RX2, .code yX2_isHelper cX2_isHelper 2 (some .boolean), .fieldLink RX2 9 "ForkedStamps$State" "shares" "[I", .methodLink RX2 75 yX1_orderTo, .instanceMethod yX1_orderTo, .selects RX1 yX1_orderTo yX1_orderTo, .initialized RX1, .code yX1_orderTo cX1_orderTo 5 (some .int), .fieldLink RX1 9 "ForkedStamps$Stamp" "heights" "[I"] ++ wsX20 ++ wsX10)
def wsX2_knotsOfHelpers : List Cond := .code yX2_knotsOfHelpers cX2_knotsOfHelpers 3 (some .int) :: ([.fieldLink RX2 17 "ForkedStamps$State" "helpers" "[LForkedStamps$Stamp;", .methodLink RX2 48 yX2_isHelper, .instanceMethod yX2_isHelper, .selects RX2 yX2_isHelper yX2_isHelper, .initialized RX2, .code yX2_isHelper cX2_isHelper 2 (some .boolean), .fieldLink RX2 9 "ForkedStamps$State" "shares" "[I", .methodLink RX2 79 yX1_knots, .instanceMethod yX1_knots, .selects RX1 yX1_knots yX1_knots, .initialized RX1, .code yX1_knots cX1_knots 1 (some .int), .fieldLink RX1 9 "ForkedStamps$Stamp" "heights" "[I", .methodLink RX1 57 yX1_knotsOfRow, .static yX1_knotsOfRow, .code yX1_knotsOfRow cX1_knotsOfRow 4 (some .int), .methodLink RX1 65 yX1_isLeaf, .static yX1_isLeaf, .code yX1_isLeaf cX1_isLeaf 4 (some .boolean)] ++ wsX20 ++ wsX10)
def wsX2_isForemost : List Cond := .code yX2_isForemost cX2_isForemost 4 (some .boolean) :: ([.fieldLink RX2 17 "ForkedStamps$State" "helpers" "[LForkedStamps$Stamp;", .methodLink RX2 48 yX2_isHelper, .instanceMethod yX2_isHelper, .selects RX2 yX2_isHelper yX2_isHelper, .initialized RX2, .code yX2_isHelper cX2_isHelper 2 (some .boolean), .fieldLink RX2 9 "ForkedStamps$State" "shares" "[I", .methodLink RX2 75 yX1_orderTo, .instanceMethod yX1_orderTo, .selects RX1 yX1_orderTo yX1_orderTo, .initialized RX1, .code yX1_orderTo cX1_orderTo 5 (some .int), .fieldLink RX1 9 "ForkedStamps$Stamp" "heights" "[I"] ++ wsX20 ++ wsX10)
def wsX2_foremost : List Cond := .code yX2_foremost cX2_foremost 2 (some .int) :: ([.methodLink RX2 48 yX2_isHelper, .instanceMethod yX2_isHelper, .selects RX2 yX2_isHelper yX2_isHelper, .initialized RX2, .code yX2_isHelper cX2_isHelper 2 (some .boolean), .fieldLink RX2 9 "ForkedStamps$State" "shares" "[I", .methodLink RX2 83 yX2_isForemost, .instanceMethod yX2_isForemost, .selects RX2 yX2_isForemost yX2_isForemost, .code yX2_isForemost cX2_isForemost 4 (some .boolean), .fieldLink RX2 17 "ForkedStamps$State" "helpers" "[LForkedStamps$Stamp;", .methodLink RX2 75 yX1_orderTo, .instanceMethod yX1_orderTo, .selects RX1 yX1_orderTo yX1_orderTo, .initialized RX1, .code yX1_orderTo cX1_orderTo 5 (some .int), .fieldLink RX1 9 "ForkedStamps$Stamp" "heights" "[I"] ++ wsX20 ++ wsX10)
def wsX2_leastKnowing : List Cond := .code yX2_leastKnowing cX2_leastKnowing 4 (some .int) :: ([.fieldLink RX2 17 "ForkedStamps$State" "helpers" "[LForkedStamps$Stamp;", .methodLink RX2 48 yX2_isHelper, .instanceMethod yX2_isHelper, .selects RX2 yX2_isHelper yX2_isHelper, .initialized RX2, .code yX2_isHelper cX2_isHelper 2 (some .boolean), .fieldLink RX2 9 "ForkedStamps$State" "shares" "[I", .methodLink RX2 86 yX1_knownCount, .instanceMethod yX1_knownCount, .selects RX1 yX1_knownCount yX1_knownCount, .initialized RX1, .code yX1_knownCount cX1_knownCount 1 (some .int), .fieldLink RX1 21 "ForkedStamps$Stamp" "knownEarly" "J", .fieldLink RX1 25 "ForkedStamps$Stamp" "knownLate" "J", .methodLink RX1 45 yJ13_bitCount_95d88, .static yJ13_bitCount_95d88, .initialized RJ13, .code yJ13_bitCount_95d88 cJ13_bitCount_95d88 2 (some .int), .constantLong RJ13 314 (6148914691236517205), .constantLong RJ13 316 (3689348814741910323), .constantLong RJ13 318 (1085102592571150095)] ++ wsX20 ++ wsX10)
def wsJ5_init_d00df : List Cond := .code yJ5_init_d00df cJ5_init_d00df 2 none :: ([.methodLink RJ5 3 objectInit, .instanceMethod objectInit, .code objectInit ⟨#[0xb1]⟩ 1 none, .fieldLink RJ5 18 "java/lang/String" "COMPACT_STRINGS" "Z", .arrayClass .byte, .fieldLink RJ5 15 "java/lang/AbstractStringBuilder" "value" "[B", .fieldLink RJ5 22 "java/lang/AbstractStringBuilder" "coder" "B", .methodLink RJ5 26 yJ2_newBytesFor_77867, .static yJ2_newBytesFor_77867, .initialized RJ2, .code yJ2_newBytesFor_77867 cJ2_newBytesFor_77867 1 (some (.array .byte)), .methodLink RJ2 11 yJ2_newBytesLength_0f7a4, .static yJ2_newBytesLength_0f7a4, .code yJ2_newBytesLength_0f7a4 cJ2_newBytesLength_0f7a4 1 (some .int), .constant RJ2 20 (1073741823)] ++ wsJ40)
def wsJ4_init_da8c8 : List Cond := .code yJ4_init_da8c8 cJ4_init_da8c8 1 none :: ([.methodLink RJ4 1 yJ5_init_d00df, .instanceMethod yJ5_init_d00df, .initialized RJ5, .code yJ5_init_d00df cJ5_init_d00df 2 none, .methodLink RJ5 3 objectInit, .instanceMethod objectInit, .code objectInit ⟨#[0xb1]⟩ 1 none, .fieldLink RJ5 18 "java/lang/String" "COMPACT_STRINGS" "Z", .arrayClass .byte, .fieldLink RJ5 15 "java/lang/AbstractStringBuilder" "value" "[B", .fieldLink RJ5 22 "java/lang/AbstractStringBuilder" "coder" "B", .methodLink RJ5 26 yJ2_newBytesFor_77867, .static yJ2_newBytesFor_77867, .initialized RJ2, .code yJ2_newBytesFor_77867 cJ2_newBytesFor_77867 1 (some (.array .byte)), .methodLink RJ2 11 yJ2_newBytesLength_0f7a4, .static yJ2_newBytesLength_0f7a4, .code yJ2_newBytesLength_0f7a4 cJ2_newBytesLength_0f7a4 1 (some .int), .constant RJ2 20 (1073741823)] ++ wsJ40)
def wsX3_init_r1 : List Cond := [Cond.methodLink RX3 1 objectInit, Cond.instanceMethod objectInit, Cond.code objectInit ⟨#[0xb1]⟩ 1 none, Cond.classLink RX3 7 RX2, Cond.instantiable RX2 7, Cond.initialized RX2, Cond.fieldLink RX3 10 "ForkedStamps" "now" "LForkedStamps$State;", Cond.fieldLink RX3 16 "ForkedStamps" "history" "[LForkedStamps$State;", Cond.fieldLink RX3 20 "ForkedStamps" "slots" "[LForkedStamps$State;", Cond.arrayClass .boolean, Cond.fieldLink RX3 23 "ForkedStamps" "saved" "[Z", Cond.classLink RX3 27 RX0, Cond.instantiable RX0 7, Cond.initialized RX0, Cond.fieldLink RX3 30 "ForkedStamps" "pad" "LForkedStamps$Pad;", Cond.classLink RX3 34 RX1, Cond.instantiable RX1 3, Cond.initialized RX1, Cond.fieldLink RX3 37 "ForkedStamps" "trial" "LForkedStamps$Stamp;", Cond.classLink RX3 41 RJ4, Cond.instantiable RJ4 4, Cond.initialized RJ4, Cond.fieldLink RX3 44 "ForkedStamps" "text" "Ljava/lang/StringBuilder;", Cond.fieldLink RX3 48 "ForkedStamps$State" "shares" "[I"]
def wsX3_init_r2 : List Cond := [Cond.constant RX3 52 (65535), Cond.methodLink RX3 9 yX2_init, Cond.instanceMethod yX2_init, Cond.code yX2_init cX2_init 2 none, Cond.methodLink RX2 3 objectInit, Cond.arrayClass .int, Cond.fieldLink RX2 9 "ForkedStamps$State" "shares" "[I", Cond.classLink RX2 15 RX1, Cond.fieldLink RX2 17 "ForkedStamps$State" "helpers" "[LForkedStamps$Stamp;", Cond.fieldLink RX2 21 "ForkedStamps$State" "messages" "[LForkedStamps$Stamp;", Cond.fieldLink RX2 24 "ForkedStamps$State" "senders" "[I", Cond.fieldLink RX2 27 "ForkedStamps$State" "actors" "[I", Cond.instanceMethod yX1_init, Cond.code yX1_init cX1_init 1 none, Cond.methodLink RX1 3 objectInit, Cond.fieldLink RX1 9 "ForkedStamps$Stamp" "heights" "[I", Cond.instanceMethod yX0_init, Cond.code yX0_init cX0_init 1 none, Cond.methodLink RX0 3 objectInit, Cond.arrayClass .char, Cond.fieldLink RX0 9 "ForkedStamps$Pad" "characters" "[C", Cond.classLink RX0 15 RX1, Cond.fieldLink RX0 18 "ForkedStamps$Pad" "stamp" "LForkedStamps$Stamp;", Cond.methodLink RX3 43 yJ4_init_da8c8]
def wsX3_init_r3 : List Cond := [Cond.instanceMethod yJ4_init_da8c8, Cond.code yJ4_init_da8c8 cJ4_init_da8c8 1 none, Cond.methodLink RJ4 1 yJ5_init_d00df, Cond.instanceMethod yJ5_init_d00df, Cond.initialized RJ5, Cond.code yJ5_init_d00df cJ5_init_d00df 2 none, Cond.methodLink RJ5 3 objectInit, Cond.fieldLink RJ5 18 "java/lang/String" "COMPACT_STRINGS" "Z", Cond.arrayClass .byte, Cond.fieldLink RJ5 15 "java/lang/AbstractStringBuilder" "value" "[B", Cond.fieldLink RJ5 22 "java/lang/AbstractStringBuilder" "coder" "B", Cond.methodLink RJ5 26 yJ2_newBytesFor_77867, Cond.static yJ2_newBytesFor_77867, Cond.initialized RJ2, Cond.code yJ2_newBytesFor_77867 cJ2_newBytesFor_77867 1 (some (.array .byte)), Cond.methodLink RJ2 11 yJ2_newBytesLength_0f7a4, Cond.static yJ2_newBytesLength_0f7a4, Cond.code yJ2_newBytesLength_0f7a4 cJ2_newBytesLength_0f7a4 1 (some .int), Cond.constant RJ2 20 (1073741823)]
def wsX3_init : List Cond := .code yX3_init cX3_init 2 none :: ((wsX3_init_r1 ++ (wsX3_init_r2 ++ wsX3_init_r3)) ++ wsX20 ++ wsX30 ++ wsX00 ++ wsX10 ++ wsJ40)
def wsX3_forgetOldest : List Cond := .code yX3_forgetOldest cX3_forgetOldest 3 none :: ([.fieldLink RX3 16 "ForkedStamps" "history" "[LForkedStamps$State;", .fieldLink RX3 163 "ForkedStamps" "historyCount" "I"] ++ wsX30)
def wsX3_remember_r1 : List Cond := [Cond.fieldLink RX3 163 "ForkedStamps" "historyCount" "I", Cond.fieldLink RX3 16 "ForkedStamps" "history" "[LForkedStamps$State;", Cond.fieldLink RX3 10 "ForkedStamps" "now" "LForkedStamps$State;", Cond.methodLink RX3 209 yX3_forgetOldest, Cond.instanceMethod yX3_forgetOldest, Cond.selects RX3 yX3_forgetOldest yX3_forgetOldest, Cond.initialized RX3, Cond.code yX3_forgetOldest cX3_forgetOldest 3 none, Cond.methodLink RX3 203 yX2_become, Cond.instanceMethod yX2_become, Cond.selects RX2 yX2_become yX2_become, Cond.initialized RX2, Cond.code yX2_become cX2_become 3 none, Cond.fieldLink RX2 9 "ForkedStamps$State" "shares" "[I", Cond.methodLink RX2 31 arraycopyName, Cond.native arraycopyName, Cond.static arraycopyName, Cond.initialized "java/lang/System", Cond.fieldLink RX2 17 "ForkedStamps$State" "helpers" "[LForkedStamps$Stamp;", Cond.fieldLink RX2 24 "ForkedStamps$State" "senders" "[I", Cond.fieldLink RX2 21 "ForkedStamps$State" "messages" "[LForkedStamps$Stamp;", Cond.fieldLink RX2 41 "ForkedStamps$State" "messageCount" "I", Cond.fieldLink RX2 27 "ForkedStamps$State" "actors" "[I", Cond.fieldLink RX2 45 "ForkedStamps$State" "eventCount" "I"]
def wsX3_remember_r2 : List Cond := [Cond.methodLink RX2 37 yX1_become, Cond.instanceMethod yX1_become, Cond.selects RX1 yX1_become yX1_become, Cond.initialized RX1, Cond.code yX1_become cX1_become 2 none, Cond.fieldLink RX1 9 "ForkedStamps$Stamp" "heights" "[I", Cond.methodLink RX1 15 arraycopyName, Cond.fieldLink RX1 21 "ForkedStamps$Stamp" "knownEarly" "J", Cond.fieldLink RX1 25 "ForkedStamps$Stamp" "knownLate" "J"]
def wsX3_remember : List Cond := .code yX3_remember cX3_remember 1 none :: ((wsX3_remember_r1 ++ wsX3_remember_r2) ++ wsX30 ++ wsX20 ++ wsX10)
def wsX3_fork_r1 : List Cond := [Cond.fieldLink RX3 10 "ForkedStamps" "now" "LForkedStamps$State;", Cond.fieldLink RX3 48 "ForkedStamps$State" "shares" "[I", Cond.methodLink RX3 53 yX2_isHelper, Cond.instanceMethod yX2_isHelper, Cond.selects RX2 yX2_isHelper yX2_isHelper, Cond.initialized RX2, Cond.code yX2_isHelper cX2_isHelper 2 (some .boolean), Cond.fieldLink RX2 9 "ForkedStamps$State" "shares" "[I", Cond.methodLink RX3 57 yX2_lowestFreeHelper, Cond.instanceMethod yX2_lowestFreeHelper, Cond.selects RX2 yX2_lowestFreeHelper yX2_lowestFreeHelper, Cond.code yX2_lowestFreeHelper cX2_lowestFreeHelper 2 (some .int), Cond.methodLink RX2 48 yX2_isHelper, Cond.methodLink RX3 61 yJ6_bitCount_0f7a4, Cond.static yJ6_bitCount_0f7a4, Cond.initialized RJ6, Cond.code yJ6_bitCount_0f7a4 cJ6_bitCount_0f7a4 1 (some .int), Cond.constant RJ6 265 (1431655765), Cond.constant RJ6 266 (858993459), Cond.constant RJ6 267 (252645135), Cond.methodLink RX3 67 yX3_remember, Cond.instanceMethod yX3_remember, Cond.selects RX3 yX3_remember yX3_remember, Cond.initialized RX3]
def wsX3_fork_r2 : List Cond := [Cond.code yX3_remember cX3_remember 1 none, Cond.fieldLink RX3 163 "ForkedStamps" "historyCount" "I", Cond.fieldLink RX3 16 "ForkedStamps" "history" "[LForkedStamps$State;", Cond.methodLink RX3 209 yX3_forgetOldest, Cond.instanceMethod yX3_forgetOldest, Cond.selects RX3 yX3_forgetOldest yX3_forgetOldest, Cond.code yX3_forgetOldest cX3_forgetOldest 3 none, Cond.methodLink RX3 203 yX2_become, Cond.instanceMethod yX2_become, Cond.selects RX2 yX2_become yX2_become, Cond.code yX2_become cX2_become 3 none, Cond.methodLink RX2 31 arraycopyName, Cond.native arraycopyName, Cond.static arraycopyName, Cond.initialized "java/lang/System", Cond.fieldLink RX2 17 "ForkedStamps$State" "helpers" "[LForkedStamps$Stamp;", Cond.fieldLink RX2 24 "ForkedStamps$State" "senders" "[I", Cond.fieldLink RX2 21 "ForkedStamps$State" "messages" "[LForkedStamps$Stamp;", Cond.fieldLink RX2 41 "ForkedStamps$State" "messageCount" "I", Cond.fieldLink RX2 27 "ForkedStamps$State" "actors" "[I", Cond.fieldLink RX2 45 "ForkedStamps$State" "eventCount" "I", Cond.methodLink RX2 37 yX1_become, Cond.instanceMethod yX1_become, Cond.selects RX1 yX1_become yX1_become]
def wsX3_fork_r3 : List Cond := [Cond.initialized RX1, Cond.code yX1_become cX1_become 2 none, Cond.fieldLink RX1 9 "ForkedStamps$Stamp" "heights" "[I", Cond.methodLink RX1 15 arraycopyName, Cond.fieldLink RX1 21 "ForkedStamps$Stamp" "knownEarly" "J", Cond.fieldLink RX1 25 "ForkedStamps$Stamp" "knownLate" "J", Cond.methodLink RX3 70 yX2_split, Cond.instanceMethod yX2_split, Cond.selects RX2 yX2_split yX2_split, Cond.code yX2_split cX2_split 6 none, Cond.methodLink RX2 55 yJ6_bitCount_0f7a4, Cond.methodLink RX2 61 yX2_lowestCells, Cond.static yX2_lowestCells, Cond.code yX2_lowestCells cX2_lowestCells 4 (some .int)]
def wsX3_fork : List Cond := .code yX3_fork cX3_fork 3 (some .int) :: ((wsX3_fork_r1 ++ (wsX3_fork_r2 ++ wsX3_fork_r3)) ++ wsX30 ++ wsX20 ++ wsX10)
def wsX3_gather_r1 : List Cond := [Cond.fieldLink RX3 10 "ForkedStamps" "now" "LForkedStamps$State;", Cond.fieldLink RX3 48 "ForkedStamps$State" "shares" "[I", Cond.methodLink RX3 53 yX2_isHelper, Cond.instanceMethod yX2_isHelper, Cond.selects RX2 yX2_isHelper yX2_isHelper, Cond.initialized RX2, Cond.code yX2_isHelper cX2_isHelper 2 (some .boolean), Cond.fieldLink RX2 9 "ForkedStamps$State" "shares" "[I", Cond.methodLink RX3 67 yX3_remember, Cond.instanceMethod yX3_remember, Cond.selects RX3 yX3_remember yX3_remember, Cond.initialized RX3, Cond.code yX3_remember cX3_remember 1 none, Cond.fieldLink RX3 163 "ForkedStamps" "historyCount" "I", Cond.fieldLink RX3 16 "ForkedStamps" "history" "[LForkedStamps$State;", Cond.methodLink RX3 209 yX3_forgetOldest, Cond.instanceMethod yX3_forgetOldest, Cond.selects RX3 yX3_forgetOldest yX3_forgetOldest, Cond.code yX3_forgetOldest cX3_forgetOldest 3 none, Cond.methodLink RX3 203 yX2_become, Cond.instanceMethod yX2_become, Cond.selects RX2 yX2_become yX2_become, Cond.code yX2_become cX2_become 3 none, Cond.methodLink RX2 31 arraycopyName]
def wsX3_gather_r2 : List Cond := [Cond.native arraycopyName, Cond.static arraycopyName, Cond.initialized "java/lang/System", Cond.fieldLink RX2 17 "ForkedStamps$State" "helpers" "[LForkedStamps$Stamp;", Cond.fieldLink RX2 24 "ForkedStamps$State" "senders" "[I", Cond.fieldLink RX2 21 "ForkedStamps$State" "messages" "[LForkedStamps$Stamp;", Cond.fieldLink RX2 41 "ForkedStamps$State" "messageCount" "I", Cond.fieldLink RX2 27 "ForkedStamps$State" "actors" "[I", Cond.fieldLink RX2 45 "ForkedStamps$State" "eventCount" "I", Cond.methodLink RX2 37 yX1_become, Cond.instanceMethod yX1_become, Cond.selects RX1 yX1_become yX1_become, Cond.initialized RX1, Cond.code yX1_become cX1_become 2 none, Cond.fieldLink RX1 9 "ForkedStamps$Stamp" "heights" "[I", Cond.methodLink RX1 15 arraycopyName, Cond.fieldLink RX1 21 "ForkedStamps$Stamp" "knownEarly" "J", Cond.fieldLink RX1 25 "ForkedStamps$Stamp" "knownLate" "J", Cond.methodLink RX3 74 yX2_merge, Cond.instanceMethod yX2_merge, Cond.selects RX2 yX2_merge yX2_merge, Cond.code yX2_merge cX2_merge 3 none, Cond.methodLink RX2 65 yX1_takeOver, Cond.instanceMethod yX1_takeOver]
def wsX3_gather_r3 : List Cond := [Cond.selects RX1 yX1_takeOver yX1_takeOver, Cond.code yX1_takeOver cX1_takeOver 3 none, Cond.methodLink RX1 28 Lib.Math.max.name, Cond.static Lib.Math.max.name, Cond.initialized "java/lang/Math", Cond.code Lib.Math.max.name Lib.Math.max.code 2 (some .int), Cond.methodLink RX3 61 yJ6_bitCount_0f7a4, Cond.static yJ6_bitCount_0f7a4, Cond.initialized RJ6, Cond.code yJ6_bitCount_0f7a4 cJ6_bitCount_0f7a4 1 (some .int), Cond.constant RJ6 265 (1431655765), Cond.constant RJ6 266 (858993459), Cond.constant RJ6 267 (252645135)]
def wsX3_gather : List Cond := .code yX3_gather cX3_gather 3 (some .int) :: ((wsX3_gather_r1 ++ (wsX3_gather_r2 ++ wsX3_gather_r3)) ++ wsX30 ++ wsX20 ++ wsX10)
def wsX3_event_r1 : List Cond := [Cond.fieldLink RX3 10 "ForkedStamps" "now" "LForkedStamps$State;", Cond.fieldLink RX3 77 "ForkedStamps$State" "eventCount" "I", Cond.methodLink RX3 53 yX2_isHelper, Cond.instanceMethod yX2_isHelper, Cond.selects RX2 yX2_isHelper yX2_isHelper, Cond.initialized RX2, Cond.code yX2_isHelper cX2_isHelper 2 (some .boolean), Cond.fieldLink RX2 9 "ForkedStamps$State" "shares" "[I", Cond.methodLink RX3 67 yX3_remember, Cond.instanceMethod yX3_remember, Cond.selects RX3 yX3_remember yX3_remember, Cond.initialized RX3, Cond.code yX3_remember cX3_remember 1 none, Cond.fieldLink RX3 163 "ForkedStamps" "historyCount" "I", Cond.fieldLink RX3 16 "ForkedStamps" "history" "[LForkedStamps$State;", Cond.methodLink RX3 209 yX3_forgetOldest, Cond.instanceMethod yX3_forgetOldest, Cond.selects RX3 yX3_forgetOldest yX3_forgetOldest, Cond.code yX3_forgetOldest cX3_forgetOldest 3 none, Cond.methodLink RX3 203 yX2_become, Cond.instanceMethod yX2_become, Cond.selects RX2 yX2_become yX2_become, Cond.code yX2_become cX2_become 3 none, Cond.methodLink RX2 31 arraycopyName]
def wsX3_event_r2 : List Cond := [Cond.native arraycopyName, Cond.static arraycopyName, Cond.initialized "java/lang/System", Cond.fieldLink RX2 17 "ForkedStamps$State" "helpers" "[LForkedStamps$Stamp;", Cond.fieldLink RX2 24 "ForkedStamps$State" "senders" "[I", Cond.fieldLink RX2 21 "ForkedStamps$State" "messages" "[LForkedStamps$Stamp;", Cond.fieldLink RX2 41 "ForkedStamps$State" "messageCount" "I", Cond.fieldLink RX2 27 "ForkedStamps$State" "actors" "[I", Cond.fieldLink RX2 45 "ForkedStamps$State" "eventCount" "I", Cond.methodLink RX2 37 yX1_become, Cond.instanceMethod yX1_become, Cond.selects RX1 yX1_become yX1_become, Cond.initialized RX1, Cond.code yX1_become cX1_become 2 none, Cond.fieldLink RX1 9 "ForkedStamps$Stamp" "heights" "[I", Cond.methodLink RX1 15 arraycopyName, Cond.fieldLink RX1 21 "ForkedStamps$Stamp" "knownEarly" "J", Cond.fieldLink RX1 25 "ForkedStamps$Stamp" "knownLate" "J", Cond.methodLink RX3 81 yX2_addEvent, Cond.instanceMethod yX2_addEvent, Cond.selects RX2 yX2_addEvent yX2_addEvent, Cond.code yX2_addEvent cX2_addEvent 3 (some .int), Cond.methodLink RX2 68 yX1_raise, Cond.instanceMethod yX1_raise]
def wsX3_event_r3 : List Cond := [Cond.selects RX1 yX1_raise yX1_raise, Cond.code yX1_raise cX1_raise 5 none, Cond.methodLink RX1 34 yX1_greatestIn, Cond.instanceMethod yX1_greatestIn, Cond.selects RX1 yX1_greatestIn yX1_greatestIn, Cond.code yX1_greatestIn cX1_greatestIn 4 (some .int), Cond.methodLink RX1 28 Lib.Math.max.name, Cond.static Lib.Math.max.name, Cond.initialized "java/lang/Math", Cond.code Lib.Math.max.name Lib.Math.max.code 2 (some .int), Cond.methodLink RX1 42 yX1_isIn, Cond.static yX1_isIn, Cond.code yX1_isIn cX1_isIn 2 (some .boolean), Cond.methodLink RX1 38 yX1_isLevel, Cond.instanceMethod yX1_isLevel, Cond.selects RX1 yX1_isLevel yX1_isLevel, Cond.code yX1_isLevel cX1_isLevel 4 (some .boolean), Cond.methodLink RX2 72 yX1_learn, Cond.instanceMethod yX1_learn, Cond.selects RX1 yX1_learn yX1_learn, Cond.code yX1_learn cX1_learn 2 none]
def wsX3_event : List Cond := .code yX3_event cX3_event 2 (some .int) :: ((wsX3_event_r1 ++ (wsX3_event_r2 ++ wsX3_event_r3)) ++ wsX30 ++ wsX20 ++ wsX10)
def wsX3_send_r1 : List Cond := [Cond.fieldLink RX3 10 "ForkedStamps" "now" "LForkedStamps$State;", Cond.fieldLink RX3 84 "ForkedStamps$State" "messageCount" "I", Cond.methodLink RX3 53 yX2_isHelper, Cond.instanceMethod yX2_isHelper, Cond.selects RX2 yX2_isHelper yX2_isHelper, Cond.initialized RX2, Cond.code yX2_isHelper cX2_isHelper 2 (some .boolean), Cond.fieldLink RX2 9 "ForkedStamps$State" "shares" "[I", Cond.methodLink RX3 67 yX3_remember, Cond.instanceMethod yX3_remember, Cond.selects RX3 yX3_remember yX3_remember, Cond.initialized RX3, Cond.code yX3_remember cX3_remember 1 none, Cond.fieldLink RX3 163 "ForkedStamps" "historyCount" "I", Cond.fieldLink RX3 16 "ForkedStamps" "history" "[LForkedStamps$State;", Cond.methodLink RX3 209 yX3_forgetOldest, Cond.instanceMethod yX3_forgetOldest, Cond.selects RX3 yX3_forgetOldest yX3_forgetOldest, Cond.code yX3_forgetOldest cX3_forgetOldest 3 none, Cond.methodLink RX3 203 yX2_become, Cond.instanceMethod yX2_become, Cond.selects RX2 yX2_become yX2_become, Cond.code yX2_become cX2_become 3 none, Cond.methodLink RX2 31 arraycopyName]
def wsX3_send_r2 : List Cond := [Cond.native arraycopyName, Cond.static arraycopyName, Cond.initialized "java/lang/System", Cond.fieldLink RX2 17 "ForkedStamps$State" "helpers" "[LForkedStamps$Stamp;", Cond.fieldLink RX2 24 "ForkedStamps$State" "senders" "[I", Cond.fieldLink RX2 21 "ForkedStamps$State" "messages" "[LForkedStamps$Stamp;", Cond.fieldLink RX2 41 "ForkedStamps$State" "messageCount" "I", Cond.fieldLink RX2 27 "ForkedStamps$State" "actors" "[I", Cond.fieldLink RX2 45 "ForkedStamps$State" "eventCount" "I", Cond.methodLink RX2 37 yX1_become, Cond.instanceMethod yX1_become, Cond.selects RX1 yX1_become yX1_become, Cond.initialized RX1, Cond.code yX1_become cX1_become 2 none, Cond.fieldLink RX1 9 "ForkedStamps$Stamp" "heights" "[I", Cond.methodLink RX1 15 arraycopyName, Cond.fieldLink RX1 21 "ForkedStamps$Stamp" "knownEarly" "J", Cond.fieldLink RX1 25 "ForkedStamps$Stamp" "knownLate" "J", Cond.methodLink RX3 87 yX2_addMessage, Cond.instanceMethod yX2_addMessage, Cond.selects RX2 yX2_addMessage yX2_addMessage, Cond.code yX2_addMessage cX2_addMessage 3 (some .int)]
def wsX3_send : List Cond := .code yX3_send cX3_send 2 (some .int) :: ((wsX3_send_r1 ++ wsX3_send_r2) ++ wsX30 ++ wsX20 ++ wsX10)
def wsX3_receive_r1 : List Cond := [Cond.fieldLink RX3 10 "ForkedStamps" "now" "LForkedStamps$State;", Cond.fieldLink RX3 77 "ForkedStamps$State" "eventCount" "I", Cond.fieldLink RX3 93 "ForkedStamps$State" "helpers" "[LForkedStamps$Stamp;", Cond.fieldLink RX3 97 "ForkedStamps$State" "messages" "[LForkedStamps$Stamp;", Cond.methodLink RX3 53 yX2_isHelper, Cond.instanceMethod yX2_isHelper, Cond.selects RX2 yX2_isHelper yX2_isHelper, Cond.initialized RX2, Cond.code yX2_isHelper cX2_isHelper 2 (some .boolean), Cond.fieldLink RX2 9 "ForkedStamps$State" "shares" "[I", Cond.methodLink RX3 90 yX2_isMessage, Cond.instanceMethod yX2_isMessage, Cond.selects RX2 yX2_isMessage yX2_isMessage, Cond.code yX2_isMessage cX2_isMessage 2 (some .boolean), Cond.fieldLink RX2 41 "ForkedStamps$State" "messageCount" "I", Cond.methodLink RX3 67 yX3_remember, Cond.instanceMethod yX3_remember, Cond.selects RX3 yX3_remember yX3_remember, Cond.initialized RX3, Cond.code yX3_remember cX3_remember 1 none, Cond.fieldLink RX3 163 "ForkedStamps" "historyCount" "I", Cond.fieldLink RX3 16 "ForkedStamps" "history" "[LForkedStamps$State;", Cond.methodLink RX3 209 yX3_forgetOldest, Cond.instanceMethod yX3_forgetOldest]
def wsX3_receive_r2 : List Cond := [Cond.selects RX3 yX3_forgetOldest yX3_forgetOldest, Cond.code yX3_forgetOldest cX3_forgetOldest 3 none, Cond.methodLink RX3 203 yX2_become, Cond.instanceMethod yX2_become, Cond.selects RX2 yX2_become yX2_become, Cond.code yX2_become cX2_become 3 none, Cond.methodLink RX2 31 arraycopyName, Cond.native arraycopyName, Cond.static arraycopyName, Cond.initialized "java/lang/System", Cond.fieldLink RX2 17 "ForkedStamps$State" "helpers" "[LForkedStamps$Stamp;", Cond.fieldLink RX2 24 "ForkedStamps$State" "senders" "[I", Cond.fieldLink RX2 21 "ForkedStamps$State" "messages" "[LForkedStamps$Stamp;", Cond.fieldLink RX2 27 "ForkedStamps$State" "actors" "[I", Cond.fieldLink RX2 45 "ForkedStamps$State" "eventCount" "I", Cond.methodLink RX2 37 yX1_become, Cond.instanceMethod yX1_become, Cond.selects RX1 yX1_become yX1_become, Cond.initialized RX1, Cond.code yX1_become cX1_become 2 none, Cond.fieldLink RX1 9 "ForkedStamps$Stamp" "heights" "[I", Cond.methodLink RX1 15 arraycopyName, Cond.fieldLink RX1 21 "ForkedStamps$Stamp" "knownEarly" "J", Cond.fieldLink RX1 25 "ForkedStamps$Stamp" "knownLate" "J"]
def wsX3_receive_r3 : List Cond := [Cond.methodLink RX3 100 yX1_takeOver, Cond.instanceMethod yX1_takeOver, Cond.selects RX1 yX1_takeOver yX1_takeOver, Cond.code yX1_takeOver cX1_takeOver 3 none, Cond.methodLink RX1 28 Lib.Math.max.name, Cond.static Lib.Math.max.name, Cond.initialized "java/lang/Math", Cond.code Lib.Math.max.name Lib.Math.max.code 2 (some .int), Cond.methodLink RX3 81 yX2_addEvent, Cond.instanceMethod yX2_addEvent, Cond.selects RX2 yX2_addEvent yX2_addEvent, Cond.code yX2_addEvent cX2_addEvent 3 (some .int), Cond.methodLink RX2 68 yX1_raise, Cond.instanceMethod yX1_raise, Cond.selects RX1 yX1_raise yX1_raise, Cond.code yX1_raise cX1_raise 5 none, Cond.methodLink RX1 34 yX1_greatestIn, Cond.instanceMethod yX1_greatestIn, Cond.selects RX1 yX1_greatestIn yX1_greatestIn, Cond.code yX1_greatestIn cX1_greatestIn 4 (some .int), Cond.methodLink RX1 42 yX1_isIn, Cond.static yX1_isIn, Cond.code yX1_isIn cX1_isIn 2 (some .boolean), Cond.methodLink RX1 38 yX1_isLevel]
def wsX3_receive_r4 : List Cond := [Cond.instanceMethod yX1_isLevel, Cond.selects RX1 yX1_isLevel yX1_isLevel, Cond.code yX1_isLevel cX1_isLevel 4 (some .boolean), Cond.methodLink RX2 72 yX1_learn, Cond.instanceMethod yX1_learn, Cond.selects RX1 yX1_learn yX1_learn, Cond.code yX1_learn cX1_learn 2 none]
def wsX3_receive : List Cond := .code yX3_receive cX3_receive 3 (some .int) :: ((wsX3_receive_r1 ++ (wsX3_receive_r2 ++ (wsX3_receive_r3 ++ wsX3_receive_r4))) ++ wsX30 ++ wsX20 ++ wsX10)
def wsX3_drop_r1 : List Cond := [Cond.fieldLink RX3 10 "ForkedStamps" "now" "LForkedStamps$State;", Cond.fieldLink RX3 84 "ForkedStamps$State" "messageCount" "I", Cond.methodLink RX3 90 yX2_isMessage, Cond.instanceMethod yX2_isMessage, Cond.selects RX2 yX2_isMessage yX2_isMessage, Cond.initialized RX2, Cond.code yX2_isMessage cX2_isMessage 2 (some .boolean), Cond.fieldLink RX2 41 "ForkedStamps$State" "messageCount" "I", Cond.methodLink RX3 67 yX3_remember, Cond.instanceMethod yX3_remember, Cond.selects RX3 yX3_remember yX3_remember, Cond.initialized RX3, Cond.code yX3_remember cX3_remember 1 none, Cond.fieldLink RX3 163 "ForkedStamps" "historyCount" "I", Cond.fieldLink RX3 16 "ForkedStamps" "history" "[LForkedStamps$State;", Cond.methodLink RX3 209 yX3_forgetOldest, Cond.instanceMethod yX3_forgetOldest, Cond.selects RX3 yX3_forgetOldest yX3_forgetOldest, Cond.code yX3_forgetOldest cX3_forgetOldest 3 none, Cond.methodLink RX3 203 yX2_become, Cond.instanceMethod yX2_become, Cond.selects RX2 yX2_become yX2_become, Cond.code yX2_become cX2_become 3 none, Cond.fieldLink RX2 9 "ForkedStamps$State" "shares" "[I"]
def wsX3_drop_r2 : List Cond := [Cond.methodLink RX2 31 arraycopyName, Cond.native arraycopyName, Cond.static arraycopyName, Cond.initialized "java/lang/System", Cond.fieldLink RX2 17 "ForkedStamps$State" "helpers" "[LForkedStamps$Stamp;", Cond.fieldLink RX2 24 "ForkedStamps$State" "senders" "[I", Cond.fieldLink RX2 21 "ForkedStamps$State" "messages" "[LForkedStamps$Stamp;", Cond.fieldLink RX2 27 "ForkedStamps$State" "actors" "[I", Cond.fieldLink RX2 45 "ForkedStamps$State" "eventCount" "I", Cond.methodLink RX2 37 yX1_become, Cond.instanceMethod yX1_become, Cond.selects RX1 yX1_become yX1_become, Cond.initialized RX1, Cond.code yX1_become cX1_become 2 none, Cond.fieldLink RX1 9 "ForkedStamps$Stamp" "heights" "[I", Cond.methodLink RX1 15 arraycopyName, Cond.fieldLink RX1 21 "ForkedStamps$Stamp" "knownEarly" "J", Cond.fieldLink RX1 25 "ForkedStamps$Stamp" "knownLate" "J", Cond.methodLink RX3 104 yX2_removeMessage, Cond.instanceMethod yX2_removeMessage, Cond.selects RX2 yX2_removeMessage yX2_removeMessage, Cond.code yX2_removeMessage cX2_removeMessage 3 none]
def wsX3_drop : List Cond := .code yX3_drop cX3_drop 2 (some .int) :: ((wsX3_drop_r1 ++ wsX3_drop_r2) ++ wsX30 ++ wsX20 ++ wsX10)
def wsJ7_rangeCheck_23922 : List Cond := .code yJ7_rangeCheck_23922 cJ7_rangeCheck_23922 3 none :: ([])
def wsJ7_fill_eb02e : List Cond := .code yJ7_fill_eb02e cJ7_fill_eb02e 5 none :: ([.methodLink RJ7 13 yJ7_rangeCheck_23922, .static yJ7_rangeCheck_23922, .initialized RJ7, .code yJ7_rangeCheck_23922 cJ7_rangeCheck_23922 3 none])
def wsJ1_fillNull_b72d1 : List Cond := .code yJ1_fillNull_b72d1 cJ1_fillNull_b72d1 3 none :: ([.methodLink RJ1 236 yJ7_fill_eb02e, .static yJ7_fill_eb02e, .initialized RJ7, .code yJ7_fill_eb02e cJ7_fill_eb02e 5 none, .methodLink RJ7 13 yJ7_rangeCheck_23922, .static yJ7_rangeCheck_23922, .code yJ7_rangeCheck_23922 cJ7_rangeCheck_23922 3 none])
def wsJ2_fillNull_b72d1 : List Cond := .code yJ2_fillNull_b72d1 cJ2_fillNull_b72d1 3 none :: ([.methodLink RJ2 380 yJ7_fill_eb02e, .static yJ7_fill_eb02e, .initialized RJ7, .code yJ7_fill_eb02e cJ7_fill_eb02e 5 none, .methodLink RJ7 13 yJ7_rangeCheck_23922, .static yJ7_rangeCheck_23922, .code yJ7_rangeCheck_23922 cJ7_rangeCheck_23922 3 none])
def wsJ5_setLength_d00df_r1 : List Cond := [Cond.fieldLink RJ5 79 "java/lang/AbstractStringBuilder" "count" "I", Cond.fieldLink RJ5 15 "java/lang/AbstractStringBuilder" "value" "[B", Cond.fieldLink RJ5 73 "java/lang/AbstractStringBuilder" "maybeLatin1" "Z", Cond.methodLink RJ5 100 ⟨"java/lang/AbstractStringBuilder", "ensureCapacityInternal", "(I)V"⟩, Cond.sameMethod "java/lang/AbstractStringBuilder" "java/lang/AbstractStringBuilder" "ensureCapacityInternal" "(I)V", Cond.selects RJ4 ⟨"java/lang/AbstractStringBuilder", "ensureCapacityInternal", "(I)V"⟩ yJ5_ensureCapacityInternal_d00df, Cond.instanceMethod yJ5_ensureCapacityInternal_d00df, Cond.initialized RJ5, Cond.code yJ5_ensureCapacityInternal_d00df cJ5_ensureCapacityInternal_d00df 3 none, Cond.fieldLink RJ5 22 "java/lang/AbstractStringBuilder" "coder" "B", Cond.methodLink RJ5 104 ⟨"java/lang/AbstractStringBuilder", "newCapacity", "(I)I"⟩, Cond.sameMethod "java/lang/AbstractStringBuilder" "java/lang/AbstractStringBuilder" "newCapacity" "(I)I", Cond.selects RJ4 ⟨"java/lang/AbstractStringBuilder", "newCapacity", "(I)I"⟩ yJ5_newCapacity_0f7a4, Cond.instanceMethod yJ5_newCapacity_0f7a4, Cond.code yJ5_newCapacity_0f7a4 cJ5_newCapacity_0f7a4 6 (some .int), Cond.constant RJ5 39 (2147483647), Cond.methodLink RJ5 114 yJ8_newLength_cabcc, Cond.static yJ8_newLength_cabcc, Cond.initialized RJ8, Cond.code yJ8_newLength_cabcc cJ8_newLength_cabcc 4 (some .int), Cond.methodLink RJ8 194 Lib.Math.max.name, Cond.static Lib.Math.max.name, Cond.initialized "java/lang/Math", Cond.code Lib.Math.max.name Lib.Math.max.code 2 (some .int)]
def wsJ5_setLength_d00df_r2 : List Cond := [Cond.constant RJ8 200 (2147483639), Cond.methodLink RJ8 201 yJ8_hugeLength_7cf53, Cond.static yJ8_hugeLength_7cf53, Cond.code yJ8_hugeLength_7cf53 cJ8_hugeLength_7cf53 3 (some .int), Cond.methodLink RJ5 108 yJ7_copyOf_9075b, Cond.static yJ7_copyOf_9075b, Cond.initialized RJ7, Cond.code yJ7_copyOf_9075b cJ7_copyOf_9075b 3 (some (.array .byte)), Cond.methodLink RJ7 310 ⟨"[B", "clone", "()Ljava/lang/Object;"⟩, Cond.sameMethod "[B" "java/lang/Object" "clone" "()Ljava/lang/Object;", Cond.native ⟨"java/lang/Object", "clone", "()Ljava/lang/Object;"⟩, Cond.instanceMethod ⟨"java/lang/Object", "clone", "()Ljava/lang/Object;"⟩, Cond.selects "[B" ⟨"[B", "clone", "()Ljava/lang/Object;"⟩ ⟨"java/lang/Object", "clone", "()Ljava/lang/Object;"⟩, Cond.classLink RJ7 311 "[B", Cond.arrayClass .byte, Cond.methodLink RJ7 304 Lib.Math.min.name, Cond.static Lib.Math.min.name, Cond.code Lib.Math.min.name Lib.Math.min.code 2 (some .int), Cond.methodLink RJ7 150 arraycopyName, Cond.native arraycopyName, Cond.static arraycopyName, Cond.initialized "java/lang/System", Cond.methodLink RJ5 83 ⟨"java/lang/AbstractStringBuilder", "isLatin1", "()Z"⟩, Cond.sameMethod "java/lang/AbstractStringBuilder" "java/lang/AbstractStringBuilder" "isLatin1" "()Z"]
def wsJ5_setLength_d00df_r3 : List Cond := [Cond.selects RJ4 ⟨"java/lang/AbstractStringBuilder", "isLatin1", "()Z"⟩ yJ5_isLatin1_aae02, Cond.instanceMethod yJ5_isLatin1_aae02, Cond.code yJ5_isLatin1_aae02 cJ5_isLatin1_aae02 1 (some .boolean), Cond.fieldLink RJ5 18 "java/lang/String" "COMPACT_STRINGS" "Z", Cond.methodLink RJ5 133 yJ1_fillNull_b72d1, Cond.static yJ1_fillNull_b72d1, Cond.initialized RJ1, Cond.code yJ1_fillNull_b72d1 cJ1_fillNull_b72d1 3 none, Cond.methodLink RJ1 236 yJ7_fill_eb02e, Cond.static yJ7_fill_eb02e, Cond.code yJ7_fill_eb02e cJ7_fill_eb02e 5 none, Cond.methodLink RJ7 13 yJ7_rangeCheck_23922, Cond.static yJ7_rangeCheck_23922, Cond.code yJ7_rangeCheck_23922 cJ7_rangeCheck_23922 3 none, Cond.methodLink RJ5 137 yJ2_fillNull_b72d1, Cond.static yJ2_fillNull_b72d1, Cond.initialized RJ2, Cond.code yJ2_fillNull_b72d1 cJ2_fillNull_b72d1 3 none, Cond.methodLink RJ2 380 yJ7_fill_eb02e]
def wsJ5_setLength_d00df : List Cond := .code yJ5_setLength_d00df cJ5_setLength_d00df 2 none :: ((wsJ5_setLength_d00df_r1 ++ (wsJ5_setLength_d00df_r2 ++ wsJ5_setLength_d00df_r3)) ++ wsJ40)
def wsJ4_setLength_d00df_r1 : List Cond := [Cond.methodLink RJ4 333 yJ5_setLength_d00df, Cond.sameMethod "java/lang/AbstractStringBuilder" "java/lang/AbstractStringBuilder" "setLength" "(I)V", Cond.superclass RJ4 RJ5, Cond.instanceMethod yJ5_setLength_d00df, Cond.initialized RJ5, Cond.code yJ5_setLength_d00df cJ5_setLength_d00df 2 none, Cond.fieldLink RJ5 79 "java/lang/AbstractStringBuilder" "count" "I", Cond.fieldLink RJ5 15 "java/lang/AbstractStringBuilder" "value" "[B", Cond.fieldLink RJ5 73 "java/lang/AbstractStringBuilder" "maybeLatin1" "Z", Cond.methodLink RJ5 100 ⟨"java/lang/AbstractStringBuilder", "ensureCapacityInternal", "(I)V"⟩, Cond.sameMethod "java/lang/AbstractStringBuilder" "java/lang/AbstractStringBuilder" "ensureCapacityInternal" "(I)V", Cond.selects RJ4 ⟨"java/lang/AbstractStringBuilder", "ensureCapacityInternal", "(I)V"⟩ yJ5_ensureCapacityInternal_d00df, Cond.instanceMethod yJ5_ensureCapacityInternal_d00df, Cond.code yJ5_ensureCapacityInternal_d00df cJ5_ensureCapacityInternal_d00df 3 none, Cond.fieldLink RJ5 22 "java/lang/AbstractStringBuilder" "coder" "B", Cond.methodLink RJ5 104 ⟨"java/lang/AbstractStringBuilder", "newCapacity", "(I)I"⟩, Cond.sameMethod "java/lang/AbstractStringBuilder" "java/lang/AbstractStringBuilder" "newCapacity" "(I)I", Cond.selects RJ4 ⟨"java/lang/AbstractStringBuilder", "newCapacity", "(I)I"⟩ yJ5_newCapacity_0f7a4, Cond.instanceMethod yJ5_newCapacity_0f7a4, Cond.code yJ5_newCapacity_0f7a4 cJ5_newCapacity_0f7a4 6 (some .int), Cond.constant RJ5 39 (2147483647), Cond.methodLink RJ5 114 yJ8_newLength_cabcc, Cond.static yJ8_newLength_cabcc, Cond.initialized RJ8]
def wsJ4_setLength_d00df_r2 : List Cond := [Cond.code yJ8_newLength_cabcc cJ8_newLength_cabcc 4 (some .int), Cond.methodLink RJ8 194 Lib.Math.max.name, Cond.static Lib.Math.max.name, Cond.initialized "java/lang/Math", Cond.code Lib.Math.max.name Lib.Math.max.code 2 (some .int), Cond.constant RJ8 200 (2147483639), Cond.methodLink RJ8 201 yJ8_hugeLength_7cf53, Cond.static yJ8_hugeLength_7cf53, Cond.code yJ8_hugeLength_7cf53 cJ8_hugeLength_7cf53 3 (some .int), Cond.methodLink RJ5 108 yJ7_copyOf_9075b, Cond.static yJ7_copyOf_9075b, Cond.initialized RJ7, Cond.code yJ7_copyOf_9075b cJ7_copyOf_9075b 3 (some (.array .byte)), Cond.methodLink RJ7 310 ⟨"[B", "clone", "()Ljava/lang/Object;"⟩, Cond.sameMethod "[B" "java/lang/Object" "clone" "()Ljava/lang/Object;", Cond.native ⟨"java/lang/Object", "clone", "()Ljava/lang/Object;"⟩, Cond.instanceMethod ⟨"java/lang/Object", "clone", "()Ljava/lang/Object;"⟩, Cond.selects "[B" ⟨"[B", "clone", "()Ljava/lang/Object;"⟩ ⟨"java/lang/Object", "clone", "()Ljava/lang/Object;"⟩, Cond.classLink RJ7 311 "[B", Cond.arrayClass .byte, Cond.methodLink RJ7 304 Lib.Math.min.name, Cond.static Lib.Math.min.name, Cond.code Lib.Math.min.name Lib.Math.min.code 2 (some .int), Cond.methodLink RJ7 150 arraycopyName]
def wsJ4_setLength_d00df_r3 : List Cond := [Cond.native arraycopyName, Cond.static arraycopyName, Cond.initialized "java/lang/System", Cond.methodLink RJ5 83 ⟨"java/lang/AbstractStringBuilder", "isLatin1", "()Z"⟩, Cond.sameMethod "java/lang/AbstractStringBuilder" "java/lang/AbstractStringBuilder" "isLatin1" "()Z", Cond.selects RJ4 ⟨"java/lang/AbstractStringBuilder", "isLatin1", "()Z"⟩ yJ5_isLatin1_aae02, Cond.instanceMethod yJ5_isLatin1_aae02, Cond.code yJ5_isLatin1_aae02 cJ5_isLatin1_aae02 1 (some .boolean), Cond.fieldLink RJ5 18 "java/lang/String" "COMPACT_STRINGS" "Z", Cond.methodLink RJ5 133 yJ1_fillNull_b72d1, Cond.static yJ1_fillNull_b72d1, Cond.initialized RJ1, Cond.code yJ1_fillNull_b72d1 cJ1_fillNull_b72d1 3 none, Cond.methodLink RJ1 236 yJ7_fill_eb02e, Cond.static yJ7_fill_eb02e, Cond.code yJ7_fill_eb02e cJ7_fill_eb02e 5 none, Cond.methodLink RJ7 13 yJ7_rangeCheck_23922, Cond.static yJ7_rangeCheck_23922, Cond.code yJ7_rangeCheck_23922 cJ7_rangeCheck_23922 3 none, Cond.methodLink RJ5 137 yJ2_fillNull_b72d1, Cond.static yJ2_fillNull_b72d1, Cond.initialized RJ2, Cond.code yJ2_fillNull_b72d1 cJ2_fillNull_b72d1 3 none, Cond.methodLink RJ2 380 yJ7_fill_eb02e]
def wsJ4_setLength_d00df : List Cond := .code yJ4_setLength_d00df cJ4_setLength_d00df 2 none :: ((wsJ4_setLength_d00df_r1 ++ (wsJ4_setLength_d00df_r2 ++ wsJ4_setLength_d00df_r3)) ++ wsJ40)
def wsX3_textOf_r1 : List Cond := [Cond.fieldLink RX3 44 "ForkedStamps" "text" "Ljava/lang/StringBuilder;", Cond.methodLink RX3 212 yJ4_setLength_d00df, Cond.instanceMethod yJ4_setLength_d00df, Cond.selects RJ4 yJ4_setLength_d00df yJ4_setLength_d00df, Cond.initialized RJ4, Cond.code yJ4_setLength_d00df cJ4_setLength_d00df 2 none, Cond.methodLink RJ4 333 yJ5_setLength_d00df, Cond.sameMethod "java/lang/AbstractStringBuilder" "java/lang/AbstractStringBuilder" "setLength" "(I)V", Cond.superclass RJ4 RJ5, Cond.instanceMethod yJ5_setLength_d00df, Cond.initialized RJ5, Cond.code yJ5_setLength_d00df cJ5_setLength_d00df 2 none, Cond.fieldLink RJ5 79 "java/lang/AbstractStringBuilder" "count" "I", Cond.fieldLink RJ5 15 "java/lang/AbstractStringBuilder" "value" "[B", Cond.fieldLink RJ5 73 "java/lang/AbstractStringBuilder" "maybeLatin1" "Z", Cond.methodLink RJ5 100 ⟨"java/lang/AbstractStringBuilder", "ensureCapacityInternal", "(I)V"⟩, Cond.sameMethod "java/lang/AbstractStringBuilder" "java/lang/AbstractStringBuilder" "ensureCapacityInternal" "(I)V", Cond.selects RJ4 ⟨"java/lang/AbstractStringBuilder", "ensureCapacityInternal", "(I)V"⟩ yJ5_ensureCapacityInternal_d00df, Cond.instanceMethod yJ5_ensureCapacityInternal_d00df, Cond.code yJ5_ensureCapacityInternal_d00df cJ5_ensureCapacityInternal_d00df 3 none, Cond.fieldLink RJ5 22 "java/lang/AbstractStringBuilder" "coder" "B", Cond.methodLink RJ5 104 ⟨"java/lang/AbstractStringBuilder", "newCapacity", "(I)I"⟩, Cond.sameMethod "java/lang/AbstractStringBuilder" "java/lang/AbstractStringBuilder" "newCapacity" "(I)I", Cond.selects RJ4 ⟨"java/lang/AbstractStringBuilder", "newCapacity", "(I)I"⟩ yJ5_newCapacity_0f7a4]
def wsX3_textOf_r2 : List Cond := [Cond.instanceMethod yJ5_newCapacity_0f7a4, Cond.code yJ5_newCapacity_0f7a4 cJ5_newCapacity_0f7a4 6 (some .int), Cond.constant RJ5 39 (2147483647), Cond.methodLink RJ5 114 yJ8_newLength_cabcc, Cond.static yJ8_newLength_cabcc, Cond.initialized RJ8, Cond.code yJ8_newLength_cabcc cJ8_newLength_cabcc 4 (some .int), Cond.methodLink RJ8 194 Lib.Math.max.name, Cond.static Lib.Math.max.name, Cond.initialized "java/lang/Math", Cond.code Lib.Math.max.name Lib.Math.max.code 2 (some .int), Cond.constant RJ8 200 (2147483639), Cond.methodLink RJ8 201 yJ8_hugeLength_7cf53, Cond.static yJ8_hugeLength_7cf53, Cond.code yJ8_hugeLength_7cf53 cJ8_hugeLength_7cf53 3 (some .int), Cond.methodLink RJ5 108 yJ7_copyOf_9075b, Cond.static yJ7_copyOf_9075b, Cond.initialized RJ7, Cond.code yJ7_copyOf_9075b cJ7_copyOf_9075b 3 (some (.array .byte)), Cond.methodLink RJ7 310 ⟨"[B", "clone", "()Ljava/lang/Object;"⟩, Cond.sameMethod "[B" "java/lang/Object" "clone" "()Ljava/lang/Object;", Cond.native ⟨"java/lang/Object", "clone", "()Ljava/lang/Object;"⟩, Cond.instanceMethod ⟨"java/lang/Object", "clone", "()Ljava/lang/Object;"⟩, Cond.selects "[B" ⟨"[B", "clone", "()Ljava/lang/Object;"⟩ ⟨"java/lang/Object", "clone", "()Ljava/lang/Object;"⟩]
def wsX3_textOf_r3 : List Cond := [Cond.classLink RJ7 311 "[B", Cond.arrayClass .byte, Cond.methodLink RJ7 304 Lib.Math.min.name, Cond.static Lib.Math.min.name, Cond.code Lib.Math.min.name Lib.Math.min.code 2 (some .int), Cond.methodLink RJ7 150 arraycopyName, Cond.native arraycopyName, Cond.static arraycopyName, Cond.initialized "java/lang/System", Cond.methodLink RJ5 83 ⟨"java/lang/AbstractStringBuilder", "isLatin1", "()Z"⟩, Cond.sameMethod "java/lang/AbstractStringBuilder" "java/lang/AbstractStringBuilder" "isLatin1" "()Z", Cond.selects RJ4 ⟨"java/lang/AbstractStringBuilder", "isLatin1", "()Z"⟩ yJ5_isLatin1_aae02, Cond.instanceMethod yJ5_isLatin1_aae02, Cond.code yJ5_isLatin1_aae02 cJ5_isLatin1_aae02 1 (some .boolean), Cond.fieldLink RJ5 18 "java/lang/String" "COMPACT_STRINGS" "Z", Cond.methodLink RJ5 133 yJ1_fillNull_b72d1, Cond.static yJ1_fillNull_b72d1, Cond.initialized RJ1, Cond.code yJ1_fillNull_b72d1 cJ1_fillNull_b72d1 3 none, Cond.methodLink RJ1 236 yJ7_fill_eb02e, Cond.static yJ7_fill_eb02e, Cond.code yJ7_fill_eb02e cJ7_fill_eb02e 5 none, Cond.methodLink RJ7 13 yJ7_rangeCheck_23922, Cond.static yJ7_rangeCheck_23922]
def wsX3_textOf_r4 : List Cond := [Cond.code yJ7_rangeCheck_23922 cJ7_rangeCheck_23922 3 none, Cond.methodLink RJ5 137 yJ2_fillNull_b72d1, Cond.static yJ2_fillNull_b72d1, Cond.initialized RJ2, Cond.code yJ2_fillNull_b72d1 cJ2_fillNull_b72d1 3 none, Cond.methodLink RJ2 380 yJ7_fill_eb02e, Cond.methodLink RX3 215 yX1_print, Cond.instanceMethod yX1_print, Cond.selects RX1 yX1_print yX1_print, Cond.initialized RX1, Cond.code yX1_print cX1_print 2 none, Cond.fieldLink RX1 9 "ForkedStamps$Stamp" "heights" "[I", Cond.methodLink RX1 61 yX1_printRow, Cond.static yX1_printRow, Cond.code yX1_printRow cX1_printRow 5 none, Cond.methodLink RX1 65 yX1_isLeaf, Cond.static yX1_isLeaf, Cond.code yX1_isLeaf cX1_isLeaf 4 (some .boolean), Cond.methodLink RX1 69 yJ4_append_bf812, Cond.instanceMethod yJ4_append_bf812, Cond.selects RJ4 yJ4_append_bf812 yJ4_append_bf812, Cond.code yJ4_append_bf812 cJ4_append_bf812 2 (some (.object "java/lang/StringBuilder")), Cond.methodLink RJ4 53 yJ5_append_c97b9, Cond.sameMethod "java/lang/AbstractStringBuilder" "java/lang/AbstractStringBuilder" "append" "(I)Ljava/lang/AbstractStringBuilder;"]
def wsX3_textOf_r5 : List Cond := [Cond.instanceMethod yJ5_append_c97b9, Cond.code yJ5_append_c97b9 cJ5_append_c97b9 4 (some (.object "java/lang/AbstractStringBuilder")), Cond.methodLink RJ5 245 yJ6_stringSize_0f7a4, Cond.static yJ6_stringSize_0f7a4, Cond.initialized RJ6, Cond.code yJ6_stringSize_0f7a4 cJ6_stringSize_0f7a4 4 (some .int), Cond.methodLink RJ5 248 yJ6_getChars_ba4f3, Cond.static yJ6_getChars_ba4f3, Cond.code yJ6_getChars_ba4f3 cJ6_getChars_ba4f3 7 (some .int), Cond.fieldLink RJ6 83 "java/lang/Integer" "DigitOnes" "[B", Cond.fieldLink RJ6 87 "java/lang/Integer" "DigitTens" "[B", Cond.methodLink RJ5 251 yJ2_getChars_46870, Cond.static yJ2_getChars_46870, Cond.code yJ2_getChars_46870 cJ2_getChars_46870 5 (some .int), Cond.fieldLink RJ2 44 "java/lang/StringUTF16" "$assertionsDisabled" "Z", Cond.methodLink RJ2 96 yJ2_checkBoundsBeginEnd_d044e, Cond.static yJ2_checkBoundsBeginEnd_d044e, Cond.code yJ2_checkBoundsBeginEnd_d044e cJ2_checkBoundsBeginEnd_d044e 3 none, Cond.methodLink RJ2 48 yJ2_length_9d52b, Cond.static yJ2_length_9d52b, Cond.code yJ2_length_9d52b cJ2_length_9d52b 1 (some .int), Cond.methodLink RJ2 241 yJ0_checkBoundsBeginEnd_23922, Cond.static yJ0_checkBoundsBeginEnd_23922, Cond.initialized RJ0]
def wsX3_textOf_r6 : List Cond := [Cond.code yJ0_checkBoundsBeginEnd_23922 cJ0_checkBoundsBeginEnd_23922 3 none, Cond.fieldLink RJ0 1053 "jdk/internal/util/Preconditions" "SIOOBE_FORMATTER" "Ljava/util/function/BiFunction;", Cond.methodLink RJ0 1062 yJ3_checkFromToIndex_8c36e, Cond.static yJ3_checkFromToIndex_8c36e, Cond.initialized RJ3, Cond.code yJ3_checkFromToIndex_8c36e cJ3_checkFromToIndex_8c36e 4 (some .int), Cond.methodLink RJ2 393 yJ2_getChars_ba4f3, Cond.static yJ2_getChars_ba4f3, Cond.code yJ2_getChars_ba4f3 cJ2_getChars_ba4f3 7 (some .int), Cond.fieldLink RJ2 403 "java/lang/Integer" "DigitOnes" "[B", Cond.fieldLink RJ2 407 "java/lang/Integer" "DigitTens" "[B", Cond.methodLink RJ2 111 yJ2_putChar_b72d1, Cond.static yJ2_putChar_b72d1, Cond.code yJ2_putChar_b72d1 cJ2_putChar_b72d1 3 none, Cond.fieldLink RJ2 59 "java/lang/StringUTF16" "HI_BYTE_SHIFT" "I", Cond.fieldLink RJ2 63 "java/lang/StringUTF16" "LO_BYTE_SHIFT" "I", Cond.methodLink RX1 75 yJ4_append_cf468, Cond.instanceMethod yJ4_append_cf468, Cond.selects RJ4 yJ4_append_cf468 yJ4_append_cf468, Cond.code yJ4_append_cf468 cJ4_append_cf468 2 (some (.object "java/lang/StringBuilder")), Cond.methodLink RJ4 50 yJ5_append_3fe6f, Cond.sameMethod "java/lang/AbstractStringBuilder" "java/lang/AbstractStringBuilder" "append" "(C)Ljava/lang/AbstractStringBuilder;", Cond.instanceMethod yJ5_append_3fe6f, Cond.code yJ5_append_3fe6f cJ5_append_3fe6f 2 (some (.object "java/lang/AbstractStringBuilder"))]
def wsX3_textOf_r7 : List Cond := [Cond.methodLink RJ5 191 yJ1_canEncode_fc78d, Cond.static yJ1_canEncode_fc78d, Cond.code yJ1_canEncode_fc78d cJ1_canEncode_fc78d 1 (some .boolean), Cond.methodLink RJ5 195 ⟨"java/lang/AbstractStringBuilder", "inflate", "()V"⟩, Cond.sameMethod "java/lang/AbstractStringBuilder" "java/lang/AbstractStringBuilder" "inflate" "()V", Cond.selects RJ4 ⟨"java/lang/AbstractStringBuilder", "inflate", "()V"⟩ yJ5_inflate_da8c8, Cond.instanceMethod yJ5_inflate_da8c8, Cond.code yJ5_inflate_da8c8 cJ5_inflate_da8c8 2 none, Cond.methodLink RJ5 26 yJ2_newBytesFor_77867, Cond.static yJ2_newBytesFor_77867, Cond.code yJ2_newBytesFor_77867 cJ2_newBytesFor_77867 1 (some (.array .byte)), Cond.methodLink RJ2 11 yJ2_newBytesLength_0f7a4, Cond.static yJ2_newBytesLength_0f7a4, Cond.code yJ2_newBytesLength_0f7a4 cJ2_newBytesLength_0f7a4 1 (some .int), Cond.constant RJ2 20 (1073741823), Cond.methodLink RJ5 125 yJ1_inflate_0e8fd, Cond.static yJ1_inflate_0e8fd, Cond.code yJ1_inflate_0e8fd cJ1_inflate_0e8fd 5 none, Cond.methodLink RJ1 240 yJ2_inflate_0e8fd, Cond.static yJ2_inflate_0e8fd, Cond.code yJ2_inflate_0e8fd cJ2_inflate_0e8fd 6 none, Cond.methodLink RJ2 173 yJ2_checkBoundsOffCount_d044e, Cond.static yJ2_checkBoundsOffCount_d044e, Cond.code yJ2_checkBoundsOffCount_d044e cJ2_checkBoundsOffCount_d044e 3 none]
def wsX3_textOf_r8 : List Cond := [Cond.methodLink RJ2 419 yJ0_checkBoundsOffCount_cabcc, Cond.static yJ0_checkBoundsOffCount_cabcc, Cond.code yJ0_checkBoundsOffCount_cabcc cJ0_checkBoundsOffCount_cabcc 3 (some .int), Cond.methodLink RJ0 1065 yJ3_checkFromIndexSize_8c36e, Cond.static yJ3_checkFromIndexSize_8c36e, Cond.code yJ3_checkFromIndexSize_8c36e cJ3_checkFromIndexSize_8c36e 4 (some .int), Cond.methodLink RJ5 197 yJ2_putCharSB_b72d1, Cond.static yJ2_putCharSB_b72d1, Cond.code yJ2_putCharSB_b72d1 cJ2_putCharSB_b72d1 3 none, Cond.methodLink RJ2 67 yJ2_checkIndex_2214a, Cond.static yJ2_checkIndex_2214a, Cond.code yJ2_checkIndex_2214a cJ2_checkIndex_2214a 2 none, Cond.methodLink RJ2 414 yJ0_checkIndex_df160, Cond.static yJ0_checkIndex_df160, Cond.code yJ0_checkIndex_df160 cJ0_checkIndex_df160 2 none, Cond.methodLink RJ0 1059 yJ3_checkIndex_8e157, Cond.static yJ3_checkIndex_8e157, Cond.code yJ3_checkIndex_8e157 cJ3_checkIndex_8e157 3 (some .int)]
def wsX3_textOf : List Cond := .code yX3_textOf cX3_textOf 2 (some (.object "java/lang/StringBuilder")) :: ((wsX3_textOf_r1 ++ (wsX3_textOf_r2 ++ (wsX3_textOf_r3 ++ (wsX3_textOf_r4 ++ (wsX3_textOf_r5 ++ (wsX3_textOf_r6 ++ (wsX3_textOf_r7 ++ wsX3_textOf_r8))))))) ++ wsX30 ++ wsJ40 ++ wsX10)
def wsJ5_length_8abf5 : List Cond := .code yJ5_length_8abf5 cJ5_length_8abf5 1 (some .int) :: ([.fieldLink RJ5 79 "java/lang/AbstractStringBuilder" "count" "I"] ++ wsJ40)
def wsJ4_length_8abf5 : List Cond := .code yJ4_length_8abf5 cJ4_length_8abf5 1 (some .int) :: ([.methodLink RJ4 343 yJ5_length_8abf5, .sameMethod "java/lang/AbstractStringBuilder" "java/lang/AbstractStringBuilder" "length" "()I", .superclass RJ4 RJ5, .instanceMethod yJ5_length_8abf5, .initialized RJ5, .code yJ5_length_8abf5 cJ5_length_8abf5 1 (some .int), .fieldLink RJ5 79 "java/lang/AbstractStringBuilder" "count" "I"] ++ wsJ40)
def wsX3_of_r1 : List Cond := [Cond.fieldLink RX3 10 "ForkedStamps" "now" "LForkedStamps$State;", Cond.fieldLink RX3 93 "ForkedStamps$State" "helpers" "[LForkedStamps$Stamp;", Cond.fieldLink RX3 48 "ForkedStamps$State" "shares" "[I", Cond.constant RX3 52 (65535), Cond.methodLink RX3 53 yX2_isHelper, Cond.instanceMethod yX2_isHelper, Cond.selects RX2 yX2_isHelper yX2_isHelper, Cond.initialized RX2, Cond.code yX2_isHelper cX2_isHelper 2 (some .boolean), Cond.fieldLink RX2 9 "ForkedStamps$State" "shares" "[I", Cond.methodLink RX3 61 yJ6_bitCount_0f7a4, Cond.static yJ6_bitCount_0f7a4, Cond.initialized RJ6, Cond.code yJ6_bitCount_0f7a4 cJ6_bitCount_0f7a4 1 (some .int), Cond.constant RJ6 265 (1431655765), Cond.constant RJ6 266 (858993459), Cond.constant RJ6 267 (252645135), Cond.methodLink RX3 108 yX1_greatestIn, Cond.instanceMethod yX1_greatestIn, Cond.selects RX1 yX1_greatestIn yX1_greatestIn, Cond.initialized RX1, Cond.code yX1_greatestIn cX1_greatestIn 4 (some .int), Cond.fieldLink RX1 9 "ForkedStamps$Stamp" "heights" "[I", Cond.methodLink RX1 28 Lib.Math.max.name]
def wsX3_of_r2 : List Cond := [Cond.static Lib.Math.max.name, Cond.initialized "java/lang/Math", Cond.code Lib.Math.max.name Lib.Math.max.code 2 (some .int), Cond.methodLink RX1 42 yX1_isIn, Cond.static yX1_isIn, Cond.code yX1_isIn cX1_isIn 2 (some .boolean), Cond.methodLink RX3 111 yX1_sum, Cond.instanceMethod yX1_sum, Cond.selects RX1 yX1_sum yX1_sum, Cond.code yX1_sum cX1_sum 6 (some .int), Cond.methodLink RX3 114 yX1_knownCount, Cond.instanceMethod yX1_knownCount, Cond.selects RX1 yX1_knownCount yX1_knownCount, Cond.code yX1_knownCount cX1_knownCount 1 (some .int), Cond.fieldLink RX1 21 "ForkedStamps$Stamp" "knownEarly" "J", Cond.fieldLink RX1 25 "ForkedStamps$Stamp" "knownLate" "J", Cond.methodLink RX1 45 yJ13_bitCount_95d88, Cond.static yJ13_bitCount_95d88, Cond.initialized RJ13, Cond.code yJ13_bitCount_95d88 cJ13_bitCount_95d88 2 (some .int), Cond.constantLong RJ13 314 (6148914691236517205), Cond.constantLong RJ13 316 (3689348814741910323), Cond.constantLong RJ13 318 (1085102592571150095), Cond.methodLink RX3 117 yX1_latestKnown]
def wsX3_of_r3 : List Cond := [Cond.instanceMethod yX1_latestKnown, Cond.selects RX1 yX1_latestKnown yX1_latestKnown, Cond.code yX1_latestKnown cX1_latestKnown 2 (some .int), Cond.methodLink RX1 53 yX1_isKnown, Cond.instanceMethod yX1_isKnown, Cond.selects RX1 yX1_isKnown yX1_isKnown, Cond.code yX1_isKnown cX1_isKnown 4 (some .boolean), Cond.methodLink RX3 120 yX1_knots, Cond.instanceMethod yX1_knots, Cond.selects RX1 yX1_knots yX1_knots, Cond.code yX1_knots cX1_knots 1 (some .int), Cond.methodLink RX1 57 yX1_knotsOfRow, Cond.static yX1_knotsOfRow, Cond.code yX1_knotsOfRow cX1_knotsOfRow 4 (some .int), Cond.methodLink RX1 65 yX1_isLeaf, Cond.static yX1_isLeaf, Cond.code yX1_isLeaf cX1_isLeaf 4 (some .boolean), Cond.methodLink RX3 123 yX3_textOf, Cond.instanceMethod yX3_textOf, Cond.selects RX3 yX3_textOf yX3_textOf, Cond.initialized RX3, Cond.code yX3_textOf cX3_textOf 2 (some (.object "java/lang/StringBuilder")), Cond.fieldLink RX3 44 "ForkedStamps" "text" "Ljava/lang/StringBuilder;", Cond.methodLink RX3 212 yJ4_setLength_d00df]
def wsX3_of_r4 : List Cond := [Cond.instanceMethod yJ4_setLength_d00df, Cond.selects RJ4 yJ4_setLength_d00df yJ4_setLength_d00df, Cond.initialized RJ4, Cond.code yJ4_setLength_d00df cJ4_setLength_d00df 2 none, Cond.methodLink RJ4 333 yJ5_setLength_d00df, Cond.sameMethod "java/lang/AbstractStringBuilder" "java/lang/AbstractStringBuilder" "setLength" "(I)V", Cond.superclass RJ4 RJ5, Cond.instanceMethod yJ5_setLength_d00df, Cond.initialized RJ5, Cond.code yJ5_setLength_d00df cJ5_setLength_d00df 2 none, Cond.fieldLink RJ5 79 "java/lang/AbstractStringBuilder" "count" "I", Cond.fieldLink RJ5 15 "java/lang/AbstractStringBuilder" "value" "[B", Cond.fieldLink RJ5 73 "java/lang/AbstractStringBuilder" "maybeLatin1" "Z", Cond.methodLink RJ5 100 ⟨"java/lang/AbstractStringBuilder", "ensureCapacityInternal", "(I)V"⟩, Cond.sameMethod "java/lang/AbstractStringBuilder" "java/lang/AbstractStringBuilder" "ensureCapacityInternal" "(I)V", Cond.selects RJ4 ⟨"java/lang/AbstractStringBuilder", "ensureCapacityInternal", "(I)V"⟩ yJ5_ensureCapacityInternal_d00df, Cond.instanceMethod yJ5_ensureCapacityInternal_d00df, Cond.code yJ5_ensureCapacityInternal_d00df cJ5_ensureCapacityInternal_d00df 3 none, Cond.fieldLink RJ5 22 "java/lang/AbstractStringBuilder" "coder" "B", Cond.methodLink RJ5 104 ⟨"java/lang/AbstractStringBuilder", "newCapacity", "(I)I"⟩, Cond.sameMethod "java/lang/AbstractStringBuilder" "java/lang/AbstractStringBuilder" "newCapacity" "(I)I", Cond.selects RJ4 ⟨"java/lang/AbstractStringBuilder", "newCapacity", "(I)I"⟩ yJ5_newCapacity_0f7a4, Cond.instanceMethod yJ5_newCapacity_0f7a4, Cond.code yJ5_newCapacity_0f7a4 cJ5_newCapacity_0f7a4 6 (some .int)]
def wsX3_of_r5 : List Cond := [Cond.constant RJ5 39 (2147483647), Cond.methodLink RJ5 114 yJ8_newLength_cabcc, Cond.static yJ8_newLength_cabcc, Cond.initialized RJ8, Cond.code yJ8_newLength_cabcc cJ8_newLength_cabcc 4 (some .int), Cond.methodLink RJ8 194 Lib.Math.max.name, Cond.constant RJ8 200 (2147483639), Cond.methodLink RJ8 201 yJ8_hugeLength_7cf53, Cond.static yJ8_hugeLength_7cf53, Cond.code yJ8_hugeLength_7cf53 cJ8_hugeLength_7cf53 3 (some .int), Cond.methodLink RJ5 108 yJ7_copyOf_9075b, Cond.static yJ7_copyOf_9075b, Cond.initialized RJ7, Cond.code yJ7_copyOf_9075b cJ7_copyOf_9075b 3 (some (.array .byte)), Cond.methodLink RJ7 310 ⟨"[B", "clone", "()Ljava/lang/Object;"⟩, Cond.sameMethod "[B" "java/lang/Object" "clone" "()Ljava/lang/Object;", Cond.native ⟨"java/lang/Object", "clone", "()Ljava/lang/Object;"⟩, Cond.instanceMethod ⟨"java/lang/Object", "clone", "()Ljava/lang/Object;"⟩, Cond.selects "[B" ⟨"[B", "clone", "()Ljava/lang/Object;"⟩ ⟨"java/lang/Object", "clone", "()Ljava/lang/Object;"⟩, Cond.classLink RJ7 311 "[B", Cond.arrayClass .byte, Cond.methodLink RJ7 304 Lib.Math.min.name, Cond.static Lib.Math.min.name, Cond.code Lib.Math.min.name Lib.Math.min.code 2 (some .int)]
def wsX3_of_r6 : List Cond := [Cond.methodLink RJ7 150 arraycopyName, Cond.native arraycopyName, Cond.static arraycopyName, Cond.initialized "java/lang/System", Cond.methodLink RJ5 83 ⟨"java/lang/AbstractStringBuilder", "isLatin1", "()Z"⟩, Cond.sameMethod "java/lang/AbstractStringBuilder" "java/lang/AbstractStringBuilder" "isLatin1" "()Z", Cond.selects RJ4 ⟨"java/lang/AbstractStringBuilder", "isLatin1", "()Z"⟩ yJ5_isLatin1_aae02, Cond.instanceMethod yJ5_isLatin1_aae02, Cond.code yJ5_isLatin1_aae02 cJ5_isLatin1_aae02 1 (some .boolean), Cond.fieldLink RJ5 18 "java/lang/String" "COMPACT_STRINGS" "Z", Cond.methodLink RJ5 133 yJ1_fillNull_b72d1, Cond.static yJ1_fillNull_b72d1, Cond.initialized RJ1, Cond.code yJ1_fillNull_b72d1 cJ1_fillNull_b72d1 3 none, Cond.methodLink RJ1 236 yJ7_fill_eb02e, Cond.static yJ7_fill_eb02e, Cond.code yJ7_fill_eb02e cJ7_fill_eb02e 5 none, Cond.methodLink RJ7 13 yJ7_rangeCheck_23922, Cond.static yJ7_rangeCheck_23922, Cond.code yJ7_rangeCheck_23922 cJ7_rangeCheck_23922 3 none, Cond.methodLink RJ5 137 yJ2_fillNull_b72d1, Cond.static yJ2_fillNull_b72d1, Cond.initialized RJ2, Cond.code yJ2_fillNull_b72d1 cJ2_fillNull_b72d1 3 none]
def wsX3_of_r7 : List Cond := [Cond.methodLink RJ2 380 yJ7_fill_eb02e, Cond.methodLink RX3 215 yX1_print, Cond.instanceMethod yX1_print, Cond.selects RX1 yX1_print yX1_print, Cond.code yX1_print cX1_print 2 none, Cond.methodLink RX1 61 yX1_printRow, Cond.static yX1_printRow, Cond.code yX1_printRow cX1_printRow 5 none, Cond.methodLink RX1 69 yJ4_append_bf812, Cond.instanceMethod yJ4_append_bf812, Cond.selects RJ4 yJ4_append_bf812 yJ4_append_bf812, Cond.code yJ4_append_bf812 cJ4_append_bf812 2 (some (.object "java/lang/StringBuilder")), Cond.methodLink RJ4 53 yJ5_append_c97b9, Cond.sameMethod "java/lang/AbstractStringBuilder" "java/lang/AbstractStringBuilder" "append" "(I)Ljava/lang/AbstractStringBuilder;", Cond.instanceMethod yJ5_append_c97b9, Cond.code yJ5_append_c97b9 cJ5_append_c97b9 4 (some (.object "java/lang/AbstractStringBuilder")), Cond.methodLink RJ5 245 yJ6_stringSize_0f7a4, Cond.static yJ6_stringSize_0f7a4, Cond.code yJ6_stringSize_0f7a4 cJ6_stringSize_0f7a4 4 (some .int), Cond.methodLink RJ5 248 yJ6_getChars_ba4f3, Cond.static yJ6_getChars_ba4f3, Cond.code yJ6_getChars_ba4f3 cJ6_getChars_ba4f3 7 (some .int), Cond.fieldLink RJ6 83 "java/lang/Integer" "DigitOnes" "[B", Cond.fieldLink RJ6 87 "java/lang/Integer" "DigitTens" "[B"]
def wsX3_of_r8 : List Cond := [Cond.methodLink RJ5 251 yJ2_getChars_46870, Cond.static yJ2_getChars_46870, Cond.code yJ2_getChars_46870 cJ2_getChars_46870 5 (some .int), Cond.fieldLink RJ2 44 "java/lang/StringUTF16" "$assertionsDisabled" "Z", Cond.methodLink RJ2 96 yJ2_checkBoundsBeginEnd_d044e, Cond.static yJ2_checkBoundsBeginEnd_d044e, Cond.code yJ2_checkBoundsBeginEnd_d044e cJ2_checkBoundsBeginEnd_d044e 3 none, Cond.methodLink RJ2 48 yJ2_length_9d52b, Cond.static yJ2_length_9d52b, Cond.code yJ2_length_9d52b cJ2_length_9d52b 1 (some .int), Cond.methodLink RJ2 241 yJ0_checkBoundsBeginEnd_23922, Cond.static yJ0_checkBoundsBeginEnd_23922, Cond.initialized RJ0, Cond.code yJ0_checkBoundsBeginEnd_23922 cJ0_checkBoundsBeginEnd_23922 3 none, Cond.fieldLink RJ0 1053 "jdk/internal/util/Preconditions" "SIOOBE_FORMATTER" "Ljava/util/function/BiFunction;", Cond.methodLink RJ0 1062 yJ3_checkFromToIndex_8c36e, Cond.static yJ3_checkFromToIndex_8c36e, Cond.initialized RJ3, Cond.code yJ3_checkFromToIndex_8c36e cJ3_checkFromToIndex_8c36e 4 (some .int), Cond.methodLink RJ2 393 yJ2_getChars_ba4f3, Cond.static yJ2_getChars_ba4f3, Cond.code yJ2_getChars_ba4f3 cJ2_getChars_ba4f3 7 (some .int), Cond.fieldLink RJ2 403 "java/lang/Integer" "DigitOnes" "[B", Cond.fieldLink RJ2 407 "java/lang/Integer" "DigitTens" "[B"]
def wsX3_of_r9 : List Cond := [Cond.methodLink RJ2 111 yJ2_putChar_b72d1, Cond.static yJ2_putChar_b72d1, Cond.code yJ2_putChar_b72d1 cJ2_putChar_b72d1 3 none, Cond.fieldLink RJ2 59 "java/lang/StringUTF16" "HI_BYTE_SHIFT" "I", Cond.fieldLink RJ2 63 "java/lang/StringUTF16" "LO_BYTE_SHIFT" "I", Cond.methodLink RX1 75 yJ4_append_cf468, Cond.instanceMethod yJ4_append_cf468, Cond.selects RJ4 yJ4_append_cf468 yJ4_append_cf468, Cond.code yJ4_append_cf468 cJ4_append_cf468 2 (some (.object "java/lang/StringBuilder")), Cond.methodLink RJ4 50 yJ5_append_3fe6f, Cond.sameMethod "java/lang/AbstractStringBuilder" "java/lang/AbstractStringBuilder" "append" "(C)Ljava/lang/AbstractStringBuilder;", Cond.instanceMethod yJ5_append_3fe6f, Cond.code yJ5_append_3fe6f cJ5_append_3fe6f 2 (some (.object "java/lang/AbstractStringBuilder")), Cond.methodLink RJ5 191 yJ1_canEncode_fc78d, Cond.static yJ1_canEncode_fc78d, Cond.code yJ1_canEncode_fc78d cJ1_canEncode_fc78d 1 (some .boolean), Cond.methodLink RJ5 195 ⟨"java/lang/AbstractStringBuilder", "inflate", "()V"⟩, Cond.sameMethod "java/lang/AbstractStringBuilder" "java/lang/AbstractStringBuilder" "inflate" "()V", Cond.selects RJ4 ⟨"java/lang/AbstractStringBuilder", "inflate", "()V"⟩ yJ5_inflate_da8c8, Cond.instanceMethod yJ5_inflate_da8c8, Cond.code yJ5_inflate_da8c8 cJ5_inflate_da8c8 2 none, Cond.methodLink RJ5 26 yJ2_newBytesFor_77867, Cond.static yJ2_newBytesFor_77867, Cond.code yJ2_newBytesFor_77867 cJ2_newBytesFor_77867 1 (some (.array .byte))]
def wsX3_of_r10 : List Cond := [Cond.methodLink RJ2 11 yJ2_newBytesLength_0f7a4, Cond.static yJ2_newBytesLength_0f7a4, Cond.code yJ2_newBytesLength_0f7a4 cJ2_newBytesLength_0f7a4 1 (some .int), Cond.constant RJ2 20 (1073741823), Cond.methodLink RJ5 125 yJ1_inflate_0e8fd, Cond.static yJ1_inflate_0e8fd, Cond.code yJ1_inflate_0e8fd cJ1_inflate_0e8fd 5 none, Cond.methodLink RJ1 240 yJ2_inflate_0e8fd, Cond.static yJ2_inflate_0e8fd, Cond.code yJ2_inflate_0e8fd cJ2_inflate_0e8fd 6 none, Cond.methodLink RJ2 173 yJ2_checkBoundsOffCount_d044e, Cond.static yJ2_checkBoundsOffCount_d044e, Cond.code yJ2_checkBoundsOffCount_d044e cJ2_checkBoundsOffCount_d044e 3 none, Cond.methodLink RJ2 419 yJ0_checkBoundsOffCount_cabcc, Cond.static yJ0_checkBoundsOffCount_cabcc, Cond.code yJ0_checkBoundsOffCount_cabcc cJ0_checkBoundsOffCount_cabcc 3 (some .int), Cond.methodLink RJ0 1065 yJ3_checkFromIndexSize_8c36e, Cond.static yJ3_checkFromIndexSize_8c36e, Cond.code yJ3_checkFromIndexSize_8c36e cJ3_checkFromIndexSize_8c36e 4 (some .int), Cond.methodLink RJ5 197 yJ2_putCharSB_b72d1, Cond.static yJ2_putCharSB_b72d1, Cond.code yJ2_putCharSB_b72d1 cJ2_putCharSB_b72d1 3 none, Cond.methodLink RJ2 67 yJ2_checkIndex_2214a, Cond.static yJ2_checkIndex_2214a]
def wsX3_of_r11 : List Cond := [Cond.code yJ2_checkIndex_2214a cJ2_checkIndex_2214a 2 none, Cond.methodLink RJ2 414 yJ0_checkIndex_df160, Cond.static yJ0_checkIndex_df160, Cond.code yJ0_checkIndex_df160 cJ0_checkIndex_df160 2 none, Cond.methodLink RJ0 1059 yJ3_checkIndex_8e157, Cond.static yJ3_checkIndex_8e157, Cond.code yJ3_checkIndex_8e157 cJ3_checkIndex_8e157 3 (some .int), Cond.methodLink RX3 127 yJ4_length_8abf5, Cond.instanceMethod yJ4_length_8abf5, Cond.selects RJ4 yJ4_length_8abf5 yJ4_length_8abf5, Cond.code yJ4_length_8abf5 cJ4_length_8abf5 1 (some .int), Cond.methodLink RJ4 343 yJ5_length_8abf5, Cond.sameMethod "java/lang/AbstractStringBuilder" "java/lang/AbstractStringBuilder" "length" "()I", Cond.instanceMethod yJ5_length_8abf5, Cond.code yJ5_length_8abf5 cJ5_length_8abf5 1 (some .int)]
def wsX3_of : List Cond := .code yX3_of cX3_of 4 (some .int) :: ((wsX3_of_r1 ++ (wsX3_of_r2 ++ (wsX3_of_r3 ++ (wsX3_of_r4 ++ (wsX3_of_r5 ++ (wsX3_of_r6 ++ (wsX3_of_r7 ++ (wsX3_of_r8 ++ (wsX3_of_r9 ++ (wsX3_of_r10 ++ wsX3_of_r11)))))))))) ++ wsX30 ++ wsX20 ++ wsX10 ++ wsJ40)
def wsX3_ofMessage_r1 : List Cond := [Cond.fieldLink RX3 10 "ForkedStamps" "now" "LForkedStamps$State;", Cond.fieldLink RX3 97 "ForkedStamps$State" "messages" "[LForkedStamps$Stamp;", Cond.fieldLink RX3 130 "ForkedStamps$State" "senders" "[I", Cond.methodLink RX3 90 yX2_isMessage, Cond.instanceMethod yX2_isMessage, Cond.selects RX2 yX2_isMessage yX2_isMessage, Cond.initialized RX2, Cond.code yX2_isMessage cX2_isMessage 2 (some .boolean), Cond.fieldLink RX2 41 "ForkedStamps$State" "messageCount" "I", Cond.methodLink RX3 111 yX1_sum, Cond.instanceMethod yX1_sum, Cond.selects RX1 yX1_sum yX1_sum, Cond.initialized RX1, Cond.code yX1_sum cX1_sum 6 (some .int), Cond.fieldLink RX1 9 "ForkedStamps$Stamp" "heights" "[I", Cond.methodLink RX3 114 yX1_knownCount, Cond.instanceMethod yX1_knownCount, Cond.selects RX1 yX1_knownCount yX1_knownCount, Cond.code yX1_knownCount cX1_knownCount 1 (some .int), Cond.fieldLink RX1 21 "ForkedStamps$Stamp" "knownEarly" "J", Cond.fieldLink RX1 25 "ForkedStamps$Stamp" "knownLate" "J", Cond.methodLink RX1 45 yJ13_bitCount_95d88, Cond.static yJ13_bitCount_95d88, Cond.initialized RJ13]
def wsX3_ofMessage_r2 : List Cond := [Cond.code yJ13_bitCount_95d88 cJ13_bitCount_95d88 2 (some .int), Cond.constantLong RJ13 314 (6148914691236517205), Cond.constantLong RJ13 316 (3689348814741910323), Cond.constantLong RJ13 318 (1085102592571150095), Cond.methodLink RX3 120 yX1_knots, Cond.instanceMethod yX1_knots, Cond.selects RX1 yX1_knots yX1_knots, Cond.code yX1_knots cX1_knots 1 (some .int), Cond.methodLink RX1 57 yX1_knotsOfRow, Cond.static yX1_knotsOfRow, Cond.code yX1_knotsOfRow cX1_knotsOfRow 4 (some .int), Cond.methodLink RX1 65 yX1_isLeaf, Cond.static yX1_isLeaf, Cond.code yX1_isLeaf cX1_isLeaf 4 (some .boolean)]
def wsX3_ofMessage : List Cond := .code yX3_ofMessage cX3_ofMessage 4 (some .int) :: ((wsX3_ofMessage_r1 ++ wsX3_ofMessage_r2) ++ wsX30 ++ wsX20 ++ wsX10)
def wsX3_isKind : List Cond := .code yX3_isKind cX3_isKind 1 (some .boolean) :: ([])
def wsX3_height : List Cond := .code yX3_height cX3_height 5 (some .int) :: ([.fieldLink RX3 10 "ForkedStamps" "now" "LForkedStamps$State;", .fieldLink RX3 140 "ForkedStamps$Stamp" "heights" "[I", .methodLink RX3 133 yX3_isKind, .static yX3_isKind, .initialized RX3, .code yX3_isKind cX3_isKind 1 (some .boolean), .methodLink RX3 136 yX2_stampOf, .instanceMethod yX2_stampOf, .selects RX2 yX2_stampOf yX2_stampOf, .initialized RX2, .code yX2_stampOf cX2_stampOf 3 (some (.object "ForkedStamps$Stamp")), .fieldLink RX2 17 "ForkedStamps$State" "helpers" "[LForkedStamps$Stamp;", .fieldLink RX2 21 "ForkedStamps$State" "messages" "[LForkedStamps$Stamp;", .methodLink RX2 48 yX2_isHelper, .instanceMethod yX2_isHelper, .selects RX2 yX2_isHelper yX2_isHelper, .code yX2_isHelper cX2_isHelper 2 (some .boolean), .fieldLink RX2 9 "ForkedStamps$State" "shares" "[I", .methodLink RX2 52 yX2_isMessage, .instanceMethod yX2_isMessage, .selects RX2 yX2_isMessage yX2_isMessage, .code yX2_isMessage cX2_isMessage 2 (some .boolean), .fieldLink RX2 41 "ForkedStamps$State" "messageCount" "I"] ++ wsX30 ++ wsX10 ++ wsX20)
def wsX3_knows_r1 : List Cond := [Cond.fieldLink RX3 10 "ForkedStamps" "now" "LForkedStamps$State;", Cond.methodLink RX3 133 yX3_isKind, Cond.static yX3_isKind, Cond.initialized RX3, Cond.code yX3_isKind cX3_isKind 1 (some .boolean), Cond.methodLink RX3 136 yX2_stampOf, Cond.instanceMethod yX2_stampOf, Cond.selects RX2 yX2_stampOf yX2_stampOf, Cond.initialized RX2, Cond.code yX2_stampOf cX2_stampOf 3 (some (.object "ForkedStamps$Stamp")), Cond.fieldLink RX2 17 "ForkedStamps$State" "helpers" "[LForkedStamps$Stamp;", Cond.fieldLink RX2 21 "ForkedStamps$State" "messages" "[LForkedStamps$Stamp;", Cond.methodLink RX2 48 yX2_isHelper, Cond.instanceMethod yX2_isHelper, Cond.selects RX2 yX2_isHelper yX2_isHelper, Cond.code yX2_isHelper cX2_isHelper 2 (some .boolean), Cond.fieldLink RX2 9 "ForkedStamps$State" "shares" "[I", Cond.methodLink RX2 52 yX2_isMessage, Cond.instanceMethod yX2_isMessage, Cond.selects RX2 yX2_isMessage yX2_isMessage, Cond.code yX2_isMessage cX2_isMessage 2 (some .boolean), Cond.fieldLink RX2 41 "ForkedStamps$State" "messageCount" "I", Cond.methodLink RX3 143 yX2_isEvent, Cond.instanceMethod yX2_isEvent]
def wsX3_knows_r2 : List Cond := [Cond.selects RX2 yX2_isEvent yX2_isEvent, Cond.code yX2_isEvent cX2_isEvent 2 (some .boolean), Cond.fieldLink RX2 45 "ForkedStamps$State" "eventCount" "I", Cond.methodLink RX3 146 yX1_isKnown, Cond.instanceMethod yX1_isKnown, Cond.selects RX1 yX1_isKnown yX1_isKnown, Cond.initialized RX1, Cond.code yX1_isKnown cX1_isKnown 4 (some .boolean), Cond.fieldLink RX1 21 "ForkedStamps$Stamp" "knownEarly" "J", Cond.fieldLink RX1 25 "ForkedStamps$Stamp" "knownLate" "J"]
def wsX3_knows : List Cond := .code yX3_knows cX3_knows 5 (some .int) :: ((wsX3_knows_r1 ++ wsX3_knows_r2) ++ wsX30 ++ wsX20 ++ wsX10)
def wsX3_count_r1 : List Cond := [Cond.fieldLink RX3 10 "ForkedStamps" "now" "LForkedStamps$State;", Cond.fieldLink RX3 84 "ForkedStamps$State" "messageCount" "I", Cond.fieldLink RX3 77 "ForkedStamps$State" "eventCount" "I", Cond.fieldLink RX3 30 "ForkedStamps" "pad" "LForkedStamps$Pad;", Cond.fieldLink RX3 161 "ForkedStamps$Pad" "length" "I", Cond.fieldLink RX3 163 "ForkedStamps" "historyCount" "I", Cond.methodLink RX3 149 yX2_helperSet, Cond.instanceMethod yX2_helperSet, Cond.selects RX2 yX2_helperSet yX2_helperSet, Cond.initialized RX2, Cond.code yX2_helperSet cX2_helperSet 3 (some .int), Cond.methodLink RX2 48 yX2_isHelper, Cond.instanceMethod yX2_isHelper, Cond.selects RX2 yX2_isHelper yX2_isHelper, Cond.code yX2_isHelper cX2_isHelper 2 (some .boolean), Cond.fieldLink RX2 9 "ForkedStamps$State" "shares" "[I", Cond.methodLink RX3 152 yX2_clashingPairs, Cond.instanceMethod yX2_clashingPairs, Cond.selects RX2 yX2_clashingPairs yX2_clashingPairs, Cond.code yX2_clashingPairs cX2_clashingPairs 4 (some .int), Cond.fieldLink RX2 17 "ForkedStamps$State" "helpers" "[LForkedStamps$Stamp;", Cond.methodLink RX2 75 yX1_orderTo, Cond.instanceMethod yX1_orderTo, Cond.selects RX1 yX1_orderTo yX1_orderTo]
def wsX3_count_r2 : List Cond := [Cond.initialized RX1, Cond.code yX1_orderTo cX1_orderTo 5 (some .int), Cond.fieldLink RX1 9 "ForkedStamps$Stamp" "heights" "[I", Cond.methodLink RX3 155 yX2_knotsOfHelpers, Cond.instanceMethod yX2_knotsOfHelpers, Cond.selects RX2 yX2_knotsOfHelpers yX2_knotsOfHelpers, Cond.code yX2_knotsOfHelpers cX2_knotsOfHelpers 3 (some .int), Cond.methodLink RX2 79 yX1_knots, Cond.instanceMethod yX1_knots, Cond.selects RX1 yX1_knots yX1_knots, Cond.code yX1_knots cX1_knots 1 (some .int), Cond.methodLink RX1 57 yX1_knotsOfRow, Cond.static yX1_knotsOfRow, Cond.code yX1_knotsOfRow cX1_knotsOfRow 4 (some .int), Cond.methodLink RX1 65 yX1_isLeaf, Cond.static yX1_isLeaf, Cond.code yX1_isLeaf cX1_isLeaf 4 (some .boolean), Cond.methodLink RX3 158 yX2_foremost, Cond.instanceMethod yX2_foremost, Cond.selects RX2 yX2_foremost yX2_foremost, Cond.code yX2_foremost cX2_foremost 2 (some .int), Cond.methodLink RX2 83 yX2_isForemost, Cond.instanceMethod yX2_isForemost, Cond.selects RX2 yX2_isForemost yX2_isForemost]
def wsX3_count_r3 : List Cond := [Cond.code yX2_isForemost cX2_isForemost 4 (some .boolean)]
def wsX3_count : List Cond := .code yX3_count cX3_count 2 (some .int) :: ((wsX3_count_r1 ++ (wsX3_count_r2 ++ wsX3_count_r3)) ++ wsX30 ++ wsX20 ++ wsX00 ++ wsX10)
def wsX3_whose : List Cond := .code yX3_whose cX3_whose 2 (some .int) :: ([.fieldLink RX3 10 "ForkedStamps" "now" "LForkedStamps$State;", .fieldLink RX3 166 "ForkedStamps$State" "actors" "[I", .methodLink RX3 143 yX2_isEvent, .instanceMethod yX2_isEvent, .selects RX2 yX2_isEvent yX2_isEvent, .initialized RX2, .code yX2_isEvent cX2_isEvent 2 (some .boolean), .fieldLink RX2 45 "ForkedStamps$State" "eventCount" "I"] ++ wsX30 ++ wsX20)
def wsX3_order_r1 : List Cond := [Cond.fieldLink RX3 10 "ForkedStamps" "now" "LForkedStamps$State;", Cond.methodLink RX3 133 yX3_isKind, Cond.static yX3_isKind, Cond.initialized RX3, Cond.code yX3_isKind cX3_isKind 1 (some .boolean), Cond.methodLink RX3 136 yX2_stampOf, Cond.instanceMethod yX2_stampOf, Cond.selects RX2 yX2_stampOf yX2_stampOf, Cond.initialized RX2, Cond.code yX2_stampOf cX2_stampOf 3 (some (.object "ForkedStamps$Stamp")), Cond.fieldLink RX2 17 "ForkedStamps$State" "helpers" "[LForkedStamps$Stamp;", Cond.fieldLink RX2 21 "ForkedStamps$State" "messages" "[LForkedStamps$Stamp;", Cond.methodLink RX2 48 yX2_isHelper, Cond.instanceMethod yX2_isHelper, Cond.selects RX2 yX2_isHelper yX2_isHelper, Cond.code yX2_isHelper cX2_isHelper 2 (some .boolean), Cond.fieldLink RX2 9 "ForkedStamps$State" "shares" "[I", Cond.methodLink RX2 52 yX2_isMessage, Cond.instanceMethod yX2_isMessage, Cond.selects RX2 yX2_isMessage yX2_isMessage, Cond.code yX2_isMessage cX2_isMessage 2 (some .boolean), Cond.fieldLink RX2 41 "ForkedStamps$State" "messageCount" "I", Cond.methodLink RX3 169 yX1_orderTo, Cond.instanceMethod yX1_orderTo]
def wsX3_order_r2 : List Cond := [Cond.selects RX1 yX1_orderTo yX1_orderTo, Cond.initialized RX1, Cond.code yX1_orderTo cX1_orderTo 5 (some .int), Cond.fieldLink RX1 9 "ForkedStamps$Stamp" "heights" "[I"]
def wsX3_order : List Cond := .code yX3_order cX3_order 7 (some .int) :: ((wsX3_order_r1 ++ wsX3_order_r2) ++ wsX30 ++ wsX20 ++ wsX10)
def wsX3_more_r1 : List Cond := [Cond.fieldLink RX3 10 "ForkedStamps" "now" "LForkedStamps$State;", Cond.methodLink RX3 133 yX3_isKind, Cond.static yX3_isKind, Cond.initialized RX3, Cond.code yX3_isKind cX3_isKind 1 (some .boolean), Cond.methodLink RX3 136 yX2_stampOf, Cond.instanceMethod yX2_stampOf, Cond.selects RX2 yX2_stampOf yX2_stampOf, Cond.initialized RX2, Cond.code yX2_stampOf cX2_stampOf 3 (some (.object "ForkedStamps$Stamp")), Cond.fieldLink RX2 17 "ForkedStamps$State" "helpers" "[LForkedStamps$Stamp;", Cond.fieldLink RX2 21 "ForkedStamps$State" "messages" "[LForkedStamps$Stamp;", Cond.methodLink RX2 48 yX2_isHelper, Cond.instanceMethod yX2_isHelper, Cond.selects RX2 yX2_isHelper yX2_isHelper, Cond.code yX2_isHelper cX2_isHelper 2 (some .boolean), Cond.fieldLink RX2 9 "ForkedStamps$State" "shares" "[I", Cond.methodLink RX2 52 yX2_isMessage, Cond.instanceMethod yX2_isMessage, Cond.selects RX2 yX2_isMessage yX2_isMessage, Cond.code yX2_isMessage cX2_isMessage 2 (some .boolean), Cond.fieldLink RX2 41 "ForkedStamps$State" "messageCount" "I", Cond.methodLink RX3 173 yX1_knownBeyond, Cond.instanceMethod yX1_knownBeyond]
def wsX3_more_r2 : List Cond := [Cond.selects RX1 yX1_knownBeyond yX1_knownBeyond, Cond.initialized RX1, Cond.code yX1_knownBeyond cX1_knownBeyond 2 (some .int), Cond.fieldLink RX1 21 "ForkedStamps$Stamp" "knownEarly" "J", Cond.constantLong RX1 51 (-1), Cond.fieldLink RX1 25 "ForkedStamps$Stamp" "knownLate" "J", Cond.methodLink RX1 45 yJ13_bitCount_95d88, Cond.static yJ13_bitCount_95d88, Cond.initialized RJ13, Cond.code yJ13_bitCount_95d88 cJ13_bitCount_95d88 2 (some .int), Cond.constantLong RJ13 314 (6148914691236517205), Cond.constantLong RJ13 316 (3689348814741910323), Cond.constantLong RJ13 318 (1085102592571150095)]
def wsX3_more : List Cond := .code yX3_more cX3_more 7 (some .int) :: ((wsX3_more_r1 ++ wsX3_more_r2) ++ wsX30 ++ wsX20 ++ wsX10)
def wsX3_orderToPad_r1 : List Cond := [Cond.fieldLink RX3 10 "ForkedStamps" "now" "LForkedStamps$State;", Cond.fieldLink RX3 30 "ForkedStamps" "pad" "LForkedStamps$Pad;", Cond.fieldLink RX3 93 "ForkedStamps$State" "helpers" "[LForkedStamps$Stamp;", Cond.fieldLink RX3 179 "ForkedStamps$Pad" "stamp" "LForkedStamps$Stamp;", Cond.methodLink RX3 53 yX2_isHelper, Cond.instanceMethod yX2_isHelper, Cond.selects RX2 yX2_isHelper yX2_isHelper, Cond.initialized RX2, Cond.code yX2_isHelper cX2_isHelper 2 (some .boolean), Cond.fieldLink RX2 9 "ForkedStamps$State" "shares" "[I", Cond.methodLink RX3 176 yX0_read, Cond.instanceMethod yX0_read, Cond.selects RX0 yX0_read yX0_read, Cond.initialized RX0, Cond.code yX0_read cX0_read 2 (some .int), Cond.fieldLink RX0 28 "ForkedStamps$Pad" "first" "I", Cond.fieldLink RX0 31 "ForkedStamps$Pad" "size" "I", Cond.fieldLink RX0 34 "ForkedStamps$Pad" "stage" "I", Cond.fieldLink RX0 22 "ForkedStamps$Pad" "length" "I", Cond.fieldLink RX0 9 "ForkedStamps$Pad" "characters" "[C", Cond.methodLink RX0 37 yX0_accepts, Cond.instanceMethod yX0_accepts, Cond.selects RX0 yX0_accepts yX0_accepts, Cond.code yX0_accepts cX0_accepts 2 (some .boolean)]
def wsX3_orderToPad_r2 : List Cond := [Cond.methodLink RX0 41 yX0_acceptsDigit, Cond.instanceMethod yX0_acceptsDigit, Cond.selects RX0 yX0_acceptsDigit yX0_acceptsDigit, Cond.code yX0_acceptsDigit cX0_acceptsDigit 3 (some .boolean), Cond.fieldLink RX0 55 "ForkedStamps$Pad" "number" "I", Cond.methodLink RX0 58 yX0_fillRow, Cond.instanceMethod yX0_fillRow, Cond.selects RX0 yX0_fillRow yX0_fillRow, Cond.code yX0_fillRow cX0_fillRow 2 none, Cond.fieldLink RX0 18 "ForkedStamps$Pad" "stamp" "LForkedStamps$Stamp;", Cond.fieldLink RX0 61 "ForkedStamps$Stamp" "heights" "[I", Cond.methodLink RX0 45 yX0_acceptsOpening, Cond.instanceMethod yX0_acceptsOpening, Cond.selects RX0 yX0_acceptsOpening yX0_acceptsOpening, Cond.code yX0_acceptsOpening cX0_acceptsOpening 1 (some .boolean), Cond.methodLink RX0 49 yX0_acceptsComma, Cond.instanceMethod yX0_acceptsComma, Cond.selects RX0 yX0_acceptsComma yX0_acceptsComma, Cond.code yX0_acceptsComma cX0_acceptsComma 1 (some .boolean), Cond.methodLink RX0 65 yX0_isUpperHalf, Cond.instanceMethod yX0_isUpperHalf, Cond.selects RX0 yX0_isUpperHalf yX0_isUpperHalf, Cond.code yX0_isUpperHalf cX0_isUpperHalf 1 (some .boolean), Cond.methodLink RX0 52 yX0_acceptsClosing]
def wsX3_orderToPad_r3 : List Cond := [Cond.instanceMethod yX0_acceptsClosing, Cond.selects RX0 yX0_acceptsClosing yX0_acceptsClosing, Cond.code yX0_acceptsClosing cX0_acceptsClosing 1 (some .boolean), Cond.methodLink RX3 169 yX1_orderTo, Cond.instanceMethod yX1_orderTo, Cond.selects RX1 yX1_orderTo yX1_orderTo, Cond.initialized RX1, Cond.code yX1_orderTo cX1_orderTo 5 (some .int), Cond.fieldLink RX1 9 "ForkedStamps$Stamp" "heights" "[I"]
def wsX3_orderToPad : List Cond := .code yX3_orderToPad cX3_orderToPad 2 (some .int) :: ((wsX3_orderToPad_r1 ++ (wsX3_orderToPad_r2 ++ wsX3_orderToPad_r3)) ++ wsX30 ++ wsX20 ++ wsX00 ++ wsX10)
def wsJ2_getChar_3b067 : List Cond := .code yJ2_getChar_3b067 cJ2_getChar_3b067 2 (some .char) :: ([.fieldLink RJ2 44 "java/lang/StringUTF16" "$assertionsDisabled" "Z", .fieldLink RJ2 59 "java/lang/StringUTF16" "HI_BYTE_SHIFT" "I", .fieldLink RJ2 63 "java/lang/StringUTF16" "LO_BYTE_SHIFT" "I", .methodLink RJ2 48 yJ2_length_9d52b, .static yJ2_length_9d52b, .initialized RJ2, .code yJ2_length_9d52b cJ2_length_9d52b 1 (some .int)])
def wsJ5_charAt_5068e_r1 : List Cond := [Cond.fieldLink RJ5 22 "java/lang/AbstractStringBuilder" "coder" "B", Cond.fieldLink RJ5 15 "java/lang/AbstractStringBuilder" "value" "[B", Cond.fieldLink RJ5 79 "java/lang/AbstractStringBuilder" "count" "I", Cond.methodLink RJ5 138 Lib.Math.min.name, Cond.static Lib.Math.min.name, Cond.initialized "java/lang/Math", Cond.code Lib.Math.min.name Lib.Math.min.code 2 (some .int), Cond.methodLink RJ5 144 yJ0_checkIndex_df160, Cond.static yJ0_checkIndex_df160, Cond.initialized RJ0, Cond.code yJ0_checkIndex_df160 cJ0_checkIndex_df160 2 none, Cond.fieldLink RJ0 1053 "jdk/internal/util/Preconditions" "SIOOBE_FORMATTER" "Ljava/util/function/BiFunction;", Cond.methodLink RJ0 1059 yJ3_checkIndex_8e157, Cond.static yJ3_checkIndex_8e157, Cond.initialized RJ3, Cond.code yJ3_checkIndex_8e157 cJ3_checkIndex_8e157 3 (some .int), Cond.methodLink RJ5 148 yJ2_getChar_3b067, Cond.static yJ2_getChar_3b067, Cond.initialized RJ2, Cond.code yJ2_getChar_3b067 cJ2_getChar_3b067 2 (some .char), Cond.fieldLink RJ2 44 "java/lang/StringUTF16" "$assertionsDisabled" "Z", Cond.fieldLink RJ2 59 "java/lang/StringUTF16" "HI_BYTE_SHIFT" "I", Cond.fieldLink RJ2 63 "java/lang/StringUTF16" "LO_BYTE_SHIFT" "I", Cond.methodLink RJ2 48 yJ2_length_9d52b]
def wsJ5_charAt_5068e_r2 : List Cond := [Cond.static yJ2_length_9d52b, Cond.code yJ2_length_9d52b cJ2_length_9d52b 1 (some .int)]
def wsJ5_charAt_5068e : List Cond := .code yJ5_charAt_5068e cJ5_charAt_5068e 5 (some .char) :: ((wsJ5_charAt_5068e_r1 ++ wsJ5_charAt_5068e_r2) ++ wsJ40)
def wsJ4_charAt_5068e_r1 : List Cond := [Cond.methodLink RJ4 329 yJ5_charAt_5068e, Cond.sameMethod "java/lang/AbstractStringBuilder" "java/lang/AbstractStringBuilder" "charAt" "(I)C", Cond.superclass RJ4 RJ5, Cond.instanceMethod yJ5_charAt_5068e, Cond.initialized RJ5, Cond.code yJ5_charAt_5068e cJ5_charAt_5068e 5 (some .char), Cond.fieldLink RJ5 22 "java/lang/AbstractStringBuilder" "coder" "B", Cond.fieldLink RJ5 15 "java/lang/AbstractStringBuilder" "value" "[B", Cond.fieldLink RJ5 79 "java/lang/AbstractStringBuilder" "count" "I", Cond.methodLink RJ5 138 Lib.Math.min.name, Cond.static Lib.Math.min.name, Cond.initialized "java/lang/Math", Cond.code Lib.Math.min.name Lib.Math.min.code 2 (some .int), Cond.methodLink RJ5 144 yJ0_checkIndex_df160, Cond.static yJ0_checkIndex_df160, Cond.initialized RJ0, Cond.code yJ0_checkIndex_df160 cJ0_checkIndex_df160 2 none, Cond.fieldLink RJ0 1053 "jdk/internal/util/Preconditions" "SIOOBE_FORMATTER" "Ljava/util/function/BiFunction;", Cond.methodLink RJ0 1059 yJ3_checkIndex_8e157, Cond.static yJ3_checkIndex_8e157, Cond.initialized RJ3, Cond.code yJ3_checkIndex_8e157 cJ3_checkIndex_8e157 3 (some .int), Cond.methodLink RJ5 148 yJ2_getChar_3b067, Cond.static yJ2_getChar_3b067]
def wsJ4_charAt_5068e_r2 : List Cond := [Cond.initialized RJ2, Cond.code yJ2_getChar_3b067 cJ2_getChar_3b067 2 (some .char), Cond.fieldLink RJ2 44 "java/lang/StringUTF16" "$assertionsDisabled" "Z", Cond.fieldLink RJ2 59 "java/lang/StringUTF16" "HI_BYTE_SHIFT" "I", Cond.fieldLink RJ2 63 "java/lang/StringUTF16" "LO_BYTE_SHIFT" "I", Cond.methodLink RJ2 48 yJ2_length_9d52b, Cond.static yJ2_length_9d52b, Cond.code yJ2_length_9d52b cJ2_length_9d52b 1 (some .int)]
def wsJ4_charAt_5068e : List Cond := .code yJ4_charAt_5068e cJ4_charAt_5068e 2 (some .char) :: ((wsJ4_charAt_5068e_r1 ++ wsJ4_charAt_5068e_r2) ++ wsJ40)
def wsX3_printed_r1 : List Cond := [Cond.fieldLink RX3 10 "ForkedStamps" "now" "LForkedStamps$State;", Cond.fieldLink RX3 93 "ForkedStamps$State" "helpers" "[LForkedStamps$Stamp;", Cond.methodLink RX3 53 yX2_isHelper, Cond.instanceMethod yX2_isHelper, Cond.selects RX2 yX2_isHelper yX2_isHelper, Cond.initialized RX2, Cond.code yX2_isHelper cX2_isHelper 2 (some .boolean), Cond.fieldLink RX2 9 "ForkedStamps$State" "shares" "[I", Cond.methodLink RX3 123 yX3_textOf, Cond.instanceMethod yX3_textOf, Cond.selects RX3 yX3_textOf yX3_textOf, Cond.initialized RX3, Cond.code yX3_textOf cX3_textOf 2 (some (.object "java/lang/StringBuilder")), Cond.fieldLink RX3 44 "ForkedStamps" "text" "Ljava/lang/StringBuilder;", Cond.methodLink RX3 212 yJ4_setLength_d00df, Cond.instanceMethod yJ4_setLength_d00df, Cond.selects RJ4 yJ4_setLength_d00df yJ4_setLength_d00df, Cond.initialized RJ4, Cond.code yJ4_setLength_d00df cJ4_setLength_d00df 2 none, Cond.methodLink RJ4 333 yJ5_setLength_d00df, Cond.sameMethod "java/lang/AbstractStringBuilder" "java/lang/AbstractStringBuilder" "setLength" "(I)V", Cond.superclass RJ4 RJ5, Cond.instanceMethod yJ5_setLength_d00df, Cond.initialized RJ5]
def wsX3_printed_r2 : List Cond := [Cond.code yJ5_setLength_d00df cJ5_setLength_d00df 2 none, Cond.fieldLink RJ5 79 "java/lang/AbstractStringBuilder" "count" "I", Cond.fieldLink RJ5 15 "java/lang/AbstractStringBuilder" "value" "[B", Cond.fieldLink RJ5 73 "java/lang/AbstractStringBuilder" "maybeLatin1" "Z", Cond.methodLink RJ5 100 ⟨"java/lang/AbstractStringBuilder", "ensureCapacityInternal", "(I)V"⟩, Cond.sameMethod "java/lang/AbstractStringBuilder" "java/lang/AbstractStringBuilder" "ensureCapacityInternal" "(I)V", Cond.selects RJ4 ⟨"java/lang/AbstractStringBuilder", "ensureCapacityInternal", "(I)V"⟩ yJ5_ensureCapacityInternal_d00df, Cond.instanceMethod yJ5_ensureCapacityInternal_d00df, Cond.code yJ5_ensureCapacityInternal_d00df cJ5_ensureCapacityInternal_d00df 3 none, Cond.fieldLink RJ5 22 "java/lang/AbstractStringBuilder" "coder" "B", Cond.methodLink RJ5 104 ⟨"java/lang/AbstractStringBuilder", "newCapacity", "(I)I"⟩, Cond.sameMethod "java/lang/AbstractStringBuilder" "java/lang/AbstractStringBuilder" "newCapacity" "(I)I", Cond.selects RJ4 ⟨"java/lang/AbstractStringBuilder", "newCapacity", "(I)I"⟩ yJ5_newCapacity_0f7a4, Cond.instanceMethod yJ5_newCapacity_0f7a4, Cond.code yJ5_newCapacity_0f7a4 cJ5_newCapacity_0f7a4 6 (some .int), Cond.constant RJ5 39 (2147483647), Cond.methodLink RJ5 114 yJ8_newLength_cabcc, Cond.static yJ8_newLength_cabcc, Cond.initialized RJ8, Cond.code yJ8_newLength_cabcc cJ8_newLength_cabcc 4 (some .int), Cond.methodLink RJ8 194 Lib.Math.max.name, Cond.static Lib.Math.max.name, Cond.initialized "java/lang/Math", Cond.code Lib.Math.max.name Lib.Math.max.code 2 (some .int)]
def wsX3_printed_r3 : List Cond := [Cond.constant RJ8 200 (2147483639), Cond.methodLink RJ8 201 yJ8_hugeLength_7cf53, Cond.static yJ8_hugeLength_7cf53, Cond.code yJ8_hugeLength_7cf53 cJ8_hugeLength_7cf53 3 (some .int), Cond.methodLink RJ5 108 yJ7_copyOf_9075b, Cond.static yJ7_copyOf_9075b, Cond.initialized RJ7, Cond.code yJ7_copyOf_9075b cJ7_copyOf_9075b 3 (some (.array .byte)), Cond.methodLink RJ7 310 ⟨"[B", "clone", "()Ljava/lang/Object;"⟩, Cond.sameMethod "[B" "java/lang/Object" "clone" "()Ljava/lang/Object;", Cond.native ⟨"java/lang/Object", "clone", "()Ljava/lang/Object;"⟩, Cond.instanceMethod ⟨"java/lang/Object", "clone", "()Ljava/lang/Object;"⟩, Cond.selects "[B" ⟨"[B", "clone", "()Ljava/lang/Object;"⟩ ⟨"java/lang/Object", "clone", "()Ljava/lang/Object;"⟩, Cond.classLink RJ7 311 "[B", Cond.arrayClass .byte, Cond.methodLink RJ7 304 Lib.Math.min.name, Cond.static Lib.Math.min.name, Cond.code Lib.Math.min.name Lib.Math.min.code 2 (some .int), Cond.methodLink RJ7 150 arraycopyName, Cond.native arraycopyName, Cond.static arraycopyName, Cond.initialized "java/lang/System", Cond.methodLink RJ5 83 ⟨"java/lang/AbstractStringBuilder", "isLatin1", "()Z"⟩, Cond.sameMethod "java/lang/AbstractStringBuilder" "java/lang/AbstractStringBuilder" "isLatin1" "()Z"]
def wsX3_printed_r4 : List Cond := [Cond.selects RJ4 ⟨"java/lang/AbstractStringBuilder", "isLatin1", "()Z"⟩ yJ5_isLatin1_aae02, Cond.instanceMethod yJ5_isLatin1_aae02, Cond.code yJ5_isLatin1_aae02 cJ5_isLatin1_aae02 1 (some .boolean), Cond.fieldLink RJ5 18 "java/lang/String" "COMPACT_STRINGS" "Z", Cond.methodLink RJ5 133 yJ1_fillNull_b72d1, Cond.static yJ1_fillNull_b72d1, Cond.initialized RJ1, Cond.code yJ1_fillNull_b72d1 cJ1_fillNull_b72d1 3 none, Cond.methodLink RJ1 236 yJ7_fill_eb02e, Cond.static yJ7_fill_eb02e, Cond.code yJ7_fill_eb02e cJ7_fill_eb02e 5 none, Cond.methodLink RJ7 13 yJ7_rangeCheck_23922, Cond.static yJ7_rangeCheck_23922, Cond.code yJ7_rangeCheck_23922 cJ7_rangeCheck_23922 3 none, Cond.methodLink RJ5 137 yJ2_fillNull_b72d1, Cond.static yJ2_fillNull_b72d1, Cond.initialized RJ2, Cond.code yJ2_fillNull_b72d1 cJ2_fillNull_b72d1 3 none, Cond.methodLink RJ2 380 yJ7_fill_eb02e, Cond.methodLink RX3 215 yX1_print, Cond.instanceMethod yX1_print, Cond.selects RX1 yX1_print yX1_print, Cond.initialized RX1, Cond.code yX1_print cX1_print 2 none]
def wsX3_printed_r5 : List Cond := [Cond.fieldLink RX1 9 "ForkedStamps$Stamp" "heights" "[I", Cond.methodLink RX1 61 yX1_printRow, Cond.static yX1_printRow, Cond.code yX1_printRow cX1_printRow 5 none, Cond.methodLink RX1 65 yX1_isLeaf, Cond.static yX1_isLeaf, Cond.code yX1_isLeaf cX1_isLeaf 4 (some .boolean), Cond.methodLink RX1 69 yJ4_append_bf812, Cond.instanceMethod yJ4_append_bf812, Cond.selects RJ4 yJ4_append_bf812 yJ4_append_bf812, Cond.code yJ4_append_bf812 cJ4_append_bf812 2 (some (.object "java/lang/StringBuilder")), Cond.methodLink RJ4 53 yJ5_append_c97b9, Cond.sameMethod "java/lang/AbstractStringBuilder" "java/lang/AbstractStringBuilder" "append" "(I)Ljava/lang/AbstractStringBuilder;", Cond.instanceMethod yJ5_append_c97b9, Cond.code yJ5_append_c97b9 cJ5_append_c97b9 4 (some (.object "java/lang/AbstractStringBuilder")), Cond.methodLink RJ5 245 yJ6_stringSize_0f7a4, Cond.static yJ6_stringSize_0f7a4, Cond.initialized RJ6, Cond.code yJ6_stringSize_0f7a4 cJ6_stringSize_0f7a4 4 (some .int), Cond.methodLink RJ5 248 yJ6_getChars_ba4f3, Cond.static yJ6_getChars_ba4f3, Cond.code yJ6_getChars_ba4f3 cJ6_getChars_ba4f3 7 (some .int), Cond.fieldLink RJ6 83 "java/lang/Integer" "DigitOnes" "[B", Cond.fieldLink RJ6 87 "java/lang/Integer" "DigitTens" "[B"]
def wsX3_printed_r6 : List Cond := [Cond.methodLink RJ5 251 yJ2_getChars_46870, Cond.static yJ2_getChars_46870, Cond.code yJ2_getChars_46870 cJ2_getChars_46870 5 (some .int), Cond.fieldLink RJ2 44 "java/lang/StringUTF16" "$assertionsDisabled" "Z", Cond.methodLink RJ2 96 yJ2_checkBoundsBeginEnd_d044e, Cond.static yJ2_checkBoundsBeginEnd_d044e, Cond.code yJ2_checkBoundsBeginEnd_d044e cJ2_checkBoundsBeginEnd_d044e 3 none, Cond.methodLink RJ2 48 yJ2_length_9d52b, Cond.static yJ2_length_9d52b, Cond.code yJ2_length_9d52b cJ2_length_9d52b 1 (some .int), Cond.methodLink RJ2 241 yJ0_checkBoundsBeginEnd_23922, Cond.static yJ0_checkBoundsBeginEnd_23922, Cond.initialized RJ0, Cond.code yJ0_checkBoundsBeginEnd_23922 cJ0_checkBoundsBeginEnd_23922 3 none, Cond.fieldLink RJ0 1053 "jdk/internal/util/Preconditions" "SIOOBE_FORMATTER" "Ljava/util/function/BiFunction;", Cond.methodLink RJ0 1062 yJ3_checkFromToIndex_8c36e, Cond.static yJ3_checkFromToIndex_8c36e, Cond.initialized RJ3, Cond.code yJ3_checkFromToIndex_8c36e cJ3_checkFromToIndex_8c36e 4 (some .int), Cond.methodLink RJ2 393 yJ2_getChars_ba4f3, Cond.static yJ2_getChars_ba4f3, Cond.code yJ2_getChars_ba4f3 cJ2_getChars_ba4f3 7 (some .int), Cond.fieldLink RJ2 403 "java/lang/Integer" "DigitOnes" "[B", Cond.fieldLink RJ2 407 "java/lang/Integer" "DigitTens" "[B"]
def wsX3_printed_r7 : List Cond := [Cond.methodLink RJ2 111 yJ2_putChar_b72d1, Cond.static yJ2_putChar_b72d1, Cond.code yJ2_putChar_b72d1 cJ2_putChar_b72d1 3 none, Cond.fieldLink RJ2 59 "java/lang/StringUTF16" "HI_BYTE_SHIFT" "I", Cond.fieldLink RJ2 63 "java/lang/StringUTF16" "LO_BYTE_SHIFT" "I", Cond.methodLink RX1 75 yJ4_append_cf468, Cond.instanceMethod yJ4_append_cf468, Cond.selects RJ4 yJ4_append_cf468 yJ4_append_cf468, Cond.code yJ4_append_cf468 cJ4_append_cf468 2 (some (.object "java/lang/StringBuilder")), Cond.methodLink RJ4 50 yJ5_append_3fe6f, Cond.sameMethod "java/lang/AbstractStringBuilder" "java/lang/AbstractStringBuilder" "append" "(C)Ljava/lang/AbstractStringBuilder;", Cond.instanceMethod yJ5_append_3fe6f, Cond.code yJ5_append_3fe6f cJ5_append_3fe6f 2 (some (.object "java/lang/AbstractStringBuilder")), Cond.methodLink RJ5 191 yJ1_canEncode_fc78d, Cond.static yJ1_canEncode_fc78d, Cond.code yJ1_canEncode_fc78d cJ1_canEncode_fc78d 1 (some .boolean), Cond.methodLink RJ5 195 ⟨"java/lang/AbstractStringBuilder", "inflate", "()V"⟩, Cond.sameMethod "java/lang/AbstractStringBuilder" "java/lang/AbstractStringBuilder" "inflate" "()V", Cond.selects RJ4 ⟨"java/lang/AbstractStringBuilder", "inflate", "()V"⟩ yJ5_inflate_da8c8, Cond.instanceMethod yJ5_inflate_da8c8, Cond.code yJ5_inflate_da8c8 cJ5_inflate_da8c8 2 none, Cond.methodLink RJ5 26 yJ2_newBytesFor_77867, Cond.static yJ2_newBytesFor_77867, Cond.code yJ2_newBytesFor_77867 cJ2_newBytesFor_77867 1 (some (.array .byte))]
def wsX3_printed_r8 : List Cond := [Cond.methodLink RJ2 11 yJ2_newBytesLength_0f7a4, Cond.static yJ2_newBytesLength_0f7a4, Cond.code yJ2_newBytesLength_0f7a4 cJ2_newBytesLength_0f7a4 1 (some .int), Cond.constant RJ2 20 (1073741823), Cond.methodLink RJ5 125 yJ1_inflate_0e8fd, Cond.static yJ1_inflate_0e8fd, Cond.code yJ1_inflate_0e8fd cJ1_inflate_0e8fd 5 none, Cond.methodLink RJ1 240 yJ2_inflate_0e8fd, Cond.static yJ2_inflate_0e8fd, Cond.code yJ2_inflate_0e8fd cJ2_inflate_0e8fd 6 none, Cond.methodLink RJ2 173 yJ2_checkBoundsOffCount_d044e, Cond.static yJ2_checkBoundsOffCount_d044e, Cond.code yJ2_checkBoundsOffCount_d044e cJ2_checkBoundsOffCount_d044e 3 none, Cond.methodLink RJ2 419 yJ0_checkBoundsOffCount_cabcc, Cond.static yJ0_checkBoundsOffCount_cabcc, Cond.code yJ0_checkBoundsOffCount_cabcc cJ0_checkBoundsOffCount_cabcc 3 (some .int), Cond.methodLink RJ0 1065 yJ3_checkFromIndexSize_8c36e, Cond.static yJ3_checkFromIndexSize_8c36e, Cond.code yJ3_checkFromIndexSize_8c36e cJ3_checkFromIndexSize_8c36e 4 (some .int), Cond.methodLink RJ5 197 yJ2_putCharSB_b72d1, Cond.static yJ2_putCharSB_b72d1, Cond.code yJ2_putCharSB_b72d1 cJ2_putCharSB_b72d1 3 none, Cond.methodLink RJ2 67 yJ2_checkIndex_2214a, Cond.static yJ2_checkIndex_2214a]
def wsX3_printed_r9 : List Cond := [Cond.code yJ2_checkIndex_2214a cJ2_checkIndex_2214a 2 none, Cond.methodLink RJ2 414 yJ0_checkIndex_df160, Cond.static yJ0_checkIndex_df160, Cond.code yJ0_checkIndex_df160 cJ0_checkIndex_df160 2 none, Cond.methodLink RJ0 1059 yJ3_checkIndex_8e157, Cond.static yJ3_checkIndex_8e157, Cond.code yJ3_checkIndex_8e157 cJ3_checkIndex_8e157 3 (some .int), Cond.methodLink RX3 127 yJ4_length_8abf5, Cond.instanceMethod yJ4_length_8abf5, Cond.selects RJ4 yJ4_length_8abf5 yJ4_length_8abf5, Cond.code yJ4_length_8abf5 cJ4_length_8abf5 1 (some .int), Cond.methodLink RJ4 343 yJ5_length_8abf5, Cond.sameMethod "java/lang/AbstractStringBuilder" "java/lang/AbstractStringBuilder" "length" "()I", Cond.instanceMethod yJ5_length_8abf5, Cond.code yJ5_length_8abf5 cJ5_length_8abf5 1 (some .int), Cond.methodLink RX3 182 yJ4_charAt_5068e, Cond.instanceMethod yJ4_charAt_5068e, Cond.selects RJ4 yJ4_charAt_5068e yJ4_charAt_5068e, Cond.code yJ4_charAt_5068e cJ4_charAt_5068e 2 (some .char), Cond.methodLink RJ4 329 yJ5_charAt_5068e, Cond.sameMethod "java/lang/AbstractStringBuilder" "java/lang/AbstractStringBuilder" "charAt" "(I)C", Cond.instanceMethod yJ5_charAt_5068e, Cond.code yJ5_charAt_5068e cJ5_charAt_5068e 5 (some .char), Cond.methodLink RJ5 138 Lib.Math.min.name]
def wsX3_printed_r10 : List Cond := [Cond.methodLink RJ5 144 yJ0_checkIndex_df160, Cond.methodLink RJ5 148 yJ2_getChar_3b067, Cond.static yJ2_getChar_3b067, Cond.code yJ2_getChar_3b067 cJ2_getChar_3b067 2 (some .char)]
def wsX3_printed : List Cond := .code yX3_printed cX3_printed 4 (some .int) :: ((wsX3_printed_r1 ++ (wsX3_printed_r2 ++ (wsX3_printed_r3 ++ (wsX3_printed_r4 ++ (wsX3_printed_r5 ++ (wsX3_printed_r6 ++ (wsX3_printed_r7 ++ (wsX3_printed_r8 ++ (wsX3_printed_r9 ++ wsX3_printed_r10))))))))) ++ wsX30 ++ wsX20 ++ wsJ40 ++ wsX10)
def wsX3_ifReceive_r1 : List Cond := [Cond.fieldLink RX3 10 "ForkedStamps" "now" "LForkedStamps$State;", Cond.fieldLink RX3 93 "ForkedStamps$State" "helpers" "[LForkedStamps$Stamp;", Cond.fieldLink RX3 97 "ForkedStamps$State" "messages" "[LForkedStamps$Stamp;", Cond.fieldLink RX3 37 "ForkedStamps" "trial" "LForkedStamps$Stamp;", Cond.fieldLink RX3 48 "ForkedStamps$State" "shares" "[I", Cond.methodLink RX3 53 yX2_isHelper, Cond.instanceMethod yX2_isHelper, Cond.selects RX2 yX2_isHelper yX2_isHelper, Cond.initialized RX2, Cond.code yX2_isHelper cX2_isHelper 2 (some .boolean), Cond.fieldLink RX2 9 "ForkedStamps$State" "shares" "[I", Cond.methodLink RX3 90 yX2_isMessage, Cond.instanceMethod yX2_isMessage, Cond.selects RX2 yX2_isMessage yX2_isMessage, Cond.code yX2_isMessage cX2_isMessage 2 (some .boolean), Cond.fieldLink RX2 41 "ForkedStamps$State" "messageCount" "I", Cond.methodLink RX3 186 yX1_become, Cond.instanceMethod yX1_become, Cond.selects RX1 yX1_become yX1_become, Cond.initialized RX1, Cond.code yX1_become cX1_become 2 none, Cond.fieldLink RX1 9 "ForkedStamps$Stamp" "heights" "[I", Cond.methodLink RX1 15 arraycopyName, Cond.native arraycopyName]
def wsX3_ifReceive_r2 : List Cond := [Cond.static arraycopyName, Cond.initialized "java/lang/System", Cond.fieldLink RX1 21 "ForkedStamps$Stamp" "knownEarly" "J", Cond.fieldLink RX1 25 "ForkedStamps$Stamp" "knownLate" "J", Cond.methodLink RX3 100 yX1_takeOver, Cond.instanceMethod yX1_takeOver, Cond.selects RX1 yX1_takeOver yX1_takeOver, Cond.code yX1_takeOver cX1_takeOver 3 none, Cond.methodLink RX1 28 Lib.Math.max.name, Cond.static Lib.Math.max.name, Cond.initialized "java/lang/Math", Cond.code Lib.Math.max.name Lib.Math.max.code 2 (some .int), Cond.methodLink RX3 189 yX1_raise, Cond.instanceMethod yX1_raise, Cond.selects RX1 yX1_raise yX1_raise, Cond.code yX1_raise cX1_raise 5 none, Cond.methodLink RX1 34 yX1_greatestIn, Cond.instanceMethod yX1_greatestIn, Cond.selects RX1 yX1_greatestIn yX1_greatestIn, Cond.code yX1_greatestIn cX1_greatestIn 4 (some .int), Cond.methodLink RX1 42 yX1_isIn, Cond.static yX1_isIn, Cond.code yX1_isIn cX1_isIn 2 (some .boolean), Cond.methodLink RX1 38 yX1_isLevel]
def wsX3_ifReceive_r3 : List Cond := [Cond.instanceMethod yX1_isLevel, Cond.selects RX1 yX1_isLevel yX1_isLevel, Cond.code yX1_isLevel cX1_isLevel 4 (some .boolean), Cond.methodLink RX3 173 yX1_knownBeyond, Cond.instanceMethod yX1_knownBeyond, Cond.selects RX1 yX1_knownBeyond yX1_knownBeyond, Cond.code yX1_knownBeyond cX1_knownBeyond 2 (some .int), Cond.constantLong RX1 51 (-1), Cond.methodLink RX1 45 yJ13_bitCount_95d88, Cond.static yJ13_bitCount_95d88, Cond.initialized RJ13, Cond.code yJ13_bitCount_95d88 cJ13_bitCount_95d88 2 (some .int), Cond.constantLong RJ13 314 (6148914691236517205), Cond.constantLong RJ13 316 (3689348814741910323), Cond.constantLong RJ13 318 (1085102592571150095), Cond.methodLink RX3 169 yX1_orderTo, Cond.instanceMethod yX1_orderTo, Cond.selects RX1 yX1_orderTo yX1_orderTo, Cond.code yX1_orderTo cX1_orderTo 5 (some .int), Cond.methodLink RX3 120 yX1_knots, Cond.instanceMethod yX1_knots, Cond.selects RX1 yX1_knots yX1_knots, Cond.code yX1_knots cX1_knots 1 (some .int), Cond.methodLink RX1 57 yX1_knotsOfRow]
def wsX3_ifReceive_r4 : List Cond := [Cond.static yX1_knotsOfRow, Cond.code yX1_knotsOfRow cX1_knotsOfRow 4 (some .int), Cond.methodLink RX1 65 yX1_isLeaf, Cond.static yX1_isLeaf, Cond.code yX1_isLeaf cX1_isLeaf 4 (some .boolean)]
def wsX3_ifReceive : List Cond := .code yX3_ifReceive cX3_ifReceive 6 (some .int) :: ((wsX3_ifReceive_r1 ++ (wsX3_ifReceive_r2 ++ (wsX3_ifReceive_r3 ++ wsX3_ifReceive_r4))) ++ wsX30 ++ wsX20 ++ wsX10)
def wsX3_laggard_r1 : List Cond := [Cond.fieldLink RX3 10 "ForkedStamps" "now" "LForkedStamps$State;", Cond.fieldLink RX3 77 "ForkedStamps$State" "eventCount" "I", Cond.fieldLink RX3 93 "ForkedStamps$State" "helpers" "[LForkedStamps$Stamp;", Cond.methodLink RX3 192 yX2_leastKnowing, Cond.instanceMethod yX2_leastKnowing, Cond.selects RX2 yX2_leastKnowing yX2_leastKnowing, Cond.initialized RX2, Cond.code yX2_leastKnowing cX2_leastKnowing 4 (some .int), Cond.fieldLink RX2 17 "ForkedStamps$State" "helpers" "[LForkedStamps$Stamp;", Cond.methodLink RX2 48 yX2_isHelper, Cond.instanceMethod yX2_isHelper, Cond.selects RX2 yX2_isHelper yX2_isHelper, Cond.code yX2_isHelper cX2_isHelper 2 (some .boolean), Cond.fieldLink RX2 9 "ForkedStamps$State" "shares" "[I", Cond.methodLink RX2 86 yX1_knownCount, Cond.instanceMethod yX1_knownCount, Cond.selects RX1 yX1_knownCount yX1_knownCount, Cond.initialized RX1, Cond.code yX1_knownCount cX1_knownCount 1 (some .int), Cond.fieldLink RX1 21 "ForkedStamps$Stamp" "knownEarly" "J", Cond.fieldLink RX1 25 "ForkedStamps$Stamp" "knownLate" "J", Cond.methodLink RX1 45 yJ13_bitCount_95d88, Cond.static yJ13_bitCount_95d88, Cond.initialized RJ13]
def wsX3_laggard_r2 : List Cond := [Cond.code yJ13_bitCount_95d88 cJ13_bitCount_95d88 2 (some .int), Cond.constantLong RJ13 314 (6148914691236517205), Cond.constantLong RJ13 316 (3689348814741910323), Cond.constantLong RJ13 318 (1085102592571150095), Cond.methodLink RX3 114 yX1_knownCount]
def wsX3_laggard : List Cond := .code yX3_laggard cX3_laggard 3 (some .int) :: ((wsX3_laggard_r1 ++ wsX3_laggard_r2) ++ wsX30 ++ wsX20 ++ wsX10)
def wsX3_charactersIn : List Cond := .code yX3_charactersIn cX3_charactersIn 6 (some .int) :: ([.constantLong RX3 219 (255)])
def wsX3_put : List Cond := .code yX3_put cX3_put 4 (some .int) :: ([.fieldLink RX3 30 "ForkedStamps" "pad" "LForkedStamps$Pad;", .fieldLink RX3 161 "ForkedStamps$Pad" "length" "I", .methodLink RX3 195 yX3_charactersIn, .static yX3_charactersIn, .initialized RX3, .code yX3_charactersIn cX3_charactersIn 6 (some .int), .constantLong RX3 219 (255), .methodLink RX3 199 yX0_append, .instanceMethod yX0_append, .selects RX0 yX0_append yX0_append, .initialized RX0, .code yX0_append cX0_append 5 none, .fieldLink RX0 22 "ForkedStamps$Pad" "length" "I", .fieldLink RX0 9 "ForkedStamps$Pad" "characters" "[C", .constantLong RX0 26 (255)] ++ wsX30 ++ wsX00)
def wsX3_wipe : List Cond := .code yX3_wipe cX3_wipe 2 (some .int) :: ([.fieldLink RX3 30 "ForkedStamps" "pad" "LForkedStamps$Pad;", .fieldLink RX3 161 "ForkedStamps$Pad" "length" "I"] ++ wsX30 ++ wsX00)
def wsX3_fault_r1 : List Cond := [Cond.fieldLink RX3 30 "ForkedStamps" "pad" "LForkedStamps$Pad;", Cond.methodLink RX3 176 yX0_read, Cond.instanceMethod yX0_read, Cond.selects RX0 yX0_read yX0_read, Cond.initialized RX0, Cond.code yX0_read cX0_read 2 (some .int), Cond.fieldLink RX0 28 "ForkedStamps$Pad" "first" "I", Cond.fieldLink RX0 31 "ForkedStamps$Pad" "size" "I", Cond.fieldLink RX0 34 "ForkedStamps$Pad" "stage" "I", Cond.fieldLink RX0 22 "ForkedStamps$Pad" "length" "I", Cond.fieldLink RX0 9 "ForkedStamps$Pad" "characters" "[C", Cond.methodLink RX0 37 yX0_accepts, Cond.instanceMethod yX0_accepts, Cond.selects RX0 yX0_accepts yX0_accepts, Cond.code yX0_accepts cX0_accepts 2 (some .boolean), Cond.methodLink RX0 41 yX0_acceptsDigit, Cond.instanceMethod yX0_acceptsDigit, Cond.selects RX0 yX0_acceptsDigit yX0_acceptsDigit, Cond.code yX0_acceptsDigit cX0_acceptsDigit 3 (some .boolean), Cond.fieldLink RX0 55 "ForkedStamps$Pad" "number" "I", Cond.methodLink RX0 58 yX0_fillRow, Cond.instanceMethod yX0_fillRow, Cond.selects RX0 yX0_fillRow yX0_fillRow, Cond.code yX0_fillRow cX0_fillRow 2 none]
def wsX3_fault_r2 : List Cond := [Cond.fieldLink RX0 18 "ForkedStamps$Pad" "stamp" "LForkedStamps$Stamp;", Cond.fieldLink RX0 61 "ForkedStamps$Stamp" "heights" "[I", Cond.methodLink RX0 45 yX0_acceptsOpening, Cond.instanceMethod yX0_acceptsOpening, Cond.selects RX0 yX0_acceptsOpening yX0_acceptsOpening, Cond.code yX0_acceptsOpening cX0_acceptsOpening 1 (some .boolean), Cond.methodLink RX0 49 yX0_acceptsComma, Cond.instanceMethod yX0_acceptsComma, Cond.selects RX0 yX0_acceptsComma yX0_acceptsComma, Cond.code yX0_acceptsComma cX0_acceptsComma 1 (some .boolean), Cond.methodLink RX0 65 yX0_isUpperHalf, Cond.instanceMethod yX0_isUpperHalf, Cond.selects RX0 yX0_isUpperHalf yX0_isUpperHalf, Cond.code yX0_isUpperHalf cX0_isUpperHalf 1 (some .boolean), Cond.methodLink RX0 52 yX0_acceptsClosing, Cond.instanceMethod yX0_acceptsClosing, Cond.selects RX0 yX0_acceptsClosing yX0_acceptsClosing, Cond.code yX0_acceptsClosing cX0_acceptsClosing 1 (some .boolean)]
def wsX3_fault : List Cond := .code yX3_fault cX3_fault 1 (some .int) :: ((wsX3_fault_r1 ++ wsX3_fault_r2) ++ wsX30 ++ wsX00 ++ wsX10)
def wsX3_undo_r1 : List Cond := [Cond.fieldLink RX3 163 "ForkedStamps" "historyCount" "I", Cond.fieldLink RX3 10 "ForkedStamps" "now" "LForkedStamps$State;", Cond.fieldLink RX3 16 "ForkedStamps" "history" "[LForkedStamps$State;", Cond.methodLink RX3 203 yX2_become, Cond.instanceMethod yX2_become, Cond.selects RX2 yX2_become yX2_become, Cond.initialized RX2, Cond.code yX2_become cX2_become 3 none, Cond.fieldLink RX2 9 "ForkedStamps$State" "shares" "[I", Cond.methodLink RX2 31 arraycopyName, Cond.native arraycopyName, Cond.static arraycopyName, Cond.initialized "java/lang/System", Cond.fieldLink RX2 17 "ForkedStamps$State" "helpers" "[LForkedStamps$Stamp;", Cond.fieldLink RX2 24 "ForkedStamps$State" "senders" "[I", Cond.fieldLink RX2 21 "ForkedStamps$State" "messages" "[LForkedStamps$Stamp;", Cond.fieldLink RX2 41 "ForkedStamps$State" "messageCount" "I", Cond.fieldLink RX2 27 "ForkedStamps$State" "actors" "[I", Cond.fieldLink RX2 45 "ForkedStamps$State" "eventCount" "I", Cond.methodLink RX2 37 yX1_become, Cond.instanceMethod yX1_become, Cond.selects RX1 yX1_become yX1_become, Cond.initialized RX1, Cond.code yX1_become cX1_become 2 none]
def wsX3_undo_r2 : List Cond := [Cond.fieldLink RX1 9 "ForkedStamps$Stamp" "heights" "[I", Cond.methodLink RX1 15 arraycopyName, Cond.fieldLink RX1 21 "ForkedStamps$Stamp" "knownEarly" "J", Cond.fieldLink RX1 25 "ForkedStamps$Stamp" "knownLate" "J"]
def wsX3_undo : List Cond := .code yX3_undo cX3_undo 1 (some .int) :: ((wsX3_undo_r1 ++ wsX3_undo_r2) ++ wsX30 ++ wsX20 ++ wsX10)
def wsX3_isSlot : List Cond := .code yX3_isSlot cX3_isSlot 1 (some .boolean) :: ([])
def wsX3_save_r1 : List Cond := [Cond.fieldLink RX3 20 "ForkedStamps" "slots" "[LForkedStamps$State;", Cond.fieldLink RX3 10 "ForkedStamps" "now" "LForkedStamps$State;", Cond.fieldLink RX3 23 "ForkedStamps" "saved" "[Z", Cond.fieldLink RX3 77 "ForkedStamps$State" "eventCount" "I", Cond.methodLink RX3 206 yX3_isSlot, Cond.static yX3_isSlot, Cond.initialized RX3, Cond.code yX3_isSlot cX3_isSlot 1 (some .boolean), Cond.methodLink RX3 203 yX2_become, Cond.instanceMethod yX2_become, Cond.selects RX2 yX2_become yX2_become, Cond.initialized RX2, Cond.code yX2_become cX2_become 3 none, Cond.fieldLink RX2 9 "ForkedStamps$State" "shares" "[I", Cond.methodLink RX2 31 arraycopyName, Cond.native arraycopyName, Cond.static arraycopyName, Cond.initialized "java/lang/System", Cond.fieldLink RX2 17 "ForkedStamps$State" "helpers" "[LForkedStamps$Stamp;", Cond.fieldLink RX2 24 "ForkedStamps$State" "senders" "[I", Cond.fieldLink RX2 21 "ForkedStamps$State" "messages" "[LForkedStamps$Stamp;", Cond.fieldLink RX2 41 "ForkedStamps$State" "messageCount" "I", Cond.fieldLink RX2 27 "ForkedStamps$State" "actors" "[I", Cond.fieldLink RX2 45 "ForkedStamps$State" "eventCount" "I"]
def wsX3_save_r2 : List Cond := [Cond.methodLink RX2 37 yX1_become, Cond.instanceMethod yX1_become, Cond.selects RX1 yX1_become yX1_become, Cond.initialized RX1, Cond.code yX1_become cX1_become 2 none, Cond.fieldLink RX1 9 "ForkedStamps$Stamp" "heights" "[I", Cond.methodLink RX1 15 arraycopyName, Cond.fieldLink RX1 21 "ForkedStamps$Stamp" "knownEarly" "J", Cond.fieldLink RX1 25 "ForkedStamps$Stamp" "knownLate" "J"]
def wsX3_save : List Cond := .code yX3_save cX3_save 2 (some .int) :: ((wsX3_save_r1 ++ wsX3_save_r2) ++ wsX30 ++ wsX20 ++ wsX10)
def wsX3_restore_r1 : List Cond := [Cond.fieldLink RX3 23 "ForkedStamps" "saved" "[Z", Cond.fieldLink RX3 10 "ForkedStamps" "now" "LForkedStamps$State;", Cond.fieldLink RX3 20 "ForkedStamps" "slots" "[LForkedStamps$State;", Cond.fieldLink RX3 77 "ForkedStamps$State" "eventCount" "I", Cond.methodLink RX3 206 yX3_isSlot, Cond.static yX3_isSlot, Cond.initialized RX3, Cond.code yX3_isSlot cX3_isSlot 1 (some .boolean), Cond.methodLink RX3 67 yX3_remember, Cond.instanceMethod yX3_remember, Cond.selects RX3 yX3_remember yX3_remember, Cond.code yX3_remember cX3_remember 1 none, Cond.fieldLink RX3 163 "ForkedStamps" "historyCount" "I", Cond.fieldLink RX3 16 "ForkedStamps" "history" "[LForkedStamps$State;", Cond.methodLink RX3 209 yX3_forgetOldest, Cond.instanceMethod yX3_forgetOldest, Cond.selects RX3 yX3_forgetOldest yX3_forgetOldest, Cond.code yX3_forgetOldest cX3_forgetOldest 3 none, Cond.methodLink RX3 203 yX2_become, Cond.instanceMethod yX2_become, Cond.selects RX2 yX2_become yX2_become, Cond.initialized RX2, Cond.code yX2_become cX2_become 3 none, Cond.fieldLink RX2 9 "ForkedStamps$State" "shares" "[I"]
def wsX3_restore_r2 : List Cond := [Cond.methodLink RX2 31 arraycopyName, Cond.native arraycopyName, Cond.static arraycopyName, Cond.initialized "java/lang/System", Cond.fieldLink RX2 17 "ForkedStamps$State" "helpers" "[LForkedStamps$Stamp;", Cond.fieldLink RX2 24 "ForkedStamps$State" "senders" "[I", Cond.fieldLink RX2 21 "ForkedStamps$State" "messages" "[LForkedStamps$Stamp;", Cond.fieldLink RX2 41 "ForkedStamps$State" "messageCount" "I", Cond.fieldLink RX2 27 "ForkedStamps$State" "actors" "[I", Cond.fieldLink RX2 45 "ForkedStamps$State" "eventCount" "I", Cond.methodLink RX2 37 yX1_become, Cond.instanceMethod yX1_become, Cond.selects RX1 yX1_become yX1_become, Cond.initialized RX1, Cond.code yX1_become cX1_become 2 none, Cond.fieldLink RX1 9 "ForkedStamps$Stamp" "heights" "[I", Cond.methodLink RX1 15 arraycopyName, Cond.fieldLink RX1 21 "ForkedStamps$Stamp" "knownEarly" "J", Cond.fieldLink RX1 25 "ForkedStamps$Stamp" "knownLate" "J"]
def wsX3_restore : List Cond := .code yX3_restore cX3_restore 2 (some .int) :: ((wsX3_restore_r1 ++ wsX3_restore_r2) ++ wsX30 ++ wsX20 ++ wsX10)
def wsX4_init : List Cond := .code yX4_init cX4_init 1 none :: ([.methodLink RX4 1 objectInit, .instanceMethod objectInit, .code objectInit ⟨#[0xb1]⟩ 1 none, .arrayClass .int, .fieldLink RX4 7 "ForkedStampsModel" "state" "[I", .fieldLink RX4 13 "ForkedStampsModel" "history" "[I", .fieldLink RX4 16 "ForkedStampsModel" "slots" "[I", .fieldLink RX4 19 "ForkedStampsModel" "isSaved" "[I", .fieldLink RX4 22 "ForkedStampsModel" "pad" "[I", .fieldLink RX4 25 "ForkedStampsModel" "tried" "[I", .fieldLink RX4 28 "ForkedStampsModel" "told" "[I", .fieldLink RX4 31 "ForkedStampsModel" "sizes" "[I", .fieldLink RX4 34 "ForkedStampsModel" "halves" "[I", .fieldLink RX4 37 "ForkedStampsModel" "text" "[I", .constant RX4 40 (65535)] ++ wsX40)
def wsX4_moves : List Cond := .code yX4_moves cX4_moves 6 none :: ([])
def wsX4_within : List Cond := .code yX4_within cX4_within 3 (some .boolean) :: ([])
def wsX4_record : List Cond := .code yX4_record cX4_record 2 none :: ([.fieldLink RX4 41 "ForkedStampsModel" "recorded" "I", .fieldLink RX4 13 "ForkedStampsModel" "history" "[I", .fieldLink RX4 7 "ForkedStampsModel" "state" "[I", .methodLink RX4 45 yX4_moves, .static yX4_moves, .initialized RX4, .code yX4_moves cX4_moves 6 none] ++ wsX40)
def wsX4_isHelper : List Cond := .code yX4_isHelper cX4_isHelper 2 (some .boolean) :: ([.fieldLink RX4 7 "ForkedStampsModel" "state" "[I", .methodLink RX4 49 yX4_within, .static yX4_within, .initialized RX4, .code yX4_within cX4_within 3 (some .boolean)] ++ wsX40)
def wsX4_isMessage : List Cond := .code yX4_isMessage cX4_isMessage 2 (some .boolean) :: ([.fieldLink RX4 7 "ForkedStampsModel" "state" "[I", .methodLink RX4 49 yX4_within, .static yX4_within, .initialized RX4, .code yX4_within cX4_within 3 (some .boolean)] ++ wsX40)
def wsX4_helperAt : List Cond := .code yX4_helperAt cX4_helperAt 1 (some .int) :: ([])
def wsX4_messageAt : List Cond := .code yX4_messageAt cX4_messageAt 1 (some .int) :: ([])
def wsX4_isThere : List Cond := .code yX4_isThere cX4_isThere 3 (some .boolean) :: ([.methodLink RX4 53 yX4_isHelper, .instanceMethod yX4_isHelper, .selects RX4 yX4_isHelper yX4_isHelper, .initialized RX4, .code yX4_isHelper cX4_isHelper 2 (some .boolean), .fieldLink RX4 7 "ForkedStampsModel" "state" "[I", .methodLink RX4 49 yX4_within, .static yX4_within, .code yX4_within cX4_within 3 (some .boolean), .methodLink RX4 57 yX4_isMessage, .instanceMethod yX4_isMessage, .selects RX4 yX4_isMessage yX4_isMessage, .code yX4_isMessage cX4_isMessage 2 (some .boolean)] ++ wsX40)
def wsX4_placeOf : List Cond := .code yX4_placeOf cX4_placeOf 2 (some .int) :: ([.methodLink RX4 60 yX4_helperAt, .static yX4_helperAt, .initialized RX4, .code yX4_helperAt cX4_helperAt 1 (some .int), .methodLink RX4 64 yX4_messageAt, .static yX4_messageAt, .code yX4_messageAt cX4_messageAt 1 (some .int)])
def wsX4_bits : List Cond := .code yX4_bits cX4_bits 3 (some .int) :: ([])
def wsX4_orderOf : List Cond := .code yX4_orderOf cX4_orderOf 7 (some .int) :: ([])
def wsX4_takeOver : List Cond := .code yX4_takeOver cX4_takeOver 5 none :: ([])
def wsX4_knownMany : List Cond := .code yX4_knownMany cX4_knownMany 4 (some .int) :: ([.methodLink RX4 67 yX4_bits, .static yX4_bits, .initialized RX4, .code yX4_bits cX4_bits 3 (some .int)])
def wsX4_isOwn : List Cond := .code yX4_isOwn cX4_isOwn 3 (some .boolean) :: ([])
def wsX4_raise : List Cond := .code yX4_raise cX4_raise 5 none :: ([.methodLink RX4 70 yX4_isOwn, .static yX4_isOwn, .initialized RX4, .code yX4_isOwn cX4_isOwn 3 (some .boolean)])
def wsX4_areAlike : List Cond := .code yX4_areAlike cX4_areAlike 6 (some .boolean) :: ([])
def wsX4_knots : List Cond := .code yX4_knots cX4_knots 5 (some .int) :: ([.methodLink RX4 74 yX4_areAlike, .static yX4_areAlike, .initialized RX4, .code yX4_areAlike cX4_areAlike 6 (some .boolean)])
def wsX4_says : List Cond := .code yX4_says cX4_says 2 none :: ([.fieldLink RX4 37 "ForkedStampsModel" "text" "[I", .fieldLink RX4 78 "ForkedStampsModel" "textLength" "I"] ++ wsX40)
def wsX4_saysNumber : List Cond := .code yX4_saysNumber cX4_saysNumber 2 none :: ([.methodLink RX4 81 yX4_says, .instanceMethod yX4_says, .selects RX4 yX4_says yX4_says, .initialized RX4, .code yX4_says cX4_says 2 none, .fieldLink RX4 37 "ForkedStampsModel" "text" "[I", .fieldLink RX4 78 "ForkedStampsModel" "textLength" "I"] ++ wsX40)
def wsX4_print : List Cond := .code yX4_print cX4_print 5 none :: ([.fieldLink RX4 78 "ForkedStampsModel" "textLength" "I", .fieldLink RX4 7 "ForkedStampsModel" "state" "[I", .methodLink RX4 74 yX4_areAlike, .static yX4_areAlike, .initialized RX4, .code yX4_areAlike cX4_areAlike 6 (some .boolean), .methodLink RX4 81 yX4_says, .instanceMethod yX4_says, .selects RX4 yX4_says yX4_says, .code yX4_says cX4_says 2 none, .fieldLink RX4 37 "ForkedStampsModel" "text" "[I", .methodLink RX4 85 yX4_saysNumber, .instanceMethod yX4_saysNumber, .selects RX4 yX4_saysNumber yX4_saysNumber, .code yX4_saysNumber cX4_saysNumber 2 none] ++ wsX40)
def wsX4_freeNumber : List Cond := .code yX4_freeNumber cX4_freeNumber 3 (some .int) :: ([.methodLink RX4 53 yX4_isHelper, .instanceMethod yX4_isHelper, .selects RX4 yX4_isHelper yX4_isHelper, .initialized RX4, .code yX4_isHelper cX4_isHelper 2 (some .boolean), .fieldLink RX4 7 "ForkedStampsModel" "state" "[I", .methodLink RX4 49 yX4_within, .static yX4_within, .code yX4_within cX4_within 3 (some .boolean)] ++ wsX40)
def wsX4_fork_r1 : List Cond := [Cond.fieldLink RX4 7 "ForkedStampsModel" "state" "[I", Cond.methodLink RX4 53 yX4_isHelper, Cond.instanceMethod yX4_isHelper, Cond.selects RX4 yX4_isHelper yX4_isHelper, Cond.initialized RX4, Cond.code yX4_isHelper cX4_isHelper 2 (some .boolean), Cond.methodLink RX4 49 yX4_within, Cond.static yX4_within, Cond.code yX4_within cX4_within 3 (some .boolean), Cond.methodLink RX4 88 yX4_freeNumber, Cond.instanceMethod yX4_freeNumber, Cond.selects RX4 yX4_freeNumber yX4_freeNumber, Cond.code yX4_freeNumber cX4_freeNumber 3 (some .int), Cond.methodLink RX4 60 yX4_helperAt, Cond.static yX4_helperAt, Cond.code yX4_helperAt cX4_helperAt 1 (some .int), Cond.methodLink RX4 67 yX4_bits, Cond.static yX4_bits, Cond.code yX4_bits cX4_bits 3 (some .int), Cond.methodLink RX4 92 yX4_record, Cond.instanceMethod yX4_record, Cond.selects RX4 yX4_record yX4_record, Cond.code yX4_record cX4_record 2 none, Cond.fieldLink RX4 41 "ForkedStampsModel" "recorded" "I"]
def wsX4_fork_r2 : List Cond := [Cond.fieldLink RX4 13 "ForkedStampsModel" "history" "[I", Cond.methodLink RX4 45 yX4_moves, Cond.static yX4_moves, Cond.code yX4_moves cX4_moves 6 none]
def wsX4_fork : List Cond := .code yX4_fork cX4_fork 7 (some .int) :: ((wsX4_fork_r1 ++ wsX4_fork_r2) ++ wsX40)
def wsX4_gather_r1 : List Cond := [Cond.fieldLink RX4 7 "ForkedStampsModel" "state" "[I", Cond.methodLink RX4 53 yX4_isHelper, Cond.instanceMethod yX4_isHelper, Cond.selects RX4 yX4_isHelper yX4_isHelper, Cond.initialized RX4, Cond.code yX4_isHelper cX4_isHelper 2 (some .boolean), Cond.methodLink RX4 49 yX4_within, Cond.static yX4_within, Cond.code yX4_within cX4_within 3 (some .boolean), Cond.methodLink RX4 92 yX4_record, Cond.instanceMethod yX4_record, Cond.selects RX4 yX4_record yX4_record, Cond.code yX4_record cX4_record 2 none, Cond.fieldLink RX4 41 "ForkedStampsModel" "recorded" "I", Cond.fieldLink RX4 13 "ForkedStampsModel" "history" "[I", Cond.methodLink RX4 45 yX4_moves, Cond.static yX4_moves, Cond.code yX4_moves cX4_moves 6 none, Cond.methodLink RX4 60 yX4_helperAt, Cond.static yX4_helperAt, Cond.code yX4_helperAt cX4_helperAt 1 (some .int), Cond.methodLink RX4 95 yX4_takeOver, Cond.static yX4_takeOver, Cond.code yX4_takeOver cX4_takeOver 5 none]
def wsX4_gather_r2 : List Cond := [Cond.methodLink RX4 67 yX4_bits, Cond.static yX4_bits, Cond.code yX4_bits cX4_bits 3 (some .int)]
def wsX4_gather : List Cond := .code yX4_gather cX4_gather 4 (some .int) :: ((wsX4_gather_r1 ++ wsX4_gather_r2) ++ wsX40)
def wsX4_learns : List Cond := .code yX4_learns cX4_learns 3 none :: ([])
def wsX4_happens : List Cond := .code yX4_happens cX4_happens 3 (some .int) :: ([.fieldLink RX4 7 "ForkedStampsModel" "state" "[I", .methodLink RX4 60 yX4_helperAt, .static yX4_helperAt, .initialized RX4, .code yX4_helperAt cX4_helperAt 1 (some .int), .methodLink RX4 99 yX4_raise, .static yX4_raise, .code yX4_raise cX4_raise 5 none, .methodLink RX4 70 yX4_isOwn, .static yX4_isOwn, .code yX4_isOwn cX4_isOwn 3 (some .boolean), .methodLink RX4 103 yX4_learns, .static yX4_learns, .code yX4_learns cX4_learns 3 none] ++ wsX40)
def wsX4_event_r1 : List Cond := [Cond.fieldLink RX4 7 "ForkedStampsModel" "state" "[I", Cond.methodLink RX4 53 yX4_isHelper, Cond.instanceMethod yX4_isHelper, Cond.selects RX4 yX4_isHelper yX4_isHelper, Cond.initialized RX4, Cond.code yX4_isHelper cX4_isHelper 2 (some .boolean), Cond.methodLink RX4 49 yX4_within, Cond.static yX4_within, Cond.code yX4_within cX4_within 3 (some .boolean), Cond.methodLink RX4 92 yX4_record, Cond.instanceMethod yX4_record, Cond.selects RX4 yX4_record yX4_record, Cond.code yX4_record cX4_record 2 none, Cond.fieldLink RX4 41 "ForkedStampsModel" "recorded" "I", Cond.fieldLink RX4 13 "ForkedStampsModel" "history" "[I", Cond.methodLink RX4 45 yX4_moves, Cond.static yX4_moves, Cond.code yX4_moves cX4_moves 6 none, Cond.methodLink RX4 107 yX4_happens, Cond.instanceMethod yX4_happens, Cond.selects RX4 yX4_happens yX4_happens, Cond.code yX4_happens cX4_happens 3 (some .int), Cond.methodLink RX4 60 yX4_helperAt, Cond.static yX4_helperAt]
def wsX4_event_r2 : List Cond := [Cond.code yX4_helperAt cX4_helperAt 1 (some .int), Cond.methodLink RX4 99 yX4_raise, Cond.static yX4_raise, Cond.code yX4_raise cX4_raise 5 none, Cond.methodLink RX4 70 yX4_isOwn, Cond.static yX4_isOwn, Cond.code yX4_isOwn cX4_isOwn 3 (some .boolean), Cond.methodLink RX4 103 yX4_learns, Cond.static yX4_learns, Cond.code yX4_learns cX4_learns 3 none]
def wsX4_event : List Cond := .code yX4_event cX4_event 2 (some .int) :: ((wsX4_event_r1 ++ wsX4_event_r2) ++ wsX40)
def wsX4_send : List Cond := .code yX4_send cX4_send 3 (some .int) :: ([.fieldLink RX4 7 "ForkedStampsModel" "state" "[I", .methodLink RX4 53 yX4_isHelper, .instanceMethod yX4_isHelper, .selects RX4 yX4_isHelper yX4_isHelper, .initialized RX4, .code yX4_isHelper cX4_isHelper 2 (some .boolean), .methodLink RX4 49 yX4_within, .static yX4_within, .code yX4_within cX4_within 3 (some .boolean), .methodLink RX4 92 yX4_record, .instanceMethod yX4_record, .selects RX4 yX4_record yX4_record, .code yX4_record cX4_record 2 none, .fieldLink RX4 41 "ForkedStampsModel" "recorded" "I", .fieldLink RX4 13 "ForkedStampsModel" "history" "[I", .methodLink RX4 45 yX4_moves, .static yX4_moves, .code yX4_moves cX4_moves 6 none, .methodLink RX4 60 yX4_helperAt, .static yX4_helperAt, .code yX4_helperAt cX4_helperAt 1 (some .int), .methodLink RX4 64 yX4_messageAt, .static yX4_messageAt, .code yX4_messageAt cX4_messageAt 1 (some .int)] ++ wsX40)
def wsX4_receive_r1 : List Cond := [Cond.fieldLink RX4 7 "ForkedStampsModel" "state" "[I", Cond.methodLink RX4 53 yX4_isHelper, Cond.instanceMethod yX4_isHelper, Cond.selects RX4 yX4_isHelper yX4_isHelper, Cond.initialized RX4, Cond.code yX4_isHelper cX4_isHelper 2 (some .boolean), Cond.methodLink RX4 49 yX4_within, Cond.static yX4_within, Cond.code yX4_within cX4_within 3 (some .boolean), Cond.methodLink RX4 57 yX4_isMessage, Cond.instanceMethod yX4_isMessage, Cond.selects RX4 yX4_isMessage yX4_isMessage, Cond.code yX4_isMessage cX4_isMessage 2 (some .boolean), Cond.methodLink RX4 92 yX4_record, Cond.instanceMethod yX4_record, Cond.selects RX4 yX4_record yX4_record, Cond.code yX4_record cX4_record 2 none, Cond.fieldLink RX4 41 "ForkedStampsModel" "recorded" "I", Cond.fieldLink RX4 13 "ForkedStampsModel" "history" "[I", Cond.methodLink RX4 45 yX4_moves, Cond.static yX4_moves, Cond.code yX4_moves cX4_moves 6 none, Cond.methodLink RX4 60 yX4_helperAt, Cond.static yX4_helperAt]
def wsX4_receive_r2 : List Cond := [Cond.code yX4_helperAt cX4_helperAt 1 (some .int), Cond.methodLink RX4 64 yX4_messageAt, Cond.static yX4_messageAt, Cond.code yX4_messageAt cX4_messageAt 1 (some .int), Cond.methodLink RX4 95 yX4_takeOver, Cond.static yX4_takeOver, Cond.code yX4_takeOver cX4_takeOver 5 none, Cond.methodLink RX4 107 yX4_happens, Cond.instanceMethod yX4_happens, Cond.selects RX4 yX4_happens yX4_happens, Cond.code yX4_happens cX4_happens 3 (some .int), Cond.methodLink RX4 99 yX4_raise, Cond.static yX4_raise, Cond.code yX4_raise cX4_raise 5 none, Cond.methodLink RX4 70 yX4_isOwn, Cond.static yX4_isOwn, Cond.code yX4_isOwn cX4_isOwn 3 (some .boolean), Cond.methodLink RX4 103 yX4_learns, Cond.static yX4_learns, Cond.code yX4_learns cX4_learns 3 none]
def wsX4_receive : List Cond := .code yX4_receive cX4_receive 3 (some .int) :: ((wsX4_receive_r1 ++ wsX4_receive_r2) ++ wsX40)
def wsX4_drop : List Cond := .code yX4_drop cX4_drop 3 (some .int) :: ([.fieldLink RX4 7 "ForkedStampsModel" "state" "[I", .methodLink RX4 57 yX4_isMessage, .instanceMethod yX4_isMessage, .selects RX4 yX4_isMessage yX4_isMessage, .initialized RX4, .code yX4_isMessage cX4_isMessage 2 (some .boolean), .methodLink RX4 49 yX4_within, .static yX4_within, .code yX4_within cX4_within 3 (some .boolean), .methodLink RX4 92 yX4_record, .instanceMethod yX4_record, .selects RX4 yX4_record yX4_record, .code yX4_record cX4_record 2 none, .fieldLink RX4 41 "ForkedStampsModel" "recorded" "I", .fieldLink RX4 13 "ForkedStampsModel" "history" "[I", .methodLink RX4 45 yX4_moves, .static yX4_moves, .code yX4_moves cX4_moves 6 none, .methodLink RX4 64 yX4_messageAt, .static yX4_messageAt, .code yX4_messageAt cX4_messageAt 1 (some .int)] ++ wsX40)
def wsX4_heights : List Cond := .code yX4_heights cX4_heights 6 (some .int) :: ([.fieldLink RX4 7 "ForkedStampsModel" "state" "[I"] ++ wsX40)
def wsX4_isKnown : List Cond := .code yX4_isKnown cX4_isKnown 3 (some .boolean) :: ([.fieldLink RX4 7 "ForkedStampsModel" "state" "[I"] ++ wsX40)
def wsX4_latestOf : List Cond := .code yX4_latestOf cX4_latestOf 4 (some .int) :: ([.fieldLink RX4 7 "ForkedStampsModel" "state" "[I", .methodLink RX4 110 yX4_isKnown, .instanceMethod yX4_isKnown, .selects RX4 yX4_isKnown yX4_isKnown, .initialized RX4, .code yX4_isKnown cX4_isKnown 3 (some .boolean)] ++ wsX40)
def wsX4_of_r1 : List Cond := [Cond.fieldLink RX4 7 "ForkedStampsModel" "state" "[I", Cond.fieldLink RX4 78 "ForkedStampsModel" "textLength" "I", Cond.methodLink RX4 53 yX4_isHelper, Cond.instanceMethod yX4_isHelper, Cond.selects RX4 yX4_isHelper yX4_isHelper, Cond.initialized RX4, Cond.code yX4_isHelper cX4_isHelper 2 (some .boolean), Cond.methodLink RX4 49 yX4_within, Cond.static yX4_within, Cond.code yX4_within cX4_within 3 (some .boolean), Cond.methodLink RX4 60 yX4_helperAt, Cond.static yX4_helperAt, Cond.code yX4_helperAt cX4_helperAt 1 (some .int), Cond.methodLink RX4 67 yX4_bits, Cond.static yX4_bits, Cond.code yX4_bits cX4_bits 3 (some .int), Cond.methodLink RX4 114 yX4_heights, Cond.instanceMethod yX4_heights, Cond.selects RX4 yX4_heights yX4_heights, Cond.code yX4_heights cX4_heights 6 (some .int), Cond.methodLink RX4 118 yX4_knownMany, Cond.static yX4_knownMany, Cond.code yX4_knownMany cX4_knownMany 4 (some .int), Cond.methodLink RX4 122 yX4_latestOf]
def wsX4_of_r2 : List Cond := [Cond.instanceMethod yX4_latestOf, Cond.selects RX4 yX4_latestOf yX4_latestOf, Cond.code yX4_latestOf cX4_latestOf 4 (some .int), Cond.methodLink RX4 110 yX4_isKnown, Cond.instanceMethod yX4_isKnown, Cond.selects RX4 yX4_isKnown yX4_isKnown, Cond.code yX4_isKnown cX4_isKnown 3 (some .boolean), Cond.methodLink RX4 125 yX4_knots, Cond.static yX4_knots, Cond.code yX4_knots cX4_knots 5 (some .int), Cond.methodLink RX4 74 yX4_areAlike, Cond.static yX4_areAlike, Cond.code yX4_areAlike cX4_areAlike 6 (some .boolean), Cond.methodLink RX4 128 yX4_print, Cond.instanceMethod yX4_print, Cond.selects RX4 yX4_print yX4_print, Cond.code yX4_print cX4_print 5 none, Cond.methodLink RX4 81 yX4_says, Cond.instanceMethod yX4_says, Cond.selects RX4 yX4_says yX4_says, Cond.code yX4_says cX4_says 2 none, Cond.fieldLink RX4 37 "ForkedStampsModel" "text" "[I", Cond.methodLink RX4 85 yX4_saysNumber, Cond.instanceMethod yX4_saysNumber]
def wsX4_of_r3 : List Cond := [Cond.selects RX4 yX4_saysNumber yX4_saysNumber, Cond.code yX4_saysNumber cX4_saysNumber 2 none]
def wsX4_of : List Cond := .code yX4_of cX4_of 4 (some .int) :: ((wsX4_of_r1 ++ (wsX4_of_r2 ++ wsX4_of_r3)) ++ wsX40)
def wsX4_ofMessage_r1 : List Cond := [Cond.fieldLink RX4 7 "ForkedStampsModel" "state" "[I", Cond.methodLink RX4 57 yX4_isMessage, Cond.instanceMethod yX4_isMessage, Cond.selects RX4 yX4_isMessage yX4_isMessage, Cond.initialized RX4, Cond.code yX4_isMessage cX4_isMessage 2 (some .boolean), Cond.methodLink RX4 49 yX4_within, Cond.static yX4_within, Cond.code yX4_within cX4_within 3 (some .boolean), Cond.methodLink RX4 64 yX4_messageAt, Cond.static yX4_messageAt, Cond.code yX4_messageAt cX4_messageAt 1 (some .int), Cond.methodLink RX4 114 yX4_heights, Cond.instanceMethod yX4_heights, Cond.selects RX4 yX4_heights yX4_heights, Cond.code yX4_heights cX4_heights 6 (some .int), Cond.methodLink RX4 118 yX4_knownMany, Cond.static yX4_knownMany, Cond.code yX4_knownMany cX4_knownMany 4 (some .int), Cond.methodLink RX4 67 yX4_bits, Cond.static yX4_bits, Cond.code yX4_bits cX4_bits 3 (some .int), Cond.methodLink RX4 125 yX4_knots, Cond.static yX4_knots]
def wsX4_ofMessage_r2 : List Cond := [Cond.code yX4_knots cX4_knots 5 (some .int), Cond.methodLink RX4 74 yX4_areAlike, Cond.static yX4_areAlike, Cond.code yX4_areAlike cX4_areAlike 6 (some .boolean)]
def wsX4_ofMessage : List Cond := .code yX4_ofMessage cX4_ofMessage 4 (some .int) :: ((wsX4_ofMessage_r1 ++ wsX4_ofMessage_r2) ++ wsX40)
def wsX4_height_r1 : List Cond := [Cond.fieldLink RX4 7 "ForkedStampsModel" "state" "[I", Cond.methodLink RX4 49 yX4_within, Cond.static yX4_within, Cond.initialized RX4, Cond.code yX4_within cX4_within 3 (some .boolean), Cond.methodLink RX4 131 yX4_isThere, Cond.instanceMethod yX4_isThere, Cond.selects RX4 yX4_isThere yX4_isThere, Cond.code yX4_isThere cX4_isThere 3 (some .boolean), Cond.methodLink RX4 53 yX4_isHelper, Cond.instanceMethod yX4_isHelper, Cond.selects RX4 yX4_isHelper yX4_isHelper, Cond.code yX4_isHelper cX4_isHelper 2 (some .boolean), Cond.methodLink RX4 57 yX4_isMessage, Cond.instanceMethod yX4_isMessage, Cond.selects RX4 yX4_isMessage yX4_isMessage, Cond.code yX4_isMessage cX4_isMessage 2 (some .boolean), Cond.methodLink RX4 134 yX4_placeOf, Cond.static yX4_placeOf, Cond.code yX4_placeOf cX4_placeOf 2 (some .int), Cond.methodLink RX4 60 yX4_helperAt, Cond.static yX4_helperAt, Cond.code yX4_helperAt cX4_helperAt 1 (some .int), Cond.methodLink RX4 64 yX4_messageAt]
def wsX4_height_r2 : List Cond := [Cond.static yX4_messageAt, Cond.code yX4_messageAt cX4_messageAt 1 (some .int)]
def wsX4_height : List Cond := .code yX4_height cX4_height 4 (some .int) :: ((wsX4_height_r1 ++ wsX4_height_r2) ++ wsX40)
def wsX4_knows_r1 : List Cond := [Cond.fieldLink RX4 7 "ForkedStampsModel" "state" "[I", Cond.methodLink RX4 49 yX4_within, Cond.static yX4_within, Cond.initialized RX4, Cond.code yX4_within cX4_within 3 (some .boolean), Cond.methodLink RX4 131 yX4_isThere, Cond.instanceMethod yX4_isThere, Cond.selects RX4 yX4_isThere yX4_isThere, Cond.code yX4_isThere cX4_isThere 3 (some .boolean), Cond.methodLink RX4 53 yX4_isHelper, Cond.instanceMethod yX4_isHelper, Cond.selects RX4 yX4_isHelper yX4_isHelper, Cond.code yX4_isHelper cX4_isHelper 2 (some .boolean), Cond.methodLink RX4 57 yX4_isMessage, Cond.instanceMethod yX4_isMessage, Cond.selects RX4 yX4_isMessage yX4_isMessage, Cond.code yX4_isMessage cX4_isMessage 2 (some .boolean), Cond.methodLink RX4 134 yX4_placeOf, Cond.static yX4_placeOf, Cond.code yX4_placeOf cX4_placeOf 2 (some .int), Cond.methodLink RX4 60 yX4_helperAt, Cond.static yX4_helperAt, Cond.code yX4_helperAt cX4_helperAt 1 (some .int), Cond.methodLink RX4 64 yX4_messageAt]
def wsX4_knows_r2 : List Cond := [Cond.static yX4_messageAt, Cond.code yX4_messageAt cX4_messageAt 1 (some .int), Cond.methodLink RX4 110 yX4_isKnown, Cond.instanceMethod yX4_isKnown, Cond.selects RX4 yX4_isKnown yX4_isKnown, Cond.code yX4_isKnown cX4_isKnown 3 (some .boolean)]
def wsX4_knows : List Cond := .code yX4_knows cX4_knows 4 (some .int) :: ((wsX4_knows_r1 ++ wsX4_knows_r2) ++ wsX40)
def wsX4_orderOfHelpers : List Cond := .code yX4_orderOfHelpers cX4_orderOfHelpers 3 (some .int) :: ([.fieldLink RX4 7 "ForkedStampsModel" "state" "[I", .methodLink RX4 60 yX4_helperAt, .static yX4_helperAt, .initialized RX4, .code yX4_helperAt cX4_helperAt 1 (some .int), .methodLink RX4 138 yX4_orderOf, .static yX4_orderOf, .code yX4_orderOf cX4_orderOf 7 (some .int)] ++ wsX40)
def wsX4_clashes : List Cond := .code yX4_clashes cX4_clashes 4 (some .int) :: ([.methodLink RX4 53 yX4_isHelper, .instanceMethod yX4_isHelper, .selects RX4 yX4_isHelper yX4_isHelper, .initialized RX4, .code yX4_isHelper cX4_isHelper 2 (some .boolean), .fieldLink RX4 7 "ForkedStampsModel" "state" "[I", .methodLink RX4 49 yX4_within, .static yX4_within, .code yX4_within cX4_within 3 (some .boolean), .methodLink RX4 142 yX4_orderOfHelpers, .instanceMethod yX4_orderOfHelpers, .selects RX4 yX4_orderOfHelpers yX4_orderOfHelpers, .code yX4_orderOfHelpers cX4_orderOfHelpers 3 (some .int), .methodLink RX4 60 yX4_helperAt, .static yX4_helperAt, .code yX4_helperAt cX4_helperAt 1 (some .int), .methodLink RX4 138 yX4_orderOf, .static yX4_orderOf, .code yX4_orderOf cX4_orderOf 7 (some .int)] ++ wsX40)
def wsX4_allKnots : List Cond := .code yX4_allKnots cX4_allKnots 3 (some .int) :: ([.fieldLink RX4 7 "ForkedStampsModel" "state" "[I", .methodLink RX4 53 yX4_isHelper, .instanceMethod yX4_isHelper, .selects RX4 yX4_isHelper yX4_isHelper, .initialized RX4, .code yX4_isHelper cX4_isHelper 2 (some .boolean), .methodLink RX4 49 yX4_within, .static yX4_within, .code yX4_within cX4_within 3 (some .boolean), .methodLink RX4 60 yX4_helperAt, .static yX4_helperAt, .code yX4_helperAt cX4_helperAt 1 (some .int), .methodLink RX4 125 yX4_knots, .static yX4_knots, .code yX4_knots cX4_knots 5 (some .int), .methodLink RX4 74 yX4_areAlike, .static yX4_areAlike, .code yX4_areAlike cX4_areAlike 6 (some .boolean)] ++ wsX40)
def wsX4_isAhead : List Cond := .code yX4_isAhead cX4_isAhead 5 (some .boolean) :: ([.methodLink RX4 53 yX4_isHelper, .instanceMethod yX4_isHelper, .selects RX4 yX4_isHelper yX4_isHelper, .initialized RX4, .code yX4_isHelper cX4_isHelper 2 (some .boolean), .fieldLink RX4 7 "ForkedStampsModel" "state" "[I", .methodLink RX4 49 yX4_within, .static yX4_within, .code yX4_within cX4_within 3 (some .boolean), .methodLink RX4 142 yX4_orderOfHelpers, .instanceMethod yX4_orderOfHelpers, .selects RX4 yX4_orderOfHelpers yX4_orderOfHelpers, .code yX4_orderOfHelpers cX4_orderOfHelpers 3 (some .int), .methodLink RX4 60 yX4_helperAt, .static yX4_helperAt, .code yX4_helperAt cX4_helperAt 1 (some .int), .methodLink RX4 138 yX4_orderOf, .static yX4_orderOf, .code yX4_orderOf cX4_orderOf 7 (some .int)] ++ wsX40)
def wsX4_leader : List Cond := .code yX4_leader cX4_leader 3 (some .int) :: ([.methodLink RX4 145 yX4_isAhead, .instanceMethod yX4_isAhead, .selects RX4 yX4_isAhead yX4_isAhead, .initialized RX4, .code yX4_isAhead cX4_isAhead 5 (some .boolean), .methodLink RX4 53 yX4_isHelper, .instanceMethod yX4_isHelper, .selects RX4 yX4_isHelper yX4_isHelper, .code yX4_isHelper cX4_isHelper 2 (some .boolean), .fieldLink RX4 7 "ForkedStampsModel" "state" "[I", .methodLink RX4 49 yX4_within, .static yX4_within, .code yX4_within cX4_within 3 (some .boolean), .methodLink RX4 142 yX4_orderOfHelpers, .instanceMethod yX4_orderOfHelpers, .selects RX4 yX4_orderOfHelpers yX4_orderOfHelpers, .code yX4_orderOfHelpers cX4_orderOfHelpers 3 (some .int), .methodLink RX4 60 yX4_helperAt, .static yX4_helperAt, .code yX4_helperAt cX4_helperAt 1 (some .int), .methodLink RX4 138 yX4_orderOf, .static yX4_orderOf, .code yX4_orderOf cX4_orderOf 7 (some .int)] ++ wsX40)
def wsX4_count_r1 : List Cond := [Cond.fieldLink RX4 7 "ForkedStampsModel" "state" "[I", Cond.fieldLink RX4 157 "ForkedStampsModel" "padLength" "I", Cond.fieldLink RX4 41 "ForkedStampsModel" "recorded" "I", Cond.methodLink RX4 148 yX4_clashes, Cond.instanceMethod yX4_clashes, Cond.selects RX4 yX4_clashes yX4_clashes, Cond.initialized RX4, Cond.code yX4_clashes cX4_clashes 4 (some .int), Cond.methodLink RX4 53 yX4_isHelper, Cond.instanceMethod yX4_isHelper, Cond.selects RX4 yX4_isHelper yX4_isHelper, Cond.code yX4_isHelper cX4_isHelper 2 (some .boolean), Cond.methodLink RX4 49 yX4_within, Cond.static yX4_within, Cond.code yX4_within cX4_within 3 (some .boolean), Cond.methodLink RX4 142 yX4_orderOfHelpers, Cond.instanceMethod yX4_orderOfHelpers, Cond.selects RX4 yX4_orderOfHelpers yX4_orderOfHelpers, Cond.code yX4_orderOfHelpers cX4_orderOfHelpers 3 (some .int), Cond.methodLink RX4 60 yX4_helperAt, Cond.static yX4_helperAt, Cond.code yX4_helperAt cX4_helperAt 1 (some .int), Cond.methodLink RX4 138 yX4_orderOf, Cond.static yX4_orderOf]
def wsX4_count_r2 : List Cond := [Cond.code yX4_orderOf cX4_orderOf 7 (some .int), Cond.methodLink RX4 151 yX4_allKnots, Cond.instanceMethod yX4_allKnots, Cond.selects RX4 yX4_allKnots yX4_allKnots, Cond.code yX4_allKnots cX4_allKnots 3 (some .int), Cond.methodLink RX4 125 yX4_knots, Cond.static yX4_knots, Cond.code yX4_knots cX4_knots 5 (some .int), Cond.methodLink RX4 74 yX4_areAlike, Cond.static yX4_areAlike, Cond.code yX4_areAlike cX4_areAlike 6 (some .boolean), Cond.methodLink RX4 154 yX4_leader, Cond.instanceMethod yX4_leader, Cond.selects RX4 yX4_leader yX4_leader, Cond.code yX4_leader cX4_leader 3 (some .int), Cond.methodLink RX4 145 yX4_isAhead, Cond.instanceMethod yX4_isAhead, Cond.selects RX4 yX4_isAhead yX4_isAhead, Cond.code yX4_isAhead cX4_isAhead 5 (some .boolean)]
def wsX4_count : List Cond := .code yX4_count cX4_count 2 (some .int) :: ((wsX4_count_r1 ++ wsX4_count_r2) ++ wsX40)
def wsX4_whose : List Cond := .code yX4_whose cX4_whose 2 (some .int) :: ([.fieldLink RX4 7 "ForkedStampsModel" "state" "[I", .methodLink RX4 49 yX4_within, .static yX4_within, .initialized RX4, .code yX4_within cX4_within 3 (some .boolean)] ++ wsX40)
def wsX4_whyNoOrder : List Cond := .code yX4_whyNoOrder cX4_whyNoOrder 5 (some .int) :: ([.methodLink RX4 49 yX4_within, .static yX4_within, .initialized RX4, .code yX4_within cX4_within 3 (some .boolean), .methodLink RX4 131 yX4_isThere, .instanceMethod yX4_isThere, .selects RX4 yX4_isThere yX4_isThere, .code yX4_isThere cX4_isThere 3 (some .boolean), .methodLink RX4 53 yX4_isHelper, .instanceMethod yX4_isHelper, .selects RX4 yX4_isHelper yX4_isHelper, .code yX4_isHelper cX4_isHelper 2 (some .boolean), .fieldLink RX4 7 "ForkedStampsModel" "state" "[I", .methodLink RX4 57 yX4_isMessage, .instanceMethod yX4_isMessage, .selects RX4 yX4_isMessage yX4_isMessage, .code yX4_isMessage cX4_isMessage 2 (some .boolean)] ++ wsX40)
def wsX4_order_r1 : List Cond := [Cond.fieldLink RX4 7 "ForkedStampsModel" "state" "[I", Cond.methodLink RX4 160 yX4_whyNoOrder, Cond.instanceMethod yX4_whyNoOrder, Cond.selects RX4 yX4_whyNoOrder yX4_whyNoOrder, Cond.initialized RX4, Cond.code yX4_whyNoOrder cX4_whyNoOrder 5 (some .int), Cond.methodLink RX4 49 yX4_within, Cond.static yX4_within, Cond.code yX4_within cX4_within 3 (some .boolean), Cond.methodLink RX4 131 yX4_isThere, Cond.instanceMethod yX4_isThere, Cond.selects RX4 yX4_isThere yX4_isThere, Cond.code yX4_isThere cX4_isThere 3 (some .boolean), Cond.methodLink RX4 53 yX4_isHelper, Cond.instanceMethod yX4_isHelper, Cond.selects RX4 yX4_isHelper yX4_isHelper, Cond.code yX4_isHelper cX4_isHelper 2 (some .boolean), Cond.methodLink RX4 57 yX4_isMessage, Cond.instanceMethod yX4_isMessage, Cond.selects RX4 yX4_isMessage yX4_isMessage, Cond.code yX4_isMessage cX4_isMessage 2 (some .boolean), Cond.methodLink RX4 134 yX4_placeOf, Cond.static yX4_placeOf, Cond.code yX4_placeOf cX4_placeOf 2 (some .int)]
def wsX4_order_r2 : List Cond := [Cond.methodLink RX4 60 yX4_helperAt, Cond.static yX4_helperAt, Cond.code yX4_helperAt cX4_helperAt 1 (some .int), Cond.methodLink RX4 64 yX4_messageAt, Cond.static yX4_messageAt, Cond.code yX4_messageAt cX4_messageAt 1 (some .int), Cond.methodLink RX4 138 yX4_orderOf, Cond.static yX4_orderOf, Cond.code yX4_orderOf cX4_orderOf 7 (some .int)]
def wsX4_order : List Cond := .code yX4_order cX4_order 6 (some .int) :: ((wsX4_order_r1 ++ wsX4_order_r2) ++ wsX40)
def wsX4_more_r1 : List Cond := [Cond.fieldLink RX4 7 "ForkedStampsModel" "state" "[I", Cond.methodLink RX4 160 yX4_whyNoOrder, Cond.instanceMethod yX4_whyNoOrder, Cond.selects RX4 yX4_whyNoOrder yX4_whyNoOrder, Cond.initialized RX4, Cond.code yX4_whyNoOrder cX4_whyNoOrder 5 (some .int), Cond.methodLink RX4 49 yX4_within, Cond.static yX4_within, Cond.code yX4_within cX4_within 3 (some .boolean), Cond.methodLink RX4 131 yX4_isThere, Cond.instanceMethod yX4_isThere, Cond.selects RX4 yX4_isThere yX4_isThere, Cond.code yX4_isThere cX4_isThere 3 (some .boolean), Cond.methodLink RX4 53 yX4_isHelper, Cond.instanceMethod yX4_isHelper, Cond.selects RX4 yX4_isHelper yX4_isHelper, Cond.code yX4_isHelper cX4_isHelper 2 (some .boolean), Cond.methodLink RX4 57 yX4_isMessage, Cond.instanceMethod yX4_isMessage, Cond.selects RX4 yX4_isMessage yX4_isMessage, Cond.code yX4_isMessage cX4_isMessage 2 (some .boolean), Cond.methodLink RX4 134 yX4_placeOf, Cond.static yX4_placeOf, Cond.code yX4_placeOf cX4_placeOf 2 (some .int)]
def wsX4_more_r2 : List Cond := [Cond.methodLink RX4 60 yX4_helperAt, Cond.static yX4_helperAt, Cond.code yX4_helperAt cX4_helperAt 1 (some .int), Cond.methodLink RX4 64 yX4_messageAt, Cond.static yX4_messageAt, Cond.code yX4_messageAt cX4_messageAt 1 (some .int), Cond.methodLink RX4 67 yX4_bits, Cond.static yX4_bits, Cond.code yX4_bits cX4_bits 3 (some .int)]
def wsX4_more : List Cond := .code yX4_more cX4_more 10 (some .int) :: ((wsX4_more_r1 ++ wsX4_more_r2) ++ wsX40)
def wsX4_character : List Cond := .code yX4_character cX4_character 2 (some .int) :: ([.fieldLink RX4 157 "ForkedStampsModel" "padLength" "I", .fieldLink RX4 22 "ForkedStampsModel" "pad" "[I"] ++ wsX40)
def wsX4_findFault : List Cond := .code yX4_findFault cX4_findFault 7 (some .int) :: ([.fieldLink RX4 31 "ForkedStampsModel" "sizes" "[I", .fieldLink RX4 34 "ForkedStampsModel" "halves" "[I", .fieldLink RX4 28 "ForkedStampsModel" "told" "[I", .fieldLink RX4 157 "ForkedStampsModel" "padLength" "I", .methodLink RX4 169 yX4_character, .instanceMethod yX4_character, .selects RX4 yX4_character yX4_character, .initialized RX4, .code yX4_character cX4_character 2 (some .int), .fieldLink RX4 22 "ForkedStampsModel" "pad" "[I", .methodLink RX4 49 yX4_within, .static yX4_within, .code yX4_within cX4_within 3 (some .boolean)] ++ wsX40)
def wsX4_orderToPad_r1 : List Cond := [Cond.fieldLink RX4 7 "ForkedStampsModel" "state" "[I", Cond.fieldLink RX4 28 "ForkedStampsModel" "told" "[I", Cond.methodLink RX4 53 yX4_isHelper, Cond.instanceMethod yX4_isHelper, Cond.selects RX4 yX4_isHelper yX4_isHelper, Cond.initialized RX4, Cond.code yX4_isHelper cX4_isHelper 2 (some .boolean), Cond.methodLink RX4 49 yX4_within, Cond.static yX4_within, Cond.code yX4_within cX4_within 3 (some .boolean), Cond.methodLink RX4 164 yX4_findFault, Cond.instanceMethod yX4_findFault, Cond.selects RX4 yX4_findFault yX4_findFault, Cond.code yX4_findFault cX4_findFault 7 (some .int), Cond.fieldLink RX4 31 "ForkedStampsModel" "sizes" "[I", Cond.fieldLink RX4 34 "ForkedStampsModel" "halves" "[I", Cond.fieldLink RX4 157 "ForkedStampsModel" "padLength" "I", Cond.methodLink RX4 169 yX4_character, Cond.instanceMethod yX4_character, Cond.selects RX4 yX4_character yX4_character, Cond.code yX4_character cX4_character 2 (some .int), Cond.fieldLink RX4 22 "ForkedStampsModel" "pad" "[I", Cond.methodLink RX4 60 yX4_helperAt, Cond.static yX4_helperAt]
def wsX4_orderToPad_r2 : List Cond := [Cond.code yX4_helperAt cX4_helperAt 1 (some .int), Cond.methodLink RX4 138 yX4_orderOf, Cond.static yX4_orderOf, Cond.code yX4_orderOf cX4_orderOf 7 (some .int)]
def wsX4_orderToPad : List Cond := .code yX4_orderToPad cX4_orderToPad 2 (some .int) :: ((wsX4_orderToPad_r1 ++ wsX4_orderToPad_r2) ++ wsX40)
def wsX4_printed_r1 : List Cond := [Cond.fieldLink RX4 78 "ForkedStampsModel" "textLength" "I", Cond.fieldLink RX4 37 "ForkedStampsModel" "text" "[I", Cond.methodLink RX4 53 yX4_isHelper, Cond.instanceMethod yX4_isHelper, Cond.selects RX4 yX4_isHelper yX4_isHelper, Cond.initialized RX4, Cond.code yX4_isHelper cX4_isHelper 2 (some .boolean), Cond.fieldLink RX4 7 "ForkedStampsModel" "state" "[I", Cond.methodLink RX4 49 yX4_within, Cond.static yX4_within, Cond.code yX4_within cX4_within 3 (some .boolean), Cond.methodLink RX4 60 yX4_helperAt, Cond.static yX4_helperAt, Cond.code yX4_helperAt cX4_helperAt 1 (some .int), Cond.methodLink RX4 128 yX4_print, Cond.instanceMethod yX4_print, Cond.selects RX4 yX4_print yX4_print, Cond.code yX4_print cX4_print 5 none, Cond.methodLink RX4 74 yX4_areAlike, Cond.static yX4_areAlike, Cond.code yX4_areAlike cX4_areAlike 6 (some .boolean), Cond.methodLink RX4 81 yX4_says, Cond.instanceMethod yX4_says, Cond.selects RX4 yX4_says yX4_says]
def wsX4_printed_r2 : List Cond := [Cond.code yX4_says cX4_says 2 none, Cond.methodLink RX4 85 yX4_saysNumber, Cond.instanceMethod yX4_saysNumber, Cond.selects RX4 yX4_saysNumber yX4_saysNumber, Cond.code yX4_saysNumber cX4_saysNumber 2 none]
def wsX4_printed : List Cond := .code yX4_printed cX4_printed 3 (some .int) :: ((wsX4_printed_r1 ++ wsX4_printed_r2) ++ wsX40)
def wsX4_ifReceive_r1 : List Cond := [Cond.fieldLink RX4 7 "ForkedStampsModel" "state" "[I", Cond.fieldLink RX4 25 "ForkedStampsModel" "tried" "[I", Cond.methodLink RX4 53 yX4_isHelper, Cond.instanceMethod yX4_isHelper, Cond.selects RX4 yX4_isHelper yX4_isHelper, Cond.initialized RX4, Cond.code yX4_isHelper cX4_isHelper 2 (some .boolean), Cond.methodLink RX4 49 yX4_within, Cond.static yX4_within, Cond.code yX4_within cX4_within 3 (some .boolean), Cond.methodLink RX4 57 yX4_isMessage, Cond.instanceMethod yX4_isMessage, Cond.selects RX4 yX4_isMessage yX4_isMessage, Cond.code yX4_isMessage cX4_isMessage 2 (some .boolean), Cond.methodLink RX4 60 yX4_helperAt, Cond.static yX4_helperAt, Cond.code yX4_helperAt cX4_helperAt 1 (some .int), Cond.methodLink RX4 45 yX4_moves, Cond.static yX4_moves, Cond.code yX4_moves cX4_moves 6 none, Cond.methodLink RX4 64 yX4_messageAt, Cond.static yX4_messageAt, Cond.code yX4_messageAt cX4_messageAt 1 (some .int), Cond.methodLink RX4 95 yX4_takeOver]
def wsX4_ifReceive_r2 : List Cond := [Cond.static yX4_takeOver, Cond.code yX4_takeOver cX4_takeOver 5 none, Cond.methodLink RX4 99 yX4_raise, Cond.static yX4_raise, Cond.code yX4_raise cX4_raise 5 none, Cond.methodLink RX4 70 yX4_isOwn, Cond.static yX4_isOwn, Cond.code yX4_isOwn cX4_isOwn 3 (some .boolean), Cond.methodLink RX4 118 yX4_knownMany, Cond.static yX4_knownMany, Cond.code yX4_knownMany cX4_knownMany 4 (some .int), Cond.methodLink RX4 67 yX4_bits, Cond.static yX4_bits, Cond.code yX4_bits cX4_bits 3 (some .int), Cond.methodLink RX4 138 yX4_orderOf, Cond.static yX4_orderOf, Cond.code yX4_orderOf cX4_orderOf 7 (some .int), Cond.methodLink RX4 125 yX4_knots, Cond.static yX4_knots, Cond.code yX4_knots cX4_knots 5 (some .int), Cond.methodLink RX4 74 yX4_areAlike, Cond.static yX4_areAlike, Cond.code yX4_areAlike cX4_areAlike 6 (some .boolean)]
def wsX4_ifReceive : List Cond := .code yX4_ifReceive cX4_ifReceive 4 (some .int) :: ((wsX4_ifReceive_r1 ++ wsX4_ifReceive_r2) ++ wsX40)
def wsX4_laggard : List Cond := .code yX4_laggard cX4_laggard 7 (some .int) :: ([.fieldLink RX4 7 "ForkedStampsModel" "state" "[I", .methodLink RX4 49 yX4_within, .static yX4_within, .initialized RX4, .code yX4_within cX4_within 3 (some .boolean), .methodLink RX4 60 yX4_helperAt, .static yX4_helperAt, .code yX4_helperAt cX4_helperAt 1 (some .int), .methodLink RX4 118 yX4_knownMany, .static yX4_knownMany, .code yX4_knownMany cX4_knownMany 4 (some .int), .methodLink RX4 67 yX4_bits, .static yX4_bits, .code yX4_bits cX4_bits 3 (some .int), .methodLink RX4 53 yX4_isHelper, .instanceMethod yX4_isHelper, .selects RX4 yX4_isHelper yX4_isHelper, .code yX4_isHelper cX4_isHelper 2 (some .boolean)] ++ wsX40)
def wsX4_put : List Cond := .code yX4_put cX4_put 8 (some .int) :: ([.constantLong RX4 167 (255), .fieldLink RX4 157 "ForkedStampsModel" "padLength" "I", .fieldLink RX4 22 "ForkedStampsModel" "pad" "[I", .methodLink RX4 49 yX4_within, .static yX4_within, .initialized RX4, .code yX4_within cX4_within 3 (some .boolean)] ++ wsX40)
def wsX4_wipe : List Cond := .code yX4_wipe cX4_wipe 2 (some .int) :: ([.fieldLink RX4 157 "ForkedStampsModel" "padLength" "I"] ++ wsX40)
def wsX4_fault : List Cond := .code yX4_fault cX4_fault 1 (some .int) :: ([.methodLink RX4 164 yX4_findFault, .instanceMethod yX4_findFault, .selects RX4 yX4_findFault yX4_findFault, .initialized RX4, .code yX4_findFault cX4_findFault 7 (some .int), .fieldLink RX4 31 "ForkedStampsModel" "sizes" "[I", .fieldLink RX4 34 "ForkedStampsModel" "halves" "[I", .fieldLink RX4 28 "ForkedStampsModel" "told" "[I", .fieldLink RX4 157 "ForkedStampsModel" "padLength" "I", .methodLink RX4 169 yX4_character, .instanceMethod yX4_character, .selects RX4 yX4_character yX4_character, .code yX4_character cX4_character 2 (some .int), .fieldLink RX4 22 "ForkedStampsModel" "pad" "[I", .methodLink RX4 49 yX4_within, .static yX4_within, .code yX4_within cX4_within 3 (some .boolean)] ++ wsX40)
def wsX4_undo : List Cond := .code yX4_undo cX4_undo 1 (some .int) :: ([.fieldLink RX4 41 "ForkedStampsModel" "recorded" "I", .fieldLink RX4 13 "ForkedStampsModel" "history" "[I", .fieldLink RX4 7 "ForkedStampsModel" "state" "[I", .methodLink RX4 45 yX4_moves, .static yX4_moves, .initialized RX4, .code yX4_moves cX4_moves 6 none] ++ wsX40)
def wsX4_save : List Cond := .code yX4_save cX4_save 2 (some .int) :: ([.fieldLink RX4 7 "ForkedStampsModel" "state" "[I", .fieldLink RX4 16 "ForkedStampsModel" "slots" "[I", .fieldLink RX4 19 "ForkedStampsModel" "isSaved" "[I", .methodLink RX4 49 yX4_within, .static yX4_within, .initialized RX4, .code yX4_within cX4_within 3 (some .boolean), .methodLink RX4 45 yX4_moves, .static yX4_moves, .code yX4_moves cX4_moves 6 none] ++ wsX40)
def wsX4_restore : List Cond := .code yX4_restore cX4_restore 2 (some .int) :: ([.fieldLink RX4 19 "ForkedStampsModel" "isSaved" "[I", .fieldLink RX4 16 "ForkedStampsModel" "slots" "[I", .fieldLink RX4 7 "ForkedStampsModel" "state" "[I", .methodLink RX4 49 yX4_within, .static yX4_within, .initialized RX4, .code yX4_within cX4_within 3 (some .boolean), .methodLink RX4 92 yX4_record, .instanceMethod yX4_record, .selects RX4 yX4_record yX4_record, .code yX4_record cX4_record 2 none, .fieldLink RX4 41 "ForkedStampsModel" "recorded" "I", .fieldLink RX4 13 "ForkedStampsModel" "history" "[I", .methodLink RX4 45 yX4_moves, .static yX4_moves, .code yX4_moves cX4_moves 6 none] ++ wsX40)
def wsJ9_max_7cf53 : List Cond := .code yJ9_max_7cf53 cJ9_max_7cf53 2 (some .int) :: ([])
def wsJ9_min_7cf53 : List Cond := .code yJ9_min_7cf53 cJ9_min_7cf53 2 (some .int) :: ([])
def wsL_law_r1 : List Cond := [Cond.classLink RL 7 RX3, Cond.instantiable RX3 8, Cond.initialized RX3, Cond.classLink RL 10 RX4, Cond.instantiable RX4 13, Cond.initialized RX4, Cond.constantLong RL 89 (4294967295), Cond.methodLink RL 9 yX3_init, Cond.instanceMethod yX3_init, Cond.code yX3_init cX3_init 2 none, Cond.methodLink RX3 1 objectInit, Cond.instanceMethod objectInit, Cond.code objectInit ⟨#[0xb1]⟩ 1 none, Cond.classLink RX3 7 RX2, Cond.instantiable RX2 7, Cond.initialized RX2, Cond.fieldLink RX3 10 "ForkedStamps" "now" "LForkedStamps$State;", Cond.fieldLink RX3 16 "ForkedStamps" "history" "[LForkedStamps$State;", Cond.fieldLink RX3 20 "ForkedStamps" "slots" "[LForkedStamps$State;", Cond.arrayClass .boolean, Cond.fieldLink RX3 23 "ForkedStamps" "saved" "[Z", Cond.classLink RX3 27 RX0, Cond.instantiable RX0 7, Cond.initialized RX0]
def wsL_law_r2 : List Cond := [Cond.fieldLink RX3 30 "ForkedStamps" "pad" "LForkedStamps$Pad;", Cond.classLink RX3 34 RX1, Cond.instantiable RX1 3, Cond.initialized RX1, Cond.fieldLink RX3 37 "ForkedStamps" "trial" "LForkedStamps$Stamp;", Cond.classLink RX3 41 RJ4, Cond.instantiable RJ4 4, Cond.initialized RJ4, Cond.fieldLink RX3 44 "ForkedStamps" "text" "Ljava/lang/StringBuilder;", Cond.fieldLink RX3 48 "ForkedStamps$State" "shares" "[I", Cond.constant RX3 52 (65535), Cond.methodLink RX3 9 yX2_init, Cond.instanceMethod yX2_init, Cond.code yX2_init cX2_init 2 none, Cond.methodLink RX2 3 objectInit, Cond.arrayClass .int, Cond.fieldLink RX2 9 "ForkedStamps$State" "shares" "[I", Cond.classLink RX2 15 RX1, Cond.fieldLink RX2 17 "ForkedStamps$State" "helpers" "[LForkedStamps$Stamp;", Cond.fieldLink RX2 21 "ForkedStamps$State" "messages" "[LForkedStamps$Stamp;", Cond.fieldLink RX2 24 "ForkedStamps$State" "senders" "[I", Cond.fieldLink RX2 27 "ForkedStamps$State" "actors" "[I", Cond.instanceMethod yX1_init, Cond.code yX1_init cX1_init 1 none]
def wsL_law_r3 : List Cond := [Cond.methodLink RX1 3 objectInit, Cond.fieldLink RX1 9 "ForkedStamps$Stamp" "heights" "[I", Cond.instanceMethod yX0_init, Cond.code yX0_init cX0_init 1 none, Cond.methodLink RX0 3 objectInit, Cond.arrayClass .char, Cond.fieldLink RX0 9 "ForkedStamps$Pad" "characters" "[C", Cond.classLink RX0 15 RX1, Cond.fieldLink RX0 18 "ForkedStamps$Pad" "stamp" "LForkedStamps$Stamp;", Cond.methodLink RX3 43 yJ4_init_da8c8, Cond.instanceMethod yJ4_init_da8c8, Cond.code yJ4_init_da8c8 cJ4_init_da8c8 1 none, Cond.methodLink RJ4 1 yJ5_init_d00df, Cond.instanceMethod yJ5_init_d00df, Cond.initialized RJ5, Cond.code yJ5_init_d00df cJ5_init_d00df 2 none, Cond.methodLink RJ5 3 objectInit, Cond.fieldLink RJ5 18 "java/lang/String" "COMPACT_STRINGS" "Z", Cond.arrayClass .byte, Cond.fieldLink RJ5 15 "java/lang/AbstractStringBuilder" "value" "[B", Cond.fieldLink RJ5 22 "java/lang/AbstractStringBuilder" "coder" "B", Cond.methodLink RJ5 26 yJ2_newBytesFor_77867, Cond.static yJ2_newBytesFor_77867, Cond.initialized RJ2]
def wsL_law_r4 : List Cond := [Cond.code yJ2_newBytesFor_77867 cJ2_newBytesFor_77867 1 (some (.array .byte)), Cond.methodLink RJ2 11 yJ2_newBytesLength_0f7a4, Cond.static yJ2_newBytesLength_0f7a4, Cond.code yJ2_newBytesLength_0f7a4 cJ2_newBytesLength_0f7a4 1 (some .int), Cond.constant RJ2 20 (1073741823), Cond.methodLink RL 12 yX4_init, Cond.instanceMethod yX4_init, Cond.code yX4_init cX4_init 1 none, Cond.methodLink RX4 1 objectInit, Cond.fieldLink RX4 7 "ForkedStampsModel" "state" "[I", Cond.fieldLink RX4 13 "ForkedStampsModel" "history" "[I", Cond.fieldLink RX4 16 "ForkedStampsModel" "slots" "[I", Cond.fieldLink RX4 19 "ForkedStampsModel" "isSaved" "[I", Cond.fieldLink RX4 22 "ForkedStampsModel" "pad" "[I", Cond.fieldLink RX4 25 "ForkedStampsModel" "tried" "[I", Cond.fieldLink RX4 28 "ForkedStampsModel" "told" "[I", Cond.fieldLink RX4 31 "ForkedStampsModel" "sizes" "[I", Cond.fieldLink RX4 34 "ForkedStampsModel" "halves" "[I", Cond.fieldLink RX4 37 "ForkedStampsModel" "text" "[I", Cond.constant RX4 40 (65535), Cond.methodLink RL 13 yX3_fork, Cond.instanceMethod yX3_fork, Cond.selects RX3 yX3_fork yX3_fork, Cond.code yX3_fork cX3_fork 3 (some .int)]
def wsL_law_r5 : List Cond := [Cond.methodLink RX3 53 yX2_isHelper, Cond.instanceMethod yX2_isHelper, Cond.selects RX2 yX2_isHelper yX2_isHelper, Cond.code yX2_isHelper cX2_isHelper 2 (some .boolean), Cond.methodLink RX3 57 yX2_lowestFreeHelper, Cond.instanceMethod yX2_lowestFreeHelper, Cond.selects RX2 yX2_lowestFreeHelper yX2_lowestFreeHelper, Cond.code yX2_lowestFreeHelper cX2_lowestFreeHelper 2 (some .int), Cond.methodLink RX2 48 yX2_isHelper, Cond.methodLink RX3 61 yJ6_bitCount_0f7a4, Cond.static yJ6_bitCount_0f7a4, Cond.initialized RJ6, Cond.code yJ6_bitCount_0f7a4 cJ6_bitCount_0f7a4 1 (some .int), Cond.constant RJ6 265 (1431655765), Cond.constant RJ6 266 (858993459), Cond.constant RJ6 267 (252645135), Cond.methodLink RX3 67 yX3_remember, Cond.instanceMethod yX3_remember, Cond.selects RX3 yX3_remember yX3_remember, Cond.code yX3_remember cX3_remember 1 none, Cond.fieldLink RX3 163 "ForkedStamps" "historyCount" "I", Cond.methodLink RX3 209 yX3_forgetOldest, Cond.instanceMethod yX3_forgetOldest, Cond.selects RX3 yX3_forgetOldest yX3_forgetOldest]
def wsL_law_r6 : List Cond := [Cond.code yX3_forgetOldest cX3_forgetOldest 3 none, Cond.methodLink RX3 203 yX2_become, Cond.instanceMethod yX2_become, Cond.selects RX2 yX2_become yX2_become, Cond.code yX2_become cX2_become 3 none, Cond.methodLink RX2 31 arraycopyName, Cond.native arraycopyName, Cond.static arraycopyName, Cond.initialized "java/lang/System", Cond.fieldLink RX2 41 "ForkedStamps$State" "messageCount" "I", Cond.fieldLink RX2 45 "ForkedStamps$State" "eventCount" "I", Cond.methodLink RX2 37 yX1_become, Cond.instanceMethod yX1_become, Cond.selects RX1 yX1_become yX1_become, Cond.code yX1_become cX1_become 2 none, Cond.methodLink RX1 15 arraycopyName, Cond.fieldLink RX1 21 "ForkedStamps$Stamp" "knownEarly" "J", Cond.fieldLink RX1 25 "ForkedStamps$Stamp" "knownLate" "J", Cond.methodLink RX3 70 yX2_split, Cond.instanceMethod yX2_split, Cond.selects RX2 yX2_split yX2_split, Cond.code yX2_split cX2_split 6 none, Cond.methodLink RX2 55 yJ6_bitCount_0f7a4, Cond.methodLink RX2 61 yX2_lowestCells]
def wsL_law_r7 : List Cond := [Cond.static yX2_lowestCells, Cond.code yX2_lowestCells cX2_lowestCells 4 (some .int), Cond.methodLink RL 17 yX4_fork, Cond.instanceMethod yX4_fork, Cond.selects RX4 yX4_fork yX4_fork, Cond.code yX4_fork cX4_fork 7 (some .int), Cond.methodLink RX4 53 yX4_isHelper, Cond.instanceMethod yX4_isHelper, Cond.selects RX4 yX4_isHelper yX4_isHelper, Cond.code yX4_isHelper cX4_isHelper 2 (some .boolean), Cond.methodLink RX4 49 yX4_within, Cond.static yX4_within, Cond.code yX4_within cX4_within 3 (some .boolean), Cond.methodLink RX4 88 yX4_freeNumber, Cond.instanceMethod yX4_freeNumber, Cond.selects RX4 yX4_freeNumber yX4_freeNumber, Cond.code yX4_freeNumber cX4_freeNumber 3 (some .int), Cond.methodLink RX4 60 yX4_helperAt, Cond.static yX4_helperAt, Cond.code yX4_helperAt cX4_helperAt 1 (some .int), Cond.methodLink RX4 67 yX4_bits, Cond.static yX4_bits, Cond.code yX4_bits cX4_bits 3 (some .int), Cond.methodLink RX4 92 yX4_record]
def wsL_law_r8 : List Cond := [Cond.instanceMethod yX4_record, Cond.selects RX4 yX4_record yX4_record, Cond.code yX4_record cX4_record 2 none, Cond.fieldLink RX4 41 "ForkedStampsModel" "recorded" "I", Cond.methodLink RX4 45 yX4_moves, Cond.static yX4_moves, Cond.code yX4_moves cX4_moves 6 none, Cond.methodLink RL 18 yX3_gather, Cond.instanceMethod yX3_gather, Cond.selects RX3 yX3_gather yX3_gather, Cond.code yX3_gather cX3_gather 3 (some .int), Cond.methodLink RX3 74 yX2_merge, Cond.instanceMethod yX2_merge, Cond.selects RX2 yX2_merge yX2_merge, Cond.code yX2_merge cX2_merge 3 none, Cond.methodLink RX2 65 yX1_takeOver, Cond.instanceMethod yX1_takeOver, Cond.selects RX1 yX1_takeOver yX1_takeOver, Cond.code yX1_takeOver cX1_takeOver 3 none, Cond.methodLink RX1 28 Lib.Math.max.name, Cond.static Lib.Math.max.name, Cond.initialized "java/lang/Math", Cond.code Lib.Math.max.name Lib.Math.max.code 2 (some .int), Cond.methodLink RL 22 yX4_gather]
def wsL_law_r9 : List Cond := [Cond.instanceMethod yX4_gather, Cond.selects RX4 yX4_gather yX4_gather, Cond.code yX4_gather cX4_gather 4 (some .int), Cond.methodLink RX4 95 yX4_takeOver, Cond.static yX4_takeOver, Cond.code yX4_takeOver cX4_takeOver 5 none, Cond.methodLink RL 23 yX3_event, Cond.instanceMethod yX3_event, Cond.selects RX3 yX3_event yX3_event, Cond.code yX3_event cX3_event 2 (some .int), Cond.fieldLink RX3 77 "ForkedStamps$State" "eventCount" "I", Cond.methodLink RX3 81 yX2_addEvent, Cond.instanceMethod yX2_addEvent, Cond.selects RX2 yX2_addEvent yX2_addEvent, Cond.code yX2_addEvent cX2_addEvent 3 (some .int), Cond.methodLink RX2 68 yX1_raise, Cond.instanceMethod yX1_raise, Cond.selects RX1 yX1_raise yX1_raise, Cond.code yX1_raise cX1_raise 5 none, Cond.methodLink RX1 34 yX1_greatestIn, Cond.instanceMethod yX1_greatestIn, Cond.selects RX1 yX1_greatestIn yX1_greatestIn, Cond.code yX1_greatestIn cX1_greatestIn 4 (some .int), Cond.methodLink RX1 42 yX1_isIn]
def wsL_law_r10 : List Cond := [Cond.static yX1_isIn, Cond.code yX1_isIn cX1_isIn 2 (some .boolean), Cond.methodLink RX1 38 yX1_isLevel, Cond.instanceMethod yX1_isLevel, Cond.selects RX1 yX1_isLevel yX1_isLevel, Cond.code yX1_isLevel cX1_isLevel 4 (some .boolean), Cond.methodLink RX2 72 yX1_learn, Cond.instanceMethod yX1_learn, Cond.selects RX1 yX1_learn yX1_learn, Cond.code yX1_learn cX1_learn 2 none, Cond.methodLink RL 26 yX4_event, Cond.instanceMethod yX4_event, Cond.selects RX4 yX4_event yX4_event, Cond.code yX4_event cX4_event 2 (some .int), Cond.methodLink RX4 107 yX4_happens, Cond.instanceMethod yX4_happens, Cond.selects RX4 yX4_happens yX4_happens, Cond.code yX4_happens cX4_happens 3 (some .int), Cond.methodLink RX4 99 yX4_raise, Cond.static yX4_raise, Cond.code yX4_raise cX4_raise 5 none, Cond.methodLink RX4 70 yX4_isOwn, Cond.static yX4_isOwn, Cond.code yX4_isOwn cX4_isOwn 3 (some .boolean)]
def wsL_law_r11 : List Cond := [Cond.methodLink RX4 103 yX4_learns, Cond.static yX4_learns, Cond.code yX4_learns cX4_learns 3 none, Cond.methodLink RL 27 yX3_send, Cond.instanceMethod yX3_send, Cond.selects RX3 yX3_send yX3_send, Cond.code yX3_send cX3_send 2 (some .int), Cond.fieldLink RX3 84 "ForkedStamps$State" "messageCount" "I", Cond.methodLink RX3 87 yX2_addMessage, Cond.instanceMethod yX2_addMessage, Cond.selects RX2 yX2_addMessage yX2_addMessage, Cond.code yX2_addMessage cX2_addMessage 3 (some .int), Cond.methodLink RL 30 yX4_send, Cond.instanceMethod yX4_send, Cond.selects RX4 yX4_send yX4_send, Cond.code yX4_send cX4_send 3 (some .int), Cond.methodLink RX4 64 yX4_messageAt, Cond.static yX4_messageAt, Cond.code yX4_messageAt cX4_messageAt 1 (some .int), Cond.methodLink RL 31 yX3_receive, Cond.instanceMethod yX3_receive, Cond.selects RX3 yX3_receive yX3_receive, Cond.code yX3_receive cX3_receive 3 (some .int), Cond.fieldLink RX3 93 "ForkedStamps$State" "helpers" "[LForkedStamps$Stamp;"]
def wsL_law_r12 : List Cond := [Cond.fieldLink RX3 97 "ForkedStamps$State" "messages" "[LForkedStamps$Stamp;", Cond.methodLink RX3 90 yX2_isMessage, Cond.instanceMethod yX2_isMessage, Cond.selects RX2 yX2_isMessage yX2_isMessage, Cond.code yX2_isMessage cX2_isMessage 2 (some .boolean), Cond.methodLink RX3 100 yX1_takeOver, Cond.methodLink RL 34 yX4_receive, Cond.instanceMethod yX4_receive, Cond.selects RX4 yX4_receive yX4_receive, Cond.code yX4_receive cX4_receive 3 (some .int), Cond.methodLink RX4 57 yX4_isMessage, Cond.instanceMethod yX4_isMessage, Cond.selects RX4 yX4_isMessage yX4_isMessage, Cond.code yX4_isMessage cX4_isMessage 2 (some .boolean), Cond.methodLink RL 35 yX3_drop, Cond.instanceMethod yX3_drop, Cond.selects RX3 yX3_drop yX3_drop, Cond.code yX3_drop cX3_drop 2 (some .int), Cond.methodLink RX3 104 yX2_removeMessage, Cond.instanceMethod yX2_removeMessage, Cond.selects RX2 yX2_removeMessage yX2_removeMessage, Cond.code yX2_removeMessage cX2_removeMessage 3 none, Cond.methodLink RL 38 yX4_drop, Cond.instanceMethod yX4_drop]
def wsL_law_r13 : List Cond := [Cond.selects RX4 yX4_drop yX4_drop, Cond.code yX4_drop cX4_drop 3 (some .int), Cond.methodLink RL 39 yX3_of, Cond.instanceMethod yX3_of, Cond.selects RX3 yX3_of yX3_of, Cond.code yX3_of cX3_of 4 (some .int), Cond.methodLink RX3 108 yX1_greatestIn, Cond.methodLink RX3 111 yX1_sum, Cond.instanceMethod yX1_sum, Cond.selects RX1 yX1_sum yX1_sum, Cond.code yX1_sum cX1_sum 6 (some .int), Cond.methodLink RX3 114 yX1_knownCount, Cond.instanceMethod yX1_knownCount, Cond.selects RX1 yX1_knownCount yX1_knownCount, Cond.code yX1_knownCount cX1_knownCount 1 (some .int), Cond.methodLink RX1 45 yJ13_bitCount_95d88, Cond.static yJ13_bitCount_95d88, Cond.initialized RJ13, Cond.code yJ13_bitCount_95d88 cJ13_bitCount_95d88 2 (some .int), Cond.constantLong RJ13 314 (6148914691236517205), Cond.constantLong RJ13 316 (3689348814741910323), Cond.constantLong RJ13 318 (1085102592571150095), Cond.methodLink RX3 117 yX1_latestKnown, Cond.instanceMethod yX1_latestKnown]
def wsL_law_r14 : List Cond := [Cond.selects RX1 yX1_latestKnown yX1_latestKnown, Cond.code yX1_latestKnown cX1_latestKnown 2 (some .int), Cond.methodLink RX1 53 yX1_isKnown, Cond.instanceMethod yX1_isKnown, Cond.selects RX1 yX1_isKnown yX1_isKnown, Cond.code yX1_isKnown cX1_isKnown 4 (some .boolean), Cond.methodLink RX3 120 yX1_knots, Cond.instanceMethod yX1_knots, Cond.selects RX1 yX1_knots yX1_knots, Cond.code yX1_knots cX1_knots 1 (some .int), Cond.methodLink RX1 57 yX1_knotsOfRow, Cond.static yX1_knotsOfRow, Cond.code yX1_knotsOfRow cX1_knotsOfRow 4 (some .int), Cond.methodLink RX1 65 yX1_isLeaf, Cond.static yX1_isLeaf, Cond.code yX1_isLeaf cX1_isLeaf 4 (some .boolean), Cond.methodLink RX3 123 yX3_textOf, Cond.instanceMethod yX3_textOf, Cond.selects RX3 yX3_textOf yX3_textOf, Cond.code yX3_textOf cX3_textOf 2 (some (.object "java/lang/StringBuilder")), Cond.methodLink RX3 212 yJ4_setLength_d00df, Cond.instanceMethod yJ4_setLength_d00df, Cond.selects RJ4 yJ4_setLength_d00df yJ4_setLength_d00df, Cond.code yJ4_setLength_d00df cJ4_setLength_d00df 2 none]
def wsL_law_r15 : List Cond := [Cond.methodLink RJ4 333 yJ5_setLength_d00df, Cond.sameMethod "java/lang/AbstractStringBuilder" "java/lang/AbstractStringBuilder" "setLength" "(I)V", Cond.superclass RJ4 RJ5, Cond.instanceMethod yJ5_setLength_d00df, Cond.code yJ5_setLength_d00df cJ5_setLength_d00df 2 none, Cond.fieldLink RJ5 79 "java/lang/AbstractStringBuilder" "count" "I", Cond.fieldLink RJ5 73 "java/lang/AbstractStringBuilder" "maybeLatin1" "Z", Cond.methodLink RJ5 100 ⟨"java/lang/AbstractStringBuilder", "ensureCapacityInternal", "(I)V"⟩, Cond.sameMethod "java/lang/AbstractStringBuilder" "java/lang/AbstractStringBuilder" "ensureCapacityInternal" "(I)V", Cond.selects RJ4 ⟨"java/lang/AbstractStringBuilder", "ensureCapacityInternal", "(I)V"⟩ yJ5_ensureCapacityInternal_d00df, Cond.instanceMethod yJ5_ensureCapacityInternal_d00df, Cond.code yJ5_ensureCapacityInternal_d00df cJ5_ensureCapacityInternal_d00df 3 none, Cond.methodLink RJ5 104 ⟨"java/lang/AbstractStringBuilder", "newCapacity", "(I)I"⟩, Cond.sameMethod "java/lang/AbstractStringBuilder" "java/lang/AbstractStringBuilder" "newCapacity" "(I)I", Cond.selects RJ4 ⟨"java/lang/AbstractStringBuilder", "newCapacity", "(I)I"⟩ yJ5_newCapacity_0f7a4, Cond.instanceMethod yJ5_newCapacity_0f7a4, Cond.code yJ5_newCapacity_0f7a4 cJ5_newCapacity_0f7a4 6 (some .int), Cond.constant RJ5 39 (2147483647), Cond.methodLink RJ5 114 yJ8_newLength_cabcc, Cond.static yJ8_newLength_cabcc, Cond.initialized RJ8, Cond.code yJ8_newLength_cabcc cJ8_newLength_cabcc 4 (some .int), Cond.methodLink RJ8 194 Lib.Math.max.name, Cond.constant RJ8 200 (2147483639)]
def wsL_law_r16 : List Cond := [Cond.methodLink RJ8 201 yJ8_hugeLength_7cf53, Cond.static yJ8_hugeLength_7cf53, Cond.code yJ8_hugeLength_7cf53 cJ8_hugeLength_7cf53 3 (some .int), Cond.methodLink RJ5 108 yJ7_copyOf_9075b, Cond.static yJ7_copyOf_9075b, Cond.initialized RJ7, Cond.code yJ7_copyOf_9075b cJ7_copyOf_9075b 3 (some (.array .byte)), Cond.methodLink RJ7 310 ⟨"[B", "clone", "()Ljava/lang/Object;"⟩, Cond.sameMethod "[B" "java/lang/Object" "clone" "()Ljava/lang/Object;", Cond.native ⟨"java/lang/Object", "clone", "()Ljava/lang/Object;"⟩, Cond.instanceMethod ⟨"java/lang/Object", "clone", "()Ljava/lang/Object;"⟩, Cond.selects "[B" ⟨"[B", "clone", "()Ljava/lang/Object;"⟩ ⟨"java/lang/Object", "clone", "()Ljava/lang/Object;"⟩, Cond.classLink RJ7 311 "[B", Cond.methodLink RJ7 304 Lib.Math.min.name, Cond.static Lib.Math.min.name, Cond.code Lib.Math.min.name Lib.Math.min.code 2 (some .int), Cond.methodLink RJ7 150 arraycopyName, Cond.methodLink RJ5 83 ⟨"java/lang/AbstractStringBuilder", "isLatin1", "()Z"⟩, Cond.sameMethod "java/lang/AbstractStringBuilder" "java/lang/AbstractStringBuilder" "isLatin1" "()Z", Cond.selects RJ4 ⟨"java/lang/AbstractStringBuilder", "isLatin1", "()Z"⟩ yJ5_isLatin1_aae02, Cond.instanceMethod yJ5_isLatin1_aae02, Cond.code yJ5_isLatin1_aae02 cJ5_isLatin1_aae02 1 (some .boolean), Cond.methodLink RJ5 133 yJ1_fillNull_b72d1, Cond.static yJ1_fillNull_b72d1]
def wsL_law_r17 : List Cond := [Cond.initialized RJ1, Cond.code yJ1_fillNull_b72d1 cJ1_fillNull_b72d1 3 none, Cond.methodLink RJ1 236 yJ7_fill_eb02e, Cond.static yJ7_fill_eb02e, Cond.code yJ7_fill_eb02e cJ7_fill_eb02e 5 none, Cond.methodLink RJ7 13 yJ7_rangeCheck_23922, Cond.static yJ7_rangeCheck_23922, Cond.code yJ7_rangeCheck_23922 cJ7_rangeCheck_23922 3 none, Cond.methodLink RJ5 137 yJ2_fillNull_b72d1, Cond.static yJ2_fillNull_b72d1, Cond.code yJ2_fillNull_b72d1 cJ2_fillNull_b72d1 3 none, Cond.methodLink RJ2 380 yJ7_fill_eb02e, Cond.methodLink RX3 215 yX1_print, Cond.instanceMethod yX1_print, Cond.selects RX1 yX1_print yX1_print, Cond.code yX1_print cX1_print 2 none, Cond.methodLink RX1 61 yX1_printRow, Cond.static yX1_printRow, Cond.code yX1_printRow cX1_printRow 5 none, Cond.methodLink RX1 69 yJ4_append_bf812, Cond.instanceMethod yJ4_append_bf812, Cond.selects RJ4 yJ4_append_bf812 yJ4_append_bf812, Cond.code yJ4_append_bf812 cJ4_append_bf812 2 (some (.object "java/lang/StringBuilder")), Cond.methodLink RJ4 53 yJ5_append_c97b9]
def wsL_law_r18 : List Cond := [Cond.sameMethod "java/lang/AbstractStringBuilder" "java/lang/AbstractStringBuilder" "append" "(I)Ljava/lang/AbstractStringBuilder;", Cond.instanceMethod yJ5_append_c97b9, Cond.code yJ5_append_c97b9 cJ5_append_c97b9 4 (some (.object "java/lang/AbstractStringBuilder")), Cond.methodLink RJ5 245 yJ6_stringSize_0f7a4, Cond.static yJ6_stringSize_0f7a4, Cond.code yJ6_stringSize_0f7a4 cJ6_stringSize_0f7a4 4 (some .int), Cond.methodLink RJ5 248 yJ6_getChars_ba4f3, Cond.static yJ6_getChars_ba4f3, Cond.code yJ6_getChars_ba4f3 cJ6_getChars_ba4f3 7 (some .int), Cond.fieldLink RJ6 83 "java/lang/Integer" "DigitOnes" "[B", Cond.fieldLink RJ6 87 "java/lang/Integer" "DigitTens" "[B", Cond.methodLink RJ5 251 yJ2_getChars_46870, Cond.static yJ2_getChars_46870, Cond.code yJ2_getChars_46870 cJ2_getChars_46870 5 (some .int), Cond.fieldLink RJ2 44 "java/lang/StringUTF16" "$assertionsDisabled" "Z", Cond.methodLink RJ2 96 yJ2_checkBoundsBeginEnd_d044e, Cond.static yJ2_checkBoundsBeginEnd_d044e, Cond.code yJ2_checkBoundsBeginEnd_d044e cJ2_checkBoundsBeginEnd_d044e 3 none, Cond.methodLink RJ2 48 yJ2_length_9d52b, Cond.static yJ2_length_9d52b, Cond.code yJ2_length_9d52b cJ2_length_9d52b 1 (some .int), Cond.methodLink RJ2 241 yJ0_checkBoundsBeginEnd_23922, Cond.static yJ0_checkBoundsBeginEnd_23922, Cond.initialized RJ0]
def wsL_law_r19 : List Cond := [Cond.code yJ0_checkBoundsBeginEnd_23922 cJ0_checkBoundsBeginEnd_23922 3 none, Cond.fieldLink RJ0 1053 "jdk/internal/util/Preconditions" "SIOOBE_FORMATTER" "Ljava/util/function/BiFunction;", Cond.methodLink RJ0 1062 yJ3_checkFromToIndex_8c36e, Cond.static yJ3_checkFromToIndex_8c36e, Cond.initialized RJ3, Cond.code yJ3_checkFromToIndex_8c36e cJ3_checkFromToIndex_8c36e 4 (some .int), Cond.methodLink RJ2 393 yJ2_getChars_ba4f3, Cond.static yJ2_getChars_ba4f3, Cond.code yJ2_getChars_ba4f3 cJ2_getChars_ba4f3 7 (some .int), Cond.fieldLink RJ2 403 "java/lang/Integer" "DigitOnes" "[B", Cond.fieldLink RJ2 407 "java/lang/Integer" "DigitTens" "[B", Cond.methodLink RJ2 111 yJ2_putChar_b72d1, Cond.static yJ2_putChar_b72d1, Cond.code yJ2_putChar_b72d1 cJ2_putChar_b72d1 3 none, Cond.fieldLink RJ2 59 "java/lang/StringUTF16" "HI_BYTE_SHIFT" "I", Cond.fieldLink RJ2 63 "java/lang/StringUTF16" "LO_BYTE_SHIFT" "I", Cond.methodLink RX1 75 yJ4_append_cf468, Cond.instanceMethod yJ4_append_cf468, Cond.selects RJ4 yJ4_append_cf468 yJ4_append_cf468, Cond.code yJ4_append_cf468 cJ4_append_cf468 2 (some (.object "java/lang/StringBuilder")), Cond.methodLink RJ4 50 yJ5_append_3fe6f, Cond.sameMethod "java/lang/AbstractStringBuilder" "java/lang/AbstractStringBuilder" "append" "(C)Ljava/lang/AbstractStringBuilder;", Cond.instanceMethod yJ5_append_3fe6f, Cond.code yJ5_append_3fe6f cJ5_append_3fe6f 2 (some (.object "java/lang/AbstractStringBuilder"))]
def wsL_law_r20 : List Cond := [Cond.methodLink RJ5 191 yJ1_canEncode_fc78d, Cond.static yJ1_canEncode_fc78d, Cond.code yJ1_canEncode_fc78d cJ1_canEncode_fc78d 1 (some .boolean), Cond.methodLink RJ5 195 ⟨"java/lang/AbstractStringBuilder", "inflate", "()V"⟩, Cond.sameMethod "java/lang/AbstractStringBuilder" "java/lang/AbstractStringBuilder" "inflate" "()V", Cond.selects RJ4 ⟨"java/lang/AbstractStringBuilder", "inflate", "()V"⟩ yJ5_inflate_da8c8, Cond.instanceMethod yJ5_inflate_da8c8, Cond.code yJ5_inflate_da8c8 cJ5_inflate_da8c8 2 none, Cond.methodLink RJ5 125 yJ1_inflate_0e8fd, Cond.static yJ1_inflate_0e8fd, Cond.code yJ1_inflate_0e8fd cJ1_inflate_0e8fd 5 none, Cond.methodLink RJ1 240 yJ2_inflate_0e8fd, Cond.static yJ2_inflate_0e8fd, Cond.code yJ2_inflate_0e8fd cJ2_inflate_0e8fd 6 none, Cond.methodLink RJ2 173 yJ2_checkBoundsOffCount_d044e, Cond.static yJ2_checkBoundsOffCount_d044e, Cond.code yJ2_checkBoundsOffCount_d044e cJ2_checkBoundsOffCount_d044e 3 none, Cond.methodLink RJ2 419 yJ0_checkBoundsOffCount_cabcc, Cond.static yJ0_checkBoundsOffCount_cabcc, Cond.code yJ0_checkBoundsOffCount_cabcc cJ0_checkBoundsOffCount_cabcc 3 (some .int), Cond.methodLink RJ0 1065 yJ3_checkFromIndexSize_8c36e, Cond.static yJ3_checkFromIndexSize_8c36e, Cond.code yJ3_checkFromIndexSize_8c36e cJ3_checkFromIndexSize_8c36e 4 (some .int), Cond.methodLink RJ5 197 yJ2_putCharSB_b72d1]
def wsL_law_r21 : List Cond := [Cond.static yJ2_putCharSB_b72d1, Cond.code yJ2_putCharSB_b72d1 cJ2_putCharSB_b72d1 3 none, Cond.methodLink RJ2 67 yJ2_checkIndex_2214a, Cond.static yJ2_checkIndex_2214a, Cond.code yJ2_checkIndex_2214a cJ2_checkIndex_2214a 2 none, Cond.methodLink RJ2 414 yJ0_checkIndex_df160, Cond.static yJ0_checkIndex_df160, Cond.code yJ0_checkIndex_df160 cJ0_checkIndex_df160 2 none, Cond.methodLink RJ0 1059 yJ3_checkIndex_8e157, Cond.static yJ3_checkIndex_8e157, Cond.code yJ3_checkIndex_8e157 cJ3_checkIndex_8e157 3 (some .int), Cond.methodLink RX3 127 yJ4_length_8abf5, Cond.instanceMethod yJ4_length_8abf5, Cond.selects RJ4 yJ4_length_8abf5 yJ4_length_8abf5, Cond.code yJ4_length_8abf5 cJ4_length_8abf5 1 (some .int), Cond.methodLink RJ4 343 yJ5_length_8abf5, Cond.sameMethod "java/lang/AbstractStringBuilder" "java/lang/AbstractStringBuilder" "length" "()I", Cond.instanceMethod yJ5_length_8abf5, Cond.code yJ5_length_8abf5 cJ5_length_8abf5 1 (some .int), Cond.methodLink RL 42 yX4_of, Cond.instanceMethod yX4_of, Cond.selects RX4 yX4_of yX4_of, Cond.code yX4_of cX4_of 4 (some .int), Cond.fieldLink RX4 78 "ForkedStampsModel" "textLength" "I"]
def wsL_law_r22 : List Cond := [Cond.methodLink RX4 114 yX4_heights, Cond.instanceMethod yX4_heights, Cond.selects RX4 yX4_heights yX4_heights, Cond.code yX4_heights cX4_heights 6 (some .int), Cond.methodLink RX4 118 yX4_knownMany, Cond.static yX4_knownMany, Cond.code yX4_knownMany cX4_knownMany 4 (some .int), Cond.methodLink RX4 122 yX4_latestOf, Cond.instanceMethod yX4_latestOf, Cond.selects RX4 yX4_latestOf yX4_latestOf, Cond.code yX4_latestOf cX4_latestOf 4 (some .int), Cond.methodLink RX4 110 yX4_isKnown, Cond.instanceMethod yX4_isKnown, Cond.selects RX4 yX4_isKnown yX4_isKnown, Cond.code yX4_isKnown cX4_isKnown 3 (some .boolean), Cond.methodLink RX4 125 yX4_knots, Cond.static yX4_knots, Cond.code yX4_knots cX4_knots 5 (some .int), Cond.methodLink RX4 74 yX4_areAlike, Cond.static yX4_areAlike, Cond.code yX4_areAlike cX4_areAlike 6 (some .boolean), Cond.methodLink RX4 128 yX4_print, Cond.instanceMethod yX4_print, Cond.selects RX4 yX4_print yX4_print]
def wsL_law_r23 : List Cond := [Cond.code yX4_print cX4_print 5 none, Cond.methodLink RX4 81 yX4_says, Cond.instanceMethod yX4_says, Cond.selects RX4 yX4_says yX4_says, Cond.code yX4_says cX4_says 2 none, Cond.methodLink RX4 85 yX4_saysNumber, Cond.instanceMethod yX4_saysNumber, Cond.selects RX4 yX4_saysNumber yX4_saysNumber, Cond.code yX4_saysNumber cX4_saysNumber 2 none, Cond.methodLink RL 43 yX3_ofMessage, Cond.instanceMethod yX3_ofMessage, Cond.selects RX3 yX3_ofMessage yX3_ofMessage, Cond.code yX3_ofMessage cX3_ofMessage 4 (some .int), Cond.fieldLink RX3 130 "ForkedStamps$State" "senders" "[I", Cond.methodLink RL 46 yX4_ofMessage, Cond.instanceMethod yX4_ofMessage, Cond.selects RX4 yX4_ofMessage yX4_ofMessage, Cond.code yX4_ofMessage cX4_ofMessage 4 (some .int), Cond.methodLink RL 47 yX3_height, Cond.instanceMethod yX3_height, Cond.selects RX3 yX3_height yX3_height, Cond.code yX3_height cX3_height 5 (some .int), Cond.fieldLink RX3 140 "ForkedStamps$Stamp" "heights" "[I", Cond.methodLink RX3 133 yX3_isKind]
def wsL_law_r24 : List Cond := [Cond.static yX3_isKind, Cond.code yX3_isKind cX3_isKind 1 (some .boolean), Cond.methodLink RX3 136 yX2_stampOf, Cond.instanceMethod yX2_stampOf, Cond.selects RX2 yX2_stampOf yX2_stampOf, Cond.code yX2_stampOf cX2_stampOf 3 (some (.object "ForkedStamps$Stamp")), Cond.methodLink RX2 52 yX2_isMessage, Cond.methodLink RL 51 yX4_height, Cond.instanceMethod yX4_height, Cond.selects RX4 yX4_height yX4_height, Cond.code yX4_height cX4_height 4 (some .int), Cond.methodLink RX4 131 yX4_isThere, Cond.instanceMethod yX4_isThere, Cond.selects RX4 yX4_isThere yX4_isThere, Cond.code yX4_isThere cX4_isThere 3 (some .boolean), Cond.methodLink RX4 134 yX4_placeOf, Cond.static yX4_placeOf, Cond.code yX4_placeOf cX4_placeOf 2 (some .int), Cond.methodLink RL 52 yX3_knows, Cond.instanceMethod yX3_knows, Cond.selects RX3 yX3_knows yX3_knows, Cond.code yX3_knows cX3_knows 5 (some .int), Cond.methodLink RX3 143 yX2_isEvent, Cond.instanceMethod yX2_isEvent]
def wsL_law_r25 : List Cond := [Cond.selects RX2 yX2_isEvent yX2_isEvent, Cond.code yX2_isEvent cX2_isEvent 2 (some .boolean), Cond.methodLink RX3 146 yX1_isKnown, Cond.methodLink RL 55 yX4_knows, Cond.instanceMethod yX4_knows, Cond.selects RX4 yX4_knows yX4_knows, Cond.code yX4_knows cX4_knows 4 (some .int), Cond.methodLink RL 56 yX3_count, Cond.instanceMethod yX3_count, Cond.selects RX3 yX3_count yX3_count, Cond.code yX3_count cX3_count 2 (some .int), Cond.fieldLink RX3 161 "ForkedStamps$Pad" "length" "I", Cond.methodLink RX3 149 yX2_helperSet, Cond.instanceMethod yX2_helperSet, Cond.selects RX2 yX2_helperSet yX2_helperSet, Cond.code yX2_helperSet cX2_helperSet 3 (some .int), Cond.methodLink RX3 152 yX2_clashingPairs, Cond.instanceMethod yX2_clashingPairs, Cond.selects RX2 yX2_clashingPairs yX2_clashingPairs, Cond.code yX2_clashingPairs cX2_clashingPairs 4 (some .int), Cond.methodLink RX2 75 yX1_orderTo, Cond.instanceMethod yX1_orderTo, Cond.selects RX1 yX1_orderTo yX1_orderTo, Cond.code yX1_orderTo cX1_orderTo 5 (some .int)]
def wsL_law_r26 : List Cond := [Cond.methodLink RX3 155 yX2_knotsOfHelpers, Cond.instanceMethod yX2_knotsOfHelpers, Cond.selects RX2 yX2_knotsOfHelpers yX2_knotsOfHelpers, Cond.code yX2_knotsOfHelpers cX2_knotsOfHelpers 3 (some .int), Cond.methodLink RX2 79 yX1_knots, Cond.methodLink RX3 158 yX2_foremost, Cond.instanceMethod yX2_foremost, Cond.selects RX2 yX2_foremost yX2_foremost, Cond.code yX2_foremost cX2_foremost 2 (some .int), Cond.methodLink RX2 83 yX2_isForemost, Cond.instanceMethod yX2_isForemost, Cond.selects RX2 yX2_isForemost yX2_isForemost, Cond.code yX2_isForemost cX2_isForemost 4 (some .boolean), Cond.methodLink RL 59 yX4_count, Cond.instanceMethod yX4_count, Cond.selects RX4 yX4_count yX4_count, Cond.code yX4_count cX4_count 2 (some .int), Cond.fieldLink RX4 157 "ForkedStampsModel" "padLength" "I", Cond.methodLink RX4 148 yX4_clashes, Cond.instanceMethod yX4_clashes, Cond.selects RX4 yX4_clashes yX4_clashes, Cond.code yX4_clashes cX4_clashes 4 (some .int), Cond.methodLink RX4 142 yX4_orderOfHelpers, Cond.instanceMethod yX4_orderOfHelpers]
def wsL_law_r27 : List Cond := [Cond.selects RX4 yX4_orderOfHelpers yX4_orderOfHelpers, Cond.code yX4_orderOfHelpers cX4_orderOfHelpers 3 (some .int), Cond.methodLink RX4 138 yX4_orderOf, Cond.static yX4_orderOf, Cond.code yX4_orderOf cX4_orderOf 7 (some .int), Cond.methodLink RX4 151 yX4_allKnots, Cond.instanceMethod yX4_allKnots, Cond.selects RX4 yX4_allKnots yX4_allKnots, Cond.code yX4_allKnots cX4_allKnots 3 (some .int), Cond.methodLink RX4 154 yX4_leader, Cond.instanceMethod yX4_leader, Cond.selects RX4 yX4_leader yX4_leader, Cond.code yX4_leader cX4_leader 3 (some .int), Cond.methodLink RX4 145 yX4_isAhead, Cond.instanceMethod yX4_isAhead, Cond.selects RX4 yX4_isAhead yX4_isAhead, Cond.code yX4_isAhead cX4_isAhead 5 (some .boolean), Cond.methodLink RL 60 yX3_whose, Cond.instanceMethod yX3_whose, Cond.selects RX3 yX3_whose yX3_whose, Cond.code yX3_whose cX3_whose 2 (some .int), Cond.fieldLink RX3 166 "ForkedStamps$State" "actors" "[I", Cond.methodLink RL 63 yX4_whose, Cond.instanceMethod yX4_whose]
def wsL_law_r28 : List Cond := [Cond.selects RX4 yX4_whose yX4_whose, Cond.code yX4_whose cX4_whose 2 (some .int), Cond.methodLink RL 64 yX3_order, Cond.instanceMethod yX3_order, Cond.selects RX3 yX3_order yX3_order, Cond.code yX3_order cX3_order 7 (some .int), Cond.methodLink RX3 169 yX1_orderTo, Cond.methodLink RL 68 yX4_order, Cond.instanceMethod yX4_order, Cond.selects RX4 yX4_order yX4_order, Cond.code yX4_order cX4_order 6 (some .int), Cond.methodLink RX4 160 yX4_whyNoOrder, Cond.instanceMethod yX4_whyNoOrder, Cond.selects RX4 yX4_whyNoOrder yX4_whyNoOrder, Cond.code yX4_whyNoOrder cX4_whyNoOrder 5 (some .int), Cond.methodLink RL 69 yX3_more, Cond.instanceMethod yX3_more, Cond.selects RX3 yX3_more yX3_more, Cond.code yX3_more cX3_more 7 (some .int), Cond.methodLink RX3 173 yX1_knownBeyond, Cond.instanceMethod yX1_knownBeyond, Cond.selects RX1 yX1_knownBeyond yX1_knownBeyond, Cond.code yX1_knownBeyond cX1_knownBeyond 2 (some .int), Cond.constantLong RX1 51 (-1)]
def wsL_law_r29 : List Cond := [Cond.methodLink RL 72 yX4_more, Cond.instanceMethod yX4_more, Cond.selects RX4 yX4_more yX4_more, Cond.code yX4_more cX4_more 10 (some .int), Cond.methodLink RL 73 yX3_orderToPad, Cond.instanceMethod yX3_orderToPad, Cond.selects RX3 yX3_orderToPad yX3_orderToPad, Cond.code yX3_orderToPad cX3_orderToPad 2 (some .int), Cond.fieldLink RX3 179 "ForkedStamps$Pad" "stamp" "LForkedStamps$Stamp;", Cond.methodLink RX3 176 yX0_read, Cond.instanceMethod yX0_read, Cond.selects RX0 yX0_read yX0_read, Cond.code yX0_read cX0_read 2 (some .int), Cond.fieldLink RX0 28 "ForkedStamps$Pad" "first" "I", Cond.fieldLink RX0 31 "ForkedStamps$Pad" "size" "I", Cond.fieldLink RX0 34 "ForkedStamps$Pad" "stage" "I", Cond.fieldLink RX0 22 "ForkedStamps$Pad" "length" "I", Cond.methodLink RX0 37 yX0_accepts, Cond.instanceMethod yX0_accepts, Cond.selects RX0 yX0_accepts yX0_accepts, Cond.code yX0_accepts cX0_accepts 2 (some .boolean), Cond.methodLink RX0 41 yX0_acceptsDigit, Cond.instanceMethod yX0_acceptsDigit, Cond.selects RX0 yX0_acceptsDigit yX0_acceptsDigit]
def wsL_law_r30 : List Cond := [Cond.code yX0_acceptsDigit cX0_acceptsDigit 3 (some .boolean), Cond.fieldLink RX0 55 "ForkedStamps$Pad" "number" "I", Cond.methodLink RX0 58 yX0_fillRow, Cond.instanceMethod yX0_fillRow, Cond.selects RX0 yX0_fillRow yX0_fillRow, Cond.code yX0_fillRow cX0_fillRow 2 none, Cond.fieldLink RX0 61 "ForkedStamps$Stamp" "heights" "[I", Cond.methodLink RX0 45 yX0_acceptsOpening, Cond.instanceMethod yX0_acceptsOpening, Cond.selects RX0 yX0_acceptsOpening yX0_acceptsOpening, Cond.code yX0_acceptsOpening cX0_acceptsOpening 1 (some .boolean), Cond.methodLink RX0 49 yX0_acceptsComma, Cond.instanceMethod yX0_acceptsComma, Cond.selects RX0 yX0_acceptsComma yX0_acceptsComma, Cond.code yX0_acceptsComma cX0_acceptsComma 1 (some .boolean), Cond.methodLink RX0 65 yX0_isUpperHalf, Cond.instanceMethod yX0_isUpperHalf, Cond.selects RX0 yX0_isUpperHalf yX0_isUpperHalf, Cond.code yX0_isUpperHalf cX0_isUpperHalf 1 (some .boolean), Cond.methodLink RX0 52 yX0_acceptsClosing, Cond.instanceMethod yX0_acceptsClosing, Cond.selects RX0 yX0_acceptsClosing yX0_acceptsClosing, Cond.code yX0_acceptsClosing cX0_acceptsClosing 1 (some .boolean), Cond.methodLink RL 76 yX4_orderToPad]
def wsL_law_r31 : List Cond := [Cond.instanceMethod yX4_orderToPad, Cond.selects RX4 yX4_orderToPad yX4_orderToPad, Cond.code yX4_orderToPad cX4_orderToPad 2 (some .int), Cond.methodLink RX4 164 yX4_findFault, Cond.instanceMethod yX4_findFault, Cond.selects RX4 yX4_findFault yX4_findFault, Cond.code yX4_findFault cX4_findFault 7 (some .int), Cond.methodLink RX4 169 yX4_character, Cond.instanceMethod yX4_character, Cond.selects RX4 yX4_character yX4_character, Cond.code yX4_character cX4_character 2 (some .int), Cond.methodLink RL 77 yX3_printed, Cond.instanceMethod yX3_printed, Cond.selects RX3 yX3_printed yX3_printed, Cond.code yX3_printed cX3_printed 4 (some .int), Cond.methodLink RX3 182 yJ4_charAt_5068e, Cond.instanceMethod yJ4_charAt_5068e, Cond.selects RJ4 yJ4_charAt_5068e yJ4_charAt_5068e, Cond.code yJ4_charAt_5068e cJ4_charAt_5068e 2 (some .char), Cond.methodLink RJ4 329 yJ5_charAt_5068e, Cond.sameMethod "java/lang/AbstractStringBuilder" "java/lang/AbstractStringBuilder" "charAt" "(I)C", Cond.instanceMethod yJ5_charAt_5068e, Cond.code yJ5_charAt_5068e cJ5_charAt_5068e 5 (some .char), Cond.methodLink RJ5 138 Lib.Math.min.name]
def wsL_law_r32 : List Cond := [Cond.methodLink RJ5 144 yJ0_checkIndex_df160, Cond.methodLink RJ5 148 yJ2_getChar_3b067, Cond.static yJ2_getChar_3b067, Cond.code yJ2_getChar_3b067 cJ2_getChar_3b067 2 (some .char), Cond.methodLink RL 80 yX4_printed, Cond.instanceMethod yX4_printed, Cond.selects RX4 yX4_printed yX4_printed, Cond.code yX4_printed cX4_printed 3 (some .int), Cond.methodLink RL 81 yX3_ifReceive, Cond.instanceMethod yX3_ifReceive, Cond.selects RX3 yX3_ifReceive yX3_ifReceive, Cond.code yX3_ifReceive cX3_ifReceive 6 (some .int), Cond.methodLink RX3 186 yX1_become, Cond.methodLink RX3 189 yX1_raise, Cond.methodLink RL 84 yX4_ifReceive, Cond.instanceMethod yX4_ifReceive, Cond.selects RX4 yX4_ifReceive yX4_ifReceive, Cond.code yX4_ifReceive cX4_ifReceive 4 (some .int), Cond.methodLink RL 85 yX3_laggard, Cond.instanceMethod yX3_laggard, Cond.selects RX3 yX3_laggard yX3_laggard, Cond.code yX3_laggard cX3_laggard 3 (some .int), Cond.methodLink RX3 192 yX2_leastKnowing, Cond.instanceMethod yX2_leastKnowing]
def wsL_law_r33 : List Cond := [Cond.selects RX2 yX2_leastKnowing yX2_leastKnowing, Cond.code yX2_leastKnowing cX2_leastKnowing 4 (some .int), Cond.methodLink RX2 86 yX1_knownCount, Cond.methodLink RL 88 yX4_laggard, Cond.instanceMethod yX4_laggard, Cond.selects RX4 yX4_laggard yX4_laggard, Cond.code yX4_laggard cX4_laggard 7 (some .int), Cond.methodLink RL 91 yX3_put, Cond.instanceMethod yX3_put, Cond.selects RX3 yX3_put yX3_put, Cond.code yX3_put cX3_put 4 (some .int), Cond.methodLink RX3 195 yX3_charactersIn, Cond.static yX3_charactersIn, Cond.code yX3_charactersIn cX3_charactersIn 6 (some .int), Cond.constantLong RX3 219 (255), Cond.methodLink RX3 199 yX0_append, Cond.instanceMethod yX0_append, Cond.selects RX0 yX0_append yX0_append, Cond.code yX0_append cX0_append 5 none, Cond.constantLong RX0 26 (255), Cond.methodLink RL 95 yX4_put, Cond.instanceMethod yX4_put, Cond.selects RX4 yX4_put yX4_put, Cond.code yX4_put cX4_put 8 (some .int)]
def wsL_law_r34 : List Cond := [Cond.constantLong RX4 167 (255), Cond.methodLink RL 96 yX3_wipe, Cond.instanceMethod yX3_wipe, Cond.selects RX3 yX3_wipe yX3_wipe, Cond.code yX3_wipe cX3_wipe 2 (some .int), Cond.methodLink RL 100 yX4_wipe, Cond.instanceMethod yX4_wipe, Cond.selects RX4 yX4_wipe yX4_wipe, Cond.code yX4_wipe cX4_wipe 2 (some .int), Cond.methodLink RL 101 yX3_fault, Cond.instanceMethod yX3_fault, Cond.selects RX3 yX3_fault yX3_fault, Cond.code yX3_fault cX3_fault 1 (some .int), Cond.methodLink RL 104 yX4_fault, Cond.instanceMethod yX4_fault, Cond.selects RX4 yX4_fault yX4_fault, Cond.code yX4_fault cX4_fault 1 (some .int), Cond.methodLink RL 105 yX3_undo, Cond.instanceMethod yX3_undo, Cond.selects RX3 yX3_undo yX3_undo, Cond.code yX3_undo cX3_undo 1 (some .int), Cond.methodLink RL 108 yX4_undo, Cond.instanceMethod yX4_undo, Cond.selects RX4 yX4_undo yX4_undo]
def wsL_law_r35 : List Cond := [Cond.code yX4_undo cX4_undo 1 (some .int), Cond.methodLink RL 109 yX3_save, Cond.instanceMethod yX3_save, Cond.selects RX3 yX3_save yX3_save, Cond.code yX3_save cX3_save 2 (some .int), Cond.methodLink RX3 206 yX3_isSlot, Cond.static yX3_isSlot, Cond.code yX3_isSlot cX3_isSlot 1 (some .boolean), Cond.methodLink RL 112 yX4_save, Cond.instanceMethod yX4_save, Cond.selects RX4 yX4_save yX4_save, Cond.code yX4_save cX4_save 2 (some .int), Cond.methodLink RL 113 yX3_restore, Cond.instanceMethod yX3_restore, Cond.selects RX3 yX3_restore yX3_restore, Cond.code yX3_restore cX3_restore 2 (some .int), Cond.methodLink RL 116 yX4_restore, Cond.instanceMethod yX4_restore, Cond.selects RX4 yX4_restore yX4_restore, Cond.code yX4_restore cX4_restore 2 (some .int)]
def wsL_law : List Cond := (wsL_law_r1 ++ (wsL_law_r2 ++ (wsL_law_r3 ++ (wsL_law_r4 ++ (wsL_law_r5 ++ (wsL_law_r6 ++ (wsL_law_r7 ++ (wsL_law_r8 ++ (wsL_law_r9 ++ (wsL_law_r10 ++ (wsL_law_r11 ++ (wsL_law_r12 ++ (wsL_law_r13 ++ (wsL_law_r14 ++ (wsL_law_r15 ++ (wsL_law_r16 ++ (wsL_law_r17 ++ (wsL_law_r18 ++ (wsL_law_r19 ++ (wsL_law_r20 ++ (wsL_law_r21 ++ (wsL_law_r22 ++ (wsL_law_r23 ++ (wsL_law_r24 ++ (wsL_law_r25 ++ (wsL_law_r26 ++ (wsL_law_r27 ++ (wsL_law_r28 ++ (wsL_law_r29 ++ (wsL_law_r30 ++ (wsL_law_r31 ++ (wsL_law_r32 ++ (wsL_law_r33 ++ (wsL_law_r34 ++ wsL_law_r35)))))))))))))))))))))))))))))))))) ++ wsX30 ++ wsX40 ++ wsX20 ++ wsX00 ++ wsX10 ++ wsJ40 ++ ([] : List Cond)
set_option maxRecDepth 20000 in
theorem inlX0 : ∀ w ∈ wsX00, w ∈ wsL_law := fun _ h => List.mem_append_left _ (List.mem_append_left _ (List.mem_append_left _ (List.mem_append_right _ h)))
theorem inlX1 : ∀ w ∈ wsX10, w ∈ wsL_law := fun _ h => List.mem_append_left _ (List.mem_append_left _ (List.mem_append_right _ h))
theorem inlX2 : ∀ w ∈ wsX20, w ∈ wsL_law := fun _ h => List.mem_append_left _ (List.mem_append_left _ (List.mem_append_left _ (List.mem_append_left _ (List.mem_append_right _ h))))
theorem inlX3 : ∀ w ∈ wsX30, w ∈ wsL_law := fun _ h => List.mem_append_left _ (List.mem_append_left _ (List.mem_append_left _ (List.mem_append_left _ (List.mem_append_left _ (List.mem_append_left _ (List.mem_append_right _ h))))))
theorem inlX4 : ∀ w ∈ wsX40, w ∈ wsL_law := fun _ h => List.mem_append_left _ (List.mem_append_left _ (List.mem_append_left _ (List.mem_append_left _ (List.mem_append_left _ (List.mem_append_right _ h)))))
theorem inJ5 : ∀ w ∈ wsJ50, w ∈ lw_tbl := by decide +kernel
theorem inJx8e188 : ∀ w ∈ wsJx8e1880, w ∈ lw_tbl := by decide +kernel
theorem inJ6 : ∀ w ∈ wsJ60, w ∈ lw_tbl := by decide +kernel
theorem inJ13 : ∀ w ∈ wsJ130, w ∈ lw_tbl := by decide +kernel
theorem inJ9 : ∀ w ∈ wsJ90, w ∈ lw_tbl := by decide +kernel
theorem inJ0 : ∀ w ∈ wsJ00, w ∈ lw_tbl := by decide +kernel
theorem inlJ4 : ∀ w ∈ wsJ40, w ∈ wsL_law := fun _ h => List.mem_append_left _ (List.mem_append_right _ h)
theorem inJ1 : ∀ w ∈ wsJ10, w ∈ lw_tbl := by decide +kernel
theorem inJ2 : ∀ w ∈ wsJ20, w ∈ lw_tbl := by decide +kernel
theorem inJ10 : ∀ w ∈ wsJ100, w ∈ lw_tbl := by decide +kernel
theorem inJ7 : ∀ w ∈ wsJ70, w ∈ lw_tbl := by decide +kernel
theorem inJ8 : ∀ w ∈ wsJ80, w ∈ lw_tbl := by decide +kernel
theorem inJ3 : ∀ w ∈ wsJ30, w ∈ lw_tbl := by decide +kernel
set_option maxRecDepth 20000 in
theorem ggX0_init_X1_init : GoodIn wsX0_init wsX1_init := goodIn_r _ [11, 12, 2, 3, 13, 14, 22, 23, 24] (by decide +kernel) (by decide +kernel)
set_option maxRecDepth 20000 in
theorem gX0_init_X1_init_n17 : GoodIn wsX0_init (wsX1_init) := ggX0_init_X1_init
theorem dX0_init_0 : decode cX0_init 0 = .ok (.aload_n 0, 1) := by decide +kernel
theorem dX0_init_1 : decode cX0_init 1 = .ok (.invokespecial 3, 3) := by decide +kernel
theorem dX0_init_4 : decode cX0_init 4 = .ok (.aload_n 0, 1) := by decide +kernel
theorem dX0_init_5 : decode cX0_init 5 = .ok (.bipush 64, 2) := by decide +kernel
theorem dX0_init_7 : decode cX0_init 7 = .ok (.newarray .char, 2) := by decide +kernel
theorem dX0_init_9 : decode cX0_init 9 = .ok (.putfield 9, 3) := by decide +kernel
theorem dX0_init_12 : decode cX0_init 12 = .ok (.aload_n 0, 1) := by decide +kernel
theorem dX0_init_13 : decode cX0_init 13 = .ok (.new 15, 3) := by decide +kernel
theorem dX0_init_16 : decode cX0_init 16 = .ok (.dup, 1) := by decide +kernel
theorem dX0_init_17 : decode cX0_init 17 = .ok (.invokespecial 17, 3) := by decide +kernel
theorem dX0_init_20 : decode cX0_init 20 = .ok (.putfield 18, 3) := by decide +kernel
theorem dX0_init_23 : decode cX0_init 23 = .ok (.return_, 1) := by decide +kernel
theorem dX0_append_0 : decode cX0_append 0 = .ok (.iload_n 3, 1) := by decide +kernel
theorem dX0_append_1 : decode cX0_append 1 = .ok (.iconst 1, 1) := by decide +kernel
theorem dX0_append_2 : decode cX0_append 2 = .ok (.isub, 1) := by decide +kernel
theorem dX0_append_3 : decode cX0_append 3 = .ok (.istore 4, 2) := by decide +kernel
theorem dX0_append_5 : decode cX0_append 5 = .ok (.iload 4, 2) := by decide +kernel
theorem dX0_append_7 : decode cX0_append 7 = .ok (.ifCond .lt 50, 3) := by decide +kernel
theorem dX0_append_10 : decode cX0_append 10 = .ok (.aload_n 0, 1) := by decide +kernel
theorem dX0_append_11 : decode cX0_append 11 = .ok (.getfield 22, 3) := by decide +kernel
theorem dX0_append_14 : decode cX0_append 14 = .ok (.bipush 64, 2) := by decide +kernel
theorem dX0_append_16 : decode cX0_append 16 = .ok (.if_icmp .ge 41, 3) := by decide +kernel
theorem dX0_append_19 : decode cX0_append 19 = .ok (.aload_n 0, 1) := by decide +kernel
theorem dX0_append_20 : decode cX0_append 20 = .ok (.getfield 9, 3) := by decide +kernel
theorem dX0_append_23 : decode cX0_append 23 = .ok (.aload_n 0, 1) := by decide +kernel
theorem dX0_append_24 : decode cX0_append 24 = .ok (.getfield 22, 3) := by decide +kernel
theorem dX0_append_27 : decode cX0_append 27 = .ok (.lload_n 1, 1) := by decide +kernel
theorem dX0_append_28 : decode cX0_append 28 = .ok (.bipush 8, 2) := by decide +kernel
theorem dX0_append_30 : decode cX0_append 30 = .ok (.iload 4, 2) := by decide +kernel
theorem dX0_append_32 : decode cX0_append 32 = .ok (.imul, 1) := by decide +kernel
theorem dX0_append_33 : decode cX0_append 33 = .ok (.lushr, 1) := by decide +kernel
theorem dX0_append_34 : decode cX0_append 34 = .ok (.ldc2_w 26, 3) := by decide +kernel
theorem dX0_append_37 : decode cX0_append 37 = .ok (.land, 1) := by decide +kernel
theorem dX0_append_38 : decode cX0_append 38 = .ok (.l2i, 1) := by decide +kernel
theorem dX0_append_39 : decode cX0_append 39 = .ok (.i2c, 1) := by decide +kernel
theorem dX0_append_40 : decode cX0_append 40 = .ok (.castore, 1) := by decide +kernel
theorem dX0_append_41 : decode cX0_append 41 = .ok (.aload_n 0, 1) := by decide +kernel
theorem dX0_append_42 : decode cX0_append 42 = .ok (.dup, 1) := by decide +kernel
theorem dX0_append_43 : decode cX0_append 43 = .ok (.getfield 22, 3) := by decide +kernel
theorem dX0_append_46 : decode cX0_append 46 = .ok (.iconst 1, 1) := by decide +kernel
theorem dX0_append_47 : decode cX0_append 47 = .ok (.iadd, 1) := by decide +kernel
theorem dX0_append_48 : decode cX0_append 48 = .ok (.putfield 22, 3) := by decide +kernel
theorem dX0_append_51 : decode cX0_append 51 = .ok (.iinc 4 (-1), 3) := by decide +kernel
theorem dX0_append_54 : decode cX0_append 54 = .ok (.goto (-49), 3) := by decide +kernel
theorem dX0_append_57 : decode cX0_append 57 = .ok (.return_, 1) := by decide +kernel
set_option maxRecDepth 20000 in
theorem ggX0_read_X0_accepts : GoodIn wsX0_read wsX0_accepts := goodIn_r _ [10, 11, 12, 13, 9, 14, 3, 15, 16, 17, 18, 19, 1, 2, 20, 21, 22, 23, 24, 25, 26, 27, 28, 29, 30, 31, 32, 33, 34, 35, 36, 37, 38, 39, 40, 41, 42, 43, 44, 45, 46, 47] (by decide +kernel) (by decide +kernel)
set_option maxRecDepth 20000 in
theorem gX0_read_X0_accepts : GoodIn wsX0_read (wsV RX0 37 RX0 yX0_accepts wsX0_accepts) := goodIn_app (goodIn_of _ (by decide +kernel)) ggX0_read_X0_accepts
theorem dX0_read_0 : decode cX0_read 0 = .ok (.aload_n 0, 1) := by decide +kernel
theorem dX0_read_1 : decode cX0_read 1 = .ok (.iconst 0, 1) := by decide +kernel
theorem dX0_read_2 : decode cX0_read 2 = .ok (.putfield 28, 3) := by decide +kernel
theorem dX0_read_5 : decode cX0_read 5 = .ok (.aload_n 0, 1) := by decide +kernel
theorem dX0_read_6 : decode cX0_read 6 = .ok (.bipush 16, 2) := by decide +kernel
theorem dX0_read_8 : decode cX0_read 8 = .ok (.putfield 31, 3) := by decide +kernel
theorem dX0_read_11 : decode cX0_read 11 = .ok (.aload_n 0, 1) := by decide +kernel
theorem dX0_read_12 : decode cX0_read 12 = .ok (.iconst 0, 1) := by decide +kernel
theorem dX0_read_13 : decode cX0_read 13 = .ok (.putfield 34, 3) := by decide +kernel
theorem dX0_read_16 : decode cX0_read 16 = .ok (.iconst 0, 1) := by decide +kernel
theorem dX0_read_17 : decode cX0_read 17 = .ok (.istore_n 1, 1) := by decide +kernel
theorem dX0_read_18 : decode cX0_read 18 = .ok (.iload_n 1, 1) := by decide +kernel
theorem dX0_read_19 : decode cX0_read 19 = .ok (.aload_n 0, 1) := by decide +kernel
theorem dX0_read_20 : decode cX0_read 20 = .ok (.getfield 22, 3) := by decide +kernel
theorem dX0_read_23 : decode cX0_read 23 = .ok (.if_icmp .ge 24, 3) := by decide +kernel
theorem dX0_read_26 : decode cX0_read 26 = .ok (.aload_n 0, 1) := by decide +kernel
theorem dX0_read_27 : decode cX0_read 27 = .ok (.aload_n 0, 1) := by decide +kernel
theorem dX0_read_28 : decode cX0_read 28 = .ok (.getfield 9, 3) := by decide +kernel
theorem dX0_read_31 : decode cX0_read 31 = .ok (.iload_n 1, 1) := by decide +kernel
theorem dX0_read_32 : decode cX0_read 32 = .ok (.caload, 1) := by decide +kernel
theorem dX0_read_33 : decode cX0_read 33 = .ok (.invokevirtual 37, 3) := by decide +kernel
theorem dX0_read_36 : decode cX0_read 36 = .ok (.ifCond .ne 5, 3) := by decide +kernel
theorem dX0_read_39 : decode cX0_read 39 = .ok (.iload_n 1, 1) := by decide +kernel
theorem dX0_read_40 : decode cX0_read 40 = .ok (.ireturn, 1) := by decide +kernel
theorem dX0_read_41 : decode cX0_read 41 = .ok (.iinc 1 1, 3) := by decide +kernel
theorem dX0_read_44 : decode cX0_read 44 = .ok (.goto (-26), 3) := by decide +kernel
theorem dX0_read_47 : decode cX0_read 47 = .ok (.aload_n 0, 1) := by decide +kernel
theorem dX0_read_48 : decode cX0_read 48 = .ok (.getfield 31, 3) := by decide +kernel
theorem dX0_read_51 : decode cX0_read 51 = .ok (.bipush 16, 2) := by decide +kernel
theorem dX0_read_53 : decode cX0_read 53 = .ok (.if_icmp .ne 15, 3) := by decide +kernel
theorem dX0_read_56 : decode cX0_read 56 = .ok (.aload_n 0, 1) := by decide +kernel
theorem dX0_read_57 : decode cX0_read 57 = .ok (.getfield 34, 3) := by decide +kernel
theorem dX0_read_60 : decode cX0_read 60 = .ok (.ifCond .eq 8, 3) := by decide +kernel
theorem dX0_read_63 : decode cX0_read 63 = .ok (.bipush (-6), 2) := by decide +kernel
theorem dX0_read_65 : decode cX0_read 65 = .ok (.goto 7, 3) := by decide +kernel
theorem dX0_read_68 : decode cX0_read 68 = .ok (.aload_n 0, 1) := by decide +kernel
theorem dX0_read_69 : decode cX0_read 69 = .ok (.getfield 22, 3) := by decide +kernel
theorem dX0_read_72 : decode cX0_read 72 = .ok (.ireturn, 1) := by decide +kernel
set_option maxRecDepth 20000 in
theorem ggX0_accepts_X0_acceptsDigit : GoodIn wsX0_accepts wsX0_acceptsDigit := goodIn_r _ [5, 6, 7, 8, 9, 10, 4, 11, 12, 13, 14, 15, 32, 33, 34, 35, 36, 37, 38, 39, 40, 41] (by decide +kernel) (by decide +kernel)
set_option maxRecDepth 20000 in
theorem gX0_accepts_X0_acceptsDigit : GoodIn wsX0_accepts (wsV RX0 41 RX0 yX0_acceptsDigit wsX0_acceptsDigit) := goodIn_app (goodIn_of _ (by decide +kernel)) ggX0_accepts_X0_acceptsDigit
set_option maxRecDepth 20000 in
theorem ggX0_accepts_X0_acceptsOpening : GoodIn wsX0_accepts wsX0_acceptsOpening := goodIn_r _ [19, 6, 13, 32, 33, 34, 35, 36, 37, 38] (by decide +kernel) (by decide +kernel)
set_option maxRecDepth 20000 in
theorem gX0_accepts_X0_acceptsOpening : GoodIn wsX0_accepts (wsV RX0 45 RX0 yX0_acceptsOpening wsX0_acceptsOpening) := goodIn_app (goodIn_of _ (by decide +kernel)) ggX0_accepts_X0_acceptsOpening
set_option maxRecDepth 20000 in
theorem ggX0_accepts_X0_acceptsComma : GoodIn wsX0_accepts wsX0_acceptsComma := goodIn_r _ [23, 6, 13, 12, 24, 25, 26, 4, 27, 32, 33, 34, 35, 36, 37, 38] (by decide +kernel) (by decide +kernel)
set_option maxRecDepth 20000 in
theorem gX0_accepts_X0_acceptsComma : GoodIn wsX0_accepts (wsV RX0 49 RX0 yX0_acceptsComma wsX0_acceptsComma) := goodIn_app (goodIn_of _ (by decide +kernel)) ggX0_accepts_X0_acceptsComma
set_option maxRecDepth 20000 in
theorem ggX0_accepts_X0_acceptsClosing : GoodIn wsX0_accepts wsX0_acceptsClosing := goodIn_r _ [31, 6, 13, 12, 24, 25, 26, 4, 27, 32, 33, 34, 35, 36, 37, 38] (by decide +kernel) (by decide +kernel)
set_option maxRecDepth 20000 in
theorem gX0_accepts_X0_acceptsClosing : GoodIn wsX0_accepts (wsV RX0 52 RX0 yX0_acceptsClosing wsX0_acceptsClosing) := goodIn_app (goodIn_of _ (by decide +kernel)) ggX0_accepts_X0_acceptsClosing
theorem dX0_accepts_0 : decode cX0_accepts 0 = .ok (.iload_n 1, 1) := by decide +kernel
theorem dX0_accepts_1 : decode cX0_accepts 1 = .ok (.bipush 48, 2) := by decide +kernel
theorem dX0_accepts_3 : decode cX0_accepts 3 = .ok (.if_icmp .lt 18, 3) := by decide +kernel
theorem dX0_accepts_6 : decode cX0_accepts 6 = .ok (.iload_n 1, 1) := by decide +kernel
theorem dX0_accepts_7 : decode cX0_accepts 7 = .ok (.bipush 57, 2) := by decide +kernel
theorem dX0_accepts_9 : decode cX0_accepts 9 = .ok (.if_icmp .gt 12, 3) := by decide +kernel
theorem dX0_accepts_12 : decode cX0_accepts 12 = .ok (.aload_n 0, 1) := by decide +kernel
theorem dX0_accepts_13 : decode cX0_accepts 13 = .ok (.iload_n 1, 1) := by decide +kernel
theorem dX0_accepts_14 : decode cX0_accepts 14 = .ok (.bipush 48, 2) := by decide +kernel
theorem dX0_accepts_16 : decode cX0_accepts 16 = .ok (.isub, 1) := by decide +kernel
theorem dX0_accepts_17 : decode cX0_accepts 17 = .ok (.invokevirtual 41, 3) := by decide +kernel
theorem dX0_accepts_20 : decode cX0_accepts 20 = .ok (.ireturn, 1) := by decide +kernel
theorem dX0_accepts_21 : decode cX0_accepts 21 = .ok (.iload_n 1, 1) := by decide +kernel
theorem dX0_accepts_22 : decode cX0_accepts 22 = .ok (.bipush 40, 2) := by decide +kernel
theorem dX0_accepts_24 : decode cX0_accepts 24 = .ok (.if_icmp .ne 8, 3) := by decide +kernel
theorem dX0_accepts_27 : decode cX0_accepts 27 = .ok (.aload_n 0, 1) := by decide +kernel
theorem dX0_accepts_28 : decode cX0_accepts 28 = .ok (.invokevirtual 45, 3) := by decide +kernel
theorem dX0_accepts_31 : decode cX0_accepts 31 = .ok (.ireturn, 1) := by decide +kernel
theorem dX0_accepts_32 : decode cX0_accepts 32 = .ok (.iload_n 1, 1) := by decide +kernel
theorem dX0_accepts_33 : decode cX0_accepts 33 = .ok (.bipush 44, 2) := by decide +kernel
theorem dX0_accepts_35 : decode cX0_accepts 35 = .ok (.if_icmp .ne 8, 3) := by decide +kernel
theorem dX0_accepts_38 : decode cX0_accepts 38 = .ok (.aload_n 0, 1) := by decide +kernel
theorem dX0_accepts_39 : decode cX0_accepts 39 = .ok (.invokevirtual 49, 3) := by decide +kernel
theorem dX0_accepts_42 : decode cX0_accepts 42 = .ok (.ireturn, 1) := by decide +kernel
theorem dX0_accepts_43 : decode cX0_accepts 43 = .ok (.iload_n 1, 1) := by decide +kernel
theorem dX0_accepts_44 : decode cX0_accepts 44 = .ok (.bipush 41, 2) := by decide +kernel
theorem dX0_accepts_46 : decode cX0_accepts 46 = .ok (.if_icmp .ne 14, 3) := by decide +kernel
theorem dX0_accepts_49 : decode cX0_accepts 49 = .ok (.aload_n 0, 1) := by decide +kernel
theorem dX0_accepts_50 : decode cX0_accepts 50 = .ok (.invokevirtual 52, 3) := by decide +kernel
theorem dX0_accepts_53 : decode cX0_accepts 53 = .ok (.ifCond .eq 7, 3) := by decide +kernel
theorem dX0_accepts_56 : decode cX0_accepts 56 = .ok (.iconst 1, 1) := by decide +kernel
theorem dX0_accepts_57 : decode cX0_accepts 57 = .ok (.goto 4, 3) := by decide +kernel
theorem dX0_accepts_60 : decode cX0_accepts 60 = .ok (.iconst 0, 1) := by decide +kernel
theorem dX0_accepts_61 : decode cX0_accepts 61 = .ok (.ireturn, 1) := by decide +kernel
set_option maxRecDepth 20000 in
theorem ggX0_acceptsDigit_X0_fillRow : GoodIn wsX0_acceptsDigit wsX0_fillRow := goodIn_r _ [7, 8, 9, 10, 11, 2, 12, 13, 14, 15, 16, 17, 18, 19, 20, 21] (by decide +kernel) (by decide +kernel)
set_option maxRecDepth 20000 in
theorem gX0_acceptsDigit_X0_fillRow : GoodIn wsX0_acceptsDigit (wsV RX0 58 RX0 yX0_fillRow wsX0_fillRow) := goodIn_app (goodIn_of _ (by decide +kernel)) ggX0_acceptsDigit_X0_fillRow
theorem dX0_acceptsDigit_0 : decode cX0_acceptsDigit 0 = .ok (.aload_n 0, 1) := by decide +kernel
theorem dX0_acceptsDigit_1 : decode cX0_acceptsDigit 1 = .ok (.getfield 34, 3) := by decide +kernel
theorem dX0_acceptsDigit_4 : decode cX0_acceptsDigit 4 = .ok (.iconst 2, 1) := by decide +kernel
theorem dX0_acceptsDigit_5 : decode cX0_acceptsDigit 5 = .ok (.if_icmp .eq 18, 3) := by decide +kernel
theorem dX0_acceptsDigit_8 : decode cX0_acceptsDigit 8 = .ok (.aload_n 0, 1) := by decide +kernel
theorem dX0_acceptsDigit_9 : decode cX0_acceptsDigit 9 = .ok (.getfield 34, 3) := by decide +kernel
theorem dX0_acceptsDigit_12 : decode cX0_acceptsDigit 12 = .ok (.iconst 1, 1) := by decide +kernel
theorem dX0_acceptsDigit_13 : decode cX0_acceptsDigit 13 = .ok (.if_icmp .ne 12, 3) := by decide +kernel
theorem dX0_acceptsDigit_16 : decode cX0_acceptsDigit 16 = .ok (.aload_n 0, 1) := by decide +kernel
theorem dX0_acceptsDigit_17 : decode cX0_acceptsDigit 17 = .ok (.getfield 55, 3) := by decide +kernel
theorem dX0_acceptsDigit_20 : decode cX0_acceptsDigit 20 = .ok (.ifCond .ne 5, 3) := by decide +kernel
theorem dX0_acceptsDigit_23 : decode cX0_acceptsDigit 23 = .ok (.iconst 0, 1) := by decide +kernel
theorem dX0_acceptsDigit_24 : decode cX0_acceptsDigit 24 = .ok (.ireturn, 1) := by decide +kernel
theorem dX0_acceptsDigit_25 : decode cX0_acceptsDigit 25 = .ok (.aload_n 0, 1) := by decide +kernel
theorem dX0_acceptsDigit_26 : decode cX0_acceptsDigit 26 = .ok (.getfield 34, 3) := by decide +kernel
theorem dX0_acceptsDigit_29 : decode cX0_acceptsDigit 29 = .ok (.iconst 1, 1) := by decide +kernel
theorem dX0_acceptsDigit_30 : decode cX0_acceptsDigit 30 = .ok (.if_icmp .ne 15, 3) := by decide +kernel
theorem dX0_acceptsDigit_33 : decode cX0_acceptsDigit 33 = .ok (.aload_n 0, 1) := by decide +kernel
theorem dX0_acceptsDigit_34 : decode cX0_acceptsDigit 34 = .ok (.getfield 55, 3) := by decide +kernel
theorem dX0_acceptsDigit_37 : decode cX0_acceptsDigit 37 = .ok (.bipush 10, 2) := by decide +kernel
theorem dX0_acceptsDigit_39 : decode cX0_acceptsDigit 39 = .ok (.imul, 1) := by decide +kernel
theorem dX0_acceptsDigit_40 : decode cX0_acceptsDigit 40 = .ok (.iload_n 1, 1) := by decide +kernel
theorem dX0_acceptsDigit_41 : decode cX0_acceptsDigit 41 = .ok (.iadd, 1) := by decide +kernel
theorem dX0_acceptsDigit_42 : decode cX0_acceptsDigit 42 = .ok (.goto 4, 3) := by decide +kernel
theorem dX0_acceptsDigit_45 : decode cX0_acceptsDigit 45 = .ok (.iload_n 1, 1) := by decide +kernel
theorem dX0_acceptsDigit_46 : decode cX0_acceptsDigit 46 = .ok (.istore_n 2, 1) := by decide +kernel
theorem dX0_acceptsDigit_47 : decode cX0_acceptsDigit 47 = .ok (.iload_n 2, 1) := by decide +kernel
theorem dX0_acceptsDigit_48 : decode cX0_acceptsDigit 48 = .ok (.sipush 250, 3) := by decide +kernel
theorem dX0_acceptsDigit_51 : decode cX0_acceptsDigit 51 = .ok (.if_icmp .le 5, 3) := by decide +kernel
theorem dX0_acceptsDigit_54 : decode cX0_acceptsDigit 54 = .ok (.iconst 0, 1) := by decide +kernel
theorem dX0_acceptsDigit_55 : decode cX0_acceptsDigit 55 = .ok (.ireturn, 1) := by decide +kernel
theorem dX0_acceptsDigit_56 : decode cX0_acceptsDigit 56 = .ok (.aload_n 0, 1) := by decide +kernel
theorem dX0_acceptsDigit_57 : decode cX0_acceptsDigit 57 = .ok (.iconst 1, 1) := by decide +kernel
theorem dX0_acceptsDigit_58 : decode cX0_acceptsDigit 58 = .ok (.putfield 34, 3) := by decide +kernel
theorem dX0_acceptsDigit_61 : decode cX0_acceptsDigit 61 = .ok (.aload_n 0, 1) := by decide +kernel
theorem dX0_acceptsDigit_62 : decode cX0_acceptsDigit 62 = .ok (.iload_n 2, 1) := by decide +kernel
theorem dX0_acceptsDigit_63 : decode cX0_acceptsDigit 63 = .ok (.putfield 55, 3) := by decide +kernel
theorem dX0_acceptsDigit_66 : decode cX0_acceptsDigit 66 = .ok (.aload_n 0, 1) := by decide +kernel
theorem dX0_acceptsDigit_67 : decode cX0_acceptsDigit 67 = .ok (.invokevirtual 58, 3) := by decide +kernel
theorem dX0_acceptsDigit_70 : decode cX0_acceptsDigit 70 = .ok (.iconst 1, 1) := by decide +kernel
theorem dX0_acceptsDigit_71 : decode cX0_acceptsDigit 71 = .ok (.ireturn, 1) := by decide +kernel
theorem dX0_fillRow_0 : decode cX0_fillRow 0 = .ok (.aload_n 0, 1) := by decide +kernel
theorem dX0_fillRow_1 : decode cX0_fillRow 1 = .ok (.getfield 28, 3) := by decide +kernel
theorem dX0_fillRow_4 : decode cX0_fillRow 4 = .ok (.istore_n 1, 1) := by decide +kernel
theorem dX0_fillRow_5 : decode cX0_fillRow 5 = .ok (.iload_n 1, 1) := by decide +kernel
theorem dX0_fillRow_6 : decode cX0_fillRow 6 = .ok (.aload_n 0, 1) := by decide +kernel
theorem dX0_fillRow_7 : decode cX0_fillRow 7 = .ok (.getfield 28, 3) := by decide +kernel
theorem dX0_fillRow_10 : decode cX0_fillRow 10 = .ok (.aload_n 0, 1) := by decide +kernel
theorem dX0_fillRow_11 : decode cX0_fillRow 11 = .ok (.getfield 31, 3) := by decide +kernel
theorem dX0_fillRow_14 : decode cX0_fillRow 14 = .ok (.iadd, 1) := by decide +kernel
theorem dX0_fillRow_15 : decode cX0_fillRow 15 = .ok (.if_icmp .ge 28, 3) := by decide +kernel
theorem dX0_fillRow_18 : decode cX0_fillRow 18 = .ok (.iload_n 1, 1) := by decide +kernel
theorem dX0_fillRow_19 : decode cX0_fillRow 19 = .ok (.bipush 16, 2) := by decide +kernel
theorem dX0_fillRow_21 : decode cX0_fillRow 21 = .ok (.if_icmp .ge 22, 3) := by decide +kernel
theorem dX0_fillRow_24 : decode cX0_fillRow 24 = .ok (.aload_n 0, 1) := by decide +kernel
theorem dX0_fillRow_25 : decode cX0_fillRow 25 = .ok (.getfield 18, 3) := by decide +kernel
theorem dX0_fillRow_28 : decode cX0_fillRow 28 = .ok (.getfield 61, 3) := by decide +kernel
theorem dX0_fillRow_31 : decode cX0_fillRow 31 = .ok (.iload_n 1, 1) := by decide +kernel
theorem dX0_fillRow_32 : decode cX0_fillRow 32 = .ok (.aload_n 0, 1) := by decide +kernel
theorem dX0_fillRow_33 : decode cX0_fillRow 33 = .ok (.getfield 55, 3) := by decide +kernel
theorem dX0_fillRow_36 : decode cX0_fillRow 36 = .ok (.iastore, 1) := by decide +kernel
theorem dX0_fillRow_37 : decode cX0_fillRow 37 = .ok (.iinc 1 1, 3) := by decide +kernel
theorem dX0_fillRow_40 : decode cX0_fillRow 40 = .ok (.goto (-35), 3) := by decide +kernel
theorem dX0_fillRow_43 : decode cX0_fillRow 43 = .ok (.return_, 1) := by decide +kernel
theorem dX0_acceptsOpening_0 : decode cX0_acceptsOpening 0 = .ok (.aload_n 0, 1) := by decide +kernel
theorem dX0_acceptsOpening_1 : decode cX0_acceptsOpening 1 = .ok (.getfield 34, 3) := by decide +kernel
theorem dX0_acceptsOpening_4 : decode cX0_acceptsOpening 4 = .ok (.ifCond .ne 11, 3) := by decide +kernel
theorem dX0_acceptsOpening_7 : decode cX0_acceptsOpening 7 = .ok (.aload_n 0, 1) := by decide +kernel
theorem dX0_acceptsOpening_8 : decode cX0_acceptsOpening 8 = .ok (.getfield 31, 3) := by decide +kernel
theorem dX0_acceptsOpening_11 : decode cX0_acceptsOpening 11 = .ok (.iconst 1, 1) := by decide +kernel
theorem dX0_acceptsOpening_12 : decode cX0_acceptsOpening 12 = .ok (.if_icmp .ne 5, 3) := by decide +kernel
theorem dX0_acceptsOpening_15 : decode cX0_acceptsOpening 15 = .ok (.iconst 0, 1) := by decide +kernel
theorem dX0_acceptsOpening_16 : decode cX0_acceptsOpening 16 = .ok (.ireturn, 1) := by decide +kernel
theorem dX0_acceptsOpening_17 : decode cX0_acceptsOpening 17 = .ok (.aload_n 0, 1) := by decide +kernel
theorem dX0_acceptsOpening_18 : decode cX0_acceptsOpening 18 = .ok (.dup, 1) := by decide +kernel
theorem dX0_acceptsOpening_19 : decode cX0_acceptsOpening 19 = .ok (.getfield 31, 3) := by decide +kernel
theorem dX0_acceptsOpening_22 : decode cX0_acceptsOpening 22 = .ok (.iconst 2, 1) := by decide +kernel
theorem dX0_acceptsOpening_23 : decode cX0_acceptsOpening 23 = .ok (.idiv, 1) := by decide +kernel
theorem dX0_acceptsOpening_24 : decode cX0_acceptsOpening 24 = .ok (.putfield 31, 3) := by decide +kernel
theorem dX0_acceptsOpening_27 : decode cX0_acceptsOpening 27 = .ok (.iconst 1, 1) := by decide +kernel
theorem dX0_acceptsOpening_28 : decode cX0_acceptsOpening 28 = .ok (.ireturn, 1) := by decide +kernel
set_option maxRecDepth 20000 in
theorem ggX0_acceptsComma_X0_isUpperHalf : GoodIn wsX0_acceptsComma wsX0_isUpperHalf := goodIn_r _ [8, 3, 2, 9, 10, 11, 12, 13, 14, 15] (by decide +kernel) (by decide +kernel)
set_option maxRecDepth 20000 in
theorem gX0_acceptsComma_X0_isUpperHalf : GoodIn wsX0_acceptsComma (wsV RX0 65 RX0 yX0_isUpperHalf wsX0_isUpperHalf) := goodIn_app (goodIn_of _ (by decide +kernel)) ggX0_acceptsComma_X0_isUpperHalf
theorem dX0_acceptsComma_0 : decode cX0_acceptsComma 0 = .ok (.aload_n 0, 1) := by decide +kernel
theorem dX0_acceptsComma_1 : decode cX0_acceptsComma 1 = .ok (.getfield 34, 3) := by decide +kernel
theorem dX0_acceptsComma_4 : decode cX0_acceptsComma 4 = .ok (.ifCond .eq 19, 3) := by decide +kernel
theorem dX0_acceptsComma_7 : decode cX0_acceptsComma 7 = .ok (.aload_n 0, 1) := by decide +kernel
theorem dX0_acceptsComma_8 : decode cX0_acceptsComma 8 = .ok (.getfield 31, 3) := by decide +kernel
theorem dX0_acceptsComma_11 : decode cX0_acceptsComma 11 = .ok (.bipush 16, 2) := by decide +kernel
theorem dX0_acceptsComma_13 : decode cX0_acceptsComma 13 = .ok (.if_icmp .eq 10, 3) := by decide +kernel
theorem dX0_acceptsComma_16 : decode cX0_acceptsComma 16 = .ok (.aload_n 0, 1) := by decide +kernel
theorem dX0_acceptsComma_17 : decode cX0_acceptsComma 17 = .ok (.invokevirtual 65, 3) := by decide +kernel
theorem dX0_acceptsComma_20 : decode cX0_acceptsComma 20 = .ok (.ifCond .eq 5, 3) := by decide +kernel
theorem dX0_acceptsComma_23 : decode cX0_acceptsComma 23 = .ok (.iconst 0, 1) := by decide +kernel
theorem dX0_acceptsComma_24 : decode cX0_acceptsComma 24 = .ok (.ireturn, 1) := by decide +kernel
theorem dX0_acceptsComma_25 : decode cX0_acceptsComma 25 = .ok (.aload_n 0, 1) := by decide +kernel
theorem dX0_acceptsComma_26 : decode cX0_acceptsComma 26 = .ok (.dup, 1) := by decide +kernel
theorem dX0_acceptsComma_27 : decode cX0_acceptsComma 27 = .ok (.getfield 28, 3) := by decide +kernel
theorem dX0_acceptsComma_30 : decode cX0_acceptsComma 30 = .ok (.aload_n 0, 1) := by decide +kernel
theorem dX0_acceptsComma_31 : decode cX0_acceptsComma 31 = .ok (.getfield 31, 3) := by decide +kernel
theorem dX0_acceptsComma_34 : decode cX0_acceptsComma 34 = .ok (.iadd, 1) := by decide +kernel
theorem dX0_acceptsComma_35 : decode cX0_acceptsComma 35 = .ok (.putfield 28, 3) := by decide +kernel
theorem dX0_acceptsComma_38 : decode cX0_acceptsComma 38 = .ok (.aload_n 0, 1) := by decide +kernel
theorem dX0_acceptsComma_39 : decode cX0_acceptsComma 39 = .ok (.iconst 0, 1) := by decide +kernel
theorem dX0_acceptsComma_40 : decode cX0_acceptsComma 40 = .ok (.putfield 34, 3) := by decide +kernel
theorem dX0_acceptsComma_43 : decode cX0_acceptsComma 43 = .ok (.iconst 1, 1) := by decide +kernel
theorem dX0_acceptsComma_44 : decode cX0_acceptsComma 44 = .ok (.ireturn, 1) := by decide +kernel
set_option maxRecDepth 20000 in
theorem ggX0_acceptsClosing_X0_isUpperHalf : GoodIn wsX0_acceptsClosing wsX0_isUpperHalf := goodIn_r _ [8, 3, 2, 9, 10, 11, 12, 13, 14, 15] (by decide +kernel) (by decide +kernel)
set_option maxRecDepth 20000 in
theorem gX0_acceptsClosing_X0_isUpperHalf : GoodIn wsX0_acceptsClosing (wsV RX0 65 RX0 yX0_isUpperHalf wsX0_isUpperHalf) := goodIn_app (goodIn_of _ (by decide +kernel)) ggX0_acceptsClosing_X0_isUpperHalf
theorem dX0_acceptsClosing_0 : decode cX0_acceptsClosing 0 = .ok (.aload_n 0, 1) := by decide +kernel
theorem dX0_acceptsClosing_1 : decode cX0_acceptsClosing 1 = .ok (.getfield 34, 3) := by decide +kernel
theorem dX0_acceptsClosing_4 : decode cX0_acceptsClosing 4 = .ok (.ifCond .eq 19, 3) := by decide +kernel
theorem dX0_acceptsClosing_7 : decode cX0_acceptsClosing 7 = .ok (.aload_n 0, 1) := by decide +kernel
theorem dX0_acceptsClosing_8 : decode cX0_acceptsClosing 8 = .ok (.getfield 31, 3) := by decide +kernel
theorem dX0_acceptsClosing_11 : decode cX0_acceptsClosing 11 = .ok (.bipush 16, 2) := by decide +kernel
theorem dX0_acceptsClosing_13 : decode cX0_acceptsClosing 13 = .ok (.if_icmp .eq 10, 3) := by decide +kernel
theorem dX0_acceptsClosing_16 : decode cX0_acceptsClosing 16 = .ok (.aload_n 0, 1) := by decide +kernel
theorem dX0_acceptsClosing_17 : decode cX0_acceptsClosing 17 = .ok (.invokevirtual 65, 3) := by decide +kernel
theorem dX0_acceptsClosing_20 : decode cX0_acceptsClosing 20 = .ok (.ifCond .ne 5, 3) := by decide +kernel
theorem dX0_acceptsClosing_23 : decode cX0_acceptsClosing 23 = .ok (.iconst 0, 1) := by decide +kernel
theorem dX0_acceptsClosing_24 : decode cX0_acceptsClosing 24 = .ok (.ireturn, 1) := by decide +kernel
theorem dX0_acceptsClosing_25 : decode cX0_acceptsClosing 25 = .ok (.aload_n 0, 1) := by decide +kernel
theorem dX0_acceptsClosing_26 : decode cX0_acceptsClosing 26 = .ok (.dup, 1) := by decide +kernel
theorem dX0_acceptsClosing_27 : decode cX0_acceptsClosing 27 = .ok (.getfield 28, 3) := by decide +kernel
theorem dX0_acceptsClosing_30 : decode cX0_acceptsClosing 30 = .ok (.aload_n 0, 1) := by decide +kernel
theorem dX0_acceptsClosing_31 : decode cX0_acceptsClosing 31 = .ok (.getfield 31, 3) := by decide +kernel
theorem dX0_acceptsClosing_34 : decode cX0_acceptsClosing 34 = .ok (.isub, 1) := by decide +kernel
theorem dX0_acceptsClosing_35 : decode cX0_acceptsClosing 35 = .ok (.putfield 28, 3) := by decide +kernel
theorem dX0_acceptsClosing_38 : decode cX0_acceptsClosing 38 = .ok (.aload_n 0, 1) := by decide +kernel
theorem dX0_acceptsClosing_39 : decode cX0_acceptsClosing 39 = .ok (.dup, 1) := by decide +kernel
theorem dX0_acceptsClosing_40 : decode cX0_acceptsClosing 40 = .ok (.getfield 31, 3) := by decide +kernel
theorem dX0_acceptsClosing_43 : decode cX0_acceptsClosing 43 = .ok (.iconst 2, 1) := by decide +kernel
theorem dX0_acceptsClosing_44 : decode cX0_acceptsClosing 44 = .ok (.imul, 1) := by decide +kernel
theorem dX0_acceptsClosing_45 : decode cX0_acceptsClosing 45 = .ok (.putfield 31, 3) := by decide +kernel
theorem dX0_acceptsClosing_48 : decode cX0_acceptsClosing 48 = .ok (.aload_n 0, 1) := by decide +kernel
theorem dX0_acceptsClosing_49 : decode cX0_acceptsClosing 49 = .ok (.iconst 2, 1) := by decide +kernel
theorem dX0_acceptsClosing_50 : decode cX0_acceptsClosing 50 = .ok (.putfield 34, 3) := by decide +kernel
theorem dX0_acceptsClosing_53 : decode cX0_acceptsClosing 53 = .ok (.iconst 1, 1) := by decide +kernel
theorem dX0_acceptsClosing_54 : decode cX0_acceptsClosing 54 = .ok (.ireturn, 1) := by decide +kernel
theorem dX0_isUpperHalf_0 : decode cX0_isUpperHalf 0 = .ok (.aload_n 0, 1) := by decide +kernel
theorem dX0_isUpperHalf_1 : decode cX0_isUpperHalf 1 = .ok (.getfield 28, 3) := by decide +kernel
theorem dX0_isUpperHalf_4 : decode cX0_isUpperHalf 4 = .ok (.aload_n 0, 1) := by decide +kernel
theorem dX0_isUpperHalf_5 : decode cX0_isUpperHalf 5 = .ok (.getfield 31, 3) := by decide +kernel
theorem dX0_isUpperHalf_8 : decode cX0_isUpperHalf 8 = .ok (.iand, 1) := by decide +kernel
theorem dX0_isUpperHalf_9 : decode cX0_isUpperHalf 9 = .ok (.ifCond .eq 7, 3) := by decide +kernel
theorem dX0_isUpperHalf_12 : decode cX0_isUpperHalf 12 = .ok (.iconst 1, 1) := by decide +kernel
theorem dX0_isUpperHalf_13 : decode cX0_isUpperHalf 13 = .ok (.goto 4, 3) := by decide +kernel
theorem dX0_isUpperHalf_16 : decode cX0_isUpperHalf 16 = .ok (.iconst 0, 1) := by decide +kernel
theorem dX0_isUpperHalf_17 : decode cX0_isUpperHalf 17 = .ok (.ireturn, 1) := by decide +kernel
theorem dX1_init_0 : decode cX1_init 0 = .ok (.aload_n 0, 1) := by decide +kernel
theorem dX1_init_1 : decode cX1_init 1 = .ok (.invokespecial 3, 3) := by decide +kernel
theorem dX1_init_4 : decode cX1_init 4 = .ok (.aload_n 0, 1) := by decide +kernel
theorem dX1_init_5 : decode cX1_init 5 = .ok (.bipush 16, 2) := by decide +kernel
theorem dX1_init_7 : decode cX1_init 7 = .ok (.newarray .int, 2) := by decide +kernel
theorem dX1_init_9 : decode cX1_init 9 = .ok (.putfield 9, 3) := by decide +kernel
theorem dX1_init_12 : decode cX1_init 12 = .ok (.return_, 1) := by decide +kernel
theorem dX1_become_0 : decode cX1_become 0 = .ok (.aload_n 1, 1) := by decide +kernel
theorem dX1_become_1 : decode cX1_become 1 = .ok (.getfield 9, 3) := by decide +kernel
theorem dX1_become_4 : decode cX1_become 4 = .ok (.iconst 0, 1) := by decide +kernel
theorem dX1_become_5 : decode cX1_become 5 = .ok (.aload_n 0, 1) := by decide +kernel
theorem dX1_become_6 : decode cX1_become 6 = .ok (.getfield 9, 3) := by decide +kernel
theorem dX1_become_9 : decode cX1_become 9 = .ok (.iconst 0, 1) := by decide +kernel
theorem dX1_become_10 : decode cX1_become 10 = .ok (.bipush 16, 2) := by decide +kernel
theorem dX1_become_12 : decode cX1_become 12 = .ok (.invokestatic 15, 3) := by decide +kernel
theorem dX1_become_15 : decode cX1_become 15 = .ok (.aload_n 0, 1) := by decide +kernel
theorem dX1_become_16 : decode cX1_become 16 = .ok (.aload_n 1, 1) := by decide +kernel
theorem dX1_become_17 : decode cX1_become 17 = .ok (.getfield 21, 3) := by decide +kernel
theorem dX1_become_20 : decode cX1_become 20 = .ok (.putfield 21, 3) := by decide +kernel
theorem dX1_become_23 : decode cX1_become 23 = .ok (.aload_n 0, 1) := by decide +kernel
theorem dX1_become_24 : decode cX1_become 24 = .ok (.aload_n 1, 1) := by decide +kernel
theorem dX1_become_25 : decode cX1_become 25 = .ok (.getfield 25, 3) := by decide +kernel
theorem dX1_become_28 : decode cX1_become 28 = .ok (.putfield 25, 3) := by decide +kernel
theorem dX1_become_31 : decode cX1_become 31 = .ok (.return_, 1) := by decide +kernel
theorem dX1_takeOver_0 : decode cX1_takeOver 0 = .ok (.iconst 0, 1) := by decide +kernel
theorem dX1_takeOver_1 : decode cX1_takeOver 1 = .ok (.istore_n 2, 1) := by decide +kernel
theorem dX1_takeOver_2 : decode cX1_takeOver 2 = .ok (.iload_n 2, 1) := by decide +kernel
theorem dX1_takeOver_3 : decode cX1_takeOver 3 = .ok (.bipush 16, 2) := by decide +kernel
theorem dX1_takeOver_5 : decode cX1_takeOver 5 = .ok (.if_icmp .ge 30, 3) := by decide +kernel
theorem dX1_takeOver_8 : decode cX1_takeOver 8 = .ok (.aload_n 0, 1) := by decide +kernel
theorem dX1_takeOver_9 : decode cX1_takeOver 9 = .ok (.getfield 9, 3) := by decide +kernel
theorem dX1_takeOver_12 : decode cX1_takeOver 12 = .ok (.iload_n 2, 1) := by decide +kernel
theorem dX1_takeOver_13 : decode cX1_takeOver 13 = .ok (.aload_n 0, 1) := by decide +kernel
theorem dX1_takeOver_14 : decode cX1_takeOver 14 = .ok (.getfield 9, 3) := by decide +kernel
theorem dX1_takeOver_17 : decode cX1_takeOver 17 = .ok (.iload_n 2, 1) := by decide +kernel
theorem dX1_takeOver_18 : decode cX1_takeOver 18 = .ok (.iaload, 1) := by decide +kernel
theorem dX1_takeOver_19 : decode cX1_takeOver 19 = .ok (.aload_n 1, 1) := by decide +kernel
theorem dX1_takeOver_20 : decode cX1_takeOver 20 = .ok (.getfield 9, 3) := by decide +kernel
theorem dX1_takeOver_23 : decode cX1_takeOver 23 = .ok (.iload_n 2, 1) := by decide +kernel
theorem dX1_takeOver_24 : decode cX1_takeOver 24 = .ok (.iaload, 1) := by decide +kernel
theorem dX1_takeOver_25 : decode cX1_takeOver 25 = .ok (.invokestatic 28, 3) := by decide +kernel
theorem dX1_takeOver_28 : decode cX1_takeOver 28 = .ok (.iastore, 1) := by decide +kernel
theorem dX1_takeOver_29 : decode cX1_takeOver 29 = .ok (.iinc 2 1, 3) := by decide +kernel
theorem dX1_takeOver_32 : decode cX1_takeOver 32 = .ok (.goto (-30), 3) := by decide +kernel
theorem dX1_takeOver_35 : decode cX1_takeOver 35 = .ok (.aload_n 0, 1) := by decide +kernel
theorem dX1_takeOver_36 : decode cX1_takeOver 36 = .ok (.dup, 1) := by decide +kernel
theorem dX1_takeOver_37 : decode cX1_takeOver 37 = .ok (.getfield 21, 3) := by decide +kernel
theorem dX1_takeOver_40 : decode cX1_takeOver 40 = .ok (.aload_n 1, 1) := by decide +kernel
theorem dX1_takeOver_41 : decode cX1_takeOver 41 = .ok (.getfield 21, 3) := by decide +kernel
theorem dX1_takeOver_44 : decode cX1_takeOver 44 = .ok (.lor, 1) := by decide +kernel
theorem dX1_takeOver_45 : decode cX1_takeOver 45 = .ok (.putfield 21, 3) := by decide +kernel
theorem dX1_takeOver_48 : decode cX1_takeOver 48 = .ok (.aload_n 0, 1) := by decide +kernel
theorem dX1_takeOver_49 : decode cX1_takeOver 49 = .ok (.dup, 1) := by decide +kernel
theorem dX1_takeOver_50 : decode cX1_takeOver 50 = .ok (.getfield 25, 3) := by decide +kernel
theorem dX1_takeOver_53 : decode cX1_takeOver 53 = .ok (.aload_n 1, 1) := by decide +kernel
theorem dX1_takeOver_54 : decode cX1_takeOver 54 = .ok (.getfield 25, 3) := by decide +kernel
theorem dX1_takeOver_57 : decode cX1_takeOver 57 = .ok (.lor, 1) := by decide +kernel
theorem dX1_takeOver_58 : decode cX1_takeOver 58 = .ok (.putfield 25, 3) := by decide +kernel
theorem dX1_takeOver_61 : decode cX1_takeOver 61 = .ok (.return_, 1) := by decide +kernel
set_option maxRecDepth 20000 in
theorem ggX1_raise_X1_greatestIn : GoodIn wsX1_raise wsX1_greatestIn := goodIn_r _ [6, 1, 7, 8, 9, 10, 11, 12, 5, 13, 18, 19, 20] (by decide +kernel) (by decide +kernel)
set_option maxRecDepth 20000 in
theorem gX1_raise_X1_greatestIn : GoodIn wsX1_raise (wsV RX1 34 RX1 yX1_greatestIn wsX1_greatestIn) := goodIn_app (goodIn_of _ (by decide +kernel)) ggX1_raise_X1_greatestIn
set_option maxRecDepth 20000 in
theorem ggX1_raise_X1_isLevel : GoodIn wsX1_raise wsX1_isLevel := goodIn_r _ [17, 1, 11, 12, 5, 13, 18, 19, 20] (by decide +kernel) (by decide +kernel)
set_option maxRecDepth 20000 in
theorem gX1_raise_X1_isLevel : GoodIn wsX1_raise (wsV RX1 38 RX1 yX1_isLevel wsX1_isLevel) := goodIn_app (goodIn_of _ (by decide +kernel)) ggX1_raise_X1_isLevel
set_option maxRecDepth 20000 in
theorem ggX1_raise_X1_isIn : GoodIn wsX1_raise wsX1_isIn := goodIn_r _ [13] (by decide +kernel) (by decide +kernel)
set_option maxRecDepth 20000 in
theorem gX1_raise_X1_isIn : GoodIn wsX1_raise (va_wsS RX1 42 yX1_isIn wsX1_isIn) := goodIn_app (goodIn_of _ (by decide +kernel)) ggX1_raise_X1_isIn
theorem dX1_raise_0 : decode cX1_raise 0 = .ok (.aload_n 0, 1) := by decide +kernel
theorem dX1_raise_1 : decode cX1_raise 1 = .ok (.iload_n 1, 1) := by decide +kernel
theorem dX1_raise_2 : decode cX1_raise 2 = .ok (.invokevirtual 34, 3) := by decide +kernel
theorem dX1_raise_5 : decode cX1_raise 5 = .ok (.istore_n 2, 1) := by decide +kernel
theorem dX1_raise_6 : decode cX1_raise 6 = .ok (.aload_n 0, 1) := by decide +kernel
theorem dX1_raise_7 : decode cX1_raise 7 = .ok (.iload_n 1, 1) := by decide +kernel
theorem dX1_raise_8 : decode cX1_raise 8 = .ok (.iload_n 2, 1) := by decide +kernel
theorem dX1_raise_9 : decode cX1_raise 9 = .ok (.invokevirtual 38, 3) := by decide +kernel
theorem dX1_raise_12 : decode cX1_raise 12 = .ok (.ifCond .eq 9, 3) := by decide +kernel
theorem dX1_raise_15 : decode cX1_raise 15 = .ok (.iload_n 2, 1) := by decide +kernel
theorem dX1_raise_16 : decode cX1_raise 16 = .ok (.iconst 1, 1) := by decide +kernel
theorem dX1_raise_17 : decode cX1_raise 17 = .ok (.iadd, 1) := by decide +kernel
theorem dX1_raise_18 : decode cX1_raise 18 = .ok (.goto 4, 3) := by decide +kernel
theorem dX1_raise_21 : decode cX1_raise 21 = .ok (.iload_n 2, 1) := by decide +kernel
theorem dX1_raise_22 : decode cX1_raise 22 = .ok (.istore_n 3, 1) := by decide +kernel
theorem dX1_raise_23 : decode cX1_raise 23 = .ok (.iconst 0, 1) := by decide +kernel
theorem dX1_raise_24 : decode cX1_raise 24 = .ok (.istore 4, 2) := by decide +kernel
theorem dX1_raise_26 : decode cX1_raise 26 = .ok (.iload 4, 2) := by decide +kernel
theorem dX1_raise_28 : decode cX1_raise 28 = .ok (.bipush 16, 2) := by decide +kernel
theorem dX1_raise_30 : decode cX1_raise 30 = .ok (.if_icmp .ge 26, 3) := by decide +kernel
theorem dX1_raise_33 : decode cX1_raise 33 = .ok (.iload_n 1, 1) := by decide +kernel
theorem dX1_raise_34 : decode cX1_raise 34 = .ok (.iload 4, 2) := by decide +kernel
theorem dX1_raise_36 : decode cX1_raise 36 = .ok (.invokestatic 42, 3) := by decide +kernel
theorem dX1_raise_39 : decode cX1_raise 39 = .ok (.ifCond .eq 11, 3) := by decide +kernel
theorem dX1_raise_42 : decode cX1_raise 42 = .ok (.aload_n 0, 1) := by decide +kernel
theorem dX1_raise_43 : decode cX1_raise 43 = .ok (.getfield 9, 3) := by decide +kernel
theorem dX1_raise_46 : decode cX1_raise 46 = .ok (.iload 4, 2) := by decide +kernel
theorem dX1_raise_48 : decode cX1_raise 48 = .ok (.iload_n 3, 1) := by decide +kernel
theorem dX1_raise_49 : decode cX1_raise 49 = .ok (.iastore, 1) := by decide +kernel
theorem dX1_raise_50 : decode cX1_raise 50 = .ok (.iinc 4 1, 3) := by decide +kernel
theorem dX1_raise_53 : decode cX1_raise 53 = .ok (.goto (-27), 3) := by decide +kernel
theorem dX1_raise_56 : decode cX1_raise 56 = .ok (.return_, 1) := by decide +kernel
set_option maxRecDepth 20000 in
theorem ggX1_isLevel_X1_isIn : GoodIn wsX1_isLevel wsX1_isIn := goodIn_r _ [5] (by decide +kernel) (by decide +kernel)
set_option maxRecDepth 20000 in
theorem gX1_isLevel_X1_isIn : GoodIn wsX1_isLevel (va_wsS RX1 42 yX1_isIn wsX1_isIn) := goodIn_app (goodIn_of _ (by decide +kernel)) ggX1_isLevel_X1_isIn
theorem dX1_isLevel_0 : decode cX1_isLevel 0 = .ok (.iconst 0, 1) := by decide +kernel
theorem dX1_isLevel_1 : decode cX1_isLevel 1 = .ok (.istore_n 3, 1) := by decide +kernel
theorem dX1_isLevel_2 : decode cX1_isLevel 2 = .ok (.iload_n 3, 1) := by decide +kernel
theorem dX1_isLevel_3 : decode cX1_isLevel 3 = .ok (.bipush 16, 2) := by decide +kernel
theorem dX1_isLevel_5 : decode cX1_isLevel 5 = .ok (.if_icmp .ge 29, 3) := by decide +kernel
theorem dX1_isLevel_8 : decode cX1_isLevel 8 = .ok (.iload_n 1, 1) := by decide +kernel
theorem dX1_isLevel_9 : decode cX1_isLevel 9 = .ok (.iload_n 3, 1) := by decide +kernel
theorem dX1_isLevel_10 : decode cX1_isLevel 10 = .ok (.invokestatic 42, 3) := by decide +kernel
theorem dX1_isLevel_13 : decode cX1_isLevel 13 = .ok (.ifCond .eq 15, 3) := by decide +kernel
theorem dX1_isLevel_16 : decode cX1_isLevel 16 = .ok (.aload_n 0, 1) := by decide +kernel
theorem dX1_isLevel_17 : decode cX1_isLevel 17 = .ok (.getfield 9, 3) := by decide +kernel
theorem dX1_isLevel_20 : decode cX1_isLevel 20 = .ok (.iload_n 3, 1) := by decide +kernel
theorem dX1_isLevel_21 : decode cX1_isLevel 21 = .ok (.iaload, 1) := by decide +kernel
theorem dX1_isLevel_22 : decode cX1_isLevel 22 = .ok (.iload_n 2, 1) := by decide +kernel
theorem dX1_isLevel_23 : decode cX1_isLevel 23 = .ok (.if_icmp .eq 5, 3) := by decide +kernel
theorem dX1_isLevel_26 : decode cX1_isLevel 26 = .ok (.iconst 0, 1) := by decide +kernel
theorem dX1_isLevel_27 : decode cX1_isLevel 27 = .ok (.ireturn, 1) := by decide +kernel
theorem dX1_isLevel_28 : decode cX1_isLevel 28 = .ok (.iinc 3 1, 3) := by decide +kernel
theorem dX1_isLevel_31 : decode cX1_isLevel 31 = .ok (.goto (-29), 3) := by decide +kernel
theorem dX1_isLevel_34 : decode cX1_isLevel 34 = .ok (.iconst 1, 1) := by decide +kernel
theorem dX1_isLevel_35 : decode cX1_isLevel 35 = .ok (.ireturn, 1) := by decide +kernel
set_option maxRecDepth 20000 in
theorem ggX1_greatestIn_X1_isIn : GoodIn wsX1_greatestIn wsX1_isIn := goodIn_r _ [9] (by decide +kernel) (by decide +kernel)
set_option maxRecDepth 20000 in
theorem gX1_greatestIn_X1_isIn : GoodIn wsX1_greatestIn (va_wsS RX1 42 yX1_isIn wsX1_isIn) := goodIn_app (goodIn_of _ (by decide +kernel)) ggX1_greatestIn_X1_isIn
theorem dX1_greatestIn_0 : decode cX1_greatestIn 0 = .ok (.iconst 0, 1) := by decide +kernel
theorem dX1_greatestIn_1 : decode cX1_greatestIn 1 = .ok (.istore_n 2, 1) := by decide +kernel
theorem dX1_greatestIn_2 : decode cX1_greatestIn 2 = .ok (.iconst 0, 1) := by decide +kernel
theorem dX1_greatestIn_3 : decode cX1_greatestIn 3 = .ok (.istore_n 3, 1) := by decide +kernel
theorem dX1_greatestIn_4 : decode cX1_greatestIn 4 = .ok (.iload_n 3, 1) := by decide +kernel
theorem dX1_greatestIn_5 : decode cX1_greatestIn 5 = .ok (.bipush 16, 2) := by decide +kernel
theorem dX1_greatestIn_7 : decode cX1_greatestIn 7 = .ok (.if_icmp .ge 28, 3) := by decide +kernel
theorem dX1_greatestIn_10 : decode cX1_greatestIn 10 = .ok (.iload_n 1, 1) := by decide +kernel
theorem dX1_greatestIn_11 : decode cX1_greatestIn 11 = .ok (.iload_n 3, 1) := by decide +kernel
theorem dX1_greatestIn_12 : decode cX1_greatestIn 12 = .ok (.invokestatic 42, 3) := by decide +kernel
theorem dX1_greatestIn_15 : decode cX1_greatestIn 15 = .ok (.ifCond .eq 14, 3) := by decide +kernel
theorem dX1_greatestIn_18 : decode cX1_greatestIn 18 = .ok (.iload_n 2, 1) := by decide +kernel
theorem dX1_greatestIn_19 : decode cX1_greatestIn 19 = .ok (.aload_n 0, 1) := by decide +kernel
theorem dX1_greatestIn_20 : decode cX1_greatestIn 20 = .ok (.getfield 9, 3) := by decide +kernel
theorem dX1_greatestIn_23 : decode cX1_greatestIn 23 = .ok (.iload_n 3, 1) := by decide +kernel
theorem dX1_greatestIn_24 : decode cX1_greatestIn 24 = .ok (.iaload, 1) := by decide +kernel
theorem dX1_greatestIn_25 : decode cX1_greatestIn 25 = .ok (.invokestatic 28, 3) := by decide +kernel
theorem dX1_greatestIn_28 : decode cX1_greatestIn 28 = .ok (.istore_n 2, 1) := by decide +kernel
theorem dX1_greatestIn_29 : decode cX1_greatestIn 29 = .ok (.iinc 3 1, 3) := by decide +kernel
theorem dX1_greatestIn_32 : decode cX1_greatestIn 32 = .ok (.goto (-28), 3) := by decide +kernel
theorem dX1_greatestIn_35 : decode cX1_greatestIn 35 = .ok (.iload_n 2, 1) := by decide +kernel
theorem dX1_greatestIn_36 : decode cX1_greatestIn 36 = .ok (.ireturn, 1) := by decide +kernel
theorem dX1_sum_0 : decode cX1_sum 0 = .ok (.iconst 0, 1) := by decide +kernel
theorem dX1_sum_1 : decode cX1_sum 1 = .ok (.istore_n 1, 1) := by decide +kernel
theorem dX1_sum_2 : decode cX1_sum 2 = .ok (.aload_n 0, 1) := by decide +kernel
theorem dX1_sum_3 : decode cX1_sum 3 = .ok (.getfield 9, 3) := by decide +kernel
theorem dX1_sum_6 : decode cX1_sum 6 = .ok (.astore_n 2, 1) := by decide +kernel
theorem dX1_sum_7 : decode cX1_sum 7 = .ok (.aload_n 2, 1) := by decide +kernel
theorem dX1_sum_8 : decode cX1_sum 8 = .ok (.arraylength, 1) := by decide +kernel
theorem dX1_sum_9 : decode cX1_sum 9 = .ok (.istore_n 3, 1) := by decide +kernel
theorem dX1_sum_10 : decode cX1_sum 10 = .ok (.iconst 0, 1) := by decide +kernel
theorem dX1_sum_11 : decode cX1_sum 11 = .ok (.istore 4, 2) := by decide +kernel
theorem dX1_sum_13 : decode cX1_sum 13 = .ok (.iload 4, 2) := by decide +kernel
theorem dX1_sum_15 : decode cX1_sum 15 = .ok (.iload_n 3, 1) := by decide +kernel
theorem dX1_sum_16 : decode cX1_sum 16 = .ok (.if_icmp .ge 20, 3) := by decide +kernel
theorem dX1_sum_19 : decode cX1_sum 19 = .ok (.aload_n 2, 1) := by decide +kernel
theorem dX1_sum_20 : decode cX1_sum 20 = .ok (.iload 4, 2) := by decide +kernel
theorem dX1_sum_22 : decode cX1_sum 22 = .ok (.iaload, 1) := by decide +kernel
theorem dX1_sum_23 : decode cX1_sum 23 = .ok (.istore 5, 2) := by decide +kernel
theorem dX1_sum_25 : decode cX1_sum 25 = .ok (.iload_n 1, 1) := by decide +kernel
theorem dX1_sum_26 : decode cX1_sum 26 = .ok (.iload 5, 2) := by decide +kernel
theorem dX1_sum_28 : decode cX1_sum 28 = .ok (.iadd, 1) := by decide +kernel
theorem dX1_sum_29 : decode cX1_sum 29 = .ok (.istore_n 1, 1) := by decide +kernel
theorem dX1_sum_30 : decode cX1_sum 30 = .ok (.iinc 4 1, 3) := by decide +kernel
theorem dX1_sum_33 : decode cX1_sum 33 = .ok (.goto (-20), 3) := by decide +kernel
theorem dX1_sum_36 : decode cX1_sum 36 = .ok (.iload_n 1, 1) := by decide +kernel
theorem dX1_sum_37 : decode cX1_sum 37 = .ok (.ireturn, 1) := by decide +kernel
theorem dX1_orderTo_0 : decode cX1_orderTo 0 = .ok (.iconst 0, 1) := by decide +kernel
theorem dX1_orderTo_1 : decode cX1_orderTo 1 = .ok (.istore_n 2, 1) := by decide +kernel
theorem dX1_orderTo_2 : decode cX1_orderTo 2 = .ok (.iconst 0, 1) := by decide +kernel
theorem dX1_orderTo_3 : decode cX1_orderTo 3 = .ok (.istore_n 3, 1) := by decide +kernel
theorem dX1_orderTo_4 : decode cX1_orderTo 4 = .ok (.iconst 0, 1) := by decide +kernel
theorem dX1_orderTo_5 : decode cX1_orderTo 5 = .ok (.istore 4, 2) := by decide +kernel
theorem dX1_orderTo_7 : decode cX1_orderTo 7 = .ok (.iload 4, 2) := by decide +kernel
theorem dX1_orderTo_9 : decode cX1_orderTo 9 = .ok (.bipush 16, 2) := by decide +kernel
theorem dX1_orderTo_11 : decode cX1_orderTo 11 = .ok (.if_icmp .ge 50, 3) := by decide +kernel
theorem dX1_orderTo_14 : decode cX1_orderTo 14 = .ok (.aload_n 0, 1) := by decide +kernel
theorem dX1_orderTo_15 : decode cX1_orderTo 15 = .ok (.getfield 9, 3) := by decide +kernel
theorem dX1_orderTo_18 : decode cX1_orderTo 18 = .ok (.iload 4, 2) := by decide +kernel
theorem dX1_orderTo_20 : decode cX1_orderTo 20 = .ok (.iaload, 1) := by decide +kernel
theorem dX1_orderTo_21 : decode cX1_orderTo 21 = .ok (.aload_n 1, 1) := by decide +kernel
theorem dX1_orderTo_22 : decode cX1_orderTo 22 = .ok (.getfield 9, 3) := by decide +kernel
theorem dX1_orderTo_25 : decode cX1_orderTo 25 = .ok (.iload 4, 2) := by decide +kernel
theorem dX1_orderTo_27 : decode cX1_orderTo 27 = .ok (.iaload, 1) := by decide +kernel
theorem dX1_orderTo_28 : decode cX1_orderTo 28 = .ok (.if_icmp .ge 8, 3) := by decide +kernel
theorem dX1_orderTo_31 : decode cX1_orderTo 31 = .ok (.iconst 1, 1) := by decide +kernel
theorem dX1_orderTo_32 : decode cX1_orderTo 32 = .ok (.istore_n 2, 1) := by decide +kernel
theorem dX1_orderTo_33 : decode cX1_orderTo 33 = .ok (.goto 22, 3) := by decide +kernel
theorem dX1_orderTo_36 : decode cX1_orderTo 36 = .ok (.aload_n 0, 1) := by decide +kernel
theorem dX1_orderTo_37 : decode cX1_orderTo 37 = .ok (.getfield 9, 3) := by decide +kernel
theorem dX1_orderTo_40 : decode cX1_orderTo 40 = .ok (.iload 4, 2) := by decide +kernel
theorem dX1_orderTo_42 : decode cX1_orderTo 42 = .ok (.iaload, 1) := by decide +kernel
theorem dX1_orderTo_43 : decode cX1_orderTo 43 = .ok (.aload_n 1, 1) := by decide +kernel
theorem dX1_orderTo_44 : decode cX1_orderTo 44 = .ok (.getfield 9, 3) := by decide +kernel
theorem dX1_orderTo_47 : decode cX1_orderTo 47 = .ok (.iload 4, 2) := by decide +kernel
theorem dX1_orderTo_49 : decode cX1_orderTo 49 = .ok (.iaload, 1) := by decide +kernel
theorem dX1_orderTo_50 : decode cX1_orderTo 50 = .ok (.if_icmp .le 5, 3) := by decide +kernel
theorem dX1_orderTo_53 : decode cX1_orderTo 53 = .ok (.iconst 1, 1) := by decide +kernel
theorem dX1_orderTo_54 : decode cX1_orderTo 54 = .ok (.istore_n 3, 1) := by decide +kernel
theorem dX1_orderTo_55 : decode cX1_orderTo 55 = .ok (.iinc 4 1, 3) := by decide +kernel
theorem dX1_orderTo_58 : decode cX1_orderTo 58 = .ok (.goto (-51), 3) := by decide +kernel
theorem dX1_orderTo_61 : decode cX1_orderTo 61 = .ok (.iload_n 2, 1) := by decide +kernel
theorem dX1_orderTo_62 : decode cX1_orderTo 62 = .ok (.ifCond .eq 13, 3) := by decide +kernel
theorem dX1_orderTo_65 : decode cX1_orderTo 65 = .ok (.iload_n 3, 1) := by decide +kernel
theorem dX1_orderTo_66 : decode cX1_orderTo 66 = .ok (.ifCond .eq 7, 3) := by decide +kernel
theorem dX1_orderTo_69 : decode cX1_orderTo 69 = .ok (.iconst 3, 1) := by decide +kernel
theorem dX1_orderTo_70 : decode cX1_orderTo 70 = .ok (.goto 4, 3) := by decide +kernel
theorem dX1_orderTo_73 : decode cX1_orderTo 73 = .ok (.iconst 1, 1) := by decide +kernel
theorem dX1_orderTo_74 : decode cX1_orderTo 74 = .ok (.ireturn, 1) := by decide +kernel
theorem dX1_orderTo_75 : decode cX1_orderTo 75 = .ok (.iload_n 3, 1) := by decide +kernel
theorem dX1_orderTo_76 : decode cX1_orderTo 76 = .ok (.ifCond .eq 7, 3) := by decide +kernel
theorem dX1_orderTo_79 : decode cX1_orderTo 79 = .ok (.iconst 2, 1) := by decide +kernel
theorem dX1_orderTo_80 : decode cX1_orderTo 80 = .ok (.goto 4, 3) := by decide +kernel
theorem dX1_orderTo_83 : decode cX1_orderTo 83 = .ok (.iconst 0, 1) := by decide +kernel
theorem dX1_orderTo_84 : decode cX1_orderTo 84 = .ok (.ireturn, 1) := by decide +kernel
theorem dX1_learn_0 : decode cX1_learn 0 = .ok (.iload_n 1, 1) := by decide +kernel
theorem dX1_learn_1 : decode cX1_learn 1 = .ok (.bipush 64, 2) := by decide +kernel
theorem dX1_learn_3 : decode cX1_learn 3 = .ok (.if_icmp .ge 18, 3) := by decide +kernel
theorem dX1_learn_6 : decode cX1_learn 6 = .ok (.aload_n 0, 1) := by decide +kernel
theorem dX1_learn_7 : decode cX1_learn 7 = .ok (.dup, 1) := by decide +kernel
theorem dX1_learn_8 : decode cX1_learn 8 = .ok (.getfield 21, 3) := by decide +kernel
theorem dX1_learn_11 : decode cX1_learn 11 = .ok (.lconst 1, 1) := by decide +kernel
theorem dX1_learn_12 : decode cX1_learn 12 = .ok (.iload_n 1, 1) := by decide +kernel
theorem dX1_learn_13 : decode cX1_learn 13 = .ok (.lshl, 1) := by decide +kernel
theorem dX1_learn_14 : decode cX1_learn 14 = .ok (.lor, 1) := by decide +kernel
theorem dX1_learn_15 : decode cX1_learn 15 = .ok (.putfield 21, 3) := by decide +kernel
theorem dX1_learn_18 : decode cX1_learn 18 = .ok (.goto 18, 3) := by decide +kernel
theorem dX1_learn_21 : decode cX1_learn 21 = .ok (.aload_n 0, 1) := by decide +kernel
theorem dX1_learn_22 : decode cX1_learn 22 = .ok (.dup, 1) := by decide +kernel
theorem dX1_learn_23 : decode cX1_learn 23 = .ok (.getfield 25, 3) := by decide +kernel
theorem dX1_learn_26 : decode cX1_learn 26 = .ok (.lconst 1, 1) := by decide +kernel
theorem dX1_learn_27 : decode cX1_learn 27 = .ok (.iload_n 1, 1) := by decide +kernel
theorem dX1_learn_28 : decode cX1_learn 28 = .ok (.bipush 64, 2) := by decide +kernel
theorem dX1_learn_30 : decode cX1_learn 30 = .ok (.isub, 1) := by decide +kernel
theorem dX1_learn_31 : decode cX1_learn 31 = .ok (.lshl, 1) := by decide +kernel
theorem dX1_learn_32 : decode cX1_learn 32 = .ok (.lor, 1) := by decide +kernel
theorem dX1_learn_33 : decode cX1_learn 33 = .ok (.putfield 25, 3) := by decide +kernel
theorem dX1_learn_36 : decode cX1_learn 36 = .ok (.return_, 1) := by decide +kernel
theorem dX1_isKnown_0 : decode cX1_isKnown 0 = .ok (.iload_n 1, 1) := by decide +kernel
theorem dX1_isKnown_1 : decode cX1_isKnown 1 = .ok (.bipush 64, 2) := by decide +kernel
theorem dX1_isKnown_3 : decode cX1_isKnown 3 = .ok (.if_icmp .ge 12, 3) := by decide +kernel
theorem dX1_isKnown_6 : decode cX1_isKnown 6 = .ok (.aload_n 0, 1) := by decide +kernel
theorem dX1_isKnown_7 : decode cX1_isKnown 7 = .ok (.getfield 21, 3) := by decide +kernel
theorem dX1_isKnown_10 : decode cX1_isKnown 10 = .ok (.iload_n 1, 1) := by decide +kernel
theorem dX1_isKnown_11 : decode cX1_isKnown 11 = .ok (.lushr, 1) := by decide +kernel
theorem dX1_isKnown_12 : decode cX1_isKnown 12 = .ok (.goto 12, 3) := by decide +kernel
theorem dX1_isKnown_15 : decode cX1_isKnown 15 = .ok (.aload_n 0, 1) := by decide +kernel
theorem dX1_isKnown_16 : decode cX1_isKnown 16 = .ok (.getfield 25, 3) := by decide +kernel
theorem dX1_isKnown_19 : decode cX1_isKnown 19 = .ok (.iload_n 1, 1) := by decide +kernel
theorem dX1_isKnown_20 : decode cX1_isKnown 20 = .ok (.bipush 64, 2) := by decide +kernel
theorem dX1_isKnown_22 : decode cX1_isKnown 22 = .ok (.isub, 1) := by decide +kernel
theorem dX1_isKnown_23 : decode cX1_isKnown 23 = .ok (.lushr, 1) := by decide +kernel
theorem dX1_isKnown_24 : decode cX1_isKnown 24 = .ok (.lstore_n 2, 1) := by decide +kernel
theorem dX1_isKnown_25 : decode cX1_isKnown 25 = .ok (.lload_n 2, 1) := by decide +kernel
theorem dX1_isKnown_26 : decode cX1_isKnown 26 = .ok (.lconst 1, 1) := by decide +kernel
theorem dX1_isKnown_27 : decode cX1_isKnown 27 = .ok (.land, 1) := by decide +kernel
theorem dX1_isKnown_28 : decode cX1_isKnown 28 = .ok (.lconst 1, 1) := by decide +kernel
theorem dX1_isKnown_29 : decode cX1_isKnown 29 = .ok (.lcmp, 1) := by decide +kernel
theorem dX1_isKnown_30 : decode cX1_isKnown 30 = .ok (.ifCond .ne 7, 3) := by decide +kernel
theorem dX1_isKnown_33 : decode cX1_isKnown 33 = .ok (.iconst 1, 1) := by decide +kernel
theorem dX1_isKnown_34 : decode cX1_isKnown 34 = .ok (.goto 4, 3) := by decide +kernel
theorem dX1_isKnown_37 : decode cX1_isKnown 37 = .ok (.iconst 0, 1) := by decide +kernel
theorem dX1_isKnown_38 : decode cX1_isKnown 38 = .ok (.ireturn, 1) := by decide +kernel
set_option maxRecDepth 20000 in
theorem ggX1_knownCount_J13_bitCount_95d88 : GoodIn wsX1_knownCount wsJ13_bitCount_95d88 := goodIn_r _ [6, 7, 8, 9] (by decide +kernel) (by decide +kernel)
set_option maxRecDepth 20000 in
theorem gX1_knownCount_J13_bitCount_95d88 : GoodIn wsX1_knownCount (va_wsS RX1 45 yJ13_bitCount_95d88 wsJ13_bitCount_95d88) := goodIn_app (goodIn_of _ (by decide +kernel)) ggX1_knownCount_J13_bitCount_95d88
theorem dX1_knownCount_0 : decode cX1_knownCount 0 = .ok (.aload_n 0, 1) := by decide +kernel
theorem dX1_knownCount_1 : decode cX1_knownCount 1 = .ok (.getfield 21, 3) := by decide +kernel
theorem dX1_knownCount_4 : decode cX1_knownCount 4 = .ok (.invokestatic 45, 3) := by decide +kernel
theorem dX1_knownCount_7 : decode cX1_knownCount 7 = .ok (.aload_n 0, 1) := by decide +kernel
theorem dX1_knownCount_8 : decode cX1_knownCount 8 = .ok (.getfield 25, 3) := by decide +kernel
theorem dX1_knownCount_11 : decode cX1_knownCount 11 = .ok (.invokestatic 45, 3) := by decide +kernel
theorem dX1_knownCount_14 : decode cX1_knownCount 14 = .ok (.iadd, 1) := by decide +kernel
theorem dX1_knownCount_15 : decode cX1_knownCount 15 = .ok (.ireturn, 1) := by decide +kernel
set_option maxRecDepth 20000 in
theorem ggX1_knownBeyond_J13_bitCount_95d88 : GoodIn wsX1_knownBeyond wsJ13_bitCount_95d88 := goodIn_r _ [7, 8, 9, 10] (by decide +kernel) (by decide +kernel)
set_option maxRecDepth 20000 in
theorem gX1_knownBeyond_J13_bitCount_95d88 : GoodIn wsX1_knownBeyond (va_wsS RX1 45 yJ13_bitCount_95d88 wsJ13_bitCount_95d88) := goodIn_app (goodIn_of _ (by decide +kernel)) ggX1_knownBeyond_J13_bitCount_95d88
theorem dX1_knownBeyond_0 : decode cX1_knownBeyond 0 = .ok (.aload_n 0, 1) := by decide +kernel
theorem dX1_knownBeyond_1 : decode cX1_knownBeyond 1 = .ok (.getfield 21, 3) := by decide +kernel
theorem dX1_knownBeyond_4 : decode cX1_knownBeyond 4 = .ok (.aload_n 1, 1) := by decide +kernel
theorem dX1_knownBeyond_5 : decode cX1_knownBeyond 5 = .ok (.getfield 21, 3) := by decide +kernel
theorem dX1_knownBeyond_8 : decode cX1_knownBeyond 8 = .ok (.ldc2_w 51, 3) := by decide +kernel
theorem dX1_knownBeyond_11 : decode cX1_knownBeyond 11 = .ok (.lxor, 1) := by decide +kernel
theorem dX1_knownBeyond_12 : decode cX1_knownBeyond 12 = .ok (.land, 1) := by decide +kernel
theorem dX1_knownBeyond_13 : decode cX1_knownBeyond 13 = .ok (.invokestatic 45, 3) := by decide +kernel
theorem dX1_knownBeyond_16 : decode cX1_knownBeyond 16 = .ok (.aload_n 0, 1) := by decide +kernel
theorem dX1_knownBeyond_17 : decode cX1_knownBeyond 17 = .ok (.getfield 25, 3) := by decide +kernel
theorem dX1_knownBeyond_20 : decode cX1_knownBeyond 20 = .ok (.aload_n 1, 1) := by decide +kernel
theorem dX1_knownBeyond_21 : decode cX1_knownBeyond 21 = .ok (.getfield 25, 3) := by decide +kernel
theorem dX1_knownBeyond_24 : decode cX1_knownBeyond 24 = .ok (.ldc2_w 51, 3) := by decide +kernel
theorem dX1_knownBeyond_27 : decode cX1_knownBeyond 27 = .ok (.lxor, 1) := by decide +kernel
theorem dX1_knownBeyond_28 : decode cX1_knownBeyond 28 = .ok (.land, 1) := by decide +kernel
theorem dX1_knownBeyond_29 : decode cX1_knownBeyond 29 = .ok (.invokestatic 45, 3) := by decide +kernel
theorem dX1_knownBeyond_32 : decode cX1_knownBeyond 32 = .ok (.iadd, 1) := by decide +kernel
theorem dX1_knownBeyond_33 : decode cX1_knownBeyond 33 = .ok (.ireturn, 1) := by decide +kernel
set_option maxRecDepth 20000 in
theorem ggX1_latestKnown_X1_isKnown : GoodIn wsX1_latestKnown wsX1_isKnown := goodIn_r _ [5, 6, 7, 8, 9, 10] (by decide +kernel) (by decide +kernel)
set_option maxRecDepth 20000 in
theorem gX1_latestKnown_X1_isKnown : GoodIn wsX1_latestKnown (wsV RX1 53 RX1 yX1_isKnown wsX1_isKnown) := goodIn_app (goodIn_of _ (by decide +kernel)) ggX1_latestKnown_X1_isKnown
theorem dX1_latestKnown_0 : decode cX1_latestKnown 0 = .ok (.bipush 119, 2) := by decide +kernel
theorem dX1_latestKnown_2 : decode cX1_latestKnown 2 = .ok (.istore_n 1, 1) := by decide +kernel
theorem dX1_latestKnown_3 : decode cX1_latestKnown 3 = .ok (.iload_n 1, 1) := by decide +kernel
theorem dX1_latestKnown_4 : decode cX1_latestKnown 4 = .ok (.ifCond .lt 19, 3) := by decide +kernel
theorem dX1_latestKnown_7 : decode cX1_latestKnown 7 = .ok (.aload_n 0, 1) := by decide +kernel
theorem dX1_latestKnown_8 : decode cX1_latestKnown 8 = .ok (.iload_n 1, 1) := by decide +kernel
theorem dX1_latestKnown_9 : decode cX1_latestKnown 9 = .ok (.invokevirtual 53, 3) := by decide +kernel
theorem dX1_latestKnown_12 : decode cX1_latestKnown 12 = .ok (.ifCond .eq 5, 3) := by decide +kernel
theorem dX1_latestKnown_15 : decode cX1_latestKnown 15 = .ok (.iload_n 1, 1) := by decide +kernel
theorem dX1_latestKnown_16 : decode cX1_latestKnown 16 = .ok (.ireturn, 1) := by decide +kernel
theorem dX1_latestKnown_17 : decode cX1_latestKnown 17 = .ok (.iinc 1 (-1), 3) := by decide +kernel
theorem dX1_latestKnown_20 : decode cX1_latestKnown 20 = .ok (.goto (-17), 3) := by decide +kernel
theorem dX1_latestKnown_23 : decode cX1_latestKnown 23 = .ok (.bipush (-6), 2) := by decide +kernel
theorem dX1_latestKnown_25 : decode cX1_latestKnown 25 = .ok (.ireturn, 1) := by decide +kernel
set_option maxRecDepth 20000 in
theorem ggX1_knots_X1_knotsOfRow : GoodIn wsX1_knots wsX1_knotsOfRow := goodIn_r _ [5, 6, 7, 4, 8, 2, 3] (by decide +kernel) (by decide +kernel)
set_option maxRecDepth 20000 in
theorem gX1_knots_X1_knotsOfRow : GoodIn wsX1_knots (va_wsS RX1 57 yX1_knotsOfRow wsX1_knotsOfRow) := goodIn_app (goodIn_of _ (by decide +kernel)) ggX1_knots_X1_knotsOfRow
theorem dX1_knots_0 : decode cX1_knots 0 = .ok (.aload_n 0, 1) := by decide +kernel
theorem dX1_knots_1 : decode cX1_knots 1 = .ok (.getfield 9, 3) := by decide +kernel
theorem dX1_knots_4 : decode cX1_knots 4 = .ok (.iconst 0, 1) := by decide +kernel
theorem dX1_knots_5 : decode cX1_knots 5 = .ok (.bipush 16, 2) := by decide +kernel
theorem dX1_knots_7 : decode cX1_knots 7 = .ok (.invokestatic 57, 3) := by decide +kernel
theorem dX1_knots_10 : decode cX1_knots 10 = .ok (.ireturn, 1) := by decide +kernel
set_option maxRecDepth 20000 in
theorem ggX1_print_X1_printRow : GoodIn wsX1_print wsX1_printRow := goodIn_r _ [5, 6, 7, 4, 8, 9, 10, 11, 12, 13, 14, 15, 16, 17, 18, 19, 20, 21, 22, 23, 24, 25, 26, 27, 28, 29, 30, 31, 32, 33, 34, 35, 36, 37, 38, 39, 40, 41, 42, 43, 44, 45, 46, 47, 48, 49, 50, 51, 52, 53, 54, 55, 56, 57, 58, 59, 60, 61, 62, 63, 64, 65, 66, 67, 68, 69, 70, 71, 72, 73, 74, 75, 76, 77, 78, 79, 80, 81, 82, 83, 84, 85, 86, 87, 88, 89, 90, 91, 92, 93, 94, 95, 96, 97, 98, 99, 100, 101, 102, 103, 104, 105, 106, 107, 108, 109, 110, 111, 112, 113, 114, 115, 116, 117, 118, 119, 120, 121, 122, 123, 124, 125, 126, 127, 128, 129, 130, 131, 132, 133, 134, 135, 136, 137, 138, 139, 140, 141, 142, 143, 144, 145, 146, 147, 148, 149, 150, 151, 152, 153, 154, 155, 156, 157, 158, 159, 2, 3, 163, 164, 165, 166] (by decide +kernel) (by decide +kernel)
set_option maxRecDepth 20000 in
theorem gX1_print_X1_printRow : GoodIn wsX1_print (va_wsS RX1 61 yX1_printRow wsX1_printRow) := goodIn_app (goodIn_of _ (by decide +kernel)) ggX1_print_X1_printRow
theorem dX1_print_0 : decode cX1_print 0 = .ok (.aload_n 0, 1) := by decide +kernel
theorem dX1_print_1 : decode cX1_print 1 = .ok (.getfield 9, 3) := by decide +kernel
theorem dX1_print_4 : decode cX1_print 4 = .ok (.iconst 0, 1) := by decide +kernel
theorem dX1_print_5 : decode cX1_print 5 = .ok (.bipush 16, 2) := by decide +kernel
theorem dX1_print_7 : decode cX1_print 7 = .ok (.aload_n 1, 1) := by decide +kernel
theorem dX1_print_8 : decode cX1_print 8 = .ok (.invokestatic 61, 3) := by decide +kernel
theorem dX1_print_11 : decode cX1_print 11 = .ok (.return_, 1) := by decide +kernel
theorem dX1_isIn_0 : decode cX1_isIn 0 = .ok (.iload_n 0, 1) := by decide +kernel
theorem dX1_isIn_1 : decode cX1_isIn 1 = .ok (.iload_n 1, 1) := by decide +kernel
theorem dX1_isIn_2 : decode cX1_isIn 2 = .ok (.ishr, 1) := by decide +kernel
theorem dX1_isIn_3 : decode cX1_isIn 3 = .ok (.iconst 1, 1) := by decide +kernel
theorem dX1_isIn_4 : decode cX1_isIn 4 = .ok (.iand, 1) := by decide +kernel
theorem dX1_isIn_5 : decode cX1_isIn 5 = .ok (.iconst 1, 1) := by decide +kernel
theorem dX1_isIn_6 : decode cX1_isIn 6 = .ok (.if_icmp .ne 7, 3) := by decide +kernel
theorem dX1_isIn_9 : decode cX1_isIn 9 = .ok (.iconst 1, 1) := by decide +kernel
theorem dX1_isIn_10 : decode cX1_isIn 10 = .ok (.goto 4, 3) := by decide +kernel
theorem dX1_isIn_13 : decode cX1_isIn 13 = .ok (.iconst 0, 1) := by decide +kernel
theorem dX1_isIn_14 : decode cX1_isIn 14 = .ok (.ireturn, 1) := by decide +kernel
set_option maxRecDepth 20000 in
theorem ggX1_knotsOfRow_X1_isLeaf : GoodIn wsX1_knotsOfRow wsX1_isLeaf := goodIn_r _ [4] (by decide +kernel) (by decide +kernel)
set_option maxRecDepth 20000 in
theorem gX1_knotsOfRow_X1_isLeaf : GoodIn wsX1_knotsOfRow (va_wsS RX1 65 yX1_isLeaf wsX1_isLeaf) := goodIn_app (goodIn_of _ (by decide +kernel)) ggX1_knotsOfRow_X1_isLeaf
set_option maxRecDepth 20000 in
theorem ggX1_knotsOfRow_X1_knotsOfRow : GoodIn wsX1_knotsOfRow wsX1_knotsOfRow := goodIn_r _ [0, 1, 2, 3, 4, 5, 6] (by decide +kernel) (by decide +kernel)
set_option maxRecDepth 20000 in
theorem gX1_knotsOfRow_X1_knotsOfRow : GoodIn wsX1_knotsOfRow (va_wsS RX1 57 yX1_knotsOfRow wsX1_knotsOfRow) := goodIn_app (goodIn_of _ (by decide +kernel)) ggX1_knotsOfRow_X1_knotsOfRow
theorem dX1_knotsOfRow_0 : decode cX1_knotsOfRow 0 = .ok (.iload_n 2, 1) := by decide +kernel
theorem dX1_knotsOfRow_1 : decode cX1_knotsOfRow 1 = .ok (.iconst 1, 1) := by decide +kernel
theorem dX1_knotsOfRow_2 : decode cX1_knotsOfRow 2 = .ok (.if_icmp .le 12, 3) := by decide +kernel
theorem dX1_knotsOfRow_5 : decode cX1_knotsOfRow 5 = .ok (.aload_n 0, 1) := by decide +kernel
theorem dX1_knotsOfRow_6 : decode cX1_knotsOfRow 6 = .ok (.iload_n 1, 1) := by decide +kernel
theorem dX1_knotsOfRow_7 : decode cX1_knotsOfRow 7 = .ok (.iload_n 2, 1) := by decide +kernel
theorem dX1_knotsOfRow_8 : decode cX1_knotsOfRow 8 = .ok (.invokestatic 65, 3) := by decide +kernel
theorem dX1_knotsOfRow_11 : decode cX1_knotsOfRow 11 = .ok (.ifCond .eq 5, 3) := by decide +kernel
theorem dX1_knotsOfRow_14 : decode cX1_knotsOfRow 14 = .ok (.iconst 0, 1) := by decide +kernel
theorem dX1_knotsOfRow_15 : decode cX1_knotsOfRow 15 = .ok (.ireturn, 1) := by decide +kernel
theorem dX1_knotsOfRow_16 : decode cX1_knotsOfRow 16 = .ok (.iload_n 2, 1) := by decide +kernel
theorem dX1_knotsOfRow_17 : decode cX1_knotsOfRow 17 = .ok (.iconst 2, 1) := by decide +kernel
theorem dX1_knotsOfRow_18 : decode cX1_knotsOfRow 18 = .ok (.idiv, 1) := by decide +kernel
theorem dX1_knotsOfRow_19 : decode cX1_knotsOfRow 19 = .ok (.istore_n 3, 1) := by decide +kernel
theorem dX1_knotsOfRow_20 : decode cX1_knotsOfRow 20 = .ok (.iconst 1, 1) := by decide +kernel
theorem dX1_knotsOfRow_21 : decode cX1_knotsOfRow 21 = .ok (.aload_n 0, 1) := by decide +kernel
theorem dX1_knotsOfRow_22 : decode cX1_knotsOfRow 22 = .ok (.iload_n 1, 1) := by decide +kernel
theorem dX1_knotsOfRow_23 : decode cX1_knotsOfRow 23 = .ok (.iload_n 3, 1) := by decide +kernel
theorem dX1_knotsOfRow_24 : decode cX1_knotsOfRow 24 = .ok (.invokestatic 57, 3) := by decide +kernel
theorem dX1_knotsOfRow_27 : decode cX1_knotsOfRow 27 = .ok (.iadd, 1) := by decide +kernel
theorem dX1_knotsOfRow_28 : decode cX1_knotsOfRow 28 = .ok (.aload_n 0, 1) := by decide +kernel
theorem dX1_knotsOfRow_29 : decode cX1_knotsOfRow 29 = .ok (.iload_n 1, 1) := by decide +kernel
theorem dX1_knotsOfRow_30 : decode cX1_knotsOfRow 30 = .ok (.iload_n 3, 1) := by decide +kernel
theorem dX1_knotsOfRow_31 : decode cX1_knotsOfRow 31 = .ok (.iadd, 1) := by decide +kernel
theorem dX1_knotsOfRow_32 : decode cX1_knotsOfRow 32 = .ok (.iload_n 3, 1) := by decide +kernel
theorem dX1_knotsOfRow_33 : decode cX1_knotsOfRow 33 = .ok (.invokestatic 57, 3) := by decide +kernel
theorem dX1_knotsOfRow_36 : decode cX1_knotsOfRow 36 = .ok (.iadd, 1) := by decide +kernel
theorem dX1_knotsOfRow_37 : decode cX1_knotsOfRow 37 = .ok (.ireturn, 1) := by decide +kernel
set_option maxRecDepth 20000 in
theorem ggX1_printRow_X1_isLeaf : GoodIn wsX1_printRow wsX1_isLeaf := goodIn_r _ [4] (by decide +kernel) (by decide +kernel)
set_option maxRecDepth 20000 in
theorem gX1_printRow_X1_isLeaf : GoodIn wsX1_printRow (va_wsS RX1 65 yX1_isLeaf wsX1_isLeaf) := goodIn_app (goodIn_of _ (by decide +kernel)) ggX1_printRow_X1_isLeaf
set_option maxRecDepth 20000 in
theorem ggX1_printRow_J4_append_bf812 : GoodIn wsX1_printRow wsJ4_append_bf812 := goodIn_r _ [9, 10, 11, 12, 13, 14, 15, 16, 17, 18, 19, 20, 21, 22, 23, 24, 25, 26, 27, 28, 29, 30, 31, 32, 33, 34, 35, 36, 37, 38, 39, 40, 41, 42, 43, 44, 45, 46, 47, 48, 49, 50, 51, 52, 53, 54, 55, 56, 57, 58, 59, 60, 61, 62, 63, 64, 65, 66, 67, 68, 69, 70, 71, 72, 73, 74, 75, 76, 77, 78, 79, 80, 81, 82, 83, 84, 85, 86, 87, 88, 89, 90, 91, 92, 93, 94, 95, 96, 97, 98, 99, 100, 101, 102, 103, 104, 158, 159, 160, 161] (by decide +kernel) (by decide +kernel)
set_option maxRecDepth 20000 in
theorem gX1_printRow_J4_append_bf812 : GoodIn wsX1_printRow (wsV RX1 69 RJ4 yJ4_append_bf812 wsJ4_append_bf812) := goodIn_app (goodIn_of _ (by decide +kernel)) ggX1_printRow_J4_append_bf812
set_option maxRecDepth 20000 in
theorem ggX1_printRow_J4_append_cf468 : GoodIn wsX1_printRow wsJ4_append_cf468 := goodIn_r _ [108, 109, 110, 12, 111, 14, 112, 16, 17, 22, 23, 24, 25, 26, 27, 28, 29, 30, 31, 32, 33, 34, 35, 36, 37, 38, 39, 40, 41, 42, 43, 44, 45, 46, 47, 48, 49, 50, 51, 52, 53, 54, 55, 56, 57, 58, 59, 60, 61, 62, 63, 64, 65, 66, 67, 68, 69, 113, 114, 115, 116, 117, 118, 119, 120, 121, 122, 123, 77, 124, 125, 126, 127, 128, 129, 130, 131, 132, 133, 134, 135, 136, 137, 83, 84, 85, 138, 139, 88, 140, 90, 141, 142, 93, 143, 100, 101, 102, 79, 103, 104, 144, 145, 146, 147, 148, 149, 150, 151, 152, 153, 154, 155, 158, 159, 160, 161] (by decide +kernel) (by decide +kernel)
set_option maxRecDepth 20000 in
theorem gX1_printRow_J4_append_cf468 : GoodIn wsX1_printRow (wsV RX1 75 RJ4 yJ4_append_cf468 wsJ4_append_cf468) := goodIn_app (goodIn_of _ (by decide +kernel)) ggX1_printRow_J4_append_cf468
set_option maxRecDepth 20000 in
theorem ggX1_printRow_X1_printRow : GoodIn wsX1_printRow wsX1_printRow := goodIn_r _ [0, 1, 2, 3, 4, 5, 6, 7, 8, 9, 10, 11, 12, 13, 14, 15, 16, 17, 18, 19, 20, 21, 22, 23, 24, 25, 26, 27, 28, 29, 30, 31, 32, 33, 34, 35, 36, 37, 38, 39, 40, 41, 42, 43, 44, 45, 46, 47, 48, 49, 50, 51, 52, 53, 54, 55, 56, 57, 58, 59, 60, 61, 62, 63, 64, 65, 66, 67, 68, 69, 70, 71, 72, 73, 74, 75, 76, 77, 78, 79, 80, 81, 82, 83, 84, 85, 86, 87, 88, 89, 90, 91, 92, 93, 94, 95, 96, 97, 98, 99, 100, 101, 102, 103, 104, 105, 106, 107, 108, 109, 110, 111, 112, 113, 114, 115, 116, 117, 118, 119, 120, 121, 122, 123, 124, 125, 126, 127, 128, 129, 130, 131, 132, 133, 134, 135, 136, 137, 138, 139, 140, 141, 142, 143, 144, 145, 146, 147, 148, 149, 150, 151, 152, 153, 154, 155, 156, 157, 158, 159, 160, 161] (by decide +kernel) (by decide +kernel)
set_option maxRecDepth 20000 in
theorem gX1_printRow_X1_printRow : GoodIn wsX1_printRow (va_wsS RX1 61 yX1_printRow wsX1_printRow) := goodIn_app (goodIn_of _ (by decide +kernel)) ggX1_printRow_X1_printRow
theorem dX1_printRow_0 : decode cX1_printRow 0 = .ok (.iload_n 2, 1) := by decide +kernel
theorem dX1_printRow_1 : decode cX1_printRow 1 = .ok (.iconst 1, 1) := by decide +kernel
theorem dX1_printRow_2 : decode cX1_printRow 2 = .ok (.if_icmp .le 12, 3) := by decide +kernel
theorem dX1_printRow_5 : decode cX1_printRow 5 = .ok (.aload_n 0, 1) := by decide +kernel
theorem dX1_printRow_6 : decode cX1_printRow 6 = .ok (.iload_n 1, 1) := by decide +kernel
theorem dX1_printRow_7 : decode cX1_printRow 7 = .ok (.iload_n 2, 1) := by decide +kernel
theorem dX1_printRow_8 : decode cX1_printRow 8 = .ok (.invokestatic 65, 3) := by decide +kernel
theorem dX1_printRow_11 : decode cX1_printRow 11 = .ok (.ifCond .eq 12, 3) := by decide +kernel
theorem dX1_printRow_14 : decode cX1_printRow 14 = .ok (.aload_n 3, 1) := by decide +kernel
theorem dX1_printRow_15 : decode cX1_printRow 15 = .ok (.aload_n 0, 1) := by decide +kernel
theorem dX1_printRow_16 : decode cX1_printRow 16 = .ok (.iload_n 1, 1) := by decide +kernel
theorem dX1_printRow_17 : decode cX1_printRow 17 = .ok (.iaload, 1) := by decide +kernel
theorem dX1_printRow_18 : decode cX1_printRow 18 = .ok (.invokevirtual 69, 3) := by decide +kernel
theorem dX1_printRow_21 : decode cX1_printRow 21 = .ok (.pop, 1) := by decide +kernel
theorem dX1_printRow_22 : decode cX1_printRow 22 = .ok (.return_, 1) := by decide +kernel
theorem dX1_printRow_23 : decode cX1_printRow 23 = .ok (.iload_n 2, 1) := by decide +kernel
theorem dX1_printRow_24 : decode cX1_printRow 24 = .ok (.iconst 2, 1) := by decide +kernel
theorem dX1_printRow_25 : decode cX1_printRow 25 = .ok (.idiv, 1) := by decide +kernel
theorem dX1_printRow_26 : decode cX1_printRow 26 = .ok (.istore 4, 2) := by decide +kernel
theorem dX1_printRow_28 : decode cX1_printRow 28 = .ok (.aload_n 3, 1) := by decide +kernel
theorem dX1_printRow_29 : decode cX1_printRow 29 = .ok (.bipush 40, 2) := by decide +kernel
theorem dX1_printRow_31 : decode cX1_printRow 31 = .ok (.invokevirtual 75, 3) := by decide +kernel
theorem dX1_printRow_34 : decode cX1_printRow 34 = .ok (.pop, 1) := by decide +kernel
theorem dX1_printRow_35 : decode cX1_printRow 35 = .ok (.aload_n 0, 1) := by decide +kernel
theorem dX1_printRow_36 : decode cX1_printRow 36 = .ok (.iload_n 1, 1) := by decide +kernel
theorem dX1_printRow_37 : decode cX1_printRow 37 = .ok (.iload 4, 2) := by decide +kernel
theorem dX1_printRow_39 : decode cX1_printRow 39 = .ok (.aload_n 3, 1) := by decide +kernel
theorem dX1_printRow_40 : decode cX1_printRow 40 = .ok (.invokestatic 61, 3) := by decide +kernel
theorem dX1_printRow_43 : decode cX1_printRow 43 = .ok (.aload_n 3, 1) := by decide +kernel
theorem dX1_printRow_44 : decode cX1_printRow 44 = .ok (.bipush 44, 2) := by decide +kernel
theorem dX1_printRow_46 : decode cX1_printRow 46 = .ok (.invokevirtual 75, 3) := by decide +kernel
theorem dX1_printRow_49 : decode cX1_printRow 49 = .ok (.pop, 1) := by decide +kernel
theorem dX1_printRow_50 : decode cX1_printRow 50 = .ok (.aload_n 0, 1) := by decide +kernel
theorem dX1_printRow_51 : decode cX1_printRow 51 = .ok (.iload_n 1, 1) := by decide +kernel
theorem dX1_printRow_52 : decode cX1_printRow 52 = .ok (.iload 4, 2) := by decide +kernel
theorem dX1_printRow_54 : decode cX1_printRow 54 = .ok (.iadd, 1) := by decide +kernel
theorem dX1_printRow_55 : decode cX1_printRow 55 = .ok (.iload 4, 2) := by decide +kernel
theorem dX1_printRow_57 : decode cX1_printRow 57 = .ok (.aload_n 3, 1) := by decide +kernel
theorem dX1_printRow_58 : decode cX1_printRow 58 = .ok (.invokestatic 61, 3) := by decide +kernel
theorem dX1_printRow_61 : decode cX1_printRow 61 = .ok (.aload_n 3, 1) := by decide +kernel
theorem dX1_printRow_62 : decode cX1_printRow 62 = .ok (.bipush 41, 2) := by decide +kernel
theorem dX1_printRow_64 : decode cX1_printRow 64 = .ok (.invokevirtual 75, 3) := by decide +kernel
theorem dX1_printRow_67 : decode cX1_printRow 67 = .ok (.pop, 1) := by decide +kernel
theorem dX1_printRow_68 : decode cX1_printRow 68 = .ok (.return_, 1) := by decide +kernel
theorem dX1_isLeaf_0 : decode cX1_isLeaf 0 = .ok (.iload_n 1, 1) := by decide +kernel
theorem dX1_isLeaf_1 : decode cX1_isLeaf 1 = .ok (.iconst 1, 1) := by decide +kernel
theorem dX1_isLeaf_2 : decode cX1_isLeaf 2 = .ok (.iadd, 1) := by decide +kernel
theorem dX1_isLeaf_3 : decode cX1_isLeaf 3 = .ok (.istore_n 3, 1) := by decide +kernel
theorem dX1_isLeaf_4 : decode cX1_isLeaf 4 = .ok (.iload_n 3, 1) := by decide +kernel
theorem dX1_isLeaf_5 : decode cX1_isLeaf 5 = .ok (.iload_n 1, 1) := by decide +kernel
theorem dX1_isLeaf_6 : decode cX1_isLeaf 6 = .ok (.iload_n 2, 1) := by decide +kernel
theorem dX1_isLeaf_7 : decode cX1_isLeaf 7 = .ok (.iadd, 1) := by decide +kernel
theorem dX1_isLeaf_8 : decode cX1_isLeaf 8 = .ok (.if_icmp .ge 20, 3) := by decide +kernel
theorem dX1_isLeaf_11 : decode cX1_isLeaf 11 = .ok (.aload_n 0, 1) := by decide +kernel
theorem dX1_isLeaf_12 : decode cX1_isLeaf 12 = .ok (.iload_n 3, 1) := by decide +kernel
theorem dX1_isLeaf_13 : decode cX1_isLeaf 13 = .ok (.iaload, 1) := by decide +kernel
theorem dX1_isLeaf_14 : decode cX1_isLeaf 14 = .ok (.aload_n 0, 1) := by decide +kernel
theorem dX1_isLeaf_15 : decode cX1_isLeaf 15 = .ok (.iload_n 1, 1) := by decide +kernel
theorem dX1_isLeaf_16 : decode cX1_isLeaf 16 = .ok (.iaload, 1) := by decide +kernel
theorem dX1_isLeaf_17 : decode cX1_isLeaf 17 = .ok (.if_icmp .eq 5, 3) := by decide +kernel
theorem dX1_isLeaf_20 : decode cX1_isLeaf 20 = .ok (.iconst 0, 1) := by decide +kernel
theorem dX1_isLeaf_21 : decode cX1_isLeaf 21 = .ok (.ireturn, 1) := by decide +kernel
theorem dX1_isLeaf_22 : decode cX1_isLeaf 22 = .ok (.iinc 3 1, 3) := by decide +kernel
theorem dX1_isLeaf_25 : decode cX1_isLeaf 25 = .ok (.goto (-21), 3) := by decide +kernel
theorem dX1_isLeaf_28 : decode cX1_isLeaf 28 = .ok (.iconst 1, 1) := by decide +kernel
theorem dX1_isLeaf_29 : decode cX1_isLeaf 29 = .ok (.ireturn, 1) := by decide +kernel
set_option maxRecDepth 20000 in
theorem ggX2_init_X1_init : GoodIn wsX2_init wsX1_init := goodIn_r _ [14, 15, 2, 3, 4, 16, 24, 25, 26] (by decide +kernel) (by decide +kernel)
set_option maxRecDepth 20000 in
theorem gX2_init_X1_init_n30 : GoodIn wsX2_init (wsX1_init) := ggX2_init_X1_init
theorem dX2_init_0 : decode cX2_init 0 = .ok (.aload_n 0, 1) := by decide +kernel
theorem dX2_init_1 : decode cX2_init 1 = .ok (.invokespecial 3, 3) := by decide +kernel
theorem dX2_init_4 : decode cX2_init 4 = .ok (.aload_n 0, 1) := by decide +kernel
theorem dX2_init_5 : decode cX2_init 5 = .ok (.bipush 8, 2) := by decide +kernel
theorem dX2_init_7 : decode cX2_init 7 = .ok (.newarray .int, 2) := by decide +kernel
theorem dX2_init_9 : decode cX2_init 9 = .ok (.putfield 9, 3) := by decide +kernel
theorem dX2_init_12 : decode cX2_init 12 = .ok (.aload_n 0, 1) := by decide +kernel
theorem dX2_init_13 : decode cX2_init 13 = .ok (.bipush 8, 2) := by decide +kernel
theorem dX2_init_15 : decode cX2_init 15 = .ok (.anewarray 15, 3) := by decide +kernel
theorem dX2_init_18 : decode cX2_init 18 = .ok (.putfield 17, 3) := by decide +kernel
theorem dX2_init_21 : decode cX2_init 21 = .ok (.aload_n 0, 1) := by decide +kernel
theorem dX2_init_22 : decode cX2_init 22 = .ok (.bipush 8, 2) := by decide +kernel
theorem dX2_init_24 : decode cX2_init 24 = .ok (.anewarray 15, 3) := by decide +kernel
theorem dX2_init_27 : decode cX2_init 27 = .ok (.putfield 21, 3) := by decide +kernel
theorem dX2_init_30 : decode cX2_init 30 = .ok (.aload_n 0, 1) := by decide +kernel
theorem dX2_init_31 : decode cX2_init 31 = .ok (.bipush 8, 2) := by decide +kernel
theorem dX2_init_33 : decode cX2_init 33 = .ok (.newarray .int, 2) := by decide +kernel
theorem dX2_init_35 : decode cX2_init 35 = .ok (.putfield 24, 3) := by decide +kernel
theorem dX2_init_38 : decode cX2_init 38 = .ok (.aload_n 0, 1) := by decide +kernel
theorem dX2_init_39 : decode cX2_init 39 = .ok (.bipush 120, 2) := by decide +kernel
theorem dX2_init_41 : decode cX2_init 41 = .ok (.newarray .int, 2) := by decide +kernel
theorem dX2_init_43 : decode cX2_init 43 = .ok (.putfield 27, 3) := by decide +kernel
theorem dX2_init_46 : decode cX2_init 46 = .ok (.iconst 0, 1) := by decide +kernel
theorem dX2_init_47 : decode cX2_init 47 = .ok (.istore_n 1, 1) := by decide +kernel
theorem dX2_init_48 : decode cX2_init 48 = .ok (.iload_n 1, 1) := by decide +kernel
theorem dX2_init_49 : decode cX2_init 49 = .ok (.bipush 8, 2) := by decide +kernel
theorem dX2_init_51 : decode cX2_init 51 = .ok (.if_icmp .ge 22, 3) := by decide +kernel
theorem dX2_init_54 : decode cX2_init 54 = .ok (.aload_n 0, 1) := by decide +kernel
theorem dX2_init_55 : decode cX2_init 55 = .ok (.getfield 17, 3) := by decide +kernel
theorem dX2_init_58 : decode cX2_init 58 = .ok (.iload_n 1, 1) := by decide +kernel
theorem dX2_init_59 : decode cX2_init 59 = .ok (.new 15, 3) := by decide +kernel
theorem dX2_init_62 : decode cX2_init 62 = .ok (.dup, 1) := by decide +kernel
theorem dX2_init_63 : decode cX2_init 63 = .ok (.invokespecial 30, 3) := by decide +kernel
theorem dX2_init_66 : decode cX2_init 66 = .ok (.aastore, 1) := by decide +kernel
theorem dX2_init_67 : decode cX2_init 67 = .ok (.iinc 1 1, 3) := by decide +kernel
theorem dX2_init_70 : decode cX2_init 70 = .ok (.goto (-22), 3) := by decide +kernel
theorem dX2_init_73 : decode cX2_init 73 = .ok (.iconst 0, 1) := by decide +kernel
theorem dX2_init_74 : decode cX2_init 74 = .ok (.istore_n 1, 1) := by decide +kernel
theorem dX2_init_75 : decode cX2_init 75 = .ok (.iload_n 1, 1) := by decide +kernel
theorem dX2_init_76 : decode cX2_init 76 = .ok (.bipush 8, 2) := by decide +kernel
theorem dX2_init_78 : decode cX2_init 78 = .ok (.if_icmp .ge 22, 3) := by decide +kernel
theorem dX2_init_81 : decode cX2_init 81 = .ok (.aload_n 0, 1) := by decide +kernel
theorem dX2_init_82 : decode cX2_init 82 = .ok (.getfield 21, 3) := by decide +kernel
theorem dX2_init_85 : decode cX2_init 85 = .ok (.iload_n 1, 1) := by decide +kernel
theorem dX2_init_86 : decode cX2_init 86 = .ok (.new 15, 3) := by decide +kernel
theorem dX2_init_89 : decode cX2_init 89 = .ok (.dup, 1) := by decide +kernel
theorem dX2_init_90 : decode cX2_init 90 = .ok (.invokespecial 30, 3) := by decide +kernel
theorem dX2_init_93 : decode cX2_init 93 = .ok (.aastore, 1) := by decide +kernel
theorem dX2_init_94 : decode cX2_init 94 = .ok (.iinc 1 1, 3) := by decide +kernel
theorem dX2_init_97 : decode cX2_init 97 = .ok (.goto (-22), 3) := by decide +kernel
theorem dX2_init_100 : decode cX2_init 100 = .ok (.return_, 1) := by decide +kernel
set_option maxRecDepth 20000 in
theorem ggX2_become_X1_become : GoodIn wsX2_become wsX1_become := goodIn_r _ [16, 17, 18, 3, 4, 5, 19, 20, 28, 29, 30] (by decide +kernel) (by decide +kernel)
set_option maxRecDepth 20000 in
theorem gX2_become_X1_become : GoodIn wsX2_become (wsV RX2 37 RX1 yX1_become wsX1_become) := goodIn_app (goodIn_of _ (by decide +kernel)) ggX2_become_X1_become
theorem dX2_become_0 : decode cX2_become 0 = .ok (.aload_n 1, 1) := by decide +kernel
theorem dX2_become_1 : decode cX2_become 1 = .ok (.getfield 9, 3) := by decide +kernel
theorem dX2_become_4 : decode cX2_become 4 = .ok (.iconst 0, 1) := by decide +kernel
theorem dX2_become_5 : decode cX2_become 5 = .ok (.aload_n 0, 1) := by decide +kernel
theorem dX2_become_6 : decode cX2_become 6 = .ok (.getfield 9, 3) := by decide +kernel
theorem dX2_become_9 : decode cX2_become 9 = .ok (.iconst 0, 1) := by decide +kernel
theorem dX2_become_10 : decode cX2_become 10 = .ok (.bipush 8, 2) := by decide +kernel
theorem dX2_become_12 : decode cX2_become 12 = .ok (.invokestatic 31, 3) := by decide +kernel
theorem dX2_become_15 : decode cX2_become 15 = .ok (.iconst 0, 1) := by decide +kernel
theorem dX2_become_16 : decode cX2_become 16 = .ok (.istore_n 2, 1) := by decide +kernel
theorem dX2_become_17 : decode cX2_become 17 = .ok (.iload_n 2, 1) := by decide +kernel
theorem dX2_become_18 : decode cX2_become 18 = .ok (.bipush 8, 2) := by decide +kernel
theorem dX2_become_20 : decode cX2_become 20 = .ok (.if_icmp .ge 24, 3) := by decide +kernel
theorem dX2_become_23 : decode cX2_become 23 = .ok (.aload_n 0, 1) := by decide +kernel
theorem dX2_become_24 : decode cX2_become 24 = .ok (.getfield 17, 3) := by decide +kernel
theorem dX2_become_27 : decode cX2_become 27 = .ok (.iload_n 2, 1) := by decide +kernel
theorem dX2_become_28 : decode cX2_become 28 = .ok (.aaload, 1) := by decide +kernel
theorem dX2_become_29 : decode cX2_become 29 = .ok (.aload_n 1, 1) := by decide +kernel
theorem dX2_become_30 : decode cX2_become 30 = .ok (.getfield 17, 3) := by decide +kernel
theorem dX2_become_33 : decode cX2_become 33 = .ok (.iload_n 2, 1) := by decide +kernel
theorem dX2_become_34 : decode cX2_become 34 = .ok (.aaload, 1) := by decide +kernel
theorem dX2_become_35 : decode cX2_become 35 = .ok (.invokevirtual 37, 3) := by decide +kernel
theorem dX2_become_38 : decode cX2_become 38 = .ok (.iinc 2 1, 3) := by decide +kernel
theorem dX2_become_41 : decode cX2_become 41 = .ok (.goto (-24), 3) := by decide +kernel
theorem dX2_become_44 : decode cX2_become 44 = .ok (.aload_n 1, 1) := by decide +kernel
theorem dX2_become_45 : decode cX2_become 45 = .ok (.getfield 24, 3) := by decide +kernel
theorem dX2_become_48 : decode cX2_become 48 = .ok (.iconst 0, 1) := by decide +kernel
theorem dX2_become_49 : decode cX2_become 49 = .ok (.aload_n 0, 1) := by decide +kernel
theorem dX2_become_50 : decode cX2_become 50 = .ok (.getfield 24, 3) := by decide +kernel
theorem dX2_become_53 : decode cX2_become 53 = .ok (.iconst 0, 1) := by decide +kernel
theorem dX2_become_54 : decode cX2_become 54 = .ok (.bipush 8, 2) := by decide +kernel
theorem dX2_become_56 : decode cX2_become 56 = .ok (.invokestatic 31, 3) := by decide +kernel
theorem dX2_become_59 : decode cX2_become 59 = .ok (.iconst 0, 1) := by decide +kernel
theorem dX2_become_60 : decode cX2_become 60 = .ok (.istore_n 2, 1) := by decide +kernel
theorem dX2_become_61 : decode cX2_become 61 = .ok (.iload_n 2, 1) := by decide +kernel
theorem dX2_become_62 : decode cX2_become 62 = .ok (.bipush 8, 2) := by decide +kernel
theorem dX2_become_64 : decode cX2_become 64 = .ok (.if_icmp .ge 24, 3) := by decide +kernel
theorem dX2_become_67 : decode cX2_become 67 = .ok (.aload_n 0, 1) := by decide +kernel
theorem dX2_become_68 : decode cX2_become 68 = .ok (.getfield 21, 3) := by decide +kernel
theorem dX2_become_71 : decode cX2_become 71 = .ok (.iload_n 2, 1) := by decide +kernel
theorem dX2_become_72 : decode cX2_become 72 = .ok (.aaload, 1) := by decide +kernel
theorem dX2_become_73 : decode cX2_become 73 = .ok (.aload_n 1, 1) := by decide +kernel
theorem dX2_become_74 : decode cX2_become 74 = .ok (.getfield 21, 3) := by decide +kernel
theorem dX2_become_77 : decode cX2_become 77 = .ok (.iload_n 2, 1) := by decide +kernel
theorem dX2_become_78 : decode cX2_become 78 = .ok (.aaload, 1) := by decide +kernel
theorem dX2_become_79 : decode cX2_become 79 = .ok (.invokevirtual 37, 3) := by decide +kernel
theorem dX2_become_82 : decode cX2_become 82 = .ok (.iinc 2 1, 3) := by decide +kernel
theorem dX2_become_85 : decode cX2_become 85 = .ok (.goto (-24), 3) := by decide +kernel
theorem dX2_become_88 : decode cX2_become 88 = .ok (.aload_n 0, 1) := by decide +kernel
theorem dX2_become_89 : decode cX2_become 89 = .ok (.aload_n 1, 1) := by decide +kernel
theorem dX2_become_90 : decode cX2_become 90 = .ok (.getfield 41, 3) := by decide +kernel
theorem dX2_become_93 : decode cX2_become 93 = .ok (.putfield 41, 3) := by decide +kernel
theorem dX2_become_96 : decode cX2_become 96 = .ok (.aload_n 1, 1) := by decide +kernel
theorem dX2_become_97 : decode cX2_become 97 = .ok (.getfield 27, 3) := by decide +kernel
theorem dX2_become_100 : decode cX2_become 100 = .ok (.iconst 0, 1) := by decide +kernel
theorem dX2_become_101 : decode cX2_become 101 = .ok (.aload_n 0, 1) := by decide +kernel
theorem dX2_become_102 : decode cX2_become 102 = .ok (.getfield 27, 3) := by decide +kernel
theorem dX2_become_105 : decode cX2_become 105 = .ok (.iconst 0, 1) := by decide +kernel
theorem dX2_become_106 : decode cX2_become 106 = .ok (.bipush 120, 2) := by decide +kernel
theorem dX2_become_108 : decode cX2_become 108 = .ok (.invokestatic 31, 3) := by decide +kernel
theorem dX2_become_111 : decode cX2_become 111 = .ok (.aload_n 0, 1) := by decide +kernel
theorem dX2_become_112 : decode cX2_become 112 = .ok (.aload_n 1, 1) := by decide +kernel
theorem dX2_become_113 : decode cX2_become 113 = .ok (.getfield 45, 3) := by decide +kernel
theorem dX2_become_116 : decode cX2_become 116 = .ok (.putfield 45, 3) := by decide +kernel
theorem dX2_become_119 : decode cX2_become 119 = .ok (.return_, 1) := by decide +kernel
theorem dX2_isHelper_0 : decode cX2_isHelper 0 = .ok (.iload_n 1, 1) := by decide +kernel
theorem dX2_isHelper_1 : decode cX2_isHelper 1 = .ok (.ifCond .lt 22, 3) := by decide +kernel
theorem dX2_isHelper_4 : decode cX2_isHelper 4 = .ok (.iload_n 1, 1) := by decide +kernel
theorem dX2_isHelper_5 : decode cX2_isHelper 5 = .ok (.bipush 8, 2) := by decide +kernel
theorem dX2_isHelper_7 : decode cX2_isHelper 7 = .ok (.if_icmp .ge 16, 3) := by decide +kernel
theorem dX2_isHelper_10 : decode cX2_isHelper 10 = .ok (.aload_n 0, 1) := by decide +kernel
theorem dX2_isHelper_11 : decode cX2_isHelper 11 = .ok (.getfield 9, 3) := by decide +kernel
theorem dX2_isHelper_14 : decode cX2_isHelper 14 = .ok (.iload_n 1, 1) := by decide +kernel
theorem dX2_isHelper_15 : decode cX2_isHelper 15 = .ok (.iaload, 1) := by decide +kernel
theorem dX2_isHelper_16 : decode cX2_isHelper 16 = .ok (.ifCond .eq 7, 3) := by decide +kernel
theorem dX2_isHelper_19 : decode cX2_isHelper 19 = .ok (.iconst 1, 1) := by decide +kernel
theorem dX2_isHelper_20 : decode cX2_isHelper 20 = .ok (.goto 4, 3) := by decide +kernel
theorem dX2_isHelper_23 : decode cX2_isHelper 23 = .ok (.iconst 0, 1) := by decide +kernel
theorem dX2_isHelper_24 : decode cX2_isHelper 24 = .ok (.ireturn, 1) := by decide +kernel
theorem dX2_isMessage_0 : decode cX2_isMessage 0 = .ok (.iload_n 1, 1) := by decide +kernel
theorem dX2_isMessage_1 : decode cX2_isMessage 1 = .ok (.ifCond .lt 15, 3) := by decide +kernel
theorem dX2_isMessage_4 : decode cX2_isMessage 4 = .ok (.iload_n 1, 1) := by decide +kernel
theorem dX2_isMessage_5 : decode cX2_isMessage 5 = .ok (.aload_n 0, 1) := by decide +kernel
theorem dX2_isMessage_6 : decode cX2_isMessage 6 = .ok (.getfield 41, 3) := by decide +kernel
theorem dX2_isMessage_9 : decode cX2_isMessage 9 = .ok (.if_icmp .ge 7, 3) := by decide +kernel
theorem dX2_isMessage_12 : decode cX2_isMessage 12 = .ok (.iconst 1, 1) := by decide +kernel
theorem dX2_isMessage_13 : decode cX2_isMessage 13 = .ok (.goto 4, 3) := by decide +kernel
theorem dX2_isMessage_16 : decode cX2_isMessage 16 = .ok (.iconst 0, 1) := by decide +kernel
theorem dX2_isMessage_17 : decode cX2_isMessage 17 = .ok (.ireturn, 1) := by decide +kernel
theorem dX2_isEvent_0 : decode cX2_isEvent 0 = .ok (.iload_n 1, 1) := by decide +kernel
theorem dX2_isEvent_1 : decode cX2_isEvent 1 = .ok (.ifCond .lt 15, 3) := by decide +kernel
theorem dX2_isEvent_4 : decode cX2_isEvent 4 = .ok (.iload_n 1, 1) := by decide +kernel
theorem dX2_isEvent_5 : decode cX2_isEvent 5 = .ok (.aload_n 0, 1) := by decide +kernel
theorem dX2_isEvent_6 : decode cX2_isEvent 6 = .ok (.getfield 45, 3) := by decide +kernel
theorem dX2_isEvent_9 : decode cX2_isEvent 9 = .ok (.if_icmp .ge 7, 3) := by decide +kernel
theorem dX2_isEvent_12 : decode cX2_isEvent 12 = .ok (.iconst 1, 1) := by decide +kernel
theorem dX2_isEvent_13 : decode cX2_isEvent 13 = .ok (.goto 4, 3) := by decide +kernel
theorem dX2_isEvent_16 : decode cX2_isEvent 16 = .ok (.iconst 0, 1) := by decide +kernel
theorem dX2_isEvent_17 : decode cX2_isEvent 17 = .ok (.ireturn, 1) := by decide +kernel
set_option maxRecDepth 20000 in
theorem ggX2_stampOf_X2_isHelper : GoodIn wsX2_stampOf wsX2_isHelper := goodIn_r _ [7, 8, 14, 15, 16, 17, 18, 19, 20] (by decide +kernel) (by decide +kernel)
set_option maxRecDepth 20000 in
theorem gX2_stampOf_X2_isHelper : GoodIn wsX2_stampOf (wsV RX2 48 RX2 yX2_isHelper wsX2_isHelper) := goodIn_app (goodIn_of _ (by decide +kernel)) ggX2_stampOf_X2_isHelper
set_option maxRecDepth 20000 in
theorem ggX2_stampOf_X2_isMessage : GoodIn wsX2_stampOf wsX2_isMessage := goodIn_r _ [12, 13, 14, 15, 16, 17, 18, 19, 20] (by decide +kernel) (by decide +kernel)
set_option maxRecDepth 20000 in
theorem gX2_stampOf_X2_isMessage : GoodIn wsX2_stampOf (wsV RX2 52 RX2 yX2_isMessage wsX2_isMessage) := goodIn_app (goodIn_of _ (by decide +kernel)) ggX2_stampOf_X2_isMessage
theorem dX2_stampOf_0 : decode cX2_stampOf 0 = .ok (.iload_n 1, 1) := by decide +kernel
theorem dX2_stampOf_1 : decode cX2_stampOf 1 = .ok (.ifCond .ne 22, 3) := by decide +kernel
theorem dX2_stampOf_4 : decode cX2_stampOf 4 = .ok (.aload_n 0, 1) := by decide +kernel
theorem dX2_stampOf_5 : decode cX2_stampOf 5 = .ok (.iload_n 2, 1) := by decide +kernel
theorem dX2_stampOf_6 : decode cX2_stampOf 6 = .ok (.invokevirtual 48, 3) := by decide +kernel
theorem dX2_stampOf_9 : decode cX2_stampOf 9 = .ok (.ifCond .eq 12, 3) := by decide +kernel
theorem dX2_stampOf_12 : decode cX2_stampOf 12 = .ok (.aload_n 0, 1) := by decide +kernel
theorem dX2_stampOf_13 : decode cX2_stampOf 13 = .ok (.getfield 17, 3) := by decide +kernel
theorem dX2_stampOf_16 : decode cX2_stampOf 16 = .ok (.iload_n 2, 1) := by decide +kernel
theorem dX2_stampOf_17 : decode cX2_stampOf 17 = .ok (.aaload, 1) := by decide +kernel
theorem dX2_stampOf_18 : decode cX2_stampOf 18 = .ok (.goto 4, 3) := by decide +kernel
theorem dX2_stampOf_21 : decode cX2_stampOf 21 = .ok (.aconst_null, 1) := by decide +kernel
theorem dX2_stampOf_22 : decode cX2_stampOf 22 = .ok (.areturn, 1) := by decide +kernel
theorem dX2_stampOf_23 : decode cX2_stampOf 23 = .ok (.aload_n 0, 1) := by decide +kernel
theorem dX2_stampOf_24 : decode cX2_stampOf 24 = .ok (.iload_n 2, 1) := by decide +kernel
theorem dX2_stampOf_25 : decode cX2_stampOf 25 = .ok (.invokevirtual 52, 3) := by decide +kernel
theorem dX2_stampOf_28 : decode cX2_stampOf 28 = .ok (.ifCond .eq 12, 3) := by decide +kernel
theorem dX2_stampOf_31 : decode cX2_stampOf 31 = .ok (.aload_n 0, 1) := by decide +kernel
theorem dX2_stampOf_32 : decode cX2_stampOf 32 = .ok (.getfield 21, 3) := by decide +kernel
theorem dX2_stampOf_35 : decode cX2_stampOf 35 = .ok (.iload_n 2, 1) := by decide +kernel
theorem dX2_stampOf_36 : decode cX2_stampOf 36 = .ok (.aaload, 1) := by decide +kernel
theorem dX2_stampOf_37 : decode cX2_stampOf 37 = .ok (.goto 4, 3) := by decide +kernel
theorem dX2_stampOf_40 : decode cX2_stampOf 40 = .ok (.aconst_null, 1) := by decide +kernel
theorem dX2_stampOf_41 : decode cX2_stampOf 41 = .ok (.areturn, 1) := by decide +kernel
set_option maxRecDepth 20000 in
theorem ggX2_lowestFreeHelper_X2_isHelper : GoodIn wsX2_lowestFreeHelper wsX2_isHelper := goodIn_r _ [5, 6, 7, 8, 9, 10, 11, 12, 13] (by decide +kernel) (by decide +kernel)
set_option maxRecDepth 20000 in
theorem gX2_lowestFreeHelper_X2_isHelper : GoodIn wsX2_lowestFreeHelper (wsV RX2 48 RX2 yX2_isHelper wsX2_isHelper) := goodIn_app (goodIn_of _ (by decide +kernel)) ggX2_lowestFreeHelper_X2_isHelper
theorem dX2_lowestFreeHelper_0 : decode cX2_lowestFreeHelper 0 = .ok (.iconst 0, 1) := by decide +kernel
theorem dX2_lowestFreeHelper_1 : decode cX2_lowestFreeHelper 1 = .ok (.istore_n 1, 1) := by decide +kernel
theorem dX2_lowestFreeHelper_2 : decode cX2_lowestFreeHelper 2 = .ok (.iload_n 1, 1) := by decide +kernel
theorem dX2_lowestFreeHelper_3 : decode cX2_lowestFreeHelper 3 = .ok (.bipush 8, 2) := by decide +kernel
theorem dX2_lowestFreeHelper_5 : decode cX2_lowestFreeHelper 5 = .ok (.if_icmp .ge 19, 3) := by decide +kernel
theorem dX2_lowestFreeHelper_8 : decode cX2_lowestFreeHelper 8 = .ok (.aload_n 0, 1) := by decide +kernel
theorem dX2_lowestFreeHelper_9 : decode cX2_lowestFreeHelper 9 = .ok (.iload_n 1, 1) := by decide +kernel
theorem dX2_lowestFreeHelper_10 : decode cX2_lowestFreeHelper 10 = .ok (.invokevirtual 48, 3) := by decide +kernel
theorem dX2_lowestFreeHelper_13 : decode cX2_lowestFreeHelper 13 = .ok (.ifCond .ne 5, 3) := by decide +kernel
theorem dX2_lowestFreeHelper_16 : decode cX2_lowestFreeHelper 16 = .ok (.iload_n 1, 1) := by decide +kernel
theorem dX2_lowestFreeHelper_17 : decode cX2_lowestFreeHelper 17 = .ok (.ireturn, 1) := by decide +kernel
theorem dX2_lowestFreeHelper_18 : decode cX2_lowestFreeHelper 18 = .ok (.iinc 1 1, 3) := by decide +kernel
theorem dX2_lowestFreeHelper_21 : decode cX2_lowestFreeHelper 21 = .ok (.goto (-19), 3) := by decide +kernel
theorem dX2_lowestFreeHelper_24 : decode cX2_lowestFreeHelper 24 = .ok (.bipush (-6), 2) := by decide +kernel
theorem dX2_lowestFreeHelper_26 : decode cX2_lowestFreeHelper 26 = .ok (.ireturn, 1) := by decide +kernel
set_option maxRecDepth 20000 in
theorem ggX2_split_J6_bitCount_0f7a4 : GoodIn wsX2_split wsJ6_bitCount_0f7a4 := goodIn_r _ [6, 7, 8, 9] (by decide +kernel) (by decide +kernel)
set_option maxRecDepth 20000 in
theorem gX2_split_J6_bitCount_0f7a4 : GoodIn wsX2_split (va_wsS RX2 55 yJ6_bitCount_0f7a4 wsJ6_bitCount_0f7a4) := goodIn_app (goodIn_of _ (by decide +kernel)) ggX2_split_J6_bitCount_0f7a4
set_option maxRecDepth 20000 in
theorem ggX2_split_X2_lowestCells : GoodIn wsX2_split wsX2_lowestCells := goodIn_r _ [13, 3, 4, 5, 6, 7, 8, 9] (by decide +kernel) (by decide +kernel)
set_option maxRecDepth 20000 in
theorem gX2_split_X2_lowestCells : GoodIn wsX2_split (va_wsS RX2 61 yX2_lowestCells wsX2_lowestCells) := goodIn_app (goodIn_of _ (by decide +kernel)) ggX2_split_X2_lowestCells
set_option maxRecDepth 20000 in
theorem ggX2_split_X1_become : GoodIn wsX2_split wsX1_become := goodIn_r _ [18, 19, 20, 21, 22, 23, 24, 25, 33, 34, 35] (by decide +kernel) (by decide +kernel)
set_option maxRecDepth 20000 in
theorem gX2_split_X1_become : GoodIn wsX2_split (wsV RX2 37 RX1 yX1_become wsX1_become) := goodIn_app (goodIn_of _ (by decide +kernel)) ggX2_split_X1_become
theorem dX2_split_0 : decode cX2_split 0 = .ok (.aload_n 0, 1) := by decide +kernel
theorem dX2_split_1 : decode cX2_split 1 = .ok (.getfield 9, 3) := by decide +kernel
theorem dX2_split_4 : decode cX2_split 4 = .ok (.iload_n 1, 1) := by decide +kernel
theorem dX2_split_5 : decode cX2_split 5 = .ok (.iaload, 1) := by decide +kernel
theorem dX2_split_6 : decode cX2_split 6 = .ok (.istore_n 3, 1) := by decide +kernel
theorem dX2_split_7 : decode cX2_split 7 = .ok (.iload_n 3, 1) := by decide +kernel
theorem dX2_split_8 : decode cX2_split 8 = .ok (.invokestatic 55, 3) := by decide +kernel
theorem dX2_split_11 : decode cX2_split 11 = .ok (.iconst 1, 1) := by decide +kernel
theorem dX2_split_12 : decode cX2_split 12 = .ok (.iadd, 1) := by decide +kernel
theorem dX2_split_13 : decode cX2_split 13 = .ok (.iconst 2, 1) := by decide +kernel
theorem dX2_split_14 : decode cX2_split 14 = .ok (.idiv, 1) := by decide +kernel
theorem dX2_split_15 : decode cX2_split 15 = .ok (.istore 4, 2) := by decide +kernel
theorem dX2_split_17 : decode cX2_split 17 = .ok (.iload_n 3, 1) := by decide +kernel
theorem dX2_split_18 : decode cX2_split 18 = .ok (.iload 4, 2) := by decide +kernel
theorem dX2_split_20 : decode cX2_split 20 = .ok (.invokestatic 61, 3) := by decide +kernel
theorem dX2_split_23 : decode cX2_split 23 = .ok (.istore 5, 2) := by decide +kernel
theorem dX2_split_25 : decode cX2_split 25 = .ok (.aload_n 0, 1) := by decide +kernel
