/-! ===== BEGIN words of one list among another's, by their places ===== -/
theorem goodIn_r {big : List Cond} (ws : List Cond) (ps : List Nat) (hp : ws = ps.filterMap (fun i => big[i]?)) (h : ws.all goodWord = true) : GoodIn big ws := by
  intro w hw
  have h1 := List.all_eq_true.mp h w hw
  rw [hp] at hw
  obtain ⟨i, -, hi⟩ := List.mem_filterMap.mp hw
  have hm : w ∈ big := by first | exact List.mem_of_getElem? hi | exact List.getElem?_mem hi
  exact ⟨hm, good_of_word h1⟩
theorem goodIn_app {big a b : List Cond} (ha : GoodIn big a) (hb : GoodIn big b) : GoodIn big (a ++ b) := fun w h => (List.mem_append.mp h).elim (ha w) (hb w)
theorem goodIn_ca {big a b : List Cond} {c : Cond} (ha : GoodIn big (c :: a)) (hb : GoodIn big b) : GoodIn big (c :: (a ++ b)) := fun w h => (List.mem_cons.mp h).elim (fun e => ha w (List.mem_cons.mpr (Or.inl e))) (fun h => (List.mem_append.mp h).elim (fun h => ha w (List.mem_cons.mpr (Or.inr h))) (hb w))
theorem goodIn_sub {big ws : List Cond} (hm : ∀ w ∈ ws, w ∈ big) (h : ws.all goodWord = true) : GoodIn big ws := fun w hw => ⟨hm w hw, good_of_word (List.all_eq_true.mp h w hw)⟩
/-! ===== END ===== -/

/-! ===== BEGIN printed: names, fields, word lists, decode rows ===== -/
def RX0 : String := "TankChain$Custom"
def TX0 : u_T := fun k => match k with
  | 0 => ("TankChain$Custom", "firsts", "[I", true)
  | 1 => ("TankChain$Custom", "firstsThere", "I", false)
  | 2 => ("TankChain$Custom", "near", "I", false)
  | 3 => ("TankChain$Custom", "hold", "I", false)
  | 4 => ("TankChain$Custom", "fair", "Z", false)
  | _ => ("TankChain$Custom", "statements", "I", false)
def tyX0 : Nat → FieldType := fun k => match k with
  | 0 => .array .int
  | 1 => .int
  | 2 => .int
  | 3 => .int
  | 4 => .boolean
  | _ => .int
abbrev wsX00 : List Cond := u_ws RX0 TX0 6
theorem nmX0 : ∀ a, a < 6 → ∀ b, b < 6 → a ≠ b → (TX0 a).2.1 ≠ (TX0 b).2.1 := by decide +kernel
theorem tyX0_ok : ∀ k, k < 6 → parseFieldDescriptor (TX0 k).2.2.1 = some (tyX0 k) := by decide +kernel
abbrev cX0_init : ByteArray := prog_2_method_1_code
def yX0_init : MethodName := ⟨RX0, "<init>", "()V"⟩
abbrev cX0_clear : ByteArray := prog_2_method_2_code
def yX0_clear : MethodName := ⟨RX0, "clear", "()V"⟩
abbrev cX0_becomeAs : ByteArray := prog_2_method_3_code
def yX0_becomeAs : MethodName := ⟨RX0, "becomeAs", "(LTankChain$Custom;)V"⟩
abbrev cX0_addFirst : ByteArray := prog_2_method_4_code
def yX0_addFirst : MethodName := ⟨RX0, "addFirst", "(I)V"⟩
abbrev cX0_isAhead : ByteArray := prog_2_method_5_code
def yX0_isAhead : MethodName := ⟨RX0, "isAhead", "(LTankChain$Field;LTankChain$Field;)Z"⟩
abbrev cX0_rank : ByteArray := prog_2_method_6_code
def yX0_rank : MethodName := ⟨RX0, "rank", "(LTankChain$Field;I)I"⟩
def RX1 : String := "TankChain$Field"
def TX1 : u_T := fun k => match k with
  | 0 => ("TankChain$Field", "number", "I", true)
  | 1 => ("TankChain$Field", "tank", "I", true)
  | 2 => ("TankChain$Field", "far", "I", true)
  | 3 => ("TankChain$Field", "area", "I", true)
  | 4 => ("TankChain$Field", "owner", "I", true)
  | 5 => ("TankChain$Field", "temple", "Z", true)
  | 6 => ("TankChain$Field", "next", "LTankChain$Field;", false)
  | 7 => ("TankChain$Field", "share", "I", false)
  | 8 => ("TankChain$Field", "remainder", "I", false)
  | 9 => ("TankChain$Field", "daysFed", "I", false)
  | 10 => ("TankChain$Field", "gotEver", "I", false)
  | _ => ("TankChain$Field", "gotLately", "I", false)
def tyX1 : Nat → FieldType := fun k => match k with
  | 0 => .int
  | 1 => .int
  | 2 => .int
  | 3 => .int
  | 4 => .int
  | 5 => .boolean
  | 6 => .object "TankChain$Field"
  | 7 => .int
  | 8 => .int
  | 9 => .int
  | 10 => .int
  | _ => .int
abbrev wsX10 : List Cond := u_ws RX1 TX1 12
theorem nmX1 : ∀ a, a < 12 → ∀ b, b < 12 → a ≠ b → (TX1 a).2.1 ≠ (TX1 b).2.1 := by decide +kernel
theorem tyX1_ok : ∀ k, k < 12 → parseFieldDescriptor (TX1 k).2.2.1 = some (tyX1 k) := by decide +kernel
abbrev cX1_init : ByteArray := prog_3_method_1_code
def yX1_init : MethodName := ⟨RX1, "<init>", "(IIIIIZ)V"⟩
abbrev cX1_isFed : ByteArray := prog_3_method_2_code
def yX1_isFed : MethodName := ⟨RX1, "isFed", "()Z"⟩
abbrev cX1_keepShare : ByteArray := prog_3_method_3_code
def yX1_keepShare : MethodName := ⟨RX1, "keepShare", "()V"⟩
def RX2 : String := "TankChain$Flow"
def TX2 : u_T := fun k => match k with
  | 0 => ("TankChain$Flow", "head", "LTankChain$Tank;", true)
  | 1 => ("TankChain$Flow", "custom", "LTankChain$Custom;", true)
  | 2 => ("TankChain$Flow", "sums", "LTankChain$Sums;", true)
  | _ => ("TankChain$Flow", "areasFed", "I", false)
def tyX2 : Nat → FieldType := fun k => match k with
  | 0 => .object "TankChain$Tank"
  | 1 => .object "TankChain$Custom"
  | 2 => .object "TankChain$Sums"
  | _ => .int
abbrev wsX20 : List Cond := u_ws RX2 TX2 4
theorem nmX2 : ∀ a, a < 4 → ∀ b, b < 4 → a ≠ b → (TX2 a).2.1 ≠ (TX2 b).2.1 := by decide +kernel
theorem tyX2_ok : ∀ k, k < 4 → parseFieldDescriptor (TX2 k).2.2.1 = some (tyX2 k) := by decide +kernel
abbrev cX2_init : ByteArray := prog_4_method_1_code
def yX2_init : MethodName := ⟨RX2, "<init>", "(LTankChain$Tank;LTankChain$Custom;)V"⟩
abbrev cX2_startFromNow : ByteArray := prog_4_method_2_code
def yX2_startFromNow : MethodName := ⟨RX2, "startFromNow", "()V"⟩
abbrev cX2_passDay : ByteArray := prog_4_method_3_code
def yX2_passDay : MethodName := ⟨RX2, "passDay", "(I)V"⟩
abbrev cX2_sentDown : ByteArray := prog_4_method_4_code
def yX2_sentDown : MethodName := ⟨RX2, "sentDown", "(LTankChain$Tank;II)I"⟩
abbrev cX2_takenByFields : ByteArray := prog_4_method_5_code
def yX2_takenByFields : MethodName := ⟨RX2, "takenByFields", "(LTankChain$Tank;I)I"⟩
abbrev cX2_areasWithin : ByteArray := prog_4_method_6_code
def yX2_areasWithin : MethodName := ⟨RX2, "areasWithin", "(LTankChain$Tank;I)I"⟩
abbrev cX2_shareInOrder : ByteArray := prog_4_method_7_code
def yX2_shareInOrder : MethodName := ⟨RX2, "shareInOrder", "(LTankChain$Tank;II)V"⟩
abbrev cX2_shareFairly : ByteArray := prog_4_method_8_code
def yX2_shareFairly : MethodName := ⟨RX2, "shareFairly", "(LTankChain$Tank;III)V"⟩
abbrev cX2_giveOneMore : ByteArray := prog_4_method_9_code
def yX2_giveOneMore : MethodName := ⟨RX2, "giveOneMore", "(LTankChain$Tank;)V"⟩
def RX3 : String := "TankChain$Pool"
def TX3 : u_T := fun k => match k with
  | 0 => ("TankChain$Pool", "water", "I", false)
  | 1 => ("TankChain$Pool", "opening", "I", false)
  | 2 => ("TankChain$Pool", "breached", "Z", false)
  | 3 => ("TankChain$Pool", "taken", "I", false)
  | _ => ("TankChain$Pool", "spilt", "I", false)
def tyX3 : Nat → FieldType := fun k => match k with
  | 0 => .int
  | 1 => .int
  | 2 => .boolean
  | 3 => .int
  | _ => .int
abbrev wsX30 : List Cond := u_ws RX3 TX3 5
theorem nmX3 : ∀ a, a < 5 → ∀ b, b < 5 → a ≠ b → (TX3 a).2.1 ≠ (TX3 b).2.1 := by decide +kernel
theorem tyX3_ok : ∀ k, k < 5 → parseFieldDescriptor (TX3 k).2.2.1 = some (tyX3 k) := by decide +kernel
abbrev cX3_init : ByteArray := prog_5_method_1_code
def yX3_init : MethodName := ⟨RX3, "<init>", "()V"⟩
abbrev cX3_becomeAs : ByteArray := prog_5_method_2_code
def yX3_becomeAs : MethodName := ⟨RX3, "becomeAs", "(LTankChain$Pool;)V"⟩
def RX4 : String := "TankChain$Sums"
def TX4 : u_T := fun k => match k with
  | 0 => ("TankChain$Sums", "rained", "I", false)
  | 1 => ("TankChain$Sums", "seeped", "I", false)
  | 2 => ("TankChain$Sums", "kept", "I", false)
  | _ => ("TankChain$Sums", "out", "I", false)
def tyX4 : Nat → FieldType := fun k => match k with
  | 0 => .int
  | 1 => .int
  | 2 => .int
  | _ => .int
abbrev wsX40 : List Cond := u_ws RX4 TX4 4
theorem nmX4 : ∀ a, a < 4 → ∀ b, b < 4 → a ≠ b → (TX4 a).2.1 ≠ (TX4 b).2.1 := by decide +kernel
theorem tyX4_ok : ∀ k, k < 4 → parseFieldDescriptor (TX4 k).2.2.1 = some (tyX4 k) := by decide +kernel
abbrev cX4_init : ByteArray := prog_6_method_1_code
def yX4_init : MethodName := ⟨RX4, "<init>", "()V"⟩
abbrev cX4_clear : ByteArray := prog_6_method_2_code
def yX4_clear : MethodName := ⟨RX4, "clear", "()V"⟩
abbrev cX4_addAll : ByteArray := prog_6_method_3_code
def yX4_addAll : MethodName := ⟨RX4, "addAll", "(LTankChain$Sums;)V"⟩
def RX5 : String := "TankChain$Tank"
def TX5 : u_T := fun k => match k with
  | 0 => ("TankChain$Tank", "number", "I", true)
  | 1 => ("TankChain$Tank", "below", "LTankChain$Tank;", true)
  | 2 => ("TankChain$Tank", "now", "LTankChain$Pool;", true)
  | 3 => ("TankChain$Tank", "after", "LTankChain$Pool;", true)
  | 4 => ("TankChain$Tank", "catches", "I", false)
  | 5 => ("TankChain$Tank", "size", "I", false)
  | 6 => ("TankChain$Tank", "bank", "I", false)
  | 7 => ("TankChain$Tank", "silt", "I", false)
  | 8 => ("TankChain$Tank", "breachedOn", "I", false)
  | _ => ("TankChain$Tank", "firstField", "LTankChain$Field;", false)
def tyX5 : Nat → FieldType := fun k => match k with
  | 0 => .int
  | 1 => .object "TankChain$Tank"
  | 2 => .object "TankChain$Pool"
  | 3 => .object "TankChain$Pool"
  | 4 => .int
  | 5 => .int
  | 6 => .int
  | 7 => .int
  | 8 => .int
  | _ => .object "TankChain$Field"
abbrev wsX50 : List Cond := u_ws RX5 TX5 10
theorem nmX5 : ∀ a, a < 10 → ∀ b, b < 10 → a ≠ b → (TX5 a).2.1 ≠ (TX5 b).2.1 := by decide +kernel
theorem tyX5_ok : ∀ k, k < 10 → parseFieldDescriptor (TX5 k).2.2.1 = some (tyX5 k) := by decide +kernel
abbrev cX5_init : ByteArray := prog_7_method_1_code
def yX5_init : MethodName := ⟨RX5, "<init>", "(ILTankChain$Tank;)V"⟩
abbrev cX5_roomIf : ByteArray := prog_7_method_2_code
def yX5_roomIf : MethodName := ⟨RX5, "roomIf", "(Z)I"⟩
abbrev cX5_isBadYearWith : ByteArray := prog_7_method_3_code
def yX5_isBadYearWith : MethodName := ⟨RX5, "isBadYearWith", "(I)Z"⟩
abbrev cX5_putInOrder : ByteArray := prog_7_method_4_code
def yX5_putInOrder : MethodName := ⟨RX5, "putInOrder", "(LTankChain$Field;LTankChain$Custom;)V"⟩
def RX6 : String := "TankChain$Tape"
def TX6 : u_T := fun k => match k with
  | 0 => ("TankChain$Tape", "bytes", "[B", true)
  | 1 => ("TankChain$Tape", "held", "I", false)
  | 2 => ("TankChain$Tape", "length", "I", false)
  | 3 => ("TankChain$Tape", "kind", "I", false)
  | 4 => ("TankChain$Tape", "begin", "I", false)
  | _ => ("TankChain$Tape", "end", "I", false)
def tyX6 : Nat → FieldType := fun k => match k with
  | 0 => .array .byte
  | 1 => .int
  | 2 => .int
  | 3 => .int
  | 4 => .int
  | _ => .int
abbrev wsX60 : List Cond := u_ws RX6 TX6 6
theorem nmX6 : ∀ a, a < 6 → ∀ b, b < 6 → a ≠ b → (TX6 a).2.1 ≠ (TX6 b).2.1 := by decide +kernel
theorem tyX6_ok : ∀ k, k < 6 → parseFieldDescriptor (TX6 k).2.2.1 = some (tyX6 k) := by decide +kernel
abbrev cX6_init : ByteArray := prog_8_method_1_code
def yX6_init : MethodName := ⟨RX6, "<init>", "()V"⟩
abbrev cX6_putFour : ByteArray := prog_8_method_2_code
def yX6_putFour : MethodName := ⟨RX6, "putFour", "(I)V"⟩
abbrev cX6_putByte : ByteArray := prog_8_method_3_code
def yX6_putByte : MethodName := ⟨RX6, "putByte", "(I)V"⟩
abbrev cX6_faultReading : ByteArray := prog_8_method_4_code
def yX6_faultReading : MethodName := ⟨RX6, "faultReading", "(LTankChain$Custom;I)I"⟩
abbrev cX6_readStatement : ByteArray := prog_8_method_5_code
def yX6_readStatement : MethodName := ⟨RX6, "readStatement", "(LTankChain$Custom;)Z"⟩
abbrev cX6_readFirst : ByteArray := prog_8_method_6_code
def yX6_readFirst : MethodName := ⟨RX6, "readFirst", "(LTankChain$Custom;)Z"⟩
abbrev cX6_isWord : ByteArray := prog_8_method_7_code
def yX6_isWord : MethodName := ⟨RX6, "isWord", "(Ljava/lang/String;)Z"⟩
abbrev cX6_numberHere : ByteArray := prog_8_method_8_code
def yX6_numberHere : MethodName := ⟨RX6, "numberHere", "()I"⟩
abbrev cX6_nextToken : ByteArray := prog_8_method_9_code
def yX6_nextToken : MethodName := ⟨RX6, "nextToken", "()V"⟩
abbrev cX6_byteAt : ByteArray := prog_8_method_10_code
def yX6_byteAt : MethodName := ⟨RX6, "byteAt", "(I)I"⟩
abbrev cX6_isBlank : ByteArray := prog_8_method_11_code
def yX6_isBlank : MethodName := ⟨RX6, "isBlank", "(I)Z"⟩
abbrev cX6_isLetter : ByteArray := prog_8_method_12_code
def yX6_isLetter : MethodName := ⟨RX6, "isLetter", "(I)Z"⟩
abbrev cX6_isDigit : ByteArray := prog_8_method_13_code
def yX6_isDigit : MethodName := ⟨RX6, "isDigit", "(I)Z"⟩
def RX7 : String := "TankChain"
def TX7 : u_T := fun k => match k with
  | 0 => ("TankChain", "tanks", "[LTankChain$Tank;", true)
  | 1 => ("TankChain", "fields", "[LTankChain$Field;", true)
  | 2 => ("TankChain", "tape", "LTankChain$Tape;", true)
  | 3 => ("TankChain", "inForce", "LTankChain$Custom;", true)
  | 4 => ("TankChain", "draft", "LTankChain$Custom;", true)
  | 5 => ("TankChain", "flow", "LTankChain$Flow;", true)
  | 6 => ("TankChain", "ever", "LTankChain$Sums;", true)
  | 7 => ("TankChain", "fieldsThere", "I", false)
  | 8 => ("TankChain", "daysGone", "I", false)
  | 9 => ("TankChain", "lastRain", "I", false)
  | 10 => ("TankChain", "waterTold", "I", false)
  | 11 => ("TankChain", "faultPlace", "I", false)
  | 12 => ("TankChain", "breachDay", "I", false)
  | 13 => ("TankChain", "breachFirst", "I", false)
  | _ => ("TankChain", "breachTanks", "I", false)
def tyX7 : Nat → FieldType := fun k => match k with
  | 0 => .array (.object "TankChain$Tank")
  | 1 => .array (.object "TankChain$Field")
  | 2 => .object "TankChain$Tape"
  | 3 => .object "TankChain$Custom"
  | 4 => .object "TankChain$Custom"
  | 5 => .object "TankChain$Flow"
  | 6 => .object "TankChain$Sums"
  | 7 => .int
  | 8 => .int
  | 9 => .int
  | 10 => .int
  | 11 => .int
  | 12 => .int
  | 13 => .int
  | _ => .int
abbrev wsX70 : List Cond := u_ws RX7 TX7 15
theorem nmX7 : ∀ a, a < 15 → ∀ b, b < 15 → a ≠ b → (TX7 a).2.1 ≠ (TX7 b).2.1 := by decide +kernel
theorem tyX7_ok : ∀ k, k < 15 → parseFieldDescriptor (TX7 k).2.2.1 = some (tyX7 k) := by decide +kernel
abbrev cX7_init : ByteArray := prog_1_method_1_code
def yX7_init : MethodName := ⟨RX7, "<init>", "(I)V"⟩
abbrev cX7_tank : ByteArray := prog_1_method_2_code
def yX7_tank : MethodName := ⟨RX7, "tank", "(IIII)Z"⟩
abbrev cX7_water : ByteArray := prog_1_method_3_code
def yX7_water : MethodName := ⟨RX7, "water", "(II)Z"⟩
abbrev cX7_field : ByteArray := prog_1_method_4_code
def yX7_field : MethodName := ⟨RX7, "field", "(IIIIZ)I"⟩
abbrev cX7_open : ByteArray := prog_1_method_5_code
def yX7_open : MethodName := ⟨RX7, "open", "(II)Z"⟩
abbrev cX7_mend : ByteArray := prog_1_method_6_code
def yX7_mend : MethodName := ⟨RX7, "mend", "(II)Z"⟩
abbrev cX7_dredge : ByteArray := prog_1_method_7_code
def yX7_dredge : MethodName := ⟨RX7, "dredge", "(II)I"⟩
abbrev cX7_feed : ByteArray := prog_1_method_8_code
def yX7_feed : MethodName := ⟨RX7, "feed", "(IIIII)I"⟩
abbrev cX7_custom : ByteArray := prog_1_method_9_code
def yX7_custom : MethodName := ⟨RX7, "custom", "(I)I"⟩
abbrev cX7_fault : ByteArray := prog_1_method_10_code
def yX7_fault : MethodName := ⟨RX7, "fault", "()I"⟩
abbrev cX7_day : ByteArray := prog_1_method_11_code
def yX7_day : MethodName := ⟨RX7, "day", "(I)I"⟩
abbrev cX7_told : ByteArray := prog_1_method_12_code
def yX7_told : MethodName := ⟨RX7, "told", "(II)I"⟩
abbrev cX7_fieldOf : ByteArray := prog_1_method_13_code
def yX7_fieldOf : MethodName := ⟨RX7, "fieldOf", "(II)I"⟩
abbrev cX7_order : ByteArray := prog_1_method_14_code
def yX7_order : MethodName := ⟨RX7, "order", "(II)I"⟩
abbrev cX7_owner : ByteArray := prog_1_method_15_code
def yX7_owner : MethodName := ⟨RX7, "owner", "(I)I"⟩
abbrev cX7_tried : ByteArray := prog_1_method_16_code
def yX7_tried : MethodName := ⟨RX7, "tried", "(III)I"⟩
abbrev cX7_lost : ByteArray := prog_1_method_17_code
def yX7_lost : MethodName := ⟨RX7, "lost", "(IIII)I"⟩
abbrev cX7_most : ByteArray := prog_1_method_18_code
def yX7_most : MethodName := ⟨RX7, "most", "(IIIII)I"⟩
abbrev cX7_breach : ByteArray := prog_1_method_19_code
def yX7_breach : MethodName := ⟨RX7, "breach", "(I)I"⟩
abbrev cX7_count : ByteArray := prog_1_method_20_code
def yX7_count : MethodName := ⟨RX7, "count", "(I)I"⟩
abbrev cX7_isWithin : ByteArray := prog_1_method_21_code
def yX7_isWithin : MethodName := ⟨RX7, "isWithin", "(III)Z"⟩
abbrev cX7_asNumber : ByteArray := prog_1_method_22_code
def yX7_asNumber : MethodName := ⟨RX7, "asNumber", "(Z)I"⟩
abbrev cX7_mayTry : ByteArray := prog_1_method_23_code
def yX7_mayTry : MethodName := ⟨RX7, "mayTry", "(II)Z"⟩
abbrev cX7_tankAt : ByteArray := prog_1_method_24_code
def yX7_tankAt : MethodName := ⟨RX7, "tankAt", "(I)LTankChain$Tank;"⟩
abbrev cX7_fieldAt : ByteArray := prog_1_method_25_code
def yX7_fieldAt : MethodName := ⟨RX7, "fieldAt", "(I)LTankChain$Field;"⟩
abbrev cX7_allWater : ByteArray := prog_1_method_26_code
def yX7_allWater : MethodName := ⟨RX7, "allWater", "()I"⟩
abbrev cX7_orderAnew : ByteArray := prog_1_method_27_code
def yX7_orderAnew : MethodName := ⟨RX7, "orderAnew", "()V"⟩
abbrev cX7_addSilt : ByteArray := prog_1_method_28_code
def yX7_addSilt : MethodName := ⟨RX7, "addSilt", "()V"⟩
abbrev cX7_keepTanks : ByteArray := prog_1_method_29_code
def yX7_keepTanks : MethodName := ⟨RX7, "keepTanks", "()V"⟩
abbrev cX7_keepFields : ByteArray := prog_1_method_30_code
def yX7_keepFields : MethodName := ⟨RX7, "keepFields", "()V"⟩
abbrev cX7_waterTried : ByteArray := prog_1_method_31_code
def yX7_waterTried : MethodName := ⟨RX7, "waterTried", "(LTankChain$Tank;LTankChain$Tank;II)I"⟩
abbrev cX7_areasFedBy : ByteArray := prog_1_method_32_code
def yX7_areasFedBy : MethodName := ⟨RX7, "areasFedBy", "(IIIII)I"⟩
abbrev cX7_openingIn : ByteArray := prog_1_method_33_code
def yX7_openingIn : MethodName := ⟨RX7, "openingIn", "(II)I"⟩
def RX8 : String := "TankChainModel"
def TX8 : u_T := fun k => match k with
  | 0 => ("TankChainModel", "tanks", "I", true)
  | 1 => ("TankChainModel", "day", "I", false)
  | 2 => ("TankChainModel", "rain", "I", false)
  | 3 => ("TankChainModel", "fields", "I", false)
  | 4 => ("TankChainModel", "catches", "[I", true)
  | 5 => ("TankChainModel", "size", "[I", true)
  | 6 => ("TankChainModel", "bank", "[I", true)
  | 7 => ("TankChainModel", "water", "[I", true)
  | 8 => ("TankChainModel", "opening", "[I", true)
  | 9 => ("TankChainModel", "silt", "[I", true)
  | 10 => ("TankChainModel", "taken", "[I", true)
  | 11 => ("TankChainModel", "spilt", "[I", true)
  | 12 => ("TankChainModel", "breachedOn", "[I", true)
  | 13 => ("TankChainModel", "isBreached", "[Z", true)
  | 14 => ("TankChainModel", "fieldTank", "[I", true)
  | 15 => ("TankChainModel", "far", "[I", true)
  | 16 => ("TankChainModel", "area", "[I", true)
  | 17 => ("TankChainModel", "owner", "[I", true)
  | 18 => ("TankChainModel", "daysFed", "[I", true)
  | 19 => ("TankChainModel", "allGot", "[I", true)
  | 20 => ("TankChainModel", "lastGot", "[I", true)
  | 21 => ("TankChainModel", "isTemple", "[Z", true)
  | 22 => ("TankChainModel", "owners", "[I", true)
  | 23 => ("TankChainModel", "out", "I", false)
  | 24 => ("TankChainModel", "seeped", "I", false)
  | 25 => ("TankChainModel", "kept", "I", false)
  | 26 => ("TankChainModel", "rained", "I", false)
  | 27 => ("TankChainModel", "toldMore", "I", false)
  | 28 => ("TankChainModel", "firstBreach", "I", false)
  | 29 => ("TankChainModel", "breaches", "I", false)
  | 30 => ("TankChainModel", "breachDay", "I", false)
  | 31 => ("TankChainModel", "tape", "[B", true)
  | 32 => ("TankChainModel", "text", "[B", true)
  | 33 => ("TankChainModel", "taped", "I", false)
  | 34 => ("TankChainModel", "place", "I", false)
  | 35 => ("TankChainModel", "end", "I", false)
  | 36 => ("TankChainModel", "fault", "I", false)
  | 37 => ("TankChainModel", "told", "[I", true)
  | 38 => ("TankChainModel", "hasCustom", "Z", false)
  | 39 => ("TankChainModel", "wordEnd", "I", false)
  | 40 => ("TankChainModel", "number", "I", false)
  | 41 => ("TankChainModel", "row", "[I", true)
  | 42 => ("TankChainModel", "got", "[I", true)
  | 43 => ("TankChainModel", "hasMore", "[Z", true)
  | 44 => ("TankChainModel", "triedWater", "[I", true)
  | 45 => ("TankChainModel", "triedOpening", "[I", true)
  | _ => ("TankChainModel", "triedBreach", "[Z", true)
def tyX8 : Nat → FieldType := fun k => match k with
  | 0 => .int
  | 1 => .int
  | 2 => .int
  | 3 => .int
  | 4 => .array .int
  | 5 => .array .int
  | 6 => .array .int
  | 7 => .array .int
  | 8 => .array .int
  | 9 => .array .int
  | 10 => .array .int
  | 11 => .array .int
  | 12 => .array .int
  | 13 => .array .boolean
  | 14 => .array .int
  | 15 => .array .int
  | 16 => .array .int
  | 17 => .array .int
  | 18 => .array .int
  | 19 => .array .int
  | 20 => .array .int
  | 21 => .array .boolean
  | 22 => .array .int
  | 23 => .int
  | 24 => .int
  | 25 => .int
  | 26 => .int
  | 27 => .int
  | 28 => .int
  | 29 => .int
  | 30 => .int
  | 31 => .array .byte
  | 32 => .array .byte
  | 33 => .int
  | 34 => .int
  | 35 => .int
  | 36 => .int
  | 37 => .array .int
  | 38 => .boolean
  | 39 => .int
  | 40 => .int
  | 41 => .array .int
  | 42 => .array .int
  | 43 => .array .boolean
  | 44 => .array .int
  | 45 => .array .int
  | _ => .array .boolean
abbrev wsX80 : List Cond := u_ws RX8 TX8 47
theorem nmX8 : ∀ a, a < 47 → ∀ b, b < 47 → a ≠ b → (TX8 a).2.1 ≠ (TX8 b).2.1 := by decide +kernel
theorem tyX8_ok : ∀ k, k < 47 → parseFieldDescriptor (TX8 k).2.2.1 = some (tyX8 k) := by decide +kernel
abbrev cX8_init : ByteArray := prog_10_method_1_code
def yX8_init : MethodName := ⟨RX8, "<init>", "(I)V"⟩
abbrev cX8_isIn : ByteArray := prog_10_method_2_code
def yX8_isIn : MethodName := ⟨RX8, "isIn", "(III)Z"⟩
abbrev cX8_one : ByteArray := prog_10_method_3_code
def yX8_one : MethodName := ⟨RX8, "one", "(Z)I"⟩
abbrev cX8_isTank : ByteArray := prog_10_method_4_code
def yX8_isTank : MethodName := ⟨RX8, "isTank", "(I)Z"⟩
abbrev cX8_tank : ByteArray := prog_10_method_5_code
def yX8_tank : MethodName := ⟨RX8, "tank", "(IIII)Z"⟩
abbrev cX8_room : ByteArray := prog_10_method_6_code
def yX8_room : MethodName := ⟨RX8, "room", "(IZ)I"⟩
abbrev cX8_water : ByteArray := prog_10_method_7_code
def yX8_water : MethodName := ⟨RX8, "water", "(II)Z"⟩
abbrev cX8_field : ByteArray := prog_10_method_8_code
def yX8_field : MethodName := ⟨RX8, "field", "(IIIIZ)I"⟩
abbrev cX8_open : ByteArray := prog_10_method_9_code
def yX8_open : MethodName := ⟨RX8, "open", "(II)Z"⟩
abbrev cX8_mend : ByteArray := prog_10_method_10_code
def yX8_mend : MethodName := ⟨RX8, "mend", "(II)Z"⟩
abbrev cX8_dredge : ByteArray := prog_10_method_11_code
def yX8_dredge : MethodName := ⟨RX8, "dredge", "(II)I"⟩
abbrev cX8_custom : ByteArray := prog_10_method_12_code
def yX8_custom : MethodName := ⟨RX8, "custom", "(II)I"⟩
abbrev cX8_feed : ByteArray := prog_10_method_13_code
def yX8_feed : MethodName := ⟨RX8, "feed", "(IIIII)I"⟩
abbrev cX8_four : ByteArray := prog_10_method_14_code
def yX8_four : MethodName := ⟨RX8, "four", "(I)V"⟩
abbrev cX8_blanks : ByteArray := prog_10_method_15_code
def yX8_blanks : MethodName := ⟨RX8, "blanks", "()V"⟩
abbrev cX8_word : ByteArray := prog_10_method_16_code
def yX8_word : MethodName := ⟨RX8, "word", "()J"⟩
abbrev cX8_takes : ByteArray := prog_10_method_17_code
def yX8_takes : MethodName := ⟨RX8, "takes", "(J)Z"⟩
abbrev cX8_takesNumber : ByteArray := prog_10_method_18_code
def yX8_takesNumber : MethodName := ⟨RX8, "takesNumber", "()Z"⟩
abbrev cX8_statement : ByteArray := prog_10_method_19_code
def yX8_statement : MethodName := ⟨RX8, "statement", "()Z"⟩
abbrev cX8_custom_ : ByteArray := prog_10_method_20_code
def yX8_custom_ : MethodName := ⟨RX8, "custom", "(I)I"⟩
abbrev cX8_fault : ByteArray := prog_10_method_21_code
def yX8_fault : MethodName := ⟨RX8, "fault", "()I"⟩
abbrev cX8_isAhead : ByteArray := prog_10_method_22_code
def yX8_isAhead : MethodName := ⟨RX8, "isAhead", "(II)Z"⟩
abbrev cX8_ordered : ByteArray := prog_10_method_23_code
def yX8_ordered : MethodName := ⟨RX8, "ordered", "(I)I"⟩
abbrev cX8_order : ByteArray := prog_10_method_24_code
def yX8_order : MethodName := ⟨RX8, "order", "(II)I"⟩
abbrev cX8_isBad : ByteArray := prog_10_method_25_code
def yX8_isBad : MethodName := ⟨RX8, "isBad", "(II)Z"⟩
abbrev cX8_gives : ByteArray := prog_10_method_26_code
def yX8_gives : MethodName := ⟨RX8, "gives", "(III)I"⟩
abbrev cX8_flows : ByteArray := prog_10_method_27_code
def yX8_flows : MethodName := ⟨RX8, "flows", "([I[Z[IIZ)I"⟩
abbrev cX8_day : ByteArray := prog_10_method_28_code
def yX8_day : MethodName := ⟨RX8, "day", "(I)I"⟩
abbrev cX8_told : ByteArray := prog_10_method_29_code
def yX8_told : MethodName := ⟨RX8, "told", "(II)I"⟩
abbrev cX8_fieldOf : ByteArray := prog_10_method_30_code
def yX8_fieldOf : MethodName := ⟨RX8, "fieldOf", "(II)I"⟩
abbrev cX8_owner : ByteArray := prog_10_method_31_code
def yX8_owner : MethodName := ⟨RX8, "owner", "(I)I"⟩
abbrev cX8_tries : ByteArray := prog_10_method_32_code
def yX8_tries : MethodName := ⟨RX8, "tries", "(II)I"⟩
abbrev cX8_openings : ByteArray := prog_10_method_33_code
def yX8_openings : MethodName := ⟨RX8, "openings", "()V"⟩
abbrev cX8_isTrial : ByteArray := prog_10_method_34_code
def yX8_isTrial : MethodName := ⟨RX8, "isTrial", "(II)Z"⟩
abbrev cX8_tried : ByteArray := prog_10_method_35_code
def yX8_tried : MethodName := ⟨RX8, "tried", "(III)I"⟩
abbrev cX8_lost : ByteArray := prog_10_method_36_code
def yX8_lost : MethodName := ⟨RX8, "lost", "(IIII)I"⟩
abbrev cX8_most : ByteArray := prog_10_method_37_code
def yX8_most : MethodName := ⟨RX8, "most", "(IIIII)I"⟩
abbrev cX8_breach : ByteArray := prog_10_method_38_code
def yX8_breach : MethodName := ⟨RX8, "breach", "(I)I"⟩
abbrev cX8_count : ByteArray := prog_10_method_39_code
def yX8_count : MethodName := ⟨RX8, "count", "(I)I"⟩
def RJ9 : String := "java/lang/Math"
def TJ9 : u_T := fun k => match k with
  | _ => ("", "", "", false)
def tyJ9 : Nat → FieldType := fun k => match k with
  | _ => .int
abbrev wsJ90 : List Cond := u_ws RJ9 TJ9 0
theorem nmJ9 : ∀ a, a < 0 → ∀ b, b < 0 → a ≠ b → (TJ9 a).2.1 ≠ (TJ9 b).2.1 := by decide +kernel
theorem tyJ9_ok : ∀ k, k < 0 → parseFieldDescriptor (TJ9 k).2.2.1 = some (tyJ9 k) := by decide +kernel
abbrev cJ9_max_7cf53 : ByteArray := prog_11_method_65_code
def yJ9_max_7cf53 : MethodName := ⟨RJ9, "max", "(II)I"⟩
abbrev cJ9_min_7cf53 : ByteArray := prog_11_method_69_code
def yJ9_min_7cf53 : MethodName := ⟨RJ9, "min", "(II)I"⟩
def RJ0 : String := "java/lang/String"
def TJ0 : u_T := fun k => match k with
  | _ => ("", "", "", false)
def tyJ0 : Nat → FieldType := fun k => match k with
  | _ => .int
abbrev wsJ00 : List Cond := u_ws RJ0 TJ0 0
theorem nmJ0 : ∀ a, a < 0 → ∀ b, b < 0 → a ≠ b → (TJ0 a).2.1 ≠ (TJ0 b).2.1 := by decide +kernel
theorem tyJ0_ok : ∀ k, k < 0 → parseFieldDescriptor (TJ0 k).2.2.1 = some (tyJ0 k) := by decide +kernel
abbrev cJ0_length_8abf5 : ByteArray := prog_12_method_54_code
def yJ0_length_8abf5 : MethodName := ⟨RJ0, "length", "()I"⟩
abbrev cJ0_charAt_5068e : ByteArray := prog_12_method_56_code
def yJ0_charAt_5068e : MethodName := ⟨RJ0, "charAt", "(I)C"⟩
abbrev cJ0_coder_7d493 : ByteArray := prog_12_method_152_code
def yJ0_coder_7d493 : MethodName := ⟨RJ0, "coder", "()B"⟩
abbrev cJ0_isLatin1_aae02 : ByteArray := prog_12_method_154_code
def yJ0_isLatin1_aae02 : MethodName := ⟨RJ0, "isLatin1", "()Z"⟩
abbrev cJ0_checkIndex_df160 : ByteArray := prog_12_method_155_code
def yJ0_checkIndex_df160 : MethodName := ⟨RJ0, "checkIndex", "(II)V"⟩
def RJ1 : String := "java/lang/StringLatin1"
def TJ1 : u_T := fun k => match k with
  | _ => ("", "", "", false)
def tyJ1 : Nat → FieldType := fun k => match k with
  | _ => .int
abbrev wsJ10 : List Cond := u_ws RJ1 TJ1 0
theorem nmJ1 : ∀ a, a < 0 → ∀ b, b < 0 → a ≠ b → (TJ1 a).2.1 ≠ (TJ1 b).2.1 := by decide +kernel
theorem tyJ1_ok : ∀ k, k < 0 → parseFieldDescriptor (TJ1 k).2.2.1 = some (tyJ1 k) := by decide +kernel
abbrev cJ1_charAt_3b067 : ByteArray := prog_13_method_2_code
def yJ1_charAt_3b067 : MethodName := ⟨RJ1, "charAt", "([BI)C"⟩
def RJ2 : String := "java/lang/StringUTF16"
def TJ2 : u_T := fun k => match k with
  | _ => ("", "", "", false)
def tyJ2 : Nat → FieldType := fun k => match k with
  | _ => .int
abbrev wsJ20 : List Cond := u_ws RJ2 TJ2 0
theorem nmJ2 : ∀ a, a < 0 → ∀ b, b < 0 → a ≠ b → (TJ2 a).2.1 ≠ (TJ2 b).2.1 := by decide +kernel
theorem tyJ2_ok : ∀ k, k < 0 → parseFieldDescriptor (TJ2 k).2.2.1 = some (tyJ2 k) := by decide +kernel
abbrev cJ2_getChar_3b067 : ByteArray := prog_14_method_5_code
def yJ2_getChar_3b067 : MethodName := ⟨RJ2, "getChar", "([BI)C"⟩
abbrev cJ2_length_9d52b : ByteArray := prog_14_method_6_code
def yJ2_length_9d52b : MethodName := ⟨RJ2, "length", "([B)I"⟩
abbrev cJ2_charAt_3b067 : ByteArray := prog_14_method_83_code
def yJ2_charAt_3b067 : MethodName := ⟨RJ2, "charAt", "([BI)C"⟩
abbrev cJ2_checkIndex_2214a : ByteArray := prog_14_method_91_code
def yJ2_checkIndex_2214a : MethodName := ⟨RJ2, "checkIndex", "(I[B)V"⟩
def RJ3 : String := "jdk/internal/util/Preconditions"
def TJ3 : u_T := fun k => match k with
  | _ => ("", "", "", false)
def tyJ3 : Nat → FieldType := fun k => match k with
  | _ => .int
abbrev wsJ30 : List Cond := u_ws RJ3 TJ3 0
theorem nmJ3 : ∀ a, a < 0 → ∀ b, b < 0 → a ≠ b → (TJ3 a).2.1 ≠ (TJ3 b).2.1 := by decide +kernel
theorem tyJ3_ok : ∀ k, k < 0 → parseFieldDescriptor (TJ3 k).2.2.1 = some (tyJ3 k) := by decide +kernel
abbrev cJ3_checkIndex_8e157 : ByteArray := prog_15_method_11_code
def yJ3_checkIndex_8e157 : MethodName := ⟨RJ3, "checkIndex", "(IILjava/util/function/BiFunction;)I"⟩
def RL : String := "TankChainLaw"
abbrev cL_cell : ByteArray := method_2_code
def yL_cell : MethodName := ⟨RL, "cell", "([II)I"⟩
abbrev cL_law : ByteArray := code
def yL_law : MethodName := ⟨RL, "law", "([I)Z"⟩
def wsL_cell : List Cond := .code yL_cell cL_cell 2 (some .int) :: ([])
def wsL_law_r1 : List Cond := [Cond.classLink RL 7 RX7, Cond.instantiable RX7 15, Cond.initialized RX7, Cond.classLink RL 18 RX8, Cond.instantiable RX8 47, Cond.initialized RX8, Cond.methodLink RL 9 yL_cell, Cond.static yL_cell, Cond.initialized RL, Cond.code yL_cell cL_cell 2 (some .int), Cond.methodLink RL 15 yX7_init, Cond.instanceMethod yX7_init, Cond.code yX7_init cX7_init 5 none, Cond.methodLink RX7 1 objectInit, Cond.instanceMethod objectInit, Cond.code objectInit ⟨#[0xb1]⟩ 1 none, Cond.classLink RX7 9 RX1, Cond.fieldLink RX7 11 "TankChain" "fields" "[LTankChain$Field;", Cond.classLink RX7 15 RX6, Cond.instantiable RX6 6, Cond.initialized RX6, Cond.fieldLink RX7 18 "TankChain" "tape" "LTankChain$Tape;", Cond.classLink RX7 22 RX0, Cond.instantiable RX0 6]
def wsL_law_r2 : List Cond := [Cond.initialized RX0, Cond.fieldLink RX7 25 "TankChain" "inForce" "LTankChain$Custom;", Cond.fieldLink RX7 29 "TankChain" "draft" "LTankChain$Custom;", Cond.classLink RX7 32 RX4, Cond.instantiable RX4 4, Cond.initialized RX4, Cond.fieldLink RX7 35 "TankChain" "ever" "LTankChain$Sums;", Cond.fieldLink RX7 39 "TankChain" "fieldsThere" "I", Cond.fieldLink RX7 43 "TankChain" "daysGone" "I", Cond.fieldLink RX7 46 "TankChain" "lastRain" "I", Cond.fieldLink RX7 49 "TankChain" "waterTold" "I", Cond.fieldLink RX7 52 "TankChain" "faultPlace" "I", Cond.fieldLink RX7 55 "TankChain" "breachDay" "I", Cond.fieldLink RX7 58 "TankChain" "breachFirst" "I", Cond.fieldLink RX7 61 "TankChain" "breachTanks" "I", Cond.methodLink RX7 64 Lib.Math.min.name, Cond.static Lib.Math.min.name, Cond.initialized "java/lang/Math", Cond.code Lib.Math.min.name Lib.Math.min.code 2 (some .int), Cond.methodLink RX7 70 Lib.Math.max.name, Cond.static Lib.Math.max.name, Cond.code Lib.Math.max.name Lib.Math.max.code 2 (some .int), Cond.classLink RX7 73 RX5, Cond.fieldLink RX7 75 "TankChain" "tanks" "[LTankChain$Tank;"]
def wsL_law_r3 : List Cond := [Cond.instantiable RX5 10, Cond.initialized RX5, Cond.classLink RX7 82 RX2, Cond.instantiable RX2 4, Cond.initialized RX2, Cond.fieldLink RX7 87 "TankChain" "flow" "LTankChain$Flow;", Cond.instanceMethod yX6_init, Cond.code yX6_init cX6_init 1 none, Cond.methodLink RX6 3 objectInit, Cond.arrayClass .byte, Cond.fieldLink RX6 9 "TankChain$Tape" "bytes" "[B", Cond.fieldLink RX6 15 "TankChain$Tape" "held" "I", Cond.fieldLink RX6 19 "TankChain$Tape" "length" "I", Cond.fieldLink RX6 22 "TankChain$Tape" "kind" "I", Cond.fieldLink RX6 25 "TankChain$Tape" "begin" "I", Cond.fieldLink RX6 28 "TankChain$Tape" "end" "I", Cond.instanceMethod yX0_init, Cond.code yX0_init cX0_init 1 none, Cond.methodLink RX0 3 objectInit, Cond.arrayClass .int, Cond.fieldLink RX0 9 "TankChain$Custom" "firsts" "[I", Cond.fieldLink RX0 15 "TankChain$Custom" "firstsThere" "I", Cond.fieldLink RX0 19 "TankChain$Custom" "near" "I", Cond.fieldLink RX0 22 "TankChain$Custom" "hold" "I"]
def wsL_law_r4 : List Cond := [Cond.fieldLink RX0 25 "TankChain$Custom" "fair" "Z", Cond.fieldLink RX0 29 "TankChain$Custom" "statements" "I", Cond.instanceMethod yX4_init, Cond.code yX4_init cX4_init 1 none, Cond.methodLink RX4 1 objectInit, Cond.fieldLink RX4 7 "TankChain$Sums" "rained" "I", Cond.fieldLink RX4 13 "TankChain$Sums" "seeped" "I", Cond.fieldLink RX4 16 "TankChain$Sums" "kept" "I", Cond.fieldLink RX4 19 "TankChain$Sums" "out" "I", Cond.methodLink RX7 79 yX5_init, Cond.instanceMethod yX5_init, Cond.code yX5_init cX5_init 3 none, Cond.methodLink RX5 3 objectInit, Cond.classLink RX5 9 RX3, Cond.instantiable RX3 5, Cond.initialized RX3, Cond.fieldLink RX5 12 "TankChain$Tank" "now" "LTankChain$Pool;", Cond.fieldLink RX5 18 "TankChain$Tank" "after" "LTankChain$Pool;", Cond.fieldLink RX5 21 "TankChain$Tank" "catches" "I", Cond.fieldLink RX5 25 "TankChain$Tank" "size" "I", Cond.fieldLink RX5 28 "TankChain$Tank" "bank" "I", Cond.fieldLink RX5 31 "TankChain$Tank" "silt" "I", Cond.fieldLink RX5 34 "TankChain$Tank" "breachedOn" "I", Cond.fieldLink RX5 37 "TankChain$Tank" "firstField" "LTankChain$Field;"]
def wsL_law_r5 : List Cond := [Cond.fieldLink RX5 41 "TankChain$Tank" "number" "I", Cond.fieldLink RX5 44 "TankChain$Tank" "below" "LTankChain$Tank;", Cond.instanceMethod yX3_init, Cond.code yX3_init cX3_init 1 none, Cond.methodLink RX3 1 objectInit, Cond.fieldLink RX3 7 "TankChain$Pool" "water" "I", Cond.fieldLink RX3 13 "TankChain$Pool" "opening" "I", Cond.fieldLink RX3 16 "TankChain$Pool" "breached" "Z", Cond.fieldLink RX3 20 "TankChain$Pool" "taken" "I", Cond.fieldLink RX3 23 "TankChain$Pool" "spilt" "I", Cond.methodLink RX7 84 yX2_init, Cond.instanceMethod yX2_init, Cond.code yX2_init cX2_init 3 none, Cond.methodLink RX2 3 objectInit, Cond.classLink RX2 9 RX4, Cond.fieldLink RX2 12 "TankChain$Flow" "sums" "LTankChain$Sums;", Cond.fieldLink RX2 18 "TankChain$Flow" "areasFed" "I", Cond.fieldLink RX2 22 "TankChain$Flow" "head" "LTankChain$Tank;", Cond.fieldLink RX2 26 "TankChain$Flow" "custom" "LTankChain$Custom;", Cond.methodLink RL 20 yX8_init, Cond.instanceMethod yX8_init, Cond.code yX8_init cX8_init 3 none, Cond.methodLink RX8 1 objectInit, Cond.fieldLink RX8 7 "TankChainModel" "catches" "[I"]
def wsL_law_r6 : List Cond := [Cond.fieldLink RX8 13 "TankChainModel" "size" "[I", Cond.fieldLink RX8 16 "TankChainModel" "bank" "[I", Cond.fieldLink RX8 19 "TankChainModel" "water" "[I", Cond.fieldLink RX8 22 "TankChainModel" "opening" "[I", Cond.fieldLink RX8 25 "TankChainModel" "silt" "[I", Cond.fieldLink RX8 28 "TankChainModel" "taken" "[I", Cond.fieldLink RX8 31 "TankChainModel" "spilt" "[I", Cond.fieldLink RX8 34 "TankChainModel" "breachedOn" "[I", Cond.arrayClass .boolean, Cond.fieldLink RX8 37 "TankChainModel" "isBreached" "[Z", Cond.fieldLink RX8 41 "TankChainModel" "fieldTank" "[I", Cond.fieldLink RX8 44 "TankChainModel" "far" "[I", Cond.fieldLink RX8 47 "TankChainModel" "area" "[I", Cond.fieldLink RX8 50 "TankChainModel" "owner" "[I", Cond.fieldLink RX8 53 "TankChainModel" "daysFed" "[I", Cond.fieldLink RX8 56 "TankChainModel" "allGot" "[I", Cond.fieldLink RX8 59 "TankChainModel" "lastGot" "[I", Cond.fieldLink RX8 62 "TankChainModel" "isTemple" "[Z", Cond.fieldLink RX8 65 "TankChainModel" "owners" "[I", Cond.fieldLink RX8 68 "TankChainModel" "firstBreach" "I", Cond.fieldLink RX8 72 "TankChainModel" "breaches" "I", Cond.fieldLink RX8 75 "TankChainModel" "breachDay" "I", Cond.fieldLink RX8 78 "TankChainModel" "tape" "[B", Cond.fieldLink RX8 82 "TankChainModel" "text" "[B"]
def wsL_law_r7 : List Cond := [Cond.fieldLink RX8 85 "TankChainModel" "fault" "I", Cond.fieldLink RX8 88 "TankChainModel" "told" "[I", Cond.fieldLink RX8 91 "TankChainModel" "row" "[I", Cond.fieldLink RX8 94 "TankChainModel" "got" "[I", Cond.fieldLink RX8 97 "TankChainModel" "hasMore" "[Z", Cond.fieldLink RX8 100 "TankChainModel" "triedWater" "[I", Cond.fieldLink RX8 103 "TankChainModel" "triedOpening" "[I", Cond.fieldLink RX8 106 "TankChainModel" "triedBreach" "[Z", Cond.methodLink RX8 109 Lib.Math.min.name, Cond.methodLink RX8 115 Lib.Math.max.name, Cond.fieldLink RX8 118 "TankChainModel" "tanks" "I", Cond.methodLink RL 21 yX7_tank, Cond.instanceMethod yX7_tank, Cond.selects RX7 yX7_tank yX7_tank, Cond.code yX7_tank cX7_tank 7 (some .boolean), Cond.fieldLink RX7 99 "TankChain$Tank" "catches" "I", Cond.fieldLink RX7 102 "TankChain$Tank" "size" "I", Cond.fieldLink RX7 105 "TankChain$Tank" "bank" "I", Cond.methodLink RX7 91 yX7_tankAt, Cond.instanceMethod yX7_tankAt, Cond.selects RX7 yX7_tankAt yX7_tankAt, Cond.code yX7_tankAt cX7_tankAt 2 (some (.object "TankChain$Tank")), Cond.methodLink RX7 95 yX7_isWithin, Cond.static yX7_isWithin]
def wsL_law_r8 : List Cond := [Cond.code yX7_isWithin cX7_isWithin 3 (some .boolean), Cond.methodLink RL 25 yX8_tank, Cond.instanceMethod yX8_tank, Cond.selects RX8 yX8_tank yX8_tank, Cond.code yX8_tank cX8_tank 5 (some .boolean), Cond.fieldLink RX8 129 "TankChainModel" "day" "I", Cond.methodLink RX8 125 yX8_isTank, Cond.instanceMethod yX8_isTank, Cond.selects RX8 yX8_isTank yX8_isTank, Cond.code yX8_isTank cX8_isTank 2 (some .boolean), Cond.methodLink RX8 121 yX8_isIn, Cond.static yX8_isIn, Cond.code yX8_isIn cX8_isIn 3 (some .boolean), Cond.methodLink RL 26 yX7_water, Cond.instanceMethod yX7_water, Cond.selects RX7 yX7_water yX7_water, Cond.code yX7_water cX7_water 4 (some .boolean), Cond.fieldLink RX7 108 "TankChain$Tank" "now" "LTankChain$Pool;", Cond.fieldLink RX7 112 "TankChain$Pool" "breached" "Z", Cond.fieldLink RX7 122 "TankChain$Pool" "water" "I", Cond.methodLink RX7 118 yX5_roomIf, Cond.instanceMethod yX5_roomIf, Cond.selects RX5 yX5_roomIf yX5_roomIf, Cond.code yX5_roomIf cX5_roomIf 2 (some .int)]
def wsL_law_r9 : List Cond := [Cond.methodLink RL 30 yX8_water, Cond.instanceMethod yX8_water, Cond.selects RX8 yX8_water yX8_water, Cond.code yX8_water cX8_water 3 (some .boolean), Cond.fieldLink RX8 136 "TankChainModel" "toldMore" "I", Cond.methodLink RX8 132 yX8_room, Cond.instanceMethod yX8_room, Cond.selects RX8 yX8_room yX8_room, Cond.code yX8_room cX8_room 3 (some .int), Cond.methodLink RL 31 yX7_field, Cond.instanceMethod yX7_field, Cond.selects RX7 yX7_field yX7_field, Cond.code yX7_field cX7_field 10 (some .int), Cond.instantiable RX1 12, Cond.initialized RX1, Cond.methodLink RX7 125 yX1_init, Cond.instanceMethod yX1_init, Cond.code yX1_init cX1_init 7 none, Cond.methodLink RX1 1 objectInit, Cond.fieldLink RX1 7 "TankChain$Field" "next" "LTankChain$Field;", Cond.fieldLink RX1 13 "TankChain$Field" "share" "I", Cond.fieldLink RX1 17 "TankChain$Field" "remainder" "I", Cond.fieldLink RX1 20 "TankChain$Field" "daysFed" "I", Cond.fieldLink RX1 23 "TankChain$Field" "gotEver" "I"]
def wsL_law_r10 : List Cond := [Cond.fieldLink RX1 26 "TankChain$Field" "gotLately" "I", Cond.fieldLink RX1 29 "TankChain$Field" "number" "I", Cond.fieldLink RX1 32 "TankChain$Field" "tank" "I", Cond.fieldLink RX1 35 "TankChain$Field" "far" "I", Cond.fieldLink RX1 38 "TankChain$Field" "area" "I", Cond.fieldLink RX1 41 "TankChain$Field" "owner" "I", Cond.fieldLink RX1 44 "TankChain$Field" "temple" "Z", Cond.methodLink RX7 128 yX5_putInOrder, Cond.instanceMethod yX5_putInOrder, Cond.selects RX5 yX5_putInOrder yX5_putInOrder, Cond.code yX5_putInOrder cX5_putInOrder 5 none, Cond.fieldLink RX5 54 "TankChain$Field" "next" "LTankChain$Field;", Cond.methodLink RX5 48 yX0_isAhead, Cond.instanceMethod yX0_isAhead, Cond.selects RX0 yX0_isAhead yX0_isAhead, Cond.code yX0_isAhead cX0_isAhead 5 (some .boolean), Cond.fieldLink RX0 43 "TankChain$Field" "number" "I", Cond.methodLink RX0 39 yX0_rank, Cond.static yX0_rank, Cond.code yX0_rank cX0_rank 2 (some .int), Cond.fieldLink RX0 48 "TankChain$Field" "temple" "Z", Cond.fieldLink RX0 51 "TankChain$Field" "area" "I", Cond.fieldLink RX0 54 "TankChain$Field" "far" "I", Cond.methodLink RL 35 yX8_field]
def wsL_law_r11 : List Cond := [Cond.instanceMethod yX8_field, Cond.selects RX8 yX8_field yX8_field, Cond.code yX8_field cX8_field 6 (some .int), Cond.fieldLink RX8 139 "TankChainModel" "fields" "I", Cond.methodLink RL 36 yX7_open, Cond.instanceMethod yX7_open, Cond.selects RX7 yX7_open yX7_open, Cond.code yX7_open cX7_open 4 (some .boolean), Cond.fieldLink RX7 132 "TankChain$Pool" "opening" "I", Cond.methodLink RL 39 yX8_open, Cond.instanceMethod yX8_open, Cond.selects RX8 yX8_open yX8_open, Cond.code yX8_open cX8_open 3 (some .boolean), Cond.methodLink RL 40 yX7_mend, Cond.instanceMethod yX7_mend, Cond.selects RX7 yX7_mend yX7_mend, Cond.code yX7_mend cX7_mend 4 (some .boolean), Cond.methodLink RL 43 yX8_mend, Cond.instanceMethod yX8_mend, Cond.selects RX8 yX8_mend yX8_mend, Cond.code yX8_mend cX8_mend 3 (some .boolean), Cond.methodLink RL 44 yX7_dredge, Cond.instanceMethod yX7_dredge, Cond.selects RX7 yX7_dredge yX7_dredge]
def wsL_law_r12 : List Cond := [Cond.code yX7_dredge cX7_dredge 4 (some .int), Cond.fieldLink RX7 135 "TankChain$Tank" "silt" "I", Cond.methodLink RL 48 yX8_dredge, Cond.instanceMethod yX8_dredge, Cond.selects RX8 yX8_dredge yX8_dredge, Cond.code yX8_dredge cX8_dredge 3 (some .int), Cond.methodLink RL 49 yX7_feed, Cond.instanceMethod yX7_feed, Cond.selects RX7 yX7_feed yX7_feed, Cond.code yX7_feed cX7_feed 6 (some .int), Cond.fieldLink RX7 138 "TankChain$Tape" "held" "I", Cond.methodLink RX7 141 yX6_putFour, Cond.instanceMethod yX6_putFour, Cond.selects RX6 yX6_putFour yX6_putFour, Cond.code yX6_putFour cX6_putFour 2 none, Cond.methodLink RX6 31 yX6_putByte, Cond.instanceMethod yX6_putByte, Cond.selects RX6 yX6_putByte yX6_putByte, Cond.code yX6_putByte cX6_putByte 2 none, Cond.methodLink RL 53 yX8_feed, Cond.instanceMethod yX8_feed, Cond.selects RX8 yX8_feed yX8_feed, Cond.code yX8_feed cX8_feed 6 (some .int), Cond.fieldLink RX8 146 "TankChainModel" "taped" "I"]
def wsL_law_r13 : List Cond := [Cond.methodLink RX8 149 yX8_four, Cond.instanceMethod yX8_four, Cond.selects RX8 yX8_four yX8_four, Cond.code yX8_four cX8_four 3 none, Cond.methodLink RL 54 yX7_custom, Cond.instanceMethod yX7_custom, Cond.selects RX7 yX7_custom yX7_custom, Cond.code yX7_custom cX7_custom 2 (some .int), Cond.fieldLink RX7 156 "TankChain$Custom" "statements" "I", Cond.methodLink RX7 145 yX6_faultReading, Cond.instanceMethod yX6_faultReading, Cond.selects RX6 yX6_faultReading yX6_faultReading, Cond.code yX6_faultReading cX6_faultReading 3 (some .int), Cond.fieldLink RX6 43 "TankChain$Custom" "statements" "I", Cond.methodLink RX6 35 yX0_clear, Cond.instanceMethod yX0_clear, Cond.selects RX0 yX0_clear yX0_clear, Cond.code yX0_clear cX0_clear 1 none, Cond.methodLink RX6 40 yX6_nextToken, Cond.instanceMethod yX6_nextToken, Cond.selects RX6 yX6_nextToken yX6_nextToken, Cond.code yX6_nextToken cX6_nextToken 1 none, Cond.methodLink RX6 87 yX6_byteAt, Cond.instanceMethod yX6_byteAt]
def wsL_law_r14 : List Cond := [Cond.selects RX6 yX6_byteAt yX6_byteAt, Cond.code yX6_byteAt cX6_byteAt 2 (some .int), Cond.methodLink RX6 95 yX6_isBlank, Cond.static yX6_isBlank, Cond.code yX6_isBlank cX6_isBlank 1 (some .boolean), Cond.methodLink RX6 99 yX6_isLetter, Cond.static yX6_isLetter, Cond.code yX6_isLetter cX6_isLetter 1 (some .boolean), Cond.methodLink RX6 102 yX6_isDigit, Cond.static yX6_isDigit, Cond.code yX6_isDigit cX6_isDigit 1 (some .boolean), Cond.methodLink RX6 46 yX6_readStatement, Cond.instanceMethod yX6_readStatement, Cond.selects RX6 yX6_readStatement yX6_readStatement, Cond.code yX6_readStatement cX6_readStatement 3 (some .boolean), Cond.fieldLink RX6 65 "TankChain$Custom" "near" "I", Cond.fieldLink RX6 69 "TankChain$Custom" "hold" "I", Cond.fieldLink RX6 73 "TankChain$Custom" "fair" "Z", Cond.methodLink RX6 52 yX6_isWord, Cond.instanceMethod yX6_isWord, Cond.selects RX6 yX6_isWord yX6_isWord, Cond.code yX6_isWord cX6_isWord 3 (some .boolean), Cond.methodLink RX6 83 yJ0_length_8abf5, Cond.instanceMethod yJ0_length_8abf5]
def wsL_law_r15 : List Cond := [Cond.selects RJ0 yJ0_length_8abf5 yJ0_length_8abf5, Cond.initialized RJ0, Cond.code yJ0_length_8abf5 cJ0_length_8abf5 1 (some .int), Cond.fieldLink RJ0 9 "java/lang/String" "value" "[B", Cond.methodLink RJ0 335 yJ0_coder_7d493, Cond.instanceMethod yJ0_coder_7d493, Cond.selects RJ0 yJ0_coder_7d493 yJ0_coder_7d493, Cond.code yJ0_coder_7d493 cJ0_coder_7d493 1 (some .byte), Cond.fieldLink RJ0 38 "java/lang/String" "COMPACT_STRINGS" "Z", Cond.fieldLink RJ0 15 "java/lang/String" "coder" "B", Cond.methodLink RX6 91 yJ0_charAt_5068e, Cond.instanceMethod yJ0_charAt_5068e, Cond.selects RJ0 yJ0_charAt_5068e yJ0_charAt_5068e, Cond.code yJ0_charAt_5068e cJ0_charAt_5068e 2 (some .char), Cond.methodLink RJ0 492 yJ0_isLatin1_aae02, Cond.instanceMethod yJ0_isLatin1_aae02, Cond.selects RJ0 yJ0_isLatin1_aae02 yJ0_isLatin1_aae02, Cond.code yJ0_isLatin1_aae02 cJ0_isLatin1_aae02 1 (some .boolean), Cond.methodLink RJ0 495 yJ1_charAt_3b067, Cond.static yJ1_charAt_3b067, Cond.initialized RJ1, Cond.code yJ1_charAt_3b067 cJ1_charAt_3b067 2 (some .char), Cond.methodLink RJ1 9 yJ0_checkIndex_df160, Cond.static yJ0_checkIndex_df160]
def wsL_law_r16 : List Cond := [Cond.code yJ0_checkIndex_df160 cJ0_checkIndex_df160 2 none, Cond.fieldLink RJ0 1053 "jdk/internal/util/Preconditions" "SIOOBE_FORMATTER" "Ljava/util/function/BiFunction;", Cond.methodLink RJ0 1059 yJ3_checkIndex_8e157, Cond.static yJ3_checkIndex_8e157, Cond.initialized RJ3, Cond.code yJ3_checkIndex_8e157 cJ3_checkIndex_8e157 3 (some .int), Cond.methodLink RJ0 498 yJ2_charAt_3b067, Cond.static yJ2_charAt_3b067, Cond.initialized RJ2, Cond.code yJ2_charAt_3b067 cJ2_charAt_3b067 2 (some .char), Cond.methodLink RJ2 67 yJ2_checkIndex_2214a, Cond.static yJ2_checkIndex_2214a, Cond.code yJ2_checkIndex_2214a cJ2_checkIndex_2214a 2 none, Cond.methodLink RJ2 48 yJ2_length_9d52b, Cond.static yJ2_length_9d52b, Cond.code yJ2_length_9d52b cJ2_length_9d52b 1 (some .int), Cond.methodLink RJ2 414 yJ0_checkIndex_df160, Cond.methodLink RJ2 71 yJ2_getChar_3b067, Cond.static yJ2_getChar_3b067, Cond.code yJ2_getChar_3b067 cJ2_getChar_3b067 2 (some .char), Cond.fieldLink RJ2 44 "java/lang/StringUTF16" "$assertionsDisabled" "Z", Cond.fieldLink RJ2 59 "java/lang/StringUTF16" "HI_BYTE_SHIFT" "I", Cond.fieldLink RJ2 63 "java/lang/StringUTF16" "LO_BYTE_SHIFT" "I", Cond.methodLink RX6 56 yX6_readFirst]
def wsL_law_r17 : List Cond := [Cond.instanceMethod yX6_readFirst, Cond.selects RX6 yX6_readFirst yX6_readFirst, Cond.code yX6_readFirst cX6_readFirst 2 (some .boolean), Cond.methodLink RX6 78 yX0_addFirst, Cond.instanceMethod yX0_addFirst, Cond.selects RX0 yX0_addFirst yX0_addFirst, Cond.code yX0_addFirst cX0_addFirst 2 none, Cond.methodLink RX6 61 yX6_numberHere, Cond.instanceMethod yX6_numberHere, Cond.selects RX6 yX6_numberHere yX6_numberHere, Cond.code yX6_numberHere cX6_numberHere 3 (some .int), Cond.methodLink RX7 149 yX0_becomeAs, Cond.instanceMethod yX0_becomeAs, Cond.selects RX0 yX0_becomeAs yX0_becomeAs, Cond.code yX0_becomeAs cX0_becomeAs 3 none, Cond.methodLink RX0 32 yX0_clear, Cond.methodLink RX0 35 yX0_addFirst, Cond.methodLink RX7 153 yX7_orderAnew, Cond.instanceMethod yX7_orderAnew, Cond.selects RX7 yX7_orderAnew yX7_orderAnew, Cond.code yX7_orderAnew cX7_orderAnew 4 none, Cond.fieldLink RX7 267 "TankChain$Flow" "head" "LTankChain$Tank;", Cond.fieldLink RX7 225 "TankChain$Tank" "firstField" "LTankChain$Field;", Cond.fieldLink RX7 271 "TankChain$Tank" "below" "LTankChain$Tank;"]
def wsL_law_r18 : List Cond := [Cond.fieldLink RX7 201 "TankChain$Field" "tank" "I", Cond.methodLink RX7 197 yX7_fieldAt, Cond.instanceMethod yX7_fieldAt, Cond.selects RX7 yX7_fieldAt yX7_fieldAt, Cond.code yX7_fieldAt cX7_fieldAt 2 (some (.object "TankChain$Field")), Cond.methodLink RL 58 yX8_custom_, Cond.instanceMethod yX8_custom_, Cond.selects RX8 yX8_custom_ yX8_custom_, Cond.code yX8_custom_ cX8_custom_ 5 (some .int), Cond.fieldLink RX8 156 "TankChainModel" "end" "I", Cond.fieldLink RX8 153 "TankChainModel" "place" "I", Cond.fieldLink RX8 142 "TankChainModel" "hasCustom" "Z", Cond.methodLink RX8 159 yX8_blanks, Cond.instanceMethod yX8_blanks, Cond.selects RX8 yX8_blanks yX8_blanks, Cond.code yX8_blanks cX8_blanks 1 none, Cond.methodLink RX8 192 yX8_statement, Cond.instanceMethod yX8_statement, Cond.selects RX8 yX8_statement yX8_statement, Cond.code yX8_statement cX8_statement 2 (some .boolean), Cond.constantLong RX8 172 (439855772532), Cond.constantLong RX8 178 (127978976603237), Cond.constantLong RX8 180 (495756340332), Cond.constantLong RX8 182 (1852137842)]
def wsL_law_r19 : List Cond := [Cond.fieldLink RX8 169 "TankChainModel" "number" "I", Cond.constantLong RX8 188 (1752132708), Cond.constantLong RX8 190 (1717660018), Cond.methodLink RX8 174 yX8_takes, Cond.instanceMethod yX8_takes, Cond.selects RX8 yX8_takes yX8_takes, Cond.code yX8_takes cX8_takes 3 (some .boolean), Cond.fieldLink RX8 162 "TankChainModel" "wordEnd" "I", Cond.methodLink RX8 165 yX8_word, Cond.instanceMethod yX8_word, Cond.selects RX8 yX8_word yX8_word, Cond.code yX8_word cX8_word 3 (some .long), Cond.methodLink RX8 184 yX8_takesNumber, Cond.instanceMethod yX8_takesNumber, Cond.selects RX8 yX8_takesNumber yX8_takesNumber, Cond.code yX8_takesNumber cX8_takesNumber 2 (some .boolean), Cond.methodLink RL 59 yX7_fault, Cond.instanceMethod yX7_fault, Cond.selects RX7 yX7_fault yX7_fault, Cond.code yX7_fault cX7_fault 1 (some .int), Cond.methodLink RL 63 yX8_fault, Cond.instanceMethod yX8_fault, Cond.selects RX8 yX8_fault yX8_fault, Cond.code yX8_fault cX8_fault 1 (some .int)]
def wsL_law_r20 : List Cond := [Cond.methodLink RL 64 yX7_day, Cond.instanceMethod yX7_day, Cond.selects RX7 yX7_day yX7_day, Cond.code yX7_day cX7_day 3 (some .int), Cond.fieldLink RX7 174 "TankChain$Flow" "sums" "LTankChain$Sums;", Cond.methodLink RX7 159 yX7_addSilt, Cond.instanceMethod yX7_addSilt, Cond.selects RX7 yX7_addSilt yX7_addSilt, Cond.code yX7_addSilt cX7_addSilt 2 none, Cond.methodLink RX7 162 yX2_startFromNow, Cond.instanceMethod yX2_startFromNow, Cond.selects RX2 yX2_startFromNow yX2_startFromNow, Cond.code yX2_startFromNow cX2_startFromNow 2 none, Cond.fieldLink RX2 30 "TankChain$Tank" "after" "LTankChain$Pool;", Cond.fieldLink RX2 36 "TankChain$Tank" "now" "LTankChain$Pool;", Cond.fieldLink RX2 45 "TankChain$Tank" "below" "LTankChain$Tank;", Cond.methodLink RX2 39 yX3_becomeAs, Cond.instanceMethod yX3_becomeAs, Cond.selects RX3 yX3_becomeAs yX3_becomeAs, Cond.code yX3_becomeAs cX3_becomeAs 2 none, Cond.methodLink RX7 165 yX2_passDay, Cond.instanceMethod yX2_passDay, Cond.selects RX2 yX2_passDay yX2_passDay, Cond.code yX2_passDay cX2_passDay 4 none]
def wsL_law_r21 : List Cond := [Cond.fieldLink RX2 51 "TankChain$Tank" "catches" "I", Cond.fieldLink RX2 58 "TankChain$Sums" "out" "I", Cond.methodLink RX2 48 yX4_clear, Cond.instanceMethod yX4_clear, Cond.selects RX4 yX4_clear yX4_clear, Cond.code yX4_clear cX4_clear 1 none, Cond.methodLink RX2 54 yX2_sentDown, Cond.instanceMethod yX2_sentDown, Cond.selects RX2 yX2_sentDown yX2_sentDown, Cond.code yX2_sentDown cX2_sentDown 10 (some .int), Cond.fieldLink RX2 61 "TankChain$Pool" "water" "I", Cond.fieldLink RX2 68 "TankChain$Pool" "breached" "Z", Cond.methodLink RX2 76 Lib.Math.max.name, Cond.fieldLink RX2 82 "TankChain$Tank" "bank" "I", Cond.fieldLink RX2 85 "TankChain$Pool" "taken" "I", Cond.fieldLink RX2 88 "TankChain$Pool" "spilt" "I", Cond.fieldLink RX2 91 "TankChain$Sums" "rained" "I", Cond.fieldLink RX2 94 "TankChain$Sums" "seeped" "I", Cond.fieldLink RX2 97 "TankChain$Sums" "kept" "I", Cond.methodLink RX2 64 yX2_takenByFields, Cond.instanceMethod yX2_takenByFields, Cond.selects RX2 yX2_takenByFields yX2_takenByFields, Cond.code yX2_takenByFields cX2_takenByFields 9 (some .int), Cond.fieldLink RX2 100 "TankChain$Tank" "size" "I"]
def wsL_law_r22 : List Cond := [Cond.fieldLink RX2 103 "TankChain$Custom" "hold" "I", Cond.fieldLink RX2 108 "TankChain$Pool" "opening" "I", Cond.methodLink RX2 111 Lib.Math.min.name, Cond.fieldLink RX2 118 "TankChain$Custom" "near" "I", Cond.fieldLink RX2 124 "TankChain$Custom" "fair" "Z", Cond.fieldLink RX2 135 "TankChain$Tank" "firstField" "LTankChain$Field;", Cond.fieldLink RX2 139 "TankChain$Field" "share" "I", Cond.fieldLink RX2 148 "TankChain$Field" "area" "I", Cond.fieldLink RX2 151 "TankChain$Field" "next" "LTankChain$Field;", Cond.methodLink RX2 114 yX5_isBadYearWith, Cond.instanceMethod yX5_isBadYearWith, Cond.selects RX5 yX5_isBadYearWith yX5_isBadYearWith, Cond.code yX5_isBadYearWith cX5_isBadYearWith 2 (some .boolean), Cond.methodLink RX2 121 yX2_areasWithin, Cond.static yX2_areasWithin, Cond.code yX2_areasWithin cX2_areasWithin 4 (some .int), Cond.fieldLink RX2 154 "TankChain$Field" "far" "I", Cond.methodLink RX2 127 yX2_shareFairly, Cond.static yX2_shareFairly, Cond.code yX2_shareFairly cX2_shareFairly 7 none, Cond.fieldLink RX2 157 "TankChain$Field" "remainder" "I", Cond.methodLink RX2 160 yX2_giveOneMore, Cond.static yX2_giveOneMore, Cond.code yX2_giveOneMore cX2_giveOneMore 4 none]
def wsL_law_r23 : List Cond := [Cond.methodLink RX2 131 yX2_shareInOrder, Cond.static yX2_shareInOrder, Cond.code yX2_shareInOrder cX2_shareInOrder 5 none, Cond.methodLink RX2 144 yX1_isFed, Cond.instanceMethod yX1_isFed, Cond.selects RX1 yX1_isFed yX1_isFed, Cond.code yX1_isFed cX1_isFed 1 (some .boolean), Cond.methodLink RX2 72 yX5_roomIf, Cond.methodLink RX7 168 yX7_keepTanks, Cond.instanceMethod yX7_keepTanks, Cond.selects RX7 yX7_keepTanks yX7_keepTanks, Cond.code yX7_keepTanks cX7_keepTanks 4 none, Cond.fieldLink RX7 274 "TankChain$Tank" "after" "LTankChain$Pool;", Cond.fieldLink RX7 190 "TankChain$Tank" "breachedOn" "I", Cond.fieldLink RX7 277 "TankChain$Tank" "number" "I", Cond.methodLink RX7 278 yX3_becomeAs, Cond.methodLink RX7 171 yX7_keepFields, Cond.instanceMethod yX7_keepFields, Cond.selects RX7 yX7_keepFields yX7_keepFields, Cond.code yX7_keepFields cX7_keepFields 3 none, Cond.methodLink RX7 281 yX1_keepShare, Cond.instanceMethod yX1_keepShare, Cond.selects RX1 yX1_keepShare yX1_keepShare, Cond.code yX1_keepShare cX1_keepShare 1 none]
def wsL_law_r24 : List Cond := [Cond.methodLink RX1 48 yX1_isFed, Cond.methodLink RX7 177 yX4_addAll, Cond.instanceMethod yX4_addAll, Cond.selects RX4 yX4_addAll yX4_addAll, Cond.code yX4_addAll cX4_addAll 2 none, Cond.methodLink RL 67 yX8_day, Cond.instanceMethod yX8_day, Cond.selects RX8 yX8_day yX8_day, Cond.code yX8_day cX8_day 3 (some .int), Cond.fieldLink RX8 229 "TankChainModel" "rain" "I", Cond.methodLink RX8 232 yX8_flows, Cond.instanceMethod yX8_flows, Cond.selects RX8 yX8_flows yX8_flows, Cond.code yX8_flows cX8_flows 16 (some .int), Cond.fieldLink RX8 217 "TankChainModel" "seeped" "I", Cond.fieldLink RX8 220 "TankChainModel" "kept" "I", Cond.fieldLink RX8 223 "TankChainModel" "rained" "I", Cond.fieldLink RX8 226 "TankChainModel" "out" "I", Cond.methodLink RX8 213 yX8_gives, Cond.instanceMethod yX8_gives, Cond.selects RX8 yX8_gives yX8_gives, Cond.code yX8_gives cX8_gives 11 (some .int), Cond.methodLink RX8 195 yX8_custom, Cond.instanceMethod yX8_custom]
def wsL_law_r25 : List Cond := [Cond.selects RX8 yX8_custom yX8_custom, Cond.code yX8_custom cX8_custom 3 (some .int), Cond.methodLink RX8 206 yX8_ordered, Cond.instanceMethod yX8_ordered, Cond.selects RX8 yX8_ordered yX8_ordered, Cond.code yX8_ordered cX8_ordered 5 (some .int), Cond.methodLink RX8 202 yX8_isAhead, Cond.instanceMethod yX8_isAhead, Cond.selects RX8 yX8_isAhead yX8_isAhead, Cond.code yX8_isAhead cX8_isAhead 5 (some .boolean), Cond.methodLink RX8 198 yX8_one, Cond.static yX8_one, Cond.code yX8_one cX8_one 1 (some .int), Cond.methodLink RX8 210 yX8_isBad, Cond.instanceMethod yX8_isBad, Cond.selects RX8 yX8_isBad yX8_isBad, Cond.code yX8_isBad cX8_isBad 3 (some .boolean), Cond.methodLink RL 68 yX7_told, Cond.instanceMethod yX7_told, Cond.selects RX7 yX7_told yX7_told, Cond.code yX7_told cX7_told 4 (some .int), Cond.fieldLink RX7 184 "TankChain$Pool" "taken" "I", Cond.fieldLink RX7 187 "TankChain$Pool" "spilt" "I", Cond.methodLink RX7 181 yX7_asNumber]
def wsL_law_r26 : List Cond := [Cond.static yX7_asNumber, Cond.code yX7_asNumber cX7_asNumber 1 (some .int), Cond.methodLink RX7 193 yX5_isBadYearWith, Cond.methodLink RL 71 yX8_told, Cond.instanceMethod yX8_told, Cond.selects RX8 yX8_told yX8_told, Cond.code yX8_told cX8_told 3 (some .int), Cond.methodLink RL 72 yX7_fieldOf, Cond.instanceMethod yX7_fieldOf, Cond.selects RX7 yX7_fieldOf yX7_fieldOf, Cond.code yX7_fieldOf cX7_fieldOf 4 (some .int), Cond.fieldLink RX7 204 "TankChain$Field" "far" "I", Cond.fieldLink RX7 207 "TankChain$Field" "area" "I", Cond.fieldLink RX7 210 "TankChain$Field" "owner" "I", Cond.fieldLink RX7 213 "TankChain$Field" "temple" "Z", Cond.fieldLink RX7 216 "TankChain$Field" "daysFed" "I", Cond.fieldLink RX7 219 "TankChain$Field" "gotEver" "I", Cond.fieldLink RX7 222 "TankChain$Field" "gotLately" "I", Cond.methodLink RL 75 yX8_fieldOf, Cond.instanceMethod yX8_fieldOf, Cond.selects RX8 yX8_fieldOf yX8_fieldOf, Cond.code yX8_fieldOf cX8_fieldOf 3 (some .int), Cond.methodLink RL 76 yX7_order, Cond.instanceMethod yX7_order]
def wsL_law_r27 : List Cond := [Cond.selects RX7 yX7_order yX7_order, Cond.code yX7_order cX7_order 6 (some .int), Cond.fieldLink RX7 229 "TankChain$Field" "number" "I", Cond.fieldLink RX7 232 "TankChain$Field" "next" "LTankChain$Field;", Cond.methodLink RL 79 yX8_order, Cond.instanceMethod yX8_order, Cond.selects RX8 yX8_order yX8_order, Cond.code yX8_order cX8_order 4 (some .int), Cond.methodLink RL 80 yX7_owner, Cond.instanceMethod yX7_owner, Cond.selects RX7 yX7_owner yX7_owner, Cond.code yX7_owner cX7_owner 5 (some .int), Cond.methodLink RL 83 yX8_owner, Cond.instanceMethod yX8_owner, Cond.selects RX8 yX8_owner yX8_owner, Cond.code yX8_owner cX8_owner 2 (some .int), Cond.methodLink RL 84 yX7_tried, Cond.instanceMethod yX7_tried, Cond.selects RX7 yX7_tried yX7_tried, Cond.code yX7_tried cX7_tried 5 (some .int), Cond.methodLink RX7 235 yX7_mayTry, Cond.static yX7_mayTry, Cond.code yX7_mayTry cX7_mayTry 2 (some .boolean), Cond.methodLink RX7 239 yX7_waterTried]
def wsL_law_r28 : List Cond := [Cond.instanceMethod yX7_waterTried, Cond.selects RX7 yX7_waterTried yX7_waterTried, Cond.code yX7_waterTried cX7_waterTried 6 (some .int), Cond.methodLink RL 88 yX8_tried, Cond.instanceMethod yX8_tried, Cond.selects RX8 yX8_tried yX8_tried, Cond.code yX8_tried cX8_tried 4 (some .int), Cond.methodLink RX8 236 yX8_isTrial, Cond.static yX8_isTrial, Cond.code yX8_isTrial cX8_isTrial 2 (some .boolean), Cond.methodLink RX8 239 yX8_openings, Cond.instanceMethod yX8_openings, Cond.selects RX8 yX8_openings yX8_openings, Cond.code yX8_openings cX8_openings 2 none, Cond.methodLink RX8 242 yX8_tries, Cond.instanceMethod yX8_tries, Cond.selects RX8 yX8_tries yX8_tries, Cond.code yX8_tries cX8_tries 5 (some .int), Cond.methodLink RL 89 yX7_lost, Cond.instanceMethod yX7_lost, Cond.selects RX7 yX7_lost yX7_lost, Cond.code yX7_lost cX7_lost 7 (some .int), Cond.constant RX7 243 (-100000), Cond.methodLink RL 93 yX8_lost]
def wsL_law_r29 : List Cond := [Cond.instanceMethod yX8_lost, Cond.selects RX8 yX8_lost yX8_lost, Cond.code yX8_lost cX8_lost 6 (some .int), Cond.constant RX8 245 (-100000), Cond.methodLink RL 94 yX7_most, Cond.instanceMethod yX7_most, Cond.selects RX7 yX7_most yX7_most, Cond.code yX7_most cX7_most 12 (some .int), Cond.methodLink RX7 244 yX7_areasFedBy, Cond.instanceMethod yX7_areasFedBy, Cond.selects RX7 yX7_areasFedBy yX7_areasFedBy, Cond.code yX7_areasFedBy cX7_areasFedBy 8 (some .int), Cond.fieldLink RX7 284 "TankChain$Flow" "areasFed" "I", Cond.methodLink RX7 248 yX7_openingIn, Cond.static yX7_openingIn, Cond.code yX7_openingIn cX7_openingIn 4 (some .int), Cond.methodLink RL 97 yX8_most, Cond.instanceMethod yX8_most, Cond.selects RX8 yX8_most yX8_most, Cond.code yX8_most cX8_most 12 (some .int), Cond.methodLink RL 98 yX7_breach, Cond.instanceMethod yX7_breach, Cond.selects RX7 yX7_breach yX7_breach, Cond.code yX7_breach cX7_breach 2 (some .int)]
def wsL_law_r30 : List Cond := [Cond.methodLink RL 101 yX8_breach, Cond.instanceMethod yX8_breach, Cond.selects RX8 yX8_breach yX8_breach, Cond.code yX8_breach cX8_breach 2 (some .int), Cond.methodLink RL 102 yX7_count, Cond.instanceMethod yX7_count, Cond.selects RX7 yX7_count yX7_count, Cond.code yX7_count cX7_count 2 (some .int), Cond.fieldLink RX7 255 "TankChain$Sums" "out" "I", Cond.fieldLink RX7 258 "TankChain$Sums" "seeped" "I", Cond.fieldLink RX7 261 "TankChain$Sums" "kept" "I", Cond.fieldLink RX7 264 "TankChain$Sums" "rained" "I", Cond.methodLink RX7 251 yX7_allWater, Cond.instanceMethod yX7_allWater, Cond.selects RX7 yX7_allWater yX7_allWater, Cond.code yX7_allWater cX7_allWater 3 (some .int), Cond.methodLink RL 105 yX8_count, Cond.instanceMethod yX8_count, Cond.selects RX8 yX8_count yX8_count, Cond.code yX8_count cX8_count 4 (some .int)]
def wsL_law : List Cond := (wsL_law_r1 ++ (wsL_law_r2 ++ (wsL_law_r3 ++ (wsL_law_r4 ++ (wsL_law_r5 ++ (wsL_law_r6 ++ (wsL_law_r7 ++ (wsL_law_r8 ++ (wsL_law_r9 ++ (wsL_law_r10 ++ (wsL_law_r11 ++ (wsL_law_r12 ++ (wsL_law_r13 ++ (wsL_law_r14 ++ (wsL_law_r15 ++ (wsL_law_r16 ++ (wsL_law_r17 ++ (wsL_law_r18 ++ (wsL_law_r19 ++ (wsL_law_r20 ++ (wsL_law_r21 ++ (wsL_law_r22 ++ (wsL_law_r23 ++ (wsL_law_r24 ++ (wsL_law_r25 ++ (wsL_law_r26 ++ (wsL_law_r27 ++ (wsL_law_r28 ++ (wsL_law_r29 ++ wsL_law_r30))))))))))))))))))))))))))))) ++ wsX70 ++ wsX80 ++ wsX60 ++ wsX00 ++ wsX40 ++ wsX50 ++ wsX20 ++ wsX30 ++ wsX10 ++ ([] : List Cond)
set_option maxRecDepth 20000 in
theorem inlX0 : ∀ w ∈ wsX00, w ∈ wsL_law := fun _ h => List.mem_append_left _ (List.mem_append_left _ (List.mem_append_left _ (List.mem_append_left _ (List.mem_append_left _ (List.mem_append_left _ (List.mem_append_right _ h))))))
theorem inlX1 : ∀ w ∈ wsX10, w ∈ wsL_law := fun _ h => List.mem_append_left _ (List.mem_append_right _ h)
theorem inlX2 : ∀ w ∈ wsX20, w ∈ wsL_law := fun _ h => List.mem_append_left _ (List.mem_append_left _ (List.mem_append_left _ (List.mem_append_right _ h)))
theorem inlX3 : ∀ w ∈ wsX30, w ∈ wsL_law := fun _ h => List.mem_append_left _ (List.mem_append_left _ (List.mem_append_right _ h))
theorem inlX4 : ∀ w ∈ wsX40, w ∈ wsL_law := fun _ h => List.mem_append_left _ (List.mem_append_left _ (List.mem_append_left _ (List.mem_append_left _ (List.mem_append_left _ (List.mem_append_right _ h)))))
theorem inlX5 : ∀ w ∈ wsX50, w ∈ wsL_law := fun _ h => List.mem_append_left _ (List.mem_append_left _ (List.mem_append_left _ (List.mem_append_left _ (List.mem_append_right _ h))))
theorem inlX6 : ∀ w ∈ wsX60, w ∈ wsL_law := fun _ h => List.mem_append_left _ (List.mem_append_left _ (List.mem_append_left _ (List.mem_append_left _ (List.mem_append_left _ (List.mem_append_left _ (List.mem_append_left _ (List.mem_append_right _ h)))))))
theorem inlX7 : ∀ w ∈ wsX70, w ∈ wsL_law := fun _ h => List.mem_append_left _ (List.mem_append_left _ (List.mem_append_left _ (List.mem_append_left _ (List.mem_append_left _ (List.mem_append_left _ (List.mem_append_left _ (List.mem_append_left _ (List.mem_append_left _ (List.mem_append_right _ h)))))))))
theorem inlX8 : ∀ w ∈ wsX80, w ∈ wsL_law := fun _ h => List.mem_append_left _ (List.mem_append_left _ (List.mem_append_left _ (List.mem_append_left _ (List.mem_append_left _ (List.mem_append_left _ (List.mem_append_left _ (List.mem_append_left _ (List.mem_append_right _ h))))))))
theorem inJ9 : ∀ w ∈ wsJ90, w ∈ lw_tbl := by decide +kernel
theorem inJ0 : ∀ w ∈ wsJ00, w ∈ lw_tbl := by decide +kernel
theorem inJ1 : ∀ w ∈ wsJ10, w ∈ lw_tbl := by decide +kernel
theorem inJ2 : ∀ w ∈ wsJ20, w ∈ lw_tbl := by decide +kernel
theorem inJ3 : ∀ w ∈ wsJ30, w ∈ lw_tbl := by decide +kernel
abbrev vwCl : List vw_C := [(RX0, TX0, 6), (RX1, TX1, 12), (RX2, TX2, 4), (RX3, TX3, 5), (RX4, TX4, 4), (RX5, TX5, 10), (RX6, TX6, 6), (RX7, TX7, 15), (RX8, TX8, 47)]
