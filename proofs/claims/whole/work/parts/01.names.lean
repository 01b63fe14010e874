/-! ===== BEGIN words of one list among another's, by their places ===== -/
theorem goodIn_r {big : List Cond} (ws : List Cond) (ps : List Nat) (hp : ws = ps.filterMap (fun i => big[i]?)) (h : ws.all goodWord = true) : GoodIn big ws := by
  intro w hw
  have h1 := List.all_eq_true.mp h w hw
  rw [hp] at hw
  obtain ⟨i, -, hi⟩ := List.mem_filterMap.mp hw
  have hm : w ∈ big := by first | exact List.mem_of_getElem? hi | exact List.getElem?_mem hi
  exact ⟨hm, good_of_word h1⟩
theorem goodIn_app {big a b : List Cond} (ha : GoodIn big a) (hb : GoodIn big b) : GoodIn big (a ++ b) := fun w h => (List.mem_append.mp h).elim (ha w) (hb w)
theorem goodIn_ca {big a b : List Cond} {c : Cond} (ha : GoodIn big (c :: a)) (hb : GoodIn big b) : GoodIn big (c :: (a ++ b)) := fun w h => (List.mem_cons.mp h).elim (fun e => ha w (List.mem_cons.mpr (Or.inl e))) (fun h => (List.mem_append.mp h).elim (fun h => ha w (List.mem_cons.mpr (Or.inr h))) (hb w))
theorem goodIn_sub {big ws : List Cond} (hm : ∀ w ∈ ws, w ∈ big) (h : ws.all goodWord = true) : GoodIn big ws := fun w hw => ⟨hm w hw, good_of_word (List.all_eq_true.mp h w hw)⟩
/-! ===== END ===== -/

/-! ===== BEGIN printed: names, fields, word lists, decode rows ===== -/
def RX0 : String := "BuildingClub$Call"
def TX0 : u_T := fun k => match k with
  | 0 => ("BuildingClub$Call", "kind", "I", true)
  | 1 => ("BuildingClub$Call", "first", "I", true)
  | 2 => ("BuildingClub$Call", "second", "I", true)
  | _ => ("BuildingClub$Call", "rules", "LBuildingClub$Rules;", true)
def tyX0 : Nat → FieldType := fun k => match k with
  | 0 => .int
  | 1 => .int
  | 2 => .int
  | _ => .object "BuildingClub$Rules"
abbrev wsX00 : List Cond := u_ws RX0 TX0 4
theorem nmX0 : ∀ a, a < 4 → ∀ b, b < 4 → a ≠ b → (TX0 a).2.1 ≠ (TX0 b).2.1 := by decide +kernel
theorem tyX0_ok : ∀ k, k < 4 → parseFieldDescriptor (TX0 k).2.2.1 = some (tyX0 k) := by decide +kernel
abbrev cX0_init : ByteArray := prog_2_method_1_code
def yX0_init : MethodName := ⟨RX0, "<init>", "(IIILBuildingClub$Rules;)V"⟩
abbrev cX0_isVote : ByteArray := prog_2_method_2_code
def yX0_isVote : MethodName := ⟨RX0, "isVote", "(I)Z"⟩
def RX1 : String := "BuildingClub$History"
def TX1 : u_T := fun k => match k with
  | 0 => ("BuildingClub$History", "calls", "[LBuildingClub$Call;", true)
  | 1 => ("BuildingClub$History", "size", "I", false)
  | _ => ("BuildingClub$History", "votes", "I", false)
def tyX1 : Nat → FieldType := fun k => match k with
  | 0 => .array (.object "BuildingClub$Call")
  | 1 => .int
  | _ => .int
abbrev wsX10 : List Cond := u_ws RX1 TX1 3
theorem nmX1 : ∀ a, a < 3 → ∀ b, b < 3 → a ≠ b → (TX1 a).2.1 ≠ (TX1 b).2.1 := by decide +kernel
theorem tyX1_ok : ∀ k, k < 3 → parseFieldDescriptor (TX1 k).2.2.1 = some (tyX1 k) := by decide +kernel
abbrev cX1_init : ByteArray := prog_3_method_1_code
def yX1_init : MethodName := ⟨RX1, "<init>", "()V"⟩
abbrev cX1_isFull : ByteArray := prog_3_method_2_code
def yX1_isFull : MethodName := ⟨RX1, "isFull", "()Z"⟩
abbrev cX1_keep : ByteArray := prog_3_method_3_code
def yX1_keep : MethodName := ⟨RX1, "keep", "(LBuildingClub$Call;)V"⟩
def RX2 : String := "BuildingClub$House"
def TX2 : u_T := fun k => match k with
  | 0 => ("BuildingClub$House", "stages", "I", false)
  | 1 => ("BuildingClub$House", "stagesPaid", "I", false)
  | 2 => ("BuildingClub$House", "stagePrice", "I", false)
  | 3 => ("BuildingClub$House", "held", "I", false)
  | 4 => ("BuildingClub$House", "lacks", "I", false)
  | 5 => ("BuildingClub$House", "drawWeek", "I", false)
  | _ => ("BuildingClub$House", "isSeen", "Z", false)
def tyX2 : Nat → FieldType := fun k => match k with
  | 0 => .int
  | 1 => .int
  | 2 => .int
  | 3 => .int
  | 4 => .int
  | 5 => .int
  | _ => .boolean
abbrev wsX20 : List Cond := u_ws RX2 TX2 7
theorem nmX2 : ∀ a, a < 7 → ∀ b, b < 7 → a ≠ b → (TX2 a).2.1 ≠ (TX2 b).2.1 := by decide +kernel
theorem tyX2_ok : ∀ k, k < 7 → parseFieldDescriptor (TX2 k).2.2.1 = some (tyX2 k) := by decide +kernel
abbrev cX2_init : ByteArray := prog_4_method_1_code
def yX2_init : MethodName := ⟨RX2, "<init>", "()V"⟩
abbrev cX2_clear : ByteArray := prog_4_method_2_code
def yX2_clear : MethodName := ⟨RX2, "clear", "()V"⟩
abbrev cX2_copyFrom : ByteArray := prog_4_method_3_code
def yX2_copyFrom : MethodName := ⟨RX2, "copyFrom", "(LBuildingClub$House;)V"⟩
abbrev cX2_begin : ByteArray := prog_4_method_4_code
def yX2_begin : MethodName := ⟨RX2, "begin", "(III)V"⟩
abbrev cX2_canBeSeen : ByteArray := prog_4_method_5_code
def yX2_canBeSeen : MethodName := ⟨RX2, "canBeSeen", "()Z"⟩
abbrev cX2_canFail : ByteArray := prog_4_method_6_code
def yX2_canFail : MethodName := ⟨RX2, "canFail", "()Z"⟩
abbrev cX2_payStage : ByteArray := prog_4_method_7_code
def yX2_payStage : MethodName := ⟨RX2, "payStage", "()I"⟩
abbrev cX2_loseStage : ByteArray := prog_4_method_8_code
def yX2_loseStage : MethodName := ⟨RX2, "loseStage", "()V"⟩
abbrev cX2_fillLack : ByteArray := prog_4_method_9_code
def yX2_fillLack : MethodName := ⟨RX2, "fillLack", "(J)I"⟩
def RX3 : String := "BuildingClub$Ledger"
def TX3 : u_T := fun k => match k with
  | 0 => ("BuildingClub$Ledger", "members", "[LBuildingClub$Member;", true)
  | 1 => ("BuildingClub$Ledger", "leavers", "[I", true)
  | 2 => ("BuildingClub$Ledger", "first", "LBuildingClub$Rules;", true)
  | 3 => ("BuildingClub$Ledger", "size", "I", false)
  | 4 => ("BuildingClub$Ledger", "leaverCount", "I", false)
  | 5 => ("BuildingClub$Ledger", "week", "I", false)
  | 6 => ("BuildingClub$Ledger", "lot", "I", false)
  | 7 => ("BuildingClub$Ledger", "drawn", "I", false)
  | 8 => ("BuildingClub$Ledger", "cash", "J", false)
  | 9 => ("BuildingClub$Ledger", "toBuilder", "J", false)
  | 10 => ("BuildingClub$Ledger", "toLeavers", "J", false)
  | 11 => ("BuildingClub$Ledger", "fines", "J", false)
  | 12 => ("BuildingClub$Ledger", "paidIn", "J", false)
  | 13 => ("BuildingClub$Ledger", "inForce", "LBuildingClub$Rules;", false)
  | _ => ("BuildingClub$Ledger", "next", "LBuildingClub$Rules;", false)
def tyX3 : Nat → FieldType := fun k => match k with
  | 0 => .array (.object "BuildingClub$Member")
  | 1 => .array .int
  | 2 => .object "BuildingClub$Rules"
  | 3 => .int
  | 4 => .int
  | 5 => .int
  | 6 => .int
  | 7 => .int
  | 8 => .long
  | 9 => .long
  | 10 => .long
  | 11 => .long
  | 12 => .long
  | 13 => .object "BuildingClub$Rules"
  | _ => .object "BuildingClub$Rules"
abbrev wsX30 : List Cond := u_ws RX3 TX3 15
theorem nmX3 : ∀ a, a < 15 → ∀ b, b < 15 → a ≠ b → (TX3 a).2.1 ≠ (TX3 b).2.1 := by decide +kernel
theorem tyX3_ok : ∀ k, k < 15 → parseFieldDescriptor (TX3 k).2.2.1 = some (tyX3 k) := by decide +kernel
abbrev cX3_init : ByteArray := prog_5_method_1_code
def yX3_init : MethodName := ⟨RX3, "<init>", "()V"⟩
abbrev cX3_clear : ByteArray := prog_5_method_2_code
def yX3_clear : MethodName := ⟨RX3, "clear", "()V"⟩
abbrev cX3_copyFrom : ByteArray := prog_5_method_3_code
def yX3_copyFrom : MethodName := ⟨RX3, "copyFrom", "(LBuildingClub$Ledger;)V"⟩
abbrev cX3_enter : ByteArray := prog_5_method_4_code
def yX3_enter : MethodName := ⟨RX3, "enter", "(IIILBuildingClub$Rules;)Z"⟩
abbrev cX3_isMember : ByteArray := prog_5_method_5_code
def yX3_isMember : MethodName := ⟨RX3, "isMember", "(I)Z"⟩
abbrev cX3_isMemberIn : ByteArray := prog_5_method_6_code
def yX3_isMemberIn : MethodName := ⟨RX3, "isMemberIn", "(I)Z"⟩
abbrev cX3_areAllIn : ByteArray := prog_5_method_7_code
def yX3_areAllIn : MethodName := ⟨RX3, "areAllIn", "(I)Z"⟩
abbrev cX3_isCarriedBy : ByteArray := prog_5_method_8_code
def yX3_isCarriedBy : MethodName := ⟨RX3, "isCarriedBy", "(I)Z"⟩
abbrev cX3_areAllHoused : ByteArray := prog_5_method_9_code
def yX3_areAllHoused : MethodName := ⟨RX3, "areAllHoused", "()Z"⟩
abbrev cX3_membersIn : ByteArray := prog_5_method_10_code
def yX3_membersIn : MethodName := ⟨RX3, "membersIn", "()I"⟩
abbrev cX3_housesDone : ByteArray := prog_5_method_11_code
def yX3_housesDone : MethodName := ⟨RX3, "housesDone", "()I"⟩
abbrev cX3_together : ByteArray := prog_5_method_12_code
def yX3_together : MethodName := ⟨RX3, "together", "(I)J"⟩
abbrev cX3_grantPlenty : ByteArray := prog_5_method_13_code
def yX3_grantPlenty : MethodName := ⟨RX3, "grantPlenty", "()V"⟩
abbrev cX3_skipWeeksOfSaving : ByteArray := prog_5_method_14_code
def yX3_skipWeeksOfSaving : MethodName := ⟨RX3, "skipWeeksOfSaving", "(I)V"⟩
abbrev cX3_passWeeks : ByteArray := prog_5_method_15_code
def yX3_passWeeks : MethodName := ⟨RX3, "passWeeks", "(I)Z"⟩
abbrev cX3_enrol : ByteArray := prog_5_method_16_code
def yX3_enrol : MethodName := ⟨RX3, "enrol", "(I)Z"⟩
abbrev cX3_carry : ByteArray := prog_5_method_17_code
def yX3_carry : MethodName := ⟨RX3, "carry", "(ILBuildingClub$Rules;)Z"⟩
abbrev cX3_payIn : ByteArray := prog_5_method_18_code
def yX3_payIn : MethodName := ⟨RX3, "payIn", "(II)Z"⟩
abbrev cX3_tellLot : ByteArray := prog_5_method_19_code
def yX3_tellLot : MethodName := ⟨RX3, "tellLot", "(I)Z"⟩
abbrev cX3_takeBid : ByteArray := prog_5_method_20_code
def yX3_takeBid : MethodName := ⟨RX3, "takeBid", "(II)Z"⟩
abbrev cX3_markSeen : ByteArray := prog_5_method_21_code
def yX3_markSeen : MethodName := ⟨RX3, "markSeen", "(I)Z"⟩
abbrev cX3_letGo : ByteArray := prog_5_method_22_code
def yX3_letGo : MethodName := ⟨RX3, "letGo", "(I)Z"⟩
abbrev cX3_letBuilderFail : ByteArray := prog_5_method_23_code
def yX3_letBuilderFail : MethodName := ⟨RX3, "letBuilderFail", "(I)Z"⟩
abbrev cX3_takeDues : ByteArray := prog_5_method_24_code
def yX3_takeDues : MethodName := ⟨RX3, "takeDues", "()V"⟩
abbrev cX3_payLeavers : ByteArray := prog_5_method_25_code
def yX3_payLeavers : MethodName := ⟨RX3, "payLeavers", "()V"⟩
abbrev cX3_payStages : ByteArray := prog_5_method_26_code
def yX3_payStages : MethodName := ⟨RX3, "payStages", "()V"⟩
abbrev cX3_holdDraw : ByteArray := prog_5_method_27_code
def yX3_holdDraw : MethodName := ⟨RX3, "holdDraw", "()V"⟩
abbrev cX3_greatestBidder : ByteArray := prog_5_method_28_code
def yX3_greatestBidder : MethodName := ⟨RX3, "greatestBidder", "(I)I"⟩
abbrev cX3_holderOfLot : ByteArray := prog_5_method_29_code
def yX3_holderOfLot : MethodName := ⟨RX3, "holderOfLot", "()I"⟩
abbrev cX3_shareOut : ByteArray := prog_5_method_30_code
def yX3_shareOut : MethodName := ⟨RX3, "shareOut", "(I)V"⟩
abbrev cX3_fillLacks : ByteArray := prog_5_method_31_code
def yX3_fillLacks : MethodName := ⟨RX3, "fillLacks", "()V"⟩
def RX4 : String := "BuildingClub$Member"
def TX4 : u_T := fun k => match k with
  | 0 => ("BuildingClub$Member", "house", "LBuildingClub$House;", true)
  | 1 => ("BuildingClub$Member", "shares", "I", false)
  | 2 => ("BuildingClub$Member", "isIn", "Z", false)
  | 3 => ("BuildingClub$Member", "credit", "I", false)
  | 4 => ("BuildingClub$Member", "arrears", "I", false)
  | 5 => ("BuildingClub$Member", "paid", "I", false)
  | 6 => ("BuildingClub$Member", "bid", "I", false)
  | 7 => ("BuildingClub$Member", "due", "I", false)
  | 8 => ("BuildingClub$Member", "dueWeek", "I", false)
  | _ => ("BuildingClub$Member", "got", "I", false)
def tyX4 : Nat → FieldType := fun k => match k with
  | 0 => .object "BuildingClub$House"
  | 1 => .int
  | 2 => .boolean
  | 3 => .int
  | 4 => .int
  | 5 => .int
  | 6 => .int
  | 7 => .int
  | 8 => .int
  | _ => .int
abbrev wsX40 : List Cond := u_ws RX4 TX4 10
theorem nmX4 : ∀ a, a < 10 → ∀ b, b < 10 → a ≠ b → (TX4 a).2.1 ≠ (TX4 b).2.1 := by decide +kernel
theorem tyX4_ok : ∀ k, k < 10 → parseFieldDescriptor (TX4 k).2.2.1 = some (tyX4 k) := by decide +kernel
abbrev cX4_init : ByteArray := prog_6_method_1_code
def yX4_init : MethodName := ⟨RX4, "<init>", "()V"⟩
abbrev cX4_join : ByteArray := prog_6_method_2_code
def yX4_join : MethodName := ⟨RX4, "join", "(I)V"⟩
abbrev cX4_copyFrom : ByteArray := prog_6_method_3_code
def yX4_copyFrom : MethodName := ⟨RX4, "copyFrom", "(LBuildingClub$Member;)V"⟩
abbrev cX4_hasHouse : ByteArray := prog_6_method_4_code
def yX4_hasHouse : MethodName := ⟨RX4, "hasHouse", "()Z"⟩
abbrev cX4_mayDraw : ByteArray := prog_6_method_5_code
def yX4_mayDraw : MethodName := ⟨RX4, "mayDraw", "()Z"⟩
abbrev cX4_owes : ByteArray := prog_6_method_6_code
def yX4_owes : MethodName := ⟨RX4, "owes", "(LBuildingClub$Rules;)I"⟩
abbrev cX4_tell : ByteArray := prog_6_method_7_code
def yX4_tell : MethodName := ⟨RX4, "tell", "(I)I"⟩
def RX5 : String := "BuildingClub$Outlook"
def TX5 : u_T := fun k => match k with
  | _ => ("BuildingClub$Outlook", "trial", "LBuildingClub$Ledger;", true)
def tyX5 : Nat → FieldType := fun k => match k with
  | _ => .object "BuildingClub$Ledger"
abbrev wsX50 : List Cond := u_ws RX5 TX5 1
theorem nmX5 : ∀ a, a < 1 → ∀ b, b < 1 → a ≠ b → (TX5 a).2.1 ≠ (TX5 b).2.1 := by decide +kernel
theorem tyX5_ok : ∀ k, k < 1 → parseFieldDescriptor (TX5 k).2.2.1 = some (tyX5 k) := by decide +kernel
abbrev cX5_init : ByteArray := prog_7_method_1_code
def yX5_init : MethodName := ⟨RX5, "<init>", "()V"⟩
abbrev cX5_weekOfLastDraw : ByteArray := prog_7_method_2_code
def yX5_weekOfLastDraw : MethodName := ⟨RX5, "weekOfLastDraw", "(LBuildingClub$Ledger;)I"⟩
def RX6 : String := "BuildingClub$Replay"
def TX6 : u_T := fun k => match k with
  | 0 => ("BuildingClub$Replay", "other", "LBuildingClub$Ledger;", true)
  | 1 => ("BuildingClub$Replay", "leftOut", "I", false)
  | _ => ("BuildingClub$Replay", "replayed", "I", false)
def tyX6 : Nat → FieldType := fun k => match k with
  | 0 => .object "BuildingClub$Ledger"
  | 1 => .int
  | _ => .int
abbrev wsX60 : List Cond := u_ws RX6 TX6 3
theorem nmX6 : ∀ a, a < 3 → ∀ b, b < 3 → a ≠ b → (TX6 a).2.1 ≠ (TX6 b).2.1 := by decide +kernel
theorem tyX6_ok : ∀ k, k < 3 → parseFieldDescriptor (TX6 k).2.2.1 = some (tyX6 k) := by decide +kernel
abbrev cX6_init : ByteArray := prog_8_method_1_code
def yX6_init : MethodName := ⟨RX6, "<init>", "()V"⟩
abbrev cX6_without : ByteArray := prog_8_method_2_code
def yX6_without : MethodName := ⟨RX6, "without", "(ILBuildingClub$History;)LBuildingClub$Ledger;"⟩
def RX7 : String := "BuildingClub$Rules"
def TX7 : u_T := fun k => match k with
  | _ => ("BuildingClub$Rules", "number", "[I", true)
def tyX7 : Nat → FieldType := fun k => match k with
  | _ => .array .int
abbrev wsX70 : List Cond := u_ws RX7 TX7 1
theorem nmX7 : ∀ a, a < 1 → ∀ b, b < 1 → a ≠ b → (TX7 a).2.1 ≠ (TX7 b).2.1 := by decide +kernel
theorem tyX7_ok : ∀ k, k < 1 → parseFieldDescriptor (TX7 k).2.2.1 = some (tyX7 k) := by decide +kernel
abbrev cX7_init : ByteArray := prog_9_method_1_code
def yX7_init : MethodName := ⟨RX7, "<init>", "([I)V"⟩
abbrev cX7_placeOf : ByteArray := prog_9_method_2_code
def yX7_placeOf : MethodName := ⟨RX7, "placeOf", "(I)I"⟩
def RX8 : String := "BuildingClub$Tape"
def TX8 : u_T := fun k => match k with
  | 0 => ("BuildingClub$Tape", "bytes", "[I", true)
  | _ => ("BuildingClub$Tape", "length", "I", false)
def tyX8 : Nat → FieldType := fun k => match k with
  | 0 => .array .int
  | _ => .int
abbrev wsX80 : List Cond := u_ws RX8 TX8 2
theorem nmX8 : ∀ a, a < 2 → ∀ b, b < 2 → a ≠ b → (TX8 a).2.1 ≠ (TX8 b).2.1 := by decide +kernel
theorem tyX8_ok : ∀ k, k < 2 → parseFieldDescriptor (TX8 k).2.2.1 = some (tyX8 k) := by decide +kernel
abbrev cX8_init : ByteArray := prog_10_method_1_code
def yX8_init : MethodName := ⟨RX8, "<init>", "()V"⟩
abbrev cX8_hasRoom : ByteArray := prog_10_method_2_code
def yX8_hasRoom : MethodName := ⟨RX8, "hasRoom", "()Z"⟩
abbrev cX8_holds : ByteArray := prog_10_method_3_code
def yX8_holds : MethodName := ⟨RX8, "holds", "(I)Z"⟩
abbrev cX8_append : ByteArray := prog_10_method_4_code
def yX8_append : MethodName := ⟨RX8, "append", "(I)V"⟩
def RX9 : String := "BuildingClub$TextReader"
def TX9 : u_T := fun k => match k with
  | 0 => ("BuildingClub$TextReader", "number", "[I", true)
  | _ => ("BuildingClub$TextReader", "at", "I", false)
def tyX9 : Nat → FieldType := fun k => match k with
  | 0 => .array .int
  | _ => .int
abbrev wsX90 : List Cond := u_ws RX9 TX9 2
theorem nmX9 : ∀ a, a < 2 → ∀ b, b < 2 → a ≠ b → (TX9 a).2.1 ≠ (TX9 b).2.1 := by decide +kernel
theorem tyX9_ok : ∀ k, k < 2 → parseFieldDescriptor (TX9 k).2.2.1 = some (tyX9 k) := by decide +kernel
abbrev cX9_init : ByteArray := prog_11_method_1_code
def yX9_init : MethodName := ⟨RX9, "<init>", "()V"⟩
abbrev cX9_read : ByteArray := prog_11_method_2_code
def yX9_read : MethodName := ⟨RX9, "read", "([II)I"⟩
abbrev cX9_rulesRead : ByteArray := prog_11_method_3_code
def yX9_rulesRead : MethodName := ⟨RX9, "rulesRead", "()LBuildingClub$Rules;"⟩
abbrev cX9_readClause : ByteArray := prog_11_method_4_code
def yX9_readClause : MethodName := ⟨RX9, "readClause", "([II)I"⟩
abbrev cX9_faultAt : ByteArray := prog_11_method_5_code
def yX9_faultAt : MethodName := ⟨RX9, "faultAt", "(II)I"⟩
def RX10 : String := "BuildingClub"
def TX10 : u_T := fun k => match k with
  | 0 => ("BuildingClub", "ledger", "LBuildingClub$Ledger;", true)
  | 1 => ("BuildingClub", "history", "LBuildingClub$History;", true)
  | 2 => ("BuildingClub", "tape", "LBuildingClub$Tape;", true)
  | 3 => ("BuildingClub", "reader", "LBuildingClub$TextReader;", true)
  | 4 => ("BuildingClub", "replay", "LBuildingClub$Replay;", true)
  | _ => ("BuildingClub", "outlook", "LBuildingClub$Outlook;", true)
def tyX10 : Nat → FieldType := fun k => match k with
  | 0 => .object "BuildingClub$Ledger"
  | 1 => .object "BuildingClub$History"
  | 2 => .object "BuildingClub$Tape"
  | 3 => .object "BuildingClub$TextReader"
  | 4 => .object "BuildingClub$Replay"
  | _ => .object "BuildingClub$Outlook"
abbrev wsX100 : List Cond := u_ws RX10 TX10 6
theorem nmX10 : ∀ a, a < 6 → ∀ b, b < 6 → a ≠ b → (TX10 a).2.1 ≠ (TX10 b).2.1 := by decide +kernel
theorem tyX10_ok : ∀ k, k < 6 → parseFieldDescriptor (TX10 k).2.2.1 = some (tyX10 k) := by decide +kernel
abbrev cX10_init : ByteArray := prog_1_method_1_code
def yX10_init : MethodName := ⟨RX10, "<init>", "()V"⟩
abbrev cX10_feed : ByteArray := prog_1_method_2_code
def yX10_feed : MethodName := ⟨RX10, "feed", "(IIIII)I"⟩
abbrev cX10_member : ByteArray := prog_1_method_3_code
def yX10_member : MethodName := ⟨RX10, "member", "(I)I"⟩
abbrev cX10_vote : ByteArray := prog_1_method_4_code
def yX10_vote : MethodName := ⟨RX10, "vote", "(II)I"⟩
abbrev cX10_pay : ByteArray := prog_1_method_5_code
def yX10_pay : MethodName := ⟨RX10, "pay", "(II)Z"⟩
abbrev cX10_lot : ByteArray := prog_1_method_6_code
def yX10_lot : MethodName := ⟨RX10, "lot", "(I)Z"⟩
abbrev cX10_bid : ByteArray := prog_1_method_7_code
def yX10_bid : MethodName := ⟨RX10, "bid", "(II)Z"⟩
abbrev cX10_seen : ByteArray := prog_1_method_8_code
def yX10_seen : MethodName := ⟨RX10, "seen", "(I)Z"⟩
abbrev cX10_leave : ByteArray := prog_1_method_9_code
def yX10_leave : MethodName := ⟨RX10, "leave", "(I)Z"⟩
abbrev cX10_fail : ByteArray := prog_1_method_10_code
def yX10_fail : MethodName := ⟨RX10, "fail", "(I)Z"⟩
abbrev cX10_week : ByteArray := prog_1_method_11_code
def yX10_week : MethodName := ⟨RX10, "week", "(I)I"⟩
abbrev cX10_look : ByteArray := prog_1_method_12_code
def yX10_look : MethodName := ⟨RX10, "look", "(II)I"⟩
abbrev cX10_club : ByteArray := prog_1_method_13_code
def yX10_club : MethodName := ⟨RX10, "club", "(I)J"⟩
abbrev cX10_rule : ByteArray := prog_1_method_14_code
def yX10_rule : MethodName := ⟨RX10, "rule", "(I)I"⟩
abbrev cX10_end : ByteArray := prog_1_method_15_code
def yX10_end : MethodName := ⟨RX10, "end", "()I"⟩
abbrev cX10_beside : ByteArray := prog_1_method_16_code
def yX10_beside : MethodName := ⟨RX10, "beside", "(II)J"⟩
abbrev cX10_count : ByteArray := prog_1_method_17_code
def yX10_count : MethodName := ⟨RX10, "count", "(I)I"⟩
abbrev cX10_perform : ByteArray := prog_1_method_18_code
def yX10_perform : MethodName := ⟨RX10, "perform", "(IIILBuildingClub$Rules;)Z"⟩
def RX11 : String := "BuildingClubModel"
def TX11 : u_T := fun k => match k with
  | 0 => ("BuildingClubModel", "members", "[I", true)
  | 1 => ("BuildingClubModel", "weekOf", "[I", true)
  | 2 => ("BuildingClubModel", "lotOf", "[I", true)
  | 3 => ("BuildingClubModel", "leavers", "[I", true)
  | 4 => ("BuildingClubModel", "houses", "[I", true)
  | 5 => ("BuildingClubModel", "cash", "[J", true)
  | 6 => ("BuildingClubModel", "builder", "[J", true)
  | 7 => ("BuildingClubModel", "fines", "[J", true)
  | 8 => ("BuildingClubModel", "gone", "[J", true)
  | 9 => ("BuildingClubModel", "paidIn", "[J", true)
  | 10 => ("BuildingClubModel", "force", "[I", true)
  | 11 => ("BuildingClubModel", "next", "[I", true)
  | 12 => ("BuildingClubModel", "isRich", "[Z", true)
  | 13 => ("BuildingClubModel", "shares", "[I", true)
  | 14 => ("BuildingClubModel", "stages", "[I", true)
  | 15 => ("BuildingClubModel", "paidStages", "[I", true)
  | 16 => ("BuildingClubModel", "drawn", "[I", true)
  | 17 => ("BuildingClubModel", "bidBy", "[I", true)
  | 18 => ("BuildingClubModel", "dueWeek", "[I", true)
  | 19 => ("BuildingClubModel", "leaver", "[I", true)
  | 20 => ("BuildingClubModel", "credit", "[J", true)
  | 21 => ("BuildingClubModel", "arrears", "[J", true)
  | 22 => ("BuildingClubModel", "paid", "[J", true)
  | 23 => ("BuildingClubModel", "held", "[J", true)
  | 24 => ("BuildingClubModel", "lacks", "[J", true)
  | 25 => ("BuildingClubModel", "due", "[J", true)
  | 26 => ("BuildingClubModel", "got", "[J", true)
  | 27 => ("BuildingClubModel", "stage", "[J", true)
  | 28 => ("BuildingClubModel", "isIn", "[Z", true)
  | 29 => ("BuildingClubModel", "hasHouse", "[Z", true)
  | 30 => ("BuildingClubModel", "isSeen", "[Z", true)
  | 31 => ("BuildingClubModel", "kind", "[I", true)
  | 32 => ("BuildingClubModel", "one", "[I", true)
  | 33 => ("BuildingClubModel", "two", "[I", true)
  | 34 => ("BuildingClubModel", "text", "[I", true)
  | 35 => ("BuildingClubModel", "voteCall", "[I", true)
  | 36 => ("BuildingClubModel", "calls", "I", false)
  | 37 => ("BuildingClubModel", "votes", "I", false)
  | 38 => ("BuildingClubModel", "tape", "[B", true)
  | 39 => ("BuildingClubModel", "taped", "I", false)
  | _ => ("BuildingClubModel", "said", "[I", true)
def tyX11 : Nat → FieldType := fun k => match k with
  | 0 => .array .int
  | 1 => .array .int
  | 2 => .array .int
  | 3 => .array .int
  | 4 => .array .int
  | 5 => .array .long
  | 6 => .array .long
  | 7 => .array .long
  | 8 => .array .long
  | 9 => .array .long
  | 10 => .array .int
  | 11 => .array .int
  | 12 => .array .boolean
  | 13 => .array .int
  | 14 => .array .int
  | 15 => .array .int
  | 16 => .array .int
  | 17 => .array .int
  | 18 => .array .int
  | 19 => .array .int
  | 20 => .array .long
  | 21 => .array .long
  | 22 => .array .long
  | 23 => .array .long
  | 24 => .array .long
  | 25 => .array .long
  | 26 => .array .long
  | 27 => .array .long
  | 28 => .array .boolean
  | 29 => .array .boolean
  | 30 => .array .boolean
  | 31 => .array .int
  | 32 => .array .int
  | 33 => .array .int
  | 34 => .array .int
  | 35 => .array .int
  | 36 => .int
  | 37 => .int
  | 38 => .array .byte
  | 39 => .int
  | _ => .array .int
abbrev wsX110 : List Cond := u_ws RX11 TX11 41
theorem nmX11 : ∀ a, a < 41 → ∀ b, b < 41 → a ≠ b → (TX11 a).2.1 ≠ (TX11 b).2.1 := by decide +kernel
theorem tyX11_ok : ∀ k, k < 41 → parseFieldDescriptor (TX11 k).2.2.1 = some (tyX11 k) := by decide +kernel
abbrev cX11_init : ByteArray := prog_13_method_1_code
def yX11_init : MethodName := ⟨RX11, "<init>", "()V"⟩
abbrev cX11_firsts : ByteArray := prog_13_method_2_code
def yX11_firsts : MethodName := ⟨RX11, "firsts", "([II)V"⟩
abbrev cX11_begins : ByteArray := prog_13_method_3_code
def yX11_begins : MethodName := ⟨RX11, "begins", "(I)V"⟩
abbrev cX11_copies : ByteArray := prog_13_method_4_code
def yX11_copies : MethodName := ⟨RX11, "copies", "(II)V"⟩
abbrev cX11_dues : ByteArray := prog_13_method_5_code
def yX11_dues : MethodName := ⟨RX11, "dues", "(I)V"⟩
abbrev cX11_paysLeavers : ByteArray := prog_13_method_6_code
def yX11_paysLeavers : MethodName := ⟨RX11, "paysLeavers", "(I)V"⟩
abbrev cX11_isUnderWork : ByteArray := prog_13_method_7_code
def yX11_isUnderWork : MethodName := ⟨RX11, "isUnderWork", "(I)Z"⟩
abbrev cX11_paysStages : ByteArray := prog_13_method_8_code
def yX11_paysStages : MethodName := ⟨RX11, "paysStages", "(I)V"⟩
abbrev cX11_mayHave : ByteArray := prog_13_method_9_code
def yX11_mayHave : MethodName := ⟨RX11, "mayHave", "(I)Z"⟩
abbrev cX11_sharesOf : ByteArray := prog_13_method_10_code
def yX11_sharesOf : MethodName := ⟨RX11, "sharesOf", "(IZ)I"⟩
abbrev cX11_bidOf : ByteArray := prog_13_method_11_code
def yX11_bidOf : MethodName := ⟨RX11, "bidOf", "(II)I"⟩
abbrev cX11_winner : ByteArray := prog_13_method_12_code
def yX11_winner : MethodName := ⟨RX11, "winner", "(I)I"⟩
abbrev cX11_draws : ByteArray := prog_13_method_13_code
def yX11_draws : MethodName := ⟨RX11, "draws", "(I)V"⟩
abbrev cX11_fills : ByteArray := prog_13_method_14_code
def yX11_fills : MethodName := ⟨RX11, "fills", "(I)V"⟩
abbrev cX11_goesBy : ByteArray := prog_13_method_15_code
def yX11_goesBy : MethodName := ⟨RX11, "goesBy", "(I)V"⟩
abbrev cX11_isMember : ByteArray := prog_13_method_16_code
def yX11_isMember : MethodName := ⟨RX11, "isMember", "(II)Z"⟩
abbrev cX11_isThere : ByteArray := prog_13_method_17_code
def yX11_isThere : MethodName := ⟨RX11, "isThere", "(II)Z"⟩
abbrev cX11_carries : ByteArray := prog_13_method_18_code
def yX11_carries : MethodName := ⟨RX11, "carries", "(II)Z"⟩
abbrev cX11_joins : ByteArray := prog_13_method_19_code
def yX11_joins : MethodName := ⟨RX11, "joins", "(II)Z"⟩
abbrev cX11_leaves : ByteArray := prog_13_method_20_code
def yX11_leaves : MethodName := ⟨RX11, "leaves", "(II)Z"⟩
abbrev cX11_fails : ByteArray := prog_13_method_21_code
def yX11_fails : MethodName := ⟨RX11, "fails", "(II)Z"⟩
abbrev cX11_does : ByteArray := prog_13_method_22_code
def yX11_does : MethodName := ⟨RX11, "does", "(IIIII)Z"⟩
abbrev cX11_tells : ByteArray := prog_13_method_23_code
def yX11_tells : MethodName := ⟨RX11, "tells", "(III)Z"⟩
abbrev cX11_member : ByteArray := prog_13_method_24_code
def yX11_member : MethodName := ⟨RX11, "member", "(I)I"⟩
abbrev cX11_pay : ByteArray := prog_13_method_25_code
def yX11_pay : MethodName := ⟨RX11, "pay", "(II)Z"⟩
abbrev cX11_lot : ByteArray := prog_13_method_26_code
def yX11_lot : MethodName := ⟨RX11, "lot", "(I)Z"⟩
abbrev cX11_bid : ByteArray := prog_13_method_27_code
def yX11_bid : MethodName := ⟨RX11, "bid", "(II)Z"⟩
abbrev cX11_seen : ByteArray := prog_13_method_28_code
def yX11_seen : MethodName := ⟨RX11, "seen", "(I)Z"⟩
abbrev cX11_leave : ByteArray := prog_13_method_29_code
def yX11_leave : MethodName := ⟨RX11, "leave", "(I)Z"⟩
abbrev cX11_fail : ByteArray := prog_13_method_30_code
def yX11_fail : MethodName := ⟨RX11, "fail", "(I)Z"⟩
abbrev cX11_week : ByteArray := prog_13_method_31_code
def yX11_week : MethodName := ⟨RX11, "week", "(I)I"⟩
abbrev cX11_types : ByteArray := prog_13_method_32_code
def yX11_types : MethodName := ⟨RX11, "types", "(I)V"⟩
abbrev cX11_feed : ByteArray := prog_13_method_33_code
def yX11_feed : MethodName := ⟨RX11, "feed", "(IIIII)I"⟩
abbrev cX11_letterOf : ByteArray := prog_13_method_34_code
def yX11_letterOf : MethodName := ⟨RX11, "letterOf", "(I)I"⟩
abbrev cX11_canBe : ByteArray := prog_13_method_35_code
def yX11_canBe : MethodName := ⟨RX11, "canBe", "(II)Z"⟩
abbrev cX11_isDigit : ByteArray := prog_13_method_36_code
def yX11_isDigit : MethodName := ⟨RX11, "isDigit", "(II)Z"⟩
abbrev cX11_parse : ByteArray := prog_13_method_37_code
def yX11_parse : MethodName := ⟨RX11, "parse", "(I)I"⟩
abbrev cX11_vote : ByteArray := prog_13_method_38_code
def yX11_vote : MethodName := ⟨RX11, "vote", "(II)I"⟩
abbrev cX11_look : ByteArray := prog_13_method_39_code
def yX11_look : MethodName := ⟨RX11, "look", "(II)I"⟩
abbrev cX11_club : ByteArray := prog_13_method_40_code
def yX11_club : MethodName := ⟨RX11, "club", "(I)J"⟩
abbrev cX11_rule : ByteArray := prog_13_method_41_code
def yX11_rule : MethodName := ⟨RX11, "rule", "(I)I"⟩
abbrev cX11_haveAll : ByteArray := prog_13_method_42_code
def yX11_haveAll : MethodName := ⟨RX11, "haveAll", "(I)Z"⟩
abbrev cX11_endOf : ByteArray := prog_13_method_43_code
def yX11_endOf : MethodName := ⟨RX11, "endOf", "(I)I"⟩
abbrev cX11_end : ByteArray := prog_13_method_44_code
def yX11_end : MethodName := ⟨RX11, "end", "()I"⟩
abbrev cX11_beside : ByteArray := prog_13_method_45_code
def yX11_beside : MethodName := ⟨RX11, "beside", "(II)J"⟩
abbrev cX11_count : ByteArray := prog_13_method_46_code
def yX11_count : MethodName := ⟨RX11, "count", "(I)I"⟩
def RJ11 : String := "java/lang/Character"
def TJ11 : u_T := fun k => match k with
  | _ => ("", "", "", false)
def tyJ11 : Nat → FieldType := fun k => match k with
  | _ => .int
abbrev wsJ110 : List Cond := u_ws RJ11 TJ11 0
theorem nmJ11 : ∀ a, a < 0 → ∀ b, b < 0 → a ≠ b → (TJ11 a).2.1 ≠ (TJ11 b).2.1 := by decide +kernel
theorem tyJ11_ok : ∀ k, k < 0 → parseFieldDescriptor (TJ11 k).2.2.1 = some (tyJ11 k) := by decide +kernel
abbrev cJ11_isValidCodePoint_9a6ad : ByteArray := prog_14_method_11_code
def yJ11_isValidCodePoint_9a6ad : MethodName := ⟨RJ11, "isValidCodePoint", "(I)Z"⟩
abbrev cJ11_highSurrogate_5068e : ByteArray := prog_14_method_28_code
def yJ11_highSurrogate_5068e : MethodName := ⟨RJ11, "highSurrogate", "(I)C"⟩
abbrev cJ11_lowSurrogate_5068e : ByteArray := prog_14_method_29_code
def yJ11_lowSurrogate_5068e : MethodName := ⟨RJ11, "lowSurrogate", "(I)C"⟩
def RJx8e188 : String := "java/lang/Cloneable"
def TJx8e188 : u_T := fun k => match k with
  | _ => ("", "", "", false)
def tyJx8e188 : Nat → FieldType := fun k => match k with
  | _ => .int
abbrev wsJx8e1880 : List Cond := u_ws RJx8e188 TJx8e188 0
theorem nmJx8e188 : ∀ a, a < 0 → ∀ b, b < 0 → a ≠ b → (TJx8e188 a).2.1 ≠ (TJx8e188 b).2.1 := by decide +kernel
theorem tyJx8e188_ok : ∀ k, k < 0 → parseFieldDescriptor (TJx8e188 k).2.2.1 = some (tyJx8e188 k) := by decide +kernel
def RJ9 : String := "java/lang/Math"
def TJ9 : u_T := fun k => match k with
  | _ => ("", "", "", false)
def tyJ9 : Nat → FieldType := fun k => match k with
  | _ => .int
abbrev wsJ90 : List Cond := u_ws RJ9 TJ9 0
theorem nmJ9 : ∀ a, a < 0 → ∀ b, b < 0 → a ≠ b → (TJ9 a).2.1 ≠ (TJ9 b).2.1 := by decide +kernel
theorem tyJ9_ok : ∀ k, k < 0 → parseFieldDescriptor (TJ9 k).2.2.1 = some (tyJ9 k) := by decide +kernel
abbrev cJ9_max_7cf53 : ByteArray := prog_16_method_65_code
def yJ9_max_7cf53 : MethodName := ⟨RJ9, "max", "(II)I"⟩
abbrev cJ9_min_7cf53 : ByteArray := prog_16_method_69_code
def yJ9_min_7cf53 : MethodName := ⟨RJ9, "min", "(II)I"⟩
abbrev cJ9_min_f86c9 : ByteArray := prog_16_method_70_code
def yJ9_min_f86c9 : MethodName := ⟨RJ9, "min", "(JJ)J"⟩
def RJ0 : String := "java/lang/String"
def TJ0 : u_T := fun k => match k with
  | _ => ("", "", "", false)
def tyJ0 : Nat → FieldType := fun k => match k with
  | _ => .int
abbrev wsJ00 : List Cond := u_ws RJ0 TJ0 0
theorem nmJ0 : ∀ a, a < 0 → ∀ b, b < 0 → a ≠ b → (TJ0 a).2.1 ≠ (TJ0 b).2.1 := by decide +kernel
theorem tyJ0_ok : ∀ k, k < 0 → parseFieldDescriptor (TJ0 k).2.2.1 = some (tyJ0 k) := by decide +kernel
abbrev cJ0_length_8abf5 : ByteArray := prog_17_method_54_code
def yJ0_length_8abf5 : MethodName := ⟨RJ0, "length", "()I"⟩
abbrev cJ0_indexOf_0f7a4 : ByteArray := prog_17_method_79_code
def yJ0_indexOf_0f7a4 : MethodName := ⟨RJ0, "indexOf", "(I)I"⟩
abbrev cJ0_indexOf_7cf53 : ByteArray := prog_17_method_80_code
def yJ0_indexOf_7cf53 : MethodName := ⟨RJ0, "indexOf", "(II)I"⟩
abbrev cJ0_coder_7d493 : ByteArray := prog_17_method_152_code
def yJ0_coder_7d493 : MethodName := ⟨RJ0, "coder", "()B"⟩
abbrev cJ0_isLatin1_aae02 : ByteArray := prog_17_method_154_code
def yJ0_isLatin1_aae02 : MethodName := ⟨RJ0, "isLatin1", "()Z"⟩
abbrev cJ0_checkBoundsBeginEnd_23922 : ByteArray := prog_17_method_158_code
def yJ0_checkBoundsBeginEnd_23922 : MethodName := ⟨RJ0, "checkBoundsBeginEnd", "(III)V"⟩
def RJ1 : String := "java/lang/StringLatin1"
def TJ1 : u_T := fun k => match k with
  | _ => ("", "", "", false)
def tyJ1 : Nat → FieldType := fun k => match k with
  | _ => .int
abbrev wsJ10 : List Cond := u_ws RJ1 TJ1 0
theorem nmJ1 : ∀ a, a < 0 → ∀ b, b < 0 → a ≠ b → (TJ1 a).2.1 ≠ (TJ1 b).2.1 := by decide +kernel
theorem tyJ1_ok : ∀ k, k < 0 → parseFieldDescriptor (TJ1 k).2.2.1 = some (tyJ1 k) := by decide +kernel
abbrev cJ1_canEncode_9a6ad : ByteArray := prog_18_method_4_code
def yJ1_canEncode_9a6ad : MethodName := ⟨RJ1, "canEncode", "(I)Z"⟩
abbrev cJ1_indexOf_4cfef : ByteArray := prog_18_method_22_code
def yJ1_indexOf_4cfef : MethodName := ⟨RJ1, "indexOf", "([BIII)I"⟩
abbrev cJ1_indexOfChar_4cfef : ByteArray := prog_18_method_23_code
def yJ1_indexOfChar_4cfef : MethodName := ⟨RJ1, "indexOfChar", "([BIII)I"⟩
def RJ2 : String := "java/lang/StringUTF16"
def TJ2 : u_T := fun k => match k with
  | _ => ("", "", "", false)
def tyJ2 : Nat → FieldType := fun k => match k with
  | _ => .int
abbrev wsJ20 : List Cond := u_ws RJ2 TJ2 0
theorem nmJ2 : ∀ a, a < 0 → ∀ b, b < 0 → a ≠ b → (TJ2 a).2.1 ≠ (TJ2 b).2.1 := by decide +kernel
theorem tyJ2_ok : ∀ k, k < 0 → parseFieldDescriptor (TJ2 k).2.2.1 = some (tyJ2 k) := by decide +kernel
abbrev cJ2_getChar_3b067 : ByteArray := prog_19_method_5_code
def yJ2_getChar_3b067 : MethodName := ⟨RJ2, "getChar", "([BI)C"⟩
abbrev cJ2_length_9d52b : ByteArray := prog_19_method_6_code
def yJ2_length_9d52b : MethodName := ⟨RJ2, "length", "([B)I"⟩
abbrev cJ2_indexOf_4cfef : ByteArray := prog_19_method_40_code
def yJ2_indexOf_4cfef : MethodName := ⟨RJ2, "indexOf", "([BIII)I"⟩
abbrev cJ2_indexOfChar_4cfef : ByteArray := prog_19_method_47_code
def yJ2_indexOfChar_4cfef : MethodName := ⟨RJ2, "indexOfChar", "([BIII)I"⟩
abbrev cJ2_indexOfCharUnsafe_4cfef : ByteArray := prog_19_method_48_code
def yJ2_indexOfCharUnsafe_4cfef : MethodName := ⟨RJ2, "indexOfCharUnsafe", "([BIII)I"⟩
abbrev cJ2_indexOfSupplementary_4cfef : ByteArray := prog_19_method_49_code
def yJ2_indexOfSupplementary_4cfef : MethodName := ⟨RJ2, "indexOfSupplementary", "([BIII)I"⟩
abbrev cJ2_checkBoundsBeginEnd_d044e : ByteArray := prog_19_method_93_code
def yJ2_checkBoundsBeginEnd_d044e : MethodName := ⟨RJ2, "checkBoundsBeginEnd", "(II[B)V"⟩
def RJ10 : String := "java/lang/System"
def TJ10 : u_T := fun k => match k with
  | _ => ("", "", "", false)
def tyJ10 : Nat → FieldType := fun k => match k with
  | _ => .int
abbrev wsJ100 : List Cond := u_ws RJ10 TJ10 0
theorem nmJ10 : ∀ a, a < 0 → ∀ b, b < 0 → a ≠ b → (TJ10 a).2.1 ≠ (TJ10 b).2.1 := by decide +kernel
theorem tyJ10_ok : ∀ k, k < 0 → parseFieldDescriptor (TJ10 k).2.2.1 = some (tyJ10 k) := by decide +kernel
def RJ3 : String := "jdk/internal/util/Preconditions"
def TJ3 : u_T := fun k => match k with
  | _ => ("", "", "", false)
def tyJ3 : Nat → FieldType := fun k => match k with
  | _ => .int
abbrev wsJ30 : List Cond := u_ws RJ3 TJ3 0
theorem nmJ3 : ∀ a, a < 0 → ∀ b, b < 0 → a ≠ b → (TJ3 a).2.1 ≠ (TJ3 b).2.1 := by decide +kernel
theorem tyJ3_ok : ∀ k, k < 0 → parseFieldDescriptor (TJ3 k).2.2.1 = some (tyJ3 k) := by decide +kernel
abbrev cJ3_checkFromToIndex_8c36e : ByteArray := prog_21_method_12_code
def yJ3_checkFromToIndex_8c36e : MethodName := ⟨RJ3, "checkFromToIndex", "(IIILjava/util/function/BiFunction;)I"⟩
def RL : String := "BuildingClubLaw"
abbrev cL_law : ByteArray := code
def yL_law : MethodName := ⟨RL, "law", "([I)Z"⟩
abbrev vwCl : List vw_C := [(RX0, TX0, 4), (RX1, TX1, 3), (RX2, TX2, 7), (RX3, TX3, 15), (RX4, TX4, 10), (RX5, TX5, 1), (RX6, TX6, 3), (RX7, TX7, 1), (RX8, TX8, 2), (RX9, TX9, 2), (RX10, TX10, 6), (RX11, TX11, 41)]
