/-! ===== BEGIN words of one list among another's, by their places ===== -/
theorem goodIn_r {big : List Cond} (ws : List Cond) (ps : List Nat) (hp : ws = ps.filterMap (fun i => big[i]?)) (h : ws.all goodWord = true) : GoodIn big ws := by
  intro w hw
  have h1 := List.all_eq_true.mp h w hw
  rw [hp] at hw
  obtain ⟨i, -, hi⟩ := List.mem_filterMap.mp hw
  have hm : w ∈ big := by first | exact List.mem_of_getElem? hi | exact List.getElem?_mem hi
  exact ⟨hm, good_of_word h1⟩
theorem goodIn_app {big a b : List Cond} (ha : GoodIn big a) (hb : GoodIn big b) : GoodIn big (a ++ b) := fun w h => (List.mem_append.mp h).elim (ha w) (hb w)
theorem goodIn_ca {big a b : List Cond} {c : Cond} (ha : GoodIn big (c :: a)) (hb : GoodIn big b) : GoodIn big (c :: (a ++ b)) := fun w h => (List.mem_cons.mp h).elim (fun e => ha w (List.mem_cons.mpr (Or.inl e))) (fun h => (List.mem_append.mp h).elim (fun h => ha w (List.mem_cons.mpr (Or.inr h))) (hb w))
theorem goodIn_sub {big ws : List Cond} (hm : ∀ w ∈ ws, w ∈ big) (h : ws.all goodWord = true) : GoodIn big ws := fun w hw => ⟨hm w hw, good_of_word (List.all_eq_true.mp h w hw)⟩
/-! ===== END ===== -/

/-! ===== BEGIN printed: names, fields, word lists, decode rows ===== -/
def RX0 : String := "ShapeSessions$Entry"
def TX0 : u_T := fun k => match k with
  | 0 => ("ShapeSessions$Entry", "table", "I", false)
  | 1 => ("ShapeSessions$Entry", "version", "I", false)
  | 2 => ("ShapeSessions$Entry", "shape", "I", false)
  | 3 => ("ShapeSessions$Entry", "workers", "I", false)
  | 4 => ("ShapeSessions$Entry", "lastUse", "I", false)
  | _ => ("ShapeSessions$Entry", "stale", "Z", false)
def tyX0 : Nat → FieldType := fun k => match k with
  | 0 => .int
  | 1 => .int
  | 2 => .int
  | 3 => .int
  | 4 => .int
  | _ => .boolean
abbrev wsX00 : List Cond := u_ws RX0 TX0 6
theorem nmX0 : ∀ a, a < 6 → ∀ b, b < 6 → a ≠ b → (TX0 a).2.1 ≠ (TX0 b).2.1 := by decide +kernel
theorem tyX0_ok : ∀ k, k < 6 → parseFieldDescriptor (TX0 k).2.2.1 = some (tyX0 k) := by decide +kernel
abbrev cX0_init : ByteArray := prog_2_method_1_code
def yX0_init : MethodName := ⟨RX0, "<init>", "()V"⟩
abbrev cX0_copyFrom : ByteArray := prog_2_method_2_code
def yX0_copyFrom : MethodName := ⟨RX0, "copyFrom", "(LShapeSessions$Entry;)V"⟩
abbrev cX0_comesBehind : ByteArray := prog_2_method_3_code
def yX0_comesBehind : MethodName := ⟨RX0, "comesBehind", "(II)Z"⟩
def RX1 : String := "ShapeSessions$Session"
def TX1 : u_T := fun k => match k with
  | 0 => ("ShapeSessions$Session", "known", "I", false)
  | 1 => ("ShapeSessions$Session", "hits", "I", false)
  | 2 => ("ShapeSessions$Session", "loads", "I", false)
  | 3 => ("ShapeSessions$Session", "drops", "I", false)
  | 4 => ("ShapeSessions$Session", "asksThatHelped", "I", false)
  | 5 => ("ShapeSessions$Session", "lateNotices", "I", false)
  | 6 => ("ShapeSessions$Session", "inHand", "I", false)
  | 7 => ("ShapeSessions$Session", "hand", "[LShapeSessions$Entry;", true)
  | _ => ("ShapeSessions$Session", "works", "[LShapeSessions$Work;", true)
def tyX1 : Nat → FieldType := fun k => match k with
  | 0 => .int
  | 1 => .int
  | 2 => .int
  | 3 => .int
  | 4 => .int
  | 5 => .int
  | 6 => .int
  | 7 => .array (.object "ShapeSessions$Entry")
  | _ => .array (.object "ShapeSessions$Work")
abbrev wsX10 : List Cond := u_ws RX1 TX1 9
theorem nmX1 : ∀ a, a < 9 → ∀ b, b < 9 → a ≠ b → (TX1 a).2.1 ≠ (TX1 b).2.1 := by decide +kernel
theorem tyX1_ok : ∀ k, k < 9 → parseFieldDescriptor (TX1 k).2.2.1 = some (tyX1 k) := by decide +kernel
abbrev cX1_init : ByteArray := prog_3_method_1_code
def yX1_init : MethodName := ⟨RX1, "<init>", "()V"⟩
abbrev cX1_clear : ByteArray := prog_3_method_2_code
def yX1_clear : MethodName := ⟨RX1, "clear", "()V"⟩
abbrev cX1_copyFrom : ByteArray := prog_3_method_3_code
def yX1_copyFrom : MethodName := ⟨RX1, "copyFrom", "(LShapeSessions$Session;)V"⟩
abbrev cX1_learn : ByteArray := prog_3_method_4_code
def yX1_learn : MethodName := ⟨RX1, "learn", "(I[I[I)V"⟩
abbrev cX1_use : ByteArray := prog_3_method_5_code
def yX1_use : MethodName := ⟨RX1, "use", "(LShapeSessions$Work;IIII)Z"⟩
abbrev cX1_release : ByteArray := prog_3_method_6_code
def yX1_release : MethodName := ⟨RX1, "release", "(LShapeSessions$Work;I)I"⟩
abbrev cX1_shrinkTo : ByteArray := prog_3_method_7_code
def yX1_shrinkTo : MethodName := ⟨RX1, "shrinkTo", "(I)V"⟩
abbrev cX1_longestUnused : ByteArray := prog_3_method_8_code
def yX1_longestUnused : MethodName := ⟨RX1, "longestUnused", "()I"⟩
abbrev cX1_putIn : ByteArray := prog_3_method_9_code
def yX1_putIn : MethodName := ⟨RX1, "putIn", "(III)I"⟩
abbrev cX1_takeOut : ByteArray := prog_3_method_10_code
def yX1_takeOut : MethodName := ⟨RX1, "takeOut", "(I)V"⟩
abbrev cX1_freshEntryOf : ByteArray := prog_3_method_11_code
def yX1_freshEntryOf : MethodName := ⟨RX1, "freshEntryOf", "(I)I"⟩
abbrev cX1_leastVersionAtWork : ByteArray := prog_3_method_12_code
def yX1_leastVersionAtWork : MethodName := ⟨RX1, "leastVersionAtWork", "(I)I"⟩
abbrev cX1_staleInHand : ByteArray := prog_3_method_13_code
def yX1_staleInHand : MethodName := ⟨RX1, "staleInHand", "()I"⟩
abbrev cX1_statementsAtWork : ByteArray := prog_3_method_14_code
def yX1_statementsAtWork : MethodName := ⟨RX1, "statementsAtWork", "()I"⟩
abbrev cX1_lowestBehind : ByteArray := prog_3_method_15_code
def yX1_lowestBehind : MethodName := ⟨RX1, "lowestBehind", "(II)I"⟩
abbrev cX1_idleWork : ByteArray := prog_3_method_16_code
def yX1_idleWork : MethodName := ⟨RX1, "idleWork", "()LShapeSessions$Work;"⟩
abbrev cX1_workOf : ByteArray := prog_3_method_17_code
def yX1_workOf : MethodName := ⟨RX1, "workOf", "(I)LShapeSessions$Work;"⟩
abbrev cX1_workWithNumber : ByteArray := prog_3_method_18_code
def yX1_workWithNumber : MethodName := ⟨RX1, "workWithNumber", "(I)LShapeSessions$Work;"⟩
def RX2 : String := "ShapeSessions$State"
def TX2 : u_T := fun k => match k with
  | 0 => ("ShapeSessions$State", "ticks", "I", false)
  | 1 => ("ShapeSessions$State", "delay", "I", false)
  | 2 => ("ShapeSessions$State", "room", "I", false)
  | 3 => ("ShapeSessions$State", "version", "[I", true)
  | 4 => ("ShapeSessions$State", "shape", "[I", true)
  | 5 => ("ShapeSessions$State", "notices", "I", false)
  | 6 => ("ShapeSessions$State", "noticeTable", "[I", true)
  | 7 => ("ShapeSessions$State", "noticeDue", "[I", true)
  | 8 => ("ShapeSessions$State", "started", "I", false)
  | 9 => ("ShapeSessions$State", "latestSession", "[I", true)
  | 10 => ("ShapeSessions$State", "latestTables", "[I", true)
  | _ => ("ShapeSessions$State", "sessions", "[LShapeSessions$Session;", true)
def tyX2 : Nat → FieldType := fun k => match k with
  | 0 => .int
  | 1 => .int
  | 2 => .int
  | 3 => .array .int
  | 4 => .array .int
  | 5 => .int
  | 6 => .array .int
  | 7 => .array .int
  | 8 => .int
  | 9 => .array .int
  | 10 => .array .int
  | _ => .array (.object "ShapeSessions$Session")
abbrev wsX20 : List Cond := u_ws RX2 TX2 12
theorem nmX2 : ∀ a, a < 12 → ∀ b, b < 12 → a ≠ b → (TX2 a).2.1 ≠ (TX2 b).2.1 := by decide +kernel
theorem tyX2_ok : ∀ k, k < 12 → parseFieldDescriptor (TX2 k).2.2.1 = some (tyX2 k) := by decide +kernel
abbrev cX2_init : ByteArray := prog_4_method_1_code
def yX2_init : MethodName := ⟨RX2, "<init>", "()V"⟩
abbrev cX2_clear : ByteArray := prog_4_method_2_code
def yX2_clear : MethodName := ⟨RX2, "clear", "()V"⟩
abbrev cX2_copyFrom : ByteArray := prog_4_method_3_code
def yX2_copyFrom : MethodName := ⟨RX2, "copyFrom", "(LShapeSessions$State;)V"⟩
abbrev cX2_obey : ByteArray := prog_4_method_4_code
def yX2_obey : MethodName := ⟨RX2, "obey", "(III)I"⟩
abbrev cX2_changeTable : ByteArray := prog_4_method_5_code
def yX2_changeTable : MethodName := ⟨RX2, "changeTable", "(II)I"⟩
abbrev cX2_begin : ByteArray := prog_4_method_6_code
def yX2_begin : MethodName := ⟨RX2, "begin", "(II)I"⟩
abbrev cX2_finish : ByteArray := prog_4_method_7_code
def yX2_finish : MethodName := ⟨RX2, "finish", "(I)I"⟩
abbrev cX2_pass : ByteArray := prog_4_method_8_code
def yX2_pass : MethodName := ⟨RX2, "pass", "(I)I"⟩
abbrev cX2_arrive : ByteArray := prog_4_method_9_code
def yX2_arrive : MethodName := ⟨RX2, "arrive", "(I)V"⟩
abbrev cX2_adjust : ByteArray := prog_4_method_10_code
def yX2_adjust : MethodName := ⟨RX2, "adjust", "(II)I"⟩
abbrev cX2_canChange : ByteArray := prog_4_method_11_code
def yX2_canChange : MethodName := ⟨RX2, "canChange", "(I)Z"⟩
abbrev cX2_leastVersionAtWork : ByteArray := prog_4_method_12_code
def yX2_leastVersionAtWork : MethodName := ⟨RX2, "leastVersionAtWork", "(I)I"⟩
abbrev cX2_handsWith : ByteArray := prog_4_method_13_code
def yX2_handsWith : MethodName := ⟨RX2, "handsWith", "(I)I"⟩
abbrev cX2_tablesThatCanChange : ByteArray := prog_4_method_14_code
def yX2_tablesThatCanChange : MethodName := ⟨RX2, "tablesThatCanChange", "()I"⟩
abbrev cX2_noticesOnTheirWay : ByteArray := prog_4_method_15_code
def yX2_noticesOnTheirWay : MethodName := ⟨RX2, "noticesOnTheirWay", "()I"⟩
abbrev cX2_sessionWith : ByteArray := prog_4_method_16_code
def yX2_sessionWith : MethodName := ⟨RX2, "sessionWith", "(I)I"⟩
abbrev cX2_statementsAtWork : ByteArray := prog_4_method_17_code
def yX2_statementsAtWork : MethodName := ⟨RX2, "statementsAtWork", "()I"⟩
abbrev cX2_loadsOfAll : ByteArray := prog_4_method_18_code
def yX2_loadsOfAll : MethodName := ⟨RX2, "loadsOfAll", "()I"⟩
def RX3 : String := "ShapeSessions$Text"
def TX3 : u_T := fun k => match k with
  | 0 => ("ShapeSessions$Text", "signs", "[I", true)
  | 1 => ("ShapeSessions$Text", "length", "I", false)
  | 2 => ("ShapeSessions$Text", "letter", "I", false)
  | 3 => ("ShapeSessions$Text", "first", "I", false)
  | 4 => ("ShapeSessions$Text", "second", "I", false)
  | _ => ("ShapeSessions$Text", "behind", "I", false)
def tyX3 : Nat → FieldType := fun k => match k with
  | 0 => .array .int
  | 1 => .int
  | 2 => .int
  | 3 => .int
  | 4 => .int
  | _ => .int
abbrev wsX30 : List Cond := u_ws RX3 TX3 6
theorem nmX3 : ∀ a, a < 6 → ∀ b, b < 6 → a ≠ b → (TX3 a).2.1 ≠ (TX3 b).2.1 := by decide +kernel
theorem tyX3_ok : ∀ k, k < 6 → parseFieldDescriptor (TX3 k).2.2.1 = some (tyX3 k) := by decide +kernel
abbrev cX3_init : ByteArray := prog_5_method_1_code
def yX3_init : MethodName := ⟨RX3, "<init>", "()V"⟩
abbrev cX3_readCommand : ByteArray := prog_5_method_2_code
def yX3_readCommand : MethodName := ⟨RX3, "readCommand", "(I)Z"⟩
abbrev cX3_signAt : ByteArray := prog_5_method_3_code
def yX3_signAt : MethodName := ⟨RX3, "signAt", "(I)I"⟩
abbrev cX3_readNumber : ByteArray := prog_5_method_4_code
def yX3_readNumber : MethodName := ⟨RX3, "readNumber", "()I"⟩
def RX4 : String := "ShapeSessions$Work"
def TX4 : u_T := fun k => match k with
  | 0 => ("ShapeSessions$Work", "number", "I", false)
  | 1 => ("ShapeSessions$Work", "tables", "I", false)
  | 2 => ("ShapeSessions$Work", "startedAt", "I", false)
  | _ => ("ShapeSessions$Work", "version", "[I", true)
def tyX4 : Nat → FieldType := fun k => match k with
  | 0 => .int
  | 1 => .int
  | 2 => .int
  | _ => .array .int
abbrev wsX40 : List Cond := u_ws RX4 TX4 4
theorem nmX4 : ∀ a, a < 4 → ∀ b, b < 4 → a ≠ b → (TX4 a).2.1 ≠ (TX4 b).2.1 := by decide +kernel
theorem tyX4_ok : ∀ k, k < 4 → parseFieldDescriptor (TX4 k).2.2.1 = some (tyX4 k) := by decide +kernel
abbrev cX4_init : ByteArray := prog_6_method_1_code
def yX4_init : MethodName := ⟨RX4, "<init>", "()V"⟩
abbrev cX4_copyFrom : ByteArray := prog_6_method_2_code
def yX4_copyFrom : MethodName := ⟨RX4, "copyFrom", "(LShapeSessions$Work;)V"⟩
abbrev cX4_worksBy : ByteArray := prog_6_method_3_code
def yX4_worksBy : MethodName := ⟨RX4, "worksBy", "(LShapeSessions$Entry;)Z"⟩
abbrev cX4_outrunBy : ByteArray := prog_6_method_4_code
def yX4_outrunBy : MethodName := ⟨RX4, "outrunBy", "([I)I"⟩
def RX5 : String := "ShapeSessions"
def TX5 : u_T := fun k => match k with
  | 0 => ("ShapeSessions", "now", "LShapeSessions$State;", false)
  | 1 => ("ShapeSessions", "trial", "LShapeSessions$State;", false)
  | 2 => ("ShapeSessions", "kept", "LShapeSessions$State;", true)
  | 3 => ("ShapeSessions", "hasKept", "Z", false)
  | 4 => ("ShapeSessions", "history", "[LShapeSessions$State;", true)
  | 5 => ("ShapeSessions", "recorded", "I", false)
  | 6 => ("ShapeSessions", "text", "LShapeSessions$Text;", true)
  | 7 => ("ShapeSessions", "faultPosition", "I", false)
  | 8 => ("ShapeSessions", "faultReason", "I", false)
  | _ => ("ShapeSessions", "faultCause", "I", false)
def tyX5 : Nat → FieldType := fun k => match k with
  | 0 => .object "ShapeSessions$State"
  | 1 => .object "ShapeSessions$State"
  | 2 => .object "ShapeSessions$State"
  | 3 => .boolean
  | 4 => .array (.object "ShapeSessions$State")
  | 5 => .int
  | 6 => .object "ShapeSessions$Text"
  | 7 => .int
  | 8 => .int
  | _ => .int
abbrev wsX50 : List Cond := u_ws RX5 TX5 10
theorem nmX5 : ∀ a, a < 10 → ∀ b, b < 10 → a ≠ b → (TX5 a).2.1 ≠ (TX5 b).2.1 := by decide +kernel
theorem tyX5_ok : ∀ k, k < 10 → parseFieldDescriptor (TX5 k).2.2.1 = some (tyX5 k) := by decide +kernel
abbrev cX5_init : ByteArray := prog_1_method_1_code
def yX5_init : MethodName := ⟨RX5, "<init>", "()V"⟩
abbrev cX5_alter : ByteArray := prog_1_method_2_code
def yX5_alter : MethodName := ⟨RX5, "alter", "(II)I"⟩
abbrev cX5_start : ByteArray := prog_1_method_3_code
def yX5_start : MethodName := ⟨RX5, "start", "(II)I"⟩
abbrev cX5_end : ByteArray := prog_1_method_4_code
def yX5_end : MethodName := ⟨RX5, "end", "(I)I"⟩
abbrev cX5_tick : ByteArray := prog_1_method_5_code
def yX5_tick : MethodName := ⟨RX5, "tick", "(I)I"⟩
abbrev cX5_set : ByteArray := prog_1_method_6_code
def yX5_set : MethodName := ⟨RX5, "set", "(II)I"⟩
abbrev cX5_tableOf : ByteArray := prog_1_method_7_code
def yX5_tableOf : MethodName := ⟨RX5, "tableOf", "(II)I"⟩
abbrev cX5_sessionOf : ByteArray := prog_1_method_8_code
def yX5_sessionOf : MethodName := ⟨RX5, "sessionOf", "(II)I"⟩
abbrev cX5_entry : ByteArray := prog_1_method_9_code
def yX5_entry : MethodName := ⟨RX5, "entry", "(III)I"⟩
abbrev cX5_statement : ByteArray := prog_1_method_10_code
def yX5_statement : MethodName := ⟨RX5, "statement", "(II)I"⟩
abbrev cX5_notice : ByteArray := prog_1_method_11_code
def yX5_notice : MethodName := ⟨RX5, "notice", "(I)I"⟩
abbrev cX5_count : ByteArray := prog_1_method_12_code
def yX5_count : MethodName := ⟨RX5, "count", "(I)I"⟩
abbrev cX5_would : ByteArray := prog_1_method_13_code
def yX5_would : MethodName := ⟨RX5, "would", "(III)I"⟩
abbrev cX5_inTheWay : ByteArray := prog_1_method_14_code
def yX5_inTheWay : MethodName := ⟨RX5, "inTheWay", "(I)I"⟩
abbrev cX5_bestRoom : ByteArray := prog_1_method_15_code
def yX5_bestRoom : MethodName := ⟨RX5, "bestRoom", "(I)I"⟩
abbrev cX5_loadsWithRoom : ByteArray := prog_1_method_16_code
def yX5_loadsWithRoom : MethodName := ⟨RX5, "loadsWithRoom", "(I)I"⟩
abbrev cX5_keep : ByteArray := prog_1_method_17_code
def yX5_keep : MethodName := ⟨RX5, "keep", "()I"⟩
abbrev cX5_restore : ByteArray := prog_1_method_18_code
def yX5_restore : MethodName := ⟨RX5, "restore", "()I"⟩
abbrev cX5_undo : ByteArray := prog_1_method_19_code
def yX5_undo : MethodName := ⟨RX5, "undo", "()I"⟩
abbrev cX5_settle : ByteArray := prog_1_method_20_code
def yX5_settle : MethodName := ⟨RX5, "settle", "(I)I"⟩
abbrev cX5_record : ByteArray := prog_1_method_21_code
def yX5_record : MethodName := ⟨RX5, "record", "()V"⟩
abbrev cX5_type : ByteArray := prog_1_method_22_code
def yX5_type : MethodName := ⟨RX5, "type", "(I)I"⟩
abbrev cX5_clearText : ByteArray := prog_1_method_23_code
def yX5_clearText : MethodName := ⟨RX5, "clearText", "()I"⟩
abbrev cX5_fault : ByteArray := prog_1_method_24_code
def yX5_fault : MethodName := ⟨RX5, "fault", "(I)I"⟩
abbrev cX5_play : ByteArray := prog_1_method_25_code
def yX5_play : MethodName := ⟨RX5, "play", "()I"⟩
abbrev cX5_doCommands : ByteArray := prog_1_method_26_code
def yX5_doCommands : MethodName := ⟨RX5, "doCommands", "()I"⟩
abbrev cX5_noteFault : ByteArray := prog_1_method_27_code
def yX5_noteFault : MethodName := ⟨RX5, "noteFault", "(III)V"⟩
abbrev cX5_contains : ByteArray := prog_1_method_28_code
def yX5_contains : MethodName := ⟨RX5, "contains", "(II)Z"⟩
def RX6 : String := "ShapeSessionsModel"
def TX6 : u_T := fun k => match k with
  | 0 => ("ShapeSessionsModel", "s", "[I", true)
  | 1 => ("ShapeSessionsModel", "aside", "[I", true)
  | 2 => ("ShapeSessionsModel", "before", "[I", true)
  | 3 => ("ShapeSessionsModel", "known", "I", false)
  | 4 => ("ShapeSessionsModel", "kept", "[I", true)
  | 5 => ("ShapeSessionsModel", "isKept", "Z", false)
  | 6 => ("ShapeSessionsModel", "text", "[I", true)
  | 7 => ("ShapeSessionsModel", "length", "I", false)
  | 8 => ("ShapeSessionsModel", "hand", "[I", true)
  | 9 => ("ShapeSessionsModel", "used", "[I", true)
  | 10 => ("ShapeSessionsModel", "many", "[I", true)
  | 11 => ("ShapeSessionsModel", "at", "I", false)
  | 12 => ("ShapeSessionsModel", "isWrong", "Z", false)
  | 13 => ("ShapeSessionsModel", "letter", "I", false)
  | 14 => ("ShapeSessionsModel", "one", "I", false)
  | 15 => ("ShapeSessionsModel", "two", "I", false)
  | 16 => ("ShapeSessionsModel", "position", "I", false)
  | 17 => ("ShapeSessionsModel", "reason", "I", false)
  | _ => ("ShapeSessionsModel", "cause", "I", false)
def tyX6 : Nat → FieldType := fun k => match k with
  | 0 => .array .int
  | 1 => .array .int
  | 2 => .array .int
  | 3 => .int
  | 4 => .array .int
  | 5 => .boolean
  | 6 => .array .int
  | 7 => .int
  | 8 => .array .int
  | 9 => .array .int
  | 10 => .array .int
  | 11 => .int
  | 12 => .boolean
  | 13 => .int
  | 14 => .int
  | 15 => .int
  | 16 => .int
  | 17 => .int
  | _ => .int
abbrev wsX60 : List Cond := u_ws RX6 TX6 19
theorem nmX6 : ∀ a, a < 19 → ∀ b, b < 19 → a ≠ b → (TX6 a).2.1 ≠ (TX6 b).2.1 := by decide +kernel
theorem tyX6_ok : ∀ k, k < 19 → parseFieldDescriptor (TX6 k).2.2.1 = some (tyX6 k) := by decide +kernel
abbrev cX6_init : ByteArray := prog_8_method_1_code
def yX6_init : MethodName := ⟨RX6, "<init>", "()V"⟩
abbrev cX6_in : ByteArray := prog_8_method_3_code
def yX6_in : MethodName := ⟨RX6, "in", "(III)Z"⟩
abbrev cX6_isTable : ByteArray := prog_8_method_4_code
def yX6_isTable : MethodName := ⟨RX6, "isTable", "(I)Z"⟩
abbrev cX6_isSession : ByteArray := prog_8_method_5_code
def yX6_isSession : MethodName := ⟨RX6, "isSession", "(I)Z"⟩
abbrev cX6_of : ByteArray := prog_8_method_6_code
def yX6_of : MethodName := ⟨RX6, "of", "(II)I"⟩
abbrev cX6_ofEntry : ByteArray := prog_8_method_7_code
def yX6_ofEntry : MethodName := ⟨RX6, "ofEntry", "(III)I"⟩
abbrev cX6_ofOpen : ByteArray := prog_8_method_8_code
def yX6_ofOpen : MethodName := ⟨RX6, "ofOpen", "(II)I"⟩
abbrev cX6_know : ByteArray := prog_8_method_9_code
def yX6_know : MethodName := ⟨RX6, "know", "()V"⟩
abbrev cX6_putAside : ByteArray := prog_8_method_10_code
def yX6_putAside : MethodName := ⟨RX6, "putAside", "()V"⟩
abbrev cX6_putBack : ByteArray := prog_8_method_11_code
def yX6_putBack : MethodName := ⟨RX6, "putBack", "()V"⟩
abbrev cX6_remove : ByteArray := prog_8_method_12_code
def yX6_remove : MethodName := ⟨RX6, "remove", "(II)V"⟩
abbrev cX6_clean : ByteArray := prog_8_method_13_code
def yX6_clean : MethodName := ⟨RX6, "clean", "(I)I"⟩
abbrev cX6_oldest : ByteArray := prog_8_method_14_code
def yX6_oldest : MethodName := ⟨RX6, "oldest", "(I)I"⟩
abbrev cX6_shrink : ByteArray := prog_8_method_15_code
def yX6_shrink : MethodName := ⟨RX6, "shrink", "(II)I"⟩
abbrev cX6_entryOf : ByteArray := prog_8_method_16_code
def yX6_entryOf : MethodName := ⟨RX6, "entryOf", "(III)I"⟩
abbrev cX6_load : ByteArray := prog_8_method_17_code
def yX6_load : MethodName := ⟨RX6, "load", "(II)I"⟩
abbrev cX6_learn : ByteArray := prog_8_method_18_code
def yX6_learn : MethodName := ⟨RX6, "learn", "(II)V"⟩
abbrev cX6_come : ByteArray := prog_8_method_19_code
def yX6_come : MethodName := ⟨RX6, "come", "(I)V"⟩
abbrev cX6_inWay : ByteArray := prog_8_method_20_code
def yX6_inWay : MethodName := ⟨RX6, "inWay", "(I)I"⟩
abbrev cX6_alterFault : ByteArray := prog_8_method_21_code
def yX6_alterFault : MethodName := ⟨RX6, "alterFault", "(II)I"⟩
abbrev cX6_alters : ByteArray := prog_8_method_22_code
def yX6_alters : MethodName := ⟨RX6, "alters", "(II)I"⟩
abbrev cX6_opensOf : ByteArray := prog_8_method_23_code
def yX6_opensOf : MethodName := ⟨RX6, "opensOf", "(I)I"⟩
abbrev cX6_starts : ByteArray := prog_8_method_24_code
def yX6_starts : MethodName := ⟨RX6, "starts", "(II)I"⟩
abbrev cX6_remember : ByteArray := prog_8_method_25_code
def yX6_remember : MethodName := ⟨RX6, "remember", "(II)V"⟩
abbrev cX6_placeOf : ByteArray := prog_8_method_26_code
def yX6_placeOf : MethodName := ⟨RX6, "placeOf", "(I)I"⟩
abbrev cX6_startFault : ByteArray := prog_8_method_27_code
def yX6_startFault : MethodName := ⟨RX6, "startFault", "(II)I"⟩
abbrev cX6_endFault : ByteArray := prog_8_method_28_code
def yX6_endFault : MethodName := ⟨RX6, "endFault", "(I)I"⟩
abbrev cX6_ends : ByteArray := prog_8_method_29_code
def yX6_ends : MethodName := ⟨RX6, "ends", "(I)I"⟩
abbrev cX6_ticks : ByteArray := prog_8_method_30_code
def yX6_ticks : MethodName := ⟨RX6, "ticks", "(I)I"⟩
abbrev cX6_alter : ByteArray := prog_8_method_31_code
def yX6_alter : MethodName := ⟨RX6, "alter", "(II)I"⟩
abbrev cX6_start : ByteArray := prog_8_method_32_code
def yX6_start : MethodName := ⟨RX6, "start", "(II)I"⟩
abbrev cX6_end : ByteArray := prog_8_method_33_code
def yX6_end : MethodName := ⟨RX6, "end", "(I)I"⟩
abbrev cX6_tick : ByteArray := prog_8_method_34_code
def yX6_tick : MethodName := ⟨RX6, "tick", "(I)I"⟩
abbrev cX6_set : ByteArray := prog_8_method_35_code
def yX6_set : MethodName := ⟨RX6, "set", "(II)I"⟩
abbrev cX6_leastVersion : ByteArray := prog_8_method_36_code
def yX6_leastVersion : MethodName := ⟨RX6, "leastVersion", "(I)I"⟩
abbrev cX6_hands : ByteArray := prog_8_method_37_code
def yX6_hands : MethodName := ⟨RX6, "hands", "(I)I"⟩
abbrev cX6_tableOf : ByteArray := prog_8_method_38_code
def yX6_tableOf : MethodName := ⟨RX6, "tableOf", "(II)I"⟩
abbrev cX6_onWay : ByteArray := prog_8_method_39_code
def yX6_onWay : MethodName := ⟨RX6, "onWay", "()I"⟩
abbrev cX6_stale : ByteArray := prog_8_method_40_code
def yX6_stale : MethodName := ⟨RX6, "stale", "(I)I"⟩
abbrev cX6_sessionOf : ByteArray := prog_8_method_41_code
def yX6_sessionOf : MethodName := ⟨RX6, "sessionOf", "(II)I"⟩
abbrev cX6_entry : ByteArray := prog_8_method_42_code
def yX6_entry : MethodName := ⟨RX6, "entry", "(III)I"⟩
abbrev cX6_older : ByteArray := prog_8_method_43_code
def yX6_older : MethodName := ⟨RX6, "older", "(I)I"⟩
abbrev cX6_statement : ByteArray := prog_8_method_44_code
def yX6_statement : MethodName := ⟨RX6, "statement", "(II)I"⟩
abbrev cX6_notice : ByteArray := prog_8_method_45_code
def yX6_notice : MethodName := ⟨RX6, "notice", "(I)I"⟩
abbrev cX6_canChange : ByteArray := prog_8_method_46_code
def yX6_canChange : MethodName := ⟨RX6, "canChange", "()I"⟩
abbrev cX6_allLoads : ByteArray := prog_8_method_47_code
def yX6_allLoads : MethodName := ⟨RX6, "allLoads", "()I"⟩
abbrev cX6_count : ByteArray := prog_8_method_48_code
def yX6_count : MethodName := ⟨RX6, "count", "(I)I"⟩
abbrev cX6_would : ByteArray := prog_8_method_49_code
def yX6_would : MethodName := ⟨RX6, "would", "(III)I"⟩
abbrev cX6_inTheWay : ByteArray := prog_8_method_50_code
def yX6_inTheWay : MethodName := ⟨RX6, "inTheWay", "(I)I"⟩
abbrev cX6_use : ByteArray := prog_8_method_51_code
def yX6_use : MethodName := ⟨RX6, "use", "(IIII)I"⟩
abbrev cX6_loadsBy : ByteArray := prog_8_method_52_code
def yX6_loadsBy : MethodName := ⟨RX6, "loadsBy", "(I)I"⟩
abbrev cX6_bestRoom : ByteArray := prog_8_method_53_code
def yX6_bestRoom : MethodName := ⟨RX6, "bestRoom", "(I)I"⟩
abbrev cX6_keep : ByteArray := prog_8_method_54_code
def yX6_keep : MethodName := ⟨RX6, "keep", "()I"⟩
abbrev cX6_restore : ByteArray := prog_8_method_55_code
def yX6_restore : MethodName := ⟨RX6, "restore", "()I"⟩
abbrev cX6_undo : ByteArray := prog_8_method_56_code
def yX6_undo : MethodName := ⟨RX6, "undo", "()I"⟩
abbrev cX6_type : ByteArray := prog_8_method_57_code
def yX6_type : MethodName := ⟨RX6, "type", "(I)I"⟩
abbrev cX6_clearText : ByteArray := prog_8_method_58_code
def yX6_clearText : MethodName := ⟨RX6, "clearText", "()I"⟩
abbrev cX6_sign : ByteArray := prog_8_method_59_code
def yX6_sign : MethodName := ⟨RX6, "sign", "(II)I"⟩
abbrev cX6_number : ByteArray := prog_8_method_60_code
def yX6_number : MethodName := ⟨RX6, "number", "()I"⟩
abbrev cX6_read : ByteArray := prog_8_method_61_code
def yX6_read : MethodName := ⟨RX6, "read", "()V"⟩
abbrev cX6_does : ByteArray := prog_8_method_62_code
def yX6_does : MethodName := ⟨RX6, "does", "()I"⟩
abbrev cX6_go : ByteArray := prog_8_method_63_code
def yX6_go : MethodName := ⟨RX6, "go", "()I"⟩
abbrev cX6_look : ByteArray := prog_8_method_64_code
def yX6_look : MethodName := ⟨RX6, "look", "()V"⟩
abbrev cX6_fault : ByteArray := prog_8_method_65_code
def yX6_fault : MethodName := ⟨RX6, "fault", "(I)I"⟩
abbrev cX6_play : ByteArray := prog_8_method_66_code
def yX6_play : MethodName := ⟨RX6, "play", "()I"⟩
def RJ9 : String := "java/lang/Math"
def TJ9 : u_T := fun k => match k with
  | _ => ("", "", "", false)
def tyJ9 : Nat → FieldType := fun k => match k with
  | _ => .int
abbrev wsJ90 : List Cond := u_ws RJ9 TJ9 0
theorem nmJ9 : ∀ a, a < 0 → ∀ b, b < 0 → a ≠ b → (TJ9 a).2.1 ≠ (TJ9 b).2.1 := by decide +kernel
theorem tyJ9_ok : ∀ k, k < 0 → parseFieldDescriptor (TJ9 k).2.2.1 = some (tyJ9 k) := by decide +kernel
abbrev cJ9_max_7cf53 : ByteArray := prog_9_method_65_code
def yJ9_max_7cf53 : MethodName := ⟨RJ9, "max", "(II)I"⟩
abbrev cJ9_min_7cf53 : ByteArray := prog_9_method_69_code
def yJ9_min_7cf53 : MethodName := ⟨RJ9, "min", "(II)I"⟩
def RL : String := "ShapeSessionsLaw"
abbrev cL_law : ByteArray := code
def yL_law : MethodName := ⟨RL, "law", "([I)Z"⟩
abbrev vwCl : List vw_C := [(RX0, TX0, 6), (RX1, TX1, 9), (RX2, TX2, 12), (RX3, TX3, 6), (RX4, TX4, 4), (RX5, TX5, 10), (RX6, TX6, 19)]
def ch_1_0 : List Cond := [(Jvm.Cond.initialized "ShapeSessionsLaw"), (Jvm.Cond.initialized "ShapeSessions"), (Jvm.Cond.initialized "ShapeSessions$State"), (Jvm.Cond.initialized "ShapeSessions$Session"), (Jvm.Cond.initialized "ShapeSessions$Entry"), (Jvm.Cond.initialized "ShapeSessions$Work"), (Jvm.Cond.initialized "ShapeSessions$Text"), (Jvm.Cond.initialized "ShapeSessionsModel"), (Jvm.Cond.initialized "java/lang/Math"), (Jvm.Cond.classLink "ShapeSessionsLaw" (7 : Nat) "ShapeSessions"), (Jvm.Cond.instantiable "ShapeSessions" (10 : Nat)), (Jvm.Cond.methodLink "ShapeSessionsLaw" (9 : Nat) ({ cls := "ShapeSessions", name := "<init>", desc := "()V" } : Jvm.MethodName))]
def ch_1_1 : List Cond := [(Jvm.Cond.instanceMethod ({ cls := "ShapeSessions", name := "<init>", desc := "()V" } : Jvm.MethodName)), (Jvm.Cond.code ({ cls := "ShapeSessions", name := "<init>", desc := "()V" } : Jvm.MethodName) prog_1_method_1_code (2 : Nat) (Option.none : Option Jvm.ClassFile.FieldType)), (Jvm.Cond.methodLink "ShapeSessions" (1 : Nat) ({ cls := "java/lang/Object", name := "<init>", desc := "()V" } : Jvm.MethodName)), (Jvm.Cond.instanceMethod ({ cls := "java/lang/Object", name := "<init>", desc := "()V" } : Jvm.MethodName)), (Jvm.Cond.code ({ cls := "java/lang/Object", name := "<init>", desc := "()V" } : Jvm.MethodName) object_method_1_code (1 : Nat) (Option.none : Option Jvm.ClassFile.FieldType)), (Jvm.Cond.classLink "ShapeSessions" (7 : Nat) "ShapeSessions$State"), (Jvm.Cond.instantiable "ShapeSessions$State" (12 : Nat)), (Jvm.Cond.methodLink "ShapeSessions" (9 : Nat) ({ cls := "ShapeSessions$State", name := "<init>", desc := "()V" } : Jvm.MethodName)), (Jvm.Cond.instanceMethod ({ cls := "ShapeSessions$State", name := "<init>", desc := "()V" } : Jvm.MethodName)), (Jvm.Cond.code ({ cls := "ShapeSessions$State", name := "<init>", desc := "()V" } : Jvm.MethodName) prog_4_method_1_code (2 : Nat) (Option.none : Option Jvm.ClassFile.FieldType)), (Jvm.Cond.methodLink "ShapeSessions$State" (3 : Nat) ({ cls := "java/lang/Object", name := "<init>", desc := "()V" } : Jvm.MethodName)), (Jvm.Cond.classLink "ShapeSessions$State" (30 : Nat) "ShapeSessions$Session")]
def ch_1_2 : List Cond := [(Jvm.Cond.arrayOver (Jvm.ClassFile.FieldType.object "ShapeSessions$Session")), (Jvm.Cond.instantiable "ShapeSessions$Session" (9 : Nat)), (Jvm.Cond.methodLink "ShapeSessions$State" (36 : Nat) ({ cls := "ShapeSessions$Session", name := "<init>", desc := "()V" } : Jvm.MethodName)), (Jvm.Cond.instanceMethod ({ cls := "ShapeSessions$Session", name := "<init>", desc := "()V" } : Jvm.MethodName)), (Jvm.Cond.code ({ cls := "ShapeSessions$Session", name := "<init>", desc := "()V" } : Jvm.MethodName) prog_3_method_1_code (2 : Nat) (Option.none : Option Jvm.ClassFile.FieldType)), (Jvm.Cond.methodLink "ShapeSessions$Session" (3 : Nat) ({ cls := "java/lang/Object", name := "<init>", desc := "()V" } : Jvm.MethodName)), (Jvm.Cond.classLink "ShapeSessions$Session" (9 : Nat) "ShapeSessions$Entry"), (Jvm.Cond.arrayOver (Jvm.ClassFile.FieldType.object "ShapeSessions$Entry")), (Jvm.Cond.instantiable "ShapeSessions$Entry" (6 : Nat)), (Jvm.Cond.methodLinkNest "ShapeSessions$Session" (17 : Nat) ({ cls := "ShapeSessions$Entry", name := "<init>", desc := "()V" } : Jvm.MethodName) "ShapeSessions"), (Jvm.Cond.instanceMethod ({ cls := "ShapeSessions$Entry", name := "<init>", desc := "()V" } : Jvm.MethodName)), (Jvm.Cond.code ({ cls := "ShapeSessions$Entry", name := "<init>", desc := "()V" } : Jvm.MethodName) prog_2_method_1_code (1 : Nat) (Option.none : Option Jvm.ClassFile.FieldType))]
def ch_1_3 : List Cond := [(Jvm.Cond.methodLink "ShapeSessions$Entry" (1 : Nat) ({ cls := "java/lang/Object", name := "<init>", desc := "()V" } : Jvm.MethodName)), (Jvm.Cond.fieldLink "ShapeSessions$Entry" (7 : Nat) "ShapeSessions$Entry" "table" "I"), (Jvm.Cond.fieldLink "ShapeSessions$Work" (25 : Nat) "ShapeSessions$Entry" "table" "I"), (Jvm.Cond.fieldLink "ShapeSessions$Session" (57 : Nat) "ShapeSessions$Entry" "table" "I"), (Jvm.Cond.fieldLink "ShapeSessions" (135 : Nat) "ShapeSessions$Entry" "table" "I"), (Jvm.Cond.fieldLink "ShapeSessions$Entry" (13 : Nat) "ShapeSessions$Entry" "version" "I"), (Jvm.Cond.fieldLink "ShapeSessions$Work" (34 : Nat) "ShapeSessions$Entry" "version" "I"), (Jvm.Cond.fieldLink "ShapeSessions$Session" (60 : Nat) "ShapeSessions$Entry" "version" "I"), (Jvm.Cond.fieldLink "ShapeSessions" (140 : Nat) "ShapeSessions$Entry" "version" "I"), (Jvm.Cond.fieldLink "ShapeSessions$Entry" (16 : Nat) "ShapeSessions$Entry" "shape" "I"), (Jvm.Cond.fieldLink "ShapeSessions$Session" (103 : Nat) "ShapeSessions$Entry" "shape" "I"), (Jvm.Cond.fieldLink "ShapeSessions" (142 : Nat) "ShapeSessions$Entry" "shape" "I")]
def ch_1_4 : List Cond := [(Jvm.Cond.fieldLink "ShapeSessions$Entry" (19 : Nat) "ShapeSessions$Entry" "workers" "I"), (Jvm.Cond.fieldLink "ShapeSessions$Session" (67 : Nat) "ShapeSessions$Entry" "workers" "I"), (Jvm.Cond.fieldLink "ShapeSessions" (144 : Nat) "ShapeSessions$Entry" "workers" "I"), (Jvm.Cond.fieldLink "ShapeSessions$Entry" (22 : Nat) "ShapeSessions$Entry" "lastUse" "I"), (Jvm.Cond.fieldLink "ShapeSessions$Session" (85 : Nat) "ShapeSessions$Entry" "lastUse" "I"), (Jvm.Cond.fieldLink "ShapeSessions" (147 : Nat) "ShapeSessions$Entry" "lastUse" "I"), (Jvm.Cond.fieldLink "ShapeSessions$Entry" (25 : Nat) "ShapeSessions$Entry" "stale" "Z"), (Jvm.Cond.fieldLink "ShapeSessions$Session" (63 : Nat) "ShapeSessions$Entry" "stale" "Z"), (Jvm.Cond.fieldLink "ShapeSessions" (150 : Nat) "ShapeSessions$Entry" "stale" "Z"), (Jvm.Cond.lays "ShapeSessions$Entry" "ShapeSessions$Entry" "table" "I"), (Jvm.Cond.soleField "ShapeSessions$Entry" "table"), (Jvm.Cond.lays "ShapeSessions$Entry" "ShapeSessions$Entry" "version" "I")]
def ch_1_5 : List Cond := [(Jvm.Cond.soleField "ShapeSessions$Entry" "version"), (Jvm.Cond.lays "ShapeSessions$Entry" "ShapeSessions$Entry" "shape" "I"), (Jvm.Cond.soleField "ShapeSessions$Entry" "shape"), (Jvm.Cond.lays "ShapeSessions$Entry" "ShapeSessions$Entry" "workers" "I"), (Jvm.Cond.soleField "ShapeSessions$Entry" "workers"), (Jvm.Cond.lays "ShapeSessions$Entry" "ShapeSessions$Entry" "lastUse" "I"), (Jvm.Cond.soleField "ShapeSessions$Entry" "lastUse"), (Jvm.Cond.lays "ShapeSessions$Entry" "ShapeSessions$Entry" "stale" "Z"), (Jvm.Cond.soleField "ShapeSessions$Entry" "stale"), (Jvm.Cond.superclass "ShapeSessions$Entry" "java/lang/Object"), (Jvm.Cond.arrayClass Jvm.ClassFile.FieldType.int), (Jvm.Cond.classLink "ShapeSessions$Session" (18 : Nat) "ShapeSessions$Work")]
def ch_1_6 : List Cond := [(Jvm.Cond.arrayOver (Jvm.ClassFile.FieldType.object "ShapeSessions$Work")), (Jvm.Cond.instantiable "ShapeSessions$Work" (4 : Nat)), (Jvm.Cond.methodLink "ShapeSessions$Session" (24 : Nat) ({ cls := "ShapeSessions$Work", name := "<init>", desc := "()V" } : Jvm.MethodName)), (Jvm.Cond.instanceMethod ({ cls := "ShapeSessions$Work", name := "<init>", desc := "()V" } : Jvm.MethodName)), (Jvm.Cond.code ({ cls := "ShapeSessions$Work", name := "<init>", desc := "()V" } : Jvm.MethodName) prog_6_method_1_code (1 : Nat) (Option.none : Option Jvm.ClassFile.FieldType)), (Jvm.Cond.methodLink "ShapeSessions$Work" (3 : Nat) ({ cls := "java/lang/Object", name := "<init>", desc := "()V" } : Jvm.MethodName)), (Jvm.Cond.fieldLink "ShapeSessions$Work" (9 : Nat) "ShapeSessions$Work" "number" "I"), (Jvm.Cond.fieldLink "ShapeSessions$Session" (47 : Nat) "ShapeSessions$Work" "number" "I"), (Jvm.Cond.fieldLink "ShapeSessions$State" (96 : Nat) "ShapeSessions$Work" "number" "I"), (Jvm.Cond.fieldLink "ShapeSessions$Work" (19 : Nat) "ShapeSessions$Work" "tables" "I"), (Jvm.Cond.fieldLink "ShapeSessions$State" (101 : Nat) "ShapeSessions$Work" "tables" "I"), (Jvm.Cond.fieldLink "ShapeSessions" (160 : Nat) "ShapeSessions$Work" "tables" "I")]
def ch_1_7 : List Cond := [(Jvm.Cond.fieldLink "ShapeSessions$Session" (106 : Nat) "ShapeSessions$Work" "tables" "I"), (Jvm.Cond.fieldLink "ShapeSessions$Work" (22 : Nat) "ShapeSessions$Work" "startedAt" "I"), (Jvm.Cond.fieldLink "ShapeSessions$State" (104 : Nat) "ShapeSessions$Work" "startedAt" "I"), (Jvm.Cond.fieldLink "ShapeSessions" (165 : Nat) "ShapeSessions$Work" "startedAt" "I"), (Jvm.Cond.fieldLink "ShapeSessions$Work" (15 : Nat) "ShapeSessions$Work" "version" "[I"), (Jvm.Cond.fieldLink "ShapeSessions$Session" (88 : Nat) "ShapeSessions$Work" "version" "[I"), (Jvm.Cond.lays "ShapeSessions$Work" "ShapeSessions$Work" "number" "I"), (Jvm.Cond.soleField "ShapeSessions$Work" "number"), (Jvm.Cond.lays "ShapeSessions$Work" "ShapeSessions$Work" "tables" "I"), (Jvm.Cond.soleField "ShapeSessions$Work" "tables"), (Jvm.Cond.lays "ShapeSessions$Work" "ShapeSessions$Work" "startedAt" "I"), (Jvm.Cond.soleField "ShapeSessions$Work" "startedAt")]
def ch_1_8 : List Cond := [(Jvm.Cond.laysFinal "ShapeSessions$Work" "ShapeSessions$Work" "version" "[I"), (Jvm.Cond.soleField "ShapeSessions$Work" "version"), (Jvm.Cond.superclass "ShapeSessions$Work" "java/lang/Object"), (Jvm.Cond.fieldLink "ShapeSessions$Session" (25 : Nat) "ShapeSessions$Session" "known" "I"), (Jvm.Cond.fieldLink "ShapeSessions$State" (86 : Nat) "ShapeSessions$Session" "known" "I"), (Jvm.Cond.fieldLink "ShapeSessions" (98 : Nat) "ShapeSessions$Session" "known" "I"), (Jvm.Cond.fieldLink "ShapeSessions$Session" (29 : Nat) "ShapeSessions$Session" "hits" "I"), (Jvm.Cond.fieldLink "ShapeSessions" (116 : Nat) "ShapeSessions$Session" "hits" "I"), (Jvm.Cond.fieldLink "ShapeSessions$Session" (32 : Nat) "ShapeSessions$Session" "loads" "I"), (Jvm.Cond.fieldLink "ShapeSessions" (119 : Nat) "ShapeSessions$Session" "loads" "I"), (Jvm.Cond.fieldLink "ShapeSessions$State" (145 : Nat) "ShapeSessions$Session" "loads" "I"), (Jvm.Cond.fieldLink "ShapeSessions$Session" (35 : Nat) "ShapeSessions$Session" "drops" "I")]
def ch_1_9 : List Cond := [(Jvm.Cond.fieldLink "ShapeSessions" (122 : Nat) "ShapeSessions$Session" "drops" "I"), (Jvm.Cond.fieldLink "ShapeSessions$Session" (38 : Nat) "ShapeSessions$Session" "asksThatHelped" "I"), (Jvm.Cond.fieldLink "ShapeSessions$State" (93 : Nat) "ShapeSessions$Session" "asksThatHelped" "I"), (Jvm.Cond.fieldLink "ShapeSessions" (125 : Nat) "ShapeSessions$Session" "asksThatHelped" "I"), (Jvm.Cond.fieldLink "ShapeSessions$Session" (41 : Nat) "ShapeSessions$Session" "lateNotices" "I"), (Jvm.Cond.fieldLink "ShapeSessions" (128 : Nat) "ShapeSessions$Session" "lateNotices" "I"), (Jvm.Cond.fieldLink "ShapeSessions$State" (128 : Nat) "ShapeSessions$Session" "lateNotices" "I"), (Jvm.Cond.fieldLink "ShapeSessions$Session" (44 : Nat) "ShapeSessions$Session" "inHand" "I"), (Jvm.Cond.fieldLink "ShapeSessions" (107 : Nat) "ShapeSessions$Session" "inHand" "I"), (Jvm.Cond.fieldLink "ShapeSessions$Session" (11 : Nat) "ShapeSessions$Session" "hand" "[LShapeSessions$Entry;"), (Jvm.Cond.fieldLink "ShapeSessions" (131 : Nat) "ShapeSessions$Session" "hand" "[LShapeSessions$Entry;"), (Jvm.Cond.fieldLink "ShapeSessions$Session" (20 : Nat) "ShapeSessions$Session" "works" "[LShapeSessions$Work;")]
def ch_1_10 : List Cond := [(Jvm.Cond.lays "ShapeSessions$Session" "ShapeSessions$Session" "known" "I"), (Jvm.Cond.soleField "ShapeSessions$Session" "known"), (Jvm.Cond.lays "ShapeSessions$Session" "ShapeSessions$Session" "hits" "I"), (Jvm.Cond.soleField "ShapeSessions$Session" "hits"), (Jvm.Cond.lays "ShapeSessions$Session" "ShapeSessions$Session" "loads" "I"), (Jvm.Cond.soleField "ShapeSessions$Session" "loads"), (Jvm.Cond.lays "ShapeSessions$Session" "ShapeSessions$Session" "drops" "I"), (Jvm.Cond.soleField "ShapeSessions$Session" "drops"), (Jvm.Cond.lays "ShapeSessions$Session" "ShapeSessions$Session" "asksThatHelped" "I"), (Jvm.Cond.soleField "ShapeSessions$Session" "asksThatHelped"), (Jvm.Cond.lays "ShapeSessions$Session" "ShapeSessions$Session" "lateNotices" "I"), (Jvm.Cond.soleField "ShapeSessions$Session" "lateNotices")]
def ch_1_11 : List Cond := [(Jvm.Cond.lays "ShapeSessions$Session" "ShapeSessions$Session" "inHand" "I"), (Jvm.Cond.soleField "ShapeSessions$Session" "inHand"), (Jvm.Cond.laysFinal "ShapeSessions$Session" "ShapeSessions$Session" "hand" "[LShapeSessions$Entry;"), (Jvm.Cond.soleField "ShapeSessions$Session" "hand"), (Jvm.Cond.laysFinal "ShapeSessions$Session" "ShapeSessions$Session" "works" "[LShapeSessions$Work;"), (Jvm.Cond.soleField "ShapeSessions$Session" "works"), (Jvm.Cond.superclass "ShapeSessions$Session" "java/lang/Object"), (Jvm.Cond.fieldLink "ShapeSessions$State" (37 : Nat) "ShapeSessions$State" "ticks" "I"), (Jvm.Cond.fieldLink "ShapeSessions" (178 : Nat) "ShapeSessions$State" "ticks" "I"), (Jvm.Cond.fieldLink "ShapeSessions$State" (41 : Nat) "ShapeSessions$State" "delay" "I"), (Jvm.Cond.fieldLink "ShapeSessions" (194 : Nat) "ShapeSessions$State" "delay" "I"), (Jvm.Cond.fieldLink "ShapeSessions$State" (44 : Nat) "ShapeSessions$State" "room" "I")]
def ch_1_12 : List Cond := [(Jvm.Cond.fieldLink "ShapeSessions" (197 : Nat) "ShapeSessions$State" "room" "I"), (Jvm.Cond.fieldLink "ShapeSessions$State" (9 : Nat) "ShapeSessions$State" "version" "[I"), (Jvm.Cond.fieldLink "ShapeSessions" (77 : Nat) "ShapeSessions$State" "version" "[I"), (Jvm.Cond.fieldLink "ShapeSessions$State" (15 : Nat) "ShapeSessions$State" "shape" "[I"), (Jvm.Cond.fieldLink "ShapeSessions" (81 : Nat) "ShapeSessions$State" "shape" "[I"), (Jvm.Cond.fieldLink "ShapeSessions$State" (47 : Nat) "ShapeSessions$State" "notices" "I"), (Jvm.Cond.fieldLink "ShapeSessions" (172 : Nat) "ShapeSessions$State" "notices" "I"), (Jvm.Cond.fieldLink "ShapeSessions$State" (18 : Nat) "ShapeSessions$State" "noticeTable" "[I"), (Jvm.Cond.fieldLink "ShapeSessions" (175 : Nat) "ShapeSessions$State" "noticeTable" "[I"), (Jvm.Cond.fieldLink "ShapeSessions$State" (21 : Nat) "ShapeSessions$State" "noticeDue" "[I"), (Jvm.Cond.fieldLink "ShapeSessions$State" (50 : Nat) "ShapeSessions$State" "started" "I"), (Jvm.Cond.fieldLink "ShapeSessions" (181 : Nat) "ShapeSessions$State" "started" "I")]
def ch_1_13 : List Cond := [(Jvm.Cond.fieldLink "ShapeSessions$State" (24 : Nat) "ShapeSessions$State" "latestSession" "[I"), (Jvm.Cond.fieldLink "ShapeSessions" (211 : Nat) "ShapeSessions$State" "latestSession" "[I"), (Jvm.Cond.fieldLink "ShapeSessions$State" (27 : Nat) "ShapeSessions$State" "latestTables" "[I"), (Jvm.Cond.fieldLink "ShapeSessions" (214 : Nat) "ShapeSessions$State" "latestTables" "[I"), (Jvm.Cond.fieldLink "ShapeSessions$State" (32 : Nat) "ShapeSessions$State" "sessions" "[LShapeSessions$Session;"), (Jvm.Cond.fieldLink "ShapeSessions" (94 : Nat) "ShapeSessions$State" "sessions" "[LShapeSessions$Session;"), (Jvm.Cond.lays "ShapeSessions$State" "ShapeSessions$State" "ticks" "I"), (Jvm.Cond.soleField "ShapeSessions$State" "ticks"), (Jvm.Cond.lays "ShapeSessions$State" "ShapeSessions$State" "delay" "I"), (Jvm.Cond.soleField "ShapeSessions$State" "delay"), (Jvm.Cond.lays "ShapeSessions$State" "ShapeSessions$State" "room" "I"), (Jvm.Cond.soleField "ShapeSessions$State" "room")]
def ch_1_14 : List Cond := [(Jvm.Cond.laysFinal "ShapeSessions$State" "ShapeSessions$State" "version" "[I"), (Jvm.Cond.soleField "ShapeSessions$State" "version"), (Jvm.Cond.laysFinal "ShapeSessions$State" "ShapeSessions$State" "shape" "[I"), (Jvm.Cond.soleField "ShapeSessions$State" "shape"), (Jvm.Cond.lays "ShapeSessions$State" "ShapeSessions$State" "notices" "I"), (Jvm.Cond.soleField "ShapeSessions$State" "notices"), (Jvm.Cond.laysFinal "ShapeSessions$State" "ShapeSessions$State" "noticeTable" "[I"), (Jvm.Cond.soleField "ShapeSessions$State" "noticeTable"), (Jvm.Cond.laysFinal "ShapeSessions$State" "ShapeSessions$State" "noticeDue" "[I"), (Jvm.Cond.soleField "ShapeSessions$State" "noticeDue"), (Jvm.Cond.lays "ShapeSessions$State" "ShapeSessions$State" "started" "I"), (Jvm.Cond.soleField "ShapeSessions$State" "started")]
def ch_1_15 : List Cond := [(Jvm.Cond.laysFinal "ShapeSessions$State" "ShapeSessions$State" "latestSession" "[I"), (Jvm.Cond.soleField "ShapeSessions$State" "latestSession"), (Jvm.Cond.laysFinal "ShapeSessions$State" "ShapeSessions$State" "latestTables" "[I"), (Jvm.Cond.soleField "ShapeSessions$State" "latestTables"), (Jvm.Cond.laysFinal "ShapeSessions$State" "ShapeSessions$State" "sessions" "[LShapeSessions$Session;"), (Jvm.Cond.soleField "ShapeSessions$State" "sessions"), (Jvm.Cond.superclass "ShapeSessions$State" "java/lang/Object"), (Jvm.Cond.methodLink "ShapeSessions" (16 : Nat) ({ cls := "ShapeSessions$State", name := "clear", desc := "()V" } : Jvm.MethodName)), (Jvm.Cond.instanceMethod ({ cls := "ShapeSessions$State", name := "clear", desc := "()V" } : Jvm.MethodName)), (Jvm.Cond.selects "ShapeSessions$State" ({ cls := "ShapeSessions$State", name := "clear", desc := "()V" } : Jvm.MethodName) ({ cls := "ShapeSessions$State", name := "clear", desc := "()V" } : Jvm.MethodName)), (Jvm.Cond.code ({ cls := "ShapeSessions$State", name := "clear", desc := "()V" } : Jvm.MethodName) prog_4_method_2_code (2 : Nat) (Option.none : Option Jvm.ClassFile.FieldType)), (Jvm.Cond.methodLink "ShapeSessions$State" (53 : Nat) ({ cls := "ShapeSessions$Session", name := "clear", desc := "()V" } : Jvm.MethodName))]
def ch_1_16 : List Cond := [(Jvm.Cond.instanceMethod ({ cls := "ShapeSessions$Session", name := "clear", desc := "()V" } : Jvm.MethodName)), (Jvm.Cond.selects "ShapeSessions$Session" ({ cls := "ShapeSessions$Session", name := "clear", desc := "()V" } : Jvm.MethodName) ({ cls := "ShapeSessions$Session", name := "clear", desc := "()V" } : Jvm.MethodName)), (Jvm.Cond.code ({ cls := "ShapeSessions$Session", name := "clear", desc := "()V" } : Jvm.MethodName) prog_3_method_2_code (2 : Nat) (Option.none : Option Jvm.ClassFile.FieldType)), (Jvm.Cond.arrayOver (Jvm.ClassFile.FieldType.object "ShapeSessions$State")), (Jvm.Cond.classLink "ShapeSessions" (37 : Nat) "ShapeSessions$Text"), (Jvm.Cond.instantiable "ShapeSessions$Text" (6 : Nat)), (Jvm.Cond.methodLink "ShapeSessions" (39 : Nat) ({ cls := "ShapeSessions$Text", name := "<init>", desc := "()V" } : Jvm.MethodName)), (Jvm.Cond.instanceMethod ({ cls := "ShapeSessions$Text", name := "<init>", desc := "()V" } : Jvm.MethodName)), (Jvm.Cond.code ({ cls := "ShapeSessions$Text", name := "<init>", desc := "()V" } : Jvm.MethodName) prog_5_method_1_code (1 : Nat) (Option.none : Option Jvm.ClassFile.FieldType)), (Jvm.Cond.methodLink "ShapeSessions$Text" (3 : Nat) ({ cls := "java/lang/Object", name := "<init>", desc := "()V" } : Jvm.MethodName)), (Jvm.Cond.fieldLink "ShapeSessions$Text" (9 : Nat) "ShapeSessions$Text" "signs" "[I"), (Jvm.Cond.fieldLink "ShapeSessions" (220 : Nat) "ShapeSessions$Text" "signs" "[I")]
def ch_1_17 : List Cond := [(Jvm.Cond.fieldLink "ShapeSessions$Text" (36 : Nat) "ShapeSessions$Text" "length" "I"), (Jvm.Cond.fieldLink "ShapeSessions" (185 : Nat) "ShapeSessions$Text" "length" "I"), (Jvm.Cond.fieldLink "ShapeSessions$Text" (19 : Nat) "ShapeSessions$Text" "letter" "I"), (Jvm.Cond.fieldLink "ShapeSessions" (233 : Nat) "ShapeSessions$Text" "letter" "I"), (Jvm.Cond.fieldLink "ShapeSessions$Text" (30 : Nat) "ShapeSessions$Text" "first" "I"), (Jvm.Cond.fieldLink "ShapeSessions" (236 : Nat) "ShapeSessions$Text" "first" "I"), (Jvm.Cond.fieldLink "ShapeSessions$Text" (33 : Nat) "ShapeSessions$Text" "second" "I"), (Jvm.Cond.fieldLink "ShapeSessions" (239 : Nat) "ShapeSessions$Text" "second" "I"), (Jvm.Cond.fieldLink "ShapeSessions$Text" (23 : Nat) "ShapeSessions$Text" "behind" "I"), (Jvm.Cond.fieldLink "ShapeSessions" (246 : Nat) "ShapeSessions$Text" "behind" "I"), (Jvm.Cond.laysFinal "ShapeSessions$Text" "ShapeSessions$Text" "signs" "[I"), (Jvm.Cond.soleField "ShapeSessions$Text" "signs")]
def ch_1_18 : List Cond := [(Jvm.Cond.lays "ShapeSessions$Text" "ShapeSessions$Text" "length" "I"), (Jvm.Cond.soleField "ShapeSessions$Text" "length"), (Jvm.Cond.lays "ShapeSessions$Text" "ShapeSessions$Text" "letter" "I"), (Jvm.Cond.soleField "ShapeSessions$Text" "letter"), (Jvm.Cond.lays "ShapeSessions$Text" "ShapeSessions$Text" "first" "I"), (Jvm.Cond.soleField "ShapeSessions$Text" "first"), (Jvm.Cond.lays "ShapeSessions$Text" "ShapeSessions$Text" "second" "I"), (Jvm.Cond.soleField "ShapeSessions$Text" "second"), (Jvm.Cond.lays "ShapeSessions$Text" "ShapeSessions$Text" "behind" "I"), (Jvm.Cond.soleField "ShapeSessions$Text" "behind"), (Jvm.Cond.superclass "ShapeSessions$Text" "java/lang/Object"), (Jvm.Cond.fieldLink "ShapeSessions" (10 : Nat) "ShapeSessions" "now" "LShapeSessions$State;")]
def ch_1_19 : List Cond := [(Jvm.Cond.fieldLink "ShapeSessions" (19 : Nat) "ShapeSessions" "trial" "LShapeSessions$State;"), (Jvm.Cond.fieldLink "ShapeSessions" (22 : Nat) "ShapeSessions" "kept" "LShapeSessions$State;"), (Jvm.Cond.fieldLink "ShapeSessions" (25 : Nat) "ShapeSessions" "hasKept" "Z"), (Jvm.Cond.fieldLink "ShapeSessions" (29 : Nat) "ShapeSessions" "history" "[LShapeSessions$State;"), (Jvm.Cond.fieldLink "ShapeSessions" (33 : Nat) "ShapeSessions" "recorded" "I"), (Jvm.Cond.fieldLink "ShapeSessions" (40 : Nat) "ShapeSessions" "text" "LShapeSessions$Text;"), (Jvm.Cond.fieldLink "ShapeSessions" (44 : Nat) "ShapeSessions" "faultPosition" "I"), (Jvm.Cond.fieldLink "ShapeSessions" (47 : Nat) "ShapeSessions" "faultReason" "I"), (Jvm.Cond.fieldLink "ShapeSessions" (50 : Nat) "ShapeSessions" "faultCause" "I"), (Jvm.Cond.lays "ShapeSessions" "ShapeSessions" "now" "LShapeSessions$State;"), (Jvm.Cond.soleField "ShapeSessions" "now"), (Jvm.Cond.lays "ShapeSessions" "ShapeSessions" "trial" "LShapeSessions$State;")]
set_option maxRecDepth 20000 in
theorem tb_1 : tables_1_1 = ch_1_0 ++ (ch_1_1 ++ (ch_1_2 ++ (ch_1_3 ++ (ch_1_4 ++ (ch_1_5 ++ (ch_1_6 ++ (ch_1_7 ++ (ch_1_8 ++ (ch_1_9 ++ (ch_1_10 ++ (ch_1_11 ++ (ch_1_12 ++ (ch_1_13 ++ (ch_1_14 ++ (ch_1_15 ++ (ch_1_16 ++ (ch_1_17 ++ (ch_1_18 ++ (ch_1_19))))))))))))))))))) := rfl
def ch_2_0 : List Cond := [(Jvm.Cond.soleField "ShapeSessions" "trial"), (Jvm.Cond.laysFinal "ShapeSessions" "ShapeSessions" "kept" "LShapeSessions$State;"), (Jvm.Cond.soleField "ShapeSessions" "kept"), (Jvm.Cond.lays "ShapeSessions" "ShapeSessions" "hasKept" "Z"), (Jvm.Cond.soleField "ShapeSessions" "hasKept"), (Jvm.Cond.laysFinal "ShapeSessions" "ShapeSessions" "history" "[LShapeSessions$State;"), (Jvm.Cond.soleField "ShapeSessions" "history"), (Jvm.Cond.lays "ShapeSessions" "ShapeSessions" "recorded" "I"), (Jvm.Cond.soleField "ShapeSessions" "recorded"), (Jvm.Cond.laysFinal "ShapeSessions" "ShapeSessions" "text" "LShapeSessions$Text;"), (Jvm.Cond.soleField "ShapeSessions" "text"), (Jvm.Cond.lays "ShapeSessions" "ShapeSessions" "faultPosition" "I")]
def ch_2_1 : List Cond := [(Jvm.Cond.soleField "ShapeSessions" "faultPosition"), (Jvm.Cond.lays "ShapeSessions" "ShapeSessions" "faultReason" "I"), (Jvm.Cond.soleField "ShapeSessions" "faultReason"), (Jvm.Cond.lays "ShapeSessions" "ShapeSessions" "faultCause" "I"), (Jvm.Cond.soleField "ShapeSessions" "faultCause"), (Jvm.Cond.superclass "ShapeSessions" "java/lang/Object"), (Jvm.Cond.methodLink "ShapeSessionsLaw" (13 : Nat) ({ cls := "ShapeSessions", name := "alter", desc := "(II)I" } : Jvm.MethodName)), (Jvm.Cond.instanceMethod ({ cls := "ShapeSessions", name := "alter", desc := "(II)I" } : Jvm.MethodName)), (Jvm.Cond.selects "ShapeSessions" ({ cls := "ShapeSessions", name := "alter", desc := "(II)I" } : Jvm.MethodName) ({ cls := "ShapeSessions", name := "alter", desc := "(II)I" } : Jvm.MethodName)), (Jvm.Cond.code ({ cls := "ShapeSessions", name := "alter", desc := "(II)I" } : Jvm.MethodName) prog_1_method_2_code (3 : Nat) (Option.some Jvm.ClassFile.FieldType.int)), (Jvm.Cond.methodLink "ShapeSessions" (53 : Nat) ({ cls := "ShapeSessions$State", name := "copyFrom", desc := "(LShapeSessions$State;)V" } : Jvm.MethodName)), (Jvm.Cond.instanceMethod ({ cls := "ShapeSessions$State", name := "copyFrom", desc := "(LShapeSessions$State;)V" } : Jvm.MethodName))]
def ch_2_2 : List Cond := [(Jvm.Cond.selects "ShapeSessions$State" ({ cls := "ShapeSessions$State", name := "copyFrom", desc := "(LShapeSessions$State;)V" } : Jvm.MethodName) ({ cls := "ShapeSessions$State", name := "copyFrom", desc := "(LShapeSessions$State;)V" } : Jvm.MethodName)), (Jvm.Cond.code ({ cls := "ShapeSessions$State", name := "copyFrom", desc := "(LShapeSessions$State;)V" } : Jvm.MethodName) prog_4_method_3_code (3 : Nat) (Option.none : Option Jvm.ClassFile.FieldType)), (Jvm.Cond.methodLink "ShapeSessions$State" (56 : Nat) ({ cls := "ShapeSessions$Session", name := "copyFrom", desc := "(LShapeSessions$Session;)V" } : Jvm.MethodName)), (Jvm.Cond.instanceMethod ({ cls := "ShapeSessions$Session", name := "copyFrom", desc := "(LShapeSessions$Session;)V" } : Jvm.MethodName)), (Jvm.Cond.selects "ShapeSessions$Session" ({ cls := "ShapeSessions$Session", name := "copyFrom", desc := "(LShapeSessions$Session;)V" } : Jvm.MethodName) ({ cls := "ShapeSessions$Session", name := "copyFrom", desc := "(LShapeSessions$Session;)V" } : Jvm.MethodName)), (Jvm.Cond.code ({ cls := "ShapeSessions$Session", name := "copyFrom", desc := "(LShapeSessions$Session;)V" } : Jvm.MethodName) prog_3_method_3_code (3 : Nat) (Option.none : Option Jvm.ClassFile.FieldType)), (Jvm.Cond.methodLink "ShapeSessions$Session" (50 : Nat) ({ cls := "ShapeSessions$Entry", name := "copyFrom", desc := "(LShapeSessions$Entry;)V" } : Jvm.MethodName)), (Jvm.Cond.instanceMethod ({ cls := "ShapeSessions$Entry", name := "copyFrom", desc := "(LShapeSessions$Entry;)V" } : Jvm.MethodName)), (Jvm.Cond.selects "ShapeSessions$Entry" ({ cls := "ShapeSessions$Entry", name := "copyFrom", desc := "(LShapeSessions$Entry;)V" } : Jvm.MethodName) ({ cls := "ShapeSessions$Entry", name := "copyFrom", desc := "(LShapeSessions$Entry;)V" } : Jvm.MethodName)), (Jvm.Cond.code ({ cls := "ShapeSessions$Entry", name := "copyFrom", desc := "(LShapeSessions$Entry;)V" } : Jvm.MethodName) prog_2_method_2_code (2 : Nat) (Option.none : Option Jvm.ClassFile.FieldType)), (Jvm.Cond.methodLink "ShapeSessions$Session" (54 : Nat) ({ cls := "ShapeSessions$Work", name := "copyFrom", desc := "(LShapeSessions$Work;)V" } : Jvm.MethodName)), (Jvm.Cond.instanceMethod ({ cls := "ShapeSessions$Work", name := "copyFrom", desc := "(LShapeSessions$Work;)V" } : Jvm.MethodName))]
def ch_2_3 : List Cond := [(Jvm.Cond.selects "ShapeSessions$Work" ({ cls := "ShapeSessions$Work", name := "copyFrom", desc := "(LShapeSessions$Work;)V" } : Jvm.MethodName) ({ cls := "ShapeSessions$Work", name := "copyFrom", desc := "(LShapeSessions$Work;)V" } : Jvm.MethodName)), (Jvm.Cond.code ({ cls := "ShapeSessions$Work", name := "copyFrom", desc := "(LShapeSessions$Work;)V" } : Jvm.MethodName) prog_6_method_2_code (3 : Nat) (Option.none : Option Jvm.ClassFile.FieldType)), (Jvm.Cond.methodLink "ShapeSessions" (57 : Nat) ({ cls := "ShapeSessions$State", name := "changeTable", desc := "(II)I" } : Jvm.MethodName)), (Jvm.Cond.instanceMethod ({ cls := "ShapeSessions$State", name := "changeTable", desc := "(II)I" } : Jvm.MethodName)), (Jvm.Cond.selects "ShapeSessions$State" ({ cls := "ShapeSessions$State", name := "changeTable", desc := "(II)I" } : Jvm.MethodName) ({ cls := "ShapeSessions$State", name := "changeTable", desc := "(II)I" } : Jvm.MethodName)), (Jvm.Cond.code ({ cls := "ShapeSessions$State", name := "changeTable", desc := "(II)I" } : Jvm.MethodName) prog_4_method_5_code (4 : Nat) (Option.some Jvm.ClassFile.FieldType.int)), (Jvm.Cond.methodLink "ShapeSessions$State" (74 : Nat) ({ cls := "ShapeSessions$State", name := "canChange", desc := "(I)Z" } : Jvm.MethodName)), (Jvm.Cond.instanceMethod ({ cls := "ShapeSessions$State", name := "canChange", desc := "(I)Z" } : Jvm.MethodName)), (Jvm.Cond.selects "ShapeSessions$State" ({ cls := "ShapeSessions$State", name := "canChange", desc := "(I)Z" } : Jvm.MethodName) ({ cls := "ShapeSessions$State", name := "canChange", desc := "(I)Z" } : Jvm.MethodName)), (Jvm.Cond.code ({ cls := "ShapeSessions$State", name := "canChange", desc := "(I)Z" } : Jvm.MethodName) prog_4_method_11_code (3 : Nat) (Option.some Jvm.ClassFile.FieldType.boolean)), (Jvm.Cond.methodLink "ShapeSessions$State" (134 : Nat) ({ cls := "ShapeSessions$State", name := "leastVersionAtWork", desc := "(I)I" } : Jvm.MethodName)), (Jvm.Cond.instanceMethod ({ cls := "ShapeSessions$State", name := "leastVersionAtWork", desc := "(I)I" } : Jvm.MethodName))]
def ch_2_4 : List Cond := [(Jvm.Cond.selects "ShapeSessions$State" ({ cls := "ShapeSessions$State", name := "leastVersionAtWork", desc := "(I)I" } : Jvm.MethodName) ({ cls := "ShapeSessions$State", name := "leastVersionAtWork", desc := "(I)I" } : Jvm.MethodName)), (Jvm.Cond.code ({ cls := "ShapeSessions$State", name := "leastVersionAtWork", desc := "(I)I" } : Jvm.MethodName) prog_4_method_12_code (5 : Nat) (Option.some Jvm.ClassFile.FieldType.int)), (Jvm.Cond.methodLink "ShapeSessions$State" (137 : Nat) ({ cls := "ShapeSessions$Session", name := "leastVersionAtWork", desc := "(I)I" } : Jvm.MethodName)), (Jvm.Cond.instanceMethod ({ cls := "ShapeSessions$Session", name := "leastVersionAtWork", desc := "(I)I" } : Jvm.MethodName)), (Jvm.Cond.selects "ShapeSessions$Session" ({ cls := "ShapeSessions$Session", name := "leastVersionAtWork", desc := "(I)I" } : Jvm.MethodName) ({ cls := "ShapeSessions$Session", name := "leastVersionAtWork", desc := "(I)I" } : Jvm.MethodName)), (Jvm.Cond.code ({ cls := "ShapeSessions$Session", name := "leastVersionAtWork", desc := "(I)I" } : Jvm.MethodName) prog_3_method_12_code (3 : Nat) (Option.some Jvm.ClassFile.FieldType.int)), (Jvm.Cond.methodLink "ShapeSessions$State" (78 : Nat) ({ cls := "ShapeSessions$State", name := "arrive", desc := "(I)V" } : Jvm.MethodName)), (Jvm.Cond.privateMethod ({ cls := "ShapeSessions$State", name := "arrive", desc := "(I)V" } : Jvm.MethodName)), (Jvm.Cond.instanceMethod ({ cls := "ShapeSessions$State", name := "arrive", desc := "(I)V" } : Jvm.MethodName)), (Jvm.Cond.code ({ cls := "ShapeSessions$State", name := "arrive", desc := "(I)V" } : Jvm.MethodName) prog_4_method_9_code (3 : Nat) (Option.none : Option Jvm.ClassFile.FieldType)), (Jvm.Cond.methodLink "ShapeSessions$State" (89 : Nat) ({ cls := "ShapeSessions$Session", name := "learn", desc := "(I[I[I)V" } : Jvm.MethodName)), (Jvm.Cond.instanceMethod ({ cls := "ShapeSessions$Session", name := "learn", desc := "(I[I[I)V" } : Jvm.MethodName))]
def ch_2_5 : List Cond := [(Jvm.Cond.selects "ShapeSessions$Session" ({ cls := "ShapeSessions$Session", name := "learn", desc := "(I[I[I)V" } : Jvm.MethodName) ({ cls := "ShapeSessions$Session", name := "learn", desc := "(I[I[I)V" } : Jvm.MethodName)), (Jvm.Cond.code ({ cls := "ShapeSessions$Session", name := "learn", desc := "(I[I[I)V" } : Jvm.MethodName) prog_3_method_4_code (6 : Nat) (Option.none : Option Jvm.ClassFile.FieldType)), (Jvm.Cond.methodLink "ShapeSessions$Session" (70 : Nat) ({ cls := "ShapeSessions$Session", name := "takeOut", desc := "(I)V" } : Jvm.MethodName)), (Jvm.Cond.privateMethod ({ cls := "ShapeSessions$Session", name := "takeOut", desc := "(I)V" } : Jvm.MethodName)), (Jvm.Cond.instanceMethod ({ cls := "ShapeSessions$Session", name := "takeOut", desc := "(I)V" } : Jvm.MethodName)), (Jvm.Cond.code ({ cls := "ShapeSessions$Session", name := "takeOut", desc := "(I)V" } : Jvm.MethodName) prog_3_method_10_code (4 : Nat) (Option.none : Option Jvm.ClassFile.FieldType)), (Jvm.Cond.methodLink "ShapeSessions" (61 : Nat) ({ cls := "ShapeSessions", name := "settle", desc := "(I)I" } : Jvm.MethodName)), (Jvm.Cond.privateMethod ({ cls := "ShapeSessions", name := "settle", desc := "(I)I" } : Jvm.MethodName)), (Jvm.Cond.instanceMethod ({ cls := "ShapeSessions", name := "settle", desc := "(I)I" } : Jvm.MethodName)), (Jvm.Cond.code ({ cls := "ShapeSessions", name := "settle", desc := "(I)I" } : Jvm.MethodName) prog_1_method_20_code (2 : Nat) (Option.some Jvm.ClassFile.FieldType.int)), (Jvm.Cond.methodLink "ShapeSessions" (217 : Nat) ({ cls := "ShapeSessions", name := "record", desc := "()V" } : Jvm.MethodName)), (Jvm.Cond.privateMethod ({ cls := "ShapeSessions", name := "record", desc := "()V" } : Jvm.MethodName))]
def ch_2_6 : List Cond := [(Jvm.Cond.instanceMethod ({ cls := "ShapeSessions", name := "record", desc := "()V" } : Jvm.MethodName)), (Jvm.Cond.code ({ cls := "ShapeSessions", name := "record", desc := "()V" } : Jvm.MethodName) prog_1_method_21_code (3 : Nat) (Option.none : Option Jvm.ClassFile.FieldType)), (Jvm.Cond.methodLink "ShapeSessionsLaw" (18 : Nat) ({ cls := "ShapeSessions", name := "start", desc := "(II)I" } : Jvm.MethodName)), (Jvm.Cond.instanceMethod ({ cls := "ShapeSessions", name := "start", desc := "(II)I" } : Jvm.MethodName)), (Jvm.Cond.selects "ShapeSessions" ({ cls := "ShapeSessions", name := "start", desc := "(II)I" } : Jvm.MethodName) ({ cls := "ShapeSessions", name := "start", desc := "(II)I" } : Jvm.MethodName)), (Jvm.Cond.code ({ cls := "ShapeSessions", name := "start", desc := "(II)I" } : Jvm.MethodName) prog_1_method_3_code (3 : Nat) (Option.some Jvm.ClassFile.FieldType.int)), (Jvm.Cond.methodLink "ShapeSessions" (65 : Nat) ({ cls := "ShapeSessions$State", name := "begin", desc := "(II)I" } : Jvm.MethodName)), (Jvm.Cond.instanceMethod ({ cls := "ShapeSessions$State", name := "begin", desc := "(II)I" } : Jvm.MethodName)), (Jvm.Cond.selects "ShapeSessions$State" ({ cls := "ShapeSessions$State", name := "begin", desc := "(II)I" } : Jvm.MethodName) ({ cls := "ShapeSessions$State", name := "begin", desc := "(II)I" } : Jvm.MethodName)), (Jvm.Cond.code ({ cls := "ShapeSessions$State", name := "begin", desc := "(II)I" } : Jvm.MethodName) prog_4_method_6_code (6 : Nat) (Option.some Jvm.ClassFile.FieldType.int)), (Jvm.Cond.methodLink "ShapeSessions$State" (82 : Nat) ({ cls := "ShapeSessions$Session", name := "idleWork", desc := "()LShapeSessions$Work;" } : Jvm.MethodName)), (Jvm.Cond.instanceMethod ({ cls := "ShapeSessions$Session", name := "idleWork", desc := "()LShapeSessions$Work;" } : Jvm.MethodName))]
def ch_2_7 : List Cond := [(Jvm.Cond.selects "ShapeSessions$Session" ({ cls := "ShapeSessions$Session", name := "idleWork", desc := "()LShapeSessions$Work;" } : Jvm.MethodName) ({ cls := "ShapeSessions$Session", name := "idleWork", desc := "()LShapeSessions$Work;" } : Jvm.MethodName)), (Jvm.Cond.code ({ cls := "ShapeSessions$Session", name := "idleWork", desc := "()LShapeSessions$Work;" } : Jvm.MethodName) prog_3_method_16_code (1 : Nat) (Option.some (Jvm.ClassFile.FieldType.object "ShapeSessions$Work"))), (Jvm.Cond.methodLink "ShapeSessions$Session" (112 : Nat) ({ cls := "ShapeSessions$Session", name := "workWithNumber", desc := "(I)LShapeSessions$Work;" } : Jvm.MethodName)), (Jvm.Cond.privateMethod ({ cls := "ShapeSessions$Session", name := "workWithNumber", desc := "(I)LShapeSessions$Work;" } : Jvm.MethodName)), (Jvm.Cond.instanceMethod ({ cls := "ShapeSessions$Session", name := "workWithNumber", desc := "(I)LShapeSessions$Work;" } : Jvm.MethodName)), (Jvm.Cond.code ({ cls := "ShapeSessions$Session", name := "workWithNumber", desc := "(I)LShapeSessions$Work;" } : Jvm.MethodName) prog_3_method_18_code (3 : Nat) (Option.some (Jvm.ClassFile.FieldType.object "ShapeSessions$Work"))), (Jvm.Cond.methodLinkNest "ShapeSessions$State" (107 : Nat) ({ cls := "ShapeSessions", name := "contains", desc := "(II)Z" } : Jvm.MethodName) "ShapeSessions"), (Jvm.Cond.static ({ cls := "ShapeSessions", name := "contains", desc := "(II)Z" } : Jvm.MethodName)), (Jvm.Cond.code ({ cls := "ShapeSessions", name := "contains", desc := "(II)Z" } : Jvm.MethodName) prog_1_method_28_code (2 : Nat) (Option.some Jvm.ClassFile.FieldType.boolean)), (Jvm.Cond.methodLink "ShapeSessions$State" (111 : Nat) ({ cls := "ShapeSessions$Session", name := "use", desc := "(LShapeSessions$Work;IIII)Z" } : Jvm.MethodName)), (Jvm.Cond.instanceMethod ({ cls := "ShapeSessions$Session", name := "use", desc := "(LShapeSessions$Work;IIII)Z" } : Jvm.MethodName)), (Jvm.Cond.selects "ShapeSessions$Session" ({ cls := "ShapeSessions$Session", name := "use", desc := "(LShapeSessions$Work;IIII)Z" } : Jvm.MethodName) ({ cls := "ShapeSessions$Session", name := "use", desc := "(LShapeSessions$Work;IIII)Z" } : Jvm.MethodName))]
def ch_2_8 : List Cond := [(Jvm.Cond.code ({ cls := "ShapeSessions$Session", name := "use", desc := "(LShapeSessions$Work;IIII)Z" } : Jvm.MethodName) prog_3_method_5_code (8 : Nat) (Option.some Jvm.ClassFile.FieldType.boolean)), (Jvm.Cond.methodLink "ShapeSessions$Session" (74 : Nat) ({ cls := "ShapeSessions$Session", name := "freshEntryOf", desc := "(I)I" } : Jvm.MethodName)), (Jvm.Cond.instanceMethod ({ cls := "ShapeSessions$Session", name := "freshEntryOf", desc := "(I)I" } : Jvm.MethodName)), (Jvm.Cond.selects "ShapeSessions$Session" ({ cls := "ShapeSessions$Session", name := "freshEntryOf", desc := "(I)I" } : Jvm.MethodName) ({ cls := "ShapeSessions$Session", name := "freshEntryOf", desc := "(I)I" } : Jvm.MethodName)), (Jvm.Cond.code ({ cls := "ShapeSessions$Session", name := "freshEntryOf", desc := "(I)I" } : Jvm.MethodName) prog_3_method_11_code (3 : Nat) (Option.some Jvm.ClassFile.FieldType.int)), (Jvm.Cond.methodLink "ShapeSessions$Session" (78 : Nat) ({ cls := "ShapeSessions$Session", name := "shrinkTo", desc := "(I)V" } : Jvm.MethodName)), (Jvm.Cond.instanceMethod ({ cls := "ShapeSessions$Session", name := "shrinkTo", desc := "(I)V" } : Jvm.MethodName)), (Jvm.Cond.selects "ShapeSessions$Session" ({ cls := "ShapeSessions$Session", name := "shrinkTo", desc := "(I)V" } : Jvm.MethodName) ({ cls := "ShapeSessions$Session", name := "shrinkTo", desc := "(I)V" } : Jvm.MethodName)), (Jvm.Cond.code ({ cls := "ShapeSessions$Session", name := "shrinkTo", desc := "(I)V" } : Jvm.MethodName) prog_3_method_7_code (4 : Nat) (Option.none : Option Jvm.ClassFile.FieldType)), (Jvm.Cond.methodLink "ShapeSessions$Session" (95 : Nat) ({ cls := "ShapeSessions$Session", name := "longestUnused", desc := "()I" } : Jvm.MethodName)), (Jvm.Cond.privateMethod ({ cls := "ShapeSessions$Session", name := "longestUnused", desc := "()I" } : Jvm.MethodName)), (Jvm.Cond.instanceMethod ({ cls := "ShapeSessions$Session", name := "longestUnused", desc := "()I" } : Jvm.MethodName))]
def ch_2_9 : List Cond := [(Jvm.Cond.code ({ cls := "ShapeSessions$Session", name := "longestUnused", desc := "()I" } : Jvm.MethodName) prog_3_method_8_code (3 : Nat) (Option.some Jvm.ClassFile.FieldType.int)), (Jvm.Cond.methodLink "ShapeSessions$Session" (81 : Nat) ({ cls := "ShapeSessions$Session", name := "putIn", desc := "(III)I" } : Jvm.MethodName)), (Jvm.Cond.privateMethod ({ cls := "ShapeSessions$Session", name := "putIn", desc := "(III)I" } : Jvm.MethodName)), (Jvm.Cond.instanceMethod ({ cls := "ShapeSessions$Session", name := "putIn", desc := "(III)I" } : Jvm.MethodName)), (Jvm.Cond.code ({ cls := "ShapeSessions$Session", name := "putIn", desc := "(III)I" } : Jvm.MethodName) prog_3_method_9_code (6 : Nat) (Option.some Jvm.ClassFile.FieldType.int)), (Jvm.Cond.methodLink "ShapeSessions$Session" (99 : Nat) ({ cls := "ShapeSessions$Entry", name := "comesBehind", desc := "(II)Z" } : Jvm.MethodName)), (Jvm.Cond.instanceMethod ({ cls := "ShapeSessions$Entry", name := "comesBehind", desc := "(II)Z" } : Jvm.MethodName)), (Jvm.Cond.selects "ShapeSessions$Entry" ({ cls := "ShapeSessions$Entry", name := "comesBehind", desc := "(II)Z" } : Jvm.MethodName) ({ cls := "ShapeSessions$Entry", name := "comesBehind", desc := "(II)Z" } : Jvm.MethodName)), (Jvm.Cond.code ({ cls := "ShapeSessions$Entry", name := "comesBehind", desc := "(II)Z" } : Jvm.MethodName) prog_2_method_3_code (3 : Nat) (Option.some Jvm.ClassFile.FieldType.boolean)), (Jvm.Cond.methodLink "ShapeSessionsLaw" (22 : Nat) ({ cls := "ShapeSessions", name := "end", desc := "(I)I" } : Jvm.MethodName)), (Jvm.Cond.instanceMethod ({ cls := "ShapeSessions", name := "end", desc := "(I)I" } : Jvm.MethodName)), (Jvm.Cond.selects "ShapeSessions" ({ cls := "ShapeSessions", name := "end", desc := "(I)I" } : Jvm.MethodName) ({ cls := "ShapeSessions", name := "end", desc := "(I)I" } : Jvm.MethodName))]
def ch_2_10 : List Cond := [(Jvm.Cond.code ({ cls := "ShapeSessions", name := "end", desc := "(I)I" } : Jvm.MethodName) prog_1_method_4_code (2 : Nat) (Option.some Jvm.ClassFile.FieldType.int)), (Jvm.Cond.methodLink "ShapeSessions" (68 : Nat) ({ cls := "ShapeSessions$State", name := "finish", desc := "(I)I" } : Jvm.MethodName)), (Jvm.Cond.instanceMethod ({ cls := "ShapeSessions$State", name := "finish", desc := "(I)I" } : Jvm.MethodName)), (Jvm.Cond.selects "ShapeSessions$State" ({ cls := "ShapeSessions$State", name := "finish", desc := "(I)I" } : Jvm.MethodName) ({ cls := "ShapeSessions$State", name := "finish", desc := "(I)I" } : Jvm.MethodName)), (Jvm.Cond.code ({ cls := "ShapeSessions$State", name := "finish", desc := "(I)I" } : Jvm.MethodName) prog_4_method_7_code (4 : Nat) (Option.some Jvm.ClassFile.FieldType.int)), (Jvm.Cond.methodLink "ShapeSessions$State" (115 : Nat) ({ cls := "ShapeSessions$Session", name := "workOf", desc := "(I)LShapeSessions$Work;" } : Jvm.MethodName)), (Jvm.Cond.instanceMethod ({ cls := "ShapeSessions$Session", name := "workOf", desc := "(I)LShapeSessions$Work;" } : Jvm.MethodName)), (Jvm.Cond.selects "ShapeSessions$Session" ({ cls := "ShapeSessions$Session", name := "workOf", desc := "(I)LShapeSessions$Work;" } : Jvm.MethodName) ({ cls := "ShapeSessions$Session", name := "workOf", desc := "(I)LShapeSessions$Work;" } : Jvm.MethodName)), (Jvm.Cond.code ({ cls := "ShapeSessions$Session", name := "workOf", desc := "(I)LShapeSessions$Work;" } : Jvm.MethodName) prog_3_method_17_code (2 : Nat) (Option.some (Jvm.ClassFile.FieldType.object "ShapeSessions$Work"))), (Jvm.Cond.methodLink "ShapeSessions$State" (119 : Nat) ({ cls := "ShapeSessions$Session", name := "release", desc := "(LShapeSessions$Work;I)I" } : Jvm.MethodName)), (Jvm.Cond.instanceMethod ({ cls := "ShapeSessions$Session", name := "release", desc := "(LShapeSessions$Work;I)I" } : Jvm.MethodName)), (Jvm.Cond.selects "ShapeSessions$Session" ({ cls := "ShapeSessions$Session", name := "release", desc := "(LShapeSessions$Work;I)I" } : Jvm.MethodName) ({ cls := "ShapeSessions$Session", name := "release", desc := "(LShapeSessions$Work;I)I" } : Jvm.MethodName))]
def ch_2_11 : List Cond := [(Jvm.Cond.code ({ cls := "ShapeSessions$Session", name := "release", desc := "(LShapeSessions$Work;I)I" } : Jvm.MethodName) prog_3_method_6_code (6 : Nat) (Option.some Jvm.ClassFile.FieldType.int)), (Jvm.Cond.methodLink "ShapeSessions$Session" (91 : Nat) ({ cls := "ShapeSessions$Work", name := "worksBy", desc := "(LShapeSessions$Entry;)Z" } : Jvm.MethodName)), (Jvm.Cond.instanceMethod ({ cls := "ShapeSessions$Work", name := "worksBy", desc := "(LShapeSessions$Entry;)Z" } : Jvm.MethodName)), (Jvm.Cond.selects "ShapeSessions$Work" ({ cls := "ShapeSessions$Work", name := "worksBy", desc := "(LShapeSessions$Entry;)Z" } : Jvm.MethodName) ({ cls := "ShapeSessions$Work", name := "worksBy", desc := "(LShapeSessions$Entry;)Z" } : Jvm.MethodName)), (Jvm.Cond.code ({ cls := "ShapeSessions$Work", name := "worksBy", desc := "(LShapeSessions$Entry;)Z" } : Jvm.MethodName) prog_6_method_3_code (2 : Nat) (Option.some Jvm.ClassFile.FieldType.boolean)), (Jvm.Cond.methodLinkNest "ShapeSessions$Work" (30 : Nat) ({ cls := "ShapeSessions", name := "contains", desc := "(II)Z" } : Jvm.MethodName) "ShapeSessions"), (Jvm.Cond.methodLink "ShapeSessionsLaw" (27 : Nat) ({ cls := "ShapeSessions", name := "tick", desc := "(I)I" } : Jvm.MethodName)), (Jvm.Cond.instanceMethod ({ cls := "ShapeSessions", name := "tick", desc := "(I)I" } : Jvm.MethodName)), (Jvm.Cond.selects "ShapeSessions" ({ cls := "ShapeSessions", name := "tick", desc := "(I)I" } : Jvm.MethodName) ({ cls := "ShapeSessions", name := "tick", desc := "(I)I" } : Jvm.MethodName)), (Jvm.Cond.code ({ cls := "ShapeSessions", name := "tick", desc := "(I)I" } : Jvm.MethodName) prog_1_method_5_code (2 : Nat) (Option.some Jvm.ClassFile.FieldType.int)), (Jvm.Cond.methodLink "ShapeSessions" (71 : Nat) ({ cls := "ShapeSessions$State", name := "pass", desc := "(I)I" } : Jvm.MethodName)), (Jvm.Cond.instanceMethod ({ cls := "ShapeSessions$State", name := "pass", desc := "(I)I" } : Jvm.MethodName))]
def ch_2_12 : List Cond := [(Jvm.Cond.selects "ShapeSessions$State" ({ cls := "ShapeSessions$State", name := "pass", desc := "(I)I" } : Jvm.MethodName) ({ cls := "ShapeSessions$State", name := "pass", desc := "(I)I" } : Jvm.MethodName)), (Jvm.Cond.code ({ cls := "ShapeSessions$State", name := "pass", desc := "(I)I" } : Jvm.MethodName) prog_4_method_8_code (6 : Nat) (Option.some Jvm.ClassFile.FieldType.int)), (Jvm.Cond.methodLink "ShapeSessions$State" (123 : Nat) ({ cls := "java/lang/Math", name := "min", desc := "(II)I" } : Jvm.MethodName)), (Jvm.Cond.static ({ cls := "java/lang/Math", name := "min", desc := "(II)I" } : Jvm.MethodName)), (Jvm.Cond.code ({ cls := "java/lang/Math", name := "min", desc := "(II)I" } : Jvm.MethodName) prog_9_method_69_code (2 : Nat) (Option.some Jvm.ClassFile.FieldType.int)), (Jvm.Cond.methodLink "ShapeSessionsLaw" (31 : Nat) ({ cls := "ShapeSessions", name := "set", desc := "(II)I" } : Jvm.MethodName)), (Jvm.Cond.instanceMethod ({ cls := "ShapeSessions", name := "set", desc := "(II)I" } : Jvm.MethodName)), (Jvm.Cond.selects "ShapeSessions" ({ cls := "ShapeSessions", name := "set", desc := "(II)I" } : Jvm.MethodName) ({ cls := "ShapeSessions", name := "set", desc := "(II)I" } : Jvm.MethodName)), (Jvm.Cond.code ({ cls := "ShapeSessions", name := "set", desc := "(II)I" } : Jvm.MethodName) prog_1_method_6_code (3 : Nat) (Option.some Jvm.ClassFile.FieldType.int)), (Jvm.Cond.methodLink "ShapeSessions" (74 : Nat) ({ cls := "ShapeSessions$State", name := "adjust", desc := "(II)I" } : Jvm.MethodName)), (Jvm.Cond.instanceMethod ({ cls := "ShapeSessions$State", name := "adjust", desc := "(II)I" } : Jvm.MethodName)), (Jvm.Cond.selects "ShapeSessions$State" ({ cls := "ShapeSessions$State", name := "adjust", desc := "(II)I" } : Jvm.MethodName) ({ cls := "ShapeSessions$State", name := "adjust", desc := "(II)I" } : Jvm.MethodName))]
def ch_2_13 : List Cond := [(Jvm.Cond.code ({ cls := "ShapeSessions$State", name := "adjust", desc := "(II)I" } : Jvm.MethodName) prog_4_method_10_code (5 : Nat) (Option.some Jvm.ClassFile.FieldType.int)), (Jvm.Cond.methodLink "ShapeSessions$State" (131 : Nat) ({ cls := "ShapeSessions$Session", name := "shrinkTo", desc := "(I)V" } : Jvm.MethodName)), (Jvm.Cond.methodLink "ShapeSessionsLaw" (35 : Nat) ({ cls := "ShapeSessions", name := "tableOf", desc := "(II)I" } : Jvm.MethodName)), (Jvm.Cond.instanceMethod ({ cls := "ShapeSessions", name := "tableOf", desc := "(II)I" } : Jvm.MethodName)), (Jvm.Cond.selects "ShapeSessions" ({ cls := "ShapeSessions", name := "tableOf", desc := "(II)I" } : Jvm.MethodName) ({ cls := "ShapeSessions", name := "tableOf", desc := "(II)I" } : Jvm.MethodName)), (Jvm.Cond.code ({ cls := "ShapeSessions", name := "tableOf", desc := "(II)I" } : Jvm.MethodName) prog_1_method_7_code (3 : Nat) (Option.some Jvm.ClassFile.FieldType.int)), (Jvm.Cond.methodLink "ShapeSessions" (84 : Nat) ({ cls := "ShapeSessions$State", name := "leastVersionAtWork", desc := "(I)I" } : Jvm.MethodName)), (Jvm.Cond.methodLink "ShapeSessions" (87 : Nat) ({ cls := "ShapeSessions$State", name := "handsWith", desc := "(I)I" } : Jvm.MethodName)), (Jvm.Cond.instanceMethod ({ cls := "ShapeSessions$State", name := "handsWith", desc := "(I)I" } : Jvm.MethodName)), (Jvm.Cond.selects "ShapeSessions$State" ({ cls := "ShapeSessions$State", name := "handsWith", desc := "(I)I" } : Jvm.MethodName) ({ cls := "ShapeSessions$State", name := "handsWith", desc := "(I)I" } : Jvm.MethodName)), (Jvm.Cond.code ({ cls := "ShapeSessions$State", name := "handsWith", desc := "(I)I" } : Jvm.MethodName) prog_4_method_13_code (4 : Nat) (Option.some Jvm.ClassFile.FieldType.int)), (Jvm.Cond.methodLink "ShapeSessions$State" (138 : Nat) ({ cls := "ShapeSessions$Session", name := "freshEntryOf", desc := "(I)I" } : Jvm.MethodName))]
def ch_2_14 : List Cond := [(Jvm.Cond.methodLink "ShapeSessions" (90 : Nat) ({ cls := "ShapeSessions$State", name := "canChange", desc := "(I)Z" } : Jvm.MethodName)), (Jvm.Cond.methodLink "ShapeSessionsLaw" (39 : Nat) ({ cls := "ShapeSessions", name := "sessionOf", desc := "(II)I" } : Jvm.MethodName)), (Jvm.Cond.instanceMethod ({ cls := "ShapeSessions", name := "sessionOf", desc := "(II)I" } : Jvm.MethodName)), (Jvm.Cond.selects "ShapeSessions" ({ cls := "ShapeSessions", name := "sessionOf", desc := "(II)I" } : Jvm.MethodName) ({ cls := "ShapeSessions", name := "sessionOf", desc := "(II)I" } : Jvm.MethodName)), (Jvm.Cond.code ({ cls := "ShapeSessions", name := "sessionOf", desc := "(II)I" } : Jvm.MethodName) prog_1_method_8_code (4 : Nat) (Option.some Jvm.ClassFile.FieldType.int)), (Jvm.Cond.methodLink "ShapeSessions" (103 : Nat) ({ cls := "ShapeSessions$State", name := "noticesOnTheirWay", desc := "()I" } : Jvm.MethodName)), (Jvm.Cond.instanceMethod ({ cls := "ShapeSessions$State", name := "noticesOnTheirWay", desc := "()I" } : Jvm.MethodName)), (Jvm.Cond.selects "ShapeSessions$State" ({ cls := "ShapeSessions$State", name := "noticesOnTheirWay", desc := "()I" } : Jvm.MethodName) ({ cls := "ShapeSessions$State", name := "noticesOnTheirWay", desc := "()I" } : Jvm.MethodName)), (Jvm.Cond.code ({ cls := "ShapeSessions$State", name := "noticesOnTheirWay", desc := "()I" } : Jvm.MethodName) prog_4_method_15_code (3 : Nat) (Option.some Jvm.ClassFile.FieldType.int)), (Jvm.Cond.methodLink "ShapeSessions" (110 : Nat) ({ cls := "ShapeSessions$Session", name := "staleInHand", desc := "()I" } : Jvm.MethodName)), (Jvm.Cond.instanceMethod ({ cls := "ShapeSessions$Session", name := "staleInHand", desc := "()I" } : Jvm.MethodName)), (Jvm.Cond.selects "ShapeSessions$Session" ({ cls := "ShapeSessions$Session", name := "staleInHand", desc := "()I" } : Jvm.MethodName) ({ cls := "ShapeSessions$Session", name := "staleInHand", desc := "()I" } : Jvm.MethodName))]
def ch_2_15 : List Cond := [(Jvm.Cond.code ({ cls := "ShapeSessions$Session", name := "staleInHand", desc := "()I" } : Jvm.MethodName) prog_3_method_13_code (3 : Nat) (Option.some Jvm.ClassFile.FieldType.int)), (Jvm.Cond.methodLink "ShapeSessions" (113 : Nat) ({ cls := "ShapeSessions$Session", name := "statementsAtWork", desc := "()I" } : Jvm.MethodName)), (Jvm.Cond.instanceMethod ({ cls := "ShapeSessions$Session", name := "statementsAtWork", desc := "()I" } : Jvm.MethodName)), (Jvm.Cond.selects "ShapeSessions$Session" ({ cls := "ShapeSessions$Session", name := "statementsAtWork", desc := "()I" } : Jvm.MethodName) ({ cls := "ShapeSessions$Session", name := "statementsAtWork", desc := "()I" } : Jvm.MethodName)), (Jvm.Cond.code ({ cls := "ShapeSessions$Session", name := "statementsAtWork", desc := "()I" } : Jvm.MethodName) prog_3_method_14_code (3 : Nat) (Option.some Jvm.ClassFile.FieldType.int)), (Jvm.Cond.methodLink "ShapeSessionsLaw" (43 : Nat) ({ cls := "ShapeSessions", name := "entry", desc := "(III)I" } : Jvm.MethodName)), (Jvm.Cond.instanceMethod ({ cls := "ShapeSessions", name := "entry", desc := "(III)I" } : Jvm.MethodName)), (Jvm.Cond.selects "ShapeSessions" ({ cls := "ShapeSessions", name := "entry", desc := "(III)I" } : Jvm.MethodName) ({ cls := "ShapeSessions", name := "entry", desc := "(III)I" } : Jvm.MethodName)), (Jvm.Cond.code ({ cls := "ShapeSessions", name := "entry", desc := "(III)I" } : Jvm.MethodName) prog_1_method_9_code (6 : Nat) (Option.some Jvm.ClassFile.FieldType.int)), (Jvm.Cond.methodLink "ShapeSessionsLaw" (48 : Nat) ({ cls := "ShapeSessions", name := "statement", desc := "(II)I" } : Jvm.MethodName)), (Jvm.Cond.instanceMethod ({ cls := "ShapeSessions", name := "statement", desc := "(II)I" } : Jvm.MethodName)), (Jvm.Cond.selects "ShapeSessions" ({ cls := "ShapeSessions", name := "statement", desc := "(II)I" } : Jvm.MethodName) ({ cls := "ShapeSessions", name := "statement", desc := "(II)I" } : Jvm.MethodName))]
def ch_2_16 : List Cond := [(Jvm.Cond.code ({ cls := "ShapeSessions", name := "statement", desc := "(II)I" } : Jvm.MethodName) prog_1_method_10_code (5 : Nat) (Option.some Jvm.ClassFile.FieldType.int)), (Jvm.Cond.methodLink "ShapeSessions" (153 : Nat) ({ cls := "ShapeSessions$State", name := "sessionWith", desc := "(I)I" } : Jvm.MethodName)), (Jvm.Cond.instanceMethod ({ cls := "ShapeSessions$State", name := "sessionWith", desc := "(I)I" } : Jvm.MethodName)), (Jvm.Cond.selects "ShapeSessions$State" ({ cls := "ShapeSessions$State", name := "sessionWith", desc := "(I)I" } : Jvm.MethodName) ({ cls := "ShapeSessions$State", name := "sessionWith", desc := "(I)I" } : Jvm.MethodName)), (Jvm.Cond.code ({ cls := "ShapeSessions$State", name := "sessionWith", desc := "(I)I" } : Jvm.MethodName) prog_4_method_16_code (3 : Nat) (Option.some Jvm.ClassFile.FieldType.int)), (Jvm.Cond.methodLink "ShapeSessions" (156 : Nat) ({ cls := "ShapeSessions$Session", name := "workOf", desc := "(I)LShapeSessions$Work;" } : Jvm.MethodName)), (Jvm.Cond.methodLink "ShapeSessions" (168 : Nat) ({ cls := "ShapeSessions$Work", name := "outrunBy", desc := "([I)I" } : Jvm.MethodName)), (Jvm.Cond.instanceMethod ({ cls := "ShapeSessions$Work", name := "outrunBy", desc := "([I)I" } : Jvm.MethodName)), (Jvm.Cond.selects "ShapeSessions$Work" ({ cls := "ShapeSessions$Work", name := "outrunBy", desc := "([I)I" } : Jvm.MethodName) ({ cls := "ShapeSessions$Work", name := "outrunBy", desc := "([I)I" } : Jvm.MethodName)), (Jvm.Cond.code ({ cls := "ShapeSessions$Work", name := "outrunBy", desc := "([I)I" } : Jvm.MethodName) prog_6_method_4_code (4 : Nat) (Option.some Jvm.ClassFile.FieldType.int)), (Jvm.Cond.methodLink "ShapeSessionsLaw" (52 : Nat) ({ cls := "ShapeSessions", name := "notice", desc := "(I)I" } : Jvm.MethodName)), (Jvm.Cond.instanceMethod ({ cls := "ShapeSessions", name := "notice", desc := "(I)I" } : Jvm.MethodName))]
def ch_2_17 : List Cond := [(Jvm.Cond.selects "ShapeSessions" ({ cls := "ShapeSessions", name := "notice", desc := "(I)I" } : Jvm.MethodName) ({ cls := "ShapeSessions", name := "notice", desc := "(I)I" } : Jvm.MethodName)), (Jvm.Cond.code ({ cls := "ShapeSessions", name := "notice", desc := "(I)I" } : Jvm.MethodName) prog_1_method_11_code (2 : Nat) (Option.some Jvm.ClassFile.FieldType.int)), (Jvm.Cond.methodLink "ShapeSessionsLaw" (56 : Nat) ({ cls := "ShapeSessions", name := "count", desc := "(I)I" } : Jvm.MethodName)), (Jvm.Cond.instanceMethod ({ cls := "ShapeSessions", name := "count", desc := "(I)I" } : Jvm.MethodName)), (Jvm.Cond.selects "ShapeSessions" ({ cls := "ShapeSessions", name := "count", desc := "(I)I" } : Jvm.MethodName) ({ cls := "ShapeSessions", name := "count", desc := "(I)I" } : Jvm.MethodName)), (Jvm.Cond.code ({ cls := "ShapeSessions", name := "count", desc := "(I)I" } : Jvm.MethodName) prog_1_method_12_code (2 : Nat) (Option.some Jvm.ClassFile.FieldType.int)), (Jvm.Cond.methodLink "ShapeSessions" (184 : Nat) ({ cls := "ShapeSessions$State", name := "statementsAtWork", desc := "()I" } : Jvm.MethodName)), (Jvm.Cond.instanceMethod ({ cls := "ShapeSessions$State", name := "statementsAtWork", desc := "()I" } : Jvm.MethodName)), (Jvm.Cond.selects "ShapeSessions$State" ({ cls := "ShapeSessions$State", name := "statementsAtWork", desc := "()I" } : Jvm.MethodName) ({ cls := "ShapeSessions$State", name := "statementsAtWork", desc := "()I" } : Jvm.MethodName)), (Jvm.Cond.code ({ cls := "ShapeSessions$State", name := "statementsAtWork", desc := "()I" } : Jvm.MethodName) prog_4_method_17_code (3 : Nat) (Option.some Jvm.ClassFile.FieldType.int)), (Jvm.Cond.methodLink "ShapeSessions$State" (141 : Nat) ({ cls := "ShapeSessions$Session", name := "statementsAtWork", desc := "()I" } : Jvm.MethodName)), (Jvm.Cond.methodLink "ShapeSessions" (188 : Nat) ({ cls := "ShapeSessions$State", name := "tablesThatCanChange", desc := "()I" } : Jvm.MethodName))]
def ch_2_18 : List Cond := [(Jvm.Cond.instanceMethod ({ cls := "ShapeSessions$State", name := "tablesThatCanChange", desc := "()I" } : Jvm.MethodName)), (Jvm.Cond.selects "ShapeSessions$State" ({ cls := "ShapeSessions$State", name := "tablesThatCanChange", desc := "()I" } : Jvm.MethodName) ({ cls := "ShapeSessions$State", name := "tablesThatCanChange", desc := "()I" } : Jvm.MethodName)), (Jvm.Cond.code ({ cls := "ShapeSessions$State", name := "tablesThatCanChange", desc := "()I" } : Jvm.MethodName) prog_4_method_14_code (3 : Nat) (Option.some Jvm.ClassFile.FieldType.int)), (Jvm.Cond.methodLink "ShapeSessions" (191 : Nat) ({ cls := "ShapeSessions$State", name := "loadsOfAll", desc := "()I" } : Jvm.MethodName)), (Jvm.Cond.instanceMethod ({ cls := "ShapeSessions$State", name := "loadsOfAll", desc := "()I" } : Jvm.MethodName)), (Jvm.Cond.selects "ShapeSessions$State" ({ cls := "ShapeSessions$State", name := "loadsOfAll", desc := "()I" } : Jvm.MethodName) ({ cls := "ShapeSessions$State", name := "loadsOfAll", desc := "()I" } : Jvm.MethodName)), (Jvm.Cond.code ({ cls := "ShapeSessions$State", name := "loadsOfAll", desc := "()I" } : Jvm.MethodName) prog_4_method_18_code (3 : Nat) (Option.some Jvm.ClassFile.FieldType.int)), (Jvm.Cond.methodLink "ShapeSessionsLaw" (60 : Nat) ({ cls := "ShapeSessions", name := "would", desc := "(III)I" } : Jvm.MethodName)), (Jvm.Cond.instanceMethod ({ cls := "ShapeSessions", name := "would", desc := "(III)I" } : Jvm.MethodName)), (Jvm.Cond.selects "ShapeSessions" ({ cls := "ShapeSessions", name := "would", desc := "(III)I" } : Jvm.MethodName) ({ cls := "ShapeSessions", name := "would", desc := "(III)I" } : Jvm.MethodName)), (Jvm.Cond.code ({ cls := "ShapeSessions", name := "would", desc := "(III)I" } : Jvm.MethodName) prog_1_method_13_code (7 : Nat) (Option.some Jvm.ClassFile.FieldType.int)), (Jvm.Cond.methodLink "ShapeSessionsLaw" (64 : Nat) ({ cls := "ShapeSessions", name := "inTheWay", desc := "(I)I" } : Jvm.MethodName))]
def ch_2_19 : List Cond := [(Jvm.Cond.instanceMethod ({ cls := "ShapeSessions", name := "inTheWay", desc := "(I)I" } : Jvm.MethodName)), (Jvm.Cond.selects "ShapeSessions" ({ cls := "ShapeSessions", name := "inTheWay", desc := "(I)I" } : Jvm.MethodName) ({ cls := "ShapeSessions", name := "inTheWay", desc := "(I)I" } : Jvm.MethodName)), (Jvm.Cond.code ({ cls := "ShapeSessions", name := "inTheWay", desc := "(I)I" } : Jvm.MethodName) prog_1_method_14_code (5 : Nat) (Option.some Jvm.ClassFile.FieldType.int)), (Jvm.Cond.methodLink "ShapeSessions" (200 : Nat) ({ cls := "ShapeSessions$Session", name := "lowestBehind", desc := "(II)I" } : Jvm.MethodName)), (Jvm.Cond.instanceMethod ({ cls := "ShapeSessions$Session", name := "lowestBehind", desc := "(II)I" } : Jvm.MethodName)), (Jvm.Cond.selects "ShapeSessions$Session" ({ cls := "ShapeSessions$Session", name := "lowestBehind", desc := "(II)I" } : Jvm.MethodName) ({ cls := "ShapeSessions$Session", name := "lowestBehind", desc := "(II)I" } : Jvm.MethodName)), (Jvm.Cond.code ({ cls := "ShapeSessions$Session", name := "lowestBehind", desc := "(II)I" } : Jvm.MethodName) prog_3_method_15_code (7 : Nat) (Option.some Jvm.ClassFile.FieldType.int)), (Jvm.Cond.methodLinkNest "ShapeSessions$Session" (109 : Nat) ({ cls := "ShapeSessions", name := "contains", desc := "(II)Z" } : Jvm.MethodName) "ShapeSessions"), (Jvm.Cond.methodLink "ShapeSessionsLaw" (68 : Nat) ({ cls := "ShapeSessions", name := "bestRoom", desc := "(I)I" } : Jvm.MethodName)), (Jvm.Cond.instanceMethod ({ cls := "ShapeSessions", name := "bestRoom", desc := "(I)I" } : Jvm.MethodName)), (Jvm.Cond.selects "ShapeSessions" ({ cls := "ShapeSessions", name := "bestRoom", desc := "(I)I" } : Jvm.MethodName) ({ cls := "ShapeSessions", name := "bestRoom", desc := "(I)I" } : Jvm.MethodName)), (Jvm.Cond.code ({ cls := "ShapeSessions", name := "bestRoom", desc := "(I)I" } : Jvm.MethodName) prog_1_method_15_code (6 : Nat) (Option.some Jvm.ClassFile.FieldType.int))]
set_option maxRecDepth 20000 in
theorem tb_2 : tables_1_2 = ch_2_0 ++ (ch_2_1 ++ (ch_2_2 ++ (ch_2_3 ++ (ch_2_4 ++ (ch_2_5 ++ (ch_2_6 ++ (ch_2_7 ++ (ch_2_8 ++ (ch_2_9 ++ (ch_2_10 ++ (ch_2_11 ++ (ch_2_12 ++ (ch_2_13 ++ (ch_2_14 ++ (ch_2_15 ++ (ch_2_16 ++ (ch_2_17 ++ (ch_2_18 ++ (ch_2_19))))))))))))))))))) := rfl
def ch_3_0 : List Cond := [(Jvm.Cond.methodLink "ShapeSessions" (203 : Nat) ({ cls := "ShapeSessions", name := "loadsWithRoom", desc := "(I)I" } : Jvm.MethodName)), (Jvm.Cond.privateMethod ({ cls := "ShapeSessions", name := "loadsWithRoom", desc := "(I)I" } : Jvm.MethodName)), (Jvm.Cond.instanceMethod ({ cls := "ShapeSessions", name := "loadsWithRoom", desc := "(I)I" } : Jvm.MethodName)), (Jvm.Cond.code ({ cls := "ShapeSessions", name := "loadsWithRoom", desc := "(I)I" } : Jvm.MethodName) prog_1_method_16_code (5 : Nat) (Option.some Jvm.ClassFile.FieldType.int)), (Jvm.Cond.methodLink "ShapeSessions" (206 : Nat) ({ cls := "java/lang/Math", name := "max", desc := "(II)I" } : Jvm.MethodName)), (Jvm.Cond.static ({ cls := "java/lang/Math", name := "max", desc := "(II)I" } : Jvm.MethodName)), (Jvm.Cond.code ({ cls := "java/lang/Math", name := "max", desc := "(II)I" } : Jvm.MethodName) prog_9_method_65_code (2 : Nat) (Option.some Jvm.ClassFile.FieldType.int)), (Jvm.Cond.methodLink "ShapeSessionsLaw" (72 : Nat) ({ cls := "ShapeSessions", name := "keep", desc := "()I" } : Jvm.MethodName)), (Jvm.Cond.instanceMethod ({ cls := "ShapeSessions", name := "keep", desc := "()I" } : Jvm.MethodName)), (Jvm.Cond.selects "ShapeSessions" ({ cls := "ShapeSessions", name := "keep", desc := "()I" } : Jvm.MethodName) ({ cls := "ShapeSessions", name := "keep", desc := "()I" } : Jvm.MethodName)), (Jvm.Cond.code ({ cls := "ShapeSessions", name := "keep", desc := "()I" } : Jvm.MethodName) prog_1_method_17_code (1 : Nat) (Option.some Jvm.ClassFile.FieldType.int)), (Jvm.Cond.methodLink "ShapeSessionsLaw" (77 : Nat) ({ cls := "ShapeSessions", name := "restore", desc := "()I" } : Jvm.MethodName))]
def ch_3_1 : List Cond := [(Jvm.Cond.instanceMethod ({ cls := "ShapeSessions", name := "restore", desc := "()I" } : Jvm.MethodName)), (Jvm.Cond.selects "ShapeSessions" ({ cls := "ShapeSessions", name := "restore", desc := "()I" } : Jvm.MethodName) ({ cls := "ShapeSessions", name := "restore", desc := "()I" } : Jvm.MethodName)), (Jvm.Cond.code ({ cls := "ShapeSessions", name := "restore", desc := "()I" } : Jvm.MethodName) prog_1_method_18_code (1 : Nat) (Option.some Jvm.ClassFile.FieldType.int)), (Jvm.Cond.methodLink "ShapeSessionsLaw" (81 : Nat) ({ cls := "ShapeSessions", name := "undo", desc := "()I" } : Jvm.MethodName)), (Jvm.Cond.instanceMethod ({ cls := "ShapeSessions", name := "undo", desc := "()I" } : Jvm.MethodName)), (Jvm.Cond.selects "ShapeSessions" ({ cls := "ShapeSessions", name := "undo", desc := "()I" } : Jvm.MethodName) ({ cls := "ShapeSessions", name := "undo", desc := "()I" } : Jvm.MethodName)), (Jvm.Cond.code ({ cls := "ShapeSessions", name := "undo", desc := "()I" } : Jvm.MethodName) prog_1_method_19_code (2 : Nat) (Option.some Jvm.ClassFile.FieldType.int)), (Jvm.Cond.methodLink "ShapeSessionsLaw" (85 : Nat) ({ cls := "ShapeSessions", name := "type", desc := "(I)I" } : Jvm.MethodName)), (Jvm.Cond.instanceMethod ({ cls := "ShapeSessions", name := "type", desc := "(I)I" } : Jvm.MethodName)), (Jvm.Cond.selects "ShapeSessions" ({ cls := "ShapeSessions", name := "type", desc := "(I)I" } : Jvm.MethodName) ({ cls := "ShapeSessions", name := "type", desc := "(I)I" } : Jvm.MethodName)), (Jvm.Cond.code ({ cls := "ShapeSessions", name := "type", desc := "(I)I" } : Jvm.MethodName) prog_1_method_22_code (2 : Nat) (Option.some Jvm.ClassFile.FieldType.int)), (Jvm.Cond.methodLink "ShapeSessionsLaw" (89 : Nat) ({ cls := "ShapeSessions", name := "clearText", desc := "()I" } : Jvm.MethodName))]
def ch_3_2 : List Cond := [(Jvm.Cond.instanceMethod ({ cls := "ShapeSessions", name := "clearText", desc := "()I" } : Jvm.MethodName)), (Jvm.Cond.selects "ShapeSessions" ({ cls := "ShapeSessions", name := "clearText", desc := "()I" } : Jvm.MethodName) ({ cls := "ShapeSessions", name := "clearText", desc := "()I" } : Jvm.MethodName)), (Jvm.Cond.code ({ cls := "ShapeSessions", name := "clearText", desc := "()I" } : Jvm.MethodName) prog_1_method_23_code (2 : Nat) (Option.some Jvm.ClassFile.FieldType.int)), (Jvm.Cond.methodLink "ShapeSessionsLaw" (93 : Nat) ({ cls := "ShapeSessions", name := "fault", desc := "(I)I" } : Jvm.MethodName)), (Jvm.Cond.instanceMethod ({ cls := "ShapeSessions", name := "fault", desc := "(I)I" } : Jvm.MethodName)), (Jvm.Cond.selects "ShapeSessions" ({ cls := "ShapeSessions", name := "fault", desc := "(I)I" } : Jvm.MethodName) ({ cls := "ShapeSessions", name := "fault", desc := "(I)I" } : Jvm.MethodName)), (Jvm.Cond.code ({ cls := "ShapeSessions", name := "fault", desc := "(I)I" } : Jvm.MethodName) prog_1_method_24_code (2 : Nat) (Option.some Jvm.ClassFile.FieldType.int)), (Jvm.Cond.methodLink "ShapeSessions" (223 : Nat) ({ cls := "ShapeSessions", name := "doCommands", desc := "()I" } : Jvm.MethodName)), (Jvm.Cond.privateMethod ({ cls := "ShapeSessions", name := "doCommands", desc := "()I" } : Jvm.MethodName)), (Jvm.Cond.instanceMethod ({ cls := "ShapeSessions", name := "doCommands", desc := "()I" } : Jvm.MethodName)), (Jvm.Cond.code ({ cls := "ShapeSessions", name := "doCommands", desc := "()I" } : Jvm.MethodName) prog_1_method_26_code (4 : Nat) (Option.some Jvm.ClassFile.FieldType.int)), (Jvm.Cond.methodLink "ShapeSessions" (226 : Nat) ({ cls := "ShapeSessions$Text", name := "readCommand", desc := "(I)Z" } : Jvm.MethodName))]
def ch_3_3 : List Cond := [(Jvm.Cond.instanceMethod ({ cls := "ShapeSessions$Text", name := "readCommand", desc := "(I)Z" } : Jvm.MethodName)), (Jvm.Cond.selects "ShapeSessions$Text" ({ cls := "ShapeSessions$Text", name := "readCommand", desc := "(I)Z" } : Jvm.MethodName) ({ cls := "ShapeSessions$Text", name := "readCommand", desc := "(I)Z" } : Jvm.MethodName)), (Jvm.Cond.code ({ cls := "ShapeSessions$Text", name := "readCommand", desc := "(I)Z" } : Jvm.MethodName) prog_5_method_2_code (2 : Nat) (Option.some Jvm.ClassFile.FieldType.boolean)), (Jvm.Cond.methodLink "ShapeSessions$Text" (15 : Nat) ({ cls := "ShapeSessions$Text", name := "signAt", desc := "(I)I" } : Jvm.MethodName)), (Jvm.Cond.privateMethod ({ cls := "ShapeSessions$Text", name := "signAt", desc := "(I)I" } : Jvm.MethodName)), (Jvm.Cond.instanceMethod ({ cls := "ShapeSessions$Text", name := "signAt", desc := "(I)I" } : Jvm.MethodName)), (Jvm.Cond.code ({ cls := "ShapeSessions$Text", name := "signAt", desc := "(I)I" } : Jvm.MethodName) prog_5_method_3_code (2 : Nat) (Option.some Jvm.ClassFile.FieldType.int)), (Jvm.Cond.methodLink "ShapeSessions$Text" (26 : Nat) ({ cls := "ShapeSessions$Text", name := "readNumber", desc := "()I" } : Jvm.MethodName)), (Jvm.Cond.privateMethod ({ cls := "ShapeSessions$Text", name := "readNumber", desc := "()I" } : Jvm.MethodName)), (Jvm.Cond.instanceMethod ({ cls := "ShapeSessions$Text", name := "readNumber", desc := "()I" } : Jvm.MethodName)), (Jvm.Cond.code ({ cls := "ShapeSessions$Text", name := "readNumber", desc := "()I" } : Jvm.MethodName) prog_5_method_4_code (4 : Nat) (Option.some Jvm.ClassFile.FieldType.int)), (Jvm.Cond.methodLink "ShapeSessions$Text" (39 : Nat) ({ cls := "java/lang/Math", name := "max", desc := "(II)I" } : Jvm.MethodName))]
def ch_3_4 : List Cond := [(Jvm.Cond.methodLink "ShapeSessions" (229 : Nat) ({ cls := "ShapeSessions", name := "noteFault", desc := "(III)V" } : Jvm.MethodName)), (Jvm.Cond.privateMethod ({ cls := "ShapeSessions", name := "noteFault", desc := "(III)V" } : Jvm.MethodName)), (Jvm.Cond.instanceMethod ({ cls := "ShapeSessions", name := "noteFault", desc := "(III)V" } : Jvm.MethodName)), (Jvm.Cond.code ({ cls := "ShapeSessions", name := "noteFault", desc := "(III)V" } : Jvm.MethodName) prog_1_method_27_code (4 : Nat) (Option.none : Option Jvm.ClassFile.FieldType)), (Jvm.Cond.methodLink "ShapeSessions" (242 : Nat) ({ cls := "ShapeSessions$State", name := "obey", desc := "(III)I" } : Jvm.MethodName)), (Jvm.Cond.instanceMethod ({ cls := "ShapeSessions$State", name := "obey", desc := "(III)I" } : Jvm.MethodName)), (Jvm.Cond.selects "ShapeSessions$State" ({ cls := "ShapeSessions$State", name := "obey", desc := "(III)I" } : Jvm.MethodName) ({ cls := "ShapeSessions$State", name := "obey", desc := "(III)I" } : Jvm.MethodName)), (Jvm.Cond.code ({ cls := "ShapeSessions$State", name := "obey", desc := "(III)I" } : Jvm.MethodName) prog_4_method_4_code (4 : Nat) (Option.some Jvm.ClassFile.FieldType.int)), (Jvm.Cond.methodLink "ShapeSessions$State" (60 : Nat) ({ cls := "ShapeSessions$State", name := "changeTable", desc := "(II)I" } : Jvm.MethodName)), (Jvm.Cond.methodLink "ShapeSessions$State" (64 : Nat) ({ cls := "ShapeSessions$State", name := "begin", desc := "(II)I" } : Jvm.MethodName)), (Jvm.Cond.methodLink "ShapeSessions$State" (67 : Nat) ({ cls := "ShapeSessions$State", name := "finish", desc := "(I)I" } : Jvm.MethodName)), (Jvm.Cond.methodLink "ShapeSessions$State" (71 : Nat) ({ cls := "ShapeSessions$State", name := "pass", desc := "(I)I" } : Jvm.MethodName))]
def ch_3_5 : List Cond := [(Jvm.Cond.methodLink "ShapeSessionsLaw" (97 : Nat) ({ cls := "ShapeSessions", name := "play", desc := "()I" } : Jvm.MethodName)), (Jvm.Cond.instanceMethod ({ cls := "ShapeSessions", name := "play", desc := "()I" } : Jvm.MethodName)), (Jvm.Cond.selects "ShapeSessions" ({ cls := "ShapeSessions", name := "play", desc := "()I" } : Jvm.MethodName) ({ cls := "ShapeSessions", name := "play", desc := "()I" } : Jvm.MethodName)), (Jvm.Cond.code ({ cls := "ShapeSessions", name := "play", desc := "()I" } : Jvm.MethodName) prog_1_method_25_code (2 : Nat) (Option.some Jvm.ClassFile.FieldType.int)), (Jvm.Cond.classLink "ShapeSessionsLaw" (10 : Nat) "ShapeSessionsModel"), (Jvm.Cond.instantiable "ShapeSessionsModel" (19 : Nat)), (Jvm.Cond.methodLink "ShapeSessionsLaw" (12 : Nat) ({ cls := "ShapeSessionsModel", name := "<init>", desc := "()V" } : Jvm.MethodName)), (Jvm.Cond.instanceMethod ({ cls := "ShapeSessionsModel", name := "<init>", desc := "()V" } : Jvm.MethodName)), (Jvm.Cond.code ({ cls := "ShapeSessionsModel", name := "<init>", desc := "()V" } : Jvm.MethodName) prog_8_method_1_code (2 : Nat) (Option.none : Option Jvm.ClassFile.FieldType)), (Jvm.Cond.methodLink "ShapeSessionsModel" (1 : Nat) ({ cls := "java/lang/Object", name := "<init>", desc := "()V" } : Jvm.MethodName)), (Jvm.Cond.fieldLink "ShapeSessionsModel" (7 : Nat) "ShapeSessionsModel" "s" "[I"), (Jvm.Cond.fieldLink "ShapeSessionsModel" (13 : Nat) "ShapeSessionsModel" "aside" "[I")]
def ch_3_6 : List Cond := [(Jvm.Cond.fieldLink "ShapeSessionsModel" (16 : Nat) "ShapeSessionsModel" "before" "[I"), (Jvm.Cond.fieldLink "ShapeSessionsModel" (42 : Nat) "ShapeSessionsModel" "known" "I"), (Jvm.Cond.fieldLink "ShapeSessionsModel" (19 : Nat) "ShapeSessionsModel" "kept" "[I"), (Jvm.Cond.fieldLink "ShapeSessionsModel" (148 : Nat) "ShapeSessionsModel" "isKept" "Z"), (Jvm.Cond.fieldLink "ShapeSessionsModel" (22 : Nat) "ShapeSessionsModel" "text" "[I"), (Jvm.Cond.fieldLink "ShapeSessionsModel" (145 : Nat) "ShapeSessionsModel" "length" "I"), (Jvm.Cond.fieldLink "ShapeSessionsModel" (25 : Nat) "ShapeSessionsModel" "hand" "[I"), (Jvm.Cond.fieldLink "ShapeSessionsModel" (28 : Nat) "ShapeSessionsModel" "used" "[I"), (Jvm.Cond.fieldLink "ShapeSessionsModel" (31 : Nat) "ShapeSessionsModel" "many" "[I"), (Jvm.Cond.fieldLink "ShapeSessionsModel" (165 : Nat) "ShapeSessionsModel" "at" "I"), (Jvm.Cond.fieldLink "ShapeSessionsModel" (168 : Nat) "ShapeSessionsModel" "isWrong" "Z"), (Jvm.Cond.fieldLink "ShapeSessionsModel" (174 : Nat) "ShapeSessionsModel" "letter" "I")]
def ch_3_7 : List Cond := [(Jvm.Cond.fieldLink "ShapeSessionsModel" (180 : Nat) "ShapeSessionsModel" "one" "I"), (Jvm.Cond.fieldLink "ShapeSessionsModel" (183 : Nat) "ShapeSessionsModel" "two" "I"), (Jvm.Cond.fieldLink "ShapeSessionsModel" (189 : Nat) "ShapeSessionsModel" "position" "I"), (Jvm.Cond.fieldLink "ShapeSessionsModel" (186 : Nat) "ShapeSessionsModel" "reason" "I"), (Jvm.Cond.fieldLink "ShapeSessionsModel" (198 : Nat) "ShapeSessionsModel" "cause" "I"), (Jvm.Cond.laysFinal "ShapeSessionsModel" "ShapeSessionsModel" "s" "[I"), (Jvm.Cond.soleField "ShapeSessionsModel" "s"), (Jvm.Cond.laysFinal "ShapeSessionsModel" "ShapeSessionsModel" "aside" "[I"), (Jvm.Cond.soleField "ShapeSessionsModel" "aside"), (Jvm.Cond.laysFinal "ShapeSessionsModel" "ShapeSessionsModel" "before" "[I"), (Jvm.Cond.soleField "ShapeSessionsModel" "before"), (Jvm.Cond.lays "ShapeSessionsModel" "ShapeSessionsModel" "known" "I")]
def ch_3_8 : List Cond := [(Jvm.Cond.soleField "ShapeSessionsModel" "known"), (Jvm.Cond.laysFinal "ShapeSessionsModel" "ShapeSessionsModel" "kept" "[I"), (Jvm.Cond.soleField "ShapeSessionsModel" "kept"), (Jvm.Cond.lays "ShapeSessionsModel" "ShapeSessionsModel" "isKept" "Z"), (Jvm.Cond.soleField "ShapeSessionsModel" "isKept"), (Jvm.Cond.laysFinal "ShapeSessionsModel" "ShapeSessionsModel" "text" "[I"), (Jvm.Cond.soleField "ShapeSessionsModel" "text"), (Jvm.Cond.lays "ShapeSessionsModel" "ShapeSessionsModel" "length" "I"), (Jvm.Cond.soleField "ShapeSessionsModel" "length"), (Jvm.Cond.laysFinal "ShapeSessionsModel" "ShapeSessionsModel" "hand" "[I"), (Jvm.Cond.soleField "ShapeSessionsModel" "hand"), (Jvm.Cond.laysFinal "ShapeSessionsModel" "ShapeSessionsModel" "used" "[I")]
def ch_3_9 : List Cond := [(Jvm.Cond.soleField "ShapeSessionsModel" "used"), (Jvm.Cond.laysFinal "ShapeSessionsModel" "ShapeSessionsModel" "many" "[I"), (Jvm.Cond.soleField "ShapeSessionsModel" "many"), (Jvm.Cond.lays "ShapeSessionsModel" "ShapeSessionsModel" "at" "I"), (Jvm.Cond.soleField "ShapeSessionsModel" "at"), (Jvm.Cond.lays "ShapeSessionsModel" "ShapeSessionsModel" "isWrong" "Z"), (Jvm.Cond.soleField "ShapeSessionsModel" "isWrong"), (Jvm.Cond.lays "ShapeSessionsModel" "ShapeSessionsModel" "letter" "I"), (Jvm.Cond.soleField "ShapeSessionsModel" "letter"), (Jvm.Cond.lays "ShapeSessionsModel" "ShapeSessionsModel" "one" "I"), (Jvm.Cond.soleField "ShapeSessionsModel" "one"), (Jvm.Cond.lays "ShapeSessionsModel" "ShapeSessionsModel" "two" "I")]
def ch_3_10 : List Cond := [(Jvm.Cond.soleField "ShapeSessionsModel" "two"), (Jvm.Cond.lays "ShapeSessionsModel" "ShapeSessionsModel" "position" "I"), (Jvm.Cond.soleField "ShapeSessionsModel" "position"), (Jvm.Cond.lays "ShapeSessionsModel" "ShapeSessionsModel" "reason" "I"), (Jvm.Cond.soleField "ShapeSessionsModel" "reason"), (Jvm.Cond.lays "ShapeSessionsModel" "ShapeSessionsModel" "cause" "I"), (Jvm.Cond.soleField "ShapeSessionsModel" "cause"), (Jvm.Cond.superclass "ShapeSessionsModel" "java/lang/Object"), (Jvm.Cond.methodLink "ShapeSessionsLaw" (17 : Nat) ({ cls := "ShapeSessionsModel", name := "alter", desc := "(II)I" } : Jvm.MethodName)), (Jvm.Cond.instanceMethod ({ cls := "ShapeSessionsModel", name := "alter", desc := "(II)I" } : Jvm.MethodName)), (Jvm.Cond.selects "ShapeSessionsModel" ({ cls := "ShapeSessionsModel", name := "alter", desc := "(II)I" } : Jvm.MethodName) ({ cls := "ShapeSessionsModel", name := "alter", desc := "(II)I" } : Jvm.MethodName)), (Jvm.Cond.code ({ cls := "ShapeSessionsModel", name := "alter", desc := "(II)I" } : Jvm.MethodName) prog_8_method_31_code (4 : Nat) (Option.some Jvm.ClassFile.FieldType.int))]
def ch_3_11 : List Cond := [(Jvm.Cond.methodLink "ShapeSessionsModel" (108 : Nat) ({ cls := "ShapeSessionsModel", name := "alterFault", desc := "(II)I" } : Jvm.MethodName)), (Jvm.Cond.privateMethod ({ cls := "ShapeSessionsModel", name := "alterFault", desc := "(II)I" } : Jvm.MethodName)), (Jvm.Cond.instanceMethod ({ cls := "ShapeSessionsModel", name := "alterFault", desc := "(II)I" } : Jvm.MethodName)), (Jvm.Cond.code ({ cls := "ShapeSessionsModel", name := "alterFault", desc := "(II)I" } : Jvm.MethodName) prog_8_method_21_code (3 : Nat) (Option.some Jvm.ClassFile.FieldType.int)), (Jvm.Cond.methodLink "ShapeSessionsModel" (67 : Nat) ({ cls := "ShapeSessionsModel", name := "isTable", desc := "(I)Z" } : Jvm.MethodName)), (Jvm.Cond.static ({ cls := "ShapeSessionsModel", name := "isTable", desc := "(I)Z" } : Jvm.MethodName)), (Jvm.Cond.code ({ cls := "ShapeSessionsModel", name := "isTable", desc := "(I)Z" } : Jvm.MethodName) prog_8_method_4_code (1 : Nat) (Option.some Jvm.ClassFile.FieldType.boolean)), (Jvm.Cond.methodLink "ShapeSessionsModel" (34 : Nat) ({ cls := "ShapeSessionsModel", name := "in", desc := "(III)Z" } : Jvm.MethodName)), (Jvm.Cond.static ({ cls := "ShapeSessionsModel", name := "in", desc := "(III)Z" } : Jvm.MethodName)), (Jvm.Cond.code ({ cls := "ShapeSessionsModel", name := "in", desc := "(III)Z" } : Jvm.MethodName) prog_8_method_3_code (3 : Nat) (Option.some Jvm.ClassFile.FieldType.boolean)), (Jvm.Cond.methodLink "ShapeSessionsModel" (71 : Nat) ({ cls := "ShapeSessionsModel", name := "inWay", desc := "(I)I" } : Jvm.MethodName)), (Jvm.Cond.privateMethod ({ cls := "ShapeSessionsModel", name := "inWay", desc := "(I)I" } : Jvm.MethodName))]
def ch_3_12 : List Cond := [(Jvm.Cond.instanceMethod ({ cls := "ShapeSessionsModel", name := "inWay", desc := "(I)I" } : Jvm.MethodName)), (Jvm.Cond.code ({ cls := "ShapeSessionsModel", name := "inWay", desc := "(I)I" } : Jvm.MethodName) prog_8_method_20_code (5 : Nat) (Option.some Jvm.ClassFile.FieldType.int)), (Jvm.Cond.methodLink "ShapeSessionsModel" (64 : Nat) ({ cls := "ShapeSessionsModel", name := "ofOpen", desc := "(II)I" } : Jvm.MethodName)), (Jvm.Cond.static ({ cls := "ShapeSessionsModel", name := "ofOpen", desc := "(II)I" } : Jvm.MethodName)), (Jvm.Cond.code ({ cls := "ShapeSessionsModel", name := "ofOpen", desc := "(II)I" } : Jvm.MethodName) prog_8_method_8_code (2 : Nat) (Option.some Jvm.ClassFile.FieldType.int)), (Jvm.Cond.methodLink "ShapeSessionsModel" (111 : Nat) ({ cls := "ShapeSessionsModel", name := "know", desc := "()V" } : Jvm.MethodName)), (Jvm.Cond.privateMethod ({ cls := "ShapeSessionsModel", name := "know", desc := "()V" } : Jvm.MethodName)), (Jvm.Cond.instanceMethod ({ cls := "ShapeSessionsModel", name := "know", desc := "()V" } : Jvm.MethodName)), (Jvm.Cond.code ({ cls := "ShapeSessionsModel", name := "know", desc := "()V" } : Jvm.MethodName) prog_8_method_9_code (2 : Nat) (Option.none : Option Jvm.ClassFile.FieldType)), (Jvm.Cond.methodLink "ShapeSessionsModel" (114 : Nat) ({ cls := "ShapeSessionsModel", name := "alters", desc := "(II)I" } : Jvm.MethodName)), (Jvm.Cond.privateMethod ({ cls := "ShapeSessionsModel", name := "alters", desc := "(II)I" } : Jvm.MethodName)), (Jvm.Cond.instanceMethod ({ cls := "ShapeSessionsModel", name := "alters", desc := "(II)I" } : Jvm.MethodName))]
def ch_3_13 : List Cond := [(Jvm.Cond.code ({ cls := "ShapeSessionsModel", name := "alters", desc := "(II)I" } : Jvm.MethodName) prog_8_method_22_code (3 : Nat) (Option.some Jvm.ClassFile.FieldType.int)), (Jvm.Cond.methodLink "ShapeSessionsModel" (74 : Nat) ({ cls := "ShapeSessionsModel", name := "come", desc := "(I)V" } : Jvm.MethodName)), (Jvm.Cond.privateMethod ({ cls := "ShapeSessionsModel", name := "come", desc := "(I)V" } : Jvm.MethodName)), (Jvm.Cond.instanceMethod ({ cls := "ShapeSessionsModel", name := "come", desc := "(I)V" } : Jvm.MethodName)), (Jvm.Cond.code ({ cls := "ShapeSessionsModel", name := "come", desc := "(I)V" } : Jvm.MethodName) prog_8_method_19_code (3 : Nat) (Option.none : Option Jvm.ClassFile.FieldType)), (Jvm.Cond.methodLink "ShapeSessionsModel" (38 : Nat) ({ cls := "ShapeSessionsModel", name := "of", desc := "(II)I" } : Jvm.MethodName)), (Jvm.Cond.static ({ cls := "ShapeSessionsModel", name := "of", desc := "(II)I" } : Jvm.MethodName)), (Jvm.Cond.code ({ cls := "ShapeSessionsModel", name := "of", desc := "(II)I" } : Jvm.MethodName) prog_8_method_6_code (2 : Nat) (Option.some Jvm.ClassFile.FieldType.int)), (Jvm.Cond.methodLink "ShapeSessionsModel" (61 : Nat) ({ cls := "ShapeSessionsModel", name := "learn", desc := "(II)V" } : Jvm.MethodName)), (Jvm.Cond.privateMethod ({ cls := "ShapeSessionsModel", name := "learn", desc := "(II)V" } : Jvm.MethodName)), (Jvm.Cond.instanceMethod ({ cls := "ShapeSessionsModel", name := "learn", desc := "(II)V" } : Jvm.MethodName)), (Jvm.Cond.code ({ cls := "ShapeSessionsModel", name := "learn", desc := "(II)V" } : Jvm.MethodName) prog_8_method_18_code (6 : Nat) (Option.none : Option Jvm.ClassFile.FieldType))]
def ch_3_14 : List Cond := [(Jvm.Cond.methodLink "ShapeSessionsModel" (46 : Nat) ({ cls := "ShapeSessionsModel", name := "ofEntry", desc := "(III)I" } : Jvm.MethodName)), (Jvm.Cond.static ({ cls := "ShapeSessionsModel", name := "ofEntry", desc := "(III)I" } : Jvm.MethodName)), (Jvm.Cond.code ({ cls := "ShapeSessionsModel", name := "ofEntry", desc := "(III)I" } : Jvm.MethodName) prog_8_method_7_code (3 : Nat) (Option.some Jvm.ClassFile.FieldType.int)), (Jvm.Cond.methodLink "ShapeSessionsModel" (58 : Nat) ({ cls := "ShapeSessionsModel", name := "clean", desc := "(I)I" } : Jvm.MethodName)), (Jvm.Cond.privateMethod ({ cls := "ShapeSessionsModel", name := "clean", desc := "(I)I" } : Jvm.MethodName)), (Jvm.Cond.instanceMethod ({ cls := "ShapeSessionsModel", name := "clean", desc := "(I)I" } : Jvm.MethodName)), (Jvm.Cond.code ({ cls := "ShapeSessionsModel", name := "clean", desc := "(I)I" } : Jvm.MethodName) prog_8_method_13_code (4 : Nat) (Option.some Jvm.ClassFile.FieldType.int)), (Jvm.Cond.methodLink "ShapeSessionsModel" (50 : Nat) ({ cls := "ShapeSessionsModel", name := "remove", desc := "(II)V" } : Jvm.MethodName)), (Jvm.Cond.privateMethod ({ cls := "ShapeSessionsModel", name := "remove", desc := "(II)V" } : Jvm.MethodName)), (Jvm.Cond.instanceMethod ({ cls := "ShapeSessionsModel", name := "remove", desc := "(II)V" } : Jvm.MethodName)), (Jvm.Cond.code ({ cls := "ShapeSessionsModel", name := "remove", desc := "(II)V" } : Jvm.MethodName) prog_8_method_12_code (4 : Nat) (Option.none : Option Jvm.ClassFile.FieldType)), (Jvm.Cond.methodLink "ShapeSessionsLaw" (21 : Nat) ({ cls := "ShapeSessionsModel", name := "start", desc := "(II)I" } : Jvm.MethodName))]
def ch_3_15 : List Cond := [(Jvm.Cond.instanceMethod ({ cls := "ShapeSessionsModel", name := "start", desc := "(II)I" } : Jvm.MethodName)), (Jvm.Cond.selects "ShapeSessionsModel" ({ cls := "ShapeSessionsModel", name := "start", desc := "(II)I" } : Jvm.MethodName) ({ cls := "ShapeSessionsModel", name := "start", desc := "(II)I" } : Jvm.MethodName)), (Jvm.Cond.code ({ cls := "ShapeSessionsModel", name := "start", desc := "(II)I" } : Jvm.MethodName) prog_8_method_32_code (4 : Nat) (Option.some Jvm.ClassFile.FieldType.int)), (Jvm.Cond.methodLink "ShapeSessionsModel" (117 : Nat) ({ cls := "ShapeSessionsModel", name := "startFault", desc := "(II)I" } : Jvm.MethodName)), (Jvm.Cond.privateMethod ({ cls := "ShapeSessionsModel", name := "startFault", desc := "(II)I" } : Jvm.MethodName)), (Jvm.Cond.instanceMethod ({ cls := "ShapeSessionsModel", name := "startFault", desc := "(II)I" } : Jvm.MethodName)), (Jvm.Cond.code ({ cls := "ShapeSessionsModel", name := "startFault", desc := "(II)I" } : Jvm.MethodName) prog_8_method_27_code (4 : Nat) (Option.some Jvm.ClassFile.FieldType.int)), (Jvm.Cond.methodLink "ShapeSessionsModel" (93 : Nat) ({ cls := "ShapeSessionsModel", name := "isSession", desc := "(I)Z" } : Jvm.MethodName)), (Jvm.Cond.static ({ cls := "ShapeSessionsModel", name := "isSession", desc := "(I)Z" } : Jvm.MethodName)), (Jvm.Cond.code ({ cls := "ShapeSessionsModel", name := "isSession", desc := "(I)Z" } : Jvm.MethodName) prog_8_method_5_code (1 : Nat) (Option.some Jvm.ClassFile.FieldType.boolean)), (Jvm.Cond.methodLink "ShapeSessionsModel" (96 : Nat) ({ cls := "ShapeSessionsModel", name := "putAside", desc := "()V" } : Jvm.MethodName)), (Jvm.Cond.privateMethod ({ cls := "ShapeSessionsModel", name := "putAside", desc := "()V" } : Jvm.MethodName))]
def ch_3_16 : List Cond := [(Jvm.Cond.instanceMethod ({ cls := "ShapeSessionsModel", name := "putAside", desc := "()V" } : Jvm.MethodName)), (Jvm.Cond.code ({ cls := "ShapeSessionsModel", name := "putAside", desc := "()V" } : Jvm.MethodName) prog_8_method_10_code (2 : Nat) (Option.none : Option Jvm.ClassFile.FieldType)), (Jvm.Cond.methodLink "ShapeSessionsModel" (99 : Nat) ({ cls := "ShapeSessionsModel", name := "starts", desc := "(II)I" } : Jvm.MethodName)), (Jvm.Cond.privateMethod ({ cls := "ShapeSessionsModel", name := "starts", desc := "(II)I" } : Jvm.MethodName)), (Jvm.Cond.instanceMethod ({ cls := "ShapeSessionsModel", name := "starts", desc := "(II)I" } : Jvm.MethodName)), (Jvm.Cond.code ({ cls := "ShapeSessionsModel", name := "starts", desc := "(II)I" } : Jvm.MethodName) prog_8_method_24_code (8 : Nat) (Option.some Jvm.ClassFile.FieldType.int)), (Jvm.Cond.methodLink "ShapeSessionsModel" (78 : Nat) ({ cls := "ShapeSessionsModel", name := "opensOf", desc := "(I)I" } : Jvm.MethodName)), (Jvm.Cond.privateMethod ({ cls := "ShapeSessionsModel", name := "opensOf", desc := "(I)I" } : Jvm.MethodName)), (Jvm.Cond.instanceMethod ({ cls := "ShapeSessionsModel", name := "opensOf", desc := "(I)I" } : Jvm.MethodName)), (Jvm.Cond.code ({ cls := "ShapeSessionsModel", name := "opensOf", desc := "(I)I" } : Jvm.MethodName) prog_8_method_23_code (4 : Nat) (Option.some Jvm.ClassFile.FieldType.int)), (Jvm.Cond.methodLink "ShapeSessionsModel" (81 : Nat) ({ cls := "ShapeSessionsModel", name := "entryOf", desc := "(III)I" } : Jvm.MethodName)), (Jvm.Cond.privateMethod ({ cls := "ShapeSessionsModel", name := "entryOf", desc := "(III)I" } : Jvm.MethodName))]
def ch_3_17 : List Cond := [(Jvm.Cond.instanceMethod ({ cls := "ShapeSessionsModel", name := "entryOf", desc := "(III)I" } : Jvm.MethodName)), (Jvm.Cond.code ({ cls := "ShapeSessionsModel", name := "entryOf", desc := "(III)I" } : Jvm.MethodName) prog_8_method_16_code (7 : Nat) (Option.some Jvm.ClassFile.FieldType.int)), (Jvm.Cond.methodLink "ShapeSessionsModel" (84 : Nat) ({ cls := "ShapeSessionsModel", name := "shrink", desc := "(II)I" } : Jvm.MethodName)), (Jvm.Cond.privateMethod ({ cls := "ShapeSessionsModel", name := "shrink", desc := "(II)I" } : Jvm.MethodName)), (Jvm.Cond.instanceMethod ({ cls := "ShapeSessionsModel", name := "shrink", desc := "(II)I" } : Jvm.MethodName)), (Jvm.Cond.code ({ cls := "ShapeSessionsModel", name := "shrink", desc := "(II)I" } : Jvm.MethodName) prog_8_method_15_code (4 : Nat) (Option.some Jvm.ClassFile.FieldType.int)), (Jvm.Cond.methodLink "ShapeSessionsModel" (54 : Nat) ({ cls := "ShapeSessionsModel", name := "oldest", desc := "(I)I" } : Jvm.MethodName)), (Jvm.Cond.privateMethod ({ cls := "ShapeSessionsModel", name := "oldest", desc := "(I)I" } : Jvm.MethodName)), (Jvm.Cond.instanceMethod ({ cls := "ShapeSessionsModel", name := "oldest", desc := "(I)I" } : Jvm.MethodName)), (Jvm.Cond.code ({ cls := "ShapeSessionsModel", name := "oldest", desc := "(I)I" } : Jvm.MethodName) prog_8_method_14_code (5 : Nat) (Option.some Jvm.ClassFile.FieldType.int)), (Jvm.Cond.methodLink "ShapeSessionsModel" (87 : Nat) ({ cls := "ShapeSessionsModel", name := "load", desc := "(II)I" } : Jvm.MethodName)), (Jvm.Cond.privateMethod ({ cls := "ShapeSessionsModel", name := "load", desc := "(II)I" } : Jvm.MethodName))]
def ch_3_18 : List Cond := [(Jvm.Cond.instanceMethod ({ cls := "ShapeSessionsModel", name := "load", desc := "(II)I" } : Jvm.MethodName)), (Jvm.Cond.code ({ cls := "ShapeSessionsModel", name := "load", desc := "(II)I" } : Jvm.MethodName) prog_8_method_17_code (5 : Nat) (Option.some Jvm.ClassFile.FieldType.int)), (Jvm.Cond.methodLink "ShapeSessionsModel" (90 : Nat) ({ cls := "ShapeSessionsModel", name := "remember", desc := "(II)V" } : Jvm.MethodName)), (Jvm.Cond.privateMethod ({ cls := "ShapeSessionsModel", name := "remember", desc := "(II)V" } : Jvm.MethodName)), (Jvm.Cond.instanceMethod ({ cls := "ShapeSessionsModel", name := "remember", desc := "(II)V" } : Jvm.MethodName)), (Jvm.Cond.code ({ cls := "ShapeSessionsModel", name := "remember", desc := "(II)V" } : Jvm.MethodName) prog_8_method_25_code (4 : Nat) (Option.none : Option Jvm.ClassFile.FieldType)), (Jvm.Cond.methodLink "ShapeSessionsModel" (102 : Nat) ({ cls := "ShapeSessionsModel", name := "putBack", desc := "()V" } : Jvm.MethodName)), (Jvm.Cond.privateMethod ({ cls := "ShapeSessionsModel", name := "putBack", desc := "()V" } : Jvm.MethodName)), (Jvm.Cond.instanceMethod ({ cls := "ShapeSessionsModel", name := "putBack", desc := "()V" } : Jvm.MethodName)), (Jvm.Cond.code ({ cls := "ShapeSessionsModel", name := "putBack", desc := "()V" } : Jvm.MethodName) prog_8_method_11_code (2 : Nat) (Option.none : Option Jvm.ClassFile.FieldType)), (Jvm.Cond.methodLink "ShapeSessionsLaw" (26 : Nat) ({ cls := "ShapeSessionsModel", name := "end", desc := "(I)I" } : Jvm.MethodName)), (Jvm.Cond.instanceMethod ({ cls := "ShapeSessionsModel", name := "end", desc := "(I)I" } : Jvm.MethodName))]
def ch_3_19 : List Cond := [(Jvm.Cond.selects "ShapeSessionsModel" ({ cls := "ShapeSessionsModel", name := "end", desc := "(I)I" } : Jvm.MethodName) ({ cls := "ShapeSessionsModel", name := "end", desc := "(I)I" } : Jvm.MethodName)), (Jvm.Cond.code ({ cls := "ShapeSessionsModel", name := "end", desc := "(I)I" } : Jvm.MethodName) prog_8_method_33_code (3 : Nat) (Option.some Jvm.ClassFile.FieldType.int)), (Jvm.Cond.methodLink "ShapeSessionsModel" (120 : Nat) ({ cls := "ShapeSessionsModel", name := "endFault", desc := "(I)I" } : Jvm.MethodName)), (Jvm.Cond.privateMethod ({ cls := "ShapeSessionsModel", name := "endFault", desc := "(I)I" } : Jvm.MethodName)), (Jvm.Cond.instanceMethod ({ cls := "ShapeSessionsModel", name := "endFault", desc := "(I)I" } : Jvm.MethodName)), (Jvm.Cond.code ({ cls := "ShapeSessionsModel", name := "endFault", desc := "(I)I" } : Jvm.MethodName) prog_8_method_28_code (2 : Nat) (Option.some Jvm.ClassFile.FieldType.int)), (Jvm.Cond.methodLink "ShapeSessionsModel" (105 : Nat) ({ cls := "ShapeSessionsModel", name := "placeOf", desc := "(I)I" } : Jvm.MethodName)), (Jvm.Cond.privateMethod ({ cls := "ShapeSessionsModel", name := "placeOf", desc := "(I)I" } : Jvm.MethodName)), (Jvm.Cond.instanceMethod ({ cls := "ShapeSessionsModel", name := "placeOf", desc := "(I)I" } : Jvm.MethodName)), (Jvm.Cond.code ({ cls := "ShapeSessionsModel", name := "placeOf", desc := "(I)I" } : Jvm.MethodName) prog_8_method_26_code (3 : Nat) (Option.some Jvm.ClassFile.FieldType.int)), (Jvm.Cond.methodLink "ShapeSessionsModel" (123 : Nat) ({ cls := "ShapeSessionsModel", name := "ends", desc := "(I)I" } : Jvm.MethodName)), (Jvm.Cond.privateMethod ({ cls := "ShapeSessionsModel", name := "ends", desc := "(I)I" } : Jvm.MethodName))]
set_option maxRecDepth 20000 in
theorem tb_3 : tables_1_3 = ch_3_0 ++ (ch_3_1 ++ (ch_3_2 ++ (ch_3_3 ++ (ch_3_4 ++ (ch_3_5 ++ (ch_3_6 ++ (ch_3_7 ++ (ch_3_8 ++ (ch_3_9 ++ (ch_3_10 ++ (ch_3_11 ++ (ch_3_12 ++ (ch_3_13 ++ (ch_3_14 ++ (ch_3_15 ++ (ch_3_16 ++ (ch_3_17 ++ (ch_3_18 ++ (ch_3_19))))))))))))))))))) := rfl
def ch_4_0 : List Cond := [(Jvm.Cond.instanceMethod ({ cls := "ShapeSessionsModel", name := "ends", desc := "(I)I" } : Jvm.MethodName)), (Jvm.Cond.code ({ cls := "ShapeSessionsModel", name := "ends", desc := "(I)I" } : Jvm.MethodName) prog_8_method_29_code (5 : Nat) (Option.some Jvm.ClassFile.FieldType.int)), (Jvm.Cond.methodLink "ShapeSessionsLaw" (30 : Nat) ({ cls := "ShapeSessionsModel", name := "tick", desc := "(I)I" } : Jvm.MethodName)), (Jvm.Cond.instanceMethod ({ cls := "ShapeSessionsModel", name := "tick", desc := "(I)I" } : Jvm.MethodName)), (Jvm.Cond.selects "ShapeSessionsModel" ({ cls := "ShapeSessionsModel", name := "tick", desc := "(I)I" } : Jvm.MethodName) ({ cls := "ShapeSessionsModel", name := "tick", desc := "(I)I" } : Jvm.MethodName)), (Jvm.Cond.code ({ cls := "ShapeSessionsModel", name := "tick", desc := "(I)I" } : Jvm.MethodName) prog_8_method_34_code (2 : Nat) (Option.some Jvm.ClassFile.FieldType.int)), (Jvm.Cond.methodLink "ShapeSessionsModel" (126 : Nat) ({ cls := "ShapeSessionsModel", name := "ticks", desc := "(I)I" } : Jvm.MethodName)), (Jvm.Cond.privateMethod ({ cls := "ShapeSessionsModel", name := "ticks", desc := "(I)I" } : Jvm.MethodName)), (Jvm.Cond.instanceMethod ({ cls := "ShapeSessionsModel", name := "ticks", desc := "(I)I" } : Jvm.MethodName)), (Jvm.Cond.code ({ cls := "ShapeSessionsModel", name := "ticks", desc := "(I)I" } : Jvm.MethodName) prog_8_method_30_code (5 : Nat) (Option.some Jvm.ClassFile.FieldType.int)), (Jvm.Cond.methodLink "ShapeSessionsLaw" (34 : Nat) ({ cls := "ShapeSessionsModel", name := "set", desc := "(II)I" } : Jvm.MethodName)), (Jvm.Cond.instanceMethod ({ cls := "ShapeSessionsModel", name := "set", desc := "(II)I" } : Jvm.MethodName))]
def ch_4_1 : List Cond := [(Jvm.Cond.selects "ShapeSessionsModel" ({ cls := "ShapeSessionsModel", name := "set", desc := "(II)I" } : Jvm.MethodName) ({ cls := "ShapeSessionsModel", name := "set", desc := "(II)I" } : Jvm.MethodName)), (Jvm.Cond.code ({ cls := "ShapeSessionsModel", name := "set", desc := "(II)I" } : Jvm.MethodName) prog_8_method_35_code (6 : Nat) (Option.some Jvm.ClassFile.FieldType.int)), (Jvm.Cond.methodLink "ShapeSessionsLaw" (38 : Nat) ({ cls := "ShapeSessionsModel", name := "tableOf", desc := "(II)I" } : Jvm.MethodName)), (Jvm.Cond.instanceMethod ({ cls := "ShapeSessionsModel", name := "tableOf", desc := "(II)I" } : Jvm.MethodName)), (Jvm.Cond.selects "ShapeSessionsModel" ({ cls := "ShapeSessionsModel", name := "tableOf", desc := "(II)I" } : Jvm.MethodName) ({ cls := "ShapeSessionsModel", name := "tableOf", desc := "(II)I" } : Jvm.MethodName)), (Jvm.Cond.code ({ cls := "ShapeSessionsModel", name := "tableOf", desc := "(II)I" } : Jvm.MethodName) prog_8_method_38_code (3 : Nat) (Option.some Jvm.ClassFile.FieldType.int)), (Jvm.Cond.methodLink "ShapeSessionsModel" (129 : Nat) ({ cls := "ShapeSessionsModel", name := "leastVersion", desc := "(I)I" } : Jvm.MethodName)), (Jvm.Cond.privateMethod ({ cls := "ShapeSessionsModel", name := "leastVersion", desc := "(I)I" } : Jvm.MethodName)), (Jvm.Cond.instanceMethod ({ cls := "ShapeSessionsModel", name := "leastVersion", desc := "(I)I" } : Jvm.MethodName)), (Jvm.Cond.code ({ cls := "ShapeSessionsModel", name := "leastVersion", desc := "(I)I" } : Jvm.MethodName) prog_8_method_36_code (6 : Nat) (Option.some Jvm.ClassFile.FieldType.int)), (Jvm.Cond.methodLink "ShapeSessionsModel" (132 : Nat) ({ cls := "ShapeSessionsModel", name := "hands", desc := "(I)I" } : Jvm.MethodName)), (Jvm.Cond.privateMethod ({ cls := "ShapeSessionsModel", name := "hands", desc := "(I)I" } : Jvm.MethodName))]
def ch_4_2 : List Cond := [(Jvm.Cond.instanceMethod ({ cls := "ShapeSessionsModel", name := "hands", desc := "(I)I" } : Jvm.MethodName)), (Jvm.Cond.code ({ cls := "ShapeSessionsModel", name := "hands", desc := "(I)I" } : Jvm.MethodName) prog_8_method_37_code (4 : Nat) (Option.some Jvm.ClassFile.FieldType.int)), (Jvm.Cond.methodLink "ShapeSessionsLaw" (42 : Nat) ({ cls := "ShapeSessionsModel", name := "sessionOf", desc := "(II)I" } : Jvm.MethodName)), (Jvm.Cond.instanceMethod ({ cls := "ShapeSessionsModel", name := "sessionOf", desc := "(II)I" } : Jvm.MethodName)), (Jvm.Cond.selects "ShapeSessionsModel" ({ cls := "ShapeSessionsModel", name := "sessionOf", desc := "(II)I" } : Jvm.MethodName) ({ cls := "ShapeSessionsModel", name := "sessionOf", desc := "(II)I" } : Jvm.MethodName)), (Jvm.Cond.code ({ cls := "ShapeSessionsModel", name := "sessionOf", desc := "(II)I" } : Jvm.MethodName) prog_8_method_41_code (3 : Nat) (Option.some Jvm.ClassFile.FieldType.int)), (Jvm.Cond.methodLink "ShapeSessionsModel" (135 : Nat) ({ cls := "ShapeSessionsModel", name := "onWay", desc := "()I" } : Jvm.MethodName)), (Jvm.Cond.privateMethod ({ cls := "ShapeSessionsModel", name := "onWay", desc := "()I" } : Jvm.MethodName)), (Jvm.Cond.instanceMethod ({ cls := "ShapeSessionsModel", name := "onWay", desc := "()I" } : Jvm.MethodName)), (Jvm.Cond.code ({ cls := "ShapeSessionsModel", name := "onWay", desc := "()I" } : Jvm.MethodName) prog_8_method_39_code (3 : Nat) (Option.some Jvm.ClassFile.FieldType.int)), (Jvm.Cond.methodLink "ShapeSessionsModel" (139 : Nat) ({ cls := "ShapeSessionsModel", name := "stale", desc := "(I)I" } : Jvm.MethodName)), (Jvm.Cond.privateMethod ({ cls := "ShapeSessionsModel", name := "stale", desc := "(I)I" } : Jvm.MethodName))]
def ch_4_3 : List Cond := [(Jvm.Cond.instanceMethod ({ cls := "ShapeSessionsModel", name := "stale", desc := "(I)I" } : Jvm.MethodName)), (Jvm.Cond.code ({ cls := "ShapeSessionsModel", name := "stale", desc := "(I)I" } : Jvm.MethodName) prog_8_method_40_code (4 : Nat) (Option.some Jvm.ClassFile.FieldType.int)), (Jvm.Cond.methodLink "ShapeSessionsLaw" (47 : Nat) ({ cls := "ShapeSessionsModel", name := "entry", desc := "(III)I" } : Jvm.MethodName)), (Jvm.Cond.instanceMethod ({ cls := "ShapeSessionsModel", name := "entry", desc := "(III)I" } : Jvm.MethodName)), (Jvm.Cond.selects "ShapeSessionsModel" ({ cls := "ShapeSessionsModel", name := "entry", desc := "(III)I" } : Jvm.MethodName) ({ cls := "ShapeSessionsModel", name := "entry", desc := "(III)I" } : Jvm.MethodName)), (Jvm.Cond.code ({ cls := "ShapeSessionsModel", name := "entry", desc := "(III)I" } : Jvm.MethodName) prog_8_method_42_code (4 : Nat) (Option.some Jvm.ClassFile.FieldType.int)), (Jvm.Cond.methodLink "ShapeSessionsLaw" (51 : Nat) ({ cls := "ShapeSessionsModel", name := "statement", desc := "(II)I" } : Jvm.MethodName)), (Jvm.Cond.instanceMethod ({ cls := "ShapeSessionsModel", name := "statement", desc := "(II)I" } : Jvm.MethodName)), (Jvm.Cond.selects "ShapeSessionsModel" ({ cls := "ShapeSessionsModel", name := "statement", desc := "(II)I" } : Jvm.MethodName) ({ cls := "ShapeSessionsModel", name := "statement", desc := "(II)I" } : Jvm.MethodName)), (Jvm.Cond.code ({ cls := "ShapeSessionsModel", name := "statement", desc := "(II)I" } : Jvm.MethodName) prog_8_method_44_code (4 : Nat) (Option.some Jvm.ClassFile.FieldType.int)), (Jvm.Cond.methodLink "ShapeSessionsModel" (142 : Nat) ({ cls := "ShapeSessionsModel", name := "older", desc := "(I)I" } : Jvm.MethodName)), (Jvm.Cond.privateMethod ({ cls := "ShapeSessionsModel", name := "older", desc := "(I)I" } : Jvm.MethodName))]
def ch_4_4 : List Cond := [(Jvm.Cond.instanceMethod ({ cls := "ShapeSessionsModel", name := "older", desc := "(I)I" } : Jvm.MethodName)), (Jvm.Cond.code ({ cls := "ShapeSessionsModel", name := "older", desc := "(I)I" } : Jvm.MethodName) prog_8_method_43_code (5 : Nat) (Option.some Jvm.ClassFile.FieldType.int)), (Jvm.Cond.methodLink "ShapeSessionsLaw" (55 : Nat) ({ cls := "ShapeSessionsModel", name := "notice", desc := "(I)I" } : Jvm.MethodName)), (Jvm.Cond.instanceMethod ({ cls := "ShapeSessionsModel", name := "notice", desc := "(I)I" } : Jvm.MethodName)), (Jvm.Cond.selects "ShapeSessionsModel" ({ cls := "ShapeSessionsModel", name := "notice", desc := "(I)I" } : Jvm.MethodName) ({ cls := "ShapeSessionsModel", name := "notice", desc := "(I)I" } : Jvm.MethodName)), (Jvm.Cond.code ({ cls := "ShapeSessionsModel", name := "notice", desc := "(I)I" } : Jvm.MethodName) prog_8_method_45_code (2 : Nat) (Option.some Jvm.ClassFile.FieldType.int)), (Jvm.Cond.methodLink "ShapeSessionsLaw" (59 : Nat) ({ cls := "ShapeSessionsModel", name := "count", desc := "(I)I" } : Jvm.MethodName)), (Jvm.Cond.instanceMethod ({ cls := "ShapeSessionsModel", name := "count", desc := "(I)I" } : Jvm.MethodName)), (Jvm.Cond.selects "ShapeSessionsModel" ({ cls := "ShapeSessionsModel", name := "count", desc := "(I)I" } : Jvm.MethodName) ({ cls := "ShapeSessionsModel", name := "count", desc := "(I)I" } : Jvm.MethodName)), (Jvm.Cond.code ({ cls := "ShapeSessionsModel", name := "count", desc := "(I)I" } : Jvm.MethodName) prog_8_method_48_code (2 : Nat) (Option.some Jvm.ClassFile.FieldType.int)), (Jvm.Cond.methodLink "ShapeSessionsModel" (152 : Nat) ({ cls := "ShapeSessionsModel", name := "canChange", desc := "()I" } : Jvm.MethodName)), (Jvm.Cond.privateMethod ({ cls := "ShapeSessionsModel", name := "canChange", desc := "()I" } : Jvm.MethodName))]
def ch_4_5 : List Cond := [(Jvm.Cond.instanceMethod ({ cls := "ShapeSessionsModel", name := "canChange", desc := "()I" } : Jvm.MethodName)), (Jvm.Cond.code ({ cls := "ShapeSessionsModel", name := "canChange", desc := "()I" } : Jvm.MethodName) prog_8_method_46_code (3 : Nat) (Option.some Jvm.ClassFile.FieldType.int)), (Jvm.Cond.methodLink "ShapeSessionsModel" (155 : Nat) ({ cls := "ShapeSessionsModel", name := "allLoads", desc := "()I" } : Jvm.MethodName)), (Jvm.Cond.privateMethod ({ cls := "ShapeSessionsModel", name := "allLoads", desc := "()I" } : Jvm.MethodName)), (Jvm.Cond.instanceMethod ({ cls := "ShapeSessionsModel", name := "allLoads", desc := "()I" } : Jvm.MethodName)), (Jvm.Cond.code ({ cls := "ShapeSessionsModel", name := "allLoads", desc := "()I" } : Jvm.MethodName) prog_8_method_47_code (3 : Nat) (Option.some Jvm.ClassFile.FieldType.int)), (Jvm.Cond.methodLink "ShapeSessionsLaw" (63 : Nat) ({ cls := "ShapeSessionsModel", name := "would", desc := "(III)I" } : Jvm.MethodName)), (Jvm.Cond.instanceMethod ({ cls := "ShapeSessionsModel", name := "would", desc := "(III)I" } : Jvm.MethodName)), (Jvm.Cond.selects "ShapeSessionsModel" ({ cls := "ShapeSessionsModel", name := "would", desc := "(III)I" } : Jvm.MethodName) ({ cls := "ShapeSessionsModel", name := "would", desc := "(III)I" } : Jvm.MethodName)), (Jvm.Cond.code ({ cls := "ShapeSessionsModel", name := "would", desc := "(III)I" } : Jvm.MethodName) prog_8_method_49_code (7 : Nat) (Option.some Jvm.ClassFile.FieldType.int)), (Jvm.Cond.methodLink "ShapeSessionsLaw" (67 : Nat) ({ cls := "ShapeSessionsModel", name := "inTheWay", desc := "(I)I" } : Jvm.MethodName)), (Jvm.Cond.instanceMethod ({ cls := "ShapeSessionsModel", name := "inTheWay", desc := "(I)I" } : Jvm.MethodName))]
def ch_4_6 : List Cond := [(Jvm.Cond.selects "ShapeSessionsModel" ({ cls := "ShapeSessionsModel", name := "inTheWay", desc := "(I)I" } : Jvm.MethodName) ({ cls := "ShapeSessionsModel", name := "inTheWay", desc := "(I)I" } : Jvm.MethodName)), (Jvm.Cond.code ({ cls := "ShapeSessionsModel", name := "inTheWay", desc := "(I)I" } : Jvm.MethodName) prog_8_method_50_code (2 : Nat) (Option.some Jvm.ClassFile.FieldType.int)), (Jvm.Cond.methodLink "ShapeSessionsLaw" (71 : Nat) ({ cls := "ShapeSessionsModel", name := "bestRoom", desc := "(I)I" } : Jvm.MethodName)), (Jvm.Cond.instanceMethod ({ cls := "ShapeSessionsModel", name := "bestRoom", desc := "(I)I" } : Jvm.MethodName)), (Jvm.Cond.selects "ShapeSessionsModel" ({ cls := "ShapeSessionsModel", name := "bestRoom", desc := "(I)I" } : Jvm.MethodName) ({ cls := "ShapeSessionsModel", name := "bestRoom", desc := "(I)I" } : Jvm.MethodName)), (Jvm.Cond.code ({ cls := "ShapeSessionsModel", name := "bestRoom", desc := "(I)I" } : Jvm.MethodName) prog_8_method_53_code (7 : Nat) (Option.some Jvm.ClassFile.FieldType.int)), (Jvm.Cond.methodLink "ShapeSessionsModel" (162 : Nat) ({ cls := "ShapeSessionsModel", name := "loadsBy", desc := "(I)I" } : Jvm.MethodName)), (Jvm.Cond.privateMethod ({ cls := "ShapeSessionsModel", name := "loadsBy", desc := "(I)I" } : Jvm.MethodName)), (Jvm.Cond.instanceMethod ({ cls := "ShapeSessionsModel", name := "loadsBy", desc := "(I)I" } : Jvm.MethodName)), (Jvm.Cond.code ({ cls := "ShapeSessionsModel", name := "loadsBy", desc := "(I)I" } : Jvm.MethodName) prog_8_method_52_code (6 : Nat) (Option.some Jvm.ClassFile.FieldType.int)), (Jvm.Cond.methodLink "ShapeSessionsModel" (158 : Nat) ({ cls := "ShapeSessionsModel", name := "use", desc := "(IIII)I" } : Jvm.MethodName)), (Jvm.Cond.privateMethod ({ cls := "ShapeSessionsModel", name := "use", desc := "(IIII)I" } : Jvm.MethodName))]
def ch_4_7 : List Cond := [(Jvm.Cond.instanceMethod ({ cls := "ShapeSessionsModel", name := "use", desc := "(IIII)I" } : Jvm.MethodName)), (Jvm.Cond.code ({ cls := "ShapeSessionsModel", name := "use", desc := "(IIII)I" } : Jvm.MethodName) prog_8_method_51_code (10 : Nat) (Option.some Jvm.ClassFile.FieldType.int)), (Jvm.Cond.methodLink "ShapeSessionsLaw" (76 : Nat) ({ cls := "ShapeSessionsModel", name := "keep", desc := "()I" } : Jvm.MethodName)), (Jvm.Cond.instanceMethod ({ cls := "ShapeSessionsModel", name := "keep", desc := "()I" } : Jvm.MethodName)), (Jvm.Cond.selects "ShapeSessionsModel" ({ cls := "ShapeSessionsModel", name := "keep", desc := "()I" } : Jvm.MethodName) ({ cls := "ShapeSessionsModel", name := "keep", desc := "()I" } : Jvm.MethodName)), (Jvm.Cond.code ({ cls := "ShapeSessionsModel", name := "keep", desc := "()I" } : Jvm.MethodName) prog_8_method_54_code (2 : Nat) (Option.some Jvm.ClassFile.FieldType.int)), (Jvm.Cond.methodLink "ShapeSessionsLaw" (80 : Nat) ({ cls := "ShapeSessionsModel", name := "restore", desc := "()I" } : Jvm.MethodName)), (Jvm.Cond.instanceMethod ({ cls := "ShapeSessionsModel", name := "restore", desc := "()I" } : Jvm.MethodName)), (Jvm.Cond.selects "ShapeSessionsModel" ({ cls := "ShapeSessionsModel", name := "restore", desc := "()I" } : Jvm.MethodName) ({ cls := "ShapeSessionsModel", name := "restore", desc := "()I" } : Jvm.MethodName)), (Jvm.Cond.code ({ cls := "ShapeSessionsModel", name := "restore", desc := "()I" } : Jvm.MethodName) prog_8_method_55_code (2 : Nat) (Option.some Jvm.ClassFile.FieldType.int)), (Jvm.Cond.methodLink "ShapeSessionsLaw" (84 : Nat) ({ cls := "ShapeSessionsModel", name := "undo", desc := "()I" } : Jvm.MethodName)), (Jvm.Cond.instanceMethod ({ cls := "ShapeSessionsModel", name := "undo", desc := "()I" } : Jvm.MethodName))]
def ch_4_8 : List Cond := [(Jvm.Cond.selects "ShapeSessionsModel" ({ cls := "ShapeSessionsModel", name := "undo", desc := "()I" } : Jvm.MethodName) ({ cls := "ShapeSessionsModel", name := "undo", desc := "()I" } : Jvm.MethodName)), (Jvm.Cond.code ({ cls := "ShapeSessionsModel", name := "undo", desc := "()I" } : Jvm.MethodName) prog_8_method_56_code (2 : Nat) (Option.some Jvm.ClassFile.FieldType.int)), (Jvm.Cond.methodLink "ShapeSessionsLaw" (88 : Nat) ({ cls := "ShapeSessionsModel", name := "type", desc := "(I)I" } : Jvm.MethodName)), (Jvm.Cond.instanceMethod ({ cls := "ShapeSessionsModel", name := "type", desc := "(I)I" } : Jvm.MethodName)), (Jvm.Cond.selects "ShapeSessionsModel" ({ cls := "ShapeSessionsModel", name := "type", desc := "(I)I" } : Jvm.MethodName) ({ cls := "ShapeSessionsModel", name := "type", desc := "(I)I" } : Jvm.MethodName)), (Jvm.Cond.code ({ cls := "ShapeSessionsModel", name := "type", desc := "(I)I" } : Jvm.MethodName) prog_8_method_57_code (2 : Nat) (Option.some Jvm.ClassFile.FieldType.int)), (Jvm.Cond.methodLink "ShapeSessionsLaw" (92 : Nat) ({ cls := "ShapeSessionsModel", name := "clearText", desc := "()I" } : Jvm.MethodName)), (Jvm.Cond.instanceMethod ({ cls := "ShapeSessionsModel", name := "clearText", desc := "()I" } : Jvm.MethodName)), (Jvm.Cond.selects "ShapeSessionsModel" ({ cls := "ShapeSessionsModel", name := "clearText", desc := "()I" } : Jvm.MethodName) ({ cls := "ShapeSessionsModel", name := "clearText", desc := "()I" } : Jvm.MethodName)), (Jvm.Cond.code ({ cls := "ShapeSessionsModel", name := "clearText", desc := "()I" } : Jvm.MethodName) prog_8_method_58_code (2 : Nat) (Option.some Jvm.ClassFile.FieldType.int)), (Jvm.Cond.methodLink "ShapeSessionsLaw" (96 : Nat) ({ cls := "ShapeSessionsModel", name := "fault", desc := "(I)I" } : Jvm.MethodName)), (Jvm.Cond.instanceMethod ({ cls := "ShapeSessionsModel", name := "fault", desc := "(I)I" } : Jvm.MethodName))]
def ch_4_9 : List Cond := [(Jvm.Cond.selects "ShapeSessionsModel" ({ cls := "ShapeSessionsModel", name := "fault", desc := "(I)I" } : Jvm.MethodName) ({ cls := "ShapeSessionsModel", name := "fault", desc := "(I)I" } : Jvm.MethodName)), (Jvm.Cond.code ({ cls := "ShapeSessionsModel", name := "fault", desc := "(I)I" } : Jvm.MethodName) prog_8_method_65_code (2 : Nat) (Option.some Jvm.ClassFile.FieldType.int)), (Jvm.Cond.methodLink "ShapeSessionsModel" (204 : Nat) ({ cls := "ShapeSessionsModel", name := "look", desc := "()V" } : Jvm.MethodName)), (Jvm.Cond.privateMethod ({ cls := "ShapeSessionsModel", name := "look", desc := "()V" } : Jvm.MethodName)), (Jvm.Cond.instanceMethod ({ cls := "ShapeSessionsModel", name := "look", desc := "()V" } : Jvm.MethodName)), (Jvm.Cond.code ({ cls := "ShapeSessionsModel", name := "look", desc := "()V" } : Jvm.MethodName) prog_8_method_64_code (2 : Nat) (Option.none : Option Jvm.ClassFile.FieldType)), (Jvm.Cond.methodLink "ShapeSessionsModel" (201 : Nat) ({ cls := "ShapeSessionsModel", name := "go", desc := "()I" } : Jvm.MethodName)), (Jvm.Cond.privateMethod ({ cls := "ShapeSessionsModel", name := "go", desc := "()I" } : Jvm.MethodName)), (Jvm.Cond.instanceMethod ({ cls := "ShapeSessionsModel", name := "go", desc := "()I" } : Jvm.MethodName)), (Jvm.Cond.code ({ cls := "ShapeSessionsModel", name := "go", desc := "()I" } : Jvm.MethodName) prog_8_method_63_code (2 : Nat) (Option.some Jvm.ClassFile.FieldType.int)), (Jvm.Cond.methodLink "ShapeSessionsModel" (192 : Nat) ({ cls := "ShapeSessionsModel", name := "read", desc := "()V" } : Jvm.MethodName)), (Jvm.Cond.privateMethod ({ cls := "ShapeSessionsModel", name := "read", desc := "()V" } : Jvm.MethodName))]
def ch_4_10 : List Cond := [(Jvm.Cond.instanceMethod ({ cls := "ShapeSessionsModel", name := "read", desc := "()V" } : Jvm.MethodName)), (Jvm.Cond.code ({ cls := "ShapeSessionsModel", name := "read", desc := "()V" } : Jvm.MethodName) prog_8_method_61_code (5 : Nat) (Option.none : Option Jvm.ClassFile.FieldType)), (Jvm.Cond.methodLink "ShapeSessionsModel" (177 : Nat) ({ cls := "ShapeSessionsModel", name := "number", desc := "()I" } : Jvm.MethodName)), (Jvm.Cond.privateMethod ({ cls := "ShapeSessionsModel", name := "number", desc := "()I" } : Jvm.MethodName)), (Jvm.Cond.instanceMethod ({ cls := "ShapeSessionsModel", name := "number", desc := "()I" } : Jvm.MethodName)), (Jvm.Cond.code ({ cls := "ShapeSessionsModel", name := "number", desc := "()I" } : Jvm.MethodName) prog_8_method_60_code (3 : Nat) (Option.some Jvm.ClassFile.FieldType.int)), (Jvm.Cond.methodLink "ShapeSessionsModel" (171 : Nat) ({ cls := "ShapeSessionsModel", name := "sign", desc := "(II)I" } : Jvm.MethodName)), (Jvm.Cond.privateMethod ({ cls := "ShapeSessionsModel", name := "sign", desc := "(II)I" } : Jvm.MethodName)), (Jvm.Cond.instanceMethod ({ cls := "ShapeSessionsModel", name := "sign", desc := "(II)I" } : Jvm.MethodName)), (Jvm.Cond.code ({ cls := "ShapeSessionsModel", name := "sign", desc := "(II)I" } : Jvm.MethodName) prog_8_method_59_code (4 : Nat) (Option.some Jvm.ClassFile.FieldType.int)), (Jvm.Cond.methodLink "ShapeSessionsModel" (195 : Nat) ({ cls := "ShapeSessionsModel", name := "does", desc := "()I" } : Jvm.MethodName)), (Jvm.Cond.privateMethod ({ cls := "ShapeSessionsModel", name := "does", desc := "()I" } : Jvm.MethodName))]
def ch_4_11 : List Cond := [(Jvm.Cond.instanceMethod ({ cls := "ShapeSessionsModel", name := "does", desc := "()I" } : Jvm.MethodName)), (Jvm.Cond.code ({ cls := "ShapeSessionsModel", name := "does", desc := "()I" } : Jvm.MethodName) prog_8_method_62_code (3 : Nat) (Option.some Jvm.ClassFile.FieldType.int)), (Jvm.Cond.methodLink "ShapeSessionsLaw" (100 : Nat) ({ cls := "ShapeSessionsModel", name := "play", desc := "()I" } : Jvm.MethodName)), (Jvm.Cond.instanceMethod ({ cls := "ShapeSessionsModel", name := "play", desc := "()I" } : Jvm.MethodName)), (Jvm.Cond.selects "ShapeSessionsModel" ({ cls := "ShapeSessionsModel", name := "play", desc := "()I" } : Jvm.MethodName) ({ cls := "ShapeSessionsModel", name := "play", desc := "()I" } : Jvm.MethodName)), (Jvm.Cond.code ({ cls := "ShapeSessionsModel", name := "play", desc := "()I" } : Jvm.MethodName) prog_8_method_66_code (1 : Nat) (Option.some Jvm.ClassFile.FieldType.int))]
set_option maxRecDepth 20000 in
theorem tb_4 : tables_1_4 = ch_4_0 ++ (ch_4_1 ++ (ch_4_2 ++ (ch_4_3 ++ (ch_4_4 ++ (ch_4_5 ++ (ch_4_6 ++ (ch_4_7 ++ (ch_4_8 ++ (ch_4_9 ++ (ch_4_10 ++ (ch_4_11))))))))))) := rfl
def lwG : List Cond := lw_tbl.filter goodWord
theorem mG {w : Cond} (h : w ∈ lw_tbl) (g : goodWord w = true) : w ∈ lwG := List.mem_filter.mpr ⟨h, g⟩
theorem lwG_in : ∀ w ∈ lwG, w ∈ lw_tbl := fun _ h => (List.mem_filter.mp h).1
theorem it_1 : ∀ w ∈ tables_1_1, w ∈ lw_tbl := fun _ h => List.mem_append_right _ (List.mem_append_left _ h)
theorem ic_1_0 : ∀ w ∈ ch_1_0, w ∈ lw_tbl := fun _ h => it_1 _ (by rw [tb_1]; exact List.mem_append_left _ h)
theorem ic_1_1 : ∀ w ∈ ch_1_1, w ∈ lw_tbl := fun _ h => it_1 _ (by rw [tb_1]; exact List.mem_append_right _ (List.mem_append_left _ h))
theorem ic_1_2 : ∀ w ∈ ch_1_2, w ∈ lw_tbl := fun _ h => it_1 _ (by rw [tb_1]; exact List.mem_append_right _ (List.mem_append_right _ (List.mem_append_left _ h)))
theorem ic_1_3 : ∀ w ∈ ch_1_3, w ∈ lw_tbl := fun _ h => it_1 _ (by rw [tb_1]; exact List.mem_append_right _ (List.mem_append_right _ (List.mem_append_right _ (List.mem_append_left _ h))))
theorem ic_1_4 : ∀ w ∈ ch_1_4, w ∈ lw_tbl := fun _ h => it_1 _ (by rw [tb_1]; exact List.mem_append_right _ (List.mem_append_right _ (List.mem_append_right _ (List.mem_append_right _ (List.mem_append_left _ h)))))
theorem ic_1_5 : ∀ w ∈ ch_1_5, w ∈ lw_tbl := fun _ h => it_1 _ (by rw [tb_1]; exact List.mem_append_right _ (List.mem_append_right _ (List.mem_append_right _ (List.mem_append_right _ (List.mem_append_right _ (List.mem_append_left _ h))))))
theorem ic_1_6 : ∀ w ∈ ch_1_6, w ∈ lw_tbl := fun _ h => it_1 _ (by rw [tb_1]; exact List.mem_append_right _ (List.mem_append_right _ (List.mem_append_right _ (List.mem_append_right _ (List.mem_append_right _ (List.mem_append_right _ (List.mem_append_left _ h)))))))
theorem ic_1_7 : ∀ w ∈ ch_1_7, w ∈ lw_tbl := fun _ h => it_1 _ (by rw [tb_1]; exact List.mem_append_right _ (List.mem_append_right _ (List.mem_append_right _ (List.mem_append_right _ (List.mem_append_right _ (List.mem_append_right _ (List.mem_append_right _ (List.mem_append_left _ h))))))))
theorem ic_1_8 : ∀ w ∈ ch_1_8, w ∈ lw_tbl := fun _ h => it_1 _ (by rw [tb_1]; exact List.mem_append_right _ (List.mem_append_right _ (List.mem_append_right _ (List.mem_append_right _ (List.mem_append_right _ (List.mem_append_right _ (List.mem_append_right _ (List.mem_append_right _ (List.mem_append_left _ h)))))))))
theorem ic_1_9 : ∀ w ∈ ch_1_9, w ∈ lw_tbl := fun _ h => it_1 _ (by rw [tb_1]; exact List.mem_append_right _ (List.mem_append_right _ (List.mem_append_right _ (List.mem_append_right _ (List.mem_append_right _ (List.mem_append_right _ (List.mem_append_right _ (List.mem_append_right _ (List.mem_append_right _ (List.mem_append_left _ h))))))))))
theorem ic_1_10 : ∀ w ∈ ch_1_10, w ∈ lw_tbl := fun _ h => it_1 _ (by rw [tb_1]; exact List.mem_append_right _ (List.mem_append_right _ (List.mem_append_right _ (List.mem_append_right _ (List.mem_append_right _ (List.mem_append_right _ (List.mem_append_right _ (List.mem_append_right _ (List.mem_append_right _ (List.mem_append_right _ (List.mem_append_left _ h)))))))))))
theorem ic_1_11 : ∀ w ∈ ch_1_11, w ∈ lw_tbl := fun _ h => it_1 _ (by rw [tb_1]; exact List.mem_append_right _ (List.mem_append_right _ (List.mem_append_right _ (List.mem_append_right _ (List.mem_append_right _ (List.mem_append_right _ (List.mem_append_right _ (List.mem_append_right _ (List.mem_append_right _ (List.mem_append_right _ (List.mem_append_right _ (List.mem_append_left _ h))))))))))))
theorem ic_1_12 : ∀ w ∈ ch_1_12, w ∈ lw_tbl := fun _ h => it_1 _ (by rw [tb_1]; exact List.mem_append_right _ (List.mem_append_right _ (List.mem_append_right _ (List.mem_append_right _ (List.mem_append_right _ (List.mem_append_right _ (List.mem_append_right _ (List.mem_append_right _ (List.mem_append_right _ (List.mem_append_right _ (List.mem_append_right _ (List.mem_append_right _ (List.mem_append_left _ h)))))))))))))
theorem ic_1_13 : ∀ w ∈ ch_1_13, w ∈ lw_tbl := fun _ h => it_1 _ (by rw [tb_1]; exact List.mem_append_right _ (List.mem_append_right _ (List.mem_append_right _ (List.mem_append_right _ (List.mem_append_right _ (List.mem_append_right _ (List.mem_append_right _ (List.mem_append_right _ (List.mem_append_right _ (List.mem_append_right _ (List.mem_append_right _ (List.mem_append_right _ (List.mem_append_right _ (List.mem_append_left _ h))))))))))))))
theorem ic_1_14 : ∀ w ∈ ch_1_14, w ∈ lw_tbl := fun _ h => it_1 _ (by rw [tb_1]; exact List.mem_append_right _ (List.mem_append_right _ (List.mem_append_right _ (List.mem_append_right _ (List.mem_append_right _ (List.mem_append_right _ (List.mem_append_right _ (List.mem_append_right _ (List.mem_append_right _ (List.mem_append_right _ (List.mem_append_right _ (List.mem_append_right _ (List.mem_append_right _ (List.mem_append_right _ (List.mem_append_left _ h)))))))))))))))
theorem ic_1_15 : ∀ w ∈ ch_1_15, w ∈ lw_tbl := fun _ h => it_1 _ (by rw [tb_1]; exact List.mem_append_right _ (List.mem_append_right _ (List.mem_append_right _ (List.mem_append_right _ (List.mem_append_right _ (List.mem_append_right _ (List.mem_append_right _ (List.mem_append_right _ (List.mem_append_right _ (List.mem_append_right _ (List.mem_append_right _ (List.mem_append_right _ (List.mem_append_right _ (List.mem_append_right _ (List.mem_append_right _ (List.mem_append_left _ h))))))))))))))))
theorem ic_1_16 : ∀ w ∈ ch_1_16, w ∈ lw_tbl := fun _ h => it_1 _ (by rw [tb_1]; exact List.mem_append_right _ (List.mem_append_right _ (List.mem_append_right _ (List.mem_append_right _ (List.mem_append_right _ (List.mem_append_right _ (List.mem_append_right _ (List.mem_append_right _ (List.mem_append_right _ (List.mem_append_right _ (List.mem_append_right _ (List.mem_append_right _ (List.mem_append_right _ (List.mem_append_right _ (List.mem_append_right _ (List.mem_append_right _ (List.mem_append_left _ h)))))))))))))))))
theorem ic_1_17 : ∀ w ∈ ch_1_17, w ∈ lw_tbl := fun _ h => it_1 _ (by rw [tb_1]; exact List.mem_append_right _ (List.mem_append_right _ (List.mem_append_right _ (List.mem_append_right _ (List.mem_append_right _ (List.mem_append_right _ (List.mem_append_right _ (List.mem_append_right _ (List.mem_append_right _ (List.mem_append_right _ (List.mem_append_right _ (List.mem_append_right _ (List.mem_append_right _ (List.mem_append_right _ (List.mem_append_right _ (List.mem_append_right _ (List.mem_append_right _ (List.mem_append_left _ h))))))))))))))))))
theorem ic_1_18 : ∀ w ∈ ch_1_18, w ∈ lw_tbl := fun _ h => it_1 _ (by rw [tb_1]; exact List.mem_append_right _ (List.mem_append_right _ (List.mem_append_right _ (List.mem_append_right _ (List.mem_append_right _ (List.mem_append_right _ (List.mem_append_right _ (List.mem_append_right _ (List.mem_append_right _ (List.mem_append_right _ (List.mem_append_right _ (List.mem_append_right _ (List.mem_append_right _ (List.mem_append_right _ (List.mem_append_right _ (List.mem_append_right _ (List.mem_append_right _ (List.mem_append_right _ (List.mem_append_left _ h)))))))))))))))))))
theorem ic_1_19 : ∀ w ∈ ch_1_19, w ∈ lw_tbl := fun _ h => it_1 _ (by rw [tb_1]; exact List.mem_append_right _ (List.mem_append_right _ (List.mem_append_right _ (List.mem_append_right _ (List.mem_append_right _ (List.mem_append_right _ (List.mem_append_right _ (List.mem_append_right _ (List.mem_append_right _ (List.mem_append_right _ (List.mem_append_right _ (List.mem_append_right _ (List.mem_append_right _ (List.mem_append_right _ (List.mem_append_right _ (List.mem_append_right _ (List.mem_append_right _ (List.mem_append_right _ (List.mem_append_right _ (h))))))))))))))))))))
theorem it_2 : ∀ w ∈ tables_1_2, w ∈ lw_tbl := fun _ h => List.mem_append_right _ (List.mem_append_right _ (List.mem_append_left _ h))
theorem ic_2_0 : ∀ w ∈ ch_2_0, w ∈ lw_tbl := fun _ h => it_2 _ (by rw [tb_2]; exact List.mem_append_left _ h)
theorem ic_2_1 : ∀ w ∈ ch_2_1, w ∈ lw_tbl := fun _ h => it_2 _ (by rw [tb_2]; exact List.mem_append_right _ (List.mem_append_left _ h))
theorem ic_2_2 : ∀ w ∈ ch_2_2, w ∈ lw_tbl := fun _ h => it_2 _ (by rw [tb_2]; exact List.mem_append_right _ (List.mem_append_right _ (List.mem_append_left _ h)))
theorem ic_2_3 : ∀ w ∈ ch_2_3, w ∈ lw_tbl := fun _ h => it_2 _ (by rw [tb_2]; exact List.mem_append_right _ (List.mem_append_right _ (List.mem_append_right _ (List.mem_append_left _ h))))
theorem ic_2_4 : ∀ w ∈ ch_2_4, w ∈ lw_tbl := fun _ h => it_2 _ (by rw [tb_2]; exact List.mem_append_right _ (List.mem_append_right _ (List.mem_append_right _ (List.mem_append_right _ (List.mem_append_left _ h)))))
theorem ic_2_5 : ∀ w ∈ ch_2_5, w ∈ lw_tbl := fun _ h => it_2 _ (by rw [tb_2]; exact List.mem_append_right _ (List.mem_append_right _ (List.mem_append_right _ (List.mem_append_right _ (List.mem_append_right _ (List.mem_append_left _ h))))))
theorem ic_2_6 : ∀ w ∈ ch_2_6, w ∈ lw_tbl := fun _ h => it_2 _ (by rw [tb_2]; exact List.mem_append_right _ (List.mem_append_right _ (List.mem_append_right _ (List.mem_append_right _ (List.mem_append_right _ (List.mem_append_right _ (List.mem_append_left _ h)))))))
theorem ic_2_7 : ∀ w ∈ ch_2_7, w ∈ lw_tbl := fun _ h => it_2 _ (by rw [tb_2]; exact List.mem_append_right _ (List.mem_append_right _ (List.mem_append_right _ (List.mem_append_right _ (List.mem_append_right _ (List.mem_append_right _ (List.mem_append_right _ (List.mem_append_left _ h))))))))
theorem ic_2_8 : ∀ w ∈ ch_2_8, w ∈ lw_tbl := fun _ h => it_2 _ (by rw [tb_2]; exact List.mem_append_right _ (List.mem_append_right _ (List.mem_append_right _ (List.mem_append_right _ (List.mem_append_right _ (List.mem_append_right _ (List.mem_append_right _ (List.mem_append_right _ (List.mem_append_left _ h)))))))))
theorem ic_2_9 : ∀ w ∈ ch_2_9, w ∈ lw_tbl := fun _ h => it_2 _ (by rw [tb_2]; exact List.mem_append_right _ (List.mem_append_right _ (List.mem_append_right _ (List.mem_append_right _ (List.mem_append_right _ (List.mem_append_right _ (List.mem_append_right _ (List.mem_append_right _ (List.mem_append_right _ (List.mem_append_left _ h))))))))))
theorem ic_2_10 : ∀ w ∈ ch_2_10, w ∈ lw_tbl := fun _ h => it_2 _ (by rw [tb_2]; exact List.mem_append_right _ (List.mem_append_right _ (List.mem_append_right _ (List.mem_append_right _ (List.mem_append_right _ (List.mem_append_right _ (List.mem_append_right _ (List.mem_append_right _ (List.mem_append_right _ (List.mem_append_right _ (List.mem_append_left _ h)))))))))))
theorem ic_2_11 : ∀ w ∈ ch_2_11, w ∈ lw_tbl := fun _ h => it_2 _ (by rw [tb_2]; exact List.mem_append_right _ (List.mem_append_right _ (List.mem_append_right _ (List.mem_append_right _ (List.mem_append_right _ (List.mem_append_right _ (List.mem_append_right _ (List.mem_append_right _ (List.mem_append_right _ (List.mem_append_right _ (List.mem_append_right _ (List.mem_append_left _ h))))))))))))
theorem ic_2_12 : ∀ w ∈ ch_2_12, w ∈ lw_tbl := fun _ h => it_2 _ (by rw [tb_2]; exact List.mem_append_right _ (List.mem_append_right _ (List.mem_append_right _ (List.mem_append_right _ (List.mem_append_right _ (List.mem_append_right _ (List.mem_append_right _ (List.mem_append_right _ (List.mem_append_right _ (List.mem_append_right _ (List.mem_append_right _ (List.mem_append_right _ (List.mem_append_left _ h)))))))))))))
theorem ic_2_13 : ∀ w ∈ ch_2_13, w ∈ lw_tbl := fun _ h => it_2 _ (by rw [tb_2]; exact List.mem_append_right _ (List.mem_append_right _ (List.mem_append_right _ (List.mem_append_right _ (List.mem_append_right _ (List.mem_append_right _ (List.mem_append_right _ (List.mem_append_right _ (List.mem_append_right _ (List.mem_append_right _ (List.mem_append_right _ (List.mem_append_right _ (List.mem_append_right _ (List.mem_append_left _ h))))))))))))))
theorem ic_2_14 : ∀ w ∈ ch_2_14, w ∈ lw_tbl := fun _ h => it_2 _ (by rw [tb_2]; exact List.mem_append_right _ (List.mem_append_right _ (List.mem_append_right _ (List.mem_append_right _ (List.mem_append_right _ (List.mem_append_right _ (List.mem_append_right _ (List.mem_append_right _ (List.mem_append_right _ (List.mem_append_right _ (List.mem_append_right _ (List.mem_append_right _ (List.mem_append_right _ (List.mem_append_right _ (List.mem_append_left _ h)))))))))))))))
theorem ic_2_15 : ∀ w ∈ ch_2_15, w ∈ lw_tbl := fun _ h => it_2 _ (by rw [tb_2]; exact List.mem_append_right _ (List.mem_append_right _ (List.mem_append_right _ (List.mem_append_right _ (List.mem_append_right _ (List.mem_append_right _ (List.mem_append_right _ (List.mem_append_right _ (List.mem_append_right _ (List.mem_append_right _ (List.mem_append_right _ (List.mem_append_right _ (List.mem_append_right _ (List.mem_append_right _ (List.mem_append_right _ (List.mem_append_left _ h))))))))))))))))
theorem ic_2_16 : ∀ w ∈ ch_2_16, w ∈ lw_tbl := fun _ h => it_2 _ (by rw [tb_2]; exact List.mem_append_right _ (List.mem_append_right _ (List.mem_append_right _ (List.mem_append_right _ (List.mem_append_right _ (List.mem_append_right _ (List.mem_append_right _ (List.mem_append_right _ (List.mem_append_right _ (List.mem_append_right _ (List.mem_append_right _ (List.mem_append_right _ (List.mem_append_right _ (List.mem_append_right _ (List.mem_append_right _ (List.mem_append_right _ (List.mem_append_left _ h)))))))))))))))))
theorem ic_2_17 : ∀ w ∈ ch_2_17, w ∈ lw_tbl := fun _ h => it_2 _ (by rw [tb_2]; exact List.mem_append_right _ (List.mem_append_right _ (List.mem_append_right _ (List.mem_append_right _ (List.mem_append_right _ (List.mem_append_right _ (List.mem_append_right _ (List.mem_append_right _ (List.mem_append_right _ (List.mem_append_right _ (List.mem_append_right _ (List.mem_append_right _ (List.mem_append_right _ (List.mem_append_right _ (List.mem_append_right _ (List.mem_append_right _ (List.mem_append_right _ (List.mem_append_left _ h))))))))))))))))))
theorem ic_2_18 : ∀ w ∈ ch_2_18, w ∈ lw_tbl := fun _ h => it_2 _ (by rw [tb_2]; exact List.mem_append_right _ (List.mem_append_right _ (List.mem_append_right _ (List.mem_append_right _ (List.mem_append_right _ (List.mem_append_right _ (List.mem_append_right _ (List.mem_append_right _ (List.mem_append_right _ (List.mem_append_right _ (List.mem_append_right _ (List.mem_append_right _ (List.mem_append_right _ (List.mem_append_right _ (List.mem_append_right _ (List.mem_append_right _ (List.mem_append_right _ (List.mem_append_right _ (List.mem_append_left _ h)))))))))))))))))))
theorem ic_2_19 : ∀ w ∈ ch_2_19, w ∈ lw_tbl := fun _ h => it_2 _ (by rw [tb_2]; exact List.mem_append_right _ (List.mem_append_right _ (List.mem_append_right _ (List.mem_append_right _ (List.mem_append_right _ (List.mem_append_right _ (List.mem_append_right _ (List.mem_append_right _ (List.mem_append_right _ (List.mem_append_right _ (List.mem_append_right _ (List.mem_append_right _ (List.mem_append_right _ (List.mem_append_right _ (List.mem_append_right _ (List.mem_append_right _ (List.mem_append_right _ (List.mem_append_right _ (List.mem_append_right _ (h))))))))))))))))))))
theorem it_3 : ∀ w ∈ tables_1_3, w ∈ lw_tbl := fun _ h => List.mem_append_right _ (List.mem_append_right _ (List.mem_append_right _ (List.mem_append_left _ h)))
theorem ic_3_0 : ∀ w ∈ ch_3_0, w ∈ lw_tbl := fun _ h => it_3 _ (by rw [tb_3]; exact List.mem_append_left _ h)
theorem ic_3_1 : ∀ w ∈ ch_3_1, w ∈ lw_tbl := fun _ h => it_3 _ (by rw [tb_3]; exact List.mem_append_right _ (List.mem_append_left _ h))
theorem ic_3_2 : ∀ w ∈ ch_3_2, w ∈ lw_tbl := fun _ h => it_3 _ (by rw [tb_3]; exact List.mem_append_right _ (List.mem_append_right _ (List.mem_append_left _ h)))
theorem ic_3_3 : ∀ w ∈ ch_3_3, w ∈ lw_tbl := fun _ h => it_3 _ (by rw [tb_3]; exact List.mem_append_right _ (List.mem_append_right _ (List.mem_append_right _ (List.mem_append_left _ h))))
theorem ic_3_4 : ∀ w ∈ ch_3_4, w ∈ lw_tbl := fun _ h => it_3 _ (by rw [tb_3]; exact List.mem_append_right _ (List.mem_append_right _ (List.mem_append_right _ (List.mem_append_right _ (List.mem_append_left _ h)))))
theorem ic_3_5 : ∀ w ∈ ch_3_5, w ∈ lw_tbl := fun _ h => it_3 _ (by rw [tb_3]; exact List.mem_append_right _ (List.mem_append_right _ (List.mem_append_right _ (List.mem_append_right _ (List.mem_append_right _ (List.mem_append_left _ h))))))
theorem ic_3_6 : ∀ w ∈ ch_3_6, w ∈ lw_tbl := fun _ h => it_3 _ (by rw [tb_3]; exact List.mem_append_right _ (List.mem_append_right _ (List.mem_append_right _ (List.mem_append_right _ (List.mem_append_right _ (List.mem_append_right _ (List.mem_append_left _ h)))))))
theorem ic_3_7 : ∀ w ∈ ch_3_7, w ∈ lw_tbl := fun _ h => it_3 _ (by rw [tb_3]; exact List.mem_append_right _ (List.mem_append_right _ (List.mem_append_right _ (List.mem_append_right _ (List.mem_append_right _ (List.mem_append_right _ (List.mem_append_right _ (List.mem_append_left _ h))))))))
theorem ic_3_8 : ∀ w ∈ ch_3_8, w ∈ lw_tbl := fun _ h => it_3 _ (by rw [tb_3]; exact List.mem_append_right _ (List.mem_append_right _ (List.mem_append_right _ (List.mem_append_right _ (List.mem_append_right _ (List.mem_append_right _ (List.mem_append_right _ (List.mem_append_right _ (List.mem_append_left _ h)))))))))
theorem ic_3_9 : ∀ w ∈ ch_3_9, w ∈ lw_tbl := fun _ h => it_3 _ (by rw [tb_3]; exact List.mem_append_right _ (List.mem_append_right _ (List.mem_append_right _ (List.mem_append_right _ (List.mem_append_right _ (List.mem_append_right _ (List.mem_append_right _ (List.mem_append_right _ (List.mem_append_right _ (List.mem_append_left _ h))))))))))
theorem ic_3_10 : ∀ w ∈ ch_3_10, w ∈ lw_tbl := fun _ h => it_3 _ (by rw [tb_3]; exact List.mem_append_right _ (List.mem_append_right _ (List.mem_append_right _ (List.mem_append_right _ (List.mem_append_right _ (List.mem_append_right _ (List.mem_append_right _ (List.mem_append_right _ (List.mem_append_right _ (List.mem_append_right _ (List.mem_append_left _ h)))))))))))
theorem ic_3_11 : ∀ w ∈ ch_3_11, w ∈ lw_tbl := fun _ h => it_3 _ (by rw [tb_3]; exact List.mem_append_right _ (List.mem_append_right _ (List.mem_append_right _ (List.mem_append_right _ (List.mem_append_right _ (List.mem_append_right _ (List.mem_append_right _ (List.mem_append_right _ (List.mem_append_right _ (List.mem_append_right _ (List.mem_append_right _ (List.mem_append_left _ h))))))))))))
theorem ic_3_12 : ∀ w ∈ ch_3_12, w ∈ lw_tbl := fun _ h => it_3 _ (by rw [tb_3]; exact List.mem_append_right _ (List.mem_append_right _ (List.mem_append_right _ (List.mem_append_right _ (List.mem_append_right _ (List.mem_append_right _ (List.mem_append_right _ (List.mem_append_right _ (List.mem_append_right _ (List.mem_append_right _ (List.mem_append_right _ (List.mem_append_right _ (List.mem_append_left _ h)))))))))))))
theorem ic_3_13 : ∀ w ∈ ch_3_13, w ∈ lw_tbl := fun _ h => it_3 _ (by rw [tb_3]; exact List.mem_append_right _ (List.mem_append_right _ (List.mem_append_right _ (List.mem_append_right _ (List.mem_append_right _ (List.mem_append_right _ (List.mem_append_right _ (List.mem_append_right _ (List.mem_append_right _ (List.mem_append_right _ (List.mem_append_right _ (List.mem_append_right _ (List.mem_append_right _ (List.mem_append_left _ h))))))))))))))
theorem ic_3_14 : ∀ w ∈ ch_3_14, w ∈ lw_tbl := fun _ h => it_3 _ (by rw [tb_3]; exact List.mem_append_right _ (List.mem_append_right _ (List.mem_append_right _ (List.mem_append_right _ (List.mem_append_right _ (List.mem_append_right _ (List.mem_append_right _ (List.mem_append_right _ (List.mem_append_right _ (List.mem_append_right _ (List.mem_append_right _ (List.mem_append_right _ (List.mem_append_right _ (List.mem_append_right _ (List.mem_append_left _ h)))))))))))))))
theorem ic_3_15 : ∀ w ∈ ch_3_15, w ∈ lw_tbl := fun _ h => it_3 _ (by rw [tb_3]; exact List.mem_append_right _ (List.mem_append_right _ (List.mem_append_right _ (List.mem_append_right _ (List.mem_append_right _ (List.mem_append_right _ (List.mem_append_right _ (List.mem_append_right _ (List.mem_append_right _ (List.mem_append_right _ (List.mem_append_right _ (List.mem_append_right _ (List.mem_append_right _ (List.mem_append_right _ (List.mem_append_right _ (List.mem_append_left _ h))))))))))))))))
theorem ic_3_16 : ∀ w ∈ ch_3_16, w ∈ lw_tbl := fun _ h => it_3 _ (by rw [tb_3]; exact List.mem_append_right _ (List.mem_append_right _ (List.mem_append_right _ (List.mem_append_right _ (List.mem_append_right _ (List.mem_append_right _ (List.mem_append_right _ (List.mem_append_right _ (List.mem_append_right _ (List.mem_append_right _ (List.mem_append_right _ (List.mem_append_right _ (List.mem_append_right _ (List.mem_append_right _ (List.mem_append_right _ (List.mem_append_right _ (List.mem_append_left _ h)))))))))))))))))
theorem ic_3_17 : ∀ w ∈ ch_3_17, w ∈ lw_tbl := fun _ h => it_3 _ (by rw [tb_3]; exact List.mem_append_right _ (List.mem_append_right _ (List.mem_append_right _ (List.mem_append_right _ (List.mem_append_right _ (List.mem_append_right _ (List.mem_append_right _ (List.mem_append_right _ (List.mem_append_right _ (List.mem_append_right _ (List.mem_append_right _ (List.mem_append_right _ (List.mem_append_right _ (List.mem_append_right _ (List.mem_append_right _ (List.mem_append_right _ (List.mem_append_right _ (List.mem_append_left _ h))))))))))))))))))
theorem ic_3_18 : ∀ w ∈ ch_3_18, w ∈ lw_tbl := fun _ h => it_3 _ (by rw [tb_3]; exact List.mem_append_right _ (List.mem_append_right _ (List.mem_append_right _ (List.mem_append_right _ (List.mem_append_right _ (List.mem_append_right _ (List.mem_append_right _ (List.mem_append_right _ (List.mem_append_right _ (List.mem_append_right _ (List.mem_append_right _ (List.mem_append_right _ (List.mem_append_right _ (List.mem_append_right _ (List.mem_append_right _ (List.mem_append_right _ (List.mem_append_right _ (List.mem_append_right _ (List.mem_append_left _ h)))))))))))))))))))
theorem ic_3_19 : ∀ w ∈ ch_3_19, w ∈ lw_tbl := fun _ h => it_3 _ (by rw [tb_3]; exact List.mem_append_right _ (List.mem_append_right _ (List.mem_append_right _ (List.mem_append_right _ (List.mem_append_right _ (List.mem_append_right _ (List.mem_append_right _ (List.mem_append_right _ (List.mem_append_right _ (List.mem_append_right _ (List.mem_append_right _ (List.mem_append_right _ (List.mem_append_right _ (List.mem_append_right _ (List.mem_append_right _ (List.mem_append_right _ (List.mem_append_right _ (List.mem_append_right _ (List.mem_append_right _ (h))))))))))))))))))))
theorem it_4 : ∀ w ∈ tables_1_4, w ∈ lw_tbl := fun _ h => List.mem_append_right _ (List.mem_append_right _ (List.mem_append_right _ (List.mem_append_right _ (h))))
theorem ic_4_0 : ∀ w ∈ ch_4_0, w ∈ lw_tbl := fun _ h => it_4 _ (by rw [tb_4]; exact List.mem_append_left _ h)
theorem ic_4_1 : ∀ w ∈ ch_4_1, w ∈ lw_tbl := fun _ h => it_4 _ (by rw [tb_4]; exact List.mem_append_right _ (List.mem_append_left _ h))
theorem ic_4_2 : ∀ w ∈ ch_4_2, w ∈ lw_tbl := fun _ h => it_4 _ (by rw [tb_4]; exact List.mem_append_right _ (List.mem_append_right _ (List.mem_append_left _ h)))
theorem ic_4_3 : ∀ w ∈ ch_4_3, w ∈ lw_tbl := fun _ h => it_4 _ (by rw [tb_4]; exact List.mem_append_right _ (List.mem_append_right _ (List.mem_append_right _ (List.mem_append_left _ h))))
theorem ic_4_4 : ∀ w ∈ ch_4_4, w ∈ lw_tbl := fun _ h => it_4 _ (by rw [tb_4]; exact List.mem_append_right _ (List.mem_append_right _ (List.mem_append_right _ (List.mem_append_right _ (List.mem_append_left _ h)))))
theorem ic_4_5 : ∀ w ∈ ch_4_5, w ∈ lw_tbl := fun _ h => it_4 _ (by rw [tb_4]; exact List.mem_append_right _ (List.mem_append_right _ (List.mem_append_right _ (List.mem_append_right _ (List.mem_append_right _ (List.mem_append_left _ h))))))
theorem ic_4_6 : ∀ w ∈ ch_4_6, w ∈ lw_tbl := fun _ h => it_4 _ (by rw [tb_4]; exact List.mem_append_right _ (List.mem_append_right _ (List.mem_append_right _ (List.mem_append_right _ (List.mem_append_right _ (List.mem_append_right _ (List.mem_append_left _ h)))))))
theorem ic_4_7 : ∀ w ∈ ch_4_7, w ∈ lw_tbl := fun _ h => it_4 _ (by rw [tb_4]; exact List.mem_append_right _ (List.mem_append_right _ (List.mem_append_right _ (List.mem_append_right _ (List.mem_append_right _ (List.mem_append_right _ (List.mem_append_right _ (List.mem_append_left _ h))))))))
theorem ic_4_8 : ∀ w ∈ ch_4_8, w ∈ lw_tbl := fun _ h => it_4 _ (by rw [tb_4]; exact List.mem_append_right _ (List.mem_append_right _ (List.mem_append_right _ (List.mem_append_right _ (List.mem_append_right _ (List.mem_append_right _ (List.mem_append_right _ (List.mem_append_right _ (List.mem_append_left _ h)))))))))
theorem ic_4_9 : ∀ w ∈ ch_4_9, w ∈ lw_tbl := fun _ h => it_4 _ (by rw [tb_4]; exact List.mem_append_right _ (List.mem_append_right _ (List.mem_append_right _ (List.mem_append_right _ (List.mem_append_right _ (List.mem_append_right _ (List.mem_append_right _ (List.mem_append_right _ (List.mem_append_right _ (List.mem_append_left _ h))))))))))
theorem ic_4_10 : ∀ w ∈ ch_4_10, w ∈ lw_tbl := fun _ h => it_4 _ (by rw [tb_4]; exact List.mem_append_right _ (List.mem_append_right _ (List.mem_append_right _ (List.mem_append_right _ (List.mem_append_right _ (List.mem_append_right _ (List.mem_append_right _ (List.mem_append_right _ (List.mem_append_right _ (List.mem_append_right _ (List.mem_append_left _ h)))))))))))
theorem ic_4_11 : ∀ w ∈ ch_4_11, w ∈ lw_tbl := fun _ h => it_4 _ (by rw [tb_4]; exact List.mem_append_right _ (List.mem_append_right _ (List.mem_append_right _ (List.mem_append_right _ (List.mem_append_right _ (List.mem_append_right _ (List.mem_append_right _ (List.mem_append_right _ (List.mem_append_right _ (List.mem_append_right _ (List.mem_append_right _ (h))))))))))))
theorem q_0 : (Cond.initialized RL) ∈ lwG := mG (ic_1_0 _ (List.mem_of_getElem? (i := 0) rfl)) rfl
theorem q_1 : (Cond.initialized RX5) ∈ lwG := mG (ic_1_0 _ (List.mem_of_getElem? (i := 1) rfl)) rfl
theorem q_2 : (Cond.initialized RX2) ∈ lwG := mG (ic_1_0 _ (List.mem_of_getElem? (i := 2) rfl)) rfl
theorem q_3 : (Cond.initialized RX1) ∈ lwG := mG (ic_1_0 _ (List.mem_of_getElem? (i := 3) rfl)) rfl
theorem q_4 : (Cond.initialized RX0) ∈ lwG := mG (ic_1_0 _ (List.mem_of_getElem? (i := 4) rfl)) rfl
theorem q_5 : (Cond.initialized RX4) ∈ lwG := mG (ic_1_0 _ (List.mem_of_getElem? (i := 5) rfl)) rfl
theorem q_6 : (Cond.initialized RX3) ∈ lwG := mG (ic_1_0 _ (List.mem_of_getElem? (i := 6) rfl)) rfl
theorem q_7 : (Cond.initialized RX6) ∈ lwG := mG (ic_1_0 _ (List.mem_of_getElem? (i := 7) rfl)) rfl
theorem q_8 : (Cond.initialized RJ9) ∈ lwG := mG (ic_1_0 _ (List.mem_of_getElem? (i := 8) rfl)) rfl
theorem q_9 : (Cond.classLink RL 7 RX5) ∈ lwG := mG (ic_1_0 _ (List.mem_of_getElem? (i := 9) rfl)) rfl
theorem q_10 : (Cond.instantiable RX5 10) ∈ lwG := mG (ic_1_0 _ (List.mem_of_getElem? (i := 10) rfl)) rfl
theorem q_11 : (Cond.methodLink RL 9 yX5_init) ∈ lwG := mG (ic_1_0 _ (List.mem_of_getElem? (i := 11) rfl)) rfl
theorem q_12 : (Cond.instanceMethod yX5_init) ∈ lwG := mG (ic_1_1 _ (List.mem_of_getElem? (i := 0) rfl)) rfl
theorem q_13 : (Cond.code yX5_init cX5_init 2 none) ∈ lwG := mG (ic_1_1 _ (List.mem_of_getElem? (i := 1) rfl)) rfl
theorem q_14 : (Cond.methodLink RX5 1 objectInit) ∈ lwG := mG (ic_1_1 _ (List.mem_of_getElem? (i := 2) rfl)) rfl
theorem q_15 : (Cond.instanceMethod objectInit) ∈ lwG := mG (ic_1_1 _ (List.mem_of_getElem? (i := 3) rfl)) rfl
theorem q_16 : (Cond.code objectInit object_method_1_code 1 none) ∈ lwG := mG (ic_1_1 _ (List.mem_of_getElem? (i := 4) rfl)) rfl
theorem q_17 : (Cond.classLink RX5 7 RX2) ∈ lwG := mG (ic_1_1 _ (List.mem_of_getElem? (i := 5) rfl)) rfl
theorem q_18 : (Cond.instantiable RX2 12) ∈ lwG := mG (ic_1_1 _ (List.mem_of_getElem? (i := 6) rfl)) rfl
theorem q_19 : (Cond.methodLink RX5 9 yX2_init) ∈ lwG := mG (ic_1_1 _ (List.mem_of_getElem? (i := 7) rfl)) rfl
theorem q_20 : (Cond.instanceMethod yX2_init) ∈ lwG := mG (ic_1_1 _ (List.mem_of_getElem? (i := 8) rfl)) rfl
theorem q_21 : (Cond.code yX2_init cX2_init 2 none) ∈ lwG := mG (ic_1_1 _ (List.mem_of_getElem? (i := 9) rfl)) rfl
theorem q_22 : (Cond.methodLink RX2 3 objectInit) ∈ lwG := mG (ic_1_1 _ (List.mem_of_getElem? (i := 10) rfl)) rfl
theorem q_23 : (Cond.classLink RX2 30 RX1) ∈ lwG := mG (ic_1_1 _ (List.mem_of_getElem? (i := 11) rfl)) rfl
theorem q_24 : (Cond.arrayOver (.object "ShapeSessions$Session")) ∈ lw_tbl := ic_1_2 _ (List.mem_of_getElem? (i := 0) rfl)
theorem q_25 : (Cond.instantiable RX1 9) ∈ lwG := mG (ic_1_2 _ (List.mem_of_getElem? (i := 1) rfl)) rfl
theorem q_26 : (Cond.methodLink RX2 36 yX1_init) ∈ lwG := mG (ic_1_2 _ (List.mem_of_getElem? (i := 2) rfl)) rfl
theorem q_27 : (Cond.instanceMethod yX1_init) ∈ lwG := mG (ic_1_2 _ (List.mem_of_getElem? (i := 3) rfl)) rfl
theorem q_28 : (Cond.code yX1_init cX1_init 2 none) ∈ lwG := mG (ic_1_2 _ (List.mem_of_getElem? (i := 4) rfl)) rfl
theorem q_29 : (Cond.methodLink RX1 3 objectInit) ∈ lwG := mG (ic_1_2 _ (List.mem_of_getElem? (i := 5) rfl)) rfl
theorem q_30 : (Cond.classLink RX1 9 RX0) ∈ lwG := mG (ic_1_2 _ (List.mem_of_getElem? (i := 6) rfl)) rfl
theorem q_31 : (Cond.arrayOver (.object "ShapeSessions$Entry")) ∈ lw_tbl := ic_1_2 _ (List.mem_of_getElem? (i := 7) rfl)
theorem q_32 : (Cond.instantiable RX0 6) ∈ lwG := mG (ic_1_2 _ (List.mem_of_getElem? (i := 8) rfl)) rfl
theorem q_33 : (Cond.methodLinkNest RX1 17 yX0_init RX5) ∈ lw_tbl := ic_1_2 _ (List.mem_of_getElem? (i := 9) rfl)
theorem q_34 : (Cond.instanceMethod yX0_init) ∈ lwG := mG (ic_1_2 _ (List.mem_of_getElem? (i := 10) rfl)) rfl
theorem q_35 : (Cond.code yX0_init cX0_init 1 none) ∈ lwG := mG (ic_1_2 _ (List.mem_of_getElem? (i := 11) rfl)) rfl
theorem q_36 : (Cond.methodLink RX0 1 objectInit) ∈ lwG := mG (ic_1_3 _ (List.mem_of_getElem? (i := 0) rfl)) rfl
theorem q_37 : (Cond.fieldLink RX0 7 "ShapeSessions$Entry" "table" "I") ∈ lwG := mG (ic_1_3 _ (List.mem_of_getElem? (i := 1) rfl)) rfl
theorem q_38 : (Cond.fieldLink RX4 25 "ShapeSessions$Entry" "table" "I") ∈ lwG := mG (ic_1_3 _ (List.mem_of_getElem? (i := 2) rfl)) rfl
theorem q_39 : (Cond.fieldLink RX1 57 "ShapeSessions$Entry" "table" "I") ∈ lwG := mG (ic_1_3 _ (List.mem_of_getElem? (i := 3) rfl)) rfl
theorem q_40 : (Cond.fieldLink RX5 135 "ShapeSessions$Entry" "table" "I") ∈ lwG := mG (ic_1_3 _ (List.mem_of_getElem? (i := 4) rfl)) rfl
theorem q_41 : (Cond.fieldLink RX0 13 "ShapeSessions$Entry" "version" "I") ∈ lwG := mG (ic_1_3 _ (List.mem_of_getElem? (i := 5) rfl)) rfl
theorem q_42 : (Cond.fieldLink RX4 34 "ShapeSessions$Entry" "version" "I") ∈ lwG := mG (ic_1_3 _ (List.mem_of_getElem? (i := 6) rfl)) rfl
theorem q_43 : (Cond.fieldLink RX1 60 "ShapeSessions$Entry" "version" "I") ∈ lwG := mG (ic_1_3 _ (List.mem_of_getElem? (i := 7) rfl)) rfl
theorem q_44 : (Cond.fieldLink RX5 140 "ShapeSessions$Entry" "version" "I") ∈ lwG := mG (ic_1_3 _ (List.mem_of_getElem? (i := 8) rfl)) rfl
theorem q_45 : (Cond.fieldLink RX0 16 "ShapeSessions$Entry" "shape" "I") ∈ lwG := mG (ic_1_3 _ (List.mem_of_getElem? (i := 9) rfl)) rfl
theorem q_46 : (Cond.fieldLink RX1 103 "ShapeSessions$Entry" "shape" "I") ∈ lwG := mG (ic_1_3 _ (List.mem_of_getElem? (i := 10) rfl)) rfl
theorem q_47 : (Cond.fieldLink RX5 142 "ShapeSessions$Entry" "shape" "I") ∈ lwG := mG (ic_1_3 _ (List.mem_of_getElem? (i := 11) rfl)) rfl
theorem q_48 : (Cond.fieldLink RX0 19 "ShapeSessions$Entry" "workers" "I") ∈ lwG := mG (ic_1_4 _ (List.mem_of_getElem? (i := 0) rfl)) rfl
theorem q_49 : (Cond.fieldLink RX1 67 "ShapeSessions$Entry" "workers" "I") ∈ lwG := mG (ic_1_4 _ (List.mem_of_getElem? (i := 1) rfl)) rfl
theorem q_50 : (Cond.fieldLink RX5 144 "ShapeSessions$Entry" "workers" "I") ∈ lwG := mG (ic_1_4 _ (List.mem_of_getElem? (i := 2) rfl)) rfl
theorem q_51 : (Cond.fieldLink RX0 22 "ShapeSessions$Entry" "lastUse" "I") ∈ lwG := mG (ic_1_4 _ (List.mem_of_getElem? (i := 3) rfl)) rfl
theorem q_52 : (Cond.fieldLink RX1 85 "ShapeSessions$Entry" "lastUse" "I") ∈ lwG := mG (ic_1_4 _ (List.mem_of_getElem? (i := 4) rfl)) rfl
theorem q_53 : (Cond.fieldLink RX5 147 "ShapeSessions$Entry" "lastUse" "I") ∈ lwG := mG (ic_1_4 _ (List.mem_of_getElem? (i := 5) rfl)) rfl
theorem q_54 : (Cond.fieldLink RX0 25 "ShapeSessions$Entry" "stale" "Z") ∈ lwG := mG (ic_1_4 _ (List.mem_of_getElem? (i := 6) rfl)) rfl
theorem q_55 : (Cond.fieldLink RX1 63 "ShapeSessions$Entry" "stale" "Z") ∈ lwG := mG (ic_1_4 _ (List.mem_of_getElem? (i := 7) rfl)) rfl
theorem q_56 : (Cond.fieldLink RX5 150 "ShapeSessions$Entry" "stale" "Z") ∈ lwG := mG (ic_1_4 _ (List.mem_of_getElem? (i := 8) rfl)) rfl
theorem q_57 : (Cond.lays RX0 "ShapeSessions$Entry" "table" "I") ∈ lwG := mG (ic_1_4 _ (List.mem_of_getElem? (i := 9) rfl)) rfl
theorem q_58 : (Cond.lays RX0 "ShapeSessions$Entry" "version" "I") ∈ lwG := mG (ic_1_4 _ (List.mem_of_getElem? (i := 11) rfl)) rfl
theorem q_59 : (Cond.lays RX0 "ShapeSessions$Entry" "shape" "I") ∈ lwG := mG (ic_1_5 _ (List.mem_of_getElem? (i := 1) rfl)) rfl
theorem q_60 : (Cond.lays RX0 "ShapeSessions$Entry" "workers" "I") ∈ lwG := mG (ic_1_5 _ (List.mem_of_getElem? (i := 3) rfl)) rfl
theorem q_61 : (Cond.lays RX0 "ShapeSessions$Entry" "lastUse" "I") ∈ lwG := mG (ic_1_5 _ (List.mem_of_getElem? (i := 5) rfl)) rfl
theorem q_62 : (Cond.lays RX0 "ShapeSessions$Entry" "stale" "Z") ∈ lwG := mG (ic_1_5 _ (List.mem_of_getElem? (i := 7) rfl)) rfl
theorem q_63 : (Cond.arrayClass .int) ∈ lwG := mG (ic_1_5 _ (List.mem_of_getElem? (i := 10) rfl)) rfl
theorem q_64 : (Cond.classLink RX1 18 RX4) ∈ lwG := mG (ic_1_5 _ (List.mem_of_getElem? (i := 11) rfl)) rfl
theorem q_65 : (Cond.arrayOver (.object "ShapeSessions$Work")) ∈ lw_tbl := ic_1_6 _ (List.mem_of_getElem? (i := 0) rfl)
theorem q_66 : (Cond.instantiable RX4 4) ∈ lwG := mG (ic_1_6 _ (List.mem_of_getElem? (i := 1) rfl)) rfl
theorem q_67 : (Cond.methodLink RX1 24 yX4_init) ∈ lwG := mG (ic_1_6 _ (List.mem_of_getElem? (i := 2) rfl)) rfl
theorem q_68 : (Cond.instanceMethod yX4_init) ∈ lwG := mG (ic_1_6 _ (List.mem_of_getElem? (i := 3) rfl)) rfl
theorem q_69 : (Cond.code yX4_init cX4_init 1 none) ∈ lwG := mG (ic_1_6 _ (List.mem_of_getElem? (i := 4) rfl)) rfl
theorem q_70 : (Cond.methodLink RX4 3 objectInit) ∈ lwG := mG (ic_1_6 _ (List.mem_of_getElem? (i := 5) rfl)) rfl
theorem q_71 : (Cond.fieldLink RX4 9 "ShapeSessions$Work" "number" "I") ∈ lwG := mG (ic_1_6 _ (List.mem_of_getElem? (i := 6) rfl)) rfl
theorem q_72 : (Cond.fieldLink RX1 47 "ShapeSessions$Work" "number" "I") ∈ lwG := mG (ic_1_6 _ (List.mem_of_getElem? (i := 7) rfl)) rfl
theorem q_73 : (Cond.fieldLink RX2 96 "ShapeSessions$Work" "number" "I") ∈ lwG := mG (ic_1_6 _ (List.mem_of_getElem? (i := 8) rfl)) rfl
theorem q_74 : (Cond.fieldLink RX4 19 "ShapeSessions$Work" "tables" "I") ∈ lwG := mG (ic_1_6 _ (List.mem_of_getElem? (i := 9) rfl)) rfl
theorem q_75 : (Cond.fieldLink RX2 101 "ShapeSessions$Work" "tables" "I") ∈ lwG := mG (ic_1_6 _ (List.mem_of_getElem? (i := 10) rfl)) rfl
theorem q_76 : (Cond.fieldLink RX5 160 "ShapeSessions$Work" "tables" "I") ∈ lwG := mG (ic_1_6 _ (List.mem_of_getElem? (i := 11) rfl)) rfl
theorem q_77 : (Cond.fieldLink RX1 106 "ShapeSessions$Work" "tables" "I") ∈ lwG := mG (ic_1_7 _ (List.mem_of_getElem? (i := 0) rfl)) rfl
theorem q_78 : (Cond.fieldLink RX4 22 "ShapeSessions$Work" "startedAt" "I") ∈ lwG := mG (ic_1_7 _ (List.mem_of_getElem? (i := 1) rfl)) rfl
theorem q_79 : (Cond.fieldLink RX2 104 "ShapeSessions$Work" "startedAt" "I") ∈ lwG := mG (ic_1_7 _ (List.mem_of_getElem? (i := 2) rfl)) rfl
theorem q_80 : (Cond.fieldLink RX5 165 "ShapeSessions$Work" "startedAt" "I") ∈ lwG := mG (ic_1_7 _ (List.mem_of_getElem? (i := 3) rfl)) rfl
theorem q_81 : (Cond.fieldLink RX4 15 "ShapeSessions$Work" "version" "[I") ∈ lwG := mG (ic_1_7 _ (List.mem_of_getElem? (i := 4) rfl)) rfl
theorem q_82 : (Cond.fieldLink RX1 88 "ShapeSessions$Work" "version" "[I") ∈ lwG := mG (ic_1_7 _ (List.mem_of_getElem? (i := 5) rfl)) rfl
theorem q_83 : (Cond.lays RX4 "ShapeSessions$Work" "number" "I") ∈ lwG := mG (ic_1_7 _ (List.mem_of_getElem? (i := 6) rfl)) rfl
theorem q_84 : (Cond.lays RX4 "ShapeSessions$Work" "tables" "I") ∈ lwG := mG (ic_1_7 _ (List.mem_of_getElem? (i := 8) rfl)) rfl
theorem q_85 : (Cond.lays RX4 "ShapeSessions$Work" "startedAt" "I") ∈ lwG := mG (ic_1_7 _ (List.mem_of_getElem? (i := 10) rfl)) rfl
theorem q_86 : (Cond.laysFinal RX4 "ShapeSessions$Work" "version" "[I") ∈ lwG := mG (ic_1_8 _ (List.mem_of_getElem? (i := 0) rfl)) rfl
theorem q_87 : (Cond.fieldLink RX1 25 "ShapeSessions$Session" "known" "I") ∈ lwG := mG (ic_1_8 _ (List.mem_of_getElem? (i := 3) rfl)) rfl
theorem q_88 : (Cond.fieldLink RX2 86 "ShapeSessions$Session" "known" "I") ∈ lwG := mG (ic_1_8 _ (List.mem_of_getElem? (i := 4) rfl)) rfl
theorem q_89 : (Cond.fieldLink RX5 98 "ShapeSessions$Session" "known" "I") ∈ lwG := mG (ic_1_8 _ (List.mem_of_getElem? (i := 5) rfl)) rfl
theorem q_90 : (Cond.fieldLink RX1 29 "ShapeSessions$Session" "hits" "I") ∈ lwG := mG (ic_1_8 _ (List.mem_of_getElem? (i := 6) rfl)) rfl
theorem q_91 : (Cond.fieldLink RX5 116 "ShapeSessions$Session" "hits" "I") ∈ lwG := mG (ic_1_8 _ (List.mem_of_getElem? (i := 7) rfl)) rfl
theorem q_92 : (Cond.fieldLink RX1 32 "ShapeSessions$Session" "loads" "I") ∈ lwG := mG (ic_1_8 _ (List.mem_of_getElem? (i := 8) rfl)) rfl
theorem q_93 : (Cond.fieldLink RX5 119 "ShapeSessions$Session" "loads" "I") ∈ lwG := mG (ic_1_8 _ (List.mem_of_getElem? (i := 9) rfl)) rfl
theorem q_94 : (Cond.fieldLink RX2 145 "ShapeSessions$Session" "loads" "I") ∈ lwG := mG (ic_1_8 _ (List.mem_of_getElem? (i := 10) rfl)) rfl
theorem q_95 : (Cond.fieldLink RX1 35 "ShapeSessions$Session" "drops" "I") ∈ lwG := mG (ic_1_8 _ (List.mem_of_getElem? (i := 11) rfl)) rfl
theorem q_96 : (Cond.fieldLink RX5 122 "ShapeSessions$Session" "drops" "I") ∈ lwG := mG (ic_1_9 _ (List.mem_of_getElem? (i := 0) rfl)) rfl
theorem q_97 : (Cond.fieldLink RX1 38 "ShapeSessions$Session" "asksThatHelped" "I") ∈ lwG := mG (ic_1_9 _ (List.mem_of_getElem? (i := 1) rfl)) rfl
theorem q_98 : (Cond.fieldLink RX2 93 "ShapeSessions$Session" "asksThatHelped" "I") ∈ lwG := mG (ic_1_9 _ (List.mem_of_getElem? (i := 2) rfl)) rfl
theorem q_99 : (Cond.fieldLink RX5 125 "ShapeSessions$Session" "asksThatHelped" "I") ∈ lwG := mG (ic_1_9 _ (List.mem_of_getElem? (i := 3) rfl)) rfl
theorem q_100 : (Cond.fieldLink RX1 41 "ShapeSessions$Session" "lateNotices" "I") ∈ lwG := mG (ic_1_9 _ (List.mem_of_getElem? (i := 4) rfl)) rfl
theorem q_101 : (Cond.fieldLink RX5 128 "ShapeSessions$Session" "lateNotices" "I") ∈ lwG := mG (ic_1_9 _ (List.mem_of_getElem? (i := 5) rfl)) rfl
theorem q_102 : (Cond.fieldLink RX2 128 "ShapeSessions$Session" "lateNotices" "I") ∈ lwG := mG (ic_1_9 _ (List.mem_of_getElem? (i := 6) rfl)) rfl
theorem q_103 : (Cond.fieldLink RX1 44 "ShapeSessions$Session" "inHand" "I") ∈ lwG := mG (ic_1_9 _ (List.mem_of_getElem? (i := 7) rfl)) rfl
theorem q_104 : (Cond.fieldLink RX5 107 "ShapeSessions$Session" "inHand" "I") ∈ lwG := mG (ic_1_9 _ (List.mem_of_getElem? (i := 8) rfl)) rfl
theorem q_105 : (Cond.fieldLink RX1 11 "ShapeSessions$Session" "hand" "[LShapeSessions$Entry;") ∈ lwG := mG (ic_1_9 _ (List.mem_of_getElem? (i := 9) rfl)) rfl
theorem q_106 : (Cond.fieldLink RX5 131 "ShapeSessions$Session" "hand" "[LShapeSessions$Entry;") ∈ lwG := mG (ic_1_9 _ (List.mem_of_getElem? (i := 10) rfl)) rfl
theorem q_107 : (Cond.fieldLink RX1 20 "ShapeSessions$Session" "works" "[LShapeSessions$Work;") ∈ lwG := mG (ic_1_9 _ (List.mem_of_getElem? (i := 11) rfl)) rfl
theorem q_108 : (Cond.lays RX1 "ShapeSessions$Session" "known" "I") ∈ lwG := mG (ic_1_10 _ (List.mem_of_getElem? (i := 0) rfl)) rfl
theorem q_109 : (Cond.lays RX1 "ShapeSessions$Session" "hits" "I") ∈ lwG := mG (ic_1_10 _ (List.mem_of_getElem? (i := 2) rfl)) rfl
theorem q_110 : (Cond.lays RX1 "ShapeSessions$Session" "loads" "I") ∈ lwG := mG (ic_1_10 _ (List.mem_of_getElem? (i := 4) rfl)) rfl
theorem q_111 : (Cond.lays RX1 "ShapeSessions$Session" "drops" "I") ∈ lwG := mG (ic_1_10 _ (List.mem_of_getElem? (i := 6) rfl)) rfl
theorem q_112 : (Cond.lays RX1 "ShapeSessions$Session" "asksThatHelped" "I") ∈ lwG := mG (ic_1_10 _ (List.mem_of_getElem? (i := 8) rfl)) rfl
theorem q_113 : (Cond.lays RX1 "ShapeSessions$Session" "lateNotices" "I") ∈ lwG := mG (ic_1_10 _ (List.mem_of_getElem? (i := 10) rfl)) rfl
theorem q_114 : (Cond.lays RX1 "ShapeSessions$Session" "inHand" "I") ∈ lwG := mG (ic_1_11 _ (List.mem_of_getElem? (i := 0) rfl)) rfl
theorem q_115 : (Cond.laysFinal RX1 "ShapeSessions$Session" "hand" "[LShapeSessions$Entry;") ∈ lwG := mG (ic_1_11 _ (List.mem_of_getElem? (i := 2) rfl)) rfl
theorem q_116 : (Cond.laysFinal RX1 "ShapeSessions$Session" "works" "[LShapeSessions$Work;") ∈ lwG := mG (ic_1_11 _ (List.mem_of_getElem? (i := 4) rfl)) rfl
theorem q_117 : (Cond.fieldLink RX2 37 "ShapeSessions$State" "ticks" "I") ∈ lwG := mG (ic_1_11 _ (List.mem_of_getElem? (i := 7) rfl)) rfl
theorem q_118 : (Cond.fieldLink RX5 178 "ShapeSessions$State" "ticks" "I") ∈ lwG := mG (ic_1_11 _ (List.mem_of_getElem? (i := 8) rfl)) rfl
theorem q_119 : (Cond.fieldLink RX2 41 "ShapeSessions$State" "delay" "I") ∈ lwG := mG (ic_1_11 _ (List.mem_of_getElem? (i := 9) rfl)) rfl
theorem q_120 : (Cond.fieldLink RX5 194 "ShapeSessions$State" "delay" "I") ∈ lwG := mG (ic_1_11 _ (List.mem_of_getElem? (i := 10) rfl)) rfl
theorem q_121 : (Cond.fieldLink RX2 44 "ShapeSessions$State" "room" "I") ∈ lwG := mG (ic_1_11 _ (List.mem_of_getElem? (i := 11) rfl)) rfl
theorem q_122 : (Cond.fieldLink RX5 197 "ShapeSessions$State" "room" "I") ∈ lwG := mG (ic_1_12 _ (List.mem_of_getElem? (i := 0) rfl)) rfl
theorem q_123 : (Cond.fieldLink RX2 9 "ShapeSessions$State" "version" "[I") ∈ lwG := mG (ic_1_12 _ (List.mem_of_getElem? (i := 1) rfl)) rfl
theorem q_124 : (Cond.fieldLink RX5 77 "ShapeSessions$State" "version" "[I") ∈ lwG := mG (ic_1_12 _ (List.mem_of_getElem? (i := 2) rfl)) rfl
theorem q_125 : (Cond.fieldLink RX2 15 "ShapeSessions$State" "shape" "[I") ∈ lwG := mG (ic_1_12 _ (List.mem_of_getElem? (i := 3) rfl)) rfl
theorem q_126 : (Cond.fieldLink RX5 81 "ShapeSessions$State" "shape" "[I") ∈ lwG := mG (ic_1_12 _ (List.mem_of_getElem? (i := 4) rfl)) rfl
theorem q_127 : (Cond.fieldLink RX2 47 "ShapeSessions$State" "notices" "I") ∈ lwG := mG (ic_1_12 _ (List.mem_of_getElem? (i := 5) rfl)) rfl
theorem q_128 : (Cond.fieldLink RX5 172 "ShapeSessions$State" "notices" "I") ∈ lwG := mG (ic_1_12 _ (List.mem_of_getElem? (i := 6) rfl)) rfl
theorem q_129 : (Cond.fieldLink RX2 18 "ShapeSessions$State" "noticeTable" "[I") ∈ lwG := mG (ic_1_12 _ (List.mem_of_getElem? (i := 7) rfl)) rfl
theorem q_130 : (Cond.fieldLink RX5 175 "ShapeSessions$State" "noticeTable" "[I") ∈ lwG := mG (ic_1_12 _ (List.mem_of_getElem? (i := 8) rfl)) rfl
theorem q_131 : (Cond.fieldLink RX2 21 "ShapeSessions$State" "noticeDue" "[I") ∈ lwG := mG (ic_1_12 _ (List.mem_of_getElem? (i := 9) rfl)) rfl
theorem q_132 : (Cond.fieldLink RX2 50 "ShapeSessions$State" "started" "I") ∈ lwG := mG (ic_1_12 _ (List.mem_of_getElem? (i := 10) rfl)) rfl
theorem q_133 : (Cond.fieldLink RX5 181 "ShapeSessions$State" "started" "I") ∈ lwG := mG (ic_1_12 _ (List.mem_of_getElem? (i := 11) rfl)) rfl
theorem q_134 : (Cond.fieldLink RX2 24 "ShapeSessions$State" "latestSession" "[I") ∈ lwG := mG (ic_1_13 _ (List.mem_of_getElem? (i := 0) rfl)) rfl
theorem q_135 : (Cond.fieldLink RX5 211 "ShapeSessions$State" "latestSession" "[I") ∈ lwG := mG (ic_1_13 _ (List.mem_of_getElem? (i := 1) rfl)) rfl
theorem q_136 : (Cond.fieldLink RX2 27 "ShapeSessions$State" "latestTables" "[I") ∈ lwG := mG (ic_1_13 _ (List.mem_of_getElem? (i := 2) rfl)) rfl
theorem q_137 : (Cond.fieldLink RX5 214 "ShapeSessions$State" "latestTables" "[I") ∈ lwG := mG (ic_1_13 _ (List.mem_of_getElem? (i := 3) rfl)) rfl
theorem q_138 : (Cond.fieldLink RX2 32 "ShapeSessions$State" "sessions" "[LShapeSessions$Session;") ∈ lwG := mG (ic_1_13 _ (List.mem_of_getElem? (i := 4) rfl)) rfl
theorem q_139 : (Cond.fieldLink RX5 94 "ShapeSessions$State" "sessions" "[LShapeSessions$Session;") ∈ lwG := mG (ic_1_13 _ (List.mem_of_getElem? (i := 5) rfl)) rfl
theorem q_140 : (Cond.lays RX2 "ShapeSessions$State" "ticks" "I") ∈ lwG := mG (ic_1_13 _ (List.mem_of_getElem? (i := 6) rfl)) rfl
theorem q_141 : (Cond.lays RX2 "ShapeSessions$State" "delay" "I") ∈ lwG := mG (ic_1_13 _ (List.mem_of_getElem? (i := 8) rfl)) rfl
theorem q_142 : (Cond.lays RX2 "ShapeSessions$State" "room" "I") ∈ lwG := mG (ic_1_13 _ (List.mem_of_getElem? (i := 10) rfl)) rfl
theorem q_143 : (Cond.laysFinal RX2 "ShapeSessions$State" "version" "[I") ∈ lwG := mG (ic_1_14 _ (List.mem_of_getElem? (i := 0) rfl)) rfl
theorem q_144 : (Cond.laysFinal RX2 "ShapeSessions$State" "shape" "[I") ∈ lwG := mG (ic_1_14 _ (List.mem_of_getElem? (i := 2) rfl)) rfl
theorem q_145 : (Cond.lays RX2 "ShapeSessions$State" "notices" "I") ∈ lwG := mG (ic_1_14 _ (List.mem_of_getElem? (i := 4) rfl)) rfl
theorem q_146 : (Cond.laysFinal RX2 "ShapeSessions$State" "noticeTable" "[I") ∈ lwG := mG (ic_1_14 _ (List.mem_of_getElem? (i := 6) rfl)) rfl
theorem q_147 : (Cond.laysFinal RX2 "ShapeSessions$State" "noticeDue" "[I") ∈ lwG := mG (ic_1_14 _ (List.mem_of_getElem? (i := 8) rfl)) rfl
theorem q_148 : (Cond.lays RX2 "ShapeSessions$State" "started" "I") ∈ lwG := mG (ic_1_14 _ (List.mem_of_getElem? (i := 10) rfl)) rfl
theorem q_149 : (Cond.laysFinal RX2 "ShapeSessions$State" "latestSession" "[I") ∈ lwG := mG (ic_1_15 _ (List.mem_of_getElem? (i := 0) rfl)) rfl
theorem q_150 : (Cond.laysFinal RX2 "ShapeSessions$State" "latestTables" "[I") ∈ lwG := mG (ic_1_15 _ (List.mem_of_getElem? (i := 2) rfl)) rfl
theorem q_151 : (Cond.laysFinal RX2 "ShapeSessions$State" "sessions" "[LShapeSessions$Session;") ∈ lwG := mG (ic_1_15 _ (List.mem_of_getElem? (i := 4) rfl)) rfl
theorem q_152 : (Cond.methodLink RX5 16 yX2_clear) ∈ lwG := mG (ic_1_15 _ (List.mem_of_getElem? (i := 7) rfl)) rfl
theorem q_153 : (Cond.instanceMethod yX2_clear) ∈ lwG := mG (ic_1_15 _ (List.mem_of_getElem? (i := 8) rfl)) rfl
theorem q_154 : (Cond.selects RX2 yX2_clear yX2_clear) ∈ lwG := mG (ic_1_15 _ (List.mem_of_getElem? (i := 9) rfl)) rfl
theorem q_155 : (Cond.code yX2_clear cX2_clear 2 none) ∈ lwG := mG (ic_1_15 _ (List.mem_of_getElem? (i := 10) rfl)) rfl
theorem q_156 : (Cond.methodLink RX2 53 yX1_clear) ∈ lwG := mG (ic_1_15 _ (List.mem_of_getElem? (i := 11) rfl)) rfl
theorem q_157 : (Cond.instanceMethod yX1_clear) ∈ lwG := mG (ic_1_16 _ (List.mem_of_getElem? (i := 0) rfl)) rfl
theorem q_158 : (Cond.selects RX1 yX1_clear yX1_clear) ∈ lwG := mG (ic_1_16 _ (List.mem_of_getElem? (i := 1) rfl)) rfl
theorem q_159 : (Cond.code yX1_clear cX1_clear 2 none) ∈ lwG := mG (ic_1_16 _ (List.mem_of_getElem? (i := 2) rfl)) rfl
theorem q_160 : (Cond.arrayOver (.object "ShapeSessions$State")) ∈ lw_tbl := ic_1_16 _ (List.mem_of_getElem? (i := 3) rfl)
theorem q_161 : (Cond.classLink RX5 37 RX3) ∈ lwG := mG (ic_1_16 _ (List.mem_of_getElem? (i := 4) rfl)) rfl
theorem q_162 : (Cond.instantiable RX3 6) ∈ lwG := mG (ic_1_16 _ (List.mem_of_getElem? (i := 5) rfl)) rfl
theorem q_163 : (Cond.methodLink RX5 39 yX3_init) ∈ lwG := mG (ic_1_16 _ (List.mem_of_getElem? (i := 6) rfl)) rfl
theorem q_164 : (Cond.instanceMethod yX3_init) ∈ lwG := mG (ic_1_16 _ (List.mem_of_getElem? (i := 7) rfl)) rfl
theorem q_165 : (Cond.code yX3_init cX3_init 1 none) ∈ lwG := mG (ic_1_16 _ (List.mem_of_getElem? (i := 8) rfl)) rfl
theorem q_166 : (Cond.methodLink RX3 3 objectInit) ∈ lwG := mG (ic_1_16 _ (List.mem_of_getElem? (i := 9) rfl)) rfl
theorem q_167 : (Cond.fieldLink RX3 9 "ShapeSessions$Text" "signs" "[I") ∈ lwG := mG (ic_1_16 _ (List.mem_of_getElem? (i := 10) rfl)) rfl
theorem q_168 : (Cond.fieldLink RX5 220 "ShapeSessions$Text" "signs" "[I") ∈ lwG := mG (ic_1_16 _ (List.mem_of_getElem? (i := 11) rfl)) rfl
theorem q_169 : (Cond.fieldLink RX3 36 "ShapeSessions$Text" "length" "I") ∈ lwG := mG (ic_1_17 _ (List.mem_of_getElem? (i := 0) rfl)) rfl
theorem q_170 : (Cond.fieldLink RX5 185 "ShapeSessions$Text" "length" "I") ∈ lwG := mG (ic_1_17 _ (List.mem_of_getElem? (i := 1) rfl)) rfl
theorem q_171 : (Cond.fieldLink RX3 19 "ShapeSessions$Text" "letter" "I") ∈ lwG := mG (ic_1_17 _ (List.mem_of_getElem? (i := 2) rfl)) rfl
theorem q_172 : (Cond.fieldLink RX5 233 "ShapeSessions$Text" "letter" "I") ∈ lwG := mG (ic_1_17 _ (List.mem_of_getElem? (i := 3) rfl)) rfl
theorem q_173 : (Cond.fieldLink RX3 30 "ShapeSessions$Text" "first" "I") ∈ lwG := mG (ic_1_17 _ (List.mem_of_getElem? (i := 4) rfl)) rfl
theorem q_174 : (Cond.fieldLink RX5 236 "ShapeSessions$Text" "first" "I") ∈ lwG := mG (ic_1_17 _ (List.mem_of_getElem? (i := 5) rfl)) rfl
theorem q_175 : (Cond.fieldLink RX3 33 "ShapeSessions$Text" "second" "I") ∈ lwG := mG (ic_1_17 _ (List.mem_of_getElem? (i := 6) rfl)) rfl
theorem q_176 : (Cond.fieldLink RX5 239 "ShapeSessions$Text" "second" "I") ∈ lwG := mG (ic_1_17 _ (List.mem_of_getElem? (i := 7) rfl)) rfl
theorem q_177 : (Cond.fieldLink RX3 23 "ShapeSessions$Text" "behind" "I") ∈ lwG := mG (ic_1_17 _ (List.mem_of_getElem? (i := 8) rfl)) rfl
theorem q_178 : (Cond.fieldLink RX5 246 "ShapeSessions$Text" "behind" "I") ∈ lwG := mG (ic_1_17 _ (List.mem_of_getElem? (i := 9) rfl)) rfl
theorem q_179 : (Cond.laysFinal RX3 "ShapeSessions$Text" "signs" "[I") ∈ lwG := mG (ic_1_17 _ (List.mem_of_getElem? (i := 10) rfl)) rfl
theorem q_180 : (Cond.lays RX3 "ShapeSessions$Text" "length" "I") ∈ lwG := mG (ic_1_18 _ (List.mem_of_getElem? (i := 0) rfl)) rfl
theorem q_181 : (Cond.lays RX3 "ShapeSessions$Text" "letter" "I") ∈ lwG := mG (ic_1_18 _ (List.mem_of_getElem? (i := 2) rfl)) rfl
theorem q_182 : (Cond.lays RX3 "ShapeSessions$Text" "first" "I") ∈ lwG := mG (ic_1_18 _ (List.mem_of_getElem? (i := 4) rfl)) rfl
theorem q_183 : (Cond.lays RX3 "ShapeSessions$Text" "second" "I") ∈ lwG := mG (ic_1_18 _ (List.mem_of_getElem? (i := 6) rfl)) rfl
theorem q_184 : (Cond.lays RX3 "ShapeSessions$Text" "behind" "I") ∈ lwG := mG (ic_1_18 _ (List.mem_of_getElem? (i := 8) rfl)) rfl
theorem q_185 : (Cond.fieldLink RX5 10 "ShapeSessions" "now" "LShapeSessions$State;") ∈ lwG := mG (ic_1_18 _ (List.mem_of_getElem? (i := 11) rfl)) rfl
theorem q_186 : (Cond.fieldLink RX5 19 "ShapeSessions" "trial" "LShapeSessions$State;") ∈ lwG := mG (ic_1_19 _ (List.mem_of_getElem? (i := 0) rfl)) rfl
theorem q_187 : (Cond.fieldLink RX5 22 "ShapeSessions" "kept" "LShapeSessions$State;") ∈ lwG := mG (ic_1_19 _ (List.mem_of_getElem? (i := 1) rfl)) rfl
theorem q_188 : (Cond.fieldLink RX5 25 "ShapeSessions" "hasKept" "Z") ∈ lwG := mG (ic_1_19 _ (List.mem_of_getElem? (i := 2) rfl)) rfl
theorem q_189 : (Cond.fieldLink RX5 29 "ShapeSessions" "history" "[LShapeSessions$State;") ∈ lwG := mG (ic_1_19 _ (List.mem_of_getElem? (i := 3) rfl)) rfl
theorem q_190 : (Cond.fieldLink RX5 33 "ShapeSessions" "recorded" "I") ∈ lwG := mG (ic_1_19 _ (List.mem_of_getElem? (i := 4) rfl)) rfl
theorem q_191 : (Cond.fieldLink RX5 40 "ShapeSessions" "text" "LShapeSessions$Text;") ∈ lwG := mG (ic_1_19 _ (List.mem_of_getElem? (i := 5) rfl)) rfl
theorem q_192 : (Cond.fieldLink RX5 44 "ShapeSessions" "faultPosition" "I") ∈ lwG := mG (ic_1_19 _ (List.mem_of_getElem? (i := 6) rfl)) rfl
theorem q_193 : (Cond.fieldLink RX5 47 "ShapeSessions" "faultReason" "I") ∈ lwG := mG (ic_1_19 _ (List.mem_of_getElem? (i := 7) rfl)) rfl
theorem q_194 : (Cond.fieldLink RX5 50 "ShapeSessions" "faultCause" "I") ∈ lwG := mG (ic_1_19 _ (List.mem_of_getElem? (i := 8) rfl)) rfl
theorem q_195 : (Cond.lays RX5 "ShapeSessions" "now" "LShapeSessions$State;") ∈ lwG := mG (ic_1_19 _ (List.mem_of_getElem? (i := 9) rfl)) rfl
theorem q_196 : (Cond.lays RX5 "ShapeSessions" "trial" "LShapeSessions$State;") ∈ lwG := mG (ic_1_19 _ (List.mem_of_getElem? (i := 11) rfl)) rfl
theorem q_197 : (Cond.laysFinal RX5 "ShapeSessions" "kept" "LShapeSessions$State;") ∈ lwG := mG (ic_2_0 _ (List.mem_of_getElem? (i := 1) rfl)) rfl
theorem q_198 : (Cond.lays RX5 "ShapeSessions" "hasKept" "Z") ∈ lwG := mG (ic_2_0 _ (List.mem_of_getElem? (i := 3) rfl)) rfl
theorem q_199 : (Cond.laysFinal RX5 "ShapeSessions" "history" "[LShapeSessions$State;") ∈ lwG := mG (ic_2_0 _ (List.mem_of_getElem? (i := 5) rfl)) rfl
theorem q_200 : (Cond.lays RX5 "ShapeSessions" "recorded" "I") ∈ lwG := mG (ic_2_0 _ (List.mem_of_getElem? (i := 7) rfl)) rfl
theorem q_201 : (Cond.laysFinal RX5 "ShapeSessions" "text" "LShapeSessions$Text;") ∈ lwG := mG (ic_2_0 _ (List.mem_of_getElem? (i := 9) rfl)) rfl
theorem q_202 : (Cond.lays RX5 "ShapeSessions" "faultPosition" "I") ∈ lwG := mG (ic_2_0 _ (List.mem_of_getElem? (i := 11) rfl)) rfl
theorem q_203 : (Cond.lays RX5 "ShapeSessions" "faultReason" "I") ∈ lwG := mG (ic_2_1 _ (List.mem_of_getElem? (i := 1) rfl)) rfl
theorem q_204 : (Cond.lays RX5 "ShapeSessions" "faultCause" "I") ∈ lwG := mG (ic_2_1 _ (List.mem_of_getElem? (i := 3) rfl)) rfl
theorem q_205 : (Cond.methodLink RL 13 yX5_alter) ∈ lwG := mG (ic_2_1 _ (List.mem_of_getElem? (i := 6) rfl)) rfl
theorem q_206 : (Cond.instanceMethod yX5_alter) ∈ lwG := mG (ic_2_1 _ (List.mem_of_getElem? (i := 7) rfl)) rfl
theorem q_207 : (Cond.selects RX5 yX5_alter yX5_alter) ∈ lwG := mG (ic_2_1 _ (List.mem_of_getElem? (i := 8) rfl)) rfl
theorem q_208 : (Cond.code yX5_alter cX5_alter 3 (some .int)) ∈ lwG := mG (ic_2_1 _ (List.mem_of_getElem? (i := 9) rfl)) rfl
theorem q_209 : (Cond.methodLink RX5 53 yX2_copyFrom) ∈ lwG := mG (ic_2_1 _ (List.mem_of_getElem? (i := 10) rfl)) rfl
theorem q_210 : (Cond.instanceMethod yX2_copyFrom) ∈ lwG := mG (ic_2_1 _ (List.mem_of_getElem? (i := 11) rfl)) rfl
theorem q_211 : (Cond.selects RX2 yX2_copyFrom yX2_copyFrom) ∈ lwG := mG (ic_2_2 _ (List.mem_of_getElem? (i := 0) rfl)) rfl
theorem q_212 : (Cond.code yX2_copyFrom cX2_copyFrom 3 none) ∈ lwG := mG (ic_2_2 _ (List.mem_of_getElem? (i := 1) rfl)) rfl
theorem q_213 : (Cond.methodLink RX2 56 yX1_copyFrom) ∈ lwG := mG (ic_2_2 _ (List.mem_of_getElem? (i := 2) rfl)) rfl
theorem q_214 : (Cond.instanceMethod yX1_copyFrom) ∈ lwG := mG (ic_2_2 _ (List.mem_of_getElem? (i := 3) rfl)) rfl
theorem q_215 : (Cond.selects RX1 yX1_copyFrom yX1_copyFrom) ∈ lwG := mG (ic_2_2 _ (List.mem_of_getElem? (i := 4) rfl)) rfl
theorem q_216 : (Cond.code yX1_copyFrom cX1_copyFrom 3 none) ∈ lwG := mG (ic_2_2 _ (List.mem_of_getElem? (i := 5) rfl)) rfl
theorem q_217 : (Cond.methodLink RX1 50 yX0_copyFrom) ∈ lwG := mG (ic_2_2 _ (List.mem_of_getElem? (i := 6) rfl)) rfl
theorem q_218 : (Cond.instanceMethod yX0_copyFrom) ∈ lwG := mG (ic_2_2 _ (List.mem_of_getElem? (i := 7) rfl)) rfl
theorem q_219 : (Cond.selects RX0 yX0_copyFrom yX0_copyFrom) ∈ lwG := mG (ic_2_2 _ (List.mem_of_getElem? (i := 8) rfl)) rfl
theorem q_220 : (Cond.code yX0_copyFrom cX0_copyFrom 2 none) ∈ lwG := mG (ic_2_2 _ (List.mem_of_getElem? (i := 9) rfl)) rfl
theorem q_221 : (Cond.methodLink RX1 54 yX4_copyFrom) ∈ lwG := mG (ic_2_2 _ (List.mem_of_getElem? (i := 10) rfl)) rfl
theorem q_222 : (Cond.instanceMethod yX4_copyFrom) ∈ lwG := mG (ic_2_2 _ (List.mem_of_getElem? (i := 11) rfl)) rfl
theorem q_223 : (Cond.selects RX4 yX4_copyFrom yX4_copyFrom) ∈ lwG := mG (ic_2_3 _ (List.mem_of_getElem? (i := 0) rfl)) rfl
theorem q_224 : (Cond.code yX4_copyFrom cX4_copyFrom 3 none) ∈ lwG := mG (ic_2_3 _ (List.mem_of_getElem? (i := 1) rfl)) rfl
theorem q_225 : (Cond.methodLink RX5 57 yX2_changeTable) ∈ lwG := mG (ic_2_3 _ (List.mem_of_getElem? (i := 2) rfl)) rfl
theorem q_226 : (Cond.instanceMethod yX2_changeTable) ∈ lwG := mG (ic_2_3 _ (List.mem_of_getElem? (i := 3) rfl)) rfl
theorem q_227 : (Cond.selects RX2 yX2_changeTable yX2_changeTable) ∈ lwG := mG (ic_2_3 _ (List.mem_of_getElem? (i := 4) rfl)) rfl
theorem q_228 : (Cond.code yX2_changeTable cX2_changeTable 4 (some .int)) ∈ lwG := mG (ic_2_3 _ (List.mem_of_getElem? (i := 5) rfl)) rfl
theorem q_229 : (Cond.methodLink RX2 74 yX2_canChange) ∈ lwG := mG (ic_2_3 _ (List.mem_of_getElem? (i := 6) rfl)) rfl
theorem q_230 : (Cond.instanceMethod yX2_canChange) ∈ lwG := mG (ic_2_3 _ (List.mem_of_getElem? (i := 7) rfl)) rfl
theorem q_231 : (Cond.selects RX2 yX2_canChange yX2_canChange) ∈ lwG := mG (ic_2_3 _ (List.mem_of_getElem? (i := 8) rfl)) rfl
theorem q_232 : (Cond.code yX2_canChange cX2_canChange 3 (some .boolean)) ∈ lwG := mG (ic_2_3 _ (List.mem_of_getElem? (i := 9) rfl)) rfl
theorem q_233 : (Cond.methodLink RX2 134 yX2_leastVersionAtWork) ∈ lwG := mG (ic_2_3 _ (List.mem_of_getElem? (i := 10) rfl)) rfl
theorem q_234 : (Cond.instanceMethod yX2_leastVersionAtWork) ∈ lwG := mG (ic_2_3 _ (List.mem_of_getElem? (i := 11) rfl)) rfl
theorem q_235 : (Cond.selects RX2 yX2_leastVersionAtWork yX2_leastVersionAtWork) ∈ lwG := mG (ic_2_4 _ (List.mem_of_getElem? (i := 0) rfl)) rfl
theorem q_236 : (Cond.code yX2_leastVersionAtWork cX2_leastVersionAtWork 5 (some .int)) ∈ lwG := mG (ic_2_4 _ (List.mem_of_getElem? (i := 1) rfl)) rfl
theorem q_237 : (Cond.methodLink RX2 137 yX1_leastVersionAtWork) ∈ lwG := mG (ic_2_4 _ (List.mem_of_getElem? (i := 2) rfl)) rfl
theorem q_238 : (Cond.instanceMethod yX1_leastVersionAtWork) ∈ lwG := mG (ic_2_4 _ (List.mem_of_getElem? (i := 3) rfl)) rfl
theorem q_239 : (Cond.selects RX1 yX1_leastVersionAtWork yX1_leastVersionAtWork) ∈ lwG := mG (ic_2_4 _ (List.mem_of_getElem? (i := 4) rfl)) rfl
theorem q_240 : (Cond.code yX1_leastVersionAtWork cX1_leastVersionAtWork 3 (some .int)) ∈ lwG := mG (ic_2_4 _ (List.mem_of_getElem? (i := 5) rfl)) rfl
theorem q_241 : (Cond.methodLink RX2 78 yX2_arrive) ∈ lwG := mG (ic_2_4 _ (List.mem_of_getElem? (i := 6) rfl)) rfl
theorem q_242 : (Cond.instanceMethod yX2_arrive) ∈ lwG := mG (ic_2_4 _ (List.mem_of_getElem? (i := 8) rfl)) rfl
theorem q_243 : (Cond.code yX2_arrive cX2_arrive 3 none) ∈ lwG := mG (ic_2_4 _ (List.mem_of_getElem? (i := 9) rfl)) rfl
theorem q_244 : (Cond.methodLink RX2 89 yX1_learn) ∈ lwG := mG (ic_2_4 _ (List.mem_of_getElem? (i := 10) rfl)) rfl
theorem q_245 : (Cond.instanceMethod yX1_learn) ∈ lwG := mG (ic_2_4 _ (List.mem_of_getElem? (i := 11) rfl)) rfl
theorem q_246 : (Cond.selects RX1 yX1_learn yX1_learn) ∈ lwG := mG (ic_2_5 _ (List.mem_of_getElem? (i := 0) rfl)) rfl
theorem q_247 : (Cond.code yX1_learn cX1_learn 6 none) ∈ lwG := mG (ic_2_5 _ (List.mem_of_getElem? (i := 1) rfl)) rfl
theorem q_248 : (Cond.methodLink RX1 70 yX1_takeOut) ∈ lwG := mG (ic_2_5 _ (List.mem_of_getElem? (i := 2) rfl)) rfl
theorem q_249 : (Cond.instanceMethod yX1_takeOut) ∈ lwG := mG (ic_2_5 _ (List.mem_of_getElem? (i := 4) rfl)) rfl
theorem q_250 : (Cond.code yX1_takeOut cX1_takeOut 4 none) ∈ lwG := mG (ic_2_5 _ (List.mem_of_getElem? (i := 5) rfl)) rfl
theorem q_251 : (Cond.methodLink RX5 61 yX5_settle) ∈ lwG := mG (ic_2_5 _ (List.mem_of_getElem? (i := 6) rfl)) rfl
theorem q_252 : (Cond.instanceMethod yX5_settle) ∈ lwG := mG (ic_2_5 _ (List.mem_of_getElem? (i := 8) rfl)) rfl
theorem q_253 : (Cond.code yX5_settle cX5_settle 2 (some .int)) ∈ lwG := mG (ic_2_5 _ (List.mem_of_getElem? (i := 9) rfl)) rfl
theorem q_254 : (Cond.methodLink RX5 217 yX5_record) ∈ lwG := mG (ic_2_5 _ (List.mem_of_getElem? (i := 10) rfl)) rfl
theorem q_255 : (Cond.instanceMethod yX5_record) ∈ lwG := mG (ic_2_6 _ (List.mem_of_getElem? (i := 0) rfl)) rfl
theorem q_256 : (Cond.code yX5_record cX5_record 3 none) ∈ lwG := mG (ic_2_6 _ (List.mem_of_getElem? (i := 1) rfl)) rfl
theorem q_257 : (Cond.methodLink RL 18 yX5_start) ∈ lwG := mG (ic_2_6 _ (List.mem_of_getElem? (i := 2) rfl)) rfl
theorem q_258 : (Cond.instanceMethod yX5_start) ∈ lwG := mG (ic_2_6 _ (List.mem_of_getElem? (i := 3) rfl)) rfl
theorem q_259 : (Cond.selects RX5 yX5_start yX5_start) ∈ lwG := mG (ic_2_6 _ (List.mem_of_getElem? (i := 4) rfl)) rfl
theorem q_260 : (Cond.code yX5_start cX5_start 3 (some .int)) ∈ lwG := mG (ic_2_6 _ (List.mem_of_getElem? (i := 5) rfl)) rfl
theorem q_261 : (Cond.methodLink RX5 65 yX2_begin) ∈ lwG := mG (ic_2_6 _ (List.mem_of_getElem? (i := 6) rfl)) rfl
theorem q_262 : (Cond.instanceMethod yX2_begin) ∈ lwG := mG (ic_2_6 _ (List.mem_of_getElem? (i := 7) rfl)) rfl
theorem q_263 : (Cond.selects RX2 yX2_begin yX2_begin) ∈ lwG := mG (ic_2_6 _ (List.mem_of_getElem? (i := 8) rfl)) rfl
theorem q_264 : (Cond.code yX2_begin cX2_begin 6 (some .int)) ∈ lwG := mG (ic_2_6 _ (List.mem_of_getElem? (i := 9) rfl)) rfl
theorem q_265 : (Cond.methodLink RX2 82 yX1_idleWork) ∈ lwG := mG (ic_2_6 _ (List.mem_of_getElem? (i := 10) rfl)) rfl
theorem q_266 : (Cond.instanceMethod yX1_idleWork) ∈ lwG := mG (ic_2_6 _ (List.mem_of_getElem? (i := 11) rfl)) rfl
theorem q_267 : (Cond.selects RX1 yX1_idleWork yX1_idleWork) ∈ lwG := mG (ic_2_7 _ (List.mem_of_getElem? (i := 0) rfl)) rfl
theorem q_268 : (Cond.code yX1_idleWork cX1_idleWork 1 (some (.object "ShapeSessions$Work"))) ∈ lwG := mG (ic_2_7 _ (List.mem_of_getElem? (i := 1) rfl)) rfl
theorem q_269 : (Cond.methodLink RX1 112 yX1_workWithNumber) ∈ lwG := mG (ic_2_7 _ (List.mem_of_getElem? (i := 2) rfl)) rfl
theorem q_270 : (Cond.instanceMethod yX1_workWithNumber) ∈ lwG := mG (ic_2_7 _ (List.mem_of_getElem? (i := 4) rfl)) rfl
theorem q_271 : (Cond.code yX1_workWithNumber cX1_workWithNumber 3 (some (.object "ShapeSessions$Work"))) ∈ lwG := mG (ic_2_7 _ (List.mem_of_getElem? (i := 5) rfl)) rfl
theorem q_272 : (Cond.methodLinkNest RX2 107 yX5_contains RX5) ∈ lw_tbl := ic_2_7 _ (List.mem_of_getElem? (i := 6) rfl)
theorem q_273 : (Cond.static yX5_contains) ∈ lwG := mG (ic_2_7 _ (List.mem_of_getElem? (i := 7) rfl)) rfl
theorem q_274 : (Cond.code yX5_contains cX5_contains 2 (some .boolean)) ∈ lwG := mG (ic_2_7 _ (List.mem_of_getElem? (i := 8) rfl)) rfl
theorem q_275 : (Cond.methodLink RX2 111 yX1_use) ∈ lwG := mG (ic_2_7 _ (List.mem_of_getElem? (i := 9) rfl)) rfl
theorem q_276 : (Cond.instanceMethod yX1_use) ∈ lwG := mG (ic_2_7 _ (List.mem_of_getElem? (i := 10) rfl)) rfl
theorem q_277 : (Cond.selects RX1 yX1_use yX1_use) ∈ lwG := mG (ic_2_7 _ (List.mem_of_getElem? (i := 11) rfl)) rfl
theorem q_278 : (Cond.code yX1_use cX1_use 8 (some .boolean)) ∈ lwG := mG (ic_2_8 _ (List.mem_of_getElem? (i := 0) rfl)) rfl
theorem q_279 : (Cond.methodLink RX1 74 yX1_freshEntryOf) ∈ lwG := mG (ic_2_8 _ (List.mem_of_getElem? (i := 1) rfl)) rfl
theorem q_280 : (Cond.instanceMethod yX1_freshEntryOf) ∈ lwG := mG (ic_2_8 _ (List.mem_of_getElem? (i := 2) rfl)) rfl
theorem q_281 : (Cond.selects RX1 yX1_freshEntryOf yX1_freshEntryOf) ∈ lwG := mG (ic_2_8 _ (List.mem_of_getElem? (i := 3) rfl)) rfl
theorem q_282 : (Cond.code yX1_freshEntryOf cX1_freshEntryOf 3 (some .int)) ∈ lwG := mG (ic_2_8 _ (List.mem_of_getElem? (i := 4) rfl)) rfl
theorem q_283 : (Cond.methodLink RX1 78 yX1_shrinkTo) ∈ lwG := mG (ic_2_8 _ (List.mem_of_getElem? (i := 5) rfl)) rfl
theorem q_284 : (Cond.instanceMethod yX1_shrinkTo) ∈ lwG := mG (ic_2_8 _ (List.mem_of_getElem? (i := 6) rfl)) rfl
theorem q_285 : (Cond.selects RX1 yX1_shrinkTo yX1_shrinkTo) ∈ lwG := mG (ic_2_8 _ (List.mem_of_getElem? (i := 7) rfl)) rfl
theorem q_286 : (Cond.code yX1_shrinkTo cX1_shrinkTo 4 none) ∈ lwG := mG (ic_2_8 _ (List.mem_of_getElem? (i := 8) rfl)) rfl
theorem q_287 : (Cond.methodLink RX1 95 yX1_longestUnused) ∈ lwG := mG (ic_2_8 _ (List.mem_of_getElem? (i := 9) rfl)) rfl
theorem q_288 : (Cond.instanceMethod yX1_longestUnused) ∈ lwG := mG (ic_2_8 _ (List.mem_of_getElem? (i := 11) rfl)) rfl
theorem q_289 : (Cond.code yX1_longestUnused cX1_longestUnused 3 (some .int)) ∈ lwG := mG (ic_2_9 _ (List.mem_of_getElem? (i := 0) rfl)) rfl
theorem q_290 : (Cond.methodLink RX1 81 yX1_putIn) ∈ lwG := mG (ic_2_9 _ (List.mem_of_getElem? (i := 1) rfl)) rfl
theorem q_291 : (Cond.instanceMethod yX1_putIn) ∈ lwG := mG (ic_2_9 _ (List.mem_of_getElem? (i := 3) rfl)) rfl
theorem q_292 : (Cond.code yX1_putIn cX1_putIn 6 (some .int)) ∈ lwG := mG (ic_2_9 _ (List.mem_of_getElem? (i := 4) rfl)) rfl
theorem q_293 : (Cond.methodLink RX1 99 yX0_comesBehind) ∈ lwG := mG (ic_2_9 _ (List.mem_of_getElem? (i := 5) rfl)) rfl
theorem q_294 : (Cond.instanceMethod yX0_comesBehind) ∈ lwG := mG (ic_2_9 _ (List.mem_of_getElem? (i := 6) rfl)) rfl
theorem q_295 : (Cond.selects RX0 yX0_comesBehind yX0_comesBehind) ∈ lwG := mG (ic_2_9 _ (List.mem_of_getElem? (i := 7) rfl)) rfl
theorem q_296 : (Cond.code yX0_comesBehind cX0_comesBehind 3 (some .boolean)) ∈ lwG := mG (ic_2_9 _ (List.mem_of_getElem? (i := 8) rfl)) rfl
theorem q_297 : (Cond.methodLink RL 22 yX5_end) ∈ lwG := mG (ic_2_9 _ (List.mem_of_getElem? (i := 9) rfl)) rfl
theorem q_298 : (Cond.instanceMethod yX5_end) ∈ lwG := mG (ic_2_9 _ (List.mem_of_getElem? (i := 10) rfl)) rfl
theorem q_299 : (Cond.selects RX5 yX5_end yX5_end) ∈ lwG := mG (ic_2_9 _ (List.mem_of_getElem? (i := 11) rfl)) rfl
theorem q_300 : (Cond.code yX5_end cX5_end 2 (some .int)) ∈ lwG := mG (ic_2_10 _ (List.mem_of_getElem? (i := 0) rfl)) rfl
theorem q_301 : (Cond.methodLink RX5 68 yX2_finish) ∈ lwG := mG (ic_2_10 _ (List.mem_of_getElem? (i := 1) rfl)) rfl
theorem q_302 : (Cond.instanceMethod yX2_finish) ∈ lwG := mG (ic_2_10 _ (List.mem_of_getElem? (i := 2) rfl)) rfl
theorem q_303 : (Cond.selects RX2 yX2_finish yX2_finish) ∈ lwG := mG (ic_2_10 _ (List.mem_of_getElem? (i := 3) rfl)) rfl
theorem q_304 : (Cond.code yX2_finish cX2_finish 4 (some .int)) ∈ lwG := mG (ic_2_10 _ (List.mem_of_getElem? (i := 4) rfl)) rfl
theorem q_305 : (Cond.methodLink RX2 115 yX1_workOf) ∈ lwG := mG (ic_2_10 _ (List.mem_of_getElem? (i := 5) rfl)) rfl
theorem q_306 : (Cond.instanceMethod yX1_workOf) ∈ lwG := mG (ic_2_10 _ (List.mem_of_getElem? (i := 6) rfl)) rfl
theorem q_307 : (Cond.selects RX1 yX1_workOf yX1_workOf) ∈ lwG := mG (ic_2_10 _ (List.mem_of_getElem? (i := 7) rfl)) rfl
theorem q_308 : (Cond.code yX1_workOf cX1_workOf 2 (some (.object "ShapeSessions$Work"))) ∈ lwG := mG (ic_2_10 _ (List.mem_of_getElem? (i := 8) rfl)) rfl
theorem q_309 : (Cond.methodLink RX2 119 yX1_release) ∈ lwG := mG (ic_2_10 _ (List.mem_of_getElem? (i := 9) rfl)) rfl
theorem q_310 : (Cond.instanceMethod yX1_release) ∈ lwG := mG (ic_2_10 _ (List.mem_of_getElem? (i := 10) rfl)) rfl
theorem q_311 : (Cond.selects RX1 yX1_release yX1_release) ∈ lwG := mG (ic_2_10 _ (List.mem_of_getElem? (i := 11) rfl)) rfl
theorem q_312 : (Cond.code yX1_release cX1_release 6 (some .int)) ∈ lwG := mG (ic_2_11 _ (List.mem_of_getElem? (i := 0) rfl)) rfl
theorem q_313 : (Cond.methodLink RX1 91 yX4_worksBy) ∈ lwG := mG (ic_2_11 _ (List.mem_of_getElem? (i := 1) rfl)) rfl
theorem q_314 : (Cond.instanceMethod yX4_worksBy) ∈ lwG := mG (ic_2_11 _ (List.mem_of_getElem? (i := 2) rfl)) rfl
theorem q_315 : (Cond.selects RX4 yX4_worksBy yX4_worksBy) ∈ lwG := mG (ic_2_11 _ (List.mem_of_getElem? (i := 3) rfl)) rfl
theorem q_316 : (Cond.code yX4_worksBy cX4_worksBy 2 (some .boolean)) ∈ lwG := mG (ic_2_11 _ (List.mem_of_getElem? (i := 4) rfl)) rfl
theorem q_317 : (Cond.methodLinkNest RX4 30 yX5_contains RX5) ∈ lw_tbl := ic_2_11 _ (List.mem_of_getElem? (i := 5) rfl)
theorem q_318 : (Cond.methodLink RL 27 yX5_tick) ∈ lwG := mG (ic_2_11 _ (List.mem_of_getElem? (i := 6) rfl)) rfl
theorem q_319 : (Cond.instanceMethod yX5_tick) ∈ lwG := mG (ic_2_11 _ (List.mem_of_getElem? (i := 7) rfl)) rfl
theorem q_320 : (Cond.selects RX5 yX5_tick yX5_tick) ∈ lwG := mG (ic_2_11 _ (List.mem_of_getElem? (i := 8) rfl)) rfl
theorem q_321 : (Cond.code yX5_tick cX5_tick 2 (some .int)) ∈ lwG := mG (ic_2_11 _ (List.mem_of_getElem? (i := 9) rfl)) rfl
theorem q_322 : (Cond.methodLink RX5 71 yX2_pass) ∈ lwG := mG (ic_2_11 _ (List.mem_of_getElem? (i := 10) rfl)) rfl
theorem q_323 : (Cond.instanceMethod yX2_pass) ∈ lwG := mG (ic_2_11 _ (List.mem_of_getElem? (i := 11) rfl)) rfl
theorem q_324 : (Cond.selects RX2 yX2_pass yX2_pass) ∈ lwG := mG (ic_2_12 _ (List.mem_of_getElem? (i := 0) rfl)) rfl
theorem q_325 : (Cond.code yX2_pass cX2_pass 6 (some .int)) ∈ lwG := mG (ic_2_12 _ (List.mem_of_getElem? (i := 1) rfl)) rfl
theorem q_326 : (Cond.methodLink RX2 123 Lib.Math.min.name) ∈ lwG := mG (ic_2_12 _ (List.mem_of_getElem? (i := 2) rfl)) rfl
theorem q_327 : (Cond.static Lib.Math.min.name) ∈ lwG := mG (ic_2_12 _ (List.mem_of_getElem? (i := 3) rfl)) rfl
theorem q_328 : (Cond.code Lib.Math.min.name Lib.Math.min.code 2 (some .int)) ∈ lwG := mG (ic_2_12 _ (List.mem_of_getElem? (i := 4) rfl)) rfl
theorem q_329 : (Cond.methodLink RL 31 yX5_set) ∈ lwG := mG (ic_2_12 _ (List.mem_of_getElem? (i := 5) rfl)) rfl
theorem q_330 : (Cond.instanceMethod yX5_set) ∈ lwG := mG (ic_2_12 _ (List.mem_of_getElem? (i := 6) rfl)) rfl
theorem q_331 : (Cond.selects RX5 yX5_set yX5_set) ∈ lwG := mG (ic_2_12 _ (List.mem_of_getElem? (i := 7) rfl)) rfl
theorem q_332 : (Cond.code yX5_set cX5_set 3 (some .int)) ∈ lwG := mG (ic_2_12 _ (List.mem_of_getElem? (i := 8) rfl)) rfl
theorem q_333 : (Cond.methodLink RX5 74 yX2_adjust) ∈ lwG := mG (ic_2_12 _ (List.mem_of_getElem? (i := 9) rfl)) rfl
theorem q_334 : (Cond.instanceMethod yX2_adjust) ∈ lwG := mG (ic_2_12 _ (List.mem_of_getElem? (i := 10) rfl)) rfl
theorem q_335 : (Cond.selects RX2 yX2_adjust yX2_adjust) ∈ lwG := mG (ic_2_12 _ (List.mem_of_getElem? (i := 11) rfl)) rfl
theorem q_336 : (Cond.code yX2_adjust cX2_adjust 5 (some .int)) ∈ lwG := mG (ic_2_13 _ (List.mem_of_getElem? (i := 0) rfl)) rfl
theorem q_337 : (Cond.methodLink RX2 131 yX1_shrinkTo) ∈ lwG := mG (ic_2_13 _ (List.mem_of_getElem? (i := 1) rfl)) rfl
theorem q_338 : (Cond.methodLink RL 35 yX5_tableOf) ∈ lwG := mG (ic_2_13 _ (List.mem_of_getElem? (i := 2) rfl)) rfl
theorem q_339 : (Cond.instanceMethod yX5_tableOf) ∈ lwG := mG (ic_2_13 _ (List.mem_of_getElem? (i := 3) rfl)) rfl
theorem q_340 : (Cond.selects RX5 yX5_tableOf yX5_tableOf) ∈ lwG := mG (ic_2_13 _ (List.mem_of_getElem? (i := 4) rfl)) rfl
theorem q_341 : (Cond.code yX5_tableOf cX5_tableOf 3 (some .int)) ∈ lwG := mG (ic_2_13 _ (List.mem_of_getElem? (i := 5) rfl)) rfl
theorem q_342 : (Cond.methodLink RX5 84 yX2_leastVersionAtWork) ∈ lwG := mG (ic_2_13 _ (List.mem_of_getElem? (i := 6) rfl)) rfl
theorem q_343 : (Cond.methodLink RX5 87 yX2_handsWith) ∈ lwG := mG (ic_2_13 _ (List.mem_of_getElem? (i := 7) rfl)) rfl
theorem q_344 : (Cond.instanceMethod yX2_handsWith) ∈ lwG := mG (ic_2_13 _ (List.mem_of_getElem? (i := 8) rfl)) rfl
theorem q_345 : (Cond.selects RX2 yX2_handsWith yX2_handsWith) ∈ lwG := mG (ic_2_13 _ (List.mem_of_getElem? (i := 9) rfl)) rfl
theorem q_346 : (Cond.code yX2_handsWith cX2_handsWith 4 (some .int)) ∈ lwG := mG (ic_2_13 _ (List.mem_of_getElem? (i := 10) rfl)) rfl
theorem q_347 : (Cond.methodLink RX2 138 yX1_freshEntryOf) ∈ lwG := mG (ic_2_13 _ (List.mem_of_getElem? (i := 11) rfl)) rfl
theorem q_348 : (Cond.methodLink RX5 90 yX2_canChange) ∈ lwG := mG (ic_2_14 _ (List.mem_of_getElem? (i := 0) rfl)) rfl
theorem q_349 : (Cond.methodLink RL 39 yX5_sessionOf) ∈ lwG := mG (ic_2_14 _ (List.mem_of_getElem? (i := 1) rfl)) rfl
theorem q_350 : (Cond.instanceMethod yX5_sessionOf) ∈ lwG := mG (ic_2_14 _ (List.mem_of_getElem? (i := 2) rfl)) rfl
theorem q_351 : (Cond.selects RX5 yX5_sessionOf yX5_sessionOf) ∈ lwG := mG (ic_2_14 _ (List.mem_of_getElem? (i := 3) rfl)) rfl
theorem q_352 : (Cond.code yX5_sessionOf cX5_sessionOf 4 (some .int)) ∈ lwG := mG (ic_2_14 _ (List.mem_of_getElem? (i := 4) rfl)) rfl
theorem q_353 : (Cond.methodLink RX5 103 yX2_noticesOnTheirWay) ∈ lwG := mG (ic_2_14 _ (List.mem_of_getElem? (i := 5) rfl)) rfl
theorem q_354 : (Cond.instanceMethod yX2_noticesOnTheirWay) ∈ lwG := mG (ic_2_14 _ (List.mem_of_getElem? (i := 6) rfl)) rfl
theorem q_355 : (Cond.selects RX2 yX2_noticesOnTheirWay yX2_noticesOnTheirWay) ∈ lwG := mG (ic_2_14 _ (List.mem_of_getElem? (i := 7) rfl)) rfl
theorem q_356 : (Cond.code yX2_noticesOnTheirWay cX2_noticesOnTheirWay 3 (some .int)) ∈ lwG := mG (ic_2_14 _ (List.mem_of_getElem? (i := 8) rfl)) rfl
theorem q_357 : (Cond.methodLink RX5 110 yX1_staleInHand) ∈ lwG := mG (ic_2_14 _ (List.mem_of_getElem? (i := 9) rfl)) rfl
theorem q_358 : (Cond.instanceMethod yX1_staleInHand) ∈ lwG := mG (ic_2_14 _ (List.mem_of_getElem? (i := 10) rfl)) rfl
theorem q_359 : (Cond.selects RX1 yX1_staleInHand yX1_staleInHand) ∈ lwG := mG (ic_2_14 _ (List.mem_of_getElem? (i := 11) rfl)) rfl
theorem q_360 : (Cond.code yX1_staleInHand cX1_staleInHand 3 (some .int)) ∈ lwG := mG (ic_2_15 _ (List.mem_of_getElem? (i := 0) rfl)) rfl
theorem q_361 : (Cond.methodLink RX5 113 yX1_statementsAtWork) ∈ lwG := mG (ic_2_15 _ (List.mem_of_getElem? (i := 1) rfl)) rfl
theorem q_362 : (Cond.instanceMethod yX1_statementsAtWork) ∈ lwG := mG (ic_2_15 _ (List.mem_of_getElem? (i := 2) rfl)) rfl
theorem q_363 : (Cond.selects RX1 yX1_statementsAtWork yX1_statementsAtWork) ∈ lwG := mG (ic_2_15 _ (List.mem_of_getElem? (i := 3) rfl)) rfl
theorem q_364 : (Cond.code yX1_statementsAtWork cX1_statementsAtWork 3 (some .int)) ∈ lwG := mG (ic_2_15 _ (List.mem_of_getElem? (i := 4) rfl)) rfl
theorem q_365 : (Cond.methodLink RL 43 yX5_entry) ∈ lwG := mG (ic_2_15 _ (List.mem_of_getElem? (i := 5) rfl)) rfl
theorem q_366 : (Cond.instanceMethod yX5_entry) ∈ lwG := mG (ic_2_15 _ (List.mem_of_getElem? (i := 6) rfl)) rfl
theorem q_367 : (Cond.selects RX5 yX5_entry yX5_entry) ∈ lwG := mG (ic_2_15 _ (List.mem_of_getElem? (i := 7) rfl)) rfl
theorem q_368 : (Cond.code yX5_entry cX5_entry 6 (some .int)) ∈ lwG := mG (ic_2_15 _ (List.mem_of_getElem? (i := 8) rfl)) rfl
theorem q_369 : (Cond.methodLink RL 48 yX5_statement) ∈ lwG := mG (ic_2_15 _ (List.mem_of_getElem? (i := 9) rfl)) rfl
theorem q_370 : (Cond.instanceMethod yX5_statement) ∈ lwG := mG (ic_2_15 _ (List.mem_of_getElem? (i := 10) rfl)) rfl
theorem q_371 : (Cond.selects RX5 yX5_statement yX5_statement) ∈ lwG := mG (ic_2_15 _ (List.mem_of_getElem? (i := 11) rfl)) rfl
theorem q_372 : (Cond.code yX5_statement cX5_statement 5 (some .int)) ∈ lwG := mG (ic_2_16 _ (List.mem_of_getElem? (i := 0) rfl)) rfl
theorem q_373 : (Cond.methodLink RX5 153 yX2_sessionWith) ∈ lwG := mG (ic_2_16 _ (List.mem_of_getElem? (i := 1) rfl)) rfl
theorem q_374 : (Cond.instanceMethod yX2_sessionWith) ∈ lwG := mG (ic_2_16 _ (List.mem_of_getElem? (i := 2) rfl)) rfl
theorem q_375 : (Cond.selects RX2 yX2_sessionWith yX2_sessionWith) ∈ lwG := mG (ic_2_16 _ (List.mem_of_getElem? (i := 3) rfl)) rfl
theorem q_376 : (Cond.code yX2_sessionWith cX2_sessionWith 3 (some .int)) ∈ lwG := mG (ic_2_16 _ (List.mem_of_getElem? (i := 4) rfl)) rfl
theorem q_377 : (Cond.methodLink RX5 156 yX1_workOf) ∈ lwG := mG (ic_2_16 _ (List.mem_of_getElem? (i := 5) rfl)) rfl
theorem q_378 : (Cond.methodLink RX5 168 yX4_outrunBy) ∈ lwG := mG (ic_2_16 _ (List.mem_of_getElem? (i := 6) rfl)) rfl
theorem q_379 : (Cond.instanceMethod yX4_outrunBy) ∈ lwG := mG (ic_2_16 _ (List.mem_of_getElem? (i := 7) rfl)) rfl
theorem q_380 : (Cond.selects RX4 yX4_outrunBy yX4_outrunBy) ∈ lwG := mG (ic_2_16 _ (List.mem_of_getElem? (i := 8) rfl)) rfl
theorem q_381 : (Cond.code yX4_outrunBy cX4_outrunBy 4 (some .int)) ∈ lwG := mG (ic_2_16 _ (List.mem_of_getElem? (i := 9) rfl)) rfl
theorem q_382 : (Cond.methodLink RL 52 yX5_notice) ∈ lwG := mG (ic_2_16 _ (List.mem_of_getElem? (i := 10) rfl)) rfl
theorem q_383 : (Cond.instanceMethod yX5_notice) ∈ lwG := mG (ic_2_16 _ (List.mem_of_getElem? (i := 11) rfl)) rfl
theorem q_384 : (Cond.selects RX5 yX5_notice yX5_notice) ∈ lwG := mG (ic_2_17 _ (List.mem_of_getElem? (i := 0) rfl)) rfl
theorem q_385 : (Cond.code yX5_notice cX5_notice 2 (some .int)) ∈ lwG := mG (ic_2_17 _ (List.mem_of_getElem? (i := 1) rfl)) rfl
theorem q_386 : (Cond.methodLink RL 56 yX5_count) ∈ lwG := mG (ic_2_17 _ (List.mem_of_getElem? (i := 2) rfl)) rfl
theorem q_387 : (Cond.instanceMethod yX5_count) ∈ lwG := mG (ic_2_17 _ (List.mem_of_getElem? (i := 3) rfl)) rfl
theorem q_388 : (Cond.selects RX5 yX5_count yX5_count) ∈ lwG := mG (ic_2_17 _ (List.mem_of_getElem? (i := 4) rfl)) rfl
theorem q_389 : (Cond.code yX5_count cX5_count 2 (some .int)) ∈ lwG := mG (ic_2_17 _ (List.mem_of_getElem? (i := 5) rfl)) rfl
theorem q_390 : (Cond.methodLink RX5 184 yX2_statementsAtWork) ∈ lwG := mG (ic_2_17 _ (List.mem_of_getElem? (i := 6) rfl)) rfl
theorem q_391 : (Cond.instanceMethod yX2_statementsAtWork) ∈ lwG := mG (ic_2_17 _ (List.mem_of_getElem? (i := 7) rfl)) rfl
theorem q_392 : (Cond.selects RX2 yX2_statementsAtWork yX2_statementsAtWork) ∈ lwG := mG (ic_2_17 _ (List.mem_of_getElem? (i := 8) rfl)) rfl
theorem q_393 : (Cond.code yX2_statementsAtWork cX2_statementsAtWork 3 (some .int)) ∈ lwG := mG (ic_2_17 _ (List.mem_of_getElem? (i := 9) rfl)) rfl
theorem q_394 : (Cond.methodLink RX2 141 yX1_statementsAtWork) ∈ lwG := mG (ic_2_17 _ (List.mem_of_getElem? (i := 10) rfl)) rfl
theorem q_395 : (Cond.methodLink RX5 188 yX2_tablesThatCanChange) ∈ lwG := mG (ic_2_17 _ (List.mem_of_getElem? (i := 11) rfl)) rfl
theorem q_396 : (Cond.instanceMethod yX2_tablesThatCanChange) ∈ lwG := mG (ic_2_18 _ (List.mem_of_getElem? (i := 0) rfl)) rfl
theorem q_397 : (Cond.selects RX2 yX2_tablesThatCanChange yX2_tablesThatCanChange) ∈ lwG := mG (ic_2_18 _ (List.mem_of_getElem? (i := 1) rfl)) rfl
theorem q_398 : (Cond.code yX2_tablesThatCanChange cX2_tablesThatCanChange 3 (some .int)) ∈ lwG := mG (ic_2_18 _ (List.mem_of_getElem? (i := 2) rfl)) rfl
theorem q_399 : (Cond.methodLink RX5 191 yX2_loadsOfAll) ∈ lwG := mG (ic_2_18 _ (List.mem_of_getElem? (i := 3) rfl)) rfl
theorem q_400 : (Cond.instanceMethod yX2_loadsOfAll) ∈ lwG := mG (ic_2_18 _ (List.mem_of_getElem? (i := 4) rfl)) rfl
theorem q_401 : (Cond.selects RX2 yX2_loadsOfAll yX2_loadsOfAll) ∈ lwG := mG (ic_2_18 _ (List.mem_of_getElem? (i := 5) rfl)) rfl
theorem q_402 : (Cond.code yX2_loadsOfAll cX2_loadsOfAll 3 (some .int)) ∈ lwG := mG (ic_2_18 _ (List.mem_of_getElem? (i := 6) rfl)) rfl
theorem q_403 : (Cond.methodLink RL 60 yX5_would) ∈ lwG := mG (ic_2_18 _ (List.mem_of_getElem? (i := 7) rfl)) rfl
theorem q_404 : (Cond.instanceMethod yX5_would) ∈ lwG := mG (ic_2_18 _ (List.mem_of_getElem? (i := 8) rfl)) rfl
theorem q_405 : (Cond.selects RX5 yX5_would yX5_would) ∈ lwG := mG (ic_2_18 _ (List.mem_of_getElem? (i := 9) rfl)) rfl
theorem q_406 : (Cond.code yX5_would cX5_would 7 (some .int)) ∈ lwG := mG (ic_2_18 _ (List.mem_of_getElem? (i := 10) rfl)) rfl
theorem q_407 : (Cond.methodLink RL 64 yX5_inTheWay) ∈ lwG := mG (ic_2_18 _ (List.mem_of_getElem? (i := 11) rfl)) rfl
theorem q_408 : (Cond.instanceMethod yX5_inTheWay) ∈ lwG := mG (ic_2_19 _ (List.mem_of_getElem? (i := 0) rfl)) rfl
theorem q_409 : (Cond.selects RX5 yX5_inTheWay yX5_inTheWay) ∈ lwG := mG (ic_2_19 _ (List.mem_of_getElem? (i := 1) rfl)) rfl
theorem q_410 : (Cond.code yX5_inTheWay cX5_inTheWay 5 (some .int)) ∈ lwG := mG (ic_2_19 _ (List.mem_of_getElem? (i := 2) rfl)) rfl
theorem q_411 : (Cond.methodLink RX5 200 yX1_lowestBehind) ∈ lwG := mG (ic_2_19 _ (List.mem_of_getElem? (i := 3) rfl)) rfl
theorem q_412 : (Cond.instanceMethod yX1_lowestBehind) ∈ lwG := mG (ic_2_19 _ (List.mem_of_getElem? (i := 4) rfl)) rfl
theorem q_413 : (Cond.selects RX1 yX1_lowestBehind yX1_lowestBehind) ∈ lwG := mG (ic_2_19 _ (List.mem_of_getElem? (i := 5) rfl)) rfl
theorem q_414 : (Cond.code yX1_lowestBehind cX1_lowestBehind 7 (some .int)) ∈ lwG := mG (ic_2_19 _ (List.mem_of_getElem? (i := 6) rfl)) rfl
theorem q_415 : (Cond.methodLinkNest RX1 109 yX5_contains RX5) ∈ lw_tbl := ic_2_19 _ (List.mem_of_getElem? (i := 7) rfl)
theorem q_416 : (Cond.methodLink RL 68 yX5_bestRoom) ∈ lwG := mG (ic_2_19 _ (List.mem_of_getElem? (i := 8) rfl)) rfl
theorem q_417 : (Cond.instanceMethod yX5_bestRoom) ∈ lwG := mG (ic_2_19 _ (List.mem_of_getElem? (i := 9) rfl)) rfl
theorem q_418 : (Cond.selects RX5 yX5_bestRoom yX5_bestRoom) ∈ lwG := mG (ic_2_19 _ (List.mem_of_getElem? (i := 10) rfl)) rfl
theorem q_419 : (Cond.code yX5_bestRoom cX5_bestRoom 6 (some .int)) ∈ lwG := mG (ic_2_19 _ (List.mem_of_getElem? (i := 11) rfl)) rfl
theorem q_420 : (Cond.methodLink RX5 203 yX5_loadsWithRoom) ∈ lwG := mG (ic_3_0 _ (List.mem_of_getElem? (i := 0) rfl)) rfl
theorem q_421 : (Cond.instanceMethod yX5_loadsWithRoom) ∈ lwG := mG (ic_3_0 _ (List.mem_of_getElem? (i := 2) rfl)) rfl
theorem q_422 : (Cond.code yX5_loadsWithRoom cX5_loadsWithRoom 5 (some .int)) ∈ lwG := mG (ic_3_0 _ (List.mem_of_getElem? (i := 3) rfl)) rfl
theorem q_423 : (Cond.methodLink RX5 206 Lib.Math.max.name) ∈ lwG := mG (ic_3_0 _ (List.mem_of_getElem? (i := 4) rfl)) rfl
theorem q_424 : (Cond.static Lib.Math.max.name) ∈ lwG := mG (ic_3_0 _ (List.mem_of_getElem? (i := 5) rfl)) rfl
theorem q_425 : (Cond.code Lib.Math.max.name Lib.Math.max.code 2 (some .int)) ∈ lwG := mG (ic_3_0 _ (List.mem_of_getElem? (i := 6) rfl)) rfl
theorem q_426 : (Cond.methodLink RL 72 yX5_keep) ∈ lwG := mG (ic_3_0 _ (List.mem_of_getElem? (i := 7) rfl)) rfl
theorem q_427 : (Cond.instanceMethod yX5_keep) ∈ lwG := mG (ic_3_0 _ (List.mem_of_getElem? (i := 8) rfl)) rfl
theorem q_428 : (Cond.selects RX5 yX5_keep yX5_keep) ∈ lwG := mG (ic_3_0 _ (List.mem_of_getElem? (i := 9) rfl)) rfl
theorem q_429 : (Cond.code yX5_keep cX5_keep 1 (some .int)) ∈ lwG := mG (ic_3_0 _ (List.mem_of_getElem? (i := 10) rfl)) rfl
theorem q_430 : (Cond.methodLink RL 77 yX5_restore) ∈ lwG := mG (ic_3_0 _ (List.mem_of_getElem? (i := 11) rfl)) rfl
theorem q_431 : (Cond.instanceMethod yX5_restore) ∈ lwG := mG (ic_3_1 _ (List.mem_of_getElem? (i := 0) rfl)) rfl
theorem q_432 : (Cond.selects RX5 yX5_restore yX5_restore) ∈ lwG := mG (ic_3_1 _ (List.mem_of_getElem? (i := 1) rfl)) rfl
theorem q_433 : (Cond.code yX5_restore cX5_restore 1 (some .int)) ∈ lwG := mG (ic_3_1 _ (List.mem_of_getElem? (i := 2) rfl)) rfl
theorem q_434 : (Cond.methodLink RL 81 yX5_undo) ∈ lwG := mG (ic_3_1 _ (List.mem_of_getElem? (i := 3) rfl)) rfl
theorem q_435 : (Cond.instanceMethod yX5_undo) ∈ lwG := mG (ic_3_1 _ (List.mem_of_getElem? (i := 4) rfl)) rfl
theorem q_436 : (Cond.selects RX5 yX5_undo yX5_undo) ∈ lwG := mG (ic_3_1 _ (List.mem_of_getElem? (i := 5) rfl)) rfl
theorem q_437 : (Cond.code yX5_undo cX5_undo 2 (some .int)) ∈ lwG := mG (ic_3_1 _ (List.mem_of_getElem? (i := 6) rfl)) rfl
theorem q_438 : (Cond.methodLink RL 85 yX5_type) ∈ lwG := mG (ic_3_1 _ (List.mem_of_getElem? (i := 7) rfl)) rfl
theorem q_439 : (Cond.instanceMethod yX5_type) ∈ lwG := mG (ic_3_1 _ (List.mem_of_getElem? (i := 8) rfl)) rfl
theorem q_440 : (Cond.selects RX5 yX5_type yX5_type) ∈ lwG := mG (ic_3_1 _ (List.mem_of_getElem? (i := 9) rfl)) rfl
theorem q_441 : (Cond.code yX5_type cX5_type 2 (some .int)) ∈ lwG := mG (ic_3_1 _ (List.mem_of_getElem? (i := 10) rfl)) rfl
theorem q_442 : (Cond.methodLink RL 89 yX5_clearText) ∈ lwG := mG (ic_3_1 _ (List.mem_of_getElem? (i := 11) rfl)) rfl
theorem q_443 : (Cond.instanceMethod yX5_clearText) ∈ lwG := mG (ic_3_2 _ (List.mem_of_getElem? (i := 0) rfl)) rfl
theorem q_444 : (Cond.selects RX5 yX5_clearText yX5_clearText) ∈ lwG := mG (ic_3_2 _ (List.mem_of_getElem? (i := 1) rfl)) rfl
theorem q_445 : (Cond.code yX5_clearText cX5_clearText 2 (some .int)) ∈ lwG := mG (ic_3_2 _ (List.mem_of_getElem? (i := 2) rfl)) rfl
theorem q_446 : (Cond.methodLink RL 93 yX5_fault) ∈ lwG := mG (ic_3_2 _ (List.mem_of_getElem? (i := 3) rfl)) rfl
theorem q_447 : (Cond.instanceMethod yX5_fault) ∈ lwG := mG (ic_3_2 _ (List.mem_of_getElem? (i := 4) rfl)) rfl
theorem q_448 : (Cond.selects RX5 yX5_fault yX5_fault) ∈ lwG := mG (ic_3_2 _ (List.mem_of_getElem? (i := 5) rfl)) rfl
theorem q_449 : (Cond.code yX5_fault cX5_fault 2 (some .int)) ∈ lwG := mG (ic_3_2 _ (List.mem_of_getElem? (i := 6) rfl)) rfl
theorem q_450 : (Cond.methodLink RX5 223 yX5_doCommands) ∈ lwG := mG (ic_3_2 _ (List.mem_of_getElem? (i := 7) rfl)) rfl
theorem q_451 : (Cond.instanceMethod yX5_doCommands) ∈ lwG := mG (ic_3_2 _ (List.mem_of_getElem? (i := 9) rfl)) rfl
theorem q_452 : (Cond.code yX5_doCommands cX5_doCommands 4 (some .int)) ∈ lwG := mG (ic_3_2 _ (List.mem_of_getElem? (i := 10) rfl)) rfl
theorem q_453 : (Cond.methodLink RX5 226 yX3_readCommand) ∈ lwG := mG (ic_3_2 _ (List.mem_of_getElem? (i := 11) rfl)) rfl
theorem q_454 : (Cond.instanceMethod yX3_readCommand) ∈ lwG := mG (ic_3_3 _ (List.mem_of_getElem? (i := 0) rfl)) rfl
theorem q_455 : (Cond.selects RX3 yX3_readCommand yX3_readCommand) ∈ lwG := mG (ic_3_3 _ (List.mem_of_getElem? (i := 1) rfl)) rfl
theorem q_456 : (Cond.code yX3_readCommand cX3_readCommand 2 (some .boolean)) ∈ lwG := mG (ic_3_3 _ (List.mem_of_getElem? (i := 2) rfl)) rfl
theorem q_457 : (Cond.methodLink RX3 15 yX3_signAt) ∈ lwG := mG (ic_3_3 _ (List.mem_of_getElem? (i := 3) rfl)) rfl
theorem q_458 : (Cond.instanceMethod yX3_signAt) ∈ lwG := mG (ic_3_3 _ (List.mem_of_getElem? (i := 5) rfl)) rfl
theorem q_459 : (Cond.code yX3_signAt cX3_signAt 2 (some .int)) ∈ lwG := mG (ic_3_3 _ (List.mem_of_getElem? (i := 6) rfl)) rfl
theorem q_460 : (Cond.methodLink RX3 26 yX3_readNumber) ∈ lwG := mG (ic_3_3 _ (List.mem_of_getElem? (i := 7) rfl)) rfl
theorem q_461 : (Cond.instanceMethod yX3_readNumber) ∈ lwG := mG (ic_3_3 _ (List.mem_of_getElem? (i := 9) rfl)) rfl
theorem q_462 : (Cond.code yX3_readNumber cX3_readNumber 4 (some .int)) ∈ lwG := mG (ic_3_3 _ (List.mem_of_getElem? (i := 10) rfl)) rfl
theorem q_463 : (Cond.methodLink RX3 39 Lib.Math.max.name) ∈ lwG := mG (ic_3_3 _ (List.mem_of_getElem? (i := 11) rfl)) rfl
theorem q_464 : (Cond.methodLink RX5 229 yX5_noteFault) ∈ lwG := mG (ic_3_4 _ (List.mem_of_getElem? (i := 0) rfl)) rfl
theorem q_465 : (Cond.instanceMethod yX5_noteFault) ∈ lwG := mG (ic_3_4 _ (List.mem_of_getElem? (i := 2) rfl)) rfl
theorem q_466 : (Cond.code yX5_noteFault cX5_noteFault 4 none) ∈ lwG := mG (ic_3_4 _ (List.mem_of_getElem? (i := 3) rfl)) rfl
theorem q_467 : (Cond.methodLink RX5 242 yX2_obey) ∈ lwG := mG (ic_3_4 _ (List.mem_of_getElem? (i := 4) rfl)) rfl
theorem q_468 : (Cond.instanceMethod yX2_obey) ∈ lwG := mG (ic_3_4 _ (List.mem_of_getElem? (i := 5) rfl)) rfl
theorem q_469 : (Cond.selects RX2 yX2_obey yX2_obey) ∈ lwG := mG (ic_3_4 _ (List.mem_of_getElem? (i := 6) rfl)) rfl
theorem q_470 : (Cond.code yX2_obey cX2_obey 4 (some .int)) ∈ lwG := mG (ic_3_4 _ (List.mem_of_getElem? (i := 7) rfl)) rfl
theorem q_471 : (Cond.methodLink RX2 60 yX2_changeTable) ∈ lwG := mG (ic_3_4 _ (List.mem_of_getElem? (i := 8) rfl)) rfl
theorem q_472 : (Cond.methodLink RX2 64 yX2_begin) ∈ lwG := mG (ic_3_4 _ (List.mem_of_getElem? (i := 9) rfl)) rfl
theorem q_473 : (Cond.methodLink RX2 67 yX2_finish) ∈ lwG := mG (ic_3_4 _ (List.mem_of_getElem? (i := 10) rfl)) rfl
theorem q_474 : (Cond.methodLink RX2 71 yX2_pass) ∈ lwG := mG (ic_3_4 _ (List.mem_of_getElem? (i := 11) rfl)) rfl
theorem q_475 : (Cond.methodLink RL 97 yX5_play) ∈ lwG := mG (ic_3_5 _ (List.mem_of_getElem? (i := 0) rfl)) rfl
theorem q_476 : (Cond.instanceMethod yX5_play) ∈ lwG := mG (ic_3_5 _ (List.mem_of_getElem? (i := 1) rfl)) rfl
theorem q_477 : (Cond.selects RX5 yX5_play yX5_play) ∈ lwG := mG (ic_3_5 _ (List.mem_of_getElem? (i := 2) rfl)) rfl
theorem q_478 : (Cond.code yX5_play cX5_play 2 (some .int)) ∈ lwG := mG (ic_3_5 _ (List.mem_of_getElem? (i := 3) rfl)) rfl
theorem q_479 : (Cond.classLink RL 10 RX6) ∈ lwG := mG (ic_3_5 _ (List.mem_of_getElem? (i := 4) rfl)) rfl
theorem q_480 : (Cond.instantiable RX6 19) ∈ lwG := mG (ic_3_5 _ (List.mem_of_getElem? (i := 5) rfl)) rfl
theorem q_481 : (Cond.methodLink RL 12 yX6_init) ∈ lwG := mG (ic_3_5 _ (List.mem_of_getElem? (i := 6) rfl)) rfl
theorem q_482 : (Cond.instanceMethod yX6_init) ∈ lwG := mG (ic_3_5 _ (List.mem_of_getElem? (i := 7) rfl)) rfl
theorem q_483 : (Cond.code yX6_init cX6_init 2 none) ∈ lwG := mG (ic_3_5 _ (List.mem_of_getElem? (i := 8) rfl)) rfl
theorem q_484 : (Cond.methodLink RX6 1 objectInit) ∈ lwG := mG (ic_3_5 _ (List.mem_of_getElem? (i := 9) rfl)) rfl
theorem q_485 : (Cond.fieldLink RX6 7 "ShapeSessionsModel" "s" "[I") ∈ lwG := mG (ic_3_5 _ (List.mem_of_getElem? (i := 10) rfl)) rfl
theorem q_486 : (Cond.fieldLink RX6 13 "ShapeSessionsModel" "aside" "[I") ∈ lwG := mG (ic_3_5 _ (List.mem_of_getElem? (i := 11) rfl)) rfl
theorem q_487 : (Cond.fieldLink RX6 16 "ShapeSessionsModel" "before" "[I") ∈ lwG := mG (ic_3_6 _ (List.mem_of_getElem? (i := 0) rfl)) rfl
theorem q_488 : (Cond.fieldLink RX6 42 "ShapeSessionsModel" "known" "I") ∈ lwG := mG (ic_3_6 _ (List.mem_of_getElem? (i := 1) rfl)) rfl
theorem q_489 : (Cond.fieldLink RX6 19 "ShapeSessionsModel" "kept" "[I") ∈ lwG := mG (ic_3_6 _ (List.mem_of_getElem? (i := 2) rfl)) rfl
theorem q_490 : (Cond.fieldLink RX6 148 "ShapeSessionsModel" "isKept" "Z") ∈ lwG := mG (ic_3_6 _ (List.mem_of_getElem? (i := 3) rfl)) rfl
theorem q_491 : (Cond.fieldLink RX6 22 "ShapeSessionsModel" "text" "[I") ∈ lwG := mG (ic_3_6 _ (List.mem_of_getElem? (i := 4) rfl)) rfl
theorem q_492 : (Cond.fieldLink RX6 145 "ShapeSessionsModel" "length" "I") ∈ lwG := mG (ic_3_6 _ (List.mem_of_getElem? (i := 5) rfl)) rfl
theorem q_493 : (Cond.fieldLink RX6 25 "ShapeSessionsModel" "hand" "[I") ∈ lwG := mG (ic_3_6 _ (List.mem_of_getElem? (i := 6) rfl)) rfl
theorem q_494 : (Cond.fieldLink RX6 28 "ShapeSessionsModel" "used" "[I") ∈ lwG := mG (ic_3_6 _ (List.mem_of_getElem? (i := 7) rfl)) rfl
theorem q_495 : (Cond.fieldLink RX6 31 "ShapeSessionsModel" "many" "[I") ∈ lwG := mG (ic_3_6 _ (List.mem_of_getElem? (i := 8) rfl)) rfl
theorem q_496 : (Cond.fieldLink RX6 165 "ShapeSessionsModel" "at" "I") ∈ lwG := mG (ic_3_6 _ (List.mem_of_getElem? (i := 9) rfl)) rfl
theorem q_497 : (Cond.fieldLink RX6 168 "ShapeSessionsModel" "isWrong" "Z") ∈ lwG := mG (ic_3_6 _ (List.mem_of_getElem? (i := 10) rfl)) rfl
theorem q_498 : (Cond.fieldLink RX6 174 "ShapeSessionsModel" "letter" "I") ∈ lwG := mG (ic_3_6 _ (List.mem_of_getElem? (i := 11) rfl)) rfl
theorem q_499 : (Cond.fieldLink RX6 180 "ShapeSessionsModel" "one" "I") ∈ lwG := mG (ic_3_7 _ (List.mem_of_getElem? (i := 0) rfl)) rfl
theorem q_500 : (Cond.fieldLink RX6 183 "ShapeSessionsModel" "two" "I") ∈ lwG := mG (ic_3_7 _ (List.mem_of_getElem? (i := 1) rfl)) rfl
theorem q_501 : (Cond.fieldLink RX6 189 "ShapeSessionsModel" "position" "I") ∈ lwG := mG (ic_3_7 _ (List.mem_of_getElem? (i := 2) rfl)) rfl
theorem q_502 : (Cond.fieldLink RX6 186 "ShapeSessionsModel" "reason" "I") ∈ lwG := mG (ic_3_7 _ (List.mem_of_getElem? (i := 3) rfl)) rfl
theorem q_503 : (Cond.fieldLink RX6 198 "ShapeSessionsModel" "cause" "I") ∈ lwG := mG (ic_3_7 _ (List.mem_of_getElem? (i := 4) rfl)) rfl
theorem q_504 : (Cond.laysFinal RX6 "ShapeSessionsModel" "s" "[I") ∈ lwG := mG (ic_3_7 _ (List.mem_of_getElem? (i := 5) rfl)) rfl
theorem q_505 : (Cond.laysFinal RX6 "ShapeSessionsModel" "aside" "[I") ∈ lwG := mG (ic_3_7 _ (List.mem_of_getElem? (i := 7) rfl)) rfl
theorem q_506 : (Cond.laysFinal RX6 "ShapeSessionsModel" "before" "[I") ∈ lwG := mG (ic_3_7 _ (List.mem_of_getElem? (i := 9) rfl)) rfl
theorem q_507 : (Cond.lays RX6 "ShapeSessionsModel" "known" "I") ∈ lwG := mG (ic_3_7 _ (List.mem_of_getElem? (i := 11) rfl)) rfl
theorem q_508 : (Cond.laysFinal RX6 "ShapeSessionsModel" "kept" "[I") ∈ lwG := mG (ic_3_8 _ (List.mem_of_getElem? (i := 1) rfl)) rfl
theorem q_509 : (Cond.lays RX6 "ShapeSessionsModel" "isKept" "Z") ∈ lwG := mG (ic_3_8 _ (List.mem_of_getElem? (i := 3) rfl)) rfl
theorem q_510 : (Cond.laysFinal RX6 "ShapeSessionsModel" "text" "[I") ∈ lwG := mG (ic_3_8 _ (List.mem_of_getElem? (i := 5) rfl)) rfl
theorem q_511 : (Cond.lays RX6 "ShapeSessionsModel" "length" "I") ∈ lwG := mG (ic_3_8 _ (List.mem_of_getElem? (i := 7) rfl)) rfl
theorem q_512 : (Cond.laysFinal RX6 "ShapeSessionsModel" "hand" "[I") ∈ lwG := mG (ic_3_8 _ (List.mem_of_getElem? (i := 9) rfl)) rfl
theorem q_513 : (Cond.laysFinal RX6 "ShapeSessionsModel" "used" "[I") ∈ lwG := mG (ic_3_8 _ (List.mem_of_getElem? (i := 11) rfl)) rfl
theorem q_514 : (Cond.laysFinal RX6 "ShapeSessionsModel" "many" "[I") ∈ lwG := mG (ic_3_9 _ (List.mem_of_getElem? (i := 1) rfl)) rfl
theorem q_515 : (Cond.lays RX6 "ShapeSessionsModel" "at" "I") ∈ lwG := mG (ic_3_9 _ (List.mem_of_getElem? (i := 3) rfl)) rfl
theorem q_516 : (Cond.lays RX6 "ShapeSessionsModel" "isWrong" "Z") ∈ lwG := mG (ic_3_9 _ (List.mem_of_getElem? (i := 5) rfl)) rfl
theorem q_517 : (Cond.lays RX6 "ShapeSessionsModel" "letter" "I") ∈ lwG := mG (ic_3_9 _ (List.mem_of_getElem? (i := 7) rfl)) rfl
theorem q_518 : (Cond.lays RX6 "ShapeSessionsModel" "one" "I") ∈ lwG := mG (ic_3_9 _ (List.mem_of_getElem? (i := 9) rfl)) rfl
theorem q_519 : (Cond.lays RX6 "ShapeSessionsModel" "two" "I") ∈ lwG := mG (ic_3_9 _ (List.mem_of_getElem? (i := 11) rfl)) rfl
theorem q_520 : (Cond.lays RX6 "ShapeSessionsModel" "position" "I") ∈ lwG := mG (ic_3_10 _ (List.mem_of_getElem? (i := 1) rfl)) rfl
theorem q_521 : (Cond.lays RX6 "ShapeSessionsModel" "reason" "I") ∈ lwG := mG (ic_3_10 _ (List.mem_of_getElem? (i := 3) rfl)) rfl
theorem q_522 : (Cond.lays RX6 "ShapeSessionsModel" "cause" "I") ∈ lwG := mG (ic_3_10 _ (List.mem_of_getElem? (i := 5) rfl)) rfl
theorem q_523 : (Cond.methodLink RL 17 yX6_alter) ∈ lwG := mG (ic_3_10 _ (List.mem_of_getElem? (i := 8) rfl)) rfl
theorem q_524 : (Cond.instanceMethod yX6_alter) ∈ lwG := mG (ic_3_10 _ (List.mem_of_getElem? (i := 9) rfl)) rfl
theorem q_525 : (Cond.selects RX6 yX6_alter yX6_alter) ∈ lwG := mG (ic_3_10 _ (List.mem_of_getElem? (i := 10) rfl)) rfl
theorem q_526 : (Cond.code yX6_alter cX6_alter 4 (some .int)) ∈ lwG := mG (ic_3_10 _ (List.mem_of_getElem? (i := 11) rfl)) rfl
theorem q_527 : (Cond.methodLink RX6 108 yX6_alterFault) ∈ lwG := mG (ic_3_11 _ (List.mem_of_getElem? (i := 0) rfl)) rfl
theorem q_528 : (Cond.instanceMethod yX6_alterFault) ∈ lwG := mG (ic_3_11 _ (List.mem_of_getElem? (i := 2) rfl)) rfl
theorem q_529 : (Cond.code yX6_alterFault cX6_alterFault 3 (some .int)) ∈ lwG := mG (ic_3_11 _ (List.mem_of_getElem? (i := 3) rfl)) rfl
theorem q_530 : (Cond.methodLink RX6 67 yX6_isTable) ∈ lwG := mG (ic_3_11 _ (List.mem_of_getElem? (i := 4) rfl)) rfl
theorem q_531 : (Cond.static yX6_isTable) ∈ lwG := mG (ic_3_11 _ (List.mem_of_getElem? (i := 5) rfl)) rfl
theorem q_532 : (Cond.code yX6_isTable cX6_isTable 1 (some .boolean)) ∈ lwG := mG (ic_3_11 _ (List.mem_of_getElem? (i := 6) rfl)) rfl
theorem q_533 : (Cond.methodLink RX6 34 yX6_in) ∈ lwG := mG (ic_3_11 _ (List.mem_of_getElem? (i := 7) rfl)) rfl
theorem q_534 : (Cond.static yX6_in) ∈ lwG := mG (ic_3_11 _ (List.mem_of_getElem? (i := 8) rfl)) rfl
theorem q_535 : (Cond.code yX6_in cX6_in 3 (some .boolean)) ∈ lwG := mG (ic_3_11 _ (List.mem_of_getElem? (i := 9) rfl)) rfl
theorem q_536 : (Cond.methodLink RX6 71 yX6_inWay) ∈ lwG := mG (ic_3_11 _ (List.mem_of_getElem? (i := 10) rfl)) rfl
theorem q_537 : (Cond.instanceMethod yX6_inWay) ∈ lwG := mG (ic_3_12 _ (List.mem_of_getElem? (i := 0) rfl)) rfl
theorem q_538 : (Cond.code yX6_inWay cX6_inWay 5 (some .int)) ∈ lwG := mG (ic_3_12 _ (List.mem_of_getElem? (i := 1) rfl)) rfl
theorem q_539 : (Cond.methodLink RX6 64 yX6_ofOpen) ∈ lwG := mG (ic_3_12 _ (List.mem_of_getElem? (i := 2) rfl)) rfl
theorem q_540 : (Cond.static yX6_ofOpen) ∈ lwG := mG (ic_3_12 _ (List.mem_of_getElem? (i := 3) rfl)) rfl
theorem q_541 : (Cond.code yX6_ofOpen cX6_ofOpen 2 (some .int)) ∈ lwG := mG (ic_3_12 _ (List.mem_of_getElem? (i := 4) rfl)) rfl
theorem q_542 : (Cond.methodLink RX6 111 yX6_know) ∈ lwG := mG (ic_3_12 _ (List.mem_of_getElem? (i := 5) rfl)) rfl
theorem q_543 : (Cond.instanceMethod yX6_know) ∈ lwG := mG (ic_3_12 _ (List.mem_of_getElem? (i := 7) rfl)) rfl
theorem q_544 : (Cond.code yX6_know cX6_know 2 none) ∈ lwG := mG (ic_3_12 _ (List.mem_of_getElem? (i := 8) rfl)) rfl
theorem q_545 : (Cond.methodLink RX6 114 yX6_alters) ∈ lwG := mG (ic_3_12 _ (List.mem_of_getElem? (i := 9) rfl)) rfl
theorem q_546 : (Cond.instanceMethod yX6_alters) ∈ lwG := mG (ic_3_12 _ (List.mem_of_getElem? (i := 11) rfl)) rfl
theorem q_547 : (Cond.code yX6_alters cX6_alters 3 (some .int)) ∈ lwG := mG (ic_3_13 _ (List.mem_of_getElem? (i := 0) rfl)) rfl
theorem q_548 : (Cond.methodLink RX6 74 yX6_come) ∈ lwG := mG (ic_3_13 _ (List.mem_of_getElem? (i := 1) rfl)) rfl
theorem q_549 : (Cond.instanceMethod yX6_come) ∈ lwG := mG (ic_3_13 _ (List.mem_of_getElem? (i := 3) rfl)) rfl
theorem q_550 : (Cond.code yX6_come cX6_come 3 none) ∈ lwG := mG (ic_3_13 _ (List.mem_of_getElem? (i := 4) rfl)) rfl
theorem q_551 : (Cond.methodLink RX6 38 yX6_of) ∈ lwG := mG (ic_3_13 _ (List.mem_of_getElem? (i := 5) rfl)) rfl
theorem q_552 : (Cond.static yX6_of) ∈ lwG := mG (ic_3_13 _ (List.mem_of_getElem? (i := 6) rfl)) rfl
theorem q_553 : (Cond.code yX6_of cX6_of 2 (some .int)) ∈ lwG := mG (ic_3_13 _ (List.mem_of_getElem? (i := 7) rfl)) rfl
theorem q_554 : (Cond.methodLink RX6 61 yX6_learn) ∈ lwG := mG (ic_3_13 _ (List.mem_of_getElem? (i := 8) rfl)) rfl
theorem q_555 : (Cond.instanceMethod yX6_learn) ∈ lwG := mG (ic_3_13 _ (List.mem_of_getElem? (i := 10) rfl)) rfl
theorem q_556 : (Cond.code yX6_learn cX6_learn 6 none) ∈ lwG := mG (ic_3_13 _ (List.mem_of_getElem? (i := 11) rfl)) rfl
theorem q_557 : (Cond.methodLink RX6 46 yX6_ofEntry) ∈ lwG := mG (ic_3_14 _ (List.mem_of_getElem? (i := 0) rfl)) rfl
theorem q_558 : (Cond.static yX6_ofEntry) ∈ lwG := mG (ic_3_14 _ (List.mem_of_getElem? (i := 1) rfl)) rfl
theorem q_559 : (Cond.code yX6_ofEntry cX6_ofEntry 3 (some .int)) ∈ lwG := mG (ic_3_14 _ (List.mem_of_getElem? (i := 2) rfl)) rfl
theorem q_560 : (Cond.methodLink RX6 58 yX6_clean) ∈ lwG := mG (ic_3_14 _ (List.mem_of_getElem? (i := 3) rfl)) rfl
theorem q_561 : (Cond.instanceMethod yX6_clean) ∈ lwG := mG (ic_3_14 _ (List.mem_of_getElem? (i := 5) rfl)) rfl
theorem q_562 : (Cond.code yX6_clean cX6_clean 4 (some .int)) ∈ lwG := mG (ic_3_14 _ (List.mem_of_getElem? (i := 6) rfl)) rfl
theorem q_563 : (Cond.methodLink RX6 50 yX6_remove) ∈ lwG := mG (ic_3_14 _ (List.mem_of_getElem? (i := 7) rfl)) rfl
theorem q_564 : (Cond.instanceMethod yX6_remove) ∈ lwG := mG (ic_3_14 _ (List.mem_of_getElem? (i := 9) rfl)) rfl
theorem q_565 : (Cond.code yX6_remove cX6_remove 4 none) ∈ lwG := mG (ic_3_14 _ (List.mem_of_getElem? (i := 10) rfl)) rfl
theorem q_566 : (Cond.methodLink RL 21 yX6_start) ∈ lwG := mG (ic_3_14 _ (List.mem_of_getElem? (i := 11) rfl)) rfl
theorem q_567 : (Cond.instanceMethod yX6_start) ∈ lwG := mG (ic_3_15 _ (List.mem_of_getElem? (i := 0) rfl)) rfl
theorem q_568 : (Cond.selects RX6 yX6_start yX6_start) ∈ lwG := mG (ic_3_15 _ (List.mem_of_getElem? (i := 1) rfl)) rfl
theorem q_569 : (Cond.code yX6_start cX6_start 4 (some .int)) ∈ lwG := mG (ic_3_15 _ (List.mem_of_getElem? (i := 2) rfl)) rfl
theorem q_570 : (Cond.methodLink RX6 117 yX6_startFault) ∈ lwG := mG (ic_3_15 _ (List.mem_of_getElem? (i := 3) rfl)) rfl
theorem q_571 : (Cond.instanceMethod yX6_startFault) ∈ lwG := mG (ic_3_15 _ (List.mem_of_getElem? (i := 5) rfl)) rfl
theorem q_572 : (Cond.code yX6_startFault cX6_startFault 4 (some .int)) ∈ lwG := mG (ic_3_15 _ (List.mem_of_getElem? (i := 6) rfl)) rfl
theorem q_573 : (Cond.methodLink RX6 93 yX6_isSession) ∈ lwG := mG (ic_3_15 _ (List.mem_of_getElem? (i := 7) rfl)) rfl
theorem q_574 : (Cond.static yX6_isSession) ∈ lwG := mG (ic_3_15 _ (List.mem_of_getElem? (i := 8) rfl)) rfl
theorem q_575 : (Cond.code yX6_isSession cX6_isSession 1 (some .boolean)) ∈ lwG := mG (ic_3_15 _ (List.mem_of_getElem? (i := 9) rfl)) rfl
theorem q_576 : (Cond.methodLink RX6 96 yX6_putAside) ∈ lwG := mG (ic_3_15 _ (List.mem_of_getElem? (i := 10) rfl)) rfl
theorem q_577 : (Cond.instanceMethod yX6_putAside) ∈ lwG := mG (ic_3_16 _ (List.mem_of_getElem? (i := 0) rfl)) rfl
theorem q_578 : (Cond.code yX6_putAside cX6_putAside 2 none) ∈ lwG := mG (ic_3_16 _ (List.mem_of_getElem? (i := 1) rfl)) rfl
theorem q_579 : (Cond.methodLink RX6 99 yX6_starts) ∈ lwG := mG (ic_3_16 _ (List.mem_of_getElem? (i := 2) rfl)) rfl
theorem q_580 : (Cond.instanceMethod yX6_starts) ∈ lwG := mG (ic_3_16 _ (List.mem_of_getElem? (i := 4) rfl)) rfl
theorem q_581 : (Cond.code yX6_starts cX6_starts 8 (some .int)) ∈ lwG := mG (ic_3_16 _ (List.mem_of_getElem? (i := 5) rfl)) rfl
theorem q_582 : (Cond.methodLink RX6 78 yX6_opensOf) ∈ lwG := mG (ic_3_16 _ (List.mem_of_getElem? (i := 6) rfl)) rfl
theorem q_583 : (Cond.instanceMethod yX6_opensOf) ∈ lwG := mG (ic_3_16 _ (List.mem_of_getElem? (i := 8) rfl)) rfl
theorem q_584 : (Cond.code yX6_opensOf cX6_opensOf 4 (some .int)) ∈ lwG := mG (ic_3_16 _ (List.mem_of_getElem? (i := 9) rfl)) rfl
theorem q_585 : (Cond.methodLink RX6 81 yX6_entryOf) ∈ lwG := mG (ic_3_16 _ (List.mem_of_getElem? (i := 10) rfl)) rfl
theorem q_586 : (Cond.instanceMethod yX6_entryOf) ∈ lwG := mG (ic_3_17 _ (List.mem_of_getElem? (i := 0) rfl)) rfl
theorem q_587 : (Cond.code yX6_entryOf cX6_entryOf 7 (some .int)) ∈ lwG := mG (ic_3_17 _ (List.mem_of_getElem? (i := 1) rfl)) rfl
theorem q_588 : (Cond.methodLink RX6 84 yX6_shrink) ∈ lwG := mG (ic_3_17 _ (List.mem_of_getElem? (i := 2) rfl)) rfl
theorem q_589 : (Cond.instanceMethod yX6_shrink) ∈ lwG := mG (ic_3_17 _ (List.mem_of_getElem? (i := 4) rfl)) rfl
theorem q_590 : (Cond.code yX6_shrink cX6_shrink 4 (some .int)) ∈ lwG := mG (ic_3_17 _ (List.mem_of_getElem? (i := 5) rfl)) rfl
theorem q_591 : (Cond.methodLink RX6 54 yX6_oldest) ∈ lwG := mG (ic_3_17 _ (List.mem_of_getElem? (i := 6) rfl)) rfl
theorem q_592 : (Cond.instanceMethod yX6_oldest) ∈ lwG := mG (ic_3_17 _ (List.mem_of_getElem? (i := 8) rfl)) rfl
theorem q_593 : (Cond.code yX6_oldest cX6_oldest 5 (some .int)) ∈ lwG := mG (ic_3_17 _ (List.mem_of_getElem? (i := 9) rfl)) rfl
theorem q_594 : (Cond.methodLink RX6 87 yX6_load) ∈ lwG := mG (ic_3_17 _ (List.mem_of_getElem? (i := 10) rfl)) rfl
theorem q_595 : (Cond.instanceMethod yX6_load) ∈ lwG := mG (ic_3_18 _ (List.mem_of_getElem? (i := 0) rfl)) rfl
theorem q_596 : (Cond.code yX6_load cX6_load 5 (some .int)) ∈ lwG := mG (ic_3_18 _ (List.mem_of_getElem? (i := 1) rfl)) rfl
theorem q_597 : (Cond.methodLink RX6 90 yX6_remember) ∈ lwG := mG (ic_3_18 _ (List.mem_of_getElem? (i := 2) rfl)) rfl
theorem q_598 : (Cond.instanceMethod yX6_remember) ∈ lwG := mG (ic_3_18 _ (List.mem_of_getElem? (i := 4) rfl)) rfl
theorem q_599 : (Cond.code yX6_remember cX6_remember 4 none) ∈ lwG := mG (ic_3_18 _ (List.mem_of_getElem? (i := 5) rfl)) rfl
theorem q_600 : (Cond.methodLink RX6 102 yX6_putBack) ∈ lwG := mG (ic_3_18 _ (List.mem_of_getElem? (i := 6) rfl)) rfl
theorem q_601 : (Cond.instanceMethod yX6_putBack) ∈ lwG := mG (ic_3_18 _ (List.mem_of_getElem? (i := 8) rfl)) rfl
theorem q_602 : (Cond.code yX6_putBack cX6_putBack 2 none) ∈ lwG := mG (ic_3_18 _ (List.mem_of_getElem? (i := 9) rfl)) rfl
theorem q_603 : (Cond.methodLink RL 26 yX6_end) ∈ lwG := mG (ic_3_18 _ (List.mem_of_getElem? (i := 10) rfl)) rfl
theorem q_604 : (Cond.instanceMethod yX6_end) ∈ lwG := mG (ic_3_18 _ (List.mem_of_getElem? (i := 11) rfl)) rfl
theorem q_605 : (Cond.selects RX6 yX6_end yX6_end) ∈ lwG := mG (ic_3_19 _ (List.mem_of_getElem? (i := 0) rfl)) rfl
theorem q_606 : (Cond.code yX6_end cX6_end 3 (some .int)) ∈ lwG := mG (ic_3_19 _ (List.mem_of_getElem? (i := 1) rfl)) rfl
theorem q_607 : (Cond.methodLink RX6 120 yX6_endFault) ∈ lwG := mG (ic_3_19 _ (List.mem_of_getElem? (i := 2) rfl)) rfl
theorem q_608 : (Cond.instanceMethod yX6_endFault) ∈ lwG := mG (ic_3_19 _ (List.mem_of_getElem? (i := 4) rfl)) rfl
theorem q_609 : (Cond.code yX6_endFault cX6_endFault 2 (some .int)) ∈ lwG := mG (ic_3_19 _ (List.mem_of_getElem? (i := 5) rfl)) rfl
theorem q_610 : (Cond.methodLink RX6 105 yX6_placeOf) ∈ lwG := mG (ic_3_19 _ (List.mem_of_getElem? (i := 6) rfl)) rfl
theorem q_611 : (Cond.instanceMethod yX6_placeOf) ∈ lwG := mG (ic_3_19 _ (List.mem_of_getElem? (i := 8) rfl)) rfl
theorem q_612 : (Cond.code yX6_placeOf cX6_placeOf 3 (some .int)) ∈ lwG := mG (ic_3_19 _ (List.mem_of_getElem? (i := 9) rfl)) rfl
theorem q_613 : (Cond.methodLink RX6 123 yX6_ends) ∈ lwG := mG (ic_3_19 _ (List.mem_of_getElem? (i := 10) rfl)) rfl
theorem q_614 : (Cond.instanceMethod yX6_ends) ∈ lwG := mG (ic_4_0 _ (List.mem_of_getElem? (i := 0) rfl)) rfl
theorem q_615 : (Cond.code yX6_ends cX6_ends 5 (some .int)) ∈ lwG := mG (ic_4_0 _ (List.mem_of_getElem? (i := 1) rfl)) rfl
theorem q_616 : (Cond.methodLink RL 30 yX6_tick) ∈ lwG := mG (ic_4_0 _ (List.mem_of_getElem? (i := 2) rfl)) rfl
theorem q_617 : (Cond.instanceMethod yX6_tick) ∈ lwG := mG (ic_4_0 _ (List.mem_of_getElem? (i := 3) rfl)) rfl
theorem q_618 : (Cond.selects RX6 yX6_tick yX6_tick) ∈ lwG := mG (ic_4_0 _ (List.mem_of_getElem? (i := 4) rfl)) rfl
theorem q_619 : (Cond.code yX6_tick cX6_tick 2 (some .int)) ∈ lwG := mG (ic_4_0 _ (List.mem_of_getElem? (i := 5) rfl)) rfl
theorem q_620 : (Cond.methodLink RX6 126 yX6_ticks) ∈ lwG := mG (ic_4_0 _ (List.mem_of_getElem? (i := 6) rfl)) rfl
theorem q_621 : (Cond.instanceMethod yX6_ticks) ∈ lwG := mG (ic_4_0 _ (List.mem_of_getElem? (i := 8) rfl)) rfl
theorem q_622 : (Cond.code yX6_ticks cX6_ticks 5 (some .int)) ∈ lwG := mG (ic_4_0 _ (List.mem_of_getElem? (i := 9) rfl)) rfl
theorem q_623 : (Cond.methodLink RL 34 yX6_set) ∈ lwG := mG (ic_4_0 _ (List.mem_of_getElem? (i := 10) rfl)) rfl
theorem q_624 : (Cond.instanceMethod yX6_set) ∈ lwG := mG (ic_4_0 _ (List.mem_of_getElem? (i := 11) rfl)) rfl
theorem q_625 : (Cond.selects RX6 yX6_set yX6_set) ∈ lwG := mG (ic_4_1 _ (List.mem_of_getElem? (i := 0) rfl)) rfl
theorem q_626 : (Cond.code yX6_set cX6_set 6 (some .int)) ∈ lwG := mG (ic_4_1 _ (List.mem_of_getElem? (i := 1) rfl)) rfl
theorem q_627 : (Cond.methodLink RL 38 yX6_tableOf) ∈ lwG := mG (ic_4_1 _ (List.mem_of_getElem? (i := 2) rfl)) rfl
theorem q_628 : (Cond.instanceMethod yX6_tableOf) ∈ lwG := mG (ic_4_1 _ (List.mem_of_getElem? (i := 3) rfl)) rfl
theorem q_629 : (Cond.selects RX6 yX6_tableOf yX6_tableOf) ∈ lwG := mG (ic_4_1 _ (List.mem_of_getElem? (i := 4) rfl)) rfl
theorem q_630 : (Cond.code yX6_tableOf cX6_tableOf 3 (some .int)) ∈ lwG := mG (ic_4_1 _ (List.mem_of_getElem? (i := 5) rfl)) rfl
theorem q_631 : (Cond.methodLink RX6 129 yX6_leastVersion) ∈ lwG := mG (ic_4_1 _ (List.mem_of_getElem? (i := 6) rfl)) rfl
theorem q_632 : (Cond.instanceMethod yX6_leastVersion) ∈ lwG := mG (ic_4_1 _ (List.mem_of_getElem? (i := 8) rfl)) rfl
theorem q_633 : (Cond.code yX6_leastVersion cX6_leastVersion 6 (some .int)) ∈ lwG := mG (ic_4_1 _ (List.mem_of_getElem? (i := 9) rfl)) rfl
theorem q_634 : (Cond.methodLink RX6 132 yX6_hands) ∈ lwG := mG (ic_4_1 _ (List.mem_of_getElem? (i := 10) rfl)) rfl
theorem q_635 : (Cond.instanceMethod yX6_hands) ∈ lwG := mG (ic_4_2 _ (List.mem_of_getElem? (i := 0) rfl)) rfl
theorem q_636 : (Cond.code yX6_hands cX6_hands 4 (some .int)) ∈ lwG := mG (ic_4_2 _ (List.mem_of_getElem? (i := 1) rfl)) rfl
theorem q_637 : (Cond.methodLink RL 42 yX6_sessionOf) ∈ lwG := mG (ic_4_2 _ (List.mem_of_getElem? (i := 2) rfl)) rfl
theorem q_638 : (Cond.instanceMethod yX6_sessionOf) ∈ lwG := mG (ic_4_2 _ (List.mem_of_getElem? (i := 3) rfl)) rfl
theorem q_639 : (Cond.selects RX6 yX6_sessionOf yX6_sessionOf) ∈ lwG := mG (ic_4_2 _ (List.mem_of_getElem? (i := 4) rfl)) rfl
theorem q_640 : (Cond.code yX6_sessionOf cX6_sessionOf 3 (some .int)) ∈ lwG := mG (ic_4_2 _ (List.mem_of_getElem? (i := 5) rfl)) rfl
theorem q_641 : (Cond.methodLink RX6 135 yX6_onWay) ∈ lwG := mG (ic_4_2 _ (List.mem_of_getElem? (i := 6) rfl)) rfl
theorem q_642 : (Cond.instanceMethod yX6_onWay) ∈ lwG := mG (ic_4_2 _ (List.mem_of_getElem? (i := 8) rfl)) rfl
theorem q_643 : (Cond.code yX6_onWay cX6_onWay 3 (some .int)) ∈ lwG := mG (ic_4_2 _ (List.mem_of_getElem? (i := 9) rfl)) rfl
theorem q_644 : (Cond.methodLink RX6 139 yX6_stale) ∈ lwG := mG (ic_4_2 _ (List.mem_of_getElem? (i := 10) rfl)) rfl
theorem q_645 : (Cond.instanceMethod yX6_stale) ∈ lwG := mG (ic_4_3 _ (List.mem_of_getElem? (i := 0) rfl)) rfl
theorem q_646 : (Cond.code yX6_stale cX6_stale 4 (some .int)) ∈ lwG := mG (ic_4_3 _ (List.mem_of_getElem? (i := 1) rfl)) rfl
theorem q_647 : (Cond.methodLink RL 47 yX6_entry) ∈ lwG := mG (ic_4_3 _ (List.mem_of_getElem? (i := 2) rfl)) rfl
theorem q_648 : (Cond.instanceMethod yX6_entry) ∈ lwG := mG (ic_4_3 _ (List.mem_of_getElem? (i := 3) rfl)) rfl
theorem q_649 : (Cond.selects RX6 yX6_entry yX6_entry) ∈ lwG := mG (ic_4_3 _ (List.mem_of_getElem? (i := 4) rfl)) rfl
theorem q_650 : (Cond.code yX6_entry cX6_entry 4 (some .int)) ∈ lwG := mG (ic_4_3 _ (List.mem_of_getElem? (i := 5) rfl)) rfl
theorem q_651 : (Cond.methodLink RL 51 yX6_statement) ∈ lwG := mG (ic_4_3 _ (List.mem_of_getElem? (i := 6) rfl)) rfl
theorem q_652 : (Cond.instanceMethod yX6_statement) ∈ lwG := mG (ic_4_3 _ (List.mem_of_getElem? (i := 7) rfl)) rfl
theorem q_653 : (Cond.selects RX6 yX6_statement yX6_statement) ∈ lwG := mG (ic_4_3 _ (List.mem_of_getElem? (i := 8) rfl)) rfl
theorem q_654 : (Cond.code yX6_statement cX6_statement 4 (some .int)) ∈ lwG := mG (ic_4_3 _ (List.mem_of_getElem? (i := 9) rfl)) rfl
theorem q_655 : (Cond.methodLink RX6 142 yX6_older) ∈ lwG := mG (ic_4_3 _ (List.mem_of_getElem? (i := 10) rfl)) rfl
theorem q_656 : (Cond.instanceMethod yX6_older) ∈ lwG := mG (ic_4_4 _ (List.mem_of_getElem? (i := 0) rfl)) rfl
theorem q_657 : (Cond.code yX6_older cX6_older 5 (some .int)) ∈ lwG := mG (ic_4_4 _ (List.mem_of_getElem? (i := 1) rfl)) rfl
theorem q_658 : (Cond.methodLink RL 55 yX6_notice) ∈ lwG := mG (ic_4_4 _ (List.mem_of_getElem? (i := 2) rfl)) rfl
theorem q_659 : (Cond.instanceMethod yX6_notice) ∈ lwG := mG (ic_4_4 _ (List.mem_of_getElem? (i := 3) rfl)) rfl
theorem q_660 : (Cond.selects RX6 yX6_notice yX6_notice) ∈ lwG := mG (ic_4_4 _ (List.mem_of_getElem? (i := 4) rfl)) rfl
theorem q_661 : (Cond.code yX6_notice cX6_notice 2 (some .int)) ∈ lwG := mG (ic_4_4 _ (List.mem_of_getElem? (i := 5) rfl)) rfl
theorem q_662 : (Cond.methodLink RL 59 yX6_count) ∈ lwG := mG (ic_4_4 _ (List.mem_of_getElem? (i := 6) rfl)) rfl
theorem q_663 : (Cond.instanceMethod yX6_count) ∈ lwG := mG (ic_4_4 _ (List.mem_of_getElem? (i := 7) rfl)) rfl
theorem q_664 : (Cond.selects RX6 yX6_count yX6_count) ∈ lwG := mG (ic_4_4 _ (List.mem_of_getElem? (i := 8) rfl)) rfl
theorem q_665 : (Cond.code yX6_count cX6_count 2 (some .int)) ∈ lwG := mG (ic_4_4 _ (List.mem_of_getElem? (i := 9) rfl)) rfl
theorem q_666 : (Cond.methodLink RX6 152 yX6_canChange) ∈ lwG := mG (ic_4_4 _ (List.mem_of_getElem? (i := 10) rfl)) rfl
theorem q_667 : (Cond.instanceMethod yX6_canChange) ∈ lwG := mG (ic_4_5 _ (List.mem_of_getElem? (i := 0) rfl)) rfl
theorem q_668 : (Cond.code yX6_canChange cX6_canChange 3 (some .int)) ∈ lwG := mG (ic_4_5 _ (List.mem_of_getElem? (i := 1) rfl)) rfl
theorem q_669 : (Cond.methodLink RX6 155 yX6_allLoads) ∈ lwG := mG (ic_4_5 _ (List.mem_of_getElem? (i := 2) rfl)) rfl
theorem q_670 : (Cond.instanceMethod yX6_allLoads) ∈ lwG := mG (ic_4_5 _ (List.mem_of_getElem? (i := 4) rfl)) rfl
theorem q_671 : (Cond.code yX6_allLoads cX6_allLoads 3 (some .int)) ∈ lwG := mG (ic_4_5 _ (List.mem_of_getElem? (i := 5) rfl)) rfl
theorem q_672 : (Cond.methodLink RL 63 yX6_would) ∈ lwG := mG (ic_4_5 _ (List.mem_of_getElem? (i := 6) rfl)) rfl
theorem q_673 : (Cond.instanceMethod yX6_would) ∈ lwG := mG (ic_4_5 _ (List.mem_of_getElem? (i := 7) rfl)) rfl
theorem q_674 : (Cond.selects RX6 yX6_would yX6_would) ∈ lwG := mG (ic_4_5 _ (List.mem_of_getElem? (i := 8) rfl)) rfl
theorem q_675 : (Cond.code yX6_would cX6_would 7 (some .int)) ∈ lwG := mG (ic_4_5 _ (List.mem_of_getElem? (i := 9) rfl)) rfl
theorem q_676 : (Cond.methodLink RL 67 yX6_inTheWay) ∈ lwG := mG (ic_4_5 _ (List.mem_of_getElem? (i := 10) rfl)) rfl
theorem q_677 : (Cond.instanceMethod yX6_inTheWay) ∈ lwG := mG (ic_4_5 _ (List.mem_of_getElem? (i := 11) rfl)) rfl
theorem q_678 : (Cond.selects RX6 yX6_inTheWay yX6_inTheWay) ∈ lwG := mG (ic_4_6 _ (List.mem_of_getElem? (i := 0) rfl)) rfl
theorem q_679 : (Cond.code yX6_inTheWay cX6_inTheWay 2 (some .int)) ∈ lwG := mG (ic_4_6 _ (List.mem_of_getElem? (i := 1) rfl)) rfl
theorem q_680 : (Cond.methodLink RL 71 yX6_bestRoom) ∈ lwG := mG (ic_4_6 _ (List.mem_of_getElem? (i := 2) rfl)) rfl
theorem q_681 : (Cond.instanceMethod yX6_bestRoom) ∈ lwG := mG (ic_4_6 _ (List.mem_of_getElem? (i := 3) rfl)) rfl
theorem q_682 : (Cond.selects RX6 yX6_bestRoom yX6_bestRoom) ∈ lwG := mG (ic_4_6 _ (List.mem_of_getElem? (i := 4) rfl)) rfl
theorem q_683 : (Cond.code yX6_bestRoom cX6_bestRoom 7 (some .int)) ∈ lwG := mG (ic_4_6 _ (List.mem_of_getElem? (i := 5) rfl)) rfl
theorem q_684 : (Cond.methodLink RX6 162 yX6_loadsBy) ∈ lwG := mG (ic_4_6 _ (List.mem_of_getElem? (i := 6) rfl)) rfl
theorem q_685 : (Cond.instanceMethod yX6_loadsBy) ∈ lwG := mG (ic_4_6 _ (List.mem_of_getElem? (i := 8) rfl)) rfl
theorem q_686 : (Cond.code yX6_loadsBy cX6_loadsBy 6 (some .int)) ∈ lwG := mG (ic_4_6 _ (List.mem_of_getElem? (i := 9) rfl)) rfl
theorem q_687 : (Cond.methodLink RX6 158 yX6_use) ∈ lwG := mG (ic_4_6 _ (List.mem_of_getElem? (i := 10) rfl)) rfl
theorem q_688 : (Cond.instanceMethod yX6_use) ∈ lwG := mG (ic_4_7 _ (List.mem_of_getElem? (i := 0) rfl)) rfl
theorem q_689 : (Cond.code yX6_use cX6_use 10 (some .int)) ∈ lwG := mG (ic_4_7 _ (List.mem_of_getElem? (i := 1) rfl)) rfl
theorem q_690 : (Cond.methodLink RL 76 yX6_keep) ∈ lwG := mG (ic_4_7 _ (List.mem_of_getElem? (i := 2) rfl)) rfl
theorem q_691 : (Cond.instanceMethod yX6_keep) ∈ lwG := mG (ic_4_7 _ (List.mem_of_getElem? (i := 3) rfl)) rfl
theorem q_692 : (Cond.selects RX6 yX6_keep yX6_keep) ∈ lwG := mG (ic_4_7 _ (List.mem_of_getElem? (i := 4) rfl)) rfl
theorem q_693 : (Cond.code yX6_keep cX6_keep 2 (some .int)) ∈ lwG := mG (ic_4_7 _ (List.mem_of_getElem? (i := 5) rfl)) rfl
theorem q_694 : (Cond.methodLink RL 80 yX6_restore) ∈ lwG := mG (ic_4_7 _ (List.mem_of_getElem? (i := 6) rfl)) rfl
theorem q_695 : (Cond.instanceMethod yX6_restore) ∈ lwG := mG (ic_4_7 _ (List.mem_of_getElem? (i := 7) rfl)) rfl
theorem q_696 : (Cond.selects RX6 yX6_restore yX6_restore) ∈ lwG := mG (ic_4_7 _ (List.mem_of_getElem? (i := 8) rfl)) rfl
theorem q_697 : (Cond.code yX6_restore cX6_restore 2 (some .int)) ∈ lwG := mG (ic_4_7 _ (List.mem_of_getElem? (i := 9) rfl)) rfl
theorem q_698 : (Cond.methodLink RL 84 yX6_undo) ∈ lwG := mG (ic_4_7 _ (List.mem_of_getElem? (i := 10) rfl)) rfl
theorem q_699 : (Cond.instanceMethod yX6_undo) ∈ lwG := mG (ic_4_7 _ (List.mem_of_getElem? (i := 11) rfl)) rfl
theorem q_700 : (Cond.selects RX6 yX6_undo yX6_undo) ∈ lwG := mG (ic_4_8 _ (List.mem_of_getElem? (i := 0) rfl)) rfl
theorem q_701 : (Cond.code yX6_undo cX6_undo 2 (some .int)) ∈ lwG := mG (ic_4_8 _ (List.mem_of_getElem? (i := 1) rfl)) rfl
theorem q_702 : (Cond.methodLink RL 88 yX6_type) ∈ lwG := mG (ic_4_8 _ (List.mem_of_getElem? (i := 2) rfl)) rfl
theorem q_703 : (Cond.instanceMethod yX6_type) ∈ lwG := mG (ic_4_8 _ (List.mem_of_getElem? (i := 3) rfl)) rfl
theorem q_704 : (Cond.selects RX6 yX6_type yX6_type) ∈ lwG := mG (ic_4_8 _ (List.mem_of_getElem? (i := 4) rfl)) rfl
theorem q_705 : (Cond.code yX6_type cX6_type 2 (some .int)) ∈ lwG := mG (ic_4_8 _ (List.mem_of_getElem? (i := 5) rfl)) rfl
theorem q_706 : (Cond.methodLink RL 92 yX6_clearText) ∈ lwG := mG (ic_4_8 _ (List.mem_of_getElem? (i := 6) rfl)) rfl
theorem q_707 : (Cond.instanceMethod yX6_clearText) ∈ lwG := mG (ic_4_8 _ (List.mem_of_getElem? (i := 7) rfl)) rfl
theorem q_708 : (Cond.selects RX6 yX6_clearText yX6_clearText) ∈ lwG := mG (ic_4_8 _ (List.mem_of_getElem? (i := 8) rfl)) rfl
theorem q_709 : (Cond.code yX6_clearText cX6_clearText 2 (some .int)) ∈ lwG := mG (ic_4_8 _ (List.mem_of_getElem? (i := 9) rfl)) rfl
theorem q_710 : (Cond.methodLink RL 96 yX6_fault) ∈ lwG := mG (ic_4_8 _ (List.mem_of_getElem? (i := 10) rfl)) rfl
theorem q_711 : (Cond.instanceMethod yX6_fault) ∈ lwG := mG (ic_4_8 _ (List.mem_of_getElem? (i := 11) rfl)) rfl
theorem q_712 : (Cond.selects RX6 yX6_fault yX6_fault) ∈ lwG := mG (ic_4_9 _ (List.mem_of_getElem? (i := 0) rfl)) rfl
theorem q_713 : (Cond.code yX6_fault cX6_fault 2 (some .int)) ∈ lwG := mG (ic_4_9 _ (List.mem_of_getElem? (i := 1) rfl)) rfl
theorem q_714 : (Cond.methodLink RX6 204 yX6_look) ∈ lwG := mG (ic_4_9 _ (List.mem_of_getElem? (i := 2) rfl)) rfl
theorem q_715 : (Cond.instanceMethod yX6_look) ∈ lwG := mG (ic_4_9 _ (List.mem_of_getElem? (i := 4) rfl)) rfl
theorem q_716 : (Cond.code yX6_look cX6_look 2 none) ∈ lwG := mG (ic_4_9 _ (List.mem_of_getElem? (i := 5) rfl)) rfl
theorem q_717 : (Cond.methodLink RX6 201 yX6_go) ∈ lwG := mG (ic_4_9 _ (List.mem_of_getElem? (i := 6) rfl)) rfl
theorem q_718 : (Cond.instanceMethod yX6_go) ∈ lwG := mG (ic_4_9 _ (List.mem_of_getElem? (i := 8) rfl)) rfl
theorem q_719 : (Cond.code yX6_go cX6_go 2 (some .int)) ∈ lwG := mG (ic_4_9 _ (List.mem_of_getElem? (i := 9) rfl)) rfl
theorem q_720 : (Cond.methodLink RX6 192 yX6_read) ∈ lwG := mG (ic_4_9 _ (List.mem_of_getElem? (i := 10) rfl)) rfl
theorem q_721 : (Cond.instanceMethod yX6_read) ∈ lwG := mG (ic_4_10 _ (List.mem_of_getElem? (i := 0) rfl)) rfl
theorem q_722 : (Cond.code yX6_read cX6_read 5 none) ∈ lwG := mG (ic_4_10 _ (List.mem_of_getElem? (i := 1) rfl)) rfl
theorem q_723 : (Cond.methodLink RX6 177 yX6_number) ∈ lwG := mG (ic_4_10 _ (List.mem_of_getElem? (i := 2) rfl)) rfl
theorem q_724 : (Cond.instanceMethod yX6_number) ∈ lwG := mG (ic_4_10 _ (List.mem_of_getElem? (i := 4) rfl)) rfl
theorem q_725 : (Cond.code yX6_number cX6_number 3 (some .int)) ∈ lwG := mG (ic_4_10 _ (List.mem_of_getElem? (i := 5) rfl)) rfl
theorem q_726 : (Cond.methodLink RX6 171 yX6_sign) ∈ lwG := mG (ic_4_10 _ (List.mem_of_getElem? (i := 6) rfl)) rfl
theorem q_727 : (Cond.instanceMethod yX6_sign) ∈ lwG := mG (ic_4_10 _ (List.mem_of_getElem? (i := 8) rfl)) rfl
theorem q_728 : (Cond.code yX6_sign cX6_sign 4 (some .int)) ∈ lwG := mG (ic_4_10 _ (List.mem_of_getElem? (i := 9) rfl)) rfl
theorem q_729 : (Cond.methodLink RX6 195 yX6_does) ∈ lwG := mG (ic_4_10 _ (List.mem_of_getElem? (i := 10) rfl)) rfl
theorem q_730 : (Cond.instanceMethod yX6_does) ∈ lwG := mG (ic_4_11 _ (List.mem_of_getElem? (i := 0) rfl)) rfl
theorem q_731 : (Cond.code yX6_does cX6_does 3 (some .int)) ∈ lwG := mG (ic_4_11 _ (List.mem_of_getElem? (i := 1) rfl)) rfl
theorem q_732 : (Cond.methodLink RL 100 yX6_play) ∈ lwG := mG (ic_4_11 _ (List.mem_of_getElem? (i := 2) rfl)) rfl
theorem q_733 : (Cond.instanceMethod yX6_play) ∈ lwG := mG (ic_4_11 _ (List.mem_of_getElem? (i := 3) rfl)) rfl
theorem q_734 : (Cond.selects RX6 yX6_play yX6_play) ∈ lwG := mG (ic_4_11 _ (List.mem_of_getElem? (i := 4) rfl)) rfl
theorem q_735 : (Cond.code yX6_play cX6_play 1 (some .int)) ∈ lwG := mG (ic_4_11 _ (List.mem_of_getElem? (i := 5) rfl)) rfl
theorem ip_1 : ∀ q ∈ lw_privs_1, (Cond.selects q.1.cls q.1 q.1) ∈ lw_tbl := fun q h => List.mem_append_left _ (List.mem_map.mpr ⟨q, List.mem_append_left _ h, rfl⟩)
theorem ip_2 : ∀ q ∈ lw_privs_2, (Cond.selects q.1.cls q.1 q.1) ∈ lw_tbl := fun q h => List.mem_append_left _ (List.mem_map.mpr ⟨q, List.mem_append_right _ (List.mem_append_left _ h), rfl⟩)
theorem ip_3 : ∀ q ∈ lw_privs_3, (Cond.selects q.1.cls q.1 q.1) ∈ lw_tbl := fun q h => List.mem_append_left _ (List.mem_map.mpr ⟨q, List.mem_append_right _ (List.mem_append_right _ (List.mem_append_left _ h)), rfl⟩)
theorem ip_4 : ∀ q ∈ lw_privs_4, (Cond.selects q.1.cls q.1 q.1) ∈ lw_tbl := fun q h => List.mem_append_left _ (List.mem_map.mpr ⟨q, List.mem_append_right _ (List.mem_append_right _ (List.mem_append_right _ (h))), rfl⟩)
theorem q_736 : (Cond.selects RX2 yX2_arrive yX2_arrive) ∈ lwG := mG (ip_1 (yX2_arrive, 12) (List.mem_of_getElem? (i := 0) rfl)) rfl
theorem q_737 : (Cond.selects RX1 yX1_takeOut yX1_takeOut) ∈ lwG := mG (ip_1 (yX1_takeOut, 9) (List.mem_of_getElem? (i := 1) rfl)) rfl
theorem q_738 : (Cond.selects RX5 yX5_settle yX5_settle) ∈ lwG := mG (ip_1 (yX5_settle, 10) (List.mem_of_getElem? (i := 2) rfl)) rfl
theorem q_739 : (Cond.selects RX5 yX5_record yX5_record) ∈ lwG := mG (ip_1 (yX5_record, 10) (List.mem_of_getElem? (i := 3) rfl)) rfl
theorem q_740 : (Cond.selects RX1 yX1_workWithNumber yX1_workWithNumber) ∈ lwG := mG (ip_1 (yX1_workWithNumber, 9) (List.mem_of_getElem? (i := 4) rfl)) rfl
theorem q_741 : (Cond.selects RX1 yX1_longestUnused yX1_longestUnused) ∈ lwG := mG (ip_1 (yX1_longestUnused, 9) (List.mem_of_getElem? (i := 5) rfl)) rfl
theorem q_742 : (Cond.selects RX1 yX1_putIn yX1_putIn) ∈ lwG := mG (ip_1 (yX1_putIn, 9) (List.mem_of_getElem? (i := 6) rfl)) rfl
theorem q_743 : (Cond.selects RX5 yX5_loadsWithRoom yX5_loadsWithRoom) ∈ lwG := mG (ip_1 (yX5_loadsWithRoom, 10) (List.mem_of_getElem? (i := 7) rfl)) rfl
theorem q_744 : (Cond.selects RX5 yX5_doCommands yX5_doCommands) ∈ lwG := mG (ip_1 (yX5_doCommands, 10) (List.mem_of_getElem? (i := 8) rfl)) rfl
theorem q_745 : (Cond.selects RX3 yX3_signAt yX3_signAt) ∈ lwG := mG (ip_1 (yX3_signAt, 6) (List.mem_of_getElem? (i := 9) rfl)) rfl
theorem q_746 : (Cond.selects RX3 yX3_readNumber yX3_readNumber) ∈ lwG := mG (ip_1 (yX3_readNumber, 6) (List.mem_of_getElem? (i := 10) rfl)) rfl
theorem q_747 : (Cond.selects RX5 yX5_noteFault yX5_noteFault) ∈ lwG := mG (ip_1 (yX5_noteFault, 10) (List.mem_of_getElem? (i := 11) rfl)) rfl
theorem q_748 : (Cond.selects RX6 yX6_alterFault yX6_alterFault) ∈ lwG := mG (ip_1 (yX6_alterFault, 19) (List.mem_of_getElem? (i := 12) rfl)) rfl
theorem q_749 : (Cond.selects RX6 yX6_inWay yX6_inWay) ∈ lwG := mG (ip_1 (yX6_inWay, 19) (List.mem_of_getElem? (i := 13) rfl)) rfl
theorem q_750 : (Cond.selects RX6 yX6_know yX6_know) ∈ lwG := mG (ip_1 (yX6_know, 19) (List.mem_of_getElem? (i := 14) rfl)) rfl
theorem q_751 : (Cond.selects RX6 yX6_alters yX6_alters) ∈ lwG := mG (ip_1 (yX6_alters, 19) (List.mem_of_getElem? (i := 15) rfl)) rfl
theorem q_752 : (Cond.selects RX6 yX6_come yX6_come) ∈ lwG := mG (ip_2 (yX6_come, 19) (List.mem_of_getElem? (i := 0) rfl)) rfl
theorem q_753 : (Cond.selects RX6 yX6_learn yX6_learn) ∈ lwG := mG (ip_2 (yX6_learn, 19) (List.mem_of_getElem? (i := 1) rfl)) rfl
theorem q_754 : (Cond.selects RX6 yX6_clean yX6_clean) ∈ lwG := mG (ip_2 (yX6_clean, 19) (List.mem_of_getElem? (i := 2) rfl)) rfl
theorem q_755 : (Cond.selects RX6 yX6_remove yX6_remove) ∈ lwG := mG (ip_2 (yX6_remove, 19) (List.mem_of_getElem? (i := 3) rfl)) rfl
theorem q_756 : (Cond.selects RX6 yX6_startFault yX6_startFault) ∈ lwG := mG (ip_2 (yX6_startFault, 19) (List.mem_of_getElem? (i := 4) rfl)) rfl
theorem q_757 : (Cond.selects RX6 yX6_putAside yX6_putAside) ∈ lwG := mG (ip_2 (yX6_putAside, 19) (List.mem_of_getElem? (i := 5) rfl)) rfl
theorem q_758 : (Cond.selects RX6 yX6_starts yX6_starts) ∈ lwG := mG (ip_2 (yX6_starts, 19) (List.mem_of_getElem? (i := 6) rfl)) rfl
theorem q_759 : (Cond.selects RX6 yX6_opensOf yX6_opensOf) ∈ lwG := mG (ip_2 (yX6_opensOf, 19) (List.mem_of_getElem? (i := 7) rfl)) rfl
theorem q_760 : (Cond.selects RX6 yX6_entryOf yX6_entryOf) ∈ lwG := mG (ip_2 (yX6_entryOf, 19) (List.mem_of_getElem? (i := 8) rfl)) rfl
theorem q_761 : (Cond.selects RX6 yX6_shrink yX6_shrink) ∈ lwG := mG (ip_2 (yX6_shrink, 19) (List.mem_of_getElem? (i := 9) rfl)) rfl
theorem q_762 : (Cond.selects RX6 yX6_oldest yX6_oldest) ∈ lwG := mG (ip_2 (yX6_oldest, 19) (List.mem_of_getElem? (i := 10) rfl)) rfl
theorem q_763 : (Cond.selects RX6 yX6_load yX6_load) ∈ lwG := mG (ip_2 (yX6_load, 19) (List.mem_of_getElem? (i := 11) rfl)) rfl
theorem q_764 : (Cond.selects RX6 yX6_remember yX6_remember) ∈ lwG := mG (ip_2 (yX6_remember, 19) (List.mem_of_getElem? (i := 12) rfl)) rfl
theorem q_765 : (Cond.selects RX6 yX6_putBack yX6_putBack) ∈ lwG := mG (ip_2 (yX6_putBack, 19) (List.mem_of_getElem? (i := 13) rfl)) rfl
theorem q_766 : (Cond.selects RX6 yX6_endFault yX6_endFault) ∈ lwG := mG (ip_2 (yX6_endFault, 19) (List.mem_of_getElem? (i := 14) rfl)) rfl
theorem q_767 : (Cond.selects RX6 yX6_placeOf yX6_placeOf) ∈ lwG := mG (ip_2 (yX6_placeOf, 19) (List.mem_of_getElem? (i := 15) rfl)) rfl
theorem q_768 : (Cond.selects RX6 yX6_ends yX6_ends) ∈ lwG := mG (ip_3 (yX6_ends, 19) (List.mem_of_getElem? (i := 0) rfl)) rfl
theorem q_769 : (Cond.selects RX6 yX6_ticks yX6_ticks) ∈ lwG := mG (ip_3 (yX6_ticks, 19) (List.mem_of_getElem? (i := 1) rfl)) rfl
theorem q_770 : (Cond.selects RX6 yX6_leastVersion yX6_leastVersion) ∈ lwG := mG (ip_3 (yX6_leastVersion, 19) (List.mem_of_getElem? (i := 2) rfl)) rfl
theorem q_771 : (Cond.selects RX6 yX6_hands yX6_hands) ∈ lwG := mG (ip_3 (yX6_hands, 19) (List.mem_of_getElem? (i := 3) rfl)) rfl
theorem q_772 : (Cond.selects RX6 yX6_onWay yX6_onWay) ∈ lwG := mG (ip_3 (yX6_onWay, 19) (List.mem_of_getElem? (i := 4) rfl)) rfl
theorem q_773 : (Cond.selects RX6 yX6_stale yX6_stale) ∈ lwG := mG (ip_3 (yX6_stale, 19) (List.mem_of_getElem? (i := 5) rfl)) rfl
theorem q_774 : (Cond.selects RX6 yX6_older yX6_older) ∈ lwG := mG (ip_3 (yX6_older, 19) (List.mem_of_getElem? (i := 6) rfl)) rfl
theorem q_775 : (Cond.selects RX6 yX6_canChange yX6_canChange) ∈ lwG := mG (ip_3 (yX6_canChange, 19) (List.mem_of_getElem? (i := 7) rfl)) rfl
theorem q_776 : (Cond.selects RX6 yX6_allLoads yX6_allLoads) ∈ lwG := mG (ip_3 (yX6_allLoads, 19) (List.mem_of_getElem? (i := 8) rfl)) rfl
theorem q_777 : (Cond.selects RX6 yX6_loadsBy yX6_loadsBy) ∈ lwG := mG (ip_3 (yX6_loadsBy, 19) (List.mem_of_getElem? (i := 9) rfl)) rfl
theorem q_778 : (Cond.selects RX6 yX6_use yX6_use) ∈ lwG := mG (ip_3 (yX6_use, 19) (List.mem_of_getElem? (i := 10) rfl)) rfl
theorem q_779 : (Cond.selects RX6 yX6_look yX6_look) ∈ lwG := mG (ip_3 (yX6_look, 19) (List.mem_of_getElem? (i := 11) rfl)) rfl
theorem q_780 : (Cond.selects RX6 yX6_go yX6_go) ∈ lwG := mG (ip_3 (yX6_go, 19) (List.mem_of_getElem? (i := 12) rfl)) rfl
theorem q_781 : (Cond.selects RX6 yX6_read yX6_read) ∈ lwG := mG (ip_3 (yX6_read, 19) (List.mem_of_getElem? (i := 13) rfl)) rfl
theorem q_782 : (Cond.selects RX6 yX6_number yX6_number) ∈ lwG := mG (ip_3 (yX6_number, 19) (List.mem_of_getElem? (i := 14) rfl)) rfl
theorem q_783 : (Cond.selects RX6 yX6_sign yX6_sign) ∈ lwG := mG (ip_3 (yX6_sign, 19) (List.mem_of_getElem? (i := 15) rfl)) rfl
theorem q_784 : (Cond.selects RX6 yX6_does yX6_does) ∈ lwG := mG (ip_4 (yX6_does, 19) (List.mem_of_getElem? (i := 0) rfl)) rfl
theorem inG0 : ∀ w ∈ wsX00, w ∈ lwG := List.forall_mem_cons.mpr ⟨q_57, List.forall_mem_cons.mpr ⟨q_58, List.forall_mem_cons.mpr ⟨q_59, List.forall_mem_cons.mpr ⟨q_60, List.forall_mem_cons.mpr ⟨q_61, List.forall_mem_cons.mpr ⟨q_62, fun _ h => absurd h List.not_mem_nil⟩⟩⟩⟩⟩⟩
theorem inG1 : ∀ w ∈ wsX10, w ∈ lwG := List.forall_mem_cons.mpr ⟨q_108, List.forall_mem_cons.mpr ⟨q_109, List.forall_mem_cons.mpr ⟨q_110, List.forall_mem_cons.mpr ⟨q_111, List.forall_mem_cons.mpr ⟨q_112, List.forall_mem_cons.mpr ⟨q_113, List.forall_mem_cons.mpr ⟨q_114, List.forall_mem_cons.mpr ⟨q_115, List.forall_mem_cons.mpr ⟨q_116, fun _ h => absurd h List.not_mem_nil⟩⟩⟩⟩⟩⟩⟩⟩⟩
theorem inG2 : ∀ w ∈ wsX20, w ∈ lwG := List.forall_mem_cons.mpr ⟨q_140, List.forall_mem_cons.mpr ⟨q_141, List.forall_mem_cons.mpr ⟨q_142, List.forall_mem_cons.mpr ⟨q_143, List.forall_mem_cons.mpr ⟨q_144, List.forall_mem_cons.mpr ⟨q_145, List.forall_mem_cons.mpr ⟨q_146, List.forall_mem_cons.mpr ⟨q_147, List.forall_mem_cons.mpr ⟨q_148, List.forall_mem_cons.mpr ⟨q_149, List.forall_mem_cons.mpr ⟨q_150, List.forall_mem_cons.mpr ⟨q_151, fun _ h => absurd h List.not_mem_nil⟩⟩⟩⟩⟩⟩⟩⟩⟩⟩⟩⟩
theorem inG3 : ∀ w ∈ wsX30, w ∈ lwG := List.forall_mem_cons.mpr ⟨q_179, List.forall_mem_cons.mpr ⟨q_180, List.forall_mem_cons.mpr ⟨q_181, List.forall_mem_cons.mpr ⟨q_182, List.forall_mem_cons.mpr ⟨q_183, List.forall_mem_cons.mpr ⟨q_184, fun _ h => absurd h List.not_mem_nil⟩⟩⟩⟩⟩⟩
theorem inG4 : ∀ w ∈ wsX40, w ∈ lwG := List.forall_mem_cons.mpr ⟨q_83, List.forall_mem_cons.mpr ⟨q_84, List.forall_mem_cons.mpr ⟨q_85, List.forall_mem_cons.mpr ⟨q_86, fun _ h => absurd h List.not_mem_nil⟩⟩⟩⟩
theorem inG5 : ∀ w ∈ wsX50, w ∈ lwG := List.forall_mem_cons.mpr ⟨q_195, List.forall_mem_cons.mpr ⟨q_196, List.forall_mem_cons.mpr ⟨q_197, List.forall_mem_cons.mpr ⟨q_198, List.forall_mem_cons.mpr ⟨q_199, List.forall_mem_cons.mpr ⟨q_200, List.forall_mem_cons.mpr ⟨q_201, List.forall_mem_cons.mpr ⟨q_202, List.forall_mem_cons.mpr ⟨q_203, List.forall_mem_cons.mpr ⟨q_204, fun _ h => absurd h List.not_mem_nil⟩⟩⟩⟩⟩⟩⟩⟩⟩⟩
theorem inG6 : ∀ w ∈ wsX60, w ∈ lwG := List.forall_mem_cons.mpr ⟨q_504, List.forall_mem_cons.mpr ⟨q_505, List.forall_mem_cons.mpr ⟨q_506, List.forall_mem_cons.mpr ⟨q_507, List.forall_mem_cons.mpr ⟨q_508, List.forall_mem_cons.mpr ⟨q_509, List.forall_mem_cons.mpr ⟨q_510, List.forall_mem_cons.mpr ⟨q_511, List.forall_mem_cons.mpr ⟨q_512, List.forall_mem_cons.mpr ⟨q_513, List.forall_mem_cons.mpr ⟨q_514, List.forall_mem_cons.mpr ⟨q_515, List.forall_mem_cons.mpr ⟨q_516, List.forall_mem_cons.mpr ⟨q_517, List.forall_mem_cons.mpr ⟨q_518, List.forall_mem_cons.mpr ⟨q_519, List.forall_mem_cons.mpr ⟨q_520, List.forall_mem_cons.mpr ⟨q_521, List.forall_mem_cons.mpr ⟨q_522, fun _ h => absurd h List.not_mem_nil⟩⟩⟩⟩⟩⟩⟩⟩⟩⟩⟩⟩⟩⟩⟩⟩⟩⟩⟩
/-- the words of a method: its own code, and the good ones of the tables -/
def wM (y : MethodName) (b : ByteArray) (n : Nat) (r : Option FieldType) : List Cond := .code y b n r :: lwG
theorem good_L {w : Cond} {big : List Cond} (hb : ∀ w ∈ lwG, w ∈ big) (hm : w ∈ lwG) : w ∈ big ∧ ((w.onTables && w.keeps) = true ∨ ∃ ty, w = .arrayClass ty) := ⟨hb w hm, good_of_word (List.mem_filter.mp hm).2⟩
theorem good_wM {y : MethodName} {b : ByteArray} {n : Nat} {r : Option FieldType} {big : List Cond} (hb : ∀ w ∈ lwG, w ∈ big) (h : .code y b n r ∈ lwG) : GoodIn big (wM y b n r) := by
  intro w hw
  have hm : w ∈ lwG := by
    rcases List.mem_cons.mp hw with e | e
    · rw [e]; exact h
    · exact e
  exact good_L hb hm
theorem gwV {own C : String} {idx : Nat} {y : MethodName} {b : ByteArray} {n : Nat} {r : Option FieldType} {big : List Cond} (hb : ∀ w ∈ lwG, w ∈ big) (h1 : .methodLink own idx y ∈ lwG) (h2 : .instanceMethod y ∈ lwG) (h3 : .selects C y y ∈ lwG) (h4 : .initialized C ∈ lwG) (h5 : .code y b n r ∈ lwG) : GoodIn big (wsV own idx C y (wM y b n r)) := by
  intro w hw
  rcases List.mem_append.mp hw with e | e
  · rcases List.mem_cons.mp e with e | e
    · rw [e]; exact good_L hb h1
    · rcases List.mem_cons.mp e with e | e
      · rw [e]; exact good_L hb h2
      · rcases List.mem_cons.mp e with e | e
        · rw [e]; exact good_L hb h3
        · rcases List.mem_cons.mp e with e | e
          · rw [e]; exact good_L hb h4
          · cases e
  · exact good_wM hb h5 w e
theorem gwS {own : String} {idx : Nat} {y : MethodName} {b : ByteArray} {n : Nat} {r : Option FieldType} {big : List Cond} (hb : ∀ w ∈ lwG, w ∈ big) (h1 : .methodLink own idx y ∈ lwG) (h2 : .static y ∈ lwG) (h3 : .initialized y.cls ∈ lwG) (h5 : .code y b n r ∈ lwG) : GoodIn big (va_wsS own idx y (wM y b n r)) := by
  intro w hw
  rcases List.mem_append.mp hw with e | e
  · rcases List.mem_cons.mp e with e | e
    · rw [e]; exact good_L hb h1
    · rcases List.mem_cons.mp e with e | e
      · rw [e]; exact good_L hb h2
      · rcases List.mem_cons.mp e with e | e
        · rw [e]; exact good_L hb h3
        · cases e
  · exact good_wM hb h5 w e
theorem inM {y : MethodName} {b : ByteArray} {n : Nat} {r : Option FieldType} : ∀ w ∈ lwG, w ∈ wM y b n r := fun _ h => List.mem_cons_of_mem _ h
