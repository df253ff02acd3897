/-! ===== BEGIN words of one list among another's, by their places ===== -/
theorem goodIn_r {big : List Cond} (ws : List Cond) (ps : List Nat) (hp : ws = ps.filterMap (fun i => big[i]?)) (h : ws.all goodWord = true) : GoodIn big ws := by
  intro w hw
  have h1 := List.all_eq_true.mp h w hw
  rw [hp] at hw
  obtain ⟨i, -, hi⟩ := List.mem_filterMap.mp hw
  have hm : w ∈ big := by first | exact List.mem_of_getElem? hi | exact List.getElem?_mem hi
  exact ⟨hm, good_of_word h1⟩
theorem goodIn_app {big a b : List Cond} (ha : GoodIn big a) (hb : GoodIn big b) : GoodIn big (a ++ b) := fun w h => (List.mem_append.mp h).elim (ha w) (hb w)
theorem goodIn_ca {big a b : List Cond} {c : Cond} (ha : GoodIn big (c :: a)) (hb : GoodIn big b) : GoodIn big (c :: (a ++ b)) := fun w h => (List.mem_cons.mp h).elim (fun e => ha w (List.mem_cons.mpr (Or.inl e))) (fun h => (List.mem_append.mp h).elim (fun h => ha w (List.mem_cons.mpr (Or.inr h))) (hb w))
theorem goodIn_sub {big ws : List Cond} (hm : ∀ w ∈ ws, w ∈ big) (h : ws.all goodWord = true) : GoodIn big ws := fun w hw => ⟨hm w hw, good_of_word (List.all_eq_true.mp h w hw)⟩
/-! ===== END ===== -/

/-! ===== BEGIN printed: names, fields, word lists, decode rows ===== -/
def RX0 : String := "ShapeSessions$Entry"
def TX0 : u_T := fun k => match k with
  | 0 => ("ShapeSessions$Entry", "table", "I", false)
  | 1 => ("ShapeSessions$Entry", "version", "I", false)
  | 2 => ("ShapeSessions$Entry", "shape", "I", false)
  | 3 => ("ShapeSessions$Entry", "workers", "I", false)
  | 4 => ("ShapeSessions$Entry", "lastUse", "I", false)
  | _ => ("ShapeSessions$Entry", "stale", "Z", false)
def tyX0 : Nat → FieldType := fun k => match k with
  | 0 => .int
  | 1 => .int
  | 2 => .int
  | 3 => .int
  | 4 => .int
  | _ => .boolean
abbrev wsX00 : List Cond := u_ws RX0 TX0 6
theorem nmX0 : ∀ a, a < 6 → ∀ b, b < 6 → a ≠ b → (TX0 a).2.1 ≠ (TX0 b).2.1 := by decide +kernel
theorem tyX0_ok : ∀ k, k < 6 → parseFieldDescriptor (TX0 k).2.2.1 = some (tyX0 k) := by decide +kernel
abbrev cX0_init : ByteArray := prog_2_method_1_code
def yX0_init : MethodName := ⟨RX0, "<init>", "()V"⟩
abbrev cX0_copyFrom : ByteArray := prog_2_method_2_code
def yX0_copyFrom : MethodName := ⟨RX0, "copyFrom", "(LShapeSessions$Entry;)V"⟩
abbrev cX0_comesBehind : ByteArray := prog_2_method_3_code
def yX0_comesBehind : MethodName := ⟨RX0, "comesBehind", "(II)Z"⟩
def RX1 : String := "ShapeSessions$Session"
def TX1 : u_T := fun k => match k with
  | 0 => ("ShapeSessions$Session", "known", "I", false)
  | 1 => ("ShapeSessions$Session", "hits", "I", false)
  | 2 => ("ShapeSessions$Session", "loads", "I", false)
  | 3 => ("ShapeSessions$Session", "drops", "I", false)
  | 4 => ("ShapeSessions$Session", "asksThatHelped", "I", false)
  | 5 => ("ShapeSessions$Session", "lateNotices", "I", false)
  | 6 => ("ShapeSessions$Session", "inHand", "I", false)
  | 7 => ("ShapeSessions$Session", "hand", "[LShapeSessions$Entry;", true)
  | _ => ("ShapeSessions$Session", "works", "[LShapeSessions$Work;", true)
def tyX1 : Nat → FieldType := fun k => match k with
  | 0 => .int
  | 1 => .int
  | 2 => .int
  | 3 => .int
  | 4 => .int
  | 5 => .int
  | 6 => .int
  | 7 => .array (.object "ShapeSessions$Entry")
  | _ => .array (.object "ShapeSessions$Work")
abbrev wsX10 : List Cond := u_ws RX1 TX1 9
theorem nmX1 : ∀ a, a < 9 → ∀ b, b < 9 → a ≠ b → (TX1 a).2.1 ≠ (TX1 b).2.1 := by decide +kernel
theorem tyX1_ok : ∀ k, k < 9 → parseFieldDescriptor (TX1 k).2.2.1 = some (tyX1 k) := by decide +kernel
abbrev cX1_init : ByteArray := prog_3_method_1_code
def yX1_init : MethodName := ⟨RX1, "<init>", "()V"⟩
abbrev cX1_clear : ByteArray := prog_3_method_2_code
def yX1_clear : MethodName := ⟨RX1, "clear", "()V"⟩
abbrev cX1_copyFrom : ByteArray := prog_3_method_3_code
def yX1_copyFrom : MethodName := ⟨RX1, "copyFrom", "(LShapeSessions$Session;)V"⟩
abbrev cX1_learn : ByteArray := prog_3_method_4_code
def yX1_learn : MethodName := ⟨RX1, "learn", "(I[I[I)V"⟩
abbrev cX1_use : ByteArray := prog_3_method_5_code
def yX1_use : MethodName := ⟨RX1, "use", "(LShapeSessions$Work;IIII)Z"⟩
abbrev cX1_release : ByteArray := prog_3_method_6_code
def yX1_release : MethodName := ⟨RX1, "release", "(LShapeSessions$Work;I)I"⟩
abbrev cX1_shrinkTo : ByteArray := prog_3_method_7_code
def yX1_shrinkTo : MethodName := ⟨RX1, "shrinkTo", "(I)V"⟩
abbrev cX1_longestUnused : ByteArray := prog_3_method_8_code
def yX1_longestUnused : MethodName := ⟨RX1, "longestUnused", "()I"⟩
abbrev cX1_putIn : ByteArray := prog_3_method_9_code
def yX1_putIn : MethodName := ⟨RX1, "putIn", "(III)I"⟩
abbrev cX1_takeOut : ByteArray := prog_3_method_10_code
def yX1_takeOut : MethodName := ⟨RX1, "takeOut", "(I)V"⟩
abbrev cX1_freshEntryOf : ByteArray := prog_3_method_11_code
def yX1_freshEntryOf : MethodName := ⟨RX1, "freshEntryOf", "(I)I"⟩
abbrev cX1_leastVersionAtWork : ByteArray := prog_3_method_12_code
def yX1_leastVersionAtWork : MethodName := ⟨RX1, "leastVersionAtWork", "(I)I"⟩
abbrev cX1_staleInHand : ByteArray := prog_3_method_13_code
def yX1_staleInHand : MethodName := ⟨RX1, "staleInHand", "()I"⟩
abbrev cX1_statementsAtWork : ByteArray := prog_3_method_14_code
def yX1_statementsAtWork : MethodName := ⟨RX1, "statementsAtWork", "()I"⟩
abbrev cX1_lowestBehind : ByteArray := prog_3_method_15_code
def yX1_lowestBehind : MethodName := ⟨RX1, "lowestBehind", "(II)I"⟩
abbrev cX1_idleWork : ByteArray := prog_3_method_16_code
def yX1_idleWork : MethodName := ⟨RX1, "idleWork", "()LShapeSessions$Work;"⟩
abbrev cX1_workOf : ByteArray := prog_3_method_17_code
def yX1_workOf : MethodName := ⟨RX1, "workOf", "(I)LShapeSessions$Work;"⟩
abbrev cX1_workWithNumber : ByteArray := prog_3_method_18_code
def yX1_workWithNumber : MethodName := ⟨RX1, "workWithNumber", "(I)LShapeSessions$Work;"⟩
def RX2 : String := "ShapeSessions$State"
def TX2 : u_T := fun k => match k with
  | 0 => ("ShapeSessions$State", "ticks", "I", false)
  | 1 => ("ShapeSessions$State", "delay", "I", false)
  | 2 => ("ShapeSessions$State", "room", "I", false)
  | 3 => ("ShapeSessions$State", "version", "[I", true)
  | 4 => ("ShapeSessions$State", "shape", "[I", true)
  | 5 => ("ShapeSessions$State", "notices", "I", false)
  | 6 => ("ShapeSessions$State", "noticeTable", "[I", true)
  | 7 => ("ShapeSessions$State", "noticeDue", "[I", true)
  | 8 => ("ShapeSessions$State", "started", "I", false)
  | 9 => ("ShapeSessions$State", "latestSession", "[I", true)
  | 10 => ("ShapeSessions$State", "latestTables", "[I", true)
  | _ => ("ShapeSessions$State", "sessions", "[LShapeSessions$Session;", true)
def tyX2 : Nat → FieldType := fun k => match k with
  | 0 => .int
  | 1 => .int
  | 2 => .int
  | 3 => .array .int
  | 4 => .array .int
  | 5 => .int
  | 6 => .array .int
  | 7 => .array .int
  | 8 => .int
  | 9 => .array .int
  | 10 => .array .int
  | _ => .array (.object "ShapeSessions$Session")
abbrev wsX20 : List Cond := u_ws RX2 TX2 12
theorem nmX2 : ∀ a, a < 12 → ∀ b, b < 12 → a ≠ b → (TX2 a).2.1 ≠ (TX2 b).2.1 := by decide +kernel
theorem tyX2_ok : ∀ k, k < 12 → parseFieldDescriptor (TX2 k).2.2.1 = some (tyX2 k) := by decide +kernel
abbrev cX2_init : ByteArray := prog_4_method_1_code
def yX2_init : MethodName := ⟨RX2, "<init>", "()V"⟩
abbrev cX2_clear : ByteArray := prog_4_method_2_code
def yX2_clear : MethodName := ⟨RX2, "clear", "()V"⟩
abbrev cX2_copyFrom : ByteArray := prog_4_method_3_code
def yX2_copyFrom : MethodName := ⟨RX2, "copyFrom", "(LShapeSessions$State;)V"⟩
abbrev cX2_changeTable : ByteArray := prog_4_method_5_code
def yX2_changeTable : MethodName := ⟨RX2, "changeTable", "(II)I"⟩
abbrev cX2_begin : ByteArray := prog_4_method_6_code
def yX2_begin : MethodName := ⟨RX2, "begin", "(II)I"⟩
abbrev cX2_finish : ByteArray := prog_4_method_7_code
def yX2_finish : MethodName := ⟨RX2, "finish", "(I)I"⟩
abbrev cX2_pass : ByteArray := prog_4_method_8_code
def yX2_pass : MethodName := ⟨RX2, "pass", "(I)I"⟩
abbrev cX2_arrive : ByteArray := prog_4_method_9_code
def yX2_arrive : MethodName := ⟨RX2, "arrive", "(I)V"⟩
abbrev cX2_adjust : ByteArray := prog_4_method_10_code
def yX2_adjust : MethodName := ⟨RX2, "adjust", "(II)I"⟩
abbrev cX2_canChange : ByteArray := prog_4_method_11_code
def yX2_canChange : MethodName := ⟨RX2, "canChange", "(I)Z"⟩
abbrev cX2_leastVersionAtWork : ByteArray := prog_4_method_12_code
def yX2_leastVersionAtWork : MethodName := ⟨RX2, "leastVersionAtWork", "(I)I"⟩
abbrev cX2_handsWith : ByteArray := prog_4_method_13_code
def yX2_handsWith : MethodName := ⟨RX2, "handsWith", "(I)I"⟩
abbrev cX2_tablesThatCanChange : ByteArray := prog_4_method_14_code
def yX2_tablesThatCanChange : MethodName := ⟨RX2, "tablesThatCanChange", "()I"⟩
abbrev cX2_noticesOnTheirWay : ByteArray := prog_4_method_15_code
def yX2_noticesOnTheirWay : MethodName := ⟨RX2, "noticesOnTheirWay", "()I"⟩
abbrev cX2_sessionWith : ByteArray := prog_4_method_16_code
def yX2_sessionWith : MethodName := ⟨RX2, "sessionWith", "(I)I"⟩
abbrev cX2_statementsAtWork : ByteArray := prog_4_method_17_code
def yX2_statementsAtWork : MethodName := ⟨RX2, "statementsAtWork", "()I"⟩
abbrev cX2_loadsOfAll : ByteArray := prog_4_method_18_code
def yX2_loadsOfAll : MethodName := ⟨RX2, "loadsOfAll", "()I"⟩
def RX3 : String := "ShapeSessions$Text"
def TX3 : u_T := fun k => match k with
  | 0 => ("ShapeSessions$Text", "signs", "[I", true)
  | 1 => ("ShapeSessions$Text", "length", "I", false)
  | 2 => ("ShapeSessions$Text", "letter", "I", false)
  | 3 => ("ShapeSessions$Text", "first", "I", false)
  | 4 => ("ShapeSessions$Text", "second", "I", false)
  | _ => ("ShapeSessions$Text", "behind", "I", false)
def tyX3 : Nat → FieldType := fun k => match k with
  | 0 => .array .int
  | 1 => .int
  | 2 => .int
  | 3 => .int
  | 4 => .int
  | _ => .int
abbrev wsX30 : List Cond := u_ws RX3 TX3 6
theorem nmX3 : ∀ a, a < 6 → ∀ b, b < 6 → a ≠ b → (TX3 a).2.1 ≠ (TX3 b).2.1 := by decide +kernel
theorem tyX3_ok : ∀ k, k < 6 → parseFieldDescriptor (TX3 k).2.2.1 = some (tyX3 k) := by decide +kernel
abbrev cX3_init : ByteArray := prog_5_method_1_code
def yX3_init : MethodName := ⟨RX3, "<init>", "()V"⟩
def RX4 : String := "ShapeSessions$Work"
def TX4 : u_T := fun k => match k with
  | 0 => ("ShapeSessions$Work", "number", "I", false)
  | 1 => ("ShapeSessions$Work", "tables", "I", false)
  | 2 => ("ShapeSessions$Work", "startedAt", "I", false)
  | _ => ("ShapeSessions$Work", "version", "[I", true)
def tyX4 : Nat → FieldType := fun k => match k with
  | 0 => .int
  | 1 => .int
  | 2 => .int
  | _ => .array .int
abbrev wsX40 : List Cond := u_ws RX4 TX4 4
theorem nmX4 : ∀ a, a < 4 → ∀ b, b < 4 → a ≠ b → (TX4 a).2.1 ≠ (TX4 b).2.1 := by decide +kernel
theorem tyX4_ok : ∀ k, k < 4 → parseFieldDescriptor (TX4 k).2.2.1 = some (tyX4 k) := by decide +kernel
abbrev cX4_init : ByteArray := prog_6_method_1_code
def yX4_init : MethodName := ⟨RX4, "<init>", "()V"⟩
abbrev cX4_copyFrom : ByteArray := prog_6_method_2_code
def yX4_copyFrom : MethodName := ⟨RX4, "copyFrom", "(LShapeSessions$Work;)V"⟩
abbrev cX4_worksBy : ByteArray := prog_6_method_3_code
def yX4_worksBy : MethodName := ⟨RX4, "worksBy", "(LShapeSessions$Entry;)Z"⟩
abbrev cX4_outrunBy : ByteArray := prog_6_method_4_code
def yX4_outrunBy : MethodName := ⟨RX4, "outrunBy", "([I)I"⟩
def RX5 : String := "ShapeSessions"
def TX5 : u_T := fun k => match k with
  | 0 => ("ShapeSessions", "now", "LShapeSessions$State;", false)
  | 1 => ("ShapeSessions", "trial", "LShapeSessions$State;", false)
  | 2 => ("ShapeSessions", "kept", "LShapeSessions$State;", true)
  | 3 => ("ShapeSessions", "hasKept", "Z", false)
  | 4 => ("ShapeSessions", "history", "[LShapeSessions$State;", true)
  | 5 => ("ShapeSessions", "recorded", "I", false)
  | 6 => ("ShapeSessions", "text", "LShapeSessions$Text;", true)
  | 7 => ("ShapeSessions", "faultPosition", "I", false)
  | 8 => ("ShapeSessions", "faultReason", "I", false)
  | _ => ("ShapeSessions", "faultCause", "I", false)
def tyX5 : Nat → FieldType := fun k => match k with
  | 0 => .object "ShapeSessions$State"
  | 1 => .object "ShapeSessions$State"
  | 2 => .object "ShapeSessions$State"
  | 3 => .boolean
  | 4 => .array (.object "ShapeSessions$State")
  | 5 => .int
  | 6 => .object "ShapeSessions$Text"
  | 7 => .int
  | 8 => .int
  | _ => .int
abbrev wsX50 : List Cond := u_ws RX5 TX5 10
theorem nmX5 : ∀ a, a < 10 → ∀ b, b < 10 → a ≠ b → (TX5 a).2.1 ≠ (TX5 b).2.1 := by decide +kernel
theorem tyX5_ok : ∀ k, k < 10 → parseFieldDescriptor (TX5 k).2.2.1 = some (tyX5 k) := by decide +kernel
abbrev cX5_init : ByteArray := prog_1_method_1_code
def yX5_init : MethodName := ⟨RX5, "<init>", "()V"⟩
abbrev cX5_alter : ByteArray := prog_1_method_2_code
def yX5_alter : MethodName := ⟨RX5, "alter", "(II)I"⟩
abbrev cX5_start : ByteArray := prog_1_method_3_code
def yX5_start : MethodName := ⟨RX5, "start", "(II)I"⟩
abbrev cX5_end : ByteArray := prog_1_method_4_code
def yX5_end : MethodName := ⟨RX5, "end", "(I)I"⟩
abbrev cX5_tick : ByteArray := prog_1_method_5_code
def yX5_tick : MethodName := ⟨RX5, "tick", "(I)I"⟩
abbrev cX5_set : ByteArray := prog_1_method_6_code
def yX5_set : MethodName := ⟨RX5, "set", "(II)I"⟩
abbrev cX5_tableOf : ByteArray := prog_1_method_7_code
def yX5_tableOf : MethodName := ⟨RX5, "tableOf", "(II)I"⟩
abbrev cX5_sessionOf : ByteArray := prog_1_method_8_code
def yX5_sessionOf : MethodName := ⟨RX5, "sessionOf", "(II)I"⟩
abbrev cX5_entry : ByteArray := prog_1_method_9_code
def yX5_entry : MethodName := ⟨RX5, "entry", "(III)I"⟩
abbrev cX5_statement : ByteArray := prog_1_method_10_code
def yX5_statement : MethodName := ⟨RX5, "statement", "(II)I"⟩
abbrev cX5_count : ByteArray := prog_1_method_12_code
def yX5_count : MethodName := ⟨RX5, "count", "(I)I"⟩
abbrev cX5_would : ByteArray := prog_1_method_13_code
def yX5_would : MethodName := ⟨RX5, "would", "(III)I"⟩
abbrev cX5_inTheWay : ByteArray := prog_1_method_14_code
def yX5_inTheWay : MethodName := ⟨RX5, "inTheWay", "(I)I"⟩
abbrev cX5_bestRoom : ByteArray := prog_1_method_15_code
def yX5_bestRoom : MethodName := ⟨RX5, "bestRoom", "(I)I"⟩
abbrev cX5_loadsWithRoom : ByteArray := prog_1_method_16_code
def yX5_loadsWithRoom : MethodName := ⟨RX5, "loadsWithRoom", "(I)I"⟩
abbrev cX5_undo : ByteArray := prog_1_method_19_code
def yX5_undo : MethodName := ⟨RX5, "undo", "()I"⟩
abbrev cX5_settle : ByteArray := prog_1_method_20_code
def yX5_settle : MethodName := ⟨RX5, "settle", "(I)I"⟩
abbrev cX5_record : ByteArray := prog_1_method_21_code
def yX5_record : MethodName := ⟨RX5, "record", "()V"⟩
abbrev cX5_contains : ByteArray := prog_1_method_28_code
def yX5_contains : MethodName := ⟨RX5, "contains", "(II)Z"⟩
def RX6 : String := "ShapeSessionsModel"
def TX6 : u_T := fun k => match k with
  | _ => ("", "", "", false)
def tyX6 : Nat → FieldType := fun k => match k with
  | _ => .int
abbrev wsX60 : List Cond := u_ws RX6 TX6 0
theorem nmX6 : ∀ a, a < 0 → ∀ b, b < 0 → a ≠ b → (TX6 a).2.1 ≠ (TX6 b).2.1 := by decide +kernel
theorem tyX6_ok : ∀ k, k < 0 → parseFieldDescriptor (TX6 k).2.2.1 = some (tyX6 k) := by decide +kernel
def RJ9 : String := "java/lang/Math"
def TJ9 : u_T := fun k => match k with
  | _ => ("", "", "", false)
def tyJ9 : Nat → FieldType := fun k => match k with
  | _ => .int
abbrev wsJ90 : List Cond := u_ws RJ9 TJ9 0
theorem nmJ9 : ∀ a, a < 0 → ∀ b, b < 0 → a ≠ b → (TJ9 a).2.1 ≠ (TJ9 b).2.1 := by decide +kernel
theorem tyJ9_ok : ∀ k, k < 0 → parseFieldDescriptor (TJ9 k).2.2.1 = some (tyJ9 k) := by decide +kernel
abbrev cJ9_max_7cf53 : ByteArray := prog_9_method_65_code
def yJ9_max_7cf53 : MethodName := ⟨RJ9, "max", "(II)I"⟩
abbrev cJ9_min_7cf53 : ByteArray := prog_9_method_69_code
def yJ9_min_7cf53 : MethodName := ⟨RJ9, "min", "(II)I"⟩
def RL : String := "ShapeSessionsLaw"
abbrev cL_cell : ByteArray := method_2_code
def yL_cell : MethodName := ⟨RL, "cell", "([II)I"⟩
abbrev cL_low : ByteArray := method_3_code
def yL_low : MethodName := ⟨RL, "low", "(II)I"⟩
abbrev cL_open : ByteArray := method_4_code
def yL_open : MethodName := ⟨RL, "open", "(LShapeSessions;I)I"⟩
abbrev cL_does : ByteArray := method_5_code
def yL_does : MethodName := ⟨RL, "does", "(LShapeSessions;I)I"⟩
abbrev cL_areHandsSo : ByteArray := method_6_code
def yL_areHandsSo : MethodName := ⟨RL, "areHandsSo", "(LShapeSessions;)Z"⟩
abbrev cL_ones : ByteArray := method_7_code
def yL_ones : MethodName := ⟨RL, "ones", "(I)I"⟩
abbrev cL_isStartSo : ByteArray := method_8_code
def yL_isStartSo : MethodName := ⟨RL, "isStartSo", "(LShapeSessions;II)Z"⟩
abbrev cL_law : ByteArray := code
def yL_law : MethodName := ⟨RL, "law", "([I)Z"⟩
abbrev vwCl : List vw_C := [(RX0, TX0, 6), (RX1, TX1, 9), (RX2, TX2, 12), (RX3, TX3, 6), (RX4, TX4, 4), (RX5, TX5, 10)]
def ch_1_0 : List Cond := [(Jvm.Cond.initialized "ShapeSessionsLaw"), (Jvm.Cond.initialized "ShapeSessions"), (Jvm.Cond.initialized "ShapeSessions$State"), (Jvm.Cond.initialized "ShapeSessions$Session"), (Jvm.Cond.initialized "ShapeSessions$Entry"), (Jvm.Cond.initialized "ShapeSessions$Work"), (Jvm.Cond.initialized "ShapeSessions$Text"), (Jvm.Cond.initialized "java/lang/Math"), (Jvm.Cond.classLink "ShapeSessionsLaw" (9 : Nat) "ShapeSessions"), (Jvm.Cond.instantiable "ShapeSessions" (10 : Nat)), (Jvm.Cond.methodLink "ShapeSessionsLaw" (65 : Nat) ({ cls := "ShapeSessions", name := "<init>", desc := "()V" } : Jvm.MethodName)), (Jvm.Cond.instanceMethod ({ cls := "ShapeSessions", name := "<init>", desc := "()V" } : Jvm.MethodName))]
def ch_1_1 : List Cond := [(Jvm.Cond.code ({ cls := "ShapeSessions", name := "<init>", desc := "()V" } : Jvm.MethodName) prog_1_method_1_code (2 : Nat) (Option.none : Option Jvm.ClassFile.FieldType)), (Jvm.Cond.methodLink "ShapeSessions" (1 : Nat) ({ cls := "java/lang/Object", name := "<init>", desc := "()V" } : Jvm.MethodName)), (Jvm.Cond.instanceMethod ({ cls := "java/lang/Object", name := "<init>", desc := "()V" } : Jvm.MethodName)), (Jvm.Cond.code ({ cls := "java/lang/Object", name := "<init>", desc := "()V" } : Jvm.MethodName) object_method_1_code (1 : Nat) (Option.none : Option Jvm.ClassFile.FieldType)), (Jvm.Cond.classLink "ShapeSessions" (7 : Nat) "ShapeSessions$State"), (Jvm.Cond.instantiable "ShapeSessions$State" (12 : Nat)), (Jvm.Cond.methodLink "ShapeSessions" (9 : Nat) ({ cls := "ShapeSessions$State", name := "<init>", desc := "()V" } : Jvm.MethodName)), (Jvm.Cond.instanceMethod ({ cls := "ShapeSessions$State", name := "<init>", desc := "()V" } : Jvm.MethodName)), (Jvm.Cond.code ({ cls := "ShapeSessions$State", name := "<init>", desc := "()V" } : Jvm.MethodName) prog_4_method_1_code (2 : Nat) (Option.none : Option Jvm.ClassFile.FieldType)), (Jvm.Cond.methodLink "ShapeSessions$State" (3 : Nat) ({ cls := "java/lang/Object", name := "<init>", desc := "()V" } : Jvm.MethodName)), (Jvm.Cond.classLink "ShapeSessions$State" (30 : Nat) "ShapeSessions$Session"), (Jvm.Cond.arrayOver (Jvm.ClassFile.FieldType.object "ShapeSessions$Session"))]
def ch_1_2 : List Cond := [(Jvm.Cond.instantiable "ShapeSessions$Session" (9 : Nat)), (Jvm.Cond.methodLink "ShapeSessions$State" (36 : Nat) ({ cls := "ShapeSessions$Session", name := "<init>", desc := "()V" } : Jvm.MethodName)), (Jvm.Cond.instanceMethod ({ cls := "ShapeSessions$Session", name := "<init>", desc := "()V" } : Jvm.MethodName)), (Jvm.Cond.code ({ cls := "ShapeSessions$Session", name := "<init>", desc := "()V" } : Jvm.MethodName) prog_3_method_1_code (2 : Nat) (Option.none : Option Jvm.ClassFile.FieldType)), (Jvm.Cond.methodLink "ShapeSessions$Session" (3 : Nat) ({ cls := "java/lang/Object", name := "<init>", desc := "()V" } : Jvm.MethodName)), (Jvm.Cond.classLink "ShapeSessions$Session" (9 : Nat) "ShapeSessions$Entry"), (Jvm.Cond.arrayOver (Jvm.ClassFile.FieldType.object "ShapeSessions$Entry")), (Jvm.Cond.instantiable "ShapeSessions$Entry" (6 : Nat)), (Jvm.Cond.methodLinkNest "ShapeSessions$Session" (17 : Nat) ({ cls := "ShapeSessions$Entry", name := "<init>", desc := "()V" } : Jvm.MethodName) "ShapeSessions"), (Jvm.Cond.instanceMethod ({ cls := "ShapeSessions$Entry", name := "<init>", desc := "()V" } : Jvm.MethodName)), (Jvm.Cond.code ({ cls := "ShapeSessions$Entry", name := "<init>", desc := "()V" } : Jvm.MethodName) prog_2_method_1_code (1 : Nat) (Option.none : Option Jvm.ClassFile.FieldType)), (Jvm.Cond.methodLink "ShapeSessions$Entry" (1 : Nat) ({ cls := "java/lang/Object", name := "<init>", desc := "()V" } : Jvm.MethodName))]
def ch_1_3 : List Cond := [(Jvm.Cond.fieldLink "ShapeSessions$Entry" (7 : Nat) "ShapeSessions$Entry" "table" "I"), (Jvm.Cond.fieldLink "ShapeSessions$Work" (25 : Nat) "ShapeSessions$Entry" "table" "I"), (Jvm.Cond.fieldLink "ShapeSessions$Session" (57 : Nat) "ShapeSessions$Entry" "table" "I"), (Jvm.Cond.fieldLink "ShapeSessions" (135 : Nat) "ShapeSessions$Entry" "table" "I"), (Jvm.Cond.fieldLink "ShapeSessions$Entry" (13 : Nat) "ShapeSessions$Entry" "version" "I"), (Jvm.Cond.fieldLink "ShapeSessions$Work" (34 : Nat) "ShapeSessions$Entry" "version" "I"), (Jvm.Cond.fieldLink "ShapeSessions$Session" (60 : Nat) "ShapeSessions$Entry" "version" "I"), (Jvm.Cond.fieldLink "ShapeSessions" (140 : Nat) "ShapeSessions$Entry" "version" "I"), (Jvm.Cond.fieldLink "ShapeSessions$Entry" (16 : Nat) "ShapeSessions$Entry" "shape" "I"), (Jvm.Cond.fieldLink "ShapeSessions$Session" (103 : Nat) "ShapeSessions$Entry" "shape" "I"), (Jvm.Cond.fieldLink "ShapeSessions" (142 : Nat) "ShapeSessions$Entry" "shape" "I"), (Jvm.Cond.fieldLink "ShapeSessions$Entry" (19 : Nat) "ShapeSessions$Entry" "workers" "I")]
def ch_1_4 : List Cond := [(Jvm.Cond.fieldLink "ShapeSessions$Session" (67 : Nat) "ShapeSessions$Entry" "workers" "I"), (Jvm.Cond.fieldLink "ShapeSessions" (144 : Nat) "ShapeSessions$Entry" "workers" "I"), (Jvm.Cond.fieldLink "ShapeSessions$Entry" (22 : Nat) "ShapeSessions$Entry" "lastUse" "I"), (Jvm.Cond.fieldLink "ShapeSessions$Session" (85 : Nat) "ShapeSessions$Entry" "lastUse" "I"), (Jvm.Cond.fieldLink "ShapeSessions" (147 : Nat) "ShapeSessions$Entry" "lastUse" "I"), (Jvm.Cond.fieldLink "ShapeSessions$Entry" (25 : Nat) "ShapeSessions$Entry" "stale" "Z"), (Jvm.Cond.fieldLink "ShapeSessions$Session" (63 : Nat) "ShapeSessions$Entry" "stale" "Z"), (Jvm.Cond.fieldLink "ShapeSessions" (150 : Nat) "ShapeSessions$Entry" "stale" "Z"), (Jvm.Cond.lays "ShapeSessions$Entry" "ShapeSessions$Entry" "table" "I"), (Jvm.Cond.soleField "ShapeSessions$Entry" "table"), (Jvm.Cond.lays "ShapeSessions$Entry" "ShapeSessions$Entry" "version" "I"), (Jvm.Cond.soleField "ShapeSessions$Entry" "version")]
def ch_1_5 : List Cond := [(Jvm.Cond.lays "ShapeSessions$Entry" "ShapeSessions$Entry" "shape" "I"), (Jvm.Cond.soleField "ShapeSessions$Entry" "shape"), (Jvm.Cond.lays "ShapeSessions$Entry" "ShapeSessions$Entry" "workers" "I"), (Jvm.Cond.soleField "ShapeSessions$Entry" "workers"), (Jvm.Cond.lays "ShapeSessions$Entry" "ShapeSessions$Entry" "lastUse" "I"), (Jvm.Cond.soleField "ShapeSessions$Entry" "lastUse"), (Jvm.Cond.lays "ShapeSessions$Entry" "ShapeSessions$Entry" "stale" "Z"), (Jvm.Cond.soleField "ShapeSessions$Entry" "stale"), (Jvm.Cond.superclass "ShapeSessions$Entry" "java/lang/Object"), (Jvm.Cond.arrayClass Jvm.ClassFile.FieldType.int), (Jvm.Cond.classLink "ShapeSessions$Session" (18 : Nat) "ShapeSessions$Work"), (Jvm.Cond.arrayOver (Jvm.ClassFile.FieldType.object "ShapeSessions$Work"))]
def ch_1_6 : List Cond := [(Jvm.Cond.instantiable "ShapeSessions$Work" (4 : Nat)), (Jvm.Cond.methodLink "ShapeSessions$Session" (24 : Nat) ({ cls := "ShapeSessions$Work", name := "<init>", desc := "()V" } : Jvm.MethodName)), (Jvm.Cond.instanceMethod ({ cls := "ShapeSessions$Work", name := "<init>", desc := "()V" } : Jvm.MethodName)), (Jvm.Cond.code ({ cls := "ShapeSessions$Work", name := "<init>", desc := "()V" } : Jvm.MethodName) prog_6_method_1_code (1 : Nat) (Option.none : Option Jvm.ClassFile.FieldType)), (Jvm.Cond.methodLink "ShapeSessions$Work" (3 : Nat) ({ cls := "java/lang/Object", name := "<init>", desc := "()V" } : Jvm.MethodName)), (Jvm.Cond.fieldLink "ShapeSessions$Work" (9 : Nat) "ShapeSessions$Work" "number" "I"), (Jvm.Cond.fieldLink "ShapeSessions$Session" (47 : Nat) "ShapeSessions$Work" "number" "I"), (Jvm.Cond.fieldLink "ShapeSessions$State" (96 : Nat) "ShapeSessions$Work" "number" "I"), (Jvm.Cond.fieldLink "ShapeSessions$Work" (19 : Nat) "ShapeSessions$Work" "tables" "I"), (Jvm.Cond.fieldLink "ShapeSessions$State" (101 : Nat) "ShapeSessions$Work" "tables" "I"), (Jvm.Cond.fieldLink "ShapeSessions" (160 : Nat) "ShapeSessions$Work" "tables" "I"), (Jvm.Cond.fieldLink "ShapeSessions$Session" (106 : Nat) "ShapeSessions$Work" "tables" "I")]
def ch_1_7 : List Cond := [(Jvm.Cond.fieldLink "ShapeSessions$Work" (22 : Nat) "ShapeSessions$Work" "startedAt" "I"), (Jvm.Cond.fieldLink "ShapeSessions$State" (104 : Nat) "ShapeSessions$Work" "startedAt" "I"), (Jvm.Cond.fieldLink "ShapeSessions" (165 : Nat) "ShapeSessions$Work" "startedAt" "I"), (Jvm.Cond.fieldLink "ShapeSessions$Work" (15 : Nat) "ShapeSessions$Work" "version" "[I"), (Jvm.Cond.fieldLink "ShapeSessions$Session" (88 : Nat) "ShapeSessions$Work" "version" "[I"), (Jvm.Cond.lays "ShapeSessions$Work" "ShapeSessions$Work" "number" "I"), (Jvm.Cond.soleField "ShapeSessions$Work" "number"), (Jvm.Cond.lays "ShapeSessions$Work" "ShapeSessions$Work" "tables" "I"), (Jvm.Cond.soleField "ShapeSessions$Work" "tables"), (Jvm.Cond.lays "ShapeSessions$Work" "ShapeSessions$Work" "startedAt" "I"), (Jvm.Cond.soleField "ShapeSessions$Work" "startedAt"), (Jvm.Cond.laysFinal "ShapeSessions$Work" "ShapeSessions$Work" "version" "[I")]
def ch_1_8 : List Cond := [(Jvm.Cond.soleField "ShapeSessions$Work" "version"), (Jvm.Cond.superclass "ShapeSessions$Work" "java/lang/Object"), (Jvm.Cond.fieldLink "ShapeSessions$Session" (25 : Nat) "ShapeSessions$Session" "known" "I"), (Jvm.Cond.fieldLink "ShapeSessions$State" (86 : Nat) "ShapeSessions$Session" "known" "I"), (Jvm.Cond.fieldLink "ShapeSessions" (98 : Nat) "ShapeSessions$Session" "known" "I"), (Jvm.Cond.fieldLink "ShapeSessions$Session" (29 : Nat) "ShapeSessions$Session" "hits" "I"), (Jvm.Cond.fieldLink "ShapeSessions" (116 : Nat) "ShapeSessions$Session" "hits" "I"), (Jvm.Cond.fieldLink "ShapeSessions$Session" (32 : Nat) "ShapeSessions$Session" "loads" "I"), (Jvm.Cond.fieldLink "ShapeSessions" (119 : Nat) "ShapeSessions$Session" "loads" "I"), (Jvm.Cond.fieldLink "ShapeSessions$State" (145 : Nat) "ShapeSessions$Session" "loads" "I"), (Jvm.Cond.fieldLink "ShapeSessions$Session" (35 : Nat) "ShapeSessions$Session" "drops" "I"), (Jvm.Cond.fieldLink "ShapeSessions" (122 : Nat) "ShapeSessions$Session" "drops" "I")]
def ch_1_9 : List Cond := [(Jvm.Cond.fieldLink "ShapeSessions$Session" (38 : Nat) "ShapeSessions$Session" "asksThatHelped" "I"), (Jvm.Cond.fieldLink "ShapeSessions$State" (93 : Nat) "ShapeSessions$Session" "asksThatHelped" "I"), (Jvm.Cond.fieldLink "ShapeSessions" (125 : Nat) "ShapeSessions$Session" "asksThatHelped" "I"), (Jvm.Cond.fieldLink "ShapeSessions$Session" (41 : Nat) "ShapeSessions$Session" "lateNotices" "I"), (Jvm.Cond.fieldLink "ShapeSessions" (128 : Nat) "ShapeSessions$Session" "lateNotices" "I"), (Jvm.Cond.fieldLink "ShapeSessions$State" (128 : Nat) "ShapeSessions$Session" "lateNotices" "I"), (Jvm.Cond.fieldLink "ShapeSessions$Session" (44 : Nat) "ShapeSessions$Session" "inHand" "I"), (Jvm.Cond.fieldLink "ShapeSessions" (107 : Nat) "ShapeSessions$Session" "inHand" "I"), (Jvm.Cond.fieldLink "ShapeSessions$Session" (11 : Nat) "ShapeSessions$Session" "hand" "[LShapeSessions$Entry;"), (Jvm.Cond.fieldLink "ShapeSessions" (131 : Nat) "ShapeSessions$Session" "hand" "[LShapeSessions$Entry;"), (Jvm.Cond.fieldLink "ShapeSessions$Session" (20 : Nat) "ShapeSessions$Session" "works" "[LShapeSessions$Work;"), (Jvm.Cond.lays "ShapeSessions$Session" "ShapeSessions$Session" "known" "I")]
def ch_1_10 : List Cond := [(Jvm.Cond.soleField "ShapeSessions$Session" "known"), (Jvm.Cond.lays "ShapeSessions$Session" "ShapeSessions$Session" "hits" "I"), (Jvm.Cond.soleField "ShapeSessions$Session" "hits"), (Jvm.Cond.lays "ShapeSessions$Session" "ShapeSessions$Session" "loads" "I"), (Jvm.Cond.soleField "ShapeSessions$Session" "loads"), (Jvm.Cond.lays "ShapeSessions$Session" "ShapeSessions$Session" "drops" "I"), (Jvm.Cond.soleField "ShapeSessions$Session" "drops"), (Jvm.Cond.lays "ShapeSessions$Session" "ShapeSessions$Session" "asksThatHelped" "I"), (Jvm.Cond.soleField "ShapeSessions$Session" "asksThatHelped"), (Jvm.Cond.lays "ShapeSessions$Session" "ShapeSessions$Session" "lateNotices" "I"), (Jvm.Cond.soleField "ShapeSessions$Session" "lateNotices"), (Jvm.Cond.lays "ShapeSessions$Session" "ShapeSessions$Session" "inHand" "I")]
def ch_1_11 : List Cond := [(Jvm.Cond.soleField "ShapeSessions$Session" "inHand"), (Jvm.Cond.laysFinal "ShapeSessions$Session" "ShapeSessions$Session" "hand" "[LShapeSessions$Entry;"), (Jvm.Cond.soleField "ShapeSessions$Session" "hand"), (Jvm.Cond.laysFinal "ShapeSessions$Session" "ShapeSessions$Session" "works" "[LShapeSessions$Work;"), (Jvm.Cond.soleField "ShapeSessions$Session" "works"), (Jvm.Cond.superclass "ShapeSessions$Session" "java/lang/Object"), (Jvm.Cond.fieldLink "ShapeSessions$State" (37 : Nat) "ShapeSessions$State" "ticks" "I"), (Jvm.Cond.fieldLink "ShapeSessions" (178 : Nat) "ShapeSessions$State" "ticks" "I"), (Jvm.Cond.fieldLink "ShapeSessions$State" (41 : Nat) "ShapeSessions$State" "delay" "I"), (Jvm.Cond.fieldLink "ShapeSessions" (194 : Nat) "ShapeSessions$State" "delay" "I"), (Jvm.Cond.fieldLink "ShapeSessions$State" (44 : Nat) "ShapeSessions$State" "room" "I"), (Jvm.Cond.fieldLink "ShapeSessions" (197 : Nat) "ShapeSessions$State" "room" "I")]
def ch_1_12 : List Cond := [(Jvm.Cond.fieldLink "ShapeSessions$State" (9 : Nat) "ShapeSessions$State" "version" "[I"), (Jvm.Cond.fieldLink "ShapeSessions" (77 : Nat) "ShapeSessions$State" "version" "[I"), (Jvm.Cond.fieldLink "ShapeSessions$State" (15 : Nat) "ShapeSessions$State" "shape" "[I"), (Jvm.Cond.fieldLink "ShapeSessions" (81 : Nat) "ShapeSessions$State" "shape" "[I"), (Jvm.Cond.fieldLink "ShapeSessions$State" (47 : Nat) "ShapeSessions$State" "notices" "I"), (Jvm.Cond.fieldLink "ShapeSessions" (172 : Nat) "ShapeSessions$State" "notices" "I"), (Jvm.Cond.fieldLink "ShapeSessions$State" (18 : Nat) "ShapeSessions$State" "noticeTable" "[I"), (Jvm.Cond.fieldLink "ShapeSessions$State" (21 : Nat) "ShapeSessions$State" "noticeDue" "[I"), (Jvm.Cond.fieldLink "ShapeSessions$State" (50 : Nat) "ShapeSessions$State" "started" "I"), (Jvm.Cond.fieldLink "ShapeSessions" (181 : Nat) "ShapeSessions$State" "started" "I"), (Jvm.Cond.fieldLink "ShapeSessions$State" (24 : Nat) "ShapeSessions$State" "latestSession" "[I"), (Jvm.Cond.fieldLink "ShapeSessions" (211 : Nat) "ShapeSessions$State" "latestSession" "[I")]
def ch_1_13 : List Cond := [(Jvm.Cond.fieldLink "ShapeSessions$State" (27 : Nat) "ShapeSessions$State" "latestTables" "[I"), (Jvm.Cond.fieldLink "ShapeSessions" (214 : Nat) "ShapeSessions$State" "latestTables" "[I"), (Jvm.Cond.fieldLink "ShapeSessions$State" (32 : Nat) "ShapeSessions$State" "sessions" "[LShapeSessions$Session;"), (Jvm.Cond.fieldLink "ShapeSessions" (94 : Nat) "ShapeSessions$State" "sessions" "[LShapeSessions$Session;"), (Jvm.Cond.lays "ShapeSessions$State" "ShapeSessions$State" "ticks" "I"), (Jvm.Cond.soleField "ShapeSessions$State" "ticks"), (Jvm.Cond.lays "ShapeSessions$State" "ShapeSessions$State" "delay" "I"), (Jvm.Cond.soleField "ShapeSessions$State" "delay"), (Jvm.Cond.lays "ShapeSessions$State" "ShapeSessions$State" "room" "I"), (Jvm.Cond.soleField "ShapeSessions$State" "room"), (Jvm.Cond.laysFinal "ShapeSessions$State" "ShapeSessions$State" "version" "[I"), (Jvm.Cond.soleField "ShapeSessions$State" "version")]
def ch_1_14 : List Cond := [(Jvm.Cond.laysFinal "ShapeSessions$State" "ShapeSessions$State" "shape" "[I"), (Jvm.Cond.soleField "ShapeSessions$State" "shape"), (Jvm.Cond.lays "ShapeSessions$State" "ShapeSessions$State" "notices" "I"), (Jvm.Cond.soleField "ShapeSessions$State" "notices"), (Jvm.Cond.laysFinal "ShapeSessions$State" "ShapeSessions$State" "noticeTable" "[I"), (Jvm.Cond.soleField "ShapeSessions$State" "noticeTable"), (Jvm.Cond.laysFinal "ShapeSessions$State" "ShapeSessions$State" "noticeDue" "[I"), (Jvm.Cond.soleField "ShapeSessions$State" "noticeDue"), (Jvm.Cond.lays "ShapeSessions$State" "ShapeSessions$State" "started" "I"), (Jvm.Cond.soleField "ShapeSessions$State" "started"), (Jvm.Cond.laysFinal "ShapeSessions$State" "ShapeSessions$State" "latestSession" "[I"), (Jvm.Cond.soleField "ShapeSessions$State" "latestSession")]
def ch_1_15 : List Cond := [(Jvm.Cond.laysFinal "ShapeSessions$State" "ShapeSessions$State" "latestTables" "[I"), (Jvm.Cond.soleField "ShapeSessions$State" "latestTables"), (Jvm.Cond.laysFinal "ShapeSessions$State" "ShapeSessions$State" "sessions" "[LShapeSessions$Session;"), (Jvm.Cond.soleField "ShapeSessions$State" "sessions"), (Jvm.Cond.superclass "ShapeSessions$State" "java/lang/Object"), (Jvm.Cond.methodLink "ShapeSessions" (16 : Nat) ({ cls := "ShapeSessions$State", name := "clear", desc := "()V" } : Jvm.MethodName)), (Jvm.Cond.instanceMethod ({ cls := "ShapeSessions$State", name := "clear", desc := "()V" } : Jvm.MethodName)), (Jvm.Cond.selects "ShapeSessions$State" ({ cls := "ShapeSessions$State", name := "clear", desc := "()V" } : Jvm.MethodName) ({ cls := "ShapeSessions$State", name := "clear", desc := "()V" } : Jvm.MethodName)), (Jvm.Cond.code ({ cls := "ShapeSessions$State", name := "clear", desc := "()V" } : Jvm.MethodName) prog_4_method_2_code (2 : Nat) (Option.none : Option Jvm.ClassFile.FieldType)), (Jvm.Cond.methodLink "ShapeSessions$State" (53 : Nat) ({ cls := "ShapeSessions$Session", name := "clear", desc := "()V" } : Jvm.MethodName)), (Jvm.Cond.instanceMethod ({ cls := "ShapeSessions$Session", name := "clear", desc := "()V" } : Jvm.MethodName)), (Jvm.Cond.selects "ShapeSessions$Session" ({ cls := "ShapeSessions$Session", name := "clear", desc := "()V" } : Jvm.MethodName) ({ cls := "ShapeSessions$Session", name := "clear", desc := "()V" } : Jvm.MethodName))]
def ch_1_16 : List Cond := [(Jvm.Cond.code ({ cls := "ShapeSessions$Session", name := "clear", desc := "()V" } : Jvm.MethodName) prog_3_method_2_code (2 : Nat) (Option.none : Option Jvm.ClassFile.FieldType)), (Jvm.Cond.arrayOver (Jvm.ClassFile.FieldType.object "ShapeSessions$State")), (Jvm.Cond.classLink "ShapeSessions" (37 : Nat) "ShapeSessions$Text"), (Jvm.Cond.instantiable "ShapeSessions$Text" (6 : Nat)), (Jvm.Cond.methodLink "ShapeSessions" (39 : Nat) ({ cls := "ShapeSessions$Text", name := "<init>", desc := "()V" } : Jvm.MethodName)), (Jvm.Cond.instanceMethod ({ cls := "ShapeSessions$Text", name := "<init>", desc := "()V" } : Jvm.MethodName)), (Jvm.Cond.code ({ cls := "ShapeSessions$Text", name := "<init>", desc := "()V" } : Jvm.MethodName) prog_5_method_1_code (1 : Nat) (Option.none : Option Jvm.ClassFile.FieldType)), (Jvm.Cond.methodLink "ShapeSessions$Text" (3 : Nat) ({ cls := "java/lang/Object", name := "<init>", desc := "()V" } : Jvm.MethodName)), (Jvm.Cond.fieldLink "ShapeSessions$Text" (9 : Nat) "ShapeSessions$Text" "signs" "[I"), (Jvm.Cond.fieldLink "ShapeSessions" (185 : Nat) "ShapeSessions$Text" "length" "I"), (Jvm.Cond.laysFinal "ShapeSessions$Text" "ShapeSessions$Text" "signs" "[I"), (Jvm.Cond.soleField "ShapeSessions$Text" "signs")]
def ch_1_17 : List Cond := [(Jvm.Cond.lays "ShapeSessions$Text" "ShapeSessions$Text" "length" "I"), (Jvm.Cond.soleField "ShapeSessions$Text" "length"), (Jvm.Cond.lays "ShapeSessions$Text" "ShapeSessions$Text" "letter" "I"), (Jvm.Cond.soleField "ShapeSessions$Text" "letter"), (Jvm.Cond.lays "ShapeSessions$Text" "ShapeSessions$Text" "first" "I"), (Jvm.Cond.soleField "ShapeSessions$Text" "first"), (Jvm.Cond.lays "ShapeSessions$Text" "ShapeSessions$Text" "second" "I"), (Jvm.Cond.soleField "ShapeSessions$Text" "second"), (Jvm.Cond.lays "ShapeSessions$Text" "ShapeSessions$Text" "behind" "I"), (Jvm.Cond.soleField "ShapeSessions$Text" "behind"), (Jvm.Cond.superclass "ShapeSessions$Text" "java/lang/Object"), (Jvm.Cond.fieldLink "ShapeSessions" (10 : Nat) "ShapeSessions" "now" "LShapeSessions$State;")]
def ch_1_18 : List Cond := [(Jvm.Cond.fieldLink "ShapeSessions" (19 : Nat) "ShapeSessions" "trial" "LShapeSessions$State;"), (Jvm.Cond.fieldLink "ShapeSessions" (22 : Nat) "ShapeSessions" "kept" "LShapeSessions$State;"), (Jvm.Cond.fieldLink "ShapeSessions" (25 : Nat) "ShapeSessions" "hasKept" "Z"), (Jvm.Cond.fieldLink "ShapeSessions" (29 : Nat) "ShapeSessions" "history" "[LShapeSessions$State;"), (Jvm.Cond.fieldLink "ShapeSessions" (33 : Nat) "ShapeSessions" "recorded" "I"), (Jvm.Cond.fieldLink "ShapeSessions" (40 : Nat) "ShapeSessions" "text" "LShapeSessions$Text;"), (Jvm.Cond.fieldLink "ShapeSessions" (44 : Nat) "ShapeSessions" "faultPosition" "I"), (Jvm.Cond.fieldLink "ShapeSessions" (47 : Nat) "ShapeSessions" "faultReason" "I"), (Jvm.Cond.fieldLink "ShapeSessions" (50 : Nat) "ShapeSessions" "faultCause" "I"), (Jvm.Cond.lays "ShapeSessions" "ShapeSessions" "now" "LShapeSessions$State;"), (Jvm.Cond.soleField "ShapeSessions" "now"), (Jvm.Cond.lays "ShapeSessions" "ShapeSessions" "trial" "LShapeSessions$State;")]
def ch_1_19 : List Cond := [(Jvm.Cond.soleField "ShapeSessions" "trial"), (Jvm.Cond.laysFinal "ShapeSessions" "ShapeSessions" "kept" "LShapeSessions$State;"), (Jvm.Cond.soleField "ShapeSessions" "kept"), (Jvm.Cond.lays "ShapeSessions" "ShapeSessions" "hasKept" "Z"), (Jvm.Cond.soleField "ShapeSessions" "hasKept"), (Jvm.Cond.laysFinal "ShapeSessions" "ShapeSessions" "history" "[LShapeSessions$State;"), (Jvm.Cond.soleField "ShapeSessions" "history"), (Jvm.Cond.lays "ShapeSessions" "ShapeSessions" "recorded" "I"), (Jvm.Cond.soleField "ShapeSessions" "recorded"), (Jvm.Cond.laysFinal "ShapeSessions" "ShapeSessions" "text" "LShapeSessions$Text;"), (Jvm.Cond.soleField "ShapeSessions" "text"), (Jvm.Cond.lays "ShapeSessions" "ShapeSessions" "faultPosition" "I")]
set_option maxRecDepth 20000 in
theorem tb_1 : tables_1_1 = ch_1_0 ++ (ch_1_1 ++ (ch_1_2 ++ (ch_1_3 ++ (ch_1_4 ++ (ch_1_5 ++ (ch_1_6 ++ (ch_1_7 ++ (ch_1_8 ++ (ch_1_9 ++ (ch_1_10 ++ (ch_1_11 ++ (ch_1_12 ++ (ch_1_13 ++ (ch_1_14 ++ (ch_1_15 ++ (ch_1_16 ++ (ch_1_17 ++ (ch_1_18 ++ (ch_1_19))))))))))))))))))) := rfl
def ch_2_0 : List Cond := [(Jvm.Cond.soleField "ShapeSessions" "faultPosition"), (Jvm.Cond.lays "ShapeSessions" "ShapeSessions" "faultReason" "I"), (Jvm.Cond.soleField "ShapeSessions" "faultReason"), (Jvm.Cond.lays "ShapeSessions" "ShapeSessions" "faultCause" "I"), (Jvm.Cond.soleField "ShapeSessions" "faultCause"), (Jvm.Cond.superclass "ShapeSessions" "java/lang/Object"), (Jvm.Cond.methodLink "ShapeSessionsLaw" (46 : Nat) ({ cls := "ShapeSessions", name := "tableOf", desc := "(II)I" } : Jvm.MethodName)), (Jvm.Cond.instanceMethod ({ cls := "ShapeSessions", name := "tableOf", desc := "(II)I" } : Jvm.MethodName)), (Jvm.Cond.selects "ShapeSessions" ({ cls := "ShapeSessions", name := "tableOf", desc := "(II)I" } : Jvm.MethodName) ({ cls := "ShapeSessions", name := "tableOf", desc := "(II)I" } : Jvm.MethodName)), (Jvm.Cond.code ({ cls := "ShapeSessions", name := "tableOf", desc := "(II)I" } : Jvm.MethodName) prog_1_method_7_code (3 : Nat) (Option.some Jvm.ClassFile.FieldType.int)), (Jvm.Cond.methodLink "ShapeSessions" (84 : Nat) ({ cls := "ShapeSessions$State", name := "leastVersionAtWork", desc := "(I)I" } : Jvm.MethodName)), (Jvm.Cond.instanceMethod ({ cls := "ShapeSessions$State", name := "leastVersionAtWork", desc := "(I)I" } : Jvm.MethodName))]
def ch_2_1 : List Cond := [(Jvm.Cond.selects "ShapeSessions$State" ({ cls := "ShapeSessions$State", name := "leastVersionAtWork", desc := "(I)I" } : Jvm.MethodName) ({ cls := "ShapeSessions$State", name := "leastVersionAtWork", desc := "(I)I" } : Jvm.MethodName)), (Jvm.Cond.code ({ cls := "ShapeSessions$State", name := "leastVersionAtWork", desc := "(I)I" } : Jvm.MethodName) prog_4_method_12_code (5 : Nat) (Option.some Jvm.ClassFile.FieldType.int)), (Jvm.Cond.methodLink "ShapeSessions$State" (137 : Nat) ({ cls := "ShapeSessions$Session", name := "leastVersionAtWork", desc := "(I)I" } : Jvm.MethodName)), (Jvm.Cond.instanceMethod ({ cls := "ShapeSessions$Session", name := "leastVersionAtWork", desc := "(I)I" } : Jvm.MethodName)), (Jvm.Cond.selects "ShapeSessions$Session" ({ cls := "ShapeSessions$Session", name := "leastVersionAtWork", desc := "(I)I" } : Jvm.MethodName) ({ cls := "ShapeSessions$Session", name := "leastVersionAtWork", desc := "(I)I" } : Jvm.MethodName)), (Jvm.Cond.code ({ cls := "ShapeSessions$Session", name := "leastVersionAtWork", desc := "(I)I" } : Jvm.MethodName) prog_3_method_12_code (3 : Nat) (Option.some Jvm.ClassFile.FieldType.int)), (Jvm.Cond.methodLink "ShapeSessions" (87 : Nat) ({ cls := "ShapeSessions$State", name := "handsWith", desc := "(I)I" } : Jvm.MethodName)), (Jvm.Cond.instanceMethod ({ cls := "ShapeSessions$State", name := "handsWith", desc := "(I)I" } : Jvm.MethodName)), (Jvm.Cond.selects "ShapeSessions$State" ({ cls := "ShapeSessions$State", name := "handsWith", desc := "(I)I" } : Jvm.MethodName) ({ cls := "ShapeSessions$State", name := "handsWith", desc := "(I)I" } : Jvm.MethodName)), (Jvm.Cond.code ({ cls := "ShapeSessions$State", name := "handsWith", desc := "(I)I" } : Jvm.MethodName) prog_4_method_13_code (4 : Nat) (Option.some Jvm.ClassFile.FieldType.int)), (Jvm.Cond.methodLink "ShapeSessions$State" (138 : Nat) ({ cls := "ShapeSessions$Session", name := "freshEntryOf", desc := "(I)I" } : Jvm.MethodName)), (Jvm.Cond.instanceMethod ({ cls := "ShapeSessions$Session", name := "freshEntryOf", desc := "(I)I" } : Jvm.MethodName))]
def ch_2_2 : List Cond := [(Jvm.Cond.selects "ShapeSessions$Session" ({ cls := "ShapeSessions$Session", name := "freshEntryOf", desc := "(I)I" } : Jvm.MethodName) ({ cls := "ShapeSessions$Session", name := "freshEntryOf", desc := "(I)I" } : Jvm.MethodName)), (Jvm.Cond.code ({ cls := "ShapeSessions$Session", name := "freshEntryOf", desc := "(I)I" } : Jvm.MethodName) prog_3_method_11_code (3 : Nat) (Option.some Jvm.ClassFile.FieldType.int)), (Jvm.Cond.methodLink "ShapeSessions" (90 : Nat) ({ cls := "ShapeSessions$State", name := "canChange", desc := "(I)Z" } : Jvm.MethodName)), (Jvm.Cond.instanceMethod ({ cls := "ShapeSessions$State", name := "canChange", desc := "(I)Z" } : Jvm.MethodName)), (Jvm.Cond.selects "ShapeSessions$State" ({ cls := "ShapeSessions$State", name := "canChange", desc := "(I)Z" } : Jvm.MethodName) ({ cls := "ShapeSessions$State", name := "canChange", desc := "(I)Z" } : Jvm.MethodName)), (Jvm.Cond.code ({ cls := "ShapeSessions$State", name := "canChange", desc := "(I)Z" } : Jvm.MethodName) prog_4_method_11_code (3 : Nat) (Option.some Jvm.ClassFile.FieldType.boolean)), (Jvm.Cond.methodLink "ShapeSessions$State" (134 : Nat) ({ cls := "ShapeSessions$State", name := "leastVersionAtWork", desc := "(I)I" } : Jvm.MethodName)), (Jvm.Cond.methodLink "ShapeSessionsLaw" (8 : Nat) ({ cls := "ShapeSessions", name := "count", desc := "(I)I" } : Jvm.MethodName)), (Jvm.Cond.instanceMethod ({ cls := "ShapeSessions", name := "count", desc := "(I)I" } : Jvm.MethodName)), (Jvm.Cond.selects "ShapeSessions" ({ cls := "ShapeSessions", name := "count", desc := "(I)I" } : Jvm.MethodName) ({ cls := "ShapeSessions", name := "count", desc := "(I)I" } : Jvm.MethodName)), (Jvm.Cond.code ({ cls := "ShapeSessions", name := "count", desc := "(I)I" } : Jvm.MethodName) prog_1_method_12_code (2 : Nat) (Option.some Jvm.ClassFile.FieldType.int)), (Jvm.Cond.methodLink "ShapeSessions" (184 : Nat) ({ cls := "ShapeSessions$State", name := "statementsAtWork", desc := "()I" } : Jvm.MethodName))]
def ch_2_3 : List Cond := [(Jvm.Cond.instanceMethod ({ cls := "ShapeSessions$State", name := "statementsAtWork", desc := "()I" } : Jvm.MethodName)), (Jvm.Cond.selects "ShapeSessions$State" ({ cls := "ShapeSessions$State", name := "statementsAtWork", desc := "()I" } : Jvm.MethodName) ({ cls := "ShapeSessions$State", name := "statementsAtWork", desc := "()I" } : Jvm.MethodName)), (Jvm.Cond.code ({ cls := "ShapeSessions$State", name := "statementsAtWork", desc := "()I" } : Jvm.MethodName) prog_4_method_17_code (3 : Nat) (Option.some Jvm.ClassFile.FieldType.int)), (Jvm.Cond.methodLink "ShapeSessions$State" (141 : Nat) ({ cls := "ShapeSessions$Session", name := "statementsAtWork", desc := "()I" } : Jvm.MethodName)), (Jvm.Cond.instanceMethod ({ cls := "ShapeSessions$Session", name := "statementsAtWork", desc := "()I" } : Jvm.MethodName)), (Jvm.Cond.selects "ShapeSessions$Session" ({ cls := "ShapeSessions$Session", name := "statementsAtWork", desc := "()I" } : Jvm.MethodName) ({ cls := "ShapeSessions$Session", name := "statementsAtWork", desc := "()I" } : Jvm.MethodName)), (Jvm.Cond.code ({ cls := "ShapeSessions$Session", name := "statementsAtWork", desc := "()I" } : Jvm.MethodName) prog_3_method_14_code (3 : Nat) (Option.some Jvm.ClassFile.FieldType.int)), (Jvm.Cond.methodLink "ShapeSessions" (188 : Nat) ({ cls := "ShapeSessions$State", name := "tablesThatCanChange", desc := "()I" } : Jvm.MethodName)), (Jvm.Cond.instanceMethod ({ cls := "ShapeSessions$State", name := "tablesThatCanChange", desc := "()I" } : Jvm.MethodName)), (Jvm.Cond.selects "ShapeSessions$State" ({ cls := "ShapeSessions$State", name := "tablesThatCanChange", desc := "()I" } : Jvm.MethodName) ({ cls := "ShapeSessions$State", name := "tablesThatCanChange", desc := "()I" } : Jvm.MethodName)), (Jvm.Cond.code ({ cls := "ShapeSessions$State", name := "tablesThatCanChange", desc := "()I" } : Jvm.MethodName) prog_4_method_14_code (3 : Nat) (Option.some Jvm.ClassFile.FieldType.int)), (Jvm.Cond.methodLink "ShapeSessions$State" (74 : Nat) ({ cls := "ShapeSessions$State", name := "canChange", desc := "(I)Z" } : Jvm.MethodName))]
def ch_2_4 : List Cond := [(Jvm.Cond.methodLink "ShapeSessions" (191 : Nat) ({ cls := "ShapeSessions$State", name := "loadsOfAll", desc := "()I" } : Jvm.MethodName)), (Jvm.Cond.instanceMethod ({ cls := "ShapeSessions$State", name := "loadsOfAll", desc := "()I" } : Jvm.MethodName)), (Jvm.Cond.selects "ShapeSessions$State" ({ cls := "ShapeSessions$State", name := "loadsOfAll", desc := "()I" } : Jvm.MethodName) ({ cls := "ShapeSessions$State", name := "loadsOfAll", desc := "()I" } : Jvm.MethodName)), (Jvm.Cond.code ({ cls := "ShapeSessions$State", name := "loadsOfAll", desc := "()I" } : Jvm.MethodName) prog_4_method_18_code (3 : Nat) (Option.some Jvm.ClassFile.FieldType.int)), (Jvm.Cond.methodLink "ShapeSessionsLaw" (81 : Nat) ({ cls := "ShapeSessions", name := "bestRoom", desc := "(I)I" } : Jvm.MethodName)), (Jvm.Cond.instanceMethod ({ cls := "ShapeSessions", name := "bestRoom", desc := "(I)I" } : Jvm.MethodName)), (Jvm.Cond.selects "ShapeSessions" ({ cls := "ShapeSessions", name := "bestRoom", desc := "(I)I" } : Jvm.MethodName) ({ cls := "ShapeSessions", name := "bestRoom", desc := "(I)I" } : Jvm.MethodName)), (Jvm.Cond.code ({ cls := "ShapeSessions", name := "bestRoom", desc := "(I)I" } : Jvm.MethodName) prog_1_method_15_code (6 : Nat) (Option.some Jvm.ClassFile.FieldType.int)), (Jvm.Cond.methodLink "ShapeSessions" (203 : Nat) ({ cls := "ShapeSessions", name := "loadsWithRoom", desc := "(I)I" } : Jvm.MethodName)), (Jvm.Cond.privateMethod ({ cls := "ShapeSessions", name := "loadsWithRoom", desc := "(I)I" } : Jvm.MethodName)), (Jvm.Cond.instanceMethod ({ cls := "ShapeSessions", name := "loadsWithRoom", desc := "(I)I" } : Jvm.MethodName)), (Jvm.Cond.code ({ cls := "ShapeSessions", name := "loadsWithRoom", desc := "(I)I" } : Jvm.MethodName) prog_1_method_16_code (5 : Nat) (Option.some Jvm.ClassFile.FieldType.int))]
def ch_2_5 : List Cond := [(Jvm.Cond.methodLink "ShapeSessions" (206 : Nat) ({ cls := "java/lang/Math", name := "max", desc := "(II)I" } : Jvm.MethodName)), (Jvm.Cond.static ({ cls := "java/lang/Math", name := "max", desc := "(II)I" } : Jvm.MethodName)), (Jvm.Cond.code ({ cls := "java/lang/Math", name := "max", desc := "(II)I" } : Jvm.MethodName) prog_9_method_65_code (2 : Nat) (Option.some Jvm.ClassFile.FieldType.int)), (Jvm.Cond.methodLink "ShapeSessions" (65 : Nat) ({ cls := "ShapeSessions$State", name := "begin", desc := "(II)I" } : Jvm.MethodName)), (Jvm.Cond.instanceMethod ({ cls := "ShapeSessions$State", name := "begin", desc := "(II)I" } : Jvm.MethodName)), (Jvm.Cond.selects "ShapeSessions$State" ({ cls := "ShapeSessions$State", name := "begin", desc := "(II)I" } : Jvm.MethodName) ({ cls := "ShapeSessions$State", name := "begin", desc := "(II)I" } : Jvm.MethodName)), (Jvm.Cond.code ({ cls := "ShapeSessions$State", name := "begin", desc := "(II)I" } : Jvm.MethodName) prog_4_method_6_code (6 : Nat) (Option.some Jvm.ClassFile.FieldType.int)), (Jvm.Cond.methodLink "ShapeSessions$State" (82 : Nat) ({ cls := "ShapeSessions$Session", name := "idleWork", desc := "()LShapeSessions$Work;" } : Jvm.MethodName)), (Jvm.Cond.instanceMethod ({ cls := "ShapeSessions$Session", name := "idleWork", desc := "()LShapeSessions$Work;" } : Jvm.MethodName)), (Jvm.Cond.selects "ShapeSessions$Session" ({ cls := "ShapeSessions$Session", name := "idleWork", desc := "()LShapeSessions$Work;" } : Jvm.MethodName) ({ cls := "ShapeSessions$Session", name := "idleWork", desc := "()LShapeSessions$Work;" } : Jvm.MethodName)), (Jvm.Cond.code ({ cls := "ShapeSessions$Session", name := "idleWork", desc := "()LShapeSessions$Work;" } : Jvm.MethodName) prog_3_method_16_code (1 : Nat) (Option.some (Jvm.ClassFile.FieldType.object "ShapeSessions$Work"))), (Jvm.Cond.methodLink "ShapeSessions$Session" (112 : Nat) ({ cls := "ShapeSessions$Session", name := "workWithNumber", desc := "(I)LShapeSessions$Work;" } : Jvm.MethodName))]
def ch_2_6 : List Cond := [(Jvm.Cond.privateMethod ({ cls := "ShapeSessions$Session", name := "workWithNumber", desc := "(I)LShapeSessions$Work;" } : Jvm.MethodName)), (Jvm.Cond.instanceMethod ({ cls := "ShapeSessions$Session", name := "workWithNumber", desc := "(I)LShapeSessions$Work;" } : Jvm.MethodName)), (Jvm.Cond.code ({ cls := "ShapeSessions$Session", name := "workWithNumber", desc := "(I)LShapeSessions$Work;" } : Jvm.MethodName) prog_3_method_18_code (3 : Nat) (Option.some (Jvm.ClassFile.FieldType.object "ShapeSessions$Work"))), (Jvm.Cond.methodLink "ShapeSessions$State" (89 : Nat) ({ cls := "ShapeSessions$Session", name := "learn", desc := "(I[I[I)V" } : Jvm.MethodName)), (Jvm.Cond.instanceMethod ({ cls := "ShapeSessions$Session", name := "learn", desc := "(I[I[I)V" } : Jvm.MethodName)), (Jvm.Cond.selects "ShapeSessions$Session" ({ cls := "ShapeSessions$Session", name := "learn", desc := "(I[I[I)V" } : Jvm.MethodName) ({ cls := "ShapeSessions$Session", name := "learn", desc := "(I[I[I)V" } : Jvm.MethodName)), (Jvm.Cond.code ({ cls := "ShapeSessions$Session", name := "learn", desc := "(I[I[I)V" } : Jvm.MethodName) prog_3_method_4_code (6 : Nat) (Option.none : Option Jvm.ClassFile.FieldType)), (Jvm.Cond.methodLink "ShapeSessions$Session" (70 : Nat) ({ cls := "ShapeSessions$Session", name := "takeOut", desc := "(I)V" } : Jvm.MethodName)), (Jvm.Cond.privateMethod ({ cls := "ShapeSessions$Session", name := "takeOut", desc := "(I)V" } : Jvm.MethodName)), (Jvm.Cond.instanceMethod ({ cls := "ShapeSessions$Session", name := "takeOut", desc := "(I)V" } : Jvm.MethodName)), (Jvm.Cond.code ({ cls := "ShapeSessions$Session", name := "takeOut", desc := "(I)V" } : Jvm.MethodName) prog_3_method_10_code (4 : Nat) (Option.none : Option Jvm.ClassFile.FieldType)), (Jvm.Cond.methodLinkNest "ShapeSessions$State" (107 : Nat) ({ cls := "ShapeSessions", name := "contains", desc := "(II)Z" } : Jvm.MethodName) "ShapeSessions")]
def ch_2_7 : List Cond := [(Jvm.Cond.static ({ cls := "ShapeSessions", name := "contains", desc := "(II)Z" } : Jvm.MethodName)), (Jvm.Cond.code ({ cls := "ShapeSessions", name := "contains", desc := "(II)Z" } : Jvm.MethodName) prog_1_method_28_code (2 : Nat) (Option.some Jvm.ClassFile.FieldType.boolean)), (Jvm.Cond.methodLink "ShapeSessions$State" (111 : Nat) ({ cls := "ShapeSessions$Session", name := "use", desc := "(LShapeSessions$Work;IIII)Z" } : Jvm.MethodName)), (Jvm.Cond.instanceMethod ({ cls := "ShapeSessions$Session", name := "use", desc := "(LShapeSessions$Work;IIII)Z" } : Jvm.MethodName)), (Jvm.Cond.selects "ShapeSessions$Session" ({ cls := "ShapeSessions$Session", name := "use", desc := "(LShapeSessions$Work;IIII)Z" } : Jvm.MethodName) ({ cls := "ShapeSessions$Session", name := "use", desc := "(LShapeSessions$Work;IIII)Z" } : Jvm.MethodName)), (Jvm.Cond.code ({ cls := "ShapeSessions$Session", name := "use", desc := "(LShapeSessions$Work;IIII)Z" } : Jvm.MethodName) prog_3_method_5_code (8 : Nat) (Option.some Jvm.ClassFile.FieldType.boolean)), (Jvm.Cond.methodLink "ShapeSessions$Session" (74 : Nat) ({ cls := "ShapeSessions$Session", name := "freshEntryOf", desc := "(I)I" } : Jvm.MethodName)), (Jvm.Cond.methodLink "ShapeSessions$Session" (78 : Nat) ({ cls := "ShapeSessions$Session", name := "shrinkTo", desc := "(I)V" } : Jvm.MethodName)), (Jvm.Cond.instanceMethod ({ cls := "ShapeSessions$Session", name := "shrinkTo", desc := "(I)V" } : Jvm.MethodName)), (Jvm.Cond.selects "ShapeSessions$Session" ({ cls := "ShapeSessions$Session", name := "shrinkTo", desc := "(I)V" } : Jvm.MethodName) ({ cls := "ShapeSessions$Session", name := "shrinkTo", desc := "(I)V" } : Jvm.MethodName)), (Jvm.Cond.code ({ cls := "ShapeSessions$Session", name := "shrinkTo", desc := "(I)V" } : Jvm.MethodName) prog_3_method_7_code (4 : Nat) (Option.none : Option Jvm.ClassFile.FieldType)), (Jvm.Cond.methodLink "ShapeSessions$Session" (95 : Nat) ({ cls := "ShapeSessions$Session", name := "longestUnused", desc := "()I" } : Jvm.MethodName))]
def ch_2_8 : List Cond := [(Jvm.Cond.privateMethod ({ cls := "ShapeSessions$Session", name := "longestUnused", desc := "()I" } : Jvm.MethodName)), (Jvm.Cond.instanceMethod ({ cls := "ShapeSessions$Session", name := "longestUnused", desc := "()I" } : Jvm.MethodName)), (Jvm.Cond.code ({ cls := "ShapeSessions$Session", name := "longestUnused", desc := "()I" } : Jvm.MethodName) prog_3_method_8_code (3 : Nat) (Option.some Jvm.ClassFile.FieldType.int)), (Jvm.Cond.methodLink "ShapeSessions$Session" (81 : Nat) ({ cls := "ShapeSessions$Session", name := "putIn", desc := "(III)I" } : Jvm.MethodName)), (Jvm.Cond.privateMethod ({ cls := "ShapeSessions$Session", name := "putIn", desc := "(III)I" } : Jvm.MethodName)), (Jvm.Cond.instanceMethod ({ cls := "ShapeSessions$Session", name := "putIn", desc := "(III)I" } : Jvm.MethodName)), (Jvm.Cond.code ({ cls := "ShapeSessions$Session", name := "putIn", desc := "(III)I" } : Jvm.MethodName) prog_3_method_9_code (6 : Nat) (Option.some Jvm.ClassFile.FieldType.int)), (Jvm.Cond.methodLink "ShapeSessions$Session" (99 : Nat) ({ cls := "ShapeSessions$Entry", name := "comesBehind", desc := "(II)Z" } : Jvm.MethodName)), (Jvm.Cond.instanceMethod ({ cls := "ShapeSessions$Entry", name := "comesBehind", desc := "(II)Z" } : Jvm.MethodName)), (Jvm.Cond.selects "ShapeSessions$Entry" ({ cls := "ShapeSessions$Entry", name := "comesBehind", desc := "(II)Z" } : Jvm.MethodName) ({ cls := "ShapeSessions$Entry", name := "comesBehind", desc := "(II)Z" } : Jvm.MethodName)), (Jvm.Cond.code ({ cls := "ShapeSessions$Entry", name := "comesBehind", desc := "(II)Z" } : Jvm.MethodName) prog_2_method_3_code (3 : Nat) (Option.some Jvm.ClassFile.FieldType.boolean)), (Jvm.Cond.methodLink "ShapeSessions" (68 : Nat) ({ cls := "ShapeSessions$State", name := "finish", desc := "(I)I" } : Jvm.MethodName))]
def ch_2_9 : List Cond := [(Jvm.Cond.instanceMethod ({ cls := "ShapeSessions$State", name := "finish", desc := "(I)I" } : Jvm.MethodName)), (Jvm.Cond.selects "ShapeSessions$State" ({ cls := "ShapeSessions$State", name := "finish", desc := "(I)I" } : Jvm.MethodName) ({ cls := "ShapeSessions$State", name := "finish", desc := "(I)I" } : Jvm.MethodName)), (Jvm.Cond.code ({ cls := "ShapeSessions$State", name := "finish", desc := "(I)I" } : Jvm.MethodName) prog_4_method_7_code (4 : Nat) (Option.some Jvm.ClassFile.FieldType.int)), (Jvm.Cond.methodLink "ShapeSessions$State" (115 : Nat) ({ cls := "ShapeSessions$Session", name := "workOf", desc := "(I)LShapeSessions$Work;" } : Jvm.MethodName)), (Jvm.Cond.instanceMethod ({ cls := "ShapeSessions$Session", name := "workOf", desc := "(I)LShapeSessions$Work;" } : Jvm.MethodName)), (Jvm.Cond.selects "ShapeSessions$Session" ({ cls := "ShapeSessions$Session", name := "workOf", desc := "(I)LShapeSessions$Work;" } : Jvm.MethodName) ({ cls := "ShapeSessions$Session", name := "workOf", desc := "(I)LShapeSessions$Work;" } : Jvm.MethodName)), (Jvm.Cond.code ({ cls := "ShapeSessions$Session", name := "workOf", desc := "(I)LShapeSessions$Work;" } : Jvm.MethodName) prog_3_method_17_code (2 : Nat) (Option.some (Jvm.ClassFile.FieldType.object "ShapeSessions$Work"))), (Jvm.Cond.methodLink "ShapeSessions$State" (119 : Nat) ({ cls := "ShapeSessions$Session", name := "release", desc := "(LShapeSessions$Work;I)I" } : Jvm.MethodName)), (Jvm.Cond.instanceMethod ({ cls := "ShapeSessions$Session", name := "release", desc := "(LShapeSessions$Work;I)I" } : Jvm.MethodName)), (Jvm.Cond.selects "ShapeSessions$Session" ({ cls := "ShapeSessions$Session", name := "release", desc := "(LShapeSessions$Work;I)I" } : Jvm.MethodName) ({ cls := "ShapeSessions$Session", name := "release", desc := "(LShapeSessions$Work;I)I" } : Jvm.MethodName)), (Jvm.Cond.code ({ cls := "ShapeSessions$Session", name := "release", desc := "(LShapeSessions$Work;I)I" } : Jvm.MethodName) prog_3_method_6_code (6 : Nat) (Option.some Jvm.ClassFile.FieldType.int)), (Jvm.Cond.methodLink "ShapeSessions$Session" (91 : Nat) ({ cls := "ShapeSessions$Work", name := "worksBy", desc := "(LShapeSessions$Entry;)Z" } : Jvm.MethodName))]
def ch_2_10 : List Cond := [(Jvm.Cond.instanceMethod ({ cls := "ShapeSessions$Work", name := "worksBy", desc := "(LShapeSessions$Entry;)Z" } : Jvm.MethodName)), (Jvm.Cond.selects "ShapeSessions$Work" ({ cls := "ShapeSessions$Work", name := "worksBy", desc := "(LShapeSessions$Entry;)Z" } : Jvm.MethodName) ({ cls := "ShapeSessions$Work", name := "worksBy", desc := "(LShapeSessions$Entry;)Z" } : Jvm.MethodName)), (Jvm.Cond.code ({ cls := "ShapeSessions$Work", name := "worksBy", desc := "(LShapeSessions$Entry;)Z" } : Jvm.MethodName) prog_6_method_3_code (2 : Nat) (Option.some Jvm.ClassFile.FieldType.boolean)), (Jvm.Cond.methodLinkNest "ShapeSessions$Work" (30 : Nat) ({ cls := "ShapeSessions", name := "contains", desc := "(II)Z" } : Jvm.MethodName) "ShapeSessions"), (Jvm.Cond.methodLink "ShapeSessionsLaw" (66 : Nat) ({ cls := "ShapeSessionsLaw", name := "cell", desc := "([II)I" } : Jvm.MethodName)), (Jvm.Cond.static ({ cls := "ShapeSessionsLaw", name := "cell", desc := "([II)I" } : Jvm.MethodName)), (Jvm.Cond.code ({ cls := "ShapeSessionsLaw", name := "cell", desc := "([II)I" } : Jvm.MethodName) method_2_code (2 : Nat) (Option.some Jvm.ClassFile.FieldType.int)), (Jvm.Cond.methodLink "ShapeSessionsLaw" (14 : Nat) ({ cls := "ShapeSessionsLaw", name := "low", desc := "(II)I" } : Jvm.MethodName)), (Jvm.Cond.static ({ cls := "ShapeSessionsLaw", name := "low", desc := "(II)I" } : Jvm.MethodName)), (Jvm.Cond.code ({ cls := "ShapeSessionsLaw", name := "low", desc := "(II)I" } : Jvm.MethodName) method_3_code (2 : Nat) (Option.some Jvm.ClassFile.FieldType.int)), (Jvm.Cond.constant "ShapeSessionsLaw" (7 : Nat) (2147483647 : Int32)), (Jvm.Cond.methodLink "ShapeSessionsLaw" (70 : Nat) ({ cls := "ShapeSessionsLaw", name := "does", desc := "(LShapeSessions;I)I" } : Jvm.MethodName))]
def ch_2_11 : List Cond := [(Jvm.Cond.static ({ cls := "ShapeSessionsLaw", name := "does", desc := "(LShapeSessions;I)I" } : Jvm.MethodName)), (Jvm.Cond.code ({ cls := "ShapeSessionsLaw", name := "does", desc := "(LShapeSessions;I)I" } : Jvm.MethodName) method_5_code (2 : Nat) (Option.some Jvm.ClassFile.FieldType.int)), (Jvm.Cond.methodLink "ShapeSessionsLaw" (20 : Nat) ({ cls := "ShapeSessions", name := "alter", desc := "(II)I" } : Jvm.MethodName)), (Jvm.Cond.instanceMethod ({ cls := "ShapeSessions", name := "alter", desc := "(II)I" } : Jvm.MethodName)), (Jvm.Cond.selects "ShapeSessions" ({ cls := "ShapeSessions", name := "alter", desc := "(II)I" } : Jvm.MethodName) ({ cls := "ShapeSessions", name := "alter", desc := "(II)I" } : Jvm.MethodName)), (Jvm.Cond.code ({ cls := "ShapeSessions", name := "alter", desc := "(II)I" } : Jvm.MethodName) prog_1_method_2_code (3 : Nat) (Option.some Jvm.ClassFile.FieldType.int)), (Jvm.Cond.methodLink "ShapeSessions" (53 : Nat) ({ cls := "ShapeSessions$State", name := "copyFrom", desc := "(LShapeSessions$State;)V" } : Jvm.MethodName)), (Jvm.Cond.instanceMethod ({ cls := "ShapeSessions$State", name := "copyFrom", desc := "(LShapeSessions$State;)V" } : Jvm.MethodName)), (Jvm.Cond.selects "ShapeSessions$State" ({ cls := "ShapeSessions$State", name := "copyFrom", desc := "(LShapeSessions$State;)V" } : Jvm.MethodName) ({ cls := "ShapeSessions$State", name := "copyFrom", desc := "(LShapeSessions$State;)V" } : Jvm.MethodName)), (Jvm.Cond.code ({ cls := "ShapeSessions$State", name := "copyFrom", desc := "(LShapeSessions$State;)V" } : Jvm.MethodName) prog_4_method_3_code (3 : Nat) (Option.none : Option Jvm.ClassFile.FieldType)), (Jvm.Cond.methodLink "ShapeSessions$State" (56 : Nat) ({ cls := "ShapeSessions$Session", name := "copyFrom", desc := "(LShapeSessions$Session;)V" } : Jvm.MethodName)), (Jvm.Cond.instanceMethod ({ cls := "ShapeSessions$Session", name := "copyFrom", desc := "(LShapeSessions$Session;)V" } : Jvm.MethodName))]
def ch_2_12 : List Cond := [(Jvm.Cond.selects "ShapeSessions$Session" ({ cls := "ShapeSessions$Session", name := "copyFrom", desc := "(LShapeSessions$Session;)V" } : Jvm.MethodName) ({ cls := "ShapeSessions$Session", name := "copyFrom", desc := "(LShapeSessions$Session;)V" } : Jvm.MethodName)), (Jvm.Cond.code ({ cls := "ShapeSessions$Session", name := "copyFrom", desc := "(LShapeSessions$Session;)V" } : Jvm.MethodName) prog_3_method_3_code (3 : Nat) (Option.none : Option Jvm.ClassFile.FieldType)), (Jvm.Cond.methodLink "ShapeSessions$Session" (50 : Nat) ({ cls := "ShapeSessions$Entry", name := "copyFrom", desc := "(LShapeSessions$Entry;)V" } : Jvm.MethodName)), (Jvm.Cond.instanceMethod ({ cls := "ShapeSessions$Entry", name := "copyFrom", desc := "(LShapeSessions$Entry;)V" } : Jvm.MethodName)), (Jvm.Cond.selects "ShapeSessions$Entry" ({ cls := "ShapeSessions$Entry", name := "copyFrom", desc := "(LShapeSessions$Entry;)V" } : Jvm.MethodName) ({ cls := "ShapeSessions$Entry", name := "copyFrom", desc := "(LShapeSessions$Entry;)V" } : Jvm.MethodName)), (Jvm.Cond.code ({ cls := "ShapeSessions$Entry", name := "copyFrom", desc := "(LShapeSessions$Entry;)V" } : Jvm.MethodName) prog_2_method_2_code (2 : Nat) (Option.none : Option Jvm.ClassFile.FieldType)), (Jvm.Cond.methodLink "ShapeSessions$Session" (54 : Nat) ({ cls := "ShapeSessions$Work", name := "copyFrom", desc := "(LShapeSessions$Work;)V" } : Jvm.MethodName)), (Jvm.Cond.instanceMethod ({ cls := "ShapeSessions$Work", name := "copyFrom", desc := "(LShapeSessions$Work;)V" } : Jvm.MethodName)), (Jvm.Cond.selects "ShapeSessions$Work" ({ cls := "ShapeSessions$Work", name := "copyFrom", desc := "(LShapeSessions$Work;)V" } : Jvm.MethodName) ({ cls := "ShapeSessions$Work", name := "copyFrom", desc := "(LShapeSessions$Work;)V" } : Jvm.MethodName)), (Jvm.Cond.code ({ cls := "ShapeSessions$Work", name := "copyFrom", desc := "(LShapeSessions$Work;)V" } : Jvm.MethodName) prog_6_method_2_code (3 : Nat) (Option.none : Option Jvm.ClassFile.FieldType)), (Jvm.Cond.methodLink "ShapeSessions" (57 : Nat) ({ cls := "ShapeSessions$State", name := "changeTable", desc := "(II)I" } : Jvm.MethodName)), (Jvm.Cond.instanceMethod ({ cls := "ShapeSessions$State", name := "changeTable", desc := "(II)I" } : Jvm.MethodName))]
def ch_2_13 : List Cond := [(Jvm.Cond.selects "ShapeSessions$State" ({ cls := "ShapeSessions$State", name := "changeTable", desc := "(II)I" } : Jvm.MethodName) ({ cls := "ShapeSessions$State", name := "changeTable", desc := "(II)I" } : Jvm.MethodName)), (Jvm.Cond.code ({ cls := "ShapeSessions$State", name := "changeTable", desc := "(II)I" } : Jvm.MethodName) prog_4_method_5_code (4 : Nat) (Option.some Jvm.ClassFile.FieldType.int)), (Jvm.Cond.methodLink "ShapeSessions$State" (78 : Nat) ({ cls := "ShapeSessions$State", name := "arrive", desc := "(I)V" } : Jvm.MethodName)), (Jvm.Cond.privateMethod ({ cls := "ShapeSessions$State", name := "arrive", desc := "(I)V" } : Jvm.MethodName)), (Jvm.Cond.instanceMethod ({ cls := "ShapeSessions$State", name := "arrive", desc := "(I)V" } : Jvm.MethodName)), (Jvm.Cond.code ({ cls := "ShapeSessions$State", name := "arrive", desc := "(I)V" } : Jvm.MethodName) prog_4_method_9_code (3 : Nat) (Option.none : Option Jvm.ClassFile.FieldType)), (Jvm.Cond.methodLink "ShapeSessions" (61 : Nat) ({ cls := "ShapeSessions", name := "settle", desc := "(I)I" } : Jvm.MethodName)), (Jvm.Cond.privateMethod ({ cls := "ShapeSessions", name := "settle", desc := "(I)I" } : Jvm.MethodName)), (Jvm.Cond.instanceMethod ({ cls := "ShapeSessions", name := "settle", desc := "(I)I" } : Jvm.MethodName)), (Jvm.Cond.code ({ cls := "ShapeSessions", name := "settle", desc := "(I)I" } : Jvm.MethodName) prog_1_method_20_code (2 : Nat) (Option.some Jvm.ClassFile.FieldType.int)), (Jvm.Cond.methodLink "ShapeSessions" (217 : Nat) ({ cls := "ShapeSessions", name := "record", desc := "()V" } : Jvm.MethodName)), (Jvm.Cond.privateMethod ({ cls := "ShapeSessions", name := "record", desc := "()V" } : Jvm.MethodName))]
def ch_2_14 : List Cond := [(Jvm.Cond.instanceMethod ({ cls := "ShapeSessions", name := "record", desc := "()V" } : Jvm.MethodName)), (Jvm.Cond.code ({ cls := "ShapeSessions", name := "record", desc := "()V" } : Jvm.MethodName) prog_1_method_21_code (3 : Nat) (Option.none : Option Jvm.ClassFile.FieldType)), (Jvm.Cond.methodLink "ShapeSessionsLaw" (23 : Nat) ({ cls := "ShapeSessions", name := "set", desc := "(II)I" } : Jvm.MethodName)), (Jvm.Cond.instanceMethod ({ cls := "ShapeSessions", name := "set", desc := "(II)I" } : Jvm.MethodName)), (Jvm.Cond.selects "ShapeSessions" ({ cls := "ShapeSessions", name := "set", desc := "(II)I" } : Jvm.MethodName) ({ cls := "ShapeSessions", name := "set", desc := "(II)I" } : Jvm.MethodName)), (Jvm.Cond.code ({ cls := "ShapeSessions", name := "set", desc := "(II)I" } : Jvm.MethodName) prog_1_method_6_code (3 : Nat) (Option.some Jvm.ClassFile.FieldType.int)), (Jvm.Cond.methodLink "ShapeSessions" (74 : Nat) ({ cls := "ShapeSessions$State", name := "adjust", desc := "(II)I" } : Jvm.MethodName)), (Jvm.Cond.instanceMethod ({ cls := "ShapeSessions$State", name := "adjust", desc := "(II)I" } : Jvm.MethodName)), (Jvm.Cond.selects "ShapeSessions$State" ({ cls := "ShapeSessions$State", name := "adjust", desc := "(II)I" } : Jvm.MethodName) ({ cls := "ShapeSessions$State", name := "adjust", desc := "(II)I" } : Jvm.MethodName)), (Jvm.Cond.code ({ cls := "ShapeSessions$State", name := "adjust", desc := "(II)I" } : Jvm.MethodName) prog_4_method_10_code (5 : Nat) (Option.some Jvm.ClassFile.FieldType.int)), (Jvm.Cond.methodLink "ShapeSessions$State" (131 : Nat) ({ cls := "ShapeSessions$Session", name := "shrinkTo", desc := "(I)V" } : Jvm.MethodName)), (Jvm.Cond.methodLink "ShapeSessionsLaw" (26 : Nat) ({ cls := "ShapeSessions", name := "tick", desc := "(I)I" } : Jvm.MethodName))]
def ch_2_15 : List Cond := [(Jvm.Cond.instanceMethod ({ cls := "ShapeSessions", name := "tick", desc := "(I)I" } : Jvm.MethodName)), (Jvm.Cond.selects "ShapeSessions" ({ cls := "ShapeSessions", name := "tick", desc := "(I)I" } : Jvm.MethodName) ({ cls := "ShapeSessions", name := "tick", desc := "(I)I" } : Jvm.MethodName)), (Jvm.Cond.code ({ cls := "ShapeSessions", name := "tick", desc := "(I)I" } : Jvm.MethodName) prog_1_method_5_code (2 : Nat) (Option.some Jvm.ClassFile.FieldType.int)), (Jvm.Cond.methodLink "ShapeSessions" (71 : Nat) ({ cls := "ShapeSessions$State", name := "pass", desc := "(I)I" } : Jvm.MethodName)), (Jvm.Cond.instanceMethod ({ cls := "ShapeSessions$State", name := "pass", desc := "(I)I" } : Jvm.MethodName)), (Jvm.Cond.selects "ShapeSessions$State" ({ cls := "ShapeSessions$State", name := "pass", desc := "(I)I" } : Jvm.MethodName) ({ cls := "ShapeSessions$State", name := "pass", desc := "(I)I" } : Jvm.MethodName)), (Jvm.Cond.code ({ cls := "ShapeSessions$State", name := "pass", desc := "(I)I" } : Jvm.MethodName) prog_4_method_8_code (6 : Nat) (Option.some Jvm.ClassFile.FieldType.int)), (Jvm.Cond.methodLink "ShapeSessions$State" (123 : Nat) ({ cls := "java/lang/Math", name := "min", desc := "(II)I" } : Jvm.MethodName)), (Jvm.Cond.static ({ cls := "java/lang/Math", name := "min", desc := "(II)I" } : Jvm.MethodName)), (Jvm.Cond.code ({ cls := "java/lang/Math", name := "min", desc := "(II)I" } : Jvm.MethodName) prog_9_method_69_code (2 : Nat) (Option.some Jvm.ClassFile.FieldType.int)), (Jvm.Cond.methodLink "ShapeSessionsLaw" (29 : Nat) ({ cls := "ShapeSessionsLaw", name := "open", desc := "(LShapeSessions;I)I" } : Jvm.MethodName)), (Jvm.Cond.static ({ cls := "ShapeSessionsLaw", name := "open", desc := "(LShapeSessions;I)I" } : Jvm.MethodName))]
def ch_2_16 : List Cond := [(Jvm.Cond.code ({ cls := "ShapeSessionsLaw", name := "open", desc := "(LShapeSessions;I)I" } : Jvm.MethodName) method_4_code (4 : Nat) (Option.some Jvm.ClassFile.FieldType.int)), (Jvm.Cond.methodLink "ShapeSessionsLaw" (33 : Nat) ({ cls := "ShapeSessions", name := "end", desc := "(I)I" } : Jvm.MethodName)), (Jvm.Cond.instanceMethod ({ cls := "ShapeSessions", name := "end", desc := "(I)I" } : Jvm.MethodName)), (Jvm.Cond.selects "ShapeSessions" ({ cls := "ShapeSessions", name := "end", desc := "(I)I" } : Jvm.MethodName) ({ cls := "ShapeSessions", name := "end", desc := "(I)I" } : Jvm.MethodName)), (Jvm.Cond.code ({ cls := "ShapeSessions", name := "end", desc := "(I)I" } : Jvm.MethodName) prog_1_method_4_code (2 : Nat) (Option.some Jvm.ClassFile.FieldType.int)), (Jvm.Cond.methodLink "ShapeSessionsLaw" (36 : Nat) ({ cls := "ShapeSessions", name := "start", desc := "(II)I" } : Jvm.MethodName)), (Jvm.Cond.instanceMethod ({ cls := "ShapeSessions", name := "start", desc := "(II)I" } : Jvm.MethodName)), (Jvm.Cond.selects "ShapeSessions" ({ cls := "ShapeSessions", name := "start", desc := "(II)I" } : Jvm.MethodName) ({ cls := "ShapeSessions", name := "start", desc := "(II)I" } : Jvm.MethodName)), (Jvm.Cond.code ({ cls := "ShapeSessions", name := "start", desc := "(II)I" } : Jvm.MethodName) prog_1_method_3_code (3 : Nat) (Option.some Jvm.ClassFile.FieldType.int)), (Jvm.Cond.methodLink "ShapeSessionsLaw" (73 : Nat) ({ cls := "ShapeSessionsLaw", name := "areHandsSo", desc := "(LShapeSessions;)Z" } : Jvm.MethodName)), (Jvm.Cond.static ({ cls := "ShapeSessionsLaw", name := "areHandsSo", desc := "(LShapeSessions;)Z" } : Jvm.MethodName)), (Jvm.Cond.code ({ cls := "ShapeSessionsLaw", name := "areHandsSo", desc := "(LShapeSessions;)Z" } : Jvm.MethodName) method_6_code (15 : Nat) (Option.some Jvm.ClassFile.FieldType.boolean))]
def ch_2_17 : List Cond := [(Jvm.Cond.methodLink "ShapeSessionsLaw" (39 : Nat) ({ cls := "ShapeSessions", name := "sessionOf", desc := "(II)I" } : Jvm.MethodName)), (Jvm.Cond.instanceMethod ({ cls := "ShapeSessions", name := "sessionOf", desc := "(II)I" } : Jvm.MethodName)), (Jvm.Cond.selects "ShapeSessions" ({ cls := "ShapeSessions", name := "sessionOf", desc := "(II)I" } : Jvm.MethodName) ({ cls := "ShapeSessions", name := "sessionOf", desc := "(II)I" } : Jvm.MethodName)), (Jvm.Cond.code ({ cls := "ShapeSessions", name := "sessionOf", desc := "(II)I" } : Jvm.MethodName) prog_1_method_8_code (4 : Nat) (Option.some Jvm.ClassFile.FieldType.int)), (Jvm.Cond.methodLink "ShapeSessions" (103 : Nat) ({ cls := "ShapeSessions$State", name := "noticesOnTheirWay", desc := "()I" } : Jvm.MethodName)), (Jvm.Cond.instanceMethod ({ cls := "ShapeSessions$State", name := "noticesOnTheirWay", desc := "()I" } : Jvm.MethodName)), (Jvm.Cond.selects "ShapeSessions$State" ({ cls := "ShapeSessions$State", name := "noticesOnTheirWay", desc := "()I" } : Jvm.MethodName) ({ cls := "ShapeSessions$State", name := "noticesOnTheirWay", desc := "()I" } : Jvm.MethodName)), (Jvm.Cond.code ({ cls := "ShapeSessions$State", name := "noticesOnTheirWay", desc := "()I" } : Jvm.MethodName) prog_4_method_15_code (3 : Nat) (Option.some Jvm.ClassFile.FieldType.int)), (Jvm.Cond.methodLink "ShapeSessions" (110 : Nat) ({ cls := "ShapeSessions$Session", name := "staleInHand", desc := "()I" } : Jvm.MethodName)), (Jvm.Cond.instanceMethod ({ cls := "ShapeSessions$Session", name := "staleInHand", desc := "()I" } : Jvm.MethodName)), (Jvm.Cond.selects "ShapeSessions$Session" ({ cls := "ShapeSessions$Session", name := "staleInHand", desc := "()I" } : Jvm.MethodName) ({ cls := "ShapeSessions$Session", name := "staleInHand", desc := "()I" } : Jvm.MethodName)), (Jvm.Cond.code ({ cls := "ShapeSessions$Session", name := "staleInHand", desc := "()I" } : Jvm.MethodName) prog_3_method_13_code (3 : Nat) (Option.some Jvm.ClassFile.FieldType.int))]
def ch_2_18 : List Cond := [(Jvm.Cond.methodLink "ShapeSessions" (113 : Nat) ({ cls := "ShapeSessions$Session", name := "statementsAtWork", desc := "()I" } : Jvm.MethodName)), (Jvm.Cond.methodLink "ShapeSessionsLaw" (42 : Nat) ({ cls := "ShapeSessions", name := "entry", desc := "(III)I" } : Jvm.MethodName)), (Jvm.Cond.instanceMethod ({ cls := "ShapeSessions", name := "entry", desc := "(III)I" } : Jvm.MethodName)), (Jvm.Cond.selects "ShapeSessions" ({ cls := "ShapeSessions", name := "entry", desc := "(III)I" } : Jvm.MethodName) ({ cls := "ShapeSessions", name := "entry", desc := "(III)I" } : Jvm.MethodName)), (Jvm.Cond.code ({ cls := "ShapeSessions", name := "entry", desc := "(III)I" } : Jvm.MethodName) prog_1_method_9_code (6 : Nat) (Option.some Jvm.ClassFile.FieldType.int)), (Jvm.Cond.methodLink "ShapeSessionsLaw" (49 : Nat) ({ cls := "ShapeSessions", name := "inTheWay", desc := "(I)I" } : Jvm.MethodName)), (Jvm.Cond.instanceMethod ({ cls := "ShapeSessions", name := "inTheWay", desc := "(I)I" } : Jvm.MethodName)), (Jvm.Cond.selects "ShapeSessions" ({ cls := "ShapeSessions", name := "inTheWay", desc := "(I)I" } : Jvm.MethodName) ({ cls := "ShapeSessions", name := "inTheWay", desc := "(I)I" } : Jvm.MethodName)), (Jvm.Cond.code ({ cls := "ShapeSessions", name := "inTheWay", desc := "(I)I" } : Jvm.MethodName) prog_1_method_14_code (5 : Nat) (Option.some Jvm.ClassFile.FieldType.int)), (Jvm.Cond.methodLink "ShapeSessions" (200 : Nat) ({ cls := "ShapeSessions$Session", name := "lowestBehind", desc := "(II)I" } : Jvm.MethodName)), (Jvm.Cond.instanceMethod ({ cls := "ShapeSessions$Session", name := "lowestBehind", desc := "(II)I" } : Jvm.MethodName)), (Jvm.Cond.selects "ShapeSessions$Session" ({ cls := "ShapeSessions$Session", name := "lowestBehind", desc := "(II)I" } : Jvm.MethodName) ({ cls := "ShapeSessions$Session", name := "lowestBehind", desc := "(II)I" } : Jvm.MethodName))]
def ch_2_19 : List Cond := [(Jvm.Cond.code ({ cls := "ShapeSessions$Session", name := "lowestBehind", desc := "(II)I" } : Jvm.MethodName) prog_3_method_15_code (7 : Nat) (Option.some Jvm.ClassFile.FieldType.int)), (Jvm.Cond.methodLinkNest "ShapeSessions$Session" (109 : Nat) ({ cls := "ShapeSessions", name := "contains", desc := "(II)Z" } : Jvm.MethodName) "ShapeSessions"), (Jvm.Cond.methodLink "ShapeSessionsLaw" (52 : Nat) ({ cls := "ShapeSessions", name := "statement", desc := "(II)I" } : Jvm.MethodName)), (Jvm.Cond.instanceMethod ({ cls := "ShapeSessions", name := "statement", desc := "(II)I" } : Jvm.MethodName)), (Jvm.Cond.selects "ShapeSessions" ({ cls := "ShapeSessions", name := "statement", desc := "(II)I" } : Jvm.MethodName) ({ cls := "ShapeSessions", name := "statement", desc := "(II)I" } : Jvm.MethodName)), (Jvm.Cond.code ({ cls := "ShapeSessions", name := "statement", desc := "(II)I" } : Jvm.MethodName) prog_1_method_10_code (5 : Nat) (Option.some Jvm.ClassFile.FieldType.int)), (Jvm.Cond.methodLink "ShapeSessions" (153 : Nat) ({ cls := "ShapeSessions$State", name := "sessionWith", desc := "(I)I" } : Jvm.MethodName)), (Jvm.Cond.instanceMethod ({ cls := "ShapeSessions$State", name := "sessionWith", desc := "(I)I" } : Jvm.MethodName)), (Jvm.Cond.selects "ShapeSessions$State" ({ cls := "ShapeSessions$State", name := "sessionWith", desc := "(I)I" } : Jvm.MethodName) ({ cls := "ShapeSessions$State", name := "sessionWith", desc := "(I)I" } : Jvm.MethodName)), (Jvm.Cond.code ({ cls := "ShapeSessions$State", name := "sessionWith", desc := "(I)I" } : Jvm.MethodName) prog_4_method_16_code (3 : Nat) (Option.some Jvm.ClassFile.FieldType.int)), (Jvm.Cond.methodLink "ShapeSessions" (156 : Nat) ({ cls := "ShapeSessions$Session", name := "workOf", desc := "(I)LShapeSessions$Work;" } : Jvm.MethodName)), (Jvm.Cond.methodLink "ShapeSessions" (168 : Nat) ({ cls := "ShapeSessions$Work", name := "outrunBy", desc := "([I)I" } : Jvm.MethodName))]
set_option maxRecDepth 20000 in
theorem tb_2 : tables_1_2 = ch_2_0 ++ (ch_2_1 ++ (ch_2_2 ++ (ch_2_3 ++ (ch_2_4 ++ (ch_2_5 ++ (ch_2_6 ++ (ch_2_7 ++ (ch_2_8 ++ (ch_2_9 ++ (ch_2_10 ++ (ch_2_11 ++ (ch_2_12 ++ (ch_2_13 ++ (ch_2_14 ++ (ch_2_15 ++ (ch_2_16 ++ (ch_2_17 ++ (ch_2_18 ++ (ch_2_19))))))))))))))))))) := rfl
def ch_3_0 : List Cond := [(Jvm.Cond.instanceMethod ({ cls := "ShapeSessions$Work", name := "outrunBy", desc := "([I)I" } : Jvm.MethodName)), (Jvm.Cond.selects "ShapeSessions$Work" ({ cls := "ShapeSessions$Work", name := "outrunBy", desc := "([I)I" } : Jvm.MethodName) ({ cls := "ShapeSessions$Work", name := "outrunBy", desc := "([I)I" } : Jvm.MethodName)), (Jvm.Cond.code ({ cls := "ShapeSessions$Work", name := "outrunBy", desc := "([I)I" } : Jvm.MethodName) prog_6_method_4_code (4 : Nat) (Option.some Jvm.ClassFile.FieldType.int)), (Jvm.Cond.methodLink "ShapeSessionsLaw" (77 : Nat) ({ cls := "ShapeSessionsLaw", name := "isStartSo", desc := "(LShapeSessions;II)Z" } : Jvm.MethodName)), (Jvm.Cond.static ({ cls := "ShapeSessionsLaw", name := "isStartSo", desc := "(LShapeSessions;II)Z" } : Jvm.MethodName)), (Jvm.Cond.code ({ cls := "ShapeSessionsLaw", name := "isStartSo", desc := "(LShapeSessions;II)Z" } : Jvm.MethodName) method_8_code (17 : Nat) (Option.some Jvm.ClassFile.FieldType.boolean)), (Jvm.Cond.methodLink "ShapeSessionsLaw" (55 : Nat) ({ cls := "ShapeSessions", name := "would", desc := "(III)I" } : Jvm.MethodName)), (Jvm.Cond.instanceMethod ({ cls := "ShapeSessions", name := "would", desc := "(III)I" } : Jvm.MethodName)), (Jvm.Cond.selects "ShapeSessions" ({ cls := "ShapeSessions", name := "would", desc := "(III)I" } : Jvm.MethodName) ({ cls := "ShapeSessions", name := "would", desc := "(III)I" } : Jvm.MethodName)), (Jvm.Cond.code ({ cls := "ShapeSessions", name := "would", desc := "(III)I" } : Jvm.MethodName) prog_1_method_13_code (7 : Nat) (Option.some Jvm.ClassFile.FieldType.int)), (Jvm.Cond.methodLink "ShapeSessionsLaw" (58 : Nat) ({ cls := "ShapeSessionsLaw", name := "ones", desc := "(I)I" } : Jvm.MethodName)), (Jvm.Cond.static ({ cls := "ShapeSessionsLaw", name := "ones", desc := "(I)I" } : Jvm.MethodName))]
def ch_3_1 : List Cond := [(Jvm.Cond.code ({ cls := "ShapeSessionsLaw", name := "ones", desc := "(I)I" } : Jvm.MethodName) method_7_code (3 : Nat) (Option.some Jvm.ClassFile.FieldType.int)), (Jvm.Cond.methodLink "ShapeSessionsLaw" (61 : Nat) ({ cls := "ShapeSessions", name := "undo", desc := "()I" } : Jvm.MethodName)), (Jvm.Cond.instanceMethod ({ cls := "ShapeSessions", name := "undo", desc := "()I" } : Jvm.MethodName)), (Jvm.Cond.selects "ShapeSessions" ({ cls := "ShapeSessions", name := "undo", desc := "()I" } : Jvm.MethodName) ({ cls := "ShapeSessions", name := "undo", desc := "()I" } : Jvm.MethodName)), (Jvm.Cond.code ({ cls := "ShapeSessions", name := "undo", desc := "()I" } : Jvm.MethodName) prog_1_method_19_code (2 : Nat) (Option.some Jvm.ClassFile.FieldType.int))]
set_option maxRecDepth 20000 in
theorem tb_3 : tables_1_3 = ch_3_0 ++ (ch_3_1) := rfl
def lwG : List Cond := lw_tbl.filter goodWord
theorem mG {w : Cond} (h : w ∈ lw_tbl) (g : goodWord w = true) : w ∈ lwG := List.mem_filter.mpr ⟨h, g⟩
theorem lwG_in : ∀ w ∈ lwG, w ∈ lw_tbl := fun _ h => (List.mem_filter.mp h).1
theorem it_1 : ∀ w ∈ tables_1_1, w ∈ lw_tbl := fun _ h => List.mem_append_right _ (List.mem_append_left _ h)
theorem ic_1_0 : ∀ w ∈ ch_1_0, w ∈ lw_tbl := fun _ h => it_1 _ (by rw [tb_1]; exact List.mem_append_left _ h)
theorem ic_1_1 : ∀ w ∈ ch_1_1, w ∈ lw_tbl := fun _ h => it_1 _ (by rw [tb_1]; exact List.mem_append_right _ (List.mem_append_left _ h))
theorem ic_1_2 : ∀ w ∈ ch_1_2, w ∈ lw_tbl := fun _ h => it_1 _ (by rw [tb_1]; exact List.mem_append_right _ (List.mem_append_right _ (List.mem_append_left _ h)))
theorem ic_1_3 : ∀ w ∈ ch_1_3, w ∈ lw_tbl := fun _ h => it_1 _ (by rw [tb_1]; exact List.mem_append_right _ (List.mem_append_right _ (List.mem_append_right _ (List.mem_append_left _ h))))
theorem ic_1_4 : ∀ w ∈ ch_1_4, w ∈ lw_tbl := fun _ h => it_1 _ (by rw [tb_1]; exact List.mem_append_right _ (List.mem_append_right _ (List.mem_append_right _ (List.mem_append_right _ (List.mem_append_left _ h)))))
theorem ic_1_5 : ∀ w ∈ ch_1_5, w ∈ lw_tbl := fun _ h => it_1 _ (by rw [tb_1]; exact List.mem_append_right _ (List.mem_append_right _ (List.mem_append_right _ (List.mem_append_right _ (List.mem_append_right _ (List.mem_append_left _ h))))))
theorem ic_1_6 : ∀ w ∈ ch_1_6, w ∈ lw_tbl := fun _ h => it_1 _ (by rw [tb_1]; exact List.mem_append_right _ (List.mem_append_right _ (List.mem_append_right _ (List.mem_append_right _ (List.mem_append_right _ (List.mem_append_right _ (List.mem_append_left _ h)))))))
theorem ic_1_7 : ∀ w ∈ ch_1_7, w ∈ lw_tbl := fun _ h => it_1 _ (by rw [tb_1]; exact List.mem_append_right _ (List.mem_append_right _ (List.mem_append_right _ (List.mem_append_right _ (List.mem_append_right _ (List.mem_append_right _ (List.mem_append_right _ (List.mem_append_left _ h))))))))
theorem ic_1_8 : ∀ w ∈ ch_1_8, w ∈ lw_tbl := fun _ h => it_1 _ (by rw [tb_1]; exact List.mem_append_right _ (List.mem_append_right _ (List.mem_append_right _ (List.mem_append_right _ (List.mem_append_right _ (List.mem_append_right _ (List.mem_append_right _ (List.mem_append_right _ (List.mem_append_left _ h)))))))))
theorem ic_1_9 : ∀ w ∈ ch_1_9, w ∈ lw_tbl := fun _ h => it_1 _ (by rw [tb_1]; exact List.mem_append_right _ (List.mem_append_right _ (List.mem_append_right _ (List.mem_append_right _ (List.mem_append_right _ (List.mem_append_right _ (List.mem_append_right _ (List.mem_append_right _ (List.mem_append_right _ (List.mem_append_left _ h))))))))))
theorem ic_1_10 : ∀ w ∈ ch_1_10, w ∈ lw_tbl := fun _ h => it_1 _ (by rw [tb_1]; exact List.mem_append_right _ (List.mem_append_right _ (List.mem_append_right _ (List.mem_append_right _ (List.mem_append_right _ (List.mem_append_right _ (List.mem_append_right _ (List.mem_append_right _ (List.mem_append_right _ (List.mem_append_right _ (List.mem_append_left _ h)))))))))))
theorem ic_1_11 : ∀ w ∈ ch_1_11, w ∈ lw_tbl := fun _ h => it_1 _ (by rw [tb_1]; exact List.mem_append_right _ (List.mem_append_right _ (List.mem_append_right _ (List.mem_append_right _ (List.mem_append_right _ (List.mem_append_right _ (List.mem_append_right _ (List.mem_append_right _ (List.mem_append_right _ (List.mem_append_right _ (List.mem_append_right _ (List.mem_append_left _ h))))))))))))
theorem ic_1_12 : ∀ w ∈ ch_1_12, w ∈ lw_tbl := fun _ h => it_1 _ (by rw [tb_1]; exact List.mem_append_right _ (List.mem_append_right _ (List.mem_append_right _ (List.mem_append_right _ (List.mem_append_right _ (List.mem_append_right _ (List.mem_append_right _ (List.mem_append_right _ (List.mem_append_right _ (List.mem_append_right _ (List.mem_append_right _ (List.mem_append_right _ (List.mem_append_left _ h)))))))))))))
theorem ic_1_13 : ∀ w ∈ ch_1_13, w ∈ lw_tbl := fun _ h => it_1 _ (by rw [tb_1]; exact List.mem_append_right _ (List.mem_append_right _ (List.mem_append_right _ (List.mem_append_right _ (List.mem_append_right _ (List.mem_append_right _ (List.mem_append_right _ (List.mem_append_right _ (List.mem_append_right _ (List.mem_append_right _ (List.mem_append_right _ (List.mem_append_right _ (List.mem_append_right _ (List.mem_append_left _ h))))))))))))))
theorem ic_1_14 : ∀ w ∈ ch_1_14, w ∈ lw_tbl := fun _ h => it_1 _ (by rw [tb_1]; exact List.mem_append_right _ (List.mem_append_right _ (List.mem_append_right _ (List.mem_append_right _ (List.mem_append_right _ (List.mem_append_right _ (List.mem_append_right _ (List.mem_append_right _ (List.mem_append_right _ (List.mem_append_right _ (List.mem_append_right _ (List.mem_append_right _ (List.mem_append_right _ (List.mem_append_right _ (List.mem_append_left _ h)))))))))))))))
theorem ic_1_15 : ∀ w ∈ ch_1_15, w ∈ lw_tbl := fun _ h => it_1 _ (by rw [tb_1]; exact List.mem_append_right _ (List.mem_append_right _ (List.mem_append_right _ (List.mem_append_right _ (List.mem_append_right _ (List.mem_append_right _ (List.mem_append_right _ (List.mem_append_right _ (List.mem_append_right _ (List.mem_append_right _ (List.mem_append_right _ (List.mem_append_right _ (List.mem_append_right _ (List.mem_append_right _ (List.mem_append_right _ (List.mem_append_left _ h))))))))))))))))
theorem ic_1_16 : ∀ w ∈ ch_1_16, w ∈ lw_tbl := fun _ h => it_1 _ (by rw [tb_1]; exact List.mem_append_right _ (List.mem_append_right _ (List.mem_append_right _ (List.mem_append_right _ (List.mem_append_right _ (List.mem_append_right _ (List.mem_append_right _ (List.mem_append_right _ (List.mem_append_right _ (List.mem_append_right _ (List.mem_append_right _ (List.mem_append_right _ (List.mem_append_right _ (List.mem_append_right _ (List.mem_append_right _ (List.mem_append_right _ (List.mem_append_left _ h)))))))))))))))))
theorem ic_1_17 : ∀ w ∈ ch_1_17, w ∈ lw_tbl := fun _ h => it_1 _ (by rw [tb_1]; exact List.mem_append_right _ (List.mem_append_right _ (List.mem_append_right _ (List.mem_append_right _ (List.mem_append_right _ (List.mem_append_right _ (List.mem_append_right _ (List.mem_append_right _ (List.mem_append_right _ (List.mem_append_right _ (List.mem_append_right _ (List.mem_append_right _ (List.mem_append_right _ (List.mem_append_right _ (List.mem_append_right _ (List.mem_append_right _ (List.mem_append_right _ (List.mem_append_left _ h))))))))))))))))))
theorem ic_1_18 : ∀ w ∈ ch_1_18, w ∈ lw_tbl := fun _ h => it_1 _ (by rw [tb_1]; exact List.mem_append_right _ (List.mem_append_right _ (List.mem_append_right _ (List.mem_append_right _ (List.mem_append_right _ (List.mem_append_right _ (List.mem_append_right _ (List.mem_append_right _ (List.mem_append_right _ (List.mem_append_right _ (List.mem_append_right _ (List.mem_append_right _ (List.mem_append_right _ (List.mem_append_right _ (List.mem_append_right _ (List.mem_append_right _ (List.mem_append_right _ (List.mem_append_right _ (List.mem_append_left _ h)))))))))))))))))))
theorem ic_1_19 : ∀ w ∈ ch_1_19, w ∈ lw_tbl := fun _ h => it_1 _ (by rw [tb_1]; exact List.mem_append_right _ (List.mem_append_right _ (List.mem_append_right _ (List.mem_append_right _ (List.mem_append_right _ (List.mem_append_right _ (List.mem_append_right _ (List.mem_append_right _ (List.mem_append_right _ (List.mem_append_right _ (List.mem_append_right _ (List.mem_append_right _ (List.mem_append_right _ (List.mem_append_right _ (List.mem_append_right _ (List.mem_append_right _ (List.mem_append_right _ (List.mem_append_right _ (List.mem_append_right _ (h))))))))))))))))))))
theorem it_2 : ∀ w ∈ tables_1_2, w ∈ lw_tbl := fun _ h => List.mem_append_right _ (List.mem_append_right _ (List.mem_append_left _ h))
theorem ic_2_0 : ∀ w ∈ ch_2_0, w ∈ lw_tbl := fun _ h => it_2 _ (by rw [tb_2]; exact List.mem_append_left _ h)
theorem ic_2_1 : ∀ w ∈ ch_2_1, w ∈ lw_tbl := fun _ h => it_2 _ (by rw [tb_2]; exact List.mem_append_right _ (List.mem_append_left _ h))
theorem ic_2_2 : ∀ w ∈ ch_2_2, w ∈ lw_tbl := fun _ h => it_2 _ (by rw [tb_2]; exact List.mem_append_right _ (List.mem_append_right _ (List.mem_append_left _ h)))
theorem ic_2_3 : ∀ w ∈ ch_2_3, w ∈ lw_tbl := fun _ h => it_2 _ (by rw [tb_2]; exact List.mem_append_right _ (List.mem_append_right _ (List.mem_append_right _ (List.mem_append_left _ h))))
theorem ic_2_4 : ∀ w ∈ ch_2_4, w ∈ lw_tbl := fun _ h => it_2 _ (by rw [tb_2]; exact List.mem_append_right _ (List.mem_append_right _ (List.mem_append_right _ (List.mem_append_right _ (List.mem_append_left _ h)))))
theorem ic_2_5 : ∀ w ∈ ch_2_5, w ∈ lw_tbl := fun _ h => it_2 _ (by rw [tb_2]; exact List.mem_append_right _ (List.mem_append_right _ (List.mem_append_right _ (List.mem_append_right _ (List.mem_append_right _ (List.mem_append_left _ h))))))
theorem ic_2_6 : ∀ w ∈ ch_2_6, w ∈ lw_tbl := fun _ h => it_2 _ (by rw [tb_2]; exact List.mem_append_right _ (List.mem_append_right _ (List.mem_append_right _ (List.mem_append_right _ (List.mem_append_right _ (List.mem_append_right _ (List.mem_append_left _ h)))))))
theorem ic_2_7 : ∀ w ∈ ch_2_7, w ∈ lw_tbl := fun _ h => it_2 _ (by rw [tb_2]; exact List.mem_append_right _ (List.mem_append_right _ (List.mem_append_right _ (List.mem_append_right _ (List.mem_append_right _ (List.mem_append_right _ (List.mem_append_right _ (List.mem_append_left _ h))))))))
theorem ic_2_8 : ∀ w ∈ ch_2_8, w ∈ lw_tbl := fun _ h => it_2 _ (by rw [tb_2]; exact List.mem_append_right _ (List.mem_append_right _ (List.mem_append_right _ (List.mem_append_right _ (List.mem_append_right _ (List.mem_append_right _ (List.mem_append_right _ (List.mem_append_right _ (List.mem_append_left _ h)))))))))
theorem ic_2_9 : ∀ w ∈ ch_2_9, w ∈ lw_tbl := fun _ h => it_2 _ (by rw [tb_2]; exact List.mem_append_right _ (List.mem_append_right _ (List.mem_append_right _ (List.mem_append_right _ (List.mem_append_right _ (List.mem_append_right _ (List.mem_append_right _ (List.mem_append_right _ (List.mem_append_right _ (List.mem_append_left _ h))))))))))
theorem ic_2_10 : ∀ w ∈ ch_2_10, w ∈ lw_tbl := fun _ h => it_2 _ (by rw [tb_2]; exact List.mem_append_right _ (List.mem_append_right _ (List.mem_append_right _ (List.mem_append_right _ (List.mem_append_right _ (List.mem_append_right _ (List.mem_append_right _ (List.mem_append_right _ (List.mem_append_right _ (List.mem_append_right _ (List.mem_append_left _ h)))))))))))
theorem ic_2_11 : ∀ w ∈ ch_2_11, w ∈ lw_tbl := fun _ h => it_2 _ (by rw [tb_2]; exact List.mem_append_right _ (List.mem_append_right _ (List.mem_append_right _ (List.mem_append_right _ (List.mem_append_right _ (List.mem_append_right _ (List.mem_append_right _ (List.mem_append_right _ (List.mem_append_right _ (List.mem_append_right _ (List.mem_append_right _ (List.mem_append_left _ h))))))))))))
theorem ic_2_12 : ∀ w ∈ ch_2_12, w ∈ lw_tbl := fun _ h => it_2 _ (by rw [tb_2]; exact List.mem_append_right _ (List.mem_append_right _ (List.mem_append_right _ (List.mem_append_right _ (List.mem_append_right _ (List.mem_append_right _ (List.mem_append_right _ (List.mem_append_right _ (List.mem_append_right _ (List.mem_append_right _ (List.mem_append_right _ (List.mem_append_right _ (List.mem_append_left _ h)))))))))))))
theorem ic_2_13 : ∀ w ∈ ch_2_13, w ∈ lw_tbl := fun _ h => it_2 _ (by rw [tb_2]; exact List.mem_append_right _ (List.mem_append_right _ (List.mem_append_right _ (List.mem_append_right _ (List.mem_append_right _ (List.mem_append_right _ (List.mem_append_right _ (List.mem_append_right _ (List.mem_append_right _ (List.mem_append_right _ (List.mem_append_right _ (List.mem_append_right _ (List.mem_append_right _ (List.mem_append_left _ h))))))))))))))
theorem ic_2_14 : ∀ w ∈ ch_2_14, w ∈ lw_tbl := fun _ h => it_2 _ (by rw [tb_2]; exact List.mem_append_right _ (List.mem_append_right _ (List.mem_append_right _ (List.mem_append_right _ (List.mem_append_right _ (List.mem_append_right _ (List.mem_append_right _ (List.mem_append_right _ (List.mem_append_right _ (List.mem_append_right _ (List.mem_append_right _ (List.mem_append_right _ (List.mem_append_right _ (List.mem_append_right _ (List.mem_append_left _ h)))))))))))))))
theorem ic_2_15 : ∀ w ∈ ch_2_15, w ∈ lw_tbl := fun _ h => it_2 _ (by rw [tb_2]; exact List.mem_append_right _ (List.mem_append_right _ (List.mem_append_right _ (List.mem_append_right _ (List.mem_append_right _ (List.mem_append_right _ (List.mem_append_right _ (List.mem_append_right _ (List.mem_append_right _ (List.mem_append_right _ (List.mem_append_right _ (List.mem_append_right _ (List.mem_append_right _ (List.mem_append_right _ (List.mem_append_right _ (List.mem_append_left _ h))))))))))))))))
theorem ic_2_16 : ∀ w ∈ ch_2_16, w ∈ lw_tbl := fun _ h => it_2 _ (by rw [tb_2]; exact List.mem_append_right _ (List.mem_append_right _ (List.mem_append_right _ (List.mem_append_right _ (List.mem_append_right _ (List.mem_append_right _ (List.mem_append_right _ (List.mem_append_right _ (List.mem_append_right _ (List.mem_append_right _ (List.mem_append_right _ (List.mem_append_right _ (List.mem_append_right _ (List.mem_append_right _ (List.mem_append_right _ (List.mem_append_right _ (List.mem_append_left _ h)))))))))))))))))
theorem ic_2_17 : ∀ w ∈ ch_2_17, w ∈ lw_tbl := fun _ h => it_2 _ (by rw [tb_2]; exact List.mem_append_right _ (List.mem_append_right _ (List.mem_append_right _ (List.mem_append_right _ (List.mem_append_right _ (List.mem_append_right _ (List.mem_append_right _ (List.mem_append_right _ (List.mem_append_right _ (List.mem_append_right _ (List.mem_append_right _ (List.mem_append_right _ (List.mem_append_right _ (List.mem_append_right _ (List.mem_append_right _ (List.mem_append_right _ (List.mem_append_right _ (List.mem_append_left _ h))))))))))))))))))
theorem ic_2_18 : ∀ w ∈ ch_2_18, w ∈ lw_tbl := fun _ h => it_2 _ (by rw [tb_2]; exact List.mem_append_right _ (List.mem_append_right _ (List.mem_append_right _ (List.mem_append_right _ (List.mem_append_right _ (List.mem_append_right _ (List.mem_append_right _ (List.mem_append_right _ (List.mem_append_right _ (List.mem_append_right _ (List.mem_append_right _ (List.mem_append_right _ (List.mem_append_right _ (List.mem_append_right _ (List.mem_append_right _ (List.mem_append_right _ (List.mem_append_right _ (List.mem_append_right _ (List.mem_append_left _ h)))))))))))))))))))
theorem ic_2_19 : ∀ w ∈ ch_2_19, w ∈ lw_tbl := fun _ h => it_2 _ (by rw [tb_2]; exact List.mem_append_right _ (List.mem_append_right _ (List.mem_append_right _ (List.mem_append_right _ (List.mem_append_right _ (List.mem_append_right _ (List.mem_append_right _ (List.mem_append_right _ (List.mem_append_right _ (List.mem_append_right _ (List.mem_append_right _ (List.mem_append_right _ (List.mem_append_right _ (List.mem_append_right _ (List.mem_append_right _ (List.mem_append_right _ (List.mem_append_right _ (List.mem_append_right _ (List.mem_append_right _ (h))))))))))))))))))))
theorem it_3 : ∀ w ∈ tables_1_3, w ∈ lw_tbl := fun _ h => List.mem_append_right _ (List.mem_append_right _ (List.mem_append_right _ (h)))
theorem ic_3_0 : ∀ w ∈ ch_3_0, w ∈ lw_tbl := fun _ h => it_3 _ (by rw [tb_3]; exact List.mem_append_left _ h)
theorem ic_3_1 : ∀ w ∈ ch_3_1, w ∈ lw_tbl := fun _ h => it_3 _ (by rw [tb_3]; exact List.mem_append_right _ (h))
theorem q_0 : (Cond.initialized RL) ∈ lwG := mG (ic_1_0 _ (List.mem_of_getElem? (i := 0) rfl)) rfl
theorem q_1 : (Cond.initialized RX5) ∈ lwG := mG (ic_1_0 _ (List.mem_of_getElem? (i := 1) rfl)) rfl
theorem q_2 : (Cond.initialized RX2) ∈ lwG := mG (ic_1_0 _ (List.mem_of_getElem? (i := 2) rfl)) rfl
theorem q_3 : (Cond.initialized RX1) ∈ lwG := mG (ic_1_0 _ (List.mem_of_getElem? (i := 3) rfl)) rfl
theorem q_4 : (Cond.initialized RX0) ∈ lwG := mG (ic_1_0 _ (List.mem_of_getElem? (i := 4) rfl)) rfl
theorem q_5 : (Cond.initialized RX4) ∈ lwG := mG (ic_1_0 _ (List.mem_of_getElem? (i := 5) rfl)) rfl
theorem q_6 : (Cond.initialized RX3) ∈ lwG := mG (ic_1_0 _ (List.mem_of_getElem? (i := 6) rfl)) rfl
theorem q_7 : (Cond.initialized RJ9) ∈ lwG := mG (ic_1_0 _ (List.mem_of_getElem? (i := 7) rfl)) rfl
theorem q_8 : (Cond.classLink RL 9 RX5) ∈ lwG := mG (ic_1_0 _ (List.mem_of_getElem? (i := 8) rfl)) rfl
theorem q_9 : (Cond.instantiable RX5 10) ∈ lwG := mG (ic_1_0 _ (List.mem_of_getElem? (i := 9) rfl)) rfl
theorem q_10 : (Cond.methodLink RL 65 yX5_init) ∈ lwG := mG (ic_1_0 _ (List.mem_of_getElem? (i := 10) rfl)) rfl
theorem q_11 : (Cond.instanceMethod yX5_init) ∈ lwG := mG (ic_1_0 _ (List.mem_of_getElem? (i := 11) rfl)) rfl
theorem q_12 : (Cond.code yX5_init cX5_init 2 none) ∈ lwG := mG (ic_1_1 _ (List.mem_of_getElem? (i := 0) rfl)) rfl
theorem q_13 : (Cond.methodLink RX5 1 objectInit) ∈ lwG := mG (ic_1_1 _ (List.mem_of_getElem? (i := 1) rfl)) rfl
theorem q_14 : (Cond.instanceMethod objectInit) ∈ lwG := mG (ic_1_1 _ (List.mem_of_getElem? (i := 2) rfl)) rfl
theorem q_15 : (Cond.code objectInit object_method_1_code 1 none) ∈ lwG := mG (ic_1_1 _ (List.mem_of_getElem? (i := 3) rfl)) rfl
theorem q_16 : (Cond.classLink RX5 7 RX2) ∈ lwG := mG (ic_1_1 _ (List.mem_of_getElem? (i := 4) rfl)) rfl
theorem q_17 : (Cond.instantiable RX2 12) ∈ lwG := mG (ic_1_1 _ (List.mem_of_getElem? (i := 5) rfl)) rfl
theorem q_18 : (Cond.methodLink RX5 9 yX2_init) ∈ lwG := mG (ic_1_1 _ (List.mem_of_getElem? (i := 6) rfl)) rfl
theorem q_19 : (Cond.instanceMethod yX2_init) ∈ lwG := mG (ic_1_1 _ (List.mem_of_getElem? (i := 7) rfl)) rfl
theorem q_20 : (Cond.code yX2_init cX2_init 2 none) ∈ lwG := mG (ic_1_1 _ (List.mem_of_getElem? (i := 8) rfl)) rfl
theorem q_21 : (Cond.methodLink RX2 3 objectInit) ∈ lwG := mG (ic_1_1 _ (List.mem_of_getElem? (i := 9) rfl)) rfl
theorem q_22 : (Cond.classLink RX2 30 RX1) ∈ lwG := mG (ic_1_1 _ (List.mem_of_getElem? (i := 10) rfl)) rfl
theorem q_23 : (Cond.arrayOver (.object "ShapeSessions$Session")) ∈ lw_tbl := ic_1_1 _ (List.mem_of_getElem? (i := 11) rfl)
theorem q_24 : (Cond.instantiable RX1 9) ∈ lwG := mG (ic_1_2 _ (List.mem_of_getElem? (i := 0) rfl)) rfl
theorem q_25 : (Cond.methodLink RX2 36 yX1_init) ∈ lwG := mG (ic_1_2 _ (List.mem_of_getElem? (i := 1) rfl)) rfl
theorem q_26 : (Cond.instanceMethod yX1_init) ∈ lwG := mG (ic_1_2 _ (List.mem_of_getElem? (i := 2) rfl)) rfl
theorem q_27 : (Cond.code yX1_init cX1_init 2 none) ∈ lwG := mG (ic_1_2 _ (List.mem_of_getElem? (i := 3) rfl)) rfl
theorem q_28 : (Cond.methodLink RX1 3 objectInit) ∈ lwG := mG (ic_1_2 _ (List.mem_of_getElem? (i := 4) rfl)) rfl
theorem q_29 : (Cond.classLink RX1 9 RX0) ∈ lwG := mG (ic_1_2 _ (List.mem_of_getElem? (i := 5) rfl)) rfl
theorem q_30 : (Cond.arrayOver (.object "ShapeSessions$Entry")) ∈ lw_tbl := ic_1_2 _ (List.mem_of_getElem? (i := 6) rfl)
theorem q_31 : (Cond.instantiable RX0 6) ∈ lwG := mG (ic_1_2 _ (List.mem_of_getElem? (i := 7) rfl)) rfl
theorem q_32 : (Cond.methodLinkNest RX1 17 yX0_init RX5) ∈ lw_tbl := ic_1_2 _ (List.mem_of_getElem? (i := 8) rfl)
theorem q_33 : (Cond.instanceMethod yX0_init) ∈ lwG := mG (ic_1_2 _ (List.mem_of_getElem? (i := 9) rfl)) rfl
theorem q_34 : (Cond.code yX0_init cX0_init 1 none) ∈ lwG := mG (ic_1_2 _ (List.mem_of_getElem? (i := 10) rfl)) rfl
theorem q_35 : (Cond.methodLink RX0 1 objectInit) ∈ lwG := mG (ic_1_2 _ (List.mem_of_getElem? (i := 11) rfl)) rfl
theorem q_36 : (Cond.fieldLink RX0 7 "ShapeSessions$Entry" "table" "I") ∈ lwG := mG (ic_1_3 _ (List.mem_of_getElem? (i := 0) rfl)) rfl
theorem q_37 : (Cond.fieldLink RX4 25 "ShapeSessions$Entry" "table" "I") ∈ lwG := mG (ic_1_3 _ (List.mem_of_getElem? (i := 1) rfl)) rfl
theorem q_38 : (Cond.fieldLink RX1 57 "ShapeSessions$Entry" "table" "I") ∈ lwG := mG (ic_1_3 _ (List.mem_of_getElem? (i := 2) rfl)) rfl
theorem q_39 : (Cond.fieldLink RX5 135 "ShapeSessions$Entry" "table" "I") ∈ lwG := mG (ic_1_3 _ (List.mem_of_getElem? (i := 3) rfl)) rfl
theorem q_40 : (Cond.fieldLink RX0 13 "ShapeSessions$Entry" "version" "I") ∈ lwG := mG (ic_1_3 _ (List.mem_of_getElem? (i := 4) rfl)) rfl
theorem q_41 : (Cond.fieldLink RX4 34 "ShapeSessions$Entry" "version" "I") ∈ lwG := mG (ic_1_3 _ (List.mem_of_getElem? (i := 5) rfl)) rfl
theorem q_42 : (Cond.fieldLink RX1 60 "ShapeSessions$Entry" "version" "I") ∈ lwG := mG (ic_1_3 _ (List.mem_of_getElem? (i := 6) rfl)) rfl
theorem q_43 : (Cond.fieldLink RX5 140 "ShapeSessions$Entry" "version" "I") ∈ lwG := mG (ic_1_3 _ (List.mem_of_getElem? (i := 7) rfl)) rfl
theorem q_44 : (Cond.fieldLink RX0 16 "ShapeSessions$Entry" "shape" "I") ∈ lwG := mG (ic_1_3 _ (List.mem_of_getElem? (i := 8) rfl)) rfl
theorem q_45 : (Cond.fieldLink RX1 103 "ShapeSessions$Entry" "shape" "I") ∈ lwG := mG (ic_1_3 _ (List.mem_of_getElem? (i := 9) rfl)) rfl
theorem q_46 : (Cond.fieldLink RX5 142 "ShapeSessions$Entry" "shape" "I") ∈ lwG := mG (ic_1_3 _ (List.mem_of_getElem? (i := 10) rfl)) rfl
theorem q_47 : (Cond.fieldLink RX0 19 "ShapeSessions$Entry" "workers" "I") ∈ lwG := mG (ic_1_3 _ (List.mem_of_getElem? (i := 11) rfl)) rfl
theorem q_48 : (Cond.fieldLink RX1 67 "ShapeSessions$Entry" "workers" "I") ∈ lwG := mG (ic_1_4 _ (List.mem_of_getElem? (i := 0) rfl)) rfl
theorem q_49 : (Cond.fieldLink RX5 144 "ShapeSessions$Entry" "workers" "I") ∈ lwG := mG (ic_1_4 _ (List.mem_of_getElem? (i := 1) rfl)) rfl
theorem q_50 : (Cond.fieldLink RX0 22 "ShapeSessions$Entry" "lastUse" "I") ∈ lwG := mG (ic_1_4 _ (List.mem_of_getElem? (i := 2) rfl)) rfl
theorem q_51 : (Cond.fieldLink RX1 85 "ShapeSessions$Entry" "lastUse" "I") ∈ lwG := mG (ic_1_4 _ (List.mem_of_getElem? (i := 3) rfl)) rfl
theorem q_52 : (Cond.fieldLink RX5 147 "ShapeSessions$Entry" "lastUse" "I") ∈ lwG := mG (ic_1_4 _ (List.mem_of_getElem? (i := 4) rfl)) rfl
theorem q_53 : (Cond.fieldLink RX0 25 "ShapeSessions$Entry" "stale" "Z") ∈ lwG := mG (ic_1_4 _ (List.mem_of_getElem? (i := 5) rfl)) rfl
theorem q_54 : (Cond.fieldLink RX1 63 "ShapeSessions$Entry" "stale" "Z") ∈ lwG := mG (ic_1_4 _ (List.mem_of_getElem? (i := 6) rfl)) rfl
theorem q_55 : (Cond.fieldLink RX5 150 "ShapeSessions$Entry" "stale" "Z") ∈ lwG := mG (ic_1_4 _ (List.mem_of_getElem? (i := 7) rfl)) rfl
theorem q_56 : (Cond.lays RX0 "ShapeSessions$Entry" "table" "I") ∈ lwG := mG (ic_1_4 _ (List.mem_of_getElem? (i := 8) rfl)) rfl
theorem q_57 : (Cond.lays RX0 "ShapeSessions$Entry" "version" "I") ∈ lwG := mG (ic_1_4 _ (List.mem_of_getElem? (i := 10) rfl)) rfl
theorem q_58 : (Cond.lays RX0 "ShapeSessions$Entry" "shape" "I") ∈ lwG := mG (ic_1_5 _ (List.mem_of_getElem? (i := 0) rfl)) rfl
theorem q_59 : (Cond.lays RX0 "ShapeSessions$Entry" "workers" "I") ∈ lwG := mG (ic_1_5 _ (List.mem_of_getElem? (i := 2) rfl)) rfl
theorem q_60 : (Cond.lays RX0 "ShapeSessions$Entry" "lastUse" "I") ∈ lwG := mG (ic_1_5 _ (List.mem_of_getElem? (i := 4) rfl)) rfl
theorem q_61 : (Cond.lays RX0 "ShapeSessions$Entry" "stale" "Z") ∈ lwG := mG (ic_1_5 _ (List.mem_of_getElem? (i := 6) rfl)) rfl
theorem q_62 : (Cond.arrayClass .int) ∈ lwG := mG (ic_1_5 _ (List.mem_of_getElem? (i := 9) rfl)) rfl
theorem q_63 : (Cond.classLink RX1 18 RX4) ∈ lwG := mG (ic_1_5 _ (List.mem_of_getElem? (i := 10) rfl)) rfl
theorem q_64 : (Cond.arrayOver (.object "ShapeSessions$Work")) ∈ lw_tbl := ic_1_5 _ (List.mem_of_getElem? (i := 11) rfl)
theorem q_65 : (Cond.instantiable RX4 4) ∈ lwG := mG (ic_1_6 _ (List.mem_of_getElem? (i := 0) rfl)) rfl
theorem q_66 : (Cond.methodLink RX1 24 yX4_init) ∈ lwG := mG (ic_1_6 _ (List.mem_of_getElem? (i := 1) rfl)) rfl
theorem q_67 : (Cond.instanceMethod yX4_init) ∈ lwG := mG (ic_1_6 _ (List.mem_of_getElem? (i := 2) rfl)) rfl
theorem q_68 : (Cond.code yX4_init cX4_init 1 none) ∈ lwG := mG (ic_1_6 _ (List.mem_of_getElem? (i := 3) rfl)) rfl
theorem q_69 : (Cond.methodLink RX4 3 objectInit) ∈ lwG := mG (ic_1_6 _ (List.mem_of_getElem? (i := 4) rfl)) rfl
theorem q_70 : (Cond.fieldLink RX4 9 "ShapeSessions$Work" "number" "I") ∈ lwG := mG (ic_1_6 _ (List.mem_of_getElem? (i := 5) rfl)) rfl
theorem q_71 : (Cond.fieldLink RX1 47 "ShapeSessions$Work" "number" "I") ∈ lwG := mG (ic_1_6 _ (List.mem_of_getElem? (i := 6) rfl)) rfl
theorem q_72 : (Cond.fieldLink RX2 96 "ShapeSessions$Work" "number" "I") ∈ lwG := mG (ic_1_6 _ (List.mem_of_getElem? (i := 7) rfl)) rfl
theorem q_73 : (Cond.fieldLink RX4 19 "ShapeSessions$Work" "tables" "I") ∈ lwG := mG (ic_1_6 _ (List.mem_of_getElem? (i := 8) rfl)) rfl
theorem q_74 : (Cond.fieldLink RX2 101 "ShapeSessions$Work" "tables" "I") ∈ lwG := mG (ic_1_6 _ (List.mem_of_getElem? (i := 9) rfl)) rfl
theorem q_75 : (Cond.fieldLink RX5 160 "ShapeSessions$Work" "tables" "I") ∈ lwG := mG (ic_1_6 _ (List.mem_of_getElem? (i := 10) rfl)) rfl
theorem q_76 : (Cond.fieldLink RX1 106 "ShapeSessions$Work" "tables" "I") ∈ lwG := mG (ic_1_6 _ (List.mem_of_getElem? (i := 11) rfl)) rfl
theorem q_77 : (Cond.fieldLink RX4 22 "ShapeSessions$Work" "startedAt" "I") ∈ lwG := mG (ic_1_7 _ (List.mem_of_getElem? (i := 0) rfl)) rfl
theorem q_78 : (Cond.fieldLink RX2 104 "ShapeSessions$Work" "startedAt" "I") ∈ lwG := mG (ic_1_7 _ (List.mem_of_getElem? (i := 1) rfl)) rfl
theorem q_79 : (Cond.fieldLink RX5 165 "ShapeSessions$Work" "startedAt" "I") ∈ lwG := mG (ic_1_7 _ (List.mem_of_getElem? (i := 2) rfl)) rfl
theorem q_80 : (Cond.fieldLink RX4 15 "ShapeSessions$Work" "version" "[I") ∈ lwG := mG (ic_1_7 _ (List.mem_of_getElem? (i := 3) rfl)) rfl
theorem q_81 : (Cond.fieldLink RX1 88 "ShapeSessions$Work" "version" "[I") ∈ lwG := mG (ic_1_7 _ (List.mem_of_getElem? (i := 4) rfl)) rfl
theorem q_82 : (Cond.lays RX4 "ShapeSessions$Work" "number" "I") ∈ lwG := mG (ic_1_7 _ (List.mem_of_getElem? (i := 5) rfl)) rfl
theorem q_83 : (Cond.lays RX4 "ShapeSessions$Work" "tables" "I") ∈ lwG := mG (ic_1_7 _ (List.mem_of_getElem? (i := 7) rfl)) rfl
theorem q_84 : (Cond.lays RX4 "ShapeSessions$Work" "startedAt" "I") ∈ lwG := mG (ic_1_7 _ (List.mem_of_getElem? (i := 9) rfl)) rfl
theorem q_85 : (Cond.laysFinal RX4 "ShapeSessions$Work" "version" "[I") ∈ lwG := mG (ic_1_7 _ (List.mem_of_getElem? (i := 11) rfl)) rfl
theorem q_86 : (Cond.fieldLink RX1 25 "ShapeSessions$Session" "known" "I") ∈ lwG := mG (ic_1_8 _ (List.mem_of_getElem? (i := 2) rfl)) rfl
theorem q_87 : (Cond.fieldLink RX2 86 "ShapeSessions$Session" "known" "I") ∈ lwG := mG (ic_1_8 _ (List.mem_of_getElem? (i := 3) rfl)) rfl
theorem q_88 : (Cond.fieldLink RX5 98 "ShapeSessions$Session" "known" "I") ∈ lwG := mG (ic_1_8 _ (List.mem_of_getElem? (i := 4) rfl)) rfl
theorem q_89 : (Cond.fieldLink RX1 29 "ShapeSessions$Session" "hits" "I") ∈ lwG := mG (ic_1_8 _ (List.mem_of_getElem? (i := 5) rfl)) rfl
theorem q_90 : (Cond.fieldLink RX5 116 "ShapeSessions$Session" "hits" "I") ∈ lwG := mG (ic_1_8 _ (List.mem_of_getElem? (i := 6) rfl)) rfl
theorem q_91 : (Cond.fieldLink RX1 32 "ShapeSessions$Session" "loads" "I") ∈ lwG := mG (ic_1_8 _ (List.mem_of_getElem? (i := 7) rfl)) rfl
theorem q_92 : (Cond.fieldLink RX5 119 "ShapeSessions$Session" "loads" "I") ∈ lwG := mG (ic_1_8 _ (List.mem_of_getElem? (i := 8) rfl)) rfl
theorem q_93 : (Cond.fieldLink RX2 145 "ShapeSessions$Session" "loads" "I") ∈ lwG := mG (ic_1_8 _ (List.mem_of_getElem? (i := 9) rfl)) rfl
theorem q_94 : (Cond.fieldLink RX1 35 "ShapeSessions$Session" "drops" "I") ∈ lwG := mG (ic_1_8 _ (List.mem_of_getElem? (i := 10) rfl)) rfl
theorem q_95 : (Cond.fieldLink RX5 122 "ShapeSessions$Session" "drops" "I") ∈ lwG := mG (ic_1_8 _ (List.mem_of_getElem? (i := 11) rfl)) rfl
theorem q_96 : (Cond.fieldLink RX1 38 "ShapeSessions$Session" "asksThatHelped" "I") ∈ lwG := mG (ic_1_9 _ (List.mem_of_getElem? (i := 0) rfl)) rfl
theorem q_97 : (Cond.fieldLink RX2 93 "ShapeSessions$Session" "asksThatHelped" "I") ∈ lwG := mG (ic_1_9 _ (List.mem_of_getElem? (i := 1) rfl)) rfl
theorem q_98 : (Cond.fieldLink RX5 125 "ShapeSessions$Session" "asksThatHelped" "I") ∈ lwG := mG (ic_1_9 _ (List.mem_of_getElem? (i := 2) rfl)) rfl
theorem q_99 : (Cond.fieldLink RX1 41 "ShapeSessions$Session" "lateNotices" "I") ∈ lwG := mG (ic_1_9 _ (List.mem_of_getElem? (i := 3) rfl)) rfl
theorem q_100 : (Cond.fieldLink RX5 128 "ShapeSessions$Session" "lateNotices" "I") ∈ lwG := mG (ic_1_9 _ (List.mem_of_getElem? (i := 4) rfl)) rfl
theorem q_101 : (Cond.fieldLink RX2 128 "ShapeSessions$Session" "lateNotices" "I") ∈ lwG := mG (ic_1_9 _ (List.mem_of_getElem? (i := 5) rfl)) rfl
theorem q_102 : (Cond.fieldLink RX1 44 "ShapeSessions$Session" "inHand" "I") ∈ lwG := mG (ic_1_9 _ (List.mem_of_getElem? (i := 6) rfl)) rfl
theorem q_103 : (Cond.fieldLink RX5 107 "ShapeSessions$Session" "inHand" "I") ∈ lwG := mG (ic_1_9 _ (List.mem_of_getElem? (i := 7) rfl)) rfl
theorem q_104 : (Cond.fieldLink RX1 11 "ShapeSessions$Session" "hand" "[LShapeSessions$Entry;") ∈ lwG := mG (ic_1_9 _ (List.mem_of_getElem? (i := 8) rfl)) rfl
theorem q_105 : (Cond.fieldLink RX5 131 "ShapeSessions$Session" "hand" "[LShapeSessions$Entry;") ∈ lwG := mG (ic_1_9 _ (List.mem_of_getElem? (i := 9) rfl)) rfl
theorem q_106 : (Cond.fieldLink RX1 20 "ShapeSessions$Session" "works" "[LShapeSessions$Work;") ∈ lwG := mG (ic_1_9 _ (List.mem_of_getElem? (i := 10) rfl)) rfl
theorem q_107 : (Cond.lays RX1 "ShapeSessions$Session" "known" "I") ∈ lwG := mG (ic_1_9 _ (List.mem_of_getElem? (i := 11) rfl)) rfl
theorem q_108 : (Cond.lays RX1 "ShapeSessions$Session" "hits" "I") ∈ lwG := mG (ic_1_10 _ (List.mem_of_getElem? (i := 1) rfl)) rfl
theorem q_109 : (Cond.lays RX1 "ShapeSessions$Session" "loads" "I") ∈ lwG := mG (ic_1_10 _ (List.mem_of_getElem? (i := 3) rfl)) rfl
theorem q_110 : (Cond.lays RX1 "ShapeSessions$Session" "drops" "I") ∈ lwG := mG (ic_1_10 _ (List.mem_of_getElem? (i := 5) rfl)) rfl
theorem q_111 : (Cond.lays RX1 "ShapeSessions$Session" "asksThatHelped" "I") ∈ lwG := mG (ic_1_10 _ (List.mem_of_getElem? (i := 7) rfl)) rfl
theorem q_112 : (Cond.lays RX1 "ShapeSessions$Session" "lateNotices" "I") ∈ lwG := mG (ic_1_10 _ (List.mem_of_getElem? (i := 9) rfl)) rfl
theorem q_113 : (Cond.lays RX1 "ShapeSessions$Session" "inHand" "I") ∈ lwG := mG (ic_1_10 _ (List.mem_of_getElem? (i := 11) rfl)) rfl
theorem q_114 : (Cond.laysFinal RX1 "ShapeSessions$Session" "hand" "[LShapeSessions$Entry;") ∈ lwG := mG (ic_1_11 _ (List.mem_of_getElem? (i := 1) rfl)) rfl
theorem q_115 : (Cond.laysFinal RX1 "ShapeSessions$Session" "works" "[LShapeSessions$Work;") ∈ lwG := mG (ic_1_11 _ (List.mem_of_getElem? (i := 3) rfl)) rfl
theorem q_116 : (Cond.fieldLink RX2 37 "ShapeSessions$State" "ticks" "I") ∈ lwG := mG (ic_1_11 _ (List.mem_of_getElem? (i := 6) rfl)) rfl
theorem q_117 : (Cond.fieldLink RX5 178 "ShapeSessions$State" "ticks" "I") ∈ lwG := mG (ic_1_11 _ (List.mem_of_getElem? (i := 7) rfl)) rfl
theorem q_118 : (Cond.fieldLink RX2 41 "ShapeSessions$State" "delay" "I") ∈ lwG := mG (ic_1_11 _ (List.mem_of_getElem? (i := 8) rfl)) rfl
theorem q_119 : (Cond.fieldLink RX5 194 "ShapeSessions$State" "delay" "I") ∈ lwG := mG (ic_1_11 _ (List.mem_of_getElem? (i := 9) rfl)) rfl
theorem q_120 : (Cond.fieldLink RX2 44 "ShapeSessions$State" "room" "I") ∈ lwG := mG (ic_1_11 _ (List.mem_of_getElem? (i := 10) rfl)) rfl
theorem q_121 : (Cond.fieldLink RX5 197 "ShapeSessions$State" "room" "I") ∈ lwG := mG (ic_1_11 _ (List.mem_of_getElem? (i := 11) rfl)) rfl
theorem q_122 : (Cond.fieldLink RX2 9 "ShapeSessions$State" "version" "[I") ∈ lwG := mG (ic_1_12 _ (List.mem_of_getElem? (i := 0) rfl)) rfl
theorem q_123 : (Cond.fieldLink RX5 77 "ShapeSessions$State" "version" "[I") ∈ lwG := mG (ic_1_12 _ (List.mem_of_getElem? (i := 1) rfl)) rfl
theorem q_124 : (Cond.fieldLink RX2 15 "ShapeSessions$State" "shape" "[I") ∈ lwG := mG (ic_1_12 _ (List.mem_of_getElem? (i := 2) rfl)) rfl
theorem q_125 : (Cond.fieldLink RX5 81 "ShapeSessions$State" "shape" "[I") ∈ lwG := mG (ic_1_12 _ (List.mem_of_getElem? (i := 3) rfl)) rfl
theorem q_126 : (Cond.fieldLink RX2 47 "ShapeSessions$State" "notices" "I") ∈ lwG := mG (ic_1_12 _ (List.mem_of_getElem? (i := 4) rfl)) rfl
theorem q_127 : (Cond.fieldLink RX5 172 "ShapeSessions$State" "notices" "I") ∈ lwG := mG (ic_1_12 _ (List.mem_of_getElem? (i := 5) rfl)) rfl
theorem q_128 : (Cond.fieldLink RX2 18 "ShapeSessions$State" "noticeTable" "[I") ∈ lwG := mG (ic_1_12 _ (List.mem_of_getElem? (i := 6) rfl)) rfl
theorem q_129 : (Cond.fieldLink RX2 21 "ShapeSessions$State" "noticeDue" "[I") ∈ lwG := mG (ic_1_12 _ (List.mem_of_getElem? (i := 7) rfl)) rfl
theorem q_130 : (Cond.fieldLink RX2 50 "ShapeSessions$State" "started" "I") ∈ lwG := mG (ic_1_12 _ (List.mem_of_getElem? (i := 8) rfl)) rfl
theorem q_131 : (Cond.fieldLink RX5 181 "ShapeSessions$State" "started" "I") ∈ lwG := mG (ic_1_12 _ (List.mem_of_getElem? (i := 9) rfl)) rfl
theorem q_132 : (Cond.fieldLink RX2 24 "ShapeSessions$State" "latestSession" "[I") ∈ lwG := mG (ic_1_12 _ (List.mem_of_getElem? (i := 10) rfl)) rfl
theorem q_133 : (Cond.fieldLink RX5 211 "ShapeSessions$State" "latestSession" "[I") ∈ lwG := mG (ic_1_12 _ (List.mem_of_getElem? (i := 11) rfl)) rfl
theorem q_134 : (Cond.fieldLink RX2 27 "ShapeSessions$State" "latestTables" "[I") ∈ lwG := mG (ic_1_13 _ (List.mem_of_getElem? (i := 0) rfl)) rfl
theorem q_135 : (Cond.fieldLink RX5 214 "ShapeSessions$State" "latestTables" "[I") ∈ lwG := mG (ic_1_13 _ (List.mem_of_getElem? (i := 1) rfl)) rfl
theorem q_136 : (Cond.fieldLink RX2 32 "ShapeSessions$State" "sessions" "[LShapeSessions$Session;") ∈ lwG := mG (ic_1_13 _ (List.mem_of_getElem? (i := 2) rfl)) rfl
theorem q_137 : (Cond.fieldLink RX5 94 "ShapeSessions$State" "sessions" "[LShapeSessions$Session;") ∈ lwG := mG (ic_1_13 _ (List.mem_of_getElem? (i := 3) rfl)) rfl
theorem q_138 : (Cond.lays RX2 "ShapeSessions$State" "ticks" "I") ∈ lwG := mG (ic_1_13 _ (List.mem_of_getElem? (i := 4) rfl)) rfl
theorem q_139 : (Cond.lays RX2 "ShapeSessions$State" "delay" "I") ∈ lwG := mG (ic_1_13 _ (List.mem_of_getElem? (i := 6) rfl)) rfl
theorem q_140 : (Cond.lays RX2 "ShapeSessions$State" "room" "I") ∈ lwG := mG (ic_1_13 _ (List.mem_of_getElem? (i := 8) rfl)) rfl
theorem q_141 : (Cond.laysFinal RX2 "ShapeSessions$State" "version" "[I") ∈ lwG := mG (ic_1_13 _ (List.mem_of_getElem? (i := 10) rfl)) rfl
theorem q_142 : (Cond.laysFinal RX2 "ShapeSessions$State" "shape" "[I") ∈ lwG := mG (ic_1_14 _ (List.mem_of_getElem? (i := 0) rfl)) rfl
theorem q_143 : (Cond.lays RX2 "ShapeSessions$State" "notices" "I") ∈ lwG := mG (ic_1_14 _ (List.mem_of_getElem? (i := 2) rfl)) rfl
theorem q_144 : (Cond.laysFinal RX2 "ShapeSessions$State" "noticeTable" "[I") ∈ lwG := mG (ic_1_14 _ (List.mem_of_getElem? (i := 4) rfl)) rfl
theorem q_145 : (Cond.laysFinal RX2 "ShapeSessions$State" "noticeDue" "[I") ∈ lwG := mG (ic_1_14 _ (List.mem_of_getElem? (i := 6) rfl)) rfl
theorem q_146 : (Cond.lays RX2 "ShapeSessions$State" "started" "I") ∈ lwG := mG (ic_1_14 _ (List.mem_of_getElem? (i := 8) rfl)) rfl
theorem q_147 : (Cond.laysFinal RX2 "ShapeSessions$State" "latestSession" "[I") ∈ lwG := mG (ic_1_14 _ (List.mem_of_getElem? (i := 10) rfl)) rfl
theorem q_148 : (Cond.laysFinal RX2 "ShapeSessions$State" "latestTables" "[I") ∈ lwG := mG (ic_1_15 _ (List.mem_of_getElem? (i := 0) rfl)) rfl
theorem q_149 : (Cond.laysFinal RX2 "ShapeSessions$State" "sessions" "[LShapeSessions$Session;") ∈ lwG := mG (ic_1_15 _ (List.mem_of_getElem? (i := 2) rfl)) rfl
theorem q_150 : (Cond.methodLink RX5 16 yX2_clear) ∈ lwG := mG (ic_1_15 _ (List.mem_of_getElem? (i := 5) rfl)) rfl
theorem q_151 : (Cond.instanceMethod yX2_clear) ∈ lwG := mG (ic_1_15 _ (List.mem_of_getElem? (i := 6) rfl)) rfl
theorem q_152 : (Cond.selects RX2 yX2_clear yX2_clear) ∈ lwG := mG (ic_1_15 _ (List.mem_of_getElem? (i := 7) rfl)) rfl
theorem q_153 : (Cond.code yX2_clear cX2_clear 2 none) ∈ lwG := mG (ic_1_15 _ (List.mem_of_getElem? (i := 8) rfl)) rfl
theorem q_154 : (Cond.methodLink RX2 53 yX1_clear) ∈ lwG := mG (ic_1_15 _ (List.mem_of_getElem? (i := 9) rfl)) rfl
theorem q_155 : (Cond.instanceMethod yX1_clear) ∈ lwG := mG (ic_1_15 _ (List.mem_of_getElem? (i := 10) rfl)) rfl
theorem q_156 : (Cond.selects RX1 yX1_clear yX1_clear) ∈ lwG := mG (ic_1_15 _ (List.mem_of_getElem? (i := 11) rfl)) rfl
theorem q_157 : (Cond.code yX1_clear cX1_clear 2 none) ∈ lwG := mG (ic_1_16 _ (List.mem_of_getElem? (i := 0) rfl)) rfl
theorem q_158 : (Cond.arrayOver (.object "ShapeSessions$State")) ∈ lw_tbl := ic_1_16 _ (List.mem_of_getElem? (i := 1) rfl)
theorem q_159 : (Cond.classLink RX5 37 RX3) ∈ lwG := mG (ic_1_16 _ (List.mem_of_getElem? (i := 2) rfl)) rfl
theorem q_160 : (Cond.instantiable RX3 6) ∈ lwG := mG (ic_1_16 _ (List.mem_of_getElem? (i := 3) rfl)) rfl
theorem q_161 : (Cond.methodLink RX5 39 yX3_init) ∈ lwG := mG (ic_1_16 _ (List.mem_of_getElem? (i := 4) rfl)) rfl
theorem q_162 : (Cond.instanceMethod yX3_init) ∈ lwG := mG (ic_1_16 _ (List.mem_of_getElem? (i := 5) rfl)) rfl
theorem q_163 : (Cond.code yX3_init cX3_init 1 none) ∈ lwG := mG (ic_1_16 _ (List.mem_of_getElem? (i := 6) rfl)) rfl
theorem q_164 : (Cond.methodLink RX3 3 objectInit) ∈ lwG := mG (ic_1_16 _ (List.mem_of_getElem? (i := 7) rfl)) rfl
theorem q_165 : (Cond.fieldLink RX3 9 "ShapeSessions$Text" "signs" "[I") ∈ lwG := mG (ic_1_16 _ (List.mem_of_getElem? (i := 8) rfl)) rfl
theorem q_166 : (Cond.fieldLink RX5 185 "ShapeSessions$Text" "length" "I") ∈ lwG := mG (ic_1_16 _ (List.mem_of_getElem? (i := 9) rfl)) rfl
theorem q_167 : (Cond.laysFinal RX3 "ShapeSessions$Text" "signs" "[I") ∈ lwG := mG (ic_1_16 _ (List.mem_of_getElem? (i := 10) rfl)) rfl
theorem q_168 : (Cond.lays RX3 "ShapeSessions$Text" "length" "I") ∈ lwG := mG (ic_1_17 _ (List.mem_of_getElem? (i := 0) rfl)) rfl
theorem q_169 : (Cond.lays RX3 "ShapeSessions$Text" "letter" "I") ∈ lwG := mG (ic_1_17 _ (List.mem_of_getElem? (i := 2) rfl)) rfl
theorem q_170 : (Cond.lays RX3 "ShapeSessions$Text" "first" "I") ∈ lwG := mG (ic_1_17 _ (List.mem_of_getElem? (i := 4) rfl)) rfl
theorem q_171 : (Cond.lays RX3 "ShapeSessions$Text" "second" "I") ∈ lwG := mG (ic_1_17 _ (List.mem_of_getElem? (i := 6) rfl)) rfl
theorem q_172 : (Cond.lays RX3 "ShapeSessions$Text" "behind" "I") ∈ lwG := mG (ic_1_17 _ (List.mem_of_getElem? (i := 8) rfl)) rfl
theorem q_173 : (Cond.fieldLink RX5 10 "ShapeSessions" "now" "LShapeSessions$State;") ∈ lwG := mG (ic_1_17 _ (List.mem_of_getElem? (i := 11) rfl)) rfl
theorem q_174 : (Cond.fieldLink RX5 19 "ShapeSessions" "trial" "LShapeSessions$State;") ∈ lwG := mG (ic_1_18 _ (List.mem_of_getElem? (i := 0) rfl)) rfl
theorem q_175 : (Cond.fieldLink RX5 22 "ShapeSessions" "kept" "LShapeSessions$State;") ∈ lwG := mG (ic_1_18 _ (List.mem_of_getElem? (i := 1) rfl)) rfl
theorem q_176 : (Cond.fieldLink RX5 25 "ShapeSessions" "hasKept" "Z") ∈ lwG := mG (ic_1_18 _ (List.mem_of_getElem? (i := 2) rfl)) rfl
theorem q_177 : (Cond.fieldLink RX5 29 "ShapeSessions" "history" "[LShapeSessions$State;") ∈ lwG := mG (ic_1_18 _ (List.mem_of_getElem? (i := 3) rfl)) rfl
theorem q_178 : (Cond.fieldLink RX5 33 "ShapeSessions" "recorded" "I") ∈ lwG := mG (ic_1_18 _ (List.mem_of_getElem? (i := 4) rfl)) rfl
theorem q_179 : (Cond.fieldLink RX5 40 "ShapeSessions" "text" "LShapeSessions$Text;") ∈ lwG := mG (ic_1_18 _ (List.mem_of_getElem? (i := 5) rfl)) rfl
theorem q_180 : (Cond.fieldLink RX5 44 "ShapeSessions" "faultPosition" "I") ∈ lwG := mG (ic_1_18 _ (List.mem_of_getElem? (i := 6) rfl)) rfl
theorem q_181 : (Cond.fieldLink RX5 47 "ShapeSessions" "faultReason" "I") ∈ lwG := mG (ic_1_18 _ (List.mem_of_getElem? (i := 7) rfl)) rfl
theorem q_182 : (Cond.fieldLink RX5 50 "ShapeSessions" "faultCause" "I") ∈ lwG := mG (ic_1_18 _ (List.mem_of_getElem? (i := 8) rfl)) rfl
theorem q_183 : (Cond.lays RX5 "ShapeSessions" "now" "LShapeSessions$State;") ∈ lwG := mG (ic_1_18 _ (List.mem_of_getElem? (i := 9) rfl)) rfl
theorem q_184 : (Cond.lays RX5 "ShapeSessions" "trial" "LShapeSessions$State;") ∈ lwG := mG (ic_1_18 _ (List.mem_of_getElem? (i := 11) rfl)) rfl
theorem q_185 : (Cond.laysFinal RX5 "ShapeSessions" "kept" "LShapeSessions$State;") ∈ lwG := mG (ic_1_19 _ (List.mem_of_getElem? (i := 1) rfl)) rfl
theorem q_186 : (Cond.lays RX5 "ShapeSessions" "hasKept" "Z") ∈ lwG := mG (ic_1_19 _ (List.mem_of_getElem? (i := 3) rfl)) rfl
theorem q_187 : (Cond.laysFinal RX5 "ShapeSessions" "history" "[LShapeSessions$State;") ∈ lwG := mG (ic_1_19 _ (List.mem_of_getElem? (i := 5) rfl)) rfl
theorem q_188 : (Cond.lays RX5 "ShapeSessions" "recorded" "I") ∈ lwG := mG (ic_1_19 _ (List.mem_of_getElem? (i := 7) rfl)) rfl
theorem q_189 : (Cond.laysFinal RX5 "ShapeSessions" "text" "LShapeSessions$Text;") ∈ lwG := mG (ic_1_19 _ (List.mem_of_getElem? (i := 9) rfl)) rfl
theorem q_190 : (Cond.lays RX5 "ShapeSessions" "faultPosition" "I") ∈ lwG := mG (ic_1_19 _ (List.mem_of_getElem? (i := 11) rfl)) rfl
theorem q_191 : (Cond.lays RX5 "ShapeSessions" "faultReason" "I") ∈ lwG := mG (ic_2_0 _ (List.mem_of_getElem? (i := 1) rfl)) rfl
theorem q_192 : (Cond.lays RX5 "ShapeSessions" "faultCause" "I") ∈ lwG := mG (ic_2_0 _ (List.mem_of_getElem? (i := 3) rfl)) rfl
theorem q_193 : (Cond.methodLink RL 46 yX5_tableOf) ∈ lwG := mG (ic_2_0 _ (List.mem_of_getElem? (i := 6) rfl)) rfl
theorem q_194 : (Cond.instanceMethod yX5_tableOf) ∈ lwG := mG (ic_2_0 _ (List.mem_of_getElem? (i := 7) rfl)) rfl
theorem q_195 : (Cond.selects RX5 yX5_tableOf yX5_tableOf) ∈ lwG := mG (ic_2_0 _ (List.mem_of_getElem? (i := 8) rfl)) rfl
theorem q_196 : (Cond.code yX5_tableOf cX5_tableOf 3 (some .int)) ∈ lwG := mG (ic_2_0 _ (List.mem_of_getElem? (i := 9) rfl)) rfl
theorem q_197 : (Cond.methodLink RX5 84 yX2_leastVersionAtWork) ∈ lwG := mG (ic_2_0 _ (List.mem_of_getElem? (i := 10) rfl)) rfl
theorem q_198 : (Cond.instanceMethod yX2_leastVersionAtWork) ∈ lwG := mG (ic_2_0 _ (List.mem_of_getElem? (i := 11) rfl)) rfl
theorem q_199 : (Cond.selects RX2 yX2_leastVersionAtWork yX2_leastVersionAtWork) ∈ lwG := mG (ic_2_1 _ (List.mem_of_getElem? (i := 0) rfl)) rfl
theorem q_200 : (Cond.code yX2_leastVersionAtWork cX2_leastVersionAtWork 5 (some .int)) ∈ lwG := mG (ic_2_1 _ (List.mem_of_getElem? (i := 1) rfl)) rfl
theorem q_201 : (Cond.methodLink RX2 137 yX1_leastVersionAtWork) ∈ lwG := mG (ic_2_1 _ (List.mem_of_getElem? (i := 2) rfl)) rfl
theorem q_202 : (Cond.instanceMethod yX1_leastVersionAtWork) ∈ lwG := mG (ic_2_1 _ (List.mem_of_getElem? (i := 3) rfl)) rfl
theorem q_203 : (Cond.selects RX1 yX1_leastVersionAtWork yX1_leastVersionAtWork) ∈ lwG := mG (ic_2_1 _ (List.mem_of_getElem? (i := 4) rfl)) rfl
theorem q_204 : (Cond.code yX1_leastVersionAtWork cX1_leastVersionAtWork 3 (some .int)) ∈ lwG := mG (ic_2_1 _ (List.mem_of_getElem? (i := 5) rfl)) rfl
theorem q_205 : (Cond.methodLink RX5 87 yX2_handsWith) ∈ lwG := mG (ic_2_1 _ (List.mem_of_getElem? (i := 6) rfl)) rfl
theorem q_206 : (Cond.instanceMethod yX2_handsWith) ∈ lwG := mG (ic_2_1 _ (List.mem_of_getElem? (i := 7) rfl)) rfl
theorem q_207 : (Cond.selects RX2 yX2_handsWith yX2_handsWith) ∈ lwG := mG (ic_2_1 _ (List.mem_of_getElem? (i := 8) rfl)) rfl
theorem q_208 : (Cond.code yX2_handsWith cX2_handsWith 4 (some .int)) ∈ lwG := mG (ic_2_1 _ (List.mem_of_getElem? (i := 9) rfl)) rfl
theorem q_209 : (Cond.methodLink RX2 138 yX1_freshEntryOf) ∈ lwG := mG (ic_2_1 _ (List.mem_of_getElem? (i := 10) rfl)) rfl
theorem q_210 : (Cond.instanceMethod yX1_freshEntryOf) ∈ lwG := mG (ic_2_1 _ (List.mem_of_getElem? (i := 11) rfl)) rfl
theorem q_211 : (Cond.selects RX1 yX1_freshEntryOf yX1_freshEntryOf) ∈ lwG := mG (ic_2_2 _ (List.mem_of_getElem? (i := 0) rfl)) rfl
theorem q_212 : (Cond.code yX1_freshEntryOf cX1_freshEntryOf 3 (some .int)) ∈ lwG := mG (ic_2_2 _ (List.mem_of_getElem? (i := 1) rfl)) rfl
theorem q_213 : (Cond.methodLink RX5 90 yX2_canChange) ∈ lwG := mG (ic_2_2 _ (List.mem_of_getElem? (i := 2) rfl)) rfl
theorem q_214 : (Cond.instanceMethod yX2_canChange) ∈ lwG := mG (ic_2_2 _ (List.mem_of_getElem? (i := 3) rfl)) rfl
theorem q_215 : (Cond.selects RX2 yX2_canChange yX2_canChange) ∈ lwG := mG (ic_2_2 _ (List.mem_of_getElem? (i := 4) rfl)) rfl
theorem q_216 : (Cond.code yX2_canChange cX2_canChange 3 (some .boolean)) ∈ lwG := mG (ic_2_2 _ (List.mem_of_getElem? (i := 5) rfl)) rfl
theorem q_217 : (Cond.methodLink RX2 134 yX2_leastVersionAtWork) ∈ lwG := mG (ic_2_2 _ (List.mem_of_getElem? (i := 6) rfl)) rfl
theorem q_218 : (Cond.methodLink RL 8 yX5_count) ∈ lwG := mG (ic_2_2 _ (List.mem_of_getElem? (i := 7) rfl)) rfl
theorem q_219 : (Cond.instanceMethod yX5_count) ∈ lwG := mG (ic_2_2 _ (List.mem_of_getElem? (i := 8) rfl)) rfl
theorem q_220 : (Cond.selects RX5 yX5_count yX5_count) ∈ lwG := mG (ic_2_2 _ (List.mem_of_getElem? (i := 9) rfl)) rfl
theorem q_221 : (Cond.code yX5_count cX5_count 2 (some .int)) ∈ lwG := mG (ic_2_2 _ (List.mem_of_getElem? (i := 10) rfl)) rfl
theorem q_222 : (Cond.methodLink RX5 184 yX2_statementsAtWork) ∈ lwG := mG (ic_2_2 _ (List.mem_of_getElem? (i := 11) rfl)) rfl
theorem q_223 : (Cond.instanceMethod yX2_statementsAtWork) ∈ lwG := mG (ic_2_3 _ (List.mem_of_getElem? (i := 0) rfl)) rfl
theorem q_224 : (Cond.selects RX2 yX2_statementsAtWork yX2_statementsAtWork) ∈ lwG := mG (ic_2_3 _ (List.mem_of_getElem? (i := 1) rfl)) rfl
theorem q_225 : (Cond.code yX2_statementsAtWork cX2_statementsAtWork 3 (some .int)) ∈ lwG := mG (ic_2_3 _ (List.mem_of_getElem? (i := 2) rfl)) rfl
theorem q_226 : (Cond.methodLink RX2 141 yX1_statementsAtWork) ∈ lwG := mG (ic_2_3 _ (List.mem_of_getElem? (i := 3) rfl)) rfl
theorem q_227 : (Cond.instanceMethod yX1_statementsAtWork) ∈ lwG := mG (ic_2_3 _ (List.mem_of_getElem? (i := 4) rfl)) rfl
theorem q_228 : (Cond.selects RX1 yX1_statementsAtWork yX1_statementsAtWork) ∈ lwG := mG (ic_2_3 _ (List.mem_of_getElem? (i := 5) rfl)) rfl
theorem q_229 : (Cond.code yX1_statementsAtWork cX1_statementsAtWork 3 (some .int)) ∈ lwG := mG (ic_2_3 _ (List.mem_of_getElem? (i := 6) rfl)) rfl
theorem q_230 : (Cond.methodLink RX5 188 yX2_tablesThatCanChange) ∈ lwG := mG (ic_2_3 _ (List.mem_of_getElem? (i := 7) rfl)) rfl
theorem q_231 : (Cond.instanceMethod yX2_tablesThatCanChange) ∈ lwG := mG (ic_2_3 _ (List.mem_of_getElem? (i := 8) rfl)) rfl
theorem q_232 : (Cond.selects RX2 yX2_tablesThatCanChange yX2_tablesThatCanChange) ∈ lwG := mG (ic_2_3 _ (List.mem_of_getElem? (i := 9) rfl)) rfl
theorem q_233 : (Cond.code yX2_tablesThatCanChange cX2_tablesThatCanChange 3 (some .int)) ∈ lwG := mG (ic_2_3 _ (List.mem_of_getElem? (i := 10) rfl)) rfl
theorem q_234 : (Cond.methodLink RX2 74 yX2_canChange) ∈ lwG := mG (ic_2_3 _ (List.mem_of_getElem? (i := 11) rfl)) rfl
theorem q_235 : (Cond.methodLink RX5 191 yX2_loadsOfAll) ∈ lwG := mG (ic_2_4 _ (List.mem_of_getElem? (i := 0) rfl)) rfl
theorem q_236 : (Cond.instanceMethod yX2_loadsOfAll) ∈ lwG := mG (ic_2_4 _ (List.mem_of_getElem? (i := 1) rfl)) rfl
theorem q_237 : (Cond.selects RX2 yX2_loadsOfAll yX2_loadsOfAll) ∈ lwG := mG (ic_2_4 _ (List.mem_of_getElem? (i := 2) rfl)) rfl
theorem q_238 : (Cond.code yX2_loadsOfAll cX2_loadsOfAll 3 (some .int)) ∈ lwG := mG (ic_2_4 _ (List.mem_of_getElem? (i := 3) rfl)) rfl
theorem q_239 : (Cond.methodLink RL 81 yX5_bestRoom) ∈ lwG := mG (ic_2_4 _ (List.mem_of_getElem? (i := 4) rfl)) rfl
theorem q_240 : (Cond.instanceMethod yX5_bestRoom) ∈ lwG := mG (ic_2_4 _ (List.mem_of_getElem? (i := 5) rfl)) rfl
theorem q_241 : (Cond.selects RX5 yX5_bestRoom yX5_bestRoom) ∈ lwG := mG (ic_2_4 _ (List.mem_of_getElem? (i := 6) rfl)) rfl
theorem q_242 : (Cond.code yX5_bestRoom cX5_bestRoom 6 (some .int)) ∈ lwG := mG (ic_2_4 _ (List.mem_of_getElem? (i := 7) rfl)) rfl
theorem q_243 : (Cond.methodLink RX5 203 yX5_loadsWithRoom) ∈ lwG := mG (ic_2_4 _ (List.mem_of_getElem? (i := 8) rfl)) rfl
theorem q_244 : (Cond.instanceMethod yX5_loadsWithRoom) ∈ lwG := mG (ic_2_4 _ (List.mem_of_getElem? (i := 10) rfl)) rfl
theorem q_245 : (Cond.code yX5_loadsWithRoom cX5_loadsWithRoom 5 (some .int)) ∈ lwG := mG (ic_2_4 _ (List.mem_of_getElem? (i := 11) rfl)) rfl
theorem q_246 : (Cond.methodLink RX5 206 Lib.Math.max.name) ∈ lwG := mG (ic_2_5 _ (List.mem_of_getElem? (i := 0) rfl)) rfl
theorem q_247 : (Cond.static Lib.Math.max.name) ∈ lwG := mG (ic_2_5 _ (List.mem_of_getElem? (i := 1) rfl)) rfl
theorem q_248 : (Cond.code Lib.Math.max.name Lib.Math.max.code 2 (some .int)) ∈ lwG := mG (ic_2_5 _ (List.mem_of_getElem? (i := 2) rfl)) rfl
theorem q_249 : (Cond.methodLink RX5 65 yX2_begin) ∈ lwG := mG (ic_2_5 _ (List.mem_of_getElem? (i := 3) rfl)) rfl
theorem q_250 : (Cond.instanceMethod yX2_begin) ∈ lwG := mG (ic_2_5 _ (List.mem_of_getElem? (i := 4) rfl)) rfl
theorem q_251 : (Cond.selects RX2 yX2_begin yX2_begin) ∈ lwG := mG (ic_2_5 _ (List.mem_of_getElem? (i := 5) rfl)) rfl
theorem q_252 : (Cond.code yX2_begin cX2_begin 6 (some .int)) ∈ lwG := mG (ic_2_5 _ (List.mem_of_getElem? (i := 6) rfl)) rfl
theorem q_253 : (Cond.methodLink RX2 82 yX1_idleWork) ∈ lwG := mG (ic_2_5 _ (List.mem_of_getElem? (i := 7) rfl)) rfl
theorem q_254 : (Cond.instanceMethod yX1_idleWork) ∈ lwG := mG (ic_2_5 _ (List.mem_of_getElem? (i := 8) rfl)) rfl
theorem q_255 : (Cond.selects RX1 yX1_idleWork yX1_idleWork) ∈ lwG := mG (ic_2_5 _ (List.mem_of_getElem? (i := 9) rfl)) rfl
theorem q_256 : (Cond.code yX1_idleWork cX1_idleWork 1 (some (.object "ShapeSessions$Work"))) ∈ lwG := mG (ic_2_5 _ (List.mem_of_getElem? (i := 10) rfl)) rfl
theorem q_257 : (Cond.methodLink RX1 112 yX1_workWithNumber) ∈ lwG := mG (ic_2_5 _ (List.mem_of_getElem? (i := 11) rfl)) rfl
theorem q_258 : (Cond.instanceMethod yX1_workWithNumber) ∈ lwG := mG (ic_2_6 _ (List.mem_of_getElem? (i := 1) rfl)) rfl
theorem q_259 : (Cond.code yX1_workWithNumber cX1_workWithNumber 3 (some (.object "ShapeSessions$Work"))) ∈ lwG := mG (ic_2_6 _ (List.mem_of_getElem? (i := 2) rfl)) rfl
theorem q_260 : (Cond.methodLink RX2 89 yX1_learn) ∈ lwG := mG (ic_2_6 _ (List.mem_of_getElem? (i := 3) rfl)) rfl
theorem q_261 : (Cond.instanceMethod yX1_learn) ∈ lwG := mG (ic_2_6 _ (List.mem_of_getElem? (i := 4) rfl)) rfl
theorem q_262 : (Cond.selects RX1 yX1_learn yX1_learn) ∈ lwG := mG (ic_2_6 _ (List.mem_of_getElem? (i := 5) rfl)) rfl
theorem q_263 : (Cond.code yX1_learn cX1_learn 6 none) ∈ lwG := mG (ic_2_6 _ (List.mem_of_getElem? (i := 6) rfl)) rfl
theorem q_264 : (Cond.methodLink RX1 70 yX1_takeOut) ∈ lwG := mG (ic_2_6 _ (List.mem_of_getElem? (i := 7) rfl)) rfl
theorem q_265 : (Cond.instanceMethod yX1_takeOut) ∈ lwG := mG (ic_2_6 _ (List.mem_of_getElem? (i := 9) rfl)) rfl
theorem q_266 : (Cond.code yX1_takeOut cX1_takeOut 4 none) ∈ lwG := mG (ic_2_6 _ (List.mem_of_getElem? (i := 10) rfl)) rfl
theorem q_267 : (Cond.methodLinkNest RX2 107 yX5_contains RX5) ∈ lw_tbl := ic_2_6 _ (List.mem_of_getElem? (i := 11) rfl)
theorem q_268 : (Cond.static yX5_contains) ∈ lwG := mG (ic_2_7 _ (List.mem_of_getElem? (i := 0) rfl)) rfl
theorem q_269 : (Cond.code yX5_contains cX5_contains 2 (some .boolean)) ∈ lwG := mG (ic_2_7 _ (List.mem_of_getElem? (i := 1) rfl)) rfl
theorem q_270 : (Cond.methodLink RX2 111 yX1_use) ∈ lwG := mG (ic_2_7 _ (List.mem_of_getElem? (i := 2) rfl)) rfl
theorem q_271 : (Cond.instanceMethod yX1_use) ∈ lwG := mG (ic_2_7 _ (List.mem_of_getElem? (i := 3) rfl)) rfl
theorem q_272 : (Cond.selects RX1 yX1_use yX1_use) ∈ lwG := mG (ic_2_7 _ (List.mem_of_getElem? (i := 4) rfl)) rfl
theorem q_273 : (Cond.code yX1_use cX1_use 8 (some .boolean)) ∈ lwG := mG (ic_2_7 _ (List.mem_of_getElem? (i := 5) rfl)) rfl
theorem q_274 : (Cond.methodLink RX1 74 yX1_freshEntryOf) ∈ lwG := mG (ic_2_7 _ (List.mem_of_getElem? (i := 6) rfl)) rfl
theorem q_275 : (Cond.methodLink RX1 78 yX1_shrinkTo) ∈ lwG := mG (ic_2_7 _ (List.mem_of_getElem? (i := 7) rfl)) rfl
theorem q_276 : (Cond.instanceMethod yX1_shrinkTo) ∈ lwG := mG (ic_2_7 _ (List.mem_of_getElem? (i := 8) rfl)) rfl
theorem q_277 : (Cond.selects RX1 yX1_shrinkTo yX1_shrinkTo) ∈ lwG := mG (ic_2_7 _ (List.mem_of_getElem? (i := 9) rfl)) rfl
theorem q_278 : (Cond.code yX1_shrinkTo cX1_shrinkTo 4 none) ∈ lwG := mG (ic_2_7 _ (List.mem_of_getElem? (i := 10) rfl)) rfl
theorem q_279 : (Cond.methodLink RX1 95 yX1_longestUnused) ∈ lwG := mG (ic_2_7 _ (List.mem_of_getElem? (i := 11) rfl)) rfl
theorem q_280 : (Cond.instanceMethod yX1_longestUnused) ∈ lwG := mG (ic_2_8 _ (List.mem_of_getElem? (i := 1) rfl)) rfl
theorem q_281 : (Cond.code yX1_longestUnused cX1_longestUnused 3 (some .int)) ∈ lwG := mG (ic_2_8 _ (List.mem_of_getElem? (i := 2) rfl)) rfl
theorem q_282 : (Cond.methodLink RX1 81 yX1_putIn) ∈ lwG := mG (ic_2_8 _ (List.mem_of_getElem? (i := 3) rfl)) rfl
theorem q_283 : (Cond.instanceMethod yX1_putIn) ∈ lwG := mG (ic_2_8 _ (List.mem_of_getElem? (i := 5) rfl)) rfl
theorem q_284 : (Cond.code yX1_putIn cX1_putIn 6 (some .int)) ∈ lwG := mG (ic_2_8 _ (List.mem_of_getElem? (i := 6) rfl)) rfl
theorem q_285 : (Cond.methodLink RX1 99 yX0_comesBehind) ∈ lwG := mG (ic_2_8 _ (List.mem_of_getElem? (i := 7) rfl)) rfl
theorem q_286 : (Cond.instanceMethod yX0_comesBehind) ∈ lwG := mG (ic_2_8 _ (List.mem_of_getElem? (i := 8) rfl)) rfl
theorem q_287 : (Cond.selects RX0 yX0_comesBehind yX0_comesBehind) ∈ lwG := mG (ic_2_8 _ (List.mem_of_getElem? (i := 9) rfl)) rfl
theorem q_288 : (Cond.code yX0_comesBehind cX0_comesBehind 3 (some .boolean)) ∈ lwG := mG (ic_2_8 _ (List.mem_of_getElem? (i := 10) rfl)) rfl
theorem q_289 : (Cond.methodLink RX5 68 yX2_finish) ∈ lwG := mG (ic_2_8 _ (List.mem_of_getElem? (i := 11) rfl)) rfl
theorem q_290 : (Cond.instanceMethod yX2_finish) ∈ lwG := mG (ic_2_9 _ (List.mem_of_getElem? (i := 0) rfl)) rfl
theorem q_291 : (Cond.selects RX2 yX2_finish yX2_finish) ∈ lwG := mG (ic_2_9 _ (List.mem_of_getElem? (i := 1) rfl)) rfl
theorem q_292 : (Cond.code yX2_finish cX2_finish 4 (some .int)) ∈ lwG := mG (ic_2_9 _ (List.mem_of_getElem? (i := 2) rfl)) rfl
theorem q_293 : (Cond.methodLink RX2 115 yX1_workOf) ∈ lwG := mG (ic_2_9 _ (List.mem_of_getElem? (i := 3) rfl)) rfl
theorem q_294 : (Cond.instanceMethod yX1_workOf) ∈ lwG := mG (ic_2_9 _ (List.mem_of_getElem? (i := 4) rfl)) rfl
theorem q_295 : (Cond.selects RX1 yX1_workOf yX1_workOf) ∈ lwG := mG (ic_2_9 _ (List.mem_of_getElem? (i := 5) rfl)) rfl
theorem q_296 : (Cond.code yX1_workOf cX1_workOf 2 (some (.object "ShapeSessions$Work"))) ∈ lwG := mG (ic_2_9 _ (List.mem_of_getElem? (i := 6) rfl)) rfl
theorem q_297 : (Cond.methodLink RX2 119 yX1_release) ∈ lwG := mG (ic_2_9 _ (List.mem_of_getElem? (i := 7) rfl)) rfl
theorem q_298 : (Cond.instanceMethod yX1_release) ∈ lwG := mG (ic_2_9 _ (List.mem_of_getElem? (i := 8) rfl)) rfl
theorem q_299 : (Cond.selects RX1 yX1_release yX1_release) ∈ lwG := mG (ic_2_9 _ (List.mem_of_getElem? (i := 9) rfl)) rfl
theorem q_300 : (Cond.code yX1_release cX1_release 6 (some .int)) ∈ lwG := mG (ic_2_9 _ (List.mem_of_getElem? (i := 10) rfl)) rfl
theorem q_301 : (Cond.methodLink RX1 91 yX4_worksBy) ∈ lwG := mG (ic_2_9 _ (List.mem_of_getElem? (i := 11) rfl)) rfl
theorem q_302 : (Cond.instanceMethod yX4_worksBy) ∈ lwG := mG (ic_2_10 _ (List.mem_of_getElem? (i := 0) rfl)) rfl
theorem q_303 : (Cond.selects RX4 yX4_worksBy yX4_worksBy) ∈ lwG := mG (ic_2_10 _ (List.mem_of_getElem? (i := 1) rfl)) rfl
theorem q_304 : (Cond.code yX4_worksBy cX4_worksBy 2 (some .boolean)) ∈ lwG := mG (ic_2_10 _ (List.mem_of_getElem? (i := 2) rfl)) rfl
theorem q_305 : (Cond.methodLinkNest RX4 30 yX5_contains RX5) ∈ lw_tbl := ic_2_10 _ (List.mem_of_getElem? (i := 3) rfl)
theorem q_306 : (Cond.methodLink RL 66 yL_cell) ∈ lwG := mG (ic_2_10 _ (List.mem_of_getElem? (i := 4) rfl)) rfl
theorem q_307 : (Cond.static yL_cell) ∈ lwG := mG (ic_2_10 _ (List.mem_of_getElem? (i := 5) rfl)) rfl
theorem q_308 : (Cond.code yL_cell cL_cell 2 (some .int)) ∈ lwG := mG (ic_2_10 _ (List.mem_of_getElem? (i := 6) rfl)) rfl
theorem q_309 : (Cond.methodLink RL 14 yL_low) ∈ lwG := mG (ic_2_10 _ (List.mem_of_getElem? (i := 7) rfl)) rfl
theorem q_310 : (Cond.static yL_low) ∈ lwG := mG (ic_2_10 _ (List.mem_of_getElem? (i := 8) rfl)) rfl
theorem q_311 : (Cond.code yL_low cL_low 2 (some .int)) ∈ lwG := mG (ic_2_10 _ (List.mem_of_getElem? (i := 9) rfl)) rfl
theorem q_312 : (Cond.constant RL 7 (2147483647 : Int32)) ∈ lwG := mG (ic_2_10 _ (List.mem_of_getElem? (i := 10) rfl)) rfl
theorem q_313 : (Cond.methodLink RL 70 yL_does) ∈ lwG := mG (ic_2_10 _ (List.mem_of_getElem? (i := 11) rfl)) rfl
theorem q_314 : (Cond.static yL_does) ∈ lwG := mG (ic_2_11 _ (List.mem_of_getElem? (i := 0) rfl)) rfl
theorem q_315 : (Cond.code yL_does cL_does 2 (some .int)) ∈ lwG := mG (ic_2_11 _ (List.mem_of_getElem? (i := 1) rfl)) rfl
theorem q_316 : (Cond.methodLink RL 20 yX5_alter) ∈ lwG := mG (ic_2_11 _ (List.mem_of_getElem? (i := 2) rfl)) rfl
theorem q_317 : (Cond.instanceMethod yX5_alter) ∈ lwG := mG (ic_2_11 _ (List.mem_of_getElem? (i := 3) rfl)) rfl
theorem q_318 : (Cond.selects RX5 yX5_alter yX5_alter) ∈ lwG := mG (ic_2_11 _ (List.mem_of_getElem? (i := 4) rfl)) rfl
theorem q_319 : (Cond.code yX5_alter cX5_alter 3 (some .int)) ∈ lwG := mG (ic_2_11 _ (List.mem_of_getElem? (i := 5) rfl)) rfl
theorem q_320 : (Cond.methodLink RX5 53 yX2_copyFrom) ∈ lwG := mG (ic_2_11 _ (List.mem_of_getElem? (i := 6) rfl)) rfl
theorem q_321 : (Cond.instanceMethod yX2_copyFrom) ∈ lwG := mG (ic_2_11 _ (List.mem_of_getElem? (i := 7) rfl)) rfl
theorem q_322 : (Cond.selects RX2 yX2_copyFrom yX2_copyFrom) ∈ lwG := mG (ic_2_11 _ (List.mem_of_getElem? (i := 8) rfl)) rfl
theorem q_323 : (Cond.code yX2_copyFrom cX2_copyFrom 3 none) ∈ lwG := mG (ic_2_11 _ (List.mem_of_getElem? (i := 9) rfl)) rfl
theorem q_324 : (Cond.methodLink RX2 56 yX1_copyFrom) ∈ lwG := mG (ic_2_11 _ (List.mem_of_getElem? (i := 10) rfl)) rfl
theorem q_325 : (Cond.instanceMethod yX1_copyFrom) ∈ lwG := mG (ic_2_11 _ (List.mem_of_getElem? (i := 11) rfl)) rfl
theorem q_326 : (Cond.selects RX1 yX1_copyFrom yX1_copyFrom) ∈ lwG := mG (ic_2_12 _ (List.mem_of_getElem? (i := 0) rfl)) rfl
theorem q_327 : (Cond.code yX1_copyFrom cX1_copyFrom 3 none) ∈ lwG := mG (ic_2_12 _ (List.mem_of_getElem? (i := 1) rfl)) rfl
theorem q_328 : (Cond.methodLink RX1 50 yX0_copyFrom) ∈ lwG := mG (ic_2_12 _ (List.mem_of_getElem? (i := 2) rfl)) rfl
theorem q_329 : (Cond.instanceMethod yX0_copyFrom) ∈ lwG := mG (ic_2_12 _ (List.mem_of_getElem? (i := 3) rfl)) rfl
theorem q_330 : (Cond.selects RX0 yX0_copyFrom yX0_copyFrom) ∈ lwG := mG (ic_2_12 _ (List.mem_of_getElem? (i := 4) rfl)) rfl
theorem q_331 : (Cond.code yX0_copyFrom cX0_copyFrom 2 none) ∈ lwG := mG (ic_2_12 _ (List.mem_of_getElem? (i := 5) rfl)) rfl
theorem q_332 : (Cond.methodLink RX1 54 yX4_copyFrom) ∈ lwG := mG (ic_2_12 _ (List.mem_of_getElem? (i := 6) rfl)) rfl
theorem q_333 : (Cond.instanceMethod yX4_copyFrom) ∈ lwG := mG (ic_2_12 _ (List.mem_of_getElem? (i := 7) rfl)) rfl
theorem q_334 : (Cond.selects RX4 yX4_copyFrom yX4_copyFrom) ∈ lwG := mG (ic_2_12 _ (List.mem_of_getElem? (i := 8) rfl)) rfl
theorem q_335 : (Cond.code yX4_copyFrom cX4_copyFrom 3 none) ∈ lwG := mG (ic_2_12 _ (List.mem_of_getElem? (i := 9) rfl)) rfl
theorem q_336 : (Cond.methodLink RX5 57 yX2_changeTable) ∈ lwG := mG (ic_2_12 _ (List.mem_of_getElem? (i := 10) rfl)) rfl
theorem q_337 : (Cond.instanceMethod yX2_changeTable) ∈ lwG := mG (ic_2_12 _ (List.mem_of_getElem? (i := 11) rfl)) rfl
theorem q_338 : (Cond.selects RX2 yX2_changeTable yX2_changeTable) ∈ lwG := mG (ic_2_13 _ (List.mem_of_getElem? (i := 0) rfl)) rfl
theorem q_339 : (Cond.code yX2_changeTable cX2_changeTable 4 (some .int)) ∈ lwG := mG (ic_2_13 _ (List.mem_of_getElem? (i := 1) rfl)) rfl
theorem q_340 : (Cond.methodLink RX2 78 yX2_arrive) ∈ lwG := mG (ic_2_13 _ (List.mem_of_getElem? (i := 2) rfl)) rfl
theorem q_341 : (Cond.instanceMethod yX2_arrive) ∈ lwG := mG (ic_2_13 _ (List.mem_of_getElem? (i := 4) rfl)) rfl
theorem q_342 : (Cond.code yX2_arrive cX2_arrive 3 none) ∈ lwG := mG (ic_2_13 _ (List.mem_of_getElem? (i := 5) rfl)) rfl
theorem q_343 : (Cond.methodLink RX5 61 yX5_settle) ∈ lwG := mG (ic_2_13 _ (List.mem_of_getElem? (i := 6) rfl)) rfl
theorem q_344 : (Cond.instanceMethod yX5_settle) ∈ lwG := mG (ic_2_13 _ (List.mem_of_getElem? (i := 8) rfl)) rfl
theorem q_345 : (Cond.code yX5_settle cX5_settle 2 (some .int)) ∈ lwG := mG (ic_2_13 _ (List.mem_of_getElem? (i := 9) rfl)) rfl
theorem q_346 : (Cond.methodLink RX5 217 yX5_record) ∈ lwG := mG (ic_2_13 _ (List.mem_of_getElem? (i := 10) rfl)) rfl
theorem q_347 : (Cond.instanceMethod yX5_record) ∈ lwG := mG (ic_2_14 _ (List.mem_of_getElem? (i := 0) rfl)) rfl
theorem q_348 : (Cond.code yX5_record cX5_record 3 none) ∈ lwG := mG (ic_2_14 _ (List.mem_of_getElem? (i := 1) rfl)) rfl
theorem q_349 : (Cond.methodLink RL 23 yX5_set) ∈ lwG := mG (ic_2_14 _ (List.mem_of_getElem? (i := 2) rfl)) rfl
theorem q_350 : (Cond.instanceMethod yX5_set) ∈ lwG := mG (ic_2_14 _ (List.mem_of_getElem? (i := 3) rfl)) rfl
theorem q_351 : (Cond.selects RX5 yX5_set yX5_set) ∈ lwG := mG (ic_2_14 _ (List.mem_of_getElem? (i := 4) rfl)) rfl
theorem q_352 : (Cond.code yX5_set cX5_set 3 (some .int)) ∈ lwG := mG (ic_2_14 _ (List.mem_of_getElem? (i := 5) rfl)) rfl
theorem q_353 : (Cond.methodLink RX5 74 yX2_adjust) ∈ lwG := mG (ic_2_14 _ (List.mem_of_getElem? (i := 6) rfl)) rfl
theorem q_354 : (Cond.instanceMethod yX2_adjust) ∈ lwG := mG (ic_2_14 _ (List.mem_of_getElem? (i := 7) rfl)) rfl
theorem q_355 : (Cond.selects RX2 yX2_adjust yX2_adjust) ∈ lwG := mG (ic_2_14 _ (List.mem_of_getElem? (i := 8) rfl)) rfl
theorem q_356 : (Cond.code yX2_adjust cX2_adjust 5 (some .int)) ∈ lwG := mG (ic_2_14 _ (List.mem_of_getElem? (i := 9) rfl)) rfl
theorem q_357 : (Cond.methodLink RX2 131 yX1_shrinkTo) ∈ lwG := mG (ic_2_14 _ (List.mem_of_getElem? (i := 10) rfl)) rfl
theorem q_358 : (Cond.methodLink RL 26 yX5_tick) ∈ lwG := mG (ic_2_14 _ (List.mem_of_getElem? (i := 11) rfl)) rfl
theorem q_359 : (Cond.instanceMethod yX5_tick) ∈ lwG := mG (ic_2_15 _ (List.mem_of_getElem? (i := 0) rfl)) rfl
theorem q_360 : (Cond.selects RX5 yX5_tick yX5_tick) ∈ lwG := mG (ic_2_15 _ (List.mem_of_getElem? (i := 1) rfl)) rfl
theorem q_361 : (Cond.code yX5_tick cX5_tick 2 (some .int)) ∈ lwG := mG (ic_2_15 _ (List.mem_of_getElem? (i := 2) rfl)) rfl
theorem q_362 : (Cond.methodLink RX5 71 yX2_pass) ∈ lwG := mG (ic_2_15 _ (List.mem_of_getElem? (i := 3) rfl)) rfl
theorem q_363 : (Cond.instanceMethod yX2_pass) ∈ lwG := mG (ic_2_15 _ (List.mem_of_getElem? (i := 4) rfl)) rfl
theorem q_364 : (Cond.selects RX2 yX2_pass yX2_pass) ∈ lwG := mG (ic_2_15 _ (List.mem_of_getElem? (i := 5) rfl)) rfl
theorem q_365 : (Cond.code yX2_pass cX2_pass 6 (some .int)) ∈ lwG := mG (ic_2_15 _ (List.mem_of_getElem? (i := 6) rfl)) rfl
theorem q_366 : (Cond.methodLink RX2 123 Lib.Math.min.name) ∈ lwG := mG (ic_2_15 _ (List.mem_of_getElem? (i := 7) rfl)) rfl
theorem q_367 : (Cond.static Lib.Math.min.name) ∈ lwG := mG (ic_2_15 _ (List.mem_of_getElem? (i := 8) rfl)) rfl
theorem q_368 : (Cond.code Lib.Math.min.name Lib.Math.min.code 2 (some .int)) ∈ lwG := mG (ic_2_15 _ (List.mem_of_getElem? (i := 9) rfl)) rfl
theorem q_369 : (Cond.methodLink RL 29 yL_open) ∈ lwG := mG (ic_2_15 _ (List.mem_of_getElem? (i := 10) rfl)) rfl
theorem q_370 : (Cond.static yL_open) ∈ lwG := mG (ic_2_15 _ (List.mem_of_getElem? (i := 11) rfl)) rfl
theorem q_371 : (Cond.code yL_open cL_open 4 (some .int)) ∈ lwG := mG (ic_2_16 _ (List.mem_of_getElem? (i := 0) rfl)) rfl
theorem q_372 : (Cond.methodLink RL 33 yX5_end) ∈ lwG := mG (ic_2_16 _ (List.mem_of_getElem? (i := 1) rfl)) rfl
theorem q_373 : (Cond.instanceMethod yX5_end) ∈ lwG := mG (ic_2_16 _ (List.mem_of_getElem? (i := 2) rfl)) rfl
theorem q_374 : (Cond.selects RX5 yX5_end yX5_end) ∈ lwG := mG (ic_2_16 _ (List.mem_of_getElem? (i := 3) rfl)) rfl
theorem q_375 : (Cond.code yX5_end cX5_end 2 (some .int)) ∈ lwG := mG (ic_2_16 _ (List.mem_of_getElem? (i := 4) rfl)) rfl
theorem q_376 : (Cond.methodLink RL 36 yX5_start) ∈ lwG := mG (ic_2_16 _ (List.mem_of_getElem? (i := 5) rfl)) rfl
theorem q_377 : (Cond.instanceMethod yX5_start) ∈ lwG := mG (ic_2_16 _ (List.mem_of_getElem? (i := 6) rfl)) rfl
theorem q_378 : (Cond.selects RX5 yX5_start yX5_start) ∈ lwG := mG (ic_2_16 _ (List.mem_of_getElem? (i := 7) rfl)) rfl
theorem q_379 : (Cond.code yX5_start cX5_start 3 (some .int)) ∈ lwG := mG (ic_2_16 _ (List.mem_of_getElem? (i := 8) rfl)) rfl
theorem q_380 : (Cond.methodLink RL 73 yL_areHandsSo) ∈ lwG := mG (ic_2_16 _ (List.mem_of_getElem? (i := 9) rfl)) rfl
theorem q_381 : (Cond.static yL_areHandsSo) ∈ lwG := mG (ic_2_16 _ (List.mem_of_getElem? (i := 10) rfl)) rfl
theorem q_382 : (Cond.code yL_areHandsSo cL_areHandsSo 15 (some .boolean)) ∈ lwG := mG (ic_2_16 _ (List.mem_of_getElem? (i := 11) rfl)) rfl
theorem q_383 : (Cond.methodLink RL 39 yX5_sessionOf) ∈ lwG := mG (ic_2_17 _ (List.mem_of_getElem? (i := 0) rfl)) rfl
theorem q_384 : (Cond.instanceMethod yX5_sessionOf) ∈ lwG := mG (ic_2_17 _ (List.mem_of_getElem? (i := 1) rfl)) rfl
theorem q_385 : (Cond.selects RX5 yX5_sessionOf yX5_sessionOf) ∈ lwG := mG (ic_2_17 _ (List.mem_of_getElem? (i := 2) rfl)) rfl
theorem q_386 : (Cond.code yX5_sessionOf cX5_sessionOf 4 (some .int)) ∈ lwG := mG (ic_2_17 _ (List.mem_of_getElem? (i := 3) rfl)) rfl
theorem q_387 : (Cond.methodLink RX5 103 yX2_noticesOnTheirWay) ∈ lwG := mG (ic_2_17 _ (List.mem_of_getElem? (i := 4) rfl)) rfl
theorem q_388 : (Cond.instanceMethod yX2_noticesOnTheirWay) ∈ lwG := mG (ic_2_17 _ (List.mem_of_getElem? (i := 5) rfl)) rfl
theorem q_389 : (Cond.selects RX2 yX2_noticesOnTheirWay yX2_noticesOnTheirWay) ∈ lwG := mG (ic_2_17 _ (List.mem_of_getElem? (i := 6) rfl)) rfl
theorem q_390 : (Cond.code yX2_noticesOnTheirWay cX2_noticesOnTheirWay 3 (some .int)) ∈ lwG := mG (ic_2_17 _ (List.mem_of_getElem? (i := 7) rfl)) rfl
theorem q_391 : (Cond.methodLink RX5 110 yX1_staleInHand) ∈ lwG := mG (ic_2_17 _ (List.mem_of_getElem? (i := 8) rfl)) rfl
theorem q_392 : (Cond.instanceMethod yX1_staleInHand) ∈ lwG := mG (ic_2_17 _ (List.mem_of_getElem? (i := 9) rfl)) rfl
theorem q_393 : (Cond.selects RX1 yX1_staleInHand yX1_staleInHand) ∈ lwG := mG (ic_2_17 _ (List.mem_of_getElem? (i := 10) rfl)) rfl
theorem q_394 : (Cond.code yX1_staleInHand cX1_staleInHand 3 (some .int)) ∈ lwG := mG (ic_2_17 _ (List.mem_of_getElem? (i := 11) rfl)) rfl
theorem q_395 : (Cond.methodLink RX5 113 yX1_statementsAtWork) ∈ lwG := mG (ic_2_18 _ (List.mem_of_getElem? (i := 0) rfl)) rfl
theorem q_396 : (Cond.methodLink RL 42 yX5_entry) ∈ lwG := mG (ic_2_18 _ (List.mem_of_getElem? (i := 1) rfl)) rfl
theorem q_397 : (Cond.instanceMethod yX5_entry) ∈ lwG := mG (ic_2_18 _ (List.mem_of_getElem? (i := 2) rfl)) rfl
theorem q_398 : (Cond.selects RX5 yX5_entry yX5_entry) ∈ lwG := mG (ic_2_18 _ (List.mem_of_getElem? (i := 3) rfl)) rfl
theorem q_399 : (Cond.code yX5_entry cX5_entry 6 (some .int)) ∈ lwG := mG (ic_2_18 _ (List.mem_of_getElem? (i := 4) rfl)) rfl
theorem q_400 : (Cond.methodLink RL 49 yX5_inTheWay) ∈ lwG := mG (ic_2_18 _ (List.mem_of_getElem? (i := 5) rfl)) rfl
theorem q_401 : (Cond.instanceMethod yX5_inTheWay) ∈ lwG := mG (ic_2_18 _ (List.mem_of_getElem? (i := 6) rfl)) rfl
theorem q_402 : (Cond.selects RX5 yX5_inTheWay yX5_inTheWay) ∈ lwG := mG (ic_2_18 _ (List.mem_of_getElem? (i := 7) rfl)) rfl
theorem q_403 : (Cond.code yX5_inTheWay cX5_inTheWay 5 (some .int)) ∈ lwG := mG (ic_2_18 _ (List.mem_of_getElem? (i := 8) rfl)) rfl
theorem q_404 : (Cond.methodLink RX5 200 yX1_lowestBehind) ∈ lwG := mG (ic_2_18 _ (List.mem_of_getElem? (i := 9) rfl)) rfl
theorem q_405 : (Cond.instanceMethod yX1_lowestBehind) ∈ lwG := mG (ic_2_18 _ (List.mem_of_getElem? (i := 10) rfl)) rfl
theorem q_406 : (Cond.selects RX1 yX1_lowestBehind yX1_lowestBehind) ∈ lwG := mG (ic_2_18 _ (List.mem_of_getElem? (i := 11) rfl)) rfl
theorem q_407 : (Cond.code yX1_lowestBehind cX1_lowestBehind 7 (some .int)) ∈ lwG := mG (ic_2_19 _ (List.mem_of_getElem? (i := 0) rfl)) rfl
theorem q_408 : (Cond.methodLinkNest RX1 109 yX5_contains RX5) ∈ lw_tbl := ic_2_19 _ (List.mem_of_getElem? (i := 1) rfl)
theorem q_409 : (Cond.methodLink RL 52 yX5_statement) ∈ lwG := mG (ic_2_19 _ (List.mem_of_getElem? (i := 2) rfl)) rfl
theorem q_410 : (Cond.instanceMethod yX5_statement) ∈ lwG := mG (ic_2_19 _ (List.mem_of_getElem? (i := 3) rfl)) rfl
theorem q_411 : (Cond.selects RX5 yX5_statement yX5_statement) ∈ lwG := mG (ic_2_19 _ (List.mem_of_getElem? (i := 4) rfl)) rfl
theorem q_412 : (Cond.code yX5_statement cX5_statement 5 (some .int)) ∈ lwG := mG (ic_2_19 _ (List.mem_of_getElem? (i := 5) rfl)) rfl
theorem q_413 : (Cond.methodLink RX5 153 yX2_sessionWith) ∈ lwG := mG (ic_2_19 _ (List.mem_of_getElem? (i := 6) rfl)) rfl
theorem q_414 : (Cond.instanceMethod yX2_sessionWith) ∈ lwG := mG (ic_2_19 _ (List.mem_of_getElem? (i := 7) rfl)) rfl
theorem q_415 : (Cond.selects RX2 yX2_sessionWith yX2_sessionWith) ∈ lwG := mG (ic_2_19 _ (List.mem_of_getElem? (i := 8) rfl)) rfl
theorem q_416 : (Cond.code yX2_sessionWith cX2_sessionWith 3 (some .int)) ∈ lwG := mG (ic_2_19 _ (List.mem_of_getElem? (i := 9) rfl)) rfl
theorem q_417 : (Cond.methodLink RX5 156 yX1_workOf) ∈ lwG := mG (ic_2_19 _ (List.mem_of_getElem? (i := 10) rfl)) rfl
theorem q_418 : (Cond.methodLink RX5 168 yX4_outrunBy) ∈ lwG := mG (ic_2_19 _ (List.mem_of_getElem? (i := 11) rfl)) rfl
theorem q_419 : (Cond.instanceMethod yX4_outrunBy) ∈ lwG := mG (ic_3_0 _ (List.mem_of_getElem? (i := 0) rfl)) rfl
theorem q_420 : (Cond.selects RX4 yX4_outrunBy yX4_outrunBy) ∈ lwG := mG (ic_3_0 _ (List.mem_of_getElem? (i := 1) rfl)) rfl
theorem q_421 : (Cond.code yX4_outrunBy cX4_outrunBy 4 (some .int)) ∈ lwG := mG (ic_3_0 _ (List.mem_of_getElem? (i := 2) rfl)) rfl
theorem q_422 : (Cond.methodLink RL 77 yL_isStartSo) ∈ lwG := mG (ic_3_0 _ (List.mem_of_getElem? (i := 3) rfl)) rfl
theorem q_423 : (Cond.static yL_isStartSo) ∈ lwG := mG (ic_3_0 _ (List.mem_of_getElem? (i := 4) rfl)) rfl
theorem q_424 : (Cond.code yL_isStartSo cL_isStartSo 17 (some .boolean)) ∈ lwG := mG (ic_3_0 _ (List.mem_of_getElem? (i := 5) rfl)) rfl
theorem q_425 : (Cond.methodLink RL 55 yX5_would) ∈ lwG := mG (ic_3_0 _ (List.mem_of_getElem? (i := 6) rfl)) rfl
theorem q_426 : (Cond.instanceMethod yX5_would) ∈ lwG := mG (ic_3_0 _ (List.mem_of_getElem? (i := 7) rfl)) rfl
theorem q_427 : (Cond.selects RX5 yX5_would yX5_would) ∈ lwG := mG (ic_3_0 _ (List.mem_of_getElem? (i := 8) rfl)) rfl
theorem q_428 : (Cond.code yX5_would cX5_would 7 (some .int)) ∈ lwG := mG (ic_3_0 _ (List.mem_of_getElem? (i := 9) rfl)) rfl
theorem q_429 : (Cond.methodLink RL 58 yL_ones) ∈ lwG := mG (ic_3_0 _ (List.mem_of_getElem? (i := 10) rfl)) rfl
theorem q_430 : (Cond.static yL_ones) ∈ lwG := mG (ic_3_0 _ (List.mem_of_getElem? (i := 11) rfl)) rfl
theorem q_431 : (Cond.code yL_ones cL_ones 3 (some .int)) ∈ lwG := mG (ic_3_1 _ (List.mem_of_getElem? (i := 0) rfl)) rfl
theorem q_432 : (Cond.methodLink RL 61 yX5_undo) ∈ lwG := mG (ic_3_1 _ (List.mem_of_getElem? (i := 1) rfl)) rfl
theorem q_433 : (Cond.instanceMethod yX5_undo) ∈ lwG := mG (ic_3_1 _ (List.mem_of_getElem? (i := 2) rfl)) rfl
theorem q_434 : (Cond.selects RX5 yX5_undo yX5_undo) ∈ lwG := mG (ic_3_1 _ (List.mem_of_getElem? (i := 3) rfl)) rfl
theorem q_435 : (Cond.code yX5_undo cX5_undo 2 (some .int)) ∈ lwG := mG (ic_3_1 _ (List.mem_of_getElem? (i := 4) rfl)) rfl
theorem ip_1 : ∀ q ∈ lw_privs_1, (Cond.selects q.1.cls q.1 q.1) ∈ lw_tbl := fun q h => List.mem_append_left _ (List.mem_map.mpr ⟨q, h, rfl⟩)
theorem q_436 : (Cond.selects RX5 yX5_loadsWithRoom yX5_loadsWithRoom) ∈ lwG := mG (ip_1 (yX5_loadsWithRoom, 10) (List.mem_of_getElem? (i := 0) rfl)) rfl
theorem q_437 : (Cond.selects RX1 yX1_workWithNumber yX1_workWithNumber) ∈ lwG := mG (ip_1 (yX1_workWithNumber, 9) (List.mem_of_getElem? (i := 1) rfl)) rfl
theorem q_438 : (Cond.selects RX1 yX1_takeOut yX1_takeOut) ∈ lwG := mG (ip_1 (yX1_takeOut, 9) (List.mem_of_getElem? (i := 2) rfl)) rfl
theorem q_439 : (Cond.selects RX1 yX1_longestUnused yX1_longestUnused) ∈ lwG := mG (ip_1 (yX1_longestUnused, 9) (List.mem_of_getElem? (i := 3) rfl)) rfl
theorem q_440 : (Cond.selects RX1 yX1_putIn yX1_putIn) ∈ lwG := mG (ip_1 (yX1_putIn, 9) (List.mem_of_getElem? (i := 4) rfl)) rfl
theorem q_441 : (Cond.selects RX2 yX2_arrive yX2_arrive) ∈ lwG := mG (ip_1 (yX2_arrive, 12) (List.mem_of_getElem? (i := 5) rfl)) rfl
theorem q_442 : (Cond.selects RX5 yX5_settle yX5_settle) ∈ lwG := mG (ip_1 (yX5_settle, 10) (List.mem_of_getElem? (i := 6) rfl)) rfl
theorem q_443 : (Cond.selects RX5 yX5_record yX5_record) ∈ lwG := mG (ip_1 (yX5_record, 10) (List.mem_of_getElem? (i := 7) rfl)) rfl
theorem inG0 : ∀ w ∈ wsX00, w ∈ lwG := List.forall_mem_cons.mpr ⟨q_56, List.forall_mem_cons.mpr ⟨q_57, List.forall_mem_cons.mpr ⟨q_58, List.forall_mem_cons.mpr ⟨q_59, List.forall_mem_cons.mpr ⟨q_60, List.forall_mem_cons.mpr ⟨q_61, fun _ h => absurd h List.not_mem_nil⟩⟩⟩⟩⟩⟩
theorem inG1 : ∀ w ∈ wsX10, w ∈ lwG := List.forall_mem_cons.mpr ⟨q_107, List.forall_mem_cons.mpr ⟨q_108, List.forall_mem_cons.mpr ⟨q_109, List.forall_mem_cons.mpr ⟨q_110, List.forall_mem_cons.mpr ⟨q_111, List.forall_mem_cons.mpr ⟨q_112, List.forall_mem_cons.mpr ⟨q_113, List.forall_mem_cons.mpr ⟨q_114, List.forall_mem_cons.mpr ⟨q_115, fun _ h => absurd h List.not_mem_nil⟩⟩⟩⟩⟩⟩⟩⟩⟩
theorem inG2 : ∀ w ∈ wsX20, w ∈ lwG := List.forall_mem_cons.mpr ⟨q_138, List.forall_mem_cons.mpr ⟨q_139, List.forall_mem_cons.mpr ⟨q_140, List.forall_mem_cons.mpr ⟨q_141, List.forall_mem_cons.mpr ⟨q_142, List.forall_mem_cons.mpr ⟨q_143, List.forall_mem_cons.mpr ⟨q_144, List.forall_mem_cons.mpr ⟨q_145, List.forall_mem_cons.mpr ⟨q_146, List.forall_mem_cons.mpr ⟨q_147, List.forall_mem_cons.mpr ⟨q_148, List.forall_mem_cons.mpr ⟨q_149, fun _ h => absurd h List.not_mem_nil⟩⟩⟩⟩⟩⟩⟩⟩⟩⟩⟩⟩
theorem inG3 : ∀ w ∈ wsX30, w ∈ lwG := List.forall_mem_cons.mpr ⟨q_167, List.forall_mem_cons.mpr ⟨q_168, List.forall_mem_cons.mpr ⟨q_169, List.forall_mem_cons.mpr ⟨q_170, List.forall_mem_cons.mpr ⟨q_171, List.forall_mem_cons.mpr ⟨q_172, fun _ h => absurd h List.not_mem_nil⟩⟩⟩⟩⟩⟩
theorem inG4 : ∀ w ∈ wsX40, w ∈ lwG := List.forall_mem_cons.mpr ⟨q_82, List.forall_mem_cons.mpr ⟨q_83, List.forall_mem_cons.mpr ⟨q_84, List.forall_mem_cons.mpr ⟨q_85, fun _ h => absurd h List.not_mem_nil⟩⟩⟩⟩
theorem inG5 : ∀ w ∈ wsX50, w ∈ lwG := List.forall_mem_cons.mpr ⟨q_183, List.forall_mem_cons.mpr ⟨q_184, List.forall_mem_cons.mpr ⟨q_185, List.forall_mem_cons.mpr ⟨q_186, List.forall_mem_cons.mpr ⟨q_187, List.forall_mem_cons.mpr ⟨q_188, List.forall_mem_cons.mpr ⟨q_189, List.forall_mem_cons.mpr ⟨q_190, List.forall_mem_cons.mpr ⟨q_191, List.forall_mem_cons.mpr ⟨q_192, fun _ h => absurd h List.not_mem_nil⟩⟩⟩⟩⟩⟩⟩⟩⟩⟩
/-- the words of a method: its own code, and the good ones of the tables -/
def wM (y : MethodName) (b : ByteArray) (n : Nat) (r : Option FieldType) : List Cond := .code y b n r :: lwG
theorem good_L {w : Cond} {big : List Cond} (hb : ∀ w ∈ lwG, w ∈ big) (hm : w ∈ lwG) : w ∈ big ∧ ((w.onTables && w.keeps) = true ∨ ∃ ty, w = .arrayClass ty) := ⟨hb w hm, good_of_word (List.mem_filter.mp hm).2⟩
theorem good_wM {y : MethodName} {b : ByteArray} {n : Nat} {r : Option FieldType} {big : List Cond} (hb : ∀ w ∈ lwG, w ∈ big) (h : .code y b n r ∈ lwG) : GoodIn big (wM y b n r) := by
  intro w hw
  have hm : w ∈ lwG := by
    rcases List.mem_cons.mp hw with e | e
    · rw [e]; exact h
    · exact e
  exact good_L hb hm
theorem gwV {own C : String} {idx : Nat} {y : MethodName} {b : ByteArray} {n : Nat} {r : Option FieldType} {big : List Cond} (hb : ∀ w ∈ lwG, w ∈ big) (h1 : .methodLink own idx y ∈ lwG) (h2 : .instanceMethod y ∈ lwG) (h3 : .selects C y y ∈ lwG) (h4 : .initialized C ∈ lwG) (h5 : .code y b n r ∈ lwG) : GoodIn big (wsV own idx C y (wM y b n r)) := by
  intro w hw
  rcases List.mem_append.mp hw with e | e
  · rcases List.mem_cons.mp e with e | e
    · rw [e]; exact good_L hb h1
    · rcases List.mem_cons.mp e with e | e
      · rw [e]; exact good_L hb h2
      · rcases List.mem_cons.mp e with e | e
        · rw [e]; exact good_L hb h3
        · rcases List.mem_cons.mp e with e | e
          · rw [e]; exact good_L hb h4
          · cases e
  · exact good_wM hb h5 w e
theorem gwS {own : String} {idx : Nat} {y : MethodName} {b : ByteArray} {n : Nat} {r : Option FieldType} {big : List Cond} (hb : ∀ w ∈ lwG, w ∈ big) (h1 : .methodLink own idx y ∈ lwG) (h2 : .static y ∈ lwG) (h3 : .initialized y.cls ∈ lwG) (h5 : .code y b n r ∈ lwG) : GoodIn big (va_wsS own idx y (wM y b n r)) := by
  intro w hw
  rcases List.mem_append.mp hw with e | e
  · rcases List.mem_cons.mp e with e | e
    · rw [e]; exact good_L hb h1
    · rcases List.mem_cons.mp e with e | e
      · rw [e]; exact good_L hb h2
      · rcases List.mem_cons.mp e with e | e
        · rw [e]; exact good_L hb h3
        · cases e
  · exact good_wM hb h5 w e
theorem inM {y : MethodName} {b : ByteArray} {n : Nat} {r : Option FieldType} : ∀ w ∈ lwG, w ∈ wM y b n r := fun _ h => List.mem_cons_of_mem _ h
