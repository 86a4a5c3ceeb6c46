theorem goodIn_r {big : List Cond} (ws : List Cond) (ps : List Nat) (hp : ws = ps.filterMap (fun i => big[i]?)) (h : ws.all goodWord = true) : GoodIn big ws := by
  intro w hw
  have h1 := List.all_eq_true.mp h w hw
  rw [hp] at hw
  obtain ⟨i, -, hi⟩ := List.mem_filterMap.mp hw
  have hm : w ∈ big := by first | exact List.mem_of_getElem? hi | exact List.getElem?_mem hi
  exact ⟨hm, good_of_word h1⟩
theorem goodIn_app {big a b : List Cond} (ha : GoodIn big a) (hb : GoodIn big b) : GoodIn big (a ++ b) := fun w h => (List.mem_append.mp h).elim (ha w) (hb w)
theorem goodIn_ca {big a b : List Cond} {c : Cond} (ha : GoodIn big (c :: a)) (hb : GoodIn big b) : GoodIn big (c :: (a ++ b)) := fun w h => (List.mem_cons.mp h).elim (fun e => ha w (List.mem_cons.mpr (Or.inl e))) (fun h => (List.mem_append.mp h).elim (fun h => ha w (List.mem_cons.mpr (Or.inr h))) (hb w))
theorem goodIn_sub {big ws : List Cond} (hm : ∀ w ∈ ws, w ∈ big) (h : ws.all goodWord = true) : GoodIn big ws := fun w hw => ⟨hm w hw, good_of_word (List.all_eq_true.mp h w hw)⟩
def RX0 : String := "BuoyVote$Borough"
def TX0 : u_T := fun k => match k with
  | 0 => ("BuoyVote$Borough", "values", "[I", true)
  | 1 => ("BuoyVote$Borough", "buoys", "I", false)
  | 2 => ("BuoyVote$Borough", "boats", "I", false)
  | _ => ("BuoyVote$Borough", "ruled", "Z", false)
def tyX0 : Nat → FieldType := fun k => match k with
  | 0 => .array .int
  | 1 => .int
  | 2 => .int
  | _ => .boolean
abbrev wsX00 : List Cond := u_ws RX0 TX0 4
theorem nmX0 : ∀ a, a < 4 → ∀ b, b < 4 → a ≠ b → (TX0 a).2.1 ≠ (TX0 b).2.1 := by decide +kernel
theorem tyX0_ok : ∀ k, k < 4 → parseFieldDescriptor (TX0 k).2.2.1 = some (tyX0 k) := by decide +kernel
abbrev cX0_init : ByteArray := prog_2_method_1_code
def yX0_init : MethodName := ⟨RX0, "<init>", "()V"⟩
abbrev cX0_copyFrom : ByteArray := prog_2_method_2_code
def yX0_copyFrom : MethodName := ⟨RX0, "copyFrom", "(LBuoyVote$Borough;)V"⟩
abbrev cX0_windAtFirst : ByteArray := prog_2_method_3_code
def yX0_windAtFirst : MethodName := ⟨RX0, "windAtFirst", "()I"⟩
abbrev cX0_wayAtFirst : ByteArray := prog_2_method_4_code
def yX0_wayAtFirst : MethodName := ⟨RX0, "wayAtFirst", "()I"⟩
abbrev cX0_tideHours : ByteArray := prog_2_method_5_code
def yX0_tideHours : MethodName := ⟨RX0, "tideHours", "()I"⟩
abbrev cX0_countHours : ByteArray := prog_2_method_6_code
def yX0_countHours : MethodName := ⟨RX0, "countHours", "()I"⟩
abbrev cX0_buoyX : ByteArray := prog_2_method_7_code
def yX0_buoyX : MethodName := ⟨RX0, "buoyX", "(I)I"⟩
abbrev cX0_buoyY : ByteArray := prog_2_method_8_code
def yX0_buoyY : MethodName := ⟨RX0, "buoyY", "(I)I"⟩
abbrev cX0_chain : ByteArray := prog_2_method_9_code
def yX0_chain : MethodName := ⟨RX0, "chain", "(I)I"⟩
abbrev cX0_likingAtFirst : ByteArray := prog_2_method_10_code
def yX0_likingAtFirst : MethodName := ⟨RX0, "likingAtFirst", "(II)I"⟩
abbrev cX0_oldAtFirst : ByteArray := prog_2_method_11_code
def yX0_oldAtFirst : MethodName := ⟨RX0, "oldAtFirst", "(I)I"⟩
abbrev cX0_barnaclesAtFirst : ByteArray := prog_2_method_12_code
def yX0_barnaclesAtFirst : MethodName := ⟨RX0, "barnaclesAtFirst", "(I)I"⟩
abbrev cX0_boatX : ByteArray := prog_2_method_13_code
def yX0_boatX : MethodName := ⟨RX0, "boatX", "(I)I"⟩
abbrev cX0_boatY : ByteArray := prog_2_method_14_code
def yX0_boatY : MethodName := ⟨RX0, "boatY", "(I)I"⟩
abbrev cX0_speed : ByteArray := prog_2_method_15_code
def yX0_speed : MethodName := ⟨RX0, "speed", "(I)I"⟩
abbrev cX0_voice : ByteArray := prog_2_method_16_code
def yX0_voice : MethodName := ⟨RX0, "voice", "(I)I"⟩
abbrev cX0_faultOf : ByteArray := prog_2_method_17_code
def yX0_faultOf : MethodName := ⟨RX0, "faultOf", "(LBuoyVote$Tape;)I"⟩
abbrev cX0_readClause : ByteArray := prog_2_method_18_code
def yX0_readClause : MethodName := ⟨RX0, "readClause", "(LBuoyVote$Tape;)V"⟩
abbrev cX0_hasRoomFor : ByteArray := prog_2_method_19_code
def yX0_hasRoomFor : MethodName := ⟨RX0, "hasRoomFor", "(I)Z"⟩
abbrev cX0_beginClause : ByteArray := prog_2_method_20_code
def yX0_beginClause : MethodName := ⟨RX0, "beginClause", "(I)I"⟩
abbrev cX0_setUsual : ByteArray := prog_2_method_21_code
def yX0_setUsual : MethodName := ⟨RX0, "setUsual", "(II)V"⟩
abbrev cX0_isWhole : ByteArray := prog_2_method_22_code
def yX0_isWhole : MethodName := ⟨RX0, "isWhole", "()Z"⟩
abbrev cX0_lettersOf : ByteArray := prog_2_method_23_code
def yX0_lettersOf : MethodName := ⟨RX0, "lettersOf", "(I)Ljava/lang/String;"⟩
abbrev cX0_placeIn : ByteArray := prog_2_method_24_code
def yX0_placeIn : MethodName := ⟨RX0, "placeIn", "(Ljava/lang/String;I)I"⟩
def RX1 : String := "BuoyVote$Charts"
def TX1 : u_T := fun k => match k with
  | 0 => ("BuoyVote$Charts", "told", "LBuoyVote$Borough;", true)
  | 1 => ("BuoyVote$Charts", "firstLegs", "[I", true)
  | 2 => ("BuoyVote$Charts", "legs", "[I", true)
  | _ => ("BuoyVote$Charts", "through", "[I", true)
def tyX1 : Nat → FieldType := fun k => match k with
  | 0 => .object "BuoyVote$Borough"
  | 1 => .array .int
  | 2 => .array .int
  | _ => .array .int
abbrev wsX10 : List Cond := u_ws RX1 TX1 4
theorem nmX1 : ∀ a, a < 4 → ∀ b, b < 4 → a ≠ b → (TX1 a).2.1 ≠ (TX1 b).2.1 := by decide +kernel
theorem tyX1_ok : ∀ k, k < 4 → parseFieldDescriptor (TX1 k).2.2.1 = some (tyX1 k) := by decide +kernel
abbrev cX1_init : ByteArray := prog_3_method_1_code
def yX1_init : MethodName := ⟨RX1, "<init>", "(LBuoyVote$Borough;)V"⟩
abbrev cX1_plot : ByteArray := prog_3_method_2_code
def yX1_plot : MethodName := ⟨RX1, "plot", "(LBuoyVote$Sea;II)V"⟩
abbrev cX1_hoursOf : ByteArray := prog_3_method_3_code
def yX1_hoursOf : MethodName := ⟨RX1, "hoursOf", "(I)I"⟩
abbrev cX1_orderOf : ByteArray := prog_3_method_4_code
def yX1_orderOf : MethodName := ⟨RX1, "orderOf", "(I)I"⟩
abbrev cX1_leastThrough : ByteArray := prog_3_method_5_code
def yX1_leastThrough : MethodName := ⟨RX1, "leastThrough", "(I[II)I"⟩
abbrev cX1_firstOfBest : ByteArray := prog_3_method_6_code
def yX1_firstOfBest : MethodName := ⟨RX1, "firstOfBest", "(I[II)I"⟩
abbrev cX1_between : ByteArray := prog_3_method_7_code
def yX1_between : MethodName := ⟨RX1, "between", "(III)I"⟩
abbrev cX1_fewestWatchers : ByteArray := prog_3_method_8_code
def yX1_fewestWatchers : MethodName := ⟨RX1, "fewestWatchers", "(I)I"⟩
abbrev cX1_isWatched : ByteArray := prog_3_method_9_code
def yX1_isWatched : MethodName := ⟨RX1, "isWatched", "(II)Z"⟩
abbrev cX1_middlePlace : ByteArray := prog_3_method_10_code
def yX1_middlePlace : MethodName := ⟨RX1, "middlePlace", "()I"⟩
def RX2 : String := "BuoyVote$Duel"
def TX2 : u_T := fun k => match k with
  | 0 => ("BuoyVote$Duel", "told", "LBuoyVote$Borough;", true)
  | 1 => ("BuoyVote$Duel", "waters", "LBuoyVote$Waters;", true)
  | 2 => ("BuoyVote$Duel", "oneDraws", "[I", true)
  | 3 => ("BuoyVote$Duel", "otherDraws", "[I", true)
  | 4 => ("BuoyVote$Duel", "ones", "[I", true)
  | _ => ("BuoyVote$Duel", "others", "[I", true)
def tyX2 : Nat → FieldType := fun k => match k with
  | 0 => .object "BuoyVote$Borough"
  | 1 => .object "BuoyVote$Waters"
  | 2 => .array .int
  | 3 => .array .int
  | 4 => .array .int
  | _ => .array .int
abbrev wsX20 : List Cond := u_ws RX2 TX2 6
theorem nmX2 : ∀ a, a < 6 → ∀ b, b < 6 → a ≠ b → (TX2 a).2.1 ≠ (TX2 b).2.1 := by decide +kernel
theorem tyX2_ok : ∀ k, k < 6 → parseFieldDescriptor (TX2 k).2.2.1 = some (tyX2 k) := by decide +kernel
abbrev cX2_init : ByteArray := prog_4_method_1_code
def yX2_init : MethodName := ⟨RX2, "<init>", "(LBuoyVote$Borough;LBuoyVote$Waters;)V"⟩
abbrev cX2_lay : ByteArray := prog_4_method_2_code
def yX2_lay : MethodName := ⟨RX2, "lay", "(LBuoyVote$Sea;II)V"⟩
abbrev cX2_setDraws : ByteArray := prog_4_method_3_code
def yX2_setDraws : MethodName := ⟨RX2, "setDraws", "(LBuoyVote$Sea;I[I)V"⟩
abbrev cX2_isAtRest : ByteArray := prog_4_method_4_code
def yX2_isAtRest : MethodName := ⟨RX2, "isAtRest", "(II)Z"⟩
abbrev cX2_worstAt : ByteArray := prog_4_method_5_code
def yX2_worstAt : MethodName := ⟨RX2, "worstAt", "(I)I"⟩
def RX3 : String := "BuoyVote$History"
def TX3 : u_T := fun k => match k with
  | 0 => ("BuoyVote$History", "before", "[LBuoyVote$Sea;", true)
  | 1 => ("BuoyVote$History", "next", "I", false)
  | 2 => ("BuoyVote$History", "acts", "I", false)
  | 3 => ("BuoyVote$History", "log", "[I", true)
  | 4 => ("BuoyVote$History", "image", "LBuoyVote$Sea;", true)
  | 5 => ("BuoyVote$History", "imageLog", "[I", true)
  | _ => ("BuoyVote$History", "imaged", "Z", false)
def tyX3 : Nat → FieldType := fun k => match k with
  | 0 => .array (.object "BuoyVote$Sea")
  | 1 => .int
  | 2 => .int
  | 3 => .array .int
  | 4 => .object "BuoyVote$Sea"
  | 5 => .array .int
  | _ => .boolean
abbrev wsX30 : List Cond := u_ws RX3 TX3 7
theorem nmX3 : ∀ a, a < 7 → ∀ b, b < 7 → a ≠ b → (TX3 a).2.1 ≠ (TX3 b).2.1 := by decide +kernel
theorem tyX3_ok : ∀ k, k < 7 → parseFieldDescriptor (TX3 k).2.2.1 = some (tyX3 k) := by decide +kernel
abbrev cX3_init : ByteArray := prog_5_method_1_code
def yX3_init : MethodName := ⟨RX3, "<init>", "()V"⟩
abbrev cX3_forget : ByteArray := prog_5_method_2_code
def yX3_forget : MethodName := ⟨RX3, "forget", "()V"⟩
abbrev cX3_remember : ByteArray := prog_5_method_3_code
def yX3_remember : MethodName := ⟨RX3, "remember", "(LBuoyVote$Sea;)V"⟩
abbrev cX3_takeBack : ByteArray := prog_5_method_4_code
def yX3_takeBack : MethodName := ⟨RX3, "takeBack", "(LBuoyVote$Sea;)Z"⟩
abbrev cX3_note : ByteArray := prog_5_method_5_code
def yX3_note : MethodName := ⟨RX3, "note", "(LBuoyVote$Sea;[I)V"⟩
abbrev cX3_logged : ByteArray := prog_5_method_6_code
def yX3_logged : MethodName := ⟨RX3, "logged", "(II)I"⟩
abbrev cX3_keepImage : ByteArray := prog_5_method_7_code
def yX3_keepImage : MethodName := ⟨RX3, "keepImage", "(LBuoyVote$Sea;)V"⟩
abbrev cX3_showImage : ByteArray := prog_5_method_8_code
def yX3_showImage : MethodName := ⟨RX3, "showImage", "(LBuoyVote$Sea;)Z"⟩
def RX4 : String := "BuoyVote$Law"
def TX4 : u_T := fun k => match k with
  | 0 => ("BuoyVote$Law", "code", "[I", true)
  | 1 => ("BuoyVote$Law", "length", "I", false)
  | _ => ("BuoyVote$Law", "stack", "[I", true)
def tyX4 : Nat → FieldType := fun k => match k with
  | 0 => .array .int
  | 1 => .int
  | _ => .array .int
abbrev wsX40 : List Cond := u_ws RX4 TX4 3
theorem nmX4 : ∀ a, a < 3 → ∀ b, b < 3 → a ≠ b → (TX4 a).2.1 ≠ (TX4 b).2.1 := by decide +kernel
theorem tyX4_ok : ∀ k, k < 3 → parseFieldDescriptor (TX4 k).2.2.1 = some (tyX4 k) := by decide +kernel
abbrev cX4_init : ByteArray := prog_6_method_1_code
def yX4_init : MethodName := ⟨RX4, "<init>", "()V"⟩
abbrev cX4_worth : ByteArray := prog_6_method_2_code
def yX4_worth : MethodName := ⟨RX4, "worth", "([I)I"⟩
abbrev cX4_joinedAt : ByteArray := prog_6_method_3_code
def yX4_joinedAt : MethodName := ⟨RX4, "joinedAt", "(II)I"⟩
abbrev cX4_faultOf : ByteArray := prog_6_method_4_code
def yX4_faultOf : MethodName := ⟨RX4, "faultOf", "(LBuoyVote$Tape;)I"⟩
abbrev cX4_readCondition : ByteArray := prog_6_method_5_code
def yX4_readCondition : MethodName := ⟨RX4, "readCondition", "(LBuoyVote$Tape;IZ)V"⟩
abbrev cX4_readUnit : ByteArray := prog_6_method_6_code
def yX4_readUnit : MethodName := ⟨RX4, "readUnit", "(LBuoyVote$Tape;IZ)V"⟩
abbrev cX4_readSum : ByteArray := prog_6_method_7_code
def yX4_readSum : MethodName := ⟨RX4, "readSum", "(LBuoyVote$Tape;I)V"⟩
abbrev cX4_readAtom : ByteArray := prog_6_method_8_code
def yX4_readAtom : MethodName := ⟨RX4, "readAtom", "(LBuoyVote$Tape;I)V"⟩
abbrev cX4_emit : ByteArray := prog_6_method_9_code
def yX4_emit : MethodName := ⟨RX4, "emit", "(I)V"⟩
abbrev cX4_startsUnit : ByteArray := prog_6_method_10_code
def yX4_startsUnit : MethodName := ⟨RX4, "startsUnit", "(I)Z"⟩
abbrev cX4_isComparison : ByteArray := prog_6_method_11_code
def yX4_isComparison : MethodName := ⟨RX4, "isComparison", "(I)Z"⟩
def RX5 : String := "BuoyVote$LawBook"
def TX5 : u_T := fun k => match k with
  | 0 => ("BuoyVote$LawBook", "laws", "[LBuoyVote$Law;", true)
  | 1 => ("BuoyVote$LawBook", "size", "I", false)
  | 2 => ("BuoyVote$LawBook", "holding", "I", false)
  | _ => ("BuoyVote$LawBook", "letters", "[I", true)
def tyX5 : Nat → FieldType := fun k => match k with
  | 0 => .array (.object "BuoyVote$Law")
  | 1 => .int
  | 2 => .int
  | _ => .array .int
abbrev wsX50 : List Cond := u_ws RX5 TX5 4
theorem nmX5 : ∀ a, a < 4 → ∀ b, b < 4 → a ≠ b → (TX5 a).2.1 ≠ (TX5 b).2.1 := by decide +kernel
theorem tyX5_ok : ∀ k, k < 4 → parseFieldDescriptor (TX5 k).2.2.1 = some (tyX5 k) := by decide +kernel
abbrev cX5_init : ByteArray := prog_7_method_1_code
def yX5_init : MethodName := ⟨RX5, "<init>", "()V"⟩
abbrev cX5_spare : ByteArray := prog_7_method_2_code
def yX5_spare : MethodName := ⟨RX5, "spare", "()LBuoyVote$Law;"⟩
abbrev cX5_drawBy : ByteArray := prog_7_method_3_code
def yX5_drawBy : MethodName := ⟨RX5, "drawBy", "(IIIIII)I"⟩
def RX6 : String := "BuoyVote$Plan"
def TX6 : u_T := fun k => match k with
  | 0 => ("BuoyVote$Plan", "cells", "[I", true)
  | _ => ("BuoyVote$Plan", "steps", "I", false)
def tyX6 : Nat → FieldType := fun k => match k with
  | 0 => .array .int
  | _ => .int
abbrev wsX60 : List Cond := u_ws RX6 TX6 2
theorem nmX6 : ∀ a, a < 2 → ∀ b, b < 2 → a ≠ b → (TX6 a).2.1 ≠ (TX6 b).2.1 := by decide +kernel
theorem tyX6_ok : ∀ k, k < 2 → parseFieldDescriptor (TX6 k).2.2.1 = some (tyX6 k) := by decide +kernel
abbrev cX6_init : ByteArray := prog_8_method_1_code
def yX6_init : MethodName := ⟨RX6, "<init>", "()V"⟩
abbrev cX6_part : ByteArray := prog_8_method_2_code
def yX6_part : MethodName := ⟨RX6, "part", "(II)I"⟩
abbrev cX6_faultOf : ByteArray := prog_8_method_3_code
def yX6_faultOf : MethodName := ⟨RX6, "faultOf", "(LBuoyVote$Tape;)I"⟩
abbrev cX6_readStep : ByteArray := prog_8_method_4_code
def yX6_readStep : MethodName := ⟨RX6, "readStep", "(LBuoyVote$Tape;I)V"⟩
def RX7 : String := "BuoyVote$Sea"
def TX7 : u_T := fun k => match k with
  | 0 => ("BuoyVote$Sea", "wind", "I", false)
  | 1 => ("BuoyVote$Sea", "way", "I", false)
  | 2 => ("BuoyVote$Sea", "hour", "I", false)
  | 3 => ("BuoyVote$Sea", "logged", "I", false)
  | 4 => ("BuoyVote$Sea", "x", "[I", true)
  | 5 => ("BuoyVote$Sea", "y", "[I", true)
  | 6 => ("BuoyVote$Sea", "goalX", "[I", true)
  | 7 => ("BuoyVote$Sea", "goalY", "[I", true)
  | 8 => ("BuoyVote$Sea", "won", "[I", true)
  | 9 => ("BuoyVote$Sea", "sang", "[I", true)
  | 10 => ("BuoyVote$Sea", "liking", "[I", true)
  | 11 => ("BuoyVote$Sea", "old", "[I", true)
  | _ => ("BuoyVote$Sea", "barnacles", "[I", true)
def tyX7 : Nat → FieldType := fun k => match k with
  | 0 => .int
  | 1 => .int
  | 2 => .int
  | 3 => .int
  | 4 => .array .int
  | 5 => .array .int
  | 6 => .array .int
  | 7 => .array .int
  | 8 => .array .int
  | 9 => .array .int
  | 10 => .array .int
  | 11 => .array .int
  | _ => .array .int
abbrev wsX70 : List Cond := u_ws RX7 TX7 13
theorem nmX7 : ∀ a, a < 13 → ∀ b, b < 13 → a ≠ b → (TX7 a).2.1 ≠ (TX7 b).2.1 := by decide +kernel
theorem tyX7_ok : ∀ k, k < 13 → parseFieldDescriptor (TX7 k).2.2.1 = some (tyX7 k) := by decide +kernel
abbrev cX7_init : ByteArray := prog_9_method_1_code
def yX7_init : MethodName := ⟨RX7, "<init>", "()V"⟩
abbrev cX7_begin : ByteArray := prog_9_method_2_code
def yX7_begin : MethodName := ⟨RX7, "begin", "(LBuoyVote$Borough;)V"⟩
abbrev cX7_copyFrom : ByteArray := prog_9_method_3_code
def yX7_copyFrom : MethodName := ⟨RX7, "copyFrom", "(LBuoyVote$Sea;)V"⟩
abbrev cX7_logLength : ByteArray := prog_9_method_4_code
def yX7_logLength : MethodName := ⟨RX7, "logLength", "()I"⟩
abbrev cX7_awayOf : ByteArray := prog_9_method_5_code
def yX7_awayOf : MethodName := ⟨RX7, "awayOf", "(III)I"⟩
abbrev cX7_put : ByteArray := prog_9_method_6_code
def yX7_put : MethodName := ⟨RX7, "put", "(III)V"⟩
abbrev cX7_singTo : ByteArray := prog_9_method_7_code
def yX7_singTo : MethodName := ⟨RX7, "singTo", "(II)V"⟩
abbrev cX7_rowOn : ByteArray := prog_9_method_8_code
def yX7_rowOn : MethodName := ⟨RX7, "rowOn", "(II)V"⟩
def RX8 : String := "BuoyVote$Sightings"
def TX8 : u_T := fun k => match k with
  | 0 => ("BuoyVote$Sightings", "told", "LBuoyVote$Borough;", true)
  | 1 => ("BuoyVote$Sightings", "laws", "LBuoyVote$LawBook;", true)
  | 2 => ("BuoyVote$Sightings", "seenBuoy", "[I", true)
  | 3 => ("BuoyVote$Sightings", "seenD", "[I", true)
  | 4 => ("BuoyVote$Sightings", "seenE", "[I", true)
  | 5 => ("BuoyVote$Sightings", "seenTo", "[I", true)
  | 6 => ("BuoyVote$Sightings", "size", "I", false)
  | 7 => ("BuoyVote$Sightings", "fits", "[I", true)
  | 8 => ("BuoyVote$Sightings", "fitCount", "I", false)
  | 9 => ("BuoyVote$Sightings", "oneDraws", "[I", true)
  | 10 => ("BuoyVote$Sightings", "otherDraws", "[I", true)
  | _ => ("BuoyVote$Sightings", "answers", "[I", true)
def tyX8 : Nat → FieldType := fun k => match k with
  | 0 => .object "BuoyVote$Borough"
  | 1 => .object "BuoyVote$LawBook"
  | 2 => .array .int
  | 3 => .array .int
  | 4 => .array .int
  | 5 => .array .int
  | 6 => .int
  | 7 => .array .int
  | 8 => .int
  | 9 => .array .int
  | 10 => .array .int
  | _ => .array .int
abbrev wsX80 : List Cond := u_ws RX8 TX8 12
theorem nmX8 : ∀ a, a < 12 → ∀ b, b < 12 → a ≠ b → (TX8 a).2.1 ≠ (TX8 b).2.1 := by decide +kernel
theorem tyX8_ok : ∀ k, k < 12 → parseFieldDescriptor (TX8 k).2.2.1 = some (tyX8 k) := by decide +kernel
abbrev cX8_init : ByteArray := prog_10_method_1_code
def yX8_init : MethodName := ⟨RX8, "<init>", "(LBuoyVote$Borough;LBuoyVote$LawBook;)V"⟩
abbrev cX8_add : ByteArray := prog_10_method_2_code
def yX8_add : MethodName := ⟨RX8, "add", "(IIII)Z"⟩
abbrev cX8_fit : ByteArray := prog_10_method_3_code
def yX8_fit : MethodName := ⟨RX8, "fit", "(I)I"⟩
abbrev cX8_fitting : ByteArray := prog_10_method_4_code
def yX8_fitting : MethodName := ⟨RX8, "fitting", "(I)I"⟩
abbrev cX8_bestLook : ByteArray := prog_10_method_5_code
def yX8_bestLook : MethodName := ⟨RX8, "bestLook", "(I)I"⟩
abbrev cX8_mostAlike : ByteArray := prog_10_method_6_code
def yX8_mostAlike : MethodName := ⟨RX8, "mostAlike", "(I)I"⟩
abbrev cX8_keepThose : ByteArray := prog_10_method_7_code
def yX8_keepThose : MethodName := ⟨RX8, "keepThose", "(II)V"⟩
abbrev cX8_setDraws : ByteArray := prog_10_method_8_code
def yX8_setDraws : MethodName := ⟨RX8, "setDraws", "(II)V"⟩
abbrev cX8_answerOf : ByteArray := prog_10_method_9_code
def yX8_answerOf : MethodName := ⟨RX8, "answerOf", "(II)I"⟩
def RX9 : String := "BuoyVote$Tape"
def TX9 : u_T := fun k => match k with
  | 0 => ("BuoyVote$Tape", "bytes", "[I", true)
  | 1 => ("BuoyVote$Tape", "length", "I", false)
  | 2 => ("BuoyVote$Tape", "at", "I", false)
  | _ => ("BuoyVote$Tape", "wrong", "I", false)
def tyX9 : Nat → FieldType := fun k => match k with
  | 0 => .array .int
  | 1 => .int
  | 2 => .int
  | _ => .int
abbrev wsX90 : List Cond := u_ws RX9 TX9 4
theorem nmX9 : ∀ a, a < 4 → ∀ b, b < 4 → a ≠ b → (TX9 a).2.1 ≠ (TX9 b).2.1 := by decide +kernel
theorem tyX9_ok : ∀ k, k < 4 → parseFieldDescriptor (TX9 k).2.2.1 = some (tyX9 k) := by decide +kernel
abbrev cX9_init : ByteArray := prog_11_method_1_code
def yX9_init : MethodName := ⟨RX9, "<init>", "()V"⟩
abbrev cX9_bytesIn : ByteArray := prog_11_method_2_code
def yX9_bytesIn : MethodName := ⟨RX9, "bytesIn", "(I)I"⟩
abbrev cX9_append : ByteArray := prog_11_method_3_code
def yX9_append : MethodName := ⟨RX9, "append", "(I)V"⟩
abbrev cX9_rewind : ByteArray := prog_11_method_4_code
def yX9_rewind : MethodName := ⟨RX9, "rewind", "()V"⟩
abbrev cX9_isRight : ByteArray := prog_11_method_5_code
def yX9_isRight : MethodName := ⟨RX9, "isRight", "()Z"⟩
abbrev cX9_wrongAt : ByteArray := prog_11_method_6_code
def yX9_wrongAt : MethodName := ⟨RX9, "wrongAt", "()I"⟩
abbrev cX9_refuse : ByteArray := prog_11_method_7_code
def yX9_refuse : MethodName := ⟨RX9, "refuse", "(I)V"⟩
abbrev cX9_refuseHere : ByteArray := prog_11_method_8_code
def yX9_refuseHere : MethodName := ⟨RX9, "refuseHere", "()V"⟩
abbrev cX9_peek : ByteArray := prog_11_method_9_code
def yX9_peek : MethodName := ⟨RX9, "peek", "()I"⟩
abbrev cX9_skip : ByteArray := prog_11_method_10_code
def yX9_skip : MethodName := ⟨RX9, "skip", "()V"⟩
abbrev cX9_take : ByteArray := prog_11_method_11_code
def yX9_take : MethodName := ⟨RX9, "take", "(I)Z"⟩
abbrev cX9_takeEither : ByteArray := prog_11_method_12_code
def yX9_takeEither : MethodName := ⟨RX9, "takeEither", "(II)I"⟩
abbrev cX9_expect : ByteArray := prog_11_method_13_code
def yX9_expect : MethodName := ⟨RX9, "expect", "(I)V"⟩
abbrev cX9_expectEnd : ByteArray := prog_11_method_14_code
def yX9_expectEnd : MethodName := ⟨RX9, "expectEnd", "()V"⟩
abbrev cX9_digit : ByteArray := prog_11_method_15_code
def yX9_digit : MethodName := ⟨RX9, "digit", "()I"⟩
abbrev cX9_number : ByteArray := prog_11_method_16_code
def yX9_number : MethodName := ⟨RX9, "number", "(I)I"⟩
abbrev cX9_numberWithin : ByteArray := prog_11_method_17_code
def yX9_numberWithin : MethodName := ⟨RX9, "numberWithin", "(II)I"⟩
def RX10 : String := "BuoyVote$Waters"
def TX10 : u_T := fun k => match k with
  | 0 => ("BuoyVote$Waters", "told", "LBuoyVote$Borough;", true)
  | 1 => ("BuoyVote$Waters", "laws", "LBuoyVote$LawBook;", true)
  | 2 => ("BuoyVote$Waters", "draws", "[I", true)
  | 3 => ("BuoyVote$Waters", "leans", "[I", true)
  | 4 => ("BuoyVote$Waters", "tally", "[I", true)
  | _ => ("BuoyVote$Waters", "bars", "[I", true)
def tyX10 : Nat → FieldType := fun k => match k with
  | 0 => .object "BuoyVote$Borough"
  | 1 => .object "BuoyVote$LawBook"
  | 2 => .array .int
  | 3 => .array .int
  | 4 => .array .int
  | _ => .array .int
abbrev wsX100 : List Cond := u_ws RX10 TX10 6
theorem nmX10 : ∀ a, a < 6 → ∀ b, b < 6 → a ≠ b → (TX10 a).2.1 ≠ (TX10 b).2.1 := by decide +kernel
theorem tyX10_ok : ∀ k, k < 6 → parseFieldDescriptor (TX10 k).2.2.1 = some (tyX10 k) := by decide +kernel
abbrev cX10_init : ByteArray := prog_12_method_1_code
def yX10_init : MethodName := ⟨RX10, "<init>", "(LBuoyVote$Borough;LBuoyVote$LawBook;)V"⟩
abbrev cX10_isRising : ByteArray := prog_12_method_2_code
def yX10_isRising : MethodName := ⟨RX10, "isRising", "(I)Z"⟩
abbrev cX10_pushOf : ByteArray := prog_12_method_3_code
def yX10_pushOf : MethodName := ⟨RX10, "pushOf", "(LBuoyVote$Sea;II)I"⟩
abbrev cX10_drawOf : ByteArray := prog_12_method_4_code
def yX10_drawOf : MethodName := ⟨RX10, "drawOf", "(LBuoyVote$Sea;II)I"⟩
abbrev cX10_leanOf : ByteArray := prog_12_method_5_code
def yX10_leanOf : MethodName := ⟨RX10, "leanOf", "(LBuoyVote$Sea;I)I"⟩
abbrev cX10_leanBy : ByteArray := prog_12_method_6_code
def yX10_leanBy : MethodName := ⟨RX10, "leanBy", "(I)I"⟩
abbrev cX10_tallyUp : ByteArray := prog_12_method_7_code
def yX10_tallyUp : MethodName := ⟨RX10, "tallyUp", "(LBuoyVote$Sea;)V"⟩
abbrev cX10_winner : ByteArray := prog_12_method_8_code
def yX10_winner : MethodName := ⟨RX10, "winner", "()I"⟩
abbrev cX10_leaningTo : ByteArray := prog_12_method_9_code
def yX10_leaningTo : MethodName := ⟨RX10, "leaningTo", "(I)I"⟩
abbrev cX10_leaningBits : ByteArray := prog_12_method_10_code
def yX10_leaningBits : MethodName := ⟨RX10, "leaningBits", "()I"⟩
abbrev cX10_gapOf : ByteArray := prog_12_method_11_code
def yX10_gapOf : MethodName := ⟨RX10, "gapOf", "(LBuoyVote$Sea;)I"⟩
abbrev cX10_passHour : ByteArray := prog_12_method_12_code
def yX10_passHour : MethodName := ⟨RX10, "passHour", "(LBuoyVote$Sea;)V"⟩
abbrev cX10_holdCount : ByteArray := prog_12_method_13_code
def yX10_holdCount : MethodName := ⟨RX10, "holdCount", "(LBuoyVote$Sea;)V"⟩
abbrev cX10_barOf : ByteArray := prog_12_method_14_code
def yX10_barOf : MethodName := ⟨RX10, "barOf", "(LBuoyVote$Sea;II)I"⟩
abbrev cX10_setBars : ByteArray := prog_12_method_15_code
def yX10_setBars : MethodName := ⟨RX10, "setBars", "(LBuoyVote$Sea;I)V"⟩
abbrev cX10_overBars : ByteArray := prog_12_method_16_code
def yX10_overBars : MethodName := ⟨RX10, "overBars", "(LBuoyVote$Sea;I)I"⟩
def RX11 : String := "BuoyVote"
def TX11 : u_T := fun k => match k with
  | 0 => ("BuoyVote", "tape", "LBuoyVote$Tape;", true)
  | 1 => ("BuoyVote", "told", "LBuoyVote$Borough;", true)
  | 2 => ("BuoyVote", "draft", "LBuoyVote$Borough;", true)
  | 3 => ("BuoyVote", "laws", "LBuoyVote$LawBook;", true)
  | 4 => ("BuoyVote", "plans", "[LBuoyVote$Plan;", true)
  | 5 => ("BuoyVote", "planCount", "I", false)
  | 6 => ("BuoyVote", "waters", "LBuoyVote$Waters;", true)
  | 7 => ("BuoyVote", "now", "LBuoyVote$Sea;", true)
  | 8 => ("BuoyVote", "apart", "LBuoyVote$Sea;", true)
  | 9 => ("BuoyVote", "history", "LBuoyVote$History;", true)
  | 10 => ("BuoyVote", "sightings", "LBuoyVote$Sightings;", true)
  | 11 => ("BuoyVote", "duel", "LBuoyVote$Duel;", true)
  | 12 => ("BuoyVote", "charts", "LBuoyVote$Charts;", true)
  | 13 => ("BuoyVote", "parts", "[J", true)
  | 14 => ("BuoyVote", "shown", "[I", true)
  | _ => ("BuoyVote", "drawn", "J", false)
def tyX11 : Nat → FieldType := fun k => match k with
  | 0 => .object "BuoyVote$Tape"
  | 1 => .object "BuoyVote$Borough"
  | 2 => .object "BuoyVote$Borough"
  | 3 => .object "BuoyVote$LawBook"
  | 4 => .array (.object "BuoyVote$Plan")
  | 5 => .int
  | 6 => .object "BuoyVote$Waters"
  | 7 => .object "BuoyVote$Sea"
  | 8 => .object "BuoyVote$Sea"
  | 9 => .object "BuoyVote$History"
  | 10 => .object "BuoyVote$Sightings"
  | 11 => .object "BuoyVote$Duel"
  | 12 => .object "BuoyVote$Charts"
  | 13 => .array .long
  | 14 => .array .int
  | _ => .long
abbrev wsX110 : List Cond := u_ws RX11 TX11 16
theorem nmX11 : ∀ a, a < 16 → ∀ b, b < 16 → a ≠ b → (TX11 a).2.1 ≠ (TX11 b).2.1 := by decide +kernel
theorem tyX11_ok : ∀ k, k < 16 → parseFieldDescriptor (TX11 k).2.2.1 = some (tyX11 k) := by decide +kernel
abbrev cX11_init : ByteArray := prog_1_method_1_code
def yX11_init : MethodName := ⟨RX11, "<init>", "()V"⟩
abbrev cX11_feed : ByteArray := prog_1_method_2_code
def yX11_feed : MethodName := ⟨RX11, "feed", "(IIIII)I"⟩
abbrev cX11_end : ByteArray := prog_1_method_3_code
def yX11_end : MethodName := ⟨RX11, "end", "(I)Z"⟩
abbrev cX11_fault : ByteArray := prog_1_method_4_code
def yX11_fault : MethodName := ⟨RX11, "fault", "(I)I"⟩
abbrev cX11_text : ByteArray := prog_1_method_5_code
def yX11_text : MethodName := ⟨RX11, "text", "(I)I"⟩
abbrev cX11_rule : ByteArray := prog_1_method_6_code
def yX11_rule : MethodName := ⟨RX11, "rule", "(I)I"⟩
abbrev cX11_buoy : ByteArray := prog_1_method_7_code
def yX11_buoy : MethodName := ⟨RX11, "buoy", "(II)I"⟩
abbrev cX11_boat : ByteArray := prog_1_method_8_code
def yX11_boat : MethodName := ⟨RX11, "boat", "(II)I"⟩
abbrev cX11_law : ByteArray := prog_1_method_9_code
def yX11_law : MethodName := ⟨RX11, "law", "(I)Z"⟩
abbrev cX11_pull : ByteArray := prog_1_method_10_code
def yX11_pull : MethodName := ⟨RX11, "pull", "(II)I"⟩
abbrev cX11_push : ByteArray := prog_1_method_11_code
def yX11_push : MethodName := ⟨RX11, "push", "(II)I"⟩
abbrev cX11_row : ByteArray := prog_1_method_12_code
def yX11_row : MethodName := ⟨RX11, "row", "(III)I"⟩
abbrev cX11_sing : ByteArray := prog_1_method_13_code
def yX11_sing : MethodName := ⟨RX11, "sing", "(II)I"⟩
abbrev cX11_scrape : ByteArray := prog_1_method_14_code
def yX11_scrape : MethodName := ⟨RX11, "scrape", "(II)I"⟩
abbrev cX11_wind : ByteArray := prog_1_method_15_code
def yX11_wind : MethodName := ⟨RX11, "wind", "(II)Z"⟩
abbrev cX11_hours : ByteArray := prog_1_method_16_code
def yX11_hours : MethodName := ⟨RX11, "hours", "(I)I"⟩
abbrev cX11_years : ByteArray := prog_1_method_17_code
def yX11_years : MethodName := ⟨RX11, "years", "(IJ)I"⟩
abbrev cX11_undo : ByteArray := prog_1_method_18_code
def yX11_undo : MethodName := ⟨RX11, "undo", "()I"⟩
abbrev cX11_log : ByteArray := prog_1_method_19_code
def yX11_log : MethodName := ⟨RX11, "log", "(II)I"⟩
abbrev cX11_step : ByteArray := prog_1_method_20_code
def yX11_step : MethodName := ⟨RX11, "step", "(III)I"⟩
abbrev cX11_run : ByteArray := prog_1_method_21_code
def yX11_run : MethodName := ⟨RX11, "run", "(II)I"⟩
abbrev cX11_perform : ByteArray := prog_1_method_22_code
def yX11_perform : MethodName := ⟨RX11, "perform", "(I)I"⟩
abbrev cX11_votes : ByteArray := prog_1_method_23_code
def yX11_votes : MethodName := ⟨RX11, "votes", "(I)I"⟩
abbrev cX11_leader : ByteArray := prog_1_method_24_code
def yX11_leader : MethodName := ⟨RX11, "leader", "()I"⟩
abbrev cX11_ahead : ByteArray := prog_1_method_25_code
def yX11_ahead : MethodName := ⟨RX11, "ahead", "(II)I"⟩
abbrev cX11_soon : ByteArray := prog_1_method_26_code
def yX11_soon : MethodName := ⟨RX11, "soon", "(II)I"⟩
abbrev cX11_round : ByteArray := prog_1_method_27_code
def yX11_round : MethodName := ⟨RX11, "round", "(III)I"⟩
abbrev cX11_best : ByteArray := prog_1_method_28_code
def yX11_best : MethodName := ⟨RX11, "best", "(II)I"⟩
abbrev cX11_game : ByteArray := prog_1_method_29_code
def yX11_game : MethodName := ⟨RX11, "game", "(IIIII)I"⟩
abbrev cX11_rests : ByteArray := prog_1_method_30_code
def yX11_rests : MethodName := ⟨RX11, "rests", "(III)I"⟩
abbrev cX11_holds : ByteArray := prog_1_method_31_code
def yX11_holds : MethodName := ⟨RX11, "holds", "(III)I"⟩
abbrev cX11_seen : ByteArray := prog_1_method_32_code
def yX11_seen : MethodName := ⟨RX11, "seen", "(IIII)I"⟩
abbrev cX11_likes : ByteArray := prog_1_method_33_code
def yX11_likes : MethodName := ⟨RX11, "likes", "(II)I"⟩
abbrev cX11_ask : ByteArray := prog_1_method_34_code
def yX11_ask : MethodName := ⟨RX11, "ask", "(I)I"⟩
abbrev cX11_blown : ByteArray := prog_1_method_35_code
def yX11_blown : MethodName := ⟨RX11, "blown", "(II)I"⟩
abbrev cX11_washed : ByteArray := prog_1_method_36_code
def yX11_washed : MethodName := ⟨RX11, "washed", "(III)I"⟩
abbrev cX11_watch : ByteArray := prog_1_method_37_code
def yX11_watch : MethodName := ⟨RX11, "watch", "(I)I"⟩
abbrev cX11_fair : ByteArray := prog_1_method_38_code
def yX11_fair : MethodName := ⟨RX11, "fair", "(II)I"⟩
abbrev cX11_buoys : ByteArray := prog_1_method_39_code
def yX11_buoys : MethodName := ⟨RX11, "buoys", "(I)I"⟩
abbrev cX11_sways : ByteArray := prog_1_method_40_code
def yX11_sways : MethodName := ⟨RX11, "sways", "(II)I"⟩
abbrev cX11_nearest : ByteArray := prog_1_method_41_code
def yX11_nearest : MethodName := ⟨RX11, "nearest", "(I)I"⟩
abbrev cX11_fog : ByteArray := prog_1_method_42_code
def yX11_fog : MethodName := ⟨RX11, "fog", "(II)I"⟩
abbrev cX11_needs : ByteArray := prog_1_method_43_code
def yX11_needs : MethodName := ⟨RX11, "needs", "(II)I"⟩
abbrev cX11_heard : ByteArray := prog_1_method_44_code
def yX11_heard : MethodName := ⟨RX11, "heard", "(I)I"⟩
abbrev cX11_middle : ByteArray := prog_1_method_45_code
def yX11_middle : MethodName := ⟨RX11, "middle", "()I"⟩
abbrev cX11_image : ByteArray := prog_1_method_46_code
def yX11_image : MethodName := ⟨RX11, "image", "()I"⟩
abbrev cX11_back : ByteArray := prog_1_method_47_code
def yX11_back : MethodName := ⟨RX11, "back", "()I"⟩
abbrev cX11_count : ByteArray := prog_1_method_48_code
def yX11_count : MethodName := ⟨RX11, "count", "(I)I"⟩
abbrev cX11_hasBorough : ByteArray := prog_1_method_49_code
def yX11_hasBorough : MethodName := ⟨RX11, "hasBorough", "()Z"⟩
abbrev cX11_isBuoy : ByteArray := prog_1_method_50_code
def yX11_isBuoy : MethodName := ⟨RX11, "isBuoy", "(I)Z"⟩
abbrev cX11_isBoat : ByteArray := prog_1_method_51_code
def yX11_isBoat : MethodName := ⟨RX11, "isBoat", "(I)Z"⟩
abbrev cX11_isPair : ByteArray := prog_1_method_52_code
def yX11_isPair : MethodName := ⟨RX11, "isPair", "(II)Z"⟩
abbrev cX11_isPlan : ByteArray := prog_1_method_53_code
def yX11_isPlan : MethodName := ⟨RX11, "isPlan", "(I)Z"⟩
abbrev cX11_isBeside : ByteArray := prog_1_method_54_code
def yX11_isBeside : MethodName := ⟨RX11, "isBeside", "(LBuoyVote$Sea;II)Z"⟩
abbrev cX11_isFaithful : ByteArray := prog_1_method_55_code
def yX11_isFaithful : MethodName := ⟨RX11, "isFaithful", "(I)Z"⟩
abbrev cX11_canRow : ByteArray := prog_1_method_56_code
def yX11_canRow : MethodName := ⟨RX11, "canRow", "(LBuoyVote$Sea;III)Z"⟩
abbrev cX11_canSing : ByteArray := prog_1_method_57_code
def yX11_canSing : MethodName := ⟨RX11, "canSing", "(LBuoyVote$Sea;II)Z"⟩
abbrev cX11_canScrape : ByteArray := prog_1_method_58_code
def yX11_canScrape : MethodName := ⟨RX11, "canScrape", "(LBuoyVote$Sea;II)Z"⟩
abbrev cX11_canPass : ByteArray := prog_1_method_59_code
def yX11_canPass : MethodName := ⟨RX11, "canPass", "(I)Z"⟩
abbrev cX11_canDo : ByteArray := prog_1_method_60_code
def yX11_canDo : MethodName := ⟨RX11, "canDo", "(LBuoyVote$Sea;LBuoyVote$Plan;I)Z"⟩
abbrev cX11_change : ByteArray := prog_1_method_61_code
def yX11_change : MethodName := ⟨RX11, "change", "(LBuoyVote$Sea;LBuoyVote$Plan;I)V"⟩
abbrev cX11_passApart : ByteArray := prog_1_method_62_code
def yX11_passApart : MethodName := ⟨RX11, "passApart", "(I)V"⟩
abbrev cX11_liveHour : ByteArray := prog_1_method_63_code
def yX11_liveHour : MethodName := ⟨RX11, "liveHour", "()V"⟩
abbrev cX11_drawOutOf : ByteArray := prog_1_method_64_code
def yX11_drawOutOf : MethodName := ⟨RX11, "drawOutOf", "(I)I"⟩
abbrev cX11_beginBorough : ByteArray := prog_1_method_65_code
def yX11_beginBorough : MethodName := ⟨RX11, "beginBorough", "()I"⟩
abbrev cX11_keepLaw : ByteArray := prog_1_method_66_code
def yX11_keepLaw : MethodName := ⟨RX11, "keepLaw", "()I"⟩
abbrev cX11_keepPlan : ByteArray := prog_1_method_67_code
def yX11_keepPlan : MethodName := ⟨RX11, "keepPlan", "()I"⟩
abbrev cX11_splitByFog : ByteArray := prog_1_method_68_code
def yX11_splitByFog : MethodName := ⟨RX11, "splitByFog", "(I)I"⟩
abbrev cX11_leadsUnder : ByteArray := prog_1_method_69_code
def yX11_leadsUnder : MethodName := ⟨RX11, "leadsUnder", "(II)Z"⟩
abbrev cX11_isWithin : ByteArray := prog_1_method_70_code
def yX11_isWithin : MethodName := ⟨RX11, "isWithin", "(III)Z"⟩
abbrev cX11_sumOf : ByteArray := prog_1_method_71_code
def yX11_sumOf : MethodName := ⟨RX11, "sumOf", "([II)I"⟩
abbrev cX11_hoursFor : ByteArray := prog_1_method_72_code
def yX11_hoursFor : MethodName := ⟨RX11, "hoursFor", "(II)I"⟩
def RX12 : String := "BuoyVoteModel"
def TX12 : u_T := fun k => match k with
  | 0 => ("BuoyVoteModel", "thrown", "I", false)
  | 1 => ("BuoyVoteModel", "tape", "[B", true)
  | 2 => ("BuoyVoteModel", "texts", "[B", true)
  | 3 => ("BuoyVoteModel", "textLong", "[I", true)
  | 4 => ("BuoyVoteModel", "letters", "[I", true)
  | 5 => ("BuoyVoteModel", "text", "[B", false)
  | 6 => ("BuoyVoteModel", "length", "I", false)
  | 7 => ("BuoyVoteModel", "lawMany", "I", false)
  | 8 => ("BuoyVoteModel", "begins", "I", false)
  | 9 => ("BuoyVoteModel", "ends", "I", false)
  | 10 => ("BuoyVoteModel", "at", "I", false)
  | 11 => ("BuoyVoteModel", "fault", "I", false)
  | 12 => ("BuoyVoteModel", "deep", "I", false)
  | 13 => ("BuoyVoteModel", "label", "I", false)
  | 14 => ("BuoyVoteModel", "found", "I", false)
  | 15 => ("BuoyVoteModel", "labels", "Ljava/lang/String;", true)
  | 16 => ("BuoyVoteModel", "allowed", "Ljava/lang/String;", true)
  | 17 => ("BuoyVoteModel", "hasFound", "Z", false)
  | 18 => ("BuoyVoteModel", "rule", "[I", true)
  | 19 => ("BuoyVoteModel", "ruleRead", "[I", true)
  | 20 => ("BuoyVoteModel", "buoy", "[I", true)
  | 21 => ("BuoyVoteModel", "buoyRead", "[I", true)
  | 22 => ("BuoyVoteModel", "boat", "[I", true)
  | 23 => ("BuoyVoteModel", "boatRead", "[I", true)
  | 24 => ("BuoyVoteModel", "plan", "[I", true)
  | 25 => ("BuoyVoteModel", "planLong", "[I", true)
  | 26 => ("BuoyVoteModel", "buoys", "I", false)
  | 27 => ("BuoyVoteModel", "boats", "I", false)
  | 28 => ("BuoyVoteModel", "buoysRead", "I", false)
  | 29 => ("BuoyVoteModel", "boatsRead", "I", false)
  | 30 => ("BuoyVoteModel", "plans", "I", false)
  | 31 => ("BuoyVoteModel", "hasRules", "Z", false)
  | 32 => ("BuoyVoteModel", "now", "[I", true)
  | 33 => ("BuoyVoteModel", "trial", "[I", true)
  | 34 => ("BuoyVoteModel", "law", "I", false)
  | 35 => ("BuoyVoteModel", "memoKey", "[J", true)
  | 36 => ("BuoyVoteModel", "memoWorth", "[I", true)
  | 37 => ("BuoyVoteModel", "draws", "[I", true)
  | 38 => ("BuoyVoteModel", "tally", "[I", true)
  | 39 => ("BuoyVoteModel", "leans", "[I", true)
  | 40 => ("BuoyVoteModel", "undoRow", "[I", true)
  | 41 => ("BuoyVoteModel", "acts", "I", false)
  | 42 => ("BuoyVoteModel", "x", "J", false)
  | 43 => ("BuoyVoteModel", "roundLeast", "I", false)
  | 44 => ("BuoyVoteModel", "roundDigits", "I", false)
  | 45 => ("BuoyVoteModel", "gains", "[I", true)
  | 46 => ("BuoyVoteModel", "sightBuoy", "[I", true)
  | 47 => ("BuoyVoteModel", "sightNear", "[I", true)
  | 48 => ("BuoyVoteModel", "sightFar", "[I", true)
  | 49 => ("BuoyVoteModel", "sightTo", "[I", true)
  | 50 => ("BuoyVoteModel", "answers", "[I", true)
  | 51 => ("BuoyVoteModel", "sights", "I", false)
  | 52 => ("BuoyVoteModel", "imageRow", "[I", true)
  | _ => ("BuoyVoteModel", "hasImage", "Z", false)
def tyX12 : Nat → FieldType := fun k => match k with
  | 0 => .int
  | 1 => .array .byte
  | 2 => .array .byte
  | 3 => .array .int
  | 4 => .array .int
  | 5 => .array .byte
  | 6 => .int
  | 7 => .int
  | 8 => .int
  | 9 => .int
  | 10 => .int
  | 11 => .int
  | 12 => .int
  | 13 => .int
  | 14 => .int
  | 15 => .object "java/lang/String"
  | 16 => .object "java/lang/String"
  | 17 => .boolean
  | 18 => .array .int
  | 19 => .array .int
  | 20 => .array .int
  | 21 => .array .int
  | 22 => .array .int
  | 23 => .array .int
  | 24 => .array .int
  | 25 => .array .int
  | 26 => .int
  | 27 => .int
  | 28 => .int
  | 29 => .int
  | 30 => .int
  | 31 => .boolean
  | 32 => .array .int
  | 33 => .array .int
  | 34 => .int
  | 35 => .array .long
  | 36 => .array .int
  | 37 => .array .int
  | 38 => .array .int
  | 39 => .array .int
  | 40 => .array .int
  | 41 => .int
  | 42 => .long
  | 43 => .int
  | 44 => .int
  | 45 => .array .int
  | 46 => .array .int
  | 47 => .array .int
  | 48 => .array .int
  | 49 => .array .int
  | 50 => .array .int
  | 51 => .int
  | 52 => .array .int
  | _ => .boolean
abbrev wsX120 : List Cond := u_ws RX12 TX12 54
theorem nmX12 : ∀ a, a < 54 → ∀ b, b < 54 → a ≠ b → (TX12 a).2.1 ≠ (TX12 b).2.1 := by decide +kernel
theorem tyX12_ok : ∀ k, k < 54 → parseFieldDescriptor (TX12 k).2.2.1 = some (tyX12 k) := by decide +kernel
abbrev cX12_init : ByteArray := prog_14_method_1_code
def yX12_init : MethodName := ⟨RX12, "<init>", "()V"⟩
abbrev cX12_thrown : ByteArray := prog_14_method_2_code
def yX12_thrown : MethodName := ⟨RX12, "thrown", "()I"⟩
abbrev cX12_isIn : ByteArray := prog_14_method_3_code
def yX12_isIn : MethodName := ⟨RX12, "isIn", "(JJJ)Z"⟩
abbrev cX12_has : ByteArray := prog_14_method_4_code
def yX12_has : MethodName := ⟨RX12, "has", "(II)Z"⟩
abbrev cX12_isAmong : ByteArray := prog_14_method_5_code
def yX12_isAmong : MethodName := ⟨RX12, "isAmong", "(Ljava/lang/String;I)Z"⟩
abbrev cX12_bytesIn : ByteArray := prog_14_method_6_code
def yX12_bytesIn : MethodName := ⟨RX12, "bytesIn", "(I)I"⟩
abbrev cX12_put : ByteArray := prog_14_method_7_code
def yX12_put : MethodName := ⟨RX12, "put", "(I)V"⟩
abbrev cX12_feed : ByteArray := prog_14_method_8_code
def yX12_feed : MethodName := ⟨RX12, "feed", "(IIIII)I"⟩
abbrev cX12_end : ByteArray := prog_14_method_9_code
def yX12_end : MethodName := ⟨RX12, "end", "(I)Z"⟩
abbrev cX12_look : ByteArray := prog_14_method_10_code
def yX12_look : MethodName := ⟨RX12, "look", "()I"⟩
abbrev cX12_fails : ByteArray := prog_14_method_11_code
def yX12_fails : MethodName := ⟨RX12, "fails", "()Z"⟩
abbrev cX12_goesIn : ByteArray := prog_14_method_12_code
def yX12_goesIn : MethodName := ⟨RX12, "goesIn", "()Z"⟩
abbrev cX12_takes : ByteArray := prog_14_method_13_code
def yX12_takes : MethodName := ⟨RX12, "takes", "(I)Z"⟩
abbrev cX12_isDigit : ByteArray := prog_14_method_14_code
def yX12_isDigit : MethodName := ⟨RX12, "isDigit", "()Z"⟩
abbrev cX12_within : ByteArray := prog_14_method_15_code
def yX12_within : MethodName := ⟨RX12, "within", "(J)I"⟩
abbrev cX12_atom : ByteArray := prog_14_method_16_code
def yX12_atom : MethodName := ⟨RX12, "atom", "()I"⟩
abbrev cX12_term : ByteArray := prog_14_method_17_code
def yX12_term : MethodName := ⟨RX12, "term", "()I"⟩
abbrev cX12_sum : ByteArray := prog_14_method_18_code
def yX12_sum : MethodName := ⟨RX12, "sum", "()I"⟩
abbrev cX12_isSign : ByteArray := prog_14_method_19_code
def yX12_isSign : MethodName := ⟨RX12, "isSign", "(I)Z"⟩
abbrev cX12_compares : ByteArray := prog_14_method_20_code
def yX12_compares : MethodName := ⟨RX12, "compares", "(ZI)Z"⟩
abbrev cX12_unit : ByteArray := prog_14_method_21_code
def yX12_unit : MethodName := ⟨RX12, "unit", "()Z"⟩
abbrev cX12_part : ByteArray := prog_14_method_22_code
def yX12_part : MethodName := ⟨RX12, "part", "(ZI)Z"⟩
abbrev cX12_condition : ByteArray := prog_14_method_23_code
def yX12_condition : MethodName := ⟨RX12, "condition", "(ZI)Z"⟩
abbrev cX12_clause : ByteArray := prog_14_method_24_code
def yX12_clause : MethodName := ⟨RX12, "clause", "()V"⟩
abbrev cX12_starts : ByteArray := prog_14_method_25_code
def yX12_starts : MethodName := ⟨RX12, "starts", "([BII)V"⟩
abbrev cX12_goThrough : ByteArray := prog_14_method_26_code
def yX12_goThrough : MethodName := ⟨RX12, "goThrough", "([BII)V"⟩
abbrev cX12_here : ByteArray := prog_14_method_27_code
def yX12_here : MethodName := ⟨RX12, "here", "()I"⟩
abbrev cX12_spotOf : ByteArray := prog_14_method_28_code
def yX12_spotOf : MethodName := ⟨RX12, "spotOf", "(Ljava/lang/String;I)I"⟩
abbrev cX12_number : ByteArray := prog_14_method_29_code
def yX12_number : MethodName := ⟨RX12, "number", "(II)I"⟩
abbrev cX12_mostOf : ByteArray := prog_14_method_30_code
def yX12_mostOf : MethodName := ⟨RX12, "mostOf", "(II)I"⟩
abbrev cX12_leastOf : ByteArray := prog_14_method_31_code
def yX12_leastOf : MethodName := ⟨RX12, "leastOf", "(II)I"⟩
abbrev cX12_usual : ByteArray := prog_14_method_32_code
def yX12_usual : MethodName := ⟨RX12, "usual", "(II)I"⟩
abbrev cX12_readItems : ByteArray := prog_14_method_33_code
def yX12_readItems : MethodName := ⟨RX12, "readItems", "(I[IILjava/lang/String;)V"⟩
abbrev cX12_readClause : ByteArray := prog_14_method_34_code
def yX12_readClause : MethodName := ⟨RX12, "readClause", "()V"⟩
abbrev cX12_isWhole : ByteArray := prog_14_method_35_code
def yX12_isWhole : MethodName := ⟨RX12, "isWhole", "()Z"⟩
abbrev cX12_readBorough : ByteArray := prog_14_method_36_code
def yX12_readBorough : MethodName := ⟨RX12, "readBorough", "()V"⟩
abbrev cX12_digit : ByteArray := prog_14_method_37_code
def yX12_digit : MethodName := ⟨RX12, "digit", "()I"⟩
abbrev cX12_readStep : ByteArray := prog_14_method_38_code
def yX12_readStep : MethodName := ⟨RX12, "readStep", "(I)V"⟩
abbrev cX12_readPlan : ByteArray := prog_14_method_39_code
def yX12_readPlan : MethodName := ⟨RX12, "readPlan", "()V"⟩
abbrev cX12_fault : ByteArray := prog_14_method_40_code
def yX12_fault : MethodName := ⟨RX12, "fault", "(I)I"⟩
abbrev cX12_text : ByteArray := prog_14_method_41_code
def yX12_text : MethodName := ⟨RX12, "text", "(I)I"⟩
abbrev cX12_begin : ByteArray := prog_14_method_42_code
def yX12_begin : MethodName := ⟨RX12, "begin", "()V"⟩
abbrev cX12_copy : ByteArray := prog_14_method_43_code
def yX12_copy : MethodName := ⟨RX12, "copy", "([I[I)V"⟩
abbrev cX12_isBuoy : ByteArray := prog_14_method_44_code
def yX12_isBuoy : MethodName := ⟨RX12, "isBuoy", "(I)Z"⟩
abbrev cX12_isBoat : ByteArray := prog_14_method_45_code
def yX12_isBoat : MethodName := ⟨RX12, "isBoat", "(I)Z"⟩
abbrev cX12_told : ByteArray := prog_14_method_46_code
def yX12_told : MethodName := ⟨RX12, "told", "(II)I"⟩
abbrev cX12_boatTold : ByteArray := prog_14_method_47_code
def yX12_boatTold : MethodName := ⟨RX12, "boatTold", "(II)I"⟩
abbrev cX12_ofBoat : ByteArray := prog_14_method_48_code
def yX12_ofBoat : MethodName := ⟨RX12, "ofBoat", "([III)I"⟩
abbrev cX12_away : ByteArray := prog_14_method_49_code
def yX12_away : MethodName := ⟨RX12, "away", "([IIII)I"⟩
abbrev cX12_awayFrom : ByteArray := prog_14_method_50_code
def yX12_awayFrom : MethodName := ⟨RX12, "awayFrom", "([III)I"⟩
abbrev cX12_rises : ByteArray := prog_14_method_51_code
def yX12_rises : MethodName := ⟨RX12, "rises", "([I)Z"⟩
abbrev cX12_pushOf : ByteArray := prog_14_method_52_code
def yX12_pushOf : MethodName := ⟨RX12, "pushOf", "([III)I"⟩
abbrev cX12_drawBy : ByteArray := prog_14_method_53_code
def yX12_drawBy : MethodName := ⟨RX12, "drawBy", "(IIIIII)I"⟩
abbrev cX12_worthNow : ByteArray := prog_14_method_54_code
def yX12_worthNow : MethodName := ⟨RX12, "worthNow", "()I"⟩
abbrev cX12_barnaclesFor : ByteArray := prog_14_method_55_code
def yX12_barnaclesFor : MethodName := ⟨RX12, "barnaclesFor", "([III)I"⟩
abbrev cX12_drawOf : ByteArray := prog_14_method_56_code
def yX12_drawOf : MethodName := ⟨RX12, "drawOf", "([III)I"⟩
abbrev cX12_leanBy : ByteArray := prog_14_method_57_code
def yX12_leanBy : MethodName := ⟨RX12, "leanBy", "(II)I"⟩
abbrev cX12_leanOf : ByteArray := prog_14_method_58_code
def yX12_leanOf : MethodName := ⟨RX12, "leanOf", "([II)I"⟩
abbrev cX12_votesIn : ByteArray := prog_14_method_59_code
def yX12_votesIn : MethodName := ⟨RX12, "votesIn", "([II)I"⟩
abbrev cX12_leaderIn : ByteArray := prog_14_method_60_code
def yX12_leaderIn : MethodName := ⟨RX12, "leaderIn", "([I)I"⟩
abbrev cX12_towards : ByteArray := prog_14_method_61_code
def yX12_towards : MethodName := ⟨RX12, "towards", "(III)I"⟩
abbrev cX12_goHour : ByteArray := prog_14_method_62_code
def yX12_goHour : MethodName := ⟨RX12, "goHour", "([I)V"⟩
abbrev cX12_counts : ByteArray := prog_14_method_63_code
def yX12_counts : MethodName := ⟨RX12, "counts", "([II)V"⟩
abbrev cX12_rule : ByteArray := prog_14_method_64_code
def yX12_rule : MethodName := ⟨RX12, "rule", "(I)I"⟩
abbrev cX12_buoy : ByteArray := prog_14_method_65_code
def yX12_buoy : MethodName := ⟨RX12, "buoy", "(II)I"⟩
abbrev cX12_boat : ByteArray := prog_14_method_66_code
def yX12_boat : MethodName := ⟨RX12, "boat", "(II)I"⟩
abbrev cX12_law : ByteArray := prog_14_method_67_code
def yX12_law : MethodName := ⟨RX12, "law", "(I)Z"⟩
abbrev cX12_pull : ByteArray := prog_14_method_68_code
def yX12_pull : MethodName := ⟨RX12, "pull", "(II)I"⟩
abbrev cX12_push : ByteArray := prog_14_method_69_code
def yX12_push : MethodName := ⟨RX12, "push", "(II)I"⟩
abbrev cX12_remember : ByteArray := prog_14_method_70_code
def yX12_remember : MethodName := ⟨RX12, "remember", "()V"⟩
abbrev cX12_hoursFor : ByteArray := prog_14_method_71_code
def yX12_hoursFor : MethodName := ⟨RX12, "hoursFor", "(II)I"⟩
abbrev cX12_canRow : ByteArray := prog_14_method_72_code
def yX12_canRow : MethodName := ⟨RX12, "canRow", "([IIII)Z"⟩
abbrev cX12_rows : ByteArray := prog_14_method_73_code
def yX12_rows : MethodName := ⟨RX12, "rows", "([IIII)V"⟩
abbrev cX12_row : ByteArray := prog_14_method_74_code
def yX12_row : MethodName := ⟨RX12, "row", "(III)I"⟩
abbrev cX12_canSing : ByteArray := prog_14_method_75_code
def yX12_canSing : MethodName := ⟨RX12, "canSing", "([III)Z"⟩
abbrev cX12_sings : ByteArray := prog_14_method_76_code
def yX12_sings : MethodName := ⟨RX12, "sings", "([III)V"⟩
abbrev cX12_sing : ByteArray := prog_14_method_77_code
def yX12_sing : MethodName := ⟨RX12, "sing", "(II)I"⟩
abbrev cX12_canScrape : ByteArray := prog_14_method_78_code
def yX12_canScrape : MethodName := ⟨RX12, "canScrape", "([III)Z"⟩
abbrev cX12_scrape : ByteArray := prog_14_method_79_code
def yX12_scrape : MethodName := ⟨RX12, "scrape", "(II)I"⟩
abbrev cX12_wind : ByteArray := prog_14_method_80_code
def yX12_wind : MethodName := ⟨RX12, "wind", "(II)Z"⟩
abbrev cX12_mayPass : ByteArray := prog_14_method_81_code
def yX12_mayPass : MethodName := ⟨RX12, "mayPass", "([III)Z"⟩
abbrev cX12_hours : ByteArray := prog_14_method_82_code
def yX12_hours : MethodName := ⟨RX12, "hours", "(I)I"⟩
abbrev cX12_draw : ByteArray := prog_14_method_83_code
def yX12_draw : MethodName := ⟨RX12, "draw", "(I)I"⟩
abbrev cX12_years : ByteArray := prog_14_method_84_code
def yX12_years : MethodName := ⟨RX12, "years", "(IJ)I"⟩
abbrev cX12_undo : ByteArray := prog_14_method_85_code
def yX12_undo : MethodName := ⟨RX12, "undo", "()I"⟩
abbrev cX12_log : ByteArray := prog_14_method_86_code
def yX12_log : MethodName := ⟨RX12, "log", "(II)I"⟩
abbrev cX12_isPlan : ByteArray := prog_14_method_87_code
def yX12_isPlan : MethodName := ⟨RX12, "isPlan", "(I)Z"⟩
abbrev cX12_step : ByteArray := prog_14_method_88_code
def yX12_step : MethodName := ⟨RX12, "step", "(III)I"⟩
abbrev cX12_canStep : ByteArray := prog_14_method_89_code
def yX12_canStep : MethodName := ⟨RX12, "canStep", "([II)Z"⟩
abbrev cX12_steps : ByteArray := prog_14_method_90_code
def yX12_steps : MethodName := ⟨RX12, "steps", "([II)V"⟩
abbrev cX12_timesOf : ByteArray := prog_14_method_91_code
def yX12_timesOf : MethodName := ⟨RX12, "timesOf", "(I)I"⟩
abbrev cX12_run : ByteArray := prog_14_method_92_code
def yX12_run : MethodName := ⟨RX12, "run", "(II)I"⟩
abbrev cX12_perform : ByteArray := prog_14_method_93_code
def yX12_perform : MethodName := ⟨RX12, "perform", "(I)I"⟩
abbrev cX12_votes : ByteArray := prog_14_method_94_code
def yX12_votes : MethodName := ⟨RX12, "votes", "(I)I"⟩
abbrev cX12_leader : ByteArray := prog_14_method_95_code
def yX12_leader : MethodName := ⟨RX12, "leader", "()I"⟩
abbrev cX12_ahead : ByteArray := prog_14_method_96_code
def yX12_ahead : MethodName := ⟨RX12, "ahead", "(II)I"⟩
abbrev cX12_soon : ByteArray := prog_14_method_97_code
def yX12_soon : MethodName := ⟨RX12, "soon", "(II)I"⟩
abbrev cX12_goRound : ByteArray := prog_14_method_98_code
def yX12_goRound : MethodName := ⟨RX12, "goRound", "(IIIIII)V"⟩
abbrev cX12_round : ByteArray := prog_14_method_99_code
def yX12_round : MethodName := ⟨RX12, "round", "(III)I"⟩
abbrev cX12_puts : ByteArray := prog_14_method_100_code
def yX12_puts : MethodName := ⟨RX12, "puts", "([IIII)V"⟩
abbrev cX12_best : ByteArray := prog_14_method_101_code
def yX12_best : MethodName := ⟨RX12, "best", "(II)I"⟩
abbrev cX12_areTwo : ByteArray := prog_14_method_102_code
def yX12_areTwo : MethodName := ⟨RX12, "areTwo", "(II)Z"⟩
abbrev cX12_layAt : ByteArray := prog_14_method_103_code
def yX12_layAt : MethodName := ⟨RX12, "layAt", "(IIII)V"⟩
abbrev cX12_gameOf : ByteArray := prog_14_method_104_code
def yX12_gameOf : MethodName := ⟨RX12, "gameOf", "(IIIII)I"⟩
abbrev cX12_game : ByteArray := prog_14_method_105_code
def yX12_game : MethodName := ⟨RX12, "game", "(IIIII)I"⟩
abbrev cX12_layGains : ByteArray := prog_14_method_106_code
def yX12_layGains : MethodName := ⟨RX12, "layGains", "(II)V"⟩
abbrev cX12_gain : ByteArray := prog_14_method_107_code
def yX12_gain : MethodName := ⟨RX12, "gain", "(III)I"⟩
abbrev cX12_isRest : ByteArray := prog_14_method_108_code
def yX12_isRest : MethodName := ⟨RX12, "isRest", "(II)Z"⟩
abbrev cX12_rests : ByteArray := prog_14_method_109_code
def yX12_rests : MethodName := ⟨RX12, "rests", "(III)I"⟩
abbrev cX12_holds : ByteArray := prog_14_method_110_code
def yX12_holds : MethodName := ⟨RX12, "holds", "(III)I"⟩
abbrev cX12_seen : ByteArray := prog_14_method_111_code
def yX12_seen : MethodName := ⟨RX12, "seen", "(IIII)I"⟩
abbrev cX12_answer : ByteArray := prog_14_method_112_code
def yX12_answer : MethodName := ⟨RX12, "answer", "(IIII)I"⟩
abbrev cX12_fits : ByteArray := prog_14_method_113_code
def yX12_fits : MethodName := ⟨RX12, "fits", "(II)Z"⟩
abbrev cX12_likes : ByteArray := prog_14_method_114_code
def yX12_likes : MethodName := ⟨RX12, "likes", "(II)I"⟩
abbrev cX12_ask : ByteArray := prog_14_method_115_code
def yX12_ask : MethodName := ⟨RX12, "ask", "(I)I"⟩
abbrev cX12_blown : ByteArray := prog_14_method_116_code
def yX12_blown : MethodName := ⟨RX12, "blown", "(II)I"⟩
abbrev cX12_washed : ByteArray := prog_14_method_117_code
def yX12_washed : MethodName := ⟨RX12, "washed", "(III)I"⟩
abbrev cX12_apart : ByteArray := prog_14_method_118_code
def yX12_apart : MethodName := ⟨RX12, "apart", "(II)I"⟩
abbrev cX12_watches : ByteArray := prog_14_method_119_code
def yX12_watches : MethodName := ⟨RX12, "watches", "(II)Z"⟩
abbrev cX12_watch : ByteArray := prog_14_method_120_code
def yX12_watch : MethodName := ⟨RX12, "watch", "(I)I"⟩
abbrev cX12_fair : ByteArray := prog_14_method_121_code
def yX12_fair : MethodName := ⟨RX12, "fair", "(II)I"⟩
abbrev cX12_buoys : ByteArray := prog_14_method_122_code
def yX12_buoys : MethodName := ⟨RX12, "buoys", "(I)I"⟩
abbrev cX12_sways : ByteArray := prog_14_method_123_code
def yX12_sways : MethodName := ⟨RX12, "sways", "(II)I"⟩
abbrev cX12_nearest : ByteArray := prog_14_method_124_code
def yX12_nearest : MethodName := ⟨RX12, "nearest", "(I)I"⟩
abbrev cX12_fogOf : ByteArray := prog_14_method_125_code
def yX12_fogOf : MethodName := ⟨RX12, "fogOf", "(IIIJ)J"⟩
abbrev cX12_fog : ByteArray := prog_14_method_126_code
def yX12_fog : MethodName := ⟨RX12, "fog", "(II)I"⟩
abbrev cX12_needs : ByteArray := prog_14_method_127_code
def yX12_needs : MethodName := ⟨RX12, "needs", "(II)I"⟩
abbrev cX12_heard : ByteArray := prog_14_method_128_code
def yX12_heard : MethodName := ⟨RX12, "heard", "(I)I"⟩
abbrev cX12_middle : ByteArray := prog_14_method_129_code
def yX12_middle : MethodName := ⟨RX12, "middle", "()I"⟩
abbrev cX12_image : ByteArray := prog_14_method_130_code
def yX12_image : MethodName := ⟨RX12, "image", "()I"⟩
abbrev cX12_back : ByteArray := prog_14_method_131_code
def yX12_back : MethodName := ⟨RX12, "back", "()I"⟩
abbrev cX12_count : ByteArray := prog_14_method_132_code
def yX12_count : MethodName := ⟨RX12, "count", "(I)I"⟩
def RJx145de : String := "java/io/Serializable"
def RJx9f9b0 : String := "java/lang/CharSequence"
def RJ11 : String := "java/lang/Character"
abbrev cJ11_isValidCodePoint_9a6ad : ByteArray := prog_17_method_11_code
def yJ11_isValidCodePoint_9a6ad : MethodName := ⟨RJ11, "isValidCodePoint", "(I)Z"⟩
abbrev cJ11_highSurrogate_5068e : ByteArray := prog_17_method_28_code
def yJ11_highSurrogate_5068e : MethodName := ⟨RJ11, "highSurrogate", "(I)C"⟩
abbrev cJ11_lowSurrogate_5068e : ByteArray := prog_17_method_29_code
def yJ11_lowSurrogate_5068e : MethodName := ⟨RJ11, "lowSurrogate", "(I)C"⟩
def RJxb160c : String := "java/lang/Comparable"
def RJ6 : String := "java/lang/Integer"
abbrev cJ6_bitCount_0f7a4 : ByteArray := prog_20_method_49_code
def yJ6_bitCount_0f7a4 : MethodName := ⟨RJ6, "bitCount", "(I)I"⟩
def RJ9 : String := "java/lang/Math"
abbrev cJ9_abs_0f7a4 : ByteArray := prog_21_method_59_code
def yJ9_abs_0f7a4 : MethodName := ⟨RJ9, "abs", "(I)I"⟩
abbrev cJ9_max_7cf53 : ByteArray := prog_21_method_65_code
def yJ9_max_7cf53 : MethodName := ⟨RJ9, "max", "(II)I"⟩
abbrev cJ9_max_f86c9 : ByteArray := prog_21_method_66_code
def yJ9_max_f86c9 : MethodName := ⟨RJ9, "max", "(JJ)J"⟩
abbrev cJ9_min_7cf53 : ByteArray := prog_21_method_69_code
def yJ9_min_7cf53 : MethodName := ⟨RJ9, "min", "(II)I"⟩
abbrev cJ9_min_f86c9 : ByteArray := prog_21_method_70_code
def yJ9_min_f86c9 : MethodName := ⟨RJ9, "min", "(JJ)J"⟩
def RJ0 : String := "java/lang/String"
abbrev cJ0_length_8abf5 : ByteArray := prog_23_method_54_code
def yJ0_length_8abf5 : MethodName := ⟨RJ0, "length", "()I"⟩
abbrev cJ0_charAt_5068e : ByteArray := prog_23_method_56_code
def yJ0_charAt_5068e : MethodName := ⟨RJ0, "charAt", "(I)C"⟩
abbrev cJ0_indexOf_0f7a4 : ByteArray := prog_23_method_79_code
def yJ0_indexOf_0f7a4 : MethodName := ⟨RJ0, "indexOf", "(I)I"⟩
abbrev cJ0_indexOf_7cf53 : ByteArray := prog_23_method_80_code
def yJ0_indexOf_7cf53 : MethodName := ⟨RJ0, "indexOf", "(II)I"⟩
abbrev cJ0_coder_7d493 : ByteArray := prog_23_method_152_code
def yJ0_coder_7d493 : MethodName := ⟨RJ0, "coder", "()B"⟩
abbrev cJ0_isLatin1_aae02 : ByteArray := prog_23_method_154_code
def yJ0_isLatin1_aae02 : MethodName := ⟨RJ0, "isLatin1", "()Z"⟩
abbrev cJ0_checkIndex_df160 : ByteArray := prog_23_method_155_code
def yJ0_checkIndex_df160 : MethodName := ⟨RJ0, "checkIndex", "(II)V"⟩
abbrev cJ0_checkBoundsBeginEnd_23922 : ByteArray := prog_23_method_158_code
def yJ0_checkBoundsBeginEnd_23922 : MethodName := ⟨RJ0, "checkBoundsBeginEnd", "(III)V"⟩
def RJ1 : String := "java/lang/StringLatin1"
abbrev cJ1_charAt_3b067 : ByteArray := prog_24_method_2_code
def yJ1_charAt_3b067 : MethodName := ⟨RJ1, "charAt", "([BI)C"⟩
abbrev cJ1_canEncode_9a6ad : ByteArray := prog_24_method_4_code
def yJ1_canEncode_9a6ad : MethodName := ⟨RJ1, "canEncode", "(I)Z"⟩
abbrev cJ1_indexOf_4cfef : ByteArray := prog_24_method_22_code
def yJ1_indexOf_4cfef : MethodName := ⟨RJ1, "indexOf", "([BIII)I"⟩
abbrev cJ1_indexOfChar_4cfef : ByteArray := prog_24_method_23_code
def yJ1_indexOfChar_4cfef : MethodName := ⟨RJ1, "indexOfChar", "([BIII)I"⟩
def RJ2 : String := "java/lang/StringUTF16"
abbrev cJ2_getChar_3b067 : ByteArray := prog_25_method_5_code
def yJ2_getChar_3b067 : MethodName := ⟨RJ2, "getChar", "([BI)C"⟩
abbrev cJ2_length_9d52b : ByteArray := prog_25_method_6_code
def yJ2_length_9d52b : MethodName := ⟨RJ2, "length", "([B)I"⟩
abbrev cJ2_indexOf_4cfef : ByteArray := prog_25_method_40_code
def yJ2_indexOf_4cfef : MethodName := ⟨RJ2, "indexOf", "([BIII)I"⟩
abbrev cJ2_indexOfChar_4cfef : ByteArray := prog_25_method_47_code
def yJ2_indexOfChar_4cfef : MethodName := ⟨RJ2, "indexOfChar", "([BIII)I"⟩
abbrev cJ2_indexOfCharUnsafe_4cfef : ByteArray := prog_25_method_48_code
def yJ2_indexOfCharUnsafe_4cfef : MethodName := ⟨RJ2, "indexOfCharUnsafe", "([BIII)I"⟩
abbrev cJ2_indexOfSupplementary_4cfef : ByteArray := prog_25_method_49_code
def yJ2_indexOfSupplementary_4cfef : MethodName := ⟨RJ2, "indexOfSupplementary", "([BIII)I"⟩
abbrev cJ2_charAt_3b067 : ByteArray := prog_25_method_83_code
def yJ2_charAt_3b067 : MethodName := ⟨RJ2, "charAt", "([BI)C"⟩
abbrev cJ2_checkIndex_2214a : ByteArray := prog_25_method_91_code
def yJ2_checkIndex_2214a : MethodName := ⟨RJ2, "checkIndex", "(I[B)V"⟩
abbrev cJ2_checkBoundsBeginEnd_d044e : ByteArray := prog_25_method_93_code
def yJ2_checkBoundsBeginEnd_d044e : MethodName := ⟨RJ2, "checkBoundsBeginEnd", "(II[B)V"⟩
def RJ10 : String := "java/lang/System"
def RJxfd54e : String := "java/lang/constant/Constable"
def RJx3cf43 : String := "java/lang/constant/ConstantDesc"
def RJ3 : String := "jdk/internal/util/Preconditions"
abbrev cJ3_checkIndex_8e157 : ByteArray := prog_31_method_11_code
def yJ3_checkIndex_8e157 : MethodName := ⟨RJ3, "checkIndex", "(IILjava/util/function/BiFunction;)I"⟩
abbrev cJ3_checkFromToIndex_8c36e : ByteArray := prog_31_method_12_code
def yJ3_checkFromToIndex_8c36e : MethodName := ⟨RJ3, "checkFromToIndex", "(IIILjava/util/function/BiFunction;)I"⟩
def RL : String := "BuoyVoteLaw"
abbrev cL_buoy : ByteArray := method_3_code
def yL_buoy : MethodName := ⟨RL, "buoy", "(LBuoyVote;II[J)I"⟩
abbrev cL_law : ByteArray := code
def yL_law : MethodName := ⟨RL, "law", "([I)Z"⟩
theorem dX0_init_0 : decode cX0_init 0 = .ok (.aload_n 0, 1) := by decide +kernel
theorem dX0_init_1 : decode cX0_init 1 = .ok (.invokespecial 5, 3) := by decide +kernel
theorem dX0_init_4 : decode cX0_init 4 = .ok (.aload_n 0, 1) := by decide +kernel
theorem dX0_init_5 : decode cX0_init 5 = .ok (.bipush 80, 2) := by decide +kernel
theorem dX0_init_7 : decode cX0_init 7 = .ok (.newarray .int, 2) := by decide +kernel
theorem dX0_init_9 : decode cX0_init 9 = .ok (.putfield 11, 3) := by decide +kernel
theorem dX0_init_12 : decode cX0_init 12 = .ok (.return_, 1) := by decide +kernel
theorem dX0_faultOf_0 : decode cX0_faultOf 0 = .ok (.aload_n 0, 1) := by decide +kernel
theorem dX0_faultOf_1 : decode cX0_faultOf 1 = .ok (.iconst 0, 1) := by decide +kernel
theorem dX0_faultOf_2 : decode cX0_faultOf 2 = .ok (.putfield 21, 3) := by decide +kernel
theorem dX0_faultOf_5 : decode cX0_faultOf 5 = .ok (.aload_n 0, 1) := by decide +kernel
theorem dX0_faultOf_6 : decode cX0_faultOf 6 = .ok (.iconst 0, 1) := by decide +kernel
theorem dX0_faultOf_7 : decode cX0_faultOf 7 = .ok (.putfield 25, 3) := by decide +kernel
theorem dX0_faultOf_10 : decode cX0_faultOf 10 = .ok (.aload_n 0, 1) := by decide +kernel
theorem dX0_faultOf_11 : decode cX0_faultOf 11 = .ok (.iconst 0, 1) := by decide +kernel
theorem dX0_faultOf_12 : decode cX0_faultOf 12 = .ok (.putfield 28, 3) := by decide +kernel
theorem dX0_faultOf_15 : decode cX0_faultOf 15 = .ok (.aload_n 0, 1) := by decide +kernel
theorem dX0_faultOf_16 : decode cX0_faultOf 16 = .ok (.iconst 0, 1) := by decide +kernel
theorem dX0_faultOf_17 : decode cX0_faultOf 17 = .ok (.iconst 0, 1) := by decide +kernel
theorem dX0_faultOf_18 : decode cX0_faultOf 18 = .ok (.invokevirtual 32, 3) := by decide +kernel
theorem dX0_faultOf_21 : decode cX0_faultOf 21 = .ok (.aload_n 1, 1) := by decide +kernel
theorem dX0_faultOf_22 : decode cX0_faultOf 22 = .ok (.invokevirtual 36, 3) := by decide +kernel
theorem dX0_faultOf_25 : decode cX0_faultOf 25 = .ok (.iconst 0, 1) := by decide +kernel
theorem dX0_faultOf_26 : decode cX0_faultOf 26 = .ok (.istore_n 2, 1) := by decide +kernel
theorem dX0_faultOf_27 : decode cX0_faultOf 27 = .ok (.iload_n 2, 1) := by decide +kernel
theorem dX0_faultOf_28 : decode cX0_faultOf 28 = .ok (.sipush 240, 3) := by decide +kernel
theorem dX0_faultOf_31 : decode cX0_faultOf 31 = .ok (.if_icmp .ge 26, 3) := by decide +kernel
theorem dX0_faultOf_34 : decode cX0_faultOf 34 = .ok (.aload_n 0, 1) := by decide +kernel
theorem dX0_faultOf_35 : decode cX0_faultOf 35 = .ok (.aload_n 1, 1) := by decide +kernel
theorem dX0_faultOf_36 : decode cX0_faultOf 36 = .ok (.invokevirtual 41, 3) := by decide +kernel
theorem dX0_faultOf_39 : decode cX0_faultOf 39 = .ok (.aload_n 1, 1) := by decide +kernel
theorem dX0_faultOf_40 : decode cX0_faultOf 40 = .ok (.bipush 59, 2) := by decide +kernel
theorem dX0_faultOf_42 : decode cX0_faultOf 42 = .ok (.invokevirtual 45, 3) := by decide +kernel
theorem dX0_faultOf_45 : decode cX0_faultOf 45 = .ok (.ifCond .ne 6, 3) := by decide +kernel
theorem dX0_faultOf_48 : decode cX0_faultOf 48 = .ok (.goto 9, 3) := by decide +kernel
theorem dX0_faultOf_57 : decode cX0_faultOf 57 = .ok (.aload_n 1, 1) := by decide +kernel
theorem dX0_faultOf_58 : decode cX0_faultOf 58 = .ok (.invokevirtual 49, 3) := by decide +kernel
theorem dX0_faultOf_61 : decode cX0_faultOf 61 = .ok (.aload_n 1, 1) := by decide +kernel
theorem dX0_faultOf_62 : decode cX0_faultOf 62 = .ok (.invokevirtual 52, 3) := by decide +kernel
theorem dX0_faultOf_65 : decode cX0_faultOf 65 = .ok (.ifCond .eq 18, 3) := by decide +kernel
theorem dX0_faultOf_83 : decode cX0_faultOf 83 = .ok (.aload_n 1, 1) := by decide +kernel
theorem dX0_faultOf_84 : decode cX0_faultOf 84 = .ok (.invokevirtual 66, 3) := by decide +kernel
theorem dX0_faultOf_87 : decode cX0_faultOf 87 = .ok (.ireturn, 1) := by decide +kernel
theorem dX0_readClause_0 : decode cX0_readClause 0 = .ok (.ldc 70, 2) := by decide +kernel
theorem dX0_readClause_2 : decode cX0_readClause 2 = .ok (.aload_n 1, 1) := by decide +kernel
theorem dX0_readClause_3 : decode cX0_readClause 3 = .ok (.invokevirtual 72, 3) := by decide +kernel
theorem dX0_readClause_6 : decode cX0_readClause 6 = .ok (.invokestatic 75, 3) := by decide +kernel
theorem dX0_readClause_9 : decode cX0_readClause 9 = .ok (.istore_n 2, 1) := by decide +kernel
theorem dX0_readClause_10 : decode cX0_readClause 10 = .ok (.iload_n 2, 1) := by decide +kernel
theorem dX0_readClause_11 : decode cX0_readClause 11 = .ok (.ifCond .lt 11, 3) := by decide +kernel
theorem dX0_readClause_22 : decode cX0_readClause 22 = .ok (.aload_n 1, 1) := by decide +kernel
theorem dX0_readClause_23 : decode cX0_readClause 23 = .ok (.invokevirtual 82, 3) := by decide +kernel
theorem dX0_readClause_26 : decode cX0_readClause 26 = .ok (.return_, 1) := by decide +kernel
theorem dX0_setUsual_0 : decode cX0_setUsual 0 = .ok (.iload_n 1, 1) := by decide +kernel
theorem dX0_setUsual_1 : decode cX0_setUsual 1 = .ok (.invokestatic 92, 3) := by decide +kernel
theorem dX0_setUsual_4 : decode cX0_setUsual 4 = .ok (.invokevirtual 96, 3) := by decide +kernel
theorem dX0_setUsual_7 : decode cX0_setUsual 7 = .ok (.istore_n 3, 1) := by decide +kernel
theorem dX0_setUsual_8 : decode cX0_setUsual 8 = .ok (.iconst 0, 1) := by decide +kernel
theorem dX0_setUsual_9 : decode cX0_setUsual 9 = .ok (.istore 4, 2) := by decide +kernel
theorem dX0_setUsual_11 : decode cX0_setUsual 11 = .ok (.iload 4, 2) := by decide +kernel
theorem dX0_setUsual_13 : decode cX0_setUsual 13 = .ok (.iload_n 3, 1) := by decide +kernel
theorem dX0_setUsual_14 : decode cX0_setUsual 14 = .ok (.if_icmp .ge 30, 3) := by decide +kernel
theorem dX0_setUsual_17 : decode cX0_setUsual 17 = .ok (.aload_n 0, 1) := by decide +kernel
theorem dX0_setUsual_18 : decode cX0_setUsual 18 = .ok (.getfield 11, 3) := by decide +kernel
theorem dX0_setUsual_21 : decode cX0_setUsual 21 = .ok (.iload_n 2, 1) := by decide +kernel
theorem dX0_setUsual_22 : decode cX0_setUsual 22 = .ok (.iload 4, 2) := by decide +kernel
theorem dX0_setUsual_24 : decode cX0_setUsual 24 = .ok (.iadd, 1) := by decide +kernel
theorem dX0_setUsual_25 : decode cX0_setUsual 25 = .ok (.getstatic 113, 3) := by decide +kernel
theorem dX0_setUsual_28 : decode cX0_setUsual 28 = .ok (.getstatic 103, 3) := by decide +kernel
theorem dX0_setUsual_31 : decode cX0_setUsual 31 = .ok (.iload_n 1, 1) := by decide +kernel
theorem dX0_setUsual_32 : decode cX0_setUsual 32 = .ok (.iaload, 1) := by decide +kernel
theorem dX0_setUsual_33 : decode cX0_setUsual 33 = .ok (.iload 4, 2) := by decide +kernel
theorem dX0_setUsual_35 : decode cX0_setUsual 35 = .ok (.iadd, 1) := by decide +kernel
theorem dX0_setUsual_36 : decode cX0_setUsual 36 = .ok (.iaload, 1) := by decide +kernel
theorem dX0_setUsual_37 : decode cX0_setUsual 37 = .ok (.iastore, 1) := by decide +kernel
theorem dX0_setUsual_38 : decode cX0_setUsual 38 = .ok (.iinc 4 1, 3) := by decide +kernel
theorem dX0_setUsual_41 : decode cX0_setUsual 41 = .ok (.goto (-30), 3) := by decide +kernel
theorem dX0_setUsual_44 : decode cX0_setUsual 44 = .ok (.return_, 1) := by decide +kernel
theorem dX0_lettersOf_0 : decode cX0_lettersOf 0 = .ok (.iload_n 0, 1) := by decide +kernel
theorem dX0_lettersOf_1 : decode cX0_lettersOf 1 = .ok (.ifCond .ne 6, 3) := by decide +kernel
theorem dX0_lettersOf_4 : decode cX0_lettersOf 4 = .ok (.ldc 122, 2) := by decide +kernel
theorem dX0_lettersOf_6 : decode cX0_lettersOf 6 = .ok (.areturn, 1) := by decide +kernel
theorem dX0_placeIn_0 : decode cX0_placeIn 0 = .ok (.iload_n 1, 1) := by decide +kernel
theorem dX0_placeIn_1 : decode cX0_placeIn 1 = .ok (.ifCond .ge 7, 3) := by decide +kernel
theorem dX0_placeIn_4 : decode cX0_placeIn 4 = .ok (.iconst (-1), 1) := by decide +kernel
theorem dX0_placeIn_5 : decode cX0_placeIn 5 = .ok (.goto 9, 3) := by decide +kernel
theorem dX0_placeIn_14 : decode cX0_placeIn 14 = .ok (.ireturn, 1) := by decide +kernel
theorem dX1_init_0 : decode cX1_init 0 = .ok (.aload_n 0, 1) := by decide +kernel
theorem dX1_init_1 : decode cX1_init 1 = .ok (.invokespecial 3, 3) := by decide +kernel
theorem dX1_init_4 : decode cX1_init 4 = .ok (.aload_n 0, 1) := by decide +kernel
theorem dX1_init_5 : decode cX1_init 5 = .ok (.aload_n 1, 1) := by decide +kernel
theorem dX1_init_6 : decode cX1_init 6 = .ok (.putfield 9, 3) := by decide +kernel
theorem dX1_init_9 : decode cX1_init 9 = .ok (.aload_n 0, 1) := by decide +kernel
theorem dX1_init_10 : decode cX1_init 10 = .ok (.bipush 8, 2) := by decide +kernel
theorem dX1_init_12 : decode cX1_init 12 = .ok (.newarray .int, 2) := by decide +kernel
theorem dX1_init_14 : decode cX1_init 14 = .ok (.putfield 15, 3) := by decide +kernel
theorem dX1_init_17 : decode cX1_init 17 = .ok (.aload_n 0, 1) := by decide +kernel
theorem dX1_init_18 : decode cX1_init 18 = .ok (.bipush 64, 2) := by decide +kernel
theorem dX1_init_20 : decode cX1_init 20 = .ok (.newarray .int, 2) := by decide +kernel
theorem dX1_init_22 : decode cX1_init 22 = .ok (.putfield 19, 3) := by decide +kernel
theorem dX1_init_25 : decode cX1_init 25 = .ok (.aload_n 0, 1) := by decide +kernel
theorem dX1_init_26 : decode cX1_init 26 = .ok (.sipush 2048, 3) := by decide +kernel
theorem dX1_init_29 : decode cX1_init 29 = .ok (.newarray .int, 2) := by decide +kernel
theorem dX1_init_31 : decode cX1_init 31 = .ok (.putfield 22, 3) := by decide +kernel
theorem dX1_init_34 : decode cX1_init 34 = .ok (.return_, 1) := by decide +kernel
theorem dX2_init_0 : decode cX2_init 0 = .ok (.aload_n 0, 1) := by decide +kernel
theorem dX2_init_1 : decode cX2_init 1 = .ok (.invokespecial 3, 3) := by decide +kernel
theorem dX2_init_4 : decode cX2_init 4 = .ok (.aload_n 0, 1) := by decide +kernel
theorem dX2_init_5 : decode cX2_init 5 = .ok (.aload_n 1, 1) := by decide +kernel
theorem dX2_init_6 : decode cX2_init 6 = .ok (.putfield 9, 3) := by decide +kernel
theorem dX2_init_9 : decode cX2_init 9 = .ok (.aload_n 0, 1) := by decide +kernel
theorem dX2_init_10 : decode cX2_init 10 = .ok (.aload_n 2, 1) := by decide +kernel
theorem dX2_init_11 : decode cX2_init 11 = .ok (.putfield 15, 3) := by decide +kernel
theorem dX2_init_14 : decode cX2_init 14 = .ok (.aload_n 0, 1) := by decide +kernel
theorem dX2_init_15 : decode cX2_init 15 = .ok (.bipush 64, 2) := by decide +kernel
theorem dX2_init_17 : decode cX2_init 17 = .ok (.newarray .int, 2) := by decide +kernel
theorem dX2_init_19 : decode cX2_init 19 = .ok (.putfield 19, 3) := by decide +kernel
theorem dX2_init_22 : decode cX2_init 22 = .ok (.aload_n 0, 1) := by decide +kernel
theorem dX2_init_23 : decode cX2_init 23 = .ok (.bipush 64, 2) := by decide +kernel
theorem dX2_init_25 : decode cX2_init 25 = .ok (.newarray .int, 2) := by decide +kernel
theorem dX2_init_27 : decode cX2_init 27 = .ok (.putfield 23, 3) := by decide +kernel
theorem dX2_init_30 : decode cX2_init 30 = .ok (.aload_n 0, 1) := by decide +kernel
theorem dX2_init_31 : decode cX2_init 31 = .ok (.bipush 64, 2) := by decide +kernel
theorem dX2_init_33 : decode cX2_init 33 = .ok (.newarray .int, 2) := by decide +kernel
theorem dX2_init_35 : decode cX2_init 35 = .ok (.putfield 26, 3) := by decide +kernel
theorem dX2_init_38 : decode cX2_init 38 = .ok (.aload_n 0, 1) := by decide +kernel
theorem dX2_init_39 : decode cX2_init 39 = .ok (.bipush 64, 2) := by decide +kernel
theorem dX2_init_41 : decode cX2_init 41 = .ok (.newarray .int, 2) := by decide +kernel
theorem dX2_init_43 : decode cX2_init 43 = .ok (.putfield 29, 3) := by decide +kernel
theorem dX2_init_46 : decode cX2_init 46 = .ok (.return_, 1) := by decide +kernel
theorem dX3_init_0 : decode cX3_init 0 = .ok (.aload_n 0, 1) := by decide +kernel
theorem dX3_init_1 : decode cX3_init 1 = .ok (.invokespecial 5, 3) := by decide +kernel
theorem dX3_init_4 : decode cX3_init 4 = .ok (.aload_n 0, 1) := by decide +kernel
theorem dX3_init_5 : decode cX3_init 5 = .ok (.bipush 40, 2) := by decide +kernel
theorem dX3_init_7 : decode cX3_init 7 = .ok (.anewarray 11, 3) := by decide +kernel
theorem dX3_init_10 : decode cX3_init 10 = .ok (.putfield 13, 3) := by decide +kernel
theorem dX3_init_13 : decode cX3_init 13 = .ok (.iconst 0, 1) := by decide +kernel
theorem dX3_init_14 : decode cX3_init 14 = .ok (.istore_n 1, 1) := by decide +kernel
theorem dX3_init_15 : decode cX3_init 15 = .ok (.iload_n 1, 1) := by decide +kernel
theorem dX3_init_16 : decode cX3_init 16 = .ok (.bipush 40, 2) := by decide +kernel
theorem dX3_init_18 : decode cX3_init 18 = .ok (.if_icmp .ge 22, 3) := by decide +kernel
theorem dX3_init_21 : decode cX3_init 21 = .ok (.aload_n 0, 1) := by decide +kernel
theorem dX3_init_22 : decode cX3_init 22 = .ok (.getfield 13, 3) := by decide +kernel
theorem dX3_init_25 : decode cX3_init 25 = .ok (.iload_n 1, 1) := by decide +kernel
theorem dX3_init_26 : decode cX3_init 26 = .ok (.new 11, 3) := by decide +kernel
theorem dX3_init_29 : decode cX3_init 29 = .ok (.dup, 1) := by decide +kernel
theorem dX3_init_30 : decode cX3_init 30 = .ok (.invokespecial 17, 3) := by decide +kernel
theorem dX3_init_33 : decode cX3_init 33 = .ok (.aastore, 1) := by decide +kernel
theorem dX3_init_34 : decode cX3_init 34 = .ok (.iinc 1 1, 3) := by decide +kernel
theorem dX3_init_37 : decode cX3_init 37 = .ok (.goto (-22), 3) := by decide +kernel
theorem dX3_init_40 : decode cX3_init 40 = .ok (.aload_n 0, 1) := by decide +kernel
theorem dX3_init_41 : decode cX3_init 41 = .ok (.sipush 300, 3) := by decide +kernel
theorem dX3_init_44 : decode cX3_init 44 = .ok (.newarray .int, 2) := by decide +kernel
theorem dX3_init_46 : decode cX3_init 46 = .ok (.putfield 18, 3) := by decide +kernel
theorem dX3_init_49 : decode cX3_init 49 = .ok (.aload_n 0, 1) := by decide +kernel
theorem dX3_init_50 : decode cX3_init 50 = .ok (.new 11, 3) := by decide +kernel
theorem dX3_init_53 : decode cX3_init 53 = .ok (.dup, 1) := by decide +kernel
theorem dX3_init_54 : decode cX3_init 54 = .ok (.invokespecial 17, 3) := by decide +kernel
theorem dX3_init_57 : decode cX3_init 57 = .ok (.putfield 22, 3) := by decide +kernel
theorem dX3_init_60 : decode cX3_init 60 = .ok (.aload_n 0, 1) := by decide +kernel
theorem dX3_init_61 : decode cX3_init 61 = .ok (.sipush 300, 3) := by decide +kernel
theorem dX3_init_64 : decode cX3_init 64 = .ok (.newarray .int, 2) := by decide +kernel
theorem dX3_init_66 : decode cX3_init 66 = .ok (.putfield 26, 3) := by decide +kernel
theorem dX3_init_69 : decode cX3_init 69 = .ok (.return_, 1) := by decide +kernel
theorem dX3_takeBack_0 : decode cX3_takeBack 0 = .ok (.aload_n 0, 1) := by decide +kernel
theorem dX3_takeBack_1 : decode cX3_takeBack 1 = .ok (.getfield 33, 3) := by decide +kernel
theorem dX3_takeBack_4 : decode cX3_takeBack 4 = .ok (.ifCond .ne 5, 3) := by decide +kernel
theorem dX3_takeBack_7 : decode cX3_takeBack 7 = .ok (.iconst 0, 1) := by decide +kernel
theorem dX3_takeBack_8 : decode cX3_takeBack 8 = .ok (.ireturn, 1) := by decide +kernel
theorem dX3_showImage_0 : decode cX3_showImage 0 = .ok (.aload_n 0, 1) := by decide +kernel
theorem dX3_showImage_1 : decode cX3_showImage 1 = .ok (.getfield 36, 3) := by decide +kernel
theorem dX3_showImage_4 : decode cX3_showImage 4 = .ok (.ifCond .ne 5, 3) := by decide +kernel
theorem dX3_showImage_7 : decode cX3_showImage 7 = .ok (.iconst 0, 1) := by decide +kernel
theorem dX3_showImage_8 : decode cX3_showImage 8 = .ok (.ireturn, 1) := by decide +kernel
theorem dX4_init_0 : decode cX4_init 0 = .ok (.aload_n 0, 1) := by decide +kernel
theorem dX4_init_1 : decode cX4_init 1 = .ok (.invokespecial 3, 3) := by decide +kernel
theorem dX4_init_4 : decode cX4_init 4 = .ok (.aload_n 0, 1) := by decide +kernel
theorem dX4_init_5 : decode cX4_init 5 = .ok (.sipush 240, 3) := by decide +kernel
theorem dX4_init_8 : decode cX4_init 8 = .ok (.newarray .int, 2) := by decide +kernel
theorem dX4_init_10 : decode cX4_init 10 = .ok (.putfield 11, 3) := by decide +kernel
theorem dX4_init_13 : decode cX4_init 13 = .ok (.aload_n 0, 1) := by decide +kernel
theorem dX4_init_14 : decode cX4_init 14 = .ok (.bipush 64, 2) := by decide +kernel
theorem dX4_init_16 : decode cX4_init 16 = .ok (.newarray .int, 2) := by decide +kernel
theorem dX4_init_18 : decode cX4_init 18 = .ok (.putfield 17, 3) := by decide +kernel
theorem dX4_init_21 : decode cX4_init 21 = .ok (.return_, 1) := by decide +kernel
theorem dX4_faultOf_0 : decode cX4_faultOf 0 = .ok (.aload_n 0, 1) := by decide +kernel
theorem dX4_faultOf_1 : decode cX4_faultOf 1 = .ok (.iconst 0, 1) := by decide +kernel
theorem dX4_faultOf_2 : decode cX4_faultOf 2 = .ok (.putfield 20, 3) := by decide +kernel
theorem dX4_faultOf_5 : decode cX4_faultOf 5 = .ok (.aload_n 1, 1) := by decide +kernel
theorem dX4_faultOf_6 : decode cX4_faultOf 6 = .ok (.invokevirtual 34, 3) := by decide +kernel
theorem dX4_faultOf_9 : decode cX4_faultOf 9 = .ok (.iconst 0, 1) := by decide +kernel
theorem dX4_faultOf_10 : decode cX4_faultOf 10 = .ok (.istore_n 2, 1) := by decide +kernel
theorem dX4_faultOf_11 : decode cX4_faultOf 11 = .ok (.iload_n 2, 1) := by decide +kernel
theorem dX4_faultOf_12 : decode cX4_faultOf 12 = .ok (.sipush 240, 3) := by decide +kernel
theorem dX4_faultOf_15 : decode cX4_faultOf 15 = .ok (.if_icmp .ge 104, 3) := by decide +kernel
theorem dX4_faultOf_18 : decode cX4_faultOf 18 = .ok (.aload_n 1, 1) := by decide +kernel
theorem dX4_faultOf_19 : decode cX4_faultOf 19 = .ok (.bipush 121, 2) := by decide +kernel
theorem dX4_faultOf_21 : decode cX4_faultOf 21 = .ok (.invokevirtual 37, 3) := by decide +kernel
theorem dX4_faultOf_24 : decode cX4_faultOf 24 = .ok (.aload_n 1, 1) := by decide +kernel
theorem dX4_faultOf_25 : decode cX4_faultOf 25 = .ok (.bipush 58, 2) := by decide +kernel
theorem dX4_faultOf_27 : decode cX4_faultOf 27 = .ok (.invokevirtual 37, 3) := by decide +kernel
theorem dX4_faultOf_30 : decode cX4_faultOf 30 = .ok (.aload_n 1, 1) := by decide +kernel
theorem dX4_faultOf_31 : decode cX4_faultOf 31 = .ok (.invokevirtual 41, 3) := by decide +kernel
theorem dX4_faultOf_34 : decode cX4_faultOf 34 = .ok (.invokestatic 45, 3) := by decide +kernel
theorem dX4_faultOf_37 : decode cX4_faultOf 37 = .ok (.ifCond .ne 7, 3) := by decide +kernel
theorem dX4_faultOf_40 : decode cX4_faultOf 40 = .ok (.iconst 1, 1) := by decide +kernel
theorem dX4_faultOf_41 : decode cX4_faultOf 41 = .ok (.goto 4, 3) := by decide +kernel
theorem dX4_faultOf_45 : decode cX4_faultOf 45 = .ok (.istore_n 3, 1) := by decide +kernel
theorem dX4_faultOf_46 : decode cX4_faultOf 46 = .ok (.iload_n 3, 1) := by decide +kernel
theorem dX4_faultOf_47 : decode cX4_faultOf 47 = .ok (.ifCond .eq 9, 3) := by decide +kernel
theorem dX4_faultOf_50 : decode cX4_faultOf 50 = .ok (.aload_n 0, 1) := by decide +kernel
theorem dX4_faultOf_51 : decode cX4_faultOf 51 = .ok (.aload_n 1, 1) := by decide +kernel
theorem dX4_faultOf_52 : decode cX4_faultOf 52 = .ok (.iconst 0, 1) := by decide +kernel
theorem dX4_faultOf_53 : decode cX4_faultOf 53 = .ok (.invokevirtual 49, 3) := by decide +kernel
theorem dX4_faultOf_56 : decode cX4_faultOf 56 = .ok (.iload_n 3, 1) := by decide +kernel
theorem dX4_faultOf_57 : decode cX4_faultOf 57 = .ok (.ifCond .eq 13, 3) := by decide +kernel
theorem dX4_faultOf_60 : decode cX4_faultOf 60 = .ok (.aload_n 1, 1) := by decide +kernel
theorem dX4_faultOf_61 : decode cX4_faultOf 61 = .ok (.invokevirtual 41, 3) := by decide +kernel
theorem dX4_faultOf_64 : decode cX4_faultOf 64 = .ok (.invokestatic 53, 3) := by decide +kernel
theorem dX4_faultOf_67 : decode cX4_faultOf 67 = .ok (.ifCond .eq 28, 3) := by decide +kernel
theorem dX4_faultOf_95 : decode cX4_faultOf 95 = .ok (.aload_n 0, 1) := by decide +kernel
theorem dX4_faultOf_96 : decode cX4_faultOf 96 = .ok (.bipush (-59), 2) := by decide +kernel
theorem dX4_faultOf_98 : decode cX4_faultOf 98 = .ok (.invokevirtual 60, 3) := by decide +kernel
theorem dX4_faultOf_101 : decode cX4_faultOf 101 = .ok (.aload_n 1, 1) := by decide +kernel
theorem dX4_faultOf_102 : decode cX4_faultOf 102 = .ok (.bipush 59, 2) := by decide +kernel
theorem dX4_faultOf_104 : decode cX4_faultOf 104 = .ok (.invokevirtual 63, 3) := by decide +kernel
theorem dX4_faultOf_107 : decode cX4_faultOf 107 = .ok (.ifCond .ne 6, 3) := by decide +kernel
theorem dX4_faultOf_110 : decode cX4_faultOf 110 = .ok (.goto 9, 3) := by decide +kernel
theorem dX4_faultOf_119 : decode cX4_faultOf 119 = .ok (.aload_n 1, 1) := by decide +kernel
theorem dX4_faultOf_120 : decode cX4_faultOf 120 = .ok (.invokevirtual 66, 3) := by decide +kernel
theorem dX4_faultOf_123 : decode cX4_faultOf 123 = .ok (.aload_n 1, 1) := by decide +kernel
theorem dX4_faultOf_124 : decode cX4_faultOf 124 = .ok (.invokevirtual 69, 3) := by decide +kernel
theorem dX4_faultOf_127 : decode cX4_faultOf 127 = .ok (.ireturn, 1) := by decide +kernel
theorem dX4_readSum_0 : decode cX4_readSum 0 = .ok (.iconst 0, 1) := by decide +kernel
theorem dX4_readSum_1 : decode cX4_readSum 1 = .ok (.istore_n 3, 1) := by decide +kernel
theorem dX4_readSum_2 : decode cX4_readSum 2 = .ok (.iconst 0, 1) := by decide +kernel
theorem dX4_readSum_3 : decode cX4_readSum 3 = .ok (.istore 4, 2) := by decide +kernel
theorem dX4_readSum_5 : decode cX4_readSum 5 = .ok (.iconst 0, 1) := by decide +kernel
theorem dX4_readSum_6 : decode cX4_readSum 6 = .ok (.istore 5, 2) := by decide +kernel
theorem dX4_readSum_8 : decode cX4_readSum 8 = .ok (.iload 5, 2) := by decide +kernel
theorem dX4_readSum_10 : decode cX4_readSum 10 = .ok (.sipush 240, 3) := by decide +kernel
theorem dX4_readSum_13 : decode cX4_readSum 13 = .ok (.if_icmp .ge 73, 3) := by decide +kernel
theorem dX4_readSum_16 : decode cX4_readSum 16 = .ok (.aload_n 1, 1) := by decide +kernel
theorem dX4_readSum_17 : decode cX4_readSum 17 = .ok (.invokevirtual 72, 3) := by decide +kernel
theorem dX4_readSum_20 : decode cX4_readSum 20 = .ok (.ifCond .eq 66, 3) := by decide +kernel
theorem dX4_readSum_86 : decode cX4_readSum 86 = .ok (.return_, 1) := by decide +kernel
theorem dX4_emit_0 : decode cX4_emit 0 = .ok (.aload_n 0, 1) := by decide +kernel
theorem dX4_emit_1 : decode cX4_emit 1 = .ok (.getfield 20, 3) := by decide +kernel
theorem dX4_emit_4 : decode cX4_emit 4 = .ok (.aload_n 0, 1) := by decide +kernel
theorem dX4_emit_5 : decode cX4_emit 5 = .ok (.getfield 11, 3) := by decide +kernel
theorem dX4_emit_8 : decode cX4_emit 8 = .ok (.arraylength, 1) := by decide +kernel
theorem dX4_emit_9 : decode cX4_emit 9 = .ok (.if_icmp .ge 23, 3) := by decide +kernel
theorem dX4_emit_12 : decode cX4_emit 12 = .ok (.aload_n 0, 1) := by decide +kernel
theorem dX4_emit_13 : decode cX4_emit 13 = .ok (.getfield 11, 3) := by decide +kernel
theorem dX4_emit_16 : decode cX4_emit 16 = .ok (.aload_n 0, 1) := by decide +kernel
theorem dX4_emit_17 : decode cX4_emit 17 = .ok (.getfield 20, 3) := by decide +kernel
theorem dX4_emit_20 : decode cX4_emit 20 = .ok (.iload_n 1, 1) := by decide +kernel
theorem dX4_emit_21 : decode cX4_emit 21 = .ok (.iastore, 1) := by decide +kernel
theorem dX4_emit_22 : decode cX4_emit 22 = .ok (.aload_n 0, 1) := by decide +kernel
theorem dX4_emit_23 : decode cX4_emit 23 = .ok (.dup, 1) := by decide +kernel
theorem dX4_emit_24 : decode cX4_emit 24 = .ok (.getfield 20, 3) := by decide +kernel
theorem dX4_emit_27 : decode cX4_emit 27 = .ok (.iconst 1, 1) := by decide +kernel
theorem dX4_emit_28 : decode cX4_emit 28 = .ok (.iadd, 1) := by decide +kernel
theorem dX4_emit_29 : decode cX4_emit 29 = .ok (.putfield 20, 3) := by decide +kernel
theorem dX4_emit_32 : decode cX4_emit 32 = .ok (.return_, 1) := by decide +kernel
theorem dX4_startsUnit_0 : decode cX4_startsUnit 0 = .ok (.iload_n 0, 1) := by decide +kernel
theorem dX4_startsUnit_1 : decode cX4_startsUnit 1 = .ok (.bipush 33, 2) := by decide +kernel
theorem dX4_startsUnit_3 : decode cX4_startsUnit 3 = .ok (.if_icmp .eq 9, 3) := by decide +kernel
theorem dX4_startsUnit_6 : decode cX4_startsUnit 6 = .ok (.iload_n 0, 1) := by decide +kernel
theorem dX4_startsUnit_7 : decode cX4_startsUnit 7 = .ok (.bipush 40, 2) := by decide +kernel
theorem dX4_startsUnit_9 : decode cX4_startsUnit 9 = .ok (.if_icmp .ne 7, 3) := by decide +kernel
theorem dX4_startsUnit_16 : decode cX4_startsUnit 16 = .ok (.iconst 0, 1) := by decide +kernel
theorem dX4_startsUnit_17 : decode cX4_startsUnit 17 = .ok (.ireturn, 1) := by decide +kernel
theorem dX4_isComparison_0 : decode cX4_isComparison 0 = .ok (.iload_n 0, 1) := by decide +kernel
theorem dX4_isComparison_1 : decode cX4_isComparison 1 = .ok (.bipush 61, 2) := by decide +kernel
theorem dX4_isComparison_3 : decode cX4_isComparison 3 = .ok (.if_icmp .eq 15, 3) := by decide +kernel
theorem dX4_isComparison_6 : decode cX4_isComparison 6 = .ok (.iload_n 0, 1) := by decide +kernel
theorem dX4_isComparison_7 : decode cX4_isComparison 7 = .ok (.bipush 60, 2) := by decide +kernel
theorem dX4_isComparison_9 : decode cX4_isComparison 9 = .ok (.if_icmp .eq 9, 3) := by decide +kernel
theorem dX4_isComparison_12 : decode cX4_isComparison 12 = .ok (.iload_n 0, 1) := by decide +kernel
theorem dX4_isComparison_13 : decode cX4_isComparison 13 = .ok (.bipush 62, 2) := by decide +kernel
theorem dX4_isComparison_15 : decode cX4_isComparison 15 = .ok (.if_icmp .ne 7, 3) := by decide +kernel
theorem dX4_isComparison_22 : decode cX4_isComparison 22 = .ok (.iconst 0, 1) := by decide +kernel
theorem dX4_isComparison_23 : decode cX4_isComparison 23 = .ok (.ireturn, 1) := by decide +kernel
theorem dX5_init_0 : decode cX5_init 0 = .ok (.aload_n 0, 1) := by decide +kernel
theorem dX5_init_1 : decode cX5_init 1 = .ok (.invokespecial 3, 3) := by decide +kernel
theorem dX5_init_4 : decode cX5_init 4 = .ok (.aload_n 0, 1) := by decide +kernel
theorem dX5_init_5 : decode cX5_init 5 = .ok (.iconst 5, 1) := by decide +kernel
theorem dX5_init_6 : decode cX5_init 6 = .ok (.anewarray 9, 3) := by decide +kernel
theorem dX5_init_9 : decode cX5_init 9 = .ok (.putfield 11, 3) := by decide +kernel
theorem dX5_init_12 : decode cX5_init 12 = .ok (.iconst 0, 1) := by decide +kernel
theorem dX5_init_13 : decode cX5_init 13 = .ok (.istore_n 1, 1) := by decide +kernel
theorem dX5_init_14 : decode cX5_init 14 = .ok (.iload_n 1, 1) := by decide +kernel
theorem dX5_init_15 : decode cX5_init 15 = .ok (.aload_n 0, 1) := by decide +kernel
theorem dX5_init_16 : decode cX5_init 16 = .ok (.getfield 11, 3) := by decide +kernel
theorem dX5_init_19 : decode cX5_init 19 = .ok (.arraylength, 1) := by decide +kernel
theorem dX5_init_20 : decode cX5_init 20 = .ok (.if_icmp .ge 22, 3) := by decide +kernel
theorem dX5_init_23 : decode cX5_init 23 = .ok (.aload_n 0, 1) := by decide +kernel
theorem dX5_init_24 : decode cX5_init 24 = .ok (.getfield 11, 3) := by decide +kernel
theorem dX5_init_27 : decode cX5_init 27 = .ok (.iload_n 1, 1) := by decide +kernel
theorem dX5_init_28 : decode cX5_init 28 = .ok (.new 9, 3) := by decide +kernel
theorem dX5_init_31 : decode cX5_init 31 = .ok (.dup, 1) := by decide +kernel
theorem dX5_init_32 : decode cX5_init 32 = .ok (.invokespecial 17, 3) := by decide +kernel
theorem dX5_init_35 : decode cX5_init 35 = .ok (.aastore, 1) := by decide +kernel
theorem dX5_init_36 : decode cX5_init 36 = .ok (.iinc 1 1, 3) := by decide +kernel
theorem dX5_init_39 : decode cX5_init 39 = .ok (.goto (-25), 3) := by decide +kernel
theorem dX5_init_42 : decode cX5_init 42 = .ok (.aload_n 0, 1) := by decide +kernel
theorem dX5_init_43 : decode cX5_init 43 = .ok (.iconst (-1), 1) := by decide +kernel
theorem dX5_init_44 : decode cX5_init 44 = .ok (.putfield 18, 3) := by decide +kernel
theorem dX5_init_47 : decode cX5_init 47 = .ok (.aload_n 0, 1) := by decide +kernel
theorem dX5_init_48 : decode cX5_init 48 = .ok (.bipush 6, 2) := by decide +kernel
theorem dX5_init_50 : decode cX5_init 50 = .ok (.newarray .int, 2) := by decide +kernel
theorem dX5_init_52 : decode cX5_init 52 = .ok (.putfield 22, 3) := by decide +kernel
theorem dX5_init_55 : decode cX5_init 55 = .ok (.return_, 1) := by decide +kernel
theorem dX5_spare_0 : decode cX5_spare 0 = .ok (.aload_n 0, 1) := by decide +kernel
theorem dX5_spare_1 : decode cX5_spare 1 = .ok (.getfield 11, 3) := by decide +kernel
theorem dX5_spare_4 : decode cX5_spare 4 = .ok (.aload_n 0, 1) := by decide +kernel
theorem dX5_spare_5 : decode cX5_spare 5 = .ok (.getfield 26, 3) := by decide +kernel
theorem dX5_spare_8 : decode cX5_spare 8 = .ok (.aaload, 1) := by decide +kernel
theorem dX5_spare_9 : decode cX5_spare 9 = .ok (.areturn, 1) := by decide +kernel
theorem dX6_init_0 : decode cX6_init 0 = .ok (.aload_n 0, 1) := by decide +kernel
theorem dX6_init_1 : decode cX6_init 1 = .ok (.invokespecial 3, 3) := by decide +kernel
theorem dX6_init_4 : decode cX6_init 4 = .ok (.aload_n 0, 1) := by decide +kernel
theorem dX6_init_5 : decode cX6_init 5 = .ok (.bipush 64, 2) := by decide +kernel
theorem dX6_init_7 : decode cX6_init 7 = .ok (.newarray .int, 2) := by decide +kernel
theorem dX6_init_9 : decode cX6_init 9 = .ok (.putfield 11, 3) := by decide +kernel
theorem dX6_init_12 : decode cX6_init 12 = .ok (.return_, 1) := by decide +kernel
theorem dX6_faultOf_0 : decode cX6_faultOf 0 = .ok (.aload_n 0, 1) := by decide +kernel
theorem dX6_faultOf_1 : decode cX6_faultOf 1 = .ok (.iconst 0, 1) := by decide +kernel
theorem dX6_faultOf_2 : decode cX6_faultOf 2 = .ok (.putfield 15, 3) := by decide +kernel
theorem dX6_faultOf_5 : decode cX6_faultOf 5 = .ok (.aload_n 1, 1) := by decide +kernel
theorem dX6_faultOf_6 : decode cX6_faultOf 6 = .ok (.invokevirtual 19, 3) := by decide +kernel
theorem dX6_faultOf_9 : decode cX6_faultOf 9 = .ok (.iconst 0, 1) := by decide +kernel
theorem dX6_faultOf_10 : decode cX6_faultOf 10 = .ok (.istore_n 2, 1) := by decide +kernel
theorem dX6_faultOf_11 : decode cX6_faultOf 11 = .ok (.iload_n 2, 1) := by decide +kernel
theorem dX6_faultOf_12 : decode cX6_faultOf 12 = .ok (.bipush 16, 2) := by decide +kernel
theorem dX6_faultOf_14 : decode cX6_faultOf 14 = .ok (.if_icmp .ge 33, 3) := by decide +kernel
theorem dX6_faultOf_17 : decode cX6_faultOf 17 = .ok (.aload_n 0, 1) := by decide +kernel
theorem dX6_faultOf_18 : decode cX6_faultOf 18 = .ok (.aload_n 1, 1) := by decide +kernel
theorem dX6_faultOf_19 : decode cX6_faultOf 19 = .ok (.iload_n 2, 1) := by decide +kernel
theorem dX6_faultOf_20 : decode cX6_faultOf 20 = .ok (.invokevirtual 24, 3) := by decide +kernel
theorem dX6_faultOf_23 : decode cX6_faultOf 23 = .ok (.iload_n 2, 1) := by decide +kernel
theorem dX6_faultOf_24 : decode cX6_faultOf 24 = .ok (.bipush 15, 2) := by decide +kernel
theorem dX6_faultOf_26 : decode cX6_faultOf 26 = .ok (.if_icmp .eq 21, 3) := by decide +kernel
theorem dX6_faultOf_29 : decode cX6_faultOf 29 = .ok (.aload_n 1, 1) := by decide +kernel
theorem dX6_faultOf_30 : decode cX6_faultOf 30 = .ok (.bipush 59, 2) := by decide +kernel
theorem dX6_faultOf_32 : decode cX6_faultOf 32 = .ok (.invokevirtual 28, 3) := by decide +kernel
theorem dX6_faultOf_35 : decode cX6_faultOf 35 = .ok (.ifCond .ne 6, 3) := by decide +kernel
theorem dX6_faultOf_38 : decode cX6_faultOf 38 = .ok (.goto 9, 3) := by decide +kernel
theorem dX6_faultOf_47 : decode cX6_faultOf 47 = .ok (.aload_n 1, 1) := by decide +kernel
theorem dX6_faultOf_48 : decode cX6_faultOf 48 = .ok (.invokevirtual 32, 3) := by decide +kernel
theorem dX6_faultOf_51 : decode cX6_faultOf 51 = .ok (.aload_n 1, 1) := by decide +kernel
theorem dX6_faultOf_52 : decode cX6_faultOf 52 = .ok (.invokevirtual 35, 3) := by decide +kernel
theorem dX6_faultOf_55 : decode cX6_faultOf 55 = .ok (.ireturn, 1) := by decide +kernel
theorem dX6_readStep_0 : decode cX6_readStep 0 = .ok (.aload_n 1, 1) := by decide +kernel
theorem dX6_readStep_1 : decode cX6_readStep 1 = .ok (.invokevirtual 39, 3) := by decide +kernel
theorem dX6_readStep_4 : decode cX6_readStep 4 = .ok (.istore_n 3, 1) := by decide +kernel
theorem dX6_readStep_5 : decode cX6_readStep 5 = .ok (.iload_n 3, 1) := by decide +kernel
theorem dX6_readStep_6 : decode cX6_readStep 6 = .ok (.ifCond .ge 7, 3) := by decide +kernel
theorem dX6_readStep_9 : decode cX6_readStep 9 = .ok (.iconst (-1), 1) := by decide +kernel
theorem dX6_readStep_10 : decode cX6_readStep 10 = .ok (.goto 10, 3) := by decide +kernel
theorem dX6_readStep_20 : decode cX6_readStep 20 = .ok (.istore 4, 2) := by decide +kernel
theorem dX6_readStep_22 : decode cX6_readStep 22 = .ok (.iload 4, 2) := by decide +kernel
theorem dX6_readStep_24 : decode cX6_readStep 24 = .ok (.ifCond .ge 8, 3) := by decide +kernel
theorem dX6_readStep_27 : decode cX6_readStep 27 = .ok (.aload_n 1, 1) := by decide +kernel
theorem dX6_readStep_28 : decode cX6_readStep 28 = .ok (.invokevirtual 50, 3) := by decide +kernel
theorem dX6_readStep_31 : decode cX6_readStep 31 = .ok (.return_, 1) := by decide +kernel
theorem dX7_init_0 : decode cX7_init 0 = .ok (.aload_n 0, 1) := by decide +kernel
theorem dX7_init_1 : decode cX7_init 1 = .ok (.invokespecial 3, 3) := by decide +kernel
theorem dX7_init_4 : decode cX7_init 4 = .ok (.aload_n 0, 1) := by decide +kernel
theorem dX7_init_5 : decode cX7_init 5 = .ok (.iconst 3, 1) := by decide +kernel
theorem dX7_init_6 : decode cX7_init 6 = .ok (.newarray .int, 2) := by decide +kernel
theorem dX7_init_8 : decode cX7_init 8 = .ok (.putfield 9, 3) := by decide +kernel
theorem dX7_init_11 : decode cX7_init 11 = .ok (.aload_n 0, 1) := by decide +kernel
theorem dX7_init_12 : decode cX7_init 12 = .ok (.iconst 3, 1) := by decide +kernel
theorem dX7_init_13 : decode cX7_init 13 = .ok (.newarray .int, 2) := by decide +kernel
theorem dX7_init_15 : decode cX7_init 15 = .ok (.putfield 15, 3) := by decide +kernel
theorem dX7_init_18 : decode cX7_init 18 = .ok (.aload_n 0, 1) := by decide +kernel
theorem dX7_init_19 : decode cX7_init 19 = .ok (.iconst 3, 1) := by decide +kernel
theorem dX7_init_20 : decode cX7_init 20 = .ok (.newarray .int, 2) := by decide +kernel
theorem dX7_init_22 : decode cX7_init 22 = .ok (.putfield 18, 3) := by decide +kernel
theorem dX7_init_25 : decode cX7_init 25 = .ok (.aload_n 0, 1) := by decide +kernel
theorem dX7_init_26 : decode cX7_init 26 = .ok (.iconst 3, 1) := by decide +kernel
theorem dX7_init_27 : decode cX7_init 27 = .ok (.newarray .int, 2) := by decide +kernel
theorem dX7_init_29 : decode cX7_init 29 = .ok (.putfield 21, 3) := by decide +kernel
theorem dX7_init_32 : decode cX7_init 32 = .ok (.aload_n 0, 1) := by decide +kernel
theorem dX7_init_33 : decode cX7_init 33 = .ok (.iconst 3, 1) := by decide +kernel
theorem dX7_init_34 : decode cX7_init 34 = .ok (.newarray .int, 2) := by decide +kernel
theorem dX7_init_36 : decode cX7_init 36 = .ok (.putfield 24, 3) := by decide +kernel
theorem dX7_init_39 : decode cX7_init 39 = .ok (.aload_n 0, 1) := by decide +kernel
theorem dX7_init_40 : decode cX7_init 40 = .ok (.iconst 3, 1) := by decide +kernel
theorem dX7_init_41 : decode cX7_init 41 = .ok (.newarray .int, 2) := by decide +kernel
theorem dX7_init_43 : decode cX7_init 43 = .ok (.putfield 27, 3) := by decide +kernel
theorem dX7_init_46 : decode cX7_init 46 = .ok (.aload_n 0, 1) := by decide +kernel
theorem dX7_init_47 : decode cX7_init 47 = .ok (.bipush 24, 2) := by decide +kernel
theorem dX7_init_49 : decode cX7_init 49 = .ok (.newarray .int, 2) := by decide +kernel
theorem dX7_init_51 : decode cX7_init 51 = .ok (.putfield 30, 3) := by decide +kernel
theorem dX7_init_54 : decode cX7_init 54 = .ok (.aload_n 0, 1) := by decide +kernel
theorem dX7_init_55 : decode cX7_init 55 = .ok (.bipush 8, 2) := by decide +kernel
theorem dX7_init_57 : decode cX7_init 57 = .ok (.newarray .int, 2) := by decide +kernel
theorem dX7_init_59 : decode cX7_init 59 = .ok (.putfield 33, 3) := by decide +kernel
theorem dX7_init_62 : decode cX7_init 62 = .ok (.aload_n 0, 1) := by decide +kernel
theorem dX7_init_63 : decode cX7_init 63 = .ok (.bipush 8, 2) := by decide +kernel
theorem dX7_init_65 : decode cX7_init 65 = .ok (.newarray .int, 2) := by decide +kernel
theorem dX7_init_67 : decode cX7_init 67 = .ok (.putfield 36, 3) := by decide +kernel
theorem dX7_init_70 : decode cX7_init 70 = .ok (.return_, 1) := by decide +kernel
theorem dX7_logLength_0 : decode cX7_logLength 0 = .ok (.aload_n 0, 1) := by decide +kernel
theorem dX7_logLength_1 : decode cX7_logLength 1 = .ok (.getfield 58, 3) := by decide +kernel
theorem dX7_logLength_4 : decode cX7_logLength 4 = .ok (.bipush 60, 2) := by decide +kernel
theorem dX7_logLength_6 : decode cX7_logLength 6 = .ok (.invokestatic 94, 3) := by decide +kernel
theorem dX7_logLength_9 : decode cX7_logLength 9 = .ok (.ireturn, 1) := by decide +kernel
theorem dX8_init_0 : decode cX8_init 0 = .ok (.aload_n 0, 1) := by decide +kernel
theorem dX8_init_1 : decode cX8_init 1 = .ok (.invokespecial 3, 3) := by decide +kernel
theorem dX8_init_4 : decode cX8_init 4 = .ok (.aload_n 0, 1) := by decide +kernel
theorem dX8_init_5 : decode cX8_init 5 = .ok (.aload_n 1, 1) := by decide +kernel
theorem dX8_init_6 : decode cX8_init 6 = .ok (.putfield 9, 3) := by decide +kernel
theorem dX8_init_9 : decode cX8_init 9 = .ok (.aload_n 0, 1) := by decide +kernel
theorem dX8_init_10 : decode cX8_init 10 = .ok (.aload_n 2, 1) := by decide +kernel
theorem dX8_init_11 : decode cX8_init 11 = .ok (.putfield 15, 3) := by decide +kernel
theorem dX8_init_14 : decode cX8_init 14 = .ok (.aload_n 0, 1) := by decide +kernel
theorem dX8_init_15 : decode cX8_init 15 = .ok (.bipush 10, 2) := by decide +kernel
theorem dX8_init_17 : decode cX8_init 17 = .ok (.newarray .int, 2) := by decide +kernel
theorem dX8_init_19 : decode cX8_init 19 = .ok (.putfield 19, 3) := by decide +kernel
theorem dX8_init_22 : decode cX8_init 22 = .ok (.aload_n 0, 1) := by decide +kernel
theorem dX8_init_23 : decode cX8_init 23 = .ok (.bipush 10, 2) := by decide +kernel
theorem dX8_init_25 : decode cX8_init 25 = .ok (.newarray .int, 2) := by decide +kernel
theorem dX8_init_27 : decode cX8_init 27 = .ok (.putfield 23, 3) := by decide +kernel
theorem dX8_init_30 : decode cX8_init 30 = .ok (.aload_n 0, 1) := by decide +kernel
theorem dX8_init_31 : decode cX8_init 31 = .ok (.bipush 10, 2) := by decide +kernel
theorem dX8_init_33 : decode cX8_init 33 = .ok (.newarray .int, 2) := by decide +kernel
theorem dX8_init_35 : decode cX8_init 35 = .ok (.putfield 26, 3) := by decide +kernel
theorem dX8_init_38 : decode cX8_init 38 = .ok (.aload_n 0, 1) := by decide +kernel
theorem dX8_init_39 : decode cX8_init 39 = .ok (.bipush 10, 2) := by decide +kernel
theorem dX8_init_41 : decode cX8_init 41 = .ok (.newarray .int, 2) := by decide +kernel
theorem dX8_init_43 : decode cX8_init 43 = .ok (.putfield 29, 3) := by decide +kernel
theorem dX8_init_46 : decode cX8_init 46 = .ok (.aload_n 0, 1) := by decide +kernel
theorem dX8_init_47 : decode cX8_init 47 = .ok (.bipush 100, 2) := by decide +kernel
theorem dX8_init_49 : decode cX8_init 49 = .ok (.newarray .int, 2) := by decide +kernel
theorem dX8_init_51 : decode cX8_init 51 = .ok (.putfield 32, 3) := by decide +kernel
theorem dX8_init_54 : decode cX8_init 54 = .ok (.aload_n 0, 1) := by decide +kernel
theorem dX8_init_55 : decode cX8_init 55 = .ok (.bipush 10, 2) := by decide +kernel
theorem dX8_init_57 : decode cX8_init 57 = .ok (.newarray .int, 2) := by decide +kernel
theorem dX8_init_59 : decode cX8_init 59 = .ok (.putfield 35, 3) := by decide +kernel
theorem dX8_init_62 : decode cX8_init 62 = .ok (.aload_n 0, 1) := by decide +kernel
theorem dX8_init_63 : decode cX8_init 63 = .ok (.bipush 10, 2) := by decide +kernel
theorem dX8_init_65 : decode cX8_init 65 = .ok (.newarray .int, 2) := by decide +kernel
theorem dX8_init_67 : decode cX8_init 67 = .ok (.putfield 38, 3) := by decide +kernel
theorem dX8_init_70 : decode cX8_init 70 = .ok (.aload_n 0, 1) := by decide +kernel
theorem dX8_init_71 : decode cX8_init 71 = .ok (.iconst 3, 1) := by decide +kernel
theorem dX8_init_72 : decode cX8_init 72 = .ok (.newarray .int, 2) := by decide +kernel
theorem dX8_init_74 : decode cX8_init 74 = .ok (.putfield 41, 3) := by decide +kernel
theorem dX8_init_77 : decode cX8_init 77 = .ok (.return_, 1) := by decide +kernel
theorem dX9_init_0 : decode cX9_init 0 = .ok (.aload_n 0, 1) := by decide +kernel
theorem dX9_init_1 : decode cX9_init 1 = .ok (.invokespecial 3, 3) := by decide +kernel
theorem dX9_init_4 : decode cX9_init 4 = .ok (.aload_n 0, 1) := by decide +kernel
theorem dX9_init_5 : decode cX9_init 5 = .ok (.sipush 240, 3) := by decide +kernel
theorem dX9_init_8 : decode cX9_init 8 = .ok (.newarray .int, 2) := by decide +kernel
theorem dX9_init_10 : decode cX9_init 10 = .ok (.putfield 11, 3) := by decide +kernel
theorem dX9_init_13 : decode cX9_init 13 = .ok (.aload_n 0, 1) := by decide +kernel
theorem dX9_init_14 : decode cX9_init 14 = .ok (.iconst (-1), 1) := by decide +kernel
theorem dX9_init_15 : decode cX9_init 15 = .ok (.putfield 15, 3) := by decide +kernel
theorem dX9_init_18 : decode cX9_init 18 = .ok (.return_, 1) := by decide +kernel
theorem dX9_bytesIn_0 : decode cX9_bytesIn 0 = .ok (.iconst 0, 1) := by decide +kernel
theorem dX9_bytesIn_1 : decode cX9_bytesIn 1 = .ok (.istore_n 1, 1) := by decide +kernel
theorem dX9_bytesIn_2 : decode cX9_bytesIn 2 = .ok (.iconst 0, 1) := by decide +kernel
theorem dX9_bytesIn_3 : decode cX9_bytesIn 3 = .ok (.istore_n 2, 1) := by decide +kernel
theorem dX9_bytesIn_4 : decode cX9_bytesIn 4 = .ok (.iload_n 2, 1) := by decide +kernel
theorem dX9_bytesIn_5 : decode cX9_bytesIn 5 = .ok (.bipush 32, 2) := by decide +kernel
theorem dX9_bytesIn_7 : decode cX9_bytesIn 7 = .ok (.if_icmp .ge 22, 3) := by decide +kernel
theorem dX9_bytesIn_10 : decode cX9_bytesIn 10 = .ok (.iload_n 0, 1) := by decide +kernel
theorem dX9_bytesIn_11 : decode cX9_bytesIn 11 = .ok (.iload_n 2, 1) := by decide +kernel
theorem dX9_bytesIn_12 : decode cX9_bytesIn 12 = .ok (.iushr, 1) := by decide +kernel
theorem dX9_bytesIn_13 : decode cX9_bytesIn 13 = .ok (.sipush 255, 3) := by decide +kernel
theorem dX9_bytesIn_16 : decode cX9_bytesIn 16 = .ok (.iand, 1) := by decide +kernel
theorem dX9_bytesIn_17 : decode cX9_bytesIn 17 = .ok (.ifCond .eq 6, 3) := by decide +kernel
theorem dX9_bytesIn_20 : decode cX9_bytesIn 20 = .ok (.iinc 1 1, 3) := by decide +kernel
theorem dX9_bytesIn_23 : decode cX9_bytesIn 23 = .ok (.iinc 2 8, 3) := by decide +kernel
theorem dX9_bytesIn_26 : decode cX9_bytesIn 26 = .ok (.goto (-22), 3) := by decide +kernel
theorem dX9_bytesIn_29 : decode cX9_bytesIn 29 = .ok (.iload_n 1, 1) := by decide +kernel
theorem dX9_bytesIn_30 : decode cX9_bytesIn 30 = .ok (.ireturn, 1) := by decide +kernel
theorem dX9_append_0 : decode cX9_append 0 = .ok (.bipush 24, 2) := by decide +kernel
theorem dX9_append_2 : decode cX9_append 2 = .ok (.istore_n 2, 1) := by decide +kernel
theorem dX9_append_3 : decode cX9_append 3 = .ok (.iload_n 2, 1) := by decide +kernel
theorem dX9_append_4 : decode cX9_append 4 = .ok (.ifCond .lt 51, 3) := by decide +kernel
theorem dX9_append_7 : decode cX9_append 7 = .ok (.iload_n 1, 1) := by decide +kernel
theorem dX9_append_8 : decode cX9_append 8 = .ok (.iload_n 2, 1) := by decide +kernel
theorem dX9_append_9 : decode cX9_append 9 = .ok (.iushr, 1) := by decide +kernel
theorem dX9_append_10 : decode cX9_append 10 = .ok (.sipush 255, 3) := by decide +kernel
theorem dX9_append_13 : decode cX9_append 13 = .ok (.iand, 1) := by decide +kernel
theorem dX9_append_14 : decode cX9_append 14 = .ok (.istore_n 3, 1) := by decide +kernel
theorem dX9_append_15 : decode cX9_append 15 = .ok (.iload_n 3, 1) := by decide +kernel
theorem dX9_append_16 : decode cX9_append 16 = .ok (.ifCond .eq 33, 3) := by decide +kernel
theorem dX9_append_19 : decode cX9_append 19 = .ok (.aload_n 0, 1) := by decide +kernel
theorem dX9_append_20 : decode cX9_append 20 = .ok (.getfield 19, 3) := by decide +kernel
theorem dX9_append_23 : decode cX9_append 23 = .ok (.sipush 240, 3) := by decide +kernel
theorem dX9_append_26 : decode cX9_append 26 = .ok (.if_icmp .ge 23, 3) := by decide +kernel
theorem dX9_append_29 : decode cX9_append 29 = .ok (.aload_n 0, 1) := by decide +kernel
theorem dX9_append_30 : decode cX9_append 30 = .ok (.getfield 11, 3) := by decide +kernel
theorem dX9_append_33 : decode cX9_append 33 = .ok (.aload_n 0, 1) := by decide +kernel
theorem dX9_append_34 : decode cX9_append 34 = .ok (.getfield 19, 3) := by decide +kernel
theorem dX9_append_37 : decode cX9_append 37 = .ok (.iload_n 3, 1) := by decide +kernel
theorem dX9_append_38 : decode cX9_append 38 = .ok (.iastore, 1) := by decide +kernel
theorem dX9_append_39 : decode cX9_append 39 = .ok (.aload_n 0, 1) := by decide +kernel
theorem dX9_append_40 : decode cX9_append 40 = .ok (.dup, 1) := by decide +kernel
theorem dX9_append_41 : decode cX9_append 41 = .ok (.getfield 19, 3) := by decide +kernel
theorem dX9_append_44 : decode cX9_append 44 = .ok (.iconst 1, 1) := by decide +kernel
theorem dX9_append_45 : decode cX9_append 45 = .ok (.iadd, 1) := by decide +kernel
theorem dX9_append_46 : decode cX9_append 46 = .ok (.putfield 19, 3) := by decide +kernel
theorem dX9_append_49 : decode cX9_append 49 = .ok (.iinc 2 (-8), 3) := by decide +kernel
theorem dX9_append_52 : decode cX9_append 52 = .ok (.goto (-49), 3) := by decide +kernel
theorem dX9_append_55 : decode cX9_append 55 = .ok (.return_, 1) := by decide +kernel
theorem dX9_rewind_0 : decode cX9_rewind 0 = .ok (.aload_n 0, 1) := by decide +kernel
theorem dX9_rewind_1 : decode cX9_rewind 1 = .ok (.iconst 0, 1) := by decide +kernel
theorem dX9_rewind_2 : decode cX9_rewind 2 = .ok (.putfield 22, 3) := by decide +kernel
theorem dX9_rewind_5 : decode cX9_rewind 5 = .ok (.aload_n 0, 1) := by decide +kernel
theorem dX9_rewind_6 : decode cX9_rewind 6 = .ok (.iconst (-1), 1) := by decide +kernel
theorem dX9_rewind_7 : decode cX9_rewind 7 = .ok (.putfield 15, 3) := by decide +kernel
theorem dX9_rewind_10 : decode cX9_rewind 10 = .ok (.return_, 1) := by decide +kernel
theorem dX9_isRight_0 : decode cX9_isRight 0 = .ok (.aload_n 0, 1) := by decide +kernel
theorem dX9_isRight_1 : decode cX9_isRight 1 = .ok (.getfield 15, 3) := by decide +kernel
theorem dX9_isRight_4 : decode cX9_isRight 4 = .ok (.iconst (-1), 1) := by decide +kernel
theorem dX9_isRight_5 : decode cX9_isRight 5 = .ok (.if_icmp .ne 7, 3) := by decide +kernel
theorem dX9_isRight_12 : decode cX9_isRight 12 = .ok (.iconst 0, 1) := by decide +kernel
theorem dX9_isRight_13 : decode cX9_isRight 13 = .ok (.ireturn, 1) := by decide +kernel
theorem dX9_wrongAt_0 : decode cX9_wrongAt 0 = .ok (.aload_n 0, 1) := by decide +kernel
theorem dX9_wrongAt_1 : decode cX9_wrongAt 1 = .ok (.getfield 15, 3) := by decide +kernel
theorem dX9_wrongAt_4 : decode cX9_wrongAt 4 = .ok (.ireturn, 1) := by decide +kernel
theorem dX9_refuse_0 : decode cX9_refuse 0 = .ok (.aload_n 0, 1) := by decide +kernel
theorem dX9_refuse_1 : decode cX9_refuse 1 = .ok (.getfield 15, 3) := by decide +kernel
theorem dX9_refuse_4 : decode cX9_refuse 4 = .ok (.iconst (-1), 1) := by decide +kernel
theorem dX9_refuse_5 : decode cX9_refuse 5 = .ok (.if_icmp .ne 8, 3) := by decide +kernel
theorem dX9_refuse_8 : decode cX9_refuse 8 = .ok (.aload_n 0, 1) := by decide +kernel
theorem dX9_refuse_9 : decode cX9_refuse 9 = .ok (.iload_n 1, 1) := by decide +kernel
theorem dX9_refuse_10 : decode cX9_refuse 10 = .ok (.putfield 15, 3) := by decide +kernel
theorem dX9_refuse_13 : decode cX9_refuse 13 = .ok (.return_, 1) := by decide +kernel
theorem dX9_refuseHere_0 : decode cX9_refuseHere 0 = .ok (.aload_n 0, 1) := by decide +kernel
theorem dX9_refuseHere_1 : decode cX9_refuseHere 1 = .ok (.aload_n 0, 1) := by decide +kernel
theorem dX9_refuseHere_2 : decode cX9_refuseHere 2 = .ok (.getfield 22, 3) := by decide +kernel
theorem dX9_refuseHere_5 : decode cX9_refuseHere 5 = .ok (.invokevirtual 25, 3) := by decide +kernel
theorem dX9_refuseHere_8 : decode cX9_refuseHere 8 = .ok (.return_, 1) := by decide +kernel
theorem dX9_peek_0 : decode cX9_peek 0 = .ok (.aload_n 0, 1) := by decide +kernel
theorem dX9_peek_1 : decode cX9_peek 1 = .ok (.getfield 22, 3) := by decide +kernel
theorem dX9_peek_4 : decode cX9_peek 4 = .ok (.aload_n 0, 1) := by decide +kernel
theorem dX9_peek_5 : decode cX9_peek 5 = .ok (.getfield 19, 3) := by decide +kernel
theorem dX9_peek_8 : decode cX9_peek 8 = .ok (.if_icmp .ge 30, 3) := by decide +kernel
theorem dX9_peek_38 : decode cX9_peek 38 = .ok (.aload_n 0, 1) := by decide +kernel
theorem dX9_peek_39 : decode cX9_peek 39 = .ok (.getfield 22, 3) := by decide +kernel
theorem dX9_peek_42 : decode cX9_peek 42 = .ok (.aload_n 0, 1) := by decide +kernel
theorem dX9_peek_43 : decode cX9_peek 43 = .ok (.getfield 19, 3) := by decide +kernel
theorem dX9_peek_46 : decode cX9_peek 46 = .ok (.if_icmp .ge 15, 3) := by decide +kernel
theorem dX9_peek_61 : decode cX9_peek 61 = .ok (.iconst (-1), 1) := by decide +kernel
theorem dX9_peek_62 : decode cX9_peek 62 = .ok (.ireturn, 1) := by decide +kernel
theorem dX9_take_0 : decode cX9_take 0 = .ok (.aload_n 0, 1) := by decide +kernel
theorem dX9_take_1 : decode cX9_take 1 = .ok (.getfield 15, 3) := by decide +kernel
theorem dX9_take_4 : decode cX9_take 4 = .ok (.iconst (-1), 1) := by decide +kernel
theorem dX9_take_5 : decode cX9_take 5 = .ok (.if_icmp .ne 11, 3) := by decide +kernel
theorem dX9_take_16 : decode cX9_take 16 = .ok (.iconst 0, 1) := by decide +kernel
theorem dX9_take_17 : decode cX9_take 17 = .ok (.ireturn, 1) := by decide +kernel
theorem dX9_expect_0 : decode cX9_expect 0 = .ok (.aload_n 0, 1) := by decide +kernel
theorem dX9_expect_1 : decode cX9_expect 1 = .ok (.getfield 15, 3) := by decide +kernel
theorem dX9_expect_4 : decode cX9_expect 4 = .ok (.iconst (-1), 1) := by decide +kernel
theorem dX9_expect_5 : decode cX9_expect 5 = .ok (.if_icmp .ne 24, 3) := by decide +kernel
theorem dX9_expect_8 : decode cX9_expect 8 = .ok (.aload_n 0, 1) := by decide +kernel
theorem dX9_expect_9 : decode cX9_expect 9 = .ok (.invokevirtual 29, 3) := by decide +kernel
theorem dX9_expect_12 : decode cX9_expect 12 = .ok (.iload_n 1, 1) := by decide +kernel
theorem dX9_expect_13 : decode cX9_expect 13 = .ok (.if_icmp .ne 16, 3) := by decide +kernel
theorem dX9_expect_29 : decode cX9_expect 29 = .ok (.aload_n 0, 1) := by decide +kernel
theorem dX9_expect_30 : decode cX9_expect 30 = .ok (.aload_n 0, 1) := by decide +kernel
theorem dX9_expect_31 : decode cX9_expect 31 = .ok (.getfield 22, 3) := by decide +kernel
theorem dX9_expect_34 : decode cX9_expect 34 = .ok (.invokevirtual 25, 3) := by decide +kernel
theorem dX9_expect_37 : decode cX9_expect 37 = .ok (.return_, 1) := by decide +kernel
theorem dX9_expectEnd_0 : decode cX9_expectEnd 0 = .ok (.aload_n 0, 1) := by decide +kernel
theorem dX9_expectEnd_1 : decode cX9_expectEnd 1 = .ok (.invokevirtual 29, 3) := by decide +kernel
theorem dX9_expectEnd_4 : decode cX9_expectEnd 4 = .ok (.iconst (-1), 1) := by decide +kernel
theorem dX9_expectEnd_5 : decode cX9_expectEnd 5 = .ok (.if_icmp .eq 11, 3) := by decide +kernel
theorem dX9_expectEnd_16 : decode cX9_expectEnd 16 = .ok (.return_, 1) := by decide +kernel
theorem dX10_init_0 : decode cX10_init 0 = .ok (.aload_n 0, 1) := by decide +kernel
theorem dX10_init_1 : decode cX10_init 1 = .ok (.invokespecial 3, 3) := by decide +kernel
theorem dX10_init_4 : decode cX10_init 4 = .ok (.aload_n 0, 1) := by decide +kernel
theorem dX10_init_5 : decode cX10_init 5 = .ok (.aload_n 1, 1) := by decide +kernel
theorem dX10_init_6 : decode cX10_init 6 = .ok (.putfield 9, 3) := by decide +kernel
theorem dX10_init_9 : decode cX10_init 9 = .ok (.aload_n 0, 1) := by decide +kernel
theorem dX10_init_10 : decode cX10_init 10 = .ok (.aload_n 2, 1) := by decide +kernel
theorem dX10_init_11 : decode cX10_init 11 = .ok (.putfield 15, 3) := by decide +kernel
theorem dX10_init_14 : decode cX10_init 14 = .ok (.aload_n 0, 1) := by decide +kernel
theorem dX10_init_15 : decode cX10_init 15 = .ok (.iconst 3, 1) := by decide +kernel
theorem dX10_init_16 : decode cX10_init 16 = .ok (.newarray .int, 2) := by decide +kernel
theorem dX10_init_18 : decode cX10_init 18 = .ok (.putfield 19, 3) := by decide +kernel
theorem dX10_init_21 : decode cX10_init 21 = .ok (.aload_n 0, 1) := by decide +kernel
theorem dX10_init_22 : decode cX10_init 22 = .ok (.bipush 8, 2) := by decide +kernel
theorem dX10_init_24 : decode cX10_init 24 = .ok (.newarray .int, 2) := by decide +kernel
theorem dX10_init_26 : decode cX10_init 26 = .ok (.putfield 23, 3) := by decide +kernel
theorem dX10_init_29 : decode cX10_init 29 = .ok (.aload_n 0, 1) := by decide +kernel
theorem dX10_init_30 : decode cX10_init 30 = .ok (.iconst 3, 1) := by decide +kernel
theorem dX10_init_31 : decode cX10_init 31 = .ok (.newarray .int, 2) := by decide +kernel
theorem dX10_init_33 : decode cX10_init 33 = .ok (.putfield 26, 3) := by decide +kernel
theorem dX10_init_36 : decode cX10_init 36 = .ok (.aload_n 0, 1) := by decide +kernel
theorem dX10_init_37 : decode cX10_init 37 = .ok (.bipush 8, 2) := by decide +kernel
theorem dX10_init_39 : decode cX10_init 39 = .ok (.newarray .int, 2) := by decide +kernel
theorem dX10_init_41 : decode cX10_init 41 = .ok (.putfield 29, 3) := by decide +kernel
theorem dX10_init_44 : decode cX10_init 44 = .ok (.return_, 1) := by decide +kernel
theorem dX10_tallyUp_0 : decode cX10_tallyUp 0 = .ok (.iconst 0, 1) := by decide +kernel
theorem dX10_tallyUp_1 : decode cX10_tallyUp 1 = .ok (.istore_n 2, 1) := by decide +kernel
theorem dX10_tallyUp_2 : decode cX10_tallyUp 2 = .ok (.iload_n 2, 1) := by decide +kernel
theorem dX10_tallyUp_3 : decode cX10_tallyUp 3 = .ok (.iconst 3, 1) := by decide +kernel
theorem dX10_tallyUp_4 : decode cX10_tallyUp 4 = .ok (.if_icmp .ge 16, 3) := by decide +kernel
theorem dX10_tallyUp_7 : decode cX10_tallyUp 7 = .ok (.aload_n 0, 1) := by decide +kernel
theorem dX10_tallyUp_8 : decode cX10_tallyUp 8 = .ok (.getfield 26, 3) := by decide +kernel
theorem dX10_tallyUp_11 : decode cX10_tallyUp 11 = .ok (.iload_n 2, 1) := by decide +kernel
theorem dX10_tallyUp_12 : decode cX10_tallyUp 12 = .ok (.iconst 0, 1) := by decide +kernel
theorem dX10_tallyUp_13 : decode cX10_tallyUp 13 = .ok (.iastore, 1) := by decide +kernel
theorem dX10_tallyUp_14 : decode cX10_tallyUp 14 = .ok (.iinc 2 1, 3) := by decide +kernel
theorem dX10_tallyUp_17 : decode cX10_tallyUp 17 = .ok (.goto (-15), 3) := by decide +kernel
theorem dX10_tallyUp_20 : decode cX10_tallyUp 20 = .ok (.iconst 0, 1) := by decide +kernel
theorem dX10_tallyUp_21 : decode cX10_tallyUp 21 = .ok (.istore_n 2, 1) := by decide +kernel
theorem dX10_tallyUp_22 : decode cX10_tallyUp 22 = .ok (.iload_n 2, 1) := by decide +kernel
theorem dX10_tallyUp_23 : decode cX10_tallyUp 23 = .ok (.aload_n 0, 1) := by decide +kernel
theorem dX10_tallyUp_24 : decode cX10_tallyUp 24 = .ok (.getfield 9, 3) := by decide +kernel
theorem dX10_tallyUp_27 : decode cX10_tallyUp 27 = .ok (.getfield 105, 3) := by decide +kernel
theorem dX10_tallyUp_30 : decode cX10_tallyUp 30 = .ok (.if_icmp .ge 84, 3) := by decide +kernel
theorem dX10_tallyUp_114 : decode cX10_tallyUp 114 = .ok (.return_, 1) := by decide +kernel
theorem dX10_leaningTo_0 : decode cX10_leaningTo 0 = .ok (.iconst 0, 1) := by decide +kernel
theorem dX10_leaningTo_1 : decode cX10_leaningTo 1 = .ok (.istore_n 2, 1) := by decide +kernel
theorem dX10_leaningTo_2 : decode cX10_leaningTo 2 = .ok (.iconst 0, 1) := by decide +kernel
theorem dX10_leaningTo_3 : decode cX10_leaningTo 3 = .ok (.istore_n 3, 1) := by decide +kernel
theorem dX10_leaningTo_4 : decode cX10_leaningTo 4 = .ok (.iload_n 3, 1) := by decide +kernel
theorem dX10_leaningTo_5 : decode cX10_leaningTo 5 = .ok (.aload_n 0, 1) := by decide +kernel
theorem dX10_leaningTo_6 : decode cX10_leaningTo 6 = .ok (.getfield 9, 3) := by decide +kernel
theorem dX10_leaningTo_9 : decode cX10_leaningTo 9 = .ok (.getfield 105, 3) := by decide +kernel
theorem dX10_leaningTo_12 : decode cX10_leaningTo 12 = .ok (.if_icmp .ge 25, 3) := by decide +kernel
theorem dX10_leaningTo_37 : decode cX10_leaningTo 37 = .ok (.iload_n 2, 1) := by decide +kernel
theorem dX10_leaningTo_38 : decode cX10_leaningTo 38 = .ok (.ireturn, 1) := by decide +kernel
theorem dX10_leaningBits_0 : decode cX10_leaningBits 0 = .ok (.iconst 1, 1) := by decide +kernel
theorem dX10_leaningBits_1 : decode cX10_leaningBits 1 = .ok (.aload_n 0, 1) := by decide +kernel
theorem dX10_leaningBits_2 : decode cX10_leaningBits 2 = .ok (.getfield 9, 3) := by decide +kernel
theorem dX10_leaningBits_5 : decode cX10_leaningBits 5 = .ok (.getfield 105, 3) := by decide +kernel
theorem dX10_leaningBits_8 : decode cX10_leaningBits 8 = .ok (.ishl, 1) := by decide +kernel
theorem dX10_leaningBits_9 : decode cX10_leaningBits 9 = .ok (.iconst 1, 1) := by decide +kernel
theorem dX10_leaningBits_10 : decode cX10_leaningBits 10 = .ok (.isub, 1) := by decide +kernel
theorem dX10_leaningBits_11 : decode cX10_leaningBits 11 = .ok (.aload_n 0, 1) := by decide +kernel
theorem dX10_leaningBits_12 : decode cX10_leaningBits 12 = .ok (.iconst (-1), 1) := by decide +kernel
theorem dX10_leaningBits_13 : decode cX10_leaningBits 13 = .ok (.invokevirtual 108, 3) := by decide +kernel
theorem dX10_leaningBits_16 : decode cX10_leaningBits 16 = .ok (.iconst (-1), 1) := by decide +kernel
theorem dX10_leaningBits_17 : decode cX10_leaningBits 17 = .ok (.ixor, 1) := by decide +kernel
theorem dX10_leaningBits_18 : decode cX10_leaningBits 18 = .ok (.iand, 1) := by decide +kernel
theorem dX10_leaningBits_19 : decode cX10_leaningBits 19 = .ok (.ireturn, 1) := by decide +kernel
theorem dX11_init_0 : decode cX11_init 0 = .ok (.aload_n 0, 1) := by decide +kernel
theorem dX11_init_1 : decode cX11_init 1 = .ok (.invokespecial 1, 3) := by decide +kernel
theorem dX11_init_4 : decode cX11_init 4 = .ok (.aload_n 0, 1) := by decide +kernel
theorem dX11_init_5 : decode cX11_init 5 = .ok (.new 7, 3) := by decide +kernel
theorem dX11_init_8 : decode cX11_init 8 = .ok (.dup, 1) := by decide +kernel
theorem dX11_init_9 : decode cX11_init 9 = .ok (.invokespecial 9, 3) := by decide +kernel
theorem dX11_init_12 : decode cX11_init 12 = .ok (.putfield 10, 3) := by decide +kernel
theorem dX11_init_15 : decode cX11_init 15 = .ok (.aload_n 0, 1) := by decide +kernel
theorem dX11_init_16 : decode cX11_init 16 = .ok (.new 16, 3) := by decide +kernel
theorem dX11_init_19 : decode cX11_init 19 = .ok (.dup, 1) := by decide +kernel
theorem dX11_init_20 : decode cX11_init 20 = .ok (.invokespecial 18, 3) := by decide +kernel
theorem dX11_init_23 : decode cX11_init 23 = .ok (.putfield 19, 3) := by decide +kernel
theorem dX11_init_26 : decode cX11_init 26 = .ok (.aload_n 0, 1) := by decide +kernel
theorem dX11_init_27 : decode cX11_init 27 = .ok (.new 16, 3) := by decide +kernel
theorem dX11_init_30 : decode cX11_init 30 = .ok (.dup, 1) := by decide +kernel
theorem dX11_init_31 : decode cX11_init 31 = .ok (.invokespecial 18, 3) := by decide +kernel
theorem dX11_init_34 : decode cX11_init 34 = .ok (.putfield 23, 3) := by decide +kernel
theorem dX11_init_37 : decode cX11_init 37 = .ok (.aload_n 0, 1) := by decide +kernel
theorem dX11_init_38 : decode cX11_init 38 = .ok (.new 26, 3) := by decide +kernel
theorem dX11_init_41 : decode cX11_init 41 = .ok (.dup, 1) := by decide +kernel
theorem dX11_init_42 : decode cX11_init 42 = .ok (.invokespecial 28, 3) := by decide +kernel
theorem dX11_init_45 : decode cX11_init 45 = .ok (.putfield 29, 3) := by decide +kernel
theorem dX11_init_48 : decode cX11_init 48 = .ok (.aload_n 0, 1) := by decide +kernel
theorem dX11_init_49 : decode cX11_init 49 = .ok (.iconst 5, 1) := by decide +kernel
theorem dX11_init_50 : decode cX11_init 50 = .ok (.anewarray 33, 3) := by decide +kernel
theorem dX11_init_53 : decode cX11_init 53 = .ok (.putfield 35, 3) := by decide +kernel
theorem dX11_init_56 : decode cX11_init 56 = .ok (.iconst 0, 1) := by decide +kernel
theorem dX11_init_57 : decode cX11_init 57 = .ok (.istore_n 1, 1) := by decide +kernel
theorem dX11_init_58 : decode cX11_init 58 = .ok (.iload_n 1, 1) := by decide +kernel
theorem dX11_init_59 : decode cX11_init 59 = .ok (.aload_n 0, 1) := by decide +kernel
theorem dX11_init_60 : decode cX11_init 60 = .ok (.getfield 35, 3) := by decide +kernel
theorem dX11_init_63 : decode cX11_init 63 = .ok (.arraylength, 1) := by decide +kernel
theorem dX11_init_64 : decode cX11_init 64 = .ok (.if_icmp .ge 22, 3) := by decide +kernel
theorem dX11_init_67 : decode cX11_init 67 = .ok (.aload_n 0, 1) := by decide +kernel
theorem dX11_init_68 : decode cX11_init 68 = .ok (.getfield 35, 3) := by decide +kernel
theorem dX11_init_71 : decode cX11_init 71 = .ok (.iload_n 1, 1) := by decide +kernel
theorem dX11_init_72 : decode cX11_init 72 = .ok (.new 33, 3) := by decide +kernel
theorem dX11_init_75 : decode cX11_init 75 = .ok (.dup, 1) := by decide +kernel
theorem dX11_init_76 : decode cX11_init 76 = .ok (.invokespecial 39, 3) := by decide +kernel
theorem dX11_init_79 : decode cX11_init 79 = .ok (.aastore, 1) := by decide +kernel
theorem dX11_init_80 : decode cX11_init 80 = .ok (.iinc 1 1, 3) := by decide +kernel
theorem dX11_init_83 : decode cX11_init 83 = .ok (.goto (-25), 3) := by decide +kernel
theorem dX11_init_86 : decode cX11_init 86 = .ok (.aload_n 0, 1) := by decide +kernel
theorem dX11_init_87 : decode cX11_init 87 = .ok (.new 40, 3) := by decide +kernel
theorem dX11_init_90 : decode cX11_init 90 = .ok (.dup, 1) := by decide +kernel
theorem dX11_init_91 : decode cX11_init 91 = .ok (.aload_n 0, 1) := by decide +kernel
theorem dX11_init_92 : decode cX11_init 92 = .ok (.getfield 19, 3) := by decide +kernel
theorem dX11_init_95 : decode cX11_init 95 = .ok (.aload_n 0, 1) := by decide +kernel
theorem dX11_init_96 : decode cX11_init 96 = .ok (.getfield 29, 3) := by decide +kernel
theorem dX11_init_99 : decode cX11_init 99 = .ok (.invokespecial 42, 3) := by decide +kernel
theorem dX11_init_102 : decode cX11_init 102 = .ok (.putfield 45, 3) := by decide +kernel
theorem dX11_init_105 : decode cX11_init 105 = .ok (.aload_n 0, 1) := by decide +kernel
theorem dX11_init_106 : decode cX11_init 106 = .ok (.new 49, 3) := by decide +kernel
theorem dX11_init_109 : decode cX11_init 109 = .ok (.dup, 1) := by decide +kernel
theorem dX11_init_110 : decode cX11_init 110 = .ok (.invokespecial 51, 3) := by decide +kernel
theorem dX11_init_113 : decode cX11_init 113 = .ok (.putfield 52, 3) := by decide +kernel
theorem dX11_init_116 : decode cX11_init 116 = .ok (.aload_n 0, 1) := by decide +kernel
theorem dX11_init_117 : decode cX11_init 117 = .ok (.new 49, 3) := by decide +kernel
theorem dX11_init_120 : decode cX11_init 120 = .ok (.dup, 1) := by decide +kernel
theorem dX11_init_121 : decode cX11_init 121 = .ok (.invokespecial 51, 3) := by decide +kernel
theorem dX11_init_124 : decode cX11_init 124 = .ok (.putfield 56, 3) := by decide +kernel
theorem dX11_init_127 : decode cX11_init 127 = .ok (.aload_n 0, 1) := by decide +kernel
theorem dX11_init_128 : decode cX11_init 128 = .ok (.new 59, 3) := by decide +kernel
theorem dX11_init_131 : decode cX11_init 131 = .ok (.dup, 1) := by decide +kernel
theorem dX11_init_132 : decode cX11_init 132 = .ok (.invokespecial 61, 3) := by decide +kernel
theorem dX11_init_135 : decode cX11_init 135 = .ok (.putfield 62, 3) := by decide +kernel
theorem dX11_init_138 : decode cX11_init 138 = .ok (.aload_n 0, 1) := by decide +kernel
theorem dX11_init_139 : decode cX11_init 139 = .ok (.new 66, 3) := by decide +kernel
theorem dX11_init_142 : decode cX11_init 142 = .ok (.dup, 1) := by decide +kernel
theorem dX11_init_143 : decode cX11_init 143 = .ok (.aload_n 0, 1) := by decide +kernel
theorem dX11_init_144 : decode cX11_init 144 = .ok (.getfield 19, 3) := by decide +kernel
theorem dX11_init_147 : decode cX11_init 147 = .ok (.aload_n 0, 1) := by decide +kernel
theorem dX11_init_148 : decode cX11_init 148 = .ok (.getfield 29, 3) := by decide +kernel
theorem dX11_init_151 : decode cX11_init 151 = .ok (.invokespecial 68, 3) := by decide +kernel
theorem dX11_init_154 : decode cX11_init 154 = .ok (.putfield 69, 3) := by decide +kernel
theorem dX11_init_157 : decode cX11_init 157 = .ok (.aload_n 0, 1) := by decide +kernel
theorem dX11_init_158 : decode cX11_init 158 = .ok (.new 73, 3) := by decide +kernel
theorem dX11_init_161 : decode cX11_init 161 = .ok (.dup, 1) := by decide +kernel
theorem dX11_init_162 : decode cX11_init 162 = .ok (.aload_n 0, 1) := by decide +kernel
theorem dX11_init_163 : decode cX11_init 163 = .ok (.getfield 19, 3) := by decide +kernel
theorem dX11_init_166 : decode cX11_init 166 = .ok (.aload_n 0, 1) := by decide +kernel
theorem dX11_init_167 : decode cX11_init 167 = .ok (.getfield 45, 3) := by decide +kernel
theorem dX11_init_170 : decode cX11_init 170 = .ok (.invokespecial 75, 3) := by decide +kernel
theorem dX11_init_173 : decode cX11_init 173 = .ok (.putfield 78, 3) := by decide +kernel
theorem dX11_init_176 : decode cX11_init 176 = .ok (.aload_n 0, 1) := by decide +kernel
theorem dX11_init_177 : decode cX11_init 177 = .ok (.new 82, 3) := by decide +kernel
theorem dX11_init_180 : decode cX11_init 180 = .ok (.dup, 1) := by decide +kernel
theorem dX11_init_181 : decode cX11_init 181 = .ok (.aload_n 0, 1) := by decide +kernel
theorem dX11_init_182 : decode cX11_init 182 = .ok (.getfield 19, 3) := by decide +kernel
theorem dX11_init_185 : decode cX11_init 185 = .ok (.invokespecial 84, 3) := by decide +kernel
theorem dX11_init_188 : decode cX11_init 188 = .ok (.putfield 87, 3) := by decide +kernel
theorem dX11_init_191 : decode cX11_init 191 = .ok (.aload_n 0, 1) := by decide +kernel
theorem dX11_init_192 : decode cX11_init 192 = .ok (.sipush 256, 3) := by decide +kernel
theorem dX11_init_195 : decode cX11_init 195 = .ok (.newarray .long, 2) := by decide +kernel
theorem dX11_init_197 : decode cX11_init 197 = .ok (.putfield 91, 3) := by decide +kernel
theorem dX11_init_200 : decode cX11_init 200 = .ok (.aload_n 0, 1) := by decide +kernel
theorem dX11_init_201 : decode cX11_init 201 = .ok (.iconst 3, 1) := by decide +kernel
theorem dX11_init_202 : decode cX11_init 202 = .ok (.newarray .int, 2) := by decide +kernel
theorem dX11_init_204 : decode cX11_init 204 = .ok (.putfield 95, 3) := by decide +kernel
theorem dX11_init_207 : decode cX11_init 207 = .ok (.return_, 1) := by decide +kernel
theorem dX11_feed_0 : decode cX11_feed 0 = .ok (.iload_n 1, 1) := by decide +kernel
theorem dX11_feed_1 : decode cX11_feed 1 = .ok (.invokestatic 99, 3) := by decide +kernel
theorem dX11_feed_4 : decode cX11_feed 4 = .ok (.iload_n 2, 1) := by decide +kernel
theorem dX11_feed_5 : decode cX11_feed 5 = .ok (.invokestatic 99, 3) := by decide +kernel
theorem dX11_feed_8 : decode cX11_feed 8 = .ok (.iadd, 1) := by decide +kernel
theorem dX11_feed_9 : decode cX11_feed 9 = .ok (.iload_n 3, 1) := by decide +kernel
theorem dX11_feed_10 : decode cX11_feed 10 = .ok (.invokestatic 99, 3) := by decide +kernel
theorem dX11_feed_13 : decode cX11_feed 13 = .ok (.iadd, 1) := by decide +kernel
theorem dX11_feed_14 : decode cX11_feed 14 = .ok (.iload 4, 2) := by decide +kernel
theorem dX11_feed_16 : decode cX11_feed 16 = .ok (.invokestatic 99, 3) := by decide +kernel
theorem dX11_feed_19 : decode cX11_feed 19 = .ok (.iadd, 1) := by decide +kernel
theorem dX11_feed_20 : decode cX11_feed 20 = .ok (.iload 5, 2) := by decide +kernel
theorem dX11_feed_22 : decode cX11_feed 22 = .ok (.invokestatic 99, 3) := by decide +kernel
theorem dX11_feed_25 : decode cX11_feed 25 = .ok (.iadd, 1) := by decide +kernel
theorem dX11_feed_26 : decode cX11_feed 26 = .ok (.istore 6, 2) := by decide +kernel
theorem dX11_feed_28 : decode cX11_feed 28 = .ok (.aload_n 0, 1) := by decide +kernel
theorem dX11_feed_29 : decode cX11_feed 29 = .ok (.getfield 10, 3) := by decide +kernel
theorem dX11_feed_32 : decode cX11_feed 32 = .ok (.getfield 103, 3) := by decide +kernel
theorem dX11_feed_35 : decode cX11_feed 35 = .ok (.iload 6, 2) := by decide +kernel
theorem dX11_feed_37 : decode cX11_feed 37 = .ok (.iadd, 1) := by decide +kernel
theorem dX11_feed_38 : decode cX11_feed 38 = .ok (.sipush 240, 3) := by decide +kernel
theorem dX11_feed_41 : decode cX11_feed 41 = .ok (.if_icmp .le 5, 3) := by decide +kernel
theorem dX11_feed_46 : decode cX11_feed 46 = .ok (.aload_n 0, 1) := by decide +kernel
theorem dX11_feed_47 : decode cX11_feed 47 = .ok (.getfield 10, 3) := by decide +kernel
theorem dX11_feed_50 : decode cX11_feed 50 = .ok (.iload_n 1, 1) := by decide +kernel
theorem dX11_feed_51 : decode cX11_feed 51 = .ok (.invokevirtual 107, 3) := by decide +kernel
theorem dX11_feed_54 : decode cX11_feed 54 = .ok (.aload_n 0, 1) := by decide +kernel
theorem dX11_feed_55 : decode cX11_feed 55 = .ok (.getfield 10, 3) := by decide +kernel
theorem dX11_feed_58 : decode cX11_feed 58 = .ok (.iload_n 2, 1) := by decide +kernel
theorem dX11_feed_59 : decode cX11_feed 59 = .ok (.invokevirtual 107, 3) := by decide +kernel
theorem dX11_feed_62 : decode cX11_feed 62 = .ok (.aload_n 0, 1) := by decide +kernel
theorem dX11_feed_63 : decode cX11_feed 63 = .ok (.getfield 10, 3) := by decide +kernel
theorem dX11_feed_66 : decode cX11_feed 66 = .ok (.iload_n 3, 1) := by decide +kernel
theorem dX11_feed_67 : decode cX11_feed 67 = .ok (.invokevirtual 107, 3) := by decide +kernel
theorem dX11_feed_70 : decode cX11_feed 70 = .ok (.aload_n 0, 1) := by decide +kernel
theorem dX11_feed_71 : decode cX11_feed 71 = .ok (.getfield 10, 3) := by decide +kernel
theorem dX11_feed_74 : decode cX11_feed 74 = .ok (.iload 4, 2) := by decide +kernel
theorem dX11_feed_76 : decode cX11_feed 76 = .ok (.invokevirtual 107, 3) := by decide +kernel
theorem dX11_feed_79 : decode cX11_feed 79 = .ok (.aload_n 0, 1) := by decide +kernel
theorem dX11_feed_80 : decode cX11_feed 80 = .ok (.getfield 10, 3) := by decide +kernel
theorem dX11_feed_83 : decode cX11_feed 83 = .ok (.iload 5, 2) := by decide +kernel
theorem dX11_feed_85 : decode cX11_feed 85 = .ok (.invokevirtual 107, 3) := by decide +kernel
theorem dX11_feed_88 : decode cX11_feed 88 = .ok (.aload_n 0, 1) := by decide +kernel
theorem dX11_feed_89 : decode cX11_feed 89 = .ok (.getfield 10, 3) := by decide +kernel
theorem dX11_feed_92 : decode cX11_feed 92 = .ok (.getfield 103, 3) := by decide +kernel
theorem dX11_feed_95 : decode cX11_feed 95 = .ok (.ireturn, 1) := by decide +kernel
theorem dX11_end_0 : decode cX11_end 0 = .ok (.iload_n 1, 1) := by decide +kernel
theorem dX11_end_1 : decode cX11_end 1 = .ok (.iconst 0, 1) := by decide +kernel
theorem dX11_end_2 : decode cX11_end 2 = .ok (.aload_n 0, 1) := by decide +kernel
theorem dX11_end_3 : decode cX11_end 3 = .ok (.getfield 10, 3) := by decide +kernel
theorem dX11_end_6 : decode cX11_end 6 = .ok (.getfield 103, 3) := by decide +kernel
theorem dX11_end_9 : decode cX11_end 9 = .ok (.invokestatic 111, 3) := by decide +kernel
theorem dX11_end_12 : decode cX11_end 12 = .ok (.ifCond .ne 5, 3) := by decide +kernel
theorem dX11_end_15 : decode cX11_end 15 = .ok (.iconst 0, 1) := by decide +kernel
theorem dX11_end_16 : decode cX11_end 16 = .ok (.ireturn, 1) := by decide +kernel
theorem dX11_end_17 : decode cX11_end 17 = .ok (.aload_n 0, 1) := by decide +kernel
theorem dX11_end_18 : decode cX11_end 18 = .ok (.getfield 10, 3) := by decide +kernel
theorem dX11_end_21 : decode cX11_end 21 = .ok (.iload_n 1, 1) := by decide +kernel
theorem dX11_end_22 : decode cX11_end 22 = .ok (.putfield 103, 3) := by decide +kernel
theorem dX11_end_25 : decode cX11_end 25 = .ok (.iconst 1, 1) := by decide +kernel
theorem dX11_end_26 : decode cX11_end 26 = .ok (.ireturn, 1) := by decide +kernel
theorem dX11_fault_0 : decode cX11_fault 0 = .ok (.iload_n 1, 1) := by decide +kernel
theorem dX11_fault_1 : decode cX11_fault 1 = .ok (.tableswitch 71 0 2 #[27, 39, 54], 27) := by decide +kernel
theorem dX11_fault_28 : decode cX11_fault 28 = .ok (.aload_n 0, 1) := by decide +kernel
theorem dX11_fault_29 : decode cX11_fault 29 = .ok (.getfield 23, 3) := by decide +kernel
theorem dX11_fault_32 : decode cX11_fault 32 = .ok (.aload_n 0, 1) := by decide +kernel
theorem dX11_fault_33 : decode cX11_fault 33 = .ok (.getfield 10, 3) := by decide +kernel
theorem dX11_fault_36 : decode cX11_fault 36 = .ok (.invokevirtual 115, 3) := by decide +kernel
theorem dX11_fault_39 : decode cX11_fault 39 = .ok (.ireturn, 1) := by decide +kernel
theorem dX11_fault_40 : decode cX11_fault 40 = .ok (.aload_n 0, 1) := by decide +kernel
theorem dX11_fault_41 : decode cX11_fault 41 = .ok (.getfield 29, 3) := by decide +kernel
theorem dX11_fault_44 : decode cX11_fault 44 = .ok (.invokevirtual 119, 3) := by decide +kernel
theorem dX11_fault_47 : decode cX11_fault 47 = .ok (.aload_n 0, 1) := by decide +kernel
theorem dX11_fault_48 : decode cX11_fault 48 = .ok (.getfield 10, 3) := by decide +kernel
theorem dX11_fault_51 : decode cX11_fault 51 = .ok (.invokevirtual 123, 3) := by decide +kernel
theorem dX11_fault_54 : decode cX11_fault 54 = .ok (.ireturn, 1) := by decide +kernel
theorem dX11_fault_55 : decode cX11_fault 55 = .ok (.aload_n 0, 1) := by decide +kernel
theorem dX11_fault_56 : decode cX11_fault 56 = .ok (.getfield 35, 3) := by decide +kernel
theorem dX11_fault_59 : decode cX11_fault 59 = .ok (.aload_n 0, 1) := by decide +kernel
theorem dX11_fault_60 : decode cX11_fault 60 = .ok (.getfield 126, 3) := by decide +kernel
theorem dX11_fault_63 : decode cX11_fault 63 = .ok (.aaload, 1) := by decide +kernel
theorem dX11_fault_64 : decode cX11_fault 64 = .ok (.aload_n 0, 1) := by decide +kernel
theorem dX11_fault_65 : decode cX11_fault 65 = .ok (.getfield 10, 3) := by decide +kernel
theorem dX11_fault_68 : decode cX11_fault 68 = .ok (.invokevirtual 129, 3) := by decide +kernel
theorem dX11_fault_71 : decode cX11_fault 71 = .ok (.ireturn, 1) := by decide +kernel
theorem dX11_fault_72 : decode cX11_fault 72 = .ok (.bipush (-2), 2) := by decide +kernel
theorem dX11_fault_74 : decode cX11_fault 74 = .ok (.ireturn, 1) := by decide +kernel
theorem dX11_text_0 : decode cX11_text 0 = .ok (.iload_n 1, 1) := by decide +kernel
theorem dX11_text_1 : decode cX11_text 1 = .ok (.tableswitch 107 0 2 #[27, 51, 78], 27) := by decide +kernel
theorem dX11_text_28 : decode cX11_text 28 = .ok (.aload_n 0, 1) := by decide +kernel
theorem dX11_text_29 : decode cX11_text 29 = .ok (.getfield 23, 3) := by decide +kernel
theorem dX11_text_32 : decode cX11_text 32 = .ok (.aload_n 0, 1) := by decide +kernel
theorem dX11_text_33 : decode cX11_text 33 = .ok (.getfield 10, 3) := by decide +kernel
theorem dX11_text_36 : decode cX11_text 36 = .ok (.invokevirtual 115, 3) := by decide +kernel
theorem dX11_text_39 : decode cX11_text 39 = .ok (.iconst (-1), 1) := by decide +kernel
theorem dX11_text_40 : decode cX11_text 40 = .ok (.if_icmp .ne 10, 3) := by decide +kernel
theorem dX11_text_50 : decode cX11_text 50 = .ok (.iconst (-1), 1) := by decide +kernel
theorem dX11_text_51 : decode cX11_text 51 = .ok (.ireturn, 1) := by decide +kernel
theorem dX11_text_52 : decode cX11_text 52 = .ok (.aload_n 0, 1) := by decide +kernel
theorem dX11_text_53 : decode cX11_text 53 = .ok (.getfield 29, 3) := by decide +kernel
theorem dX11_text_56 : decode cX11_text 56 = .ok (.invokevirtual 119, 3) := by decide +kernel
theorem dX11_text_59 : decode cX11_text 59 = .ok (.aload_n 0, 1) := by decide +kernel
theorem dX11_text_60 : decode cX11_text 60 = .ok (.getfield 10, 3) := by decide +kernel
theorem dX11_text_63 : decode cX11_text 63 = .ok (.invokevirtual 123, 3) := by decide +kernel
theorem dX11_text_66 : decode cX11_text 66 = .ok (.iconst (-1), 1) := by decide +kernel
theorem dX11_text_67 : decode cX11_text 67 = .ok (.if_icmp .ne 10, 3) := by decide +kernel
theorem dX11_text_77 : decode cX11_text 77 = .ok (.iconst (-1), 1) := by decide +kernel
theorem dX11_text_78 : decode cX11_text 78 = .ok (.ireturn, 1) := by decide +kernel
theorem dX11_text_79 : decode cX11_text 79 = .ok (.aload_n 0, 1) := by decide +kernel
theorem dX11_text_80 : decode cX11_text 80 = .ok (.getfield 35, 3) := by decide +kernel
theorem dX11_text_83 : decode cX11_text 83 = .ok (.aload_n 0, 1) := by decide +kernel
theorem dX11_text_84 : decode cX11_text 84 = .ok (.getfield 126, 3) := by decide +kernel
theorem dX11_text_87 : decode cX11_text 87 = .ok (.aaload, 1) := by decide +kernel
theorem dX11_text_88 : decode cX11_text 88 = .ok (.aload_n 0, 1) := by decide +kernel
theorem dX11_text_89 : decode cX11_text 89 = .ok (.getfield 10, 3) := by decide +kernel
theorem dX11_text_92 : decode cX11_text 92 = .ok (.invokevirtual 129, 3) := by decide +kernel
theorem dX11_text_95 : decode cX11_text 95 = .ok (.iconst (-1), 1) := by decide +kernel
theorem dX11_text_96 : decode cX11_text 96 = .ok (.if_icmp .ne 10, 3) := by decide +kernel
theorem dX11_text_106 : decode cX11_text 106 = .ok (.iconst (-1), 1) := by decide +kernel
theorem dX11_text_107 : decode cX11_text 107 = .ok (.ireturn, 1) := by decide +kernel
theorem dX11_text_108 : decode cX11_text 108 = .ok (.iconst (-1), 1) := by decide +kernel
theorem dX11_text_109 : decode cX11_text 109 = .ok (.ireturn, 1) := by decide +kernel
theorem dX11_rule_0 : decode cX11_rule 0 = .ok (.aload_n 0, 1) := by decide +kernel
theorem dX11_rule_1 : decode cX11_rule 1 = .ok (.invokevirtual 140, 3) := by decide +kernel
theorem dX11_rule_4 : decode cX11_rule 4 = .ok (.ifCond .ne 5, 3) := by decide +kernel
theorem dX11_rule_7 : decode cX11_rule 7 = .ok (.iconst (-1), 1) := by decide +kernel
theorem dX11_rule_8 : decode cX11_rule 8 = .ok (.ireturn, 1) := by decide +kernel
theorem dX11_buoy_0 : decode cX11_buoy 0 = .ok (.aload_n 0, 1) := by decide +kernel
theorem dX11_buoy_1 : decode cX11_buoy 1 = .ok (.iload_n 1, 1) := by decide +kernel
theorem dX11_buoy_2 : decode cX11_buoy 2 = .ok (.invokevirtual 163, 3) := by decide +kernel
theorem dX11_buoy_5 : decode cX11_buoy 5 = .ok (.ifCond .eq 13, 3) := by decide +kernel
theorem dX11_buoy_8 : decode cX11_buoy 8 = .ok (.iload_n 2, 1) := by decide +kernel
theorem dX11_buoy_9 : decode cX11_buoy 9 = .ok (.iconst 0, 1) := by decide +kernel
theorem dX11_buoy_10 : decode cX11_buoy 10 = .ok (.bipush 8, 2) := by decide +kernel
theorem dX11_buoy_12 : decode cX11_buoy 12 = .ok (.invokestatic 111, 3) := by decide +kernel
theorem dX11_buoy_15 : decode cX11_buoy 15 = .ok (.ifCond .ne 11, 3) := by decide +kernel
theorem dX11_buoy_18 : decode cX11_buoy 18 = .ok (.new 166, 3) := by decide +kernel
theorem dX11_buoy_21 : decode cX11_buoy 21 = .ok (.dup, 1) := by decide +kernel
theorem dX11_buoy_22 : decode cX11_buoy 22 = .ok (.invokespecial 168, 3) := by decide +kernel
theorem dX11_buoy_25 : decode cX11_buoy 25 = .ok (.athrow, 1) := by decide +kernel
theorem dX11_buoy_26 : decode cX11_buoy 26 = .ok (.iload_n 2, 1) := by decide +kernel
theorem dX11_buoy_27 : decode cX11_buoy 27 = .ok (.tableswitch 109 0 8 #[49, 58, 67, 109, 109, 109, 76, 86, 96], 49) := by decide +kernel
theorem dX11_buoy_76 : decode cX11_buoy 76 = .ok (.aload_n 0, 1) := by decide +kernel
theorem dX11_buoy_77 : decode cX11_buoy 77 = .ok (.getfield 19, 3) := by decide +kernel
theorem dX11_buoy_80 : decode cX11_buoy 80 = .ok (.iload_n 1, 1) := by decide +kernel
theorem dX11_buoy_81 : decode cX11_buoy 81 = .ok (.invokevirtual 169, 3) := by decide +kernel
theorem dX11_buoy_84 : decode cX11_buoy 84 = .ok (.ireturn, 1) := by decide +kernel
theorem dX11_buoy_85 : decode cX11_buoy 85 = .ok (.aload_n 0, 1) := by decide +kernel
theorem dX11_buoy_86 : decode cX11_buoy 86 = .ok (.getfield 19, 3) := by decide +kernel
theorem dX11_buoy_89 : decode cX11_buoy 89 = .ok (.iload_n 1, 1) := by decide +kernel
theorem dX11_buoy_90 : decode cX11_buoy 90 = .ok (.invokevirtual 172, 3) := by decide +kernel
theorem dX11_buoy_93 : decode cX11_buoy 93 = .ok (.ireturn, 1) := by decide +kernel
theorem dX11_buoy_94 : decode cX11_buoy 94 = .ok (.aload_n 0, 1) := by decide +kernel
theorem dX11_buoy_95 : decode cX11_buoy 95 = .ok (.getfield 19, 3) := by decide +kernel
theorem dX11_buoy_98 : decode cX11_buoy 98 = .ok (.iload_n 1, 1) := by decide +kernel
theorem dX11_buoy_99 : decode cX11_buoy 99 = .ok (.invokevirtual 175, 3) := by decide +kernel
theorem dX11_buoy_102 : decode cX11_buoy 102 = .ok (.ireturn, 1) := by decide +kernel
theorem dX11_buoy_103 : decode cX11_buoy 103 = .ok (.aload_n 0, 1) := by decide +kernel
theorem dX11_buoy_104 : decode cX11_buoy 104 = .ok (.getfield 52, 3) := by decide +kernel
theorem dX11_buoy_107 : decode cX11_buoy 107 = .ok (.getfield 178, 3) := by decide +kernel
theorem dX11_buoy_110 : decode cX11_buoy 110 = .ok (.iload_n 1, 1) := by decide +kernel
theorem dX11_buoy_111 : decode cX11_buoy 111 = .ok (.iaload, 1) := by decide +kernel
theorem dX11_buoy_112 : decode cX11_buoy 112 = .ok (.ireturn, 1) := by decide +kernel
theorem dX11_buoy_113 : decode cX11_buoy 113 = .ok (.aload_n 0, 1) := by decide +kernel
theorem dX11_buoy_114 : decode cX11_buoy 114 = .ok (.getfield 52, 3) := by decide +kernel
theorem dX11_buoy_117 : decode cX11_buoy 117 = .ok (.getfield 181, 3) := by decide +kernel
theorem dX11_buoy_120 : decode cX11_buoy 120 = .ok (.iload_n 1, 1) := by decide +kernel
theorem dX11_buoy_121 : decode cX11_buoy 121 = .ok (.iaload, 1) := by decide +kernel
theorem dX11_buoy_122 : decode cX11_buoy 122 = .ok (.ireturn, 1) := by decide +kernel
theorem dX11_buoy_123 : decode cX11_buoy 123 = .ok (.aload_n 0, 1) := by decide +kernel
theorem dX11_buoy_124 : decode cX11_buoy 124 = .ok (.getfield 45, 3) := by decide +kernel
theorem dX11_buoy_127 : decode cX11_buoy 127 = .ok (.aload_n 0, 1) := by decide +kernel
theorem dX11_buoy_128 : decode cX11_buoy 128 = .ok (.getfield 52, 3) := by decide +kernel
theorem dX11_buoy_131 : decode cX11_buoy 131 = .ok (.iload_n 1, 1) := by decide +kernel
theorem dX11_buoy_132 : decode cX11_buoy 132 = .ok (.invokevirtual 184, 3) := by decide +kernel
theorem dX11_buoy_135 : decode cX11_buoy 135 = .ok (.ireturn, 1) := by decide +kernel
theorem dX11_buoy_136 : decode cX11_buoy 136 = .ok (.aload_n 0, 1) := by decide +kernel
theorem dX11_buoy_137 : decode cX11_buoy 137 = .ok (.getfield 52, 3) := by decide +kernel
theorem dX11_buoy_140 : decode cX11_buoy 140 = .ok (.getfield 188, 3) := by decide +kernel
theorem dX11_buoy_143 : decode cX11_buoy 143 = .ok (.iload_n 1, 1) := by decide +kernel
theorem dX11_buoy_144 : decode cX11_buoy 144 = .ok (.iconst 3, 1) := by decide +kernel
theorem dX11_buoy_145 : decode cX11_buoy 145 = .ok (.imul, 1) := by decide +kernel
theorem dX11_buoy_146 : decode cX11_buoy 146 = .ok (.iload_n 2, 1) := by decide +kernel
theorem dX11_buoy_147 : decode cX11_buoy 147 = .ok (.iadd, 1) := by decide +kernel
theorem dX11_buoy_148 : decode cX11_buoy 148 = .ok (.iconst 3, 1) := by decide +kernel
theorem dX11_buoy_149 : decode cX11_buoy 149 = .ok (.isub, 1) := by decide +kernel
theorem dX11_buoy_150 : decode cX11_buoy 150 = .ok (.iaload, 1) := by decide +kernel
theorem dX11_buoy_151 : decode cX11_buoy 151 = .ok (.ireturn, 1) := by decide +kernel
theorem dX11_boat_0 : decode cX11_boat 0 = .ok (.aload_n 0, 1) := by decide +kernel
theorem dX11_boat_1 : decode cX11_boat 1 = .ok (.iload_n 1, 1) := by decide +kernel
theorem dX11_boat_2 : decode cX11_boat 2 = .ok (.invokevirtual 191, 3) := by decide +kernel
theorem dX11_boat_5 : decode cX11_boat 5 = .ok (.ifCond .ne 5, 3) := by decide +kernel
theorem dX11_boat_8 : decode cX11_boat 8 = .ok (.iconst (-1), 1) := by decide +kernel
theorem dX11_boat_9 : decode cX11_boat 9 = .ok (.ireturn, 1) := by decide +kernel
theorem dX11_law_0 : decode cX11_law 0 = .ok (.iload_n 1, 1) := by decide +kernel
theorem dX11_law_1 : decode cX11_law 1 = .ok (.iconst (-1), 1) := by decide +kernel
theorem dX11_law_2 : decode cX11_law 2 = .ok (.aload_n 0, 1) := by decide +kernel
theorem dX11_law_3 : decode cX11_law 3 = .ok (.getfield 29, 3) := by decide +kernel
theorem dX11_law_6 : decode cX11_law 6 = .ok (.getfield 218, 3) := by decide +kernel
theorem dX11_law_9 : decode cX11_law 9 = .ok (.iconst 1, 1) := by decide +kernel
theorem dX11_law_10 : decode cX11_law 10 = .ok (.isub, 1) := by decide +kernel
theorem dX11_law_11 : decode cX11_law 11 = .ok (.invokestatic 111, 3) := by decide +kernel
theorem dX11_law_14 : decode cX11_law 14 = .ok (.ifCond .ne 5, 3) := by decide +kernel
theorem dX11_law_17 : decode cX11_law 17 = .ok (.iconst 0, 1) := by decide +kernel
theorem dX11_law_18 : decode cX11_law 18 = .ok (.ireturn, 1) := by decide +kernel
theorem dX11_law_19 : decode cX11_law 19 = .ok (.aload_n 0, 1) := by decide +kernel
theorem dX11_law_20 : decode cX11_law 20 = .ok (.getfield 29, 3) := by decide +kernel
theorem dX11_law_23 : decode cX11_law 23 = .ok (.iload_n 1, 1) := by decide +kernel
theorem dX11_law_24 : decode cX11_law 24 = .ok (.putfield 221, 3) := by decide +kernel
theorem dX11_law_27 : decode cX11_law 27 = .ok (.iconst 1, 1) := by decide +kernel
theorem dX11_law_28 : decode cX11_law 28 = .ok (.ireturn, 1) := by decide +kernel
theorem dX11_pull_0 : decode cX11_pull 0 = .ok (.aload_n 0, 1) := by decide +kernel
theorem dX11_pull_1 : decode cX11_pull 1 = .ok (.iload_n 1, 1) := by decide +kernel
theorem dX11_pull_2 : decode cX11_pull 2 = .ok (.invokevirtual 163, 3) := by decide +kernel
theorem dX11_pull_5 : decode cX11_pull 5 = .ok (.ifCond .eq 27, 3) := by decide +kernel
theorem dX11_pull_32 : decode cX11_pull 32 = .ok (.ldc 228, 2) := by decide +kernel
theorem dX11_pull_34 : decode cX11_pull 34 = .ok (.ireturn, 1) := by decide +kernel
theorem dX11_push_0 : decode cX11_push 0 = .ok (.aload_n 0, 1) := by decide +kernel
theorem dX11_push_1 : decode cX11_push 1 = .ok (.iload_n 1, 1) := by decide +kernel
theorem dX11_push_2 : decode cX11_push 2 = .ok (.invokevirtual 163, 3) := by decide +kernel
theorem dX11_push_5 : decode cX11_push 5 = .ok (.ifCond .eq 27, 3) := by decide +kernel
theorem dX11_push_32 : decode cX11_push 32 = .ok (.ldc 228, 2) := by decide +kernel
theorem dX11_push_34 : decode cX11_push 34 = .ok (.ireturn, 1) := by decide +kernel
theorem dX11_row_0 : decode cX11_row 0 = .ok (.aload_n 0, 1) := by decide +kernel
theorem dX11_row_1 : decode cX11_row 1 = .ok (.aload_n 0, 1) := by decide +kernel
theorem dX11_row_2 : decode cX11_row 2 = .ok (.getfield 52, 3) := by decide +kernel
theorem dX11_row_5 : decode cX11_row 5 = .ok (.iload_n 1, 1) := by decide +kernel
theorem dX11_row_6 : decode cX11_row 6 = .ok (.iload_n 2, 1) := by decide +kernel
theorem dX11_row_7 : decode cX11_row 7 = .ok (.iload_n 3, 1) := by decide +kernel
theorem dX11_row_8 : decode cX11_row 8 = .ok (.invokevirtual 232, 3) := by decide +kernel
theorem dX11_row_11 : decode cX11_row 11 = .ok (.ifCond .ne 5, 3) := by decide +kernel
theorem dX11_row_14 : decode cX11_row 14 = .ok (.iconst (-1), 1) := by decide +kernel
theorem dX11_row_15 : decode cX11_row 15 = .ok (.ireturn, 1) := by decide +kernel
theorem dX11_sing_0 : decode cX11_sing 0 = .ok (.aload_n 0, 1) := by decide +kernel
theorem dX11_sing_1 : decode cX11_sing 1 = .ok (.aload_n 0, 1) := by decide +kernel
theorem dX11_sing_2 : decode cX11_sing 2 = .ok (.getfield 52, 3) := by decide +kernel
theorem dX11_sing_5 : decode cX11_sing 5 = .ok (.iload_n 1, 1) := by decide +kernel
theorem dX11_sing_6 : decode cX11_sing 6 = .ok (.iload_n 2, 1) := by decide +kernel
theorem dX11_sing_7 : decode cX11_sing 7 = .ok (.invokevirtual 248, 3) := by decide +kernel
theorem dX11_sing_10 : decode cX11_sing 10 = .ok (.ifCond .ne 5, 3) := by decide +kernel
theorem dX11_sing_13 : decode cX11_sing 13 = .ok (.iconst (-1), 1) := by decide +kernel
theorem dX11_sing_14 : decode cX11_sing 14 = .ok (.ireturn, 1) := by decide +kernel
theorem dX11_scrape_0 : decode cX11_scrape 0 = .ok (.aload_n 0, 1) := by decide +kernel
theorem dX11_scrape_1 : decode cX11_scrape 1 = .ok (.aload_n 0, 1) := by decide +kernel
theorem dX11_scrape_2 : decode cX11_scrape 2 = .ok (.getfield 52, 3) := by decide +kernel
theorem dX11_scrape_5 : decode cX11_scrape 5 = .ok (.iload_n 1, 1) := by decide +kernel
theorem dX11_scrape_6 : decode cX11_scrape 6 = .ok (.iload_n 2, 1) := by decide +kernel
theorem dX11_scrape_7 : decode cX11_scrape 7 = .ok (.invokevirtual 256, 3) := by decide +kernel
theorem dX11_scrape_10 : decode cX11_scrape 10 = .ok (.ifCond .ne 5, 3) := by decide +kernel
theorem dX11_scrape_13 : decode cX11_scrape 13 = .ok (.iconst (-1), 1) := by decide +kernel
theorem dX11_scrape_14 : decode cX11_scrape 14 = .ok (.ireturn, 1) := by decide +kernel
theorem dX11_wind_0 : decode cX11_wind 0 = .ok (.aload_n 0, 1) := by decide +kernel
theorem dX11_wind_1 : decode cX11_wind 1 = .ok (.invokevirtual 140, 3) := by decide +kernel
theorem dX11_wind_4 : decode cX11_wind 4 = .ok (.ifCond .eq 22, 3) := by decide +kernel
theorem dX11_wind_26 : decode cX11_wind 26 = .ok (.iconst 0, 1) := by decide +kernel
theorem dX11_wind_27 : decode cX11_wind 27 = .ok (.ireturn, 1) := by decide +kernel
theorem dX11_hours_0 : decode cX11_hours 0 = .ok (.aload_n 0, 1) := by decide +kernel
theorem dX11_hours_1 : decode cX11_hours 1 = .ok (.iload_n 1, 1) := by decide +kernel
theorem dX11_hours_2 : decode cX11_hours 2 = .ok (.invokevirtual 259, 3) := by decide +kernel
theorem dX11_hours_5 : decode cX11_hours 5 = .ok (.ifCond .ne 5, 3) := by decide +kernel
theorem dX11_hours_8 : decode cX11_hours 8 = .ok (.iconst (-1), 1) := by decide +kernel
theorem dX11_hours_9 : decode cX11_hours 9 = .ok (.ireturn, 1) := by decide +kernel
theorem dX11_years_0 : decode cX11_years 0 = .ok (.aload_n 0, 1) := by decide +kernel
theorem dX11_years_1 : decode cX11_years 1 = .ok (.iload_n 1, 1) := by decide +kernel
theorem dX11_years_2 : decode cX11_years 2 = .ok (.invokevirtual 259, 3) := by decide +kernel
theorem dX11_years_5 : decode cX11_years 5 = .ok (.ifCond .ne 5, 3) := by decide +kernel
theorem dX11_years_8 : decode cX11_years 8 = .ok (.iconst (-1), 1) := by decide +kernel
theorem dX11_years_9 : decode cX11_years 9 = .ok (.ireturn, 1) := by decide +kernel
theorem dX11_undo_0 : decode cX11_undo 0 = .ok (.aload_n 0, 1) := by decide +kernel
theorem dX11_undo_1 : decode cX11_undo 1 = .ok (.getfield 62, 3) := by decide +kernel
theorem dX11_undo_4 : decode cX11_undo 4 = .ok (.aload_n 0, 1) := by decide +kernel
theorem dX11_undo_5 : decode cX11_undo 5 = .ok (.getfield 52, 3) := by decide +kernel
theorem dX11_undo_8 : decode cX11_undo 8 = .ok (.invokevirtual 278, 3) := by decide +kernel
theorem dX11_undo_11 : decode cX11_undo 11 = .ok (.ifCond .eq 13, 3) := by decide +kernel
theorem dX11_undo_24 : decode cX11_undo 24 = .ok (.iconst (-1), 1) := by decide +kernel
theorem dX11_undo_25 : decode cX11_undo 25 = .ok (.ireturn, 1) := by decide +kernel
theorem dX11_log_0 : decode cX11_log 0 = .ok (.iload_n 1, 1) := by decide +kernel
theorem dX11_log_1 : decode cX11_log 1 = .ok (.iconst 0, 1) := by decide +kernel
theorem dX11_log_2 : decode cX11_log 2 = .ok (.aload_n 0, 1) := by decide +kernel
theorem dX11_log_3 : decode cX11_log 3 = .ok (.getfield 52, 3) := by decide +kernel
theorem dX11_log_6 : decode cX11_log 6 = .ok (.invokevirtual 285, 3) := by decide +kernel
theorem dX11_log_9 : decode cX11_log 9 = .ok (.iconst 1, 1) := by decide +kernel
theorem dX11_log_10 : decode cX11_log 10 = .ok (.isub, 1) := by decide +kernel
theorem dX11_log_11 : decode cX11_log 11 = .ok (.invokestatic 111, 3) := by decide +kernel
theorem dX11_log_14 : decode cX11_log 14 = .ok (.ifCond .eq 12, 3) := by decide +kernel
theorem dX11_log_26 : decode cX11_log 26 = .ok (.iconst (-1), 1) := by decide +kernel
theorem dX11_log_27 : decode cX11_log 27 = .ok (.ireturn, 1) := by decide +kernel
theorem dX11_step_0 : decode cX11_step 0 = .ok (.aload_n 0, 1) := by decide +kernel
theorem dX11_step_1 : decode cX11_step 1 = .ok (.iload_n 1, 1) := by decide +kernel
theorem dX11_step_2 : decode cX11_step 2 = .ok (.invokevirtual 293, 3) := by decide +kernel
theorem dX11_step_5 : decode cX11_step 5 = .ok (.ifCond .eq 31, 3) := by decide +kernel
theorem dX11_step_36 : decode cX11_step 36 = .ok (.ldc 228, 2) := by decide +kernel
theorem dX11_step_38 : decode cX11_step 38 = .ok (.ireturn, 1) := by decide +kernel
theorem dX11_run_0 : decode cX11_run 0 = .ok (.aload_n 0, 1) := by decide +kernel
theorem dX11_run_1 : decode cX11_run 1 = .ok (.iload_n 1, 1) := by decide +kernel
theorem dX11_run_2 : decode cX11_run 2 = .ok (.invokevirtual 293, 3) := by decide +kernel
theorem dX11_run_5 : decode cX11_run 5 = .ok (.ifCond .eq 19, 3) := by decide +kernel
theorem dX11_run_24 : decode cX11_run 24 = .ok (.ldc 228, 2) := by decide +kernel
theorem dX11_run_26 : decode cX11_run 26 = .ok (.ireturn, 1) := by decide +kernel
theorem dX11_perform_0 : decode cX11_perform 0 = .ok (.aload_n 0, 1) := by decide +kernel
theorem dX11_perform_1 : decode cX11_perform 1 = .ok (.iload_n 1, 1) := by decide +kernel
theorem dX11_perform_2 : decode cX11_perform 2 = .ok (.invokevirtual 293, 3) := by decide +kernel
theorem dX11_perform_5 : decode cX11_perform 5 = .ok (.ifCond .eq 10, 3) := by decide +kernel
theorem dX11_perform_15 : decode cX11_perform 15 = .ok (.iconst (-1), 1) := by decide +kernel
theorem dX11_perform_16 : decode cX11_perform 16 = .ok (.ireturn, 1) := by decide +kernel
theorem dX11_votes_0 : decode cX11_votes 0 = .ok (.aload_n 0, 1) := by decide +kernel
theorem dX11_votes_1 : decode cX11_votes 1 = .ok (.iload_n 1, 1) := by decide +kernel
theorem dX11_votes_2 : decode cX11_votes 2 = .ok (.invokevirtual 191, 3) := by decide +kernel
theorem dX11_votes_5 : decode cX11_votes 5 = .ok (.ifCond .ne 5, 3) := by decide +kernel
theorem dX11_votes_8 : decode cX11_votes 8 = .ok (.iconst (-1), 1) := by decide +kernel
theorem dX11_votes_9 : decode cX11_votes 9 = .ok (.ireturn, 1) := by decide +kernel
theorem dX11_leader_0 : decode cX11_leader 0 = .ok (.aload_n 0, 1) := by decide +kernel
theorem dX11_leader_1 : decode cX11_leader 1 = .ok (.invokevirtual 140, 3) := by decide +kernel
theorem dX11_leader_4 : decode cX11_leader 4 = .ok (.ifCond .ne 5, 3) := by decide +kernel
theorem dX11_leader_7 : decode cX11_leader 7 = .ok (.iconst (-1), 1) := by decide +kernel
theorem dX11_leader_8 : decode cX11_leader 8 = .ok (.ireturn, 1) := by decide +kernel
theorem dX11_ahead_0 : decode cX11_ahead 0 = .ok (.aload_n 0, 1) := by decide +kernel
theorem dX11_ahead_1 : decode cX11_ahead 1 = .ok (.iload_n 1, 1) := by decide +kernel
theorem dX11_ahead_2 : decode cX11_ahead 2 = .ok (.invokevirtual 163, 3) := by decide +kernel
theorem dX11_ahead_5 : decode cX11_ahead 5 = .ok (.ifCond .eq 13, 3) := by decide +kernel
theorem dX11_ahead_18 : decode cX11_ahead 18 = .ok (.ldc 228, 2) := by decide +kernel
theorem dX11_ahead_20 : decode cX11_ahead 20 = .ok (.ireturn, 1) := by decide +kernel
theorem dX11_soon_0 : decode cX11_soon 0 = .ok (.aload_n 0, 1) := by decide +kernel
theorem dX11_soon_1 : decode cX11_soon 1 = .ok (.iload_n 1, 1) := by decide +kernel
theorem dX11_soon_2 : decode cX11_soon 2 = .ok (.invokevirtual 191, 3) := by decide +kernel
theorem dX11_soon_5 : decode cX11_soon 5 = .ok (.ifCond .eq 11, 3) := by decide +kernel
theorem dX11_soon_16 : decode cX11_soon 16 = .ok (.iconst (-1), 1) := by decide +kernel
theorem dX11_soon_17 : decode cX11_soon 17 = .ok (.ireturn, 1) := by decide +kernel
theorem dX11_round_0 : decode cX11_round 0 = .ok (.aload_n 0, 1) := by decide +kernel
theorem dX11_round_1 : decode cX11_round 1 = .ok (.iload_n 1, 1) := by decide +kernel
theorem dX11_round_2 : decode cX11_round 2 = .ok (.invokevirtual 191, 3) := by decide +kernel
theorem dX11_round_5 : decode cX11_round 5 = .ok (.ifCond .eq 31, 3) := by decide +kernel
theorem dX11_round_36 : decode cX11_round 36 = .ok (.iconst (-1), 1) := by decide +kernel
theorem dX11_round_37 : decode cX11_round 37 = .ok (.ireturn, 1) := by decide +kernel
theorem dX11_best_0 : decode cX11_best 0 = .ok (.aload_n 0, 1) := by decide +kernel
theorem dX11_best_1 : decode cX11_best 1 = .ok (.iload_n 1, 1) := by decide +kernel
theorem dX11_best_2 : decode cX11_best 2 = .ok (.invokevirtual 191, 3) := by decide +kernel
theorem dX11_best_5 : decode cX11_best 5 = .ok (.ifCond .eq 12, 3) := by decide +kernel
theorem dX11_best_17 : decode cX11_best 17 = .ok (.iconst (-1), 1) := by decide +kernel
theorem dX11_best_18 : decode cX11_best 18 = .ok (.ireturn, 1) := by decide +kernel
theorem dX11_game_0 : decode cX11_game 0 = .ok (.aload_n 0, 1) := by decide +kernel
theorem dX11_game_1 : decode cX11_game 1 = .ok (.iload_n 1, 1) := by decide +kernel
theorem dX11_game_2 : decode cX11_game 2 = .ok (.iload_n 2, 1) := by decide +kernel
theorem dX11_game_3 : decode cX11_game 3 = .ok (.invokevirtual 342, 3) := by decide +kernel
theorem dX11_game_6 : decode cX11_game 6 = .ok (.ifCond .eq 30, 3) := by decide +kernel
theorem dX11_game_36 : decode cX11_game 36 = .ok (.iconst (-1), 1) := by decide +kernel
theorem dX11_game_37 : decode cX11_game 37 = .ok (.ireturn, 1) := by decide +kernel
theorem dX11_rests_0 : decode cX11_rests 0 = .ok (.aload_n 0, 1) := by decide +kernel
theorem dX11_rests_1 : decode cX11_rests 1 = .ok (.iload_n 1, 1) := by decide +kernel
theorem dX11_rests_2 : decode cX11_rests 2 = .ok (.iload_n 2, 1) := by decide +kernel
theorem dX11_rests_3 : decode cX11_rests 3 = .ok (.invokevirtual 342, 3) := by decide +kernel
theorem dX11_rests_6 : decode cX11_rests 6 = .ok (.ifCond .eq 8, 3) := by decide +kernel
theorem dX11_rests_14 : decode cX11_rests 14 = .ok (.iconst (-1), 1) := by decide +kernel
theorem dX11_rests_15 : decode cX11_rests 15 = .ok (.ireturn, 1) := by decide +kernel
theorem dX11_holds_0 : decode cX11_holds 0 = .ok (.aload_n 0, 1) := by decide +kernel
theorem dX11_holds_1 : decode cX11_holds 1 = .ok (.iload_n 1, 1) := by decide +kernel
theorem dX11_holds_2 : decode cX11_holds 2 = .ok (.iload_n 2, 1) := by decide +kernel
theorem dX11_holds_3 : decode cX11_holds 3 = .ok (.invokevirtual 342, 3) := by decide +kernel
theorem dX11_holds_6 : decode cX11_holds 6 = .ok (.ifCond .eq 12, 3) := by decide +kernel
theorem dX11_holds_18 : decode cX11_holds 18 = .ok (.ldc 228, 2) := by decide +kernel
theorem dX11_holds_20 : decode cX11_holds 20 = .ok (.ireturn, 1) := by decide +kernel
theorem dX11_seen_0 : decode cX11_seen 0 = .ok (.aload_n 0, 1) := by decide +kernel
theorem dX11_seen_1 : decode cX11_seen 1 = .ok (.iload_n 1, 1) := by decide +kernel
theorem dX11_seen_2 : decode cX11_seen 2 = .ok (.invokevirtual 163, 3) := by decide +kernel
theorem dX11_seen_5 : decode cX11_seen 5 = .ok (.ifCond .eq 33, 3) := by decide +kernel
theorem dX11_seen_38 : decode cX11_seen 38 = .ok (.iconst (-1), 1) := by decide +kernel
theorem dX11_seen_39 : decode cX11_seen 39 = .ok (.ireturn, 1) := by decide +kernel
theorem dX11_likes_0 : decode cX11_likes 0 = .ok (.aload_n 0, 1) := by decide +kernel
theorem dX11_likes_1 : decode cX11_likes 1 = .ok (.iload_n 1, 1) := by decide +kernel
theorem dX11_likes_2 : decode cX11_likes 2 = .ok (.invokevirtual 163, 3) := by decide +kernel
theorem dX11_likes_5 : decode cX11_likes 5 = .ok (.ifCond .eq 8, 3) := by decide +kernel
theorem dX11_likes_13 : decode cX11_likes 13 = .ok (.iconst (-1), 1) := by decide +kernel
theorem dX11_likes_14 : decode cX11_likes 14 = .ok (.ireturn, 1) := by decide +kernel
theorem dX11_ask_0 : decode cX11_ask 0 = .ok (.aload_n 0, 1) := by decide +kernel
theorem dX11_ask_1 : decode cX11_ask 1 = .ok (.iload_n 1, 1) := by decide +kernel
theorem dX11_ask_2 : decode cX11_ask 2 = .ok (.invokevirtual 163, 3) := by decide +kernel
theorem dX11_ask_5 : decode cX11_ask 5 = .ok (.ifCond .eq 14, 3) := by decide +kernel
theorem dX11_ask_19 : decode cX11_ask 19 = .ok (.iconst (-1), 1) := by decide +kernel
theorem dX11_ask_20 : decode cX11_ask 20 = .ok (.ireturn, 1) := by decide +kernel
theorem dX11_blown_0 : decode cX11_blown 0 = .ok (.iload_n 1, 1) := by decide +kernel
theorem dX11_blown_1 : decode cX11_blown 1 = .ok (.iconst 0, 1) := by decide +kernel
theorem dX11_blown_2 : decode cX11_blown 2 = .ok (.bipush 18, 2) := by decide +kernel
theorem dX11_blown_4 : decode cX11_blown 4 = .ok (.invokestatic 111, 3) := by decide +kernel
theorem dX11_blown_7 : decode cX11_blown 7 = .ok (.ifCond .eq 12, 3) := by decide +kernel
theorem dX11_blown_10 : decode cX11_blown 10 = .ok (.iload_n 2, 1) := by decide +kernel
theorem dX11_blown_11 : decode cX11_blown 11 = .ok (.iconst 0, 1) := by decide +kernel
theorem dX11_blown_12 : decode cX11_blown 12 = .ok (.iload_n 1, 1) := by decide +kernel
theorem dX11_blown_13 : decode cX11_blown 13 = .ok (.invokestatic 111, 3) := by decide +kernel
theorem dX11_blown_16 : decode cX11_blown 16 = .ok (.ifCond .ne 5, 3) := by decide +kernel
theorem dX11_blown_19 : decode cX11_blown 19 = .ok (.iconst (-1), 1) := by decide +kernel
theorem dX11_blown_20 : decode cX11_blown 20 = .ok (.ireturn, 1) := by decide +kernel
theorem dX11_blown_21 : decode cX11_blown 21 = .ok (.lconst 1, 1) := by decide +kernel
theorem dX11_blown_22 : decode cX11_blown 22 = .ok (.iload_n 1, 1) := by decide +kernel
theorem dX11_blown_23 : decode cX11_blown 23 = .ok (.iconst 2, 1) := by decide +kernel
theorem dX11_blown_24 : decode cX11_blown 24 = .ok (.iload_n 2, 1) := by decide +kernel
theorem dX11_blown_25 : decode cX11_blown 25 = .ok (.imul, 1) := by decide +kernel
theorem dX11_blown_26 : decode cX11_blown 26 = .ok (.iadd, 1) := by decide +kernel
theorem dX11_blown_27 : decode cX11_blown 27 = .ok (.lshl, 1) := by decide +kernel
theorem dX11_blown_28 : decode cX11_blown 28 = .ok (.lstore_n 3, 1) := by decide +kernel
theorem dX11_blown_29 : decode cX11_blown 29 = .ok (.lconst 1, 1) := by decide +kernel
theorem dX11_blown_30 : decode cX11_blown 30 = .ok (.lstore 5, 2) := by decide +kernel
theorem dX11_blown_32 : decode cX11_blown 32 = .ok (.iconst 0, 1) := by decide +kernel
theorem dX11_blown_33 : decode cX11_blown 33 = .ok (.istore 7, 2) := by decide +kernel
theorem dX11_blown_35 : decode cX11_blown 35 = .ok (.iload 7, 2) := by decide +kernel
theorem dX11_blown_37 : decode cX11_blown 37 = .ok (.iload_n 1, 1) := by decide +kernel
theorem dX11_blown_38 : decode cX11_blown 38 = .ok (.if_icmp .ge 17, 3) := by decide +kernel
theorem dX11_blown_41 : decode cX11_blown 41 = .ok (.lload 5, 2) := by decide +kernel
theorem dX11_blown_43 : decode cX11_blown 43 = .ok (.ldc2_w 373, 3) := by decide +kernel
theorem dX11_blown_46 : decode cX11_blown 46 = .ok (.lmul, 1) := by decide +kernel
theorem dX11_blown_47 : decode cX11_blown 47 = .ok (.lstore 5, 2) := by decide +kernel
theorem dX11_blown_49 : decode cX11_blown 49 = .ok (.iinc 7 1, 3) := by decide +kernel
theorem dX11_blown_52 : decode cX11_blown 52 = .ok (.goto (-17), 3) := by decide +kernel
theorem dX11_blown_55 : decode cX11_blown 55 = .ok (.lload_n 3, 1) := by decide +kernel
theorem dX11_blown_56 : decode cX11_blown 56 = .ok (.lload 5, 2) := by decide +kernel
theorem dX11_blown_58 : decode cX11_blown 58 = .ok (.ladd, 1) := by decide +kernel
theorem dX11_blown_59 : decode cX11_blown 59 = .ok (.lstore 7, 2) := by decide +kernel
theorem dX11_blown_61 : decode cX11_blown 61 = .ok (.lload_n 3, 1) := by decide +kernel
theorem dX11_blown_62 : decode cX11_blown 62 = .ok (.lstore 9, 2) := by decide +kernel
theorem dX11_blown_64 : decode cX11_blown 64 = .ok (.iconst 0, 1) := by decide +kernel
theorem dX11_blown_65 : decode cX11_blown 65 = .ok (.istore 11, 2) := by decide +kernel
theorem dX11_blown_67 : decode cX11_blown 67 = .ok (.iconst 0, 1) := by decide +kernel
theorem dX11_blown_68 : decode cX11_blown 68 = .ok (.istore 12, 2) := by decide +kernel
theorem dX11_blown_70 : decode cX11_blown 70 = .ok (.iload 12, 2) := by decide +kernel
theorem dX11_blown_72 : decode cX11_blown 72 = .ok (.bipush 6, 2) := by decide +kernel
theorem dX11_blown_74 : decode cX11_blown 74 = .ok (.if_icmp .ge 45, 3) := by decide +kernel
theorem dX11_blown_77 : decode cX11_blown 77 = .ok (.lload 7, 2) := by decide +kernel
theorem dX11_blown_79 : decode cX11_blown 79 = .ok (.lconst 0, 1) := by decide +kernel
theorem dX11_blown_80 : decode cX11_blown 80 = .ok (.lcmp, 1) := by decide +kernel
theorem dX11_blown_81 : decode cX11_blown 81 = .ok (.ifCond .le 38, 3) := by decide +kernel
theorem dX11_blown_84 : decode cX11_blown 84 = .ok (.lload 9, 2) := by decide +kernel
theorem dX11_blown_86 : decode cX11_blown 86 = .ok (.ldc2_w 375, 3) := by decide +kernel
theorem dX11_blown_89 : decode cX11_blown 89 = .ok (.lmul, 1) := by decide +kernel
theorem dX11_blown_90 : decode cX11_blown 90 = .ok (.lstore 9, 2) := by decide +kernel
theorem dX11_blown_92 : decode cX11_blown 92 = .ok (.iload 11, 2) := by decide +kernel
theorem dX11_blown_94 : decode cX11_blown 94 = .ok (.bipush 10, 2) := by decide +kernel
theorem dX11_blown_96 : decode cX11_blown 96 = .ok (.imul, 1) := by decide +kernel
theorem dX11_blown_97 : decode cX11_blown 97 = .ok (.lload 9, 2) := by decide +kernel
theorem dX11_blown_99 : decode cX11_blown 99 = .ok (.lload 7, 2) := by decide +kernel
theorem dX11_blown_101 : decode cX11_blown 101 = .ok (.ldiv, 1) := by decide +kernel
theorem dX11_blown_102 : decode cX11_blown 102 = .ok (.l2i, 1) := by decide +kernel
theorem dX11_blown_103 : decode cX11_blown 103 = .ok (.iadd, 1) := by decide +kernel
theorem dX11_blown_104 : decode cX11_blown 104 = .ok (.istore 11, 2) := by decide +kernel
theorem dX11_blown_106 : decode cX11_blown 106 = .ok (.lload 9, 2) := by decide +kernel
theorem dX11_blown_108 : decode cX11_blown 108 = .ok (.lload 7, 2) := by decide +kernel
theorem dX11_blown_110 : decode cX11_blown 110 = .ok (.lrem, 1) := by decide +kernel
theorem dX11_blown_111 : decode cX11_blown 111 = .ok (.lstore 9, 2) := by decide +kernel
theorem dX11_blown_113 : decode cX11_blown 113 = .ok (.iinc 12 1, 3) := by decide +kernel
theorem dX11_blown_116 : decode cX11_blown 116 = .ok (.goto (-46), 3) := by decide +kernel
theorem dX11_blown_119 : decode cX11_blown 119 = .ok (.iload 11, 2) := by decide +kernel
theorem dX11_blown_121 : decode cX11_blown 121 = .ok (.ireturn, 1) := by decide +kernel
theorem dX11_washed_0 : decode cX11_washed 0 = .ok (.aload_n 0, 1) := by decide +kernel
theorem dX11_washed_1 : decode cX11_washed 1 = .ok (.invokevirtual 140, 3) := by decide +kernel
theorem dX11_washed_4 : decode cX11_washed 4 = .ok (.ifCond .eq 28, 3) := by decide +kernel
theorem dX11_washed_32 : decode cX11_washed 32 = .ok (.iconst (-1), 1) := by decide +kernel
theorem dX11_washed_33 : decode cX11_washed 33 = .ok (.ireturn, 1) := by decide +kernel
theorem dX11_watch_0 : decode cX11_watch 0 = .ok (.aload_n 0, 1) := by decide +kernel
theorem dX11_watch_1 : decode cX11_watch 1 = .ok (.invokevirtual 140, 3) := by decide +kernel
theorem dX11_watch_4 : decode cX11_watch 4 = .ok (.ifCond .eq 24, 3) := by decide +kernel
theorem dX11_watch_28 : decode cX11_watch 28 = .ok (.iconst (-1), 1) := by decide +kernel
theorem dX11_watch_29 : decode cX11_watch 29 = .ok (.ireturn, 1) := by decide +kernel
theorem dX11_fair_0 : decode cX11_fair 0 = .ok (.aload_n 0, 1) := by decide +kernel
theorem dX11_fair_1 : decode cX11_fair 1 = .ok (.invokevirtual 140, 3) := by decide +kernel
theorem dX11_fair_4 : decode cX11_fair 4 = .ok (.ifCond .eq 22, 3) := by decide +kernel
theorem dX11_fair_26 : decode cX11_fair 26 = .ok (.iconst (-1), 1) := by decide +kernel
theorem dX11_fair_27 : decode cX11_fair 27 = .ok (.ireturn, 1) := by decide +kernel
theorem dX11_buoys_0 : decode cX11_buoys 0 = .ok (.aload_n 0, 1) := by decide +kernel
theorem dX11_buoys_1 : decode cX11_buoys 1 = .ok (.invokevirtual 140, 3) := by decide +kernel
theorem dX11_buoys_4 : decode cX11_buoys 4 = .ok (.ifCond .eq 12, 3) := by decide +kernel
theorem dX11_buoys_16 : decode cX11_buoys 16 = .ok (.iconst (-1), 1) := by decide +kernel
theorem dX11_buoys_17 : decode cX11_buoys 17 = .ok (.ireturn, 1) := by decide +kernel
theorem dX11_sways_0 : decode cX11_sways 0 = .ok (.aload_n 0, 1) := by decide +kernel
theorem dX11_sways_1 : decode cX11_sways 1 = .ok (.iload_n 1, 1) := by decide +kernel
theorem dX11_sways_2 : decode cX11_sways 2 = .ok (.invokevirtual 163, 3) := by decide +kernel
theorem dX11_sways_5 : decode cX11_sways 5 = .ok (.ifCond .eq 12, 3) := by decide +kernel
theorem dX11_sways_17 : decode cX11_sways 17 = .ok (.ldc 228, 2) := by decide +kernel
theorem dX11_sways_19 : decode cX11_sways 19 = .ok (.ireturn, 1) := by decide +kernel
theorem dX11_nearest_0 : decode cX11_nearest 0 = .ok (.aload_n 0, 1) := by decide +kernel
theorem dX11_nearest_1 : decode cX11_nearest 1 = .ok (.iload_n 1, 1) := by decide +kernel
theorem dX11_nearest_2 : decode cX11_nearest 2 = .ok (.invokevirtual 191, 3) := by decide +kernel
theorem dX11_nearest_5 : decode cX11_nearest 5 = .ok (.ifCond .ne 5, 3) := by decide +kernel
theorem dX11_nearest_8 : decode cX11_nearest 8 = .ok (.iconst (-1), 1) := by decide +kernel
theorem dX11_nearest_9 : decode cX11_nearest 9 = .ok (.ireturn, 1) := by decide +kernel
theorem dX11_fog_0 : decode cX11_fog 0 = .ok (.aload_n 0, 1) := by decide +kernel
theorem dX11_fog_1 : decode cX11_fog 1 = .ok (.iload_n 1, 1) := by decide +kernel
theorem dX11_fog_2 : decode cX11_fog 2 = .ok (.invokevirtual 191, 3) := by decide +kernel
theorem dX11_fog_5 : decode cX11_fog 5 = .ok (.ifCond .eq 13, 3) := by decide +kernel
theorem dX11_fog_18 : decode cX11_fog 18 = .ok (.iconst (-1), 1) := by decide +kernel
theorem dX11_fog_19 : decode cX11_fog 19 = .ok (.ireturn, 1) := by decide +kernel
theorem dX11_needs_0 : decode cX11_needs 0 = .ok (.aload_n 0, 1) := by decide +kernel
theorem dX11_needs_1 : decode cX11_needs 1 = .ok (.iload_n 1, 1) := by decide +kernel
theorem dX11_needs_2 : decode cX11_needs 2 = .ok (.invokevirtual 191, 3) := by decide +kernel
theorem dX11_needs_5 : decode cX11_needs 5 = .ok (.ifCond .eq 11, 3) := by decide +kernel
theorem dX11_needs_16 : decode cX11_needs 16 = .ok (.iconst (-1), 1) := by decide +kernel
theorem dX11_needs_17 : decode cX11_needs 17 = .ok (.ireturn, 1) := by decide +kernel
theorem dX11_heard_0 : decode cX11_heard 0 = .ok (.aload_n 0, 1) := by decide +kernel
theorem dX11_heard_1 : decode cX11_heard 1 = .ok (.iload_n 1, 1) := by decide +kernel
theorem dX11_heard_2 : decode cX11_heard 2 = .ok (.invokevirtual 191, 3) := by decide +kernel
theorem dX11_heard_5 : decode cX11_heard 5 = .ok (.ifCond .ne 5, 3) := by decide +kernel
theorem dX11_heard_8 : decode cX11_heard 8 = .ok (.iconst (-1), 1) := by decide +kernel
theorem dX11_heard_9 : decode cX11_heard 9 = .ok (.ireturn, 1) := by decide +kernel
theorem dX11_middle_0 : decode cX11_middle 0 = .ok (.aload_n 0, 1) := by decide +kernel
theorem dX11_middle_1 : decode cX11_middle 1 = .ok (.invokevirtual 140, 3) := by decide +kernel
theorem dX11_middle_4 : decode cX11_middle 4 = .ok (.ifCond .eq 13, 3) := by decide +kernel
theorem dX11_middle_17 : decode cX11_middle 17 = .ok (.iconst (-1), 1) := by decide +kernel
theorem dX11_middle_18 : decode cX11_middle 18 = .ok (.ireturn, 1) := by decide +kernel
theorem dX11_image_0 : decode cX11_image 0 = .ok (.aload_n 0, 1) := by decide +kernel
theorem dX11_image_1 : decode cX11_image 1 = .ok (.invokevirtual 140, 3) := by decide +kernel
theorem dX11_image_4 : decode cX11_image 4 = .ok (.ifCond .ne 5, 3) := by decide +kernel
theorem dX11_image_7 : decode cX11_image 7 = .ok (.iconst (-1), 1) := by decide +kernel
theorem dX11_image_8 : decode cX11_image 8 = .ok (.ireturn, 1) := by decide +kernel
theorem dX11_back_0 : decode cX11_back 0 = .ok (.aload_n 0, 1) := by decide +kernel
theorem dX11_back_1 : decode cX11_back 1 = .ok (.getfield 62, 3) := by decide +kernel
theorem dX11_back_4 : decode cX11_back 4 = .ok (.aload_n 0, 1) := by decide +kernel
theorem dX11_back_5 : decode cX11_back 5 = .ok (.getfield 52, 3) := by decide +kernel
theorem dX11_back_8 : decode cX11_back 8 = .ok (.invokevirtual 425, 3) := by decide +kernel
theorem dX11_back_11 : decode cX11_back 11 = .ok (.ifCond .eq 13, 3) := by decide +kernel
theorem dX11_back_24 : decode cX11_back 24 = .ok (.iconst (-1), 1) := by decide +kernel
theorem dX11_back_25 : decode cX11_back 25 = .ok (.ireturn, 1) := by decide +kernel
theorem dX11_count_0 : decode cX11_count 0 = .ok (.iload_n 1, 1) := by decide +kernel
theorem dX11_count_1 : decode cX11_count 1 = .ok (.tableswitch 199 0 12 #[67, 75, 83, 91, 96, 104, 112, 120, 139, 157, 175, 183, 191], 67) := by decide +kernel
theorem dX11_count_68 : decode cX11_count 68 = .ok (.aload_n 0, 1) := by decide +kernel
theorem dX11_count_69 : decode cX11_count 69 = .ok (.getfield 19, 3) := by decide +kernel
theorem dX11_count_72 : decode cX11_count 72 = .ok (.getfield 275, 3) := by decide +kernel
theorem dX11_count_75 : decode cX11_count 75 = .ok (.ireturn, 1) := by decide +kernel
theorem dX11_count_76 : decode cX11_count 76 = .ok (.aload_n 0, 1) := by decide +kernel
theorem dX11_count_77 : decode cX11_count 77 = .ok (.getfield 19, 3) := by decide +kernel
theorem dX11_count_80 : decode cX11_count 80 = .ok (.getfield 272, 3) := by decide +kernel
theorem dX11_count_83 : decode cX11_count 83 = .ok (.ireturn, 1) := by decide +kernel
theorem dX11_count_84 : decode cX11_count 84 = .ok (.aload_n 0, 1) := by decide +kernel
theorem dX11_count_85 : decode cX11_count 85 = .ok (.getfield 29, 3) := by decide +kernel
theorem dX11_count_88 : decode cX11_count 88 = .ok (.getfield 218, 3) := by decide +kernel
theorem dX11_count_91 : decode cX11_count 91 = .ok (.ireturn, 1) := by decide +kernel
theorem dX11_count_92 : decode cX11_count 92 = .ok (.aload_n 0, 1) := by decide +kernel
theorem dX11_count_93 : decode cX11_count 93 = .ok (.getfield 126, 3) := by decide +kernel
theorem dX11_count_96 : decode cX11_count 96 = .ok (.ireturn, 1) := by decide +kernel
theorem dX11_count_97 : decode cX11_count 97 = .ok (.aload_n 0, 1) := by decide +kernel
theorem dX11_count_98 : decode cX11_count 98 = .ok (.getfield 10, 3) := by decide +kernel
theorem dX11_count_101 : decode cX11_count 101 = .ok (.getfield 103, 3) := by decide +kernel
theorem dX11_count_104 : decode cX11_count 104 = .ok (.ireturn, 1) := by decide +kernel
theorem dX11_count_105 : decode cX11_count 105 = .ok (.aload_n 0, 1) := by decide +kernel
theorem dX11_count_106 : decode cX11_count 106 = .ok (.getfield 29, 3) := by decide +kernel
theorem dX11_count_109 : decode cX11_count 109 = .ok (.getfield 221, 3) := by decide +kernel
theorem dX11_count_112 : decode cX11_count 112 = .ok (.ireturn, 1) := by decide +kernel
theorem dX11_count_113 : decode cX11_count 113 = .ok (.aload_n 0, 1) := by decide +kernel
theorem dX11_count_114 : decode cX11_count 114 = .ok (.getfield 52, 3) := by decide +kernel
theorem dX11_count_117 : decode cX11_count 117 = .ok (.getfield 156, 3) := by decide +kernel
theorem dX11_count_120 : decode cX11_count 120 = .ok (.ireturn, 1) := by decide +kernel
theorem dX11_count_121 : decode cX11_count 121 = .ok (.aload_n 0, 1) := by decide +kernel
theorem dX11_count_122 : decode cX11_count 122 = .ok (.getfield 45, 3) := by decide +kernel
theorem dX11_count_125 : decode cX11_count 125 = .ok (.aload_n 0, 1) := by decide +kernel
theorem dX11_count_126 : decode cX11_count 126 = .ok (.getfield 52, 3) := by decide +kernel
theorem dX11_count_129 : decode cX11_count 129 = .ok (.invokevirtual 316, 3) := by decide +kernel
theorem dX11_count_132 : decode cX11_count 132 = .ok (.aload_n 0, 1) := by decide +kernel
theorem dX11_count_133 : decode cX11_count 133 = .ok (.getfield 45, 3) := by decide +kernel
theorem dX11_count_136 : decode cX11_count 136 = .ok (.invokevirtual 428, 3) := by decide +kernel
theorem dX11_count_139 : decode cX11_count 139 = .ok (.ireturn, 1) := by decide +kernel
theorem dX11_count_140 : decode cX11_count 140 = .ok (.aload_n 0, 1) := by decide +kernel
theorem dX11_count_141 : decode cX11_count 141 = .ok (.getfield 52, 3) := by decide +kernel
theorem dX11_count_144 : decode cX11_count 144 = .ok (.getfield 181, 3) := by decide +kernel
theorem dX11_count_147 : decode cX11_count 147 = .ok (.aload_n 0, 1) := by decide +kernel
theorem dX11_count_148 : decode cX11_count 148 = .ok (.getfield 19, 3) := by decide +kernel
theorem dX11_count_151 : decode cX11_count 151 = .ok (.getfield 275, 3) := by decide +kernel
theorem dX11_count_154 : decode cX11_count 154 = .ok (.invokestatic 431, 3) := by decide +kernel
theorem dX11_count_157 : decode cX11_count 157 = .ok (.ireturn, 1) := by decide +kernel
theorem dX11_count_158 : decode cX11_count 158 = .ok (.aload_n 0, 1) := by decide +kernel
theorem dX11_count_159 : decode cX11_count 159 = .ok (.getfield 52, 3) := by decide +kernel
theorem dX11_count_162 : decode cX11_count 162 = .ok (.getfield 212, 3) := by decide +kernel
theorem dX11_count_165 : decode cX11_count 165 = .ok (.aload_n 0, 1) := by decide +kernel
theorem dX11_count_166 : decode cX11_count 166 = .ok (.getfield 19, 3) := by decide +kernel
theorem dX11_count_169 : decode cX11_count 169 = .ok (.getfield 272, 3) := by decide +kernel
theorem dX11_count_172 : decode cX11_count 172 = .ok (.invokestatic 431, 3) := by decide +kernel
theorem dX11_count_175 : decode cX11_count 175 = .ok (.ireturn, 1) := by decide +kernel
theorem dX11_count_176 : decode cX11_count 176 = .ok (.aload_n 0, 1) := by decide +kernel
theorem dX11_count_177 : decode cX11_count 177 = .ok (.getfield 69, 3) := by decide +kernel
theorem dX11_count_180 : decode cX11_count 180 = .ok (.getfield 363, 3) := by decide +kernel
theorem dX11_count_183 : decode cX11_count 183 = .ok (.ireturn, 1) := by decide +kernel
theorem dX11_count_184 : decode cX11_count 184 = .ok (.aload_n 0, 1) := by decide +kernel
theorem dX11_count_185 : decode cX11_count 185 = .ok (.getfield 52, 3) := by decide +kernel
theorem dX11_count_188 : decode cX11_count 188 = .ok (.invokevirtual 285, 3) := by decide +kernel
theorem dX11_count_191 : decode cX11_count 191 = .ok (.ireturn, 1) := by decide +kernel
theorem dX11_count_192 : decode cX11_count 192 = .ok (.aload_n 0, 1) := by decide +kernel
theorem dX11_count_193 : decode cX11_count 193 = .ok (.getfield 62, 3) := by decide +kernel
theorem dX11_count_196 : decode cX11_count 196 = .ok (.getfield 282, 3) := by decide +kernel
theorem dX11_count_199 : decode cX11_count 199 = .ok (.ireturn, 1) := by decide +kernel
theorem dX11_count_200 : decode cX11_count 200 = .ok (.ldc 228, 2) := by decide +kernel
theorem dX11_count_202 : decode cX11_count 202 = .ok (.ireturn, 1) := by decide +kernel
theorem dX11_hasBorough_0 : decode cX11_hasBorough 0 = .ok (.aload_n 0, 1) := by decide +kernel
theorem dX11_hasBorough_1 : decode cX11_hasBorough 1 = .ok (.getfield 19, 3) := by decide +kernel
theorem dX11_hasBorough_4 : decode cX11_hasBorough 4 = .ok (.getfield 275, 3) := by decide +kernel
theorem dX11_hasBorough_7 : decode cX11_hasBorough 7 = .ok (.ifCond .le 7, 3) := by decide +kernel
theorem dX11_hasBorough_14 : decode cX11_hasBorough 14 = .ok (.iconst 0, 1) := by decide +kernel
theorem dX11_hasBorough_15 : decode cX11_hasBorough 15 = .ok (.ireturn, 1) := by decide +kernel
theorem dX11_isBuoy_0 : decode cX11_isBuoy 0 = .ok (.iload_n 1, 1) := by decide +kernel
theorem dX11_isBuoy_1 : decode cX11_isBuoy 1 = .ok (.ifCond .lt 18, 3) := by decide +kernel
theorem dX11_isBuoy_4 : decode cX11_isBuoy 4 = .ok (.iload_n 1, 1) := by decide +kernel
theorem dX11_isBuoy_5 : decode cX11_isBuoy 5 = .ok (.aload_n 0, 1) := by decide +kernel
theorem dX11_isBuoy_6 : decode cX11_isBuoy 6 = .ok (.getfield 19, 3) := by decide +kernel
theorem dX11_isBuoy_9 : decode cX11_isBuoy 9 = .ok (.getfield 275, 3) := by decide +kernel
theorem dX11_isBuoy_12 : decode cX11_isBuoy 12 = .ok (.if_icmp .ge 7, 3) := by decide +kernel
theorem dX11_isBuoy_19 : decode cX11_isBuoy 19 = .ok (.iconst 0, 1) := by decide +kernel
theorem dX11_isBuoy_20 : decode cX11_isBuoy 20 = .ok (.ireturn, 1) := by decide +kernel
theorem dX11_isBoat_0 : decode cX11_isBoat 0 = .ok (.iload_n 1, 1) := by decide +kernel
theorem dX11_isBoat_1 : decode cX11_isBoat 1 = .ok (.ifCond .lt 18, 3) := by decide +kernel
theorem dX11_isBoat_4 : decode cX11_isBoat 4 = .ok (.iload_n 1, 1) := by decide +kernel
theorem dX11_isBoat_5 : decode cX11_isBoat 5 = .ok (.aload_n 0, 1) := by decide +kernel
theorem dX11_isBoat_6 : decode cX11_isBoat 6 = .ok (.getfield 19, 3) := by decide +kernel
theorem dX11_isBoat_9 : decode cX11_isBoat 9 = .ok (.getfield 272, 3) := by decide +kernel
theorem dX11_isBoat_12 : decode cX11_isBoat 12 = .ok (.if_icmp .ge 7, 3) := by decide +kernel
theorem dX11_isBoat_19 : decode cX11_isBoat 19 = .ok (.iconst 0, 1) := by decide +kernel
theorem dX11_isBoat_20 : decode cX11_isBoat 20 = .ok (.ireturn, 1) := by decide +kernel
theorem dX11_isPair_0 : decode cX11_isPair 0 = .ok (.aload_n 0, 1) := by decide +kernel
theorem dX11_isPair_1 : decode cX11_isPair 1 = .ok (.iload_n 1, 1) := by decide +kernel
theorem dX11_isPair_2 : decode cX11_isPair 2 = .ok (.invokevirtual 191, 3) := by decide +kernel
theorem dX11_isPair_5 : decode cX11_isPair 5 = .ok (.ifCond .eq 20, 3) := by decide +kernel
theorem dX11_isPair_25 : decode cX11_isPair 25 = .ok (.iconst 0, 1) := by decide +kernel
theorem dX11_isPair_26 : decode cX11_isPair 26 = .ok (.ireturn, 1) := by decide +kernel
theorem dX11_isPlan_0 : decode cX11_isPlan 0 = .ok (.iload_n 1, 1) := by decide +kernel
theorem dX11_isPlan_1 : decode cX11_isPlan 1 = .ok (.ifCond .lt 15, 3) := by decide +kernel
theorem dX11_isPlan_4 : decode cX11_isPlan 4 = .ok (.iload_n 1, 1) := by decide +kernel
theorem dX11_isPlan_5 : decode cX11_isPlan 5 = .ok (.aload_n 0, 1) := by decide +kernel
theorem dX11_isPlan_6 : decode cX11_isPlan 6 = .ok (.getfield 126, 3) := by decide +kernel
theorem dX11_isPlan_9 : decode cX11_isPlan 9 = .ok (.if_icmp .ge 7, 3) := by decide +kernel
theorem dX11_isPlan_16 : decode cX11_isPlan 16 = .ok (.iconst 0, 1) := by decide +kernel
theorem dX11_isPlan_17 : decode cX11_isPlan 17 = .ok (.ireturn, 1) := by decide +kernel
theorem dX11_canRow_0 : decode cX11_canRow 0 = .ok (.aload_n 0, 1) := by decide +kernel
theorem dX11_canRow_1 : decode cX11_canRow 1 = .ok (.iload_n 2, 1) := by decide +kernel
theorem dX11_canRow_2 : decode cX11_canRow 2 = .ok (.invokevirtual 191, 3) := by decide +kernel
theorem dX11_canRow_5 : decode cX11_canRow 5 = .ok (.ifCond .eq 24, 3) := by decide +kernel
theorem dX11_canRow_29 : decode cX11_canRow 29 = .ok (.iconst 0, 1) := by decide +kernel
theorem dX11_canRow_30 : decode cX11_canRow 30 = .ok (.ireturn, 1) := by decide +kernel
theorem dX11_canSing_0 : decode cX11_canSing 0 = .ok (.aload_n 0, 1) := by decide +kernel
theorem dX11_canSing_1 : decode cX11_canSing 1 = .ok (.iload_n 2, 1) := by decide +kernel
theorem dX11_canSing_2 : decode cX11_canSing 2 = .ok (.invokevirtual 191, 3) := by decide +kernel
theorem dX11_canSing_5 : decode cX11_canSing 5 = .ok (.ifCond .eq 40, 3) := by decide +kernel
theorem dX11_canSing_45 : decode cX11_canSing 45 = .ok (.iconst 0, 1) := by decide +kernel
theorem dX11_canSing_46 : decode cX11_canSing 46 = .ok (.ireturn, 1) := by decide +kernel
theorem dX11_canScrape_0 : decode cX11_canScrape 0 = .ok (.aload_n 0, 1) := by decide +kernel
theorem dX11_canScrape_1 : decode cX11_canScrape 1 = .ok (.iload_n 2, 1) := by decide +kernel
theorem dX11_canScrape_2 : decode cX11_canScrape 2 = .ok (.invokevirtual 191, 3) := by decide +kernel
theorem dX11_canScrape_5 : decode cX11_canScrape 5 = .ok (.ifCond .eq 34, 3) := by decide +kernel
theorem dX11_canScrape_39 : decode cX11_canScrape 39 = .ok (.iconst 0, 1) := by decide +kernel
theorem dX11_canScrape_40 : decode cX11_canScrape 40 = .ok (.ireturn, 1) := by decide +kernel
theorem dX11_canPass_0 : decode cX11_canPass 0 = .ok (.aload_n 0, 1) := by decide +kernel
theorem dX11_canPass_1 : decode cX11_canPass 1 = .ok (.invokevirtual 140, 3) := by decide +kernel
theorem dX11_canPass_4 : decode cX11_canPass 4 = .ok (.ifCond .eq 32, 3) := by decide +kernel
theorem dX11_canPass_36 : decode cX11_canPass 36 = .ok (.iconst 0, 1) := by decide +kernel
theorem dX11_canPass_37 : decode cX11_canPass 37 = .ok (.ireturn, 1) := by decide +kernel
theorem dX11_isWithin_0 : decode cX11_isWithin 0 = .ok (.iload_n 0, 1) := by decide +kernel
theorem dX11_isWithin_1 : decode cX11_isWithin 1 = .ok (.iload_n 1, 1) := by decide +kernel
theorem dX11_isWithin_2 : decode cX11_isWithin 2 = .ok (.if_icmp .lt 12, 3) := by decide +kernel
theorem dX11_isWithin_5 : decode cX11_isWithin 5 = .ok (.iload_n 0, 1) := by decide +kernel
theorem dX11_isWithin_6 : decode cX11_isWithin 6 = .ok (.iload_n 2, 1) := by decide +kernel
theorem dX11_isWithin_7 : decode cX11_isWithin 7 = .ok (.if_icmp .gt 7, 3) := by decide +kernel
theorem dX11_isWithin_10 : decode cX11_isWithin 10 = .ok (.iconst 1, 1) := by decide +kernel
theorem dX11_isWithin_11 : decode cX11_isWithin 11 = .ok (.goto 4, 3) := by decide +kernel
theorem dX11_isWithin_14 : decode cX11_isWithin 14 = .ok (.iconst 0, 1) := by decide +kernel
theorem dX11_isWithin_15 : decode cX11_isWithin 15 = .ok (.ireturn, 1) := by decide +kernel
theorem dX11_sumOf_0 : decode cX11_sumOf 0 = .ok (.iconst 0, 1) := by decide +kernel
theorem dX11_sumOf_1 : decode cX11_sumOf 1 = .ok (.istore_n 2, 1) := by decide +kernel
theorem dX11_sumOf_2 : decode cX11_sumOf 2 = .ok (.iconst 0, 1) := by decide +kernel
theorem dX11_sumOf_3 : decode cX11_sumOf 3 = .ok (.istore_n 3, 1) := by decide +kernel
theorem dX11_sumOf_4 : decode cX11_sumOf 4 = .ok (.iload_n 3, 1) := by decide +kernel
theorem dX11_sumOf_5 : decode cX11_sumOf 5 = .ok (.iload_n 1, 1) := by decide +kernel
theorem dX11_sumOf_6 : decode cX11_sumOf 6 = .ok (.if_icmp .ge 21, 3) := by decide +kernel
theorem dX11_sumOf_27 : decode cX11_sumOf 27 = .ok (.iload_n 2, 1) := by decide +kernel
theorem dX11_sumOf_28 : decode cX11_sumOf 28 = .ok (.ireturn, 1) := by decide +kernel
theorem dX12_init_0 : decode cX12_init 0 = .ok (.aload_n 0, 1) := by decide +kernel
theorem dX12_init_1 : decode cX12_init 1 = .ok (.invokespecial 3, 3) := by decide +kernel
theorem dX12_init_4 : decode cX12_init 4 = .ok (.aload_n 0, 1) := by decide +kernel
theorem dX12_init_5 : decode cX12_init 5 = .ok (.sipush 240, 3) := by decide +kernel
theorem dX12_init_8 : decode cX12_init 8 = .ok (.newarray .byte, 2) := by decide +kernel
theorem dX12_init_10 : decode cX12_init 10 = .ok (.putfield 9, 3) := by decide +kernel
theorem dX12_init_13 : decode cX12_init 13 = .ok (.aload_n 0, 1) := by decide +kernel
theorem dX12_init_14 : decode cX12_init 14 = .ok (.sipush 960, 3) := by decide +kernel
theorem dX12_init_17 : decode cX12_init 17 = .ok (.newarray .byte, 2) := by decide +kernel
theorem dX12_init_19 : decode cX12_init 19 = .ok (.putfield 13, 3) := by decide +kernel
theorem dX12_init_22 : decode cX12_init 22 = .ok (.aload_n 0, 1) := by decide +kernel
theorem dX12_init_23 : decode cX12_init 23 = .ok (.iconst 4, 1) := by decide +kernel
theorem dX12_init_24 : decode cX12_init 24 = .ok (.newarray .int, 2) := by decide +kernel
theorem dX12_init_26 : decode cX12_init 26 = .ok (.putfield 16, 3) := by decide +kernel
theorem dX12_init_29 : decode cX12_init 29 = .ok (.aload_n 0, 1) := by decide +kernel
theorem dX12_init_30 : decode cX12_init 30 = .ok (.sipush 128, 3) := by decide +kernel
theorem dX12_init_33 : decode cX12_init 33 = .ok (.newarray .int, 2) := by decide +kernel
theorem dX12_init_35 : decode cX12_init 35 = .ok (.putfield 20, 3) := by decide +kernel
theorem dX12_init_38 : decode cX12_init 38 = .ok (.aload_n 0, 1) := by decide +kernel
theorem dX12_init_39 : decode cX12_init 39 = .ok (.aload_n 0, 1) := by decide +kernel
theorem dX12_init_40 : decode cX12_init 40 = .ok (.getfield 9, 3) := by decide +kernel
theorem dX12_init_43 : decode cX12_init 43 = .ok (.putfield 23, 3) := by decide +kernel
theorem dX12_init_46 : decode cX12_init 46 = .ok (.aload_n 0, 1) := by decide +kernel
theorem dX12_init_47 : decode cX12_init 47 = .ok (.ldc 26, 2) := by decide +kernel
theorem dX12_init_49 : decode cX12_init 49 = .ok (.putfield 28, 3) := by decide +kernel
theorem dX12_init_52 : decode cX12_init 52 = .ok (.aload_n 0, 1) := by decide +kernel
theorem dX12_init_53 : decode cX12_init 53 = .ok (.ldc 32, 2) := by decide +kernel
theorem dX12_init_55 : decode cX12_init 55 = .ok (.putfield 34, 3) := by decide +kernel
theorem dX12_init_58 : decode cX12_init 58 = .ok (.aload_n 0, 1) := by decide +kernel
theorem dX12_init_59 : decode cX12_init 59 = .ok (.iconst 4, 1) := by decide +kernel
theorem dX12_init_60 : decode cX12_init 60 = .ok (.newarray .int, 2) := by decide +kernel
theorem dX12_init_62 : decode cX12_init 62 = .ok (.putfield 37, 3) := by decide +kernel
theorem dX12_init_65 : decode cX12_init 65 = .ok (.aload_n 0, 1) := by decide +kernel
theorem dX12_init_66 : decode cX12_init 66 = .ok (.iconst 4, 1) := by decide +kernel
theorem dX12_init_67 : decode cX12_init 67 = .ok (.newarray .int, 2) := by decide +kernel
theorem dX12_init_69 : decode cX12_init 69 = .ok (.putfield 40, 3) := by decide +kernel
theorem dX12_init_72 : decode cX12_init 72 = .ok (.aload_n 0, 1) := by decide +kernel
theorem dX12_init_73 : decode cX12_init 73 = .ok (.bipush 64, 2) := by decide +kernel
theorem dX12_init_75 : decode cX12_init 75 = .ok (.newarray .int, 2) := by decide +kernel
theorem dX12_init_77 : decode cX12_init 77 = .ok (.putfield 43, 3) := by decide +kernel
theorem dX12_init_80 : decode cX12_init 80 = .ok (.aload_n 0, 1) := by decide +kernel
theorem dX12_init_81 : decode cX12_init 81 = .ok (.bipush 64, 2) := by decide +kernel
theorem dX12_init_83 : decode cX12_init 83 = .ok (.newarray .int, 2) := by decide +kernel
theorem dX12_init_85 : decode cX12_init 85 = .ok (.putfield 46, 3) := by decide +kernel
theorem dX12_init_88 : decode cX12_init 88 = .ok (.aload_n 0, 1) := by decide +kernel
theorem dX12_init_89 : decode cX12_init 89 = .ok (.bipush 12, 2) := by decide +kernel
theorem dX12_init_91 : decode cX12_init 91 = .ok (.newarray .int, 2) := by decide +kernel
theorem dX12_init_93 : decode cX12_init 93 = .ok (.putfield 49, 3) := by decide +kernel
theorem dX12_init_96 : decode cX12_init 96 = .ok (.aload_n 0, 1) := by decide +kernel
theorem dX12_init_97 : decode cX12_init 97 = .ok (.bipush 12, 2) := by decide +kernel
theorem dX12_init_99 : decode cX12_init 99 = .ok (.newarray .int, 2) := by decide +kernel
theorem dX12_init_101 : decode cX12_init 101 = .ok (.putfield 52, 3) := by decide +kernel
theorem dX12_init_104 : decode cX12_init 104 = .ok (.aload_n 0, 1) := by decide +kernel
theorem dX12_init_105 : decode cX12_init 105 = .ok (.sipush 320, 3) := by decide +kernel
theorem dX12_init_108 : decode cX12_init 108 = .ok (.newarray .int, 2) := by decide +kernel
theorem dX12_init_110 : decode cX12_init 110 = .ok (.putfield 55, 3) := by decide +kernel
theorem dX12_init_113 : decode cX12_init 113 = .ok (.aload_n 0, 1) := by decide +kernel
theorem dX12_init_114 : decode cX12_init 114 = .ok (.iconst 5, 1) := by decide +kernel
theorem dX12_init_115 : decode cX12_init 115 = .ok (.newarray .int, 2) := by decide +kernel
theorem dX12_init_117 : decode cX12_init 117 = .ok (.putfield 58, 3) := by decide +kernel
theorem dX12_init_120 : decode cX12_init 120 = .ok (.aload_n 0, 1) := by decide +kernel
theorem dX12_init_121 : decode cX12_init 121 = .ok (.sipush 242, 3) := by decide +kernel
theorem dX12_init_124 : decode cX12_init 124 = .ok (.newarray .int, 2) := by decide +kernel
theorem dX12_init_126 : decode cX12_init 126 = .ok (.putfield 61, 3) := by decide +kernel
theorem dX12_init_129 : decode cX12_init 129 = .ok (.aload_n 0, 1) := by decide +kernel
theorem dX12_init_130 : decode cX12_init 130 = .ok (.sipush 242, 3) := by decide +kernel
theorem dX12_init_133 : decode cX12_init 133 = .ok (.newarray .int, 2) := by decide +kernel
theorem dX12_init_135 : decode cX12_init 135 = .ok (.putfield 64, 3) := by decide +kernel
theorem dX12_init_138 : decode cX12_init 138 = .ok (.aload_n 0, 1) := by decide +kernel
theorem dX12_init_139 : decode cX12_init 139 = .ok (.iconst (-1), 1) := by decide +kernel
theorem dX12_init_140 : decode cX12_init 140 = .ok (.putfield 67, 3) := by decide +kernel
theorem dX12_init_143 : decode cX12_init 143 = .ok (.aload_n 0, 1) := by decide +kernel
theorem dX12_init_144 : decode cX12_init 144 = .ok (.sipush 8191, 3) := by decide +kernel
theorem dX12_init_147 : decode cX12_init 147 = .ok (.newarray .long, 2) := by decide +kernel
theorem dX12_init_149 : decode cX12_init 149 = .ok (.putfield 71, 3) := by decide +kernel
theorem dX12_init_152 : decode cX12_init 152 = .ok (.aload_n 0, 1) := by decide +kernel
theorem dX12_init_153 : decode cX12_init 153 = .ok (.sipush 8191, 3) := by decide +kernel
theorem dX12_init_156 : decode cX12_init 156 = .ok (.newarray .int, 2) := by decide +kernel
theorem dX12_init_158 : decode cX12_init 158 = .ok (.putfield 75, 3) := by decide +kernel
theorem dX12_init_161 : decode cX12_init 161 = .ok (.aload_n 0, 1) := by decide +kernel
theorem dX12_init_162 : decode cX12_init 162 = .ok (.iconst 3, 1) := by decide +kernel
theorem dX12_init_163 : decode cX12_init 163 = .ok (.newarray .int, 2) := by decide +kernel
theorem dX12_init_165 : decode cX12_init 165 = .ok (.putfield 78, 3) := by decide +kernel
theorem dX12_init_168 : decode cX12_init 168 = .ok (.aload_n 0, 1) := by decide +kernel
theorem dX12_init_169 : decode cX12_init 169 = .ok (.iconst 3, 1) := by decide +kernel
theorem dX12_init_170 : decode cX12_init 170 = .ok (.newarray .int, 2) := by decide +kernel
theorem dX12_init_172 : decode cX12_init 172 = .ok (.putfield 81, 3) := by decide +kernel
theorem dX12_init_175 : decode cX12_init 175 = .ok (.aload_n 0, 1) := by decide +kernel
theorem dX12_init_176 : decode cX12_init 176 = .ok (.bipush 8, 2) := by decide +kernel
theorem dX12_init_178 : decode cX12_init 178 = .ok (.newarray .int, 2) := by decide +kernel
theorem dX12_init_180 : decode cX12_init 180 = .ok (.putfield 84, 3) := by decide +kernel
theorem dX12_init_183 : decode cX12_init 183 = .ok (.aload_n 0, 1) := by decide +kernel
theorem dX12_init_184 : decode cX12_init 184 = .ok (.sipush 9680, 3) := by decide +kernel
theorem dX12_init_187 : decode cX12_init 187 = .ok (.newarray .int, 2) := by decide +kernel
theorem dX12_init_189 : decode cX12_init 189 = .ok (.putfield 87, 3) := by decide +kernel
theorem dX12_init_192 : decode cX12_init 192 = .ok (.aload_n 0, 1) := by decide +kernel
theorem dX12_init_193 : decode cX12_init 193 = .ok (.sipush 128, 3) := by decide +kernel
theorem dX12_init_196 : decode cX12_init 196 = .ok (.newarray .int, 2) := by decide +kernel
theorem dX12_init_198 : decode cX12_init 198 = .ok (.putfield 90, 3) := by decide +kernel
theorem dX12_init_201 : decode cX12_init 201 = .ok (.aload_n 0, 1) := by decide +kernel
theorem dX12_init_202 : decode cX12_init 202 = .ok (.bipush 10, 2) := by decide +kernel
theorem dX12_init_204 : decode cX12_init 204 = .ok (.newarray .int, 2) := by decide +kernel
theorem dX12_init_206 : decode cX12_init 206 = .ok (.putfield 93, 3) := by decide +kernel
theorem dX12_init_209 : decode cX12_init 209 = .ok (.aload_n 0, 1) := by decide +kernel
theorem dX12_init_210 : decode cX12_init 210 = .ok (.bipush 10, 2) := by decide +kernel
theorem dX12_init_212 : decode cX12_init 212 = .ok (.newarray .int, 2) := by decide +kernel
theorem dX12_init_214 : decode cX12_init 214 = .ok (.putfield 96, 3) := by decide +kernel
theorem dX12_init_217 : decode cX12_init 217 = .ok (.aload_n 0, 1) := by decide +kernel
theorem dX12_init_218 : decode cX12_init 218 = .ok (.bipush 10, 2) := by decide +kernel
theorem dX12_init_220 : decode cX12_init 220 = .ok (.newarray .int, 2) := by decide +kernel
theorem dX12_init_222 : decode cX12_init 222 = .ok (.putfield 99, 3) := by decide +kernel
theorem dX12_init_225 : decode cX12_init 225 = .ok (.aload_n 0, 1) := by decide +kernel
theorem dX12_init_226 : decode cX12_init 226 = .ok (.bipush 10, 2) := by decide +kernel
theorem dX12_init_228 : decode cX12_init 228 = .ok (.newarray .int, 2) := by decide +kernel
theorem dX12_init_230 : decode cX12_init 230 = .ok (.putfield 102, 3) := by decide +kernel
theorem dX12_init_233 : decode cX12_init 233 = .ok (.aload_n 0, 1) := by decide +kernel
theorem dX12_init_234 : decode cX12_init 234 = .ok (.iconst 3, 1) := by decide +kernel
theorem dX12_init_235 : decode cX12_init 235 = .ok (.newarray .int, 2) := by decide +kernel
theorem dX12_init_237 : decode cX12_init 237 = .ok (.putfield 105, 3) := by decide +kernel
theorem dX12_init_240 : decode cX12_init 240 = .ok (.aload_n 0, 1) := by decide +kernel
theorem dX12_init_241 : decode cX12_init 241 = .ok (.sipush 242, 3) := by decide +kernel
theorem dX12_init_244 : decode cX12_init 244 = .ok (.newarray .int, 2) := by decide +kernel
theorem dX12_init_246 : decode cX12_init 246 = .ok (.putfield 108, 3) := by decide +kernel
theorem dX12_init_249 : decode cX12_init 249 = .ok (.return_, 1) := by decide +kernel
theorem dX12_thrown_0 : decode cX12_thrown 0 = .ok (.aload_n 0, 1) := by decide +kernel
theorem dX12_thrown_1 : decode cX12_thrown 1 = .ok (.getfield 111, 3) := by decide +kernel
theorem dX12_thrown_4 : decode cX12_thrown 4 = .ok (.ireturn, 1) := by decide +kernel
theorem dX12_isIn_0 : decode cX12_isIn 0 = .ok (.lload_n 0, 1) := by decide +kernel
theorem dX12_isIn_1 : decode cX12_isIn 1 = .ok (.lload_n 2, 1) := by decide +kernel
theorem dX12_isIn_2 : decode cX12_isIn 2 = .ok (.lcmp, 1) := by decide +kernel
theorem dX12_isIn_3 : decode cX12_isIn 3 = .ok (.ifCond .lt 14, 3) := by decide +kernel
theorem dX12_isIn_6 : decode cX12_isIn 6 = .ok (.lload_n 0, 1) := by decide +kernel
theorem dX12_isIn_7 : decode cX12_isIn 7 = .ok (.lload 4, 2) := by decide +kernel
theorem dX12_isIn_9 : decode cX12_isIn 9 = .ok (.lcmp, 1) := by decide +kernel
theorem dX12_isIn_10 : decode cX12_isIn 10 = .ok (.ifCond .gt 7, 3) := by decide +kernel
theorem dX12_isIn_13 : decode cX12_isIn 13 = .ok (.iconst 1, 1) := by decide +kernel
theorem dX12_isIn_14 : decode cX12_isIn 14 = .ok (.goto 4, 3) := by decide +kernel
theorem dX12_isIn_17 : decode cX12_isIn 17 = .ok (.iconst 0, 1) := by decide +kernel
theorem dX12_isIn_18 : decode cX12_isIn 18 = .ok (.ireturn, 1) := by decide +kernel
theorem dX12_isAmong_0 : decode cX12_isAmong 0 = .ok (.iconst 0, 1) := by decide +kernel
theorem dX12_isAmong_1 : decode cX12_isAmong 1 = .ok (.istore_n 2, 1) := by decide +kernel
theorem dX12_isAmong_2 : decode cX12_isAmong 2 = .ok (.iload_n 2, 1) := by decide +kernel
theorem dX12_isAmong_3 : decode cX12_isAmong 3 = .ok (.aload_n 0, 1) := by decide +kernel
theorem dX12_isAmong_4 : decode cX12_isAmong 4 = .ok (.invokevirtual 114, 3) := by decide +kernel
theorem dX12_isAmong_7 : decode cX12_isAmong 7 = .ok (.if_icmp .ge 20, 3) := by decide +kernel
theorem dX12_isAmong_10 : decode cX12_isAmong 10 = .ok (.aload_n 0, 1) := by decide +kernel
theorem dX12_isAmong_11 : decode cX12_isAmong 11 = .ok (.iload_n 2, 1) := by decide +kernel
theorem dX12_isAmong_12 : decode cX12_isAmong 12 = .ok (.invokevirtual 120, 3) := by decide +kernel
theorem dX12_isAmong_15 : decode cX12_isAmong 15 = .ok (.iload_n 1, 1) := by decide +kernel
theorem dX12_isAmong_16 : decode cX12_isAmong 16 = .ok (.if_icmp .ne 5, 3) := by decide +kernel
theorem dX12_isAmong_21 : decode cX12_isAmong 21 = .ok (.iinc 2 1, 3) := by decide +kernel
theorem dX12_isAmong_24 : decode cX12_isAmong 24 = .ok (.goto (-22), 3) := by decide +kernel
theorem dX12_isAmong_27 : decode cX12_isAmong 27 = .ok (.iconst 0, 1) := by decide +kernel
theorem dX12_isAmong_28 : decode cX12_isAmong 28 = .ok (.ireturn, 1) := by decide +kernel
theorem dX12_bytesIn_0 : decode cX12_bytesIn 0 = .ok (.iconst 0, 1) := by decide +kernel
theorem dX12_bytesIn_1 : decode cX12_bytesIn 1 = .ok (.istore_n 1, 1) := by decide +kernel
theorem dX12_bytesIn_2 : decode cX12_bytesIn 2 = .ok (.bipush 24, 2) := by decide +kernel
theorem dX12_bytesIn_4 : decode cX12_bytesIn 4 = .ok (.istore_n 2, 1) := by decide +kernel
theorem dX12_bytesIn_5 : decode cX12_bytesIn 5 = .ok (.iload_n 2, 1) := by decide +kernel
theorem dX12_bytesIn_6 : decode cX12_bytesIn 6 = .ok (.ifCond .lt 27, 3) := by decide +kernel
theorem dX12_bytesIn_9 : decode cX12_bytesIn 9 = .ok (.iload_n 1, 1) := by decide +kernel
theorem dX12_bytesIn_10 : decode cX12_bytesIn 10 = .ok (.iload_n 0, 1) := by decide +kernel
theorem dX12_bytesIn_11 : decode cX12_bytesIn 11 = .ok (.iload_n 2, 1) := by decide +kernel
theorem dX12_bytesIn_12 : decode cX12_bytesIn 12 = .ok (.ishr, 1) := by decide +kernel
theorem dX12_bytesIn_13 : decode cX12_bytesIn 13 = .ok (.sipush 255, 3) := by decide +kernel
theorem dX12_bytesIn_16 : decode cX12_bytesIn 16 = .ok (.iand, 1) := by decide +kernel
theorem dX12_bytesIn_17 : decode cX12_bytesIn 17 = .ok (.ifCond .eq 7, 3) := by decide +kernel
theorem dX12_bytesIn_20 : decode cX12_bytesIn 20 = .ok (.iconst 1, 1) := by decide +kernel
theorem dX12_bytesIn_21 : decode cX12_bytesIn 21 = .ok (.goto 4, 3) := by decide +kernel
theorem dX12_bytesIn_24 : decode cX12_bytesIn 24 = .ok (.iconst 0, 1) := by decide +kernel
theorem dX12_bytesIn_25 : decode cX12_bytesIn 25 = .ok (.iadd, 1) := by decide +kernel
theorem dX12_bytesIn_26 : decode cX12_bytesIn 26 = .ok (.istore_n 1, 1) := by decide +kernel
theorem dX12_bytesIn_27 : decode cX12_bytesIn 27 = .ok (.iinc 2 (-8), 3) := by decide +kernel
theorem dX12_bytesIn_30 : decode cX12_bytesIn 30 = .ok (.goto (-25), 3) := by decide +kernel
theorem dX12_bytesIn_33 : decode cX12_bytesIn 33 = .ok (.iload_n 1, 1) := by decide +kernel
theorem dX12_bytesIn_34 : decode cX12_bytesIn 34 = .ok (.ireturn, 1) := by decide +kernel
theorem dX12_put_0 : decode cX12_put 0 = .ok (.bipush 24, 2) := by decide +kernel
theorem dX12_put_2 : decode cX12_put 2 = .ok (.istore_n 2, 1) := by decide +kernel
theorem dX12_put_3 : decode cX12_put 3 = .ok (.iload_n 2, 1) := by decide +kernel
theorem dX12_put_4 : decode cX12_put 4 = .ok (.ifCond .lt 45, 3) := by decide +kernel
theorem dX12_put_7 : decode cX12_put 7 = .ok (.iload_n 1, 1) := by decide +kernel
theorem dX12_put_8 : decode cX12_put 8 = .ok (.iload_n 2, 1) := by decide +kernel
theorem dX12_put_9 : decode cX12_put 9 = .ok (.ishr, 1) := by decide +kernel
theorem dX12_put_10 : decode cX12_put 10 = .ok (.sipush 255, 3) := by decide +kernel
theorem dX12_put_13 : decode cX12_put 13 = .ok (.iand, 1) := by decide +kernel
theorem dX12_put_14 : decode cX12_put 14 = .ok (.ifCond .ne 6, 3) := by decide +kernel
theorem dX12_put_17 : decode cX12_put 17 = .ok (.goto 26, 3) := by decide +kernel
theorem dX12_put_20 : decode cX12_put 20 = .ok (.aload_n 0, 1) := by decide +kernel
theorem dX12_put_21 : decode cX12_put 21 = .ok (.getfield 9, 3) := by decide +kernel
theorem dX12_put_24 : decode cX12_put 24 = .ok (.aload_n 0, 1) := by decide +kernel
theorem dX12_put_25 : decode cX12_put 25 = .ok (.getfield 124, 3) := by decide +kernel
theorem dX12_put_28 : decode cX12_put 28 = .ok (.iload_n 1, 1) := by decide +kernel
theorem dX12_put_29 : decode cX12_put 29 = .ok (.iload_n 2, 1) := by decide +kernel
theorem dX12_put_30 : decode cX12_put 30 = .ok (.ishr, 1) := by decide +kernel
theorem dX12_put_31 : decode cX12_put 31 = .ok (.i2b, 1) := by decide +kernel
theorem dX12_put_32 : decode cX12_put 32 = .ok (.bastore, 1) := by decide +kernel
theorem dX12_put_33 : decode cX12_put 33 = .ok (.aload_n 0, 1) := by decide +kernel
theorem dX12_put_34 : decode cX12_put 34 = .ok (.dup, 1) := by decide +kernel
theorem dX12_put_35 : decode cX12_put 35 = .ok (.getfield 124, 3) := by decide +kernel
theorem dX12_put_38 : decode cX12_put 38 = .ok (.iconst 1, 1) := by decide +kernel
theorem dX12_put_39 : decode cX12_put 39 = .ok (.iadd, 1) := by decide +kernel
theorem dX12_put_40 : decode cX12_put 40 = .ok (.putfield 124, 3) := by decide +kernel
theorem dX12_put_43 : decode cX12_put 43 = .ok (.iinc 2 (-8), 3) := by decide +kernel
theorem dX12_put_46 : decode cX12_put 46 = .ok (.goto (-43), 3) := by decide +kernel
theorem dX12_put_49 : decode cX12_put 49 = .ok (.return_, 1) := by decide +kernel
theorem dX12_feed_0 : decode cX12_feed 0 = .ok (.aload_n 0, 1) := by decide +kernel
theorem dX12_feed_1 : decode cX12_feed 1 = .ok (.iconst 0, 1) := by decide +kernel
theorem dX12_feed_2 : decode cX12_feed 2 = .ok (.putfield 111, 3) := by decide +kernel
theorem dX12_feed_5 : decode cX12_feed 5 = .ok (.aload_n 0, 1) := by decide +kernel
theorem dX12_feed_6 : decode cX12_feed 6 = .ok (.getfield 124, 3) := by decide +kernel
theorem dX12_feed_9 : decode cX12_feed 9 = .ok (.iload_n 1, 1) := by decide +kernel
theorem dX12_feed_10 : decode cX12_feed 10 = .ok (.invokestatic 126, 3) := by decide +kernel
theorem dX12_feed_13 : decode cX12_feed 13 = .ok (.iadd, 1) := by decide +kernel
theorem dX12_feed_14 : decode cX12_feed 14 = .ok (.iload_n 2, 1) := by decide +kernel
theorem dX12_feed_15 : decode cX12_feed 15 = .ok (.invokestatic 126, 3) := by decide +kernel
theorem dX12_feed_18 : decode cX12_feed 18 = .ok (.iadd, 1) := by decide +kernel
theorem dX12_feed_19 : decode cX12_feed 19 = .ok (.iload_n 3, 1) := by decide +kernel
theorem dX12_feed_20 : decode cX12_feed 20 = .ok (.invokestatic 126, 3) := by decide +kernel
theorem dX12_feed_23 : decode cX12_feed 23 = .ok (.iadd, 1) := by decide +kernel
theorem dX12_feed_24 : decode cX12_feed 24 = .ok (.iload 4, 2) := by decide +kernel
theorem dX12_feed_26 : decode cX12_feed 26 = .ok (.invokestatic 126, 3) := by decide +kernel
theorem dX12_feed_29 : decode cX12_feed 29 = .ok (.iadd, 1) := by decide +kernel
theorem dX12_feed_30 : decode cX12_feed 30 = .ok (.iload 5, 2) := by decide +kernel
theorem dX12_feed_32 : decode cX12_feed 32 = .ok (.invokestatic 126, 3) := by decide +kernel
theorem dX12_feed_35 : decode cX12_feed 35 = .ok (.iadd, 1) := by decide +kernel
theorem dX12_feed_36 : decode cX12_feed 36 = .ok (.sipush 240, 3) := by decide +kernel
theorem dX12_feed_39 : decode cX12_feed 39 = .ok (.if_icmp .le 5, 3) := by decide +kernel
theorem dX12_feed_44 : decode cX12_feed 44 = .ok (.aload_n 0, 1) := by decide +kernel
theorem dX12_feed_45 : decode cX12_feed 45 = .ok (.iload_n 1, 1) := by decide +kernel
theorem dX12_feed_46 : decode cX12_feed 46 = .ok (.invokevirtual 130, 3) := by decide +kernel
theorem dX12_feed_49 : decode cX12_feed 49 = .ok (.aload_n 0, 1) := by decide +kernel
theorem dX12_feed_50 : decode cX12_feed 50 = .ok (.iload_n 2, 1) := by decide +kernel
theorem dX12_feed_51 : decode cX12_feed 51 = .ok (.invokevirtual 130, 3) := by decide +kernel
theorem dX12_feed_54 : decode cX12_feed 54 = .ok (.aload_n 0, 1) := by decide +kernel
theorem dX12_feed_55 : decode cX12_feed 55 = .ok (.iload_n 3, 1) := by decide +kernel
theorem dX12_feed_56 : decode cX12_feed 56 = .ok (.invokevirtual 130, 3) := by decide +kernel
theorem dX12_feed_59 : decode cX12_feed 59 = .ok (.aload_n 0, 1) := by decide +kernel
theorem dX12_feed_60 : decode cX12_feed 60 = .ok (.iload 4, 2) := by decide +kernel
theorem dX12_feed_62 : decode cX12_feed 62 = .ok (.invokevirtual 130, 3) := by decide +kernel
theorem dX12_feed_65 : decode cX12_feed 65 = .ok (.aload_n 0, 1) := by decide +kernel
theorem dX12_feed_66 : decode cX12_feed 66 = .ok (.iload 5, 2) := by decide +kernel
theorem dX12_feed_68 : decode cX12_feed 68 = .ok (.invokevirtual 130, 3) := by decide +kernel
theorem dX12_feed_71 : decode cX12_feed 71 = .ok (.aload_n 0, 1) := by decide +kernel
theorem dX12_feed_72 : decode cX12_feed 72 = .ok (.getfield 124, 3) := by decide +kernel
theorem dX12_feed_75 : decode cX12_feed 75 = .ok (.ireturn, 1) := by decide +kernel
theorem dX12_end_0 : decode cX12_end 0 = .ok (.aload_n 0, 1) := by decide +kernel
theorem dX12_end_1 : decode cX12_end 1 = .ok (.iconst 0, 1) := by decide +kernel
theorem dX12_end_2 : decode cX12_end 2 = .ok (.putfield 111, 3) := by decide +kernel
theorem dX12_end_5 : decode cX12_end 5 = .ok (.iload_n 1, 1) := by decide +kernel
theorem dX12_end_6 : decode cX12_end 6 = .ok (.ifCond .lt 11, 3) := by decide +kernel
theorem dX12_end_9 : decode cX12_end 9 = .ok (.iload_n 1, 1) := by decide +kernel
theorem dX12_end_10 : decode cX12_end 10 = .ok (.aload_n 0, 1) := by decide +kernel
theorem dX12_end_11 : decode cX12_end 11 = .ok (.getfield 124, 3) := by decide +kernel
theorem dX12_end_14 : decode cX12_end 14 = .ok (.if_icmp .le 5, 3) := by decide +kernel
theorem dX12_end_17 : decode cX12_end 17 = .ok (.iconst 0, 1) := by decide +kernel
theorem dX12_end_18 : decode cX12_end 18 = .ok (.ireturn, 1) := by decide +kernel
theorem dX12_end_19 : decode cX12_end 19 = .ok (.aload_n 0, 1) := by decide +kernel
theorem dX12_end_20 : decode cX12_end 20 = .ok (.iload_n 1, 1) := by decide +kernel
theorem dX12_end_21 : decode cX12_end 21 = .ok (.putfield 124, 3) := by decide +kernel
theorem dX12_end_24 : decode cX12_end 24 = .ok (.iconst 1, 1) := by decide +kernel
theorem dX12_end_25 : decode cX12_end 25 = .ok (.ireturn, 1) := by decide +kernel
theorem dX12_look_0 : decode cX12_look 0 = .ok (.aload_n 0, 1) := by decide +kernel
theorem dX12_look_1 : decode cX12_look 1 = .ok (.getfield 134, 3) := by decide +kernel
theorem dX12_look_4 : decode cX12_look 4 = .ok (.aload_n 0, 1) := by decide +kernel
theorem dX12_look_5 : decode cX12_look 5 = .ok (.getfield 137, 3) := by decide +kernel
theorem dX12_look_8 : decode cX12_look 8 = .ok (.if_icmp .ge 35, 3) := by decide +kernel
theorem dX12_look_43 : decode cX12_look 43 = .ok (.aload_n 0, 1) := by decide +kernel
theorem dX12_look_44 : decode cX12_look 44 = .ok (.getfield 134, 3) := by decide +kernel
theorem dX12_look_47 : decode cX12_look 47 = .ok (.aload_n 0, 1) := by decide +kernel
theorem dX12_look_48 : decode cX12_look 48 = .ok (.getfield 137, 3) := by decide +kernel
theorem dX12_look_51 : decode cX12_look 51 = .ok (.if_icmp .ge 24, 3) := by decide +kernel
theorem dX12_look_75 : decode cX12_look 75 = .ok (.iconst (-1), 1) := by decide +kernel
theorem dX12_look_76 : decode cX12_look 76 = .ok (.ireturn, 1) := by decide +kernel
theorem dX12_fails_0 : decode cX12_fails 0 = .ok (.aload_n 0, 1) := by decide +kernel
theorem dX12_fails_1 : decode cX12_fails 1 = .ok (.getfield 143, 3) := by decide +kernel
theorem dX12_fails_4 : decode cX12_fails 4 = .ok (.iconst (-1), 1) := by decide +kernel
theorem dX12_fails_5 : decode cX12_fails 5 = .ok (.if_icmp .ne 11, 3) := by decide +kernel
theorem dX12_fails_8 : decode cX12_fails 8 = .ok (.aload_n 0, 1) := by decide +kernel
theorem dX12_fails_9 : decode cX12_fails 9 = .ok (.aload_n 0, 1) := by decide +kernel
theorem dX12_fails_10 : decode cX12_fails 10 = .ok (.getfield 134, 3) := by decide +kernel
theorem dX12_fails_13 : decode cX12_fails 13 = .ok (.putfield 143, 3) := by decide +kernel
theorem dX12_fails_16 : decode cX12_fails 16 = .ok (.iconst 0, 1) := by decide +kernel
theorem dX12_fails_17 : decode cX12_fails 17 = .ok (.ireturn, 1) := by decide +kernel
theorem dX12_clause_0 : decode cX12_clause 0 = .ok (.aload_n 0, 1) := by decide +kernel
theorem dX12_clause_1 : decode cX12_clause 1 = .ok (.invokevirtual 153, 3) := by decide +kernel
theorem dX12_clause_4 : decode cX12_clause 4 = .ok (.istore_n 1, 1) := by decide +kernel
theorem dX12_clause_5 : decode cX12_clause 5 = .ok (.ldc 26, 2) := by decide +kernel
theorem dX12_clause_7 : decode cX12_clause 7 = .ok (.iload_n 1, 1) := by decide +kernel
theorem dX12_clause_8 : decode cX12_clause 8 = .ok (.invokestatic 169, 3) := by decide +kernel
theorem dX12_clause_11 : decode cX12_clause 11 = .ok (.ifCond .ne 9, 3) := by decide +kernel
theorem dX12_clause_14 : decode cX12_clause 14 = .ok (.aload_n 0, 1) := by decide +kernel
theorem dX12_clause_15 : decode cX12_clause 15 = .ok (.invokevirtual 149, 3) := by decide +kernel
theorem dX12_clause_18 : decode cX12_clause 18 = .ok (.pop, 1) := by decide +kernel
theorem dX12_clause_19 : decode cX12_clause 19 = .ok (.return_, 1) := by decide +kernel
theorem dX12_starts_0 : decode cX12_starts 0 = .ok (.aload_n 0, 1) := by decide +kernel
theorem dX12_starts_1 : decode cX12_starts 1 = .ok (.aload_n 1, 1) := by decide +kernel
theorem dX12_starts_2 : decode cX12_starts 2 = .ok (.putfield 23, 3) := by decide +kernel
theorem dX12_starts_5 : decode cX12_starts 5 = .ok (.aload_n 0, 1) := by decide +kernel
theorem dX12_starts_6 : decode cX12_starts 6 = .ok (.iload_n 2, 1) := by decide +kernel
theorem dX12_starts_7 : decode cX12_starts 7 = .ok (.putfield 140, 3) := by decide +kernel
theorem dX12_starts_10 : decode cX12_starts 10 = .ok (.aload_n 0, 1) := by decide +kernel
theorem dX12_starts_11 : decode cX12_starts 11 = .ok (.iload_n 3, 1) := by decide +kernel
theorem dX12_starts_12 : decode cX12_starts 12 = .ok (.putfield 137, 3) := by decide +kernel
theorem dX12_starts_15 : decode cX12_starts 15 = .ok (.aload_n 0, 1) := by decide +kernel
theorem dX12_starts_16 : decode cX12_starts 16 = .ok (.iconst 0, 1) := by decide +kernel
theorem dX12_starts_17 : decode cX12_starts 17 = .ok (.putfield 134, 3) := by decide +kernel
theorem dX12_starts_20 : decode cX12_starts 20 = .ok (.aload_n 0, 1) := by decide +kernel
theorem dX12_starts_21 : decode cX12_starts 21 = .ok (.iconst (-1), 1) := by decide +kernel
theorem dX12_starts_22 : decode cX12_starts 22 = .ok (.putfield 143, 3) := by decide +kernel
theorem dX12_starts_25 : decode cX12_starts 25 = .ok (.return_, 1) := by decide +kernel
theorem dX12_goThrough_0 : decode cX12_goThrough 0 = .ok (.aload_n 0, 1) := by decide +kernel
theorem dX12_goThrough_1 : decode cX12_goThrough 1 = .ok (.aload_n 1, 1) := by decide +kernel
theorem dX12_goThrough_2 : decode cX12_goThrough 2 = .ok (.iload_n 2, 1) := by decide +kernel
theorem dX12_goThrough_3 : decode cX12_goThrough 3 = .ok (.iload_n 3, 1) := by decide +kernel
theorem dX12_goThrough_4 : decode cX12_goThrough 4 = .ok (.invokevirtual 222, 3) := by decide +kernel
theorem dX12_goThrough_7 : decode cX12_goThrough 7 = .ok (.aload_n 0, 1) := by decide +kernel
theorem dX12_goThrough_8 : decode cX12_goThrough 8 = .ok (.bipush 121, 2) := by decide +kernel
theorem dX12_goThrough_10 : decode cX12_goThrough 10 = .ok (.putfield 216, 3) := by decide +kernel
theorem dX12_goThrough_13 : decode cX12_goThrough 13 = .ok (.aload_n 0, 1) := by decide +kernel
theorem dX12_goThrough_14 : decode cX12_goThrough 14 = .ok (.iconst 0, 1) := by decide +kernel
theorem dX12_goThrough_15 : decode cX12_goThrough 15 = .ok (.putfield 146, 3) := by decide +kernel
theorem dX12_goThrough_18 : decode cX12_goThrough 18 = .ok (.aload_n 0, 1) := by decide +kernel
theorem dX12_goThrough_19 : decode cX12_goThrough 19 = .ok (.iconst 0, 1) := by decide +kernel
theorem dX12_goThrough_20 : decode cX12_goThrough 20 = .ok (.putfield 212, 3) := by decide +kernel
theorem dX12_goThrough_23 : decode cX12_goThrough 23 = .ok (.aload_n 0, 1) := by decide +kernel
theorem dX12_goThrough_24 : decode cX12_goThrough 24 = .ok (.iconst 0, 1) := by decide +kernel
theorem dX12_goThrough_25 : decode cX12_goThrough 25 = .ok (.putfield 219, 3) := by decide +kernel
theorem dX12_goThrough_28 : decode cX12_goThrough 28 = .ok (.aload_n 0, 1) := by decide +kernel
theorem dX12_goThrough_29 : decode cX12_goThrough 29 = .ok (.invokevirtual 226, 3) := by decide +kernel
theorem dX12_goThrough_32 : decode cX12_goThrough 32 = .ok (.aload_n 0, 1) := by decide +kernel
theorem dX12_goThrough_33 : decode cX12_goThrough 33 = .ok (.getfield 143, 3) := by decide +kernel
theorem dX12_goThrough_36 : decode cX12_goThrough 36 = .ok (.iconst (-1), 1) := by decide +kernel
theorem dX12_goThrough_37 : decode cX12_goThrough 37 = .ok (.if_icmp .ne 29, 3) := by decide +kernel
theorem dX12_goThrough_66 : decode cX12_goThrough 66 = .ok (.aload_n 0, 1) := by decide +kernel
theorem dX12_goThrough_67 : decode cX12_goThrough 67 = .ok (.getfield 143, 3) := by decide +kernel
theorem dX12_goThrough_70 : decode cX12_goThrough 70 = .ok (.iconst (-1), 1) := by decide +kernel
theorem dX12_goThrough_71 : decode cX12_goThrough 71 = .ok (.if_icmp .ne 16, 3) := by decide +kernel
theorem dX12_goThrough_87 : decode cX12_goThrough 87 = .ok (.return_, 1) := by decide +kernel
theorem dX12_spotOf_0 : decode cX12_spotOf 0 = .ok (.iconst 0, 1) := by decide +kernel
theorem dX12_spotOf_1 : decode cX12_spotOf 1 = .ok (.istore_n 2, 1) := by decide +kernel
theorem dX12_spotOf_2 : decode cX12_spotOf 2 = .ok (.iload_n 2, 1) := by decide +kernel
theorem dX12_spotOf_3 : decode cX12_spotOf 3 = .ok (.aload_n 0, 1) := by decide +kernel
theorem dX12_spotOf_4 : decode cX12_spotOf 4 = .ok (.invokevirtual 114, 3) := by decide +kernel
theorem dX12_spotOf_7 : decode cX12_spotOf 7 = .ok (.if_icmp .ge 20, 3) := by decide +kernel
theorem dX12_spotOf_10 : decode cX12_spotOf 10 = .ok (.aload_n 0, 1) := by decide +kernel
theorem dX12_spotOf_11 : decode cX12_spotOf 11 = .ok (.iload_n 2, 1) := by decide +kernel
theorem dX12_spotOf_12 : decode cX12_spotOf 12 = .ok (.invokevirtual 120, 3) := by decide +kernel
theorem dX12_spotOf_15 : decode cX12_spotOf 15 = .ok (.iload_n 1, 1) := by decide +kernel
theorem dX12_spotOf_16 : decode cX12_spotOf 16 = .ok (.if_icmp .ne 5, 3) := by decide +kernel
theorem dX12_spotOf_21 : decode cX12_spotOf 21 = .ok (.iinc 2 1, 3) := by decide +kernel
theorem dX12_spotOf_24 : decode cX12_spotOf 24 = .ok (.goto (-22), 3) := by decide +kernel
theorem dX12_spotOf_27 : decode cX12_spotOf 27 = .ok (.iconst (-1), 1) := by decide +kernel
theorem dX12_spotOf_28 : decode cX12_spotOf 28 = .ok (.ireturn, 1) := by decide +kernel
theorem dX12_usual_0 : decode cX12_usual 0 = .ok (.iload_n 0, 1) := by decide +kernel
theorem dX12_usual_1 : decode cX12_usual 1 = .ok (.bipush 115, 2) := by decide +kernel
theorem dX12_usual_3 : decode cX12_usual 3 = .ok (.if_icmp .ne 33, 3) := by decide +kernel
theorem dX12_usual_6 : decode cX12_usual 6 = .ok (.iload_n 1, 1) := by decide +kernel
theorem dX12_usual_7 : decode cX12_usual 7 = .ok (.ifCond .ne 7, 3) := by decide +kernel
theorem dX12_usual_10 : decode cX12_usual 10 = .ok (.iconst 2, 1) := by decide +kernel
theorem dX12_usual_11 : decode cX12_usual 11 = .ok (.goto 24, 3) := by decide +kernel
theorem dX12_usual_14 : decode cX12_usual 14 = .ok (.iload_n 1, 1) := by decide +kernel
theorem dX12_usual_15 : decode cX12_usual 15 = .ok (.iconst 1, 1) := by decide +kernel
theorem dX12_usual_16 : decode cX12_usual 16 = .ok (.if_icmp .ne 7, 3) := by decide +kernel
theorem dX12_usual_19 : decode cX12_usual 19 = .ok (.iconst 0, 1) := by decide +kernel
theorem dX12_usual_20 : decode cX12_usual 20 = .ok (.goto 15, 3) := by decide +kernel
theorem dX12_usual_23 : decode cX12_usual 23 = .ok (.iload_n 1, 1) := by decide +kernel
theorem dX12_usual_24 : decode cX12_usual 24 = .ok (.iconst 2, 1) := by decide +kernel
theorem dX12_usual_25 : decode cX12_usual 25 = .ok (.if_icmp .ne 8, 3) := by decide +kernel
theorem dX12_usual_28 : decode cX12_usual 28 = .ok (.bipush 6, 2) := by decide +kernel
theorem dX12_usual_30 : decode cX12_usual 30 = .ok (.goto 5, 3) := by decide +kernel
theorem dX12_usual_33 : decode cX12_usual 33 = .ok (.bipush 8, 2) := by decide +kernel
theorem dX12_usual_35 : decode cX12_usual 35 = .ok (.ireturn, 1) := by decide +kernel
theorem dX12_readClause_0 : decode cX12_readClause 0 = .ok (.aload_n 0, 1) := by decide +kernel
theorem dX12_readClause_1 : decode cX12_readClause 1 = .ok (.invokevirtual 153, 3) := by decide +kernel
theorem dX12_readClause_4 : decode cX12_readClause 4 = .ok (.istore_n 1, 1) := by decide +kernel
theorem dX12_readClause_5 : decode cX12_readClause 5 = .ok (.iload_n 1, 1) := by decide +kernel
theorem dX12_readClause_6 : decode cX12_readClause 6 = .ok (.bipush 115, 2) := by decide +kernel
theorem dX12_readClause_8 : decode cX12_readClause 8 = .ok (.if_icmp .ne 10, 3) := by decide +kernel
theorem dX12_readClause_18 : decode cX12_readClause 18 = .ok (.iload_n 1, 1) := by decide +kernel
theorem dX12_readClause_19 : decode cX12_readClause 19 = .ok (.bipush 98, 2) := by decide +kernel
theorem dX12_readClause_21 : decode cX12_readClause 21 = .ok (.if_icmp .ne 12, 3) := by decide +kernel
theorem dX12_readClause_33 : decode cX12_readClause 33 = .ok (.iload_n 1, 1) := by decide +kernel
theorem dX12_readClause_34 : decode cX12_readClause 34 = .ok (.bipush 99, 2) := by decide +kernel
theorem dX12_readClause_36 : decode cX12_readClause 36 = .ok (.if_icmp .ne 15, 3) := by decide +kernel
theorem dX12_readClause_51 : decode cX12_readClause 51 = .ok (.iconst 0, 1) := by decide +kernel
theorem dX12_readClause_52 : decode cX12_readClause 52 = .ok (.istore_n 2, 1) := by decide +kernel
theorem dX12_readClause_53 : decode cX12_readClause 53 = .ok (.iload_n 2, 1) := by decide +kernel
theorem dX12_readClause_54 : decode cX12_readClause 54 = .ok (.ifCond .ne 9, 3) := by decide +kernel
theorem dX12_readClause_57 : decode cX12_readClause 57 = .ok (.aload_n 0, 1) := by decide +kernel
theorem dX12_readClause_58 : decode cX12_readClause 58 = .ok (.invokevirtual 149, 3) := by decide +kernel
theorem dX12_readClause_61 : decode cX12_readClause 61 = .ok (.pop, 1) := by decide +kernel
theorem dX12_readClause_62 : decode cX12_readClause 62 = .ok (.return_, 1) := by decide +kernel
theorem dX12_readBorough_0 : decode cX12_readBorough 0 = .ok (.aload_n 0, 1) := by decide +kernel
theorem dX12_readBorough_1 : decode cX12_readBorough 1 = .ok (.aload_n 0, 1) := by decide +kernel
theorem dX12_readBorough_2 : decode cX12_readBorough 2 = .ok (.getfield 9, 3) := by decide +kernel
theorem dX12_readBorough_5 : decode cX12_readBorough 5 = .ok (.iconst 0, 1) := by decide +kernel
theorem dX12_readBorough_6 : decode cX12_readBorough 6 = .ok (.aload_n 0, 1) := by decide +kernel
theorem dX12_readBorough_7 : decode cX12_readBorough 7 = .ok (.getfield 124, 3) := by decide +kernel
theorem dX12_readBorough_10 : decode cX12_readBorough 10 = .ok (.invokevirtual 222, 3) := by decide +kernel
theorem dX12_readBorough_13 : decode cX12_readBorough 13 = .ok (.aload_n 0, 1) := by decide +kernel
theorem dX12_readBorough_14 : decode cX12_readBorough 14 = .ok (.iconst 0, 1) := by decide +kernel
theorem dX12_readBorough_15 : decode cX12_readBorough 15 = .ok (.putfield 260, 3) := by decide +kernel
theorem dX12_readBorough_18 : decode cX12_readBorough 18 = .ok (.aload_n 0, 1) := by decide +kernel
theorem dX12_readBorough_19 : decode cX12_readBorough 19 = .ok (.iconst 0, 1) := by decide +kernel
theorem dX12_readBorough_20 : decode cX12_readBorough 20 = .ok (.putfield 263, 3) := by decide +kernel
theorem dX12_readBorough_23 : decode cX12_readBorough 23 = .ok (.aload_n 0, 1) := by decide +kernel
theorem dX12_readBorough_24 : decode cX12_readBorough 24 = .ok (.iconst 0, 1) := by decide +kernel
theorem dX12_readBorough_25 : decode cX12_readBorough 25 = .ok (.putfield 257, 3) := by decide +kernel
theorem dX12_readBorough_28 : decode cX12_readBorough 28 = .ok (.iconst 0, 1) := by decide +kernel
theorem dX12_readBorough_29 : decode cX12_readBorough 29 = .ok (.istore_n 1, 1) := by decide +kernel
theorem dX12_readBorough_30 : decode cX12_readBorough 30 = .ok (.iload_n 1, 1) := by decide +kernel
theorem dX12_readBorough_31 : decode cX12_readBorough 31 = .ok (.iconst 4, 1) := by decide +kernel
theorem dX12_readBorough_32 : decode cX12_readBorough 32 = .ok (.if_icmp .ge 21, 3) := by decide +kernel
theorem dX12_readBorough_35 : decode cX12_readBorough 35 = .ok (.aload_n 0, 1) := by decide +kernel
theorem dX12_readBorough_36 : decode cX12_readBorough 36 = .ok (.getfield 40, 3) := by decide +kernel
theorem dX12_readBorough_39 : decode cX12_readBorough 39 = .ok (.iload_n 1, 1) := by decide +kernel
theorem dX12_readBorough_40 : decode cX12_readBorough 40 = .ok (.bipush 115, 2) := by decide +kernel
theorem dX12_readBorough_42 : decode cX12_readBorough 42 = .ok (.iload_n 1, 1) := by decide +kernel
theorem dX12_readBorough_43 : decode cX12_readBorough 43 = .ok (.invokestatic 236, 3) := by decide +kernel
theorem dX12_readBorough_46 : decode cX12_readBorough 46 = .ok (.iastore, 1) := by decide +kernel
theorem dX12_readBorough_47 : decode cX12_readBorough 47 = .ok (.iinc 1 1, 3) := by decide +kernel
theorem dX12_readBorough_50 : decode cX12_readBorough 50 = .ok (.goto (-20), 3) := by decide +kernel
theorem dX12_readBorough_53 : decode cX12_readBorough 53 = .ok (.iconst 1, 1) := by decide +kernel
theorem dX12_readBorough_54 : decode cX12_readBorough 54 = .ok (.istore_n 1, 1) := by decide +kernel
theorem dX12_readBorough_55 : decode cX12_readBorough 55 = .ok (.iload_n 1, 1) := by decide +kernel
theorem dX12_readBorough_56 : decode cX12_readBorough 56 = .ok (.ifCond .eq 55, 3) := by decide +kernel
theorem dX12_readBorough_59 : decode cX12_readBorough 59 = .ok (.aload_n 0, 1) := by decide +kernel
theorem dX12_readBorough_60 : decode cX12_readBorough 60 = .ok (.getfield 143, 3) := by decide +kernel
theorem dX12_readBorough_63 : decode cX12_readBorough 63 = .ok (.iconst (-1), 1) := by decide +kernel
theorem dX12_readBorough_64 : decode cX12_readBorough 64 = .ok (.if_icmp .ne 47, 3) := by decide +kernel
theorem dX12_readBorough_67 : decode cX12_readBorough 67 = .ok (.aload_n 0, 1) := by decide +kernel
theorem dX12_readBorough_68 : decode cX12_readBorough 68 = .ok (.invokevirtual 276, 3) := by decide +kernel
theorem dX12_readBorough_71 : decode cX12_readBorough 71 = .ok (.aload_n 0, 1) := by decide +kernel
theorem dX12_readBorough_72 : decode cX12_readBorough 72 = .ok (.getfield 143, 3) := by decide +kernel
theorem dX12_readBorough_75 : decode cX12_readBorough 75 = .ok (.iconst (-1), 1) := by decide +kernel
theorem dX12_readBorough_76 : decode cX12_readBorough 76 = .ok (.if_icmp .ne 16, 3) := by decide +kernel
theorem dX12_readBorough_92 : decode cX12_readBorough 92 = .ok (.iconst 0, 1) := by decide +kernel
theorem dX12_readBorough_93 : decode cX12_readBorough 93 = .ok (.istore_n 1, 1) := by decide +kernel
theorem dX12_readBorough_94 : decode cX12_readBorough 94 = .ok (.iload_n 1, 1) := by decide +kernel
theorem dX12_readBorough_95 : decode cX12_readBorough 95 = .ok (.ifCond .eq (-40), 3) := by decide +kernel
theorem dX12_readBorough_111 : decode cX12_readBorough 111 = .ok (.aload_n 0, 1) := by decide +kernel
theorem dX12_readBorough_112 : decode cX12_readBorough 112 = .ok (.getfield 143, 3) := by decide +kernel
theorem dX12_readBorough_115 : decode cX12_readBorough 115 = .ok (.iconst (-1), 1) := by decide +kernel
theorem dX12_readBorough_116 : decode cX12_readBorough 116 = .ok (.if_icmp .ne 23, 3) := by decide +kernel
theorem dX12_readBorough_139 : decode cX12_readBorough 139 = .ok (.return_, 1) := by decide +kernel
theorem dX12_readStep_0 : decode cX12_readStep 0 = .ok (.ldc_w 282, 3) := by decide +kernel
theorem dX12_readStep_3 : decode cX12_readStep 3 = .ok (.aload_n 0, 1) := by decide +kernel
theorem dX12_readStep_4 : decode cX12_readStep 4 = .ok (.invokevirtual 153, 3) := by decide +kernel
theorem dX12_readStep_7 : decode cX12_readStep 7 = .ok (.invokestatic 240, 3) := by decide +kernel
theorem dX12_readStep_10 : decode cX12_readStep 10 = .ok (.istore_n 2, 1) := by decide +kernel
theorem dX12_readStep_11 : decode cX12_readStep 11 = .ok (.iload_n 2, 1) := by decide +kernel
theorem dX12_readStep_12 : decode cX12_readStep 12 = .ok (.iconst (-1), 1) := by decide +kernel
theorem dX12_readStep_13 : decode cX12_readStep 13 = .ok (.if_icmp .ne 9, 3) := by decide +kernel
theorem dX12_readStep_16 : decode cX12_readStep 16 = .ok (.aload_n 0, 1) := by decide +kernel
theorem dX12_readStep_17 : decode cX12_readStep 17 = .ok (.invokevirtual 149, 3) := by decide +kernel
theorem dX12_readStep_20 : decode cX12_readStep 20 = .ok (.pop, 1) := by decide +kernel
theorem dX12_readStep_21 : decode cX12_readStep 21 = .ok (.return_, 1) := by decide +kernel
theorem dX12_readPlan_0 : decode cX12_readPlan 0 = .ok (.aload_n 0, 1) := by decide +kernel
theorem dX12_readPlan_1 : decode cX12_readPlan 1 = .ok (.aload_n 0, 1) := by decide +kernel
theorem dX12_readPlan_2 : decode cX12_readPlan 2 = .ok (.getfield 9, 3) := by decide +kernel
theorem dX12_readPlan_5 : decode cX12_readPlan 5 = .ok (.iconst 0, 1) := by decide +kernel
theorem dX12_readPlan_6 : decode cX12_readPlan 6 = .ok (.aload_n 0, 1) := by decide +kernel
theorem dX12_readPlan_7 : decode cX12_readPlan 7 = .ok (.getfield 124, 3) := by decide +kernel
theorem dX12_readPlan_10 : decode cX12_readPlan 10 = .ok (.invokevirtual 222, 3) := by decide +kernel
theorem dX12_readPlan_13 : decode cX12_readPlan 13 = .ok (.iconst 0, 1) := by decide +kernel
theorem dX12_readPlan_14 : decode cX12_readPlan 14 = .ok (.istore_n 1, 1) := by decide +kernel
theorem dX12_readPlan_15 : decode cX12_readPlan 15 = .ok (.iconst 1, 1) := by decide +kernel
theorem dX12_readPlan_16 : decode cX12_readPlan 16 = .ok (.istore_n 2, 1) := by decide +kernel
theorem dX12_readPlan_17 : decode cX12_readPlan 17 = .ok (.iload_n 2, 1) := by decide +kernel
theorem dX12_readPlan_18 : decode cX12_readPlan 18 = .ok (.ifCond .eq 73, 3) := by decide +kernel
theorem dX12_readPlan_21 : decode cX12_readPlan 21 = .ok (.aload_n 0, 1) := by decide +kernel
theorem dX12_readPlan_22 : decode cX12_readPlan 22 = .ok (.iconst 4, 1) := by decide +kernel
theorem dX12_readPlan_23 : decode cX12_readPlan 23 = .ok (.bipush 64, 2) := by decide +kernel
theorem dX12_readPlan_25 : decode cX12_readPlan 25 = .ok (.iload_n 1, 1) := by decide +kernel
theorem dX12_readPlan_26 : decode cX12_readPlan 26 = .ok (.iadd, 1) := by decide +kernel
theorem dX12_readPlan_27 : decode cX12_readPlan 27 = .ok (.imul, 1) := by decide +kernel
theorem dX12_readPlan_28 : decode cX12_readPlan 28 = .ok (.invokevirtual 287, 3) := by decide +kernel
theorem dX12_readPlan_31 : decode cX12_readPlan 31 = .ok (.aload_n 0, 1) := by decide +kernel
theorem dX12_readPlan_32 : decode cX12_readPlan 32 = .ok (.getfield 143, 3) := by decide +kernel
theorem dX12_readPlan_35 : decode cX12_readPlan 35 = .ok (.iconst (-1), 1) := by decide +kernel
theorem dX12_readPlan_36 : decode cX12_readPlan 36 = .ok (.if_icmp .eq 4, 3) := by decide +kernel
theorem dX12_readPlan_39 : decode cX12_readPlan 39 = .ok (.return_, 1) := by decide +kernel
theorem dX12_fault_0 : decode cX12_fault 0 = .ok (.aload_n 0, 1) := by decide +kernel
theorem dX12_fault_1 : decode cX12_fault 1 = .ok (.iconst 0, 1) := by decide +kernel
theorem dX12_fault_2 : decode cX12_fault 2 = .ok (.putfield 111, 3) := by decide +kernel
theorem dX12_fault_5 : decode cX12_fault 5 = .ok (.iload_n 1, 1) := by decide +kernel
theorem dX12_fault_6 : decode cX12_fault 6 = .ok (.i2l, 1) := by decide +kernel
theorem dX12_fault_7 : decode cX12_fault 7 = .ok (.lconst 0, 1) := by decide +kernel
theorem dX12_fault_8 : decode cX12_fault 8 = .ok (.ldc2_w 290, 3) := by decide +kernel
theorem dX12_fault_11 : decode cX12_fault 11 = .ok (.invokestatic 232, 3) := by decide +kernel
theorem dX12_fault_14 : decode cX12_fault 14 = .ok (.ifCond .ne 6, 3) := by decide +kernel
theorem dX12_fault_17 : decode cX12_fault 17 = .ok (.bipush (-2), 2) := by decide +kernel
theorem dX12_fault_19 : decode cX12_fault 19 = .ok (.ireturn, 1) := by decide +kernel
theorem dX12_fault_20 : decode cX12_fault 20 = .ok (.iload_n 1, 1) := by decide +kernel
theorem dX12_fault_21 : decode cX12_fault 21 = .ok (.ifCond .ne 7, 3) := by decide +kernel
theorem dX12_fault_24 : decode cX12_fault 24 = .ok (.aload_n 0, 1) := by decide +kernel
theorem dX12_fault_25 : decode cX12_fault 25 = .ok (.invokevirtual 292, 3) := by decide +kernel
theorem dX12_fault_28 : decode cX12_fault 28 = .ok (.iload_n 1, 1) := by decide +kernel
theorem dX12_fault_29 : decode cX12_fault 29 = .ok (.iconst 1, 1) := by decide +kernel
theorem dX12_fault_30 : decode cX12_fault 30 = .ok (.if_icmp .ne 16, 3) := by decide +kernel
theorem dX12_fault_33 : decode cX12_fault 33 = .ok (.aload_n 0, 1) := by decide +kernel
theorem dX12_fault_34 : decode cX12_fault 34 = .ok (.aload_n 0, 1) := by decide +kernel
theorem dX12_fault_35 : decode cX12_fault 35 = .ok (.getfield 9, 3) := by decide +kernel
theorem dX12_fault_38 : decode cX12_fault 38 = .ok (.iconst 0, 1) := by decide +kernel
theorem dX12_fault_39 : decode cX12_fault 39 = .ok (.aload_n 0, 1) := by decide +kernel
theorem dX12_fault_40 : decode cX12_fault 40 = .ok (.getfield 124, 3) := by decide +kernel
theorem dX12_fault_43 : decode cX12_fault 43 = .ok (.invokevirtual 295, 3) := by decide +kernel
theorem dX12_fault_46 : decode cX12_fault 46 = .ok (.iload_n 1, 1) := by decide +kernel
theorem dX12_fault_47 : decode cX12_fault 47 = .ok (.iconst 2, 1) := by decide +kernel
theorem dX12_fault_48 : decode cX12_fault 48 = .ok (.if_icmp .ne 7, 3) := by decide +kernel
theorem dX12_fault_51 : decode cX12_fault 51 = .ok (.aload_n 0, 1) := by decide +kernel
theorem dX12_fault_52 : decode cX12_fault 52 = .ok (.invokevirtual 298, 3) := by decide +kernel
theorem dX12_fault_55 : decode cX12_fault 55 = .ok (.aload_n 0, 1) := by decide +kernel
theorem dX12_fault_56 : decode cX12_fault 56 = .ok (.getfield 143, 3) := by decide +kernel
theorem dX12_fault_59 : decode cX12_fault 59 = .ok (.ireturn, 1) := by decide +kernel
theorem dX12_text_0 : decode cX12_text 0 = .ok (.aload_n 0, 1) := by decide +kernel
theorem dX12_text_1 : decode cX12_text 1 = .ok (.iconst 0, 1) := by decide +kernel
theorem dX12_text_2 : decode cX12_text 2 = .ok (.putfield 111, 3) := by decide +kernel
theorem dX12_text_5 : decode cX12_text 5 = .ok (.iload_n 1, 1) := by decide +kernel
theorem dX12_text_6 : decode cX12_text 6 = .ok (.i2l, 1) := by decide +kernel
theorem dX12_text_7 : decode cX12_text 7 = .ok (.lconst 0, 1) := by decide +kernel
theorem dX12_text_8 : decode cX12_text 8 = .ok (.ldc2_w 290, 3) := by decide +kernel
theorem dX12_text_11 : decode cX12_text 11 = .ok (.invokestatic 232, 3) := by decide +kernel
theorem dX12_text_14 : decode cX12_text 14 = .ok (.ifCond .eq 38, 3) := by decide +kernel
theorem dX12_text_17 : decode cX12_text 17 = .ok (.iload_n 1, 1) := by decide +kernel
theorem dX12_text_18 : decode cX12_text 18 = .ok (.iconst 1, 1) := by decide +kernel
theorem dX12_text_19 : decode cX12_text 19 = .ok (.if_icmp .ne 11, 3) := by decide +kernel
theorem dX12_text_22 : decode cX12_text 22 = .ok (.aload_n 0, 1) := by decide +kernel
theorem dX12_text_23 : decode cX12_text 23 = .ok (.getfield 301, 3) := by decide +kernel
theorem dX12_text_26 : decode cX12_text 26 = .ok (.iconst 4, 1) := by decide +kernel
theorem dX12_text_27 : decode cX12_text 27 = .ok (.if_icmp .eq 25, 3) := by decide +kernel
theorem dX12_text_30 : decode cX12_text 30 = .ok (.iload_n 1, 1) := by decide +kernel
theorem dX12_text_31 : decode cX12_text 31 = .ok (.iconst 2, 1) := by decide +kernel
theorem dX12_text_32 : decode cX12_text 32 = .ok (.if_icmp .ne 11, 3) := by decide +kernel
theorem dX12_text_35 : decode cX12_text 35 = .ok (.aload_n 0, 1) := by decide +kernel
theorem dX12_text_36 : decode cX12_text 36 = .ok (.getfield 304, 3) := by decide +kernel
theorem dX12_text_39 : decode cX12_text 39 = .ok (.iconst 4, 1) := by decide +kernel
theorem dX12_text_40 : decode cX12_text 40 = .ok (.if_icmp .eq 12, 3) := by decide +kernel
theorem dX12_text_43 : decode cX12_text 43 = .ok (.aload_n 0, 1) := by decide +kernel
theorem dX12_text_44 : decode cX12_text 44 = .ok (.iload_n 1, 1) := by decide +kernel
theorem dX12_text_45 : decode cX12_text 45 = .ok (.invokevirtual 307, 3) := by decide +kernel
theorem dX12_text_48 : decode cX12_text 48 = .ok (.iconst (-1), 1) := by decide +kernel
theorem dX12_text_49 : decode cX12_text 49 = .ok (.if_icmp .eq 5, 3) := by decide +kernel
theorem dX12_text_52 : decode cX12_text 52 = .ok (.iconst (-1), 1) := by decide +kernel
theorem dX12_text_53 : decode cX12_text 53 = .ok (.ireturn, 1) := by decide +kernel
theorem dX12_isBuoy_0 : decode cX12_isBuoy 0 = .ok (.iload_n 1, 1) := by decide +kernel
theorem dX12_isBuoy_1 : decode cX12_isBuoy 1 = .ok (.ifCond .lt 15, 3) := by decide +kernel
theorem dX12_isBuoy_4 : decode cX12_isBuoy 4 = .ok (.iload_n 1, 1) := by decide +kernel
theorem dX12_isBuoy_5 : decode cX12_isBuoy 5 = .ok (.aload_n 0, 1) := by decide +kernel
theorem dX12_isBuoy_6 : decode cX12_isBuoy 6 = .ok (.getfield 309, 3) := by decide +kernel
theorem dX12_isBuoy_9 : decode cX12_isBuoy 9 = .ok (.if_icmp .ge 7, 3) := by decide +kernel
theorem dX12_isBuoy_16 : decode cX12_isBuoy 16 = .ok (.iconst 0, 1) := by decide +kernel
theorem dX12_isBuoy_17 : decode cX12_isBuoy 17 = .ok (.ireturn, 1) := by decide +kernel
theorem dX12_isBoat_0 : decode cX12_isBoat 0 = .ok (.iload_n 1, 1) := by decide +kernel
theorem dX12_isBoat_1 : decode cX12_isBoat 1 = .ok (.ifCond .lt 15, 3) := by decide +kernel
theorem dX12_isBoat_4 : decode cX12_isBoat 4 = .ok (.iload_n 1, 1) := by decide +kernel
theorem dX12_isBoat_5 : decode cX12_isBoat 5 = .ok (.aload_n 0, 1) := by decide +kernel
theorem dX12_isBoat_6 : decode cX12_isBoat 6 = .ok (.getfield 312, 3) := by decide +kernel
theorem dX12_isBoat_9 : decode cX12_isBoat 9 = .ok (.if_icmp .ge 7, 3) := by decide +kernel
theorem dX12_isBoat_16 : decode cX12_isBoat 16 = .ok (.iconst 0, 1) := by decide +kernel
theorem dX12_isBoat_17 : decode cX12_isBoat 17 = .ok (.ireturn, 1) := by decide +kernel
theorem dX12_rule_0 : decode cX12_rule 0 = .ok (.aload_n 0, 1) := by decide +kernel
theorem dX12_rule_1 : decode cX12_rule 1 = .ok (.iconst 0, 1) := by decide +kernel
theorem dX12_rule_2 : decode cX12_rule 2 = .ok (.putfield 111, 3) := by decide +kernel
theorem dX12_rule_5 : decode cX12_rule 5 = .ok (.aload_n 0, 1) := by decide +kernel
theorem dX12_rule_6 : decode cX12_rule 6 = .ok (.getfield 309, 3) := by decide +kernel
theorem dX12_rule_9 : decode cX12_rule 9 = .ok (.ifCond .eq 15, 3) := by decide +kernel
theorem dX12_rule_24 : decode cX12_rule 24 = .ok (.iconst (-1), 1) := by decide +kernel
theorem dX12_rule_25 : decode cX12_rule 25 = .ok (.ireturn, 1) := by decide +kernel
theorem dX12_buoy_0 : decode cX12_buoy 0 = .ok (.aload_n 0, 1) := by decide +kernel
theorem dX12_buoy_1 : decode cX12_buoy 1 = .ok (.aload_n 0, 1) := by decide +kernel
theorem dX12_buoy_2 : decode cX12_buoy 2 = .ok (.iload_n 1, 1) := by decide +kernel
theorem dX12_buoy_3 : decode cX12_buoy 3 = .ok (.invokevirtual 407, 3) := by decide +kernel
theorem dX12_buoy_6 : decode cX12_buoy 6 = .ok (.ifCond .eq 19, 3) := by decide +kernel
theorem dX12_buoy_25 : decode cX12_buoy 25 = .ok (.iconst 1, 1) := by decide +kernel
theorem dX12_buoy_26 : decode cX12_buoy 26 = .ok (.putfield 111, 3) := by decide +kernel
theorem dX12_buoy_29 : decode cX12_buoy 29 = .ok (.aload_n 0, 1) := by decide +kernel
theorem dX12_buoy_30 : decode cX12_buoy 30 = .ok (.getfield 111, 3) := by decide +kernel
theorem dX12_buoy_33 : decode cX12_buoy 33 = .ok (.ifCond .le 5, 3) := by decide +kernel
theorem dX12_buoy_36 : decode cX12_buoy 36 = .ok (.iconst 0, 1) := by decide +kernel
theorem dX12_buoy_37 : decode cX12_buoy 37 = .ok (.ireturn, 1) := by decide +kernel
theorem dX12_boat_0 : decode cX12_boat 0 = .ok (.aload_n 0, 1) := by decide +kernel
theorem dX12_boat_1 : decode cX12_boat 1 = .ok (.iconst 0, 1) := by decide +kernel
theorem dX12_boat_2 : decode cX12_boat 2 = .ok (.putfield 111, 3) := by decide +kernel
theorem dX12_boat_5 : decode cX12_boat 5 = .ok (.aload_n 0, 1) := by decide +kernel
theorem dX12_boat_6 : decode cX12_boat 6 = .ok (.iload_n 1, 1) := by decide +kernel
theorem dX12_boat_7 : decode cX12_boat 7 = .ok (.invokevirtual 412, 3) := by decide +kernel
theorem dX12_boat_10 : decode cX12_boat 10 = .ok (.ifCond .eq 15, 3) := by decide +kernel
theorem dX12_boat_25 : decode cX12_boat 25 = .ok (.iconst (-1), 1) := by decide +kernel
theorem dX12_boat_26 : decode cX12_boat 26 = .ok (.ireturn, 1) := by decide +kernel
theorem dX12_law_0 : decode cX12_law 0 = .ok (.aload_n 0, 1) := by decide +kernel
theorem dX12_law_1 : decode cX12_law 1 = .ok (.iconst 0, 1) := by decide +kernel
theorem dX12_law_2 : decode cX12_law 2 = .ok (.putfield 111, 3) := by decide +kernel
theorem dX12_law_5 : decode cX12_law 5 = .ok (.iload_n 1, 1) := by decide +kernel
theorem dX12_law_6 : decode cX12_law 6 = .ok (.iconst (-1), 1) := by decide +kernel
theorem dX12_law_7 : decode cX12_law 7 = .ok (.if_icmp .eq 21, 3) := by decide +kernel
theorem dX12_law_10 : decode cX12_law 10 = .ok (.iload_n 1, 1) := by decide +kernel
theorem dX12_law_11 : decode cX12_law 11 = .ok (.i2l, 1) := by decide +kernel
theorem dX12_law_12 : decode cX12_law 12 = .ok (.lconst 0, 1) := by decide +kernel
theorem dX12_law_13 : decode cX12_law 13 = .ok (.aload_n 0, 1) := by decide +kernel
theorem dX12_law_14 : decode cX12_law 14 = .ok (.getfield 301, 3) := by decide +kernel
theorem dX12_law_17 : decode cX12_law 17 = .ok (.iconst 1, 1) := by decide +kernel
theorem dX12_law_18 : decode cX12_law 18 = .ok (.isub, 1) := by decide +kernel
theorem dX12_law_19 : decode cX12_law 19 = .ok (.i2l, 1) := by decide +kernel
theorem dX12_law_20 : decode cX12_law 20 = .ok (.invokestatic 232, 3) := by decide +kernel
theorem dX12_law_23 : decode cX12_law 23 = .ok (.ifCond .ne 5, 3) := by decide +kernel
theorem dX12_law_26 : decode cX12_law 26 = .ok (.iconst 0, 1) := by decide +kernel
theorem dX12_law_27 : decode cX12_law 27 = .ok (.ireturn, 1) := by decide +kernel
theorem dX12_law_28 : decode cX12_law 28 = .ok (.aload_n 0, 1) := by decide +kernel
theorem dX12_law_29 : decode cX12_law 29 = .ok (.iload_n 1, 1) := by decide +kernel
theorem dX12_law_30 : decode cX12_law 30 = .ok (.putfield 67, 3) := by decide +kernel
theorem dX12_law_33 : decode cX12_law 33 = .ok (.iconst 1, 1) := by decide +kernel
theorem dX12_law_34 : decode cX12_law 34 = .ok (.ireturn, 1) := by decide +kernel
theorem dX12_pull_0 : decode cX12_pull 0 = .ok (.aload_n 0, 1) := by decide +kernel
theorem dX12_pull_1 : decode cX12_pull 1 = .ok (.iconst 0, 1) := by decide +kernel
theorem dX12_pull_2 : decode cX12_pull 2 = .ok (.putfield 111, 3) := by decide +kernel
theorem dX12_pull_5 : decode cX12_pull 5 = .ok (.aload_n 0, 1) := by decide +kernel
theorem dX12_pull_6 : decode cX12_pull 6 = .ok (.iload_n 1, 1) := by decide +kernel
theorem dX12_pull_7 : decode cX12_pull 7 = .ok (.invokevirtual 407, 3) := by decide +kernel
theorem dX12_pull_10 : decode cX12_pull 10 = .ok (.ifCond .eq 24, 3) := by decide +kernel
theorem dX12_pull_34 : decode cX12_pull 34 = .ok (.ldc_w 417, 3) := by decide +kernel
theorem dX12_pull_37 : decode cX12_pull 37 = .ok (.ireturn, 1) := by decide +kernel
theorem dX12_push_0 : decode cX12_push 0 = .ok (.aload_n 0, 1) := by decide +kernel
theorem dX12_push_1 : decode cX12_push 1 = .ok (.iconst 0, 1) := by decide +kernel
theorem dX12_push_2 : decode cX12_push 2 = .ok (.putfield 111, 3) := by decide +kernel
theorem dX12_push_5 : decode cX12_push 5 = .ok (.aload_n 0, 1) := by decide +kernel
theorem dX12_push_6 : decode cX12_push 6 = .ok (.iload_n 1, 1) := by decide +kernel
theorem dX12_push_7 : decode cX12_push 7 = .ok (.invokevirtual 407, 3) := by decide +kernel
theorem dX12_push_10 : decode cX12_push 10 = .ok (.ifCond .eq 24, 3) := by decide +kernel
theorem dX12_push_34 : decode cX12_push 34 = .ok (.ldc_w 417, 3) := by decide +kernel
theorem dX12_push_37 : decode cX12_push 37 = .ok (.ireturn, 1) := by decide +kernel
theorem dX12_canRow_0 : decode cX12_canRow 0 = .ok (.aload_n 0, 1) := by decide +kernel
theorem dX12_canRow_1 : decode cX12_canRow 1 = .ok (.iload_n 2, 1) := by decide +kernel
theorem dX12_canRow_2 : decode cX12_canRow 2 = .ok (.invokevirtual 412, 3) := by decide +kernel
theorem dX12_canRow_5 : decode cX12_canRow 5 = .ok (.ifCond .eq 53, 3) := by decide +kernel
theorem dX12_canRow_58 : decode cX12_canRow 58 = .ok (.iconst 0, 1) := by decide +kernel
theorem dX12_canRow_59 : decode cX12_canRow 59 = .ok (.ireturn, 1) := by decide +kernel
theorem dX12_row_0 : decode cX12_row 0 = .ok (.aload_n 0, 1) := by decide +kernel
theorem dX12_row_1 : decode cX12_row 1 = .ok (.iconst 0, 1) := by decide +kernel
theorem dX12_row_2 : decode cX12_row 2 = .ok (.putfield 111, 3) := by decide +kernel
theorem dX12_row_5 : decode cX12_row 5 = .ok (.aload_n 0, 1) := by decide +kernel
theorem dX12_row_6 : decode cX12_row 6 = .ok (.aload_n 0, 1) := by decide +kernel
theorem dX12_row_7 : decode cX12_row 7 = .ok (.getfield 61, 3) := by decide +kernel
theorem dX12_row_10 : decode cX12_row 10 = .ok (.iload_n 1, 1) := by decide +kernel
theorem dX12_row_11 : decode cX12_row 11 = .ok (.iload_n 2, 1) := by decide +kernel
theorem dX12_row_12 : decode cX12_row 12 = .ok (.iload_n 3, 1) := by decide +kernel
theorem dX12_row_13 : decode cX12_row 13 = .ok (.invokevirtual 420, 3) := by decide +kernel
theorem dX12_row_16 : decode cX12_row 16 = .ok (.ifCond .ne 5, 3) := by decide +kernel
theorem dX12_row_19 : decode cX12_row 19 = .ok (.iconst (-1), 1) := by decide +kernel
theorem dX12_row_20 : decode cX12_row 20 = .ok (.ireturn, 1) := by decide +kernel
theorem dX12_canSing_0 : decode cX12_canSing 0 = .ok (.aload_n 0, 1) := by decide +kernel
theorem dX12_canSing_1 : decode cX12_canSing 1 = .ok (.iload_n 2, 1) := by decide +kernel
theorem dX12_canSing_2 : decode cX12_canSing 2 = .ok (.invokevirtual 412, 3) := by decide +kernel
theorem dX12_canSing_5 : decode cX12_canSing 5 = .ok (.ifCond .eq 38, 3) := by decide +kernel
theorem dX12_canSing_43 : decode cX12_canSing 43 = .ok (.iconst 0, 1) := by decide +kernel
theorem dX12_canSing_44 : decode cX12_canSing 44 = .ok (.ireturn, 1) := by decide +kernel
theorem dX12_sing_0 : decode cX12_sing 0 = .ok (.aload_n 0, 1) := by decide +kernel
theorem dX12_sing_1 : decode cX12_sing 1 = .ok (.iconst 0, 1) := by decide +kernel
theorem dX12_sing_2 : decode cX12_sing 2 = .ok (.putfield 111, 3) := by decide +kernel
theorem dX12_sing_5 : decode cX12_sing 5 = .ok (.aload_n 0, 1) := by decide +kernel
theorem dX12_sing_6 : decode cX12_sing 6 = .ok (.aload_n 0, 1) := by decide +kernel
theorem dX12_sing_7 : decode cX12_sing 7 = .ok (.getfield 61, 3) := by decide +kernel
theorem dX12_sing_10 : decode cX12_sing 10 = .ok (.iload_n 1, 1) := by decide +kernel
theorem dX12_sing_11 : decode cX12_sing 11 = .ok (.iload_n 2, 1) := by decide +kernel
theorem dX12_sing_12 : decode cX12_sing 12 = .ok (.invokevirtual 434, 3) := by decide +kernel
theorem dX12_sing_15 : decode cX12_sing 15 = .ok (.ifCond .ne 5, 3) := by decide +kernel
theorem dX12_sing_18 : decode cX12_sing 18 = .ok (.iconst (-1), 1) := by decide +kernel
theorem dX12_sing_19 : decode cX12_sing 19 = .ok (.ireturn, 1) := by decide +kernel
theorem dX12_canScrape_0 : decode cX12_canScrape 0 = .ok (.aload_n 0, 1) := by decide +kernel
theorem dX12_canScrape_1 : decode cX12_canScrape 1 = .ok (.iload_n 2, 1) := by decide +kernel
theorem dX12_canScrape_2 : decode cX12_canScrape 2 = .ok (.invokevirtual 412, 3) := by decide +kernel
theorem dX12_canScrape_5 : decode cX12_canScrape 5 = .ok (.ifCond .eq 36, 3) := by decide +kernel
theorem dX12_canScrape_41 : decode cX12_canScrape 41 = .ok (.iconst 0, 1) := by decide +kernel
theorem dX12_canScrape_42 : decode cX12_canScrape 42 = .ok (.ireturn, 1) := by decide +kernel
theorem dX12_scrape_0 : decode cX12_scrape 0 = .ok (.aload_n 0, 1) := by decide +kernel
theorem dX12_scrape_1 : decode cX12_scrape 1 = .ok (.iconst 0, 1) := by decide +kernel
theorem dX12_scrape_2 : decode cX12_scrape 2 = .ok (.putfield 111, 3) := by decide +kernel
theorem dX12_scrape_5 : decode cX12_scrape 5 = .ok (.aload_n 0, 1) := by decide +kernel
theorem dX12_scrape_6 : decode cX12_scrape 6 = .ok (.aload_n 0, 1) := by decide +kernel
theorem dX12_scrape_7 : decode cX12_scrape 7 = .ok (.getfield 61, 3) := by decide +kernel
theorem dX12_scrape_10 : decode cX12_scrape 10 = .ok (.iload_n 1, 1) := by decide +kernel
theorem dX12_scrape_11 : decode cX12_scrape 11 = .ok (.iload_n 2, 1) := by decide +kernel
theorem dX12_scrape_12 : decode cX12_scrape 12 = .ok (.invokevirtual 442, 3) := by decide +kernel
theorem dX12_scrape_15 : decode cX12_scrape 15 = .ok (.ifCond .ne 5, 3) := by decide +kernel
theorem dX12_scrape_18 : decode cX12_scrape 18 = .ok (.iconst (-1), 1) := by decide +kernel
theorem dX12_scrape_19 : decode cX12_scrape 19 = .ok (.ireturn, 1) := by decide +kernel
theorem dX12_wind_0 : decode cX12_wind 0 = .ok (.aload_n 0, 1) := by decide +kernel
theorem dX12_wind_1 : decode cX12_wind 1 = .ok (.iconst 0, 1) := by decide +kernel
theorem dX12_wind_2 : decode cX12_wind 2 = .ok (.putfield 111, 3) := by decide +kernel
theorem dX12_wind_5 : decode cX12_wind 5 = .ok (.aload_n 0, 1) := by decide +kernel
theorem dX12_wind_6 : decode cX12_wind 6 = .ok (.getfield 309, 3) := by decide +kernel
theorem dX12_wind_9 : decode cX12_wind 9 = .ok (.ifCond .eq 49, 3) := by decide +kernel
theorem dX12_wind_58 : decode cX12_wind 58 = .ok (.iconst 0, 1) := by decide +kernel
theorem dX12_wind_59 : decode cX12_wind 59 = .ok (.ireturn, 1) := by decide +kernel
theorem dX12_mayPass_0 : decode cX12_mayPass 0 = .ok (.aload_n 0, 1) := by decide +kernel
theorem dX12_mayPass_1 : decode cX12_mayPass 1 = .ok (.getfield 309, 3) := by decide +kernel
theorem dX12_mayPass_4 : decode cX12_mayPass 4 = .ok (.ifCond .le 30, 3) := by decide +kernel
theorem dX12_mayPass_34 : decode cX12_mayPass 34 = .ok (.iconst 0, 1) := by decide +kernel
theorem dX12_mayPass_35 : decode cX12_mayPass 35 = .ok (.ireturn, 1) := by decide +kernel
theorem dX12_hours_0 : decode cX12_hours 0 = .ok (.aload_n 0, 1) := by decide +kernel
theorem dX12_hours_1 : decode cX12_hours 1 = .ok (.iconst 0, 1) := by decide +kernel
theorem dX12_hours_2 : decode cX12_hours 2 = .ok (.putfield 111, 3) := by decide +kernel
theorem dX12_hours_5 : decode cX12_hours 5 = .ok (.aload_n 0, 1) := by decide +kernel
theorem dX12_hours_6 : decode cX12_hours 6 = .ok (.aload_n 0, 1) := by decide +kernel
theorem dX12_hours_7 : decode cX12_hours 7 = .ok (.getfield 61, 3) := by decide +kernel
theorem dX12_hours_10 : decode cX12_hours 10 = .ok (.iload_n 1, 1) := by decide +kernel
theorem dX12_hours_11 : decode cX12_hours 11 = .ok (.bipush 60, 2) := by decide +kernel
theorem dX12_hours_13 : decode cX12_hours 13 = .ok (.invokevirtual 447, 3) := by decide +kernel
theorem dX12_hours_16 : decode cX12_hours 16 = .ok (.ifCond .ne 5, 3) := by decide +kernel
theorem dX12_hours_19 : decode cX12_hours 19 = .ok (.iconst (-1), 1) := by decide +kernel
theorem dX12_hours_20 : decode cX12_hours 20 = .ok (.ireturn, 1) := by decide +kernel
theorem dX12_years_0 : decode cX12_years 0 = .ok (.aload_n 0, 1) := by decide +kernel
theorem dX12_years_1 : decode cX12_years 1 = .ok (.iconst 0, 1) := by decide +kernel
theorem dX12_years_2 : decode cX12_years 2 = .ok (.putfield 111, 3) := by decide +kernel
theorem dX12_years_5 : decode cX12_years 5 = .ok (.aload_n 0, 1) := by decide +kernel
theorem dX12_years_6 : decode cX12_years 6 = .ok (.aload_n 0, 1) := by decide +kernel
theorem dX12_years_7 : decode cX12_years 7 = .ok (.getfield 61, 3) := by decide +kernel
theorem dX12_years_10 : decode cX12_years 10 = .ok (.iload_n 1, 1) := by decide +kernel
theorem dX12_years_11 : decode cX12_years 11 = .ok (.bipush 60, 2) := by decide +kernel
theorem dX12_years_13 : decode cX12_years 13 = .ok (.invokevirtual 447, 3) := by decide +kernel
theorem dX12_years_16 : decode cX12_years 16 = .ok (.ifCond .ne 5, 3) := by decide +kernel
theorem dX12_years_19 : decode cX12_years 19 = .ok (.iconst (-1), 1) := by decide +kernel
theorem dX12_years_20 : decode cX12_years 20 = .ok (.ireturn, 1) := by decide +kernel
theorem dX12_undo_0 : decode cX12_undo 0 = .ok (.aload_n 0, 1) := by decide +kernel
theorem dX12_undo_1 : decode cX12_undo 1 = .ok (.iconst 0, 1) := by decide +kernel
theorem dX12_undo_2 : decode cX12_undo 2 = .ok (.putfield 111, 3) := by decide +kernel
theorem dX12_undo_5 : decode cX12_undo 5 = .ok (.aload_n 0, 1) := by decide +kernel
theorem dX12_undo_6 : decode cX12_undo 6 = .ok (.getfield 324, 3) := by decide +kernel
theorem dX12_undo_9 : decode cX12_undo 9 = .ok (.ifCond .ne 5, 3) := by decide +kernel
theorem dX12_undo_12 : decode cX12_undo 12 = .ok (.iconst (-1), 1) := by decide +kernel
theorem dX12_undo_13 : decode cX12_undo 13 = .ok (.ireturn, 1) := by decide +kernel
theorem dX12_log_0 : decode cX12_log 0 = .ok (.aload_n 0, 1) := by decide +kernel
theorem dX12_log_1 : decode cX12_log 1 = .ok (.iconst 0, 1) := by decide +kernel
theorem dX12_log_2 : decode cX12_log 2 = .ok (.putfield 111, 3) := by decide +kernel
theorem dX12_log_5 : decode cX12_log 5 = .ok (.iload_n 1, 1) := by decide +kernel
theorem dX12_log_6 : decode cX12_log 6 = .ok (.i2l, 1) := by decide +kernel
theorem dX12_log_7 : decode cX12_log 7 = .ok (.lconst 0, 1) := by decide +kernel
theorem dX12_log_8 : decode cX12_log 8 = .ok (.aload_n 0, 1) := by decide +kernel
theorem dX12_log_9 : decode cX12_log 9 = .ok (.getfield 61, 3) := by decide +kernel
theorem dX12_log_12 : decode cX12_log 12 = .ok (.bipush 61, 2) := by decide +kernel
theorem dX12_log_14 : decode cX12_log 14 = .ok (.iaload, 1) := by decide +kernel
theorem dX12_log_15 : decode cX12_log 15 = .ok (.iconst 1, 1) := by decide +kernel
theorem dX12_log_16 : decode cX12_log 16 = .ok (.isub, 1) := by decide +kernel
theorem dX12_log_17 : decode cX12_log 17 = .ok (.i2l, 1) := by decide +kernel
theorem dX12_log_18 : decode cX12_log 18 = .ok (.invokestatic 232, 3) := by decide +kernel
theorem dX12_log_21 : decode cX12_log 21 = .ok (.ifCond .eq 41, 3) := by decide +kernel
theorem dX12_log_62 : decode cX12_log 62 = .ok (.iconst (-1), 1) := by decide +kernel
theorem dX12_log_63 : decode cX12_log 63 = .ok (.ireturn, 1) := by decide +kernel
theorem dX12_isPlan_0 : decode cX12_isPlan 0 = .ok (.iload_n 1, 1) := by decide +kernel
theorem dX12_isPlan_1 : decode cX12_isPlan 1 = .ok (.ifCond .lt 15, 3) := by decide +kernel
theorem dX12_isPlan_4 : decode cX12_isPlan 4 = .ok (.iload_n 1, 1) := by decide +kernel
theorem dX12_isPlan_5 : decode cX12_isPlan 5 = .ok (.aload_n 0, 1) := by decide +kernel
theorem dX12_isPlan_6 : decode cX12_isPlan 6 = .ok (.getfield 304, 3) := by decide +kernel
theorem dX12_isPlan_9 : decode cX12_isPlan 9 = .ok (.if_icmp .ge 7, 3) := by decide +kernel
theorem dX12_isPlan_16 : decode cX12_isPlan 16 = .ok (.iconst 0, 1) := by decide +kernel
theorem dX12_isPlan_17 : decode cX12_isPlan 17 = .ok (.ireturn, 1) := by decide +kernel
theorem dX12_step_0 : decode cX12_step 0 = .ok (.aload_n 0, 1) := by decide +kernel
theorem dX12_step_1 : decode cX12_step 1 = .ok (.iconst 0, 1) := by decide +kernel
theorem dX12_step_2 : decode cX12_step 2 = .ok (.putfield 111, 3) := by decide +kernel
theorem dX12_step_5 : decode cX12_step 5 = .ok (.aload_n 0, 1) := by decide +kernel
theorem dX12_step_6 : decode cX12_step 6 = .ok (.iload_n 1, 1) := by decide +kernel
theorem dX12_step_7 : decode cX12_step 7 = .ok (.invokevirtual 465, 3) := by decide +kernel
theorem dX12_step_10 : decode cX12_step 10 = .ok (.ifCond .eq 51, 3) := by decide +kernel
theorem dX12_step_61 : decode cX12_step 61 = .ok (.ldc_w 417, 3) := by decide +kernel
theorem dX12_step_64 : decode cX12_step 64 = .ok (.ireturn, 1) := by decide +kernel
theorem dX12_run_0 : decode cX12_run 0 = .ok (.aload_n 0, 1) := by decide +kernel
theorem dX12_run_1 : decode cX12_run 1 = .ok (.iconst 0, 1) := by decide +kernel
theorem dX12_run_2 : decode cX12_run 2 = .ok (.putfield 111, 3) := by decide +kernel
theorem dX12_run_5 : decode cX12_run 5 = .ok (.aload_n 0, 1) := by decide +kernel
theorem dX12_run_6 : decode cX12_run 6 = .ok (.iload_n 1, 1) := by decide +kernel
theorem dX12_run_7 : decode cX12_run 7 = .ok (.invokevirtual 465, 3) := by decide +kernel
theorem dX12_run_10 : decode cX12_run 10 = .ok (.ifCond .eq 20, 3) := by decide +kernel
theorem dX12_run_30 : decode cX12_run 30 = .ok (.ldc_w 417, 3) := by decide +kernel
theorem dX12_run_33 : decode cX12_run 33 = .ok (.ireturn, 1) := by decide +kernel
theorem dX12_perform_0 : decode cX12_perform 0 = .ok (.aload_n 0, 1) := by decide +kernel
theorem dX12_perform_1 : decode cX12_perform 1 = .ok (.iconst 0, 1) := by decide +kernel
theorem dX12_perform_2 : decode cX12_perform 2 = .ok (.putfield 111, 3) := by decide +kernel
theorem dX12_perform_5 : decode cX12_perform 5 = .ok (.aload_n 0, 1) := by decide +kernel
theorem dX12_perform_6 : decode cX12_perform 6 = .ok (.iload_n 1, 1) := by decide +kernel
theorem dX12_perform_7 : decode cX12_perform 7 = .ok (.invokevirtual 465, 3) := by decide +kernel
theorem dX12_perform_10 : decode cX12_perform 10 = .ok (.ifCond .eq 10, 3) := by decide +kernel
theorem dX12_perform_20 : decode cX12_perform 20 = .ok (.iconst (-1), 1) := by decide +kernel
theorem dX12_perform_21 : decode cX12_perform 21 = .ok (.ireturn, 1) := by decide +kernel
theorem dX12_votes_0 : decode cX12_votes 0 = .ok (.aload_n 0, 1) := by decide +kernel
theorem dX12_votes_1 : decode cX12_votes 1 = .ok (.iconst 0, 1) := by decide +kernel
theorem dX12_votes_2 : decode cX12_votes 2 = .ok (.putfield 111, 3) := by decide +kernel
theorem dX12_votes_5 : decode cX12_votes 5 = .ok (.aload_n 0, 1) := by decide +kernel
theorem dX12_votes_6 : decode cX12_votes 6 = .ok (.iload_n 1, 1) := by decide +kernel
theorem dX12_votes_7 : decode cX12_votes 7 = .ok (.invokevirtual 412, 3) := by decide +kernel
theorem dX12_votes_10 : decode cX12_votes 10 = .ok (.ifCond .eq 15, 3) := by decide +kernel
theorem dX12_votes_25 : decode cX12_votes 25 = .ok (.iconst (-1), 1) := by decide +kernel
theorem dX12_votes_26 : decode cX12_votes 26 = .ok (.ireturn, 1) := by decide +kernel
theorem dX12_leader_0 : decode cX12_leader 0 = .ok (.aload_n 0, 1) := by decide +kernel
theorem dX12_leader_1 : decode cX12_leader 1 = .ok (.iconst 0, 1) := by decide +kernel
theorem dX12_leader_2 : decode cX12_leader 2 = .ok (.putfield 111, 3) := by decide +kernel
theorem dX12_leader_5 : decode cX12_leader 5 = .ok (.aload_n 0, 1) := by decide +kernel
theorem dX12_leader_6 : decode cX12_leader 6 = .ok (.getfield 309, 3) := by decide +kernel
theorem dX12_leader_9 : decode cX12_leader 9 = .ok (.ifCond .ne 7, 3) := by decide +kernel
theorem dX12_leader_12 : decode cX12_leader 12 = .ok (.iconst (-1), 1) := by decide +kernel
theorem dX12_leader_13 : decode cX12_leader 13 = .ok (.goto 11, 3) := by decide +kernel
theorem dX12_leader_24 : decode cX12_leader 24 = .ok (.ireturn, 1) := by decide +kernel
theorem dX12_ahead_0 : decode cX12_ahead 0 = .ok (.aload_n 0, 1) := by decide +kernel
theorem dX12_ahead_1 : decode cX12_ahead 1 = .ok (.iconst 0, 1) := by decide +kernel
theorem dX12_ahead_2 : decode cX12_ahead 2 = .ok (.putfield 111, 3) := by decide +kernel
theorem dX12_ahead_5 : decode cX12_ahead 5 = .ok (.aload_n 0, 1) := by decide +kernel
theorem dX12_ahead_6 : decode cX12_ahead 6 = .ok (.iload_n 1, 1) := by decide +kernel
theorem dX12_ahead_7 : decode cX12_ahead 7 = .ok (.invokevirtual 407, 3) := by decide +kernel
theorem dX12_ahead_10 : decode cX12_ahead 10 = .ok (.ifCond .eq 15, 3) := by decide +kernel
theorem dX12_ahead_25 : decode cX12_ahead 25 = .ok (.ldc_w 417, 3) := by decide +kernel
theorem dX12_ahead_28 : decode cX12_ahead 28 = .ok (.ireturn, 1) := by decide +kernel
theorem dX12_soon_0 : decode cX12_soon 0 = .ok (.aload_n 0, 1) := by decide +kernel
theorem dX12_soon_1 : decode cX12_soon 1 = .ok (.iconst 0, 1) := by decide +kernel
theorem dX12_soon_2 : decode cX12_soon 2 = .ok (.putfield 111, 3) := by decide +kernel
theorem dX12_soon_5 : decode cX12_soon 5 = .ok (.aload_n 0, 1) := by decide +kernel
theorem dX12_soon_6 : decode cX12_soon 6 = .ok (.iload_n 1, 1) := by decide +kernel
theorem dX12_soon_7 : decode cX12_soon 7 = .ok (.invokevirtual 412, 3) := by decide +kernel
theorem dX12_soon_10 : decode cX12_soon 10 = .ok (.ifCond .eq 29, 3) := by decide +kernel
theorem dX12_soon_39 : decode cX12_soon 39 = .ok (.iconst (-1), 1) := by decide +kernel
theorem dX12_soon_40 : decode cX12_soon 40 = .ok (.ireturn, 1) := by decide +kernel
theorem dX12_round_0 : decode cX12_round 0 = .ok (.aload_n 0, 1) := by decide +kernel
theorem dX12_round_1 : decode cX12_round 1 = .ok (.iconst 0, 1) := by decide +kernel
theorem dX12_round_2 : decode cX12_round 2 = .ok (.putfield 111, 3) := by decide +kernel
theorem dX12_round_5 : decode cX12_round 5 = .ok (.aload_n 0, 1) := by decide +kernel
theorem dX12_round_6 : decode cX12_round 6 = .ok (.iload_n 1, 1) := by decide +kernel
theorem dX12_round_7 : decode cX12_round 7 = .ok (.invokevirtual 412, 3) := by decide +kernel
theorem dX12_round_10 : decode cX12_round 10 = .ok (.ifCond .eq 27, 3) := by decide +kernel
theorem dX12_round_37 : decode cX12_round 37 = .ok (.iconst (-1), 1) := by decide +kernel
theorem dX12_round_38 : decode cX12_round 38 = .ok (.ireturn, 1) := by decide +kernel
theorem dX12_best_0 : decode cX12_best 0 = .ok (.aload_n 0, 1) := by decide +kernel
theorem dX12_best_1 : decode cX12_best 1 = .ok (.iconst 0, 1) := by decide +kernel
theorem dX12_best_2 : decode cX12_best 2 = .ok (.putfield 111, 3) := by decide +kernel
theorem dX12_best_5 : decode cX12_best 5 = .ok (.aload_n 0, 1) := by decide +kernel
theorem dX12_best_6 : decode cX12_best 6 = .ok (.iload_n 1, 1) := by decide +kernel
theorem dX12_best_7 : decode cX12_best 7 = .ok (.invokevirtual 412, 3) := by decide +kernel
theorem dX12_best_10 : decode cX12_best 10 = .ok (.ifCond .eq 13, 3) := by decide +kernel
theorem dX12_best_23 : decode cX12_best 23 = .ok (.iconst (-1), 1) := by decide +kernel
theorem dX12_best_24 : decode cX12_best 24 = .ok (.ireturn, 1) := by decide +kernel
theorem dX12_areTwo_0 : decode cX12_areTwo 0 = .ok (.aload_n 0, 1) := by decide +kernel
theorem dX12_areTwo_1 : decode cX12_areTwo 1 = .ok (.iload_n 1, 1) := by decide +kernel
theorem dX12_areTwo_2 : decode cX12_areTwo 2 = .ok (.invokevirtual 412, 3) := by decide +kernel
theorem dX12_areTwo_5 : decode cX12_areTwo 5 = .ok (.ifCond .eq 20, 3) := by decide +kernel
theorem dX12_areTwo_25 : decode cX12_areTwo 25 = .ok (.iconst 0, 1) := by decide +kernel
theorem dX12_areTwo_26 : decode cX12_areTwo 26 = .ok (.ireturn, 1) := by decide +kernel
theorem dX12_game_0 : decode cX12_game 0 = .ok (.aload_n 0, 1) := by decide +kernel
theorem dX12_game_1 : decode cX12_game 1 = .ok (.iconst 0, 1) := by decide +kernel
theorem dX12_game_2 : decode cX12_game 2 = .ok (.putfield 111, 3) := by decide +kernel
theorem dX12_game_5 : decode cX12_game 5 = .ok (.aload_n 0, 1) := by decide +kernel
theorem dX12_game_6 : decode cX12_game 6 = .ok (.iload_n 1, 1) := by decide +kernel
theorem dX12_game_7 : decode cX12_game 7 = .ok (.iload_n 2, 1) := by decide +kernel
theorem dX12_game_8 : decode cX12_game 8 = .ok (.invokevirtual 501, 3) := by decide +kernel
theorem dX12_game_11 : decode cX12_game 11 = .ok (.ifCond .eq 45, 3) := by decide +kernel
theorem dX12_game_56 : decode cX12_game 56 = .ok (.iconst (-1), 1) := by decide +kernel
theorem dX12_game_57 : decode cX12_game 57 = .ok (.ireturn, 1) := by decide +kernel
theorem dX12_rests_0 : decode cX12_rests 0 = .ok (.aload_n 0, 1) := by decide +kernel
theorem dX12_rests_1 : decode cX12_rests 1 = .ok (.iconst 0, 1) := by decide +kernel
theorem dX12_rests_2 : decode cX12_rests 2 = .ok (.putfield 111, 3) := by decide +kernel
theorem dX12_rests_5 : decode cX12_rests 5 = .ok (.aload_n 0, 1) := by decide +kernel
theorem dX12_rests_6 : decode cX12_rests 6 = .ok (.iload_n 1, 1) := by decide +kernel
theorem dX12_rests_7 : decode cX12_rests 7 = .ok (.iload_n 2, 1) := by decide +kernel
theorem dX12_rests_8 : decode cX12_rests 8 = .ok (.invokevirtual 501, 3) := by decide +kernel
theorem dX12_rests_11 : decode cX12_rests 11 = .ok (.ifCond .eq 8, 3) := by decide +kernel
theorem dX12_rests_19 : decode cX12_rests 19 = .ok (.iconst (-1), 1) := by decide +kernel
theorem dX12_rests_20 : decode cX12_rests 20 = .ok (.ireturn, 1) := by decide +kernel
theorem dX12_holds_0 : decode cX12_holds 0 = .ok (.aload_n 0, 1) := by decide +kernel
theorem dX12_holds_1 : decode cX12_holds 1 = .ok (.iconst 0, 1) := by decide +kernel
theorem dX12_holds_2 : decode cX12_holds 2 = .ok (.putfield 111, 3) := by decide +kernel
theorem dX12_holds_5 : decode cX12_holds 5 = .ok (.aload_n 0, 1) := by decide +kernel
theorem dX12_holds_6 : decode cX12_holds 6 = .ok (.iload_n 1, 1) := by decide +kernel
theorem dX12_holds_7 : decode cX12_holds 7 = .ok (.iload_n 2, 1) := by decide +kernel
theorem dX12_holds_8 : decode cX12_holds 8 = .ok (.invokevirtual 501, 3) := by decide +kernel
theorem dX12_holds_11 : decode cX12_holds 11 = .ok (.ifCond .eq 13, 3) := by decide +kernel
theorem dX12_holds_24 : decode cX12_holds 24 = .ok (.ldc_w 417, 3) := by decide +kernel
theorem dX12_holds_27 : decode cX12_holds 27 = .ok (.ireturn, 1) := by decide +kernel
theorem dX12_seen_0 : decode cX12_seen 0 = .ok (.aload_n 0, 1) := by decide +kernel
theorem dX12_seen_1 : decode cX12_seen 1 = .ok (.iconst 0, 1) := by decide +kernel
theorem dX12_seen_2 : decode cX12_seen 2 = .ok (.putfield 111, 3) := by decide +kernel
theorem dX12_seen_5 : decode cX12_seen 5 = .ok (.aload_n 0, 1) := by decide +kernel
theorem dX12_seen_6 : decode cX12_seen 6 = .ok (.iload_n 1, 1) := by decide +kernel
theorem dX12_seen_7 : decode cX12_seen 7 = .ok (.invokevirtual 407, 3) := by decide +kernel
theorem dX12_seen_10 : decode cX12_seen 10 = .ok (.ifCond .eq 49, 3) := by decide +kernel
theorem dX12_seen_59 : decode cX12_seen 59 = .ok (.iconst (-1), 1) := by decide +kernel
theorem dX12_seen_60 : decode cX12_seen 60 = .ok (.ireturn, 1) := by decide +kernel
theorem dX12_likes_0 : decode cX12_likes 0 = .ok (.aload_n 0, 1) := by decide +kernel
theorem dX12_likes_1 : decode cX12_likes 1 = .ok (.iconst 0, 1) := by decide +kernel
theorem dX12_likes_2 : decode cX12_likes 2 = .ok (.putfield 111, 3) := by decide +kernel
theorem dX12_likes_5 : decode cX12_likes 5 = .ok (.aload_n 0, 1) := by decide +kernel
theorem dX12_likes_6 : decode cX12_likes 6 = .ok (.iload_n 1, 1) := by decide +kernel
theorem dX12_likes_7 : decode cX12_likes 7 = .ok (.invokevirtual 407, 3) := by decide +kernel
theorem dX12_likes_10 : decode cX12_likes 10 = .ok (.ifCond .eq 8, 3) := by decide +kernel
theorem dX12_likes_18 : decode cX12_likes 18 = .ok (.iconst (-1), 1) := by decide +kernel
theorem dX12_likes_19 : decode cX12_likes 19 = .ok (.ireturn, 1) := by decide +kernel
theorem dX12_ask_0 : decode cX12_ask 0 = .ok (.aload_n 0, 1) := by decide +kernel
theorem dX12_ask_1 : decode cX12_ask 1 = .ok (.iconst 0, 1) := by decide +kernel
theorem dX12_ask_2 : decode cX12_ask 2 = .ok (.putfield 111, 3) := by decide +kernel
theorem dX12_ask_5 : decode cX12_ask 5 = .ok (.aload_n 0, 1) := by decide +kernel
theorem dX12_ask_6 : decode cX12_ask 6 = .ok (.iload_n 1, 1) := by decide +kernel
theorem dX12_ask_7 : decode cX12_ask 7 = .ok (.invokevirtual 407, 3) := by decide +kernel
theorem dX12_ask_10 : decode cX12_ask 10 = .ok (.ifCond .eq 12, 3) := by decide +kernel
theorem dX12_ask_22 : decode cX12_ask 22 = .ok (.iconst (-1), 1) := by decide +kernel
theorem dX12_ask_23 : decode cX12_ask 23 = .ok (.ireturn, 1) := by decide +kernel
theorem dX12_blown_0 : decode cX12_blown 0 = .ok (.aload_n 0, 1) := by decide +kernel
theorem dX12_blown_1 : decode cX12_blown 1 = .ok (.iconst 0, 1) := by decide +kernel
theorem dX12_blown_2 : decode cX12_blown 2 = .ok (.putfield 111, 3) := by decide +kernel
theorem dX12_blown_5 : decode cX12_blown 5 = .ok (.iload_n 1, 1) := by decide +kernel
theorem dX12_blown_6 : decode cX12_blown 6 = .ok (.i2l, 1) := by decide +kernel
theorem dX12_blown_7 : decode cX12_blown 7 = .ok (.lconst 0, 1) := by decide +kernel
theorem dX12_blown_8 : decode cX12_blown 8 = .ok (.ldc2_w 518, 3) := by decide +kernel
theorem dX12_blown_11 : decode cX12_blown 11 = .ok (.invokestatic 232, 3) := by decide +kernel
theorem dX12_blown_14 : decode cX12_blown 14 = .ok (.ifCond .eq 14, 3) := by decide +kernel
theorem dX12_blown_17 : decode cX12_blown 17 = .ok (.iload_n 2, 1) := by decide +kernel
theorem dX12_blown_18 : decode cX12_blown 18 = .ok (.i2l, 1) := by decide +kernel
theorem dX12_blown_19 : decode cX12_blown 19 = .ok (.lconst 0, 1) := by decide +kernel
theorem dX12_blown_20 : decode cX12_blown 20 = .ok (.iload_n 1, 1) := by decide +kernel
theorem dX12_blown_21 : decode cX12_blown 21 = .ok (.i2l, 1) := by decide +kernel
theorem dX12_blown_22 : decode cX12_blown 22 = .ok (.invokestatic 232, 3) := by decide +kernel
theorem dX12_blown_25 : decode cX12_blown 25 = .ok (.ifCond .ne 5, 3) := by decide +kernel
theorem dX12_blown_28 : decode cX12_blown 28 = .ok (.iconst (-1), 1) := by decide +kernel
theorem dX12_blown_29 : decode cX12_blown 29 = .ok (.ireturn, 1) := by decide +kernel
theorem dX12_blown_30 : decode cX12_blown 30 = .ok (.lconst 1, 1) := by decide +kernel
theorem dX12_blown_31 : decode cX12_blown 31 = .ok (.lstore_n 3, 1) := by decide +kernel
theorem dX12_blown_32 : decode cX12_blown 32 = .ok (.lconst 1, 1) := by decide +kernel
theorem dX12_blown_33 : decode cX12_blown 33 = .ok (.lstore 5, 2) := by decide +kernel
theorem dX12_blown_35 : decode cX12_blown 35 = .ok (.iconst 0, 1) := by decide +kernel
theorem dX12_blown_36 : decode cX12_blown 36 = .ok (.istore 7, 2) := by decide +kernel
theorem dX12_blown_38 : decode cX12_blown 38 = .ok (.iload 7, 2) := by decide +kernel
theorem dX12_blown_40 : decode cX12_blown 40 = .ok (.iload_n 1, 1) := by decide +kernel
theorem dX12_blown_41 : decode cX12_blown 41 = .ok (.if_icmp .ge 35, 3) := by decide +kernel
theorem dX12_blown_44 : decode cX12_blown 44 = .ok (.lload_n 3, 1) := by decide +kernel
theorem dX12_blown_45 : decode cX12_blown 45 = .ok (.iload 7, 2) := by decide +kernel
theorem dX12_blown_47 : decode cX12_blown 47 = .ok (.iload_n 2, 1) := by decide +kernel
theorem dX12_blown_48 : decode cX12_blown 48 = .ok (.if_icmp .ge 9, 3) := by decide +kernel
theorem dX12_blown_51 : decode cX12_blown 51 = .ok (.ldc2_w 410, 3) := by decide +kernel
theorem dX12_blown_54 : decode cX12_blown 54 = .ok (.goto 6, 3) := by decide +kernel
theorem dX12_blown_57 : decode cX12_blown 57 = .ok (.ldc2_w 290, 3) := by decide +kernel
theorem dX12_blown_60 : decode cX12_blown 60 = .ok (.lmul, 1) := by decide +kernel
theorem dX12_blown_61 : decode cX12_blown 61 = .ok (.lstore_n 3, 1) := by decide +kernel
theorem dX12_blown_62 : decode cX12_blown 62 = .ok (.lload 5, 2) := by decide +kernel
theorem dX12_blown_64 : decode cX12_blown 64 = .ok (.ldc2_w 360, 3) := by decide +kernel
theorem dX12_blown_67 : decode cX12_blown 67 = .ok (.lmul, 1) := by decide +kernel
theorem dX12_blown_68 : decode cX12_blown 68 = .ok (.lstore 5, 2) := by decide +kernel
theorem dX12_blown_70 : decode cX12_blown 70 = .ok (.iinc 7 1, 3) := by decide +kernel
theorem dX12_blown_73 : decode cX12_blown 73 = .ok (.goto (-35), 3) := by decide +kernel
theorem dX12_blown_76 : decode cX12_blown 76 = .ok (.lload_n 3, 1) := by decide +kernel
theorem dX12_blown_77 : decode cX12_blown 77 = .ok (.lload 5, 2) := by decide +kernel
theorem dX12_blown_79 : decode cX12_blown 79 = .ok (.ladd, 1) := by decide +kernel
theorem dX12_blown_80 : decode cX12_blown 80 = .ok (.lstore 7, 2) := by decide +kernel
theorem dX12_blown_82 : decode cX12_blown 82 = .ok (.lload_n 3, 1) := by decide +kernel
theorem dX12_blown_83 : decode cX12_blown 83 = .ok (.lstore 9, 2) := by decide +kernel
theorem dX12_blown_85 : decode cX12_blown 85 = .ok (.iconst 0, 1) := by decide +kernel
theorem dX12_blown_86 : decode cX12_blown 86 = .ok (.istore 11, 2) := by decide +kernel
theorem dX12_blown_88 : decode cX12_blown 88 = .ok (.iconst 0, 1) := by decide +kernel
theorem dX12_blown_89 : decode cX12_blown 89 = .ok (.istore 12, 2) := by decide +kernel
theorem dX12_blown_91 : decode cX12_blown 91 = .ok (.iload 12, 2) := by decide +kernel
theorem dX12_blown_93 : decode cX12_blown 93 = .ok (.bipush 6, 2) := by decide +kernel
theorem dX12_blown_95 : decode cX12_blown 95 = .ok (.if_icmp .ge 38, 3) := by decide +kernel
theorem dX12_blown_98 : decode cX12_blown 98 = .ok (.lload 9, 2) := by decide +kernel
theorem dX12_blown_100 : decode cX12_blown 100 = .ok (.ldc2_w 352, 3) := by decide +kernel
theorem dX12_blown_103 : decode cX12_blown 103 = .ok (.lmul, 1) := by decide +kernel
theorem dX12_blown_104 : decode cX12_blown 104 = .ok (.lstore 9, 2) := by decide +kernel
theorem dX12_blown_106 : decode cX12_blown 106 = .ok (.bipush 10, 2) := by decide +kernel
theorem dX12_blown_108 : decode cX12_blown 108 = .ok (.iload 11, 2) := by decide +kernel
theorem dX12_blown_110 : decode cX12_blown 110 = .ok (.imul, 1) := by decide +kernel
theorem dX12_blown_111 : decode cX12_blown 111 = .ok (.lload 9, 2) := by decide +kernel
theorem dX12_blown_113 : decode cX12_blown 113 = .ok (.lload 7, 2) := by decide +kernel
theorem dX12_blown_115 : decode cX12_blown 115 = .ok (.ldiv, 1) := by decide +kernel
theorem dX12_blown_116 : decode cX12_blown 116 = .ok (.l2i, 1) := by decide +kernel
theorem dX12_blown_117 : decode cX12_blown 117 = .ok (.iadd, 1) := by decide +kernel
theorem dX12_blown_118 : decode cX12_blown 118 = .ok (.istore 11, 2) := by decide +kernel
theorem dX12_blown_120 : decode cX12_blown 120 = .ok (.lload 9, 2) := by decide +kernel
theorem dX12_blown_122 : decode cX12_blown 122 = .ok (.lload 7, 2) := by decide +kernel
theorem dX12_blown_124 : decode cX12_blown 124 = .ok (.lrem, 1) := by decide +kernel
theorem dX12_blown_125 : decode cX12_blown 125 = .ok (.lstore 9, 2) := by decide +kernel
theorem dX12_blown_127 : decode cX12_blown 127 = .ok (.iinc 12 1, 3) := by decide +kernel
theorem dX12_blown_130 : decode cX12_blown 130 = .ok (.goto (-39), 3) := by decide +kernel
theorem dX12_blown_133 : decode cX12_blown 133 = .ok (.iload 11, 2) := by decide +kernel
theorem dX12_blown_135 : decode cX12_blown 135 = .ok (.ireturn, 1) := by decide +kernel
theorem dX12_washed_0 : decode cX12_washed 0 = .ok (.aload_n 0, 1) := by decide +kernel
theorem dX12_washed_1 : decode cX12_washed 1 = .ok (.iconst 0, 1) := by decide +kernel
theorem dX12_washed_2 : decode cX12_washed 2 = .ok (.putfield 111, 3) := by decide +kernel
theorem dX12_washed_5 : decode cX12_washed 5 = .ok (.aload_n 0, 1) := by decide +kernel
theorem dX12_washed_6 : decode cX12_washed 6 = .ok (.getfield 309, 3) := by decide +kernel
theorem dX12_washed_9 : decode cX12_washed 9 = .ok (.ifCond .eq 32, 3) := by decide +kernel
theorem dX12_washed_41 : decode cX12_washed 41 = .ok (.iconst (-1), 1) := by decide +kernel
theorem dX12_washed_42 : decode cX12_washed 42 = .ok (.ireturn, 1) := by decide +kernel
theorem dX12_watch_0 : decode cX12_watch 0 = .ok (.aload_n 0, 1) := by decide +kernel
theorem dX12_watch_1 : decode cX12_watch 1 = .ok (.iconst 0, 1) := by decide +kernel
theorem dX12_watch_2 : decode cX12_watch 2 = .ok (.putfield 111, 3) := by decide +kernel
theorem dX12_watch_5 : decode cX12_watch 5 = .ok (.aload_n 0, 1) := by decide +kernel
theorem dX12_watch_6 : decode cX12_watch 6 = .ok (.getfield 309, 3) := by decide +kernel
theorem dX12_watch_9 : decode cX12_watch 9 = .ok (.ifCond .eq 15, 3) := by decide +kernel
theorem dX12_watch_24 : decode cX12_watch 24 = .ok (.iconst (-1), 1) := by decide +kernel
theorem dX12_watch_25 : decode cX12_watch 25 = .ok (.ireturn, 1) := by decide +kernel
theorem dX12_fair_0 : decode cX12_fair 0 = .ok (.aload_n 0, 1) := by decide +kernel
theorem dX12_fair_1 : decode cX12_fair 1 = .ok (.iconst 0, 1) := by decide +kernel
theorem dX12_fair_2 : decode cX12_fair 2 = .ok (.putfield 111, 3) := by decide +kernel
theorem dX12_fair_5 : decode cX12_fair 5 = .ok (.aload_n 0, 1) := by decide +kernel
theorem dX12_fair_6 : decode cX12_fair 6 = .ok (.getfield 309, 3) := by decide +kernel
theorem dX12_fair_9 : decode cX12_fair 9 = .ok (.ifCond .eq 25, 3) := by decide +kernel
theorem dX12_fair_34 : decode cX12_fair 34 = .ok (.iconst (-1), 1) := by decide +kernel
theorem dX12_fair_35 : decode cX12_fair 35 = .ok (.ireturn, 1) := by decide +kernel
theorem dX12_buoys_0 : decode cX12_buoys 0 = .ok (.aload_n 0, 1) := by decide +kernel
theorem dX12_buoys_1 : decode cX12_buoys 1 = .ok (.iconst 0, 1) := by decide +kernel
theorem dX12_buoys_2 : decode cX12_buoys 2 = .ok (.putfield 111, 3) := by decide +kernel
theorem dX12_buoys_5 : decode cX12_buoys 5 = .ok (.aload_n 0, 1) := by decide +kernel
theorem dX12_buoys_6 : decode cX12_buoys 6 = .ok (.getfield 309, 3) := by decide +kernel
theorem dX12_buoys_9 : decode cX12_buoys 9 = .ok (.ifCond .eq 13, 3) := by decide +kernel
theorem dX12_buoys_22 : decode cX12_buoys 22 = .ok (.iconst (-1), 1) := by decide +kernel
theorem dX12_buoys_23 : decode cX12_buoys 23 = .ok (.ireturn, 1) := by decide +kernel
theorem dX12_sways_0 : decode cX12_sways 0 = .ok (.aload_n 0, 1) := by decide +kernel
theorem dX12_sways_1 : decode cX12_sways 1 = .ok (.iconst 0, 1) := by decide +kernel
theorem dX12_sways_2 : decode cX12_sways 2 = .ok (.putfield 111, 3) := by decide +kernel
theorem dX12_sways_5 : decode cX12_sways 5 = .ok (.aload_n 0, 1) := by decide +kernel
theorem dX12_sways_6 : decode cX12_sways 6 = .ok (.iload_n 1, 1) := by decide +kernel
theorem dX12_sways_7 : decode cX12_sways 7 = .ok (.invokevirtual 407, 3) := by decide +kernel
theorem dX12_sways_10 : decode cX12_sways 10 = .ok (.ifCond .eq 13, 3) := by decide +kernel
theorem dX12_sways_23 : decode cX12_sways 23 = .ok (.ldc_w 417, 3) := by decide +kernel
theorem dX12_sways_26 : decode cX12_sways 26 = .ok (.ireturn, 1) := by decide +kernel
theorem dX12_nearest_0 : decode cX12_nearest 0 = .ok (.aload_n 0, 1) := by decide +kernel
theorem dX12_nearest_1 : decode cX12_nearest 1 = .ok (.iconst 0, 1) := by decide +kernel
theorem dX12_nearest_2 : decode cX12_nearest 2 = .ok (.putfield 111, 3) := by decide +kernel
theorem dX12_nearest_5 : decode cX12_nearest 5 = .ok (.aload_n 0, 1) := by decide +kernel
theorem dX12_nearest_6 : decode cX12_nearest 6 = .ok (.iload_n 1, 1) := by decide +kernel
theorem dX12_nearest_7 : decode cX12_nearest 7 = .ok (.invokevirtual 412, 3) := by decide +kernel
theorem dX12_nearest_10 : decode cX12_nearest 10 = .ok (.ifCond .ne 5, 3) := by decide +kernel
theorem dX12_nearest_13 : decode cX12_nearest 13 = .ok (.iconst (-1), 1) := by decide +kernel
theorem dX12_nearest_14 : decode cX12_nearest 14 = .ok (.ireturn, 1) := by decide +kernel
theorem dX12_fog_0 : decode cX12_fog 0 = .ok (.aload_n 0, 1) := by decide +kernel
theorem dX12_fog_1 : decode cX12_fog 1 = .ok (.iconst 0, 1) := by decide +kernel
theorem dX12_fog_2 : decode cX12_fog 2 = .ok (.putfield 111, 3) := by decide +kernel
theorem dX12_fog_5 : decode cX12_fog 5 = .ok (.aload_n 0, 1) := by decide +kernel
theorem dX12_fog_6 : decode cX12_fog 6 = .ok (.iload_n 1, 1) := by decide +kernel
theorem dX12_fog_7 : decode cX12_fog 7 = .ok (.invokevirtual 412, 3) := by decide +kernel
theorem dX12_fog_10 : decode cX12_fog 10 = .ok (.ifCond .eq 15, 3) := by decide +kernel
theorem dX12_fog_25 : decode cX12_fog 25 = .ok (.iconst (-1), 1) := by decide +kernel
theorem dX12_fog_26 : decode cX12_fog 26 = .ok (.ireturn, 1) := by decide +kernel
theorem dX12_needs_0 : decode cX12_needs 0 = .ok (.aload_n 0, 1) := by decide +kernel
theorem dX12_needs_1 : decode cX12_needs 1 = .ok (.iconst 0, 1) := by decide +kernel
theorem dX12_needs_2 : decode cX12_needs 2 = .ok (.putfield 111, 3) := by decide +kernel
theorem dX12_needs_5 : decode cX12_needs 5 = .ok (.aload_n 0, 1) := by decide +kernel
theorem dX12_needs_6 : decode cX12_needs 6 = .ok (.iload_n 1, 1) := by decide +kernel
theorem dX12_needs_7 : decode cX12_needs 7 = .ok (.invokevirtual 412, 3) := by decide +kernel
theorem dX12_needs_10 : decode cX12_needs 10 = .ok (.ifCond .eq 11, 3) := by decide +kernel
theorem dX12_needs_21 : decode cX12_needs 21 = .ok (.iconst (-1), 1) := by decide +kernel
theorem dX12_needs_22 : decode cX12_needs 22 = .ok (.ireturn, 1) := by decide +kernel
theorem dX12_heard_0 : decode cX12_heard 0 = .ok (.aload_n 0, 1) := by decide +kernel
theorem dX12_heard_1 : decode cX12_heard 1 = .ok (.iconst 0, 1) := by decide +kernel
theorem dX12_heard_2 : decode cX12_heard 2 = .ok (.putfield 111, 3) := by decide +kernel
theorem dX12_heard_5 : decode cX12_heard 5 = .ok (.aload_n 0, 1) := by decide +kernel
theorem dX12_heard_6 : decode cX12_heard 6 = .ok (.iload_n 1, 1) := by decide +kernel
theorem dX12_heard_7 : decode cX12_heard 7 = .ok (.invokevirtual 412, 3) := by decide +kernel
theorem dX12_heard_10 : decode cX12_heard 10 = .ok (.ifCond .ne 5, 3) := by decide +kernel
theorem dX12_heard_13 : decode cX12_heard 13 = .ok (.iconst (-1), 1) := by decide +kernel
theorem dX12_heard_14 : decode cX12_heard 14 = .ok (.ireturn, 1) := by decide +kernel
theorem dX12_middle_0 : decode cX12_middle 0 = .ok (.aload_n 0, 1) := by decide +kernel
theorem dX12_middle_1 : decode cX12_middle 1 = .ok (.iconst 0, 1) := by decide +kernel
theorem dX12_middle_2 : decode cX12_middle 2 = .ok (.putfield 111, 3) := by decide +kernel
theorem dX12_middle_5 : decode cX12_middle 5 = .ok (.aload_n 0, 1) := by decide +kernel
theorem dX12_middle_6 : decode cX12_middle 6 = .ok (.getfield 309, 3) := by decide +kernel
theorem dX12_middle_9 : decode cX12_middle 9 = .ok (.ifCond .ne 5, 3) := by decide +kernel
theorem dX12_middle_12 : decode cX12_middle 12 = .ok (.iconst (-1), 1) := by decide +kernel
theorem dX12_middle_13 : decode cX12_middle 13 = .ok (.ireturn, 1) := by decide +kernel
theorem dX12_image_0 : decode cX12_image 0 = .ok (.aload_n 0, 1) := by decide +kernel
theorem dX12_image_1 : decode cX12_image 1 = .ok (.iconst 0, 1) := by decide +kernel
theorem dX12_image_2 : decode cX12_image 2 = .ok (.putfield 111, 3) := by decide +kernel
theorem dX12_image_5 : decode cX12_image 5 = .ok (.aload_n 0, 1) := by decide +kernel
theorem dX12_image_6 : decode cX12_image 6 = .ok (.getfield 309, 3) := by decide +kernel
theorem dX12_image_9 : decode cX12_image 9 = .ok (.ifCond .ne 5, 3) := by decide +kernel
theorem dX12_image_12 : decode cX12_image 12 = .ok (.iconst (-1), 1) := by decide +kernel
theorem dX12_image_13 : decode cX12_image 13 = .ok (.ireturn, 1) := by decide +kernel
theorem dX12_back_0 : decode cX12_back 0 = .ok (.aload_n 0, 1) := by decide +kernel
theorem dX12_back_1 : decode cX12_back 1 = .ok (.iconst 0, 1) := by decide +kernel
theorem dX12_back_2 : decode cX12_back 2 = .ok (.putfield 111, 3) := by decide +kernel
theorem dX12_back_5 : decode cX12_back 5 = .ok (.aload_n 0, 1) := by decide +kernel
theorem dX12_back_6 : decode cX12_back 6 = .ok (.getfield 327, 3) := by decide +kernel
theorem dX12_back_9 : decode cX12_back 9 = .ok (.ifCond .ne 5, 3) := by decide +kernel
theorem dX12_back_12 : decode cX12_back 12 = .ok (.iconst (-1), 1) := by decide +kernel
theorem dX12_back_13 : decode cX12_back 13 = .ok (.ireturn, 1) := by decide +kernel
theorem dX12_count_0 : decode cX12_count 0 = .ok (.aload_n 0, 1) := by decide +kernel
theorem dX12_count_1 : decode cX12_count 1 = .ok (.iconst 0, 1) := by decide +kernel
theorem dX12_count_2 : decode cX12_count 2 = .ok (.putfield 111, 3) := by decide +kernel
theorem dX12_count_5 : decode cX12_count 5 = .ok (.iconst 0, 1) := by decide +kernel
theorem dX12_count_6 : decode cX12_count 6 = .ok (.istore_n 2, 1) := by decide +kernel
theorem dX12_count_7 : decode cX12_count 7 = .ok (.iconst 0, 1) := by decide +kernel
theorem dX12_count_8 : decode cX12_count 8 = .ok (.istore_n 3, 1) := by decide +kernel
theorem dX12_count_9 : decode cX12_count 9 = .ok (.iload_n 1, 1) := by decide +kernel
theorem dX12_count_10 : decode cX12_count 10 = .ok (.tableswitch 234 0 12 #[66, 71, 76, 81, 86, 91, 96, 104, 149, 183, 216, 221, 229], 66) := by decide +kernel
theorem dX12_count_76 : decode cX12_count 76 = .ok (.aload_n 0, 1) := by decide +kernel
theorem dX12_count_77 : decode cX12_count 77 = .ok (.getfield 309, 3) := by decide +kernel
theorem dX12_count_80 : decode cX12_count 80 = .ok (.ireturn, 1) := by decide +kernel
theorem dX12_count_81 : decode cX12_count 81 = .ok (.aload_n 0, 1) := by decide +kernel
theorem dX12_count_82 : decode cX12_count 82 = .ok (.getfield 312, 3) := by decide +kernel
theorem dX12_count_85 : decode cX12_count 85 = .ok (.ireturn, 1) := by decide +kernel
theorem dX12_count_86 : decode cX12_count 86 = .ok (.aload_n 0, 1) := by decide +kernel
theorem dX12_count_87 : decode cX12_count 87 = .ok (.getfield 301, 3) := by decide +kernel
theorem dX12_count_90 : decode cX12_count 90 = .ok (.ireturn, 1) := by decide +kernel
theorem dX12_count_91 : decode cX12_count 91 = .ok (.aload_n 0, 1) := by decide +kernel
theorem dX12_count_92 : decode cX12_count 92 = .ok (.getfield 304, 3) := by decide +kernel
theorem dX12_count_95 : decode cX12_count 95 = .ok (.ireturn, 1) := by decide +kernel
theorem dX12_count_96 : decode cX12_count 96 = .ok (.aload_n 0, 1) := by decide +kernel
theorem dX12_count_97 : decode cX12_count 97 = .ok (.getfield 124, 3) := by decide +kernel
theorem dX12_count_100 : decode cX12_count 100 = .ok (.ireturn, 1) := by decide +kernel
theorem dX12_count_101 : decode cX12_count 101 = .ok (.aload_n 0, 1) := by decide +kernel
theorem dX12_count_102 : decode cX12_count 102 = .ok (.getfield 67, 3) := by decide +kernel
theorem dX12_count_105 : decode cX12_count 105 = .ok (.ireturn, 1) := by decide +kernel
theorem dX12_count_106 : decode cX12_count 106 = .ok (.aload_n 0, 1) := by decide +kernel
theorem dX12_count_107 : decode cX12_count 107 = .ok (.getfield 61, 3) := by decide +kernel
theorem dX12_count_110 : decode cX12_count 110 = .ok (.bipush 60, 2) := by decide +kernel
theorem dX12_count_112 : decode cX12_count 112 = .ok (.iaload, 1) := by decide +kernel
theorem dX12_count_113 : decode cX12_count 113 = .ok (.ireturn, 1) := by decide +kernel
theorem dX12_count_114 : decode cX12_count 114 = .ok (.iconst 0, 1) := by decide +kernel
theorem dX12_count_115 : decode cX12_count 115 = .ok (.istore 4, 2) := by decide +kernel
theorem dX12_count_117 : decode cX12_count 117 = .ok (.iload 4, 2) := by decide +kernel
theorem dX12_count_119 : decode cX12_count 119 = .ok (.aload_n 0, 1) := by decide +kernel
theorem dX12_count_120 : decode cX12_count 120 = .ok (.getfield 309, 3) := by decide +kernel
theorem dX12_count_123 : decode cX12_count 123 = .ok (.if_icmp .ge 34, 3) := by decide +kernel
theorem dX12_count_157 : decode cX12_count 157 = .ok (.iload_n 2, 1) := by decide +kernel
theorem dX12_count_158 : decode cX12_count 158 = .ok (.ireturn, 1) := by decide +kernel
theorem dX12_count_159 : decode cX12_count 159 = .ok (.iconst 0, 1) := by decide +kernel
theorem dX12_count_160 : decode cX12_count 160 = .ok (.istore 4, 2) := by decide +kernel
theorem dX12_count_162 : decode cX12_count 162 = .ok (.iload 4, 2) := by decide +kernel
theorem dX12_count_164 : decode cX12_count 164 = .ok (.aload_n 0, 1) := by decide +kernel
theorem dX12_count_165 : decode cX12_count 165 = .ok (.getfield 309, 3) := by decide +kernel
theorem dX12_count_168 : decode cX12_count 168 = .ok (.if_icmp .ge 23, 3) := by decide +kernel
theorem dX12_count_191 : decode cX12_count 191 = .ok (.iload_n 3, 1) := by decide +kernel
theorem dX12_count_192 : decode cX12_count 192 = .ok (.ireturn, 1) := by decide +kernel
theorem dX12_count_193 : decode cX12_count 193 = .ok (.iconst 0, 1) := by decide +kernel
theorem dX12_count_194 : decode cX12_count 194 = .ok (.istore 4, 2) := by decide +kernel
theorem dX12_count_196 : decode cX12_count 196 = .ok (.iload 4, 2) := by decide +kernel
theorem dX12_count_198 : decode cX12_count 198 = .ok (.aload_n 0, 1) := by decide +kernel
theorem dX12_count_199 : decode cX12_count 199 = .ok (.getfield 312, 3) := by decide +kernel
theorem dX12_count_202 : decode cX12_count 202 = .ok (.if_icmp .ge 22, 3) := by decide +kernel
theorem dX12_count_224 : decode cX12_count 224 = .ok (.iload_n 3, 1) := by decide +kernel
theorem dX12_count_225 : decode cX12_count 225 = .ok (.ireturn, 1) := by decide +kernel
theorem dX12_count_226 : decode cX12_count 226 = .ok (.aload_n 0, 1) := by decide +kernel
theorem dX12_count_227 : decode cX12_count 227 = .ok (.getfield 321, 3) := by decide +kernel
theorem dX12_count_230 : decode cX12_count 230 = .ok (.ireturn, 1) := by decide +kernel
theorem dX12_count_231 : decode cX12_count 231 = .ok (.aload_n 0, 1) := by decide +kernel
theorem dX12_count_232 : decode cX12_count 232 = .ok (.getfield 61, 3) := by decide +kernel
theorem dX12_count_235 : decode cX12_count 235 = .ok (.bipush 61, 2) := by decide +kernel
theorem dX12_count_237 : decode cX12_count 237 = .ok (.iaload, 1) := by decide +kernel
theorem dX12_count_238 : decode cX12_count 238 = .ok (.ireturn, 1) := by decide +kernel
theorem dX12_count_239 : decode cX12_count 239 = .ok (.aload_n 0, 1) := by decide +kernel
theorem dX12_count_240 : decode cX12_count 240 = .ok (.getfield 324, 3) := by decide +kernel
theorem dX12_count_243 : decode cX12_count 243 = .ok (.ireturn, 1) := by decide +kernel
theorem dX12_count_244 : decode cX12_count 244 = .ok (.ldc_w 417, 3) := by decide +kernel
theorem dX12_count_247 : decode cX12_count 247 = .ok (.ireturn, 1) := by decide +kernel
theorem dJ0_length_8abf5_0 : decode cJ0_length_8abf5 0 = .ok (.aload_n 0, 1) := by decide +kernel
theorem dJ0_length_8abf5_1 : decode cJ0_length_8abf5 1 = .ok (.getfield 9, 3) := by decide +kernel
theorem dJ0_length_8abf5_4 : decode cJ0_length_8abf5 4 = .ok (.arraylength, 1) := by decide +kernel
theorem dJ0_length_8abf5_5 : decode cJ0_length_8abf5 5 = .ok (.aload_n 0, 1) := by decide +kernel
theorem dJ0_length_8abf5_6 : decode cJ0_length_8abf5 6 = .ok (.invokevirtual 335, 3) := by decide +kernel
theorem dJ0_length_8abf5_9 : decode cJ0_length_8abf5 9 = .ok (.ishr, 1) := by decide +kernel
theorem dJ0_length_8abf5_10 : decode cJ0_length_8abf5 10 = .ok (.ireturn, 1) := by decide +kernel
theorem dJ0_charAt_5068e_0 : decode cJ0_charAt_5068e 0 = .ok (.aload_n 0, 1) := by decide +kernel
theorem dJ0_charAt_5068e_1 : decode cJ0_charAt_5068e 1 = .ok (.invokevirtual 492, 3) := by decide +kernel
theorem dJ0_charAt_5068e_4 : decode cJ0_charAt_5068e 4 = .ok (.ifCond .eq 12, 3) := by decide +kernel
theorem dJ0_charAt_5068e_7 : decode cJ0_charAt_5068e 7 = .ok (.aload_n 0, 1) := by decide +kernel
theorem dJ0_charAt_5068e_8 : decode cJ0_charAt_5068e 8 = .ok (.getfield 9, 3) := by decide +kernel
theorem dJ0_charAt_5068e_11 : decode cJ0_charAt_5068e 11 = .ok (.iload_n 1, 1) := by decide +kernel
theorem dJ0_charAt_5068e_12 : decode cJ0_charAt_5068e 12 = .ok (.invokestatic 495, 3) := by decide +kernel
theorem dJ0_charAt_5068e_15 : decode cJ0_charAt_5068e 15 = .ok (.ireturn, 1) := by decide +kernel
theorem dJ0_coder_7d493_0 : decode cJ0_coder_7d493 0 = .ok (.getstatic 38, 3) := by decide +kernel
theorem dJ0_coder_7d493_3 : decode cJ0_coder_7d493 3 = .ok (.ifCond .eq 10, 3) := by decide +kernel
theorem dJ0_coder_7d493_6 : decode cJ0_coder_7d493 6 = .ok (.aload_n 0, 1) := by decide +kernel
theorem dJ0_coder_7d493_7 : decode cJ0_coder_7d493 7 = .ok (.getfield 15, 3) := by decide +kernel
theorem dJ0_coder_7d493_10 : decode cJ0_coder_7d493 10 = .ok (.goto 4, 3) := by decide +kernel
theorem dJ0_coder_7d493_14 : decode cJ0_coder_7d493 14 = .ok (.ireturn, 1) := by decide +kernel
theorem dJ0_isLatin1_aae02_0 : decode cJ0_isLatin1_aae02 0 = .ok (.getstatic 38, 3) := by decide +kernel
theorem dJ0_isLatin1_aae02_3 : decode cJ0_isLatin1_aae02 3 = .ok (.ifCond .eq 14, 3) := by decide +kernel
theorem dJ0_isLatin1_aae02_6 : decode cJ0_isLatin1_aae02 6 = .ok (.aload_n 0, 1) := by decide +kernel
theorem dJ0_isLatin1_aae02_7 : decode cJ0_isLatin1_aae02 7 = .ok (.getfield 15, 3) := by decide +kernel
theorem dJ0_isLatin1_aae02_10 : decode cJ0_isLatin1_aae02 10 = .ok (.ifCond .ne 7, 3) := by decide +kernel
theorem dJ0_isLatin1_aae02_13 : decode cJ0_isLatin1_aae02 13 = .ok (.iconst 1, 1) := by decide +kernel
theorem dJ0_isLatin1_aae02_14 : decode cJ0_isLatin1_aae02 14 = .ok (.goto 4, 3) := by decide +kernel
theorem dJ0_isLatin1_aae02_18 : decode cJ0_isLatin1_aae02 18 = .ok (.ireturn, 1) := by decide +kernel
theorem dJ0_checkIndex_df160_0 : decode cJ0_checkIndex_df160 0 = .ok (.iload_n 0, 1) := by decide +kernel
theorem dJ0_checkIndex_df160_1 : decode cJ0_checkIndex_df160 1 = .ok (.iload_n 1, 1) := by decide +kernel
theorem dJ0_checkIndex_df160_2 : decode cJ0_checkIndex_df160 2 = .ok (.getstatic 1053, 3) := by decide +kernel
theorem dJ0_checkIndex_df160_5 : decode cJ0_checkIndex_df160 5 = .ok (.invokestatic 1059, 3) := by decide +kernel
theorem dJ0_checkIndex_df160_8 : decode cJ0_checkIndex_df160 8 = .ok (.pop, 1) := by decide +kernel
theorem dJ0_checkIndex_df160_9 : decode cJ0_checkIndex_df160 9 = .ok (.return_, 1) := by decide +kernel
theorem dJ1_charAt_3b067_0 : decode cJ1_charAt_3b067 0 = .ok (.iload_n 1, 1) := by decide +kernel
theorem dJ1_charAt_3b067_1 : decode cJ1_charAt_3b067 1 = .ok (.aload_n 0, 1) := by decide +kernel
theorem dJ1_charAt_3b067_2 : decode cJ1_charAt_3b067 2 = .ok (.arraylength, 1) := by decide +kernel
theorem dJ1_charAt_3b067_3 : decode cJ1_charAt_3b067 3 = .ok (.invokestatic 9, 3) := by decide +kernel
theorem dJ1_charAt_3b067_6 : decode cJ1_charAt_3b067 6 = .ok (.aload_n 0, 1) := by decide +kernel
theorem dJ1_charAt_3b067_7 : decode cJ1_charAt_3b067 7 = .ok (.iload_n 1, 1) := by decide +kernel
theorem dJ1_charAt_3b067_8 : decode cJ1_charAt_3b067 8 = .ok (.baload, 1) := by decide +kernel
theorem dJ1_charAt_3b067_9 : decode cJ1_charAt_3b067 9 = .ok (.sipush 255, 3) := by decide +kernel
theorem dJ1_charAt_3b067_12 : decode cJ1_charAt_3b067 12 = .ok (.iand, 1) := by decide +kernel
theorem dJ1_charAt_3b067_13 : decode cJ1_charAt_3b067 13 = .ok (.i2c, 1) := by decide +kernel
theorem dJ1_charAt_3b067_14 : decode cJ1_charAt_3b067 14 = .ok (.ireturn, 1) := by decide +kernel
theorem dJ3_checkIndex_8e157_0 : decode cJ3_checkIndex_8e157 0 = .ok (.iload_n 0, 1) := by decide +kernel
theorem dJ3_checkIndex_8e157_1 : decode cJ3_checkIndex_8e157 1 = .ok (.ifCond .lt 8, 3) := by decide +kernel
theorem dJ3_checkIndex_8e157_4 : decode cJ3_checkIndex_8e157 4 = .ok (.iload_n 0, 1) := by decide +kernel
theorem dJ3_checkIndex_8e157_5 : decode cJ3_checkIndex_8e157 5 = .ok (.iload_n 1, 1) := by decide +kernel
theorem dJ3_checkIndex_8e157_6 : decode cJ3_checkIndex_8e157 6 = .ok (.if_icmp .lt 10, 3) := by decide +kernel
theorem dJ3_checkIndex_8e157_16 : decode cJ3_checkIndex_8e157 16 = .ok (.iload_n 0, 1) := by decide +kernel
theorem dJ3_checkIndex_8e157_17 : decode cJ3_checkIndex_8e157 17 = .ok (.ireturn, 1) := by decide +kernel
theorem dL_buoy_0 : decode cL_buoy 0 = .ok (.aload_n 3, 1) := by decide +kernel
theorem dL_buoy_1 : decode cL_buoy 1 = .ok (.iconst 0, 1) := by decide +kernel
theorem dL_buoy_2 : decode cL_buoy 2 = .ok (.aload_n 0, 1) := by decide +kernel
theorem dL_buoy_3 : decode cL_buoy 3 = .ok (.iload_n 1, 1) := by decide +kernel
theorem dL_buoy_4 : decode cL_buoy 4 = .ok (.iload_n 2, 1) := by decide +kernel
theorem dL_buoy_5 : decode cL_buoy 5 = .ok (.invokevirtual 7, 3) := by decide +kernel
theorem dL_buoy_8 : decode cL_buoy 8 = .ok (.i2l, 1) := by decide +kernel
theorem dL_buoy_9 : decode cL_buoy 9 = .ok (.lastore, 1) := by decide +kernel
theorem dL_buoy_10 : decode cL_buoy 10 = .ok (.goto 7, 3) := by decide +kernel
theorem dL_buoy_13 : decode cL_buoy 13 = .ok (.astore 4, 2) := by decide +kernel
theorem dL_buoy_15 : decode cL_buoy 15 = .ok (.iconst 1, 1) := by decide +kernel
theorem dL_buoy_16 : decode cL_buoy 16 = .ok (.ireturn, 1) := by decide +kernel
theorem dL_buoy_17 : decode cL_buoy 17 = .ok (.iconst 0, 1) := by decide +kernel
theorem dL_buoy_18 : decode cL_buoy 18 = .ok (.ireturn, 1) := by decide +kernel
theorem dL_law_0 : decode cL_law 0 = .ok (.new 8, 3) := by decide +kernel
theorem dL_law_3 : decode cL_law 3 = .ok (.dup, 1) := by decide +kernel
theorem dL_law_4 : decode cL_law 4 = .ok (.invokespecial 15, 3) := by decide +kernel
theorem dL_law_7 : decode cL_law 7 = .ok (.astore_n 1, 1) := by decide +kernel
theorem dL_law_8 : decode cL_law 8 = .ok (.new 16, 3) := by decide +kernel
theorem dL_law_11 : decode cL_law 11 = .ok (.dup, 1) := by decide +kernel
theorem dL_law_12 : decode cL_law 12 = .ok (.invokespecial 18, 3) := by decide +kernel
theorem dL_law_15 : decode cL_law 15 = .ok (.astore_n 2, 1) := by decide +kernel
theorem dL_law_16 : decode cL_law 16 = .ok (.iconst 1, 1) := by decide +kernel
theorem dL_law_17 : decode cL_law 17 = .ok (.newarray .long, 2) := by decide +kernel
theorem dL_law_19 : decode cL_law 19 = .ok (.astore_n 3, 1) := by decide +kernel
theorem dL_law_20 : decode cL_law 20 = .ok (.iconst 0, 1) := by decide +kernel
theorem dL_law_21 : decode cL_law 21 = .ok (.istore 4, 2) := by decide +kernel
theorem dL_law_23 : decode cL_law 23 = .ok (.iload 4, 2) := by decide +kernel
theorem dL_law_25 : decode cL_law 25 = .ok (.aload_n 0, 1) := by decide +kernel
theorem dL_law_26 : decode cL_law 26 = .ok (.arraylength, 1) := by decide +kernel
theorem dL_law_27 : decode cL_law 27 = .ok (.bipush 6, 2) := by decide +kernel
theorem dL_law_29 : decode cL_law 29 = .ok (.isub, 1) := by decide +kernel
theorem dL_law_30 : decode cL_law 30 = .ok (.if_icmp .gt 1902, 3) := by decide +kernel
theorem dL_law_33 : decode cL_law 33 = .ok (.aload_n 0, 1) := by decide +kernel
theorem dL_law_34 : decode cL_law 34 = .ok (.iload 4, 2) := by decide +kernel
theorem dL_law_36 : decode cL_law 36 = .ok (.iaload, 1) := by decide +kernel
theorem dL_law_37 : decode cL_law 37 = .ok (.bipush 63, 2) := by decide +kernel
theorem dL_law_39 : decode cL_law 39 = .ok (.iand, 1) := by decide +kernel
theorem dL_law_40 : decode cL_law 40 = .ok (.tableswitch 1886 0 46 #[204, 277, 302, 327, 352, 377, 445, 482, 507, 544, 581, 630, 667, 704, 741, 766, 835, 848, 885, 934, 971, 996, 1021, 1034, 1071, 1108, 1157, 1194, 1267, 1316, 1365, 1426, 1463, 1488, 1525, 1574, 1599, 1636, 1661, 1698, 1723, 1760, 1797, 1822, 1835, 1848, 1861], 204) := by decide +kernel
theorem dL_law_244 : decode cL_law 244 = .ok (.aload_n 1, 1) := by decide +kernel
theorem dL_law_245 : decode cL_law 245 = .ok (.aload_n 0, 1) := by decide +kernel
theorem dL_law_246 : decode cL_law 246 = .ok (.iload 4, 2) := by decide +kernel
theorem dL_law_248 : decode cL_law 248 = .ok (.iconst 1, 1) := by decide +kernel
theorem dL_law_249 : decode cL_law 249 = .ok (.iadd, 1) := by decide +kernel
theorem dL_law_250 : decode cL_law 250 = .ok (.iaload, 1) := by decide +kernel
theorem dL_law_251 : decode cL_law 251 = .ok (.aload_n 0, 1) := by decide +kernel
theorem dL_law_252 : decode cL_law 252 = .ok (.iload 4, 2) := by decide +kernel
theorem dL_law_254 : decode cL_law 254 = .ok (.iconst 2, 1) := by decide +kernel
theorem dL_law_255 : decode cL_law 255 = .ok (.iadd, 1) := by decide +kernel
theorem dL_law_256 : decode cL_law 256 = .ok (.iaload, 1) := by decide +kernel
theorem dL_law_257 : decode cL_law 257 = .ok (.aload_n 0, 1) := by decide +kernel
theorem dL_law_258 : decode cL_law 258 = .ok (.iload 4, 2) := by decide +kernel
theorem dL_law_260 : decode cL_law 260 = .ok (.iconst 3, 1) := by decide +kernel
theorem dL_law_261 : decode cL_law 261 = .ok (.iadd, 1) := by decide +kernel
theorem dL_law_262 : decode cL_law 262 = .ok (.iaload, 1) := by decide +kernel
theorem dL_law_263 : decode cL_law 263 = .ok (.aload_n 0, 1) := by decide +kernel
theorem dL_law_264 : decode cL_law 264 = .ok (.iload 4, 2) := by decide +kernel
theorem dL_law_266 : decode cL_law 266 = .ok (.iconst 4, 1) := by decide +kernel
theorem dL_law_267 : decode cL_law 267 = .ok (.iadd, 1) := by decide +kernel
theorem dL_law_268 : decode cL_law 268 = .ok (.iaload, 1) := by decide +kernel
theorem dL_law_269 : decode cL_law 269 = .ok (.aload_n 0, 1) := by decide +kernel
theorem dL_law_270 : decode cL_law 270 = .ok (.iload 4, 2) := by decide +kernel
theorem dL_law_272 : decode cL_law 272 = .ok (.iconst 5, 1) := by decide +kernel
theorem dL_law_273 : decode cL_law 273 = .ok (.iadd, 1) := by decide +kernel
theorem dL_law_274 : decode cL_law 274 = .ok (.iaload, 1) := by decide +kernel
theorem dL_law_275 : decode cL_law 275 = .ok (.invokevirtual 19, 3) := by decide +kernel
theorem dL_law_278 : decode cL_law 278 = .ok (.aload_n 2, 1) := by decide +kernel
theorem dL_law_279 : decode cL_law 279 = .ok (.aload_n 0, 1) := by decide +kernel
theorem dL_law_280 : decode cL_law 280 = .ok (.iload 4, 2) := by decide +kernel
theorem dL_law_282 : decode cL_law 282 = .ok (.iconst 1, 1) := by decide +kernel
theorem dL_law_283 : decode cL_law 283 = .ok (.iadd, 1) := by decide +kernel
theorem dL_law_284 : decode cL_law 284 = .ok (.iaload, 1) := by decide +kernel
theorem dL_law_285 : decode cL_law 285 = .ok (.aload_n 0, 1) := by decide +kernel
theorem dL_law_286 : decode cL_law 286 = .ok (.iload 4, 2) := by decide +kernel
theorem dL_law_288 : decode cL_law 288 = .ok (.iconst 2, 1) := by decide +kernel
theorem dL_law_289 : decode cL_law 289 = .ok (.iadd, 1) := by decide +kernel
theorem dL_law_290 : decode cL_law 290 = .ok (.iaload, 1) := by decide +kernel
theorem dL_law_291 : decode cL_law 291 = .ok (.aload_n 0, 1) := by decide +kernel
theorem dL_law_292 : decode cL_law 292 = .ok (.iload 4, 2) := by decide +kernel
theorem dL_law_294 : decode cL_law 294 = .ok (.iconst 3, 1) := by decide +kernel
theorem dL_law_295 : decode cL_law 295 = .ok (.iadd, 1) := by decide +kernel
theorem dL_law_296 : decode cL_law 296 = .ok (.iaload, 1) := by decide +kernel
theorem dL_law_297 : decode cL_law 297 = .ok (.aload_n 0, 1) := by decide +kernel
theorem dL_law_298 : decode cL_law 298 = .ok (.iload 4, 2) := by decide +kernel
theorem dL_law_300 : decode cL_law 300 = .ok (.iconst 4, 1) := by decide +kernel
theorem dL_law_301 : decode cL_law 301 = .ok (.iadd, 1) := by decide +kernel
theorem dL_law_302 : decode cL_law 302 = .ok (.iaload, 1) := by decide +kernel
theorem dL_law_303 : decode cL_law 303 = .ok (.aload_n 0, 1) := by decide +kernel
theorem dL_law_304 : decode cL_law 304 = .ok (.iload 4, 2) := by decide +kernel
theorem dL_law_306 : decode cL_law 306 = .ok (.iconst 5, 1) := by decide +kernel
theorem dL_law_307 : decode cL_law 307 = .ok (.iadd, 1) := by decide +kernel
theorem dL_law_308 : decode cL_law 308 = .ok (.iaload, 1) := by decide +kernel
theorem dL_law_309 : decode cL_law 309 = .ok (.invokevirtual 23, 3) := by decide +kernel
theorem dL_law_312 : decode cL_law 312 = .ok (.if_icmp .eq 1614, 3) := by decide +kernel
theorem dL_law_315 : decode cL_law 315 = .ok (.iconst 0, 1) := by decide +kernel
theorem dL_law_316 : decode cL_law 316 = .ok (.ireturn, 1) := by decide +kernel
theorem dL_law_317 : decode cL_law 317 = .ok (.aload_n 1, 1) := by decide +kernel
theorem dL_law_318 : decode cL_law 318 = .ok (.aload_n 0, 1) := by decide +kernel
theorem dL_law_319 : decode cL_law 319 = .ok (.iload 4, 2) := by decide +kernel
theorem dL_law_321 : decode cL_law 321 = .ok (.iconst 1, 1) := by decide +kernel
theorem dL_law_322 : decode cL_law 322 = .ok (.iadd, 1) := by decide +kernel
theorem dL_law_323 : decode cL_law 323 = .ok (.iaload, 1) := by decide +kernel
theorem dL_law_324 : decode cL_law 324 = .ok (.invokevirtual 24, 3) := by decide +kernel
theorem dL_law_327 : decode cL_law 327 = .ok (.aload_n 2, 1) := by decide +kernel
theorem dL_law_328 : decode cL_law 328 = .ok (.aload_n 0, 1) := by decide +kernel
theorem dL_law_329 : decode cL_law 329 = .ok (.iload 4, 2) := by decide +kernel
theorem dL_law_331 : decode cL_law 331 = .ok (.iconst 1, 1) := by decide +kernel
theorem dL_law_332 : decode cL_law 332 = .ok (.iadd, 1) := by decide +kernel
theorem dL_law_333 : decode cL_law 333 = .ok (.iaload, 1) := by decide +kernel
theorem dL_law_334 : decode cL_law 334 = .ok (.invokevirtual 28, 3) := by decide +kernel
theorem dL_law_337 : decode cL_law 337 = .ok (.if_icmp .eq 1589, 3) := by decide +kernel
theorem dL_law_340 : decode cL_law 340 = .ok (.iconst 0, 1) := by decide +kernel
theorem dL_law_341 : decode cL_law 341 = .ok (.ireturn, 1) := by decide +kernel
theorem dL_law_342 : decode cL_law 342 = .ok (.aload_n 1, 1) := by decide +kernel
theorem dL_law_343 : decode cL_law 343 = .ok (.aload_n 0, 1) := by decide +kernel
theorem dL_law_344 : decode cL_law 344 = .ok (.iload 4, 2) := by decide +kernel
theorem dL_law_346 : decode cL_law 346 = .ok (.iconst 1, 1) := by decide +kernel
theorem dL_law_347 : decode cL_law 347 = .ok (.iadd, 1) := by decide +kernel
theorem dL_law_348 : decode cL_law 348 = .ok (.iaload, 1) := by decide +kernel
theorem dL_law_349 : decode cL_law 349 = .ok (.invokevirtual 29, 3) := by decide +kernel
theorem dL_law_352 : decode cL_law 352 = .ok (.aload_n 2, 1) := by decide +kernel
theorem dL_law_353 : decode cL_law 353 = .ok (.aload_n 0, 1) := by decide +kernel
theorem dL_law_354 : decode cL_law 354 = .ok (.iload 4, 2) := by decide +kernel
theorem dL_law_356 : decode cL_law 356 = .ok (.iconst 1, 1) := by decide +kernel
theorem dL_law_357 : decode cL_law 357 = .ok (.iadd, 1) := by decide +kernel
theorem dL_law_358 : decode cL_law 358 = .ok (.iaload, 1) := by decide +kernel
theorem dL_law_359 : decode cL_law 359 = .ok (.invokevirtual 33, 3) := by decide +kernel
theorem dL_law_362 : decode cL_law 362 = .ok (.if_icmp .eq 1564, 3) := by decide +kernel
theorem dL_law_365 : decode cL_law 365 = .ok (.iconst 0, 1) := by decide +kernel
theorem dL_law_366 : decode cL_law 366 = .ok (.ireturn, 1) := by decide +kernel
theorem dL_law_367 : decode cL_law 367 = .ok (.aload_n 1, 1) := by decide +kernel
theorem dL_law_368 : decode cL_law 368 = .ok (.aload_n 0, 1) := by decide +kernel
theorem dL_law_369 : decode cL_law 369 = .ok (.iload 4, 2) := by decide +kernel
theorem dL_law_371 : decode cL_law 371 = .ok (.iconst 1, 1) := by decide +kernel
theorem dL_law_372 : decode cL_law 372 = .ok (.iadd, 1) := by decide +kernel
theorem dL_law_373 : decode cL_law 373 = .ok (.iaload, 1) := by decide +kernel
theorem dL_law_374 : decode cL_law 374 = .ok (.invokevirtual 34, 3) := by decide +kernel
theorem dL_law_377 : decode cL_law 377 = .ok (.aload_n 2, 1) := by decide +kernel
theorem dL_law_378 : decode cL_law 378 = .ok (.aload_n 0, 1) := by decide +kernel
theorem dL_law_379 : decode cL_law 379 = .ok (.iload 4, 2) := by decide +kernel
theorem dL_law_381 : decode cL_law 381 = .ok (.iconst 1, 1) := by decide +kernel
theorem dL_law_382 : decode cL_law 382 = .ok (.iadd, 1) := by decide +kernel
theorem dL_law_383 : decode cL_law 383 = .ok (.iaload, 1) := by decide +kernel
theorem dL_law_384 : decode cL_law 384 = .ok (.invokevirtual 37, 3) := by decide +kernel
theorem dL_law_387 : decode cL_law 387 = .ok (.if_icmp .eq 1539, 3) := by decide +kernel
theorem dL_law_390 : decode cL_law 390 = .ok (.iconst 0, 1) := by decide +kernel
theorem dL_law_391 : decode cL_law 391 = .ok (.ireturn, 1) := by decide +kernel
theorem dL_law_392 : decode cL_law 392 = .ok (.aload_n 1, 1) := by decide +kernel
theorem dL_law_393 : decode cL_law 393 = .ok (.aload_n 0, 1) := by decide +kernel
theorem dL_law_394 : decode cL_law 394 = .ok (.iload 4, 2) := by decide +kernel
theorem dL_law_396 : decode cL_law 396 = .ok (.iconst 1, 1) := by decide +kernel
theorem dL_law_397 : decode cL_law 397 = .ok (.iadd, 1) := by decide +kernel
theorem dL_law_398 : decode cL_law 398 = .ok (.iaload, 1) := by decide +kernel
theorem dL_law_399 : decode cL_law 399 = .ok (.invokevirtual 38, 3) := by decide +kernel
theorem dL_law_402 : decode cL_law 402 = .ok (.aload_n 2, 1) := by decide +kernel
theorem dL_law_403 : decode cL_law 403 = .ok (.aload_n 0, 1) := by decide +kernel
theorem dL_law_404 : decode cL_law 404 = .ok (.iload 4, 2) := by decide +kernel
theorem dL_law_406 : decode cL_law 406 = .ok (.iconst 1, 1) := by decide +kernel
theorem dL_law_407 : decode cL_law 407 = .ok (.iadd, 1) := by decide +kernel
theorem dL_law_408 : decode cL_law 408 = .ok (.iaload, 1) := by decide +kernel
theorem dL_law_409 : decode cL_law 409 = .ok (.invokevirtual 41, 3) := by decide +kernel
theorem dL_law_412 : decode cL_law 412 = .ok (.if_icmp .eq 1514, 3) := by decide +kernel
theorem dL_law_415 : decode cL_law 415 = .ok (.iconst 0, 1) := by decide +kernel
theorem dL_law_416 : decode cL_law 416 = .ok (.ireturn, 1) := by decide +kernel
theorem dL_law_417 : decode cL_law 417 = .ok (.aload_n 1, 1) := by decide +kernel
theorem dL_law_418 : decode cL_law 418 = .ok (.aload_n 0, 1) := by decide +kernel
theorem dL_law_419 : decode cL_law 419 = .ok (.iload 4, 2) := by decide +kernel
theorem dL_law_421 : decode cL_law 421 = .ok (.iconst 1, 1) := by decide +kernel
theorem dL_law_422 : decode cL_law 422 = .ok (.iadd, 1) := by decide +kernel
theorem dL_law_423 : decode cL_law 423 = .ok (.iaload, 1) := by decide +kernel
theorem dL_law_424 : decode cL_law 424 = .ok (.aload_n 0, 1) := by decide +kernel
theorem dL_law_425 : decode cL_law 425 = .ok (.iload 4, 2) := by decide +kernel
theorem dL_law_427 : decode cL_law 427 = .ok (.iconst 2, 1) := by decide +kernel
theorem dL_law_428 : decode cL_law 428 = .ok (.iadd, 1) := by decide +kernel
theorem dL_law_429 : decode cL_law 429 = .ok (.iaload, 1) := by decide +kernel
theorem dL_law_430 : decode cL_law 430 = .ok (.aload_n 3, 1) := by decide +kernel
theorem dL_law_431 : decode cL_law 431 = .ok (.invokestatic 42, 3) := by decide +kernel
theorem dL_law_434 : decode cL_law 434 = .ok (.istore 5, 2) := by decide +kernel
theorem dL_law_436 : decode cL_law 436 = .ok (.aload_n 2, 1) := by decide +kernel
theorem dL_law_437 : decode cL_law 437 = .ok (.aload_n 0, 1) := by decide +kernel
theorem dL_law_438 : decode cL_law 438 = .ok (.iload 4, 2) := by decide +kernel
theorem dL_law_440 : decode cL_law 440 = .ok (.iconst 1, 1) := by decide +kernel
theorem dL_law_441 : decode cL_law 441 = .ok (.iadd, 1) := by decide +kernel
theorem dL_law_442 : decode cL_law 442 = .ok (.iaload, 1) := by decide +kernel
theorem dL_law_443 : decode cL_law 443 = .ok (.aload_n 0, 1) := by decide +kernel
theorem dL_law_444 : decode cL_law 444 = .ok (.iload 4, 2) := by decide +kernel
theorem dL_law_446 : decode cL_law 446 = .ok (.iconst 2, 1) := by decide +kernel
theorem dL_law_447 : decode cL_law 447 = .ok (.iadd, 1) := by decide +kernel
theorem dL_law_448 : decode cL_law 448 = .ok (.iaload, 1) := by decide +kernel
theorem dL_law_449 : decode cL_law 449 = .ok (.invokevirtual 47, 3) := by decide +kernel
theorem dL_law_452 : decode cL_law 452 = .ok (.istore 6, 2) := by decide +kernel
theorem dL_law_454 : decode cL_law 454 = .ok (.aload_n 2, 1) := by decide +kernel
theorem dL_law_455 : decode cL_law 455 = .ok (.invokevirtual 48, 3) := by decide +kernel
theorem dL_law_458 : decode cL_law 458 = .ok (.iload 5, 2) := by decide +kernel
theorem dL_law_460 : decode cL_law 460 = .ok (.if_icmp .eq 5, 3) := by decide +kernel
theorem dL_law_463 : decode cL_law 463 = .ok (.iconst 0, 1) := by decide +kernel
theorem dL_law_464 : decode cL_law 464 = .ok (.ireturn, 1) := by decide +kernel
theorem dL_law_465 : decode cL_law 465 = .ok (.iload 5, 2) := by decide +kernel
theorem dL_law_467 : decode cL_law 467 = .ok (.ifCond .ne 15, 3) := by decide +kernel
theorem dL_law_470 : decode cL_law 470 = .ok (.aload_n 3, 1) := by decide +kernel
theorem dL_law_471 : decode cL_law 471 = .ok (.iconst 0, 1) := by decide +kernel
theorem dL_law_472 : decode cL_law 472 = .ok (.laload, 1) := by decide +kernel
theorem dL_law_473 : decode cL_law 473 = .ok (.iload 6, 2) := by decide +kernel
theorem dL_law_475 : decode cL_law 475 = .ok (.i2l, 1) := by decide +kernel
theorem dL_law_476 : decode cL_law 476 = .ok (.lcmp, 1) := by decide +kernel
theorem dL_law_477 : decode cL_law 477 = .ok (.ifCond .eq 5, 3) := by decide +kernel
theorem dL_law_480 : decode cL_law 480 = .ok (.iconst 0, 1) := by decide +kernel
theorem dL_law_481 : decode cL_law 481 = .ok (.ireturn, 1) := by decide +kernel
theorem dL_law_482 : decode cL_law 482 = .ok (.goto 1444, 3) := by decide +kernel
theorem dL_law_485 : decode cL_law 485 = .ok (.aload_n 1, 1) := by decide +kernel
theorem dL_law_486 : decode cL_law 486 = .ok (.aload_n 0, 1) := by decide +kernel
theorem dL_law_487 : decode cL_law 487 = .ok (.iload 4, 2) := by decide +kernel
theorem dL_law_489 : decode cL_law 489 = .ok (.iconst 1, 1) := by decide +kernel
theorem dL_law_490 : decode cL_law 490 = .ok (.iadd, 1) := by decide +kernel
theorem dL_law_491 : decode cL_law 491 = .ok (.iaload, 1) := by decide +kernel
theorem dL_law_492 : decode cL_law 492 = .ok (.aload_n 0, 1) := by decide +kernel
theorem dL_law_493 : decode cL_law 493 = .ok (.iload 4, 2) := by decide +kernel
theorem dL_law_495 : decode cL_law 495 = .ok (.iconst 2, 1) := by decide +kernel
theorem dL_law_496 : decode cL_law 496 = .ok (.iadd, 1) := by decide +kernel
theorem dL_law_497 : decode cL_law 497 = .ok (.iaload, 1) := by decide +kernel
theorem dL_law_498 : decode cL_law 498 = .ok (.invokevirtual 52, 3) := by decide +kernel
theorem dL_law_501 : decode cL_law 501 = .ok (.aload_n 2, 1) := by decide +kernel
theorem dL_law_502 : decode cL_law 502 = .ok (.aload_n 0, 1) := by decide +kernel
theorem dL_law_503 : decode cL_law 503 = .ok (.iload 4, 2) := by decide +kernel
theorem dL_law_505 : decode cL_law 505 = .ok (.iconst 1, 1) := by decide +kernel
theorem dL_law_506 : decode cL_law 506 = .ok (.iadd, 1) := by decide +kernel
theorem dL_law_507 : decode cL_law 507 = .ok (.iaload, 1) := by decide +kernel
theorem dL_law_508 : decode cL_law 508 = .ok (.aload_n 0, 1) := by decide +kernel
theorem dL_law_509 : decode cL_law 509 = .ok (.iload 4, 2) := by decide +kernel
theorem dL_law_511 : decode cL_law 511 = .ok (.iconst 2, 1) := by decide +kernel
theorem dL_law_512 : decode cL_law 512 = .ok (.iadd, 1) := by decide +kernel
theorem dL_law_513 : decode cL_law 513 = .ok (.iaload, 1) := by decide +kernel
theorem dL_law_514 : decode cL_law 514 = .ok (.invokevirtual 55, 3) := by decide +kernel
theorem dL_law_517 : decode cL_law 517 = .ok (.if_icmp .eq 1409, 3) := by decide +kernel
theorem dL_law_520 : decode cL_law 520 = .ok (.iconst 0, 1) := by decide +kernel
theorem dL_law_521 : decode cL_law 521 = .ok (.ireturn, 1) := by decide +kernel
theorem dL_law_522 : decode cL_law 522 = .ok (.aload_n 1, 1) := by decide +kernel
theorem dL_law_523 : decode cL_law 523 = .ok (.aload_n 0, 1) := by decide +kernel
theorem dL_law_524 : decode cL_law 524 = .ok (.iload 4, 2) := by decide +kernel
theorem dL_law_526 : decode cL_law 526 = .ok (.iconst 1, 1) := by decide +kernel
theorem dL_law_527 : decode cL_law 527 = .ok (.iadd, 1) := by decide +kernel
theorem dL_law_528 : decode cL_law 528 = .ok (.iaload, 1) := by decide +kernel
theorem dL_law_529 : decode cL_law 529 = .ok (.invokevirtual 56, 3) := by decide +kernel
theorem dL_law_532 : decode cL_law 532 = .ok (.aload_n 2, 1) := by decide +kernel
theorem dL_law_533 : decode cL_law 533 = .ok (.aload_n 0, 1) := by decide +kernel
theorem dL_law_534 : decode cL_law 534 = .ok (.iload 4, 2) := by decide +kernel
theorem dL_law_536 : decode cL_law 536 = .ok (.iconst 1, 1) := by decide +kernel
theorem dL_law_537 : decode cL_law 537 = .ok (.iadd, 1) := by decide +kernel
theorem dL_law_538 : decode cL_law 538 = .ok (.iaload, 1) := by decide +kernel
theorem dL_law_539 : decode cL_law 539 = .ok (.invokevirtual 59, 3) := by decide +kernel
theorem dL_law_542 : decode cL_law 542 = .ok (.if_icmp .eq 1384, 3) := by decide +kernel
theorem dL_law_545 : decode cL_law 545 = .ok (.iconst 0, 1) := by decide +kernel
theorem dL_law_546 : decode cL_law 546 = .ok (.ireturn, 1) := by decide +kernel
theorem dL_law_547 : decode cL_law 547 = .ok (.aload_n 1, 1) := by decide +kernel
theorem dL_law_548 : decode cL_law 548 = .ok (.aload_n 0, 1) := by decide +kernel
theorem dL_law_549 : decode cL_law 549 = .ok (.iload 4, 2) := by decide +kernel
theorem dL_law_551 : decode cL_law 551 = .ok (.iconst 1, 1) := by decide +kernel
theorem dL_law_552 : decode cL_law 552 = .ok (.iadd, 1) := by decide +kernel
theorem dL_law_553 : decode cL_law 553 = .ok (.iaload, 1) := by decide +kernel
theorem dL_law_554 : decode cL_law 554 = .ok (.aload_n 0, 1) := by decide +kernel
theorem dL_law_555 : decode cL_law 555 = .ok (.iload 4, 2) := by decide +kernel
theorem dL_law_557 : decode cL_law 557 = .ok (.iconst 2, 1) := by decide +kernel
theorem dL_law_558 : decode cL_law 558 = .ok (.iadd, 1) := by decide +kernel
theorem dL_law_559 : decode cL_law 559 = .ok (.iaload, 1) := by decide +kernel
theorem dL_law_560 : decode cL_law 560 = .ok (.invokevirtual 60, 3) := by decide +kernel
theorem dL_law_563 : decode cL_law 563 = .ok (.aload_n 2, 1) := by decide +kernel
theorem dL_law_564 : decode cL_law 564 = .ok (.aload_n 0, 1) := by decide +kernel
theorem dL_law_565 : decode cL_law 565 = .ok (.iload 4, 2) := by decide +kernel
theorem dL_law_567 : decode cL_law 567 = .ok (.iconst 1, 1) := by decide +kernel
theorem dL_law_568 : decode cL_law 568 = .ok (.iadd, 1) := by decide +kernel
theorem dL_law_569 : decode cL_law 569 = .ok (.iaload, 1) := by decide +kernel
theorem dL_law_570 : decode cL_law 570 = .ok (.aload_n 0, 1) := by decide +kernel
theorem dL_law_571 : decode cL_law 571 = .ok (.iload 4, 2) := by decide +kernel
theorem dL_law_573 : decode cL_law 573 = .ok (.iconst 2, 1) := by decide +kernel
theorem dL_law_574 : decode cL_law 574 = .ok (.iadd, 1) := by decide +kernel
theorem dL_law_575 : decode cL_law 575 = .ok (.iaload, 1) := by decide +kernel
theorem dL_law_576 : decode cL_law 576 = .ok (.invokevirtual 63, 3) := by decide +kernel
theorem dL_law_579 : decode cL_law 579 = .ok (.if_icmp .eq 1347, 3) := by decide +kernel
theorem dL_law_582 : decode cL_law 582 = .ok (.iconst 0, 1) := by decide +kernel
theorem dL_law_583 : decode cL_law 583 = .ok (.ireturn, 1) := by decide +kernel
theorem dL_law_584 : decode cL_law 584 = .ok (.aload_n 1, 1) := by decide +kernel
theorem dL_law_585 : decode cL_law 585 = .ok (.aload_n 0, 1) := by decide +kernel
theorem dL_law_586 : decode cL_law 586 = .ok (.iload 4, 2) := by decide +kernel
theorem dL_law_588 : decode cL_law 588 = .ok (.iconst 1, 1) := by decide +kernel
theorem dL_law_589 : decode cL_law 589 = .ok (.iadd, 1) := by decide +kernel
theorem dL_law_590 : decode cL_law 590 = .ok (.iaload, 1) := by decide +kernel
theorem dL_law_591 : decode cL_law 591 = .ok (.aload_n 0, 1) := by decide +kernel
theorem dL_law_592 : decode cL_law 592 = .ok (.iload 4, 2) := by decide +kernel
theorem dL_law_594 : decode cL_law 594 = .ok (.iconst 2, 1) := by decide +kernel
theorem dL_law_595 : decode cL_law 595 = .ok (.iadd, 1) := by decide +kernel
theorem dL_law_596 : decode cL_law 596 = .ok (.iaload, 1) := by decide +kernel
theorem dL_law_597 : decode cL_law 597 = .ok (.invokevirtual 64, 3) := by decide +kernel
theorem dL_law_600 : decode cL_law 600 = .ok (.aload_n 2, 1) := by decide +kernel
theorem dL_law_601 : decode cL_law 601 = .ok (.aload_n 0, 1) := by decide +kernel
theorem dL_law_602 : decode cL_law 602 = .ok (.iload 4, 2) := by decide +kernel
theorem dL_law_604 : decode cL_law 604 = .ok (.iconst 1, 1) := by decide +kernel
theorem dL_law_605 : decode cL_law 605 = .ok (.iadd, 1) := by decide +kernel
theorem dL_law_606 : decode cL_law 606 = .ok (.iaload, 1) := by decide +kernel
theorem dL_law_607 : decode cL_law 607 = .ok (.aload_n 0, 1) := by decide +kernel
theorem dL_law_608 : decode cL_law 608 = .ok (.iload 4, 2) := by decide +kernel
theorem dL_law_610 : decode cL_law 610 = .ok (.iconst 2, 1) := by decide +kernel
theorem dL_law_611 : decode cL_law 611 = .ok (.iadd, 1) := by decide +kernel
theorem dL_law_612 : decode cL_law 612 = .ok (.iaload, 1) := by decide +kernel
theorem dL_law_613 : decode cL_law 613 = .ok (.invokevirtual 67, 3) := by decide +kernel
theorem dL_law_616 : decode cL_law 616 = .ok (.if_icmp .eq 1310, 3) := by decide +kernel
theorem dL_law_619 : decode cL_law 619 = .ok (.iconst 0, 1) := by decide +kernel
theorem dL_law_620 : decode cL_law 620 = .ok (.ireturn, 1) := by decide +kernel
theorem dL_law_621 : decode cL_law 621 = .ok (.aload_n 1, 1) := by decide +kernel
theorem dL_law_622 : decode cL_law 622 = .ok (.aload_n 0, 1) := by decide +kernel
theorem dL_law_623 : decode cL_law 623 = .ok (.iload 4, 2) := by decide +kernel
theorem dL_law_625 : decode cL_law 625 = .ok (.iconst 1, 1) := by decide +kernel
theorem dL_law_626 : decode cL_law 626 = .ok (.iadd, 1) := by decide +kernel
theorem dL_law_627 : decode cL_law 627 = .ok (.iaload, 1) := by decide +kernel
theorem dL_law_628 : decode cL_law 628 = .ok (.aload_n 0, 1) := by decide +kernel
theorem dL_law_629 : decode cL_law 629 = .ok (.iload 4, 2) := by decide +kernel
theorem dL_law_631 : decode cL_law 631 = .ok (.iconst 2, 1) := by decide +kernel
theorem dL_law_632 : decode cL_law 632 = .ok (.iadd, 1) := by decide +kernel
theorem dL_law_633 : decode cL_law 633 = .ok (.iaload, 1) := by decide +kernel
theorem dL_law_634 : decode cL_law 634 = .ok (.aload_n 0, 1) := by decide +kernel
theorem dL_law_635 : decode cL_law 635 = .ok (.iload 4, 2) := by decide +kernel
theorem dL_law_637 : decode cL_law 637 = .ok (.iconst 3, 1) := by decide +kernel
theorem dL_law_638 : decode cL_law 638 = .ok (.iadd, 1) := by decide +kernel
theorem dL_law_639 : decode cL_law 639 = .ok (.iaload, 1) := by decide +kernel
theorem dL_law_640 : decode cL_law 640 = .ok (.invokevirtual 68, 3) := by decide +kernel
theorem dL_law_643 : decode cL_law 643 = .ok (.aload_n 2, 1) := by decide +kernel
theorem dL_law_644 : decode cL_law 644 = .ok (.aload_n 0, 1) := by decide +kernel
theorem dL_law_645 : decode cL_law 645 = .ok (.iload 4, 2) := by decide +kernel
theorem dL_law_647 : decode cL_law 647 = .ok (.iconst 1, 1) := by decide +kernel
theorem dL_law_648 : decode cL_law 648 = .ok (.iadd, 1) := by decide +kernel
theorem dL_law_649 : decode cL_law 649 = .ok (.iaload, 1) := by decide +kernel
theorem dL_law_650 : decode cL_law 650 = .ok (.aload_n 0, 1) := by decide +kernel
theorem dL_law_651 : decode cL_law 651 = .ok (.iload 4, 2) := by decide +kernel
theorem dL_law_653 : decode cL_law 653 = .ok (.iconst 2, 1) := by decide +kernel
theorem dL_law_654 : decode cL_law 654 = .ok (.iadd, 1) := by decide +kernel
theorem dL_law_655 : decode cL_law 655 = .ok (.iaload, 1) := by decide +kernel
theorem dL_law_656 : decode cL_law 656 = .ok (.aload_n 0, 1) := by decide +kernel
theorem dL_law_657 : decode cL_law 657 = .ok (.iload 4, 2) := by decide +kernel
theorem dL_law_659 : decode cL_law 659 = .ok (.iconst 3, 1) := by decide +kernel
theorem dL_law_660 : decode cL_law 660 = .ok (.iadd, 1) := by decide +kernel
theorem dL_law_661 : decode cL_law 661 = .ok (.iaload, 1) := by decide +kernel
theorem dL_law_662 : decode cL_law 662 = .ok (.invokevirtual 72, 3) := by decide +kernel
theorem dL_law_665 : decode cL_law 665 = .ok (.if_icmp .eq 1261, 3) := by decide +kernel
theorem dL_law_668 : decode cL_law 668 = .ok (.iconst 0, 1) := by decide +kernel
theorem dL_law_669 : decode cL_law 669 = .ok (.ireturn, 1) := by decide +kernel
theorem dL_law_670 : decode cL_law 670 = .ok (.aload_n 1, 1) := by decide +kernel
theorem dL_law_671 : decode cL_law 671 = .ok (.aload_n 0, 1) := by decide +kernel
theorem dL_law_672 : decode cL_law 672 = .ok (.iload 4, 2) := by decide +kernel
theorem dL_law_674 : decode cL_law 674 = .ok (.iconst 1, 1) := by decide +kernel
theorem dL_law_675 : decode cL_law 675 = .ok (.iadd, 1) := by decide +kernel
theorem dL_law_676 : decode cL_law 676 = .ok (.iaload, 1) := by decide +kernel
theorem dL_law_677 : decode cL_law 677 = .ok (.aload_n 0, 1) := by decide +kernel
theorem dL_law_678 : decode cL_law 678 = .ok (.iload 4, 2) := by decide +kernel
theorem dL_law_680 : decode cL_law 680 = .ok (.iconst 2, 1) := by decide +kernel
theorem dL_law_681 : decode cL_law 681 = .ok (.iadd, 1) := by decide +kernel
theorem dL_law_682 : decode cL_law 682 = .ok (.iaload, 1) := by decide +kernel
theorem dL_law_683 : decode cL_law 683 = .ok (.invokevirtual 73, 3) := by decide +kernel
theorem dL_law_686 : decode cL_law 686 = .ok (.aload_n 2, 1) := by decide +kernel
theorem dL_law_687 : decode cL_law 687 = .ok (.aload_n 0, 1) := by decide +kernel
theorem dL_law_688 : decode cL_law 688 = .ok (.iload 4, 2) := by decide +kernel
theorem dL_law_690 : decode cL_law 690 = .ok (.iconst 1, 1) := by decide +kernel
theorem dL_law_691 : decode cL_law 691 = .ok (.iadd, 1) := by decide +kernel
theorem dL_law_692 : decode cL_law 692 = .ok (.iaload, 1) := by decide +kernel
theorem dL_law_693 : decode cL_law 693 = .ok (.aload_n 0, 1) := by decide +kernel
theorem dL_law_694 : decode cL_law 694 = .ok (.iload 4, 2) := by decide +kernel
theorem dL_law_696 : decode cL_law 696 = .ok (.iconst 2, 1) := by decide +kernel
theorem dL_law_697 : decode cL_law 697 = .ok (.iadd, 1) := by decide +kernel
theorem dL_law_698 : decode cL_law 698 = .ok (.iaload, 1) := by decide +kernel
theorem dL_law_699 : decode cL_law 699 = .ok (.invokevirtual 76, 3) := by decide +kernel
theorem dL_law_702 : decode cL_law 702 = .ok (.if_icmp .eq 1224, 3) := by decide +kernel
theorem dL_law_705 : decode cL_law 705 = .ok (.iconst 0, 1) := by decide +kernel
theorem dL_law_706 : decode cL_law 706 = .ok (.ireturn, 1) := by decide +kernel
theorem dL_law_707 : decode cL_law 707 = .ok (.aload_n 1, 1) := by decide +kernel
theorem dL_law_708 : decode cL_law 708 = .ok (.aload_n 0, 1) := by decide +kernel
theorem dL_law_709 : decode cL_law 709 = .ok (.iload 4, 2) := by decide +kernel
theorem dL_law_711 : decode cL_law 711 = .ok (.iconst 1, 1) := by decide +kernel
theorem dL_law_712 : decode cL_law 712 = .ok (.iadd, 1) := by decide +kernel
theorem dL_law_713 : decode cL_law 713 = .ok (.iaload, 1) := by decide +kernel
theorem dL_law_714 : decode cL_law 714 = .ok (.aload_n 0, 1) := by decide +kernel
theorem dL_law_715 : decode cL_law 715 = .ok (.iload 4, 2) := by decide +kernel
theorem dL_law_717 : decode cL_law 717 = .ok (.iconst 2, 1) := by decide +kernel
theorem dL_law_718 : decode cL_law 718 = .ok (.iadd, 1) := by decide +kernel
theorem dL_law_719 : decode cL_law 719 = .ok (.iaload, 1) := by decide +kernel
theorem dL_law_720 : decode cL_law 720 = .ok (.invokevirtual 77, 3) := by decide +kernel
theorem dL_law_723 : decode cL_law 723 = .ok (.aload_n 2, 1) := by decide +kernel
theorem dL_law_724 : decode cL_law 724 = .ok (.aload_n 0, 1) := by decide +kernel
theorem dL_law_725 : decode cL_law 725 = .ok (.iload 4, 2) := by decide +kernel
theorem dL_law_727 : decode cL_law 727 = .ok (.iconst 1, 1) := by decide +kernel
theorem dL_law_728 : decode cL_law 728 = .ok (.iadd, 1) := by decide +kernel
theorem dL_law_729 : decode cL_law 729 = .ok (.iaload, 1) := by decide +kernel
theorem dL_law_730 : decode cL_law 730 = .ok (.aload_n 0, 1) := by decide +kernel
theorem dL_law_731 : decode cL_law 731 = .ok (.iload 4, 2) := by decide +kernel
theorem dL_law_733 : decode cL_law 733 = .ok (.iconst 2, 1) := by decide +kernel
theorem dL_law_734 : decode cL_law 734 = .ok (.iadd, 1) := by decide +kernel
theorem dL_law_735 : decode cL_law 735 = .ok (.iaload, 1) := by decide +kernel
theorem dL_law_736 : decode cL_law 736 = .ok (.invokevirtual 80, 3) := by decide +kernel
theorem dL_law_739 : decode cL_law 739 = .ok (.if_icmp .eq 1187, 3) := by decide +kernel
theorem dL_law_742 : decode cL_law 742 = .ok (.iconst 0, 1) := by decide +kernel
theorem dL_law_743 : decode cL_law 743 = .ok (.ireturn, 1) := by decide +kernel
theorem dL_law_744 : decode cL_law 744 = .ok (.aload_n 1, 1) := by decide +kernel
theorem dL_law_745 : decode cL_law 745 = .ok (.aload_n 0, 1) := by decide +kernel
theorem dL_law_746 : decode cL_law 746 = .ok (.iload 4, 2) := by decide +kernel
theorem dL_law_748 : decode cL_law 748 = .ok (.iconst 1, 1) := by decide +kernel
theorem dL_law_749 : decode cL_law 749 = .ok (.iadd, 1) := by decide +kernel
theorem dL_law_750 : decode cL_law 750 = .ok (.iaload, 1) := by decide +kernel
theorem dL_law_751 : decode cL_law 751 = .ok (.aload_n 0, 1) := by decide +kernel
theorem dL_law_752 : decode cL_law 752 = .ok (.iload 4, 2) := by decide +kernel
theorem dL_law_754 : decode cL_law 754 = .ok (.iconst 2, 1) := by decide +kernel
theorem dL_law_755 : decode cL_law 755 = .ok (.iadd, 1) := by decide +kernel
theorem dL_law_756 : decode cL_law 756 = .ok (.iaload, 1) := by decide +kernel
theorem dL_law_757 : decode cL_law 757 = .ok (.invokevirtual 81, 3) := by decide +kernel
theorem dL_law_760 : decode cL_law 760 = .ok (.aload_n 2, 1) := by decide +kernel
theorem dL_law_761 : decode cL_law 761 = .ok (.aload_n 0, 1) := by decide +kernel
theorem dL_law_762 : decode cL_law 762 = .ok (.iload 4, 2) := by decide +kernel
theorem dL_law_764 : decode cL_law 764 = .ok (.iconst 1, 1) := by decide +kernel
theorem dL_law_765 : decode cL_law 765 = .ok (.iadd, 1) := by decide +kernel
theorem dL_law_766 : decode cL_law 766 = .ok (.iaload, 1) := by decide +kernel
theorem dL_law_767 : decode cL_law 767 = .ok (.aload_n 0, 1) := by decide +kernel
theorem dL_law_768 : decode cL_law 768 = .ok (.iload 4, 2) := by decide +kernel
theorem dL_law_770 : decode cL_law 770 = .ok (.iconst 2, 1) := by decide +kernel
theorem dL_law_771 : decode cL_law 771 = .ok (.iadd, 1) := by decide +kernel
theorem dL_law_772 : decode cL_law 772 = .ok (.iaload, 1) := by decide +kernel
theorem dL_law_773 : decode cL_law 773 = .ok (.invokevirtual 85, 3) := by decide +kernel
theorem dL_law_776 : decode cL_law 776 = .ok (.if_icmp .eq 1150, 3) := by decide +kernel
theorem dL_law_779 : decode cL_law 779 = .ok (.iconst 0, 1) := by decide +kernel
theorem dL_law_780 : decode cL_law 780 = .ok (.ireturn, 1) := by decide +kernel
theorem dL_law_781 : decode cL_law 781 = .ok (.aload_n 1, 1) := by decide +kernel
theorem dL_law_782 : decode cL_law 782 = .ok (.aload_n 0, 1) := by decide +kernel
theorem dL_law_783 : decode cL_law 783 = .ok (.iload 4, 2) := by decide +kernel
theorem dL_law_785 : decode cL_law 785 = .ok (.iconst 1, 1) := by decide +kernel
theorem dL_law_786 : decode cL_law 786 = .ok (.iadd, 1) := by decide +kernel
theorem dL_law_787 : decode cL_law 787 = .ok (.iaload, 1) := by decide +kernel
theorem dL_law_788 : decode cL_law 788 = .ok (.invokevirtual 86, 3) := by decide +kernel
theorem dL_law_791 : decode cL_law 791 = .ok (.aload_n 2, 1) := by decide +kernel
theorem dL_law_792 : decode cL_law 792 = .ok (.aload_n 0, 1) := by decide +kernel
theorem dL_law_793 : decode cL_law 793 = .ok (.iload 4, 2) := by decide +kernel
theorem dL_law_795 : decode cL_law 795 = .ok (.iconst 1, 1) := by decide +kernel
theorem dL_law_796 : decode cL_law 796 = .ok (.iadd, 1) := by decide +kernel
theorem dL_law_797 : decode cL_law 797 = .ok (.iaload, 1) := by decide +kernel
theorem dL_law_798 : decode cL_law 798 = .ok (.invokevirtual 89, 3) := by decide +kernel
theorem dL_law_801 : decode cL_law 801 = .ok (.if_icmp .eq 1125, 3) := by decide +kernel
theorem dL_law_804 : decode cL_law 804 = .ok (.iconst 0, 1) := by decide +kernel
theorem dL_law_805 : decode cL_law 805 = .ok (.ireturn, 1) := by decide +kernel
theorem dL_law_806 : decode cL_law 806 = .ok (.aload_n 1, 1) := by decide +kernel
theorem dL_law_807 : decode cL_law 807 = .ok (.aload_n 0, 1) := by decide +kernel
theorem dL_law_808 : decode cL_law 808 = .ok (.iload 4, 2) := by decide +kernel
theorem dL_law_810 : decode cL_law 810 = .ok (.iconst 1, 1) := by decide +kernel
theorem dL_law_811 : decode cL_law 811 = .ok (.iadd, 1) := by decide +kernel
theorem dL_law_812 : decode cL_law 812 = .ok (.iaload, 1) := by decide +kernel
theorem dL_law_813 : decode cL_law 813 = .ok (.aload_n 0, 1) := by decide +kernel
theorem dL_law_814 : decode cL_law 814 = .ok (.iload 4, 2) := by decide +kernel
theorem dL_law_816 : decode cL_law 816 = .ok (.iconst 2, 1) := by decide +kernel
theorem dL_law_817 : decode cL_law 817 = .ok (.iadd, 1) := by decide +kernel
theorem dL_law_818 : decode cL_law 818 = .ok (.iaload, 1) := by decide +kernel
theorem dL_law_819 : decode cL_law 819 = .ok (.i2l, 1) := by decide +kernel
theorem dL_law_820 : decode cL_law 820 = .ok (.bipush 32, 2) := by decide +kernel
theorem dL_law_822 : decode cL_law 822 = .ok (.lshl, 1) := by decide +kernel
theorem dL_law_823 : decode cL_law 823 = .ok (.aload_n 0, 1) := by decide +kernel
theorem dL_law_824 : decode cL_law 824 = .ok (.iload 4, 2) := by decide +kernel
theorem dL_law_826 : decode cL_law 826 = .ok (.iconst 3, 1) := by decide +kernel
theorem dL_law_827 : decode cL_law 827 = .ok (.iadd, 1) := by decide +kernel
theorem dL_law_828 : decode cL_law 828 = .ok (.iaload, 1) := by decide +kernel
theorem dL_law_829 : decode cL_law 829 = .ok (.i2l, 1) := by decide +kernel
theorem dL_law_830 : decode cL_law 830 = .ok (.ldc2_w 90, 3) := by decide +kernel
theorem dL_law_833 : decode cL_law 833 = .ok (.land, 1) := by decide +kernel
theorem dL_law_834 : decode cL_law 834 = .ok (.lor, 1) := by decide +kernel
theorem dL_law_835 : decode cL_law 835 = .ok (.invokevirtual 92, 3) := by decide +kernel
theorem dL_law_838 : decode cL_law 838 = .ok (.aload_n 2, 1) := by decide +kernel
theorem dL_law_839 : decode cL_law 839 = .ok (.aload_n 0, 1) := by decide +kernel
theorem dL_law_840 : decode cL_law 840 = .ok (.iload 4, 2) := by decide +kernel
theorem dL_law_842 : decode cL_law 842 = .ok (.iconst 1, 1) := by decide +kernel
theorem dL_law_843 : decode cL_law 843 = .ok (.iadd, 1) := by decide +kernel
theorem dL_law_844 : decode cL_law 844 = .ok (.iaload, 1) := by decide +kernel
theorem dL_law_845 : decode cL_law 845 = .ok (.aload_n 0, 1) := by decide +kernel
theorem dL_law_846 : decode cL_law 846 = .ok (.iload 4, 2) := by decide +kernel
theorem dL_law_848 : decode cL_law 848 = .ok (.iconst 2, 1) := by decide +kernel
theorem dL_law_849 : decode cL_law 849 = .ok (.iadd, 1) := by decide +kernel
theorem dL_law_850 : decode cL_law 850 = .ok (.iaload, 1) := by decide +kernel
theorem dL_law_851 : decode cL_law 851 = .ok (.i2l, 1) := by decide +kernel
theorem dL_law_852 : decode cL_law 852 = .ok (.bipush 32, 2) := by decide +kernel
theorem dL_law_854 : decode cL_law 854 = .ok (.lshl, 1) := by decide +kernel
theorem dL_law_855 : decode cL_law 855 = .ok (.aload_n 0, 1) := by decide +kernel
theorem dL_law_856 : decode cL_law 856 = .ok (.iload 4, 2) := by decide +kernel
theorem dL_law_858 : decode cL_law 858 = .ok (.iconst 3, 1) := by decide +kernel
theorem dL_law_859 : decode cL_law 859 = .ok (.iadd, 1) := by decide +kernel
theorem dL_law_860 : decode cL_law 860 = .ok (.iaload, 1) := by decide +kernel
theorem dL_law_861 : decode cL_law 861 = .ok (.i2l, 1) := by decide +kernel
theorem dL_law_862 : decode cL_law 862 = .ok (.ldc2_w 90, 3) := by decide +kernel
theorem dL_law_865 : decode cL_law 865 = .ok (.land, 1) := by decide +kernel
theorem dL_law_866 : decode cL_law 866 = .ok (.lor, 1) := by decide +kernel
theorem dL_law_867 : decode cL_law 867 = .ok (.invokevirtual 96, 3) := by decide +kernel
theorem dL_law_870 : decode cL_law 870 = .ok (.if_icmp .eq 1056, 3) := by decide +kernel
theorem dL_law_873 : decode cL_law 873 = .ok (.iconst 0, 1) := by decide +kernel
theorem dL_law_874 : decode cL_law 874 = .ok (.ireturn, 1) := by decide +kernel
theorem dL_law_875 : decode cL_law 875 = .ok (.aload_n 1, 1) := by decide +kernel
theorem dL_law_876 : decode cL_law 876 = .ok (.invokevirtual 97, 3) := by decide +kernel
theorem dL_law_879 : decode cL_law 879 = .ok (.aload_n 2, 1) := by decide +kernel
theorem dL_law_880 : decode cL_law 880 = .ok (.invokevirtual 100, 3) := by decide +kernel
theorem dL_law_883 : decode cL_law 883 = .ok (.if_icmp .eq 1043, 3) := by decide +kernel
theorem dL_law_886 : decode cL_law 886 = .ok (.iconst 0, 1) := by decide +kernel
theorem dL_law_887 : decode cL_law 887 = .ok (.ireturn, 1) := by decide +kernel
theorem dL_law_888 : decode cL_law 888 = .ok (.aload_n 1, 1) := by decide +kernel
theorem dL_law_889 : decode cL_law 889 = .ok (.aload_n 0, 1) := by decide +kernel
theorem dL_law_890 : decode cL_law 890 = .ok (.iload 4, 2) := by decide +kernel
theorem dL_law_892 : decode cL_law 892 = .ok (.iconst 1, 1) := by decide +kernel
theorem dL_law_893 : decode cL_law 893 = .ok (.iadd, 1) := by decide +kernel
theorem dL_law_894 : decode cL_law 894 = .ok (.iaload, 1) := by decide +kernel
theorem dL_law_895 : decode cL_law 895 = .ok (.aload_n 0, 1) := by decide +kernel
theorem dL_law_896 : decode cL_law 896 = .ok (.iload 4, 2) := by decide +kernel
theorem dL_law_898 : decode cL_law 898 = .ok (.iconst 2, 1) := by decide +kernel
theorem dL_law_899 : decode cL_law 899 = .ok (.iadd, 1) := by decide +kernel
theorem dL_law_900 : decode cL_law 900 = .ok (.iaload, 1) := by decide +kernel
theorem dL_law_901 : decode cL_law 901 = .ok (.invokevirtual 101, 3) := by decide +kernel
theorem dL_law_904 : decode cL_law 904 = .ok (.aload_n 2, 1) := by decide +kernel
theorem dL_law_905 : decode cL_law 905 = .ok (.aload_n 0, 1) := by decide +kernel
theorem dL_law_906 : decode cL_law 906 = .ok (.iload 4, 2) := by decide +kernel
theorem dL_law_908 : decode cL_law 908 = .ok (.iconst 1, 1) := by decide +kernel
theorem dL_law_909 : decode cL_law 909 = .ok (.iadd, 1) := by decide +kernel
theorem dL_law_910 : decode cL_law 910 = .ok (.iaload, 1) := by decide +kernel
theorem dL_law_911 : decode cL_law 911 = .ok (.aload_n 0, 1) := by decide +kernel
theorem dL_law_912 : decode cL_law 912 = .ok (.iload 4, 2) := by decide +kernel
theorem dL_law_914 : decode cL_law 914 = .ok (.iconst 2, 1) := by decide +kernel
theorem dL_law_915 : decode cL_law 915 = .ok (.iadd, 1) := by decide +kernel
theorem dL_law_916 : decode cL_law 916 = .ok (.iaload, 1) := by decide +kernel
theorem dL_law_917 : decode cL_law 917 = .ok (.invokevirtual 104, 3) := by decide +kernel
theorem dL_law_920 : decode cL_law 920 = .ok (.if_icmp .eq 1006, 3) := by decide +kernel
theorem dL_law_923 : decode cL_law 923 = .ok (.iconst 0, 1) := by decide +kernel
theorem dL_law_924 : decode cL_law 924 = .ok (.ireturn, 1) := by decide +kernel
theorem dL_law_925 : decode cL_law 925 = .ok (.aload_n 1, 1) := by decide +kernel
theorem dL_law_926 : decode cL_law 926 = .ok (.aload_n 0, 1) := by decide +kernel
theorem dL_law_927 : decode cL_law 927 = .ok (.iload 4, 2) := by decide +kernel
theorem dL_law_929 : decode cL_law 929 = .ok (.iconst 1, 1) := by decide +kernel
theorem dL_law_930 : decode cL_law 930 = .ok (.iadd, 1) := by decide +kernel
theorem dL_law_931 : decode cL_law 931 = .ok (.iaload, 1) := by decide +kernel
theorem dL_law_932 : decode cL_law 932 = .ok (.aload_n 0, 1) := by decide +kernel
theorem dL_law_933 : decode cL_law 933 = .ok (.iload 4, 2) := by decide +kernel
theorem dL_law_935 : decode cL_law 935 = .ok (.iconst 2, 1) := by decide +kernel
theorem dL_law_936 : decode cL_law 936 = .ok (.iadd, 1) := by decide +kernel
theorem dL_law_937 : decode cL_law 937 = .ok (.iaload, 1) := by decide +kernel
theorem dL_law_938 : decode cL_law 938 = .ok (.aload_n 0, 1) := by decide +kernel
theorem dL_law_939 : decode cL_law 939 = .ok (.iload 4, 2) := by decide +kernel
theorem dL_law_941 : decode cL_law 941 = .ok (.iconst 3, 1) := by decide +kernel
theorem dL_law_942 : decode cL_law 942 = .ok (.iadd, 1) := by decide +kernel
theorem dL_law_943 : decode cL_law 943 = .ok (.iaload, 1) := by decide +kernel
theorem dL_law_944 : decode cL_law 944 = .ok (.invokevirtual 105, 3) := by decide +kernel
theorem dL_law_947 : decode cL_law 947 = .ok (.aload_n 2, 1) := by decide +kernel
theorem dL_law_948 : decode cL_law 948 = .ok (.aload_n 0, 1) := by decide +kernel
theorem dL_law_949 : decode cL_law 949 = .ok (.iload 4, 2) := by decide +kernel
theorem dL_law_951 : decode cL_law 951 = .ok (.iconst 1, 1) := by decide +kernel
theorem dL_law_952 : decode cL_law 952 = .ok (.iadd, 1) := by decide +kernel
theorem dL_law_953 : decode cL_law 953 = .ok (.iaload, 1) := by decide +kernel
theorem dL_law_954 : decode cL_law 954 = .ok (.aload_n 0, 1) := by decide +kernel
theorem dL_law_955 : decode cL_law 955 = .ok (.iload 4, 2) := by decide +kernel
theorem dL_law_957 : decode cL_law 957 = .ok (.iconst 2, 1) := by decide +kernel
theorem dL_law_958 : decode cL_law 958 = .ok (.iadd, 1) := by decide +kernel
theorem dL_law_959 : decode cL_law 959 = .ok (.iaload, 1) := by decide +kernel
theorem dL_law_960 : decode cL_law 960 = .ok (.aload_n 0, 1) := by decide +kernel
theorem dL_law_961 : decode cL_law 961 = .ok (.iload 4, 2) := by decide +kernel
theorem dL_law_963 : decode cL_law 963 = .ok (.iconst 3, 1) := by decide +kernel
theorem dL_law_964 : decode cL_law 964 = .ok (.iadd, 1) := by decide +kernel
theorem dL_law_965 : decode cL_law 965 = .ok (.iaload, 1) := by decide +kernel
theorem dL_law_966 : decode cL_law 966 = .ok (.invokevirtual 108, 3) := by decide +kernel
theorem dL_law_969 : decode cL_law 969 = .ok (.if_icmp .eq 957, 3) := by decide +kernel
theorem dL_law_972 : decode cL_law 972 = .ok (.iconst 0, 1) := by decide +kernel
theorem dL_law_973 : decode cL_law 973 = .ok (.ireturn, 1) := by decide +kernel
theorem dL_law_974 : decode cL_law 974 = .ok (.aload_n 1, 1) := by decide +kernel
theorem dL_law_975 : decode cL_law 975 = .ok (.aload_n 0, 1) := by decide +kernel
theorem dL_law_976 : decode cL_law 976 = .ok (.iload 4, 2) := by decide +kernel
theorem dL_law_978 : decode cL_law 978 = .ok (.iconst 1, 1) := by decide +kernel
theorem dL_law_979 : decode cL_law 979 = .ok (.iadd, 1) := by decide +kernel
theorem dL_law_980 : decode cL_law 980 = .ok (.iaload, 1) := by decide +kernel
theorem dL_law_981 : decode cL_law 981 = .ok (.aload_n 0, 1) := by decide +kernel
theorem dL_law_982 : decode cL_law 982 = .ok (.iload 4, 2) := by decide +kernel
theorem dL_law_984 : decode cL_law 984 = .ok (.iconst 2, 1) := by decide +kernel
theorem dL_law_985 : decode cL_law 985 = .ok (.iadd, 1) := by decide +kernel
theorem dL_law_986 : decode cL_law 986 = .ok (.iaload, 1) := by decide +kernel
theorem dL_law_987 : decode cL_law 987 = .ok (.invokevirtual 109, 3) := by decide +kernel
theorem dL_law_990 : decode cL_law 990 = .ok (.aload_n 2, 1) := by decide +kernel
theorem dL_law_991 : decode cL_law 991 = .ok (.aload_n 0, 1) := by decide +kernel
theorem dL_law_992 : decode cL_law 992 = .ok (.iload 4, 2) := by decide +kernel
theorem dL_law_994 : decode cL_law 994 = .ok (.iconst 1, 1) := by decide +kernel
theorem dL_law_995 : decode cL_law 995 = .ok (.iadd, 1) := by decide +kernel
theorem dL_law_996 : decode cL_law 996 = .ok (.iaload, 1) := by decide +kernel
theorem dL_law_997 : decode cL_law 997 = .ok (.aload_n 0, 1) := by decide +kernel
theorem dL_law_998 : decode cL_law 998 = .ok (.iload 4, 2) := by decide +kernel
theorem dL_law_1000 : decode cL_law 1000 = .ok (.iconst 2, 1) := by decide +kernel
theorem dL_law_1001 : decode cL_law 1001 = .ok (.iadd, 1) := by decide +kernel
theorem dL_law_1002 : decode cL_law 1002 = .ok (.iaload, 1) := by decide +kernel
theorem dL_law_1003 : decode cL_law 1003 = .ok (.invokevirtual 112, 3) := by decide +kernel
theorem dL_law_1006 : decode cL_law 1006 = .ok (.if_icmp .eq 920, 3) := by decide +kernel
theorem dL_law_1009 : decode cL_law 1009 = .ok (.iconst 0, 1) := by decide +kernel
theorem dL_law_1010 : decode cL_law 1010 = .ok (.ireturn, 1) := by decide +kernel
theorem dL_law_1011 : decode cL_law 1011 = .ok (.aload_n 1, 1) := by decide +kernel
theorem dL_law_1012 : decode cL_law 1012 = .ok (.aload_n 0, 1) := by decide +kernel
theorem dL_law_1013 : decode cL_law 1013 = .ok (.iload 4, 2) := by decide +kernel
theorem dL_law_1015 : decode cL_law 1015 = .ok (.iconst 1, 1) := by decide +kernel
theorem dL_law_1016 : decode cL_law 1016 = .ok (.iadd, 1) := by decide +kernel
theorem dL_law_1017 : decode cL_law 1017 = .ok (.iaload, 1) := by decide +kernel
theorem dL_law_1018 : decode cL_law 1018 = .ok (.invokevirtual 113, 3) := by decide +kernel
theorem dL_law_1021 : decode cL_law 1021 = .ok (.aload_n 2, 1) := by decide +kernel
theorem dL_law_1022 : decode cL_law 1022 = .ok (.aload_n 0, 1) := by decide +kernel
theorem dL_law_1023 : decode cL_law 1023 = .ok (.iload 4, 2) := by decide +kernel
theorem dL_law_1025 : decode cL_law 1025 = .ok (.iconst 1, 1) := by decide +kernel
theorem dL_law_1026 : decode cL_law 1026 = .ok (.iadd, 1) := by decide +kernel
theorem dL_law_1027 : decode cL_law 1027 = .ok (.iaload, 1) := by decide +kernel
theorem dL_law_1028 : decode cL_law 1028 = .ok (.invokevirtual 116, 3) := by decide +kernel
theorem dL_law_1031 : decode cL_law 1031 = .ok (.if_icmp .eq 895, 3) := by decide +kernel
theorem dL_law_1034 : decode cL_law 1034 = .ok (.iconst 0, 1) := by decide +kernel
theorem dL_law_1035 : decode cL_law 1035 = .ok (.ireturn, 1) := by decide +kernel
theorem dL_law_1036 : decode cL_law 1036 = .ok (.aload_n 1, 1) := by decide +kernel
theorem dL_law_1037 : decode cL_law 1037 = .ok (.aload_n 0, 1) := by decide +kernel
theorem dL_law_1038 : decode cL_law 1038 = .ok (.iload 4, 2) := by decide +kernel
theorem dL_law_1040 : decode cL_law 1040 = .ok (.iconst 1, 1) := by decide +kernel
theorem dL_law_1041 : decode cL_law 1041 = .ok (.iadd, 1) := by decide +kernel
theorem dL_law_1042 : decode cL_law 1042 = .ok (.iaload, 1) := by decide +kernel
theorem dL_law_1043 : decode cL_law 1043 = .ok (.invokevirtual 117, 3) := by decide +kernel
theorem dL_law_1046 : decode cL_law 1046 = .ok (.aload_n 2, 1) := by decide +kernel
theorem dL_law_1047 : decode cL_law 1047 = .ok (.aload_n 0, 1) := by decide +kernel
theorem dL_law_1048 : decode cL_law 1048 = .ok (.iload 4, 2) := by decide +kernel
theorem dL_law_1050 : decode cL_law 1050 = .ok (.iconst 1, 1) := by decide +kernel
theorem dL_law_1051 : decode cL_law 1051 = .ok (.iadd, 1) := by decide +kernel
theorem dL_law_1052 : decode cL_law 1052 = .ok (.iaload, 1) := by decide +kernel
theorem dL_law_1053 : decode cL_law 1053 = .ok (.invokevirtual 120, 3) := by decide +kernel
theorem dL_law_1056 : decode cL_law 1056 = .ok (.if_icmp .eq 870, 3) := by decide +kernel
theorem dL_law_1059 : decode cL_law 1059 = .ok (.iconst 0, 1) := by decide +kernel
theorem dL_law_1060 : decode cL_law 1060 = .ok (.ireturn, 1) := by decide +kernel
theorem dL_law_1061 : decode cL_law 1061 = .ok (.aload_n 1, 1) := by decide +kernel
theorem dL_law_1062 : decode cL_law 1062 = .ok (.invokevirtual 121, 3) := by decide +kernel
theorem dL_law_1065 : decode cL_law 1065 = .ok (.aload_n 2, 1) := by decide +kernel
theorem dL_law_1066 : decode cL_law 1066 = .ok (.invokevirtual 124, 3) := by decide +kernel
theorem dL_law_1069 : decode cL_law 1069 = .ok (.if_icmp .eq 857, 3) := by decide +kernel
theorem dL_law_1072 : decode cL_law 1072 = .ok (.iconst 0, 1) := by decide +kernel
theorem dL_law_1073 : decode cL_law 1073 = .ok (.ireturn, 1) := by decide +kernel
theorem dL_law_1074 : decode cL_law 1074 = .ok (.aload_n 1, 1) := by decide +kernel
theorem dL_law_1075 : decode cL_law 1075 = .ok (.aload_n 0, 1) := by decide +kernel
theorem dL_law_1076 : decode cL_law 1076 = .ok (.iload 4, 2) := by decide +kernel
theorem dL_law_1078 : decode cL_law 1078 = .ok (.iconst 1, 1) := by decide +kernel
theorem dL_law_1079 : decode cL_law 1079 = .ok (.iadd, 1) := by decide +kernel
theorem dL_law_1080 : decode cL_law 1080 = .ok (.iaload, 1) := by decide +kernel
theorem dL_law_1081 : decode cL_law 1081 = .ok (.aload_n 0, 1) := by decide +kernel
theorem dL_law_1082 : decode cL_law 1082 = .ok (.iload 4, 2) := by decide +kernel
theorem dL_law_1084 : decode cL_law 1084 = .ok (.iconst 2, 1) := by decide +kernel
theorem dL_law_1085 : decode cL_law 1085 = .ok (.iadd, 1) := by decide +kernel
theorem dL_law_1086 : decode cL_law 1086 = .ok (.iaload, 1) := by decide +kernel
theorem dL_law_1087 : decode cL_law 1087 = .ok (.invokevirtual 125, 3) := by decide +kernel
theorem dL_law_1090 : decode cL_law 1090 = .ok (.aload_n 2, 1) := by decide +kernel
theorem dL_law_1091 : decode cL_law 1091 = .ok (.aload_n 0, 1) := by decide +kernel
theorem dL_law_1092 : decode cL_law 1092 = .ok (.iload 4, 2) := by decide +kernel
theorem dL_law_1094 : decode cL_law 1094 = .ok (.iconst 1, 1) := by decide +kernel
theorem dL_law_1095 : decode cL_law 1095 = .ok (.iadd, 1) := by decide +kernel
theorem dL_law_1096 : decode cL_law 1096 = .ok (.iaload, 1) := by decide +kernel
theorem dL_law_1097 : decode cL_law 1097 = .ok (.aload_n 0, 1) := by decide +kernel
theorem dL_law_1098 : decode cL_law 1098 = .ok (.iload 4, 2) := by decide +kernel
theorem dL_law_1100 : decode cL_law 1100 = .ok (.iconst 2, 1) := by decide +kernel
theorem dL_law_1101 : decode cL_law 1101 = .ok (.iadd, 1) := by decide +kernel
theorem dL_law_1102 : decode cL_law 1102 = .ok (.iaload, 1) := by decide +kernel
theorem dL_law_1103 : decode cL_law 1103 = .ok (.invokevirtual 128, 3) := by decide +kernel
theorem dL_law_1106 : decode cL_law 1106 = .ok (.if_icmp .eq 820, 3) := by decide +kernel
theorem dL_law_1109 : decode cL_law 1109 = .ok (.iconst 0, 1) := by decide +kernel
theorem dL_law_1110 : decode cL_law 1110 = .ok (.ireturn, 1) := by decide +kernel
theorem dL_law_1111 : decode cL_law 1111 = .ok (.aload_n 1, 1) := by decide +kernel
theorem dL_law_1112 : decode cL_law 1112 = .ok (.aload_n 0, 1) := by decide +kernel
theorem dL_law_1113 : decode cL_law 1113 = .ok (.iload 4, 2) := by decide +kernel
theorem dL_law_1115 : decode cL_law 1115 = .ok (.iconst 1, 1) := by decide +kernel
theorem dL_law_1116 : decode cL_law 1116 = .ok (.iadd, 1) := by decide +kernel
theorem dL_law_1117 : decode cL_law 1117 = .ok (.iaload, 1) := by decide +kernel
theorem dL_law_1118 : decode cL_law 1118 = .ok (.aload_n 0, 1) := by decide +kernel
theorem dL_law_1119 : decode cL_law 1119 = .ok (.iload 4, 2) := by decide +kernel
theorem dL_law_1121 : decode cL_law 1121 = .ok (.iconst 2, 1) := by decide +kernel
theorem dL_law_1122 : decode cL_law 1122 = .ok (.iadd, 1) := by decide +kernel
theorem dL_law_1123 : decode cL_law 1123 = .ok (.iaload, 1) := by decide +kernel
theorem dL_law_1124 : decode cL_law 1124 = .ok (.invokevirtual 129, 3) := by decide +kernel
theorem dL_law_1127 : decode cL_law 1127 = .ok (.aload_n 2, 1) := by decide +kernel
theorem dL_law_1128 : decode cL_law 1128 = .ok (.aload_n 0, 1) := by decide +kernel
theorem dL_law_1129 : decode cL_law 1129 = .ok (.iload 4, 2) := by decide +kernel
theorem dL_law_1131 : decode cL_law 1131 = .ok (.iconst 1, 1) := by decide +kernel
theorem dL_law_1132 : decode cL_law 1132 = .ok (.iadd, 1) := by decide +kernel
theorem dL_law_1133 : decode cL_law 1133 = .ok (.iaload, 1) := by decide +kernel
theorem dL_law_1134 : decode cL_law 1134 = .ok (.aload_n 0, 1) := by decide +kernel
theorem dL_law_1135 : decode cL_law 1135 = .ok (.iload 4, 2) := by decide +kernel
theorem dL_law_1137 : decode cL_law 1137 = .ok (.iconst 2, 1) := by decide +kernel
theorem dL_law_1138 : decode cL_law 1138 = .ok (.iadd, 1) := by decide +kernel
theorem dL_law_1139 : decode cL_law 1139 = .ok (.iaload, 1) := by decide +kernel
theorem dL_law_1140 : decode cL_law 1140 = .ok (.invokevirtual 132, 3) := by decide +kernel
theorem dL_law_1143 : decode cL_law 1143 = .ok (.if_icmp .eq 783, 3) := by decide +kernel
theorem dL_law_1146 : decode cL_law 1146 = .ok (.iconst 0, 1) := by decide +kernel
theorem dL_law_1147 : decode cL_law 1147 = .ok (.ireturn, 1) := by decide +kernel
theorem dL_law_1148 : decode cL_law 1148 = .ok (.aload_n 1, 1) := by decide +kernel
theorem dL_law_1149 : decode cL_law 1149 = .ok (.aload_n 0, 1) := by decide +kernel
theorem dL_law_1150 : decode cL_law 1150 = .ok (.iload 4, 2) := by decide +kernel
theorem dL_law_1152 : decode cL_law 1152 = .ok (.iconst 1, 1) := by decide +kernel
theorem dL_law_1153 : decode cL_law 1153 = .ok (.iadd, 1) := by decide +kernel
theorem dL_law_1154 : decode cL_law 1154 = .ok (.iaload, 1) := by decide +kernel
theorem dL_law_1155 : decode cL_law 1155 = .ok (.aload_n 0, 1) := by decide +kernel
theorem dL_law_1156 : decode cL_law 1156 = .ok (.iload 4, 2) := by decide +kernel
theorem dL_law_1158 : decode cL_law 1158 = .ok (.iconst 2, 1) := by decide +kernel
theorem dL_law_1159 : decode cL_law 1159 = .ok (.iadd, 1) := by decide +kernel
theorem dL_law_1160 : decode cL_law 1160 = .ok (.iaload, 1) := by decide +kernel
theorem dL_law_1161 : decode cL_law 1161 = .ok (.aload_n 0, 1) := by decide +kernel
theorem dL_law_1162 : decode cL_law 1162 = .ok (.iload 4, 2) := by decide +kernel
theorem dL_law_1164 : decode cL_law 1164 = .ok (.iconst 3, 1) := by decide +kernel
theorem dL_law_1165 : decode cL_law 1165 = .ok (.iadd, 1) := by decide +kernel
theorem dL_law_1166 : decode cL_law 1166 = .ok (.iaload, 1) := by decide +kernel
theorem dL_law_1167 : decode cL_law 1167 = .ok (.invokevirtual 133, 3) := by decide +kernel
theorem dL_law_1170 : decode cL_law 1170 = .ok (.aload_n 2, 1) := by decide +kernel
theorem dL_law_1171 : decode cL_law 1171 = .ok (.aload_n 0, 1) := by decide +kernel
theorem dL_law_1172 : decode cL_law 1172 = .ok (.iload 4, 2) := by decide +kernel
theorem dL_law_1174 : decode cL_law 1174 = .ok (.iconst 1, 1) := by decide +kernel
theorem dL_law_1175 : decode cL_law 1175 = .ok (.iadd, 1) := by decide +kernel
theorem dL_law_1176 : decode cL_law 1176 = .ok (.iaload, 1) := by decide +kernel
theorem dL_law_1177 : decode cL_law 1177 = .ok (.aload_n 0, 1) := by decide +kernel
theorem dL_law_1178 : decode cL_law 1178 = .ok (.iload 4, 2) := by decide +kernel
theorem dL_law_1180 : decode cL_law 1180 = .ok (.iconst 2, 1) := by decide +kernel
theorem dL_law_1181 : decode cL_law 1181 = .ok (.iadd, 1) := by decide +kernel
theorem dL_law_1182 : decode cL_law 1182 = .ok (.iaload, 1) := by decide +kernel
theorem dL_law_1183 : decode cL_law 1183 = .ok (.aload_n 0, 1) := by decide +kernel
theorem dL_law_1184 : decode cL_law 1184 = .ok (.iload 4, 2) := by decide +kernel
theorem dL_law_1186 : decode cL_law 1186 = .ok (.iconst 3, 1) := by decide +kernel
theorem dL_law_1187 : decode cL_law 1187 = .ok (.iadd, 1) := by decide +kernel
theorem dL_law_1188 : decode cL_law 1188 = .ok (.iaload, 1) := by decide +kernel
theorem dL_law_1189 : decode cL_law 1189 = .ok (.invokevirtual 136, 3) := by decide +kernel
theorem dL_law_1192 : decode cL_law 1192 = .ok (.if_icmp .eq 734, 3) := by decide +kernel
theorem dL_law_1195 : decode cL_law 1195 = .ok (.iconst 0, 1) := by decide +kernel
theorem dL_law_1196 : decode cL_law 1196 = .ok (.ireturn, 1) := by decide +kernel
theorem dL_law_1197 : decode cL_law 1197 = .ok (.aload_n 1, 1) := by decide +kernel
theorem dL_law_1198 : decode cL_law 1198 = .ok (.aload_n 0, 1) := by decide +kernel
theorem dL_law_1199 : decode cL_law 1199 = .ok (.iload 4, 2) := by decide +kernel
theorem dL_law_1201 : decode cL_law 1201 = .ok (.iconst 1, 1) := by decide +kernel
theorem dL_law_1202 : decode cL_law 1202 = .ok (.iadd, 1) := by decide +kernel
theorem dL_law_1203 : decode cL_law 1203 = .ok (.iaload, 1) := by decide +kernel
theorem dL_law_1204 : decode cL_law 1204 = .ok (.aload_n 0, 1) := by decide +kernel
theorem dL_law_1205 : decode cL_law 1205 = .ok (.iload 4, 2) := by decide +kernel
theorem dL_law_1207 : decode cL_law 1207 = .ok (.iconst 2, 1) := by decide +kernel
theorem dL_law_1208 : decode cL_law 1208 = .ok (.iadd, 1) := by decide +kernel
theorem dL_law_1209 : decode cL_law 1209 = .ok (.iaload, 1) := by decide +kernel
theorem dL_law_1210 : decode cL_law 1210 = .ok (.invokevirtual 137, 3) := by decide +kernel
theorem dL_law_1213 : decode cL_law 1213 = .ok (.aload_n 2, 1) := by decide +kernel
theorem dL_law_1214 : decode cL_law 1214 = .ok (.aload_n 0, 1) := by decide +kernel
theorem dL_law_1215 : decode cL_law 1215 = .ok (.iload 4, 2) := by decide +kernel
theorem dL_law_1217 : decode cL_law 1217 = .ok (.iconst 1, 1) := by decide +kernel
theorem dL_law_1218 : decode cL_law 1218 = .ok (.iadd, 1) := by decide +kernel
theorem dL_law_1219 : decode cL_law 1219 = .ok (.iaload, 1) := by decide +kernel
theorem dL_law_1220 : decode cL_law 1220 = .ok (.aload_n 0, 1) := by decide +kernel
theorem dL_law_1221 : decode cL_law 1221 = .ok (.iload 4, 2) := by decide +kernel
theorem dL_law_1223 : decode cL_law 1223 = .ok (.iconst 2, 1) := by decide +kernel
theorem dL_law_1224 : decode cL_law 1224 = .ok (.iadd, 1) := by decide +kernel
theorem dL_law_1225 : decode cL_law 1225 = .ok (.iaload, 1) := by decide +kernel
theorem dL_law_1226 : decode cL_law 1226 = .ok (.invokevirtual 140, 3) := by decide +kernel
theorem dL_law_1229 : decode cL_law 1229 = .ok (.if_icmp .eq 697, 3) := by decide +kernel
theorem dL_law_1232 : decode cL_law 1232 = .ok (.iconst 0, 1) := by decide +kernel
theorem dL_law_1233 : decode cL_law 1233 = .ok (.ireturn, 1) := by decide +kernel
theorem dL_law_1234 : decode cL_law 1234 = .ok (.aload_n 1, 1) := by decide +kernel
theorem dL_law_1235 : decode cL_law 1235 = .ok (.aload_n 0, 1) := by decide +kernel
theorem dL_law_1236 : decode cL_law 1236 = .ok (.iload 4, 2) := by decide +kernel
theorem dL_law_1238 : decode cL_law 1238 = .ok (.iconst 1, 1) := by decide +kernel
theorem dL_law_1239 : decode cL_law 1239 = .ok (.iadd, 1) := by decide +kernel
theorem dL_law_1240 : decode cL_law 1240 = .ok (.iaload, 1) := by decide +kernel
theorem dL_law_1241 : decode cL_law 1241 = .ok (.aload_n 0, 1) := by decide +kernel
theorem dL_law_1242 : decode cL_law 1242 = .ok (.iload 4, 2) := by decide +kernel
theorem dL_law_1244 : decode cL_law 1244 = .ok (.iconst 2, 1) := by decide +kernel
theorem dL_law_1245 : decode cL_law 1245 = .ok (.iadd, 1) := by decide +kernel
theorem dL_law_1246 : decode cL_law 1246 = .ok (.iaload, 1) := by decide +kernel
theorem dL_law_1247 : decode cL_law 1247 = .ok (.aload_n 0, 1) := by decide +kernel
theorem dL_law_1248 : decode cL_law 1248 = .ok (.iload 4, 2) := by decide +kernel
theorem dL_law_1250 : decode cL_law 1250 = .ok (.iconst 3, 1) := by decide +kernel
theorem dL_law_1251 : decode cL_law 1251 = .ok (.iadd, 1) := by decide +kernel
theorem dL_law_1252 : decode cL_law 1252 = .ok (.iaload, 1) := by decide +kernel
theorem dL_law_1253 : decode cL_law 1253 = .ok (.aload_n 0, 1) := by decide +kernel
theorem dL_law_1254 : decode cL_law 1254 = .ok (.iload 4, 2) := by decide +kernel
theorem dL_law_1256 : decode cL_law 1256 = .ok (.iconst 4, 1) := by decide +kernel
theorem dL_law_1257 : decode cL_law 1257 = .ok (.iadd, 1) := by decide +kernel
theorem dL_law_1258 : decode cL_law 1258 = .ok (.iaload, 1) := by decide +kernel
theorem dL_law_1259 : decode cL_law 1259 = .ok (.aload_n 0, 1) := by decide +kernel
theorem dL_law_1260 : decode cL_law 1260 = .ok (.iload 4, 2) := by decide +kernel
theorem dL_law_1262 : decode cL_law 1262 = .ok (.iconst 5, 1) := by decide +kernel
theorem dL_law_1263 : decode cL_law 1263 = .ok (.iadd, 1) := by decide +kernel
theorem dL_law_1264 : decode cL_law 1264 = .ok (.iaload, 1) := by decide +kernel
theorem dL_law_1265 : decode cL_law 1265 = .ok (.invokevirtual 141, 3) := by decide +kernel
theorem dL_law_1268 : decode cL_law 1268 = .ok (.aload_n 2, 1) := by decide +kernel
theorem dL_law_1269 : decode cL_law 1269 = .ok (.aload_n 0, 1) := by decide +kernel
theorem dL_law_1270 : decode cL_law 1270 = .ok (.iload 4, 2) := by decide +kernel
theorem dL_law_1272 : decode cL_law 1272 = .ok (.iconst 1, 1) := by decide +kernel
theorem dL_law_1273 : decode cL_law 1273 = .ok (.iadd, 1) := by decide +kernel
theorem dL_law_1274 : decode cL_law 1274 = .ok (.iaload, 1) := by decide +kernel
theorem dL_law_1275 : decode cL_law 1275 = .ok (.aload_n 0, 1) := by decide +kernel
theorem dL_law_1276 : decode cL_law 1276 = .ok (.iload 4, 2) := by decide +kernel
theorem dL_law_1278 : decode cL_law 1278 = .ok (.iconst 2, 1) := by decide +kernel
theorem dL_law_1279 : decode cL_law 1279 = .ok (.iadd, 1) := by decide +kernel
theorem dL_law_1280 : decode cL_law 1280 = .ok (.iaload, 1) := by decide +kernel
theorem dL_law_1281 : decode cL_law 1281 = .ok (.aload_n 0, 1) := by decide +kernel
theorem dL_law_1282 : decode cL_law 1282 = .ok (.iload 4, 2) := by decide +kernel
theorem dL_law_1284 : decode cL_law 1284 = .ok (.iconst 3, 1) := by decide +kernel
theorem dL_law_1285 : decode cL_law 1285 = .ok (.iadd, 1) := by decide +kernel
theorem dL_law_1286 : decode cL_law 1286 = .ok (.iaload, 1) := by decide +kernel
theorem dL_law_1287 : decode cL_law 1287 = .ok (.aload_n 0, 1) := by decide +kernel
theorem dL_law_1288 : decode cL_law 1288 = .ok (.iload 4, 2) := by decide +kernel
theorem dL_law_1290 : decode cL_law 1290 = .ok (.iconst 4, 1) := by decide +kernel
theorem dL_law_1291 : decode cL_law 1291 = .ok (.iadd, 1) := by decide +kernel
theorem dL_law_1292 : decode cL_law 1292 = .ok (.iaload, 1) := by decide +kernel
theorem dL_law_1293 : decode cL_law 1293 = .ok (.aload_n 0, 1) := by decide +kernel
theorem dL_law_1294 : decode cL_law 1294 = .ok (.iload 4, 2) := by decide +kernel
theorem dL_law_1296 : decode cL_law 1296 = .ok (.iconst 5, 1) := by decide +kernel
theorem dL_law_1297 : decode cL_law 1297 = .ok (.iadd, 1) := by decide +kernel
theorem dL_law_1298 : decode cL_law 1298 = .ok (.iaload, 1) := by decide +kernel
theorem dL_law_1299 : decode cL_law 1299 = .ok (.invokevirtual 144, 3) := by decide +kernel
theorem dL_law_1302 : decode cL_law 1302 = .ok (.if_icmp .eq 624, 3) := by decide +kernel
theorem dL_law_1305 : decode cL_law 1305 = .ok (.iconst 0, 1) := by decide +kernel
theorem dL_law_1306 : decode cL_law 1306 = .ok (.ireturn, 1) := by decide +kernel
theorem dL_law_1307 : decode cL_law 1307 = .ok (.aload_n 1, 1) := by decide +kernel
theorem dL_law_1308 : decode cL_law 1308 = .ok (.aload_n 0, 1) := by decide +kernel
theorem dL_law_1309 : decode cL_law 1309 = .ok (.iload 4, 2) := by decide +kernel
theorem dL_law_1311 : decode cL_law 1311 = .ok (.iconst 1, 1) := by decide +kernel
theorem dL_law_1312 : decode cL_law 1312 = .ok (.iadd, 1) := by decide +kernel
theorem dL_law_1313 : decode cL_law 1313 = .ok (.iaload, 1) := by decide +kernel
theorem dL_law_1314 : decode cL_law 1314 = .ok (.aload_n 0, 1) := by decide +kernel
theorem dL_law_1315 : decode cL_law 1315 = .ok (.iload 4, 2) := by decide +kernel
theorem dL_law_1317 : decode cL_law 1317 = .ok (.iconst 2, 1) := by decide +kernel
theorem dL_law_1318 : decode cL_law 1318 = .ok (.iadd, 1) := by decide +kernel
theorem dL_law_1319 : decode cL_law 1319 = .ok (.iaload, 1) := by decide +kernel
theorem dL_law_1320 : decode cL_law 1320 = .ok (.aload_n 0, 1) := by decide +kernel
theorem dL_law_1321 : decode cL_law 1321 = .ok (.iload 4, 2) := by decide +kernel
theorem dL_law_1323 : decode cL_law 1323 = .ok (.iconst 3, 1) := by decide +kernel
theorem dL_law_1324 : decode cL_law 1324 = .ok (.iadd, 1) := by decide +kernel
theorem dL_law_1325 : decode cL_law 1325 = .ok (.iaload, 1) := by decide +kernel
theorem dL_law_1326 : decode cL_law 1326 = .ok (.invokevirtual 145, 3) := by decide +kernel
theorem dL_law_1329 : decode cL_law 1329 = .ok (.aload_n 2, 1) := by decide +kernel
theorem dL_law_1330 : decode cL_law 1330 = .ok (.aload_n 0, 1) := by decide +kernel
theorem dL_law_1331 : decode cL_law 1331 = .ok (.iload 4, 2) := by decide +kernel
theorem dL_law_1333 : decode cL_law 1333 = .ok (.iconst 1, 1) := by decide +kernel
theorem dL_law_1334 : decode cL_law 1334 = .ok (.iadd, 1) := by decide +kernel
theorem dL_law_1335 : decode cL_law 1335 = .ok (.iaload, 1) := by decide +kernel
theorem dL_law_1336 : decode cL_law 1336 = .ok (.aload_n 0, 1) := by decide +kernel
theorem dL_law_1337 : decode cL_law 1337 = .ok (.iload 4, 2) := by decide +kernel
theorem dL_law_1339 : decode cL_law 1339 = .ok (.iconst 2, 1) := by decide +kernel
theorem dL_law_1340 : decode cL_law 1340 = .ok (.iadd, 1) := by decide +kernel
theorem dL_law_1341 : decode cL_law 1341 = .ok (.iaload, 1) := by decide +kernel
theorem dL_law_1342 : decode cL_law 1342 = .ok (.aload_n 0, 1) := by decide +kernel
theorem dL_law_1343 : decode cL_law 1343 = .ok (.iload 4, 2) := by decide +kernel
theorem dL_law_1345 : decode cL_law 1345 = .ok (.iconst 3, 1) := by decide +kernel
theorem dL_law_1346 : decode cL_law 1346 = .ok (.iadd, 1) := by decide +kernel
theorem dL_law_1347 : decode cL_law 1347 = .ok (.iaload, 1) := by decide +kernel
theorem dL_law_1348 : decode cL_law 1348 = .ok (.invokevirtual 148, 3) := by decide +kernel
theorem dL_law_1351 : decode cL_law 1351 = .ok (.if_icmp .eq 575, 3) := by decide +kernel
theorem dL_law_1354 : decode cL_law 1354 = .ok (.iconst 0, 1) := by decide +kernel
theorem dL_law_1355 : decode cL_law 1355 = .ok (.ireturn, 1) := by decide +kernel
theorem dL_law_1356 : decode cL_law 1356 = .ok (.aload_n 1, 1) := by decide +kernel
theorem dL_law_1357 : decode cL_law 1357 = .ok (.aload_n 0, 1) := by decide +kernel
theorem dL_law_1358 : decode cL_law 1358 = .ok (.iload 4, 2) := by decide +kernel
theorem dL_law_1360 : decode cL_law 1360 = .ok (.iconst 1, 1) := by decide +kernel
theorem dL_law_1361 : decode cL_law 1361 = .ok (.iadd, 1) := by decide +kernel
theorem dL_law_1362 : decode cL_law 1362 = .ok (.iaload, 1) := by decide +kernel
theorem dL_law_1363 : decode cL_law 1363 = .ok (.aload_n 0, 1) := by decide +kernel
theorem dL_law_1364 : decode cL_law 1364 = .ok (.iload 4, 2) := by decide +kernel
theorem dL_law_1366 : decode cL_law 1366 = .ok (.iconst 2, 1) := by decide +kernel
theorem dL_law_1367 : decode cL_law 1367 = .ok (.iadd, 1) := by decide +kernel
theorem dL_law_1368 : decode cL_law 1368 = .ok (.iaload, 1) := by decide +kernel
theorem dL_law_1369 : decode cL_law 1369 = .ok (.aload_n 0, 1) := by decide +kernel
theorem dL_law_1370 : decode cL_law 1370 = .ok (.iload 4, 2) := by decide +kernel
theorem dL_law_1372 : decode cL_law 1372 = .ok (.iconst 3, 1) := by decide +kernel
theorem dL_law_1373 : decode cL_law 1373 = .ok (.iadd, 1) := by decide +kernel
theorem dL_law_1374 : decode cL_law 1374 = .ok (.iaload, 1) := by decide +kernel
theorem dL_law_1375 : decode cL_law 1375 = .ok (.invokevirtual 149, 3) := by decide +kernel
theorem dL_law_1378 : decode cL_law 1378 = .ok (.aload_n 2, 1) := by decide +kernel
theorem dL_law_1379 : decode cL_law 1379 = .ok (.aload_n 0, 1) := by decide +kernel
theorem dL_law_1380 : decode cL_law 1380 = .ok (.iload 4, 2) := by decide +kernel
theorem dL_law_1382 : decode cL_law 1382 = .ok (.iconst 1, 1) := by decide +kernel
theorem dL_law_1383 : decode cL_law 1383 = .ok (.iadd, 1) := by decide +kernel
theorem dL_law_1384 : decode cL_law 1384 = .ok (.iaload, 1) := by decide +kernel
theorem dL_law_1385 : decode cL_law 1385 = .ok (.aload_n 0, 1) := by decide +kernel
theorem dL_law_1386 : decode cL_law 1386 = .ok (.iload 4, 2) := by decide +kernel
theorem dL_law_1388 : decode cL_law 1388 = .ok (.iconst 2, 1) := by decide +kernel
theorem dL_law_1389 : decode cL_law 1389 = .ok (.iadd, 1) := by decide +kernel
theorem dL_law_1390 : decode cL_law 1390 = .ok (.iaload, 1) := by decide +kernel
theorem dL_law_1391 : decode cL_law 1391 = .ok (.aload_n 0, 1) := by decide +kernel
theorem dL_law_1392 : decode cL_law 1392 = .ok (.iload 4, 2) := by decide +kernel
theorem dL_law_1394 : decode cL_law 1394 = .ok (.iconst 3, 1) := by decide +kernel
theorem dL_law_1395 : decode cL_law 1395 = .ok (.iadd, 1) := by decide +kernel
theorem dL_law_1396 : decode cL_law 1396 = .ok (.iaload, 1) := by decide +kernel
theorem dL_law_1397 : decode cL_law 1397 = .ok (.invokevirtual 152, 3) := by decide +kernel
theorem dL_law_1400 : decode cL_law 1400 = .ok (.if_icmp .eq 526, 3) := by decide +kernel
theorem dL_law_1403 : decode cL_law 1403 = .ok (.iconst 0, 1) := by decide +kernel
theorem dL_law_1404 : decode cL_law 1404 = .ok (.ireturn, 1) := by decide +kernel
theorem dL_law_1405 : decode cL_law 1405 = .ok (.aload_n 1, 1) := by decide +kernel
theorem dL_law_1406 : decode cL_law 1406 = .ok (.aload_n 0, 1) := by decide +kernel
theorem dL_law_1407 : decode cL_law 1407 = .ok (.iload 4, 2) := by decide +kernel
theorem dL_law_1409 : decode cL_law 1409 = .ok (.iconst 1, 1) := by decide +kernel
theorem dL_law_1410 : decode cL_law 1410 = .ok (.iadd, 1) := by decide +kernel
theorem dL_law_1411 : decode cL_law 1411 = .ok (.iaload, 1) := by decide +kernel
theorem dL_law_1412 : decode cL_law 1412 = .ok (.aload_n 0, 1) := by decide +kernel
theorem dL_law_1413 : decode cL_law 1413 = .ok (.iload 4, 2) := by decide +kernel
theorem dL_law_1415 : decode cL_law 1415 = .ok (.iconst 2, 1) := by decide +kernel
theorem dL_law_1416 : decode cL_law 1416 = .ok (.iadd, 1) := by decide +kernel
theorem dL_law_1417 : decode cL_law 1417 = .ok (.iaload, 1) := by decide +kernel
theorem dL_law_1418 : decode cL_law 1418 = .ok (.aload_n 0, 1) := by decide +kernel
theorem dL_law_1419 : decode cL_law 1419 = .ok (.iload 4, 2) := by decide +kernel
theorem dL_law_1421 : decode cL_law 1421 = .ok (.iconst 3, 1) := by decide +kernel
theorem dL_law_1422 : decode cL_law 1422 = .ok (.iadd, 1) := by decide +kernel
theorem dL_law_1423 : decode cL_law 1423 = .ok (.iaload, 1) := by decide +kernel
theorem dL_law_1424 : decode cL_law 1424 = .ok (.aload_n 0, 1) := by decide +kernel
theorem dL_law_1425 : decode cL_law 1425 = .ok (.iload 4, 2) := by decide +kernel
theorem dL_law_1427 : decode cL_law 1427 = .ok (.iconst 4, 1) := by decide +kernel
theorem dL_law_1428 : decode cL_law 1428 = .ok (.iadd, 1) := by decide +kernel
theorem dL_law_1429 : decode cL_law 1429 = .ok (.iaload, 1) := by decide +kernel
theorem dL_law_1430 : decode cL_law 1430 = .ok (.invokevirtual 153, 3) := by decide +kernel
theorem dL_law_1433 : decode cL_law 1433 = .ok (.aload_n 2, 1) := by decide +kernel
theorem dL_law_1434 : decode cL_law 1434 = .ok (.aload_n 0, 1) := by decide +kernel
theorem dL_law_1435 : decode cL_law 1435 = .ok (.iload 4, 2) := by decide +kernel
theorem dL_law_1437 : decode cL_law 1437 = .ok (.iconst 1, 1) := by decide +kernel
theorem dL_law_1438 : decode cL_law 1438 = .ok (.iadd, 1) := by decide +kernel
theorem dL_law_1439 : decode cL_law 1439 = .ok (.iaload, 1) := by decide +kernel
theorem dL_law_1440 : decode cL_law 1440 = .ok (.aload_n 0, 1) := by decide +kernel
theorem dL_law_1441 : decode cL_law 1441 = .ok (.iload 4, 2) := by decide +kernel
theorem dL_law_1443 : decode cL_law 1443 = .ok (.iconst 2, 1) := by decide +kernel
theorem dL_law_1444 : decode cL_law 1444 = .ok (.iadd, 1) := by decide +kernel
theorem dL_law_1445 : decode cL_law 1445 = .ok (.iaload, 1) := by decide +kernel
theorem dL_law_1446 : decode cL_law 1446 = .ok (.aload_n 0, 1) := by decide +kernel
theorem dL_law_1447 : decode cL_law 1447 = .ok (.iload 4, 2) := by decide +kernel
theorem dL_law_1449 : decode cL_law 1449 = .ok (.iconst 3, 1) := by decide +kernel
theorem dL_law_1450 : decode cL_law 1450 = .ok (.iadd, 1) := by decide +kernel
theorem dL_law_1451 : decode cL_law 1451 = .ok (.iaload, 1) := by decide +kernel
theorem dL_law_1452 : decode cL_law 1452 = .ok (.aload_n 0, 1) := by decide +kernel
theorem dL_law_1453 : decode cL_law 1453 = .ok (.iload 4, 2) := by decide +kernel
theorem dL_law_1455 : decode cL_law 1455 = .ok (.iconst 4, 1) := by decide +kernel
theorem dL_law_1456 : decode cL_law 1456 = .ok (.iadd, 1) := by decide +kernel
theorem dL_law_1457 : decode cL_law 1457 = .ok (.iaload, 1) := by decide +kernel
theorem dL_law_1458 : decode cL_law 1458 = .ok (.invokevirtual 157, 3) := by decide +kernel
theorem dL_law_1461 : decode cL_law 1461 = .ok (.if_icmp .eq 465, 3) := by decide +kernel
theorem dL_law_1464 : decode cL_law 1464 = .ok (.iconst 0, 1) := by decide +kernel
theorem dL_law_1465 : decode cL_law 1465 = .ok (.ireturn, 1) := by decide +kernel
theorem dL_law_1466 : decode cL_law 1466 = .ok (.aload_n 1, 1) := by decide +kernel
theorem dL_law_1467 : decode cL_law 1467 = .ok (.aload_n 0, 1) := by decide +kernel
theorem dL_law_1468 : decode cL_law 1468 = .ok (.iload 4, 2) := by decide +kernel
theorem dL_law_1470 : decode cL_law 1470 = .ok (.iconst 1, 1) := by decide +kernel
theorem dL_law_1471 : decode cL_law 1471 = .ok (.iadd, 1) := by decide +kernel
theorem dL_law_1472 : decode cL_law 1472 = .ok (.iaload, 1) := by decide +kernel
theorem dL_law_1473 : decode cL_law 1473 = .ok (.aload_n 0, 1) := by decide +kernel
theorem dL_law_1474 : decode cL_law 1474 = .ok (.iload 4, 2) := by decide +kernel
theorem dL_law_1476 : decode cL_law 1476 = .ok (.iconst 2, 1) := by decide +kernel
theorem dL_law_1477 : decode cL_law 1477 = .ok (.iadd, 1) := by decide +kernel
theorem dL_law_1478 : decode cL_law 1478 = .ok (.iaload, 1) := by decide +kernel
theorem dL_law_1479 : decode cL_law 1479 = .ok (.invokevirtual 158, 3) := by decide +kernel
theorem dL_law_1482 : decode cL_law 1482 = .ok (.aload_n 2, 1) := by decide +kernel
theorem dL_law_1483 : decode cL_law 1483 = .ok (.aload_n 0, 1) := by decide +kernel
theorem dL_law_1484 : decode cL_law 1484 = .ok (.iload 4, 2) := by decide +kernel
theorem dL_law_1486 : decode cL_law 1486 = .ok (.iconst 1, 1) := by decide +kernel
theorem dL_law_1487 : decode cL_law 1487 = .ok (.iadd, 1) := by decide +kernel
theorem dL_law_1488 : decode cL_law 1488 = .ok (.iaload, 1) := by decide +kernel
theorem dL_law_1489 : decode cL_law 1489 = .ok (.aload_n 0, 1) := by decide +kernel
theorem dL_law_1490 : decode cL_law 1490 = .ok (.iload 4, 2) := by decide +kernel
theorem dL_law_1492 : decode cL_law 1492 = .ok (.iconst 2, 1) := by decide +kernel
theorem dL_law_1493 : decode cL_law 1493 = .ok (.iadd, 1) := by decide +kernel
theorem dL_law_1494 : decode cL_law 1494 = .ok (.iaload, 1) := by decide +kernel
theorem dL_law_1495 : decode cL_law 1495 = .ok (.invokevirtual 161, 3) := by decide +kernel
theorem dL_law_1498 : decode cL_law 1498 = .ok (.if_icmp .eq 428, 3) := by decide +kernel
theorem dL_law_1501 : decode cL_law 1501 = .ok (.iconst 0, 1) := by decide +kernel
theorem dL_law_1502 : decode cL_law 1502 = .ok (.ireturn, 1) := by decide +kernel
theorem dL_law_1503 : decode cL_law 1503 = .ok (.aload_n 1, 1) := by decide +kernel
theorem dL_law_1504 : decode cL_law 1504 = .ok (.aload_n 0, 1) := by decide +kernel
theorem dL_law_1505 : decode cL_law 1505 = .ok (.iload 4, 2) := by decide +kernel
theorem dL_law_1507 : decode cL_law 1507 = .ok (.iconst 1, 1) := by decide +kernel
theorem dL_law_1508 : decode cL_law 1508 = .ok (.iadd, 1) := by decide +kernel
theorem dL_law_1509 : decode cL_law 1509 = .ok (.iaload, 1) := by decide +kernel
theorem dL_law_1510 : decode cL_law 1510 = .ok (.invokevirtual 162, 3) := by decide +kernel
theorem dL_law_1513 : decode cL_law 1513 = .ok (.aload_n 2, 1) := by decide +kernel
theorem dL_law_1514 : decode cL_law 1514 = .ok (.aload_n 0, 1) := by decide +kernel
theorem dL_law_1515 : decode cL_law 1515 = .ok (.iload 4, 2) := by decide +kernel
theorem dL_law_1517 : decode cL_law 1517 = .ok (.iconst 1, 1) := by decide +kernel
theorem dL_law_1518 : decode cL_law 1518 = .ok (.iadd, 1) := by decide +kernel
theorem dL_law_1519 : decode cL_law 1519 = .ok (.iaload, 1) := by decide +kernel
theorem dL_law_1520 : decode cL_law 1520 = .ok (.invokevirtual 165, 3) := by decide +kernel
theorem dL_law_1523 : decode cL_law 1523 = .ok (.if_icmp .eq 403, 3) := by decide +kernel
theorem dL_law_1526 : decode cL_law 1526 = .ok (.iconst 0, 1) := by decide +kernel
theorem dL_law_1527 : decode cL_law 1527 = .ok (.ireturn, 1) := by decide +kernel
theorem dL_law_1528 : decode cL_law 1528 = .ok (.aload_n 1, 1) := by decide +kernel
theorem dL_law_1529 : decode cL_law 1529 = .ok (.aload_n 0, 1) := by decide +kernel
theorem dL_law_1530 : decode cL_law 1530 = .ok (.iload 4, 2) := by decide +kernel
theorem dL_law_1532 : decode cL_law 1532 = .ok (.iconst 1, 1) := by decide +kernel
theorem dL_law_1533 : decode cL_law 1533 = .ok (.iadd, 1) := by decide +kernel
theorem dL_law_1534 : decode cL_law 1534 = .ok (.iaload, 1) := by decide +kernel
theorem dL_law_1535 : decode cL_law 1535 = .ok (.aload_n 0, 1) := by decide +kernel
theorem dL_law_1536 : decode cL_law 1536 = .ok (.iload 4, 2) := by decide +kernel
theorem dL_law_1538 : decode cL_law 1538 = .ok (.iconst 2, 1) := by decide +kernel
theorem dL_law_1539 : decode cL_law 1539 = .ok (.iadd, 1) := by decide +kernel
theorem dL_law_1540 : decode cL_law 1540 = .ok (.iaload, 1) := by decide +kernel
theorem dL_law_1541 : decode cL_law 1541 = .ok (.invokevirtual 166, 3) := by decide +kernel
theorem dL_law_1544 : decode cL_law 1544 = .ok (.aload_n 2, 1) := by decide +kernel
theorem dL_law_1545 : decode cL_law 1545 = .ok (.aload_n 0, 1) := by decide +kernel
theorem dL_law_1546 : decode cL_law 1546 = .ok (.iload 4, 2) := by decide +kernel
theorem dL_law_1548 : decode cL_law 1548 = .ok (.iconst 1, 1) := by decide +kernel
theorem dL_law_1549 : decode cL_law 1549 = .ok (.iadd, 1) := by decide +kernel
theorem dL_law_1550 : decode cL_law 1550 = .ok (.iaload, 1) := by decide +kernel
theorem dL_law_1551 : decode cL_law 1551 = .ok (.aload_n 0, 1) := by decide +kernel
theorem dL_law_1552 : decode cL_law 1552 = .ok (.iload 4, 2) := by decide +kernel
theorem dL_law_1554 : decode cL_law 1554 = .ok (.iconst 2, 1) := by decide +kernel
theorem dL_law_1555 : decode cL_law 1555 = .ok (.iadd, 1) := by decide +kernel
theorem dL_law_1556 : decode cL_law 1556 = .ok (.iaload, 1) := by decide +kernel
theorem dL_law_1557 : decode cL_law 1557 = .ok (.invokevirtual 169, 3) := by decide +kernel
theorem dL_law_1560 : decode cL_law 1560 = .ok (.if_icmp .eq 366, 3) := by decide +kernel
theorem dL_law_1563 : decode cL_law 1563 = .ok (.iconst 0, 1) := by decide +kernel
theorem dL_law_1564 : decode cL_law 1564 = .ok (.ireturn, 1) := by decide +kernel
theorem dL_law_1565 : decode cL_law 1565 = .ok (.aload_n 1, 1) := by decide +kernel
theorem dL_law_1566 : decode cL_law 1566 = .ok (.aload_n 0, 1) := by decide +kernel
theorem dL_law_1567 : decode cL_law 1567 = .ok (.iload 4, 2) := by decide +kernel
theorem dL_law_1569 : decode cL_law 1569 = .ok (.iconst 1, 1) := by decide +kernel
theorem dL_law_1570 : decode cL_law 1570 = .ok (.iadd, 1) := by decide +kernel
theorem dL_law_1571 : decode cL_law 1571 = .ok (.iaload, 1) := by decide +kernel
theorem dL_law_1572 : decode cL_law 1572 = .ok (.aload_n 0, 1) := by decide +kernel
theorem dL_law_1573 : decode cL_law 1573 = .ok (.iload 4, 2) := by decide +kernel
theorem dL_law_1575 : decode cL_law 1575 = .ok (.iconst 2, 1) := by decide +kernel
theorem dL_law_1576 : decode cL_law 1576 = .ok (.iadd, 1) := by decide +kernel
theorem dL_law_1577 : decode cL_law 1577 = .ok (.iaload, 1) := by decide +kernel
theorem dL_law_1578 : decode cL_law 1578 = .ok (.aload_n 0, 1) := by decide +kernel
theorem dL_law_1579 : decode cL_law 1579 = .ok (.iload 4, 2) := by decide +kernel
theorem dL_law_1581 : decode cL_law 1581 = .ok (.iconst 3, 1) := by decide +kernel
theorem dL_law_1582 : decode cL_law 1582 = .ok (.iadd, 1) := by decide +kernel
theorem dL_law_1583 : decode cL_law 1583 = .ok (.iaload, 1) := by decide +kernel
theorem dL_law_1584 : decode cL_law 1584 = .ok (.invokevirtual 170, 3) := by decide +kernel
theorem dL_law_1587 : decode cL_law 1587 = .ok (.aload_n 2, 1) := by decide +kernel
theorem dL_law_1588 : decode cL_law 1588 = .ok (.aload_n 0, 1) := by decide +kernel
theorem dL_law_1589 : decode cL_law 1589 = .ok (.iload 4, 2) := by decide +kernel
theorem dL_law_1591 : decode cL_law 1591 = .ok (.iconst 1, 1) := by decide +kernel
theorem dL_law_1592 : decode cL_law 1592 = .ok (.iadd, 1) := by decide +kernel
theorem dL_law_1593 : decode cL_law 1593 = .ok (.iaload, 1) := by decide +kernel
theorem dL_law_1594 : decode cL_law 1594 = .ok (.aload_n 0, 1) := by decide +kernel
theorem dL_law_1595 : decode cL_law 1595 = .ok (.iload 4, 2) := by decide +kernel
theorem dL_law_1597 : decode cL_law 1597 = .ok (.iconst 2, 1) := by decide +kernel
theorem dL_law_1598 : decode cL_law 1598 = .ok (.iadd, 1) := by decide +kernel
theorem dL_law_1599 : decode cL_law 1599 = .ok (.iaload, 1) := by decide +kernel
theorem dL_law_1600 : decode cL_law 1600 = .ok (.aload_n 0, 1) := by decide +kernel
theorem dL_law_1601 : decode cL_law 1601 = .ok (.iload 4, 2) := by decide +kernel
theorem dL_law_1603 : decode cL_law 1603 = .ok (.iconst 3, 1) := by decide +kernel
theorem dL_law_1604 : decode cL_law 1604 = .ok (.iadd, 1) := by decide +kernel
theorem dL_law_1605 : decode cL_law 1605 = .ok (.iaload, 1) := by decide +kernel
theorem dL_law_1606 : decode cL_law 1606 = .ok (.invokevirtual 173, 3) := by decide +kernel
theorem dL_law_1609 : decode cL_law 1609 = .ok (.if_icmp .eq 317, 3) := by decide +kernel
theorem dL_law_1612 : decode cL_law 1612 = .ok (.iconst 0, 1) := by decide +kernel
theorem dL_law_1613 : decode cL_law 1613 = .ok (.ireturn, 1) := by decide +kernel
theorem dL_law_1614 : decode cL_law 1614 = .ok (.aload_n 1, 1) := by decide +kernel
theorem dL_law_1615 : decode cL_law 1615 = .ok (.aload_n 0, 1) := by decide +kernel
theorem dL_law_1616 : decode cL_law 1616 = .ok (.iload 4, 2) := by decide +kernel
theorem dL_law_1618 : decode cL_law 1618 = .ok (.iconst 1, 1) := by decide +kernel
theorem dL_law_1619 : decode cL_law 1619 = .ok (.iadd, 1) := by decide +kernel
theorem dL_law_1620 : decode cL_law 1620 = .ok (.iaload, 1) := by decide +kernel
theorem dL_law_1621 : decode cL_law 1621 = .ok (.invokevirtual 174, 3) := by decide +kernel
theorem dL_law_1624 : decode cL_law 1624 = .ok (.aload_n 2, 1) := by decide +kernel
theorem dL_law_1625 : decode cL_law 1625 = .ok (.aload_n 0, 1) := by decide +kernel
theorem dL_law_1626 : decode cL_law 1626 = .ok (.iload 4, 2) := by decide +kernel
theorem dL_law_1628 : decode cL_law 1628 = .ok (.iconst 1, 1) := by decide +kernel
theorem dL_law_1629 : decode cL_law 1629 = .ok (.iadd, 1) := by decide +kernel
theorem dL_law_1630 : decode cL_law 1630 = .ok (.iaload, 1) := by decide +kernel
theorem dL_law_1631 : decode cL_law 1631 = .ok (.invokevirtual 177, 3) := by decide +kernel
theorem dL_law_1634 : decode cL_law 1634 = .ok (.if_icmp .eq 292, 3) := by decide +kernel
theorem dL_law_1637 : decode cL_law 1637 = .ok (.iconst 0, 1) := by decide +kernel
theorem dL_law_1638 : decode cL_law 1638 = .ok (.ireturn, 1) := by decide +kernel
theorem dL_law_1639 : decode cL_law 1639 = .ok (.aload_n 1, 1) := by decide +kernel
theorem dL_law_1640 : decode cL_law 1640 = .ok (.aload_n 0, 1) := by decide +kernel
theorem dL_law_1641 : decode cL_law 1641 = .ok (.iload 4, 2) := by decide +kernel
theorem dL_law_1643 : decode cL_law 1643 = .ok (.iconst 1, 1) := by decide +kernel
theorem dL_law_1644 : decode cL_law 1644 = .ok (.iadd, 1) := by decide +kernel
theorem dL_law_1645 : decode cL_law 1645 = .ok (.iaload, 1) := by decide +kernel
theorem dL_law_1646 : decode cL_law 1646 = .ok (.aload_n 0, 1) := by decide +kernel
theorem dL_law_1647 : decode cL_law 1647 = .ok (.iload 4, 2) := by decide +kernel
theorem dL_law_1649 : decode cL_law 1649 = .ok (.iconst 2, 1) := by decide +kernel
theorem dL_law_1650 : decode cL_law 1650 = .ok (.iadd, 1) := by decide +kernel
theorem dL_law_1651 : decode cL_law 1651 = .ok (.iaload, 1) := by decide +kernel
theorem dL_law_1652 : decode cL_law 1652 = .ok (.invokevirtual 178, 3) := by decide +kernel
theorem dL_law_1655 : decode cL_law 1655 = .ok (.aload_n 2, 1) := by decide +kernel
theorem dL_law_1656 : decode cL_law 1656 = .ok (.aload_n 0, 1) := by decide +kernel
theorem dL_law_1657 : decode cL_law 1657 = .ok (.iload 4, 2) := by decide +kernel
theorem dL_law_1659 : decode cL_law 1659 = .ok (.iconst 1, 1) := by decide +kernel
theorem dL_law_1660 : decode cL_law 1660 = .ok (.iadd, 1) := by decide +kernel
theorem dL_law_1661 : decode cL_law 1661 = .ok (.iaload, 1) := by decide +kernel
theorem dL_law_1662 : decode cL_law 1662 = .ok (.aload_n 0, 1) := by decide +kernel
theorem dL_law_1663 : decode cL_law 1663 = .ok (.iload 4, 2) := by decide +kernel
theorem dL_law_1665 : decode cL_law 1665 = .ok (.iconst 2, 1) := by decide +kernel
theorem dL_law_1666 : decode cL_law 1666 = .ok (.iadd, 1) := by decide +kernel
theorem dL_law_1667 : decode cL_law 1667 = .ok (.iaload, 1) := by decide +kernel
theorem dL_law_1668 : decode cL_law 1668 = .ok (.invokevirtual 181, 3) := by decide +kernel
theorem dL_law_1671 : decode cL_law 1671 = .ok (.if_icmp .eq 255, 3) := by decide +kernel
theorem dL_law_1674 : decode cL_law 1674 = .ok (.iconst 0, 1) := by decide +kernel
theorem dL_law_1675 : decode cL_law 1675 = .ok (.ireturn, 1) := by decide +kernel
theorem dL_law_1676 : decode cL_law 1676 = .ok (.aload_n 1, 1) := by decide +kernel
theorem dL_law_1677 : decode cL_law 1677 = .ok (.aload_n 0, 1) := by decide +kernel
theorem dL_law_1678 : decode cL_law 1678 = .ok (.iload 4, 2) := by decide +kernel
theorem dL_law_1680 : decode cL_law 1680 = .ok (.iconst 1, 1) := by decide +kernel
theorem dL_law_1681 : decode cL_law 1681 = .ok (.iadd, 1) := by decide +kernel
theorem dL_law_1682 : decode cL_law 1682 = .ok (.iaload, 1) := by decide +kernel
theorem dL_law_1683 : decode cL_law 1683 = .ok (.invokevirtual 182, 3) := by decide +kernel
theorem dL_law_1686 : decode cL_law 1686 = .ok (.aload_n 2, 1) := by decide +kernel
theorem dL_law_1687 : decode cL_law 1687 = .ok (.aload_n 0, 1) := by decide +kernel
theorem dL_law_1688 : decode cL_law 1688 = .ok (.iload 4, 2) := by decide +kernel
theorem dL_law_1690 : decode cL_law 1690 = .ok (.iconst 1, 1) := by decide +kernel
theorem dL_law_1691 : decode cL_law 1691 = .ok (.iadd, 1) := by decide +kernel
theorem dL_law_1692 : decode cL_law 1692 = .ok (.iaload, 1) := by decide +kernel
theorem dL_law_1693 : decode cL_law 1693 = .ok (.invokevirtual 185, 3) := by decide +kernel
theorem dL_law_1696 : decode cL_law 1696 = .ok (.if_icmp .eq 230, 3) := by decide +kernel
theorem dL_law_1699 : decode cL_law 1699 = .ok (.iconst 0, 1) := by decide +kernel
theorem dL_law_1700 : decode cL_law 1700 = .ok (.ireturn, 1) := by decide +kernel
theorem dL_law_1701 : decode cL_law 1701 = .ok (.aload_n 1, 1) := by decide +kernel
theorem dL_law_1702 : decode cL_law 1702 = .ok (.aload_n 0, 1) := by decide +kernel
theorem dL_law_1703 : decode cL_law 1703 = .ok (.iload 4, 2) := by decide +kernel
theorem dL_law_1705 : decode cL_law 1705 = .ok (.iconst 1, 1) := by decide +kernel
theorem dL_law_1706 : decode cL_law 1706 = .ok (.iadd, 1) := by decide +kernel
theorem dL_law_1707 : decode cL_law 1707 = .ok (.iaload, 1) := by decide +kernel
theorem dL_law_1708 : decode cL_law 1708 = .ok (.aload_n 0, 1) := by decide +kernel
theorem dL_law_1709 : decode cL_law 1709 = .ok (.iload 4, 2) := by decide +kernel
theorem dL_law_1711 : decode cL_law 1711 = .ok (.iconst 2, 1) := by decide +kernel
theorem dL_law_1712 : decode cL_law 1712 = .ok (.iadd, 1) := by decide +kernel
theorem dL_law_1713 : decode cL_law 1713 = .ok (.iaload, 1) := by decide +kernel
theorem dL_law_1714 : decode cL_law 1714 = .ok (.invokevirtual 186, 3) := by decide +kernel
theorem dL_law_1717 : decode cL_law 1717 = .ok (.aload_n 2, 1) := by decide +kernel
theorem dL_law_1718 : decode cL_law 1718 = .ok (.aload_n 0, 1) := by decide +kernel
theorem dL_law_1719 : decode cL_law 1719 = .ok (.iload 4, 2) := by decide +kernel
theorem dL_law_1721 : decode cL_law 1721 = .ok (.iconst 1, 1) := by decide +kernel
theorem dL_law_1722 : decode cL_law 1722 = .ok (.iadd, 1) := by decide +kernel
theorem dL_law_1723 : decode cL_law 1723 = .ok (.iaload, 1) := by decide +kernel
theorem dL_law_1724 : decode cL_law 1724 = .ok (.aload_n 0, 1) := by decide +kernel
theorem dL_law_1725 : decode cL_law 1725 = .ok (.iload 4, 2) := by decide +kernel
theorem dL_law_1727 : decode cL_law 1727 = .ok (.iconst 2, 1) := by decide +kernel
theorem dL_law_1728 : decode cL_law 1728 = .ok (.iadd, 1) := by decide +kernel
theorem dL_law_1729 : decode cL_law 1729 = .ok (.iaload, 1) := by decide +kernel
theorem dL_law_1730 : decode cL_law 1730 = .ok (.invokevirtual 189, 3) := by decide +kernel
theorem dL_law_1733 : decode cL_law 1733 = .ok (.if_icmp .eq 193, 3) := by decide +kernel
theorem dL_law_1736 : decode cL_law 1736 = .ok (.iconst 0, 1) := by decide +kernel
theorem dL_law_1737 : decode cL_law 1737 = .ok (.ireturn, 1) := by decide +kernel
theorem dL_law_1738 : decode cL_law 1738 = .ok (.aload_n 1, 1) := by decide +kernel
theorem dL_law_1739 : decode cL_law 1739 = .ok (.aload_n 0, 1) := by decide +kernel
theorem dL_law_1740 : decode cL_law 1740 = .ok (.iload 4, 2) := by decide +kernel
theorem dL_law_1742 : decode cL_law 1742 = .ok (.iconst 1, 1) := by decide +kernel
theorem dL_law_1743 : decode cL_law 1743 = .ok (.iadd, 1) := by decide +kernel
theorem dL_law_1744 : decode cL_law 1744 = .ok (.iaload, 1) := by decide +kernel
theorem dL_law_1745 : decode cL_law 1745 = .ok (.invokevirtual 190, 3) := by decide +kernel
theorem dL_law_1748 : decode cL_law 1748 = .ok (.aload_n 2, 1) := by decide +kernel
theorem dL_law_1749 : decode cL_law 1749 = .ok (.aload_n 0, 1) := by decide +kernel
theorem dL_law_1750 : decode cL_law 1750 = .ok (.iload 4, 2) := by decide +kernel
theorem dL_law_1752 : decode cL_law 1752 = .ok (.iconst 1, 1) := by decide +kernel
theorem dL_law_1753 : decode cL_law 1753 = .ok (.iadd, 1) := by decide +kernel
theorem dL_law_1754 : decode cL_law 1754 = .ok (.iaload, 1) := by decide +kernel
theorem dL_law_1755 : decode cL_law 1755 = .ok (.invokevirtual 193, 3) := by decide +kernel
theorem dL_law_1758 : decode cL_law 1758 = .ok (.if_icmp .eq 168, 3) := by decide +kernel
theorem dL_law_1761 : decode cL_law 1761 = .ok (.iconst 0, 1) := by decide +kernel
theorem dL_law_1762 : decode cL_law 1762 = .ok (.ireturn, 1) := by decide +kernel
theorem dL_law_1763 : decode cL_law 1763 = .ok (.aload_n 1, 1) := by decide +kernel
theorem dL_law_1764 : decode cL_law 1764 = .ok (.aload_n 0, 1) := by decide +kernel
theorem dL_law_1765 : decode cL_law 1765 = .ok (.iload 4, 2) := by decide +kernel
theorem dL_law_1767 : decode cL_law 1767 = .ok (.iconst 1, 1) := by decide +kernel
theorem dL_law_1768 : decode cL_law 1768 = .ok (.iadd, 1) := by decide +kernel
theorem dL_law_1769 : decode cL_law 1769 = .ok (.iaload, 1) := by decide +kernel
theorem dL_law_1770 : decode cL_law 1770 = .ok (.aload_n 0, 1) := by decide +kernel
theorem dL_law_1771 : decode cL_law 1771 = .ok (.iload 4, 2) := by decide +kernel
theorem dL_law_1773 : decode cL_law 1773 = .ok (.iconst 2, 1) := by decide +kernel
theorem dL_law_1774 : decode cL_law 1774 = .ok (.iadd, 1) := by decide +kernel
theorem dL_law_1775 : decode cL_law 1775 = .ok (.iaload, 1) := by decide +kernel
theorem dL_law_1776 : decode cL_law 1776 = .ok (.invokevirtual 194, 3) := by decide +kernel
theorem dL_law_1779 : decode cL_law 1779 = .ok (.aload_n 2, 1) := by decide +kernel
theorem dL_law_1780 : decode cL_law 1780 = .ok (.aload_n 0, 1) := by decide +kernel
theorem dL_law_1781 : decode cL_law 1781 = .ok (.iload 4, 2) := by decide +kernel
theorem dL_law_1783 : decode cL_law 1783 = .ok (.iconst 1, 1) := by decide +kernel
theorem dL_law_1784 : decode cL_law 1784 = .ok (.iadd, 1) := by decide +kernel
theorem dL_law_1785 : decode cL_law 1785 = .ok (.iaload, 1) := by decide +kernel
theorem dL_law_1786 : decode cL_law 1786 = .ok (.aload_n 0, 1) := by decide +kernel
theorem dL_law_1787 : decode cL_law 1787 = .ok (.iload 4, 2) := by decide +kernel
theorem dL_law_1789 : decode cL_law 1789 = .ok (.iconst 2, 1) := by decide +kernel
theorem dL_law_1790 : decode cL_law 1790 = .ok (.iadd, 1) := by decide +kernel
theorem dL_law_1791 : decode cL_law 1791 = .ok (.iaload, 1) := by decide +kernel
theorem dL_law_1792 : decode cL_law 1792 = .ok (.invokevirtual 197, 3) := by decide +kernel
theorem dL_law_1795 : decode cL_law 1795 = .ok (.if_icmp .eq 131, 3) := by decide +kernel
theorem dL_law_1798 : decode cL_law 1798 = .ok (.iconst 0, 1) := by decide +kernel
theorem dL_law_1799 : decode cL_law 1799 = .ok (.ireturn, 1) := by decide +kernel
theorem dL_law_1800 : decode cL_law 1800 = .ok (.aload_n 1, 1) := by decide +kernel
theorem dL_law_1801 : decode cL_law 1801 = .ok (.aload_n 0, 1) := by decide +kernel
theorem dL_law_1802 : decode cL_law 1802 = .ok (.iload 4, 2) := by decide +kernel
theorem dL_law_1804 : decode cL_law 1804 = .ok (.iconst 1, 1) := by decide +kernel
theorem dL_law_1805 : decode cL_law 1805 = .ok (.iadd, 1) := by decide +kernel
theorem dL_law_1806 : decode cL_law 1806 = .ok (.iaload, 1) := by decide +kernel
theorem dL_law_1807 : decode cL_law 1807 = .ok (.aload_n 0, 1) := by decide +kernel
theorem dL_law_1808 : decode cL_law 1808 = .ok (.iload 4, 2) := by decide +kernel
theorem dL_law_1810 : decode cL_law 1810 = .ok (.iconst 2, 1) := by decide +kernel
theorem dL_law_1811 : decode cL_law 1811 = .ok (.iadd, 1) := by decide +kernel
theorem dL_law_1812 : decode cL_law 1812 = .ok (.iaload, 1) := by decide +kernel
theorem dL_law_1813 : decode cL_law 1813 = .ok (.invokevirtual 198, 3) := by decide +kernel
theorem dL_law_1816 : decode cL_law 1816 = .ok (.aload_n 2, 1) := by decide +kernel
theorem dL_law_1817 : decode cL_law 1817 = .ok (.aload_n 0, 1) := by decide +kernel
theorem dL_law_1818 : decode cL_law 1818 = .ok (.iload 4, 2) := by decide +kernel
theorem dL_law_1820 : decode cL_law 1820 = .ok (.iconst 1, 1) := by decide +kernel
theorem dL_law_1821 : decode cL_law 1821 = .ok (.iadd, 1) := by decide +kernel
theorem dL_law_1822 : decode cL_law 1822 = .ok (.iaload, 1) := by decide +kernel
theorem dL_law_1823 : decode cL_law 1823 = .ok (.aload_n 0, 1) := by decide +kernel
theorem dL_law_1824 : decode cL_law 1824 = .ok (.iload 4, 2) := by decide +kernel
theorem dL_law_1826 : decode cL_law 1826 = .ok (.iconst 2, 1) := by decide +kernel
theorem dL_law_1827 : decode cL_law 1827 = .ok (.iadd, 1) := by decide +kernel
theorem dL_law_1828 : decode cL_law 1828 = .ok (.iaload, 1) := by decide +kernel
theorem dL_law_1829 : decode cL_law 1829 = .ok (.invokevirtual 201, 3) := by decide +kernel
theorem dL_law_1832 : decode cL_law 1832 = .ok (.if_icmp .eq 94, 3) := by decide +kernel
theorem dL_law_1835 : decode cL_law 1835 = .ok (.iconst 0, 1) := by decide +kernel
theorem dL_law_1836 : decode cL_law 1836 = .ok (.ireturn, 1) := by decide +kernel
theorem dL_law_1837 : decode cL_law 1837 = .ok (.aload_n 1, 1) := by decide +kernel
theorem dL_law_1838 : decode cL_law 1838 = .ok (.aload_n 0, 1) := by decide +kernel
theorem dL_law_1839 : decode cL_law 1839 = .ok (.iload 4, 2) := by decide +kernel
theorem dL_law_1841 : decode cL_law 1841 = .ok (.iconst 1, 1) := by decide +kernel
theorem dL_law_1842 : decode cL_law 1842 = .ok (.iadd, 1) := by decide +kernel
theorem dL_law_1843 : decode cL_law 1843 = .ok (.iaload, 1) := by decide +kernel
theorem dL_law_1844 : decode cL_law 1844 = .ok (.invokevirtual 202, 3) := by decide +kernel
theorem dL_law_1847 : decode cL_law 1847 = .ok (.aload_n 2, 1) := by decide +kernel
theorem dL_law_1848 : decode cL_law 1848 = .ok (.aload_n 0, 1) := by decide +kernel
theorem dL_law_1849 : decode cL_law 1849 = .ok (.iload 4, 2) := by decide +kernel
theorem dL_law_1851 : decode cL_law 1851 = .ok (.iconst 1, 1) := by decide +kernel
theorem dL_law_1852 : decode cL_law 1852 = .ok (.iadd, 1) := by decide +kernel
theorem dL_law_1853 : decode cL_law 1853 = .ok (.iaload, 1) := by decide +kernel
theorem dL_law_1854 : decode cL_law 1854 = .ok (.invokevirtual 205, 3) := by decide +kernel
theorem dL_law_1857 : decode cL_law 1857 = .ok (.if_icmp .eq 69, 3) := by decide +kernel
theorem dL_law_1860 : decode cL_law 1860 = .ok (.iconst 0, 1) := by decide +kernel
theorem dL_law_1861 : decode cL_law 1861 = .ok (.ireturn, 1) := by decide +kernel
theorem dL_law_1862 : decode cL_law 1862 = .ok (.aload_n 1, 1) := by decide +kernel
theorem dL_law_1863 : decode cL_law 1863 = .ok (.invokevirtual 206, 3) := by decide +kernel
theorem dL_law_1866 : decode cL_law 1866 = .ok (.aload_n 2, 1) := by decide +kernel
theorem dL_law_1867 : decode cL_law 1867 = .ok (.invokevirtual 209, 3) := by decide +kernel
theorem dL_law_1870 : decode cL_law 1870 = .ok (.if_icmp .eq 56, 3) := by decide +kernel
theorem dL_law_1873 : decode cL_law 1873 = .ok (.iconst 0, 1) := by decide +kernel
theorem dL_law_1874 : decode cL_law 1874 = .ok (.ireturn, 1) := by decide +kernel
theorem dL_law_1875 : decode cL_law 1875 = .ok (.aload_n 1, 1) := by decide +kernel
theorem dL_law_1876 : decode cL_law 1876 = .ok (.invokevirtual 210, 3) := by decide +kernel
theorem dL_law_1879 : decode cL_law 1879 = .ok (.aload_n 2, 1) := by decide +kernel
theorem dL_law_1880 : decode cL_law 1880 = .ok (.invokevirtual 213, 3) := by decide +kernel
theorem dL_law_1883 : decode cL_law 1883 = .ok (.if_icmp .eq 43, 3) := by decide +kernel
theorem dL_law_1886 : decode cL_law 1886 = .ok (.iconst 0, 1) := by decide +kernel
theorem dL_law_1887 : decode cL_law 1887 = .ok (.ireturn, 1) := by decide +kernel
theorem dL_law_1888 : decode cL_law 1888 = .ok (.aload_n 1, 1) := by decide +kernel
theorem dL_law_1889 : decode cL_law 1889 = .ok (.invokevirtual 214, 3) := by decide +kernel
theorem dL_law_1892 : decode cL_law 1892 = .ok (.aload_n 2, 1) := by decide +kernel
theorem dL_law_1893 : decode cL_law 1893 = .ok (.invokevirtual 217, 3) := by decide +kernel
theorem dL_law_1896 : decode cL_law 1896 = .ok (.if_icmp .eq 30, 3) := by decide +kernel
theorem dL_law_1899 : decode cL_law 1899 = .ok (.iconst 0, 1) := by decide +kernel
theorem dL_law_1900 : decode cL_law 1900 = .ok (.ireturn, 1) := by decide +kernel
theorem dL_law_1901 : decode cL_law 1901 = .ok (.aload_n 1, 1) := by decide +kernel
theorem dL_law_1902 : decode cL_law 1902 = .ok (.aload_n 0, 1) := by decide +kernel
theorem dL_law_1903 : decode cL_law 1903 = .ok (.iload 4, 2) := by decide +kernel
theorem dL_law_1905 : decode cL_law 1905 = .ok (.iconst 1, 1) := by decide +kernel
theorem dL_law_1906 : decode cL_law 1906 = .ok (.iadd, 1) := by decide +kernel
theorem dL_law_1907 : decode cL_law 1907 = .ok (.iaload, 1) := by decide +kernel
theorem dL_law_1908 : decode cL_law 1908 = .ok (.invokevirtual 218, 3) := by decide +kernel
theorem dL_law_1911 : decode cL_law 1911 = .ok (.aload_n 2, 1) := by decide +kernel
theorem dL_law_1912 : decode cL_law 1912 = .ok (.aload_n 0, 1) := by decide +kernel
theorem dL_law_1913 : decode cL_law 1913 = .ok (.iload 4, 2) := by decide +kernel
theorem dL_law_1915 : decode cL_law 1915 = .ok (.iconst 1, 1) := by decide +kernel
theorem dL_law_1916 : decode cL_law 1916 = .ok (.iadd, 1) := by decide +kernel
theorem dL_law_1917 : decode cL_law 1917 = .ok (.iaload, 1) := by decide +kernel
theorem dL_law_1918 : decode cL_law 1918 = .ok (.invokevirtual 221, 3) := by decide +kernel
theorem dL_law_1921 : decode cL_law 1921 = .ok (.if_icmp .eq 5, 3) := by decide +kernel
theorem dL_law_1924 : decode cL_law 1924 = .ok (.iconst 0, 1) := by decide +kernel
theorem dL_law_1925 : decode cL_law 1925 = .ok (.ireturn, 1) := by decide +kernel
theorem dL_law_1926 : decode cL_law 1926 = .ok (.iinc 4 6, 3) := by decide +kernel
theorem dL_law_1929 : decode cL_law 1929 = .ok (.goto (-1906), 3) := by decide +kernel
theorem dL_law_1932 : decode cL_law 1932 = .ok (.iconst 1, 1) := by decide +kernel
theorem dL_law_1933 : decode cL_law 1933 = .ok (.ireturn, 1) := by decide +kernel
abbrev vwCl : List vw_C := [(RX0, TX0, 4), (RX1, TX1, 4), (RX2, TX2, 6), (RX3, TX3, 7), (RX4, TX4, 3), (RX5, TX5, 4), (RX6, TX6, 2), (RX7, TX7, 13), (RX8, TX8, 12), (RX9, TX9, 4), (RX10, TX10, 6), (RX11, TX11, 16), (RX12, TX12, 54)]
theorem vn_X0 : ∀ j, j < 4 → defaultValue (tyX0 j) = vp_V [.null, .int 0, .int 0, .int 0] j := fun j hj => match j, hj with | 0, _ => rfl | 1, _ => rfl | 2, _ => rfl | 3, _ => rfl | j + 4, h => absurd h (by omega)
theorem vn_X1 : ∀ j, j < 4 → defaultValue (tyX1 j) = vp_V [.null, .null, .null, .null] j := fun j hj => match j, hj with | 0, _ => rfl | 1, _ => rfl | 2, _ => rfl | 3, _ => rfl | j + 4, h => absurd h (by omega)
theorem vn_X10 : ∀ j, j < 6 → defaultValue (tyX10 j) = vp_V [.null, .null, .null, .null, .null, .null] j := fun j hj => match j, hj with | 0, _ => rfl | 1, _ => rfl | 2, _ => rfl | 3, _ => rfl | 4, _ => rfl | 5, _ => rfl | j + 6, h => absurd h (by omega)
theorem vn_X11 : ∀ j, j < 16 → defaultValue (tyX11 j) = vp_V [.null, .null, .null, .null, .null, .int 0, .null, .null, .null, .null, .null, .null, .null, .null, .null, .long 0] j := fun j hj => match j, hj with | 0, _ => rfl | 1, _ => rfl | 2, _ => rfl | 3, _ => rfl | 4, _ => rfl | 5, _ => rfl | 6, _ => rfl | 7, _ => rfl | 8, _ => rfl | 9, _ => rfl | 10, _ => rfl | 11, _ => rfl | 12, _ => rfl | 13, _ => rfl | 14, _ => rfl | 15, _ => rfl | j + 16, h => absurd h (by omega)
theorem vn_X12 : ∀ j, j < 54 → defaultValue (tyX12 j) = vp_V [.int 0, .null, .null, .null, .null, .null, .int 0, .int 0, .int 0, .int 0, .int 0, .int 0, .int 0, .int 0, .int 0, .null, .null, .int 0, .null, .null, .null, .null, .null, .null, .null, .null, .int 0, .int 0, .int 0, .int 0, .int 0, .int 0, .null, .null, .int 0, .null, .null, .null, .null, .null, .null, .int 0, .long 0, .int 0, .int 0, .null, .null, .null, .null, .null, .null, .int 0, .null, .int 0] j := fun j hj => match j, hj with | 0, _ => rfl | 1, _ => rfl | 2, _ => rfl | 3, _ => rfl | 4, _ => rfl | 5, _ => rfl | 6, _ => rfl | 7, _ => rfl | 8, _ => rfl | 9, _ => rfl | 10, _ => rfl | 11, _ => rfl | 12, _ => rfl | 13, _ => rfl | 14, _ => rfl | 15, _ => rfl | 16, _ => rfl | 17, _ => rfl | 18, _ => rfl | 19, _ => rfl | 20, _ => rfl | 21, _ => rfl | 22, _ => rfl | 23, _ => rfl | 24, _ => rfl | 25, _ => rfl | 26, _ => rfl | 27, _ => rfl | 28, _ => rfl | 29, _ => rfl | 30, _ => rfl | 31, _ => rfl | 32, _ => rfl | 33, _ => rfl | 34, _ => rfl | 35, _ => rfl | 36, _ => rfl | 37, _ => rfl | 38, _ => rfl | 39, _ => rfl | 40, _ => rfl | 41, _ => rfl | 42, _ => rfl | 43, _ => rfl | 44, _ => rfl | 45, _ => rfl | 46, _ => rfl | 47, _ => rfl | 48, _ => rfl | 49, _ => rfl | 50, _ => rfl | 51, _ => rfl | 52, _ => rfl | 53, _ => rfl | j + 54, h => absurd h (by omega)
theorem vn_X2 : ∀ j, j < 6 → defaultValue (tyX2 j) = vp_V [.null, .null, .null, .null, .null, .null] j := fun j hj => match j, hj with | 0, _ => rfl | 1, _ => rfl | 2, _ => rfl | 3, _ => rfl | 4, _ => rfl | 5, _ => rfl | j + 6, h => absurd h (by omega)
theorem vn_X3 : ∀ j, j < 7 → defaultValue (tyX3 j) = vp_V [.null, .int 0, .int 0, .null, .null, .null, .int 0] j := fun j hj => match j, hj with | 0, _ => rfl | 1, _ => rfl | 2, _ => rfl | 3, _ => rfl | 4, _ => rfl | 5, _ => rfl | 6, _ => rfl | j + 7, h => absurd h (by omega)
theorem vn_X4 : ∀ j, j < 3 → defaultValue (tyX4 j) = vp_V [.null, .int 0, .null] j := fun j hj => match j, hj with | 0, _ => rfl | 1, _ => rfl | 2, _ => rfl | j + 3, h => absurd h (by omega)
theorem vn_X5 : ∀ j, j < 4 → defaultValue (tyX5 j) = vp_V [.null, .int 0, .int 0, .null] j := fun j hj => match j, hj with | 0, _ => rfl | 1, _ => rfl | 2, _ => rfl | 3, _ => rfl | j + 4, h => absurd h (by omega)
theorem vn_X6 : ∀ j, j < 2 → defaultValue (tyX6 j) = vp_V [.null, .int 0] j := fun j hj => match j, hj with | 0, _ => rfl | 1, _ => rfl | j + 2, h => absurd h (by omega)
theorem vn_X7 : ∀ j, j < 13 → defaultValue (tyX7 j) = vp_V [.int 0, .int 0, .int 0, .int 0, .null, .null, .null, .null, .null, .null, .null, .null, .null] j := fun j hj => match j, hj with | 0, _ => rfl | 1, _ => rfl | 2, _ => rfl | 3, _ => rfl | 4, _ => rfl | 5, _ => rfl | 6, _ => rfl | 7, _ => rfl | 8, _ => rfl | 9, _ => rfl | 10, _ => rfl | 11, _ => rfl | 12, _ => rfl | j + 13, h => absurd h (by omega)
theorem vn_X8 : ∀ j, j < 12 → defaultValue (tyX8 j) = vp_V [.null, .null, .null, .null, .null, .null, .int 0, .null, .int 0, .null, .null, .null] j := fun j hj => match j, hj with | 0, _ => rfl | 1, _ => rfl | 2, _ => rfl | 3, _ => rfl | 4, _ => rfl | 5, _ => rfl | 6, _ => rfl | 7, _ => rfl | 8, _ => rfl | 9, _ => rfl | 10, _ => rfl | 11, _ => rfl | j + 12, h => absurd h (by omega)
theorem vn_X9 : ∀ j, j < 4 → defaultValue (tyX9 j) = vp_V [.null, .int 0, .int 0, .int 0] j := fun j hj => match j, hj with | 0, _ => rfl | 1, _ => rfl | 2, _ => rfl | 3, _ => rfl | j + 4, h => absurd h (by omega)
