theorem goodIn_r {big : List Cond} (ws : List Cond) (ps : List Nat) (hp : ws = ps.filterMap (fun i => big[i]?)) (h : ws.all goodWord = true) : GoodIn big ws := by
  intro w hw
  have h1 := List.all_eq_true.mp h w hw
  rw [hp] at hw
  obtain ⟨i, -, hi⟩ := List.mem_filterMap.mp hw
  have hm : w ∈ big := by first | exact List.mem_of_getElem? hi | exact List.getElem?_mem hi
  exact ⟨hm, good_of_word h1⟩
theorem goodIn_app {big a b : List Cond} (ha : GoodIn big a) (hb : GoodIn big b) : GoodIn big (a ++ b) := fun w h => (List.mem_append.mp h).elim (ha w) (hb w)
theorem goodIn_ca {big a b : List Cond} {c : Cond} (ha : GoodIn big (c :: a)) (hb : GoodIn big b) : GoodIn big (c :: (a ++ b)) := fun w h => (List.mem_cons.mp h).elim (fun e => ha w (List.mem_cons.mpr (Or.inl e))) (fun h => (List.mem_append.mp h).elim (fun h => ha w (List.mem_cons.mpr (Or.inr h))) (hb w))
theorem goodIn_sub {big ws : List Cond} (hm : ∀ w ∈ ws, w ∈ big) (h : ws.all goodWord = true) : GoodIn big ws := fun w hw => ⟨hm w hw, good_of_word (List.all_eq_true.mp h w hw)⟩
def RX0 : String := "BuoyVote$Borough"
def TX0 : u_T := fun k => match k with
  | 0 => ("BuoyVote$Borough", "values", "[I", true)
  | 1 => ("BuoyVote$Borough", "buoys", "I", false)
  | 2 => ("BuoyVote$Borough", "boats", "I", false)
  | _ => ("BuoyVote$Borough", "ruled", "Z", false)
def tyX0 : Nat → FieldType := fun k => match k with
  | 0 => .array .int
  | 1 => .int
  | 2 => .int
  | _ => .boolean
abbrev wsX00 : List Cond := u_ws RX0 TX0 4
theorem nmX0 : ∀ a, a < 4 → ∀ b, b < 4 → a ≠ b → (TX0 a).2.1 ≠ (TX0 b).2.1 := by decide +kernel
theorem tyX0_ok : ∀ k, k < 4 → parseFieldDescriptor (TX0 k).2.2.1 = some (tyX0 k) := by decide +kernel
abbrev cX0_init : ByteArray := prog_2_method_1_code
def yX0_init : MethodName := ⟨RX0, "<init>", "()V"⟩
abbrev cX0_copyFrom : ByteArray := prog_2_method_2_code
def yX0_copyFrom : MethodName := ⟨RX0, "copyFrom", "(LBuoyVote$Borough;)V"⟩
abbrev cX0_windAtFirst : ByteArray := prog_2_method_3_code
def yX0_windAtFirst : MethodName := ⟨RX0, "windAtFirst", "()I"⟩
abbrev cX0_wayAtFirst : ByteArray := prog_2_method_4_code
def yX0_wayAtFirst : MethodName := ⟨RX0, "wayAtFirst", "()I"⟩
abbrev cX0_tideHours : ByteArray := prog_2_method_5_code
def yX0_tideHours : MethodName := ⟨RX0, "tideHours", "()I"⟩
abbrev cX0_countHours : ByteArray := prog_2_method_6_code
def yX0_countHours : MethodName := ⟨RX0, "countHours", "()I"⟩
abbrev cX0_buoyX : ByteArray := prog_2_method_7_code
def yX0_buoyX : MethodName := ⟨RX0, "buoyX", "(I)I"⟩
abbrev cX0_buoyY : ByteArray := prog_2_method_8_code
def yX0_buoyY : MethodName := ⟨RX0, "buoyY", "(I)I"⟩
abbrev cX0_chain : ByteArray := prog_2_method_9_code
def yX0_chain : MethodName := ⟨RX0, "chain", "(I)I"⟩
abbrev cX0_likingAtFirst : ByteArray := prog_2_method_10_code
def yX0_likingAtFirst : MethodName := ⟨RX0, "likingAtFirst", "(II)I"⟩
abbrev cX0_oldAtFirst : ByteArray := prog_2_method_11_code
def yX0_oldAtFirst : MethodName := ⟨RX0, "oldAtFirst", "(I)I"⟩
abbrev cX0_barnaclesAtFirst : ByteArray := prog_2_method_12_code
def yX0_barnaclesAtFirst : MethodName := ⟨RX0, "barnaclesAtFirst", "(I)I"⟩
abbrev cX0_boatX : ByteArray := prog_2_method_13_code
def yX0_boatX : MethodName := ⟨RX0, "boatX", "(I)I"⟩
abbrev cX0_boatY : ByteArray := prog_2_method_14_code
def yX0_boatY : MethodName := ⟨RX0, "boatY", "(I)I"⟩
abbrev cX0_speed : ByteArray := prog_2_method_15_code
def yX0_speed : MethodName := ⟨RX0, "speed", "(I)I"⟩
abbrev cX0_voice : ByteArray := prog_2_method_16_code
def yX0_voice : MethodName := ⟨RX0, "voice", "(I)I"⟩
abbrev cX0_faultOf : ByteArray := prog_2_method_17_code
def yX0_faultOf : MethodName := ⟨RX0, "faultOf", "(LBuoyVote$Tape;)I"⟩
abbrev cX0_readClause : ByteArray := prog_2_method_18_code
def yX0_readClause : MethodName := ⟨RX0, "readClause", "(LBuoyVote$Tape;)V"⟩
abbrev cX0_hasRoomFor : ByteArray := prog_2_method_19_code
def yX0_hasRoomFor : MethodName := ⟨RX0, "hasRoomFor", "(I)Z"⟩
abbrev cX0_beginClause : ByteArray := prog_2_method_20_code
def yX0_beginClause : MethodName := ⟨RX0, "beginClause", "(I)I"⟩
abbrev cX0_setUsual : ByteArray := prog_2_method_21_code
def yX0_setUsual : MethodName := ⟨RX0, "setUsual", "(II)V"⟩
abbrev cX0_isWhole : ByteArray := prog_2_method_22_code
def yX0_isWhole : MethodName := ⟨RX0, "isWhole", "()Z"⟩
abbrev cX0_lettersOf : ByteArray := prog_2_method_23_code
def yX0_lettersOf : MethodName := ⟨RX0, "lettersOf", "(I)Ljava/lang/String;"⟩
abbrev cX0_placeIn : ByteArray := prog_2_method_24_code
def yX0_placeIn : MethodName := ⟨RX0, "placeIn", "(Ljava/lang/String;I)I"⟩
def RX1 : String := "BuoyVote$Charts"
def TX1 : u_T := fun k => match k with
  | 0 => ("BuoyVote$Charts", "told", "LBuoyVote$Borough;", true)
  | 1 => ("BuoyVote$Charts", "firstLegs", "[I", true)
  | 2 => ("BuoyVote$Charts", "legs", "[I", true)
  | _ => ("BuoyVote$Charts", "through", "[I", true)
def tyX1 : Nat → FieldType := fun k => match k with
  | 0 => .object "BuoyVote$Borough"
  | 1 => .array .int
  | 2 => .array .int
  | _ => .array .int
abbrev wsX10 : List Cond := u_ws RX1 TX1 4
theorem nmX1 : ∀ a, a < 4 → ∀ b, b < 4 → a ≠ b → (TX1 a).2.1 ≠ (TX1 b).2.1 := by decide +kernel
theorem tyX1_ok : ∀ k, k < 4 → parseFieldDescriptor (TX1 k).2.2.1 = some (tyX1 k) := by decide +kernel
abbrev cX1_init : ByteArray := prog_3_method_1_code
def yX1_init : MethodName := ⟨RX1, "<init>", "(LBuoyVote$Borough;)V"⟩
abbrev cX1_plot : ByteArray := prog_3_method_2_code
def yX1_plot : MethodName := ⟨RX1, "plot", "(LBuoyVote$Sea;II)V"⟩
abbrev cX1_hoursOf : ByteArray := prog_3_method_3_code
def yX1_hoursOf : MethodName := ⟨RX1, "hoursOf", "(I)I"⟩
abbrev cX1_orderOf : ByteArray := prog_3_method_4_code
def yX1_orderOf : MethodName := ⟨RX1, "orderOf", "(I)I"⟩
abbrev cX1_leastThrough : ByteArray := prog_3_method_5_code
def yX1_leastThrough : MethodName := ⟨RX1, "leastThrough", "(I[II)I"⟩
abbrev cX1_firstOfBest : ByteArray := prog_3_method_6_code
def yX1_firstOfBest : MethodName := ⟨RX1, "firstOfBest", "(I[II)I"⟩
abbrev cX1_between : ByteArray := prog_3_method_7_code
def yX1_between : MethodName := ⟨RX1, "between", "(III)I"⟩
abbrev cX1_fewestWatchers : ByteArray := prog_3_method_8_code
def yX1_fewestWatchers : MethodName := ⟨RX1, "fewestWatchers", "(I)I"⟩
abbrev cX1_isWatched : ByteArray := prog_3_method_9_code
def yX1_isWatched : MethodName := ⟨RX1, "isWatched", "(II)Z"⟩
abbrev cX1_middlePlace : ByteArray := prog_3_method_10_code
def yX1_middlePlace : MethodName := ⟨RX1, "middlePlace", "()I"⟩
def RX2 : String := "BuoyVote$Duel"
def TX2 : u_T := fun k => match k with
  | 0 => ("BuoyVote$Duel", "told", "LBuoyVote$Borough;", true)
  | 1 => ("BuoyVote$Duel", "waters", "LBuoyVote$Waters;", true)
  | 2 => ("BuoyVote$Duel", "oneDraws", "[I", true)
  | 3 => ("BuoyVote$Duel", "otherDraws", "[I", true)
  | 4 => ("BuoyVote$Duel", "ones", "[I", true)
  | _ => ("BuoyVote$Duel", "others", "[I", true)
def tyX2 : Nat → FieldType := fun k => match k with
  | 0 => .object "BuoyVote$Borough"
  | 1 => .object "BuoyVote$Waters"
  | 2 => .array .int
  | 3 => .array .int
  | 4 => .array .int
  | _ => .array .int
abbrev wsX20 : List Cond := u_ws RX2 TX2 6
theorem nmX2 : ∀ a, a < 6 → ∀ b, b < 6 → a ≠ b → (TX2 a).2.1 ≠ (TX2 b).2.1 := by decide +kernel
theorem tyX2_ok : ∀ k, k < 6 → parseFieldDescriptor (TX2 k).2.2.1 = some (tyX2 k) := by decide +kernel
abbrev cX2_init : ByteArray := prog_4_method_1_code
def yX2_init : MethodName := ⟨RX2, "<init>", "(LBuoyVote$Borough;LBuoyVote$Waters;)V"⟩
abbrev cX2_lay : ByteArray := prog_4_method_2_code
def yX2_lay : MethodName := ⟨RX2, "lay", "(LBuoyVote$Sea;II)V"⟩
abbrev cX2_setDraws : ByteArray := prog_4_method_3_code
def yX2_setDraws : MethodName := ⟨RX2, "setDraws", "(LBuoyVote$Sea;I[I)V"⟩
abbrev cX2_isAtRest : ByteArray := prog_4_method_4_code
def yX2_isAtRest : MethodName := ⟨RX2, "isAtRest", "(II)Z"⟩
abbrev cX2_worstAt : ByteArray := prog_4_method_5_code
def yX2_worstAt : MethodName := ⟨RX2, "worstAt", "(I)I"⟩
def RX3 : String := "BuoyVote$History"
def TX3 : u_T := fun k => match k with
  | 0 => ("BuoyVote$History", "before", "[LBuoyVote$Sea;", true)
  | 1 => ("BuoyVote$History", "next", "I", false)
  | 2 => ("BuoyVote$History", "acts", "I", false)
  | 3 => ("BuoyVote$History", "log", "[I", true)
  | 4 => ("BuoyVote$History", "image", "LBuoyVote$Sea;", true)
  | 5 => ("BuoyVote$History", "imageLog", "[I", true)
  | _ => ("BuoyVote$History", "imaged", "Z", false)
def tyX3 : Nat → FieldType := fun k => match k with
  | 0 => .array (.object "BuoyVote$Sea")
  | 1 => .int
  | 2 => .int
  | 3 => .array .int
  | 4 => .object "BuoyVote$Sea"
  | 5 => .array .int
  | _ => .boolean
abbrev wsX30 : List Cond := u_ws RX3 TX3 7
theorem nmX3 : ∀ a, a < 7 → ∀ b, b < 7 → a ≠ b → (TX3 a).2.1 ≠ (TX3 b).2.1 := by decide +kernel
theorem tyX3_ok : ∀ k, k < 7 → parseFieldDescriptor (TX3 k).2.2.1 = some (tyX3 k) := by decide +kernel
abbrev cX3_init : ByteArray := prog_5_method_1_code
def yX3_init : MethodName := ⟨RX3, "<init>", "()V"⟩
abbrev cX3_forget : ByteArray := prog_5_method_2_code
def yX3_forget : MethodName := ⟨RX3, "forget", "()V"⟩
abbrev cX3_remember : ByteArray := prog_5_method_3_code
def yX3_remember : MethodName := ⟨RX3, "remember", "(LBuoyVote$Sea;)V"⟩
abbrev cX3_takeBack : ByteArray := prog_5_method_4_code
def yX3_takeBack : MethodName := ⟨RX3, "takeBack", "(LBuoyVote$Sea;)Z"⟩
abbrev cX3_note : ByteArray := prog_5_method_5_code
def yX3_note : MethodName := ⟨RX3, "note", "(LBuoyVote$Sea;[I)V"⟩
abbrev cX3_logged : ByteArray := prog_5_method_6_code
def yX3_logged : MethodName := ⟨RX3, "logged", "(II)I"⟩
abbrev cX3_keepImage : ByteArray := prog_5_method_7_code
def yX3_keepImage : MethodName := ⟨RX3, "keepImage", "(LBuoyVote$Sea;)V"⟩
abbrev cX3_showImage : ByteArray := prog_5_method_8_code
def yX3_showImage : MethodName := ⟨RX3, "showImage", "(LBuoyVote$Sea;)Z"⟩
def RX4 : String := "BuoyVote$Law"
def TX4 : u_T := fun k => match k with
  | 0 => ("BuoyVote$Law", "code", "[I", true)
  | 1 => ("BuoyVote$Law", "length", "I", false)
  | _ => ("BuoyVote$Law", "stack", "[I", true)
def tyX4 : Nat → FieldType := fun k => match k with
  | 0 => .array .int
  | 1 => .int
  | _ => .array .int
abbrev wsX40 : List Cond := u_ws RX4 TX4 3
theorem nmX4 : ∀ a, a < 3 → ∀ b, b < 3 → a ≠ b → (TX4 a).2.1 ≠ (TX4 b).2.1 := by decide +kernel
theorem tyX4_ok : ∀ k, k < 3 → parseFieldDescriptor (TX4 k).2.2.1 = some (tyX4 k) := by decide +kernel
abbrev cX4_init : ByteArray := prog_6_method_1_code
def yX4_init : MethodName := ⟨RX4, "<init>", "()V"⟩
abbrev cX4_worth : ByteArray := prog_6_method_2_code
def yX4_worth : MethodName := ⟨RX4, "worth", "([I)I"⟩
abbrev cX4_joinedAt : ByteArray := prog_6_method_3_code
def yX4_joinedAt : MethodName := ⟨RX4, "joinedAt", "(II)I"⟩
abbrev cX4_faultOf : ByteArray := prog_6_method_4_code
def yX4_faultOf : MethodName := ⟨RX4, "faultOf", "(LBuoyVote$Tape;)I"⟩
abbrev cX4_readCondition : ByteArray := prog_6_method_5_code
def yX4_readCondition : MethodName := ⟨RX4, "readCondition", "(LBuoyVote$Tape;IZ)V"⟩
abbrev cX4_readUnit : ByteArray := prog_6_method_6_code
def yX4_readUnit : MethodName := ⟨RX4, "readUnit", "(LBuoyVote$Tape;IZ)V"⟩
abbrev cX4_readSum : ByteArray := prog_6_method_7_code
def yX4_readSum : MethodName := ⟨RX4, "readSum", "(LBuoyVote$Tape;I)V"⟩
abbrev cX4_readAtom : ByteArray := prog_6_method_8_code
def yX4_readAtom : MethodName := ⟨RX4, "readAtom", "(LBuoyVote$Tape;I)V"⟩
abbrev cX4_emit : ByteArray := prog_6_method_9_code
def yX4_emit : MethodName := ⟨RX4, "emit", "(I)V"⟩
abbrev cX4_startsUnit : ByteArray := prog_6_method_10_code
def yX4_startsUnit : MethodName := ⟨RX4, "startsUnit", "(I)Z"⟩
abbrev cX4_isComparison : ByteArray := prog_6_method_11_code
def yX4_isComparison : MethodName := ⟨RX4, "isComparison", "(I)Z"⟩
def RX5 : String := "BuoyVote$LawBook"
def TX5 : u_T := fun k => match k with
  | 0 => ("BuoyVote$LawBook", "laws", "[LBuoyVote$Law;", true)
  | 1 => ("BuoyVote$LawBook", "size", "I", false)
  | 2 => ("BuoyVote$LawBook", "holding", "I", false)
  | _ => ("BuoyVote$LawBook", "letters", "[I", true)
def tyX5 : Nat → FieldType := fun k => match k with
  | 0 => .array (.object "BuoyVote$Law")
  | 1 => .int
  | 2 => .int
  | _ => .array .int
abbrev wsX50 : List Cond := u_ws RX5 TX5 4
theorem nmX5 : ∀ a, a < 4 → ∀ b, b < 4 → a ≠ b → (TX5 a).2.1 ≠ (TX5 b).2.1 := by decide +kernel
theorem tyX5_ok : ∀ k, k < 4 → parseFieldDescriptor (TX5 k).2.2.1 = some (tyX5 k) := by decide +kernel
abbrev cX5_init : ByteArray := prog_7_method_1_code
def yX5_init : MethodName := ⟨RX5, "<init>", "()V"⟩
abbrev cX5_spare : ByteArray := prog_7_method_2_code
def yX5_spare : MethodName := ⟨RX5, "spare", "()LBuoyVote$Law;"⟩
abbrev cX5_drawBy : ByteArray := prog_7_method_3_code
def yX5_drawBy : MethodName := ⟨RX5, "drawBy", "(IIIIII)I"⟩
def RX6 : String := "BuoyVote$Plan"
def TX6 : u_T := fun k => match k with
  | 0 => ("BuoyVote$Plan", "cells", "[I", true)
  | _ => ("BuoyVote$Plan", "steps", "I", false)
def tyX6 : Nat → FieldType := fun k => match k with
  | 0 => .array .int
  | _ => .int
abbrev wsX60 : List Cond := u_ws RX6 TX6 2
theorem nmX6 : ∀ a, a < 2 → ∀ b, b < 2 → a ≠ b → (TX6 a).2.1 ≠ (TX6 b).2.1 := by decide +kernel
theorem tyX6_ok : ∀ k, k < 2 → parseFieldDescriptor (TX6 k).2.2.1 = some (tyX6 k) := by decide +kernel
abbrev cX6_init : ByteArray := prog_8_method_1_code
def yX6_init : MethodName := ⟨RX6, "<init>", "()V"⟩
abbrev cX6_part : ByteArray := prog_8_method_2_code
def yX6_part : MethodName := ⟨RX6, "part", "(II)I"⟩
abbrev cX6_faultOf : ByteArray := prog_8_method_3_code
def yX6_faultOf : MethodName := ⟨RX6, "faultOf", "(LBuoyVote$Tape;)I"⟩
abbrev cX6_readStep : ByteArray := prog_8_method_4_code
def yX6_readStep : MethodName := ⟨RX6, "readStep", "(LBuoyVote$Tape;I)V"⟩
def RX7 : String := "BuoyVote$Sea"
def TX7 : u_T := fun k => match k with
  | 0 => ("BuoyVote$Sea", "wind", "I", false)
  | 1 => ("BuoyVote$Sea", "way", "I", false)
  | 2 => ("BuoyVote$Sea", "hour", "I", false)
  | 3 => ("BuoyVote$Sea", "logged", "I", false)
  | 4 => ("BuoyVote$Sea", "x", "[I", true)
  | 5 => ("BuoyVote$Sea", "y", "[I", true)
  | 6 => ("BuoyVote$Sea", "goalX", "[I", true)
  | 7 => ("BuoyVote$Sea", "goalY", "[I", true)
  | 8 => ("BuoyVote$Sea", "won", "[I", true)
  | 9 => ("BuoyVote$Sea", "sang", "[I", true)
  | 10 => ("BuoyVote$Sea", "liking", "[I", true)
  | 11 => ("BuoyVote$Sea", "old", "[I", true)
  | _ => ("BuoyVote$Sea", "barnacles", "[I", true)
def tyX7 : Nat → FieldType := fun k => match k with
  | 0 => .int
  | 1 => .int
  | 2 => .int
  | 3 => .int
  | 4 => .array .int
  | 5 => .array .int
  | 6 => .array .int
  | 7 => .array .int
  | 8 => .array .int
  | 9 => .array .int
  | 10 => .array .int
  | 11 => .array .int
  | _ => .array .int
abbrev wsX70 : List Cond := u_ws RX7 TX7 13
theorem nmX7 : ∀ a, a < 13 → ∀ b, b < 13 → a ≠ b → (TX7 a).2.1 ≠ (TX7 b).2.1 := by decide +kernel
theorem tyX7_ok : ∀ k, k < 13 → parseFieldDescriptor (TX7 k).2.2.1 = some (tyX7 k) := by decide +kernel
abbrev cX7_init : ByteArray := prog_9_method_1_code
def yX7_init : MethodName := ⟨RX7, "<init>", "()V"⟩
abbrev cX7_begin : ByteArray := prog_9_method_2_code
def yX7_begin : MethodName := ⟨RX7, "begin", "(LBuoyVote$Borough;)V"⟩
abbrev cX7_copyFrom : ByteArray := prog_9_method_3_code
def yX7_copyFrom : MethodName := ⟨RX7, "copyFrom", "(LBuoyVote$Sea;)V"⟩
abbrev cX7_logLength : ByteArray := prog_9_method_4_code
def yX7_logLength : MethodName := ⟨RX7, "logLength", "()I"⟩
abbrev cX7_awayOf : ByteArray := prog_9_method_5_code
def yX7_awayOf : MethodName := ⟨RX7, "awayOf", "(III)I"⟩
abbrev cX7_put : ByteArray := prog_9_method_6_code
def yX7_put : MethodName := ⟨RX7, "put", "(III)V"⟩
abbrev cX7_singTo : ByteArray := prog_9_method_7_code
def yX7_singTo : MethodName := ⟨RX7, "singTo", "(II)V"⟩
abbrev cX7_rowOn : ByteArray := prog_9_method_8_code
def yX7_rowOn : MethodName := ⟨RX7, "rowOn", "(II)V"⟩
def RX8 : String := "BuoyVote$Sightings"
def TX8 : u_T := fun k => match k with
  | 0 => ("BuoyVote$Sightings", "told", "LBuoyVote$Borough;", true)
  | 1 => ("BuoyVote$Sightings", "laws", "LBuoyVote$LawBook;", true)
  | 2 => ("BuoyVote$Sightings", "seenBuoy", "[I", true)
  | 3 => ("BuoyVote$Sightings", "seenD", "[I", true)
  | 4 => ("BuoyVote$Sightings", "seenE", "[I", true)
  | 5 => ("BuoyVote$Sightings", "seenTo", "[I", true)
  | 6 => ("BuoyVote$Sightings", "size", "I", false)
  | 7 => ("BuoyVote$Sightings", "fits", "[I", true)
  | 8 => ("BuoyVote$Sightings", "fitCount", "I", false)
  | 9 => ("BuoyVote$Sightings", "oneDraws", "[I", true)
  | 10 => ("BuoyVote$Sightings", "otherDraws", "[I", true)
  | _ => ("BuoyVote$Sightings", "answers", "[I", true)
def tyX8 : Nat → FieldType := fun k => match k with
  | 0 => .object "BuoyVote$Borough"
  | 1 => .object "BuoyVote$LawBook"
  | 2 => .array .int
  | 3 => .array .int
  | 4 => .array .int
  | 5 => .array .int
  | 6 => .int
  | 7 => .array .int
  | 8 => .int
  | 9 => .array .int
  | 10 => .array .int
  | _ => .array .int
abbrev wsX80 : List Cond := u_ws RX8 TX8 12
theorem nmX8 : ∀ a, a < 12 → ∀ b, b < 12 → a ≠ b → (TX8 a).2.1 ≠ (TX8 b).2.1 := by decide +kernel
theorem tyX8_ok : ∀ k, k < 12 → parseFieldDescriptor (TX8 k).2.2.1 = some (tyX8 k) := by decide +kernel
abbrev cX8_init : ByteArray := prog_10_method_1_code
def yX8_init : MethodName := ⟨RX8, "<init>", "(LBuoyVote$Borough;LBuoyVote$LawBook;)V"⟩
abbrev cX8_add : ByteArray := prog_10_method_2_code
def yX8_add : MethodName := ⟨RX8, "add", "(IIII)Z"⟩
abbrev cX8_fit : ByteArray := prog_10_method_3_code
def yX8_fit : MethodName := ⟨RX8, "fit", "(I)I"⟩
abbrev cX8_fitting : ByteArray := prog_10_method_4_code
def yX8_fitting : MethodName := ⟨RX8, "fitting", "(I)I"⟩
abbrev cX8_bestLook : ByteArray := prog_10_method_5_code
def yX8_bestLook : MethodName := ⟨RX8, "bestLook", "(I)I"⟩
abbrev cX8_mostAlike : ByteArray := prog_10_method_6_code
def yX8_mostAlike : MethodName := ⟨RX8, "mostAlike", "(I)I"⟩
abbrev cX8_keepThose : ByteArray := prog_10_method_7_code
def yX8_keepThose : MethodName := ⟨RX8, "keepThose", "(II)V"⟩
abbrev cX8_setDraws : ByteArray := prog_10_method_8_code
def yX8_setDraws : MethodName := ⟨RX8, "setDraws", "(II)V"⟩
abbrev cX8_answerOf : ByteArray := prog_10_method_9_code
def yX8_answerOf : MethodName := ⟨RX8, "answerOf", "(II)I"⟩
def RX9 : String := "BuoyVote$Tape"
def TX9 : u_T := fun k => match k with
  | 0 => ("BuoyVote$Tape", "bytes", "[I", true)
  | 1 => ("BuoyVote$Tape", "length", "I", false)
  | 2 => ("BuoyVote$Tape", "at", "I", false)
  | _ => ("BuoyVote$Tape", "wrong", "I", false)
def tyX9 : Nat → FieldType := fun k => match k with
  | 0 => .array .int
  | 1 => .int
  | 2 => .int
  | _ => .int
abbrev wsX90 : List Cond := u_ws RX9 TX9 4
theorem nmX9 : ∀ a, a < 4 → ∀ b, b < 4 → a ≠ b → (TX9 a).2.1 ≠ (TX9 b).2.1 := by decide +kernel
theorem tyX9_ok : ∀ k, k < 4 → parseFieldDescriptor (TX9 k).2.2.1 = some (tyX9 k) := by decide +kernel
abbrev cX9_init : ByteArray := prog_11_method_1_code
def yX9_init : MethodName := ⟨RX9, "<init>", "()V"⟩
abbrev cX9_bytesIn : ByteArray := prog_11_method_2_code
def yX9_bytesIn : MethodName := ⟨RX9, "bytesIn", "(I)I"⟩
abbrev cX9_append : ByteArray := prog_11_method_3_code
def yX9_append : MethodName := ⟨RX9, "append", "(I)V"⟩
abbrev cX9_rewind : ByteArray := prog_11_method_4_code
def yX9_rewind : MethodName := ⟨RX9, "rewind", "()V"⟩
abbrev cX9_isRight : ByteArray := prog_11_method_5_code
def yX9_isRight : MethodName := ⟨RX9, "isRight", "()Z"⟩
abbrev cX9_wrongAt : ByteArray := prog_11_method_6_code
def yX9_wrongAt : MethodName := ⟨RX9, "wrongAt", "()I"⟩
abbrev cX9_refuse : ByteArray := prog_11_method_7_code
def yX9_refuse : MethodName := ⟨RX9, "refuse", "(I)V"⟩
abbrev cX9_refuseHere : ByteArray := prog_11_method_8_code
def yX9_refuseHere : MethodName := ⟨RX9, "refuseHere", "()V"⟩
abbrev cX9_peek : ByteArray := prog_11_method_9_code
def yX9_peek : MethodName := ⟨RX9, "peek", "()I"⟩
abbrev cX9_skip : ByteArray := prog_11_method_10_code
def yX9_skip : MethodName := ⟨RX9, "skip", "()V"⟩
abbrev cX9_take : ByteArray := prog_11_method_11_code
def yX9_take : MethodName := ⟨RX9, "take", "(I)Z"⟩
abbrev cX9_takeEither : ByteArray := prog_11_method_12_code
def yX9_takeEither : MethodName := ⟨RX9, "takeEither", "(II)I"⟩
abbrev cX9_expect : ByteArray := prog_11_method_13_code
def yX9_expect : MethodName := ⟨RX9, "expect", "(I)V"⟩
abbrev cX9_expectEnd : ByteArray := prog_11_method_14_code
def yX9_expectEnd : MethodName := ⟨RX9, "expectEnd", "()V"⟩
abbrev cX9_digit : ByteArray := prog_11_method_15_code
def yX9_digit : MethodName := ⟨RX9, "digit", "()I"⟩
abbrev cX9_number : ByteArray := prog_11_method_16_code
def yX9_number : MethodName := ⟨RX9, "number", "(I)I"⟩
abbrev cX9_numberWithin : ByteArray := prog_11_method_17_code
def yX9_numberWithin : MethodName := ⟨RX9, "numberWithin", "(II)I"⟩
def RX10 : String := "BuoyVote$Waters"
def TX10 : u_T := fun k => match k with
  | 0 => ("BuoyVote$Waters", "told", "LBuoyVote$Borough;", true)
  | 1 => ("BuoyVote$Waters", "laws", "LBuoyVote$LawBook;", true)
  | 2 => ("BuoyVote$Waters", "draws", "[I", true)
  | 3 => ("BuoyVote$Waters", "leans", "[I", true)
  | 4 => ("BuoyVote$Waters", "tally", "[I", true)
  | _ => ("BuoyVote$Waters", "bars", "[I", true)
def tyX10 : Nat → FieldType := fun k => match k with
  | 0 => .object "BuoyVote$Borough"
  | 1 => .object "BuoyVote$LawBook"
  | 2 => .array .int
  | 3 => .array .int
  | 4 => .array .int
  | _ => .array .int
abbrev wsX100 : List Cond := u_ws RX10 TX10 6
theorem nmX10 : ∀ a, a < 6 → ∀ b, b < 6 → a ≠ b → (TX10 a).2.1 ≠ (TX10 b).2.1 := by decide +kernel
theorem tyX10_ok : ∀ k, k < 6 → parseFieldDescriptor (TX10 k).2.2.1 = some (tyX10 k) := by decide +kernel
abbrev cX10_init : ByteArray := prog_12_method_1_code
def yX10_init : MethodName := ⟨RX10, "<init>", "(LBuoyVote$Borough;LBuoyVote$LawBook;)V"⟩
abbrev cX10_isRising : ByteArray := prog_12_method_2_code
def yX10_isRising : MethodName := ⟨RX10, "isRising", "(I)Z"⟩
abbrev cX10_pushOf : ByteArray := prog_12_method_3_code
def yX10_pushOf : MethodName := ⟨RX10, "pushOf", "(LBuoyVote$Sea;II)I"⟩
abbrev cX10_drawOf : ByteArray := prog_12_method_4_code
def yX10_drawOf : MethodName := ⟨RX10, "drawOf", "(LBuoyVote$Sea;II)I"⟩
abbrev cX10_leanOf : ByteArray := prog_12_method_5_code
def yX10_leanOf : MethodName := ⟨RX10, "leanOf", "(LBuoyVote$Sea;I)I"⟩
abbrev cX10_leanBy : ByteArray := prog_12_method_6_code
def yX10_leanBy : MethodName := ⟨RX10, "leanBy", "(I)I"⟩
abbrev cX10_tallyUp : ByteArray := prog_12_method_7_code
def yX10_tallyUp : MethodName := ⟨RX10, "tallyUp", "(LBuoyVote$Sea;)V"⟩
abbrev cX10_winner : ByteArray := prog_12_method_8_code
def yX10_winner : MethodName := ⟨RX10, "winner", "()I"⟩
abbrev cX10_leaningTo : ByteArray := prog_12_method_9_code
def yX10_leaningTo : MethodName := ⟨RX10, "leaningTo", "(I)I"⟩
abbrev cX10_leaningBits : ByteArray := prog_12_method_10_code
def yX10_leaningBits : MethodName := ⟨RX10, "leaningBits", "()I"⟩
abbrev cX10_gapOf : ByteArray := prog_12_method_11_code
def yX10_gapOf : MethodName := ⟨RX10, "gapOf", "(LBuoyVote$Sea;)I"⟩
abbrev cX10_passHour : ByteArray := prog_12_method_12_code
def yX10_passHour : MethodName := ⟨RX10, "passHour", "(LBuoyVote$Sea;)V"⟩
abbrev cX10_holdCount : ByteArray := prog_12_method_13_code
def yX10_holdCount : MethodName := ⟨RX10, "holdCount", "(LBuoyVote$Sea;)V"⟩
abbrev cX10_barOf : ByteArray := prog_12_method_14_code
def yX10_barOf : MethodName := ⟨RX10, "barOf", "(LBuoyVote$Sea;II)I"⟩
abbrev cX10_setBars : ByteArray := prog_12_method_15_code
def yX10_setBars : MethodName := ⟨RX10, "setBars", "(LBuoyVote$Sea;I)V"⟩
abbrev cX10_overBars : ByteArray := prog_12_method_16_code
def yX10_overBars : MethodName := ⟨RX10, "overBars", "(LBuoyVote$Sea;I)I"⟩
def RX11 : String := "BuoyVote"
def TX11 : u_T := fun k => match k with
  | 0 => ("BuoyVote", "tape", "LBuoyVote$Tape;", true)
  | 1 => ("BuoyVote", "told", "LBuoyVote$Borough;", true)
  | 2 => ("BuoyVote", "draft", "LBuoyVote$Borough;", true)
  | 3 => ("BuoyVote", "laws", "LBuoyVote$LawBook;", true)
  | 4 => ("BuoyVote", "plans", "[LBuoyVote$Plan;", true)
  | 5 => ("BuoyVote", "planCount", "I", false)
  | 6 => ("BuoyVote", "waters", "LBuoyVote$Waters;", true)
  | 7 => ("BuoyVote", "now", "LBuoyVote$Sea;", true)
  | 8 => ("BuoyVote", "apart", "LBuoyVote$Sea;", true)
  | 9 => ("BuoyVote", "history", "LBuoyVote$History;", true)
  | 10 => ("BuoyVote", "sightings", "LBuoyVote$Sightings;", true)
  | 11 => ("BuoyVote", "duel", "LBuoyVote$Duel;", true)
  | 12 => ("BuoyVote", "charts", "LBuoyVote$Charts;", true)
  | 13 => ("BuoyVote", "parts", "[J", true)
  | 14 => ("BuoyVote", "shown", "[I", true)
  | _ => ("BuoyVote", "drawn", "J", false)
def tyX11 : Nat → FieldType := fun k => match k with
  | 0 => .object "BuoyVote$Tape"
  | 1 => .object "BuoyVote$Borough"
  | 2 => .object "BuoyVote$Borough"
  | 3 => .object "BuoyVote$LawBook"
  | 4 => .array (.object "BuoyVote$Plan")
  | 5 => .int
  | 6 => .object "BuoyVote$Waters"
  | 7 => .object "BuoyVote$Sea"
  | 8 => .object "BuoyVote$Sea"
  | 9 => .object "BuoyVote$History"
  | 10 => .object "BuoyVote$Sightings"
  | 11 => .object "BuoyVote$Duel"
  | 12 => .object "BuoyVote$Charts"
  | 13 => .array .long
  | 14 => .array .int
  | _ => .long
abbrev wsX110 : List Cond := u_ws RX11 TX11 16
theorem nmX11 : ∀ a, a < 16 → ∀ b, b < 16 → a ≠ b → (TX11 a).2.1 ≠ (TX11 b).2.1 := by decide +kernel
theorem tyX11_ok : ∀ k, k < 16 → parseFieldDescriptor (TX11 k).2.2.1 = some (tyX11 k) := by decide +kernel
abbrev cX11_init : ByteArray := prog_1_method_1_code
def yX11_init : MethodName := ⟨RX11, "<init>", "()V"⟩
abbrev cX11_feed : ByteArray := prog_1_method_2_code
def yX11_feed : MethodName := ⟨RX11, "feed", "(IIIII)I"⟩
abbrev cX11_end : ByteArray := prog_1_method_3_code
def yX11_end : MethodName := ⟨RX11, "end", "(I)Z"⟩
abbrev cX11_fault : ByteArray := prog_1_method_4_code
def yX11_fault : MethodName := ⟨RX11, "fault", "(I)I"⟩
abbrev cX11_text : ByteArray := prog_1_method_5_code
def yX11_text : MethodName := ⟨RX11, "text", "(I)I"⟩
abbrev cX11_rule : ByteArray := prog_1_method_6_code
def yX11_rule : MethodName := ⟨RX11, "rule", "(I)I"⟩
abbrev cX11_buoy : ByteArray := prog_1_method_7_code
def yX11_buoy : MethodName := ⟨RX11, "buoy", "(II)I"⟩
abbrev cX11_boat : ByteArray := prog_1_method_8_code
def yX11_boat : MethodName := ⟨RX11, "boat", "(II)I"⟩
abbrev cX11_law : ByteArray := prog_1_method_9_code
def yX11_law : MethodName := ⟨RX11, "law", "(I)Z"⟩
abbrev cX11_pull : ByteArray := prog_1_method_10_code
def yX11_pull : MethodName := ⟨RX11, "pull", "(II)I"⟩
abbrev cX11_push : ByteArray := prog_1_method_11_code
def yX11_push : MethodName := ⟨RX11, "push", "(II)I"⟩
abbrev cX11_row : ByteArray := prog_1_method_12_code
def yX11_row : MethodName := ⟨RX11, "row", "(III)I"⟩
abbrev cX11_sing : ByteArray := prog_1_method_13_code
def yX11_sing : MethodName := ⟨RX11, "sing", "(II)I"⟩
abbrev cX11_scrape : ByteArray := prog_1_method_14_code
def yX11_scrape : MethodName := ⟨RX11, "scrape", "(II)I"⟩
abbrev cX11_wind : ByteArray := prog_1_method_15_code
def yX11_wind : MethodName := ⟨RX11, "wind", "(II)Z"⟩
abbrev cX11_hours : ByteArray := prog_1_method_16_code
def yX11_hours : MethodName := ⟨RX11, "hours", "(I)I"⟩
abbrev cX11_years : ByteArray := prog_1_method_17_code
def yX11_years : MethodName := ⟨RX11, "years", "(IJ)I"⟩
abbrev cX11_undo : ByteArray := prog_1_method_18_code
def yX11_undo : MethodName := ⟨RX11, "undo", "()I"⟩
abbrev cX11_log : ByteArray := prog_1_method_19_code
def yX11_log : MethodName := ⟨RX11, "log", "(II)I"⟩
abbrev cX11_step : ByteArray := prog_1_method_20_code
def yX11_step : MethodName := ⟨RX11, "step", "(III)I"⟩
abbrev cX11_run : ByteArray := prog_1_method_21_code
def yX11_run : MethodName := ⟨RX11, "run", "(II)I"⟩
abbrev cX11_perform : ByteArray := prog_1_method_22_code
def yX11_perform : MethodName := ⟨RX11, "perform", "(I)I"⟩
abbrev cX11_votes : ByteArray := prog_1_method_23_code
def yX11_votes : MethodName := ⟨RX11, "votes", "(I)I"⟩
abbrev cX11_leader : ByteArray := prog_1_method_24_code
def yX11_leader : MethodName := ⟨RX11, "leader", "()I"⟩
abbrev cX11_ahead : ByteArray := prog_1_method_25_code
def yX11_ahead : MethodName := ⟨RX11, "ahead", "(II)I"⟩
abbrev cX11_soon : ByteArray := prog_1_method_26_code
def yX11_soon : MethodName := ⟨RX11, "soon", "(II)I"⟩
abbrev cX11_round : ByteArray := prog_1_method_27_code
def yX11_round : MethodName := ⟨RX11, "round", "(III)I"⟩
abbrev cX11_best : ByteArray := prog_1_method_28_code
def yX11_best : MethodName := ⟨RX11, "best", "(II)I"⟩
abbrev cX11_game : ByteArray := prog_1_method_29_code
def yX11_game : MethodName := ⟨RX11, "game", "(IIIII)I"⟩
abbrev cX11_rests : ByteArray := prog_1_method_30_code
def yX11_rests : MethodName := ⟨RX11, "rests", "(III)I"⟩
abbrev cX11_holds : ByteArray := prog_1_method_31_code
def yX11_holds : MethodName := ⟨RX11, "holds", "(III)I"⟩
abbrev cX11_seen : ByteArray := prog_1_method_32_code
def yX11_seen : MethodName := ⟨RX11, "seen", "(IIII)I"⟩
abbrev cX11_likes : ByteArray := prog_1_method_33_code
def yX11_likes : MethodName := ⟨RX11, "likes", "(II)I"⟩
abbrev cX11_ask : ByteArray := prog_1_method_34_code
def yX11_ask : MethodName := ⟨RX11, "ask", "(I)I"⟩
abbrev cX11_blown : ByteArray := prog_1_method_35_code
def yX11_blown : MethodName := ⟨RX11, "blown", "(II)I"⟩
abbrev cX11_washed : ByteArray := prog_1_method_36_code
def yX11_washed : MethodName := ⟨RX11, "washed", "(III)I"⟩
abbrev cX11_watch : ByteArray := prog_1_method_37_code
def yX11_watch : MethodName := ⟨RX11, "watch", "(I)I"⟩
abbrev cX11_fair : ByteArray := prog_1_method_38_code
def yX11_fair : MethodName := ⟨RX11, "fair", "(II)I"⟩
abbrev cX11_buoys : ByteArray := prog_1_method_39_code
def yX11_buoys : MethodName := ⟨RX11, "buoys", "(I)I"⟩
abbrev cX11_sways : ByteArray := prog_1_method_40_code
def yX11_sways : MethodName := ⟨RX11, "sways", "(II)I"⟩
abbrev cX11_nearest : ByteArray := prog_1_method_41_code
def yX11_nearest : MethodName := ⟨RX11, "nearest", "(I)I"⟩
abbrev cX11_fog : ByteArray := prog_1_method_42_code
def yX11_fog : MethodName := ⟨RX11, "fog", "(II)I"⟩
abbrev cX11_needs : ByteArray := prog_1_method_43_code
def yX11_needs : MethodName := ⟨RX11, "needs", "(II)I"⟩
abbrev cX11_heard : ByteArray := prog_1_method_44_code
def yX11_heard : MethodName := ⟨RX11, "heard", "(I)I"⟩
abbrev cX11_middle : ByteArray := prog_1_method_45_code
def yX11_middle : MethodName := ⟨RX11, "middle", "()I"⟩
abbrev cX11_image : ByteArray := prog_1_method_46_code
def yX11_image : MethodName := ⟨RX11, "image", "()I"⟩
abbrev cX11_back : ByteArray := prog_1_method_47_code
def yX11_back : MethodName := ⟨RX11, "back", "()I"⟩
abbrev cX11_count : ByteArray := prog_1_method_48_code
def yX11_count : MethodName := ⟨RX11, "count", "(I)I"⟩
abbrev cX11_hasBorough : ByteArray := prog_1_method_49_code
def yX11_hasBorough : MethodName := ⟨RX11, "hasBorough", "()Z"⟩
abbrev cX11_isBuoy : ByteArray := prog_1_method_50_code
def yX11_isBuoy : MethodName := ⟨RX11, "isBuoy", "(I)Z"⟩
abbrev cX11_isBoat : ByteArray := prog_1_method_51_code
def yX11_isBoat : MethodName := ⟨RX11, "isBoat", "(I)Z"⟩
abbrev cX11_isPair : ByteArray := prog_1_method_52_code
def yX11_isPair : MethodName := ⟨RX11, "isPair", "(II)Z"⟩
abbrev cX11_isPlan : ByteArray := prog_1_method_53_code
def yX11_isPlan : MethodName := ⟨RX11, "isPlan", "(I)Z"⟩
abbrev cX11_isBeside : ByteArray := prog_1_method_54_code
def yX11_isBeside : MethodName := ⟨RX11, "isBeside", "(LBuoyVote$Sea;II)Z"⟩
abbrev cX11_isFaithful : ByteArray := prog_1_method_55_code
def yX11_isFaithful : MethodName := ⟨RX11, "isFaithful", "(I)Z"⟩
abbrev cX11_canRow : ByteArray := prog_1_method_56_code
def yX11_canRow : MethodName := ⟨RX11, "canRow", "(LBuoyVote$Sea;III)Z"⟩
abbrev cX11_canSing : ByteArray := prog_1_method_57_code
def yX11_canSing : MethodName := ⟨RX11, "canSing", "(LBuoyVote$Sea;II)Z"⟩
abbrev cX11_canScrape : ByteArray := prog_1_method_58_code
def yX11_canScrape : MethodName := ⟨RX11, "canScrape", "(LBuoyVote$Sea;II)Z"⟩
abbrev cX11_canPass : ByteArray := prog_1_method_59_code
def yX11_canPass : MethodName := ⟨RX11, "canPass", "(I)Z"⟩
abbrev cX11_canDo : ByteArray := prog_1_method_60_code
def yX11_canDo : MethodName := ⟨RX11, "canDo", "(LBuoyVote$Sea;LBuoyVote$Plan;I)Z"⟩
abbrev cX11_change : ByteArray := prog_1_method_61_code
def yX11_change : MethodName := ⟨RX11, "change", "(LBuoyVote$Sea;LBuoyVote$Plan;I)V"⟩
abbrev cX11_passApart : ByteArray := prog_1_method_62_code
def yX11_passApart : MethodName := ⟨RX11, "passApart", "(I)V"⟩
abbrev cX11_liveHour : ByteArray := prog_1_method_63_code
def yX11_liveHour : MethodName := ⟨RX11, "liveHour", "()V"⟩
abbrev cX11_drawOutOf : ByteArray := prog_1_method_64_code
def yX11_drawOutOf : MethodName := ⟨RX11, "drawOutOf", "(I)I"⟩
abbrev cX11_beginBorough : ByteArray := prog_1_method_65_code
def yX11_beginBorough : MethodName := ⟨RX11, "beginBorough", "()I"⟩
abbrev cX11_keepLaw : ByteArray := prog_1_method_66_code
def yX11_keepLaw : MethodName := ⟨RX11, "keepLaw", "()I"⟩
abbrev cX11_keepPlan : ByteArray := prog_1_method_67_code
def yX11_keepPlan : MethodName := ⟨RX11, "keepPlan", "()I"⟩
abbrev cX11_splitByFog : ByteArray := prog_1_method_68_code
def yX11_splitByFog : MethodName := ⟨RX11, "splitByFog", "(I)I"⟩
abbrev cX11_leadsUnder : ByteArray := prog_1_method_69_code
def yX11_leadsUnder : MethodName := ⟨RX11, "leadsUnder", "(II)Z"⟩
abbrev cX11_isWithin : ByteArray := prog_1_method_70_code
def yX11_isWithin : MethodName := ⟨RX11, "isWithin", "(III)Z"⟩
abbrev cX11_sumOf : ByteArray := prog_1_method_71_code
def yX11_sumOf : MethodName := ⟨RX11, "sumOf", "([II)I"⟩
abbrev cX11_hoursFor : ByteArray := prog_1_method_72_code
def yX11_hoursFor : MethodName := ⟨RX11, "hoursFor", "(II)I"⟩
def RX12 : String := "BuoyVoteModel"
def TX12 : u_T := fun k => match k with
  | 0 => ("BuoyVoteModel", "thrown", "I", false)
  | 1 => ("BuoyVoteModel", "tape", "[B", true)
  | 2 => ("BuoyVoteModel", "texts", "[B", true)
  | 3 => ("BuoyVoteModel", "textLong", "[I", true)
  | 4 => ("BuoyVoteModel", "letters", "[I", true)
  | 5 => ("BuoyVoteModel", "text", "[B", false)
  | 6 => ("BuoyVoteModel", "length", "I", false)
  | 7 => ("BuoyVoteModel", "lawMany", "I", false)
  | 8 => ("BuoyVoteModel", "begins", "I", false)
  | 9 => ("BuoyVoteModel", "ends", "I", false)
  | 10 => ("BuoyVoteModel", "at", "I", false)
  | 11 => ("BuoyVoteModel", "fault", "I", false)
  | 12 => ("BuoyVoteModel", "deep", "I", false)
  | 13 => ("BuoyVoteModel", "label", "I", false)
  | 14 => ("BuoyVoteModel", "found", "I", false)
  | 15 => ("BuoyVoteModel", "labels", "Ljava/lang/String;", true)
  | 16 => ("BuoyVoteModel", "allowed", "Ljava/lang/String;", true)
  | 17 => ("BuoyVoteModel", "hasFound", "Z", false)
  | 18 => ("BuoyVoteModel", "rule", "[I", true)
  | 19 => ("BuoyVoteModel", "ruleRead", "[I", true)
  | 20 => ("BuoyVoteModel", "buoy", "[I", true)
  | 21 => ("BuoyVoteModel", "buoyRead", "[I", true)
  | 22 => ("BuoyVoteModel", "boat", "[I", true)
  | 23 => ("BuoyVoteModel", "boatRead", "[I", true)
  | 24 => ("BuoyVoteModel", "plan", "[I", true)
  | 25 => ("BuoyVoteModel", "planLong", "[I", true)
  | 26 => ("BuoyVoteModel", "buoys", "I", false)
  | 27 => ("BuoyVoteModel", "boats", "I", false)
  | 28 => ("BuoyVoteModel", "buoysRead", "I", false)
  | 29 => ("BuoyVoteModel", "boatsRead", "I", false)
  | 30 => ("BuoyVoteModel", "plans", "I", false)
  | 31 => ("BuoyVoteModel", "hasRules", "Z", false)
  | 32 => ("BuoyVoteModel", "now", "[I", true)
  | 33 => ("BuoyVoteModel", "trial", "[I", true)
  | 34 => ("BuoyVoteModel", "law", "I", false)
  | 35 => ("BuoyVoteModel", "memoKey", "[J", true)
  | 36 => ("BuoyVoteModel", "memoWorth", "[I", true)
  | 37 => ("BuoyVoteModel", "draws", "[I", true)
  | 38 => ("BuoyVoteModel", "tally", "[I", true)
  | 39 => ("BuoyVoteModel", "leans", "[I", true)
  | 40 => ("BuoyVoteModel", "undoRow", "[I", true)
  | 41 => ("BuoyVoteModel", "acts", "I", false)
  | 42 => ("BuoyVoteModel", "x", "J", false)
  | 43 => ("BuoyVoteModel", "roundLeast", "I", false)
  | 44 => ("BuoyVoteModel", "roundDigits", "I", false)
  | 45 => ("BuoyVoteModel", "gains", "[I", true)
  | 46 => ("BuoyVoteModel", "sightBuoy", "[I", true)
  | 47 => ("BuoyVoteModel", "sightNear", "[I", true)
  | 48 => ("BuoyVoteModel", "sightFar", "[I", true)
  | 49 => ("BuoyVoteModel", "sightTo", "[I", true)
  | 50 => ("BuoyVoteModel", "answers", "[I", true)
  | 51 => ("BuoyVoteModel", "sights", "I", false)
  | 52 => ("BuoyVoteModel", "imageRow", "[I", true)
  | _ => ("BuoyVoteModel", "hasImage", "Z", false)
def tyX12 : Nat → FieldType := fun k => match k with
  | 0 => .int
  | 1 => .array .byte
  | 2 => .array .byte
  | 3 => .array .int
  | 4 => .array .int
  | 5 => .array .byte
  | 6 => .int
  | 7 => .int
  | 8 => .int
  | 9 => .int
  | 10 => .int
  | 11 => .int
  | 12 => .int
  | 13 => .int
  | 14 => .int
  | 15 => .object "java/lang/String"
  | 16 => .object "java/lang/String"
  | 17 => .boolean
  | 18 => .array .int
  | 19 => .array .int
  | 20 => .array .int
  | 21 => .array .int
  | 22 => .array .int
  | 23 => .array .int
  | 24 => .array .int
  | 25 => .array .int
  | 26 => .int
  | 27 => .int
  | 28 => .int
  | 29 => .int
  | 30 => .int
  | 31 => .boolean
  | 32 => .array .int
  | 33 => .array .int
  | 34 => .int
  | 35 => .array .long
  | 36 => .array .int
  | 37 => .array .int
  | 38 => .array .int
  | 39 => .array .int
  | 40 => .array .int
  | 41 => .int
  | 42 => .long
  | 43 => .int
  | 44 => .int
  | 45 => .array .int
  | 46 => .array .int
  | 47 => .array .int
  | 48 => .array .int
  | 49 => .array .int
  | 50 => .array .int
  | 51 => .int
  | 52 => .array .int
  | _ => .boolean
abbrev wsX120 : List Cond := u_ws RX12 TX12 54
theorem nmX12 : ∀ a, a < 54 → ∀ b, b < 54 → a ≠ b → (TX12 a).2.1 ≠ (TX12 b).2.1 := by decide +kernel
theorem tyX12_ok : ∀ k, k < 54 → parseFieldDescriptor (TX12 k).2.2.1 = some (tyX12 k) := by decide +kernel
abbrev cX12_init : ByteArray := prog_14_method_1_code
def yX12_init : MethodName := ⟨RX12, "<init>", "()V"⟩
abbrev cX12_isIn : ByteArray := prog_14_method_3_code
def yX12_isIn : MethodName := ⟨RX12, "isIn", "(JJJ)Z"⟩
abbrev cX12_has : ByteArray := prog_14_method_4_code
def yX12_has : MethodName := ⟨RX12, "has", "(II)Z"⟩
abbrev cX12_isAmong : ByteArray := prog_14_method_5_code
def yX12_isAmong : MethodName := ⟨RX12, "isAmong", "(Ljava/lang/String;I)Z"⟩
abbrev cX12_bytesIn : ByteArray := prog_14_method_6_code
def yX12_bytesIn : MethodName := ⟨RX12, "bytesIn", "(I)I"⟩
abbrev cX12_put : ByteArray := prog_14_method_7_code
def yX12_put : MethodName := ⟨RX12, "put", "(I)V"⟩
abbrev cX12_feed : ByteArray := prog_14_method_8_code
def yX12_feed : MethodName := ⟨RX12, "feed", "(IIIII)I"⟩
abbrev cX12_end : ByteArray := prog_14_method_9_code
def yX12_end : MethodName := ⟨RX12, "end", "(I)Z"⟩
abbrev cX12_look : ByteArray := prog_14_method_10_code
def yX12_look : MethodName := ⟨RX12, "look", "()I"⟩
abbrev cX12_fails : ByteArray := prog_14_method_11_code
def yX12_fails : MethodName := ⟨RX12, "fails", "()Z"⟩
abbrev cX12_goesIn : ByteArray := prog_14_method_12_code
def yX12_goesIn : MethodName := ⟨RX12, "goesIn", "()Z"⟩
abbrev cX12_takes : ByteArray := prog_14_method_13_code
def yX12_takes : MethodName := ⟨RX12, "takes", "(I)Z"⟩
abbrev cX12_isDigit : ByteArray := prog_14_method_14_code
def yX12_isDigit : MethodName := ⟨RX12, "isDigit", "()Z"⟩
abbrev cX12_within : ByteArray := prog_14_method_15_code
def yX12_within : MethodName := ⟨RX12, "within", "(J)I"⟩
abbrev cX12_atom : ByteArray := prog_14_method_16_code
def yX12_atom : MethodName := ⟨RX12, "atom", "()I"⟩
abbrev cX12_term : ByteArray := prog_14_method_17_code
def yX12_term : MethodName := ⟨RX12, "term", "()I"⟩
abbrev cX12_sum : ByteArray := prog_14_method_18_code
def yX12_sum : MethodName := ⟨RX12, "sum", "()I"⟩
abbrev cX12_isSign : ByteArray := prog_14_method_19_code
def yX12_isSign : MethodName := ⟨RX12, "isSign", "(I)Z"⟩
abbrev cX12_compares : ByteArray := prog_14_method_20_code
def yX12_compares : MethodName := ⟨RX12, "compares", "(ZI)Z"⟩
abbrev cX12_unit : ByteArray := prog_14_method_21_code
def yX12_unit : MethodName := ⟨RX12, "unit", "()Z"⟩
abbrev cX12_part : ByteArray := prog_14_method_22_code
def yX12_part : MethodName := ⟨RX12, "part", "(ZI)Z"⟩
abbrev cX12_condition : ByteArray := prog_14_method_23_code
def yX12_condition : MethodName := ⟨RX12, "condition", "(ZI)Z"⟩
abbrev cX12_clause : ByteArray := prog_14_method_24_code
def yX12_clause : MethodName := ⟨RX12, "clause", "()V"⟩
abbrev cX12_starts : ByteArray := prog_14_method_25_code
def yX12_starts : MethodName := ⟨RX12, "starts", "([BII)V"⟩
abbrev cX12_goThrough : ByteArray := prog_14_method_26_code
def yX12_goThrough : MethodName := ⟨RX12, "goThrough", "([BII)V"⟩
abbrev cX12_here : ByteArray := prog_14_method_27_code
def yX12_here : MethodName := ⟨RX12, "here", "()I"⟩
abbrev cX12_spotOf : ByteArray := prog_14_method_28_code
def yX12_spotOf : MethodName := ⟨RX12, "spotOf", "(Ljava/lang/String;I)I"⟩
abbrev cX12_number : ByteArray := prog_14_method_29_code
def yX12_number : MethodName := ⟨RX12, "number", "(II)I"⟩
abbrev cX12_mostOf : ByteArray := prog_14_method_30_code
def yX12_mostOf : MethodName := ⟨RX12, "mostOf", "(II)I"⟩
abbrev cX12_leastOf : ByteArray := prog_14_method_31_code
def yX12_leastOf : MethodName := ⟨RX12, "leastOf", "(II)I"⟩
abbrev cX12_usual : ByteArray := prog_14_method_32_code
def yX12_usual : MethodName := ⟨RX12, "usual", "(II)I"⟩
abbrev cX12_readItems : ByteArray := prog_14_method_33_code
def yX12_readItems : MethodName := ⟨RX12, "readItems", "(I[IILjava/lang/String;)V"⟩
abbrev cX12_readClause : ByteArray := prog_14_method_34_code
def yX12_readClause : MethodName := ⟨RX12, "readClause", "()V"⟩
abbrev cX12_isWhole : ByteArray := prog_14_method_35_code
def yX12_isWhole : MethodName := ⟨RX12, "isWhole", "()Z"⟩
abbrev cX12_readBorough : ByteArray := prog_14_method_36_code
def yX12_readBorough : MethodName := ⟨RX12, "readBorough", "()V"⟩
abbrev cX12_digit : ByteArray := prog_14_method_37_code
def yX12_digit : MethodName := ⟨RX12, "digit", "()I"⟩
abbrev cX12_readStep : ByteArray := prog_14_method_38_code
def yX12_readStep : MethodName := ⟨RX12, "readStep", "(I)V"⟩
abbrev cX12_readPlan : ByteArray := prog_14_method_39_code
def yX12_readPlan : MethodName := ⟨RX12, "readPlan", "()V"⟩
abbrev cX12_fault : ByteArray := prog_14_method_40_code
def yX12_fault : MethodName := ⟨RX12, "fault", "(I)I"⟩
abbrev cX12_text : ByteArray := prog_14_method_41_code
def yX12_text : MethodName := ⟨RX12, "text", "(I)I"⟩
abbrev cX12_begin : ByteArray := prog_14_method_42_code
def yX12_begin : MethodName := ⟨RX12, "begin", "()V"⟩
abbrev cX12_copy : ByteArray := prog_14_method_43_code
def yX12_copy : MethodName := ⟨RX12, "copy", "([I[I)V"⟩
abbrev cX12_isBuoy : ByteArray := prog_14_method_44_code
def yX12_isBuoy : MethodName := ⟨RX12, "isBuoy", "(I)Z"⟩
abbrev cX12_isBoat : ByteArray := prog_14_method_45_code
def yX12_isBoat : MethodName := ⟨RX12, "isBoat", "(I)Z"⟩
abbrev cX12_told : ByteArray := prog_14_method_46_code
def yX12_told : MethodName := ⟨RX12, "told", "(II)I"⟩
abbrev cX12_boatTold : ByteArray := prog_14_method_47_code
def yX12_boatTold : MethodName := ⟨RX12, "boatTold", "(II)I"⟩
abbrev cX12_ofBoat : ByteArray := prog_14_method_48_code
def yX12_ofBoat : MethodName := ⟨RX12, "ofBoat", "([III)I"⟩
abbrev cX12_away : ByteArray := prog_14_method_49_code
def yX12_away : MethodName := ⟨RX12, "away", "([IIII)I"⟩
abbrev cX12_awayFrom : ByteArray := prog_14_method_50_code
def yX12_awayFrom : MethodName := ⟨RX12, "awayFrom", "([III)I"⟩
abbrev cX12_rises : ByteArray := prog_14_method_51_code
def yX12_rises : MethodName := ⟨RX12, "rises", "([I)Z"⟩
abbrev cX12_pushOf : ByteArray := prog_14_method_52_code
def yX12_pushOf : MethodName := ⟨RX12, "pushOf", "([III)I"⟩
abbrev cX12_drawBy : ByteArray := prog_14_method_53_code
def yX12_drawBy : MethodName := ⟨RX12, "drawBy", "(IIIIII)I"⟩
abbrev cX12_worthNow : ByteArray := prog_14_method_54_code
def yX12_worthNow : MethodName := ⟨RX12, "worthNow", "()I"⟩
abbrev cX12_barnaclesFor : ByteArray := prog_14_method_55_code
def yX12_barnaclesFor : MethodName := ⟨RX12, "barnaclesFor", "([III)I"⟩
abbrev cX12_drawOf : ByteArray := prog_14_method_56_code
def yX12_drawOf : MethodName := ⟨RX12, "drawOf", "([III)I"⟩
abbrev cX12_leanBy : ByteArray := prog_14_method_57_code
def yX12_leanBy : MethodName := ⟨RX12, "leanBy", "(II)I"⟩
abbrev cX12_leanOf : ByteArray := prog_14_method_58_code
def yX12_leanOf : MethodName := ⟨RX12, "leanOf", "([II)I"⟩
abbrev cX12_votesIn : ByteArray := prog_14_method_59_code
def yX12_votesIn : MethodName := ⟨RX12, "votesIn", "([II)I"⟩
abbrev cX12_leaderIn : ByteArray := prog_14_method_60_code
def yX12_leaderIn : MethodName := ⟨RX12, "leaderIn", "([I)I"⟩
abbrev cX12_towards : ByteArray := prog_14_method_61_code
def yX12_towards : MethodName := ⟨RX12, "towards", "(III)I"⟩
abbrev cX12_goHour : ByteArray := prog_14_method_62_code
def yX12_goHour : MethodName := ⟨RX12, "goHour", "([I)V"⟩
abbrev cX12_counts : ByteArray := prog_14_method_63_code
def yX12_counts : MethodName := ⟨RX12, "counts", "([II)V"⟩
abbrev cX12_rule : ByteArray := prog_14_method_64_code
def yX12_rule : MethodName := ⟨RX12, "rule", "(I)I"⟩
abbrev cX12_buoy : ByteArray := prog_14_method_65_code
def yX12_buoy : MethodName := ⟨RX12, "buoy", "(II)I"⟩
abbrev cX12_boat : ByteArray := prog_14_method_66_code
def yX12_boat : MethodName := ⟨RX12, "boat", "(II)I"⟩
abbrev cX12_law : ByteArray := prog_14_method_67_code
def yX12_law : MethodName := ⟨RX12, "law", "(I)Z"⟩
abbrev cX12_pull : ByteArray := prog_14_method_68_code
def yX12_pull : MethodName := ⟨RX12, "pull", "(II)I"⟩
abbrev cX12_push : ByteArray := prog_14_method_69_code
def yX12_push : MethodName := ⟨RX12, "push", "(II)I"⟩
abbrev cX12_remember : ByteArray := prog_14_method_70_code
def yX12_remember : MethodName := ⟨RX12, "remember", "()V"⟩
abbrev cX12_hoursFor : ByteArray := prog_14_method_71_code
def yX12_hoursFor : MethodName := ⟨RX12, "hoursFor", "(II)I"⟩
abbrev cX12_canRow : ByteArray := prog_14_method_72_code
def yX12_canRow : MethodName := ⟨RX12, "canRow", "([IIII)Z"⟩
abbrev cX12_rows : ByteArray := prog_14_method_73_code
def yX12_rows : MethodName := ⟨RX12, "rows", "([IIII)V"⟩
abbrev cX12_row : ByteArray := prog_14_method_74_code
def yX12_row : MethodName := ⟨RX12, "row", "(III)I"⟩
abbrev cX12_canSing : ByteArray := prog_14_method_75_code
def yX12_canSing : MethodName := ⟨RX12, "canSing", "([III)Z"⟩
abbrev cX12_sings : ByteArray := prog_14_method_76_code
def yX12_sings : MethodName := ⟨RX12, "sings", "([III)V"⟩
abbrev cX12_sing : ByteArray := prog_14_method_77_code
def yX12_sing : MethodName := ⟨RX12, "sing", "(II)I"⟩
abbrev cX12_canScrape : ByteArray := prog_14_method_78_code
def yX12_canScrape : MethodName := ⟨RX12, "canScrape", "([III)Z"⟩
abbrev cX12_scrape : ByteArray := prog_14_method_79_code
def yX12_scrape : MethodName := ⟨RX12, "scrape", "(II)I"⟩
abbrev cX12_wind : ByteArray := prog_14_method_80_code
def yX12_wind : MethodName := ⟨RX12, "wind", "(II)Z"⟩
abbrev cX12_mayPass : ByteArray := prog_14_method_81_code
def yX12_mayPass : MethodName := ⟨RX12, "mayPass", "([III)Z"⟩
abbrev cX12_hours : ByteArray := prog_14_method_82_code
def yX12_hours : MethodName := ⟨RX12, "hours", "(I)I"⟩
abbrev cX12_draw : ByteArray := prog_14_method_83_code
def yX12_draw : MethodName := ⟨RX12, "draw", "(I)I"⟩
abbrev cX12_years : ByteArray := prog_14_method_84_code
def yX12_years : MethodName := ⟨RX12, "years", "(IJ)I"⟩
abbrev cX12_undo : ByteArray := prog_14_method_85_code
def yX12_undo : MethodName := ⟨RX12, "undo", "()I"⟩
abbrev cX12_log : ByteArray := prog_14_method_86_code
def yX12_log : MethodName := ⟨RX12, "log", "(II)I"⟩
abbrev cX12_isPlan : ByteArray := prog_14_method_87_code
def yX12_isPlan : MethodName := ⟨RX12, "isPlan", "(I)Z"⟩
abbrev cX12_step : ByteArray := prog_14_method_88_code
def yX12_step : MethodName := ⟨RX12, "step", "(III)I"⟩
abbrev cX12_canStep : ByteArray := prog_14_method_89_code
def yX12_canStep : MethodName := ⟨RX12, "canStep", "([II)Z"⟩
abbrev cX12_steps : ByteArray := prog_14_method_90_code
def yX12_steps : MethodName := ⟨RX12, "steps", "([II)V"⟩
abbrev cX12_timesOf : ByteArray := prog_14_method_91_code
def yX12_timesOf : MethodName := ⟨RX12, "timesOf", "(I)I"⟩
abbrev cX12_run : ByteArray := prog_14_method_92_code
def yX12_run : MethodName := ⟨RX12, "run", "(II)I"⟩
abbrev cX12_perform : ByteArray := prog_14_method_93_code
def yX12_perform : MethodName := ⟨RX12, "perform", "(I)I"⟩
abbrev cX12_votes : ByteArray := prog_14_method_94_code
def yX12_votes : MethodName := ⟨RX12, "votes", "(I)I"⟩
abbrev cX12_leader : ByteArray := prog_14_method_95_code
def yX12_leader : MethodName := ⟨RX12, "leader", "()I"⟩
abbrev cX12_ahead : ByteArray := prog_14_method_96_code
def yX12_ahead : MethodName := ⟨RX12, "ahead", "(II)I"⟩
abbrev cX12_soon : ByteArray := prog_14_method_97_code
def yX12_soon : MethodName := ⟨RX12, "soon", "(II)I"⟩
abbrev cX12_goRound : ByteArray := prog_14_method_98_code
def yX12_goRound : MethodName := ⟨RX12, "goRound", "(IIIIII)V"⟩
abbrev cX12_round : ByteArray := prog_14_method_99_code
def yX12_round : MethodName := ⟨RX12, "round", "(III)I"⟩
abbrev cX12_puts : ByteArray := prog_14_method_100_code
def yX12_puts : MethodName := ⟨RX12, "puts", "([IIII)V"⟩
abbrev cX12_best : ByteArray := prog_14_method_101_code
def yX12_best : MethodName := ⟨RX12, "best", "(II)I"⟩
abbrev cX12_areTwo : ByteArray := prog_14_method_102_code
def yX12_areTwo : MethodName := ⟨RX12, "areTwo", "(II)Z"⟩
abbrev cX12_layAt : ByteArray := prog_14_method_103_code
def yX12_layAt : MethodName := ⟨RX12, "layAt", "(IIII)V"⟩
abbrev cX12_gameOf : ByteArray := prog_14_method_104_code
def yX12_gameOf : MethodName := ⟨RX12, "gameOf", "(IIIII)I"⟩
abbrev cX12_game : ByteArray := prog_14_method_105_code
def yX12_game : MethodName := ⟨RX12, "game", "(IIIII)I"⟩
abbrev cX12_layGains : ByteArray := prog_14_method_106_code
def yX12_layGains : MethodName := ⟨RX12, "layGains", "(II)V"⟩
abbrev cX12_gain : ByteArray := prog_14_method_107_code
def yX12_gain : MethodName := ⟨RX12, "gain", "(III)I"⟩
abbrev cX12_isRest : ByteArray := prog_14_method_108_code
def yX12_isRest : MethodName := ⟨RX12, "isRest", "(II)Z"⟩
abbrev cX12_rests : ByteArray := prog_14_method_109_code
def yX12_rests : MethodName := ⟨RX12, "rests", "(III)I"⟩
abbrev cX12_holds : ByteArray := prog_14_method_110_code
def yX12_holds : MethodName := ⟨RX12, "holds", "(III)I"⟩
abbrev cX12_seen : ByteArray := prog_14_method_111_code
def yX12_seen : MethodName := ⟨RX12, "seen", "(IIII)I"⟩
abbrev cX12_answer : ByteArray := prog_14_method_112_code
def yX12_answer : MethodName := ⟨RX12, "answer", "(IIII)I"⟩
abbrev cX12_fits : ByteArray := prog_14_method_113_code
def yX12_fits : MethodName := ⟨RX12, "fits", "(II)Z"⟩
abbrev cX12_likes : ByteArray := prog_14_method_114_code
def yX12_likes : MethodName := ⟨RX12, "likes", "(II)I"⟩
abbrev cX12_ask : ByteArray := prog_14_method_115_code
def yX12_ask : MethodName := ⟨RX12, "ask", "(I)I"⟩
abbrev cX12_blown : ByteArray := prog_14_method_116_code
def yX12_blown : MethodName := ⟨RX12, "blown", "(II)I"⟩
abbrev cX12_washed : ByteArray := prog_14_method_117_code
def yX12_washed : MethodName := ⟨RX12, "washed", "(III)I"⟩
abbrev cX12_apart : ByteArray := prog_14_method_118_code
def yX12_apart : MethodName := ⟨RX12, "apart", "(II)I"⟩
abbrev cX12_watches : ByteArray := prog_14_method_119_code
def yX12_watches : MethodName := ⟨RX12, "watches", "(II)Z"⟩
abbrev cX12_watch : ByteArray := prog_14_method_120_code
def yX12_watch : MethodName := ⟨RX12, "watch", "(I)I"⟩
abbrev cX12_fair : ByteArray := prog_14_method_121_code
def yX12_fair : MethodName := ⟨RX12, "fair", "(II)I"⟩
abbrev cX12_buoys : ByteArray := prog_14_method_122_code
def yX12_buoys : MethodName := ⟨RX12, "buoys", "(I)I"⟩
abbrev cX12_sways : ByteArray := prog_14_method_123_code
def yX12_sways : MethodName := ⟨RX12, "sways", "(II)I"⟩
abbrev cX12_nearest : ByteArray := prog_14_method_124_code
def yX12_nearest : MethodName := ⟨RX12, "nearest", "(I)I"⟩
abbrev cX12_fogOf : ByteArray := prog_14_method_125_code
def yX12_fogOf : MethodName := ⟨RX12, "fogOf", "(IIIJ)J"⟩
abbrev cX12_fog : ByteArray := prog_14_method_126_code
def yX12_fog : MethodName := ⟨RX12, "fog", "(II)I"⟩
abbrev cX12_needs : ByteArray := prog_14_method_127_code
def yX12_needs : MethodName := ⟨RX12, "needs", "(II)I"⟩
abbrev cX12_heard : ByteArray := prog_14_method_128_code
def yX12_heard : MethodName := ⟨RX12, "heard", "(I)I"⟩
abbrev cX12_middle : ByteArray := prog_14_method_129_code
def yX12_middle : MethodName := ⟨RX12, "middle", "()I"⟩
abbrev cX12_image : ByteArray := prog_14_method_130_code
def yX12_image : MethodName := ⟨RX12, "image", "()I"⟩
abbrev cX12_back : ByteArray := prog_14_method_131_code
def yX12_back : MethodName := ⟨RX12, "back", "()I"⟩
abbrev cX12_count : ByteArray := prog_14_method_132_code
def yX12_count : MethodName := ⟨RX12, "count", "(I)I"⟩
def RJx145de : String := "java/io/Serializable"
def RJx9f9b0 : String := "java/lang/CharSequence"
def RJ11 : String := "java/lang/Character"
abbrev cJ11_isValidCodePoint_9a6ad : ByteArray := prog_17_method_11_code
def yJ11_isValidCodePoint_9a6ad : MethodName := ⟨RJ11, "isValidCodePoint", "(I)Z"⟩
abbrev cJ11_highSurrogate_5068e : ByteArray := prog_17_method_28_code
def yJ11_highSurrogate_5068e : MethodName := ⟨RJ11, "highSurrogate", "(I)C"⟩
abbrev cJ11_lowSurrogate_5068e : ByteArray := prog_17_method_29_code
def yJ11_lowSurrogate_5068e : MethodName := ⟨RJ11, "lowSurrogate", "(I)C"⟩
def RJxb160c : String := "java/lang/Comparable"
def RJ6 : String := "java/lang/Integer"
abbrev cJ6_bitCount_0f7a4 : ByteArray := prog_20_method_49_code
def yJ6_bitCount_0f7a4 : MethodName := ⟨RJ6, "bitCount", "(I)I"⟩
def RJ9 : String := "java/lang/Math"
abbrev cJ9_abs_0f7a4 : ByteArray := prog_21_method_59_code
def yJ9_abs_0f7a4 : MethodName := ⟨RJ9, "abs", "(I)I"⟩
abbrev cJ9_max_7cf53 : ByteArray := prog_21_method_65_code
def yJ9_max_7cf53 : MethodName := ⟨RJ9, "max", "(II)I"⟩
abbrev cJ9_max_f86c9 : ByteArray := prog_21_method_66_code
def yJ9_max_f86c9 : MethodName := ⟨RJ9, "max", "(JJ)J"⟩
abbrev cJ9_min_7cf53 : ByteArray := prog_21_method_69_code
def yJ9_min_7cf53 : MethodName := ⟨RJ9, "min", "(II)I"⟩
abbrev cJ9_min_f86c9 : ByteArray := prog_21_method_70_code
def yJ9_min_f86c9 : MethodName := ⟨RJ9, "min", "(JJ)J"⟩
def RJ0 : String := "java/lang/String"
abbrev cJ0_length_8abf5 : ByteArray := prog_23_method_54_code
def yJ0_length_8abf5 : MethodName := ⟨RJ0, "length", "()I"⟩
abbrev cJ0_charAt_5068e : ByteArray := prog_23_method_56_code
def yJ0_charAt_5068e : MethodName := ⟨RJ0, "charAt", "(I)C"⟩
abbrev cJ0_indexOf_0f7a4 : ByteArray := prog_23_method_79_code
def yJ0_indexOf_0f7a4 : MethodName := ⟨RJ0, "indexOf", "(I)I"⟩
abbrev cJ0_indexOf_7cf53 : ByteArray := prog_23_method_80_code
def yJ0_indexOf_7cf53 : MethodName := ⟨RJ0, "indexOf", "(II)I"⟩
abbrev cJ0_coder_7d493 : ByteArray := prog_23_method_152_code
def yJ0_coder_7d493 : MethodName := ⟨RJ0, "coder", "()B"⟩
abbrev cJ0_isLatin1_aae02 : ByteArray := prog_23_method_154_code
def yJ0_isLatin1_aae02 : MethodName := ⟨RJ0, "isLatin1", "()Z"⟩
abbrev cJ0_checkIndex_df160 : ByteArray := prog_23_method_155_code
def yJ0_checkIndex_df160 : MethodName := ⟨RJ0, "checkIndex", "(II)V"⟩
abbrev cJ0_checkBoundsBeginEnd_23922 : ByteArray := prog_23_method_158_code
def yJ0_checkBoundsBeginEnd_23922 : MethodName := ⟨RJ0, "checkBoundsBeginEnd", "(III)V"⟩
def RJ1 : String := "java/lang/StringLatin1"
abbrev cJ1_charAt_3b067 : ByteArray := prog_24_method_2_code
def yJ1_charAt_3b067 : MethodName := ⟨RJ1, "charAt", "([BI)C"⟩
abbrev cJ1_canEncode_9a6ad : ByteArray := prog_24_method_4_code
def yJ1_canEncode_9a6ad : MethodName := ⟨RJ1, "canEncode", "(I)Z"⟩
abbrev cJ1_indexOf_4cfef : ByteArray := prog_24_method_22_code
def yJ1_indexOf_4cfef : MethodName := ⟨RJ1, "indexOf", "([BIII)I"⟩
abbrev cJ1_indexOfChar_4cfef : ByteArray := prog_24_method_23_code
def yJ1_indexOfChar_4cfef : MethodName := ⟨RJ1, "indexOfChar", "([BIII)I"⟩
def RJ2 : String := "java/lang/StringUTF16"
abbrev cJ2_getChar_3b067 : ByteArray := prog_25_method_5_code
def yJ2_getChar_3b067 : MethodName := ⟨RJ2, "getChar", "([BI)C"⟩
abbrev cJ2_length_9d52b : ByteArray := prog_25_method_6_code
def yJ2_length_9d52b : MethodName := ⟨RJ2, "length", "([B)I"⟩
abbrev cJ2_indexOf_4cfef : ByteArray := prog_25_method_40_code
def yJ2_indexOf_4cfef : MethodName := ⟨RJ2, "indexOf", "([BIII)I"⟩
abbrev cJ2_indexOfChar_4cfef : ByteArray := prog_25_method_47_code
def yJ2_indexOfChar_4cfef : MethodName := ⟨RJ2, "indexOfChar", "([BIII)I"⟩
abbrev cJ2_indexOfCharUnsafe_4cfef : ByteArray := prog_25_method_48_code
def yJ2_indexOfCharUnsafe_4cfef : MethodName := ⟨RJ2, "indexOfCharUnsafe", "([BIII)I"⟩
abbrev cJ2_indexOfSupplementary_4cfef : ByteArray := prog_25_method_49_code
def yJ2_indexOfSupplementary_4cfef : MethodName := ⟨RJ2, "indexOfSupplementary", "([BIII)I"⟩
abbrev cJ2_charAt_3b067 : ByteArray := prog_25_method_83_code
def yJ2_charAt_3b067 : MethodName := ⟨RJ2, "charAt", "([BI)C"⟩
abbrev cJ2_checkIndex_2214a : ByteArray := prog_25_method_91_code
def yJ2_checkIndex_2214a : MethodName := ⟨RJ2, "checkIndex", "(I[B)V"⟩
abbrev cJ2_checkBoundsBeginEnd_d044e : ByteArray := prog_25_method_93_code
def yJ2_checkBoundsBeginEnd_d044e : MethodName := ⟨RJ2, "checkBoundsBeginEnd", "(II[B)V"⟩
def RJ10 : String := "java/lang/System"
def RJxfd54e : String := "java/lang/constant/Constable"
def RJx3cf43 : String := "java/lang/constant/ConstantDesc"
def RJ3 : String := "jdk/internal/util/Preconditions"
abbrev cJ3_checkIndex_8e157 : ByteArray := prog_31_method_11_code
def yJ3_checkIndex_8e157 : MethodName := ⟨RJ3, "checkIndex", "(IILjava/util/function/BiFunction;)I"⟩
abbrev cJ3_checkFromToIndex_8c36e : ByteArray := prog_31_method_12_code
def yJ3_checkFromToIndex_8c36e : MethodName := ⟨RJ3, "checkFromToIndex", "(IIILjava/util/function/BiFunction;)I"⟩
def RL : String := "BuoyVoteLaw"
abbrev cL_buoy : ByteArray := method_3_code
def yL_buoy : MethodName := ⟨RL, "buoy", "(LBuoyVote;II[J)I"⟩
abbrev cL_law : ByteArray := code
def yL_law : MethodName := ⟨RL, "law", "([I)Z"⟩
theorem dX0_tideHours_0 : decode cX0_tideHours 0 = .ok (.aload_n 0, 1) := by decide +kernel
theorem dX0_tideHours_1 : decode cX0_tideHours 1 = .ok (.getfield 11, 3) := by decide +kernel
theorem dX0_tideHours_4 : decode cX0_tideHours 4 = .ok (.iconst 2, 1) := by decide +kernel
theorem dX0_tideHours_5 : decode cX0_tideHours 5 = .ok (.iaload, 1) := by decide +kernel
theorem dX0_tideHours_6 : decode cX0_tideHours 6 = .ok (.ireturn, 1) := by decide +kernel
theorem dX0_countHours_0 : decode cX0_countHours 0 = .ok (.aload_n 0, 1) := by decide +kernel
theorem dX0_countHours_1 : decode cX0_countHours 1 = .ok (.getfield 11, 3) := by decide +kernel
theorem dX0_countHours_4 : decode cX0_countHours 4 = .ok (.iconst 3, 1) := by decide +kernel
theorem dX0_countHours_5 : decode cX0_countHours 5 = .ok (.iaload, 1) := by decide +kernel
theorem dX0_countHours_6 : decode cX0_countHours 6 = .ok (.ireturn, 1) := by decide +kernel
theorem dX0_buoyX_0 : decode cX0_buoyX 0 = .ok (.aload_n 0, 1) := by decide +kernel
theorem dX0_buoyX_1 : decode cX0_buoyX 1 = .ok (.getfield 11, 3) := by decide +kernel
theorem dX0_buoyX_4 : decode cX0_buoyX 4 = .ok (.iconst 4, 1) := by decide +kernel
theorem dX0_buoyX_5 : decode cX0_buoyX 5 = .ok (.iload_n 1, 1) := by decide +kernel
theorem dX0_buoyX_6 : decode cX0_buoyX 6 = .ok (.bipush 8, 2) := by decide +kernel
theorem dX0_buoyX_8 : decode cX0_buoyX 8 = .ok (.imul, 1) := by decide +kernel
theorem dX0_buoyX_9 : decode cX0_buoyX 9 = .ok (.iadd, 1) := by decide +kernel
theorem dX0_buoyX_10 : decode cX0_buoyX 10 = .ok (.iaload, 1) := by decide +kernel
theorem dX0_buoyX_11 : decode cX0_buoyX 11 = .ok (.ireturn, 1) := by decide +kernel
theorem dX0_buoyY_0 : decode cX0_buoyY 0 = .ok (.aload_n 0, 1) := by decide +kernel
theorem dX0_buoyY_1 : decode cX0_buoyY 1 = .ok (.getfield 11, 3) := by decide +kernel
theorem dX0_buoyY_4 : decode cX0_buoyY 4 = .ok (.iconst 4, 1) := by decide +kernel
theorem dX0_buoyY_5 : decode cX0_buoyY 5 = .ok (.iload_n 1, 1) := by decide +kernel
theorem dX0_buoyY_6 : decode cX0_buoyY 6 = .ok (.bipush 8, 2) := by decide +kernel
theorem dX0_buoyY_8 : decode cX0_buoyY 8 = .ok (.imul, 1) := by decide +kernel
theorem dX0_buoyY_9 : decode cX0_buoyY 9 = .ok (.iadd, 1) := by decide +kernel
theorem dX0_buoyY_10 : decode cX0_buoyY 10 = .ok (.iconst 1, 1) := by decide +kernel
theorem dX0_buoyY_11 : decode cX0_buoyY 11 = .ok (.iadd, 1) := by decide +kernel
theorem dX0_buoyY_12 : decode cX0_buoyY 12 = .ok (.iaload, 1) := by decide +kernel
theorem dX0_buoyY_13 : decode cX0_buoyY 13 = .ok (.ireturn, 1) := by decide +kernel
theorem dX0_speed_0 : decode cX0_speed 0 = .ok (.aload_n 0, 1) := by decide +kernel
theorem dX0_speed_1 : decode cX0_speed 1 = .ok (.getfield 11, 3) := by decide +kernel
theorem dX0_speed_4 : decode cX0_speed 4 = .ok (.bipush 68, 2) := by decide +kernel
theorem dX0_speed_6 : decode cX0_speed 6 = .ok (.iload_n 1, 1) := by decide +kernel
theorem dX0_speed_7 : decode cX0_speed 7 = .ok (.iconst 4, 1) := by decide +kernel
theorem dX0_speed_8 : decode cX0_speed 8 = .ok (.imul, 1) := by decide +kernel
theorem dX0_speed_9 : decode cX0_speed 9 = .ok (.iadd, 1) := by decide +kernel
theorem dX0_speed_10 : decode cX0_speed 10 = .ok (.iconst 2, 1) := by decide +kernel
theorem dX0_speed_11 : decode cX0_speed 11 = .ok (.iadd, 1) := by decide +kernel
theorem dX0_speed_12 : decode cX0_speed 12 = .ok (.iaload, 1) := by decide +kernel
theorem dX0_speed_13 : decode cX0_speed 13 = .ok (.ireturn, 1) := by decide +kernel
theorem dX0_voice_0 : decode cX0_voice 0 = .ok (.aload_n 0, 1) := by decide +kernel
theorem dX0_voice_1 : decode cX0_voice 1 = .ok (.getfield 11, 3) := by decide +kernel
theorem dX0_voice_4 : decode cX0_voice 4 = .ok (.bipush 68, 2) := by decide +kernel
theorem dX0_voice_6 : decode cX0_voice 6 = .ok (.iload_n 1, 1) := by decide +kernel
theorem dX0_voice_7 : decode cX0_voice 7 = .ok (.iconst 4, 1) := by decide +kernel
theorem dX0_voice_8 : decode cX0_voice 8 = .ok (.imul, 1) := by decide +kernel
theorem dX0_voice_9 : decode cX0_voice 9 = .ok (.iadd, 1) := by decide +kernel
theorem dX0_voice_10 : decode cX0_voice 10 = .ok (.iconst 3, 1) := by decide +kernel
theorem dX0_voice_11 : decode cX0_voice 11 = .ok (.iadd, 1) := by decide +kernel
theorem dX0_voice_12 : decode cX0_voice 12 = .ok (.iaload, 1) := by decide +kernel
theorem dX0_voice_13 : decode cX0_voice 13 = .ok (.ireturn, 1) := by decide +kernel
theorem dX1_between_0 : decode cX1_between 0 = .ok (.aload_n 0, 1) := by decide +kernel
theorem dX1_between_1 : decode cX1_between 1 = .ok (.getfield 9, 3) := by decide +kernel
theorem dX1_between_4 : decode cX1_between 4 = .ok (.iload_n 1, 1) := by decide +kernel
theorem dX1_between_5 : decode cX1_between 5 = .ok (.invokevirtual 35, 3) := by decide +kernel
theorem dX1_between_8 : decode cX1_between 8 = .ok (.iload_n 2, 1) := by decide +kernel
theorem dX1_between_9 : decode cX1_between 9 = .ok (.isub, 1) := by decide +kernel
theorem dX1_between_10 : decode cX1_between 10 = .ok (.invokestatic 62, 3) := by decide +kernel
theorem dX1_between_13 : decode cX1_between 13 = .ok (.aload_n 0, 1) := by decide +kernel
theorem dX1_between_14 : decode cX1_between 14 = .ok (.getfield 9, 3) := by decide +kernel
theorem dX1_between_17 : decode cX1_between 17 = .ok (.iload_n 1, 1) := by decide +kernel
theorem dX1_between_18 : decode cX1_between 18 = .ok (.invokevirtual 38, 3) := by decide +kernel
theorem dX1_between_21 : decode cX1_between 21 = .ok (.iload_n 3, 1) := by decide +kernel
theorem dX1_between_22 : decode cX1_between 22 = .ok (.isub, 1) := by decide +kernel
theorem dX1_between_23 : decode cX1_between 23 = .ok (.invokestatic 62, 3) := by decide +kernel
theorem dX1_between_26 : decode cX1_between 26 = .ok (.iadd, 1) := by decide +kernel
theorem dX1_between_27 : decode cX1_between 27 = .ok (.ireturn, 1) := by decide +kernel
theorem dX1_fewestWatchers_0 : decode cX1_fewestWatchers 0 = .ok (.iconst 1, 1) := by decide +kernel
theorem dX1_fewestWatchers_1 : decode cX1_fewestWatchers 1 = .ok (.aload_n 0, 1) := by decide +kernel
theorem dX1_fewestWatchers_2 : decode cX1_fewestWatchers 2 = .ok (.getfield 9, 3) := by decide +kernel
theorem dX1_fewestWatchers_5 : decode cX1_fewestWatchers 5 = .ok (.getfield 31, 3) := by decide +kernel
theorem dX1_fewestWatchers_8 : decode cX1_fewestWatchers 8 = .ok (.ishl, 1) := by decide +kernel
theorem dX1_fewestWatchers_9 : decode cX1_fewestWatchers 9 = .ok (.iconst 1, 1) := by decide +kernel
theorem dX1_fewestWatchers_10 : decode cX1_fewestWatchers 10 = .ok (.isub, 1) := by decide +kernel
theorem dX1_fewestWatchers_11 : decode cX1_fewestWatchers 11 = .ok (.istore_n 2, 1) := by decide +kernel
theorem dX1_fewestWatchers_12 : decode cX1_fewestWatchers 12 = .ok (.iconst 1, 1) := by decide +kernel
theorem dX1_fewestWatchers_13 : decode cX1_fewestWatchers 13 = .ok (.istore_n 3, 1) := by decide +kernel
theorem dX1_fewestWatchers_14 : decode cX1_fewestWatchers 14 = .ok (.iload_n 3, 1) := by decide +kernel
theorem dX1_fewestWatchers_15 : decode cX1_fewestWatchers 15 = .ok (.iconst 1, 1) := by decide +kernel
theorem dX1_fewestWatchers_16 : decode cX1_fewestWatchers 16 = .ok (.aload_n 0, 1) := by decide +kernel
theorem dX1_fewestWatchers_17 : decode cX1_fewestWatchers 17 = .ok (.getfield 9, 3) := by decide +kernel
theorem dX1_fewestWatchers_20 : decode cX1_fewestWatchers 20 = .ok (.getfield 31, 3) := by decide +kernel
theorem dX1_fewestWatchers_23 : decode cX1_fewestWatchers 23 = .ok (.ishl, 1) := by decide +kernel
theorem dX1_fewestWatchers_24 : decode cX1_fewestWatchers 24 = .ok (.if_icmp .ge 71, 3) := by decide +kernel
theorem dX1_fewestWatchers_27 : decode cX1_fewestWatchers 27 = .ok (.iload_n 3, 1) := by decide +kernel
theorem dX1_fewestWatchers_28 : decode cX1_fewestWatchers 28 = .ok (.invokestatic 67, 3) := by decide +kernel
theorem dX1_fewestWatchers_31 : decode cX1_fewestWatchers 31 = .ok (.iload_n 2, 1) := by decide +kernel
theorem dX1_fewestWatchers_32 : decode cX1_fewestWatchers 32 = .ok (.invokestatic 67, 3) := by decide +kernel
theorem dX1_fewestWatchers_35 : decode cX1_fewestWatchers 35 = .ok (.if_icmp .ge 7, 3) := by decide +kernel
theorem dX1_fewestWatchers_38 : decode cX1_fewestWatchers 38 = .ok (.iconst 1, 1) := by decide +kernel
theorem dX1_fewestWatchers_39 : decode cX1_fewestWatchers 39 = .ok (.goto 4, 3) := by decide +kernel
theorem dX1_fewestWatchers_42 : decode cX1_fewestWatchers 42 = .ok (.iconst 0, 1) := by decide +kernel
theorem dX1_fewestWatchers_43 : decode cX1_fewestWatchers 43 = .ok (.istore 4, 2) := by decide +kernel
theorem dX1_fewestWatchers_45 : decode cX1_fewestWatchers 45 = .ok (.iload_n 3, 1) := by decide +kernel
theorem dX1_fewestWatchers_46 : decode cX1_fewestWatchers 46 = .ok (.invokestatic 67, 3) := by decide +kernel
theorem dX1_fewestWatchers_49 : decode cX1_fewestWatchers 49 = .ok (.iload_n 2, 1) := by decide +kernel
theorem dX1_fewestWatchers_50 : decode cX1_fewestWatchers 50 = .ok (.invokestatic 67, 3) := by decide +kernel
theorem dX1_fewestWatchers_53 : decode cX1_fewestWatchers 53 = .ok (.if_icmp .ne 12, 3) := by decide +kernel
theorem dX1_fewestWatchers_56 : decode cX1_fewestWatchers 56 = .ok (.iload_n 3, 1) := by decide +kernel
theorem dX1_fewestWatchers_57 : decode cX1_fewestWatchers 57 = .ok (.iload_n 2, 1) := by decide +kernel
theorem dX1_fewestWatchers_58 : decode cX1_fewestWatchers 58 = .ok (.if_icmp .ge 7, 3) := by decide +kernel
theorem dX1_fewestWatchers_61 : decode cX1_fewestWatchers 61 = .ok (.iconst 1, 1) := by decide +kernel
theorem dX1_fewestWatchers_62 : decode cX1_fewestWatchers 62 = .ok (.goto 4, 3) := by decide +kernel
theorem dX1_fewestWatchers_65 : decode cX1_fewestWatchers 65 = .ok (.iconst 0, 1) := by decide +kernel
theorem dX1_fewestWatchers_66 : decode cX1_fewestWatchers 66 = .ok (.istore 5, 2) := by decide +kernel
theorem dX1_fewestWatchers_68 : decode cX1_fewestWatchers 68 = .ok (.iload 4, 2) := by decide +kernel
theorem dX1_fewestWatchers_70 : decode cX1_fewestWatchers 70 = .ok (.ifCond .ne 8, 3) := by decide +kernel
theorem dX1_fewestWatchers_73 : decode cX1_fewestWatchers 73 = .ok (.iload 5, 2) := by decide +kernel
theorem dX1_fewestWatchers_75 : decode cX1_fewestWatchers 75 = .ok (.ifCond .eq 14, 3) := by decide +kernel
theorem dX1_fewestWatchers_78 : decode cX1_fewestWatchers 78 = .ok (.aload_n 0, 1) := by decide +kernel
theorem dX1_fewestWatchers_79 : decode cX1_fewestWatchers 79 = .ok (.iload_n 3, 1) := by decide +kernel
theorem dX1_fewestWatchers_80 : decode cX1_fewestWatchers 80 = .ok (.iload_n 1, 1) := by decide +kernel
theorem dX1_fewestWatchers_81 : decode cX1_fewestWatchers 81 = .ok (.invokevirtual 72, 3) := by decide +kernel
theorem dX1_fewestWatchers_84 : decode cX1_fewestWatchers 84 = .ok (.ifCond .eq 5, 3) := by decide +kernel
theorem dX1_fewestWatchers_87 : decode cX1_fewestWatchers 87 = .ok (.iload_n 3, 1) := by decide +kernel
theorem dX1_fewestWatchers_88 : decode cX1_fewestWatchers 88 = .ok (.istore_n 2, 1) := by decide +kernel
theorem dX1_fewestWatchers_89 : decode cX1_fewestWatchers 89 = .ok (.iinc 3 1, 3) := by decide +kernel
theorem dX1_fewestWatchers_92 : decode cX1_fewestWatchers 92 = .ok (.goto (-78), 3) := by decide +kernel
theorem dX1_fewestWatchers_95 : decode cX1_fewestWatchers 95 = .ok (.iload_n 2, 1) := by decide +kernel
theorem dX1_fewestWatchers_96 : decode cX1_fewestWatchers 96 = .ok (.ireturn, 1) := by decide +kernel
theorem dX1_isWatched_0 : decode cX1_isWatched 0 = .ok (.iconst 0, 1) := by decide +kernel
theorem dX1_isWatched_1 : decode cX1_isWatched 1 = .ok (.istore_n 3, 1) := by decide +kernel
theorem dX1_isWatched_2 : decode cX1_isWatched 2 = .ok (.iload_n 3, 1) := by decide +kernel
theorem dX1_isWatched_3 : decode cX1_isWatched 3 = .ok (.aload_n 0, 1) := by decide +kernel
theorem dX1_isWatched_4 : decode cX1_isWatched 4 = .ok (.getfield 9, 3) := by decide +kernel
theorem dX1_isWatched_7 : decode cX1_isWatched 7 = .ok (.getfield 31, 3) := by decide +kernel
theorem dX1_isWatched_10 : decode cX1_isWatched 10 = .ok (.if_icmp .ge 87, 3) := by decide +kernel
theorem dX1_isWatched_13 : decode cX1_isWatched 13 = .ok (.iconst 0, 1) := by decide +kernel
theorem dX1_isWatched_14 : decode cX1_isWatched 14 = .ok (.istore 4, 2) := by decide +kernel
theorem dX1_isWatched_16 : decode cX1_isWatched 16 = .ok (.iconst 0, 1) := by decide +kernel
theorem dX1_isWatched_17 : decode cX1_isWatched 17 = .ok (.istore 5, 2) := by decide +kernel
theorem dX1_isWatched_19 : decode cX1_isWatched 19 = .ok (.iload 5, 2) := by decide +kernel
theorem dX1_isWatched_21 : decode cX1_isWatched 21 = .ok (.aload_n 0, 1) := by decide +kernel
theorem dX1_isWatched_22 : decode cX1_isWatched 22 = .ok (.getfield 9, 3) := by decide +kernel
theorem dX1_isWatched_25 : decode cX1_isWatched 25 = .ok (.getfield 31, 3) := by decide +kernel
theorem dX1_isWatched_28 : decode cX1_isWatched 28 = .ok (.if_icmp .ge 56, 3) := by decide +kernel
theorem dX1_isWatched_31 : decode cX1_isWatched 31 = .ok (.iload 4, 2) := by decide +kernel
theorem dX1_isWatched_33 : decode cX1_isWatched 33 = .ok (.ifCond .ne 51, 3) := by decide +kernel
theorem dX1_isWatched_36 : decode cX1_isWatched 36 = .ok (.iload_n 1, 1) := by decide +kernel
theorem dX1_isWatched_37 : decode cX1_isWatched 37 = .ok (.iload 5, 2) := by decide +kernel
theorem dX1_isWatched_39 : decode cX1_isWatched 39 = .ok (.ishr, 1) := by decide +kernel
theorem dX1_isWatched_40 : decode cX1_isWatched 40 = .ok (.iconst 1, 1) := by decide +kernel
theorem dX1_isWatched_41 : decode cX1_isWatched 41 = .ok (.iand, 1) := by decide +kernel
theorem dX1_isWatched_42 : decode cX1_isWatched 42 = .ok (.ifCond .eq 33, 3) := by decide +kernel
theorem dX1_isWatched_45 : decode cX1_isWatched 45 = .ok (.aload_n 0, 1) := by decide +kernel
theorem dX1_isWatched_46 : decode cX1_isWatched 46 = .ok (.iload 5, 2) := by decide +kernel
theorem dX1_isWatched_48 : decode cX1_isWatched 48 = .ok (.aload_n 0, 1) := by decide +kernel
theorem dX1_isWatched_49 : decode cX1_isWatched 49 = .ok (.getfield 9, 3) := by decide +kernel
theorem dX1_isWatched_52 : decode cX1_isWatched 52 = .ok (.iload_n 3, 1) := by decide +kernel
theorem dX1_isWatched_53 : decode cX1_isWatched 53 = .ok (.invokevirtual 35, 3) := by decide +kernel
theorem dX1_isWatched_56 : decode cX1_isWatched 56 = .ok (.aload_n 0, 1) := by decide +kernel
theorem dX1_isWatched_57 : decode cX1_isWatched 57 = .ok (.getfield 9, 3) := by decide +kernel
theorem dX1_isWatched_60 : decode cX1_isWatched 60 = .ok (.iload_n 3, 1) := by decide +kernel
theorem dX1_isWatched_61 : decode cX1_isWatched 61 = .ok (.invokevirtual 38, 3) := by decide +kernel
theorem dX1_isWatched_64 : decode cX1_isWatched 64 = .ok (.invokevirtual 51, 3) := by decide +kernel
theorem dX1_isWatched_67 : decode cX1_isWatched 67 = .ok (.iload_n 2, 1) := by decide +kernel
theorem dX1_isWatched_68 : decode cX1_isWatched 68 = .ok (.if_icmp .gt 7, 3) := by decide +kernel
theorem dX1_isWatched_71 : decode cX1_isWatched 71 = .ok (.iconst 1, 1) := by decide +kernel
theorem dX1_isWatched_72 : decode cX1_isWatched 72 = .ok (.goto 4, 3) := by decide +kernel
theorem dX1_isWatched_75 : decode cX1_isWatched 75 = .ok (.iconst 0, 1) := by decide +kernel
theorem dX1_isWatched_76 : decode cX1_isWatched 76 = .ok (.istore 4, 2) := by decide +kernel
theorem dX1_isWatched_78 : decode cX1_isWatched 78 = .ok (.iinc 5 1, 3) := by decide +kernel
theorem dX1_isWatched_81 : decode cX1_isWatched 81 = .ok (.goto (-62), 3) := by decide +kernel
theorem dX1_isWatched_84 : decode cX1_isWatched 84 = .ok (.iload 4, 2) := by decide +kernel
theorem dX1_isWatched_86 : decode cX1_isWatched 86 = .ok (.ifCond .ne 5, 3) := by decide +kernel
theorem dX1_isWatched_89 : decode cX1_isWatched 89 = .ok (.iconst 0, 1) := by decide +kernel
theorem dX1_isWatched_90 : decode cX1_isWatched 90 = .ok (.ireturn, 1) := by decide +kernel
theorem dX1_isWatched_91 : decode cX1_isWatched 91 = .ok (.iinc 3 1, 3) := by decide +kernel
theorem dX1_isWatched_94 : decode cX1_isWatched 94 = .ok (.goto (-92), 3) := by decide +kernel
theorem dX1_isWatched_97 : decode cX1_isWatched 97 = .ok (.iconst 1, 1) := by decide +kernel
theorem dX1_isWatched_98 : decode cX1_isWatched 98 = .ok (.ireturn, 1) := by decide +kernel
theorem dX1_middlePlace_0 : decode cX1_middlePlace 0 = .ok (.iconst 0, 1) := by decide +kernel
theorem dX1_middlePlace_1 : decode cX1_middlePlace 1 = .ok (.istore_n 1, 1) := by decide +kernel
theorem dX1_middlePlace_2 : decode cX1_middlePlace 2 = .ok (.ldc 61, 2) := by decide +kernel
theorem dX1_middlePlace_4 : decode cX1_middlePlace 4 = .ok (.istore_n 2, 1) := by decide +kernel
theorem dX1_middlePlace_5 : decode cX1_middlePlace 5 = .ok (.iconst 0, 1) := by decide +kernel
theorem dX1_middlePlace_6 : decode cX1_middlePlace 6 = .ok (.istore_n 3, 1) := by decide +kernel
theorem dX1_middlePlace_7 : decode cX1_middlePlace 7 = .ok (.iload_n 3, 1) := by decide +kernel
theorem dX1_middlePlace_8 : decode cX1_middlePlace 8 = .ok (.bipush 100, 2) := by decide +kernel
theorem dX1_middlePlace_10 : decode cX1_middlePlace 10 = .ok (.if_icmp .ge 63, 3) := by decide +kernel
theorem dX1_middlePlace_13 : decode cX1_middlePlace 13 = .ok (.iconst 0, 1) := by decide +kernel
theorem dX1_middlePlace_14 : decode cX1_middlePlace 14 = .ok (.istore 4, 2) := by decide +kernel
theorem dX1_middlePlace_16 : decode cX1_middlePlace 16 = .ok (.iconst 0, 1) := by decide +kernel
theorem dX1_middlePlace_17 : decode cX1_middlePlace 17 = .ok (.istore 5, 2) := by decide +kernel
theorem dX1_middlePlace_19 : decode cX1_middlePlace 19 = .ok (.iload 5, 2) := by decide +kernel
theorem dX1_middlePlace_21 : decode cX1_middlePlace 21 = .ok (.aload_n 0, 1) := by decide +kernel
theorem dX1_middlePlace_22 : decode cX1_middlePlace 22 = .ok (.getfield 9, 3) := by decide +kernel
theorem dX1_middlePlace_25 : decode cX1_middlePlace 25 = .ok (.getfield 31, 3) := by decide +kernel
theorem dX1_middlePlace_28 : decode cX1_middlePlace 28 = .ok (.if_icmp .ge 28, 3) := by decide +kernel
theorem dX1_middlePlace_31 : decode cX1_middlePlace 31 = .ok (.iload 4, 2) := by decide +kernel
theorem dX1_middlePlace_33 : decode cX1_middlePlace 33 = .ok (.aload_n 0, 1) := by decide +kernel
theorem dX1_middlePlace_34 : decode cX1_middlePlace 34 = .ok (.iload 5, 2) := by decide +kernel
theorem dX1_middlePlace_36 : decode cX1_middlePlace 36 = .ok (.iload_n 3, 1) := by decide +kernel
theorem dX1_middlePlace_37 : decode cX1_middlePlace 37 = .ok (.bipush 10, 2) := by decide +kernel
theorem dX1_middlePlace_39 : decode cX1_middlePlace 39 = .ok (.irem, 1) := by decide +kernel
theorem dX1_middlePlace_40 : decode cX1_middlePlace 40 = .ok (.iload_n 3, 1) := by decide +kernel
theorem dX1_middlePlace_41 : decode cX1_middlePlace 41 = .ok (.bipush 10, 2) := by decide +kernel
theorem dX1_middlePlace_43 : decode cX1_middlePlace 43 = .ok (.idiv, 1) := by decide +kernel
theorem dX1_middlePlace_44 : decode cX1_middlePlace 44 = .ok (.invokevirtual 51, 3) := by decide +kernel
theorem dX1_middlePlace_47 : decode cX1_middlePlace 47 = .ok (.iadd, 1) := by decide +kernel
theorem dX1_middlePlace_48 : decode cX1_middlePlace 48 = .ok (.istore 4, 2) := by decide +kernel
theorem dX1_middlePlace_50 : decode cX1_middlePlace 50 = .ok (.iinc 5 1, 3) := by decide +kernel
theorem dX1_middlePlace_53 : decode cX1_middlePlace 53 = .ok (.goto (-34), 3) := by decide +kernel
theorem dX1_middlePlace_56 : decode cX1_middlePlace 56 = .ok (.iload 4, 2) := by decide +kernel
theorem dX1_middlePlace_58 : decode cX1_middlePlace 58 = .ok (.iload_n 2, 1) := by decide +kernel
theorem dX1_middlePlace_59 : decode cX1_middlePlace 59 = .ok (.if_icmp .ge 8, 3) := by decide +kernel
theorem dX1_middlePlace_62 : decode cX1_middlePlace 62 = .ok (.iload 4, 2) := by decide +kernel
theorem dX1_middlePlace_64 : decode cX1_middlePlace 64 = .ok (.istore_n 2, 1) := by decide +kernel
theorem dX1_middlePlace_65 : decode cX1_middlePlace 65 = .ok (.iload_n 3, 1) := by decide +kernel
theorem dX1_middlePlace_66 : decode cX1_middlePlace 66 = .ok (.istore_n 1, 1) := by decide +kernel
theorem dX1_middlePlace_67 : decode cX1_middlePlace 67 = .ok (.iinc 3 1, 3) := by decide +kernel
theorem dX1_middlePlace_70 : decode cX1_middlePlace 70 = .ok (.goto (-63), 3) := by decide +kernel
theorem dX1_middlePlace_73 : decode cX1_middlePlace 73 = .ok (.iload_n 1, 1) := by decide +kernel
theorem dX1_middlePlace_74 : decode cX1_middlePlace 74 = .ok (.ireturn, 1) := by decide +kernel
theorem dX3_logged_0 : decode cX3_logged 0 = .ok (.aload_n 0, 1) := by decide +kernel
theorem dX3_logged_1 : decode cX3_logged 1 = .ok (.getfield 18, 3) := by decide +kernel
theorem dX3_logged_4 : decode cX3_logged 4 = .ok (.iload_n 1, 1) := by decide +kernel
theorem dX3_logged_5 : decode cX3_logged 5 = .ok (.bipush 100, 2) := by decide +kernel
theorem dX3_logged_7 : decode cX3_logged 7 = .ok (.irem, 1) := by decide +kernel
theorem dX3_logged_8 : decode cX3_logged 8 = .ok (.iconst 3, 1) := by decide +kernel
theorem dX3_logged_9 : decode cX3_logged 9 = .ok (.imul, 1) := by decide +kernel
theorem dX3_logged_10 : decode cX3_logged 10 = .ok (.iload_n 2, 1) := by decide +kernel
theorem dX3_logged_11 : decode cX3_logged 11 = .ok (.iadd, 1) := by decide +kernel
theorem dX3_logged_12 : decode cX3_logged 12 = .ok (.iaload, 1) := by decide +kernel
theorem dX3_logged_13 : decode cX3_logged 13 = .ok (.ireturn, 1) := by decide +kernel
theorem dX3_keepImage_0 : decode cX3_keepImage 0 = .ok (.aload_n 0, 1) := by decide +kernel
theorem dX3_keepImage_1 : decode cX3_keepImage 1 = .ok (.getfield 22, 3) := by decide +kernel
theorem dX3_keepImage_4 : decode cX3_keepImage 4 = .ok (.aload_n 1, 1) := by decide +kernel
theorem dX3_keepImage_5 : decode cX3_keepImage 5 = .ok (.invokevirtual 40, 3) := by decide +kernel
theorem dX3_keepImage_8 : decode cX3_keepImage 8 = .ok (.aload_n 0, 1) := by decide +kernel
theorem dX3_keepImage_9 : decode cX3_keepImage 9 = .ok (.getfield 18, 3) := by decide +kernel
theorem dX3_keepImage_12 : decode cX3_keepImage 12 = .ok (.iconst 0, 1) := by decide +kernel
theorem dX3_keepImage_13 : decode cX3_keepImage 13 = .ok (.aload_n 0, 1) := by decide +kernel
theorem dX3_keepImage_14 : decode cX3_keepImage 14 = .ok (.getfield 26, 3) := by decide +kernel
theorem dX3_keepImage_17 : decode cX3_keepImage 17 = .ok (.iconst 0, 1) := by decide +kernel
theorem dX3_keepImage_18 : decode cX3_keepImage 18 = .ok (.aload_n 0, 1) := by decide +kernel
theorem dX3_keepImage_19 : decode cX3_keepImage 19 = .ok (.getfield 18, 3) := by decide +kernel
theorem dX3_keepImage_22 : decode cX3_keepImage 22 = .ok (.arraylength, 1) := by decide +kernel
theorem dX3_keepImage_23 : decode cX3_keepImage 23 = .ok (.invokestatic 53, 3) := by decide +kernel
theorem dX3_keepImage_26 : decode cX3_keepImage 26 = .ok (.aload_n 0, 1) := by decide +kernel
theorem dX3_keepImage_27 : decode cX3_keepImage 27 = .ok (.iconst 1, 1) := by decide +kernel
theorem dX3_keepImage_28 : decode cX3_keepImage 28 = .ok (.putfield 36, 3) := by decide +kernel
theorem dX3_keepImage_31 : decode cX3_keepImage 31 = .ok (.return_, 1) := by decide +kernel
theorem dX3_showImage_0 : decode cX3_showImage 0 = .ok (.aload_n 0, 1) := by decide +kernel
theorem dX3_showImage_1 : decode cX3_showImage 1 = .ok (.getfield 36, 3) := by decide +kernel
theorem dX3_showImage_4 : decode cX3_showImage 4 = .ok (.ifCond .ne 5, 3) := by decide +kernel
theorem dX3_showImage_7 : decode cX3_showImage 7 = .ok (.iconst 0, 1) := by decide +kernel
theorem dX3_showImage_8 : decode cX3_showImage 8 = .ok (.ireturn, 1) := by decide +kernel
theorem dX3_showImage_9 : decode cX3_showImage 9 = .ok (.aload_n 1, 1) := by decide +kernel
theorem dX3_showImage_10 : decode cX3_showImage 10 = .ok (.aload_n 0, 1) := by decide +kernel
theorem dX3_showImage_11 : decode cX3_showImage 11 = .ok (.getfield 22, 3) := by decide +kernel
theorem dX3_showImage_14 : decode cX3_showImage 14 = .ok (.invokevirtual 40, 3) := by decide +kernel
theorem dX3_showImage_17 : decode cX3_showImage 17 = .ok (.aload_n 0, 1) := by decide +kernel
theorem dX3_showImage_18 : decode cX3_showImage 18 = .ok (.getfield 26, 3) := by decide +kernel
theorem dX3_showImage_21 : decode cX3_showImage 21 = .ok (.iconst 0, 1) := by decide +kernel
theorem dX3_showImage_22 : decode cX3_showImage 22 = .ok (.aload_n 0, 1) := by decide +kernel
theorem dX3_showImage_23 : decode cX3_showImage 23 = .ok (.getfield 18, 3) := by decide +kernel
theorem dX3_showImage_26 : decode cX3_showImage 26 = .ok (.iconst 0, 1) := by decide +kernel
theorem dX3_showImage_27 : decode cX3_showImage 27 = .ok (.aload_n 0, 1) := by decide +kernel
theorem dX3_showImage_28 : decode cX3_showImage 28 = .ok (.getfield 18, 3) := by decide +kernel
theorem dX3_showImage_31 : decode cX3_showImage 31 = .ok (.arraylength, 1) := by decide +kernel
theorem dX3_showImage_32 : decode cX3_showImage 32 = .ok (.invokestatic 53, 3) := by decide +kernel
theorem dX3_showImage_35 : decode cX3_showImage 35 = .ok (.aload_n 0, 1) := by decide +kernel
theorem dX3_showImage_36 : decode cX3_showImage 36 = .ok (.iconst 0, 1) := by decide +kernel
theorem dX3_showImage_37 : decode cX3_showImage 37 = .ok (.putfield 33, 3) := by decide +kernel
theorem dX3_showImage_40 : decode cX3_showImage 40 = .ok (.iconst 1, 1) := by decide +kernel
theorem dX3_showImage_41 : decode cX3_showImage 41 = .ok (.ireturn, 1) := by decide +kernel
theorem dX4_worth_0 : decode cX4_worth 0 = .ok (.iconst 0, 1) := by decide +kernel
theorem dX4_worth_1 : decode cX4_worth 1 = .ok (.istore_n 2, 1) := by decide +kernel
theorem dX4_worth_2 : decode cX4_worth 2 = .ok (.iconst 0, 1) := by decide +kernel
theorem dX4_worth_3 : decode cX4_worth 3 = .ok (.istore_n 3, 1) := by decide +kernel
theorem dX4_worth_4 : decode cX4_worth 4 = .ok (.iconst 0, 1) := by decide +kernel
theorem dX4_worth_5 : decode cX4_worth 5 = .ok (.istore 4, 2) := by decide +kernel
theorem dX4_worth_7 : decode cX4_worth 7 = .ok (.iload 4, 2) := by decide +kernel
theorem dX4_worth_9 : decode cX4_worth 9 = .ok (.aload_n 0, 1) := by decide +kernel
theorem dX4_worth_10 : decode cX4_worth 10 = .ok (.getfield 20, 3) := by decide +kernel
theorem dX4_worth_13 : decode cX4_worth 13 = .ok (.if_icmp .ge 135, 3) := by decide +kernel
theorem dX4_worth_16 : decode cX4_worth 16 = .ok (.aload_n 0, 1) := by decide +kernel
theorem dX4_worth_17 : decode cX4_worth 17 = .ok (.getfield 11, 3) := by decide +kernel
theorem dX4_worth_20 : decode cX4_worth 20 = .ok (.iload 4, 2) := by decide +kernel
theorem dX4_worth_22 : decode cX4_worth 22 = .ok (.iaload, 1) := by decide +kernel
theorem dX4_worth_23 : decode cX4_worth 23 = .ok (.ineg, 1) := by decide +kernel
theorem dX4_worth_24 : decode cX4_worth 24 = .ok (.istore 5, 2) := by decide +kernel
theorem dX4_worth_26 : decode cX4_worth 26 = .ok (.iload 5, 2) := by decide +kernel
theorem dX4_worth_28 : decode cX4_worth 28 = .ok (.bipush 59, 2) := by decide +kernel
theorem dX4_worth_30 : decode cX4_worth 30 = .ok (.if_icmp .ne 23, 3) := by decide +kernel
theorem dX4_worth_33 : decode cX4_worth 33 = .ok (.iload_n 3, 1) := by decide +kernel
theorem dX4_worth_34 : decode cX4_worth 34 = .ok (.ifCond .ne 14, 3) := by decide +kernel
theorem dX4_worth_37 : decode cX4_worth 37 = .ok (.iload_n 2, 1) := by decide +kernel
theorem dX4_worth_38 : decode cX4_worth 38 = .ok (.ifCond .le 10, 3) := by decide +kernel
theorem dX4_worth_41 : decode cX4_worth 41 = .ok (.aload_n 0, 1) := by decide +kernel
theorem dX4_worth_42 : decode cX4_worth 42 = .ok (.getfield 17, 3) := by decide +kernel
theorem dX4_worth_45 : decode cX4_worth 45 = .ok (.iconst 0, 1) := by decide +kernel
theorem dX4_worth_46 : decode cX4_worth 46 = .ok (.iaload, 1) := by decide +kernel
theorem dX4_worth_47 : decode cX4_worth 47 = .ok (.ireturn, 1) := by decide +kernel
theorem dX4_worth_48 : decode cX4_worth 48 = .ok (.iconst 0, 1) := by decide +kernel
theorem dX4_worth_49 : decode cX4_worth 49 = .ok (.istore_n 3, 1) := by decide +kernel
theorem dX4_worth_50 : decode cX4_worth 50 = .ok (.goto 92, 3) := by decide +kernel
theorem dX4_worth_53 : decode cX4_worth 53 = .ok (.iload_n 3, 1) := by decide +kernel
theorem dX4_worth_54 : decode cX4_worth 54 = .ok (.ifCond .ne 30, 3) := by decide +kernel
theorem dX4_worth_57 : decode cX4_worth 57 = .ok (.iload 5, 2) := by decide +kernel
theorem dX4_worth_59 : decode cX4_worth 59 = .ok (.bipush 63, 2) := by decide +kernel
theorem dX4_worth_61 : decode cX4_worth 61 = .ok (.if_icmp .ne 23, 3) := by decide +kernel
theorem dX4_worth_64 : decode cX4_worth 64 = .ok (.aload_n 0, 1) := by decide +kernel
theorem dX4_worth_65 : decode cX4_worth 65 = .ok (.getfield 17, 3) := by decide +kernel
theorem dX4_worth_68 : decode cX4_worth 68 = .ok (.iconst 0, 1) := by decide +kernel
theorem dX4_worth_69 : decode cX4_worth 69 = .ok (.iaload, 1) := by decide +kernel
theorem dX4_worth_70 : decode cX4_worth 70 = .ok (.ifCond .ne 7, 3) := by decide +kernel
theorem dX4_worth_73 : decode cX4_worth 73 = .ok (.iconst 1, 1) := by decide +kernel
theorem dX4_worth_74 : decode cX4_worth 74 = .ok (.goto 4, 3) := by decide +kernel
theorem dX4_worth_77 : decode cX4_worth 77 = .ok (.iconst 0, 1) := by decide +kernel
theorem dX4_worth_78 : decode cX4_worth 78 = .ok (.istore_n 3, 1) := by decide +kernel
theorem dX4_worth_79 : decode cX4_worth 79 = .ok (.iconst 0, 1) := by decide +kernel
theorem dX4_worth_80 : decode cX4_worth 80 = .ok (.istore_n 2, 1) := by decide +kernel
theorem dX4_worth_81 : decode cX4_worth 81 = .ok (.goto 61, 3) := by decide +kernel
theorem dX4_worth_84 : decode cX4_worth 84 = .ok (.iload_n 3, 1) := by decide +kernel
theorem dX4_worth_85 : decode cX4_worth 85 = .ok (.ifCond .ne 21, 3) := by decide +kernel
theorem dX4_worth_88 : decode cX4_worth 88 = .ok (.iload 5, 2) := by decide +kernel
theorem dX4_worth_90 : decode cX4_worth 90 = .ok (.bipush 6, 2) := by decide +kernel
theorem dX4_worth_92 : decode cX4_worth 92 = .ok (.if_icmp .le 14, 3) := by decide +kernel
theorem dX4_worth_95 : decode cX4_worth 95 = .ok (.aload_n 0, 1) := by decide +kernel
theorem dX4_worth_96 : decode cX4_worth 96 = .ok (.iload 5, 2) := by decide +kernel
theorem dX4_worth_98 : decode cX4_worth 98 = .ok (.iload_n 2, 1) := by decide +kernel
theorem dX4_worth_99 : decode cX4_worth 99 = .ok (.invokevirtual 24, 3) := by decide +kernel
theorem dX4_worth_102 : decode cX4_worth 102 = .ok (.istore_n 2, 1) := by decide +kernel
theorem dX4_worth_103 : decode cX4_worth 103 = .ok (.goto 39, 3) := by decide +kernel
theorem dX4_worth_106 : decode cX4_worth 106 = .ok (.iload_n 3, 1) := by decide +kernel
theorem dX4_worth_107 : decode cX4_worth 107 = .ok (.ifCond .ne 35, 3) := by decide +kernel
theorem dX4_worth_110 : decode cX4_worth 110 = .ok (.iload_n 2, 1) := by decide +kernel
theorem dX4_worth_111 : decode cX4_worth 111 = .ok (.bipush 64, 2) := by decide +kernel
theorem dX4_worth_113 : decode cX4_worth 113 = .ok (.if_icmp .ge 29, 3) := by decide +kernel
theorem dX4_worth_116 : decode cX4_worth 116 = .ok (.aload_n 0, 1) := by decide +kernel
theorem dX4_worth_117 : decode cX4_worth 117 = .ok (.getfield 17, 3) := by decide +kernel
theorem dX4_worth_120 : decode cX4_worth 120 = .ok (.iload_n 2, 1) := by decide +kernel
theorem dX4_worth_121 : decode cX4_worth 121 = .ok (.iload 5, 2) := by decide +kernel
theorem dX4_worth_123 : decode cX4_worth 123 = .ok (.ifCond .le 12, 3) := by decide +kernel
theorem dX4_worth_126 : decode cX4_worth 126 = .ok (.aload_n 1, 1) := by decide +kernel
theorem dX4_worth_127 : decode cX4_worth 127 = .ok (.iload 5, 2) := by decide +kernel
theorem dX4_worth_129 : decode cX4_worth 129 = .ok (.iconst 1, 1) := by decide +kernel
theorem dX4_worth_130 : decode cX4_worth 130 = .ok (.isub, 1) := by decide +kernel
theorem dX4_worth_131 : decode cX4_worth 131 = .ok (.iaload, 1) := by decide +kernel
theorem dX4_worth_132 : decode cX4_worth 132 = .ok (.goto 6, 3) := by decide +kernel
theorem dX4_worth_135 : decode cX4_worth 135 = .ok (.iload 5, 2) := by decide +kernel
theorem dX4_worth_137 : decode cX4_worth 137 = .ok (.ineg, 1) := by decide +kernel
theorem dX4_worth_138 : decode cX4_worth 138 = .ok (.iastore, 1) := by decide +kernel
theorem dX4_worth_139 : decode cX4_worth 139 = .ok (.iinc 2 1, 3) := by decide +kernel
theorem dX4_worth_142 : decode cX4_worth 142 = .ok (.iinc 4 1, 3) := by decide +kernel
theorem dX4_worth_145 : decode cX4_worth 145 = .ok (.goto (-138), 3) := by decide +kernel
theorem dX4_worth_148 : decode cX4_worth 148 = .ok (.iconst 0, 1) := by decide +kernel
theorem dX4_worth_149 : decode cX4_worth 149 = .ok (.ireturn, 1) := by decide +kernel
theorem dX4_joinedAt_0 : decode cX4_joinedAt 0 = .ok (.iload_n 2, 1) := by decide +kernel
theorem dX4_joinedAt_1 : decode cX4_joinedAt 1 = .ok (.iconst 1, 1) := by decide +kernel
theorem dX4_joinedAt_2 : decode cX4_joinedAt 2 = .ok (.if_icmp .lt 14, 3) := by decide +kernel
theorem dX4_joinedAt_5 : decode cX4_joinedAt 5 = .ok (.iload_n 2, 1) := by decide +kernel
theorem dX4_joinedAt_6 : decode cX4_joinedAt 6 = .ok (.iconst 2, 1) := by decide +kernel
theorem dX4_joinedAt_7 : decode cX4_joinedAt 7 = .ok (.if_icmp .ge 11, 3) := by decide +kernel
theorem dX4_joinedAt_10 : decode cX4_joinedAt 10 = .ok (.iload_n 1, 1) := by decide +kernel
theorem dX4_joinedAt_11 : decode cX4_joinedAt 11 = .ok (.bipush 33, 2) := by decide +kernel
theorem dX4_joinedAt_13 : decode cX4_joinedAt 13 = .ok (.if_icmp .eq 5, 3) := by decide +kernel
theorem dX4_joinedAt_16 : decode cX4_joinedAt 16 = .ok (.iload_n 2, 1) := by decide +kernel
theorem dX4_joinedAt_17 : decode cX4_joinedAt 17 = .ok (.ireturn, 1) := by decide +kernel
theorem dX4_joinedAt_18 : decode cX4_joinedAt 18 = .ok (.iload_n 1, 1) := by decide +kernel
theorem dX4_joinedAt_19 : decode cX4_joinedAt 19 = .ok (.bipush 33, 2) := by decide +kernel
theorem dX4_joinedAt_21 : decode cX4_joinedAt 21 = .ok (.if_icmp .ne 23, 3) := by decide +kernel
theorem dX4_joinedAt_24 : decode cX4_joinedAt 24 = .ok (.aload_n 0, 1) := by decide +kernel
theorem dX4_joinedAt_25 : decode cX4_joinedAt 25 = .ok (.getfield 17, 3) := by decide +kernel
theorem dX4_joinedAt_28 : decode cX4_joinedAt 28 = .ok (.iload_n 2, 1) := by decide +kernel
theorem dX4_joinedAt_29 : decode cX4_joinedAt 29 = .ok (.iconst 1, 1) := by decide +kernel
theorem dX4_joinedAt_30 : decode cX4_joinedAt 30 = .ok (.isub, 1) := by decide +kernel
theorem dX4_joinedAt_31 : decode cX4_joinedAt 31 = .ok (.iconst 1, 1) := by decide +kernel
theorem dX4_joinedAt_32 : decode cX4_joinedAt 32 = .ok (.aload_n 0, 1) := by decide +kernel
theorem dX4_joinedAt_33 : decode cX4_joinedAt 33 = .ok (.getfield 17, 3) := by decide +kernel
theorem dX4_joinedAt_36 : decode cX4_joinedAt 36 = .ok (.iload_n 2, 1) := by decide +kernel
theorem dX4_joinedAt_37 : decode cX4_joinedAt 37 = .ok (.iconst 1, 1) := by decide +kernel
theorem dX4_joinedAt_38 : decode cX4_joinedAt 38 = .ok (.isub, 1) := by decide +kernel
theorem dX4_joinedAt_39 : decode cX4_joinedAt 39 = .ok (.iaload, 1) := by decide +kernel
theorem dX4_joinedAt_40 : decode cX4_joinedAt 40 = .ok (.isub, 1) := by decide +kernel
theorem dX4_joinedAt_41 : decode cX4_joinedAt 41 = .ok (.iastore, 1) := by decide +kernel
theorem dX4_joinedAt_42 : decode cX4_joinedAt 42 = .ok (.iload_n 2, 1) := by decide +kernel
theorem dX4_joinedAt_43 : decode cX4_joinedAt 43 = .ok (.ireturn, 1) := by decide +kernel
theorem dX4_joinedAt_44 : decode cX4_joinedAt 44 = .ok (.aload_n 0, 1) := by decide +kernel
theorem dX4_joinedAt_45 : decode cX4_joinedAt 45 = .ok (.getfield 17, 3) := by decide +kernel
theorem dX4_joinedAt_48 : decode cX4_joinedAt 48 = .ok (.iload_n 2, 1) := by decide +kernel
theorem dX4_joinedAt_49 : decode cX4_joinedAt 49 = .ok (.iconst 2, 1) := by decide +kernel
theorem dX4_joinedAt_50 : decode cX4_joinedAt 50 = .ok (.isub, 1) := by decide +kernel
theorem dX4_joinedAt_51 : decode cX4_joinedAt 51 = .ok (.iaload, 1) := by decide +kernel
theorem dX4_joinedAt_52 : decode cX4_joinedAt 52 = .ok (.istore_n 3, 1) := by decide +kernel
theorem dX4_joinedAt_53 : decode cX4_joinedAt 53 = .ok (.aload_n 0, 1) := by decide +kernel
theorem dX4_joinedAt_54 : decode cX4_joinedAt 54 = .ok (.getfield 17, 3) := by decide +kernel
theorem dX4_joinedAt_57 : decode cX4_joinedAt 57 = .ok (.iload_n 2, 1) := by decide +kernel
theorem dX4_joinedAt_58 : decode cX4_joinedAt 58 = .ok (.iconst 1, 1) := by decide +kernel
theorem dX4_joinedAt_59 : decode cX4_joinedAt 59 = .ok (.isub, 1) := by decide +kernel
theorem dX4_joinedAt_60 : decode cX4_joinedAt 60 = .ok (.iaload, 1) := by decide +kernel
theorem dX4_joinedAt_61 : decode cX4_joinedAt 61 = .ok (.istore 4, 2) := by decide +kernel
theorem dX4_joinedAt_63 : decode cX4_joinedAt 63 = .ok (.iload_n 1, 1) := by decide +kernel
theorem dX4_joinedAt_64 : decode cX4_joinedAt 64 = .ok (.tableswitch 224 38 62 #[214, 224, 224, 224, 136, 116, 224, 126, 224, 147, 224, 224, 224, 224, 224, 224, 224, 224, 224, 224, 224, 224, 182, 166, 198], 116) := by decide +kernel
theorem dX4_joinedAt_180 : decode cX4_joinedAt 180 = .ok (.iload_n 3, 1) := by decide +kernel
theorem dX4_joinedAt_181 : decode cX4_joinedAt 181 = .ok (.iload 4, 2) := by decide +kernel
theorem dX4_joinedAt_183 : decode cX4_joinedAt 183 = .ok (.iadd, 1) := by decide +kernel
theorem dX4_joinedAt_184 : decode cX4_joinedAt 184 = .ok (.i2l, 1) := by decide +kernel
theorem dX4_joinedAt_185 : decode cX4_joinedAt 185 = .ok (.lstore 5, 2) := by decide +kernel
theorem dX4_joinedAt_187 : decode cX4_joinedAt 187 = .ok (.goto 108, 3) := by decide +kernel
theorem dX4_joinedAt_190 : decode cX4_joinedAt 190 = .ok (.iload_n 3, 1) := by decide +kernel
theorem dX4_joinedAt_191 : decode cX4_joinedAt 191 = .ok (.iload 4, 2) := by decide +kernel
theorem dX4_joinedAt_193 : decode cX4_joinedAt 193 = .ok (.isub, 1) := by decide +kernel
theorem dX4_joinedAt_194 : decode cX4_joinedAt 194 = .ok (.i2l, 1) := by decide +kernel
theorem dX4_joinedAt_195 : decode cX4_joinedAt 195 = .ok (.lstore 5, 2) := by decide +kernel
theorem dX4_joinedAt_197 : decode cX4_joinedAt 197 = .ok (.goto 98, 3) := by decide +kernel
theorem dX4_joinedAt_200 : decode cX4_joinedAt 200 = .ok (.iload_n 3, 1) := by decide +kernel
theorem dX4_joinedAt_201 : decode cX4_joinedAt 201 = .ok (.i2l, 1) := by decide +kernel
theorem dX4_joinedAt_202 : decode cX4_joinedAt 202 = .ok (.iload 4, 2) := by decide +kernel
theorem dX4_joinedAt_204 : decode cX4_joinedAt 204 = .ok (.i2l, 1) := by decide +kernel
theorem dX4_joinedAt_205 : decode cX4_joinedAt 205 = .ok (.lmul, 1) := by decide +kernel
theorem dX4_joinedAt_206 : decode cX4_joinedAt 206 = .ok (.lstore 5, 2) := by decide +kernel
theorem dX4_joinedAt_208 : decode cX4_joinedAt 208 = .ok (.goto 87, 3) := by decide +kernel
theorem dX4_joinedAt_211 : decode cX4_joinedAt 211 = .ok (.iload 4, 2) := by decide +kernel
theorem dX4_joinedAt_213 : decode cX4_joinedAt 213 = .ok (.ifCond .ne 7, 3) := by decide +kernel
theorem dX4_joinedAt_216 : decode cX4_joinedAt 216 = .ok (.lconst 0, 1) := by decide +kernel
theorem dX4_joinedAt_217 : decode cX4_joinedAt 217 = .ok (.goto 8, 3) := by decide +kernel
theorem dX4_joinedAt_220 : decode cX4_joinedAt 220 = .ok (.iload_n 3, 1) := by decide +kernel
theorem dX4_joinedAt_221 : decode cX4_joinedAt 221 = .ok (.iload 4, 2) := by decide +kernel
theorem dX4_joinedAt_223 : decode cX4_joinedAt 223 = .ok (.idiv, 1) := by decide +kernel
theorem dX4_joinedAt_224 : decode cX4_joinedAt 224 = .ok (.i2l, 1) := by decide +kernel
theorem dX4_joinedAt_225 : decode cX4_joinedAt 225 = .ok (.lstore 5, 2) := by decide +kernel
theorem dX4_joinedAt_227 : decode cX4_joinedAt 227 = .ok (.goto 68, 3) := by decide +kernel
theorem dX4_joinedAt_230 : decode cX4_joinedAt 230 = .ok (.iload_n 3, 1) := by decide +kernel
theorem dX4_joinedAt_231 : decode cX4_joinedAt 231 = .ok (.iload 4, 2) := by decide +kernel
theorem dX4_joinedAt_233 : decode cX4_joinedAt 233 = .ok (.if_icmp .ne 7, 3) := by decide +kernel
theorem dX4_joinedAt_236 : decode cX4_joinedAt 236 = .ok (.lconst 1, 1) := by decide +kernel
theorem dX4_joinedAt_237 : decode cX4_joinedAt 237 = .ok (.goto 4, 3) := by decide +kernel
theorem dX4_joinedAt_240 : decode cX4_joinedAt 240 = .ok (.lconst 0, 1) := by decide +kernel
theorem dX4_joinedAt_241 : decode cX4_joinedAt 241 = .ok (.lstore 5, 2) := by decide +kernel
theorem dX4_joinedAt_243 : decode cX4_joinedAt 243 = .ok (.goto 52, 3) := by decide +kernel
theorem dX4_joinedAt_246 : decode cX4_joinedAt 246 = .ok (.iload_n 3, 1) := by decide +kernel
theorem dX4_joinedAt_247 : decode cX4_joinedAt 247 = .ok (.iload 4, 2) := by decide +kernel
theorem dX4_joinedAt_249 : decode cX4_joinedAt 249 = .ok (.if_icmp .ge 7, 3) := by decide +kernel
theorem dX4_joinedAt_252 : decode cX4_joinedAt 252 = .ok (.lconst 1, 1) := by decide +kernel
theorem dX4_joinedAt_253 : decode cX4_joinedAt 253 = .ok (.goto 4, 3) := by decide +kernel
theorem dX4_joinedAt_256 : decode cX4_joinedAt 256 = .ok (.lconst 0, 1) := by decide +kernel
theorem dX4_joinedAt_257 : decode cX4_joinedAt 257 = .ok (.lstore 5, 2) := by decide +kernel
theorem dX4_joinedAt_259 : decode cX4_joinedAt 259 = .ok (.goto 36, 3) := by decide +kernel
theorem dX4_joinedAt_262 : decode cX4_joinedAt 262 = .ok (.iload_n 3, 1) := by decide +kernel
theorem dX4_joinedAt_263 : decode cX4_joinedAt 263 = .ok (.iload 4, 2) := by decide +kernel
theorem dX4_joinedAt_265 : decode cX4_joinedAt 265 = .ok (.if_icmp .le 7, 3) := by decide +kernel
theorem dX4_joinedAt_268 : decode cX4_joinedAt 268 = .ok (.lconst 1, 1) := by decide +kernel
theorem dX4_joinedAt_269 : decode cX4_joinedAt 269 = .ok (.goto 4, 3) := by decide +kernel
theorem dX4_joinedAt_272 : decode cX4_joinedAt 272 = .ok (.lconst 0, 1) := by decide +kernel
theorem dX4_joinedAt_273 : decode cX4_joinedAt 273 = .ok (.lstore 5, 2) := by decide +kernel
theorem dX4_joinedAt_275 : decode cX4_joinedAt 275 = .ok (.goto 20, 3) := by decide +kernel
theorem dX4_joinedAt_278 : decode cX4_joinedAt 278 = .ok (.iload_n 3, 1) := by decide +kernel
theorem dX4_joinedAt_279 : decode cX4_joinedAt 279 = .ok (.iload 4, 2) := by decide +kernel
theorem dX4_joinedAt_281 : decode cX4_joinedAt 281 = .ok (.iand, 1) := by decide +kernel
theorem dX4_joinedAt_282 : decode cX4_joinedAt 282 = .ok (.i2l, 1) := by decide +kernel
theorem dX4_joinedAt_283 : decode cX4_joinedAt 283 = .ok (.lstore 5, 2) := by decide +kernel
theorem dX4_joinedAt_285 : decode cX4_joinedAt 285 = .ok (.goto 10, 3) := by decide +kernel
theorem dX4_joinedAt_288 : decode cX4_joinedAt 288 = .ok (.iload_n 3, 1) := by decide +kernel
theorem dX4_joinedAt_289 : decode cX4_joinedAt 289 = .ok (.iload 4, 2) := by decide +kernel
theorem dX4_joinedAt_291 : decode cX4_joinedAt 291 = .ok (.ior, 1) := by decide +kernel
theorem dX4_joinedAt_292 : decode cX4_joinedAt 292 = .ok (.i2l, 1) := by decide +kernel
theorem dX4_joinedAt_293 : decode cX4_joinedAt 293 = .ok (.lstore 5, 2) := by decide +kernel
theorem dX4_joinedAt_295 : decode cX4_joinedAt 295 = .ok (.aload_n 0, 1) := by decide +kernel
theorem dX4_joinedAt_296 : decode cX4_joinedAt 296 = .ok (.getfield 17, 3) := by decide +kernel
theorem dX4_joinedAt_299 : decode cX4_joinedAt 299 = .ok (.iload_n 2, 1) := by decide +kernel
theorem dX4_joinedAt_300 : decode cX4_joinedAt 300 = .ok (.iconst 2, 1) := by decide +kernel
theorem dX4_joinedAt_301 : decode cX4_joinedAt 301 = .ok (.isub, 1) := by decide +kernel
theorem dX4_joinedAt_302 : decode cX4_joinedAt 302 = .ok (.lload 5, 2) := by decide +kernel
theorem dX4_joinedAt_304 : decode cX4_joinedAt 304 = .ok (.ldc2_w 28, 3) := by decide +kernel
theorem dX4_joinedAt_307 : decode cX4_joinedAt 307 = .ok (.lcmp, 1) := by decide +kernel
theorem dX4_joinedAt_308 : decode cX4_joinedAt 308 = .ok (.ifCond .le 8, 3) := by decide +kernel
theorem dX4_joinedAt_311 : decode cX4_joinedAt 311 = .ok (.ldc 30, 2) := by decide +kernel
theorem dX4_joinedAt_313 : decode cX4_joinedAt 313 = .ok (.goto 20, 3) := by decide +kernel
theorem dX4_joinedAt_316 : decode cX4_joinedAt 316 = .ok (.lload 5, 2) := by decide +kernel
theorem dX4_joinedAt_318 : decode cX4_joinedAt 318 = .ok (.ldc2_w 31, 3) := by decide +kernel
theorem dX4_joinedAt_321 : decode cX4_joinedAt 321 = .ok (.lcmp, 1) := by decide +kernel
theorem dX4_joinedAt_322 : decode cX4_joinedAt 322 = .ok (.ifCond .ge 8, 3) := by decide +kernel
theorem dX4_joinedAt_325 : decode cX4_joinedAt 325 = .ok (.ldc 33, 2) := by decide +kernel
theorem dX4_joinedAt_327 : decode cX4_joinedAt 327 = .ok (.goto 6, 3) := by decide +kernel
theorem dX4_joinedAt_330 : decode cX4_joinedAt 330 = .ok (.lload 5, 2) := by decide +kernel
theorem dX4_joinedAt_332 : decode cX4_joinedAt 332 = .ok (.l2i, 1) := by decide +kernel
theorem dX4_joinedAt_333 : decode cX4_joinedAt 333 = .ok (.iastore, 1) := by decide +kernel
theorem dX4_joinedAt_334 : decode cX4_joinedAt 334 = .ok (.iload_n 2, 1) := by decide +kernel
theorem dX4_joinedAt_335 : decode cX4_joinedAt 335 = .ok (.iconst 1, 1) := by decide +kernel
theorem dX4_joinedAt_336 : decode cX4_joinedAt 336 = .ok (.isub, 1) := by decide +kernel
theorem dX4_joinedAt_337 : decode cX4_joinedAt 337 = .ok (.ireturn, 1) := by decide +kernel
theorem dX5_drawBy_0 : decode cX5_drawBy 0 = .ok (.aload_n 0, 1) := by decide +kernel
theorem dX5_drawBy_1 : decode cX5_drawBy 1 = .ok (.getfield 18, 3) := by decide +kernel
theorem dX5_drawBy_4 : decode cX5_drawBy 4 = .ok (.ifCond .lt 14, 3) := by decide +kernel
theorem dX5_drawBy_7 : decode cX5_drawBy 7 = .ok (.aload_n 0, 1) := by decide +kernel
theorem dX5_drawBy_8 : decode cX5_drawBy 8 = .ok (.getfield 18, 3) := by decide +kernel
theorem dX5_drawBy_11 : decode cX5_drawBy 11 = .ok (.aload_n 0, 1) := by decide +kernel
theorem dX5_drawBy_12 : decode cX5_drawBy 12 = .ok (.getfield 26, 3) := by decide +kernel
theorem dX5_drawBy_15 : decode cX5_drawBy 15 = .ok (.if_icmp .lt 15, 3) := by decide +kernel
theorem dX5_drawBy_18 : decode cX5_drawBy 18 = .ok (.iload_n 1, 1) := by decide +kernel
theorem dX5_drawBy_19 : decode cX5_drawBy 19 = .ok (.iload_n 2, 1) := by decide +kernel
theorem dX5_drawBy_20 : decode cX5_drawBy 20 = .ok (.iadd, 1) := by decide +kernel
theorem dX5_drawBy_21 : decode cX5_drawBy 21 = .ok (.iload_n 3, 1) := by decide +kernel
theorem dX5_drawBy_22 : decode cX5_drawBy 22 = .ok (.iadd, 1) := by decide +kernel
theorem dX5_drawBy_23 : decode cX5_drawBy 23 = .ok (.iload 5, 2) := by decide +kernel
theorem dX5_drawBy_25 : decode cX5_drawBy 25 = .ok (.iadd, 1) := by decide +kernel
theorem dX5_drawBy_26 : decode cX5_drawBy 26 = .ok (.iload 4, 2) := by decide +kernel
theorem dX5_drawBy_28 : decode cX5_drawBy 28 = .ok (.isub, 1) := by decide +kernel
theorem dX5_drawBy_29 : decode cX5_drawBy 29 = .ok (.ireturn, 1) := by decide +kernel
theorem dX5_drawBy_30 : decode cX5_drawBy 30 = .ok (.aload_n 0, 1) := by decide +kernel
theorem dX5_drawBy_31 : decode cX5_drawBy 31 = .ok (.getfield 22, 3) := by decide +kernel
theorem dX5_drawBy_34 : decode cX5_drawBy 34 = .ok (.iconst 0, 1) := by decide +kernel
theorem dX5_drawBy_35 : decode cX5_drawBy 35 = .ok (.iload_n 1, 1) := by decide +kernel
theorem dX5_drawBy_36 : decode cX5_drawBy 36 = .ok (.iastore, 1) := by decide +kernel
theorem dX5_drawBy_37 : decode cX5_drawBy 37 = .ok (.aload_n 0, 1) := by decide +kernel
theorem dX5_drawBy_38 : decode cX5_drawBy 38 = .ok (.getfield 22, 3) := by decide +kernel
theorem dX5_drawBy_41 : decode cX5_drawBy 41 = .ok (.iconst 1, 1) := by decide +kernel
theorem dX5_drawBy_42 : decode cX5_drawBy 42 = .ok (.iload_n 2, 1) := by decide +kernel
theorem dX5_drawBy_43 : decode cX5_drawBy 43 = .ok (.iastore, 1) := by decide +kernel
theorem dX5_drawBy_44 : decode cX5_drawBy 44 = .ok (.aload_n 0, 1) := by decide +kernel
theorem dX5_drawBy_45 : decode cX5_drawBy 45 = .ok (.getfield 22, 3) := by decide +kernel
theorem dX5_drawBy_48 : decode cX5_drawBy 48 = .ok (.iconst 2, 1) := by decide +kernel
theorem dX5_drawBy_49 : decode cX5_drawBy 49 = .ok (.iload_n 3, 1) := by decide +kernel
theorem dX5_drawBy_50 : decode cX5_drawBy 50 = .ok (.iastore, 1) := by decide +kernel
theorem dX5_drawBy_51 : decode cX5_drawBy 51 = .ok (.aload_n 0, 1) := by decide +kernel
theorem dX5_drawBy_52 : decode cX5_drawBy 52 = .ok (.getfield 22, 3) := by decide +kernel
theorem dX5_drawBy_55 : decode cX5_drawBy 55 = .ok (.iconst 3, 1) := by decide +kernel
theorem dX5_drawBy_56 : decode cX5_drawBy 56 = .ok (.iload 4, 2) := by decide +kernel
theorem dX5_drawBy_58 : decode cX5_drawBy 58 = .ok (.iastore, 1) := by decide +kernel
theorem dX5_drawBy_59 : decode cX5_drawBy 59 = .ok (.aload_n 0, 1) := by decide +kernel
theorem dX5_drawBy_60 : decode cX5_drawBy 60 = .ok (.getfield 22, 3) := by decide +kernel
theorem dX5_drawBy_63 : decode cX5_drawBy 63 = .ok (.iconst 4, 1) := by decide +kernel
theorem dX5_drawBy_64 : decode cX5_drawBy 64 = .ok (.iload 5, 2) := by decide +kernel
theorem dX5_drawBy_66 : decode cX5_drawBy 66 = .ok (.iastore, 1) := by decide +kernel
theorem dX5_drawBy_67 : decode cX5_drawBy 67 = .ok (.aload_n 0, 1) := by decide +kernel
theorem dX5_drawBy_68 : decode cX5_drawBy 68 = .ok (.getfield 22, 3) := by decide +kernel
theorem dX5_drawBy_71 : decode cX5_drawBy 71 = .ok (.iconst 5, 1) := by decide +kernel
theorem dX5_drawBy_72 : decode cX5_drawBy 72 = .ok (.iload 6, 2) := by decide +kernel
theorem dX5_drawBy_74 : decode cX5_drawBy 74 = .ok (.iastore, 1) := by decide +kernel
theorem dX5_drawBy_75 : decode cX5_drawBy 75 = .ok (.aload_n 0, 1) := by decide +kernel
theorem dX5_drawBy_76 : decode cX5_drawBy 76 = .ok (.getfield 11, 3) := by decide +kernel
theorem dX5_drawBy_79 : decode cX5_drawBy 79 = .ok (.aload_n 0, 1) := by decide +kernel
theorem dX5_drawBy_80 : decode cX5_drawBy 80 = .ok (.getfield 18, 3) := by decide +kernel
theorem dX5_drawBy_83 : decode cX5_drawBy 83 = .ok (.aaload, 1) := by decide +kernel
theorem dX5_drawBy_84 : decode cX5_drawBy 84 = .ok (.aload_n 0, 1) := by decide +kernel
theorem dX5_drawBy_85 : decode cX5_drawBy 85 = .ok (.getfield 22, 3) := by decide +kernel
theorem dX5_drawBy_88 : decode cX5_drawBy 88 = .ok (.invokevirtual 29, 3) := by decide +kernel
theorem dX5_drawBy_91 : decode cX5_drawBy 91 = .ok (.istore 7, 2) := by decide +kernel
theorem dX5_drawBy_93 : decode cX5_drawBy 93 = .ok (.iload 7, 2) := by decide +kernel
theorem dX5_drawBy_95 : decode cX5_drawBy 95 = .ok (.bipush 99, 2) := by decide +kernel
theorem dX5_drawBy_97 : decode cX5_drawBy 97 = .ok (.if_icmp .le 8, 3) := by decide +kernel
theorem dX5_drawBy_100 : decode cX5_drawBy 100 = .ok (.bipush 99, 2) := by decide +kernel
theorem dX5_drawBy_102 : decode cX5_drawBy 102 = .ok (.goto 17, 3) := by decide +kernel
theorem dX5_drawBy_105 : decode cX5_drawBy 105 = .ok (.iload 7, 2) := by decide +kernel
theorem dX5_drawBy_107 : decode cX5_drawBy 107 = .ok (.bipush (-99), 2) := by decide +kernel
theorem dX5_drawBy_109 : decode cX5_drawBy 109 = .ok (.if_icmp .ge 8, 3) := by decide +kernel
theorem dX5_drawBy_112 : decode cX5_drawBy 112 = .ok (.bipush (-99), 2) := by decide +kernel
theorem dX5_drawBy_114 : decode cX5_drawBy 114 = .ok (.goto 5, 3) := by decide +kernel
theorem dX5_drawBy_117 : decode cX5_drawBy 117 = .ok (.iload 7, 2) := by decide +kernel
theorem dX5_drawBy_119 : decode cX5_drawBy 119 = .ok (.ireturn, 1) := by decide +kernel
theorem dX6_part_0 : decode cX6_part 0 = .ok (.aload_n 0, 1) := by decide +kernel
theorem dX6_part_1 : decode cX6_part 1 = .ok (.getfield 11, 3) := by decide +kernel
theorem dX6_part_4 : decode cX6_part 4 = .ok (.iload_n 1, 1) := by decide +kernel
theorem dX6_part_5 : decode cX6_part 5 = .ok (.iconst 4, 1) := by decide +kernel
theorem dX6_part_6 : decode cX6_part 6 = .ok (.imul, 1) := by decide +kernel
theorem dX6_part_7 : decode cX6_part 7 = .ok (.iload_n 2, 1) := by decide +kernel
theorem dX6_part_8 : decode cX6_part 8 = .ok (.iadd, 1) := by decide +kernel
theorem dX6_part_9 : decode cX6_part 9 = .ok (.iaload, 1) := by decide +kernel
theorem dX6_part_10 : decode cX6_part 10 = .ok (.ireturn, 1) := by decide +kernel
theorem dX7_copyFrom_0 : decode cX7_copyFrom 0 = .ok (.aload_n 0, 1) := by decide +kernel
theorem dX7_copyFrom_1 : decode cX7_copyFrom 1 = .ok (.aload_n 1, 1) := by decide +kernel
theorem dX7_copyFrom_2 : decode cX7_copyFrom 2 = .ok (.getfield 45, 3) := by decide +kernel
theorem dX7_copyFrom_5 : decode cX7_copyFrom 5 = .ok (.putfield 45, 3) := by decide +kernel
theorem dX7_copyFrom_8 : decode cX7_copyFrom 8 = .ok (.aload_n 0, 1) := by decide +kernel
theorem dX7_copyFrom_9 : decode cX7_copyFrom 9 = .ok (.aload_n 1, 1) := by decide +kernel
theorem dX7_copyFrom_10 : decode cX7_copyFrom 10 = .ok (.getfield 52, 3) := by decide +kernel
theorem dX7_copyFrom_13 : decode cX7_copyFrom 13 = .ok (.putfield 52, 3) := by decide +kernel
theorem dX7_copyFrom_16 : decode cX7_copyFrom 16 = .ok (.aload_n 0, 1) := by decide +kernel
theorem dX7_copyFrom_17 : decode cX7_copyFrom 17 = .ok (.aload_n 1, 1) := by decide +kernel
theorem dX7_copyFrom_18 : decode cX7_copyFrom 18 = .ok (.getfield 55, 3) := by decide +kernel
theorem dX7_copyFrom_21 : decode cX7_copyFrom 21 = .ok (.putfield 55, 3) := by decide +kernel
theorem dX7_copyFrom_24 : decode cX7_copyFrom 24 = .ok (.aload_n 0, 1) := by decide +kernel
theorem dX7_copyFrom_25 : decode cX7_copyFrom 25 = .ok (.aload_n 1, 1) := by decide +kernel
theorem dX7_copyFrom_26 : decode cX7_copyFrom 26 = .ok (.getfield 58, 3) := by decide +kernel
theorem dX7_copyFrom_29 : decode cX7_copyFrom 29 = .ok (.putfield 58, 3) := by decide +kernel
theorem dX7_copyFrom_32 : decode cX7_copyFrom 32 = .ok (.aload_n 1, 1) := by decide +kernel
theorem dX7_copyFrom_33 : decode cX7_copyFrom 33 = .ok (.getfield 9, 3) := by decide +kernel
theorem dX7_copyFrom_36 : decode cX7_copyFrom 36 = .ok (.iconst 0, 1) := by decide +kernel
theorem dX7_copyFrom_37 : decode cX7_copyFrom 37 = .ok (.aload_n 0, 1) := by decide +kernel
theorem dX7_copyFrom_38 : decode cX7_copyFrom 38 = .ok (.getfield 9, 3) := by decide +kernel
theorem dX7_copyFrom_41 : decode cX7_copyFrom 41 = .ok (.iconst 0, 1) := by decide +kernel
theorem dX7_copyFrom_42 : decode cX7_copyFrom 42 = .ok (.iconst 3, 1) := by decide +kernel
theorem dX7_copyFrom_43 : decode cX7_copyFrom 43 = .ok (.invokestatic 88, 3) := by decide +kernel
theorem dX7_copyFrom_46 : decode cX7_copyFrom 46 = .ok (.aload_n 1, 1) := by decide +kernel
theorem dX7_copyFrom_47 : decode cX7_copyFrom 47 = .ok (.getfield 15, 3) := by decide +kernel
theorem dX7_copyFrom_50 : decode cX7_copyFrom 50 = .ok (.iconst 0, 1) := by decide +kernel
theorem dX7_copyFrom_51 : decode cX7_copyFrom 51 = .ok (.aload_n 0, 1) := by decide +kernel
theorem dX7_copyFrom_52 : decode cX7_copyFrom 52 = .ok (.getfield 15, 3) := by decide +kernel
theorem dX7_copyFrom_55 : decode cX7_copyFrom 55 = .ok (.iconst 0, 1) := by decide +kernel
theorem dX7_copyFrom_56 : decode cX7_copyFrom 56 = .ok (.iconst 3, 1) := by decide +kernel
theorem dX7_copyFrom_57 : decode cX7_copyFrom 57 = .ok (.invokestatic 88, 3) := by decide +kernel
theorem dX7_copyFrom_60 : decode cX7_copyFrom 60 = .ok (.aload_n 1, 1) := by decide +kernel
theorem dX7_copyFrom_61 : decode cX7_copyFrom 61 = .ok (.getfield 18, 3) := by decide +kernel
theorem dX7_copyFrom_64 : decode cX7_copyFrom 64 = .ok (.iconst 0, 1) := by decide +kernel
theorem dX7_copyFrom_65 : decode cX7_copyFrom 65 = .ok (.aload_n 0, 1) := by decide +kernel
theorem dX7_copyFrom_66 : decode cX7_copyFrom 66 = .ok (.getfield 18, 3) := by decide +kernel
theorem dX7_copyFrom_69 : decode cX7_copyFrom 69 = .ok (.iconst 0, 1) := by decide +kernel
theorem dX7_copyFrom_70 : decode cX7_copyFrom 70 = .ok (.iconst 3, 1) := by decide +kernel
theorem dX7_copyFrom_71 : decode cX7_copyFrom 71 = .ok (.invokestatic 88, 3) := by decide +kernel
theorem dX7_copyFrom_74 : decode cX7_copyFrom 74 = .ok (.aload_n 1, 1) := by decide +kernel
theorem dX7_copyFrom_75 : decode cX7_copyFrom 75 = .ok (.getfield 21, 3) := by decide +kernel
theorem dX7_copyFrom_78 : decode cX7_copyFrom 78 = .ok (.iconst 0, 1) := by decide +kernel
theorem dX7_copyFrom_79 : decode cX7_copyFrom 79 = .ok (.aload_n 0, 1) := by decide +kernel
theorem dX7_copyFrom_80 : decode cX7_copyFrom 80 = .ok (.getfield 21, 3) := by decide +kernel
theorem dX7_copyFrom_83 : decode cX7_copyFrom 83 = .ok (.iconst 0, 1) := by decide +kernel
theorem dX7_copyFrom_84 : decode cX7_copyFrom 84 = .ok (.iconst 3, 1) := by decide +kernel
theorem dX7_copyFrom_85 : decode cX7_copyFrom 85 = .ok (.invokestatic 88, 3) := by decide +kernel
theorem dX7_copyFrom_88 : decode cX7_copyFrom 88 = .ok (.aload_n 1, 1) := by decide +kernel
theorem dX7_copyFrom_89 : decode cX7_copyFrom 89 = .ok (.getfield 24, 3) := by decide +kernel
theorem dX7_copyFrom_92 : decode cX7_copyFrom 92 = .ok (.iconst 0, 1) := by decide +kernel
theorem dX7_copyFrom_93 : decode cX7_copyFrom 93 = .ok (.aload_n 0, 1) := by decide +kernel
theorem dX7_copyFrom_94 : decode cX7_copyFrom 94 = .ok (.getfield 24, 3) := by decide +kernel
theorem dX7_copyFrom_97 : decode cX7_copyFrom 97 = .ok (.iconst 0, 1) := by decide +kernel
theorem dX7_copyFrom_98 : decode cX7_copyFrom 98 = .ok (.iconst 3, 1) := by decide +kernel
theorem dX7_copyFrom_99 : decode cX7_copyFrom 99 = .ok (.invokestatic 88, 3) := by decide +kernel
theorem dX7_copyFrom_102 : decode cX7_copyFrom 102 = .ok (.aload_n 1, 1) := by decide +kernel
theorem dX7_copyFrom_103 : decode cX7_copyFrom 103 = .ok (.getfield 27, 3) := by decide +kernel
theorem dX7_copyFrom_106 : decode cX7_copyFrom 106 = .ok (.iconst 0, 1) := by decide +kernel
theorem dX7_copyFrom_107 : decode cX7_copyFrom 107 = .ok (.aload_n 0, 1) := by decide +kernel
theorem dX7_copyFrom_108 : decode cX7_copyFrom 108 = .ok (.getfield 27, 3) := by decide +kernel
theorem dX7_copyFrom_111 : decode cX7_copyFrom 111 = .ok (.iconst 0, 1) := by decide +kernel
theorem dX7_copyFrom_112 : decode cX7_copyFrom 112 = .ok (.iconst 3, 1) := by decide +kernel
theorem dX7_copyFrom_113 : decode cX7_copyFrom 113 = .ok (.invokestatic 88, 3) := by decide +kernel
theorem dX7_copyFrom_116 : decode cX7_copyFrom 116 = .ok (.aload_n 1, 1) := by decide +kernel
theorem dX7_copyFrom_117 : decode cX7_copyFrom 117 = .ok (.getfield 30, 3) := by decide +kernel
theorem dX7_copyFrom_120 : decode cX7_copyFrom 120 = .ok (.iconst 0, 1) := by decide +kernel
theorem dX7_copyFrom_121 : decode cX7_copyFrom 121 = .ok (.aload_n 0, 1) := by decide +kernel
theorem dX7_copyFrom_122 : decode cX7_copyFrom 122 = .ok (.getfield 30, 3) := by decide +kernel
theorem dX7_copyFrom_125 : decode cX7_copyFrom 125 = .ok (.iconst 0, 1) := by decide +kernel
theorem dX7_copyFrom_126 : decode cX7_copyFrom 126 = .ok (.bipush 24, 2) := by decide +kernel
theorem dX7_copyFrom_128 : decode cX7_copyFrom 128 = .ok (.invokestatic 88, 3) := by decide +kernel
theorem dX7_copyFrom_131 : decode cX7_copyFrom 131 = .ok (.aload_n 1, 1) := by decide +kernel
theorem dX7_copyFrom_132 : decode cX7_copyFrom 132 = .ok (.getfield 33, 3) := by decide +kernel
theorem dX7_copyFrom_135 : decode cX7_copyFrom 135 = .ok (.iconst 0, 1) := by decide +kernel
theorem dX7_copyFrom_136 : decode cX7_copyFrom 136 = .ok (.aload_n 0, 1) := by decide +kernel
theorem dX7_copyFrom_137 : decode cX7_copyFrom 137 = .ok (.getfield 33, 3) := by decide +kernel
theorem dX7_copyFrom_140 : decode cX7_copyFrom 140 = .ok (.iconst 0, 1) := by decide +kernel
theorem dX7_copyFrom_141 : decode cX7_copyFrom 141 = .ok (.bipush 8, 2) := by decide +kernel
theorem dX7_copyFrom_143 : decode cX7_copyFrom 143 = .ok (.invokestatic 88, 3) := by decide +kernel
theorem dX7_copyFrom_146 : decode cX7_copyFrom 146 = .ok (.aload_n 1, 1) := by decide +kernel
theorem dX7_copyFrom_147 : decode cX7_copyFrom 147 = .ok (.getfield 36, 3) := by decide +kernel
theorem dX7_copyFrom_150 : decode cX7_copyFrom 150 = .ok (.iconst 0, 1) := by decide +kernel
theorem dX7_copyFrom_151 : decode cX7_copyFrom 151 = .ok (.aload_n 0, 1) := by decide +kernel
theorem dX7_copyFrom_152 : decode cX7_copyFrom 152 = .ok (.getfield 36, 3) := by decide +kernel
theorem dX7_copyFrom_155 : decode cX7_copyFrom 155 = .ok (.iconst 0, 1) := by decide +kernel
theorem dX7_copyFrom_156 : decode cX7_copyFrom 156 = .ok (.bipush 8, 2) := by decide +kernel
theorem dX7_copyFrom_158 : decode cX7_copyFrom 158 = .ok (.invokestatic 88, 3) := by decide +kernel
theorem dX7_copyFrom_161 : decode cX7_copyFrom 161 = .ok (.return_, 1) := by decide +kernel
theorem dX7_logLength_0 : decode cX7_logLength 0 = .ok (.aload_n 0, 1) := by decide +kernel
theorem dX7_logLength_1 : decode cX7_logLength 1 = .ok (.getfield 58, 3) := by decide +kernel
theorem dX7_logLength_4 : decode cX7_logLength 4 = .ok (.bipush 60, 2) := by decide +kernel
theorem dX7_logLength_6 : decode cX7_logLength 6 = .ok (.invokestatic 94, 3) := by decide +kernel
theorem dX7_logLength_9 : decode cX7_logLength 9 = .ok (.ireturn, 1) := by decide +kernel
theorem dX7_awayOf_0 : decode cX7_awayOf 0 = .ok (.aload_n 0, 1) := by decide +kernel
theorem dX7_awayOf_1 : decode cX7_awayOf 1 = .ok (.getfield 9, 3) := by decide +kernel
theorem dX7_awayOf_4 : decode cX7_awayOf 4 = .ok (.iload_n 1, 1) := by decide +kernel
theorem dX7_awayOf_5 : decode cX7_awayOf 5 = .ok (.iaload, 1) := by decide +kernel
theorem dX7_awayOf_6 : decode cX7_awayOf 6 = .ok (.iload_n 2, 1) := by decide +kernel
theorem dX7_awayOf_7 : decode cX7_awayOf 7 = .ok (.isub, 1) := by decide +kernel
theorem dX7_awayOf_8 : decode cX7_awayOf 8 = .ok (.invokestatic 99, 3) := by decide +kernel
theorem dX7_awayOf_11 : decode cX7_awayOf 11 = .ok (.aload_n 0, 1) := by decide +kernel
theorem dX7_awayOf_12 : decode cX7_awayOf 12 = .ok (.getfield 15, 3) := by decide +kernel
theorem dX7_awayOf_15 : decode cX7_awayOf 15 = .ok (.iload_n 1, 1) := by decide +kernel
theorem dX7_awayOf_16 : decode cX7_awayOf 16 = .ok (.iaload, 1) := by decide +kernel
theorem dX7_awayOf_17 : decode cX7_awayOf 17 = .ok (.iload_n 3, 1) := by decide +kernel
theorem dX7_awayOf_18 : decode cX7_awayOf 18 = .ok (.isub, 1) := by decide +kernel
theorem dX7_awayOf_19 : decode cX7_awayOf 19 = .ok (.invokestatic 99, 3) := by decide +kernel
theorem dX7_awayOf_22 : decode cX7_awayOf 22 = .ok (.iadd, 1) := by decide +kernel
theorem dX7_awayOf_23 : decode cX7_awayOf 23 = .ok (.ireturn, 1) := by decide +kernel
theorem dX9_bytesIn_0 : decode cX9_bytesIn 0 = .ok (.iconst 0, 1) := by decide +kernel
theorem dX9_bytesIn_1 : decode cX9_bytesIn 1 = .ok (.istore_n 1, 1) := by decide +kernel
theorem dX9_bytesIn_2 : decode cX9_bytesIn 2 = .ok (.iconst 0, 1) := by decide +kernel
theorem dX9_bytesIn_3 : decode cX9_bytesIn 3 = .ok (.istore_n 2, 1) := by decide +kernel
theorem dX9_bytesIn_4 : decode cX9_bytesIn 4 = .ok (.iload_n 2, 1) := by decide +kernel
theorem dX9_bytesIn_5 : decode cX9_bytesIn 5 = .ok (.bipush 32, 2) := by decide +kernel
theorem dX9_bytesIn_7 : decode cX9_bytesIn 7 = .ok (.if_icmp .ge 22, 3) := by decide +kernel
theorem dX9_bytesIn_10 : decode cX9_bytesIn 10 = .ok (.iload_n 0, 1) := by decide +kernel
theorem dX9_bytesIn_11 : decode cX9_bytesIn 11 = .ok (.iload_n 2, 1) := by decide +kernel
theorem dX9_bytesIn_12 : decode cX9_bytesIn 12 = .ok (.iushr, 1) := by decide +kernel
theorem dX9_bytesIn_13 : decode cX9_bytesIn 13 = .ok (.sipush 255, 3) := by decide +kernel
theorem dX9_bytesIn_16 : decode cX9_bytesIn 16 = .ok (.iand, 1) := by decide +kernel
theorem dX9_bytesIn_17 : decode cX9_bytesIn 17 = .ok (.ifCond .eq 6, 3) := by decide +kernel
theorem dX9_bytesIn_20 : decode cX9_bytesIn 20 = .ok (.iinc 1 1, 3) := by decide +kernel
theorem dX9_bytesIn_23 : decode cX9_bytesIn 23 = .ok (.iinc 2 8, 3) := by decide +kernel
theorem dX9_bytesIn_26 : decode cX9_bytesIn 26 = .ok (.goto (-22), 3) := by decide +kernel
theorem dX9_bytesIn_29 : decode cX9_bytesIn 29 = .ok (.iload_n 1, 1) := by decide +kernel
theorem dX9_bytesIn_30 : decode cX9_bytesIn 30 = .ok (.ireturn, 1) := by decide +kernel
theorem dX9_append_0 : decode cX9_append 0 = .ok (.bipush 24, 2) := by decide +kernel
theorem dX9_append_2 : decode cX9_append 2 = .ok (.istore_n 2, 1) := by decide +kernel
theorem dX9_append_3 : decode cX9_append 3 = .ok (.iload_n 2, 1) := by decide +kernel
theorem dX9_append_4 : decode cX9_append 4 = .ok (.ifCond .lt 51, 3) := by decide +kernel
theorem dX9_append_7 : decode cX9_append 7 = .ok (.iload_n 1, 1) := by decide +kernel
theorem dX9_append_8 : decode cX9_append 8 = .ok (.iload_n 2, 1) := by decide +kernel
theorem dX9_append_9 : decode cX9_append 9 = .ok (.iushr, 1) := by decide +kernel
theorem dX9_append_10 : decode cX9_append 10 = .ok (.sipush 255, 3) := by decide +kernel
theorem dX9_append_13 : decode cX9_append 13 = .ok (.iand, 1) := by decide +kernel
theorem dX9_append_14 : decode cX9_append 14 = .ok (.istore_n 3, 1) := by decide +kernel
theorem dX9_append_15 : decode cX9_append 15 = .ok (.iload_n 3, 1) := by decide +kernel
theorem dX9_append_16 : decode cX9_append 16 = .ok (.ifCond .eq 33, 3) := by decide +kernel
theorem dX9_append_19 : decode cX9_append 19 = .ok (.aload_n 0, 1) := by decide +kernel
theorem dX9_append_20 : decode cX9_append 20 = .ok (.getfield 19, 3) := by decide +kernel
theorem dX9_append_23 : decode cX9_append 23 = .ok (.sipush 240, 3) := by decide +kernel
theorem dX9_append_26 : decode cX9_append 26 = .ok (.if_icmp .ge 23, 3) := by decide +kernel
theorem dX9_append_29 : decode cX9_append 29 = .ok (.aload_n 0, 1) := by decide +kernel
theorem dX9_append_30 : decode cX9_append 30 = .ok (.getfield 11, 3) := by decide +kernel
theorem dX9_append_33 : decode cX9_append 33 = .ok (.aload_n 0, 1) := by decide +kernel
theorem dX9_append_34 : decode cX9_append 34 = .ok (.getfield 19, 3) := by decide +kernel
theorem dX9_append_37 : decode cX9_append 37 = .ok (.iload_n 3, 1) := by decide +kernel
theorem dX9_append_38 : decode cX9_append 38 = .ok (.iastore, 1) := by decide +kernel
theorem dX9_append_39 : decode cX9_append 39 = .ok (.aload_n 0, 1) := by decide +kernel
theorem dX9_append_40 : decode cX9_append 40 = .ok (.dup, 1) := by decide +kernel
theorem dX9_append_41 : decode cX9_append 41 = .ok (.getfield 19, 3) := by decide +kernel
theorem dX9_append_44 : decode cX9_append 44 = .ok (.iconst 1, 1) := by decide +kernel
theorem dX9_append_45 : decode cX9_append 45 = .ok (.iadd, 1) := by decide +kernel
theorem dX9_append_46 : decode cX9_append 46 = .ok (.putfield 19, 3) := by decide +kernel
theorem dX9_append_49 : decode cX9_append 49 = .ok (.iinc 2 (-8), 3) := by decide +kernel
theorem dX9_append_52 : decode cX9_append 52 = .ok (.goto (-49), 3) := by decide +kernel
theorem dX9_append_55 : decode cX9_append 55 = .ok (.return_, 1) := by decide +kernel
theorem dX10_isRising_0 : decode cX10_isRising 0 = .ok (.aload_n 0, 1) := by decide +kernel
theorem dX10_isRising_1 : decode cX10_isRising 1 = .ok (.getfield 9, 3) := by decide +kernel
theorem dX10_isRising_4 : decode cX10_isRising 4 = .ok (.invokevirtual 32, 3) := by decide +kernel
theorem dX10_isRising_7 : decode cX10_isRising 7 = .ok (.istore_n 2, 1) := by decide +kernel
theorem dX10_isRising_8 : decode cX10_isRising 8 = .ok (.iload_n 2, 1) := by decide +kernel
theorem dX10_isRising_9 : decode cX10_isRising 9 = .ok (.ifCond .le 16, 3) := by decide +kernel
theorem dX10_isRising_12 : decode cX10_isRising 12 = .ok (.iload_n 1, 1) := by decide +kernel
theorem dX10_isRising_13 : decode cX10_isRising 13 = .ok (.iconst 2, 1) := by decide +kernel
theorem dX10_isRising_14 : decode cX10_isRising 14 = .ok (.iload_n 2, 1) := by decide +kernel
theorem dX10_isRising_15 : decode cX10_isRising 15 = .ok (.imul, 1) := by decide +kernel
theorem dX10_isRising_16 : decode cX10_isRising 16 = .ok (.irem, 1) := by decide +kernel
theorem dX10_isRising_17 : decode cX10_isRising 17 = .ok (.iload_n 2, 1) := by decide +kernel
theorem dX10_isRising_18 : decode cX10_isRising 18 = .ok (.if_icmp .ge 7, 3) := by decide +kernel
theorem dX10_isRising_21 : decode cX10_isRising 21 = .ok (.iconst 1, 1) := by decide +kernel
theorem dX10_isRising_22 : decode cX10_isRising 22 = .ok (.goto 4, 3) := by decide +kernel
theorem dX10_isRising_25 : decode cX10_isRising 25 = .ok (.iconst 0, 1) := by decide +kernel
theorem dX10_isRising_26 : decode cX10_isRising 26 = .ok (.ireturn, 1) := by decide +kernel
theorem dX10_pushOf_0 : decode cX10_pushOf 0 = .ok (.aload_n 1, 1) := by decide +kernel
theorem dX10_pushOf_1 : decode cX10_pushOf 1 = .ok (.getfield 38, 3) := by decide +kernel
theorem dX10_pushOf_4 : decode cX10_pushOf 4 = .ok (.iload_n 3, 1) := by decide +kernel
theorem dX10_pushOf_5 : decode cX10_pushOf 5 = .ok (.iaload, 1) := by decide +kernel
theorem dX10_pushOf_6 : decode cX10_pushOf 6 = .ok (.aload_n 0, 1) := by decide +kernel
theorem dX10_pushOf_7 : decode cX10_pushOf 7 = .ok (.getfield 9, 3) := by decide +kernel
theorem dX10_pushOf_10 : decode cX10_pushOf 10 = .ok (.iload_n 2, 1) := by decide +kernel
theorem dX10_pushOf_11 : decode cX10_pushOf 11 = .ok (.invokevirtual 43, 3) := by decide +kernel
theorem dX10_pushOf_14 : decode cX10_pushOf 14 = .ok (.isub, 1) := by decide +kernel
theorem dX10_pushOf_15 : decode cX10_pushOf 15 = .ok (.istore 4, 2) := by decide +kernel
theorem dX10_pushOf_17 : decode cX10_pushOf 17 = .ok (.aload_n 1, 1) := by decide +kernel
theorem dX10_pushOf_18 : decode cX10_pushOf 18 = .ok (.getfield 47, 3) := by decide +kernel
theorem dX10_pushOf_21 : decode cX10_pushOf 21 = .ok (.iload_n 3, 1) := by decide +kernel
theorem dX10_pushOf_22 : decode cX10_pushOf 22 = .ok (.iaload, 1) := by decide +kernel
theorem dX10_pushOf_23 : decode cX10_pushOf 23 = .ok (.aload_n 0, 1) := by decide +kernel
theorem dX10_pushOf_24 : decode cX10_pushOf 24 = .ok (.getfield 9, 3) := by decide +kernel
theorem dX10_pushOf_27 : decode cX10_pushOf 27 = .ok (.iload_n 2, 1) := by decide +kernel
theorem dX10_pushOf_28 : decode cX10_pushOf 28 = .ok (.invokevirtual 50, 3) := by decide +kernel
theorem dX10_pushOf_31 : decode cX10_pushOf 31 = .ok (.isub, 1) := by decide +kernel
theorem dX10_pushOf_32 : decode cX10_pushOf 32 = .ok (.istore 5, 2) := by decide +kernel
theorem dX10_pushOf_34 : decode cX10_pushOf 34 = .ok (.aload_n 1, 1) := by decide +kernel
theorem dX10_pushOf_35 : decode cX10_pushOf 35 = .ok (.getfield 53, 3) := by decide +kernel
theorem dX10_pushOf_38 : decode cX10_pushOf 38 = .ok (.iconst 2, 1) := by decide +kernel
theorem dX10_pushOf_39 : decode cX10_pushOf 39 = .ok (.irem, 1) := by decide +kernel
theorem dX10_pushOf_40 : decode cX10_pushOf 40 = .ok (.ifCond .ne 8, 3) := by decide +kernel
theorem dX10_pushOf_43 : decode cX10_pushOf 43 = .ok (.iload 4, 2) := by decide +kernel
theorem dX10_pushOf_45 : decode cX10_pushOf 45 = .ok (.goto 5, 3) := by decide +kernel
theorem dX10_pushOf_48 : decode cX10_pushOf 48 = .ok (.iload 5, 2) := by decide +kernel
theorem dX10_pushOf_50 : decode cX10_pushOf 50 = .ok (.istore 6, 2) := by decide +kernel
theorem dX10_pushOf_52 : decode cX10_pushOf 52 = .ok (.aload_n 1, 1) := by decide +kernel
theorem dX10_pushOf_53 : decode cX10_pushOf 53 = .ok (.getfield 53, 3) := by decide +kernel
theorem dX10_pushOf_56 : decode cX10_pushOf 56 = .ok (.iconst 2, 1) := by decide +kernel
theorem dX10_pushOf_57 : decode cX10_pushOf 57 = .ok (.if_icmp .ge 8, 3) := by decide +kernel
theorem dX10_pushOf_60 : decode cX10_pushOf 60 = .ok (.iload 6, 2) := by decide +kernel
theorem dX10_pushOf_62 : decode cX10_pushOf 62 = .ok (.goto 6, 3) := by decide +kernel
theorem dX10_pushOf_65 : decode cX10_pushOf 65 = .ok (.iload 6, 2) := by decide +kernel
theorem dX10_pushOf_67 : decode cX10_pushOf 67 = .ok (.ineg, 1) := by decide +kernel
theorem dX10_pushOf_68 : decode cX10_pushOf 68 = .ok (.istore 7, 2) := by decide +kernel
theorem dX10_pushOf_70 : decode cX10_pushOf 70 = .ok (.iload 7, 2) := by decide +kernel
theorem dX10_pushOf_72 : decode cX10_pushOf 72 = .ok (.ifCond .le 10, 3) := by decide +kernel
theorem dX10_pushOf_75 : decode cX10_pushOf 75 = .ok (.aload_n 1, 1) := by decide +kernel
theorem dX10_pushOf_76 : decode cX10_pushOf 76 = .ok (.getfield 57, 3) := by decide +kernel
theorem dX10_pushOf_79 : decode cX10_pushOf 79 = .ok (.goto 17, 3) := by decide +kernel
theorem dX10_pushOf_82 : decode cX10_pushOf 82 = .ok (.iload 7, 2) := by decide +kernel
theorem dX10_pushOf_84 : decode cX10_pushOf 84 = .ok (.ifCond .ge 11, 3) := by decide +kernel
theorem dX10_pushOf_87 : decode cX10_pushOf 87 = .ok (.aload_n 1, 1) := by decide +kernel
theorem dX10_pushOf_88 : decode cX10_pushOf 88 = .ok (.getfield 57, 3) := by decide +kernel
theorem dX10_pushOf_91 : decode cX10_pushOf 91 = .ok (.ineg, 1) := by decide +kernel
theorem dX10_pushOf_92 : decode cX10_pushOf 92 = .ok (.goto 4, 3) := by decide +kernel
theorem dX10_pushOf_95 : decode cX10_pushOf 95 = .ok (.iconst 0, 1) := by decide +kernel
theorem dX10_pushOf_96 : decode cX10_pushOf 96 = .ok (.istore 8, 2) := by decide +kernel
theorem dX10_pushOf_98 : decode cX10_pushOf 98 = .ok (.aload_n 0, 1) := by decide +kernel
theorem dX10_pushOf_99 : decode cX10_pushOf 99 = .ok (.aload_n 1, 1) := by decide +kernel
theorem dX10_pushOf_100 : decode cX10_pushOf 100 = .ok (.getfield 60, 3) := by decide +kernel
theorem dX10_pushOf_103 : decode cX10_pushOf 103 = .ok (.invokevirtual 63, 3) := by decide +kernel
theorem dX10_pushOf_106 : decode cX10_pushOf 106 = .ok (.ifCond .eq 16, 3) := by decide +kernel
theorem dX10_pushOf_109 : decode cX10_pushOf 109 = .ok (.iload 4, 2) := by decide +kernel
theorem dX10_pushOf_111 : decode cX10_pushOf 111 = .ok (.ifCond .le 7, 3) := by decide +kernel
theorem dX10_pushOf_114 : decode cX10_pushOf 114 = .ok (.iconst 1, 1) := by decide +kernel
theorem dX10_pushOf_115 : decode cX10_pushOf 115 = .ok (.goto 17, 3) := by decide +kernel
theorem dX10_pushOf_118 : decode cX10_pushOf 118 = .ok (.iconst 0, 1) := by decide +kernel
theorem dX10_pushOf_119 : decode cX10_pushOf 119 = .ok (.goto 13, 3) := by decide +kernel
theorem dX10_pushOf_122 : decode cX10_pushOf 122 = .ok (.iload 4, 2) := by decide +kernel
theorem dX10_pushOf_124 : decode cX10_pushOf 124 = .ok (.ifCond .ge 7, 3) := by decide +kernel
theorem dX10_pushOf_127 : decode cX10_pushOf 127 = .ok (.iconst 1, 1) := by decide +kernel
theorem dX10_pushOf_128 : decode cX10_pushOf 128 = .ok (.goto 4, 3) := by decide +kernel
theorem dX10_pushOf_131 : decode cX10_pushOf 131 = .ok (.iconst 0, 1) := by decide +kernel
theorem dX10_pushOf_132 : decode cX10_pushOf 132 = .ok (.istore 9, 2) := by decide +kernel
theorem dX10_pushOf_134 : decode cX10_pushOf 134 = .ok (.iload 9, 2) := by decide +kernel
theorem dX10_pushOf_136 : decode cX10_pushOf 136 = .ok (.ifCond .eq 10, 3) := by decide +kernel
theorem dX10_pushOf_139 : decode cX10_pushOf 139 = .ok (.iload 8, 2) := by decide +kernel
theorem dX10_pushOf_141 : decode cX10_pushOf 141 = .ok (.iconst 1, 1) := by decide +kernel
theorem dX10_pushOf_142 : decode cX10_pushOf 142 = .ok (.iadd, 1) := by decide +kernel
theorem dX10_pushOf_143 : decode cX10_pushOf 143 = .ok (.goto 5, 3) := by decide +kernel
theorem dX10_pushOf_146 : decode cX10_pushOf 146 = .ok (.iload 8, 2) := by decide +kernel
theorem dX10_pushOf_148 : decode cX10_pushOf 148 = .ok (.ireturn, 1) := by decide +kernel
theorem dX10_drawOf_0 : decode cX10_drawOf 0 = .ok (.aload_n 1, 1) := by decide +kernel
theorem dX10_drawOf_1 : decode cX10_drawOf 1 = .ok (.getfield 67, 3) := by decide +kernel
theorem dX10_drawOf_4 : decode cX10_drawOf 4 = .ok (.iload_n 2, 1) := by decide +kernel
theorem dX10_drawOf_5 : decode cX10_drawOf 5 = .ok (.iconst 3, 1) := by decide +kernel
theorem dX10_drawOf_6 : decode cX10_drawOf 6 = .ok (.imul, 1) := by decide +kernel
theorem dX10_drawOf_7 : decode cX10_drawOf 7 = .ok (.iload_n 3, 1) := by decide +kernel
theorem dX10_drawOf_8 : decode cX10_drawOf 8 = .ok (.iadd, 1) := by decide +kernel
theorem dX10_drawOf_9 : decode cX10_drawOf 9 = .ok (.iaload, 1) := by decide +kernel
theorem dX10_drawOf_10 : decode cX10_drawOf 10 = .ok (.istore 4, 2) := by decide +kernel
theorem dX10_drawOf_12 : decode cX10_drawOf 12 = .ok (.aload_n 1, 1) := by decide +kernel
theorem dX10_drawOf_13 : decode cX10_drawOf 13 = .ok (.getfield 70, 3) := by decide +kernel
theorem dX10_drawOf_16 : decode cX10_drawOf 16 = .ok (.iload_n 2, 1) := by decide +kernel
theorem dX10_drawOf_17 : decode cX10_drawOf 17 = .ok (.iaload, 1) := by decide +kernel
theorem dX10_drawOf_18 : decode cX10_drawOf 18 = .ok (.iload_n 3, 1) := by decide +kernel
theorem dX10_drawOf_19 : decode cX10_drawOf 19 = .ok (.if_icmp .ne 12, 3) := by decide +kernel
theorem dX10_drawOf_22 : decode cX10_drawOf 22 = .ok (.aload_n 1, 1) := by decide +kernel
theorem dX10_drawOf_23 : decode cX10_drawOf 23 = .ok (.getfield 73, 3) := by decide +kernel
theorem dX10_drawOf_26 : decode cX10_drawOf 26 = .ok (.iload_n 2, 1) := by decide +kernel
theorem dX10_drawOf_27 : decode cX10_drawOf 27 = .ok (.iaload, 1) := by decide +kernel
theorem dX10_drawOf_28 : decode cX10_drawOf 28 = .ok (.goto 4, 3) := by decide +kernel
theorem dX10_drawOf_31 : decode cX10_drawOf 31 = .ok (.iconst 0, 1) := by decide +kernel
theorem dX10_drawOf_32 : decode cX10_drawOf 32 = .ok (.istore 5, 2) := by decide +kernel
theorem dX10_drawOf_34 : decode cX10_drawOf 34 = .ok (.aload_n 1, 1) := by decide +kernel
theorem dX10_drawOf_35 : decode cX10_drawOf 35 = .ok (.iload_n 3, 1) := by decide +kernel
theorem dX10_drawOf_36 : decode cX10_drawOf 36 = .ok (.aload_n 0, 1) := by decide +kernel
theorem dX10_drawOf_37 : decode cX10_drawOf 37 = .ok (.getfield 9, 3) := by decide +kernel
theorem dX10_drawOf_40 : decode cX10_drawOf 40 = .ok (.iload_n 2, 1) := by decide +kernel
theorem dX10_drawOf_41 : decode cX10_drawOf 41 = .ok (.invokevirtual 43, 3) := by decide +kernel
theorem dX10_drawOf_44 : decode cX10_drawOf 44 = .ok (.aload_n 0, 1) := by decide +kernel
theorem dX10_drawOf_45 : decode cX10_drawOf 45 = .ok (.getfield 9, 3) := by decide +kernel
theorem dX10_drawOf_48 : decode cX10_drawOf 48 = .ok (.iload_n 2, 1) := by decide +kernel
theorem dX10_drawOf_49 : decode cX10_drawOf 49 = .ok (.invokevirtual 50, 3) := by decide +kernel
theorem dX10_drawOf_52 : decode cX10_drawOf 52 = .ok (.invokevirtual 76, 3) := by decide +kernel
theorem dX10_drawOf_55 : decode cX10_drawOf 55 = .ok (.istore 6, 2) := by decide +kernel
theorem dX10_drawOf_57 : decode cX10_drawOf 57 = .ok (.aload_n 0, 1) := by decide +kernel
theorem dX10_drawOf_58 : decode cX10_drawOf 58 = .ok (.getfield 15, 3) := by decide +kernel
theorem dX10_drawOf_61 : decode cX10_drawOf 61 = .ok (.aload_n 0, 1) := by decide +kernel
theorem dX10_drawOf_62 : decode cX10_drawOf 62 = .ok (.getfield 9, 3) := by decide +kernel
theorem dX10_drawOf_65 : decode cX10_drawOf 65 = .ok (.iload_n 3, 1) := by decide +kernel
theorem dX10_drawOf_66 : decode cX10_drawOf 66 = .ok (.invokevirtual 80, 3) := by decide +kernel
theorem dX10_drawOf_69 : decode cX10_drawOf 69 = .ok (.iload 4, 2) := by decide +kernel
theorem dX10_drawOf_71 : decode cX10_drawOf 71 = .ok (.iload 5, 2) := by decide +kernel
theorem dX10_drawOf_73 : decode cX10_drawOf 73 = .ok (.iload 6, 2) := by decide +kernel
theorem dX10_drawOf_75 : decode cX10_drawOf 75 = .ok (.aload_n 0, 1) := by decide +kernel
theorem dX10_drawOf_76 : decode cX10_drawOf 76 = .ok (.aload_n 1, 1) := by decide +kernel
theorem dX10_drawOf_77 : decode cX10_drawOf 77 = .ok (.iload_n 2, 1) := by decide +kernel
theorem dX10_drawOf_78 : decode cX10_drawOf 78 = .ok (.iload_n 3, 1) := by decide +kernel
theorem dX10_drawOf_79 : decode cX10_drawOf 79 = .ok (.invokevirtual 83, 3) := by decide +kernel
theorem dX10_drawOf_82 : decode cX10_drawOf 82 = .ok (.aload_n 1, 1) := by decide +kernel
theorem dX10_drawOf_83 : decode cX10_drawOf 83 = .ok (.getfield 60, 3) := by decide +kernel
theorem dX10_drawOf_86 : decode cX10_drawOf 86 = .ok (.invokevirtual 87, 3) := by decide +kernel
theorem dX10_drawOf_89 : decode cX10_drawOf 89 = .ok (.ireturn, 1) := by decide +kernel
theorem dX11_feed_0 : decode cX11_feed 0 = .ok (.iload_n 1, 1) := by decide +kernel
theorem dX11_feed_1 : decode cX11_feed 1 = .ok (.invokestatic 99, 3) := by decide +kernel
theorem dX11_feed_4 : decode cX11_feed 4 = .ok (.iload_n 2, 1) := by decide +kernel
theorem dX11_feed_5 : decode cX11_feed 5 = .ok (.invokestatic 99, 3) := by decide +kernel
theorem dX11_feed_8 : decode cX11_feed 8 = .ok (.iadd, 1) := by decide +kernel
theorem dX11_feed_9 : decode cX11_feed 9 = .ok (.iload_n 3, 1) := by decide +kernel
theorem dX11_feed_10 : decode cX11_feed 10 = .ok (.invokestatic 99, 3) := by decide +kernel
theorem dX11_feed_13 : decode cX11_feed 13 = .ok (.iadd, 1) := by decide +kernel
theorem dX11_feed_14 : decode cX11_feed 14 = .ok (.iload 4, 2) := by decide +kernel
theorem dX11_feed_16 : decode cX11_feed 16 = .ok (.invokestatic 99, 3) := by decide +kernel
theorem dX11_feed_19 : decode cX11_feed 19 = .ok (.iadd, 1) := by decide +kernel
theorem dX11_feed_20 : decode cX11_feed 20 = .ok (.iload 5, 2) := by decide +kernel
theorem dX11_feed_22 : decode cX11_feed 22 = .ok (.invokestatic 99, 3) := by decide +kernel
theorem dX11_feed_25 : decode cX11_feed 25 = .ok (.iadd, 1) := by decide +kernel
theorem dX11_feed_26 : decode cX11_feed 26 = .ok (.istore 6, 2) := by decide +kernel
theorem dX11_feed_28 : decode cX11_feed 28 = .ok (.aload_n 0, 1) := by decide +kernel
theorem dX11_feed_29 : decode cX11_feed 29 = .ok (.getfield 10, 3) := by decide +kernel
theorem dX11_feed_32 : decode cX11_feed 32 = .ok (.getfield 103, 3) := by decide +kernel
theorem dX11_feed_35 : decode cX11_feed 35 = .ok (.iload 6, 2) := by decide +kernel
theorem dX11_feed_37 : decode cX11_feed 37 = .ok (.iadd, 1) := by decide +kernel
theorem dX11_feed_38 : decode cX11_feed 38 = .ok (.sipush 240, 3) := by decide +kernel
theorem dX11_feed_41 : decode cX11_feed 41 = .ok (.if_icmp .le 5, 3) := by decide +kernel
theorem dX11_feed_44 : decode cX11_feed 44 = .ok (.iconst (-1), 1) := by decide +kernel
theorem dX11_feed_45 : decode cX11_feed 45 = .ok (.ireturn, 1) := by decide +kernel
theorem dX11_feed_46 : decode cX11_feed 46 = .ok (.aload_n 0, 1) := by decide +kernel
theorem dX11_feed_47 : decode cX11_feed 47 = .ok (.getfield 10, 3) := by decide +kernel
theorem dX11_feed_50 : decode cX11_feed 50 = .ok (.iload_n 1, 1) := by decide +kernel
theorem dX11_feed_51 : decode cX11_feed 51 = .ok (.invokevirtual 107, 3) := by decide +kernel
theorem dX11_feed_54 : decode cX11_feed 54 = .ok (.aload_n 0, 1) := by decide +kernel
theorem dX11_feed_55 : decode cX11_feed 55 = .ok (.getfield 10, 3) := by decide +kernel
theorem dX11_feed_58 : decode cX11_feed 58 = .ok (.iload_n 2, 1) := by decide +kernel
theorem dX11_feed_59 : decode cX11_feed 59 = .ok (.invokevirtual 107, 3) := by decide +kernel
theorem dX11_feed_62 : decode cX11_feed 62 = .ok (.aload_n 0, 1) := by decide +kernel
theorem dX11_feed_63 : decode cX11_feed 63 = .ok (.getfield 10, 3) := by decide +kernel
theorem dX11_feed_66 : decode cX11_feed 66 = .ok (.iload_n 3, 1) := by decide +kernel
theorem dX11_feed_67 : decode cX11_feed 67 = .ok (.invokevirtual 107, 3) := by decide +kernel
theorem dX11_feed_70 : decode cX11_feed 70 = .ok (.aload_n 0, 1) := by decide +kernel
theorem dX11_feed_71 : decode cX11_feed 71 = .ok (.getfield 10, 3) := by decide +kernel
theorem dX11_feed_74 : decode cX11_feed 74 = .ok (.iload 4, 2) := by decide +kernel
theorem dX11_feed_76 : decode cX11_feed 76 = .ok (.invokevirtual 107, 3) := by decide +kernel
theorem dX11_feed_79 : decode cX11_feed 79 = .ok (.aload_n 0, 1) := by decide +kernel
theorem dX11_feed_80 : decode cX11_feed 80 = .ok (.getfield 10, 3) := by decide +kernel
theorem dX11_feed_83 : decode cX11_feed 83 = .ok (.iload 5, 2) := by decide +kernel
theorem dX11_feed_85 : decode cX11_feed 85 = .ok (.invokevirtual 107, 3) := by decide +kernel
theorem dX11_feed_88 : decode cX11_feed 88 = .ok (.aload_n 0, 1) := by decide +kernel
theorem dX11_feed_89 : decode cX11_feed 89 = .ok (.getfield 10, 3) := by decide +kernel
theorem dX11_feed_92 : decode cX11_feed 92 = .ok (.getfield 103, 3) := by decide +kernel
theorem dX11_feed_95 : decode cX11_feed 95 = .ok (.ireturn, 1) := by decide +kernel
theorem dX11_end_0 : decode cX11_end 0 = .ok (.iload_n 1, 1) := by decide +kernel
theorem dX11_end_1 : decode cX11_end 1 = .ok (.iconst 0, 1) := by decide +kernel
theorem dX11_end_2 : decode cX11_end 2 = .ok (.aload_n 0, 1) := by decide +kernel
theorem dX11_end_3 : decode cX11_end 3 = .ok (.getfield 10, 3) := by decide +kernel
theorem dX11_end_6 : decode cX11_end 6 = .ok (.getfield 103, 3) := by decide +kernel
theorem dX11_end_9 : decode cX11_end 9 = .ok (.invokestatic 111, 3) := by decide +kernel
theorem dX11_end_12 : decode cX11_end 12 = .ok (.ifCond .ne 5, 3) := by decide +kernel
theorem dX11_end_15 : decode cX11_end 15 = .ok (.iconst 0, 1) := by decide +kernel
theorem dX11_end_16 : decode cX11_end 16 = .ok (.ireturn, 1) := by decide +kernel
theorem dX11_end_17 : decode cX11_end 17 = .ok (.aload_n 0, 1) := by decide +kernel
theorem dX11_end_18 : decode cX11_end 18 = .ok (.getfield 10, 3) := by decide +kernel
theorem dX11_end_21 : decode cX11_end 21 = .ok (.iload_n 1, 1) := by decide +kernel
theorem dX11_end_22 : decode cX11_end 22 = .ok (.putfield 103, 3) := by decide +kernel
theorem dX11_end_25 : decode cX11_end 25 = .ok (.iconst 1, 1) := by decide +kernel
theorem dX11_end_26 : decode cX11_end 26 = .ok (.ireturn, 1) := by decide +kernel
theorem dX11_rule_0 : decode cX11_rule 0 = .ok (.aload_n 0, 1) := by decide +kernel
theorem dX11_rule_1 : decode cX11_rule 1 = .ok (.invokevirtual 140, 3) := by decide +kernel
theorem dX11_rule_4 : decode cX11_rule 4 = .ok (.ifCond .ne 5, 3) := by decide +kernel
theorem dX11_rule_7 : decode cX11_rule 7 = .ok (.iconst (-1), 1) := by decide +kernel
theorem dX11_rule_8 : decode cX11_rule 8 = .ok (.ireturn, 1) := by decide +kernel
theorem dX11_rule_9 : decode cX11_rule 9 = .ok (.iload_n 1, 1) := by decide +kernel
theorem dX11_rule_10 : decode cX11_rule 10 = .ok (.tableswitch 89 0 4 #[34, 42, 50, 58, 66], 34) := by decide +kernel
theorem dX11_rule_44 : decode cX11_rule 44 = .ok (.aload_n 0, 1) := by decide +kernel
theorem dX11_rule_45 : decode cX11_rule 45 = .ok (.getfield 52, 3) := by decide +kernel
theorem dX11_rule_48 : decode cX11_rule 48 = .ok (.getfield 144, 3) := by decide +kernel
theorem dX11_rule_51 : decode cX11_rule 51 = .ok (.ireturn, 1) := by decide +kernel
theorem dX11_rule_52 : decode cX11_rule 52 = .ok (.aload_n 0, 1) := by decide +kernel
theorem dX11_rule_53 : decode cX11_rule 53 = .ok (.getfield 52, 3) := by decide +kernel
theorem dX11_rule_56 : decode cX11_rule 56 = .ok (.getfield 147, 3) := by decide +kernel
theorem dX11_rule_59 : decode cX11_rule 59 = .ok (.ireturn, 1) := by decide +kernel
theorem dX11_rule_60 : decode cX11_rule 60 = .ok (.aload_n 0, 1) := by decide +kernel
theorem dX11_rule_61 : decode cX11_rule 61 = .ok (.getfield 19, 3) := by decide +kernel
theorem dX11_rule_64 : decode cX11_rule 64 = .ok (.invokevirtual 150, 3) := by decide +kernel
theorem dX11_rule_67 : decode cX11_rule 67 = .ok (.ireturn, 1) := by decide +kernel
theorem dX11_rule_68 : decode cX11_rule 68 = .ok (.aload_n 0, 1) := by decide +kernel
theorem dX11_rule_69 : decode cX11_rule 69 = .ok (.getfield 19, 3) := by decide +kernel
theorem dX11_rule_72 : decode cX11_rule 72 = .ok (.invokevirtual 153, 3) := by decide +kernel
theorem dX11_rule_75 : decode cX11_rule 75 = .ok (.ireturn, 1) := by decide +kernel
theorem dX11_rule_76 : decode cX11_rule 76 = .ok (.aload_n 0, 1) := by decide +kernel
theorem dX11_rule_77 : decode cX11_rule 77 = .ok (.getfield 45, 3) := by decide +kernel
theorem dX11_rule_80 : decode cX11_rule 80 = .ok (.aload_n 0, 1) := by decide +kernel
theorem dX11_rule_81 : decode cX11_rule 81 = .ok (.getfield 52, 3) := by decide +kernel
theorem dX11_rule_84 : decode cX11_rule 84 = .ok (.getfield 156, 3) := by decide +kernel
theorem dX11_rule_87 : decode cX11_rule 87 = .ok (.invokevirtual 159, 3) := by decide +kernel
theorem dX11_rule_90 : decode cX11_rule 90 = .ok (.ifCond .eq 7, 3) := by decide +kernel
theorem dX11_rule_93 : decode cX11_rule 93 = .ok (.iconst 1, 1) := by decide +kernel
theorem dX11_rule_94 : decode cX11_rule 94 = .ok (.goto 4, 3) := by decide +kernel
theorem dX11_rule_97 : decode cX11_rule 97 = .ok (.iconst 0, 1) := by decide +kernel
theorem dX11_rule_98 : decode cX11_rule 98 = .ok (.ireturn, 1) := by decide +kernel
theorem dX11_rule_99 : decode cX11_rule 99 = .ok (.iconst (-1), 1) := by decide +kernel
theorem dX11_rule_100 : decode cX11_rule 100 = .ok (.ireturn, 1) := by decide +kernel
theorem dX11_boat_0 : decode cX11_boat 0 = .ok (.aload_n 0, 1) := by decide +kernel
theorem dX11_boat_1 : decode cX11_boat 1 = .ok (.iload_n 1, 1) := by decide +kernel
theorem dX11_boat_2 : decode cX11_boat 2 = .ok (.invokevirtual 191, 3) := by decide +kernel
theorem dX11_boat_5 : decode cX11_boat 5 = .ok (.ifCond .ne 5, 3) := by decide +kernel
theorem dX11_boat_8 : decode cX11_boat 8 = .ok (.iconst (-1), 1) := by decide +kernel
theorem dX11_boat_9 : decode cX11_boat 9 = .ok (.ireturn, 1) := by decide +kernel
theorem dX11_boat_10 : decode cX11_boat 10 = .ok (.iload_n 2, 1) := by decide +kernel
theorem dX11_boat_11 : decode cX11_boat 11 = .ok (.tableswitch 123 0 7 #[45, 55, 65, 74, 83, 93, 103, 113], 45) := by decide +kernel
theorem dX11_boat_56 : decode cX11_boat 56 = .ok (.aload_n 0, 1) := by decide +kernel
theorem dX11_boat_57 : decode cX11_boat 57 = .ok (.getfield 52, 3) := by decide +kernel
theorem dX11_boat_60 : decode cX11_boat 60 = .ok (.getfield 194, 3) := by decide +kernel
theorem dX11_boat_63 : decode cX11_boat 63 = .ok (.iload_n 1, 1) := by decide +kernel
theorem dX11_boat_64 : decode cX11_boat 64 = .ok (.iaload, 1) := by decide +kernel
theorem dX11_boat_65 : decode cX11_boat 65 = .ok (.ireturn, 1) := by decide +kernel
theorem dX11_boat_66 : decode cX11_boat 66 = .ok (.aload_n 0, 1) := by decide +kernel
theorem dX11_boat_67 : decode cX11_boat 67 = .ok (.getfield 52, 3) := by decide +kernel
theorem dX11_boat_70 : decode cX11_boat 70 = .ok (.getfield 197, 3) := by decide +kernel
theorem dX11_boat_73 : decode cX11_boat 73 = .ok (.iload_n 1, 1) := by decide +kernel
theorem dX11_boat_74 : decode cX11_boat 74 = .ok (.iaload, 1) := by decide +kernel
theorem dX11_boat_75 : decode cX11_boat 75 = .ok (.ireturn, 1) := by decide +kernel
theorem dX11_boat_76 : decode cX11_boat 76 = .ok (.aload_n 0, 1) := by decide +kernel
theorem dX11_boat_77 : decode cX11_boat 77 = .ok (.getfield 19, 3) := by decide +kernel
theorem dX11_boat_80 : decode cX11_boat 80 = .ok (.iload_n 1, 1) := by decide +kernel
theorem dX11_boat_81 : decode cX11_boat 81 = .ok (.invokevirtual 200, 3) := by decide +kernel
theorem dX11_boat_84 : decode cX11_boat 84 = .ok (.ireturn, 1) := by decide +kernel
theorem dX11_boat_85 : decode cX11_boat 85 = .ok (.aload_n 0, 1) := by decide +kernel
theorem dX11_boat_86 : decode cX11_boat 86 = .ok (.getfield 19, 3) := by decide +kernel
theorem dX11_boat_89 : decode cX11_boat 89 = .ok (.iload_n 1, 1) := by decide +kernel
theorem dX11_boat_90 : decode cX11_boat 90 = .ok (.invokevirtual 203, 3) := by decide +kernel
theorem dX11_boat_93 : decode cX11_boat 93 = .ok (.ireturn, 1) := by decide +kernel
theorem dX11_boat_94 : decode cX11_boat 94 = .ok (.aload_n 0, 1) := by decide +kernel
theorem dX11_boat_95 : decode cX11_boat 95 = .ok (.getfield 52, 3) := by decide +kernel
theorem dX11_boat_98 : decode cX11_boat 98 = .ok (.getfield 206, 3) := by decide +kernel
theorem dX11_boat_101 : decode cX11_boat 101 = .ok (.iload_n 1, 1) := by decide +kernel
theorem dX11_boat_102 : decode cX11_boat 102 = .ok (.iaload, 1) := by decide +kernel
theorem dX11_boat_103 : decode cX11_boat 103 = .ok (.ireturn, 1) := by decide +kernel
theorem dX11_boat_104 : decode cX11_boat 104 = .ok (.aload_n 0, 1) := by decide +kernel
theorem dX11_boat_105 : decode cX11_boat 105 = .ok (.getfield 52, 3) := by decide +kernel
theorem dX11_boat_108 : decode cX11_boat 108 = .ok (.getfield 209, 3) := by decide +kernel
theorem dX11_boat_111 : decode cX11_boat 111 = .ok (.iload_n 1, 1) := by decide +kernel
theorem dX11_boat_112 : decode cX11_boat 112 = .ok (.iaload, 1) := by decide +kernel
theorem dX11_boat_113 : decode cX11_boat 113 = .ok (.ireturn, 1) := by decide +kernel
theorem dX11_boat_114 : decode cX11_boat 114 = .ok (.aload_n 0, 1) := by decide +kernel
theorem dX11_boat_115 : decode cX11_boat 115 = .ok (.getfield 52, 3) := by decide +kernel
theorem dX11_boat_118 : decode cX11_boat 118 = .ok (.getfield 212, 3) := by decide +kernel
theorem dX11_boat_121 : decode cX11_boat 121 = .ok (.iload_n 1, 1) := by decide +kernel
theorem dX11_boat_122 : decode cX11_boat 122 = .ok (.iaload, 1) := by decide +kernel
theorem dX11_boat_123 : decode cX11_boat 123 = .ok (.ireturn, 1) := by decide +kernel
theorem dX11_boat_124 : decode cX11_boat 124 = .ok (.aload_n 0, 1) := by decide +kernel
theorem dX11_boat_125 : decode cX11_boat 125 = .ok (.getfield 52, 3) := by decide +kernel
theorem dX11_boat_128 : decode cX11_boat 128 = .ok (.getfield 215, 3) := by decide +kernel
theorem dX11_boat_131 : decode cX11_boat 131 = .ok (.iload_n 1, 1) := by decide +kernel
theorem dX11_boat_132 : decode cX11_boat 132 = .ok (.iaload, 1) := by decide +kernel
theorem dX11_boat_133 : decode cX11_boat 133 = .ok (.ireturn, 1) := by decide +kernel
theorem dX11_boat_134 : decode cX11_boat 134 = .ok (.iconst (-1), 1) := by decide +kernel
theorem dX11_boat_135 : decode cX11_boat 135 = .ok (.ireturn, 1) := by decide +kernel
theorem dX11_law_0 : decode cX11_law 0 = .ok (.iload_n 1, 1) := by decide +kernel
theorem dX11_law_1 : decode cX11_law 1 = .ok (.iconst (-1), 1) := by decide +kernel
theorem dX11_law_2 : decode cX11_law 2 = .ok (.aload_n 0, 1) := by decide +kernel
theorem dX11_law_3 : decode cX11_law 3 = .ok (.getfield 29, 3) := by decide +kernel
theorem dX11_law_6 : decode cX11_law 6 = .ok (.getfield 218, 3) := by decide +kernel
theorem dX11_law_9 : decode cX11_law 9 = .ok (.iconst 1, 1) := by decide +kernel
theorem dX11_law_10 : decode cX11_law 10 = .ok (.isub, 1) := by decide +kernel
theorem dX11_law_11 : decode cX11_law 11 = .ok (.invokestatic 111, 3) := by decide +kernel
theorem dX11_law_14 : decode cX11_law 14 = .ok (.ifCond .ne 5, 3) := by decide +kernel
theorem dX11_law_17 : decode cX11_law 17 = .ok (.iconst 0, 1) := by decide +kernel
theorem dX11_law_18 : decode cX11_law 18 = .ok (.ireturn, 1) := by decide +kernel
theorem dX11_law_19 : decode cX11_law 19 = .ok (.aload_n 0, 1) := by decide +kernel
theorem dX11_law_20 : decode cX11_law 20 = .ok (.getfield 29, 3) := by decide +kernel
theorem dX11_law_23 : decode cX11_law 23 = .ok (.iload_n 1, 1) := by decide +kernel
theorem dX11_law_24 : decode cX11_law 24 = .ok (.putfield 221, 3) := by decide +kernel
theorem dX11_law_27 : decode cX11_law 27 = .ok (.iconst 1, 1) := by decide +kernel
theorem dX11_law_28 : decode cX11_law 28 = .ok (.ireturn, 1) := by decide +kernel
theorem dX11_pull_0 : decode cX11_pull 0 = .ok (.aload_n 0, 1) := by decide +kernel
theorem dX11_pull_1 : decode cX11_pull 1 = .ok (.iload_n 1, 1) := by decide +kernel
theorem dX11_pull_2 : decode cX11_pull 2 = .ok (.invokevirtual 163, 3) := by decide +kernel
theorem dX11_pull_5 : decode cX11_pull 5 = .ok (.ifCond .eq 27, 3) := by decide +kernel
theorem dX11_pull_8 : decode cX11_pull 8 = .ok (.aload_n 0, 1) := by decide +kernel
theorem dX11_pull_9 : decode cX11_pull 9 = .ok (.iload_n 2, 1) := by decide +kernel
theorem dX11_pull_10 : decode cX11_pull 10 = .ok (.invokevirtual 191, 3) := by decide +kernel
theorem dX11_pull_13 : decode cX11_pull 13 = .ok (.ifCond .eq 19, 3) := by decide +kernel
theorem dX11_pull_16 : decode cX11_pull 16 = .ok (.aload_n 0, 1) := by decide +kernel
theorem dX11_pull_17 : decode cX11_pull 17 = .ok (.getfield 45, 3) := by decide +kernel
theorem dX11_pull_20 : decode cX11_pull 20 = .ok (.aload_n 0, 1) := by decide +kernel
theorem dX11_pull_21 : decode cX11_pull 21 = .ok (.getfield 52, 3) := by decide +kernel
theorem dX11_pull_24 : decode cX11_pull 24 = .ok (.iload_n 1, 1) := by decide +kernel
theorem dX11_pull_25 : decode cX11_pull 25 = .ok (.iload_n 2, 1) := by decide +kernel
theorem dX11_pull_26 : decode cX11_pull 26 = .ok (.invokevirtual 224, 3) := by decide +kernel
theorem dX11_pull_29 : decode cX11_pull 29 = .ok (.goto 5, 3) := by decide +kernel
theorem dX11_pull_32 : decode cX11_pull 32 = .ok (.ldc 228, 2) := by decide +kernel
theorem dX11_pull_34 : decode cX11_pull 34 = .ok (.ireturn, 1) := by decide +kernel
theorem dX11_push_0 : decode cX11_push 0 = .ok (.aload_n 0, 1) := by decide +kernel
theorem dX11_push_1 : decode cX11_push 1 = .ok (.iload_n 1, 1) := by decide +kernel
theorem dX11_push_2 : decode cX11_push 2 = .ok (.invokevirtual 163, 3) := by decide +kernel
theorem dX11_push_5 : decode cX11_push 5 = .ok (.ifCond .eq 27, 3) := by decide +kernel
theorem dX11_push_8 : decode cX11_push 8 = .ok (.aload_n 0, 1) := by decide +kernel
theorem dX11_push_9 : decode cX11_push 9 = .ok (.iload_n 2, 1) := by decide +kernel
theorem dX11_push_10 : decode cX11_push 10 = .ok (.invokevirtual 191, 3) := by decide +kernel
theorem dX11_push_13 : decode cX11_push 13 = .ok (.ifCond .eq 19, 3) := by decide +kernel
theorem dX11_push_16 : decode cX11_push 16 = .ok (.aload_n 0, 1) := by decide +kernel
theorem dX11_push_17 : decode cX11_push 17 = .ok (.getfield 45, 3) := by decide +kernel
theorem dX11_push_20 : decode cX11_push 20 = .ok (.aload_n 0, 1) := by decide +kernel
theorem dX11_push_21 : decode cX11_push 21 = .ok (.getfield 52, 3) := by decide +kernel
theorem dX11_push_24 : decode cX11_push 24 = .ok (.iload_n 1, 1) := by decide +kernel
theorem dX11_push_25 : decode cX11_push 25 = .ok (.iload_n 2, 1) := by decide +kernel
theorem dX11_push_26 : decode cX11_push 26 = .ok (.invokevirtual 229, 3) := by decide +kernel
theorem dX11_push_29 : decode cX11_push 29 = .ok (.goto 5, 3) := by decide +kernel
theorem dX11_push_32 : decode cX11_push 32 = .ok (.ldc 228, 2) := by decide +kernel
theorem dX11_push_34 : decode cX11_push 34 = .ok (.ireturn, 1) := by decide +kernel
theorem dX11_log_0 : decode cX11_log 0 = .ok (.iload_n 1, 1) := by decide +kernel
theorem dX11_log_1 : decode cX11_log 1 = .ok (.iconst 0, 1) := by decide +kernel
theorem dX11_log_2 : decode cX11_log 2 = .ok (.aload_n 0, 1) := by decide +kernel
theorem dX11_log_3 : decode cX11_log 3 = .ok (.getfield 52, 3) := by decide +kernel
theorem dX11_log_6 : decode cX11_log 6 = .ok (.invokevirtual 285, 3) := by decide +kernel
theorem dX11_log_9 : decode cX11_log 9 = .ok (.iconst 1, 1) := by decide +kernel
theorem dX11_log_10 : decode cX11_log 10 = .ok (.isub, 1) := by decide +kernel
theorem dX11_log_11 : decode cX11_log 11 = .ok (.invokestatic 111, 3) := by decide +kernel
theorem dX11_log_14 : decode cX11_log 14 = .ok (.ifCond .eq 12, 3) := by decide +kernel
theorem dX11_log_17 : decode cX11_log 17 = .ok (.iload_n 2, 1) := by decide +kernel
theorem dX11_log_18 : decode cX11_log 18 = .ok (.iconst 0, 1) := by decide +kernel
theorem dX11_log_19 : decode cX11_log 19 = .ok (.iconst 2, 1) := by decide +kernel
theorem dX11_log_20 : decode cX11_log 20 = .ok (.invokestatic 111, 3) := by decide +kernel
theorem dX11_log_23 : decode cX11_log 23 = .ok (.ifCond .ne 5, 3) := by decide +kernel
theorem dX11_log_26 : decode cX11_log 26 = .ok (.iconst (-1), 1) := by decide +kernel
theorem dX11_log_27 : decode cX11_log 27 = .ok (.ireturn, 1) := by decide +kernel
theorem dX11_log_28 : decode cX11_log 28 = .ok (.aload_n 0, 1) := by decide +kernel
theorem dX11_log_29 : decode cX11_log 29 = .ok (.getfield 62, 3) := by decide +kernel
theorem dX11_log_32 : decode cX11_log 32 = .ok (.aload_n 0, 1) := by decide +kernel
theorem dX11_log_33 : decode cX11_log 33 = .ok (.getfield 52, 3) := by decide +kernel
theorem dX11_log_36 : decode cX11_log 36 = .ok (.getfield 288, 3) := by decide +kernel
theorem dX11_log_39 : decode cX11_log 39 = .ok (.iconst 1, 1) := by decide +kernel
theorem dX11_log_40 : decode cX11_log 40 = .ok (.isub, 1) := by decide +kernel
theorem dX11_log_41 : decode cX11_log 41 = .ok (.iload_n 1, 1) := by decide +kernel
theorem dX11_log_42 : decode cX11_log 42 = .ok (.isub, 1) := by decide +kernel
theorem dX11_log_43 : decode cX11_log 43 = .ok (.iload_n 2, 1) := by decide +kernel
theorem dX11_log_44 : decode cX11_log 44 = .ok (.invokevirtual 291, 3) := by decide +kernel
theorem dX11_log_47 : decode cX11_log 47 = .ok (.ireturn, 1) := by decide +kernel
theorem dX11_step_0 : decode cX11_step 0 = .ok (.aload_n 0, 1) := by decide +kernel
theorem dX11_step_1 : decode cX11_step 1 = .ok (.iload_n 1, 1) := by decide +kernel
theorem dX11_step_2 : decode cX11_step 2 = .ok (.invokevirtual 293, 3) := by decide +kernel
theorem dX11_step_5 : decode cX11_step 5 = .ok (.ifCond .eq 31, 3) := by decide +kernel
theorem dX11_step_8 : decode cX11_step 8 = .ok (.iload_n 2, 1) := by decide +kernel
theorem dX11_step_9 : decode cX11_step 9 = .ok (.iconst 0, 1) := by decide +kernel
theorem dX11_step_10 : decode cX11_step 10 = .ok (.aload_n 0, 1) := by decide +kernel
theorem dX11_step_11 : decode cX11_step 11 = .ok (.getfield 35, 3) := by decide +kernel
theorem dX11_step_14 : decode cX11_step 14 = .ok (.iload_n 1, 1) := by decide +kernel
theorem dX11_step_15 : decode cX11_step 15 = .ok (.aaload, 1) := by decide +kernel
theorem dX11_step_16 : decode cX11_step 16 = .ok (.getfield 296, 3) := by decide +kernel
theorem dX11_step_19 : decode cX11_step 19 = .ok (.iconst 1, 1) := by decide +kernel
theorem dX11_step_20 : decode cX11_step 20 = .ok (.isub, 1) := by decide +kernel
theorem dX11_step_21 : decode cX11_step 21 = .ok (.invokestatic 111, 3) := by decide +kernel
theorem dX11_step_24 : decode cX11_step 24 = .ok (.ifCond .eq 12, 3) := by decide +kernel
theorem dX11_step_27 : decode cX11_step 27 = .ok (.iload_n 3, 1) := by decide +kernel
theorem dX11_step_28 : decode cX11_step 28 = .ok (.iconst 0, 1) := by decide +kernel
theorem dX11_step_29 : decode cX11_step 29 = .ok (.iconst 3, 1) := by decide +kernel
theorem dX11_step_30 : decode cX11_step 30 = .ok (.invokestatic 111, 3) := by decide +kernel
theorem dX11_step_33 : decode cX11_step 33 = .ok (.ifCond .ne 6, 3) := by decide +kernel
theorem dX11_step_36 : decode cX11_step 36 = .ok (.ldc 228, 2) := by decide +kernel
theorem dX11_step_38 : decode cX11_step 38 = .ok (.ireturn, 1) := by decide +kernel
theorem dX11_step_39 : decode cX11_step 39 = .ok (.aload_n 0, 1) := by decide +kernel
theorem dX11_step_40 : decode cX11_step 40 = .ok (.getfield 35, 3) := by decide +kernel
theorem dX11_step_43 : decode cX11_step 43 = .ok (.iload_n 1, 1) := by decide +kernel
theorem dX11_step_44 : decode cX11_step 44 = .ok (.aaload, 1) := by decide +kernel
theorem dX11_step_45 : decode cX11_step 45 = .ok (.iload_n 2, 1) := by decide +kernel
theorem dX11_step_46 : decode cX11_step 46 = .ok (.iload_n 3, 1) := by decide +kernel
theorem dX11_step_47 : decode cX11_step 47 = .ok (.invokevirtual 299, 3) := by decide +kernel
theorem dX11_step_50 : decode cX11_step 50 = .ok (.ireturn, 1) := by decide +kernel
theorem dX11_soon_0 : decode cX11_soon 0 = .ok (.aload_n 0, 1) := by decide +kernel
theorem dX11_soon_1 : decode cX11_soon 1 = .ok (.iload_n 1, 1) := by decide +kernel
theorem dX11_soon_2 : decode cX11_soon 2 = .ok (.invokevirtual 191, 3) := by decide +kernel
theorem dX11_soon_5 : decode cX11_soon 5 = .ok (.ifCond .eq 11, 3) := by decide +kernel
theorem dX11_soon_8 : decode cX11_soon 8 = .ok (.aload_n 0, 1) := by decide +kernel
theorem dX11_soon_9 : decode cX11_soon 9 = .ok (.iload_n 2, 1) := by decide +kernel
theorem dX11_soon_10 : decode cX11_soon 10 = .ok (.invokevirtual 163, 3) := by decide +kernel
theorem dX11_soon_13 : decode cX11_soon 13 = .ok (.ifCond .ne 5, 3) := by decide +kernel
theorem dX11_soon_16 : decode cX11_soon 16 = .ok (.iconst (-1), 1) := by decide +kernel
theorem dX11_soon_17 : decode cX11_soon 17 = .ok (.ireturn, 1) := by decide +kernel
theorem dX11_soon_18 : decode cX11_soon 18 = .ok (.aload_n 0, 1) := by decide +kernel
theorem dX11_soon_19 : decode cX11_soon 19 = .ok (.getfield 52, 3) := by decide +kernel
theorem dX11_soon_22 : decode cX11_soon 22 = .ok (.iload_n 1, 1) := by decide +kernel
theorem dX11_soon_23 : decode cX11_soon 23 = .ok (.aload_n 0, 1) := by decide +kernel
theorem dX11_soon_24 : decode cX11_soon 24 = .ok (.getfield 19, 3) := by decide +kernel
theorem dX11_soon_27 : decode cX11_soon 27 = .ok (.iload_n 2, 1) := by decide +kernel
theorem dX11_soon_28 : decode cX11_soon 28 = .ok (.invokevirtual 169, 3) := by decide +kernel
theorem dX11_soon_31 : decode cX11_soon 31 = .ok (.aload_n 0, 1) := by decide +kernel
theorem dX11_soon_32 : decode cX11_soon 32 = .ok (.getfield 19, 3) := by decide +kernel
theorem dX11_soon_35 : decode cX11_soon 35 = .ok (.iload_n 2, 1) := by decide +kernel
theorem dX11_soon_36 : decode cX11_soon 36 = .ok (.invokevirtual 172, 3) := by decide +kernel
theorem dX11_soon_39 : decode cX11_soon 39 = .ok (.invokevirtual 240, 3) := by decide +kernel
theorem dX11_soon_42 : decode cX11_soon 42 = .ok (.aload_n 0, 1) := by decide +kernel
theorem dX11_soon_43 : decode cX11_soon 43 = .ok (.getfield 19, 3) := by decide +kernel
theorem dX11_soon_46 : decode cX11_soon 46 = .ok (.iload_n 1, 1) := by decide +kernel
theorem dX11_soon_47 : decode cX11_soon 47 = .ok (.invokevirtual 200, 3) := by decide +kernel
theorem dX11_soon_50 : decode cX11_soon 50 = .ok (.invokestatic 244, 3) := by decide +kernel
theorem dX11_soon_53 : decode cX11_soon 53 = .ok (.ireturn, 1) := by decide +kernel
theorem dX11_watch_0 : decode cX11_watch 0 = .ok (.aload_n 0, 1) := by decide +kernel
theorem dX11_watch_1 : decode cX11_watch 1 = .ok (.invokevirtual 140, 3) := by decide +kernel
theorem dX11_watch_4 : decode cX11_watch 4 = .ok (.ifCond .eq 24, 3) := by decide +kernel
theorem dX11_watch_7 : decode cX11_watch 7 = .ok (.iload_n 1, 1) := by decide +kernel
theorem dX11_watch_8 : decode cX11_watch 8 = .ok (.iconst 0, 1) := by decide +kernel
theorem dX11_watch_9 : decode cX11_watch 9 = .ok (.bipush 18, 2) := by decide +kernel
theorem dX11_watch_11 : decode cX11_watch 11 = .ok (.invokestatic 111, 3) := by decide +kernel
theorem dX11_watch_14 : decode cX11_watch 14 = .ok (.ifCond .eq 14, 3) := by decide +kernel
theorem dX11_watch_17 : decode cX11_watch 17 = .ok (.aload_n 0, 1) := by decide +kernel
theorem dX11_watch_18 : decode cX11_watch 18 = .ok (.getfield 87, 3) := by decide +kernel
theorem dX11_watch_21 : decode cX11_watch 21 = .ok (.iload_n 1, 1) := by decide +kernel
theorem dX11_watch_22 : decode cX11_watch 22 = .ok (.invokevirtual 385, 3) := by decide +kernel
theorem dX11_watch_25 : decode cX11_watch 25 = .ok (.goto 4, 3) := by decide +kernel
theorem dX11_watch_28 : decode cX11_watch 28 = .ok (.iconst (-1), 1) := by decide +kernel
theorem dX11_watch_29 : decode cX11_watch 29 = .ok (.ireturn, 1) := by decide +kernel
theorem dX11_nearest_0 : decode cX11_nearest 0 = .ok (.aload_n 0, 1) := by decide +kernel
theorem dX11_nearest_1 : decode cX11_nearest 1 = .ok (.iload_n 1, 1) := by decide +kernel
theorem dX11_nearest_2 : decode cX11_nearest 2 = .ok (.invokevirtual 191, 3) := by decide +kernel
theorem dX11_nearest_5 : decode cX11_nearest 5 = .ok (.ifCond .ne 5, 3) := by decide +kernel
theorem dX11_nearest_8 : decode cX11_nearest 8 = .ok (.iconst (-1), 1) := by decide +kernel
theorem dX11_nearest_9 : decode cX11_nearest 9 = .ok (.ireturn, 1) := by decide +kernel
theorem dX11_nearest_10 : decode cX11_nearest 10 = .ok (.iconst 0, 1) := by decide +kernel
theorem dX11_nearest_11 : decode cX11_nearest 11 = .ok (.istore_n 2, 1) := by decide +kernel
theorem dX11_nearest_12 : decode cX11_nearest 12 = .ok (.ldc_w 406, 3) := by decide +kernel
theorem dX11_nearest_15 : decode cX11_nearest 15 = .ok (.istore_n 3, 1) := by decide +kernel
theorem dX11_nearest_16 : decode cX11_nearest 16 = .ok (.iconst 0, 1) := by decide +kernel
theorem dX11_nearest_17 : decode cX11_nearest 17 = .ok (.istore 4, 2) := by decide +kernel
theorem dX11_nearest_19 : decode cX11_nearest 19 = .ok (.iload 4, 2) := by decide +kernel
theorem dX11_nearest_21 : decode cX11_nearest 21 = .ok (.aload_n 0, 1) := by decide +kernel
theorem dX11_nearest_22 : decode cX11_nearest 22 = .ok (.getfield 19, 3) := by decide +kernel
theorem dX11_nearest_25 : decode cX11_nearest 25 = .ok (.getfield 275, 3) := by decide +kernel
theorem dX11_nearest_28 : decode cX11_nearest 28 = .ok (.if_icmp .ge 49, 3) := by decide +kernel
theorem dX11_nearest_31 : decode cX11_nearest 31 = .ok (.aload_n 0, 1) := by decide +kernel
theorem dX11_nearest_32 : decode cX11_nearest 32 = .ok (.getfield 52, 3) := by decide +kernel
theorem dX11_nearest_35 : decode cX11_nearest 35 = .ok (.iload_n 1, 1) := by decide +kernel
theorem dX11_nearest_36 : decode cX11_nearest 36 = .ok (.aload_n 0, 1) := by decide +kernel
theorem dX11_nearest_37 : decode cX11_nearest 37 = .ok (.getfield 19, 3) := by decide +kernel
theorem dX11_nearest_40 : decode cX11_nearest 40 = .ok (.iload 4, 2) := by decide +kernel
theorem dX11_nearest_42 : decode cX11_nearest 42 = .ok (.invokevirtual 169, 3) := by decide +kernel
theorem dX11_nearest_45 : decode cX11_nearest 45 = .ok (.aload_n 0, 1) := by decide +kernel
theorem dX11_nearest_46 : decode cX11_nearest 46 = .ok (.getfield 19, 3) := by decide +kernel
theorem dX11_nearest_49 : decode cX11_nearest 49 = .ok (.iload 4, 2) := by decide +kernel
theorem dX11_nearest_51 : decode cX11_nearest 51 = .ok (.invokevirtual 172, 3) := by decide +kernel
theorem dX11_nearest_54 : decode cX11_nearest 54 = .ok (.invokevirtual 240, 3) := by decide +kernel
theorem dX11_nearest_57 : decode cX11_nearest 57 = .ok (.istore 5, 2) := by decide +kernel
theorem dX11_nearest_59 : decode cX11_nearest 59 = .ok (.iload 5, 2) := by decide +kernel
theorem dX11_nearest_61 : decode cX11_nearest 61 = .ok (.iload_n 3, 1) := by decide +kernel
theorem dX11_nearest_62 : decode cX11_nearest 62 = .ok (.if_icmp .ge 9, 3) := by decide +kernel
theorem dX11_nearest_65 : decode cX11_nearest 65 = .ok (.iload 5, 2) := by decide +kernel
theorem dX11_nearest_67 : decode cX11_nearest 67 = .ok (.istore_n 3, 1) := by decide +kernel
theorem dX11_nearest_68 : decode cX11_nearest 68 = .ok (.iload 4, 2) := by decide +kernel
theorem dX11_nearest_70 : decode cX11_nearest 70 = .ok (.istore_n 2, 1) := by decide +kernel
theorem dX11_nearest_71 : decode cX11_nearest 71 = .ok (.iinc 4 1, 3) := by decide +kernel
theorem dX11_nearest_74 : decode cX11_nearest 74 = .ok (.goto (-55), 3) := by decide +kernel
theorem dX11_nearest_77 : decode cX11_nearest 77 = .ok (.iload_n 2, 1) := by decide +kernel
theorem dX11_nearest_78 : decode cX11_nearest 78 = .ok (.ireturn, 1) := by decide +kernel
theorem dX11_middle_0 : decode cX11_middle 0 = .ok (.aload_n 0, 1) := by decide +kernel
theorem dX11_middle_1 : decode cX11_middle 1 = .ok (.invokevirtual 140, 3) := by decide +kernel
theorem dX11_middle_4 : decode cX11_middle 4 = .ok (.ifCond .eq 13, 3) := by decide +kernel
theorem dX11_middle_7 : decode cX11_middle 7 = .ok (.aload_n 0, 1) := by decide +kernel
theorem dX11_middle_8 : decode cX11_middle 8 = .ok (.getfield 87, 3) := by decide +kernel
theorem dX11_middle_11 : decode cX11_middle 11 = .ok (.invokevirtual 419, 3) := by decide +kernel
theorem dX11_middle_14 : decode cX11_middle 14 = .ok (.goto 4, 3) := by decide +kernel
theorem dX11_middle_17 : decode cX11_middle 17 = .ok (.iconst (-1), 1) := by decide +kernel
theorem dX11_middle_18 : decode cX11_middle 18 = .ok (.ireturn, 1) := by decide +kernel
theorem dX11_image_0 : decode cX11_image 0 = .ok (.aload_n 0, 1) := by decide +kernel
theorem dX11_image_1 : decode cX11_image 1 = .ok (.invokevirtual 140, 3) := by decide +kernel
theorem dX11_image_4 : decode cX11_image 4 = .ok (.ifCond .ne 5, 3) := by decide +kernel
theorem dX11_image_7 : decode cX11_image 7 = .ok (.iconst (-1), 1) := by decide +kernel
theorem dX11_image_8 : decode cX11_image 8 = .ok (.ireturn, 1) := by decide +kernel
theorem dX11_image_9 : decode cX11_image 9 = .ok (.aload_n 0, 1) := by decide +kernel
theorem dX11_image_10 : decode cX11_image 10 = .ok (.getfield 62, 3) := by decide +kernel
theorem dX11_image_13 : decode cX11_image 13 = .ok (.aload_n 0, 1) := by decide +kernel
theorem dX11_image_14 : decode cX11_image 14 = .ok (.getfield 52, 3) := by decide +kernel
theorem dX11_image_17 : decode cX11_image 17 = .ok (.invokevirtual 422, 3) := by decide +kernel
theorem dX11_image_20 : decode cX11_image 20 = .ok (.aload_n 0, 1) := by decide +kernel
theorem dX11_image_21 : decode cX11_image 21 = .ok (.getfield 52, 3) := by decide +kernel
theorem dX11_image_24 : decode cX11_image 24 = .ok (.getfield 156, 3) := by decide +kernel
theorem dX11_image_27 : decode cX11_image 27 = .ok (.ireturn, 1) := by decide +kernel
theorem dX11_back_0 : decode cX11_back 0 = .ok (.aload_n 0, 1) := by decide +kernel
theorem dX11_back_1 : decode cX11_back 1 = .ok (.getfield 62, 3) := by decide +kernel
theorem dX11_back_4 : decode cX11_back 4 = .ok (.aload_n 0, 1) := by decide +kernel
theorem dX11_back_5 : decode cX11_back 5 = .ok (.getfield 52, 3) := by decide +kernel
theorem dX11_back_8 : decode cX11_back 8 = .ok (.invokevirtual 425, 3) := by decide +kernel
theorem dX11_back_11 : decode cX11_back 11 = .ok (.ifCond .eq 13, 3) := by decide +kernel
theorem dX11_back_14 : decode cX11_back 14 = .ok (.aload_n 0, 1) := by decide +kernel
theorem dX11_back_15 : decode cX11_back 15 = .ok (.getfield 52, 3) := by decide +kernel
theorem dX11_back_18 : decode cX11_back 18 = .ok (.getfield 156, 3) := by decide +kernel
theorem dX11_back_21 : decode cX11_back 21 = .ok (.goto 4, 3) := by decide +kernel
theorem dX11_back_24 : decode cX11_back 24 = .ok (.iconst (-1), 1) := by decide +kernel
theorem dX11_back_25 : decode cX11_back 25 = .ok (.ireturn, 1) := by decide +kernel
theorem dX11_hasBorough_0 : decode cX11_hasBorough 0 = .ok (.aload_n 0, 1) := by decide +kernel
theorem dX11_hasBorough_1 : decode cX11_hasBorough 1 = .ok (.getfield 19, 3) := by decide +kernel
theorem dX11_hasBorough_4 : decode cX11_hasBorough 4 = .ok (.getfield 275, 3) := by decide +kernel
theorem dX11_hasBorough_7 : decode cX11_hasBorough 7 = .ok (.ifCond .le 7, 3) := by decide +kernel
theorem dX11_hasBorough_10 : decode cX11_hasBorough 10 = .ok (.iconst 1, 1) := by decide +kernel
theorem dX11_hasBorough_11 : decode cX11_hasBorough 11 = .ok (.goto 4, 3) := by decide +kernel
theorem dX11_hasBorough_14 : decode cX11_hasBorough 14 = .ok (.iconst 0, 1) := by decide +kernel
theorem dX11_hasBorough_15 : decode cX11_hasBorough 15 = .ok (.ireturn, 1) := by decide +kernel
theorem dX11_isBuoy_0 : decode cX11_isBuoy 0 = .ok (.iload_n 1, 1) := by decide +kernel
theorem dX11_isBuoy_1 : decode cX11_isBuoy 1 = .ok (.ifCond .lt 18, 3) := by decide +kernel
theorem dX11_isBuoy_4 : decode cX11_isBuoy 4 = .ok (.iload_n 1, 1) := by decide +kernel
theorem dX11_isBuoy_5 : decode cX11_isBuoy 5 = .ok (.aload_n 0, 1) := by decide +kernel
theorem dX11_isBuoy_6 : decode cX11_isBuoy 6 = .ok (.getfield 19, 3) := by decide +kernel
theorem dX11_isBuoy_9 : decode cX11_isBuoy 9 = .ok (.getfield 275, 3) := by decide +kernel
theorem dX11_isBuoy_12 : decode cX11_isBuoy 12 = .ok (.if_icmp .ge 7, 3) := by decide +kernel
theorem dX11_isBuoy_15 : decode cX11_isBuoy 15 = .ok (.iconst 1, 1) := by decide +kernel
theorem dX11_isBuoy_16 : decode cX11_isBuoy 16 = .ok (.goto 4, 3) := by decide +kernel
theorem dX11_isBuoy_19 : decode cX11_isBuoy 19 = .ok (.iconst 0, 1) := by decide +kernel
theorem dX11_isBuoy_20 : decode cX11_isBuoy 20 = .ok (.ireturn, 1) := by decide +kernel
theorem dX11_isBoat_0 : decode cX11_isBoat 0 = .ok (.iload_n 1, 1) := by decide +kernel
theorem dX11_isBoat_1 : decode cX11_isBoat 1 = .ok (.ifCond .lt 18, 3) := by decide +kernel
theorem dX11_isBoat_4 : decode cX11_isBoat 4 = .ok (.iload_n 1, 1) := by decide +kernel
theorem dX11_isBoat_5 : decode cX11_isBoat 5 = .ok (.aload_n 0, 1) := by decide +kernel
theorem dX11_isBoat_6 : decode cX11_isBoat 6 = .ok (.getfield 19, 3) := by decide +kernel
theorem dX11_isBoat_9 : decode cX11_isBoat 9 = .ok (.getfield 272, 3) := by decide +kernel
theorem dX11_isBoat_12 : decode cX11_isBoat 12 = .ok (.if_icmp .ge 7, 3) := by decide +kernel
theorem dX11_isBoat_15 : decode cX11_isBoat 15 = .ok (.iconst 1, 1) := by decide +kernel
theorem dX11_isBoat_16 : decode cX11_isBoat 16 = .ok (.goto 4, 3) := by decide +kernel
theorem dX11_isBoat_19 : decode cX11_isBoat 19 = .ok (.iconst 0, 1) := by decide +kernel
theorem dX11_isBoat_20 : decode cX11_isBoat 20 = .ok (.ireturn, 1) := by decide +kernel
theorem dX11_isPlan_0 : decode cX11_isPlan 0 = .ok (.iload_n 1, 1) := by decide +kernel
theorem dX11_isPlan_1 : decode cX11_isPlan 1 = .ok (.ifCond .lt 15, 3) := by decide +kernel
theorem dX11_isPlan_4 : decode cX11_isPlan 4 = .ok (.iload_n 1, 1) := by decide +kernel
theorem dX11_isPlan_5 : decode cX11_isPlan 5 = .ok (.aload_n 0, 1) := by decide +kernel
theorem dX11_isPlan_6 : decode cX11_isPlan 6 = .ok (.getfield 126, 3) := by decide +kernel
theorem dX11_isPlan_9 : decode cX11_isPlan 9 = .ok (.if_icmp .ge 7, 3) := by decide +kernel
theorem dX11_isPlan_12 : decode cX11_isPlan 12 = .ok (.iconst 1, 1) := by decide +kernel
theorem dX11_isPlan_13 : decode cX11_isPlan 13 = .ok (.goto 4, 3) := by decide +kernel
theorem dX11_isPlan_16 : decode cX11_isPlan 16 = .ok (.iconst 0, 1) := by decide +kernel
theorem dX11_isPlan_17 : decode cX11_isPlan 17 = .ok (.ireturn, 1) := by decide +kernel
theorem dX11_isWithin_0 : decode cX11_isWithin 0 = .ok (.iload_n 0, 1) := by decide +kernel
theorem dX11_isWithin_1 : decode cX11_isWithin 1 = .ok (.iload_n 1, 1) := by decide +kernel
theorem dX11_isWithin_2 : decode cX11_isWithin 2 = .ok (.if_icmp .lt 12, 3) := by decide +kernel
theorem dX11_isWithin_5 : decode cX11_isWithin 5 = .ok (.iload_n 0, 1) := by decide +kernel
theorem dX11_isWithin_6 : decode cX11_isWithin 6 = .ok (.iload_n 2, 1) := by decide +kernel
theorem dX11_isWithin_7 : decode cX11_isWithin 7 = .ok (.if_icmp .gt 7, 3) := by decide +kernel
theorem dX11_isWithin_10 : decode cX11_isWithin 10 = .ok (.iconst 1, 1) := by decide +kernel
theorem dX11_isWithin_11 : decode cX11_isWithin 11 = .ok (.goto 4, 3) := by decide +kernel
theorem dX11_isWithin_14 : decode cX11_isWithin 14 = .ok (.iconst 0, 1) := by decide +kernel
theorem dX11_isWithin_15 : decode cX11_isWithin 15 = .ok (.ireturn, 1) := by decide +kernel
theorem dX11_hoursFor_0 : decode cX11_hoursFor 0 = .ok (.iload_n 1, 1) := by decide +kernel
theorem dX11_hoursFor_1 : decode cX11_hoursFor 1 = .ok (.ifCond .le 13, 3) := by decide +kernel
theorem dX11_hoursFor_4 : decode cX11_hoursFor 4 = .ok (.iload_n 0, 1) := by decide +kernel
theorem dX11_hoursFor_5 : decode cX11_hoursFor 5 = .ok (.iload_n 1, 1) := by decide +kernel
theorem dX11_hoursFor_6 : decode cX11_hoursFor 6 = .ok (.iadd, 1) := by decide +kernel
theorem dX11_hoursFor_7 : decode cX11_hoursFor 7 = .ok (.iconst 1, 1) := by decide +kernel
theorem dX11_hoursFor_8 : decode cX11_hoursFor 8 = .ok (.isub, 1) := by decide +kernel
theorem dX11_hoursFor_9 : decode cX11_hoursFor 9 = .ok (.iload_n 1, 1) := by decide +kernel
theorem dX11_hoursFor_10 : decode cX11_hoursFor 10 = .ok (.idiv, 1) := by decide +kernel
theorem dX11_hoursFor_11 : decode cX11_hoursFor 11 = .ok (.goto 4, 3) := by decide +kernel
theorem dX11_hoursFor_14 : decode cX11_hoursFor 14 = .ok (.iconst 0, 1) := by decide +kernel
theorem dX11_hoursFor_15 : decode cX11_hoursFor 15 = .ok (.ireturn, 1) := by decide +kernel
theorem dJ6_bitCount_0f7a4_0 : decode cJ6_bitCount_0f7a4 0 = .ok (.iload_n 0, 1) := by decide +kernel
theorem dJ6_bitCount_0f7a4_1 : decode cJ6_bitCount_0f7a4 1 = .ok (.iload_n 0, 1) := by decide +kernel
theorem dJ6_bitCount_0f7a4_2 : decode cJ6_bitCount_0f7a4 2 = .ok (.iconst 1, 1) := by decide +kernel
theorem dJ6_bitCount_0f7a4_3 : decode cJ6_bitCount_0f7a4 3 = .ok (.iushr, 1) := by decide +kernel
theorem dJ6_bitCount_0f7a4_4 : decode cJ6_bitCount_0f7a4 4 = .ok (.ldc_w 265, 3) := by decide +kernel
theorem dJ6_bitCount_0f7a4_7 : decode cJ6_bitCount_0f7a4 7 = .ok (.iand, 1) := by decide +kernel
theorem dJ6_bitCount_0f7a4_8 : decode cJ6_bitCount_0f7a4 8 = .ok (.isub, 1) := by decide +kernel
theorem dJ6_bitCount_0f7a4_9 : decode cJ6_bitCount_0f7a4 9 = .ok (.istore_n 0, 1) := by decide +kernel
theorem dJ6_bitCount_0f7a4_10 : decode cJ6_bitCount_0f7a4 10 = .ok (.iload_n 0, 1) := by decide +kernel
theorem dJ6_bitCount_0f7a4_11 : decode cJ6_bitCount_0f7a4 11 = .ok (.ldc_w 266, 3) := by decide +kernel
theorem dJ6_bitCount_0f7a4_14 : decode cJ6_bitCount_0f7a4 14 = .ok (.iand, 1) := by decide +kernel
theorem dJ6_bitCount_0f7a4_15 : decode cJ6_bitCount_0f7a4 15 = .ok (.iload_n 0, 1) := by decide +kernel
theorem dJ6_bitCount_0f7a4_16 : decode cJ6_bitCount_0f7a4 16 = .ok (.iconst 2, 1) := by decide +kernel
theorem dJ6_bitCount_0f7a4_17 : decode cJ6_bitCount_0f7a4 17 = .ok (.iushr, 1) := by decide +kernel
theorem dJ6_bitCount_0f7a4_18 : decode cJ6_bitCount_0f7a4 18 = .ok (.ldc_w 266, 3) := by decide +kernel
theorem dJ6_bitCount_0f7a4_21 : decode cJ6_bitCount_0f7a4 21 = .ok (.iand, 1) := by decide +kernel
theorem dJ6_bitCount_0f7a4_22 : decode cJ6_bitCount_0f7a4 22 = .ok (.iadd, 1) := by decide +kernel
theorem dJ6_bitCount_0f7a4_23 : decode cJ6_bitCount_0f7a4 23 = .ok (.istore_n 0, 1) := by decide +kernel
theorem dJ6_bitCount_0f7a4_24 : decode cJ6_bitCount_0f7a4 24 = .ok (.iload_n 0, 1) := by decide +kernel
theorem dJ6_bitCount_0f7a4_25 : decode cJ6_bitCount_0f7a4 25 = .ok (.iload_n 0, 1) := by decide +kernel
theorem dJ6_bitCount_0f7a4_26 : decode cJ6_bitCount_0f7a4 26 = .ok (.iconst 4, 1) := by decide +kernel
theorem dJ6_bitCount_0f7a4_27 : decode cJ6_bitCount_0f7a4 27 = .ok (.iushr, 1) := by decide +kernel
theorem dJ6_bitCount_0f7a4_28 : decode cJ6_bitCount_0f7a4 28 = .ok (.iadd, 1) := by decide +kernel
theorem dJ6_bitCount_0f7a4_29 : decode cJ6_bitCount_0f7a4 29 = .ok (.ldc_w 267, 3) := by decide +kernel
theorem dJ6_bitCount_0f7a4_32 : decode cJ6_bitCount_0f7a4 32 = .ok (.iand, 1) := by decide +kernel
theorem dJ6_bitCount_0f7a4_33 : decode cJ6_bitCount_0f7a4 33 = .ok (.istore_n 0, 1) := by decide +kernel
theorem dJ6_bitCount_0f7a4_34 : decode cJ6_bitCount_0f7a4 34 = .ok (.iload_n 0, 1) := by decide +kernel
theorem dJ6_bitCount_0f7a4_35 : decode cJ6_bitCount_0f7a4 35 = .ok (.iload_n 0, 1) := by decide +kernel
theorem dJ6_bitCount_0f7a4_36 : decode cJ6_bitCount_0f7a4 36 = .ok (.bipush 8, 2) := by decide +kernel
theorem dJ6_bitCount_0f7a4_38 : decode cJ6_bitCount_0f7a4 38 = .ok (.iushr, 1) := by decide +kernel
theorem dJ6_bitCount_0f7a4_39 : decode cJ6_bitCount_0f7a4 39 = .ok (.iadd, 1) := by decide +kernel
theorem dJ6_bitCount_0f7a4_40 : decode cJ6_bitCount_0f7a4 40 = .ok (.istore_n 0, 1) := by decide +kernel
theorem dJ6_bitCount_0f7a4_41 : decode cJ6_bitCount_0f7a4 41 = .ok (.iload_n 0, 1) := by decide +kernel
theorem dJ6_bitCount_0f7a4_42 : decode cJ6_bitCount_0f7a4 42 = .ok (.iload_n 0, 1) := by decide +kernel
theorem dJ6_bitCount_0f7a4_43 : decode cJ6_bitCount_0f7a4 43 = .ok (.bipush 16, 2) := by decide +kernel
theorem dJ6_bitCount_0f7a4_45 : decode cJ6_bitCount_0f7a4 45 = .ok (.iushr, 1) := by decide +kernel
theorem dJ6_bitCount_0f7a4_46 : decode cJ6_bitCount_0f7a4 46 = .ok (.iadd, 1) := by decide +kernel
theorem dJ6_bitCount_0f7a4_47 : decode cJ6_bitCount_0f7a4 47 = .ok (.istore_n 0, 1) := by decide +kernel
theorem dJ6_bitCount_0f7a4_48 : decode cJ6_bitCount_0f7a4 48 = .ok (.iload_n 0, 1) := by decide +kernel
theorem dJ6_bitCount_0f7a4_49 : decode cJ6_bitCount_0f7a4 49 = .ok (.bipush 63, 2) := by decide +kernel
theorem dJ6_bitCount_0f7a4_51 : decode cJ6_bitCount_0f7a4 51 = .ok (.iand, 1) := by decide +kernel
theorem dJ6_bitCount_0f7a4_52 : decode cJ6_bitCount_0f7a4 52 = .ok (.ireturn, 1) := by decide +kernel
abbrev vwCl : List vw_C := [(RX0, TX0, 4), (RX1, TX1, 4), (RX2, TX2, 6), (RX3, TX3, 7), (RX4, TX4, 3), (RX5, TX5, 4), (RX6, TX6, 2), (RX7, TX7, 13), (RX8, TX8, 12), (RX9, TX9, 4), (RX10, TX10, 6), (RX11, TX11, 16), (RX12, TX12, 54)]
