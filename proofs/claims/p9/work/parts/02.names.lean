theorem goodIn_r {big : List Cond} (ws : List Cond) (ps : List Nat) (hp : ws = ps.filterMap (fun i => big[i]?)) (h : ws.all goodWord = true) : GoodIn big ws := by
  intro w hw
  have h1 := List.all_eq_true.mp h w hw
  rw [hp] at hw
  obtain ⟨i, -, hi⟩ := List.mem_filterMap.mp hw
  have hm : w ∈ big := by first | exact List.mem_of_getElem? hi | exact List.getElem?_mem hi
  exact ⟨hm, good_of_word h1⟩
theorem goodIn_app {big a b : List Cond} (ha : GoodIn big a) (hb : GoodIn big b) : GoodIn big (a ++ b) := fun w h => (List.mem_append.mp h).elim (ha w) (hb w)
theorem goodIn_ca {big a b : List Cond} {c : Cond} (ha : GoodIn big (c :: a)) (hb : GoodIn big b) : GoodIn big (c :: (a ++ b)) := fun w h => (List.mem_cons.mp h).elim (fun e => ha w (List.mem_cons.mpr (Or.inl e))) (fun h => (List.mem_append.mp h).elim (fun h => ha w (List.mem_cons.mpr (Or.inr h))) (hb w))
theorem goodIn_sub {big ws : List Cond} (hm : ∀ w ∈ ws, w ∈ big) (h : ws.all goodWord = true) : GoodIn big ws := fun w hw => ⟨hm w hw, good_of_word (List.all_eq_true.mp h w hw)⟩
def RX0 : String := "BuoyVote$Borough"
def TX0 : u_T := fun k => match k with
  | 0 => ("BuoyVote$Borough", "values", "[I", true)
  | 1 => ("BuoyVote$Borough", "buoys", "I", false)
  | 2 => ("BuoyVote$Borough", "boats", "I", false)
  | _ => ("BuoyVote$Borough", "ruled", "Z", false)
def tyX0 : Nat → FieldType := fun k => match k with
  | 0 => .array .int
  | 1 => .int
  | 2 => .int
  | _ => .boolean
abbrev wsX00 : List Cond := u_ws RX0 TX0 4
theorem nmX0 : ∀ a, a < 4 → ∀ b, b < 4 → a ≠ b → (TX0 a).2.1 ≠ (TX0 b).2.1 := by decide +kernel
theorem tyX0_ok : ∀ k, k < 4 → parseFieldDescriptor (TX0 k).2.2.1 = some (tyX0 k) := by decide +kernel
abbrev cX0_init : ByteArray := prog_2_method_1_code
def yX0_init : MethodName := ⟨RX0, "<init>", "()V"⟩
abbrev cX0_copyFrom : ByteArray := prog_2_method_2_code
def yX0_copyFrom : MethodName := ⟨RX0, "copyFrom", "(LBuoyVote$Borough;)V"⟩
abbrev cX0_windAtFirst : ByteArray := prog_2_method_3_code
def yX0_windAtFirst : MethodName := ⟨RX0, "windAtFirst", "()I"⟩
abbrev cX0_wayAtFirst : ByteArray := prog_2_method_4_code
def yX0_wayAtFirst : MethodName := ⟨RX0, "wayAtFirst", "()I"⟩
abbrev cX0_tideHours : ByteArray := prog_2_method_5_code
def yX0_tideHours : MethodName := ⟨RX0, "tideHours", "()I"⟩
abbrev cX0_countHours : ByteArray := prog_2_method_6_code
def yX0_countHours : MethodName := ⟨RX0, "countHours", "()I"⟩
abbrev cX0_buoyX : ByteArray := prog_2_method_7_code
def yX0_buoyX : MethodName := ⟨RX0, "buoyX", "(I)I"⟩
abbrev cX0_buoyY : ByteArray := prog_2_method_8_code
def yX0_buoyY : MethodName := ⟨RX0, "buoyY", "(I)I"⟩
abbrev cX0_chain : ByteArray := prog_2_method_9_code
def yX0_chain : MethodName := ⟨RX0, "chain", "(I)I"⟩
abbrev cX0_likingAtFirst : ByteArray := prog_2_method_10_code
def yX0_likingAtFirst : MethodName := ⟨RX0, "likingAtFirst", "(II)I"⟩
abbrev cX0_oldAtFirst : ByteArray := prog_2_method_11_code
def yX0_oldAtFirst : MethodName := ⟨RX0, "oldAtFirst", "(I)I"⟩
abbrev cX0_barnaclesAtFirst : ByteArray := prog_2_method_12_code
def yX0_barnaclesAtFirst : MethodName := ⟨RX0, "barnaclesAtFirst", "(I)I"⟩
abbrev cX0_boatX : ByteArray := prog_2_method_13_code
def yX0_boatX : MethodName := ⟨RX0, "boatX", "(I)I"⟩
abbrev cX0_boatY : ByteArray := prog_2_method_14_code
def yX0_boatY : MethodName := ⟨RX0, "boatY", "(I)I"⟩
abbrev cX0_speed : ByteArray := prog_2_method_15_code
def yX0_speed : MethodName := ⟨RX0, "speed", "(I)I"⟩
abbrev cX0_voice : ByteArray := prog_2_method_16_code
def yX0_voice : MethodName := ⟨RX0, "voice", "(I)I"⟩
abbrev cX0_faultOf : ByteArray := prog_2_method_17_code
def yX0_faultOf : MethodName := ⟨RX0, "faultOf", "(LBuoyVote$Tape;)I"⟩
abbrev cX0_readClause : ByteArray := prog_2_method_18_code
def yX0_readClause : MethodName := ⟨RX0, "readClause", "(LBuoyVote$Tape;)V"⟩
abbrev cX0_hasRoomFor : ByteArray := prog_2_method_19_code
def yX0_hasRoomFor : MethodName := ⟨RX0, "hasRoomFor", "(I)Z"⟩
abbrev cX0_beginClause : ByteArray := prog_2_method_20_code
def yX0_beginClause : MethodName := ⟨RX0, "beginClause", "(I)I"⟩
abbrev cX0_setUsual : ByteArray := prog_2_method_21_code
def yX0_setUsual : MethodName := ⟨RX0, "setUsual", "(II)V"⟩
abbrev cX0_isWhole : ByteArray := prog_2_method_22_code
def yX0_isWhole : MethodName := ⟨RX0, "isWhole", "()Z"⟩
abbrev cX0_lettersOf : ByteArray := prog_2_method_23_code
def yX0_lettersOf : MethodName := ⟨RX0, "lettersOf", "(I)Ljava/lang/String;"⟩
abbrev cX0_placeIn : ByteArray := prog_2_method_24_code
def yX0_placeIn : MethodName := ⟨RX0, "placeIn", "(Ljava/lang/String;I)I"⟩
def RX1 : String := "BuoyVote$Charts"
def TX1 : u_T := fun k => match k with
  | 0 => ("BuoyVote$Charts", "told", "LBuoyVote$Borough;", true)
  | 1 => ("BuoyVote$Charts", "firstLegs", "[I", true)
  | 2 => ("BuoyVote$Charts", "legs", "[I", true)
  | _ => ("BuoyVote$Charts", "through", "[I", true)
def tyX1 : Nat → FieldType := fun k => match k with
  | 0 => .object "BuoyVote$Borough"
  | 1 => .array .int
  | 2 => .array .int
  | _ => .array .int
abbrev wsX10 : List Cond := u_ws RX1 TX1 4
theorem nmX1 : ∀ a, a < 4 → ∀ b, b < 4 → a ≠ b → (TX1 a).2.1 ≠ (TX1 b).2.1 := by decide +kernel
theorem tyX1_ok : ∀ k, k < 4 → parseFieldDescriptor (TX1 k).2.2.1 = some (tyX1 k) := by decide +kernel
abbrev cX1_init : ByteArray := prog_3_method_1_code
def yX1_init : MethodName := ⟨RX1, "<init>", "(LBuoyVote$Borough;)V"⟩
abbrev cX1_plot : ByteArray := prog_3_method_2_code
def yX1_plot : MethodName := ⟨RX1, "plot", "(LBuoyVote$Sea;II)V"⟩
abbrev cX1_hoursOf : ByteArray := prog_3_method_3_code
def yX1_hoursOf : MethodName := ⟨RX1, "hoursOf", "(I)I"⟩
abbrev cX1_orderOf : ByteArray := prog_3_method_4_code
def yX1_orderOf : MethodName := ⟨RX1, "orderOf", "(I)I"⟩
abbrev cX1_leastThrough : ByteArray := prog_3_method_5_code
def yX1_leastThrough : MethodName := ⟨RX1, "leastThrough", "(I[II)I"⟩
abbrev cX1_firstOfBest : ByteArray := prog_3_method_6_code
def yX1_firstOfBest : MethodName := ⟨RX1, "firstOfBest", "(I[II)I"⟩
abbrev cX1_between : ByteArray := prog_3_method_7_code
def yX1_between : MethodName := ⟨RX1, "between", "(III)I"⟩
abbrev cX1_fewestWatchers : ByteArray := prog_3_method_8_code
def yX1_fewestWatchers : MethodName := ⟨RX1, "fewestWatchers", "(I)I"⟩
abbrev cX1_isWatched : ByteArray := prog_3_method_9_code
def yX1_isWatched : MethodName := ⟨RX1, "isWatched", "(II)Z"⟩
abbrev cX1_middlePlace : ByteArray := prog_3_method_10_code
def yX1_middlePlace : MethodName := ⟨RX1, "middlePlace", "()I"⟩
def RX2 : String := "BuoyVote$Duel"
def TX2 : u_T := fun k => match k with
  | 0 => ("BuoyVote$Duel", "told", "LBuoyVote$Borough;", true)
  | 1 => ("BuoyVote$Duel", "waters", "LBuoyVote$Waters;", true)
  | 2 => ("BuoyVote$Duel", "oneDraws", "[I", true)
  | 3 => ("BuoyVote$Duel", "otherDraws", "[I", true)
  | 4 => ("BuoyVote$Duel", "ones", "[I", true)
  | _ => ("BuoyVote$Duel", "others", "[I", true)
def tyX2 : Nat → FieldType := fun k => match k with
  | 0 => .object "BuoyVote$Borough"
  | 1 => .object "BuoyVote$Waters"
  | 2 => .array .int
  | 3 => .array .int
  | 4 => .array .int
  | _ => .array .int
abbrev wsX20 : List Cond := u_ws RX2 TX2 6
theorem nmX2 : ∀ a, a < 6 → ∀ b, b < 6 → a ≠ b → (TX2 a).2.1 ≠ (TX2 b).2.1 := by decide +kernel
theorem tyX2_ok : ∀ k, k < 6 → parseFieldDescriptor (TX2 k).2.2.1 = some (tyX2 k) := by decide +kernel
abbrev cX2_init : ByteArray := prog_4_method_1_code
def yX2_init : MethodName := ⟨RX2, "<init>", "(LBuoyVote$Borough;LBuoyVote$Waters;)V"⟩
abbrev cX2_lay : ByteArray := prog_4_method_2_code
def yX2_lay : MethodName := ⟨RX2, "lay", "(LBuoyVote$Sea;II)V"⟩
abbrev cX2_setDraws : ByteArray := prog_4_method_3_code
def yX2_setDraws : MethodName := ⟨RX2, "setDraws", "(LBuoyVote$Sea;I[I)V"⟩
abbrev cX2_isAtRest : ByteArray := prog_4_method_4_code
def yX2_isAtRest : MethodName := ⟨RX2, "isAtRest", "(II)Z"⟩
abbrev cX2_worstAt : ByteArray := prog_4_method_5_code
def yX2_worstAt : MethodName := ⟨RX2, "worstAt", "(I)I"⟩
def RX3 : String := "BuoyVote$History"
def TX3 : u_T := fun k => match k with
  | 0 => ("BuoyVote$History", "before", "[LBuoyVote$Sea;", true)
  | 1 => ("BuoyVote$History", "next", "I", false)
  | 2 => ("BuoyVote$History", "acts", "I", false)
  | 3 => ("BuoyVote$History", "log", "[I", true)
  | 4 => ("BuoyVote$History", "image", "LBuoyVote$Sea;", true)
  | 5 => ("BuoyVote$History", "imageLog", "[I", true)
  | _ => ("BuoyVote$History", "imaged", "Z", false)
def tyX3 : Nat → FieldType := fun k => match k with
  | 0 => .array (.object "BuoyVote$Sea")
  | 1 => .int
  | 2 => .int
  | 3 => .array .int
  | 4 => .object "BuoyVote$Sea"
  | 5 => .array .int
  | _ => .boolean
abbrev wsX30 : List Cond := u_ws RX3 TX3 7
theorem nmX3 : ∀ a, a < 7 → ∀ b, b < 7 → a ≠ b → (TX3 a).2.1 ≠ (TX3 b).2.1 := by decide +kernel
theorem tyX3_ok : ∀ k, k < 7 → parseFieldDescriptor (TX3 k).2.2.1 = some (tyX3 k) := by decide +kernel
abbrev cX3_init : ByteArray := prog_5_method_1_code
def yX3_init : MethodName := ⟨RX3, "<init>", "()V"⟩
abbrev cX3_forget : ByteArray := prog_5_method_2_code
def yX3_forget : MethodName := ⟨RX3, "forget", "()V"⟩
abbrev cX3_remember : ByteArray := prog_5_method_3_code
def yX3_remember : MethodName := ⟨RX3, "remember", "(LBuoyVote$Sea;)V"⟩
abbrev cX3_takeBack : ByteArray := prog_5_method_4_code
def yX3_takeBack : MethodName := ⟨RX3, "takeBack", "(LBuoyVote$Sea;)Z"⟩
abbrev cX3_note : ByteArray := prog_5_method_5_code
def yX3_note : MethodName := ⟨RX3, "note", "(LBuoyVote$Sea;[I)V"⟩
abbrev cX3_logged : ByteArray := prog_5_method_6_code
def yX3_logged : MethodName := ⟨RX3, "logged", "(II)I"⟩
abbrev cX3_keepImage : ByteArray := prog_5_method_7_code
def yX3_keepImage : MethodName := ⟨RX3, "keepImage", "(LBuoyVote$Sea;)V"⟩
abbrev cX3_showImage : ByteArray := prog_5_method_8_code
def yX3_showImage : MethodName := ⟨RX3, "showImage", "(LBuoyVote$Sea;)Z"⟩
def RX4 : String := "BuoyVote$Law"
def TX4 : u_T := fun k => match k with
  | 0 => ("BuoyVote$Law", "code", "[I", true)
  | 1 => ("BuoyVote$Law", "length", "I", false)
  | _ => ("BuoyVote$Law", "stack", "[I", true)
def tyX4 : Nat → FieldType := fun k => match k with
  | 0 => .array .int
  | 1 => .int
  | _ => .array .int
abbrev wsX40 : List Cond := u_ws RX4 TX4 3
theorem nmX4 : ∀ a, a < 3 → ∀ b, b < 3 → a ≠ b → (TX4 a).2.1 ≠ (TX4 b).2.1 := by decide +kernel
theorem tyX4_ok : ∀ k, k < 3 → parseFieldDescriptor (TX4 k).2.2.1 = some (tyX4 k) := by decide +kernel
abbrev cX4_init : ByteArray := prog_6_method_1_code
def yX4_init : MethodName := ⟨RX4, "<init>", "()V"⟩
abbrev cX4_worth : ByteArray := prog_6_method_2_code
def yX4_worth : MethodName := ⟨RX4, "worth", "([I)I"⟩
abbrev cX4_joinedAt : ByteArray := prog_6_method_3_code
def yX4_joinedAt : MethodName := ⟨RX4, "joinedAt", "(II)I"⟩
abbrev cX4_faultOf : ByteArray := prog_6_method_4_code
def yX4_faultOf : MethodName := ⟨RX4, "faultOf", "(LBuoyVote$Tape;)I"⟩
abbrev cX4_readCondition : ByteArray := prog_6_method_5_code
def yX4_readCondition : MethodName := ⟨RX4, "readCondition", "(LBuoyVote$Tape;IZ)V"⟩
abbrev cX4_readUnit : ByteArray := prog_6_method_6_code
def yX4_readUnit : MethodName := ⟨RX4, "readUnit", "(LBuoyVote$Tape;IZ)V"⟩
abbrev cX4_readSum : ByteArray := prog_6_method_7_code
def yX4_readSum : MethodName := ⟨RX4, "readSum", "(LBuoyVote$Tape;I)V"⟩
abbrev cX4_readAtom : ByteArray := prog_6_method_8_code
def yX4_readAtom : MethodName := ⟨RX4, "readAtom", "(LBuoyVote$Tape;I)V"⟩
abbrev cX4_emit : ByteArray := prog_6_method_9_code
def yX4_emit : MethodName := ⟨RX4, "emit", "(I)V"⟩
abbrev cX4_startsUnit : ByteArray := prog_6_method_10_code
def yX4_startsUnit : MethodName := ⟨RX4, "startsUnit", "(I)Z"⟩
abbrev cX4_isComparison : ByteArray := prog_6_method_11_code
def yX4_isComparison : MethodName := ⟨RX4, "isComparison", "(I)Z"⟩
def RX5 : String := "BuoyVote$LawBook"
def TX5 : u_T := fun k => match k with
  | 0 => ("BuoyVote$LawBook", "laws", "[LBuoyVote$Law;", true)
  | 1 => ("BuoyVote$LawBook", "size", "I", false)
  | 2 => ("BuoyVote$LawBook", "holding", "I", false)
  | _ => ("BuoyVote$LawBook", "letters", "[I", true)
def tyX5 : Nat → FieldType := fun k => match k with
  | 0 => .array (.object "BuoyVote$Law")
  | 1 => .int
  | 2 => .int
  | _ => .array .int
abbrev wsX50 : List Cond := u_ws RX5 TX5 4
theorem nmX5 : ∀ a, a < 4 → ∀ b, b < 4 → a ≠ b → (TX5 a).2.1 ≠ (TX5 b).2.1 := by decide +kernel
theorem tyX5_ok : ∀ k, k < 4 → parseFieldDescriptor (TX5 k).2.2.1 = some (tyX5 k) := by decide +kernel
abbrev cX5_init : ByteArray := prog_7_method_1_code
def yX5_init : MethodName := ⟨RX5, "<init>", "()V"⟩
abbrev cX5_spare : ByteArray := prog_7_method_2_code
def yX5_spare : MethodName := ⟨RX5, "spare", "()LBuoyVote$Law;"⟩
abbrev cX5_drawBy : ByteArray := prog_7_method_3_code
def yX5_drawBy : MethodName := ⟨RX5, "drawBy", "(IIIIII)I"⟩
def RX6 : String := "BuoyVote$Plan"
def TX6 : u_T := fun k => match k with
  | 0 => ("BuoyVote$Plan", "cells", "[I", true)
  | _ => ("BuoyVote$Plan", "steps", "I", false)
def tyX6 : Nat → FieldType := fun k => match k with
  | 0 => .array .int
  | _ => .int
abbrev wsX60 : List Cond := u_ws RX6 TX6 2
theorem nmX6 : ∀ a, a < 2 → ∀ b, b < 2 → a ≠ b → (TX6 a).2.1 ≠ (TX6 b).2.1 := by decide +kernel
theorem tyX6_ok : ∀ k, k < 2 → parseFieldDescriptor (TX6 k).2.2.1 = some (tyX6 k) := by decide +kernel
abbrev cX6_init : ByteArray := prog_8_method_1_code
def yX6_init : MethodName := ⟨RX6, "<init>", "()V"⟩
abbrev cX6_part : ByteArray := prog_8_method_2_code
def yX6_part : MethodName := ⟨RX6, "part", "(II)I"⟩
abbrev cX6_faultOf : ByteArray := prog_8_method_3_code
def yX6_faultOf : MethodName := ⟨RX6, "faultOf", "(LBuoyVote$Tape;)I"⟩
abbrev cX6_readStep : ByteArray := prog_8_method_4_code
def yX6_readStep : MethodName := ⟨RX6, "readStep", "(LBuoyVote$Tape;I)V"⟩
def RX7 : String := "BuoyVote$Sea"
def TX7 : u_T := fun k => match k with
  | 0 => ("BuoyVote$Sea", "wind", "I", false)
  | 1 => ("BuoyVote$Sea", "way", "I", false)
  | 2 => ("BuoyVote$Sea", "hour", "I", false)
  | 3 => ("BuoyVote$Sea", "logged", "I", false)
  | 4 => ("BuoyVote$Sea", "x", "[I", true)
  | 5 => ("BuoyVote$Sea", "y", "[I", true)
  | 6 => ("BuoyVote$Sea", "goalX", "[I", true)
  | 7 => ("BuoyVote$Sea", "goalY", "[I", true)
  | 8 => ("BuoyVote$Sea", "won", "[I", true)
  | 9 => ("BuoyVote$Sea", "sang", "[I", true)
  | 10 => ("BuoyVote$Sea", "liking", "[I", true)
  | 11 => ("BuoyVote$Sea", "old", "[I", true)
  | _ => ("BuoyVote$Sea", "barnacles", "[I", true)
def tyX7 : Nat → FieldType := fun k => match k with
  | 0 => .int
  | 1 => .int
  | 2 => .int
  | 3 => .int
  | 4 => .array .int
  | 5 => .array .int
  | 6 => .array .int
  | 7 => .array .int
  | 8 => .array .int
  | 9 => .array .int
  | 10 => .array .int
  | 11 => .array .int
  | _ => .array .int
abbrev wsX70 : List Cond := u_ws RX7 TX7 13
theorem nmX7 : ∀ a, a < 13 → ∀ b, b < 13 → a ≠ b → (TX7 a).2.1 ≠ (TX7 b).2.1 := by decide +kernel
theorem tyX7_ok : ∀ k, k < 13 → parseFieldDescriptor (TX7 k).2.2.1 = some (tyX7 k) := by decide +kernel
abbrev cX7_init : ByteArray := prog_9_method_1_code
def yX7_init : MethodName := ⟨RX7, "<init>", "()V"⟩
abbrev cX7_begin : ByteArray := prog_9_method_2_code
def yX7_begin : MethodName := ⟨RX7, "begin", "(LBuoyVote$Borough;)V"⟩
abbrev cX7_copyFrom : ByteArray := prog_9_method_3_code
def yX7_copyFrom : MethodName := ⟨RX7, "copyFrom", "(LBuoyVote$Sea;)V"⟩
abbrev cX7_logLength : ByteArray := prog_9_method_4_code
def yX7_logLength : MethodName := ⟨RX7, "logLength", "()I"⟩
abbrev cX7_awayOf : ByteArray := prog_9_method_5_code
def yX7_awayOf : MethodName := ⟨RX7, "awayOf", "(III)I"⟩
abbrev cX7_put : ByteArray := prog_9_method_6_code
def yX7_put : MethodName := ⟨RX7, "put", "(III)V"⟩
abbrev cX7_singTo : ByteArray := prog_9_method_7_code
def yX7_singTo : MethodName := ⟨RX7, "singTo", "(II)V"⟩
abbrev cX7_rowOn : ByteArray := prog_9_method_8_code
def yX7_rowOn : MethodName := ⟨RX7, "rowOn", "(II)V"⟩
def RX8 : String := "BuoyVote$Sightings"
def TX8 : u_T := fun k => match k with
  | 0 => ("BuoyVote$Sightings", "told", "LBuoyVote$Borough;", true)
  | 1 => ("BuoyVote$Sightings", "laws", "LBuoyVote$LawBook;", true)
  | 2 => ("BuoyVote$Sightings", "seenBuoy", "[I", true)
  | 3 => ("BuoyVote$Sightings", "seenD", "[I", true)
  | 4 => ("BuoyVote$Sightings", "seenE", "[I", true)
  | 5 => ("BuoyVote$Sightings", "seenTo", "[I", true)
  | 6 => ("BuoyVote$Sightings", "size", "I", false)
  | 7 => ("BuoyVote$Sightings", "fits", "[I", true)
  | 8 => ("BuoyVote$Sightings", "fitCount", "I", false)
  | 9 => ("BuoyVote$Sightings", "oneDraws", "[I", true)
  | 10 => ("BuoyVote$Sightings", "otherDraws", "[I", true)
  | _ => ("BuoyVote$Sightings", "answers", "[I", true)
def tyX8 : Nat → FieldType := fun k => match k with
  | 0 => .object "BuoyVote$Borough"
  | 1 => .object "BuoyVote$LawBook"
  | 2 => .array .int
  | 3 => .array .int
  | 4 => .array .int
  | 5 => .array .int
  | 6 => .int
  | 7 => .array .int
  | 8 => .int
  | 9 => .array .int
  | 10 => .array .int
  | _ => .array .int
abbrev wsX80 : List Cond := u_ws RX8 TX8 12
theorem nmX8 : ∀ a, a < 12 → ∀ b, b < 12 → a ≠ b → (TX8 a).2.1 ≠ (TX8 b).2.1 := by decide +kernel
theorem tyX8_ok : ∀ k, k < 12 → parseFieldDescriptor (TX8 k).2.2.1 = some (tyX8 k) := by decide +kernel
abbrev cX8_init : ByteArray := prog_10_method_1_code
def yX8_init : MethodName := ⟨RX8, "<init>", "(LBuoyVote$Borough;LBuoyVote$LawBook;)V"⟩
abbrev cX8_add : ByteArray := prog_10_method_2_code
def yX8_add : MethodName := ⟨RX8, "add", "(IIII)Z"⟩
abbrev cX8_fit : ByteArray := prog_10_method_3_code
def yX8_fit : MethodName := ⟨RX8, "fit", "(I)I"⟩
abbrev cX8_fitting : ByteArray := prog_10_method_4_code
def yX8_fitting : MethodName := ⟨RX8, "fitting", "(I)I"⟩
abbrev cX8_bestLook : ByteArray := prog_10_method_5_code
def yX8_bestLook : MethodName := ⟨RX8, "bestLook", "(I)I"⟩
abbrev cX8_mostAlike : ByteArray := prog_10_method_6_code
def yX8_mostAlike : MethodName := ⟨RX8, "mostAlike", "(I)I"⟩
abbrev cX8_keepThose : ByteArray := prog_10_method_7_code
def yX8_keepThose : MethodName := ⟨RX8, "keepThose", "(II)V"⟩
abbrev cX8_setDraws : ByteArray := prog_10_method_8_code
def yX8_setDraws : MethodName := ⟨RX8, "setDraws", "(II)V"⟩
abbrev cX8_answerOf : ByteArray := prog_10_method_9_code
def yX8_answerOf : MethodName := ⟨RX8, "answerOf", "(II)I"⟩
def RX9 : String := "BuoyVote$Tape"
def TX9 : u_T := fun k => match k with
  | 0 => ("BuoyVote$Tape", "bytes", "[I", true)
  | 1 => ("BuoyVote$Tape", "length", "I", false)
  | 2 => ("BuoyVote$Tape", "at", "I", false)
  | _ => ("BuoyVote$Tape", "wrong", "I", false)
def tyX9 : Nat → FieldType := fun k => match k with
  | 0 => .array .int
  | 1 => .int
  | 2 => .int
  | _ => .int
abbrev wsX90 : List Cond := u_ws RX9 TX9 4
theorem nmX9 : ∀ a, a < 4 → ∀ b, b < 4 → a ≠ b → (TX9 a).2.1 ≠ (TX9 b).2.1 := by decide +kernel
theorem tyX9_ok : ∀ k, k < 4 → parseFieldDescriptor (TX9 k).2.2.1 = some (tyX9 k) := by decide +kernel
abbrev cX9_init : ByteArray := prog_11_method_1_code
def yX9_init : MethodName := ⟨RX9, "<init>", "()V"⟩
abbrev cX9_bytesIn : ByteArray := prog_11_method_2_code
def yX9_bytesIn : MethodName := ⟨RX9, "bytesIn", "(I)I"⟩
abbrev cX9_append : ByteArray := prog_11_method_3_code
def yX9_append : MethodName := ⟨RX9, "append", "(I)V"⟩
abbrev cX9_rewind : ByteArray := prog_11_method_4_code
def yX9_rewind : MethodName := ⟨RX9, "rewind", "()V"⟩
abbrev cX9_isRight : ByteArray := prog_11_method_5_code
def yX9_isRight : MethodName := ⟨RX9, "isRight", "()Z"⟩
abbrev cX9_wrongAt : ByteArray := prog_11_method_6_code
def yX9_wrongAt : MethodName := ⟨RX9, "wrongAt", "()I"⟩
abbrev cX9_refuse : ByteArray := prog_11_method_7_code
def yX9_refuse : MethodName := ⟨RX9, "refuse", "(I)V"⟩
abbrev cX9_refuseHere : ByteArray := prog_11_method_8_code
def yX9_refuseHere : MethodName := ⟨RX9, "refuseHere", "()V"⟩
abbrev cX9_peek : ByteArray := prog_11_method_9_code
def yX9_peek : MethodName := ⟨RX9, "peek", "()I"⟩
abbrev cX9_skip : ByteArray := prog_11_method_10_code
def yX9_skip : MethodName := ⟨RX9, "skip", "()V"⟩
abbrev cX9_take : ByteArray := prog_11_method_11_code
def yX9_take : MethodName := ⟨RX9, "take", "(I)Z"⟩
abbrev cX9_takeEither : ByteArray := prog_11_method_12_code
def yX9_takeEither : MethodName := ⟨RX9, "takeEither", "(II)I"⟩
abbrev cX9_expect : ByteArray := prog_11_method_13_code
def yX9_expect : MethodName := ⟨RX9, "expect", "(I)V"⟩
abbrev cX9_expectEnd : ByteArray := prog_11_method_14_code
def yX9_expectEnd : MethodName := ⟨RX9, "expectEnd", "()V"⟩
abbrev cX9_digit : ByteArray := prog_11_method_15_code
def yX9_digit : MethodName := ⟨RX9, "digit", "()I"⟩
abbrev cX9_number : ByteArray := prog_11_method_16_code
def yX9_number : MethodName := ⟨RX9, "number", "(I)I"⟩
abbrev cX9_numberWithin : ByteArray := prog_11_method_17_code
def yX9_numberWithin : MethodName := ⟨RX9, "numberWithin", "(II)I"⟩
def RX10 : String := "BuoyVote$Waters"
def TX10 : u_T := fun k => match k with
  | 0 => ("BuoyVote$Waters", "told", "LBuoyVote$Borough;", true)
  | 1 => ("BuoyVote$Waters", "laws", "LBuoyVote$LawBook;", true)
  | 2 => ("BuoyVote$Waters", "draws", "[I", true)
  | 3 => ("BuoyVote$Waters", "leans", "[I", true)
  | 4 => ("BuoyVote$Waters", "tally", "[I", true)
  | _ => ("BuoyVote$Waters", "bars", "[I", true)
def tyX10 : Nat → FieldType := fun k => match k with
  | 0 => .object "BuoyVote$Borough"
  | 1 => .object "BuoyVote$LawBook"
  | 2 => .array .int
  | 3 => .array .int
  | 4 => .array .int
  | _ => .array .int
abbrev wsX100 : List Cond := u_ws RX10 TX10 6
theorem nmX10 : ∀ a, a < 6 → ∀ b, b < 6 → a ≠ b → (TX10 a).2.1 ≠ (TX10 b).2.1 := by decide +kernel
theorem tyX10_ok : ∀ k, k < 6 → parseFieldDescriptor (TX10 k).2.2.1 = some (tyX10 k) := by decide +kernel
abbrev cX10_init : ByteArray := prog_12_method_1_code
def yX10_init : MethodName := ⟨RX10, "<init>", "(LBuoyVote$Borough;LBuoyVote$LawBook;)V"⟩
abbrev cX10_isRising : ByteArray := prog_12_method_2_code
def yX10_isRising : MethodName := ⟨RX10, "isRising", "(I)Z"⟩
abbrev cX10_pushOf : ByteArray := prog_12_method_3_code
def yX10_pushOf : MethodName := ⟨RX10, "pushOf", "(LBuoyVote$Sea;II)I"⟩
abbrev cX10_drawOf : ByteArray := prog_12_method_4_code
def yX10_drawOf : MethodName := ⟨RX10, "drawOf", "(LBuoyVote$Sea;II)I"⟩
abbrev cX10_leanOf : ByteArray := prog_12_method_5_code
def yX10_leanOf : MethodName := ⟨RX10, "leanOf", "(LBuoyVote$Sea;I)I"⟩
abbrev cX10_leanBy : ByteArray := prog_12_method_6_code
def yX10_leanBy : MethodName := ⟨RX10, "leanBy", "(I)I"⟩
abbrev cX10_tallyUp : ByteArray := prog_12_method_7_code
def yX10_tallyUp : MethodName := ⟨RX10, "tallyUp", "(LBuoyVote$Sea;)V"⟩
abbrev cX10_winner : ByteArray := prog_12_method_8_code
def yX10_winner : MethodName := ⟨RX10, "winner", "()I"⟩
abbrev cX10_leaningTo : ByteArray := prog_12_method_9_code
def yX10_leaningTo : MethodName := ⟨RX10, "leaningTo", "(I)I"⟩
abbrev cX10_leaningBits : ByteArray := prog_12_method_10_code
def yX10_leaningBits : MethodName := ⟨RX10, "leaningBits", "()I"⟩
abbrev cX10_gapOf : ByteArray := prog_12_method_11_code
def yX10_gapOf : MethodName := ⟨RX10, "gapOf", "(LBuoyVote$Sea;)I"⟩
abbrev cX10_passHour : ByteArray := prog_12_method_12_code
def yX10_passHour : MethodName := ⟨RX10, "passHour", "(LBuoyVote$Sea;)V"⟩
abbrev cX10_holdCount : ByteArray := prog_12_method_13_code
def yX10_holdCount : MethodName := ⟨RX10, "holdCount", "(LBuoyVote$Sea;)V"⟩
abbrev cX10_barOf : ByteArray := prog_12_method_14_code
def yX10_barOf : MethodName := ⟨RX10, "barOf", "(LBuoyVote$Sea;II)I"⟩
abbrev cX10_setBars : ByteArray := prog_12_method_15_code
def yX10_setBars : MethodName := ⟨RX10, "setBars", "(LBuoyVote$Sea;I)V"⟩
abbrev cX10_overBars : ByteArray := prog_12_method_16_code
def yX10_overBars : MethodName := ⟨RX10, "overBars", "(LBuoyVote$Sea;I)I"⟩
def RX11 : String := "BuoyVote"
def TX11 : u_T := fun k => match k with
  | 0 => ("BuoyVote", "tape", "LBuoyVote$Tape;", true)
  | 1 => ("BuoyVote", "told", "LBuoyVote$Borough;", true)
  | 2 => ("BuoyVote", "draft", "LBuoyVote$Borough;", true)
  | 3 => ("BuoyVote", "laws", "LBuoyVote$LawBook;", true)
  | 4 => ("BuoyVote", "plans", "[LBuoyVote$Plan;", true)
  | 5 => ("BuoyVote", "planCount", "I", false)
  | 6 => ("BuoyVote", "waters", "LBuoyVote$Waters;", true)
  | 7 => ("BuoyVote", "now", "LBuoyVote$Sea;", true)
  | 8 => ("BuoyVote", "apart", "LBuoyVote$Sea;", true)
  | 9 => ("BuoyVote", "history", "LBuoyVote$History;", true)
  | 10 => ("BuoyVote", "sightings", "LBuoyVote$Sightings;", true)
  | 11 => ("BuoyVote", "duel", "LBuoyVote$Duel;", true)
  | 12 => ("BuoyVote", "charts", "LBuoyVote$Charts;", true)
  | 13 => ("BuoyVote", "parts", "[J", true)
  | 14 => ("BuoyVote", "shown", "[I", true)
  | _ => ("BuoyVote", "drawn", "J", false)
def tyX11 : Nat → FieldType := fun k => match k with
  | 0 => .object "BuoyVote$Tape"
  | 1 => .object "BuoyVote$Borough"
  | 2 => .object "BuoyVote$Borough"
  | 3 => .object "BuoyVote$LawBook"
  | 4 => .array (.object "BuoyVote$Plan")
  | 5 => .int
  | 6 => .object "BuoyVote$Waters"
  | 7 => .object "BuoyVote$Sea"
  | 8 => .object "BuoyVote$Sea"
  | 9 => .object "BuoyVote$History"
  | 10 => .object "BuoyVote$Sightings"
  | 11 => .object "BuoyVote$Duel"
  | 12 => .object "BuoyVote$Charts"
  | 13 => .array .long
  | 14 => .array .int
  | _ => .long
abbrev wsX110 : List Cond := u_ws RX11 TX11 16
theorem nmX11 : ∀ a, a < 16 → ∀ b, b < 16 → a ≠ b → (TX11 a).2.1 ≠ (TX11 b).2.1 := by decide +kernel
theorem tyX11_ok : ∀ k, k < 16 → parseFieldDescriptor (TX11 k).2.2.1 = some (tyX11 k) := by decide +kernel
abbrev cX11_init : ByteArray := prog_1_method_1_code
def yX11_init : MethodName := ⟨RX11, "<init>", "()V"⟩
abbrev cX11_feed : ByteArray := prog_1_method_2_code
def yX11_feed : MethodName := ⟨RX11, "feed", "(IIIII)I"⟩
abbrev cX11_end : ByteArray := prog_1_method_3_code
def yX11_end : MethodName := ⟨RX11, "end", "(I)Z"⟩
abbrev cX11_fault : ByteArray := prog_1_method_4_code
def yX11_fault : MethodName := ⟨RX11, "fault", "(I)I"⟩
abbrev cX11_text : ByteArray := prog_1_method_5_code
def yX11_text : MethodName := ⟨RX11, "text", "(I)I"⟩
abbrev cX11_rule : ByteArray := prog_1_method_6_code
def yX11_rule : MethodName := ⟨RX11, "rule", "(I)I"⟩
abbrev cX11_buoy : ByteArray := prog_1_method_7_code
def yX11_buoy : MethodName := ⟨RX11, "buoy", "(II)I"⟩
abbrev cX11_boat : ByteArray := prog_1_method_8_code
def yX11_boat : MethodName := ⟨RX11, "boat", "(II)I"⟩
abbrev cX11_law : ByteArray := prog_1_method_9_code
def yX11_law : MethodName := ⟨RX11, "law", "(I)Z"⟩
abbrev cX11_pull : ByteArray := prog_1_method_10_code
def yX11_pull : MethodName := ⟨RX11, "pull", "(II)I"⟩
abbrev cX11_push : ByteArray := prog_1_method_11_code
def yX11_push : MethodName := ⟨RX11, "push", "(II)I"⟩
abbrev cX11_row : ByteArray := prog_1_method_12_code
def yX11_row : MethodName := ⟨RX11, "row", "(III)I"⟩
abbrev cX11_sing : ByteArray := prog_1_method_13_code
def yX11_sing : MethodName := ⟨RX11, "sing", "(II)I"⟩
abbrev cX11_scrape : ByteArray := prog_1_method_14_code
def yX11_scrape : MethodName := ⟨RX11, "scrape", "(II)I"⟩
abbrev cX11_wind : ByteArray := prog_1_method_15_code
def yX11_wind : MethodName := ⟨RX11, "wind", "(II)Z"⟩
abbrev cX11_hours : ByteArray := prog_1_method_16_code
def yX11_hours : MethodName := ⟨RX11, "hours", "(I)I"⟩
abbrev cX11_years : ByteArray := prog_1_method_17_code
def yX11_years : MethodName := ⟨RX11, "years", "(IJ)I"⟩
abbrev cX11_undo : ByteArray := prog_1_method_18_code
def yX11_undo : MethodName := ⟨RX11, "undo", "()I"⟩
abbrev cX11_log : ByteArray := prog_1_method_19_code
def yX11_log : MethodName := ⟨RX11, "log", "(II)I"⟩
abbrev cX11_step : ByteArray := prog_1_method_20_code
def yX11_step : MethodName := ⟨RX11, "step", "(III)I"⟩
abbrev cX11_run : ByteArray := prog_1_method_21_code
def yX11_run : MethodName := ⟨RX11, "run", "(II)I"⟩
abbrev cX11_perform : ByteArray := prog_1_method_22_code
def yX11_perform : MethodName := ⟨RX11, "perform", "(I)I"⟩
abbrev cX11_votes : ByteArray := prog_1_method_23_code
def yX11_votes : MethodName := ⟨RX11, "votes", "(I)I"⟩
abbrev cX11_leader : ByteArray := prog_1_method_24_code
def yX11_leader : MethodName := ⟨RX11, "leader", "()I"⟩
abbrev cX11_ahead : ByteArray := prog_1_method_25_code
def yX11_ahead : MethodName := ⟨RX11, "ahead", "(II)I"⟩
abbrev cX11_soon : ByteArray := prog_1_method_26_code
def yX11_soon : MethodName := ⟨RX11, "soon", "(II)I"⟩
abbrev cX11_round : ByteArray := prog_1_method_27_code
def yX11_round : MethodName := ⟨RX11, "round", "(III)I"⟩
abbrev cX11_best : ByteArray := prog_1_method_28_code
def yX11_best : MethodName := ⟨RX11, "best", "(II)I"⟩
abbrev cX11_game : ByteArray := prog_1_method_29_code
def yX11_game : MethodName := ⟨RX11, "game", "(IIIII)I"⟩
abbrev cX11_rests : ByteArray := prog_1_method_30_code
def yX11_rests : MethodName := ⟨RX11, "rests", "(III)I"⟩
abbrev cX11_holds : ByteArray := prog_1_method_31_code
def yX11_holds : MethodName := ⟨RX11, "holds", "(III)I"⟩
abbrev cX11_seen : ByteArray := prog_1_method_32_code
def yX11_seen : MethodName := ⟨RX11, "seen", "(IIII)I"⟩
abbrev cX11_likes : ByteArray := prog_1_method_33_code
def yX11_likes : MethodName := ⟨RX11, "likes", "(II)I"⟩
abbrev cX11_ask : ByteArray := prog_1_method_34_code
def yX11_ask : MethodName := ⟨RX11, "ask", "(I)I"⟩
abbrev cX11_blown : ByteArray := prog_1_method_35_code
def yX11_blown : MethodName := ⟨RX11, "blown", "(II)I"⟩
abbrev cX11_washed : ByteArray := prog_1_method_36_code
def yX11_washed : MethodName := ⟨RX11, "washed", "(III)I"⟩
abbrev cX11_watch : ByteArray := prog_1_method_37_code
def yX11_watch : MethodName := ⟨RX11, "watch", "(I)I"⟩
abbrev cX11_fair : ByteArray := prog_1_method_38_code
def yX11_fair : MethodName := ⟨RX11, "fair", "(II)I"⟩
abbrev cX11_buoys : ByteArray := prog_1_method_39_code
def yX11_buoys : MethodName := ⟨RX11, "buoys", "(I)I"⟩
abbrev cX11_sways : ByteArray := prog_1_method_40_code
def yX11_sways : MethodName := ⟨RX11, "sways", "(II)I"⟩
abbrev cX11_nearest : ByteArray := prog_1_method_41_code
def yX11_nearest : MethodName := ⟨RX11, "nearest", "(I)I"⟩
abbrev cX11_fog : ByteArray := prog_1_method_42_code
def yX11_fog : MethodName := ⟨RX11, "fog", "(II)I"⟩
abbrev cX11_needs : ByteArray := prog_1_method_43_code
def yX11_needs : MethodName := ⟨RX11, "needs", "(II)I"⟩
abbrev cX11_heard : ByteArray := prog_1_method_44_code
def yX11_heard : MethodName := ⟨RX11, "heard", "(I)I"⟩
abbrev cX11_middle : ByteArray := prog_1_method_45_code
def yX11_middle : MethodName := ⟨RX11, "middle", "()I"⟩
abbrev cX11_image : ByteArray := prog_1_method_46_code
def yX11_image : MethodName := ⟨RX11, "image", "()I"⟩
abbrev cX11_back : ByteArray := prog_1_method_47_code
def yX11_back : MethodName := ⟨RX11, "back", "()I"⟩
abbrev cX11_count : ByteArray := prog_1_method_48_code
def yX11_count : MethodName := ⟨RX11, "count", "(I)I"⟩
abbrev cX11_hasBorough : ByteArray := prog_1_method_49_code
def yX11_hasBorough : MethodName := ⟨RX11, "hasBorough", "()Z"⟩
abbrev cX11_isBuoy : ByteArray := prog_1_method_50_code
def yX11_isBuoy : MethodName := ⟨RX11, "isBuoy", "(I)Z"⟩
abbrev cX11_isBoat : ByteArray := prog_1_method_51_code
def yX11_isBoat : MethodName := ⟨RX11, "isBoat", "(I)Z"⟩
abbrev cX11_isPair : ByteArray := prog_1_method_52_code
def yX11_isPair : MethodName := ⟨RX11, "isPair", "(II)Z"⟩
abbrev cX11_isPlan : ByteArray := prog_1_method_53_code
def yX11_isPlan : MethodName := ⟨RX11, "isPlan", "(I)Z"⟩
abbrev cX11_isBeside : ByteArray := prog_1_method_54_code
def yX11_isBeside : MethodName := ⟨RX11, "isBeside", "(LBuoyVote$Sea;II)Z"⟩
abbrev cX11_isFaithful : ByteArray := prog_1_method_55_code
def yX11_isFaithful : MethodName := ⟨RX11, "isFaithful", "(I)Z"⟩
abbrev cX11_canRow : ByteArray := prog_1_method_56_code
def yX11_canRow : MethodName := ⟨RX11, "canRow", "(LBuoyVote$Sea;III)Z"⟩
abbrev cX11_canSing : ByteArray := prog_1_method_57_code
def yX11_canSing : MethodName := ⟨RX11, "canSing", "(LBuoyVote$Sea;II)Z"⟩
abbrev cX11_canScrape : ByteArray := prog_1_method_58_code
def yX11_canScrape : MethodName := ⟨RX11, "canScrape", "(LBuoyVote$Sea;II)Z"⟩
abbrev cX11_canPass : ByteArray := prog_1_method_59_code
def yX11_canPass : MethodName := ⟨RX11, "canPass", "(I)Z"⟩
abbrev cX11_canDo : ByteArray := prog_1_method_60_code
def yX11_canDo : MethodName := ⟨RX11, "canDo", "(LBuoyVote$Sea;LBuoyVote$Plan;I)Z"⟩
abbrev cX11_change : ByteArray := prog_1_method_61_code
def yX11_change : MethodName := ⟨RX11, "change", "(LBuoyVote$Sea;LBuoyVote$Plan;I)V"⟩
abbrev cX11_passApart : ByteArray := prog_1_method_62_code
def yX11_passApart : MethodName := ⟨RX11, "passApart", "(I)V"⟩
abbrev cX11_liveHour : ByteArray := prog_1_method_63_code
def yX11_liveHour : MethodName := ⟨RX11, "liveHour", "()V"⟩
abbrev cX11_drawOutOf : ByteArray := prog_1_method_64_code
def yX11_drawOutOf : MethodName := ⟨RX11, "drawOutOf", "(I)I"⟩
abbrev cX11_beginBorough : ByteArray := prog_1_method_65_code
def yX11_beginBorough : MethodName := ⟨RX11, "beginBorough", "()I"⟩
abbrev cX11_keepLaw : ByteArray := prog_1_method_66_code
def yX11_keepLaw : MethodName := ⟨RX11, "keepLaw", "()I"⟩
abbrev cX11_keepPlan : ByteArray := prog_1_method_67_code
def yX11_keepPlan : MethodName := ⟨RX11, "keepPlan", "()I"⟩
abbrev cX11_splitByFog : ByteArray := prog_1_method_68_code
def yX11_splitByFog : MethodName := ⟨RX11, "splitByFog", "(I)I"⟩
abbrev cX11_leadsUnder : ByteArray := prog_1_method_69_code
def yX11_leadsUnder : MethodName := ⟨RX11, "leadsUnder", "(II)Z"⟩
abbrev cX11_isWithin : ByteArray := prog_1_method_70_code
def yX11_isWithin : MethodName := ⟨RX11, "isWithin", "(III)Z"⟩
abbrev cX11_sumOf : ByteArray := prog_1_method_71_code
def yX11_sumOf : MethodName := ⟨RX11, "sumOf", "([II)I"⟩
abbrev cX11_hoursFor : ByteArray := prog_1_method_72_code
def yX11_hoursFor : MethodName := ⟨RX11, "hoursFor", "(II)I"⟩
def RX12 : String := "BuoyVoteModel"
def TX12 : u_T := fun k => match k with
  | 0 => ("BuoyVoteModel", "thrown", "I", false)
  | 1 => ("BuoyVoteModel", "tape", "[B", true)
  | 2 => ("BuoyVoteModel", "texts", "[B", true)
  | 3 => ("BuoyVoteModel", "textLong", "[I", true)
  | 4 => ("BuoyVoteModel", "letters", "[I", true)
  | 5 => ("BuoyVoteModel", "text", "[B", false)
  | 6 => ("BuoyVoteModel", "length", "I", false)
  | 7 => ("BuoyVoteModel", "lawMany", "I", false)
  | 8 => ("BuoyVoteModel", "begins", "I", false)
  | 9 => ("BuoyVoteModel", "ends", "I", false)
  | 10 => ("BuoyVoteModel", "at", "I", false)
  | 11 => ("BuoyVoteModel", "fault", "I", false)
  | 12 => ("BuoyVoteModel", "deep", "I", false)
  | 13 => ("BuoyVoteModel", "label", "I", false)
  | 14 => ("BuoyVoteModel", "found", "I", false)
  | 15 => ("BuoyVoteModel", "labels", "Ljava/lang/String;", true)
  | 16 => ("BuoyVoteModel", "allowed", "Ljava/lang/String;", true)
  | 17 => ("BuoyVoteModel", "hasFound", "Z", false)
  | 18 => ("BuoyVoteModel", "rule", "[I", true)
  | 19 => ("BuoyVoteModel", "ruleRead", "[I", true)
  | 20 => ("BuoyVoteModel", "buoy", "[I", true)
  | 21 => ("BuoyVoteModel", "buoyRead", "[I", true)
  | 22 => ("BuoyVoteModel", "boat", "[I", true)
  | 23 => ("BuoyVoteModel", "boatRead", "[I", true)
  | 24 => ("BuoyVoteModel", "plan", "[I", true)
  | 25 => ("BuoyVoteModel", "planLong", "[I", true)
  | 26 => ("BuoyVoteModel", "buoys", "I", false)
  | 27 => ("BuoyVoteModel", "boats", "I", false)
  | 28 => ("BuoyVoteModel", "buoysRead", "I", false)
  | 29 => ("BuoyVoteModel", "boatsRead", "I", false)
  | 30 => ("BuoyVoteModel", "plans", "I", false)
  | 31 => ("BuoyVoteModel", "hasRules", "Z", false)
  | 32 => ("BuoyVoteModel", "now", "[I", true)
  | 33 => ("BuoyVoteModel", "trial", "[I", true)
  | 34 => ("BuoyVoteModel", "law", "I", false)
  | 35 => ("BuoyVoteModel", "memoKey", "[J", true)
  | 36 => ("BuoyVoteModel", "memoWorth", "[I", true)
  | 37 => ("BuoyVoteModel", "draws", "[I", true)
  | 38 => ("BuoyVoteModel", "tally", "[I", true)
  | 39 => ("BuoyVoteModel", "leans", "[I", true)
  | 40 => ("BuoyVoteModel", "undoRow", "[I", true)
  | 41 => ("BuoyVoteModel", "acts", "I", false)
  | 42 => ("BuoyVoteModel", "x", "J", false)
  | 43 => ("BuoyVoteModel", "roundLeast", "I", false)
  | 44 => ("BuoyVoteModel", "roundDigits", "I", false)
  | 45 => ("BuoyVoteModel", "gains", "[I", true)
  | 46 => ("BuoyVoteModel", "sightBuoy", "[I", true)
  | 47 => ("BuoyVoteModel", "sightNear", "[I", true)
  | 48 => ("BuoyVoteModel", "sightFar", "[I", true)
  | 49 => ("BuoyVoteModel", "sightTo", "[I", true)
  | 50 => ("BuoyVoteModel", "answers", "[I", true)
  | 51 => ("BuoyVoteModel", "sights", "I", false)
  | 52 => ("BuoyVoteModel", "imageRow", "[I", true)
  | _ => ("BuoyVoteModel", "hasImage", "Z", false)
def tyX12 : Nat → FieldType := fun k => match k with
  | 0 => .int
  | 1 => .array .byte
  | 2 => .array .byte
  | 3 => .array .int
  | 4 => .array .int
  | 5 => .array .byte
  | 6 => .int
  | 7 => .int
  | 8 => .int
  | 9 => .int
  | 10 => .int
  | 11 => .int
  | 12 => .int
  | 13 => .int
  | 14 => .int
  | 15 => .object "java/lang/String"
  | 16 => .object "java/lang/String"
  | 17 => .boolean
  | 18 => .array .int
  | 19 => .array .int
  | 20 => .array .int
  | 21 => .array .int
  | 22 => .array .int
  | 23 => .array .int
  | 24 => .array .int
  | 25 => .array .int
  | 26 => .int
  | 27 => .int
  | 28 => .int
  | 29 => .int
  | 30 => .int
  | 31 => .boolean
  | 32 => .array .int
  | 33 => .array .int
  | 34 => .int
  | 35 => .array .long
  | 36 => .array .int
  | 37 => .array .int
  | 38 => .array .int
  | 39 => .array .int
  | 40 => .array .int
  | 41 => .int
  | 42 => .long
  | 43 => .int
  | 44 => .int
  | 45 => .array .int
  | 46 => .array .int
  | 47 => .array .int
  | 48 => .array .int
  | 49 => .array .int
  | 50 => .array .int
  | 51 => .int
  | 52 => .array .int
  | _ => .boolean
abbrev wsX120 : List Cond := u_ws RX12 TX12 54
theorem nmX12 : ∀ a, a < 54 → ∀ b, b < 54 → a ≠ b → (TX12 a).2.1 ≠ (TX12 b).2.1 := by decide +kernel
theorem tyX12_ok : ∀ k, k < 54 → parseFieldDescriptor (TX12 k).2.2.1 = some (tyX12 k) := by decide +kernel
abbrev cX12_init : ByteArray := prog_14_method_1_code
def yX12_init : MethodName := ⟨RX12, "<init>", "()V"⟩
abbrev cX12_isIn : ByteArray := prog_14_method_3_code
def yX12_isIn : MethodName := ⟨RX12, "isIn", "(JJJ)Z"⟩
abbrev cX12_has : ByteArray := prog_14_method_4_code
def yX12_has : MethodName := ⟨RX12, "has", "(II)Z"⟩
abbrev cX12_isAmong : ByteArray := prog_14_method_5_code
def yX12_isAmong : MethodName := ⟨RX12, "isAmong", "(Ljava/lang/String;I)Z"⟩
abbrev cX12_bytesIn : ByteArray := prog_14_method_6_code
def yX12_bytesIn : MethodName := ⟨RX12, "bytesIn", "(I)I"⟩
abbrev cX12_put : ByteArray := prog_14_method_7_code
def yX12_put : MethodName := ⟨RX12, "put", "(I)V"⟩
abbrev cX12_feed : ByteArray := prog_14_method_8_code
def yX12_feed : MethodName := ⟨RX12, "feed", "(IIIII)I"⟩
abbrev cX12_end : ByteArray := prog_14_method_9_code
def yX12_end : MethodName := ⟨RX12, "end", "(I)Z"⟩
abbrev cX12_look : ByteArray := prog_14_method_10_code
def yX12_look : MethodName := ⟨RX12, "look", "()I"⟩
abbrev cX12_fails : ByteArray := prog_14_method_11_code
def yX12_fails : MethodName := ⟨RX12, "fails", "()Z"⟩
abbrev cX12_goesIn : ByteArray := prog_14_method_12_code
def yX12_goesIn : MethodName := ⟨RX12, "goesIn", "()Z"⟩
abbrev cX12_takes : ByteArray := prog_14_method_13_code
def yX12_takes : MethodName := ⟨RX12, "takes", "(I)Z"⟩
abbrev cX12_isDigit : ByteArray := prog_14_method_14_code
def yX12_isDigit : MethodName := ⟨RX12, "isDigit", "()Z"⟩
abbrev cX12_within : ByteArray := prog_14_method_15_code
def yX12_within : MethodName := ⟨RX12, "within", "(J)I"⟩
abbrev cX12_atom : ByteArray := prog_14_method_16_code
def yX12_atom : MethodName := ⟨RX12, "atom", "()I"⟩
abbrev cX12_term : ByteArray := prog_14_method_17_code
def yX12_term : MethodName := ⟨RX12, "term", "()I"⟩
abbrev cX12_sum : ByteArray := prog_14_method_18_code
def yX12_sum : MethodName := ⟨RX12, "sum", "()I"⟩
abbrev cX12_isSign : ByteArray := prog_14_method_19_code
def yX12_isSign : MethodName := ⟨RX12, "isSign", "(I)Z"⟩
abbrev cX12_compares : ByteArray := prog_14_method_20_code
def yX12_compares : MethodName := ⟨RX12, "compares", "(ZI)Z"⟩
abbrev cX12_unit : ByteArray := prog_14_method_21_code
def yX12_unit : MethodName := ⟨RX12, "unit", "()Z"⟩
abbrev cX12_part : ByteArray := prog_14_method_22_code
def yX12_part : MethodName := ⟨RX12, "part", "(ZI)Z"⟩
abbrev cX12_condition : ByteArray := prog_14_method_23_code
def yX12_condition : MethodName := ⟨RX12, "condition", "(ZI)Z"⟩
abbrev cX12_clause : ByteArray := prog_14_method_24_code
def yX12_clause : MethodName := ⟨RX12, "clause", "()V"⟩
abbrev cX12_starts : ByteArray := prog_14_method_25_code
def yX12_starts : MethodName := ⟨RX12, "starts", "([BII)V"⟩
abbrev cX12_goThrough : ByteArray := prog_14_method_26_code
def yX12_goThrough : MethodName := ⟨RX12, "goThrough", "([BII)V"⟩
abbrev cX12_here : ByteArray := prog_14_method_27_code
def yX12_here : MethodName := ⟨RX12, "here", "()I"⟩
abbrev cX12_spotOf : ByteArray := prog_14_method_28_code
def yX12_spotOf : MethodName := ⟨RX12, "spotOf", "(Ljava/lang/String;I)I"⟩
abbrev cX12_number : ByteArray := prog_14_method_29_code
def yX12_number : MethodName := ⟨RX12, "number", "(II)I"⟩
abbrev cX12_mostOf : ByteArray := prog_14_method_30_code
def yX12_mostOf : MethodName := ⟨RX12, "mostOf", "(II)I"⟩
abbrev cX12_leastOf : ByteArray := prog_14_method_31_code
def yX12_leastOf : MethodName := ⟨RX12, "leastOf", "(II)I"⟩
abbrev cX12_usual : ByteArray := prog_14_method_32_code
def yX12_usual : MethodName := ⟨RX12, "usual", "(II)I"⟩
abbrev cX12_readItems : ByteArray := prog_14_method_33_code
def yX12_readItems : MethodName := ⟨RX12, "readItems", "(I[IILjava/lang/String;)V"⟩
abbrev cX12_readClause : ByteArray := prog_14_method_34_code
def yX12_readClause : MethodName := ⟨RX12, "readClause", "()V"⟩
abbrev cX12_isWhole : ByteArray := prog_14_method_35_code
def yX12_isWhole : MethodName := ⟨RX12, "isWhole", "()Z"⟩
abbrev cX12_readBorough : ByteArray := prog_14_method_36_code
def yX12_readBorough : MethodName := ⟨RX12, "readBorough", "()V"⟩
abbrev cX12_digit : ByteArray := prog_14_method_37_code
def yX12_digit : MethodName := ⟨RX12, "digit", "()I"⟩
abbrev cX12_readStep : ByteArray := prog_14_method_38_code
def yX12_readStep : MethodName := ⟨RX12, "readStep", "(I)V"⟩
abbrev cX12_readPlan : ByteArray := prog_14_method_39_code
def yX12_readPlan : MethodName := ⟨RX12, "readPlan", "()V"⟩
abbrev cX12_fault : ByteArray := prog_14_method_40_code
def yX12_fault : MethodName := ⟨RX12, "fault", "(I)I"⟩
abbrev cX12_text : ByteArray := prog_14_method_41_code
def yX12_text : MethodName := ⟨RX12, "text", "(I)I"⟩
abbrev cX12_begin : ByteArray := prog_14_method_42_code
def yX12_begin : MethodName := ⟨RX12, "begin", "()V"⟩
abbrev cX12_copy : ByteArray := prog_14_method_43_code
def yX12_copy : MethodName := ⟨RX12, "copy", "([I[I)V"⟩
abbrev cX12_isBuoy : ByteArray := prog_14_method_44_code
def yX12_isBuoy : MethodName := ⟨RX12, "isBuoy", "(I)Z"⟩
abbrev cX12_isBoat : ByteArray := prog_14_method_45_code
def yX12_isBoat : MethodName := ⟨RX12, "isBoat", "(I)Z"⟩
abbrev cX12_told : ByteArray := prog_14_method_46_code
def yX12_told : MethodName := ⟨RX12, "told", "(II)I"⟩
abbrev cX12_boatTold : ByteArray := prog_14_method_47_code
def yX12_boatTold : MethodName := ⟨RX12, "boatTold", "(II)I"⟩
abbrev cX12_ofBoat : ByteArray := prog_14_method_48_code
def yX12_ofBoat : MethodName := ⟨RX12, "ofBoat", "([III)I"⟩
abbrev cX12_away : ByteArray := prog_14_method_49_code
def yX12_away : MethodName := ⟨RX12, "away", "([IIII)I"⟩
abbrev cX12_awayFrom : ByteArray := prog_14_method_50_code
def yX12_awayFrom : MethodName := ⟨RX12, "awayFrom", "([III)I"⟩
abbrev cX12_rises : ByteArray := prog_14_method_51_code
def yX12_rises : MethodName := ⟨RX12, "rises", "([I)Z"⟩
abbrev cX12_pushOf : ByteArray := prog_14_method_52_code
def yX12_pushOf : MethodName := ⟨RX12, "pushOf", "([III)I"⟩
abbrev cX12_drawBy : ByteArray := prog_14_method_53_code
def yX12_drawBy : MethodName := ⟨RX12, "drawBy", "(IIIIII)I"⟩
abbrev cX12_worthNow : ByteArray := prog_14_method_54_code
def yX12_worthNow : MethodName := ⟨RX12, "worthNow", "()I"⟩
abbrev cX12_barnaclesFor : ByteArray := prog_14_method_55_code
def yX12_barnaclesFor : MethodName := ⟨RX12, "barnaclesFor", "([III)I"⟩
abbrev cX12_drawOf : ByteArray := prog_14_method_56_code
def yX12_drawOf : MethodName := ⟨RX12, "drawOf", "([III)I"⟩
abbrev cX12_leanBy : ByteArray := prog_14_method_57_code
def yX12_leanBy : MethodName := ⟨RX12, "leanBy", "(II)I"⟩
abbrev cX12_leanOf : ByteArray := prog_14_method_58_code
def yX12_leanOf : MethodName := ⟨RX12, "leanOf", "([II)I"⟩
abbrev cX12_votesIn : ByteArray := prog_14_method_59_code
def yX12_votesIn : MethodName := ⟨RX12, "votesIn", "([II)I"⟩
abbrev cX12_leaderIn : ByteArray := prog_14_method_60_code
def yX12_leaderIn : MethodName := ⟨RX12, "leaderIn", "([I)I"⟩
abbrev cX12_towards : ByteArray := prog_14_method_61_code
def yX12_towards : MethodName := ⟨RX12, "towards", "(III)I"⟩
abbrev cX12_goHour : ByteArray := prog_14_method_62_code
def yX12_goHour : MethodName := ⟨RX12, "goHour", "([I)V"⟩
abbrev cX12_counts : ByteArray := prog_14_method_63_code
def yX12_counts : MethodName := ⟨RX12, "counts", "([II)V"⟩
abbrev cX12_rule : ByteArray := prog_14_method_64_code
def yX12_rule : MethodName := ⟨RX12, "rule", "(I)I"⟩
abbrev cX12_buoy : ByteArray := prog_14_method_65_code
def yX12_buoy : MethodName := ⟨RX12, "buoy", "(II)I"⟩
abbrev cX12_boat : ByteArray := prog_14_method_66_code
def yX12_boat : MethodName := ⟨RX12, "boat", "(II)I"⟩
abbrev cX12_law : ByteArray := prog_14_method_67_code
def yX12_law : MethodName := ⟨RX12, "law", "(I)Z"⟩
abbrev cX12_pull : ByteArray := prog_14_method_68_code
def yX12_pull : MethodName := ⟨RX12, "pull", "(II)I"⟩
abbrev cX12_push : ByteArray := prog_14_method_69_code
def yX12_push : MethodName := ⟨RX12, "push", "(II)I"⟩
abbrev cX12_remember : ByteArray := prog_14_method_70_code
def yX12_remember : MethodName := ⟨RX12, "remember", "()V"⟩
abbrev cX12_hoursFor : ByteArray := prog_14_method_71_code
def yX12_hoursFor : MethodName := ⟨RX12, "hoursFor", "(II)I"⟩
abbrev cX12_canRow : ByteArray := prog_14_method_72_code
def yX12_canRow : MethodName := ⟨RX12, "canRow", "([IIII)Z"⟩
abbrev cX12_rows : ByteArray := prog_14_method_73_code
def yX12_rows : MethodName := ⟨RX12, "rows", "([IIII)V"⟩
abbrev cX12_row : ByteArray := prog_14_method_74_code
def yX12_row : MethodName := ⟨RX12, "row", "(III)I"⟩
abbrev cX12_canSing : ByteArray := prog_14_method_75_code
def yX12_canSing : MethodName := ⟨RX12, "canSing", "([III)Z"⟩
abbrev cX12_sings : ByteArray := prog_14_method_76_code
def yX12_sings : MethodName := ⟨RX12, "sings", "([III)V"⟩
abbrev cX12_sing : ByteArray := prog_14_method_77_code
def yX12_sing : MethodName := ⟨RX12, "sing", "(II)I"⟩
abbrev cX12_canScrape : ByteArray := prog_14_method_78_code
def yX12_canScrape : MethodName := ⟨RX12, "canScrape", "([III)Z"⟩
abbrev cX12_scrape : ByteArray := prog_14_method_79_code
def yX12_scrape : MethodName := ⟨RX12, "scrape", "(II)I"⟩
abbrev cX12_wind : ByteArray := prog_14_method_80_code
def yX12_wind : MethodName := ⟨RX12, "wind", "(II)Z"⟩
abbrev cX12_mayPass : ByteArray := prog_14_method_81_code
def yX12_mayPass : MethodName := ⟨RX12, "mayPass", "([III)Z"⟩
abbrev cX12_hours : ByteArray := prog_14_method_82_code
def yX12_hours : MethodName := ⟨RX12, "hours", "(I)I"⟩
abbrev cX12_draw : ByteArray := prog_14_method_83_code
def yX12_draw : MethodName := ⟨RX12, "draw", "(I)I"⟩
abbrev cX12_years : ByteArray := prog_14_method_84_code
def yX12_years : MethodName := ⟨RX12, "years", "(IJ)I"⟩
abbrev cX12_undo : ByteArray := prog_14_method_85_code
def yX12_undo : MethodName := ⟨RX12, "undo", "()I"⟩
abbrev cX12_log : ByteArray := prog_14_method_86_code
def yX12_log : MethodName := ⟨RX12, "log", "(II)I"⟩
abbrev cX12_isPlan : ByteArray := prog_14_method_87_code
def yX12_isPlan : MethodName := ⟨RX12, "isPlan", "(I)Z"⟩
abbrev cX12_step : ByteArray := prog_14_method_88_code
def yX12_step : MethodName := ⟨RX12, "step", "(III)I"⟩
abbrev cX12_canStep : ByteArray := prog_14_method_89_code
def yX12_canStep : MethodName := ⟨RX12, "canStep", "([II)Z"⟩
abbrev cX12_steps : ByteArray := prog_14_method_90_code
def yX12_steps : MethodName := ⟨RX12, "steps", "([II)V"⟩
abbrev cX12_timesOf : ByteArray := prog_14_method_91_code
def yX12_timesOf : MethodName := ⟨RX12, "timesOf", "(I)I"⟩
abbrev cX12_run : ByteArray := prog_14_method_92_code
def yX12_run : MethodName := ⟨RX12, "run", "(II)I"⟩
abbrev cX12_perform : ByteArray := prog_14_method_93_code
def yX12_perform : MethodName := ⟨RX12, "perform", "(I)I"⟩
abbrev cX12_votes : ByteArray := prog_14_method_94_code
def yX12_votes : MethodName := ⟨RX12, "votes", "(I)I"⟩
abbrev cX12_leader : ByteArray := prog_14_method_95_code
def yX12_leader : MethodName := ⟨RX12, "leader", "()I"⟩
abbrev cX12_ahead : ByteArray := prog_14_method_96_code
def yX12_ahead : MethodName := ⟨RX12, "ahead", "(II)I"⟩
abbrev cX12_soon : ByteArray := prog_14_method_97_code
def yX12_soon : MethodName := ⟨RX12, "soon", "(II)I"⟩
abbrev cX12_goRound : ByteArray := prog_14_method_98_code
def yX12_goRound : MethodName := ⟨RX12, "goRound", "(IIIIII)V"⟩
abbrev cX12_round : ByteArray := prog_14_method_99_code
def yX12_round : MethodName := ⟨RX12, "round", "(III)I"⟩
abbrev cX12_puts : ByteArray := prog_14_method_100_code
def yX12_puts : MethodName := ⟨RX12, "puts", "([IIII)V"⟩
abbrev cX12_best : ByteArray := prog_14_method_101_code
def yX12_best : MethodName := ⟨RX12, "best", "(II)I"⟩
abbrev cX12_areTwo : ByteArray := prog_14_method_102_code
def yX12_areTwo : MethodName := ⟨RX12, "areTwo", "(II)Z"⟩
abbrev cX12_layAt : ByteArray := prog_14_method_103_code
def yX12_layAt : MethodName := ⟨RX12, "layAt", "(IIII)V"⟩
abbrev cX12_gameOf : ByteArray := prog_14_method_104_code
def yX12_gameOf : MethodName := ⟨RX12, "gameOf", "(IIIII)I"⟩
abbrev cX12_game : ByteArray := prog_14_method_105_code
def yX12_game : MethodName := ⟨RX12, "game", "(IIIII)I"⟩
abbrev cX12_layGains : ByteArray := prog_14_method_106_code
def yX12_layGains : MethodName := ⟨RX12, "layGains", "(II)V"⟩
abbrev cX12_gain : ByteArray := prog_14_method_107_code
def yX12_gain : MethodName := ⟨RX12, "gain", "(III)I"⟩
abbrev cX12_isRest : ByteArray := prog_14_method_108_code
def yX12_isRest : MethodName := ⟨RX12, "isRest", "(II)Z"⟩
abbrev cX12_rests : ByteArray := prog_14_method_109_code
def yX12_rests : MethodName := ⟨RX12, "rests", "(III)I"⟩
abbrev cX12_holds : ByteArray := prog_14_method_110_code
def yX12_holds : MethodName := ⟨RX12, "holds", "(III)I"⟩
abbrev cX12_seen : ByteArray := prog_14_method_111_code
def yX12_seen : MethodName := ⟨RX12, "seen", "(IIII)I"⟩
abbrev cX12_answer : ByteArray := prog_14_method_112_code
def yX12_answer : MethodName := ⟨RX12, "answer", "(IIII)I"⟩
abbrev cX12_fits : ByteArray := prog_14_method_113_code
def yX12_fits : MethodName := ⟨RX12, "fits", "(II)Z"⟩
abbrev cX12_likes : ByteArray := prog_14_method_114_code
def yX12_likes : MethodName := ⟨RX12, "likes", "(II)I"⟩
abbrev cX12_ask : ByteArray := prog_14_method_115_code
def yX12_ask : MethodName := ⟨RX12, "ask", "(I)I"⟩
abbrev cX12_blown : ByteArray := prog_14_method_116_code
def yX12_blown : MethodName := ⟨RX12, "blown", "(II)I"⟩
abbrev cX12_washed : ByteArray := prog_14_method_117_code
def yX12_washed : MethodName := ⟨RX12, "washed", "(III)I"⟩
abbrev cX12_apart : ByteArray := prog_14_method_118_code
def yX12_apart : MethodName := ⟨RX12, "apart", "(II)I"⟩
abbrev cX12_watches : ByteArray := prog_14_method_119_code
def yX12_watches : MethodName := ⟨RX12, "watches", "(II)Z"⟩
abbrev cX12_watch : ByteArray := prog_14_method_120_code
def yX12_watch : MethodName := ⟨RX12, "watch", "(I)I"⟩
abbrev cX12_fair : ByteArray := prog_14_method_121_code
def yX12_fair : MethodName := ⟨RX12, "fair", "(II)I"⟩
abbrev cX12_buoys : ByteArray := prog_14_method_122_code
def yX12_buoys : MethodName := ⟨RX12, "buoys", "(I)I"⟩
abbrev cX12_sways : ByteArray := prog_14_method_123_code
def yX12_sways : MethodName := ⟨RX12, "sways", "(II)I"⟩
abbrev cX12_nearest : ByteArray := prog_14_method_124_code
def yX12_nearest : MethodName := ⟨RX12, "nearest", "(I)I"⟩
abbrev cX12_fogOf : ByteArray := prog_14_method_125_code
def yX12_fogOf : MethodName := ⟨RX12, "fogOf", "(IIIJ)J"⟩
abbrev cX12_fog : ByteArray := prog_14_method_126_code
def yX12_fog : MethodName := ⟨RX12, "fog", "(II)I"⟩
abbrev cX12_needs : ByteArray := prog_14_method_127_code
def yX12_needs : MethodName := ⟨RX12, "needs", "(II)I"⟩
abbrev cX12_heard : ByteArray := prog_14_method_128_code
def yX12_heard : MethodName := ⟨RX12, "heard", "(I)I"⟩
abbrev cX12_middle : ByteArray := prog_14_method_129_code
def yX12_middle : MethodName := ⟨RX12, "middle", "()I"⟩
abbrev cX12_image : ByteArray := prog_14_method_130_code
def yX12_image : MethodName := ⟨RX12, "image", "()I"⟩
abbrev cX12_back : ByteArray := prog_14_method_131_code
def yX12_back : MethodName := ⟨RX12, "back", "()I"⟩
abbrev cX12_count : ByteArray := prog_14_method_132_code
def yX12_count : MethodName := ⟨RX12, "count", "(I)I"⟩
def RJx145de : String := "java/io/Serializable"
def RJx9f9b0 : String := "java/lang/CharSequence"
def RJ11 : String := "java/lang/Character"
abbrev cJ11_isValidCodePoint_9a6ad : ByteArray := prog_17_method_11_code
def yJ11_isValidCodePoint_9a6ad : MethodName := ⟨RJ11, "isValidCodePoint", "(I)Z"⟩
abbrev cJ11_highSurrogate_5068e : ByteArray := prog_17_method_28_code
def yJ11_highSurrogate_5068e : MethodName := ⟨RJ11, "highSurrogate", "(I)C"⟩
abbrev cJ11_lowSurrogate_5068e : ByteArray := prog_17_method_29_code
def yJ11_lowSurrogate_5068e : MethodName := ⟨RJ11, "lowSurrogate", "(I)C"⟩
def RJxb160c : String := "java/lang/Comparable"
def RJ6 : String := "java/lang/Integer"
abbrev cJ6_bitCount_0f7a4 : ByteArray := prog_20_method_49_code
def yJ6_bitCount_0f7a4 : MethodName := ⟨RJ6, "bitCount", "(I)I"⟩
def RJ9 : String := "java/lang/Math"
abbrev cJ9_abs_0f7a4 : ByteArray := prog_21_method_59_code
def yJ9_abs_0f7a4 : MethodName := ⟨RJ9, "abs", "(I)I"⟩
abbrev cJ9_max_7cf53 : ByteArray := prog_21_method_65_code
def yJ9_max_7cf53 : MethodName := ⟨RJ9, "max", "(II)I"⟩
abbrev cJ9_max_f86c9 : ByteArray := prog_21_method_66_code
def yJ9_max_f86c9 : MethodName := ⟨RJ9, "max", "(JJ)J"⟩
abbrev cJ9_min_7cf53 : ByteArray := prog_21_method_69_code
def yJ9_min_7cf53 : MethodName := ⟨RJ9, "min", "(II)I"⟩
abbrev cJ9_min_f86c9 : ByteArray := prog_21_method_70_code
def yJ9_min_f86c9 : MethodName := ⟨RJ9, "min", "(JJ)J"⟩
def RJ0 : String := "java/lang/String"
abbrev cJ0_length_8abf5 : ByteArray := prog_23_method_54_code
def yJ0_length_8abf5 : MethodName := ⟨RJ0, "length", "()I"⟩
abbrev cJ0_charAt_5068e : ByteArray := prog_23_method_56_code
def yJ0_charAt_5068e : MethodName := ⟨RJ0, "charAt", "(I)C"⟩
abbrev cJ0_indexOf_0f7a4 : ByteArray := prog_23_method_79_code
def yJ0_indexOf_0f7a4 : MethodName := ⟨RJ0, "indexOf", "(I)I"⟩
abbrev cJ0_indexOf_7cf53 : ByteArray := prog_23_method_80_code
def yJ0_indexOf_7cf53 : MethodName := ⟨RJ0, "indexOf", "(II)I"⟩
abbrev cJ0_coder_7d493 : ByteArray := prog_23_method_152_code
def yJ0_coder_7d493 : MethodName := ⟨RJ0, "coder", "()B"⟩
abbrev cJ0_isLatin1_aae02 : ByteArray := prog_23_method_154_code
def yJ0_isLatin1_aae02 : MethodName := ⟨RJ0, "isLatin1", "()Z"⟩
abbrev cJ0_checkIndex_df160 : ByteArray := prog_23_method_155_code
def yJ0_checkIndex_df160 : MethodName := ⟨RJ0, "checkIndex", "(II)V"⟩
abbrev cJ0_checkBoundsBeginEnd_23922 : ByteArray := prog_23_method_158_code
def yJ0_checkBoundsBeginEnd_23922 : MethodName := ⟨RJ0, "checkBoundsBeginEnd", "(III)V"⟩
def RJ1 : String := "java/lang/StringLatin1"
abbrev cJ1_charAt_3b067 : ByteArray := prog_24_method_2_code
def yJ1_charAt_3b067 : MethodName := ⟨RJ1, "charAt", "([BI)C"⟩
abbrev cJ1_canEncode_9a6ad : ByteArray := prog_24_method_4_code
def yJ1_canEncode_9a6ad : MethodName := ⟨RJ1, "canEncode", "(I)Z"⟩
abbrev cJ1_indexOf_4cfef : ByteArray := prog_24_method_22_code
def yJ1_indexOf_4cfef : MethodName := ⟨RJ1, "indexOf", "([BIII)I"⟩
abbrev cJ1_indexOfChar_4cfef : ByteArray := prog_24_method_23_code
def yJ1_indexOfChar_4cfef : MethodName := ⟨RJ1, "indexOfChar", "([BIII)I"⟩
def RJ2 : String := "java/lang/StringUTF16"
abbrev cJ2_getChar_3b067 : ByteArray := prog_25_method_5_code
def yJ2_getChar_3b067 : MethodName := ⟨RJ2, "getChar", "([BI)C"⟩
abbrev cJ2_length_9d52b : ByteArray := prog_25_method_6_code
def yJ2_length_9d52b : MethodName := ⟨RJ2, "length", "([B)I"⟩
abbrev cJ2_indexOf_4cfef : ByteArray := prog_25_method_40_code
def yJ2_indexOf_4cfef : MethodName := ⟨RJ2, "indexOf", "([BIII)I"⟩
abbrev cJ2_indexOfChar_4cfef : ByteArray := prog_25_method_47_code
def yJ2_indexOfChar_4cfef : MethodName := ⟨RJ2, "indexOfChar", "([BIII)I"⟩
abbrev cJ2_indexOfCharUnsafe_4cfef : ByteArray := prog_25_method_48_code
def yJ2_indexOfCharUnsafe_4cfef : MethodName := ⟨RJ2, "indexOfCharUnsafe", "([BIII)I"⟩
abbrev cJ2_indexOfSupplementary_4cfef : ByteArray := prog_25_method_49_code
def yJ2_indexOfSupplementary_4cfef : MethodName := ⟨RJ2, "indexOfSupplementary", "([BIII)I"⟩
abbrev cJ2_charAt_3b067 : ByteArray := prog_25_method_83_code
def yJ2_charAt_3b067 : MethodName := ⟨RJ2, "charAt", "([BI)C"⟩
abbrev cJ2_checkIndex_2214a : ByteArray := prog_25_method_91_code
def yJ2_checkIndex_2214a : MethodName := ⟨RJ2, "checkIndex", "(I[B)V"⟩
abbrev cJ2_checkBoundsBeginEnd_d044e : ByteArray := prog_25_method_93_code
def yJ2_checkBoundsBeginEnd_d044e : MethodName := ⟨RJ2, "checkBoundsBeginEnd", "(II[B)V"⟩
def RJ10 : String := "java/lang/System"
def RJxfd54e : String := "java/lang/constant/Constable"
def RJx3cf43 : String := "java/lang/constant/ConstantDesc"
def RJ3 : String := "jdk/internal/util/Preconditions"
abbrev cJ3_checkIndex_8e157 : ByteArray := prog_31_method_11_code
def yJ3_checkIndex_8e157 : MethodName := ⟨RJ3, "checkIndex", "(IILjava/util/function/BiFunction;)I"⟩
abbrev cJ3_checkFromToIndex_8c36e : ByteArray := prog_31_method_12_code
def yJ3_checkFromToIndex_8c36e : MethodName := ⟨RJ3, "checkFromToIndex", "(IIILjava/util/function/BiFunction;)I"⟩
def RL : String := "BuoyVoteLaw"
abbrev cL_buoy : ByteArray := method_3_code
def yL_buoy : MethodName := ⟨RL, "buoy", "(LBuoyVote;II[J)I"⟩
abbrev cL_law : ByteArray := code
def yL_law : MethodName := ⟨RL, "law", "([I)Z"⟩
theorem dX0_init_0 : decode cX0_init 0 = .ok (.aload_n 0, 1) := by decide +kernel
theorem dX0_init_1 : decode cX0_init 1 = .ok (.invokespecial 5, 3) := by decide +kernel
theorem dX0_init_4 : decode cX0_init 4 = .ok (.aload_n 0, 1) := by decide +kernel
theorem dX0_init_5 : decode cX0_init 5 = .ok (.bipush 80, 2) := by decide +kernel
theorem dX0_init_7 : decode cX0_init 7 = .ok (.newarray .int, 2) := by decide +kernel
theorem dX0_init_9 : decode cX0_init 9 = .ok (.putfield 11, 3) := by decide +kernel
theorem dX0_init_12 : decode cX0_init 12 = .ok (.return_, 1) := by decide +kernel
theorem dX0_copyFrom_0 : decode cX0_copyFrom 0 = .ok (.aload_n 1, 1) := by decide +kernel
theorem dX0_copyFrom_1 : decode cX0_copyFrom 1 = .ok (.getfield 11, 3) := by decide +kernel
theorem dX0_copyFrom_4 : decode cX0_copyFrom 4 = .ok (.iconst 0, 1) := by decide +kernel
theorem dX0_copyFrom_5 : decode cX0_copyFrom 5 = .ok (.aload_n 0, 1) := by decide +kernel
theorem dX0_copyFrom_6 : decode cX0_copyFrom 6 = .ok (.getfield 11, 3) := by decide +kernel
theorem dX0_copyFrom_9 : decode cX0_copyFrom 9 = .ok (.iconst 0, 1) := by decide +kernel
theorem dX0_copyFrom_10 : decode cX0_copyFrom 10 = .ok (.aload_n 0, 1) := by decide +kernel
theorem dX0_copyFrom_11 : decode cX0_copyFrom 11 = .ok (.getfield 11, 3) := by decide +kernel
theorem dX0_copyFrom_14 : decode cX0_copyFrom 14 = .ok (.arraylength, 1) := by decide +kernel
theorem dX0_copyFrom_15 : decode cX0_copyFrom 15 = .ok (.invokestatic 15, 3) := by decide +kernel
theorem dX0_copyFrom_18 : decode cX0_copyFrom 18 = .ok (.aload_n 0, 1) := by decide +kernel
theorem dX0_copyFrom_19 : decode cX0_copyFrom 19 = .ok (.aload_n 1, 1) := by decide +kernel
theorem dX0_copyFrom_20 : decode cX0_copyFrom 20 = .ok (.getfield 21, 3) := by decide +kernel
theorem dX0_copyFrom_23 : decode cX0_copyFrom 23 = .ok (.putfield 21, 3) := by decide +kernel
theorem dX0_copyFrom_26 : decode cX0_copyFrom 26 = .ok (.aload_n 0, 1) := by decide +kernel
theorem dX0_copyFrom_27 : decode cX0_copyFrom 27 = .ok (.aload_n 1, 1) := by decide +kernel
theorem dX0_copyFrom_28 : decode cX0_copyFrom 28 = .ok (.getfield 25, 3) := by decide +kernel
theorem dX0_copyFrom_31 : decode cX0_copyFrom 31 = .ok (.putfield 25, 3) := by decide +kernel
theorem dX0_copyFrom_34 : decode cX0_copyFrom 34 = .ok (.return_, 1) := by decide +kernel
theorem dX0_windAtFirst_0 : decode cX0_windAtFirst 0 = .ok (.aload_n 0, 1) := by decide +kernel
theorem dX0_windAtFirst_1 : decode cX0_windAtFirst 1 = .ok (.getfield 11, 3) := by decide +kernel
theorem dX0_windAtFirst_4 : decode cX0_windAtFirst 4 = .ok (.iconst 0, 1) := by decide +kernel
theorem dX0_windAtFirst_5 : decode cX0_windAtFirst 5 = .ok (.iaload, 1) := by decide +kernel
theorem dX0_windAtFirst_6 : decode cX0_windAtFirst 6 = .ok (.ireturn, 1) := by decide +kernel
theorem dX0_wayAtFirst_0 : decode cX0_wayAtFirst 0 = .ok (.aload_n 0, 1) := by decide +kernel
theorem dX0_wayAtFirst_1 : decode cX0_wayAtFirst 1 = .ok (.getfield 11, 3) := by decide +kernel
theorem dX0_wayAtFirst_4 : decode cX0_wayAtFirst 4 = .ok (.iconst 1, 1) := by decide +kernel
theorem dX0_wayAtFirst_5 : decode cX0_wayAtFirst 5 = .ok (.iaload, 1) := by decide +kernel
theorem dX0_wayAtFirst_6 : decode cX0_wayAtFirst 6 = .ok (.ireturn, 1) := by decide +kernel
theorem dX0_tideHours_0 : decode cX0_tideHours 0 = .ok (.aload_n 0, 1) := by decide +kernel
theorem dX0_tideHours_1 : decode cX0_tideHours 1 = .ok (.getfield 11, 3) := by decide +kernel
theorem dX0_tideHours_4 : decode cX0_tideHours 4 = .ok (.iconst 2, 1) := by decide +kernel
theorem dX0_tideHours_5 : decode cX0_tideHours 5 = .ok (.iaload, 1) := by decide +kernel
theorem dX0_tideHours_6 : decode cX0_tideHours 6 = .ok (.ireturn, 1) := by decide +kernel
theorem dX0_countHours_0 : decode cX0_countHours 0 = .ok (.aload_n 0, 1) := by decide +kernel
theorem dX0_countHours_1 : decode cX0_countHours 1 = .ok (.getfield 11, 3) := by decide +kernel
theorem dX0_countHours_4 : decode cX0_countHours 4 = .ok (.iconst 3, 1) := by decide +kernel
theorem dX0_countHours_5 : decode cX0_countHours 5 = .ok (.iaload, 1) := by decide +kernel
theorem dX0_countHours_6 : decode cX0_countHours 6 = .ok (.ireturn, 1) := by decide +kernel
theorem dX0_buoyX_0 : decode cX0_buoyX 0 = .ok (.aload_n 0, 1) := by decide +kernel
theorem dX0_buoyX_1 : decode cX0_buoyX 1 = .ok (.getfield 11, 3) := by decide +kernel
theorem dX0_buoyX_4 : decode cX0_buoyX 4 = .ok (.iconst 4, 1) := by decide +kernel
theorem dX0_buoyX_5 : decode cX0_buoyX 5 = .ok (.iload_n 1, 1) := by decide +kernel
theorem dX0_buoyX_6 : decode cX0_buoyX 6 = .ok (.bipush 8, 2) := by decide +kernel
theorem dX0_buoyX_8 : decode cX0_buoyX 8 = .ok (.imul, 1) := by decide +kernel
theorem dX0_buoyX_9 : decode cX0_buoyX 9 = .ok (.iadd, 1) := by decide +kernel
theorem dX0_buoyX_10 : decode cX0_buoyX 10 = .ok (.iaload, 1) := by decide +kernel
theorem dX0_buoyX_11 : decode cX0_buoyX 11 = .ok (.ireturn, 1) := by decide +kernel
theorem dX0_buoyY_0 : decode cX0_buoyY 0 = .ok (.aload_n 0, 1) := by decide +kernel
theorem dX0_buoyY_1 : decode cX0_buoyY 1 = .ok (.getfield 11, 3) := by decide +kernel
theorem dX0_buoyY_4 : decode cX0_buoyY 4 = .ok (.iconst 4, 1) := by decide +kernel
theorem dX0_buoyY_5 : decode cX0_buoyY 5 = .ok (.iload_n 1, 1) := by decide +kernel
theorem dX0_buoyY_6 : decode cX0_buoyY 6 = .ok (.bipush 8, 2) := by decide +kernel
theorem dX0_buoyY_8 : decode cX0_buoyY 8 = .ok (.imul, 1) := by decide +kernel
theorem dX0_buoyY_9 : decode cX0_buoyY 9 = .ok (.iadd, 1) := by decide +kernel
theorem dX0_buoyY_10 : decode cX0_buoyY 10 = .ok (.iconst 1, 1) := by decide +kernel
theorem dX0_buoyY_11 : decode cX0_buoyY 11 = .ok (.iadd, 1) := by decide +kernel
theorem dX0_buoyY_12 : decode cX0_buoyY 12 = .ok (.iaload, 1) := by decide +kernel
theorem dX0_buoyY_13 : decode cX0_buoyY 13 = .ok (.ireturn, 1) := by decide +kernel
theorem dX0_chain_0 : decode cX0_chain 0 = .ok (.aload_n 0, 1) := by decide +kernel
theorem dX0_chain_1 : decode cX0_chain 1 = .ok (.getfield 11, 3) := by decide +kernel
theorem dX0_chain_4 : decode cX0_chain 4 = .ok (.iconst 4, 1) := by decide +kernel
theorem dX0_chain_5 : decode cX0_chain 5 = .ok (.iload_n 1, 1) := by decide +kernel
theorem dX0_chain_6 : decode cX0_chain 6 = .ok (.bipush 8, 2) := by decide +kernel
theorem dX0_chain_8 : decode cX0_chain 8 = .ok (.imul, 1) := by decide +kernel
theorem dX0_chain_9 : decode cX0_chain 9 = .ok (.iadd, 1) := by decide +kernel
theorem dX0_chain_10 : decode cX0_chain 10 = .ok (.iconst 2, 1) := by decide +kernel
theorem dX0_chain_11 : decode cX0_chain 11 = .ok (.iadd, 1) := by decide +kernel
theorem dX0_chain_12 : decode cX0_chain 12 = .ok (.iaload, 1) := by decide +kernel
theorem dX0_chain_13 : decode cX0_chain 13 = .ok (.ireturn, 1) := by decide +kernel
theorem dX0_likingAtFirst_0 : decode cX0_likingAtFirst 0 = .ok (.aload_n 0, 1) := by decide +kernel
theorem dX0_likingAtFirst_1 : decode cX0_likingAtFirst 1 = .ok (.getfield 11, 3) := by decide +kernel
theorem dX0_likingAtFirst_4 : decode cX0_likingAtFirst 4 = .ok (.iconst 4, 1) := by decide +kernel
theorem dX0_likingAtFirst_5 : decode cX0_likingAtFirst 5 = .ok (.iload_n 1, 1) := by decide +kernel
theorem dX0_likingAtFirst_6 : decode cX0_likingAtFirst 6 = .ok (.bipush 8, 2) := by decide +kernel
theorem dX0_likingAtFirst_8 : decode cX0_likingAtFirst 8 = .ok (.imul, 1) := by decide +kernel
theorem dX0_likingAtFirst_9 : decode cX0_likingAtFirst 9 = .ok (.iadd, 1) := by decide +kernel
theorem dX0_likingAtFirst_10 : decode cX0_likingAtFirst 10 = .ok (.iconst 3, 1) := by decide +kernel
theorem dX0_likingAtFirst_11 : decode cX0_likingAtFirst 11 = .ok (.iadd, 1) := by decide +kernel
theorem dX0_likingAtFirst_12 : decode cX0_likingAtFirst 12 = .ok (.iload_n 2, 1) := by decide +kernel
theorem dX0_likingAtFirst_13 : decode cX0_likingAtFirst 13 = .ok (.iadd, 1) := by decide +kernel
theorem dX0_likingAtFirst_14 : decode cX0_likingAtFirst 14 = .ok (.iaload, 1) := by decide +kernel
theorem dX0_likingAtFirst_15 : decode cX0_likingAtFirst 15 = .ok (.ireturn, 1) := by decide +kernel
theorem dX0_oldAtFirst_0 : decode cX0_oldAtFirst 0 = .ok (.aload_n 0, 1) := by decide +kernel
theorem dX0_oldAtFirst_1 : decode cX0_oldAtFirst 1 = .ok (.getfield 11, 3) := by decide +kernel
theorem dX0_oldAtFirst_4 : decode cX0_oldAtFirst 4 = .ok (.iconst 4, 1) := by decide +kernel
theorem dX0_oldAtFirst_5 : decode cX0_oldAtFirst 5 = .ok (.iload_n 1, 1) := by decide +kernel
theorem dX0_oldAtFirst_6 : decode cX0_oldAtFirst 6 = .ok (.bipush 8, 2) := by decide +kernel
theorem dX0_oldAtFirst_8 : decode cX0_oldAtFirst 8 = .ok (.imul, 1) := by decide +kernel
theorem dX0_oldAtFirst_9 : decode cX0_oldAtFirst 9 = .ok (.iadd, 1) := by decide +kernel
theorem dX0_oldAtFirst_10 : decode cX0_oldAtFirst 10 = .ok (.bipush 6, 2) := by decide +kernel
theorem dX0_oldAtFirst_12 : decode cX0_oldAtFirst 12 = .ok (.iadd, 1) := by decide +kernel
theorem dX0_oldAtFirst_13 : decode cX0_oldAtFirst 13 = .ok (.iaload, 1) := by decide +kernel
theorem dX0_oldAtFirst_14 : decode cX0_oldAtFirst 14 = .ok (.istore_n 2, 1) := by decide +kernel
theorem dX0_oldAtFirst_15 : decode cX0_oldAtFirst 15 = .ok (.iload_n 2, 1) := by decide +kernel
theorem dX0_oldAtFirst_16 : decode cX0_oldAtFirst 16 = .ok (.aload_n 0, 1) := by decide +kernel
theorem dX0_oldAtFirst_17 : decode cX0_oldAtFirst 17 = .ok (.getfield 25, 3) := by decide +kernel
theorem dX0_oldAtFirst_20 : decode cX0_oldAtFirst 20 = .ok (.if_icmp .ge 7, 3) := by decide +kernel
theorem dX0_oldAtFirst_23 : decode cX0_oldAtFirst 23 = .ok (.iload_n 2, 1) := by decide +kernel
theorem dX0_oldAtFirst_24 : decode cX0_oldAtFirst 24 = .ok (.goto 4, 3) := by decide +kernel
theorem dX0_oldAtFirst_27 : decode cX0_oldAtFirst 27 = .ok (.iconst (-1), 1) := by decide +kernel
theorem dX0_oldAtFirst_28 : decode cX0_oldAtFirst 28 = .ok (.ireturn, 1) := by decide +kernel
theorem dX0_barnaclesAtFirst_0 : decode cX0_barnaclesAtFirst 0 = .ok (.aload_n 0, 1) := by decide +kernel
theorem dX0_barnaclesAtFirst_1 : decode cX0_barnaclesAtFirst 1 = .ok (.getfield 11, 3) := by decide +kernel
theorem dX0_barnaclesAtFirst_4 : decode cX0_barnaclesAtFirst 4 = .ok (.iconst 4, 1) := by decide +kernel
theorem dX0_barnaclesAtFirst_5 : decode cX0_barnaclesAtFirst 5 = .ok (.iload_n 1, 1) := by decide +kernel
theorem dX0_barnaclesAtFirst_6 : decode cX0_barnaclesAtFirst 6 = .ok (.bipush 8, 2) := by decide +kernel
theorem dX0_barnaclesAtFirst_8 : decode cX0_barnaclesAtFirst 8 = .ok (.imul, 1) := by decide +kernel
theorem dX0_barnaclesAtFirst_9 : decode cX0_barnaclesAtFirst 9 = .ok (.iadd, 1) := by decide +kernel
theorem dX0_barnaclesAtFirst_10 : decode cX0_barnaclesAtFirst 10 = .ok (.bipush 7, 2) := by decide +kernel
theorem dX0_barnaclesAtFirst_12 : decode cX0_barnaclesAtFirst 12 = .ok (.iadd, 1) := by decide +kernel
theorem dX0_barnaclesAtFirst_13 : decode cX0_barnaclesAtFirst 13 = .ok (.iaload, 1) := by decide +kernel
theorem dX0_barnaclesAtFirst_14 : decode cX0_barnaclesAtFirst 14 = .ok (.ireturn, 1) := by decide +kernel
theorem dX0_boatX_0 : decode cX0_boatX 0 = .ok (.aload_n 0, 1) := by decide +kernel
theorem dX0_boatX_1 : decode cX0_boatX 1 = .ok (.getfield 11, 3) := by decide +kernel
theorem dX0_boatX_4 : decode cX0_boatX 4 = .ok (.bipush 68, 2) := by decide +kernel
theorem dX0_boatX_6 : decode cX0_boatX 6 = .ok (.iload_n 1, 1) := by decide +kernel
theorem dX0_boatX_7 : decode cX0_boatX 7 = .ok (.iconst 4, 1) := by decide +kernel
theorem dX0_boatX_8 : decode cX0_boatX 8 = .ok (.imul, 1) := by decide +kernel
theorem dX0_boatX_9 : decode cX0_boatX 9 = .ok (.iadd, 1) := by decide +kernel
theorem dX0_boatX_10 : decode cX0_boatX 10 = .ok (.iaload, 1) := by decide +kernel
theorem dX0_boatX_11 : decode cX0_boatX 11 = .ok (.ireturn, 1) := by decide +kernel
theorem dX0_boatY_0 : decode cX0_boatY 0 = .ok (.aload_n 0, 1) := by decide +kernel
theorem dX0_boatY_1 : decode cX0_boatY 1 = .ok (.getfield 11, 3) := by decide +kernel
theorem dX0_boatY_4 : decode cX0_boatY 4 = .ok (.bipush 68, 2) := by decide +kernel
theorem dX0_boatY_6 : decode cX0_boatY 6 = .ok (.iload_n 1, 1) := by decide +kernel
theorem dX0_boatY_7 : decode cX0_boatY 7 = .ok (.iconst 4, 1) := by decide +kernel
theorem dX0_boatY_8 : decode cX0_boatY 8 = .ok (.imul, 1) := by decide +kernel
theorem dX0_boatY_9 : decode cX0_boatY 9 = .ok (.iadd, 1) := by decide +kernel
theorem dX0_boatY_10 : decode cX0_boatY 10 = .ok (.iconst 1, 1) := by decide +kernel
theorem dX0_boatY_11 : decode cX0_boatY 11 = .ok (.iadd, 1) := by decide +kernel
theorem dX0_boatY_12 : decode cX0_boatY 12 = .ok (.iaload, 1) := by decide +kernel
theorem dX0_boatY_13 : decode cX0_boatY 13 = .ok (.ireturn, 1) := by decide +kernel
theorem dX0_speed_0 : decode cX0_speed 0 = .ok (.aload_n 0, 1) := by decide +kernel
theorem dX0_speed_1 : decode cX0_speed 1 = .ok (.getfield 11, 3) := by decide +kernel
theorem dX0_speed_4 : decode cX0_speed 4 = .ok (.bipush 68, 2) := by decide +kernel
theorem dX0_speed_6 : decode cX0_speed 6 = .ok (.iload_n 1, 1) := by decide +kernel
theorem dX0_speed_7 : decode cX0_speed 7 = .ok (.iconst 4, 1) := by decide +kernel
theorem dX0_speed_8 : decode cX0_speed 8 = .ok (.imul, 1) := by decide +kernel
theorem dX0_speed_9 : decode cX0_speed 9 = .ok (.iadd, 1) := by decide +kernel
theorem dX0_speed_10 : decode cX0_speed 10 = .ok (.iconst 2, 1) := by decide +kernel
theorem dX0_speed_11 : decode cX0_speed 11 = .ok (.iadd, 1) := by decide +kernel
theorem dX0_speed_12 : decode cX0_speed 12 = .ok (.iaload, 1) := by decide +kernel
theorem dX0_speed_13 : decode cX0_speed 13 = .ok (.ireturn, 1) := by decide +kernel
theorem dX0_voice_0 : decode cX0_voice 0 = .ok (.aload_n 0, 1) := by decide +kernel
theorem dX0_voice_1 : decode cX0_voice 1 = .ok (.getfield 11, 3) := by decide +kernel
theorem dX0_voice_4 : decode cX0_voice 4 = .ok (.bipush 68, 2) := by decide +kernel
theorem dX0_voice_6 : decode cX0_voice 6 = .ok (.iload_n 1, 1) := by decide +kernel
theorem dX0_voice_7 : decode cX0_voice 7 = .ok (.iconst 4, 1) := by decide +kernel
theorem dX0_voice_8 : decode cX0_voice 8 = .ok (.imul, 1) := by decide +kernel
theorem dX0_voice_9 : decode cX0_voice 9 = .ok (.iadd, 1) := by decide +kernel
theorem dX0_voice_10 : decode cX0_voice 10 = .ok (.iconst 3, 1) := by decide +kernel
theorem dX0_voice_11 : decode cX0_voice 11 = .ok (.iadd, 1) := by decide +kernel
theorem dX0_voice_12 : decode cX0_voice 12 = .ok (.iaload, 1) := by decide +kernel
theorem dX0_voice_13 : decode cX0_voice 13 = .ok (.ireturn, 1) := by decide +kernel
theorem dX0_faultOf_0 : decode cX0_faultOf 0 = .ok (.aload_n 0, 1) := by decide +kernel
theorem dX0_faultOf_1 : decode cX0_faultOf 1 = .ok (.iconst 0, 1) := by decide +kernel
theorem dX0_faultOf_2 : decode cX0_faultOf 2 = .ok (.putfield 21, 3) := by decide +kernel
theorem dX0_faultOf_5 : decode cX0_faultOf 5 = .ok (.aload_n 0, 1) := by decide +kernel
theorem dX0_faultOf_6 : decode cX0_faultOf 6 = .ok (.iconst 0, 1) := by decide +kernel
theorem dX0_faultOf_7 : decode cX0_faultOf 7 = .ok (.putfield 25, 3) := by decide +kernel
theorem dX0_faultOf_10 : decode cX0_faultOf 10 = .ok (.aload_n 0, 1) := by decide +kernel
theorem dX0_faultOf_11 : decode cX0_faultOf 11 = .ok (.iconst 0, 1) := by decide +kernel
theorem dX0_faultOf_12 : decode cX0_faultOf 12 = .ok (.putfield 28, 3) := by decide +kernel
theorem dX0_faultOf_15 : decode cX0_faultOf 15 = .ok (.aload_n 0, 1) := by decide +kernel
theorem dX0_faultOf_16 : decode cX0_faultOf 16 = .ok (.iconst 0, 1) := by decide +kernel
theorem dX0_faultOf_17 : decode cX0_faultOf 17 = .ok (.iconst 0, 1) := by decide +kernel
theorem dX0_faultOf_18 : decode cX0_faultOf 18 = .ok (.invokevirtual 32, 3) := by decide +kernel
theorem dX0_faultOf_21 : decode cX0_faultOf 21 = .ok (.aload_n 1, 1) := by decide +kernel
theorem dX0_faultOf_22 : decode cX0_faultOf 22 = .ok (.invokevirtual 36, 3) := by decide +kernel
theorem dX0_faultOf_25 : decode cX0_faultOf 25 = .ok (.iconst 0, 1) := by decide +kernel
theorem dX0_faultOf_26 : decode cX0_faultOf 26 = .ok (.istore_n 2, 1) := by decide +kernel
theorem dX0_faultOf_27 : decode cX0_faultOf 27 = .ok (.iload_n 2, 1) := by decide +kernel
theorem dX0_faultOf_28 : decode cX0_faultOf 28 = .ok (.sipush 240, 3) := by decide +kernel
theorem dX0_faultOf_31 : decode cX0_faultOf 31 = .ok (.if_icmp .ge 26, 3) := by decide +kernel
theorem dX0_faultOf_34 : decode cX0_faultOf 34 = .ok (.aload_n 0, 1) := by decide +kernel
theorem dX0_faultOf_35 : decode cX0_faultOf 35 = .ok (.aload_n 1, 1) := by decide +kernel
theorem dX0_faultOf_36 : decode cX0_faultOf 36 = .ok (.invokevirtual 41, 3) := by decide +kernel
theorem dX0_faultOf_39 : decode cX0_faultOf 39 = .ok (.aload_n 1, 1) := by decide +kernel
theorem dX0_faultOf_40 : decode cX0_faultOf 40 = .ok (.bipush 59, 2) := by decide +kernel
theorem dX0_faultOf_42 : decode cX0_faultOf 42 = .ok (.invokevirtual 45, 3) := by decide +kernel
theorem dX0_faultOf_45 : decode cX0_faultOf 45 = .ok (.ifCond .ne 6, 3) := by decide +kernel
theorem dX0_faultOf_48 : decode cX0_faultOf 48 = .ok (.goto 9, 3) := by decide +kernel
theorem dX0_faultOf_51 : decode cX0_faultOf 51 = .ok (.iinc 2 1, 3) := by decide +kernel
theorem dX0_faultOf_54 : decode cX0_faultOf 54 = .ok (.goto (-27), 3) := by decide +kernel
theorem dX0_faultOf_57 : decode cX0_faultOf 57 = .ok (.aload_n 1, 1) := by decide +kernel
theorem dX0_faultOf_58 : decode cX0_faultOf 58 = .ok (.invokevirtual 49, 3) := by decide +kernel
theorem dX0_faultOf_61 : decode cX0_faultOf 61 = .ok (.aload_n 1, 1) := by decide +kernel
theorem dX0_faultOf_62 : decode cX0_faultOf 62 = .ok (.invokevirtual 52, 3) := by decide +kernel
theorem dX0_faultOf_65 : decode cX0_faultOf 65 = .ok (.ifCond .eq 18, 3) := by decide +kernel
theorem dX0_faultOf_68 : decode cX0_faultOf 68 = .ok (.aload_n 0, 1) := by decide +kernel
theorem dX0_faultOf_69 : decode cX0_faultOf 69 = .ok (.invokevirtual 56, 3) := by decide +kernel
theorem dX0_faultOf_72 : decode cX0_faultOf 72 = .ok (.ifCond .ne 11, 3) := by decide +kernel
theorem dX0_faultOf_75 : decode cX0_faultOf 75 = .ok (.aload_n 1, 1) := by decide +kernel
theorem dX0_faultOf_76 : decode cX0_faultOf 76 = .ok (.aload_n 1, 1) := by decide +kernel
theorem dX0_faultOf_77 : decode cX0_faultOf 77 = .ok (.getfield 59, 3) := by decide +kernel
theorem dX0_faultOf_80 : decode cX0_faultOf 80 = .ok (.invokevirtual 62, 3) := by decide +kernel
theorem dX0_faultOf_83 : decode cX0_faultOf 83 = .ok (.aload_n 1, 1) := by decide +kernel
theorem dX0_faultOf_84 : decode cX0_faultOf 84 = .ok (.invokevirtual 66, 3) := by decide +kernel
theorem dX0_faultOf_87 : decode cX0_faultOf 87 = .ok (.ireturn, 1) := by decide +kernel
theorem dX0_readClause_0 : decode cX0_readClause 0 = .ok (.ldc 70, 2) := by decide +kernel
theorem dX0_readClause_2 : decode cX0_readClause 2 = .ok (.aload_n 1, 1) := by decide +kernel
theorem dX0_readClause_3 : decode cX0_readClause 3 = .ok (.invokevirtual 72, 3) := by decide +kernel
theorem dX0_readClause_6 : decode cX0_readClause 6 = .ok (.invokestatic 75, 3) := by decide +kernel
theorem dX0_readClause_9 : decode cX0_readClause 9 = .ok (.istore_n 2, 1) := by decide +kernel
theorem dX0_readClause_10 : decode cX0_readClause 10 = .ok (.iload_n 2, 1) := by decide +kernel
theorem dX0_readClause_11 : decode cX0_readClause 11 = .ok (.ifCond .lt 11, 3) := by decide +kernel
theorem dX0_readClause_14 : decode cX0_readClause 14 = .ok (.aload_n 0, 1) := by decide +kernel
theorem dX0_readClause_15 : decode cX0_readClause 15 = .ok (.iload_n 2, 1) := by decide +kernel
theorem dX0_readClause_16 : decode cX0_readClause 16 = .ok (.invokevirtual 79, 3) := by decide +kernel
theorem dX0_readClause_19 : decode cX0_readClause 19 = .ok (.ifCond .ne 8, 3) := by decide +kernel
theorem dX0_readClause_22 : decode cX0_readClause 22 = .ok (.aload_n 1, 1) := by decide +kernel
theorem dX0_readClause_23 : decode cX0_readClause 23 = .ok (.invokevirtual 82, 3) := by decide +kernel
theorem dX0_readClause_26 : decode cX0_readClause 26 = .ok (.return_, 1) := by decide +kernel
theorem dX0_readClause_27 : decode cX0_readClause 27 = .ok (.aload_n 1, 1) := by decide +kernel
theorem dX0_readClause_28 : decode cX0_readClause 28 = .ok (.invokevirtual 85, 3) := by decide +kernel
theorem dX0_readClause_31 : decode cX0_readClause 31 = .ok (.aload_n 0, 1) := by decide +kernel
theorem dX0_readClause_32 : decode cX0_readClause 32 = .ok (.iload_n 2, 1) := by decide +kernel
theorem dX0_readClause_33 : decode cX0_readClause 33 = .ok (.invokevirtual 88, 3) := by decide +kernel
theorem dX0_readClause_36 : decode cX0_readClause 36 = .ok (.istore_n 3, 1) := by decide +kernel
theorem dX0_readClause_37 : decode cX0_readClause 37 = .ok (.iload_n 2, 1) := by decide +kernel
theorem dX0_readClause_38 : decode cX0_readClause 38 = .ok (.invokestatic 92, 3) := by decide +kernel
theorem dX0_readClause_41 : decode cX0_readClause 41 = .ok (.astore 4, 2) := by decide +kernel
theorem dX0_readClause_43 : decode cX0_readClause 43 = .ok (.iconst 0, 1) := by decide +kernel
theorem dX0_readClause_44 : decode cX0_readClause 44 = .ok (.istore 5, 2) := by decide +kernel
theorem dX0_readClause_46 : decode cX0_readClause 46 = .ok (.iconst 0, 1) := by decide +kernel
theorem dX0_readClause_47 : decode cX0_readClause 47 = .ok (.istore 6, 2) := by decide +kernel
theorem dX0_readClause_49 : decode cX0_readClause 49 = .ok (.iload 6, 2) := by decide +kernel
theorem dX0_readClause_51 : decode cX0_readClause 51 = .ok (.aload 4, 2) := by decide +kernel
theorem dX0_readClause_53 : decode cX0_readClause 53 = .ok (.invokevirtual 96, 3) := by decide +kernel
theorem dX0_readClause_56 : decode cX0_readClause 56 = .ok (.if_icmp .gt 98, 3) := by decide +kernel
theorem dX0_readClause_59 : decode cX0_readClause 59 = .ok (.aload_n 1, 1) := by decide +kernel
theorem dX0_readClause_60 : decode cX0_readClause 60 = .ok (.invokevirtual 52, 3) := by decide +kernel
theorem dX0_readClause_63 : decode cX0_readClause 63 = .ok (.ifCond .eq 91, 3) := by decide +kernel
theorem dX0_readClause_66 : decode cX0_readClause 66 = .ok (.aload 4, 2) := by decide +kernel
theorem dX0_readClause_68 : decode cX0_readClause 68 = .ok (.aload_n 1, 1) := by decide +kernel
theorem dX0_readClause_69 : decode cX0_readClause 69 = .ok (.invokevirtual 72, 3) := by decide +kernel
theorem dX0_readClause_72 : decode cX0_readClause 72 = .ok (.invokestatic 75, 3) := by decide +kernel
theorem dX0_readClause_75 : decode cX0_readClause 75 = .ok (.istore 7, 2) := by decide +kernel
theorem dX0_readClause_77 : decode cX0_readClause 77 = .ok (.iload 7, 2) := by decide +kernel
theorem dX0_readClause_79 : decode cX0_readClause 79 = .ok (.ifCond .ge 4, 3) := by decide +kernel
theorem dX0_readClause_82 : decode cX0_readClause 82 = .ok (.return_, 1) := by decide +kernel
theorem dX0_readClause_83 : decode cX0_readClause 83 = .ok (.iload 5, 2) := by decide +kernel
theorem dX0_readClause_85 : decode cX0_readClause 85 = .ok (.iload 7, 2) := by decide +kernel
theorem dX0_readClause_87 : decode cX0_readClause 87 = .ok (.ishr, 1) := by decide +kernel
theorem dX0_readClause_88 : decode cX0_readClause 88 = .ok (.iconst 1, 1) := by decide +kernel
theorem dX0_readClause_89 : decode cX0_readClause 89 = .ok (.iand, 1) := by decide +kernel
theorem dX0_readClause_90 : decode cX0_readClause 90 = .ok (.ifCond .eq 8, 3) := by decide +kernel
theorem dX0_readClause_93 : decode cX0_readClause 93 = .ok (.aload_n 1, 1) := by decide +kernel
theorem dX0_readClause_94 : decode cX0_readClause 94 = .ok (.invokevirtual 82, 3) := by decide +kernel
theorem dX0_readClause_97 : decode cX0_readClause 97 = .ok (.return_, 1) := by decide +kernel
theorem dX0_readClause_98 : decode cX0_readClause 98 = .ok (.iload 5, 2) := by decide +kernel
theorem dX0_readClause_100 : decode cX0_readClause 100 = .ok (.iconst 1, 1) := by decide +kernel
theorem dX0_readClause_101 : decode cX0_readClause 101 = .ok (.iload 7, 2) := by decide +kernel
theorem dX0_readClause_103 : decode cX0_readClause 103 = .ok (.ishl, 1) := by decide +kernel
theorem dX0_readClause_104 : decode cX0_readClause 104 = .ok (.ior, 1) := by decide +kernel
theorem dX0_readClause_105 : decode cX0_readClause 105 = .ok (.istore 5, 2) := by decide +kernel
theorem dX0_readClause_107 : decode cX0_readClause 107 = .ok (.aload_n 1, 1) := by decide +kernel
theorem dX0_readClause_108 : decode cX0_readClause 108 = .ok (.invokevirtual 85, 3) := by decide +kernel
theorem dX0_readClause_111 : decode cX0_readClause 111 = .ok (.aload_n 0, 1) := by decide +kernel
theorem dX0_readClause_112 : decode cX0_readClause 112 = .ok (.getfield 11, 3) := by decide +kernel
theorem dX0_readClause_115 : decode cX0_readClause 115 = .ok (.iload_n 3, 1) := by decide +kernel
theorem dX0_readClause_116 : decode cX0_readClause 116 = .ok (.iload 7, 2) := by decide +kernel
theorem dX0_readClause_118 : decode cX0_readClause 118 = .ok (.iadd, 1) := by decide +kernel
theorem dX0_readClause_119 : decode cX0_readClause 119 = .ok (.aload_n 1, 1) := by decide +kernel
theorem dX0_readClause_120 : decode cX0_readClause 120 = .ok (.getstatic 100, 3) := by decide +kernel
theorem dX0_readClause_123 : decode cX0_readClause 123 = .ok (.getstatic 103, 3) := by decide +kernel
theorem dX0_readClause_126 : decode cX0_readClause 126 = .ok (.iload_n 2, 1) := by decide +kernel
theorem dX0_readClause_127 : decode cX0_readClause 127 = .ok (.iaload, 1) := by decide +kernel
theorem dX0_readClause_128 : decode cX0_readClause 128 = .ok (.iload 7, 2) := by decide +kernel
theorem dX0_readClause_130 : decode cX0_readClause 130 = .ok (.iadd, 1) := by decide +kernel
theorem dX0_readClause_131 : decode cX0_readClause 131 = .ok (.iaload, 1) := by decide +kernel
theorem dX0_readClause_132 : decode cX0_readClause 132 = .ok (.getstatic 106, 3) := by decide +kernel
theorem dX0_readClause_135 : decode cX0_readClause 135 = .ok (.getstatic 103, 3) := by decide +kernel
theorem dX0_readClause_138 : decode cX0_readClause 138 = .ok (.iload_n 2, 1) := by decide +kernel
theorem dX0_readClause_139 : decode cX0_readClause 139 = .ok (.iaload, 1) := by decide +kernel
theorem dX0_readClause_140 : decode cX0_readClause 140 = .ok (.iload 7, 2) := by decide +kernel
theorem dX0_readClause_142 : decode cX0_readClause 142 = .ok (.iadd, 1) := by decide +kernel
theorem dX0_readClause_143 : decode cX0_readClause 143 = .ok (.iaload, 1) := by decide +kernel
theorem dX0_readClause_144 : decode cX0_readClause 144 = .ok (.invokevirtual 109, 3) := by decide +kernel
theorem dX0_readClause_147 : decode cX0_readClause 147 = .ok (.iastore, 1) := by decide +kernel
theorem dX0_readClause_148 : decode cX0_readClause 148 = .ok (.iinc 6 1, 3) := by decide +kernel
theorem dX0_readClause_151 : decode cX0_readClause 151 = .ok (.goto (-102), 3) := by decide +kernel
theorem dX0_readClause_154 : decode cX0_readClause 154 = .ok (.return_, 1) := by decide +kernel
theorem dX0_hasRoomFor_0 : decode cX0_hasRoomFor 0 = .ok (.iload_n 1, 1) := by decide +kernel
theorem dX0_hasRoomFor_1 : decode cX0_hasRoomFor 1 = .ok (.ifCond .ne 16, 3) := by decide +kernel
theorem dX0_hasRoomFor_4 : decode cX0_hasRoomFor 4 = .ok (.aload_n 0, 1) := by decide +kernel
theorem dX0_hasRoomFor_5 : decode cX0_hasRoomFor 5 = .ok (.getfield 28, 3) := by decide +kernel
theorem dX0_hasRoomFor_8 : decode cX0_hasRoomFor 8 = .ok (.ifCond .ne 7, 3) := by decide +kernel
theorem dX0_hasRoomFor_11 : decode cX0_hasRoomFor 11 = .ok (.iconst 1, 1) := by decide +kernel
theorem dX0_hasRoomFor_12 : decode cX0_hasRoomFor 12 = .ok (.goto 4, 3) := by decide +kernel
theorem dX0_hasRoomFor_15 : decode cX0_hasRoomFor 15 = .ok (.iconst 0, 1) := by decide +kernel
theorem dX0_hasRoomFor_16 : decode cX0_hasRoomFor 16 = .ok (.ireturn, 1) := by decide +kernel
theorem dX0_hasRoomFor_17 : decode cX0_hasRoomFor 17 = .ok (.iload_n 1, 1) := by decide +kernel
theorem dX0_hasRoomFor_18 : decode cX0_hasRoomFor 18 = .ok (.iconst 1, 1) := by decide +kernel
theorem dX0_hasRoomFor_19 : decode cX0_hasRoomFor 19 = .ok (.if_icmp .ne 20, 3) := by decide +kernel
theorem dX0_hasRoomFor_22 : decode cX0_hasRoomFor 22 = .ok (.aload_n 0, 1) := by decide +kernel
theorem dX0_hasRoomFor_23 : decode cX0_hasRoomFor 23 = .ok (.getfield 21, 3) := by decide +kernel
theorem dX0_hasRoomFor_26 : decode cX0_hasRoomFor 26 = .ok (.bipush 8, 2) := by decide +kernel
theorem dX0_hasRoomFor_28 : decode cX0_hasRoomFor 28 = .ok (.if_icmp .ge 7, 3) := by decide +kernel
theorem dX0_hasRoomFor_31 : decode cX0_hasRoomFor 31 = .ok (.iconst 1, 1) := by decide +kernel
theorem dX0_hasRoomFor_32 : decode cX0_hasRoomFor 32 = .ok (.goto 20, 3) := by decide +kernel
theorem dX0_hasRoomFor_35 : decode cX0_hasRoomFor 35 = .ok (.iconst 0, 1) := by decide +kernel
theorem dX0_hasRoomFor_36 : decode cX0_hasRoomFor 36 = .ok (.goto 16, 3) := by decide +kernel
theorem dX0_hasRoomFor_39 : decode cX0_hasRoomFor 39 = .ok (.aload_n 0, 1) := by decide +kernel
theorem dX0_hasRoomFor_40 : decode cX0_hasRoomFor 40 = .ok (.getfield 25, 3) := by decide +kernel
theorem dX0_hasRoomFor_43 : decode cX0_hasRoomFor 43 = .ok (.iconst 3, 1) := by decide +kernel
theorem dX0_hasRoomFor_44 : decode cX0_hasRoomFor 44 = .ok (.if_icmp .ge 7, 3) := by decide +kernel
theorem dX0_hasRoomFor_47 : decode cX0_hasRoomFor 47 = .ok (.iconst 1, 1) := by decide +kernel
theorem dX0_hasRoomFor_48 : decode cX0_hasRoomFor 48 = .ok (.goto 4, 3) := by decide +kernel
theorem dX0_hasRoomFor_51 : decode cX0_hasRoomFor 51 = .ok (.iconst 0, 1) := by decide +kernel
theorem dX0_hasRoomFor_52 : decode cX0_hasRoomFor 52 = .ok (.ireturn, 1) := by decide +kernel
theorem dX0_beginClause_0 : decode cX0_beginClause 0 = .ok (.iconst 0, 1) := by decide +kernel
theorem dX0_beginClause_1 : decode cX0_beginClause 1 = .ok (.istore_n 2, 1) := by decide +kernel
theorem dX0_beginClause_2 : decode cX0_beginClause 2 = .ok (.iload_n 1, 1) := by decide +kernel
theorem dX0_beginClause_3 : decode cX0_beginClause 3 = .ok (.ifCond .ne 11, 3) := by decide +kernel
theorem dX0_beginClause_6 : decode cX0_beginClause 6 = .ok (.aload_n 0, 1) := by decide +kernel
theorem dX0_beginClause_7 : decode cX0_beginClause 7 = .ok (.iconst 1, 1) := by decide +kernel
theorem dX0_beginClause_8 : decode cX0_beginClause 8 = .ok (.putfield 28, 3) := by decide +kernel
theorem dX0_beginClause_11 : decode cX0_beginClause 11 = .ok (.goto 51, 3) := by decide +kernel
theorem dX0_beginClause_14 : decode cX0_beginClause 14 = .ok (.iload_n 1, 1) := by decide +kernel
theorem dX0_beginClause_15 : decode cX0_beginClause 15 = .ok (.iconst 1, 1) := by decide +kernel
theorem dX0_beginClause_16 : decode cX0_beginClause 16 = .ok (.if_icmp .ne 26, 3) := by decide +kernel
theorem dX0_beginClause_19 : decode cX0_beginClause 19 = .ok (.iconst 4, 1) := by decide +kernel
theorem dX0_beginClause_20 : decode cX0_beginClause 20 = .ok (.aload_n 0, 1) := by decide +kernel
theorem dX0_beginClause_21 : decode cX0_beginClause 21 = .ok (.getfield 21, 3) := by decide +kernel
theorem dX0_beginClause_24 : decode cX0_beginClause 24 = .ok (.bipush 8, 2) := by decide +kernel
theorem dX0_beginClause_26 : decode cX0_beginClause 26 = .ok (.imul, 1) := by decide +kernel
theorem dX0_beginClause_27 : decode cX0_beginClause 27 = .ok (.iadd, 1) := by decide +kernel
theorem dX0_beginClause_28 : decode cX0_beginClause 28 = .ok (.istore_n 2, 1) := by decide +kernel
theorem dX0_beginClause_29 : decode cX0_beginClause 29 = .ok (.aload_n 0, 1) := by decide +kernel
theorem dX0_beginClause_30 : decode cX0_beginClause 30 = .ok (.dup, 1) := by decide +kernel
theorem dX0_beginClause_31 : decode cX0_beginClause 31 = .ok (.getfield 21, 3) := by decide +kernel
theorem dX0_beginClause_34 : decode cX0_beginClause 34 = .ok (.iconst 1, 1) := by decide +kernel
theorem dX0_beginClause_35 : decode cX0_beginClause 35 = .ok (.iadd, 1) := by decide +kernel
theorem dX0_beginClause_36 : decode cX0_beginClause 36 = .ok (.putfield 21, 3) := by decide +kernel
theorem dX0_beginClause_39 : decode cX0_beginClause 39 = .ok (.goto 23, 3) := by decide +kernel
theorem dX0_beginClause_42 : decode cX0_beginClause 42 = .ok (.bipush 68, 2) := by decide +kernel
theorem dX0_beginClause_44 : decode cX0_beginClause 44 = .ok (.aload_n 0, 1) := by decide +kernel
theorem dX0_beginClause_45 : decode cX0_beginClause 45 = .ok (.getfield 25, 3) := by decide +kernel
theorem dX0_beginClause_48 : decode cX0_beginClause 48 = .ok (.iconst 4, 1) := by decide +kernel
theorem dX0_beginClause_49 : decode cX0_beginClause 49 = .ok (.imul, 1) := by decide +kernel
theorem dX0_beginClause_50 : decode cX0_beginClause 50 = .ok (.iadd, 1) := by decide +kernel
theorem dX0_beginClause_51 : decode cX0_beginClause 51 = .ok (.istore_n 2, 1) := by decide +kernel
theorem dX0_beginClause_52 : decode cX0_beginClause 52 = .ok (.aload_n 0, 1) := by decide +kernel
theorem dX0_beginClause_53 : decode cX0_beginClause 53 = .ok (.dup, 1) := by decide +kernel
theorem dX0_beginClause_54 : decode cX0_beginClause 54 = .ok (.getfield 25, 3) := by decide +kernel
theorem dX0_beginClause_57 : decode cX0_beginClause 57 = .ok (.iconst 1, 1) := by decide +kernel
theorem dX0_beginClause_58 : decode cX0_beginClause 58 = .ok (.iadd, 1) := by decide +kernel
theorem dX0_beginClause_59 : decode cX0_beginClause 59 = .ok (.putfield 25, 3) := by decide +kernel
theorem dX0_beginClause_62 : decode cX0_beginClause 62 = .ok (.aload_n 0, 1) := by decide +kernel
theorem dX0_beginClause_63 : decode cX0_beginClause 63 = .ok (.iload_n 1, 1) := by decide +kernel
theorem dX0_beginClause_64 : decode cX0_beginClause 64 = .ok (.iload_n 2, 1) := by decide +kernel
theorem dX0_beginClause_65 : decode cX0_beginClause 65 = .ok (.invokevirtual 32, 3) := by decide +kernel
theorem dX0_beginClause_68 : decode cX0_beginClause 68 = .ok (.iload_n 2, 1) := by decide +kernel
theorem dX0_beginClause_69 : decode cX0_beginClause 69 = .ok (.ireturn, 1) := by decide +kernel
theorem dX0_setUsual_0 : decode cX0_setUsual 0 = .ok (.iload_n 1, 1) := by decide +kernel
theorem dX0_setUsual_1 : decode cX0_setUsual 1 = .ok (.invokestatic 92, 3) := by decide +kernel
theorem dX0_setUsual_4 : decode cX0_setUsual 4 = .ok (.invokevirtual 96, 3) := by decide +kernel
theorem dX0_setUsual_7 : decode cX0_setUsual 7 = .ok (.istore_n 3, 1) := by decide +kernel
theorem dX0_setUsual_8 : decode cX0_setUsual 8 = .ok (.iconst 0, 1) := by decide +kernel
theorem dX0_setUsual_9 : decode cX0_setUsual 9 = .ok (.istore 4, 2) := by decide +kernel
theorem dX0_setUsual_11 : decode cX0_setUsual 11 = .ok (.iload 4, 2) := by decide +kernel
theorem dX0_setUsual_13 : decode cX0_setUsual 13 = .ok (.iload_n 3, 1) := by decide +kernel
theorem dX0_setUsual_14 : decode cX0_setUsual 14 = .ok (.if_icmp .ge 30, 3) := by decide +kernel
theorem dX0_setUsual_17 : decode cX0_setUsual 17 = .ok (.aload_n 0, 1) := by decide +kernel
theorem dX0_setUsual_18 : decode cX0_setUsual 18 = .ok (.getfield 11, 3) := by decide +kernel
theorem dX0_setUsual_21 : decode cX0_setUsual 21 = .ok (.iload_n 2, 1) := by decide +kernel
theorem dX0_setUsual_22 : decode cX0_setUsual 22 = .ok (.iload 4, 2) := by decide +kernel
theorem dX0_setUsual_24 : decode cX0_setUsual 24 = .ok (.iadd, 1) := by decide +kernel
theorem dX0_setUsual_25 : decode cX0_setUsual 25 = .ok (.getstatic 113, 3) := by decide +kernel
theorem dX0_setUsual_28 : decode cX0_setUsual 28 = .ok (.getstatic 103, 3) := by decide +kernel
theorem dX0_setUsual_31 : decode cX0_setUsual 31 = .ok (.iload_n 1, 1) := by decide +kernel
theorem dX0_setUsual_32 : decode cX0_setUsual 32 = .ok (.iaload, 1) := by decide +kernel
theorem dX0_setUsual_33 : decode cX0_setUsual 33 = .ok (.iload 4, 2) := by decide +kernel
theorem dX0_setUsual_35 : decode cX0_setUsual 35 = .ok (.iadd, 1) := by decide +kernel
theorem dX0_setUsual_36 : decode cX0_setUsual 36 = .ok (.iaload, 1) := by decide +kernel
theorem dX0_setUsual_37 : decode cX0_setUsual 37 = .ok (.iastore, 1) := by decide +kernel
theorem dX0_setUsual_38 : decode cX0_setUsual 38 = .ok (.iinc 4 1, 3) := by decide +kernel
theorem dX0_setUsual_41 : decode cX0_setUsual 41 = .ok (.goto (-30), 3) := by decide +kernel
theorem dX0_setUsual_44 : decode cX0_setUsual 44 = .ok (.return_, 1) := by decide +kernel
theorem dX0_isWhole_0 : decode cX0_isWhole 0 = .ok (.aload_n 0, 1) := by decide +kernel
theorem dX0_isWhole_1 : decode cX0_isWhole 1 = .ok (.getfield 21, 3) := by decide +kernel
theorem dX0_isWhole_4 : decode cX0_isWhole 4 = .ok (.iconst 1, 1) := by decide +kernel
theorem dX0_isWhole_5 : decode cX0_isWhole 5 = .ok (.if_icmp .lt 11, 3) := by decide +kernel
theorem dX0_isWhole_8 : decode cX0_isWhole 8 = .ok (.aload_n 0, 1) := by decide +kernel
theorem dX0_isWhole_9 : decode cX0_isWhole 9 = .ok (.getfield 25, 3) := by decide +kernel
theorem dX0_isWhole_12 : decode cX0_isWhole 12 = .ok (.iconst 2, 1) := by decide +kernel
theorem dX0_isWhole_13 : decode cX0_isWhole 13 = .ok (.if_icmp .ge 5, 3) := by decide +kernel
theorem dX0_isWhole_16 : decode cX0_isWhole 16 = .ok (.iconst 0, 1) := by decide +kernel
theorem dX0_isWhole_17 : decode cX0_isWhole 17 = .ok (.ireturn, 1) := by decide +kernel
theorem dX0_isWhole_18 : decode cX0_isWhole 18 = .ok (.iconst 0, 1) := by decide +kernel
theorem dX0_isWhole_19 : decode cX0_isWhole 19 = .ok (.istore_n 1, 1) := by decide +kernel
theorem dX0_isWhole_20 : decode cX0_isWhole 20 = .ok (.iload_n 1, 1) := by decide +kernel
theorem dX0_isWhole_21 : decode cX0_isWhole 21 = .ok (.aload_n 0, 1) := by decide +kernel
theorem dX0_isWhole_22 : decode cX0_isWhole 22 = .ok (.getfield 21, 3) := by decide +kernel
theorem dX0_isWhole_25 : decode cX0_isWhole 25 = .ok (.if_icmp .ge 50, 3) := by decide +kernel
theorem dX0_isWhole_28 : decode cX0_isWhole 28 = .ok (.iconst 0, 1) := by decide +kernel
theorem dX0_isWhole_29 : decode cX0_isWhole 29 = .ok (.istore_n 2, 1) := by decide +kernel
theorem dX0_isWhole_30 : decode cX0_isWhole 30 = .ok (.iload_n 2, 1) := by decide +kernel
theorem dX0_isWhole_31 : decode cX0_isWhole 31 = .ok (.iload_n 1, 1) := by decide +kernel
theorem dX0_isWhole_32 : decode cX0_isWhole 32 = .ok (.if_icmp .ge 37, 3) := by decide +kernel
theorem dX0_isWhole_35 : decode cX0_isWhole 35 = .ok (.aload_n 0, 1) := by decide +kernel
theorem dX0_isWhole_36 : decode cX0_isWhole 36 = .ok (.iload_n 1, 1) := by decide +kernel
theorem dX0_isWhole_37 : decode cX0_isWhole 37 = .ok (.invokevirtual 116, 3) := by decide +kernel
theorem dX0_isWhole_40 : decode cX0_isWhole 40 = .ok (.aload_n 0, 1) := by decide +kernel
theorem dX0_isWhole_41 : decode cX0_isWhole 41 = .ok (.iload_n 2, 1) := by decide +kernel
theorem dX0_isWhole_42 : decode cX0_isWhole 42 = .ok (.invokevirtual 116, 3) := by decide +kernel
theorem dX0_isWhole_45 : decode cX0_isWhole 45 = .ok (.if_icmp .ne 18, 3) := by decide +kernel
theorem dX0_isWhole_48 : decode cX0_isWhole 48 = .ok (.aload_n 0, 1) := by decide +kernel
theorem dX0_isWhole_49 : decode cX0_isWhole 49 = .ok (.iload_n 1, 1) := by decide +kernel
theorem dX0_isWhole_50 : decode cX0_isWhole 50 = .ok (.invokevirtual 119, 3) := by decide +kernel
theorem dX0_isWhole_53 : decode cX0_isWhole 53 = .ok (.aload_n 0, 1) := by decide +kernel
theorem dX0_isWhole_54 : decode cX0_isWhole 54 = .ok (.iload_n 2, 1) := by decide +kernel
theorem dX0_isWhole_55 : decode cX0_isWhole 55 = .ok (.invokevirtual 119, 3) := by decide +kernel
theorem dX0_isWhole_58 : decode cX0_isWhole 58 = .ok (.if_icmp .ne 5, 3) := by decide +kernel
theorem dX0_isWhole_61 : decode cX0_isWhole 61 = .ok (.iconst 0, 1) := by decide +kernel
theorem dX0_isWhole_62 : decode cX0_isWhole 62 = .ok (.ireturn, 1) := by decide +kernel
theorem dX0_isWhole_63 : decode cX0_isWhole 63 = .ok (.iinc 2 1, 3) := by decide +kernel
theorem dX0_isWhole_66 : decode cX0_isWhole 66 = .ok (.goto (-36), 3) := by decide +kernel
theorem dX0_isWhole_69 : decode cX0_isWhole 69 = .ok (.iinc 1 1, 3) := by decide +kernel
theorem dX0_isWhole_72 : decode cX0_isWhole 72 = .ok (.goto (-52), 3) := by decide +kernel
theorem dX0_isWhole_75 : decode cX0_isWhole 75 = .ok (.iconst 1, 1) := by decide +kernel
theorem dX0_isWhole_76 : decode cX0_isWhole 76 = .ok (.ireturn, 1) := by decide +kernel
theorem dX0_lettersOf_0 : decode cX0_lettersOf 0 = .ok (.iload_n 0, 1) := by decide +kernel
theorem dX0_lettersOf_1 : decode cX0_lettersOf 1 = .ok (.ifCond .ne 6, 3) := by decide +kernel
theorem dX0_lettersOf_4 : decode cX0_lettersOf 4 = .ok (.ldc 122, 2) := by decide +kernel
theorem dX0_lettersOf_6 : decode cX0_lettersOf 6 = .ok (.areturn, 1) := by decide +kernel
theorem dX0_lettersOf_7 : decode cX0_lettersOf 7 = .ok (.iload_n 0, 1) := by decide +kernel
theorem dX0_lettersOf_8 : decode cX0_lettersOf 8 = .ok (.iconst 1, 1) := by decide +kernel
theorem dX0_lettersOf_9 : decode cX0_lettersOf 9 = .ok (.if_icmp .ne 8, 3) := by decide +kernel
theorem dX0_lettersOf_12 : decode cX0_lettersOf 12 = .ok (.ldc 124, 2) := by decide +kernel
theorem dX0_lettersOf_14 : decode cX0_lettersOf 14 = .ok (.goto 5, 3) := by decide +kernel
theorem dX0_lettersOf_17 : decode cX0_lettersOf 17 = .ok (.ldc 126, 2) := by decide +kernel
theorem dX0_lettersOf_19 : decode cX0_lettersOf 19 = .ok (.areturn, 1) := by decide +kernel
theorem dX0_placeIn_0 : decode cX0_placeIn 0 = .ok (.iload_n 1, 1) := by decide +kernel
theorem dX0_placeIn_1 : decode cX0_placeIn 1 = .ok (.ifCond .ge 7, 3) := by decide +kernel
theorem dX0_placeIn_4 : decode cX0_placeIn 4 = .ok (.iconst (-1), 1) := by decide +kernel
theorem dX0_placeIn_5 : decode cX0_placeIn 5 = .ok (.goto 9, 3) := by decide +kernel
theorem dX0_placeIn_8 : decode cX0_placeIn 8 = .ok (.aload_n 0, 1) := by decide +kernel
theorem dX0_placeIn_9 : decode cX0_placeIn 9 = .ok (.iload_n 1, 1) := by decide +kernel
theorem dX0_placeIn_10 : decode cX0_placeIn 10 = .ok (.i2c, 1) := by decide +kernel
theorem dX0_placeIn_11 : decode cX0_placeIn 11 = .ok (.invokevirtual 128, 3) := by decide +kernel
theorem dX0_placeIn_14 : decode cX0_placeIn 14 = .ok (.ireturn, 1) := by decide +kernel
theorem dX1_init_0 : decode cX1_init 0 = .ok (.aload_n 0, 1) := by decide +kernel
theorem dX1_init_1 : decode cX1_init 1 = .ok (.invokespecial 3, 3) := by decide +kernel
theorem dX1_init_4 : decode cX1_init 4 = .ok (.aload_n 0, 1) := by decide +kernel
theorem dX1_init_5 : decode cX1_init 5 = .ok (.aload_n 1, 1) := by decide +kernel
theorem dX1_init_6 : decode cX1_init 6 = .ok (.putfield 9, 3) := by decide +kernel
theorem dX1_init_9 : decode cX1_init 9 = .ok (.aload_n 0, 1) := by decide +kernel
theorem dX1_init_10 : decode cX1_init 10 = .ok (.bipush 8, 2) := by decide +kernel
theorem dX1_init_12 : decode cX1_init 12 = .ok (.newarray .int, 2) := by decide +kernel
theorem dX1_init_14 : decode cX1_init 14 = .ok (.putfield 15, 3) := by decide +kernel
theorem dX1_init_17 : decode cX1_init 17 = .ok (.aload_n 0, 1) := by decide +kernel
theorem dX1_init_18 : decode cX1_init 18 = .ok (.bipush 64, 2) := by decide +kernel
theorem dX1_init_20 : decode cX1_init 20 = .ok (.newarray .int, 2) := by decide +kernel
theorem dX1_init_22 : decode cX1_init 22 = .ok (.putfield 19, 3) := by decide +kernel
theorem dX1_init_25 : decode cX1_init 25 = .ok (.aload_n 0, 1) := by decide +kernel
theorem dX1_init_26 : decode cX1_init 26 = .ok (.sipush 2048, 3) := by decide +kernel
theorem dX1_init_29 : decode cX1_init 29 = .ok (.newarray .int, 2) := by decide +kernel
theorem dX1_init_31 : decode cX1_init 31 = .ok (.putfield 22, 3) := by decide +kernel
theorem dX1_init_34 : decode cX1_init 34 = .ok (.return_, 1) := by decide +kernel
theorem dX1_plot_0 : decode cX1_plot 0 = .ok (.aload_n 0, 1) := by decide +kernel
theorem dX1_plot_1 : decode cX1_plot 1 = .ok (.getfield 9, 3) := by decide +kernel
theorem dX1_plot_4 : decode cX1_plot 4 = .ok (.iload_n 2, 1) := by decide +kernel
theorem dX1_plot_5 : decode cX1_plot 5 = .ok (.invokevirtual 25, 3) := by decide +kernel
theorem dX1_plot_8 : decode cX1_plot 8 = .ok (.istore 4, 2) := by decide +kernel
theorem dX1_plot_10 : decode cX1_plot 10 = .ok (.iconst 0, 1) := by decide +kernel
theorem dX1_plot_11 : decode cX1_plot 11 = .ok (.istore 5, 2) := by decide +kernel
theorem dX1_plot_13 : decode cX1_plot 13 = .ok (.iload 5, 2) := by decide +kernel
theorem dX1_plot_15 : decode cX1_plot 15 = .ok (.aload_n 0, 1) := by decide +kernel
theorem dX1_plot_16 : decode cX1_plot 16 = .ok (.getfield 9, 3) := by decide +kernel
theorem dX1_plot_19 : decode cX1_plot 19 = .ok (.getfield 31, 3) := by decide +kernel
theorem dX1_plot_22 : decode cX1_plot 22 = .ok (.if_icmp .ge 107, 3) := by decide +kernel
theorem dX1_plot_25 : decode cX1_plot 25 = .ok (.aload_n 0, 1) := by decide +kernel
theorem dX1_plot_26 : decode cX1_plot 26 = .ok (.getfield 15, 3) := by decide +kernel
theorem dX1_plot_29 : decode cX1_plot 29 = .ok (.iload 5, 2) := by decide +kernel
theorem dX1_plot_31 : decode cX1_plot 31 = .ok (.aload_n 1, 1) := by decide +kernel
theorem dX1_plot_32 : decode cX1_plot 32 = .ok (.iload_n 2, 1) := by decide +kernel
theorem dX1_plot_33 : decode cX1_plot 33 = .ok (.aload_n 0, 1) := by decide +kernel
theorem dX1_plot_34 : decode cX1_plot 34 = .ok (.getfield 9, 3) := by decide +kernel
theorem dX1_plot_37 : decode cX1_plot 37 = .ok (.iload 5, 2) := by decide +kernel
theorem dX1_plot_39 : decode cX1_plot 39 = .ok (.invokevirtual 35, 3) := by decide +kernel
theorem dX1_plot_42 : decode cX1_plot 42 = .ok (.aload_n 0, 1) := by decide +kernel
theorem dX1_plot_43 : decode cX1_plot 43 = .ok (.getfield 9, 3) := by decide +kernel
theorem dX1_plot_46 : decode cX1_plot 46 = .ok (.iload 5, 2) := by decide +kernel
theorem dX1_plot_48 : decode cX1_plot 48 = .ok (.invokevirtual 38, 3) := by decide +kernel
theorem dX1_plot_51 : decode cX1_plot 51 = .ok (.invokevirtual 41, 3) := by decide +kernel
theorem dX1_plot_54 : decode cX1_plot 54 = .ok (.iload 4, 2) := by decide +kernel
theorem dX1_plot_56 : decode cX1_plot 56 = .ok (.invokestatic 47, 3) := by decide +kernel
theorem dX1_plot_59 : decode cX1_plot 59 = .ok (.iastore, 1) := by decide +kernel
theorem dX1_plot_60 : decode cX1_plot 60 = .ok (.iconst 0, 1) := by decide +kernel
theorem dX1_plot_61 : decode cX1_plot 61 = .ok (.istore 6, 2) := by decide +kernel
theorem dX1_plot_63 : decode cX1_plot 63 = .ok (.iload 6, 2) := by decide +kernel
theorem dX1_plot_65 : decode cX1_plot 65 = .ok (.aload_n 0, 1) := by decide +kernel
theorem dX1_plot_66 : decode cX1_plot 66 = .ok (.getfield 9, 3) := by decide +kernel
theorem dX1_plot_69 : decode cX1_plot 69 = .ok (.getfield 31, 3) := by decide +kernel
theorem dX1_plot_72 : decode cX1_plot 72 = .ok (.if_icmp .ge 51, 3) := by decide +kernel
theorem dX1_plot_75 : decode cX1_plot 75 = .ok (.aload_n 0, 1) := by decide +kernel
theorem dX1_plot_76 : decode cX1_plot 76 = .ok (.getfield 19, 3) := by decide +kernel
theorem dX1_plot_79 : decode cX1_plot 79 = .ok (.iload 6, 2) := by decide +kernel
theorem dX1_plot_81 : decode cX1_plot 81 = .ok (.bipush 8, 2) := by decide +kernel
theorem dX1_plot_83 : decode cX1_plot 83 = .ok (.imul, 1) := by decide +kernel
theorem dX1_plot_84 : decode cX1_plot 84 = .ok (.iload 5, 2) := by decide +kernel
theorem dX1_plot_86 : decode cX1_plot 86 = .ok (.iadd, 1) := by decide +kernel
theorem dX1_plot_87 : decode cX1_plot 87 = .ok (.aload_n 0, 1) := by decide +kernel
theorem dX1_plot_88 : decode cX1_plot 88 = .ok (.iload 6, 2) := by decide +kernel
theorem dX1_plot_90 : decode cX1_plot 90 = .ok (.aload_n 0, 1) := by decide +kernel
theorem dX1_plot_91 : decode cX1_plot 91 = .ok (.getfield 9, 3) := by decide +kernel
theorem dX1_plot_94 : decode cX1_plot 94 = .ok (.iload 5, 2) := by decide +kernel
theorem dX1_plot_96 : decode cX1_plot 96 = .ok (.invokevirtual 35, 3) := by decide +kernel
theorem dX1_plot_99 : decode cX1_plot 99 = .ok (.aload_n 0, 1) := by decide +kernel
theorem dX1_plot_100 : decode cX1_plot 100 = .ok (.getfield 9, 3) := by decide +kernel
theorem dX1_plot_103 : decode cX1_plot 103 = .ok (.iload 5, 2) := by decide +kernel
theorem dX1_plot_105 : decode cX1_plot 105 = .ok (.invokevirtual 38, 3) := by decide +kernel
theorem dX1_plot_108 : decode cX1_plot 108 = .ok (.invokevirtual 51, 3) := by decide +kernel
theorem dX1_plot_111 : decode cX1_plot 111 = .ok (.iload 4, 2) := by decide +kernel
theorem dX1_plot_113 : decode cX1_plot 113 = .ok (.invokestatic 47, 3) := by decide +kernel
theorem dX1_plot_116 : decode cX1_plot 116 = .ok (.iastore, 1) := by decide +kernel
theorem dX1_plot_117 : decode cX1_plot 117 = .ok (.iinc 6 1, 3) := by decide +kernel
theorem dX1_plot_120 : decode cX1_plot 120 = .ok (.goto (-57), 3) := by decide +kernel
theorem dX1_plot_123 : decode cX1_plot 123 = .ok (.iinc 5 1, 3) := by decide +kernel
theorem dX1_plot_126 : decode cX1_plot 126 = .ok (.goto (-113), 3) := by decide +kernel
theorem dX1_plot_129 : decode cX1_plot 129 = .ok (.iconst 0, 1) := by decide +kernel
theorem dX1_plot_130 : decode cX1_plot 130 = .ok (.istore 5, 2) := by decide +kernel
theorem dX1_plot_132 : decode cX1_plot 132 = .ok (.iload 5, 2) := by decide +kernel
theorem dX1_plot_134 : decode cX1_plot 134 = .ok (.iload_n 3, 1) := by decide +kernel
theorem dX1_plot_135 : decode cX1_plot 135 = .ok (.if_icmp .gt 67, 3) := by decide +kernel
theorem dX1_plot_138 : decode cX1_plot 138 = .ok (.iload 5, 2) := by decide +kernel
theorem dX1_plot_140 : decode cX1_plot 140 = .ok (.iload_n 3, 1) := by decide +kernel
theorem dX1_plot_141 : decode cX1_plot 141 = .ok (.iconst (-1), 1) := by decide +kernel
theorem dX1_plot_142 : decode cX1_plot 142 = .ok (.ixor, 1) := by decide +kernel
theorem dX1_plot_143 : decode cX1_plot 143 = .ok (.iand, 1) := by decide +kernel
theorem dX1_plot_144 : decode cX1_plot 144 = .ok (.ifCond .ne 52, 3) := by decide +kernel
theorem dX1_plot_147 : decode cX1_plot 147 = .ok (.iconst 0, 1) := by decide +kernel
theorem dX1_plot_148 : decode cX1_plot 148 = .ok (.istore 6, 2) := by decide +kernel
theorem dX1_plot_150 : decode cX1_plot 150 = .ok (.iload 6, 2) := by decide +kernel
theorem dX1_plot_152 : decode cX1_plot 152 = .ok (.aload_n 0, 1) := by decide +kernel
theorem dX1_plot_153 : decode cX1_plot 153 = .ok (.getfield 9, 3) := by decide +kernel
theorem dX1_plot_156 : decode cX1_plot 156 = .ok (.getfield 31, 3) := by decide +kernel
theorem dX1_plot_159 : decode cX1_plot 159 = .ok (.if_icmp .ge 37, 3) := by decide +kernel
theorem dX1_plot_162 : decode cX1_plot 162 = .ok (.aload_n 0, 1) := by decide +kernel
theorem dX1_plot_163 : decode cX1_plot 163 = .ok (.getfield 22, 3) := by decide +kernel
theorem dX1_plot_166 : decode cX1_plot 166 = .ok (.iload 5, 2) := by decide +kernel
theorem dX1_plot_168 : decode cX1_plot 168 = .ok (.bipush 8, 2) := by decide +kernel
theorem dX1_plot_170 : decode cX1_plot 170 = .ok (.imul, 1) := by decide +kernel
theorem dX1_plot_171 : decode cX1_plot 171 = .ok (.iload 6, 2) := by decide +kernel
theorem dX1_plot_173 : decode cX1_plot 173 = .ok (.iadd, 1) := by decide +kernel
theorem dX1_plot_174 : decode cX1_plot 174 = .ok (.aload_n 0, 1) := by decide +kernel
theorem dX1_plot_175 : decode cX1_plot 175 = .ok (.iload 5, 2) := by decide +kernel
theorem dX1_plot_177 : decode cX1_plot 177 = .ok (.aload_n 0, 1) := by decide +kernel
theorem dX1_plot_178 : decode cX1_plot 178 = .ok (.getfield 19, 3) := by decide +kernel
theorem dX1_plot_181 : decode cX1_plot 181 = .ok (.iload 6, 2) := by decide +kernel
theorem dX1_plot_183 : decode cX1_plot 183 = .ok (.bipush 8, 2) := by decide +kernel
theorem dX1_plot_185 : decode cX1_plot 185 = .ok (.imul, 1) := by decide +kernel
theorem dX1_plot_186 : decode cX1_plot 186 = .ok (.invokevirtual 54, 3) := by decide +kernel
theorem dX1_plot_189 : decode cX1_plot 189 = .ok (.iastore, 1) := by decide +kernel
theorem dX1_plot_190 : decode cX1_plot 190 = .ok (.iinc 6 1, 3) := by decide +kernel
theorem dX1_plot_193 : decode cX1_plot 193 = .ok (.goto (-43), 3) := by decide +kernel
theorem dX1_plot_196 : decode cX1_plot 196 = .ok (.iinc 5 1, 3) := by decide +kernel
theorem dX1_plot_199 : decode cX1_plot 199 = .ok (.goto (-67), 3) := by decide +kernel
theorem dX1_plot_202 : decode cX1_plot 202 = .ok (.return_, 1) := by decide +kernel
theorem dX1_hoursOf_0 : decode cX1_hoursOf 0 = .ok (.aload_n 0, 1) := by decide +kernel
theorem dX1_hoursOf_1 : decode cX1_hoursOf 1 = .ok (.iload_n 1, 1) := by decide +kernel
theorem dX1_hoursOf_2 : decode cX1_hoursOf 2 = .ok (.aload_n 0, 1) := by decide +kernel
theorem dX1_hoursOf_3 : decode cX1_hoursOf 3 = .ok (.getfield 15, 3) := by decide +kernel
theorem dX1_hoursOf_6 : decode cX1_hoursOf 6 = .ok (.iconst 0, 1) := by decide +kernel
theorem dX1_hoursOf_7 : decode cX1_hoursOf 7 = .ok (.invokevirtual 54, 3) := by decide +kernel
theorem dX1_hoursOf_10 : decode cX1_hoursOf 10 = .ok (.ireturn, 1) := by decide +kernel
theorem dX1_orderOf_0 : decode cX1_orderOf 0 = .ok (.iconst 0, 1) := by decide +kernel
theorem dX1_orderOf_1 : decode cX1_orderOf 1 = .ok (.istore_n 2, 1) := by decide +kernel
theorem dX1_orderOf_2 : decode cX1_orderOf 2 = .ok (.iload_n 1, 1) := by decide +kernel
theorem dX1_orderOf_3 : decode cX1_orderOf 3 = .ok (.istore_n 3, 1) := by decide +kernel
theorem dX1_orderOf_4 : decode cX1_orderOf 4 = .ok (.aload_n 0, 1) := by decide +kernel
theorem dX1_orderOf_5 : decode cX1_orderOf 5 = .ok (.getfield 15, 3) := by decide +kernel
theorem dX1_orderOf_8 : decode cX1_orderOf 8 = .ok (.astore 4, 2) := by decide +kernel
theorem dX1_orderOf_10 : decode cX1_orderOf 10 = .ok (.iconst 0, 1) := by decide +kernel
theorem dX1_orderOf_11 : decode cX1_orderOf 11 = .ok (.istore 5, 2) := by decide +kernel
theorem dX1_orderOf_13 : decode cX1_orderOf 13 = .ok (.iconst 0, 1) := by decide +kernel
theorem dX1_orderOf_14 : decode cX1_orderOf 14 = .ok (.istore 6, 2) := by decide +kernel
theorem dX1_orderOf_16 : decode cX1_orderOf 16 = .ok (.iload 6, 2) := by decide +kernel
theorem dX1_orderOf_18 : decode cX1_orderOf 18 = .ok (.aload_n 0, 1) := by decide +kernel
theorem dX1_orderOf_19 : decode cX1_orderOf 19 = .ok (.getfield 9, 3) := by decide +kernel
theorem dX1_orderOf_22 : decode cX1_orderOf 22 = .ok (.getfield 31, 3) := by decide +kernel
theorem dX1_orderOf_25 : decode cX1_orderOf 25 = .ok (.if_icmp .ge 54, 3) := by decide +kernel
theorem dX1_orderOf_28 : decode cX1_orderOf 28 = .ok (.iload_n 3, 1) := by decide +kernel
theorem dX1_orderOf_29 : decode cX1_orderOf 29 = .ok (.ifCond .eq 50, 3) := by decide +kernel
theorem dX1_orderOf_32 : decode cX1_orderOf 32 = .ok (.aload_n 0, 1) := by decide +kernel
theorem dX1_orderOf_33 : decode cX1_orderOf 33 = .ok (.iload_n 3, 1) := by decide +kernel
theorem dX1_orderOf_34 : decode cX1_orderOf 34 = .ok (.aload 4, 2) := by decide +kernel
theorem dX1_orderOf_36 : decode cX1_orderOf 36 = .ok (.iload 5, 2) := by decide +kernel
theorem dX1_orderOf_38 : decode cX1_orderOf 38 = .ok (.invokevirtual 58, 3) := by decide +kernel
theorem dX1_orderOf_41 : decode cX1_orderOf 41 = .ok (.istore 7, 2) := by decide +kernel
theorem dX1_orderOf_43 : decode cX1_orderOf 43 = .ok (.iload_n 2, 1) := by decide +kernel
theorem dX1_orderOf_44 : decode cX1_orderOf 44 = .ok (.bipush 10, 2) := by decide +kernel
theorem dX1_orderOf_46 : decode cX1_orderOf 46 = .ok (.imul, 1) := by decide +kernel
theorem dX1_orderOf_47 : decode cX1_orderOf 47 = .ok (.iload 7, 2) := by decide +kernel
theorem dX1_orderOf_49 : decode cX1_orderOf 49 = .ok (.iadd, 1) := by decide +kernel
theorem dX1_orderOf_50 : decode cX1_orderOf 50 = .ok (.istore_n 2, 1) := by decide +kernel
theorem dX1_orderOf_51 : decode cX1_orderOf 51 = .ok (.iload_n 3, 1) := by decide +kernel
theorem dX1_orderOf_52 : decode cX1_orderOf 52 = .ok (.iconst 1, 1) := by decide +kernel
theorem dX1_orderOf_53 : decode cX1_orderOf 53 = .ok (.iload 7, 2) := by decide +kernel
theorem dX1_orderOf_55 : decode cX1_orderOf 55 = .ok (.ishl, 1) := by decide +kernel
theorem dX1_orderOf_56 : decode cX1_orderOf 56 = .ok (.iconst (-1), 1) := by decide +kernel
theorem dX1_orderOf_57 : decode cX1_orderOf 57 = .ok (.ixor, 1) := by decide +kernel
theorem dX1_orderOf_58 : decode cX1_orderOf 58 = .ok (.iand, 1) := by decide +kernel
theorem dX1_orderOf_59 : decode cX1_orderOf 59 = .ok (.istore_n 3, 1) := by decide +kernel
theorem dX1_orderOf_60 : decode cX1_orderOf 60 = .ok (.aload_n 0, 1) := by decide +kernel
theorem dX1_orderOf_61 : decode cX1_orderOf 61 = .ok (.getfield 19, 3) := by decide +kernel
theorem dX1_orderOf_64 : decode cX1_orderOf 64 = .ok (.astore 4, 2) := by decide +kernel
theorem dX1_orderOf_66 : decode cX1_orderOf 66 = .ok (.iload 7, 2) := by decide +kernel
theorem dX1_orderOf_68 : decode cX1_orderOf 68 = .ok (.bipush 8, 2) := by decide +kernel
theorem dX1_orderOf_70 : decode cX1_orderOf 70 = .ok (.imul, 1) := by decide +kernel
theorem dX1_orderOf_71 : decode cX1_orderOf 71 = .ok (.istore 5, 2) := by decide +kernel
theorem dX1_orderOf_73 : decode cX1_orderOf 73 = .ok (.iinc 6 1, 3) := by decide +kernel
theorem dX1_orderOf_76 : decode cX1_orderOf 76 = .ok (.goto (-60), 3) := by decide +kernel
theorem dX1_orderOf_79 : decode cX1_orderOf 79 = .ok (.iload_n 2, 1) := by decide +kernel
theorem dX1_orderOf_80 : decode cX1_orderOf 80 = .ok (.ireturn, 1) := by decide +kernel
theorem dX1_leastThrough_0 : decode cX1_leastThrough 0 = .ok (.iload_n 1, 1) := by decide +kernel
theorem dX1_leastThrough_1 : decode cX1_leastThrough 1 = .ok (.ifCond .ne 5, 3) := by decide +kernel
theorem dX1_leastThrough_4 : decode cX1_leastThrough 4 = .ok (.iconst 0, 1) := by decide +kernel
theorem dX1_leastThrough_5 : decode cX1_leastThrough 5 = .ok (.ireturn, 1) := by decide +kernel
theorem dX1_leastThrough_6 : decode cX1_leastThrough 6 = .ok (.aload_n 0, 1) := by decide +kernel
theorem dX1_leastThrough_7 : decode cX1_leastThrough 7 = .ok (.iload_n 1, 1) := by decide +kernel
theorem dX1_leastThrough_8 : decode cX1_leastThrough 8 = .ok (.aload_n 2, 1) := by decide +kernel
theorem dX1_leastThrough_9 : decode cX1_leastThrough 9 = .ok (.iload_n 3, 1) := by decide +kernel
theorem dX1_leastThrough_10 : decode cX1_leastThrough 10 = .ok (.invokevirtual 58, 3) := by decide +kernel
theorem dX1_leastThrough_13 : decode cX1_leastThrough 13 = .ok (.istore 4, 2) := by decide +kernel
theorem dX1_leastThrough_15 : decode cX1_leastThrough 15 = .ok (.aload_n 2, 1) := by decide +kernel
theorem dX1_leastThrough_16 : decode cX1_leastThrough 16 = .ok (.iload_n 3, 1) := by decide +kernel
theorem dX1_leastThrough_17 : decode cX1_leastThrough 17 = .ok (.iload 4, 2) := by decide +kernel
theorem dX1_leastThrough_19 : decode cX1_leastThrough 19 = .ok (.iadd, 1) := by decide +kernel
theorem dX1_leastThrough_20 : decode cX1_leastThrough 20 = .ok (.iaload, 1) := by decide +kernel
theorem dX1_leastThrough_21 : decode cX1_leastThrough 21 = .ok (.aload_n 0, 1) := by decide +kernel
theorem dX1_leastThrough_22 : decode cX1_leastThrough 22 = .ok (.getfield 22, 3) := by decide +kernel
theorem dX1_leastThrough_25 : decode cX1_leastThrough 25 = .ok (.iload_n 1, 1) := by decide +kernel
theorem dX1_leastThrough_26 : decode cX1_leastThrough 26 = .ok (.iconst 1, 1) := by decide +kernel
theorem dX1_leastThrough_27 : decode cX1_leastThrough 27 = .ok (.iload 4, 2) := by decide +kernel
theorem dX1_leastThrough_29 : decode cX1_leastThrough 29 = .ok (.ishl, 1) := by decide +kernel
theorem dX1_leastThrough_30 : decode cX1_leastThrough 30 = .ok (.iconst (-1), 1) := by decide +kernel
theorem dX1_leastThrough_31 : decode cX1_leastThrough 31 = .ok (.ixor, 1) := by decide +kernel
theorem dX1_leastThrough_32 : decode cX1_leastThrough 32 = .ok (.iand, 1) := by decide +kernel
theorem dX1_leastThrough_33 : decode cX1_leastThrough 33 = .ok (.bipush 8, 2) := by decide +kernel
theorem dX1_leastThrough_35 : decode cX1_leastThrough 35 = .ok (.imul, 1) := by decide +kernel
theorem dX1_leastThrough_36 : decode cX1_leastThrough 36 = .ok (.iload 4, 2) := by decide +kernel
theorem dX1_leastThrough_38 : decode cX1_leastThrough 38 = .ok (.iadd, 1) := by decide +kernel
theorem dX1_leastThrough_39 : decode cX1_leastThrough 39 = .ok (.iaload, 1) := by decide +kernel
theorem dX1_leastThrough_40 : decode cX1_leastThrough 40 = .ok (.iadd, 1) := by decide +kernel
theorem dX1_leastThrough_41 : decode cX1_leastThrough 41 = .ok (.ireturn, 1) := by decide +kernel
theorem dX1_firstOfBest_0 : decode cX1_firstOfBest 0 = .ok (.ldc 61, 2) := by decide +kernel
theorem dX1_firstOfBest_2 : decode cX1_firstOfBest 2 = .ok (.istore 4, 2) := by decide +kernel
theorem dX1_firstOfBest_4 : decode cX1_firstOfBest 4 = .ok (.iconst 0, 1) := by decide +kernel
theorem dX1_firstOfBest_5 : decode cX1_firstOfBest 5 = .ok (.istore 5, 2) := by decide +kernel
theorem dX1_firstOfBest_7 : decode cX1_firstOfBest 7 = .ok (.iconst 0, 1) := by decide +kernel
theorem dX1_firstOfBest_8 : decode cX1_firstOfBest 8 = .ok (.istore 6, 2) := by decide +kernel
theorem dX1_firstOfBest_10 : decode cX1_firstOfBest 10 = .ok (.iload 6, 2) := by decide +kernel
theorem dX1_firstOfBest_12 : decode cX1_firstOfBest 12 = .ok (.aload_n 0, 1) := by decide +kernel
theorem dX1_firstOfBest_13 : decode cX1_firstOfBest 13 = .ok (.getfield 9, 3) := by decide +kernel
theorem dX1_firstOfBest_16 : decode cX1_firstOfBest 16 = .ok (.getfield 31, 3) := by decide +kernel
theorem dX1_firstOfBest_19 : decode cX1_firstOfBest 19 = .ok (.if_icmp .ge 61, 3) := by decide +kernel
theorem dX1_firstOfBest_22 : decode cX1_firstOfBest 22 = .ok (.iload_n 1, 1) := by decide +kernel
theorem dX1_firstOfBest_23 : decode cX1_firstOfBest 23 = .ok (.iload 6, 2) := by decide +kernel
theorem dX1_firstOfBest_25 : decode cX1_firstOfBest 25 = .ok (.ishr, 1) := by decide +kernel
theorem dX1_firstOfBest_26 : decode cX1_firstOfBest 26 = .ok (.iconst 1, 1) := by decide +kernel
theorem dX1_firstOfBest_27 : decode cX1_firstOfBest 27 = .ok (.iand, 1) := by decide +kernel
theorem dX1_firstOfBest_28 : decode cX1_firstOfBest 28 = .ok (.ifCond .eq 46, 3) := by decide +kernel
theorem dX1_firstOfBest_31 : decode cX1_firstOfBest 31 = .ok (.aload_n 2, 1) := by decide +kernel
theorem dX1_firstOfBest_32 : decode cX1_firstOfBest 32 = .ok (.iload_n 3, 1) := by decide +kernel
theorem dX1_firstOfBest_33 : decode cX1_firstOfBest 33 = .ok (.iload 6, 2) := by decide +kernel
theorem dX1_firstOfBest_35 : decode cX1_firstOfBest 35 = .ok (.iadd, 1) := by decide +kernel
theorem dX1_firstOfBest_36 : decode cX1_firstOfBest 36 = .ok (.iaload, 1) := by decide +kernel
theorem dX1_firstOfBest_37 : decode cX1_firstOfBest 37 = .ok (.aload_n 0, 1) := by decide +kernel
theorem dX1_firstOfBest_38 : decode cX1_firstOfBest 38 = .ok (.getfield 22, 3) := by decide +kernel
theorem dX1_firstOfBest_41 : decode cX1_firstOfBest 41 = .ok (.iload_n 1, 1) := by decide +kernel
theorem dX1_firstOfBest_42 : decode cX1_firstOfBest 42 = .ok (.iconst 1, 1) := by decide +kernel
theorem dX1_firstOfBest_43 : decode cX1_firstOfBest 43 = .ok (.iload 6, 2) := by decide +kernel
theorem dX1_firstOfBest_45 : decode cX1_firstOfBest 45 = .ok (.ishl, 1) := by decide +kernel
theorem dX1_firstOfBest_46 : decode cX1_firstOfBest 46 = .ok (.iconst (-1), 1) := by decide +kernel
theorem dX1_firstOfBest_47 : decode cX1_firstOfBest 47 = .ok (.ixor, 1) := by decide +kernel
theorem dX1_firstOfBest_48 : decode cX1_firstOfBest 48 = .ok (.iand, 1) := by decide +kernel
theorem dX1_firstOfBest_49 : decode cX1_firstOfBest 49 = .ok (.bipush 8, 2) := by decide +kernel
theorem dX1_firstOfBest_51 : decode cX1_firstOfBest 51 = .ok (.imul, 1) := by decide +kernel
theorem dX1_firstOfBest_52 : decode cX1_firstOfBest 52 = .ok (.iload 6, 2) := by decide +kernel
theorem dX1_firstOfBest_54 : decode cX1_firstOfBest 54 = .ok (.iadd, 1) := by decide +kernel
theorem dX1_firstOfBest_55 : decode cX1_firstOfBest 55 = .ok (.iaload, 1) := by decide +kernel
theorem dX1_firstOfBest_56 : decode cX1_firstOfBest 56 = .ok (.iadd, 1) := by decide +kernel
theorem dX1_firstOfBest_57 : decode cX1_firstOfBest 57 = .ok (.istore 7, 2) := by decide +kernel
theorem dX1_firstOfBest_59 : decode cX1_firstOfBest 59 = .ok (.iload 7, 2) := by decide +kernel
theorem dX1_firstOfBest_61 : decode cX1_firstOfBest 61 = .ok (.iload 4, 2) := by decide +kernel
theorem dX1_firstOfBest_63 : decode cX1_firstOfBest 63 = .ok (.if_icmp .ge 11, 3) := by decide +kernel
theorem dX1_firstOfBest_66 : decode cX1_firstOfBest 66 = .ok (.iload 7, 2) := by decide +kernel
theorem dX1_firstOfBest_68 : decode cX1_firstOfBest 68 = .ok (.istore 4, 2) := by decide +kernel
theorem dX1_firstOfBest_70 : decode cX1_firstOfBest 70 = .ok (.iload 6, 2) := by decide +kernel
theorem dX1_firstOfBest_72 : decode cX1_firstOfBest 72 = .ok (.istore 5, 2) := by decide +kernel
theorem dX1_firstOfBest_74 : decode cX1_firstOfBest 74 = .ok (.iinc 6 1, 3) := by decide +kernel
theorem dX1_firstOfBest_77 : decode cX1_firstOfBest 77 = .ok (.goto (-67), 3) := by decide +kernel
theorem dX1_firstOfBest_80 : decode cX1_firstOfBest 80 = .ok (.iload 5, 2) := by decide +kernel
theorem dX1_firstOfBest_82 : decode cX1_firstOfBest 82 = .ok (.ireturn, 1) := by decide +kernel
theorem dX1_between_0 : decode cX1_between 0 = .ok (.aload_n 0, 1) := by decide +kernel
theorem dX1_between_1 : decode cX1_between 1 = .ok (.getfield 9, 3) := by decide +kernel
theorem dX1_between_4 : decode cX1_between 4 = .ok (.iload_n 1, 1) := by decide +kernel
theorem dX1_between_5 : decode cX1_between 5 = .ok (.invokevirtual 35, 3) := by decide +kernel
theorem dX1_between_8 : decode cX1_between 8 = .ok (.iload_n 2, 1) := by decide +kernel
theorem dX1_between_9 : decode cX1_between 9 = .ok (.isub, 1) := by decide +kernel
theorem dX1_between_10 : decode cX1_between 10 = .ok (.invokestatic 62, 3) := by decide +kernel
theorem dX1_between_13 : decode cX1_between 13 = .ok (.aload_n 0, 1) := by decide +kernel
theorem dX1_between_14 : decode cX1_between 14 = .ok (.getfield 9, 3) := by decide +kernel
theorem dX1_between_17 : decode cX1_between 17 = .ok (.iload_n 1, 1) := by decide +kernel
theorem dX1_between_18 : decode cX1_between 18 = .ok (.invokevirtual 38, 3) := by decide +kernel
theorem dX1_between_21 : decode cX1_between 21 = .ok (.iload_n 3, 1) := by decide +kernel
theorem dX1_between_22 : decode cX1_between 22 = .ok (.isub, 1) := by decide +kernel
theorem dX1_between_23 : decode cX1_between 23 = .ok (.invokestatic 62, 3) := by decide +kernel
theorem dX1_between_26 : decode cX1_between 26 = .ok (.iadd, 1) := by decide +kernel
theorem dX1_between_27 : decode cX1_between 27 = .ok (.ireturn, 1) := by decide +kernel
theorem dX1_fewestWatchers_0 : decode cX1_fewestWatchers 0 = .ok (.iconst 1, 1) := by decide +kernel
theorem dX1_fewestWatchers_1 : decode cX1_fewestWatchers 1 = .ok (.aload_n 0, 1) := by decide +kernel
theorem dX1_fewestWatchers_2 : decode cX1_fewestWatchers 2 = .ok (.getfield 9, 3) := by decide +kernel
theorem dX1_fewestWatchers_5 : decode cX1_fewestWatchers 5 = .ok (.getfield 31, 3) := by decide +kernel
theorem dX1_fewestWatchers_8 : decode cX1_fewestWatchers 8 = .ok (.ishl, 1) := by decide +kernel
theorem dX1_fewestWatchers_9 : decode cX1_fewestWatchers 9 = .ok (.iconst 1, 1) := by decide +kernel
theorem dX1_fewestWatchers_10 : decode cX1_fewestWatchers 10 = .ok (.isub, 1) := by decide +kernel
theorem dX1_fewestWatchers_11 : decode cX1_fewestWatchers 11 = .ok (.istore_n 2, 1) := by decide +kernel
theorem dX1_fewestWatchers_12 : decode cX1_fewestWatchers 12 = .ok (.iconst 1, 1) := by decide +kernel
theorem dX1_fewestWatchers_13 : decode cX1_fewestWatchers 13 = .ok (.istore_n 3, 1) := by decide +kernel
theorem dX1_fewestWatchers_14 : decode cX1_fewestWatchers 14 = .ok (.iload_n 3, 1) := by decide +kernel
theorem dX1_fewestWatchers_15 : decode cX1_fewestWatchers 15 = .ok (.iconst 1, 1) := by decide +kernel
theorem dX1_fewestWatchers_16 : decode cX1_fewestWatchers 16 = .ok (.aload_n 0, 1) := by decide +kernel
theorem dX1_fewestWatchers_17 : decode cX1_fewestWatchers 17 = .ok (.getfield 9, 3) := by decide +kernel
theorem dX1_fewestWatchers_20 : decode cX1_fewestWatchers 20 = .ok (.getfield 31, 3) := by decide +kernel
theorem dX1_fewestWatchers_23 : decode cX1_fewestWatchers 23 = .ok (.ishl, 1) := by decide +kernel
theorem dX1_fewestWatchers_24 : decode cX1_fewestWatchers 24 = .ok (.if_icmp .ge 71, 3) := by decide +kernel
theorem dX1_fewestWatchers_27 : decode cX1_fewestWatchers 27 = .ok (.iload_n 3, 1) := by decide +kernel
theorem dX1_fewestWatchers_28 : decode cX1_fewestWatchers 28 = .ok (.invokestatic 67, 3) := by decide +kernel
theorem dX1_fewestWatchers_31 : decode cX1_fewestWatchers 31 = .ok (.iload_n 2, 1) := by decide +kernel
theorem dX1_fewestWatchers_32 : decode cX1_fewestWatchers 32 = .ok (.invokestatic 67, 3) := by decide +kernel
theorem dX1_fewestWatchers_35 : decode cX1_fewestWatchers 35 = .ok (.if_icmp .ge 7, 3) := by decide +kernel
theorem dX1_fewestWatchers_38 : decode cX1_fewestWatchers 38 = .ok (.iconst 1, 1) := by decide +kernel
theorem dX1_fewestWatchers_39 : decode cX1_fewestWatchers 39 = .ok (.goto 4, 3) := by decide +kernel
theorem dX1_fewestWatchers_42 : decode cX1_fewestWatchers 42 = .ok (.iconst 0, 1) := by decide +kernel
theorem dX1_fewestWatchers_43 : decode cX1_fewestWatchers 43 = .ok (.istore 4, 2) := by decide +kernel
theorem dX1_fewestWatchers_45 : decode cX1_fewestWatchers 45 = .ok (.iload_n 3, 1) := by decide +kernel
theorem dX1_fewestWatchers_46 : decode cX1_fewestWatchers 46 = .ok (.invokestatic 67, 3) := by decide +kernel
theorem dX1_fewestWatchers_49 : decode cX1_fewestWatchers 49 = .ok (.iload_n 2, 1) := by decide +kernel
theorem dX1_fewestWatchers_50 : decode cX1_fewestWatchers 50 = .ok (.invokestatic 67, 3) := by decide +kernel
theorem dX1_fewestWatchers_53 : decode cX1_fewestWatchers 53 = .ok (.if_icmp .ne 12, 3) := by decide +kernel
theorem dX1_fewestWatchers_56 : decode cX1_fewestWatchers 56 = .ok (.iload_n 3, 1) := by decide +kernel
theorem dX1_fewestWatchers_57 : decode cX1_fewestWatchers 57 = .ok (.iload_n 2, 1) := by decide +kernel
theorem dX1_fewestWatchers_58 : decode cX1_fewestWatchers 58 = .ok (.if_icmp .ge 7, 3) := by decide +kernel
theorem dX1_fewestWatchers_61 : decode cX1_fewestWatchers 61 = .ok (.iconst 1, 1) := by decide +kernel
theorem dX1_fewestWatchers_62 : decode cX1_fewestWatchers 62 = .ok (.goto 4, 3) := by decide +kernel
theorem dX1_fewestWatchers_65 : decode cX1_fewestWatchers 65 = .ok (.iconst 0, 1) := by decide +kernel
theorem dX1_fewestWatchers_66 : decode cX1_fewestWatchers 66 = .ok (.istore 5, 2) := by decide +kernel
theorem dX1_fewestWatchers_68 : decode cX1_fewestWatchers 68 = .ok (.iload 4, 2) := by decide +kernel
theorem dX1_fewestWatchers_70 : decode cX1_fewestWatchers 70 = .ok (.ifCond .ne 8, 3) := by decide +kernel
theorem dX1_fewestWatchers_73 : decode cX1_fewestWatchers 73 = .ok (.iload 5, 2) := by decide +kernel
theorem dX1_fewestWatchers_75 : decode cX1_fewestWatchers 75 = .ok (.ifCond .eq 14, 3) := by decide +kernel
theorem dX1_fewestWatchers_78 : decode cX1_fewestWatchers 78 = .ok (.aload_n 0, 1) := by decide +kernel
theorem dX1_fewestWatchers_79 : decode cX1_fewestWatchers 79 = .ok (.iload_n 3, 1) := by decide +kernel
theorem dX1_fewestWatchers_80 : decode cX1_fewestWatchers 80 = .ok (.iload_n 1, 1) := by decide +kernel
theorem dX1_fewestWatchers_81 : decode cX1_fewestWatchers 81 = .ok (.invokevirtual 72, 3) := by decide +kernel
theorem dX1_fewestWatchers_84 : decode cX1_fewestWatchers 84 = .ok (.ifCond .eq 5, 3) := by decide +kernel
theorem dX1_fewestWatchers_87 : decode cX1_fewestWatchers 87 = .ok (.iload_n 3, 1) := by decide +kernel
theorem dX1_fewestWatchers_88 : decode cX1_fewestWatchers 88 = .ok (.istore_n 2, 1) := by decide +kernel
theorem dX1_fewestWatchers_89 : decode cX1_fewestWatchers 89 = .ok (.iinc 3 1, 3) := by decide +kernel
theorem dX1_fewestWatchers_92 : decode cX1_fewestWatchers 92 = .ok (.goto (-78), 3) := by decide +kernel
theorem dX1_fewestWatchers_95 : decode cX1_fewestWatchers 95 = .ok (.iload_n 2, 1) := by decide +kernel
theorem dX1_fewestWatchers_96 : decode cX1_fewestWatchers 96 = .ok (.ireturn, 1) := by decide +kernel
theorem dX1_isWatched_0 : decode cX1_isWatched 0 = .ok (.iconst 0, 1) := by decide +kernel
theorem dX1_isWatched_1 : decode cX1_isWatched 1 = .ok (.istore_n 3, 1) := by decide +kernel
theorem dX1_isWatched_2 : decode cX1_isWatched 2 = .ok (.iload_n 3, 1) := by decide +kernel
theorem dX1_isWatched_3 : decode cX1_isWatched 3 = .ok (.aload_n 0, 1) := by decide +kernel
theorem dX1_isWatched_4 : decode cX1_isWatched 4 = .ok (.getfield 9, 3) := by decide +kernel
theorem dX1_isWatched_7 : decode cX1_isWatched 7 = .ok (.getfield 31, 3) := by decide +kernel
theorem dX1_isWatched_10 : decode cX1_isWatched 10 = .ok (.if_icmp .ge 87, 3) := by decide +kernel
theorem dX1_isWatched_13 : decode cX1_isWatched 13 = .ok (.iconst 0, 1) := by decide +kernel
theorem dX1_isWatched_14 : decode cX1_isWatched 14 = .ok (.istore 4, 2) := by decide +kernel
theorem dX1_isWatched_16 : decode cX1_isWatched 16 = .ok (.iconst 0, 1) := by decide +kernel
theorem dX1_isWatched_17 : decode cX1_isWatched 17 = .ok (.istore 5, 2) := by decide +kernel
theorem dX1_isWatched_19 : decode cX1_isWatched 19 = .ok (.iload 5, 2) := by decide +kernel
theorem dX1_isWatched_21 : decode cX1_isWatched 21 = .ok (.aload_n 0, 1) := by decide +kernel
theorem dX1_isWatched_22 : decode cX1_isWatched 22 = .ok (.getfield 9, 3) := by decide +kernel
theorem dX1_isWatched_25 : decode cX1_isWatched 25 = .ok (.getfield 31, 3) := by decide +kernel
theorem dX1_isWatched_28 : decode cX1_isWatched 28 = .ok (.if_icmp .ge 56, 3) := by decide +kernel
theorem dX1_isWatched_31 : decode cX1_isWatched 31 = .ok (.iload 4, 2) := by decide +kernel
theorem dX1_isWatched_33 : decode cX1_isWatched 33 = .ok (.ifCond .ne 51, 3) := by decide +kernel
theorem dX1_isWatched_36 : decode cX1_isWatched 36 = .ok (.iload_n 1, 1) := by decide +kernel
theorem dX1_isWatched_37 : decode cX1_isWatched 37 = .ok (.iload 5, 2) := by decide +kernel
theorem dX1_isWatched_39 : decode cX1_isWatched 39 = .ok (.ishr, 1) := by decide +kernel
theorem dX1_isWatched_40 : decode cX1_isWatched 40 = .ok (.iconst 1, 1) := by decide +kernel
theorem dX1_isWatched_41 : decode cX1_isWatched 41 = .ok (.iand, 1) := by decide +kernel
theorem dX1_isWatched_42 : decode cX1_isWatched 42 = .ok (.ifCond .eq 33, 3) := by decide +kernel
theorem dX1_isWatched_45 : decode cX1_isWatched 45 = .ok (.aload_n 0, 1) := by decide +kernel
theorem dX1_isWatched_46 : decode cX1_isWatched 46 = .ok (.iload 5, 2) := by decide +kernel
theorem dX1_isWatched_48 : decode cX1_isWatched 48 = .ok (.aload_n 0, 1) := by decide +kernel
theorem dX1_isWatched_49 : decode cX1_isWatched 49 = .ok (.getfield 9, 3) := by decide +kernel
theorem dX1_isWatched_52 : decode cX1_isWatched 52 = .ok (.iload_n 3, 1) := by decide +kernel
theorem dX1_isWatched_53 : decode cX1_isWatched 53 = .ok (.invokevirtual 35, 3) := by decide +kernel
theorem dX1_isWatched_56 : decode cX1_isWatched 56 = .ok (.aload_n 0, 1) := by decide +kernel
theorem dX1_isWatched_57 : decode cX1_isWatched 57 = .ok (.getfield 9, 3) := by decide +kernel
theorem dX1_isWatched_60 : decode cX1_isWatched 60 = .ok (.iload_n 3, 1) := by decide +kernel
theorem dX1_isWatched_61 : decode cX1_isWatched 61 = .ok (.invokevirtual 38, 3) := by decide +kernel
theorem dX1_isWatched_64 : decode cX1_isWatched 64 = .ok (.invokevirtual 51, 3) := by decide +kernel
theorem dX1_isWatched_67 : decode cX1_isWatched 67 = .ok (.iload_n 2, 1) := by decide +kernel
theorem dX1_isWatched_68 : decode cX1_isWatched 68 = .ok (.if_icmp .gt 7, 3) := by decide +kernel
theorem dX1_isWatched_71 : decode cX1_isWatched 71 = .ok (.iconst 1, 1) := by decide +kernel
theorem dX1_isWatched_72 : decode cX1_isWatched 72 = .ok (.goto 4, 3) := by decide +kernel
theorem dX1_isWatched_75 : decode cX1_isWatched 75 = .ok (.iconst 0, 1) := by decide +kernel
theorem dX1_isWatched_76 : decode cX1_isWatched 76 = .ok (.istore 4, 2) := by decide +kernel
theorem dX1_isWatched_78 : decode cX1_isWatched 78 = .ok (.iinc 5 1, 3) := by decide +kernel
theorem dX1_isWatched_81 : decode cX1_isWatched 81 = .ok (.goto (-62), 3) := by decide +kernel
theorem dX1_isWatched_84 : decode cX1_isWatched 84 = .ok (.iload 4, 2) := by decide +kernel
theorem dX1_isWatched_86 : decode cX1_isWatched 86 = .ok (.ifCond .ne 5, 3) := by decide +kernel
theorem dX1_isWatched_89 : decode cX1_isWatched 89 = .ok (.iconst 0, 1) := by decide +kernel
theorem dX1_isWatched_90 : decode cX1_isWatched 90 = .ok (.ireturn, 1) := by decide +kernel
theorem dX1_isWatched_91 : decode cX1_isWatched 91 = .ok (.iinc 3 1, 3) := by decide +kernel
theorem dX1_isWatched_94 : decode cX1_isWatched 94 = .ok (.goto (-92), 3) := by decide +kernel
theorem dX1_isWatched_97 : decode cX1_isWatched 97 = .ok (.iconst 1, 1) := by decide +kernel
theorem dX1_isWatched_98 : decode cX1_isWatched 98 = .ok (.ireturn, 1) := by decide +kernel
theorem dX1_middlePlace_0 : decode cX1_middlePlace 0 = .ok (.iconst 0, 1) := by decide +kernel
theorem dX1_middlePlace_1 : decode cX1_middlePlace 1 = .ok (.istore_n 1, 1) := by decide +kernel
theorem dX1_middlePlace_2 : decode cX1_middlePlace 2 = .ok (.ldc 61, 2) := by decide +kernel
theorem dX1_middlePlace_4 : decode cX1_middlePlace 4 = .ok (.istore_n 2, 1) := by decide +kernel
theorem dX1_middlePlace_5 : decode cX1_middlePlace 5 = .ok (.iconst 0, 1) := by decide +kernel
theorem dX1_middlePlace_6 : decode cX1_middlePlace 6 = .ok (.istore_n 3, 1) := by decide +kernel
theorem dX1_middlePlace_7 : decode cX1_middlePlace 7 = .ok (.iload_n 3, 1) := by decide +kernel
theorem dX1_middlePlace_8 : decode cX1_middlePlace 8 = .ok (.bipush 100, 2) := by decide +kernel
theorem dX1_middlePlace_10 : decode cX1_middlePlace 10 = .ok (.if_icmp .ge 63, 3) := by decide +kernel
theorem dX1_middlePlace_13 : decode cX1_middlePlace 13 = .ok (.iconst 0, 1) := by decide +kernel
theorem dX1_middlePlace_14 : decode cX1_middlePlace 14 = .ok (.istore 4, 2) := by decide +kernel
theorem dX1_middlePlace_16 : decode cX1_middlePlace 16 = .ok (.iconst 0, 1) := by decide +kernel
theorem dX1_middlePlace_17 : decode cX1_middlePlace 17 = .ok (.istore 5, 2) := by decide +kernel
theorem dX1_middlePlace_19 : decode cX1_middlePlace 19 = .ok (.iload 5, 2) := by decide +kernel
theorem dX1_middlePlace_21 : decode cX1_middlePlace 21 = .ok (.aload_n 0, 1) := by decide +kernel
theorem dX1_middlePlace_22 : decode cX1_middlePlace 22 = .ok (.getfield 9, 3) := by decide +kernel
theorem dX1_middlePlace_25 : decode cX1_middlePlace 25 = .ok (.getfield 31, 3) := by decide +kernel
theorem dX1_middlePlace_28 : decode cX1_middlePlace 28 = .ok (.if_icmp .ge 28, 3) := by decide +kernel
theorem dX1_middlePlace_31 : decode cX1_middlePlace 31 = .ok (.iload 4, 2) := by decide +kernel
theorem dX1_middlePlace_33 : decode cX1_middlePlace 33 = .ok (.aload_n 0, 1) := by decide +kernel
theorem dX1_middlePlace_34 : decode cX1_middlePlace 34 = .ok (.iload 5, 2) := by decide +kernel
theorem dX1_middlePlace_36 : decode cX1_middlePlace 36 = .ok (.iload_n 3, 1) := by decide +kernel
theorem dX1_middlePlace_37 : decode cX1_middlePlace 37 = .ok (.bipush 10, 2) := by decide +kernel
theorem dX1_middlePlace_39 : decode cX1_middlePlace 39 = .ok (.irem, 1) := by decide +kernel
theorem dX1_middlePlace_40 : decode cX1_middlePlace 40 = .ok (.iload_n 3, 1) := by decide +kernel
theorem dX1_middlePlace_41 : decode cX1_middlePlace 41 = .ok (.bipush 10, 2) := by decide +kernel
theorem dX1_middlePlace_43 : decode cX1_middlePlace 43 = .ok (.idiv, 1) := by decide +kernel
theorem dX1_middlePlace_44 : decode cX1_middlePlace 44 = .ok (.invokevirtual 51, 3) := by decide +kernel
theorem dX1_middlePlace_47 : decode cX1_middlePlace 47 = .ok (.iadd, 1) := by decide +kernel
theorem dX1_middlePlace_48 : decode cX1_middlePlace 48 = .ok (.istore 4, 2) := by decide +kernel
theorem dX1_middlePlace_50 : decode cX1_middlePlace 50 = .ok (.iinc 5 1, 3) := by decide +kernel
theorem dX1_middlePlace_53 : decode cX1_middlePlace 53 = .ok (.goto (-34), 3) := by decide +kernel
theorem dX1_middlePlace_56 : decode cX1_middlePlace 56 = .ok (.iload 4, 2) := by decide +kernel
theorem dX1_middlePlace_58 : decode cX1_middlePlace 58 = .ok (.iload_n 2, 1) := by decide +kernel
theorem dX1_middlePlace_59 : decode cX1_middlePlace 59 = .ok (.if_icmp .ge 8, 3) := by decide +kernel
theorem dX1_middlePlace_62 : decode cX1_middlePlace 62 = .ok (.iload 4, 2) := by decide +kernel
theorem dX1_middlePlace_64 : decode cX1_middlePlace 64 = .ok (.istore_n 2, 1) := by decide +kernel
theorem dX1_middlePlace_65 : decode cX1_middlePlace 65 = .ok (.iload_n 3, 1) := by decide +kernel
theorem dX1_middlePlace_66 : decode cX1_middlePlace 66 = .ok (.istore_n 1, 1) := by decide +kernel
theorem dX1_middlePlace_67 : decode cX1_middlePlace 67 = .ok (.iinc 3 1, 3) := by decide +kernel
theorem dX1_middlePlace_70 : decode cX1_middlePlace 70 = .ok (.goto (-63), 3) := by decide +kernel
theorem dX1_middlePlace_73 : decode cX1_middlePlace 73 = .ok (.iload_n 1, 1) := by decide +kernel
theorem dX1_middlePlace_74 : decode cX1_middlePlace 74 = .ok (.ireturn, 1) := by decide +kernel
theorem dX2_init_0 : decode cX2_init 0 = .ok (.aload_n 0, 1) := by decide +kernel
theorem dX2_init_1 : decode cX2_init 1 = .ok (.invokespecial 3, 3) := by decide +kernel
theorem dX2_init_4 : decode cX2_init 4 = .ok (.aload_n 0, 1) := by decide +kernel
theorem dX2_init_5 : decode cX2_init 5 = .ok (.aload_n 1, 1) := by decide +kernel
theorem dX2_init_6 : decode cX2_init 6 = .ok (.putfield 9, 3) := by decide +kernel
theorem dX2_init_9 : decode cX2_init 9 = .ok (.aload_n 0, 1) := by decide +kernel
theorem dX2_init_10 : decode cX2_init 10 = .ok (.aload_n 2, 1) := by decide +kernel
theorem dX2_init_11 : decode cX2_init 11 = .ok (.putfield 15, 3) := by decide +kernel
theorem dX2_init_14 : decode cX2_init 14 = .ok (.aload_n 0, 1) := by decide +kernel
theorem dX2_init_15 : decode cX2_init 15 = .ok (.bipush 64, 2) := by decide +kernel
theorem dX2_init_17 : decode cX2_init 17 = .ok (.newarray .int, 2) := by decide +kernel
theorem dX2_init_19 : decode cX2_init 19 = .ok (.putfield 19, 3) := by decide +kernel
theorem dX2_init_22 : decode cX2_init 22 = .ok (.aload_n 0, 1) := by decide +kernel
theorem dX2_init_23 : decode cX2_init 23 = .ok (.bipush 64, 2) := by decide +kernel
theorem dX2_init_25 : decode cX2_init 25 = .ok (.newarray .int, 2) := by decide +kernel
theorem dX2_init_27 : decode cX2_init 27 = .ok (.putfield 23, 3) := by decide +kernel
theorem dX2_init_30 : decode cX2_init 30 = .ok (.aload_n 0, 1) := by decide +kernel
theorem dX2_init_31 : decode cX2_init 31 = .ok (.bipush 64, 2) := by decide +kernel
theorem dX2_init_33 : decode cX2_init 33 = .ok (.newarray .int, 2) := by decide +kernel
theorem dX2_init_35 : decode cX2_init 35 = .ok (.putfield 26, 3) := by decide +kernel
theorem dX2_init_38 : decode cX2_init 38 = .ok (.aload_n 0, 1) := by decide +kernel
theorem dX2_init_39 : decode cX2_init 39 = .ok (.bipush 64, 2) := by decide +kernel
theorem dX2_init_41 : decode cX2_init 41 = .ok (.newarray .int, 2) := by decide +kernel
theorem dX2_init_43 : decode cX2_init 43 = .ok (.putfield 29, 3) := by decide +kernel
theorem dX2_init_46 : decode cX2_init 46 = .ok (.return_, 1) := by decide +kernel
theorem dX2_lay_0 : decode cX2_lay 0 = .ok (.aload_n 0, 1) := by decide +kernel
theorem dX2_lay_1 : decode cX2_lay 1 = .ok (.aload_n 1, 1) := by decide +kernel
theorem dX2_lay_2 : decode cX2_lay 2 = .ok (.iload_n 2, 1) := by decide +kernel
theorem dX2_lay_3 : decode cX2_lay 3 = .ok (.aload_n 0, 1) := by decide +kernel
theorem dX2_lay_4 : decode cX2_lay 4 = .ok (.getfield 19, 3) := by decide +kernel
theorem dX2_lay_7 : decode cX2_lay 7 = .ok (.invokevirtual 32, 3) := by decide +kernel
theorem dX2_lay_10 : decode cX2_lay 10 = .ok (.aload_n 0, 1) := by decide +kernel
theorem dX2_lay_11 : decode cX2_lay 11 = .ok (.aload_n 1, 1) := by decide +kernel
theorem dX2_lay_12 : decode cX2_lay 12 = .ok (.iload_n 3, 1) := by decide +kernel
theorem dX2_lay_13 : decode cX2_lay 13 = .ok (.aload_n 0, 1) := by decide +kernel
theorem dX2_lay_14 : decode cX2_lay 14 = .ok (.getfield 23, 3) := by decide +kernel
theorem dX2_lay_17 : decode cX2_lay 17 = .ok (.invokevirtual 32, 3) := by decide +kernel
theorem dX2_lay_20 : decode cX2_lay 20 = .ok (.iconst 0, 1) := by decide +kernel
theorem dX2_lay_21 : decode cX2_lay 21 = .ok (.istore 4, 2) := by decide +kernel
theorem dX2_lay_23 : decode cX2_lay 23 = .ok (.iload 4, 2) := by decide +kernel
theorem dX2_lay_25 : decode cX2_lay 25 = .ok (.aload_n 0, 1) := by decide +kernel
theorem dX2_lay_26 : decode cX2_lay 26 = .ok (.getfield 26, 3) := by decide +kernel
theorem dX2_lay_29 : decode cX2_lay 29 = .ok (.arraylength, 1) := by decide +kernel
theorem dX2_lay_30 : decode cX2_lay 30 = .ok (.if_icmp .ge 25, 3) := by decide +kernel
theorem dX2_lay_33 : decode cX2_lay 33 = .ok (.aload_n 0, 1) := by decide +kernel
theorem dX2_lay_34 : decode cX2_lay 34 = .ok (.getfield 26, 3) := by decide +kernel
theorem dX2_lay_37 : decode cX2_lay 37 = .ok (.iload 4, 2) := by decide +kernel
theorem dX2_lay_39 : decode cX2_lay 39 = .ok (.iconst 0, 1) := by decide +kernel
theorem dX2_lay_40 : decode cX2_lay 40 = .ok (.iastore, 1) := by decide +kernel
theorem dX2_lay_41 : decode cX2_lay 41 = .ok (.aload_n 0, 1) := by decide +kernel
theorem dX2_lay_42 : decode cX2_lay 42 = .ok (.getfield 29, 3) := by decide +kernel
theorem dX2_lay_45 : decode cX2_lay 45 = .ok (.iload 4, 2) := by decide +kernel
theorem dX2_lay_47 : decode cX2_lay 47 = .ok (.iconst 0, 1) := by decide +kernel
theorem dX2_lay_48 : decode cX2_lay 48 = .ok (.iastore, 1) := by decide +kernel
theorem dX2_lay_49 : decode cX2_lay 49 = .ok (.iinc 4 1, 3) := by decide +kernel
theorem dX2_lay_52 : decode cX2_lay 52 = .ok (.goto (-29), 3) := by decide +kernel
theorem dX2_lay_55 : decode cX2_lay 55 = .ok (.iconst 0, 1) := by decide +kernel
theorem dX2_lay_56 : decode cX2_lay 56 = .ok (.istore 4, 2) := by decide +kernel
theorem dX2_lay_58 : decode cX2_lay 58 = .ok (.iload 4, 2) := by decide +kernel
theorem dX2_lay_60 : decode cX2_lay 60 = .ok (.aload_n 0, 1) := by decide +kernel
theorem dX2_lay_61 : decode cX2_lay 61 = .ok (.getfield 9, 3) := by decide +kernel
theorem dX2_lay_64 : decode cX2_lay 64 = .ok (.getfield 36, 3) := by decide +kernel
theorem dX2_lay_67 : decode cX2_lay 67 = .ok (.if_icmp .ge 178, 3) := by decide +kernel
theorem dX2_lay_70 : decode cX2_lay 70 = .ok (.aload_n 0, 1) := by decide +kernel
theorem dX2_lay_71 : decode cX2_lay 71 = .ok (.getfield 15, 3) := by decide +kernel
theorem dX2_lay_74 : decode cX2_lay 74 = .ok (.aload_n 1, 1) := by decide +kernel
theorem dX2_lay_75 : decode cX2_lay 75 = .ok (.iload 4, 2) := by decide +kernel
theorem dX2_lay_77 : decode cX2_lay 77 = .ok (.invokevirtual 42, 3) := by decide +kernel
theorem dX2_lay_80 : decode cX2_lay 80 = .ok (.pop, 1) := by decide +kernel
theorem dX2_lay_81 : decode cX2_lay 81 = .ok (.iconst 0, 1) := by decide +kernel
theorem dX2_lay_82 : decode cX2_lay 82 = .ok (.istore 5, 2) := by decide +kernel
theorem dX2_lay_84 : decode cX2_lay 84 = .ok (.iload 5, 2) := by decide +kernel
theorem dX2_lay_86 : decode cX2_lay 86 = .ok (.aload_n 0, 1) := by decide +kernel
theorem dX2_lay_87 : decode cX2_lay 87 = .ok (.getfield 9, 3) := by decide +kernel
theorem dX2_lay_90 : decode cX2_lay 90 = .ok (.getfield 36, 3) := by decide +kernel
theorem dX2_lay_93 : decode cX2_lay 93 = .ok (.if_icmp .ge 146, 3) := by decide +kernel
theorem dX2_lay_96 : decode cX2_lay 96 = .ok (.iconst 0, 1) := by decide +kernel
theorem dX2_lay_97 : decode cX2_lay 97 = .ok (.istore 6, 2) := by decide +kernel
theorem dX2_lay_99 : decode cX2_lay 99 = .ok (.iload 6, 2) := by decide +kernel
theorem dX2_lay_101 : decode cX2_lay 101 = .ok (.aload_n 0, 1) := by decide +kernel
theorem dX2_lay_102 : decode cX2_lay 102 = .ok (.getfield 9, 3) := by decide +kernel
theorem dX2_lay_105 : decode cX2_lay 105 = .ok (.getfield 36, 3) := by decide +kernel
theorem dX2_lay_108 : decode cX2_lay 108 = .ok (.if_icmp .ge 125, 3) := by decide +kernel
theorem dX2_lay_111 : decode cX2_lay 111 = .ok (.aload_n 0, 1) := by decide +kernel
theorem dX2_lay_112 : decode cX2_lay 112 = .ok (.getfield 15, 3) := by decide +kernel
theorem dX2_lay_115 : decode cX2_lay 115 = .ok (.getfield 48, 3) := by decide +kernel
theorem dX2_lay_118 : decode cX2_lay 118 = .ok (.iload_n 2, 1) := by decide +kernel
theorem dX2_lay_119 : decode cX2_lay 119 = .ok (.aload_n 0, 1) := by decide +kernel
theorem dX2_lay_120 : decode cX2_lay 120 = .ok (.getfield 19, 3) := by decide +kernel
theorem dX2_lay_123 : decode cX2_lay 123 = .ok (.iload 5, 2) := by decide +kernel
theorem dX2_lay_125 : decode cX2_lay 125 = .ok (.bipush 8, 2) := by decide +kernel
theorem dX2_lay_127 : decode cX2_lay 127 = .ok (.imul, 1) := by decide +kernel
theorem dX2_lay_128 : decode cX2_lay 128 = .ok (.iload 4, 2) := by decide +kernel
theorem dX2_lay_130 : decode cX2_lay 130 = .ok (.iadd, 1) := by decide +kernel
theorem dX2_lay_131 : decode cX2_lay 131 = .ok (.iaload, 1) := by decide +kernel
theorem dX2_lay_132 : decode cX2_lay 132 = .ok (.iastore, 1) := by decide +kernel
theorem dX2_lay_133 : decode cX2_lay 133 = .ok (.aload_n 0, 1) := by decide +kernel
theorem dX2_lay_134 : decode cX2_lay 134 = .ok (.getfield 15, 3) := by decide +kernel
theorem dX2_lay_137 : decode cX2_lay 137 = .ok (.getfield 48, 3) := by decide +kernel
theorem dX2_lay_140 : decode cX2_lay 140 = .ok (.iload_n 3, 1) := by decide +kernel
theorem dX2_lay_141 : decode cX2_lay 141 = .ok (.aload_n 0, 1) := by decide +kernel
theorem dX2_lay_142 : decode cX2_lay 142 = .ok (.getfield 23, 3) := by decide +kernel
theorem dX2_lay_145 : decode cX2_lay 145 = .ok (.iload 6, 2) := by decide +kernel
theorem dX2_lay_147 : decode cX2_lay 147 = .ok (.bipush 8, 2) := by decide +kernel
theorem dX2_lay_149 : decode cX2_lay 149 = .ok (.imul, 1) := by decide +kernel
theorem dX2_lay_150 : decode cX2_lay 150 = .ok (.iload 4, 2) := by decide +kernel
theorem dX2_lay_152 : decode cX2_lay 152 = .ok (.iadd, 1) := by decide +kernel
theorem dX2_lay_153 : decode cX2_lay 153 = .ok (.iaload, 1) := by decide +kernel
theorem dX2_lay_154 : decode cX2_lay 154 = .ok (.iastore, 1) := by decide +kernel
theorem dX2_lay_155 : decode cX2_lay 155 = .ok (.aload_n 0, 1) := by decide +kernel
theorem dX2_lay_156 : decode cX2_lay 156 = .ok (.getfield 15, 3) := by decide +kernel
theorem dX2_lay_159 : decode cX2_lay 159 = .ok (.aload_n 0, 1) := by decide +kernel
theorem dX2_lay_160 : decode cX2_lay 160 = .ok (.getfield 9, 3) := by decide +kernel
theorem dX2_lay_163 : decode cX2_lay 163 = .ok (.iload 4, 2) := by decide +kernel
theorem dX2_lay_165 : decode cX2_lay 165 = .ok (.invokevirtual 51, 3) := by decide +kernel
theorem dX2_lay_168 : decode cX2_lay 168 = .ok (.invokevirtual 55, 3) := by decide +kernel
theorem dX2_lay_171 : decode cX2_lay 171 = .ok (.istore 7, 2) := by decide +kernel
theorem dX2_lay_173 : decode cX2_lay 173 = .ok (.aload_n 0, 1) := by decide +kernel
theorem dX2_lay_174 : decode cX2_lay 174 = .ok (.getfield 26, 3) := by decide +kernel
theorem dX2_lay_177 : decode cX2_lay 177 = .ok (.iload 5, 2) := by decide +kernel
theorem dX2_lay_179 : decode cX2_lay 179 = .ok (.bipush 8, 2) := by decide +kernel
theorem dX2_lay_181 : decode cX2_lay 181 = .ok (.imul, 1) := by decide +kernel
theorem dX2_lay_182 : decode cX2_lay 182 = .ok (.iload 6, 2) := by decide +kernel
theorem dX2_lay_184 : decode cX2_lay 184 = .ok (.iadd, 1) := by decide +kernel
theorem dX2_lay_185 : decode cX2_lay 185 = .ok (.dup2, 1) := by decide +kernel
theorem dX2_lay_186 : decode cX2_lay 186 = .ok (.iaload, 1) := by decide +kernel
theorem dX2_lay_187 : decode cX2_lay 187 = .ok (.iload 7, 2) := by decide +kernel
theorem dX2_lay_189 : decode cX2_lay 189 = .ok (.iload_n 2, 1) := by decide +kernel
theorem dX2_lay_190 : decode cX2_lay 190 = .ok (.if_icmp .ne 7, 3) := by decide +kernel
theorem dX2_lay_193 : decode cX2_lay 193 = .ok (.iconst 1, 1) := by decide +kernel
theorem dX2_lay_194 : decode cX2_lay 194 = .ok (.goto 4, 3) := by decide +kernel
theorem dX2_lay_197 : decode cX2_lay 197 = .ok (.iconst 0, 1) := by decide +kernel
theorem dX2_lay_198 : decode cX2_lay 198 = .ok (.iadd, 1) := by decide +kernel
theorem dX2_lay_199 : decode cX2_lay 199 = .ok (.iastore, 1) := by decide +kernel
theorem dX2_lay_200 : decode cX2_lay 200 = .ok (.aload_n 0, 1) := by decide +kernel
theorem dX2_lay_201 : decode cX2_lay 201 = .ok (.getfield 29, 3) := by decide +kernel
theorem dX2_lay_204 : decode cX2_lay 204 = .ok (.iload 5, 2) := by decide +kernel
theorem dX2_lay_206 : decode cX2_lay 206 = .ok (.bipush 8, 2) := by decide +kernel
theorem dX2_lay_208 : decode cX2_lay 208 = .ok (.imul, 1) := by decide +kernel
theorem dX2_lay_209 : decode cX2_lay 209 = .ok (.iload 6, 2) := by decide +kernel
theorem dX2_lay_211 : decode cX2_lay 211 = .ok (.iadd, 1) := by decide +kernel
theorem dX2_lay_212 : decode cX2_lay 212 = .ok (.dup2, 1) := by decide +kernel
theorem dX2_lay_213 : decode cX2_lay 213 = .ok (.iaload, 1) := by decide +kernel
theorem dX2_lay_214 : decode cX2_lay 214 = .ok (.iload 7, 2) := by decide +kernel
theorem dX2_lay_216 : decode cX2_lay 216 = .ok (.iload_n 3, 1) := by decide +kernel
theorem dX2_lay_217 : decode cX2_lay 217 = .ok (.if_icmp .ne 7, 3) := by decide +kernel
theorem dX2_lay_220 : decode cX2_lay 220 = .ok (.iconst 1, 1) := by decide +kernel
theorem dX2_lay_221 : decode cX2_lay 221 = .ok (.goto 4, 3) := by decide +kernel
theorem dX2_lay_224 : decode cX2_lay 224 = .ok (.iconst 0, 1) := by decide +kernel
theorem dX2_lay_225 : decode cX2_lay 225 = .ok (.iadd, 1) := by decide +kernel
theorem dX2_lay_226 : decode cX2_lay 226 = .ok (.iastore, 1) := by decide +kernel
theorem dX2_lay_227 : decode cX2_lay 227 = .ok (.iinc 6 1, 3) := by decide +kernel
theorem dX2_lay_230 : decode cX2_lay 230 = .ok (.goto (-131), 3) := by decide +kernel
theorem dX2_lay_233 : decode cX2_lay 233 = .ok (.iinc 5 1, 3) := by decide +kernel
theorem dX2_lay_236 : decode cX2_lay 236 = .ok (.goto (-152), 3) := by decide +kernel
theorem dX2_lay_239 : decode cX2_lay 239 = .ok (.iinc 4 1, 3) := by decide +kernel
theorem dX2_lay_242 : decode cX2_lay 242 = .ok (.goto (-184), 3) := by decide +kernel
theorem dX2_lay_245 : decode cX2_lay 245 = .ok (.return_, 1) := by decide +kernel
theorem dX2_setDraws_0 : decode cX2_setDraws 0 = .ok (.iconst 0, 1) := by decide +kernel
theorem dX2_setDraws_1 : decode cX2_setDraws 1 = .ok (.istore 4, 2) := by decide +kernel
theorem dX2_setDraws_3 : decode cX2_setDraws 3 = .ok (.iload 4, 2) := by decide +kernel
theorem dX2_setDraws_5 : decode cX2_setDraws 5 = .ok (.aload_n 0, 1) := by decide +kernel
theorem dX2_setDraws_6 : decode cX2_setDraws 6 = .ok (.getfield 9, 3) := by decide +kernel
theorem dX2_setDraws_9 : decode cX2_setDraws 9 = .ok (.getfield 36, 3) := by decide +kernel
theorem dX2_setDraws_12 : decode cX2_setDraws 12 = .ok (.if_icmp .ge 74, 3) := by decide +kernel
theorem dX2_setDraws_15 : decode cX2_setDraws 15 = .ok (.aload_n 1, 1) := by decide +kernel
theorem dX2_setDraws_16 : decode cX2_setDraws 16 = .ok (.iload_n 2, 1) := by decide +kernel
theorem dX2_setDraws_17 : decode cX2_setDraws 17 = .ok (.aload_n 0, 1) := by decide +kernel
theorem dX2_setDraws_18 : decode cX2_setDraws 18 = .ok (.getfield 9, 3) := by decide +kernel
theorem dX2_setDraws_21 : decode cX2_setDraws 21 = .ok (.iload 4, 2) := by decide +kernel
theorem dX2_setDraws_23 : decode cX2_setDraws 23 = .ok (.invokevirtual 58, 3) := by decide +kernel
theorem dX2_setDraws_26 : decode cX2_setDraws 26 = .ok (.aload_n 0, 1) := by decide +kernel
theorem dX2_setDraws_27 : decode cX2_setDraws 27 = .ok (.getfield 9, 3) := by decide +kernel
theorem dX2_setDraws_30 : decode cX2_setDraws 30 = .ok (.iload 4, 2) := by decide +kernel
theorem dX2_setDraws_32 : decode cX2_setDraws 32 = .ok (.invokevirtual 61, 3) := by decide +kernel
theorem dX2_setDraws_35 : decode cX2_setDraws 35 = .ok (.invokevirtual 64, 3) := by decide +kernel
theorem dX2_setDraws_38 : decode cX2_setDraws 38 = .ok (.iconst 0, 1) := by decide +kernel
theorem dX2_setDraws_39 : decode cX2_setDraws 39 = .ok (.istore 5, 2) := by decide +kernel
theorem dX2_setDraws_41 : decode cX2_setDraws 41 = .ok (.iload 5, 2) := by decide +kernel
theorem dX2_setDraws_43 : decode cX2_setDraws 43 = .ok (.aload_n 0, 1) := by decide +kernel
theorem dX2_setDraws_44 : decode cX2_setDraws 44 = .ok (.getfield 9, 3) := by decide +kernel
theorem dX2_setDraws_47 : decode cX2_setDraws 47 = .ok (.getfield 36, 3) := by decide +kernel
theorem dX2_setDraws_50 : decode cX2_setDraws 50 = .ok (.if_icmp .ge 30, 3) := by decide +kernel
theorem dX2_setDraws_53 : decode cX2_setDraws 53 = .ok (.aload_n 3, 1) := by decide +kernel
theorem dX2_setDraws_54 : decode cX2_setDraws 54 = .ok (.iload 4, 2) := by decide +kernel
theorem dX2_setDraws_56 : decode cX2_setDraws 56 = .ok (.bipush 8, 2) := by decide +kernel
theorem dX2_setDraws_58 : decode cX2_setDraws 58 = .ok (.imul, 1) := by decide +kernel
theorem dX2_setDraws_59 : decode cX2_setDraws 59 = .ok (.iload 5, 2) := by decide +kernel
theorem dX2_setDraws_61 : decode cX2_setDraws 61 = .ok (.iadd, 1) := by decide +kernel
theorem dX2_setDraws_62 : decode cX2_setDraws 62 = .ok (.aload_n 0, 1) := by decide +kernel
theorem dX2_setDraws_63 : decode cX2_setDraws 63 = .ok (.getfield 15, 3) := by decide +kernel
theorem dX2_setDraws_66 : decode cX2_setDraws 66 = .ok (.aload_n 1, 1) := by decide +kernel
theorem dX2_setDraws_67 : decode cX2_setDraws 67 = .ok (.iload 5, 2) := by decide +kernel
theorem dX2_setDraws_69 : decode cX2_setDraws 69 = .ok (.iload_n 2, 1) := by decide +kernel
theorem dX2_setDraws_70 : decode cX2_setDraws 70 = .ok (.invokevirtual 70, 3) := by decide +kernel
theorem dX2_setDraws_73 : decode cX2_setDraws 73 = .ok (.iastore, 1) := by decide +kernel
theorem dX2_setDraws_74 : decode cX2_setDraws 74 = .ok (.iinc 5 1, 3) := by decide +kernel
theorem dX2_setDraws_77 : decode cX2_setDraws 77 = .ok (.goto (-36), 3) := by decide +kernel
theorem dX2_setDraws_80 : decode cX2_setDraws 80 = .ok (.iinc 4 1, 3) := by decide +kernel
theorem dX2_setDraws_83 : decode cX2_setDraws 83 = .ok (.goto (-80), 3) := by decide +kernel
theorem dX2_setDraws_86 : decode cX2_setDraws 86 = .ok (.return_, 1) := by decide +kernel
theorem dX2_isAtRest_0 : decode cX2_isAtRest 0 = .ok (.iload_n 1, 1) := by decide +kernel
theorem dX2_isAtRest_1 : decode cX2_isAtRest 1 = .ok (.bipush 8, 2) := by decide +kernel
theorem dX2_isAtRest_3 : decode cX2_isAtRest 3 = .ok (.imul, 1) := by decide +kernel
theorem dX2_isAtRest_4 : decode cX2_isAtRest 4 = .ok (.iload_n 2, 1) := by decide +kernel
theorem dX2_isAtRest_5 : decode cX2_isAtRest 5 = .ok (.iadd, 1) := by decide +kernel
theorem dX2_isAtRest_6 : decode cX2_isAtRest 6 = .ok (.istore_n 3, 1) := by decide +kernel
theorem dX2_isAtRest_7 : decode cX2_isAtRest 7 = .ok (.iconst 0, 1) := by decide +kernel
theorem dX2_isAtRest_8 : decode cX2_isAtRest 8 = .ok (.istore 4, 2) := by decide +kernel
theorem dX2_isAtRest_10 : decode cX2_isAtRest 10 = .ok (.iload 4, 2) := by decide +kernel
theorem dX2_isAtRest_12 : decode cX2_isAtRest 12 = .ok (.aload_n 0, 1) := by decide +kernel
theorem dX2_isAtRest_13 : decode cX2_isAtRest 13 = .ok (.getfield 9, 3) := by decide +kernel
theorem dX2_isAtRest_16 : decode cX2_isAtRest 16 = .ok (.getfield 36, 3) := by decide +kernel
theorem dX2_isAtRest_19 : decode cX2_isAtRest 19 = .ok (.if_icmp .ge 53, 3) := by decide +kernel
theorem dX2_isAtRest_22 : decode cX2_isAtRest 22 = .ok (.aload_n 0, 1) := by decide +kernel
theorem dX2_isAtRest_23 : decode cX2_isAtRest 23 = .ok (.getfield 26, 3) := by decide +kernel
theorem dX2_isAtRest_26 : decode cX2_isAtRest 26 = .ok (.iload 4, 2) := by decide +kernel
theorem dX2_isAtRest_28 : decode cX2_isAtRest 28 = .ok (.bipush 8, 2) := by decide +kernel
theorem dX2_isAtRest_30 : decode cX2_isAtRest 30 = .ok (.imul, 1) := by decide +kernel
theorem dX2_isAtRest_31 : decode cX2_isAtRest 31 = .ok (.iload_n 2, 1) := by decide +kernel
theorem dX2_isAtRest_32 : decode cX2_isAtRest 32 = .ok (.iadd, 1) := by decide +kernel
theorem dX2_isAtRest_33 : decode cX2_isAtRest 33 = .ok (.iaload, 1) := by decide +kernel
theorem dX2_isAtRest_34 : decode cX2_isAtRest 34 = .ok (.aload_n 0, 1) := by decide +kernel
theorem dX2_isAtRest_35 : decode cX2_isAtRest 35 = .ok (.getfield 26, 3) := by decide +kernel
theorem dX2_isAtRest_38 : decode cX2_isAtRest 38 = .ok (.iload_n 3, 1) := by decide +kernel
theorem dX2_isAtRest_39 : decode cX2_isAtRest 39 = .ok (.iaload, 1) := by decide +kernel
theorem dX2_isAtRest_40 : decode cX2_isAtRest 40 = .ok (.if_icmp .gt 24, 3) := by decide +kernel
theorem dX2_isAtRest_43 : decode cX2_isAtRest 43 = .ok (.aload_n 0, 1) := by decide +kernel
theorem dX2_isAtRest_44 : decode cX2_isAtRest 44 = .ok (.getfield 29, 3) := by decide +kernel
theorem dX2_isAtRest_47 : decode cX2_isAtRest 47 = .ok (.iload_n 1, 1) := by decide +kernel
theorem dX2_isAtRest_48 : decode cX2_isAtRest 48 = .ok (.bipush 8, 2) := by decide +kernel
theorem dX2_isAtRest_50 : decode cX2_isAtRest 50 = .ok (.imul, 1) := by decide +kernel
theorem dX2_isAtRest_51 : decode cX2_isAtRest 51 = .ok (.iload 4, 2) := by decide +kernel
theorem dX2_isAtRest_53 : decode cX2_isAtRest 53 = .ok (.iadd, 1) := by decide +kernel
theorem dX2_isAtRest_54 : decode cX2_isAtRest 54 = .ok (.iaload, 1) := by decide +kernel
theorem dX2_isAtRest_55 : decode cX2_isAtRest 55 = .ok (.aload_n 0, 1) := by decide +kernel
theorem dX2_isAtRest_56 : decode cX2_isAtRest 56 = .ok (.getfield 29, 3) := by decide +kernel
theorem dX2_isAtRest_59 : decode cX2_isAtRest 59 = .ok (.iload_n 3, 1) := by decide +kernel
theorem dX2_isAtRest_60 : decode cX2_isAtRest 60 = .ok (.iaload, 1) := by decide +kernel
theorem dX2_isAtRest_61 : decode cX2_isAtRest 61 = .ok (.if_icmp .le 5, 3) := by decide +kernel
theorem dX2_isAtRest_64 : decode cX2_isAtRest 64 = .ok (.iconst 0, 1) := by decide +kernel
theorem dX2_isAtRest_65 : decode cX2_isAtRest 65 = .ok (.ireturn, 1) := by decide +kernel
theorem dX2_isAtRest_66 : decode cX2_isAtRest 66 = .ok (.iinc 4 1, 3) := by decide +kernel
theorem dX2_isAtRest_69 : decode cX2_isAtRest 69 = .ok (.goto (-59), 3) := by decide +kernel
theorem dX2_isAtRest_72 : decode cX2_isAtRest 72 = .ok (.iconst 1, 1) := by decide +kernel
theorem dX2_isAtRest_73 : decode cX2_isAtRest 73 = .ok (.ireturn, 1) := by decide +kernel
theorem dX2_worstAt_0 : decode cX2_worstAt 0 = .ok (.bipush 8, 2) := by decide +kernel
theorem dX2_worstAt_2 : decode cX2_worstAt 2 = .ok (.istore_n 2, 1) := by decide +kernel
theorem dX2_worstAt_3 : decode cX2_worstAt 3 = .ok (.iconst 0, 1) := by decide +kernel
theorem dX2_worstAt_4 : decode cX2_worstAt 4 = .ok (.istore_n 3, 1) := by decide +kernel
theorem dX2_worstAt_5 : decode cX2_worstAt 5 = .ok (.iload_n 3, 1) := by decide +kernel
theorem dX2_worstAt_6 : decode cX2_worstAt 6 = .ok (.aload_n 0, 1) := by decide +kernel
theorem dX2_worstAt_7 : decode cX2_worstAt 7 = .ok (.getfield 9, 3) := by decide +kernel
theorem dX2_worstAt_10 : decode cX2_worstAt 10 = .ok (.getfield 36, 3) := by decide +kernel
theorem dX2_worstAt_13 : decode cX2_worstAt 13 = .ok (.if_icmp .ge 37, 3) := by decide +kernel
theorem dX2_worstAt_16 : decode cX2_worstAt 16 = .ok (.iload_n 2, 1) := by decide +kernel
theorem dX2_worstAt_17 : decode cX2_worstAt 17 = .ok (.aload_n 0, 1) := by decide +kernel
theorem dX2_worstAt_18 : decode cX2_worstAt 18 = .ok (.getfield 26, 3) := by decide +kernel
theorem dX2_worstAt_21 : decode cX2_worstAt 21 = .ok (.iload_n 1, 1) := by decide +kernel
theorem dX2_worstAt_22 : decode cX2_worstAt 22 = .ok (.bipush 8, 2) := by decide +kernel
theorem dX2_worstAt_24 : decode cX2_worstAt 24 = .ok (.imul, 1) := by decide +kernel
theorem dX2_worstAt_25 : decode cX2_worstAt 25 = .ok (.iload_n 3, 1) := by decide +kernel
theorem dX2_worstAt_26 : decode cX2_worstAt 26 = .ok (.iadd, 1) := by decide +kernel
theorem dX2_worstAt_27 : decode cX2_worstAt 27 = .ok (.iaload, 1) := by decide +kernel
theorem dX2_worstAt_28 : decode cX2_worstAt 28 = .ok (.aload_n 0, 1) := by decide +kernel
theorem dX2_worstAt_29 : decode cX2_worstAt 29 = .ok (.getfield 29, 3) := by decide +kernel
theorem dX2_worstAt_32 : decode cX2_worstAt 32 = .ok (.iload_n 1, 1) := by decide +kernel
theorem dX2_worstAt_33 : decode cX2_worstAt 33 = .ok (.bipush 8, 2) := by decide +kernel
theorem dX2_worstAt_35 : decode cX2_worstAt 35 = .ok (.imul, 1) := by decide +kernel
theorem dX2_worstAt_36 : decode cX2_worstAt 36 = .ok (.iload_n 3, 1) := by decide +kernel
theorem dX2_worstAt_37 : decode cX2_worstAt 37 = .ok (.iadd, 1) := by decide +kernel
theorem dX2_worstAt_38 : decode cX2_worstAt 38 = .ok (.iaload, 1) := by decide +kernel
theorem dX2_worstAt_39 : decode cX2_worstAt 39 = .ok (.isub, 1) := by decide +kernel
theorem dX2_worstAt_40 : decode cX2_worstAt 40 = .ok (.invokestatic 74, 3) := by decide +kernel
theorem dX2_worstAt_43 : decode cX2_worstAt 43 = .ok (.istore_n 2, 1) := by decide +kernel
theorem dX2_worstAt_44 : decode cX2_worstAt 44 = .ok (.iinc 3 1, 3) := by decide +kernel
theorem dX2_worstAt_47 : decode cX2_worstAt 47 = .ok (.goto (-42), 3) := by decide +kernel
theorem dX2_worstAt_50 : decode cX2_worstAt 50 = .ok (.iload_n 2, 1) := by decide +kernel
theorem dX2_worstAt_51 : decode cX2_worstAt 51 = .ok (.ireturn, 1) := by decide +kernel
theorem dX3_init_0 : decode cX3_init 0 = .ok (.aload_n 0, 1) := by decide +kernel
theorem dX3_init_1 : decode cX3_init 1 = .ok (.invokespecial 5, 3) := by decide +kernel
theorem dX3_init_4 : decode cX3_init 4 = .ok (.aload_n 0, 1) := by decide +kernel
theorem dX3_init_5 : decode cX3_init 5 = .ok (.bipush 40, 2) := by decide +kernel
theorem dX3_init_7 : decode cX3_init 7 = .ok (.anewarray 11, 3) := by decide +kernel
theorem dX3_init_10 : decode cX3_init 10 = .ok (.putfield 13, 3) := by decide +kernel
theorem dX3_init_13 : decode cX3_init 13 = .ok (.iconst 0, 1) := by decide +kernel
theorem dX3_init_14 : decode cX3_init 14 = .ok (.istore_n 1, 1) := by decide +kernel
theorem dX3_init_15 : decode cX3_init 15 = .ok (.iload_n 1, 1) := by decide +kernel
theorem dX3_init_16 : decode cX3_init 16 = .ok (.bipush 40, 2) := by decide +kernel
theorem dX3_init_18 : decode cX3_init 18 = .ok (.if_icmp .ge 22, 3) := by decide +kernel
theorem dX3_init_21 : decode cX3_init 21 = .ok (.aload_n 0, 1) := by decide +kernel
theorem dX3_init_22 : decode cX3_init 22 = .ok (.getfield 13, 3) := by decide +kernel
theorem dX3_init_25 : decode cX3_init 25 = .ok (.iload_n 1, 1) := by decide +kernel
theorem dX3_init_26 : decode cX3_init 26 = .ok (.new 11, 3) := by decide +kernel
theorem dX3_init_29 : decode cX3_init 29 = .ok (.dup, 1) := by decide +kernel
theorem dX3_init_30 : decode cX3_init 30 = .ok (.invokespecial 17, 3) := by decide +kernel
theorem dX3_init_33 : decode cX3_init 33 = .ok (.aastore, 1) := by decide +kernel
theorem dX3_init_34 : decode cX3_init 34 = .ok (.iinc 1 1, 3) := by decide +kernel
theorem dX3_init_37 : decode cX3_init 37 = .ok (.goto (-22), 3) := by decide +kernel
theorem dX3_init_40 : decode cX3_init 40 = .ok (.aload_n 0, 1) := by decide +kernel
theorem dX3_init_41 : decode cX3_init 41 = .ok (.sipush 300, 3) := by decide +kernel
theorem dX3_init_44 : decode cX3_init 44 = .ok (.newarray .int, 2) := by decide +kernel
theorem dX3_init_46 : decode cX3_init 46 = .ok (.putfield 18, 3) := by decide +kernel
theorem dX3_init_49 : decode cX3_init 49 = .ok (.aload_n 0, 1) := by decide +kernel
theorem dX3_init_50 : decode cX3_init 50 = .ok (.new 11, 3) := by decide +kernel
theorem dX3_init_53 : decode cX3_init 53 = .ok (.dup, 1) := by decide +kernel
theorem dX3_init_54 : decode cX3_init 54 = .ok (.invokespecial 17, 3) := by decide +kernel
theorem dX3_init_57 : decode cX3_init 57 = .ok (.putfield 22, 3) := by decide +kernel
theorem dX3_init_60 : decode cX3_init 60 = .ok (.aload_n 0, 1) := by decide +kernel
theorem dX3_init_61 : decode cX3_init 61 = .ok (.sipush 300, 3) := by decide +kernel
theorem dX3_init_64 : decode cX3_init 64 = .ok (.newarray .int, 2) := by decide +kernel
theorem dX3_init_66 : decode cX3_init 66 = .ok (.putfield 26, 3) := by decide +kernel
theorem dX3_init_69 : decode cX3_init 69 = .ok (.return_, 1) := by decide +kernel
theorem dX3_forget_0 : decode cX3_forget 0 = .ok (.aload_n 0, 1) := by decide +kernel
theorem dX3_forget_1 : decode cX3_forget 1 = .ok (.iconst 0, 1) := by decide +kernel
theorem dX3_forget_2 : decode cX3_forget 2 = .ok (.putfield 29, 3) := by decide +kernel
theorem dX3_forget_5 : decode cX3_forget 5 = .ok (.aload_n 0, 1) := by decide +kernel
theorem dX3_forget_6 : decode cX3_forget 6 = .ok (.iconst 0, 1) := by decide +kernel
theorem dX3_forget_7 : decode cX3_forget 7 = .ok (.putfield 33, 3) := by decide +kernel
theorem dX3_forget_10 : decode cX3_forget 10 = .ok (.aload_n 0, 1) := by decide +kernel
theorem dX3_forget_11 : decode cX3_forget 11 = .ok (.iconst 0, 1) := by decide +kernel
theorem dX3_forget_12 : decode cX3_forget 12 = .ok (.putfield 36, 3) := by decide +kernel
theorem dX3_forget_15 : decode cX3_forget 15 = .ok (.return_, 1) := by decide +kernel
theorem dX3_remember_0 : decode cX3_remember 0 = .ok (.aload_n 0, 1) := by decide +kernel
theorem dX3_remember_1 : decode cX3_remember 1 = .ok (.getfield 13, 3) := by decide +kernel
theorem dX3_remember_4 : decode cX3_remember 4 = .ok (.aload_n 0, 1) := by decide +kernel
theorem dX3_remember_5 : decode cX3_remember 5 = .ok (.getfield 29, 3) := by decide +kernel
theorem dX3_remember_8 : decode cX3_remember 8 = .ok (.aaload, 1) := by decide +kernel
theorem dX3_remember_9 : decode cX3_remember 9 = .ok (.aload_n 1, 1) := by decide +kernel
theorem dX3_remember_10 : decode cX3_remember 10 = .ok (.invokevirtual 40, 3) := by decide +kernel
theorem dX3_remember_13 : decode cX3_remember 13 = .ok (.aload_n 0, 1) := by decide +kernel
theorem dX3_remember_14 : decode cX3_remember 14 = .ok (.aload_n 0, 1) := by decide +kernel
theorem dX3_remember_15 : decode cX3_remember 15 = .ok (.getfield 29, 3) := by decide +kernel
theorem dX3_remember_18 : decode cX3_remember 18 = .ok (.iconst 1, 1) := by decide +kernel
theorem dX3_remember_19 : decode cX3_remember 19 = .ok (.iadd, 1) := by decide +kernel
theorem dX3_remember_20 : decode cX3_remember 20 = .ok (.bipush 40, 2) := by decide +kernel
theorem dX3_remember_22 : decode cX3_remember 22 = .ok (.irem, 1) := by decide +kernel
theorem dX3_remember_23 : decode cX3_remember 23 = .ok (.putfield 29, 3) := by decide +kernel
theorem dX3_remember_26 : decode cX3_remember 26 = .ok (.aload_n 0, 1) := by decide +kernel
theorem dX3_remember_27 : decode cX3_remember 27 = .ok (.aload_n 0, 1) := by decide +kernel
theorem dX3_remember_28 : decode cX3_remember 28 = .ok (.getfield 33, 3) := by decide +kernel
theorem dX3_remember_31 : decode cX3_remember 31 = .ok (.iconst 1, 1) := by decide +kernel
theorem dX3_remember_32 : decode cX3_remember 32 = .ok (.iadd, 1) := by decide +kernel
theorem dX3_remember_33 : decode cX3_remember 33 = .ok (.bipush 40, 2) := by decide +kernel
theorem dX3_remember_35 : decode cX3_remember 35 = .ok (.invokestatic 44, 3) := by decide +kernel
theorem dX3_remember_38 : decode cX3_remember 38 = .ok (.putfield 33, 3) := by decide +kernel
theorem dX3_remember_41 : decode cX3_remember 41 = .ok (.return_, 1) := by decide +kernel
theorem dX3_takeBack_0 : decode cX3_takeBack 0 = .ok (.aload_n 0, 1) := by decide +kernel
theorem dX3_takeBack_1 : decode cX3_takeBack 1 = .ok (.getfield 33, 3) := by decide +kernel
theorem dX3_takeBack_4 : decode cX3_takeBack 4 = .ok (.ifCond .ne 5, 3) := by decide +kernel
theorem dX3_takeBack_7 : decode cX3_takeBack 7 = .ok (.iconst 0, 1) := by decide +kernel
theorem dX3_takeBack_8 : decode cX3_takeBack 8 = .ok (.ireturn, 1) := by decide +kernel
theorem dX3_takeBack_9 : decode cX3_takeBack 9 = .ok (.aload_n 0, 1) := by decide +kernel
theorem dX3_takeBack_10 : decode cX3_takeBack 10 = .ok (.dup, 1) := by decide +kernel
theorem dX3_takeBack_11 : decode cX3_takeBack 11 = .ok (.getfield 33, 3) := by decide +kernel
theorem dX3_takeBack_14 : decode cX3_takeBack 14 = .ok (.iconst 1, 1) := by decide +kernel
theorem dX3_takeBack_15 : decode cX3_takeBack 15 = .ok (.isub, 1) := by decide +kernel
theorem dX3_takeBack_16 : decode cX3_takeBack 16 = .ok (.putfield 33, 3) := by decide +kernel
theorem dX3_takeBack_19 : decode cX3_takeBack 19 = .ok (.aload_n 0, 1) := by decide +kernel
theorem dX3_takeBack_20 : decode cX3_takeBack 20 = .ok (.aload_n 0, 1) := by decide +kernel
theorem dX3_takeBack_21 : decode cX3_takeBack 21 = .ok (.getfield 29, 3) := by decide +kernel
theorem dX3_takeBack_24 : decode cX3_takeBack 24 = .ok (.bipush 40, 2) := by decide +kernel
theorem dX3_takeBack_26 : decode cX3_takeBack 26 = .ok (.iadd, 1) := by decide +kernel
theorem dX3_takeBack_27 : decode cX3_takeBack 27 = .ok (.iconst 1, 1) := by decide +kernel
theorem dX3_takeBack_28 : decode cX3_takeBack 28 = .ok (.isub, 1) := by decide +kernel
theorem dX3_takeBack_29 : decode cX3_takeBack 29 = .ok (.bipush 40, 2) := by decide +kernel
theorem dX3_takeBack_31 : decode cX3_takeBack 31 = .ok (.irem, 1) := by decide +kernel
theorem dX3_takeBack_32 : decode cX3_takeBack 32 = .ok (.putfield 29, 3) := by decide +kernel
theorem dX3_takeBack_35 : decode cX3_takeBack 35 = .ok (.aload_n 1, 1) := by decide +kernel
theorem dX3_takeBack_36 : decode cX3_takeBack 36 = .ok (.aload_n 0, 1) := by decide +kernel
theorem dX3_takeBack_37 : decode cX3_takeBack 37 = .ok (.getfield 13, 3) := by decide +kernel
theorem dX3_takeBack_40 : decode cX3_takeBack 40 = .ok (.aload_n 0, 1) := by decide +kernel
theorem dX3_takeBack_41 : decode cX3_takeBack 41 = .ok (.getfield 29, 3) := by decide +kernel
theorem dX3_takeBack_44 : decode cX3_takeBack 44 = .ok (.aaload, 1) := by decide +kernel
theorem dX3_takeBack_45 : decode cX3_takeBack 45 = .ok (.invokevirtual 40, 3) := by decide +kernel
theorem dX3_takeBack_48 : decode cX3_takeBack 48 = .ok (.iconst 1, 1) := by decide +kernel
theorem dX3_takeBack_49 : decode cX3_takeBack 49 = .ok (.ireturn, 1) := by decide +kernel
theorem dX3_note_0 : decode cX3_note 0 = .ok (.aload_n 2, 1) := by decide +kernel
theorem dX3_note_1 : decode cX3_note 1 = .ok (.iconst 0, 1) := by decide +kernel
theorem dX3_note_2 : decode cX3_note 2 = .ok (.aload_n 0, 1) := by decide +kernel
theorem dX3_note_3 : decode cX3_note 3 = .ok (.getfield 18, 3) := by decide +kernel
theorem dX3_note_6 : decode cX3_note 6 = .ok (.aload_n 1, 1) := by decide +kernel
theorem dX3_note_7 : decode cX3_note 7 = .ok (.getfield 50, 3) := by decide +kernel
theorem dX3_note_10 : decode cX3_note 10 = .ok (.bipush 100, 2) := by decide +kernel
theorem dX3_note_12 : decode cX3_note 12 = .ok (.irem, 1) := by decide +kernel
theorem dX3_note_13 : decode cX3_note 13 = .ok (.iconst 3, 1) := by decide +kernel
theorem dX3_note_14 : decode cX3_note 14 = .ok (.imul, 1) := by decide +kernel
theorem dX3_note_15 : decode cX3_note 15 = .ok (.iconst 3, 1) := by decide +kernel
theorem dX3_note_16 : decode cX3_note 16 = .ok (.invokestatic 53, 3) := by decide +kernel
theorem dX3_note_19 : decode cX3_note 19 = .ok (.aload_n 1, 1) := by decide +kernel
theorem dX3_note_20 : decode cX3_note 20 = .ok (.dup, 1) := by decide +kernel
theorem dX3_note_21 : decode cX3_note 21 = .ok (.getfield 50, 3) := by decide +kernel
theorem dX3_note_24 : decode cX3_note 24 = .ok (.iconst 1, 1) := by decide +kernel
theorem dX3_note_25 : decode cX3_note 25 = .ok (.iadd, 1) := by decide +kernel
theorem dX3_note_26 : decode cX3_note 26 = .ok (.putfield 50, 3) := by decide +kernel
theorem dX3_note_29 : decode cX3_note 29 = .ok (.return_, 1) := by decide +kernel
theorem dX3_logged_0 : decode cX3_logged 0 = .ok (.aload_n 0, 1) := by decide +kernel
theorem dX3_logged_1 : decode cX3_logged 1 = .ok (.getfield 18, 3) := by decide +kernel
theorem dX3_logged_4 : decode cX3_logged 4 = .ok (.iload_n 1, 1) := by decide +kernel
theorem dX3_logged_5 : decode cX3_logged 5 = .ok (.bipush 100, 2) := by decide +kernel
theorem dX3_logged_7 : decode cX3_logged 7 = .ok (.irem, 1) := by decide +kernel
theorem dX3_logged_8 : decode cX3_logged 8 = .ok (.iconst 3, 1) := by decide +kernel
theorem dX3_logged_9 : decode cX3_logged 9 = .ok (.imul, 1) := by decide +kernel
theorem dX3_logged_10 : decode cX3_logged 10 = .ok (.iload_n 2, 1) := by decide +kernel
theorem dX3_logged_11 : decode cX3_logged 11 = .ok (.iadd, 1) := by decide +kernel
theorem dX3_logged_12 : decode cX3_logged 12 = .ok (.iaload, 1) := by decide +kernel
theorem dX3_logged_13 : decode cX3_logged 13 = .ok (.ireturn, 1) := by decide +kernel
theorem dX3_keepImage_0 : decode cX3_keepImage 0 = .ok (.aload_n 0, 1) := by decide +kernel
theorem dX3_keepImage_1 : decode cX3_keepImage 1 = .ok (.getfield 22, 3) := by decide +kernel
theorem dX3_keepImage_4 : decode cX3_keepImage 4 = .ok (.aload_n 1, 1) := by decide +kernel
theorem dX3_keepImage_5 : decode cX3_keepImage 5 = .ok (.invokevirtual 40, 3) := by decide +kernel
theorem dX3_keepImage_8 : decode cX3_keepImage 8 = .ok (.aload_n 0, 1) := by decide +kernel
theorem dX3_keepImage_9 : decode cX3_keepImage 9 = .ok (.getfield 18, 3) := by decide +kernel
theorem dX3_keepImage_12 : decode cX3_keepImage 12 = .ok (.iconst 0, 1) := by decide +kernel
theorem dX3_keepImage_13 : decode cX3_keepImage 13 = .ok (.aload_n 0, 1) := by decide +kernel
theorem dX3_keepImage_14 : decode cX3_keepImage 14 = .ok (.getfield 26, 3) := by decide +kernel
theorem dX3_keepImage_17 : decode cX3_keepImage 17 = .ok (.iconst 0, 1) := by decide +kernel
theorem dX3_keepImage_18 : decode cX3_keepImage 18 = .ok (.aload_n 0, 1) := by decide +kernel
theorem dX3_keepImage_19 : decode cX3_keepImage 19 = .ok (.getfield 18, 3) := by decide +kernel
theorem dX3_keepImage_22 : decode cX3_keepImage 22 = .ok (.arraylength, 1) := by decide +kernel
theorem dX3_keepImage_23 : decode cX3_keepImage 23 = .ok (.invokestatic 53, 3) := by decide +kernel
theorem dX3_keepImage_26 : decode cX3_keepImage 26 = .ok (.aload_n 0, 1) := by decide +kernel
theorem dX3_keepImage_27 : decode cX3_keepImage 27 = .ok (.iconst 1, 1) := by decide +kernel
theorem dX3_keepImage_28 : decode cX3_keepImage 28 = .ok (.putfield 36, 3) := by decide +kernel
theorem dX3_keepImage_31 : decode cX3_keepImage 31 = .ok (.return_, 1) := by decide +kernel
theorem dX3_showImage_0 : decode cX3_showImage 0 = .ok (.aload_n 0, 1) := by decide +kernel
theorem dX3_showImage_1 : decode cX3_showImage 1 = .ok (.getfield 36, 3) := by decide +kernel
theorem dX3_showImage_4 : decode cX3_showImage 4 = .ok (.ifCond .ne 5, 3) := by decide +kernel
theorem dX3_showImage_7 : decode cX3_showImage 7 = .ok (.iconst 0, 1) := by decide +kernel
theorem dX3_showImage_8 : decode cX3_showImage 8 = .ok (.ireturn, 1) := by decide +kernel
theorem dX3_showImage_9 : decode cX3_showImage 9 = .ok (.aload_n 1, 1) := by decide +kernel
theorem dX3_showImage_10 : decode cX3_showImage 10 = .ok (.aload_n 0, 1) := by decide +kernel
theorem dX3_showImage_11 : decode cX3_showImage 11 = .ok (.getfield 22, 3) := by decide +kernel
theorem dX3_showImage_14 : decode cX3_showImage 14 = .ok (.invokevirtual 40, 3) := by decide +kernel
theorem dX3_showImage_17 : decode cX3_showImage 17 = .ok (.aload_n 0, 1) := by decide +kernel
theorem dX3_showImage_18 : decode cX3_showImage 18 = .ok (.getfield 26, 3) := by decide +kernel
theorem dX3_showImage_21 : decode cX3_showImage 21 = .ok (.iconst 0, 1) := by decide +kernel
theorem dX3_showImage_22 : decode cX3_showImage 22 = .ok (.aload_n 0, 1) := by decide +kernel
theorem dX3_showImage_23 : decode cX3_showImage 23 = .ok (.getfield 18, 3) := by decide +kernel
theorem dX3_showImage_26 : decode cX3_showImage 26 = .ok (.iconst 0, 1) := by decide +kernel
theorem dX3_showImage_27 : decode cX3_showImage 27 = .ok (.aload_n 0, 1) := by decide +kernel
theorem dX3_showImage_28 : decode cX3_showImage 28 = .ok (.getfield 18, 3) := by decide +kernel
theorem dX3_showImage_31 : decode cX3_showImage 31 = .ok (.arraylength, 1) := by decide +kernel
theorem dX3_showImage_32 : decode cX3_showImage 32 = .ok (.invokestatic 53, 3) := by decide +kernel
theorem dX3_showImage_35 : decode cX3_showImage 35 = .ok (.aload_n 0, 1) := by decide +kernel
theorem dX3_showImage_36 : decode cX3_showImage 36 = .ok (.iconst 0, 1) := by decide +kernel
theorem dX3_showImage_37 : decode cX3_showImage 37 = .ok (.putfield 33, 3) := by decide +kernel
theorem dX3_showImage_40 : decode cX3_showImage 40 = .ok (.iconst 1, 1) := by decide +kernel
theorem dX3_showImage_41 : decode cX3_showImage 41 = .ok (.ireturn, 1) := by decide +kernel
theorem dX4_init_0 : decode cX4_init 0 = .ok (.aload_n 0, 1) := by decide +kernel
theorem dX4_init_1 : decode cX4_init 1 = .ok (.invokespecial 3, 3) := by decide +kernel
theorem dX4_init_4 : decode cX4_init 4 = .ok (.aload_n 0, 1) := by decide +kernel
theorem dX4_init_5 : decode cX4_init 5 = .ok (.sipush 240, 3) := by decide +kernel
theorem dX4_init_8 : decode cX4_init 8 = .ok (.newarray .int, 2) := by decide +kernel
theorem dX4_init_10 : decode cX4_init 10 = .ok (.putfield 11, 3) := by decide +kernel
theorem dX4_init_13 : decode cX4_init 13 = .ok (.aload_n 0, 1) := by decide +kernel
theorem dX4_init_14 : decode cX4_init 14 = .ok (.bipush 64, 2) := by decide +kernel
theorem dX4_init_16 : decode cX4_init 16 = .ok (.newarray .int, 2) := by decide +kernel
theorem dX4_init_18 : decode cX4_init 18 = .ok (.putfield 17, 3) := by decide +kernel
theorem dX4_init_21 : decode cX4_init 21 = .ok (.return_, 1) := by decide +kernel
theorem dX4_worth_0 : decode cX4_worth 0 = .ok (.iconst 0, 1) := by decide +kernel
theorem dX4_worth_1 : decode cX4_worth 1 = .ok (.istore_n 2, 1) := by decide +kernel
theorem dX4_worth_2 : decode cX4_worth 2 = .ok (.iconst 0, 1) := by decide +kernel
theorem dX4_worth_3 : decode cX4_worth 3 = .ok (.istore_n 3, 1) := by decide +kernel
theorem dX4_worth_4 : decode cX4_worth 4 = .ok (.iconst 0, 1) := by decide +kernel
theorem dX4_worth_5 : decode cX4_worth 5 = .ok (.istore 4, 2) := by decide +kernel
theorem dX4_worth_7 : decode cX4_worth 7 = .ok (.iload 4, 2) := by decide +kernel
theorem dX4_worth_9 : decode cX4_worth 9 = .ok (.aload_n 0, 1) := by decide +kernel
theorem dX4_worth_10 : decode cX4_worth 10 = .ok (.getfield 20, 3) := by decide +kernel
theorem dX4_worth_13 : decode cX4_worth 13 = .ok (.if_icmp .ge 135, 3) := by decide +kernel
theorem dX4_worth_16 : decode cX4_worth 16 = .ok (.aload_n 0, 1) := by decide +kernel
theorem dX4_worth_17 : decode cX4_worth 17 = .ok (.getfield 11, 3) := by decide +kernel
theorem dX4_worth_20 : decode cX4_worth 20 = .ok (.iload 4, 2) := by decide +kernel
theorem dX4_worth_22 : decode cX4_worth 22 = .ok (.iaload, 1) := by decide +kernel
theorem dX4_worth_23 : decode cX4_worth 23 = .ok (.ineg, 1) := by decide +kernel
theorem dX4_worth_24 : decode cX4_worth 24 = .ok (.istore 5, 2) := by decide +kernel
theorem dX4_worth_26 : decode cX4_worth 26 = .ok (.iload 5, 2) := by decide +kernel
theorem dX4_worth_28 : decode cX4_worth 28 = .ok (.bipush 59, 2) := by decide +kernel
theorem dX4_worth_30 : decode cX4_worth 30 = .ok (.if_icmp .ne 23, 3) := by decide +kernel
theorem dX4_worth_33 : decode cX4_worth 33 = .ok (.iload_n 3, 1) := by decide +kernel
theorem dX4_worth_34 : decode cX4_worth 34 = .ok (.ifCond .ne 14, 3) := by decide +kernel
theorem dX4_worth_37 : decode cX4_worth 37 = .ok (.iload_n 2, 1) := by decide +kernel
theorem dX4_worth_38 : decode cX4_worth 38 = .ok (.ifCond .le 10, 3) := by decide +kernel
theorem dX4_worth_41 : decode cX4_worth 41 = .ok (.aload_n 0, 1) := by decide +kernel
theorem dX4_worth_42 : decode cX4_worth 42 = .ok (.getfield 17, 3) := by decide +kernel
theorem dX4_worth_45 : decode cX4_worth 45 = .ok (.iconst 0, 1) := by decide +kernel
theorem dX4_worth_46 : decode cX4_worth 46 = .ok (.iaload, 1) := by decide +kernel
theorem dX4_worth_47 : decode cX4_worth 47 = .ok (.ireturn, 1) := by decide +kernel
theorem dX4_worth_48 : decode cX4_worth 48 = .ok (.iconst 0, 1) := by decide +kernel
theorem dX4_worth_49 : decode cX4_worth 49 = .ok (.istore_n 3, 1) := by decide +kernel
theorem dX4_worth_50 : decode cX4_worth 50 = .ok (.goto 92, 3) := by decide +kernel
theorem dX4_worth_53 : decode cX4_worth 53 = .ok (.iload_n 3, 1) := by decide +kernel
theorem dX4_worth_54 : decode cX4_worth 54 = .ok (.ifCond .ne 30, 3) := by decide +kernel
theorem dX4_worth_57 : decode cX4_worth 57 = .ok (.iload 5, 2) := by decide +kernel
theorem dX4_worth_59 : decode cX4_worth 59 = .ok (.bipush 63, 2) := by decide +kernel
theorem dX4_worth_61 : decode cX4_worth 61 = .ok (.if_icmp .ne 23, 3) := by decide +kernel
theorem dX4_worth_64 : decode cX4_worth 64 = .ok (.aload_n 0, 1) := by decide +kernel
theorem dX4_worth_65 : decode cX4_worth 65 = .ok (.getfield 17, 3) := by decide +kernel
theorem dX4_worth_68 : decode cX4_worth 68 = .ok (.iconst 0, 1) := by decide +kernel
theorem dX4_worth_69 : decode cX4_worth 69 = .ok (.iaload, 1) := by decide +kernel
theorem dX4_worth_70 : decode cX4_worth 70 = .ok (.ifCond .ne 7, 3) := by decide +kernel
theorem dX4_worth_73 : decode cX4_worth 73 = .ok (.iconst 1, 1) := by decide +kernel
theorem dX4_worth_74 : decode cX4_worth 74 = .ok (.goto 4, 3) := by decide +kernel
theorem dX4_worth_77 : decode cX4_worth 77 = .ok (.iconst 0, 1) := by decide +kernel
theorem dX4_worth_78 : decode cX4_worth 78 = .ok (.istore_n 3, 1) := by decide +kernel
theorem dX4_worth_79 : decode cX4_worth 79 = .ok (.iconst 0, 1) := by decide +kernel
theorem dX4_worth_80 : decode cX4_worth 80 = .ok (.istore_n 2, 1) := by decide +kernel
theorem dX4_worth_81 : decode cX4_worth 81 = .ok (.goto 61, 3) := by decide +kernel
theorem dX4_worth_84 : decode cX4_worth 84 = .ok (.iload_n 3, 1) := by decide +kernel
theorem dX4_worth_85 : decode cX4_worth 85 = .ok (.ifCond .ne 21, 3) := by decide +kernel
theorem dX4_worth_88 : decode cX4_worth 88 = .ok (.iload 5, 2) := by decide +kernel
theorem dX4_worth_90 : decode cX4_worth 90 = .ok (.bipush 6, 2) := by decide +kernel
theorem dX4_worth_92 : decode cX4_worth 92 = .ok (.if_icmp .le 14, 3) := by decide +kernel
theorem dX4_worth_95 : decode cX4_worth 95 = .ok (.aload_n 0, 1) := by decide +kernel
theorem dX4_worth_96 : decode cX4_worth 96 = .ok (.iload 5, 2) := by decide +kernel
theorem dX4_worth_98 : decode cX4_worth 98 = .ok (.iload_n 2, 1) := by decide +kernel
theorem dX4_worth_99 : decode cX4_worth 99 = .ok (.invokevirtual 24, 3) := by decide +kernel
theorem dX4_worth_102 : decode cX4_worth 102 = .ok (.istore_n 2, 1) := by decide +kernel
theorem dX4_worth_103 : decode cX4_worth 103 = .ok (.goto 39, 3) := by decide +kernel
theorem dX4_worth_106 : decode cX4_worth 106 = .ok (.iload_n 3, 1) := by decide +kernel
theorem dX4_worth_107 : decode cX4_worth 107 = .ok (.ifCond .ne 35, 3) := by decide +kernel
theorem dX4_worth_110 : decode cX4_worth 110 = .ok (.iload_n 2, 1) := by decide +kernel
theorem dX4_worth_111 : decode cX4_worth 111 = .ok (.bipush 64, 2) := by decide +kernel
theorem dX4_worth_113 : decode cX4_worth 113 = .ok (.if_icmp .ge 29, 3) := by decide +kernel
theorem dX4_worth_116 : decode cX4_worth 116 = .ok (.aload_n 0, 1) := by decide +kernel
theorem dX4_worth_117 : decode cX4_worth 117 = .ok (.getfield 17, 3) := by decide +kernel
theorem dX4_worth_120 : decode cX4_worth 120 = .ok (.iload_n 2, 1) := by decide +kernel
theorem dX4_worth_121 : decode cX4_worth 121 = .ok (.iload 5, 2) := by decide +kernel
theorem dX4_worth_123 : decode cX4_worth 123 = .ok (.ifCond .le 12, 3) := by decide +kernel
theorem dX4_worth_126 : decode cX4_worth 126 = .ok (.aload_n 1, 1) := by decide +kernel
theorem dX4_worth_127 : decode cX4_worth 127 = .ok (.iload 5, 2) := by decide +kernel
theorem dX4_worth_129 : decode cX4_worth 129 = .ok (.iconst 1, 1) := by decide +kernel
theorem dX4_worth_130 : decode cX4_worth 130 = .ok (.isub, 1) := by decide +kernel
theorem dX4_worth_131 : decode cX4_worth 131 = .ok (.iaload, 1) := by decide +kernel
theorem dX4_worth_132 : decode cX4_worth 132 = .ok (.goto 6, 3) := by decide +kernel
theorem dX4_worth_135 : decode cX4_worth 135 = .ok (.iload 5, 2) := by decide +kernel
theorem dX4_worth_137 : decode cX4_worth 137 = .ok (.ineg, 1) := by decide +kernel
theorem dX4_worth_138 : decode cX4_worth 138 = .ok (.iastore, 1) := by decide +kernel
theorem dX4_worth_139 : decode cX4_worth 139 = .ok (.iinc 2 1, 3) := by decide +kernel
theorem dX4_worth_142 : decode cX4_worth 142 = .ok (.iinc 4 1, 3) := by decide +kernel
theorem dX4_worth_145 : decode cX4_worth 145 = .ok (.goto (-138), 3) := by decide +kernel
theorem dX4_worth_148 : decode cX4_worth 148 = .ok (.iconst 0, 1) := by decide +kernel
theorem dX4_worth_149 : decode cX4_worth 149 = .ok (.ireturn, 1) := by decide +kernel
theorem dX4_joinedAt_0 : decode cX4_joinedAt 0 = .ok (.iload_n 2, 1) := by decide +kernel
theorem dX4_joinedAt_1 : decode cX4_joinedAt 1 = .ok (.iconst 1, 1) := by decide +kernel
theorem dX4_joinedAt_2 : decode cX4_joinedAt 2 = .ok (.if_icmp .lt 14, 3) := by decide +kernel
theorem dX4_joinedAt_5 : decode cX4_joinedAt 5 = .ok (.iload_n 2, 1) := by decide +kernel
theorem dX4_joinedAt_6 : decode cX4_joinedAt 6 = .ok (.iconst 2, 1) := by decide +kernel
theorem dX4_joinedAt_7 : decode cX4_joinedAt 7 = .ok (.if_icmp .ge 11, 3) := by decide +kernel
theorem dX4_joinedAt_10 : decode cX4_joinedAt 10 = .ok (.iload_n 1, 1) := by decide +kernel
theorem dX4_joinedAt_11 : decode cX4_joinedAt 11 = .ok (.bipush 33, 2) := by decide +kernel
theorem dX4_joinedAt_13 : decode cX4_joinedAt 13 = .ok (.if_icmp .eq 5, 3) := by decide +kernel
theorem dX4_joinedAt_16 : decode cX4_joinedAt 16 = .ok (.iload_n 2, 1) := by decide +kernel
theorem dX4_joinedAt_17 : decode cX4_joinedAt 17 = .ok (.ireturn, 1) := by decide +kernel
theorem dX4_joinedAt_18 : decode cX4_joinedAt 18 = .ok (.iload_n 1, 1) := by decide +kernel
theorem dX4_joinedAt_19 : decode cX4_joinedAt 19 = .ok (.bipush 33, 2) := by decide +kernel
theorem dX4_joinedAt_21 : decode cX4_joinedAt 21 = .ok (.if_icmp .ne 23, 3) := by decide +kernel
theorem dX4_joinedAt_24 : decode cX4_joinedAt 24 = .ok (.aload_n 0, 1) := by decide +kernel
theorem dX4_joinedAt_25 : decode cX4_joinedAt 25 = .ok (.getfield 17, 3) := by decide +kernel
theorem dX4_joinedAt_28 : decode cX4_joinedAt 28 = .ok (.iload_n 2, 1) := by decide +kernel
theorem dX4_joinedAt_29 : decode cX4_joinedAt 29 = .ok (.iconst 1, 1) := by decide +kernel
theorem dX4_joinedAt_30 : decode cX4_joinedAt 30 = .ok (.isub, 1) := by decide +kernel
theorem dX4_joinedAt_31 : decode cX4_joinedAt 31 = .ok (.iconst 1, 1) := by decide +kernel
theorem dX4_joinedAt_32 : decode cX4_joinedAt 32 = .ok (.aload_n 0, 1) := by decide +kernel
theorem dX4_joinedAt_33 : decode cX4_joinedAt 33 = .ok (.getfield 17, 3) := by decide +kernel
theorem dX4_joinedAt_36 : decode cX4_joinedAt 36 = .ok (.iload_n 2, 1) := by decide +kernel
theorem dX4_joinedAt_37 : decode cX4_joinedAt 37 = .ok (.iconst 1, 1) := by decide +kernel
theorem dX4_joinedAt_38 : decode cX4_joinedAt 38 = .ok (.isub, 1) := by decide +kernel
theorem dX4_joinedAt_39 : decode cX4_joinedAt 39 = .ok (.iaload, 1) := by decide +kernel
theorem dX4_joinedAt_40 : decode cX4_joinedAt 40 = .ok (.isub, 1) := by decide +kernel
theorem dX4_joinedAt_41 : decode cX4_joinedAt 41 = .ok (.iastore, 1) := by decide +kernel
theorem dX4_joinedAt_42 : decode cX4_joinedAt 42 = .ok (.iload_n 2, 1) := by decide +kernel
theorem dX4_joinedAt_43 : decode cX4_joinedAt 43 = .ok (.ireturn, 1) := by decide +kernel
theorem dX4_joinedAt_44 : decode cX4_joinedAt 44 = .ok (.aload_n 0, 1) := by decide +kernel
theorem dX4_joinedAt_45 : decode cX4_joinedAt 45 = .ok (.getfield 17, 3) := by decide +kernel
theorem dX4_joinedAt_48 : decode cX4_joinedAt 48 = .ok (.iload_n 2, 1) := by decide +kernel
theorem dX4_joinedAt_49 : decode cX4_joinedAt 49 = .ok (.iconst 2, 1) := by decide +kernel
theorem dX4_joinedAt_50 : decode cX4_joinedAt 50 = .ok (.isub, 1) := by decide +kernel
theorem dX4_joinedAt_51 : decode cX4_joinedAt 51 = .ok (.iaload, 1) := by decide +kernel
theorem dX4_joinedAt_52 : decode cX4_joinedAt 52 = .ok (.istore_n 3, 1) := by decide +kernel
theorem dX4_joinedAt_53 : decode cX4_joinedAt 53 = .ok (.aload_n 0, 1) := by decide +kernel
theorem dX4_joinedAt_54 : decode cX4_joinedAt 54 = .ok (.getfield 17, 3) := by decide +kernel
theorem dX4_joinedAt_57 : decode cX4_joinedAt 57 = .ok (.iload_n 2, 1) := by decide +kernel
theorem dX4_joinedAt_58 : decode cX4_joinedAt 58 = .ok (.iconst 1, 1) := by decide +kernel
theorem dX4_joinedAt_59 : decode cX4_joinedAt 59 = .ok (.isub, 1) := by decide +kernel
theorem dX4_joinedAt_60 : decode cX4_joinedAt 60 = .ok (.iaload, 1) := by decide +kernel
theorem dX4_joinedAt_61 : decode cX4_joinedAt 61 = .ok (.istore 4, 2) := by decide +kernel
theorem dX4_joinedAt_63 : decode cX4_joinedAt 63 = .ok (.iload_n 1, 1) := by decide +kernel
theorem dX4_joinedAt_64 : decode cX4_joinedAt 64 = .ok (.tableswitch 224 38 62 #[214, 224, 224, 224, 136, 116, 224, 126, 224, 147, 224, 224, 224, 224, 224, 224, 224, 224, 224, 224, 224, 224, 182, 166, 198], 116) := by decide +kernel
theorem dX4_joinedAt_180 : decode cX4_joinedAt 180 = .ok (.iload_n 3, 1) := by decide +kernel
theorem dX4_joinedAt_181 : decode cX4_joinedAt 181 = .ok (.iload 4, 2) := by decide +kernel
theorem dX4_joinedAt_183 : decode cX4_joinedAt 183 = .ok (.iadd, 1) := by decide +kernel
theorem dX4_joinedAt_184 : decode cX4_joinedAt 184 = .ok (.i2l, 1) := by decide +kernel
theorem dX4_joinedAt_185 : decode cX4_joinedAt 185 = .ok (.lstore 5, 2) := by decide +kernel
theorem dX4_joinedAt_187 : decode cX4_joinedAt 187 = .ok (.goto 108, 3) := by decide +kernel
theorem dX4_joinedAt_190 : decode cX4_joinedAt 190 = .ok (.iload_n 3, 1) := by decide +kernel
theorem dX4_joinedAt_191 : decode cX4_joinedAt 191 = .ok (.iload 4, 2) := by decide +kernel
theorem dX4_joinedAt_193 : decode cX4_joinedAt 193 = .ok (.isub, 1) := by decide +kernel
theorem dX4_joinedAt_194 : decode cX4_joinedAt 194 = .ok (.i2l, 1) := by decide +kernel
theorem dX4_joinedAt_195 : decode cX4_joinedAt 195 = .ok (.lstore 5, 2) := by decide +kernel
theorem dX4_joinedAt_197 : decode cX4_joinedAt 197 = .ok (.goto 98, 3) := by decide +kernel
theorem dX4_joinedAt_200 : decode cX4_joinedAt 200 = .ok (.iload_n 3, 1) := by decide +kernel
theorem dX4_joinedAt_201 : decode cX4_joinedAt 201 = .ok (.i2l, 1) := by decide +kernel
theorem dX4_joinedAt_202 : decode cX4_joinedAt 202 = .ok (.iload 4, 2) := by decide +kernel
theorem dX4_joinedAt_204 : decode cX4_joinedAt 204 = .ok (.i2l, 1) := by decide +kernel
theorem dX4_joinedAt_205 : decode cX4_joinedAt 205 = .ok (.lmul, 1) := by decide +kernel
theorem dX4_joinedAt_206 : decode cX4_joinedAt 206 = .ok (.lstore 5, 2) := by decide +kernel
theorem dX4_joinedAt_208 : decode cX4_joinedAt 208 = .ok (.goto 87, 3) := by decide +kernel
theorem dX4_joinedAt_211 : decode cX4_joinedAt 211 = .ok (.iload 4, 2) := by decide +kernel
theorem dX4_joinedAt_213 : decode cX4_joinedAt 213 = .ok (.ifCond .ne 7, 3) := by decide +kernel
theorem dX4_joinedAt_216 : decode cX4_joinedAt 216 = .ok (.lconst 0, 1) := by decide +kernel
theorem dX4_joinedAt_217 : decode cX4_joinedAt 217 = .ok (.goto 8, 3) := by decide +kernel
theorem dX4_joinedAt_220 : decode cX4_joinedAt 220 = .ok (.iload_n 3, 1) := by decide +kernel
theorem dX4_joinedAt_221 : decode cX4_joinedAt 221 = .ok (.iload 4, 2) := by decide +kernel
theorem dX4_joinedAt_223 : decode cX4_joinedAt 223 = .ok (.idiv, 1) := by decide +kernel
theorem dX4_joinedAt_224 : decode cX4_joinedAt 224 = .ok (.i2l, 1) := by decide +kernel
theorem dX4_joinedAt_225 : decode cX4_joinedAt 225 = .ok (.lstore 5, 2) := by decide +kernel
theorem dX4_joinedAt_227 : decode cX4_joinedAt 227 = .ok (.goto 68, 3) := by decide +kernel
theorem dX4_joinedAt_230 : decode cX4_joinedAt 230 = .ok (.iload_n 3, 1) := by decide +kernel
theorem dX4_joinedAt_231 : decode cX4_joinedAt 231 = .ok (.iload 4, 2) := by decide +kernel
theorem dX4_joinedAt_233 : decode cX4_joinedAt 233 = .ok (.if_icmp .ne 7, 3) := by decide +kernel
theorem dX4_joinedAt_236 : decode cX4_joinedAt 236 = .ok (.lconst 1, 1) := by decide +kernel
theorem dX4_joinedAt_237 : decode cX4_joinedAt 237 = .ok (.goto 4, 3) := by decide +kernel
theorem dX4_joinedAt_240 : decode cX4_joinedAt 240 = .ok (.lconst 0, 1) := by decide +kernel
theorem dX4_joinedAt_241 : decode cX4_joinedAt 241 = .ok (.lstore 5, 2) := by decide +kernel
theorem dX4_joinedAt_243 : decode cX4_joinedAt 243 = .ok (.goto 52, 3) := by decide +kernel
theorem dX4_joinedAt_246 : decode cX4_joinedAt 246 = .ok (.iload_n 3, 1) := by decide +kernel
theorem dX4_joinedAt_247 : decode cX4_joinedAt 247 = .ok (.iload 4, 2) := by decide +kernel
theorem dX4_joinedAt_249 : decode cX4_joinedAt 249 = .ok (.if_icmp .ge 7, 3) := by decide +kernel
theorem dX4_joinedAt_252 : decode cX4_joinedAt 252 = .ok (.lconst 1, 1) := by decide +kernel
theorem dX4_joinedAt_253 : decode cX4_joinedAt 253 = .ok (.goto 4, 3) := by decide +kernel
theorem dX4_joinedAt_256 : decode cX4_joinedAt 256 = .ok (.lconst 0, 1) := by decide +kernel
theorem dX4_joinedAt_257 : decode cX4_joinedAt 257 = .ok (.lstore 5, 2) := by decide +kernel
theorem dX4_joinedAt_259 : decode cX4_joinedAt 259 = .ok (.goto 36, 3) := by decide +kernel
theorem dX4_joinedAt_262 : decode cX4_joinedAt 262 = .ok (.iload_n 3, 1) := by decide +kernel
theorem dX4_joinedAt_263 : decode cX4_joinedAt 263 = .ok (.iload 4, 2) := by decide +kernel
theorem dX4_joinedAt_265 : decode cX4_joinedAt 265 = .ok (.if_icmp .le 7, 3) := by decide +kernel
theorem dX4_joinedAt_268 : decode cX4_joinedAt 268 = .ok (.lconst 1, 1) := by decide +kernel
theorem dX4_joinedAt_269 : decode cX4_joinedAt 269 = .ok (.goto 4, 3) := by decide +kernel
theorem dX4_joinedAt_272 : decode cX4_joinedAt 272 = .ok (.lconst 0, 1) := by decide +kernel
theorem dX4_joinedAt_273 : decode cX4_joinedAt 273 = .ok (.lstore 5, 2) := by decide +kernel
theorem dX4_joinedAt_275 : decode cX4_joinedAt 275 = .ok (.goto 20, 3) := by decide +kernel
theorem dX4_joinedAt_278 : decode cX4_joinedAt 278 = .ok (.iload_n 3, 1) := by decide +kernel
theorem dX4_joinedAt_279 : decode cX4_joinedAt 279 = .ok (.iload 4, 2) := by decide +kernel
theorem dX4_joinedAt_281 : decode cX4_joinedAt 281 = .ok (.iand, 1) := by decide +kernel
theorem dX4_joinedAt_282 : decode cX4_joinedAt 282 = .ok (.i2l, 1) := by decide +kernel
theorem dX4_joinedAt_283 : decode cX4_joinedAt 283 = .ok (.lstore 5, 2) := by decide +kernel
theorem dX4_joinedAt_285 : decode cX4_joinedAt 285 = .ok (.goto 10, 3) := by decide +kernel
theorem dX4_joinedAt_288 : decode cX4_joinedAt 288 = .ok (.iload_n 3, 1) := by decide +kernel
theorem dX4_joinedAt_289 : decode cX4_joinedAt 289 = .ok (.iload 4, 2) := by decide +kernel
theorem dX4_joinedAt_291 : decode cX4_joinedAt 291 = .ok (.ior, 1) := by decide +kernel
theorem dX4_joinedAt_292 : decode cX4_joinedAt 292 = .ok (.i2l, 1) := by decide +kernel
theorem dX4_joinedAt_293 : decode cX4_joinedAt 293 = .ok (.lstore 5, 2) := by decide +kernel
theorem dX4_joinedAt_295 : decode cX4_joinedAt 295 = .ok (.aload_n 0, 1) := by decide +kernel
theorem dX4_joinedAt_296 : decode cX4_joinedAt 296 = .ok (.getfield 17, 3) := by decide +kernel
theorem dX4_joinedAt_299 : decode cX4_joinedAt 299 = .ok (.iload_n 2, 1) := by decide +kernel
theorem dX4_joinedAt_300 : decode cX4_joinedAt 300 = .ok (.iconst 2, 1) := by decide +kernel
theorem dX4_joinedAt_301 : decode cX4_joinedAt 301 = .ok (.isub, 1) := by decide +kernel
theorem dX4_joinedAt_302 : decode cX4_joinedAt 302 = .ok (.lload 5, 2) := by decide +kernel
theorem dX4_joinedAt_304 : decode cX4_joinedAt 304 = .ok (.ldc2_w 28, 3) := by decide +kernel
theorem dX4_joinedAt_307 : decode cX4_joinedAt 307 = .ok (.lcmp, 1) := by decide +kernel
theorem dX4_joinedAt_308 : decode cX4_joinedAt 308 = .ok (.ifCond .le 8, 3) := by decide +kernel
theorem dX4_joinedAt_311 : decode cX4_joinedAt 311 = .ok (.ldc 30, 2) := by decide +kernel
theorem dX4_joinedAt_313 : decode cX4_joinedAt 313 = .ok (.goto 20, 3) := by decide +kernel
theorem dX4_joinedAt_316 : decode cX4_joinedAt 316 = .ok (.lload 5, 2) := by decide +kernel
theorem dX4_joinedAt_318 : decode cX4_joinedAt 318 = .ok (.ldc2_w 31, 3) := by decide +kernel
theorem dX4_joinedAt_321 : decode cX4_joinedAt 321 = .ok (.lcmp, 1) := by decide +kernel
theorem dX4_joinedAt_322 : decode cX4_joinedAt 322 = .ok (.ifCond .ge 8, 3) := by decide +kernel
theorem dX4_joinedAt_325 : decode cX4_joinedAt 325 = .ok (.ldc 33, 2) := by decide +kernel
theorem dX4_joinedAt_327 : decode cX4_joinedAt 327 = .ok (.goto 6, 3) := by decide +kernel
theorem dX4_joinedAt_330 : decode cX4_joinedAt 330 = .ok (.lload 5, 2) := by decide +kernel
theorem dX4_joinedAt_332 : decode cX4_joinedAt 332 = .ok (.l2i, 1) := by decide +kernel
theorem dX4_joinedAt_333 : decode cX4_joinedAt 333 = .ok (.iastore, 1) := by decide +kernel
theorem dX4_joinedAt_334 : decode cX4_joinedAt 334 = .ok (.iload_n 2, 1) := by decide +kernel
theorem dX4_joinedAt_335 : decode cX4_joinedAt 335 = .ok (.iconst 1, 1) := by decide +kernel
theorem dX4_joinedAt_336 : decode cX4_joinedAt 336 = .ok (.isub, 1) := by decide +kernel
theorem dX4_joinedAt_337 : decode cX4_joinedAt 337 = .ok (.ireturn, 1) := by decide +kernel
theorem dX4_faultOf_0 : decode cX4_faultOf 0 = .ok (.aload_n 0, 1) := by decide +kernel
theorem dX4_faultOf_1 : decode cX4_faultOf 1 = .ok (.iconst 0, 1) := by decide +kernel
theorem dX4_faultOf_2 : decode cX4_faultOf 2 = .ok (.putfield 20, 3) := by decide +kernel
theorem dX4_faultOf_5 : decode cX4_faultOf 5 = .ok (.aload_n 1, 1) := by decide +kernel
theorem dX4_faultOf_6 : decode cX4_faultOf 6 = .ok (.invokevirtual 34, 3) := by decide +kernel
theorem dX4_faultOf_9 : decode cX4_faultOf 9 = .ok (.iconst 0, 1) := by decide +kernel
theorem dX4_faultOf_10 : decode cX4_faultOf 10 = .ok (.istore_n 2, 1) := by decide +kernel
theorem dX4_faultOf_11 : decode cX4_faultOf 11 = .ok (.iload_n 2, 1) := by decide +kernel
theorem dX4_faultOf_12 : decode cX4_faultOf 12 = .ok (.sipush 240, 3) := by decide +kernel
theorem dX4_faultOf_15 : decode cX4_faultOf 15 = .ok (.if_icmp .ge 104, 3) := by decide +kernel
theorem dX4_faultOf_18 : decode cX4_faultOf 18 = .ok (.aload_n 1, 1) := by decide +kernel
theorem dX4_faultOf_19 : decode cX4_faultOf 19 = .ok (.bipush 121, 2) := by decide +kernel
theorem dX4_faultOf_21 : decode cX4_faultOf 21 = .ok (.invokevirtual 37, 3) := by decide +kernel
theorem dX4_faultOf_24 : decode cX4_faultOf 24 = .ok (.aload_n 1, 1) := by decide +kernel
theorem dX4_faultOf_25 : decode cX4_faultOf 25 = .ok (.bipush 58, 2) := by decide +kernel
theorem dX4_faultOf_27 : decode cX4_faultOf 27 = .ok (.invokevirtual 37, 3) := by decide +kernel
theorem dX4_faultOf_30 : decode cX4_faultOf 30 = .ok (.aload_n 1, 1) := by decide +kernel
theorem dX4_faultOf_31 : decode cX4_faultOf 31 = .ok (.invokevirtual 41, 3) := by decide +kernel
theorem dX4_faultOf_34 : decode cX4_faultOf 34 = .ok (.invokestatic 45, 3) := by decide +kernel
theorem dX4_faultOf_37 : decode cX4_faultOf 37 = .ok (.ifCond .ne 7, 3) := by decide +kernel
theorem dX4_faultOf_40 : decode cX4_faultOf 40 = .ok (.iconst 1, 1) := by decide +kernel
theorem dX4_faultOf_41 : decode cX4_faultOf 41 = .ok (.goto 4, 3) := by decide +kernel
theorem dX4_faultOf_44 : decode cX4_faultOf 44 = .ok (.iconst 0, 1) := by decide +kernel
theorem dX4_faultOf_45 : decode cX4_faultOf 45 = .ok (.istore_n 3, 1) := by decide +kernel
theorem dX4_faultOf_46 : decode cX4_faultOf 46 = .ok (.iload_n 3, 1) := by decide +kernel
theorem dX4_faultOf_47 : decode cX4_faultOf 47 = .ok (.ifCond .eq 9, 3) := by decide +kernel
theorem dX4_faultOf_50 : decode cX4_faultOf 50 = .ok (.aload_n 0, 1) := by decide +kernel
theorem dX4_faultOf_51 : decode cX4_faultOf 51 = .ok (.aload_n 1, 1) := by decide +kernel
theorem dX4_faultOf_52 : decode cX4_faultOf 52 = .ok (.iconst 0, 1) := by decide +kernel
theorem dX4_faultOf_53 : decode cX4_faultOf 53 = .ok (.invokevirtual 49, 3) := by decide +kernel
theorem dX4_faultOf_56 : decode cX4_faultOf 56 = .ok (.iload_n 3, 1) := by decide +kernel
theorem dX4_faultOf_57 : decode cX4_faultOf 57 = .ok (.ifCond .eq 13, 3) := by decide +kernel
theorem dX4_faultOf_60 : decode cX4_faultOf 60 = .ok (.aload_n 1, 1) := by decide +kernel
theorem dX4_faultOf_61 : decode cX4_faultOf 61 = .ok (.invokevirtual 41, 3) := by decide +kernel
theorem dX4_faultOf_64 : decode cX4_faultOf 64 = .ok (.invokestatic 53, 3) := by decide +kernel
theorem dX4_faultOf_67 : decode cX4_faultOf 67 = .ok (.ifCond .eq 28, 3) := by decide +kernel
theorem dX4_faultOf_70 : decode cX4_faultOf 70 = .ok (.aload_n 0, 1) := by decide +kernel
theorem dX4_faultOf_71 : decode cX4_faultOf 71 = .ok (.aload_n 1, 1) := by decide +kernel
theorem dX4_faultOf_72 : decode cX4_faultOf 72 = .ok (.iconst 0, 1) := by decide +kernel
theorem dX4_faultOf_73 : decode cX4_faultOf 73 = .ok (.iload_n 3, 1) := by decide +kernel
theorem dX4_faultOf_74 : decode cX4_faultOf 74 = .ok (.invokevirtual 56, 3) := by decide +kernel
theorem dX4_faultOf_77 : decode cX4_faultOf 77 = .ok (.aload_n 1, 1) := by decide +kernel
theorem dX4_faultOf_78 : decode cX4_faultOf 78 = .ok (.bipush 63, 2) := by decide +kernel
theorem dX4_faultOf_80 : decode cX4_faultOf 80 = .ok (.invokevirtual 37, 3) := by decide +kernel
theorem dX4_faultOf_83 : decode cX4_faultOf 83 = .ok (.aload_n 0, 1) := by decide +kernel
theorem dX4_faultOf_84 : decode cX4_faultOf 84 = .ok (.bipush (-63), 2) := by decide +kernel
theorem dX4_faultOf_86 : decode cX4_faultOf 86 = .ok (.invokevirtual 60, 3) := by decide +kernel
theorem dX4_faultOf_89 : decode cX4_faultOf 89 = .ok (.aload_n 0, 1) := by decide +kernel
theorem dX4_faultOf_90 : decode cX4_faultOf 90 = .ok (.aload_n 1, 1) := by decide +kernel
theorem dX4_faultOf_91 : decode cX4_faultOf 91 = .ok (.iconst 0, 1) := by decide +kernel
theorem dX4_faultOf_92 : decode cX4_faultOf 92 = .ok (.invokevirtual 49, 3) := by decide +kernel
theorem dX4_faultOf_95 : decode cX4_faultOf 95 = .ok (.aload_n 0, 1) := by decide +kernel
theorem dX4_faultOf_96 : decode cX4_faultOf 96 = .ok (.bipush (-59), 2) := by decide +kernel
theorem dX4_faultOf_98 : decode cX4_faultOf 98 = .ok (.invokevirtual 60, 3) := by decide +kernel
theorem dX4_faultOf_101 : decode cX4_faultOf 101 = .ok (.aload_n 1, 1) := by decide +kernel
theorem dX4_faultOf_102 : decode cX4_faultOf 102 = .ok (.bipush 59, 2) := by decide +kernel
theorem dX4_faultOf_104 : decode cX4_faultOf 104 = .ok (.invokevirtual 63, 3) := by decide +kernel
theorem dX4_faultOf_107 : decode cX4_faultOf 107 = .ok (.ifCond .ne 6, 3) := by decide +kernel
theorem dX4_faultOf_110 : decode cX4_faultOf 110 = .ok (.goto 9, 3) := by decide +kernel
theorem dX4_faultOf_113 : decode cX4_faultOf 113 = .ok (.iinc 2 1, 3) := by decide +kernel
theorem dX4_faultOf_116 : decode cX4_faultOf 116 = .ok (.goto (-105), 3) := by decide +kernel
theorem dX4_faultOf_119 : decode cX4_faultOf 119 = .ok (.aload_n 1, 1) := by decide +kernel
theorem dX4_faultOf_120 : decode cX4_faultOf 120 = .ok (.invokevirtual 66, 3) := by decide +kernel
theorem dX4_faultOf_123 : decode cX4_faultOf 123 = .ok (.aload_n 1, 1) := by decide +kernel
theorem dX4_faultOf_124 : decode cX4_faultOf 124 = .ok (.invokevirtual 69, 3) := by decide +kernel
theorem dX4_faultOf_127 : decode cX4_faultOf 127 = .ok (.ireturn, 1) := by decide +kernel
theorem dX4_readCondition_0 : decode cX4_readCondition 0 = .ok (.iconst 0, 1) := by decide +kernel
theorem dX4_readCondition_1 : decode cX4_readCondition 1 = .ok (.istore 4, 2) := by decide +kernel
theorem dX4_readCondition_3 : decode cX4_readCondition 3 = .ok (.iconst 0, 1) := by decide +kernel
theorem dX4_readCondition_4 : decode cX4_readCondition 4 = .ok (.istore 5, 2) := by decide +kernel
theorem dX4_readCondition_6 : decode cX4_readCondition 6 = .ok (.iconst 0, 1) := by decide +kernel
theorem dX4_readCondition_7 : decode cX4_readCondition 7 = .ok (.istore 6, 2) := by decide +kernel
theorem dX4_readCondition_9 : decode cX4_readCondition 9 = .ok (.iload 6, 2) := by decide +kernel
theorem dX4_readCondition_11 : decode cX4_readCondition 11 = .ok (.sipush 240, 3) := by decide +kernel
theorem dX4_readCondition_14 : decode cX4_readCondition 14 = .ok (.if_icmp .ge 85, 3) := by decide +kernel
theorem dX4_readCondition_17 : decode cX4_readCondition 17 = .ok (.aload_n 1, 1) := by decide +kernel
theorem dX4_readCondition_18 : decode cX4_readCondition 18 = .ok (.invokevirtual 72, 3) := by decide +kernel
theorem dX4_readCondition_21 : decode cX4_readCondition 21 = .ok (.ifCond .eq 78, 3) := by decide +kernel
theorem dX4_readCondition_24 : decode cX4_readCondition 24 = .ok (.aload_n 0, 1) := by decide +kernel
theorem dX4_readCondition_25 : decode cX4_readCondition 25 = .ok (.aload_n 1, 1) := by decide +kernel
theorem dX4_readCondition_26 : decode cX4_readCondition 26 = .ok (.iload_n 2, 1) := by decide +kernel
theorem dX4_readCondition_27 : decode cX4_readCondition 27 = .ok (.iload_n 3, 1) := by decide +kernel
theorem dX4_readCondition_28 : decode cX4_readCondition 28 = .ok (.ifCond .eq 12, 3) := by decide +kernel
theorem dX4_readCondition_31 : decode cX4_readCondition 31 = .ok (.iload 6, 2) := by decide +kernel
theorem dX4_readCondition_33 : decode cX4_readCondition 33 = .ok (.ifCond .ne 7, 3) := by decide +kernel
theorem dX4_readCondition_36 : decode cX4_readCondition 36 = .ok (.iconst 1, 1) := by decide +kernel
theorem dX4_readCondition_37 : decode cX4_readCondition 37 = .ok (.goto 4, 3) := by decide +kernel
theorem dX4_readCondition_40 : decode cX4_readCondition 40 = .ok (.iconst 0, 1) := by decide +kernel
theorem dX4_readCondition_41 : decode cX4_readCondition 41 = .ok (.invokevirtual 76, 3) := by decide +kernel
theorem dX4_readCondition_44 : decode cX4_readCondition 44 = .ok (.iload 4, 2) := by decide +kernel
theorem dX4_readCondition_46 : decode cX4_readCondition 46 = .ok (.ifCond .eq 9, 3) := by decide +kernel
theorem dX4_readCondition_49 : decode cX4_readCondition 49 = .ok (.aload_n 0, 1) := by decide +kernel
theorem dX4_readCondition_50 : decode cX4_readCondition 50 = .ok (.bipush (-38), 2) := by decide +kernel
theorem dX4_readCondition_52 : decode cX4_readCondition 52 = .ok (.invokevirtual 60, 3) := by decide +kernel
theorem dX4_readCondition_55 : decode cX4_readCondition 55 = .ok (.aload_n 1, 1) := by decide +kernel
theorem dX4_readCondition_56 : decode cX4_readCondition 56 = .ok (.bipush 38, 2) := by decide +kernel
theorem dX4_readCondition_58 : decode cX4_readCondition 58 = .ok (.invokevirtual 63, 3) := by decide +kernel
theorem dX4_readCondition_61 : decode cX4_readCondition 61 = .ok (.istore 4, 2) := by decide +kernel
theorem dX4_readCondition_63 : decode cX4_readCondition 63 = .ok (.iload 4, 2) := by decide +kernel
theorem dX4_readCondition_65 : decode cX4_readCondition 65 = .ok (.ifCond .ne 28, 3) := by decide +kernel
theorem dX4_readCondition_68 : decode cX4_readCondition 68 = .ok (.iload 5, 2) := by decide +kernel
theorem dX4_readCondition_70 : decode cX4_readCondition 70 = .ok (.ifCond .eq 9, 3) := by decide +kernel
theorem dX4_readCondition_73 : decode cX4_readCondition 73 = .ok (.aload_n 0, 1) := by decide +kernel
theorem dX4_readCondition_74 : decode cX4_readCondition 74 = .ok (.bipush (-124), 2) := by decide +kernel
theorem dX4_readCondition_76 : decode cX4_readCondition 76 = .ok (.invokevirtual 60, 3) := by decide +kernel
theorem dX4_readCondition_79 : decode cX4_readCondition 79 = .ok (.aload_n 1, 1) := by decide +kernel
theorem dX4_readCondition_80 : decode cX4_readCondition 80 = .ok (.bipush 124, 2) := by decide +kernel
theorem dX4_readCondition_82 : decode cX4_readCondition 82 = .ok (.invokevirtual 63, 3) := by decide +kernel
theorem dX4_readCondition_85 : decode cX4_readCondition 85 = .ok (.istore 5, 2) := by decide +kernel
theorem dX4_readCondition_87 : decode cX4_readCondition 87 = .ok (.iload 5, 2) := by decide +kernel
theorem dX4_readCondition_89 : decode cX4_readCondition 89 = .ok (.ifCond .ne 4, 3) := by decide +kernel
theorem dX4_readCondition_92 : decode cX4_readCondition 92 = .ok (.return_, 1) := by decide +kernel
theorem dX4_readCondition_93 : decode cX4_readCondition 93 = .ok (.iinc 6 1, 3) := by decide +kernel
theorem dX4_readCondition_96 : decode cX4_readCondition 96 = .ok (.goto (-87), 3) := by decide +kernel
theorem dX4_readCondition_99 : decode cX4_readCondition 99 = .ok (.return_, 1) := by decide +kernel
theorem dX4_readUnit_0 : decode cX4_readUnit 0 = .ok (.iload_n 3, 1) := by decide +kernel
theorem dX4_readUnit_1 : decode cX4_readUnit 1 = .ok (.ifCond .ne 13, 3) := by decide +kernel
theorem dX4_readUnit_4 : decode cX4_readUnit 4 = .ok (.aload_n 1, 1) := by decide +kernel
theorem dX4_readUnit_5 : decode cX4_readUnit 5 = .ok (.invokevirtual 41, 3) := by decide +kernel
theorem dX4_readUnit_8 : decode cX4_readUnit 8 = .ok (.invokestatic 45, 3) := by decide +kernel
theorem dX4_readUnit_11 : decode cX4_readUnit 11 = .ok (.ifCond .ne 54, 3) := by decide +kernel
theorem dX4_readUnit_14 : decode cX4_readUnit 14 = .ok (.iload_n 3, 1) := by decide +kernel
theorem dX4_readUnit_15 : decode cX4_readUnit 15 = .ok (.ifCond .ne 9, 3) := by decide +kernel
theorem dX4_readUnit_18 : decode cX4_readUnit 18 = .ok (.aload_n 0, 1) := by decide +kernel
theorem dX4_readUnit_19 : decode cX4_readUnit 19 = .ok (.aload_n 1, 1) := by decide +kernel
theorem dX4_readUnit_20 : decode cX4_readUnit 20 = .ok (.iload_n 2, 1) := by decide +kernel
theorem dX4_readUnit_21 : decode cX4_readUnit 21 = .ok (.invokevirtual 49, 3) := by decide +kernel
theorem dX4_readUnit_24 : decode cX4_readUnit 24 = .ok (.aload_n 1, 1) := by decide +kernel
theorem dX4_readUnit_25 : decode cX4_readUnit 25 = .ok (.invokevirtual 41, 3) := by decide +kernel
theorem dX4_readUnit_28 : decode cX4_readUnit 28 = .ok (.istore 4, 2) := by decide +kernel
theorem dX4_readUnit_30 : decode cX4_readUnit 30 = .ok (.iload 4, 2) := by decide +kernel
theorem dX4_readUnit_32 : decode cX4_readUnit 32 = .ok (.invokestatic 53, 3) := by decide +kernel
theorem dX4_readUnit_35 : decode cX4_readUnit 35 = .ok (.ifCond .eq 23, 3) := by decide +kernel
theorem dX4_readUnit_38 : decode cX4_readUnit 38 = .ok (.aload_n 1, 1) := by decide +kernel
theorem dX4_readUnit_39 : decode cX4_readUnit 39 = .ok (.invokevirtual 79, 3) := by decide +kernel
theorem dX4_readUnit_42 : decode cX4_readUnit 42 = .ok (.aload_n 0, 1) := by decide +kernel
theorem dX4_readUnit_43 : decode cX4_readUnit 43 = .ok (.aload_n 1, 1) := by decide +kernel
theorem dX4_readUnit_44 : decode cX4_readUnit 44 = .ok (.iload_n 2, 1) := by decide +kernel
theorem dX4_readUnit_45 : decode cX4_readUnit 45 = .ok (.invokevirtual 49, 3) := by decide +kernel
theorem dX4_readUnit_48 : decode cX4_readUnit 48 = .ok (.aload_n 0, 1) := by decide +kernel
theorem dX4_readUnit_49 : decode cX4_readUnit 49 = .ok (.iload 4, 2) := by decide +kernel
theorem dX4_readUnit_51 : decode cX4_readUnit 51 = .ok (.ineg, 1) := by decide +kernel
theorem dX4_readUnit_52 : decode cX4_readUnit 52 = .ok (.invokevirtual 60, 3) := by decide +kernel
theorem dX4_readUnit_55 : decode cX4_readUnit 55 = .ok (.goto 7, 3) := by decide +kernel
theorem dX4_readUnit_58 : decode cX4_readUnit 58 = .ok (.aload_n 1, 1) := by decide +kernel
theorem dX4_readUnit_59 : decode cX4_readUnit 59 = .ok (.invokevirtual 82, 3) := by decide +kernel
theorem dX4_readUnit_62 : decode cX4_readUnit 62 = .ok (.goto 64, 3) := by decide +kernel
theorem dX4_readUnit_65 : decode cX4_readUnit 65 = .ok (.iload_n 2, 1) := by decide +kernel
theorem dX4_readUnit_66 : decode cX4_readUnit 66 = .ok (.bipush 6, 2) := by decide +kernel
theorem dX4_readUnit_68 : decode cX4_readUnit 68 = .ok (.if_icmp .lt 10, 3) := by decide +kernel
theorem dX4_readUnit_71 : decode cX4_readUnit 71 = .ok (.aload_n 1, 1) := by decide +kernel
theorem dX4_readUnit_72 : decode cX4_readUnit 72 = .ok (.invokevirtual 82, 3) := by decide +kernel
theorem dX4_readUnit_75 : decode cX4_readUnit 75 = .ok (.goto 51, 3) := by decide +kernel
theorem dX4_readUnit_78 : decode cX4_readUnit 78 = .ok (.aload_n 1, 1) := by decide +kernel
theorem dX4_readUnit_79 : decode cX4_readUnit 79 = .ok (.bipush 33, 2) := by decide +kernel
theorem dX4_readUnit_81 : decode cX4_readUnit 81 = .ok (.invokevirtual 63, 3) := by decide +kernel
theorem dX4_readUnit_84 : decode cX4_readUnit 84 = .ok (.ifCond .eq 21, 3) := by decide +kernel
theorem dX4_readUnit_87 : decode cX4_readUnit 87 = .ok (.aload_n 0, 1) := by decide +kernel
theorem dX4_readUnit_88 : decode cX4_readUnit 88 = .ok (.aload_n 1, 1) := by decide +kernel
theorem dX4_readUnit_89 : decode cX4_readUnit 89 = .ok (.iload_n 2, 1) := by decide +kernel
theorem dX4_readUnit_90 : decode cX4_readUnit 90 = .ok (.iconst 1, 1) := by decide +kernel
theorem dX4_readUnit_91 : decode cX4_readUnit 91 = .ok (.iadd, 1) := by decide +kernel
theorem dX4_readUnit_92 : decode cX4_readUnit 92 = .ok (.iconst 0, 1) := by decide +kernel
theorem dX4_readUnit_93 : decode cX4_readUnit 93 = .ok (.invokevirtual 76, 3) := by decide +kernel
theorem dX4_readUnit_96 : decode cX4_readUnit 96 = .ok (.aload_n 0, 1) := by decide +kernel
theorem dX4_readUnit_97 : decode cX4_readUnit 97 = .ok (.bipush (-33), 2) := by decide +kernel
theorem dX4_readUnit_99 : decode cX4_readUnit 99 = .ok (.invokevirtual 60, 3) := by decide +kernel
theorem dX4_readUnit_102 : decode cX4_readUnit 102 = .ok (.goto 24, 3) := by decide +kernel
theorem dX4_readUnit_105 : decode cX4_readUnit 105 = .ok (.aload_n 1, 1) := by decide +kernel
theorem dX4_readUnit_106 : decode cX4_readUnit 106 = .ok (.bipush 40, 2) := by decide +kernel
theorem dX4_readUnit_108 : decode cX4_readUnit 108 = .ok (.invokevirtual 37, 3) := by decide +kernel
theorem dX4_readUnit_111 : decode cX4_readUnit 111 = .ok (.aload_n 0, 1) := by decide +kernel
theorem dX4_readUnit_112 : decode cX4_readUnit 112 = .ok (.aload_n 1, 1) := by decide +kernel
theorem dX4_readUnit_113 : decode cX4_readUnit 113 = .ok (.iload_n 2, 1) := by decide +kernel
theorem dX4_readUnit_114 : decode cX4_readUnit 114 = .ok (.iconst 1, 1) := by decide +kernel
theorem dX4_readUnit_115 : decode cX4_readUnit 115 = .ok (.iadd, 1) := by decide +kernel
theorem dX4_readUnit_116 : decode cX4_readUnit 116 = .ok (.iconst 0, 1) := by decide +kernel
theorem dX4_readUnit_117 : decode cX4_readUnit 117 = .ok (.invokevirtual 56, 3) := by decide +kernel
theorem dX4_readUnit_120 : decode cX4_readUnit 120 = .ok (.aload_n 1, 1) := by decide +kernel
theorem dX4_readUnit_121 : decode cX4_readUnit 121 = .ok (.bipush 41, 2) := by decide +kernel
theorem dX4_readUnit_123 : decode cX4_readUnit 123 = .ok (.invokevirtual 37, 3) := by decide +kernel
theorem dX4_readUnit_126 : decode cX4_readUnit 126 = .ok (.return_, 1) := by decide +kernel
theorem dX4_readSum_0 : decode cX4_readSum 0 = .ok (.iconst 0, 1) := by decide +kernel
theorem dX4_readSum_1 : decode cX4_readSum 1 = .ok (.istore_n 3, 1) := by decide +kernel
theorem dX4_readSum_2 : decode cX4_readSum 2 = .ok (.iconst 0, 1) := by decide +kernel
theorem dX4_readSum_3 : decode cX4_readSum 3 = .ok (.istore 4, 2) := by decide +kernel
theorem dX4_readSum_5 : decode cX4_readSum 5 = .ok (.iconst 0, 1) := by decide +kernel
theorem dX4_readSum_6 : decode cX4_readSum 6 = .ok (.istore 5, 2) := by decide +kernel
theorem dX4_readSum_8 : decode cX4_readSum 8 = .ok (.iload 5, 2) := by decide +kernel
theorem dX4_readSum_10 : decode cX4_readSum 10 = .ok (.sipush 240, 3) := by decide +kernel
theorem dX4_readSum_13 : decode cX4_readSum 13 = .ok (.if_icmp .ge 73, 3) := by decide +kernel
theorem dX4_readSum_16 : decode cX4_readSum 16 = .ok (.aload_n 1, 1) := by decide +kernel
theorem dX4_readSum_17 : decode cX4_readSum 17 = .ok (.invokevirtual 72, 3) := by decide +kernel
theorem dX4_readSum_20 : decode cX4_readSum 20 = .ok (.ifCond .eq 66, 3) := by decide +kernel
theorem dX4_readSum_23 : decode cX4_readSum 23 = .ok (.aload_n 0, 1) := by decide +kernel
theorem dX4_readSum_24 : decode cX4_readSum 24 = .ok (.aload_n 1, 1) := by decide +kernel
theorem dX4_readSum_25 : decode cX4_readSum 25 = .ok (.iload_n 2, 1) := by decide +kernel
theorem dX4_readSum_26 : decode cX4_readSum 26 = .ok (.invokevirtual 85, 3) := by decide +kernel
theorem dX4_readSum_29 : decode cX4_readSum 29 = .ok (.iload_n 3, 1) := by decide +kernel
theorem dX4_readSum_30 : decode cX4_readSum 30 = .ok (.ifCond .eq 9, 3) := by decide +kernel
theorem dX4_readSum_33 : decode cX4_readSum 33 = .ok (.aload_n 0, 1) := by decide +kernel
theorem dX4_readSum_34 : decode cX4_readSum 34 = .ok (.iload_n 3, 1) := by decide +kernel
theorem dX4_readSum_35 : decode cX4_readSum 35 = .ok (.ineg, 1) := by decide +kernel
theorem dX4_readSum_36 : decode cX4_readSum 36 = .ok (.invokevirtual 60, 3) := by decide +kernel
theorem dX4_readSum_39 : decode cX4_readSum 39 = .ok (.aload_n 1, 1) := by decide +kernel
theorem dX4_readSum_40 : decode cX4_readSum 40 = .ok (.bipush 42, 2) := by decide +kernel
theorem dX4_readSum_42 : decode cX4_readSum 42 = .ok (.bipush 47, 2) := by decide +kernel
theorem dX4_readSum_44 : decode cX4_readSum 44 = .ok (.invokevirtual 88, 3) := by decide +kernel
theorem dX4_readSum_47 : decode cX4_readSum 47 = .ok (.istore_n 3, 1) := by decide +kernel
theorem dX4_readSum_48 : decode cX4_readSum 48 = .ok (.iload_n 3, 1) := by decide +kernel
theorem dX4_readSum_49 : decode cX4_readSum 49 = .ok (.ifCond .ne 31, 3) := by decide +kernel
theorem dX4_readSum_52 : decode cX4_readSum 52 = .ok (.iload 4, 2) := by decide +kernel
theorem dX4_readSum_54 : decode cX4_readSum 54 = .ok (.ifCond .eq 10, 3) := by decide +kernel
theorem dX4_readSum_57 : decode cX4_readSum 57 = .ok (.aload_n 0, 1) := by decide +kernel
theorem dX4_readSum_58 : decode cX4_readSum 58 = .ok (.iload 4, 2) := by decide +kernel
theorem dX4_readSum_60 : decode cX4_readSum 60 = .ok (.ineg, 1) := by decide +kernel
theorem dX4_readSum_61 : decode cX4_readSum 61 = .ok (.invokevirtual 60, 3) := by decide +kernel
theorem dX4_readSum_64 : decode cX4_readSum 64 = .ok (.aload_n 1, 1) := by decide +kernel
theorem dX4_readSum_65 : decode cX4_readSum 65 = .ok (.bipush 43, 2) := by decide +kernel
theorem dX4_readSum_67 : decode cX4_readSum 67 = .ok (.bipush 45, 2) := by decide +kernel
theorem dX4_readSum_69 : decode cX4_readSum 69 = .ok (.invokevirtual 88, 3) := by decide +kernel
theorem dX4_readSum_72 : decode cX4_readSum 72 = .ok (.istore 4, 2) := by decide +kernel
theorem dX4_readSum_74 : decode cX4_readSum 74 = .ok (.iload 4, 2) := by decide +kernel
theorem dX4_readSum_76 : decode cX4_readSum 76 = .ok (.ifCond .ne 4, 3) := by decide +kernel
theorem dX4_readSum_79 : decode cX4_readSum 79 = .ok (.return_, 1) := by decide +kernel
theorem dX4_readSum_80 : decode cX4_readSum 80 = .ok (.iinc 5 1, 3) := by decide +kernel
theorem dX4_readSum_83 : decode cX4_readSum 83 = .ok (.goto (-75), 3) := by decide +kernel
theorem dX4_readSum_86 : decode cX4_readSum 86 = .ok (.return_, 1) := by decide +kernel
theorem dX4_readAtom_0 : decode cX4_readAtom 0 = .ok (.aload_n 1, 1) := by decide +kernel
theorem dX4_readAtom_1 : decode cX4_readAtom 1 = .ok (.invokevirtual 41, 3) := by decide +kernel
theorem dX4_readAtom_4 : decode cX4_readAtom 4 = .ok (.istore_n 3, 1) := by decide +kernel
theorem dX4_readAtom_5 : decode cX4_readAtom 5 = .ok (.iload_n 3, 1) := by decide +kernel
theorem dX4_readAtom_6 : decode cX4_readAtom 6 = .ok (.ifCond .ge 7, 3) := by decide +kernel
theorem dX4_readAtom_9 : decode cX4_readAtom 9 = .ok (.iconst (-1), 1) := by decide +kernel
theorem dX4_readAtom_10 : decode cX4_readAtom 10 = .ok (.goto 10, 3) := by decide +kernel
theorem dX4_readAtom_13 : decode cX4_readAtom 13 = .ok (.ldc 91, 2) := by decide +kernel
theorem dX4_readAtom_15 : decode cX4_readAtom 15 = .ok (.iload_n 3, 1) := by decide +kernel
theorem dX4_readAtom_16 : decode cX4_readAtom 16 = .ok (.i2c, 1) := by decide +kernel
theorem dX4_readAtom_17 : decode cX4_readAtom 17 = .ok (.invokevirtual 93, 3) := by decide +kernel
theorem dX4_readAtom_20 : decode cX4_readAtom 20 = .ok (.istore 4, 2) := by decide +kernel
theorem dX4_readAtom_22 : decode cX4_readAtom 22 = .ok (.iload 4, 2) := by decide +kernel
theorem dX4_readAtom_24 : decode cX4_readAtom 24 = .ok (.ifCond .lt 18, 3) := by decide +kernel
theorem dX4_readAtom_27 : decode cX4_readAtom 27 = .ok (.aload_n 1, 1) := by decide +kernel
theorem dX4_readAtom_28 : decode cX4_readAtom 28 = .ok (.invokevirtual 79, 3) := by decide +kernel
theorem dX4_readAtom_31 : decode cX4_readAtom 31 = .ok (.aload_n 0, 1) := by decide +kernel
theorem dX4_readAtom_32 : decode cX4_readAtom 32 = .ok (.iconst (-1), 1) := by decide +kernel
theorem dX4_readAtom_33 : decode cX4_readAtom 33 = .ok (.iload 4, 2) := by decide +kernel
theorem dX4_readAtom_35 : decode cX4_readAtom 35 = .ok (.isub, 1) := by decide +kernel
theorem dX4_readAtom_36 : decode cX4_readAtom 36 = .ok (.invokevirtual 60, 3) := by decide +kernel
theorem dX4_readAtom_39 : decode cX4_readAtom 39 = .ok (.goto 66, 3) := by decide +kernel
theorem dX4_readAtom_42 : decode cX4_readAtom 42 = .ok (.iload_n 3, 1) := by decide +kernel
theorem dX4_readAtom_43 : decode cX4_readAtom 43 = .ok (.bipush 91, 2) := by decide +kernel
theorem dX4_readAtom_45 : decode cX4_readAtom 45 = .ok (.if_icmp .eq 29, 3) := by decide +kernel
theorem dX4_readAtom_48 : decode cX4_readAtom 48 = .ok (.aload_n 1, 1) := by decide +kernel
theorem dX4_readAtom_49 : decode cX4_readAtom 49 = .ok (.iconst 4, 1) := by decide +kernel
theorem dX4_readAtom_50 : decode cX4_readAtom 50 = .ok (.invokevirtual 99, 3) := by decide +kernel
theorem dX4_readAtom_53 : decode cX4_readAtom 53 = .ok (.istore 5, 2) := by decide +kernel
theorem dX4_readAtom_55 : decode cX4_readAtom 55 = .ok (.iload 5, 2) := by decide +kernel
theorem dX4_readAtom_57 : decode cX4_readAtom 57 = .ok (.iconst (-1), 1) := by decide +kernel
theorem dX4_readAtom_58 : decode cX4_readAtom 58 = .ok (.if_icmp .ne 7, 3) := by decide +kernel
theorem dX4_readAtom_61 : decode cX4_readAtom 61 = .ok (.aload_n 1, 1) := by decide +kernel
theorem dX4_readAtom_62 : decode cX4_readAtom 62 = .ok (.invokevirtual 82, 3) := by decide +kernel
theorem dX4_readAtom_65 : decode cX4_readAtom 65 = .ok (.aload_n 0, 1) := by decide +kernel
theorem dX4_readAtom_66 : decode cX4_readAtom 66 = .ok (.iload 5, 2) := by decide +kernel
theorem dX4_readAtom_68 : decode cX4_readAtom 68 = .ok (.invokevirtual 60, 3) := by decide +kernel
theorem dX4_readAtom_71 : decode cX4_readAtom 71 = .ok (.goto 34, 3) := by decide +kernel
theorem dX4_readAtom_74 : decode cX4_readAtom 74 = .ok (.iload_n 2, 1) := by decide +kernel
theorem dX4_readAtom_75 : decode cX4_readAtom 75 = .ok (.bipush 6, 2) := by decide +kernel
theorem dX4_readAtom_77 : decode cX4_readAtom 77 = .ok (.if_icmp .lt 10, 3) := by decide +kernel
theorem dX4_readAtom_80 : decode cX4_readAtom 80 = .ok (.aload_n 1, 1) := by decide +kernel
theorem dX4_readAtom_81 : decode cX4_readAtom 81 = .ok (.invokevirtual 82, 3) := by decide +kernel
theorem dX4_readAtom_84 : decode cX4_readAtom 84 = .ok (.goto 21, 3) := by decide +kernel
theorem dX4_readAtom_87 : decode cX4_readAtom 87 = .ok (.aload_n 1, 1) := by decide +kernel
theorem dX4_readAtom_88 : decode cX4_readAtom 88 = .ok (.invokevirtual 79, 3) := by decide +kernel
theorem dX4_readAtom_91 : decode cX4_readAtom 91 = .ok (.aload_n 0, 1) := by decide +kernel
theorem dX4_readAtom_92 : decode cX4_readAtom 92 = .ok (.aload_n 1, 1) := by decide +kernel
theorem dX4_readAtom_93 : decode cX4_readAtom 93 = .ok (.iload_n 2, 1) := by decide +kernel
theorem dX4_readAtom_94 : decode cX4_readAtom 94 = .ok (.iconst 1, 1) := by decide +kernel
theorem dX4_readAtom_95 : decode cX4_readAtom 95 = .ok (.iadd, 1) := by decide +kernel
theorem dX4_readAtom_96 : decode cX4_readAtom 96 = .ok (.invokevirtual 49, 3) := by decide +kernel
theorem dX4_readAtom_99 : decode cX4_readAtom 99 = .ok (.aload_n 1, 1) := by decide +kernel
theorem dX4_readAtom_100 : decode cX4_readAtom 100 = .ok (.bipush 93, 2) := by decide +kernel
theorem dX4_readAtom_102 : decode cX4_readAtom 102 = .ok (.invokevirtual 37, 3) := by decide +kernel
theorem dX4_readAtom_105 : decode cX4_readAtom 105 = .ok (.return_, 1) := by decide +kernel
theorem dX4_emit_0 : decode cX4_emit 0 = .ok (.aload_n 0, 1) := by decide +kernel
theorem dX4_emit_1 : decode cX4_emit 1 = .ok (.getfield 20, 3) := by decide +kernel
theorem dX4_emit_4 : decode cX4_emit 4 = .ok (.aload_n 0, 1) := by decide +kernel
theorem dX4_emit_5 : decode cX4_emit 5 = .ok (.getfield 11, 3) := by decide +kernel
theorem dX4_emit_8 : decode cX4_emit 8 = .ok (.arraylength, 1) := by decide +kernel
theorem dX4_emit_9 : decode cX4_emit 9 = .ok (.if_icmp .ge 23, 3) := by decide +kernel
theorem dX4_emit_12 : decode cX4_emit 12 = .ok (.aload_n 0, 1) := by decide +kernel
theorem dX4_emit_13 : decode cX4_emit 13 = .ok (.getfield 11, 3) := by decide +kernel
theorem dX4_emit_16 : decode cX4_emit 16 = .ok (.aload_n 0, 1) := by decide +kernel
theorem dX4_emit_17 : decode cX4_emit 17 = .ok (.getfield 20, 3) := by decide +kernel
theorem dX4_emit_20 : decode cX4_emit 20 = .ok (.iload_n 1, 1) := by decide +kernel
theorem dX4_emit_21 : decode cX4_emit 21 = .ok (.iastore, 1) := by decide +kernel
theorem dX4_emit_22 : decode cX4_emit 22 = .ok (.aload_n 0, 1) := by decide +kernel
theorem dX4_emit_23 : decode cX4_emit 23 = .ok (.dup, 1) := by decide +kernel
theorem dX4_emit_24 : decode cX4_emit 24 = .ok (.getfield 20, 3) := by decide +kernel
theorem dX4_emit_27 : decode cX4_emit 27 = .ok (.iconst 1, 1) := by decide +kernel
theorem dX4_emit_28 : decode cX4_emit 28 = .ok (.iadd, 1) := by decide +kernel
theorem dX4_emit_29 : decode cX4_emit 29 = .ok (.putfield 20, 3) := by decide +kernel
theorem dX4_emit_32 : decode cX4_emit 32 = .ok (.return_, 1) := by decide +kernel
theorem dX4_startsUnit_0 : decode cX4_startsUnit 0 = .ok (.iload_n 0, 1) := by decide +kernel
theorem dX4_startsUnit_1 : decode cX4_startsUnit 1 = .ok (.bipush 33, 2) := by decide +kernel
theorem dX4_startsUnit_3 : decode cX4_startsUnit 3 = .ok (.if_icmp .eq 9, 3) := by decide +kernel
theorem dX4_startsUnit_6 : decode cX4_startsUnit 6 = .ok (.iload_n 0, 1) := by decide +kernel
theorem dX4_startsUnit_7 : decode cX4_startsUnit 7 = .ok (.bipush 40, 2) := by decide +kernel
theorem dX4_startsUnit_9 : decode cX4_startsUnit 9 = .ok (.if_icmp .ne 7, 3) := by decide +kernel
theorem dX4_startsUnit_12 : decode cX4_startsUnit 12 = .ok (.iconst 1, 1) := by decide +kernel
theorem dX4_startsUnit_13 : decode cX4_startsUnit 13 = .ok (.goto 4, 3) := by decide +kernel
theorem dX4_startsUnit_16 : decode cX4_startsUnit 16 = .ok (.iconst 0, 1) := by decide +kernel
theorem dX4_startsUnit_17 : decode cX4_startsUnit 17 = .ok (.ireturn, 1) := by decide +kernel
theorem dX4_isComparison_0 : decode cX4_isComparison 0 = .ok (.iload_n 0, 1) := by decide +kernel
theorem dX4_isComparison_1 : decode cX4_isComparison 1 = .ok (.bipush 61, 2) := by decide +kernel
theorem dX4_isComparison_3 : decode cX4_isComparison 3 = .ok (.if_icmp .eq 15, 3) := by decide +kernel
theorem dX4_isComparison_6 : decode cX4_isComparison 6 = .ok (.iload_n 0, 1) := by decide +kernel
theorem dX4_isComparison_7 : decode cX4_isComparison 7 = .ok (.bipush 60, 2) := by decide +kernel
theorem dX4_isComparison_9 : decode cX4_isComparison 9 = .ok (.if_icmp .eq 9, 3) := by decide +kernel
theorem dX4_isComparison_12 : decode cX4_isComparison 12 = .ok (.iload_n 0, 1) := by decide +kernel
theorem dX4_isComparison_13 : decode cX4_isComparison 13 = .ok (.bipush 62, 2) := by decide +kernel
theorem dX4_isComparison_15 : decode cX4_isComparison 15 = .ok (.if_icmp .ne 7, 3) := by decide +kernel
theorem dX4_isComparison_18 : decode cX4_isComparison 18 = .ok (.iconst 1, 1) := by decide +kernel
theorem dX4_isComparison_19 : decode cX4_isComparison 19 = .ok (.goto 4, 3) := by decide +kernel
theorem dX4_isComparison_22 : decode cX4_isComparison 22 = .ok (.iconst 0, 1) := by decide +kernel
theorem dX4_isComparison_23 : decode cX4_isComparison 23 = .ok (.ireturn, 1) := by decide +kernel
theorem dX5_init_0 : decode cX5_init 0 = .ok (.aload_n 0, 1) := by decide +kernel
theorem dX5_init_1 : decode cX5_init 1 = .ok (.invokespecial 3, 3) := by decide +kernel
theorem dX5_init_4 : decode cX5_init 4 = .ok (.aload_n 0, 1) := by decide +kernel
theorem dX5_init_5 : decode cX5_init 5 = .ok (.iconst 5, 1) := by decide +kernel
theorem dX5_init_6 : decode cX5_init 6 = .ok (.anewarray 9, 3) := by decide +kernel
theorem dX5_init_9 : decode cX5_init 9 = .ok (.putfield 11, 3) := by decide +kernel
theorem dX5_init_12 : decode cX5_init 12 = .ok (.iconst 0, 1) := by decide +kernel
theorem dX5_init_13 : decode cX5_init 13 = .ok (.istore_n 1, 1) := by decide +kernel
theorem dX5_init_14 : decode cX5_init 14 = .ok (.iload_n 1, 1) := by decide +kernel
theorem dX5_init_15 : decode cX5_init 15 = .ok (.aload_n 0, 1) := by decide +kernel
theorem dX5_init_16 : decode cX5_init 16 = .ok (.getfield 11, 3) := by decide +kernel
theorem dX5_init_19 : decode cX5_init 19 = .ok (.arraylength, 1) := by decide +kernel
theorem dX5_init_20 : decode cX5_init 20 = .ok (.if_icmp .ge 22, 3) := by decide +kernel
theorem dX5_init_23 : decode cX5_init 23 = .ok (.aload_n 0, 1) := by decide +kernel
theorem dX5_init_24 : decode cX5_init 24 = .ok (.getfield 11, 3) := by decide +kernel
theorem dX5_init_27 : decode cX5_init 27 = .ok (.iload_n 1, 1) := by decide +kernel
theorem dX5_init_28 : decode cX5_init 28 = .ok (.new 9, 3) := by decide +kernel
theorem dX5_init_31 : decode cX5_init 31 = .ok (.dup, 1) := by decide +kernel
theorem dX5_init_32 : decode cX5_init 32 = .ok (.invokespecial 17, 3) := by decide +kernel
theorem dX5_init_35 : decode cX5_init 35 = .ok (.aastore, 1) := by decide +kernel
theorem dX5_init_36 : decode cX5_init 36 = .ok (.iinc 1 1, 3) := by decide +kernel
theorem dX5_init_39 : decode cX5_init 39 = .ok (.goto (-25), 3) := by decide +kernel
theorem dX5_init_42 : decode cX5_init 42 = .ok (.aload_n 0, 1) := by decide +kernel
theorem dX5_init_43 : decode cX5_init 43 = .ok (.iconst (-1), 1) := by decide +kernel
theorem dX5_init_44 : decode cX5_init 44 = .ok (.putfield 18, 3) := by decide +kernel
theorem dX5_init_47 : decode cX5_init 47 = .ok (.aload_n 0, 1) := by decide +kernel
theorem dX5_init_48 : decode cX5_init 48 = .ok (.bipush 6, 2) := by decide +kernel
theorem dX5_init_50 : decode cX5_init 50 = .ok (.newarray .int, 2) := by decide +kernel
theorem dX5_init_52 : decode cX5_init 52 = .ok (.putfield 22, 3) := by decide +kernel
theorem dX5_init_55 : decode cX5_init 55 = .ok (.return_, 1) := by decide +kernel
theorem dX5_spare_0 : decode cX5_spare 0 = .ok (.aload_n 0, 1) := by decide +kernel
theorem dX5_spare_1 : decode cX5_spare 1 = .ok (.getfield 11, 3) := by decide +kernel
theorem dX5_spare_4 : decode cX5_spare 4 = .ok (.aload_n 0, 1) := by decide +kernel
theorem dX5_spare_5 : decode cX5_spare 5 = .ok (.getfield 26, 3) := by decide +kernel
theorem dX5_spare_8 : decode cX5_spare 8 = .ok (.aaload, 1) := by decide +kernel
theorem dX5_spare_9 : decode cX5_spare 9 = .ok (.areturn, 1) := by decide +kernel
theorem dX5_drawBy_0 : decode cX5_drawBy 0 = .ok (.aload_n 0, 1) := by decide +kernel
theorem dX5_drawBy_1 : decode cX5_drawBy 1 = .ok (.getfield 18, 3) := by decide +kernel
theorem dX5_drawBy_4 : decode cX5_drawBy 4 = .ok (.ifCond .lt 14, 3) := by decide +kernel
theorem dX5_drawBy_7 : decode cX5_drawBy 7 = .ok (.aload_n 0, 1) := by decide +kernel
theorem dX5_drawBy_8 : decode cX5_drawBy 8 = .ok (.getfield 18, 3) := by decide +kernel
theorem dX5_drawBy_11 : decode cX5_drawBy 11 = .ok (.aload_n 0, 1) := by decide +kernel
theorem dX5_drawBy_12 : decode cX5_drawBy 12 = .ok (.getfield 26, 3) := by decide +kernel
theorem dX5_drawBy_15 : decode cX5_drawBy 15 = .ok (.if_icmp .lt 15, 3) := by decide +kernel
theorem dX5_drawBy_18 : decode cX5_drawBy 18 = .ok (.iload_n 1, 1) := by decide +kernel
theorem dX5_drawBy_19 : decode cX5_drawBy 19 = .ok (.iload_n 2, 1) := by decide +kernel
theorem dX5_drawBy_20 : decode cX5_drawBy 20 = .ok (.iadd, 1) := by decide +kernel
theorem dX5_drawBy_21 : decode cX5_drawBy 21 = .ok (.iload_n 3, 1) := by decide +kernel
theorem dX5_drawBy_22 : decode cX5_drawBy 22 = .ok (.iadd, 1) := by decide +kernel
theorem dX5_drawBy_23 : decode cX5_drawBy 23 = .ok (.iload 5, 2) := by decide +kernel
theorem dX5_drawBy_25 : decode cX5_drawBy 25 = .ok (.iadd, 1) := by decide +kernel
theorem dX5_drawBy_26 : decode cX5_drawBy 26 = .ok (.iload 4, 2) := by decide +kernel
theorem dX5_drawBy_28 : decode cX5_drawBy 28 = .ok (.isub, 1) := by decide +kernel
theorem dX5_drawBy_29 : decode cX5_drawBy 29 = .ok (.ireturn, 1) := by decide +kernel
theorem dX5_drawBy_30 : decode cX5_drawBy 30 = .ok (.aload_n 0, 1) := by decide +kernel
theorem dX5_drawBy_31 : decode cX5_drawBy 31 = .ok (.getfield 22, 3) := by decide +kernel
theorem dX5_drawBy_34 : decode cX5_drawBy 34 = .ok (.iconst 0, 1) := by decide +kernel
theorem dX5_drawBy_35 : decode cX5_drawBy 35 = .ok (.iload_n 1, 1) := by decide +kernel
theorem dX5_drawBy_36 : decode cX5_drawBy 36 = .ok (.iastore, 1) := by decide +kernel
theorem dX5_drawBy_37 : decode cX5_drawBy 37 = .ok (.aload_n 0, 1) := by decide +kernel
theorem dX5_drawBy_38 : decode cX5_drawBy 38 = .ok (.getfield 22, 3) := by decide +kernel
theorem dX5_drawBy_41 : decode cX5_drawBy 41 = .ok (.iconst 1, 1) := by decide +kernel
theorem dX5_drawBy_42 : decode cX5_drawBy 42 = .ok (.iload_n 2, 1) := by decide +kernel
theorem dX5_drawBy_43 : decode cX5_drawBy 43 = .ok (.iastore, 1) := by decide +kernel
theorem dX5_drawBy_44 : decode cX5_drawBy 44 = .ok (.aload_n 0, 1) := by decide +kernel
theorem dX5_drawBy_45 : decode cX5_drawBy 45 = .ok (.getfield 22, 3) := by decide +kernel
theorem dX5_drawBy_48 : decode cX5_drawBy 48 = .ok (.iconst 2, 1) := by decide +kernel
theorem dX5_drawBy_49 : decode cX5_drawBy 49 = .ok (.iload_n 3, 1) := by decide +kernel
theorem dX5_drawBy_50 : decode cX5_drawBy 50 = .ok (.iastore, 1) := by decide +kernel
theorem dX5_drawBy_51 : decode cX5_drawBy 51 = .ok (.aload_n 0, 1) := by decide +kernel
theorem dX5_drawBy_52 : decode cX5_drawBy 52 = .ok (.getfield 22, 3) := by decide +kernel
theorem dX5_drawBy_55 : decode cX5_drawBy 55 = .ok (.iconst 3, 1) := by decide +kernel
theorem dX5_drawBy_56 : decode cX5_drawBy 56 = .ok (.iload 4, 2) := by decide +kernel
theorem dX5_drawBy_58 : decode cX5_drawBy 58 = .ok (.iastore, 1) := by decide +kernel
theorem dX5_drawBy_59 : decode cX5_drawBy 59 = .ok (.aload_n 0, 1) := by decide +kernel
theorem dX5_drawBy_60 : decode cX5_drawBy 60 = .ok (.getfield 22, 3) := by decide +kernel
theorem dX5_drawBy_63 : decode cX5_drawBy 63 = .ok (.iconst 4, 1) := by decide +kernel
theorem dX5_drawBy_64 : decode cX5_drawBy 64 = .ok (.iload 5, 2) := by decide +kernel
theorem dX5_drawBy_66 : decode cX5_drawBy 66 = .ok (.iastore, 1) := by decide +kernel
theorem dX5_drawBy_67 : decode cX5_drawBy 67 = .ok (.aload_n 0, 1) := by decide +kernel
theorem dX5_drawBy_68 : decode cX5_drawBy 68 = .ok (.getfield 22, 3) := by decide +kernel
theorem dX5_drawBy_71 : decode cX5_drawBy 71 = .ok (.iconst 5, 1) := by decide +kernel
theorem dX5_drawBy_72 : decode cX5_drawBy 72 = .ok (.iload 6, 2) := by decide +kernel
theorem dX5_drawBy_74 : decode cX5_drawBy 74 = .ok (.iastore, 1) := by decide +kernel
theorem dX5_drawBy_75 : decode cX5_drawBy 75 = .ok (.aload_n 0, 1) := by decide +kernel
theorem dX5_drawBy_76 : decode cX5_drawBy 76 = .ok (.getfield 11, 3) := by decide +kernel
theorem dX5_drawBy_79 : decode cX5_drawBy 79 = .ok (.aload_n 0, 1) := by decide +kernel
theorem dX5_drawBy_80 : decode cX5_drawBy 80 = .ok (.getfield 18, 3) := by decide +kernel
theorem dX5_drawBy_83 : decode cX5_drawBy 83 = .ok (.aaload, 1) := by decide +kernel
theorem dX5_drawBy_84 : decode cX5_drawBy 84 = .ok (.aload_n 0, 1) := by decide +kernel
theorem dX5_drawBy_85 : decode cX5_drawBy 85 = .ok (.getfield 22, 3) := by decide +kernel
theorem dX5_drawBy_88 : decode cX5_drawBy 88 = .ok (.invokevirtual 29, 3) := by decide +kernel
theorem dX5_drawBy_91 : decode cX5_drawBy 91 = .ok (.istore 7, 2) := by decide +kernel
theorem dX5_drawBy_93 : decode cX5_drawBy 93 = .ok (.iload 7, 2) := by decide +kernel
theorem dX5_drawBy_95 : decode cX5_drawBy 95 = .ok (.bipush 99, 2) := by decide +kernel
theorem dX5_drawBy_97 : decode cX5_drawBy 97 = .ok (.if_icmp .le 8, 3) := by decide +kernel
theorem dX5_drawBy_100 : decode cX5_drawBy 100 = .ok (.bipush 99, 2) := by decide +kernel
theorem dX5_drawBy_102 : decode cX5_drawBy 102 = .ok (.goto 17, 3) := by decide +kernel
theorem dX5_drawBy_105 : decode cX5_drawBy 105 = .ok (.iload 7, 2) := by decide +kernel
theorem dX5_drawBy_107 : decode cX5_drawBy 107 = .ok (.bipush (-99), 2) := by decide +kernel
theorem dX5_drawBy_109 : decode cX5_drawBy 109 = .ok (.if_icmp .ge 8, 3) := by decide +kernel
theorem dX5_drawBy_112 : decode cX5_drawBy 112 = .ok (.bipush (-99), 2) := by decide +kernel
theorem dX5_drawBy_114 : decode cX5_drawBy 114 = .ok (.goto 5, 3) := by decide +kernel
theorem dX5_drawBy_117 : decode cX5_drawBy 117 = .ok (.iload 7, 2) := by decide +kernel
theorem dX5_drawBy_119 : decode cX5_drawBy 119 = .ok (.ireturn, 1) := by decide +kernel
theorem dX6_init_0 : decode cX6_init 0 = .ok (.aload_n 0, 1) := by decide +kernel
theorem dX6_init_1 : decode cX6_init 1 = .ok (.invokespecial 3, 3) := by decide +kernel
theorem dX6_init_4 : decode cX6_init 4 = .ok (.aload_n 0, 1) := by decide +kernel
theorem dX6_init_5 : decode cX6_init 5 = .ok (.bipush 64, 2) := by decide +kernel
theorem dX6_init_7 : decode cX6_init 7 = .ok (.newarray .int, 2) := by decide +kernel
theorem dX6_init_9 : decode cX6_init 9 = .ok (.putfield 11, 3) := by decide +kernel
theorem dX6_init_12 : decode cX6_init 12 = .ok (.return_, 1) := by decide +kernel
theorem dX6_part_0 : decode cX6_part 0 = .ok (.aload_n 0, 1) := by decide +kernel
theorem dX6_part_1 : decode cX6_part 1 = .ok (.getfield 11, 3) := by decide +kernel
theorem dX6_part_4 : decode cX6_part 4 = .ok (.iload_n 1, 1) := by decide +kernel
theorem dX6_part_5 : decode cX6_part 5 = .ok (.iconst 4, 1) := by decide +kernel
theorem dX6_part_6 : decode cX6_part 6 = .ok (.imul, 1) := by decide +kernel
theorem dX6_part_7 : decode cX6_part 7 = .ok (.iload_n 2, 1) := by decide +kernel
theorem dX6_part_8 : decode cX6_part 8 = .ok (.iadd, 1) := by decide +kernel
theorem dX6_part_9 : decode cX6_part 9 = .ok (.iaload, 1) := by decide +kernel
theorem dX6_part_10 : decode cX6_part 10 = .ok (.ireturn, 1) := by decide +kernel
theorem dX6_faultOf_0 : decode cX6_faultOf 0 = .ok (.aload_n 0, 1) := by decide +kernel
theorem dX6_faultOf_1 : decode cX6_faultOf 1 = .ok (.iconst 0, 1) := by decide +kernel
theorem dX6_faultOf_2 : decode cX6_faultOf 2 = .ok (.putfield 15, 3) := by decide +kernel
theorem dX6_faultOf_5 : decode cX6_faultOf 5 = .ok (.aload_n 1, 1) := by decide +kernel
theorem dX6_faultOf_6 : decode cX6_faultOf 6 = .ok (.invokevirtual 19, 3) := by decide +kernel
theorem dX6_faultOf_9 : decode cX6_faultOf 9 = .ok (.iconst 0, 1) := by decide +kernel
theorem dX6_faultOf_10 : decode cX6_faultOf 10 = .ok (.istore_n 2, 1) := by decide +kernel
theorem dX6_faultOf_11 : decode cX6_faultOf 11 = .ok (.iload_n 2, 1) := by decide +kernel
theorem dX6_faultOf_12 : decode cX6_faultOf 12 = .ok (.bipush 16, 2) := by decide +kernel
theorem dX6_faultOf_14 : decode cX6_faultOf 14 = .ok (.if_icmp .ge 33, 3) := by decide +kernel
theorem dX6_faultOf_17 : decode cX6_faultOf 17 = .ok (.aload_n 0, 1) := by decide +kernel
theorem dX6_faultOf_18 : decode cX6_faultOf 18 = .ok (.aload_n 1, 1) := by decide +kernel
theorem dX6_faultOf_19 : decode cX6_faultOf 19 = .ok (.iload_n 2, 1) := by decide +kernel
theorem dX6_faultOf_20 : decode cX6_faultOf 20 = .ok (.invokevirtual 24, 3) := by decide +kernel
theorem dX6_faultOf_23 : decode cX6_faultOf 23 = .ok (.iload_n 2, 1) := by decide +kernel
theorem dX6_faultOf_24 : decode cX6_faultOf 24 = .ok (.bipush 15, 2) := by decide +kernel
theorem dX6_faultOf_26 : decode cX6_faultOf 26 = .ok (.if_icmp .eq 21, 3) := by decide +kernel
theorem dX6_faultOf_29 : decode cX6_faultOf 29 = .ok (.aload_n 1, 1) := by decide +kernel
theorem dX6_faultOf_30 : decode cX6_faultOf 30 = .ok (.bipush 59, 2) := by decide +kernel
theorem dX6_faultOf_32 : decode cX6_faultOf 32 = .ok (.invokevirtual 28, 3) := by decide +kernel
theorem dX6_faultOf_35 : decode cX6_faultOf 35 = .ok (.ifCond .ne 6, 3) := by decide +kernel
theorem dX6_faultOf_38 : decode cX6_faultOf 38 = .ok (.goto 9, 3) := by decide +kernel
theorem dX6_faultOf_41 : decode cX6_faultOf 41 = .ok (.iinc 2 1, 3) := by decide +kernel
theorem dX6_faultOf_44 : decode cX6_faultOf 44 = .ok (.goto (-33), 3) := by decide +kernel
theorem dX6_faultOf_47 : decode cX6_faultOf 47 = .ok (.aload_n 1, 1) := by decide +kernel
theorem dX6_faultOf_48 : decode cX6_faultOf 48 = .ok (.invokevirtual 32, 3) := by decide +kernel
theorem dX6_faultOf_51 : decode cX6_faultOf 51 = .ok (.aload_n 1, 1) := by decide +kernel
theorem dX6_faultOf_52 : decode cX6_faultOf 52 = .ok (.invokevirtual 35, 3) := by decide +kernel
theorem dX6_faultOf_55 : decode cX6_faultOf 55 = .ok (.ireturn, 1) := by decide +kernel
theorem dX6_readStep_0 : decode cX6_readStep 0 = .ok (.aload_n 1, 1) := by decide +kernel
theorem dX6_readStep_1 : decode cX6_readStep 1 = .ok (.invokevirtual 39, 3) := by decide +kernel
theorem dX6_readStep_4 : decode cX6_readStep 4 = .ok (.istore_n 3, 1) := by decide +kernel
theorem dX6_readStep_5 : decode cX6_readStep 5 = .ok (.iload_n 3, 1) := by decide +kernel
theorem dX6_readStep_6 : decode cX6_readStep 6 = .ok (.ifCond .ge 7, 3) := by decide +kernel
theorem dX6_readStep_9 : decode cX6_readStep 9 = .ok (.iconst (-1), 1) := by decide +kernel
theorem dX6_readStep_10 : decode cX6_readStep 10 = .ok (.goto 10, 3) := by decide +kernel
theorem dX6_readStep_13 : decode cX6_readStep 13 = .ok (.ldc 42, 2) := by decide +kernel
theorem dX6_readStep_15 : decode cX6_readStep 15 = .ok (.iload_n 3, 1) := by decide +kernel
theorem dX6_readStep_16 : decode cX6_readStep 16 = .ok (.i2c, 1) := by decide +kernel
theorem dX6_readStep_17 : decode cX6_readStep 17 = .ok (.invokevirtual 44, 3) := by decide +kernel
theorem dX6_readStep_20 : decode cX6_readStep 20 = .ok (.istore 4, 2) := by decide +kernel
theorem dX6_readStep_22 : decode cX6_readStep 22 = .ok (.iload 4, 2) := by decide +kernel
theorem dX6_readStep_24 : decode cX6_readStep 24 = .ok (.ifCond .ge 8, 3) := by decide +kernel
theorem dX6_readStep_27 : decode cX6_readStep 27 = .ok (.aload_n 1, 1) := by decide +kernel
theorem dX6_readStep_28 : decode cX6_readStep 28 = .ok (.invokevirtual 50, 3) := by decide +kernel
theorem dX6_readStep_31 : decode cX6_readStep 31 = .ok (.return_, 1) := by decide +kernel
theorem dX6_readStep_32 : decode cX6_readStep 32 = .ok (.aload_n 1, 1) := by decide +kernel
theorem dX6_readStep_33 : decode cX6_readStep 33 = .ok (.invokevirtual 53, 3) := by decide +kernel
theorem dX6_readStep_36 : decode cX6_readStep 36 = .ok (.aload_n 0, 1) := by decide +kernel
theorem dX6_readStep_37 : decode cX6_readStep 37 = .ok (.getfield 11, 3) := by decide +kernel
theorem dX6_readStep_40 : decode cX6_readStep 40 = .ok (.iload_n 2, 1) := by decide +kernel
theorem dX6_readStep_41 : decode cX6_readStep 41 = .ok (.iconst 4, 1) := by decide +kernel
theorem dX6_readStep_42 : decode cX6_readStep 42 = .ok (.imul, 1) := by decide +kernel
theorem dX6_readStep_43 : decode cX6_readStep 43 = .ok (.iload 4, 2) := by decide +kernel
theorem dX6_readStep_45 : decode cX6_readStep 45 = .ok (.iastore, 1) := by decide +kernel
theorem dX6_readStep_46 : decode cX6_readStep 46 = .ok (.iconst 1, 1) := by decide +kernel
theorem dX6_readStep_47 : decode cX6_readStep 47 = .ok (.istore 5, 2) := by decide +kernel
theorem dX6_readStep_49 : decode cX6_readStep 49 = .ok (.iload 5, 2) := by decide +kernel
theorem dX6_readStep_51 : decode cX6_readStep 51 = .ok (.iconst 4, 1) := by decide +kernel
theorem dX6_readStep_52 : decode cX6_readStep 52 = .ok (.if_icmp .ge 46, 3) := by decide +kernel
theorem dX6_readStep_55 : decode cX6_readStep 55 = .ok (.aload_n 0, 1) := by decide +kernel
theorem dX6_readStep_56 : decode cX6_readStep 56 = .ok (.getfield 11, 3) := by decide +kernel
theorem dX6_readStep_59 : decode cX6_readStep 59 = .ok (.iload_n 2, 1) := by decide +kernel
theorem dX6_readStep_60 : decode cX6_readStep 60 = .ok (.iconst 4, 1) := by decide +kernel
theorem dX6_readStep_61 : decode cX6_readStep 61 = .ok (.imul, 1) := by decide +kernel
theorem dX6_readStep_62 : decode cX6_readStep 62 = .ok (.iload 5, 2) := by decide +kernel
theorem dX6_readStep_64 : decode cX6_readStep 64 = .ok (.iadd, 1) := by decide +kernel
theorem dX6_readStep_65 : decode cX6_readStep 65 = .ok (.iload 5, 2) := by decide +kernel
theorem dX6_readStep_67 : decode cX6_readStep 67 = .ok (.getstatic 56, 3) := by decide +kernel
theorem dX6_readStep_70 : decode cX6_readStep 70 = .ok (.iload 4, 2) := by decide +kernel
theorem dX6_readStep_72 : decode cX6_readStep 72 = .ok (.iaload, 1) := by decide +kernel
theorem dX6_readStep_73 : decode cX6_readStep 73 = .ok (.if_icmp .gt 17, 3) := by decide +kernel
theorem dX6_readStep_76 : decode cX6_readStep 76 = .ok (.aload_n 1, 1) := by decide +kernel
theorem dX6_readStep_77 : decode cX6_readStep 77 = .ok (.invokevirtual 59, 3) := by decide +kernel
theorem dX6_readStep_80 : decode cX6_readStep 80 = .ok (.ifCond .eq 10, 3) := by decide +kernel
theorem dX6_readStep_83 : decode cX6_readStep 83 = .ok (.aload_n 1, 1) := by decide +kernel
theorem dX6_readStep_84 : decode cX6_readStep 84 = .ok (.invokevirtual 63, 3) := by decide +kernel
theorem dX6_readStep_87 : decode cX6_readStep 87 = .ok (.goto 4, 3) := by decide +kernel
theorem dX6_readStep_90 : decode cX6_readStep 90 = .ok (.iconst (-1), 1) := by decide +kernel
theorem dX6_readStep_91 : decode cX6_readStep 91 = .ok (.iastore, 1) := by decide +kernel
theorem dX6_readStep_92 : decode cX6_readStep 92 = .ok (.iinc 5 1, 3) := by decide +kernel
theorem dX6_readStep_95 : decode cX6_readStep 95 = .ok (.goto (-46), 3) := by decide +kernel
theorem dX6_readStep_98 : decode cX6_readStep 98 = .ok (.aload_n 0, 1) := by decide +kernel
theorem dX6_readStep_99 : decode cX6_readStep 99 = .ok (.iload_n 2, 1) := by decide +kernel
theorem dX6_readStep_100 : decode cX6_readStep 100 = .ok (.iconst 1, 1) := by decide +kernel
theorem dX6_readStep_101 : decode cX6_readStep 101 = .ok (.iadd, 1) := by decide +kernel
theorem dX6_readStep_102 : decode cX6_readStep 102 = .ok (.putfield 15, 3) := by decide +kernel
theorem dX6_readStep_105 : decode cX6_readStep 105 = .ok (.return_, 1) := by decide +kernel
theorem dX7_init_0 : decode cX7_init 0 = .ok (.aload_n 0, 1) := by decide +kernel
theorem dX7_init_1 : decode cX7_init 1 = .ok (.invokespecial 3, 3) := by decide +kernel
theorem dX7_init_4 : decode cX7_init 4 = .ok (.aload_n 0, 1) := by decide +kernel
theorem dX7_init_5 : decode cX7_init 5 = .ok (.iconst 3, 1) := by decide +kernel
theorem dX7_init_6 : decode cX7_init 6 = .ok (.newarray .int, 2) := by decide +kernel
theorem dX7_init_8 : decode cX7_init 8 = .ok (.putfield 9, 3) := by decide +kernel
theorem dX7_init_11 : decode cX7_init 11 = .ok (.aload_n 0, 1) := by decide +kernel
theorem dX7_init_12 : decode cX7_init 12 = .ok (.iconst 3, 1) := by decide +kernel
theorem dX7_init_13 : decode cX7_init 13 = .ok (.newarray .int, 2) := by decide +kernel
theorem dX7_init_15 : decode cX7_init 15 = .ok (.putfield 15, 3) := by decide +kernel
theorem dX7_init_18 : decode cX7_init 18 = .ok (.aload_n 0, 1) := by decide +kernel
theorem dX7_init_19 : decode cX7_init 19 = .ok (.iconst 3, 1) := by decide +kernel
theorem dX7_init_20 : decode cX7_init 20 = .ok (.newarray .int, 2) := by decide +kernel
theorem dX7_init_22 : decode cX7_init 22 = .ok (.putfield 18, 3) := by decide +kernel
theorem dX7_init_25 : decode cX7_init 25 = .ok (.aload_n 0, 1) := by decide +kernel
theorem dX7_init_26 : decode cX7_init 26 = .ok (.iconst 3, 1) := by decide +kernel
theorem dX7_init_27 : decode cX7_init 27 = .ok (.newarray .int, 2) := by decide +kernel
theorem dX7_init_29 : decode cX7_init 29 = .ok (.putfield 21, 3) := by decide +kernel
theorem dX7_init_32 : decode cX7_init 32 = .ok (.aload_n 0, 1) := by decide +kernel
theorem dX7_init_33 : decode cX7_init 33 = .ok (.iconst 3, 1) := by decide +kernel
theorem dX7_init_34 : decode cX7_init 34 = .ok (.newarray .int, 2) := by decide +kernel
theorem dX7_init_36 : decode cX7_init 36 = .ok (.putfield 24, 3) := by decide +kernel
theorem dX7_init_39 : decode cX7_init 39 = .ok (.aload_n 0, 1) := by decide +kernel
theorem dX7_init_40 : decode cX7_init 40 = .ok (.iconst 3, 1) := by decide +kernel
theorem dX7_init_41 : decode cX7_init 41 = .ok (.newarray .int, 2) := by decide +kernel
theorem dX7_init_43 : decode cX7_init 43 = .ok (.putfield 27, 3) := by decide +kernel
theorem dX7_init_46 : decode cX7_init 46 = .ok (.aload_n 0, 1) := by decide +kernel
theorem dX7_init_47 : decode cX7_init 47 = .ok (.bipush 24, 2) := by decide +kernel
theorem dX7_init_49 : decode cX7_init 49 = .ok (.newarray .int, 2) := by decide +kernel
theorem dX7_init_51 : decode cX7_init 51 = .ok (.putfield 30, 3) := by decide +kernel
theorem dX7_init_54 : decode cX7_init 54 = .ok (.aload_n 0, 1) := by decide +kernel
theorem dX7_init_55 : decode cX7_init 55 = .ok (.bipush 8, 2) := by decide +kernel
theorem dX7_init_57 : decode cX7_init 57 = .ok (.newarray .int, 2) := by decide +kernel
theorem dX7_init_59 : decode cX7_init 59 = .ok (.putfield 33, 3) := by decide +kernel
theorem dX7_init_62 : decode cX7_init 62 = .ok (.aload_n 0, 1) := by decide +kernel
theorem dX7_init_63 : decode cX7_init 63 = .ok (.bipush 8, 2) := by decide +kernel
theorem dX7_init_65 : decode cX7_init 65 = .ok (.newarray .int, 2) := by decide +kernel
theorem dX7_init_67 : decode cX7_init 67 = .ok (.putfield 36, 3) := by decide +kernel
theorem dX7_init_70 : decode cX7_init 70 = .ok (.return_, 1) := by decide +kernel
theorem dX7_begin_0 : decode cX7_begin 0 = .ok (.aload_n 0, 1) := by decide +kernel
theorem dX7_begin_1 : decode cX7_begin 1 = .ok (.aload_n 1, 1) := by decide +kernel
theorem dX7_begin_2 : decode cX7_begin 2 = .ok (.invokevirtual 39, 3) := by decide +kernel
theorem dX7_begin_5 : decode cX7_begin 5 = .ok (.putfield 45, 3) := by decide +kernel
theorem dX7_begin_8 : decode cX7_begin 8 = .ok (.aload_n 0, 1) := by decide +kernel
theorem dX7_begin_9 : decode cX7_begin 9 = .ok (.aload_n 1, 1) := by decide +kernel
theorem dX7_begin_10 : decode cX7_begin 10 = .ok (.invokevirtual 49, 3) := by decide +kernel
theorem dX7_begin_13 : decode cX7_begin 13 = .ok (.putfield 52, 3) := by decide +kernel
theorem dX7_begin_16 : decode cX7_begin 16 = .ok (.aload_n 0, 1) := by decide +kernel
theorem dX7_begin_17 : decode cX7_begin 17 = .ok (.iconst 0, 1) := by decide +kernel
theorem dX7_begin_18 : decode cX7_begin 18 = .ok (.putfield 55, 3) := by decide +kernel
theorem dX7_begin_21 : decode cX7_begin 21 = .ok (.aload_n 0, 1) := by decide +kernel
theorem dX7_begin_22 : decode cX7_begin 22 = .ok (.iconst 0, 1) := by decide +kernel
theorem dX7_begin_23 : decode cX7_begin 23 = .ok (.putfield 58, 3) := by decide +kernel
theorem dX7_begin_26 : decode cX7_begin 26 = .ok (.iconst 0, 1) := by decide +kernel
theorem dX7_begin_27 : decode cX7_begin 27 = .ok (.istore_n 2, 1) := by decide +kernel
theorem dX7_begin_28 : decode cX7_begin 28 = .ok (.iload_n 2, 1) := by decide +kernel
theorem dX7_begin_29 : decode cX7_begin 29 = .ok (.aload_n 1, 1) := by decide +kernel
theorem dX7_begin_30 : decode cX7_begin 30 = .ok (.getfield 61, 3) := by decide +kernel
theorem dX7_begin_33 : decode cX7_begin 33 = .ok (.if_icmp .ge 62, 3) := by decide +kernel
theorem dX7_begin_36 : decode cX7_begin 36 = .ok (.aload_n 0, 1) := by decide +kernel
theorem dX7_begin_37 : decode cX7_begin 37 = .ok (.iload_n 2, 1) := by decide +kernel
theorem dX7_begin_38 : decode cX7_begin 38 = .ok (.aload_n 1, 1) := by decide +kernel
theorem dX7_begin_39 : decode cX7_begin 39 = .ok (.iload_n 2, 1) := by decide +kernel
theorem dX7_begin_40 : decode cX7_begin 40 = .ok (.invokevirtual 64, 3) := by decide +kernel
theorem dX7_begin_43 : decode cX7_begin 43 = .ok (.aload_n 1, 1) := by decide +kernel
theorem dX7_begin_44 : decode cX7_begin 44 = .ok (.iload_n 2, 1) := by decide +kernel
theorem dX7_begin_45 : decode cX7_begin 45 = .ok (.invokevirtual 68, 3) := by decide +kernel
theorem dX7_begin_48 : decode cX7_begin 48 = .ok (.invokevirtual 71, 3) := by decide +kernel
theorem dX7_begin_51 : decode cX7_begin 51 = .ok (.aload_n 0, 1) := by decide +kernel
theorem dX7_begin_52 : decode cX7_begin 52 = .ok (.getfield 18, 3) := by decide +kernel
theorem dX7_begin_55 : decode cX7_begin 55 = .ok (.iload_n 2, 1) := by decide +kernel
theorem dX7_begin_56 : decode cX7_begin 56 = .ok (.aload_n 0, 1) := by decide +kernel
theorem dX7_begin_57 : decode cX7_begin 57 = .ok (.getfield 9, 3) := by decide +kernel
theorem dX7_begin_60 : decode cX7_begin 60 = .ok (.iload_n 2, 1) := by decide +kernel
theorem dX7_begin_61 : decode cX7_begin 61 = .ok (.iaload, 1) := by decide +kernel
theorem dX7_begin_62 : decode cX7_begin 62 = .ok (.iastore, 1) := by decide +kernel
theorem dX7_begin_63 : decode cX7_begin 63 = .ok (.aload_n 0, 1) := by decide +kernel
theorem dX7_begin_64 : decode cX7_begin 64 = .ok (.getfield 21, 3) := by decide +kernel
theorem dX7_begin_67 : decode cX7_begin 67 = .ok (.iload_n 2, 1) := by decide +kernel
theorem dX7_begin_68 : decode cX7_begin 68 = .ok (.aload_n 0, 1) := by decide +kernel
theorem dX7_begin_69 : decode cX7_begin 69 = .ok (.getfield 15, 3) := by decide +kernel
theorem dX7_begin_72 : decode cX7_begin 72 = .ok (.iload_n 2, 1) := by decide +kernel
theorem dX7_begin_73 : decode cX7_begin 73 = .ok (.iaload, 1) := by decide +kernel
theorem dX7_begin_74 : decode cX7_begin 74 = .ok (.iastore, 1) := by decide +kernel
theorem dX7_begin_75 : decode cX7_begin 75 = .ok (.aload_n 0, 1) := by decide +kernel
theorem dX7_begin_76 : decode cX7_begin 76 = .ok (.getfield 24, 3) := by decide +kernel
theorem dX7_begin_79 : decode cX7_begin 79 = .ok (.iload_n 2, 1) := by decide +kernel
theorem dX7_begin_80 : decode cX7_begin 80 = .ok (.iconst 0, 1) := by decide +kernel
theorem dX7_begin_81 : decode cX7_begin 81 = .ok (.iastore, 1) := by decide +kernel
theorem dX7_begin_82 : decode cX7_begin 82 = .ok (.aload_n 0, 1) := by decide +kernel
theorem dX7_begin_83 : decode cX7_begin 83 = .ok (.getfield 27, 3) := by decide +kernel
theorem dX7_begin_86 : decode cX7_begin 86 = .ok (.iload_n 2, 1) := by decide +kernel
theorem dX7_begin_87 : decode cX7_begin 87 = .ok (.iconst 0, 1) := by decide +kernel
theorem dX7_begin_88 : decode cX7_begin 88 = .ok (.iastore, 1) := by decide +kernel
theorem dX7_begin_89 : decode cX7_begin 89 = .ok (.iinc 2 1, 3) := by decide +kernel
theorem dX7_begin_92 : decode cX7_begin 92 = .ok (.goto (-64), 3) := by decide +kernel
theorem dX7_begin_95 : decode cX7_begin 95 = .ok (.iconst 0, 1) := by decide +kernel
theorem dX7_begin_96 : decode cX7_begin 96 = .ok (.istore_n 2, 1) := by decide +kernel
theorem dX7_begin_97 : decode cX7_begin 97 = .ok (.iload_n 2, 1) := by decide +kernel
theorem dX7_begin_98 : decode cX7_begin 98 = .ok (.aload_n 1, 1) := by decide +kernel
theorem dX7_begin_99 : decode cX7_begin 99 = .ok (.getfield 75, 3) := by decide +kernel
theorem dX7_begin_102 : decode cX7_begin 102 = .ok (.if_icmp .ge 60, 3) := by decide +kernel
theorem dX7_begin_105 : decode cX7_begin 105 = .ok (.iconst 0, 1) := by decide +kernel
theorem dX7_begin_106 : decode cX7_begin 106 = .ok (.istore_n 3, 1) := by decide +kernel
theorem dX7_begin_107 : decode cX7_begin 107 = .ok (.iload_n 3, 1) := by decide +kernel
theorem dX7_begin_108 : decode cX7_begin 108 = .ok (.iconst 3, 1) := by decide +kernel
theorem dX7_begin_109 : decode cX7_begin 109 = .ok (.if_icmp .ge 25, 3) := by decide +kernel
theorem dX7_begin_112 : decode cX7_begin 112 = .ok (.aload_n 0, 1) := by decide +kernel
theorem dX7_begin_113 : decode cX7_begin 113 = .ok (.getfield 30, 3) := by decide +kernel
theorem dX7_begin_116 : decode cX7_begin 116 = .ok (.iload_n 2, 1) := by decide +kernel
theorem dX7_begin_117 : decode cX7_begin 117 = .ok (.iconst 3, 1) := by decide +kernel
theorem dX7_begin_118 : decode cX7_begin 118 = .ok (.imul, 1) := by decide +kernel
theorem dX7_begin_119 : decode cX7_begin 119 = .ok (.iload_n 3, 1) := by decide +kernel
theorem dX7_begin_120 : decode cX7_begin 120 = .ok (.iadd, 1) := by decide +kernel
theorem dX7_begin_121 : decode cX7_begin 121 = .ok (.aload_n 1, 1) := by decide +kernel
theorem dX7_begin_122 : decode cX7_begin 122 = .ok (.iload_n 2, 1) := by decide +kernel
theorem dX7_begin_123 : decode cX7_begin 123 = .ok (.iload_n 3, 1) := by decide +kernel
theorem dX7_begin_124 : decode cX7_begin 124 = .ok (.invokevirtual 78, 3) := by decide +kernel
theorem dX7_begin_127 : decode cX7_begin 127 = .ok (.iastore, 1) := by decide +kernel
theorem dX7_begin_128 : decode cX7_begin 128 = .ok (.iinc 3 1, 3) := by decide +kernel
theorem dX7_begin_131 : decode cX7_begin 131 = .ok (.goto (-24), 3) := by decide +kernel
theorem dX7_begin_134 : decode cX7_begin 134 = .ok (.aload_n 0, 1) := by decide +kernel
theorem dX7_begin_135 : decode cX7_begin 135 = .ok (.getfield 33, 3) := by decide +kernel
theorem dX7_begin_138 : decode cX7_begin 138 = .ok (.iload_n 2, 1) := by decide +kernel
theorem dX7_begin_139 : decode cX7_begin 139 = .ok (.aload_n 1, 1) := by decide +kernel
theorem dX7_begin_140 : decode cX7_begin 140 = .ok (.iload_n 2, 1) := by decide +kernel
theorem dX7_begin_141 : decode cX7_begin 141 = .ok (.invokevirtual 82, 3) := by decide +kernel
theorem dX7_begin_144 : decode cX7_begin 144 = .ok (.iastore, 1) := by decide +kernel
theorem dX7_begin_145 : decode cX7_begin 145 = .ok (.aload_n 0, 1) := by decide +kernel
theorem dX7_begin_146 : decode cX7_begin 146 = .ok (.getfield 36, 3) := by decide +kernel
theorem dX7_begin_149 : decode cX7_begin 149 = .ok (.iload_n 2, 1) := by decide +kernel
theorem dX7_begin_150 : decode cX7_begin 150 = .ok (.aload_n 1, 1) := by decide +kernel
theorem dX7_begin_151 : decode cX7_begin 151 = .ok (.iload_n 2, 1) := by decide +kernel
theorem dX7_begin_152 : decode cX7_begin 152 = .ok (.invokevirtual 85, 3) := by decide +kernel
theorem dX7_begin_155 : decode cX7_begin 155 = .ok (.iastore, 1) := by decide +kernel
theorem dX7_begin_156 : decode cX7_begin 156 = .ok (.iinc 2 1, 3) := by decide +kernel
theorem dX7_begin_159 : decode cX7_begin 159 = .ok (.goto (-62), 3) := by decide +kernel
theorem dX7_begin_162 : decode cX7_begin 162 = .ok (.return_, 1) := by decide +kernel
theorem dX7_copyFrom_0 : decode cX7_copyFrom 0 = .ok (.aload_n 0, 1) := by decide +kernel
theorem dX7_copyFrom_1 : decode cX7_copyFrom 1 = .ok (.aload_n 1, 1) := by decide +kernel
theorem dX7_copyFrom_2 : decode cX7_copyFrom 2 = .ok (.getfield 45, 3) := by decide +kernel
theorem dX7_copyFrom_5 : decode cX7_copyFrom 5 = .ok (.putfield 45, 3) := by decide +kernel
theorem dX7_copyFrom_8 : decode cX7_copyFrom 8 = .ok (.aload_n 0, 1) := by decide +kernel
theorem dX7_copyFrom_9 : decode cX7_copyFrom 9 = .ok (.aload_n 1, 1) := by decide +kernel
theorem dX7_copyFrom_10 : decode cX7_copyFrom 10 = .ok (.getfield 52, 3) := by decide +kernel
theorem dX7_copyFrom_13 : decode cX7_copyFrom 13 = .ok (.putfield 52, 3) := by decide +kernel
theorem dX7_copyFrom_16 : decode cX7_copyFrom 16 = .ok (.aload_n 0, 1) := by decide +kernel
theorem dX7_copyFrom_17 : decode cX7_copyFrom 17 = .ok (.aload_n 1, 1) := by decide +kernel
theorem dX7_copyFrom_18 : decode cX7_copyFrom 18 = .ok (.getfield 55, 3) := by decide +kernel
theorem dX7_copyFrom_21 : decode cX7_copyFrom 21 = .ok (.putfield 55, 3) := by decide +kernel
theorem dX7_copyFrom_24 : decode cX7_copyFrom 24 = .ok (.aload_n 0, 1) := by decide +kernel
theorem dX7_copyFrom_25 : decode cX7_copyFrom 25 = .ok (.aload_n 1, 1) := by decide +kernel
theorem dX7_copyFrom_26 : decode cX7_copyFrom 26 = .ok (.getfield 58, 3) := by decide +kernel
theorem dX7_copyFrom_29 : decode cX7_copyFrom 29 = .ok (.putfield 58, 3) := by decide +kernel
theorem dX7_copyFrom_32 : decode cX7_copyFrom 32 = .ok (.aload_n 1, 1) := by decide +kernel
theorem dX7_copyFrom_33 : decode cX7_copyFrom 33 = .ok (.getfield 9, 3) := by decide +kernel
theorem dX7_copyFrom_36 : decode cX7_copyFrom 36 = .ok (.iconst 0, 1) := by decide +kernel
theorem dX7_copyFrom_37 : decode cX7_copyFrom 37 = .ok (.aload_n 0, 1) := by decide +kernel
theorem dX7_copyFrom_38 : decode cX7_copyFrom 38 = .ok (.getfield 9, 3) := by decide +kernel
theorem dX7_copyFrom_41 : decode cX7_copyFrom 41 = .ok (.iconst 0, 1) := by decide +kernel
theorem dX7_copyFrom_42 : decode cX7_copyFrom 42 = .ok (.iconst 3, 1) := by decide +kernel
theorem dX7_copyFrom_43 : decode cX7_copyFrom 43 = .ok (.invokestatic 88, 3) := by decide +kernel
theorem dX7_copyFrom_46 : decode cX7_copyFrom 46 = .ok (.aload_n 1, 1) := by decide +kernel
theorem dX7_copyFrom_47 : decode cX7_copyFrom 47 = .ok (.getfield 15, 3) := by decide +kernel
theorem dX7_copyFrom_50 : decode cX7_copyFrom 50 = .ok (.iconst 0, 1) := by decide +kernel
theorem dX7_copyFrom_51 : decode cX7_copyFrom 51 = .ok (.aload_n 0, 1) := by decide +kernel
theorem dX7_copyFrom_52 : decode cX7_copyFrom 52 = .ok (.getfield 15, 3) := by decide +kernel
theorem dX7_copyFrom_55 : decode cX7_copyFrom 55 = .ok (.iconst 0, 1) := by decide +kernel
theorem dX7_copyFrom_56 : decode cX7_copyFrom 56 = .ok (.iconst 3, 1) := by decide +kernel
theorem dX7_copyFrom_57 : decode cX7_copyFrom 57 = .ok (.invokestatic 88, 3) := by decide +kernel
theorem dX7_copyFrom_60 : decode cX7_copyFrom 60 = .ok (.aload_n 1, 1) := by decide +kernel
theorem dX7_copyFrom_61 : decode cX7_copyFrom 61 = .ok (.getfield 18, 3) := by decide +kernel
theorem dX7_copyFrom_64 : decode cX7_copyFrom 64 = .ok (.iconst 0, 1) := by decide +kernel
theorem dX7_copyFrom_65 : decode cX7_copyFrom 65 = .ok (.aload_n 0, 1) := by decide +kernel
theorem dX7_copyFrom_66 : decode cX7_copyFrom 66 = .ok (.getfield 18, 3) := by decide +kernel
theorem dX7_copyFrom_69 : decode cX7_copyFrom 69 = .ok (.iconst 0, 1) := by decide +kernel
theorem dX7_copyFrom_70 : decode cX7_copyFrom 70 = .ok (.iconst 3, 1) := by decide +kernel
theorem dX7_copyFrom_71 : decode cX7_copyFrom 71 = .ok (.invokestatic 88, 3) := by decide +kernel
theorem dX7_copyFrom_74 : decode cX7_copyFrom 74 = .ok (.aload_n 1, 1) := by decide +kernel
theorem dX7_copyFrom_75 : decode cX7_copyFrom 75 = .ok (.getfield 21, 3) := by decide +kernel
theorem dX7_copyFrom_78 : decode cX7_copyFrom 78 = .ok (.iconst 0, 1) := by decide +kernel
theorem dX7_copyFrom_79 : decode cX7_copyFrom 79 = .ok (.aload_n 0, 1) := by decide +kernel
theorem dX7_copyFrom_80 : decode cX7_copyFrom 80 = .ok (.getfield 21, 3) := by decide +kernel
theorem dX7_copyFrom_83 : decode cX7_copyFrom 83 = .ok (.iconst 0, 1) := by decide +kernel
theorem dX7_copyFrom_84 : decode cX7_copyFrom 84 = .ok (.iconst 3, 1) := by decide +kernel
theorem dX7_copyFrom_85 : decode cX7_copyFrom 85 = .ok (.invokestatic 88, 3) := by decide +kernel
theorem dX7_copyFrom_88 : decode cX7_copyFrom 88 = .ok (.aload_n 1, 1) := by decide +kernel
theorem dX7_copyFrom_89 : decode cX7_copyFrom 89 = .ok (.getfield 24, 3) := by decide +kernel
theorem dX7_copyFrom_92 : decode cX7_copyFrom 92 = .ok (.iconst 0, 1) := by decide +kernel
theorem dX7_copyFrom_93 : decode cX7_copyFrom 93 = .ok (.aload_n 0, 1) := by decide +kernel
theorem dX7_copyFrom_94 : decode cX7_copyFrom 94 = .ok (.getfield 24, 3) := by decide +kernel
theorem dX7_copyFrom_97 : decode cX7_copyFrom 97 = .ok (.iconst 0, 1) := by decide +kernel
theorem dX7_copyFrom_98 : decode cX7_copyFrom 98 = .ok (.iconst 3, 1) := by decide +kernel
theorem dX7_copyFrom_99 : decode cX7_copyFrom 99 = .ok (.invokestatic 88, 3) := by decide +kernel
theorem dX7_copyFrom_102 : decode cX7_copyFrom 102 = .ok (.aload_n 1, 1) := by decide +kernel
theorem dX7_copyFrom_103 : decode cX7_copyFrom 103 = .ok (.getfield 27, 3) := by decide +kernel
theorem dX7_copyFrom_106 : decode cX7_copyFrom 106 = .ok (.iconst 0, 1) := by decide +kernel
theorem dX7_copyFrom_107 : decode cX7_copyFrom 107 = .ok (.aload_n 0, 1) := by decide +kernel
theorem dX7_copyFrom_108 : decode cX7_copyFrom 108 = .ok (.getfield 27, 3) := by decide +kernel
theorem dX7_copyFrom_111 : decode cX7_copyFrom 111 = .ok (.iconst 0, 1) := by decide +kernel
theorem dX7_copyFrom_112 : decode cX7_copyFrom 112 = .ok (.iconst 3, 1) := by decide +kernel
theorem dX7_copyFrom_113 : decode cX7_copyFrom 113 = .ok (.invokestatic 88, 3) := by decide +kernel
theorem dX7_copyFrom_116 : decode cX7_copyFrom 116 = .ok (.aload_n 1, 1) := by decide +kernel
theorem dX7_copyFrom_117 : decode cX7_copyFrom 117 = .ok (.getfield 30, 3) := by decide +kernel
theorem dX7_copyFrom_120 : decode cX7_copyFrom 120 = .ok (.iconst 0, 1) := by decide +kernel
theorem dX7_copyFrom_121 : decode cX7_copyFrom 121 = .ok (.aload_n 0, 1) := by decide +kernel
theorem dX7_copyFrom_122 : decode cX7_copyFrom 122 = .ok (.getfield 30, 3) := by decide +kernel
theorem dX7_copyFrom_125 : decode cX7_copyFrom 125 = .ok (.iconst 0, 1) := by decide +kernel
theorem dX7_copyFrom_126 : decode cX7_copyFrom 126 = .ok (.bipush 24, 2) := by decide +kernel
theorem dX7_copyFrom_128 : decode cX7_copyFrom 128 = .ok (.invokestatic 88, 3) := by decide +kernel
theorem dX7_copyFrom_131 : decode cX7_copyFrom 131 = .ok (.aload_n 1, 1) := by decide +kernel
theorem dX7_copyFrom_132 : decode cX7_copyFrom 132 = .ok (.getfield 33, 3) := by decide +kernel
theorem dX7_copyFrom_135 : decode cX7_copyFrom 135 = .ok (.iconst 0, 1) := by decide +kernel
theorem dX7_copyFrom_136 : decode cX7_copyFrom 136 = .ok (.aload_n 0, 1) := by decide +kernel
theorem dX7_copyFrom_137 : decode cX7_copyFrom 137 = .ok (.getfield 33, 3) := by decide +kernel
theorem dX7_copyFrom_140 : decode cX7_copyFrom 140 = .ok (.iconst 0, 1) := by decide +kernel
theorem dX7_copyFrom_141 : decode cX7_copyFrom 141 = .ok (.bipush 8, 2) := by decide +kernel
theorem dX7_copyFrom_143 : decode cX7_copyFrom 143 = .ok (.invokestatic 88, 3) := by decide +kernel
theorem dX7_copyFrom_146 : decode cX7_copyFrom 146 = .ok (.aload_n 1, 1) := by decide +kernel
theorem dX7_copyFrom_147 : decode cX7_copyFrom 147 = .ok (.getfield 36, 3) := by decide +kernel
theorem dX7_copyFrom_150 : decode cX7_copyFrom 150 = .ok (.iconst 0, 1) := by decide +kernel
theorem dX7_copyFrom_151 : decode cX7_copyFrom 151 = .ok (.aload_n 0, 1) := by decide +kernel
theorem dX7_copyFrom_152 : decode cX7_copyFrom 152 = .ok (.getfield 36, 3) := by decide +kernel
theorem dX7_copyFrom_155 : decode cX7_copyFrom 155 = .ok (.iconst 0, 1) := by decide +kernel
theorem dX7_copyFrom_156 : decode cX7_copyFrom 156 = .ok (.bipush 8, 2) := by decide +kernel
theorem dX7_copyFrom_158 : decode cX7_copyFrom 158 = .ok (.invokestatic 88, 3) := by decide +kernel
theorem dX7_copyFrom_161 : decode cX7_copyFrom 161 = .ok (.return_, 1) := by decide +kernel
theorem dX7_logLength_0 : decode cX7_logLength 0 = .ok (.aload_n 0, 1) := by decide +kernel
theorem dX7_logLength_1 : decode cX7_logLength 1 = .ok (.getfield 58, 3) := by decide +kernel
theorem dX7_logLength_4 : decode cX7_logLength 4 = .ok (.bipush 60, 2) := by decide +kernel
theorem dX7_logLength_6 : decode cX7_logLength 6 = .ok (.invokestatic 94, 3) := by decide +kernel
theorem dX7_logLength_9 : decode cX7_logLength 9 = .ok (.ireturn, 1) := by decide +kernel
theorem dX7_awayOf_0 : decode cX7_awayOf 0 = .ok (.aload_n 0, 1) := by decide +kernel
theorem dX7_awayOf_1 : decode cX7_awayOf 1 = .ok (.getfield 9, 3) := by decide +kernel
theorem dX7_awayOf_4 : decode cX7_awayOf 4 = .ok (.iload_n 1, 1) := by decide +kernel
theorem dX7_awayOf_5 : decode cX7_awayOf 5 = .ok (.iaload, 1) := by decide +kernel
theorem dX7_awayOf_6 : decode cX7_awayOf 6 = .ok (.iload_n 2, 1) := by decide +kernel
theorem dX7_awayOf_7 : decode cX7_awayOf 7 = .ok (.isub, 1) := by decide +kernel
theorem dX7_awayOf_8 : decode cX7_awayOf 8 = .ok (.invokestatic 99, 3) := by decide +kernel
theorem dX7_awayOf_11 : decode cX7_awayOf 11 = .ok (.aload_n 0, 1) := by decide +kernel
theorem dX7_awayOf_12 : decode cX7_awayOf 12 = .ok (.getfield 15, 3) := by decide +kernel
theorem dX7_awayOf_15 : decode cX7_awayOf 15 = .ok (.iload_n 1, 1) := by decide +kernel
theorem dX7_awayOf_16 : decode cX7_awayOf 16 = .ok (.iaload, 1) := by decide +kernel
theorem dX7_awayOf_17 : decode cX7_awayOf 17 = .ok (.iload_n 3, 1) := by decide +kernel
theorem dX7_awayOf_18 : decode cX7_awayOf 18 = .ok (.isub, 1) := by decide +kernel
theorem dX7_awayOf_19 : decode cX7_awayOf 19 = .ok (.invokestatic 99, 3) := by decide +kernel
theorem dX7_awayOf_22 : decode cX7_awayOf 22 = .ok (.iadd, 1) := by decide +kernel
theorem dX7_awayOf_23 : decode cX7_awayOf 23 = .ok (.ireturn, 1) := by decide +kernel
theorem dX7_put_0 : decode cX7_put 0 = .ok (.aload_n 0, 1) := by decide +kernel
theorem dX7_put_1 : decode cX7_put 1 = .ok (.getfield 9, 3) := by decide +kernel
theorem dX7_put_4 : decode cX7_put 4 = .ok (.iload_n 1, 1) := by decide +kernel
theorem dX7_put_5 : decode cX7_put 5 = .ok (.iload_n 2, 1) := by decide +kernel
theorem dX7_put_6 : decode cX7_put 6 = .ok (.iastore, 1) := by decide +kernel
theorem dX7_put_7 : decode cX7_put 7 = .ok (.aload_n 0, 1) := by decide +kernel
theorem dX7_put_8 : decode cX7_put 8 = .ok (.getfield 15, 3) := by decide +kernel
theorem dX7_put_11 : decode cX7_put 11 = .ok (.iload_n 1, 1) := by decide +kernel
theorem dX7_put_12 : decode cX7_put 12 = .ok (.iload_n 3, 1) := by decide +kernel
theorem dX7_put_13 : decode cX7_put 13 = .ok (.iastore, 1) := by decide +kernel
theorem dX7_put_14 : decode cX7_put 14 = .ok (.return_, 1) := by decide +kernel
theorem dX7_singTo_0 : decode cX7_singTo 0 = .ok (.aload_n 0, 1) := by decide +kernel
theorem dX7_singTo_1 : decode cX7_singTo 1 = .ok (.getfield 30, 3) := by decide +kernel
theorem dX7_singTo_4 : decode cX7_singTo 4 = .ok (.iload_n 2, 1) := by decide +kernel
theorem dX7_singTo_5 : decode cX7_singTo 5 = .ok (.iconst 3, 1) := by decide +kernel
theorem dX7_singTo_6 : decode cX7_singTo 6 = .ok (.imul, 1) := by decide +kernel
theorem dX7_singTo_7 : decode cX7_singTo 7 = .ok (.iload_n 1, 1) := by decide +kernel
theorem dX7_singTo_8 : decode cX7_singTo 8 = .ok (.iadd, 1) := by decide +kernel
theorem dX7_singTo_9 : decode cX7_singTo 9 = .ok (.dup2, 1) := by decide +kernel
theorem dX7_singTo_10 : decode cX7_singTo 10 = .ok (.iaload, 1) := by decide +kernel
theorem dX7_singTo_11 : decode cX7_singTo 11 = .ok (.iconst 1, 1) := by decide +kernel
theorem dX7_singTo_12 : decode cX7_singTo 12 = .ok (.iadd, 1) := by decide +kernel
theorem dX7_singTo_13 : decode cX7_singTo 13 = .ok (.iastore, 1) := by decide +kernel
theorem dX7_singTo_14 : decode cX7_singTo 14 = .ok (.aload_n 0, 1) := by decide +kernel
theorem dX7_singTo_15 : decode cX7_singTo 15 = .ok (.getfield 27, 3) := by decide +kernel
theorem dX7_singTo_18 : decode cX7_singTo 18 = .ok (.iload_n 1, 1) := by decide +kernel
theorem dX7_singTo_19 : decode cX7_singTo 19 = .ok (.dup2, 1) := by decide +kernel
theorem dX7_singTo_20 : decode cX7_singTo 20 = .ok (.iaload, 1) := by decide +kernel
theorem dX7_singTo_21 : decode cX7_singTo 21 = .ok (.iconst 1, 1) := by decide +kernel
theorem dX7_singTo_22 : decode cX7_singTo 22 = .ok (.iadd, 1) := by decide +kernel
theorem dX7_singTo_23 : decode cX7_singTo 23 = .ok (.iastore, 1) := by decide +kernel
theorem dX7_singTo_24 : decode cX7_singTo 24 = .ok (.return_, 1) := by decide +kernel
theorem dX7_rowOn_0 : decode cX7_rowOn 0 = .ok (.aload_n 0, 1) := by decide +kernel
theorem dX7_rowOn_1 : decode cX7_rowOn 1 = .ok (.getfield 18, 3) := by decide +kernel
theorem dX7_rowOn_4 : decode cX7_rowOn 4 = .ok (.iload_n 1, 1) := by decide +kernel
theorem dX7_rowOn_5 : decode cX7_rowOn 5 = .ok (.iaload, 1) := by decide +kernel
theorem dX7_rowOn_6 : decode cX7_rowOn 6 = .ok (.aload_n 0, 1) := by decide +kernel
theorem dX7_rowOn_7 : decode cX7_rowOn 7 = .ok (.getfield 9, 3) := by decide +kernel
theorem dX7_rowOn_10 : decode cX7_rowOn 10 = .ok (.iload_n 1, 1) := by decide +kernel
theorem dX7_rowOn_11 : decode cX7_rowOn 11 = .ok (.iaload, 1) := by decide +kernel
theorem dX7_rowOn_12 : decode cX7_rowOn 12 = .ok (.isub, 1) := by decide +kernel
theorem dX7_rowOn_13 : decode cX7_rowOn 13 = .ok (.istore_n 3, 1) := by decide +kernel
theorem dX7_rowOn_14 : decode cX7_rowOn 14 = .ok (.iload_n 2, 1) := by decide +kernel
theorem dX7_rowOn_15 : decode cX7_rowOn 15 = .ok (.iload_n 3, 1) := by decide +kernel
theorem dX7_rowOn_16 : decode cX7_rowOn 16 = .ok (.invokestatic 99, 3) := by decide +kernel
theorem dX7_rowOn_19 : decode cX7_rowOn 19 = .ok (.invokestatic 94, 3) := by decide +kernel
theorem dX7_rowOn_22 : decode cX7_rowOn 22 = .ok (.istore 4, 2) := by decide +kernel
theorem dX7_rowOn_24 : decode cX7_rowOn 24 = .ok (.aload_n 0, 1) := by decide +kernel
theorem dX7_rowOn_25 : decode cX7_rowOn 25 = .ok (.getfield 9, 3) := by decide +kernel
theorem dX7_rowOn_28 : decode cX7_rowOn 28 = .ok (.iload_n 1, 1) := by decide +kernel
theorem dX7_rowOn_29 : decode cX7_rowOn 29 = .ok (.dup2, 1) := by decide +kernel
theorem dX7_rowOn_30 : decode cX7_rowOn 30 = .ok (.iaload, 1) := by decide +kernel
theorem dX7_rowOn_31 : decode cX7_rowOn 31 = .ok (.iload_n 3, 1) := by decide +kernel
theorem dX7_rowOn_32 : decode cX7_rowOn 32 = .ok (.ifCond .ge 9, 3) := by decide +kernel
theorem dX7_rowOn_35 : decode cX7_rowOn 35 = .ok (.iload 4, 2) := by decide +kernel
theorem dX7_rowOn_37 : decode cX7_rowOn 37 = .ok (.ineg, 1) := by decide +kernel
theorem dX7_rowOn_38 : decode cX7_rowOn 38 = .ok (.goto 5, 3) := by decide +kernel
theorem dX7_rowOn_41 : decode cX7_rowOn 41 = .ok (.iload 4, 2) := by decide +kernel
theorem dX7_rowOn_43 : decode cX7_rowOn 43 = .ok (.iadd, 1) := by decide +kernel
theorem dX7_rowOn_44 : decode cX7_rowOn 44 = .ok (.iastore, 1) := by decide +kernel
theorem dX7_rowOn_45 : decode cX7_rowOn 45 = .ok (.aload_n 0, 1) := by decide +kernel
theorem dX7_rowOn_46 : decode cX7_rowOn 46 = .ok (.getfield 21, 3) := by decide +kernel
theorem dX7_rowOn_49 : decode cX7_rowOn 49 = .ok (.iload_n 1, 1) := by decide +kernel
theorem dX7_rowOn_50 : decode cX7_rowOn 50 = .ok (.iaload, 1) := by decide +kernel
theorem dX7_rowOn_51 : decode cX7_rowOn 51 = .ok (.aload_n 0, 1) := by decide +kernel
theorem dX7_rowOn_52 : decode cX7_rowOn 52 = .ok (.getfield 15, 3) := by decide +kernel
theorem dX7_rowOn_55 : decode cX7_rowOn 55 = .ok (.iload_n 1, 1) := by decide +kernel
theorem dX7_rowOn_56 : decode cX7_rowOn 56 = .ok (.iaload, 1) := by decide +kernel
theorem dX7_rowOn_57 : decode cX7_rowOn 57 = .ok (.isub, 1) := by decide +kernel
theorem dX7_rowOn_58 : decode cX7_rowOn 58 = .ok (.istore 5, 2) := by decide +kernel
theorem dX7_rowOn_60 : decode cX7_rowOn 60 = .ok (.iload_n 2, 1) := by decide +kernel
theorem dX7_rowOn_61 : decode cX7_rowOn 61 = .ok (.iload 4, 2) := by decide +kernel
theorem dX7_rowOn_63 : decode cX7_rowOn 63 = .ok (.isub, 1) := by decide +kernel
theorem dX7_rowOn_64 : decode cX7_rowOn 64 = .ok (.iload 5, 2) := by decide +kernel
theorem dX7_rowOn_66 : decode cX7_rowOn 66 = .ok (.invokestatic 99, 3) := by decide +kernel
theorem dX7_rowOn_69 : decode cX7_rowOn 69 = .ok (.invokestatic 94, 3) := by decide +kernel
theorem dX7_rowOn_72 : decode cX7_rowOn 72 = .ok (.istore 6, 2) := by decide +kernel
theorem dX7_rowOn_74 : decode cX7_rowOn 74 = .ok (.aload_n 0, 1) := by decide +kernel
theorem dX7_rowOn_75 : decode cX7_rowOn 75 = .ok (.getfield 15, 3) := by decide +kernel
theorem dX7_rowOn_78 : decode cX7_rowOn 78 = .ok (.iload_n 1, 1) := by decide +kernel
theorem dX7_rowOn_79 : decode cX7_rowOn 79 = .ok (.dup2, 1) := by decide +kernel
theorem dX7_rowOn_80 : decode cX7_rowOn 80 = .ok (.iaload, 1) := by decide +kernel
theorem dX7_rowOn_81 : decode cX7_rowOn 81 = .ok (.iload 5, 2) := by decide +kernel
theorem dX7_rowOn_83 : decode cX7_rowOn 83 = .ok (.ifCond .ge 9, 3) := by decide +kernel
theorem dX7_rowOn_86 : decode cX7_rowOn 86 = .ok (.iload 6, 2) := by decide +kernel
theorem dX7_rowOn_88 : decode cX7_rowOn 88 = .ok (.ineg, 1) := by decide +kernel
theorem dX7_rowOn_89 : decode cX7_rowOn 89 = .ok (.goto 5, 3) := by decide +kernel
theorem dX7_rowOn_92 : decode cX7_rowOn 92 = .ok (.iload 6, 2) := by decide +kernel
theorem dX7_rowOn_94 : decode cX7_rowOn 94 = .ok (.iadd, 1) := by decide +kernel
theorem dX7_rowOn_95 : decode cX7_rowOn 95 = .ok (.iastore, 1) := by decide +kernel
theorem dX7_rowOn_96 : decode cX7_rowOn 96 = .ok (.return_, 1) := by decide +kernel
theorem dX8_init_0 : decode cX8_init 0 = .ok (.aload_n 0, 1) := by decide +kernel
theorem dX8_init_1 : decode cX8_init 1 = .ok (.invokespecial 3, 3) := by decide +kernel
theorem dX8_init_4 : decode cX8_init 4 = .ok (.aload_n 0, 1) := by decide +kernel
theorem dX8_init_5 : decode cX8_init 5 = .ok (.aload_n 1, 1) := by decide +kernel
theorem dX8_init_6 : decode cX8_init 6 = .ok (.putfield 9, 3) := by decide +kernel
theorem dX8_init_9 : decode cX8_init 9 = .ok (.aload_n 0, 1) := by decide +kernel
theorem dX8_init_10 : decode cX8_init 10 = .ok (.aload_n 2, 1) := by decide +kernel
theorem dX8_init_11 : decode cX8_init 11 = .ok (.putfield 15, 3) := by decide +kernel
theorem dX8_init_14 : decode cX8_init 14 = .ok (.aload_n 0, 1) := by decide +kernel
theorem dX8_init_15 : decode cX8_init 15 = .ok (.bipush 10, 2) := by decide +kernel
theorem dX8_init_17 : decode cX8_init 17 = .ok (.newarray .int, 2) := by decide +kernel
theorem dX8_init_19 : decode cX8_init 19 = .ok (.putfield 19, 3) := by decide +kernel
theorem dX8_init_22 : decode cX8_init 22 = .ok (.aload_n 0, 1) := by decide +kernel
theorem dX8_init_23 : decode cX8_init 23 = .ok (.bipush 10, 2) := by decide +kernel
theorem dX8_init_25 : decode cX8_init 25 = .ok (.newarray .int, 2) := by decide +kernel
theorem dX8_init_27 : decode cX8_init 27 = .ok (.putfield 23, 3) := by decide +kernel
theorem dX8_init_30 : decode cX8_init 30 = .ok (.aload_n 0, 1) := by decide +kernel
theorem dX8_init_31 : decode cX8_init 31 = .ok (.bipush 10, 2) := by decide +kernel
theorem dX8_init_33 : decode cX8_init 33 = .ok (.newarray .int, 2) := by decide +kernel
theorem dX8_init_35 : decode cX8_init 35 = .ok (.putfield 26, 3) := by decide +kernel
theorem dX8_init_38 : decode cX8_init 38 = .ok (.aload_n 0, 1) := by decide +kernel
theorem dX8_init_39 : decode cX8_init 39 = .ok (.bipush 10, 2) := by decide +kernel
theorem dX8_init_41 : decode cX8_init 41 = .ok (.newarray .int, 2) := by decide +kernel
theorem dX8_init_43 : decode cX8_init 43 = .ok (.putfield 29, 3) := by decide +kernel
theorem dX8_init_46 : decode cX8_init 46 = .ok (.aload_n 0, 1) := by decide +kernel
theorem dX8_init_47 : decode cX8_init 47 = .ok (.bipush 100, 2) := by decide +kernel
theorem dX8_init_49 : decode cX8_init 49 = .ok (.newarray .int, 2) := by decide +kernel
theorem dX8_init_51 : decode cX8_init 51 = .ok (.putfield 32, 3) := by decide +kernel
theorem dX8_init_54 : decode cX8_init 54 = .ok (.aload_n 0, 1) := by decide +kernel
theorem dX8_init_55 : decode cX8_init 55 = .ok (.bipush 10, 2) := by decide +kernel
theorem dX8_init_57 : decode cX8_init 57 = .ok (.newarray .int, 2) := by decide +kernel
theorem dX8_init_59 : decode cX8_init 59 = .ok (.putfield 35, 3) := by decide +kernel
theorem dX8_init_62 : decode cX8_init 62 = .ok (.aload_n 0, 1) := by decide +kernel
theorem dX8_init_63 : decode cX8_init 63 = .ok (.bipush 10, 2) := by decide +kernel
theorem dX8_init_65 : decode cX8_init 65 = .ok (.newarray .int, 2) := by decide +kernel
theorem dX8_init_67 : decode cX8_init 67 = .ok (.putfield 38, 3) := by decide +kernel
theorem dX8_init_70 : decode cX8_init 70 = .ok (.aload_n 0, 1) := by decide +kernel
theorem dX8_init_71 : decode cX8_init 71 = .ok (.iconst 3, 1) := by decide +kernel
theorem dX8_init_72 : decode cX8_init 72 = .ok (.newarray .int, 2) := by decide +kernel
theorem dX8_init_74 : decode cX8_init 74 = .ok (.putfield 41, 3) := by decide +kernel
theorem dX8_init_77 : decode cX8_init 77 = .ok (.return_, 1) := by decide +kernel
theorem dX8_add_0 : decode cX8_add 0 = .ok (.aload_n 0, 1) := by decide +kernel
theorem dX8_add_1 : decode cX8_add 1 = .ok (.getfield 44, 3) := by decide +kernel
theorem dX8_add_4 : decode cX8_add 4 = .ok (.bipush 10, 2) := by decide +kernel
theorem dX8_add_6 : decode cX8_add 6 = .ok (.if_icmp .lt 5, 3) := by decide +kernel
theorem dX8_add_9 : decode cX8_add 9 = .ok (.iconst 0, 1) := by decide +kernel
theorem dX8_add_10 : decode cX8_add 10 = .ok (.ireturn, 1) := by decide +kernel
theorem dX8_add_11 : decode cX8_add 11 = .ok (.aload_n 0, 1) := by decide +kernel
theorem dX8_add_12 : decode cX8_add 12 = .ok (.getfield 19, 3) := by decide +kernel
theorem dX8_add_15 : decode cX8_add 15 = .ok (.aload_n 0, 1) := by decide +kernel
theorem dX8_add_16 : decode cX8_add 16 = .ok (.getfield 44, 3) := by decide +kernel
theorem dX8_add_19 : decode cX8_add 19 = .ok (.iload_n 1, 1) := by decide +kernel
theorem dX8_add_20 : decode cX8_add 20 = .ok (.iastore, 1) := by decide +kernel
theorem dX8_add_21 : decode cX8_add 21 = .ok (.aload_n 0, 1) := by decide +kernel
theorem dX8_add_22 : decode cX8_add 22 = .ok (.getfield 23, 3) := by decide +kernel
theorem dX8_add_25 : decode cX8_add 25 = .ok (.aload_n 0, 1) := by decide +kernel
theorem dX8_add_26 : decode cX8_add 26 = .ok (.getfield 44, 3) := by decide +kernel
theorem dX8_add_29 : decode cX8_add 29 = .ok (.iload_n 2, 1) := by decide +kernel
theorem dX8_add_30 : decode cX8_add 30 = .ok (.iastore, 1) := by decide +kernel
theorem dX8_add_31 : decode cX8_add 31 = .ok (.aload_n 0, 1) := by decide +kernel
theorem dX8_add_32 : decode cX8_add 32 = .ok (.getfield 26, 3) := by decide +kernel
theorem dX8_add_35 : decode cX8_add 35 = .ok (.aload_n 0, 1) := by decide +kernel
theorem dX8_add_36 : decode cX8_add 36 = .ok (.getfield 44, 3) := by decide +kernel
theorem dX8_add_39 : decode cX8_add 39 = .ok (.iload_n 3, 1) := by decide +kernel
theorem dX8_add_40 : decode cX8_add 40 = .ok (.iastore, 1) := by decide +kernel
theorem dX8_add_41 : decode cX8_add 41 = .ok (.aload_n 0, 1) := by decide +kernel
theorem dX8_add_42 : decode cX8_add 42 = .ok (.getfield 29, 3) := by decide +kernel
theorem dX8_add_45 : decode cX8_add 45 = .ok (.aload_n 0, 1) := by decide +kernel
theorem dX8_add_46 : decode cX8_add 46 = .ok (.getfield 44, 3) := by decide +kernel
theorem dX8_add_49 : decode cX8_add 49 = .ok (.iload 4, 2) := by decide +kernel
theorem dX8_add_51 : decode cX8_add 51 = .ok (.iastore, 1) := by decide +kernel
theorem dX8_add_52 : decode cX8_add 52 = .ok (.aload_n 0, 1) := by decide +kernel
theorem dX8_add_53 : decode cX8_add 53 = .ok (.dup, 1) := by decide +kernel
theorem dX8_add_54 : decode cX8_add 54 = .ok (.getfield 44, 3) := by decide +kernel
theorem dX8_add_57 : decode cX8_add 57 = .ok (.iconst 1, 1) := by decide +kernel
theorem dX8_add_58 : decode cX8_add 58 = .ok (.iadd, 1) := by decide +kernel
theorem dX8_add_59 : decode cX8_add 59 = .ok (.putfield 44, 3) := by decide +kernel
theorem dX8_add_62 : decode cX8_add 62 = .ok (.iconst 1, 1) := by decide +kernel
theorem dX8_add_63 : decode cX8_add 63 = .ok (.ireturn, 1) := by decide +kernel
theorem dX8_fit_0 : decode cX8_fit 0 = .ok (.aload_n 0, 1) := by decide +kernel
theorem dX8_fit_1 : decode cX8_fit 1 = .ok (.bipush 100, 2) := by decide +kernel
theorem dX8_fit_3 : decode cX8_fit 3 = .ok (.putfield 48, 3) := by decide +kernel
theorem dX8_fit_6 : decode cX8_fit 6 = .ok (.iconst 0, 1) := by decide +kernel
theorem dX8_fit_7 : decode cX8_fit 7 = .ok (.istore_n 2, 1) := by decide +kernel
theorem dX8_fit_8 : decode cX8_fit 8 = .ok (.iload_n 2, 1) := by decide +kernel
theorem dX8_fit_9 : decode cX8_fit 9 = .ok (.aload_n 0, 1) := by decide +kernel
theorem dX8_fit_10 : decode cX8_fit 10 = .ok (.getfield 48, 3) := by decide +kernel
theorem dX8_fit_13 : decode cX8_fit 13 = .ok (.if_icmp .ge 16, 3) := by decide +kernel
theorem dX8_fit_16 : decode cX8_fit 16 = .ok (.aload_n 0, 1) := by decide +kernel
theorem dX8_fit_17 : decode cX8_fit 17 = .ok (.getfield 32, 3) := by decide +kernel
theorem dX8_fit_20 : decode cX8_fit 20 = .ok (.iload_n 2, 1) := by decide +kernel
theorem dX8_fit_21 : decode cX8_fit 21 = .ok (.iload_n 2, 1) := by decide +kernel
theorem dX8_fit_22 : decode cX8_fit 22 = .ok (.iastore, 1) := by decide +kernel
theorem dX8_fit_23 : decode cX8_fit 23 = .ok (.iinc 2 1, 3) := by decide +kernel
theorem dX8_fit_26 : decode cX8_fit 26 = .ok (.goto (-18), 3) := by decide +kernel
theorem dX8_fit_29 : decode cX8_fit 29 = .ok (.iconst 0, 1) := by decide +kernel
theorem dX8_fit_30 : decode cX8_fit 30 = .ok (.istore_n 2, 1) := by decide +kernel
theorem dX8_fit_31 : decode cX8_fit 31 = .ok (.iload_n 2, 1) := by decide +kernel
theorem dX8_fit_32 : decode cX8_fit 32 = .ok (.aload_n 0, 1) := by decide +kernel
theorem dX8_fit_33 : decode cX8_fit 33 = .ok (.getfield 44, 3) := by decide +kernel
theorem dX8_fit_36 : decode cX8_fit 36 = .ok (.if_icmp .ge 53, 3) := by decide +kernel
theorem dX8_fit_39 : decode cX8_fit 39 = .ok (.aload_n 0, 1) := by decide +kernel
theorem dX8_fit_40 : decode cX8_fit 40 = .ok (.getfield 19, 3) := by decide +kernel
theorem dX8_fit_43 : decode cX8_fit 43 = .ok (.iload_n 2, 1) := by decide +kernel
theorem dX8_fit_44 : decode cX8_fit 44 = .ok (.iaload, 1) := by decide +kernel
theorem dX8_fit_45 : decode cX8_fit 45 = .ok (.iload_n 1, 1) := by decide +kernel
theorem dX8_fit_46 : decode cX8_fit 46 = .ok (.if_icmp .ne 37, 3) := by decide +kernel
theorem dX8_fit_49 : decode cX8_fit 49 = .ok (.aload_n 0, 1) := by decide +kernel
theorem dX8_fit_50 : decode cX8_fit 50 = .ok (.aload_n 0, 1) := by decide +kernel
theorem dX8_fit_51 : decode cX8_fit 51 = .ok (.getfield 23, 3) := by decide +kernel
theorem dX8_fit_54 : decode cX8_fit 54 = .ok (.iload_n 2, 1) := by decide +kernel
theorem dX8_fit_55 : decode cX8_fit 55 = .ok (.iaload, 1) := by decide +kernel
theorem dX8_fit_56 : decode cX8_fit 56 = .ok (.aload_n 0, 1) := by decide +kernel
theorem dX8_fit_57 : decode cX8_fit 57 = .ok (.getfield 26, 3) := by decide +kernel
theorem dX8_fit_60 : decode cX8_fit 60 = .ok (.iload_n 2, 1) := by decide +kernel
theorem dX8_fit_61 : decode cX8_fit 61 = .ok (.iaload, 1) := by decide +kernel
theorem dX8_fit_62 : decode cX8_fit 62 = .ok (.invokevirtual 51, 3) := by decide +kernel
theorem dX8_fit_65 : decode cX8_fit 65 = .ok (.aload_n 0, 1) := by decide +kernel
theorem dX8_fit_66 : decode cX8_fit 66 = .ok (.aload_n 0, 1) := by decide +kernel
theorem dX8_fit_67 : decode cX8_fit 67 = .ok (.getfield 9, 3) := by decide +kernel
theorem dX8_fit_70 : decode cX8_fit 70 = .ok (.iload_n 1, 1) := by decide +kernel
theorem dX8_fit_71 : decode cX8_fit 71 = .ok (.invokevirtual 55, 3) := by decide +kernel
theorem dX8_fit_74 : decode cX8_fit 74 = .ok (.aload_n 0, 1) := by decide +kernel
theorem dX8_fit_75 : decode cX8_fit 75 = .ok (.getfield 29, 3) := by decide +kernel
theorem dX8_fit_78 : decode cX8_fit 78 = .ok (.iload_n 2, 1) := by decide +kernel
theorem dX8_fit_79 : decode cX8_fit 79 = .ok (.iaload, 1) := by decide +kernel
theorem dX8_fit_80 : decode cX8_fit 80 = .ok (.invokevirtual 61, 3) := by decide +kernel
theorem dX8_fit_83 : decode cX8_fit 83 = .ok (.iinc 2 1, 3) := by decide +kernel
theorem dX8_fit_86 : decode cX8_fit 86 = .ok (.goto (-55), 3) := by decide +kernel
theorem dX8_fit_89 : decode cX8_fit 89 = .ok (.aload_n 0, 1) := by decide +kernel
theorem dX8_fit_90 : decode cX8_fit 90 = .ok (.getfield 48, 3) := by decide +kernel
theorem dX8_fit_93 : decode cX8_fit 93 = .ok (.ireturn, 1) := by decide +kernel
theorem dX8_fitting_0 : decode cX8_fitting 0 = .ok (.aload_n 0, 1) := by decide +kernel
theorem dX8_fitting_1 : decode cX8_fitting 1 = .ok (.getfield 32, 3) := by decide +kernel
theorem dX8_fitting_4 : decode cX8_fitting 4 = .ok (.iload_n 1, 1) := by decide +kernel
theorem dX8_fitting_5 : decode cX8_fitting 5 = .ok (.iaload, 1) := by decide +kernel
theorem dX8_fitting_6 : decode cX8_fitting 6 = .ok (.ireturn, 1) := by decide +kernel
theorem dX8_bestLook_0 : decode cX8_bestLook 0 = .ok (.iconst 0, 1) := by decide +kernel
theorem dX8_bestLook_1 : decode cX8_bestLook 1 = .ok (.istore_n 2, 1) := by decide +kernel
theorem dX8_bestLook_2 : decode cX8_bestLook 2 = .ok (.ldc 64, 2) := by decide +kernel
theorem dX8_bestLook_4 : decode cX8_bestLook 4 = .ok (.istore_n 3, 1) := by decide +kernel
theorem dX8_bestLook_5 : decode cX8_bestLook 5 = .ok (.iconst 0, 1) := by decide +kernel
theorem dX8_bestLook_6 : decode cX8_bestLook 6 = .ok (.istore 4, 2) := by decide +kernel
theorem dX8_bestLook_8 : decode cX8_bestLook 8 = .ok (.iload 4, 2) := by decide +kernel
theorem dX8_bestLook_10 : decode cX8_bestLook 10 = .ok (.bipush 10, 2) := by decide +kernel
theorem dX8_bestLook_12 : decode cX8_bestLook 12 = .ok (.if_icmp .ge 42, 3) := by decide +kernel
theorem dX8_bestLook_15 : decode cX8_bestLook 15 = .ok (.aload_n 0, 1) := by decide +kernel
theorem dX8_bestLook_16 : decode cX8_bestLook 16 = .ok (.iload 4, 2) := by decide +kernel
theorem dX8_bestLook_18 : decode cX8_bestLook 18 = .ok (.iconst 3, 1) := by decide +kernel
theorem dX8_bestLook_19 : decode cX8_bestLook 19 = .ok (.invokevirtual 51, 3) := by decide +kernel
theorem dX8_bestLook_22 : decode cX8_bestLook 22 = .ok (.aload_n 0, 1) := by decide +kernel
theorem dX8_bestLook_23 : decode cX8_bestLook 23 = .ok (.aload_n 0, 1) := by decide +kernel
theorem dX8_bestLook_24 : decode cX8_bestLook 24 = .ok (.getfield 9, 3) := by decide +kernel
theorem dX8_bestLook_27 : decode cX8_bestLook 27 = .ok (.iload_n 1, 1) := by decide +kernel
theorem dX8_bestLook_28 : decode cX8_bestLook 28 = .ok (.invokevirtual 55, 3) := by decide +kernel
theorem dX8_bestLook_31 : decode cX8_bestLook 31 = .ok (.invokevirtual 65, 3) := by decide +kernel
theorem dX8_bestLook_34 : decode cX8_bestLook 34 = .ok (.istore 5, 2) := by decide +kernel
theorem dX8_bestLook_36 : decode cX8_bestLook 36 = .ok (.iload 5, 2) := by decide +kernel
theorem dX8_bestLook_38 : decode cX8_bestLook 38 = .ok (.iload_n 3, 1) := by decide +kernel
theorem dX8_bestLook_39 : decode cX8_bestLook 39 = .ok (.if_icmp .ge 9, 3) := by decide +kernel
theorem dX8_bestLook_42 : decode cX8_bestLook 42 = .ok (.iload 5, 2) := by decide +kernel
theorem dX8_bestLook_44 : decode cX8_bestLook 44 = .ok (.istore_n 3, 1) := by decide +kernel
theorem dX8_bestLook_45 : decode cX8_bestLook 45 = .ok (.iload 4, 2) := by decide +kernel
theorem dX8_bestLook_47 : decode cX8_bestLook 47 = .ok (.istore_n 2, 1) := by decide +kernel
theorem dX8_bestLook_48 : decode cX8_bestLook 48 = .ok (.iinc 4 1, 3) := by decide +kernel
theorem dX8_bestLook_51 : decode cX8_bestLook 51 = .ok (.goto (-43), 3) := by decide +kernel
theorem dX8_bestLook_54 : decode cX8_bestLook 54 = .ok (.iload_n 2, 1) := by decide +kernel
theorem dX8_bestLook_55 : decode cX8_bestLook 55 = .ok (.ireturn, 1) := by decide +kernel
theorem dX8_mostAlike_0 : decode cX8_mostAlike 0 = .ok (.iconst 0, 1) := by decide +kernel
theorem dX8_mostAlike_1 : decode cX8_mostAlike 1 = .ok (.istore_n 2, 1) := by decide +kernel
theorem dX8_mostAlike_2 : decode cX8_mostAlike 2 = .ok (.iload_n 2, 1) := by decide +kernel
theorem dX8_mostAlike_3 : decode cX8_mostAlike 3 = .ok (.iconst 3, 1) := by decide +kernel
theorem dX8_mostAlike_4 : decode cX8_mostAlike 4 = .ok (.if_icmp .ge 16, 3) := by decide +kernel
theorem dX8_mostAlike_7 : decode cX8_mostAlike 7 = .ok (.aload_n 0, 1) := by decide +kernel
theorem dX8_mostAlike_8 : decode cX8_mostAlike 8 = .ok (.getfield 41, 3) := by decide +kernel
theorem dX8_mostAlike_11 : decode cX8_mostAlike 11 = .ok (.iload_n 2, 1) := by decide +kernel
theorem dX8_mostAlike_12 : decode cX8_mostAlike 12 = .ok (.iconst 0, 1) := by decide +kernel
theorem dX8_mostAlike_13 : decode cX8_mostAlike 13 = .ok (.iastore, 1) := by decide +kernel
theorem dX8_mostAlike_14 : decode cX8_mostAlike 14 = .ok (.iinc 2 1, 3) := by decide +kernel
theorem dX8_mostAlike_17 : decode cX8_mostAlike 17 = .ok (.goto (-15), 3) := by decide +kernel
theorem dX8_mostAlike_20 : decode cX8_mostAlike 20 = .ok (.iconst 0, 1) := by decide +kernel
theorem dX8_mostAlike_21 : decode cX8_mostAlike 21 = .ok (.istore_n 2, 1) := by decide +kernel
theorem dX8_mostAlike_22 : decode cX8_mostAlike 22 = .ok (.iload_n 2, 1) := by decide +kernel
theorem dX8_mostAlike_23 : decode cX8_mostAlike 23 = .ok (.aload_n 0, 1) := by decide +kernel
theorem dX8_mostAlike_24 : decode cX8_mostAlike 24 = .ok (.getfield 48, 3) := by decide +kernel
theorem dX8_mostAlike_27 : decode cX8_mostAlike 27 = .ok (.if_icmp .ge 29, 3) := by decide +kernel
theorem dX8_mostAlike_30 : decode cX8_mostAlike 30 = .ok (.aload_n 0, 1) := by decide +kernel
theorem dX8_mostAlike_31 : decode cX8_mostAlike 31 = .ok (.getfield 41, 3) := by decide +kernel
theorem dX8_mostAlike_34 : decode cX8_mostAlike 34 = .ok (.aload_n 0, 1) := by decide +kernel
theorem dX8_mostAlike_35 : decode cX8_mostAlike 35 = .ok (.aload_n 0, 1) := by decide +kernel
theorem dX8_mostAlike_36 : decode cX8_mostAlike 36 = .ok (.getfield 32, 3) := by decide +kernel
theorem dX8_mostAlike_39 : decode cX8_mostAlike 39 = .ok (.iload_n 2, 1) := by decide +kernel
theorem dX8_mostAlike_40 : decode cX8_mostAlike 40 = .ok (.iaload, 1) := by decide +kernel
theorem dX8_mostAlike_41 : decode cX8_mostAlike 41 = .ok (.iload_n 1, 1) := by decide +kernel
theorem dX8_mostAlike_42 : decode cX8_mostAlike 42 = .ok (.invokevirtual 68, 3) := by decide +kernel
theorem dX8_mostAlike_45 : decode cX8_mostAlike 45 = .ok (.dup2, 1) := by decide +kernel
theorem dX8_mostAlike_46 : decode cX8_mostAlike 46 = .ok (.iaload, 1) := by decide +kernel
theorem dX8_mostAlike_47 : decode cX8_mostAlike 47 = .ok (.iconst 1, 1) := by decide +kernel
theorem dX8_mostAlike_48 : decode cX8_mostAlike 48 = .ok (.iadd, 1) := by decide +kernel
theorem dX8_mostAlike_49 : decode cX8_mostAlike 49 = .ok (.iastore, 1) := by decide +kernel
theorem dX8_mostAlike_50 : decode cX8_mostAlike 50 = .ok (.iinc 2 1, 3) := by decide +kernel
theorem dX8_mostAlike_53 : decode cX8_mostAlike 53 = .ok (.goto (-31), 3) := by decide +kernel
theorem dX8_mostAlike_56 : decode cX8_mostAlike 56 = .ok (.aload_n 0, 1) := by decide +kernel
theorem dX8_mostAlike_57 : decode cX8_mostAlike 57 = .ok (.getfield 41, 3) := by decide +kernel
theorem dX8_mostAlike_60 : decode cX8_mostAlike 60 = .ok (.iconst 0, 1) := by decide +kernel
theorem dX8_mostAlike_61 : decode cX8_mostAlike 61 = .ok (.iaload, 1) := by decide +kernel
theorem dX8_mostAlike_62 : decode cX8_mostAlike 62 = .ok (.aload_n 0, 1) := by decide +kernel
theorem dX8_mostAlike_63 : decode cX8_mostAlike 63 = .ok (.getfield 41, 3) := by decide +kernel
theorem dX8_mostAlike_66 : decode cX8_mostAlike 66 = .ok (.iconst 1, 1) := by decide +kernel
theorem dX8_mostAlike_67 : decode cX8_mostAlike 67 = .ok (.iaload, 1) := by decide +kernel
theorem dX8_mostAlike_68 : decode cX8_mostAlike 68 = .ok (.aload_n 0, 1) := by decide +kernel
theorem dX8_mostAlike_69 : decode cX8_mostAlike 69 = .ok (.getfield 41, 3) := by decide +kernel
theorem dX8_mostAlike_72 : decode cX8_mostAlike 72 = .ok (.iconst 2, 1) := by decide +kernel
theorem dX8_mostAlike_73 : decode cX8_mostAlike 73 = .ok (.iaload, 1) := by decide +kernel
theorem dX8_mostAlike_74 : decode cX8_mostAlike 74 = .ok (.invokestatic 72, 3) := by decide +kernel
theorem dX8_mostAlike_77 : decode cX8_mostAlike 77 = .ok (.invokestatic 72, 3) := by decide +kernel
theorem dX8_mostAlike_80 : decode cX8_mostAlike 80 = .ok (.ireturn, 1) := by decide +kernel
theorem dX8_keepThose_0 : decode cX8_keepThose 0 = .ok (.iconst 0, 1) := by decide +kernel
theorem dX8_keepThose_1 : decode cX8_keepThose 1 = .ok (.istore_n 3, 1) := by decide +kernel
theorem dX8_keepThose_2 : decode cX8_keepThose 2 = .ok (.iconst 0, 1) := by decide +kernel
theorem dX8_keepThose_3 : decode cX8_keepThose 3 = .ok (.istore 4, 2) := by decide +kernel
theorem dX8_keepThose_5 : decode cX8_keepThose 5 = .ok (.iload 4, 2) := by decide +kernel
theorem dX8_keepThose_7 : decode cX8_keepThose 7 = .ok (.aload_n 0, 1) := by decide +kernel
theorem dX8_keepThose_8 : decode cX8_keepThose 8 = .ok (.getfield 48, 3) := by decide +kernel
theorem dX8_keepThose_11 : decode cX8_keepThose 11 = .ok (.if_icmp .ge 41, 3) := by decide +kernel
theorem dX8_keepThose_14 : decode cX8_keepThose 14 = .ok (.aload_n 0, 1) := by decide +kernel
theorem dX8_keepThose_15 : decode cX8_keepThose 15 = .ok (.aload_n 0, 1) := by decide +kernel
theorem dX8_keepThose_16 : decode cX8_keepThose 16 = .ok (.getfield 32, 3) := by decide +kernel
theorem dX8_keepThose_19 : decode cX8_keepThose 19 = .ok (.iload 4, 2) := by decide +kernel
theorem dX8_keepThose_21 : decode cX8_keepThose 21 = .ok (.iaload, 1) := by decide +kernel
theorem dX8_keepThose_22 : decode cX8_keepThose 22 = .ok (.iload_n 1, 1) := by decide +kernel
theorem dX8_keepThose_23 : decode cX8_keepThose 23 = .ok (.invokevirtual 68, 3) := by decide +kernel
theorem dX8_keepThose_26 : decode cX8_keepThose 26 = .ok (.iload_n 2, 1) := by decide +kernel
theorem dX8_keepThose_27 : decode cX8_keepThose 27 = .ok (.if_icmp .ne 19, 3) := by decide +kernel
theorem dX8_keepThose_30 : decode cX8_keepThose 30 = .ok (.aload_n 0, 1) := by decide +kernel
theorem dX8_keepThose_31 : decode cX8_keepThose 31 = .ok (.getfield 32, 3) := by decide +kernel
theorem dX8_keepThose_34 : decode cX8_keepThose 34 = .ok (.iload_n 3, 1) := by decide +kernel
theorem dX8_keepThose_35 : decode cX8_keepThose 35 = .ok (.aload_n 0, 1) := by decide +kernel
theorem dX8_keepThose_36 : decode cX8_keepThose 36 = .ok (.getfield 32, 3) := by decide +kernel
theorem dX8_keepThose_39 : decode cX8_keepThose 39 = .ok (.iload 4, 2) := by decide +kernel
theorem dX8_keepThose_41 : decode cX8_keepThose 41 = .ok (.iaload, 1) := by decide +kernel
theorem dX8_keepThose_42 : decode cX8_keepThose 42 = .ok (.iastore, 1) := by decide +kernel
theorem dX8_keepThose_43 : decode cX8_keepThose 43 = .ok (.iinc 3 1, 3) := by decide +kernel
theorem dX8_keepThose_46 : decode cX8_keepThose 46 = .ok (.iinc 4 1, 3) := by decide +kernel
theorem dX8_keepThose_49 : decode cX8_keepThose 49 = .ok (.goto (-44), 3) := by decide +kernel
theorem dX8_keepThose_52 : decode cX8_keepThose 52 = .ok (.aload_n 0, 1) := by decide +kernel
theorem dX8_keepThose_53 : decode cX8_keepThose 53 = .ok (.iload_n 3, 1) := by decide +kernel
theorem dX8_keepThose_54 : decode cX8_keepThose 54 = .ok (.putfield 48, 3) := by decide +kernel
theorem dX8_keepThose_57 : decode cX8_keepThose 57 = .ok (.return_, 1) := by decide +kernel
theorem dX8_setDraws_0 : decode cX8_setDraws 0 = .ok (.iconst 0, 1) := by decide +kernel
theorem dX8_setDraws_1 : decode cX8_setDraws 1 = .ok (.istore_n 3, 1) := by decide +kernel
theorem dX8_setDraws_2 : decode cX8_setDraws 2 = .ok (.iload_n 3, 1) := by decide +kernel
theorem dX8_setDraws_3 : decode cX8_setDraws 3 = .ok (.bipush 10, 2) := by decide +kernel
theorem dX8_setDraws_5 : decode cX8_setDraws 5 = .ok (.if_icmp .ge 61, 3) := by decide +kernel
theorem dX8_setDraws_8 : decode cX8_setDraws 8 = .ok (.aload_n 0, 1) := by decide +kernel
theorem dX8_setDraws_9 : decode cX8_setDraws 9 = .ok (.getfield 35, 3) := by decide +kernel
theorem dX8_setDraws_12 : decode cX8_setDraws 12 = .ok (.iload_n 3, 1) := by decide +kernel
theorem dX8_setDraws_13 : decode cX8_setDraws 13 = .ok (.aload_n 0, 1) := by decide +kernel
theorem dX8_setDraws_14 : decode cX8_setDraws 14 = .ok (.getfield 15, 3) := by decide +kernel
theorem dX8_setDraws_17 : decode cX8_setDraws 17 = .ok (.aload_n 0, 1) := by decide +kernel
theorem dX8_setDraws_18 : decode cX8_setDraws 18 = .ok (.getfield 9, 3) := by decide +kernel
theorem dX8_setDraws_21 : decode cX8_setDraws 21 = .ok (.iconst 0, 1) := by decide +kernel
theorem dX8_setDraws_22 : decode cX8_setDraws 22 = .ok (.invokevirtual 77, 3) := by decide +kernel
theorem dX8_setDraws_25 : decode cX8_setDraws 25 = .ok (.iload_n 3, 1) := by decide +kernel
theorem dX8_setDraws_26 : decode cX8_setDraws 26 = .ok (.iconst 0, 1) := by decide +kernel
theorem dX8_setDraws_27 : decode cX8_setDraws 27 = .ok (.iload_n 1, 1) := by decide +kernel
theorem dX8_setDraws_28 : decode cX8_setDraws 28 = .ok (.iconst 0, 1) := by decide +kernel
theorem dX8_setDraws_29 : decode cX8_setDraws 29 = .ok (.iconst 0, 1) := by decide +kernel
theorem dX8_setDraws_30 : decode cX8_setDraws 30 = .ok (.invokevirtual 80, 3) := by decide +kernel
theorem dX8_setDraws_33 : decode cX8_setDraws 33 = .ok (.iastore, 1) := by decide +kernel
theorem dX8_setDraws_34 : decode cX8_setDraws 34 = .ok (.aload_n 0, 1) := by decide +kernel
theorem dX8_setDraws_35 : decode cX8_setDraws 35 = .ok (.getfield 38, 3) := by decide +kernel
theorem dX8_setDraws_38 : decode cX8_setDraws 38 = .ok (.iload_n 3, 1) := by decide +kernel
theorem dX8_setDraws_39 : decode cX8_setDraws 39 = .ok (.aload_n 0, 1) := by decide +kernel
theorem dX8_setDraws_40 : decode cX8_setDraws 40 = .ok (.getfield 15, 3) := by decide +kernel
theorem dX8_setDraws_43 : decode cX8_setDraws 43 = .ok (.aload_n 0, 1) := by decide +kernel
theorem dX8_setDraws_44 : decode cX8_setDraws 44 = .ok (.getfield 9, 3) := by decide +kernel
theorem dX8_setDraws_47 : decode cX8_setDraws 47 = .ok (.iconst 1, 1) := by decide +kernel
theorem dX8_setDraws_48 : decode cX8_setDraws 48 = .ok (.invokevirtual 77, 3) := by decide +kernel
theorem dX8_setDraws_51 : decode cX8_setDraws 51 = .ok (.iload_n 3, 1) := by decide +kernel
theorem dX8_setDraws_52 : decode cX8_setDraws 52 = .ok (.iconst 0, 1) := by decide +kernel
theorem dX8_setDraws_53 : decode cX8_setDraws 53 = .ok (.iload_n 2, 1) := by decide +kernel
theorem dX8_setDraws_54 : decode cX8_setDraws 54 = .ok (.iconst 0, 1) := by decide +kernel
theorem dX8_setDraws_55 : decode cX8_setDraws 55 = .ok (.iconst 0, 1) := by decide +kernel
theorem dX8_setDraws_56 : decode cX8_setDraws 56 = .ok (.invokevirtual 80, 3) := by decide +kernel
theorem dX8_setDraws_59 : decode cX8_setDraws 59 = .ok (.iastore, 1) := by decide +kernel
theorem dX8_setDraws_60 : decode cX8_setDraws 60 = .ok (.iinc 3 1, 3) := by decide +kernel
theorem dX8_setDraws_63 : decode cX8_setDraws 63 = .ok (.goto (-61), 3) := by decide +kernel
theorem dX8_setDraws_66 : decode cX8_setDraws 66 = .ok (.return_, 1) := by decide +kernel
theorem dX8_answerOf_0 : decode cX8_answerOf 0 = .ok (.aload_n 0, 1) := by decide +kernel
theorem dX8_answerOf_1 : decode cX8_answerOf 1 = .ok (.getfield 35, 3) := by decide +kernel
theorem dX8_answerOf_4 : decode cX8_answerOf 4 = .ok (.iload_n 1, 1) := by decide +kernel
theorem dX8_answerOf_5 : decode cX8_answerOf 5 = .ok (.bipush 10, 2) := by decide +kernel
theorem dX8_answerOf_7 : decode cX8_answerOf 7 = .ok (.idiv, 1) := by decide +kernel
theorem dX8_answerOf_8 : decode cX8_answerOf 8 = .ok (.iaload, 1) := by decide +kernel
theorem dX8_answerOf_9 : decode cX8_answerOf 9 = .ok (.istore_n 3, 1) := by decide +kernel
theorem dX8_answerOf_10 : decode cX8_answerOf 10 = .ok (.aload_n 0, 1) := by decide +kernel
theorem dX8_answerOf_11 : decode cX8_answerOf 11 = .ok (.getfield 38, 3) := by decide +kernel
theorem dX8_answerOf_14 : decode cX8_answerOf 14 = .ok (.iload_n 1, 1) := by decide +kernel
theorem dX8_answerOf_15 : decode cX8_answerOf 15 = .ok (.bipush 10, 2) := by decide +kernel
theorem dX8_answerOf_17 : decode cX8_answerOf 17 = .ok (.irem, 1) := by decide +kernel
theorem dX8_answerOf_18 : decode cX8_answerOf 18 = .ok (.iaload, 1) := by decide +kernel
theorem dX8_answerOf_19 : decode cX8_answerOf 19 = .ok (.istore 4, 2) := by decide +kernel
theorem dX8_answerOf_21 : decode cX8_answerOf 21 = .ok (.iload_n 3, 1) := by decide +kernel
theorem dX8_answerOf_22 : decode cX8_answerOf 22 = .ok (.iload 4, 2) := by decide +kernel
theorem dX8_answerOf_24 : decode cX8_answerOf 24 = .ok (.if_icmp .eq 13, 3) := by decide +kernel
theorem dX8_answerOf_27 : decode cX8_answerOf 27 = .ok (.iload_n 3, 1) := by decide +kernel
theorem dX8_answerOf_28 : decode cX8_answerOf 28 = .ok (.iload 4, 2) := by decide +kernel
theorem dX8_answerOf_30 : decode cX8_answerOf 30 = .ok (.invokestatic 72, 3) := by decide +kernel
theorem dX8_answerOf_33 : decode cX8_answerOf 33 = .ok (.iload_n 2, 1) := by decide +kernel
theorem dX8_answerOf_34 : decode cX8_answerOf 34 = .ok (.if_icmp .ge 5, 3) := by decide +kernel
theorem dX8_answerOf_37 : decode cX8_answerOf 37 = .ok (.iconst 2, 1) := by decide +kernel
theorem dX8_answerOf_38 : decode cX8_answerOf 38 = .ok (.ireturn, 1) := by decide +kernel
theorem dX8_answerOf_39 : decode cX8_answerOf 39 = .ok (.iload_n 3, 1) := by decide +kernel
theorem dX8_answerOf_40 : decode cX8_answerOf 40 = .ok (.iload 4, 2) := by decide +kernel
theorem dX8_answerOf_42 : decode cX8_answerOf 42 = .ok (.if_icmp .le 7, 3) := by decide +kernel
theorem dX8_answerOf_45 : decode cX8_answerOf 45 = .ok (.iconst 0, 1) := by decide +kernel
theorem dX8_answerOf_46 : decode cX8_answerOf 46 = .ok (.goto 4, 3) := by decide +kernel
theorem dX8_answerOf_49 : decode cX8_answerOf 49 = .ok (.iconst 1, 1) := by decide +kernel
theorem dX8_answerOf_50 : decode cX8_answerOf 50 = .ok (.ireturn, 1) := by decide +kernel
theorem dX9_init_0 : decode cX9_init 0 = .ok (.aload_n 0, 1) := by decide +kernel
theorem dX9_init_1 : decode cX9_init 1 = .ok (.invokespecial 3, 3) := by decide +kernel
theorem dX9_init_4 : decode cX9_init 4 = .ok (.aload_n 0, 1) := by decide +kernel
theorem dX9_init_5 : decode cX9_init 5 = .ok (.sipush 240, 3) := by decide +kernel
theorem dX9_init_8 : decode cX9_init 8 = .ok (.newarray .int, 2) := by decide +kernel
theorem dX9_init_10 : decode cX9_init 10 = .ok (.putfield 11, 3) := by decide +kernel
theorem dX9_init_13 : decode cX9_init 13 = .ok (.aload_n 0, 1) := by decide +kernel
theorem dX9_init_14 : decode cX9_init 14 = .ok (.iconst (-1), 1) := by decide +kernel
theorem dX9_init_15 : decode cX9_init 15 = .ok (.putfield 15, 3) := by decide +kernel
theorem dX9_init_18 : decode cX9_init 18 = .ok (.return_, 1) := by decide +kernel
theorem dX9_bytesIn_0 : decode cX9_bytesIn 0 = .ok (.iconst 0, 1) := by decide +kernel
theorem dX9_bytesIn_1 : decode cX9_bytesIn 1 = .ok (.istore_n 1, 1) := by decide +kernel
theorem dX9_bytesIn_2 : decode cX9_bytesIn 2 = .ok (.iconst 0, 1) := by decide +kernel
theorem dX9_bytesIn_3 : decode cX9_bytesIn 3 = .ok (.istore_n 2, 1) := by decide +kernel
theorem dX9_bytesIn_4 : decode cX9_bytesIn 4 = .ok (.iload_n 2, 1) := by decide +kernel
theorem dX9_bytesIn_5 : decode cX9_bytesIn 5 = .ok (.bipush 32, 2) := by decide +kernel
theorem dX9_bytesIn_7 : decode cX9_bytesIn 7 = .ok (.if_icmp .ge 22, 3) := by decide +kernel
theorem dX9_bytesIn_10 : decode cX9_bytesIn 10 = .ok (.iload_n 0, 1) := by decide +kernel
theorem dX9_bytesIn_11 : decode cX9_bytesIn 11 = .ok (.iload_n 2, 1) := by decide +kernel
theorem dX9_bytesIn_12 : decode cX9_bytesIn 12 = .ok (.iushr, 1) := by decide +kernel
theorem dX9_bytesIn_13 : decode cX9_bytesIn 13 = .ok (.sipush 255, 3) := by decide +kernel
theorem dX9_bytesIn_16 : decode cX9_bytesIn 16 = .ok (.iand, 1) := by decide +kernel
theorem dX9_bytesIn_17 : decode cX9_bytesIn 17 = .ok (.ifCond .eq 6, 3) := by decide +kernel
theorem dX9_bytesIn_20 : decode cX9_bytesIn 20 = .ok (.iinc 1 1, 3) := by decide +kernel
theorem dX9_bytesIn_23 : decode cX9_bytesIn 23 = .ok (.iinc 2 8, 3) := by decide +kernel
theorem dX9_bytesIn_26 : decode cX9_bytesIn 26 = .ok (.goto (-22), 3) := by decide +kernel
theorem dX9_bytesIn_29 : decode cX9_bytesIn 29 = .ok (.iload_n 1, 1) := by decide +kernel
theorem dX9_bytesIn_30 : decode cX9_bytesIn 30 = .ok (.ireturn, 1) := by decide +kernel
theorem dX9_append_0 : decode cX9_append 0 = .ok (.bipush 24, 2) := by decide +kernel
theorem dX9_append_2 : decode cX9_append 2 = .ok (.istore_n 2, 1) := by decide +kernel
theorem dX9_append_3 : decode cX9_append 3 = .ok (.iload_n 2, 1) := by decide +kernel
theorem dX9_append_4 : decode cX9_append 4 = .ok (.ifCond .lt 51, 3) := by decide +kernel
theorem dX9_append_7 : decode cX9_append 7 = .ok (.iload_n 1, 1) := by decide +kernel
theorem dX9_append_8 : decode cX9_append 8 = .ok (.iload_n 2, 1) := by decide +kernel
theorem dX9_append_9 : decode cX9_append 9 = .ok (.iushr, 1) := by decide +kernel
theorem dX9_append_10 : decode cX9_append 10 = .ok (.sipush 255, 3) := by decide +kernel
theorem dX9_append_13 : decode cX9_append 13 = .ok (.iand, 1) := by decide +kernel
theorem dX9_append_14 : decode cX9_append 14 = .ok (.istore_n 3, 1) := by decide +kernel
theorem dX9_append_15 : decode cX9_append 15 = .ok (.iload_n 3, 1) := by decide +kernel
theorem dX9_append_16 : decode cX9_append 16 = .ok (.ifCond .eq 33, 3) := by decide +kernel
theorem dX9_append_19 : decode cX9_append 19 = .ok (.aload_n 0, 1) := by decide +kernel
theorem dX9_append_20 : decode cX9_append 20 = .ok (.getfield 19, 3) := by decide +kernel
theorem dX9_append_23 : decode cX9_append 23 = .ok (.sipush 240, 3) := by decide +kernel
theorem dX9_append_26 : decode cX9_append 26 = .ok (.if_icmp .ge 23, 3) := by decide +kernel
theorem dX9_append_29 : decode cX9_append 29 = .ok (.aload_n 0, 1) := by decide +kernel
theorem dX9_append_30 : decode cX9_append 30 = .ok (.getfield 11, 3) := by decide +kernel
theorem dX9_append_33 : decode cX9_append 33 = .ok (.aload_n 0, 1) := by decide +kernel
theorem dX9_append_34 : decode cX9_append 34 = .ok (.getfield 19, 3) := by decide +kernel
theorem dX9_append_37 : decode cX9_append 37 = .ok (.iload_n 3, 1) := by decide +kernel
theorem dX9_append_38 : decode cX9_append 38 = .ok (.iastore, 1) := by decide +kernel
theorem dX9_append_39 : decode cX9_append 39 = .ok (.aload_n 0, 1) := by decide +kernel
theorem dX9_append_40 : decode cX9_append 40 = .ok (.dup, 1) := by decide +kernel
theorem dX9_append_41 : decode cX9_append 41 = .ok (.getfield 19, 3) := by decide +kernel
theorem dX9_append_44 : decode cX9_append 44 = .ok (.iconst 1, 1) := by decide +kernel
theorem dX9_append_45 : decode cX9_append 45 = .ok (.iadd, 1) := by decide +kernel
theorem dX9_append_46 : decode cX9_append 46 = .ok (.putfield 19, 3) := by decide +kernel
theorem dX9_append_49 : decode cX9_append 49 = .ok (.iinc 2 (-8), 3) := by decide +kernel
theorem dX9_append_52 : decode cX9_append 52 = .ok (.goto (-49), 3) := by decide +kernel
theorem dX9_append_55 : decode cX9_append 55 = .ok (.return_, 1) := by decide +kernel
theorem dX9_rewind_0 : decode cX9_rewind 0 = .ok (.aload_n 0, 1) := by decide +kernel
theorem dX9_rewind_1 : decode cX9_rewind 1 = .ok (.iconst 0, 1) := by decide +kernel
theorem dX9_rewind_2 : decode cX9_rewind 2 = .ok (.putfield 22, 3) := by decide +kernel
theorem dX9_rewind_5 : decode cX9_rewind 5 = .ok (.aload_n 0, 1) := by decide +kernel
theorem dX9_rewind_6 : decode cX9_rewind 6 = .ok (.iconst (-1), 1) := by decide +kernel
theorem dX9_rewind_7 : decode cX9_rewind 7 = .ok (.putfield 15, 3) := by decide +kernel
theorem dX9_rewind_10 : decode cX9_rewind 10 = .ok (.return_, 1) := by decide +kernel
theorem dX9_isRight_0 : decode cX9_isRight 0 = .ok (.aload_n 0, 1) := by decide +kernel
theorem dX9_isRight_1 : decode cX9_isRight 1 = .ok (.getfield 15, 3) := by decide +kernel
theorem dX9_isRight_4 : decode cX9_isRight 4 = .ok (.iconst (-1), 1) := by decide +kernel
theorem dX9_isRight_5 : decode cX9_isRight 5 = .ok (.if_icmp .ne 7, 3) := by decide +kernel
theorem dX9_isRight_8 : decode cX9_isRight 8 = .ok (.iconst 1, 1) := by decide +kernel
theorem dX9_isRight_9 : decode cX9_isRight 9 = .ok (.goto 4, 3) := by decide +kernel
theorem dX9_isRight_12 : decode cX9_isRight 12 = .ok (.iconst 0, 1) := by decide +kernel
theorem dX9_isRight_13 : decode cX9_isRight 13 = .ok (.ireturn, 1) := by decide +kernel
theorem dX9_wrongAt_0 : decode cX9_wrongAt 0 = .ok (.aload_n 0, 1) := by decide +kernel
theorem dX9_wrongAt_1 : decode cX9_wrongAt 1 = .ok (.getfield 15, 3) := by decide +kernel
theorem dX9_wrongAt_4 : decode cX9_wrongAt 4 = .ok (.ireturn, 1) := by decide +kernel
theorem dX9_refuse_0 : decode cX9_refuse 0 = .ok (.aload_n 0, 1) := by decide +kernel
theorem dX9_refuse_1 : decode cX9_refuse 1 = .ok (.getfield 15, 3) := by decide +kernel
theorem dX9_refuse_4 : decode cX9_refuse 4 = .ok (.iconst (-1), 1) := by decide +kernel
theorem dX9_refuse_5 : decode cX9_refuse 5 = .ok (.if_icmp .ne 8, 3) := by decide +kernel
theorem dX9_refuse_8 : decode cX9_refuse 8 = .ok (.aload_n 0, 1) := by decide +kernel
theorem dX9_refuse_9 : decode cX9_refuse 9 = .ok (.iload_n 1, 1) := by decide +kernel
theorem dX9_refuse_10 : decode cX9_refuse 10 = .ok (.putfield 15, 3) := by decide +kernel
theorem dX9_refuse_13 : decode cX9_refuse 13 = .ok (.return_, 1) := by decide +kernel
theorem dX9_refuseHere_0 : decode cX9_refuseHere 0 = .ok (.aload_n 0, 1) := by decide +kernel
theorem dX9_refuseHere_1 : decode cX9_refuseHere 1 = .ok (.aload_n 0, 1) := by decide +kernel
theorem dX9_refuseHere_2 : decode cX9_refuseHere 2 = .ok (.getfield 22, 3) := by decide +kernel
theorem dX9_refuseHere_5 : decode cX9_refuseHere 5 = .ok (.invokevirtual 25, 3) := by decide +kernel
theorem dX9_refuseHere_8 : decode cX9_refuseHere 8 = .ok (.return_, 1) := by decide +kernel
theorem dX9_peek_0 : decode cX9_peek 0 = .ok (.aload_n 0, 1) := by decide +kernel
theorem dX9_peek_1 : decode cX9_peek 1 = .ok (.getfield 22, 3) := by decide +kernel
theorem dX9_peek_4 : decode cX9_peek 4 = .ok (.aload_n 0, 1) := by decide +kernel
theorem dX9_peek_5 : decode cX9_peek 5 = .ok (.getfield 19, 3) := by decide +kernel
theorem dX9_peek_8 : decode cX9_peek 8 = .ok (.if_icmp .ge 30, 3) := by decide +kernel
theorem dX9_peek_11 : decode cX9_peek 11 = .ok (.aload_n 0, 1) := by decide +kernel
theorem dX9_peek_12 : decode cX9_peek 12 = .ok (.getfield 11, 3) := by decide +kernel
theorem dX9_peek_15 : decode cX9_peek 15 = .ok (.aload_n 0, 1) := by decide +kernel
theorem dX9_peek_16 : decode cX9_peek 16 = .ok (.getfield 22, 3) := by decide +kernel
theorem dX9_peek_19 : decode cX9_peek 19 = .ok (.iaload, 1) := by decide +kernel
theorem dX9_peek_20 : decode cX9_peek 20 = .ok (.bipush 32, 2) := by decide +kernel
theorem dX9_peek_22 : decode cX9_peek 22 = .ok (.if_icmp .ne 16, 3) := by decide +kernel
theorem dX9_peek_25 : decode cX9_peek 25 = .ok (.aload_n 0, 1) := by decide +kernel
theorem dX9_peek_26 : decode cX9_peek 26 = .ok (.dup, 1) := by decide +kernel
theorem dX9_peek_27 : decode cX9_peek 27 = .ok (.getfield 22, 3) := by decide +kernel
theorem dX9_peek_30 : decode cX9_peek 30 = .ok (.iconst 1, 1) := by decide +kernel
theorem dX9_peek_31 : decode cX9_peek 31 = .ok (.iadd, 1) := by decide +kernel
theorem dX9_peek_32 : decode cX9_peek 32 = .ok (.putfield 22, 3) := by decide +kernel
theorem dX9_peek_35 : decode cX9_peek 35 = .ok (.goto (-35), 3) := by decide +kernel
theorem dX9_peek_38 : decode cX9_peek 38 = .ok (.aload_n 0, 1) := by decide +kernel
theorem dX9_peek_39 : decode cX9_peek 39 = .ok (.getfield 22, 3) := by decide +kernel
theorem dX9_peek_42 : decode cX9_peek 42 = .ok (.aload_n 0, 1) := by decide +kernel
theorem dX9_peek_43 : decode cX9_peek 43 = .ok (.getfield 19, 3) := by decide +kernel
theorem dX9_peek_46 : decode cX9_peek 46 = .ok (.if_icmp .ge 15, 3) := by decide +kernel
theorem dX9_peek_49 : decode cX9_peek 49 = .ok (.aload_n 0, 1) := by decide +kernel
theorem dX9_peek_50 : decode cX9_peek 50 = .ok (.getfield 11, 3) := by decide +kernel
theorem dX9_peek_53 : decode cX9_peek 53 = .ok (.aload_n 0, 1) := by decide +kernel
theorem dX9_peek_54 : decode cX9_peek 54 = .ok (.getfield 22, 3) := by decide +kernel
theorem dX9_peek_57 : decode cX9_peek 57 = .ok (.iaload, 1) := by decide +kernel
theorem dX9_peek_58 : decode cX9_peek 58 = .ok (.goto 4, 3) := by decide +kernel
theorem dX9_peek_61 : decode cX9_peek 61 = .ok (.iconst (-1), 1) := by decide +kernel
theorem dX9_peek_62 : decode cX9_peek 62 = .ok (.ireturn, 1) := by decide +kernel
theorem dX9_skip_0 : decode cX9_skip 0 = .ok (.aload_n 0, 1) := by decide +kernel
theorem dX9_skip_1 : decode cX9_skip 1 = .ok (.dup, 1) := by decide +kernel
theorem dX9_skip_2 : decode cX9_skip 2 = .ok (.getfield 22, 3) := by decide +kernel
theorem dX9_skip_5 : decode cX9_skip 5 = .ok (.iconst 1, 1) := by decide +kernel
theorem dX9_skip_6 : decode cX9_skip 6 = .ok (.iadd, 1) := by decide +kernel
theorem dX9_skip_7 : decode cX9_skip 7 = .ok (.putfield 22, 3) := by decide +kernel
theorem dX9_skip_10 : decode cX9_skip 10 = .ok (.return_, 1) := by decide +kernel
theorem dX9_take_0 : decode cX9_take 0 = .ok (.aload_n 0, 1) := by decide +kernel
theorem dX9_take_1 : decode cX9_take 1 = .ok (.getfield 15, 3) := by decide +kernel
theorem dX9_take_4 : decode cX9_take 4 = .ok (.iconst (-1), 1) := by decide +kernel
theorem dX9_take_5 : decode cX9_take 5 = .ok (.if_icmp .ne 11, 3) := by decide +kernel
theorem dX9_take_8 : decode cX9_take 8 = .ok (.aload_n 0, 1) := by decide +kernel
theorem dX9_take_9 : decode cX9_take 9 = .ok (.invokevirtual 29, 3) := by decide +kernel
theorem dX9_take_12 : decode cX9_take 12 = .ok (.iload_n 1, 1) := by decide +kernel
theorem dX9_take_13 : decode cX9_take 13 = .ok (.if_icmp .eq 5, 3) := by decide +kernel
theorem dX9_take_16 : decode cX9_take 16 = .ok (.iconst 0, 1) := by decide +kernel
theorem dX9_take_17 : decode cX9_take 17 = .ok (.ireturn, 1) := by decide +kernel
theorem dX9_take_18 : decode cX9_take 18 = .ok (.aload_n 0, 1) := by decide +kernel
theorem dX9_take_19 : decode cX9_take 19 = .ok (.dup, 1) := by decide +kernel
theorem dX9_take_20 : decode cX9_take 20 = .ok (.getfield 22, 3) := by decide +kernel
theorem dX9_take_23 : decode cX9_take 23 = .ok (.iconst 1, 1) := by decide +kernel
theorem dX9_take_24 : decode cX9_take 24 = .ok (.iadd, 1) := by decide +kernel
theorem dX9_take_25 : decode cX9_take 25 = .ok (.putfield 22, 3) := by decide +kernel
theorem dX9_take_28 : decode cX9_take 28 = .ok (.iconst 1, 1) := by decide +kernel
theorem dX9_take_29 : decode cX9_take 29 = .ok (.ireturn, 1) := by decide +kernel
theorem dX9_takeEither_0 : decode cX9_takeEither 0 = .ok (.aload_n 0, 1) := by decide +kernel
theorem dX9_takeEither_1 : decode cX9_takeEither 1 = .ok (.invokevirtual 29, 3) := by decide +kernel
theorem dX9_takeEither_4 : decode cX9_takeEither 4 = .ok (.istore_n 3, 1) := by decide +kernel
theorem dX9_takeEither_5 : decode cX9_takeEither 5 = .ok (.aload_n 0, 1) := by decide +kernel
theorem dX9_takeEither_6 : decode cX9_takeEither 6 = .ok (.getfield 15, 3) := by decide +kernel
theorem dX9_takeEither_9 : decode cX9_takeEither 9 = .ok (.iconst (-1), 1) := by decide +kernel
theorem dX9_takeEither_10 : decode cX9_takeEither 10 = .ok (.if_icmp .ne 13, 3) := by decide +kernel
theorem dX9_takeEither_13 : decode cX9_takeEither 13 = .ok (.iload_n 3, 1) := by decide +kernel
theorem dX9_takeEither_14 : decode cX9_takeEither 14 = .ok (.iload_n 1, 1) := by decide +kernel
theorem dX9_takeEither_15 : decode cX9_takeEither 15 = .ok (.if_icmp .eq 10, 3) := by decide +kernel
theorem dX9_takeEither_18 : decode cX9_takeEither 18 = .ok (.iload_n 3, 1) := by decide +kernel
theorem dX9_takeEither_19 : decode cX9_takeEither 19 = .ok (.iload_n 2, 1) := by decide +kernel
theorem dX9_takeEither_20 : decode cX9_takeEither 20 = .ok (.if_icmp .eq 5, 3) := by decide +kernel
theorem dX9_takeEither_23 : decode cX9_takeEither 23 = .ok (.iconst 0, 1) := by decide +kernel
theorem dX9_takeEither_24 : decode cX9_takeEither 24 = .ok (.ireturn, 1) := by decide +kernel
theorem dX9_takeEither_25 : decode cX9_takeEither 25 = .ok (.aload_n 0, 1) := by decide +kernel
theorem dX9_takeEither_26 : decode cX9_takeEither 26 = .ok (.dup, 1) := by decide +kernel
theorem dX9_takeEither_27 : decode cX9_takeEither 27 = .ok (.getfield 22, 3) := by decide +kernel
theorem dX9_takeEither_30 : decode cX9_takeEither 30 = .ok (.iconst 1, 1) := by decide +kernel
theorem dX9_takeEither_31 : decode cX9_takeEither 31 = .ok (.iadd, 1) := by decide +kernel
theorem dX9_takeEither_32 : decode cX9_takeEither 32 = .ok (.putfield 22, 3) := by decide +kernel
theorem dX9_takeEither_35 : decode cX9_takeEither 35 = .ok (.iload_n 3, 1) := by decide +kernel
theorem dX9_takeEither_36 : decode cX9_takeEither 36 = .ok (.ireturn, 1) := by decide +kernel
theorem dX9_expect_0 : decode cX9_expect 0 = .ok (.aload_n 0, 1) := by decide +kernel
theorem dX9_expect_1 : decode cX9_expect 1 = .ok (.getfield 15, 3) := by decide +kernel
theorem dX9_expect_4 : decode cX9_expect 4 = .ok (.iconst (-1), 1) := by decide +kernel
theorem dX9_expect_5 : decode cX9_expect 5 = .ok (.if_icmp .ne 24, 3) := by decide +kernel
theorem dX9_expect_8 : decode cX9_expect 8 = .ok (.aload_n 0, 1) := by decide +kernel
theorem dX9_expect_9 : decode cX9_expect 9 = .ok (.invokevirtual 29, 3) := by decide +kernel
theorem dX9_expect_12 : decode cX9_expect 12 = .ok (.iload_n 1, 1) := by decide +kernel
theorem dX9_expect_13 : decode cX9_expect 13 = .ok (.if_icmp .ne 16, 3) := by decide +kernel
theorem dX9_expect_16 : decode cX9_expect 16 = .ok (.aload_n 0, 1) := by decide +kernel
theorem dX9_expect_17 : decode cX9_expect 17 = .ok (.dup, 1) := by decide +kernel
theorem dX9_expect_18 : decode cX9_expect 18 = .ok (.getfield 22, 3) := by decide +kernel
theorem dX9_expect_21 : decode cX9_expect 21 = .ok (.iconst 1, 1) := by decide +kernel
theorem dX9_expect_22 : decode cX9_expect 22 = .ok (.iadd, 1) := by decide +kernel
theorem dX9_expect_23 : decode cX9_expect 23 = .ok (.putfield 22, 3) := by decide +kernel
theorem dX9_expect_26 : decode cX9_expect 26 = .ok (.goto 11, 3) := by decide +kernel
theorem dX9_expect_29 : decode cX9_expect 29 = .ok (.aload_n 0, 1) := by decide +kernel
theorem dX9_expect_30 : decode cX9_expect 30 = .ok (.aload_n 0, 1) := by decide +kernel
theorem dX9_expect_31 : decode cX9_expect 31 = .ok (.getfield 22, 3) := by decide +kernel
theorem dX9_expect_34 : decode cX9_expect 34 = .ok (.invokevirtual 25, 3) := by decide +kernel
theorem dX9_expect_37 : decode cX9_expect 37 = .ok (.return_, 1) := by decide +kernel
theorem dX9_expectEnd_0 : decode cX9_expectEnd 0 = .ok (.aload_n 0, 1) := by decide +kernel
theorem dX9_expectEnd_1 : decode cX9_expectEnd 1 = .ok (.invokevirtual 29, 3) := by decide +kernel
theorem dX9_expectEnd_4 : decode cX9_expectEnd 4 = .ok (.iconst (-1), 1) := by decide +kernel
theorem dX9_expectEnd_5 : decode cX9_expectEnd 5 = .ok (.if_icmp .eq 11, 3) := by decide +kernel
theorem dX9_expectEnd_8 : decode cX9_expectEnd 8 = .ok (.aload_n 0, 1) := by decide +kernel
theorem dX9_expectEnd_9 : decode cX9_expectEnd 9 = .ok (.aload_n 0, 1) := by decide +kernel
theorem dX9_expectEnd_10 : decode cX9_expectEnd 10 = .ok (.getfield 22, 3) := by decide +kernel
theorem dX9_expectEnd_13 : decode cX9_expectEnd 13 = .ok (.invokevirtual 25, 3) := by decide +kernel
theorem dX9_expectEnd_16 : decode cX9_expectEnd 16 = .ok (.return_, 1) := by decide +kernel
theorem dX9_digit_0 : decode cX9_digit 0 = .ok (.aload_n 0, 1) := by decide +kernel
theorem dX9_digit_1 : decode cX9_digit 1 = .ok (.invokevirtual 29, 3) := by decide +kernel
theorem dX9_digit_4 : decode cX9_digit 4 = .ok (.istore_n 1, 1) := by decide +kernel
theorem dX9_digit_5 : decode cX9_digit 5 = .ok (.iload_n 1, 1) := by decide +kernel
theorem dX9_digit_6 : decode cX9_digit 6 = .ok (.bipush 48, 2) := by decide +kernel
theorem dX9_digit_8 : decode cX9_digit 8 = .ok (.if_icmp .lt 9, 3) := by decide +kernel
theorem dX9_digit_11 : decode cX9_digit 11 = .ok (.iload_n 1, 1) := by decide +kernel
theorem dX9_digit_12 : decode cX9_digit 12 = .ok (.bipush 57, 2) := by decide +kernel
theorem dX9_digit_14 : decode cX9_digit 14 = .ok (.if_icmp .le 13, 3) := by decide +kernel
theorem dX9_digit_17 : decode cX9_digit 17 = .ok (.aload_n 0, 1) := by decide +kernel
theorem dX9_digit_18 : decode cX9_digit 18 = .ok (.aload_n 0, 1) := by decide +kernel
theorem dX9_digit_19 : decode cX9_digit 19 = .ok (.getfield 22, 3) := by decide +kernel
theorem dX9_digit_22 : decode cX9_digit 22 = .ok (.invokevirtual 25, 3) := by decide +kernel
theorem dX9_digit_25 : decode cX9_digit 25 = .ok (.iconst 0, 1) := by decide +kernel
theorem dX9_digit_26 : decode cX9_digit 26 = .ok (.ireturn, 1) := by decide +kernel
theorem dX9_digit_27 : decode cX9_digit 27 = .ok (.aload_n 0, 1) := by decide +kernel
theorem dX9_digit_28 : decode cX9_digit 28 = .ok (.dup, 1) := by decide +kernel
theorem dX9_digit_29 : decode cX9_digit 29 = .ok (.getfield 22, 3) := by decide +kernel
theorem dX9_digit_32 : decode cX9_digit 32 = .ok (.iconst 1, 1) := by decide +kernel
theorem dX9_digit_33 : decode cX9_digit 33 = .ok (.iadd, 1) := by decide +kernel
theorem dX9_digit_34 : decode cX9_digit 34 = .ok (.putfield 22, 3) := by decide +kernel
theorem dX9_digit_37 : decode cX9_digit 37 = .ok (.iload_n 1, 1) := by decide +kernel
theorem dX9_digit_38 : decode cX9_digit 38 = .ok (.bipush 48, 2) := by decide +kernel
theorem dX9_digit_40 : decode cX9_digit 40 = .ok (.isub, 1) := by decide +kernel
theorem dX9_digit_41 : decode cX9_digit 41 = .ok (.ireturn, 1) := by decide +kernel
theorem dX9_number_0 : decode cX9_number 0 = .ok (.iconst (-1), 1) := by decide +kernel
theorem dX9_number_1 : decode cX9_number 1 = .ok (.istore_n 2, 1) := by decide +kernel
theorem dX9_number_2 : decode cX9_number 2 = .ok (.iconst 0, 1) := by decide +kernel
theorem dX9_number_3 : decode cX9_number 3 = .ok (.istore_n 3, 1) := by decide +kernel
theorem dX9_number_4 : decode cX9_number 4 = .ok (.aload_n 0, 1) := by decide +kernel
theorem dX9_number_5 : decode cX9_number 5 = .ok (.getfield 22, 3) := by decide +kernel
theorem dX9_number_8 : decode cX9_number 8 = .ok (.aload_n 0, 1) := by decide +kernel
theorem dX9_number_9 : decode cX9_number 9 = .ok (.getfield 19, 3) := by decide +kernel
theorem dX9_number_12 : decode cX9_number 12 = .ok (.if_icmp .ge 80, 3) := by decide +kernel
theorem dX9_number_15 : decode cX9_number 15 = .ok (.aload_n 0, 1) := by decide +kernel
theorem dX9_number_16 : decode cX9_number 16 = .ok (.getfield 11, 3) := by decide +kernel
theorem dX9_number_19 : decode cX9_number 19 = .ok (.aload_n 0, 1) := by decide +kernel
theorem dX9_number_20 : decode cX9_number 20 = .ok (.getfield 22, 3) := by decide +kernel
theorem dX9_number_23 : decode cX9_number 23 = .ok (.iaload, 1) := by decide +kernel
theorem dX9_number_24 : decode cX9_number 24 = .ok (.bipush 48, 2) := by decide +kernel
theorem dX9_number_26 : decode cX9_number 26 = .ok (.if_icmp .lt 66, 3) := by decide +kernel
theorem dX9_number_29 : decode cX9_number 29 = .ok (.aload_n 0, 1) := by decide +kernel
theorem dX9_number_30 : decode cX9_number 30 = .ok (.getfield 11, 3) := by decide +kernel
theorem dX9_number_33 : decode cX9_number 33 = .ok (.aload_n 0, 1) := by decide +kernel
theorem dX9_number_34 : decode cX9_number 34 = .ok (.getfield 22, 3) := by decide +kernel
theorem dX9_number_37 : decode cX9_number 37 = .ok (.iaload, 1) := by decide +kernel
theorem dX9_number_38 : decode cX9_number 38 = .ok (.bipush 57, 2) := by decide +kernel
theorem dX9_number_40 : decode cX9_number 40 = .ok (.if_icmp .gt 52, 3) := by decide +kernel
theorem dX9_number_43 : decode cX9_number 43 = .ok (.iload_n 3, 1) := by decide +kernel
theorem dX9_number_44 : decode cX9_number 44 = .ok (.iload_n 1, 1) := by decide +kernel
theorem dX9_number_45 : decode cX9_number 45 = .ok (.if_icmp .lt 5, 3) := by decide +kernel
theorem dX9_number_48 : decode cX9_number 48 = .ok (.iconst (-1), 1) := by decide +kernel
theorem dX9_number_49 : decode cX9_number 49 = .ok (.ireturn, 1) := by decide +kernel
theorem dX9_number_50 : decode cX9_number 50 = .ok (.iload_n 3, 1) := by decide +kernel
theorem dX9_number_51 : decode cX9_number 51 = .ok (.ifCond .ne 7, 3) := by decide +kernel
theorem dX9_number_54 : decode cX9_number 54 = .ok (.iconst 0, 1) := by decide +kernel
theorem dX9_number_55 : decode cX9_number 55 = .ok (.goto 7, 3) := by decide +kernel
theorem dX9_number_58 : decode cX9_number 58 = .ok (.iload_n 2, 1) := by decide +kernel
theorem dX9_number_59 : decode cX9_number 59 = .ok (.bipush 10, 2) := by decide +kernel
theorem dX9_number_61 : decode cX9_number 61 = .ok (.imul, 1) := by decide +kernel
theorem dX9_number_62 : decode cX9_number 62 = .ok (.aload_n 0, 1) := by decide +kernel
theorem dX9_number_63 : decode cX9_number 63 = .ok (.getfield 11, 3) := by decide +kernel
theorem dX9_number_66 : decode cX9_number 66 = .ok (.aload_n 0, 1) := by decide +kernel
theorem dX9_number_67 : decode cX9_number 67 = .ok (.getfield 22, 3) := by decide +kernel
theorem dX9_number_70 : decode cX9_number 70 = .ok (.iaload, 1) := by decide +kernel
theorem dX9_number_71 : decode cX9_number 71 = .ok (.iadd, 1) := by decide +kernel
theorem dX9_number_72 : decode cX9_number 72 = .ok (.bipush 48, 2) := by decide +kernel
theorem dX9_number_74 : decode cX9_number 74 = .ok (.isub, 1) := by decide +kernel
theorem dX9_number_75 : decode cX9_number 75 = .ok (.istore_n 2, 1) := by decide +kernel
theorem dX9_number_76 : decode cX9_number 76 = .ok (.aload_n 0, 1) := by decide +kernel
theorem dX9_number_77 : decode cX9_number 77 = .ok (.dup, 1) := by decide +kernel
theorem dX9_number_78 : decode cX9_number 78 = .ok (.getfield 22, 3) := by decide +kernel
theorem dX9_number_81 : decode cX9_number 81 = .ok (.iconst 1, 1) := by decide +kernel
theorem dX9_number_82 : decode cX9_number 82 = .ok (.iadd, 1) := by decide +kernel
theorem dX9_number_83 : decode cX9_number 83 = .ok (.putfield 22, 3) := by decide +kernel
theorem dX9_number_86 : decode cX9_number 86 = .ok (.iinc 3 1, 3) := by decide +kernel
theorem dX9_number_89 : decode cX9_number 89 = .ok (.goto (-85), 3) := by decide +kernel
theorem dX9_number_92 : decode cX9_number 92 = .ok (.iload_n 2, 1) := by decide +kernel
theorem dX9_number_93 : decode cX9_number 93 = .ok (.ireturn, 1) := by decide +kernel
theorem dX9_numberWithin_0 : decode cX9_numberWithin 0 = .ok (.aload_n 0, 1) := by decide +kernel
theorem dX9_numberWithin_1 : decode cX9_numberWithin 1 = .ok (.invokevirtual 29, 3) := by decide +kernel
theorem dX9_numberWithin_4 : decode cX9_numberWithin 4 = .ok (.pop, 1) := by decide +kernel
theorem dX9_numberWithin_5 : decode cX9_numberWithin 5 = .ok (.aload_n 0, 1) := by decide +kernel
theorem dX9_numberWithin_6 : decode cX9_numberWithin 6 = .ok (.iconst 2, 1) := by decide +kernel
theorem dX9_numberWithin_7 : decode cX9_numberWithin 7 = .ok (.invokevirtual 33, 3) := by decide +kernel
theorem dX9_numberWithin_10 : decode cX9_numberWithin 10 = .ok (.istore_n 3, 1) := by decide +kernel
theorem dX9_numberWithin_11 : decode cX9_numberWithin 11 = .ok (.iload_n 3, 1) := by decide +kernel
theorem dX9_numberWithin_12 : decode cX9_numberWithin 12 = .ok (.iconst (-1), 1) := by decide +kernel
theorem dX9_numberWithin_13 : decode cX9_numberWithin 13 = .ok (.if_icmp .ne 14, 3) := by decide +kernel
theorem dX9_numberWithin_16 : decode cX9_numberWithin 16 = .ok (.aload_n 0, 1) := by decide +kernel
theorem dX9_numberWithin_17 : decode cX9_numberWithin 17 = .ok (.aload_n 0, 1) := by decide +kernel
theorem dX9_numberWithin_18 : decode cX9_numberWithin 18 = .ok (.getfield 22, 3) := by decide +kernel
theorem dX9_numberWithin_21 : decode cX9_numberWithin 21 = .ok (.invokevirtual 25, 3) := by decide +kernel
theorem dX9_numberWithin_24 : decode cX9_numberWithin 24 = .ok (.goto 23, 3) := by decide +kernel
theorem dX9_numberWithin_27 : decode cX9_numberWithin 27 = .ok (.iload_n 3, 1) := by decide +kernel
theorem dX9_numberWithin_28 : decode cX9_numberWithin 28 = .ok (.iload_n 1, 1) := by decide +kernel
theorem dX9_numberWithin_29 : decode cX9_numberWithin 29 = .ok (.if_icmp .lt 8, 3) := by decide +kernel
theorem dX9_numberWithin_32 : decode cX9_numberWithin 32 = .ok (.iload_n 3, 1) := by decide +kernel
theorem dX9_numberWithin_33 : decode cX9_numberWithin 33 = .ok (.iload_n 2, 1) := by decide +kernel
theorem dX9_numberWithin_34 : decode cX9_numberWithin 34 = .ok (.if_icmp .le 13, 3) := by decide +kernel
theorem dX9_numberWithin_37 : decode cX9_numberWithin 37 = .ok (.aload_n 0, 1) := by decide +kernel
theorem dX9_numberWithin_38 : decode cX9_numberWithin 38 = .ok (.aload_n 0, 1) := by decide +kernel
theorem dX9_numberWithin_39 : decode cX9_numberWithin 39 = .ok (.getfield 22, 3) := by decide +kernel
theorem dX9_numberWithin_42 : decode cX9_numberWithin 42 = .ok (.iconst 1, 1) := by decide +kernel
theorem dX9_numberWithin_43 : decode cX9_numberWithin 43 = .ok (.isub, 1) := by decide +kernel
theorem dX9_numberWithin_44 : decode cX9_numberWithin 44 = .ok (.invokevirtual 25, 3) := by decide +kernel
theorem dX9_numberWithin_47 : decode cX9_numberWithin 47 = .ok (.iload_n 3, 1) := by decide +kernel
theorem dX9_numberWithin_48 : decode cX9_numberWithin 48 = .ok (.ireturn, 1) := by decide +kernel
theorem dX10_init_0 : decode cX10_init 0 = .ok (.aload_n 0, 1) := by decide +kernel
theorem dX10_init_1 : decode cX10_init 1 = .ok (.invokespecial 3, 3) := by decide +kernel
theorem dX10_init_4 : decode cX10_init 4 = .ok (.aload_n 0, 1) := by decide +kernel
theorem dX10_init_5 : decode cX10_init 5 = .ok (.aload_n 1, 1) := by decide +kernel
theorem dX10_init_6 : decode cX10_init 6 = .ok (.putfield 9, 3) := by decide +kernel
theorem dX10_init_9 : decode cX10_init 9 = .ok (.aload_n 0, 1) := by decide +kernel
theorem dX10_init_10 : decode cX10_init 10 = .ok (.aload_n 2, 1) := by decide +kernel
theorem dX10_init_11 : decode cX10_init 11 = .ok (.putfield 15, 3) := by decide +kernel
theorem dX10_init_14 : decode cX10_init 14 = .ok (.aload_n 0, 1) := by decide +kernel
theorem dX10_init_15 : decode cX10_init 15 = .ok (.iconst 3, 1) := by decide +kernel
theorem dX10_init_16 : decode cX10_init 16 = .ok (.newarray .int, 2) := by decide +kernel
theorem dX10_init_18 : decode cX10_init 18 = .ok (.putfield 19, 3) := by decide +kernel
theorem dX10_init_21 : decode cX10_init 21 = .ok (.aload_n 0, 1) := by decide +kernel
theorem dX10_init_22 : decode cX10_init 22 = .ok (.bipush 8, 2) := by decide +kernel
theorem dX10_init_24 : decode cX10_init 24 = .ok (.newarray .int, 2) := by decide +kernel
theorem dX10_init_26 : decode cX10_init 26 = .ok (.putfield 23, 3) := by decide +kernel
theorem dX10_init_29 : decode cX10_init 29 = .ok (.aload_n 0, 1) := by decide +kernel
theorem dX10_init_30 : decode cX10_init 30 = .ok (.iconst 3, 1) := by decide +kernel
theorem dX10_init_31 : decode cX10_init 31 = .ok (.newarray .int, 2) := by decide +kernel
theorem dX10_init_33 : decode cX10_init 33 = .ok (.putfield 26, 3) := by decide +kernel
theorem dX10_init_36 : decode cX10_init 36 = .ok (.aload_n 0, 1) := by decide +kernel
theorem dX10_init_37 : decode cX10_init 37 = .ok (.bipush 8, 2) := by decide +kernel
theorem dX10_init_39 : decode cX10_init 39 = .ok (.newarray .int, 2) := by decide +kernel
theorem dX10_init_41 : decode cX10_init 41 = .ok (.putfield 29, 3) := by decide +kernel
theorem dX10_init_44 : decode cX10_init 44 = .ok (.return_, 1) := by decide +kernel
theorem dX10_isRising_0 : decode cX10_isRising 0 = .ok (.aload_n 0, 1) := by decide +kernel
theorem dX10_isRising_1 : decode cX10_isRising 1 = .ok (.getfield 9, 3) := by decide +kernel
theorem dX10_isRising_4 : decode cX10_isRising 4 = .ok (.invokevirtual 32, 3) := by decide +kernel
theorem dX10_isRising_7 : decode cX10_isRising 7 = .ok (.istore_n 2, 1) := by decide +kernel
theorem dX10_isRising_8 : decode cX10_isRising 8 = .ok (.iload_n 2, 1) := by decide +kernel
theorem dX10_isRising_9 : decode cX10_isRising 9 = .ok (.ifCond .le 16, 3) := by decide +kernel
theorem dX10_isRising_12 : decode cX10_isRising 12 = .ok (.iload_n 1, 1) := by decide +kernel
theorem dX10_isRising_13 : decode cX10_isRising 13 = .ok (.iconst 2, 1) := by decide +kernel
theorem dX10_isRising_14 : decode cX10_isRising 14 = .ok (.iload_n 2, 1) := by decide +kernel
theorem dX10_isRising_15 : decode cX10_isRising 15 = .ok (.imul, 1) := by decide +kernel
theorem dX10_isRising_16 : decode cX10_isRising 16 = .ok (.irem, 1) := by decide +kernel
theorem dX10_isRising_17 : decode cX10_isRising 17 = .ok (.iload_n 2, 1) := by decide +kernel
theorem dX10_isRising_18 : decode cX10_isRising 18 = .ok (.if_icmp .ge 7, 3) := by decide +kernel
theorem dX10_isRising_21 : decode cX10_isRising 21 = .ok (.iconst 1, 1) := by decide +kernel
theorem dX10_isRising_22 : decode cX10_isRising 22 = .ok (.goto 4, 3) := by decide +kernel
theorem dX10_isRising_25 : decode cX10_isRising 25 = .ok (.iconst 0, 1) := by decide +kernel
theorem dX10_isRising_26 : decode cX10_isRising 26 = .ok (.ireturn, 1) := by decide +kernel
theorem dX10_pushOf_0 : decode cX10_pushOf 0 = .ok (.aload_n 1, 1) := by decide +kernel
theorem dX10_pushOf_1 : decode cX10_pushOf 1 = .ok (.getfield 38, 3) := by decide +kernel
theorem dX10_pushOf_4 : decode cX10_pushOf 4 = .ok (.iload_n 3, 1) := by decide +kernel
theorem dX10_pushOf_5 : decode cX10_pushOf 5 = .ok (.iaload, 1) := by decide +kernel
theorem dX10_pushOf_6 : decode cX10_pushOf 6 = .ok (.aload_n 0, 1) := by decide +kernel
theorem dX10_pushOf_7 : decode cX10_pushOf 7 = .ok (.getfield 9, 3) := by decide +kernel
theorem dX10_pushOf_10 : decode cX10_pushOf 10 = .ok (.iload_n 2, 1) := by decide +kernel
theorem dX10_pushOf_11 : decode cX10_pushOf 11 = .ok (.invokevirtual 43, 3) := by decide +kernel
theorem dX10_pushOf_14 : decode cX10_pushOf 14 = .ok (.isub, 1) := by decide +kernel
theorem dX10_pushOf_15 : decode cX10_pushOf 15 = .ok (.istore 4, 2) := by decide +kernel
theorem dX10_pushOf_17 : decode cX10_pushOf 17 = .ok (.aload_n 1, 1) := by decide +kernel
theorem dX10_pushOf_18 : decode cX10_pushOf 18 = .ok (.getfield 47, 3) := by decide +kernel
theorem dX10_pushOf_21 : decode cX10_pushOf 21 = .ok (.iload_n 3, 1) := by decide +kernel
theorem dX10_pushOf_22 : decode cX10_pushOf 22 = .ok (.iaload, 1) := by decide +kernel
theorem dX10_pushOf_23 : decode cX10_pushOf 23 = .ok (.aload_n 0, 1) := by decide +kernel
theorem dX10_pushOf_24 : decode cX10_pushOf 24 = .ok (.getfield 9, 3) := by decide +kernel
theorem dX10_pushOf_27 : decode cX10_pushOf 27 = .ok (.iload_n 2, 1) := by decide +kernel
theorem dX10_pushOf_28 : decode cX10_pushOf 28 = .ok (.invokevirtual 50, 3) := by decide +kernel
theorem dX10_pushOf_31 : decode cX10_pushOf 31 = .ok (.isub, 1) := by decide +kernel
theorem dX10_pushOf_32 : decode cX10_pushOf 32 = .ok (.istore 5, 2) := by decide +kernel
theorem dX10_pushOf_34 : decode cX10_pushOf 34 = .ok (.aload_n 1, 1) := by decide +kernel
theorem dX10_pushOf_35 : decode cX10_pushOf 35 = .ok (.getfield 53, 3) := by decide +kernel
theorem dX10_pushOf_38 : decode cX10_pushOf 38 = .ok (.iconst 2, 1) := by decide +kernel
theorem dX10_pushOf_39 : decode cX10_pushOf 39 = .ok (.irem, 1) := by decide +kernel
theorem dX10_pushOf_40 : decode cX10_pushOf 40 = .ok (.ifCond .ne 8, 3) := by decide +kernel
theorem dX10_pushOf_43 : decode cX10_pushOf 43 = .ok (.iload 4, 2) := by decide +kernel
theorem dX10_pushOf_45 : decode cX10_pushOf 45 = .ok (.goto 5, 3) := by decide +kernel
theorem dX10_pushOf_48 : decode cX10_pushOf 48 = .ok (.iload 5, 2) := by decide +kernel
theorem dX10_pushOf_50 : decode cX10_pushOf 50 = .ok (.istore 6, 2) := by decide +kernel
theorem dX10_pushOf_52 : decode cX10_pushOf 52 = .ok (.aload_n 1, 1) := by decide +kernel
theorem dX10_pushOf_53 : decode cX10_pushOf 53 = .ok (.getfield 53, 3) := by decide +kernel
theorem dX10_pushOf_56 : decode cX10_pushOf 56 = .ok (.iconst 2, 1) := by decide +kernel
theorem dX10_pushOf_57 : decode cX10_pushOf 57 = .ok (.if_icmp .ge 8, 3) := by decide +kernel
theorem dX10_pushOf_60 : decode cX10_pushOf 60 = .ok (.iload 6, 2) := by decide +kernel
theorem dX10_pushOf_62 : decode cX10_pushOf 62 = .ok (.goto 6, 3) := by decide +kernel
theorem dX10_pushOf_65 : decode cX10_pushOf 65 = .ok (.iload 6, 2) := by decide +kernel
theorem dX10_pushOf_67 : decode cX10_pushOf 67 = .ok (.ineg, 1) := by decide +kernel
theorem dX10_pushOf_68 : decode cX10_pushOf 68 = .ok (.istore 7, 2) := by decide +kernel
theorem dX10_pushOf_70 : decode cX10_pushOf 70 = .ok (.iload 7, 2) := by decide +kernel
theorem dX10_pushOf_72 : decode cX10_pushOf 72 = .ok (.ifCond .le 10, 3) := by decide +kernel
theorem dX10_pushOf_75 : decode cX10_pushOf 75 = .ok (.aload_n 1, 1) := by decide +kernel
theorem dX10_pushOf_76 : decode cX10_pushOf 76 = .ok (.getfield 57, 3) := by decide +kernel
theorem dX10_pushOf_79 : decode cX10_pushOf 79 = .ok (.goto 17, 3) := by decide +kernel
theorem dX10_pushOf_82 : decode cX10_pushOf 82 = .ok (.iload 7, 2) := by decide +kernel
theorem dX10_pushOf_84 : decode cX10_pushOf 84 = .ok (.ifCond .ge 11, 3) := by decide +kernel
theorem dX10_pushOf_87 : decode cX10_pushOf 87 = .ok (.aload_n 1, 1) := by decide +kernel
theorem dX10_pushOf_88 : decode cX10_pushOf 88 = .ok (.getfield 57, 3) := by decide +kernel
theorem dX10_pushOf_91 : decode cX10_pushOf 91 = .ok (.ineg, 1) := by decide +kernel
theorem dX10_pushOf_92 : decode cX10_pushOf 92 = .ok (.goto 4, 3) := by decide +kernel
theorem dX10_pushOf_95 : decode cX10_pushOf 95 = .ok (.iconst 0, 1) := by decide +kernel
theorem dX10_pushOf_96 : decode cX10_pushOf 96 = .ok (.istore 8, 2) := by decide +kernel
theorem dX10_pushOf_98 : decode cX10_pushOf 98 = .ok (.aload_n 0, 1) := by decide +kernel
theorem dX10_pushOf_99 : decode cX10_pushOf 99 = .ok (.aload_n 1, 1) := by decide +kernel
theorem dX10_pushOf_100 : decode cX10_pushOf 100 = .ok (.getfield 60, 3) := by decide +kernel
theorem dX10_pushOf_103 : decode cX10_pushOf 103 = .ok (.invokevirtual 63, 3) := by decide +kernel
theorem dX10_pushOf_106 : decode cX10_pushOf 106 = .ok (.ifCond .eq 16, 3) := by decide +kernel
theorem dX10_pushOf_109 : decode cX10_pushOf 109 = .ok (.iload 4, 2) := by decide +kernel
theorem dX10_pushOf_111 : decode cX10_pushOf 111 = .ok (.ifCond .le 7, 3) := by decide +kernel
theorem dX10_pushOf_114 : decode cX10_pushOf 114 = .ok (.iconst 1, 1) := by decide +kernel
theorem dX10_pushOf_115 : decode cX10_pushOf 115 = .ok (.goto 17, 3) := by decide +kernel
theorem dX10_pushOf_118 : decode cX10_pushOf 118 = .ok (.iconst 0, 1) := by decide +kernel
theorem dX10_pushOf_119 : decode cX10_pushOf 119 = .ok (.goto 13, 3) := by decide +kernel
theorem dX10_pushOf_122 : decode cX10_pushOf 122 = .ok (.iload 4, 2) := by decide +kernel
theorem dX10_pushOf_124 : decode cX10_pushOf 124 = .ok (.ifCond .ge 7, 3) := by decide +kernel
theorem dX10_pushOf_127 : decode cX10_pushOf 127 = .ok (.iconst 1, 1) := by decide +kernel
theorem dX10_pushOf_128 : decode cX10_pushOf 128 = .ok (.goto 4, 3) := by decide +kernel
theorem dX10_pushOf_131 : decode cX10_pushOf 131 = .ok (.iconst 0, 1) := by decide +kernel
theorem dX10_pushOf_132 : decode cX10_pushOf 132 = .ok (.istore 9, 2) := by decide +kernel
theorem dX10_pushOf_134 : decode cX10_pushOf 134 = .ok (.iload 9, 2) := by decide +kernel
theorem dX10_pushOf_136 : decode cX10_pushOf 136 = .ok (.ifCond .eq 10, 3) := by decide +kernel
theorem dX10_pushOf_139 : decode cX10_pushOf 139 = .ok (.iload 8, 2) := by decide +kernel
theorem dX10_pushOf_141 : decode cX10_pushOf 141 = .ok (.iconst 1, 1) := by decide +kernel
theorem dX10_pushOf_142 : decode cX10_pushOf 142 = .ok (.iadd, 1) := by decide +kernel
theorem dX10_pushOf_143 : decode cX10_pushOf 143 = .ok (.goto 5, 3) := by decide +kernel
theorem dX10_pushOf_146 : decode cX10_pushOf 146 = .ok (.iload 8, 2) := by decide +kernel
theorem dX10_pushOf_148 : decode cX10_pushOf 148 = .ok (.ireturn, 1) := by decide +kernel
theorem dX10_drawOf_0 : decode cX10_drawOf 0 = .ok (.aload_n 1, 1) := by decide +kernel
theorem dX10_drawOf_1 : decode cX10_drawOf 1 = .ok (.getfield 67, 3) := by decide +kernel
theorem dX10_drawOf_4 : decode cX10_drawOf 4 = .ok (.iload_n 2, 1) := by decide +kernel
theorem dX10_drawOf_5 : decode cX10_drawOf 5 = .ok (.iconst 3, 1) := by decide +kernel
theorem dX10_drawOf_6 : decode cX10_drawOf 6 = .ok (.imul, 1) := by decide +kernel
theorem dX10_drawOf_7 : decode cX10_drawOf 7 = .ok (.iload_n 3, 1) := by decide +kernel
theorem dX10_drawOf_8 : decode cX10_drawOf 8 = .ok (.iadd, 1) := by decide +kernel
theorem dX10_drawOf_9 : decode cX10_drawOf 9 = .ok (.iaload, 1) := by decide +kernel
theorem dX10_drawOf_10 : decode cX10_drawOf 10 = .ok (.istore 4, 2) := by decide +kernel
theorem dX10_drawOf_12 : decode cX10_drawOf 12 = .ok (.aload_n 1, 1) := by decide +kernel
theorem dX10_drawOf_13 : decode cX10_drawOf 13 = .ok (.getfield 70, 3) := by decide +kernel
theorem dX10_drawOf_16 : decode cX10_drawOf 16 = .ok (.iload_n 2, 1) := by decide +kernel
theorem dX10_drawOf_17 : decode cX10_drawOf 17 = .ok (.iaload, 1) := by decide +kernel
theorem dX10_drawOf_18 : decode cX10_drawOf 18 = .ok (.iload_n 3, 1) := by decide +kernel
theorem dX10_drawOf_19 : decode cX10_drawOf 19 = .ok (.if_icmp .ne 12, 3) := by decide +kernel
theorem dX10_drawOf_22 : decode cX10_drawOf 22 = .ok (.aload_n 1, 1) := by decide +kernel
theorem dX10_drawOf_23 : decode cX10_drawOf 23 = .ok (.getfield 73, 3) := by decide +kernel
theorem dX10_drawOf_26 : decode cX10_drawOf 26 = .ok (.iload_n 2, 1) := by decide +kernel
theorem dX10_drawOf_27 : decode cX10_drawOf 27 = .ok (.iaload, 1) := by decide +kernel
theorem dX10_drawOf_28 : decode cX10_drawOf 28 = .ok (.goto 4, 3) := by decide +kernel
theorem dX10_drawOf_31 : decode cX10_drawOf 31 = .ok (.iconst 0, 1) := by decide +kernel
theorem dX10_drawOf_32 : decode cX10_drawOf 32 = .ok (.istore 5, 2) := by decide +kernel
theorem dX10_drawOf_34 : decode cX10_drawOf 34 = .ok (.aload_n 1, 1) := by decide +kernel
theorem dX10_drawOf_35 : decode cX10_drawOf 35 = .ok (.iload_n 3, 1) := by decide +kernel
theorem dX10_drawOf_36 : decode cX10_drawOf 36 = .ok (.aload_n 0, 1) := by decide +kernel
theorem dX10_drawOf_37 : decode cX10_drawOf 37 = .ok (.getfield 9, 3) := by decide +kernel
theorem dX10_drawOf_40 : decode cX10_drawOf 40 = .ok (.iload_n 2, 1) := by decide +kernel
theorem dX10_drawOf_41 : decode cX10_drawOf 41 = .ok (.invokevirtual 43, 3) := by decide +kernel
theorem dX10_drawOf_44 : decode cX10_drawOf 44 = .ok (.aload_n 0, 1) := by decide +kernel
theorem dX10_drawOf_45 : decode cX10_drawOf 45 = .ok (.getfield 9, 3) := by decide +kernel
theorem dX10_drawOf_48 : decode cX10_drawOf 48 = .ok (.iload_n 2, 1) := by decide +kernel
theorem dX10_drawOf_49 : decode cX10_drawOf 49 = .ok (.invokevirtual 50, 3) := by decide +kernel
theorem dX10_drawOf_52 : decode cX10_drawOf 52 = .ok (.invokevirtual 76, 3) := by decide +kernel
theorem dX10_drawOf_55 : decode cX10_drawOf 55 = .ok (.istore 6, 2) := by decide +kernel
theorem dX10_drawOf_57 : decode cX10_drawOf 57 = .ok (.aload_n 0, 1) := by decide +kernel
theorem dX10_drawOf_58 : decode cX10_drawOf 58 = .ok (.getfield 15, 3) := by decide +kernel
theorem dX10_drawOf_61 : decode cX10_drawOf 61 = .ok (.aload_n 0, 1) := by decide +kernel
theorem dX10_drawOf_62 : decode cX10_drawOf 62 = .ok (.getfield 9, 3) := by decide +kernel
theorem dX10_drawOf_65 : decode cX10_drawOf 65 = .ok (.iload_n 3, 1) := by decide +kernel
theorem dX10_drawOf_66 : decode cX10_drawOf 66 = .ok (.invokevirtual 80, 3) := by decide +kernel
theorem dX10_drawOf_69 : decode cX10_drawOf 69 = .ok (.iload 4, 2) := by decide +kernel
theorem dX10_drawOf_71 : decode cX10_drawOf 71 = .ok (.iload 5, 2) := by decide +kernel
theorem dX10_drawOf_73 : decode cX10_drawOf 73 = .ok (.iload 6, 2) := by decide +kernel
theorem dX10_drawOf_75 : decode cX10_drawOf 75 = .ok (.aload_n 0, 1) := by decide +kernel
theorem dX10_drawOf_76 : decode cX10_drawOf 76 = .ok (.aload_n 1, 1) := by decide +kernel
theorem dX10_drawOf_77 : decode cX10_drawOf 77 = .ok (.iload_n 2, 1) := by decide +kernel
theorem dX10_drawOf_78 : decode cX10_drawOf 78 = .ok (.iload_n 3, 1) := by decide +kernel
theorem dX10_drawOf_79 : decode cX10_drawOf 79 = .ok (.invokevirtual 83, 3) := by decide +kernel
theorem dX10_drawOf_82 : decode cX10_drawOf 82 = .ok (.aload_n 1, 1) := by decide +kernel
theorem dX10_drawOf_83 : decode cX10_drawOf 83 = .ok (.getfield 60, 3) := by decide +kernel
theorem dX10_drawOf_86 : decode cX10_drawOf 86 = .ok (.invokevirtual 87, 3) := by decide +kernel
theorem dX10_drawOf_89 : decode cX10_drawOf 89 = .ok (.ireturn, 1) := by decide +kernel
theorem dX10_leanOf_0 : decode cX10_leanOf 0 = .ok (.iconst 0, 1) := by decide +kernel
theorem dX10_leanOf_1 : decode cX10_leanOf 1 = .ok (.istore_n 3, 1) := by decide +kernel
theorem dX10_leanOf_2 : decode cX10_leanOf 2 = .ok (.iload_n 3, 1) := by decide +kernel
theorem dX10_leanOf_3 : decode cX10_leanOf 3 = .ok (.aload_n 0, 1) := by decide +kernel
theorem dX10_leanOf_4 : decode cX10_leanOf 4 = .ok (.getfield 9, 3) := by decide +kernel
theorem dX10_leanOf_7 : decode cX10_leanOf 7 = .ok (.getfield 93, 3) := by decide +kernel
theorem dX10_leanOf_10 : decode cX10_leanOf 10 = .ok (.if_icmp .ge 22, 3) := by decide +kernel
theorem dX10_leanOf_13 : decode cX10_leanOf 13 = .ok (.aload_n 0, 1) := by decide +kernel
theorem dX10_leanOf_14 : decode cX10_leanOf 14 = .ok (.getfield 19, 3) := by decide +kernel
theorem dX10_leanOf_17 : decode cX10_leanOf 17 = .ok (.iload_n 3, 1) := by decide +kernel
theorem dX10_leanOf_18 : decode cX10_leanOf 18 = .ok (.aload_n 0, 1) := by decide +kernel
theorem dX10_leanOf_19 : decode cX10_leanOf 19 = .ok (.aload_n 1, 1) := by decide +kernel
theorem dX10_leanOf_20 : decode cX10_leanOf 20 = .ok (.iload_n 2, 1) := by decide +kernel
theorem dX10_leanOf_21 : decode cX10_leanOf 21 = .ok (.iload_n 3, 1) := by decide +kernel
theorem dX10_leanOf_22 : decode cX10_leanOf 22 = .ok (.invokevirtual 96, 3) := by decide +kernel
theorem dX10_leanOf_25 : decode cX10_leanOf 25 = .ok (.iastore, 1) := by decide +kernel
theorem dX10_leanOf_26 : decode cX10_leanOf 26 = .ok (.iinc 3 1, 3) := by decide +kernel
theorem dX10_leanOf_29 : decode cX10_leanOf 29 = .ok (.goto (-27), 3) := by decide +kernel
theorem dX10_leanOf_32 : decode cX10_leanOf 32 = .ok (.aload_n 0, 1) := by decide +kernel
theorem dX10_leanOf_33 : decode cX10_leanOf 33 = .ok (.aload_n 0, 1) := by decide +kernel
theorem dX10_leanOf_34 : decode cX10_leanOf 34 = .ok (.getfield 9, 3) := by decide +kernel
theorem dX10_leanOf_37 : decode cX10_leanOf 37 = .ok (.iload_n 2, 1) := by decide +kernel
theorem dX10_leanOf_38 : decode cX10_leanOf 38 = .ok (.invokevirtual 99, 3) := by decide +kernel
theorem dX10_leanOf_41 : decode cX10_leanOf 41 = .ok (.invokevirtual 102, 3) := by decide +kernel
theorem dX10_leanOf_44 : decode cX10_leanOf 44 = .ok (.ireturn, 1) := by decide +kernel
theorem dX10_leanBy_0 : decode cX10_leanBy 0 = .ok (.iconst 0, 1) := by decide +kernel
theorem dX10_leanBy_1 : decode cX10_leanBy 1 = .ok (.istore_n 2, 1) := by decide +kernel
theorem dX10_leanBy_2 : decode cX10_leanBy 2 = .ok (.iconst 1, 1) := by decide +kernel
theorem dX10_leanBy_3 : decode cX10_leanBy 3 = .ok (.istore_n 3, 1) := by decide +kernel
theorem dX10_leanBy_4 : decode cX10_leanBy 4 = .ok (.iconst 1, 1) := by decide +kernel
theorem dX10_leanBy_5 : decode cX10_leanBy 5 = .ok (.istore 4, 2) := by decide +kernel
theorem dX10_leanBy_7 : decode cX10_leanBy 7 = .ok (.iload 4, 2) := by decide +kernel
theorem dX10_leanBy_9 : decode cX10_leanBy 9 = .ok (.aload_n 0, 1) := by decide +kernel
theorem dX10_leanBy_10 : decode cX10_leanBy 10 = .ok (.getfield 9, 3) := by decide +kernel
theorem dX10_leanBy_13 : decode cX10_leanBy 13 = .ok (.getfield 93, 3) := by decide +kernel
theorem dX10_leanBy_16 : decode cX10_leanBy 16 = .ok (.if_icmp .ge 51, 3) := by decide +kernel
theorem dX10_leanBy_19 : decode cX10_leanBy 19 = .ok (.aload_n 0, 1) := by decide +kernel
theorem dX10_leanBy_20 : decode cX10_leanBy 20 = .ok (.getfield 19, 3) := by decide +kernel
theorem dX10_leanBy_23 : decode cX10_leanBy 23 = .ok (.iload 4, 2) := by decide +kernel
theorem dX10_leanBy_25 : decode cX10_leanBy 25 = .ok (.iaload, 1) := by decide +kernel
theorem dX10_leanBy_26 : decode cX10_leanBy 26 = .ok (.aload_n 0, 1) := by decide +kernel
theorem dX10_leanBy_27 : decode cX10_leanBy 27 = .ok (.getfield 19, 3) := by decide +kernel
theorem dX10_leanBy_30 : decode cX10_leanBy 30 = .ok (.iload_n 2, 1) := by decide +kernel
theorem dX10_leanBy_31 : decode cX10_leanBy 31 = .ok (.iaload, 1) := by decide +kernel
theorem dX10_leanBy_32 : decode cX10_leanBy 32 = .ok (.if_icmp .le 11, 3) := by decide +kernel
theorem dX10_leanBy_35 : decode cX10_leanBy 35 = .ok (.iload 4, 2) := by decide +kernel
theorem dX10_leanBy_37 : decode cX10_leanBy 37 = .ok (.istore_n 2, 1) := by decide +kernel
theorem dX10_leanBy_38 : decode cX10_leanBy 38 = .ok (.iconst 1, 1) := by decide +kernel
theorem dX10_leanBy_39 : decode cX10_leanBy 39 = .ok (.istore_n 3, 1) := by decide +kernel
theorem dX10_leanBy_40 : decode cX10_leanBy 40 = .ok (.goto 21, 3) := by decide +kernel
theorem dX10_leanBy_43 : decode cX10_leanBy 43 = .ok (.aload_n 0, 1) := by decide +kernel
theorem dX10_leanBy_44 : decode cX10_leanBy 44 = .ok (.getfield 19, 3) := by decide +kernel
theorem dX10_leanBy_47 : decode cX10_leanBy 47 = .ok (.iload 4, 2) := by decide +kernel
theorem dX10_leanBy_49 : decode cX10_leanBy 49 = .ok (.iaload, 1) := by decide +kernel
theorem dX10_leanBy_50 : decode cX10_leanBy 50 = .ok (.aload_n 0, 1) := by decide +kernel
theorem dX10_leanBy_51 : decode cX10_leanBy 51 = .ok (.getfield 19, 3) := by decide +kernel
theorem dX10_leanBy_54 : decode cX10_leanBy 54 = .ok (.iload_n 2, 1) := by decide +kernel
theorem dX10_leanBy_55 : decode cX10_leanBy 55 = .ok (.iaload, 1) := by decide +kernel
theorem dX10_leanBy_56 : decode cX10_leanBy 56 = .ok (.if_icmp .ne 5, 3) := by decide +kernel
theorem dX10_leanBy_59 : decode cX10_leanBy 59 = .ok (.iconst 0, 1) := by decide +kernel
theorem dX10_leanBy_60 : decode cX10_leanBy 60 = .ok (.istore_n 3, 1) := by decide +kernel
theorem dX10_leanBy_61 : decode cX10_leanBy 61 = .ok (.iinc 4 1, 3) := by decide +kernel
theorem dX10_leanBy_64 : decode cX10_leanBy 64 = .ok (.goto (-57), 3) := by decide +kernel
theorem dX10_leanBy_67 : decode cX10_leanBy 67 = .ok (.iload_n 3, 1) := by decide +kernel
theorem dX10_leanBy_68 : decode cX10_leanBy 68 = .ok (.ifCond .eq 17, 3) := by decide +kernel
theorem dX10_leanBy_71 : decode cX10_leanBy 71 = .ok (.aload_n 0, 1) := by decide +kernel
theorem dX10_leanBy_72 : decode cX10_leanBy 72 = .ok (.getfield 19, 3) := by decide +kernel
theorem dX10_leanBy_75 : decode cX10_leanBy 75 = .ok (.iload_n 2, 1) := by decide +kernel
theorem dX10_leanBy_76 : decode cX10_leanBy 76 = .ok (.iaload, 1) := by decide +kernel
theorem dX10_leanBy_77 : decode cX10_leanBy 77 = .ok (.iload_n 1, 1) := by decide +kernel
theorem dX10_leanBy_78 : decode cX10_leanBy 78 = .ok (.if_icmp .lt 7, 3) := by decide +kernel
theorem dX10_leanBy_81 : decode cX10_leanBy 81 = .ok (.iload_n 2, 1) := by decide +kernel
theorem dX10_leanBy_82 : decode cX10_leanBy 82 = .ok (.goto 4, 3) := by decide +kernel
theorem dX10_leanBy_85 : decode cX10_leanBy 85 = .ok (.iconst (-1), 1) := by decide +kernel
theorem dX10_leanBy_86 : decode cX10_leanBy 86 = .ok (.ireturn, 1) := by decide +kernel
theorem dX10_tallyUp_0 : decode cX10_tallyUp 0 = .ok (.iconst 0, 1) := by decide +kernel
theorem dX10_tallyUp_1 : decode cX10_tallyUp 1 = .ok (.istore_n 2, 1) := by decide +kernel
theorem dX10_tallyUp_2 : decode cX10_tallyUp 2 = .ok (.iload_n 2, 1) := by decide +kernel
theorem dX10_tallyUp_3 : decode cX10_tallyUp 3 = .ok (.iconst 3, 1) := by decide +kernel
theorem dX10_tallyUp_4 : decode cX10_tallyUp 4 = .ok (.if_icmp .ge 16, 3) := by decide +kernel
theorem dX10_tallyUp_7 : decode cX10_tallyUp 7 = .ok (.aload_n 0, 1) := by decide +kernel
theorem dX10_tallyUp_8 : decode cX10_tallyUp 8 = .ok (.getfield 26, 3) := by decide +kernel
theorem dX10_tallyUp_11 : decode cX10_tallyUp 11 = .ok (.iload_n 2, 1) := by decide +kernel
theorem dX10_tallyUp_12 : decode cX10_tallyUp 12 = .ok (.iconst 0, 1) := by decide +kernel
theorem dX10_tallyUp_13 : decode cX10_tallyUp 13 = .ok (.iastore, 1) := by decide +kernel
theorem dX10_tallyUp_14 : decode cX10_tallyUp 14 = .ok (.iinc 2 1, 3) := by decide +kernel
theorem dX10_tallyUp_17 : decode cX10_tallyUp 17 = .ok (.goto (-15), 3) := by decide +kernel
theorem dX10_tallyUp_20 : decode cX10_tallyUp 20 = .ok (.iconst 0, 1) := by decide +kernel
theorem dX10_tallyUp_21 : decode cX10_tallyUp 21 = .ok (.istore_n 2, 1) := by decide +kernel
theorem dX10_tallyUp_22 : decode cX10_tallyUp 22 = .ok (.iload_n 2, 1) := by decide +kernel
theorem dX10_tallyUp_23 : decode cX10_tallyUp 23 = .ok (.aload_n 0, 1) := by decide +kernel
theorem dX10_tallyUp_24 : decode cX10_tallyUp 24 = .ok (.getfield 9, 3) := by decide +kernel
theorem dX10_tallyUp_27 : decode cX10_tallyUp 27 = .ok (.getfield 105, 3) := by decide +kernel
theorem dX10_tallyUp_30 : decode cX10_tallyUp 30 = .ok (.if_icmp .ge 84, 3) := by decide +kernel
theorem dX10_tallyUp_33 : decode cX10_tallyUp 33 = .ok (.iconst 0, 1) := by decide +kernel
theorem dX10_tallyUp_34 : decode cX10_tallyUp 34 = .ok (.istore_n 3, 1) := by decide +kernel
theorem dX10_tallyUp_35 : decode cX10_tallyUp 35 = .ok (.iload_n 3, 1) := by decide +kernel
theorem dX10_tallyUp_36 : decode cX10_tallyUp 36 = .ok (.aload_n 0, 1) := by decide +kernel
theorem dX10_tallyUp_37 : decode cX10_tallyUp 37 = .ok (.getfield 9, 3) := by decide +kernel
theorem dX10_tallyUp_40 : decode cX10_tallyUp 40 = .ok (.getfield 93, 3) := by decide +kernel
theorem dX10_tallyUp_43 : decode cX10_tallyUp 43 = .ok (.if_icmp .ge 22, 3) := by decide +kernel
theorem dX10_tallyUp_46 : decode cX10_tallyUp 46 = .ok (.aload_n 0, 1) := by decide +kernel
theorem dX10_tallyUp_47 : decode cX10_tallyUp 47 = .ok (.getfield 19, 3) := by decide +kernel
theorem dX10_tallyUp_50 : decode cX10_tallyUp 50 = .ok (.iload_n 3, 1) := by decide +kernel
theorem dX10_tallyUp_51 : decode cX10_tallyUp 51 = .ok (.aload_n 0, 1) := by decide +kernel
theorem dX10_tallyUp_52 : decode cX10_tallyUp 52 = .ok (.aload_n 1, 1) := by decide +kernel
theorem dX10_tallyUp_53 : decode cX10_tallyUp 53 = .ok (.iload_n 2, 1) := by decide +kernel
theorem dX10_tallyUp_54 : decode cX10_tallyUp 54 = .ok (.iload_n 3, 1) := by decide +kernel
theorem dX10_tallyUp_55 : decode cX10_tallyUp 55 = .ok (.invokevirtual 96, 3) := by decide +kernel
theorem dX10_tallyUp_58 : decode cX10_tallyUp 58 = .ok (.iastore, 1) := by decide +kernel
theorem dX10_tallyUp_59 : decode cX10_tallyUp 59 = .ok (.iinc 3 1, 3) := by decide +kernel
theorem dX10_tallyUp_62 : decode cX10_tallyUp 62 = .ok (.goto (-27), 3) := by decide +kernel
theorem dX10_tallyUp_65 : decode cX10_tallyUp 65 = .ok (.aload_n 0, 1) := by decide +kernel
theorem dX10_tallyUp_66 : decode cX10_tallyUp 66 = .ok (.getfield 23, 3) := by decide +kernel
theorem dX10_tallyUp_69 : decode cX10_tallyUp 69 = .ok (.iload_n 2, 1) := by decide +kernel
theorem dX10_tallyUp_70 : decode cX10_tallyUp 70 = .ok (.aload_n 0, 1) := by decide +kernel
theorem dX10_tallyUp_71 : decode cX10_tallyUp 71 = .ok (.aload_n 0, 1) := by decide +kernel
theorem dX10_tallyUp_72 : decode cX10_tallyUp 72 = .ok (.getfield 9, 3) := by decide +kernel
theorem dX10_tallyUp_75 : decode cX10_tallyUp 75 = .ok (.iload_n 2, 1) := by decide +kernel
theorem dX10_tallyUp_76 : decode cX10_tallyUp 76 = .ok (.invokevirtual 99, 3) := by decide +kernel
theorem dX10_tallyUp_79 : decode cX10_tallyUp 79 = .ok (.invokevirtual 102, 3) := by decide +kernel
theorem dX10_tallyUp_82 : decode cX10_tallyUp 82 = .ok (.iastore, 1) := by decide +kernel
theorem dX10_tallyUp_83 : decode cX10_tallyUp 83 = .ok (.aload_n 0, 1) := by decide +kernel
theorem dX10_tallyUp_84 : decode cX10_tallyUp 84 = .ok (.getfield 23, 3) := by decide +kernel
theorem dX10_tallyUp_87 : decode cX10_tallyUp 87 = .ok (.iload_n 2, 1) := by decide +kernel
theorem dX10_tallyUp_88 : decode cX10_tallyUp 88 = .ok (.iaload, 1) := by decide +kernel
theorem dX10_tallyUp_89 : decode cX10_tallyUp 89 = .ok (.iconst (-1), 1) := by decide +kernel
theorem dX10_tallyUp_90 : decode cX10_tallyUp 90 = .ok (.if_icmp .eq 18, 3) := by decide +kernel
theorem dX10_tallyUp_93 : decode cX10_tallyUp 93 = .ok (.aload_n 0, 1) := by decide +kernel
theorem dX10_tallyUp_94 : decode cX10_tallyUp 94 = .ok (.getfield 26, 3) := by decide +kernel
theorem dX10_tallyUp_97 : decode cX10_tallyUp 97 = .ok (.aload_n 0, 1) := by decide +kernel
theorem dX10_tallyUp_98 : decode cX10_tallyUp 98 = .ok (.getfield 23, 3) := by decide +kernel
theorem dX10_tallyUp_101 : decode cX10_tallyUp 101 = .ok (.iload_n 2, 1) := by decide +kernel
theorem dX10_tallyUp_102 : decode cX10_tallyUp 102 = .ok (.iaload, 1) := by decide +kernel
theorem dX10_tallyUp_103 : decode cX10_tallyUp 103 = .ok (.dup2, 1) := by decide +kernel
theorem dX10_tallyUp_104 : decode cX10_tallyUp 104 = .ok (.iaload, 1) := by decide +kernel
theorem dX10_tallyUp_105 : decode cX10_tallyUp 105 = .ok (.iconst 1, 1) := by decide +kernel
theorem dX10_tallyUp_106 : decode cX10_tallyUp 106 = .ok (.iadd, 1) := by decide +kernel
theorem dX10_tallyUp_107 : decode cX10_tallyUp 107 = .ok (.iastore, 1) := by decide +kernel
theorem dX10_tallyUp_108 : decode cX10_tallyUp 108 = .ok (.iinc 2 1, 3) := by decide +kernel
theorem dX10_tallyUp_111 : decode cX10_tallyUp 111 = .ok (.goto (-89), 3) := by decide +kernel
theorem dX10_tallyUp_114 : decode cX10_tallyUp 114 = .ok (.return_, 1) := by decide +kernel
theorem dX10_winner_0 : decode cX10_winner 0 = .ok (.iconst 0, 1) := by decide +kernel
theorem dX10_winner_1 : decode cX10_winner 1 = .ok (.istore_n 1, 1) := by decide +kernel
theorem dX10_winner_2 : decode cX10_winner 2 = .ok (.iconst (-1), 1) := by decide +kernel
theorem dX10_winner_3 : decode cX10_winner 3 = .ok (.istore_n 2, 1) := by decide +kernel
theorem dX10_winner_4 : decode cX10_winner 4 = .ok (.iconst 0, 1) := by decide +kernel
theorem dX10_winner_5 : decode cX10_winner 5 = .ok (.istore_n 3, 1) := by decide +kernel
theorem dX10_winner_6 : decode cX10_winner 6 = .ok (.iload_n 3, 1) := by decide +kernel
theorem dX10_winner_7 : decode cX10_winner 7 = .ok (.aload_n 0, 1) := by decide +kernel
theorem dX10_winner_8 : decode cX10_winner 8 = .ok (.getfield 9, 3) := by decide +kernel
theorem dX10_winner_11 : decode cX10_winner 11 = .ok (.getfield 93, 3) := by decide +kernel
theorem dX10_winner_14 : decode cX10_winner 14 = .ok (.if_icmp .ge 43, 3) := by decide +kernel
theorem dX10_winner_17 : decode cX10_winner 17 = .ok (.aload_n 0, 1) := by decide +kernel
theorem dX10_winner_18 : decode cX10_winner 18 = .ok (.getfield 26, 3) := by decide +kernel
theorem dX10_winner_21 : decode cX10_winner 21 = .ok (.iload_n 3, 1) := by decide +kernel
theorem dX10_winner_22 : decode cX10_winner 22 = .ok (.iaload, 1) := by decide +kernel
theorem dX10_winner_23 : decode cX10_winner 23 = .ok (.iload_n 1, 1) := by decide +kernel
theorem dX10_winner_24 : decode cX10_winner 24 = .ok (.if_icmp .le 15, 3) := by decide +kernel
theorem dX10_winner_27 : decode cX10_winner 27 = .ok (.aload_n 0, 1) := by decide +kernel
theorem dX10_winner_28 : decode cX10_winner 28 = .ok (.getfield 26, 3) := by decide +kernel
theorem dX10_winner_31 : decode cX10_winner 31 = .ok (.iload_n 3, 1) := by decide +kernel
theorem dX10_winner_32 : decode cX10_winner 32 = .ok (.iaload, 1) := by decide +kernel
theorem dX10_winner_33 : decode cX10_winner 33 = .ok (.istore_n 1, 1) := by decide +kernel
theorem dX10_winner_34 : decode cX10_winner 34 = .ok (.iload_n 3, 1) := by decide +kernel
theorem dX10_winner_35 : decode cX10_winner 35 = .ok (.istore_n 2, 1) := by decide +kernel
theorem dX10_winner_36 : decode cX10_winner 36 = .ok (.goto 15, 3) := by decide +kernel
theorem dX10_winner_39 : decode cX10_winner 39 = .ok (.aload_n 0, 1) := by decide +kernel
theorem dX10_winner_40 : decode cX10_winner 40 = .ok (.getfield 26, 3) := by decide +kernel
theorem dX10_winner_43 : decode cX10_winner 43 = .ok (.iload_n 3, 1) := by decide +kernel
theorem dX10_winner_44 : decode cX10_winner 44 = .ok (.iaload, 1) := by decide +kernel
theorem dX10_winner_45 : decode cX10_winner 45 = .ok (.iload_n 1, 1) := by decide +kernel
theorem dX10_winner_46 : decode cX10_winner 46 = .ok (.if_icmp .ne 5, 3) := by decide +kernel
theorem dX10_winner_49 : decode cX10_winner 49 = .ok (.iconst (-1), 1) := by decide +kernel
theorem dX10_winner_50 : decode cX10_winner 50 = .ok (.istore_n 2, 1) := by decide +kernel
theorem dX10_winner_51 : decode cX10_winner 51 = .ok (.iinc 3 1, 3) := by decide +kernel
theorem dX10_winner_54 : decode cX10_winner 54 = .ok (.goto (-48), 3) := by decide +kernel
theorem dX10_winner_57 : decode cX10_winner 57 = .ok (.iload_n 2, 1) := by decide +kernel
theorem dX10_winner_58 : decode cX10_winner 58 = .ok (.ireturn, 1) := by decide +kernel
theorem dX10_leaningTo_0 : decode cX10_leaningTo 0 = .ok (.iconst 0, 1) := by decide +kernel
theorem dX10_leaningTo_1 : decode cX10_leaningTo 1 = .ok (.istore_n 2, 1) := by decide +kernel
theorem dX10_leaningTo_2 : decode cX10_leaningTo 2 = .ok (.iconst 0, 1) := by decide +kernel
theorem dX10_leaningTo_3 : decode cX10_leaningTo 3 = .ok (.istore_n 3, 1) := by decide +kernel
theorem dX10_leaningTo_4 : decode cX10_leaningTo 4 = .ok (.iload_n 3, 1) := by decide +kernel
theorem dX10_leaningTo_5 : decode cX10_leaningTo 5 = .ok (.aload_n 0, 1) := by decide +kernel
theorem dX10_leaningTo_6 : decode cX10_leaningTo 6 = .ok (.getfield 9, 3) := by decide +kernel
theorem dX10_leaningTo_9 : decode cX10_leaningTo 9 = .ok (.getfield 105, 3) := by decide +kernel
theorem dX10_leaningTo_12 : decode cX10_leaningTo 12 = .ok (.if_icmp .ge 25, 3) := by decide +kernel
theorem dX10_leaningTo_15 : decode cX10_leaningTo 15 = .ok (.aload_n 0, 1) := by decide +kernel
theorem dX10_leaningTo_16 : decode cX10_leaningTo 16 = .ok (.getfield 23, 3) := by decide +kernel
theorem dX10_leaningTo_19 : decode cX10_leaningTo 19 = .ok (.iload_n 3, 1) := by decide +kernel
theorem dX10_leaningTo_20 : decode cX10_leaningTo 20 = .ok (.iaload, 1) := by decide +kernel
theorem dX10_leaningTo_21 : decode cX10_leaningTo 21 = .ok (.iload_n 1, 1) := by decide +kernel
theorem dX10_leaningTo_22 : decode cX10_leaningTo 22 = .ok (.if_icmp .ne 9, 3) := by decide +kernel
theorem dX10_leaningTo_25 : decode cX10_leaningTo 25 = .ok (.iload_n 2, 1) := by decide +kernel
theorem dX10_leaningTo_26 : decode cX10_leaningTo 26 = .ok (.iconst 1, 1) := by decide +kernel
theorem dX10_leaningTo_27 : decode cX10_leaningTo 27 = .ok (.iload_n 3, 1) := by decide +kernel
theorem dX10_leaningTo_28 : decode cX10_leaningTo 28 = .ok (.ishl, 1) := by decide +kernel
theorem dX10_leaningTo_29 : decode cX10_leaningTo 29 = .ok (.ior, 1) := by decide +kernel
theorem dX10_leaningTo_30 : decode cX10_leaningTo 30 = .ok (.istore_n 2, 1) := by decide +kernel
theorem dX10_leaningTo_31 : decode cX10_leaningTo 31 = .ok (.iinc 3 1, 3) := by decide +kernel
theorem dX10_leaningTo_34 : decode cX10_leaningTo 34 = .ok (.goto (-30), 3) := by decide +kernel
theorem dX10_leaningTo_37 : decode cX10_leaningTo 37 = .ok (.iload_n 2, 1) := by decide +kernel
theorem dX10_leaningTo_38 : decode cX10_leaningTo 38 = .ok (.ireturn, 1) := by decide +kernel
theorem dX10_leaningBits_0 : decode cX10_leaningBits 0 = .ok (.iconst 1, 1) := by decide +kernel
theorem dX10_leaningBits_1 : decode cX10_leaningBits 1 = .ok (.aload_n 0, 1) := by decide +kernel
theorem dX10_leaningBits_2 : decode cX10_leaningBits 2 = .ok (.getfield 9, 3) := by decide +kernel
theorem dX10_leaningBits_5 : decode cX10_leaningBits 5 = .ok (.getfield 105, 3) := by decide +kernel
theorem dX10_leaningBits_8 : decode cX10_leaningBits 8 = .ok (.ishl, 1) := by decide +kernel
theorem dX10_leaningBits_9 : decode cX10_leaningBits 9 = .ok (.iconst 1, 1) := by decide +kernel
theorem dX10_leaningBits_10 : decode cX10_leaningBits 10 = .ok (.isub, 1) := by decide +kernel
theorem dX10_leaningBits_11 : decode cX10_leaningBits 11 = .ok (.aload_n 0, 1) := by decide +kernel
theorem dX10_leaningBits_12 : decode cX10_leaningBits 12 = .ok (.iconst (-1), 1) := by decide +kernel
theorem dX10_leaningBits_13 : decode cX10_leaningBits 13 = .ok (.invokevirtual 108, 3) := by decide +kernel
theorem dX10_leaningBits_16 : decode cX10_leaningBits 16 = .ok (.iconst (-1), 1) := by decide +kernel
theorem dX10_leaningBits_17 : decode cX10_leaningBits 17 = .ok (.ixor, 1) := by decide +kernel
theorem dX10_leaningBits_18 : decode cX10_leaningBits 18 = .ok (.iand, 1) := by decide +kernel
theorem dX10_leaningBits_19 : decode cX10_leaningBits 19 = .ok (.ireturn, 1) := by decide +kernel
theorem dX10_gapOf_0 : decode cX10_gapOf 0 = .ok (.aload_n 0, 1) := by decide +kernel
theorem dX10_gapOf_1 : decode cX10_gapOf 1 = .ok (.aload_n 1, 1) := by decide +kernel
theorem dX10_gapOf_2 : decode cX10_gapOf 2 = .ok (.invokevirtual 111, 3) := by decide +kernel
theorem dX10_gapOf_5 : decode cX10_gapOf 5 = .ok (.aload_n 0, 1) := by decide +kernel
theorem dX10_gapOf_6 : decode cX10_gapOf 6 = .ok (.getfield 26, 3) := by decide +kernel
theorem dX10_gapOf_9 : decode cX10_gapOf 9 = .ok (.iconst 0, 1) := by decide +kernel
theorem dX10_gapOf_10 : decode cX10_gapOf 10 = .ok (.iaload, 1) := by decide +kernel
theorem dX10_gapOf_11 : decode cX10_gapOf 11 = .ok (.aload_n 0, 1) := by decide +kernel
theorem dX10_gapOf_12 : decode cX10_gapOf 12 = .ok (.getfield 26, 3) := by decide +kernel
theorem dX10_gapOf_15 : decode cX10_gapOf 15 = .ok (.iconst 1, 1) := by decide +kernel
theorem dX10_gapOf_16 : decode cX10_gapOf 16 = .ok (.iaload, 1) := by decide +kernel
theorem dX10_gapOf_17 : decode cX10_gapOf 17 = .ok (.isub, 1) := by decide +kernel
theorem dX10_gapOf_18 : decode cX10_gapOf 18 = .ok (.invokestatic 115, 3) := by decide +kernel
theorem dX10_gapOf_21 : decode cX10_gapOf 21 = .ok (.ireturn, 1) := by decide +kernel
theorem dX10_passHour_0 : decode cX10_passHour 0 = .ok (.iconst 0, 1) := by decide +kernel
theorem dX10_passHour_1 : decode cX10_passHour 1 = .ok (.istore_n 2, 1) := by decide +kernel
theorem dX10_passHour_2 : decode cX10_passHour 2 = .ok (.iload_n 2, 1) := by decide +kernel
theorem dX10_passHour_3 : decode cX10_passHour 3 = .ok (.aload_n 0, 1) := by decide +kernel
theorem dX10_passHour_4 : decode cX10_passHour 4 = .ok (.getfield 9, 3) := by decide +kernel
theorem dX10_passHour_7 : decode cX10_passHour 7 = .ok (.getfield 93, 3) := by decide +kernel
theorem dX10_passHour_10 : decode cX10_passHour 10 = .ok (.if_icmp .ge 22, 3) := by decide +kernel
theorem dX10_passHour_13 : decode cX10_passHour 13 = .ok (.aload_n 1, 1) := by decide +kernel
theorem dX10_passHour_14 : decode cX10_passHour 14 = .ok (.iload_n 2, 1) := by decide +kernel
theorem dX10_passHour_15 : decode cX10_passHour 15 = .ok (.aload_n 0, 1) := by decide +kernel
theorem dX10_passHour_16 : decode cX10_passHour 16 = .ok (.getfield 9, 3) := by decide +kernel
theorem dX10_passHour_19 : decode cX10_passHour 19 = .ok (.iload_n 2, 1) := by decide +kernel
theorem dX10_passHour_20 : decode cX10_passHour 20 = .ok (.invokevirtual 120, 3) := by decide +kernel
theorem dX10_passHour_23 : decode cX10_passHour 23 = .ok (.invokevirtual 123, 3) := by decide +kernel
theorem dX10_passHour_26 : decode cX10_passHour 26 = .ok (.iinc 2 1, 3) := by decide +kernel
theorem dX10_passHour_29 : decode cX10_passHour 29 = .ok (.goto (-27), 3) := by decide +kernel
theorem dX10_passHour_32 : decode cX10_passHour 32 = .ok (.aload_n 1, 1) := by decide +kernel
theorem dX10_passHour_33 : decode cX10_passHour 33 = .ok (.dup, 1) := by decide +kernel
theorem dX10_passHour_34 : decode cX10_passHour 34 = .ok (.getfield 60, 3) := by decide +kernel
theorem dX10_passHour_37 : decode cX10_passHour 37 = .ok (.iconst 1, 1) := by decide +kernel
theorem dX10_passHour_38 : decode cX10_passHour 38 = .ok (.iadd, 1) := by decide +kernel
theorem dX10_passHour_39 : decode cX10_passHour 39 = .ok (.putfield 60, 3) := by decide +kernel
theorem dX10_passHour_42 : decode cX10_passHour 42 = .ok (.aload_n 0, 1) := by decide +kernel
theorem dX10_passHour_43 : decode cX10_passHour 43 = .ok (.aload_n 1, 1) := by decide +kernel
theorem dX10_passHour_44 : decode cX10_passHour 44 = .ok (.invokevirtual 111, 3) := by decide +kernel
theorem dX10_passHour_47 : decode cX10_passHour 47 = .ok (.aload_n 0, 1) := by decide +kernel
theorem dX10_passHour_48 : decode cX10_passHour 48 = .ok (.getfield 9, 3) := by decide +kernel
theorem dX10_passHour_51 : decode cX10_passHour 51 = .ok (.invokevirtual 127, 3) := by decide +kernel
theorem dX10_passHour_54 : decode cX10_passHour 54 = .ok (.istore_n 2, 1) := by decide +kernel
theorem dX10_passHour_55 : decode cX10_passHour 55 = .ok (.iload_n 2, 1) := by decide +kernel
theorem dX10_passHour_56 : decode cX10_passHour 56 = .ok (.ifCond .le 17, 3) := by decide +kernel
theorem dX10_passHour_59 : decode cX10_passHour 59 = .ok (.aload_n 1, 1) := by decide +kernel
theorem dX10_passHour_60 : decode cX10_passHour 60 = .ok (.getfield 60, 3) := by decide +kernel
theorem dX10_passHour_63 : decode cX10_passHour 63 = .ok (.iload_n 2, 1) := by decide +kernel
theorem dX10_passHour_64 : decode cX10_passHour 64 = .ok (.irem, 1) := by decide +kernel
theorem dX10_passHour_65 : decode cX10_passHour 65 = .ok (.ifCond .ne 8, 3) := by decide +kernel
theorem dX10_passHour_68 : decode cX10_passHour 68 = .ok (.aload_n 0, 1) := by decide +kernel
theorem dX10_passHour_69 : decode cX10_passHour 69 = .ok (.aload_n 1, 1) := by decide +kernel
theorem dX10_passHour_70 : decode cX10_passHour 70 = .ok (.invokevirtual 130, 3) := by decide +kernel
theorem dX10_passHour_73 : decode cX10_passHour 73 = .ok (.return_, 1) := by decide +kernel
theorem dX10_holdCount_0 : decode cX10_holdCount 0 = .ok (.aload_n 0, 1) := by decide +kernel
theorem dX10_holdCount_1 : decode cX10_holdCount 1 = .ok (.invokevirtual 133, 3) := by decide +kernel
theorem dX10_holdCount_4 : decode cX10_holdCount 4 = .ok (.istore_n 2, 1) := by decide +kernel
theorem dX10_holdCount_5 : decode cX10_holdCount 5 = .ok (.iload_n 2, 1) := by decide +kernel
theorem dX10_holdCount_6 : decode cX10_holdCount 6 = .ok (.iconst (-1), 1) := by decide +kernel
theorem dX10_holdCount_7 : decode cX10_holdCount 7 = .ok (.if_icmp .eq 13, 3) := by decide +kernel
theorem dX10_holdCount_10 : decode cX10_holdCount 10 = .ok (.aload_n 1, 1) := by decide +kernel
theorem dX10_holdCount_11 : decode cX10_holdCount 11 = .ok (.getfield 136, 3) := by decide +kernel
theorem dX10_holdCount_14 : decode cX10_holdCount 14 = .ok (.iload_n 2, 1) := by decide +kernel
theorem dX10_holdCount_15 : decode cX10_holdCount 15 = .ok (.dup2, 1) := by decide +kernel
theorem dX10_holdCount_16 : decode cX10_holdCount 16 = .ok (.iaload, 1) := by decide +kernel
theorem dX10_holdCount_17 : decode cX10_holdCount 17 = .ok (.iconst 1, 1) := by decide +kernel
theorem dX10_holdCount_18 : decode cX10_holdCount 18 = .ok (.iadd, 1) := by decide +kernel
theorem dX10_holdCount_19 : decode cX10_holdCount 19 = .ok (.iastore, 1) := by decide +kernel
theorem dX10_holdCount_20 : decode cX10_holdCount 20 = .ok (.iconst 0, 1) := by decide +kernel
theorem dX10_holdCount_21 : decode cX10_holdCount 21 = .ok (.istore_n 3, 1) := by decide +kernel
theorem dX10_holdCount_22 : decode cX10_holdCount 22 = .ok (.iload_n 3, 1) := by decide +kernel
theorem dX10_holdCount_23 : decode cX10_holdCount 23 = .ok (.aload_n 0, 1) := by decide +kernel
theorem dX10_holdCount_24 : decode cX10_holdCount 24 = .ok (.getfield 9, 3) := by decide +kernel
theorem dX10_holdCount_27 : decode cX10_holdCount 27 = .ok (.getfield 105, 3) := by decide +kernel
theorem dX10_holdCount_30 : decode cX10_holdCount 30 = .ok (.if_icmp .ge 77, 3) := by decide +kernel
theorem dX10_holdCount_33 : decode cX10_holdCount 33 = .ok (.aload_n 0, 1) := by decide +kernel
theorem dX10_holdCount_34 : decode cX10_holdCount 34 = .ok (.getfield 23, 3) := by decide +kernel
theorem dX10_holdCount_37 : decode cX10_holdCount 37 = .ok (.iload_n 3, 1) := by decide +kernel
theorem dX10_holdCount_38 : decode cX10_holdCount 38 = .ok (.iaload, 1) := by decide +kernel
theorem dX10_holdCount_39 : decode cX10_holdCount 39 = .ok (.istore 4, 2) := by decide +kernel
theorem dX10_holdCount_41 : decode cX10_holdCount 41 = .ok (.iload 4, 2) := by decide +kernel
theorem dX10_holdCount_43 : decode cX10_holdCount 43 = .ok (.iconst (-1), 1) := by decide +kernel
theorem dX10_holdCount_44 : decode cX10_holdCount 44 = .ok (.if_icmp .eq 36, 3) := by decide +kernel
theorem dX10_holdCount_47 : decode cX10_holdCount 47 = .ok (.iload 4, 2) := by decide +kernel
theorem dX10_holdCount_49 : decode cX10_holdCount 49 = .ok (.aload_n 1, 1) := by decide +kernel
theorem dX10_holdCount_50 : decode cX10_holdCount 50 = .ok (.getfield 70, 3) := by decide +kernel
theorem dX10_holdCount_53 : decode cX10_holdCount 53 = .ok (.iload_n 3, 1) := by decide +kernel
theorem dX10_holdCount_54 : decode cX10_holdCount 54 = .ok (.iaload, 1) := by decide +kernel
theorem dX10_holdCount_55 : decode cX10_holdCount 55 = .ok (.if_icmp .ne 25, 3) := by decide +kernel
theorem dX10_holdCount_58 : decode cX10_holdCount 58 = .ok (.aload_n 1, 1) := by decide +kernel
theorem dX10_holdCount_59 : decode cX10_holdCount 59 = .ok (.getfield 73, 3) := by decide +kernel
theorem dX10_holdCount_62 : decode cX10_holdCount 62 = .ok (.iload_n 3, 1) := by decide +kernel
theorem dX10_holdCount_63 : decode cX10_holdCount 63 = .ok (.aload_n 1, 1) := by decide +kernel
theorem dX10_holdCount_64 : decode cX10_holdCount 64 = .ok (.getfield 73, 3) := by decide +kernel
theorem dX10_holdCount_67 : decode cX10_holdCount 67 = .ok (.iload_n 3, 1) := by decide +kernel
theorem dX10_holdCount_68 : decode cX10_holdCount 68 = .ok (.iaload, 1) := by decide +kernel
theorem dX10_holdCount_69 : decode cX10_holdCount 69 = .ok (.iconst 1, 1) := by decide +kernel
theorem dX10_holdCount_70 : decode cX10_holdCount 70 = .ok (.iadd, 1) := by decide +kernel
theorem dX10_holdCount_71 : decode cX10_holdCount 71 = .ok (.bipush 9, 2) := by decide +kernel
theorem dX10_holdCount_73 : decode cX10_holdCount 73 = .ok (.invokestatic 139, 3) := by decide +kernel
theorem dX10_holdCount_76 : decode cX10_holdCount 76 = .ok (.iastore, 1) := by decide +kernel
theorem dX10_holdCount_77 : decode cX10_holdCount 77 = .ok (.goto 24, 3) := by decide +kernel
theorem dX10_holdCount_80 : decode cX10_holdCount 80 = .ok (.iload 4, 2) := by decide +kernel
theorem dX10_holdCount_82 : decode cX10_holdCount 82 = .ok (.iconst (-1), 1) := by decide +kernel
theorem dX10_holdCount_83 : decode cX10_holdCount 83 = .ok (.if_icmp .eq 18, 3) := by decide +kernel
theorem dX10_holdCount_86 : decode cX10_holdCount 86 = .ok (.aload_n 1, 1) := by decide +kernel
theorem dX10_holdCount_87 : decode cX10_holdCount 87 = .ok (.getfield 70, 3) := by decide +kernel
theorem dX10_holdCount_90 : decode cX10_holdCount 90 = .ok (.iload_n 3, 1) := by decide +kernel
theorem dX10_holdCount_91 : decode cX10_holdCount 91 = .ok (.iload 4, 2) := by decide +kernel
theorem dX10_holdCount_93 : decode cX10_holdCount 93 = .ok (.iastore, 1) := by decide +kernel
theorem dX10_holdCount_94 : decode cX10_holdCount 94 = .ok (.aload_n 1, 1) := by decide +kernel
theorem dX10_holdCount_95 : decode cX10_holdCount 95 = .ok (.getfield 73, 3) := by decide +kernel
theorem dX10_holdCount_98 : decode cX10_holdCount 98 = .ok (.iload_n 3, 1) := by decide +kernel
theorem dX10_holdCount_99 : decode cX10_holdCount 99 = .ok (.iconst 1, 1) := by decide +kernel
theorem dX10_holdCount_100 : decode cX10_holdCount 100 = .ok (.iastore, 1) := by decide +kernel
theorem dX10_holdCount_101 : decode cX10_holdCount 101 = .ok (.iinc 3 1, 3) := by decide +kernel
theorem dX10_holdCount_104 : decode cX10_holdCount 104 = .ok (.goto (-82), 3) := by decide +kernel
theorem dX10_holdCount_107 : decode cX10_holdCount 107 = .ok (.return_, 1) := by decide +kernel
theorem dX10_barOf_0 : decode cX10_barOf 0 = .ok (.aload_n 0, 1) := by decide +kernel
theorem dX10_barOf_1 : decode cX10_barOf 1 = .ok (.getfield 9, 3) := by decide +kernel
theorem dX10_barOf_4 : decode cX10_barOf 4 = .ok (.iload_n 2, 1) := by decide +kernel
theorem dX10_barOf_5 : decode cX10_barOf 5 = .ok (.invokevirtual 99, 3) := by decide +kernel
theorem dX10_barOf_8 : decode cX10_barOf 8 = .ok (.istore 4, 2) := by decide +kernel
theorem dX10_barOf_10 : decode cX10_barOf 10 = .ok (.iconst 0, 1) := by decide +kernel
theorem dX10_barOf_11 : decode cX10_barOf 11 = .ok (.istore 5, 2) := by decide +kernel
theorem dX10_barOf_13 : decode cX10_barOf 13 = .ok (.iload 5, 2) := by decide +kernel
theorem dX10_barOf_15 : decode cX10_barOf 15 = .ok (.aload_n 0, 1) := by decide +kernel
theorem dX10_barOf_16 : decode cX10_barOf 16 = .ok (.getfield 9, 3) := by decide +kernel
theorem dX10_barOf_19 : decode cX10_barOf 19 = .ok (.getfield 93, 3) := by decide +kernel
theorem dX10_barOf_22 : decode cX10_barOf 22 = .ok (.if_icmp .ge 32, 3) := by decide +kernel
theorem dX10_barOf_25 : decode cX10_barOf 25 = .ok (.iload 5, 2) := by decide +kernel
theorem dX10_barOf_27 : decode cX10_barOf 27 = .ok (.iload_n 3, 1) := by decide +kernel
theorem dX10_barOf_28 : decode cX10_barOf 28 = .ok (.if_icmp .eq 20, 3) := by decide +kernel
theorem dX10_barOf_31 : decode cX10_barOf 31 = .ok (.iload 4, 2) := by decide +kernel
theorem dX10_barOf_33 : decode cX10_barOf 33 = .ok (.aload_n 0, 1) := by decide +kernel
theorem dX10_barOf_34 : decode cX10_barOf 34 = .ok (.aload_n 1, 1) := by decide +kernel
theorem dX10_barOf_35 : decode cX10_barOf 35 = .ok (.iload_n 2, 1) := by decide +kernel
theorem dX10_barOf_36 : decode cX10_barOf 36 = .ok (.iload 5, 2) := by decide +kernel
theorem dX10_barOf_38 : decode cX10_barOf 38 = .ok (.invokevirtual 96, 3) := by decide +kernel
theorem dX10_barOf_41 : decode cX10_barOf 41 = .ok (.iconst 1, 1) := by decide +kernel
theorem dX10_barOf_42 : decode cX10_barOf 42 = .ok (.iadd, 1) := by decide +kernel
theorem dX10_barOf_43 : decode cX10_barOf 43 = .ok (.invokestatic 143, 3) := by decide +kernel
theorem dX10_barOf_46 : decode cX10_barOf 46 = .ok (.istore 4, 2) := by decide +kernel
theorem dX10_barOf_48 : decode cX10_barOf 48 = .ok (.iinc 5 1, 3) := by decide +kernel
theorem dX10_barOf_51 : decode cX10_barOf 51 = .ok (.goto (-38), 3) := by decide +kernel
theorem dX10_barOf_54 : decode cX10_barOf 54 = .ok (.iload 4, 2) := by decide +kernel
theorem dX10_barOf_56 : decode cX10_barOf 56 = .ok (.ireturn, 1) := by decide +kernel
theorem dX10_setBars_0 : decode cX10_setBars 0 = .ok (.iconst 0, 1) := by decide +kernel
theorem dX10_setBars_1 : decode cX10_setBars 1 = .ok (.istore_n 3, 1) := by decide +kernel
theorem dX10_setBars_2 : decode cX10_setBars 2 = .ok (.iload_n 3, 1) := by decide +kernel
theorem dX10_setBars_3 : decode cX10_setBars 3 = .ok (.aload_n 0, 1) := by decide +kernel
theorem dX10_setBars_4 : decode cX10_setBars 4 = .ok (.getfield 9, 3) := by decide +kernel
theorem dX10_setBars_7 : decode cX10_setBars 7 = .ok (.getfield 105, 3) := by decide +kernel
theorem dX10_setBars_10 : decode cX10_setBars 10 = .ok (.if_icmp .ge 22, 3) := by decide +kernel
theorem dX10_setBars_13 : decode cX10_setBars 13 = .ok (.aload_n 0, 1) := by decide +kernel
theorem dX10_setBars_14 : decode cX10_setBars 14 = .ok (.getfield 29, 3) := by decide +kernel
theorem dX10_setBars_17 : decode cX10_setBars 17 = .ok (.iload_n 3, 1) := by decide +kernel
theorem dX10_setBars_18 : decode cX10_setBars 18 = .ok (.aload_n 0, 1) := by decide +kernel
theorem dX10_setBars_19 : decode cX10_setBars 19 = .ok (.aload_n 1, 1) := by decide +kernel
theorem dX10_setBars_20 : decode cX10_setBars 20 = .ok (.iload_n 3, 1) := by decide +kernel
theorem dX10_setBars_21 : decode cX10_setBars 21 = .ok (.iload_n 2, 1) := by decide +kernel
theorem dX10_setBars_22 : decode cX10_setBars 22 = .ok (.invokevirtual 146, 3) := by decide +kernel
theorem dX10_setBars_25 : decode cX10_setBars 25 = .ok (.iastore, 1) := by decide +kernel
theorem dX10_setBars_26 : decode cX10_setBars 26 = .ok (.iinc 3 1, 3) := by decide +kernel
theorem dX10_setBars_29 : decode cX10_setBars 29 = .ok (.goto (-27), 3) := by decide +kernel
theorem dX10_setBars_32 : decode cX10_setBars 32 = .ok (.return_, 1) := by decide +kernel
theorem dX10_overBars_0 : decode cX10_overBars 0 = .ok (.iconst 0, 1) := by decide +kernel
theorem dX10_overBars_1 : decode cX10_overBars 1 = .ok (.istore_n 3, 1) := by decide +kernel
theorem dX10_overBars_2 : decode cX10_overBars 2 = .ok (.iconst 0, 1) := by decide +kernel
theorem dX10_overBars_3 : decode cX10_overBars 3 = .ok (.istore 4, 2) := by decide +kernel
theorem dX10_overBars_5 : decode cX10_overBars 5 = .ok (.iload 4, 2) := by decide +kernel
theorem dX10_overBars_7 : decode cX10_overBars 7 = .ok (.aload_n 0, 1) := by decide +kernel
theorem dX10_overBars_8 : decode cX10_overBars 8 = .ok (.getfield 9, 3) := by decide +kernel
theorem dX10_overBars_11 : decode cX10_overBars 11 = .ok (.getfield 105, 3) := by decide +kernel
theorem dX10_overBars_14 : decode cX10_overBars 14 = .ok (.if_icmp .ge 30, 3) := by decide +kernel
theorem dX10_overBars_17 : decode cX10_overBars 17 = .ok (.aload_n 0, 1) := by decide +kernel
theorem dX10_overBars_18 : decode cX10_overBars 18 = .ok (.aload_n 1, 1) := by decide +kernel
theorem dX10_overBars_19 : decode cX10_overBars 19 = .ok (.iload 4, 2) := by decide +kernel
theorem dX10_overBars_21 : decode cX10_overBars 21 = .ok (.iload_n 2, 1) := by decide +kernel
theorem dX10_overBars_22 : decode cX10_overBars 22 = .ok (.invokevirtual 96, 3) := by decide +kernel
theorem dX10_overBars_25 : decode cX10_overBars 25 = .ok (.aload_n 0, 1) := by decide +kernel
theorem dX10_overBars_26 : decode cX10_overBars 26 = .ok (.getfield 29, 3) := by decide +kernel
theorem dX10_overBars_29 : decode cX10_overBars 29 = .ok (.iload 4, 2) := by decide +kernel
theorem dX10_overBars_31 : decode cX10_overBars 31 = .ok (.iaload, 1) := by decide +kernel
theorem dX10_overBars_32 : decode cX10_overBars 32 = .ok (.if_icmp .lt 6, 3) := by decide +kernel
theorem dX10_overBars_35 : decode cX10_overBars 35 = .ok (.iinc 3 1, 3) := by decide +kernel
theorem dX10_overBars_38 : decode cX10_overBars 38 = .ok (.iinc 4 1, 3) := by decide +kernel
theorem dX10_overBars_41 : decode cX10_overBars 41 = .ok (.goto (-36), 3) := by decide +kernel
theorem dX10_overBars_44 : decode cX10_overBars 44 = .ok (.iload_n 3, 1) := by decide +kernel
theorem dX10_overBars_45 : decode cX10_overBars 45 = .ok (.ireturn, 1) := by decide +kernel
theorem dX11_init_0 : decode cX11_init 0 = .ok (.aload_n 0, 1) := by decide +kernel
theorem dX11_init_1 : decode cX11_init 1 = .ok (.invokespecial 1, 3) := by decide +kernel
theorem dX11_init_4 : decode cX11_init 4 = .ok (.aload_n 0, 1) := by decide +kernel
theorem dX11_init_5 : decode cX11_init 5 = .ok (.new 7, 3) := by decide +kernel
theorem dX11_init_8 : decode cX11_init 8 = .ok (.dup, 1) := by decide +kernel
theorem dX11_init_9 : decode cX11_init 9 = .ok (.invokespecial 9, 3) := by decide +kernel
theorem dX11_init_12 : decode cX11_init 12 = .ok (.putfield 10, 3) := by decide +kernel
theorem dX11_init_15 : decode cX11_init 15 = .ok (.aload_n 0, 1) := by decide +kernel
theorem dX11_init_16 : decode cX11_init 16 = .ok (.new 16, 3) := by decide +kernel
theorem dX11_init_19 : decode cX11_init 19 = .ok (.dup, 1) := by decide +kernel
theorem dX11_init_20 : decode cX11_init 20 = .ok (.invokespecial 18, 3) := by decide +kernel
theorem dX11_init_23 : decode cX11_init 23 = .ok (.putfield 19, 3) := by decide +kernel
theorem dX11_init_26 : decode cX11_init 26 = .ok (.aload_n 0, 1) := by decide +kernel
theorem dX11_init_27 : decode cX11_init 27 = .ok (.new 16, 3) := by decide +kernel
theorem dX11_init_30 : decode cX11_init 30 = .ok (.dup, 1) := by decide +kernel
theorem dX11_init_31 : decode cX11_init 31 = .ok (.invokespecial 18, 3) := by decide +kernel
theorem dX11_init_34 : decode cX11_init 34 = .ok (.putfield 23, 3) := by decide +kernel
theorem dX11_init_37 : decode cX11_init 37 = .ok (.aload_n 0, 1) := by decide +kernel
theorem dX11_init_38 : decode cX11_init 38 = .ok (.new 26, 3) := by decide +kernel
theorem dX11_init_41 : decode cX11_init 41 = .ok (.dup, 1) := by decide +kernel
theorem dX11_init_42 : decode cX11_init 42 = .ok (.invokespecial 28, 3) := by decide +kernel
theorem dX11_init_45 : decode cX11_init 45 = .ok (.putfield 29, 3) := by decide +kernel
theorem dX11_init_48 : decode cX11_init 48 = .ok (.aload_n 0, 1) := by decide +kernel
theorem dX11_init_49 : decode cX11_init 49 = .ok (.iconst 5, 1) := by decide +kernel
theorem dX11_init_50 : decode cX11_init 50 = .ok (.anewarray 33, 3) := by decide +kernel
theorem dX11_init_53 : decode cX11_init 53 = .ok (.putfield 35, 3) := by decide +kernel
theorem dX11_init_56 : decode cX11_init 56 = .ok (.iconst 0, 1) := by decide +kernel
theorem dX11_init_57 : decode cX11_init 57 = .ok (.istore_n 1, 1) := by decide +kernel
theorem dX11_init_58 : decode cX11_init 58 = .ok (.iload_n 1, 1) := by decide +kernel
theorem dX11_init_59 : decode cX11_init 59 = .ok (.aload_n 0, 1) := by decide +kernel
theorem dX11_init_60 : decode cX11_init 60 = .ok (.getfield 35, 3) := by decide +kernel
theorem dX11_init_63 : decode cX11_init 63 = .ok (.arraylength, 1) := by decide +kernel
theorem dX11_init_64 : decode cX11_init 64 = .ok (.if_icmp .ge 22, 3) := by decide +kernel
theorem dX11_init_67 : decode cX11_init 67 = .ok (.aload_n 0, 1) := by decide +kernel
theorem dX11_init_68 : decode cX11_init 68 = .ok (.getfield 35, 3) := by decide +kernel
theorem dX11_init_71 : decode cX11_init 71 = .ok (.iload_n 1, 1) := by decide +kernel
theorem dX11_init_72 : decode cX11_init 72 = .ok (.new 33, 3) := by decide +kernel
theorem dX11_init_75 : decode cX11_init 75 = .ok (.dup, 1) := by decide +kernel
theorem dX11_init_76 : decode cX11_init 76 = .ok (.invokespecial 39, 3) := by decide +kernel
theorem dX11_init_79 : decode cX11_init 79 = .ok (.aastore, 1) := by decide +kernel
theorem dX11_init_80 : decode cX11_init 80 = .ok (.iinc 1 1, 3) := by decide +kernel
theorem dX11_init_83 : decode cX11_init 83 = .ok (.goto (-25), 3) := by decide +kernel
theorem dX11_init_86 : decode cX11_init 86 = .ok (.aload_n 0, 1) := by decide +kernel
theorem dX11_init_87 : decode cX11_init 87 = .ok (.new 40, 3) := by decide +kernel
theorem dX11_init_90 : decode cX11_init 90 = .ok (.dup, 1) := by decide +kernel
theorem dX11_init_91 : decode cX11_init 91 = .ok (.aload_n 0, 1) := by decide +kernel
theorem dX11_init_92 : decode cX11_init 92 = .ok (.getfield 19, 3) := by decide +kernel
theorem dX11_init_95 : decode cX11_init 95 = .ok (.aload_n 0, 1) := by decide +kernel
theorem dX11_init_96 : decode cX11_init 96 = .ok (.getfield 29, 3) := by decide +kernel
theorem dX11_init_99 : decode cX11_init 99 = .ok (.invokespecial 42, 3) := by decide +kernel
theorem dX11_init_102 : decode cX11_init 102 = .ok (.putfield 45, 3) := by decide +kernel
theorem dX11_init_105 : decode cX11_init 105 = .ok (.aload_n 0, 1) := by decide +kernel
theorem dX11_init_106 : decode cX11_init 106 = .ok (.new 49, 3) := by decide +kernel
theorem dX11_init_109 : decode cX11_init 109 = .ok (.dup, 1) := by decide +kernel
theorem dX11_init_110 : decode cX11_init 110 = .ok (.invokespecial 51, 3) := by decide +kernel
theorem dX11_init_113 : decode cX11_init 113 = .ok (.putfield 52, 3) := by decide +kernel
theorem dX11_init_116 : decode cX11_init 116 = .ok (.aload_n 0, 1) := by decide +kernel
theorem dX11_init_117 : decode cX11_init 117 = .ok (.new 49, 3) := by decide +kernel
theorem dX11_init_120 : decode cX11_init 120 = .ok (.dup, 1) := by decide +kernel
theorem dX11_init_121 : decode cX11_init 121 = .ok (.invokespecial 51, 3) := by decide +kernel
theorem dX11_init_124 : decode cX11_init 124 = .ok (.putfield 56, 3) := by decide +kernel
theorem dX11_init_127 : decode cX11_init 127 = .ok (.aload_n 0, 1) := by decide +kernel
theorem dX11_init_128 : decode cX11_init 128 = .ok (.new 59, 3) := by decide +kernel
theorem dX11_init_131 : decode cX11_init 131 = .ok (.dup, 1) := by decide +kernel
theorem dX11_init_132 : decode cX11_init 132 = .ok (.invokespecial 61, 3) := by decide +kernel
theorem dX11_init_135 : decode cX11_init 135 = .ok (.putfield 62, 3) := by decide +kernel
theorem dX11_init_138 : decode cX11_init 138 = .ok (.aload_n 0, 1) := by decide +kernel
theorem dX11_init_139 : decode cX11_init 139 = .ok (.new 66, 3) := by decide +kernel
theorem dX11_init_142 : decode cX11_init 142 = .ok (.dup, 1) := by decide +kernel
theorem dX11_init_143 : decode cX11_init 143 = .ok (.aload_n 0, 1) := by decide +kernel
theorem dX11_init_144 : decode cX11_init 144 = .ok (.getfield 19, 3) := by decide +kernel
theorem dX11_init_147 : decode cX11_init 147 = .ok (.aload_n 0, 1) := by decide +kernel
theorem dX11_init_148 : decode cX11_init 148 = .ok (.getfield 29, 3) := by decide +kernel
theorem dX11_init_151 : decode cX11_init 151 = .ok (.invokespecial 68, 3) := by decide +kernel
theorem dX11_init_154 : decode cX11_init 154 = .ok (.putfield 69, 3) := by decide +kernel
theorem dX11_init_157 : decode cX11_init 157 = .ok (.aload_n 0, 1) := by decide +kernel
theorem dX11_init_158 : decode cX11_init 158 = .ok (.new 73, 3) := by decide +kernel
theorem dX11_init_161 : decode cX11_init 161 = .ok (.dup, 1) := by decide +kernel
theorem dX11_init_162 : decode cX11_init 162 = .ok (.aload_n 0, 1) := by decide +kernel
theorem dX11_init_163 : decode cX11_init 163 = .ok (.getfield 19, 3) := by decide +kernel
theorem dX11_init_166 : decode cX11_init 166 = .ok (.aload_n 0, 1) := by decide +kernel
theorem dX11_init_167 : decode cX11_init 167 = .ok (.getfield 45, 3) := by decide +kernel
theorem dX11_init_170 : decode cX11_init 170 = .ok (.invokespecial 75, 3) := by decide +kernel
theorem dX11_init_173 : decode cX11_init 173 = .ok (.putfield 78, 3) := by decide +kernel
theorem dX11_init_176 : decode cX11_init 176 = .ok (.aload_n 0, 1) := by decide +kernel
theorem dX11_init_177 : decode cX11_init 177 = .ok (.new 82, 3) := by decide +kernel
theorem dX11_init_180 : decode cX11_init 180 = .ok (.dup, 1) := by decide +kernel
theorem dX11_init_181 : decode cX11_init 181 = .ok (.aload_n 0, 1) := by decide +kernel
theorem dX11_init_182 : decode cX11_init 182 = .ok (.getfield 19, 3) := by decide +kernel
theorem dX11_init_185 : decode cX11_init 185 = .ok (.invokespecial 84, 3) := by decide +kernel
theorem dX11_init_188 : decode cX11_init 188 = .ok (.putfield 87, 3) := by decide +kernel
theorem dX11_init_191 : decode cX11_init 191 = .ok (.aload_n 0, 1) := by decide +kernel
theorem dX11_init_192 : decode cX11_init 192 = .ok (.sipush 256, 3) := by decide +kernel
theorem dX11_init_195 : decode cX11_init 195 = .ok (.newarray .long, 2) := by decide +kernel
theorem dX11_init_197 : decode cX11_init 197 = .ok (.putfield 91, 3) := by decide +kernel
theorem dX11_init_200 : decode cX11_init 200 = .ok (.aload_n 0, 1) := by decide +kernel
theorem dX11_init_201 : decode cX11_init 201 = .ok (.iconst 3, 1) := by decide +kernel
theorem dX11_init_202 : decode cX11_init 202 = .ok (.newarray .int, 2) := by decide +kernel
theorem dX11_init_204 : decode cX11_init 204 = .ok (.putfield 95, 3) := by decide +kernel
theorem dX11_init_207 : decode cX11_init 207 = .ok (.return_, 1) := by decide +kernel
theorem dX11_feed_0 : decode cX11_feed 0 = .ok (.iload_n 1, 1) := by decide +kernel
theorem dX11_feed_1 : decode cX11_feed 1 = .ok (.invokestatic 99, 3) := by decide +kernel
theorem dX11_feed_4 : decode cX11_feed 4 = .ok (.iload_n 2, 1) := by decide +kernel
theorem dX11_feed_5 : decode cX11_feed 5 = .ok (.invokestatic 99, 3) := by decide +kernel
theorem dX11_feed_8 : decode cX11_feed 8 = .ok (.iadd, 1) := by decide +kernel
theorem dX11_feed_9 : decode cX11_feed 9 = .ok (.iload_n 3, 1) := by decide +kernel
theorem dX11_feed_10 : decode cX11_feed 10 = .ok (.invokestatic 99, 3) := by decide +kernel
theorem dX11_feed_13 : decode cX11_feed 13 = .ok (.iadd, 1) := by decide +kernel
theorem dX11_feed_14 : decode cX11_feed 14 = .ok (.iload 4, 2) := by decide +kernel
theorem dX11_feed_16 : decode cX11_feed 16 = .ok (.invokestatic 99, 3) := by decide +kernel
theorem dX11_feed_19 : decode cX11_feed 19 = .ok (.iadd, 1) := by decide +kernel
theorem dX11_feed_20 : decode cX11_feed 20 = .ok (.iload 5, 2) := by decide +kernel
theorem dX11_feed_22 : decode cX11_feed 22 = .ok (.invokestatic 99, 3) := by decide +kernel
theorem dX11_feed_25 : decode cX11_feed 25 = .ok (.iadd, 1) := by decide +kernel
theorem dX11_feed_26 : decode cX11_feed 26 = .ok (.istore 6, 2) := by decide +kernel
theorem dX11_feed_28 : decode cX11_feed 28 = .ok (.aload_n 0, 1) := by decide +kernel
theorem dX11_feed_29 : decode cX11_feed 29 = .ok (.getfield 10, 3) := by decide +kernel
theorem dX11_feed_32 : decode cX11_feed 32 = .ok (.getfield 103, 3) := by decide +kernel
theorem dX11_feed_35 : decode cX11_feed 35 = .ok (.iload 6, 2) := by decide +kernel
theorem dX11_feed_37 : decode cX11_feed 37 = .ok (.iadd, 1) := by decide +kernel
theorem dX11_feed_38 : decode cX11_feed 38 = .ok (.sipush 240, 3) := by decide +kernel
theorem dX11_feed_41 : decode cX11_feed 41 = .ok (.if_icmp .le 5, 3) := by decide +kernel
theorem dX11_feed_44 : decode cX11_feed 44 = .ok (.iconst (-1), 1) := by decide +kernel
theorem dX11_feed_45 : decode cX11_feed 45 = .ok (.ireturn, 1) := by decide +kernel
theorem dX11_feed_46 : decode cX11_feed 46 = .ok (.aload_n 0, 1) := by decide +kernel
theorem dX11_feed_47 : decode cX11_feed 47 = .ok (.getfield 10, 3) := by decide +kernel
theorem dX11_feed_50 : decode cX11_feed 50 = .ok (.iload_n 1, 1) := by decide +kernel
theorem dX11_feed_51 : decode cX11_feed 51 = .ok (.invokevirtual 107, 3) := by decide +kernel
theorem dX11_feed_54 : decode cX11_feed 54 = .ok (.aload_n 0, 1) := by decide +kernel
theorem dX11_feed_55 : decode cX11_feed 55 = .ok (.getfield 10, 3) := by decide +kernel
theorem dX11_feed_58 : decode cX11_feed 58 = .ok (.iload_n 2, 1) := by decide +kernel
theorem dX11_feed_59 : decode cX11_feed 59 = .ok (.invokevirtual 107, 3) := by decide +kernel
theorem dX11_feed_62 : decode cX11_feed 62 = .ok (.aload_n 0, 1) := by decide +kernel
theorem dX11_feed_63 : decode cX11_feed 63 = .ok (.getfield 10, 3) := by decide +kernel
theorem dX11_feed_66 : decode cX11_feed 66 = .ok (.iload_n 3, 1) := by decide +kernel
theorem dX11_feed_67 : decode cX11_feed 67 = .ok (.invokevirtual 107, 3) := by decide +kernel
theorem dX11_feed_70 : decode cX11_feed 70 = .ok (.aload_n 0, 1) := by decide +kernel
theorem dX11_feed_71 : decode cX11_feed 71 = .ok (.getfield 10, 3) := by decide +kernel
theorem dX11_feed_74 : decode cX11_feed 74 = .ok (.iload 4, 2) := by decide +kernel
theorem dX11_feed_76 : decode cX11_feed 76 = .ok (.invokevirtual 107, 3) := by decide +kernel
theorem dX11_feed_79 : decode cX11_feed 79 = .ok (.aload_n 0, 1) := by decide +kernel
theorem dX11_feed_80 : decode cX11_feed 80 = .ok (.getfield 10, 3) := by decide +kernel
theorem dX11_feed_83 : decode cX11_feed 83 = .ok (.iload 5, 2) := by decide +kernel
theorem dX11_feed_85 : decode cX11_feed 85 = .ok (.invokevirtual 107, 3) := by decide +kernel
theorem dX11_feed_88 : decode cX11_feed 88 = .ok (.aload_n 0, 1) := by decide +kernel
theorem dX11_feed_89 : decode cX11_feed 89 = .ok (.getfield 10, 3) := by decide +kernel
theorem dX11_feed_92 : decode cX11_feed 92 = .ok (.getfield 103, 3) := by decide +kernel
theorem dX11_feed_95 : decode cX11_feed 95 = .ok (.ireturn, 1) := by decide +kernel
theorem dX11_end_0 : decode cX11_end 0 = .ok (.iload_n 1, 1) := by decide +kernel
theorem dX11_end_1 : decode cX11_end 1 = .ok (.iconst 0, 1) := by decide +kernel
theorem dX11_end_2 : decode cX11_end 2 = .ok (.aload_n 0, 1) := by decide +kernel
theorem dX11_end_3 : decode cX11_end 3 = .ok (.getfield 10, 3) := by decide +kernel
theorem dX11_end_6 : decode cX11_end 6 = .ok (.getfield 103, 3) := by decide +kernel
theorem dX11_end_9 : decode cX11_end 9 = .ok (.invokestatic 111, 3) := by decide +kernel
theorem dX11_end_12 : decode cX11_end 12 = .ok (.ifCond .ne 5, 3) := by decide +kernel
theorem dX11_end_15 : decode cX11_end 15 = .ok (.iconst 0, 1) := by decide +kernel
theorem dX11_end_16 : decode cX11_end 16 = .ok (.ireturn, 1) := by decide +kernel
theorem dX11_end_17 : decode cX11_end 17 = .ok (.aload_n 0, 1) := by decide +kernel
theorem dX11_end_18 : decode cX11_end 18 = .ok (.getfield 10, 3) := by decide +kernel
theorem dX11_end_21 : decode cX11_end 21 = .ok (.iload_n 1, 1) := by decide +kernel
theorem dX11_end_22 : decode cX11_end 22 = .ok (.putfield 103, 3) := by decide +kernel
theorem dX11_end_25 : decode cX11_end 25 = .ok (.iconst 1, 1) := by decide +kernel
theorem dX11_end_26 : decode cX11_end 26 = .ok (.ireturn, 1) := by decide +kernel
theorem dX11_fault_0 : decode cX11_fault 0 = .ok (.iload_n 1, 1) := by decide +kernel
theorem dX11_fault_1 : decode cX11_fault 1 = .ok (.tableswitch 71 0 2 #[27, 39, 54], 27) := by decide +kernel
theorem dX11_fault_28 : decode cX11_fault 28 = .ok (.aload_n 0, 1) := by decide +kernel
theorem dX11_fault_29 : decode cX11_fault 29 = .ok (.getfield 23, 3) := by decide +kernel
theorem dX11_fault_32 : decode cX11_fault 32 = .ok (.aload_n 0, 1) := by decide +kernel
theorem dX11_fault_33 : decode cX11_fault 33 = .ok (.getfield 10, 3) := by decide +kernel
theorem dX11_fault_36 : decode cX11_fault 36 = .ok (.invokevirtual 115, 3) := by decide +kernel
theorem dX11_fault_39 : decode cX11_fault 39 = .ok (.ireturn, 1) := by decide +kernel
theorem dX11_fault_40 : decode cX11_fault 40 = .ok (.aload_n 0, 1) := by decide +kernel
theorem dX11_fault_41 : decode cX11_fault 41 = .ok (.getfield 29, 3) := by decide +kernel
theorem dX11_fault_44 : decode cX11_fault 44 = .ok (.invokevirtual 119, 3) := by decide +kernel
theorem dX11_fault_47 : decode cX11_fault 47 = .ok (.aload_n 0, 1) := by decide +kernel
theorem dX11_fault_48 : decode cX11_fault 48 = .ok (.getfield 10, 3) := by decide +kernel
theorem dX11_fault_51 : decode cX11_fault 51 = .ok (.invokevirtual 123, 3) := by decide +kernel
theorem dX11_fault_54 : decode cX11_fault 54 = .ok (.ireturn, 1) := by decide +kernel
theorem dX11_fault_55 : decode cX11_fault 55 = .ok (.aload_n 0, 1) := by decide +kernel
theorem dX11_fault_56 : decode cX11_fault 56 = .ok (.getfield 35, 3) := by decide +kernel
theorem dX11_fault_59 : decode cX11_fault 59 = .ok (.aload_n 0, 1) := by decide +kernel
theorem dX11_fault_60 : decode cX11_fault 60 = .ok (.getfield 126, 3) := by decide +kernel
theorem dX11_fault_63 : decode cX11_fault 63 = .ok (.aaload, 1) := by decide +kernel
theorem dX11_fault_64 : decode cX11_fault 64 = .ok (.aload_n 0, 1) := by decide +kernel
theorem dX11_fault_65 : decode cX11_fault 65 = .ok (.getfield 10, 3) := by decide +kernel
theorem dX11_fault_68 : decode cX11_fault 68 = .ok (.invokevirtual 129, 3) := by decide +kernel
theorem dX11_fault_71 : decode cX11_fault 71 = .ok (.ireturn, 1) := by decide +kernel
theorem dX11_fault_72 : decode cX11_fault 72 = .ok (.bipush (-2), 2) := by decide +kernel
theorem dX11_fault_74 : decode cX11_fault 74 = .ok (.ireturn, 1) := by decide +kernel
theorem dX11_text_0 : decode cX11_text 0 = .ok (.iload_n 1, 1) := by decide +kernel
theorem dX11_text_1 : decode cX11_text 1 = .ok (.tableswitch 107 0 2 #[27, 51, 78], 27) := by decide +kernel
theorem dX11_text_28 : decode cX11_text 28 = .ok (.aload_n 0, 1) := by decide +kernel
theorem dX11_text_29 : decode cX11_text 29 = .ok (.getfield 23, 3) := by decide +kernel
theorem dX11_text_32 : decode cX11_text 32 = .ok (.aload_n 0, 1) := by decide +kernel
theorem dX11_text_33 : decode cX11_text 33 = .ok (.getfield 10, 3) := by decide +kernel
theorem dX11_text_36 : decode cX11_text 36 = .ok (.invokevirtual 115, 3) := by decide +kernel
theorem dX11_text_39 : decode cX11_text 39 = .ok (.iconst (-1), 1) := by decide +kernel
theorem dX11_text_40 : decode cX11_text 40 = .ok (.if_icmp .ne 10, 3) := by decide +kernel
theorem dX11_text_43 : decode cX11_text 43 = .ok (.aload_n 0, 1) := by decide +kernel
theorem dX11_text_44 : decode cX11_text 44 = .ok (.invokevirtual 130, 3) := by decide +kernel
theorem dX11_text_47 : decode cX11_text 47 = .ok (.goto 4, 3) := by decide +kernel
theorem dX11_text_50 : decode cX11_text 50 = .ok (.iconst (-1), 1) := by decide +kernel
theorem dX11_text_51 : decode cX11_text 51 = .ok (.ireturn, 1) := by decide +kernel
theorem dX11_text_52 : decode cX11_text 52 = .ok (.aload_n 0, 1) := by decide +kernel
theorem dX11_text_53 : decode cX11_text 53 = .ok (.getfield 29, 3) := by decide +kernel
theorem dX11_text_56 : decode cX11_text 56 = .ok (.invokevirtual 119, 3) := by decide +kernel
theorem dX11_text_59 : decode cX11_text 59 = .ok (.aload_n 0, 1) := by decide +kernel
theorem dX11_text_60 : decode cX11_text 60 = .ok (.getfield 10, 3) := by decide +kernel
theorem dX11_text_63 : decode cX11_text 63 = .ok (.invokevirtual 123, 3) := by decide +kernel
theorem dX11_text_66 : decode cX11_text 66 = .ok (.iconst (-1), 1) := by decide +kernel
theorem dX11_text_67 : decode cX11_text 67 = .ok (.if_icmp .ne 10, 3) := by decide +kernel
theorem dX11_text_70 : decode cX11_text 70 = .ok (.aload_n 0, 1) := by decide +kernel
theorem dX11_text_71 : decode cX11_text 71 = .ok (.invokevirtual 134, 3) := by decide +kernel
theorem dX11_text_74 : decode cX11_text 74 = .ok (.goto 4, 3) := by decide +kernel
theorem dX11_text_77 : decode cX11_text 77 = .ok (.iconst (-1), 1) := by decide +kernel
theorem dX11_text_78 : decode cX11_text 78 = .ok (.ireturn, 1) := by decide +kernel
theorem dX11_text_79 : decode cX11_text 79 = .ok (.aload_n 0, 1) := by decide +kernel
theorem dX11_text_80 : decode cX11_text 80 = .ok (.getfield 35, 3) := by decide +kernel
theorem dX11_text_83 : decode cX11_text 83 = .ok (.aload_n 0, 1) := by decide +kernel
theorem dX11_text_84 : decode cX11_text 84 = .ok (.getfield 126, 3) := by decide +kernel
theorem dX11_text_87 : decode cX11_text 87 = .ok (.aaload, 1) := by decide +kernel
theorem dX11_text_88 : decode cX11_text 88 = .ok (.aload_n 0, 1) := by decide +kernel
theorem dX11_text_89 : decode cX11_text 89 = .ok (.getfield 10, 3) := by decide +kernel
theorem dX11_text_92 : decode cX11_text 92 = .ok (.invokevirtual 129, 3) := by decide +kernel
theorem dX11_text_95 : decode cX11_text 95 = .ok (.iconst (-1), 1) := by decide +kernel
theorem dX11_text_96 : decode cX11_text 96 = .ok (.if_icmp .ne 10, 3) := by decide +kernel
theorem dX11_text_99 : decode cX11_text 99 = .ok (.aload_n 0, 1) := by decide +kernel
theorem dX11_text_100 : decode cX11_text 100 = .ok (.invokevirtual 137, 3) := by decide +kernel
theorem dX11_text_103 : decode cX11_text 103 = .ok (.goto 4, 3) := by decide +kernel
theorem dX11_text_106 : decode cX11_text 106 = .ok (.iconst (-1), 1) := by decide +kernel
theorem dX11_text_107 : decode cX11_text 107 = .ok (.ireturn, 1) := by decide +kernel
theorem dX11_text_108 : decode cX11_text 108 = .ok (.iconst (-1), 1) := by decide +kernel
theorem dX11_text_109 : decode cX11_text 109 = .ok (.ireturn, 1) := by decide +kernel
theorem dX11_rule_0 : decode cX11_rule 0 = .ok (.aload_n 0, 1) := by decide +kernel
theorem dX11_rule_1 : decode cX11_rule 1 = .ok (.invokevirtual 140, 3) := by decide +kernel
theorem dX11_rule_4 : decode cX11_rule 4 = .ok (.ifCond .ne 5, 3) := by decide +kernel
theorem dX11_rule_7 : decode cX11_rule 7 = .ok (.iconst (-1), 1) := by decide +kernel
theorem dX11_rule_8 : decode cX11_rule 8 = .ok (.ireturn, 1) := by decide +kernel
theorem dX11_rule_9 : decode cX11_rule 9 = .ok (.iload_n 1, 1) := by decide +kernel
theorem dX11_rule_10 : decode cX11_rule 10 = .ok (.tableswitch 89 0 4 #[34, 42, 50, 58, 66], 34) := by decide +kernel
theorem dX11_rule_44 : decode cX11_rule 44 = .ok (.aload_n 0, 1) := by decide +kernel
theorem dX11_rule_45 : decode cX11_rule 45 = .ok (.getfield 52, 3) := by decide +kernel
theorem dX11_rule_48 : decode cX11_rule 48 = .ok (.getfield 144, 3) := by decide +kernel
theorem dX11_rule_51 : decode cX11_rule 51 = .ok (.ireturn, 1) := by decide +kernel
theorem dX11_rule_52 : decode cX11_rule 52 = .ok (.aload_n 0, 1) := by decide +kernel
theorem dX11_rule_53 : decode cX11_rule 53 = .ok (.getfield 52, 3) := by decide +kernel
theorem dX11_rule_56 : decode cX11_rule 56 = .ok (.getfield 147, 3) := by decide +kernel
theorem dX11_rule_59 : decode cX11_rule 59 = .ok (.ireturn, 1) := by decide +kernel
theorem dX11_rule_60 : decode cX11_rule 60 = .ok (.aload_n 0, 1) := by decide +kernel
theorem dX11_rule_61 : decode cX11_rule 61 = .ok (.getfield 19, 3) := by decide +kernel
theorem dX11_rule_64 : decode cX11_rule 64 = .ok (.invokevirtual 150, 3) := by decide +kernel
theorem dX11_rule_67 : decode cX11_rule 67 = .ok (.ireturn, 1) := by decide +kernel
theorem dX11_rule_68 : decode cX11_rule 68 = .ok (.aload_n 0, 1) := by decide +kernel
theorem dX11_rule_69 : decode cX11_rule 69 = .ok (.getfield 19, 3) := by decide +kernel
theorem dX11_rule_72 : decode cX11_rule 72 = .ok (.invokevirtual 153, 3) := by decide +kernel
theorem dX11_rule_75 : decode cX11_rule 75 = .ok (.ireturn, 1) := by decide +kernel
theorem dX11_rule_76 : decode cX11_rule 76 = .ok (.aload_n 0, 1) := by decide +kernel
theorem dX11_rule_77 : decode cX11_rule 77 = .ok (.getfield 45, 3) := by decide +kernel
theorem dX11_rule_80 : decode cX11_rule 80 = .ok (.aload_n 0, 1) := by decide +kernel
theorem dX11_rule_81 : decode cX11_rule 81 = .ok (.getfield 52, 3) := by decide +kernel
theorem dX11_rule_84 : decode cX11_rule 84 = .ok (.getfield 156, 3) := by decide +kernel
theorem dX11_rule_87 : decode cX11_rule 87 = .ok (.invokevirtual 159, 3) := by decide +kernel
theorem dX11_rule_90 : decode cX11_rule 90 = .ok (.ifCond .eq 7, 3) := by decide +kernel
theorem dX11_rule_93 : decode cX11_rule 93 = .ok (.iconst 1, 1) := by decide +kernel
theorem dX11_rule_94 : decode cX11_rule 94 = .ok (.goto 4, 3) := by decide +kernel
theorem dX11_rule_97 : decode cX11_rule 97 = .ok (.iconst 0, 1) := by decide +kernel
theorem dX11_rule_98 : decode cX11_rule 98 = .ok (.ireturn, 1) := by decide +kernel
theorem dX11_rule_99 : decode cX11_rule 99 = .ok (.iconst (-1), 1) := by decide +kernel
theorem dX11_rule_100 : decode cX11_rule 100 = .ok (.ireturn, 1) := by decide +kernel
theorem dX11_buoy_0 : decode cX11_buoy 0 = .ok (.aload_n 0, 1) := by decide +kernel
theorem dX11_buoy_1 : decode cX11_buoy 1 = .ok (.iload_n 1, 1) := by decide +kernel
theorem dX11_buoy_2 : decode cX11_buoy 2 = .ok (.invokevirtual 163, 3) := by decide +kernel
theorem dX11_buoy_5 : decode cX11_buoy 5 = .ok (.ifCond .eq 13, 3) := by decide +kernel
theorem dX11_buoy_8 : decode cX11_buoy 8 = .ok (.iload_n 2, 1) := by decide +kernel
theorem dX11_buoy_9 : decode cX11_buoy 9 = .ok (.iconst 0, 1) := by decide +kernel
theorem dX11_buoy_10 : decode cX11_buoy 10 = .ok (.bipush 8, 2) := by decide +kernel
theorem dX11_buoy_12 : decode cX11_buoy 12 = .ok (.invokestatic 111, 3) := by decide +kernel
theorem dX11_buoy_15 : decode cX11_buoy 15 = .ok (.ifCond .ne 11, 3) := by decide +kernel
theorem dX11_buoy_18 : decode cX11_buoy 18 = .ok (.new 166, 3) := by decide +kernel
theorem dX11_buoy_21 : decode cX11_buoy 21 = .ok (.dup, 1) := by decide +kernel
theorem dX11_buoy_22 : decode cX11_buoy 22 = .ok (.invokespecial 168, 3) := by decide +kernel
theorem dX11_buoy_25 : decode cX11_buoy 25 = .ok (.athrow, 1) := by decide +kernel
theorem dX11_buoy_26 : decode cX11_buoy 26 = .ok (.iload_n 2, 1) := by decide +kernel
theorem dX11_buoy_27 : decode cX11_buoy 27 = .ok (.tableswitch 109 0 8 #[49, 58, 67, 109, 109, 109, 76, 86, 96], 49) := by decide +kernel
theorem dX11_buoy_76 : decode cX11_buoy 76 = .ok (.aload_n 0, 1) := by decide +kernel
theorem dX11_buoy_77 : decode cX11_buoy 77 = .ok (.getfield 19, 3) := by decide +kernel
theorem dX11_buoy_80 : decode cX11_buoy 80 = .ok (.iload_n 1, 1) := by decide +kernel
theorem dX11_buoy_81 : decode cX11_buoy 81 = .ok (.invokevirtual 169, 3) := by decide +kernel
theorem dX11_buoy_84 : decode cX11_buoy 84 = .ok (.ireturn, 1) := by decide +kernel
theorem dX11_buoy_85 : decode cX11_buoy 85 = .ok (.aload_n 0, 1) := by decide +kernel
theorem dX11_buoy_86 : decode cX11_buoy 86 = .ok (.getfield 19, 3) := by decide +kernel
theorem dX11_buoy_89 : decode cX11_buoy 89 = .ok (.iload_n 1, 1) := by decide +kernel
theorem dX11_buoy_90 : decode cX11_buoy 90 = .ok (.invokevirtual 172, 3) := by decide +kernel
theorem dX11_buoy_93 : decode cX11_buoy 93 = .ok (.ireturn, 1) := by decide +kernel
theorem dX11_buoy_94 : decode cX11_buoy 94 = .ok (.aload_n 0, 1) := by decide +kernel
theorem dX11_buoy_95 : decode cX11_buoy 95 = .ok (.getfield 19, 3) := by decide +kernel
theorem dX11_buoy_98 : decode cX11_buoy 98 = .ok (.iload_n 1, 1) := by decide +kernel
theorem dX11_buoy_99 : decode cX11_buoy 99 = .ok (.invokevirtual 175, 3) := by decide +kernel
theorem dX11_buoy_102 : decode cX11_buoy 102 = .ok (.ireturn, 1) := by decide +kernel
theorem dX11_buoy_103 : decode cX11_buoy 103 = .ok (.aload_n 0, 1) := by decide +kernel
theorem dX11_buoy_104 : decode cX11_buoy 104 = .ok (.getfield 52, 3) := by decide +kernel
theorem dX11_buoy_107 : decode cX11_buoy 107 = .ok (.getfield 178, 3) := by decide +kernel
theorem dX11_buoy_110 : decode cX11_buoy 110 = .ok (.iload_n 1, 1) := by decide +kernel
theorem dX11_buoy_111 : decode cX11_buoy 111 = .ok (.iaload, 1) := by decide +kernel
theorem dX11_buoy_112 : decode cX11_buoy 112 = .ok (.ireturn, 1) := by decide +kernel
theorem dX11_buoy_113 : decode cX11_buoy 113 = .ok (.aload_n 0, 1) := by decide +kernel
theorem dX11_buoy_114 : decode cX11_buoy 114 = .ok (.getfield 52, 3) := by decide +kernel
theorem dX11_buoy_117 : decode cX11_buoy 117 = .ok (.getfield 181, 3) := by decide +kernel
theorem dX11_buoy_120 : decode cX11_buoy 120 = .ok (.iload_n 1, 1) := by decide +kernel
theorem dX11_buoy_121 : decode cX11_buoy 121 = .ok (.iaload, 1) := by decide +kernel
theorem dX11_buoy_122 : decode cX11_buoy 122 = .ok (.ireturn, 1) := by decide +kernel
theorem dX11_buoy_123 : decode cX11_buoy 123 = .ok (.aload_n 0, 1) := by decide +kernel
theorem dX11_buoy_124 : decode cX11_buoy 124 = .ok (.getfield 45, 3) := by decide +kernel
theorem dX11_buoy_127 : decode cX11_buoy 127 = .ok (.aload_n 0, 1) := by decide +kernel
theorem dX11_buoy_128 : decode cX11_buoy 128 = .ok (.getfield 52, 3) := by decide +kernel
theorem dX11_buoy_131 : decode cX11_buoy 131 = .ok (.iload_n 1, 1) := by decide +kernel
theorem dX11_buoy_132 : decode cX11_buoy 132 = .ok (.invokevirtual 184, 3) := by decide +kernel
theorem dX11_buoy_135 : decode cX11_buoy 135 = .ok (.ireturn, 1) := by decide +kernel
theorem dX11_buoy_136 : decode cX11_buoy 136 = .ok (.aload_n 0, 1) := by decide +kernel
theorem dX11_buoy_137 : decode cX11_buoy 137 = .ok (.getfield 52, 3) := by decide +kernel
theorem dX11_buoy_140 : decode cX11_buoy 140 = .ok (.getfield 188, 3) := by decide +kernel
theorem dX11_buoy_143 : decode cX11_buoy 143 = .ok (.iload_n 1, 1) := by decide +kernel
theorem dX11_buoy_144 : decode cX11_buoy 144 = .ok (.iconst 3, 1) := by decide +kernel
theorem dX11_buoy_145 : decode cX11_buoy 145 = .ok (.imul, 1) := by decide +kernel
theorem dX11_buoy_146 : decode cX11_buoy 146 = .ok (.iload_n 2, 1) := by decide +kernel
theorem dX11_buoy_147 : decode cX11_buoy 147 = .ok (.iadd, 1) := by decide +kernel
theorem dX11_buoy_148 : decode cX11_buoy 148 = .ok (.iconst 3, 1) := by decide +kernel
theorem dX11_buoy_149 : decode cX11_buoy 149 = .ok (.isub, 1) := by decide +kernel
theorem dX11_buoy_150 : decode cX11_buoy 150 = .ok (.iaload, 1) := by decide +kernel
theorem dX11_buoy_151 : decode cX11_buoy 151 = .ok (.ireturn, 1) := by decide +kernel
theorem dX11_boat_0 : decode cX11_boat 0 = .ok (.aload_n 0, 1) := by decide +kernel
theorem dX11_boat_1 : decode cX11_boat 1 = .ok (.iload_n 1, 1) := by decide +kernel
theorem dX11_boat_2 : decode cX11_boat 2 = .ok (.invokevirtual 191, 3) := by decide +kernel
theorem dX11_boat_5 : decode cX11_boat 5 = .ok (.ifCond .ne 5, 3) := by decide +kernel
theorem dX11_boat_8 : decode cX11_boat 8 = .ok (.iconst (-1), 1) := by decide +kernel
theorem dX11_boat_9 : decode cX11_boat 9 = .ok (.ireturn, 1) := by decide +kernel
theorem dX11_boat_10 : decode cX11_boat 10 = .ok (.iload_n 2, 1) := by decide +kernel
theorem dX11_boat_11 : decode cX11_boat 11 = .ok (.tableswitch 123 0 7 #[45, 55, 65, 74, 83, 93, 103, 113], 45) := by decide +kernel
theorem dX11_boat_56 : decode cX11_boat 56 = .ok (.aload_n 0, 1) := by decide +kernel
theorem dX11_boat_57 : decode cX11_boat 57 = .ok (.getfield 52, 3) := by decide +kernel
theorem dX11_boat_60 : decode cX11_boat 60 = .ok (.getfield 194, 3) := by decide +kernel
theorem dX11_boat_63 : decode cX11_boat 63 = .ok (.iload_n 1, 1) := by decide +kernel
theorem dX11_boat_64 : decode cX11_boat 64 = .ok (.iaload, 1) := by decide +kernel
theorem dX11_boat_65 : decode cX11_boat 65 = .ok (.ireturn, 1) := by decide +kernel
theorem dX11_boat_66 : decode cX11_boat 66 = .ok (.aload_n 0, 1) := by decide +kernel
theorem dX11_boat_67 : decode cX11_boat 67 = .ok (.getfield 52, 3) := by decide +kernel
theorem dX11_boat_70 : decode cX11_boat 70 = .ok (.getfield 197, 3) := by decide +kernel
theorem dX11_boat_73 : decode cX11_boat 73 = .ok (.iload_n 1, 1) := by decide +kernel
theorem dX11_boat_74 : decode cX11_boat 74 = .ok (.iaload, 1) := by decide +kernel
theorem dX11_boat_75 : decode cX11_boat 75 = .ok (.ireturn, 1) := by decide +kernel
theorem dX11_boat_76 : decode cX11_boat 76 = .ok (.aload_n 0, 1) := by decide +kernel
theorem dX11_boat_77 : decode cX11_boat 77 = .ok (.getfield 19, 3) := by decide +kernel
theorem dX11_boat_80 : decode cX11_boat 80 = .ok (.iload_n 1, 1) := by decide +kernel
theorem dX11_boat_81 : decode cX11_boat 81 = .ok (.invokevirtual 200, 3) := by decide +kernel
theorem dX11_boat_84 : decode cX11_boat 84 = .ok (.ireturn, 1) := by decide +kernel
theorem dX11_boat_85 : decode cX11_boat 85 = .ok (.aload_n 0, 1) := by decide +kernel
theorem dX11_boat_86 : decode cX11_boat 86 = .ok (.getfield 19, 3) := by decide +kernel
theorem dX11_boat_89 : decode cX11_boat 89 = .ok (.iload_n 1, 1) := by decide +kernel
theorem dX11_boat_90 : decode cX11_boat 90 = .ok (.invokevirtual 203, 3) := by decide +kernel
theorem dX11_boat_93 : decode cX11_boat 93 = .ok (.ireturn, 1) := by decide +kernel
theorem dX11_boat_94 : decode cX11_boat 94 = .ok (.aload_n 0, 1) := by decide +kernel
theorem dX11_boat_95 : decode cX11_boat 95 = .ok (.getfield 52, 3) := by decide +kernel
theorem dX11_boat_98 : decode cX11_boat 98 = .ok (.getfield 206, 3) := by decide +kernel
theorem dX11_boat_101 : decode cX11_boat 101 = .ok (.iload_n 1, 1) := by decide +kernel
theorem dX11_boat_102 : decode cX11_boat 102 = .ok (.iaload, 1) := by decide +kernel
theorem dX11_boat_103 : decode cX11_boat 103 = .ok (.ireturn, 1) := by decide +kernel
theorem dX11_boat_104 : decode cX11_boat 104 = .ok (.aload_n 0, 1) := by decide +kernel
theorem dX11_boat_105 : decode cX11_boat 105 = .ok (.getfield 52, 3) := by decide +kernel
theorem dX11_boat_108 : decode cX11_boat 108 = .ok (.getfield 209, 3) := by decide +kernel
theorem dX11_boat_111 : decode cX11_boat 111 = .ok (.iload_n 1, 1) := by decide +kernel
theorem dX11_boat_112 : decode cX11_boat 112 = .ok (.iaload, 1) := by decide +kernel
theorem dX11_boat_113 : decode cX11_boat 113 = .ok (.ireturn, 1) := by decide +kernel
theorem dX11_boat_114 : decode cX11_boat 114 = .ok (.aload_n 0, 1) := by decide +kernel
theorem dX11_boat_115 : decode cX11_boat 115 = .ok (.getfield 52, 3) := by decide +kernel
theorem dX11_boat_118 : decode cX11_boat 118 = .ok (.getfield 212, 3) := by decide +kernel
theorem dX11_boat_121 : decode cX11_boat 121 = .ok (.iload_n 1, 1) := by decide +kernel
theorem dX11_boat_122 : decode cX11_boat 122 = .ok (.iaload, 1) := by decide +kernel
theorem dX11_boat_123 : decode cX11_boat 123 = .ok (.ireturn, 1) := by decide +kernel
theorem dX11_boat_124 : decode cX11_boat 124 = .ok (.aload_n 0, 1) := by decide +kernel
theorem dX11_boat_125 : decode cX11_boat 125 = .ok (.getfield 52, 3) := by decide +kernel
theorem dX11_boat_128 : decode cX11_boat 128 = .ok (.getfield 215, 3) := by decide +kernel
theorem dX11_boat_131 : decode cX11_boat 131 = .ok (.iload_n 1, 1) := by decide +kernel
theorem dX11_boat_132 : decode cX11_boat 132 = .ok (.iaload, 1) := by decide +kernel
theorem dX11_boat_133 : decode cX11_boat 133 = .ok (.ireturn, 1) := by decide +kernel
theorem dX11_boat_134 : decode cX11_boat 134 = .ok (.iconst (-1), 1) := by decide +kernel
theorem dX11_boat_135 : decode cX11_boat 135 = .ok (.ireturn, 1) := by decide +kernel
theorem dX11_law_0 : decode cX11_law 0 = .ok (.iload_n 1, 1) := by decide +kernel
theorem dX11_law_1 : decode cX11_law 1 = .ok (.iconst (-1), 1) := by decide +kernel
theorem dX11_law_2 : decode cX11_law 2 = .ok (.aload_n 0, 1) := by decide +kernel
theorem dX11_law_3 : decode cX11_law 3 = .ok (.getfield 29, 3) := by decide +kernel
theorem dX11_law_6 : decode cX11_law 6 = .ok (.getfield 218, 3) := by decide +kernel
theorem dX11_law_9 : decode cX11_law 9 = .ok (.iconst 1, 1) := by decide +kernel
theorem dX11_law_10 : decode cX11_law 10 = .ok (.isub, 1) := by decide +kernel
theorem dX11_law_11 : decode cX11_law 11 = .ok (.invokestatic 111, 3) := by decide +kernel
theorem dX11_law_14 : decode cX11_law 14 = .ok (.ifCond .ne 5, 3) := by decide +kernel
theorem dX11_law_17 : decode cX11_law 17 = .ok (.iconst 0, 1) := by decide +kernel
theorem dX11_law_18 : decode cX11_law 18 = .ok (.ireturn, 1) := by decide +kernel
theorem dX11_law_19 : decode cX11_law 19 = .ok (.aload_n 0, 1) := by decide +kernel
theorem dX11_law_20 : decode cX11_law 20 = .ok (.getfield 29, 3) := by decide +kernel
theorem dX11_law_23 : decode cX11_law 23 = .ok (.iload_n 1, 1) := by decide +kernel
theorem dX11_law_24 : decode cX11_law 24 = .ok (.putfield 221, 3) := by decide +kernel
theorem dX11_law_27 : decode cX11_law 27 = .ok (.iconst 1, 1) := by decide +kernel
theorem dX11_law_28 : decode cX11_law 28 = .ok (.ireturn, 1) := by decide +kernel
theorem dX11_pull_0 : decode cX11_pull 0 = .ok (.aload_n 0, 1) := by decide +kernel
theorem dX11_pull_1 : decode cX11_pull 1 = .ok (.iload_n 1, 1) := by decide +kernel
theorem dX11_pull_2 : decode cX11_pull 2 = .ok (.invokevirtual 163, 3) := by decide +kernel
theorem dX11_pull_5 : decode cX11_pull 5 = .ok (.ifCond .eq 27, 3) := by decide +kernel
theorem dX11_pull_8 : decode cX11_pull 8 = .ok (.aload_n 0, 1) := by decide +kernel
theorem dX11_pull_9 : decode cX11_pull 9 = .ok (.iload_n 2, 1) := by decide +kernel
theorem dX11_pull_10 : decode cX11_pull 10 = .ok (.invokevirtual 191, 3) := by decide +kernel
theorem dX11_pull_13 : decode cX11_pull 13 = .ok (.ifCond .eq 19, 3) := by decide +kernel
theorem dX11_pull_16 : decode cX11_pull 16 = .ok (.aload_n 0, 1) := by decide +kernel
theorem dX11_pull_17 : decode cX11_pull 17 = .ok (.getfield 45, 3) := by decide +kernel
theorem dX11_pull_20 : decode cX11_pull 20 = .ok (.aload_n 0, 1) := by decide +kernel
theorem dX11_pull_21 : decode cX11_pull 21 = .ok (.getfield 52, 3) := by decide +kernel
theorem dX11_pull_24 : decode cX11_pull 24 = .ok (.iload_n 1, 1) := by decide +kernel
theorem dX11_pull_25 : decode cX11_pull 25 = .ok (.iload_n 2, 1) := by decide +kernel
theorem dX11_pull_26 : decode cX11_pull 26 = .ok (.invokevirtual 224, 3) := by decide +kernel
theorem dX11_pull_29 : decode cX11_pull 29 = .ok (.goto 5, 3) := by decide +kernel
theorem dX11_pull_32 : decode cX11_pull 32 = .ok (.ldc 228, 2) := by decide +kernel
theorem dX11_pull_34 : decode cX11_pull 34 = .ok (.ireturn, 1) := by decide +kernel
theorem dX11_push_0 : decode cX11_push 0 = .ok (.aload_n 0, 1) := by decide +kernel
theorem dX11_push_1 : decode cX11_push 1 = .ok (.iload_n 1, 1) := by decide +kernel
theorem dX11_push_2 : decode cX11_push 2 = .ok (.invokevirtual 163, 3) := by decide +kernel
theorem dX11_push_5 : decode cX11_push 5 = .ok (.ifCond .eq 27, 3) := by decide +kernel
theorem dX11_push_8 : decode cX11_push 8 = .ok (.aload_n 0, 1) := by decide +kernel
theorem dX11_push_9 : decode cX11_push 9 = .ok (.iload_n 2, 1) := by decide +kernel
theorem dX11_push_10 : decode cX11_push 10 = .ok (.invokevirtual 191, 3) := by decide +kernel
theorem dX11_push_13 : decode cX11_push 13 = .ok (.ifCond .eq 19, 3) := by decide +kernel
theorem dX11_push_16 : decode cX11_push 16 = .ok (.aload_n 0, 1) := by decide +kernel
theorem dX11_push_17 : decode cX11_push 17 = .ok (.getfield 45, 3) := by decide +kernel
theorem dX11_push_20 : decode cX11_push 20 = .ok (.aload_n 0, 1) := by decide +kernel
theorem dX11_push_21 : decode cX11_push 21 = .ok (.getfield 52, 3) := by decide +kernel
theorem dX11_push_24 : decode cX11_push 24 = .ok (.iload_n 1, 1) := by decide +kernel
theorem dX11_push_25 : decode cX11_push 25 = .ok (.iload_n 2, 1) := by decide +kernel
theorem dX11_push_26 : decode cX11_push 26 = .ok (.invokevirtual 229, 3) := by decide +kernel
theorem dX11_push_29 : decode cX11_push 29 = .ok (.goto 5, 3) := by decide +kernel
theorem dX11_push_32 : decode cX11_push 32 = .ok (.ldc 228, 2) := by decide +kernel
theorem dX11_push_34 : decode cX11_push 34 = .ok (.ireturn, 1) := by decide +kernel
theorem dX11_row_0 : decode cX11_row 0 = .ok (.aload_n 0, 1) := by decide +kernel
theorem dX11_row_1 : decode cX11_row 1 = .ok (.aload_n 0, 1) := by decide +kernel
theorem dX11_row_2 : decode cX11_row 2 = .ok (.getfield 52, 3) := by decide +kernel
theorem dX11_row_5 : decode cX11_row 5 = .ok (.iload_n 1, 1) := by decide +kernel
theorem dX11_row_6 : decode cX11_row 6 = .ok (.iload_n 2, 1) := by decide +kernel
theorem dX11_row_7 : decode cX11_row 7 = .ok (.iload_n 3, 1) := by decide +kernel
theorem dX11_row_8 : decode cX11_row 8 = .ok (.invokevirtual 232, 3) := by decide +kernel
theorem dX11_row_11 : decode cX11_row 11 = .ok (.ifCond .ne 5, 3) := by decide +kernel
theorem dX11_row_14 : decode cX11_row 14 = .ok (.iconst (-1), 1) := by decide +kernel
theorem dX11_row_15 : decode cX11_row 15 = .ok (.ireturn, 1) := by decide +kernel
theorem dX11_row_16 : decode cX11_row 16 = .ok (.aload_n 0, 1) := by decide +kernel
theorem dX11_row_17 : decode cX11_row 17 = .ok (.getfield 62, 3) := by decide +kernel
theorem dX11_row_20 : decode cX11_row 20 = .ok (.aload_n 0, 1) := by decide +kernel
theorem dX11_row_21 : decode cX11_row 21 = .ok (.getfield 52, 3) := by decide +kernel
theorem dX11_row_24 : decode cX11_row 24 = .ok (.invokevirtual 236, 3) := by decide +kernel
theorem dX11_row_27 : decode cX11_row 27 = .ok (.aload_n 0, 1) := by decide +kernel
theorem dX11_row_28 : decode cX11_row 28 = .ok (.getfield 52, 3) := by decide +kernel
theorem dX11_row_31 : decode cX11_row 31 = .ok (.getfield 206, 3) := by decide +kernel
theorem dX11_row_34 : decode cX11_row 34 = .ok (.iload_n 1, 1) := by decide +kernel
theorem dX11_row_35 : decode cX11_row 35 = .ok (.iload_n 2, 1) := by decide +kernel
theorem dX11_row_36 : decode cX11_row 36 = .ok (.iastore, 1) := by decide +kernel
theorem dX11_row_37 : decode cX11_row 37 = .ok (.aload_n 0, 1) := by decide +kernel
theorem dX11_row_38 : decode cX11_row 38 = .ok (.getfield 52, 3) := by decide +kernel
theorem dX11_row_41 : decode cX11_row 41 = .ok (.getfield 209, 3) := by decide +kernel
theorem dX11_row_44 : decode cX11_row 44 = .ok (.iload_n 1, 1) := by decide +kernel
theorem dX11_row_45 : decode cX11_row 45 = .ok (.iload_n 3, 1) := by decide +kernel
theorem dX11_row_46 : decode cX11_row 46 = .ok (.iastore, 1) := by decide +kernel
theorem dX11_row_47 : decode cX11_row 47 = .ok (.aload_n 0, 1) := by decide +kernel
theorem dX11_row_48 : decode cX11_row 48 = .ok (.getfield 52, 3) := by decide +kernel
theorem dX11_row_51 : decode cX11_row 51 = .ok (.iload_n 1, 1) := by decide +kernel
theorem dX11_row_52 : decode cX11_row 52 = .ok (.iload_n 2, 1) := by decide +kernel
theorem dX11_row_53 : decode cX11_row 53 = .ok (.iload_n 3, 1) := by decide +kernel
theorem dX11_row_54 : decode cX11_row 54 = .ok (.invokevirtual 240, 3) := by decide +kernel
theorem dX11_row_57 : decode cX11_row 57 = .ok (.aload_n 0, 1) := by decide +kernel
theorem dX11_row_58 : decode cX11_row 58 = .ok (.getfield 19, 3) := by decide +kernel
theorem dX11_row_61 : decode cX11_row 61 = .ok (.iload_n 1, 1) := by decide +kernel
theorem dX11_row_62 : decode cX11_row 62 = .ok (.invokevirtual 200, 3) := by decide +kernel
theorem dX11_row_65 : decode cX11_row 65 = .ok (.invokestatic 244, 3) := by decide +kernel
theorem dX11_row_68 : decode cX11_row 68 = .ok (.ireturn, 1) := by decide +kernel
theorem dX11_sing_0 : decode cX11_sing 0 = .ok (.aload_n 0, 1) := by decide +kernel
theorem dX11_sing_1 : decode cX11_sing 1 = .ok (.aload_n 0, 1) := by decide +kernel
theorem dX11_sing_2 : decode cX11_sing 2 = .ok (.getfield 52, 3) := by decide +kernel
theorem dX11_sing_5 : decode cX11_sing 5 = .ok (.iload_n 1, 1) := by decide +kernel
theorem dX11_sing_6 : decode cX11_sing 6 = .ok (.iload_n 2, 1) := by decide +kernel
theorem dX11_sing_7 : decode cX11_sing 7 = .ok (.invokevirtual 248, 3) := by decide +kernel
theorem dX11_sing_10 : decode cX11_sing 10 = .ok (.ifCond .ne 5, 3) := by decide +kernel
theorem dX11_sing_13 : decode cX11_sing 13 = .ok (.iconst (-1), 1) := by decide +kernel
theorem dX11_sing_14 : decode cX11_sing 14 = .ok (.ireturn, 1) := by decide +kernel
theorem dX11_sing_15 : decode cX11_sing 15 = .ok (.aload_n 0, 1) := by decide +kernel
theorem dX11_sing_16 : decode cX11_sing 16 = .ok (.getfield 62, 3) := by decide +kernel
theorem dX11_sing_19 : decode cX11_sing 19 = .ok (.aload_n 0, 1) := by decide +kernel
theorem dX11_sing_20 : decode cX11_sing 20 = .ok (.getfield 52, 3) := by decide +kernel
theorem dX11_sing_23 : decode cX11_sing 23 = .ok (.invokevirtual 236, 3) := by decide +kernel
theorem dX11_sing_26 : decode cX11_sing 26 = .ok (.aload_n 0, 1) := by decide +kernel
theorem dX11_sing_27 : decode cX11_sing 27 = .ok (.getfield 52, 3) := by decide +kernel
theorem dX11_sing_30 : decode cX11_sing 30 = .ok (.iload_n 1, 1) := by decide +kernel
theorem dX11_sing_31 : decode cX11_sing 31 = .ok (.iload_n 2, 1) := by decide +kernel
theorem dX11_sing_32 : decode cX11_sing 32 = .ok (.invokevirtual 252, 3) := by decide +kernel
theorem dX11_sing_35 : decode cX11_sing 35 = .ok (.aload_n 0, 1) := by decide +kernel
theorem dX11_sing_36 : decode cX11_sing 36 = .ok (.getfield 52, 3) := by decide +kernel
theorem dX11_sing_39 : decode cX11_sing 39 = .ok (.getfield 188, 3) := by decide +kernel
theorem dX11_sing_42 : decode cX11_sing 42 = .ok (.iload_n 2, 1) := by decide +kernel
theorem dX11_sing_43 : decode cX11_sing 43 = .ok (.iconst 3, 1) := by decide +kernel
theorem dX11_sing_44 : decode cX11_sing 44 = .ok (.imul, 1) := by decide +kernel
theorem dX11_sing_45 : decode cX11_sing 45 = .ok (.iload_n 1, 1) := by decide +kernel
theorem dX11_sing_46 : decode cX11_sing 46 = .ok (.iadd, 1) := by decide +kernel
theorem dX11_sing_47 : decode cX11_sing 47 = .ok (.iaload, 1) := by decide +kernel
theorem dX11_sing_48 : decode cX11_sing 48 = .ok (.ireturn, 1) := by decide +kernel
theorem dX11_scrape_0 : decode cX11_scrape 0 = .ok (.aload_n 0, 1) := by decide +kernel
theorem dX11_scrape_1 : decode cX11_scrape 1 = .ok (.aload_n 0, 1) := by decide +kernel
theorem dX11_scrape_2 : decode cX11_scrape 2 = .ok (.getfield 52, 3) := by decide +kernel
theorem dX11_scrape_5 : decode cX11_scrape 5 = .ok (.iload_n 1, 1) := by decide +kernel
theorem dX11_scrape_6 : decode cX11_scrape 6 = .ok (.iload_n 2, 1) := by decide +kernel
theorem dX11_scrape_7 : decode cX11_scrape 7 = .ok (.invokevirtual 256, 3) := by decide +kernel
theorem dX11_scrape_10 : decode cX11_scrape 10 = .ok (.ifCond .ne 5, 3) := by decide +kernel
theorem dX11_scrape_13 : decode cX11_scrape 13 = .ok (.iconst (-1), 1) := by decide +kernel
theorem dX11_scrape_14 : decode cX11_scrape 14 = .ok (.ireturn, 1) := by decide +kernel
theorem dX11_scrape_15 : decode cX11_scrape 15 = .ok (.aload_n 0, 1) := by decide +kernel
theorem dX11_scrape_16 : decode cX11_scrape 16 = .ok (.getfield 62, 3) := by decide +kernel
theorem dX11_scrape_19 : decode cX11_scrape 19 = .ok (.aload_n 0, 1) := by decide +kernel
theorem dX11_scrape_20 : decode cX11_scrape 20 = .ok (.getfield 52, 3) := by decide +kernel
theorem dX11_scrape_23 : decode cX11_scrape 23 = .ok (.invokevirtual 236, 3) := by decide +kernel
theorem dX11_scrape_26 : decode cX11_scrape 26 = .ok (.aload_n 0, 1) := by decide +kernel
theorem dX11_scrape_27 : decode cX11_scrape 27 = .ok (.getfield 52, 3) := by decide +kernel
theorem dX11_scrape_30 : decode cX11_scrape 30 = .ok (.getfield 181, 3) := by decide +kernel
theorem dX11_scrape_33 : decode cX11_scrape 33 = .ok (.iload_n 2, 1) := by decide +kernel
theorem dX11_scrape_34 : decode cX11_scrape 34 = .ok (.dup2, 1) := by decide +kernel
theorem dX11_scrape_35 : decode cX11_scrape 35 = .ok (.iaload, 1) := by decide +kernel
theorem dX11_scrape_36 : decode cX11_scrape 36 = .ok (.iconst 1, 1) := by decide +kernel
theorem dX11_scrape_37 : decode cX11_scrape 37 = .ok (.isub, 1) := by decide +kernel
theorem dX11_scrape_38 : decode cX11_scrape 38 = .ok (.iastore, 1) := by decide +kernel
theorem dX11_scrape_39 : decode cX11_scrape 39 = .ok (.aload_n 0, 1) := by decide +kernel
theorem dX11_scrape_40 : decode cX11_scrape 40 = .ok (.getfield 52, 3) := by decide +kernel
theorem dX11_scrape_43 : decode cX11_scrape 43 = .ok (.getfield 181, 3) := by decide +kernel
theorem dX11_scrape_46 : decode cX11_scrape 46 = .ok (.iload_n 2, 1) := by decide +kernel
theorem dX11_scrape_47 : decode cX11_scrape 47 = .ok (.iaload, 1) := by decide +kernel
theorem dX11_scrape_48 : decode cX11_scrape 48 = .ok (.ireturn, 1) := by decide +kernel
theorem dX11_wind_0 : decode cX11_wind 0 = .ok (.aload_n 0, 1) := by decide +kernel
theorem dX11_wind_1 : decode cX11_wind 1 = .ok (.invokevirtual 140, 3) := by decide +kernel
theorem dX11_wind_4 : decode cX11_wind 4 = .ok (.ifCond .eq 22, 3) := by decide +kernel
theorem dX11_wind_7 : decode cX11_wind 7 = .ok (.iload_n 1, 1) := by decide +kernel
theorem dX11_wind_8 : decode cX11_wind 8 = .ok (.iconst 0, 1) := by decide +kernel
theorem dX11_wind_9 : decode cX11_wind 9 = .ok (.bipush 9, 2) := by decide +kernel
theorem dX11_wind_11 : decode cX11_wind 11 = .ok (.invokestatic 111, 3) := by decide +kernel
theorem dX11_wind_14 : decode cX11_wind 14 = .ok (.ifCond .eq 12, 3) := by decide +kernel
theorem dX11_wind_17 : decode cX11_wind 17 = .ok (.iload_n 2, 1) := by decide +kernel
theorem dX11_wind_18 : decode cX11_wind 18 = .ok (.iconst 0, 1) := by decide +kernel
theorem dX11_wind_19 : decode cX11_wind 19 = .ok (.iconst 3, 1) := by decide +kernel
theorem dX11_wind_20 : decode cX11_wind 20 = .ok (.invokestatic 111, 3) := by decide +kernel
theorem dX11_wind_23 : decode cX11_wind 23 = .ok (.ifCond .ne 5, 3) := by decide +kernel
theorem dX11_wind_26 : decode cX11_wind 26 = .ok (.iconst 0, 1) := by decide +kernel
theorem dX11_wind_27 : decode cX11_wind 27 = .ok (.ireturn, 1) := by decide +kernel
theorem dX11_wind_28 : decode cX11_wind 28 = .ok (.iload_n 1, 1) := by decide +kernel
theorem dX11_wind_29 : decode cX11_wind 29 = .ok (.aload_n 0, 1) := by decide +kernel
theorem dX11_wind_30 : decode cX11_wind 30 = .ok (.getfield 52, 3) := by decide +kernel
theorem dX11_wind_33 : decode cX11_wind 33 = .ok (.getfield 144, 3) := by decide +kernel
theorem dX11_wind_36 : decode cX11_wind 36 = .ok (.if_icmp .ne 16, 3) := by decide +kernel
theorem dX11_wind_39 : decode cX11_wind 39 = .ok (.iload_n 2, 1) := by decide +kernel
theorem dX11_wind_40 : decode cX11_wind 40 = .ok (.aload_n 0, 1) := by decide +kernel
theorem dX11_wind_41 : decode cX11_wind 41 = .ok (.getfield 52, 3) := by decide +kernel
theorem dX11_wind_44 : decode cX11_wind 44 = .ok (.getfield 147, 3) := by decide +kernel
theorem dX11_wind_47 : decode cX11_wind 47 = .ok (.if_icmp .ne 5, 3) := by decide +kernel
theorem dX11_wind_50 : decode cX11_wind 50 = .ok (.iconst 0, 1) := by decide +kernel
theorem dX11_wind_51 : decode cX11_wind 51 = .ok (.ireturn, 1) := by decide +kernel
theorem dX11_wind_52 : decode cX11_wind 52 = .ok (.aload_n 0, 1) := by decide +kernel
theorem dX11_wind_53 : decode cX11_wind 53 = .ok (.getfield 62, 3) := by decide +kernel
theorem dX11_wind_56 : decode cX11_wind 56 = .ok (.aload_n 0, 1) := by decide +kernel
theorem dX11_wind_57 : decode cX11_wind 57 = .ok (.getfield 52, 3) := by decide +kernel
theorem dX11_wind_60 : decode cX11_wind 60 = .ok (.invokevirtual 236, 3) := by decide +kernel
theorem dX11_wind_63 : decode cX11_wind 63 = .ok (.aload_n 0, 1) := by decide +kernel
theorem dX11_wind_64 : decode cX11_wind 64 = .ok (.getfield 52, 3) := by decide +kernel
theorem dX11_wind_67 : decode cX11_wind 67 = .ok (.iload_n 1, 1) := by decide +kernel
theorem dX11_wind_68 : decode cX11_wind 68 = .ok (.putfield 144, 3) := by decide +kernel
theorem dX11_wind_71 : decode cX11_wind 71 = .ok (.aload_n 0, 1) := by decide +kernel
theorem dX11_wind_72 : decode cX11_wind 72 = .ok (.getfield 52, 3) := by decide +kernel
theorem dX11_wind_75 : decode cX11_wind 75 = .ok (.iload_n 2, 1) := by decide +kernel
theorem dX11_wind_76 : decode cX11_wind 76 = .ok (.putfield 147, 3) := by decide +kernel
theorem dX11_wind_79 : decode cX11_wind 79 = .ok (.iconst 1, 1) := by decide +kernel
theorem dX11_wind_80 : decode cX11_wind 80 = .ok (.ireturn, 1) := by decide +kernel
theorem dX11_hours_0 : decode cX11_hours 0 = .ok (.aload_n 0, 1) := by decide +kernel
theorem dX11_hours_1 : decode cX11_hours 1 = .ok (.iload_n 1, 1) := by decide +kernel
theorem dX11_hours_2 : decode cX11_hours 2 = .ok (.invokevirtual 259, 3) := by decide +kernel
theorem dX11_hours_5 : decode cX11_hours 5 = .ok (.ifCond .ne 5, 3) := by decide +kernel
theorem dX11_hours_8 : decode cX11_hours 8 = .ok (.iconst (-1), 1) := by decide +kernel
theorem dX11_hours_9 : decode cX11_hours 9 = .ok (.ireturn, 1) := by decide +kernel
theorem dX11_hours_10 : decode cX11_hours 10 = .ok (.iconst 0, 1) := by decide +kernel
theorem dX11_hours_11 : decode cX11_hours 11 = .ok (.istore_n 2, 1) := by decide +kernel
theorem dX11_hours_12 : decode cX11_hours 12 = .ok (.iload_n 2, 1) := by decide +kernel
theorem dX11_hours_13 : decode cX11_hours 13 = .ok (.iload_n 1, 1) := by decide +kernel
theorem dX11_hours_14 : decode cX11_hours 14 = .ok (.if_icmp .ge 24, 3) := by decide +kernel
theorem dX11_hours_17 : decode cX11_hours 17 = .ok (.aload_n 0, 1) := by decide +kernel
theorem dX11_hours_18 : decode cX11_hours 18 = .ok (.getfield 62, 3) := by decide +kernel
theorem dX11_hours_21 : decode cX11_hours 21 = .ok (.aload_n 0, 1) := by decide +kernel
theorem dX11_hours_22 : decode cX11_hours 22 = .ok (.getfield 52, 3) := by decide +kernel
theorem dX11_hours_25 : decode cX11_hours 25 = .ok (.invokevirtual 236, 3) := by decide +kernel
theorem dX11_hours_28 : decode cX11_hours 28 = .ok (.aload_n 0, 1) := by decide +kernel
theorem dX11_hours_29 : decode cX11_hours 29 = .ok (.invokevirtual 262, 3) := by decide +kernel
theorem dX11_hours_32 : decode cX11_hours 32 = .ok (.iinc 2 1, 3) := by decide +kernel
theorem dX11_hours_35 : decode cX11_hours 35 = .ok (.goto (-23), 3) := by decide +kernel
theorem dX11_hours_38 : decode cX11_hours 38 = .ok (.aload_n 0, 1) := by decide +kernel
theorem dX11_hours_39 : decode cX11_hours 39 = .ok (.getfield 52, 3) := by decide +kernel
theorem dX11_hours_42 : decode cX11_hours 42 = .ok (.getfield 156, 3) := by decide +kernel
theorem dX11_hours_45 : decode cX11_hours 45 = .ok (.ireturn, 1) := by decide +kernel
theorem dX11_years_0 : decode cX11_years 0 = .ok (.aload_n 0, 1) := by decide +kernel
theorem dX11_years_1 : decode cX11_years 1 = .ok (.iload_n 1, 1) := by decide +kernel
theorem dX11_years_2 : decode cX11_years 2 = .ok (.invokevirtual 259, 3) := by decide +kernel
theorem dX11_years_5 : decode cX11_years 5 = .ok (.ifCond .ne 5, 3) := by decide +kernel
theorem dX11_years_8 : decode cX11_years 8 = .ok (.iconst (-1), 1) := by decide +kernel
theorem dX11_years_9 : decode cX11_years 9 = .ok (.ireturn, 1) := by decide +kernel
theorem dX11_years_10 : decode cX11_years 10 = .ok (.aload_n 0, 1) := by decide +kernel
theorem dX11_years_11 : decode cX11_years 11 = .ok (.lload_n 2, 1) := by decide +kernel
theorem dX11_years_12 : decode cX11_years 12 = .ok (.putfield 265, 3) := by decide +kernel
theorem dX11_years_15 : decode cX11_years 15 = .ok (.iconst 0, 1) := by decide +kernel
theorem dX11_years_16 : decode cX11_years 16 = .ok (.istore 4, 2) := by decide +kernel
theorem dX11_years_18 : decode cX11_years 18 = .ok (.iload 4, 2) := by decide +kernel
theorem dX11_years_20 : decode cX11_years 20 = .ok (.iload_n 1, 1) := by decide +kernel
theorem dX11_years_21 : decode cX11_years 21 = .ok (.if_icmp .ge 121, 3) := by decide +kernel
theorem dX11_years_24 : decode cX11_years 24 = .ok (.aload_n 0, 1) := by decide +kernel
theorem dX11_years_25 : decode cX11_years 25 = .ok (.getfield 62, 3) := by decide +kernel
theorem dX11_years_28 : decode cX11_years 28 = .ok (.aload_n 0, 1) := by decide +kernel
theorem dX11_years_29 : decode cX11_years 29 = .ok (.getfield 52, 3) := by decide +kernel
theorem dX11_years_32 : decode cX11_years 32 = .ok (.invokevirtual 236, 3) := by decide +kernel
theorem dX11_years_35 : decode cX11_years 35 = .ok (.aload_n 0, 1) := by decide +kernel
theorem dX11_years_36 : decode cX11_years 36 = .ok (.getfield 52, 3) := by decide +kernel
theorem dX11_years_39 : decode cX11_years 39 = .ok (.aload_n 0, 1) := by decide +kernel
theorem dX11_years_40 : decode cX11_years 40 = .ok (.iconst 4, 1) := by decide +kernel
theorem dX11_years_41 : decode cX11_years 41 = .ok (.invokevirtual 269, 3) := by decide +kernel
theorem dX11_years_44 : decode cX11_years 44 = .ok (.putfield 147, 3) := by decide +kernel
theorem dX11_years_47 : decode cX11_years 47 = .ok (.aload_n 0, 1) := by decide +kernel
theorem dX11_years_48 : decode cX11_years 48 = .ok (.getfield 52, 3) := by decide +kernel
theorem dX11_years_51 : decode cX11_years 51 = .ok (.aload_n 0, 1) := by decide +kernel
theorem dX11_years_52 : decode cX11_years 52 = .ok (.bipush 10, 2) := by decide +kernel
theorem dX11_years_54 : decode cX11_years 54 = .ok (.invokevirtual 269, 3) := by decide +kernel
theorem dX11_years_57 : decode cX11_years 57 = .ok (.putfield 144, 3) := by decide +kernel
theorem dX11_years_60 : decode cX11_years 60 = .ok (.iconst 0, 1) := by decide +kernel
theorem dX11_years_61 : decode cX11_years 61 = .ok (.istore 5, 2) := by decide +kernel
theorem dX11_years_63 : decode cX11_years 63 = .ok (.iload 5, 2) := by decide +kernel
theorem dX11_years_65 : decode cX11_years 65 = .ok (.aload_n 0, 1) := by decide +kernel
theorem dX11_years_66 : decode cX11_years 66 = .ok (.getfield 19, 3) := by decide +kernel
theorem dX11_years_69 : decode cX11_years 69 = .ok (.getfield 272, 3) := by decide +kernel
theorem dX11_years_72 : decode cX11_years 72 = .ok (.if_icmp .ge 60, 3) := by decide +kernel
theorem dX11_years_75 : decode cX11_years 75 = .ok (.aload_n 0, 1) := by decide +kernel
theorem dX11_years_76 : decode cX11_years 76 = .ok (.aload_n 0, 1) := by decide +kernel
theorem dX11_years_77 : decode cX11_years 77 = .ok (.getfield 19, 3) := by decide +kernel
theorem dX11_years_80 : decode cX11_years 80 = .ok (.getfield 275, 3) := by decide +kernel
theorem dX11_years_83 : decode cX11_years 83 = .ok (.invokevirtual 269, 3) := by decide +kernel
theorem dX11_years_86 : decode cX11_years 86 = .ok (.istore 6, 2) := by decide +kernel
theorem dX11_years_88 : decode cX11_years 88 = .ok (.aload_n 0, 1) := by decide +kernel
theorem dX11_years_89 : decode cX11_years 89 = .ok (.getfield 52, 3) := by decide +kernel
theorem dX11_years_92 : decode cX11_years 92 = .ok (.getfield 206, 3) := by decide +kernel
theorem dX11_years_95 : decode cX11_years 95 = .ok (.iload 5, 2) := by decide +kernel
theorem dX11_years_97 : decode cX11_years 97 = .ok (.aload_n 0, 1) := by decide +kernel
theorem dX11_years_98 : decode cX11_years 98 = .ok (.getfield 19, 3) := by decide +kernel
theorem dX11_years_101 : decode cX11_years 101 = .ok (.iload 6, 2) := by decide +kernel
theorem dX11_years_103 : decode cX11_years 103 = .ok (.invokevirtual 169, 3) := by decide +kernel
theorem dX11_years_106 : decode cX11_years 106 = .ok (.iastore, 1) := by decide +kernel
theorem dX11_years_107 : decode cX11_years 107 = .ok (.aload_n 0, 1) := by decide +kernel
theorem dX11_years_108 : decode cX11_years 108 = .ok (.getfield 52, 3) := by decide +kernel
theorem dX11_years_111 : decode cX11_years 111 = .ok (.getfield 209, 3) := by decide +kernel
theorem dX11_years_114 : decode cX11_years 114 = .ok (.iload 5, 2) := by decide +kernel
theorem dX11_years_116 : decode cX11_years 116 = .ok (.aload_n 0, 1) := by decide +kernel
theorem dX11_years_117 : decode cX11_years 117 = .ok (.getfield 19, 3) := by decide +kernel
theorem dX11_years_120 : decode cX11_years 120 = .ok (.iload 6, 2) := by decide +kernel
theorem dX11_years_122 : decode cX11_years 122 = .ok (.invokevirtual 172, 3) := by decide +kernel
theorem dX11_years_125 : decode cX11_years 125 = .ok (.iastore, 1) := by decide +kernel
theorem dX11_years_126 : decode cX11_years 126 = .ok (.iinc 5 1, 3) := by decide +kernel
theorem dX11_years_129 : decode cX11_years 129 = .ok (.goto (-66), 3) := by decide +kernel
theorem dX11_years_132 : decode cX11_years 132 = .ok (.aload_n 0, 1) := by decide +kernel
theorem dX11_years_133 : decode cX11_years 133 = .ok (.invokevirtual 262, 3) := by decide +kernel
theorem dX11_years_136 : decode cX11_years 136 = .ok (.iinc 4 1, 3) := by decide +kernel
theorem dX11_years_139 : decode cX11_years 139 = .ok (.goto (-121), 3) := by decide +kernel
theorem dX11_years_142 : decode cX11_years 142 = .ok (.aload_n 0, 1) := by decide +kernel
theorem dX11_years_143 : decode cX11_years 143 = .ok (.getfield 52, 3) := by decide +kernel
theorem dX11_years_146 : decode cX11_years 146 = .ok (.getfield 156, 3) := by decide +kernel
theorem dX11_years_149 : decode cX11_years 149 = .ok (.ireturn, 1) := by decide +kernel
theorem dX11_undo_0 : decode cX11_undo 0 = .ok (.aload_n 0, 1) := by decide +kernel
theorem dX11_undo_1 : decode cX11_undo 1 = .ok (.getfield 62, 3) := by decide +kernel
theorem dX11_undo_4 : decode cX11_undo 4 = .ok (.aload_n 0, 1) := by decide +kernel
theorem dX11_undo_5 : decode cX11_undo 5 = .ok (.getfield 52, 3) := by decide +kernel
theorem dX11_undo_8 : decode cX11_undo 8 = .ok (.invokevirtual 278, 3) := by decide +kernel
theorem dX11_undo_11 : decode cX11_undo 11 = .ok (.ifCond .eq 13, 3) := by decide +kernel
theorem dX11_undo_14 : decode cX11_undo 14 = .ok (.aload_n 0, 1) := by decide +kernel
theorem dX11_undo_15 : decode cX11_undo 15 = .ok (.getfield 62, 3) := by decide +kernel
theorem dX11_undo_18 : decode cX11_undo 18 = .ok (.getfield 282, 3) := by decide +kernel
theorem dX11_undo_21 : decode cX11_undo 21 = .ok (.goto 4, 3) := by decide +kernel
theorem dX11_undo_24 : decode cX11_undo 24 = .ok (.iconst (-1), 1) := by decide +kernel
theorem dX11_undo_25 : decode cX11_undo 25 = .ok (.ireturn, 1) := by decide +kernel
theorem dX11_log_0 : decode cX11_log 0 = .ok (.iload_n 1, 1) := by decide +kernel
theorem dX11_log_1 : decode cX11_log 1 = .ok (.iconst 0, 1) := by decide +kernel
theorem dX11_log_2 : decode cX11_log 2 = .ok (.aload_n 0, 1) := by decide +kernel
theorem dX11_log_3 : decode cX11_log 3 = .ok (.getfield 52, 3) := by decide +kernel
theorem dX11_log_6 : decode cX11_log 6 = .ok (.invokevirtual 285, 3) := by decide +kernel
theorem dX11_log_9 : decode cX11_log 9 = .ok (.iconst 1, 1) := by decide +kernel
theorem dX11_log_10 : decode cX11_log 10 = .ok (.isub, 1) := by decide +kernel
theorem dX11_log_11 : decode cX11_log 11 = .ok (.invokestatic 111, 3) := by decide +kernel
theorem dX11_log_14 : decode cX11_log 14 = .ok (.ifCond .eq 12, 3) := by decide +kernel
theorem dX11_log_17 : decode cX11_log 17 = .ok (.iload_n 2, 1) := by decide +kernel
theorem dX11_log_18 : decode cX11_log 18 = .ok (.iconst 0, 1) := by decide +kernel
theorem dX11_log_19 : decode cX11_log 19 = .ok (.iconst 2, 1) := by decide +kernel
theorem dX11_log_20 : decode cX11_log 20 = .ok (.invokestatic 111, 3) := by decide +kernel
theorem dX11_log_23 : decode cX11_log 23 = .ok (.ifCond .ne 5, 3) := by decide +kernel
theorem dX11_log_26 : decode cX11_log 26 = .ok (.iconst (-1), 1) := by decide +kernel
theorem dX11_log_27 : decode cX11_log 27 = .ok (.ireturn, 1) := by decide +kernel
theorem dX11_log_28 : decode cX11_log 28 = .ok (.aload_n 0, 1) := by decide +kernel
theorem dX11_log_29 : decode cX11_log 29 = .ok (.getfield 62, 3) := by decide +kernel
theorem dX11_log_32 : decode cX11_log 32 = .ok (.aload_n 0, 1) := by decide +kernel
theorem dX11_log_33 : decode cX11_log 33 = .ok (.getfield 52, 3) := by decide +kernel
theorem dX11_log_36 : decode cX11_log 36 = .ok (.getfield 288, 3) := by decide +kernel
theorem dX11_log_39 : decode cX11_log 39 = .ok (.iconst 1, 1) := by decide +kernel
theorem dX11_log_40 : decode cX11_log 40 = .ok (.isub, 1) := by decide +kernel
theorem dX11_log_41 : decode cX11_log 41 = .ok (.iload_n 1, 1) := by decide +kernel
theorem dX11_log_42 : decode cX11_log 42 = .ok (.isub, 1) := by decide +kernel
theorem dX11_log_43 : decode cX11_log 43 = .ok (.iload_n 2, 1) := by decide +kernel
theorem dX11_log_44 : decode cX11_log 44 = .ok (.invokevirtual 291, 3) := by decide +kernel
theorem dX11_log_47 : decode cX11_log 47 = .ok (.ireturn, 1) := by decide +kernel
theorem dX11_step_0 : decode cX11_step 0 = .ok (.aload_n 0, 1) := by decide +kernel
theorem dX11_step_1 : decode cX11_step 1 = .ok (.iload_n 1, 1) := by decide +kernel
theorem dX11_step_2 : decode cX11_step 2 = .ok (.invokevirtual 293, 3) := by decide +kernel
theorem dX11_step_5 : decode cX11_step 5 = .ok (.ifCond .eq 31, 3) := by decide +kernel
theorem dX11_step_8 : decode cX11_step 8 = .ok (.iload_n 2, 1) := by decide +kernel
theorem dX11_step_9 : decode cX11_step 9 = .ok (.iconst 0, 1) := by decide +kernel
theorem dX11_step_10 : decode cX11_step 10 = .ok (.aload_n 0, 1) := by decide +kernel
theorem dX11_step_11 : decode cX11_step 11 = .ok (.getfield 35, 3) := by decide +kernel
theorem dX11_step_14 : decode cX11_step 14 = .ok (.iload_n 1, 1) := by decide +kernel
theorem dX11_step_15 : decode cX11_step 15 = .ok (.aaload, 1) := by decide +kernel
theorem dX11_step_16 : decode cX11_step 16 = .ok (.getfield 296, 3) := by decide +kernel
theorem dX11_step_19 : decode cX11_step 19 = .ok (.iconst 1, 1) := by decide +kernel
theorem dX11_step_20 : decode cX11_step 20 = .ok (.isub, 1) := by decide +kernel
theorem dX11_step_21 : decode cX11_step 21 = .ok (.invokestatic 111, 3) := by decide +kernel
theorem dX11_step_24 : decode cX11_step 24 = .ok (.ifCond .eq 12, 3) := by decide +kernel
theorem dX11_step_27 : decode cX11_step 27 = .ok (.iload_n 3, 1) := by decide +kernel
theorem dX11_step_28 : decode cX11_step 28 = .ok (.iconst 0, 1) := by decide +kernel
theorem dX11_step_29 : decode cX11_step 29 = .ok (.iconst 3, 1) := by decide +kernel
theorem dX11_step_30 : decode cX11_step 30 = .ok (.invokestatic 111, 3) := by decide +kernel
theorem dX11_step_33 : decode cX11_step 33 = .ok (.ifCond .ne 6, 3) := by decide +kernel
theorem dX11_step_36 : decode cX11_step 36 = .ok (.ldc 228, 2) := by decide +kernel
theorem dX11_step_38 : decode cX11_step 38 = .ok (.ireturn, 1) := by decide +kernel
theorem dX11_step_39 : decode cX11_step 39 = .ok (.aload_n 0, 1) := by decide +kernel
theorem dX11_step_40 : decode cX11_step 40 = .ok (.getfield 35, 3) := by decide +kernel
theorem dX11_step_43 : decode cX11_step 43 = .ok (.iload_n 1, 1) := by decide +kernel
theorem dX11_step_44 : decode cX11_step 44 = .ok (.aaload, 1) := by decide +kernel
theorem dX11_step_45 : decode cX11_step 45 = .ok (.iload_n 2, 1) := by decide +kernel
theorem dX11_step_46 : decode cX11_step 46 = .ok (.iload_n 3, 1) := by decide +kernel
theorem dX11_step_47 : decode cX11_step 47 = .ok (.invokevirtual 299, 3) := by decide +kernel
theorem dX11_step_50 : decode cX11_step 50 = .ok (.ireturn, 1) := by decide +kernel
theorem dX11_run_0 : decode cX11_run 0 = .ok (.aload_n 0, 1) := by decide +kernel
theorem dX11_run_1 : decode cX11_run 1 = .ok (.iload_n 1, 1) := by decide +kernel
theorem dX11_run_2 : decode cX11_run 2 = .ok (.invokevirtual 293, 3) := by decide +kernel
theorem dX11_run_5 : decode cX11_run 5 = .ok (.ifCond .eq 19, 3) := by decide +kernel
theorem dX11_run_8 : decode cX11_run 8 = .ok (.aload_n 0, 1) := by decide +kernel
theorem dX11_run_9 : decode cX11_run 9 = .ok (.invokevirtual 140, 3) := by decide +kernel
theorem dX11_run_12 : decode cX11_run 12 = .ok (.ifCond .eq 12, 3) := by decide +kernel
theorem dX11_run_15 : decode cX11_run 15 = .ok (.iload_n 2, 1) := by decide +kernel
theorem dX11_run_16 : decode cX11_run 16 = .ok (.iconst 0, 1) := by decide +kernel
theorem dX11_run_17 : decode cX11_run 17 = .ok (.iconst 1, 1) := by decide +kernel
theorem dX11_run_18 : decode cX11_run 18 = .ok (.invokestatic 111, 3) := by decide +kernel
theorem dX11_run_21 : decode cX11_run 21 = .ok (.ifCond .ne 6, 3) := by decide +kernel
theorem dX11_run_24 : decode cX11_run 24 = .ok (.ldc 228, 2) := by decide +kernel
theorem dX11_run_26 : decode cX11_run 26 = .ok (.ireturn, 1) := by decide +kernel
theorem dX11_run_27 : decode cX11_run 27 = .ok (.aload_n 0, 1) := by decide +kernel
theorem dX11_run_28 : decode cX11_run 28 = .ok (.getfield 35, 3) := by decide +kernel
theorem dX11_run_31 : decode cX11_run 31 = .ok (.iload_n 1, 1) := by decide +kernel
theorem dX11_run_32 : decode cX11_run 32 = .ok (.aaload, 1) := by decide +kernel
theorem dX11_run_33 : decode cX11_run 33 = .ok (.astore_n 3, 1) := by decide +kernel
theorem dX11_run_34 : decode cX11_run 34 = .ok (.aload_n 0, 1) := by decide +kernel
theorem dX11_run_35 : decode cX11_run 35 = .ok (.getfield 56, 3) := by decide +kernel
theorem dX11_run_38 : decode cX11_run 38 = .ok (.aload_n 0, 1) := by decide +kernel
theorem dX11_run_39 : decode cX11_run 39 = .ok (.getfield 52, 3) := by decide +kernel
theorem dX11_run_42 : decode cX11_run 42 = .ok (.invokevirtual 302, 3) := by decide +kernel
theorem dX11_run_45 : decode cX11_run 45 = .ok (.iconst 0, 1) := by decide +kernel
theorem dX11_run_46 : decode cX11_run 46 = .ok (.istore 4, 2) := by decide +kernel
theorem dX11_run_48 : decode cX11_run 48 = .ok (.iconst 0, 1) := by decide +kernel
theorem dX11_run_49 : decode cX11_run 49 = .ok (.istore 5, 2) := by decide +kernel
theorem dX11_run_51 : decode cX11_run 51 = .ok (.iload 4, 2) := by decide +kernel
theorem dX11_run_53 : decode cX11_run 53 = .ok (.aload_n 3, 1) := by decide +kernel
theorem dX11_run_54 : decode cX11_run 54 = .ok (.getfield 296, 3) := by decide +kernel
theorem dX11_run_57 : decode cX11_run 57 = .ok (.if_icmp .ge 73, 3) := by decide +kernel
theorem dX11_run_60 : decode cX11_run 60 = .ok (.aload_n 0, 1) := by decide +kernel
theorem dX11_run_61 : decode cX11_run 61 = .ok (.aload_n 0, 1) := by decide +kernel
theorem dX11_run_62 : decode cX11_run 62 = .ok (.getfield 56, 3) := by decide +kernel
theorem dX11_run_65 : decode cX11_run 65 = .ok (.aload_n 3, 1) := by decide +kernel
theorem dX11_run_66 : decode cX11_run 66 = .ok (.iload 4, 2) := by decide +kernel
theorem dX11_run_68 : decode cX11_run 68 = .ok (.invokevirtual 305, 3) := by decide +kernel
theorem dX11_run_71 : decode cX11_run 71 = .ok (.ifCond .eq 59, 3) := by decide +kernel
theorem dX11_run_74 : decode cX11_run 74 = .ok (.aload_n 3, 1) := by decide +kernel
theorem dX11_run_75 : decode cX11_run 75 = .ok (.iload 4, 2) := by decide +kernel
theorem dX11_run_77 : decode cX11_run 77 = .ok (.iconst 0, 1) := by decide +kernel
theorem dX11_run_78 : decode cX11_run 78 = .ok (.invokevirtual 299, 3) := by decide +kernel
theorem dX11_run_81 : decode cX11_run 81 = .ok (.iconst 1, 1) := by decide +kernel
theorem dX11_run_82 : decode cX11_run 82 = .ok (.if_icmp .ne 6, 3) := by decide +kernel
theorem dX11_run_85 : decode cX11_run 85 = .ok (.iinc 5 1, 3) := by decide +kernel
theorem dX11_run_88 : decode cX11_run 88 = .ok (.aload_n 3, 1) := by decide +kernel
theorem dX11_run_89 : decode cX11_run 89 = .ok (.iload 4, 2) := by decide +kernel
theorem dX11_run_91 : decode cX11_run 91 = .ok (.iconst 0, 1) := by decide +kernel
theorem dX11_run_92 : decode cX11_run 92 = .ok (.invokevirtual 299, 3) := by decide +kernel
theorem dX11_run_95 : decode cX11_run 95 = .ok (.iconst 3, 1) := by decide +kernel
theorem dX11_run_96 : decode cX11_run 96 = .ok (.if_icmp .ne 17, 3) := by decide +kernel
theorem dX11_run_99 : decode cX11_run 99 = .ok (.aload_n 0, 1) := by decide +kernel
theorem dX11_run_100 : decode cX11_run 100 = .ok (.aload_n 3, 1) := by decide +kernel
theorem dX11_run_101 : decode cX11_run 101 = .ok (.iload 4, 2) := by decide +kernel
theorem dX11_run_103 : decode cX11_run 103 = .ok (.iconst 1, 1) := by decide +kernel
theorem dX11_run_104 : decode cX11_run 104 = .ok (.invokevirtual 299, 3) := by decide +kernel
theorem dX11_run_107 : decode cX11_run 107 = .ok (.invokevirtual 309, 3) := by decide +kernel
theorem dX11_run_110 : decode cX11_run 110 = .ok (.goto 14, 3) := by decide +kernel
theorem dX11_run_113 : decode cX11_run 113 = .ok (.aload_n 0, 1) := by decide +kernel
theorem dX11_run_114 : decode cX11_run 114 = .ok (.aload_n 0, 1) := by decide +kernel
theorem dX11_run_115 : decode cX11_run 115 = .ok (.getfield 56, 3) := by decide +kernel
theorem dX11_run_118 : decode cX11_run 118 = .ok (.aload_n 3, 1) := by decide +kernel
theorem dX11_run_119 : decode cX11_run 119 = .ok (.iload 4, 2) := by decide +kernel
theorem dX11_run_121 : decode cX11_run 121 = .ok (.invokevirtual 312, 3) := by decide +kernel
theorem dX11_run_124 : decode cX11_run 124 = .ok (.iinc 4 1, 3) := by decide +kernel
theorem dX11_run_127 : decode cX11_run 127 = .ok (.goto (-76), 3) := by decide +kernel
theorem dX11_run_130 : decode cX11_run 130 = .ok (.iload_n 2, 1) := by decide +kernel
theorem dX11_run_131 : decode cX11_run 131 = .ok (.iconst 1, 1) := by decide +kernel
theorem dX11_run_132 : decode cX11_run 132 = .ok (.if_icmp .ne 6, 3) := by decide +kernel
theorem dX11_run_135 : decode cX11_run 135 = .ok (.iload 5, 2) := by decide +kernel
theorem dX11_run_137 : decode cX11_run 137 = .ok (.ireturn, 1) := by decide +kernel
theorem dX11_run_138 : decode cX11_run 138 = .ok (.iload 4, 2) := by decide +kernel
theorem dX11_run_140 : decode cX11_run 140 = .ok (.aload_n 3, 1) := by decide +kernel
theorem dX11_run_141 : decode cX11_run 141 = .ok (.getfield 296, 3) := by decide +kernel
theorem dX11_run_144 : decode cX11_run 144 = .ok (.if_icmp .ne 7, 3) := by decide +kernel
theorem dX11_run_147 : decode cX11_run 147 = .ok (.iconst (-1), 1) := by decide +kernel
theorem dX11_run_148 : decode cX11_run 148 = .ok (.goto 5, 3) := by decide +kernel
theorem dX11_run_151 : decode cX11_run 151 = .ok (.iload 4, 2) := by decide +kernel
theorem dX11_run_153 : decode cX11_run 153 = .ok (.ireturn, 1) := by decide +kernel
theorem dX11_perform_0 : decode cX11_perform 0 = .ok (.aload_n 0, 1) := by decide +kernel
theorem dX11_perform_1 : decode cX11_perform 1 = .ok (.iload_n 1, 1) := by decide +kernel
theorem dX11_perform_2 : decode cX11_perform 2 = .ok (.invokevirtual 293, 3) := by decide +kernel
theorem dX11_perform_5 : decode cX11_perform 5 = .ok (.ifCond .eq 10, 3) := by decide +kernel
theorem dX11_perform_8 : decode cX11_perform 8 = .ok (.aload_n 0, 1) := by decide +kernel
theorem dX11_perform_9 : decode cX11_perform 9 = .ok (.invokevirtual 140, 3) := by decide +kernel
theorem dX11_perform_12 : decode cX11_perform 12 = .ok (.ifCond .ne 5, 3) := by decide +kernel
theorem dX11_perform_15 : decode cX11_perform 15 = .ok (.iconst (-1), 1) := by decide +kernel
theorem dX11_perform_16 : decode cX11_perform 16 = .ok (.ireturn, 1) := by decide +kernel
theorem dX11_perform_17 : decode cX11_perform 17 = .ok (.aload_n 0, 1) := by decide +kernel
theorem dX11_perform_18 : decode cX11_perform 18 = .ok (.getfield 35, 3) := by decide +kernel
theorem dX11_perform_21 : decode cX11_perform 21 = .ok (.iload_n 1, 1) := by decide +kernel
theorem dX11_perform_22 : decode cX11_perform 22 = .ok (.aaload, 1) := by decide +kernel
theorem dX11_perform_23 : decode cX11_perform 23 = .ok (.astore_n 2, 1) := by decide +kernel
theorem dX11_perform_24 : decode cX11_perform 24 = .ok (.iconst 0, 1) := by decide +kernel
theorem dX11_perform_25 : decode cX11_perform 25 = .ok (.istore_n 3, 1) := by decide +kernel
theorem dX11_perform_26 : decode cX11_perform 26 = .ok (.iload_n 3, 1) := by decide +kernel
theorem dX11_perform_27 : decode cX11_perform 27 = .ok (.aload_n 2, 1) := by decide +kernel
theorem dX11_perform_28 : decode cX11_perform 28 = .ok (.getfield 296, 3) := by decide +kernel
theorem dX11_perform_31 : decode cX11_perform 31 = .ok (.if_icmp .ge 104, 3) := by decide +kernel
theorem dX11_perform_34 : decode cX11_perform 34 = .ok (.aload_n 0, 1) := by decide +kernel
theorem dX11_perform_35 : decode cX11_perform 35 = .ok (.aload_n 0, 1) := by decide +kernel
theorem dX11_perform_36 : decode cX11_perform 36 = .ok (.getfield 52, 3) := by decide +kernel
theorem dX11_perform_39 : decode cX11_perform 39 = .ok (.aload_n 2, 1) := by decide +kernel
theorem dX11_perform_40 : decode cX11_perform 40 = .ok (.iload_n 3, 1) := by decide +kernel
theorem dX11_perform_41 : decode cX11_perform 41 = .ok (.invokevirtual 305, 3) := by decide +kernel
theorem dX11_perform_44 : decode cX11_perform 44 = .ok (.ifCond .eq 91, 3) := by decide +kernel
theorem dX11_perform_47 : decode cX11_perform 47 = .ok (.aload_n 2, 1) := by decide +kernel
theorem dX11_perform_48 : decode cX11_perform 48 = .ok (.iload_n 3, 1) := by decide +kernel
theorem dX11_perform_49 : decode cX11_perform 49 = .ok (.iconst 0, 1) := by decide +kernel
theorem dX11_perform_50 : decode cX11_perform 50 = .ok (.invokevirtual 299, 3) := by decide +kernel
theorem dX11_perform_53 : decode cX11_perform 53 = .ok (.iconst 3, 1) := by decide +kernel
theorem dX11_perform_54 : decode cX11_perform 54 = .ok (.if_icmp .ne 54, 3) := by decide +kernel
theorem dX11_perform_57 : decode cX11_perform 57 = .ok (.iconst 0, 1) := by decide +kernel
theorem dX11_perform_58 : decode cX11_perform 58 = .ok (.istore 4, 2) := by decide +kernel
theorem dX11_perform_60 : decode cX11_perform 60 = .ok (.iload 4, 2) := by decide +kernel
theorem dX11_perform_62 : decode cX11_perform 62 = .ok (.aload_n 2, 1) := by decide +kernel
theorem dX11_perform_63 : decode cX11_perform 63 = .ok (.iload_n 3, 1) := by decide +kernel
theorem dX11_perform_64 : decode cX11_perform 64 = .ok (.iconst 1, 1) := by decide +kernel
theorem dX11_perform_65 : decode cX11_perform 65 = .ok (.invokevirtual 299, 3) := by decide +kernel
theorem dX11_perform_68 : decode cX11_perform 68 = .ok (.if_icmp .ge 37, 3) := by decide +kernel
theorem dX11_perform_71 : decode cX11_perform 71 = .ok (.aload_n 0, 1) := by decide +kernel
theorem dX11_perform_72 : decode cX11_perform 72 = .ok (.getfield 52, 3) := by decide +kernel
theorem dX11_perform_75 : decode cX11_perform 75 = .ok (.getfield 156, 3) := by decide +kernel
theorem dX11_perform_78 : decode cX11_perform 78 = .ok (.sipush 9999, 3) := by decide +kernel
theorem dX11_perform_81 : decode cX11_perform 81 = .ok (.if_icmp .ge 24, 3) := by decide +kernel
theorem dX11_perform_84 : decode cX11_perform 84 = .ok (.aload_n 0, 1) := by decide +kernel
theorem dX11_perform_85 : decode cX11_perform 85 = .ok (.getfield 62, 3) := by decide +kernel
theorem dX11_perform_88 : decode cX11_perform 88 = .ok (.aload_n 0, 1) := by decide +kernel
theorem dX11_perform_89 : decode cX11_perform 89 = .ok (.getfield 52, 3) := by decide +kernel
theorem dX11_perform_92 : decode cX11_perform 92 = .ok (.invokevirtual 236, 3) := by decide +kernel
theorem dX11_perform_95 : decode cX11_perform 95 = .ok (.aload_n 0, 1) := by decide +kernel
theorem dX11_perform_96 : decode cX11_perform 96 = .ok (.invokevirtual 262, 3) := by decide +kernel
theorem dX11_perform_99 : decode cX11_perform 99 = .ok (.iinc 4 1, 3) := by decide +kernel
theorem dX11_perform_102 : decode cX11_perform 102 = .ok (.goto (-42), 3) := by decide +kernel
theorem dX11_perform_105 : decode cX11_perform 105 = .ok (.goto 24, 3) := by decide +kernel
theorem dX11_perform_108 : decode cX11_perform 108 = .ok (.aload_n 0, 1) := by decide +kernel
theorem dX11_perform_109 : decode cX11_perform 109 = .ok (.getfield 62, 3) := by decide +kernel
theorem dX11_perform_112 : decode cX11_perform 112 = .ok (.aload_n 0, 1) := by decide +kernel
theorem dX11_perform_113 : decode cX11_perform 113 = .ok (.getfield 52, 3) := by decide +kernel
theorem dX11_perform_116 : decode cX11_perform 116 = .ok (.invokevirtual 236, 3) := by decide +kernel
theorem dX11_perform_119 : decode cX11_perform 119 = .ok (.aload_n 0, 1) := by decide +kernel
theorem dX11_perform_120 : decode cX11_perform 120 = .ok (.aload_n 0, 1) := by decide +kernel
theorem dX11_perform_121 : decode cX11_perform 121 = .ok (.getfield 52, 3) := by decide +kernel
theorem dX11_perform_124 : decode cX11_perform 124 = .ok (.aload_n 2, 1) := by decide +kernel
theorem dX11_perform_125 : decode cX11_perform 125 = .ok (.iload_n 3, 1) := by decide +kernel
theorem dX11_perform_126 : decode cX11_perform 126 = .ok (.invokevirtual 312, 3) := by decide +kernel
theorem dX11_perform_129 : decode cX11_perform 129 = .ok (.iinc 3 1, 3) := by decide +kernel
theorem dX11_perform_132 : decode cX11_perform 132 = .ok (.goto (-106), 3) := by decide +kernel
theorem dX11_perform_135 : decode cX11_perform 135 = .ok (.iload_n 3, 1) := by decide +kernel
theorem dX11_perform_136 : decode cX11_perform 136 = .ok (.ireturn, 1) := by decide +kernel
theorem dX11_votes_0 : decode cX11_votes 0 = .ok (.aload_n 0, 1) := by decide +kernel
theorem dX11_votes_1 : decode cX11_votes 1 = .ok (.iload_n 1, 1) := by decide +kernel
theorem dX11_votes_2 : decode cX11_votes 2 = .ok (.invokevirtual 191, 3) := by decide +kernel
theorem dX11_votes_5 : decode cX11_votes 5 = .ok (.ifCond .ne 5, 3) := by decide +kernel
theorem dX11_votes_8 : decode cX11_votes 8 = .ok (.iconst (-1), 1) := by decide +kernel
theorem dX11_votes_9 : decode cX11_votes 9 = .ok (.ireturn, 1) := by decide +kernel
theorem dX11_votes_10 : decode cX11_votes 10 = .ok (.aload_n 0, 1) := by decide +kernel
theorem dX11_votes_11 : decode cX11_votes 11 = .ok (.getfield 45, 3) := by decide +kernel
theorem dX11_votes_14 : decode cX11_votes 14 = .ok (.aload_n 0, 1) := by decide +kernel
theorem dX11_votes_15 : decode cX11_votes 15 = .ok (.getfield 52, 3) := by decide +kernel
theorem dX11_votes_18 : decode cX11_votes 18 = .ok (.invokevirtual 316, 3) := by decide +kernel
theorem dX11_votes_21 : decode cX11_votes 21 = .ok (.aload_n 0, 1) := by decide +kernel
theorem dX11_votes_22 : decode cX11_votes 22 = .ok (.getfield 45, 3) := by decide +kernel
theorem dX11_votes_25 : decode cX11_votes 25 = .ok (.getfield 319, 3) := by decide +kernel
theorem dX11_votes_28 : decode cX11_votes 28 = .ok (.iload_n 1, 1) := by decide +kernel
theorem dX11_votes_29 : decode cX11_votes 29 = .ok (.iaload, 1) := by decide +kernel
theorem dX11_votes_30 : decode cX11_votes 30 = .ok (.ireturn, 1) := by decide +kernel
theorem dX11_leader_0 : decode cX11_leader 0 = .ok (.aload_n 0, 1) := by decide +kernel
theorem dX11_leader_1 : decode cX11_leader 1 = .ok (.invokevirtual 140, 3) := by decide +kernel
theorem dX11_leader_4 : decode cX11_leader 4 = .ok (.ifCond .ne 5, 3) := by decide +kernel
theorem dX11_leader_7 : decode cX11_leader 7 = .ok (.iconst (-1), 1) := by decide +kernel
theorem dX11_leader_8 : decode cX11_leader 8 = .ok (.ireturn, 1) := by decide +kernel
theorem dX11_leader_9 : decode cX11_leader 9 = .ok (.aload_n 0, 1) := by decide +kernel
theorem dX11_leader_10 : decode cX11_leader 10 = .ok (.getfield 45, 3) := by decide +kernel
theorem dX11_leader_13 : decode cX11_leader 13 = .ok (.aload_n 0, 1) := by decide +kernel
theorem dX11_leader_14 : decode cX11_leader 14 = .ok (.getfield 52, 3) := by decide +kernel
theorem dX11_leader_17 : decode cX11_leader 17 = .ok (.invokevirtual 316, 3) := by decide +kernel
theorem dX11_leader_20 : decode cX11_leader 20 = .ok (.aload_n 0, 1) := by decide +kernel
theorem dX11_leader_21 : decode cX11_leader 21 = .ok (.getfield 45, 3) := by decide +kernel
theorem dX11_leader_24 : decode cX11_leader 24 = .ok (.invokevirtual 322, 3) := by decide +kernel
theorem dX11_leader_27 : decode cX11_leader 27 = .ok (.ireturn, 1) := by decide +kernel
theorem dX11_ahead_0 : decode cX11_ahead 0 = .ok (.aload_n 0, 1) := by decide +kernel
theorem dX11_ahead_1 : decode cX11_ahead 1 = .ok (.iload_n 1, 1) := by decide +kernel
theorem dX11_ahead_2 : decode cX11_ahead 2 = .ok (.invokevirtual 163, 3) := by decide +kernel
theorem dX11_ahead_5 : decode cX11_ahead 5 = .ok (.ifCond .eq 13, 3) := by decide +kernel
theorem dX11_ahead_8 : decode cX11_ahead 8 = .ok (.iload_n 2, 1) := by decide +kernel
theorem dX11_ahead_9 : decode cX11_ahead 9 = .ok (.iconst 0, 1) := by decide +kernel
theorem dX11_ahead_10 : decode cX11_ahead 10 = .ok (.bipush 60, 2) := by decide +kernel
theorem dX11_ahead_12 : decode cX11_ahead 12 = .ok (.invokestatic 111, 3) := by decide +kernel
theorem dX11_ahead_15 : decode cX11_ahead 15 = .ok (.ifCond .ne 6, 3) := by decide +kernel
theorem dX11_ahead_18 : decode cX11_ahead 18 = .ok (.ldc 228, 2) := by decide +kernel
theorem dX11_ahead_20 : decode cX11_ahead 20 = .ok (.ireturn, 1) := by decide +kernel
theorem dX11_ahead_21 : decode cX11_ahead 21 = .ok (.aload_n 0, 1) := by decide +kernel
theorem dX11_ahead_22 : decode cX11_ahead 22 = .ok (.getfield 56, 3) := by decide +kernel
theorem dX11_ahead_25 : decode cX11_ahead 25 = .ok (.aload_n 0, 1) := by decide +kernel
theorem dX11_ahead_26 : decode cX11_ahead 26 = .ok (.getfield 52, 3) := by decide +kernel
theorem dX11_ahead_29 : decode cX11_ahead 29 = .ok (.invokevirtual 302, 3) := by decide +kernel
theorem dX11_ahead_32 : decode cX11_ahead 32 = .ok (.aload_n 0, 1) := by decide +kernel
theorem dX11_ahead_33 : decode cX11_ahead 33 = .ok (.iload_n 2, 1) := by decide +kernel
theorem dX11_ahead_34 : decode cX11_ahead 34 = .ok (.invokevirtual 309, 3) := by decide +kernel
theorem dX11_ahead_37 : decode cX11_ahead 37 = .ok (.aload_n 0, 1) := by decide +kernel
theorem dX11_ahead_38 : decode cX11_ahead 38 = .ok (.getfield 45, 3) := by decide +kernel
theorem dX11_ahead_41 : decode cX11_ahead 41 = .ok (.aload_n 0, 1) := by decide +kernel
theorem dX11_ahead_42 : decode cX11_ahead 42 = .ok (.getfield 56, 3) := by decide +kernel
theorem dX11_ahead_45 : decode cX11_ahead 45 = .ok (.iload_n 1, 1) := by decide +kernel
theorem dX11_ahead_46 : decode cX11_ahead 46 = .ok (.invokevirtual 184, 3) := by decide +kernel
theorem dX11_ahead_49 : decode cX11_ahead 49 = .ok (.ireturn, 1) := by decide +kernel
theorem dX11_soon_0 : decode cX11_soon 0 = .ok (.aload_n 0, 1) := by decide +kernel
theorem dX11_soon_1 : decode cX11_soon 1 = .ok (.iload_n 1, 1) := by decide +kernel
theorem dX11_soon_2 : decode cX11_soon 2 = .ok (.invokevirtual 191, 3) := by decide +kernel
theorem dX11_soon_5 : decode cX11_soon 5 = .ok (.ifCond .eq 11, 3) := by decide +kernel
theorem dX11_soon_8 : decode cX11_soon 8 = .ok (.aload_n 0, 1) := by decide +kernel
theorem dX11_soon_9 : decode cX11_soon 9 = .ok (.iload_n 2, 1) := by decide +kernel
theorem dX11_soon_10 : decode cX11_soon 10 = .ok (.invokevirtual 163, 3) := by decide +kernel
theorem dX11_soon_13 : decode cX11_soon 13 = .ok (.ifCond .ne 5, 3) := by decide +kernel
theorem dX11_soon_16 : decode cX11_soon 16 = .ok (.iconst (-1), 1) := by decide +kernel
theorem dX11_soon_17 : decode cX11_soon 17 = .ok (.ireturn, 1) := by decide +kernel
theorem dX11_soon_18 : decode cX11_soon 18 = .ok (.aload_n 0, 1) := by decide +kernel
theorem dX11_soon_19 : decode cX11_soon 19 = .ok (.getfield 52, 3) := by decide +kernel
theorem dX11_soon_22 : decode cX11_soon 22 = .ok (.iload_n 1, 1) := by decide +kernel
theorem dX11_soon_23 : decode cX11_soon 23 = .ok (.aload_n 0, 1) := by decide +kernel
theorem dX11_soon_24 : decode cX11_soon 24 = .ok (.getfield 19, 3) := by decide +kernel
theorem dX11_soon_27 : decode cX11_soon 27 = .ok (.iload_n 2, 1) := by decide +kernel
theorem dX11_soon_28 : decode cX11_soon 28 = .ok (.invokevirtual 169, 3) := by decide +kernel
theorem dX11_soon_31 : decode cX11_soon 31 = .ok (.aload_n 0, 1) := by decide +kernel
theorem dX11_soon_32 : decode cX11_soon 32 = .ok (.getfield 19, 3) := by decide +kernel
theorem dX11_soon_35 : decode cX11_soon 35 = .ok (.iload_n 2, 1) := by decide +kernel
theorem dX11_soon_36 : decode cX11_soon 36 = .ok (.invokevirtual 172, 3) := by decide +kernel
theorem dX11_soon_39 : decode cX11_soon 39 = .ok (.invokevirtual 240, 3) := by decide +kernel
theorem dX11_soon_42 : decode cX11_soon 42 = .ok (.aload_n 0, 1) := by decide +kernel
theorem dX11_soon_43 : decode cX11_soon 43 = .ok (.getfield 19, 3) := by decide +kernel
theorem dX11_soon_46 : decode cX11_soon 46 = .ok (.iload_n 1, 1) := by decide +kernel
theorem dX11_soon_47 : decode cX11_soon 47 = .ok (.invokevirtual 200, 3) := by decide +kernel
theorem dX11_soon_50 : decode cX11_soon 50 = .ok (.invokestatic 244, 3) := by decide +kernel
theorem dX11_soon_53 : decode cX11_soon 53 = .ok (.ireturn, 1) := by decide +kernel
theorem dX11_round_0 : decode cX11_round 0 = .ok (.aload_n 0, 1) := by decide +kernel
theorem dX11_round_1 : decode cX11_round 1 = .ok (.iload_n 1, 1) := by decide +kernel
theorem dX11_round_2 : decode cX11_round 2 = .ok (.invokevirtual 191, 3) := by decide +kernel
theorem dX11_round_5 : decode cX11_round 5 = .ok (.ifCond .eq 31, 3) := by decide +kernel
theorem dX11_round_8 : decode cX11_round 8 = .ok (.iload_n 2, 1) := by decide +kernel
theorem dX11_round_9 : decode cX11_round 9 = .ok (.iconst 0, 1) := by decide +kernel
theorem dX11_round_10 : decode cX11_round 10 = .ok (.iconst 1, 1) := by decide +kernel
theorem dX11_round_11 : decode cX11_round 11 = .ok (.aload_n 0, 1) := by decide +kernel
theorem dX11_round_12 : decode cX11_round 12 = .ok (.getfield 19, 3) := by decide +kernel
theorem dX11_round_15 : decode cX11_round 15 = .ok (.getfield 275, 3) := by decide +kernel
theorem dX11_round_18 : decode cX11_round 18 = .ok (.ishl, 1) := by decide +kernel
theorem dX11_round_19 : decode cX11_round 19 = .ok (.iconst 1, 1) := by decide +kernel
theorem dX11_round_20 : decode cX11_round 20 = .ok (.isub, 1) := by decide +kernel
theorem dX11_round_21 : decode cX11_round 21 = .ok (.invokestatic 111, 3) := by decide +kernel
theorem dX11_round_24 : decode cX11_round 24 = .ok (.ifCond .eq 12, 3) := by decide +kernel
theorem dX11_round_27 : decode cX11_round 27 = .ok (.iload_n 3, 1) := by decide +kernel
theorem dX11_round_28 : decode cX11_round 28 = .ok (.iconst 0, 1) := by decide +kernel
theorem dX11_round_29 : decode cX11_round 29 = .ok (.iconst 1, 1) := by decide +kernel
theorem dX11_round_30 : decode cX11_round 30 = .ok (.invokestatic 111, 3) := by decide +kernel
theorem dX11_round_33 : decode cX11_round 33 = .ok (.ifCond .ne 5, 3) := by decide +kernel
theorem dX11_round_36 : decode cX11_round 36 = .ok (.iconst (-1), 1) := by decide +kernel
theorem dX11_round_37 : decode cX11_round 37 = .ok (.ireturn, 1) := by decide +kernel
theorem dX11_round_38 : decode cX11_round 38 = .ok (.aload_n 0, 1) := by decide +kernel
theorem dX11_round_39 : decode cX11_round 39 = .ok (.getfield 87, 3) := by decide +kernel
theorem dX11_round_42 : decode cX11_round 42 = .ok (.aload_n 0, 1) := by decide +kernel
theorem dX11_round_43 : decode cX11_round 43 = .ok (.getfield 52, 3) := by decide +kernel
theorem dX11_round_46 : decode cX11_round 46 = .ok (.iload_n 1, 1) := by decide +kernel
theorem dX11_round_47 : decode cX11_round 47 = .ok (.iload_n 2, 1) := by decide +kernel
theorem dX11_round_48 : decode cX11_round 48 = .ok (.invokevirtual 325, 3) := by decide +kernel
theorem dX11_round_51 : decode cX11_round 51 = .ok (.iload_n 3, 1) := by decide +kernel
theorem dX11_round_52 : decode cX11_round 52 = .ok (.ifCond .ne 14, 3) := by decide +kernel
theorem dX11_round_55 : decode cX11_round 55 = .ok (.aload_n 0, 1) := by decide +kernel
theorem dX11_round_56 : decode cX11_round 56 = .ok (.getfield 87, 3) := by decide +kernel
theorem dX11_round_59 : decode cX11_round 59 = .ok (.iload_n 2, 1) := by decide +kernel
theorem dX11_round_60 : decode cX11_round 60 = .ok (.invokevirtual 329, 3) := by decide +kernel
theorem dX11_round_63 : decode cX11_round 63 = .ok (.goto 11, 3) := by decide +kernel
theorem dX11_round_66 : decode cX11_round 66 = .ok (.aload_n 0, 1) := by decide +kernel
theorem dX11_round_67 : decode cX11_round 67 = .ok (.getfield 87, 3) := by decide +kernel
theorem dX11_round_70 : decode cX11_round 70 = .ok (.iload_n 2, 1) := by decide +kernel
theorem dX11_round_71 : decode cX11_round 71 = .ok (.invokevirtual 332, 3) := by decide +kernel
theorem dX11_round_74 : decode cX11_round 74 = .ok (.ireturn, 1) := by decide +kernel
theorem dX11_best_0 : decode cX11_best 0 = .ok (.aload_n 0, 1) := by decide +kernel
theorem dX11_best_1 : decode cX11_best 1 = .ok (.iload_n 1, 1) := by decide +kernel
theorem dX11_best_2 : decode cX11_best 2 = .ok (.invokevirtual 191, 3) := by decide +kernel
theorem dX11_best_5 : decode cX11_best 5 = .ok (.ifCond .eq 12, 3) := by decide +kernel
theorem dX11_best_8 : decode cX11_best 8 = .ok (.iload_n 2, 1) := by decide +kernel
theorem dX11_best_9 : decode cX11_best 9 = .ok (.iconst 0, 1) := by decide +kernel
theorem dX11_best_10 : decode cX11_best 10 = .ok (.iconst 1, 1) := by decide +kernel
theorem dX11_best_11 : decode cX11_best 11 = .ok (.invokestatic 111, 3) := by decide +kernel
theorem dX11_best_14 : decode cX11_best 14 = .ok (.ifCond .ne 5, 3) := by decide +kernel
theorem dX11_best_17 : decode cX11_best 17 = .ok (.iconst (-1), 1) := by decide +kernel
theorem dX11_best_18 : decode cX11_best 18 = .ok (.ireturn, 1) := by decide +kernel
theorem dX11_best_19 : decode cX11_best 19 = .ok (.aload_n 0, 1) := by decide +kernel
theorem dX11_best_20 : decode cX11_best 20 = .ok (.getfield 56, 3) := by decide +kernel
theorem dX11_best_23 : decode cX11_best 23 = .ok (.aload_n 0, 1) := by decide +kernel
theorem dX11_best_24 : decode cX11_best 24 = .ok (.getfield 52, 3) := by decide +kernel
theorem dX11_best_27 : decode cX11_best 27 = .ok (.invokevirtual 302, 3) := by decide +kernel
theorem dX11_best_30 : decode cX11_best 30 = .ok (.aload_n 0, 1) := by decide +kernel
theorem dX11_best_31 : decode cX11_best 31 = .ok (.getfield 45, 3) := by decide +kernel
theorem dX11_best_34 : decode cX11_best 34 = .ok (.aload_n 0, 1) := by decide +kernel
theorem dX11_best_35 : decode cX11_best 35 = .ok (.getfield 56, 3) := by decide +kernel
theorem dX11_best_38 : decode cX11_best 38 = .ok (.iload_n 1, 1) := by decide +kernel
theorem dX11_best_39 : decode cX11_best 39 = .ok (.invokevirtual 335, 3) := by decide +kernel
theorem dX11_best_42 : decode cX11_best 42 = .ok (.iconst 0, 1) := by decide +kernel
theorem dX11_best_43 : decode cX11_best 43 = .ok (.istore_n 3, 1) := by decide +kernel
theorem dX11_best_44 : decode cX11_best 44 = .ok (.iconst (-1), 1) := by decide +kernel
theorem dX11_best_45 : decode cX11_best 45 = .ok (.istore 4, 2) := by decide +kernel
theorem dX11_best_47 : decode cX11_best 47 = .ok (.iconst 0, 1) := by decide +kernel
theorem dX11_best_48 : decode cX11_best 48 = .ok (.istore 5, 2) := by decide +kernel
theorem dX11_best_50 : decode cX11_best 50 = .ok (.iload 5, 2) := by decide +kernel
theorem dX11_best_52 : decode cX11_best 52 = .ok (.bipush 100, 2) := by decide +kernel
theorem dX11_best_54 : decode cX11_best 54 = .ok (.if_icmp .ge 65, 3) := by decide +kernel
theorem dX11_best_57 : decode cX11_best 57 = .ok (.aload_n 0, 1) := by decide +kernel
theorem dX11_best_58 : decode cX11_best 58 = .ok (.getfield 56, 3) := by decide +kernel
theorem dX11_best_61 : decode cX11_best 61 = .ok (.getfield 194, 3) := by decide +kernel
theorem dX11_best_64 : decode cX11_best 64 = .ok (.iload_n 1, 1) := by decide +kernel
theorem dX11_best_65 : decode cX11_best 65 = .ok (.iload 5, 2) := by decide +kernel
theorem dX11_best_67 : decode cX11_best 67 = .ok (.bipush 10, 2) := by decide +kernel
theorem dX11_best_69 : decode cX11_best 69 = .ok (.irem, 1) := by decide +kernel
theorem dX11_best_70 : decode cX11_best 70 = .ok (.iastore, 1) := by decide +kernel
theorem dX11_best_71 : decode cX11_best 71 = .ok (.aload_n 0, 1) := by decide +kernel
theorem dX11_best_72 : decode cX11_best 72 = .ok (.getfield 56, 3) := by decide +kernel
theorem dX11_best_75 : decode cX11_best 75 = .ok (.getfield 197, 3) := by decide +kernel
theorem dX11_best_78 : decode cX11_best 78 = .ok (.iload_n 1, 1) := by decide +kernel
theorem dX11_best_79 : decode cX11_best 79 = .ok (.iload 5, 2) := by decide +kernel
theorem dX11_best_81 : decode cX11_best 81 = .ok (.bipush 10, 2) := by decide +kernel
theorem dX11_best_83 : decode cX11_best 83 = .ok (.idiv, 1) := by decide +kernel
theorem dX11_best_84 : decode cX11_best 84 = .ok (.iastore, 1) := by decide +kernel
theorem dX11_best_85 : decode cX11_best 85 = .ok (.aload_n 0, 1) := by decide +kernel
theorem dX11_best_86 : decode cX11_best 86 = .ok (.getfield 45, 3) := by decide +kernel
theorem dX11_best_89 : decode cX11_best 89 = .ok (.aload_n 0, 1) := by decide +kernel
theorem dX11_best_90 : decode cX11_best 90 = .ok (.getfield 56, 3) := by decide +kernel
theorem dX11_best_93 : decode cX11_best 93 = .ok (.iload_n 1, 1) := by decide +kernel
theorem dX11_best_94 : decode cX11_best 94 = .ok (.invokevirtual 339, 3) := by decide +kernel
theorem dX11_best_97 : decode cX11_best 97 = .ok (.istore 6, 2) := by decide +kernel
theorem dX11_best_99 : decode cX11_best 99 = .ok (.iload 6, 2) := by decide +kernel
theorem dX11_best_101 : decode cX11_best 101 = .ok (.iload 4, 2) := by decide +kernel
theorem dX11_best_103 : decode cX11_best 103 = .ok (.if_icmp .le 10, 3) := by decide +kernel
theorem dX11_best_106 : decode cX11_best 106 = .ok (.iload 6, 2) := by decide +kernel
theorem dX11_best_108 : decode cX11_best 108 = .ok (.istore 4, 2) := by decide +kernel
theorem dX11_best_110 : decode cX11_best 110 = .ok (.iload 5, 2) := by decide +kernel
theorem dX11_best_112 : decode cX11_best 112 = .ok (.istore_n 3, 1) := by decide +kernel
theorem dX11_best_113 : decode cX11_best 113 = .ok (.iinc 5 1, 3) := by decide +kernel
theorem dX11_best_116 : decode cX11_best 116 = .ok (.goto (-66), 3) := by decide +kernel
theorem dX11_best_119 : decode cX11_best 119 = .ok (.iload_n 2, 1) := by decide +kernel
theorem dX11_best_120 : decode cX11_best 120 = .ok (.ifCond .ne 7, 3) := by decide +kernel
theorem dX11_best_123 : decode cX11_best 123 = .ok (.iload_n 3, 1) := by decide +kernel
theorem dX11_best_124 : decode cX11_best 124 = .ok (.goto 5, 3) := by decide +kernel
theorem dX11_best_127 : decode cX11_best 127 = .ok (.iload 4, 2) := by decide +kernel
theorem dX11_best_129 : decode cX11_best 129 = .ok (.ireturn, 1) := by decide +kernel
theorem dX11_game_0 : decode cX11_game 0 = .ok (.aload_n 0, 1) := by decide +kernel
theorem dX11_game_1 : decode cX11_game 1 = .ok (.iload_n 1, 1) := by decide +kernel
theorem dX11_game_2 : decode cX11_game 2 = .ok (.iload_n 2, 1) := by decide +kernel
theorem dX11_game_3 : decode cX11_game 3 = .ok (.invokevirtual 342, 3) := by decide +kernel
theorem dX11_game_6 : decode cX11_game 6 = .ok (.ifCond .eq 30, 3) := by decide +kernel
theorem dX11_game_9 : decode cX11_game 9 = .ok (.aload_n 0, 1) := by decide +kernel
theorem dX11_game_10 : decode cX11_game 10 = .ok (.iload_n 3, 1) := by decide +kernel
theorem dX11_game_11 : decode cX11_game 11 = .ok (.invokevirtual 163, 3) := by decide +kernel
theorem dX11_game_14 : decode cX11_game 14 = .ok (.ifCond .eq 22, 3) := by decide +kernel
theorem dX11_game_17 : decode cX11_game 17 = .ok (.aload_n 0, 1) := by decide +kernel
theorem dX11_game_18 : decode cX11_game 18 = .ok (.iload 4, 2) := by decide +kernel
theorem dX11_game_20 : decode cX11_game 20 = .ok (.invokevirtual 163, 3) := by decide +kernel
theorem dX11_game_23 : decode cX11_game 23 = .ok (.ifCond .eq 13, 3) := by decide +kernel
theorem dX11_game_26 : decode cX11_game 26 = .ok (.iload 5, 2) := by decide +kernel
theorem dX11_game_28 : decode cX11_game 28 = .ok (.iconst 0, 1) := by decide +kernel
theorem dX11_game_29 : decode cX11_game 29 = .ok (.iconst 1, 1) := by decide +kernel
theorem dX11_game_30 : decode cX11_game 30 = .ok (.invokestatic 111, 3) := by decide +kernel
theorem dX11_game_33 : decode cX11_game 33 = .ok (.ifCond .ne 5, 3) := by decide +kernel
theorem dX11_game_36 : decode cX11_game 36 = .ok (.iconst (-1), 1) := by decide +kernel
theorem dX11_game_37 : decode cX11_game 37 = .ok (.ireturn, 1) := by decide +kernel
theorem dX11_game_38 : decode cX11_game 38 = .ok (.aload_n 0, 1) := by decide +kernel
theorem dX11_game_39 : decode cX11_game 39 = .ok (.getfield 56, 3) := by decide +kernel
theorem dX11_game_42 : decode cX11_game 42 = .ok (.aload_n 0, 1) := by decide +kernel
theorem dX11_game_43 : decode cX11_game 43 = .ok (.getfield 52, 3) := by decide +kernel
theorem dX11_game_46 : decode cX11_game 46 = .ok (.invokevirtual 302, 3) := by decide +kernel
theorem dX11_game_49 : decode cX11_game 49 = .ok (.aload_n 0, 1) := by decide +kernel
theorem dX11_game_50 : decode cX11_game 50 = .ok (.getfield 56, 3) := by decide +kernel
theorem dX11_game_53 : decode cX11_game 53 = .ok (.iload_n 1, 1) := by decide +kernel
theorem dX11_game_54 : decode cX11_game 54 = .ok (.aload_n 0, 1) := by decide +kernel
theorem dX11_game_55 : decode cX11_game 55 = .ok (.getfield 19, 3) := by decide +kernel
theorem dX11_game_58 : decode cX11_game 58 = .ok (.iload_n 3, 1) := by decide +kernel
theorem dX11_game_59 : decode cX11_game 59 = .ok (.invokevirtual 169, 3) := by decide +kernel
theorem dX11_game_62 : decode cX11_game 62 = .ok (.aload_n 0, 1) := by decide +kernel
theorem dX11_game_63 : decode cX11_game 63 = .ok (.getfield 19, 3) := by decide +kernel
theorem dX11_game_66 : decode cX11_game 66 = .ok (.iload_n 3, 1) := by decide +kernel
theorem dX11_game_67 : decode cX11_game 67 = .ok (.invokevirtual 172, 3) := by decide +kernel
theorem dX11_game_70 : decode cX11_game 70 = .ok (.invokevirtual 346, 3) := by decide +kernel
theorem dX11_game_73 : decode cX11_game 73 = .ok (.aload_n 0, 1) := by decide +kernel
theorem dX11_game_74 : decode cX11_game 74 = .ok (.getfield 56, 3) := by decide +kernel
theorem dX11_game_77 : decode cX11_game 77 = .ok (.iload_n 2, 1) := by decide +kernel
theorem dX11_game_78 : decode cX11_game 78 = .ok (.aload_n 0, 1) := by decide +kernel
theorem dX11_game_79 : decode cX11_game 79 = .ok (.getfield 19, 3) := by decide +kernel
theorem dX11_game_82 : decode cX11_game 82 = .ok (.iload 4, 2) := by decide +kernel
theorem dX11_game_84 : decode cX11_game 84 = .ok (.invokevirtual 169, 3) := by decide +kernel
theorem dX11_game_87 : decode cX11_game 87 = .ok (.aload_n 0, 1) := by decide +kernel
theorem dX11_game_88 : decode cX11_game 88 = .ok (.getfield 19, 3) := by decide +kernel
theorem dX11_game_91 : decode cX11_game 91 = .ok (.iload 4, 2) := by decide +kernel
theorem dX11_game_93 : decode cX11_game 93 = .ok (.invokevirtual 172, 3) := by decide +kernel
theorem dX11_game_96 : decode cX11_game 96 = .ok (.invokevirtual 346, 3) := by decide +kernel
theorem dX11_game_99 : decode cX11_game 99 = .ok (.aload_n 0, 1) := by decide +kernel
theorem dX11_game_100 : decode cX11_game 100 = .ok (.getfield 45, 3) := by decide +kernel
theorem dX11_game_103 : decode cX11_game 103 = .ok (.aload_n 0, 1) := by decide +kernel
theorem dX11_game_104 : decode cX11_game 104 = .ok (.getfield 56, 3) := by decide +kernel
theorem dX11_game_107 : decode cX11_game 107 = .ok (.invokevirtual 316, 3) := by decide +kernel
theorem dX11_game_110 : decode cX11_game 110 = .ok (.aload_n 0, 1) := by decide +kernel
theorem dX11_game_111 : decode cX11_game 111 = .ok (.getfield 45, 3) := by decide +kernel
theorem dX11_game_114 : decode cX11_game 114 = .ok (.getfield 319, 3) := by decide +kernel
theorem dX11_game_117 : decode cX11_game 117 = .ok (.iload 5, 2) := by decide +kernel
theorem dX11_game_119 : decode cX11_game 119 = .ok (.ifCond .ne 7, 3) := by decide +kernel
theorem dX11_game_122 : decode cX11_game 122 = .ok (.iload_n 1, 1) := by decide +kernel
theorem dX11_game_123 : decode cX11_game 123 = .ok (.goto 4, 3) := by decide +kernel
theorem dX11_game_126 : decode cX11_game 126 = .ok (.iload_n 2, 1) := by decide +kernel
theorem dX11_game_127 : decode cX11_game 127 = .ok (.iaload, 1) := by decide +kernel
theorem dX11_game_128 : decode cX11_game 128 = .ok (.ireturn, 1) := by decide +kernel
theorem dX11_rests_0 : decode cX11_rests 0 = .ok (.aload_n 0, 1) := by decide +kernel
theorem dX11_rests_1 : decode cX11_rests 1 = .ok (.iload_n 1, 1) := by decide +kernel
theorem dX11_rests_2 : decode cX11_rests 2 = .ok (.iload_n 2, 1) := by decide +kernel
theorem dX11_rests_3 : decode cX11_rests 3 = .ok (.invokevirtual 342, 3) := by decide +kernel
theorem dX11_rests_6 : decode cX11_rests 6 = .ok (.ifCond .eq 8, 3) := by decide +kernel
theorem dX11_rests_9 : decode cX11_rests 9 = .ok (.iload_n 3, 1) := by decide +kernel
theorem dX11_rests_10 : decode cX11_rests 10 = .ok (.iconst (-1), 1) := by decide +kernel
theorem dX11_rests_11 : decode cX11_rests 11 = .ok (.if_icmp .ge 5, 3) := by decide +kernel
theorem dX11_rests_14 : decode cX11_rests 14 = .ok (.iconst (-1), 1) := by decide +kernel
theorem dX11_rests_15 : decode cX11_rests 15 = .ok (.ireturn, 1) := by decide +kernel
theorem dX11_rests_16 : decode cX11_rests 16 = .ok (.aload_n 0, 1) := by decide +kernel
theorem dX11_rests_17 : decode cX11_rests 17 = .ok (.getfield 56, 3) := by decide +kernel
theorem dX11_rests_20 : decode cX11_rests 20 = .ok (.aload_n 0, 1) := by decide +kernel
theorem dX11_rests_21 : decode cX11_rests 21 = .ok (.getfield 52, 3) := by decide +kernel
theorem dX11_rests_24 : decode cX11_rests 24 = .ok (.invokevirtual 302, 3) := by decide +kernel
theorem dX11_rests_27 : decode cX11_rests 27 = .ok (.aload_n 0, 1) := by decide +kernel
theorem dX11_rests_28 : decode cX11_rests 28 = .ok (.getfield 78, 3) := by decide +kernel
theorem dX11_rests_31 : decode cX11_rests 31 = .ok (.aload_n 0, 1) := by decide +kernel
theorem dX11_rests_32 : decode cX11_rests 32 = .ok (.getfield 56, 3) := by decide +kernel
theorem dX11_rests_35 : decode cX11_rests 35 = .ok (.iload_n 1, 1) := by decide +kernel
theorem dX11_rests_36 : decode cX11_rests 36 = .ok (.iload_n 2, 1) := by decide +kernel
theorem dX11_rests_37 : decode cX11_rests 37 = .ok (.invokevirtual 350, 3) := by decide +kernel
theorem dX11_rests_40 : decode cX11_rests 40 = .ok (.iconst 0, 1) := by decide +kernel
theorem dX11_rests_41 : decode cX11_rests 41 = .ok (.istore 4, 2) := by decide +kernel
theorem dX11_rests_43 : decode cX11_rests 43 = .ok (.iconst 0, 1) := by decide +kernel
theorem dX11_rests_44 : decode cX11_rests 44 = .ok (.istore 5, 2) := by decide +kernel
theorem dX11_rests_46 : decode cX11_rests 46 = .ok (.iload 5, 2) := by decide +kernel
theorem dX11_rests_48 : decode cX11_rests 48 = .ok (.aload_n 0, 1) := by decide +kernel
theorem dX11_rests_49 : decode cX11_rests 49 = .ok (.getfield 19, 3) := by decide +kernel
theorem dX11_rests_52 : decode cX11_rests 52 = .ok (.getfield 275, 3) := by decide +kernel
theorem dX11_rests_55 : decode cX11_rests 55 = .ok (.if_icmp .ge 62, 3) := by decide +kernel
theorem dX11_rests_58 : decode cX11_rests 58 = .ok (.iconst 0, 1) := by decide +kernel
theorem dX11_rests_59 : decode cX11_rests 59 = .ok (.istore 6, 2) := by decide +kernel
theorem dX11_rests_61 : decode cX11_rests 61 = .ok (.iload 6, 2) := by decide +kernel
theorem dX11_rests_63 : decode cX11_rests 63 = .ok (.aload_n 0, 1) := by decide +kernel
theorem dX11_rests_64 : decode cX11_rests 64 = .ok (.getfield 19, 3) := by decide +kernel
theorem dX11_rests_67 : decode cX11_rests 67 = .ok (.getfield 275, 3) := by decide +kernel
theorem dX11_rests_70 : decode cX11_rests 70 = .ok (.if_icmp .ge 41, 3) := by decide +kernel
theorem dX11_rests_73 : decode cX11_rests 73 = .ok (.aload_n 0, 1) := by decide +kernel
theorem dX11_rests_74 : decode cX11_rests 74 = .ok (.getfield 78, 3) := by decide +kernel
theorem dX11_rests_77 : decode cX11_rests 77 = .ok (.iload 5, 2) := by decide +kernel
theorem dX11_rests_79 : decode cX11_rests 79 = .ok (.iload 6, 2) := by decide +kernel
theorem dX11_rests_81 : decode cX11_rests 81 = .ok (.invokevirtual 353, 3) := by decide +kernel
theorem dX11_rests_84 : decode cX11_rests 84 = .ok (.ifCond .eq 21, 3) := by decide +kernel
theorem dX11_rests_87 : decode cX11_rests 87 = .ok (.iload 4, 2) := by decide +kernel
theorem dX11_rests_89 : decode cX11_rests 89 = .ok (.iload_n 3, 1) := by decide +kernel
theorem dX11_rests_90 : decode cX11_rests 90 = .ok (.if_icmp .ne 12, 3) := by decide +kernel
theorem dX11_rests_93 : decode cX11_rests 93 = .ok (.bipush 10, 2) := by decide +kernel
theorem dX11_rests_95 : decode cX11_rests 95 = .ok (.iload 5, 2) := by decide +kernel
theorem dX11_rests_97 : decode cX11_rests 97 = .ok (.imul, 1) := by decide +kernel
theorem dX11_rests_98 : decode cX11_rests 98 = .ok (.iload 6, 2) := by decide +kernel
theorem dX11_rests_100 : decode cX11_rests 100 = .ok (.iadd, 1) := by decide +kernel
theorem dX11_rests_101 : decode cX11_rests 101 = .ok (.ireturn, 1) := by decide +kernel
theorem dX11_rests_102 : decode cX11_rests 102 = .ok (.iinc 4 1, 3) := by decide +kernel
theorem dX11_rests_105 : decode cX11_rests 105 = .ok (.iinc 6 1, 3) := by decide +kernel
theorem dX11_rests_108 : decode cX11_rests 108 = .ok (.goto (-47), 3) := by decide +kernel
theorem dX11_rests_111 : decode cX11_rests 111 = .ok (.iinc 5 1, 3) := by decide +kernel
theorem dX11_rests_114 : decode cX11_rests 114 = .ok (.goto (-68), 3) := by decide +kernel
theorem dX11_rests_117 : decode cX11_rests 117 = .ok (.iload_n 3, 1) := by decide +kernel
theorem dX11_rests_118 : decode cX11_rests 118 = .ok (.iconst (-1), 1) := by decide +kernel
theorem dX11_rests_119 : decode cX11_rests 119 = .ok (.if_icmp .ne 8, 3) := by decide +kernel
theorem dX11_rests_122 : decode cX11_rests 122 = .ok (.iload 4, 2) := by decide +kernel
theorem dX11_rests_124 : decode cX11_rests 124 = .ok (.goto 4, 3) := by decide +kernel
theorem dX11_rests_127 : decode cX11_rests 127 = .ok (.iconst (-1), 1) := by decide +kernel
theorem dX11_rests_128 : decode cX11_rests 128 = .ok (.ireturn, 1) := by decide +kernel
theorem dX11_holds_0 : decode cX11_holds 0 = .ok (.aload_n 0, 1) := by decide +kernel
theorem dX11_holds_1 : decode cX11_holds 1 = .ok (.iload_n 1, 1) := by decide +kernel
theorem dX11_holds_2 : decode cX11_holds 2 = .ok (.iload_n 2, 1) := by decide +kernel
theorem dX11_holds_3 : decode cX11_holds 3 = .ok (.invokevirtual 342, 3) := by decide +kernel
theorem dX11_holds_6 : decode cX11_holds 6 = .ok (.ifCond .eq 12, 3) := by decide +kernel
theorem dX11_holds_9 : decode cX11_holds 9 = .ok (.iload_n 3, 1) := by decide +kernel
theorem dX11_holds_10 : decode cX11_holds 10 = .ok (.iconst 0, 1) := by decide +kernel
theorem dX11_holds_11 : decode cX11_holds 11 = .ok (.iconst 1, 1) := by decide +kernel
theorem dX11_holds_12 : decode cX11_holds 12 = .ok (.invokestatic 111, 3) := by decide +kernel
theorem dX11_holds_15 : decode cX11_holds 15 = .ok (.ifCond .ne 6, 3) := by decide +kernel
theorem dX11_holds_18 : decode cX11_holds 18 = .ok (.ldc 228, 2) := by decide +kernel
theorem dX11_holds_20 : decode cX11_holds 20 = .ok (.ireturn, 1) := by decide +kernel
theorem dX11_holds_21 : decode cX11_holds 21 = .ok (.aload_n 0, 1) := by decide +kernel
theorem dX11_holds_22 : decode cX11_holds 22 = .ok (.getfield 56, 3) := by decide +kernel
theorem dX11_holds_25 : decode cX11_holds 25 = .ok (.aload_n 0, 1) := by decide +kernel
theorem dX11_holds_26 : decode cX11_holds 26 = .ok (.getfield 52, 3) := by decide +kernel
theorem dX11_holds_29 : decode cX11_holds 29 = .ok (.invokevirtual 302, 3) := by decide +kernel
theorem dX11_holds_32 : decode cX11_holds 32 = .ok (.aload_n 0, 1) := by decide +kernel
theorem dX11_holds_33 : decode cX11_holds 33 = .ok (.getfield 78, 3) := by decide +kernel
theorem dX11_holds_36 : decode cX11_holds 36 = .ok (.aload_n 0, 1) := by decide +kernel
theorem dX11_holds_37 : decode cX11_holds 37 = .ok (.getfield 56, 3) := by decide +kernel
theorem dX11_holds_40 : decode cX11_holds 40 = .ok (.iload_n 1, 1) := by decide +kernel
theorem dX11_holds_41 : decode cX11_holds 41 = .ok (.iload_n 2, 1) := by decide +kernel
theorem dX11_holds_42 : decode cX11_holds 42 = .ok (.invokevirtual 350, 3) := by decide +kernel
theorem dX11_holds_45 : decode cX11_holds 45 = .ok (.iconst 0, 1) := by decide +kernel
theorem dX11_holds_46 : decode cX11_holds 46 = .ok (.istore 4, 2) := by decide +kernel
theorem dX11_holds_48 : decode cX11_holds 48 = .ok (.iconst 1, 1) := by decide +kernel
theorem dX11_holds_49 : decode cX11_holds 49 = .ok (.istore 5, 2) := by decide +kernel
theorem dX11_holds_51 : decode cX11_holds 51 = .ok (.iload 5, 2) := by decide +kernel
theorem dX11_holds_53 : decode cX11_holds 53 = .ok (.aload_n 0, 1) := by decide +kernel
theorem dX11_holds_54 : decode cX11_holds 54 = .ok (.getfield 19, 3) := by decide +kernel
theorem dX11_holds_57 : decode cX11_holds 57 = .ok (.getfield 275, 3) := by decide +kernel
theorem dX11_holds_60 : decode cX11_holds 60 = .ok (.if_icmp .ge 34, 3) := by decide +kernel
theorem dX11_holds_63 : decode cX11_holds 63 = .ok (.aload_n 0, 1) := by decide +kernel
theorem dX11_holds_64 : decode cX11_holds 64 = .ok (.getfield 78, 3) := by decide +kernel
theorem dX11_holds_67 : decode cX11_holds 67 = .ok (.iload 5, 2) := by decide +kernel
theorem dX11_holds_69 : decode cX11_holds 69 = .ok (.invokevirtual 356, 3) := by decide +kernel
theorem dX11_holds_72 : decode cX11_holds 72 = .ok (.aload_n 0, 1) := by decide +kernel
theorem dX11_holds_73 : decode cX11_holds 73 = .ok (.getfield 78, 3) := by decide +kernel
theorem dX11_holds_76 : decode cX11_holds 76 = .ok (.iload 4, 2) := by decide +kernel
theorem dX11_holds_78 : decode cX11_holds 78 = .ok (.invokevirtual 356, 3) := by decide +kernel
theorem dX11_holds_81 : decode cX11_holds 81 = .ok (.if_icmp .le 7, 3) := by decide +kernel
theorem dX11_holds_84 : decode cX11_holds 84 = .ok (.iload 5, 2) := by decide +kernel
theorem dX11_holds_86 : decode cX11_holds 86 = .ok (.istore 4, 2) := by decide +kernel
theorem dX11_holds_88 : decode cX11_holds 88 = .ok (.iinc 5 1, 3) := by decide +kernel
theorem dX11_holds_91 : decode cX11_holds 91 = .ok (.goto (-40), 3) := by decide +kernel
theorem dX11_holds_94 : decode cX11_holds 94 = .ok (.iload_n 3, 1) := by decide +kernel
theorem dX11_holds_95 : decode cX11_holds 95 = .ok (.ifCond .ne 8, 3) := by decide +kernel
theorem dX11_holds_98 : decode cX11_holds 98 = .ok (.iload 4, 2) := by decide +kernel
theorem dX11_holds_100 : decode cX11_holds 100 = .ok (.goto 12, 3) := by decide +kernel
theorem dX11_holds_103 : decode cX11_holds 103 = .ok (.aload_n 0, 1) := by decide +kernel
theorem dX11_holds_104 : decode cX11_holds 104 = .ok (.getfield 78, 3) := by decide +kernel
theorem dX11_holds_107 : decode cX11_holds 107 = .ok (.iload 4, 2) := by decide +kernel
theorem dX11_holds_109 : decode cX11_holds 109 = .ok (.invokevirtual 356, 3) := by decide +kernel
theorem dX11_holds_112 : decode cX11_holds 112 = .ok (.ireturn, 1) := by decide +kernel
theorem dX11_seen_0 : decode cX11_seen 0 = .ok (.aload_n 0, 1) := by decide +kernel
theorem dX11_seen_1 : decode cX11_seen 1 = .ok (.iload_n 1, 1) := by decide +kernel
theorem dX11_seen_2 : decode cX11_seen 2 = .ok (.invokevirtual 163, 3) := by decide +kernel
theorem dX11_seen_5 : decode cX11_seen 5 = .ok (.ifCond .eq 33, 3) := by decide +kernel
theorem dX11_seen_8 : decode cX11_seen 8 = .ok (.iload_n 2, 1) := by decide +kernel
theorem dX11_seen_9 : decode cX11_seen 9 = .ok (.iconst 0, 1) := by decide +kernel
theorem dX11_seen_10 : decode cX11_seen 10 = .ok (.bipush 18, 2) := by decide +kernel
theorem dX11_seen_12 : decode cX11_seen 12 = .ok (.invokestatic 111, 3) := by decide +kernel
theorem dX11_seen_15 : decode cX11_seen 15 = .ok (.ifCond .eq 23, 3) := by decide +kernel
theorem dX11_seen_18 : decode cX11_seen 18 = .ok (.iload_n 3, 1) := by decide +kernel
theorem dX11_seen_19 : decode cX11_seen 19 = .ok (.iconst 0, 1) := by decide +kernel
theorem dX11_seen_20 : decode cX11_seen 20 = .ok (.bipush 18, 2) := by decide +kernel
theorem dX11_seen_22 : decode cX11_seen 22 = .ok (.invokestatic 111, 3) := by decide +kernel
theorem dX11_seen_25 : decode cX11_seen 25 = .ok (.ifCond .eq 13, 3) := by decide +kernel
theorem dX11_seen_28 : decode cX11_seen 28 = .ok (.iload 4, 2) := by decide +kernel
theorem dX11_seen_30 : decode cX11_seen 30 = .ok (.iconst 0, 1) := by decide +kernel
theorem dX11_seen_31 : decode cX11_seen 31 = .ok (.iconst 2, 1) := by decide +kernel
theorem dX11_seen_32 : decode cX11_seen 32 = .ok (.invokestatic 111, 3) := by decide +kernel
theorem dX11_seen_35 : decode cX11_seen 35 = .ok (.ifCond .ne 5, 3) := by decide +kernel
theorem dX11_seen_38 : decode cX11_seen 38 = .ok (.iconst (-1), 1) := by decide +kernel
theorem dX11_seen_39 : decode cX11_seen 39 = .ok (.ireturn, 1) := by decide +kernel
theorem dX11_seen_40 : decode cX11_seen 40 = .ok (.aload_n 0, 1) := by decide +kernel
theorem dX11_seen_41 : decode cX11_seen 41 = .ok (.getfield 69, 3) := by decide +kernel
theorem dX11_seen_44 : decode cX11_seen 44 = .ok (.iload_n 1, 1) := by decide +kernel
theorem dX11_seen_45 : decode cX11_seen 45 = .ok (.iload_n 2, 1) := by decide +kernel
theorem dX11_seen_46 : decode cX11_seen 46 = .ok (.iload_n 3, 1) := by decide +kernel
theorem dX11_seen_47 : decode cX11_seen 47 = .ok (.iload 4, 2) := by decide +kernel
theorem dX11_seen_49 : decode cX11_seen 49 = .ok (.invokevirtual 359, 3) := by decide +kernel
theorem dX11_seen_52 : decode cX11_seen 52 = .ok (.ifCond .eq 13, 3) := by decide +kernel
theorem dX11_seen_55 : decode cX11_seen 55 = .ok (.aload_n 0, 1) := by decide +kernel
theorem dX11_seen_56 : decode cX11_seen 56 = .ok (.getfield 69, 3) := by decide +kernel
theorem dX11_seen_59 : decode cX11_seen 59 = .ok (.getfield 363, 3) := by decide +kernel
theorem dX11_seen_62 : decode cX11_seen 62 = .ok (.goto 4, 3) := by decide +kernel
theorem dX11_seen_65 : decode cX11_seen 65 = .ok (.iconst (-1), 1) := by decide +kernel
theorem dX11_seen_66 : decode cX11_seen 66 = .ok (.ireturn, 1) := by decide +kernel
theorem dX11_likes_0 : decode cX11_likes 0 = .ok (.aload_n 0, 1) := by decide +kernel
theorem dX11_likes_1 : decode cX11_likes 1 = .ok (.iload_n 1, 1) := by decide +kernel
theorem dX11_likes_2 : decode cX11_likes 2 = .ok (.invokevirtual 163, 3) := by decide +kernel
theorem dX11_likes_5 : decode cX11_likes 5 = .ok (.ifCond .eq 8, 3) := by decide +kernel
theorem dX11_likes_8 : decode cX11_likes 8 = .ok (.iload_n 2, 1) := by decide +kernel
theorem dX11_likes_9 : decode cX11_likes 9 = .ok (.iconst (-1), 1) := by decide +kernel
theorem dX11_likes_10 : decode cX11_likes 10 = .ok (.if_icmp .ge 5, 3) := by decide +kernel
theorem dX11_likes_13 : decode cX11_likes 13 = .ok (.iconst (-1), 1) := by decide +kernel
theorem dX11_likes_14 : decode cX11_likes 14 = .ok (.ireturn, 1) := by decide +kernel
theorem dX11_likes_15 : decode cX11_likes 15 = .ok (.aload_n 0, 1) := by decide +kernel
theorem dX11_likes_16 : decode cX11_likes 16 = .ok (.getfield 69, 3) := by decide +kernel
theorem dX11_likes_19 : decode cX11_likes 19 = .ok (.iload_n 1, 1) := by decide +kernel
theorem dX11_likes_20 : decode cX11_likes 20 = .ok (.invokevirtual 364, 3) := by decide +kernel
theorem dX11_likes_23 : decode cX11_likes 23 = .ok (.istore_n 3, 1) := by decide +kernel
theorem dX11_likes_24 : decode cX11_likes 24 = .ok (.iload_n 2, 1) := by decide +kernel
theorem dX11_likes_25 : decode cX11_likes 25 = .ok (.iconst (-1), 1) := by decide +kernel
theorem dX11_likes_26 : decode cX11_likes 26 = .ok (.if_icmp .ne 5, 3) := by decide +kernel
theorem dX11_likes_29 : decode cX11_likes 29 = .ok (.iload_n 3, 1) := by decide +kernel
theorem dX11_likes_30 : decode cX11_likes 30 = .ok (.ireturn, 1) := by decide +kernel
theorem dX11_likes_31 : decode cX11_likes 31 = .ok (.iload_n 2, 1) := by decide +kernel
theorem dX11_likes_32 : decode cX11_likes 32 = .ok (.iload_n 3, 1) := by decide +kernel
theorem dX11_likes_33 : decode cX11_likes 33 = .ok (.if_icmp .ge 14, 3) := by decide +kernel
theorem dX11_likes_36 : decode cX11_likes 36 = .ok (.aload_n 0, 1) := by decide +kernel
theorem dX11_likes_37 : decode cX11_likes 37 = .ok (.getfield 69, 3) := by decide +kernel
theorem dX11_likes_40 : decode cX11_likes 40 = .ok (.iload_n 2, 1) := by decide +kernel
theorem dX11_likes_41 : decode cX11_likes 41 = .ok (.invokevirtual 367, 3) := by decide +kernel
theorem dX11_likes_44 : decode cX11_likes 44 = .ok (.goto 4, 3) := by decide +kernel
theorem dX11_likes_47 : decode cX11_likes 47 = .ok (.iconst (-1), 1) := by decide +kernel
theorem dX11_likes_48 : decode cX11_likes 48 = .ok (.ireturn, 1) := by decide +kernel
theorem dX11_ask_0 : decode cX11_ask 0 = .ok (.aload_n 0, 1) := by decide +kernel
theorem dX11_ask_1 : decode cX11_ask 1 = .ok (.iload_n 1, 1) := by decide +kernel
theorem dX11_ask_2 : decode cX11_ask 2 = .ok (.invokevirtual 163, 3) := by decide +kernel
theorem dX11_ask_5 : decode cX11_ask 5 = .ok (.ifCond .eq 14, 3) := by decide +kernel
theorem dX11_ask_8 : decode cX11_ask 8 = .ok (.aload_n 0, 1) := by decide +kernel
theorem dX11_ask_9 : decode cX11_ask 9 = .ok (.getfield 69, 3) := by decide +kernel
theorem dX11_ask_12 : decode cX11_ask 12 = .ok (.iload_n 1, 1) := by decide +kernel
theorem dX11_ask_13 : decode cX11_ask 13 = .ok (.invokevirtual 364, 3) := by decide +kernel
theorem dX11_ask_16 : decode cX11_ask 16 = .ok (.ifCond .ne 5, 3) := by decide +kernel
theorem dX11_ask_19 : decode cX11_ask 19 = .ok (.iconst (-1), 1) := by decide +kernel
theorem dX11_ask_20 : decode cX11_ask 20 = .ok (.ireturn, 1) := by decide +kernel
theorem dX11_ask_21 : decode cX11_ask 21 = .ok (.aload_n 0, 1) := by decide +kernel
theorem dX11_ask_22 : decode cX11_ask 22 = .ok (.getfield 69, 3) := by decide +kernel
theorem dX11_ask_25 : decode cX11_ask 25 = .ok (.iload_n 1, 1) := by decide +kernel
theorem dX11_ask_26 : decode cX11_ask 26 = .ok (.invokevirtual 370, 3) := by decide +kernel
theorem dX11_ask_29 : decode cX11_ask 29 = .ok (.ireturn, 1) := by decide +kernel
theorem dX11_blown_0 : decode cX11_blown 0 = .ok (.iload_n 1, 1) := by decide +kernel
theorem dX11_blown_1 : decode cX11_blown 1 = .ok (.iconst 0, 1) := by decide +kernel
theorem dX11_blown_2 : decode cX11_blown 2 = .ok (.bipush 18, 2) := by decide +kernel
theorem dX11_blown_4 : decode cX11_blown 4 = .ok (.invokestatic 111, 3) := by decide +kernel
theorem dX11_blown_7 : decode cX11_blown 7 = .ok (.ifCond .eq 12, 3) := by decide +kernel
theorem dX11_blown_10 : decode cX11_blown 10 = .ok (.iload_n 2, 1) := by decide +kernel
theorem dX11_blown_11 : decode cX11_blown 11 = .ok (.iconst 0, 1) := by decide +kernel
theorem dX11_blown_12 : decode cX11_blown 12 = .ok (.iload_n 1, 1) := by decide +kernel
theorem dX11_blown_13 : decode cX11_blown 13 = .ok (.invokestatic 111, 3) := by decide +kernel
theorem dX11_blown_16 : decode cX11_blown 16 = .ok (.ifCond .ne 5, 3) := by decide +kernel
theorem dX11_blown_19 : decode cX11_blown 19 = .ok (.iconst (-1), 1) := by decide +kernel
theorem dX11_blown_20 : decode cX11_blown 20 = .ok (.ireturn, 1) := by decide +kernel
theorem dX11_blown_21 : decode cX11_blown 21 = .ok (.lconst 1, 1) := by decide +kernel
theorem dX11_blown_22 : decode cX11_blown 22 = .ok (.iload_n 1, 1) := by decide +kernel
theorem dX11_blown_23 : decode cX11_blown 23 = .ok (.iconst 2, 1) := by decide +kernel
theorem dX11_blown_24 : decode cX11_blown 24 = .ok (.iload_n 2, 1) := by decide +kernel
theorem dX11_blown_25 : decode cX11_blown 25 = .ok (.imul, 1) := by decide +kernel
theorem dX11_blown_26 : decode cX11_blown 26 = .ok (.iadd, 1) := by decide +kernel
theorem dX11_blown_27 : decode cX11_blown 27 = .ok (.lshl, 1) := by decide +kernel
theorem dX11_blown_28 : decode cX11_blown 28 = .ok (.lstore_n 3, 1) := by decide +kernel
theorem dX11_blown_29 : decode cX11_blown 29 = .ok (.lconst 1, 1) := by decide +kernel
theorem dX11_blown_30 : decode cX11_blown 30 = .ok (.lstore 5, 2) := by decide +kernel
theorem dX11_blown_32 : decode cX11_blown 32 = .ok (.iconst 0, 1) := by decide +kernel
theorem dX11_blown_33 : decode cX11_blown 33 = .ok (.istore 7, 2) := by decide +kernel
theorem dX11_blown_35 : decode cX11_blown 35 = .ok (.iload 7, 2) := by decide +kernel
theorem dX11_blown_37 : decode cX11_blown 37 = .ok (.iload_n 1, 1) := by decide +kernel
theorem dX11_blown_38 : decode cX11_blown 38 = .ok (.if_icmp .ge 17, 3) := by decide +kernel
theorem dX11_blown_41 : decode cX11_blown 41 = .ok (.lload 5, 2) := by decide +kernel
theorem dX11_blown_43 : decode cX11_blown 43 = .ok (.ldc2_w 373, 3) := by decide +kernel
theorem dX11_blown_46 : decode cX11_blown 46 = .ok (.lmul, 1) := by decide +kernel
theorem dX11_blown_47 : decode cX11_blown 47 = .ok (.lstore 5, 2) := by decide +kernel
theorem dX11_blown_49 : decode cX11_blown 49 = .ok (.iinc 7 1, 3) := by decide +kernel
theorem dX11_blown_52 : decode cX11_blown 52 = .ok (.goto (-17), 3) := by decide +kernel
theorem dX11_blown_55 : decode cX11_blown 55 = .ok (.lload_n 3, 1) := by decide +kernel
theorem dX11_blown_56 : decode cX11_blown 56 = .ok (.lload 5, 2) := by decide +kernel
theorem dX11_blown_58 : decode cX11_blown 58 = .ok (.ladd, 1) := by decide +kernel
theorem dX11_blown_59 : decode cX11_blown 59 = .ok (.lstore 7, 2) := by decide +kernel
theorem dX11_blown_61 : decode cX11_blown 61 = .ok (.lload_n 3, 1) := by decide +kernel
theorem dX11_blown_62 : decode cX11_blown 62 = .ok (.lstore 9, 2) := by decide +kernel
theorem dX11_blown_64 : decode cX11_blown 64 = .ok (.iconst 0, 1) := by decide +kernel
theorem dX11_blown_65 : decode cX11_blown 65 = .ok (.istore 11, 2) := by decide +kernel
theorem dX11_blown_67 : decode cX11_blown 67 = .ok (.iconst 0, 1) := by decide +kernel
theorem dX11_blown_68 : decode cX11_blown 68 = .ok (.istore 12, 2) := by decide +kernel
theorem dX11_blown_70 : decode cX11_blown 70 = .ok (.iload 12, 2) := by decide +kernel
theorem dX11_blown_72 : decode cX11_blown 72 = .ok (.bipush 6, 2) := by decide +kernel
theorem dX11_blown_74 : decode cX11_blown 74 = .ok (.if_icmp .ge 45, 3) := by decide +kernel
theorem dX11_blown_77 : decode cX11_blown 77 = .ok (.lload 7, 2) := by decide +kernel
theorem dX11_blown_79 : decode cX11_blown 79 = .ok (.lconst 0, 1) := by decide +kernel
theorem dX11_blown_80 : decode cX11_blown 80 = .ok (.lcmp, 1) := by decide +kernel
theorem dX11_blown_81 : decode cX11_blown 81 = .ok (.ifCond .le 38, 3) := by decide +kernel
theorem dX11_blown_84 : decode cX11_blown 84 = .ok (.lload 9, 2) := by decide +kernel
theorem dX11_blown_86 : decode cX11_blown 86 = .ok (.ldc2_w 375, 3) := by decide +kernel
theorem dX11_blown_89 : decode cX11_blown 89 = .ok (.lmul, 1) := by decide +kernel
theorem dX11_blown_90 : decode cX11_blown 90 = .ok (.lstore 9, 2) := by decide +kernel
theorem dX11_blown_92 : decode cX11_blown 92 = .ok (.iload 11, 2) := by decide +kernel
theorem dX11_blown_94 : decode cX11_blown 94 = .ok (.bipush 10, 2) := by decide +kernel
theorem dX11_blown_96 : decode cX11_blown 96 = .ok (.imul, 1) := by decide +kernel
theorem dX11_blown_97 : decode cX11_blown 97 = .ok (.lload 9, 2) := by decide +kernel
theorem dX11_blown_99 : decode cX11_blown 99 = .ok (.lload 7, 2) := by decide +kernel
theorem dX11_blown_101 : decode cX11_blown 101 = .ok (.ldiv, 1) := by decide +kernel
theorem dX11_blown_102 : decode cX11_blown 102 = .ok (.l2i, 1) := by decide +kernel
theorem dX11_blown_103 : decode cX11_blown 103 = .ok (.iadd, 1) := by decide +kernel
theorem dX11_blown_104 : decode cX11_blown 104 = .ok (.istore 11, 2) := by decide +kernel
theorem dX11_blown_106 : decode cX11_blown 106 = .ok (.lload 9, 2) := by decide +kernel
theorem dX11_blown_108 : decode cX11_blown 108 = .ok (.lload 7, 2) := by decide +kernel
theorem dX11_blown_110 : decode cX11_blown 110 = .ok (.lrem, 1) := by decide +kernel
theorem dX11_blown_111 : decode cX11_blown 111 = .ok (.lstore 9, 2) := by decide +kernel
theorem dX11_blown_113 : decode cX11_blown 113 = .ok (.iinc 12 1, 3) := by decide +kernel
theorem dX11_blown_116 : decode cX11_blown 116 = .ok (.goto (-46), 3) := by decide +kernel
theorem dX11_blown_119 : decode cX11_blown 119 = .ok (.iload 11, 2) := by decide +kernel
theorem dX11_blown_121 : decode cX11_blown 121 = .ok (.ireturn, 1) := by decide +kernel
theorem dX11_washed_0 : decode cX11_washed 0 = .ok (.aload_n 0, 1) := by decide +kernel
theorem dX11_washed_1 : decode cX11_washed 1 = .ok (.invokevirtual 140, 3) := by decide +kernel
theorem dX11_washed_4 : decode cX11_washed 4 = .ok (.ifCond .eq 28, 3) := by decide +kernel
theorem dX11_washed_7 : decode cX11_washed 7 = .ok (.iload_n 1, 1) := by decide +kernel
theorem dX11_washed_8 : decode cX11_washed 8 = .ok (.iconst 0, 1) := by decide +kernel
theorem dX11_washed_9 : decode cX11_washed 9 = .ok (.bipush 8, 2) := by decide +kernel
theorem dX11_washed_11 : decode cX11_washed 11 = .ok (.invokestatic 111, 3) := by decide +kernel
theorem dX11_washed_14 : decode cX11_washed 14 = .ok (.ifCond .eq 18, 3) := by decide +kernel
theorem dX11_washed_17 : decode cX11_washed 17 = .ok (.iload_n 2, 1) := by decide +kernel
theorem dX11_washed_18 : decode cX11_washed 18 = .ok (.iconst 0, 1) := by decide +kernel
theorem dX11_washed_19 : decode cX11_washed 19 = .ok (.bipush 8, 2) := by decide +kernel
theorem dX11_washed_21 : decode cX11_washed 21 = .ok (.invokestatic 111, 3) := by decide +kernel
theorem dX11_washed_24 : decode cX11_washed 24 = .ok (.ifCond .eq 8, 3) := by decide +kernel
theorem dX11_washed_27 : decode cX11_washed 27 = .ok (.iload_n 3, 1) := by decide +kernel
theorem dX11_washed_28 : decode cX11_washed 28 = .ok (.iconst (-1), 1) := by decide +kernel
theorem dX11_washed_29 : decode cX11_washed 29 = .ok (.if_icmp .ge 5, 3) := by decide +kernel
theorem dX11_washed_32 : decode cX11_washed 32 = .ok (.iconst (-1), 1) := by decide +kernel
theorem dX11_washed_33 : decode cX11_washed 33 = .ok (.ireturn, 1) := by decide +kernel
theorem dX11_washed_34 : decode cX11_washed 34 = .ok (.aload_n 0, 1) := by decide +kernel
theorem dX11_washed_35 : decode cX11_washed 35 = .ok (.getfield 45, 3) := by decide +kernel
theorem dX11_washed_38 : decode cX11_washed 38 = .ok (.aload_n 0, 1) := by decide +kernel
theorem dX11_washed_39 : decode cX11_washed 39 = .ok (.getfield 52, 3) := by decide +kernel
theorem dX11_washed_42 : decode cX11_washed 42 = .ok (.invokevirtual 316, 3) := by decide +kernel
theorem dX11_washed_45 : decode cX11_washed 45 = .ok (.aload_n 0, 1) := by decide +kernel
theorem dX11_washed_46 : decode cX11_washed 46 = .ok (.getfield 45, 3) := by decide +kernel
theorem dX11_washed_49 : decode cX11_washed 49 = .ok (.iconst 0, 1) := by decide +kernel
theorem dX11_washed_50 : decode cX11_washed 50 = .ok (.invokevirtual 377, 3) := by decide +kernel
theorem dX11_washed_53 : decode cX11_washed 53 = .ok (.istore 4, 2) := by decide +kernel
theorem dX11_washed_55 : decode cX11_washed 55 = .ok (.aload_n 0, 1) := by decide +kernel
theorem dX11_washed_56 : decode cX11_washed 56 = .ok (.getfield 45, 3) := by decide +kernel
theorem dX11_washed_59 : decode cX11_washed 59 = .ok (.iconst 1, 1) := by decide +kernel
theorem dX11_washed_60 : decode cX11_washed 60 = .ok (.invokevirtual 377, 3) := by decide +kernel
theorem dX11_washed_63 : decode cX11_washed 63 = .ok (.istore 5, 2) := by decide +kernel
theorem dX11_washed_65 : decode cX11_washed 65 = .ok (.iconst 0, 1) := by decide +kernel
theorem dX11_washed_66 : decode cX11_washed 66 = .ok (.istore 6, 2) := by decide +kernel
theorem dX11_washed_68 : decode cX11_washed 68 = .ok (.iconst 0, 1) := by decide +kernel
theorem dX11_washed_69 : decode cX11_washed 69 = .ok (.istore 7, 2) := by decide +kernel
theorem dX11_washed_71 : decode cX11_washed 71 = .ok (.iload 7, 2) := by decide +kernel
theorem dX11_washed_73 : decode cX11_washed 73 = .ok (.iconst 1, 1) := by decide +kernel
theorem dX11_washed_74 : decode cX11_washed 74 = .ok (.aload_n 0, 1) := by decide +kernel
theorem dX11_washed_75 : decode cX11_washed 75 = .ok (.getfield 19, 3) := by decide +kernel
theorem dX11_washed_78 : decode cX11_washed 78 = .ok (.getfield 275, 3) := by decide +kernel
theorem dX11_washed_81 : decode cX11_washed 81 = .ok (.ishl, 1) := by decide +kernel
theorem dX11_washed_82 : decode cX11_washed 82 = .ok (.if_icmp .ge 106, 3) := by decide +kernel
theorem dX11_washed_85 : decode cX11_washed 85 = .ok (.iload 7, 2) := by decide +kernel
theorem dX11_washed_87 : decode cX11_washed 87 = .ok (.iload 4, 2) := by decide +kernel
theorem dX11_washed_89 : decode cX11_washed 89 = .ok (.iand, 1) := by decide +kernel
theorem dX11_washed_90 : decode cX11_washed 90 = .ok (.invokestatic 380, 3) := by decide +kernel
theorem dX11_washed_93 : decode cX11_washed 93 = .ok (.iload 7, 2) := by decide +kernel
theorem dX11_washed_95 : decode cX11_washed 95 = .ok (.iload 5, 2) := by decide +kernel
theorem dX11_washed_97 : decode cX11_washed 97 = .ok (.iand, 1) := by decide +kernel
theorem dX11_washed_98 : decode cX11_washed 98 = .ok (.invokestatic 380, 3) := by decide +kernel
theorem dX11_washed_101 : decode cX11_washed 101 = .ok (.isub, 1) := by decide +kernel
theorem dX11_washed_102 : decode cX11_washed 102 = .ok (.istore 8, 2) := by decide +kernel
theorem dX11_washed_104 : decode cX11_washed 104 = .ok (.iload 7, 2) := by decide +kernel
theorem dX11_washed_106 : decode cX11_washed 106 = .ok (.iload 4, 2) := by decide +kernel
theorem dX11_washed_108 : decode cX11_washed 108 = .ok (.iload 5, 2) := by decide +kernel
theorem dX11_washed_110 : decode cX11_washed 110 = .ok (.ior, 1) := by decide +kernel
theorem dX11_washed_111 : decode cX11_washed 111 = .ok (.iconst (-1), 1) := by decide +kernel
theorem dX11_washed_112 : decode cX11_washed 112 = .ok (.ixor, 1) := by decide +kernel
theorem dX11_washed_113 : decode cX11_washed 113 = .ok (.iand, 1) := by decide +kernel
theorem dX11_washed_114 : decode cX11_washed 114 = .ok (.ifCond .ne 16, 3) := by decide +kernel
theorem dX11_washed_117 : decode cX11_washed 117 = .ok (.iload 7, 2) := by decide +kernel
theorem dX11_washed_119 : decode cX11_washed 119 = .ok (.invokestatic 380, 3) := by decide +kernel
theorem dX11_washed_122 : decode cX11_washed 122 = .ok (.iconst 2, 1) := by decide +kernel
theorem dX11_washed_123 : decode cX11_washed 123 = .ok (.if_icmp .gt 7, 3) := by decide +kernel
theorem dX11_washed_126 : decode cX11_washed 126 = .ok (.iconst 1, 1) := by decide +kernel
theorem dX11_washed_127 : decode cX11_washed 127 = .ok (.goto 4, 3) := by decide +kernel
theorem dX11_washed_130 : decode cX11_washed 130 = .ok (.iconst 0, 1) := by decide +kernel
theorem dX11_washed_131 : decode cX11_washed 131 = .ok (.istore 9, 2) := by decide +kernel
theorem dX11_washed_133 : decode cX11_washed 133 = .ok (.iload 9, 2) := by decide +kernel
theorem dX11_washed_135 : decode cX11_washed 135 = .ok (.ifCond .eq 47, 3) := by decide +kernel
theorem dX11_washed_138 : decode cX11_washed 138 = .ok (.aload_n 0, 1) := by decide +kernel
theorem dX11_washed_139 : decode cX11_washed 139 = .ok (.getfield 45, 3) := by decide +kernel
theorem dX11_washed_142 : decode cX11_washed 142 = .ok (.getfield 319, 3) := by decide +kernel
theorem dX11_washed_145 : decode cX11_washed 145 = .ok (.iconst 0, 1) := by decide +kernel
theorem dX11_washed_146 : decode cX11_washed 146 = .ok (.iaload, 1) := by decide +kernel
theorem dX11_washed_147 : decode cX11_washed 147 = .ok (.iload 8, 2) := by decide +kernel
theorem dX11_washed_149 : decode cX11_washed 149 = .ok (.isub, 1) := by decide +kernel
theorem dX11_washed_150 : decode cX11_washed 150 = .ok (.iload_n 1, 1) := by decide +kernel
theorem dX11_washed_151 : decode cX11_washed 151 = .ok (.if_icmp .ne 31, 3) := by decide +kernel
theorem dX11_washed_154 : decode cX11_washed 154 = .ok (.aload_n 0, 1) := by decide +kernel
theorem dX11_washed_155 : decode cX11_washed 155 = .ok (.getfield 45, 3) := by decide +kernel
theorem dX11_washed_158 : decode cX11_washed 158 = .ok (.getfield 319, 3) := by decide +kernel
theorem dX11_washed_161 : decode cX11_washed 161 = .ok (.iconst 1, 1) := by decide +kernel
theorem dX11_washed_162 : decode cX11_washed 162 = .ok (.iaload, 1) := by decide +kernel
theorem dX11_washed_163 : decode cX11_washed 163 = .ok (.iload 8, 2) := by decide +kernel
theorem dX11_washed_165 : decode cX11_washed 165 = .ok (.iadd, 1) := by decide +kernel
theorem dX11_washed_166 : decode cX11_washed 166 = .ok (.iload_n 2, 1) := by decide +kernel
theorem dX11_washed_167 : decode cX11_washed 167 = .ok (.if_icmp .ne 15, 3) := by decide +kernel
theorem dX11_washed_170 : decode cX11_washed 170 = .ok (.iload 6, 2) := by decide +kernel
theorem dX11_washed_172 : decode cX11_washed 172 = .ok (.iload_n 3, 1) := by decide +kernel
theorem dX11_washed_173 : decode cX11_washed 173 = .ok (.if_icmp .ne 6, 3) := by decide +kernel
theorem dX11_washed_176 : decode cX11_washed 176 = .ok (.iload 7, 2) := by decide +kernel
theorem dX11_washed_178 : decode cX11_washed 178 = .ok (.ireturn, 1) := by decide +kernel
theorem dX11_washed_179 : decode cX11_washed 179 = .ok (.iinc 6 1, 3) := by decide +kernel
theorem dX11_washed_182 : decode cX11_washed 182 = .ok (.iinc 7 1, 3) := by decide +kernel
theorem dX11_washed_185 : decode cX11_washed 185 = .ok (.goto (-114), 3) := by decide +kernel
theorem dX11_washed_188 : decode cX11_washed 188 = .ok (.iload_n 3, 1) := by decide +kernel
theorem dX11_washed_189 : decode cX11_washed 189 = .ok (.iconst (-1), 1) := by decide +kernel
theorem dX11_washed_190 : decode cX11_washed 190 = .ok (.if_icmp .ne 8, 3) := by decide +kernel
theorem dX11_washed_193 : decode cX11_washed 193 = .ok (.iload 6, 2) := by decide +kernel
theorem dX11_washed_195 : decode cX11_washed 195 = .ok (.goto 4, 3) := by decide +kernel
theorem dX11_washed_198 : decode cX11_washed 198 = .ok (.iconst (-1), 1) := by decide +kernel
theorem dX11_washed_199 : decode cX11_washed 199 = .ok (.ireturn, 1) := by decide +kernel
theorem dX11_watch_0 : decode cX11_watch 0 = .ok (.aload_n 0, 1) := by decide +kernel
theorem dX11_watch_1 : decode cX11_watch 1 = .ok (.invokevirtual 140, 3) := by decide +kernel
theorem dX11_watch_4 : decode cX11_watch 4 = .ok (.ifCond .eq 24, 3) := by decide +kernel
theorem dX11_watch_7 : decode cX11_watch 7 = .ok (.iload_n 1, 1) := by decide +kernel
theorem dX11_watch_8 : decode cX11_watch 8 = .ok (.iconst 0, 1) := by decide +kernel
theorem dX11_watch_9 : decode cX11_watch 9 = .ok (.bipush 18, 2) := by decide +kernel
theorem dX11_watch_11 : decode cX11_watch 11 = .ok (.invokestatic 111, 3) := by decide +kernel
theorem dX11_watch_14 : decode cX11_watch 14 = .ok (.ifCond .eq 14, 3) := by decide +kernel
theorem dX11_watch_17 : decode cX11_watch 17 = .ok (.aload_n 0, 1) := by decide +kernel
theorem dX11_watch_18 : decode cX11_watch 18 = .ok (.getfield 87, 3) := by decide +kernel
theorem dX11_watch_21 : decode cX11_watch 21 = .ok (.iload_n 1, 1) := by decide +kernel
theorem dX11_watch_22 : decode cX11_watch 22 = .ok (.invokevirtual 385, 3) := by decide +kernel
theorem dX11_watch_25 : decode cX11_watch 25 = .ok (.goto 4, 3) := by decide +kernel
theorem dX11_watch_28 : decode cX11_watch 28 = .ok (.iconst (-1), 1) := by decide +kernel
theorem dX11_watch_29 : decode cX11_watch 29 = .ok (.ireturn, 1) := by decide +kernel
theorem dX11_fair_0 : decode cX11_fair 0 = .ok (.aload_n 0, 1) := by decide +kernel
theorem dX11_fair_1 : decode cX11_fair 1 = .ok (.invokevirtual 140, 3) := by decide +kernel
theorem dX11_fair_4 : decode cX11_fair 4 = .ok (.ifCond .eq 22, 3) := by decide +kernel
theorem dX11_fair_7 : decode cX11_fair 7 = .ok (.iload_n 1, 1) := by decide +kernel
theorem dX11_fair_8 : decode cX11_fair 8 = .ok (.iconst 1, 1) := by decide +kernel
theorem dX11_fair_9 : decode cX11_fair 9 = .ok (.bipush 60, 2) := by decide +kernel
theorem dX11_fair_11 : decode cX11_fair 11 = .ok (.invokestatic 111, 3) := by decide +kernel
theorem dX11_fair_14 : decode cX11_fair 14 = .ok (.ifCond .eq 12, 3) := by decide +kernel
theorem dX11_fair_17 : decode cX11_fair 17 = .ok (.iload_n 2, 1) := by decide +kernel
theorem dX11_fair_18 : decode cX11_fair 18 = .ok (.iconst 0, 1) := by decide +kernel
theorem dX11_fair_19 : decode cX11_fair 19 = .ok (.iconst 1, 1) := by decide +kernel
theorem dX11_fair_20 : decode cX11_fair 20 = .ok (.invokestatic 111, 3) := by decide +kernel
theorem dX11_fair_23 : decode cX11_fair 23 = .ok (.ifCond .ne 5, 3) := by decide +kernel
theorem dX11_fair_26 : decode cX11_fair 26 = .ok (.iconst (-1), 1) := by decide +kernel
theorem dX11_fair_27 : decode cX11_fair 27 = .ok (.ireturn, 1) := by decide +kernel
theorem dX11_fair_28 : decode cX11_fair 28 = .ok (.aload_n 0, 1) := by decide +kernel
theorem dX11_fair_29 : decode cX11_fair 29 = .ok (.getfield 56, 3) := by decide +kernel
theorem dX11_fair_32 : decode cX11_fair 32 = .ok (.aload_n 0, 1) := by decide +kernel
theorem dX11_fair_33 : decode cX11_fair 33 = .ok (.getfield 52, 3) := by decide +kernel
theorem dX11_fair_36 : decode cX11_fair 36 = .ok (.invokevirtual 302, 3) := by decide +kernel
theorem dX11_fair_39 : decode cX11_fair 39 = .ok (.iconst 0, 1) := by decide +kernel
theorem dX11_fair_40 : decode cX11_fair 40 = .ok (.istore_n 3, 1) := by decide +kernel
theorem dX11_fair_41 : decode cX11_fair 41 = .ok (.aload_n 0, 1) := by decide +kernel
theorem dX11_fair_42 : decode cX11_fair 42 = .ok (.getfield 45, 3) := by decide +kernel
theorem dX11_fair_45 : decode cX11_fair 45 = .ok (.aload_n 0, 1) := by decide +kernel
theorem dX11_fair_46 : decode cX11_fair 46 = .ok (.getfield 56, 3) := by decide +kernel
theorem dX11_fair_49 : decode cX11_fair 49 = .ok (.invokevirtual 388, 3) := by decide +kernel
theorem dX11_fair_52 : decode cX11_fair 52 = .ok (.istore 4, 2) := by decide +kernel
theorem dX11_fair_54 : decode cX11_fair 54 = .ok (.iconst 1, 1) := by decide +kernel
theorem dX11_fair_55 : decode cX11_fair 55 = .ok (.istore 5, 2) := by decide +kernel
theorem dX11_fair_57 : decode cX11_fair 57 = .ok (.iload 5, 2) := by decide +kernel
theorem dX11_fair_59 : decode cX11_fair 59 = .ok (.iload_n 1, 1) := by decide +kernel
theorem dX11_fair_60 : decode cX11_fair 60 = .ok (.if_icmp .gt 47, 3) := by decide +kernel
theorem dX11_fair_63 : decode cX11_fair 63 = .ok (.aload_n 0, 1) := by decide +kernel
theorem dX11_fair_64 : decode cX11_fair 64 = .ok (.getfield 45, 3) := by decide +kernel
theorem dX11_fair_67 : decode cX11_fair 67 = .ok (.aload_n 0, 1) := by decide +kernel
theorem dX11_fair_68 : decode cX11_fair 68 = .ok (.getfield 56, 3) := by decide +kernel
theorem dX11_fair_71 : decode cX11_fair 71 = .ok (.invokevirtual 392, 3) := by decide +kernel
theorem dX11_fair_74 : decode cX11_fair 74 = .ok (.aload_n 0, 1) := by decide +kernel
theorem dX11_fair_75 : decode cX11_fair 75 = .ok (.getfield 45, 3) := by decide +kernel
theorem dX11_fair_78 : decode cX11_fair 78 = .ok (.aload_n 0, 1) := by decide +kernel
theorem dX11_fair_79 : decode cX11_fair 79 = .ok (.getfield 56, 3) := by decide +kernel
theorem dX11_fair_82 : decode cX11_fair 82 = .ok (.invokevirtual 388, 3) := by decide +kernel
theorem dX11_fair_85 : decode cX11_fair 85 = .ok (.istore 6, 2) := by decide +kernel
theorem dX11_fair_87 : decode cX11_fair 87 = .ok (.iload 6, 2) := by decide +kernel
theorem dX11_fair_89 : decode cX11_fair 89 = .ok (.iload 4, 2) := by decide +kernel
theorem dX11_fair_91 : decode cX11_fair 91 = .ok (.if_icmp .ge 10, 3) := by decide +kernel
theorem dX11_fair_94 : decode cX11_fair 94 = .ok (.iload 6, 2) := by decide +kernel
theorem dX11_fair_96 : decode cX11_fair 96 = .ok (.istore 4, 2) := by decide +kernel
theorem dX11_fair_98 : decode cX11_fair 98 = .ok (.iload 5, 2) := by decide +kernel
theorem dX11_fair_100 : decode cX11_fair 100 = .ok (.istore_n 3, 1) := by decide +kernel
theorem dX11_fair_101 : decode cX11_fair 101 = .ok (.iinc 5 1, 3) := by decide +kernel
theorem dX11_fair_104 : decode cX11_fair 104 = .ok (.goto (-47), 3) := by decide +kernel
theorem dX11_fair_107 : decode cX11_fair 107 = .ok (.iload_n 2, 1) := by decide +kernel
theorem dX11_fair_108 : decode cX11_fair 108 = .ok (.ifCond .ne 7, 3) := by decide +kernel
theorem dX11_fair_111 : decode cX11_fair 111 = .ok (.iload_n 3, 1) := by decide +kernel
theorem dX11_fair_112 : decode cX11_fair 112 = .ok (.goto 5, 3) := by decide +kernel
theorem dX11_fair_115 : decode cX11_fair 115 = .ok (.iload 4, 2) := by decide +kernel
theorem dX11_fair_117 : decode cX11_fair 117 = .ok (.ireturn, 1) := by decide +kernel
theorem dX11_buoys_0 : decode cX11_buoys 0 = .ok (.aload_n 0, 1) := by decide +kernel
theorem dX11_buoys_1 : decode cX11_buoys 1 = .ok (.invokevirtual 140, 3) := by decide +kernel
theorem dX11_buoys_4 : decode cX11_buoys 4 = .ok (.ifCond .eq 12, 3) := by decide +kernel
theorem dX11_buoys_7 : decode cX11_buoys 7 = .ok (.iload_n 1, 1) := by decide +kernel
theorem dX11_buoys_8 : decode cX11_buoys 8 = .ok (.iconst 0, 1) := by decide +kernel
theorem dX11_buoys_9 : decode cX11_buoys 9 = .ok (.iconst 1, 1) := by decide +kernel
theorem dX11_buoys_10 : decode cX11_buoys 10 = .ok (.invokestatic 111, 3) := by decide +kernel
theorem dX11_buoys_13 : decode cX11_buoys 13 = .ok (.ifCond .ne 5, 3) := by decide +kernel
theorem dX11_buoys_16 : decode cX11_buoys 16 = .ok (.iconst (-1), 1) := by decide +kernel
theorem dX11_buoys_17 : decode cX11_buoys 17 = .ok (.ireturn, 1) := by decide +kernel
theorem dX11_buoys_18 : decode cX11_buoys 18 = .ok (.iconst 0, 1) := by decide +kernel
theorem dX11_buoys_19 : decode cX11_buoys 19 = .ok (.istore_n 2, 1) := by decide +kernel
theorem dX11_buoys_20 : decode cX11_buoys 20 = .ok (.iconst 0, 1) := by decide +kernel
theorem dX11_buoys_21 : decode cX11_buoys 21 = .ok (.istore_n 3, 1) := by decide +kernel
theorem dX11_buoys_22 : decode cX11_buoys 22 = .ok (.iload_n 3, 1) := by decide +kernel
theorem dX11_buoys_23 : decode cX11_buoys 23 = .ok (.aload_n 0, 1) := by decide +kernel
theorem dX11_buoys_24 : decode cX11_buoys 24 = .ok (.getfield 19, 3) := by decide +kernel
theorem dX11_buoys_27 : decode cX11_buoys 27 = .ok (.getfield 275, 3) := by decide +kernel
theorem dX11_buoys_30 : decode cX11_buoys 30 = .ok (.if_icmp .ge 48, 3) := by decide +kernel
theorem dX11_buoys_33 : decode cX11_buoys 33 = .ok (.iload_n 1, 1) := by decide +kernel
theorem dX11_buoys_34 : decode cX11_buoys 34 = .ok (.ifCond .ne 24, 3) := by decide +kernel
theorem dX11_buoys_37 : decode cX11_buoys 37 = .ok (.aload_n 0, 1) := by decide +kernel
theorem dX11_buoys_38 : decode cX11_buoys 38 = .ok (.getfield 19, 3) := by decide +kernel
theorem dX11_buoys_41 : decode cX11_buoys 41 = .ok (.iload_n 3, 1) := by decide +kernel
theorem dX11_buoys_42 : decode cX11_buoys 42 = .ok (.invokevirtual 175, 3) := by decide +kernel
theorem dX11_buoys_45 : decode cX11_buoys 45 = .ok (.aload_n 0, 1) := by decide +kernel
theorem dX11_buoys_46 : decode cX11_buoys 46 = .ok (.getfield 52, 3) := by decide +kernel
theorem dX11_buoys_49 : decode cX11_buoys 49 = .ok (.getfield 144, 3) := by decide +kernel
theorem dX11_buoys_52 : decode cX11_buoys 52 = .ok (.if_icmp .gt 20, 3) := by decide +kernel
theorem dX11_buoys_55 : decode cX11_buoys 55 = .ok (.goto 11, 3) := by decide +kernel
theorem dX11_buoys_58 : decode cX11_buoys 58 = .ok (.aload_n 0, 1) := by decide +kernel
theorem dX11_buoys_59 : decode cX11_buoys 59 = .ok (.iload_n 3, 1) := by decide +kernel
theorem dX11_buoys_60 : decode cX11_buoys 60 = .ok (.invokevirtual 395, 3) := by decide +kernel
theorem dX11_buoys_63 : decode cX11_buoys 63 = .ok (.ifCond .eq 9, 3) := by decide +kernel
theorem dX11_buoys_66 : decode cX11_buoys 66 = .ok (.iload_n 2, 1) := by decide +kernel
theorem dX11_buoys_67 : decode cX11_buoys 67 = .ok (.iconst 1, 1) := by decide +kernel
theorem dX11_buoys_68 : decode cX11_buoys 68 = .ok (.iload_n 3, 1) := by decide +kernel
theorem dX11_buoys_69 : decode cX11_buoys 69 = .ok (.ishl, 1) := by decide +kernel
theorem dX11_buoys_70 : decode cX11_buoys 70 = .ok (.ior, 1) := by decide +kernel
theorem dX11_buoys_71 : decode cX11_buoys 71 = .ok (.istore_n 2, 1) := by decide +kernel
theorem dX11_buoys_72 : decode cX11_buoys 72 = .ok (.iinc 3 1, 3) := by decide +kernel
theorem dX11_buoys_75 : decode cX11_buoys 75 = .ok (.goto (-53), 3) := by decide +kernel
theorem dX11_buoys_78 : decode cX11_buoys 78 = .ok (.iload_n 2, 1) := by decide +kernel
theorem dX11_buoys_79 : decode cX11_buoys 79 = .ok (.ireturn, 1) := by decide +kernel
theorem dX11_sways_0 : decode cX11_sways 0 = .ok (.aload_n 0, 1) := by decide +kernel
theorem dX11_sways_1 : decode cX11_sways 1 = .ok (.iload_n 1, 1) := by decide +kernel
theorem dX11_sways_2 : decode cX11_sways 2 = .ok (.invokevirtual 163, 3) := by decide +kernel
theorem dX11_sways_5 : decode cX11_sways 5 = .ok (.ifCond .eq 12, 3) := by decide +kernel
theorem dX11_sways_8 : decode cX11_sways 8 = .ok (.iload_n 2, 1) := by decide +kernel
theorem dX11_sways_9 : decode cX11_sways 9 = .ok (.iconst 0, 1) := by decide +kernel
theorem dX11_sways_10 : decode cX11_sways 10 = .ok (.iconst 1, 1) := by decide +kernel
theorem dX11_sways_11 : decode cX11_sways 11 = .ok (.invokestatic 111, 3) := by decide +kernel
theorem dX11_sways_14 : decode cX11_sways 14 = .ok (.ifCond .ne 6, 3) := by decide +kernel
theorem dX11_sways_17 : decode cX11_sways 17 = .ok (.ldc 228, 2) := by decide +kernel
theorem dX11_sways_19 : decode cX11_sways 19 = .ok (.ireturn, 1) := by decide +kernel
theorem dX11_sways_20 : decode cX11_sways 20 = .ok (.aload_n 0, 1) := by decide +kernel
theorem dX11_sways_21 : decode cX11_sways 21 = .ok (.getfield 45, 3) := by decide +kernel
theorem dX11_sways_24 : decode cX11_sways 24 = .ok (.aload_n 0, 1) := by decide +kernel
theorem dX11_sways_25 : decode cX11_sways 25 = .ok (.getfield 52, 3) := by decide +kernel
theorem dX11_sways_28 : decode cX11_sways 28 = .ok (.iload_n 1, 1) := by decide +kernel
theorem dX11_sways_29 : decode cX11_sways 29 = .ok (.iconst 0, 1) := by decide +kernel
theorem dX11_sways_30 : decode cX11_sways 30 = .ok (.invokevirtual 224, 3) := by decide +kernel
theorem dX11_sways_33 : decode cX11_sways 33 = .ok (.istore_n 3, 1) := by decide +kernel
theorem dX11_sways_34 : decode cX11_sways 34 = .ok (.ldc 228, 2) := by decide +kernel
theorem dX11_sways_36 : decode cX11_sways 36 = .ok (.istore 4, 2) := by decide +kernel
theorem dX11_sways_38 : decode cX11_sways 38 = .ok (.iconst 1, 1) := by decide +kernel
theorem dX11_sways_39 : decode cX11_sways 39 = .ok (.istore 5, 2) := by decide +kernel
theorem dX11_sways_41 : decode cX11_sways 41 = .ok (.iload 5, 2) := by decide +kernel
theorem dX11_sways_43 : decode cX11_sways 43 = .ok (.aload_n 0, 1) := by decide +kernel
theorem dX11_sways_44 : decode cX11_sways 44 = .ok (.getfield 19, 3) := by decide +kernel
theorem dX11_sways_47 : decode cX11_sways 47 = .ok (.getfield 272, 3) := by decide +kernel
theorem dX11_sways_50 : decode cX11_sways 50 = .ok (.if_icmp .ge 45, 3) := by decide +kernel
theorem dX11_sways_53 : decode cX11_sways 53 = .ok (.aload_n 0, 1) := by decide +kernel
theorem dX11_sways_54 : decode cX11_sways 54 = .ok (.getfield 45, 3) := by decide +kernel
theorem dX11_sways_57 : decode cX11_sways 57 = .ok (.aload_n 0, 1) := by decide +kernel
theorem dX11_sways_58 : decode cX11_sways 58 = .ok (.getfield 52, 3) := by decide +kernel
theorem dX11_sways_61 : decode cX11_sways 61 = .ok (.iload_n 1, 1) := by decide +kernel
theorem dX11_sways_62 : decode cX11_sways 62 = .ok (.iload 5, 2) := by decide +kernel
theorem dX11_sways_64 : decode cX11_sways 64 = .ok (.invokevirtual 224, 3) := by decide +kernel
theorem dX11_sways_67 : decode cX11_sways 67 = .ok (.istore 6, 2) := by decide +kernel
theorem dX11_sways_69 : decode cX11_sways 69 = .ok (.iload 4, 2) := by decide +kernel
theorem dX11_sways_71 : decode cX11_sways 71 = .ok (.iload_n 3, 1) := by decide +kernel
theorem dX11_sways_72 : decode cX11_sways 72 = .ok (.iload 6, 2) := by decide +kernel
theorem dX11_sways_74 : decode cX11_sways 74 = .ok (.invokestatic 398, 3) := by decide +kernel
theorem dX11_sways_77 : decode cX11_sways 77 = .ok (.invokestatic 403, 3) := by decide +kernel
theorem dX11_sways_80 : decode cX11_sways 80 = .ok (.istore 4, 2) := by decide +kernel
theorem dX11_sways_82 : decode cX11_sways 82 = .ok (.iload_n 3, 1) := by decide +kernel
theorem dX11_sways_83 : decode cX11_sways 83 = .ok (.iload 6, 2) := by decide +kernel
theorem dX11_sways_85 : decode cX11_sways 85 = .ok (.invokestatic 403, 3) := by decide +kernel
theorem dX11_sways_88 : decode cX11_sways 88 = .ok (.istore_n 3, 1) := by decide +kernel
theorem dX11_sways_89 : decode cX11_sways 89 = .ok (.iinc 5 1, 3) := by decide +kernel
theorem dX11_sways_92 : decode cX11_sways 92 = .ok (.goto (-51), 3) := by decide +kernel
theorem dX11_sways_95 : decode cX11_sways 95 = .ok (.iload_n 2, 1) := by decide +kernel
theorem dX11_sways_96 : decode cX11_sways 96 = .ok (.ifCond .ne 16, 3) := by decide +kernel
theorem dX11_sways_99 : decode cX11_sways 99 = .ok (.aload_n 0, 1) := by decide +kernel
theorem dX11_sways_100 : decode cX11_sways 100 = .ok (.getfield 19, 3) := by decide +kernel
theorem dX11_sways_103 : decode cX11_sways 103 = .ok (.iload_n 1, 1) := by decide +kernel
theorem dX11_sways_104 : decode cX11_sways 104 = .ok (.invokevirtual 175, 3) := by decide +kernel
theorem dX11_sways_107 : decode cX11_sways 107 = .ok (.iload_n 3, 1) := by decide +kernel
theorem dX11_sways_108 : decode cX11_sways 108 = .ok (.isub, 1) := by decide +kernel
theorem dX11_sways_109 : decode cX11_sways 109 = .ok (.goto 7, 3) := by decide +kernel
theorem dX11_sways_112 : decode cX11_sways 112 = .ok (.iload_n 3, 1) := by decide +kernel
theorem dX11_sways_113 : decode cX11_sways 113 = .ok (.iload 4, 2) := by decide +kernel
theorem dX11_sways_115 : decode cX11_sways 115 = .ok (.isub, 1) := by decide +kernel
theorem dX11_sways_116 : decode cX11_sways 116 = .ok (.ireturn, 1) := by decide +kernel
theorem dX11_nearest_0 : decode cX11_nearest 0 = .ok (.aload_n 0, 1) := by decide +kernel
theorem dX11_nearest_1 : decode cX11_nearest 1 = .ok (.iload_n 1, 1) := by decide +kernel
theorem dX11_nearest_2 : decode cX11_nearest 2 = .ok (.invokevirtual 191, 3) := by decide +kernel
theorem dX11_nearest_5 : decode cX11_nearest 5 = .ok (.ifCond .ne 5, 3) := by decide +kernel
theorem dX11_nearest_8 : decode cX11_nearest 8 = .ok (.iconst (-1), 1) := by decide +kernel
theorem dX11_nearest_9 : decode cX11_nearest 9 = .ok (.ireturn, 1) := by decide +kernel
theorem dX11_nearest_10 : decode cX11_nearest 10 = .ok (.iconst 0, 1) := by decide +kernel
theorem dX11_nearest_11 : decode cX11_nearest 11 = .ok (.istore_n 2, 1) := by decide +kernel
theorem dX11_nearest_12 : decode cX11_nearest 12 = .ok (.ldc_w 406, 3) := by decide +kernel
theorem dX11_nearest_15 : decode cX11_nearest 15 = .ok (.istore_n 3, 1) := by decide +kernel
theorem dX11_nearest_16 : decode cX11_nearest 16 = .ok (.iconst 0, 1) := by decide +kernel
theorem dX11_nearest_17 : decode cX11_nearest 17 = .ok (.istore 4, 2) := by decide +kernel
theorem dX11_nearest_19 : decode cX11_nearest 19 = .ok (.iload 4, 2) := by decide +kernel
theorem dX11_nearest_21 : decode cX11_nearest 21 = .ok (.aload_n 0, 1) := by decide +kernel
theorem dX11_nearest_22 : decode cX11_nearest 22 = .ok (.getfield 19, 3) := by decide +kernel
theorem dX11_nearest_25 : decode cX11_nearest 25 = .ok (.getfield 275, 3) := by decide +kernel
theorem dX11_nearest_28 : decode cX11_nearest 28 = .ok (.if_icmp .ge 49, 3) := by decide +kernel
theorem dX11_nearest_31 : decode cX11_nearest 31 = .ok (.aload_n 0, 1) := by decide +kernel
theorem dX11_nearest_32 : decode cX11_nearest 32 = .ok (.getfield 52, 3) := by decide +kernel
theorem dX11_nearest_35 : decode cX11_nearest 35 = .ok (.iload_n 1, 1) := by decide +kernel
theorem dX11_nearest_36 : decode cX11_nearest 36 = .ok (.aload_n 0, 1) := by decide +kernel
theorem dX11_nearest_37 : decode cX11_nearest 37 = .ok (.getfield 19, 3) := by decide +kernel
theorem dX11_nearest_40 : decode cX11_nearest 40 = .ok (.iload 4, 2) := by decide +kernel
theorem dX11_nearest_42 : decode cX11_nearest 42 = .ok (.invokevirtual 169, 3) := by decide +kernel
theorem dX11_nearest_45 : decode cX11_nearest 45 = .ok (.aload_n 0, 1) := by decide +kernel
theorem dX11_nearest_46 : decode cX11_nearest 46 = .ok (.getfield 19, 3) := by decide +kernel
theorem dX11_nearest_49 : decode cX11_nearest 49 = .ok (.iload 4, 2) := by decide +kernel
theorem dX11_nearest_51 : decode cX11_nearest 51 = .ok (.invokevirtual 172, 3) := by decide +kernel
theorem dX11_nearest_54 : decode cX11_nearest 54 = .ok (.invokevirtual 240, 3) := by decide +kernel
theorem dX11_nearest_57 : decode cX11_nearest 57 = .ok (.istore 5, 2) := by decide +kernel
theorem dX11_nearest_59 : decode cX11_nearest 59 = .ok (.iload 5, 2) := by decide +kernel
theorem dX11_nearest_61 : decode cX11_nearest 61 = .ok (.iload_n 3, 1) := by decide +kernel
theorem dX11_nearest_62 : decode cX11_nearest 62 = .ok (.if_icmp .ge 9, 3) := by decide +kernel
theorem dX11_nearest_65 : decode cX11_nearest 65 = .ok (.iload 5, 2) := by decide +kernel
theorem dX11_nearest_67 : decode cX11_nearest 67 = .ok (.istore_n 3, 1) := by decide +kernel
theorem dX11_nearest_68 : decode cX11_nearest 68 = .ok (.iload 4, 2) := by decide +kernel
theorem dX11_nearest_70 : decode cX11_nearest 70 = .ok (.istore_n 2, 1) := by decide +kernel
theorem dX11_nearest_71 : decode cX11_nearest 71 = .ok (.iinc 4 1, 3) := by decide +kernel
theorem dX11_nearest_74 : decode cX11_nearest 74 = .ok (.goto (-55), 3) := by decide +kernel
theorem dX11_nearest_77 : decode cX11_nearest 77 = .ok (.iload_n 2, 1) := by decide +kernel
theorem dX11_nearest_78 : decode cX11_nearest 78 = .ok (.ireturn, 1) := by decide +kernel
theorem dX11_fog_0 : decode cX11_fog 0 = .ok (.aload_n 0, 1) := by decide +kernel
theorem dX11_fog_1 : decode cX11_fog 1 = .ok (.iload_n 1, 1) := by decide +kernel
theorem dX11_fog_2 : decode cX11_fog 2 = .ok (.invokevirtual 191, 3) := by decide +kernel
theorem dX11_fog_5 : decode cX11_fog 5 = .ok (.ifCond .eq 13, 3) := by decide +kernel
theorem dX11_fog_8 : decode cX11_fog 8 = .ok (.iload_n 2, 1) := by decide +kernel
theorem dX11_fog_9 : decode cX11_fog 9 = .ok (.iconst 0, 1) := by decide +kernel
theorem dX11_fog_10 : decode cX11_fog 10 = .ok (.bipush 100, 2) := by decide +kernel
theorem dX11_fog_12 : decode cX11_fog 12 = .ok (.invokestatic 111, 3) := by decide +kernel
theorem dX11_fog_15 : decode cX11_fog 15 = .ok (.ifCond .ne 5, 3) := by decide +kernel
theorem dX11_fog_18 : decode cX11_fog 18 = .ok (.iconst (-1), 1) := by decide +kernel
theorem dX11_fog_19 : decode cX11_fog 19 = .ok (.ireturn, 1) := by decide +kernel
theorem dX11_fog_20 : decode cX11_fog 20 = .ok (.aload_n 0, 1) := by decide +kernel
theorem dX11_fog_21 : decode cX11_fog 21 = .ok (.getfield 45, 3) := by decide +kernel
theorem dX11_fog_24 : decode cX11_fog 24 = .ok (.aload_n 0, 1) := by decide +kernel
theorem dX11_fog_25 : decode cX11_fog 25 = .ok (.getfield 52, 3) := by decide +kernel
theorem dX11_fog_28 : decode cX11_fog 28 = .ok (.invokevirtual 316, 3) := by decide +kernel
theorem dX11_fog_31 : decode cX11_fog 31 = .ok (.aload_n 0, 1) := by decide +kernel
theorem dX11_fog_32 : decode cX11_fog 32 = .ok (.iload_n 2, 1) := by decide +kernel
theorem dX11_fog_33 : decode cX11_fog 33 = .ok (.invokevirtual 407, 3) := by decide +kernel
theorem dX11_fog_36 : decode cX11_fog 36 = .ok (.istore_n 3, 1) := by decide +kernel
theorem dX11_fog_37 : decode cX11_fog 37 = .ok (.lconst 0, 1) := by decide +kernel
theorem dX11_fog_38 : decode cX11_fog 38 = .ok (.lstore 4, 2) := by decide +kernel
theorem dX11_fog_40 : decode cX11_fog 40 = .ok (.iconst 0, 1) := by decide +kernel
theorem dX11_fog_41 : decode cX11_fog 41 = .ok (.istore 6, 2) := by decide +kernel
theorem dX11_fog_43 : decode cX11_fog 43 = .ok (.iload 6, 2) := by decide +kernel
theorem dX11_fog_45 : decode cX11_fog 45 = .ok (.iload_n 3, 1) := by decide +kernel
theorem dX11_fog_46 : decode cX11_fog 46 = .ok (.if_icmp .ge 31, 3) := by decide +kernel
theorem dX11_fog_49 : decode cX11_fog 49 = .ok (.aload_n 0, 1) := by decide +kernel
theorem dX11_fog_50 : decode cX11_fog 50 = .ok (.iload 6, 2) := by decide +kernel
theorem dX11_fog_52 : decode cX11_fog 52 = .ok (.iload_n 1, 1) := by decide +kernel
theorem dX11_fog_53 : decode cX11_fog 53 = .ok (.invokevirtual 410, 3) := by decide +kernel
theorem dX11_fog_56 : decode cX11_fog 56 = .ok (.ifCond .eq 15, 3) := by decide +kernel
theorem dX11_fog_59 : decode cX11_fog 59 = .ok (.lload 4, 2) := by decide +kernel
theorem dX11_fog_61 : decode cX11_fog 61 = .ok (.aload_n 0, 1) := by decide +kernel
theorem dX11_fog_62 : decode cX11_fog 62 = .ok (.getfield 91, 3) := by decide +kernel
theorem dX11_fog_65 : decode cX11_fog 65 = .ok (.iload 6, 2) := by decide +kernel
theorem dX11_fog_67 : decode cX11_fog 67 = .ok (.laload, 1) := by decide +kernel
theorem dX11_fog_68 : decode cX11_fog 68 = .ok (.ladd, 1) := by decide +kernel
theorem dX11_fog_69 : decode cX11_fog 69 = .ok (.lstore 4, 2) := by decide +kernel
theorem dX11_fog_71 : decode cX11_fog 71 = .ok (.iinc 6 1, 3) := by decide +kernel
theorem dX11_fog_74 : decode cX11_fog 74 = .ok (.goto (-31), 3) := by decide +kernel
theorem dX11_fog_77 : decode cX11_fog 77 = .ok (.lload 4, 2) := by decide +kernel
theorem dX11_fog_79 : decode cX11_fog 79 = .ok (.l2i, 1) := by decide +kernel
theorem dX11_fog_80 : decode cX11_fog 80 = .ok (.ireturn, 1) := by decide +kernel
theorem dX11_needs_0 : decode cX11_needs 0 = .ok (.aload_n 0, 1) := by decide +kernel
theorem dX11_needs_1 : decode cX11_needs 1 = .ok (.iload_n 1, 1) := by decide +kernel
theorem dX11_needs_2 : decode cX11_needs 2 = .ok (.invokevirtual 191, 3) := by decide +kernel
theorem dX11_needs_5 : decode cX11_needs 5 = .ok (.ifCond .eq 11, 3) := by decide +kernel
theorem dX11_needs_8 : decode cX11_needs 8 = .ok (.aload_n 0, 1) := by decide +kernel
theorem dX11_needs_9 : decode cX11_needs 9 = .ok (.iload_n 2, 1) := by decide +kernel
theorem dX11_needs_10 : decode cX11_needs 10 = .ok (.invokevirtual 163, 3) := by decide +kernel
theorem dX11_needs_13 : decode cX11_needs 13 = .ok (.ifCond .ne 5, 3) := by decide +kernel
theorem dX11_needs_16 : decode cX11_needs 16 = .ok (.iconst (-1), 1) := by decide +kernel
theorem dX11_needs_17 : decode cX11_needs 17 = .ok (.ireturn, 1) := by decide +kernel
theorem dX11_needs_18 : decode cX11_needs 18 = .ok (.aload_n 0, 1) := by decide +kernel
theorem dX11_needs_19 : decode cX11_needs 19 = .ok (.getfield 56, 3) := by decide +kernel
theorem dX11_needs_22 : decode cX11_needs 22 = .ok (.aload_n 0, 1) := by decide +kernel
theorem dX11_needs_23 : decode cX11_needs 23 = .ok (.getfield 52, 3) := by decide +kernel
theorem dX11_needs_26 : decode cX11_needs 26 = .ok (.invokevirtual 302, 3) := by decide +kernel
theorem dX11_needs_29 : decode cX11_needs 29 = .ok (.aload_n 0, 1) := by decide +kernel
theorem dX11_needs_30 : decode cX11_needs 30 = .ok (.getfield 45, 3) := by decide +kernel
theorem dX11_needs_33 : decode cX11_needs 33 = .ok (.aload_n 0, 1) := by decide +kernel
theorem dX11_needs_34 : decode cX11_needs 34 = .ok (.getfield 56, 3) := by decide +kernel
theorem dX11_needs_37 : decode cX11_needs 37 = .ok (.iload_n 2, 1) := by decide +kernel
theorem dX11_needs_38 : decode cX11_needs 38 = .ok (.iload_n 1, 1) := by decide +kernel
theorem dX11_needs_39 : decode cX11_needs 39 = .ok (.invokevirtual 413, 3) := by decide +kernel
theorem dX11_needs_42 : decode cX11_needs 42 = .ok (.istore_n 3, 1) := by decide +kernel
theorem dX11_needs_43 : decode cX11_needs 43 = .ok (.iconst 0, 1) := by decide +kernel
theorem dX11_needs_44 : decode cX11_needs 44 = .ok (.istore 4, 2) := by decide +kernel
theorem dX11_needs_46 : decode cX11_needs 46 = .ok (.iload 4, 2) := by decide +kernel
theorem dX11_needs_48 : decode cX11_needs 48 = .ok (.bipush 9, 2) := by decide +kernel
theorem dX11_needs_50 : decode cX11_needs 50 = .ok (.if_icmp .gt 44, 3) := by decide +kernel
theorem dX11_needs_53 : decode cX11_needs 53 = .ok (.aload_n 0, 1) := by decide +kernel
theorem dX11_needs_54 : decode cX11_needs 54 = .ok (.getfield 56, 3) := by decide +kernel
theorem dX11_needs_57 : decode cX11_needs 57 = .ok (.getfield 188, 3) := by decide +kernel
theorem dX11_needs_60 : decode cX11_needs 60 = .ok (.iload_n 2, 1) := by decide +kernel
theorem dX11_needs_61 : decode cX11_needs 61 = .ok (.iconst 3, 1) := by decide +kernel
theorem dX11_needs_62 : decode cX11_needs 62 = .ok (.imul, 1) := by decide +kernel
theorem dX11_needs_63 : decode cX11_needs 63 = .ok (.iload_n 1, 1) := by decide +kernel
theorem dX11_needs_64 : decode cX11_needs 64 = .ok (.iadd, 1) := by decide +kernel
theorem dX11_needs_65 : decode cX11_needs 65 = .ok (.iload 4, 2) := by decide +kernel
theorem dX11_needs_67 : decode cX11_needs 67 = .ok (.iastore, 1) := by decide +kernel
theorem dX11_needs_68 : decode cX11_needs 68 = .ok (.aload_n 0, 1) := by decide +kernel
theorem dX11_needs_69 : decode cX11_needs 69 = .ok (.getfield 45, 3) := by decide +kernel
theorem dX11_needs_72 : decode cX11_needs 72 = .ok (.aload_n 0, 1) := by decide +kernel
theorem dX11_needs_73 : decode cX11_needs 73 = .ok (.getfield 56, 3) := by decide +kernel
theorem dX11_needs_76 : decode cX11_needs 76 = .ok (.iload_n 2, 1) := by decide +kernel
theorem dX11_needs_77 : decode cX11_needs 77 = .ok (.iload_n 1, 1) := by decide +kernel
theorem dX11_needs_78 : decode cX11_needs 78 = .ok (.invokevirtual 224, 3) := by decide +kernel
theorem dX11_needs_81 : decode cX11_needs 81 = .ok (.iload_n 3, 1) := by decide +kernel
theorem dX11_needs_82 : decode cX11_needs 82 = .ok (.if_icmp .lt 6, 3) := by decide +kernel
theorem dX11_needs_85 : decode cX11_needs 85 = .ok (.iload 4, 2) := by decide +kernel
theorem dX11_needs_87 : decode cX11_needs 87 = .ok (.ireturn, 1) := by decide +kernel
theorem dX11_needs_88 : decode cX11_needs 88 = .ok (.iinc 4 1, 3) := by decide +kernel
theorem dX11_needs_91 : decode cX11_needs 91 = .ok (.goto (-45), 3) := by decide +kernel
theorem dX11_needs_94 : decode cX11_needs 94 = .ok (.iconst (-1), 1) := by decide +kernel
theorem dX11_needs_95 : decode cX11_needs 95 = .ok (.ireturn, 1) := by decide +kernel
theorem dX11_heard_0 : decode cX11_heard 0 = .ok (.aload_n 0, 1) := by decide +kernel
theorem dX11_heard_1 : decode cX11_heard 1 = .ok (.iload_n 1, 1) := by decide +kernel
theorem dX11_heard_2 : decode cX11_heard 2 = .ok (.invokevirtual 191, 3) := by decide +kernel
theorem dX11_heard_5 : decode cX11_heard 5 = .ok (.ifCond .ne 5, 3) := by decide +kernel
theorem dX11_heard_8 : decode cX11_heard 8 = .ok (.iconst (-1), 1) := by decide +kernel
theorem dX11_heard_9 : decode cX11_heard 9 = .ok (.ireturn, 1) := by decide +kernel
theorem dX11_heard_10 : decode cX11_heard 10 = .ok (.iconst 0, 1) := by decide +kernel
theorem dX11_heard_11 : decode cX11_heard 11 = .ok (.istore_n 2, 1) := by decide +kernel
theorem dX11_heard_12 : decode cX11_heard 12 = .ok (.iconst 0, 1) := by decide +kernel
theorem dX11_heard_13 : decode cX11_heard 13 = .ok (.istore_n 3, 1) := by decide +kernel
theorem dX11_heard_14 : decode cX11_heard 14 = .ok (.iload_n 3, 1) := by decide +kernel
theorem dX11_heard_15 : decode cX11_heard 15 = .ok (.aload_n 0, 1) := by decide +kernel
theorem dX11_heard_16 : decode cX11_heard 16 = .ok (.getfield 19, 3) := by decide +kernel
theorem dX11_heard_19 : decode cX11_heard 19 = .ok (.getfield 275, 3) := by decide +kernel
theorem dX11_heard_22 : decode cX11_heard 22 = .ok (.if_icmp .ge 28, 3) := by decide +kernel
theorem dX11_heard_25 : decode cX11_heard 25 = .ok (.aload_n 0, 1) := by decide +kernel
theorem dX11_heard_26 : decode cX11_heard 26 = .ok (.aload_n 0, 1) := by decide +kernel
theorem dX11_heard_27 : decode cX11_heard 27 = .ok (.getfield 52, 3) := by decide +kernel
theorem dX11_heard_30 : decode cX11_heard 30 = .ok (.iload_n 1, 1) := by decide +kernel
theorem dX11_heard_31 : decode cX11_heard 31 = .ok (.iload_n 3, 1) := by decide +kernel
theorem dX11_heard_32 : decode cX11_heard 32 = .ok (.invokevirtual 416, 3) := by decide +kernel
theorem dX11_heard_35 : decode cX11_heard 35 = .ok (.ifCond .eq 9, 3) := by decide +kernel
theorem dX11_heard_38 : decode cX11_heard 38 = .ok (.iload_n 2, 1) := by decide +kernel
theorem dX11_heard_39 : decode cX11_heard 39 = .ok (.iconst 1, 1) := by decide +kernel
theorem dX11_heard_40 : decode cX11_heard 40 = .ok (.iload_n 3, 1) := by decide +kernel
theorem dX11_heard_41 : decode cX11_heard 41 = .ok (.ishl, 1) := by decide +kernel
theorem dX11_heard_42 : decode cX11_heard 42 = .ok (.ior, 1) := by decide +kernel
theorem dX11_heard_43 : decode cX11_heard 43 = .ok (.istore_n 2, 1) := by decide +kernel
theorem dX11_heard_44 : decode cX11_heard 44 = .ok (.iinc 3 1, 3) := by decide +kernel
theorem dX11_heard_47 : decode cX11_heard 47 = .ok (.goto (-33), 3) := by decide +kernel
theorem dX11_heard_50 : decode cX11_heard 50 = .ok (.iload_n 2, 1) := by decide +kernel
theorem dX11_heard_51 : decode cX11_heard 51 = .ok (.ireturn, 1) := by decide +kernel
theorem dX11_middle_0 : decode cX11_middle 0 = .ok (.aload_n 0, 1) := by decide +kernel
theorem dX11_middle_1 : decode cX11_middle 1 = .ok (.invokevirtual 140, 3) := by decide +kernel
theorem dX11_middle_4 : decode cX11_middle 4 = .ok (.ifCond .eq 13, 3) := by decide +kernel
theorem dX11_middle_7 : decode cX11_middle 7 = .ok (.aload_n 0, 1) := by decide +kernel
theorem dX11_middle_8 : decode cX11_middle 8 = .ok (.getfield 87, 3) := by decide +kernel
theorem dX11_middle_11 : decode cX11_middle 11 = .ok (.invokevirtual 419, 3) := by decide +kernel
theorem dX11_middle_14 : decode cX11_middle 14 = .ok (.goto 4, 3) := by decide +kernel
theorem dX11_middle_17 : decode cX11_middle 17 = .ok (.iconst (-1), 1) := by decide +kernel
theorem dX11_middle_18 : decode cX11_middle 18 = .ok (.ireturn, 1) := by decide +kernel
theorem dX11_image_0 : decode cX11_image 0 = .ok (.aload_n 0, 1) := by decide +kernel
theorem dX11_image_1 : decode cX11_image 1 = .ok (.invokevirtual 140, 3) := by decide +kernel
theorem dX11_image_4 : decode cX11_image 4 = .ok (.ifCond .ne 5, 3) := by decide +kernel
theorem dX11_image_7 : decode cX11_image 7 = .ok (.iconst (-1), 1) := by decide +kernel
theorem dX11_image_8 : decode cX11_image 8 = .ok (.ireturn, 1) := by decide +kernel
theorem dX11_image_9 : decode cX11_image 9 = .ok (.aload_n 0, 1) := by decide +kernel
theorem dX11_image_10 : decode cX11_image 10 = .ok (.getfield 62, 3) := by decide +kernel
theorem dX11_image_13 : decode cX11_image 13 = .ok (.aload_n 0, 1) := by decide +kernel
theorem dX11_image_14 : decode cX11_image 14 = .ok (.getfield 52, 3) := by decide +kernel
theorem dX11_image_17 : decode cX11_image 17 = .ok (.invokevirtual 422, 3) := by decide +kernel
theorem dX11_image_20 : decode cX11_image 20 = .ok (.aload_n 0, 1) := by decide +kernel
theorem dX11_image_21 : decode cX11_image 21 = .ok (.getfield 52, 3) := by decide +kernel
theorem dX11_image_24 : decode cX11_image 24 = .ok (.getfield 156, 3) := by decide +kernel
theorem dX11_image_27 : decode cX11_image 27 = .ok (.ireturn, 1) := by decide +kernel
theorem dX11_back_0 : decode cX11_back 0 = .ok (.aload_n 0, 1) := by decide +kernel
theorem dX11_back_1 : decode cX11_back 1 = .ok (.getfield 62, 3) := by decide +kernel
theorem dX11_back_4 : decode cX11_back 4 = .ok (.aload_n 0, 1) := by decide +kernel
theorem dX11_back_5 : decode cX11_back 5 = .ok (.getfield 52, 3) := by decide +kernel
theorem dX11_back_8 : decode cX11_back 8 = .ok (.invokevirtual 425, 3) := by decide +kernel
theorem dX11_back_11 : decode cX11_back 11 = .ok (.ifCond .eq 13, 3) := by decide +kernel
theorem dX11_back_14 : decode cX11_back 14 = .ok (.aload_n 0, 1) := by decide +kernel
theorem dX11_back_15 : decode cX11_back 15 = .ok (.getfield 52, 3) := by decide +kernel
theorem dX11_back_18 : decode cX11_back 18 = .ok (.getfield 156, 3) := by decide +kernel
theorem dX11_back_21 : decode cX11_back 21 = .ok (.goto 4, 3) := by decide +kernel
theorem dX11_back_24 : decode cX11_back 24 = .ok (.iconst (-1), 1) := by decide +kernel
theorem dX11_back_25 : decode cX11_back 25 = .ok (.ireturn, 1) := by decide +kernel
theorem dX11_count_0 : decode cX11_count 0 = .ok (.iload_n 1, 1) := by decide +kernel
theorem dX11_count_1 : decode cX11_count 1 = .ok (.tableswitch 199 0 12 #[67, 75, 83, 91, 96, 104, 112, 120, 139, 157, 175, 183, 191], 67) := by decide +kernel
theorem dX11_count_68 : decode cX11_count 68 = .ok (.aload_n 0, 1) := by decide +kernel
theorem dX11_count_69 : decode cX11_count 69 = .ok (.getfield 19, 3) := by decide +kernel
theorem dX11_count_72 : decode cX11_count 72 = .ok (.getfield 275, 3) := by decide +kernel
theorem dX11_count_75 : decode cX11_count 75 = .ok (.ireturn, 1) := by decide +kernel
theorem dX11_count_76 : decode cX11_count 76 = .ok (.aload_n 0, 1) := by decide +kernel
theorem dX11_count_77 : decode cX11_count 77 = .ok (.getfield 19, 3) := by decide +kernel
theorem dX11_count_80 : decode cX11_count 80 = .ok (.getfield 272, 3) := by decide +kernel
theorem dX11_count_83 : decode cX11_count 83 = .ok (.ireturn, 1) := by decide +kernel
theorem dX11_count_84 : decode cX11_count 84 = .ok (.aload_n 0, 1) := by decide +kernel
theorem dX11_count_85 : decode cX11_count 85 = .ok (.getfield 29, 3) := by decide +kernel
theorem dX11_count_88 : decode cX11_count 88 = .ok (.getfield 218, 3) := by decide +kernel
theorem dX11_count_91 : decode cX11_count 91 = .ok (.ireturn, 1) := by decide +kernel
theorem dX11_count_92 : decode cX11_count 92 = .ok (.aload_n 0, 1) := by decide +kernel
theorem dX11_count_93 : decode cX11_count 93 = .ok (.getfield 126, 3) := by decide +kernel
theorem dX11_count_96 : decode cX11_count 96 = .ok (.ireturn, 1) := by decide +kernel
theorem dX11_count_97 : decode cX11_count 97 = .ok (.aload_n 0, 1) := by decide +kernel
theorem dX11_count_98 : decode cX11_count 98 = .ok (.getfield 10, 3) := by decide +kernel
theorem dX11_count_101 : decode cX11_count 101 = .ok (.getfield 103, 3) := by decide +kernel
theorem dX11_count_104 : decode cX11_count 104 = .ok (.ireturn, 1) := by decide +kernel
theorem dX11_count_105 : decode cX11_count 105 = .ok (.aload_n 0, 1) := by decide +kernel
theorem dX11_count_106 : decode cX11_count 106 = .ok (.getfield 29, 3) := by decide +kernel
theorem dX11_count_109 : decode cX11_count 109 = .ok (.getfield 221, 3) := by decide +kernel
theorem dX11_count_112 : decode cX11_count 112 = .ok (.ireturn, 1) := by decide +kernel
theorem dX11_count_113 : decode cX11_count 113 = .ok (.aload_n 0, 1) := by decide +kernel
theorem dX11_count_114 : decode cX11_count 114 = .ok (.getfield 52, 3) := by decide +kernel
theorem dX11_count_117 : decode cX11_count 117 = .ok (.getfield 156, 3) := by decide +kernel
theorem dX11_count_120 : decode cX11_count 120 = .ok (.ireturn, 1) := by decide +kernel
theorem dX11_count_121 : decode cX11_count 121 = .ok (.aload_n 0, 1) := by decide +kernel
theorem dX11_count_122 : decode cX11_count 122 = .ok (.getfield 45, 3) := by decide +kernel
theorem dX11_count_125 : decode cX11_count 125 = .ok (.aload_n 0, 1) := by decide +kernel
theorem dX11_count_126 : decode cX11_count 126 = .ok (.getfield 52, 3) := by decide +kernel
theorem dX11_count_129 : decode cX11_count 129 = .ok (.invokevirtual 316, 3) := by decide +kernel
theorem dX11_count_132 : decode cX11_count 132 = .ok (.aload_n 0, 1) := by decide +kernel
theorem dX11_count_133 : decode cX11_count 133 = .ok (.getfield 45, 3) := by decide +kernel
theorem dX11_count_136 : decode cX11_count 136 = .ok (.invokevirtual 428, 3) := by decide +kernel
theorem dX11_count_139 : decode cX11_count 139 = .ok (.ireturn, 1) := by decide +kernel
theorem dX11_count_140 : decode cX11_count 140 = .ok (.aload_n 0, 1) := by decide +kernel
theorem dX11_count_141 : decode cX11_count 141 = .ok (.getfield 52, 3) := by decide +kernel
theorem dX11_count_144 : decode cX11_count 144 = .ok (.getfield 181, 3) := by decide +kernel
theorem dX11_count_147 : decode cX11_count 147 = .ok (.aload_n 0, 1) := by decide +kernel
theorem dX11_count_148 : decode cX11_count 148 = .ok (.getfield 19, 3) := by decide +kernel
theorem dX11_count_151 : decode cX11_count 151 = .ok (.getfield 275, 3) := by decide +kernel
theorem dX11_count_154 : decode cX11_count 154 = .ok (.invokestatic 431, 3) := by decide +kernel
theorem dX11_count_157 : decode cX11_count 157 = .ok (.ireturn, 1) := by decide +kernel
theorem dX11_count_158 : decode cX11_count 158 = .ok (.aload_n 0, 1) := by decide +kernel
theorem dX11_count_159 : decode cX11_count 159 = .ok (.getfield 52, 3) := by decide +kernel
theorem dX11_count_162 : decode cX11_count 162 = .ok (.getfield 212, 3) := by decide +kernel
theorem dX11_count_165 : decode cX11_count 165 = .ok (.aload_n 0, 1) := by decide +kernel
theorem dX11_count_166 : decode cX11_count 166 = .ok (.getfield 19, 3) := by decide +kernel
theorem dX11_count_169 : decode cX11_count 169 = .ok (.getfield 272, 3) := by decide +kernel
theorem dX11_count_172 : decode cX11_count 172 = .ok (.invokestatic 431, 3) := by decide +kernel
theorem dX11_count_175 : decode cX11_count 175 = .ok (.ireturn, 1) := by decide +kernel
theorem dX11_count_176 : decode cX11_count 176 = .ok (.aload_n 0, 1) := by decide +kernel
theorem dX11_count_177 : decode cX11_count 177 = .ok (.getfield 69, 3) := by decide +kernel
theorem dX11_count_180 : decode cX11_count 180 = .ok (.getfield 363, 3) := by decide +kernel
theorem dX11_count_183 : decode cX11_count 183 = .ok (.ireturn, 1) := by decide +kernel
theorem dX11_count_184 : decode cX11_count 184 = .ok (.aload_n 0, 1) := by decide +kernel
theorem dX11_count_185 : decode cX11_count 185 = .ok (.getfield 52, 3) := by decide +kernel
theorem dX11_count_188 : decode cX11_count 188 = .ok (.invokevirtual 285, 3) := by decide +kernel
theorem dX11_count_191 : decode cX11_count 191 = .ok (.ireturn, 1) := by decide +kernel
theorem dX11_count_192 : decode cX11_count 192 = .ok (.aload_n 0, 1) := by decide +kernel
theorem dX11_count_193 : decode cX11_count 193 = .ok (.getfield 62, 3) := by decide +kernel
theorem dX11_count_196 : decode cX11_count 196 = .ok (.getfield 282, 3) := by decide +kernel
theorem dX11_count_199 : decode cX11_count 199 = .ok (.ireturn, 1) := by decide +kernel
theorem dX11_count_200 : decode cX11_count 200 = .ok (.ldc 228, 2) := by decide +kernel
theorem dX11_count_202 : decode cX11_count 202 = .ok (.ireturn, 1) := by decide +kernel
theorem dX11_hasBorough_0 : decode cX11_hasBorough 0 = .ok (.aload_n 0, 1) := by decide +kernel
theorem dX11_hasBorough_1 : decode cX11_hasBorough 1 = .ok (.getfield 19, 3) := by decide +kernel
theorem dX11_hasBorough_4 : decode cX11_hasBorough 4 = .ok (.getfield 275, 3) := by decide +kernel
theorem dX11_hasBorough_7 : decode cX11_hasBorough 7 = .ok (.ifCond .le 7, 3) := by decide +kernel
theorem dX11_hasBorough_10 : decode cX11_hasBorough 10 = .ok (.iconst 1, 1) := by decide +kernel
theorem dX11_hasBorough_11 : decode cX11_hasBorough 11 = .ok (.goto 4, 3) := by decide +kernel
theorem dX11_hasBorough_14 : decode cX11_hasBorough 14 = .ok (.iconst 0, 1) := by decide +kernel
theorem dX11_hasBorough_15 : decode cX11_hasBorough 15 = .ok (.ireturn, 1) := by decide +kernel
theorem dX11_isBuoy_0 : decode cX11_isBuoy 0 = .ok (.iload_n 1, 1) := by decide +kernel
theorem dX11_isBuoy_1 : decode cX11_isBuoy 1 = .ok (.ifCond .lt 18, 3) := by decide +kernel
theorem dX11_isBuoy_4 : decode cX11_isBuoy 4 = .ok (.iload_n 1, 1) := by decide +kernel
theorem dX11_isBuoy_5 : decode cX11_isBuoy 5 = .ok (.aload_n 0, 1) := by decide +kernel
theorem dX11_isBuoy_6 : decode cX11_isBuoy 6 = .ok (.getfield 19, 3) := by decide +kernel
theorem dX11_isBuoy_9 : decode cX11_isBuoy 9 = .ok (.getfield 275, 3) := by decide +kernel
theorem dX11_isBuoy_12 : decode cX11_isBuoy 12 = .ok (.if_icmp .ge 7, 3) := by decide +kernel
theorem dX11_isBuoy_15 : decode cX11_isBuoy 15 = .ok (.iconst 1, 1) := by decide +kernel
theorem dX11_isBuoy_16 : decode cX11_isBuoy 16 = .ok (.goto 4, 3) := by decide +kernel
theorem dX11_isBuoy_19 : decode cX11_isBuoy 19 = .ok (.iconst 0, 1) := by decide +kernel
theorem dX11_isBuoy_20 : decode cX11_isBuoy 20 = .ok (.ireturn, 1) := by decide +kernel
theorem dX11_isBoat_0 : decode cX11_isBoat 0 = .ok (.iload_n 1, 1) := by decide +kernel
theorem dX11_isBoat_1 : decode cX11_isBoat 1 = .ok (.ifCond .lt 18, 3) := by decide +kernel
theorem dX11_isBoat_4 : decode cX11_isBoat 4 = .ok (.iload_n 1, 1) := by decide +kernel
theorem dX11_isBoat_5 : decode cX11_isBoat 5 = .ok (.aload_n 0, 1) := by decide +kernel
theorem dX11_isBoat_6 : decode cX11_isBoat 6 = .ok (.getfield 19, 3) := by decide +kernel
theorem dX11_isBoat_9 : decode cX11_isBoat 9 = .ok (.getfield 272, 3) := by decide +kernel
theorem dX11_isBoat_12 : decode cX11_isBoat 12 = .ok (.if_icmp .ge 7, 3) := by decide +kernel
theorem dX11_isBoat_15 : decode cX11_isBoat 15 = .ok (.iconst 1, 1) := by decide +kernel
theorem dX11_isBoat_16 : decode cX11_isBoat 16 = .ok (.goto 4, 3) := by decide +kernel
theorem dX11_isBoat_19 : decode cX11_isBoat 19 = .ok (.iconst 0, 1) := by decide +kernel
theorem dX11_isBoat_20 : decode cX11_isBoat 20 = .ok (.ireturn, 1) := by decide +kernel
theorem dX11_isPair_0 : decode cX11_isPair 0 = .ok (.aload_n 0, 1) := by decide +kernel
theorem dX11_isPair_1 : decode cX11_isPair 1 = .ok (.iload_n 1, 1) := by decide +kernel
theorem dX11_isPair_2 : decode cX11_isPair 2 = .ok (.invokevirtual 191, 3) := by decide +kernel
theorem dX11_isPair_5 : decode cX11_isPair 5 = .ok (.ifCond .eq 20, 3) := by decide +kernel
theorem dX11_isPair_8 : decode cX11_isPair 8 = .ok (.aload_n 0, 1) := by decide +kernel
theorem dX11_isPair_9 : decode cX11_isPair 9 = .ok (.iload_n 2, 1) := by decide +kernel
theorem dX11_isPair_10 : decode cX11_isPair 10 = .ok (.invokevirtual 191, 3) := by decide +kernel
theorem dX11_isPair_13 : decode cX11_isPair 13 = .ok (.ifCond .eq 12, 3) := by decide +kernel
theorem dX11_isPair_16 : decode cX11_isPair 16 = .ok (.iload_n 1, 1) := by decide +kernel
theorem dX11_isPair_17 : decode cX11_isPair 17 = .ok (.iload_n 2, 1) := by decide +kernel
theorem dX11_isPair_18 : decode cX11_isPair 18 = .ok (.if_icmp .eq 7, 3) := by decide +kernel
theorem dX11_isPair_21 : decode cX11_isPair 21 = .ok (.iconst 1, 1) := by decide +kernel
theorem dX11_isPair_22 : decode cX11_isPair 22 = .ok (.goto 4, 3) := by decide +kernel
theorem dX11_isPair_25 : decode cX11_isPair 25 = .ok (.iconst 0, 1) := by decide +kernel
theorem dX11_isPair_26 : decode cX11_isPair 26 = .ok (.ireturn, 1) := by decide +kernel
theorem dX11_isPlan_0 : decode cX11_isPlan 0 = .ok (.iload_n 1, 1) := by decide +kernel
theorem dX11_isPlan_1 : decode cX11_isPlan 1 = .ok (.ifCond .lt 15, 3) := by decide +kernel
theorem dX11_isPlan_4 : decode cX11_isPlan 4 = .ok (.iload_n 1, 1) := by decide +kernel
theorem dX11_isPlan_5 : decode cX11_isPlan 5 = .ok (.aload_n 0, 1) := by decide +kernel
theorem dX11_isPlan_6 : decode cX11_isPlan 6 = .ok (.getfield 126, 3) := by decide +kernel
theorem dX11_isPlan_9 : decode cX11_isPlan 9 = .ok (.if_icmp .ge 7, 3) := by decide +kernel
theorem dX11_isPlan_12 : decode cX11_isPlan 12 = .ok (.iconst 1, 1) := by decide +kernel
theorem dX11_isPlan_13 : decode cX11_isPlan 13 = .ok (.goto 4, 3) := by decide +kernel
theorem dX11_isPlan_16 : decode cX11_isPlan 16 = .ok (.iconst 0, 1) := by decide +kernel
theorem dX11_isPlan_17 : decode cX11_isPlan 17 = .ok (.ireturn, 1) := by decide +kernel
theorem dX11_isBeside_0 : decode cX11_isBeside 0 = .ok (.aload_n 1, 1) := by decide +kernel
theorem dX11_isBeside_1 : decode cX11_isBeside 1 = .ok (.iload_n 2, 1) := by decide +kernel
theorem dX11_isBeside_2 : decode cX11_isBeside 2 = .ok (.aload_n 0, 1) := by decide +kernel
theorem dX11_isBeside_3 : decode cX11_isBeside 3 = .ok (.getfield 19, 3) := by decide +kernel
theorem dX11_isBeside_6 : decode cX11_isBeside 6 = .ok (.iload_n 3, 1) := by decide +kernel
theorem dX11_isBeside_7 : decode cX11_isBeside 7 = .ok (.invokevirtual 169, 3) := by decide +kernel
theorem dX11_isBeside_10 : decode cX11_isBeside 10 = .ok (.aload_n 0, 1) := by decide +kernel
theorem dX11_isBeside_11 : decode cX11_isBeside 11 = .ok (.getfield 19, 3) := by decide +kernel
theorem dX11_isBeside_14 : decode cX11_isBeside 14 = .ok (.iload_n 3, 1) := by decide +kernel
theorem dX11_isBeside_15 : decode cX11_isBeside 15 = .ok (.invokevirtual 172, 3) := by decide +kernel
theorem dX11_isBeside_18 : decode cX11_isBeside 18 = .ok (.invokevirtual 240, 3) := by decide +kernel
theorem dX11_isBeside_21 : decode cX11_isBeside 21 = .ok (.iconst 1, 1) := by decide +kernel
theorem dX11_isBeside_22 : decode cX11_isBeside 22 = .ok (.if_icmp .gt 7, 3) := by decide +kernel
theorem dX11_isBeside_25 : decode cX11_isBeside 25 = .ok (.iconst 1, 1) := by decide +kernel
theorem dX11_isBeside_26 : decode cX11_isBeside 26 = .ok (.goto 4, 3) := by decide +kernel
theorem dX11_isBeside_29 : decode cX11_isBeside 29 = .ok (.iconst 0, 1) := by decide +kernel
theorem dX11_isBeside_30 : decode cX11_isBeside 30 = .ok (.ireturn, 1) := by decide +kernel
theorem dX11_isFaithful_0 : decode cX11_isFaithful 0 = .ok (.aload_n 0, 1) := by decide +kernel
theorem dX11_isFaithful_1 : decode cX11_isFaithful 1 = .ok (.getfield 45, 3) := by decide +kernel
theorem dX11_isFaithful_4 : decode cX11_isFaithful 4 = .ok (.aload_n 0, 1) := by decide +kernel
theorem dX11_isFaithful_5 : decode cX11_isFaithful 5 = .ok (.getfield 52, 3) := by decide +kernel
theorem dX11_isFaithful_8 : decode cX11_isFaithful 8 = .ok (.iload_n 1, 1) := by decide +kernel
theorem dX11_isFaithful_9 : decode cX11_isFaithful 9 = .ok (.invokevirtual 184, 3) := by decide +kernel
theorem dX11_isFaithful_12 : decode cX11_isFaithful 12 = .ok (.istore_n 2, 1) := by decide +kernel
theorem dX11_isFaithful_13 : decode cX11_isFaithful 13 = .ok (.iload_n 2, 1) := by decide +kernel
theorem dX11_isFaithful_14 : decode cX11_isFaithful 14 = .ok (.iconst (-1), 1) := by decide +kernel
theorem dX11_isFaithful_15 : decode cX11_isFaithful 15 = .ok (.if_icmp .eq 20, 3) := by decide +kernel
theorem dX11_isFaithful_18 : decode cX11_isFaithful 18 = .ok (.iload_n 2, 1) := by decide +kernel
theorem dX11_isFaithful_19 : decode cX11_isFaithful 19 = .ok (.aload_n 0, 1) := by decide +kernel
theorem dX11_isFaithful_20 : decode cX11_isFaithful 20 = .ok (.getfield 52, 3) := by decide +kernel
theorem dX11_isFaithful_23 : decode cX11_isFaithful 23 = .ok (.getfield 178, 3) := by decide +kernel
theorem dX11_isFaithful_26 : decode cX11_isFaithful 26 = .ok (.iload_n 1, 1) := by decide +kernel
theorem dX11_isFaithful_27 : decode cX11_isFaithful 27 = .ok (.iaload, 1) := by decide +kernel
theorem dX11_isFaithful_28 : decode cX11_isFaithful 28 = .ok (.if_icmp .ne 7, 3) := by decide +kernel
theorem dX11_isFaithful_31 : decode cX11_isFaithful 31 = .ok (.iconst 1, 1) := by decide +kernel
theorem dX11_isFaithful_32 : decode cX11_isFaithful 32 = .ok (.goto 4, 3) := by decide +kernel
theorem dX11_isFaithful_35 : decode cX11_isFaithful 35 = .ok (.iconst 0, 1) := by decide +kernel
theorem dX11_isFaithful_36 : decode cX11_isFaithful 36 = .ok (.ireturn, 1) := by decide +kernel
theorem dX11_canRow_0 : decode cX11_canRow 0 = .ok (.aload_n 0, 1) := by decide +kernel
theorem dX11_canRow_1 : decode cX11_canRow 1 = .ok (.iload_n 2, 1) := by decide +kernel
theorem dX11_canRow_2 : decode cX11_canRow 2 = .ok (.invokevirtual 191, 3) := by decide +kernel
theorem dX11_canRow_5 : decode cX11_canRow 5 = .ok (.ifCond .eq 24, 3) := by decide +kernel
theorem dX11_canRow_8 : decode cX11_canRow 8 = .ok (.iload_n 3, 1) := by decide +kernel
theorem dX11_canRow_9 : decode cX11_canRow 9 = .ok (.iconst 0, 1) := by decide +kernel
theorem dX11_canRow_10 : decode cX11_canRow 10 = .ok (.bipush 9, 2) := by decide +kernel
theorem dX11_canRow_12 : decode cX11_canRow 12 = .ok (.invokestatic 111, 3) := by decide +kernel
theorem dX11_canRow_15 : decode cX11_canRow 15 = .ok (.ifCond .eq 14, 3) := by decide +kernel
theorem dX11_canRow_18 : decode cX11_canRow 18 = .ok (.iload 4, 2) := by decide +kernel
theorem dX11_canRow_20 : decode cX11_canRow 20 = .ok (.iconst 0, 1) := by decide +kernel
theorem dX11_canRow_21 : decode cX11_canRow 21 = .ok (.bipush 9, 2) := by decide +kernel
theorem dX11_canRow_23 : decode cX11_canRow 23 = .ok (.invokestatic 111, 3) := by decide +kernel
theorem dX11_canRow_26 : decode cX11_canRow 26 = .ok (.ifCond .ne 5, 3) := by decide +kernel
theorem dX11_canRow_29 : decode cX11_canRow 29 = .ok (.iconst 0, 1) := by decide +kernel
theorem dX11_canRow_30 : decode cX11_canRow 30 = .ok (.ireturn, 1) := by decide +kernel
theorem dX11_canRow_31 : decode cX11_canRow 31 = .ok (.iload_n 3, 1) := by decide +kernel
theorem dX11_canRow_32 : decode cX11_canRow 32 = .ok (.aload_n 1, 1) := by decide +kernel
theorem dX11_canRow_33 : decode cX11_canRow 33 = .ok (.getfield 206, 3) := by decide +kernel
theorem dX11_canRow_36 : decode cX11_canRow 36 = .ok (.iload_n 2, 1) := by decide +kernel
theorem dX11_canRow_37 : decode cX11_canRow 37 = .ok (.iaload, 1) := by decide +kernel
theorem dX11_canRow_38 : decode cX11_canRow 38 = .ok (.if_icmp .ne 14, 3) := by decide +kernel
theorem dX11_canRow_41 : decode cX11_canRow 41 = .ok (.iload 4, 2) := by decide +kernel
theorem dX11_canRow_43 : decode cX11_canRow 43 = .ok (.aload_n 1, 1) := by decide +kernel
theorem dX11_canRow_44 : decode cX11_canRow 44 = .ok (.getfield 209, 3) := by decide +kernel
theorem dX11_canRow_47 : decode cX11_canRow 47 = .ok (.iload_n 2, 1) := by decide +kernel
theorem dX11_canRow_48 : decode cX11_canRow 48 = .ok (.iaload, 1) := by decide +kernel
theorem dX11_canRow_49 : decode cX11_canRow 49 = .ok (.if_icmp .eq 7, 3) := by decide +kernel
theorem dX11_canRow_52 : decode cX11_canRow 52 = .ok (.iconst 1, 1) := by decide +kernel
theorem dX11_canRow_53 : decode cX11_canRow 53 = .ok (.goto 4, 3) := by decide +kernel
theorem dX11_canRow_56 : decode cX11_canRow 56 = .ok (.iconst 0, 1) := by decide +kernel
theorem dX11_canRow_57 : decode cX11_canRow 57 = .ok (.ireturn, 1) := by decide +kernel
theorem dX11_canSing_0 : decode cX11_canSing 0 = .ok (.aload_n 0, 1) := by decide +kernel
theorem dX11_canSing_1 : decode cX11_canSing 1 = .ok (.iload_n 2, 1) := by decide +kernel
theorem dX11_canSing_2 : decode cX11_canSing 2 = .ok (.invokevirtual 191, 3) := by decide +kernel
theorem dX11_canSing_5 : decode cX11_canSing 5 = .ok (.ifCond .eq 40, 3) := by decide +kernel
theorem dX11_canSing_8 : decode cX11_canSing 8 = .ok (.aload_n 0, 1) := by decide +kernel
theorem dX11_canSing_9 : decode cX11_canSing 9 = .ok (.iload_n 3, 1) := by decide +kernel
theorem dX11_canSing_10 : decode cX11_canSing 10 = .ok (.invokevirtual 163, 3) := by decide +kernel
theorem dX11_canSing_13 : decode cX11_canSing 13 = .ok (.ifCond .eq 32, 3) := by decide +kernel
theorem dX11_canSing_16 : decode cX11_canSing 16 = .ok (.aload_n 0, 1) := by decide +kernel
theorem dX11_canSing_17 : decode cX11_canSing 17 = .ok (.aload_n 1, 1) := by decide +kernel
theorem dX11_canSing_18 : decode cX11_canSing 18 = .ok (.iload_n 2, 1) := by decide +kernel
theorem dX11_canSing_19 : decode cX11_canSing 19 = .ok (.iload_n 3, 1) := by decide +kernel
theorem dX11_canSing_20 : decode cX11_canSing 20 = .ok (.invokevirtual 416, 3) := by decide +kernel
theorem dX11_canSing_23 : decode cX11_canSing 23 = .ok (.ifCond .eq 22, 3) := by decide +kernel
theorem dX11_canSing_26 : decode cX11_canSing 26 = .ok (.aload_n 1, 1) := by decide +kernel
theorem dX11_canSing_27 : decode cX11_canSing 27 = .ok (.getfield 188, 3) := by decide +kernel
theorem dX11_canSing_30 : decode cX11_canSing 30 = .ok (.iload_n 3, 1) := by decide +kernel
theorem dX11_canSing_31 : decode cX11_canSing 31 = .ok (.iconst 3, 1) := by decide +kernel
theorem dX11_canSing_32 : decode cX11_canSing 32 = .ok (.imul, 1) := by decide +kernel
theorem dX11_canSing_33 : decode cX11_canSing 33 = .ok (.iload_n 2, 1) := by decide +kernel
theorem dX11_canSing_34 : decode cX11_canSing 34 = .ok (.iadd, 1) := by decide +kernel
theorem dX11_canSing_35 : decode cX11_canSing 35 = .ok (.iaload, 1) := by decide +kernel
theorem dX11_canSing_36 : decode cX11_canSing 36 = .ok (.bipush 9, 2) := by decide +kernel
theorem dX11_canSing_38 : decode cX11_canSing 38 = .ok (.if_icmp .ge 7, 3) := by decide +kernel
theorem dX11_canSing_41 : decode cX11_canSing 41 = .ok (.iconst 1, 1) := by decide +kernel
theorem dX11_canSing_42 : decode cX11_canSing 42 = .ok (.goto 4, 3) := by decide +kernel
theorem dX11_canSing_45 : decode cX11_canSing 45 = .ok (.iconst 0, 1) := by decide +kernel
theorem dX11_canSing_46 : decode cX11_canSing 46 = .ok (.ireturn, 1) := by decide +kernel
theorem dX11_canScrape_0 : decode cX11_canScrape 0 = .ok (.aload_n 0, 1) := by decide +kernel
theorem dX11_canScrape_1 : decode cX11_canScrape 1 = .ok (.iload_n 2, 1) := by decide +kernel
theorem dX11_canScrape_2 : decode cX11_canScrape 2 = .ok (.invokevirtual 191, 3) := by decide +kernel
theorem dX11_canScrape_5 : decode cX11_canScrape 5 = .ok (.ifCond .eq 34, 3) := by decide +kernel
theorem dX11_canScrape_8 : decode cX11_canScrape 8 = .ok (.aload_n 0, 1) := by decide +kernel
theorem dX11_canScrape_9 : decode cX11_canScrape 9 = .ok (.iload_n 3, 1) := by decide +kernel
theorem dX11_canScrape_10 : decode cX11_canScrape 10 = .ok (.invokevirtual 163, 3) := by decide +kernel
theorem dX11_canScrape_13 : decode cX11_canScrape 13 = .ok (.ifCond .eq 26, 3) := by decide +kernel
theorem dX11_canScrape_16 : decode cX11_canScrape 16 = .ok (.aload_n 0, 1) := by decide +kernel
theorem dX11_canScrape_17 : decode cX11_canScrape 17 = .ok (.aload_n 1, 1) := by decide +kernel
theorem dX11_canScrape_18 : decode cX11_canScrape 18 = .ok (.iload_n 2, 1) := by decide +kernel
theorem dX11_canScrape_19 : decode cX11_canScrape 19 = .ok (.iload_n 3, 1) := by decide +kernel
theorem dX11_canScrape_20 : decode cX11_canScrape 20 = .ok (.invokevirtual 416, 3) := by decide +kernel
theorem dX11_canScrape_23 : decode cX11_canScrape 23 = .ok (.ifCond .eq 16, 3) := by decide +kernel
theorem dX11_canScrape_26 : decode cX11_canScrape 26 = .ok (.aload_n 1, 1) := by decide +kernel
theorem dX11_canScrape_27 : decode cX11_canScrape 27 = .ok (.getfield 181, 3) := by decide +kernel
theorem dX11_canScrape_30 : decode cX11_canScrape 30 = .ok (.iload_n 3, 1) := by decide +kernel
theorem dX11_canScrape_31 : decode cX11_canScrape 31 = .ok (.iaload, 1) := by decide +kernel
theorem dX11_canScrape_32 : decode cX11_canScrape 32 = .ok (.ifCond .le 7, 3) := by decide +kernel
theorem dX11_canScrape_35 : decode cX11_canScrape 35 = .ok (.iconst 1, 1) := by decide +kernel
theorem dX11_canScrape_36 : decode cX11_canScrape 36 = .ok (.goto 4, 3) := by decide +kernel
theorem dX11_canScrape_39 : decode cX11_canScrape 39 = .ok (.iconst 0, 1) := by decide +kernel
theorem dX11_canScrape_40 : decode cX11_canScrape 40 = .ok (.ireturn, 1) := by decide +kernel
theorem dX11_canPass_0 : decode cX11_canPass 0 = .ok (.aload_n 0, 1) := by decide +kernel
theorem dX11_canPass_1 : decode cX11_canPass 1 = .ok (.invokevirtual 140, 3) := by decide +kernel
theorem dX11_canPass_4 : decode cX11_canPass 4 = .ok (.ifCond .eq 32, 3) := by decide +kernel
theorem dX11_canPass_7 : decode cX11_canPass 7 = .ok (.iload_n 1, 1) := by decide +kernel
theorem dX11_canPass_8 : decode cX11_canPass 8 = .ok (.iconst 1, 1) := by decide +kernel
theorem dX11_canPass_9 : decode cX11_canPass 9 = .ok (.bipush 60, 2) := by decide +kernel
theorem dX11_canPass_11 : decode cX11_canPass 11 = .ok (.invokestatic 111, 3) := by decide +kernel
theorem dX11_canPass_14 : decode cX11_canPass 14 = .ok (.ifCond .eq 22, 3) := by decide +kernel
theorem dX11_canPass_17 : decode cX11_canPass 17 = .ok (.aload_n 0, 1) := by decide +kernel
theorem dX11_canPass_18 : decode cX11_canPass 18 = .ok (.getfield 52, 3) := by decide +kernel
theorem dX11_canPass_21 : decode cX11_canPass 21 = .ok (.getfield 156, 3) := by decide +kernel
theorem dX11_canPass_24 : decode cX11_canPass 24 = .ok (.iload_n 1, 1) := by decide +kernel
theorem dX11_canPass_25 : decode cX11_canPass 25 = .ok (.iadd, 1) := by decide +kernel
theorem dX11_canPass_26 : decode cX11_canPass 26 = .ok (.sipush 9999, 3) := by decide +kernel
theorem dX11_canPass_29 : decode cX11_canPass 29 = .ok (.if_icmp .gt 7, 3) := by decide +kernel
theorem dX11_canPass_32 : decode cX11_canPass 32 = .ok (.iconst 1, 1) := by decide +kernel
theorem dX11_canPass_33 : decode cX11_canPass 33 = .ok (.goto 4, 3) := by decide +kernel
theorem dX11_canPass_36 : decode cX11_canPass 36 = .ok (.iconst 0, 1) := by decide +kernel
theorem dX11_canPass_37 : decode cX11_canPass 37 = .ok (.ireturn, 1) := by decide +kernel
theorem dX11_canDo_0 : decode cX11_canDo 0 = .ok (.aload_n 2, 1) := by decide +kernel
theorem dX11_canDo_1 : decode cX11_canDo 1 = .ok (.iload_n 3, 1) := by decide +kernel
theorem dX11_canDo_2 : decode cX11_canDo 2 = .ok (.iconst 1, 1) := by decide +kernel
theorem dX11_canDo_3 : decode cX11_canDo 3 = .ok (.invokevirtual 299, 3) := by decide +kernel
theorem dX11_canDo_6 : decode cX11_canDo 6 = .ok (.istore 4, 2) := by decide +kernel
theorem dX11_canDo_8 : decode cX11_canDo 8 = .ok (.aload_n 2, 1) := by decide +kernel
theorem dX11_canDo_9 : decode cX11_canDo 9 = .ok (.iload_n 3, 1) := by decide +kernel
theorem dX11_canDo_10 : decode cX11_canDo 10 = .ok (.iconst 2, 1) := by decide +kernel
theorem dX11_canDo_11 : decode cX11_canDo 11 = .ok (.invokevirtual 299, 3) := by decide +kernel
theorem dX11_canDo_14 : decode cX11_canDo 14 = .ok (.istore 5, 2) := by decide +kernel
theorem dX11_canDo_16 : decode cX11_canDo 16 = .ok (.aload_n 2, 1) := by decide +kernel
theorem dX11_canDo_17 : decode cX11_canDo 17 = .ok (.iload_n 3, 1) := by decide +kernel
theorem dX11_canDo_18 : decode cX11_canDo 18 = .ok (.iconst 0, 1) := by decide +kernel
theorem dX11_canDo_19 : decode cX11_canDo 19 = .ok (.invokevirtual 299, 3) := by decide +kernel
theorem dX11_canDo_22 : decode cX11_canDo 22 = .ok (.tableswitch 62 0 2 #[26, 42, 52], 26) := by decide +kernel
theorem dX11_canDo_48 : decode cX11_canDo 48 = .ok (.aload_n 0, 1) := by decide +kernel
theorem dX11_canDo_49 : decode cX11_canDo 49 = .ok (.aload_n 1, 1) := by decide +kernel
theorem dX11_canDo_50 : decode cX11_canDo 50 = .ok (.iload 4, 2) := by decide +kernel
theorem dX11_canDo_52 : decode cX11_canDo 52 = .ok (.iload 5, 2) := by decide +kernel
theorem dX11_canDo_54 : decode cX11_canDo 54 = .ok (.aload_n 2, 1) := by decide +kernel
theorem dX11_canDo_55 : decode cX11_canDo 55 = .ok (.iload_n 3, 1) := by decide +kernel
theorem dX11_canDo_56 : decode cX11_canDo 56 = .ok (.iconst 3, 1) := by decide +kernel
theorem dX11_canDo_57 : decode cX11_canDo 57 = .ok (.invokevirtual 299, 3) := by decide +kernel
theorem dX11_canDo_60 : decode cX11_canDo 60 = .ok (.invokevirtual 232, 3) := by decide +kernel
theorem dX11_canDo_63 : decode cX11_canDo 63 = .ok (.ireturn, 1) := by decide +kernel
theorem dX11_canDo_64 : decode cX11_canDo 64 = .ok (.aload_n 0, 1) := by decide +kernel
theorem dX11_canDo_65 : decode cX11_canDo 65 = .ok (.aload_n 1, 1) := by decide +kernel
theorem dX11_canDo_66 : decode cX11_canDo 66 = .ok (.iload 4, 2) := by decide +kernel
theorem dX11_canDo_68 : decode cX11_canDo 68 = .ok (.iload 5, 2) := by decide +kernel
theorem dX11_canDo_70 : decode cX11_canDo 70 = .ok (.invokevirtual 248, 3) := by decide +kernel
theorem dX11_canDo_73 : decode cX11_canDo 73 = .ok (.ireturn, 1) := by decide +kernel
theorem dX11_canDo_74 : decode cX11_canDo 74 = .ok (.aload_n 0, 1) := by decide +kernel
theorem dX11_canDo_75 : decode cX11_canDo 75 = .ok (.aload_n 1, 1) := by decide +kernel
theorem dX11_canDo_76 : decode cX11_canDo 76 = .ok (.iload 4, 2) := by decide +kernel
theorem dX11_canDo_78 : decode cX11_canDo 78 = .ok (.iload 5, 2) := by decide +kernel
theorem dX11_canDo_80 : decode cX11_canDo 80 = .ok (.invokevirtual 256, 3) := by decide +kernel
theorem dX11_canDo_83 : decode cX11_canDo 83 = .ok (.ireturn, 1) := by decide +kernel
theorem dX11_canDo_84 : decode cX11_canDo 84 = .ok (.iload 4, 2) := by decide +kernel
theorem dX11_canDo_86 : decode cX11_canDo 86 = .ok (.ifCond .le 7, 3) := by decide +kernel
theorem dX11_canDo_89 : decode cX11_canDo 89 = .ok (.iconst 1, 1) := by decide +kernel
theorem dX11_canDo_90 : decode cX11_canDo 90 = .ok (.goto 4, 3) := by decide +kernel
theorem dX11_canDo_93 : decode cX11_canDo 93 = .ok (.iconst 0, 1) := by decide +kernel
theorem dX11_canDo_94 : decode cX11_canDo 94 = .ok (.ireturn, 1) := by decide +kernel
theorem dX11_change_0 : decode cX11_change 0 = .ok (.aload_n 2, 1) := by decide +kernel
theorem dX11_change_1 : decode cX11_change 1 = .ok (.iload_n 3, 1) := by decide +kernel
theorem dX11_change_2 : decode cX11_change 2 = .ok (.iconst 1, 1) := by decide +kernel
theorem dX11_change_3 : decode cX11_change 3 = .ok (.invokevirtual 299, 3) := by decide +kernel
theorem dX11_change_6 : decode cX11_change 6 = .ok (.istore 4, 2) := by decide +kernel
theorem dX11_change_8 : decode cX11_change 8 = .ok (.aload_n 2, 1) := by decide +kernel
theorem dX11_change_9 : decode cX11_change 9 = .ok (.iload_n 3, 1) := by decide +kernel
theorem dX11_change_10 : decode cX11_change 10 = .ok (.iconst 2, 1) := by decide +kernel
theorem dX11_change_11 : decode cX11_change 11 = .ok (.invokevirtual 299, 3) := by decide +kernel
theorem dX11_change_14 : decode cX11_change 14 = .ok (.istore 5, 2) := by decide +kernel
theorem dX11_change_16 : decode cX11_change 16 = .ok (.aload_n 2, 1) := by decide +kernel
theorem dX11_change_17 : decode cX11_change 17 = .ok (.iload_n 3, 1) := by decide +kernel
theorem dX11_change_18 : decode cX11_change 18 = .ok (.iconst 0, 1) := by decide +kernel
theorem dX11_change_19 : decode cX11_change 19 = .ok (.invokevirtual 299, 3) := by decide +kernel
theorem dX11_change_22 : decode cX11_change 22 = .ok (.tableswitch 76 0 2 #[26, 51, 62], 26) := by decide +kernel
theorem dX11_change_48 : decode cX11_change 48 = .ok (.aload_n 1, 1) := by decide +kernel
theorem dX11_change_49 : decode cX11_change 49 = .ok (.getfield 206, 3) := by decide +kernel
theorem dX11_change_52 : decode cX11_change 52 = .ok (.iload 4, 2) := by decide +kernel
theorem dX11_change_54 : decode cX11_change 54 = .ok (.iload 5, 2) := by decide +kernel
theorem dX11_change_56 : decode cX11_change 56 = .ok (.iastore, 1) := by decide +kernel
theorem dX11_change_57 : decode cX11_change 57 = .ok (.aload_n 1, 1) := by decide +kernel
theorem dX11_change_58 : decode cX11_change 58 = .ok (.getfield 209, 3) := by decide +kernel
theorem dX11_change_61 : decode cX11_change 61 = .ok (.iload 4, 2) := by decide +kernel
theorem dX11_change_63 : decode cX11_change 63 = .ok (.aload_n 2, 1) := by decide +kernel
theorem dX11_change_64 : decode cX11_change 64 = .ok (.iload_n 3, 1) := by decide +kernel
theorem dX11_change_65 : decode cX11_change 65 = .ok (.iconst 3, 1) := by decide +kernel
theorem dX11_change_66 : decode cX11_change 66 = .ok (.invokevirtual 299, 3) := by decide +kernel
theorem dX11_change_69 : decode cX11_change 69 = .ok (.iastore, 1) := by decide +kernel
theorem dX11_change_70 : decode cX11_change 70 = .ok (.goto 28, 3) := by decide +kernel
theorem dX11_change_73 : decode cX11_change 73 = .ok (.aload_n 1, 1) := by decide +kernel
theorem dX11_change_74 : decode cX11_change 74 = .ok (.iload 4, 2) := by decide +kernel
theorem dX11_change_76 : decode cX11_change 76 = .ok (.iload 5, 2) := by decide +kernel
theorem dX11_change_78 : decode cX11_change 78 = .ok (.invokevirtual 252, 3) := by decide +kernel
theorem dX11_change_81 : decode cX11_change 81 = .ok (.goto 17, 3) := by decide +kernel
theorem dX11_change_84 : decode cX11_change 84 = .ok (.aload_n 1, 1) := by decide +kernel
theorem dX11_change_85 : decode cX11_change 85 = .ok (.getfield 181, 3) := by decide +kernel
theorem dX11_change_88 : decode cX11_change 88 = .ok (.iload 5, 2) := by decide +kernel
theorem dX11_change_90 : decode cX11_change 90 = .ok (.dup2, 1) := by decide +kernel
theorem dX11_change_91 : decode cX11_change 91 = .ok (.iaload, 1) := by decide +kernel
theorem dX11_change_92 : decode cX11_change 92 = .ok (.iconst 1, 1) := by decide +kernel
theorem dX11_change_93 : decode cX11_change 93 = .ok (.isub, 1) := by decide +kernel
theorem dX11_change_94 : decode cX11_change 94 = .ok (.iastore, 1) := by decide +kernel
theorem dX11_change_95 : decode cX11_change 95 = .ok (.goto 3, 3) := by decide +kernel
theorem dX11_change_98 : decode cX11_change 98 = .ok (.return_, 1) := by decide +kernel
theorem dX11_passApart_0 : decode cX11_passApart 0 = .ok (.iconst 0, 1) := by decide +kernel
theorem dX11_passApart_1 : decode cX11_passApart 1 = .ok (.istore_n 2, 1) := by decide +kernel
theorem dX11_passApart_2 : decode cX11_passApart 2 = .ok (.iload_n 2, 1) := by decide +kernel
theorem dX11_passApart_3 : decode cX11_passApart 3 = .ok (.iload_n 1, 1) := by decide +kernel
theorem dX11_passApart_4 : decode cX11_passApart 4 = .ok (.if_icmp .ge 20, 3) := by decide +kernel
theorem dX11_passApart_7 : decode cX11_passApart 7 = .ok (.aload_n 0, 1) := by decide +kernel
theorem dX11_passApart_8 : decode cX11_passApart 8 = .ok (.getfield 45, 3) := by decide +kernel
theorem dX11_passApart_11 : decode cX11_passApart 11 = .ok (.aload_n 0, 1) := by decide +kernel
theorem dX11_passApart_12 : decode cX11_passApart 12 = .ok (.getfield 56, 3) := by decide +kernel
theorem dX11_passApart_15 : decode cX11_passApart 15 = .ok (.invokevirtual 392, 3) := by decide +kernel
theorem dX11_passApart_18 : decode cX11_passApart 18 = .ok (.iinc 2 1, 3) := by decide +kernel
theorem dX11_passApart_21 : decode cX11_passApart 21 = .ok (.goto (-19), 3) := by decide +kernel
theorem dX11_passApart_24 : decode cX11_passApart 24 = .ok (.return_, 1) := by decide +kernel
theorem dX11_liveHour_0 : decode cX11_liveHour 0 = .ok (.aload_n 0, 1) := by decide +kernel
theorem dX11_liveHour_1 : decode cX11_liveHour 1 = .ok (.getfield 45, 3) := by decide +kernel
theorem dX11_liveHour_4 : decode cX11_liveHour 4 = .ok (.aload_n 0, 1) := by decide +kernel
theorem dX11_liveHour_5 : decode cX11_liveHour 5 = .ok (.getfield 52, 3) := by decide +kernel
theorem dX11_liveHour_8 : decode cX11_liveHour 8 = .ok (.invokevirtual 392, 3) := by decide +kernel
theorem dX11_liveHour_11 : decode cX11_liveHour 11 = .ok (.aload_n 0, 1) := by decide +kernel
theorem dX11_liveHour_12 : decode cX11_liveHour 12 = .ok (.getfield 62, 3) := by decide +kernel
theorem dX11_liveHour_15 : decode cX11_liveHour 15 = .ok (.aload_n 0, 1) := by decide +kernel
theorem dX11_liveHour_16 : decode cX11_liveHour 16 = .ok (.getfield 52, 3) := by decide +kernel
theorem dX11_liveHour_19 : decode cX11_liveHour 19 = .ok (.aload_n 0, 1) := by decide +kernel
theorem dX11_liveHour_20 : decode cX11_liveHour 20 = .ok (.getfield 45, 3) := by decide +kernel
theorem dX11_liveHour_23 : decode cX11_liveHour 23 = .ok (.getfield 319, 3) := by decide +kernel
theorem dX11_liveHour_26 : decode cX11_liveHour 26 = .ok (.invokevirtual 435, 3) := by decide +kernel
theorem dX11_liveHour_29 : decode cX11_liveHour 29 = .ok (.return_, 1) := by decide +kernel
theorem dX11_drawOutOf_0 : decode cX11_drawOutOf 0 = .ok (.aload_n 0, 1) := by decide +kernel
theorem dX11_drawOutOf_1 : decode cX11_drawOutOf 1 = .ok (.aload_n 0, 1) := by decide +kernel
theorem dX11_drawOutOf_2 : decode cX11_drawOutOf 2 = .ok (.getfield 265, 3) := by decide +kernel
theorem dX11_drawOutOf_5 : decode cX11_drawOutOf 5 = .ok (.ldc2_w 439, 3) := by decide +kernel
theorem dX11_drawOutOf_8 : decode cX11_drawOutOf 8 = .ok (.lmul, 1) := by decide +kernel
theorem dX11_drawOutOf_9 : decode cX11_drawOutOf 9 = .ok (.ldc2_w 441, 3) := by decide +kernel
theorem dX11_drawOutOf_12 : decode cX11_drawOutOf 12 = .ok (.ladd, 1) := by decide +kernel
theorem dX11_drawOutOf_13 : decode cX11_drawOutOf 13 = .ok (.putfield 265, 3) := by decide +kernel
theorem dX11_drawOutOf_16 : decode cX11_drawOutOf 16 = .ok (.iload_n 1, 1) := by decide +kernel
theorem dX11_drawOutOf_17 : decode cX11_drawOutOf 17 = .ok (.ifCond .le 17, 3) := by decide +kernel
theorem dX11_drawOutOf_20 : decode cX11_drawOutOf 20 = .ok (.aload_n 0, 1) := by decide +kernel
theorem dX11_drawOutOf_21 : decode cX11_drawOutOf 21 = .ok (.getfield 265, 3) := by decide +kernel
theorem dX11_drawOutOf_24 : decode cX11_drawOutOf 24 = .ok (.bipush 33, 2) := by decide +kernel
theorem dX11_drawOutOf_26 : decode cX11_drawOutOf 26 = .ok (.lushr, 1) := by decide +kernel
theorem dX11_drawOutOf_27 : decode cX11_drawOutOf 27 = .ok (.iload_n 1, 1) := by decide +kernel
theorem dX11_drawOutOf_28 : decode cX11_drawOutOf 28 = .ok (.i2l, 1) := by decide +kernel
theorem dX11_drawOutOf_29 : decode cX11_drawOutOf 29 = .ok (.lrem, 1) := by decide +kernel
theorem dX11_drawOutOf_30 : decode cX11_drawOutOf 30 = .ok (.l2i, 1) := by decide +kernel
theorem dX11_drawOutOf_31 : decode cX11_drawOutOf 31 = .ok (.goto 4, 3) := by decide +kernel
theorem dX11_drawOutOf_34 : decode cX11_drawOutOf 34 = .ok (.iconst 0, 1) := by decide +kernel
theorem dX11_drawOutOf_35 : decode cX11_drawOutOf 35 = .ok (.ireturn, 1) := by decide +kernel
theorem dX11_beginBorough_0 : decode cX11_beginBorough 0 = .ok (.aload_n 0, 1) := by decide +kernel
theorem dX11_beginBorough_1 : decode cX11_beginBorough 1 = .ok (.getfield 19, 3) := by decide +kernel
theorem dX11_beginBorough_4 : decode cX11_beginBorough 4 = .ok (.aload_n 0, 1) := by decide +kernel
theorem dX11_beginBorough_5 : decode cX11_beginBorough 5 = .ok (.getfield 23, 3) := by decide +kernel
theorem dX11_beginBorough_8 : decode cX11_beginBorough 8 = .ok (.invokevirtual 443, 3) := by decide +kernel
theorem dX11_beginBorough_11 : decode cX11_beginBorough 11 = .ok (.aload_n 0, 1) := by decide +kernel
theorem dX11_beginBorough_12 : decode cX11_beginBorough 12 = .ok (.getfield 52, 3) := by decide +kernel
theorem dX11_beginBorough_15 : decode cX11_beginBorough 15 = .ok (.aload_n 0, 1) := by decide +kernel
theorem dX11_beginBorough_16 : decode cX11_beginBorough 16 = .ok (.getfield 19, 3) := by decide +kernel
theorem dX11_beginBorough_19 : decode cX11_beginBorough 19 = .ok (.invokevirtual 445, 3) := by decide +kernel
theorem dX11_beginBorough_22 : decode cX11_beginBorough 22 = .ok (.aload_n 0, 1) := by decide +kernel
theorem dX11_beginBorough_23 : decode cX11_beginBorough 23 = .ok (.getfield 62, 3) := by decide +kernel
theorem dX11_beginBorough_26 : decode cX11_beginBorough 26 = .ok (.invokevirtual 448, 3) := by decide +kernel
theorem dX11_beginBorough_29 : decode cX11_beginBorough 29 = .ok (.aload_n 0, 1) := by decide +kernel
theorem dX11_beginBorough_30 : decode cX11_beginBorough 30 = .ok (.getfield 69, 3) := by decide +kernel
theorem dX11_beginBorough_33 : decode cX11_beginBorough 33 = .ok (.iconst 0, 1) := by decide +kernel
theorem dX11_beginBorough_34 : decode cX11_beginBorough 34 = .ok (.putfield 363, 3) := by decide +kernel
theorem dX11_beginBorough_37 : decode cX11_beginBorough 37 = .ok (.aload_n 0, 1) := by decide +kernel
theorem dX11_beginBorough_38 : decode cX11_beginBorough 38 = .ok (.getfield 10, 3) := by decide +kernel
theorem dX11_beginBorough_41 : decode cX11_beginBorough 41 = .ok (.iconst 0, 1) := by decide +kernel
theorem dX11_beginBorough_42 : decode cX11_beginBorough 42 = .ok (.putfield 103, 3) := by decide +kernel
theorem dX11_beginBorough_45 : decode cX11_beginBorough 45 = .ok (.aload_n 0, 1) := by decide +kernel
theorem dX11_beginBorough_46 : decode cX11_beginBorough 46 = .ok (.getfield 19, 3) := by decide +kernel
theorem dX11_beginBorough_49 : decode cX11_beginBorough 49 = .ok (.getfield 275, 3) := by decide +kernel
theorem dX11_beginBorough_52 : decode cX11_beginBorough 52 = .ok (.ireturn, 1) := by decide +kernel
theorem dX11_keepLaw_0 : decode cX11_keepLaw 0 = .ok (.aload_n 0, 1) := by decide +kernel
theorem dX11_keepLaw_1 : decode cX11_keepLaw 1 = .ok (.getfield 29, 3) := by decide +kernel
theorem dX11_keepLaw_4 : decode cX11_keepLaw 4 = .ok (.getfield 218, 3) := by decide +kernel
theorem dX11_keepLaw_7 : decode cX11_keepLaw 7 = .ok (.iconst 4, 1) := by decide +kernel
theorem dX11_keepLaw_8 : decode cX11_keepLaw 8 = .ok (.if_icmp .lt 5, 3) := by decide +kernel
theorem dX11_keepLaw_11 : decode cX11_keepLaw 11 = .ok (.iconst (-1), 1) := by decide +kernel
theorem dX11_keepLaw_12 : decode cX11_keepLaw 12 = .ok (.ireturn, 1) := by decide +kernel
theorem dX11_keepLaw_13 : decode cX11_keepLaw 13 = .ok (.aload_n 0, 1) := by decide +kernel
theorem dX11_keepLaw_14 : decode cX11_keepLaw 14 = .ok (.getfield 10, 3) := by decide +kernel
theorem dX11_keepLaw_17 : decode cX11_keepLaw 17 = .ok (.iconst 0, 1) := by decide +kernel
theorem dX11_keepLaw_18 : decode cX11_keepLaw 18 = .ok (.putfield 103, 3) := by decide +kernel
theorem dX11_keepLaw_21 : decode cX11_keepLaw 21 = .ok (.aload_n 0, 1) := by decide +kernel
theorem dX11_keepLaw_22 : decode cX11_keepLaw 22 = .ok (.getfield 29, 3) := by decide +kernel
theorem dX11_keepLaw_25 : decode cX11_keepLaw 25 = .ok (.dup, 1) := by decide +kernel
theorem dX11_keepLaw_26 : decode cX11_keepLaw 26 = .ok (.getfield 218, 3) := by decide +kernel
theorem dX11_keepLaw_29 : decode cX11_keepLaw 29 = .ok (.iconst 1, 1) := by decide +kernel
theorem dX11_keepLaw_30 : decode cX11_keepLaw 30 = .ok (.iadd, 1) := by decide +kernel
theorem dX11_keepLaw_31 : decode cX11_keepLaw 31 = .ok (.putfield 218, 3) := by decide +kernel
theorem dX11_keepLaw_34 : decode cX11_keepLaw 34 = .ok (.aload_n 0, 1) := by decide +kernel
theorem dX11_keepLaw_35 : decode cX11_keepLaw 35 = .ok (.getfield 29, 3) := by decide +kernel
theorem dX11_keepLaw_38 : decode cX11_keepLaw 38 = .ok (.getfield 218, 3) := by decide +kernel
theorem dX11_keepLaw_41 : decode cX11_keepLaw 41 = .ok (.iconst 1, 1) := by decide +kernel
theorem dX11_keepLaw_42 : decode cX11_keepLaw 42 = .ok (.isub, 1) := by decide +kernel
theorem dX11_keepLaw_43 : decode cX11_keepLaw 43 = .ok (.ireturn, 1) := by decide +kernel
theorem dX11_keepPlan_0 : decode cX11_keepPlan 0 = .ok (.aload_n 0, 1) := by decide +kernel
theorem dX11_keepPlan_1 : decode cX11_keepPlan 1 = .ok (.getfield 126, 3) := by decide +kernel
theorem dX11_keepPlan_4 : decode cX11_keepPlan 4 = .ok (.iconst 4, 1) := by decide +kernel
theorem dX11_keepPlan_5 : decode cX11_keepPlan 5 = .ok (.if_icmp .lt 5, 3) := by decide +kernel
theorem dX11_keepPlan_8 : decode cX11_keepPlan 8 = .ok (.iconst (-1), 1) := by decide +kernel
theorem dX11_keepPlan_9 : decode cX11_keepPlan 9 = .ok (.ireturn, 1) := by decide +kernel
theorem dX11_keepPlan_10 : decode cX11_keepPlan 10 = .ok (.aload_n 0, 1) := by decide +kernel
theorem dX11_keepPlan_11 : decode cX11_keepPlan 11 = .ok (.getfield 10, 3) := by decide +kernel
theorem dX11_keepPlan_14 : decode cX11_keepPlan 14 = .ok (.iconst 0, 1) := by decide +kernel
theorem dX11_keepPlan_15 : decode cX11_keepPlan 15 = .ok (.putfield 103, 3) := by decide +kernel
theorem dX11_keepPlan_18 : decode cX11_keepPlan 18 = .ok (.aload_n 0, 1) := by decide +kernel
theorem dX11_keepPlan_19 : decode cX11_keepPlan 19 = .ok (.dup, 1) := by decide +kernel
theorem dX11_keepPlan_20 : decode cX11_keepPlan 20 = .ok (.getfield 126, 3) := by decide +kernel
theorem dX11_keepPlan_23 : decode cX11_keepPlan 23 = .ok (.iconst 1, 1) := by decide +kernel
theorem dX11_keepPlan_24 : decode cX11_keepPlan 24 = .ok (.iadd, 1) := by decide +kernel
theorem dX11_keepPlan_25 : decode cX11_keepPlan 25 = .ok (.putfield 126, 3) := by decide +kernel
theorem dX11_keepPlan_28 : decode cX11_keepPlan 28 = .ok (.aload_n 0, 1) := by decide +kernel
theorem dX11_keepPlan_29 : decode cX11_keepPlan 29 = .ok (.getfield 126, 3) := by decide +kernel
theorem dX11_keepPlan_32 : decode cX11_keepPlan 32 = .ok (.iconst 1, 1) := by decide +kernel
theorem dX11_keepPlan_33 : decode cX11_keepPlan 33 = .ok (.isub, 1) := by decide +kernel
theorem dX11_keepPlan_34 : decode cX11_keepPlan 34 = .ok (.ireturn, 1) := by decide +kernel
theorem dX11_splitByFog_0 : decode cX11_splitByFog 0 = .ok (.aload_n 0, 1) := by decide +kernel
theorem dX11_splitByFog_1 : decode cX11_splitByFog 1 = .ok (.getfield 91, 3) := by decide +kernel
theorem dX11_splitByFog_4 : decode cX11_splitByFog 4 = .ok (.iconst 0, 1) := by decide +kernel
theorem dX11_splitByFog_5 : decode cX11_splitByFog 5 = .ok (.ldc2_w 451, 3) := by decide +kernel
theorem dX11_splitByFog_8 : decode cX11_splitByFog 8 = .ok (.lastore, 1) := by decide +kernel
theorem dX11_splitByFog_9 : decode cX11_splitByFog 9 = .ok (.iconst 1, 1) := by decide +kernel
theorem dX11_splitByFog_10 : decode cX11_splitByFog 10 = .ok (.istore_n 2, 1) := by decide +kernel
theorem dX11_splitByFog_11 : decode cX11_splitByFog 11 = .ok (.iconst 0, 1) := by decide +kernel
theorem dX11_splitByFog_12 : decode cX11_splitByFog 12 = .ok (.istore_n 3, 1) := by decide +kernel
theorem dX11_splitByFog_13 : decode cX11_splitByFog 13 = .ok (.iload_n 3, 1) := by decide +kernel
theorem dX11_splitByFog_14 : decode cX11_splitByFog 14 = .ok (.aload_n 0, 1) := by decide +kernel
theorem dX11_splitByFog_15 : decode cX11_splitByFog 15 = .ok (.getfield 19, 3) := by decide +kernel
theorem dX11_splitByFog_18 : decode cX11_splitByFog 18 = .ok (.getfield 275, 3) := by decide +kernel
theorem dX11_splitByFog_21 : decode cX11_splitByFog 21 = .ok (.if_icmp .ge 91, 3) := by decide +kernel
theorem dX11_splitByFog_24 : decode cX11_splitByFog 24 = .ok (.aload_n 0, 1) := by decide +kernel
theorem dX11_splitByFog_25 : decode cX11_splitByFog 25 = .ok (.getfield 45, 3) := by decide +kernel
theorem dX11_splitByFog_28 : decode cX11_splitByFog 28 = .ok (.getfield 453, 3) := by decide +kernel
theorem dX11_splitByFog_31 : decode cX11_splitByFog 31 = .ok (.iload_n 3, 1) := by decide +kernel
theorem dX11_splitByFog_32 : decode cX11_splitByFog 32 = .ok (.iaload, 1) := by decide +kernel
theorem dX11_splitByFog_33 : decode cX11_splitByFog 33 = .ok (.iconst (-1), 1) := by decide +kernel
theorem dX11_splitByFog_34 : decode cX11_splitByFog 34 = .ok (.if_icmp .eq 72, 3) := by decide +kernel
theorem dX11_splitByFog_37 : decode cX11_splitByFog 37 = .ok (.iconst 2, 1) := by decide +kernel
theorem dX11_splitByFog_38 : decode cX11_splitByFog 38 = .ok (.iload_n 2, 1) := by decide +kernel
theorem dX11_splitByFog_39 : decode cX11_splitByFog 39 = .ok (.imul, 1) := by decide +kernel
theorem dX11_splitByFog_40 : decode cX11_splitByFog 40 = .ok (.aload_n 0, 1) := by decide +kernel
theorem dX11_splitByFog_41 : decode cX11_splitByFog 41 = .ok (.getfield 91, 3) := by decide +kernel
theorem dX11_splitByFog_44 : decode cX11_splitByFog 44 = .ok (.arraylength, 1) := by decide +kernel
theorem dX11_splitByFog_45 : decode cX11_splitByFog 45 = .ok (.if_icmp .gt 61, 3) := by decide +kernel
theorem dX11_splitByFog_48 : decode cX11_splitByFog 48 = .ok (.iconst 0, 1) := by decide +kernel
theorem dX11_splitByFog_49 : decode cX11_splitByFog 49 = .ok (.istore 4, 2) := by decide +kernel
theorem dX11_splitByFog_51 : decode cX11_splitByFog 51 = .ok (.iload 4, 2) := by decide +kernel
theorem dX11_splitByFog_53 : decode cX11_splitByFog 53 = .ok (.iload_n 2, 1) := by decide +kernel
theorem dX11_splitByFog_54 : decode cX11_splitByFog 54 = .ok (.if_icmp .ge 48, 3) := by decide +kernel
theorem dX11_splitByFog_57 : decode cX11_splitByFog 57 = .ok (.aload_n 0, 1) := by decide +kernel
theorem dX11_splitByFog_58 : decode cX11_splitByFog 58 = .ok (.getfield 91, 3) := by decide +kernel
theorem dX11_splitByFog_61 : decode cX11_splitByFog 61 = .ok (.iload 4, 2) := by decide +kernel
theorem dX11_splitByFog_63 : decode cX11_splitByFog 63 = .ok (.laload, 1) := by decide +kernel
theorem dX11_splitByFog_64 : decode cX11_splitByFog 64 = .ok (.iload_n 1, 1) := by decide +kernel
theorem dX11_splitByFog_65 : decode cX11_splitByFog 65 = .ok (.i2l, 1) := by decide +kernel
theorem dX11_splitByFog_66 : decode cX11_splitByFog 66 = .ok (.lmul, 1) := by decide +kernel
theorem dX11_splitByFog_67 : decode cX11_splitByFog 67 = .ok (.ldc2_w 456, 3) := by decide +kernel
theorem dX11_splitByFog_70 : decode cX11_splitByFog 70 = .ok (.ldiv, 1) := by decide +kernel
theorem dX11_splitByFog_71 : decode cX11_splitByFog 71 = .ok (.lstore 5, 2) := by decide +kernel
theorem dX11_splitByFog_73 : decode cX11_splitByFog 73 = .ok (.aload_n 0, 1) := by decide +kernel
theorem dX11_splitByFog_74 : decode cX11_splitByFog 74 = .ok (.getfield 91, 3) := by decide +kernel
theorem dX11_splitByFog_77 : decode cX11_splitByFog 77 = .ok (.iload_n 2, 1) := by decide +kernel
theorem dX11_splitByFog_78 : decode cX11_splitByFog 78 = .ok (.iload 4, 2) := by decide +kernel
theorem dX11_splitByFog_80 : decode cX11_splitByFog 80 = .ok (.iadd, 1) := by decide +kernel
theorem dX11_splitByFog_81 : decode cX11_splitByFog 81 = .ok (.lload 5, 2) := by decide +kernel
theorem dX11_splitByFog_83 : decode cX11_splitByFog 83 = .ok (.lastore, 1) := by decide +kernel
theorem dX11_splitByFog_84 : decode cX11_splitByFog 84 = .ok (.aload_n 0, 1) := by decide +kernel
theorem dX11_splitByFog_85 : decode cX11_splitByFog 85 = .ok (.getfield 91, 3) := by decide +kernel
theorem dX11_splitByFog_88 : decode cX11_splitByFog 88 = .ok (.iload 4, 2) := by decide +kernel
theorem dX11_splitByFog_90 : decode cX11_splitByFog 90 = .ok (.dup2, 1) := by decide +kernel
theorem dX11_splitByFog_91 : decode cX11_splitByFog 91 = .ok (.laload, 1) := by decide +kernel
theorem dX11_splitByFog_92 : decode cX11_splitByFog 92 = .ok (.lload 5, 2) := by decide +kernel
theorem dX11_splitByFog_94 : decode cX11_splitByFog 94 = .ok (.lsub, 1) := by decide +kernel
theorem dX11_splitByFog_95 : decode cX11_splitByFog 95 = .ok (.lastore, 1) := by decide +kernel
theorem dX11_splitByFog_96 : decode cX11_splitByFog 96 = .ok (.iinc 4 1, 3) := by decide +kernel
theorem dX11_splitByFog_99 : decode cX11_splitByFog 99 = .ok (.goto (-48), 3) := by decide +kernel
theorem dX11_splitByFog_102 : decode cX11_splitByFog 102 = .ok (.iload_n 2, 1) := by decide +kernel
theorem dX11_splitByFog_103 : decode cX11_splitByFog 103 = .ok (.iconst 2, 1) := by decide +kernel
theorem dX11_splitByFog_104 : decode cX11_splitByFog 104 = .ok (.imul, 1) := by decide +kernel
theorem dX11_splitByFog_105 : decode cX11_splitByFog 105 = .ok (.istore_n 2, 1) := by decide +kernel
theorem dX11_splitByFog_106 : decode cX11_splitByFog 106 = .ok (.iinc 3 1, 3) := by decide +kernel
theorem dX11_splitByFog_109 : decode cX11_splitByFog 109 = .ok (.goto (-96), 3) := by decide +kernel
theorem dX11_splitByFog_112 : decode cX11_splitByFog 112 = .ok (.iload_n 2, 1) := by decide +kernel
theorem dX11_splitByFog_113 : decode cX11_splitByFog 113 = .ok (.ireturn, 1) := by decide +kernel
theorem dX11_leadsUnder_0 : decode cX11_leadsUnder 0 = .ok (.iconst 0, 1) := by decide +kernel
theorem dX11_leadsUnder_1 : decode cX11_leadsUnder 1 = .ok (.istore_n 3, 1) := by decide +kernel
theorem dX11_leadsUnder_2 : decode cX11_leadsUnder 2 = .ok (.iload_n 3, 1) := by decide +kernel
theorem dX11_leadsUnder_3 : decode cX11_leadsUnder 3 = .ok (.iconst 3, 1) := by decide +kernel
theorem dX11_leadsUnder_4 : decode cX11_leadsUnder 4 = .ok (.if_icmp .ge 16, 3) := by decide +kernel
theorem dX11_leadsUnder_7 : decode cX11_leadsUnder 7 = .ok (.aload_n 0, 1) := by decide +kernel
theorem dX11_leadsUnder_8 : decode cX11_leadsUnder 8 = .ok (.getfield 95, 3) := by decide +kernel
theorem dX11_leadsUnder_11 : decode cX11_leadsUnder 11 = .ok (.iload_n 3, 1) := by decide +kernel
theorem dX11_leadsUnder_12 : decode cX11_leadsUnder 12 = .ok (.iconst 0, 1) := by decide +kernel
theorem dX11_leadsUnder_13 : decode cX11_leadsUnder 13 = .ok (.iastore, 1) := by decide +kernel
theorem dX11_leadsUnder_14 : decode cX11_leadsUnder 14 = .ok (.iinc 3 1, 3) := by decide +kernel
theorem dX11_leadsUnder_17 : decode cX11_leadsUnder 17 = .ok (.goto (-15), 3) := by decide +kernel
theorem dX11_leadsUnder_20 : decode cX11_leadsUnder 20 = .ok (.iconst 0, 1) := by decide +kernel
theorem dX11_leadsUnder_21 : decode cX11_leadsUnder 21 = .ok (.istore_n 3, 1) := by decide +kernel
theorem dX11_leadsUnder_22 : decode cX11_leadsUnder 22 = .ok (.iconst 0, 1) := by decide +kernel
theorem dX11_leadsUnder_23 : decode cX11_leadsUnder 23 = .ok (.istore 4, 2) := by decide +kernel
theorem dX11_leadsUnder_25 : decode cX11_leadsUnder 25 = .ok (.iload 4, 2) := by decide +kernel
theorem dX11_leadsUnder_27 : decode cX11_leadsUnder 27 = .ok (.aload_n 0, 1) := by decide +kernel
theorem dX11_leadsUnder_28 : decode cX11_leadsUnder 28 = .ok (.getfield 19, 3) := by decide +kernel
theorem dX11_leadsUnder_31 : decode cX11_leadsUnder 31 = .ok (.getfield 275, 3) := by decide +kernel
theorem dX11_leadsUnder_34 : decode cX11_leadsUnder 34 = .ok (.if_icmp .ge 47, 3) := by decide +kernel
theorem dX11_leadsUnder_37 : decode cX11_leadsUnder 37 = .ok (.aload_n 0, 1) := by decide +kernel
theorem dX11_leadsUnder_38 : decode cX11_leadsUnder 38 = .ok (.getfield 45, 3) := by decide +kernel
theorem dX11_leadsUnder_41 : decode cX11_leadsUnder 41 = .ok (.getfield 453, 3) := by decide +kernel
theorem dX11_leadsUnder_44 : decode cX11_leadsUnder 44 = .ok (.iload 4, 2) := by decide +kernel
theorem dX11_leadsUnder_46 : decode cX11_leadsUnder 46 = .ok (.iaload, 1) := by decide +kernel
theorem dX11_leadsUnder_47 : decode cX11_leadsUnder 47 = .ok (.istore 5, 2) := by decide +kernel
theorem dX11_leadsUnder_49 : decode cX11_leadsUnder 49 = .ok (.iload 5, 2) := by decide +kernel
theorem dX11_leadsUnder_51 : decode cX11_leadsUnder 51 = .ok (.iconst (-1), 1) := by decide +kernel
theorem dX11_leadsUnder_52 : decode cX11_leadsUnder 52 = .ok (.if_icmp .eq 23, 3) := by decide +kernel
theorem dX11_leadsUnder_55 : decode cX11_leadsUnder 55 = .ok (.aload_n 0, 1) := by decide +kernel
theorem dX11_leadsUnder_56 : decode cX11_leadsUnder 56 = .ok (.getfield 95, 3) := by decide +kernel
theorem dX11_leadsUnder_59 : decode cX11_leadsUnder 59 = .ok (.iload 5, 2) := by decide +kernel
theorem dX11_leadsUnder_61 : decode cX11_leadsUnder 61 = .ok (.dup2, 1) := by decide +kernel
theorem dX11_leadsUnder_62 : decode cX11_leadsUnder 62 = .ok (.iaload, 1) := by decide +kernel
theorem dX11_leadsUnder_63 : decode cX11_leadsUnder 63 = .ok (.iconst 1, 1) := by decide +kernel
theorem dX11_leadsUnder_64 : decode cX11_leadsUnder 64 = .ok (.iload_n 1, 1) := by decide +kernel
theorem dX11_leadsUnder_65 : decode cX11_leadsUnder 65 = .ok (.iload_n 3, 1) := by decide +kernel
theorem dX11_leadsUnder_66 : decode cX11_leadsUnder 66 = .ok (.ishr, 1) := by decide +kernel
theorem dX11_leadsUnder_67 : decode cX11_leadsUnder 67 = .ok (.iconst 1, 1) := by decide +kernel
theorem dX11_leadsUnder_68 : decode cX11_leadsUnder 68 = .ok (.iand, 1) := by decide +kernel
theorem dX11_leadsUnder_69 : decode cX11_leadsUnder 69 = .ok (.isub, 1) := by decide +kernel
theorem dX11_leadsUnder_70 : decode cX11_leadsUnder 70 = .ok (.iadd, 1) := by decide +kernel
theorem dX11_leadsUnder_71 : decode cX11_leadsUnder 71 = .ok (.iastore, 1) := by decide +kernel
theorem dX11_leadsUnder_72 : decode cX11_leadsUnder 72 = .ok (.iinc 3 1, 3) := by decide +kernel
theorem dX11_leadsUnder_75 : decode cX11_leadsUnder 75 = .ok (.iinc 4 1, 3) := by decide +kernel
theorem dX11_leadsUnder_78 : decode cX11_leadsUnder 78 = .ok (.goto (-53), 3) := by decide +kernel
theorem dX11_leadsUnder_81 : decode cX11_leadsUnder 81 = .ok (.iconst 0, 1) := by decide +kernel
theorem dX11_leadsUnder_82 : decode cX11_leadsUnder 82 = .ok (.istore 4, 2) := by decide +kernel
theorem dX11_leadsUnder_84 : decode cX11_leadsUnder 84 = .ok (.iload 4, 2) := by decide +kernel
theorem dX11_leadsUnder_86 : decode cX11_leadsUnder 86 = .ok (.aload_n 0, 1) := by decide +kernel
theorem dX11_leadsUnder_87 : decode cX11_leadsUnder 87 = .ok (.getfield 19, 3) := by decide +kernel
theorem dX11_leadsUnder_90 : decode cX11_leadsUnder 90 = .ok (.getfield 272, 3) := by decide +kernel
theorem dX11_leadsUnder_93 : decode cX11_leadsUnder 93 = .ok (.if_icmp .ge 33, 3) := by decide +kernel
theorem dX11_leadsUnder_96 : decode cX11_leadsUnder 96 = .ok (.iload 4, 2) := by decide +kernel
theorem dX11_leadsUnder_98 : decode cX11_leadsUnder 98 = .ok (.iload_n 2, 1) := by decide +kernel
theorem dX11_leadsUnder_99 : decode cX11_leadsUnder 99 = .ok (.if_icmp .eq 21, 3) := by decide +kernel
theorem dX11_leadsUnder_102 : decode cX11_leadsUnder 102 = .ok (.aload_n 0, 1) := by decide +kernel
theorem dX11_leadsUnder_103 : decode cX11_leadsUnder 103 = .ok (.getfield 95, 3) := by decide +kernel
theorem dX11_leadsUnder_106 : decode cX11_leadsUnder 106 = .ok (.iload 4, 2) := by decide +kernel
theorem dX11_leadsUnder_108 : decode cX11_leadsUnder 108 = .ok (.iaload, 1) := by decide +kernel
theorem dX11_leadsUnder_109 : decode cX11_leadsUnder 109 = .ok (.aload_n 0, 1) := by decide +kernel
theorem dX11_leadsUnder_110 : decode cX11_leadsUnder 110 = .ok (.getfield 95, 3) := by decide +kernel
theorem dX11_leadsUnder_113 : decode cX11_leadsUnder 113 = .ok (.iload_n 2, 1) := by decide +kernel
theorem dX11_leadsUnder_114 : decode cX11_leadsUnder 114 = .ok (.iaload, 1) := by decide +kernel
theorem dX11_leadsUnder_115 : decode cX11_leadsUnder 115 = .ok (.if_icmp .lt 5, 3) := by decide +kernel
theorem dX11_leadsUnder_118 : decode cX11_leadsUnder 118 = .ok (.iconst 0, 1) := by decide +kernel
theorem dX11_leadsUnder_119 : decode cX11_leadsUnder 119 = .ok (.ireturn, 1) := by decide +kernel
theorem dX11_leadsUnder_120 : decode cX11_leadsUnder 120 = .ok (.iinc 4 1, 3) := by decide +kernel
theorem dX11_leadsUnder_123 : decode cX11_leadsUnder 123 = .ok (.goto (-39), 3) := by decide +kernel
theorem dX11_leadsUnder_126 : decode cX11_leadsUnder 126 = .ok (.iconst 1, 1) := by decide +kernel
theorem dX11_leadsUnder_127 : decode cX11_leadsUnder 127 = .ok (.ireturn, 1) := by decide +kernel
theorem dX11_isWithin_0 : decode cX11_isWithin 0 = .ok (.iload_n 0, 1) := by decide +kernel
theorem dX11_isWithin_1 : decode cX11_isWithin 1 = .ok (.iload_n 1, 1) := by decide +kernel
theorem dX11_isWithin_2 : decode cX11_isWithin 2 = .ok (.if_icmp .lt 12, 3) := by decide +kernel
theorem dX11_isWithin_5 : decode cX11_isWithin 5 = .ok (.iload_n 0, 1) := by decide +kernel
theorem dX11_isWithin_6 : decode cX11_isWithin 6 = .ok (.iload_n 2, 1) := by decide +kernel
theorem dX11_isWithin_7 : decode cX11_isWithin 7 = .ok (.if_icmp .gt 7, 3) := by decide +kernel
theorem dX11_isWithin_10 : decode cX11_isWithin 10 = .ok (.iconst 1, 1) := by decide +kernel
theorem dX11_isWithin_11 : decode cX11_isWithin 11 = .ok (.goto 4, 3) := by decide +kernel
theorem dX11_isWithin_14 : decode cX11_isWithin 14 = .ok (.iconst 0, 1) := by decide +kernel
theorem dX11_isWithin_15 : decode cX11_isWithin 15 = .ok (.ireturn, 1) := by decide +kernel
theorem dX11_sumOf_0 : decode cX11_sumOf 0 = .ok (.iconst 0, 1) := by decide +kernel
theorem dX11_sumOf_1 : decode cX11_sumOf 1 = .ok (.istore_n 2, 1) := by decide +kernel
theorem dX11_sumOf_2 : decode cX11_sumOf 2 = .ok (.iconst 0, 1) := by decide +kernel
theorem dX11_sumOf_3 : decode cX11_sumOf 3 = .ok (.istore_n 3, 1) := by decide +kernel
theorem dX11_sumOf_4 : decode cX11_sumOf 4 = .ok (.iload_n 3, 1) := by decide +kernel
theorem dX11_sumOf_5 : decode cX11_sumOf 5 = .ok (.iload_n 1, 1) := by decide +kernel
theorem dX11_sumOf_6 : decode cX11_sumOf 6 = .ok (.if_icmp .ge 21, 3) := by decide +kernel
theorem dX11_sumOf_9 : decode cX11_sumOf 9 = .ok (.iload_n 3, 1) := by decide +kernel
theorem dX11_sumOf_10 : decode cX11_sumOf 10 = .ok (.aload_n 0, 1) := by decide +kernel
theorem dX11_sumOf_11 : decode cX11_sumOf 11 = .ok (.arraylength, 1) := by decide +kernel
theorem dX11_sumOf_12 : decode cX11_sumOf 12 = .ok (.if_icmp .ge 15, 3) := by decide +kernel
theorem dX11_sumOf_15 : decode cX11_sumOf 15 = .ok (.iload_n 2, 1) := by decide +kernel
theorem dX11_sumOf_16 : decode cX11_sumOf 16 = .ok (.aload_n 0, 1) := by decide +kernel
theorem dX11_sumOf_17 : decode cX11_sumOf 17 = .ok (.iload_n 3, 1) := by decide +kernel
theorem dX11_sumOf_18 : decode cX11_sumOf 18 = .ok (.iaload, 1) := by decide +kernel
theorem dX11_sumOf_19 : decode cX11_sumOf 19 = .ok (.iadd, 1) := by decide +kernel
theorem dX11_sumOf_20 : decode cX11_sumOf 20 = .ok (.istore_n 2, 1) := by decide +kernel
theorem dX11_sumOf_21 : decode cX11_sumOf 21 = .ok (.iinc 3 1, 3) := by decide +kernel
theorem dX11_sumOf_24 : decode cX11_sumOf 24 = .ok (.goto (-20), 3) := by decide +kernel
theorem dX11_sumOf_27 : decode cX11_sumOf 27 = .ok (.iload_n 2, 1) := by decide +kernel
theorem dX11_sumOf_28 : decode cX11_sumOf 28 = .ok (.ireturn, 1) := by decide +kernel
theorem dX11_hoursFor_0 : decode cX11_hoursFor 0 = .ok (.iload_n 1, 1) := by decide +kernel
theorem dX11_hoursFor_1 : decode cX11_hoursFor 1 = .ok (.ifCond .le 13, 3) := by decide +kernel
theorem dX11_hoursFor_4 : decode cX11_hoursFor 4 = .ok (.iload_n 0, 1) := by decide +kernel
theorem dX11_hoursFor_5 : decode cX11_hoursFor 5 = .ok (.iload_n 1, 1) := by decide +kernel
theorem dX11_hoursFor_6 : decode cX11_hoursFor 6 = .ok (.iadd, 1) := by decide +kernel
theorem dX11_hoursFor_7 : decode cX11_hoursFor 7 = .ok (.iconst 1, 1) := by decide +kernel
theorem dX11_hoursFor_8 : decode cX11_hoursFor 8 = .ok (.isub, 1) := by decide +kernel
theorem dX11_hoursFor_9 : decode cX11_hoursFor 9 = .ok (.iload_n 1, 1) := by decide +kernel
theorem dX11_hoursFor_10 : decode cX11_hoursFor 10 = .ok (.idiv, 1) := by decide +kernel
theorem dX11_hoursFor_11 : decode cX11_hoursFor 11 = .ok (.goto 4, 3) := by decide +kernel
theorem dX11_hoursFor_14 : decode cX11_hoursFor 14 = .ok (.iconst 0, 1) := by decide +kernel
theorem dX11_hoursFor_15 : decode cX11_hoursFor 15 = .ok (.ireturn, 1) := by decide +kernel
theorem dJ11_isValidCodePoint_9a6ad_0 : decode cJ11_isValidCodePoint_9a6ad 0 = .ok (.iload_n 0, 1) := by decide +kernel
theorem dJ11_isValidCodePoint_9a6ad_1 : decode cJ11_isValidCodePoint_9a6ad 1 = .ok (.bipush 16, 2) := by decide +kernel
theorem dJ11_isValidCodePoint_9a6ad_3 : decode cJ11_isValidCodePoint_9a6ad 3 = .ok (.iushr, 1) := by decide +kernel
theorem dJ11_isValidCodePoint_9a6ad_4 : decode cJ11_isValidCodePoint_9a6ad 4 = .ok (.istore_n 1, 1) := by decide +kernel
theorem dJ11_isValidCodePoint_9a6ad_5 : decode cJ11_isValidCodePoint_9a6ad 5 = .ok (.iload_n 1, 1) := by decide +kernel
theorem dJ11_isValidCodePoint_9a6ad_6 : decode cJ11_isValidCodePoint_9a6ad 6 = .ok (.bipush 17, 2) := by decide +kernel
theorem dJ11_isValidCodePoint_9a6ad_8 : decode cJ11_isValidCodePoint_9a6ad 8 = .ok (.if_icmp .ge 7, 3) := by decide +kernel
theorem dJ11_isValidCodePoint_9a6ad_11 : decode cJ11_isValidCodePoint_9a6ad 11 = .ok (.iconst 1, 1) := by decide +kernel
theorem dJ11_isValidCodePoint_9a6ad_12 : decode cJ11_isValidCodePoint_9a6ad 12 = .ok (.goto 4, 3) := by decide +kernel
theorem dJ11_isValidCodePoint_9a6ad_15 : decode cJ11_isValidCodePoint_9a6ad 15 = .ok (.iconst 0, 1) := by decide +kernel
theorem dJ11_isValidCodePoint_9a6ad_16 : decode cJ11_isValidCodePoint_9a6ad 16 = .ok (.ireturn, 1) := by decide +kernel
theorem dJ11_highSurrogate_5068e_0 : decode cJ11_highSurrogate_5068e 0 = .ok (.iload_n 0, 1) := by decide +kernel
theorem dJ11_highSurrogate_5068e_1 : decode cJ11_highSurrogate_5068e 1 = .ok (.bipush 10, 2) := by decide +kernel
theorem dJ11_highSurrogate_5068e_3 : decode cJ11_highSurrogate_5068e 3 = .ok (.iushr, 1) := by decide +kernel
theorem dJ11_highSurrogate_5068e_4 : decode cJ11_highSurrogate_5068e 4 = .ok (.ldc 110, 2) := by decide +kernel
theorem dJ11_highSurrogate_5068e_6 : decode cJ11_highSurrogate_5068e 6 = .ok (.iadd, 1) := by decide +kernel
theorem dJ11_highSurrogate_5068e_7 : decode cJ11_highSurrogate_5068e 7 = .ok (.i2c, 1) := by decide +kernel
theorem dJ11_highSurrogate_5068e_8 : decode cJ11_highSurrogate_5068e 8 = .ok (.ireturn, 1) := by decide +kernel
theorem dJ11_lowSurrogate_5068e_0 : decode cJ11_lowSurrogate_5068e 0 = .ok (.iload_n 0, 1) := by decide +kernel
theorem dJ11_lowSurrogate_5068e_1 : decode cJ11_lowSurrogate_5068e 1 = .ok (.sipush 1023, 3) := by decide +kernel
theorem dJ11_lowSurrogate_5068e_4 : decode cJ11_lowSurrogate_5068e 4 = .ok (.iand, 1) := by decide +kernel
theorem dJ11_lowSurrogate_5068e_5 : decode cJ11_lowSurrogate_5068e 5 = .ok (.ldc 76, 2) := by decide +kernel
theorem dJ11_lowSurrogate_5068e_7 : decode cJ11_lowSurrogate_5068e 7 = .ok (.iadd, 1) := by decide +kernel
theorem dJ11_lowSurrogate_5068e_8 : decode cJ11_lowSurrogate_5068e 8 = .ok (.i2c, 1) := by decide +kernel
theorem dJ11_lowSurrogate_5068e_9 : decode cJ11_lowSurrogate_5068e 9 = .ok (.ireturn, 1) := by decide +kernel
theorem dJ6_bitCount_0f7a4_0 : decode cJ6_bitCount_0f7a4 0 = .ok (.iload_n 0, 1) := by decide +kernel
theorem dJ6_bitCount_0f7a4_1 : decode cJ6_bitCount_0f7a4 1 = .ok (.iload_n 0, 1) := by decide +kernel
theorem dJ6_bitCount_0f7a4_2 : decode cJ6_bitCount_0f7a4 2 = .ok (.iconst 1, 1) := by decide +kernel
theorem dJ6_bitCount_0f7a4_3 : decode cJ6_bitCount_0f7a4 3 = .ok (.iushr, 1) := by decide +kernel
theorem dJ6_bitCount_0f7a4_4 : decode cJ6_bitCount_0f7a4 4 = .ok (.ldc_w 265, 3) := by decide +kernel
theorem dJ6_bitCount_0f7a4_7 : decode cJ6_bitCount_0f7a4 7 = .ok (.iand, 1) := by decide +kernel
theorem dJ6_bitCount_0f7a4_8 : decode cJ6_bitCount_0f7a4 8 = .ok (.isub, 1) := by decide +kernel
theorem dJ6_bitCount_0f7a4_9 : decode cJ6_bitCount_0f7a4 9 = .ok (.istore_n 0, 1) := by decide +kernel
theorem dJ6_bitCount_0f7a4_10 : decode cJ6_bitCount_0f7a4 10 = .ok (.iload_n 0, 1) := by decide +kernel
theorem dJ6_bitCount_0f7a4_11 : decode cJ6_bitCount_0f7a4 11 = .ok (.ldc_w 266, 3) := by decide +kernel
theorem dJ6_bitCount_0f7a4_14 : decode cJ6_bitCount_0f7a4 14 = .ok (.iand, 1) := by decide +kernel
theorem dJ6_bitCount_0f7a4_15 : decode cJ6_bitCount_0f7a4 15 = .ok (.iload_n 0, 1) := by decide +kernel
theorem dJ6_bitCount_0f7a4_16 : decode cJ6_bitCount_0f7a4 16 = .ok (.iconst 2, 1) := by decide +kernel
theorem dJ6_bitCount_0f7a4_17 : decode cJ6_bitCount_0f7a4 17 = .ok (.iushr, 1) := by decide +kernel
theorem dJ6_bitCount_0f7a4_18 : decode cJ6_bitCount_0f7a4 18 = .ok (.ldc_w 266, 3) := by decide +kernel
theorem dJ6_bitCount_0f7a4_21 : decode cJ6_bitCount_0f7a4 21 = .ok (.iand, 1) := by decide +kernel
theorem dJ6_bitCount_0f7a4_22 : decode cJ6_bitCount_0f7a4 22 = .ok (.iadd, 1) := by decide +kernel
theorem dJ6_bitCount_0f7a4_23 : decode cJ6_bitCount_0f7a4 23 = .ok (.istore_n 0, 1) := by decide +kernel
theorem dJ6_bitCount_0f7a4_24 : decode cJ6_bitCount_0f7a4 24 = .ok (.iload_n 0, 1) := by decide +kernel
theorem dJ6_bitCount_0f7a4_25 : decode cJ6_bitCount_0f7a4 25 = .ok (.iload_n 0, 1) := by decide +kernel
theorem dJ6_bitCount_0f7a4_26 : decode cJ6_bitCount_0f7a4 26 = .ok (.iconst 4, 1) := by decide +kernel
theorem dJ6_bitCount_0f7a4_27 : decode cJ6_bitCount_0f7a4 27 = .ok (.iushr, 1) := by decide +kernel
theorem dJ6_bitCount_0f7a4_28 : decode cJ6_bitCount_0f7a4 28 = .ok (.iadd, 1) := by decide +kernel
theorem dJ6_bitCount_0f7a4_29 : decode cJ6_bitCount_0f7a4 29 = .ok (.ldc_w 267, 3) := by decide +kernel
theorem dJ6_bitCount_0f7a4_32 : decode cJ6_bitCount_0f7a4 32 = .ok (.iand, 1) := by decide +kernel
theorem dJ6_bitCount_0f7a4_33 : decode cJ6_bitCount_0f7a4 33 = .ok (.istore_n 0, 1) := by decide +kernel
theorem dJ6_bitCount_0f7a4_34 : decode cJ6_bitCount_0f7a4 34 = .ok (.iload_n 0, 1) := by decide +kernel
theorem dJ6_bitCount_0f7a4_35 : decode cJ6_bitCount_0f7a4 35 = .ok (.iload_n 0, 1) := by decide +kernel
theorem dJ6_bitCount_0f7a4_36 : decode cJ6_bitCount_0f7a4 36 = .ok (.bipush 8, 2) := by decide +kernel
theorem dJ6_bitCount_0f7a4_38 : decode cJ6_bitCount_0f7a4 38 = .ok (.iushr, 1) := by decide +kernel
theorem dJ6_bitCount_0f7a4_39 : decode cJ6_bitCount_0f7a4 39 = .ok (.iadd, 1) := by decide +kernel
theorem dJ6_bitCount_0f7a4_40 : decode cJ6_bitCount_0f7a4 40 = .ok (.istore_n 0, 1) := by decide +kernel
theorem dJ6_bitCount_0f7a4_41 : decode cJ6_bitCount_0f7a4 41 = .ok (.iload_n 0, 1) := by decide +kernel
theorem dJ6_bitCount_0f7a4_42 : decode cJ6_bitCount_0f7a4 42 = .ok (.iload_n 0, 1) := by decide +kernel
theorem dJ6_bitCount_0f7a4_43 : decode cJ6_bitCount_0f7a4 43 = .ok (.bipush 16, 2) := by decide +kernel
theorem dJ6_bitCount_0f7a4_45 : decode cJ6_bitCount_0f7a4 45 = .ok (.iushr, 1) := by decide +kernel
theorem dJ6_bitCount_0f7a4_46 : decode cJ6_bitCount_0f7a4 46 = .ok (.iadd, 1) := by decide +kernel
theorem dJ6_bitCount_0f7a4_47 : decode cJ6_bitCount_0f7a4 47 = .ok (.istore_n 0, 1) := by decide +kernel
theorem dJ6_bitCount_0f7a4_48 : decode cJ6_bitCount_0f7a4 48 = .ok (.iload_n 0, 1) := by decide +kernel
theorem dJ6_bitCount_0f7a4_49 : decode cJ6_bitCount_0f7a4 49 = .ok (.bipush 63, 2) := by decide +kernel
theorem dJ6_bitCount_0f7a4_51 : decode cJ6_bitCount_0f7a4 51 = .ok (.iand, 1) := by decide +kernel
theorem dJ6_bitCount_0f7a4_52 : decode cJ6_bitCount_0f7a4 52 = .ok (.ireturn, 1) := by decide +kernel
theorem dJ9_abs_0f7a4_0 : decode cJ9_abs_0f7a4 0 = .ok (.iload_n 0, 1) := by decide +kernel
theorem dJ9_abs_0f7a4_1 : decode cJ9_abs_0f7a4 1 = .ok (.ifCond .ge 8, 3) := by decide +kernel
theorem dJ9_abs_0f7a4_4 : decode cJ9_abs_0f7a4 4 = .ok (.iload_n 0, 1) := by decide +kernel
theorem dJ9_abs_0f7a4_5 : decode cJ9_abs_0f7a4 5 = .ok (.ineg, 1) := by decide +kernel
theorem dJ9_abs_0f7a4_6 : decode cJ9_abs_0f7a4 6 = .ok (.goto 4, 3) := by decide +kernel
theorem dJ9_abs_0f7a4_9 : decode cJ9_abs_0f7a4 9 = .ok (.iload_n 0, 1) := by decide +kernel
theorem dJ9_abs_0f7a4_10 : decode cJ9_abs_0f7a4 10 = .ok (.ireturn, 1) := by decide +kernel
theorem dJ9_max_7cf53_0 : decode cJ9_max_7cf53 0 = .ok (.iload_n 0, 1) := by decide +kernel
theorem dJ9_max_7cf53_1 : decode cJ9_max_7cf53 1 = .ok (.iload_n 1, 1) := by decide +kernel
theorem dJ9_max_7cf53_2 : decode cJ9_max_7cf53 2 = .ok (.if_icmp .lt 7, 3) := by decide +kernel
theorem dJ9_max_7cf53_5 : decode cJ9_max_7cf53 5 = .ok (.iload_n 0, 1) := by decide +kernel
theorem dJ9_max_7cf53_6 : decode cJ9_max_7cf53 6 = .ok (.goto 4, 3) := by decide +kernel
theorem dJ9_max_7cf53_9 : decode cJ9_max_7cf53 9 = .ok (.iload_n 1, 1) := by decide +kernel
theorem dJ9_max_7cf53_10 : decode cJ9_max_7cf53 10 = .ok (.ireturn, 1) := by decide +kernel
theorem dJ9_max_f86c9_0 : decode cJ9_max_f86c9 0 = .ok (.lload_n 0, 1) := by decide +kernel
theorem dJ9_max_f86c9_1 : decode cJ9_max_f86c9 1 = .ok (.lload_n 2, 1) := by decide +kernel
theorem dJ9_max_f86c9_2 : decode cJ9_max_f86c9 2 = .ok (.lcmp, 1) := by decide +kernel
theorem dJ9_max_f86c9_3 : decode cJ9_max_f86c9 3 = .ok (.ifCond .lt 7, 3) := by decide +kernel
theorem dJ9_max_f86c9_6 : decode cJ9_max_f86c9 6 = .ok (.lload_n 0, 1) := by decide +kernel
theorem dJ9_max_f86c9_7 : decode cJ9_max_f86c9 7 = .ok (.goto 4, 3) := by decide +kernel
theorem dJ9_max_f86c9_10 : decode cJ9_max_f86c9 10 = .ok (.lload_n 2, 1) := by decide +kernel
theorem dJ9_max_f86c9_11 : decode cJ9_max_f86c9 11 = .ok (.lreturn, 1) := by decide +kernel
theorem dJ9_min_7cf53_0 : decode cJ9_min_7cf53 0 = .ok (.iload_n 0, 1) := by decide +kernel
theorem dJ9_min_7cf53_1 : decode cJ9_min_7cf53 1 = .ok (.iload_n 1, 1) := by decide +kernel
theorem dJ9_min_7cf53_2 : decode cJ9_min_7cf53 2 = .ok (.if_icmp .gt 7, 3) := by decide +kernel
theorem dJ9_min_7cf53_5 : decode cJ9_min_7cf53 5 = .ok (.iload_n 0, 1) := by decide +kernel
theorem dJ9_min_7cf53_6 : decode cJ9_min_7cf53 6 = .ok (.goto 4, 3) := by decide +kernel
theorem dJ9_min_7cf53_9 : decode cJ9_min_7cf53 9 = .ok (.iload_n 1, 1) := by decide +kernel
theorem dJ9_min_7cf53_10 : decode cJ9_min_7cf53 10 = .ok (.ireturn, 1) := by decide +kernel
theorem dJ9_min_f86c9_0 : decode cJ9_min_f86c9 0 = .ok (.lload_n 0, 1) := by decide +kernel
theorem dJ9_min_f86c9_1 : decode cJ9_min_f86c9 1 = .ok (.lload_n 2, 1) := by decide +kernel
theorem dJ9_min_f86c9_2 : decode cJ9_min_f86c9 2 = .ok (.lcmp, 1) := by decide +kernel
theorem dJ9_min_f86c9_3 : decode cJ9_min_f86c9 3 = .ok (.ifCond .gt 7, 3) := by decide +kernel
theorem dJ9_min_f86c9_6 : decode cJ9_min_f86c9 6 = .ok (.lload_n 0, 1) := by decide +kernel
theorem dJ9_min_f86c9_7 : decode cJ9_min_f86c9 7 = .ok (.goto 4, 3) := by decide +kernel
theorem dJ9_min_f86c9_10 : decode cJ9_min_f86c9 10 = .ok (.lload_n 2, 1) := by decide +kernel
theorem dJ9_min_f86c9_11 : decode cJ9_min_f86c9 11 = .ok (.lreturn, 1) := by decide +kernel
theorem dJ0_length_8abf5_0 : decode cJ0_length_8abf5 0 = .ok (.aload_n 0, 1) := by decide +kernel
theorem dJ0_length_8abf5_1 : decode cJ0_length_8abf5 1 = .ok (.getfield 9, 3) := by decide +kernel
theorem dJ0_length_8abf5_4 : decode cJ0_length_8abf5 4 = .ok (.arraylength, 1) := by decide +kernel
theorem dJ0_length_8abf5_5 : decode cJ0_length_8abf5 5 = .ok (.aload_n 0, 1) := by decide +kernel
theorem dJ0_length_8abf5_6 : decode cJ0_length_8abf5 6 = .ok (.invokevirtual 335, 3) := by decide +kernel
theorem dJ0_length_8abf5_9 : decode cJ0_length_8abf5 9 = .ok (.ishr, 1) := by decide +kernel
theorem dJ0_length_8abf5_10 : decode cJ0_length_8abf5 10 = .ok (.ireturn, 1) := by decide +kernel
theorem dJ0_charAt_5068e_0 : decode cJ0_charAt_5068e 0 = .ok (.aload_n 0, 1) := by decide +kernel
theorem dJ0_charAt_5068e_1 : decode cJ0_charAt_5068e 1 = .ok (.invokevirtual 492, 3) := by decide +kernel
theorem dJ0_charAt_5068e_4 : decode cJ0_charAt_5068e 4 = .ok (.ifCond .eq 12, 3) := by decide +kernel
theorem dJ0_charAt_5068e_7 : decode cJ0_charAt_5068e 7 = .ok (.aload_n 0, 1) := by decide +kernel
theorem dJ0_charAt_5068e_8 : decode cJ0_charAt_5068e 8 = .ok (.getfield 9, 3) := by decide +kernel
theorem dJ0_charAt_5068e_11 : decode cJ0_charAt_5068e 11 = .ok (.iload_n 1, 1) := by decide +kernel
theorem dJ0_charAt_5068e_12 : decode cJ0_charAt_5068e 12 = .ok (.invokestatic 495, 3) := by decide +kernel
theorem dJ0_charAt_5068e_15 : decode cJ0_charAt_5068e 15 = .ok (.ireturn, 1) := by decide +kernel
theorem dJ0_charAt_5068e_16 : decode cJ0_charAt_5068e 16 = .ok (.aload_n 0, 1) := by decide +kernel
theorem dJ0_charAt_5068e_17 : decode cJ0_charAt_5068e 17 = .ok (.getfield 9, 3) := by decide +kernel
theorem dJ0_charAt_5068e_20 : decode cJ0_charAt_5068e 20 = .ok (.iload_n 1, 1) := by decide +kernel
theorem dJ0_charAt_5068e_21 : decode cJ0_charAt_5068e 21 = .ok (.invokestatic 498, 3) := by decide +kernel
theorem dJ0_charAt_5068e_24 : decode cJ0_charAt_5068e 24 = .ok (.ireturn, 1) := by decide +kernel
theorem dJ0_indexOf_0f7a4_0 : decode cJ0_indexOf_0f7a4 0 = .ok (.aload_n 0, 1) := by decide +kernel
theorem dJ0_indexOf_0f7a4_1 : decode cJ0_indexOf_0f7a4 1 = .ok (.iload_n 1, 1) := by decide +kernel
theorem dJ0_indexOf_0f7a4_2 : decode cJ0_indexOf_0f7a4 2 = .ok (.iconst 0, 1) := by decide +kernel
theorem dJ0_indexOf_0f7a4_3 : decode cJ0_indexOf_0f7a4 3 = .ok (.invokevirtual 633, 3) := by decide +kernel
theorem dJ0_indexOf_0f7a4_6 : decode cJ0_indexOf_0f7a4 6 = .ok (.ireturn, 1) := by decide +kernel
theorem dJ0_indexOf_7cf53_0 : decode cJ0_indexOf_7cf53 0 = .ok (.aload_n 0, 1) := by decide +kernel
theorem dJ0_indexOf_7cf53_1 : decode cJ0_indexOf_7cf53 1 = .ok (.invokevirtual 492, 3) := by decide +kernel
theorem dJ0_indexOf_7cf53_4 : decode cJ0_indexOf_7cf53 4 = .ok (.ifCond .eq 19, 3) := by decide +kernel
theorem dJ0_indexOf_7cf53_7 : decode cJ0_indexOf_7cf53 7 = .ok (.aload_n 0, 1) := by decide +kernel
theorem dJ0_indexOf_7cf53_8 : decode cJ0_indexOf_7cf53 8 = .ok (.getfield 9, 3) := by decide +kernel
theorem dJ0_indexOf_7cf53_11 : decode cJ0_indexOf_7cf53 11 = .ok (.iload_n 1, 1) := by decide +kernel
theorem dJ0_indexOf_7cf53_12 : decode cJ0_indexOf_7cf53 12 = .ok (.iload_n 2, 1) := by decide +kernel
theorem dJ0_indexOf_7cf53_13 : decode cJ0_indexOf_7cf53 13 = .ok (.aload_n 0, 1) := by decide +kernel
theorem dJ0_indexOf_7cf53_14 : decode cJ0_indexOf_7cf53 14 = .ok (.invokevirtual 505, 3) := by decide +kernel
theorem dJ0_indexOf_7cf53_17 : decode cJ0_indexOf_7cf53 17 = .ok (.invokestatic 637, 3) := by decide +kernel
theorem dJ0_indexOf_7cf53_20 : decode cJ0_indexOf_7cf53 20 = .ok (.goto 16, 3) := by decide +kernel
theorem dJ0_indexOf_7cf53_23 : decode cJ0_indexOf_7cf53 23 = .ok (.aload_n 0, 1) := by decide +kernel
theorem dJ0_indexOf_7cf53_24 : decode cJ0_indexOf_7cf53 24 = .ok (.getfield 9, 3) := by decide +kernel
theorem dJ0_indexOf_7cf53_27 : decode cJ0_indexOf_7cf53 27 = .ok (.iload_n 1, 1) := by decide +kernel
theorem dJ0_indexOf_7cf53_28 : decode cJ0_indexOf_7cf53 28 = .ok (.iload_n 2, 1) := by decide +kernel
theorem dJ0_indexOf_7cf53_29 : decode cJ0_indexOf_7cf53 29 = .ok (.aload_n 0, 1) := by decide +kernel
theorem dJ0_indexOf_7cf53_30 : decode cJ0_indexOf_7cf53 30 = .ok (.invokevirtual 505, 3) := by decide +kernel
theorem dJ0_indexOf_7cf53_33 : decode cJ0_indexOf_7cf53 33 = .ok (.invokestatic 640, 3) := by decide +kernel
theorem dJ0_indexOf_7cf53_36 : decode cJ0_indexOf_7cf53 36 = .ok (.ireturn, 1) := by decide +kernel
theorem dJ0_coder_7d493_0 : decode cJ0_coder_7d493 0 = .ok (.getstatic 38, 3) := by decide +kernel
theorem dJ0_coder_7d493_3 : decode cJ0_coder_7d493 3 = .ok (.ifCond .eq 10, 3) := by decide +kernel
theorem dJ0_coder_7d493_6 : decode cJ0_coder_7d493 6 = .ok (.aload_n 0, 1) := by decide +kernel
theorem dJ0_coder_7d493_7 : decode cJ0_coder_7d493 7 = .ok (.getfield 15, 3) := by decide +kernel
theorem dJ0_coder_7d493_10 : decode cJ0_coder_7d493 10 = .ok (.goto 4, 3) := by decide +kernel
theorem dJ0_coder_7d493_13 : decode cJ0_coder_7d493 13 = .ok (.iconst 1, 1) := by decide +kernel
theorem dJ0_coder_7d493_14 : decode cJ0_coder_7d493 14 = .ok (.ireturn, 1) := by decide +kernel
theorem dJ0_isLatin1_aae02_0 : decode cJ0_isLatin1_aae02 0 = .ok (.getstatic 38, 3) := by decide +kernel
theorem dJ0_isLatin1_aae02_3 : decode cJ0_isLatin1_aae02 3 = .ok (.ifCond .eq 14, 3) := by decide +kernel
theorem dJ0_isLatin1_aae02_6 : decode cJ0_isLatin1_aae02 6 = .ok (.aload_n 0, 1) := by decide +kernel
theorem dJ0_isLatin1_aae02_7 : decode cJ0_isLatin1_aae02 7 = .ok (.getfield 15, 3) := by decide +kernel
theorem dJ0_isLatin1_aae02_10 : decode cJ0_isLatin1_aae02 10 = .ok (.ifCond .ne 7, 3) := by decide +kernel
theorem dJ0_isLatin1_aae02_13 : decode cJ0_isLatin1_aae02 13 = .ok (.iconst 1, 1) := by decide +kernel
theorem dJ0_isLatin1_aae02_14 : decode cJ0_isLatin1_aae02 14 = .ok (.goto 4, 3) := by decide +kernel
theorem dJ0_isLatin1_aae02_17 : decode cJ0_isLatin1_aae02 17 = .ok (.iconst 0, 1) := by decide +kernel
theorem dJ0_isLatin1_aae02_18 : decode cJ0_isLatin1_aae02 18 = .ok (.ireturn, 1) := by decide +kernel
theorem dJ0_checkIndex_df160_0 : decode cJ0_checkIndex_df160 0 = .ok (.iload_n 0, 1) := by decide +kernel
theorem dJ0_checkIndex_df160_1 : decode cJ0_checkIndex_df160 1 = .ok (.iload_n 1, 1) := by decide +kernel
theorem dJ0_checkIndex_df160_2 : decode cJ0_checkIndex_df160 2 = .ok (.getstatic 1053, 3) := by decide +kernel
theorem dJ0_checkIndex_df160_5 : decode cJ0_checkIndex_df160 5 = .ok (.invokestatic 1059, 3) := by decide +kernel
theorem dJ0_checkIndex_df160_8 : decode cJ0_checkIndex_df160 8 = .ok (.pop, 1) := by decide +kernel
theorem dJ0_checkIndex_df160_9 : decode cJ0_checkIndex_df160 9 = .ok (.return_, 1) := by decide +kernel
theorem dJ0_checkBoundsBeginEnd_23922_0 : decode cJ0_checkBoundsBeginEnd_23922 0 = .ok (.iload_n 0, 1) := by decide +kernel
theorem dJ0_checkBoundsBeginEnd_23922_1 : decode cJ0_checkBoundsBeginEnd_23922 1 = .ok (.iload_n 1, 1) := by decide +kernel
theorem dJ0_checkBoundsBeginEnd_23922_2 : decode cJ0_checkBoundsBeginEnd_23922 2 = .ok (.iload_n 2, 1) := by decide +kernel
theorem dJ0_checkBoundsBeginEnd_23922_3 : decode cJ0_checkBoundsBeginEnd_23922 3 = .ok (.getstatic 1053, 3) := by decide +kernel
theorem dJ0_checkBoundsBeginEnd_23922_6 : decode cJ0_checkBoundsBeginEnd_23922 6 = .ok (.invokestatic 1062, 3) := by decide +kernel
theorem dJ0_checkBoundsBeginEnd_23922_9 : decode cJ0_checkBoundsBeginEnd_23922 9 = .ok (.pop, 1) := by decide +kernel
theorem dJ0_checkBoundsBeginEnd_23922_10 : decode cJ0_checkBoundsBeginEnd_23922 10 = .ok (.return_, 1) := by decide +kernel
theorem dJ1_charAt_3b067_0 : decode cJ1_charAt_3b067 0 = .ok (.iload_n 1, 1) := by decide +kernel
theorem dJ1_charAt_3b067_1 : decode cJ1_charAt_3b067 1 = .ok (.aload_n 0, 1) := by decide +kernel
theorem dJ1_charAt_3b067_2 : decode cJ1_charAt_3b067 2 = .ok (.arraylength, 1) := by decide +kernel
theorem dJ1_charAt_3b067_3 : decode cJ1_charAt_3b067 3 = .ok (.invokestatic 9, 3) := by decide +kernel
theorem dJ1_charAt_3b067_6 : decode cJ1_charAt_3b067 6 = .ok (.aload_n 0, 1) := by decide +kernel
theorem dJ1_charAt_3b067_7 : decode cJ1_charAt_3b067 7 = .ok (.iload_n 1, 1) := by decide +kernel
theorem dJ1_charAt_3b067_8 : decode cJ1_charAt_3b067 8 = .ok (.baload, 1) := by decide +kernel
theorem dJ1_charAt_3b067_9 : decode cJ1_charAt_3b067 9 = .ok (.sipush 255, 3) := by decide +kernel
theorem dJ1_charAt_3b067_12 : decode cJ1_charAt_3b067 12 = .ok (.iand, 1) := by decide +kernel
theorem dJ1_charAt_3b067_13 : decode cJ1_charAt_3b067 13 = .ok (.i2c, 1) := by decide +kernel
theorem dJ1_charAt_3b067_14 : decode cJ1_charAt_3b067 14 = .ok (.ireturn, 1) := by decide +kernel
theorem dJ1_canEncode_9a6ad_0 : decode cJ1_canEncode_9a6ad 0 = .ok (.iload_n 0, 1) := by decide +kernel
theorem dJ1_canEncode_9a6ad_1 : decode cJ1_canEncode_9a6ad 1 = .ok (.ifCond .lt 14, 3) := by decide +kernel
theorem dJ1_canEncode_9a6ad_4 : decode cJ1_canEncode_9a6ad 4 = .ok (.iload_n 0, 1) := by decide +kernel
theorem dJ1_canEncode_9a6ad_5 : decode cJ1_canEncode_9a6ad 5 = .ok (.sipush 255, 3) := by decide +kernel
theorem dJ1_canEncode_9a6ad_8 : decode cJ1_canEncode_9a6ad 8 = .ok (.if_icmp .gt 7, 3) := by decide +kernel
theorem dJ1_canEncode_9a6ad_11 : decode cJ1_canEncode_9a6ad 11 = .ok (.iconst 1, 1) := by decide +kernel
theorem dJ1_canEncode_9a6ad_12 : decode cJ1_canEncode_9a6ad 12 = .ok (.goto 4, 3) := by decide +kernel
theorem dJ1_canEncode_9a6ad_15 : decode cJ1_canEncode_9a6ad 15 = .ok (.iconst 0, 1) := by decide +kernel
theorem dJ1_canEncode_9a6ad_16 : decode cJ1_canEncode_9a6ad 16 = .ok (.ireturn, 1) := by decide +kernel
theorem dJ1_indexOf_4cfef_0 : decode cJ1_indexOf_4cfef 0 = .ok (.iload_n 1, 1) := by decide +kernel
theorem dJ1_indexOf_4cfef_1 : decode cJ1_indexOf_4cfef 1 = .ok (.invokestatic 88, 3) := by decide +kernel
theorem dJ1_indexOf_4cfef_4 : decode cJ1_indexOf_4cfef 4 = .ok (.ifCond .ne 5, 3) := by decide +kernel
theorem dJ1_indexOf_4cfef_7 : decode cJ1_indexOf_4cfef 7 = .ok (.iconst (-1), 1) := by decide +kernel
theorem dJ1_indexOf_4cfef_8 : decode cJ1_indexOf_4cfef 8 = .ok (.ireturn, 1) := by decide +kernel
theorem dJ1_indexOf_4cfef_9 : decode cJ1_indexOf_4cfef 9 = .ok (.iload_n 2, 1) := by decide +kernel
theorem dJ1_indexOf_4cfef_10 : decode cJ1_indexOf_4cfef 10 = .ok (.iconst 0, 1) := by decide +kernel
theorem dJ1_indexOf_4cfef_11 : decode cJ1_indexOf_4cfef 11 = .ok (.invokestatic 92, 3) := by decide +kernel
theorem dJ1_indexOf_4cfef_14 : decode cJ1_indexOf_4cfef 14 = .ok (.istore_n 2, 1) := by decide +kernel
theorem dJ1_indexOf_4cfef_15 : decode cJ1_indexOf_4cfef 15 = .ok (.iload_n 3, 1) := by decide +kernel
theorem dJ1_indexOf_4cfef_16 : decode cJ1_indexOf_4cfef 16 = .ok (.aload_n 0, 1) := by decide +kernel
theorem dJ1_indexOf_4cfef_17 : decode cJ1_indexOf_4cfef 17 = .ok (.arraylength, 1) := by decide +kernel
theorem dJ1_indexOf_4cfef_18 : decode cJ1_indexOf_4cfef 18 = .ok (.invokestatic 38, 3) := by decide +kernel
theorem dJ1_indexOf_4cfef_21 : decode cJ1_indexOf_4cfef 21 = .ok (.istore_n 3, 1) := by decide +kernel
theorem dJ1_indexOf_4cfef_22 : decode cJ1_indexOf_4cfef 22 = .ok (.iload_n 2, 1) := by decide +kernel
theorem dJ1_indexOf_4cfef_23 : decode cJ1_indexOf_4cfef 23 = .ok (.iload_n 3, 1) := by decide +kernel
theorem dJ1_indexOf_4cfef_24 : decode cJ1_indexOf_4cfef 24 = .ok (.if_icmp .lt 5, 3) := by decide +kernel
theorem dJ1_indexOf_4cfef_27 : decode cJ1_indexOf_4cfef 27 = .ok (.iconst (-1), 1) := by decide +kernel
theorem dJ1_indexOf_4cfef_28 : decode cJ1_indexOf_4cfef 28 = .ok (.ireturn, 1) := by decide +kernel
theorem dJ1_indexOf_4cfef_29 : decode cJ1_indexOf_4cfef 29 = .ok (.aload_n 0, 1) := by decide +kernel
theorem dJ1_indexOf_4cfef_30 : decode cJ1_indexOf_4cfef 30 = .ok (.iload_n 1, 1) := by decide +kernel
theorem dJ1_indexOf_4cfef_31 : decode cJ1_indexOf_4cfef 31 = .ok (.iload_n 2, 1) := by decide +kernel
theorem dJ1_indexOf_4cfef_32 : decode cJ1_indexOf_4cfef 32 = .ok (.iload_n 3, 1) := by decide +kernel
theorem dJ1_indexOf_4cfef_33 : decode cJ1_indexOf_4cfef 33 = .ok (.invokestatic 95, 3) := by decide +kernel
theorem dJ1_indexOf_4cfef_36 : decode cJ1_indexOf_4cfef 36 = .ok (.ireturn, 1) := by decide +kernel
theorem dJ1_indexOfChar_4cfef_0 : decode cJ1_indexOfChar_4cfef 0 = .ok (.iload_n 1, 1) := by decide +kernel
theorem dJ1_indexOfChar_4cfef_1 : decode cJ1_indexOfChar_4cfef 1 = .ok (.i2b, 1) := by decide +kernel
theorem dJ1_indexOfChar_4cfef_2 : decode cJ1_indexOfChar_4cfef 2 = .ok (.istore 4, 2) := by decide +kernel
theorem dJ1_indexOfChar_4cfef_4 : decode cJ1_indexOfChar_4cfef 4 = .ok (.iload_n 2, 1) := by decide +kernel
theorem dJ1_indexOfChar_4cfef_5 : decode cJ1_indexOfChar_4cfef 5 = .ok (.istore 5, 2) := by decide +kernel
theorem dJ1_indexOfChar_4cfef_7 : decode cJ1_indexOfChar_4cfef 7 = .ok (.iload 5, 2) := by decide +kernel
theorem dJ1_indexOfChar_4cfef_9 : decode cJ1_indexOfChar_4cfef 9 = .ok (.iload_n 3, 1) := by decide +kernel
theorem dJ1_indexOfChar_4cfef_10 : decode cJ1_indexOfChar_4cfef 10 = .ok (.if_icmp .ge 21, 3) := by decide +kernel
theorem dJ1_indexOfChar_4cfef_13 : decode cJ1_indexOfChar_4cfef 13 = .ok (.aload_n 0, 1) := by decide +kernel
theorem dJ1_indexOfChar_4cfef_14 : decode cJ1_indexOfChar_4cfef 14 = .ok (.iload 5, 2) := by decide +kernel
theorem dJ1_indexOfChar_4cfef_16 : decode cJ1_indexOfChar_4cfef 16 = .ok (.baload, 1) := by decide +kernel
theorem dJ1_indexOfChar_4cfef_17 : decode cJ1_indexOfChar_4cfef 17 = .ok (.iload 4, 2) := by decide +kernel
theorem dJ1_indexOfChar_4cfef_19 : decode cJ1_indexOfChar_4cfef 19 = .ok (.if_icmp .ne 6, 3) := by decide +kernel
theorem dJ1_indexOfChar_4cfef_22 : decode cJ1_indexOfChar_4cfef 22 = .ok (.iload 5, 2) := by decide +kernel
theorem dJ1_indexOfChar_4cfef_24 : decode cJ1_indexOfChar_4cfef 24 = .ok (.ireturn, 1) := by decide +kernel
theorem dJ1_indexOfChar_4cfef_25 : decode cJ1_indexOfChar_4cfef 25 = .ok (.iinc 5 1, 3) := by decide +kernel
theorem dJ1_indexOfChar_4cfef_28 : decode cJ1_indexOfChar_4cfef 28 = .ok (.goto (-21), 3) := by decide +kernel
theorem dJ1_indexOfChar_4cfef_31 : decode cJ1_indexOfChar_4cfef 31 = .ok (.iconst (-1), 1) := by decide +kernel
theorem dJ1_indexOfChar_4cfef_32 : decode cJ1_indexOfChar_4cfef 32 = .ok (.ireturn, 1) := by decide +kernel
theorem dJ2_getChar_3b067_0 : decode cJ2_getChar_3b067 0 = .ok (.getstatic 44, 3) := by decide +kernel
theorem dJ2_getChar_3b067_3 : decode cJ2_getChar_3b067 3 = .ok (.ifCond .ne 25, 3) := by decide +kernel
theorem dJ2_getChar_3b067_6 : decode cJ2_getChar_3b067 6 = .ok (.iload_n 1, 1) := by decide +kernel
theorem dJ2_getChar_3b067_7 : decode cJ2_getChar_3b067 7 = .ok (.ifCond .lt 11, 3) := by decide +kernel
theorem dJ2_getChar_3b067_10 : decode cJ2_getChar_3b067 10 = .ok (.iload_n 1, 1) := by decide +kernel
theorem dJ2_getChar_3b067_11 : decode cJ2_getChar_3b067 11 = .ok (.aload_n 0, 1) := by decide +kernel
theorem dJ2_getChar_3b067_12 : decode cJ2_getChar_3b067 12 = .ok (.invokestatic 48, 3) := by decide +kernel
theorem dJ2_getChar_3b067_15 : decode cJ2_getChar_3b067 15 = .ok (.if_icmp .lt 13, 3) := by decide +kernel
theorem dJ2_getChar_3b067_18 : decode cJ2_getChar_3b067 18 = .ok (.new 52, 3) := by decide +kernel
theorem dJ2_getChar_3b067_21 : decode cJ2_getChar_3b067 21 = .ok (.dup, 1) := by decide +kernel
theorem dJ2_getChar_3b067_22 : decode cJ2_getChar_3b067 22 = .ok (.ldc 54, 2) := by decide +kernel
theorem dJ2_getChar_3b067_24 : decode cJ2_getChar_3b067 24 = .ok (.invokespecial 56, 3) := by decide +kernel
theorem dJ2_getChar_3b067_27 : decode cJ2_getChar_3b067 27 = .ok (.athrow, 1) := by decide +kernel
theorem dJ2_getChar_3b067_28 : decode cJ2_getChar_3b067 28 = .ok (.iload_n 1, 1) := by decide +kernel
theorem dJ2_getChar_3b067_29 : decode cJ2_getChar_3b067 29 = .ok (.iconst 1, 1) := by decide +kernel
theorem dJ2_getChar_3b067_30 : decode cJ2_getChar_3b067 30 = .ok (.ishl, 1) := by decide +kernel
theorem dJ2_getChar_3b067_31 : decode cJ2_getChar_3b067 31 = .ok (.istore_n 1, 1) := by decide +kernel
theorem dJ2_getChar_3b067_32 : decode cJ2_getChar_3b067 32 = .ok (.aload_n 0, 1) := by decide +kernel
theorem dJ2_getChar_3b067_33 : decode cJ2_getChar_3b067 33 = .ok (.iload_n 1, 1) := by decide +kernel
theorem dJ2_getChar_3b067_34 : decode cJ2_getChar_3b067 34 = .ok (.iinc 1 1, 3) := by decide +kernel
theorem dJ2_getChar_3b067_37 : decode cJ2_getChar_3b067 37 = .ok (.baload, 1) := by decide +kernel
theorem dJ2_getChar_3b067_38 : decode cJ2_getChar_3b067 38 = .ok (.sipush 255, 3) := by decide +kernel
theorem dJ2_getChar_3b067_41 : decode cJ2_getChar_3b067 41 = .ok (.iand, 1) := by decide +kernel
theorem dJ2_getChar_3b067_42 : decode cJ2_getChar_3b067 42 = .ok (.getstatic 59, 3) := by decide +kernel
theorem dJ2_getChar_3b067_45 : decode cJ2_getChar_3b067 45 = .ok (.ishl, 1) := by decide +kernel
theorem dJ2_getChar_3b067_46 : decode cJ2_getChar_3b067 46 = .ok (.aload_n 0, 1) := by decide +kernel
theorem dJ2_getChar_3b067_47 : decode cJ2_getChar_3b067 47 = .ok (.iload_n 1, 1) := by decide +kernel
theorem dJ2_getChar_3b067_48 : decode cJ2_getChar_3b067 48 = .ok (.baload, 1) := by decide +kernel
theorem dJ2_getChar_3b067_49 : decode cJ2_getChar_3b067 49 = .ok (.sipush 255, 3) := by decide +kernel
theorem dJ2_getChar_3b067_52 : decode cJ2_getChar_3b067 52 = .ok (.iand, 1) := by decide +kernel
theorem dJ2_getChar_3b067_53 : decode cJ2_getChar_3b067 53 = .ok (.getstatic 63, 3) := by decide +kernel
theorem dJ2_getChar_3b067_56 : decode cJ2_getChar_3b067 56 = .ok (.ishl, 1) := by decide +kernel
theorem dJ2_getChar_3b067_57 : decode cJ2_getChar_3b067 57 = .ok (.ior, 1) := by decide +kernel
theorem dJ2_getChar_3b067_58 : decode cJ2_getChar_3b067 58 = .ok (.i2c, 1) := by decide +kernel
theorem dJ2_getChar_3b067_59 : decode cJ2_getChar_3b067 59 = .ok (.ireturn, 1) := by decide +kernel
theorem dJ2_length_9d52b_0 : decode cJ2_length_9d52b 0 = .ok (.aload_n 0, 1) := by decide +kernel
theorem dJ2_length_9d52b_1 : decode cJ2_length_9d52b 1 = .ok (.arraylength, 1) := by decide +kernel
theorem dJ2_length_9d52b_2 : decode cJ2_length_9d52b 2 = .ok (.iconst 1, 1) := by decide +kernel
theorem dJ2_length_9d52b_3 : decode cJ2_length_9d52b 3 = .ok (.ishr, 1) := by decide +kernel
theorem dJ2_length_9d52b_4 : decode cJ2_length_9d52b 4 = .ok (.ireturn, 1) := by decide +kernel
theorem dJ2_indexOf_4cfef_0 : decode cJ2_indexOf_4cfef 0 = .ok (.iload_n 2, 1) := by decide +kernel
theorem dJ2_indexOf_4cfef_1 : decode cJ2_indexOf_4cfef 1 = .ok (.iconst 0, 1) := by decide +kernel
theorem dJ2_indexOf_4cfef_2 : decode cJ2_indexOf_4cfef 2 = .ok (.invokestatic 224, 3) := by decide +kernel
theorem dJ2_indexOf_4cfef_5 : decode cJ2_indexOf_4cfef 5 = .ok (.istore_n 2, 1) := by decide +kernel
theorem dJ2_indexOf_4cfef_6 : decode cJ2_indexOf_4cfef 6 = .ok (.iload_n 3, 1) := by decide +kernel
theorem dJ2_indexOf_4cfef_7 : decode cJ2_indexOf_4cfef 7 = .ok (.aload_n 0, 1) := by decide +kernel
theorem dJ2_indexOf_4cfef_8 : decode cJ2_indexOf_4cfef 8 = .ok (.arraylength, 1) := by decide +kernel
theorem dJ2_indexOf_4cfef_9 : decode cJ2_indexOf_4cfef 9 = .ok (.iconst 1, 1) := by decide +kernel
theorem dJ2_indexOf_4cfef_10 : decode cJ2_indexOf_4cfef 10 = .ok (.ishr, 1) := by decide +kernel
theorem dJ2_indexOf_4cfef_11 : decode cJ2_indexOf_4cfef 11 = .ok (.invokestatic 183, 3) := by decide +kernel
theorem dJ2_indexOf_4cfef_14 : decode cJ2_indexOf_4cfef 14 = .ok (.istore_n 3, 1) := by decide +kernel
theorem dJ2_indexOf_4cfef_15 : decode cJ2_indexOf_4cfef 15 = .ok (.iload_n 2, 1) := by decide +kernel
theorem dJ2_indexOf_4cfef_16 : decode cJ2_indexOf_4cfef 16 = .ok (.iload_n 3, 1) := by decide +kernel
theorem dJ2_indexOf_4cfef_17 : decode cJ2_indexOf_4cfef 17 = .ok (.if_icmp .lt 5, 3) := by decide +kernel
theorem dJ2_indexOf_4cfef_20 : decode cJ2_indexOf_4cfef 20 = .ok (.iconst (-1), 1) := by decide +kernel
theorem dJ2_indexOf_4cfef_21 : decode cJ2_indexOf_4cfef 21 = .ok (.ireturn, 1) := by decide +kernel
theorem dJ2_indexOf_4cfef_22 : decode cJ2_indexOf_4cfef 22 = .ok (.iload_n 1, 1) := by decide +kernel
theorem dJ2_indexOf_4cfef_23 : decode cJ2_indexOf_4cfef 23 = .ok (.ldc 227, 2) := by decide +kernel
theorem dJ2_indexOf_4cfef_25 : decode cJ2_indexOf_4cfef 25 = .ok (.if_icmp .ge 11, 3) := by decide +kernel
theorem dJ2_indexOf_4cfef_28 : decode cJ2_indexOf_4cfef 28 = .ok (.aload_n 0, 1) := by decide +kernel
theorem dJ2_indexOf_4cfef_29 : decode cJ2_indexOf_4cfef 29 = .ok (.iload_n 1, 1) := by decide +kernel
theorem dJ2_indexOf_4cfef_30 : decode cJ2_indexOf_4cfef 30 = .ok (.iload_n 2, 1) := by decide +kernel
theorem dJ2_indexOf_4cfef_31 : decode cJ2_indexOf_4cfef 31 = .ok (.iload_n 3, 1) := by decide +kernel
theorem dJ2_indexOf_4cfef_32 : decode cJ2_indexOf_4cfef 32 = .ok (.invokestatic 228, 3) := by decide +kernel
theorem dJ2_indexOf_4cfef_35 : decode cJ2_indexOf_4cfef 35 = .ok (.ireturn, 1) := by decide +kernel
theorem dJ2_indexOf_4cfef_36 : decode cJ2_indexOf_4cfef 36 = .ok (.aload_n 0, 1) := by decide +kernel
theorem dJ2_indexOf_4cfef_37 : decode cJ2_indexOf_4cfef 37 = .ok (.iload_n 1, 1) := by decide +kernel
theorem dJ2_indexOf_4cfef_38 : decode cJ2_indexOf_4cfef 38 = .ok (.iload_n 2, 1) := by decide +kernel
theorem dJ2_indexOf_4cfef_39 : decode cJ2_indexOf_4cfef 39 = .ok (.iload_n 3, 1) := by decide +kernel
theorem dJ2_indexOf_4cfef_40 : decode cJ2_indexOf_4cfef 40 = .ok (.invokestatic 232, 3) := by decide +kernel
theorem dJ2_indexOf_4cfef_43 : decode cJ2_indexOf_4cfef 43 = .ok (.ireturn, 1) := by decide +kernel
theorem dJ2_indexOfChar_4cfef_0 : decode cJ2_indexOfChar_4cfef 0 = .ok (.iload_n 2, 1) := by decide +kernel
theorem dJ2_indexOfChar_4cfef_1 : decode cJ2_indexOfChar_4cfef 1 = .ok (.iload_n 3, 1) := by decide +kernel
theorem dJ2_indexOfChar_4cfef_2 : decode cJ2_indexOfChar_4cfef 2 = .ok (.aload_n 0, 1) := by decide +kernel
theorem dJ2_indexOfChar_4cfef_3 : decode cJ2_indexOfChar_4cfef 3 = .ok (.invokestatic 96, 3) := by decide +kernel
theorem dJ2_indexOfChar_4cfef_6 : decode cJ2_indexOfChar_4cfef 6 = .ok (.aload_n 0, 1) := by decide +kernel
theorem dJ2_indexOfChar_4cfef_7 : decode cJ2_indexOfChar_4cfef 7 = .ok (.iload_n 1, 1) := by decide +kernel
theorem dJ2_indexOfChar_4cfef_8 : decode cJ2_indexOfChar_4cfef 8 = .ok (.iload_n 2, 1) := by decide +kernel
theorem dJ2_indexOfChar_4cfef_9 : decode cJ2_indexOfChar_4cfef 9 = .ok (.iload_n 3, 1) := by decide +kernel
theorem dJ2_indexOfChar_4cfef_10 : decode cJ2_indexOfChar_4cfef 10 = .ok (.invokestatic 244, 3) := by decide +kernel
theorem dJ2_indexOfChar_4cfef_13 : decode cJ2_indexOfChar_4cfef 13 = .ok (.ireturn, 1) := by decide +kernel
theorem dJ2_indexOfCharUnsafe_4cfef_0 : decode cJ2_indexOfCharUnsafe_4cfef 0 = .ok (.iload_n 2, 1) := by decide +kernel
theorem dJ2_indexOfCharUnsafe_4cfef_1 : decode cJ2_indexOfCharUnsafe_4cfef 1 = .ok (.istore 4, 2) := by decide +kernel
theorem dJ2_indexOfCharUnsafe_4cfef_3 : decode cJ2_indexOfCharUnsafe_4cfef 3 = .ok (.iload 4, 2) := by decide +kernel
theorem dJ2_indexOfCharUnsafe_4cfef_5 : decode cJ2_indexOfCharUnsafe_4cfef 5 = .ok (.iload_n 3, 1) := by decide +kernel
theorem dJ2_indexOfCharUnsafe_4cfef_6 : decode cJ2_indexOfCharUnsafe_4cfef 6 = .ok (.if_icmp .ge 22, 3) := by decide +kernel
theorem dJ2_indexOfCharUnsafe_4cfef_9 : decode cJ2_indexOfCharUnsafe_4cfef 9 = .ok (.aload_n 0, 1) := by decide +kernel
theorem dJ2_indexOfCharUnsafe_4cfef_10 : decode cJ2_indexOfCharUnsafe_4cfef 10 = .ok (.iload 4, 2) := by decide +kernel
theorem dJ2_indexOfCharUnsafe_4cfef_12 : decode cJ2_indexOfCharUnsafe_4cfef 12 = .ok (.invokestatic 71, 3) := by decide +kernel
theorem dJ2_indexOfCharUnsafe_4cfef_15 : decode cJ2_indexOfCharUnsafe_4cfef 15 = .ok (.iload_n 1, 1) := by decide +kernel
theorem dJ2_indexOfCharUnsafe_4cfef_16 : decode cJ2_indexOfCharUnsafe_4cfef 16 = .ok (.if_icmp .ne 6, 3) := by decide +kernel
theorem dJ2_indexOfCharUnsafe_4cfef_19 : decode cJ2_indexOfCharUnsafe_4cfef 19 = .ok (.iload 4, 2) := by decide +kernel
theorem dJ2_indexOfCharUnsafe_4cfef_21 : decode cJ2_indexOfCharUnsafe_4cfef 21 = .ok (.ireturn, 1) := by decide +kernel
theorem dJ2_indexOfCharUnsafe_4cfef_22 : decode cJ2_indexOfCharUnsafe_4cfef 22 = .ok (.iinc 4 1, 3) := by decide +kernel
theorem dJ2_indexOfCharUnsafe_4cfef_25 : decode cJ2_indexOfCharUnsafe_4cfef 25 = .ok (.goto (-22), 3) := by decide +kernel
theorem dJ2_indexOfCharUnsafe_4cfef_28 : decode cJ2_indexOfCharUnsafe_4cfef 28 = .ok (.iconst (-1), 1) := by decide +kernel
theorem dJ2_indexOfCharUnsafe_4cfef_29 : decode cJ2_indexOfCharUnsafe_4cfef 29 = .ok (.ireturn, 1) := by decide +kernel
theorem dJ2_indexOfSupplementary_4cfef_0 : decode cJ2_indexOfSupplementary_4cfef 0 = .ok (.iload_n 1, 1) := by decide +kernel
theorem dJ2_indexOfSupplementary_4cfef_1 : decode cJ2_indexOfSupplementary_4cfef 1 = .ok (.invokestatic 164, 3) := by decide +kernel
theorem dJ2_indexOfSupplementary_4cfef_4 : decode cJ2_indexOfSupplementary_4cfef 4 = .ok (.ifCond .eq 65, 3) := by decide +kernel
theorem dJ2_indexOfSupplementary_4cfef_7 : decode cJ2_indexOfSupplementary_4cfef 7 = .ok (.iload_n 1, 1) := by decide +kernel
theorem dJ2_indexOfSupplementary_4cfef_8 : decode cJ2_indexOfSupplementary_4cfef 8 = .ok (.invokestatic 157, 3) := by decide +kernel
theorem dJ2_indexOfSupplementary_4cfef_11 : decode cJ2_indexOfSupplementary_4cfef 11 = .ok (.istore 4, 2) := by decide +kernel
theorem dJ2_indexOfSupplementary_4cfef_13 : decode cJ2_indexOfSupplementary_4cfef 13 = .ok (.iload_n 1, 1) := by decide +kernel
theorem dJ2_indexOfSupplementary_4cfef_14 : decode cJ2_indexOfSupplementary_4cfef 14 = .ok (.invokestatic 161, 3) := by decide +kernel
theorem dJ2_indexOfSupplementary_4cfef_17 : decode cJ2_indexOfSupplementary_4cfef 17 = .ok (.istore 5, 2) := by decide +kernel
theorem dJ2_indexOfSupplementary_4cfef_19 : decode cJ2_indexOfSupplementary_4cfef 19 = .ok (.iload_n 2, 1) := by decide +kernel
theorem dJ2_indexOfSupplementary_4cfef_20 : decode cJ2_indexOfSupplementary_4cfef 20 = .ok (.iload_n 3, 1) := by decide +kernel
theorem dJ2_indexOfSupplementary_4cfef_21 : decode cJ2_indexOfSupplementary_4cfef 21 = .ok (.aload_n 0, 1) := by decide +kernel
theorem dJ2_indexOfSupplementary_4cfef_22 : decode cJ2_indexOfSupplementary_4cfef 22 = .ok (.invokestatic 96, 3) := by decide +kernel
theorem dJ2_indexOfSupplementary_4cfef_25 : decode cJ2_indexOfSupplementary_4cfef 25 = .ok (.iload_n 2, 1) := by decide +kernel
theorem dJ2_indexOfSupplementary_4cfef_26 : decode cJ2_indexOfSupplementary_4cfef 26 = .ok (.istore 6, 2) := by decide +kernel
theorem dJ2_indexOfSupplementary_4cfef_28 : decode cJ2_indexOfSupplementary_4cfef 28 = .ok (.iload 6, 2) := by decide +kernel
theorem dJ2_indexOfSupplementary_4cfef_30 : decode cJ2_indexOfSupplementary_4cfef 30 = .ok (.iload_n 3, 1) := by decide +kernel
theorem dJ2_indexOfSupplementary_4cfef_31 : decode cJ2_indexOfSupplementary_4cfef 31 = .ok (.iconst 1, 1) := by decide +kernel
theorem dJ2_indexOfSupplementary_4cfef_32 : decode cJ2_indexOfSupplementary_4cfef 32 = .ok (.isub, 1) := by decide +kernel
theorem dJ2_indexOfSupplementary_4cfef_33 : decode cJ2_indexOfSupplementary_4cfef 33 = .ok (.if_icmp .ge 36, 3) := by decide +kernel
theorem dJ2_indexOfSupplementary_4cfef_36 : decode cJ2_indexOfSupplementary_4cfef 36 = .ok (.aload_n 0, 1) := by decide +kernel
theorem dJ2_indexOfSupplementary_4cfef_37 : decode cJ2_indexOfSupplementary_4cfef 37 = .ok (.iload 6, 2) := by decide +kernel
theorem dJ2_indexOfSupplementary_4cfef_39 : decode cJ2_indexOfSupplementary_4cfef 39 = .ok (.invokestatic 71, 3) := by decide +kernel
theorem dJ2_indexOfSupplementary_4cfef_42 : decode cJ2_indexOfSupplementary_4cfef 42 = .ok (.iload 4, 2) := by decide +kernel
theorem dJ2_indexOfSupplementary_4cfef_44 : decode cJ2_indexOfSupplementary_4cfef 44 = .ok (.if_icmp .ne 19, 3) := by decide +kernel
theorem dJ2_indexOfSupplementary_4cfef_47 : decode cJ2_indexOfSupplementary_4cfef 47 = .ok (.aload_n 0, 1) := by decide +kernel
theorem dJ2_indexOfSupplementary_4cfef_48 : decode cJ2_indexOfSupplementary_4cfef 48 = .ok (.iload 6, 2) := by decide +kernel
theorem dJ2_indexOfSupplementary_4cfef_50 : decode cJ2_indexOfSupplementary_4cfef 50 = .ok (.iconst 1, 1) := by decide +kernel
theorem dJ2_indexOfSupplementary_4cfef_51 : decode cJ2_indexOfSupplementary_4cfef 51 = .ok (.iadd, 1) := by decide +kernel
theorem dJ2_indexOfSupplementary_4cfef_52 : decode cJ2_indexOfSupplementary_4cfef 52 = .ok (.invokestatic 71, 3) := by decide +kernel
theorem dJ2_indexOfSupplementary_4cfef_55 : decode cJ2_indexOfSupplementary_4cfef 55 = .ok (.iload 5, 2) := by decide +kernel
theorem dJ2_indexOfSupplementary_4cfef_57 : decode cJ2_indexOfSupplementary_4cfef 57 = .ok (.if_icmp .ne 6, 3) := by decide +kernel
theorem dJ2_indexOfSupplementary_4cfef_60 : decode cJ2_indexOfSupplementary_4cfef 60 = .ok (.iload 6, 2) := by decide +kernel
theorem dJ2_indexOfSupplementary_4cfef_62 : decode cJ2_indexOfSupplementary_4cfef 62 = .ok (.ireturn, 1) := by decide +kernel
theorem dJ2_indexOfSupplementary_4cfef_63 : decode cJ2_indexOfSupplementary_4cfef 63 = .ok (.iinc 6 1, 3) := by decide +kernel
theorem dJ2_indexOfSupplementary_4cfef_66 : decode cJ2_indexOfSupplementary_4cfef 66 = .ok (.goto (-38), 3) := by decide +kernel
theorem dJ2_indexOfSupplementary_4cfef_69 : decode cJ2_indexOfSupplementary_4cfef 69 = .ok (.iconst (-1), 1) := by decide +kernel
theorem dJ2_indexOfSupplementary_4cfef_70 : decode cJ2_indexOfSupplementary_4cfef 70 = .ok (.ireturn, 1) := by decide +kernel
theorem dJ2_charAt_3b067_0 : decode cJ2_charAt_3b067 0 = .ok (.iload_n 1, 1) := by decide +kernel
theorem dJ2_charAt_3b067_1 : decode cJ2_charAt_3b067 1 = .ok (.aload_n 0, 1) := by decide +kernel
theorem dJ2_charAt_3b067_2 : decode cJ2_charAt_3b067 2 = .ok (.invokestatic 67, 3) := by decide +kernel
theorem dJ2_charAt_3b067_5 : decode cJ2_charAt_3b067 5 = .ok (.aload_n 0, 1) := by decide +kernel
theorem dJ2_charAt_3b067_6 : decode cJ2_charAt_3b067 6 = .ok (.iload_n 1, 1) := by decide +kernel
theorem dJ2_charAt_3b067_7 : decode cJ2_charAt_3b067 7 = .ok (.invokestatic 71, 3) := by decide +kernel
theorem dJ2_charAt_3b067_10 : decode cJ2_charAt_3b067 10 = .ok (.ireturn, 1) := by decide +kernel
theorem dJ2_checkIndex_2214a_0 : decode cJ2_checkIndex_2214a 0 = .ok (.iload_n 0, 1) := by decide +kernel
theorem dJ2_checkIndex_2214a_1 : decode cJ2_checkIndex_2214a 1 = .ok (.aload_n 1, 1) := by decide +kernel
theorem dJ2_checkIndex_2214a_2 : decode cJ2_checkIndex_2214a 2 = .ok (.invokestatic 48, 3) := by decide +kernel
theorem dJ2_checkIndex_2214a_5 : decode cJ2_checkIndex_2214a 5 = .ok (.invokestatic 414, 3) := by decide +kernel
theorem dJ2_checkIndex_2214a_8 : decode cJ2_checkIndex_2214a 8 = .ok (.return_, 1) := by decide +kernel
theorem dJ2_checkBoundsBeginEnd_d044e_0 : decode cJ2_checkBoundsBeginEnd_d044e 0 = .ok (.iload_n 0, 1) := by decide +kernel
theorem dJ2_checkBoundsBeginEnd_d044e_1 : decode cJ2_checkBoundsBeginEnd_d044e 1 = .ok (.iload_n 1, 1) := by decide +kernel
theorem dJ2_checkBoundsBeginEnd_d044e_2 : decode cJ2_checkBoundsBeginEnd_d044e 2 = .ok (.aload_n 2, 1) := by decide +kernel
theorem dJ2_checkBoundsBeginEnd_d044e_3 : decode cJ2_checkBoundsBeginEnd_d044e 3 = .ok (.invokestatic 48, 3) := by decide +kernel
theorem dJ2_checkBoundsBeginEnd_d044e_6 : decode cJ2_checkBoundsBeginEnd_d044e 6 = .ok (.invokestatic 241, 3) := by decide +kernel
theorem dJ2_checkBoundsBeginEnd_d044e_9 : decode cJ2_checkBoundsBeginEnd_d044e 9 = .ok (.return_, 1) := by decide +kernel
theorem dJ3_checkIndex_8e157_0 : decode cJ3_checkIndex_8e157 0 = .ok (.iload_n 0, 1) := by decide +kernel
theorem dJ3_checkIndex_8e157_1 : decode cJ3_checkIndex_8e157 1 = .ok (.ifCond .lt 8, 3) := by decide +kernel
theorem dJ3_checkIndex_8e157_4 : decode cJ3_checkIndex_8e157 4 = .ok (.iload_n 0, 1) := by decide +kernel
theorem dJ3_checkIndex_8e157_5 : decode cJ3_checkIndex_8e157 5 = .ok (.iload_n 1, 1) := by decide +kernel
theorem dJ3_checkIndex_8e157_6 : decode cJ3_checkIndex_8e157 6 = .ok (.if_icmp .lt 10, 3) := by decide +kernel
theorem dJ3_checkIndex_8e157_9 : decode cJ3_checkIndex_8e157 9 = .ok (.aload_n 2, 1) := by decide +kernel
theorem dJ3_checkIndex_8e157_10 : decode cJ3_checkIndex_8e157 10 = .ok (.iload_n 0, 1) := by decide +kernel
theorem dJ3_checkIndex_8e157_11 : decode cJ3_checkIndex_8e157 11 = .ok (.iload_n 1, 1) := by decide +kernel
theorem dJ3_checkIndex_8e157_12 : decode cJ3_checkIndex_8e157 12 = .ok (.invokestatic 95, 3) := by decide +kernel
theorem dJ3_checkIndex_8e157_15 : decode cJ3_checkIndex_8e157 15 = .ok (.athrow, 1) := by decide +kernel
theorem dJ3_checkIndex_8e157_16 : decode cJ3_checkIndex_8e157 16 = .ok (.iload_n 0, 1) := by decide +kernel
theorem dJ3_checkIndex_8e157_17 : decode cJ3_checkIndex_8e157 17 = .ok (.ireturn, 1) := by decide +kernel
theorem dJ3_checkFromToIndex_8c36e_0 : decode cJ3_checkFromToIndex_8c36e 0 = .ok (.iload_n 0, 1) := by decide +kernel
theorem dJ3_checkFromToIndex_8c36e_1 : decode cJ3_checkFromToIndex_8c36e 1 = .ok (.ifCond .lt 13, 3) := by decide +kernel
theorem dJ3_checkFromToIndex_8c36e_4 : decode cJ3_checkFromToIndex_8c36e 4 = .ok (.iload_n 0, 1) := by decide +kernel
theorem dJ3_checkFromToIndex_8c36e_5 : decode cJ3_checkFromToIndex_8c36e 5 = .ok (.iload_n 1, 1) := by decide +kernel
theorem dJ3_checkFromToIndex_8c36e_6 : decode cJ3_checkFromToIndex_8c36e 6 = .ok (.if_icmp .gt 8, 3) := by decide +kernel
theorem dJ3_checkFromToIndex_8c36e_9 : decode cJ3_checkFromToIndex_8c36e 9 = .ok (.iload_n 1, 1) := by decide +kernel
theorem dJ3_checkFromToIndex_8c36e_10 : decode cJ3_checkFromToIndex_8c36e 10 = .ok (.iload_n 2, 1) := by decide +kernel
theorem dJ3_checkFromToIndex_8c36e_11 : decode cJ3_checkFromToIndex_8c36e 11 = .ok (.if_icmp .le 11, 3) := by decide +kernel
theorem dJ3_checkFromToIndex_8c36e_14 : decode cJ3_checkFromToIndex_8c36e 14 = .ok (.aload_n 3, 1) := by decide +kernel
theorem dJ3_checkFromToIndex_8c36e_15 : decode cJ3_checkFromToIndex_8c36e 15 = .ok (.iload_n 0, 1) := by decide +kernel
theorem dJ3_checkFromToIndex_8c36e_16 : decode cJ3_checkFromToIndex_8c36e 16 = .ok (.iload_n 1, 1) := by decide +kernel
theorem dJ3_checkFromToIndex_8c36e_17 : decode cJ3_checkFromToIndex_8c36e 17 = .ok (.iload_n 2, 1) := by decide +kernel
theorem dJ3_checkFromToIndex_8c36e_18 : decode cJ3_checkFromToIndex_8c36e 18 = .ok (.invokestatic 99, 3) := by decide +kernel
theorem dJ3_checkFromToIndex_8c36e_21 : decode cJ3_checkFromToIndex_8c36e 21 = .ok (.athrow, 1) := by decide +kernel
theorem dJ3_checkFromToIndex_8c36e_22 : decode cJ3_checkFromToIndex_8c36e 22 = .ok (.iload_n 0, 1) := by decide +kernel
theorem dJ3_checkFromToIndex_8c36e_23 : decode cJ3_checkFromToIndex_8c36e 23 = .ok (.ireturn, 1) := by decide +kernel
theorem dL_buoy_0 : decode cL_buoy 0 = .ok (.aload_n 3, 1) := by decide +kernel
theorem dL_buoy_1 : decode cL_buoy 1 = .ok (.iconst 0, 1) := by decide +kernel
theorem dL_buoy_2 : decode cL_buoy 2 = .ok (.aload_n 0, 1) := by decide +kernel
theorem dL_buoy_3 : decode cL_buoy 3 = .ok (.iload_n 1, 1) := by decide +kernel
theorem dL_buoy_4 : decode cL_buoy 4 = .ok (.iload_n 2, 1) := by decide +kernel
theorem dL_buoy_5 : decode cL_buoy 5 = .ok (.invokevirtual 7, 3) := by decide +kernel
theorem dL_buoy_8 : decode cL_buoy 8 = .ok (.i2l, 1) := by decide +kernel
theorem dL_buoy_9 : decode cL_buoy 9 = .ok (.lastore, 1) := by decide +kernel
theorem dL_buoy_10 : decode cL_buoy 10 = .ok (.goto 7, 3) := by decide +kernel
theorem dL_buoy_13 : decode cL_buoy 13 = .ok (.astore 4, 2) := by decide +kernel
theorem dL_buoy_15 : decode cL_buoy 15 = .ok (.iconst 1, 1) := by decide +kernel
theorem dL_buoy_16 : decode cL_buoy 16 = .ok (.ireturn, 1) := by decide +kernel
theorem dL_buoy_17 : decode cL_buoy 17 = .ok (.iconst 0, 1) := by decide +kernel
theorem dL_buoy_18 : decode cL_buoy 18 = .ok (.ireturn, 1) := by decide +kernel
theorem dL_law_0 : decode cL_law 0 = .ok (.new 8, 3) := by decide +kernel
theorem dL_law_3 : decode cL_law 3 = .ok (.dup, 1) := by decide +kernel
theorem dL_law_4 : decode cL_law 4 = .ok (.invokespecial 15, 3) := by decide +kernel
theorem dL_law_7 : decode cL_law 7 = .ok (.astore_n 1, 1) := by decide +kernel
theorem dL_law_8 : decode cL_law 8 = .ok (.new 16, 3) := by decide +kernel
theorem dL_law_11 : decode cL_law 11 = .ok (.dup, 1) := by decide +kernel
theorem dL_law_12 : decode cL_law 12 = .ok (.invokespecial 18, 3) := by decide +kernel
theorem dL_law_15 : decode cL_law 15 = .ok (.astore_n 2, 1) := by decide +kernel
theorem dL_law_16 : decode cL_law 16 = .ok (.iconst 1, 1) := by decide +kernel
theorem dL_law_17 : decode cL_law 17 = .ok (.newarray .long, 2) := by decide +kernel
theorem dL_law_19 : decode cL_law 19 = .ok (.astore_n 3, 1) := by decide +kernel
theorem dL_law_20 : decode cL_law 20 = .ok (.iconst 0, 1) := by decide +kernel
theorem dL_law_21 : decode cL_law 21 = .ok (.istore 4, 2) := by decide +kernel
theorem dL_law_23 : decode cL_law 23 = .ok (.iload 4, 2) := by decide +kernel
theorem dL_law_25 : decode cL_law 25 = .ok (.aload_n 0, 1) := by decide +kernel
theorem dL_law_26 : decode cL_law 26 = .ok (.arraylength, 1) := by decide +kernel
theorem dL_law_27 : decode cL_law 27 = .ok (.bipush 6, 2) := by decide +kernel
theorem dL_law_29 : decode cL_law 29 = .ok (.isub, 1) := by decide +kernel
theorem dL_law_30 : decode cL_law 30 = .ok (.if_icmp .gt 1874, 3) := by decide +kernel
theorem dL_law_33 : decode cL_law 33 = .ok (.aload_n 0, 1) := by decide +kernel
theorem dL_law_34 : decode cL_law 34 = .ok (.iload 4, 2) := by decide +kernel
theorem dL_law_36 : decode cL_law 36 = .ok (.iaload, 1) := by decide +kernel
theorem dL_law_37 : decode cL_law 37 = .ok (.bipush 63, 2) := by decide +kernel
theorem dL_law_39 : decode cL_law 39 = .ok (.iand, 1) := by decide +kernel
theorem dL_law_40 : decode cL_law 40 = .ok (.tableswitch 1858 0 46 #[204, 277, 302, 327, 352, 377, 417, 454, 479, 516, 553, 602, 639, 676, 713, 738, 807, 820, 857, 906, 943, 968, 993, 1006, 1043, 1080, 1129, 1166, 1239, 1288, 1337, 1398, 1435, 1460, 1497, 1546, 1571, 1608, 1633, 1670, 1695, 1732, 1769, 1794, 1807, 1820, 1833], 204) := by decide +kernel
theorem dL_law_244 : decode cL_law 244 = .ok (.aload_n 1, 1) := by decide +kernel
theorem dL_law_245 : decode cL_law 245 = .ok (.aload_n 0, 1) := by decide +kernel
theorem dL_law_246 : decode cL_law 246 = .ok (.iload 4, 2) := by decide +kernel
theorem dL_law_248 : decode cL_law 248 = .ok (.iconst 1, 1) := by decide +kernel
theorem dL_law_249 : decode cL_law 249 = .ok (.iadd, 1) := by decide +kernel
theorem dL_law_250 : decode cL_law 250 = .ok (.iaload, 1) := by decide +kernel
theorem dL_law_251 : decode cL_law 251 = .ok (.aload_n 0, 1) := by decide +kernel
theorem dL_law_252 : decode cL_law 252 = .ok (.iload 4, 2) := by decide +kernel
theorem dL_law_254 : decode cL_law 254 = .ok (.iconst 2, 1) := by decide +kernel
theorem dL_law_255 : decode cL_law 255 = .ok (.iadd, 1) := by decide +kernel
theorem dL_law_256 : decode cL_law 256 = .ok (.iaload, 1) := by decide +kernel
theorem dL_law_257 : decode cL_law 257 = .ok (.aload_n 0, 1) := by decide +kernel
theorem dL_law_258 : decode cL_law 258 = .ok (.iload 4, 2) := by decide +kernel
theorem dL_law_260 : decode cL_law 260 = .ok (.iconst 3, 1) := by decide +kernel
theorem dL_law_261 : decode cL_law 261 = .ok (.iadd, 1) := by decide +kernel
theorem dL_law_262 : decode cL_law 262 = .ok (.iaload, 1) := by decide +kernel
theorem dL_law_263 : decode cL_law 263 = .ok (.aload_n 0, 1) := by decide +kernel
theorem dL_law_264 : decode cL_law 264 = .ok (.iload 4, 2) := by decide +kernel
theorem dL_law_266 : decode cL_law 266 = .ok (.iconst 4, 1) := by decide +kernel
theorem dL_law_267 : decode cL_law 267 = .ok (.iadd, 1) := by decide +kernel
theorem dL_law_268 : decode cL_law 268 = .ok (.iaload, 1) := by decide +kernel
theorem dL_law_269 : decode cL_law 269 = .ok (.aload_n 0, 1) := by decide +kernel
theorem dL_law_270 : decode cL_law 270 = .ok (.iload 4, 2) := by decide +kernel
theorem dL_law_272 : decode cL_law 272 = .ok (.iconst 5, 1) := by decide +kernel
theorem dL_law_273 : decode cL_law 273 = .ok (.iadd, 1) := by decide +kernel
theorem dL_law_274 : decode cL_law 274 = .ok (.iaload, 1) := by decide +kernel
theorem dL_law_275 : decode cL_law 275 = .ok (.invokevirtual 19, 3) := by decide +kernel
theorem dL_law_278 : decode cL_law 278 = .ok (.pop, 1) := by decide +kernel
theorem dL_law_279 : decode cL_law 279 = .ok (.aload_n 2, 1) := by decide +kernel
theorem dL_law_280 : decode cL_law 280 = .ok (.aload_n 0, 1) := by decide +kernel
theorem dL_law_281 : decode cL_law 281 = .ok (.iload 4, 2) := by decide +kernel
theorem dL_law_283 : decode cL_law 283 = .ok (.iconst 1, 1) := by decide +kernel
theorem dL_law_284 : decode cL_law 284 = .ok (.iadd, 1) := by decide +kernel
theorem dL_law_285 : decode cL_law 285 = .ok (.iaload, 1) := by decide +kernel
theorem dL_law_286 : decode cL_law 286 = .ok (.aload_n 0, 1) := by decide +kernel
theorem dL_law_287 : decode cL_law 287 = .ok (.iload 4, 2) := by decide +kernel
theorem dL_law_289 : decode cL_law 289 = .ok (.iconst 2, 1) := by decide +kernel
theorem dL_law_290 : decode cL_law 290 = .ok (.iadd, 1) := by decide +kernel
theorem dL_law_291 : decode cL_law 291 = .ok (.iaload, 1) := by decide +kernel
theorem dL_law_292 : decode cL_law 292 = .ok (.aload_n 0, 1) := by decide +kernel
theorem dL_law_293 : decode cL_law 293 = .ok (.iload 4, 2) := by decide +kernel
theorem dL_law_295 : decode cL_law 295 = .ok (.iconst 3, 1) := by decide +kernel
theorem dL_law_296 : decode cL_law 296 = .ok (.iadd, 1) := by decide +kernel
theorem dL_law_297 : decode cL_law 297 = .ok (.iaload, 1) := by decide +kernel
theorem dL_law_298 : decode cL_law 298 = .ok (.aload_n 0, 1) := by decide +kernel
theorem dL_law_299 : decode cL_law 299 = .ok (.iload 4, 2) := by decide +kernel
theorem dL_law_301 : decode cL_law 301 = .ok (.iconst 4, 1) := by decide +kernel
theorem dL_law_302 : decode cL_law 302 = .ok (.iadd, 1) := by decide +kernel
theorem dL_law_303 : decode cL_law 303 = .ok (.iaload, 1) := by decide +kernel
theorem dL_law_304 : decode cL_law 304 = .ok (.aload_n 0, 1) := by decide +kernel
theorem dL_law_305 : decode cL_law 305 = .ok (.iload 4, 2) := by decide +kernel
theorem dL_law_307 : decode cL_law 307 = .ok (.iconst 5, 1) := by decide +kernel
theorem dL_law_308 : decode cL_law 308 = .ok (.iadd, 1) := by decide +kernel
theorem dL_law_309 : decode cL_law 309 = .ok (.iaload, 1) := by decide +kernel
theorem dL_law_310 : decode cL_law 310 = .ok (.invokevirtual 23, 3) := by decide +kernel
theorem dL_law_313 : decode cL_law 313 = .ok (.pop, 1) := by decide +kernel
theorem dL_law_314 : decode cL_law 314 = .ok (.goto 1584, 3) := by decide +kernel
theorem dL_law_317 : decode cL_law 317 = .ok (.aload_n 1, 1) := by decide +kernel
theorem dL_law_318 : decode cL_law 318 = .ok (.aload_n 0, 1) := by decide +kernel
theorem dL_law_319 : decode cL_law 319 = .ok (.iload 4, 2) := by decide +kernel
theorem dL_law_321 : decode cL_law 321 = .ok (.iconst 1, 1) := by decide +kernel
theorem dL_law_322 : decode cL_law 322 = .ok (.iadd, 1) := by decide +kernel
theorem dL_law_323 : decode cL_law 323 = .ok (.iaload, 1) := by decide +kernel
theorem dL_law_324 : decode cL_law 324 = .ok (.invokevirtual 24, 3) := by decide +kernel
theorem dL_law_327 : decode cL_law 327 = .ok (.pop, 1) := by decide +kernel
theorem dL_law_328 : decode cL_law 328 = .ok (.aload_n 2, 1) := by decide +kernel
theorem dL_law_329 : decode cL_law 329 = .ok (.aload_n 0, 1) := by decide +kernel
theorem dL_law_330 : decode cL_law 330 = .ok (.iload 4, 2) := by decide +kernel
theorem dL_law_332 : decode cL_law 332 = .ok (.iconst 1, 1) := by decide +kernel
theorem dL_law_333 : decode cL_law 333 = .ok (.iadd, 1) := by decide +kernel
theorem dL_law_334 : decode cL_law 334 = .ok (.iaload, 1) := by decide +kernel
theorem dL_law_335 : decode cL_law 335 = .ok (.invokevirtual 28, 3) := by decide +kernel
theorem dL_law_338 : decode cL_law 338 = .ok (.pop, 1) := by decide +kernel
theorem dL_law_339 : decode cL_law 339 = .ok (.goto 1559, 3) := by decide +kernel
theorem dL_law_342 : decode cL_law 342 = .ok (.aload_n 1, 1) := by decide +kernel
theorem dL_law_343 : decode cL_law 343 = .ok (.aload_n 0, 1) := by decide +kernel
theorem dL_law_344 : decode cL_law 344 = .ok (.iload 4, 2) := by decide +kernel
theorem dL_law_346 : decode cL_law 346 = .ok (.iconst 1, 1) := by decide +kernel
theorem dL_law_347 : decode cL_law 347 = .ok (.iadd, 1) := by decide +kernel
theorem dL_law_348 : decode cL_law 348 = .ok (.iaload, 1) := by decide +kernel
theorem dL_law_349 : decode cL_law 349 = .ok (.invokevirtual 29, 3) := by decide +kernel
theorem dL_law_352 : decode cL_law 352 = .ok (.pop, 1) := by decide +kernel
theorem dL_law_353 : decode cL_law 353 = .ok (.aload_n 2, 1) := by decide +kernel
theorem dL_law_354 : decode cL_law 354 = .ok (.aload_n 0, 1) := by decide +kernel
theorem dL_law_355 : decode cL_law 355 = .ok (.iload 4, 2) := by decide +kernel
theorem dL_law_357 : decode cL_law 357 = .ok (.iconst 1, 1) := by decide +kernel
theorem dL_law_358 : decode cL_law 358 = .ok (.iadd, 1) := by decide +kernel
theorem dL_law_359 : decode cL_law 359 = .ok (.iaload, 1) := by decide +kernel
theorem dL_law_360 : decode cL_law 360 = .ok (.invokevirtual 33, 3) := by decide +kernel
theorem dL_law_363 : decode cL_law 363 = .ok (.pop, 1) := by decide +kernel
theorem dL_law_364 : decode cL_law 364 = .ok (.goto 1534, 3) := by decide +kernel
theorem dL_law_367 : decode cL_law 367 = .ok (.aload_n 1, 1) := by decide +kernel
theorem dL_law_368 : decode cL_law 368 = .ok (.aload_n 0, 1) := by decide +kernel
theorem dL_law_369 : decode cL_law 369 = .ok (.iload 4, 2) := by decide +kernel
theorem dL_law_371 : decode cL_law 371 = .ok (.iconst 1, 1) := by decide +kernel
theorem dL_law_372 : decode cL_law 372 = .ok (.iadd, 1) := by decide +kernel
theorem dL_law_373 : decode cL_law 373 = .ok (.iaload, 1) := by decide +kernel
theorem dL_law_374 : decode cL_law 374 = .ok (.invokevirtual 34, 3) := by decide +kernel
theorem dL_law_377 : decode cL_law 377 = .ok (.pop, 1) := by decide +kernel
theorem dL_law_378 : decode cL_law 378 = .ok (.aload_n 2, 1) := by decide +kernel
theorem dL_law_379 : decode cL_law 379 = .ok (.aload_n 0, 1) := by decide +kernel
theorem dL_law_380 : decode cL_law 380 = .ok (.iload 4, 2) := by decide +kernel
theorem dL_law_382 : decode cL_law 382 = .ok (.iconst 1, 1) := by decide +kernel
theorem dL_law_383 : decode cL_law 383 = .ok (.iadd, 1) := by decide +kernel
theorem dL_law_384 : decode cL_law 384 = .ok (.iaload, 1) := by decide +kernel
theorem dL_law_385 : decode cL_law 385 = .ok (.invokevirtual 37, 3) := by decide +kernel
theorem dL_law_388 : decode cL_law 388 = .ok (.pop, 1) := by decide +kernel
theorem dL_law_389 : decode cL_law 389 = .ok (.goto 1509, 3) := by decide +kernel
theorem dL_law_392 : decode cL_law 392 = .ok (.aload_n 1, 1) := by decide +kernel
theorem dL_law_393 : decode cL_law 393 = .ok (.aload_n 0, 1) := by decide +kernel
theorem dL_law_394 : decode cL_law 394 = .ok (.iload 4, 2) := by decide +kernel
theorem dL_law_396 : decode cL_law 396 = .ok (.iconst 1, 1) := by decide +kernel
theorem dL_law_397 : decode cL_law 397 = .ok (.iadd, 1) := by decide +kernel
theorem dL_law_398 : decode cL_law 398 = .ok (.iaload, 1) := by decide +kernel
theorem dL_law_399 : decode cL_law 399 = .ok (.invokevirtual 38, 3) := by decide +kernel
theorem dL_law_402 : decode cL_law 402 = .ok (.pop, 1) := by decide +kernel
theorem dL_law_403 : decode cL_law 403 = .ok (.aload_n 2, 1) := by decide +kernel
theorem dL_law_404 : decode cL_law 404 = .ok (.aload_n 0, 1) := by decide +kernel
theorem dL_law_405 : decode cL_law 405 = .ok (.iload 4, 2) := by decide +kernel
theorem dL_law_407 : decode cL_law 407 = .ok (.iconst 1, 1) := by decide +kernel
theorem dL_law_408 : decode cL_law 408 = .ok (.iadd, 1) := by decide +kernel
theorem dL_law_409 : decode cL_law 409 = .ok (.iaload, 1) := by decide +kernel
theorem dL_law_410 : decode cL_law 410 = .ok (.invokevirtual 41, 3) := by decide +kernel
theorem dL_law_413 : decode cL_law 413 = .ok (.pop, 1) := by decide +kernel
theorem dL_law_414 : decode cL_law 414 = .ok (.goto 1484, 3) := by decide +kernel
theorem dL_law_417 : decode cL_law 417 = .ok (.aload_n 1, 1) := by decide +kernel
theorem dL_law_418 : decode cL_law 418 = .ok (.aload_n 0, 1) := by decide +kernel
theorem dL_law_419 : decode cL_law 419 = .ok (.iload 4, 2) := by decide +kernel
theorem dL_law_421 : decode cL_law 421 = .ok (.iconst 1, 1) := by decide +kernel
theorem dL_law_422 : decode cL_law 422 = .ok (.iadd, 1) := by decide +kernel
theorem dL_law_423 : decode cL_law 423 = .ok (.iaload, 1) := by decide +kernel
theorem dL_law_424 : decode cL_law 424 = .ok (.aload_n 0, 1) := by decide +kernel
theorem dL_law_425 : decode cL_law 425 = .ok (.iload 4, 2) := by decide +kernel
theorem dL_law_427 : decode cL_law 427 = .ok (.iconst 2, 1) := by decide +kernel
theorem dL_law_428 : decode cL_law 428 = .ok (.iadd, 1) := by decide +kernel
theorem dL_law_429 : decode cL_law 429 = .ok (.iaload, 1) := by decide +kernel
theorem dL_law_430 : decode cL_law 430 = .ok (.aload_n 3, 1) := by decide +kernel
theorem dL_law_431 : decode cL_law 431 = .ok (.invokestatic 42, 3) := by decide +kernel
theorem dL_law_434 : decode cL_law 434 = .ok (.istore 5, 2) := by decide +kernel
theorem dL_law_436 : decode cL_law 436 = .ok (.aload_n 2, 1) := by decide +kernel
theorem dL_law_437 : decode cL_law 437 = .ok (.aload_n 0, 1) := by decide +kernel
theorem dL_law_438 : decode cL_law 438 = .ok (.iload 4, 2) := by decide +kernel
theorem dL_law_440 : decode cL_law 440 = .ok (.iconst 1, 1) := by decide +kernel
theorem dL_law_441 : decode cL_law 441 = .ok (.iadd, 1) := by decide +kernel
theorem dL_law_442 : decode cL_law 442 = .ok (.iaload, 1) := by decide +kernel
theorem dL_law_443 : decode cL_law 443 = .ok (.aload_n 0, 1) := by decide +kernel
theorem dL_law_444 : decode cL_law 444 = .ok (.iload 4, 2) := by decide +kernel
theorem dL_law_446 : decode cL_law 446 = .ok (.iconst 2, 1) := by decide +kernel
theorem dL_law_447 : decode cL_law 447 = .ok (.iadd, 1) := by decide +kernel
theorem dL_law_448 : decode cL_law 448 = .ok (.iaload, 1) := by decide +kernel
theorem dL_law_449 : decode cL_law 449 = .ok (.invokevirtual 47, 3) := by decide +kernel
theorem dL_law_452 : decode cL_law 452 = .ok (.istore 6, 2) := by decide +kernel
theorem dL_law_454 : decode cL_law 454 = .ok (.goto 1444, 3) := by decide +kernel
theorem dL_law_457 : decode cL_law 457 = .ok (.aload_n 1, 1) := by decide +kernel
theorem dL_law_458 : decode cL_law 458 = .ok (.aload_n 0, 1) := by decide +kernel
theorem dL_law_459 : decode cL_law 459 = .ok (.iload 4, 2) := by decide +kernel
theorem dL_law_461 : decode cL_law 461 = .ok (.iconst 1, 1) := by decide +kernel
theorem dL_law_462 : decode cL_law 462 = .ok (.iadd, 1) := by decide +kernel
theorem dL_law_463 : decode cL_law 463 = .ok (.iaload, 1) := by decide +kernel
theorem dL_law_464 : decode cL_law 464 = .ok (.aload_n 0, 1) := by decide +kernel
theorem dL_law_465 : decode cL_law 465 = .ok (.iload 4, 2) := by decide +kernel
theorem dL_law_467 : decode cL_law 467 = .ok (.iconst 2, 1) := by decide +kernel
theorem dL_law_468 : decode cL_law 468 = .ok (.iadd, 1) := by decide +kernel
theorem dL_law_469 : decode cL_law 469 = .ok (.iaload, 1) := by decide +kernel
theorem dL_law_470 : decode cL_law 470 = .ok (.invokevirtual 48, 3) := by decide +kernel
theorem dL_law_473 : decode cL_law 473 = .ok (.pop, 1) := by decide +kernel
theorem dL_law_474 : decode cL_law 474 = .ok (.aload_n 2, 1) := by decide +kernel
theorem dL_law_475 : decode cL_law 475 = .ok (.aload_n 0, 1) := by decide +kernel
theorem dL_law_476 : decode cL_law 476 = .ok (.iload 4, 2) := by decide +kernel
theorem dL_law_478 : decode cL_law 478 = .ok (.iconst 1, 1) := by decide +kernel
theorem dL_law_479 : decode cL_law 479 = .ok (.iadd, 1) := by decide +kernel
theorem dL_law_480 : decode cL_law 480 = .ok (.iaload, 1) := by decide +kernel
theorem dL_law_481 : decode cL_law 481 = .ok (.aload_n 0, 1) := by decide +kernel
theorem dL_law_482 : decode cL_law 482 = .ok (.iload 4, 2) := by decide +kernel
theorem dL_law_484 : decode cL_law 484 = .ok (.iconst 2, 1) := by decide +kernel
theorem dL_law_485 : decode cL_law 485 = .ok (.iadd, 1) := by decide +kernel
theorem dL_law_486 : decode cL_law 486 = .ok (.iaload, 1) := by decide +kernel
theorem dL_law_487 : decode cL_law 487 = .ok (.invokevirtual 51, 3) := by decide +kernel
theorem dL_law_490 : decode cL_law 490 = .ok (.pop, 1) := by decide +kernel
theorem dL_law_491 : decode cL_law 491 = .ok (.goto 1407, 3) := by decide +kernel
theorem dL_law_494 : decode cL_law 494 = .ok (.aload_n 1, 1) := by decide +kernel
theorem dL_law_495 : decode cL_law 495 = .ok (.aload_n 0, 1) := by decide +kernel
theorem dL_law_496 : decode cL_law 496 = .ok (.iload 4, 2) := by decide +kernel
theorem dL_law_498 : decode cL_law 498 = .ok (.iconst 1, 1) := by decide +kernel
theorem dL_law_499 : decode cL_law 499 = .ok (.iadd, 1) := by decide +kernel
theorem dL_law_500 : decode cL_law 500 = .ok (.iaload, 1) := by decide +kernel
theorem dL_law_501 : decode cL_law 501 = .ok (.invokevirtual 52, 3) := by decide +kernel
theorem dL_law_504 : decode cL_law 504 = .ok (.aload_n 2, 1) := by decide +kernel
theorem dL_law_505 : decode cL_law 505 = .ok (.aload_n 0, 1) := by decide +kernel
theorem dL_law_506 : decode cL_law 506 = .ok (.iload 4, 2) := by decide +kernel
theorem dL_law_508 : decode cL_law 508 = .ok (.iconst 1, 1) := by decide +kernel
theorem dL_law_509 : decode cL_law 509 = .ok (.iadd, 1) := by decide +kernel
theorem dL_law_510 : decode cL_law 510 = .ok (.iaload, 1) := by decide +kernel
theorem dL_law_511 : decode cL_law 511 = .ok (.invokevirtual 55, 3) := by decide +kernel
theorem dL_law_514 : decode cL_law 514 = .ok (.if_icmp .eq 1384, 3) := by decide +kernel
theorem dL_law_517 : decode cL_law 517 = .ok (.iconst 0, 1) := by decide +kernel
theorem dL_law_518 : decode cL_law 518 = .ok (.ireturn, 1) := by decide +kernel
theorem dL_law_519 : decode cL_law 519 = .ok (.aload_n 1, 1) := by decide +kernel
theorem dL_law_520 : decode cL_law 520 = .ok (.aload_n 0, 1) := by decide +kernel
theorem dL_law_521 : decode cL_law 521 = .ok (.iload 4, 2) := by decide +kernel
theorem dL_law_523 : decode cL_law 523 = .ok (.iconst 1, 1) := by decide +kernel
theorem dL_law_524 : decode cL_law 524 = .ok (.iadd, 1) := by decide +kernel
theorem dL_law_525 : decode cL_law 525 = .ok (.iaload, 1) := by decide +kernel
theorem dL_law_526 : decode cL_law 526 = .ok (.aload_n 0, 1) := by decide +kernel
theorem dL_law_527 : decode cL_law 527 = .ok (.iload 4, 2) := by decide +kernel
theorem dL_law_529 : decode cL_law 529 = .ok (.iconst 2, 1) := by decide +kernel
theorem dL_law_530 : decode cL_law 530 = .ok (.iadd, 1) := by decide +kernel
theorem dL_law_531 : decode cL_law 531 = .ok (.iaload, 1) := by decide +kernel
theorem dL_law_532 : decode cL_law 532 = .ok (.invokevirtual 56, 3) := by decide +kernel
theorem dL_law_535 : decode cL_law 535 = .ok (.pop, 1) := by decide +kernel
theorem dL_law_536 : decode cL_law 536 = .ok (.aload_n 2, 1) := by decide +kernel
theorem dL_law_537 : decode cL_law 537 = .ok (.aload_n 0, 1) := by decide +kernel
theorem dL_law_538 : decode cL_law 538 = .ok (.iload 4, 2) := by decide +kernel
theorem dL_law_540 : decode cL_law 540 = .ok (.iconst 1, 1) := by decide +kernel
theorem dL_law_541 : decode cL_law 541 = .ok (.iadd, 1) := by decide +kernel
theorem dL_law_542 : decode cL_law 542 = .ok (.iaload, 1) := by decide +kernel
theorem dL_law_543 : decode cL_law 543 = .ok (.aload_n 0, 1) := by decide +kernel
theorem dL_law_544 : decode cL_law 544 = .ok (.iload 4, 2) := by decide +kernel
theorem dL_law_546 : decode cL_law 546 = .ok (.iconst 2, 1) := by decide +kernel
theorem dL_law_547 : decode cL_law 547 = .ok (.iadd, 1) := by decide +kernel
theorem dL_law_548 : decode cL_law 548 = .ok (.iaload, 1) := by decide +kernel
theorem dL_law_549 : decode cL_law 549 = .ok (.invokevirtual 59, 3) := by decide +kernel
theorem dL_law_552 : decode cL_law 552 = .ok (.pop, 1) := by decide +kernel
theorem dL_law_553 : decode cL_law 553 = .ok (.goto 1345, 3) := by decide +kernel
theorem dL_law_556 : decode cL_law 556 = .ok (.aload_n 1, 1) := by decide +kernel
theorem dL_law_557 : decode cL_law 557 = .ok (.aload_n 0, 1) := by decide +kernel
theorem dL_law_558 : decode cL_law 558 = .ok (.iload 4, 2) := by decide +kernel
theorem dL_law_560 : decode cL_law 560 = .ok (.iconst 1, 1) := by decide +kernel
theorem dL_law_561 : decode cL_law 561 = .ok (.iadd, 1) := by decide +kernel
theorem dL_law_562 : decode cL_law 562 = .ok (.iaload, 1) := by decide +kernel
theorem dL_law_563 : decode cL_law 563 = .ok (.aload_n 0, 1) := by decide +kernel
theorem dL_law_564 : decode cL_law 564 = .ok (.iload 4, 2) := by decide +kernel
theorem dL_law_566 : decode cL_law 566 = .ok (.iconst 2, 1) := by decide +kernel
theorem dL_law_567 : decode cL_law 567 = .ok (.iadd, 1) := by decide +kernel
theorem dL_law_568 : decode cL_law 568 = .ok (.iaload, 1) := by decide +kernel
theorem dL_law_569 : decode cL_law 569 = .ok (.invokevirtual 60, 3) := by decide +kernel
theorem dL_law_572 : decode cL_law 572 = .ok (.pop, 1) := by decide +kernel
theorem dL_law_573 : decode cL_law 573 = .ok (.aload_n 2, 1) := by decide +kernel
theorem dL_law_574 : decode cL_law 574 = .ok (.aload_n 0, 1) := by decide +kernel
theorem dL_law_575 : decode cL_law 575 = .ok (.iload 4, 2) := by decide +kernel
theorem dL_law_577 : decode cL_law 577 = .ok (.iconst 1, 1) := by decide +kernel
theorem dL_law_578 : decode cL_law 578 = .ok (.iadd, 1) := by decide +kernel
theorem dL_law_579 : decode cL_law 579 = .ok (.iaload, 1) := by decide +kernel
theorem dL_law_580 : decode cL_law 580 = .ok (.aload_n 0, 1) := by decide +kernel
theorem dL_law_581 : decode cL_law 581 = .ok (.iload 4, 2) := by decide +kernel
theorem dL_law_583 : decode cL_law 583 = .ok (.iconst 2, 1) := by decide +kernel
theorem dL_law_584 : decode cL_law 584 = .ok (.iadd, 1) := by decide +kernel
theorem dL_law_585 : decode cL_law 585 = .ok (.iaload, 1) := by decide +kernel
theorem dL_law_586 : decode cL_law 586 = .ok (.invokevirtual 63, 3) := by decide +kernel
theorem dL_law_589 : decode cL_law 589 = .ok (.pop, 1) := by decide +kernel
theorem dL_law_590 : decode cL_law 590 = .ok (.goto 1308, 3) := by decide +kernel
theorem dL_law_593 : decode cL_law 593 = .ok (.aload_n 1, 1) := by decide +kernel
theorem dL_law_594 : decode cL_law 594 = .ok (.aload_n 0, 1) := by decide +kernel
theorem dL_law_595 : decode cL_law 595 = .ok (.iload 4, 2) := by decide +kernel
theorem dL_law_597 : decode cL_law 597 = .ok (.iconst 1, 1) := by decide +kernel
theorem dL_law_598 : decode cL_law 598 = .ok (.iadd, 1) := by decide +kernel
theorem dL_law_599 : decode cL_law 599 = .ok (.iaload, 1) := by decide +kernel
theorem dL_law_600 : decode cL_law 600 = .ok (.aload_n 0, 1) := by decide +kernel
theorem dL_law_601 : decode cL_law 601 = .ok (.iload 4, 2) := by decide +kernel
theorem dL_law_603 : decode cL_law 603 = .ok (.iconst 2, 1) := by decide +kernel
theorem dL_law_604 : decode cL_law 604 = .ok (.iadd, 1) := by decide +kernel
theorem dL_law_605 : decode cL_law 605 = .ok (.iaload, 1) := by decide +kernel
theorem dL_law_606 : decode cL_law 606 = .ok (.aload_n 0, 1) := by decide +kernel
theorem dL_law_607 : decode cL_law 607 = .ok (.iload 4, 2) := by decide +kernel
theorem dL_law_609 : decode cL_law 609 = .ok (.iconst 3, 1) := by decide +kernel
theorem dL_law_610 : decode cL_law 610 = .ok (.iadd, 1) := by decide +kernel
theorem dL_law_611 : decode cL_law 611 = .ok (.iaload, 1) := by decide +kernel
theorem dL_law_612 : decode cL_law 612 = .ok (.invokevirtual 64, 3) := by decide +kernel
theorem dL_law_615 : decode cL_law 615 = .ok (.pop, 1) := by decide +kernel
theorem dL_law_616 : decode cL_law 616 = .ok (.aload_n 2, 1) := by decide +kernel
theorem dL_law_617 : decode cL_law 617 = .ok (.aload_n 0, 1) := by decide +kernel
theorem dL_law_618 : decode cL_law 618 = .ok (.iload 4, 2) := by decide +kernel
theorem dL_law_620 : decode cL_law 620 = .ok (.iconst 1, 1) := by decide +kernel
theorem dL_law_621 : decode cL_law 621 = .ok (.iadd, 1) := by decide +kernel
theorem dL_law_622 : decode cL_law 622 = .ok (.iaload, 1) := by decide +kernel
theorem dL_law_623 : decode cL_law 623 = .ok (.aload_n 0, 1) := by decide +kernel
theorem dL_law_624 : decode cL_law 624 = .ok (.iload 4, 2) := by decide +kernel
theorem dL_law_626 : decode cL_law 626 = .ok (.iconst 2, 1) := by decide +kernel
theorem dL_law_627 : decode cL_law 627 = .ok (.iadd, 1) := by decide +kernel
theorem dL_law_628 : decode cL_law 628 = .ok (.iaload, 1) := by decide +kernel
theorem dL_law_629 : decode cL_law 629 = .ok (.aload_n 0, 1) := by decide +kernel
theorem dL_law_630 : decode cL_law 630 = .ok (.iload 4, 2) := by decide +kernel
theorem dL_law_632 : decode cL_law 632 = .ok (.iconst 3, 1) := by decide +kernel
theorem dL_law_633 : decode cL_law 633 = .ok (.iadd, 1) := by decide +kernel
theorem dL_law_634 : decode cL_law 634 = .ok (.iaload, 1) := by decide +kernel
theorem dL_law_635 : decode cL_law 635 = .ok (.invokevirtual 68, 3) := by decide +kernel
theorem dL_law_638 : decode cL_law 638 = .ok (.pop, 1) := by decide +kernel
theorem dL_law_639 : decode cL_law 639 = .ok (.goto 1259, 3) := by decide +kernel
theorem dL_law_642 : decode cL_law 642 = .ok (.aload_n 1, 1) := by decide +kernel
theorem dL_law_643 : decode cL_law 643 = .ok (.aload_n 0, 1) := by decide +kernel
theorem dL_law_644 : decode cL_law 644 = .ok (.iload 4, 2) := by decide +kernel
theorem dL_law_646 : decode cL_law 646 = .ok (.iconst 1, 1) := by decide +kernel
theorem dL_law_647 : decode cL_law 647 = .ok (.iadd, 1) := by decide +kernel
theorem dL_law_648 : decode cL_law 648 = .ok (.iaload, 1) := by decide +kernel
theorem dL_law_649 : decode cL_law 649 = .ok (.aload_n 0, 1) := by decide +kernel
theorem dL_law_650 : decode cL_law 650 = .ok (.iload 4, 2) := by decide +kernel
theorem dL_law_652 : decode cL_law 652 = .ok (.iconst 2, 1) := by decide +kernel
theorem dL_law_653 : decode cL_law 653 = .ok (.iadd, 1) := by decide +kernel
theorem dL_law_654 : decode cL_law 654 = .ok (.iaload, 1) := by decide +kernel
theorem dL_law_655 : decode cL_law 655 = .ok (.invokevirtual 69, 3) := by decide +kernel
theorem dL_law_658 : decode cL_law 658 = .ok (.pop, 1) := by decide +kernel
theorem dL_law_659 : decode cL_law 659 = .ok (.aload_n 2, 1) := by decide +kernel
theorem dL_law_660 : decode cL_law 660 = .ok (.aload_n 0, 1) := by decide +kernel
theorem dL_law_661 : decode cL_law 661 = .ok (.iload 4, 2) := by decide +kernel
theorem dL_law_663 : decode cL_law 663 = .ok (.iconst 1, 1) := by decide +kernel
theorem dL_law_664 : decode cL_law 664 = .ok (.iadd, 1) := by decide +kernel
theorem dL_law_665 : decode cL_law 665 = .ok (.iaload, 1) := by decide +kernel
theorem dL_law_666 : decode cL_law 666 = .ok (.aload_n 0, 1) := by decide +kernel
theorem dL_law_667 : decode cL_law 667 = .ok (.iload 4, 2) := by decide +kernel
theorem dL_law_669 : decode cL_law 669 = .ok (.iconst 2, 1) := by decide +kernel
theorem dL_law_670 : decode cL_law 670 = .ok (.iadd, 1) := by decide +kernel
theorem dL_law_671 : decode cL_law 671 = .ok (.iaload, 1) := by decide +kernel
theorem dL_law_672 : decode cL_law 672 = .ok (.invokevirtual 72, 3) := by decide +kernel
theorem dL_law_675 : decode cL_law 675 = .ok (.pop, 1) := by decide +kernel
theorem dL_law_676 : decode cL_law 676 = .ok (.goto 1222, 3) := by decide +kernel
theorem dL_law_679 : decode cL_law 679 = .ok (.aload_n 1, 1) := by decide +kernel
theorem dL_law_680 : decode cL_law 680 = .ok (.aload_n 0, 1) := by decide +kernel
theorem dL_law_681 : decode cL_law 681 = .ok (.iload 4, 2) := by decide +kernel
theorem dL_law_683 : decode cL_law 683 = .ok (.iconst 1, 1) := by decide +kernel
theorem dL_law_684 : decode cL_law 684 = .ok (.iadd, 1) := by decide +kernel
theorem dL_law_685 : decode cL_law 685 = .ok (.iaload, 1) := by decide +kernel
theorem dL_law_686 : decode cL_law 686 = .ok (.aload_n 0, 1) := by decide +kernel
theorem dL_law_687 : decode cL_law 687 = .ok (.iload 4, 2) := by decide +kernel
theorem dL_law_689 : decode cL_law 689 = .ok (.iconst 2, 1) := by decide +kernel
theorem dL_law_690 : decode cL_law 690 = .ok (.iadd, 1) := by decide +kernel
theorem dL_law_691 : decode cL_law 691 = .ok (.iaload, 1) := by decide +kernel
theorem dL_law_692 : decode cL_law 692 = .ok (.invokevirtual 73, 3) := by decide +kernel
theorem dL_law_695 : decode cL_law 695 = .ok (.pop, 1) := by decide +kernel
theorem dL_law_696 : decode cL_law 696 = .ok (.aload_n 2, 1) := by decide +kernel
theorem dL_law_697 : decode cL_law 697 = .ok (.aload_n 0, 1) := by decide +kernel
theorem dL_law_698 : decode cL_law 698 = .ok (.iload 4, 2) := by decide +kernel
theorem dL_law_700 : decode cL_law 700 = .ok (.iconst 1, 1) := by decide +kernel
theorem dL_law_701 : decode cL_law 701 = .ok (.iadd, 1) := by decide +kernel
theorem dL_law_702 : decode cL_law 702 = .ok (.iaload, 1) := by decide +kernel
theorem dL_law_703 : decode cL_law 703 = .ok (.aload_n 0, 1) := by decide +kernel
theorem dL_law_704 : decode cL_law 704 = .ok (.iload 4, 2) := by decide +kernel
theorem dL_law_706 : decode cL_law 706 = .ok (.iconst 2, 1) := by decide +kernel
theorem dL_law_707 : decode cL_law 707 = .ok (.iadd, 1) := by decide +kernel
theorem dL_law_708 : decode cL_law 708 = .ok (.iaload, 1) := by decide +kernel
theorem dL_law_709 : decode cL_law 709 = .ok (.invokevirtual 76, 3) := by decide +kernel
theorem dL_law_712 : decode cL_law 712 = .ok (.pop, 1) := by decide +kernel
theorem dL_law_713 : decode cL_law 713 = .ok (.goto 1185, 3) := by decide +kernel
theorem dL_law_716 : decode cL_law 716 = .ok (.aload_n 1, 1) := by decide +kernel
theorem dL_law_717 : decode cL_law 717 = .ok (.aload_n 0, 1) := by decide +kernel
theorem dL_law_718 : decode cL_law 718 = .ok (.iload 4, 2) := by decide +kernel
theorem dL_law_720 : decode cL_law 720 = .ok (.iconst 1, 1) := by decide +kernel
theorem dL_law_721 : decode cL_law 721 = .ok (.iadd, 1) := by decide +kernel
theorem dL_law_722 : decode cL_law 722 = .ok (.iaload, 1) := by decide +kernel
theorem dL_law_723 : decode cL_law 723 = .ok (.aload_n 0, 1) := by decide +kernel
theorem dL_law_724 : decode cL_law 724 = .ok (.iload 4, 2) := by decide +kernel
theorem dL_law_726 : decode cL_law 726 = .ok (.iconst 2, 1) := by decide +kernel
theorem dL_law_727 : decode cL_law 727 = .ok (.iadd, 1) := by decide +kernel
theorem dL_law_728 : decode cL_law 728 = .ok (.iaload, 1) := by decide +kernel
theorem dL_law_729 : decode cL_law 729 = .ok (.invokevirtual 77, 3) := by decide +kernel
theorem dL_law_732 : decode cL_law 732 = .ok (.pop, 1) := by decide +kernel
theorem dL_law_733 : decode cL_law 733 = .ok (.aload_n 2, 1) := by decide +kernel
theorem dL_law_734 : decode cL_law 734 = .ok (.aload_n 0, 1) := by decide +kernel
theorem dL_law_735 : decode cL_law 735 = .ok (.iload 4, 2) := by decide +kernel
theorem dL_law_737 : decode cL_law 737 = .ok (.iconst 1, 1) := by decide +kernel
theorem dL_law_738 : decode cL_law 738 = .ok (.iadd, 1) := by decide +kernel
theorem dL_law_739 : decode cL_law 739 = .ok (.iaload, 1) := by decide +kernel
theorem dL_law_740 : decode cL_law 740 = .ok (.aload_n 0, 1) := by decide +kernel
theorem dL_law_741 : decode cL_law 741 = .ok (.iload 4, 2) := by decide +kernel
theorem dL_law_743 : decode cL_law 743 = .ok (.iconst 2, 1) := by decide +kernel
theorem dL_law_744 : decode cL_law 744 = .ok (.iadd, 1) := by decide +kernel
theorem dL_law_745 : decode cL_law 745 = .ok (.iaload, 1) := by decide +kernel
theorem dL_law_746 : decode cL_law 746 = .ok (.invokevirtual 81, 3) := by decide +kernel
theorem dL_law_749 : decode cL_law 749 = .ok (.pop, 1) := by decide +kernel
theorem dL_law_750 : decode cL_law 750 = .ok (.goto 1148, 3) := by decide +kernel
theorem dL_law_753 : decode cL_law 753 = .ok (.aload_n 1, 1) := by decide +kernel
theorem dL_law_754 : decode cL_law 754 = .ok (.aload_n 0, 1) := by decide +kernel
theorem dL_law_755 : decode cL_law 755 = .ok (.iload 4, 2) := by decide +kernel
theorem dL_law_757 : decode cL_law 757 = .ok (.iconst 1, 1) := by decide +kernel
theorem dL_law_758 : decode cL_law 758 = .ok (.iadd, 1) := by decide +kernel
theorem dL_law_759 : decode cL_law 759 = .ok (.iaload, 1) := by decide +kernel
theorem dL_law_760 : decode cL_law 760 = .ok (.invokevirtual 82, 3) := by decide +kernel
theorem dL_law_763 : decode cL_law 763 = .ok (.pop, 1) := by decide +kernel
theorem dL_law_764 : decode cL_law 764 = .ok (.aload_n 2, 1) := by decide +kernel
theorem dL_law_765 : decode cL_law 765 = .ok (.aload_n 0, 1) := by decide +kernel
theorem dL_law_766 : decode cL_law 766 = .ok (.iload 4, 2) := by decide +kernel
theorem dL_law_768 : decode cL_law 768 = .ok (.iconst 1, 1) := by decide +kernel
theorem dL_law_769 : decode cL_law 769 = .ok (.iadd, 1) := by decide +kernel
theorem dL_law_770 : decode cL_law 770 = .ok (.iaload, 1) := by decide +kernel
theorem dL_law_771 : decode cL_law 771 = .ok (.invokevirtual 85, 3) := by decide +kernel
theorem dL_law_774 : decode cL_law 774 = .ok (.pop, 1) := by decide +kernel
theorem dL_law_775 : decode cL_law 775 = .ok (.goto 1123, 3) := by decide +kernel
theorem dL_law_778 : decode cL_law 778 = .ok (.aload_n 1, 1) := by decide +kernel
theorem dL_law_779 : decode cL_law 779 = .ok (.aload_n 0, 1) := by decide +kernel
theorem dL_law_780 : decode cL_law 780 = .ok (.iload 4, 2) := by decide +kernel
theorem dL_law_782 : decode cL_law 782 = .ok (.iconst 1, 1) := by decide +kernel
theorem dL_law_783 : decode cL_law 783 = .ok (.iadd, 1) := by decide +kernel
theorem dL_law_784 : decode cL_law 784 = .ok (.iaload, 1) := by decide +kernel
theorem dL_law_785 : decode cL_law 785 = .ok (.aload_n 0, 1) := by decide +kernel
theorem dL_law_786 : decode cL_law 786 = .ok (.iload 4, 2) := by decide +kernel
theorem dL_law_788 : decode cL_law 788 = .ok (.iconst 2, 1) := by decide +kernel
theorem dL_law_789 : decode cL_law 789 = .ok (.iadd, 1) := by decide +kernel
theorem dL_law_790 : decode cL_law 790 = .ok (.iaload, 1) := by decide +kernel
theorem dL_law_791 : decode cL_law 791 = .ok (.i2l, 1) := by decide +kernel
theorem dL_law_792 : decode cL_law 792 = .ok (.bipush 32, 2) := by decide +kernel
theorem dL_law_794 : decode cL_law 794 = .ok (.lshl, 1) := by decide +kernel
theorem dL_law_795 : decode cL_law 795 = .ok (.aload_n 0, 1) := by decide +kernel
theorem dL_law_796 : decode cL_law 796 = .ok (.iload 4, 2) := by decide +kernel
theorem dL_law_798 : decode cL_law 798 = .ok (.iconst 3, 1) := by decide +kernel
theorem dL_law_799 : decode cL_law 799 = .ok (.iadd, 1) := by decide +kernel
theorem dL_law_800 : decode cL_law 800 = .ok (.iaload, 1) := by decide +kernel
theorem dL_law_801 : decode cL_law 801 = .ok (.i2l, 1) := by decide +kernel
theorem dL_law_802 : decode cL_law 802 = .ok (.ldc2_w 86, 3) := by decide +kernel
theorem dL_law_805 : decode cL_law 805 = .ok (.land, 1) := by decide +kernel
theorem dL_law_806 : decode cL_law 806 = .ok (.lor, 1) := by decide +kernel
theorem dL_law_807 : decode cL_law 807 = .ok (.invokevirtual 88, 3) := by decide +kernel
theorem dL_law_810 : decode cL_law 810 = .ok (.pop, 1) := by decide +kernel
theorem dL_law_811 : decode cL_law 811 = .ok (.aload_n 2, 1) := by decide +kernel
theorem dL_law_812 : decode cL_law 812 = .ok (.aload_n 0, 1) := by decide +kernel
theorem dL_law_813 : decode cL_law 813 = .ok (.iload 4, 2) := by decide +kernel
theorem dL_law_815 : decode cL_law 815 = .ok (.iconst 1, 1) := by decide +kernel
theorem dL_law_816 : decode cL_law 816 = .ok (.iadd, 1) := by decide +kernel
theorem dL_law_817 : decode cL_law 817 = .ok (.iaload, 1) := by decide +kernel
theorem dL_law_818 : decode cL_law 818 = .ok (.aload_n 0, 1) := by decide +kernel
theorem dL_law_819 : decode cL_law 819 = .ok (.iload 4, 2) := by decide +kernel
theorem dL_law_821 : decode cL_law 821 = .ok (.iconst 2, 1) := by decide +kernel
theorem dL_law_822 : decode cL_law 822 = .ok (.iadd, 1) := by decide +kernel
theorem dL_law_823 : decode cL_law 823 = .ok (.iaload, 1) := by decide +kernel
theorem dL_law_824 : decode cL_law 824 = .ok (.i2l, 1) := by decide +kernel
theorem dL_law_825 : decode cL_law 825 = .ok (.bipush 32, 2) := by decide +kernel
theorem dL_law_827 : decode cL_law 827 = .ok (.lshl, 1) := by decide +kernel
theorem dL_law_828 : decode cL_law 828 = .ok (.aload_n 0, 1) := by decide +kernel
theorem dL_law_829 : decode cL_law 829 = .ok (.iload 4, 2) := by decide +kernel
theorem dL_law_831 : decode cL_law 831 = .ok (.iconst 3, 1) := by decide +kernel
theorem dL_law_832 : decode cL_law 832 = .ok (.iadd, 1) := by decide +kernel
theorem dL_law_833 : decode cL_law 833 = .ok (.iaload, 1) := by decide +kernel
theorem dL_law_834 : decode cL_law 834 = .ok (.i2l, 1) := by decide +kernel
theorem dL_law_835 : decode cL_law 835 = .ok (.ldc2_w 86, 3) := by decide +kernel
theorem dL_law_838 : decode cL_law 838 = .ok (.land, 1) := by decide +kernel
theorem dL_law_839 : decode cL_law 839 = .ok (.lor, 1) := by decide +kernel
theorem dL_law_840 : decode cL_law 840 = .ok (.invokevirtual 92, 3) := by decide +kernel
theorem dL_law_843 : decode cL_law 843 = .ok (.pop, 1) := by decide +kernel
theorem dL_law_844 : decode cL_law 844 = .ok (.goto 1054, 3) := by decide +kernel
theorem dL_law_847 : decode cL_law 847 = .ok (.aload_n 1, 1) := by decide +kernel
theorem dL_law_848 : decode cL_law 848 = .ok (.invokevirtual 93, 3) := by decide +kernel
theorem dL_law_851 : decode cL_law 851 = .ok (.pop, 1) := by decide +kernel
theorem dL_law_852 : decode cL_law 852 = .ok (.aload_n 2, 1) := by decide +kernel
theorem dL_law_853 : decode cL_law 853 = .ok (.invokevirtual 97, 3) := by decide +kernel
theorem dL_law_856 : decode cL_law 856 = .ok (.pop, 1) := by decide +kernel
theorem dL_law_857 : decode cL_law 857 = .ok (.goto 1041, 3) := by decide +kernel
theorem dL_law_860 : decode cL_law 860 = .ok (.aload_n 1, 1) := by decide +kernel
theorem dL_law_861 : decode cL_law 861 = .ok (.aload_n 0, 1) := by decide +kernel
theorem dL_law_862 : decode cL_law 862 = .ok (.iload 4, 2) := by decide +kernel
theorem dL_law_864 : decode cL_law 864 = .ok (.iconst 1, 1) := by decide +kernel
theorem dL_law_865 : decode cL_law 865 = .ok (.iadd, 1) := by decide +kernel
theorem dL_law_866 : decode cL_law 866 = .ok (.iaload, 1) := by decide +kernel
theorem dL_law_867 : decode cL_law 867 = .ok (.aload_n 0, 1) := by decide +kernel
theorem dL_law_868 : decode cL_law 868 = .ok (.iload 4, 2) := by decide +kernel
theorem dL_law_870 : decode cL_law 870 = .ok (.iconst 2, 1) := by decide +kernel
theorem dL_law_871 : decode cL_law 871 = .ok (.iadd, 1) := by decide +kernel
theorem dL_law_872 : decode cL_law 872 = .ok (.iaload, 1) := by decide +kernel
theorem dL_law_873 : decode cL_law 873 = .ok (.invokevirtual 98, 3) := by decide +kernel
theorem dL_law_876 : decode cL_law 876 = .ok (.pop, 1) := by decide +kernel
theorem dL_law_877 : decode cL_law 877 = .ok (.aload_n 2, 1) := by decide +kernel
theorem dL_law_878 : decode cL_law 878 = .ok (.aload_n 0, 1) := by decide +kernel
theorem dL_law_879 : decode cL_law 879 = .ok (.iload 4, 2) := by decide +kernel
theorem dL_law_881 : decode cL_law 881 = .ok (.iconst 1, 1) := by decide +kernel
theorem dL_law_882 : decode cL_law 882 = .ok (.iadd, 1) := by decide +kernel
theorem dL_law_883 : decode cL_law 883 = .ok (.iaload, 1) := by decide +kernel
theorem dL_law_884 : decode cL_law 884 = .ok (.aload_n 0, 1) := by decide +kernel
theorem dL_law_885 : decode cL_law 885 = .ok (.iload 4, 2) := by decide +kernel
theorem dL_law_887 : decode cL_law 887 = .ok (.iconst 2, 1) := by decide +kernel
theorem dL_law_888 : decode cL_law 888 = .ok (.iadd, 1) := by decide +kernel
theorem dL_law_889 : decode cL_law 889 = .ok (.iaload, 1) := by decide +kernel
theorem dL_law_890 : decode cL_law 890 = .ok (.invokevirtual 101, 3) := by decide +kernel
theorem dL_law_893 : decode cL_law 893 = .ok (.pop, 1) := by decide +kernel
theorem dL_law_894 : decode cL_law 894 = .ok (.goto 1004, 3) := by decide +kernel
theorem dL_law_897 : decode cL_law 897 = .ok (.aload_n 1, 1) := by decide +kernel
theorem dL_law_898 : decode cL_law 898 = .ok (.aload_n 0, 1) := by decide +kernel
theorem dL_law_899 : decode cL_law 899 = .ok (.iload 4, 2) := by decide +kernel
theorem dL_law_901 : decode cL_law 901 = .ok (.iconst 1, 1) := by decide +kernel
theorem dL_law_902 : decode cL_law 902 = .ok (.iadd, 1) := by decide +kernel
theorem dL_law_903 : decode cL_law 903 = .ok (.iaload, 1) := by decide +kernel
theorem dL_law_904 : decode cL_law 904 = .ok (.aload_n 0, 1) := by decide +kernel
theorem dL_law_905 : decode cL_law 905 = .ok (.iload 4, 2) := by decide +kernel
theorem dL_law_907 : decode cL_law 907 = .ok (.iconst 2, 1) := by decide +kernel
theorem dL_law_908 : decode cL_law 908 = .ok (.iadd, 1) := by decide +kernel
theorem dL_law_909 : decode cL_law 909 = .ok (.iaload, 1) := by decide +kernel
theorem dL_law_910 : decode cL_law 910 = .ok (.aload_n 0, 1) := by decide +kernel
theorem dL_law_911 : decode cL_law 911 = .ok (.iload 4, 2) := by decide +kernel
theorem dL_law_913 : decode cL_law 913 = .ok (.iconst 3, 1) := by decide +kernel
theorem dL_law_914 : decode cL_law 914 = .ok (.iadd, 1) := by decide +kernel
theorem dL_law_915 : decode cL_law 915 = .ok (.iaload, 1) := by decide +kernel
theorem dL_law_916 : decode cL_law 916 = .ok (.invokevirtual 102, 3) := by decide +kernel
theorem dL_law_919 : decode cL_law 919 = .ok (.pop, 1) := by decide +kernel
theorem dL_law_920 : decode cL_law 920 = .ok (.aload_n 2, 1) := by decide +kernel
theorem dL_law_921 : decode cL_law 921 = .ok (.aload_n 0, 1) := by decide +kernel
theorem dL_law_922 : decode cL_law 922 = .ok (.iload 4, 2) := by decide +kernel
theorem dL_law_924 : decode cL_law 924 = .ok (.iconst 1, 1) := by decide +kernel
theorem dL_law_925 : decode cL_law 925 = .ok (.iadd, 1) := by decide +kernel
theorem dL_law_926 : decode cL_law 926 = .ok (.iaload, 1) := by decide +kernel
theorem dL_law_927 : decode cL_law 927 = .ok (.aload_n 0, 1) := by decide +kernel
theorem dL_law_928 : decode cL_law 928 = .ok (.iload 4, 2) := by decide +kernel
theorem dL_law_930 : decode cL_law 930 = .ok (.iconst 2, 1) := by decide +kernel
theorem dL_law_931 : decode cL_law 931 = .ok (.iadd, 1) := by decide +kernel
theorem dL_law_932 : decode cL_law 932 = .ok (.iaload, 1) := by decide +kernel
theorem dL_law_933 : decode cL_law 933 = .ok (.aload_n 0, 1) := by decide +kernel
theorem dL_law_934 : decode cL_law 934 = .ok (.iload 4, 2) := by decide +kernel
theorem dL_law_936 : decode cL_law 936 = .ok (.iconst 3, 1) := by decide +kernel
theorem dL_law_937 : decode cL_law 937 = .ok (.iadd, 1) := by decide +kernel
theorem dL_law_938 : decode cL_law 938 = .ok (.iaload, 1) := by decide +kernel
theorem dL_law_939 : decode cL_law 939 = .ok (.invokevirtual 105, 3) := by decide +kernel
theorem dL_law_942 : decode cL_law 942 = .ok (.pop, 1) := by decide +kernel
theorem dL_law_943 : decode cL_law 943 = .ok (.goto 955, 3) := by decide +kernel
theorem dL_law_946 : decode cL_law 946 = .ok (.aload_n 1, 1) := by decide +kernel
theorem dL_law_947 : decode cL_law 947 = .ok (.aload_n 0, 1) := by decide +kernel
theorem dL_law_948 : decode cL_law 948 = .ok (.iload 4, 2) := by decide +kernel
theorem dL_law_950 : decode cL_law 950 = .ok (.iconst 1, 1) := by decide +kernel
theorem dL_law_951 : decode cL_law 951 = .ok (.iadd, 1) := by decide +kernel
theorem dL_law_952 : decode cL_law 952 = .ok (.iaload, 1) := by decide +kernel
theorem dL_law_953 : decode cL_law 953 = .ok (.aload_n 0, 1) := by decide +kernel
theorem dL_law_954 : decode cL_law 954 = .ok (.iload 4, 2) := by decide +kernel
theorem dL_law_956 : decode cL_law 956 = .ok (.iconst 2, 1) := by decide +kernel
theorem dL_law_957 : decode cL_law 957 = .ok (.iadd, 1) := by decide +kernel
theorem dL_law_958 : decode cL_law 958 = .ok (.iaload, 1) := by decide +kernel
theorem dL_law_959 : decode cL_law 959 = .ok (.invokevirtual 106, 3) := by decide +kernel
theorem dL_law_962 : decode cL_law 962 = .ok (.pop, 1) := by decide +kernel
theorem dL_law_963 : decode cL_law 963 = .ok (.aload_n 2, 1) := by decide +kernel
theorem dL_law_964 : decode cL_law 964 = .ok (.aload_n 0, 1) := by decide +kernel
theorem dL_law_965 : decode cL_law 965 = .ok (.iload 4, 2) := by decide +kernel
theorem dL_law_967 : decode cL_law 967 = .ok (.iconst 1, 1) := by decide +kernel
theorem dL_law_968 : decode cL_law 968 = .ok (.iadd, 1) := by decide +kernel
theorem dL_law_969 : decode cL_law 969 = .ok (.iaload, 1) := by decide +kernel
theorem dL_law_970 : decode cL_law 970 = .ok (.aload_n 0, 1) := by decide +kernel
theorem dL_law_971 : decode cL_law 971 = .ok (.iload 4, 2) := by decide +kernel
theorem dL_law_973 : decode cL_law 973 = .ok (.iconst 2, 1) := by decide +kernel
theorem dL_law_974 : decode cL_law 974 = .ok (.iadd, 1) := by decide +kernel
theorem dL_law_975 : decode cL_law 975 = .ok (.iaload, 1) := by decide +kernel
theorem dL_law_976 : decode cL_law 976 = .ok (.invokevirtual 109, 3) := by decide +kernel
theorem dL_law_979 : decode cL_law 979 = .ok (.pop, 1) := by decide +kernel
theorem dL_law_980 : decode cL_law 980 = .ok (.goto 918, 3) := by decide +kernel
theorem dL_law_983 : decode cL_law 983 = .ok (.aload_n 1, 1) := by decide +kernel
theorem dL_law_984 : decode cL_law 984 = .ok (.aload_n 0, 1) := by decide +kernel
theorem dL_law_985 : decode cL_law 985 = .ok (.iload 4, 2) := by decide +kernel
theorem dL_law_987 : decode cL_law 987 = .ok (.iconst 1, 1) := by decide +kernel
theorem dL_law_988 : decode cL_law 988 = .ok (.iadd, 1) := by decide +kernel
theorem dL_law_989 : decode cL_law 989 = .ok (.iaload, 1) := by decide +kernel
theorem dL_law_990 : decode cL_law 990 = .ok (.invokevirtual 110, 3) := by decide +kernel
theorem dL_law_993 : decode cL_law 993 = .ok (.pop, 1) := by decide +kernel
theorem dL_law_994 : decode cL_law 994 = .ok (.aload_n 2, 1) := by decide +kernel
theorem dL_law_995 : decode cL_law 995 = .ok (.aload_n 0, 1) := by decide +kernel
theorem dL_law_996 : decode cL_law 996 = .ok (.iload 4, 2) := by decide +kernel
theorem dL_law_998 : decode cL_law 998 = .ok (.iconst 1, 1) := by decide +kernel
theorem dL_law_999 : decode cL_law 999 = .ok (.iadd, 1) := by decide +kernel
theorem dL_law_1000 : decode cL_law 1000 = .ok (.iaload, 1) := by decide +kernel
theorem dL_law_1001 : decode cL_law 1001 = .ok (.invokevirtual 113, 3) := by decide +kernel
theorem dL_law_1004 : decode cL_law 1004 = .ok (.pop, 1) := by decide +kernel
theorem dL_law_1005 : decode cL_law 1005 = .ok (.goto 893, 3) := by decide +kernel
theorem dL_law_1008 : decode cL_law 1008 = .ok (.aload_n 1, 1) := by decide +kernel
theorem dL_law_1009 : decode cL_law 1009 = .ok (.aload_n 0, 1) := by decide +kernel
theorem dL_law_1010 : decode cL_law 1010 = .ok (.iload 4, 2) := by decide +kernel
theorem dL_law_1012 : decode cL_law 1012 = .ok (.iconst 1, 1) := by decide +kernel
theorem dL_law_1013 : decode cL_law 1013 = .ok (.iadd, 1) := by decide +kernel
theorem dL_law_1014 : decode cL_law 1014 = .ok (.iaload, 1) := by decide +kernel
theorem dL_law_1015 : decode cL_law 1015 = .ok (.invokevirtual 114, 3) := by decide +kernel
theorem dL_law_1018 : decode cL_law 1018 = .ok (.pop, 1) := by decide +kernel
theorem dL_law_1019 : decode cL_law 1019 = .ok (.aload_n 2, 1) := by decide +kernel
theorem dL_law_1020 : decode cL_law 1020 = .ok (.aload_n 0, 1) := by decide +kernel
theorem dL_law_1021 : decode cL_law 1021 = .ok (.iload 4, 2) := by decide +kernel
theorem dL_law_1023 : decode cL_law 1023 = .ok (.iconst 1, 1) := by decide +kernel
theorem dL_law_1024 : decode cL_law 1024 = .ok (.iadd, 1) := by decide +kernel
theorem dL_law_1025 : decode cL_law 1025 = .ok (.iaload, 1) := by decide +kernel
theorem dL_law_1026 : decode cL_law 1026 = .ok (.invokevirtual 117, 3) := by decide +kernel
theorem dL_law_1029 : decode cL_law 1029 = .ok (.pop, 1) := by decide +kernel
theorem dL_law_1030 : decode cL_law 1030 = .ok (.goto 868, 3) := by decide +kernel
theorem dL_law_1033 : decode cL_law 1033 = .ok (.aload_n 1, 1) := by decide +kernel
theorem dL_law_1034 : decode cL_law 1034 = .ok (.invokevirtual 118, 3) := by decide +kernel
theorem dL_law_1037 : decode cL_law 1037 = .ok (.pop, 1) := by decide +kernel
theorem dL_law_1038 : decode cL_law 1038 = .ok (.aload_n 2, 1) := by decide +kernel
theorem dL_law_1039 : decode cL_law 1039 = .ok (.invokevirtual 121, 3) := by decide +kernel
theorem dL_law_1042 : decode cL_law 1042 = .ok (.pop, 1) := by decide +kernel
theorem dL_law_1043 : decode cL_law 1043 = .ok (.goto 855, 3) := by decide +kernel
theorem dL_law_1046 : decode cL_law 1046 = .ok (.aload_n 1, 1) := by decide +kernel
theorem dL_law_1047 : decode cL_law 1047 = .ok (.aload_n 0, 1) := by decide +kernel
theorem dL_law_1048 : decode cL_law 1048 = .ok (.iload 4, 2) := by decide +kernel
theorem dL_law_1050 : decode cL_law 1050 = .ok (.iconst 1, 1) := by decide +kernel
theorem dL_law_1051 : decode cL_law 1051 = .ok (.iadd, 1) := by decide +kernel
theorem dL_law_1052 : decode cL_law 1052 = .ok (.iaload, 1) := by decide +kernel
theorem dL_law_1053 : decode cL_law 1053 = .ok (.aload_n 0, 1) := by decide +kernel
theorem dL_law_1054 : decode cL_law 1054 = .ok (.iload 4, 2) := by decide +kernel
theorem dL_law_1056 : decode cL_law 1056 = .ok (.iconst 2, 1) := by decide +kernel
theorem dL_law_1057 : decode cL_law 1057 = .ok (.iadd, 1) := by decide +kernel
theorem dL_law_1058 : decode cL_law 1058 = .ok (.iaload, 1) := by decide +kernel
theorem dL_law_1059 : decode cL_law 1059 = .ok (.invokevirtual 122, 3) := by decide +kernel
theorem dL_law_1062 : decode cL_law 1062 = .ok (.pop, 1) := by decide +kernel
theorem dL_law_1063 : decode cL_law 1063 = .ok (.aload_n 2, 1) := by decide +kernel
theorem dL_law_1064 : decode cL_law 1064 = .ok (.aload_n 0, 1) := by decide +kernel
theorem dL_law_1065 : decode cL_law 1065 = .ok (.iload 4, 2) := by decide +kernel
theorem dL_law_1067 : decode cL_law 1067 = .ok (.iconst 1, 1) := by decide +kernel
theorem dL_law_1068 : decode cL_law 1068 = .ok (.iadd, 1) := by decide +kernel
theorem dL_law_1069 : decode cL_law 1069 = .ok (.iaload, 1) := by decide +kernel
theorem dL_law_1070 : decode cL_law 1070 = .ok (.aload_n 0, 1) := by decide +kernel
theorem dL_law_1071 : decode cL_law 1071 = .ok (.iload 4, 2) := by decide +kernel
theorem dL_law_1073 : decode cL_law 1073 = .ok (.iconst 2, 1) := by decide +kernel
theorem dL_law_1074 : decode cL_law 1074 = .ok (.iadd, 1) := by decide +kernel
theorem dL_law_1075 : decode cL_law 1075 = .ok (.iaload, 1) := by decide +kernel
theorem dL_law_1076 : decode cL_law 1076 = .ok (.invokevirtual 125, 3) := by decide +kernel
theorem dL_law_1079 : decode cL_law 1079 = .ok (.pop, 1) := by decide +kernel
theorem dL_law_1080 : decode cL_law 1080 = .ok (.goto 818, 3) := by decide +kernel
theorem dL_law_1083 : decode cL_law 1083 = .ok (.aload_n 1, 1) := by decide +kernel
theorem dL_law_1084 : decode cL_law 1084 = .ok (.aload_n 0, 1) := by decide +kernel
theorem dL_law_1085 : decode cL_law 1085 = .ok (.iload 4, 2) := by decide +kernel
theorem dL_law_1087 : decode cL_law 1087 = .ok (.iconst 1, 1) := by decide +kernel
theorem dL_law_1088 : decode cL_law 1088 = .ok (.iadd, 1) := by decide +kernel
theorem dL_law_1089 : decode cL_law 1089 = .ok (.iaload, 1) := by decide +kernel
theorem dL_law_1090 : decode cL_law 1090 = .ok (.aload_n 0, 1) := by decide +kernel
theorem dL_law_1091 : decode cL_law 1091 = .ok (.iload 4, 2) := by decide +kernel
theorem dL_law_1093 : decode cL_law 1093 = .ok (.iconst 2, 1) := by decide +kernel
theorem dL_law_1094 : decode cL_law 1094 = .ok (.iadd, 1) := by decide +kernel
theorem dL_law_1095 : decode cL_law 1095 = .ok (.iaload, 1) := by decide +kernel
theorem dL_law_1096 : decode cL_law 1096 = .ok (.invokevirtual 126, 3) := by decide +kernel
theorem dL_law_1099 : decode cL_law 1099 = .ok (.pop, 1) := by decide +kernel
theorem dL_law_1100 : decode cL_law 1100 = .ok (.aload_n 2, 1) := by decide +kernel
theorem dL_law_1101 : decode cL_law 1101 = .ok (.aload_n 0, 1) := by decide +kernel
theorem dL_law_1102 : decode cL_law 1102 = .ok (.iload 4, 2) := by decide +kernel
theorem dL_law_1104 : decode cL_law 1104 = .ok (.iconst 1, 1) := by decide +kernel
theorem dL_law_1105 : decode cL_law 1105 = .ok (.iadd, 1) := by decide +kernel
theorem dL_law_1106 : decode cL_law 1106 = .ok (.iaload, 1) := by decide +kernel
theorem dL_law_1107 : decode cL_law 1107 = .ok (.aload_n 0, 1) := by decide +kernel
theorem dL_law_1108 : decode cL_law 1108 = .ok (.iload 4, 2) := by decide +kernel
theorem dL_law_1110 : decode cL_law 1110 = .ok (.iconst 2, 1) := by decide +kernel
theorem dL_law_1111 : decode cL_law 1111 = .ok (.iadd, 1) := by decide +kernel
theorem dL_law_1112 : decode cL_law 1112 = .ok (.iaload, 1) := by decide +kernel
theorem dL_law_1113 : decode cL_law 1113 = .ok (.invokevirtual 129, 3) := by decide +kernel
theorem dL_law_1116 : decode cL_law 1116 = .ok (.pop, 1) := by decide +kernel
theorem dL_law_1117 : decode cL_law 1117 = .ok (.goto 781, 3) := by decide +kernel
theorem dL_law_1120 : decode cL_law 1120 = .ok (.aload_n 1, 1) := by decide +kernel
theorem dL_law_1121 : decode cL_law 1121 = .ok (.aload_n 0, 1) := by decide +kernel
theorem dL_law_1122 : decode cL_law 1122 = .ok (.iload 4, 2) := by decide +kernel
theorem dL_law_1124 : decode cL_law 1124 = .ok (.iconst 1, 1) := by decide +kernel
theorem dL_law_1125 : decode cL_law 1125 = .ok (.iadd, 1) := by decide +kernel
theorem dL_law_1126 : decode cL_law 1126 = .ok (.iaload, 1) := by decide +kernel
theorem dL_law_1127 : decode cL_law 1127 = .ok (.aload_n 0, 1) := by decide +kernel
theorem dL_law_1128 : decode cL_law 1128 = .ok (.iload 4, 2) := by decide +kernel
theorem dL_law_1130 : decode cL_law 1130 = .ok (.iconst 2, 1) := by decide +kernel
theorem dL_law_1131 : decode cL_law 1131 = .ok (.iadd, 1) := by decide +kernel
theorem dL_law_1132 : decode cL_law 1132 = .ok (.iaload, 1) := by decide +kernel
theorem dL_law_1133 : decode cL_law 1133 = .ok (.aload_n 0, 1) := by decide +kernel
theorem dL_law_1134 : decode cL_law 1134 = .ok (.iload 4, 2) := by decide +kernel
theorem dL_law_1136 : decode cL_law 1136 = .ok (.iconst 3, 1) := by decide +kernel
theorem dL_law_1137 : decode cL_law 1137 = .ok (.iadd, 1) := by decide +kernel
theorem dL_law_1138 : decode cL_law 1138 = .ok (.iaload, 1) := by decide +kernel
theorem dL_law_1139 : decode cL_law 1139 = .ok (.invokevirtual 130, 3) := by decide +kernel
theorem dL_law_1142 : decode cL_law 1142 = .ok (.pop, 1) := by decide +kernel
theorem dL_law_1143 : decode cL_law 1143 = .ok (.aload_n 2, 1) := by decide +kernel
theorem dL_law_1144 : decode cL_law 1144 = .ok (.aload_n 0, 1) := by decide +kernel
theorem dL_law_1145 : decode cL_law 1145 = .ok (.iload 4, 2) := by decide +kernel
theorem dL_law_1147 : decode cL_law 1147 = .ok (.iconst 1, 1) := by decide +kernel
theorem dL_law_1148 : decode cL_law 1148 = .ok (.iadd, 1) := by decide +kernel
theorem dL_law_1149 : decode cL_law 1149 = .ok (.iaload, 1) := by decide +kernel
theorem dL_law_1150 : decode cL_law 1150 = .ok (.aload_n 0, 1) := by decide +kernel
theorem dL_law_1151 : decode cL_law 1151 = .ok (.iload 4, 2) := by decide +kernel
theorem dL_law_1153 : decode cL_law 1153 = .ok (.iconst 2, 1) := by decide +kernel
theorem dL_law_1154 : decode cL_law 1154 = .ok (.iadd, 1) := by decide +kernel
theorem dL_law_1155 : decode cL_law 1155 = .ok (.iaload, 1) := by decide +kernel
theorem dL_law_1156 : decode cL_law 1156 = .ok (.aload_n 0, 1) := by decide +kernel
theorem dL_law_1157 : decode cL_law 1157 = .ok (.iload 4, 2) := by decide +kernel
theorem dL_law_1159 : decode cL_law 1159 = .ok (.iconst 3, 1) := by decide +kernel
theorem dL_law_1160 : decode cL_law 1160 = .ok (.iadd, 1) := by decide +kernel
theorem dL_law_1161 : decode cL_law 1161 = .ok (.iaload, 1) := by decide +kernel
theorem dL_law_1162 : decode cL_law 1162 = .ok (.invokevirtual 133, 3) := by decide +kernel
theorem dL_law_1165 : decode cL_law 1165 = .ok (.pop, 1) := by decide +kernel
theorem dL_law_1166 : decode cL_law 1166 = .ok (.goto 732, 3) := by decide +kernel
theorem dL_law_1169 : decode cL_law 1169 = .ok (.aload_n 1, 1) := by decide +kernel
theorem dL_law_1170 : decode cL_law 1170 = .ok (.aload_n 0, 1) := by decide +kernel
theorem dL_law_1171 : decode cL_law 1171 = .ok (.iload 4, 2) := by decide +kernel
theorem dL_law_1173 : decode cL_law 1173 = .ok (.iconst 1, 1) := by decide +kernel
theorem dL_law_1174 : decode cL_law 1174 = .ok (.iadd, 1) := by decide +kernel
theorem dL_law_1175 : decode cL_law 1175 = .ok (.iaload, 1) := by decide +kernel
theorem dL_law_1176 : decode cL_law 1176 = .ok (.aload_n 0, 1) := by decide +kernel
theorem dL_law_1177 : decode cL_law 1177 = .ok (.iload 4, 2) := by decide +kernel
theorem dL_law_1179 : decode cL_law 1179 = .ok (.iconst 2, 1) := by decide +kernel
theorem dL_law_1180 : decode cL_law 1180 = .ok (.iadd, 1) := by decide +kernel
theorem dL_law_1181 : decode cL_law 1181 = .ok (.iaload, 1) := by decide +kernel
theorem dL_law_1182 : decode cL_law 1182 = .ok (.invokevirtual 134, 3) := by decide +kernel
theorem dL_law_1185 : decode cL_law 1185 = .ok (.pop, 1) := by decide +kernel
theorem dL_law_1186 : decode cL_law 1186 = .ok (.aload_n 2, 1) := by decide +kernel
theorem dL_law_1187 : decode cL_law 1187 = .ok (.aload_n 0, 1) := by decide +kernel
theorem dL_law_1188 : decode cL_law 1188 = .ok (.iload 4, 2) := by decide +kernel
theorem dL_law_1190 : decode cL_law 1190 = .ok (.iconst 1, 1) := by decide +kernel
theorem dL_law_1191 : decode cL_law 1191 = .ok (.iadd, 1) := by decide +kernel
theorem dL_law_1192 : decode cL_law 1192 = .ok (.iaload, 1) := by decide +kernel
theorem dL_law_1193 : decode cL_law 1193 = .ok (.aload_n 0, 1) := by decide +kernel
theorem dL_law_1194 : decode cL_law 1194 = .ok (.iload 4, 2) := by decide +kernel
theorem dL_law_1196 : decode cL_law 1196 = .ok (.iconst 2, 1) := by decide +kernel
theorem dL_law_1197 : decode cL_law 1197 = .ok (.iadd, 1) := by decide +kernel
theorem dL_law_1198 : decode cL_law 1198 = .ok (.iaload, 1) := by decide +kernel
theorem dL_law_1199 : decode cL_law 1199 = .ok (.invokevirtual 137, 3) := by decide +kernel
theorem dL_law_1202 : decode cL_law 1202 = .ok (.pop, 1) := by decide +kernel
theorem dL_law_1203 : decode cL_law 1203 = .ok (.goto 695, 3) := by decide +kernel
theorem dL_law_1206 : decode cL_law 1206 = .ok (.aload_n 1, 1) := by decide +kernel
theorem dL_law_1207 : decode cL_law 1207 = .ok (.aload_n 0, 1) := by decide +kernel
theorem dL_law_1208 : decode cL_law 1208 = .ok (.iload 4, 2) := by decide +kernel
theorem dL_law_1210 : decode cL_law 1210 = .ok (.iconst 1, 1) := by decide +kernel
theorem dL_law_1211 : decode cL_law 1211 = .ok (.iadd, 1) := by decide +kernel
theorem dL_law_1212 : decode cL_law 1212 = .ok (.iaload, 1) := by decide +kernel
theorem dL_law_1213 : decode cL_law 1213 = .ok (.aload_n 0, 1) := by decide +kernel
theorem dL_law_1214 : decode cL_law 1214 = .ok (.iload 4, 2) := by decide +kernel
theorem dL_law_1216 : decode cL_law 1216 = .ok (.iconst 2, 1) := by decide +kernel
theorem dL_law_1217 : decode cL_law 1217 = .ok (.iadd, 1) := by decide +kernel
theorem dL_law_1218 : decode cL_law 1218 = .ok (.iaload, 1) := by decide +kernel
theorem dL_law_1219 : decode cL_law 1219 = .ok (.aload_n 0, 1) := by decide +kernel
theorem dL_law_1220 : decode cL_law 1220 = .ok (.iload 4, 2) := by decide +kernel
theorem dL_law_1222 : decode cL_law 1222 = .ok (.iconst 3, 1) := by decide +kernel
theorem dL_law_1223 : decode cL_law 1223 = .ok (.iadd, 1) := by decide +kernel
theorem dL_law_1224 : decode cL_law 1224 = .ok (.iaload, 1) := by decide +kernel
theorem dL_law_1225 : decode cL_law 1225 = .ok (.aload_n 0, 1) := by decide +kernel
theorem dL_law_1226 : decode cL_law 1226 = .ok (.iload 4, 2) := by decide +kernel
theorem dL_law_1228 : decode cL_law 1228 = .ok (.iconst 4, 1) := by decide +kernel
theorem dL_law_1229 : decode cL_law 1229 = .ok (.iadd, 1) := by decide +kernel
theorem dL_law_1230 : decode cL_law 1230 = .ok (.iaload, 1) := by decide +kernel
theorem dL_law_1231 : decode cL_law 1231 = .ok (.aload_n 0, 1) := by decide +kernel
theorem dL_law_1232 : decode cL_law 1232 = .ok (.iload 4, 2) := by decide +kernel
theorem dL_law_1234 : decode cL_law 1234 = .ok (.iconst 5, 1) := by decide +kernel
theorem dL_law_1235 : decode cL_law 1235 = .ok (.iadd, 1) := by decide +kernel
theorem dL_law_1236 : decode cL_law 1236 = .ok (.iaload, 1) := by decide +kernel
theorem dL_law_1237 : decode cL_law 1237 = .ok (.invokevirtual 138, 3) := by decide +kernel
theorem dL_law_1240 : decode cL_law 1240 = .ok (.pop, 1) := by decide +kernel
theorem dL_law_1241 : decode cL_law 1241 = .ok (.aload_n 2, 1) := by decide +kernel
theorem dL_law_1242 : decode cL_law 1242 = .ok (.aload_n 0, 1) := by decide +kernel
theorem dL_law_1243 : decode cL_law 1243 = .ok (.iload 4, 2) := by decide +kernel
theorem dL_law_1245 : decode cL_law 1245 = .ok (.iconst 1, 1) := by decide +kernel
theorem dL_law_1246 : decode cL_law 1246 = .ok (.iadd, 1) := by decide +kernel
theorem dL_law_1247 : decode cL_law 1247 = .ok (.iaload, 1) := by decide +kernel
theorem dL_law_1248 : decode cL_law 1248 = .ok (.aload_n 0, 1) := by decide +kernel
theorem dL_law_1249 : decode cL_law 1249 = .ok (.iload 4, 2) := by decide +kernel
theorem dL_law_1251 : decode cL_law 1251 = .ok (.iconst 2, 1) := by decide +kernel
theorem dL_law_1252 : decode cL_law 1252 = .ok (.iadd, 1) := by decide +kernel
theorem dL_law_1253 : decode cL_law 1253 = .ok (.iaload, 1) := by decide +kernel
theorem dL_law_1254 : decode cL_law 1254 = .ok (.aload_n 0, 1) := by decide +kernel
theorem dL_law_1255 : decode cL_law 1255 = .ok (.iload 4, 2) := by decide +kernel
theorem dL_law_1257 : decode cL_law 1257 = .ok (.iconst 3, 1) := by decide +kernel
theorem dL_law_1258 : decode cL_law 1258 = .ok (.iadd, 1) := by decide +kernel
theorem dL_law_1259 : decode cL_law 1259 = .ok (.iaload, 1) := by decide +kernel
theorem dL_law_1260 : decode cL_law 1260 = .ok (.aload_n 0, 1) := by decide +kernel
theorem dL_law_1261 : decode cL_law 1261 = .ok (.iload 4, 2) := by decide +kernel
theorem dL_law_1263 : decode cL_law 1263 = .ok (.iconst 4, 1) := by decide +kernel
theorem dL_law_1264 : decode cL_law 1264 = .ok (.iadd, 1) := by decide +kernel
theorem dL_law_1265 : decode cL_law 1265 = .ok (.iaload, 1) := by decide +kernel
theorem dL_law_1266 : decode cL_law 1266 = .ok (.aload_n 0, 1) := by decide +kernel
theorem dL_law_1267 : decode cL_law 1267 = .ok (.iload 4, 2) := by decide +kernel
theorem dL_law_1269 : decode cL_law 1269 = .ok (.iconst 5, 1) := by decide +kernel
theorem dL_law_1270 : decode cL_law 1270 = .ok (.iadd, 1) := by decide +kernel
theorem dL_law_1271 : decode cL_law 1271 = .ok (.iaload, 1) := by decide +kernel
theorem dL_law_1272 : decode cL_law 1272 = .ok (.invokevirtual 141, 3) := by decide +kernel
theorem dL_law_1275 : decode cL_law 1275 = .ok (.pop, 1) := by decide +kernel
theorem dL_law_1276 : decode cL_law 1276 = .ok (.goto 622, 3) := by decide +kernel
theorem dL_law_1279 : decode cL_law 1279 = .ok (.aload_n 1, 1) := by decide +kernel
theorem dL_law_1280 : decode cL_law 1280 = .ok (.aload_n 0, 1) := by decide +kernel
theorem dL_law_1281 : decode cL_law 1281 = .ok (.iload 4, 2) := by decide +kernel
theorem dL_law_1283 : decode cL_law 1283 = .ok (.iconst 1, 1) := by decide +kernel
theorem dL_law_1284 : decode cL_law 1284 = .ok (.iadd, 1) := by decide +kernel
theorem dL_law_1285 : decode cL_law 1285 = .ok (.iaload, 1) := by decide +kernel
theorem dL_law_1286 : decode cL_law 1286 = .ok (.aload_n 0, 1) := by decide +kernel
theorem dL_law_1287 : decode cL_law 1287 = .ok (.iload 4, 2) := by decide +kernel
theorem dL_law_1289 : decode cL_law 1289 = .ok (.iconst 2, 1) := by decide +kernel
theorem dL_law_1290 : decode cL_law 1290 = .ok (.iadd, 1) := by decide +kernel
theorem dL_law_1291 : decode cL_law 1291 = .ok (.iaload, 1) := by decide +kernel
theorem dL_law_1292 : decode cL_law 1292 = .ok (.aload_n 0, 1) := by decide +kernel
theorem dL_law_1293 : decode cL_law 1293 = .ok (.iload 4, 2) := by decide +kernel
theorem dL_law_1295 : decode cL_law 1295 = .ok (.iconst 3, 1) := by decide +kernel
theorem dL_law_1296 : decode cL_law 1296 = .ok (.iadd, 1) := by decide +kernel
theorem dL_law_1297 : decode cL_law 1297 = .ok (.iaload, 1) := by decide +kernel
theorem dL_law_1298 : decode cL_law 1298 = .ok (.invokevirtual 142, 3) := by decide +kernel
theorem dL_law_1301 : decode cL_law 1301 = .ok (.pop, 1) := by decide +kernel
theorem dL_law_1302 : decode cL_law 1302 = .ok (.aload_n 2, 1) := by decide +kernel
theorem dL_law_1303 : decode cL_law 1303 = .ok (.aload_n 0, 1) := by decide +kernel
theorem dL_law_1304 : decode cL_law 1304 = .ok (.iload 4, 2) := by decide +kernel
theorem dL_law_1306 : decode cL_law 1306 = .ok (.iconst 1, 1) := by decide +kernel
theorem dL_law_1307 : decode cL_law 1307 = .ok (.iadd, 1) := by decide +kernel
theorem dL_law_1308 : decode cL_law 1308 = .ok (.iaload, 1) := by decide +kernel
theorem dL_law_1309 : decode cL_law 1309 = .ok (.aload_n 0, 1) := by decide +kernel
theorem dL_law_1310 : decode cL_law 1310 = .ok (.iload 4, 2) := by decide +kernel
theorem dL_law_1312 : decode cL_law 1312 = .ok (.iconst 2, 1) := by decide +kernel
theorem dL_law_1313 : decode cL_law 1313 = .ok (.iadd, 1) := by decide +kernel
theorem dL_law_1314 : decode cL_law 1314 = .ok (.iaload, 1) := by decide +kernel
theorem dL_law_1315 : decode cL_law 1315 = .ok (.aload_n 0, 1) := by decide +kernel
theorem dL_law_1316 : decode cL_law 1316 = .ok (.iload 4, 2) := by decide +kernel
theorem dL_law_1318 : decode cL_law 1318 = .ok (.iconst 3, 1) := by decide +kernel
theorem dL_law_1319 : decode cL_law 1319 = .ok (.iadd, 1) := by decide +kernel
theorem dL_law_1320 : decode cL_law 1320 = .ok (.iaload, 1) := by decide +kernel
theorem dL_law_1321 : decode cL_law 1321 = .ok (.invokevirtual 145, 3) := by decide +kernel
theorem dL_law_1324 : decode cL_law 1324 = .ok (.pop, 1) := by decide +kernel
theorem dL_law_1325 : decode cL_law 1325 = .ok (.goto 573, 3) := by decide +kernel
theorem dL_law_1328 : decode cL_law 1328 = .ok (.aload_n 1, 1) := by decide +kernel
theorem dL_law_1329 : decode cL_law 1329 = .ok (.aload_n 0, 1) := by decide +kernel
theorem dL_law_1330 : decode cL_law 1330 = .ok (.iload 4, 2) := by decide +kernel
theorem dL_law_1332 : decode cL_law 1332 = .ok (.iconst 1, 1) := by decide +kernel
theorem dL_law_1333 : decode cL_law 1333 = .ok (.iadd, 1) := by decide +kernel
theorem dL_law_1334 : decode cL_law 1334 = .ok (.iaload, 1) := by decide +kernel
theorem dL_law_1335 : decode cL_law 1335 = .ok (.aload_n 0, 1) := by decide +kernel
theorem dL_law_1336 : decode cL_law 1336 = .ok (.iload 4, 2) := by decide +kernel
theorem dL_law_1338 : decode cL_law 1338 = .ok (.iconst 2, 1) := by decide +kernel
theorem dL_law_1339 : decode cL_law 1339 = .ok (.iadd, 1) := by decide +kernel
theorem dL_law_1340 : decode cL_law 1340 = .ok (.iaload, 1) := by decide +kernel
theorem dL_law_1341 : decode cL_law 1341 = .ok (.aload_n 0, 1) := by decide +kernel
theorem dL_law_1342 : decode cL_law 1342 = .ok (.iload 4, 2) := by decide +kernel
theorem dL_law_1344 : decode cL_law 1344 = .ok (.iconst 3, 1) := by decide +kernel
theorem dL_law_1345 : decode cL_law 1345 = .ok (.iadd, 1) := by decide +kernel
theorem dL_law_1346 : decode cL_law 1346 = .ok (.iaload, 1) := by decide +kernel
theorem dL_law_1347 : decode cL_law 1347 = .ok (.invokevirtual 146, 3) := by decide +kernel
theorem dL_law_1350 : decode cL_law 1350 = .ok (.pop, 1) := by decide +kernel
theorem dL_law_1351 : decode cL_law 1351 = .ok (.aload_n 2, 1) := by decide +kernel
theorem dL_law_1352 : decode cL_law 1352 = .ok (.aload_n 0, 1) := by decide +kernel
theorem dL_law_1353 : decode cL_law 1353 = .ok (.iload 4, 2) := by decide +kernel
theorem dL_law_1355 : decode cL_law 1355 = .ok (.iconst 1, 1) := by decide +kernel
theorem dL_law_1356 : decode cL_law 1356 = .ok (.iadd, 1) := by decide +kernel
theorem dL_law_1357 : decode cL_law 1357 = .ok (.iaload, 1) := by decide +kernel
theorem dL_law_1358 : decode cL_law 1358 = .ok (.aload_n 0, 1) := by decide +kernel
theorem dL_law_1359 : decode cL_law 1359 = .ok (.iload 4, 2) := by decide +kernel
theorem dL_law_1361 : decode cL_law 1361 = .ok (.iconst 2, 1) := by decide +kernel
theorem dL_law_1362 : decode cL_law 1362 = .ok (.iadd, 1) := by decide +kernel
theorem dL_law_1363 : decode cL_law 1363 = .ok (.iaload, 1) := by decide +kernel
theorem dL_law_1364 : decode cL_law 1364 = .ok (.aload_n 0, 1) := by decide +kernel
theorem dL_law_1365 : decode cL_law 1365 = .ok (.iload 4, 2) := by decide +kernel
theorem dL_law_1367 : decode cL_law 1367 = .ok (.iconst 3, 1) := by decide +kernel
theorem dL_law_1368 : decode cL_law 1368 = .ok (.iadd, 1) := by decide +kernel
theorem dL_law_1369 : decode cL_law 1369 = .ok (.iaload, 1) := by decide +kernel
theorem dL_law_1370 : decode cL_law 1370 = .ok (.invokevirtual 149, 3) := by decide +kernel
theorem dL_law_1373 : decode cL_law 1373 = .ok (.pop, 1) := by decide +kernel
theorem dL_law_1374 : decode cL_law 1374 = .ok (.goto 524, 3) := by decide +kernel
theorem dL_law_1377 : decode cL_law 1377 = .ok (.aload_n 1, 1) := by decide +kernel
theorem dL_law_1378 : decode cL_law 1378 = .ok (.aload_n 0, 1) := by decide +kernel
theorem dL_law_1379 : decode cL_law 1379 = .ok (.iload 4, 2) := by decide +kernel
theorem dL_law_1381 : decode cL_law 1381 = .ok (.iconst 1, 1) := by decide +kernel
theorem dL_law_1382 : decode cL_law 1382 = .ok (.iadd, 1) := by decide +kernel
theorem dL_law_1383 : decode cL_law 1383 = .ok (.iaload, 1) := by decide +kernel
theorem dL_law_1384 : decode cL_law 1384 = .ok (.aload_n 0, 1) := by decide +kernel
theorem dL_law_1385 : decode cL_law 1385 = .ok (.iload 4, 2) := by decide +kernel
theorem dL_law_1387 : decode cL_law 1387 = .ok (.iconst 2, 1) := by decide +kernel
theorem dL_law_1388 : decode cL_law 1388 = .ok (.iadd, 1) := by decide +kernel
theorem dL_law_1389 : decode cL_law 1389 = .ok (.iaload, 1) := by decide +kernel
theorem dL_law_1390 : decode cL_law 1390 = .ok (.aload_n 0, 1) := by decide +kernel
theorem dL_law_1391 : decode cL_law 1391 = .ok (.iload 4, 2) := by decide +kernel
theorem dL_law_1393 : decode cL_law 1393 = .ok (.iconst 3, 1) := by decide +kernel
theorem dL_law_1394 : decode cL_law 1394 = .ok (.iadd, 1) := by decide +kernel
theorem dL_law_1395 : decode cL_law 1395 = .ok (.iaload, 1) := by decide +kernel
theorem dL_law_1396 : decode cL_law 1396 = .ok (.aload_n 0, 1) := by decide +kernel
theorem dL_law_1397 : decode cL_law 1397 = .ok (.iload 4, 2) := by decide +kernel
theorem dL_law_1399 : decode cL_law 1399 = .ok (.iconst 4, 1) := by decide +kernel
theorem dL_law_1400 : decode cL_law 1400 = .ok (.iadd, 1) := by decide +kernel
theorem dL_law_1401 : decode cL_law 1401 = .ok (.iaload, 1) := by decide +kernel
theorem dL_law_1402 : decode cL_law 1402 = .ok (.invokevirtual 150, 3) := by decide +kernel
theorem dL_law_1405 : decode cL_law 1405 = .ok (.pop, 1) := by decide +kernel
theorem dL_law_1406 : decode cL_law 1406 = .ok (.aload_n 2, 1) := by decide +kernel
theorem dL_law_1407 : decode cL_law 1407 = .ok (.aload_n 0, 1) := by decide +kernel
theorem dL_law_1408 : decode cL_law 1408 = .ok (.iload 4, 2) := by decide +kernel
theorem dL_law_1410 : decode cL_law 1410 = .ok (.iconst 1, 1) := by decide +kernel
theorem dL_law_1411 : decode cL_law 1411 = .ok (.iadd, 1) := by decide +kernel
theorem dL_law_1412 : decode cL_law 1412 = .ok (.iaload, 1) := by decide +kernel
theorem dL_law_1413 : decode cL_law 1413 = .ok (.aload_n 0, 1) := by decide +kernel
theorem dL_law_1414 : decode cL_law 1414 = .ok (.iload 4, 2) := by decide +kernel
theorem dL_law_1416 : decode cL_law 1416 = .ok (.iconst 2, 1) := by decide +kernel
theorem dL_law_1417 : decode cL_law 1417 = .ok (.iadd, 1) := by decide +kernel
theorem dL_law_1418 : decode cL_law 1418 = .ok (.iaload, 1) := by decide +kernel
theorem dL_law_1419 : decode cL_law 1419 = .ok (.aload_n 0, 1) := by decide +kernel
theorem dL_law_1420 : decode cL_law 1420 = .ok (.iload 4, 2) := by decide +kernel
theorem dL_law_1422 : decode cL_law 1422 = .ok (.iconst 3, 1) := by decide +kernel
theorem dL_law_1423 : decode cL_law 1423 = .ok (.iadd, 1) := by decide +kernel
theorem dL_law_1424 : decode cL_law 1424 = .ok (.iaload, 1) := by decide +kernel
theorem dL_law_1425 : decode cL_law 1425 = .ok (.aload_n 0, 1) := by decide +kernel
theorem dL_law_1426 : decode cL_law 1426 = .ok (.iload 4, 2) := by decide +kernel
theorem dL_law_1428 : decode cL_law 1428 = .ok (.iconst 4, 1) := by decide +kernel
theorem dL_law_1429 : decode cL_law 1429 = .ok (.iadd, 1) := by decide +kernel
theorem dL_law_1430 : decode cL_law 1430 = .ok (.iaload, 1) := by decide +kernel
theorem dL_law_1431 : decode cL_law 1431 = .ok (.invokevirtual 154, 3) := by decide +kernel
theorem dL_law_1434 : decode cL_law 1434 = .ok (.pop, 1) := by decide +kernel
theorem dL_law_1435 : decode cL_law 1435 = .ok (.goto 463, 3) := by decide +kernel
theorem dL_law_1438 : decode cL_law 1438 = .ok (.aload_n 1, 1) := by decide +kernel
theorem dL_law_1439 : decode cL_law 1439 = .ok (.aload_n 0, 1) := by decide +kernel
theorem dL_law_1440 : decode cL_law 1440 = .ok (.iload 4, 2) := by decide +kernel
theorem dL_law_1442 : decode cL_law 1442 = .ok (.iconst 1, 1) := by decide +kernel
theorem dL_law_1443 : decode cL_law 1443 = .ok (.iadd, 1) := by decide +kernel
theorem dL_law_1444 : decode cL_law 1444 = .ok (.iaload, 1) := by decide +kernel
theorem dL_law_1445 : decode cL_law 1445 = .ok (.aload_n 0, 1) := by decide +kernel
theorem dL_law_1446 : decode cL_law 1446 = .ok (.iload 4, 2) := by decide +kernel
theorem dL_law_1448 : decode cL_law 1448 = .ok (.iconst 2, 1) := by decide +kernel
theorem dL_law_1449 : decode cL_law 1449 = .ok (.iadd, 1) := by decide +kernel
theorem dL_law_1450 : decode cL_law 1450 = .ok (.iaload, 1) := by decide +kernel
theorem dL_law_1451 : decode cL_law 1451 = .ok (.invokevirtual 155, 3) := by decide +kernel
theorem dL_law_1454 : decode cL_law 1454 = .ok (.pop, 1) := by decide +kernel
theorem dL_law_1455 : decode cL_law 1455 = .ok (.aload_n 2, 1) := by decide +kernel
theorem dL_law_1456 : decode cL_law 1456 = .ok (.aload_n 0, 1) := by decide +kernel
theorem dL_law_1457 : decode cL_law 1457 = .ok (.iload 4, 2) := by decide +kernel
theorem dL_law_1459 : decode cL_law 1459 = .ok (.iconst 1, 1) := by decide +kernel
theorem dL_law_1460 : decode cL_law 1460 = .ok (.iadd, 1) := by decide +kernel
theorem dL_law_1461 : decode cL_law 1461 = .ok (.iaload, 1) := by decide +kernel
theorem dL_law_1462 : decode cL_law 1462 = .ok (.aload_n 0, 1) := by decide +kernel
theorem dL_law_1463 : decode cL_law 1463 = .ok (.iload 4, 2) := by decide +kernel
theorem dL_law_1465 : decode cL_law 1465 = .ok (.iconst 2, 1) := by decide +kernel
theorem dL_law_1466 : decode cL_law 1466 = .ok (.iadd, 1) := by decide +kernel
theorem dL_law_1467 : decode cL_law 1467 = .ok (.iaload, 1) := by decide +kernel
theorem dL_law_1468 : decode cL_law 1468 = .ok (.invokevirtual 158, 3) := by decide +kernel
theorem dL_law_1471 : decode cL_law 1471 = .ok (.pop, 1) := by decide +kernel
theorem dL_law_1472 : decode cL_law 1472 = .ok (.goto 426, 3) := by decide +kernel
theorem dL_law_1475 : decode cL_law 1475 = .ok (.aload_n 1, 1) := by decide +kernel
theorem dL_law_1476 : decode cL_law 1476 = .ok (.aload_n 0, 1) := by decide +kernel
theorem dL_law_1477 : decode cL_law 1477 = .ok (.iload 4, 2) := by decide +kernel
theorem dL_law_1479 : decode cL_law 1479 = .ok (.iconst 1, 1) := by decide +kernel
theorem dL_law_1480 : decode cL_law 1480 = .ok (.iadd, 1) := by decide +kernel
theorem dL_law_1481 : decode cL_law 1481 = .ok (.iaload, 1) := by decide +kernel
theorem dL_law_1482 : decode cL_law 1482 = .ok (.invokevirtual 159, 3) := by decide +kernel
theorem dL_law_1485 : decode cL_law 1485 = .ok (.pop, 1) := by decide +kernel
theorem dL_law_1486 : decode cL_law 1486 = .ok (.aload_n 2, 1) := by decide +kernel
theorem dL_law_1487 : decode cL_law 1487 = .ok (.aload_n 0, 1) := by decide +kernel
theorem dL_law_1488 : decode cL_law 1488 = .ok (.iload 4, 2) := by decide +kernel
theorem dL_law_1490 : decode cL_law 1490 = .ok (.iconst 1, 1) := by decide +kernel
theorem dL_law_1491 : decode cL_law 1491 = .ok (.iadd, 1) := by decide +kernel
theorem dL_law_1492 : decode cL_law 1492 = .ok (.iaload, 1) := by decide +kernel
theorem dL_law_1493 : decode cL_law 1493 = .ok (.invokevirtual 162, 3) := by decide +kernel
theorem dL_law_1496 : decode cL_law 1496 = .ok (.pop, 1) := by decide +kernel
theorem dL_law_1497 : decode cL_law 1497 = .ok (.goto 401, 3) := by decide +kernel
theorem dL_law_1500 : decode cL_law 1500 = .ok (.aload_n 1, 1) := by decide +kernel
theorem dL_law_1501 : decode cL_law 1501 = .ok (.aload_n 0, 1) := by decide +kernel
theorem dL_law_1502 : decode cL_law 1502 = .ok (.iload 4, 2) := by decide +kernel
theorem dL_law_1504 : decode cL_law 1504 = .ok (.iconst 1, 1) := by decide +kernel
theorem dL_law_1505 : decode cL_law 1505 = .ok (.iadd, 1) := by decide +kernel
theorem dL_law_1506 : decode cL_law 1506 = .ok (.iaload, 1) := by decide +kernel
theorem dL_law_1507 : decode cL_law 1507 = .ok (.aload_n 0, 1) := by decide +kernel
theorem dL_law_1508 : decode cL_law 1508 = .ok (.iload 4, 2) := by decide +kernel
theorem dL_law_1510 : decode cL_law 1510 = .ok (.iconst 2, 1) := by decide +kernel
theorem dL_law_1511 : decode cL_law 1511 = .ok (.iadd, 1) := by decide +kernel
theorem dL_law_1512 : decode cL_law 1512 = .ok (.iaload, 1) := by decide +kernel
theorem dL_law_1513 : decode cL_law 1513 = .ok (.invokevirtual 163, 3) := by decide +kernel
theorem dL_law_1516 : decode cL_law 1516 = .ok (.pop, 1) := by decide +kernel
theorem dL_law_1517 : decode cL_law 1517 = .ok (.aload_n 2, 1) := by decide +kernel
theorem dL_law_1518 : decode cL_law 1518 = .ok (.aload_n 0, 1) := by decide +kernel
theorem dL_law_1519 : decode cL_law 1519 = .ok (.iload 4, 2) := by decide +kernel
theorem dL_law_1521 : decode cL_law 1521 = .ok (.iconst 1, 1) := by decide +kernel
theorem dL_law_1522 : decode cL_law 1522 = .ok (.iadd, 1) := by decide +kernel
theorem dL_law_1523 : decode cL_law 1523 = .ok (.iaload, 1) := by decide +kernel
theorem dL_law_1524 : decode cL_law 1524 = .ok (.aload_n 0, 1) := by decide +kernel
theorem dL_law_1525 : decode cL_law 1525 = .ok (.iload 4, 2) := by decide +kernel
theorem dL_law_1527 : decode cL_law 1527 = .ok (.iconst 2, 1) := by decide +kernel
theorem dL_law_1528 : decode cL_law 1528 = .ok (.iadd, 1) := by decide +kernel
theorem dL_law_1529 : decode cL_law 1529 = .ok (.iaload, 1) := by decide +kernel
theorem dL_law_1530 : decode cL_law 1530 = .ok (.invokevirtual 166, 3) := by decide +kernel
theorem dL_law_1533 : decode cL_law 1533 = .ok (.pop, 1) := by decide +kernel
theorem dL_law_1534 : decode cL_law 1534 = .ok (.goto 364, 3) := by decide +kernel
theorem dL_law_1537 : decode cL_law 1537 = .ok (.aload_n 1, 1) := by decide +kernel
theorem dL_law_1538 : decode cL_law 1538 = .ok (.aload_n 0, 1) := by decide +kernel
theorem dL_law_1539 : decode cL_law 1539 = .ok (.iload 4, 2) := by decide +kernel
theorem dL_law_1541 : decode cL_law 1541 = .ok (.iconst 1, 1) := by decide +kernel
theorem dL_law_1542 : decode cL_law 1542 = .ok (.iadd, 1) := by decide +kernel
theorem dL_law_1543 : decode cL_law 1543 = .ok (.iaload, 1) := by decide +kernel
theorem dL_law_1544 : decode cL_law 1544 = .ok (.aload_n 0, 1) := by decide +kernel
theorem dL_law_1545 : decode cL_law 1545 = .ok (.iload 4, 2) := by decide +kernel
theorem dL_law_1547 : decode cL_law 1547 = .ok (.iconst 2, 1) := by decide +kernel
theorem dL_law_1548 : decode cL_law 1548 = .ok (.iadd, 1) := by decide +kernel
theorem dL_law_1549 : decode cL_law 1549 = .ok (.iaload, 1) := by decide +kernel
theorem dL_law_1550 : decode cL_law 1550 = .ok (.aload_n 0, 1) := by decide +kernel
theorem dL_law_1551 : decode cL_law 1551 = .ok (.iload 4, 2) := by decide +kernel
theorem dL_law_1553 : decode cL_law 1553 = .ok (.iconst 3, 1) := by decide +kernel
theorem dL_law_1554 : decode cL_law 1554 = .ok (.iadd, 1) := by decide +kernel
theorem dL_law_1555 : decode cL_law 1555 = .ok (.iaload, 1) := by decide +kernel
theorem dL_law_1556 : decode cL_law 1556 = .ok (.invokevirtual 167, 3) := by decide +kernel
theorem dL_law_1559 : decode cL_law 1559 = .ok (.pop, 1) := by decide +kernel
theorem dL_law_1560 : decode cL_law 1560 = .ok (.aload_n 2, 1) := by decide +kernel
theorem dL_law_1561 : decode cL_law 1561 = .ok (.aload_n 0, 1) := by decide +kernel
theorem dL_law_1562 : decode cL_law 1562 = .ok (.iload 4, 2) := by decide +kernel
theorem dL_law_1564 : decode cL_law 1564 = .ok (.iconst 1, 1) := by decide +kernel
theorem dL_law_1565 : decode cL_law 1565 = .ok (.iadd, 1) := by decide +kernel
theorem dL_law_1566 : decode cL_law 1566 = .ok (.iaload, 1) := by decide +kernel
theorem dL_law_1567 : decode cL_law 1567 = .ok (.aload_n 0, 1) := by decide +kernel
theorem dL_law_1568 : decode cL_law 1568 = .ok (.iload 4, 2) := by decide +kernel
theorem dL_law_1570 : decode cL_law 1570 = .ok (.iconst 2, 1) := by decide +kernel
theorem dL_law_1571 : decode cL_law 1571 = .ok (.iadd, 1) := by decide +kernel
theorem dL_law_1572 : decode cL_law 1572 = .ok (.iaload, 1) := by decide +kernel
theorem dL_law_1573 : decode cL_law 1573 = .ok (.aload_n 0, 1) := by decide +kernel
theorem dL_law_1574 : decode cL_law 1574 = .ok (.iload 4, 2) := by decide +kernel
theorem dL_law_1576 : decode cL_law 1576 = .ok (.iconst 3, 1) := by decide +kernel
theorem dL_law_1577 : decode cL_law 1577 = .ok (.iadd, 1) := by decide +kernel
theorem dL_law_1578 : decode cL_law 1578 = .ok (.iaload, 1) := by decide +kernel
theorem dL_law_1579 : decode cL_law 1579 = .ok (.invokevirtual 170, 3) := by decide +kernel
theorem dL_law_1582 : decode cL_law 1582 = .ok (.pop, 1) := by decide +kernel
theorem dL_law_1583 : decode cL_law 1583 = .ok (.goto 315, 3) := by decide +kernel
theorem dL_law_1586 : decode cL_law 1586 = .ok (.aload_n 1, 1) := by decide +kernel
theorem dL_law_1587 : decode cL_law 1587 = .ok (.aload_n 0, 1) := by decide +kernel
theorem dL_law_1588 : decode cL_law 1588 = .ok (.iload 4, 2) := by decide +kernel
theorem dL_law_1590 : decode cL_law 1590 = .ok (.iconst 1, 1) := by decide +kernel
theorem dL_law_1591 : decode cL_law 1591 = .ok (.iadd, 1) := by decide +kernel
theorem dL_law_1592 : decode cL_law 1592 = .ok (.iaload, 1) := by decide +kernel
theorem dL_law_1593 : decode cL_law 1593 = .ok (.invokevirtual 171, 3) := by decide +kernel
theorem dL_law_1596 : decode cL_law 1596 = .ok (.pop, 1) := by decide +kernel
theorem dL_law_1597 : decode cL_law 1597 = .ok (.aload_n 2, 1) := by decide +kernel
theorem dL_law_1598 : decode cL_law 1598 = .ok (.aload_n 0, 1) := by decide +kernel
theorem dL_law_1599 : decode cL_law 1599 = .ok (.iload 4, 2) := by decide +kernel
theorem dL_law_1601 : decode cL_law 1601 = .ok (.iconst 1, 1) := by decide +kernel
theorem dL_law_1602 : decode cL_law 1602 = .ok (.iadd, 1) := by decide +kernel
theorem dL_law_1603 : decode cL_law 1603 = .ok (.iaload, 1) := by decide +kernel
theorem dL_law_1604 : decode cL_law 1604 = .ok (.invokevirtual 174, 3) := by decide +kernel
theorem dL_law_1607 : decode cL_law 1607 = .ok (.pop, 1) := by decide +kernel
theorem dL_law_1608 : decode cL_law 1608 = .ok (.goto 290, 3) := by decide +kernel
theorem dL_law_1611 : decode cL_law 1611 = .ok (.aload_n 1, 1) := by decide +kernel
theorem dL_law_1612 : decode cL_law 1612 = .ok (.aload_n 0, 1) := by decide +kernel
theorem dL_law_1613 : decode cL_law 1613 = .ok (.iload 4, 2) := by decide +kernel
theorem dL_law_1615 : decode cL_law 1615 = .ok (.iconst 1, 1) := by decide +kernel
theorem dL_law_1616 : decode cL_law 1616 = .ok (.iadd, 1) := by decide +kernel
theorem dL_law_1617 : decode cL_law 1617 = .ok (.iaload, 1) := by decide +kernel
theorem dL_law_1618 : decode cL_law 1618 = .ok (.aload_n 0, 1) := by decide +kernel
theorem dL_law_1619 : decode cL_law 1619 = .ok (.iload 4, 2) := by decide +kernel
theorem dL_law_1621 : decode cL_law 1621 = .ok (.iconst 2, 1) := by decide +kernel
theorem dL_law_1622 : decode cL_law 1622 = .ok (.iadd, 1) := by decide +kernel
theorem dL_law_1623 : decode cL_law 1623 = .ok (.iaload, 1) := by decide +kernel
theorem dL_law_1624 : decode cL_law 1624 = .ok (.invokevirtual 175, 3) := by decide +kernel
theorem dL_law_1627 : decode cL_law 1627 = .ok (.pop, 1) := by decide +kernel
theorem dL_law_1628 : decode cL_law 1628 = .ok (.aload_n 2, 1) := by decide +kernel
theorem dL_law_1629 : decode cL_law 1629 = .ok (.aload_n 0, 1) := by decide +kernel
theorem dL_law_1630 : decode cL_law 1630 = .ok (.iload 4, 2) := by decide +kernel
theorem dL_law_1632 : decode cL_law 1632 = .ok (.iconst 1, 1) := by decide +kernel
theorem dL_law_1633 : decode cL_law 1633 = .ok (.iadd, 1) := by decide +kernel
theorem dL_law_1634 : decode cL_law 1634 = .ok (.iaload, 1) := by decide +kernel
theorem dL_law_1635 : decode cL_law 1635 = .ok (.aload_n 0, 1) := by decide +kernel
theorem dL_law_1636 : decode cL_law 1636 = .ok (.iload 4, 2) := by decide +kernel
theorem dL_law_1638 : decode cL_law 1638 = .ok (.iconst 2, 1) := by decide +kernel
theorem dL_law_1639 : decode cL_law 1639 = .ok (.iadd, 1) := by decide +kernel
theorem dL_law_1640 : decode cL_law 1640 = .ok (.iaload, 1) := by decide +kernel
theorem dL_law_1641 : decode cL_law 1641 = .ok (.invokevirtual 178, 3) := by decide +kernel
theorem dL_law_1644 : decode cL_law 1644 = .ok (.pop, 1) := by decide +kernel
theorem dL_law_1645 : decode cL_law 1645 = .ok (.goto 253, 3) := by decide +kernel
theorem dL_law_1648 : decode cL_law 1648 = .ok (.aload_n 1, 1) := by decide +kernel
theorem dL_law_1649 : decode cL_law 1649 = .ok (.aload_n 0, 1) := by decide +kernel
theorem dL_law_1650 : decode cL_law 1650 = .ok (.iload 4, 2) := by decide +kernel
theorem dL_law_1652 : decode cL_law 1652 = .ok (.iconst 1, 1) := by decide +kernel
theorem dL_law_1653 : decode cL_law 1653 = .ok (.iadd, 1) := by decide +kernel
theorem dL_law_1654 : decode cL_law 1654 = .ok (.iaload, 1) := by decide +kernel
theorem dL_law_1655 : decode cL_law 1655 = .ok (.invokevirtual 179, 3) := by decide +kernel
theorem dL_law_1658 : decode cL_law 1658 = .ok (.pop, 1) := by decide +kernel
theorem dL_law_1659 : decode cL_law 1659 = .ok (.aload_n 2, 1) := by decide +kernel
theorem dL_law_1660 : decode cL_law 1660 = .ok (.aload_n 0, 1) := by decide +kernel
theorem dL_law_1661 : decode cL_law 1661 = .ok (.iload 4, 2) := by decide +kernel
theorem dL_law_1663 : decode cL_law 1663 = .ok (.iconst 1, 1) := by decide +kernel
theorem dL_law_1664 : decode cL_law 1664 = .ok (.iadd, 1) := by decide +kernel
theorem dL_law_1665 : decode cL_law 1665 = .ok (.iaload, 1) := by decide +kernel
theorem dL_law_1666 : decode cL_law 1666 = .ok (.invokevirtual 182, 3) := by decide +kernel
theorem dL_law_1669 : decode cL_law 1669 = .ok (.pop, 1) := by decide +kernel
theorem dL_law_1670 : decode cL_law 1670 = .ok (.goto 228, 3) := by decide +kernel
theorem dL_law_1673 : decode cL_law 1673 = .ok (.aload_n 1, 1) := by decide +kernel
theorem dL_law_1674 : decode cL_law 1674 = .ok (.aload_n 0, 1) := by decide +kernel
theorem dL_law_1675 : decode cL_law 1675 = .ok (.iload 4, 2) := by decide +kernel
theorem dL_law_1677 : decode cL_law 1677 = .ok (.iconst 1, 1) := by decide +kernel
theorem dL_law_1678 : decode cL_law 1678 = .ok (.iadd, 1) := by decide +kernel
theorem dL_law_1679 : decode cL_law 1679 = .ok (.iaload, 1) := by decide +kernel
theorem dL_law_1680 : decode cL_law 1680 = .ok (.aload_n 0, 1) := by decide +kernel
theorem dL_law_1681 : decode cL_law 1681 = .ok (.iload 4, 2) := by decide +kernel
theorem dL_law_1683 : decode cL_law 1683 = .ok (.iconst 2, 1) := by decide +kernel
theorem dL_law_1684 : decode cL_law 1684 = .ok (.iadd, 1) := by decide +kernel
theorem dL_law_1685 : decode cL_law 1685 = .ok (.iaload, 1) := by decide +kernel
theorem dL_law_1686 : decode cL_law 1686 = .ok (.invokevirtual 183, 3) := by decide +kernel
theorem dL_law_1689 : decode cL_law 1689 = .ok (.pop, 1) := by decide +kernel
theorem dL_law_1690 : decode cL_law 1690 = .ok (.aload_n 2, 1) := by decide +kernel
theorem dL_law_1691 : decode cL_law 1691 = .ok (.aload_n 0, 1) := by decide +kernel
theorem dL_law_1692 : decode cL_law 1692 = .ok (.iload 4, 2) := by decide +kernel
theorem dL_law_1694 : decode cL_law 1694 = .ok (.iconst 1, 1) := by decide +kernel
theorem dL_law_1695 : decode cL_law 1695 = .ok (.iadd, 1) := by decide +kernel
theorem dL_law_1696 : decode cL_law 1696 = .ok (.iaload, 1) := by decide +kernel
theorem dL_law_1697 : decode cL_law 1697 = .ok (.aload_n 0, 1) := by decide +kernel
theorem dL_law_1698 : decode cL_law 1698 = .ok (.iload 4, 2) := by decide +kernel
theorem dL_law_1700 : decode cL_law 1700 = .ok (.iconst 2, 1) := by decide +kernel
theorem dL_law_1701 : decode cL_law 1701 = .ok (.iadd, 1) := by decide +kernel
theorem dL_law_1702 : decode cL_law 1702 = .ok (.iaload, 1) := by decide +kernel
theorem dL_law_1703 : decode cL_law 1703 = .ok (.invokevirtual 186, 3) := by decide +kernel
theorem dL_law_1706 : decode cL_law 1706 = .ok (.pop, 1) := by decide +kernel
theorem dL_law_1707 : decode cL_law 1707 = .ok (.goto 191, 3) := by decide +kernel
theorem dL_law_1710 : decode cL_law 1710 = .ok (.aload_n 1, 1) := by decide +kernel
theorem dL_law_1711 : decode cL_law 1711 = .ok (.aload_n 0, 1) := by decide +kernel
theorem dL_law_1712 : decode cL_law 1712 = .ok (.iload 4, 2) := by decide +kernel
theorem dL_law_1714 : decode cL_law 1714 = .ok (.iconst 1, 1) := by decide +kernel
theorem dL_law_1715 : decode cL_law 1715 = .ok (.iadd, 1) := by decide +kernel
theorem dL_law_1716 : decode cL_law 1716 = .ok (.iaload, 1) := by decide +kernel
theorem dL_law_1717 : decode cL_law 1717 = .ok (.invokevirtual 187, 3) := by decide +kernel
theorem dL_law_1720 : decode cL_law 1720 = .ok (.pop, 1) := by decide +kernel
theorem dL_law_1721 : decode cL_law 1721 = .ok (.aload_n 2, 1) := by decide +kernel
theorem dL_law_1722 : decode cL_law 1722 = .ok (.aload_n 0, 1) := by decide +kernel
theorem dL_law_1723 : decode cL_law 1723 = .ok (.iload 4, 2) := by decide +kernel
theorem dL_law_1725 : decode cL_law 1725 = .ok (.iconst 1, 1) := by decide +kernel
theorem dL_law_1726 : decode cL_law 1726 = .ok (.iadd, 1) := by decide +kernel
theorem dL_law_1727 : decode cL_law 1727 = .ok (.iaload, 1) := by decide +kernel
theorem dL_law_1728 : decode cL_law 1728 = .ok (.invokevirtual 190, 3) := by decide +kernel
theorem dL_law_1731 : decode cL_law 1731 = .ok (.pop, 1) := by decide +kernel
theorem dL_law_1732 : decode cL_law 1732 = .ok (.goto 166, 3) := by decide +kernel
theorem dL_law_1735 : decode cL_law 1735 = .ok (.aload_n 1, 1) := by decide +kernel
theorem dL_law_1736 : decode cL_law 1736 = .ok (.aload_n 0, 1) := by decide +kernel
theorem dL_law_1737 : decode cL_law 1737 = .ok (.iload 4, 2) := by decide +kernel
theorem dL_law_1739 : decode cL_law 1739 = .ok (.iconst 1, 1) := by decide +kernel
theorem dL_law_1740 : decode cL_law 1740 = .ok (.iadd, 1) := by decide +kernel
theorem dL_law_1741 : decode cL_law 1741 = .ok (.iaload, 1) := by decide +kernel
theorem dL_law_1742 : decode cL_law 1742 = .ok (.aload_n 0, 1) := by decide +kernel
theorem dL_law_1743 : decode cL_law 1743 = .ok (.iload 4, 2) := by decide +kernel
theorem dL_law_1745 : decode cL_law 1745 = .ok (.iconst 2, 1) := by decide +kernel
theorem dL_law_1746 : decode cL_law 1746 = .ok (.iadd, 1) := by decide +kernel
theorem dL_law_1747 : decode cL_law 1747 = .ok (.iaload, 1) := by decide +kernel
theorem dL_law_1748 : decode cL_law 1748 = .ok (.invokevirtual 191, 3) := by decide +kernel
theorem dL_law_1751 : decode cL_law 1751 = .ok (.pop, 1) := by decide +kernel
theorem dL_law_1752 : decode cL_law 1752 = .ok (.aload_n 2, 1) := by decide +kernel
theorem dL_law_1753 : decode cL_law 1753 = .ok (.aload_n 0, 1) := by decide +kernel
theorem dL_law_1754 : decode cL_law 1754 = .ok (.iload 4, 2) := by decide +kernel
theorem dL_law_1756 : decode cL_law 1756 = .ok (.iconst 1, 1) := by decide +kernel
theorem dL_law_1757 : decode cL_law 1757 = .ok (.iadd, 1) := by decide +kernel
theorem dL_law_1758 : decode cL_law 1758 = .ok (.iaload, 1) := by decide +kernel
theorem dL_law_1759 : decode cL_law 1759 = .ok (.aload_n 0, 1) := by decide +kernel
theorem dL_law_1760 : decode cL_law 1760 = .ok (.iload 4, 2) := by decide +kernel
theorem dL_law_1762 : decode cL_law 1762 = .ok (.iconst 2, 1) := by decide +kernel
theorem dL_law_1763 : decode cL_law 1763 = .ok (.iadd, 1) := by decide +kernel
theorem dL_law_1764 : decode cL_law 1764 = .ok (.iaload, 1) := by decide +kernel
theorem dL_law_1765 : decode cL_law 1765 = .ok (.invokevirtual 194, 3) := by decide +kernel
theorem dL_law_1768 : decode cL_law 1768 = .ok (.pop, 1) := by decide +kernel
theorem dL_law_1769 : decode cL_law 1769 = .ok (.goto 129, 3) := by decide +kernel
theorem dL_law_1772 : decode cL_law 1772 = .ok (.aload_n 1, 1) := by decide +kernel
theorem dL_law_1773 : decode cL_law 1773 = .ok (.aload_n 0, 1) := by decide +kernel
theorem dL_law_1774 : decode cL_law 1774 = .ok (.iload 4, 2) := by decide +kernel
theorem dL_law_1776 : decode cL_law 1776 = .ok (.iconst 1, 1) := by decide +kernel
theorem dL_law_1777 : decode cL_law 1777 = .ok (.iadd, 1) := by decide +kernel
theorem dL_law_1778 : decode cL_law 1778 = .ok (.iaload, 1) := by decide +kernel
theorem dL_law_1779 : decode cL_law 1779 = .ok (.aload_n 0, 1) := by decide +kernel
theorem dL_law_1780 : decode cL_law 1780 = .ok (.iload 4, 2) := by decide +kernel
theorem dL_law_1782 : decode cL_law 1782 = .ok (.iconst 2, 1) := by decide +kernel
theorem dL_law_1783 : decode cL_law 1783 = .ok (.iadd, 1) := by decide +kernel
theorem dL_law_1784 : decode cL_law 1784 = .ok (.iaload, 1) := by decide +kernel
theorem dL_law_1785 : decode cL_law 1785 = .ok (.invokevirtual 195, 3) := by decide +kernel
theorem dL_law_1788 : decode cL_law 1788 = .ok (.pop, 1) := by decide +kernel
theorem dL_law_1789 : decode cL_law 1789 = .ok (.aload_n 2, 1) := by decide +kernel
theorem dL_law_1790 : decode cL_law 1790 = .ok (.aload_n 0, 1) := by decide +kernel
theorem dL_law_1791 : decode cL_law 1791 = .ok (.iload 4, 2) := by decide +kernel
theorem dL_law_1793 : decode cL_law 1793 = .ok (.iconst 1, 1) := by decide +kernel
theorem dL_law_1794 : decode cL_law 1794 = .ok (.iadd, 1) := by decide +kernel
theorem dL_law_1795 : decode cL_law 1795 = .ok (.iaload, 1) := by decide +kernel
theorem dL_law_1796 : decode cL_law 1796 = .ok (.aload_n 0, 1) := by decide +kernel
theorem dL_law_1797 : decode cL_law 1797 = .ok (.iload 4, 2) := by decide +kernel
theorem dL_law_1799 : decode cL_law 1799 = .ok (.iconst 2, 1) := by decide +kernel
theorem dL_law_1800 : decode cL_law 1800 = .ok (.iadd, 1) := by decide +kernel
theorem dL_law_1801 : decode cL_law 1801 = .ok (.iaload, 1) := by decide +kernel
theorem dL_law_1802 : decode cL_law 1802 = .ok (.invokevirtual 198, 3) := by decide +kernel
theorem dL_law_1805 : decode cL_law 1805 = .ok (.pop, 1) := by decide +kernel
theorem dL_law_1806 : decode cL_law 1806 = .ok (.goto 92, 3) := by decide +kernel
theorem dL_law_1809 : decode cL_law 1809 = .ok (.aload_n 1, 1) := by decide +kernel
theorem dL_law_1810 : decode cL_law 1810 = .ok (.aload_n 0, 1) := by decide +kernel
theorem dL_law_1811 : decode cL_law 1811 = .ok (.iload 4, 2) := by decide +kernel
theorem dL_law_1813 : decode cL_law 1813 = .ok (.iconst 1, 1) := by decide +kernel
theorem dL_law_1814 : decode cL_law 1814 = .ok (.iadd, 1) := by decide +kernel
theorem dL_law_1815 : decode cL_law 1815 = .ok (.iaload, 1) := by decide +kernel
theorem dL_law_1816 : decode cL_law 1816 = .ok (.invokevirtual 199, 3) := by decide +kernel
theorem dL_law_1819 : decode cL_law 1819 = .ok (.pop, 1) := by decide +kernel
theorem dL_law_1820 : decode cL_law 1820 = .ok (.aload_n 2, 1) := by decide +kernel
theorem dL_law_1821 : decode cL_law 1821 = .ok (.aload_n 0, 1) := by decide +kernel
theorem dL_law_1822 : decode cL_law 1822 = .ok (.iload 4, 2) := by decide +kernel
theorem dL_law_1824 : decode cL_law 1824 = .ok (.iconst 1, 1) := by decide +kernel
theorem dL_law_1825 : decode cL_law 1825 = .ok (.iadd, 1) := by decide +kernel
theorem dL_law_1826 : decode cL_law 1826 = .ok (.iaload, 1) := by decide +kernel
theorem dL_law_1827 : decode cL_law 1827 = .ok (.invokevirtual 202, 3) := by decide +kernel
theorem dL_law_1830 : decode cL_law 1830 = .ok (.pop, 1) := by decide +kernel
theorem dL_law_1831 : decode cL_law 1831 = .ok (.goto 67, 3) := by decide +kernel
theorem dL_law_1834 : decode cL_law 1834 = .ok (.aload_n 1, 1) := by decide +kernel
theorem dL_law_1835 : decode cL_law 1835 = .ok (.invokevirtual 203, 3) := by decide +kernel
theorem dL_law_1838 : decode cL_law 1838 = .ok (.pop, 1) := by decide +kernel
theorem dL_law_1839 : decode cL_law 1839 = .ok (.aload_n 2, 1) := by decide +kernel
theorem dL_law_1840 : decode cL_law 1840 = .ok (.invokevirtual 206, 3) := by decide +kernel
theorem dL_law_1843 : decode cL_law 1843 = .ok (.pop, 1) := by decide +kernel
theorem dL_law_1844 : decode cL_law 1844 = .ok (.goto 54, 3) := by decide +kernel
theorem dL_law_1847 : decode cL_law 1847 = .ok (.aload_n 1, 1) := by decide +kernel
theorem dL_law_1848 : decode cL_law 1848 = .ok (.invokevirtual 207, 3) := by decide +kernel
theorem dL_law_1851 : decode cL_law 1851 = .ok (.pop, 1) := by decide +kernel
theorem dL_law_1852 : decode cL_law 1852 = .ok (.aload_n 2, 1) := by decide +kernel
theorem dL_law_1853 : decode cL_law 1853 = .ok (.invokevirtual 210, 3) := by decide +kernel
theorem dL_law_1856 : decode cL_law 1856 = .ok (.pop, 1) := by decide +kernel
theorem dL_law_1857 : decode cL_law 1857 = .ok (.goto 41, 3) := by decide +kernel
theorem dL_law_1860 : decode cL_law 1860 = .ok (.aload_n 1, 1) := by decide +kernel
theorem dL_law_1861 : decode cL_law 1861 = .ok (.invokevirtual 211, 3) := by decide +kernel
theorem dL_law_1864 : decode cL_law 1864 = .ok (.pop, 1) := by decide +kernel
theorem dL_law_1865 : decode cL_law 1865 = .ok (.aload_n 2, 1) := by decide +kernel
theorem dL_law_1866 : decode cL_law 1866 = .ok (.invokevirtual 214, 3) := by decide +kernel
theorem dL_law_1869 : decode cL_law 1869 = .ok (.pop, 1) := by decide +kernel
theorem dL_law_1870 : decode cL_law 1870 = .ok (.goto 28, 3) := by decide +kernel
theorem dL_law_1873 : decode cL_law 1873 = .ok (.aload_n 1, 1) := by decide +kernel
theorem dL_law_1874 : decode cL_law 1874 = .ok (.aload_n 0, 1) := by decide +kernel
theorem dL_law_1875 : decode cL_law 1875 = .ok (.iload 4, 2) := by decide +kernel
theorem dL_law_1877 : decode cL_law 1877 = .ok (.iconst 1, 1) := by decide +kernel
theorem dL_law_1878 : decode cL_law 1878 = .ok (.iadd, 1) := by decide +kernel
theorem dL_law_1879 : decode cL_law 1879 = .ok (.iaload, 1) := by decide +kernel
theorem dL_law_1880 : decode cL_law 1880 = .ok (.invokevirtual 215, 3) := by decide +kernel
theorem dL_law_1883 : decode cL_law 1883 = .ok (.pop, 1) := by decide +kernel
theorem dL_law_1884 : decode cL_law 1884 = .ok (.aload_n 2, 1) := by decide +kernel
theorem dL_law_1885 : decode cL_law 1885 = .ok (.aload_n 0, 1) := by decide +kernel
theorem dL_law_1886 : decode cL_law 1886 = .ok (.iload 4, 2) := by decide +kernel
theorem dL_law_1888 : decode cL_law 1888 = .ok (.iconst 1, 1) := by decide +kernel
theorem dL_law_1889 : decode cL_law 1889 = .ok (.iadd, 1) := by decide +kernel
theorem dL_law_1890 : decode cL_law 1890 = .ok (.iaload, 1) := by decide +kernel
theorem dL_law_1891 : decode cL_law 1891 = .ok (.invokevirtual 218, 3) := by decide +kernel
theorem dL_law_1894 : decode cL_law 1894 = .ok (.pop, 1) := by decide +kernel
theorem dL_law_1895 : decode cL_law 1895 = .ok (.goto 3, 3) := by decide +kernel
theorem dL_law_1898 : decode cL_law 1898 = .ok (.iinc 4 6, 3) := by decide +kernel
theorem dL_law_1901 : decode cL_law 1901 = .ok (.goto (-1878), 3) := by decide +kernel
theorem dL_law_1904 : decode cL_law 1904 = .ok (.iconst 1, 1) := by decide +kernel
theorem dL_law_1905 : decode cL_law 1905 = .ok (.ireturn, 1) := by decide +kernel
abbrev vwCl : List vw_C := [(RX0, TX0, 4), (RX1, TX1, 4), (RX2, TX2, 6), (RX3, TX3, 7), (RX4, TX4, 3), (RX5, TX5, 4), (RX6, TX6, 2), (RX7, TX7, 13), (RX8, TX8, 12), (RX9, TX9, 4), (RX10, TX10, 6), (RX11, TX11, 16), (RX12, TX12, 54)]
