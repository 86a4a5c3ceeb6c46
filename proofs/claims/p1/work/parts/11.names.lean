abbrev cX9_bytesIn : ByteArray := prog_11_method_2_code
def yX9_bytesIn : MethodName := ⟨RX9, "bytesIn", "(I)I"⟩
abbrev cX9_append : ByteArray := prog_11_method_3_code
def yX9_append : MethodName := ⟨RX9, "append", "(I)V"⟩
abbrev cX11_feed : ByteArray := prog_1_method_2_code
def yX11_feed : MethodName := ⟨RX11, "feed", "(IIIII)I"⟩
abbrev cX11_buoy : ByteArray := prog_1_method_7_code
def yX11_buoy : MethodName := ⟨RX11, "buoy", "(II)I"⟩
abbrev cX11_blown : ByteArray := prog_1_method_35_code
def yX11_blown : MethodName := ⟨RX11, "blown", "(II)I"⟩
abbrev cX12_bytesIn : ByteArray := prog_14_method_6_code
def yX12_bytesIn : MethodName := ⟨RX12, "bytesIn", "(I)I"⟩
abbrev cX12_put : ByteArray := prog_14_method_7_code
def yX12_put : MethodName := ⟨RX12, "put", "(I)V"⟩
abbrev cX12_feed : ByteArray := prog_14_method_8_code
def yX12_feed : MethodName := ⟨RX12, "feed", "(IIIII)I"⟩
abbrev cX12_blown : ByteArray := prog_14_method_116_code
def yX12_blown : MethodName := ⟨RX12, "blown", "(II)I"⟩
def RL : String := "BuoyVoteLaw"
abbrev cL_buoy : ByteArray := method_3_code
def yL_buoy : MethodName := ⟨RL, "buoy", "(LBuoyVote;II[J)I"⟩
abbrev cL_law : ByteArray := code
def yL_law : MethodName := ⟨RL, "law", "([I)Z"⟩
def wsX9_bytesIn : List Cond := .code yX9_bytesIn cX9_bytesIn 3 (some .int) :: ([])
def wsX9_append : List Cond := .code yX9_append cX9_append 4 none :: ([.fieldLink RX9 19 "BuoyVote$Tape" "length" "I", .fieldLink RX9 11 "BuoyVote$Tape" "bytes" "[I"] ++ wsX90)
def wsX11_feed : List Cond := .code yX11_feed cX11_feed 7 (some .int) :: ([.fieldLink RX11 10 "BuoyVote" "tape" "LBuoyVote$Tape;", .fieldLink RX11 103 "BuoyVote$Tape" "length" "I", .methodLink RX11 99 yX9_bytesIn, .static yX9_bytesIn, .initialized RX9, .code yX9_bytesIn cX9_bytesIn 3 (some .int), .methodLink RX11 107 yX9_append, .instanceMethod yX9_append, .selects RX9 yX9_append yX9_append, .code yX9_append cX9_append 4 none, .fieldLink RX9 19 "BuoyVote$Tape" "length" "I", .fieldLink RX9 11 "BuoyVote$Tape" "bytes" "[I"] ++ wsX110 ++ wsX90)
def wsX11_buoy_r1 : List Cond := [Cond.classLink RX11 166 "java/util/NoSuchElementException", Cond.initialized "java/util/NoSuchElementException", Cond.fieldLink RX11 19 "BuoyVote" "told" "LBuoyVote$Borough;", Cond.fieldLink RX11 52 "BuoyVote" "now" "LBuoyVote$Sea;", Cond.fieldLink RX11 178 "BuoyVote$Sea" "old" "[I", Cond.fieldLink RX11 181 "BuoyVote$Sea" "barnacles" "[I", Cond.fieldLink RX11 45 "BuoyVote" "waters" "LBuoyVote$Waters;", Cond.fieldLink RX11 188 "BuoyVote$Sea" "liking" "[I", Cond.methodLink RX11 163 yX11_isBuoy, Cond.instanceMethod yX11_isBuoy, Cond.selects RX11 yX11_isBuoy yX11_isBuoy, Cond.initialized RX11, Cond.code yX11_isBuoy cX11_isBuoy 2 (some .boolean), Cond.fieldLink RX11 275 "BuoyVote$Borough" "buoys" "I", Cond.methodLink RX11 111 yX11_isWithin, Cond.static yX11_isWithin, Cond.code yX11_isWithin cX11_isWithin 3 (some .boolean), Cond.methodLink RX11 169 yX0_buoyX, Cond.instanceMethod yX0_buoyX, Cond.selects RX0 yX0_buoyX yX0_buoyX, Cond.initialized RX0, Cond.code yX0_buoyX cX0_buoyX 2 (some .int), Cond.fieldLink RX0 11 "BuoyVote$Borough" "values" "[I", Cond.methodLink RX11 172 yX0_buoyY]
def wsX11_buoy_r2 : List Cond := [Cond.instanceMethod yX0_buoyY, Cond.selects RX0 yX0_buoyY yX0_buoyY, Cond.code yX0_buoyY cX0_buoyY 2 (some .int), Cond.methodLink RX11 175 yX0_chain, Cond.instanceMethod yX0_chain, Cond.selects RX0 yX0_chain yX0_chain, Cond.code yX0_chain cX0_chain 2 (some .int), Cond.methodLink RX11 184 yX10_leanOf, Cond.instanceMethod yX10_leanOf, Cond.selects RX10 yX10_leanOf yX10_leanOf, Cond.initialized RX10, Cond.code yX10_leanOf cX10_leanOf 4 (some .int), Cond.fieldLink RX10 9 "BuoyVote$Waters" "told" "LBuoyVote$Borough;", Cond.fieldLink RX10 93 "BuoyVote$Borough" "boats" "I", Cond.fieldLink RX10 19 "BuoyVote$Waters" "draws" "[I", Cond.methodLink RX10 96 yX10_drawOf, Cond.instanceMethod yX10_drawOf, Cond.selects RX10 yX10_drawOf yX10_drawOf, Cond.code yX10_drawOf cX10_drawOf 7 (some .int), Cond.fieldLink RX10 67 "BuoyVote$Sea" "liking" "[I", Cond.fieldLink RX10 70 "BuoyVote$Sea" "old" "[I", Cond.fieldLink RX10 73 "BuoyVote$Sea" "barnacles" "[I", Cond.fieldLink RX10 15 "BuoyVote$Waters" "laws" "LBuoyVote$LawBook;", Cond.fieldLink RX10 60 "BuoyVote$Sea" "hour" "I"]
def wsX11_buoy_r3 : List Cond := [Cond.methodLink RX10 43 yX0_buoyX, Cond.methodLink RX10 50 yX0_buoyY, Cond.methodLink RX10 76 yX7_awayOf, Cond.instanceMethod yX7_awayOf, Cond.selects RX7 yX7_awayOf yX7_awayOf, Cond.initialized RX7, Cond.code yX7_awayOf cX7_awayOf 4 (some .int), Cond.fieldLink RX7 9 "BuoyVote$Sea" "x" "[I", Cond.methodLink RX7 99 Lib.Math.abs.name, Cond.static Lib.Math.abs.name, Cond.initialized "java/lang/Math", Cond.code Lib.Math.abs.name Lib.Math.abs.code 1 (some .int), Cond.fieldLink RX7 15 "BuoyVote$Sea" "y" "[I", Cond.methodLink RX10 80 yX0_voice, Cond.instanceMethod yX0_voice, Cond.selects RX0 yX0_voice yX0_voice, Cond.code yX0_voice cX0_voice 2 (some .int), Cond.methodLink RX10 83 yX10_pushOf, Cond.instanceMethod yX10_pushOf, Cond.selects RX10 yX10_pushOf yX10_pushOf, Cond.code yX10_pushOf cX10_pushOf 10 (some .int), Cond.fieldLink RX10 38 "BuoyVote$Sea" "x" "[I", Cond.fieldLink RX10 47 "BuoyVote$Sea" "y" "[I", Cond.fieldLink RX10 53 "BuoyVote$Sea" "way" "I"]
def wsX11_buoy_r4 : List Cond := [Cond.fieldLink RX10 57 "BuoyVote$Sea" "wind" "I", Cond.methodLink RX10 63 yX10_isRising, Cond.instanceMethod yX10_isRising, Cond.selects RX10 yX10_isRising yX10_isRising, Cond.code yX10_isRising cX10_isRising 3 (some .boolean), Cond.methodLink RX10 32 yX0_tideHours, Cond.instanceMethod yX0_tideHours, Cond.selects RX0 yX0_tideHours yX0_tideHours, Cond.code yX0_tideHours cX0_tideHours 1 (some .int), Cond.methodLink RX10 87 yX5_drawBy, Cond.instanceMethod yX5_drawBy, Cond.selects RX5 yX5_drawBy yX5_drawBy, Cond.initialized RX5, Cond.code yX5_drawBy cX5_drawBy 8 (some .int), Cond.fieldLink RX5 18 "BuoyVote$LawBook" "holding" "I", Cond.fieldLink RX5 26 "BuoyVote$LawBook" "size" "I", Cond.fieldLink RX5 22 "BuoyVote$LawBook" "letters" "[I", Cond.fieldLink RX5 11 "BuoyVote$LawBook" "laws" "[LBuoyVote$Law;", Cond.methodLink RX5 29 yX4_worth, Cond.instanceMethod yX4_worth, Cond.selects RX4 yX4_worth yX4_worth, Cond.initialized RX4, Cond.code yX4_worth cX4_worth 6 (some .int), Cond.fieldLink RX4 20 "BuoyVote$Law" "length" "I"]
def wsX11_buoy_r5 : List Cond := [Cond.fieldLink RX4 11 "BuoyVote$Law" "code" "[I", Cond.fieldLink RX4 17 "BuoyVote$Law" "stack" "[I", Cond.methodLink RX4 24 yX4_joinedAt, Cond.instanceMethod yX4_joinedAt, Cond.selects RX4 yX4_joinedAt yX4_joinedAt, Cond.code yX4_joinedAt cX4_joinedAt 7 (some .int), Cond.constantLong RX4 28 (1000000), Cond.constant RX4 30 (1000000), Cond.constantLong RX4 31 (-1000000), Cond.constant RX4 33 (-1000000), Cond.methodLink RX10 99 yX0_chain, Cond.methodLink RX10 102 yX10_leanBy, Cond.instanceMethod yX10_leanBy, Cond.selects RX10 yX10_leanBy yX10_leanBy, Cond.code yX10_leanBy cX10_leanBy 5 (some .int)]
def wsX11_buoy : List Cond := .code yX11_buoy cX11_buoy 3 (some .int) :: ((wsX11_buoy_r1 ++ (wsX11_buoy_r2 ++ (wsX11_buoy_r3 ++ (wsX11_buoy_r4 ++ wsX11_buoy_r5)))) ++ wsX110 ++ wsX70 ++ wsX00 ++ wsX100 ++ wsX50 ++ wsX40 ++ (vx_at0 RX11 168 "java/util/NoSuchElementException" ["java/lang/RuntimeException", "java/lang/Exception"]).filter goodWord)
def wsX11_blown : List Cond := .code yX11_blown cX11_blown 13 (some .int) :: ([.constantLong RX11 373 (5), .constantLong RX11 375 (10), .methodLink RX11 111 yX11_isWithin, .static yX11_isWithin, .initialized RX11, .code yX11_isWithin cX11_isWithin 3 (some .boolean)])
def wsX12_bytesIn : List Cond := .code yX12_bytesIn cX12_bytesIn 3 (some .int) :: ([])
def wsX12_put : List Cond := .code yX12_put cX12_put 3 none :: ([.fieldLink RX12 9 "BuoyVoteModel" "tape" "[B", .fieldLink RX12 124 "BuoyVoteModel" "length" "I"] ++ wsX120)
def wsX12_feed : List Cond := .code yX12_feed cX12_feed 6 (some .int) :: ([.fieldLink RX12 111 "BuoyVoteModel" "thrown" "I", .fieldLink RX12 124 "BuoyVoteModel" "length" "I", .methodLink RX12 126 yX12_bytesIn, .static yX12_bytesIn, .initialized RX12, .code yX12_bytesIn cX12_bytesIn 3 (some .int), .methodLink RX12 130 yX12_put, .instanceMethod yX12_put, .selects RX12 yX12_put yX12_put, .code yX12_put cX12_put 3 none, .fieldLink RX12 9 "BuoyVoteModel" "tape" "[B"] ++ wsX120)
def wsX12_blown : List Cond := .code yX12_blown cX12_blown 13 (some .int) :: ([.fieldLink RX12 111 "BuoyVoteModel" "thrown" "I", .constantLong RX12 518 (18), .constantLong RX12 410 (8), .constantLong RX12 290 (2), .constantLong RX12 360 (5), .constantLong RX12 352 (10), .methodLink RX12 232 yX12_isIn, .static yX12_isIn, .initialized RX12, .code yX12_isIn cX12_isIn 6 (some .boolean)] ++ wsX120)
def wsL_buoy_r1 : List Cond := [Cond.classLink RL 13 "java/util/NoSuchElementException", Cond.methodLink RL 7 yX11_buoy, Cond.instanceMethod yX11_buoy, Cond.selects RX11 yX11_buoy yX11_buoy, Cond.initialized RX11, Cond.code yX11_buoy cX11_buoy 3 (some .int), Cond.classLink RX11 166 "java/util/NoSuchElementException", Cond.initialized "java/util/NoSuchElementException", Cond.fieldLink RX11 19 "BuoyVote" "told" "LBuoyVote$Borough;", Cond.fieldLink RX11 52 "BuoyVote" "now" "LBuoyVote$Sea;", Cond.fieldLink RX11 178 "BuoyVote$Sea" "old" "[I", Cond.fieldLink RX11 181 "BuoyVote$Sea" "barnacles" "[I", Cond.fieldLink RX11 45 "BuoyVote" "waters" "LBuoyVote$Waters;", Cond.fieldLink RX11 188 "BuoyVote$Sea" "liking" "[I", Cond.methodLink RX11 163 yX11_isBuoy, Cond.instanceMethod yX11_isBuoy, Cond.selects RX11 yX11_isBuoy yX11_isBuoy, Cond.code yX11_isBuoy cX11_isBuoy 2 (some .boolean), Cond.fieldLink RX11 275 "BuoyVote$Borough" "buoys" "I", Cond.methodLink RX11 111 yX11_isWithin, Cond.static yX11_isWithin, Cond.code yX11_isWithin cX11_isWithin 3 (some .boolean), Cond.methodLink RX11 169 yX0_buoyX, Cond.instanceMethod yX0_buoyX]
def wsL_buoy_r2 : List Cond := [Cond.selects RX0 yX0_buoyX yX0_buoyX, Cond.initialized RX0, Cond.code yX0_buoyX cX0_buoyX 2 (some .int), Cond.fieldLink RX0 11 "BuoyVote$Borough" "values" "[I", Cond.methodLink RX11 172 yX0_buoyY, Cond.instanceMethod yX0_buoyY, Cond.selects RX0 yX0_buoyY yX0_buoyY, Cond.code yX0_buoyY cX0_buoyY 2 (some .int), Cond.methodLink RX11 175 yX0_chain, Cond.instanceMethod yX0_chain, Cond.selects RX0 yX0_chain yX0_chain, Cond.code yX0_chain cX0_chain 2 (some .int), Cond.methodLink RX11 184 yX10_leanOf, Cond.instanceMethod yX10_leanOf, Cond.selects RX10 yX10_leanOf yX10_leanOf, Cond.initialized RX10, Cond.code yX10_leanOf cX10_leanOf 4 (some .int), Cond.fieldLink RX10 9 "BuoyVote$Waters" "told" "LBuoyVote$Borough;", Cond.fieldLink RX10 93 "BuoyVote$Borough" "boats" "I", Cond.fieldLink RX10 19 "BuoyVote$Waters" "draws" "[I", Cond.methodLink RX10 96 yX10_drawOf, Cond.instanceMethod yX10_drawOf, Cond.selects RX10 yX10_drawOf yX10_drawOf, Cond.code yX10_drawOf cX10_drawOf 7 (some .int)]
def wsL_buoy_r3 : List Cond := [Cond.fieldLink RX10 67 "BuoyVote$Sea" "liking" "[I", Cond.fieldLink RX10 70 "BuoyVote$Sea" "old" "[I", Cond.fieldLink RX10 73 "BuoyVote$Sea" "barnacles" "[I", Cond.fieldLink RX10 15 "BuoyVote$Waters" "laws" "LBuoyVote$LawBook;", Cond.fieldLink RX10 60 "BuoyVote$Sea" "hour" "I", Cond.methodLink RX10 43 yX0_buoyX, Cond.methodLink RX10 50 yX0_buoyY, Cond.methodLink RX10 76 yX7_awayOf, Cond.instanceMethod yX7_awayOf, Cond.selects RX7 yX7_awayOf yX7_awayOf, Cond.initialized RX7, Cond.code yX7_awayOf cX7_awayOf 4 (some .int), Cond.fieldLink RX7 9 "BuoyVote$Sea" "x" "[I", Cond.methodLink RX7 99 Lib.Math.abs.name, Cond.static Lib.Math.abs.name, Cond.initialized "java/lang/Math", Cond.code Lib.Math.abs.name Lib.Math.abs.code 1 (some .int), Cond.fieldLink RX7 15 "BuoyVote$Sea" "y" "[I", Cond.methodLink RX10 80 yX0_voice, Cond.instanceMethod yX0_voice, Cond.selects RX0 yX0_voice yX0_voice, Cond.code yX0_voice cX0_voice 2 (some .int), Cond.methodLink RX10 83 yX10_pushOf, Cond.instanceMethod yX10_pushOf]
def wsL_buoy_r4 : List Cond := [Cond.selects RX10 yX10_pushOf yX10_pushOf, Cond.code yX10_pushOf cX10_pushOf 10 (some .int), Cond.fieldLink RX10 38 "BuoyVote$Sea" "x" "[I", Cond.fieldLink RX10 47 "BuoyVote$Sea" "y" "[I", Cond.fieldLink RX10 53 "BuoyVote$Sea" "way" "I", Cond.fieldLink RX10 57 "BuoyVote$Sea" "wind" "I", Cond.methodLink RX10 63 yX10_isRising, Cond.instanceMethod yX10_isRising, Cond.selects RX10 yX10_isRising yX10_isRising, Cond.code yX10_isRising cX10_isRising 3 (some .boolean), Cond.methodLink RX10 32 yX0_tideHours, Cond.instanceMethod yX0_tideHours, Cond.selects RX0 yX0_tideHours yX0_tideHours, Cond.code yX0_tideHours cX0_tideHours 1 (some .int), Cond.methodLink RX10 87 yX5_drawBy, Cond.instanceMethod yX5_drawBy, Cond.selects RX5 yX5_drawBy yX5_drawBy, Cond.initialized RX5, Cond.code yX5_drawBy cX5_drawBy 8 (some .int), Cond.fieldLink RX5 18 "BuoyVote$LawBook" "holding" "I", Cond.fieldLink RX5 26 "BuoyVote$LawBook" "size" "I", Cond.fieldLink RX5 22 "BuoyVote$LawBook" "letters" "[I", Cond.fieldLink RX5 11 "BuoyVote$LawBook" "laws" "[LBuoyVote$Law;", Cond.methodLink RX5 29 yX4_worth]
def wsL_buoy_r5 : List Cond := [Cond.instanceMethod yX4_worth, Cond.selects RX4 yX4_worth yX4_worth, Cond.initialized RX4, Cond.code yX4_worth cX4_worth 6 (some .int), Cond.fieldLink RX4 20 "BuoyVote$Law" "length" "I", Cond.fieldLink RX4 11 "BuoyVote$Law" "code" "[I", Cond.fieldLink RX4 17 "BuoyVote$Law" "stack" "[I", Cond.methodLink RX4 24 yX4_joinedAt, Cond.instanceMethod yX4_joinedAt, Cond.selects RX4 yX4_joinedAt yX4_joinedAt, Cond.code yX4_joinedAt cX4_joinedAt 7 (some .int), Cond.constantLong RX4 28 (1000000), Cond.constant RX4 30 (1000000), Cond.constantLong RX4 31 (-1000000), Cond.constant RX4 33 (-1000000), Cond.methodLink RX10 99 yX0_chain, Cond.methodLink RX10 102 yX10_leanBy, Cond.instanceMethod yX10_leanBy, Cond.selects RX10 yX10_leanBy yX10_leanBy, Cond.code yX10_leanBy cX10_leanBy 5 (some .int)]
def wsL_buoy : List Cond := .codeWith yL_buoy cL_buoy 5 (some .int) [(0, 10, 13, 13)] :: ((wsL_buoy_r1 ++ (wsL_buoy_r2 ++ (wsL_buoy_r3 ++ (wsL_buoy_r4 ++ wsL_buoy_r5)))) ++ wsX110 ++ wsX70 ++ wsX00 ++ wsX100 ++ wsX50 ++ wsX40 ++ (vx_at0 RX11 168 "java/util/NoSuchElementException" ["java/lang/RuntimeException", "java/lang/Exception"]).filter goodWord)
def wsL_law0_r1 : List Cond := [Cond.classLink RL 8 RX11, Cond.instantiable RX11 16, Cond.initialized RX11, Cond.classLink RL 16 RX12, Cond.instantiable RX12 54, Cond.initialized RX12, Cond.arrayClass .long, Cond.constantLong RL 90 (4294967295), Cond.methodLink RL 15 yX11_init, Cond.instanceMethod yX11_init, Cond.code yX11_init cX11_init 2 none, Cond.methodLink RX11 1 objectInit, Cond.instanceMethod objectInit, Cond.code objectInit ⟨#[0xb1]⟩ 1 none, Cond.classLink RX11 7 RX9, Cond.instantiable RX9 4, Cond.initialized RX9, Cond.fieldLink RX11 10 "BuoyVote" "tape" "LBuoyVote$Tape;", Cond.classLink RX11 16 RX0, Cond.instantiable RX0 4, Cond.initialized RX0, Cond.fieldLink RX11 19 "BuoyVote" "told" "LBuoyVote$Borough;", Cond.fieldLink RX11 23 "BuoyVote" "draft" "LBuoyVote$Borough;", Cond.classLink RX11 26 RX5]
def wsL_law0_r2 : List Cond := [Cond.instantiable RX5 4, Cond.initialized RX5, Cond.fieldLink RX11 29 "BuoyVote" "laws" "LBuoyVote$LawBook;", Cond.classLink RX11 33 RX6, Cond.fieldLink RX11 35 "BuoyVote" "plans" "[LBuoyVote$Plan;", Cond.instantiable RX6 2, Cond.initialized RX6, Cond.classLink RX11 40 RX10, Cond.instantiable RX10 6, Cond.initialized RX10, Cond.fieldLink RX11 45 "BuoyVote" "waters" "LBuoyVote$Waters;", Cond.classLink RX11 49 RX7, Cond.instantiable RX7 13, Cond.initialized RX7, Cond.fieldLink RX11 52 "BuoyVote" "now" "LBuoyVote$Sea;", Cond.fieldLink RX11 56 "BuoyVote" "apart" "LBuoyVote$Sea;", Cond.classLink RX11 59 RX3, Cond.instantiable RX3 7, Cond.initialized RX3, Cond.fieldLink RX11 62 "BuoyVote" "history" "LBuoyVote$History;", Cond.classLink RX11 66 RX8, Cond.instantiable RX8 12, Cond.initialized RX8, Cond.fieldLink RX11 69 "BuoyVote" "sightings" "LBuoyVote$Sightings;"]
def wsL_law0_r3 : List Cond := [Cond.classLink RX11 73 RX2, Cond.instantiable RX2 6, Cond.initialized RX2, Cond.fieldLink RX11 78 "BuoyVote" "duel" "LBuoyVote$Duel;", Cond.classLink RX11 82 RX1, Cond.instantiable RX1 4, Cond.initialized RX1, Cond.fieldLink RX11 87 "BuoyVote" "charts" "LBuoyVote$Charts;", Cond.fieldLink RX11 91 "BuoyVote" "parts" "[J", Cond.arrayClass .int, Cond.fieldLink RX11 95 "BuoyVote" "shown" "[I", Cond.methodLink RX11 9 yX9_init, Cond.instanceMethod yX9_init, Cond.code yX9_init cX9_init 1 none, Cond.methodLink RX9 3 objectInit, Cond.fieldLink RX9 11 "BuoyVote$Tape" "bytes" "[I", Cond.fieldLink RX9 15 "BuoyVote$Tape" "wrong" "I", Cond.methodLink RX11 18 yX0_init, Cond.instanceMethod yX0_init, Cond.code yX0_init cX0_init 1 none, Cond.methodLink RX0 5 objectInit, Cond.fieldLink RX0 11 "BuoyVote$Borough" "values" "[I", Cond.methodLink RX11 28 yX5_init, Cond.instanceMethod yX5_init]
def wsL_law0_r4 : List Cond := [Cond.code yX5_init cX5_init 2 none, Cond.methodLink RX5 3 objectInit, Cond.classLink RX5 9 RX4, Cond.fieldLink RX5 11 "BuoyVote$LawBook" "laws" "[LBuoyVote$Law;", Cond.instantiable RX4 3, Cond.initialized RX4, Cond.fieldLink RX5 18 "BuoyVote$LawBook" "holding" "I", Cond.fieldLink RX5 22 "BuoyVote$LawBook" "letters" "[I", Cond.methodLink RX5 17 yX4_init, Cond.instanceMethod yX4_init, Cond.code yX4_init cX4_init 1 none, Cond.methodLink RX4 3 objectInit, Cond.fieldLink RX4 11 "BuoyVote$Law" "code" "[I", Cond.fieldLink RX4 17 "BuoyVote$Law" "stack" "[I", Cond.methodLink RX11 39 yX6_init, Cond.instanceMethod yX6_init, Cond.code yX6_init cX6_init 1 none, Cond.methodLink RX6 3 objectInit, Cond.fieldLink RX6 11 "BuoyVote$Plan" "cells" "[I", Cond.methodLink RX11 42 yX10_init, Cond.instanceMethod yX10_init, Cond.code yX10_init cX10_init 3 none, Cond.methodLink RX10 3 objectInit, Cond.fieldLink RX10 9 "BuoyVote$Waters" "told" "LBuoyVote$Borough;"]
def wsL_law0_r5 : List Cond := [Cond.fieldLink RX10 15 "BuoyVote$Waters" "laws" "LBuoyVote$LawBook;", Cond.fieldLink RX10 19 "BuoyVote$Waters" "draws" "[I", Cond.fieldLink RX10 23 "BuoyVote$Waters" "leans" "[I", Cond.fieldLink RX10 26 "BuoyVote$Waters" "tally" "[I", Cond.fieldLink RX10 29 "BuoyVote$Waters" "bars" "[I", Cond.methodLink RX11 51 yX7_init, Cond.instanceMethod yX7_init, Cond.code yX7_init cX7_init 1 none, Cond.methodLink RX7 3 objectInit, Cond.fieldLink RX7 9 "BuoyVote$Sea" "x" "[I", Cond.fieldLink RX7 15 "BuoyVote$Sea" "y" "[I", Cond.fieldLink RX7 18 "BuoyVote$Sea" "goalX" "[I", Cond.fieldLink RX7 21 "BuoyVote$Sea" "goalY" "[I", Cond.fieldLink RX7 24 "BuoyVote$Sea" "won" "[I", Cond.fieldLink RX7 27 "BuoyVote$Sea" "sang" "[I", Cond.fieldLink RX7 30 "BuoyVote$Sea" "liking" "[I", Cond.fieldLink RX7 33 "BuoyVote$Sea" "old" "[I", Cond.fieldLink RX7 36 "BuoyVote$Sea" "barnacles" "[I", Cond.methodLink RX11 61 yX3_init, Cond.instanceMethod yX3_init, Cond.code yX3_init cX3_init 2 none, Cond.methodLink RX3 5 objectInit, Cond.classLink RX3 11 RX7, Cond.fieldLink RX3 13 "BuoyVote$History" "before" "[LBuoyVote$Sea;"]
def wsL_law0_r6 : List Cond := [Cond.fieldLink RX3 18 "BuoyVote$History" "log" "[I", Cond.fieldLink RX3 22 "BuoyVote$History" "image" "LBuoyVote$Sea;", Cond.fieldLink RX3 26 "BuoyVote$History" "imageLog" "[I", Cond.methodLink RX3 17 yX7_init, Cond.methodLink RX11 68 yX8_init, Cond.instanceMethod yX8_init, Cond.code yX8_init cX8_init 3 none, Cond.methodLink RX8 3 objectInit, Cond.fieldLink RX8 9 "BuoyVote$Sightings" "told" "LBuoyVote$Borough;", Cond.fieldLink RX8 15 "BuoyVote$Sightings" "laws" "LBuoyVote$LawBook;", Cond.fieldLink RX8 19 "BuoyVote$Sightings" "seenBuoy" "[I", Cond.fieldLink RX8 23 "BuoyVote$Sightings" "seenD" "[I", Cond.fieldLink RX8 26 "BuoyVote$Sightings" "seenE" "[I", Cond.fieldLink RX8 29 "BuoyVote$Sightings" "seenTo" "[I", Cond.fieldLink RX8 32 "BuoyVote$Sightings" "fits" "[I", Cond.fieldLink RX8 35 "BuoyVote$Sightings" "oneDraws" "[I", Cond.fieldLink RX8 38 "BuoyVote$Sightings" "otherDraws" "[I", Cond.fieldLink RX8 41 "BuoyVote$Sightings" "answers" "[I", Cond.methodLink RX11 75 yX2_init, Cond.instanceMethod yX2_init, Cond.code yX2_init cX2_init 3 none, Cond.methodLink RX2 3 objectInit, Cond.fieldLink RX2 9 "BuoyVote$Duel" "told" "LBuoyVote$Borough;", Cond.fieldLink RX2 15 "BuoyVote$Duel" "waters" "LBuoyVote$Waters;"]
def wsL_law0_r7 : List Cond := [Cond.fieldLink RX2 19 "BuoyVote$Duel" "oneDraws" "[I", Cond.fieldLink RX2 23 "BuoyVote$Duel" "otherDraws" "[I", Cond.fieldLink RX2 26 "BuoyVote$Duel" "ones" "[I", Cond.fieldLink RX2 29 "BuoyVote$Duel" "others" "[I", Cond.methodLink RX11 84 yX1_init, Cond.instanceMethod yX1_init, Cond.code yX1_init cX1_init 2 none, Cond.methodLink RX1 3 objectInit, Cond.fieldLink RX1 9 "BuoyVote$Charts" "told" "LBuoyVote$Borough;", Cond.fieldLink RX1 15 "BuoyVote$Charts" "firstLegs" "[I", Cond.fieldLink RX1 19 "BuoyVote$Charts" "legs" "[I", Cond.fieldLink RX1 22 "BuoyVote$Charts" "through" "[I", Cond.methodLink RL 18 yX12_init, Cond.instanceMethod yX12_init, Cond.code yX12_init cX12_init 1 none, Cond.methodLink RX12 3 objectInit, Cond.arrayClass .byte, Cond.fieldLink RX12 9 "BuoyVoteModel" "tape" "[B", Cond.fieldLink RX12 13 "BuoyVoteModel" "texts" "[B", Cond.fieldLink RX12 16 "BuoyVoteModel" "textLong" "[I", Cond.fieldLink RX12 20 "BuoyVoteModel" "letters" "[I", Cond.fieldLink RX12 23 "BuoyVoteModel" "text" "[B", Cond.fieldLink RX12 28 "BuoyVoteModel" "labels" "Ljava/lang/String;", Cond.fieldLink RX12 34 "BuoyVoteModel" "allowed" "Ljava/lang/String;"]
def wsL_law0_r8 : List Cond := [Cond.fieldLink RX12 37 "BuoyVoteModel" "rule" "[I", Cond.fieldLink RX12 40 "BuoyVoteModel" "ruleRead" "[I", Cond.fieldLink RX12 43 "BuoyVoteModel" "buoy" "[I", Cond.fieldLink RX12 46 "BuoyVoteModel" "buoyRead" "[I", Cond.fieldLink RX12 49 "BuoyVoteModel" "boat" "[I", Cond.fieldLink RX12 52 "BuoyVoteModel" "boatRead" "[I", Cond.fieldLink RX12 55 "BuoyVoteModel" "plan" "[I", Cond.fieldLink RX12 58 "BuoyVoteModel" "planLong" "[I", Cond.fieldLink RX12 61 "BuoyVoteModel" "now" "[I", Cond.fieldLink RX12 64 "BuoyVoteModel" "trial" "[I", Cond.fieldLink RX12 67 "BuoyVoteModel" "law" "I", Cond.fieldLink RX12 71 "BuoyVoteModel" "memoKey" "[J", Cond.fieldLink RX12 75 "BuoyVoteModel" "memoWorth" "[I", Cond.fieldLink RX12 78 "BuoyVoteModel" "draws" "[I", Cond.fieldLink RX12 81 "BuoyVoteModel" "tally" "[I", Cond.fieldLink RX12 84 "BuoyVoteModel" "leans" "[I", Cond.fieldLink RX12 87 "BuoyVoteModel" "undoRow" "[I", Cond.fieldLink RX12 90 "BuoyVoteModel" "gains" "[I", Cond.fieldLink RX12 93 "BuoyVoteModel" "sightBuoy" "[I", Cond.fieldLink RX12 96 "BuoyVoteModel" "sightNear" "[I", Cond.fieldLink RX12 99 "BuoyVoteModel" "sightFar" "[I", Cond.fieldLink RX12 102 "BuoyVoteModel" "sightTo" "[I", Cond.fieldLink RX12 105 "BuoyVoteModel" "answers" "[I", Cond.fieldLink RX12 108 "BuoyVoteModel" "imageRow" "[I"]
def wsL_law0_r9 : List Cond := [Cond.methodLink RL 19 yX11_feed, Cond.instanceMethod yX11_feed, Cond.selects RX11 yX11_feed yX11_feed, Cond.code yX11_feed cX11_feed 7 (some .int), Cond.fieldLink RX11 103 "BuoyVote$Tape" "length" "I", Cond.methodLink RX11 99 yX9_bytesIn, Cond.static yX9_bytesIn, Cond.code yX9_bytesIn cX9_bytesIn 3 (some .int), Cond.methodLink RX11 107 yX9_append, Cond.instanceMethod yX9_append, Cond.selects RX9 yX9_append yX9_append, Cond.code yX9_append cX9_append 4 none, Cond.fieldLink RX9 19 "BuoyVote$Tape" "length" "I", Cond.methodLink RL 23 yX12_feed, Cond.instanceMethod yX12_feed, Cond.selects RX12 yX12_feed yX12_feed, Cond.code yX12_feed cX12_feed 6 (some .int), Cond.fieldLink RX12 111 "BuoyVoteModel" "thrown" "I", Cond.fieldLink RX12 124 "BuoyVoteModel" "length" "I", Cond.methodLink RX12 126 yX12_bytesIn, Cond.static yX12_bytesIn, Cond.code yX12_bytesIn cX12_bytesIn 3 (some .int), Cond.methodLink RX12 130 yX12_put, Cond.instanceMethod yX12_put]
def wsL_law0_r10 : List Cond := [Cond.selects RX12 yX12_put yX12_put, Cond.code yX12_put cX12_put 3 none, Cond.methodLink RL 24 yX11_end, Cond.instanceMethod yX11_end, Cond.selects RX11 yX11_end yX11_end, Cond.code yX11_end cX11_end 2 (some .boolean), Cond.methodLink RX11 111 yX11_isWithin, Cond.static yX11_isWithin, Cond.code yX11_isWithin cX11_isWithin 3 (some .boolean), Cond.methodLink RL 28 yX12_end, Cond.instanceMethod yX12_end, Cond.selects RX12 yX12_end yX12_end, Cond.code yX12_end cX12_end 2 (some .boolean), Cond.methodLink RL 29 yX11_fault, Cond.instanceMethod yX11_fault, Cond.selects RX11 yX11_fault yX11_fault, Cond.code yX11_fault cX11_fault 2 (some .int), Cond.fieldLink RX11 126 "BuoyVote" "planCount" "I", Cond.methodLink RX11 115 yX0_faultOf, Cond.instanceMethod yX0_faultOf, Cond.selects RX0 yX0_faultOf yX0_faultOf, Cond.code yX0_faultOf cX0_faultOf 3 (some .int), Cond.fieldLink RX0 21 "BuoyVote$Borough" "buoys" "I", Cond.fieldLink RX0 25 "BuoyVote$Borough" "boats" "I"]
def wsL_law0_r11 : List Cond := [Cond.fieldLink RX0 28 "BuoyVote$Borough" "ruled" "Z", Cond.fieldLink RX0 59 "BuoyVote$Tape" "length" "I", Cond.methodLink RX0 32 yX0_setUsual, Cond.instanceMethod yX0_setUsual, Cond.selects RX0 yX0_setUsual yX0_setUsual, Cond.code yX0_setUsual cX0_setUsual 5 none, Cond.fieldLink RX0 113 "BuoyVote$Borough" "USUAL" "[I", Cond.fieldLink RX0 103 "BuoyVote$Borough" "FIRST" "[I", Cond.methodLink RX0 92 yX0_lettersOf, Cond.static yX0_lettersOf, Cond.code yX0_lettersOf cX0_lettersOf 1 (some (.object "java/lang/String")), Cond.methodLink RX0 96 yJ0_length_8abf5, Cond.instanceMethod yJ0_length_8abf5, Cond.selects RJ0 yJ0_length_8abf5 yJ0_length_8abf5, Cond.initialized RJ0, Cond.code yJ0_length_8abf5 cJ0_length_8abf5 1 (some .int), Cond.fieldLink RJ0 9 "java/lang/String" "value" "[B", Cond.methodLink RJ0 335 yJ0_coder_7d493, Cond.instanceMethod yJ0_coder_7d493, Cond.selects RJ0 yJ0_coder_7d493 yJ0_coder_7d493, Cond.code yJ0_coder_7d493 cJ0_coder_7d493 1 (some .byte), Cond.fieldLink RJ0 38 "java/lang/String" "COMPACT_STRINGS" "Z", Cond.fieldLink RJ0 15 "java/lang/String" "coder" "B", Cond.methodLink RX0 36 yX9_rewind]
def wsL_law0_r12 : List Cond := [Cond.instanceMethod yX9_rewind, Cond.selects RX9 yX9_rewind yX9_rewind, Cond.code yX9_rewind cX9_rewind 1 none, Cond.fieldLink RX9 22 "BuoyVote$Tape" "at" "I", Cond.methodLink RX0 41 yX0_readClause, Cond.instanceMethod yX0_readClause, Cond.selects RX0 yX0_readClause yX0_readClause, Cond.code yX0_readClause cX0_readClause 8 none, Cond.fieldLink RX0 100 "BuoyVote$Borough" "LOW" "[I", Cond.fieldLink RX0 106 "BuoyVote$Borough" "HIGH" "[I", Cond.methodLink RX0 72 yX9_peek, Cond.instanceMethod yX9_peek, Cond.selects RX9 yX9_peek yX9_peek, Cond.code yX9_peek cX9_peek 1 (some .int), Cond.methodLink RX0 75 yX0_placeIn, Cond.static yX0_placeIn, Cond.code yX0_placeIn cX0_placeIn 2 (some .int), Cond.methodLink RX0 128 yJ0_indexOf_0f7a4, Cond.instanceMethod yJ0_indexOf_0f7a4, Cond.selects RJ0 yJ0_indexOf_0f7a4 yJ0_indexOf_0f7a4, Cond.code yJ0_indexOf_0f7a4 cJ0_indexOf_0f7a4 2 (some .int), Cond.methodLink RJ0 633 yJ0_indexOf_7cf53, Cond.instanceMethod yJ0_indexOf_7cf53, Cond.selects RJ0 yJ0_indexOf_7cf53 yJ0_indexOf_7cf53]
def wsL_law0_r13 : List Cond := [Cond.code yJ0_indexOf_7cf53 cJ0_indexOf_7cf53 3 (some .int), Cond.methodLink RJ0 492 yJ0_isLatin1_aae02, Cond.instanceMethod yJ0_isLatin1_aae02, Cond.selects RJ0 yJ0_isLatin1_aae02 yJ0_isLatin1_aae02, Cond.code yJ0_isLatin1_aae02 cJ0_isLatin1_aae02 1 (some .boolean), Cond.methodLink RJ0 505 yJ0_length_8abf5, Cond.methodLink RJ0 637 yJ1_indexOf_4cfef, Cond.static yJ1_indexOf_4cfef, Cond.initialized RJ1, Cond.code yJ1_indexOf_4cfef cJ1_indexOf_4cfef 4 (some .int), Cond.methodLink RJ1 92 Lib.Math.max.name, Cond.static Lib.Math.max.name, Cond.initialized "java/lang/Math", Cond.code Lib.Math.max.name Lib.Math.max.code 2 (some .int), Cond.methodLink RJ1 38 Lib.Math.min.name, Cond.static Lib.Math.min.name, Cond.code Lib.Math.min.name Lib.Math.min.code 2 (some .int), Cond.methodLink RJ1 88 yJ1_canEncode_9a6ad, Cond.static yJ1_canEncode_9a6ad, Cond.code yJ1_canEncode_9a6ad cJ1_canEncode_9a6ad 1 (some .boolean), Cond.methodLink RJ1 95 yJ1_indexOfChar_4cfef, Cond.static yJ1_indexOfChar_4cfef, Cond.code yJ1_indexOfChar_4cfef cJ1_indexOfChar_4cfef 6 (some .int), Cond.methodLink RJ0 640 yJ2_indexOf_4cfef]
def wsL_law0_r14 : List Cond := [Cond.static yJ2_indexOf_4cfef, Cond.initialized RJ2, Cond.code yJ2_indexOf_4cfef cJ2_indexOf_4cfef 4 (some .int), Cond.methodLink RJ2 224 Lib.Math.max.name, Cond.methodLink RJ2 183 Lib.Math.min.name, Cond.constant RJ2 227 (65536), Cond.methodLink RJ2 228 yJ2_indexOfChar_4cfef, Cond.static yJ2_indexOfChar_4cfef, Cond.code yJ2_indexOfChar_4cfef cJ2_indexOfChar_4cfef 4 (some .int), Cond.methodLink RJ2 96 yJ2_checkBoundsBeginEnd_d044e, Cond.static yJ2_checkBoundsBeginEnd_d044e, Cond.code yJ2_checkBoundsBeginEnd_d044e cJ2_checkBoundsBeginEnd_d044e 3 none, Cond.methodLink RJ2 48 yJ2_length_9d52b, Cond.static yJ2_length_9d52b, Cond.code yJ2_length_9d52b cJ2_length_9d52b 1 (some .int), Cond.methodLink RJ2 241 yJ0_checkBoundsBeginEnd_23922, Cond.static yJ0_checkBoundsBeginEnd_23922, Cond.code yJ0_checkBoundsBeginEnd_23922 cJ0_checkBoundsBeginEnd_23922 3 none, Cond.fieldLink RJ0 1053 "jdk/internal/util/Preconditions" "SIOOBE_FORMATTER" "Ljava/util/function/BiFunction;", Cond.methodLink RJ0 1062 yJ3_checkFromToIndex_8c36e, Cond.static yJ3_checkFromToIndex_8c36e, Cond.initialized RJ3, Cond.code yJ3_checkFromToIndex_8c36e cJ3_checkFromToIndex_8c36e 4 (some .int), Cond.methodLink RJ2 244 yJ2_indexOfCharUnsafe_4cfef]
def wsL_law0_r15 : List Cond := [Cond.static yJ2_indexOfCharUnsafe_4cfef, Cond.code yJ2_indexOfCharUnsafe_4cfef cJ2_indexOfCharUnsafe_4cfef 5 (some .int), Cond.methodLink RJ2 71 yJ2_getChar_3b067, Cond.static yJ2_getChar_3b067, Cond.code yJ2_getChar_3b067 cJ2_getChar_3b067 2 (some .char), Cond.fieldLink RJ2 44 "java/lang/StringUTF16" "$assertionsDisabled" "Z", Cond.fieldLink RJ2 59 "java/lang/StringUTF16" "HI_BYTE_SHIFT" "I", Cond.fieldLink RJ2 63 "java/lang/StringUTF16" "LO_BYTE_SHIFT" "I", Cond.methodLink RJ2 232 yJ2_indexOfSupplementary_4cfef, Cond.static yJ2_indexOfSupplementary_4cfef, Cond.code yJ2_indexOfSupplementary_4cfef cJ2_indexOfSupplementary_4cfef 7 (some .int), Cond.methodLink RJ2 164 yJ11_isValidCodePoint_9a6ad, Cond.static yJ11_isValidCodePoint_9a6ad, Cond.initialized RJ11, Cond.code yJ11_isValidCodePoint_9a6ad cJ11_isValidCodePoint_9a6ad 2 (some .boolean), Cond.methodLink RJ2 157 yJ11_highSurrogate_5068e, Cond.static yJ11_highSurrogate_5068e, Cond.code yJ11_highSurrogate_5068e cJ11_highSurrogate_5068e 1 (some .char), Cond.constant RJ11 110 (55232), Cond.methodLink RJ2 161 yJ11_lowSurrogate_5068e, Cond.static yJ11_lowSurrogate_5068e, Cond.code yJ11_lowSurrogate_5068e cJ11_lowSurrogate_5068e 1 (some .char), Cond.constant RJ11 76 (56320), Cond.methodLink RX0 79 yX0_hasRoomFor]
def wsL_law0_r16 : List Cond := [Cond.instanceMethod yX0_hasRoomFor, Cond.selects RX0 yX0_hasRoomFor yX0_hasRoomFor, Cond.code yX0_hasRoomFor cX0_hasRoomFor 2 (some .boolean), Cond.methodLink RX0 82 yX9_refuseHere, Cond.instanceMethod yX9_refuseHere, Cond.selects RX9 yX9_refuseHere yX9_refuseHere, Cond.code yX9_refuseHere cX9_refuseHere 1 none, Cond.methodLink RX9 25 yX9_refuse, Cond.instanceMethod yX9_refuse, Cond.selects RX9 yX9_refuse yX9_refuse, Cond.code yX9_refuse cX9_refuse 2 none, Cond.methodLink RX0 85 yX9_skip, Cond.instanceMethod yX9_skip, Cond.selects RX9 yX9_skip yX9_skip, Cond.code yX9_skip cX9_skip 1 none, Cond.methodLink RX0 88 yX0_beginClause, Cond.instanceMethod yX0_beginClause, Cond.selects RX0 yX0_beginClause yX0_beginClause, Cond.code yX0_beginClause cX0_beginClause 3 (some .int), Cond.methodLink RX0 52 yX9_isRight, Cond.instanceMethod yX9_isRight, Cond.selects RX9 yX9_isRight yX9_isRight, Cond.code yX9_isRight cX9_isRight 1 (some .boolean), Cond.methodLink RX0 109 yX9_numberWithin]
def wsL_law0_r17 : List Cond := [Cond.instanceMethod yX9_numberWithin, Cond.selects RX9 yX9_numberWithin yX9_numberWithin, Cond.code yX9_numberWithin cX9_numberWithin 4 (some .int), Cond.methodLink RX9 29 yX9_peek, Cond.methodLink RX9 33 yX9_number, Cond.instanceMethod yX9_number, Cond.selects RX9 yX9_number yX9_number, Cond.code yX9_number cX9_number 4 (some .int), Cond.methodLink RX0 45 yX9_take, Cond.instanceMethod yX9_take, Cond.selects RX9 yX9_take yX9_take, Cond.code yX9_take cX9_take 2 (some .boolean), Cond.methodLink RX0 49 yX9_expectEnd, Cond.instanceMethod yX9_expectEnd, Cond.selects RX9 yX9_expectEnd yX9_expectEnd, Cond.code yX9_expectEnd cX9_expectEnd 1 none, Cond.methodLink RX0 56 yX0_isWhole, Cond.instanceMethod yX0_isWhole, Cond.selects RX0 yX0_isWhole yX0_isWhole, Cond.code yX0_isWhole cX0_isWhole 3 (some .boolean), Cond.methodLink RX0 116 yX0_buoyX, Cond.instanceMethod yX0_buoyX, Cond.selects RX0 yX0_buoyX yX0_buoyX, Cond.code yX0_buoyX cX0_buoyX 2 (some .int)]
def wsL_law0_r18 : List Cond := [Cond.methodLink RX0 119 yX0_buoyY, Cond.instanceMethod yX0_buoyY, Cond.selects RX0 yX0_buoyY yX0_buoyY, Cond.code yX0_buoyY cX0_buoyY 2 (some .int), Cond.methodLink RX0 62 yX9_refuse, Cond.methodLink RX0 66 yX9_wrongAt, Cond.instanceMethod yX9_wrongAt, Cond.selects RX9 yX9_wrongAt yX9_wrongAt, Cond.code yX9_wrongAt cX9_wrongAt 1 (some .int), Cond.methodLink RX11 119 yX5_spare, Cond.instanceMethod yX5_spare, Cond.selects RX5 yX5_spare yX5_spare, Cond.code yX5_spare cX5_spare 1 (some (.object "BuoyVote$Law")), Cond.fieldLink RX5 26 "BuoyVote$LawBook" "size" "I", Cond.methodLink RX11 123 yX4_faultOf, Cond.instanceMethod yX4_faultOf, Cond.selects RX4 yX4_faultOf yX4_faultOf, Cond.code yX4_faultOf cX4_faultOf 4 (some .int), Cond.fieldLink RX4 20 "BuoyVote$Law" "length" "I", Cond.methodLink RX4 34 yX9_rewind, Cond.methodLink RX4 37 yX9_expect, Cond.instanceMethod yX9_expect, Cond.selects RX9 yX9_expect yX9_expect, Cond.code yX9_expect cX9_expect 2 none]
def wsL_law0_r19 : List Cond := [Cond.methodLink RX4 41 yX9_peek, Cond.methodLink RX4 45 yX4_startsUnit, Cond.static yX4_startsUnit, Cond.code yX4_startsUnit cX4_startsUnit 1 (some .boolean), Cond.methodLink RX4 49 yX4_readSum, Cond.instanceMethod yX4_readSum, Cond.selects RX4 yX4_readSum yX4_readSum, Cond.code yX4_readSum cX4_readSum 6 none, Cond.methodLink RX4 72 yX9_isRight, Cond.methodLink RX4 85 yX4_readAtom, Cond.instanceMethod yX4_readAtom, Cond.selects RX4 yX4_readAtom yX4_readAtom, Cond.methodLink RX4 60 yX4_emit, Cond.instanceMethod yX4_emit, Cond.selects RX4 yX4_emit yX4_emit, Cond.code yX4_emit cX4_emit 2 none, Cond.methodLink RX4 88 yX9_takeEither, Cond.instanceMethod yX9_takeEither, Cond.selects RX9 yX9_takeEither yX9_takeEither, Cond.code yX9_takeEither cX9_takeEither 4 (some .int), Cond.code yX4_readAtom cX4_readAtom 6 none, Cond.methodLink RX4 93 yJ0_indexOf_0f7a4, Cond.methodLink RX4 79 yX9_skip, Cond.methodLink RX4 99 yX9_number]
def wsL_law0_r20 : List Cond := [Cond.methodLink RX4 82 yX9_refuseHere, Cond.methodLink RX4 53 yX4_isComparison, Cond.static yX4_isComparison, Cond.code yX4_isComparison cX4_isComparison 1 (some .boolean), Cond.methodLink RX4 56 yX4_readCondition, Cond.instanceMethod yX4_readCondition, Cond.selects RX4 yX4_readCondition yX4_readCondition, Cond.code yX4_readCondition cX4_readCondition 7 none, Cond.methodLink RX4 76 yX4_readUnit, Cond.instanceMethod yX4_readUnit, Cond.selects RX4 yX4_readUnit yX4_readUnit, Cond.methodLink RX4 63 yX9_take, Cond.code yX4_readUnit cX4_readUnit 5 none, Cond.methodLink RX4 66 yX9_expectEnd, Cond.methodLink RX4 69 yX9_wrongAt, Cond.methodLink RX11 129 yX6_faultOf, Cond.instanceMethod yX6_faultOf, Cond.selects RX6 yX6_faultOf yX6_faultOf, Cond.code yX6_faultOf cX6_faultOf 3 (some .int), Cond.fieldLink RX6 15 "BuoyVote$Plan" "steps" "I", Cond.methodLink RX6 19 yX9_rewind, Cond.methodLink RX6 24 yX6_readStep, Cond.instanceMethod yX6_readStep, Cond.selects RX6 yX6_readStep yX6_readStep]
def wsL_law0_r21 : List Cond := [Cond.code yX6_readStep cX6_readStep 6 none, Cond.fieldLink RX6 56 "BuoyVote$Plan" "DIGITS" "[I", Cond.methodLink RX6 39 yX9_peek, Cond.methodLink RX6 44 yJ0_indexOf_0f7a4, Cond.methodLink RX6 50 yX9_refuseHere, Cond.methodLink RX6 53 yX9_skip, Cond.methodLink RX6 59 yX9_isRight, Cond.methodLink RX6 63 yX9_digit, Cond.instanceMethod yX9_digit, Cond.selects RX9 yX9_digit yX9_digit, Cond.code yX9_digit cX9_digit 2 (some .int), Cond.methodLink RX6 28 yX9_take, Cond.methodLink RX6 32 yX9_expectEnd, Cond.methodLink RX6 35 yX9_wrongAt, Cond.methodLink RL 33 yX12_fault, Cond.instanceMethod yX12_fault, Cond.selects RX12 yX12_fault yX12_fault, Cond.code yX12_fault cX12_fault 2 (some .int), Cond.constantLong RX12 290 (2), Cond.fieldLink RX12 143 "BuoyVoteModel" "fault" "I", Cond.methodLink RX12 232 yX12_isIn, Cond.static yX12_isIn, Cond.code yX12_isIn cX12_isIn 6 (some .boolean), Cond.methodLink RX12 292 yX12_readBorough]
def wsL_law0_r22 : List Cond := [Cond.instanceMethod yX12_readBorough, Cond.selects RX12 yX12_readBorough yX12_readBorough, Cond.code yX12_readBorough cX12_readBorough 2 none, Cond.fieldLink RX12 260 "BuoyVoteModel" "buoysRead" "I", Cond.fieldLink RX12 263 "BuoyVoteModel" "boatsRead" "I", Cond.fieldLink RX12 257 "BuoyVoteModel" "hasRules" "Z", Cond.fieldLink RX12 134 "BuoyVoteModel" "at" "I", Cond.methodLink RX12 222 yX12_starts, Cond.instanceMethod yX12_starts, Cond.selects RX12 yX12_starts yX12_starts, Cond.code yX12_starts cX12_starts 4 none, Cond.fieldLink RX12 140 "BuoyVoteModel" "begins" "I", Cond.fieldLink RX12 137 "BuoyVoteModel" "ends" "I", Cond.methodLink RX12 236 yX12_usual, Cond.static yX12_usual, Cond.code yX12_usual cX12_usual 2 (some .int), Cond.methodLink RX12 276 yX12_readClause, Cond.instanceMethod yX12_readClause, Cond.selects RX12 yX12_readClause yX12_readClause, Cond.code yX12_readClause cX12_readClause 3 none, Cond.methodLink RX12 153 yX12_look, Cond.instanceMethod yX12_look, Cond.selects RX12 yX12_look yX12_look, Cond.code yX12_look cX12_look 1 (some .int)]
def wsL_law0_r23 : List Cond := [Cond.methodLink RX12 149 yX12_fails, Cond.instanceMethod yX12_fails, Cond.selects RX12 yX12_fails yX12_fails, Cond.code yX12_fails cX12_fails 1 (some .boolean), Cond.methodLink RX12 268 yX12_readItems, Cond.instanceMethod yX12_readItems, Cond.selects RX12 yX12_readItems yX12_readItems, Cond.code yX12_readItems cX12_readItems 7 none, Cond.methodLink RX12 114 yJ0_length_8abf5, Cond.methodLink RX12 240 yX12_spotOf, Cond.static yX12_spotOf, Cond.code yX12_spotOf cX12_spotOf 3 (some .int), Cond.methodLink RX12 120 yJ0_charAt_5068e, Cond.instanceMethod yJ0_charAt_5068e, Cond.selects RJ0 yJ0_charAt_5068e yJ0_charAt_5068e, Cond.code yJ0_charAt_5068e cJ0_charAt_5068e 2 (some .char), Cond.methodLink RJ0 495 yJ1_charAt_3b067, Cond.static yJ1_charAt_3b067, Cond.code yJ1_charAt_3b067 cJ1_charAt_3b067 2 (some .char), Cond.methodLink RJ1 9 yJ0_checkIndex_df160, Cond.static yJ0_checkIndex_df160, Cond.code yJ0_checkIndex_df160 cJ0_checkIndex_df160 2 none, Cond.methodLink RJ0 1059 yJ3_checkIndex_8e157, Cond.static yJ3_checkIndex_8e157]
def wsL_law0_r24 : List Cond := [Cond.code yJ3_checkIndex_8e157 cJ3_checkIndex_8e157 3 (some .int), Cond.methodLink RJ0 498 yJ2_charAt_3b067, Cond.static yJ2_charAt_3b067, Cond.code yJ2_charAt_3b067 cJ2_charAt_3b067 2 (some .char), Cond.methodLink RJ2 67 yJ2_checkIndex_2214a, Cond.static yJ2_checkIndex_2214a, Cond.code yJ2_checkIndex_2214a cJ2_checkIndex_2214a 2 none, Cond.methodLink RJ2 414 yJ0_checkIndex_df160, Cond.methodLink RX12 244 yX12_has, Cond.static yX12_has, Cond.code yX12_has cX12_has 2 (some .boolean), Cond.methodLink RX12 248 yX12_leastOf, Cond.static yX12_leastOf, Cond.code yX12_leastOf cX12_leastOf 2 (some .int), Cond.methodLink RX12 251 yX12_mostOf, Cond.static yX12_mostOf, Cond.code yX12_mostOf cX12_mostOf 2 (some .int), Cond.methodLink RX12 254 yX12_number, Cond.instanceMethod yX12_number, Cond.selects RX12 yX12_number yX12_number, Cond.code yX12_number cX12_number 5 (some .int), Cond.methodLink RX12 183 yX12_isDigit, Cond.instanceMethod yX12_isDigit, Cond.selects RX12 yX12_isDigit yX12_isDigit]
def wsL_law0_r25 : List Cond := [Cond.code yX12_isDigit cX12_isDigit 1 (some .boolean), Cond.methodLink RX12 229 yX12_here, Cond.instanceMethod yX12_here, Cond.selects RX12 yX12_here yX12_here, Cond.code yX12_here cX12_here 1 (some .int), Cond.methodLink RX12 279 yX12_isWhole, Cond.instanceMethod yX12_isWhole, Cond.selects RX12 yX12_isWhole yX12_isWhole, Cond.code yX12_isWhole cX12_isWhole 3 (some .boolean), Cond.methodLink RX12 295 yX12_goThrough, Cond.instanceMethod yX12_goThrough, Cond.selects RX12 yX12_goThrough yX12_goThrough, Cond.code yX12_goThrough cX12_goThrough 4 none, Cond.fieldLink RX12 216 "BuoyVoteModel" "label" "I", Cond.fieldLink RX12 146 "BuoyVoteModel" "deep" "I", Cond.fieldLink RX12 212 "BuoyVoteModel" "hasFound" "Z", Cond.fieldLink RX12 219 "BuoyVoteModel" "found" "I", Cond.methodLink RX12 226 yX12_clause, Cond.instanceMethod yX12_clause, Cond.selects RX12 yX12_clause yX12_clause, Cond.code yX12_clause cX12_clause 5 none, Cond.methodLink RX12 169 yX12_isAmong, Cond.static yX12_isAmong, Cond.code yX12_isAmong cX12_isAmong 3 (some .boolean)]
def wsL_law0_r26 : List Cond := [Cond.methodLink RX12 179 yX12_takes, Cond.instanceMethod yX12_takes, Cond.selects RX12 yX12_takes yX12_takes, Cond.code yX12_takes cX12_takes 2 (some .boolean), Cond.methodLink RX12 202 yX12_condition, Cond.instanceMethod yX12_condition, Cond.selects RX12 yX12_condition yX12_condition, Cond.code yX12_condition cX12_condition 5 (some .boolean), Cond.methodLink RX12 209 yX12_part, Cond.instanceMethod yX12_part, Cond.selects RX12 yX12_part yX12_part, Cond.code yX12_part cX12_part 5 (some .boolean), Cond.methodLink RX12 206 yX12_compares, Cond.instanceMethod yX12_compares, Cond.selects RX12 yX12_compares yX12_compares, Cond.code yX12_compares cX12_compares 6 (some .boolean), Cond.methodLink RX12 176 yX12_sum, Cond.instanceMethod yX12_sum, Cond.selects RX12 yX12_sum yX12_sum, Cond.code yX12_sum cX12_sum 5 (some .int), Cond.methodLink RX12 193 yX12_term, Cond.instanceMethod yX12_term, Cond.selects RX12 yX12_term yX12_term, Cond.methodLink RX12 189 yX12_within]
def wsL_law0_r27 : List Cond := [Cond.static yX12_within, Cond.code yX12_within cX12_within 2 (some .int), Cond.constantLong RX12 156 (-1000000), Cond.constantLong RX12 158 (1000000), Cond.methodLink RX12 160 Lib.MathLoose.min_long.x, Cond.static Lib.MathLoose.min_long.x, Cond.code Lib.MathLoose.min_long.x Lib.MathLoose.min_long.code 4 (some .long), Cond.methodLink RX12 166 Lib.MathLoose.max_long.x, Cond.static Lib.MathLoose.max_long.x, Cond.code Lib.MathLoose.max_long.x Lib.MathLoose.max_long.code 4 (some .long), Cond.code yX12_atom cX12_atom 4 (some .int), Cond.methodLink RX12 173 yX12_goesIn, Cond.instanceMethod yX12_goesIn, Cond.selects RX12 yX12_goesIn yX12_goesIn, Cond.code yX12_goesIn cX12_goesIn 1 (some .boolean), Cond.code yX12_term cX12_term 5 (some .int), Cond.methodLink RX12 186 yX12_atom, Cond.instanceMethod yX12_atom, Cond.selects RX12 yX12_atom yX12_atom, Cond.methodLink RX12 196 yX12_isSign, Cond.static yX12_isSign, Cond.code yX12_isSign cX12_isSign 1 (some .boolean), Cond.methodLink RX12 199 yX12_unit, Cond.instanceMethod yX12_unit]
def wsL_law0_r28 : List Cond := [Cond.selects RX12 yX12_unit yX12_unit, Cond.code yX12_unit cX12_unit 3 (some .boolean), Cond.methodLink RX12 298 yX12_readPlan, Cond.instanceMethod yX12_readPlan, Cond.selects RX12 yX12_readPlan yX12_readPlan, Cond.code yX12_readPlan cX12_readPlan 3 none, Cond.methodLink RX12 287 yX12_readStep, Cond.instanceMethod yX12_readStep, Cond.selects RX12 yX12_readStep yX12_readStep, Cond.code yX12_readStep cX12_readStep 3 none, Cond.methodLink RX12 284 yX12_digit, Cond.instanceMethod yX12_digit, Cond.selects RX12 yX12_digit yX12_digit, Cond.code yX12_digit cX12_digit 2 (some .int), Cond.methodLink RL 34 yX11_text, Cond.instanceMethod yX11_text, Cond.selects RX11 yX11_text yX11_text, Cond.code yX11_text cX11_text 2 (some .int), Cond.methodLink RX11 130 yX11_beginBorough, Cond.instanceMethod yX11_beginBorough, Cond.selects RX11 yX11_beginBorough yX11_beginBorough, Cond.code yX11_beginBorough cX11_beginBorough 1 (some .int), Cond.fieldLink RX11 363 "BuoyVote$Sightings" "size" "I", Cond.fieldLink RX11 275 "BuoyVote$Borough" "buoys" "I"]
def wsL_law0_r29 : List Cond := [Cond.methodLink RX11 443 yX0_copyFrom, Cond.instanceMethod yX0_copyFrom, Cond.selects RX0 yX0_copyFrom yX0_copyFrom, Cond.code yX0_copyFrom cX0_copyFrom 2 none, Cond.methodLink RX0 15 arraycopyName, Cond.native arraycopyName, Cond.static arraycopyName, Cond.initialized "java/lang/System", Cond.methodLink RX11 445 yX7_begin, Cond.instanceMethod yX7_begin, Cond.selects RX7 yX7_begin yX7_begin, Cond.code yX7_begin cX7_begin 4 none, Cond.fieldLink RX7 45 "BuoyVote$Sea" "wind" "I", Cond.fieldLink RX7 52 "BuoyVote$Sea" "way" "I", Cond.fieldLink RX7 55 "BuoyVote$Sea" "hour" "I", Cond.fieldLink RX7 58 "BuoyVote$Sea" "logged" "I", Cond.fieldLink RX7 61 "BuoyVote$Borough" "boats" "I", Cond.fieldLink RX7 75 "BuoyVote$Borough" "buoys" "I", Cond.methodLink RX7 39 yX0_windAtFirst, Cond.instanceMethod yX0_windAtFirst, Cond.selects RX0 yX0_windAtFirst yX0_windAtFirst, Cond.code yX0_windAtFirst cX0_windAtFirst 1 (some .int), Cond.methodLink RX7 49 yX0_wayAtFirst, Cond.instanceMethod yX0_wayAtFirst]
def wsL_law0_r30 : List Cond := [Cond.selects RX0 yX0_wayAtFirst yX0_wayAtFirst, Cond.code yX0_wayAtFirst cX0_wayAtFirst 1 (some .int), Cond.methodLink RX7 64 yX0_boatX, Cond.instanceMethod yX0_boatX, Cond.selects RX0 yX0_boatX yX0_boatX, Cond.code yX0_boatX cX0_boatX 2 (some .int), Cond.methodLink RX7 68 yX0_boatY, Cond.instanceMethod yX0_boatY, Cond.selects RX0 yX0_boatY yX0_boatY, Cond.code yX0_boatY cX0_boatY 2 (some .int), Cond.methodLink RX7 71 yX7_put, Cond.instanceMethod yX7_put, Cond.selects RX7 yX7_put yX7_put, Cond.code yX7_put cX7_put 4 none, Cond.methodLink RX7 78 yX0_likingAtFirst, Cond.instanceMethod yX0_likingAtFirst, Cond.selects RX0 yX0_likingAtFirst yX0_likingAtFirst, Cond.code yX0_likingAtFirst cX0_likingAtFirst 3 (some .int), Cond.methodLink RX7 82 yX0_oldAtFirst, Cond.instanceMethod yX0_oldAtFirst, Cond.selects RX0 yX0_oldAtFirst yX0_oldAtFirst, Cond.code yX0_oldAtFirst cX0_oldAtFirst 3 (some .int), Cond.methodLink RX7 85 yX0_barnaclesAtFirst, Cond.instanceMethod yX0_barnaclesAtFirst]
def wsL_law0_r31 : List Cond := [Cond.selects RX0 yX0_barnaclesAtFirst yX0_barnaclesAtFirst, Cond.code yX0_barnaclesAtFirst cX0_barnaclesAtFirst 2 (some .int), Cond.methodLink RX11 448 yX3_forget, Cond.instanceMethod yX3_forget, Cond.selects RX3 yX3_forget yX3_forget, Cond.code yX3_forget cX3_forget 1 none, Cond.fieldLink RX3 29 "BuoyVote$History" "next" "I", Cond.fieldLink RX3 33 "BuoyVote$History" "acts" "I", Cond.fieldLink RX3 36 "BuoyVote$History" "imaged" "Z", Cond.methodLink RX11 134 yX11_keepLaw, Cond.instanceMethod yX11_keepLaw, Cond.selects RX11 yX11_keepLaw yX11_keepLaw, Cond.code yX11_keepLaw cX11_keepLaw 1 (some .int), Cond.fieldLink RX11 218 "BuoyVote$LawBook" "size" "I", Cond.methodLink RX11 137 yX11_keepPlan, Cond.instanceMethod yX11_keepPlan, Cond.selects RX11 yX11_keepPlan yX11_keepPlan, Cond.code yX11_keepPlan cX11_keepPlan 1 (some .int), Cond.methodLink RL 37 yX12_text, Cond.instanceMethod yX12_text, Cond.selects RX12 yX12_text yX12_text, Cond.code yX12_text cX12_text 4 (some .int), Cond.fieldLink RX12 301 "BuoyVoteModel" "lawMany" "I", Cond.fieldLink RX12 304 "BuoyVoteModel" "plans" "I"]
def wsL_law0_r32 : List Cond := [Cond.fieldLink RX12 309 "BuoyVoteModel" "buoys" "I", Cond.fieldLink RX12 312 "BuoyVoteModel" "boats" "I", Cond.methodLink RX12 307 yX12_fault, Cond.methodLink RX12 315 yX12_begin, Cond.instanceMethod yX12_begin, Cond.selects RX12 yX12_begin yX12_begin, Cond.code yX12_begin cX12_begin 3 none, Cond.fieldLink RX12 321 "BuoyVoteModel" "sights" "I", Cond.fieldLink RX12 324 "BuoyVoteModel" "acts" "I", Cond.fieldLink RX12 327 "BuoyVoteModel" "hasImage" "Z", Cond.methodLink RX12 318 yX12_told, Cond.instanceMethod yX12_told, Cond.selects RX12 yX12_told yX12_told, Cond.code yX12_told cX12_told 3 (some .int), Cond.methodLink RL 38 yX11_rule, Cond.instanceMethod yX11_rule, Cond.selects RX11 yX11_rule yX11_rule, Cond.code yX11_rule cX11_rule 2 (some .int), Cond.fieldLink RX11 144 "BuoyVote$Sea" "wind" "I", Cond.fieldLink RX11 147 "BuoyVote$Sea" "way" "I", Cond.fieldLink RX11 156 "BuoyVote$Sea" "hour" "I", Cond.methodLink RX11 140 yX11_hasBorough, Cond.instanceMethod yX11_hasBorough, Cond.selects RX11 yX11_hasBorough yX11_hasBorough]
def wsL_law0_r33 : List Cond := [Cond.code yX11_hasBorough cX11_hasBorough 1 (some .boolean), Cond.methodLink RX11 150 yX0_tideHours, Cond.instanceMethod yX0_tideHours, Cond.selects RX0 yX0_tideHours yX0_tideHours, Cond.code yX0_tideHours cX0_tideHours 1 (some .int), Cond.methodLink RX11 153 yX0_countHours, Cond.instanceMethod yX0_countHours, Cond.selects RX0 yX0_countHours yX0_countHours, Cond.code yX0_countHours cX0_countHours 1 (some .int), Cond.methodLink RX11 159 yX10_isRising, Cond.instanceMethod yX10_isRising, Cond.selects RX10 yX10_isRising yX10_isRising, Cond.code yX10_isRising cX10_isRising 3 (some .boolean), Cond.methodLink RX10 32 yX0_tideHours, Cond.methodLink RL 41 yX12_rule, Cond.instanceMethod yX12_rule, Cond.selects RX12 yX12_rule yX12_rule, Cond.code yX12_rule cX12_rule 2 (some .int), Cond.constantLong RX12 405 (4), Cond.methodLink RX12 341 yX12_rises, Cond.instanceMethod yX12_rises, Cond.selects RX12 yX12_rises yX12_rises, Cond.code yX12_rises cX12_rises 2 (some .boolean), Cond.methodLink RL 42 yL_buoy]
def wsL_law0_r34 : List Cond := [Cond.static yL_buoy, Cond.initialized RL, Cond.codeWith yL_buoy cL_buoy 5 (some .int) [(0, 10, 13, 13)], Cond.classLink RL 13 "java/util/NoSuchElementException", Cond.methodLink RL 7 yX11_buoy, Cond.instanceMethod yX11_buoy, Cond.selects RX11 yX11_buoy yX11_buoy, Cond.code yX11_buoy cX11_buoy 3 (some .int), Cond.classLink RX11 166 "java/util/NoSuchElementException", Cond.initialized "java/util/NoSuchElementException", Cond.fieldLink RX11 178 "BuoyVote$Sea" "old" "[I", Cond.fieldLink RX11 181 "BuoyVote$Sea" "barnacles" "[I", Cond.fieldLink RX11 188 "BuoyVote$Sea" "liking" "[I", Cond.methodLink RX11 163 yX11_isBuoy, Cond.instanceMethod yX11_isBuoy, Cond.selects RX11 yX11_isBuoy yX11_isBuoy, Cond.code yX11_isBuoy cX11_isBuoy 2 (some .boolean), Cond.methodLink RX11 169 yX0_buoyX, Cond.methodLink RX11 172 yX0_buoyY, Cond.methodLink RX11 175 yX0_chain, Cond.instanceMethod yX0_chain, Cond.selects RX0 yX0_chain yX0_chain, Cond.code yX0_chain cX0_chain 2 (some .int), Cond.methodLink RX11 184 yX10_leanOf]
def wsL_law0_r35 : List Cond := [Cond.instanceMethod yX10_leanOf, Cond.selects RX10 yX10_leanOf yX10_leanOf, Cond.code yX10_leanOf cX10_leanOf 4 (some .int), Cond.fieldLink RX10 93 "BuoyVote$Borough" "boats" "I", Cond.methodLink RX10 96 yX10_drawOf, Cond.instanceMethod yX10_drawOf, Cond.selects RX10 yX10_drawOf yX10_drawOf, Cond.code yX10_drawOf cX10_drawOf 7 (some .int), Cond.fieldLink RX10 67 "BuoyVote$Sea" "liking" "[I", Cond.fieldLink RX10 70 "BuoyVote$Sea" "old" "[I", Cond.fieldLink RX10 73 "BuoyVote$Sea" "barnacles" "[I", Cond.fieldLink RX10 60 "BuoyVote$Sea" "hour" "I", Cond.methodLink RX10 43 yX0_buoyX, Cond.methodLink RX10 50 yX0_buoyY, Cond.methodLink RX10 76 yX7_awayOf, Cond.instanceMethod yX7_awayOf, Cond.selects RX7 yX7_awayOf yX7_awayOf, Cond.code yX7_awayOf cX7_awayOf 4 (some .int), Cond.methodLink RX7 99 Lib.Math.abs.name, Cond.static Lib.Math.abs.name, Cond.code Lib.Math.abs.name Lib.Math.abs.code 1 (some .int), Cond.methodLink RX10 80 yX0_voice, Cond.instanceMethod yX0_voice, Cond.selects RX0 yX0_voice yX0_voice]
def wsL_law0_r36 : List Cond := [Cond.code yX0_voice cX0_voice 2 (some .int), Cond.methodLink RX10 83 yX10_pushOf, Cond.instanceMethod yX10_pushOf, Cond.selects RX10 yX10_pushOf yX10_pushOf, Cond.code yX10_pushOf cX10_pushOf 10 (some .int), Cond.fieldLink RX10 38 "BuoyVote$Sea" "x" "[I", Cond.fieldLink RX10 47 "BuoyVote$Sea" "y" "[I", Cond.fieldLink RX10 53 "BuoyVote$Sea" "way" "I", Cond.fieldLink RX10 57 "BuoyVote$Sea" "wind" "I", Cond.methodLink RX10 63 yX10_isRising, Cond.methodLink RX10 87 yX5_drawBy, Cond.instanceMethod yX5_drawBy, Cond.selects RX5 yX5_drawBy yX5_drawBy, Cond.code yX5_drawBy cX5_drawBy 8 (some .int), Cond.methodLink RX5 29 yX4_worth, Cond.instanceMethod yX4_worth, Cond.selects RX4 yX4_worth yX4_worth, Cond.code yX4_worth cX4_worth 6 (some .int), Cond.methodLink RX4 24 yX4_joinedAt, Cond.instanceMethod yX4_joinedAt, Cond.selects RX4 yX4_joinedAt yX4_joinedAt, Cond.code yX4_joinedAt cX4_joinedAt 7 (some .int), Cond.constantLong RX4 28 (1000000), Cond.constant RX4 30 (1000000)]
def wsL_law0_r37 : List Cond := [Cond.constantLong RX4 31 (-1000000), Cond.constant RX4 33 (-1000000), Cond.methodLink RX10 99 yX0_chain, Cond.methodLink RX10 102 yX10_leanBy, Cond.instanceMethod yX10_leanBy, Cond.selects RX10 yX10_leanBy yX10_leanBy, Cond.code yX10_leanBy cX10_leanBy 5 (some .int), Cond.methodLink RL 47 yX12_buoy, Cond.instanceMethod yX12_buoy, Cond.selects RX12 yX12_buoy yX12_buoy, Cond.code yX12_buoy cX12_buoy 3 (some .int), Cond.constantLong RX12 410 (8), Cond.methodLink RX12 407 yX12_isBuoy, Cond.instanceMethod yX12_isBuoy, Cond.selects RX12 yX12_isBuoy yX12_isBuoy, Cond.code yX12_isBuoy cX12_isBuoy 2 (some .boolean), Cond.methodLink RX12 386 yX12_leanOf, Cond.instanceMethod yX12_leanOf, Cond.selects RX12 yX12_leanOf yX12_leanOf, Cond.code yX12_leanOf cX12_leanOf 4 (some .int), Cond.methodLink RX12 380 yX12_drawOf, Cond.instanceMethod yX12_drawOf, Cond.selects RX12 yX12_drawOf yX12_drawOf, Cond.code yX12_drawOf cX12_drawOf 4 (some .int)]
def wsL_law0_r38 : List Cond := [Cond.methodLink RX12 364 yX12_boatTold, Cond.instanceMethod yX12_boatTold, Cond.selects RX12 yX12_boatTold yX12_boatTold, Cond.code yX12_boatTold cX12_boatTold 3 (some .int), Cond.methodLink RX12 367 yX12_barnaclesFor, Cond.instanceMethod yX12_barnaclesFor, Cond.selects RX12 yX12_barnaclesFor yX12_barnaclesFor, Cond.code yX12_barnaclesFor cX12_barnaclesFor 4 (some .int), Cond.methodLink RX12 370 yX12_awayFrom, Cond.instanceMethod yX12_awayFrom, Cond.selects RX12 yX12_awayFrom yX12_awayFrom, Cond.code yX12_awayFrom cX12_awayFrom 4 (some .int), Cond.methodLink RX12 337 yX12_away, Cond.instanceMethod yX12_away, Cond.selects RX12 yX12_away yX12_away, Cond.code yX12_away cX12_away 5 (some .int), Cond.methodLink RX12 334 Lib.Math.abs.name, Cond.methodLink RX12 330 yX12_ofBoat, Cond.static yX12_ofBoat, Cond.code yX12_ofBoat cX12_ofBoat 3 (some .int), Cond.methodLink RX12 373 yX12_pushOf, Cond.instanceMethod yX12_pushOf, Cond.selects RX12 yX12_pushOf yX12_pushOf, Cond.code yX12_pushOf cX12_pushOf 8 (some .int)]
def wsL_law0_r39 : List Cond := [Cond.methodLink RX12 376 yX12_drawBy, Cond.instanceMethod yX12_drawBy, Cond.selects RX12 yX12_drawBy yX12_drawBy, Cond.code yX12_drawBy cX12_drawBy 8 (some .int), Cond.methodLink RX12 348 Lib.Math.min.name, Cond.methodLink RX12 350 Lib.Math.max.name, Cond.methodLink RX12 345 yX12_worthNow, Cond.instanceMethod yX12_worthNow, Cond.selects RX12 yX12_worthNow yX12_worthNow, Cond.code yX12_worthNow cX12_worthNow 4 (some .int), Cond.constantLong RX12 352 (10), Cond.constantLong RX12 354 (20), Cond.constantLong RX12 356 (30), Cond.constantLong RX12 358 (15), Cond.constantLong RX12 360 (5), Cond.constantLong RX12 362 (8191), Cond.methodLink RX12 383 yX12_leanBy, Cond.instanceMethod yX12_leanBy, Cond.selects RX12 yX12_leanBy yX12_leanBy, Cond.code yX12_leanBy cX12_leanBy 6 (some .int), Cond.methodLink RL 48 yX12_thrown, Cond.instanceMethod yX12_thrown, Cond.selects RX12 yX12_thrown yX12_thrown, Cond.code yX12_thrown cX12_thrown 1 (some .int)]
def wsL_law0_r40 : List Cond := [Cond.methodLink RL 52 yX11_boat, Cond.instanceMethod yX11_boat, Cond.selects RX11 yX11_boat yX11_boat, Cond.code yX11_boat cX11_boat 3 (some .int), Cond.fieldLink RX11 194 "BuoyVote$Sea" "x" "[I", Cond.fieldLink RX11 197 "BuoyVote$Sea" "y" "[I", Cond.fieldLink RX11 206 "BuoyVote$Sea" "goalX" "[I", Cond.fieldLink RX11 209 "BuoyVote$Sea" "goalY" "[I", Cond.fieldLink RX11 212 "BuoyVote$Sea" "won" "[I", Cond.fieldLink RX11 215 "BuoyVote$Sea" "sang" "[I", Cond.methodLink RX11 191 yX11_isBoat, Cond.instanceMethod yX11_isBoat, Cond.selects RX11 yX11_isBoat yX11_isBoat, Cond.code yX11_isBoat cX11_isBoat 2 (some .boolean), Cond.fieldLink RX11 272 "BuoyVote$Borough" "boats" "I", Cond.methodLink RX11 200 yX0_speed, Cond.instanceMethod yX0_speed, Cond.selects RX0 yX0_speed yX0_speed, Cond.code yX0_speed cX0_speed 2 (some .int), Cond.methodLink RX11 203 yX0_voice, Cond.methodLink RL 55 yX12_boat, Cond.instanceMethod yX12_boat, Cond.selects RX12 yX12_boat yX12_boat, Cond.code yX12_boat cX12_boat 3 (some .int)]
def wsL_law0_r41 : List Cond := [Cond.constantLong RX12 415 (7), Cond.methodLink RX12 412 yX12_isBoat, Cond.instanceMethod yX12_isBoat, Cond.selects RX12 yX12_isBoat yX12_isBoat, Cond.code yX12_isBoat cX12_isBoat 2 (some .boolean), Cond.methodLink RL 56 yX11_law, Cond.instanceMethod yX11_law, Cond.selects RX11 yX11_law yX11_law, Cond.code yX11_law cX11_law 2 (some .boolean), Cond.fieldLink RX11 221 "BuoyVote$LawBook" "holding" "I", Cond.methodLink RL 59 yX12_law, Cond.instanceMethod yX12_law, Cond.selects RX12 yX12_law yX12_law, Cond.code yX12_law cX12_law 2 (some .boolean), Cond.methodLink RL 60 yX11_pull, Cond.instanceMethod yX11_pull, Cond.selects RX11 yX11_pull yX11_pull, Cond.code yX11_pull cX11_pull 3 (some .int), Cond.constant RX11 228 (-1000000), Cond.methodLink RX11 224 yX10_drawOf, Cond.methodLink RL 63 yX12_pull, Cond.instanceMethod yX12_pull, Cond.selects RX12 yX12_pull yX12_pull, Cond.code yX12_pull cX12_pull 3 (some .int)]
def wsL_law0_r42 : List Cond := [Cond.constant RX12 417 (-1000000), Cond.methodLink RL 64 yX11_push, Cond.instanceMethod yX11_push, Cond.selects RX11 yX11_push yX11_push, Cond.code yX11_push cX11_push 3 (some .int), Cond.methodLink RX11 229 yX10_pushOf, Cond.methodLink RL 67 yX12_push, Cond.instanceMethod yX12_push, Cond.selects RX12 yX12_push yX12_push, Cond.code yX12_push cX12_push 3 (some .int), Cond.methodLink RL 68 yX11_row, Cond.instanceMethod yX11_row, Cond.selects RX11 yX11_row yX11_row, Cond.code yX11_row cX11_row 4 (some .int), Cond.methodLink RX11 232 yX11_canRow, Cond.instanceMethod yX11_canRow, Cond.selects RX11 yX11_canRow yX11_canRow, Cond.code yX11_canRow cX11_canRow 5 (some .boolean), Cond.methodLink RX11 236 yX3_remember, Cond.instanceMethod yX3_remember, Cond.selects RX3 yX3_remember yX3_remember, Cond.code yX3_remember cX3_remember 2 none, Cond.methodLink RX3 44 Lib.Math.min.name, Cond.methodLink RX3 40 yX7_copyFrom]
def wsL_law0_r43 : List Cond := [Cond.instanceMethod yX7_copyFrom, Cond.selects RX7 yX7_copyFrom yX7_copyFrom, Cond.code yX7_copyFrom cX7_copyFrom 2 none, Cond.methodLink RX7 88 arraycopyName, Cond.methodLink RX11 240 yX7_awayOf, Cond.methodLink RX11 244 yX11_hoursFor, Cond.static yX11_hoursFor, Cond.code yX11_hoursFor cX11_hoursFor 2 (some .int), Cond.methodLink RL 72 yX12_row, Cond.instanceMethod yX12_row, Cond.selects RX12 yX12_row yX12_row, Cond.code yX12_row cX12_row 4 (some .int), Cond.methodLink RX12 420 yX12_canRow, Cond.instanceMethod yX12_canRow, Cond.selects RX12 yX12_canRow yX12_canRow, Cond.code yX12_canRow cX12_canRow 5 (some .boolean), Cond.constantLong RX12 418 (9), Cond.methodLink RX12 424 yX12_remember, Cond.instanceMethod yX12_remember, Cond.selects RX12 yX12_remember yX12_remember, Cond.code yX12_remember cX12_remember 2 none, Cond.methodLink RX12 427 yX12_rows, Cond.static yX12_rows, Cond.code yX12_rows cX12_rows 4 none]
def wsL_law0_r44 : List Cond := [Cond.methodLink RX12 431 yX12_hoursFor, Cond.instanceMethod yX12_hoursFor, Cond.selects RX12 yX12_hoursFor yX12_hoursFor, Cond.code yX12_hoursFor cX12_hoursFor 3 (some .int), Cond.methodLink RL 73 yX11_sing, Cond.instanceMethod yX11_sing, Cond.selects RX11 yX11_sing yX11_sing, Cond.code yX11_sing cX11_sing 3 (some .int), Cond.methodLink RX11 248 yX11_canSing, Cond.instanceMethod yX11_canSing, Cond.selects RX11 yX11_canSing yX11_canSing, Cond.code yX11_canSing cX11_canSing 4 (some .boolean), Cond.methodLink RX11 416 yX11_isBeside, Cond.instanceMethod yX11_isBeside, Cond.selects RX11 yX11_isBeside yX11_isBeside, Cond.code yX11_isBeside cX11_isBeside 4 (some .boolean), Cond.methodLink RX11 252 yX7_singTo, Cond.instanceMethod yX7_singTo, Cond.selects RX7 yX7_singTo yX7_singTo, Cond.code yX7_singTo cX7_singTo 3 none, Cond.methodLink RL 76 yX12_sing, Cond.instanceMethod yX12_sing, Cond.selects RX12 yX12_sing yX12_sing, Cond.code yX12_sing cX12_sing 3 (some .int)]
def wsL_law0_r45 : List Cond := [Cond.methodLink RX12 434 yX12_canSing, Cond.instanceMethod yX12_canSing, Cond.selects RX12 yX12_canSing yX12_canSing, Cond.code yX12_canSing cX12_canSing 4 (some .boolean), Cond.methodLink RX12 438 yX12_sings, Cond.static yX12_sings, Cond.code yX12_sings cX12_sings 3 none, Cond.methodLink RL 77 yX11_scrape, Cond.instanceMethod yX11_scrape, Cond.selects RX11 yX11_scrape yX11_scrape, Cond.code yX11_scrape cX11_scrape 3 (some .int), Cond.methodLink RX11 256 yX11_canScrape, Cond.instanceMethod yX11_canScrape, Cond.selects RX11 yX11_canScrape yX11_canScrape, Cond.code yX11_canScrape cX11_canScrape 4 (some .boolean), Cond.methodLink RL 80 yX12_scrape, Cond.instanceMethod yX12_scrape, Cond.selects RX12 yX12_scrape yX12_scrape, Cond.code yX12_scrape cX12_scrape 3 (some .int), Cond.methodLink RX12 442 yX12_canScrape, Cond.instanceMethod yX12_canScrape, Cond.selects RX12 yX12_canScrape yX12_canScrape, Cond.code yX12_canScrape cX12_canScrape 4 (some .boolean), Cond.methodLink RL 81 yX11_wind]
def wsL_law0_r46 : List Cond := [Cond.instanceMethod yX11_wind, Cond.selects RX11 yX11_wind yX11_wind, Cond.code yX11_wind cX11_wind 3 (some .boolean), Cond.methodLink RL 85 yX12_wind, Cond.instanceMethod yX12_wind, Cond.selects RX12 yX12_wind yX12_wind, Cond.code yX12_wind cX12_wind 3 (some .boolean), Cond.constantLong RX12 445 (3), Cond.methodLink RL 86 yX11_hours, Cond.instanceMethod yX11_hours, Cond.selects RX11 yX11_hours yX11_hours, Cond.code yX11_hours cX11_hours 3 (some .int), Cond.methodLink RX11 259 yX11_canPass, Cond.instanceMethod yX11_canPass, Cond.selects RX11 yX11_canPass yX11_canPass, Cond.code yX11_canPass cX11_canPass 2 (some .boolean), Cond.methodLink RX11 262 yX11_liveHour, Cond.instanceMethod yX11_liveHour, Cond.selects RX11 yX11_liveHour yX11_liveHour, Cond.code yX11_liveHour cX11_liveHour 1 none, Cond.fieldLink RX11 319 "BuoyVote$Waters" "tally" "[I", Cond.methodLink RX11 392 yX10_passHour, Cond.instanceMethod yX10_passHour, Cond.selects RX10 yX10_passHour yX10_passHour]
def wsL_law0_r47 : List Cond := [Cond.code yX10_passHour cX10_passHour 3 none, Cond.methodLink RX10 120 yX0_speed, Cond.methodLink RX10 123 yX7_rowOn, Cond.instanceMethod yX7_rowOn, Cond.selects RX7 yX7_rowOn yX7_rowOn, Cond.code yX7_rowOn cX7_rowOn 7 none, Cond.methodLink RX7 94 Lib.Math.min.name, Cond.methodLink RX10 111 yX10_tallyUp, Cond.instanceMethod yX10_tallyUp, Cond.selects RX10 yX10_tallyUp yX10_tallyUp, Cond.code yX10_tallyUp cX10_tallyUp 4 none, Cond.fieldLink RX10 105 "BuoyVote$Borough" "buoys" "I", Cond.methodLink RX10 127 yX0_countHours, Cond.methodLink RX10 130 yX10_holdCount, Cond.instanceMethod yX10_holdCount, Cond.selects RX10 yX10_holdCount yX10_holdCount, Cond.code yX10_holdCount cX10_holdCount 5 none, Cond.fieldLink RX10 136 "BuoyVote$Sea" "won" "[I", Cond.methodLink RX10 139 Lib.Math.min.name, Cond.methodLink RX10 133 yX10_winner, Cond.instanceMethod yX10_winner, Cond.selects RX10 yX10_winner yX10_winner, Cond.code yX10_winner cX10_winner 4 (some .int), Cond.methodLink RX11 435 yX3_note]
def wsL_law0_r48 : List Cond := [Cond.instanceMethod yX3_note, Cond.selects RX3 yX3_note yX3_note, Cond.code yX3_note cX3_note 3 none, Cond.fieldLink RX3 50 "BuoyVote$Sea" "logged" "I", Cond.methodLink RX3 53 arraycopyName, Cond.methodLink RL 89 yX12_hours, Cond.instanceMethod yX12_hours, Cond.selects RX12 yX12_hours yX12_hours, Cond.code yX12_hours cX12_hours 3 (some .int), Cond.methodLink RX12 447 yX12_mayPass, Cond.instanceMethod yX12_mayPass, Cond.selects RX12 yX12_mayPass yX12_mayPass, Cond.code yX12_mayPass cX12_mayPass 4 (some .boolean), Cond.methodLink RX12 450 yX12_goHour, Cond.instanceMethod yX12_goHour, Cond.selects RX12 yX12_goHour yX12_goHour, Cond.code yX12_goHour cX12_goHour 5 none, Cond.methodLink RX12 393 yX12_towards, Cond.static yX12_towards, Cond.code yX12_towards cX12_towards 3 (some .int), Cond.methodLink RX12 397 yX12_leaderIn, Cond.instanceMethod yX12_leaderIn, Cond.selects RX12 yX12_leaderIn yX12_leaderIn, Cond.code yX12_leaderIn cX12_leaderIn 4 (some .int)]
def wsL_law0_r49 : List Cond := [Cond.methodLink RX12 390 yX12_votesIn, Cond.instanceMethod yX12_votesIn, Cond.selects RX12 yX12_votesIn yX12_votesIn, Cond.code yX12_votesIn cX12_votesIn 5 (some .int), Cond.methodLink RX12 401 yX12_counts, Cond.instanceMethod yX12_counts, Cond.selects RX12 yX12_counts yX12_counts, Cond.code yX12_counts cX12_counts 5 none, Cond.methodLink RL 92 yX11_years, Cond.instanceMethod yX11_years, Cond.selects RX11 yX11_years yX11_years, Cond.code yX11_years cX11_years 7 (some .int), Cond.fieldLink RX11 265 "BuoyVote" "drawn" "J", Cond.methodLink RX11 269 yX11_drawOutOf, Cond.instanceMethod yX11_drawOutOf, Cond.selects RX11 yX11_drawOutOf yX11_drawOutOf, Cond.code yX11_drawOutOf cX11_drawOutOf 2 (some .int), Cond.constantLong RX11 439 (6364136223846793005), Cond.constantLong RX11 441 (1442695040888963407), Cond.methodLink RL 96 yX12_years, Cond.instanceMethod yX12_years, Cond.selects RX12 yX12_years yX12_years, Cond.code yX12_years cX12_years 7 (some .int), Cond.fieldLink RX12 454 "BuoyVoteModel" "x" "J"]
def wsL_law0_r50 : List Cond := [Cond.methodLink RX12 462 yX12_draw, Cond.instanceMethod yX12_draw, Cond.selects RX12 yX12_draw yX12_draw, Cond.code yX12_draw cX12_draw 2 (some .int), Cond.constantLong RX12 458 (6364136223846793005), Cond.constantLong RX12 460 (1442695040888963407), Cond.methodLink RL 97 yX11_undo, Cond.instanceMethod yX11_undo, Cond.selects RX11 yX11_undo yX11_undo, Cond.code yX11_undo cX11_undo 1 (some .int), Cond.fieldLink RX11 282 "BuoyVote$History" "acts" "I", Cond.methodLink RX11 278 yX3_takeBack, Cond.instanceMethod yX3_takeBack, Cond.selects RX3 yX3_takeBack yX3_takeBack, Cond.code yX3_takeBack cX3_takeBack 2 (some .boolean), Cond.methodLink RL 100 yX12_undo, Cond.instanceMethod yX12_undo, Cond.selects RX12 yX12_undo yX12_undo, Cond.code yX12_undo cX12_undo 2 (some .int), Cond.methodLink RL 101 yX11_log, Cond.instanceMethod yX11_log, Cond.selects RX11 yX11_log yX11_log, Cond.code yX11_log cX11_log 3 (some .int), Cond.fieldLink RX11 288 "BuoyVote$Sea" "logged" "I"]
def wsL_law0_r51 : List Cond := [Cond.methodLink RX11 285 yX7_logLength, Cond.instanceMethod yX7_logLength, Cond.selects RX7 yX7_logLength yX7_logLength, Cond.code yX7_logLength cX7_logLength 1 (some .int), Cond.methodLink RX11 291 yX3_logged, Cond.instanceMethod yX3_logged, Cond.selects RX3 yX3_logged yX3_logged, Cond.code yX3_logged cX3_logged 3 (some .int), Cond.methodLink RL 104 yX12_log, Cond.instanceMethod yX12_log, Cond.selects RX12 yX12_log yX12_log, Cond.code yX12_log cX12_log 3 (some .int), Cond.methodLink RL 105 yX11_step, Cond.instanceMethod yX11_step, Cond.selects RX11 yX11_step yX11_step, Cond.code yX11_step cX11_step 4 (some .int), Cond.fieldLink RX11 296 "BuoyVote$Plan" "steps" "I", Cond.methodLink RX11 293 yX11_isPlan, Cond.instanceMethod yX11_isPlan, Cond.selects RX11 yX11_isPlan yX11_isPlan, Cond.code yX11_isPlan cX11_isPlan 2 (some .boolean), Cond.methodLink RX11 299 yX6_part, Cond.instanceMethod yX6_part, Cond.selects RX6 yX6_part yX6_part]
def wsL_law0_r52 : List Cond := [Cond.code yX6_part cX6_part 3 (some .int), Cond.methodLink RL 108 yX12_step, Cond.instanceMethod yX12_step, Cond.selects RX12 yX12_step yX12_step, Cond.code yX12_step cX12_step 4 (some .int), Cond.methodLink RX12 465 yX12_isPlan, Cond.instanceMethod yX12_isPlan, Cond.selects RX12 yX12_isPlan yX12_isPlan, Cond.code yX12_isPlan cX12_isPlan 2 (some .boolean), Cond.methodLink RL 109 yX11_run, Cond.instanceMethod yX11_run, Cond.selects RX11 yX11_run yX11_run, Cond.code yX11_run cX11_run 6 (some .int), Cond.methodLink RX11 302 yX7_copyFrom, Cond.methodLink RX11 305 yX11_canDo, Cond.instanceMethod yX11_canDo, Cond.selects RX11 yX11_canDo yX11_canDo, Cond.code yX11_canDo cX11_canDo 6 (some .boolean), Cond.methodLink RX11 309 yX11_passApart, Cond.instanceMethod yX11_passApart, Cond.selects RX11 yX11_passApart yX11_passApart, Cond.code yX11_passApart cX11_passApart 3 none, Cond.methodLink RX11 312 yX11_change, Cond.instanceMethod yX11_change]
def wsL_law0_r53 : List Cond := [Cond.selects RX11 yX11_change yX11_change, Cond.code yX11_change cX11_change 6 none, Cond.methodLink RL 112 yX12_run, Cond.instanceMethod yX12_run, Cond.selects RX12 yX12_run yX12_run, Cond.code yX12_run cX12_run 7 (some .int), Cond.methodLink RX12 468 yX12_copy, Cond.static yX12_copy, Cond.code yX12_copy cX12_copy 4 none, Cond.methodLink RX12 472 yX12_canStep, Cond.instanceMethod yX12_canStep, Cond.selects RX12 yX12_canStep yX12_canStep, Cond.code yX12_canStep cX12_canStep 5 (some .boolean), Cond.methodLink RX12 476 yX12_timesOf, Cond.instanceMethod yX12_timesOf, Cond.selects RX12 yX12_timesOf yX12_timesOf, Cond.code yX12_timesOf cX12_timesOf 2 (some .int), Cond.methodLink RX12 479 yX12_steps, Cond.instanceMethod yX12_steps, Cond.selects RX12 yX12_steps yX12_steps, Cond.code yX12_steps cX12_steps 5 none, Cond.methodLink RL 113 yX11_perform, Cond.instanceMethod yX11_perform, Cond.selects RX11 yX11_perform yX11_perform]
def wsL_law0_r54 : List Cond := [Cond.code yX11_perform cX11_perform 5 (some .int), Cond.methodLink RL 116 yX12_perform, Cond.instanceMethod yX12_perform, Cond.selects RX12 yX12_perform yX12_perform, Cond.code yX12_perform cX12_perform 5 (some .int), Cond.methodLink RL 117 yX11_votes, Cond.instanceMethod yX11_votes, Cond.selects RX11 yX11_votes yX11_votes, Cond.code yX11_votes cX11_votes 2 (some .int), Cond.methodLink RX11 316 yX10_tallyUp, Cond.methodLink RL 120 yX12_votes, Cond.instanceMethod yX12_votes, Cond.selects RX12 yX12_votes yX12_votes, Cond.code yX12_votes cX12_votes 2 (some .int), Cond.methodLink RL 121 yX11_leader, Cond.instanceMethod yX11_leader, Cond.selects RX11 yX11_leader yX11_leader, Cond.code yX11_leader cX11_leader 1 (some .int), Cond.methodLink RX11 322 yX10_winner, Cond.methodLink RL 124 yX12_leader, Cond.instanceMethod yX12_leader, Cond.selects RX12 yX12_leader yX12_leader, Cond.code yX12_leader cX12_leader 1 (some .int), Cond.methodLink RL 125 yX11_ahead]
def wsL_law0_r55 : List Cond := [Cond.instanceMethod yX11_ahead, Cond.selects RX11 yX11_ahead yX11_ahead, Cond.code yX11_ahead cX11_ahead 3 (some .int), Cond.methodLink RL 128 yX12_ahead, Cond.instanceMethod yX12_ahead, Cond.selects RX12 yX12_ahead yX12_ahead, Cond.code yX12_ahead cX12_ahead 4 (some .int), Cond.constantLong RX12 482 (60), Cond.methodLink RL 129 yX11_soon, Cond.instanceMethod yX11_soon, Cond.selects RX11 yX11_soon yX11_soon, Cond.code yX11_soon cX11_soon 3 (some .int), Cond.methodLink RL 132 yX12_soon, Cond.instanceMethod yX12_soon, Cond.selects RX12 yX12_soon yX12_soon, Cond.code yX12_soon cX12_soon 3 (some .int), Cond.methodLink RL 133 yX11_round, Cond.instanceMethod yX11_round, Cond.selects RX11 yX11_round yX11_round, Cond.code yX11_round cX11_round 4 (some .int), Cond.methodLink RX11 325 yX1_plot, Cond.instanceMethod yX1_plot, Cond.selects RX1 yX1_plot yX1_plot, Cond.code yX1_plot cX1_plot 7 none]
def wsL_law0_r56 : List Cond := [Cond.fieldLink RX1 31 "BuoyVote$Borough" "buoys" "I", Cond.methodLink RX1 25 yX0_speed, Cond.methodLink RX1 35 yX0_buoyX, Cond.methodLink RX1 38 yX0_buoyY, Cond.methodLink RX1 41 yX7_awayOf, Cond.methodLink RX1 51 yX1_between, Cond.instanceMethod yX1_between, Cond.selects RX1 yX1_between yX1_between, Cond.code yX1_between cX1_between 4 (some .int), Cond.methodLink RX1 62 Lib.Math.abs.name, Cond.methodLink RX1 54 yX1_leastThrough, Cond.instanceMethod yX1_leastThrough, Cond.selects RX1 yX1_leastThrough yX1_leastThrough, Cond.code yX1_leastThrough cX1_leastThrough 5 (some .int), Cond.methodLink RX1 58 yX1_firstOfBest, Cond.instanceMethod yX1_firstOfBest, Cond.selects RX1 yX1_firstOfBest yX1_firstOfBest, Cond.code yX1_firstOfBest cX1_firstOfBest 8 (some .int), Cond.constant RX1 61 (1000000), Cond.methodLink RX11 329 yX1_orderOf, Cond.instanceMethod yX1_orderOf, Cond.selects RX1 yX1_orderOf yX1_orderOf, Cond.code yX1_orderOf cX1_orderOf 8 (some .int), Cond.methodLink RX11 332 yX1_hoursOf]
def wsL_law0_r57 : List Cond := [Cond.instanceMethod yX1_hoursOf, Cond.selects RX1 yX1_hoursOf yX1_hoursOf, Cond.code yX1_hoursOf cX1_hoursOf 2 (some .int), Cond.methodLink RL 136 yX12_round, Cond.instanceMethod yX12_round, Cond.selects RX12 yX12_round yX12_round, Cond.code yX12_round cX12_round 4 (some .int), Cond.fieldLink RX12 484 "BuoyVoteModel" "roundLeast" "I", Cond.fieldLink RX12 487 "BuoyVoteModel" "roundDigits" "I", Cond.methodLink RX12 490 yX12_goRound, Cond.instanceMethod yX12_goRound, Cond.selects RX12 yX12_goRound yX12_goRound, Cond.code yX12_goRound cX12_goRound 9 none, Cond.methodLink RL 137 yX11_best, Cond.instanceMethod yX11_best, Cond.selects RX11 yX11_best yX11_best, Cond.code yX11_best cX11_best 7 (some .int), Cond.methodLink RX11 335 yX10_setBars, Cond.instanceMethod yX10_setBars, Cond.selects RX10 yX10_setBars yX10_setBars, Cond.code yX10_setBars cX10_setBars 4 none, Cond.methodLink RX10 146 yX10_barOf, Cond.instanceMethod yX10_barOf, Cond.selects RX10 yX10_barOf yX10_barOf]
def wsL_law0_r58 : List Cond := [Cond.code yX10_barOf cX10_barOf 6 (some .int), Cond.methodLink RX10 143 Lib.Math.max.name, Cond.methodLink RX11 339 yX10_overBars, Cond.instanceMethod yX10_overBars, Cond.selects RX10 yX10_overBars yX10_overBars, Cond.code yX10_overBars cX10_overBars 5 (some .int), Cond.methodLink RL 140 yX12_best, Cond.instanceMethod yX12_best, Cond.selects RX12 yX12_best yX12_best, Cond.code yX12_best cX12_best 7 (some .int), Cond.methodLink RX12 494 yX12_puts, Cond.static yX12_puts, Cond.code yX12_puts cX12_puts 4 none, Cond.methodLink RL 141 yX11_game, Cond.instanceMethod yX11_game, Cond.selects RX11 yX11_game yX11_game, Cond.code yX11_game cX11_game 6 (some .int), Cond.methodLink RX11 342 yX11_isPair, Cond.instanceMethod yX11_isPair, Cond.selects RX11 yX11_isPair yX11_isPair, Cond.code yX11_isPair cX11_isPair 3 (some .boolean), Cond.methodLink RX11 346 yX7_put, Cond.methodLink RL 144 yX12_game, Cond.instanceMethod yX12_game]
def wsL_law0_r59 : List Cond := [Cond.selects RX12 yX12_game yX12_game, Cond.code yX12_game cX12_game 6 (some .int), Cond.methodLink RX12 501 yX12_areTwo, Cond.instanceMethod yX12_areTwo, Cond.selects RX12 yX12_areTwo yX12_areTwo, Cond.code yX12_areTwo cX12_areTwo 3 (some .boolean), Cond.methodLink RX12 504 yX12_gameOf, Cond.instanceMethod yX12_gameOf, Cond.selects RX12 yX12_gameOf yX12_gameOf, Cond.code yX12_gameOf cX12_gameOf 6 (some .int), Cond.methodLink RX12 497 yX12_layAt, Cond.instanceMethod yX12_layAt, Cond.selects RX12 yX12_layAt yX12_layAt, Cond.code yX12_layAt cX12_layAt 5 none, Cond.methodLink RL 145 yX11_rests, Cond.instanceMethod yX11_rests, Cond.selects RX11 yX11_rests yX11_rests, Cond.code yX11_rests cX11_rests 7 (some .int), Cond.methodLink RX11 350 yX2_lay, Cond.instanceMethod yX2_lay, Cond.selects RX2 yX2_lay yX2_lay, Cond.code yX2_lay cX2_lay 8 none, Cond.fieldLink RX2 36 "BuoyVote$Borough" "buoys" "I", Cond.fieldLink RX2 48 "BuoyVote$Waters" "draws" "[I"]
def wsL_law0_r60 : List Cond := [Cond.methodLink RX2 32 yX2_setDraws, Cond.instanceMethod yX2_setDraws, Cond.selects RX2 yX2_setDraws yX2_setDraws, Cond.code yX2_setDraws cX2_setDraws 6 none, Cond.methodLink RX2 58 yX0_buoyX, Cond.methodLink RX2 61 yX0_buoyY, Cond.methodLink RX2 64 yX7_put, Cond.methodLink RX2 70 yX10_drawOf, Cond.methodLink RX2 42 yX10_leanOf, Cond.methodLink RX2 51 yX0_chain, Cond.methodLink RX2 55 yX10_leanBy, Cond.methodLink RX11 353 yX2_isAtRest, Cond.instanceMethod yX2_isAtRest, Cond.selects RX2 yX2_isAtRest yX2_isAtRest, Cond.code yX2_isAtRest cX2_isAtRest 5 (some .boolean), Cond.methodLink RL 148 yX12_rests, Cond.instanceMethod yX12_rests, Cond.selects RX12 yX12_rests yX12_rests, Cond.code yX12_rests cX12_rests 7 (some .int), Cond.methodLink RX12 511 yX12_layGains, Cond.instanceMethod yX12_layGains, Cond.selects RX12 yX12_layGains yX12_layGains, Cond.code yX12_layGains cX12_layGains 5 none, Cond.methodLink RX12 515 yX12_isRest]
def wsL_law0_r61 : List Cond := [Cond.instanceMethod yX12_isRest, Cond.selects RX12 yX12_isRest yX12_isRest, Cond.code yX12_isRest cX12_isRest 4 (some .boolean), Cond.methodLink RX12 508 yX12_gain, Cond.instanceMethod yX12_gain, Cond.selects RX12 yX12_gain yX12_gain, Cond.code yX12_gain cX12_gain 4 (some .int), Cond.methodLink RL 149 yX11_holds, Cond.instanceMethod yX11_holds, Cond.selects RX11 yX11_holds yX11_holds, Cond.code yX11_holds cX11_holds 6 (some .int), Cond.methodLink RX11 356 yX2_worstAt, Cond.instanceMethod yX2_worstAt, Cond.selects RX2 yX2_worstAt yX2_worstAt, Cond.code yX2_worstAt cX2_worstAt 4 (some .int), Cond.methodLink RX2 74 Lib.Math.min.name, Cond.methodLink RL 152 yX12_holds, Cond.instanceMethod yX12_holds, Cond.selects RX12 yX12_holds yX12_holds, Cond.code yX12_holds cX12_holds 9 (some .int), Cond.methodLink RL 153 yX11_seen, Cond.instanceMethod yX11_seen, Cond.selects RX11 yX11_seen yX11_seen, Cond.code yX11_seen cX11_seen 5 (some .int)]
def wsL_law0_r62 : List Cond := [Cond.methodLink RX11 359 yX8_add, Cond.instanceMethod yX8_add, Cond.selects RX8 yX8_add yX8_add, Cond.code yX8_add cX8_add 5 (some .boolean), Cond.fieldLink RX8 44 "BuoyVote$Sightings" "size" "I", Cond.methodLink RL 157 yX12_seen, Cond.instanceMethod yX12_seen, Cond.selects RX12 yX12_seen yX12_seen, Cond.code yX12_seen cX12_seen 5 (some .int), Cond.constantLong RX12 518 (18), Cond.methodLink RL 158 yX11_likes, Cond.instanceMethod yX11_likes, Cond.selects RX11 yX11_likes yX11_likes, Cond.code yX11_likes cX11_likes 4 (some .int), Cond.methodLink RX11 364 yX8_fit, Cond.instanceMethod yX8_fit, Cond.selects RX8 yX8_fit yX8_fit, Cond.code yX8_fit cX8_fit 3 (some .int), Cond.fieldLink RX8 48 "BuoyVote$Sightings" "fitCount" "I", Cond.methodLink RX8 51 yX8_setDraws, Cond.instanceMethod yX8_setDraws, Cond.selects RX8 yX8_setDraws yX8_setDraws, Cond.code yX8_setDraws cX8_setDraws 4 none, Cond.methodLink RX8 77 yX0_voice]
def wsL_law0_r63 : List Cond := [Cond.methodLink RX8 80 yX5_drawBy, Cond.methodLink RX8 55 yX0_chain, Cond.methodLink RX8 61 yX8_keepThose, Cond.instanceMethod yX8_keepThose, Cond.selects RX8 yX8_keepThose yX8_keepThose, Cond.code yX8_keepThose cX8_keepThose 5 none, Cond.methodLink RX8 68 yX8_answerOf, Cond.instanceMethod yX8_answerOf, Cond.selects RX8 yX8_answerOf yX8_answerOf, Cond.code yX8_answerOf cX8_answerOf 5 (some .int), Cond.methodLink RX8 72 Lib.Math.max.name, Cond.methodLink RX11 367 yX8_fitting, Cond.instanceMethod yX8_fitting, Cond.selects RX8 yX8_fitting yX8_fitting, Cond.code yX8_fitting cX8_fitting 2 (some .int), Cond.methodLink RL 161 yX12_likes, Cond.instanceMethod yX12_likes, Cond.selects RX12 yX12_likes yX12_likes, Cond.code yX12_likes cX12_likes 5 (some .int), Cond.methodLink RX12 524 yX12_fits, Cond.instanceMethod yX12_fits, Cond.selects RX12 yX12_fits yX12_fits, Cond.code yX12_fits cX12_fits 4 (some .boolean), Cond.methodLink RX12 520 yX12_answer]
def wsL_law0_r64 : List Cond := [Cond.instanceMethod yX12_answer, Cond.selects RX12 yX12_answer yX12_answer, Cond.code yX12_answer cX12_answer 6 (some .int), Cond.methodLink RL 162 yX11_ask, Cond.instanceMethod yX11_ask, Cond.selects RX11 yX11_ask yX11_ask, Cond.code yX11_ask cX11_ask 2 (some .int), Cond.methodLink RX11 370 yX8_bestLook, Cond.instanceMethod yX8_bestLook, Cond.selects RX8 yX8_bestLook yX8_bestLook, Cond.code yX8_bestLook cX8_bestLook 6 (some .int), Cond.constant RX8 64 (1000000), Cond.methodLink RX8 65 yX8_mostAlike, Cond.instanceMethod yX8_mostAlike, Cond.selects RX8 yX8_mostAlike yX8_mostAlike, Cond.code yX8_mostAlike cX8_mostAlike 3 (some .int), Cond.methodLink RL 165 yX12_ask, Cond.instanceMethod yX12_ask, Cond.selects RX12 yX12_ask yX12_ask, Cond.code yX12_ask cX12_ask 6 (some .int), Cond.methodLink RX12 527 yX12_likes, Cond.methodLink RL 166 yX11_blown, Cond.instanceMethod yX11_blown, Cond.selects RX11 yX11_blown yX11_blown]
def wsL_law0_r65 : List Cond := [Cond.code yX11_blown cX11_blown 13 (some .int), Cond.constantLong RX11 373 (5), Cond.constantLong RX11 375 (10), Cond.methodLink RL 169 yX12_blown, Cond.instanceMethod yX12_blown, Cond.selects RX12 yX12_blown yX12_blown, Cond.code yX12_blown cX12_blown 13 (some .int), Cond.methodLink RL 170 yX11_washed, Cond.instanceMethod yX11_washed, Cond.selects RX11 yX11_washed yX11_washed, Cond.code yX11_washed cX11_washed 10 (some .int), Cond.methodLink RX11 377 yX10_leaningTo, Cond.instanceMethod yX10_leaningTo, Cond.selects RX10 yX10_leaningTo yX10_leaningTo, Cond.code yX10_leaningTo cX10_leaningTo 4 (some .int), Cond.methodLink RX11 380 yJ6_bitCount_0f7a4, Cond.static yJ6_bitCount_0f7a4, Cond.initialized RJ6, Cond.code yJ6_bitCount_0f7a4 cJ6_bitCount_0f7a4 1 (some .int), Cond.constant RJ6 265 (1431655765), Cond.constant RJ6 266 (858993459), Cond.constant RJ6 267 (252645135), Cond.methodLink RL 173 yX12_washed, Cond.instanceMethod yX12_washed]
def wsL_law0_r66 : List Cond := [Cond.selects RX12 yX12_washed yX12_washed, Cond.code yX12_washed cX12_washed 12 (some .int), Cond.methodLink RX12 530 yJ6_bitCount_0f7a4, Cond.methodLink RL 174 yX11_watch, Cond.instanceMethod yX11_watch, Cond.selects RX11 yX11_watch yX11_watch, Cond.code yX11_watch cX11_watch 2 (some .int), Cond.methodLink RX11 385 yX1_fewestWatchers, Cond.instanceMethod yX1_fewestWatchers, Cond.selects RX1 yX1_fewestWatchers yX1_fewestWatchers, Cond.code yX1_fewestWatchers cX1_fewestWatchers 6 (some .int), Cond.methodLink RX1 67 yJ6_bitCount_0f7a4, Cond.methodLink RX1 72 yX1_isWatched, Cond.instanceMethod yX1_isWatched, Cond.selects RX1 yX1_isWatched yX1_isWatched, Cond.code yX1_isWatched cX1_isWatched 6 (some .boolean), Cond.methodLink RL 177 yX12_watch, Cond.instanceMethod yX12_watch, Cond.selects RX12 yX12_watch yX12_watch, Cond.code yX12_watch cX12_watch 4 (some .int), Cond.methodLink RX12 538 yX12_watches, Cond.instanceMethod yX12_watches, Cond.selects RX12 yX12_watches yX12_watches, Cond.code yX12_watches cX12_watches 6 (some .boolean)]
def wsL_law0_r67 : List Cond := [Cond.methodLink RX12 535 yX12_apart, Cond.instanceMethod yX12_apart, Cond.selects RX12 yX12_apart yX12_apart, Cond.code yX12_apart cX12_apart 3 (some .int), Cond.methodLink RL 178 yX11_fair, Cond.instanceMethod yX11_fair, Cond.selects RX11 yX11_fair yX11_fair, Cond.code yX11_fair cX11_fair 7 (some .int), Cond.methodLink RX11 388 yX10_gapOf, Cond.instanceMethod yX10_gapOf, Cond.selects RX10 yX10_gapOf yX10_gapOf, Cond.code yX10_gapOf cX10_gapOf 2 (some .int), Cond.methodLink RX10 115 Lib.Math.abs.name, Cond.methodLink RL 181 yX12_fair, Cond.instanceMethod yX12_fair, Cond.selects RX12 yX12_fair yX12_fair, Cond.code yX12_fair cX12_fair 7 (some .int), Cond.methodLink RL 182 yX11_buoys, Cond.instanceMethod yX11_buoys, Cond.selects RX11 yX11_buoys yX11_buoys, Cond.code yX11_buoys cX11_buoys 4 (some .int), Cond.methodLink RX11 395 yX11_isFaithful, Cond.instanceMethod yX11_isFaithful, Cond.selects RX11 yX11_isFaithful yX11_isFaithful]
def wsL_law0_r68 : List Cond := [Cond.code yX11_isFaithful cX11_isFaithful 3 (some .boolean), Cond.methodLink RL 185 yX12_buoys, Cond.instanceMethod yX12_buoys, Cond.selects RX12 yX12_buoys yX12_buoys, Cond.code yX12_buoys cX12_buoys 6 (some .int), Cond.methodLink RL 186 yX11_sways, Cond.instanceMethod yX11_sways, Cond.selects RX11 yX11_sways yX11_sways, Cond.code yX11_sways cX11_sways 7 (some .int), Cond.methodLink RX11 398 Lib.Math.min.name, Cond.methodLink RX11 403 Lib.Math.max.name, Cond.methodLink RL 189 yX12_sways, Cond.instanceMethod yX12_sways, Cond.selects RX12 yX12_sways yX12_sways, Cond.code yX12_sways cX12_sways 7 (some .int), Cond.methodLink RL 190 yX11_nearest, Cond.instanceMethod yX11_nearest, Cond.selects RX11 yX11_nearest yX11_nearest, Cond.code yX11_nearest cX11_nearest 6 (some .int), Cond.constant RX11 406 (1000000), Cond.methodLink RL 193 yX12_nearest, Cond.instanceMethod yX12_nearest, Cond.selects RX12 yX12_nearest yX12_nearest, Cond.code yX12_nearest cX12_nearest 4 (some .int)]
def wsL_law0_r69 : List Cond := [Cond.methodLink RL 194 yX11_fog, Cond.instanceMethod yX11_fog, Cond.selects RX11 yX11_fog yX11_fog, Cond.code yX11_fog cX11_fog 7 (some .int), Cond.methodLink RX11 407 yX11_splitByFog, Cond.instanceMethod yX11_splitByFog, Cond.selects RX11 yX11_splitByFog yX11_splitByFog, Cond.code yX11_splitByFog cX11_splitByFog 7 (some .int), Cond.constantLong RX11 451 (1000000000), Cond.fieldLink RX11 453 "BuoyVote$Waters" "leans" "[I", Cond.constantLong RX11 456 (100), Cond.methodLink RX11 410 yX11_leadsUnder, Cond.instanceMethod yX11_leadsUnder, Cond.selects RX11 yX11_leadsUnder yX11_leadsUnder, Cond.code yX11_leadsUnder cX11_leadsUnder 6 (some .boolean), Cond.methodLink RL 197 yX12_fog, Cond.instanceMethod yX12_fog, Cond.selects RX12 yX12_fog yX12_fog, Cond.code yX12_fog cX12_fog 4 (some .int), Cond.constantLong RX12 545 (100), Cond.constantLong RX12 547 (1000000000), Cond.methodLink RX12 541 yX12_fogOf, Cond.instanceMethod yX12_fogOf, Cond.selects RX12 yX12_fogOf yX12_fogOf]
def wsL_law0_r70 : List Cond := [Cond.code yX12_fogOf cX12_fogOf 10 (some .long), Cond.methodLink RL 198 yX11_needs, Cond.instanceMethod yX11_needs, Cond.selects RX11 yX11_needs yX11_needs, Cond.code yX11_needs cX11_needs 5 (some .int), Cond.methodLink RX11 413 yX10_barOf, Cond.methodLink RL 201 yX12_needs, Cond.instanceMethod yX12_needs, Cond.selects RX12 yX12_needs yX12_needs, Cond.code yX12_needs cX12_needs 4 (some .int), Cond.methodLink RL 202 yX11_heard, Cond.instanceMethod yX11_heard, Cond.selects RX11 yX11_heard yX11_heard, Cond.code yX11_heard cX11_heard 4 (some .int), Cond.methodLink RL 205 yX12_heard, Cond.instanceMethod yX12_heard, Cond.selects RX12 yX12_heard yX12_heard, Cond.code yX12_heard cX12_heard 4 (some .int), Cond.methodLink RL 206 yX11_middle, Cond.instanceMethod yX11_middle, Cond.selects RX11 yX11_middle yX11_middle, Cond.code yX11_middle cX11_middle 1 (some .int), Cond.methodLink RX11 419 yX1_middlePlace, Cond.instanceMethod yX1_middlePlace]
def wsL_law0_r71 : List Cond := [Cond.selects RX1 yX1_middlePlace yX1_middlePlace, Cond.code yX1_middlePlace cX1_middlePlace 6 (some .int), Cond.methodLink RL 209 yX12_middle, Cond.instanceMethod yX12_middle, Cond.selects RX12 yX12_middle yX12_middle, Cond.code yX12_middle cX12_middle 6 (some .int), Cond.methodLink RL 210 yX11_image, Cond.instanceMethod yX11_image, Cond.selects RX11 yX11_image yX11_image, Cond.code yX11_image cX11_image 1 (some .int), Cond.methodLink RX11 422 yX3_keepImage, Cond.instanceMethod yX3_keepImage, Cond.selects RX3 yX3_keepImage yX3_keepImage, Cond.code yX3_keepImage cX3_keepImage 2 none, Cond.methodLink RL 213 yX12_image, Cond.instanceMethod yX12_image, Cond.selects RX12 yX12_image yX12_image, Cond.code yX12_image cX12_image 1 (some .int), Cond.methodLink RL 214 yX11_back, Cond.instanceMethod yX11_back, Cond.selects RX11 yX11_back yX11_back, Cond.code yX11_back cX11_back 1 (some .int), Cond.methodLink RX11 425 yX3_showImage, Cond.instanceMethod yX3_showImage]
def wsL_law0_r72 : List Cond := [Cond.selects RX3 yX3_showImage yX3_showImage, Cond.code yX3_showImage cX3_showImage 2 (some .boolean), Cond.methodLink RL 217 yX12_back, Cond.instanceMethod yX12_back, Cond.selects RX12 yX12_back yX12_back, Cond.code yX12_back cX12_back 1 (some .int), Cond.methodLink RL 218 yX11_count, Cond.instanceMethod yX11_count, Cond.selects RX11 yX11_count yX11_count, Cond.code yX11_count cX11_count 2 (some .int), Cond.methodLink RX11 428 yX10_leaningBits, Cond.instanceMethod yX10_leaningBits, Cond.selects RX10 yX10_leaningBits yX10_leaningBits, Cond.code yX10_leaningBits cX10_leaningBits 1 (some .int), Cond.methodLink RX10 108 yX10_leaningTo, Cond.methodLink RX11 431 yX11_sumOf, Cond.static yX11_sumOf, Cond.code yX11_sumOf cX11_sumOf 4 (some .int), Cond.methodLink RL 221 yX12_count, Cond.instanceMethod yX12_count, Cond.selects RX12 yX12_count yX12_count, Cond.code yX12_count cX12_count 5 (some .int)]
def wsL_law0 : List Cond := (wsL_law0_r1 ++ (wsL_law0_r2 ++ (wsL_law0_r3 ++ (wsL_law0_r4 ++ (wsL_law0_r5 ++ (wsL_law0_r6 ++ (wsL_law0_r7 ++ (wsL_law0_r8 ++ (wsL_law0_r9 ++ (wsL_law0_r10 ++ (wsL_law0_r11 ++ (wsL_law0_r12 ++ (wsL_law0_r13 ++ (wsL_law0_r14 ++ (wsL_law0_r15 ++ (wsL_law0_r16 ++ (wsL_law0_r17 ++ (wsL_law0_r18 ++ (wsL_law0_r19 ++ (wsL_law0_r20 ++ (wsL_law0_r21 ++ (wsL_law0_r22 ++ (wsL_law0_r23 ++ (wsL_law0_r24 ++ (wsL_law0_r25 ++ (wsL_law0_r26 ++ (wsL_law0_r27 ++ (wsL_law0_r28 ++ (wsL_law0_r29 ++ (wsL_law0_r30 ++ (wsL_law0_r31 ++ (wsL_law0_r32 ++ (wsL_law0_r33 ++ (wsL_law0_r34 ++ (wsL_law0_r35 ++ (wsL_law0_r36 ++ (wsL_law0_r37 ++ (wsL_law0_r38 ++ (wsL_law0_r39 ++ (wsL_law0_r40 ++ (wsL_law0_r41 ++ (wsL_law0_r42 ++ (wsL_law0_r43 ++ (wsL_law0_r44 ++ (wsL_law0_r45 ++ (wsL_law0_r46 ++ (wsL_law0_r47 ++ (wsL_law0_r48 ++ (wsL_law0_r49 ++ (wsL_law0_r50 ++ (wsL_law0_r51 ++ (wsL_law0_r52 ++ (wsL_law0_r53 ++ (wsL_law0_r54 ++ (wsL_law0_r55 ++ (wsL_law0_r56 ++ (wsL_law0_r57 ++ (wsL_law0_r58 ++ (wsL_law0_r59 ++ (wsL_law0_r60 ++ (wsL_law0_r61 ++ (wsL_law0_r62 ++ (wsL_law0_r63 ++ (wsL_law0_r64 ++ (wsL_law0_r65 ++ (wsL_law0_r66 ++ (wsL_law0_r67 ++ (wsL_law0_r68 ++ (wsL_law0_r69 ++ (wsL_law0_r70 ++ (wsL_law0_r71 ++ wsL_law0_r72))))))))))))))))))))))))))))))))))))))))))))))))))))))))))))))))))))))) ++ wsX110 ++ wsX120 ++ wsX90 ++ wsX00 ++ wsX50 ++ wsX60 ++ wsX100 ++ wsX70 ++ wsX30 ++ wsX80 ++ wsX20 ++ wsX10 ++ wsX40 ++ ([] : List Cond)
def wsL_law : List Cond := wsL_law0 ++ (vx_at0 RX11 168 "java/util/NoSuchElementException" ["java/lang/RuntimeException", "java/lang/Exception"]).filter goodWord
set_option maxRecDepth 20000 in
theorem wsL_law_in0 : ∀ w ∈ wsL_law0, w ∈ lw_tbl := fun w h => (goodIn_p wsL_law0 [141, 144, 149, 171, 198, 205, 237, 251, 279, 348, 380, 424, 449, 1473, 517, 520, 524, 1647, 1650, 1654, 528, 531, 1658, 535, 539, 543, 546, 553, 557, 567, 571, 576, 579, 583, 587, 591, 595, 601, 604, 598, 607, 610, 616, 619, 622, 625, 630, 633, 636, 645, 648, 651, 655, 660, 664, 668, 672, 676, 680, 688, 693, 697, 701, 705, 709, 713, 718, 722, 726, 731, 735, 739, 751, 757, 744, 760, 764, 768, 775, 780, 792, 1662, 1666, 1670, 1674, 1677, 1681, 1685, 1689, 1694, 1698, 1702, 1705, 1708, 1711, 1714, 1717, 1721, 1724, 1727, 1731, 1735, 1739, 1745, 1749, 1753, 1756, 1760, 1764, 1768, 1772, 1776, 1791, 1796, 1799, 1784, 1788, 1780, 1802, 1806, 1810, 1814, 1819, 800, 804, 808, 815, 819, 823, 827, 831, 835, 839, 843, 847, 851, 855, 859, 1823, 1828, 1832, 863, 867, 871, 875, 879, 1836, 1841, 1407, 908, 1032, 1132, 912, 918, 921, 896, 926, 931, 935, 939, 1036, 1845, 1849, 1854, 1858, 1862, 1866, 1870, 1874, 1877, 1882, 1886, 1890, 1902, 1643, 884, 888, 892, 1906, 1910, 900, 1915, 904, 1919, 948, 1924, 953, 957, 961, 965, 971, 1928, 1932, 1937, 1940, 1944, 975, 979, 983, 989, 1948, 1952, 1955, 993, 997, 1959, 1963, 1001, 1967, 1005, 1009, 1013, 1017, 1022, 1027, 1041, 1045, 1050, 1972, 1976, 1980, 1983, 1987, 1991, 1995, 1055, 1059, 1999, 2003, 1065, 1069, 2009, 1073, 1077, 1081, 2013, 1085, 1089, 1093, 2017, 2021, 1097, 1102, 1106, 1110, 2025, 2028, 2032, 2036, 2040, 1114, 2044, 1118, 2048, 1123, 2052, 1128, 2056, 1136, 2061, 1140, 1144, 1153, 1158, 1162, 1167, 1171, 2065, 2069, 1175, 1179, 1183, 1188, 2073, 2076, 1192, 1196, 2080, 2084, 2088, 2092, 1201, 1205, 1209, 1220, 2096, 2100, 2104, 2108, 1224, 1228, 2112, 1233, 1237, 2116, 1241, 1245, 1249, 1256, 1260, 1265, 2121, 2125, 2129, 1269, 1273, 1278, 2133, 1282, 2138, 1288, 1292, 1295, 2142, 1302, 1306, 1311, 2147, 2151, 2155, 1315, 1319, 2159, 1324, 1329, 2163, 1333, 2167, 1339, 2171, 1344, 1348, 1354, 2175, 2181, 1358, 2185, 1363, 2189, 1367, 1371, 2193, 1375, 1379, 2197, 1383, 1387, 2201, 1391, 1395, 1399, 2205] (by decide +kernel) (by decide +kernel) w h).1
theorem wsL_law_x0 : ∀ w ∈ (vx_at0 RX11 168 "java/util/NoSuchElementException" ["java/lang/RuntimeException", "java/lang/Exception"]).filter goodWord, w ∈ lw_tbl := by decide +kernel
theorem wsL_law_in : ∀ w ∈ wsL_law, w ∈ lw_tbl := fun w h => (List.mem_append.mp h).elim (fun h => wsL_law_in0 w h) (fun h => wsL_law_x0 w h)
theorem inlX0 : ∀ w ∈ wsX00, w ∈ wsL_law := fun _ h => List.mem_append_left _ (List.mem_append_left _ (List.mem_append_left _ (List.mem_append_left _ (List.mem_append_left _ (List.mem_append_left _ (List.mem_append_left _ (List.mem_append_left _ (List.mem_append_left _ (List.mem_append_left _ (List.mem_append_left _ (List.mem_append_right _ h)))))))))))
theorem inlX1 : ∀ w ∈ wsX10, w ∈ wsL_law := fun _ h => List.mem_append_left _ (List.mem_append_left _ (List.mem_append_left _ (List.mem_append_right _ h)))
theorem inlX2 : ∀ w ∈ wsX20, w ∈ wsL_law := fun _ h => List.mem_append_left _ (List.mem_append_left _ (List.mem_append_left _ (List.mem_append_left _ (List.mem_append_right _ h))))
theorem inlX3 : ∀ w ∈ wsX30, w ∈ wsL_law := fun _ h => List.mem_append_left _ (List.mem_append_left _ (List.mem_append_left _ (List.mem_append_left _ (List.mem_append_left _ (List.mem_append_left _ (List.mem_append_right _ h))))))
theorem inlX4 : ∀ w ∈ wsX40, w ∈ wsL_law := fun _ h => List.mem_append_left _ (List.mem_append_left _ (List.mem_append_right _ h))
theorem inlX5 : ∀ w ∈ wsX50, w ∈ wsL_law := fun _ h => List.mem_append_left _ (List.mem_append_left _ (List.mem_append_left _ (List.mem_append_left _ (List.mem_append_left _ (List.mem_append_left _ (List.mem_append_left _ (List.mem_append_left _ (List.mem_append_left _ (List.mem_append_left _ (List.mem_append_right _ h))))))))))
theorem inlX6 : ∀ w ∈ wsX60, w ∈ wsL_law := fun _ h => List.mem_append_left _ (List.mem_append_left _ (List.mem_append_left _ (List.mem_append_left _ (List.mem_append_left _ (List.mem_append_left _ (List.mem_append_left _ (List.mem_append_left _ (List.mem_append_left _ (List.mem_append_right _ h)))))))))
theorem inlX7 : ∀ w ∈ wsX70, w ∈ wsL_law := fun _ h => List.mem_append_left _ (List.mem_append_left _ (List.mem_append_left _ (List.mem_append_left _ (List.mem_append_left _ (List.mem_append_left _ (List.mem_append_left _ (List.mem_append_right _ h)))))))
theorem inlX8 : ∀ w ∈ wsX80, w ∈ wsL_law := fun _ h => List.mem_append_left _ (List.mem_append_left _ (List.mem_append_left _ (List.mem_append_left _ (List.mem_append_left _ (List.mem_append_right _ h)))))
theorem inlX9 : ∀ w ∈ wsX90, w ∈ wsL_law := fun _ h => List.mem_append_left _ (List.mem_append_left _ (List.mem_append_left _ (List.mem_append_left _ (List.mem_append_left _ (List.mem_append_left _ (List.mem_append_left _ (List.mem_append_left _ (List.mem_append_left _ (List.mem_append_left _ (List.mem_append_left _ (List.mem_append_left _ (List.mem_append_right _ h))))))))))))
theorem inlX10 : ∀ w ∈ wsX100, w ∈ wsL_law := fun _ h => List.mem_append_left _ (List.mem_append_left _ (List.mem_append_left _ (List.mem_append_left _ (List.mem_append_left _ (List.mem_append_left _ (List.mem_append_left _ (List.mem_append_left _ (List.mem_append_right _ h))))))))
theorem inlX11 : ∀ w ∈ wsX110, w ∈ wsL_law := fun _ h => List.mem_append_left _ (List.mem_append_left _ (List.mem_append_left _ (List.mem_append_left _ (List.mem_append_left _ (List.mem_append_left _ (List.mem_append_left _ (List.mem_append_left _ (List.mem_append_left _ (List.mem_append_left _ (List.mem_append_left _ (List.mem_append_left _ (List.mem_append_left _ (List.mem_append_left _ (List.mem_append_right _ h))))))))))))))
theorem inlX12 : ∀ w ∈ wsX120, w ∈ wsL_law := fun _ h => List.mem_append_left _ (List.mem_append_left _ (List.mem_append_left _ (List.mem_append_left _ (List.mem_append_left _ (List.mem_append_left _ (List.mem_append_left _ (List.mem_append_left _ (List.mem_append_left _ (List.mem_append_left _ (List.mem_append_left _ (List.mem_append_left _ (List.mem_append_left _ (List.mem_append_right _ h)))))))))))))
theorem dX9_bytesIn_0 : decode cX9_bytesIn 0 = .ok (.iconst 0, 1) := by decide +kernel
theorem dX9_bytesIn_1 : decode cX9_bytesIn 1 = .ok (.istore_n 1, 1) := by decide +kernel
theorem dX9_bytesIn_2 : decode cX9_bytesIn 2 = .ok (.iconst 0, 1) := by decide +kernel
theorem dX9_bytesIn_3 : decode cX9_bytesIn 3 = .ok (.istore_n 2, 1) := by decide +kernel
theorem dX9_bytesIn_4 : decode cX9_bytesIn 4 = .ok (.iload_n 2, 1) := by decide +kernel
theorem dX9_bytesIn_5 : decode cX9_bytesIn 5 = .ok (.bipush 32, 2) := by decide +kernel
theorem dX9_bytesIn_7 : decode cX9_bytesIn 7 = .ok (.if_icmp .ge 22, 3) := by decide +kernel
theorem dX9_bytesIn_10 : decode cX9_bytesIn 10 = .ok (.iload_n 0, 1) := by decide +kernel
theorem dX9_bytesIn_11 : decode cX9_bytesIn 11 = .ok (.iload_n 2, 1) := by decide +kernel
theorem dX9_bytesIn_12 : decode cX9_bytesIn 12 = .ok (.iushr, 1) := by decide +kernel
theorem dX9_bytesIn_13 : decode cX9_bytesIn 13 = .ok (.sipush 255, 3) := by decide +kernel
theorem dX9_bytesIn_16 : decode cX9_bytesIn 16 = .ok (.iand, 1) := by decide +kernel
theorem dX9_bytesIn_17 : decode cX9_bytesIn 17 = .ok (.ifCond .eq 6, 3) := by decide +kernel
theorem dX9_bytesIn_20 : decode cX9_bytesIn 20 = .ok (.iinc 1 1, 3) := by decide +kernel
theorem dX9_bytesIn_23 : decode cX9_bytesIn 23 = .ok (.iinc 2 8, 3) := by decide +kernel
theorem dX9_bytesIn_26 : decode cX9_bytesIn 26 = .ok (.goto (-22), 3) := by decide +kernel
theorem dX9_bytesIn_29 : decode cX9_bytesIn 29 = .ok (.iload_n 1, 1) := by decide +kernel
theorem dX9_bytesIn_30 : decode cX9_bytesIn 30 = .ok (.ireturn, 1) := by decide +kernel
theorem dX9_append_0 : decode cX9_append 0 = .ok (.bipush 24, 2) := by decide +kernel
theorem dX9_append_2 : decode cX9_append 2 = .ok (.istore_n 2, 1) := by decide +kernel
theorem dX9_append_3 : decode cX9_append 3 = .ok (.iload_n 2, 1) := by decide +kernel
theorem dX9_append_4 : decode cX9_append 4 = .ok (.ifCond .lt 51, 3) := by decide +kernel
theorem dX9_append_7 : decode cX9_append 7 = .ok (.iload_n 1, 1) := by decide +kernel
theorem dX9_append_8 : decode cX9_append 8 = .ok (.iload_n 2, 1) := by decide +kernel
theorem dX9_append_9 : decode cX9_append 9 = .ok (.iushr, 1) := by decide +kernel
theorem dX9_append_10 : decode cX9_append 10 = .ok (.sipush 255, 3) := by decide +kernel
theorem dX9_append_13 : decode cX9_append 13 = .ok (.iand, 1) := by decide +kernel
theorem dX9_append_14 : decode cX9_append 14 = .ok (.istore_n 3, 1) := by decide +kernel
theorem dX9_append_15 : decode cX9_append 15 = .ok (.iload_n 3, 1) := by decide +kernel
theorem dX9_append_16 : decode cX9_append 16 = .ok (.ifCond .eq 33, 3) := by decide +kernel
theorem dX9_append_19 : decode cX9_append 19 = .ok (.aload_n 0, 1) := by decide +kernel
theorem dX9_append_20 : decode cX9_append 20 = .ok (.getfield 19, 3) := by decide +kernel
theorem dX9_append_23 : decode cX9_append 23 = .ok (.sipush 240, 3) := by decide +kernel
theorem dX9_append_26 : decode cX9_append 26 = .ok (.if_icmp .ge 23, 3) := by decide +kernel
theorem dX9_append_29 : decode cX9_append 29 = .ok (.aload_n 0, 1) := by decide +kernel
theorem dX9_append_30 : decode cX9_append 30 = .ok (.getfield 11, 3) := by decide +kernel
theorem dX9_append_33 : decode cX9_append 33 = .ok (.aload_n 0, 1) := by decide +kernel
theorem dX9_append_34 : decode cX9_append 34 = .ok (.getfield 19, 3) := by decide +kernel
theorem dX9_append_37 : decode cX9_append 37 = .ok (.iload_n 3, 1) := by decide +kernel
theorem dX9_append_38 : decode cX9_append 38 = .ok (.iastore, 1) := by decide +kernel
theorem dX9_append_39 : decode cX9_append 39 = .ok (.aload_n 0, 1) := by decide +kernel
theorem dX9_append_40 : decode cX9_append 40 = .ok (.dup, 1) := by decide +kernel
theorem dX9_append_41 : decode cX9_append 41 = .ok (.getfield 19, 3) := by decide +kernel
theorem dX9_append_44 : decode cX9_append 44 = .ok (.iconst 1, 1) := by decide +kernel
theorem dX9_append_45 : decode cX9_append 45 = .ok (.iadd, 1) := by decide +kernel
theorem dX9_append_46 : decode cX9_append 46 = .ok (.putfield 19, 3) := by decide +kernel
theorem dX9_append_49 : decode cX9_append 49 = .ok (.iinc 2 (-8), 3) := by decide +kernel
theorem dX9_append_52 : decode cX9_append 52 = .ok (.goto (-49), 3) := by decide +kernel
theorem dX9_append_55 : decode cX9_append 55 = .ok (.return_, 1) := by decide +kernel
set_option maxRecDepth 20000 in
theorem ggX11_feed_X9_bytesIn : GoodIn wsX11_feed wsX9_bytesIn := goodIn_r _ [6] (by decide +kernel) (by decide +kernel)
set_option maxRecDepth 20000 in
theorem gX11_feed_X9_bytesIn : GoodIn wsX11_feed (va_wsS RX11 99 yX9_bytesIn wsX9_bytesIn) := goodIn_app (goodIn_of _ (by decide +kernel)) ggX11_feed_X9_bytesIn
set_option maxRecDepth 20000 in
theorem ggX11_feed_X9_append : GoodIn wsX11_feed wsX9_append := goodIn_r _ [10, 11, 12, 29, 30, 31, 32] (by decide +kernel) (by decide +kernel)
set_option maxRecDepth 20000 in
theorem gX11_feed_X9_append : GoodIn wsX11_feed (wsV RX11 107 RX9 yX9_append wsX9_append) := goodIn_app (goodIn_of _ (by decide +kernel)) ggX11_feed_X9_append
theorem dX11_feed_0 : decode cX11_feed 0 = .ok (.iload_n 1, 1) := by decide +kernel
theorem dX11_feed_1 : decode cX11_feed 1 = .ok (.invokestatic 99, 3) := by decide +kernel
theorem dX11_feed_4 : decode cX11_feed 4 = .ok (.iload_n 2, 1) := by decide +kernel
theorem dX11_feed_5 : decode cX11_feed 5 = .ok (.invokestatic 99, 3) := by decide +kernel
theorem dX11_feed_8 : decode cX11_feed 8 = .ok (.iadd, 1) := by decide +kernel
theorem dX11_feed_9 : decode cX11_feed 9 = .ok (.iload_n 3, 1) := by decide +kernel
theorem dX11_feed_10 : decode cX11_feed 10 = .ok (.invokestatic 99, 3) := by decide +kernel
theorem dX11_feed_13 : decode cX11_feed 13 = .ok (.iadd, 1) := by decide +kernel
theorem dX11_feed_14 : decode cX11_feed 14 = .ok (.iload 4, 2) := by decide +kernel
theorem dX11_feed_16 : decode cX11_feed 16 = .ok (.invokestatic 99, 3) := by decide +kernel
theorem dX11_feed_19 : decode cX11_feed 19 = .ok (.iadd, 1) := by decide +kernel
theorem dX11_feed_20 : decode cX11_feed 20 = .ok (.iload 5, 2) := by decide +kernel
theorem dX11_feed_22 : decode cX11_feed 22 = .ok (.invokestatic 99, 3) := by decide +kernel
theorem dX11_feed_25 : decode cX11_feed 25 = .ok (.iadd, 1) := by decide +kernel
theorem dX11_feed_26 : decode cX11_feed 26 = .ok (.istore 6, 2) := by decide +kernel
theorem dX11_feed_28 : decode cX11_feed 28 = .ok (.aload_n 0, 1) := by decide +kernel
theorem dX11_feed_29 : decode cX11_feed 29 = .ok (.getfield 10, 3) := by decide +kernel
theorem dX11_feed_32 : decode cX11_feed 32 = .ok (.getfield 103, 3) := by decide +kernel
theorem dX11_feed_35 : decode cX11_feed 35 = .ok (.iload 6, 2) := by decide +kernel
theorem dX11_feed_37 : decode cX11_feed 37 = .ok (.iadd, 1) := by decide +kernel
theorem dX11_feed_38 : decode cX11_feed 38 = .ok (.sipush 240, 3) := by decide +kernel
theorem dX11_feed_41 : decode cX11_feed 41 = .ok (.if_icmp .le 5, 3) := by decide +kernel
theorem dX11_feed_46 : decode cX11_feed 46 = .ok (.aload_n 0, 1) := by decide +kernel
theorem dX11_feed_47 : decode cX11_feed 47 = .ok (.getfield 10, 3) := by decide +kernel
theorem dX11_feed_50 : decode cX11_feed 50 = .ok (.iload_n 1, 1) := by decide +kernel
theorem dX11_feed_51 : decode cX11_feed 51 = .ok (.invokevirtual 107, 3) := by decide +kernel
theorem dX11_feed_54 : decode cX11_feed 54 = .ok (.aload_n 0, 1) := by decide +kernel
theorem dX11_feed_55 : decode cX11_feed 55 = .ok (.getfield 10, 3) := by decide +kernel
theorem dX11_feed_58 : decode cX11_feed 58 = .ok (.iload_n 2, 1) := by decide +kernel
theorem dX11_feed_59 : decode cX11_feed 59 = .ok (.invokevirtual 107, 3) := by decide +kernel
theorem dX11_feed_62 : decode cX11_feed 62 = .ok (.aload_n 0, 1) := by decide +kernel
theorem dX11_feed_63 : decode cX11_feed 63 = .ok (.getfield 10, 3) := by decide +kernel
theorem dX11_feed_66 : decode cX11_feed 66 = .ok (.iload_n 3, 1) := by decide +kernel
theorem dX11_feed_67 : decode cX11_feed 67 = .ok (.invokevirtual 107, 3) := by decide +kernel
theorem dX11_feed_70 : decode cX11_feed 70 = .ok (.aload_n 0, 1) := by decide +kernel
theorem dX11_feed_71 : decode cX11_feed 71 = .ok (.getfield 10, 3) := by decide +kernel
theorem dX11_feed_74 : decode cX11_feed 74 = .ok (.iload 4, 2) := by decide +kernel
theorem dX11_feed_76 : decode cX11_feed 76 = .ok (.invokevirtual 107, 3) := by decide +kernel
theorem dX11_feed_79 : decode cX11_feed 79 = .ok (.aload_n 0, 1) := by decide +kernel
theorem dX11_feed_80 : decode cX11_feed 80 = .ok (.getfield 10, 3) := by decide +kernel
theorem dX11_feed_83 : decode cX11_feed 83 = .ok (.iload 5, 2) := by decide +kernel
theorem dX11_feed_85 : decode cX11_feed 85 = .ok (.invokevirtual 107, 3) := by decide +kernel
theorem dX11_feed_88 : decode cX11_feed 88 = .ok (.aload_n 0, 1) := by decide +kernel
theorem dX11_feed_89 : decode cX11_feed 89 = .ok (.getfield 10, 3) := by decide +kernel
theorem dX11_feed_92 : decode cX11_feed 92 = .ok (.getfield 103, 3) := by decide +kernel
theorem dX11_feed_95 : decode cX11_feed 95 = .ok (.ireturn, 1) := by decide +kernel
set_option maxRecDepth 20000 in
theorem ggX11_buoy_X11_isBuoy : GoodIn wsX11_buoy wsX11_isBuoy := goodIn_r _ [13, 3, 14, 112, 113, 114, 115, 116, 117, 118, 119, 120, 121, 122, 123, 124, 125, 126, 127, 141, 142, 143, 144] (by decide +kernel) (by decide +kernel)
set_option maxRecDepth 20000 in
theorem gX11_buoy_X11_isBuoy : GoodIn wsX11_buoy (wsV RX11 163 RX11 yX11_isBuoy wsX11_isBuoy) := goodIn_app (goodIn_of _ (by decide +kernel)) ggX11_buoy_X11_isBuoy
set_option maxRecDepth 20000 in
theorem ggX11_buoy_X11_isWithin : GoodIn wsX11_buoy wsX11_isWithin := goodIn_r _ [17] (by decide +kernel) (by decide +kernel)
set_option maxRecDepth 20000 in
theorem gX11_buoy_X11_isWithin : GoodIn wsX11_buoy (va_wsS RX11 111 yX11_isWithin wsX11_isWithin) := goodIn_app (goodIn_of _ (by decide +kernel)) ggX11_buoy_X11_isWithin
theorem dX11_buoy_0 : decode cX11_buoy 0 = .ok (.aload_n 0, 1) := by decide +kernel
theorem dX11_buoy_1 : decode cX11_buoy 1 = .ok (.iload_n 1, 1) := by decide +kernel
theorem dX11_buoy_2 : decode cX11_buoy 2 = .ok (.invokevirtual 163, 3) := by decide +kernel
theorem dX11_buoy_5 : decode cX11_buoy 5 = .ok (.ifCond .eq 13, 3) := by decide +kernel
theorem dX11_buoy_8 : decode cX11_buoy 8 = .ok (.iload_n 2, 1) := by decide +kernel
theorem dX11_buoy_9 : decode cX11_buoy 9 = .ok (.iconst 0, 1) := by decide +kernel
theorem dX11_buoy_10 : decode cX11_buoy 10 = .ok (.bipush 8, 2) := by decide +kernel
theorem dX11_buoy_12 : decode cX11_buoy 12 = .ok (.invokestatic 111, 3) := by decide +kernel
theorem dX11_buoy_15 : decode cX11_buoy 15 = .ok (.ifCond .ne 11, 3) := by decide +kernel
theorem dX11_buoy_18 : decode cX11_buoy 18 = .ok (.new 166, 3) := by decide +kernel
theorem dX11_buoy_21 : decode cX11_buoy 21 = .ok (.dup, 1) := by decide +kernel
theorem dX11_buoy_22 : decode cX11_buoy 22 = .ok (.invokespecial 168, 3) := by decide +kernel
theorem dX11_buoy_25 : decode cX11_buoy 25 = .ok (.athrow, 1) := by decide +kernel
theorem dX11_buoy_26 : decode cX11_buoy 26 = .ok (.iload_n 2, 1) := by decide +kernel
theorem dX11_buoy_27 : decode cX11_buoy 27 = .ok (.tableswitch 109 0 8 #[49, 58, 67, 109, 109, 109, 76, 86, 96], 49) := by decide +kernel
theorem dX11_buoy_76 : decode cX11_buoy 76 = .ok (.aload_n 0, 1) := by decide +kernel
theorem dX11_buoy_77 : decode cX11_buoy 77 = .ok (.getfield 19, 3) := by decide +kernel
theorem dX11_buoy_80 : decode cX11_buoy 80 = .ok (.iload_n 1, 1) := by decide +kernel
theorem dX11_buoy_81 : decode cX11_buoy 81 = .ok (.invokevirtual 169, 3) := by decide +kernel
theorem dX11_buoy_84 : decode cX11_buoy 84 = .ok (.ireturn, 1) := by decide +kernel
theorem dX11_buoy_85 : decode cX11_buoy 85 = .ok (.aload_n 0, 1) := by decide +kernel
theorem dX11_buoy_86 : decode cX11_buoy 86 = .ok (.getfield 19, 3) := by decide +kernel
theorem dX11_buoy_89 : decode cX11_buoy 89 = .ok (.iload_n 1, 1) := by decide +kernel
theorem dX11_buoy_90 : decode cX11_buoy 90 = .ok (.invokevirtual 172, 3) := by decide +kernel
theorem dX11_buoy_93 : decode cX11_buoy 93 = .ok (.ireturn, 1) := by decide +kernel
theorem dX11_buoy_94 : decode cX11_buoy 94 = .ok (.aload_n 0, 1) := by decide +kernel
theorem dX11_buoy_95 : decode cX11_buoy 95 = .ok (.getfield 19, 3) := by decide +kernel
theorem dX11_buoy_98 : decode cX11_buoy 98 = .ok (.iload_n 1, 1) := by decide +kernel
theorem dX11_buoy_99 : decode cX11_buoy 99 = .ok (.invokevirtual 175, 3) := by decide +kernel
theorem dX11_buoy_102 : decode cX11_buoy 102 = .ok (.ireturn, 1) := by decide +kernel
theorem dX11_buoy_103 : decode cX11_buoy 103 = .ok (.aload_n 0, 1) := by decide +kernel
theorem dX11_buoy_104 : decode cX11_buoy 104 = .ok (.getfield 52, 3) := by decide +kernel
theorem dX11_buoy_107 : decode cX11_buoy 107 = .ok (.getfield 178, 3) := by decide +kernel
theorem dX11_buoy_110 : decode cX11_buoy 110 = .ok (.iload_n 1, 1) := by decide +kernel
theorem dX11_buoy_111 : decode cX11_buoy 111 = .ok (.iaload, 1) := by decide +kernel
theorem dX11_buoy_112 : decode cX11_buoy 112 = .ok (.ireturn, 1) := by decide +kernel
theorem dX11_buoy_113 : decode cX11_buoy 113 = .ok (.aload_n 0, 1) := by decide +kernel
theorem dX11_buoy_114 : decode cX11_buoy 114 = .ok (.getfield 52, 3) := by decide +kernel
theorem dX11_buoy_117 : decode cX11_buoy 117 = .ok (.getfield 181, 3) := by decide +kernel
theorem dX11_buoy_120 : decode cX11_buoy 120 = .ok (.iload_n 1, 1) := by decide +kernel
theorem dX11_buoy_121 : decode cX11_buoy 121 = .ok (.iaload, 1) := by decide +kernel
theorem dX11_buoy_122 : decode cX11_buoy 122 = .ok (.ireturn, 1) := by decide +kernel
theorem dX11_buoy_123 : decode cX11_buoy 123 = .ok (.aload_n 0, 1) := by decide +kernel
theorem dX11_buoy_124 : decode cX11_buoy 124 = .ok (.getfield 45, 3) := by decide +kernel
theorem dX11_buoy_127 : decode cX11_buoy 127 = .ok (.aload_n 0, 1) := by decide +kernel
theorem dX11_buoy_128 : decode cX11_buoy 128 = .ok (.getfield 52, 3) := by decide +kernel
theorem dX11_buoy_131 : decode cX11_buoy 131 = .ok (.iload_n 1, 1) := by decide +kernel
theorem dX11_buoy_132 : decode cX11_buoy 132 = .ok (.invokevirtual 184, 3) := by decide +kernel
theorem dX11_buoy_135 : decode cX11_buoy 135 = .ok (.ireturn, 1) := by decide +kernel
theorem dX11_buoy_136 : decode cX11_buoy 136 = .ok (.aload_n 0, 1) := by decide +kernel
theorem dX11_buoy_137 : decode cX11_buoy 137 = .ok (.getfield 52, 3) := by decide +kernel
theorem dX11_buoy_140 : decode cX11_buoy 140 = .ok (.getfield 188, 3) := by decide +kernel
theorem dX11_buoy_143 : decode cX11_buoy 143 = .ok (.iload_n 1, 1) := by decide +kernel
theorem dX11_buoy_144 : decode cX11_buoy 144 = .ok (.iconst 3, 1) := by decide +kernel
theorem dX11_buoy_145 : decode cX11_buoy 145 = .ok (.imul, 1) := by decide +kernel
theorem dX11_buoy_146 : decode cX11_buoy 146 = .ok (.iload_n 2, 1) := by decide +kernel
theorem dX11_buoy_147 : decode cX11_buoy 147 = .ok (.iadd, 1) := by decide +kernel
theorem dX11_buoy_148 : decode cX11_buoy 148 = .ok (.iconst 3, 1) := by decide +kernel
theorem dX11_buoy_149 : decode cX11_buoy 149 = .ok (.isub, 1) := by decide +kernel
theorem dX11_buoy_150 : decode cX11_buoy 150 = .ok (.iaload, 1) := by decide +kernel
theorem dX11_buoy_151 : decode cX11_buoy 151 = .ok (.ireturn, 1) := by decide +kernel
set_option maxRecDepth 20000 in
theorem ggX11_blown_X11_isWithin : GoodIn wsX11_blown wsX11_isWithin := goodIn_r _ [6] (by decide +kernel) (by decide +kernel)
set_option maxRecDepth 20000 in
theorem gX11_blown_X11_isWithin : GoodIn wsX11_blown (va_wsS RX11 111 yX11_isWithin wsX11_isWithin) := goodIn_app (goodIn_of _ (by decide +kernel)) ggX11_blown_X11_isWithin
theorem dX11_blown_0 : decode cX11_blown 0 = .ok (.iload_n 1, 1) := by decide +kernel
theorem dX11_blown_1 : decode cX11_blown 1 = .ok (.iconst 0, 1) := by decide +kernel
theorem dX11_blown_2 : decode cX11_blown 2 = .ok (.bipush 18, 2) := by decide +kernel
theorem dX11_blown_4 : decode cX11_blown 4 = .ok (.invokestatic 111, 3) := by decide +kernel
theorem dX11_blown_7 : decode cX11_blown 7 = .ok (.ifCond .eq 12, 3) := by decide +kernel
theorem dX11_blown_10 : decode cX11_blown 10 = .ok (.iload_n 2, 1) := by decide +kernel
theorem dX11_blown_11 : decode cX11_blown 11 = .ok (.iconst 0, 1) := by decide +kernel
theorem dX11_blown_12 : decode cX11_blown 12 = .ok (.iload_n 1, 1) := by decide +kernel
theorem dX11_blown_13 : decode cX11_blown 13 = .ok (.invokestatic 111, 3) := by decide +kernel
theorem dX11_blown_16 : decode cX11_blown 16 = .ok (.ifCond .ne 5, 3) := by decide +kernel
theorem dX11_blown_19 : decode cX11_blown 19 = .ok (.iconst (-1), 1) := by decide +kernel
theorem dX11_blown_20 : decode cX11_blown 20 = .ok (.ireturn, 1) := by decide +kernel
theorem dX11_blown_21 : decode cX11_blown 21 = .ok (.lconst 1, 1) := by decide +kernel
theorem dX11_blown_22 : decode cX11_blown 22 = .ok (.iload_n 1, 1) := by decide +kernel
theorem dX11_blown_23 : decode cX11_blown 23 = .ok (.iconst 2, 1) := by decide +kernel
theorem dX11_blown_24 : decode cX11_blown 24 = .ok (.iload_n 2, 1) := by decide +kernel
theorem dX11_blown_25 : decode cX11_blown 25 = .ok (.imul, 1) := by decide +kernel
theorem dX11_blown_26 : decode cX11_blown 26 = .ok (.iadd, 1) := by decide +kernel
theorem dX11_blown_27 : decode cX11_blown 27 = .ok (.lshl, 1) := by decide +kernel
theorem dX11_blown_28 : decode cX11_blown 28 = .ok (.lstore_n 3, 1) := by decide +kernel
theorem dX11_blown_29 : decode cX11_blown 29 = .ok (.lconst 1, 1) := by decide +kernel
theorem dX11_blown_30 : decode cX11_blown 30 = .ok (.lstore 5, 2) := by decide +kernel
theorem dX11_blown_32 : decode cX11_blown 32 = .ok (.iconst 0, 1) := by decide +kernel
theorem dX11_blown_33 : decode cX11_blown 33 = .ok (.istore 7, 2) := by decide +kernel
theorem dX11_blown_35 : decode cX11_blown 35 = .ok (.iload 7, 2) := by decide +kernel
theorem dX11_blown_37 : decode cX11_blown 37 = .ok (.iload_n 1, 1) := by decide +kernel
theorem dX11_blown_38 : decode cX11_blown 38 = .ok (.if_icmp .ge 17, 3) := by decide +kernel
theorem dX11_blown_41 : decode cX11_blown 41 = .ok (.lload 5, 2) := by decide +kernel
theorem dX11_blown_43 : decode cX11_blown 43 = .ok (.ldc2_w 373, 3) := by decide +kernel
theorem dX11_blown_46 : decode cX11_blown 46 = .ok (.lmul, 1) := by decide +kernel
theorem dX11_blown_47 : decode cX11_blown 47 = .ok (.lstore 5, 2) := by decide +kernel
theorem dX11_blown_49 : decode cX11_blown 49 = .ok (.iinc 7 1, 3) := by decide +kernel
theorem dX11_blown_52 : decode cX11_blown 52 = .ok (.goto (-17), 3) := by decide +kernel
theorem dX11_blown_55 : decode cX11_blown 55 = .ok (.lload_n 3, 1) := by decide +kernel
theorem dX11_blown_56 : decode cX11_blown 56 = .ok (.lload 5, 2) := by decide +kernel
theorem dX11_blown_58 : decode cX11_blown 58 = .ok (.ladd, 1) := by decide +kernel
theorem dX11_blown_59 : decode cX11_blown 59 = .ok (.lstore 7, 2) := by decide +kernel
theorem dX11_blown_61 : decode cX11_blown 61 = .ok (.lload_n 3, 1) := by decide +kernel
theorem dX11_blown_62 : decode cX11_blown 62 = .ok (.lstore 9, 2) := by decide +kernel
theorem dX11_blown_64 : decode cX11_blown 64 = .ok (.iconst 0, 1) := by decide +kernel
theorem dX11_blown_65 : decode cX11_blown 65 = .ok (.istore 11, 2) := by decide +kernel
theorem dX11_blown_67 : decode cX11_blown 67 = .ok (.iconst 0, 1) := by decide +kernel
theorem dX11_blown_68 : decode cX11_blown 68 = .ok (.istore 12, 2) := by decide +kernel
theorem dX11_blown_70 : decode cX11_blown 70 = .ok (.iload 12, 2) := by decide +kernel
theorem dX11_blown_72 : decode cX11_blown 72 = .ok (.bipush 6, 2) := by decide +kernel
theorem dX11_blown_74 : decode cX11_blown 74 = .ok (.if_icmp .ge 45, 3) := by decide +kernel
theorem dX11_blown_77 : decode cX11_blown 77 = .ok (.lload 7, 2) := by decide +kernel
theorem dX11_blown_79 : decode cX11_blown 79 = .ok (.lconst 0, 1) := by decide +kernel
theorem dX11_blown_80 : decode cX11_blown 80 = .ok (.lcmp, 1) := by decide +kernel
theorem dX11_blown_81 : decode cX11_blown 81 = .ok (.ifCond .le 38, 3) := by decide +kernel
theorem dX11_blown_84 : decode cX11_blown 84 = .ok (.lload 9, 2) := by decide +kernel
theorem dX11_blown_86 : decode cX11_blown 86 = .ok (.ldc2_w 375, 3) := by decide +kernel
theorem dX11_blown_89 : decode cX11_blown 89 = .ok (.lmul, 1) := by decide +kernel
theorem dX11_blown_90 : decode cX11_blown 90 = .ok (.lstore 9, 2) := by decide +kernel
theorem dX11_blown_92 : decode cX11_blown 92 = .ok (.iload 11, 2) := by decide +kernel
theorem dX11_blown_94 : decode cX11_blown 94 = .ok (.bipush 10, 2) := by decide +kernel
theorem dX11_blown_96 : decode cX11_blown 96 = .ok (.imul, 1) := by decide +kernel
theorem dX11_blown_97 : decode cX11_blown 97 = .ok (.lload 9, 2) := by decide +kernel
theorem dX11_blown_99 : decode cX11_blown 99 = .ok (.lload 7, 2) := by decide +kernel
theorem dX11_blown_101 : decode cX11_blown 101 = .ok (.ldiv, 1) := by decide +kernel
theorem dX11_blown_102 : decode cX11_blown 102 = .ok (.l2i, 1) := by decide +kernel
theorem dX11_blown_103 : decode cX11_blown 103 = .ok (.iadd, 1) := by decide +kernel
theorem dX11_blown_104 : decode cX11_blown 104 = .ok (.istore 11, 2) := by decide +kernel
theorem dX11_blown_106 : decode cX11_blown 106 = .ok (.lload 9, 2) := by decide +kernel
theorem dX11_blown_108 : decode cX11_blown 108 = .ok (.lload 7, 2) := by decide +kernel
theorem dX11_blown_110 : decode cX11_blown 110 = .ok (.lrem, 1) := by decide +kernel
theorem dX11_blown_111 : decode cX11_blown 111 = .ok (.lstore 9, 2) := by decide +kernel
theorem dX11_blown_113 : decode cX11_blown 113 = .ok (.iinc 12 1, 3) := by decide +kernel
theorem dX11_blown_116 : decode cX11_blown 116 = .ok (.goto (-46), 3) := by decide +kernel
theorem dX11_blown_119 : decode cX11_blown 119 = .ok (.iload 11, 2) := by decide +kernel
theorem dX11_blown_121 : decode cX11_blown 121 = .ok (.ireturn, 1) := by decide +kernel
theorem dX12_bytesIn_0 : decode cX12_bytesIn 0 = .ok (.iconst 0, 1) := by decide +kernel
theorem dX12_bytesIn_1 : decode cX12_bytesIn 1 = .ok (.istore_n 1, 1) := by decide +kernel
theorem dX12_bytesIn_2 : decode cX12_bytesIn 2 = .ok (.bipush 24, 2) := by decide +kernel
theorem dX12_bytesIn_4 : decode cX12_bytesIn 4 = .ok (.istore_n 2, 1) := by decide +kernel
theorem dX12_bytesIn_5 : decode cX12_bytesIn 5 = .ok (.iload_n 2, 1) := by decide +kernel
theorem dX12_bytesIn_6 : decode cX12_bytesIn 6 = .ok (.ifCond .lt 27, 3) := by decide +kernel
theorem dX12_bytesIn_9 : decode cX12_bytesIn 9 = .ok (.iload_n 1, 1) := by decide +kernel
theorem dX12_bytesIn_10 : decode cX12_bytesIn 10 = .ok (.iload_n 0, 1) := by decide +kernel
theorem dX12_bytesIn_11 : decode cX12_bytesIn 11 = .ok (.iload_n 2, 1) := by decide +kernel
theorem dX12_bytesIn_12 : decode cX12_bytesIn 12 = .ok (.ishr, 1) := by decide +kernel
theorem dX12_bytesIn_13 : decode cX12_bytesIn 13 = .ok (.sipush 255, 3) := by decide +kernel
theorem dX12_bytesIn_16 : decode cX12_bytesIn 16 = .ok (.iand, 1) := by decide +kernel
theorem dX12_bytesIn_17 : decode cX12_bytesIn 17 = .ok (.ifCond .eq 7, 3) := by decide +kernel
theorem dX12_bytesIn_20 : decode cX12_bytesIn 20 = .ok (.iconst 1, 1) := by decide +kernel
theorem dX12_bytesIn_21 : decode cX12_bytesIn 21 = .ok (.goto 4, 3) := by decide +kernel
theorem dX12_bytesIn_24 : decode cX12_bytesIn 24 = .ok (.iconst 0, 1) := by decide +kernel
theorem dX12_bytesIn_25 : decode cX12_bytesIn 25 = .ok (.iadd, 1) := by decide +kernel
theorem dX12_bytesIn_26 : decode cX12_bytesIn 26 = .ok (.istore_n 1, 1) := by decide +kernel
theorem dX12_bytesIn_27 : decode cX12_bytesIn 27 = .ok (.iinc 2 (-8), 3) := by decide +kernel
theorem dX12_bytesIn_30 : decode cX12_bytesIn 30 = .ok (.goto (-25), 3) := by decide +kernel
theorem dX12_bytesIn_33 : decode cX12_bytesIn 33 = .ok (.iload_n 1, 1) := by decide +kernel
theorem dX12_bytesIn_34 : decode cX12_bytesIn 34 = .ok (.ireturn, 1) := by decide +kernel
theorem dX12_put_0 : decode cX12_put 0 = .ok (.bipush 24, 2) := by decide +kernel
theorem dX12_put_2 : decode cX12_put 2 = .ok (.istore_n 2, 1) := by decide +kernel
theorem dX12_put_3 : decode cX12_put 3 = .ok (.iload_n 2, 1) := by decide +kernel
theorem dX12_put_4 : decode cX12_put 4 = .ok (.ifCond .lt 45, 3) := by decide +kernel
theorem dX12_put_7 : decode cX12_put 7 = .ok (.iload_n 1, 1) := by decide +kernel
theorem dX12_put_8 : decode cX12_put 8 = .ok (.iload_n 2, 1) := by decide +kernel
theorem dX12_put_9 : decode cX12_put 9 = .ok (.ishr, 1) := by decide +kernel
theorem dX12_put_10 : decode cX12_put 10 = .ok (.sipush 255, 3) := by decide +kernel
theorem dX12_put_13 : decode cX12_put 13 = .ok (.iand, 1) := by decide +kernel
theorem dX12_put_14 : decode cX12_put 14 = .ok (.ifCond .ne 6, 3) := by decide +kernel
theorem dX12_put_17 : decode cX12_put 17 = .ok (.goto 26, 3) := by decide +kernel
theorem dX12_put_20 : decode cX12_put 20 = .ok (.aload_n 0, 1) := by decide +kernel
theorem dX12_put_21 : decode cX12_put 21 = .ok (.getfield 9, 3) := by decide +kernel
theorem dX12_put_24 : decode cX12_put 24 = .ok (.aload_n 0, 1) := by decide +kernel
theorem dX12_put_25 : decode cX12_put 25 = .ok (.getfield 124, 3) := by decide +kernel
theorem dX12_put_28 : decode cX12_put 28 = .ok (.iload_n 1, 1) := by decide +kernel
theorem dX12_put_29 : decode cX12_put 29 = .ok (.iload_n 2, 1) := by decide +kernel
theorem dX12_put_30 : decode cX12_put 30 = .ok (.ishr, 1) := by decide +kernel
theorem dX12_put_31 : decode cX12_put 31 = .ok (.i2b, 1) := by decide +kernel
theorem dX12_put_32 : decode cX12_put 32 = .ok (.bastore, 1) := by decide +kernel
theorem dX12_put_33 : decode cX12_put 33 = .ok (.aload_n 0, 1) := by decide +kernel
theorem dX12_put_34 : decode cX12_put 34 = .ok (.dup, 1) := by decide +kernel
theorem dX12_put_35 : decode cX12_put 35 = .ok (.getfield 124, 3) := by decide +kernel
theorem dX12_put_38 : decode cX12_put 38 = .ok (.iconst 1, 1) := by decide +kernel
theorem dX12_put_39 : decode cX12_put 39 = .ok (.iadd, 1) := by decide +kernel
theorem dX12_put_40 : decode cX12_put 40 = .ok (.putfield 124, 3) := by decide +kernel
theorem dX12_put_43 : decode cX12_put 43 = .ok (.iinc 2 (-8), 3) := by decide +kernel
theorem dX12_put_46 : decode cX12_put 46 = .ok (.goto (-43), 3) := by decide +kernel
theorem dX12_put_49 : decode cX12_put 49 = .ok (.return_, 1) := by decide +kernel
set_option maxRecDepth 20000 in
theorem ggX12_feed_X12_bytesIn : GoodIn wsX12_feed wsX12_bytesIn := goodIn_r _ [6] (by decide +kernel) (by decide +kernel)
set_option maxRecDepth 20000 in
theorem gX12_feed_X12_bytesIn : GoodIn wsX12_feed (va_wsS RX12 126 yX12_bytesIn wsX12_bytesIn) := goodIn_app (goodIn_of _ (by decide +kernel)) ggX12_feed_X12_bytesIn
set_option maxRecDepth 20000 in
theorem ggX12_feed_X12_put : GoodIn wsX12_feed wsX12_put := goodIn_r _ [10, 11, 2, 12, 13, 14, 15, 16, 17, 18, 19, 20, 21, 22, 23, 24, 25, 26, 27, 28, 29, 30, 31, 32, 33, 34, 35, 36, 37, 38, 39, 40, 41, 42, 43, 44, 45, 46, 47, 48, 49, 50, 51, 52, 53, 54, 55, 56, 57, 58, 59, 60, 61, 62, 63, 64, 65] (by decide +kernel) (by decide +kernel)
set_option maxRecDepth 20000 in
theorem gX12_feed_X12_put : GoodIn wsX12_feed (wsV RX12 130 RX12 yX12_put wsX12_put) := goodIn_app (goodIn_of _ (by decide +kernel)) ggX12_feed_X12_put
theorem dX12_feed_0 : decode cX12_feed 0 = .ok (.aload_n 0, 1) := by decide +kernel
theorem dX12_feed_1 : decode cX12_feed 1 = .ok (.iconst 0, 1) := by decide +kernel
theorem dX12_feed_2 : decode cX12_feed 2 = .ok (.putfield 111, 3) := by decide +kernel
theorem dX12_feed_5 : decode cX12_feed 5 = .ok (.aload_n 0, 1) := by decide +kernel
theorem dX12_feed_6 : decode cX12_feed 6 = .ok (.getfield 124, 3) := by decide +kernel
theorem dX12_feed_9 : decode cX12_feed 9 = .ok (.iload_n 1, 1) := by decide +kernel
theorem dX12_feed_10 : decode cX12_feed 10 = .ok (.invokestatic 126, 3) := by decide +kernel
theorem dX12_feed_13 : decode cX12_feed 13 = .ok (.iadd, 1) := by decide +kernel
theorem dX12_feed_14 : decode cX12_feed 14 = .ok (.iload_n 2, 1) := by decide +kernel
theorem dX12_feed_15 : decode cX12_feed 15 = .ok (.invokestatic 126, 3) := by decide +kernel
theorem dX12_feed_18 : decode cX12_feed 18 = .ok (.iadd, 1) := by decide +kernel
theorem dX12_feed_19 : decode cX12_feed 19 = .ok (.iload_n 3, 1) := by decide +kernel
theorem dX12_feed_20 : decode cX12_feed 20 = .ok (.invokestatic 126, 3) := by decide +kernel
theorem dX12_feed_23 : decode cX12_feed 23 = .ok (.iadd, 1) := by decide +kernel
theorem dX12_feed_24 : decode cX12_feed 24 = .ok (.iload 4, 2) := by decide +kernel
theorem dX12_feed_26 : decode cX12_feed 26 = .ok (.invokestatic 126, 3) := by decide +kernel
theorem dX12_feed_29 : decode cX12_feed 29 = .ok (.iadd, 1) := by decide +kernel
theorem dX12_feed_30 : decode cX12_feed 30 = .ok (.iload 5, 2) := by decide +kernel
theorem dX12_feed_32 : decode cX12_feed 32 = .ok (.invokestatic 126, 3) := by decide +kernel
theorem dX12_feed_35 : decode cX12_feed 35 = .ok (.iadd, 1) := by decide +kernel
theorem dX12_feed_36 : decode cX12_feed 36 = .ok (.sipush 240, 3) := by decide +kernel
theorem dX12_feed_39 : decode cX12_feed 39 = .ok (.if_icmp .le 5, 3) := by decide +kernel
theorem dX12_feed_44 : decode cX12_feed 44 = .ok (.aload_n 0, 1) := by decide +kernel
theorem dX12_feed_45 : decode cX12_feed 45 = .ok (.iload_n 1, 1) := by decide +kernel
theorem dX12_feed_46 : decode cX12_feed 46 = .ok (.invokevirtual 130, 3) := by decide +kernel
theorem dX12_feed_49 : decode cX12_feed 49 = .ok (.aload_n 0, 1) := by decide +kernel
theorem dX12_feed_50 : decode cX12_feed 50 = .ok (.iload_n 2, 1) := by decide +kernel
theorem dX12_feed_51 : decode cX12_feed 51 = .ok (.invokevirtual 130, 3) := by decide +kernel
theorem dX12_feed_54 : decode cX12_feed 54 = .ok (.aload_n 0, 1) := by decide +kernel
theorem dX12_feed_55 : decode cX12_feed 55 = .ok (.iload_n 3, 1) := by decide +kernel
theorem dX12_feed_56 : decode cX12_feed 56 = .ok (.invokevirtual 130, 3) := by decide +kernel
theorem dX12_feed_59 : decode cX12_feed 59 = .ok (.aload_n 0, 1) := by decide +kernel
theorem dX12_feed_60 : decode cX12_feed 60 = .ok (.iload 4, 2) := by decide +kernel
theorem dX12_feed_62 : decode cX12_feed 62 = .ok (.invokevirtual 130, 3) := by decide +kernel
theorem dX12_feed_65 : decode cX12_feed 65 = .ok (.aload_n 0, 1) := by decide +kernel
theorem dX12_feed_66 : decode cX12_feed 66 = .ok (.iload 5, 2) := by decide +kernel
theorem dX12_feed_68 : decode cX12_feed 68 = .ok (.invokevirtual 130, 3) := by decide +kernel
theorem dX12_feed_71 : decode cX12_feed 71 = .ok (.aload_n 0, 1) := by decide +kernel
theorem dX12_feed_72 : decode cX12_feed 72 = .ok (.getfield 124, 3) := by decide +kernel
theorem dX12_feed_75 : decode cX12_feed 75 = .ok (.ireturn, 1) := by decide +kernel
set_option maxRecDepth 20000 in
theorem ggX12_blown_X12_isIn : GoodIn wsX12_blown wsX12_isIn := goodIn_r _ [10] (by decide +kernel) (by decide +kernel)
set_option maxRecDepth 20000 in
theorem gX12_blown_X12_isIn : GoodIn wsX12_blown (va_wsS RX12 232 yX12_isIn wsX12_isIn) := goodIn_app (goodIn_of _ (by decide +kernel)) ggX12_blown_X12_isIn
theorem dX12_blown_0 : decode cX12_blown 0 = .ok (.aload_n 0, 1) := by decide +kernel
theorem dX12_blown_1 : decode cX12_blown 1 = .ok (.iconst 0, 1) := by decide +kernel
theorem dX12_blown_2 : decode cX12_blown 2 = .ok (.putfield 111, 3) := by decide +kernel
theorem dX12_blown_5 : decode cX12_blown 5 = .ok (.iload_n 1, 1) := by decide +kernel
theorem dX12_blown_6 : decode cX12_blown 6 = .ok (.i2l, 1) := by decide +kernel
theorem dX12_blown_7 : decode cX12_blown 7 = .ok (.lconst 0, 1) := by decide +kernel
theorem dX12_blown_8 : decode cX12_blown 8 = .ok (.ldc2_w 518, 3) := by decide +kernel
theorem dX12_blown_11 : decode cX12_blown 11 = .ok (.invokestatic 232, 3) := by decide +kernel
theorem dX12_blown_14 : decode cX12_blown 14 = .ok (.ifCond .eq 14, 3) := by decide +kernel
theorem dX12_blown_17 : decode cX12_blown 17 = .ok (.iload_n 2, 1) := by decide +kernel
theorem dX12_blown_18 : decode cX12_blown 18 = .ok (.i2l, 1) := by decide +kernel
theorem dX12_blown_19 : decode cX12_blown 19 = .ok (.lconst 0, 1) := by decide +kernel
theorem dX12_blown_20 : decode cX12_blown 20 = .ok (.iload_n 1, 1) := by decide +kernel
theorem dX12_blown_21 : decode cX12_blown 21 = .ok (.i2l, 1) := by decide +kernel
theorem dX12_blown_22 : decode cX12_blown 22 = .ok (.invokestatic 232, 3) := by decide +kernel
theorem dX12_blown_25 : decode cX12_blown 25 = .ok (.ifCond .ne 5, 3) := by decide +kernel
theorem dX12_blown_28 : decode cX12_blown 28 = .ok (.iconst (-1), 1) := by decide +kernel
theorem dX12_blown_29 : decode cX12_blown 29 = .ok (.ireturn, 1) := by decide +kernel
theorem dX12_blown_30 : decode cX12_blown 30 = .ok (.lconst 1, 1) := by decide +kernel
theorem dX12_blown_31 : decode cX12_blown 31 = .ok (.lstore_n 3, 1) := by decide +kernel
theorem dX12_blown_32 : decode cX12_blown 32 = .ok (.lconst 1, 1) := by decide +kernel
theorem dX12_blown_33 : decode cX12_blown 33 = .ok (.lstore 5, 2) := by decide +kernel
theorem dX12_blown_35 : decode cX12_blown 35 = .ok (.iconst 0, 1) := by decide +kernel
theorem dX12_blown_36 : decode cX12_blown 36 = .ok (.istore 7, 2) := by decide +kernel
theorem dX12_blown_38 : decode cX12_blown 38 = .ok (.iload 7, 2) := by decide +kernel
theorem dX12_blown_40 : decode cX12_blown 40 = .ok (.iload_n 1, 1) := by decide +kernel
theorem dX12_blown_41 : decode cX12_blown 41 = .ok (.if_icmp .ge 35, 3) := by decide +kernel
theorem dX12_blown_44 : decode cX12_blown 44 = .ok (.lload_n 3, 1) := by decide +kernel
theorem dX12_blown_45 : decode cX12_blown 45 = .ok (.iload 7, 2) := by decide +kernel
theorem dX12_blown_47 : decode cX12_blown 47 = .ok (.iload_n 2, 1) := by decide +kernel
theorem dX12_blown_48 : decode cX12_blown 48 = .ok (.if_icmp .ge 9, 3) := by decide +kernel
theorem dX12_blown_51 : decode cX12_blown 51 = .ok (.ldc2_w 410, 3) := by decide +kernel
theorem dX12_blown_54 : decode cX12_blown 54 = .ok (.goto 6, 3) := by decide +kernel
theorem dX12_blown_57 : decode cX12_blown 57 = .ok (.ldc2_w 290, 3) := by decide +kernel
theorem dX12_blown_60 : decode cX12_blown 60 = .ok (.lmul, 1) := by decide +kernel
theorem dX12_blown_61 : decode cX12_blown 61 = .ok (.lstore_n 3, 1) := by decide +kernel
theorem dX12_blown_62 : decode cX12_blown 62 = .ok (.lload 5, 2) := by decide +kernel
theorem dX12_blown_64 : decode cX12_blown 64 = .ok (.ldc2_w 360, 3) := by decide +kernel
theorem dX12_blown_67 : decode cX12_blown 67 = .ok (.lmul, 1) := by decide +kernel
theorem dX12_blown_68 : decode cX12_blown 68 = .ok (.lstore 5, 2) := by decide +kernel
theorem dX12_blown_70 : decode cX12_blown 70 = .ok (.iinc 7 1, 3) := by decide +kernel
theorem dX12_blown_73 : decode cX12_blown 73 = .ok (.goto (-35), 3) := by decide +kernel
theorem dX12_blown_76 : decode cX12_blown 76 = .ok (.lload_n 3, 1) := by decide +kernel
theorem dX12_blown_77 : decode cX12_blown 77 = .ok (.lload 5, 2) := by decide +kernel
theorem dX12_blown_79 : decode cX12_blown 79 = .ok (.ladd, 1) := by decide +kernel
theorem dX12_blown_80 : decode cX12_blown 80 = .ok (.lstore 7, 2) := by decide +kernel
theorem dX12_blown_82 : decode cX12_blown 82 = .ok (.lload_n 3, 1) := by decide +kernel
theorem dX12_blown_83 : decode cX12_blown 83 = .ok (.lstore 9, 2) := by decide +kernel
theorem dX12_blown_85 : decode cX12_blown 85 = .ok (.iconst 0, 1) := by decide +kernel
theorem dX12_blown_86 : decode cX12_blown 86 = .ok (.istore 11, 2) := by decide +kernel
theorem dX12_blown_88 : decode cX12_blown 88 = .ok (.iconst 0, 1) := by decide +kernel
theorem dX12_blown_89 : decode cX12_blown 89 = .ok (.istore 12, 2) := by decide +kernel
theorem dX12_blown_91 : decode cX12_blown 91 = .ok (.iload 12, 2) := by decide +kernel
theorem dX12_blown_93 : decode cX12_blown 93 = .ok (.bipush 6, 2) := by decide +kernel
theorem dX12_blown_95 : decode cX12_blown 95 = .ok (.if_icmp .ge 38, 3) := by decide +kernel
theorem dX12_blown_98 : decode cX12_blown 98 = .ok (.lload 9, 2) := by decide +kernel
theorem dX12_blown_100 : decode cX12_blown 100 = .ok (.ldc2_w 352, 3) := by decide +kernel
theorem dX12_blown_103 : decode cX12_blown 103 = .ok (.lmul, 1) := by decide +kernel
theorem dX12_blown_104 : decode cX12_blown 104 = .ok (.lstore 9, 2) := by decide +kernel
theorem dX12_blown_106 : decode cX12_blown 106 = .ok (.bipush 10, 2) := by decide +kernel
theorem dX12_blown_108 : decode cX12_blown 108 = .ok (.iload 11, 2) := by decide +kernel
theorem dX12_blown_110 : decode cX12_blown 110 = .ok (.imul, 1) := by decide +kernel
theorem dX12_blown_111 : decode cX12_blown 111 = .ok (.lload 9, 2) := by decide +kernel
theorem dX12_blown_113 : decode cX12_blown 113 = .ok (.lload 7, 2) := by decide +kernel
theorem dX12_blown_115 : decode cX12_blown 115 = .ok (.ldiv, 1) := by decide +kernel
theorem dX12_blown_116 : decode cX12_blown 116 = .ok (.l2i, 1) := by decide +kernel
theorem dX12_blown_117 : decode cX12_blown 117 = .ok (.iadd, 1) := by decide +kernel
theorem dX12_blown_118 : decode cX12_blown 118 = .ok (.istore 11, 2) := by decide +kernel
theorem dX12_blown_120 : decode cX12_blown 120 = .ok (.lload 9, 2) := by decide +kernel
theorem dX12_blown_122 : decode cX12_blown 122 = .ok (.lload 7, 2) := by decide +kernel
theorem dX12_blown_124 : decode cX12_blown 124 = .ok (.lrem, 1) := by decide +kernel
theorem dX12_blown_125 : decode cX12_blown 125 = .ok (.lstore 9, 2) := by decide +kernel
theorem dX12_blown_127 : decode cX12_blown 127 = .ok (.iinc 12 1, 3) := by decide +kernel
theorem dX12_blown_130 : decode cX12_blown 130 = .ok (.goto (-39), 3) := by decide +kernel
theorem dX12_blown_133 : decode cX12_blown 133 = .ok (.iload 11, 2) := by decide +kernel
theorem dX12_blown_135 : decode cX12_blown 135 = .ok (.ireturn, 1) := by decide +kernel
set_option maxRecDepth 20000 in
theorem ggL_buoy_X11_buoy : GoodIn wsL_buoy wsX11_buoy := goodIn_ca (goodIn_r _ [6, 7, 8, 9, 10, 11, 12, 13, 14, 15, 16, 17, 5, 18, 19, 20, 21, 22, 23, 24, 25, 26, 27, 28, 29, 30, 31, 32, 33, 34, 35, 36, 37, 38, 39, 40, 41, 42, 43, 44, 45, 46, 47, 48, 49, 50, 51, 52, 53, 54, 55, 56, 57, 58, 59, 60, 61, 62, 63, 64, 65, 66, 67, 68, 69, 70, 71, 72, 73, 74, 75, 76, 77, 78, 79, 80, 81, 82, 83, 84, 85, 86, 87, 88, 89, 90, 91, 92, 93, 94, 95, 96, 97, 98, 99, 100, 101, 102, 103, 104, 105, 106, 107, 108, 109, 110, 111, 112, 113, 114, 115, 116, 117, 118, 119, 120, 121, 122, 123, 124, 125, 126, 127, 128, 129, 130, 131, 132, 133, 134, 135, 136, 137, 138, 139, 140, 141, 142, 143, 144, 145, 146, 147, 148, 149, 150, 151, 152, 153, 154, 155, 156, 157, 158, 159, 160, 161, 162] (by decide +kernel) (by decide +kernel)) (goodIn_sub (fun _ h => List.mem_cons_of_mem _ (List.mem_append_right _ h)) (by decide +kernel))
set_option maxRecDepth 20000 in
theorem gL_buoy_X11_buoy : GoodIn wsL_buoy (wsV RL 7 RX11 yX11_buoy wsX11_buoy) := goodIn_app (goodIn_of _ (by decide +kernel)) ggL_buoy_X11_buoy
theorem dL_buoy_0 : decode cL_buoy 0 = .ok (.aload_n 3, 1) := by decide +kernel
theorem dL_buoy_1 : decode cL_buoy 1 = .ok (.iconst 0, 1) := by decide +kernel
theorem dL_buoy_2 : decode cL_buoy 2 = .ok (.aload_n 0, 1) := by decide +kernel
theorem dL_buoy_3 : decode cL_buoy 3 = .ok (.iload_n 1, 1) := by decide +kernel
theorem dL_buoy_4 : decode cL_buoy 4 = .ok (.iload_n 2, 1) := by decide +kernel
theorem dL_buoy_5 : decode cL_buoy 5 = .ok (.invokevirtual 7, 3) := by decide +kernel
theorem dL_buoy_8 : decode cL_buoy 8 = .ok (.i2l, 1) := by decide +kernel
theorem dL_buoy_9 : decode cL_buoy 9 = .ok (.lastore, 1) := by decide +kernel
theorem dL_buoy_10 : decode cL_buoy 10 = .ok (.goto 7, 3) := by decide +kernel
theorem dL_buoy_13 : decode cL_buoy 13 = .ok (.astore 4, 2) := by decide +kernel
theorem dL_buoy_15 : decode cL_buoy 15 = .ok (.iconst 1, 1) := by decide +kernel
theorem dL_buoy_16 : decode cL_buoy 16 = .ok (.ireturn, 1) := by decide +kernel
theorem dL_buoy_17 : decode cL_buoy 17 = .ok (.iconst 0, 1) := by decide +kernel
theorem dL_buoy_18 : decode cL_buoy 18 = .ok (.ireturn, 1) := by decide +kernel
set_option maxRecDepth 20000 in
theorem ggL_law_X11_init : GoodIn wsL_law wsX11_init := goodIn_r _ [10, 11, 12, 13, 14, 15, 16, 17, 18, 19, 20, 21, 22, 23, 24, 25, 26, 27, 28, 29, 30, 31, 32, 33, 34, 35, 36, 37, 38, 39, 40, 41, 42, 43, 44, 45, 46, 47, 48, 49, 50, 51, 52, 53, 54, 55, 6, 56, 57, 58, 59, 60, 61, 62, 63, 64, 65, 66, 67, 68, 69, 70, 71, 72, 73, 74, 75, 76, 77, 78, 79, 80, 81, 82, 83, 84, 85, 86, 87, 88, 89, 90, 91, 92, 93, 94, 95, 96, 97, 98, 99, 100, 101, 102, 103, 104, 105, 106, 107, 108, 109, 110, 111, 112, 113, 114, 115, 116, 117, 118, 119, 120, 121, 122, 123, 124, 125, 126, 127, 128, 129, 130, 131, 132, 133, 134, 135, 136, 137, 138, 139, 140, 141, 142, 143, 144, 145, 146, 147, 148, 149, 150, 151, 152, 153, 154, 155, 1796, 1797, 1798, 1799, 1726, 1727, 1728, 1729, 1730, 1731, 1732, 1733, 1734, 1735, 1736, 1737, 1738, 1739, 1740, 1741, 1800, 1801, 1802, 1803, 1804, 1805, 1806, 1807, 1808, 1809, 1810, 1811, 1812, 1813, 1814, 1815, 1816, 1817, 1818, 1819, 1820, 1821, 1822, 1823, 1824, 1825, 1826, 1827, 1828, 1829, 1830, 1831, 1832, 1833, 1834, 1835, 1836, 1837, 1838, 1839, 1840, 1841, 1842, 1843, 1844, 1845, 1846, 1847, 1848, 1849, 1850, 1851, 1852, 1853, 1854, 1855, 1856, 1857, 1858, 1859, 1860] (by decide +kernel) (by decide +kernel)
set_option maxRecDepth 20000 in
theorem gL_law_X11_init : GoodIn wsL_law (wsX11_init) := ggL_law_X11_init
set_option maxRecDepth 20000 in
theorem ggL_law_X12_init : GoodIn wsL_law wsX12_init := goodIn_r _ [158, 159, 12, 13, 160, 161, 162, 57, 163, 164, 165, 166, 167, 168, 169, 170, 171, 172, 173, 174, 175, 176, 177, 178, 6, 179, 180, 181, 182, 183, 184, 185, 186, 187, 188, 189, 190, 191, 1742, 1743, 1744, 1745, 1746, 1747, 1748, 1749, 1750, 1751, 1752, 1753, 1754, 1755, 1756, 1757, 1758, 1759, 1760, 1761, 1762, 1763, 1764, 1765, 1766, 1767, 1768, 1769, 1770, 1771, 1772, 1773, 1774, 1775, 1776, 1777, 1778, 1779, 1780, 1781, 1782, 1783, 1784, 1785, 1786, 1787, 1788, 1789, 1790, 1791, 1792, 1793, 1794, 1795] (by decide +kernel) (by decide +kernel)
set_option maxRecDepth 20000 in
theorem gL_law_X12_init : GoodIn wsL_law (wsX12_init) := ggL_law_X12_init
set_option maxRecDepth 20000 in
theorem ggL_law_X11_feed : GoodIn wsL_law wsX11_feed := goodIn_r _ [195, 17, 196, 197, 198, 16, 199, 200, 201, 202, 203, 204, 63, 1726, 1727, 1728, 1729, 1730, 1731, 1732, 1733, 1734, 1735, 1736, 1737, 1738, 1739, 1740, 1741, 1796, 1797, 1798, 1799] (by decide +kernel) (by decide +kernel)
set_option maxRecDepth 20000 in
theorem gL_law_X11_feed : GoodIn wsL_law (wsV RL 19 RX11 yX11_feed wsX11_feed) := goodIn_app (goodIn_of _ (by decide +kernel)) ggL_law_X11_feed
set_option maxRecDepth 20000 in
theorem ggL_law_X12_feed : GoodIn wsL_law wsX12_feed := goodIn_r _ [208, 209, 210, 211, 212, 5, 213, 214, 215, 216, 217, 161, 1742, 1743, 1744, 1745, 1746, 1747, 1748, 1749, 1750, 1751, 1752, 1753, 1754, 1755, 1756, 1757, 1758, 1759, 1760, 1761, 1762, 1763, 1764, 1765, 1766, 1767, 1768, 1769, 1770, 1771, 1772, 1773, 1774, 1775, 1776, 1777, 1778, 1779, 1780, 1781, 1782, 1783, 1784, 1785, 1786, 1787, 1788, 1789, 1790, 1791, 1792, 1793, 1794, 1795] (by decide +kernel) (by decide +kernel)
set_option maxRecDepth 20000 in
theorem gL_law_X12_feed : GoodIn wsL_law (wsV RL 23 RX12 yX12_feed wsX12_feed) := goodIn_app (goodIn_of _ (by decide +kernel)) ggL_law_X12_feed
set_option maxRecDepth 20000 in
theorem ggL_law_X11_end : GoodIn wsL_law wsX11_end := goodIn_r _ [221, 17, 196, 222, 223, 2, 224, 1726, 1727, 1728, 1729, 1730, 1731, 1732, 1733, 1734, 1735, 1736, 1737, 1738, 1739, 1740, 1741, 1796, 1797, 1798, 1799] (by decide +kernel) (by decide +kernel)
set_option maxRecDepth 20000 in
theorem gL_law_X11_end : GoodIn wsL_law (wsV RL 24 RX11 yX11_end wsX11_end) := goodIn_app (goodIn_of _ (by decide +kernel)) ggL_law_X11_end
set_option maxRecDepth 20000 in
theorem ggL_law_X12_end : GoodIn wsL_law wsX12_end := goodIn_r _ [228, 209, 210, 1742, 1743, 1744, 1745, 1746, 1747, 1748, 1749, 1750, 1751, 1752, 1753, 1754, 1755, 1756, 1757, 1758, 1759, 1760, 1761, 1762, 1763, 1764, 1765, 1766, 1767, 1768, 1769, 1770, 1771, 1772, 1773, 1774, 1775, 1776, 1777, 1778, 1779, 1780, 1781, 1782, 1783, 1784, 1785, 1786, 1787, 1788, 1789, 1790, 1791, 1792, 1793, 1794, 1795] (by decide +kernel) (by decide +kernel)
set_option maxRecDepth 20000 in
theorem gL_law_X12_end : GoodIn wsL_law (wsV RL 28 RX12 yX12_end wsX12_end) := goodIn_app (goodIn_of _ (by decide +kernel)) ggL_law_X12_end
set_option maxRecDepth 20000 in
theorem ggL_law_X11_fault : GoodIn wsL_law wsX11_fault := goodIn_r _ [232, 22, 17, 26, 28, 233, 234, 235, 236, 20, 237, 238, 239, 240, 241, 242, 243, 244, 245, 69, 246, 247, 248, 249, 250, 251, 252, 253, 254, 255, 256, 257, 258, 259, 260, 261, 262, 263, 264, 265, 16, 266, 267, 64, 268, 269, 270, 271, 272, 273, 274, 275, 276, 277, 204, 63, 278, 279, 280, 281, 282, 283, 284, 285, 286, 287, 288, 289, 290, 291, 292, 293, 294, 295, 296, 297, 298, 299, 300, 301, 302, 303, 304, 305, 306, 307, 308, 309, 310, 311, 312, 313, 314, 315, 316, 317, 318, 319, 320, 321, 322, 323, 324, 325, 326, 327, 328, 329, 330, 331, 332, 333, 334, 335, 336, 337, 338, 339, 340, 341, 342, 343, 344, 345, 346, 347, 348, 349, 350, 351, 352, 353, 354, 355, 356, 357, 358, 359, 360, 361, 362, 363, 364, 365, 366, 367, 368, 369, 370, 371, 372, 373, 374, 375, 376, 377, 378, 379, 380, 381, 382, 383, 384, 385, 386, 387, 388, 389, 390, 391, 392, 393, 394, 395, 396, 397, 398, 399, 400, 401, 402, 403, 404, 405, 406, 407, 408, 409, 410, 411, 412, 413, 414, 415, 416, 417, 418, 419, 25, 420, 75, 421, 422, 423, 424, 77, 425, 426, 427, 428, 429, 430, 431, 432, 433, 434, 435, 436, 437, 438, 439, 440, 441, 442, 443, 444, 445, 446, 447, 84, 448, 449, 450, 451, 452, 453, 454, 455, 456, 457, 458, 459, 460, 461, 462, 463, 464, 465, 466, 467, 468, 469, 470, 471, 472, 473, 30, 474, 475, 476, 477, 478, 479, 480, 90, 481, 482, 483, 484, 485, 486, 487, 488, 489, 490, 491, 492, 493, 1726, 1727, 1728, 1729, 1730, 1731, 1732, 1733, 1734, 1735, 1736, 1737, 1738, 1739, 1740, 1741, 1800, 1801, 1802, 1803, 1796, 1797, 1798, 1799, 1804, 1805, 1806, 1807, 1858, 1859, 1860, 1808, 1809] (by decide +kernel) (by decide +kernel)
set_option maxRecDepth 20000 in
theorem gL_law_X11_fault : GoodIn wsL_law (wsV RL 29 RX11 yX11_fault wsX11_fault) := goodIn_app (goodIn_of _ (by decide +kernel)) ggL_law_X11_fault
set_option maxRecDepth 20000 in
theorem ggL_law_X12_fault : GoodIn wsL_law wsX12_fault := goodIn_r _ [497, 209, 498, 161, 210, 499, 500, 501, 5, 502, 503, 504, 505, 506, 507, 508, 509, 169, 510, 511, 512, 513, 514, 165, 515, 516, 517, 518, 519, 520, 521, 522, 523, 171, 173, 524, 525, 526, 527, 528, 529, 530, 531, 532, 533, 534, 535, 536, 252, 253, 254, 255, 256, 257, 258, 259, 260, 261, 262, 537, 538, 539, 540, 541, 542, 543, 289, 290, 291, 292, 544, 545, 296, 546, 547, 548, 549, 330, 550, 551, 333, 552, 553, 554, 313, 555, 556, 557, 558, 324, 325, 326, 559, 338, 339, 340, 341, 342, 343, 560, 561, 562, 563, 564, 565, 566, 567, 568, 569, 570, 571, 572, 573, 574, 575, 576, 577, 578, 579, 580, 581, 582, 583, 584, 585, 586, 587, 588, 589, 590, 591, 592, 593, 594, 595, 596, 597, 598, 599, 600, 601, 602, 603, 604, 605, 606, 607, 608, 609, 610, 611, 612, 613, 614, 615, 616, 617, 618, 619, 620, 621, 622, 623, 624, 625, 626, 627, 628, 629, 300, 630, 631, 632, 633, 634, 164, 635, 636, 637, 638, 639, 640, 641, 642, 643, 644, 645, 646, 647, 648, 649, 650, 651, 652, 653, 175, 654, 655, 656, 657, 174, 658, 659, 660, 661, 1742, 1743, 1744, 1745, 1746, 1747, 1748, 1749, 1750, 1751, 1752, 1753, 1754, 1755, 1756, 1757, 1758, 1759, 1760, 1761, 1762, 1763, 1764, 1765, 1766, 1767, 1768, 1769, 1770, 1771, 1772, 1773, 1774, 1775, 1776, 1777, 1778, 1779, 1780, 1781, 1782, 1783, 1784, 1785, 1786, 1787, 1788, 1789, 1790, 1791, 1792, 1793, 1794, 1795] (by decide +kernel) (by decide +kernel)
set_option maxRecDepth 20000 in
theorem gL_law_X12_fault : GoodIn wsL_law (wsV RL 33 RX12 yX12_fault wsX12_fault) := goodIn_app (goodIn_of _ (by decide +kernel)) ggL_law_X12_fault
set_option maxRecDepth 20000 in
theorem ggL_law_X11_text : GoodIn wsL_law wsX11_text := goodIn_r _ [665, 22, 17, 26, 28, 233, 234, 235, 236, 20, 237, 238, 239, 240, 241, 242, 243, 244, 245, 69, 246, 247, 248, 249, 250, 251, 252, 253, 254, 255, 256, 257, 258, 259, 260, 261, 262, 263, 264, 265, 16, 266, 267, 64, 268, 269, 270, 271, 272, 273, 274, 275, 276, 277, 204, 63, 278, 279, 280, 281, 282, 283, 284, 285, 286, 287, 288, 289, 290, 291, 292, 293, 294, 295, 296, 297, 298, 299, 300, 301, 302, 303, 304, 305, 306, 307, 308, 309, 310, 311, 312, 313, 314, 315, 316, 317, 318, 319, 320, 321, 322, 323, 324, 325, 326, 327, 328, 329, 330, 331, 332, 333, 334, 335, 336, 337, 338, 339, 340, 341, 342, 343, 344, 345, 346, 347, 348, 349, 350, 351, 352, 353, 354, 355, 356, 357, 358, 359, 360, 361, 362, 363, 364, 365, 366, 367, 368, 369, 370, 371, 372, 373, 374, 375, 376, 377, 378, 379, 380, 381, 382, 383, 384, 385, 386, 387, 388, 389, 390, 391, 392, 393, 394, 395, 396, 397, 398, 399, 400, 401, 402, 403, 404, 405, 406, 407, 408, 409, 410, 411, 412, 413, 414, 415, 416, 666, 667, 668, 2, 669, 21, 38, 43, 47, 670, 196, 671, 672, 673, 674, 675, 676, 677, 678, 679, 680, 681, 682, 37, 683, 684, 685, 686, 687, 688, 107, 105, 108, 106, 109, 110, 689, 111, 112, 113, 690, 691, 692, 693, 694, 695, 696, 697, 698, 699, 700, 701, 702, 703, 704, 705, 706, 707, 708, 709, 710, 711, 712, 713, 714, 715, 716, 717, 718, 719, 720, 721, 722, 723, 724, 42, 725, 726, 727, 728, 417, 418, 419, 25, 420, 75, 421, 422, 423, 424, 77, 425, 426, 427, 428, 429, 430, 431, 432, 433, 434, 435, 436, 437, 438, 439, 440, 441, 442, 443, 444, 445, 446, 447, 84, 448, 449, 450, 451, 452, 453, 454, 455, 456, 457, 458, 459, 460, 461, 462, 463, 464, 465, 466, 467, 468, 469, 470, 729, 730, 731, 732, 733, 471, 472, 473, 30, 474, 475, 476, 477, 478, 479, 480, 90, 481, 482, 483, 484, 485, 486, 487, 488, 489, 490, 491, 492, 493, 734, 735, 736, 737, 1726, 1727, 1728, 1729, 1730, 1731, 1732, 1733, 1734, 1735, 1736, 1737, 1738, 1739, 1740, 1741, 1800, 1801, 1802, 1803, 1796, 1797, 1798, 1799, 1836, 1837, 1838, 1839, 1840, 1841, 1842, 1843, 1844, 1845, 1846, 1847, 1816, 1817, 1818, 1819, 1820, 1821, 1822, 1823, 1824, 1825, 1826, 1827, 1828, 1829, 1830, 1831, 1832, 1833, 1834, 1835, 1804, 1805, 1806, 1807, 1858, 1859, 1860, 1808, 1809] (by decide +kernel) (by decide +kernel)
set_option maxRecDepth 20000 in
theorem gL_law_X11_text : GoodIn wsL_law (wsV RL 34 RX11 yX11_text wsX11_text) := goodIn_app (goodIn_of _ (by decide +kernel)) ggL_law_X11_text
set_option maxRecDepth 20000 in
theorem ggL_law_X12_text : GoodIn wsL_law wsX12_text := goodIn_r _ [741, 209, 498, 742, 743, 210, 162, 161, 163, 174, 175, 507, 744, 508, 745, 168, 169, 170, 171, 172, 173, 500, 501, 5, 502, 746, 495, 496, 497, 499, 503, 504, 505, 506, 509, 510, 511, 512, 513, 514, 165, 515, 516, 517, 518, 519, 520, 521, 522, 523, 524, 525, 526, 527, 528, 529, 530, 531, 532, 533, 534, 535, 536, 252, 253, 254, 255, 256, 257, 258, 259, 260, 261, 262, 537, 538, 539, 540, 541, 542, 543, 289, 290, 291, 292, 544, 545, 296, 546, 547, 548, 549, 330, 550, 551, 333, 552, 553, 554, 313, 555, 556, 557, 558, 324, 325, 326, 559, 338, 339, 340, 341, 342, 343, 560, 561, 562, 563, 564, 565, 566, 567, 568, 569, 570, 571, 572, 573, 574, 575, 576, 577, 578, 579, 580, 581, 582, 583, 584, 585, 586, 587, 588, 589, 590, 591, 592, 593, 594, 595, 596, 597, 598, 599, 600, 601, 602, 603, 604, 605, 606, 607, 608, 609, 610, 611, 612, 613, 614, 615, 616, 617, 618, 619, 620, 621, 622, 623, 624, 625, 626, 627, 628, 629, 300, 630, 631, 632, 633, 634, 164, 635, 636, 637, 638, 639, 640, 641, 642, 643, 644, 645, 646, 647, 648, 649, 650, 651, 652, 653, 654, 655, 656, 657, 658, 659, 660, 661, 747, 748, 749, 750, 176, 751, 752, 753, 754, 755, 756, 757, 1742, 1743, 1744, 1745, 1746, 1747, 1748, 1749, 1750, 1751, 1752, 1753, 1754, 1755, 1756, 1757, 1758, 1759, 1760, 1761, 1762, 1763, 1764, 1765, 1766, 1767, 1768, 1769, 1770, 1771, 1772, 1773, 1774, 1775, 1776, 1777, 1778, 1779, 1780, 1781, 1782, 1783, 1784, 1785, 1786, 1787, 1788, 1789, 1790, 1791, 1792, 1793, 1794, 1795] (by decide +kernel) (by decide +kernel)
set_option maxRecDepth 20000 in
theorem gL_law_X12_text : GoodIn wsL_law (wsV RL 37 RX12 yX12_text wsX12_text) := goodIn_app (goodIn_of _ (by decide +kernel)) ggL_law_X12_text
set_option maxRecDepth 20000 in
theorem ggL_law_X11_rule : GoodIn wsL_law wsX11_rule := goodIn_r _ [761, 38, 762, 763, 21, 34, 764, 765, 766, 767, 2, 768, 671, 769, 770, 771, 20, 772, 69, 773, 774, 775, 776, 777, 778, 779, 33, 780, 95, 781, 1726, 1727, 1728, 1729, 1730, 1731, 1732, 1733, 1734, 1735, 1736, 1737, 1738, 1739, 1740, 1741, 1816, 1817, 1818, 1819, 1820, 1821, 1822, 1823, 1824, 1825, 1826, 1827, 1828, 1800, 1801, 1802, 1803, 1810, 1811, 1812, 1813, 1814, 1815] (by decide +kernel) (by decide +kernel)
set_option maxRecDepth 20000 in
theorem gL_law_X11_rule : GoodIn wsL_law (wsV RL 38 RX11 yX11_rule wsX11_rule) := goodIn_app (goodIn_of _ (by decide +kernel)) ggL_law_X11_rule
set_option maxRecDepth 20000 in
theorem ggL_law_X12_rule : GoodIn wsL_law wsX12_rule := goodIn_r _ [785, 209, 744, 786, 176, 168, 500, 501, 5, 502, 787, 788, 789, 790, 1742, 1743, 1744, 1745, 1746, 1747, 1748, 1749, 1750, 1751, 1752, 1753, 1754, 1755, 1756, 1757, 1758, 1759, 1760, 1761, 1762, 1763, 1764, 1765, 1766, 1767, 1768, 1769, 1770, 1771, 1772, 1773, 1774, 1775, 1776, 1777, 1778, 1779, 1780, 1781, 1782, 1783, 1784, 1785, 1786, 1787, 1788, 1789, 1790, 1791, 1792, 1793, 1794, 1795] (by decide +kernel) (by decide +kernel)
set_option maxRecDepth 20000 in
theorem gL_law_X12_rule : GoodIn wsL_law (wsV RL 41 RX12 yX12_rule wsX12_rule) := goodIn_app (goodIn_of _ (by decide +kernel)) ggL_law_X12_rule
set_option maxRecDepth 20000 in
theorem ggL_law_L_buoy : GoodIn wsL_law wsL_buoy := goodIn_ca (goodIn_r _ [794, 795, 796, 797, 798, 2, 799, 800, 801, 21, 38, 802, 803, 34, 804, 805, 806, 807, 808, 671, 222, 223, 224, 809, 405, 406, 20, 407, 69, 810, 409, 410, 411, 811, 812, 813, 814, 815, 816, 817, 33, 818, 95, 819, 97, 820, 821, 822, 823, 824, 825, 826, 96, 827, 828, 829, 830, 831, 832, 37, 833, 105, 834, 835, 300, 836, 106, 837, 838, 839, 840, 841, 842, 843, 844, 845, 846, 847, 848, 849, 778, 779, 780, 781, 770, 771, 772, 850, 851, 852, 25, 853, 78, 421, 79, 75, 854, 855, 856, 77, 857, 426, 84, 85, 858, 859, 860, 861, 862, 863, 864, 865, 866, 867, 868, 869, 870, 1726, 1727, 1728, 1729, 1730, 1731, 1732, 1733, 1734, 1735, 1736, 1737, 1738, 1739, 1740, 1741, 1816, 1817, 1818, 1819, 1820, 1821, 1822, 1823, 1824, 1825, 1826, 1827, 1828, 1800, 1801, 1802, 1803, 1810, 1811, 1812, 1813, 1814, 1815, 1804, 1805, 1806, 1807, 1858, 1859, 1860] (by decide +kernel) (by decide +kernel)) (goodIn_sub (fun _ h => List.mem_append_right _ h) (by decide +kernel))
set_option maxRecDepth 20000 in
theorem gL_law_L_buoy : GoodIn wsL_law (va_wsS RL 42 yL_buoy wsL_buoy) := goodIn_app (goodIn_of _ (by decide +kernel)) ggL_law_L_buoy
set_option maxRecDepth 20000 in
theorem ggL_law_X12_buoy : GoodIn wsL_law wsX12_buoy := goodIn_r _ [874, 875, 209, 176, 876, 877, 878, 5, 879, 744, 500, 501, 502, 754, 755, 756, 757, 170, 880, 881, 882, 883, 745, 181, 884, 885, 886, 887, 888, 889, 890, 891, 172, 892, 893, 894, 895, 896, 897, 898, 899, 900, 901, 902, 903, 904, 835, 300, 836, 905, 906, 907, 908, 909, 910, 911, 787, 788, 789, 790, 168, 912, 913, 914, 915, 178, 164, 916, 303, 304, 917, 299, 301, 918, 919, 920, 921, 922, 923, 924, 925, 926, 927, 179, 180, 162, 163, 592, 585, 586, 587, 588, 589, 590, 591, 499, 510, 511, 512, 513, 514, 165, 515, 516, 593, 594, 595, 596, 524, 525, 526, 527, 597, 598, 599, 536, 252, 253, 254, 255, 256, 257, 258, 259, 260, 261, 262, 540, 541, 542, 543, 289, 290, 291, 292, 544, 545, 296, 546, 547, 548, 549, 330, 550, 551, 333, 552, 553, 554, 313, 555, 556, 557, 558, 324, 325, 326, 559, 338, 339, 340, 341, 342, 343, 528, 529, 530, 531, 600, 601, 602, 603, 604, 605, 606, 607, 608, 609, 610, 611, 612, 613, 614, 615, 616, 617, 618, 619, 620, 621, 622, 623, 624, 625, 626, 627, 628, 629, 630, 631, 632, 633, 634, 635, 636, 637, 638, 573, 574, 575, 576, 639, 640, 641, 642, 643, 644, 645, 646, 647, 648, 649, 928, 929, 930, 931, 1742, 1743, 1744, 1745, 1746, 1747, 1748, 1749, 1750, 1751, 1752, 1753, 1754, 1755, 1756, 1757, 1758, 1759, 1760, 1761, 1762, 1763, 1764, 1765, 1766, 1767, 1768, 1769, 1770, 1771, 1772, 1773, 1774, 1775, 1776, 1777, 1778, 1779, 1780, 1781, 1782, 1783, 1784, 1785, 1786, 1787, 1788, 1789, 1790, 1791, 1792, 1793, 1794, 1795] (by decide +kernel) (by decide +kernel)
set_option maxRecDepth 20000 in
theorem gL_law_X12_buoy : GoodIn wsL_law (wsV RL 47 RX12 yX12_buoy wsX12_buoy) := goodIn_app (goodIn_of _ (by decide +kernel)) ggL_law_X12_buoy
set_option maxRecDepth 20000 in
theorem ggL_law_X12_thrown : GoodIn wsL_law wsX12_thrown := goodIn_r _ [935, 209, 1742, 1743, 1744, 1745, 1746, 1747, 1748, 1749, 1750, 1751, 1752, 1753, 1754, 1755, 1756, 1757, 1758, 1759, 1760, 1761, 1762, 1763, 1764, 1765, 1766, 1767, 1768, 1769, 1770, 1771, 1772, 1773, 1774, 1775, 1776, 1777, 1778, 1779, 1780, 1781, 1782, 1783, 1784, 1785, 1786, 1787, 1788, 1789, 1790, 1791, 1792, 1793, 1794, 1795] (by decide +kernel) (by decide +kernel)
set_option maxRecDepth 20000 in
theorem gL_law_X12_thrown : GoodIn wsL_law (wsV RL 48 RX12 yX12_thrown wsX12_thrown) := goodIn_app (goodIn_of _ (by decide +kernel)) ggL_law_X12_thrown
set_option maxRecDepth 20000 in
theorem ggL_law_X11_boat : GoodIn wsL_law wsX11_boat := goodIn_r _ [939, 38, 940, 941, 21, 942, 943, 944, 945, 946, 947, 948, 2, 949, 950, 951, 952, 953, 20, 954, 69, 955, 838, 839, 840, 1726, 1727, 1728, 1729, 1730, 1731, 1732, 1733, 1734, 1735, 1736, 1737, 1738, 1739, 1740, 1741, 1816, 1817, 1818, 1819, 1820, 1821, 1822, 1823, 1824, 1825, 1826, 1827, 1828, 1800, 1801, 1802, 1803] (by decide +kernel) (by decide +kernel)
set_option maxRecDepth 20000 in
theorem gL_law_X11_boat : GoodIn wsL_law (wsV RL 52 RX11 yX11_boat wsX11_boat) := goodIn_app (goodIn_of _ (by decide +kernel)) ggL_law_X11_boat
set_option maxRecDepth 20000 in
theorem ggL_law_X12_boat : GoodIn wsL_law wsX12_boat := goodIn_r _ [959, 209, 960, 176, 961, 962, 963, 5, 964, 745, 500, 501, 502, 888, 889, 890, 891, 172, 905, 906, 907, 1742, 1743, 1744, 1745, 1746, 1747, 1748, 1749, 1750, 1751, 1752, 1753, 1754, 1755, 1756, 1757, 1758, 1759, 1760, 1761, 1762, 1763, 1764, 1765, 1766, 1767, 1768, 1769, 1770, 1771, 1772, 1773, 1774, 1775, 1776, 1777, 1778, 1779, 1780, 1781, 1782, 1783, 1784, 1785, 1786, 1787, 1788, 1789, 1790, 1791, 1792, 1793, 1794, 1795] (by decide +kernel) (by decide +kernel)
set_option maxRecDepth 20000 in
theorem gL_law_X12_boat : GoodIn wsL_law (wsV RL 55 RX12 yX12_boat wsX12_boat) := goodIn_app (goodIn_of _ (by decide +kernel)) ggL_law_X12_boat
set_option maxRecDepth 20000 in
theorem ggL_law_X11_law : GoodIn wsL_law wsX11_law := goodIn_r _ [968, 26, 733, 969, 222, 223, 2, 224, 1726, 1727, 1728, 1729, 1730, 1731, 1732, 1733, 1734, 1735, 1736, 1737, 1738, 1739, 1740, 1741, 1804, 1805, 1806, 1807] (by decide +kernel) (by decide +kernel)
set_option maxRecDepth 20000 in
theorem gL_law_X11_law : GoodIn wsL_law (wsV RL 56 RX11 yX11_law wsX11_law) := goodIn_app (goodIn_of _ (by decide +kernel)) ggL_law_X11_law
set_option maxRecDepth 20000 in
theorem ggL_law_X12_law : GoodIn wsL_law wsX12_law := goodIn_r _ [973, 209, 742, 178, 500, 501, 5, 502, 1742, 1743, 1744, 1745, 1746, 1747, 1748, 1749, 1750, 1751, 1752, 1753, 1754, 1755, 1756, 1757, 1758, 1759, 1760, 1761, 1762, 1763, 1764, 1765, 1766, 1767, 1768, 1769, 1770, 1771, 1772, 1773, 1774, 1775, 1776, 1777, 1778, 1779, 1780, 1781, 1782, 1783, 1784, 1785, 1786, 1787, 1788, 1789, 1790, 1791, 1792, 1793, 1794, 1795] (by decide +kernel) (by decide +kernel)
set_option maxRecDepth 20000 in
theorem gL_law_X12_law : GoodIn wsL_law (wsV RL 59 RX12 yX12_law wsX12_law) := goodIn_app (goodIn_of _ (by decide +kernel)) ggL_law_X12_law
set_option maxRecDepth 20000 in
theorem ggL_law_X11_pull : GoodIn wsL_law wsX11_pull := goodIn_r _ [977, 34, 38, 978, 805, 806, 807, 2, 808, 21, 671, 946, 947, 948, 949, 950, 979, 821, 822, 33, 823, 824, 825, 826, 95, 96, 827, 828, 405, 406, 20, 407, 69, 829, 409, 410, 411, 830, 831, 832, 37, 833, 105, 834, 835, 300, 836, 106, 837, 838, 839, 840, 841, 842, 843, 844, 845, 846, 847, 848, 849, 778, 779, 780, 781, 770, 771, 772, 850, 851, 852, 25, 853, 78, 421, 79, 75, 854, 855, 856, 77, 857, 426, 84, 85, 858, 859, 860, 861, 862, 863, 864, 865, 1726, 1727, 1728, 1729, 1730, 1731, 1732, 1733, 1734, 1735, 1736, 1737, 1738, 1739, 1740, 1741, 1800, 1801, 1802, 1803, 1816, 1817, 1818, 1819, 1820, 1821, 1822, 1823, 1824, 1825, 1826, 1827, 1828, 1810, 1811, 1812, 1813, 1814, 1815, 1804, 1805, 1806, 1807, 1858, 1859, 1860] (by decide +kernel) (by decide +kernel)
set_option maxRecDepth 20000 in
theorem gL_law_X11_pull : GoodIn wsL_law (wsV RL 60 RX11 yX11_pull wsX11_pull) := goodIn_app (goodIn_of _ (by decide +kernel)) ggL_law_X11_pull
set_option maxRecDepth 20000 in
theorem ggL_law_X12_pull : GoodIn wsL_law wsX12_pull := goodIn_r _ [983, 209, 176, 984, 876, 877, 878, 5, 879, 744, 961, 962, 963, 964, 745, 884, 885, 886, 887, 888, 889, 890, 891, 172, 892, 893, 894, 895, 896, 897, 898, 899, 754, 755, 756, 757, 170, 900, 901, 902, 903, 904, 835, 300, 836, 905, 906, 907, 908, 909, 910, 911, 787, 788, 789, 790, 168, 912, 913, 914, 915, 178, 164, 916, 303, 304, 917, 299, 301, 918, 919, 920, 921, 922, 923, 924, 925, 926, 927, 179, 180, 162, 163, 592, 585, 586, 587, 588, 589, 590, 591, 499, 510, 511, 512, 513, 514, 165, 515, 516, 593, 594, 595, 596, 524, 525, 526, 527, 597, 598, 599, 536, 252, 253, 254, 255, 256, 257, 258, 259, 260, 261, 262, 540, 541, 542, 543, 289, 290, 291, 292, 544, 545, 296, 546, 547, 548, 549, 330, 550, 551, 333, 552, 553, 554, 313, 555, 556, 557, 558, 324, 325, 326, 559, 338, 339, 340, 341, 342, 343, 528, 529, 530, 531, 600, 601, 602, 603, 604, 605, 606, 607, 608, 609, 610, 611, 612, 613, 614, 615, 616, 617, 618, 619, 620, 621, 622, 623, 624, 625, 626, 627, 628, 629, 630, 631, 632, 633, 634, 635, 636, 637, 638, 573, 574, 575, 576, 639, 640, 641, 642, 643, 644, 645, 646, 647, 648, 649, 1742, 1743, 1744, 1745, 1746, 1747, 1748, 1749, 1750, 1751, 1752, 1753, 1754, 1755, 1756, 1757, 1758, 1759, 1760, 1761, 1762, 1763, 1764, 1765, 1766, 1767, 1768, 1769, 1770, 1771, 1772, 1773, 1774, 1775, 1776, 1777, 1778, 1779, 1780, 1781, 1782, 1783, 1784, 1785, 1786, 1787, 1788, 1789, 1790, 1791, 1792, 1793, 1794, 1795] (by decide +kernel) (by decide +kernel)
set_option maxRecDepth 20000 in
theorem gL_law_X12_pull : GoodIn wsL_law (wsV RL 63 RX12 yX12_pull wsX12_pull) := goodIn_app (goodIn_of _ (by decide +kernel)) ggL_law_X12_pull
set_option maxRecDepth 20000 in
theorem ggL_law_X11_push : GoodIn wsL_law wsX11_push := goodIn_r _ [988, 34, 38, 978, 805, 806, 807, 2, 808, 21, 671, 946, 947, 948, 949, 950, 989, 842, 843, 33, 844, 845, 95, 846, 847, 848, 827, 828, 405, 406, 20, 407, 69, 829, 409, 410, 411, 849, 778, 779, 780, 781, 770, 771, 772, 1726, 1727, 1728, 1729, 1730, 1731, 1732, 1733, 1734, 1735, 1736, 1737, 1738, 1739, 1740, 1741, 1800, 1801, 1802, 1803, 1816, 1817, 1818, 1819, 1820, 1821, 1822, 1823, 1824, 1825, 1826, 1827, 1828, 1810, 1811, 1812, 1813, 1814, 1815] (by decide +kernel) (by decide +kernel)
set_option maxRecDepth 20000 in
theorem gL_law_X11_push : GoodIn wsL_law (wsV RL 64 RX11 yX11_push wsX11_push) := goodIn_app (goodIn_of _ (by decide +kernel)) ggL_law_X11_push
set_option maxRecDepth 20000 in
theorem ggL_law_X12_push : GoodIn wsL_law wsX12_push := goodIn_r _ [993, 209, 176, 984, 876, 877, 878, 5, 879, 744, 961, 962, 963, 964, 745, 908, 909, 910, 911, 905, 906, 907, 754, 755, 756, 757, 170, 787, 788, 789, 790, 168, 1742, 1743, 1744, 1745, 1746, 1747, 1748, 1749, 1750, 1751, 1752, 1753, 1754, 1755, 1756, 1757, 1758, 1759, 1760, 1761, 1762, 1763, 1764, 1765, 1766, 1767, 1768, 1769, 1770, 1771, 1772, 1773, 1774, 1775, 1776, 1777, 1778, 1779, 1780, 1781, 1782, 1783, 1784, 1785, 1786, 1787, 1788, 1789, 1790, 1791, 1792, 1793, 1794, 1795] (by decide +kernel) (by decide +kernel)
set_option maxRecDepth 20000 in
theorem gL_law_X12_push : GoodIn wsL_law (wsV RL 67 RX12 yX12_push wsX12_push) := goodIn_app (goodIn_of _ (by decide +kernel)) ggL_law_X12_push
set_option maxRecDepth 20000 in
theorem ggL_law_X11_row : GoodIn wsL_law wsX11_row := goodIn_r _ [997, 38, 43, 942, 943, 21, 998, 999, 1000, 2, 1001, 946, 947, 948, 949, 950, 222, 223, 224, 1002, 1003, 1004, 42, 1005, 119, 726, 727, 1006, 303, 300, 304, 1007, 1008, 1009, 37, 1010, 684, 685, 686, 687, 105, 1011, 677, 678, 679, 106, 107, 108, 109, 110, 111, 112, 113, 1012, 831, 832, 833, 834, 835, 836, 951, 952, 953, 20, 954, 69, 1013, 1014, 1015, 1726, 1727, 1728, 1729, 1730, 1731, 1732, 1733, 1734, 1735, 1736, 1737, 1738, 1739, 1740, 1741, 1816, 1817, 1818, 1819, 1820, 1821, 1822, 1823, 1824, 1825, 1826, 1827, 1828, 1800, 1801, 1802, 1803, 1829, 1830, 1831, 1832, 1833, 1834, 1835] (by decide +kernel) (by decide +kernel)
set_option maxRecDepth 20000 in
theorem gL_law_X11_row : GoodIn wsL_law (wsV RL 68 RX11 yX11_row wsX11_row) := goodIn_app (goodIn_of _ (by decide +kernel)) ggL_law_X11_row
set_option maxRecDepth 20000 in
theorem ggL_law_X12_row : GoodIn wsL_law wsX12_row := goodIn_r _ [1019, 209, 176, 1020, 1021, 1022, 5, 1023, 1024, 961, 962, 963, 964, 745, 500, 501, 502, 905, 906, 907, 1025, 1026, 1027, 1028, 752, 184, 1029, 1030, 1031, 900, 901, 902, 903, 904, 835, 300, 836, 1032, 1033, 1034, 1035, 888, 889, 890, 891, 172, 1742, 1743, 1744, 1745, 1746, 1747, 1748, 1749, 1750, 1751, 1752, 1753, 1754, 1755, 1756, 1757, 1758, 1759, 1760, 1761, 1762, 1763, 1764, 1765, 1766, 1767, 1768, 1769, 1770, 1771, 1772, 1773, 1774, 1775, 1776, 1777, 1778, 1779, 1780, 1781, 1782, 1783, 1784, 1785, 1786, 1787, 1788, 1789, 1790, 1791, 1792, 1793, 1794, 1795] (by decide +kernel) (by decide +kernel)
set_option maxRecDepth 20000 in
theorem gL_law_X12_row : GoodIn wsL_law (wsV RL 72 RX12 yX12_row wsX12_row) := goodIn_app (goodIn_of _ (by decide +kernel)) ggL_law_X12_row
set_option maxRecDepth 20000 in
theorem ggL_law_X11_sing : GoodIn wsL_law wsX11_sing := goodIn_r _ [1039, 38, 43, 804, 1040, 1041, 1042, 2, 1043, 946, 947, 948, 949, 21, 950, 805, 806, 807, 808, 671, 1044, 1045, 1046, 1047, 809, 405, 406, 20, 407, 69, 810, 409, 410, 411, 1012, 831, 832, 37, 833, 105, 834, 835, 300, 836, 106, 1002, 1003, 1004, 42, 1005, 119, 726, 727, 1006, 303, 304, 1007, 1008, 1009, 1010, 684, 685, 686, 687, 1011, 677, 678, 679, 107, 108, 109, 110, 111, 112, 113, 1048, 1049, 1050, 1051, 1726, 1727, 1728, 1729, 1730, 1731, 1732, 1733, 1734, 1735, 1736, 1737, 1738, 1739, 1740, 1741, 1816, 1817, 1818, 1819, 1820, 1821, 1822, 1823, 1824, 1825, 1826, 1827, 1828, 1800, 1801, 1802, 1803, 1829, 1830, 1831, 1832, 1833, 1834, 1835] (by decide +kernel) (by decide +kernel)
set_option maxRecDepth 20000 in
theorem gL_law_X11_sing : GoodIn wsL_law (wsV RL 73 RX11 yX11_sing wsX11_sing) := goodIn_app (goodIn_of _ (by decide +kernel)) ggL_law_X11_sing
set_option maxRecDepth 20000 in
theorem ggL_law_X12_sing : GoodIn wsL_law wsX12_sing := goodIn_r _ [1055, 209, 176, 1056, 1057, 1058, 5, 1059, 961, 962, 963, 964, 745, 876, 877, 878, 879, 744, 896, 897, 898, 899, 754, 755, 756, 757, 170, 900, 901, 902, 903, 904, 835, 300, 836, 905, 906, 907, 1025, 1026, 1027, 1028, 752, 184, 1060, 1061, 1062, 1742, 1743, 1744, 1745, 1746, 1747, 1748, 1749, 1750, 1751, 1752, 1753, 1754, 1755, 1756, 1757, 1758, 1759, 1760, 1761, 1762, 1763, 1764, 1765, 1766, 1767, 1768, 1769, 1770, 1771, 1772, 1773, 1774, 1775, 1776, 1777, 1778, 1779, 1780, 1781, 1782, 1783, 1784, 1785, 1786, 1787, 1788, 1789, 1790, 1791, 1792, 1793, 1794, 1795] (by decide +kernel) (by decide +kernel)
set_option maxRecDepth 20000 in
theorem gL_law_X12_sing : GoodIn wsL_law (wsV RL 76 RX12 yX12_sing wsX12_sing) := goodIn_app (goodIn_of _ (by decide +kernel)) ggL_law_X12_sing
set_option maxRecDepth 20000 in
theorem ggL_law_X11_scrape : GoodIn wsL_law wsX11_scrape := goodIn_r _ [1066, 38, 43, 803, 1067, 1068, 1069, 2, 1070, 946, 947, 948, 949, 21, 950, 805, 806, 807, 808, 671, 1044, 1045, 1046, 1047, 809, 405, 406, 20, 407, 69, 810, 409, 410, 411, 1012, 831, 832, 37, 833, 105, 834, 835, 300, 836, 106, 1002, 1003, 1004, 42, 1005, 119, 726, 727, 1006, 303, 304, 1007, 1008, 1009, 1010, 684, 685, 686, 687, 1011, 677, 678, 679, 107, 108, 109, 110, 111, 112, 113, 1726, 1727, 1728, 1729, 1730, 1731, 1732, 1733, 1734, 1735, 1736, 1737, 1738, 1739, 1740, 1741, 1816, 1817, 1818, 1819, 1820, 1821, 1822, 1823, 1824, 1825, 1826, 1827, 1828, 1800, 1801, 1802, 1803, 1829, 1830, 1831, 1832, 1833, 1834, 1835] (by decide +kernel) (by decide +kernel)
set_option maxRecDepth 20000 in
theorem gL_law_X11_scrape : GoodIn wsL_law (wsV RL 77 RX11 yX11_scrape wsX11_scrape) := goodIn_app (goodIn_of _ (by decide +kernel)) ggL_law_X11_scrape
set_option maxRecDepth 20000 in
theorem ggL_law_X12_scrape : GoodIn wsL_law wsX12_scrape := goodIn_r _ [1074, 209, 176, 1075, 1076, 1077, 5, 1078, 961, 962, 963, 964, 745, 876, 877, 878, 879, 744, 896, 897, 898, 899, 754, 755, 756, 757, 170, 900, 901, 902, 903, 904, 835, 300, 836, 905, 906, 907, 1025, 1026, 1027, 1028, 752, 184, 1742, 1743, 1744, 1745, 1746, 1747, 1748, 1749, 1750, 1751, 1752, 1753, 1754, 1755, 1756, 1757, 1758, 1759, 1760, 1761, 1762, 1763, 1764, 1765, 1766, 1767, 1768, 1769, 1770, 1771, 1772, 1773, 1774, 1775, 1776, 1777, 1778, 1779, 1780, 1781, 1782, 1783, 1784, 1785, 1786, 1787, 1788, 1789, 1790, 1791, 1792, 1793, 1794, 1795] (by decide +kernel) (by decide +kernel)
set_option maxRecDepth 20000 in
theorem gL_law_X12_scrape : GoodIn wsL_law (wsV RL 80 RX12 yX12_scrape wsX12_scrape) := goodIn_app (goodIn_of _ (by decide +kernel)) ggL_law_X12_scrape
set_option maxRecDepth 20000 in
theorem ggL_law_X11_wind : GoodIn wsL_law wsX11_wind := goodIn_r _ [1082, 38, 762, 763, 43, 765, 766, 767, 2, 768, 21, 671, 222, 223, 224, 1002, 1003, 1004, 42, 1005, 119, 726, 727, 1006, 303, 300, 304, 1007, 1008, 1009, 37, 1010, 684, 685, 686, 687, 105, 1011, 677, 678, 679, 106, 107, 108, 109, 110, 111, 112, 113, 1726, 1727, 1728, 1729, 1730, 1731, 1732, 1733, 1734, 1735, 1736, 1737, 1738, 1739, 1740, 1741, 1816, 1817, 1818, 1819, 1820, 1821, 1822, 1823, 1824, 1825, 1826, 1827, 1828, 1800, 1801, 1802, 1803, 1829, 1830, 1831, 1832, 1833, 1834, 1835] (by decide +kernel) (by decide +kernel)
set_option maxRecDepth 20000 in
theorem gL_law_X11_wind : GoodIn wsL_law (wsV RL 81 RX11 yX11_wind wsX11_wind) := goodIn_app (goodIn_of _ (by decide +kernel)) ggL_law_X11_wind
set_option maxRecDepth 20000 in
theorem ggL_law_X12_wind : GoodIn wsL_law wsX12_wind := goodIn_r _ [1086, 209, 744, 1024, 1087, 176, 500, 501, 5, 502, 1025, 1026, 1027, 1028, 752, 184, 1742, 1743, 1744, 1745, 1746, 1747, 1748, 1749, 1750, 1751, 1752, 1753, 1754, 1755, 1756, 1757, 1758, 1759, 1760, 1761, 1762, 1763, 1764, 1765, 1766, 1767, 1768, 1769, 1770, 1771, 1772, 1773, 1774, 1775, 1776, 1777, 1778, 1779, 1780, 1781, 1782, 1783, 1784, 1785, 1786, 1787, 1788, 1789, 1790, 1791, 1792, 1793, 1794, 1795] (by decide +kernel) (by decide +kernel)
set_option maxRecDepth 20000 in
theorem gL_law_X12_wind : GoodIn wsL_law (wsV RL 85 RX12 yX12_wind wsX12_wind) := goodIn_app (goodIn_of _ (by decide +kernel)) ggL_law_X12_wind
set_option maxRecDepth 20000 in
theorem ggL_law_X11_hours : GoodIn wsL_law wsX11_hours := goodIn_r _ [1091, 43, 38, 764, 1092, 1093, 1094, 2, 1095, 765, 766, 767, 768, 21, 671, 222, 223, 224, 1002, 1003, 1004, 42, 1005, 119, 726, 727, 1006, 303, 300, 304, 1007, 1008, 1009, 37, 1010, 684, 685, 686, 687, 105, 1011, 677, 678, 679, 106, 107, 108, 109, 110, 111, 112, 113, 1096, 1097, 1098, 1099, 34, 1100, 1101, 1102, 1103, 33, 1104, 95, 819, 827, 1105, 952, 953, 20, 954, 69, 1106, 1107, 1108, 1109, 834, 835, 836, 1110, 1111, 1112, 1113, 1114, 99, 1115, 97, 98, 820, 821, 822, 823, 824, 825, 826, 96, 828, 405, 406, 407, 829, 409, 410, 411, 830, 831, 832, 833, 837, 838, 839, 840, 841, 842, 843, 844, 845, 846, 847, 848, 849, 778, 779, 780, 781, 770, 771, 772, 850, 851, 852, 25, 853, 78, 421, 79, 75, 854, 855, 856, 77, 857, 426, 84, 85, 858, 859, 860, 861, 862, 863, 864, 865, 866, 812, 813, 814, 867, 868, 869, 870, 1116, 774, 775, 776, 1117, 1118, 1119, 1120, 1121, 1122, 1123, 1124, 1125, 1126, 1127, 1128, 1129, 1130, 120, 1131, 1132, 1726, 1727, 1728, 1729, 1730, 1731, 1732, 1733, 1734, 1735, 1736, 1737, 1738, 1739, 1740, 1741, 1816, 1817, 1818, 1819, 1820, 1821, 1822, 1823, 1824, 1825, 1826, 1827, 1828, 1800, 1801, 1802, 1803, 1829, 1830, 1831, 1832, 1833, 1834, 1835, 1810, 1811, 1812, 1813, 1814, 1815, 1804, 1805, 1806, 1807, 1858, 1859, 1860] (by decide +kernel) (by decide +kernel)
set_option maxRecDepth 20000 in
theorem gL_law_X11_hours : GoodIn wsL_law (wsV RL 86 RX11 yX11_hours wsX11_hours) := goodIn_app (goodIn_of _ (by decide +kernel)) ggL_law_X11_hours
set_option maxRecDepth 20000 in
theorem ggL_law_X12_hours : GoodIn wsL_law wsX12_hours := goodIn_r _ [1136, 209, 176, 1137, 1138, 1139, 5, 1140, 744, 500, 501, 502, 1025, 1026, 1027, 1028, 752, 184, 1141, 1142, 1143, 1144, 745, 904, 835, 300, 836, 182, 168, 888, 889, 890, 891, 172, 1145, 1146, 1147, 916, 303, 304, 917, 299, 301, 1148, 1149, 1150, 1151, 1152, 1153, 1154, 1155, 880, 881, 882, 883, 181, 884, 885, 886, 887, 892, 893, 894, 895, 896, 897, 898, 899, 754, 755, 756, 757, 170, 900, 901, 902, 903, 905, 906, 907, 908, 909, 910, 911, 787, 788, 789, 790, 912, 913, 914, 915, 178, 164, 918, 919, 920, 921, 922, 923, 924, 925, 926, 927, 179, 180, 162, 163, 592, 585, 586, 587, 588, 589, 590, 591, 499, 510, 511, 512, 513, 514, 165, 515, 516, 593, 594, 595, 596, 524, 525, 526, 527, 597, 598, 599, 536, 252, 253, 254, 255, 256, 257, 258, 259, 260, 261, 262, 540, 541, 542, 543, 289, 290, 291, 292, 544, 545, 296, 546, 547, 548, 549, 330, 550, 551, 333, 552, 553, 554, 313, 555, 556, 557, 558, 324, 325, 326, 559, 338, 339, 340, 341, 342, 343, 528, 529, 530, 531, 600, 601, 602, 603, 604, 605, 606, 607, 608, 609, 610, 611, 612, 613, 614, 615, 616, 617, 618, 619, 620, 621, 622, 623, 624, 625, 626, 627, 628, 629, 630, 631, 632, 633, 634, 635, 636, 637, 638, 573, 574, 575, 576, 639, 640, 641, 642, 643, 644, 645, 646, 647, 648, 649, 928, 929, 930, 931, 1156, 1157, 1158, 1159, 183, 1742, 1743, 1744, 1745, 1746, 1747, 1748, 1749, 1750, 1751, 1752, 1753, 1754, 1755, 1756, 1757, 1758, 1759, 1760, 1761, 1762, 1763, 1764, 1765, 1766, 1767, 1768, 1769, 1770, 1771, 1772, 1773, 1774, 1775, 1776, 1777, 1778, 1779, 1780, 1781, 1782, 1783, 1784, 1785, 1786, 1787, 1788, 1789, 1790, 1791, 1792, 1793, 1794, 1795] (by decide +kernel) (by decide +kernel)
set_option maxRecDepth 20000 in
theorem gL_law_X12_hours : GoodIn wsL_law (wsV RL 89 RX12 yX12_hours wsX12_hours) := goodIn_app (goodIn_of _ (by decide +kernel)) ggL_law_X12_hours
set_option maxRecDepth 20000 in
theorem ggL_law_X11_years : GoodIn wsL_law wsX11_years := goodIn_r _ [1163, 1164, 43, 38, 763, 762, 21, 950, 671, 942, 943, 764, 1092, 1093, 1094, 2, 1095, 765, 766, 767, 768, 222, 223, 224, 1002, 1003, 1004, 42, 1005, 119, 726, 727, 1006, 303, 300, 304, 1007, 1008, 1009, 37, 1010, 684, 685, 686, 687, 105, 1011, 677, 678, 679, 106, 107, 108, 109, 110, 111, 112, 113, 1165, 1166, 1167, 1168, 1169, 1170, 809, 405, 406, 20, 407, 69, 810, 409, 410, 411, 1096, 1097, 1098, 1099, 34, 1100, 1101, 1102, 1103, 33, 1104, 95, 819, 827, 1105, 952, 953, 954, 1106, 1107, 1108, 1109, 834, 835, 836, 1110, 1111, 1112, 1113, 1114, 99, 1115, 97, 98, 820, 821, 822, 823, 824, 825, 826, 96, 828, 829, 830, 831, 832, 833, 837, 838, 839, 840, 841, 842, 843, 844, 845, 846, 847, 848, 849, 778, 779, 780, 781, 770, 771, 772, 850, 851, 852, 25, 853, 78, 421, 79, 75, 854, 855, 856, 77, 857, 426, 84, 85, 858, 859, 860, 861, 862, 863, 864, 865, 866, 812, 813, 814, 867, 868, 869, 870, 1116, 774, 775, 776, 1117, 1118, 1119, 1120, 1121, 1122, 1123, 1124, 1125, 1126, 1127, 1128, 1129, 1130, 120, 1131, 1132, 1726, 1727, 1728, 1729, 1730, 1731, 1732, 1733, 1734, 1735, 1736, 1737, 1738, 1739, 1740, 1741, 1816, 1817, 1818, 1819, 1820, 1821, 1822, 1823, 1824, 1825, 1826, 1827, 1828, 1800, 1801, 1802, 1803, 1829, 1830, 1831, 1832, 1833, 1834, 1835, 1810, 1811, 1812, 1813, 1814, 1815, 1804, 1805, 1806, 1807, 1858, 1859, 1860] (by decide +kernel) (by decide +kernel)
set_option maxRecDepth 20000 in
theorem gL_law_X11_years : GoodIn wsL_law (wsV RL 92 RX11 yX11_years wsX11_years) := goodIn_app (goodIn_of _ (by decide +kernel)) ggL_law_X11_years
set_option maxRecDepth 20000 in
theorem ggL_law_X12_years : GoodIn wsL_law wsX12_years := goodIn_r _ [1174, 209, 176, 1175, 745, 744, 1137, 1138, 1139, 5, 1140, 500, 501, 502, 1025, 1026, 1027, 1028, 752, 184, 1176, 1177, 1178, 1179, 1180, 1181, 754, 755, 756, 757, 170, 1029, 1030, 1031, 1141, 1142, 1143, 1144, 904, 835, 300, 836, 182, 168, 888, 889, 890, 891, 172, 1145, 1146, 1147, 916, 303, 304, 917, 299, 301, 1148, 1149, 1150, 1151, 1152, 1153, 1154, 1155, 880, 881, 882, 883, 181, 884, 885, 886, 887, 892, 893, 894, 895, 896, 897, 898, 899, 900, 901, 902, 903, 905, 906, 907, 908, 909, 910, 911, 787, 788, 789, 790, 912, 913, 914, 915, 178, 164, 918, 919, 920, 921, 922, 923, 924, 925, 926, 927, 179, 180, 162, 163, 592, 585, 586, 587, 588, 589, 590, 591, 499, 510, 511, 512, 513, 514, 165, 515, 516, 593, 594, 595, 596, 524, 525, 526, 527, 597, 598, 599, 536, 252, 253, 254, 255, 256, 257, 258, 259, 260, 261, 262, 540, 541, 542, 543, 289, 290, 291, 292, 544, 545, 296, 546, 547, 548, 549, 330, 550, 551, 333, 552, 553, 554, 313, 555, 556, 557, 558, 324, 325, 326, 559, 338, 339, 340, 341, 342, 343, 528, 529, 530, 531, 600, 601, 602, 603, 604, 605, 606, 607, 608, 609, 610, 611, 612, 613, 614, 615, 616, 617, 618, 619, 620, 621, 622, 623, 624, 625, 626, 627, 628, 629, 630, 631, 632, 633, 634, 635, 636, 637, 638, 573, 574, 575, 576, 639, 640, 641, 642, 643, 644, 645, 646, 647, 648, 649, 928, 929, 930, 931, 1156, 1157, 1158, 1159, 183, 1742, 1743, 1744, 1745, 1746, 1747, 1748, 1749, 1750, 1751, 1752, 1753, 1754, 1755, 1756, 1757, 1758, 1759, 1760, 1761, 1762, 1763, 1764, 1765, 1766, 1767, 1768, 1769, 1770, 1771, 1772, 1773, 1774, 1775, 1776, 1777, 1778, 1779, 1780, 1781, 1782, 1783, 1784, 1785, 1786, 1787, 1788, 1789, 1790, 1791, 1792, 1793, 1794, 1795] (by decide +kernel) (by decide +kernel)
set_option maxRecDepth 20000 in
theorem gL_law_X12_years : GoodIn wsL_law (wsV RL 96 RX12 yX12_years wsX12_years) := goodIn_app (goodIn_of _ (by decide +kernel)) ggL_law_X12_years
set_option maxRecDepth 20000 in
theorem ggL_law_X11_undo : GoodIn wsL_law wsX11_undo := goodIn_r _ [1185, 43, 38, 1186, 1187, 1188, 1189, 42, 1190, 727, 726, 119, 1007, 1008, 1009, 37, 1010, 684, 685, 686, 687, 105, 1011, 677, 678, 679, 106, 107, 108, 109, 110, 111, 112, 113, 1726, 1727, 1728, 1729, 1730, 1731, 1732, 1733, 1734, 1735, 1736, 1737, 1738, 1739, 1740, 1741, 1829, 1830, 1831, 1832, 1833, 1834, 1835, 1816, 1817, 1818, 1819, 1820, 1821, 1822, 1823, 1824, 1825, 1826, 1827, 1828] (by decide +kernel) (by decide +kernel)
set_option maxRecDepth 20000 in
theorem gL_law_X11_undo : GoodIn wsL_law (wsV RL 97 RX11 yX11_undo wsX11_undo) := goodIn_app (goodIn_of _ (by decide +kernel)) ggL_law_X11_undo
set_option maxRecDepth 20000 in
theorem ggL_law_X12_undo : GoodIn wsL_law wsX12_undo := goodIn_r _ [1194, 209, 752, 176, 184, 1742, 1743, 1744, 1745, 1746, 1747, 1748, 1749, 1750, 1751, 1752, 1753, 1754, 1755, 1756, 1757, 1758, 1759, 1760, 1761, 1762, 1763, 1764, 1765, 1766, 1767, 1768, 1769, 1770, 1771, 1772, 1773, 1774, 1775, 1776, 1777, 1778, 1779, 1780, 1781, 1782, 1783, 1784, 1785, 1786, 1787, 1788, 1789, 1790, 1791, 1792, 1793, 1794, 1795] (by decide +kernel) (by decide +kernel)
set_option maxRecDepth 20000 in
theorem gL_law_X12_undo : GoodIn wsL_law (wsV RL 100 RX12 yX12_undo wsX12_undo) := goodIn_app (goodIn_of _ (by decide +kernel)) ggL_law_X12_undo
set_option maxRecDepth 20000 in
theorem ggL_law_X11_log : GoodIn wsL_law wsX11_log := goodIn_r _ [1198, 38, 43, 1199, 1200, 1201, 1202, 37, 1203, 687, 1110, 303, 300, 304, 222, 223, 2, 224, 1204, 1205, 1206, 42, 1207, 120, 1726, 1727, 1728, 1729, 1730, 1731, 1732, 1733, 1734, 1735, 1736, 1737, 1738, 1739, 1740, 1741, 1816, 1817, 1818, 1819, 1820, 1821, 1822, 1823, 1824, 1825, 1826, 1827, 1828, 1829, 1830, 1831, 1832, 1833, 1834, 1835] (by decide +kernel) (by decide +kernel)
set_option maxRecDepth 20000 in
theorem gL_law_X11_log : GoodIn wsL_law (wsV RL 101 RX11 yX11_log wsX11_log) := goodIn_app (goodIn_of _ (by decide +kernel)) ggL_law_X11_log
set_option maxRecDepth 20000 in
theorem ggL_law_X12_log : GoodIn wsL_law wsX12_log := goodIn_r _ [1211, 209, 176, 498, 500, 501, 5, 502, 1742, 1743, 1744, 1745, 1746, 1747, 1748, 1749, 1750, 1751, 1752, 1753, 1754, 1755, 1756, 1757, 1758, 1759, 1760, 1761, 1762, 1763, 1764, 1765, 1766, 1767, 1768, 1769, 1770, 1771, 1772, 1773, 1774, 1775, 1776, 1777, 1778, 1779, 1780, 1781, 1782, 1783, 1784, 1785, 1786, 1787, 1788, 1789, 1790, 1791, 1792, 1793, 1794, 1795] (by decide +kernel) (by decide +kernel)
set_option maxRecDepth 20000 in
theorem gL_law_X12_log : GoodIn wsL_law (wsV RL 104 RX12 yX12_log wsX12_log) := goodIn_app (goodIn_of _ (by decide +kernel)) ggL_law_X12_log
set_option maxRecDepth 20000 in
theorem ggL_law_X11_step : GoodIn wsL_law wsX11_step := goodIn_r _ [1215, 28, 1216, 978, 1217, 1218, 1219, 2, 1220, 233, 222, 223, 224, 1221, 1222, 1223, 30, 1224, 90, 1726, 1727, 1728, 1729, 1730, 1731, 1732, 1733, 1734, 1735, 1736, 1737, 1738, 1739, 1740, 1741, 1808, 1809] (by decide +kernel) (by decide +kernel)
set_option maxRecDepth 20000 in
theorem gL_law_X11_step : GoodIn wsL_law (wsV RL 105 RX11 yX11_step wsX11_step) := goodIn_app (goodIn_of _ (by decide +kernel)) ggL_law_X11_step
set_option maxRecDepth 20000 in
theorem ggL_law_X12_step : GoodIn wsL_law wsX12_step := goodIn_r _ [1228, 209, 175, 1087, 174, 984, 1229, 1230, 1231, 5, 1232, 743, 500, 501, 502, 1742, 1743, 1744, 1745, 1746, 1747, 1748, 1749, 1750, 1751, 1752, 1753, 1754, 1755, 1756, 1757, 1758, 1759, 1760, 1761, 1762, 1763, 1764, 1765, 1766, 1767, 1768, 1769, 1770, 1771, 1772, 1773, 1774, 1775, 1776, 1777, 1778, 1779, 1780, 1781, 1782, 1783, 1784, 1785, 1786, 1787, 1788, 1789, 1790, 1791, 1792, 1793, 1794, 1795] (by decide +kernel) (by decide +kernel)
set_option maxRecDepth 20000 in
theorem gL_law_X12_step : GoodIn wsL_law (wsV RL 108 RX12 yX12_step wsX12_step) := goodIn_app (goodIn_of _ (by decide +kernel)) ggL_law_X12_step
set_option maxRecDepth 20000 in
theorem ggL_law_X11_run : GoodIn wsL_law wsX11_run := goodIn_r _ [1236, 978, 28, 39, 38, 1216, 1217, 1218, 1219, 2, 1220, 233, 765, 766, 767, 768, 21, 671, 222, 223, 224, 1237, 1008, 1009, 37, 1010, 684, 685, 686, 687, 105, 1011, 677, 678, 679, 106, 107, 108, 109, 110, 111, 112, 113, 1238, 1239, 1240, 1241, 1221, 1222, 1223, 30, 1224, 90, 998, 999, 1000, 1001, 942, 943, 946, 947, 948, 949, 950, 1040, 1041, 1042, 1043, 804, 805, 806, 807, 808, 1044, 1045, 1046, 1047, 809, 405, 406, 20, 407, 69, 810, 409, 410, 411, 1012, 831, 832, 833, 834, 835, 300, 836, 1067, 1068, 1069, 1070, 803, 1242, 1243, 1244, 1245, 34, 1101, 1102, 1103, 33, 1104, 95, 819, 827, 1105, 952, 953, 954, 1106, 1107, 1108, 1109, 1110, 303, 304, 1111, 1112, 1113, 1114, 99, 1115, 97, 98, 820, 821, 822, 823, 824, 825, 826, 96, 828, 829, 830, 837, 838, 839, 840, 841, 842, 843, 844, 845, 846, 847, 848, 849, 778, 779, 780, 781, 770, 771, 772, 850, 851, 852, 25, 853, 78, 421, 79, 75, 854, 855, 856, 77, 857, 426, 84, 85, 858, 859, 860, 861, 862, 863, 864, 865, 866, 812, 813, 814, 867, 868, 869, 870, 1116, 774, 775, 776, 1117, 1118, 1119, 1120, 1121, 1122, 1123, 1124, 1125, 1126, 1246, 1247, 1248, 1249, 1048, 1049, 1050, 1051, 1726, 1727, 1728, 1729, 1730, 1731, 1732, 1733, 1734, 1735, 1736, 1737, 1738, 1739, 1740, 1741, 1808, 1809, 1800, 1801, 1802, 1803, 1816, 1817, 1818, 1819, 1820, 1821, 1822, 1823, 1824, 1825, 1826, 1827, 1828, 1810, 1811, 1812, 1813, 1814, 1815, 1804, 1805, 1806, 1807, 1858, 1859, 1860] (by decide +kernel) (by decide +kernel)
set_option maxRecDepth 20000 in
theorem gL_law_X11_run : GoodIn wsL_law (wsV RL 109 RX11 yX11_run wsX11_run) := goodIn_app (goodIn_of _ (by decide +kernel)) ggL_law_X11_run
set_option maxRecDepth 20000 in
theorem ggL_law_X12_run : GoodIn wsL_law wsX12_run := goodIn_r _ [1253, 209, 744, 984, 176, 177, 175, 174, 1229, 1230, 1231, 5, 1232, 743, 500, 501, 502, 1254, 1255, 1256, 1257, 1258, 1259, 1260, 1020, 1021, 1022, 1023, 1024, 961, 962, 963, 964, 745, 905, 906, 907, 1056, 1057, 1058, 1059, 876, 877, 878, 879, 896, 897, 898, 899, 754, 755, 756, 757, 170, 900, 901, 902, 903, 904, 835, 300, 836, 1075, 1076, 1077, 1078, 1137, 1138, 1139, 1140, 1261, 1262, 1263, 1264, 1265, 1266, 1267, 1268, 1029, 1030, 1031, 1060, 1061, 1062, 1141, 1142, 1143, 1144, 182, 168, 888, 889, 890, 891, 172, 1145, 1146, 1147, 916, 303, 304, 917, 299, 301, 1148, 1149, 1150, 1151, 1152, 1153, 1154, 1155, 880, 881, 882, 883, 181, 884, 885, 886, 887, 892, 893, 894, 895, 908, 909, 910, 911, 787, 788, 789, 790, 912, 913, 914, 915, 178, 164, 918, 919, 920, 921, 922, 923, 924, 925, 926, 927, 179, 180, 162, 163, 592, 585, 586, 587, 588, 589, 590, 591, 499, 510, 511, 512, 513, 514, 165, 515, 516, 593, 594, 595, 596, 524, 525, 526, 527, 597, 598, 599, 536, 252, 253, 254, 255, 256, 257, 258, 259, 260, 261, 262, 540, 541, 542, 543, 289, 290, 291, 292, 544, 545, 296, 546, 547, 548, 549, 330, 550, 551, 333, 552, 553, 554, 313, 555, 556, 557, 558, 324, 325, 326, 559, 338, 339, 340, 341, 342, 343, 528, 529, 530, 531, 600, 601, 602, 603, 604, 605, 606, 607, 608, 609, 610, 611, 612, 613, 614, 615, 616, 617, 618, 619, 620, 621, 622, 623, 624, 625, 626, 627, 628, 629, 630, 631, 632, 633, 634, 635, 636, 637, 638, 573, 574, 575, 576, 639, 640, 641, 642, 643, 644, 645, 646, 647, 648, 649, 928, 929, 930, 931, 1156, 1157, 1158, 1159, 183, 1742, 1743, 1744, 1745, 1746, 1747, 1748, 1749, 1750, 1751, 1752, 1753, 1754, 1755, 1756, 1757, 1758, 1759, 1760, 1761, 1762, 1763, 1764, 1765, 1766, 1767, 1768, 1769, 1770, 1771, 1772, 1773, 1774, 1775, 1776, 1777, 1778, 1779, 1780, 1781, 1782, 1783, 1784, 1785, 1786, 1787, 1788, 1789, 1790, 1791, 1792, 1793, 1794, 1795] (by decide +kernel) (by decide +kernel)
set_option maxRecDepth 20000 in
theorem gL_law_X12_run : GoodIn wsL_law (wsV RL 112 RX12 yX12_run wsX12_run) := goodIn_app (goodIn_of _ (by decide +kernel)) ggL_law_X12_run
set_option maxRecDepth 20000 in
theorem ggL_law_X11_perform : GoodIn wsL_law wsX11_perform := goodIn_r _ [1272, 28, 1216, 38, 764, 43, 1217, 1218, 1219, 2, 1220, 233, 765, 766, 767, 768, 21, 671, 1238, 1239, 1240, 1241, 1221, 1222, 1223, 30, 1224, 90, 998, 999, 1000, 1001, 942, 943, 946, 947, 948, 949, 950, 222, 223, 224, 1040, 1041, 1042, 1043, 804, 805, 806, 807, 808, 1044, 1045, 1046, 1047, 809, 405, 406, 20, 407, 69, 810, 409, 410, 411, 1012, 831, 832, 37, 833, 105, 834, 835, 300, 836, 106, 1067, 1068, 1069, 1070, 803, 1002, 1003, 1004, 42, 1005, 119, 726, 727, 1006, 303, 304, 1007, 1008, 1009, 1010, 684, 685, 686, 687, 1011, 677, 678, 679, 107, 108, 109, 110, 111, 112, 113, 1096, 1097, 1098, 1099, 34, 1100, 1101, 1102, 1103, 33, 1104, 95, 819, 827, 1105, 952, 953, 954, 1106, 1107, 1108, 1109, 1110, 1111, 1112, 1113, 1114, 99, 1115, 97, 98, 820, 821, 822, 823, 824, 825, 826, 96, 828, 829, 830, 837, 838, 839, 840, 841, 842, 843, 844, 845, 846, 847, 848, 849, 778, 779, 780, 781, 770, 771, 772, 850, 851, 852, 25, 853, 78, 421, 79, 75, 854, 855, 856, 77, 857, 426, 84, 85, 858, 859, 860, 861, 862, 863, 864, 865, 866, 812, 813, 814, 867, 868, 869, 870, 1116, 774, 775, 776, 1117, 1118, 1119, 1120, 1121, 1122, 1123, 1124, 1125, 1126, 1127, 1128, 1129, 1130, 120, 1131, 1132, 1246, 1247, 1248, 1249, 1048, 1049, 1050, 1051, 1726, 1727, 1728, 1729, 1730, 1731, 1732, 1733, 1734, 1735, 1736, 1737, 1738, 1739, 1740, 1741, 1808, 1809, 1816, 1817, 1818, 1819, 1820, 1821, 1822, 1823, 1824, 1825, 1826, 1827, 1828, 1800, 1801, 1802, 1803, 1829, 1830, 1831, 1832, 1833, 1834, 1835, 1810, 1811, 1812, 1813, 1814, 1815, 1804, 1805, 1806, 1807, 1858, 1859, 1860] (by decide +kernel) (by decide +kernel)
set_option maxRecDepth 20000 in
theorem gL_law_X11_perform : GoodIn wsL_law (wsV RL 113 RX11 yX11_perform wsX11_perform) := goodIn_app (goodIn_of _ (by decide +kernel)) ggL_law_X11_perform
set_option maxRecDepth 20000 in
theorem ggL_law_X12_perform : GoodIn wsL_law wsX12_perform := goodIn_r _ [1276, 209, 744, 175, 176, 1229, 1230, 1231, 5, 1232, 743, 1257, 1258, 1259, 1260, 174, 1020, 1021, 1022, 1023, 1024, 961, 962, 963, 964, 745, 500, 501, 502, 905, 906, 907, 1056, 1057, 1058, 1059, 876, 877, 878, 879, 896, 897, 898, 899, 754, 755, 756, 757, 170, 900, 901, 902, 903, 904, 835, 300, 836, 1075, 1076, 1077, 1078, 1137, 1138, 1139, 1140, 1261, 1262, 1263, 1264, 1025, 1026, 1027, 1028, 752, 184, 1265, 1266, 1267, 1268, 1029, 1030, 1031, 1060, 1061, 1062, 1141, 1142, 1143, 1144, 182, 168, 888, 889, 890, 891, 172, 1145, 1146, 1147, 916, 303, 304, 917, 299, 301, 1148, 1149, 1150, 1151, 1152, 1153, 1154, 1155, 880, 881, 882, 883, 181, 884, 885, 886, 887, 892, 893, 894, 895, 908, 909, 910, 911, 787, 788, 789, 790, 912, 913, 914, 915, 178, 164, 918, 919, 920, 921, 922, 923, 924, 925, 926, 927, 179, 180, 162, 163, 592, 585, 586, 587, 588, 589, 590, 591, 499, 510, 511, 512, 513, 514, 165, 515, 516, 593, 594, 595, 596, 524, 525, 526, 527, 597, 598, 599, 536, 252, 253, 254, 255, 256, 257, 258, 259, 260, 261, 262, 540, 541, 542, 543, 289, 290, 291, 292, 544, 545, 296, 546, 547, 548, 549, 330, 550, 551, 333, 552, 553, 554, 313, 555, 556, 557, 558, 324, 325, 326, 559, 338, 339, 340, 341, 342, 343, 528, 529, 530, 531, 600, 601, 602, 603, 604, 605, 606, 607, 608, 609, 610, 611, 612, 613, 614, 615, 616, 617, 618, 619, 620, 621, 622, 623, 624, 625, 626, 627, 628, 629, 630, 631, 632, 633, 634, 635, 636, 637, 638, 573, 574, 575, 576, 639, 640, 641, 642, 643, 644, 645, 646, 647, 648, 649, 928, 929, 930, 931, 1156, 1157, 1158, 1159, 183, 1742, 1743, 1744, 1745, 1746, 1747, 1748, 1749, 1750, 1751, 1752, 1753, 1754, 1755, 1756, 1757, 1758, 1759, 1760, 1761, 1762, 1763, 1764, 1765, 1766, 1767, 1768, 1769, 1770, 1771, 1772, 1773, 1774, 1775, 1776, 1777, 1778, 1779, 1780, 1781, 1782, 1783, 1784, 1785, 1786, 1787, 1788, 1789, 1790, 1791, 1792, 1793, 1794, 1795] (by decide +kernel) (by decide +kernel)
set_option maxRecDepth 20000 in
theorem gL_law_X12_perform : GoodIn wsL_law (wsV RL 116 RX12 yX12_perform wsX12_perform) := goodIn_app (goodIn_of _ (by decide +kernel)) ggL_law_X12_perform
set_option maxRecDepth 20000 in
theorem ggL_law_X11_votes : GoodIn wsL_law wsX11_votes := goodIn_r _ [1280, 34, 38, 1100, 946, 947, 948, 2, 949, 21, 950, 1281, 1112, 1113, 33, 1114, 99, 95, 1115, 819, 97, 98, 820, 821, 822, 823, 824, 825, 826, 96, 827, 828, 405, 406, 20, 407, 69, 829, 409, 410, 411, 830, 831, 832, 37, 833, 105, 834, 835, 300, 836, 106, 837, 838, 839, 840, 841, 842, 843, 844, 845, 846, 847, 848, 849, 778, 779, 780, 781, 770, 771, 772, 850, 851, 852, 25, 853, 78, 421, 79, 75, 854, 855, 856, 77, 857, 426, 84, 85, 858, 859, 860, 861, 862, 863, 864, 865, 866, 812, 813, 814, 867, 868, 869, 870, 1726, 1727, 1728, 1729, 1730, 1731, 1732, 1733, 1734, 1735, 1736, 1737, 1738, 1739, 1740, 1741, 1810, 1811, 1812, 1813, 1814, 1815, 1800, 1801, 1802, 1803, 1816, 1817, 1818, 1819, 1820, 1821, 1822, 1823, 1824, 1825, 1826, 1827, 1828, 1804, 1805, 1806, 1807, 1858, 1859, 1860] (by decide +kernel) (by decide +kernel)
set_option maxRecDepth 20000 in
theorem gL_law_X11_votes : GoodIn wsL_law (wsV RL 117 RX11 yX11_votes wsX11_votes) := goodIn_app (goodIn_of _ (by decide +kernel)) ggL_law_X11_votes
set_option maxRecDepth 20000 in
theorem ggL_law_X12_votes : GoodIn wsL_law wsX12_votes := goodIn_r _ [1285, 209, 176, 961, 962, 963, 5, 964, 745, 1152, 1153, 1154, 1155, 744, 880, 881, 882, 883, 181, 884, 885, 886, 887, 888, 889, 890, 891, 172, 892, 893, 894, 895, 896, 897, 898, 899, 754, 755, 756, 757, 170, 900, 901, 902, 903, 904, 835, 300, 836, 905, 906, 907, 908, 909, 910, 911, 787, 788, 789, 790, 168, 912, 913, 914, 915, 178, 164, 916, 303, 304, 917, 299, 301, 918, 919, 920, 921, 922, 923, 924, 925, 926, 927, 179, 180, 162, 163, 592, 585, 586, 587, 588, 589, 590, 591, 499, 510, 511, 512, 513, 514, 165, 515, 516, 593, 594, 595, 596, 524, 525, 526, 527, 597, 598, 599, 536, 252, 253, 254, 255, 256, 257, 258, 259, 260, 261, 262, 540, 541, 542, 543, 289, 290, 291, 292, 544, 545, 296, 546, 547, 548, 549, 330, 550, 551, 333, 552, 553, 554, 313, 555, 556, 557, 558, 324, 325, 326, 559, 338, 339, 340, 341, 342, 343, 528, 529, 530, 531, 600, 601, 602, 603, 604, 605, 606, 607, 608, 609, 610, 611, 612, 613, 614, 615, 616, 617, 618, 619, 620, 621, 622, 623, 624, 625, 626, 627, 628, 629, 630, 631, 632, 633, 634, 635, 636, 637, 638, 573, 574, 575, 576, 639, 640, 641, 642, 643, 644, 645, 646, 647, 648, 649, 928, 929, 930, 931, 1742, 1743, 1744, 1745, 1746, 1747, 1748, 1749, 1750, 1751, 1752, 1753, 1754, 1755, 1756, 1757, 1758, 1759, 1760, 1761, 1762, 1763, 1764, 1765, 1766, 1767, 1768, 1769, 1770, 1771, 1772, 1773, 1774, 1775, 1776, 1777, 1778, 1779, 1780, 1781, 1782, 1783, 1784, 1785, 1786, 1787, 1788, 1789, 1790, 1791, 1792, 1793, 1794, 1795] (by decide +kernel) (by decide +kernel)
set_option maxRecDepth 20000 in
theorem gL_law_X12_votes : GoodIn wsL_law (wsV RL 120 RX12 yX12_votes wsX12_votes) := goodIn_app (goodIn_of _ (by decide +kernel)) ggL_law_X12_votes
set_option maxRecDepth 20000 in
theorem ggL_law_X11_leader : GoodIn wsL_law wsX11_leader := goodIn_r _ [1289, 34, 38, 765, 766, 767, 2, 768, 21, 671, 1281, 1112, 1113, 33, 1114, 99, 95, 1115, 819, 97, 98, 820, 821, 822, 823, 824, 825, 826, 96, 827, 828, 405, 406, 20, 407, 69, 829, 409, 410, 411, 830, 831, 832, 37, 833, 105, 834, 835, 300, 836, 106, 837, 838, 839, 840, 841, 842, 843, 844, 845, 846, 847, 848, 849, 778, 779, 780, 781, 770, 771, 772, 850, 851, 852, 25, 853, 78, 421, 79, 75, 854, 855, 856, 77, 857, 426, 84, 85, 858, 859, 860, 861, 862, 863, 864, 865, 866, 812, 813, 814, 867, 868, 869, 870, 1290, 1124, 1125, 1126, 1726, 1727, 1728, 1729, 1730, 1731, 1732, 1733, 1734, 1735, 1736, 1737, 1738, 1739, 1740, 1741, 1800, 1801, 1802, 1803, 1810, 1811, 1812, 1813, 1814, 1815, 1816, 1817, 1818, 1819, 1820, 1821, 1822, 1823, 1824, 1825, 1826, 1827, 1828, 1804, 1805, 1806, 1807, 1858, 1859, 1860] (by decide +kernel) (by decide +kernel)
set_option maxRecDepth 20000 in
theorem gL_law_X11_leader : GoodIn wsL_law (wsV RL 121 RX11 yX11_leader wsX11_leader) := goodIn_app (goodIn_of _ (by decide +kernel)) ggL_law_X11_leader
set_option maxRecDepth 20000 in
theorem ggL_law_X12_leader : GoodIn wsL_law wsX12_leader := goodIn_r _ [1294, 209, 744, 176, 1148, 1149, 1150, 5, 1151, 182, 745, 1152, 1153, 1154, 1155, 880, 881, 882, 883, 181, 884, 885, 886, 887, 888, 889, 890, 891, 172, 892, 893, 894, 895, 896, 897, 898, 899, 754, 755, 756, 757, 170, 900, 901, 902, 903, 904, 835, 300, 836, 905, 906, 907, 908, 909, 910, 911, 787, 788, 789, 790, 168, 912, 913, 914, 915, 178, 164, 916, 303, 304, 917, 299, 301, 918, 919, 920, 921, 922, 923, 924, 925, 926, 927, 179, 180, 162, 163, 592, 585, 586, 587, 588, 589, 590, 591, 499, 510, 511, 512, 513, 514, 165, 515, 516, 593, 594, 595, 596, 524, 525, 526, 527, 597, 598, 599, 536, 252, 253, 254, 255, 256, 257, 258, 259, 260, 261, 262, 540, 541, 542, 543, 289, 290, 291, 292, 544, 545, 296, 546, 547, 548, 549, 330, 550, 551, 333, 552, 553, 554, 313, 555, 556, 557, 558, 324, 325, 326, 559, 338, 339, 340, 341, 342, 343, 528, 529, 530, 531, 600, 601, 602, 603, 604, 605, 606, 607, 608, 609, 610, 611, 612, 613, 614, 615, 616, 617, 618, 619, 620, 621, 622, 623, 624, 625, 626, 627, 628, 629, 630, 631, 632, 633, 634, 635, 636, 637, 638, 573, 574, 575, 576, 639, 640, 641, 642, 643, 644, 645, 646, 647, 648, 649, 928, 929, 930, 931, 1742, 1743, 1744, 1745, 1746, 1747, 1748, 1749, 1750, 1751, 1752, 1753, 1754, 1755, 1756, 1757, 1758, 1759, 1760, 1761, 1762, 1763, 1764, 1765, 1766, 1767, 1768, 1769, 1770, 1771, 1772, 1773, 1774, 1775, 1776, 1777, 1778, 1779, 1780, 1781, 1782, 1783, 1784, 1785, 1786, 1787, 1788, 1789, 1790, 1791, 1792, 1793, 1794, 1795] (by decide +kernel) (by decide +kernel)
set_option maxRecDepth 20000 in
theorem gL_law_X12_leader : GoodIn wsL_law (wsV RL 124 RX12 yX12_leader wsX12_leader) := goodIn_app (goodIn_of _ (by decide +kernel)) ggL_law_X12_leader
set_option maxRecDepth 20000 in
theorem ggL_law_X11_ahead : GoodIn wsL_law wsX11_ahead := goodIn_r _ [1298, 978, 39, 38, 34, 805, 806, 807, 2, 808, 21, 671, 222, 223, 224, 1237, 1008, 1009, 37, 1010, 684, 685, 686, 687, 105, 1011, 677, 678, 679, 106, 107, 108, 109, 110, 111, 112, 113, 1242, 1243, 1244, 1245, 1101, 1102, 1103, 33, 1104, 95, 819, 827, 1105, 952, 953, 20, 954, 69, 1106, 1107, 1108, 1109, 834, 835, 300, 836, 1110, 303, 304, 1111, 1112, 1113, 1114, 99, 1115, 97, 98, 820, 821, 822, 823, 824, 825, 826, 96, 828, 405, 406, 407, 829, 409, 410, 411, 830, 831, 832, 833, 837, 838, 839, 840, 841, 842, 843, 844, 845, 846, 847, 848, 849, 778, 779, 780, 781, 770, 771, 772, 850, 851, 852, 25, 853, 78, 421, 79, 75, 854, 855, 856, 77, 857, 426, 84, 85, 858, 859, 860, 861, 862, 863, 864, 865, 866, 812, 813, 814, 867, 868, 869, 870, 1116, 774, 775, 776, 1117, 1118, 1119, 1120, 1121, 1122, 1123, 1124, 1125, 1126, 815, 816, 817, 818, 1726, 1727, 1728, 1729, 1730, 1731, 1732, 1733, 1734, 1735, 1736, 1737, 1738, 1739, 1740, 1741, 1800, 1801, 1802, 1803, 1816, 1817, 1818, 1819, 1820, 1821, 1822, 1823, 1824, 1825, 1826, 1827, 1828, 1810, 1811, 1812, 1813, 1814, 1815, 1804, 1805, 1806, 1807, 1858, 1859, 1860] (by decide +kernel) (by decide +kernel)
set_option maxRecDepth 20000 in
theorem gL_law_X11_ahead : GoodIn wsL_law (wsV RL 125 RX11 yX11_ahead wsX11_ahead) := goodIn_app (goodIn_of _ (by decide +kernel)) ggL_law_X11_ahead
set_option maxRecDepth 20000 in
theorem ggL_law_X12_ahead : GoodIn wsL_law wsX12_ahead := goodIn_r _ [1302, 209, 1303, 984, 176, 177, 876, 877, 878, 5, 879, 744, 500, 501, 502, 1254, 1255, 1256, 1141, 1142, 1143, 1144, 745, 904, 835, 300, 836, 182, 168, 888, 889, 890, 891, 172, 1145, 1146, 1147, 916, 303, 304, 917, 299, 301, 1148, 1149, 1150, 1151, 1152, 1153, 1154, 1155, 880, 881, 882, 883, 181, 884, 885, 886, 887, 892, 893, 894, 895, 896, 897, 898, 899, 754, 755, 756, 757, 170, 900, 901, 902, 903, 905, 906, 907, 908, 909, 910, 911, 787, 788, 789, 790, 912, 913, 914, 915, 178, 164, 918, 919, 920, 921, 922, 923, 924, 925, 926, 927, 179, 180, 162, 163, 592, 585, 586, 587, 588, 589, 590, 591, 499, 510, 511, 512, 513, 514, 165, 515, 516, 593, 594, 595, 596, 524, 525, 526, 527, 597, 598, 599, 536, 252, 253, 254, 255, 256, 257, 258, 259, 260, 261, 262, 540, 541, 542, 543, 289, 290, 291, 292, 544, 545, 296, 546, 547, 548, 549, 330, 550, 551, 333, 552, 553, 554, 313, 555, 556, 557, 558, 324, 325, 326, 559, 338, 339, 340, 341, 342, 343, 528, 529, 530, 531, 600, 601, 602, 603, 604, 605, 606, 607, 608, 609, 610, 611, 612, 613, 614, 615, 616, 617, 618, 619, 620, 621, 622, 623, 624, 625, 626, 627, 628, 629, 630, 631, 632, 633, 634, 635, 636, 637, 638, 573, 574, 575, 576, 639, 640, 641, 642, 643, 644, 645, 646, 647, 648, 649, 928, 929, 930, 931, 1156, 1157, 1158, 1159, 183, 1742, 1743, 1744, 1745, 1746, 1747, 1748, 1749, 1750, 1751, 1752, 1753, 1754, 1755, 1756, 1757, 1758, 1759, 1760, 1761, 1762, 1763, 1764, 1765, 1766, 1767, 1768, 1769, 1770, 1771, 1772, 1773, 1774, 1775, 1776, 1777, 1778, 1779, 1780, 1781, 1782, 1783, 1784, 1785, 1786, 1787, 1788, 1789, 1790, 1791, 1792, 1793, 1794, 1795] (by decide +kernel) (by decide +kernel)
set_option maxRecDepth 20000 in
theorem gL_law_X12_ahead : GoodIn wsL_law (wsV RL 128 RX12 yX12_ahead wsX12_ahead) := goodIn_app (goodIn_of _ (by decide +kernel)) ggL_law_X12_ahead
set_option maxRecDepth 20000 in
theorem ggL_law_X11_soon : GoodIn wsL_law wsX11_soon := goodIn_r _ [1307, 38, 21, 946, 947, 948, 2, 949, 950, 805, 806, 807, 808, 671, 809, 405, 406, 20, 407, 69, 810, 409, 410, 411, 1012, 831, 832, 37, 833, 105, 834, 835, 300, 836, 106, 951, 952, 953, 954, 1013, 1014, 1015, 1726, 1727, 1728, 1729, 1730, 1731, 1732, 1733, 1734, 1735, 1736, 1737, 1738, 1739, 1740, 1741, 1800, 1801, 1802, 1803, 1816, 1817, 1818, 1819, 1820, 1821, 1822, 1823, 1824, 1825, 1826, 1827, 1828] (by decide +kernel) (by decide +kernel)
set_option maxRecDepth 20000 in
theorem gL_law_X11_soon : GoodIn wsL_law (wsV RL 129 RX11 yX11_soon wsX11_soon) := goodIn_app (goodIn_of _ (by decide +kernel)) ggL_law_X11_soon
set_option maxRecDepth 20000 in
theorem ggL_law_X12_soon : GoodIn wsL_law wsX12_soon := goodIn_r _ [1311, 209, 176, 961, 962, 963, 5, 964, 745, 876, 877, 878, 879, 744, 896, 897, 898, 899, 754, 755, 756, 757, 170, 900, 901, 902, 903, 904, 835, 300, 836, 905, 906, 907, 1032, 1033, 1034, 1035, 888, 889, 890, 891, 172, 1742, 1743, 1744, 1745, 1746, 1747, 1748, 1749, 1750, 1751, 1752, 1753, 1754, 1755, 1756, 1757, 1758, 1759, 1760, 1761, 1762, 1763, 1764, 1765, 1766, 1767, 1768, 1769, 1770, 1771, 1772, 1773, 1774, 1775, 1776, 1777, 1778, 1779, 1780, 1781, 1782, 1783, 1784, 1785, 1786, 1787, 1788, 1789, 1790, 1791, 1792, 1793, 1794, 1795] (by decide +kernel) (by decide +kernel)
set_option maxRecDepth 20000 in
theorem gL_law_X12_soon : GoodIn wsL_law (wsV RL 132 RX12 yX12_soon wsX12_soon) := goodIn_app (goodIn_of _ (by decide +kernel)) ggL_law_X12_soon
set_option maxRecDepth 20000 in
theorem ggL_law_X11_round : GoodIn wsL_law wsX11_round := goodIn_r _ [1315, 21, 671, 55, 38, 946, 947, 948, 2, 949, 950, 222, 223, 224, 1316, 1317, 1318, 54, 1319, 152, 1320, 153, 154, 155, 1321, 952, 953, 20, 954, 69, 1322, 405, 406, 407, 1323, 409, 410, 411, 1324, 831, 832, 37, 833, 105, 834, 835, 300, 836, 106, 1014, 1015, 1325, 1326, 1327, 1328, 1329, 1330, 1331, 1332, 1333, 1334, 1335, 1336, 1337, 1338, 1339, 1340, 1341, 1342, 1343, 1344, 1345, 1346, 1726, 1727, 1728, 1729, 1730, 1731, 1732, 1733, 1734, 1735, 1736, 1737, 1738, 1739, 1740, 1741, 1800, 1801, 1802, 1803, 1854, 1855, 1856, 1857, 1816, 1817, 1818, 1819, 1820, 1821, 1822, 1823, 1824, 1825, 1826, 1827, 1828] (by decide +kernel) (by decide +kernel)
set_option maxRecDepth 20000 in
theorem gL_law_X11_round : GoodIn wsL_law (wsV RL 133 RX11 yX11_round wsX11_round) := goodIn_app (goodIn_of _ (by decide +kernel)) ggL_law_X11_round
set_option maxRecDepth 20000 in
theorem ggL_law_X12_round : GoodIn wsL_law wsX12_round := goodIn_r _ [1350, 209, 744, 1351, 1352, 176, 961, 962, 963, 5, 964, 745, 500, 501, 502, 905, 906, 907, 1353, 1354, 1355, 1356, 904, 835, 300, 836, 560, 561, 562, 754, 755, 756, 757, 170, 1032, 1033, 1034, 1035, 888, 889, 890, 891, 172, 1742, 1743, 1744, 1745, 1746, 1747, 1748, 1749, 1750, 1751, 1752, 1753, 1754, 1755, 1756, 1757, 1758, 1759, 1760, 1761, 1762, 1763, 1764, 1765, 1766, 1767, 1768, 1769, 1770, 1771, 1772, 1773, 1774, 1775, 1776, 1777, 1778, 1779, 1780, 1781, 1782, 1783, 1784, 1785, 1786, 1787, 1788, 1789, 1790, 1791, 1792, 1793, 1794, 1795] (by decide +kernel) (by decide +kernel)
set_option maxRecDepth 20000 in
theorem gL_law_X12_round : GoodIn wsL_law (wsV RL 136 RX12 yX12_round wsX12_round) := goodIn_app (goodIn_of _ (by decide +kernel)) ggL_law_X12_round
set_option maxRecDepth 20000 in
theorem ggL_law_X11_best : GoodIn wsL_law wsX11_best := goodIn_r _ [1360, 39, 38, 34, 940, 941, 946, 947, 948, 2, 949, 21, 950, 222, 223, 224, 1237, 1008, 1009, 37, 1010, 684, 685, 686, 687, 105, 1011, 677, 678, 679, 106, 107, 108, 109, 110, 111, 112, 113, 1361, 1362, 1363, 33, 1364, 95, 1115, 100, 1365, 1366, 1367, 1368, 819, 1369, 299, 300, 301, 866, 812, 813, 20, 814, 69, 820, 821, 822, 823, 824, 825, 826, 96, 827, 828, 405, 406, 407, 829, 409, 410, 411, 830, 831, 832, 833, 834, 835, 836, 837, 838, 839, 840, 841, 842, 843, 844, 845, 846, 847, 848, 849, 778, 779, 780, 781, 770, 771, 772, 850, 851, 852, 25, 853, 78, 421, 79, 75, 854, 855, 856, 77, 857, 426, 84, 85, 858, 859, 860, 861, 862, 863, 864, 865, 1370, 1371, 1372, 1373, 1726, 1727, 1728, 1729, 1730, 1731, 1732, 1733, 1734, 1735, 1736, 1737, 1738, 1739, 1740, 1741, 1816, 1817, 1818, 1819, 1820, 1821, 1822, 1823, 1824, 1825, 1826, 1827, 1828, 1800, 1801, 1802, 1803, 1810, 1811, 1812, 1813, 1814, 1815, 1804, 1805, 1806, 1807, 1858, 1859, 1860] (by decide +kernel) (by decide +kernel)
set_option maxRecDepth 20000 in
theorem gL_law_X11_best : GoodIn wsL_law (wsV RL 137 RX11 yX11_best wsX11_best) := goodIn_app (goodIn_of _ (by decide +kernel)) ggL_law_X11_best
set_option maxRecDepth 20000 in
theorem ggL_law_X12_best : GoodIn wsL_law wsX12_best := goodIn_r _ [1377, 209, 176, 177, 961, 962, 963, 5, 964, 745, 500, 501, 502, 1254, 1255, 1256, 1378, 1379, 1380, 1152, 1153, 1154, 1155, 744, 880, 881, 882, 883, 181, 884, 885, 886, 887, 888, 889, 890, 891, 172, 892, 893, 894, 895, 896, 897, 898, 899, 754, 755, 756, 757, 170, 900, 901, 902, 903, 904, 835, 300, 836, 905, 906, 907, 908, 909, 910, 911, 787, 788, 789, 790, 168, 912, 913, 914, 915, 178, 164, 916, 303, 304, 917, 299, 301, 918, 919, 920, 921, 922, 923, 924, 925, 926, 927, 179, 180, 162, 163, 592, 585, 586, 587, 588, 589, 590, 591, 499, 510, 511, 512, 513, 514, 165, 515, 516, 593, 594, 595, 596, 524, 525, 526, 527, 597, 598, 599, 536, 252, 253, 254, 255, 256, 257, 258, 259, 260, 261, 262, 540, 541, 542, 543, 289, 290, 291, 292, 544, 545, 296, 546, 547, 548, 549, 330, 550, 551, 333, 552, 553, 554, 313, 555, 556, 557, 558, 324, 325, 326, 559, 338, 339, 340, 341, 342, 343, 528, 529, 530, 531, 600, 601, 602, 603, 604, 605, 606, 607, 608, 609, 610, 611, 612, 613, 614, 615, 616, 617, 618, 619, 620, 621, 622, 623, 624, 625, 626, 627, 628, 629, 630, 631, 632, 633, 634, 635, 636, 637, 638, 573, 574, 575, 576, 639, 640, 641, 642, 643, 644, 645, 646, 647, 648, 649, 928, 929, 930, 931, 1742, 1743, 1744, 1745, 1746, 1747, 1748, 1749, 1750, 1751, 1752, 1753, 1754, 1755, 1756, 1757, 1758, 1759, 1760, 1761, 1762, 1763, 1764, 1765, 1766, 1767, 1768, 1769, 1770, 1771, 1772, 1773, 1774, 1775, 1776, 1777, 1778, 1779, 1780, 1781, 1782, 1783, 1784, 1785, 1786, 1787, 1788, 1789, 1790, 1791, 1792, 1793, 1794, 1795] (by decide +kernel) (by decide +kernel)
set_option maxRecDepth 20000 in
theorem gL_law_X12_best : GoodIn wsL_law (wsV RL 140 RX12 yX12_best wsX12_best) := goodIn_app (goodIn_of _ (by decide +kernel)) ggL_law_X12_best
set_option maxRecDepth 20000 in
theorem ggL_law_X11_game : GoodIn wsL_law wsX11_game := goodIn_r _ [1384, 39, 38, 21, 34, 1100, 1385, 1386, 1387, 2, 1388, 946, 947, 948, 949, 950, 805, 806, 807, 808, 671, 222, 223, 224, 1237, 1008, 1009, 37, 1010, 684, 685, 686, 687, 105, 1011, 677, 678, 679, 106, 107, 108, 109, 110, 111, 112, 113, 809, 405, 406, 20, 407, 69, 810, 409, 410, 411, 1389, 707, 708, 709, 1281, 1112, 1113, 33, 1114, 99, 95, 1115, 819, 97, 98, 820, 821, 822, 823, 824, 825, 826, 96, 827, 828, 829, 830, 831, 832, 833, 834, 835, 300, 836, 837, 838, 839, 840, 841, 842, 843, 844, 845, 846, 847, 848, 849, 778, 779, 780, 781, 770, 771, 772, 850, 851, 852, 25, 853, 78, 421, 79, 75, 854, 855, 856, 77, 857, 426, 84, 85, 858, 859, 860, 861, 862, 863, 864, 865, 866, 812, 813, 814, 867, 868, 869, 870, 1726, 1727, 1728, 1729, 1730, 1731, 1732, 1733, 1734, 1735, 1736, 1737, 1738, 1739, 1740, 1741, 1810, 1811, 1812, 1813, 1814, 1815, 1800, 1801, 1802, 1803, 1816, 1817, 1818, 1819, 1820, 1821, 1822, 1823, 1824, 1825, 1826, 1827, 1828, 1804, 1805, 1806, 1807, 1858, 1859, 1860] (by decide +kernel) (by decide +kernel)
set_option maxRecDepth 20000 in
theorem gL_law_X11_game : GoodIn wsL_law (wsV RL 141 RX11 yX11_game wsX11_game) := goodIn_app (goodIn_of _ (by decide +kernel)) ggL_law_X11_game
set_option maxRecDepth 20000 in
theorem ggL_law_X12_game : GoodIn wsL_law wsX12_game := goodIn_r _ [1393, 209, 1394, 1395, 1396, 5, 1397, 961, 962, 963, 964, 745, 876, 877, 878, 879, 744, 500, 501, 502, 1398, 1399, 1400, 1401, 177, 1402, 1403, 1404, 1405, 176, 1254, 1255, 1256, 754, 755, 756, 757, 170, 1378, 1379, 1380, 1152, 1153, 1154, 1155, 880, 881, 882, 883, 181, 884, 885, 886, 887, 888, 889, 890, 891, 172, 892, 893, 894, 895, 896, 897, 898, 899, 900, 901, 902, 903, 904, 835, 300, 836, 905, 906, 907, 908, 909, 910, 911, 787, 788, 789, 790, 168, 912, 913, 914, 915, 178, 164, 916, 303, 304, 917, 299, 301, 918, 919, 920, 921, 922, 923, 924, 925, 926, 927, 179, 180, 162, 163, 592, 585, 586, 587, 588, 589, 590, 591, 499, 510, 511, 512, 513, 514, 165, 515, 516, 593, 594, 595, 596, 524, 525, 526, 527, 597, 598, 599, 536, 252, 253, 254, 255, 256, 257, 258, 259, 260, 261, 262, 540, 541, 542, 543, 289, 290, 291, 292, 544, 545, 296, 546, 547, 548, 549, 330, 550, 551, 333, 552, 553, 554, 313, 555, 556, 557, 558, 324, 325, 326, 559, 338, 339, 340, 341, 342, 343, 528, 529, 530, 531, 600, 601, 602, 603, 604, 605, 606, 607, 608, 609, 610, 611, 612, 613, 614, 615, 616, 617, 618, 619, 620, 621, 622, 623, 624, 625, 626, 627, 628, 629, 630, 631, 632, 633, 634, 635, 636, 637, 638, 573, 574, 575, 576, 639, 640, 641, 642, 643, 644, 645, 646, 647, 648, 649, 928, 929, 930, 931, 1742, 1743, 1744, 1745, 1746, 1747, 1748, 1749, 1750, 1751, 1752, 1753, 1754, 1755, 1756, 1757, 1758, 1759, 1760, 1761, 1762, 1763, 1764, 1765, 1766, 1767, 1768, 1769, 1770, 1771, 1772, 1773, 1774, 1775, 1776, 1777, 1778, 1779, 1780, 1781, 1782, 1783, 1784, 1785, 1786, 1787, 1788, 1789, 1790, 1791, 1792, 1793, 1794, 1795] (by decide +kernel) (by decide +kernel)
set_option maxRecDepth 20000 in
theorem gL_law_X12_game : GoodIn wsL_law (wsV RL 144 RX12 yX12_game wsX12_game) := goodIn_app (goodIn_of _ (by decide +kernel)) ggL_law_X12_game
set_option maxRecDepth 20000 in
theorem ggL_law_X11_rests : GoodIn wsL_law wsX11_rests := goodIn_r _ [1409, 39, 38, 51, 21, 671, 1385, 1386, 1387, 2, 1388, 946, 947, 948, 949, 950, 1237, 1008, 1009, 37, 1010, 684, 685, 686, 687, 105, 1011, 677, 678, 679, 106, 107, 108, 109, 110, 111, 112, 113, 1410, 1411, 1412, 50, 1413, 144, 145, 146, 147, 142, 1414, 143, 1415, 1416, 1417, 1418, 1419, 1420, 405, 406, 20, 407, 69, 1421, 409, 410, 411, 1422, 707, 708, 709, 1423, 821, 822, 33, 823, 824, 825, 826, 95, 96, 827, 828, 829, 830, 831, 832, 833, 834, 835, 300, 836, 837, 838, 839, 840, 841, 842, 843, 844, 845, 846, 847, 848, 849, 778, 779, 780, 781, 770, 771, 772, 850, 851, 852, 25, 853, 78, 421, 79, 75, 854, 855, 856, 77, 857, 426, 84, 85, 858, 859, 860, 861, 862, 863, 864, 865, 1424, 816, 817, 818, 819, 97, 820, 866, 812, 813, 814, 867, 868, 869, 870, 1425, 1426, 1427, 1428, 1429, 1430, 1726, 1727, 1728, 1729, 1730, 1731, 1732, 1733, 1734, 1735, 1736, 1737, 1738, 1739, 1740, 1741, 1800, 1801, 1802, 1803, 1816, 1817, 1818, 1819, 1820, 1821, 1822, 1823, 1824, 1825, 1826, 1827, 1828, 1848, 1849, 1850, 1851, 1852, 1853, 1810, 1811, 1812, 1813, 1814, 1815, 1804, 1805, 1806, 1807, 1858, 1859, 1860] (by decide +kernel) (by decide +kernel)
set_option maxRecDepth 20000 in
theorem gL_law_X11_rests : GoodIn wsL_law (wsV RL 145 RX11 yX11_rests wsX11_rests) := goodIn_app (goodIn_of _ (by decide +kernel)) ggL_law_X11_rests
set_option maxRecDepth 20000 in
theorem ggL_law_X12_rests : GoodIn wsL_law wsX12_rests := goodIn_r _ [1434, 209, 744, 1394, 1395, 1396, 5, 1397, 961, 962, 963, 964, 745, 1435, 1436, 1437, 1438, 185, 177, 1402, 1403, 1404, 1405, 176, 1254, 1255, 1256, 754, 755, 756, 757, 170, 1378, 1379, 1380, 1152, 1153, 1154, 1155, 880, 881, 882, 883, 181, 884, 885, 886, 887, 888, 889, 890, 891, 172, 892, 893, 894, 895, 896, 897, 898, 899, 900, 901, 902, 903, 904, 835, 300, 836, 905, 906, 907, 908, 909, 910, 911, 787, 788, 789, 790, 168, 912, 913, 914, 915, 178, 164, 916, 303, 304, 917, 299, 301, 918, 919, 920, 921, 922, 923, 924, 925, 926, 927, 179, 180, 162, 163, 592, 585, 586, 587, 588, 589, 590, 591, 499, 510, 511, 512, 513, 514, 165, 515, 516, 593, 594, 595, 596, 524, 525, 526, 527, 597, 598, 599, 536, 252, 253, 254, 255, 256, 257, 258, 259, 260, 261, 262, 540, 541, 542, 543, 289, 290, 291, 292, 544, 545, 296, 546, 547, 548, 549, 330, 550, 551, 333, 552, 553, 554, 313, 555, 556, 557, 558, 324, 325, 326, 559, 338, 339, 340, 341, 342, 343, 528, 529, 530, 531, 600, 601, 602, 603, 604, 605, 606, 607, 608, 609, 610, 611, 612, 613, 614, 615, 616, 617, 618, 619, 620, 621, 622, 623, 624, 625, 626, 627, 628, 629, 630, 631, 632, 633, 634, 635, 636, 637, 638, 573, 574, 575, 576, 639, 640, 641, 642, 643, 644, 645, 646, 647, 648, 649, 928, 929, 930, 931, 1439, 1440, 1441, 1442, 1443, 1444, 1445, 1446, 1742, 1743, 1744, 1745, 1746, 1747, 1748, 1749, 1750, 1751, 1752, 1753, 1754, 1755, 1756, 1757, 1758, 1759, 1760, 1761, 1762, 1763, 1764, 1765, 1766, 1767, 1768, 1769, 1770, 1771, 1772, 1773, 1774, 1775, 1776, 1777, 1778, 1779, 1780, 1781, 1782, 1783, 1784, 1785, 1786, 1787, 1788, 1789, 1790, 1791, 1792, 1793, 1794, 1795] (by decide +kernel) (by decide +kernel)
set_option maxRecDepth 20000 in
theorem gL_law_X12_rests : GoodIn wsL_law (wsV RL 148 RX12 yX12_rests wsX12_rests) := goodIn_app (goodIn_of _ (by decide +kernel)) ggL_law_X12_rests
set_option maxRecDepth 20000 in
theorem ggL_law_X11_holds : GoodIn wsL_law wsX11_holds := goodIn_r _ [1450, 978, 39, 38, 51, 21, 671, 1385, 1386, 1387, 2, 1388, 946, 947, 948, 949, 950, 222, 223, 224, 1237, 1008, 1009, 37, 1010, 684, 685, 686, 687, 105, 1011, 677, 678, 679, 106, 107, 108, 109, 110, 111, 112, 113, 1410, 1411, 1412, 50, 1413, 144, 145, 146, 147, 142, 1414, 143, 1415, 1416, 1417, 1418, 1419, 1420, 405, 406, 20, 407, 69, 1421, 409, 410, 411, 1422, 707, 708, 709, 1423, 821, 822, 33, 823, 824, 825, 826, 95, 96, 827, 828, 829, 830, 831, 832, 833, 834, 835, 300, 836, 837, 838, 839, 840, 841, 842, 843, 844, 845, 846, 847, 848, 849, 778, 779, 780, 781, 770, 771, 772, 850, 851, 852, 25, 853, 78, 421, 79, 75, 854, 855, 856, 77, 857, 426, 84, 85, 858, 859, 860, 861, 862, 863, 864, 865, 1424, 816, 817, 818, 819, 97, 820, 866, 812, 813, 814, 867, 868, 869, 870, 1425, 1426, 1451, 1452, 1453, 1454, 1455, 303, 304, 1726, 1727, 1728, 1729, 1730, 1731, 1732, 1733, 1734, 1735, 1736, 1737, 1738, 1739, 1740, 1741, 1800, 1801, 1802, 1803, 1816, 1817, 1818, 1819, 1820, 1821, 1822, 1823, 1824, 1825, 1826, 1827, 1828, 1848, 1849, 1850, 1851, 1852, 1853, 1810, 1811, 1812, 1813, 1814, 1815, 1804, 1805, 1806, 1807, 1858, 1859, 1860] (by decide +kernel) (by decide +kernel)
set_option maxRecDepth 20000 in
theorem gL_law_X11_holds : GoodIn wsL_law (wsV RL 149 RX11 yX11_holds wsX11_holds) := goodIn_app (goodIn_of _ (by decide +kernel)) ggL_law_X11_holds
set_option maxRecDepth 20000 in
theorem ggL_law_X12_holds : GoodIn wsL_law wsX12_holds := goodIn_r _ [1459, 209, 984, 744, 916, 303, 300, 304, 1394, 1395, 1396, 5, 1397, 961, 962, 963, 964, 745, 500, 501, 502, 1435, 1436, 1437, 1438, 185, 177, 1402, 1403, 1404, 1405, 176, 1254, 1255, 1256, 754, 755, 756, 757, 170, 1378, 1379, 1380, 1152, 1153, 1154, 1155, 880, 881, 882, 883, 181, 884, 885, 886, 887, 888, 889, 890, 891, 172, 892, 893, 894, 895, 896, 897, 898, 899, 900, 901, 902, 903, 904, 835, 836, 905, 906, 907, 908, 909, 910, 911, 787, 788, 789, 790, 168, 912, 913, 914, 915, 178, 164, 917, 299, 301, 918, 919, 920, 921, 922, 923, 924, 925, 926, 927, 179, 180, 162, 163, 592, 585, 586, 587, 588, 589, 590, 591, 499, 510, 511, 512, 513, 514, 165, 515, 516, 593, 594, 595, 596, 524, 525, 526, 527, 597, 598, 599, 536, 252, 253, 254, 255, 256, 257, 258, 259, 260, 261, 262, 540, 541, 542, 543, 289, 290, 291, 292, 544, 545, 296, 546, 547, 548, 549, 330, 550, 551, 333, 552, 553, 554, 313, 555, 556, 557, 558, 324, 325, 326, 559, 338, 339, 340, 341, 342, 343, 528, 529, 530, 531, 600, 601, 602, 603, 604, 605, 606, 607, 608, 609, 610, 611, 612, 613, 614, 615, 616, 617, 618, 619, 620, 621, 622, 623, 624, 625, 626, 627, 628, 629, 630, 631, 632, 633, 634, 635, 636, 637, 638, 573, 574, 575, 576, 639, 640, 641, 642, 643, 644, 645, 646, 647, 648, 649, 928, 929, 930, 931, 1443, 1444, 1445, 1446, 1742, 1743, 1744, 1745, 1746, 1747, 1748, 1749, 1750, 1751, 1752, 1753, 1754, 1755, 1756, 1757, 1758, 1759, 1760, 1761, 1762, 1763, 1764, 1765, 1766, 1767, 1768, 1769, 1770, 1771, 1772, 1773, 1774, 1775, 1776, 1777, 1778, 1779, 1780, 1781, 1782, 1783, 1784, 1785, 1786, 1787, 1788, 1789, 1790, 1791, 1792, 1793, 1794, 1795] (by decide +kernel) (by decide +kernel)
set_option maxRecDepth 20000 in
theorem gL_law_X12_holds : GoodIn wsL_law (wsV RL 152 RX12 yX12_holds wsX12_holds) := goodIn_app (goodIn_of _ (by decide +kernel)) ggL_law_X12_holds
set_option maxRecDepth 20000 in
theorem ggL_law_X11_seen : GoodIn wsL_law wsX11_seen := goodIn_r _ [1463, 47, 670, 805, 806, 807, 2, 808, 21, 671, 222, 223, 224, 1464, 1465, 1466, 46, 1467, 1468, 130, 131, 132, 133, 1726, 1727, 1728, 1729, 1730, 1731, 1732, 1733, 1734, 1735, 1736, 1737, 1738, 1739, 1740, 1741, 1836, 1837, 1838, 1839, 1840, 1841, 1842, 1843, 1844, 1845, 1846, 1847, 1800, 1801, 1802, 1803] (by decide +kernel) (by decide +kernel)
set_option maxRecDepth 20000 in
theorem gL_law_X11_seen : GoodIn wsL_law (wsV RL 153 RX11 yX11_seen wsX11_seen) := goodIn_app (goodIn_of _ (by decide +kernel)) ggL_law_X11_seen
set_option maxRecDepth 20000 in
theorem ggL_law_X12_seen : GoodIn wsL_law wsX12_seen := goodIn_r _ [1472, 209, 1473, 498, 751, 186, 187, 188, 189, 876, 877, 878, 5, 879, 744, 500, 501, 502, 1742, 1743, 1744, 1745, 1746, 1747, 1748, 1749, 1750, 1751, 1752, 1753, 1754, 1755, 1756, 1757, 1758, 1759, 1760, 1761, 1762, 1763, 1764, 1765, 1766, 1767, 1768, 1769, 1770, 1771, 1772, 1773, 1774, 1775, 1776, 1777, 1778, 1779, 1780, 1781, 1782, 1783, 1784, 1785, 1786, 1787, 1788, 1789, 1790, 1791, 1792, 1793, 1794, 1795] (by decide +kernel) (by decide +kernel)
set_option maxRecDepth 20000 in
theorem gL_law_X12_seen : GoodIn wsL_law (wsV RL 157 RX12 yX12_seen wsX12_seen) := goodIn_app (goodIn_of _ (by decide +kernel)) ggL_law_X12_seen
set_option maxRecDepth 20000 in
theorem ggL_law_X11_likes : GoodIn wsL_law wsX11_likes := goodIn_r _ [1477, 47, 805, 806, 807, 2, 808, 21, 671, 1478, 1479, 1480, 46, 1481, 1482, 134, 1468, 130, 131, 132, 128, 133, 1483, 1484, 1485, 1486, 135, 129, 136, 1487, 838, 839, 20, 840, 69, 1488, 851, 852, 25, 853, 78, 421, 79, 75, 854, 855, 856, 77, 857, 426, 84, 85, 858, 859, 860, 861, 862, 863, 864, 865, 1489, 812, 813, 814, 1490, 1491, 1492, 1493, 1494, 1495, 1496, 1497, 1498, 299, 300, 301, 1499, 1500, 1501, 1502, 1726, 1727, 1728, 1729, 1730, 1731, 1732, 1733, 1734, 1735, 1736, 1737, 1738, 1739, 1740, 1741, 1800, 1801, 1802, 1803, 1836, 1837, 1838, 1839, 1840, 1841, 1842, 1843, 1844, 1845, 1846, 1847, 1804, 1805, 1806, 1807, 1858, 1859, 1860] (by decide +kernel) (by decide +kernel)
set_option maxRecDepth 20000 in
theorem gL_law_X11_likes : GoodIn wsL_law (wsV RL 158 RX11 yX11_likes wsX11_likes) := goodIn_app (goodIn_of _ (by decide +kernel)) ggL_law_X11_likes
set_option maxRecDepth 20000 in
theorem ggL_law_X12_likes : GoodIn wsL_law wsX12_likes := goodIn_r _ [1506, 209, 876, 877, 878, 5, 879, 744, 1507, 1508, 1509, 1510, 751, 186, 187, 188, 189, 1511, 1512, 1513, 1514, 181, 888, 889, 890, 891, 172, 912, 913, 914, 915, 178, 164, 916, 303, 300, 304, 917, 299, 301, 918, 919, 920, 921, 922, 923, 924, 925, 926, 927, 179, 180, 162, 163, 592, 585, 586, 587, 588, 589, 590, 591, 499, 510, 511, 512, 513, 514, 165, 515, 516, 593, 594, 595, 596, 524, 525, 526, 527, 597, 598, 599, 536, 252, 253, 254, 255, 256, 257, 258, 259, 260, 261, 262, 540, 541, 542, 543, 289, 290, 291, 292, 544, 545, 296, 546, 547, 548, 549, 330, 550, 551, 333, 552, 553, 554, 313, 555, 556, 557, 558, 324, 325, 326, 559, 338, 339, 340, 341, 342, 343, 528, 529, 530, 531, 600, 601, 602, 603, 604, 605, 606, 607, 608, 609, 610, 611, 612, 613, 614, 615, 616, 617, 618, 619, 620, 621, 622, 623, 624, 625, 626, 627, 628, 629, 630, 631, 632, 633, 634, 635, 636, 637, 638, 573, 574, 575, 576, 639, 640, 641, 642, 643, 644, 645, 646, 647, 648, 649, 754, 755, 756, 757, 170, 928, 929, 930, 931, 1742, 1743, 1744, 1745, 1746, 1747, 1748, 1749, 1750, 1751, 1752, 1753, 1754, 1755, 1756, 1757, 1758, 1759, 1760, 1761, 1762, 1763, 1764, 1765, 1766, 1767, 1768, 1769, 1770, 1771, 1772, 1773, 1774, 1775, 1776, 1777, 1778, 1779, 1780, 1781, 1782, 1783, 1784, 1785, 1786, 1787, 1788, 1789, 1790, 1791, 1792, 1793, 1794, 1795] (by decide +kernel) (by decide +kernel)
set_option maxRecDepth 20000 in
theorem gL_law_X12_likes : GoodIn wsL_law (wsV RL 161 RX12 yX12_likes wsX12_likes) := goodIn_app (goodIn_of _ (by decide +kernel)) ggL_law_X12_likes
set_option maxRecDepth 20000 in
theorem ggL_law_X11_ask : GoodIn wsL_law wsX11_ask := goodIn_r _ [1518, 47, 805, 806, 807, 2, 808, 21, 671, 1478, 1479, 1480, 46, 1481, 1482, 134, 1468, 130, 131, 132, 128, 133, 1483, 1484, 1485, 1486, 135, 129, 136, 1487, 838, 839, 20, 840, 69, 1488, 851, 852, 25, 853, 78, 421, 79, 75, 854, 855, 856, 77, 857, 426, 84, 85, 858, 859, 860, 861, 862, 863, 864, 865, 1489, 812, 813, 814, 1490, 1491, 1492, 1493, 1494, 1495, 1496, 1497, 1498, 299, 300, 301, 1519, 1520, 1521, 1522, 1523, 1524, 1525, 1526, 1527, 137, 1726, 1727, 1728, 1729, 1730, 1731, 1732, 1733, 1734, 1735, 1736, 1737, 1738, 1739, 1740, 1741, 1800, 1801, 1802, 1803, 1836, 1837, 1838, 1839, 1840, 1841, 1842, 1843, 1844, 1845, 1846, 1847, 1804, 1805, 1806, 1807, 1858, 1859, 1860] (by decide +kernel) (by decide +kernel)
set_option maxRecDepth 20000 in
theorem gL_law_X11_ask : GoodIn wsL_law (wsV RL 162 RX11 yX11_ask wsX11_ask) := goodIn_app (goodIn_of _ (by decide +kernel)) ggL_law_X11_ask
set_option maxRecDepth 20000 in
theorem ggL_law_X12_ask : GoodIn wsL_law wsX12_ask := goodIn_r _ [1531, 209, 190, 917, 299, 300, 301, 876, 877, 878, 5, 879, 744, 1532, 1504, 1505, 1506, 1507, 1508, 1509, 1510, 751, 186, 187, 188, 189, 1511, 1512, 1513, 1514, 181, 888, 889, 890, 891, 172, 912, 913, 914, 915, 178, 164, 916, 303, 304, 918, 919, 920, 921, 922, 923, 924, 925, 926, 927, 179, 180, 162, 163, 592, 585, 586, 587, 588, 589, 590, 591, 499, 510, 511, 512, 513, 514, 165, 515, 516, 593, 594, 595, 596, 524, 525, 526, 527, 597, 598, 599, 536, 252, 253, 254, 255, 256, 257, 258, 259, 260, 261, 262, 540, 541, 542, 543, 289, 290, 291, 292, 544, 545, 296, 546, 547, 548, 549, 330, 550, 551, 333, 552, 553, 554, 313, 555, 556, 557, 558, 324, 325, 326, 559, 338, 339, 340, 341, 342, 343, 528, 529, 530, 531, 600, 601, 602, 603, 604, 605, 606, 607, 608, 609, 610, 611, 612, 613, 614, 615, 616, 617, 618, 619, 620, 621, 622, 623, 624, 625, 626, 627, 628, 629, 630, 631, 632, 633, 634, 635, 636, 637, 638, 573, 574, 575, 576, 639, 640, 641, 642, 643, 644, 645, 646, 647, 648, 649, 754, 755, 756, 757, 170, 928, 929, 930, 931, 1742, 1743, 1744, 1745, 1746, 1747, 1748, 1749, 1750, 1751, 1752, 1753, 1754, 1755, 1756, 1757, 1758, 1759, 1760, 1761, 1762, 1763, 1764, 1765, 1766, 1767, 1768, 1769, 1770, 1771, 1772, 1773, 1774, 1775, 1776, 1777, 1778, 1779, 1780, 1781, 1782, 1783, 1784, 1785, 1786, 1787, 1788, 1789, 1790, 1791, 1792, 1793, 1794, 1795] (by decide +kernel) (by decide +kernel)
set_option maxRecDepth 20000 in
theorem gL_law_X12_ask : GoodIn wsL_law (wsV RL 165 RX12 yX12_ask wsX12_ask) := goodIn_app (goodIn_of _ (by decide +kernel)) ggL_law_X12_ask
set_option maxRecDepth 20000 in
theorem ggL_law_X11_blown : GoodIn wsL_law wsX11_blown := goodIn_r _ [1536, 1537, 1538, 222, 223, 2, 224] (by decide +kernel) (by decide +kernel)
set_option maxRecDepth 20000 in
theorem gL_law_X11_blown : GoodIn wsL_law (wsV RL 166 RX11 yX11_blown wsX11_blown) := goodIn_app (goodIn_of _ (by decide +kernel)) ggL_law_X11_blown
set_option maxRecDepth 20000 in
theorem ggL_law_X12_blown : GoodIn wsL_law wsX12_blown := goodIn_r _ [1542, 209, 1473, 875, 498, 926, 922, 500, 501, 5, 502, 1742, 1743, 1744, 1745, 1746, 1747, 1748, 1749, 1750, 1751, 1752, 1753, 1754, 1755, 1756, 1757, 1758, 1759, 1760, 1761, 1762, 1763, 1764, 1765, 1766, 1767, 1768, 1769, 1770, 1771, 1772, 1773, 1774, 1775, 1776, 1777, 1778, 1779, 1780, 1781, 1782, 1783, 1784, 1785, 1786, 1787, 1788, 1789, 1790, 1791, 1792, 1793, 1794, 1795] (by decide +kernel) (by decide +kernel)
set_option maxRecDepth 20000 in
theorem gL_law_X12_blown : GoodIn wsL_law (wsV RL 169 RX12 yX12_blown wsX12_blown) := goodIn_app (goodIn_of _ (by decide +kernel)) ggL_law_X12_blown
set_option maxRecDepth 20000 in
theorem ggL_law_X11_washed : GoodIn wsL_law wsX11_washed := goodIn_r _ [1546, 34, 38, 21, 671, 1100, 765, 766, 767, 2, 768, 222, 223, 224, 1281, 1112, 1113, 33, 1114, 99, 95, 1115, 819, 97, 98, 820, 821, 822, 823, 824, 825, 826, 96, 827, 828, 405, 406, 20, 407, 69, 829, 409, 410, 411, 830, 831, 832, 37, 833, 105, 834, 835, 300, 836, 106, 837, 838, 839, 840, 841, 842, 843, 844, 845, 846, 847, 848, 849, 778, 779, 780, 781, 770, 771, 772, 850, 851, 852, 25, 853, 78, 421, 79, 75, 854, 855, 856, 77, 857, 426, 84, 85, 858, 859, 860, 861, 862, 863, 864, 865, 866, 812, 813, 814, 867, 868, 869, 870, 1547, 1548, 1549, 1550, 1551, 1552, 1553, 1554, 1555, 1556, 1557, 1726, 1727, 1728, 1729, 1730, 1731, 1732, 1733, 1734, 1735, 1736, 1737, 1738, 1739, 1740, 1741, 1800, 1801, 1802, 1803, 1810, 1811, 1812, 1813, 1814, 1815, 1816, 1817, 1818, 1819, 1820, 1821, 1822, 1823, 1824, 1825, 1826, 1827, 1828, 1804, 1805, 1806, 1807, 1858, 1859, 1860] (by decide +kernel) (by decide +kernel)
set_option maxRecDepth 20000 in
theorem gL_law_X11_washed : GoodIn wsL_law (wsV RL 170 RX11 yX11_washed wsX11_washed) := goodIn_app (goodIn_of _ (by decide +kernel)) ggL_law_X11_washed
set_option maxRecDepth 20000 in
theorem ggL_law_X12_washed : GoodIn wsL_law wsX12_washed := goodIn_r _ [1561, 209, 744, 875, 183, 176, 500, 501, 5, 502, 880, 881, 882, 883, 745, 181, 884, 885, 886, 887, 888, 889, 890, 891, 172, 892, 893, 894, 895, 896, 897, 898, 899, 754, 755, 756, 757, 170, 900, 901, 902, 903, 904, 835, 300, 836, 905, 906, 907, 908, 909, 910, 911, 787, 788, 789, 790, 168, 912, 913, 914, 915, 178, 164, 916, 303, 304, 917, 299, 301, 918, 919, 920, 921, 922, 923, 924, 925, 926, 927, 179, 180, 162, 163, 592, 585, 586, 587, 588, 589, 590, 591, 499, 510, 511, 512, 513, 514, 165, 515, 516, 593, 594, 595, 596, 524, 525, 526, 527, 597, 598, 599, 536, 252, 253, 254, 255, 256, 257, 258, 259, 260, 261, 262, 540, 541, 542, 543, 289, 290, 291, 292, 544, 545, 296, 546, 547, 548, 549, 330, 550, 551, 333, 552, 553, 554, 313, 555, 556, 557, 558, 324, 325, 326, 559, 338, 339, 340, 341, 342, 343, 528, 529, 530, 531, 600, 601, 602, 603, 604, 605, 606, 607, 608, 609, 610, 611, 612, 613, 614, 615, 616, 617, 618, 619, 620, 621, 622, 623, 624, 625, 626, 627, 628, 629, 630, 631, 632, 633, 634, 635, 636, 637, 638, 573, 574, 575, 576, 639, 640, 641, 642, 643, 644, 645, 646, 647, 648, 649, 928, 929, 930, 931, 1562, 1552, 1553, 1554, 1555, 1556, 1557, 560, 561, 562, 1742, 1743, 1744, 1745, 1746, 1747, 1748, 1749, 1750, 1751, 1752, 1753, 1754, 1755, 1756, 1757, 1758, 1759, 1760, 1761, 1762, 1763, 1764, 1765, 1766, 1767, 1768, 1769, 1770, 1771, 1772, 1773, 1774, 1775, 1776, 1777, 1778, 1779, 1780, 1781, 1782, 1783, 1784, 1785, 1786, 1787, 1788, 1789, 1790, 1791, 1792, 1793, 1794, 1795] (by decide +kernel) (by decide +kernel)
set_option maxRecDepth 20000 in
theorem gL_law_X12_washed : GoodIn wsL_law (wsV RL 173 RX12 yX12_washed wsX12_washed) := goodIn_app (goodIn_of _ (by decide +kernel)) ggL_law_X12_washed
set_option maxRecDepth 20000 in
theorem ggL_law_X11_watch : GoodIn wsL_law wsX11_watch := goodIn_r _ [1566, 55, 765, 766, 767, 2, 768, 21, 671, 222, 223, 224, 1567, 1568, 1569, 54, 1570, 152, 1320, 1571, 1552, 1553, 1554, 1555, 1556, 1557, 1572, 1573, 1574, 1575, 1322, 405, 406, 20, 407, 69, 1323, 409, 410, 411, 1325, 1326, 1327, 1328, 1329, 835, 300, 836, 1726, 1727, 1728, 1729, 1730, 1731, 1732, 1733, 1734, 1735, 1736, 1737, 1738, 1739, 1740, 1741, 1800, 1801, 1802, 1803, 1854, 1855, 1856, 1857] (by decide +kernel) (by decide +kernel)
set_option maxRecDepth 20000 in
theorem gL_law_X11_watch : GoodIn wsL_law (wsV RL 174 RX11 yX11_watch wsX11_watch) := goodIn_app (goodIn_of _ (by decide +kernel)) ggL_law_X11_watch
set_option maxRecDepth 20000 in
theorem ggL_law_X12_watch : GoodIn wsL_law wsX12_watch := goodIn_r _ [1579, 209, 744, 1473, 500, 501, 5, 502, 1562, 1552, 1553, 1554, 1555, 1556, 1557, 1580, 1581, 1582, 1583, 560, 561, 562, 1584, 1585, 1586, 1587, 904, 835, 300, 836, 754, 755, 756, 757, 170, 1742, 1743, 1744, 1745, 1746, 1747, 1748, 1749, 1750, 1751, 1752, 1753, 1754, 1755, 1756, 1757, 1758, 1759, 1760, 1761, 1762, 1763, 1764, 1765, 1766, 1767, 1768, 1769, 1770, 1771, 1772, 1773, 1774, 1775, 1776, 1777, 1778, 1779, 1780, 1781, 1782, 1783, 1784, 1785, 1786, 1787, 1788, 1789, 1790, 1791, 1792, 1793, 1794, 1795] (by decide +kernel) (by decide +kernel)
set_option maxRecDepth 20000 in
theorem gL_law_X12_watch : GoodIn wsL_law (wsV RL 177 RX12 yX12_watch wsX12_watch) := goodIn_app (goodIn_of _ (by decide +kernel)) ggL_law_X12_watch
set_option maxRecDepth 20000 in
theorem ggL_law_X11_fair : GoodIn wsL_law wsX11_fair := goodIn_r _ [1591, 39, 38, 34, 765, 766, 767, 2, 768, 21, 671, 222, 223, 224, 1237, 1008, 1009, 37, 1010, 684, 685, 686, 687, 105, 1011, 677, 678, 679, 106, 107, 108, 109, 110, 111, 112, 113, 1592, 1593, 1594, 33, 1595, 99, 1596, 835, 300, 836, 1111, 1112, 1113, 1114, 95, 1115, 819, 97, 98, 820, 821, 822, 823, 824, 825, 826, 96, 827, 828, 405, 406, 20, 407, 69, 829, 409, 410, 411, 830, 831, 832, 833, 834, 837, 838, 839, 840, 841, 842, 843, 844, 845, 846, 847, 848, 849, 778, 779, 780, 781, 770, 771, 772, 850, 851, 852, 25, 853, 78, 421, 79, 75, 854, 855, 856, 77, 857, 426, 84, 85, 858, 859, 860, 861, 862, 863, 864, 865, 866, 812, 813, 814, 867, 868, 869, 870, 1101, 1102, 1103, 1104, 1105, 952, 953, 954, 1106, 1107, 1108, 1109, 1110, 303, 304, 1116, 774, 775, 776, 1117, 1118, 1119, 1120, 1121, 1122, 1123, 1124, 1125, 1126, 1726, 1727, 1728, 1729, 1730, 1731, 1732, 1733, 1734, 1735, 1736, 1737, 1738, 1739, 1740, 1741, 1800, 1801, 1802, 1803, 1816, 1817, 1818, 1819, 1820, 1821, 1822, 1823, 1824, 1825, 1826, 1827, 1828, 1810, 1811, 1812, 1813, 1814, 1815, 1804, 1805, 1806, 1807, 1858, 1859, 1860] (by decide +kernel) (by decide +kernel)
set_option maxRecDepth 20000 in
theorem gL_law_X11_fair : GoodIn wsL_law (wsV RL 178 RX11 yX11_fair wsX11_fair) := goodIn_app (goodIn_of _ (by decide +kernel)) ggL_law_X11_fair
set_option maxRecDepth 20000 in
theorem ggL_law_X12_fair : GoodIn wsL_law wsX12_fair := goodIn_r _ [1600, 209, 744, 1303, 176, 177, 904, 835, 300, 836, 500, 501, 5, 502, 1254, 1255, 1256, 1152, 1153, 1154, 1155, 880, 881, 882, 883, 745, 181, 884, 885, 886, 887, 888, 889, 890, 891, 172, 892, 893, 894, 895, 896, 897, 898, 899, 754, 755, 756, 757, 170, 900, 901, 902, 903, 905, 906, 907, 908, 909, 910, 911, 787, 788, 789, 790, 168, 912, 913, 914, 915, 178, 164, 916, 303, 304, 917, 299, 301, 918, 919, 920, 921, 922, 923, 924, 925, 926, 927, 179, 180, 162, 163, 592, 585, 586, 587, 588, 589, 590, 591, 499, 510, 511, 512, 513, 514, 165, 515, 516, 593, 594, 595, 596, 524, 525, 526, 527, 597, 598, 599, 536, 252, 253, 254, 255, 256, 257, 258, 259, 260, 261, 262, 540, 541, 542, 543, 289, 290, 291, 292, 544, 545, 296, 546, 547, 548, 549, 330, 550, 551, 333, 552, 553, 554, 313, 555, 556, 557, 558, 324, 325, 326, 559, 338, 339, 340, 341, 342, 343, 528, 529, 530, 531, 600, 601, 602, 603, 604, 605, 606, 607, 608, 609, 610, 611, 612, 613, 614, 615, 616, 617, 618, 619, 620, 621, 622, 623, 624, 625, 626, 627, 628, 629, 630, 631, 632, 633, 634, 635, 636, 637, 638, 573, 574, 575, 576, 639, 640, 641, 642, 643, 644, 645, 646, 647, 648, 649, 928, 929, 930, 931, 1141, 1142, 1143, 1144, 182, 1145, 1146, 1147, 1148, 1149, 1150, 1151, 1156, 1157, 1158, 1159, 183, 1742, 1743, 1744, 1745, 1746, 1747, 1748, 1749, 1750, 1751, 1752, 1753, 1754, 1755, 1756, 1757, 1758, 1759, 1760, 1761, 1762, 1763, 1764, 1765, 1766, 1767, 1768, 1769, 1770, 1771, 1772, 1773, 1774, 1775, 1776, 1777, 1778, 1779, 1780, 1781, 1782, 1783, 1784, 1785, 1786, 1787, 1788, 1789, 1790, 1791, 1792, 1793, 1794, 1795] (by decide +kernel) (by decide +kernel)
set_option maxRecDepth 20000 in
theorem gL_law_X12_fair : GoodIn wsL_law (wsV RL 181 RX12 yX12_fair wsX12_fair) := goodIn_app (goodIn_of _ (by decide +kernel)) ggL_law_X12_fair
set_option maxRecDepth 20000 in
theorem ggL_law_X11_buoys : GoodIn wsL_law wsX11_buoys := goodIn_r _ [1604, 21, 671, 38, 762, 765, 766, 767, 2, 768, 222, 223, 224, 811, 812, 813, 20, 814, 69, 1605, 1606, 1607, 1608, 34, 802, 815, 816, 817, 33, 818, 95, 819, 97, 820, 821, 822, 823, 824, 825, 826, 96, 827, 828, 405, 406, 407, 829, 409, 410, 411, 830, 831, 832, 37, 833, 105, 834, 835, 300, 836, 106, 837, 838, 839, 840, 841, 842, 843, 844, 845, 846, 847, 848, 849, 778, 779, 780, 781, 770, 771, 772, 850, 851, 852, 25, 853, 78, 421, 79, 75, 854, 855, 856, 77, 857, 426, 84, 85, 858, 859, 860, 861, 862, 863, 864, 865, 866, 867, 868, 869, 870, 1726, 1727, 1728, 1729, 1730, 1731, 1732, 1733, 1734, 1735, 1736, 1737, 1738, 1739, 1740, 1741, 1800, 1801, 1802, 1803, 1816, 1817, 1818, 1819, 1820, 1821, 1822, 1823, 1824, 1825, 1826, 1827, 1828, 1810, 1811, 1812, 1813, 1814, 1815, 1804, 1805, 1806, 1807, 1858, 1859, 1860] (by decide +kernel) (by decide +kernel)
set_option maxRecDepth 20000 in
theorem gL_law_X11_buoys : GoodIn wsL_law (wsV RL 182 RX11 yX11_buoys wsX11_buoys) := goodIn_app (goodIn_of _ (by decide +kernel)) ggL_law_X11_buoys
set_option maxRecDepth 20000 in
theorem ggL_law_X12_buoys : GoodIn wsL_law wsX12_buoys := goodIn_r _ [1612, 209, 744, 176, 500, 501, 5, 502, 880, 881, 882, 883, 745, 181, 884, 885, 886, 887, 888, 889, 890, 891, 172, 892, 893, 894, 895, 896, 897, 898, 899, 754, 755, 756, 757, 170, 900, 901, 902, 903, 904, 835, 300, 836, 905, 906, 907, 908, 909, 910, 911, 787, 788, 789, 790, 168, 912, 913, 914, 915, 178, 164, 916, 303, 304, 917, 299, 301, 918, 919, 920, 921, 922, 923, 924, 925, 926, 927, 179, 180, 162, 163, 592, 585, 586, 587, 588, 589, 590, 591, 499, 510, 511, 512, 513, 514, 165, 515, 516, 593, 594, 595, 596, 524, 525, 526, 527, 597, 598, 599, 536, 252, 253, 254, 255, 256, 257, 258, 259, 260, 261, 262, 540, 541, 542, 543, 289, 290, 291, 292, 544, 545, 296, 546, 547, 548, 549, 330, 550, 551, 333, 552, 553, 554, 313, 555, 556, 557, 558, 324, 325, 326, 559, 338, 339, 340, 341, 342, 343, 528, 529, 530, 531, 600, 601, 602, 603, 604, 605, 606, 607, 608, 609, 610, 611, 612, 613, 614, 615, 616, 617, 618, 619, 620, 621, 622, 623, 624, 625, 626, 627, 628, 629, 630, 631, 632, 633, 634, 635, 636, 637, 638, 573, 574, 575, 576, 639, 640, 641, 642, 643, 644, 645, 646, 647, 648, 649, 928, 929, 930, 931, 1742, 1743, 1744, 1745, 1746, 1747, 1748, 1749, 1750, 1751, 1752, 1753, 1754, 1755, 1756, 1757, 1758, 1759, 1760, 1761, 1762, 1763, 1764, 1765, 1766, 1767, 1768, 1769, 1770, 1771, 1772, 1773, 1774, 1775, 1776, 1777, 1778, 1779, 1780, 1781, 1782, 1783, 1784, 1785, 1786, 1787, 1788, 1789, 1790, 1791, 1792, 1793, 1794, 1795] (by decide +kernel) (by decide +kernel)
set_option maxRecDepth 20000 in
theorem gL_law_X12_buoys : GoodIn wsL_law (wsV RL 185 RX12 yX12_buoys wsX12_buoys) := goodIn_app (goodIn_of _ (by decide +kernel)) ggL_law_X12_buoys
set_option maxRecDepth 20000 in
theorem ggL_law_X11_sways : GoodIn wsL_law wsX11_sways := goodIn_r _ [1616, 978, 34, 38, 21, 950, 1617, 303, 300, 304, 1618, 299, 301, 805, 806, 807, 2, 808, 671, 222, 223, 224, 979, 821, 822, 33, 823, 824, 825, 826, 95, 96, 827, 828, 405, 406, 20, 407, 69, 829, 409, 410, 411, 830, 831, 832, 37, 833, 105, 834, 835, 836, 106, 837, 838, 839, 840, 841, 842, 843, 844, 845, 846, 847, 848, 849, 778, 779, 780, 781, 770, 771, 772, 850, 851, 852, 25, 853, 78, 421, 79, 75, 854, 855, 856, 77, 857, 426, 84, 85, 858, 859, 860, 861, 862, 863, 864, 865, 811, 812, 813, 814, 1726, 1727, 1728, 1729, 1730, 1731, 1732, 1733, 1734, 1735, 1736, 1737, 1738, 1739, 1740, 1741, 1800, 1801, 1802, 1803, 1816, 1817, 1818, 1819, 1820, 1821, 1822, 1823, 1824, 1825, 1826, 1827, 1828, 1810, 1811, 1812, 1813, 1814, 1815, 1804, 1805, 1806, 1807, 1858, 1859, 1860] (by decide +kernel) (by decide +kernel)
set_option maxRecDepth 20000 in
theorem gL_law_X11_sways : GoodIn wsL_law (wsV RL 186 RX11 yX11_sways wsX11_sways) := goodIn_app (goodIn_of _ (by decide +kernel)) ggL_law_X11_sways
set_option maxRecDepth 20000 in
theorem ggL_law_X12_sways : GoodIn wsL_law wsX12_sways := goodIn_r _ [1622, 209, 984, 745, 176, 876, 877, 878, 5, 879, 744, 500, 501, 502, 884, 885, 886, 887, 888, 889, 890, 891, 172, 892, 893, 894, 895, 896, 897, 898, 899, 754, 755, 756, 757, 170, 900, 901, 902, 903, 904, 835, 300, 836, 905, 906, 907, 908, 909, 910, 911, 787, 788, 789, 790, 168, 912, 913, 914, 915, 178, 164, 916, 303, 304, 917, 299, 301, 918, 919, 920, 921, 922, 923, 924, 925, 926, 927, 179, 180, 162, 163, 592, 585, 586, 587, 588, 589, 590, 591, 499, 510, 511, 512, 513, 514, 165, 515, 516, 593, 594, 595, 596, 524, 525, 526, 527, 597, 598, 599, 536, 252, 253, 254, 255, 256, 257, 258, 259, 260, 261, 262, 540, 541, 542, 543, 289, 290, 291, 292, 544, 545, 296, 546, 547, 548, 549, 330, 550, 551, 333, 552, 553, 554, 313, 555, 556, 557, 558, 324, 325, 326, 559, 338, 339, 340, 341, 342, 343, 528, 529, 530, 531, 600, 601, 602, 603, 604, 605, 606, 607, 608, 609, 610, 611, 612, 613, 614, 615, 616, 617, 618, 619, 620, 621, 622, 623, 624, 625, 626, 627, 628, 629, 630, 631, 632, 633, 634, 635, 636, 637, 638, 573, 574, 575, 576, 639, 640, 641, 642, 643, 644, 645, 646, 647, 648, 649, 1742, 1743, 1744, 1745, 1746, 1747, 1748, 1749, 1750, 1751, 1752, 1753, 1754, 1755, 1756, 1757, 1758, 1759, 1760, 1761, 1762, 1763, 1764, 1765, 1766, 1767, 1768, 1769, 1770, 1771, 1772, 1773, 1774, 1775, 1776, 1777, 1778, 1779, 1780, 1781, 1782, 1783, 1784, 1785, 1786, 1787, 1788, 1789, 1790, 1791, 1792, 1793, 1794, 1795] (by decide +kernel) (by decide +kernel)
set_option maxRecDepth 20000 in
theorem gL_law_X12_sways : GoodIn wsL_law (wsV RL 189 RX12 yX12_sways wsX12_sways) := goodIn_app (goodIn_of _ (by decide +kernel)) ggL_law_X12_sways
set_option maxRecDepth 20000 in
theorem ggL_law_X11_nearest : GoodIn wsL_law wsX11_nearest := goodIn_r _ [1626, 1627, 21, 671, 38, 946, 947, 948, 2, 949, 950, 809, 405, 406, 20, 407, 69, 810, 409, 410, 411, 1012, 831, 832, 37, 833, 105, 834, 835, 300, 836, 106, 1726, 1727, 1728, 1729, 1730, 1731, 1732, 1733, 1734, 1735, 1736, 1737, 1738, 1739, 1740, 1741, 1800, 1801, 1802, 1803, 1816, 1817, 1818, 1819, 1820, 1821, 1822, 1823, 1824, 1825, 1826, 1827, 1828] (by decide +kernel) (by decide +kernel)
set_option maxRecDepth 20000 in
theorem gL_law_X11_nearest : GoodIn wsL_law (wsV RL 190 RX11 yX11_nearest wsX11_nearest) := goodIn_app (goodIn_of _ (by decide +kernel)) ggL_law_X11_nearest
set_option maxRecDepth 20000 in
theorem ggL_law_X12_nearest : GoodIn wsL_law wsX12_nearest := goodIn_r _ [1631, 209, 744, 176, 961, 962, 963, 5, 964, 745, 896, 897, 898, 899, 754, 755, 756, 757, 170, 900, 901, 902, 903, 904, 835, 300, 836, 905, 906, 907, 1742, 1743, 1744, 1745, 1746, 1747, 1748, 1749, 1750, 1751, 1752, 1753, 1754, 1755, 1756, 1757, 1758, 1759, 1760, 1761, 1762, 1763, 1764, 1765, 1766, 1767, 1768, 1769, 1770, 1771, 1772, 1773, 1774, 1775, 1776, 1777, 1778, 1779, 1780, 1781, 1782, 1783, 1784, 1785, 1786, 1787, 1788, 1789, 1790, 1791, 1792, 1793, 1794, 1795] (by decide +kernel) (by decide +kernel)
set_option maxRecDepth 20000 in
theorem gL_law_X12_nearest : GoodIn wsL_law (wsV RL 193 RX12 yX12_nearest wsX12_nearest) := goodIn_app (goodIn_of _ (by decide +kernel)) ggL_law_X12_nearest
set_option maxRecDepth 20000 in
theorem ggL_law_X11_fog : GoodIn wsL_law wsX11_fog := goodIn_r _ [1635, 34, 38, 56, 946, 947, 948, 2, 949, 21, 950, 222, 223, 224, 1281, 1112, 1113, 33, 1114, 99, 95, 1115, 819, 97, 98, 820, 821, 822, 823, 824, 825, 826, 96, 827, 828, 405, 406, 20, 407, 69, 829, 409, 410, 411, 830, 831, 832, 37, 833, 105, 834, 835, 300, 836, 106, 837, 838, 839, 840, 841, 842, 843, 844, 845, 846, 847, 848, 849, 778, 779, 780, 781, 770, 771, 772, 850, 851, 852, 25, 853, 78, 421, 79, 75, 854, 855, 856, 77, 857, 426, 84, 85, 858, 859, 860, 861, 862, 863, 864, 865, 866, 812, 813, 814, 867, 868, 869, 870, 1636, 1637, 1638, 1639, 1640, 671, 1641, 1642, 1643, 1644, 1645, 1646, 58, 1726, 1727, 1728, 1729, 1730, 1731, 1732, 1733, 1734, 1735, 1736, 1737, 1738, 1739, 1740, 1741, 1800, 1801, 1802, 1803, 1810, 1811, 1812, 1813, 1814, 1815, 1816, 1817, 1818, 1819, 1820, 1821, 1822, 1823, 1824, 1825, 1826, 1827, 1828, 1804, 1805, 1806, 1807, 1858, 1859, 1860] (by decide +kernel) (by decide +kernel)
set_option maxRecDepth 20000 in
theorem gL_law_X11_fog : GoodIn wsL_law (wsV RL 194 RX11 yX11_fog wsX11_fog) := goodIn_app (goodIn_of _ (by decide +kernel)) ggL_law_X11_fog
set_option maxRecDepth 20000 in
theorem ggL_law_X12_fog : GoodIn wsL_law wsX12_fog := goodIn_r _ [1650, 209, 1651, 744, 183, 176, 182, 1652, 961, 962, 963, 5, 964, 745, 500, 501, 502, 880, 881, 882, 883, 181, 884, 885, 886, 887, 888, 889, 890, 891, 172, 892, 893, 894, 895, 896, 897, 898, 899, 754, 755, 756, 757, 170, 900, 901, 902, 903, 904, 835, 300, 836, 905, 906, 907, 908, 909, 910, 911, 787, 788, 789, 790, 168, 912, 913, 914, 915, 178, 164, 916, 303, 304, 917, 299, 301, 918, 919, 920, 921, 922, 923, 924, 925, 926, 927, 179, 180, 162, 163, 592, 585, 586, 587, 588, 589, 590, 591, 499, 510, 511, 512, 513, 514, 165, 515, 516, 593, 594, 595, 596, 524, 525, 526, 527, 597, 598, 599, 536, 252, 253, 254, 255, 256, 257, 258, 259, 260, 261, 262, 540, 541, 542, 543, 289, 290, 291, 292, 544, 545, 296, 546, 547, 548, 549, 330, 550, 551, 333, 552, 553, 554, 313, 555, 556, 557, 558, 324, 325, 326, 559, 338, 339, 340, 341, 342, 343, 528, 529, 530, 531, 600, 601, 602, 603, 604, 605, 606, 607, 608, 609, 610, 611, 612, 613, 614, 615, 616, 617, 618, 619, 620, 621, 622, 623, 624, 625, 626, 627, 628, 629, 630, 631, 632, 633, 634, 635, 636, 637, 638, 573, 574, 575, 576, 639, 640, 641, 642, 643, 644, 645, 646, 647, 648, 649, 928, 929, 930, 931, 1653, 1654, 1655, 1656, 1742, 1743, 1744, 1745, 1746, 1747, 1748, 1749, 1750, 1751, 1752, 1753, 1754, 1755, 1756, 1757, 1758, 1759, 1760, 1761, 1762, 1763, 1764, 1765, 1766, 1767, 1768, 1769, 1770, 1771, 1772, 1773, 1774, 1775, 1776, 1777, 1778, 1779, 1780, 1781, 1782, 1783, 1784, 1785, 1786, 1787, 1788, 1789, 1790, 1791, 1792, 1793, 1794, 1795] (by decide +kernel) (by decide +kernel)
set_option maxRecDepth 20000 in
theorem gL_law_X12_fog : GoodIn wsL_law (wsV RL 197 RX12 yX12_fog wsX12_fog) := goodIn_app (goodIn_of _ (by decide +kernel)) ggL_law_X12_fog
set_option maxRecDepth 20000 in
theorem ggL_law_X11_needs : GoodIn wsL_law wsX11_needs := goodIn_r _ [1660, 39, 38, 34, 804, 946, 947, 948, 2, 949, 21, 950, 805, 806, 807, 808, 671, 1237, 1008, 1009, 37, 1010, 684, 685, 686, 687, 105, 1011, 677, 678, 679, 106, 107, 108, 109, 110, 111, 112, 113, 1661, 1366, 1367, 33, 1368, 95, 819, 1369, 299, 300, 301, 866, 812, 813, 20, 814, 69, 820, 821, 822, 823, 824, 825, 826, 96, 827, 828, 405, 406, 407, 829, 409, 410, 411, 830, 831, 832, 833, 834, 835, 836, 837, 838, 839, 840, 841, 842, 843, 844, 845, 846, 847, 848, 849, 778, 779, 780, 781, 770, 771, 772, 850, 851, 852, 25, 853, 78, 421, 79, 75, 854, 855, 856, 77, 857, 426, 84, 85, 858, 859, 860, 861, 862, 863, 864, 865, 979, 1726, 1727, 1728, 1729, 1730, 1731, 1732, 1733, 1734, 1735, 1736, 1737, 1738, 1739, 1740, 1741, 1816, 1817, 1818, 1819, 1820, 1821, 1822, 1823, 1824, 1825, 1826, 1827, 1828, 1800, 1801, 1802, 1803, 1810, 1811, 1812, 1813, 1814, 1815, 1804, 1805, 1806, 1807, 1858, 1859, 1860] (by decide +kernel) (by decide +kernel)
set_option maxRecDepth 20000 in
theorem gL_law_X11_needs : GoodIn wsL_law (wsV RL 198 RX11 yX11_needs wsX11_needs) := goodIn_app (goodIn_of _ (by decide +kernel)) ggL_law_X11_needs
set_option maxRecDepth 20000 in
theorem ggL_law_X12_needs : GoodIn wsL_law wsX12_needs := goodIn_r _ [1665, 209, 176, 177, 961, 962, 963, 5, 964, 745, 876, 877, 878, 879, 744, 1254, 1255, 1256, 880, 881, 882, 883, 181, 884, 885, 886, 887, 888, 889, 890, 891, 172, 892, 893, 894, 895, 896, 897, 898, 899, 754, 755, 756, 757, 170, 900, 901, 902, 903, 904, 835, 300, 836, 905, 906, 907, 908, 909, 910, 911, 787, 788, 789, 790, 168, 912, 913, 914, 915, 178, 164, 916, 303, 304, 917, 299, 301, 918, 919, 920, 921, 922, 923, 924, 925, 926, 927, 179, 180, 162, 163, 592, 585, 586, 587, 588, 589, 590, 591, 499, 510, 511, 512, 513, 514, 165, 515, 516, 593, 594, 595, 596, 524, 525, 526, 527, 597, 598, 599, 536, 252, 253, 254, 255, 256, 257, 258, 259, 260, 261, 262, 540, 541, 542, 543, 289, 290, 291, 292, 544, 545, 296, 546, 547, 548, 549, 330, 550, 551, 333, 552, 553, 554, 313, 555, 556, 557, 558, 324, 325, 326, 559, 338, 339, 340, 341, 342, 343, 528, 529, 530, 531, 600, 601, 602, 603, 604, 605, 606, 607, 608, 609, 610, 611, 612, 613, 614, 615, 616, 617, 618, 619, 620, 621, 622, 623, 624, 625, 626, 627, 628, 629, 630, 631, 632, 633, 634, 635, 636, 637, 638, 573, 574, 575, 576, 639, 640, 641, 642, 643, 644, 645, 646, 647, 648, 649, 928, 929, 930, 931, 1742, 1743, 1744, 1745, 1746, 1747, 1748, 1749, 1750, 1751, 1752, 1753, 1754, 1755, 1756, 1757, 1758, 1759, 1760, 1761, 1762, 1763, 1764, 1765, 1766, 1767, 1768, 1769, 1770, 1771, 1772, 1773, 1774, 1775, 1776, 1777, 1778, 1779, 1780, 1781, 1782, 1783, 1784, 1785, 1786, 1787, 1788, 1789, 1790, 1791, 1792, 1793, 1794, 1795] (by decide +kernel) (by decide +kernel)
set_option maxRecDepth 20000 in
theorem gL_law_X12_needs : GoodIn wsL_law (wsV RL 201 RX12 yX12_needs wsX12_needs) := goodIn_app (goodIn_of _ (by decide +kernel)) ggL_law_X12_needs
set_option maxRecDepth 20000 in
theorem ggL_law_X11_heard : GoodIn wsL_law wsX11_heard := goodIn_r _ [1669, 21, 671, 38, 946, 947, 948, 2, 949, 950, 1044, 1045, 1046, 1047, 809, 405, 406, 20, 407, 69, 810, 409, 410, 411, 1012, 831, 832, 37, 833, 105, 834, 835, 300, 836, 106, 1726, 1727, 1728, 1729, 1730, 1731, 1732, 1733, 1734, 1735, 1736, 1737, 1738, 1739, 1740, 1741, 1800, 1801, 1802, 1803, 1816, 1817, 1818, 1819, 1820, 1821, 1822, 1823, 1824, 1825, 1826, 1827, 1828] (by decide +kernel) (by decide +kernel)
set_option maxRecDepth 20000 in
theorem gL_law_X11_heard : GoodIn wsL_law (wsV RL 202 RX11 yX11_heard wsX11_heard) := goodIn_app (goodIn_of _ (by decide +kernel)) ggL_law_X11_heard
set_option maxRecDepth 20000 in
theorem ggL_law_X12_heard : GoodIn wsL_law wsX12_heard := goodIn_r _ [1673, 209, 744, 176, 961, 962, 963, 5, 964, 745, 896, 897, 898, 899, 754, 755, 756, 757, 170, 900, 901, 902, 903, 904, 835, 300, 836, 905, 906, 907, 1742, 1743, 1744, 1745, 1746, 1747, 1748, 1749, 1750, 1751, 1752, 1753, 1754, 1755, 1756, 1757, 1758, 1759, 1760, 1761, 1762, 1763, 1764, 1765, 1766, 1767, 1768, 1769, 1770, 1771, 1772, 1773, 1774, 1775, 1776, 1777, 1778, 1779, 1780, 1781, 1782, 1783, 1784, 1785, 1786, 1787, 1788, 1789, 1790, 1791, 1792, 1793, 1794, 1795] (by decide +kernel) (by decide +kernel)
set_option maxRecDepth 20000 in
theorem gL_law_X12_heard : GoodIn wsL_law (wsV RL 205 RX12 yX12_heard wsX12_heard) := goodIn_app (goodIn_of _ (by decide +kernel)) ggL_law_X12_heard
set_option maxRecDepth 20000 in
theorem ggL_law_X11_middle : GoodIn wsL_law wsX11_middle := goodIn_r _ [1677, 55, 765, 766, 767, 2, 768, 21, 671, 1678, 1679, 1680, 54, 1681, 1338, 152, 1320, 1325, 1326, 1327, 1328, 1329, 835, 300, 836, 1322, 405, 406, 20, 407, 69, 1323, 409, 410, 411, 1726, 1727, 1728, 1729, 1730, 1731, 1732, 1733, 1734, 1735, 1736, 1737, 1738, 1739, 1740, 1741, 1800, 1801, 1802, 1803, 1854, 1855, 1856, 1857] (by decide +kernel) (by decide +kernel)
set_option maxRecDepth 20000 in
theorem gL_law_X11_middle : GoodIn wsL_law (wsV RL 206 RX11 yX11_middle wsX11_middle) := goodIn_app (goodIn_of _ (by decide +kernel)) ggL_law_X11_middle
set_option maxRecDepth 20000 in
theorem ggL_law_X12_middle : GoodIn wsL_law wsX12_middle := goodIn_r _ [1685, 209, 744, 904, 835, 300, 836, 754, 755, 756, 5, 757, 170, 1742, 1743, 1744, 1745, 1746, 1747, 1748, 1749, 1750, 1751, 1752, 1753, 1754, 1755, 1756, 1757, 1758, 1759, 1760, 1761, 1762, 1763, 1764, 1765, 1766, 1767, 1768, 1769, 1770, 1771, 1772, 1773, 1774, 1775, 1776, 1777, 1778, 1779, 1780, 1781, 1782, 1783, 1784, 1785, 1786, 1787, 1788, 1789, 1790, 1791, 1792, 1793, 1794, 1795] (by decide +kernel) (by decide +kernel)
set_option maxRecDepth 20000 in
theorem gL_law_X12_middle : GoodIn wsL_law (wsV RL 209 RX12 yX12_middle wsX12_middle) := goodIn_app (goodIn_of _ (by decide +kernel)) ggL_law_X12_middle
set_option maxRecDepth 20000 in
theorem ggL_law_X11_image : GoodIn wsL_law wsX11_image := goodIn_r _ [1689, 43, 38, 764, 765, 766, 767, 2, 768, 21, 671, 1690, 1691, 1692, 42, 1693, 121, 120, 122, 1132, 677, 678, 679, 728, 1007, 1008, 1009, 37, 1010, 684, 685, 686, 687, 105, 1011, 106, 107, 108, 109, 110, 111, 112, 113, 1726, 1727, 1728, 1729, 1730, 1731, 1732, 1733, 1734, 1735, 1736, 1737, 1738, 1739, 1740, 1741, 1816, 1817, 1818, 1819, 1820, 1821, 1822, 1823, 1824, 1825, 1826, 1827, 1828, 1800, 1801, 1802, 1803, 1829, 1830, 1831, 1832, 1833, 1834, 1835] (by decide +kernel) (by decide +kernel)
set_option maxRecDepth 20000 in
theorem gL_law_X11_image : GoodIn wsL_law (wsV RL 210 RX11 yX11_image wsX11_image) := goodIn_app (goodIn_of _ (by decide +kernel)) ggL_law_X11_image
set_option maxRecDepth 20000 in
theorem ggL_law_X12_image : GoodIn wsL_law wsX12_image := goodIn_r _ [1697, 209, 744, 176, 191, 753, 1254, 1255, 5, 1256, 1742, 1743, 1744, 1745, 1746, 1747, 1748, 1749, 1750, 1751, 1752, 1753, 1754, 1755, 1756, 1757, 1758, 1759, 1760, 1761, 1762, 1763, 1764, 1765, 1766, 1767, 1768, 1769, 1770, 1771, 1772, 1773, 1774, 1775, 1776, 1777, 1778, 1779, 1780, 1781, 1782, 1783, 1784, 1785, 1786, 1787, 1788, 1789, 1790, 1791, 1792, 1793, 1794, 1795] (by decide +kernel) (by decide +kernel)
set_option maxRecDepth 20000 in
theorem gL_law_X12_image : GoodIn wsL_law (wsV RL 213 RX12 yX12_image wsX12_image) := goodIn_app (goodIn_of _ (by decide +kernel)) ggL_law_X12_image
set_option maxRecDepth 20000 in
theorem ggL_law_X11_back : GoodIn wsL_law wsX11_back := goodIn_r _ [1701, 43, 38, 764, 1702, 1703, 1704, 42, 1705, 728, 121, 122, 120, 1132, 677, 678, 679, 727, 1007, 1008, 1009, 37, 1010, 684, 685, 686, 687, 105, 1011, 106, 107, 108, 109, 110, 111, 112, 113, 1726, 1727, 1728, 1729, 1730, 1731, 1732, 1733, 1734, 1735, 1736, 1737, 1738, 1739, 1740, 1741, 1816, 1817, 1818, 1819, 1820, 1821, 1822, 1823, 1824, 1825, 1826, 1827, 1828, 1829, 1830, 1831, 1832, 1833, 1834, 1835] (by decide +kernel) (by decide +kernel)
set_option maxRecDepth 20000 in
theorem gL_law_X11_back : GoodIn wsL_law (wsV RL 214 RX11 yX11_back wsX11_back) := goodIn_app (goodIn_of _ (by decide +kernel)) ggL_law_X11_back
set_option maxRecDepth 20000 in
theorem ggL_law_X12_back : GoodIn wsL_law wsX12_back := goodIn_r _ [1709, 209, 753, 191, 176, 752, 1254, 1255, 5, 1256, 1742, 1743, 1744, 1745, 1746, 1747, 1748, 1749, 1750, 1751, 1752, 1753, 1754, 1755, 1756, 1757, 1758, 1759, 1760, 1761, 1762, 1763, 1764, 1765, 1766, 1767, 1768, 1769, 1770, 1771, 1772, 1773, 1774, 1775, 1776, 1777, 1778, 1779, 1780, 1781, 1782, 1783, 1784, 1785, 1786, 1787, 1788, 1789, 1790, 1791, 1792, 1793, 1794, 1795] (by decide +kernel) (by decide +kernel)
set_option maxRecDepth 20000 in
theorem gL_law_X12_back : GoodIn wsL_law (wsV RL 217 RX12 yX12_back wsX12_back) := goodIn_app (goodIn_of _ (by decide +kernel)) ggL_law_X12_back
set_option maxRecDepth 20000 in
theorem ggL_law_X11_count : GoodIn wsL_law wsX11_count := goodIn_r _ [1713, 21, 671, 950, 26, 733, 233, 17, 196, 969, 38, 764, 34, 803, 944, 47, 670, 43, 1186, 978, 1281, 1112, 1113, 33, 1114, 99, 95, 1115, 819, 97, 98, 820, 821, 822, 823, 824, 825, 826, 96, 827, 828, 405, 406, 20, 407, 69, 829, 409, 410, 411, 830, 831, 832, 37, 833, 105, 834, 835, 300, 836, 106, 837, 838, 839, 840, 841, 842, 843, 844, 845, 846, 847, 848, 849, 778, 779, 780, 781, 770, 771, 772, 850, 851, 852, 25, 853, 78, 421, 79, 75, 854, 855, 856, 77, 857, 426, 84, 85, 858, 859, 860, 861, 862, 863, 864, 865, 866, 812, 813, 814, 867, 868, 869, 870, 1714, 1715, 1716, 1717, 1718, 1548, 1549, 1550, 1719, 1720, 2, 1721, 1200, 1201, 1202, 1203, 687, 1110, 303, 304, 1726, 1727, 1728, 1729, 1730, 1731, 1732, 1733, 1734, 1735, 1736, 1737, 1738, 1739, 1740, 1741, 1800, 1801, 1802, 1803, 1804, 1805, 1806, 1807, 1796, 1797, 1798, 1799, 1816, 1817, 1818, 1819, 1820, 1821, 1822, 1823, 1824, 1825, 1826, 1827, 1828, 1836, 1837, 1838, 1839, 1840, 1841, 1842, 1843, 1844, 1845, 1846, 1847, 1829, 1830, 1831, 1832, 1833, 1834, 1835, 1810, 1811, 1812, 1813, 1814, 1815, 1858, 1859, 1860] (by decide +kernel) (by decide +kernel)
set_option maxRecDepth 20000 in
theorem gL_law_X11_count : GoodIn wsL_law (wsV RL 218 RX11 yX11_count wsX11_count) := goodIn_app (goodIn_of _ (by decide +kernel)) ggL_law_X11_count
set_option maxRecDepth 20000 in
theorem ggL_law_X12_count : GoodIn wsL_law wsX12_count := goodIn_r _ [1725, 209, 744, 745, 742, 743, 210, 178, 176, 751, 752, 984, 880, 881, 882, 5, 883, 181, 884, 885, 886, 887, 888, 889, 890, 891, 172, 892, 893, 894, 895, 896, 897, 898, 899, 754, 755, 756, 757, 170, 900, 901, 902, 903, 904, 835, 300, 836, 905, 906, 907, 908, 909, 910, 911, 787, 788, 789, 790, 168, 912, 913, 914, 915, 164, 916, 303, 304, 917, 299, 301, 918, 919, 920, 921, 922, 923, 924, 925, 926, 927, 179, 180, 162, 163, 592, 585, 586, 587, 588, 589, 590, 591, 499, 510, 511, 512, 513, 514, 165, 515, 516, 593, 594, 595, 596, 524, 525, 526, 527, 597, 598, 599, 536, 252, 253, 254, 255, 256, 257, 258, 259, 260, 261, 262, 540, 541, 542, 543, 289, 290, 291, 292, 544, 545, 296, 546, 547, 548, 549, 330, 550, 551, 333, 552, 553, 554, 313, 555, 556, 557, 558, 324, 325, 326, 559, 338, 339, 340, 341, 342, 343, 528, 529, 530, 531, 600, 601, 602, 603, 604, 605, 606, 607, 608, 609, 610, 611, 612, 613, 614, 615, 616, 617, 618, 619, 620, 621, 622, 623, 624, 625, 626, 627, 628, 629, 630, 631, 632, 633, 634, 635, 636, 637, 638, 573, 574, 575, 576, 639, 640, 641, 642, 643, 644, 645, 646, 647, 648, 649, 928, 929, 930, 931, 1742, 1743, 1744, 1745, 1746, 1747, 1748, 1749, 1750, 1751, 1752, 1753, 1754, 1755, 1756, 1757, 1758, 1759, 1760, 1761, 1762, 1763, 1764, 1765, 1766, 1767, 1768, 1769, 1770, 1771, 1772, 1773, 1774, 1775, 1776, 1777, 1778, 1779, 1780, 1781, 1782, 1783, 1784, 1785, 1786, 1787, 1788, 1789, 1790, 1791, 1792, 1793, 1794, 1795] (by decide +kernel) (by decide +kernel)
set_option maxRecDepth 20000 in
theorem gL_law_X12_count : GoodIn wsL_law (wsV RL 221 RX12 yX12_count wsX12_count) := goodIn_app (goodIn_of _ (by decide +kernel)) ggL_law_X12_count
theorem dL_law_0 : decode cL_law 0 = .ok (.new 8, 3) := by decide +kernel
theorem dL_law_3 : decode cL_law 3 = .ok (.dup, 1) := by decide +kernel
theorem dL_law_4 : decode cL_law 4 = .ok (.invokespecial 15, 3) := by decide +kernel
theorem dL_law_7 : decode cL_law 7 = .ok (.astore_n 1, 1) := by decide +kernel
theorem dL_law_8 : decode cL_law 8 = .ok (.new 16, 3) := by decide +kernel
theorem dL_law_11 : decode cL_law 11 = .ok (.dup, 1) := by decide +kernel
theorem dL_law_12 : decode cL_law 12 = .ok (.invokespecial 18, 3) := by decide +kernel
theorem dL_law_15 : decode cL_law 15 = .ok (.astore_n 2, 1) := by decide +kernel
theorem dL_law_16 : decode cL_law 16 = .ok (.iconst 1, 1) := by decide +kernel
theorem dL_law_17 : decode cL_law 17 = .ok (.newarray .long, 2) := by decide +kernel
theorem dL_law_19 : decode cL_law 19 = .ok (.astore_n 3, 1) := by decide +kernel
theorem dL_law_20 : decode cL_law 20 = .ok (.iconst 0, 1) := by decide +kernel
theorem dL_law_21 : decode cL_law 21 = .ok (.istore 4, 2) := by decide +kernel
theorem dL_law_23 : decode cL_law 23 = .ok (.iload 4, 2) := by decide +kernel
theorem dL_law_25 : decode cL_law 25 = .ok (.aload_n 0, 1) := by decide +kernel
theorem dL_law_26 : decode cL_law 26 = .ok (.arraylength, 1) := by decide +kernel
theorem dL_law_27 : decode cL_law 27 = .ok (.bipush 6, 2) := by decide +kernel
theorem dL_law_29 : decode cL_law 29 = .ok (.isub, 1) := by decide +kernel
theorem dL_law_30 : decode cL_law 30 = .ok (.if_icmp .gt 1902, 3) := by decide +kernel
theorem dL_law_33 : decode cL_law 33 = .ok (.aload_n 0, 1) := by decide +kernel
theorem dL_law_34 : decode cL_law 34 = .ok (.iload 4, 2) := by decide +kernel
theorem dL_law_36 : decode cL_law 36 = .ok (.iaload, 1) := by decide +kernel
theorem dL_law_37 : decode cL_law 37 = .ok (.bipush 63, 2) := by decide +kernel
theorem dL_law_39 : decode cL_law 39 = .ok (.iand, 1) := by decide +kernel
theorem dL_law_40 : decode cL_law 40 = .ok (.tableswitch 1886 0 46 #[204, 277, 302, 327, 352, 377, 445, 482, 507, 544, 581, 630, 667, 704, 741, 766, 835, 848, 885, 934, 971, 996, 1021, 1034, 1071, 1108, 1157, 1194, 1267, 1316, 1365, 1426, 1463, 1488, 1525, 1574, 1599, 1636, 1661, 1698, 1723, 1760, 1797, 1822, 1835, 1848, 1861], 204) := by decide +kernel
theorem dL_law_244 : decode cL_law 244 = .ok (.aload_n 1, 1) := by decide +kernel
theorem dL_law_245 : decode cL_law 245 = .ok (.aload_n 0, 1) := by decide +kernel
theorem dL_law_246 : decode cL_law 246 = .ok (.iload 4, 2) := by decide +kernel
theorem dL_law_248 : decode cL_law 248 = .ok (.iconst 1, 1) := by decide +kernel
theorem dL_law_249 : decode cL_law 249 = .ok (.iadd, 1) := by decide +kernel
theorem dL_law_250 : decode cL_law 250 = .ok (.iaload, 1) := by decide +kernel
theorem dL_law_251 : decode cL_law 251 = .ok (.aload_n 0, 1) := by decide +kernel
theorem dL_law_252 : decode cL_law 252 = .ok (.iload 4, 2) := by decide +kernel
theorem dL_law_254 : decode cL_law 254 = .ok (.iconst 2, 1) := by decide +kernel
theorem dL_law_255 : decode cL_law 255 = .ok (.iadd, 1) := by decide +kernel
theorem dL_law_256 : decode cL_law 256 = .ok (.iaload, 1) := by decide +kernel
theorem dL_law_257 : decode cL_law 257 = .ok (.aload_n 0, 1) := by decide +kernel
theorem dL_law_258 : decode cL_law 258 = .ok (.iload 4, 2) := by decide +kernel
theorem dL_law_260 : decode cL_law 260 = .ok (.iconst 3, 1) := by decide +kernel
theorem dL_law_261 : decode cL_law 261 = .ok (.iadd, 1) := by decide +kernel
theorem dL_law_262 : decode cL_law 262 = .ok (.iaload, 1) := by decide +kernel
theorem dL_law_263 : decode cL_law 263 = .ok (.aload_n 0, 1) := by decide +kernel
theorem dL_law_264 : decode cL_law 264 = .ok (.iload 4, 2) := by decide +kernel
theorem dL_law_266 : decode cL_law 266 = .ok (.iconst 4, 1) := by decide +kernel
theorem dL_law_267 : decode cL_law 267 = .ok (.iadd, 1) := by decide +kernel
theorem dL_law_268 : decode cL_law 268 = .ok (.iaload, 1) := by decide +kernel
theorem dL_law_269 : decode cL_law 269 = .ok (.aload_n 0, 1) := by decide +kernel
theorem dL_law_270 : decode cL_law 270 = .ok (.iload 4, 2) := by decide +kernel
theorem dL_law_272 : decode cL_law 272 = .ok (.iconst 5, 1) := by decide +kernel
theorem dL_law_273 : decode cL_law 273 = .ok (.iadd, 1) := by decide +kernel
theorem dL_law_274 : decode cL_law 274 = .ok (.iaload, 1) := by decide +kernel
theorem dL_law_275 : decode cL_law 275 = .ok (.invokevirtual 19, 3) := by decide +kernel
theorem dL_law_278 : decode cL_law 278 = .ok (.aload_n 2, 1) := by decide +kernel
theorem dL_law_279 : decode cL_law 279 = .ok (.aload_n 0, 1) := by decide +kernel
theorem dL_law_280 : decode cL_law 280 = .ok (.iload 4, 2) := by decide +kernel
theorem dL_law_282 : decode cL_law 282 = .ok (.iconst 1, 1) := by decide +kernel
theorem dL_law_283 : decode cL_law 283 = .ok (.iadd, 1) := by decide +kernel
theorem dL_law_284 : decode cL_law 284 = .ok (.iaload, 1) := by decide +kernel
theorem dL_law_285 : decode cL_law 285 = .ok (.aload_n 0, 1) := by decide +kernel
theorem dL_law_286 : decode cL_law 286 = .ok (.iload 4, 2) := by decide +kernel
theorem dL_law_288 : decode cL_law 288 = .ok (.iconst 2, 1) := by decide +kernel
theorem dL_law_289 : decode cL_law 289 = .ok (.iadd, 1) := by decide +kernel
theorem dL_law_290 : decode cL_law 290 = .ok (.iaload, 1) := by decide +kernel
theorem dL_law_291 : decode cL_law 291 = .ok (.aload_n 0, 1) := by decide +kernel
theorem dL_law_292 : decode cL_law 292 = .ok (.iload 4, 2) := by decide +kernel
theorem dL_law_294 : decode cL_law 294 = .ok (.iconst 3, 1) := by decide +kernel
theorem dL_law_295 : decode cL_law 295 = .ok (.iadd, 1) := by decide +kernel
theorem dL_law_296 : decode cL_law 296 = .ok (.iaload, 1) := by decide +kernel
theorem dL_law_297 : decode cL_law 297 = .ok (.aload_n 0, 1) := by decide +kernel
theorem dL_law_298 : decode cL_law 298 = .ok (.iload 4, 2) := by decide +kernel
theorem dL_law_300 : decode cL_law 300 = .ok (.iconst 4, 1) := by decide +kernel
theorem dL_law_301 : decode cL_law 301 = .ok (.iadd, 1) := by decide +kernel
theorem dL_law_302 : decode cL_law 302 = .ok (.iaload, 1) := by decide +kernel
theorem dL_law_303 : decode cL_law 303 = .ok (.aload_n 0, 1) := by decide +kernel
theorem dL_law_304 : decode cL_law 304 = .ok (.iload 4, 2) := by decide +kernel
theorem dL_law_306 : decode cL_law 306 = .ok (.iconst 5, 1) := by decide +kernel
theorem dL_law_307 : decode cL_law 307 = .ok (.iadd, 1) := by decide +kernel
theorem dL_law_308 : decode cL_law 308 = .ok (.iaload, 1) := by decide +kernel
theorem dL_law_309 : decode cL_law 309 = .ok (.invokevirtual 23, 3) := by decide +kernel
theorem dL_law_312 : decode cL_law 312 = .ok (.if_icmp .eq 1614, 3) := by decide +kernel
theorem dL_law_315 : decode cL_law 315 = .ok (.iconst 0, 1) := by decide +kernel
theorem dL_law_316 : decode cL_law 316 = .ok (.ireturn, 1) := by decide +kernel
theorem dL_law_317 : decode cL_law 317 = .ok (.aload_n 1, 1) := by decide +kernel
theorem dL_law_318 : decode cL_law 318 = .ok (.aload_n 0, 1) := by decide +kernel
theorem dL_law_319 : decode cL_law 319 = .ok (.iload 4, 2) := by decide +kernel
theorem dL_law_321 : decode cL_law 321 = .ok (.iconst 1, 1) := by decide +kernel
theorem dL_law_322 : decode cL_law 322 = .ok (.iadd, 1) := by decide +kernel
theorem dL_law_323 : decode cL_law 323 = .ok (.iaload, 1) := by decide +kernel
theorem dL_law_324 : decode cL_law 324 = .ok (.invokevirtual 24, 3) := by decide +kernel
theorem dL_law_327 : decode cL_law 327 = .ok (.aload_n 2, 1) := by decide +kernel
theorem dL_law_328 : decode cL_law 328 = .ok (.aload_n 0, 1) := by decide +kernel
theorem dL_law_329 : decode cL_law 329 = .ok (.iload 4, 2) := by decide +kernel
theorem dL_law_331 : decode cL_law 331 = .ok (.iconst 1, 1) := by decide +kernel
theorem dL_law_332 : decode cL_law 332 = .ok (.iadd, 1) := by decide +kernel
theorem dL_law_333 : decode cL_law 333 = .ok (.iaload, 1) := by decide +kernel
theorem dL_law_334 : decode cL_law 334 = .ok (.invokevirtual 28, 3) := by decide +kernel
theorem dL_law_337 : decode cL_law 337 = .ok (.if_icmp .eq 1589, 3) := by decide +kernel
theorem dL_law_340 : decode cL_law 340 = .ok (.iconst 0, 1) := by decide +kernel
theorem dL_law_341 : decode cL_law 341 = .ok (.ireturn, 1) := by decide +kernel
theorem dL_law_342 : decode cL_law 342 = .ok (.aload_n 1, 1) := by decide +kernel
theorem dL_law_343 : decode cL_law 343 = .ok (.aload_n 0, 1) := by decide +kernel
theorem dL_law_344 : decode cL_law 344 = .ok (.iload 4, 2) := by decide +kernel
theorem dL_law_346 : decode cL_law 346 = .ok (.iconst 1, 1) := by decide +kernel
theorem dL_law_347 : decode cL_law 347 = .ok (.iadd, 1) := by decide +kernel
theorem dL_law_348 : decode cL_law 348 = .ok (.iaload, 1) := by decide +kernel
theorem dL_law_349 : decode cL_law 349 = .ok (.invokevirtual 29, 3) := by decide +kernel
theorem dL_law_352 : decode cL_law 352 = .ok (.aload_n 2, 1) := by decide +kernel
theorem dL_law_353 : decode cL_law 353 = .ok (.aload_n 0, 1) := by decide +kernel
theorem dL_law_354 : decode cL_law 354 = .ok (.iload 4, 2) := by decide +kernel
theorem dL_law_356 : decode cL_law 356 = .ok (.iconst 1, 1) := by decide +kernel
theorem dL_law_357 : decode cL_law 357 = .ok (.iadd, 1) := by decide +kernel
theorem dL_law_358 : decode cL_law 358 = .ok (.iaload, 1) := by decide +kernel
theorem dL_law_359 : decode cL_law 359 = .ok (.invokevirtual 33, 3) := by decide +kernel
theorem dL_law_362 : decode cL_law 362 = .ok (.if_icmp .eq 1564, 3) := by decide +kernel
theorem dL_law_365 : decode cL_law 365 = .ok (.iconst 0, 1) := by decide +kernel
theorem dL_law_366 : decode cL_law 366 = .ok (.ireturn, 1) := by decide +kernel
theorem dL_law_367 : decode cL_law 367 = .ok (.aload_n 1, 1) := by decide +kernel
theorem dL_law_368 : decode cL_law 368 = .ok (.aload_n 0, 1) := by decide +kernel
theorem dL_law_369 : decode cL_law 369 = .ok (.iload 4, 2) := by decide +kernel
theorem dL_law_371 : decode cL_law 371 = .ok (.iconst 1, 1) := by decide +kernel
theorem dL_law_372 : decode cL_law 372 = .ok (.iadd, 1) := by decide +kernel
theorem dL_law_373 : decode cL_law 373 = .ok (.iaload, 1) := by decide +kernel
theorem dL_law_374 : decode cL_law 374 = .ok (.invokevirtual 34, 3) := by decide +kernel
theorem dL_law_377 : decode cL_law 377 = .ok (.aload_n 2, 1) := by decide +kernel
theorem dL_law_378 : decode cL_law 378 = .ok (.aload_n 0, 1) := by decide +kernel
theorem dL_law_379 : decode cL_law 379 = .ok (.iload 4, 2) := by decide +kernel
theorem dL_law_381 : decode cL_law 381 = .ok (.iconst 1, 1) := by decide +kernel
theorem dL_law_382 : decode cL_law 382 = .ok (.iadd, 1) := by decide +kernel
theorem dL_law_383 : decode cL_law 383 = .ok (.iaload, 1) := by decide +kernel
theorem dL_law_384 : decode cL_law 384 = .ok (.invokevirtual 37, 3) := by decide +kernel
theorem dL_law_387 : decode cL_law 387 = .ok (.if_icmp .eq 1539, 3) := by decide +kernel
theorem dL_law_390 : decode cL_law 390 = .ok (.iconst 0, 1) := by decide +kernel
theorem dL_law_391 : decode cL_law 391 = .ok (.ireturn, 1) := by decide +kernel
theorem dL_law_392 : decode cL_law 392 = .ok (.aload_n 1, 1) := by decide +kernel
theorem dL_law_393 : decode cL_law 393 = .ok (.aload_n 0, 1) := by decide +kernel
theorem dL_law_394 : decode cL_law 394 = .ok (.iload 4, 2) := by decide +kernel
theorem dL_law_396 : decode cL_law 396 = .ok (.iconst 1, 1) := by decide +kernel
theorem dL_law_397 : decode cL_law 397 = .ok (.iadd, 1) := by decide +kernel
theorem dL_law_398 : decode cL_law 398 = .ok (.iaload, 1) := by decide +kernel
theorem dL_law_399 : decode cL_law 399 = .ok (.invokevirtual 38, 3) := by decide +kernel
theorem dL_law_402 : decode cL_law 402 = .ok (.aload_n 2, 1) := by decide +kernel
theorem dL_law_403 : decode cL_law 403 = .ok (.aload_n 0, 1) := by decide +kernel
theorem dL_law_404 : decode cL_law 404 = .ok (.iload 4, 2) := by decide +kernel
theorem dL_law_406 : decode cL_law 406 = .ok (.iconst 1, 1) := by decide +kernel
theorem dL_law_407 : decode cL_law 407 = .ok (.iadd, 1) := by decide +kernel
theorem dL_law_408 : decode cL_law 408 = .ok (.iaload, 1) := by decide +kernel
theorem dL_law_409 : decode cL_law 409 = .ok (.invokevirtual 41, 3) := by decide +kernel
theorem dL_law_412 : decode cL_law 412 = .ok (.if_icmp .eq 1514, 3) := by decide +kernel
theorem dL_law_415 : decode cL_law 415 = .ok (.iconst 0, 1) := by decide +kernel
theorem dL_law_416 : decode cL_law 416 = .ok (.ireturn, 1) := by decide +kernel
theorem dL_law_417 : decode cL_law 417 = .ok (.aload_n 1, 1) := by decide +kernel
theorem dL_law_418 : decode cL_law 418 = .ok (.aload_n 0, 1) := by decide +kernel
theorem dL_law_419 : decode cL_law 419 = .ok (.iload 4, 2) := by decide +kernel
theorem dL_law_421 : decode cL_law 421 = .ok (.iconst 1, 1) := by decide +kernel
theorem dL_law_422 : decode cL_law 422 = .ok (.iadd, 1) := by decide +kernel
theorem dL_law_423 : decode cL_law 423 = .ok (.iaload, 1) := by decide +kernel
theorem dL_law_424 : decode cL_law 424 = .ok (.aload_n 0, 1) := by decide +kernel
theorem dL_law_425 : decode cL_law 425 = .ok (.iload 4, 2) := by decide +kernel
theorem dL_law_427 : decode cL_law 427 = .ok (.iconst 2, 1) := by decide +kernel
theorem dL_law_428 : decode cL_law 428 = .ok (.iadd, 1) := by decide +kernel
theorem dL_law_429 : decode cL_law 429 = .ok (.iaload, 1) := by decide +kernel
theorem dL_law_430 : decode cL_law 430 = .ok (.aload_n 3, 1) := by decide +kernel
theorem dL_law_431 : decode cL_law 431 = .ok (.invokestatic 42, 3) := by decide +kernel
theorem dL_law_434 : decode cL_law 434 = .ok (.istore 5, 2) := by decide +kernel
theorem dL_law_436 : decode cL_law 436 = .ok (.aload_n 2, 1) := by decide +kernel
theorem dL_law_437 : decode cL_law 437 = .ok (.aload_n 0, 1) := by decide +kernel
theorem dL_law_438 : decode cL_law 438 = .ok (.iload 4, 2) := by decide +kernel
theorem dL_law_440 : decode cL_law 440 = .ok (.iconst 1, 1) := by decide +kernel
theorem dL_law_441 : decode cL_law 441 = .ok (.iadd, 1) := by decide +kernel
theorem dL_law_442 : decode cL_law 442 = .ok (.iaload, 1) := by decide +kernel
theorem dL_law_443 : decode cL_law 443 = .ok (.aload_n 0, 1) := by decide +kernel
theorem dL_law_444 : decode cL_law 444 = .ok (.iload 4, 2) := by decide +kernel
theorem dL_law_446 : decode cL_law 446 = .ok (.iconst 2, 1) := by decide +kernel
theorem dL_law_447 : decode cL_law 447 = .ok (.iadd, 1) := by decide +kernel
theorem dL_law_448 : decode cL_law 448 = .ok (.iaload, 1) := by decide +kernel
theorem dL_law_449 : decode cL_law 449 = .ok (.invokevirtual 47, 3) := by decide +kernel
theorem dL_law_452 : decode cL_law 452 = .ok (.istore 6, 2) := by decide +kernel
theorem dL_law_454 : decode cL_law 454 = .ok (.aload_n 2, 1) := by decide +kernel
theorem dL_law_455 : decode cL_law 455 = .ok (.invokevirtual 48, 3) := by decide +kernel
theorem dL_law_458 : decode cL_law 458 = .ok (.iload 5, 2) := by decide +kernel
theorem dL_law_460 : decode cL_law 460 = .ok (.if_icmp .eq 5, 3) := by decide +kernel
theorem dL_law_463 : decode cL_law 463 = .ok (.iconst 0, 1) := by decide +kernel
theorem dL_law_464 : decode cL_law 464 = .ok (.ireturn, 1) := by decide +kernel
theorem dL_law_465 : decode cL_law 465 = .ok (.iload 5, 2) := by decide +kernel
theorem dL_law_467 : decode cL_law 467 = .ok (.ifCond .ne 15, 3) := by decide +kernel
theorem dL_law_470 : decode cL_law 470 = .ok (.aload_n 3, 1) := by decide +kernel
theorem dL_law_471 : decode cL_law 471 = .ok (.iconst 0, 1) := by decide +kernel
theorem dL_law_472 : decode cL_law 472 = .ok (.laload, 1) := by decide +kernel
theorem dL_law_473 : decode cL_law 473 = .ok (.iload 6, 2) := by decide +kernel
theorem dL_law_475 : decode cL_law 475 = .ok (.i2l, 1) := by decide +kernel
theorem dL_law_476 : decode cL_law 476 = .ok (.lcmp, 1) := by decide +kernel
theorem dL_law_477 : decode cL_law 477 = .ok (.ifCond .eq 5, 3) := by decide +kernel
theorem dL_law_480 : decode cL_law 480 = .ok (.iconst 0, 1) := by decide +kernel
theorem dL_law_481 : decode cL_law 481 = .ok (.ireturn, 1) := by decide +kernel
theorem dL_law_482 : decode cL_law 482 = .ok (.goto 1444, 3) := by decide +kernel
theorem dL_law_485 : decode cL_law 485 = .ok (.aload_n 1, 1) := by decide +kernel
theorem dL_law_486 : decode cL_law 486 = .ok (.aload_n 0, 1) := by decide +kernel
theorem dL_law_487 : decode cL_law 487 = .ok (.iload 4, 2) := by decide +kernel
theorem dL_law_489 : decode cL_law 489 = .ok (.iconst 1, 1) := by decide +kernel
theorem dL_law_490 : decode cL_law 490 = .ok (.iadd, 1) := by decide +kernel
theorem dL_law_491 : decode cL_law 491 = .ok (.iaload, 1) := by decide +kernel
theorem dL_law_492 : decode cL_law 492 = .ok (.aload_n 0, 1) := by decide +kernel
theorem dL_law_493 : decode cL_law 493 = .ok (.iload 4, 2) := by decide +kernel
theorem dL_law_495 : decode cL_law 495 = .ok (.iconst 2, 1) := by decide +kernel
theorem dL_law_496 : decode cL_law 496 = .ok (.iadd, 1) := by decide +kernel
theorem dL_law_497 : decode cL_law 497 = .ok (.iaload, 1) := by decide +kernel
theorem dL_law_498 : decode cL_law 498 = .ok (.invokevirtual 52, 3) := by decide +kernel
theorem dL_law_501 : decode cL_law 501 = .ok (.aload_n 2, 1) := by decide +kernel
theorem dL_law_502 : decode cL_law 502 = .ok (.aload_n 0, 1) := by decide +kernel
theorem dL_law_503 : decode cL_law 503 = .ok (.iload 4, 2) := by decide +kernel
theorem dL_law_505 : decode cL_law 505 = .ok (.iconst 1, 1) := by decide +kernel
theorem dL_law_506 : decode cL_law 506 = .ok (.iadd, 1) := by decide +kernel
theorem dL_law_507 : decode cL_law 507 = .ok (.iaload, 1) := by decide +kernel
theorem dL_law_508 : decode cL_law 508 = .ok (.aload_n 0, 1) := by decide +kernel
theorem dL_law_509 : decode cL_law 509 = .ok (.iload 4, 2) := by decide +kernel
theorem dL_law_511 : decode cL_law 511 = .ok (.iconst 2, 1) := by decide +kernel
theorem dL_law_512 : decode cL_law 512 = .ok (.iadd, 1) := by decide +kernel
theorem dL_law_513 : decode cL_law 513 = .ok (.iaload, 1) := by decide +kernel
theorem dL_law_514 : decode cL_law 514 = .ok (.invokevirtual 55, 3) := by decide +kernel
theorem dL_law_517 : decode cL_law 517 = .ok (.if_icmp .eq 1409, 3) := by decide +kernel
theorem dL_law_520 : decode cL_law 520 = .ok (.iconst 0, 1) := by decide +kernel
theorem dL_law_521 : decode cL_law 521 = .ok (.ireturn, 1) := by decide +kernel
theorem dL_law_522 : decode cL_law 522 = .ok (.aload_n 1, 1) := by decide +kernel
theorem dL_law_523 : decode cL_law 523 = .ok (.aload_n 0, 1) := by decide +kernel
theorem dL_law_524 : decode cL_law 524 = .ok (.iload 4, 2) := by decide +kernel
theorem dL_law_526 : decode cL_law 526 = .ok (.iconst 1, 1) := by decide +kernel
theorem dL_law_527 : decode cL_law 527 = .ok (.iadd, 1) := by decide +kernel
theorem dL_law_528 : decode cL_law 528 = .ok (.iaload, 1) := by decide +kernel
theorem dL_law_529 : decode cL_law 529 = .ok (.invokevirtual 56, 3) := by decide +kernel
theorem dL_law_532 : decode cL_law 532 = .ok (.aload_n 2, 1) := by decide +kernel
theorem dL_law_533 : decode cL_law 533 = .ok (.aload_n 0, 1) := by decide +kernel
theorem dL_law_534 : decode cL_law 534 = .ok (.iload 4, 2) := by decide +kernel
theorem dL_law_536 : decode cL_law 536 = .ok (.iconst 1, 1) := by decide +kernel
theorem dL_law_537 : decode cL_law 537 = .ok (.iadd, 1) := by decide +kernel
theorem dL_law_538 : decode cL_law 538 = .ok (.iaload, 1) := by decide +kernel
theorem dL_law_539 : decode cL_law 539 = .ok (.invokevirtual 59, 3) := by decide +kernel
theorem dL_law_542 : decode cL_law 542 = .ok (.if_icmp .eq 1384, 3) := by decide +kernel
theorem dL_law_545 : decode cL_law 545 = .ok (.iconst 0, 1) := by decide +kernel
theorem dL_law_546 : decode cL_law 546 = .ok (.ireturn, 1) := by decide +kernel
theorem dL_law_547 : decode cL_law 547 = .ok (.aload_n 1, 1) := by decide +kernel
theorem dL_law_548 : decode cL_law 548 = .ok (.aload_n 0, 1) := by decide +kernel
theorem dL_law_549 : decode cL_law 549 = .ok (.iload 4, 2) := by decide +kernel
theorem dL_law_551 : decode cL_law 551 = .ok (.iconst 1, 1) := by decide +kernel
theorem dL_law_552 : decode cL_law 552 = .ok (.iadd, 1) := by decide +kernel
theorem dL_law_553 : decode cL_law 553 = .ok (.iaload, 1) := by decide +kernel
theorem dL_law_554 : decode cL_law 554 = .ok (.aload_n 0, 1) := by decide +kernel
theorem dL_law_555 : decode cL_law 555 = .ok (.iload 4, 2) := by decide +kernel
theorem dL_law_557 : decode cL_law 557 = .ok (.iconst 2, 1) := by decide +kernel
theorem dL_law_558 : decode cL_law 558 = .ok (.iadd, 1) := by decide +kernel
theorem dL_law_559 : decode cL_law 559 = .ok (.iaload, 1) := by decide +kernel
theorem dL_law_560 : decode cL_law 560 = .ok (.invokevirtual 60, 3) := by decide +kernel
theorem dL_law_563 : decode cL_law 563 = .ok (.aload_n 2, 1) := by decide +kernel
theorem dL_law_564 : decode cL_law 564 = .ok (.aload_n 0, 1) := by decide +kernel
theorem dL_law_565 : decode cL_law 565 = .ok (.iload 4, 2) := by decide +kernel
theorem dL_law_567 : decode cL_law 567 = .ok (.iconst 1, 1) := by decide +kernel
theorem dL_law_568 : decode cL_law 568 = .ok (.iadd, 1) := by decide +kernel
theorem dL_law_569 : decode cL_law 569 = .ok (.iaload, 1) := by decide +kernel
theorem dL_law_570 : decode cL_law 570 = .ok (.aload_n 0, 1) := by decide +kernel
theorem dL_law_571 : decode cL_law 571 = .ok (.iload 4, 2) := by decide +kernel
theorem dL_law_573 : decode cL_law 573 = .ok (.iconst 2, 1) := by decide +kernel
theorem dL_law_574 : decode cL_law 574 = .ok (.iadd, 1) := by decide +kernel
theorem dL_law_575 : decode cL_law 575 = .ok (.iaload, 1) := by decide +kernel
theorem dL_law_576 : decode cL_law 576 = .ok (.invokevirtual 63, 3) := by decide +kernel
theorem dL_law_579 : decode cL_law 579 = .ok (.if_icmp .eq 1347, 3) := by decide +kernel
theorem dL_law_582 : decode cL_law 582 = .ok (.iconst 0, 1) := by decide +kernel
theorem dL_law_583 : decode cL_law 583 = .ok (.ireturn, 1) := by decide +kernel
theorem dL_law_584 : decode cL_law 584 = .ok (.aload_n 1, 1) := by decide +kernel
theorem dL_law_585 : decode cL_law 585 = .ok (.aload_n 0, 1) := by decide +kernel
theorem dL_law_586 : decode cL_law 586 = .ok (.iload 4, 2) := by decide +kernel
theorem dL_law_588 : decode cL_law 588 = .ok (.iconst 1, 1) := by decide +kernel
theorem dL_law_589 : decode cL_law 589 = .ok (.iadd, 1) := by decide +kernel
theorem dL_law_590 : decode cL_law 590 = .ok (.iaload, 1) := by decide +kernel
theorem dL_law_591 : decode cL_law 591 = .ok (.aload_n 0, 1) := by decide +kernel
theorem dL_law_592 : decode cL_law 592 = .ok (.iload 4, 2) := by decide +kernel
theorem dL_law_594 : decode cL_law 594 = .ok (.iconst 2, 1) := by decide +kernel
theorem dL_law_595 : decode cL_law 595 = .ok (.iadd, 1) := by decide +kernel
theorem dL_law_596 : decode cL_law 596 = .ok (.iaload, 1) := by decide +kernel
theorem dL_law_597 : decode cL_law 597 = .ok (.invokevirtual 64, 3) := by decide +kernel
theorem dL_law_600 : decode cL_law 600 = .ok (.aload_n 2, 1) := by decide +kernel
theorem dL_law_601 : decode cL_law 601 = .ok (.aload_n 0, 1) := by decide +kernel
theorem dL_law_602 : decode cL_law 602 = .ok (.iload 4, 2) := by decide +kernel
theorem dL_law_604 : decode cL_law 604 = .ok (.iconst 1, 1) := by decide +kernel
theorem dL_law_605 : decode cL_law 605 = .ok (.iadd, 1) := by decide +kernel
theorem dL_law_606 : decode cL_law 606 = .ok (.iaload, 1) := by decide +kernel
theorem dL_law_607 : decode cL_law 607 = .ok (.aload_n 0, 1) := by decide +kernel
theorem dL_law_608 : decode cL_law 608 = .ok (.iload 4, 2) := by decide +kernel
theorem dL_law_610 : decode cL_law 610 = .ok (.iconst 2, 1) := by decide +kernel
theorem dL_law_611 : decode cL_law 611 = .ok (.iadd, 1) := by decide +kernel
theorem dL_law_612 : decode cL_law 612 = .ok (.iaload, 1) := by decide +kernel
theorem dL_law_613 : decode cL_law 613 = .ok (.invokevirtual 67, 3) := by decide +kernel
theorem dL_law_616 : decode cL_law 616 = .ok (.if_icmp .eq 1310, 3) := by decide +kernel
theorem dL_law_619 : decode cL_law 619 = .ok (.iconst 0, 1) := by decide +kernel
theorem dL_law_620 : decode cL_law 620 = .ok (.ireturn, 1) := by decide +kernel
theorem dL_law_621 : decode cL_law 621 = .ok (.aload_n 1, 1) := by decide +kernel
theorem dL_law_622 : decode cL_law 622 = .ok (.aload_n 0, 1) := by decide +kernel
theorem dL_law_623 : decode cL_law 623 = .ok (.iload 4, 2) := by decide +kernel
theorem dL_law_625 : decode cL_law 625 = .ok (.iconst 1, 1) := by decide +kernel
theorem dL_law_626 : decode cL_law 626 = .ok (.iadd, 1) := by decide +kernel
theorem dL_law_627 : decode cL_law 627 = .ok (.iaload, 1) := by decide +kernel
theorem dL_law_628 : decode cL_law 628 = .ok (.aload_n 0, 1) := by decide +kernel
theorem dL_law_629 : decode cL_law 629 = .ok (.iload 4, 2) := by decide +kernel
theorem dL_law_631 : decode cL_law 631 = .ok (.iconst 2, 1) := by decide +kernel
theorem dL_law_632 : decode cL_law 632 = .ok (.iadd, 1) := by decide +kernel
theorem dL_law_633 : decode cL_law 633 = .ok (.iaload, 1) := by decide +kernel
theorem dL_law_634 : decode cL_law 634 = .ok (.aload_n 0, 1) := by decide +kernel
theorem dL_law_635 : decode cL_law 635 = .ok (.iload 4, 2) := by decide +kernel
theorem dL_law_637 : decode cL_law 637 = .ok (.iconst 3, 1) := by decide +kernel
theorem dL_law_638 : decode cL_law 638 = .ok (.iadd, 1) := by decide +kernel
theorem dL_law_639 : decode cL_law 639 = .ok (.iaload, 1) := by decide +kernel
theorem dL_law_640 : decode cL_law 640 = .ok (.invokevirtual 68, 3) := by decide +kernel
theorem dL_law_643 : decode cL_law 643 = .ok (.aload_n 2, 1) := by decide +kernel
theorem dL_law_644 : decode cL_law 644 = .ok (.aload_n 0, 1) := by decide +kernel
theorem dL_law_645 : decode cL_law 645 = .ok (.iload 4, 2) := by decide +kernel
theorem dL_law_647 : decode cL_law 647 = .ok (.iconst 1, 1) := by decide +kernel
theorem dL_law_648 : decode cL_law 648 = .ok (.iadd, 1) := by decide +kernel
theorem dL_law_649 : decode cL_law 649 = .ok (.iaload, 1) := by decide +kernel
theorem dL_law_650 : decode cL_law 650 = .ok (.aload_n 0, 1) := by decide +kernel
theorem dL_law_651 : decode cL_law 651 = .ok (.iload 4, 2) := by decide +kernel
theorem dL_law_653 : decode cL_law 653 = .ok (.iconst 2, 1) := by decide +kernel
theorem dL_law_654 : decode cL_law 654 = .ok (.iadd, 1) := by decide +kernel
theorem dL_law_655 : decode cL_law 655 = .ok (.iaload, 1) := by decide +kernel
theorem dL_law_656 : decode cL_law 656 = .ok (.aload_n 0, 1) := by decide +kernel
theorem dL_law_657 : decode cL_law 657 = .ok (.iload 4, 2) := by decide +kernel
theorem dL_law_659 : decode cL_law 659 = .ok (.iconst 3, 1) := by decide +kernel
theorem dL_law_660 : decode cL_law 660 = .ok (.iadd, 1) := by decide +kernel
theorem dL_law_661 : decode cL_law 661 = .ok (.iaload, 1) := by decide +kernel
theorem dL_law_662 : decode cL_law 662 = .ok (.invokevirtual 72, 3) := by decide +kernel
theorem dL_law_665 : decode cL_law 665 = .ok (.if_icmp .eq 1261, 3) := by decide +kernel
theorem dL_law_668 : decode cL_law 668 = .ok (.iconst 0, 1) := by decide +kernel
theorem dL_law_669 : decode cL_law 669 = .ok (.ireturn, 1) := by decide +kernel
theorem dL_law_670 : decode cL_law 670 = .ok (.aload_n 1, 1) := by decide +kernel
theorem dL_law_671 : decode cL_law 671 = .ok (.aload_n 0, 1) := by decide +kernel
theorem dL_law_672 : decode cL_law 672 = .ok (.iload 4, 2) := by decide +kernel
theorem dL_law_674 : decode cL_law 674 = .ok (.iconst 1, 1) := by decide +kernel
theorem dL_law_675 : decode cL_law 675 = .ok (.iadd, 1) := by decide +kernel
theorem dL_law_676 : decode cL_law 676 = .ok (.iaload, 1) := by decide +kernel
theorem dL_law_677 : decode cL_law 677 = .ok (.aload_n 0, 1) := by decide +kernel
theorem dL_law_678 : decode cL_law 678 = .ok (.iload 4, 2) := by decide +kernel
theorem dL_law_680 : decode cL_law 680 = .ok (.iconst 2, 1) := by decide +kernel
theorem dL_law_681 : decode cL_law 681 = .ok (.iadd, 1) := by decide +kernel
theorem dL_law_682 : decode cL_law 682 = .ok (.iaload, 1) := by decide +kernel
theorem dL_law_683 : decode cL_law 683 = .ok (.invokevirtual 73, 3) := by decide +kernel
theorem dL_law_686 : decode cL_law 686 = .ok (.aload_n 2, 1) := by decide +kernel
theorem dL_law_687 : decode cL_law 687 = .ok (.aload_n 0, 1) := by decide +kernel
theorem dL_law_688 : decode cL_law 688 = .ok (.iload 4, 2) := by decide +kernel
theorem dL_law_690 : decode cL_law 690 = .ok (.iconst 1, 1) := by decide +kernel
theorem dL_law_691 : decode cL_law 691 = .ok (.iadd, 1) := by decide +kernel
theorem dL_law_692 : decode cL_law 692 = .ok (.iaload, 1) := by decide +kernel
theorem dL_law_693 : decode cL_law 693 = .ok (.aload_n 0, 1) := by decide +kernel
theorem dL_law_694 : decode cL_law 694 = .ok (.iload 4, 2) := by decide +kernel
theorem dL_law_696 : decode cL_law 696 = .ok (.iconst 2, 1) := by decide +kernel
theorem dL_law_697 : decode cL_law 697 = .ok (.iadd, 1) := by decide +kernel
theorem dL_law_698 : decode cL_law 698 = .ok (.iaload, 1) := by decide +kernel
theorem dL_law_699 : decode cL_law 699 = .ok (.invokevirtual 76, 3) := by decide +kernel
theorem dL_law_702 : decode cL_law 702 = .ok (.if_icmp .eq 1224, 3) := by decide +kernel
theorem dL_law_705 : decode cL_law 705 = .ok (.iconst 0, 1) := by decide +kernel
theorem dL_law_706 : decode cL_law 706 = .ok (.ireturn, 1) := by decide +kernel
theorem dL_law_707 : decode cL_law 707 = .ok (.aload_n 1, 1) := by decide +kernel
theorem dL_law_708 : decode cL_law 708 = .ok (.aload_n 0, 1) := by decide +kernel
theorem dL_law_709 : decode cL_law 709 = .ok (.iload 4, 2) := by decide +kernel
theorem dL_law_711 : decode cL_law 711 = .ok (.iconst 1, 1) := by decide +kernel
theorem dL_law_712 : decode cL_law 712 = .ok (.iadd, 1) := by decide +kernel
theorem dL_law_713 : decode cL_law 713 = .ok (.iaload, 1) := by decide +kernel
theorem dL_law_714 : decode cL_law 714 = .ok (.aload_n 0, 1) := by decide +kernel
theorem dL_law_715 : decode cL_law 715 = .ok (.iload 4, 2) := by decide +kernel
theorem dL_law_717 : decode cL_law 717 = .ok (.iconst 2, 1) := by decide +kernel
theorem dL_law_718 : decode cL_law 718 = .ok (.iadd, 1) := by decide +kernel
theorem dL_law_719 : decode cL_law 719 = .ok (.iaload, 1) := by decide +kernel
theorem dL_law_720 : decode cL_law 720 = .ok (.invokevirtual 77, 3) := by decide +kernel
theorem dL_law_723 : decode cL_law 723 = .ok (.aload_n 2, 1) := by decide +kernel
theorem dL_law_724 : decode cL_law 724 = .ok (.aload_n 0, 1) := by decide +kernel
theorem dL_law_725 : decode cL_law 725 = .ok (.iload 4, 2) := by decide +kernel
theorem dL_law_727 : decode cL_law 727 = .ok (.iconst 1, 1) := by decide +kernel
theorem dL_law_728 : decode cL_law 728 = .ok (.iadd, 1) := by decide +kernel
theorem dL_law_729 : decode cL_law 729 = .ok (.iaload, 1) := by decide +kernel
theorem dL_law_730 : decode cL_law 730 = .ok (.aload_n 0, 1) := by decide +kernel
theorem dL_law_731 : decode cL_law 731 = .ok (.iload 4, 2) := by decide +kernel
theorem dL_law_733 : decode cL_law 733 = .ok (.iconst 2, 1) := by decide +kernel
theorem dL_law_734 : decode cL_law 734 = .ok (.iadd, 1) := by decide +kernel
theorem dL_law_735 : decode cL_law 735 = .ok (.iaload, 1) := by decide +kernel
theorem dL_law_736 : decode cL_law 736 = .ok (.invokevirtual 80, 3) := by decide +kernel
theorem dL_law_739 : decode cL_law 739 = .ok (.if_icmp .eq 1187, 3) := by decide +kernel
theorem dL_law_742 : decode cL_law 742 = .ok (.iconst 0, 1) := by decide +kernel
theorem dL_law_743 : decode cL_law 743 = .ok (.ireturn, 1) := by decide +kernel
theorem dL_law_744 : decode cL_law 744 = .ok (.aload_n 1, 1) := by decide +kernel
theorem dL_law_745 : decode cL_law 745 = .ok (.aload_n 0, 1) := by decide +kernel
theorem dL_law_746 : decode cL_law 746 = .ok (.iload 4, 2) := by decide +kernel
theorem dL_law_748 : decode cL_law 748 = .ok (.iconst 1, 1) := by decide +kernel
theorem dL_law_749 : decode cL_law 749 = .ok (.iadd, 1) := by decide +kernel
theorem dL_law_750 : decode cL_law 750 = .ok (.iaload, 1) := by decide +kernel
theorem dL_law_751 : decode cL_law 751 = .ok (.aload_n 0, 1) := by decide +kernel
theorem dL_law_752 : decode cL_law 752 = .ok (.iload 4, 2) := by decide +kernel
theorem dL_law_754 : decode cL_law 754 = .ok (.iconst 2, 1) := by decide +kernel
theorem dL_law_755 : decode cL_law 755 = .ok (.iadd, 1) := by decide +kernel
theorem dL_law_756 : decode cL_law 756 = .ok (.iaload, 1) := by decide +kernel
theorem dL_law_757 : decode cL_law 757 = .ok (.invokevirtual 81, 3) := by decide +kernel
theorem dL_law_760 : decode cL_law 760 = .ok (.aload_n 2, 1) := by decide +kernel
theorem dL_law_761 : decode cL_law 761 = .ok (.aload_n 0, 1) := by decide +kernel
theorem dL_law_762 : decode cL_law 762 = .ok (.iload 4, 2) := by decide +kernel
theorem dL_law_764 : decode cL_law 764 = .ok (.iconst 1, 1) := by decide +kernel
theorem dL_law_765 : decode cL_law 765 = .ok (.iadd, 1) := by decide +kernel
theorem dL_law_766 : decode cL_law 766 = .ok (.iaload, 1) := by decide +kernel
theorem dL_law_767 : decode cL_law 767 = .ok (.aload_n 0, 1) := by decide +kernel
theorem dL_law_768 : decode cL_law 768 = .ok (.iload 4, 2) := by decide +kernel
theorem dL_law_770 : decode cL_law 770 = .ok (.iconst 2, 1) := by decide +kernel
theorem dL_law_771 : decode cL_law 771 = .ok (.iadd, 1) := by decide +kernel
theorem dL_law_772 : decode cL_law 772 = .ok (.iaload, 1) := by decide +kernel
theorem dL_law_773 : decode cL_law 773 = .ok (.invokevirtual 85, 3) := by decide +kernel
theorem dL_law_776 : decode cL_law 776 = .ok (.if_icmp .eq 1150, 3) := by decide +kernel
theorem dL_law_779 : decode cL_law 779 = .ok (.iconst 0, 1) := by decide +kernel
theorem dL_law_780 : decode cL_law 780 = .ok (.ireturn, 1) := by decide +kernel
theorem dL_law_781 : decode cL_law 781 = .ok (.aload_n 1, 1) := by decide +kernel
theorem dL_law_782 : decode cL_law 782 = .ok (.aload_n 0, 1) := by decide +kernel
theorem dL_law_783 : decode cL_law 783 = .ok (.iload 4, 2) := by decide +kernel
theorem dL_law_785 : decode cL_law 785 = .ok (.iconst 1, 1) := by decide +kernel
theorem dL_law_786 : decode cL_law 786 = .ok (.iadd, 1) := by decide +kernel
theorem dL_law_787 : decode cL_law 787 = .ok (.iaload, 1) := by decide +kernel
theorem dL_law_788 : decode cL_law 788 = .ok (.invokevirtual 86, 3) := by decide +kernel
theorem dL_law_791 : decode cL_law 791 = .ok (.aload_n 2, 1) := by decide +kernel
theorem dL_law_792 : decode cL_law 792 = .ok (.aload_n 0, 1) := by decide +kernel
theorem dL_law_793 : decode cL_law 793 = .ok (.iload 4, 2) := by decide +kernel
theorem dL_law_795 : decode cL_law 795 = .ok (.iconst 1, 1) := by decide +kernel
theorem dL_law_796 : decode cL_law 796 = .ok (.iadd, 1) := by decide +kernel
theorem dL_law_797 : decode cL_law 797 = .ok (.iaload, 1) := by decide +kernel
theorem dL_law_798 : decode cL_law 798 = .ok (.invokevirtual 89, 3) := by decide +kernel
theorem dL_law_801 : decode cL_law 801 = .ok (.if_icmp .eq 1125, 3) := by decide +kernel
theorem dL_law_804 : decode cL_law 804 = .ok (.iconst 0, 1) := by decide +kernel
theorem dL_law_805 : decode cL_law 805 = .ok (.ireturn, 1) := by decide +kernel
theorem dL_law_806 : decode cL_law 806 = .ok (.aload_n 1, 1) := by decide +kernel
theorem dL_law_807 : decode cL_law 807 = .ok (.aload_n 0, 1) := by decide +kernel
theorem dL_law_808 : decode cL_law 808 = .ok (.iload 4, 2) := by decide +kernel
theorem dL_law_810 : decode cL_law 810 = .ok (.iconst 1, 1) := by decide +kernel
theorem dL_law_811 : decode cL_law 811 = .ok (.iadd, 1) := by decide +kernel
theorem dL_law_812 : decode cL_law 812 = .ok (.iaload, 1) := by decide +kernel
theorem dL_law_813 : decode cL_law 813 = .ok (.aload_n 0, 1) := by decide +kernel
theorem dL_law_814 : decode cL_law 814 = .ok (.iload 4, 2) := by decide +kernel
theorem dL_law_816 : decode cL_law 816 = .ok (.iconst 2, 1) := by decide +kernel
theorem dL_law_817 : decode cL_law 817 = .ok (.iadd, 1) := by decide +kernel
theorem dL_law_818 : decode cL_law 818 = .ok (.iaload, 1) := by decide +kernel
theorem dL_law_819 : decode cL_law 819 = .ok (.i2l, 1) := by decide +kernel
theorem dL_law_820 : decode cL_law 820 = .ok (.bipush 32, 2) := by decide +kernel
theorem dL_law_822 : decode cL_law 822 = .ok (.lshl, 1) := by decide +kernel
theorem dL_law_823 : decode cL_law 823 = .ok (.aload_n 0, 1) := by decide +kernel
theorem dL_law_824 : decode cL_law 824 = .ok (.iload 4, 2) := by decide +kernel
theorem dL_law_826 : decode cL_law 826 = .ok (.iconst 3, 1) := by decide +kernel
theorem dL_law_827 : decode cL_law 827 = .ok (.iadd, 1) := by decide +kernel
theorem dL_law_828 : decode cL_law 828 = .ok (.iaload, 1) := by decide +kernel
theorem dL_law_829 : decode cL_law 829 = .ok (.i2l, 1) := by decide +kernel
theorem dL_law_830 : decode cL_law 830 = .ok (.ldc2_w 90, 3) := by decide +kernel
theorem dL_law_833 : decode cL_law 833 = .ok (.land, 1) := by decide +kernel
theorem dL_law_834 : decode cL_law 834 = .ok (.lor, 1) := by decide +kernel
theorem dL_law_835 : decode cL_law 835 = .ok (.invokevirtual 92, 3) := by decide +kernel
theorem dL_law_838 : decode cL_law 838 = .ok (.aload_n 2, 1) := by decide +kernel
theorem dL_law_839 : decode cL_law 839 = .ok (.aload_n 0, 1) := by decide +kernel
theorem dL_law_840 : decode cL_law 840 = .ok (.iload 4, 2) := by decide +kernel
theorem dL_law_842 : decode cL_law 842 = .ok (.iconst 1, 1) := by decide +kernel
theorem dL_law_843 : decode cL_law 843 = .ok (.iadd, 1) := by decide +kernel
theorem dL_law_844 : decode cL_law 844 = .ok (.iaload, 1) := by decide +kernel
theorem dL_law_845 : decode cL_law 845 = .ok (.aload_n 0, 1) := by decide +kernel
theorem dL_law_846 : decode cL_law 846 = .ok (.iload 4, 2) := by decide +kernel
theorem dL_law_848 : decode cL_law 848 = .ok (.iconst 2, 1) := by decide +kernel
theorem dL_law_849 : decode cL_law 849 = .ok (.iadd, 1) := by decide +kernel
theorem dL_law_850 : decode cL_law 850 = .ok (.iaload, 1) := by decide +kernel
theorem dL_law_851 : decode cL_law 851 = .ok (.i2l, 1) := by decide +kernel
theorem dL_law_852 : decode cL_law 852 = .ok (.bipush 32, 2) := by decide +kernel
theorem dL_law_854 : decode cL_law 854 = .ok (.lshl, 1) := by decide +kernel
theorem dL_law_855 : decode cL_law 855 = .ok (.aload_n 0, 1) := by decide +kernel
theorem dL_law_856 : decode cL_law 856 = .ok (.iload 4, 2) := by decide +kernel
theorem dL_law_858 : decode cL_law 858 = .ok (.iconst 3, 1) := by decide +kernel
theorem dL_law_859 : decode cL_law 859 = .ok (.iadd, 1) := by decide +kernel
theorem dL_law_860 : decode cL_law 860 = .ok (.iaload, 1) := by decide +kernel
theorem dL_law_861 : decode cL_law 861 = .ok (.i2l, 1) := by decide +kernel
theorem dL_law_862 : decode cL_law 862 = .ok (.ldc2_w 90, 3) := by decide +kernel
theorem dL_law_865 : decode cL_law 865 = .ok (.land, 1) := by decide +kernel
theorem dL_law_866 : decode cL_law 866 = .ok (.lor, 1) := by decide +kernel
theorem dL_law_867 : decode cL_law 867 = .ok (.invokevirtual 96, 3) := by decide +kernel
theorem dL_law_870 : decode cL_law 870 = .ok (.if_icmp .eq 1056, 3) := by decide +kernel
theorem dL_law_873 : decode cL_law 873 = .ok (.iconst 0, 1) := by decide +kernel
theorem dL_law_874 : decode cL_law 874 = .ok (.ireturn, 1) := by decide +kernel
theorem dL_law_875 : decode cL_law 875 = .ok (.aload_n 1, 1) := by decide +kernel
theorem dL_law_876 : decode cL_law 876 = .ok (.invokevirtual 97, 3) := by decide +kernel
theorem dL_law_879 : decode cL_law 879 = .ok (.aload_n 2, 1) := by decide +kernel
theorem dL_law_880 : decode cL_law 880 = .ok (.invokevirtual 100, 3) := by decide +kernel
theorem dL_law_883 : decode cL_law 883 = .ok (.if_icmp .eq 1043, 3) := by decide +kernel
theorem dL_law_886 : decode cL_law 886 = .ok (.iconst 0, 1) := by decide +kernel
theorem dL_law_887 : decode cL_law 887 = .ok (.ireturn, 1) := by decide +kernel
theorem dL_law_888 : decode cL_law 888 = .ok (.aload_n 1, 1) := by decide +kernel
theorem dL_law_889 : decode cL_law 889 = .ok (.aload_n 0, 1) := by decide +kernel
theorem dL_law_890 : decode cL_law 890 = .ok (.iload 4, 2) := by decide +kernel
theorem dL_law_892 : decode cL_law 892 = .ok (.iconst 1, 1) := by decide +kernel
theorem dL_law_893 : decode cL_law 893 = .ok (.iadd, 1) := by decide +kernel
theorem dL_law_894 : decode cL_law 894 = .ok (.iaload, 1) := by decide +kernel
theorem dL_law_895 : decode cL_law 895 = .ok (.aload_n 0, 1) := by decide +kernel
theorem dL_law_896 : decode cL_law 896 = .ok (.iload 4, 2) := by decide +kernel
theorem dL_law_898 : decode cL_law 898 = .ok (.iconst 2, 1) := by decide +kernel
theorem dL_law_899 : decode cL_law 899 = .ok (.iadd, 1) := by decide +kernel
theorem dL_law_900 : decode cL_law 900 = .ok (.iaload, 1) := by decide +kernel
theorem dL_law_901 : decode cL_law 901 = .ok (.invokevirtual 101, 3) := by decide +kernel
theorem dL_law_904 : decode cL_law 904 = .ok (.aload_n 2, 1) := by decide +kernel
theorem dL_law_905 : decode cL_law 905 = .ok (.aload_n 0, 1) := by decide +kernel
theorem dL_law_906 : decode cL_law 906 = .ok (.iload 4, 2) := by decide +kernel
theorem dL_law_908 : decode cL_law 908 = .ok (.iconst 1, 1) := by decide +kernel
theorem dL_law_909 : decode cL_law 909 = .ok (.iadd, 1) := by decide +kernel
theorem dL_law_910 : decode cL_law 910 = .ok (.iaload, 1) := by decide +kernel
theorem dL_law_911 : decode cL_law 911 = .ok (.aload_n 0, 1) := by decide +kernel
theorem dL_law_912 : decode cL_law 912 = .ok (.iload 4, 2) := by decide +kernel
theorem dL_law_914 : decode cL_law 914 = .ok (.iconst 2, 1) := by decide +kernel
theorem dL_law_915 : decode cL_law 915 = .ok (.iadd, 1) := by decide +kernel
theorem dL_law_916 : decode cL_law 916 = .ok (.iaload, 1) := by decide +kernel
theorem dL_law_917 : decode cL_law 917 = .ok (.invokevirtual 104, 3) := by decide +kernel
theorem dL_law_920 : decode cL_law 920 = .ok (.if_icmp .eq 1006, 3) := by decide +kernel
theorem dL_law_923 : decode cL_law 923 = .ok (.iconst 0, 1) := by decide +kernel
theorem dL_law_924 : decode cL_law 924 = .ok (.ireturn, 1) := by decide +kernel
theorem dL_law_925 : decode cL_law 925 = .ok (.aload_n 1, 1) := by decide +kernel
theorem dL_law_926 : decode cL_law 926 = .ok (.aload_n 0, 1) := by decide +kernel
theorem dL_law_927 : decode cL_law 927 = .ok (.iload 4, 2) := by decide +kernel
theorem dL_law_929 : decode cL_law 929 = .ok (.iconst 1, 1) := by decide +kernel
theorem dL_law_930 : decode cL_law 930 = .ok (.iadd, 1) := by decide +kernel
theorem dL_law_931 : decode cL_law 931 = .ok (.iaload, 1) := by decide +kernel
theorem dL_law_932 : decode cL_law 932 = .ok (.aload_n 0, 1) := by decide +kernel
theorem dL_law_933 : decode cL_law 933 = .ok (.iload 4, 2) := by decide +kernel
theorem dL_law_935 : decode cL_law 935 = .ok (.iconst 2, 1) := by decide +kernel
theorem dL_law_936 : decode cL_law 936 = .ok (.iadd, 1) := by decide +kernel
theorem dL_law_937 : decode cL_law 937 = .ok (.iaload, 1) := by decide +kernel
theorem dL_law_938 : decode cL_law 938 = .ok (.aload_n 0, 1) := by decide +kernel
theorem dL_law_939 : decode cL_law 939 = .ok (.iload 4, 2) := by decide +kernel
theorem dL_law_941 : decode cL_law 941 = .ok (.iconst 3, 1) := by decide +kernel
theorem dL_law_942 : decode cL_law 942 = .ok (.iadd, 1) := by decide +kernel
theorem dL_law_943 : decode cL_law 943 = .ok (.iaload, 1) := by decide +kernel
theorem dL_law_944 : decode cL_law 944 = .ok (.invokevirtual 105, 3) := by decide +kernel
theorem dL_law_947 : decode cL_law 947 = .ok (.aload_n 2, 1) := by decide +kernel
theorem dL_law_948 : decode cL_law 948 = .ok (.aload_n 0, 1) := by decide +kernel
theorem dL_law_949 : decode cL_law 949 = .ok (.iload 4, 2) := by decide +kernel
theorem dL_law_951 : decode cL_law 951 = .ok (.iconst 1, 1) := by decide +kernel
theorem dL_law_952 : decode cL_law 952 = .ok (.iadd, 1) := by decide +kernel
theorem dL_law_953 : decode cL_law 953 = .ok (.iaload, 1) := by decide +kernel
theorem dL_law_954 : decode cL_law 954 = .ok (.aload_n 0, 1) := by decide +kernel
theorem dL_law_955 : decode cL_law 955 = .ok (.iload 4, 2) := by decide +kernel
theorem dL_law_957 : decode cL_law 957 = .ok (.iconst 2, 1) := by decide +kernel
theorem dL_law_958 : decode cL_law 958 = .ok (.iadd, 1) := by decide +kernel
theorem dL_law_959 : decode cL_law 959 = .ok (.iaload, 1) := by decide +kernel
theorem dL_law_960 : decode cL_law 960 = .ok (.aload_n 0, 1) := by decide +kernel
theorem dL_law_961 : decode cL_law 961 = .ok (.iload 4, 2) := by decide +kernel
theorem dL_law_963 : decode cL_law 963 = .ok (.iconst 3, 1) := by decide +kernel
theorem dL_law_964 : decode cL_law 964 = .ok (.iadd, 1) := by decide +kernel
theorem dL_law_965 : decode cL_law 965 = .ok (.iaload, 1) := by decide +kernel
theorem dL_law_966 : decode cL_law 966 = .ok (.invokevirtual 108, 3) := by decide +kernel
theorem dL_law_969 : decode cL_law 969 = .ok (.if_icmp .eq 957, 3) := by decide +kernel
theorem dL_law_972 : decode cL_law 972 = .ok (.iconst 0, 1) := by decide +kernel
theorem dL_law_973 : decode cL_law 973 = .ok (.ireturn, 1) := by decide +kernel
theorem dL_law_974 : decode cL_law 974 = .ok (.aload_n 1, 1) := by decide +kernel
theorem dL_law_975 : decode cL_law 975 = .ok (.aload_n 0, 1) := by decide +kernel
theorem dL_law_976 : decode cL_law 976 = .ok (.iload 4, 2) := by decide +kernel
theorem dL_law_978 : decode cL_law 978 = .ok (.iconst 1, 1) := by decide +kernel
theorem dL_law_979 : decode cL_law 979 = .ok (.iadd, 1) := by decide +kernel
theorem dL_law_980 : decode cL_law 980 = .ok (.iaload, 1) := by decide +kernel
theorem dL_law_981 : decode cL_law 981 = .ok (.aload_n 0, 1) := by decide +kernel
theorem dL_law_982 : decode cL_law 982 = .ok (.iload 4, 2) := by decide +kernel
theorem dL_law_984 : decode cL_law 984 = .ok (.iconst 2, 1) := by decide +kernel
theorem dL_law_985 : decode cL_law 985 = .ok (.iadd, 1) := by decide +kernel
theorem dL_law_986 : decode cL_law 986 = .ok (.iaload, 1) := by decide +kernel
theorem dL_law_987 : decode cL_law 987 = .ok (.invokevirtual 109, 3) := by decide +kernel
theorem dL_law_990 : decode cL_law 990 = .ok (.aload_n 2, 1) := by decide +kernel
theorem dL_law_991 : decode cL_law 991 = .ok (.aload_n 0, 1) := by decide +kernel
theorem dL_law_992 : decode cL_law 992 = .ok (.iload 4, 2) := by decide +kernel
theorem dL_law_994 : decode cL_law 994 = .ok (.iconst 1, 1) := by decide +kernel
theorem dL_law_995 : decode cL_law 995 = .ok (.iadd, 1) := by decide +kernel
theorem dL_law_996 : decode cL_law 996 = .ok (.iaload, 1) := by decide +kernel
theorem dL_law_997 : decode cL_law 997 = .ok (.aload_n 0, 1) := by decide +kernel
theorem dL_law_998 : decode cL_law 998 = .ok (.iload 4, 2) := by decide +kernel
theorem dL_law_1000 : decode cL_law 1000 = .ok (.iconst 2, 1) := by decide +kernel
theorem dL_law_1001 : decode cL_law 1001 = .ok (.iadd, 1) := by decide +kernel
theorem dL_law_1002 : decode cL_law 1002 = .ok (.iaload, 1) := by decide +kernel
theorem dL_law_1003 : decode cL_law 1003 = .ok (.invokevirtual 112, 3) := by decide +kernel
theorem dL_law_1006 : decode cL_law 1006 = .ok (.if_icmp .eq 920, 3) := by decide +kernel
theorem dL_law_1009 : decode cL_law 1009 = .ok (.iconst 0, 1) := by decide +kernel
theorem dL_law_1010 : decode cL_law 1010 = .ok (.ireturn, 1) := by decide +kernel
theorem dL_law_1011 : decode cL_law 1011 = .ok (.aload_n 1, 1) := by decide +kernel
theorem dL_law_1012 : decode cL_law 1012 = .ok (.aload_n 0, 1) := by decide +kernel
theorem dL_law_1013 : decode cL_law 1013 = .ok (.iload 4, 2) := by decide +kernel
theorem dL_law_1015 : decode cL_law 1015 = .ok (.iconst 1, 1) := by decide +kernel
theorem dL_law_1016 : decode cL_law 1016 = .ok (.iadd, 1) := by decide +kernel
theorem dL_law_1017 : decode cL_law 1017 = .ok (.iaload, 1) := by decide +kernel
theorem dL_law_1018 : decode cL_law 1018 = .ok (.invokevirtual 113, 3) := by decide +kernel
theorem dL_law_1021 : decode cL_law 1021 = .ok (.aload_n 2, 1) := by decide +kernel
theorem dL_law_1022 : decode cL_law 1022 = .ok (.aload_n 0, 1) := by decide +kernel
theorem dL_law_1023 : decode cL_law 1023 = .ok (.iload 4, 2) := by decide +kernel
theorem dL_law_1025 : decode cL_law 1025 = .ok (.iconst 1, 1) := by decide +kernel
theorem dL_law_1026 : decode cL_law 1026 = .ok (.iadd, 1) := by decide +kernel
theorem dL_law_1027 : decode cL_law 1027 = .ok (.iaload, 1) := by decide +kernel
theorem dL_law_1028 : decode cL_law 1028 = .ok (.invokevirtual 116, 3) := by decide +kernel
theorem dL_law_1031 : decode cL_law 1031 = .ok (.if_icmp .eq 895, 3) := by decide +kernel
theorem dL_law_1034 : decode cL_law 1034 = .ok (.iconst 0, 1) := by decide +kernel
theorem dL_law_1035 : decode cL_law 1035 = .ok (.ireturn, 1) := by decide +kernel
theorem dL_law_1036 : decode cL_law 1036 = .ok (.aload_n 1, 1) := by decide +kernel
theorem dL_law_1037 : decode cL_law 1037 = .ok (.aload_n 0, 1) := by decide +kernel
theorem dL_law_1038 : decode cL_law 1038 = .ok (.iload 4, 2) := by decide +kernel
theorem dL_law_1040 : decode cL_law 1040 = .ok (.iconst 1, 1) := by decide +kernel
theorem dL_law_1041 : decode cL_law 1041 = .ok (.iadd, 1) := by decide +kernel
theorem dL_law_1042 : decode cL_law 1042 = .ok (.iaload, 1) := by decide +kernel
theorem dL_law_1043 : decode cL_law 1043 = .ok (.invokevirtual 117, 3) := by decide +kernel
theorem dL_law_1046 : decode cL_law 1046 = .ok (.aload_n 2, 1) := by decide +kernel
theorem dL_law_1047 : decode cL_law 1047 = .ok (.aload_n 0, 1) := by decide +kernel
theorem dL_law_1048 : decode cL_law 1048 = .ok (.iload 4, 2) := by decide +kernel
theorem dL_law_1050 : decode cL_law 1050 = .ok (.iconst 1, 1) := by decide +kernel
theorem dL_law_1051 : decode cL_law 1051 = .ok (.iadd, 1) := by decide +kernel
theorem dL_law_1052 : decode cL_law 1052 = .ok (.iaload, 1) := by decide +kernel
theorem dL_law_1053 : decode cL_law 1053 = .ok (.invokevirtual 120, 3) := by decide +kernel
theorem dL_law_1056 : decode cL_law 1056 = .ok (.if_icmp .eq 870, 3) := by decide +kernel
theorem dL_law_1059 : decode cL_law 1059 = .ok (.iconst 0, 1) := by decide +kernel
theorem dL_law_1060 : decode cL_law 1060 = .ok (.ireturn, 1) := by decide +kernel
theorem dL_law_1061 : decode cL_law 1061 = .ok (.aload_n 1, 1) := by decide +kernel
theorem dL_law_1062 : decode cL_law 1062 = .ok (.invokevirtual 121, 3) := by decide +kernel
theorem dL_law_1065 : decode cL_law 1065 = .ok (.aload_n 2, 1) := by decide +kernel
theorem dL_law_1066 : decode cL_law 1066 = .ok (.invokevirtual 124, 3) := by decide +kernel
theorem dL_law_1069 : decode cL_law 1069 = .ok (.if_icmp .eq 857, 3) := by decide +kernel
theorem dL_law_1072 : decode cL_law 1072 = .ok (.iconst 0, 1) := by decide +kernel
theorem dL_law_1073 : decode cL_law 1073 = .ok (.ireturn, 1) := by decide +kernel
theorem dL_law_1074 : decode cL_law 1074 = .ok (.aload_n 1, 1) := by decide +kernel
theorem dL_law_1075 : decode cL_law 1075 = .ok (.aload_n 0, 1) := by decide +kernel
theorem dL_law_1076 : decode cL_law 1076 = .ok (.iload 4, 2) := by decide +kernel
theorem dL_law_1078 : decode cL_law 1078 = .ok (.iconst 1, 1) := by decide +kernel
theorem dL_law_1079 : decode cL_law 1079 = .ok (.iadd, 1) := by decide +kernel
theorem dL_law_1080 : decode cL_law 1080 = .ok (.iaload, 1) := by decide +kernel
theorem dL_law_1081 : decode cL_law 1081 = .ok (.aload_n 0, 1) := by decide +kernel
theorem dL_law_1082 : decode cL_law 1082 = .ok (.iload 4, 2) := by decide +kernel
theorem dL_law_1084 : decode cL_law 1084 = .ok (.iconst 2, 1) := by decide +kernel
theorem dL_law_1085 : decode cL_law 1085 = .ok (.iadd, 1) := by decide +kernel
theorem dL_law_1086 : decode cL_law 1086 = .ok (.iaload, 1) := by decide +kernel
theorem dL_law_1087 : decode cL_law 1087 = .ok (.invokevirtual 125, 3) := by decide +kernel
theorem dL_law_1090 : decode cL_law 1090 = .ok (.aload_n 2, 1) := by decide +kernel
theorem dL_law_1091 : decode cL_law 1091 = .ok (.aload_n 0, 1) := by decide +kernel
theorem dL_law_1092 : decode cL_law 1092 = .ok (.iload 4, 2) := by decide +kernel
theorem dL_law_1094 : decode cL_law 1094 = .ok (.iconst 1, 1) := by decide +kernel
theorem dL_law_1095 : decode cL_law 1095 = .ok (.iadd, 1) := by decide +kernel
theorem dL_law_1096 : decode cL_law 1096 = .ok (.iaload, 1) := by decide +kernel
theorem dL_law_1097 : decode cL_law 1097 = .ok (.aload_n 0, 1) := by decide +kernel
theorem dL_law_1098 : decode cL_law 1098 = .ok (.iload 4, 2) := by decide +kernel
theorem dL_law_1100 : decode cL_law 1100 = .ok (.iconst 2, 1) := by decide +kernel
theorem dL_law_1101 : decode cL_law 1101 = .ok (.iadd, 1) := by decide +kernel
theorem dL_law_1102 : decode cL_law 1102 = .ok (.iaload, 1) := by decide +kernel
theorem dL_law_1103 : decode cL_law 1103 = .ok (.invokevirtual 128, 3) := by decide +kernel
theorem dL_law_1106 : decode cL_law 1106 = .ok (.if_icmp .eq 820, 3) := by decide +kernel
theorem dL_law_1109 : decode cL_law 1109 = .ok (.iconst 0, 1) := by decide +kernel
theorem dL_law_1110 : decode cL_law 1110 = .ok (.ireturn, 1) := by decide +kernel
theorem dL_law_1111 : decode cL_law 1111 = .ok (.aload_n 1, 1) := by decide +kernel
theorem dL_law_1112 : decode cL_law 1112 = .ok (.aload_n 0, 1) := by decide +kernel
theorem dL_law_1113 : decode cL_law 1113 = .ok (.iload 4, 2) := by decide +kernel
theorem dL_law_1115 : decode cL_law 1115 = .ok (.iconst 1, 1) := by decide +kernel
theorem dL_law_1116 : decode cL_law 1116 = .ok (.iadd, 1) := by decide +kernel
theorem dL_law_1117 : decode cL_law 1117 = .ok (.iaload, 1) := by decide +kernel
theorem dL_law_1118 : decode cL_law 1118 = .ok (.aload_n 0, 1) := by decide +kernel
theorem dL_law_1119 : decode cL_law 1119 = .ok (.iload 4, 2) := by decide +kernel
theorem dL_law_1121 : decode cL_law 1121 = .ok (.iconst 2, 1) := by decide +kernel
theorem dL_law_1122 : decode cL_law 1122 = .ok (.iadd, 1) := by decide +kernel
theorem dL_law_1123 : decode cL_law 1123 = .ok (.iaload, 1) := by decide +kernel
theorem dL_law_1124 : decode cL_law 1124 = .ok (.invokevirtual 129, 3) := by decide +kernel
theorem dL_law_1127 : decode cL_law 1127 = .ok (.aload_n 2, 1) := by decide +kernel
theorem dL_law_1128 : decode cL_law 1128 = .ok (.aload_n 0, 1) := by decide +kernel
theorem dL_law_1129 : decode cL_law 1129 = .ok (.iload 4, 2) := by decide +kernel
theorem dL_law_1131 : decode cL_law 1131 = .ok (.iconst 1, 1) := by decide +kernel
theorem dL_law_1132 : decode cL_law 1132 = .ok (.iadd, 1) := by decide +kernel
theorem dL_law_1133 : decode cL_law 1133 = .ok (.iaload, 1) := by decide +kernel
theorem dL_law_1134 : decode cL_law 1134 = .ok (.aload_n 0, 1) := by decide +kernel
theorem dL_law_1135 : decode cL_law 1135 = .ok (.iload 4, 2) := by decide +kernel
theorem dL_law_1137 : decode cL_law 1137 = .ok (.iconst 2, 1) := by decide +kernel
theorem dL_law_1138 : decode cL_law 1138 = .ok (.iadd, 1) := by decide +kernel
theorem dL_law_1139 : decode cL_law 1139 = .ok (.iaload, 1) := by decide +kernel
theorem dL_law_1140 : decode cL_law 1140 = .ok (.invokevirtual 132, 3) := by decide +kernel
theorem dL_law_1143 : decode cL_law 1143 = .ok (.if_icmp .eq 783, 3) := by decide +kernel
theorem dL_law_1146 : decode cL_law 1146 = .ok (.iconst 0, 1) := by decide +kernel
theorem dL_law_1147 : decode cL_law 1147 = .ok (.ireturn, 1) := by decide +kernel
theorem dL_law_1148 : decode cL_law 1148 = .ok (.aload_n 1, 1) := by decide +kernel
theorem dL_law_1149 : decode cL_law 1149 = .ok (.aload_n 0, 1) := by decide +kernel
theorem dL_law_1150 : decode cL_law 1150 = .ok (.iload 4, 2) := by decide +kernel
theorem dL_law_1152 : decode cL_law 1152 = .ok (.iconst 1, 1) := by decide +kernel
theorem dL_law_1153 : decode cL_law 1153 = .ok (.iadd, 1) := by decide +kernel
theorem dL_law_1154 : decode cL_law 1154 = .ok (.iaload, 1) := by decide +kernel
theorem dL_law_1155 : decode cL_law 1155 = .ok (.aload_n 0, 1) := by decide +kernel
theorem dL_law_1156 : decode cL_law 1156 = .ok (.iload 4, 2) := by decide +kernel
theorem dL_law_1158 : decode cL_law 1158 = .ok (.iconst 2, 1) := by decide +kernel
theorem dL_law_1159 : decode cL_law 1159 = .ok (.iadd, 1) := by decide +kernel
theorem dL_law_1160 : decode cL_law 1160 = .ok (.iaload, 1) := by decide +kernel
theorem dL_law_1161 : decode cL_law 1161 = .ok (.aload_n 0, 1) := by decide +kernel
theorem dL_law_1162 : decode cL_law 1162 = .ok (.iload 4, 2) := by decide +kernel
theorem dL_law_1164 : decode cL_law 1164 = .ok (.iconst 3, 1) := by decide +kernel
theorem dL_law_1165 : decode cL_law 1165 = .ok (.iadd, 1) := by decide +kernel
theorem dL_law_1166 : decode cL_law 1166 = .ok (.iaload, 1) := by decide +kernel
theorem dL_law_1167 : decode cL_law 1167 = .ok (.invokevirtual 133, 3) := by decide +kernel
theorem dL_law_1170 : decode cL_law 1170 = .ok (.aload_n 2, 1) := by decide +kernel
theorem dL_law_1171 : decode cL_law 1171 = .ok (.aload_n 0, 1) := by decide +kernel
theorem dL_law_1172 : decode cL_law 1172 = .ok (.iload 4, 2) := by decide +kernel
theorem dL_law_1174 : decode cL_law 1174 = .ok (.iconst 1, 1) := by decide +kernel
theorem dL_law_1175 : decode cL_law 1175 = .ok (.iadd, 1) := by decide +kernel
theorem dL_law_1176 : decode cL_law 1176 = .ok (.iaload, 1) := by decide +kernel
theorem dL_law_1177 : decode cL_law 1177 = .ok (.aload_n 0, 1) := by decide +kernel
theorem dL_law_1178 : decode cL_law 1178 = .ok (.iload 4, 2) := by decide +kernel
theorem dL_law_1180 : decode cL_law 1180 = .ok (.iconst 2, 1) := by decide +kernel
theorem dL_law_1181 : decode cL_law 1181 = .ok (.iadd, 1) := by decide +kernel
theorem dL_law_1182 : decode cL_law 1182 = .ok (.iaload, 1) := by decide +kernel
theorem dL_law_1183 : decode cL_law 1183 = .ok (.aload_n 0, 1) := by decide +kernel
theorem dL_law_1184 : decode cL_law 1184 = .ok (.iload 4, 2) := by decide +kernel
theorem dL_law_1186 : decode cL_law 1186 = .ok (.iconst 3, 1) := by decide +kernel
theorem dL_law_1187 : decode cL_law 1187 = .ok (.iadd, 1) := by decide +kernel
theorem dL_law_1188 : decode cL_law 1188 = .ok (.iaload, 1) := by decide +kernel
theorem dL_law_1189 : decode cL_law 1189 = .ok (.invokevirtual 136, 3) := by decide +kernel
theorem dL_law_1192 : decode cL_law 1192 = .ok (.if_icmp .eq 734, 3) := by decide +kernel
theorem dL_law_1195 : decode cL_law 1195 = .ok (.iconst 0, 1) := by decide +kernel
theorem dL_law_1196 : decode cL_law 1196 = .ok (.ireturn, 1) := by decide +kernel
theorem dL_law_1197 : decode cL_law 1197 = .ok (.aload_n 1, 1) := by decide +kernel
theorem dL_law_1198 : decode cL_law 1198 = .ok (.aload_n 0, 1) := by decide +kernel
theorem dL_law_1199 : decode cL_law 1199 = .ok (.iload 4, 2) := by decide +kernel
theorem dL_law_1201 : decode cL_law 1201 = .ok (.iconst 1, 1) := by decide +kernel
theorem dL_law_1202 : decode cL_law 1202 = .ok (.iadd, 1) := by decide +kernel
theorem dL_law_1203 : decode cL_law 1203 = .ok (.iaload, 1) := by decide +kernel
theorem dL_law_1204 : decode cL_law 1204 = .ok (.aload_n 0, 1) := by decide +kernel
theorem dL_law_1205 : decode cL_law 1205 = .ok (.iload 4, 2) := by decide +kernel
theorem dL_law_1207 : decode cL_law 1207 = .ok (.iconst 2, 1) := by decide +kernel
theorem dL_law_1208 : decode cL_law 1208 = .ok (.iadd, 1) := by decide +kernel
theorem dL_law_1209 : decode cL_law 1209 = .ok (.iaload, 1) := by decide +kernel
theorem dL_law_1210 : decode cL_law 1210 = .ok (.invokevirtual 137, 3) := by decide +kernel
theorem dL_law_1213 : decode cL_law 1213 = .ok (.aload_n 2, 1) := by decide +kernel
theorem dL_law_1214 : decode cL_law 1214 = .ok (.aload_n 0, 1) := by decide +kernel
theorem dL_law_1215 : decode cL_law 1215 = .ok (.iload 4, 2) := by decide +kernel
theorem dL_law_1217 : decode cL_law 1217 = .ok (.iconst 1, 1) := by decide +kernel
theorem dL_law_1218 : decode cL_law 1218 = .ok (.iadd, 1) := by decide +kernel
theorem dL_law_1219 : decode cL_law 1219 = .ok (.iaload, 1) := by decide +kernel
theorem dL_law_1220 : decode cL_law 1220 = .ok (.aload_n 0, 1) := by decide +kernel
theorem dL_law_1221 : decode cL_law 1221 = .ok (.iload 4, 2) := by decide +kernel
theorem dL_law_1223 : decode cL_law 1223 = .ok (.iconst 2, 1) := by decide +kernel
theorem dL_law_1224 : decode cL_law 1224 = .ok (.iadd, 1) := by decide +kernel
theorem dL_law_1225 : decode cL_law 1225 = .ok (.iaload, 1) := by decide +kernel
theorem dL_law_1226 : decode cL_law 1226 = .ok (.invokevirtual 140, 3) := by decide +kernel
theorem dL_law_1229 : decode cL_law 1229 = .ok (.if_icmp .eq 697, 3) := by decide +kernel
theorem dL_law_1232 : decode cL_law 1232 = .ok (.iconst 0, 1) := by decide +kernel
theorem dL_law_1233 : decode cL_law 1233 = .ok (.ireturn, 1) := by decide +kernel
theorem dL_law_1234 : decode cL_law 1234 = .ok (.aload_n 1, 1) := by decide +kernel
theorem dL_law_1235 : decode cL_law 1235 = .ok (.aload_n 0, 1) := by decide +kernel
theorem dL_law_1236 : decode cL_law 1236 = .ok (.iload 4, 2) := by decide +kernel
theorem dL_law_1238 : decode cL_law 1238 = .ok (.iconst 1, 1) := by decide +kernel
theorem dL_law_1239 : decode cL_law 1239 = .ok (.iadd, 1) := by decide +kernel
theorem dL_law_1240 : decode cL_law 1240 = .ok (.iaload, 1) := by decide +kernel
theorem dL_law_1241 : decode cL_law 1241 = .ok (.aload_n 0, 1) := by decide +kernel
theorem dL_law_1242 : decode cL_law 1242 = .ok (.iload 4, 2) := by decide +kernel
theorem dL_law_1244 : decode cL_law 1244 = .ok (.iconst 2, 1) := by decide +kernel
theorem dL_law_1245 : decode cL_law 1245 = .ok (.iadd, 1) := by decide +kernel
theorem dL_law_1246 : decode cL_law 1246 = .ok (.iaload, 1) := by decide +kernel
theorem dL_law_1247 : decode cL_law 1247 = .ok (.aload_n 0, 1) := by decide +kernel
theorem dL_law_1248 : decode cL_law 1248 = .ok (.iload 4, 2) := by decide +kernel
theorem dL_law_1250 : decode cL_law 1250 = .ok (.iconst 3, 1) := by decide +kernel
theorem dL_law_1251 : decode cL_law 1251 = .ok (.iadd, 1) := by decide +kernel
theorem dL_law_1252 : decode cL_law 1252 = .ok (.iaload, 1) := by decide +kernel
theorem dL_law_1253 : decode cL_law 1253 = .ok (.aload_n 0, 1) := by decide +kernel
theorem dL_law_1254 : decode cL_law 1254 = .ok (.iload 4, 2) := by decide +kernel
theorem dL_law_1256 : decode cL_law 1256 = .ok (.iconst 4, 1) := by decide +kernel
theorem dL_law_1257 : decode cL_law 1257 = .ok (.iadd, 1) := by decide +kernel
theorem dL_law_1258 : decode cL_law 1258 = .ok (.iaload, 1) := by decide +kernel
theorem dL_law_1259 : decode cL_law 1259 = .ok (.aload_n 0, 1) := by decide +kernel
theorem dL_law_1260 : decode cL_law 1260 = .ok (.iload 4, 2) := by decide +kernel
theorem dL_law_1262 : decode cL_law 1262 = .ok (.iconst 5, 1) := by decide +kernel
theorem dL_law_1263 : decode cL_law 1263 = .ok (.iadd, 1) := by decide +kernel
theorem dL_law_1264 : decode cL_law 1264 = .ok (.iaload, 1) := by decide +kernel
theorem dL_law_1265 : decode cL_law 1265 = .ok (.invokevirtual 141, 3) := by decide +kernel
theorem dL_law_1268 : decode cL_law 1268 = .ok (.aload_n 2, 1) := by decide +kernel
theorem dL_law_1269 : decode cL_law 1269 = .ok (.aload_n 0, 1) := by decide +kernel
theorem dL_law_1270 : decode cL_law 1270 = .ok (.iload 4, 2) := by decide +kernel
theorem dL_law_1272 : decode cL_law 1272 = .ok (.iconst 1, 1) := by decide +kernel
theorem dL_law_1273 : decode cL_law 1273 = .ok (.iadd, 1) := by decide +kernel
theorem dL_law_1274 : decode cL_law 1274 = .ok (.iaload, 1) := by decide +kernel
theorem dL_law_1275 : decode cL_law 1275 = .ok (.aload_n 0, 1) := by decide +kernel
theorem dL_law_1276 : decode cL_law 1276 = .ok (.iload 4, 2) := by decide +kernel
theorem dL_law_1278 : decode cL_law 1278 = .ok (.iconst 2, 1) := by decide +kernel
theorem dL_law_1279 : decode cL_law 1279 = .ok (.iadd, 1) := by decide +kernel
theorem dL_law_1280 : decode cL_law 1280 = .ok (.iaload, 1) := by decide +kernel
theorem dL_law_1281 : decode cL_law 1281 = .ok (.aload_n 0, 1) := by decide +kernel
theorem dL_law_1282 : decode cL_law 1282 = .ok (.iload 4, 2) := by decide +kernel
theorem dL_law_1284 : decode cL_law 1284 = .ok (.iconst 3, 1) := by decide +kernel
theorem dL_law_1285 : decode cL_law 1285 = .ok (.iadd, 1) := by decide +kernel
theorem dL_law_1286 : decode cL_law 1286 = .ok (.iaload, 1) := by decide +kernel
theorem dL_law_1287 : decode cL_law 1287 = .ok (.aload_n 0, 1) := by decide +kernel
theorem dL_law_1288 : decode cL_law 1288 = .ok (.iload 4, 2) := by decide +kernel
theorem dL_law_1290 : decode cL_law 1290 = .ok (.iconst 4, 1) := by decide +kernel
theorem dL_law_1291 : decode cL_law 1291 = .ok (.iadd, 1) := by decide +kernel
theorem dL_law_1292 : decode cL_law 1292 = .ok (.iaload, 1) := by decide +kernel
theorem dL_law_1293 : decode cL_law 1293 = .ok (.aload_n 0, 1) := by decide +kernel
theorem dL_law_1294 : decode cL_law 1294 = .ok (.iload 4, 2) := by decide +kernel
theorem dL_law_1296 : decode cL_law 1296 = .ok (.iconst 5, 1) := by decide +kernel
theorem dL_law_1297 : decode cL_law 1297 = .ok (.iadd, 1) := by decide +kernel
theorem dL_law_1298 : decode cL_law 1298 = .ok (.iaload, 1) := by decide +kernel
theorem dL_law_1299 : decode cL_law 1299 = .ok (.invokevirtual 144, 3) := by decide +kernel
theorem dL_law_1302 : decode cL_law 1302 = .ok (.if_icmp .eq 624, 3) := by decide +kernel
theorem dL_law_1305 : decode cL_law 1305 = .ok (.iconst 0, 1) := by decide +kernel
theorem dL_law_1306 : decode cL_law 1306 = .ok (.ireturn, 1) := by decide +kernel
theorem dL_law_1307 : decode cL_law 1307 = .ok (.aload_n 1, 1) := by decide +kernel
theorem dL_law_1308 : decode cL_law 1308 = .ok (.aload_n 0, 1) := by decide +kernel
theorem dL_law_1309 : decode cL_law 1309 = .ok (.iload 4, 2) := by decide +kernel
theorem dL_law_1311 : decode cL_law 1311 = .ok (.iconst 1, 1) := by decide +kernel
theorem dL_law_1312 : decode cL_law 1312 = .ok (.iadd, 1) := by decide +kernel
theorem dL_law_1313 : decode cL_law 1313 = .ok (.iaload, 1) := by decide +kernel
theorem dL_law_1314 : decode cL_law 1314 = .ok (.aload_n 0, 1) := by decide +kernel
theorem dL_law_1315 : decode cL_law 1315 = .ok (.iload 4, 2) := by decide +kernel
theorem dL_law_1317 : decode cL_law 1317 = .ok (.iconst 2, 1) := by decide +kernel
theorem dL_law_1318 : decode cL_law 1318 = .ok (.iadd, 1) := by decide +kernel
theorem dL_law_1319 : decode cL_law 1319 = .ok (.iaload, 1) := by decide +kernel
theorem dL_law_1320 : decode cL_law 1320 = .ok (.aload_n 0, 1) := by decide +kernel
theorem dL_law_1321 : decode cL_law 1321 = .ok (.iload 4, 2) := by decide +kernel
theorem dL_law_1323 : decode cL_law 1323 = .ok (.iconst 3, 1) := by decide +kernel
theorem dL_law_1324 : decode cL_law 1324 = .ok (.iadd, 1) := by decide +kernel
theorem dL_law_1325 : decode cL_law 1325 = .ok (.iaload, 1) := by decide +kernel
theorem dL_law_1326 : decode cL_law 1326 = .ok (.invokevirtual 145, 3) := by decide +kernel
theorem dL_law_1329 : decode cL_law 1329 = .ok (.aload_n 2, 1) := by decide +kernel
theorem dL_law_1330 : decode cL_law 1330 = .ok (.aload_n 0, 1) := by decide +kernel
theorem dL_law_1331 : decode cL_law 1331 = .ok (.iload 4, 2) := by decide +kernel
theorem dL_law_1333 : decode cL_law 1333 = .ok (.iconst 1, 1) := by decide +kernel
theorem dL_law_1334 : decode cL_law 1334 = .ok (.iadd, 1) := by decide +kernel
theorem dL_law_1335 : decode cL_law 1335 = .ok (.iaload, 1) := by decide +kernel
theorem dL_law_1336 : decode cL_law 1336 = .ok (.aload_n 0, 1) := by decide +kernel
theorem dL_law_1337 : decode cL_law 1337 = .ok (.iload 4, 2) := by decide +kernel
theorem dL_law_1339 : decode cL_law 1339 = .ok (.iconst 2, 1) := by decide +kernel
theorem dL_law_1340 : decode cL_law 1340 = .ok (.iadd, 1) := by decide +kernel
theorem dL_law_1341 : decode cL_law 1341 = .ok (.iaload, 1) := by decide +kernel
theorem dL_law_1342 : decode cL_law 1342 = .ok (.aload_n 0, 1) := by decide +kernel
theorem dL_law_1343 : decode cL_law 1343 = .ok (.iload 4, 2) := by decide +kernel
theorem dL_law_1345 : decode cL_law 1345 = .ok (.iconst 3, 1) := by decide +kernel
theorem dL_law_1346 : decode cL_law 1346 = .ok (.iadd, 1) := by decide +kernel
theorem dL_law_1347 : decode cL_law 1347 = .ok (.iaload, 1) := by decide +kernel
theorem dL_law_1348 : decode cL_law 1348 = .ok (.invokevirtual 148, 3) := by decide +kernel
theorem dL_law_1351 : decode cL_law 1351 = .ok (.if_icmp .eq 575, 3) := by decide +kernel
theorem dL_law_1354 : decode cL_law 1354 = .ok (.iconst 0, 1) := by decide +kernel
theorem dL_law_1355 : decode cL_law 1355 = .ok (.ireturn, 1) := by decide +kernel
theorem dL_law_1356 : decode cL_law 1356 = .ok (.aload_n 1, 1) := by decide +kernel
theorem dL_law_1357 : decode cL_law 1357 = .ok (.aload_n 0, 1) := by decide +kernel
theorem dL_law_1358 : decode cL_law 1358 = .ok (.iload 4, 2) := by decide +kernel
theorem dL_law_1360 : decode cL_law 1360 = .ok (.iconst 1, 1) := by decide +kernel
theorem dL_law_1361 : decode cL_law 1361 = .ok (.iadd, 1) := by decide +kernel
theorem dL_law_1362 : decode cL_law 1362 = .ok (.iaload, 1) := by decide +kernel
theorem dL_law_1363 : decode cL_law 1363 = .ok (.aload_n 0, 1) := by decide +kernel
theorem dL_law_1364 : decode cL_law 1364 = .ok (.iload 4, 2) := by decide +kernel
theorem dL_law_1366 : decode cL_law 1366 = .ok (.iconst 2, 1) := by decide +kernel
theorem dL_law_1367 : decode cL_law 1367 = .ok (.iadd, 1) := by decide +kernel
theorem dL_law_1368 : decode cL_law 1368 = .ok (.iaload, 1) := by decide +kernel
theorem dL_law_1369 : decode cL_law 1369 = .ok (.aload_n 0, 1) := by decide +kernel
theorem dL_law_1370 : decode cL_law 1370 = .ok (.iload 4, 2) := by decide +kernel
theorem dL_law_1372 : decode cL_law 1372 = .ok (.iconst 3, 1) := by decide +kernel
theorem dL_law_1373 : decode cL_law 1373 = .ok (.iadd, 1) := by decide +kernel
theorem dL_law_1374 : decode cL_law 1374 = .ok (.iaload, 1) := by decide +kernel
theorem dL_law_1375 : decode cL_law 1375 = .ok (.invokevirtual 149, 3) := by decide +kernel
theorem dL_law_1378 : decode cL_law 1378 = .ok (.aload_n 2, 1) := by decide +kernel
theorem dL_law_1379 : decode cL_law 1379 = .ok (.aload_n 0, 1) := by decide +kernel
theorem dL_law_1380 : decode cL_law 1380 = .ok (.iload 4, 2) := by decide +kernel
theorem dL_law_1382 : decode cL_law 1382 = .ok (.iconst 1, 1) := by decide +kernel
theorem dL_law_1383 : decode cL_law 1383 = .ok (.iadd, 1) := by decide +kernel
theorem dL_law_1384 : decode cL_law 1384 = .ok (.iaload, 1) := by decide +kernel
theorem dL_law_1385 : decode cL_law 1385 = .ok (.aload_n 0, 1) := by decide +kernel
theorem dL_law_1386 : decode cL_law 1386 = .ok (.iload 4, 2) := by decide +kernel
theorem dL_law_1388 : decode cL_law 1388 = .ok (.iconst 2, 1) := by decide +kernel
theorem dL_law_1389 : decode cL_law 1389 = .ok (.iadd, 1) := by decide +kernel
theorem dL_law_1390 : decode cL_law 1390 = .ok (.iaload, 1) := by decide +kernel
theorem dL_law_1391 : decode cL_law 1391 = .ok (.aload_n 0, 1) := by decide +kernel
theorem dL_law_1392 : decode cL_law 1392 = .ok (.iload 4, 2) := by decide +kernel
theorem dL_law_1394 : decode cL_law 1394 = .ok (.iconst 3, 1) := by decide +kernel
theorem dL_law_1395 : decode cL_law 1395 = .ok (.iadd, 1) := by decide +kernel
theorem dL_law_1396 : decode cL_law 1396 = .ok (.iaload, 1) := by decide +kernel
theorem dL_law_1397 : decode cL_law 1397 = .ok (.invokevirtual 152, 3) := by decide +kernel
theorem dL_law_1400 : decode cL_law 1400 = .ok (.if_icmp .eq 526, 3) := by decide +kernel
theorem dL_law_1403 : decode cL_law 1403 = .ok (.iconst 0, 1) := by decide +kernel
theorem dL_law_1404 : decode cL_law 1404 = .ok (.ireturn, 1) := by decide +kernel
theorem dL_law_1405 : decode cL_law 1405 = .ok (.aload_n 1, 1) := by decide +kernel
theorem dL_law_1406 : decode cL_law 1406 = .ok (.aload_n 0, 1) := by decide +kernel
theorem dL_law_1407 : decode cL_law 1407 = .ok (.iload 4, 2) := by decide +kernel
theorem dL_law_1409 : decode cL_law 1409 = .ok (.iconst 1, 1) := by decide +kernel
theorem dL_law_1410 : decode cL_law 1410 = .ok (.iadd, 1) := by decide +kernel
theorem dL_law_1411 : decode cL_law 1411 = .ok (.iaload, 1) := by decide +kernel
theorem dL_law_1412 : decode cL_law 1412 = .ok (.aload_n 0, 1) := by decide +kernel
theorem dL_law_1413 : decode cL_law 1413 = .ok (.iload 4, 2) := by decide +kernel
theorem dL_law_1415 : decode cL_law 1415 = .ok (.iconst 2, 1) := by decide +kernel
theorem dL_law_1416 : decode cL_law 1416 = .ok (.iadd, 1) := by decide +kernel
theorem dL_law_1417 : decode cL_law 1417 = .ok (.iaload, 1) := by decide +kernel
theorem dL_law_1418 : decode cL_law 1418 = .ok (.aload_n 0, 1) := by decide +kernel
theorem dL_law_1419 : decode cL_law 1419 = .ok (.iload 4, 2) := by decide +kernel
theorem dL_law_1421 : decode cL_law 1421 = .ok (.iconst 3, 1) := by decide +kernel
theorem dL_law_1422 : decode cL_law 1422 = .ok (.iadd, 1) := by decide +kernel
theorem dL_law_1423 : decode cL_law 1423 = .ok (.iaload, 1) := by decide +kernel
theorem dL_law_1424 : decode cL_law 1424 = .ok (.aload_n 0, 1) := by decide +kernel
theorem dL_law_1425 : decode cL_law 1425 = .ok (.iload 4, 2) := by decide +kernel
theorem dL_law_1427 : decode cL_law 1427 = .ok (.iconst 4, 1) := by decide +kernel
theorem dL_law_1428 : decode cL_law 1428 = .ok (.iadd, 1) := by decide +kernel
theorem dL_law_1429 : decode cL_law 1429 = .ok (.iaload, 1) := by decide +kernel
theorem dL_law_1430 : decode cL_law 1430 = .ok (.invokevirtual 153, 3) := by decide +kernel
theorem dL_law_1433 : decode cL_law 1433 = .ok (.aload_n 2, 1) := by decide +kernel
theorem dL_law_1434 : decode cL_law 1434 = .ok (.aload_n 0, 1) := by decide +kernel
theorem dL_law_1435 : decode cL_law 1435 = .ok (.iload 4, 2) := by decide +kernel
theorem dL_law_1437 : decode cL_law 1437 = .ok (.iconst 1, 1) := by decide +kernel
theorem dL_law_1438 : decode cL_law 1438 = .ok (.iadd, 1) := by decide +kernel
theorem dL_law_1439 : decode cL_law 1439 = .ok (.iaload, 1) := by decide +kernel
theorem dL_law_1440 : decode cL_law 1440 = .ok (.aload_n 0, 1) := by decide +kernel
theorem dL_law_1441 : decode cL_law 1441 = .ok (.iload 4, 2) := by decide +kernel
theorem dL_law_1443 : decode cL_law 1443 = .ok (.iconst 2, 1) := by decide +kernel
theorem dL_law_1444 : decode cL_law 1444 = .ok (.iadd, 1) := by decide +kernel
theorem dL_law_1445 : decode cL_law 1445 = .ok (.iaload, 1) := by decide +kernel
theorem dL_law_1446 : decode cL_law 1446 = .ok (.aload_n 0, 1) := by decide +kernel
theorem dL_law_1447 : decode cL_law 1447 = .ok (.iload 4, 2) := by decide +kernel
theorem dL_law_1449 : decode cL_law 1449 = .ok (.iconst 3, 1) := by decide +kernel
theorem dL_law_1450 : decode cL_law 1450 = .ok (.iadd, 1) := by decide +kernel
theorem dL_law_1451 : decode cL_law 1451 = .ok (.iaload, 1) := by decide +kernel
theorem dL_law_1452 : decode cL_law 1452 = .ok (.aload_n 0, 1) := by decide +kernel
theorem dL_law_1453 : decode cL_law 1453 = .ok (.iload 4, 2) := by decide +kernel
theorem dL_law_1455 : decode cL_law 1455 = .ok (.iconst 4, 1) := by decide +kernel
theorem dL_law_1456 : decode cL_law 1456 = .ok (.iadd, 1) := by decide +kernel
theorem dL_law_1457 : decode cL_law 1457 = .ok (.iaload, 1) := by decide +kernel
theorem dL_law_1458 : decode cL_law 1458 = .ok (.invokevirtual 157, 3) := by decide +kernel
theorem dL_law_1461 : decode cL_law 1461 = .ok (.if_icmp .eq 465, 3) := by decide +kernel
theorem dL_law_1464 : decode cL_law 1464 = .ok (.iconst 0, 1) := by decide +kernel
theorem dL_law_1465 : decode cL_law 1465 = .ok (.ireturn, 1) := by decide +kernel
theorem dL_law_1466 : decode cL_law 1466 = .ok (.aload_n 1, 1) := by decide +kernel
theorem dL_law_1467 : decode cL_law 1467 = .ok (.aload_n 0, 1) := by decide +kernel
theorem dL_law_1468 : decode cL_law 1468 = .ok (.iload 4, 2) := by decide +kernel
theorem dL_law_1470 : decode cL_law 1470 = .ok (.iconst 1, 1) := by decide +kernel
theorem dL_law_1471 : decode cL_law 1471 = .ok (.iadd, 1) := by decide +kernel
theorem dL_law_1472 : decode cL_law 1472 = .ok (.iaload, 1) := by decide +kernel
theorem dL_law_1473 : decode cL_law 1473 = .ok (.aload_n 0, 1) := by decide +kernel
theorem dL_law_1474 : decode cL_law 1474 = .ok (.iload 4, 2) := by decide +kernel
theorem dL_law_1476 : decode cL_law 1476 = .ok (.iconst 2, 1) := by decide +kernel
theorem dL_law_1477 : decode cL_law 1477 = .ok (.iadd, 1) := by decide +kernel
theorem dL_law_1478 : decode cL_law 1478 = .ok (.iaload, 1) := by decide +kernel
theorem dL_law_1479 : decode cL_law 1479 = .ok (.invokevirtual 158, 3) := by decide +kernel
theorem dL_law_1482 : decode cL_law 1482 = .ok (.aload_n 2, 1) := by decide +kernel
theorem dL_law_1483 : decode cL_law 1483 = .ok (.aload_n 0, 1) := by decide +kernel
theorem dL_law_1484 : decode cL_law 1484 = .ok (.iload 4, 2) := by decide +kernel
theorem dL_law_1486 : decode cL_law 1486 = .ok (.iconst 1, 1) := by decide +kernel
theorem dL_law_1487 : decode cL_law 1487 = .ok (.iadd, 1) := by decide +kernel
theorem dL_law_1488 : decode cL_law 1488 = .ok (.iaload, 1) := by decide +kernel
theorem dL_law_1489 : decode cL_law 1489 = .ok (.aload_n 0, 1) := by decide +kernel
theorem dL_law_1490 : decode cL_law 1490 = .ok (.iload 4, 2) := by decide +kernel
theorem dL_law_1492 : decode cL_law 1492 = .ok (.iconst 2, 1) := by decide +kernel
theorem dL_law_1493 : decode cL_law 1493 = .ok (.iadd, 1) := by decide +kernel
theorem dL_law_1494 : decode cL_law 1494 = .ok (.iaload, 1) := by decide +kernel
theorem dL_law_1495 : decode cL_law 1495 = .ok (.invokevirtual 161, 3) := by decide +kernel
theorem dL_law_1498 : decode cL_law 1498 = .ok (.if_icmp .eq 428, 3) := by decide +kernel
theorem dL_law_1501 : decode cL_law 1501 = .ok (.iconst 0, 1) := by decide +kernel
theorem dL_law_1502 : decode cL_law 1502 = .ok (.ireturn, 1) := by decide +kernel
theorem dL_law_1503 : decode cL_law 1503 = .ok (.aload_n 1, 1) := by decide +kernel
theorem dL_law_1504 : decode cL_law 1504 = .ok (.aload_n 0, 1) := by decide +kernel
theorem dL_law_1505 : decode cL_law 1505 = .ok (.iload 4, 2) := by decide +kernel
theorem dL_law_1507 : decode cL_law 1507 = .ok (.iconst 1, 1) := by decide +kernel
theorem dL_law_1508 : decode cL_law 1508 = .ok (.iadd, 1) := by decide +kernel
theorem dL_law_1509 : decode cL_law 1509 = .ok (.iaload, 1) := by decide +kernel
theorem dL_law_1510 : decode cL_law 1510 = .ok (.invokevirtual 162, 3) := by decide +kernel
theorem dL_law_1513 : decode cL_law 1513 = .ok (.aload_n 2, 1) := by decide +kernel
theorem dL_law_1514 : decode cL_law 1514 = .ok (.aload_n 0, 1) := by decide +kernel
theorem dL_law_1515 : decode cL_law 1515 = .ok (.iload 4, 2) := by decide +kernel
theorem dL_law_1517 : decode cL_law 1517 = .ok (.iconst 1, 1) := by decide +kernel
theorem dL_law_1518 : decode cL_law 1518 = .ok (.iadd, 1) := by decide +kernel
theorem dL_law_1519 : decode cL_law 1519 = .ok (.iaload, 1) := by decide +kernel
theorem dL_law_1520 : decode cL_law 1520 = .ok (.invokevirtual 165, 3) := by decide +kernel
theorem dL_law_1523 : decode cL_law 1523 = .ok (.if_icmp .eq 403, 3) := by decide +kernel
theorem dL_law_1526 : decode cL_law 1526 = .ok (.iconst 0, 1) := by decide +kernel
theorem dL_law_1527 : decode cL_law 1527 = .ok (.ireturn, 1) := by decide +kernel
theorem dL_law_1528 : decode cL_law 1528 = .ok (.aload_n 1, 1) := by decide +kernel
theorem dL_law_1529 : decode cL_law 1529 = .ok (.aload_n 0, 1) := by decide +kernel
theorem dL_law_1530 : decode cL_law 1530 = .ok (.iload 4, 2) := by decide +kernel
theorem dL_law_1532 : decode cL_law 1532 = .ok (.iconst 1, 1) := by decide +kernel
theorem dL_law_1533 : decode cL_law 1533 = .ok (.iadd, 1) := by decide +kernel
theorem dL_law_1534 : decode cL_law 1534 = .ok (.iaload, 1) := by decide +kernel
theorem dL_law_1535 : decode cL_law 1535 = .ok (.aload_n 0, 1) := by decide +kernel
theorem dL_law_1536 : decode cL_law 1536 = .ok (.iload 4, 2) := by decide +kernel
theorem dL_law_1538 : decode cL_law 1538 = .ok (.iconst 2, 1) := by decide +kernel
theorem dL_law_1539 : decode cL_law 1539 = .ok (.iadd, 1) := by decide +kernel
theorem dL_law_1540 : decode cL_law 1540 = .ok (.iaload, 1) := by decide +kernel
theorem dL_law_1541 : decode cL_law 1541 = .ok (.invokevirtual 166, 3) := by decide +kernel
theorem dL_law_1544 : decode cL_law 1544 = .ok (.aload_n 2, 1) := by decide +kernel
theorem dL_law_1545 : decode cL_law 1545 = .ok (.aload_n 0, 1) := by decide +kernel
theorem dL_law_1546 : decode cL_law 1546 = .ok (.iload 4, 2) := by decide +kernel
theorem dL_law_1548 : decode cL_law 1548 = .ok (.iconst 1, 1) := by decide +kernel
theorem dL_law_1549 : decode cL_law 1549 = .ok (.iadd, 1) := by decide +kernel
theorem dL_law_1550 : decode cL_law 1550 = .ok (.iaload, 1) := by decide +kernel
theorem dL_law_1551 : decode cL_law 1551 = .ok (.aload_n 0, 1) := by decide +kernel
theorem dL_law_1552 : decode cL_law 1552 = .ok (.iload 4, 2) := by decide +kernel
theorem dL_law_1554 : decode cL_law 1554 = .ok (.iconst 2, 1) := by decide +kernel
theorem dL_law_1555 : decode cL_law 1555 = .ok (.iadd, 1) := by decide +kernel
theorem dL_law_1556 : decode cL_law 1556 = .ok (.iaload, 1) := by decide +kernel
theorem dL_law_1557 : decode cL_law 1557 = .ok (.invokevirtual 169, 3) := by decide +kernel
theorem dL_law_1560 : decode cL_law 1560 = .ok (.if_icmp .eq 366, 3) := by decide +kernel
theorem dL_law_1563 : decode cL_law 1563 = .ok (.iconst 0, 1) := by decide +kernel
theorem dL_law_1564 : decode cL_law 1564 = .ok (.ireturn, 1) := by decide +kernel
theorem dL_law_1565 : decode cL_law 1565 = .ok (.aload_n 1, 1) := by decide +kernel
theorem dL_law_1566 : decode cL_law 1566 = .ok (.aload_n 0, 1) := by decide +kernel
theorem dL_law_1567 : decode cL_law 1567 = .ok (.iload 4, 2) := by decide +kernel
theorem dL_law_1569 : decode cL_law 1569 = .ok (.iconst 1, 1) := by decide +kernel
theorem dL_law_1570 : decode cL_law 1570 = .ok (.iadd, 1) := by decide +kernel
theorem dL_law_1571 : decode cL_law 1571 = .ok (.iaload, 1) := by decide +kernel
theorem dL_law_1572 : decode cL_law 1572 = .ok (.aload_n 0, 1) := by decide +kernel
theorem dL_law_1573 : decode cL_law 1573 = .ok (.iload 4, 2) := by decide +kernel
theorem dL_law_1575 : decode cL_law 1575 = .ok (.iconst 2, 1) := by decide +kernel
theorem dL_law_1576 : decode cL_law 1576 = .ok (.iadd, 1) := by decide +kernel
theorem dL_law_1577 : decode cL_law 1577 = .ok (.iaload, 1) := by decide +kernel
theorem dL_law_1578 : decode cL_law 1578 = .ok (.aload_n 0, 1) := by decide +kernel
theorem dL_law_1579 : decode cL_law 1579 = .ok (.iload 4, 2) := by decide +kernel
theorem dL_law_1581 : decode cL_law 1581 = .ok (.iconst 3, 1) := by decide +kernel
theorem dL_law_1582 : decode cL_law 1582 = .ok (.iadd, 1) := by decide +kernel
theorem dL_law_1583 : decode cL_law 1583 = .ok (.iaload, 1) := by decide +kernel
theorem dL_law_1584 : decode cL_law 1584 = .ok (.invokevirtual 170, 3) := by decide +kernel
theorem dL_law_1587 : decode cL_law 1587 = .ok (.aload_n 2, 1) := by decide +kernel
theorem dL_law_1588 : decode cL_law 1588 = .ok (.aload_n 0, 1) := by decide +kernel
theorem dL_law_1589 : decode cL_law 1589 = .ok (.iload 4, 2) := by decide +kernel
theorem dL_law_1591 : decode cL_law 1591 = .ok (.iconst 1, 1) := by decide +kernel
theorem dL_law_1592 : decode cL_law 1592 = .ok (.iadd, 1) := by decide +kernel
theorem dL_law_1593 : decode cL_law 1593 = .ok (.iaload, 1) := by decide +kernel
theorem dL_law_1594 : decode cL_law 1594 = .ok (.aload_n 0, 1) := by decide +kernel
theorem dL_law_1595 : decode cL_law 1595 = .ok (.iload 4, 2) := by decide +kernel
theorem dL_law_1597 : decode cL_law 1597 = .ok (.iconst 2, 1) := by decide +kernel
theorem dL_law_1598 : decode cL_law 1598 = .ok (.iadd, 1) := by decide +kernel
theorem dL_law_1599 : decode cL_law 1599 = .ok (.iaload, 1) := by decide +kernel
theorem dL_law_1600 : decode cL_law 1600 = .ok (.aload_n 0, 1) := by decide +kernel
theorem dL_law_1601 : decode cL_law 1601 = .ok (.iload 4, 2) := by decide +kernel
theorem dL_law_1603 : decode cL_law 1603 = .ok (.iconst 3, 1) := by decide +kernel
theorem dL_law_1604 : decode cL_law 1604 = .ok (.iadd, 1) := by decide +kernel
theorem dL_law_1605 : decode cL_law 1605 = .ok (.iaload, 1) := by decide +kernel
theorem dL_law_1606 : decode cL_law 1606 = .ok (.invokevirtual 173, 3) := by decide +kernel
theorem dL_law_1609 : decode cL_law 1609 = .ok (.if_icmp .eq 317, 3) := by decide +kernel
theorem dL_law_1612 : decode cL_law 1612 = .ok (.iconst 0, 1) := by decide +kernel
theorem dL_law_1613 : decode cL_law 1613 = .ok (.ireturn, 1) := by decide +kernel
theorem dL_law_1614 : decode cL_law 1614 = .ok (.aload_n 1, 1) := by decide +kernel
theorem dL_law_1615 : decode cL_law 1615 = .ok (.aload_n 0, 1) := by decide +kernel
theorem dL_law_1616 : decode cL_law 1616 = .ok (.iload 4, 2) := by decide +kernel
theorem dL_law_1618 : decode cL_law 1618 = .ok (.iconst 1, 1) := by decide +kernel
theorem dL_law_1619 : decode cL_law 1619 = .ok (.iadd, 1) := by decide +kernel
theorem dL_law_1620 : decode cL_law 1620 = .ok (.iaload, 1) := by decide +kernel
theorem dL_law_1621 : decode cL_law 1621 = .ok (.invokevirtual 174, 3) := by decide +kernel
theorem dL_law_1624 : decode cL_law 1624 = .ok (.aload_n 2, 1) := by decide +kernel
theorem dL_law_1625 : decode cL_law 1625 = .ok (.aload_n 0, 1) := by decide +kernel
theorem dL_law_1626 : decode cL_law 1626 = .ok (.iload 4, 2) := by decide +kernel
theorem dL_law_1628 : decode cL_law 1628 = .ok (.iconst 1, 1) := by decide +kernel
theorem dL_law_1629 : decode cL_law 1629 = .ok (.iadd, 1) := by decide +kernel
theorem dL_law_1630 : decode cL_law 1630 = .ok (.iaload, 1) := by decide +kernel
theorem dL_law_1631 : decode cL_law 1631 = .ok (.invokevirtual 177, 3) := by decide +kernel
theorem dL_law_1634 : decode cL_law 1634 = .ok (.if_icmp .eq 292, 3) := by decide +kernel
theorem dL_law_1637 : decode cL_law 1637 = .ok (.iconst 0, 1) := by decide +kernel
theorem dL_law_1638 : decode cL_law 1638 = .ok (.ireturn, 1) := by decide +kernel
theorem dL_law_1639 : decode cL_law 1639 = .ok (.aload_n 1, 1) := by decide +kernel
theorem dL_law_1640 : decode cL_law 1640 = .ok (.aload_n 0, 1) := by decide +kernel
theorem dL_law_1641 : decode cL_law 1641 = .ok (.iload 4, 2) := by decide +kernel
theorem dL_law_1643 : decode cL_law 1643 = .ok (.iconst 1, 1) := by decide +kernel
theorem dL_law_1644 : decode cL_law 1644 = .ok (.iadd, 1) := by decide +kernel
theorem dL_law_1645 : decode cL_law 1645 = .ok (.iaload, 1) := by decide +kernel
theorem dL_law_1646 : decode cL_law 1646 = .ok (.aload_n 0, 1) := by decide +kernel
theorem dL_law_1647 : decode cL_law 1647 = .ok (.iload 4, 2) := by decide +kernel
theorem dL_law_1649 : decode cL_law 1649 = .ok (.iconst 2, 1) := by decide +kernel
theorem dL_law_1650 : decode cL_law 1650 = .ok (.iadd, 1) := by decide +kernel
theorem dL_law_1651 : decode cL_law 1651 = .ok (.iaload, 1) := by decide +kernel
theorem dL_law_1652 : decode cL_law 1652 = .ok (.invokevirtual 178, 3) := by decide +kernel
theorem dL_law_1655 : decode cL_law 1655 = .ok (.aload_n 2, 1) := by decide +kernel
theorem dL_law_1656 : decode cL_law 1656 = .ok (.aload_n 0, 1) := by decide +kernel
theorem dL_law_1657 : decode cL_law 1657 = .ok (.iload 4, 2) := by decide +kernel
theorem dL_law_1659 : decode cL_law 1659 = .ok (.iconst 1, 1) := by decide +kernel
theorem dL_law_1660 : decode cL_law 1660 = .ok (.iadd, 1) := by decide +kernel
theorem dL_law_1661 : decode cL_law 1661 = .ok (.iaload, 1) := by decide +kernel
theorem dL_law_1662 : decode cL_law 1662 = .ok (.aload_n 0, 1) := by decide +kernel
theorem dL_law_1663 : decode cL_law 1663 = .ok (.iload 4, 2) := by decide +kernel
theorem dL_law_1665 : decode cL_law 1665 = .ok (.iconst 2, 1) := by decide +kernel
theorem dL_law_1666 : decode cL_law 1666 = .ok (.iadd, 1) := by decide +kernel
theorem dL_law_1667 : decode cL_law 1667 = .ok (.iaload, 1) := by decide +kernel
theorem dL_law_1668 : decode cL_law 1668 = .ok (.invokevirtual 181, 3) := by decide +kernel
theorem dL_law_1671 : decode cL_law 1671 = .ok (.if_icmp .eq 255, 3) := by decide +kernel
theorem dL_law_1674 : decode cL_law 1674 = .ok (.iconst 0, 1) := by decide +kernel
theorem dL_law_1675 : decode cL_law 1675 = .ok (.ireturn, 1) := by decide +kernel
theorem dL_law_1676 : decode cL_law 1676 = .ok (.aload_n 1, 1) := by decide +kernel
theorem dL_law_1677 : decode cL_law 1677 = .ok (.aload_n 0, 1) := by decide +kernel
theorem dL_law_1678 : decode cL_law 1678 = .ok (.iload 4, 2) := by decide +kernel
theorem dL_law_1680 : decode cL_law 1680 = .ok (.iconst 1, 1) := by decide +kernel
theorem dL_law_1681 : decode cL_law 1681 = .ok (.iadd, 1) := by decide +kernel
theorem dL_law_1682 : decode cL_law 1682 = .ok (.iaload, 1) := by decide +kernel
theorem dL_law_1683 : decode cL_law 1683 = .ok (.invokevirtual 182, 3) := by decide +kernel
theorem dL_law_1686 : decode cL_law 1686 = .ok (.aload_n 2, 1) := by decide +kernel
theorem dL_law_1687 : decode cL_law 1687 = .ok (.aload_n 0, 1) := by decide +kernel
theorem dL_law_1688 : decode cL_law 1688 = .ok (.iload 4, 2) := by decide +kernel
theorem dL_law_1690 : decode cL_law 1690 = .ok (.iconst 1, 1) := by decide +kernel
theorem dL_law_1691 : decode cL_law 1691 = .ok (.iadd, 1) := by decide +kernel
theorem dL_law_1692 : decode cL_law 1692 = .ok (.iaload, 1) := by decide +kernel
theorem dL_law_1693 : decode cL_law 1693 = .ok (.invokevirtual 185, 3) := by decide +kernel
theorem dL_law_1696 : decode cL_law 1696 = .ok (.if_icmp .eq 230, 3) := by decide +kernel
theorem dL_law_1699 : decode cL_law 1699 = .ok (.iconst 0, 1) := by decide +kernel
theorem dL_law_1700 : decode cL_law 1700 = .ok (.ireturn, 1) := by decide +kernel
theorem dL_law_1701 : decode cL_law 1701 = .ok (.aload_n 1, 1) := by decide +kernel
theorem dL_law_1702 : decode cL_law 1702 = .ok (.aload_n 0, 1) := by decide +kernel
theorem dL_law_1703 : decode cL_law 1703 = .ok (.iload 4, 2) := by decide +kernel
theorem dL_law_1705 : decode cL_law 1705 = .ok (.iconst 1, 1) := by decide +kernel
theorem dL_law_1706 : decode cL_law 1706 = .ok (.iadd, 1) := by decide +kernel
theorem dL_law_1707 : decode cL_law 1707 = .ok (.iaload, 1) := by decide +kernel
theorem dL_law_1708 : decode cL_law 1708 = .ok (.aload_n 0, 1) := by decide +kernel
theorem dL_law_1709 : decode cL_law 1709 = .ok (.iload 4, 2) := by decide +kernel
theorem dL_law_1711 : decode cL_law 1711 = .ok (.iconst 2, 1) := by decide +kernel
theorem dL_law_1712 : decode cL_law 1712 = .ok (.iadd, 1) := by decide +kernel
theorem dL_law_1713 : decode cL_law 1713 = .ok (.iaload, 1) := by decide +kernel
theorem dL_law_1714 : decode cL_law 1714 = .ok (.invokevirtual 186, 3) := by decide +kernel
theorem dL_law_1717 : decode cL_law 1717 = .ok (.aload_n 2, 1) := by decide +kernel
theorem dL_law_1718 : decode cL_law 1718 = .ok (.aload_n 0, 1) := by decide +kernel
theorem dL_law_1719 : decode cL_law 1719 = .ok (.iload 4, 2) := by decide +kernel
theorem dL_law_1721 : decode cL_law 1721 = .ok (.iconst 1, 1) := by decide +kernel
theorem dL_law_1722 : decode cL_law 1722 = .ok (.iadd, 1) := by decide +kernel
theorem dL_law_1723 : decode cL_law 1723 = .ok (.iaload, 1) := by decide +kernel
theorem dL_law_1724 : decode cL_law 1724 = .ok (.aload_n 0, 1) := by decide +kernel
theorem dL_law_1725 : decode cL_law 1725 = .ok (.iload 4, 2) := by decide +kernel
theorem dL_law_1727 : decode cL_law 1727 = .ok (.iconst 2, 1) := by decide +kernel
theorem dL_law_1728 : decode cL_law 1728 = .ok (.iadd, 1) := by decide +kernel
theorem dL_law_1729 : decode cL_law 1729 = .ok (.iaload, 1) := by decide +kernel
theorem dL_law_1730 : decode cL_law 1730 = .ok (.invokevirtual 189, 3) := by decide +kernel
theorem dL_law_1733 : decode cL_law 1733 = .ok (.if_icmp .eq 193, 3) := by decide +kernel
theorem dL_law_1736 : decode cL_law 1736 = .ok (.iconst 0, 1) := by decide +kernel
theorem dL_law_1737 : decode cL_law 1737 = .ok (.ireturn, 1) := by decide +kernel
theorem dL_law_1738 : decode cL_law 1738 = .ok (.aload_n 1, 1) := by decide +kernel
theorem dL_law_1739 : decode cL_law 1739 = .ok (.aload_n 0, 1) := by decide +kernel
theorem dL_law_1740 : decode cL_law 1740 = .ok (.iload 4, 2) := by decide +kernel
theorem dL_law_1742 : decode cL_law 1742 = .ok (.iconst 1, 1) := by decide +kernel
theorem dL_law_1743 : decode cL_law 1743 = .ok (.iadd, 1) := by decide +kernel
theorem dL_law_1744 : decode cL_law 1744 = .ok (.iaload, 1) := by decide +kernel
theorem dL_law_1745 : decode cL_law 1745 = .ok (.invokevirtual 190, 3) := by decide +kernel
theorem dL_law_1748 : decode cL_law 1748 = .ok (.aload_n 2, 1) := by decide +kernel
theorem dL_law_1749 : decode cL_law 1749 = .ok (.aload_n 0, 1) := by decide +kernel
theorem dL_law_1750 : decode cL_law 1750 = .ok (.iload 4, 2) := by decide +kernel
theorem dL_law_1752 : decode cL_law 1752 = .ok (.iconst 1, 1) := by decide +kernel
theorem dL_law_1753 : decode cL_law 1753 = .ok (.iadd, 1) := by decide +kernel
theorem dL_law_1754 : decode cL_law 1754 = .ok (.iaload, 1) := by decide +kernel
theorem dL_law_1755 : decode cL_law 1755 = .ok (.invokevirtual 193, 3) := by decide +kernel
theorem dL_law_1758 : decode cL_law 1758 = .ok (.if_icmp .eq 168, 3) := by decide +kernel
theorem dL_law_1761 : decode cL_law 1761 = .ok (.iconst 0, 1) := by decide +kernel
theorem dL_law_1762 : decode cL_law 1762 = .ok (.ireturn, 1) := by decide +kernel
theorem dL_law_1763 : decode cL_law 1763 = .ok (.aload_n 1, 1) := by decide +kernel
theorem dL_law_1764 : decode cL_law 1764 = .ok (.aload_n 0, 1) := by decide +kernel
theorem dL_law_1765 : decode cL_law 1765 = .ok (.iload 4, 2) := by decide +kernel
theorem dL_law_1767 : decode cL_law 1767 = .ok (.iconst 1, 1) := by decide +kernel
theorem dL_law_1768 : decode cL_law 1768 = .ok (.iadd, 1) := by decide +kernel
theorem dL_law_1769 : decode cL_law 1769 = .ok (.iaload, 1) := by decide +kernel
theorem dL_law_1770 : decode cL_law 1770 = .ok (.aload_n 0, 1) := by decide +kernel
theorem dL_law_1771 : decode cL_law 1771 = .ok (.iload 4, 2) := by decide +kernel
theorem dL_law_1773 : decode cL_law 1773 = .ok (.iconst 2, 1) := by decide +kernel
theorem dL_law_1774 : decode cL_law 1774 = .ok (.iadd, 1) := by decide +kernel
theorem dL_law_1775 : decode cL_law 1775 = .ok (.iaload, 1) := by decide +kernel
theorem dL_law_1776 : decode cL_law 1776 = .ok (.invokevirtual 194, 3) := by decide +kernel
theorem dL_law_1779 : decode cL_law 1779 = .ok (.aload_n 2, 1) := by decide +kernel
theorem dL_law_1780 : decode cL_law 1780 = .ok (.aload_n 0, 1) := by decide +kernel
theorem dL_law_1781 : decode cL_law 1781 = .ok (.iload 4, 2) := by decide +kernel
theorem dL_law_1783 : decode cL_law 1783 = .ok (.iconst 1, 1) := by decide +kernel
theorem dL_law_1784 : decode cL_law 1784 = .ok (.iadd, 1) := by decide +kernel
theorem dL_law_1785 : decode cL_law 1785 = .ok (.iaload, 1) := by decide +kernel
theorem dL_law_1786 : decode cL_law 1786 = .ok (.aload_n 0, 1) := by decide +kernel
theorem dL_law_1787 : decode cL_law 1787 = .ok (.iload 4, 2) := by decide +kernel
theorem dL_law_1789 : decode cL_law 1789 = .ok (.iconst 2, 1) := by decide +kernel
theorem dL_law_1790 : decode cL_law 1790 = .ok (.iadd, 1) := by decide +kernel
theorem dL_law_1791 : decode cL_law 1791 = .ok (.iaload, 1) := by decide +kernel
theorem dL_law_1792 : decode cL_law 1792 = .ok (.invokevirtual 197, 3) := by decide +kernel
theorem dL_law_1795 : decode cL_law 1795 = .ok (.if_icmp .eq 131, 3) := by decide +kernel
theorem dL_law_1798 : decode cL_law 1798 = .ok (.iconst 0, 1) := by decide +kernel
theorem dL_law_1799 : decode cL_law 1799 = .ok (.ireturn, 1) := by decide +kernel
theorem dL_law_1800 : decode cL_law 1800 = .ok (.aload_n 1, 1) := by decide +kernel
theorem dL_law_1801 : decode cL_law 1801 = .ok (.aload_n 0, 1) := by decide +kernel
theorem dL_law_1802 : decode cL_law 1802 = .ok (.iload 4, 2) := by decide +kernel
theorem dL_law_1804 : decode cL_law 1804 = .ok (.iconst 1, 1) := by decide +kernel
theorem dL_law_1805 : decode cL_law 1805 = .ok (.iadd, 1) := by decide +kernel
theorem dL_law_1806 : decode cL_law 1806 = .ok (.iaload, 1) := by decide +kernel
theorem dL_law_1807 : decode cL_law 1807 = .ok (.aload_n 0, 1) := by decide +kernel
theorem dL_law_1808 : decode cL_law 1808 = .ok (.iload 4, 2) := by decide +kernel
theorem dL_law_1810 : decode cL_law 1810 = .ok (.iconst 2, 1) := by decide +kernel
theorem dL_law_1811 : decode cL_law 1811 = .ok (.iadd, 1) := by decide +kernel
theorem dL_law_1812 : decode cL_law 1812 = .ok (.iaload, 1) := by decide +kernel
theorem dL_law_1813 : decode cL_law 1813 = .ok (.invokevirtual 198, 3) := by decide +kernel
theorem dL_law_1816 : decode cL_law 1816 = .ok (.aload_n 2, 1) := by decide +kernel
theorem dL_law_1817 : decode cL_law 1817 = .ok (.aload_n 0, 1) := by decide +kernel
theorem dL_law_1818 : decode cL_law 1818 = .ok (.iload 4, 2) := by decide +kernel
theorem dL_law_1820 : decode cL_law 1820 = .ok (.iconst 1, 1) := by decide +kernel
theorem dL_law_1821 : decode cL_law 1821 = .ok (.iadd, 1) := by decide +kernel
theorem dL_law_1822 : decode cL_law 1822 = .ok (.iaload, 1) := by decide +kernel
theorem dL_law_1823 : decode cL_law 1823 = .ok (.aload_n 0, 1) := by decide +kernel
theorem dL_law_1824 : decode cL_law 1824 = .ok (.iload 4, 2) := by decide +kernel
theorem dL_law_1826 : decode cL_law 1826 = .ok (.iconst 2, 1) := by decide +kernel
theorem dL_law_1827 : decode cL_law 1827 = .ok (.iadd, 1) := by decide +kernel
theorem dL_law_1828 : decode cL_law 1828 = .ok (.iaload, 1) := by decide +kernel
theorem dL_law_1829 : decode cL_law 1829 = .ok (.invokevirtual 201, 3) := by decide +kernel
theorem dL_law_1832 : decode cL_law 1832 = .ok (.if_icmp .eq 94, 3) := by decide +kernel
theorem dL_law_1835 : decode cL_law 1835 = .ok (.iconst 0, 1) := by decide +kernel
theorem dL_law_1836 : decode cL_law 1836 = .ok (.ireturn, 1) := by decide +kernel
theorem dL_law_1837 : decode cL_law 1837 = .ok (.aload_n 1, 1) := by decide +kernel
theorem dL_law_1838 : decode cL_law 1838 = .ok (.aload_n 0, 1) := by decide +kernel
theorem dL_law_1839 : decode cL_law 1839 = .ok (.iload 4, 2) := by decide +kernel
theorem dL_law_1841 : decode cL_law 1841 = .ok (.iconst 1, 1) := by decide +kernel
theorem dL_law_1842 : decode cL_law 1842 = .ok (.iadd, 1) := by decide +kernel
theorem dL_law_1843 : decode cL_law 1843 = .ok (.iaload, 1) := by decide +kernel
theorem dL_law_1844 : decode cL_law 1844 = .ok (.invokevirtual 202, 3) := by decide +kernel
theorem dL_law_1847 : decode cL_law 1847 = .ok (.aload_n 2, 1) := by decide +kernel
theorem dL_law_1848 : decode cL_law 1848 = .ok (.aload_n 0, 1) := by decide +kernel
theorem dL_law_1849 : decode cL_law 1849 = .ok (.iload 4, 2) := by decide +kernel
theorem dL_law_1851 : decode cL_law 1851 = .ok (.iconst 1, 1) := by decide +kernel
theorem dL_law_1852 : decode cL_law 1852 = .ok (.iadd, 1) := by decide +kernel
theorem dL_law_1853 : decode cL_law 1853 = .ok (.iaload, 1) := by decide +kernel
theorem dL_law_1854 : decode cL_law 1854 = .ok (.invokevirtual 205, 3) := by decide +kernel
theorem dL_law_1857 : decode cL_law 1857 = .ok (.if_icmp .eq 69, 3) := by decide +kernel
theorem dL_law_1860 : decode cL_law 1860 = .ok (.iconst 0, 1) := by decide +kernel
theorem dL_law_1861 : decode cL_law 1861 = .ok (.ireturn, 1) := by decide +kernel
theorem dL_law_1862 : decode cL_law 1862 = .ok (.aload_n 1, 1) := by decide +kernel
theorem dL_law_1863 : decode cL_law 1863 = .ok (.invokevirtual 206, 3) := by decide +kernel
theorem dL_law_1866 : decode cL_law 1866 = .ok (.aload_n 2, 1) := by decide +kernel
theorem dL_law_1867 : decode cL_law 1867 = .ok (.invokevirtual 209, 3) := by decide +kernel
theorem dL_law_1870 : decode cL_law 1870 = .ok (.if_icmp .eq 56, 3) := by decide +kernel
theorem dL_law_1873 : decode cL_law 1873 = .ok (.iconst 0, 1) := by decide +kernel
theorem dL_law_1874 : decode cL_law 1874 = .ok (.ireturn, 1) := by decide +kernel
theorem dL_law_1875 : decode cL_law 1875 = .ok (.aload_n 1, 1) := by decide +kernel
theorem dL_law_1876 : decode cL_law 1876 = .ok (.invokevirtual 210, 3) := by decide +kernel
theorem dL_law_1879 : decode cL_law 1879 = .ok (.aload_n 2, 1) := by decide +kernel
theorem dL_law_1880 : decode cL_law 1880 = .ok (.invokevirtual 213, 3) := by decide +kernel
theorem dL_law_1883 : decode cL_law 1883 = .ok (.if_icmp .eq 43, 3) := by decide +kernel
theorem dL_law_1886 : decode cL_law 1886 = .ok (.iconst 0, 1) := by decide +kernel
theorem dL_law_1887 : decode cL_law 1887 = .ok (.ireturn, 1) := by decide +kernel
theorem dL_law_1888 : decode cL_law 1888 = .ok (.aload_n 1, 1) := by decide +kernel
theorem dL_law_1889 : decode cL_law 1889 = .ok (.invokevirtual 214, 3) := by decide +kernel
theorem dL_law_1892 : decode cL_law 1892 = .ok (.aload_n 2, 1) := by decide +kernel
theorem dL_law_1893 : decode cL_law 1893 = .ok (.invokevirtual 217, 3) := by decide +kernel
theorem dL_law_1896 : decode cL_law 1896 = .ok (.if_icmp .eq 30, 3) := by decide +kernel
theorem dL_law_1899 : decode cL_law 1899 = .ok (.iconst 0, 1) := by decide +kernel
theorem dL_law_1900 : decode cL_law 1900 = .ok (.ireturn, 1) := by decide +kernel
theorem dL_law_1901 : decode cL_law 1901 = .ok (.aload_n 1, 1) := by decide +kernel
theorem dL_law_1902 : decode cL_law 1902 = .ok (.aload_n 0, 1) := by decide +kernel
theorem dL_law_1903 : decode cL_law 1903 = .ok (.iload 4, 2) := by decide +kernel
theorem dL_law_1905 : decode cL_law 1905 = .ok (.iconst 1, 1) := by decide +kernel
theorem dL_law_1906 : decode cL_law 1906 = .ok (.iadd, 1) := by decide +kernel
theorem dL_law_1907 : decode cL_law 1907 = .ok (.iaload, 1) := by decide +kernel
theorem dL_law_1908 : decode cL_law 1908 = .ok (.invokevirtual 218, 3) := by decide +kernel
theorem dL_law_1911 : decode cL_law 1911 = .ok (.aload_n 2, 1) := by decide +kernel
theorem dL_law_1912 : decode cL_law 1912 = .ok (.aload_n 0, 1) := by decide +kernel
theorem dL_law_1913 : decode cL_law 1913 = .ok (.iload 4, 2) := by decide +kernel
theorem dL_law_1915 : decode cL_law 1915 = .ok (.iconst 1, 1) := by decide +kernel
theorem dL_law_1916 : decode cL_law 1916 = .ok (.iadd, 1) := by decide +kernel
theorem dL_law_1917 : decode cL_law 1917 = .ok (.iaload, 1) := by decide +kernel
theorem dL_law_1918 : decode cL_law 1918 = .ok (.invokevirtual 221, 3) := by decide +kernel
theorem dL_law_1921 : decode cL_law 1921 = .ok (.if_icmp .eq 5, 3) := by decide +kernel
theorem dL_law_1924 : decode cL_law 1924 = .ok (.iconst 0, 1) := by decide +kernel
theorem dL_law_1925 : decode cL_law 1925 = .ok (.ireturn, 1) := by decide +kernel
theorem dL_law_1926 : decode cL_law 1926 = .ok (.iinc 4 6, 3) := by decide +kernel
theorem dL_law_1929 : decode cL_law 1929 = .ok (.goto (-1906), 3) := by decide +kernel
theorem dL_law_1932 : decode cL_law 1932 = .ok (.iconst 1, 1) := by decide +kernel
theorem dL_law_1933 : decode cL_law 1933 = .ok (.ireturn, 1) := by decide +kernel
theorem iw_L_law_X0 : ∀ w ∈ wsX00, w ∈ wsL_law := inlX0
theorem iw_L_law_X1 : ∀ w ∈ wsX10, w ∈ wsL_law := inlX1
theorem iw_L_law_X2 : ∀ w ∈ wsX20, w ∈ wsL_law := inlX2
theorem iw_L_law_X3 : ∀ w ∈ wsX30, w ∈ wsL_law := inlX3
theorem iw_L_law_X4 : ∀ w ∈ wsX40, w ∈ wsL_law := inlX4
theorem iw_L_law_X5 : ∀ w ∈ wsX50, w ∈ wsL_law := inlX5
theorem iw_L_law_X6 : ∀ w ∈ wsX60, w ∈ wsL_law := inlX6
theorem iw_L_law_X7 : ∀ w ∈ wsX70, w ∈ wsL_law := inlX7
theorem iw_L_law_X8 : ∀ w ∈ wsX80, w ∈ wsL_law := inlX8
theorem iw_L_law_X9 : ∀ w ∈ wsX90, w ∈ wsL_law := inlX9
theorem iw_L_law_X10 : ∀ w ∈ wsX100, w ∈ wsL_law := inlX10
theorem iw_L_law_X11 : ∀ w ∈ wsX110, w ∈ wsL_law := inlX11
theorem iw_L_law_X12 : ∀ w ∈ wsX120, w ∈ wsL_law := inlX12
theorem vn_X11 : ∀ j, j < 16 → defaultValue (tyX11 j) = vp_V [.null, .null, .null, .null, .null, .int 0, .null, .null, .null, .null, .null, .null, .null, .null, .null, .long 0] j := fun j hj => match j, hj with | 0, _ => rfl | 1, _ => rfl | 2, _ => rfl | 3, _ => rfl | 4, _ => rfl | 5, _ => rfl | 6, _ => rfl | 7, _ => rfl | 8, _ => rfl | 9, _ => rfl | 10, _ => rfl | 11, _ => rfl | 12, _ => rfl | 13, _ => rfl | 14, _ => rfl | 15, _ => rfl | j + 16, h => absurd h (by omega)
theorem vn_X12 : ∀ j, j < 54 → defaultValue (tyX12 j) = vp_V [.int 0, .null, .null, .null, .null, .null, .int 0, .int 0, .int 0, .int 0, .int 0, .int 0, .int 0, .int 0, .int 0, .null, .null, .int 0, .null, .null, .null, .null, .null, .null, .null, .null, .int 0, .int 0, .int 0, .int 0, .int 0, .int 0, .null, .null, .int 0, .null, .null, .null, .null, .null, .null, .int 0, .long 0, .int 0, .int 0, .null, .null, .null, .null, .null, .null, .int 0, .null, .int 0] j := fun j hj => match j, hj with | 0, _ => rfl | 1, _ => rfl | 2, _ => rfl | 3, _ => rfl | 4, _ => rfl | 5, _ => rfl | 6, _ => rfl | 7, _ => rfl | 8, _ => rfl | 9, _ => rfl | 10, _ => rfl | 11, _ => rfl | 12, _ => rfl | 13, _ => rfl | 14, _ => rfl | 15, _ => rfl | 16, _ => rfl | 17, _ => rfl | 18, _ => rfl | 19, _ => rfl | 20, _ => rfl | 21, _ => rfl | 22, _ => rfl | 23, _ => rfl | 24, _ => rfl | 25, _ => rfl | 26, _ => rfl | 27, _ => rfl | 28, _ => rfl | 29, _ => rfl | 30, _ => rfl | 31, _ => rfl | 32, _ => rfl | 33, _ => rfl | 34, _ => rfl | 35, _ => rfl | 36, _ => rfl | 37, _ => rfl | 38, _ => rfl | 39, _ => rfl | 40, _ => rfl | 41, _ => rfl | 42, _ => rfl | 43, _ => rfl | 44, _ => rfl | 45, _ => rfl | 46, _ => rfl | 47, _ => rfl | 48, _ => rfl | 49, _ => rfl | 50, _ => rfl | 51, _ => rfl | 52, _ => rfl | 53, _ => rfl | j + 54, h => absurd h (by omega)
theorem iw_X11_blown_X11 : ∀ w ∈ wsX110, w ∈ wsX11_blown := by decide +kernel
theorem iw_X11_buoy_X0 : ∀ w ∈ wsX00, w ∈ wsX11_buoy := by decide +kernel
theorem iw_X11_buoy_X11 : ∀ w ∈ wsX110, w ∈ wsX11_buoy := by decide +kernel
theorem iw_X11_feed_X11 : ∀ w ∈ wsX110, w ∈ wsX11_feed := by decide +kernel
theorem iw_X11_feed_X9 : ∀ w ∈ wsX90, w ∈ wsX11_feed := by decide +kernel
theorem iw_X12_blown_X12 : ∀ w ∈ wsX120, w ∈ wsX12_blown := by decide +kernel
theorem iw_X12_feed_X12 : ∀ w ∈ wsX120, w ∈ wsX12_feed := by decide +kernel
theorem iw_X12_put_X12 : ∀ w ∈ wsX120, w ∈ wsX12_put := by decide +kernel
theorem iw_X9_append_X9 : ∀ w ∈ wsX90, w ∈ wsX9_append := by decide +kernel
