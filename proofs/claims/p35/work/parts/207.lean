noncomputable def wd_c_X10_passHour (a0 : Nat) (a1 : Nat) (a2 : Nat) (a3 : Nat) (a4 : Nat) (a5 : Nat) (a6 : Nat) (a7 : Nat) (a8 : Nat) (a9 : Int32) (a10 : Int32) (a11 : Int32) (a12 : Nat) (a13 : Int32) (a14 : Int32) (a15 : Int32) (a16 : Int32) (a17 : Nat) (a18 : Nat) (a19 : Nat) (a20 : Nat) (a21 : Nat) (a22 : Nat) (a23 : Nat) (a24 : Nat) (a25 : Nat) (a26 : Nat) (a27 : ClassId) (a28 : Nat → Int32) (a29 : Nat) (a30 : ClassId) (a31 : Nat → Int32) (a32 : Nat) (a33 : ClassId) (a34 : Nat → Int32) (a35 : Nat) (a36 : ClassId) (a37 : Nat → Int32) (a38 : Nat) (a39 : ClassId) (a40 : Nat → Int32) (a41 : Nat) (a42 : ClassId) (a43 : Nat → Int32) (a44 : Nat) (a45 : ClassId) (a46 : Nat → Int32) (a47 : Nat) (a48 : ClassId) (a49 : Nat → Int32) (a50 : Nat) (a51 : ClassId) (a52 : Nat → Int32) (a53 : Nat) (a54 : Nat) (a55 : Int32) (a56 : Int32) (a57 : Nat) (a58 : Nat) (a59 : ClassId) (a60 : Nat → Int32) (a61 : Nat) (a62 : ClassId) (a63 : Nat → Option Nat) (a64 : Nat) (a65 : Nat) (a66 : Int32) (a67 : Nat) (a68 : Nat) (a69 : ClassId) (a70 : Nat → Int32) (a71 : Nat) (a72 : ClassId) (a73 : Nat → Int32) (a74 : Nat) (a75 : Nat) (a76 : Int32) (a77 : Nat) (a78 : Nat) (a79 : ClassId) (a80 : Nat → Int32) (a81 : Nat) (a82 : ClassId) (a83 : Nat → Int32) (a84 : Nat) (a85 : Nat) (a86 : Int32) (a87 : Nat) (a88 : Nat) (a89 : ClassId) (a90 : Nat → Int32) (a91 : Nat) (a92 : ClassId) (a93 : Nat → Int32) (a94 : Nat) (a95 : Nat) (a96 : Int32) (a97 : Nat) (a98 : Nat) (a99 : ClassId) (a100 : Nat → Int32) (a101 : Nat) (a102 : ClassId) (a103 : Nat → Int32) (a104 : Nat) (a105 : ClassId) (a106 : Nat → Int32) (a107 : Nat) (a108 : ClassId) (a109 : Nat → Int32) (a110 : Nat) (a111 : ClassId) (a112 : Nat → Int32) : va_W := [(a0, .inr (10, [.ref a1, .ref a2, .ref a3, .ref a4, .ref a5, .ref a6])), (a7, .inr (0, [.ref a8, .int a9, .int a10, .int a11])), (a12, .inr (7, [.int a13, .int a14, .int a15, .int a16, .ref a17, .ref a18, .ref a19, .ref a20, .ref a21, .ref a22, .ref a23, .ref a24, .ref a25])), (a26, .inl (a27, 3, .inl a28)), (a29, .inl (a30, 80, .inl a31)), (a32, .inl (a33, 3, .inl a34)), (a35, .inl (a36, 8, .inl a37)), (a38, .inl (a39, 24, .inl a40)), (a41, .inl (a42, 8, .inl a43)), (a44, .inl (a45, 8, .inl a46)), (a47, .inl (a48, 3, .inl a49)), (a50, .inl (a51, 3, .inl a52)), (a53, .inr (5, [.ref a54, .int a55, .int a56, .ref a57])), (a58, .inl (a59, 6, .inl a60)), (a61, .inl (a62, 5, .inr (.inr (.inr (.inr a63))))), (a64, .inr (4, [.ref a65, .int a66, .ref a67])), (a68, .inl (a69, 240, .inl a70)), (a71, .inl (a72, 64, .inl a73)), (a74, .inr (4, [.ref a75, .int a76, .ref a77])), (a78, .inl (a79, 240, .inl a80)), (a81, .inl (a82, 64, .inl a83)), (a84, .inr (4, [.ref a85, .int a86, .ref a87])), (a88, .inl (a89, 240, .inl a90)), (a91, .inl (a92, 64, .inl a93)), (a94, .inr (4, [.ref a95, .int a96, .ref a97])), (a98, .inl (a99, 240, .inl a100)), (a101, .inl (a102, 64, .inl a103)), (a104, .inl (a105, 3, .inl a106)), (a107, .inl (a108, 3, .inl a109)), (a110, .inl (a111, 3, .inl a112))]
noncomputable def wf_c_X10_passHour : List Cond := List.cons (.code yX10_passHour cX10_passHour 3 none) (@HAppend.hAppend (List Cond) (List Cond) (List Cond) _ (@HAppend.hAppend (List Cond) (List Cond) (List Cond) _ (@HAppend.hAppend (List Cond) (List Cond) (List Cond) _ (@HAppend.hAppend (List Cond) (List Cond) (List Cond) _ (@HAppend.hAppend (List Cond) (List Cond) (List Cond) _ [.fieldLink RX10 9 "BuoyVote$Waters" "told" "LBuoyVote$Borough;", .fieldLink RX10 93 "BuoyVote$Borough" "boats" "I", .fieldLink RX10 60 "BuoyVote$Sea" "hour" "I", .methodLink RX10 111 yX10_tallyUp, .instanceMethod yX10_tallyUp, .selects RX10 yX10_tallyUp yX10_tallyUp, .initialized RX10, .code yX10_tallyUp cX10_tallyUp 4 none, .fieldLink RX10 26 "BuoyVote$Waters" "tally" "[I", .fieldLink RX10 105 "BuoyVote$Borough" "buoys" "I", .fieldLink RX10 23 "BuoyVote$Waters" "leans" "[I", .methodLink RX10 99 yX0_chain, .instanceMethod yX0_chain, .selects RX0 yX0_chain yX0_chain, .initialized RX0, .code yX0_chain cX0_chain 2 (some .int), .fieldLink RX0 11 "BuoyVote$Borough" "values" "[I", .methodLink RX10 102 yX10_leanBy, .instanceMethod yX10_leanBy, .selects RX10 yX10_leanBy yX10_leanBy, .code yX10_leanBy cX10_leanBy 5 (some .int), .fieldLink RX10 19 "BuoyVote$Waters" "draws" "[I", .methodLink RX10 96 yX10_drawOf, .instanceMethod yX10_drawOf, .selects RX10 yX10_drawOf yX10_drawOf, .code yX10_drawOf cX10_drawOf 7 (some .int), .fieldLink RX10 67 "BuoyVote$Sea" "liking" "[I", .fieldLink RX10 70 "BuoyVote$Sea" "old" "[I", .fieldLink RX10 73 "BuoyVote$Sea" "barnacles" "[I", .methodLink RX10 43 yX0_buoyX, .instanceMethod yX0_buoyX, .selects RX0 yX0_buoyX yX0_buoyX, .code yX0_buoyX cX0_buoyX 2 (some .int), .methodLink RX10 50 yX0_buoyY, .instanceMethod yX0_buoyY, .selects RX0 yX0_buoyY yX0_buoyY, .code yX0_buoyY cX0_buoyY 2 (some .int), .methodLink RX10 76 yX7_awayOf, .instanceMethod yX7_awayOf, .selects RX7 yX7_awayOf yX7_awayOf, .initialized RX7, .code yX7_awayOf cX7_awayOf 4 (some .int), .fieldLink RX7 9 "BuoyVote$Sea" "x" "[I", .methodLink RX7 99 Lib.Math.abs.name, .static Lib.Math.abs.name, .initialized "java/lang/Math", .code Lib.Math.abs.name Lib.Math.abs.code 1 (some .int), .fieldLink RX7 15 "BuoyVote$Sea" "y" "[I", .fieldLink RX10 15 "BuoyVote$Waters" "laws" "LBuoyVote$LawBook;", .methodLink RX10 80 yX0_voice, .instanceMethod yX0_voice, .selects RX0 yX0_voice yX0_voice, .code yX0_voice cX0_voice 2 (some .int), .methodLink RX10 83 yX10_pushOf, .instanceMethod yX10_pushOf, .selects RX10 yX10_pushOf yX10_pushOf, .code yX10_pushOf cX10_pushOf 10 (some .int), .fieldLink RX10 38 "BuoyVote$Sea" "x" "[I", .fieldLink RX10 47 "BuoyVote$Sea" "y" "[I", .fieldLink RX10 53 "BuoyVote$Sea" "way" "I", .fieldLink RX10 57 "BuoyVote$Sea" "wind" "I", .methodLink RX10 63 yX10_isRising, .instanceMethod yX10_isRising, .selects RX10 yX10_isRising yX10_isRising, .code yX10_isRising cX10_isRising 3 (some .boolean), .methodLink RX10 32 yX0_tideHours, .instanceMethod yX0_tideHours, .selects RX0 yX0_tideHours yX0_tideHours, .code yX0_tideHours cX0_tideHours 1 (some .int), .methodLink RX10 87 yX5_drawBy, .instanceMethod yX5_drawBy, .selects RX5 yX5_drawBy yX5_drawBy, .initialized RX5, .code yX5_drawBy cX5_drawBy 8 (some .int), .fieldLink RX5 18 "BuoyVote$LawBook" "holding" "I", .fieldLink RX5 26 "BuoyVote$LawBook" "size" "I", .fieldLink RX5 22 "BuoyVote$LawBook" "letters" "[I", .fieldLink RX5 11 "BuoyVote$LawBook" "laws" "[LBuoyVote$Law;", .methodLink RX5 29 yX4_worth, .instanceMethod yX4_worth, .selects RX4 yX4_worth yX4_worth, .initialized RX4, .code yX4_worth cX4_worth 6 (some .int), .fieldLink RX4 20 "BuoyVote$Law" "length" "I", .fieldLink RX4 11 "BuoyVote$Law" "code" "[I", .fieldLink RX4 17 "BuoyVote$Law" "stack" "[I", .methodLink RX4 24 yX4_joinedAt, .instanceMethod yX4_joinedAt, .selects RX4 yX4_joinedAt yX4_joinedAt, .code yX4_joinedAt cX4_joinedAt 7 (some .int), .constantLong RX4 28 (1000000), .constantLong RX4 31 (-1000000), .constant RX4 33 (-1000000), .constant RX4 30 (1000000), .methodLink RX10 127 yX0_countHours, .instanceMethod yX0_countHours, .selects RX0 yX0_countHours yX0_countHours, .code yX0_countHours cX0_countHours 1 (some .int), .methodLink RX10 130 yX10_holdCount, .instanceMethod yX10_holdCount, .selects RX10 yX10_holdCount yX10_holdCount, .code yX10_holdCount cX10_holdCount 5 none, .methodLink RX10 133 yX10_winner, .instanceMethod yX10_winner, .selects RX10 yX10_winner yX10_winner, .code yX10_winner cX10_winner 4 (some .int), .fieldLink RX10 136 "BuoyVote$Sea" "won" "[I", .methodLink RX10 139 Lib.Math.min.name, .static Lib.Math.min.name, .code Lib.Math.min.name Lib.Math.min.code 2 (some .int), .methodLink RX10 120 yX0_speed, .instanceMethod yX0_speed, .selects RX0 yX0_speed yX0_speed, .code yX0_speed cX0_speed 2 (some .int), .methodLink RX10 123 yX7_rowOn, .instanceMethod yX7_rowOn, .selects RX7 yX7_rowOn yX7_rowOn, .code yX7_rowOn cX7_rowOn 7 none, .fieldLink RX7 18 "BuoyVote$Sea" "goalX" "[I", .methodLink RX7 94 Lib.Math.min.name, .fieldLink RX7 21 "BuoyVote$Sea" "goalY" "[I"] wsX100) wsX00) wsX70) wsX50) wsX40)
theorem iw_c_X10_passHour_X10 : ∀ w ∈ wsX100, w ∈ wf_c_X10_passHour := fun w h => List.mem_cons_of_mem _ (List.mem_append_left _ (List.mem_append_left _ (List.mem_append_left _ (List.mem_append_left _ (List.mem_append_right _ h)))))
theorem iw_c_X10_passHour_X0 : ∀ w ∈ wsX00, w ∈ wf_c_X10_passHour := fun w h => List.mem_cons_of_mem _ (List.mem_append_left _ (List.mem_append_left _ (List.mem_append_left _ (List.mem_append_right _ h))))
theorem iw_c_X10_passHour_X7 : ∀ w ∈ wsX70, w ∈ wf_c_X10_passHour := fun w h => List.mem_cons_of_mem _ (List.mem_append_left _ (List.mem_append_left _ (List.mem_append_right _ h)))
theorem iw_c_X10_passHour_X5 : ∀ w ∈ wsX50, w ∈ wf_c_X10_passHour := fun w h => List.mem_cons_of_mem _ (List.mem_append_left _ (List.mem_append_right _ h))
theorem iw_c_X10_passHour_X4 : ∀ w ∈ wsX40, w ∈ wf_c_X10_passHour := fun w h => List.mem_cons_of_mem _ (List.mem_append_right _ h)
set_option maxRecDepth 20000 in
theorem gf_c_X10_passHour_c_X10_tallyUp : GoodIn wf_c_X10_passHour (wsV RX10 111 RX10 yX10_tallyUp wf_c_X10_tallyUp) := goodIn_app (gi_l [4, 5, 6, 7] rfl rfl) (gi_cons (j := 8) rfl rfl (goodIn_app (goodIn_app (goodIn_app (goodIn_app (goodIn_app (gi_l [9, 1, 10, 2, 11, 12, 13, 14, 15, 16, 17, 18, 19, 20, 7, 21, 22, 23, 24, 25, 26, 27, 28, 29, 30, 31, 32, 33, 34, 35, 36, 37, 38, 39, 40, 41, 42, 43, 44, 45, 46, 47, 48, 49, 50, 51, 52, 53, 54, 55, 56, 57, 58, 59, 60, 61, 3, 62, 63, 64, 65, 66, 67, 68, 69, 70, 71, 72, 73, 74, 75, 76, 77, 78, 79, 80, 81, 82, 83, 84, 85, 86, 87, 88, 89, 90, 91, 92, 93, 94] rfl rfl) (goodIn_sub iw_c_X10_passHour_X10 gw_X10)) (goodIn_sub iw_c_X10_passHour_X0 gw_X0)) (goodIn_sub iw_c_X10_passHour_X7 gw_X7)) (goodIn_sub iw_c_X10_passHour_X5 gw_X5)) (goodIn_sub iw_c_X10_passHour_X4 gw_X4)))
set_option maxRecDepth 20000 in
theorem gf_c_X10_passHour_c_X0_countHours : GoodIn wf_c_X10_passHour (wsV RX10 127 RX0 yX0_countHours wf_c_X0_countHours) := goodIn_app (gi_l [95, 96, 97, 15] rfl rfl) (gi_cons (j := 98) rfl rfl (goodIn_app (gi_l [17] rfl rfl) (goodIn_sub iw_c_X10_passHour_X0 gw_X0)))
set_option maxRecDepth 20000 in
theorem gf_c_X10_passHour_c_X10_holdCount : GoodIn wf_c_X10_passHour (wsV RX10 130 RX10 yX10_holdCount wf_c_X10_holdCount) := goodIn_app (gi_l [99, 100, 101, 7] rfl rfl) (gi_cons (j := 102) rfl rfl (goodIn_app (goodIn_app (goodIn_app (gi_l [103, 104, 105, 7, 106, 1, 2, 9, 107, 10, 11, 28, 29, 108, 109, 46, 110] rfl rfl) (goodIn_sub iw_c_X10_passHour_X10 gw_X10)) (goodIn_sub iw_c_X10_passHour_X0 gw_X0)) (goodIn_sub iw_c_X10_passHour_X7 gw_X7)))
set_option maxRecDepth 20000 in
theorem gf_c_X10_passHour_c_X0_speed : GoodIn wf_c_X10_passHour (wsV RX10 120 RX0 yX0_speed wf_c_X0_speed) := goodIn_app (gi_l [111, 112, 113, 15] rfl rfl) (gi_cons (j := 114) rfl rfl (goodIn_app (gi_l [17] rfl rfl) (goodIn_sub iw_c_X10_passHour_X0 gw_X0)))
set_option maxRecDepth 20000 in
theorem gf_c_X10_passHour_c_X7_rowOn : GoodIn wf_c_X10_passHour (wsV RX10 123 RX7 yX7_rowOn wf_c_X7_rowOn) := goodIn_app (gi_l [115, 116, 117, 41] rfl rfl) (gi_cons (j := 118) rfl rfl (goodIn_app (gi_l [119, 43, 44, 45, 46, 47, 120, 109, 110, 121, 48] rfl rfl) (goodIn_sub iw_c_X10_passHour_X7 gw_X7)))
set_option maxHeartbeats 4000000 in
set_option maxRecDepth 100000 in
theorem c_X10_passHour (l : Launch) (dC : Nat → ClassId) (dI : Nat → Nat → Nat) (sz : Nat) (h0 : Nat) (h1 : Nat) (h0_0 : Nat) (h0_1 : Nat) (h0_2 : Nat) (h0_3 : Nat) (h0_4 : Nat) (h0_5 : Nat) (h0_0_0 : Nat) (h0_0_f1 : Int32) (h0_0_f2 : Int32) (h0_0_f3 : Int32) (h1_f0 : Int32) (h1_f1 : Int32) (h1_f2 : Int32) (h1_f3 : Int32) (h1_4 : Nat) (h1_5 : Nat) (h1_6 : Nat) (h1_7 : Nat) (h1_8 : Nat) (h1_9 : Nat) (h1_10 : Nat) (h1_11 : Nat) (h1_12 : Nat) (h0_4k : ClassId) (h0_4c : Nat → Int32) (h0_0_0k : ClassId) (h0_0_0c : Nat → Int32) (h0_2k : ClassId) (h0_2c : Nat → Int32) (h0_3k : ClassId) (h0_3c : Nat → Int32) (h1_10k : ClassId) (h1_10c : Nat → Int32) (h1_11k : ClassId) (h1_11c : Nat → Int32) (h1_12k : ClassId) (h1_12c : Nat → Int32) (h1_4k : ClassId) (h1_4c : Nat → Int32) (h1_5k : ClassId) (h1_5c : Nat → Int32) (h0_1_0 : Nat) (h0_1_f1 : Int32) (h0_1_f2 : Int32) (h0_1_3 : Nat) (h0_1_3k : ClassId) (h0_1_3c : Nat → Int32) (h0_1_0k : ClassId) (h0_1_0c : Nat → Option Nat) (h0_1_0_e0 : Nat) (h0_1_0_e1 : Nat) (h0_1_0_e2 : Nat) (h0_1_0_e3 : Nat) (h0_1_0_e4 : Nat) (h0_1_0_e0_0 : Nat) (h0_1_0_e0_f1 : Int32) (h0_1_0_e0_2 : Nat) (h0_1_0_e0_0k : ClassId) (h0_1_0_e0_0c : Nat → Int32) (h0_1_0_e0_2k : ClassId) (h0_1_0_e0_2c : Nat → Int32) (h0_1_0_e1_0 : Nat) (h0_1_0_e1_f1 : Int32) (h0_1_0_e1_2 : Nat) (h0_1_0_e1_0k : ClassId) (h0_1_0_e1_0c : Nat → Int32) (h0_1_0_e1_2k : ClassId) (h0_1_0_e1_2c : Nat → Int32) (h0_1_0_e2_0 : Nat) (h0_1_0_e2_f1 : Int32) (h0_1_0_e2_2 : Nat) (h0_1_0_e2_0k : ClassId) (h0_1_0_e2_0c : Nat → Int32) (h0_1_0_e2_2k : ClassId) (h0_1_0_e2_2c : Nat → Int32) (h0_1_0_e3_0 : Nat) (h0_1_0_e3_f1 : Int32) (h0_1_0_e3_2 : Nat) (h0_1_0_e3_0k : ClassId) (h0_1_0_e3_0c : Nat → Int32) (h0_1_0_e3_2k : ClassId) (h0_1_0_e3_2c : Nat → Int32) (h1_8k : ClassId) (h1_8c : Nat → Int32) (h1_6k : ClassId) (h1_6c : Nat → Int32) (h1_7k : ClassId) (h1_7c : Nat → Int32) (g_h0_0_f1 : RG h0_0_f1 0 8) (g_h0_0_f2 : RG h0_0_f2 0 3) (g_h0_0_f3 : RG h0_0_f3 0 1) (a_h0_0_0c : AI h0_0_0c (-1) 99) (a_h0_3c : AI h0_3c (-1) 2) (g_h0_1_f1 : RG h0_1_f1 0 4) (e_h0_1_0_e0 : h0_1_0c 0 = some h0_1_0_e0) (e_h0_1_0_e1 : h0_1_0c 1 = some h0_1_0_e1) (e_h0_1_0_e2 : h0_1_0c 2 = some h0_1_0_e2) (e_h0_1_0_e3 : h0_1_0c 3 = some h0_1_0_e3) (e_h0_1_0_e4 : h0_1_0c 4 = some h0_1_0_e4) (g_h0_1_0_e0_f1 : RG h0_1_0_e0_f1 0 240) (g_h0_1_0_e1_f1 : RG h0_1_0_e1_f1 0 240) (g_h0_1_0_e2_f1 : RG h0_1_0_e2_f1 0 240) (g_h0_1_0_e3_f1 : RG h0_1_0_e3_f1 0 240) : Met l yX10_passHour wf_c_X10_passHour ({ frames := 5, cells := 0, slots := 0, locals := 127 }) (va_Pc [.ref h0, .ref h1] (fun U => U.heap.size = sz ∧ va_P (dC, dI) vwCl (wd_c_X10_passHour h0 h0_0 h0_1 h0_2 h0_3 h0_4 h0_5 h0_0 h0_0_0 h0_0_f1 h0_0_f2 h0_0_f3 h1 h1_f0 h1_f1 h1_f2 h1_f3 h1_4 h1_5 h1_6 h1_7 h1_8 h1_9 h1_10 h1_11 h1_12 h0_4 h0_4k h0_4c h0_0_0 h0_0_0k h0_0_0c h0_2 h0_2k h0_2c h0_3 h0_3k h0_3c h1_10 h1_10k h1_10c h1_11 h1_11k h1_11c h1_12 h1_12k h1_12c h1_4 h1_4k h1_4c h1_5 h1_5k h1_5c h0_1 h0_1_0 h0_1_f1 h0_1_f2 h0_1_3 h0_1_3 h0_1_3k h0_1_3c h0_1_0 h0_1_0k h0_1_0c h0_1_0_e0 h0_1_0_e0_0 h0_1_0_e0_f1 h0_1_0_e0_2 h0_1_0_e0_0 h0_1_0_e0_0k h0_1_0_e0_0c h0_1_0_e0_2 h0_1_0_e0_2k h0_1_0_e0_2c h0_1_0_e1 h0_1_0_e1_0 h0_1_0_e1_f1 h0_1_0_e1_2 h0_1_0_e1_0 h0_1_0_e1_0k h0_1_0_e1_0c h0_1_0_e1_2 h0_1_0_e1_2k h0_1_0_e1_2c h0_1_0_e2 h0_1_0_e2_0 h0_1_0_e2_f1 h0_1_0_e2_2 h0_1_0_e2_0 h0_1_0_e2_0k h0_1_0_e2_0c h0_1_0_e2_2 h0_1_0_e2_2k h0_1_0_e2_2c h0_1_0_e3 h0_1_0_e3_0 h0_1_0_e3_f1 h0_1_0_e3_2 h0_1_0_e3_0 h0_1_0_e3_0k h0_1_0_e3_0c h0_1_0_e3_2 h0_1_0_e3_2k h0_1_0_e3_2c h1_8 h1_8k h1_8c h1_6 h1_6k h1_6c h1_7 h1_7k h1_7c) U.heap ∧ va_K (dC, dI) vwCl [(h0_4k, .int), (h0_0_0k, .int), (h0_2k, .int), (h0_3k, .int), (h1_10k, .int), (h1_11k, .int), (h1_12k, .int), (h1_4k, .int), (h1_5k, .int), (h0_1_3k, .int), (h0_1_0k, .object RX4), (h0_1_0_e0_0k, .int), (h0_1_0_e0_2k, .int), (h0_1_0_e1_0k, .int), (h0_1_0_e1_2k, .int), (h0_1_0_e2_0k, .int), (h0_1_0_e2_2k, .int), (h0_1_0_e3_0k, .int), (h0_1_0_e3_2k, .int), (h1_8k, .int), (h1_6k, .int), (h1_7k, .int)] U ∧ va_D (fun _ => True) (wd_c_X10_passHour h0 h0_0 h0_1 h0_2 h0_3 h0_4 h0_5 h0_0 h0_0_0 h0_0_f1 h0_0_f2 h0_0_f3 h1 h1_f0 h1_f1 h1_f2 h1_f3 h1_4 h1_5 h1_6 h1_7 h1_8 h1_9 h1_10 h1_11 h1_12 h0_4 h0_4k h0_4c h0_0_0 h0_0_0k h0_0_0c h0_2 h0_2k h0_2c h0_3 h0_3k h0_3c h1_10 h1_10k h1_10c h1_11 h1_11k h1_11c h1_12 h1_12k h1_12c h1_4 h1_4k h1_4c h1_5 h1_5k h1_5c h0_1 h0_1_0 h0_1_f1 h0_1_f2 h0_1_3 h0_1_3 h0_1_3k h0_1_3c h0_1_0 h0_1_0k h0_1_0c h0_1_0_e0 h0_1_0_e0_0 h0_1_0_e0_f1 h0_1_0_e0_2 h0_1_0_e0_0 h0_1_0_e0_0k h0_1_0_e0_0c h0_1_0_e0_2 h0_1_0_e0_2k h0_1_0_e0_2c h0_1_0_e1 h0_1_0_e1_0 h0_1_0_e1_f1 h0_1_0_e1_2 h0_1_0_e1_0 h0_1_0_e1_0k h0_1_0_e1_0c h0_1_0_e1_2 h0_1_0_e1_2k h0_1_0_e1_2c h0_1_0_e2 h0_1_0_e2_0 h0_1_0_e2_f1 h0_1_0_e2_2 h0_1_0_e2_0 h0_1_0_e2_0k h0_1_0_e2_0c h0_1_0_e2_2 h0_1_0_e2_2k h0_1_0_e2_2c h0_1_0_e3 h0_1_0_e3_0 h0_1_0_e3_f1 h0_1_0_e3_2 h0_1_0_e3_0 h0_1_0_e3_0k h0_1_0_e3_0c h0_1_0_e3_2 h0_1_0_e3_2k h0_1_0_e3_2c h1_8 h1_8k h1_8c h1_6 h1_6k h1_6c h1_7 h1_7k h1_7c))) (va_Qv (fun (u : (Int32) × (Nat → Int32) × (Nat → Int32) × (Nat → Int32) × (Nat → Int32) × (Nat → Int32) × (Nat → Int32) × (Nat → Int32) × (Nat → Int32) × (Nat → Int32) × (Nat → Int32) × (Nat → Int32) × (Nat → Int32) × (Nat → Int32)) => (AI (u.2.2.2.1) (-1) 2 ∧ u.1 = h1_f2 + 1)) (fun (u : (Int32) × (Nat → Int32) × (Nat → Int32) × (Nat → Int32) × (Nat → Int32) × (Nat → Int32) × (Nat → Int32) × (Nat → Int32) × (Nat → Int32) × (Nat → Int32) × (Nat → Int32) × (Nat → Int32) × (Nat → Int32) × (Nat → Int32)) t => va_P (dC, dI) vwCl (wd_c_X10_passHour h0 h0_0 h0_1 h0_2 h0_3 h0_4 h0_5 h0_0 h0_0_0 h0_0_f1 h0_0_f2 h0_0_f3 h1 h1_f0 h1_f1 (u.1) h1_f3 h1_4 h1_5 h1_6 h1_7 h1_8 h1_9 h1_10 h1_11 h1_12 h0_4 h0_4k (u.2.1) h0_0_0 h0_0_0k h0_0_0c h0_2 h0_2k (u.2.2.1) h0_3 h0_3k (u.2.2.2.1) h1_10 h1_10k h1_10c h1_11 h1_11k (u.2.2.2.2.1) h1_12 h1_12k (u.2.2.2.2.2.1) h1_4 h1_4k (u.2.2.2.2.2.2.1) h1_5 h1_5k (u.2.2.2.2.2.2.2.1) h0_1 h0_1_0 h0_1_f1 h0_1_f2 h0_1_3 h0_1_3 h0_1_3k (u.2.2.2.2.2.2.2.2.1) h0_1_0 h0_1_0k h0_1_0c h0_1_0_e0 h0_1_0_e0_0 h0_1_0_e0_f1 h0_1_0_e0_2 h0_1_0_e0_0 h0_1_0_e0_0k h0_1_0_e0_0c h0_1_0_e0_2 h0_1_0_e0_2k (u.2.2.2.2.2.2.2.2.2.1) h0_1_0_e1 h0_1_0_e1_0 h0_1_0_e1_f1 h0_1_0_e1_2 h0_1_0_e1_0 h0_1_0_e1_0k h0_1_0_e1_0c h0_1_0_e1_2 h0_1_0_e1_2k (u.2.2.2.2.2.2.2.2.2.2.1) h0_1_0_e2 h0_1_0_e2_0 h0_1_0_e2_f1 h0_1_0_e2_2 h0_1_0_e2_0 h0_1_0_e2_0k h0_1_0_e2_0c h0_1_0_e2_2 h0_1_0_e2_2k (u.2.2.2.2.2.2.2.2.2.2.2.1) h0_1_0_e3 h0_1_0_e3_0 h0_1_0_e3_f1 h0_1_0_e3_2 h0_1_0_e3_0 h0_1_0_e3_0k h0_1_0_e3_0c h0_1_0_e3_2 h0_1_0_e3_2k (u.2.2.2.2.2.2.2.2.2.2.2.2.1) h1_8 h1_8k (u.2.2.2.2.2.2.2.2.2.2.2.2.2) h1_6 h1_6k h1_6c h1_7 h1_7k h1_7c) t.heap ∧ va_K (dC, dI) vwCl [] t ∧ va_D (va_A (wd_c_X10_passHour h0 h0_0 h0_1 h0_2 h0_3 h0_4 h0_5 h0_0 h0_0_0 h0_0_f1 h0_0_f2 h0_0_f3 h1 h1_f0 h1_f1 h1_f2 h1_f3 h1_4 h1_5 h1_6 h1_7 h1_8 h1_9 h1_10 h1_11 h1_12 h0_4 h0_4k h0_4c h0_0_0 h0_0_0k h0_0_0c h0_2 h0_2k h0_2c h0_3 h0_3k h0_3c h1_10 h1_10k h1_10c h1_11 h1_11k h1_11c h1_12 h1_12k h1_12c h1_4 h1_4k h1_4c h1_5 h1_5k h1_5c h0_1 h0_1_0 h0_1_f1 h0_1_f2 h0_1_3 h0_1_3 h0_1_3k h0_1_3c h0_1_0 h0_1_0k h0_1_0c h0_1_0_e0 h0_1_0_e0_0 h0_1_0_e0_f1 h0_1_0_e0_2 h0_1_0_e0_0 h0_1_0_e0_0k h0_1_0_e0_0c h0_1_0_e0_2 h0_1_0_e0_2k h0_1_0_e0_2c h0_1_0_e1 h0_1_0_e1_0 h0_1_0_e1_f1 h0_1_0_e1_2 h0_1_0_e1_0 h0_1_0_e1_0k h0_1_0_e1_0c h0_1_0_e1_2 h0_1_0_e1_2k h0_1_0_e1_2c h0_1_0_e2 h0_1_0_e2_0 h0_1_0_e2_f1 h0_1_0_e2_2 h0_1_0_e2_0 h0_1_0_e2_0k h0_1_0_e2_0c h0_1_0_e2_2 h0_1_0_e2_2k h0_1_0_e2_2c h0_1_0_e3 h0_1_0_e3_0 h0_1_0_e3_f1 h0_1_0_e3_2 h0_1_0_e3_0 h0_1_0_e3_0k h0_1_0_e3_0c h0_1_0_e3_2 h0_1_0_e3_2k h0_1_0_e3_2c h1_8 h1_8k h1_8c h1_6 h1_6k h1_6c h1_7 h1_7k h1_7c) sz) (wd_c_X10_passHour h0 h0_0 h0_1 h0_2 h0_3 h0_4 h0_5 h0_0 h0_0_0 h0_0_f1 h0_0_f2 h0_0_f3 h1 h1_f0 h1_f1 (u.1) h1_f3 h1_4 h1_5 h1_6 h1_7 h1_8 h1_9 h1_10 h1_11 h1_12 h0_4 h0_4k (u.2.1) h0_0_0 h0_0_0k h0_0_0c h0_2 h0_2k (u.2.2.1) h0_3 h0_3k (u.2.2.2.1) h1_10 h1_10k h1_10c h1_11 h1_11k (u.2.2.2.2.1) h1_12 h1_12k (u.2.2.2.2.2.1) h1_4 h1_4k (u.2.2.2.2.2.2.1) h1_5 h1_5k (u.2.2.2.2.2.2.2.1) h0_1 h0_1_0 h0_1_f1 h0_1_f2 h0_1_3 h0_1_3 h0_1_3k (u.2.2.2.2.2.2.2.2.1) h0_1_0 h0_1_0k h0_1_0c h0_1_0_e0 h0_1_0_e0_0 h0_1_0_e0_f1 h0_1_0_e0_2 h0_1_0_e0_0 h0_1_0_e0_0k h0_1_0_e0_0c h0_1_0_e0_2 h0_1_0_e0_2k (u.2.2.2.2.2.2.2.2.2.1) h0_1_0_e1 h0_1_0_e1_0 h0_1_0_e1_f1 h0_1_0_e1_2 h0_1_0_e1_0 h0_1_0_e1_0k h0_1_0_e1_0c h0_1_0_e1_2 h0_1_0_e1_2k (u.2.2.2.2.2.2.2.2.2.2.1) h0_1_0_e2 h0_1_0_e2_0 h0_1_0_e2_f1 h0_1_0_e2_2 h0_1_0_e2_0 h0_1_0_e2_0k h0_1_0_e2_0c h0_1_0_e2_2 h0_1_0_e2_2k (u.2.2.2.2.2.2.2.2.2.2.2.1) h0_1_0_e3 h0_1_0_e3_0 h0_1_0_e3_f1 h0_1_0_e3_2 h0_1_0_e3_0 h0_1_0_e3_0k h0_1_0_e3_0c h0_1_0_e3_2 h0_1_0_e3_2k (u.2.2.2.2.2.2.2.2.2.2.2.2.1) h1_8 h1_8k (u.2.2.2.2.2.2.2.2.2.2.2.2.2) h1_6 h1_6k h1_6c h1_7 h1_7k h1_7c)) (va_A (wd_c_X10_passHour h0 h0_0 h0_1 h0_2 h0_3 h0_4 h0_5 h0_0 h0_0_0 h0_0_f1 h0_0_f2 h0_0_f3 h1 h1_f0 h1_f1 h1_f2 h1_f3 h1_4 h1_5 h1_6 h1_7 h1_8 h1_9 h1_10 h1_11 h1_12 h0_4 h0_4k h0_4c h0_0_0 h0_0_0k h0_0_0c h0_2 h0_2k h0_2c h0_3 h0_3k h0_3c h1_10 h1_10k h1_10c h1_11 h1_11k h1_11c h1_12 h1_12k h1_12c h1_4 h1_4k h1_4c h1_5 h1_5k h1_5c h0_1 h0_1_0 h0_1_f1 h0_1_f2 h0_1_3 h0_1_3 h0_1_3k h0_1_3c h0_1_0 h0_1_0k h0_1_0c h0_1_0_e0 h0_1_0_e0_0 h0_1_0_e0_f1 h0_1_0_e0_2 h0_1_0_e0_0 h0_1_0_e0_0k h0_1_0_e0_0c h0_1_0_e0_2 h0_1_0_e0_2k h0_1_0_e0_2c h0_1_0_e1 h0_1_0_e1_0 h0_1_0_e1_f1 h0_1_0_e1_2 h0_1_0_e1_0 h0_1_0_e1_0k h0_1_0_e1_0c h0_1_0_e1_2 h0_1_0_e1_2k h0_1_0_e1_2c h0_1_0_e2 h0_1_0_e2_0 h0_1_0_e2_f1 h0_1_0_e2_2 h0_1_0_e2_0 h0_1_0_e2_0k h0_1_0_e2_0c h0_1_0_e2_2 h0_1_0_e2_2k h0_1_0_e2_2c h0_1_0_e3 h0_1_0_e3_0 h0_1_0_e3_f1 h0_1_0_e3_2 h0_1_0_e3_0 h0_1_0_e3_0k h0_1_0_e3_0c h0_1_0_e3_2 h0_1_0_e3_2k h0_1_0_e3_2c h1_8 h1_8k h1_8c h1_6 h1_6k h1_6c h1_7 h1_7k h1_7c) sz)) 0 0 (va_A (wd_c_X10_passHour h0 h0_0 h0_1 h0_2 h0_3 h0_4 h0_5 h0_0 h0_0_0 h0_0_f1 h0_0_f2 h0_0_f3 h1 h1_f0 h1_f1 h1_f2 h1_f3 h1_4 h1_5 h1_6 h1_7 h1_8 h1_9 h1_10 h1_11 h1_12 h0_4 h0_4k h0_4c h0_0_0 h0_0_0k h0_0_0c h0_2 h0_2k h0_2c h0_3 h0_3k h0_3c h1_10 h1_10k h1_10c h1_11 h1_11k h1_11c h1_12 h1_12k h1_12c h1_4 h1_4k h1_4c h1_5 h1_5k h1_5c h0_1 h0_1_0 h0_1_f1 h0_1_f2 h0_1_3 h0_1_3 h0_1_3k h0_1_3c h0_1_0 h0_1_0k h0_1_0c h0_1_0_e0 h0_1_0_e0_0 h0_1_0_e0_f1 h0_1_0_e0_2 h0_1_0_e0_0 h0_1_0_e0_0k h0_1_0_e0_0c h0_1_0_e0_2 h0_1_0_e0_2k h0_1_0_e0_2c h0_1_0_e1 h0_1_0_e1_0 h0_1_0_e1_f1 h0_1_0_e1_2 h0_1_0_e1_0 h0_1_0_e1_0k h0_1_0_e1_0c h0_1_0_e1_2 h0_1_0_e1_2k h0_1_0_e1_2c h0_1_0_e2 h0_1_0_e2_0 h0_1_0_e2_f1 h0_1_0_e2_2 h0_1_0_e2_0 h0_1_0_e2_0k h0_1_0_e2_0c h0_1_0_e2_2 h0_1_0_e2_2k h0_1_0_e2_2c h0_1_0_e3 h0_1_0_e3_0 h0_1_0_e3_f1 h0_1_0_e3_2 h0_1_0_e3_0 h0_1_0_e3_0k h0_1_0_e3_0c h0_1_0_e3_2 h0_1_0_e3_2k h0_1_0_e3_2c h1_8 h1_8k h1_8c h1_6 h1_6k h1_6c h1_7 h1_7k h1_7c) sz) := by
  refine Met.ofW (cc := cX10_passHour) (maxL := 3) (ret := none) (by decide +kernel) rfl ?_
  intro p e s m args below meth c s₁ B hml hv
  obtain ⟨rfl, hsz, hP, hK, hD0⟩ := hv
  have hx := B.exec
  have hb := B.bytes
  have hr := B.returns
  have hts := atoms_spec (ws := wf_c_X10_passHour) B.pre
  have hown : s.vm.findClass RX10 = some m.cls := findClass_of_methodNamed B.named
  have hlocks := B.notSynchronized
  subst hsz
  have hD := hD0.self (sz := s.heap.size)
  generalize hAe : va_A (wd_c_X10_passHour h0 h0_0 h0_1 h0_2 h0_3 h0_4 h0_5 h0_0 h0_0_0 h0_0_f1 h0_0_f2 h0_0_f3 h1 h1_f0 h1_f1 h1_f2 h1_f3 h1_4 h1_5 h1_6 h1_7 h1_8 h1_9 h1_10 h1_11 h1_12 h0_4 h0_4k h0_4c h0_0_0 h0_0_0k h0_0_0c h0_2 h0_2k h0_2c h0_3 h0_3k h0_3c h1_10 h1_10k h1_10c h1_11 h1_11k h1_11c h1_12 h1_12k h1_12c h1_4 h1_4k h1_4c h1_5 h1_5k h1_5c h0_1 h0_1_0 h0_1_f1 h0_1_f2 h0_1_3 h0_1_3 h0_1_3k h0_1_3c h0_1_0 h0_1_0k h0_1_0c h0_1_0_e0 h0_1_0_e0_0 h0_1_0_e0_f1 h0_1_0_e0_2 h0_1_0_e0_0 h0_1_0_e0_0k h0_1_0_e0_0c h0_1_0_e0_2 h0_1_0_e0_2k h0_1_0_e0_2c h0_1_0_e1 h0_1_0_e1_0 h0_1_0_e1_f1 h0_1_0_e1_2 h0_1_0_e1_0 h0_1_0_e1_0k h0_1_0_e1_0c h0_1_0_e1_2 h0_1_0_e1_2k h0_1_0_e1_2c h0_1_0_e2 h0_1_0_e2_0 h0_1_0_e2_f1 h0_1_0_e2_2 h0_1_0_e2_0 h0_1_0_e2_0k h0_1_0_e2_0c h0_1_0_e2_2 h0_1_0_e2_2k h0_1_0_e2_2c h0_1_0_e3 h0_1_0_e3_0 h0_1_0_e3_f1 h0_1_0_e3_2 h0_1_0_e3_0 h0_1_0_e3_0k h0_1_0_e3_0c h0_1_0_e3_2 h0_1_0_e3_2k h0_1_0_e3_2c h1_8 h1_8k h1_8c h1_6 h1_6k h1_6c h1_7 h1_7k h1_7c) s.heap.size = A at hD ⊢
  have hA : ∀ q : Nat, s.heap.size ≤ q → A q := fun q h => by rw [← hAe]; exact Or.inr h
  have hP : va_P (dC, dI) vwCl (wd_c_X10_passHour h0 h0_0 h0_1 h0_2 h0_3 h0_4 h0_5 h0_0 h0_0_0 h0_0_f1 h0_0_f2 h0_0_f3 h1 h1_f0 h1_f1 h1_f2 h1_f3 h1_4 h1_5 h1_6 h1_7 h1_8 h1_9 h1_10 h1_11 h1_12 h0_4 h0_4k h0_4c h0_0_0 h0_0_0k h0_0_0c h0_2 h0_2k h0_2c h0_3 h0_3k h0_3c h1_10 h1_10k h1_10c h1_11 h1_11k h1_11c h1_12 h1_12k h1_12c h1_4 h1_4k h1_4c h1_5 h1_5k h1_5c h0_1 h0_1_0 h0_1_f1 h0_1_f2 h0_1_3 h0_1_3 h0_1_3k h0_1_3c h0_1_0 h0_1_0k h0_1_0c h0_1_0_e0 h0_1_0_e0_0 h0_1_0_e0_f1 h0_1_0_e0_2 h0_1_0_e0_0 h0_1_0_e0_0k h0_1_0_e0_0c h0_1_0_e0_2 h0_1_0_e0_2k h0_1_0_e0_2c h0_1_0_e1 h0_1_0_e1_0 h0_1_0_e1_f1 h0_1_0_e1_2 h0_1_0_e1_0 h0_1_0_e1_0k h0_1_0_e1_0c h0_1_0_e1_2 h0_1_0_e1_2k h0_1_0_e1_2c h0_1_0_e2 h0_1_0_e2_0 h0_1_0_e2_f1 h0_1_0_e2_2 h0_1_0_e2_0 h0_1_0_e2_0k h0_1_0_e2_0c h0_1_0_e2_2 h0_1_0_e2_2k h0_1_0_e2_2c h0_1_0_e3 h0_1_0_e3_0 h0_1_0_e3_f1 h0_1_0_e3_2 h0_1_0_e3_0 h0_1_0_e3_0k h0_1_0_e3_0c h0_1_0_e3_2 h0_1_0_e3_2k h0_1_0_e3_2c h1_8 h1_8k h1_8c h1_6 h1_6k h1_6c h1_7 h1_7k h1_7c) s.heap := hP
  have hl := lv_entry ([.ref h0, .ref h1]) (n := 3) (Nat.le_of_ble_eq_true rfl)
  rw [lg_entry_eq]
  generalize (lg_sl ([.ref h0, .ref h1]) ++ List.replicate (3 - (lg_sl ([.ref h0, .ref h1])).length) Slot.unset).toArray = ls at hl ⊢
  have hl : lv_has ls 3 [(0, .ref h0), (1, .ref h1)] := hl
  obtain ⟨H, hHe⟩ : ∃ H : Heap, s.heap = H := ⟨_, rfl⟩
  have hS : va_S A s.heap H [] := by rw [hHe]; exact va_S.rf
  have hP : va_P (dC, dI) vwCl (wd_c_X10_passHour h0 h0_0 h0_1 h0_2 h0_3 h0_4 h0_5 h0_0 h0_0_0 h0_0_f1 h0_0_f2 h0_0_f3 h1 h1_f0 h1_f1 h1_f2 h1_f3 h1_4 h1_5 h1_6 h1_7 h1_8 h1_9 h1_10 h1_11 h1_12 h0_4 h0_4k h0_4c h0_0_0 h0_0_0k h0_0_0c h0_2 h0_2k h0_2c h0_3 h0_3k h0_3c h1_10 h1_10k h1_10c h1_11 h1_11k h1_11c h1_12 h1_12k h1_12c h1_4 h1_4k h1_4c h1_5 h1_5k h1_5c h0_1 h0_1_0 h0_1_f1 h0_1_f2 h0_1_3 h0_1_3 h0_1_3k h0_1_3c h0_1_0 h0_1_0k h0_1_0c h0_1_0_e0 h0_1_0_e0_0 h0_1_0_e0_f1 h0_1_0_e0_2 h0_1_0_e0_0 h0_1_0_e0_0k h0_1_0_e0_0c h0_1_0_e0_2 h0_1_0_e0_2k h0_1_0_e0_2c h0_1_0_e1 h0_1_0_e1_0 h0_1_0_e1_f1 h0_1_0_e1_2 h0_1_0_e1_0 h0_1_0_e1_0k h0_1_0_e1_0c h0_1_0_e1_2 h0_1_0_e1_2k h0_1_0_e1_2c h0_1_0_e2 h0_1_0_e2_0 h0_1_0_e2_f1 h0_1_0_e2_2 h0_1_0_e2_0 h0_1_0_e2_0k h0_1_0_e2_0c h0_1_0_e2_2 h0_1_0_e2_2k h0_1_0_e2_2c h0_1_0_e3 h0_1_0_e3_0 h0_1_0_e3_f1 h0_1_0_e3_2 h0_1_0_e3_0 h0_1_0_e3_0k h0_1_0_e3_0c h0_1_0_e3_2 h0_1_0_e3_2k h0_1_0_e3_2c h1_8 h1_8k h1_8c h1_6 h1_6k h1_6c h1_7 h1_7k h1_7c) H := by rw [← hHe]; exact hP
  rw [hHe]
  refine wj (fun G hG hU => ?_)
  as_aux_lemma =>
  have J2 : ∀ (n2 : Nat) (j2_l2 : Int32) (j2_h1_4c : Nat → Int32) (j2_h1_5c : Nat → Int32) (hM2 : MU j2_l2 < n2) (g_h0_0_f1 : RG h0_0_f1 0 8) (g_h0_0_f2 : RG h0_0_f2 0 3) (g_h0_0_f3 : RG h0_0_f3 0 1) (g_h0_1_0_e0_f1 : RG h0_1_0_e0_f1 0 240) (g_h0_1_0_e1_f1 : RG h0_1_0_e1_f1 0 240) (g_h0_1_0_e2_f1 : RG h0_1_0_e2_f1 0 240) (g_h0_1_0_e3_f1 : RG h0_1_0_e3_f1 0 240) (g_h0_1_f1 : RG h0_1_f1 0 4) (g_j2_l2 : RG j2_l2 0 3) (H : Heap) (locs : List Loc) (ls : Array Slot) (hP : va_P (dC, dI) vwCl (wd_c_X10_passHour h0 h0_0 h0_1 h0_2 h0_3 h0_4 h0_5 h0_0 h0_0_0 h0_0_f1 h0_0_f2 h0_0_f3 h1 h1_f0 h1_f1 h1_f2 h1_f3 h1_4 h1_5 h1_6 h1_7 h1_8 h1_9 h1_10 h1_11 h1_12 h0_4 h0_4k h0_4c h0_0_0 h0_0_0k h0_0_0c h0_2 h0_2k h0_2c h0_3 h0_3k h0_3c h1_10 h1_10k h1_10c h1_11 h1_11k h1_11c h1_12 h1_12k h1_12c h1_4 h1_4k j2_h1_4c h1_5 h1_5k j2_h1_5c h0_1 h0_1_0 h0_1_f1 h0_1_f2 h0_1_3 h0_1_3 h0_1_3k h0_1_3c h0_1_0 h0_1_0k h0_1_0c h0_1_0_e0 h0_1_0_e0_0 h0_1_0_e0_f1 h0_1_0_e0_2 h0_1_0_e0_0 h0_1_0_e0_0k h0_1_0_e0_0c h0_1_0_e0_2 h0_1_0_e0_2k h0_1_0_e0_2c h0_1_0_e1 h0_1_0_e1_0 h0_1_0_e1_f1 h0_1_0_e1_2 h0_1_0_e1_0 h0_1_0_e1_0k h0_1_0_e1_0c h0_1_0_e1_2 h0_1_0_e1_2k h0_1_0_e1_2c h0_1_0_e2 h0_1_0_e2_0 h0_1_0_e2_f1 h0_1_0_e2_2 h0_1_0_e2_0 h0_1_0_e2_0k h0_1_0_e2_0c h0_1_0_e2_2 h0_1_0_e2_2k h0_1_0_e2_2c h0_1_0_e3 h0_1_0_e3_0 h0_1_0_e3_f1 h0_1_0_e3_2 h0_1_0_e3_0 h0_1_0_e3_0k h0_1_0_e3_0c h0_1_0_e3_2 h0_1_0_e3_2k h0_1_0_e3_2c h1_8 h1_8k h1_8c h1_6 h1_6k h1_6c h1_7 h1_7k h1_7c) H) (hD : va_D A (wd_c_X10_passHour h0 h0_0 h0_1 h0_2 h0_3 h0_4 h0_5 h0_0 h0_0_0 h0_0_f1 h0_0_f2 h0_0_f3 h1 h1_f0 h1_f1 h1_f2 h1_f3 h1_4 h1_5 h1_6 h1_7 h1_8 h1_9 h1_10 h1_11 h1_12 h0_4 h0_4k h0_4c h0_0_0 h0_0_0k h0_0_0c h0_2 h0_2k h0_2c h0_3 h0_3k h0_3c h1_10 h1_10k h1_10c h1_11 h1_11k h1_11c h1_12 h1_12k h1_12c h1_4 h1_4k j2_h1_4c h1_5 h1_5k j2_h1_5c h0_1 h0_1_0 h0_1_f1 h0_1_f2 h0_1_3 h0_1_3 h0_1_3k h0_1_3c h0_1_0 h0_1_0k h0_1_0c h0_1_0_e0 h0_1_0_e0_0 h0_1_0_e0_f1 h0_1_0_e0_2 h0_1_0_e0_0 h0_1_0_e0_0k h0_1_0_e0_0c h0_1_0_e0_2 h0_1_0_e0_2k h0_1_0_e0_2c h0_1_0_e1 h0_1_0_e1_0 h0_1_0_e1_f1 h0_1_0_e1_2 h0_1_0_e1_0 h0_1_0_e1_0k h0_1_0_e1_0c h0_1_0_e1_2 h0_1_0_e1_2k h0_1_0_e1_2c h0_1_0_e2 h0_1_0_e2_0 h0_1_0_e2_f1 h0_1_0_e2_2 h0_1_0_e2_0 h0_1_0_e2_0k h0_1_0_e2_0c h0_1_0_e2_2 h0_1_0_e2_2k h0_1_0_e2_2c h0_1_0_e3 h0_1_0_e3_0 h0_1_0_e3_f1 h0_1_0_e3_2 h0_1_0_e3_0 h0_1_0_e3_0k h0_1_0_e3_0c h0_1_0_e3_2 h0_1_0_e3_2k h0_1_0_e3_2c h1_8 h1_8k h1_8c h1_6 h1_6k h1_6c h1_7 h1_7k h1_7c)) (hS : va_S A s.heap H locs) (hl : lv_has ls 3 [(2, .int j2_l2), (0, .ref h0), (1, .ref h1)]), G H locs (F0 m 2 ls []) := by
    as_aux_lemma =>
    intro n2
    induction n2 with
    | zero => intros; exact absurd (by assumption) (Nat.not_lt_zero _)
    | succ n2 ih2 =>
      intro j2_l2 j2_h1_4c j2_h1_5c hM2 g_h0_0_f1 g_h0_0_f2 g_h0_0_f3 g_h0_1_0_e0_f1 g_h0_1_0_e1_f1 g_h0_1_0_e2_f1 g_h0_1_0_e3_f1 g_h0_1_f1 g_j2_l2 H locs ls hP hD hS hl
      refine hG _ _ _ ?_
      refine lv_iload_n hx hb dX10_passHour_2 rfl (lv_at hl 0 rfl) ?_
      refine lv_aload_n hx hb dX10_passHour_3 rfl (lv_at hl 1 rfl) ?_
      refine va_get (D := (dC, dI)) (ci := 10) (v := .ref h0_0) (C := RX10) (T := TX10) (N := 6) hx hb hts iw_c_X10_passHour_X10 hown hK hP 0 rfl rfl 0 (by decide +kernel) (hts (.fieldLink RX10 9 "BuoyVote$Waters" "told" "LBuoyVote$Borough;") (List.mem_of_getElem? (i := 1) rfl)) (fun _ h9 => h9) rfl dX10_passHour_4 ?_
      refine va_get (D := (dC, dI)) (ci := 0) (v := .int h0_0_f2) (C := RX0) (T := TX0) (N := 4) hx hb hts iw_c_X10_passHour_X0 hown hK hP 1 rfl rfl 2 (by decide +kernel) (hts (.fieldLink RX10 93 "BuoyVote$Borough" "boats" "I") (List.mem_of_getElem? (i := 2) rfl)) (fun _ h9 => h9) rfl dX10_passHour_7 ?_
      refine lv_icmp_ge (tgt := 32) hx hb dX10_passHour_10 rfl (fun c_1 => ?_) (fun c_1 => ?_)
      · refine lv_aload_n hx hb dX10_passHour_32 rfl (lv_at hl 2 rfl) ?_
        refine lv_dup hx hb dX10_passHour_33 rfl ?_
        refine va_get (D := (dC, dI)) (ci := 7) (v := .int h1_f2) (C := RX7) (T := TX7) (N := 13) hx hb hts iw_c_X10_passHour_X7 hown hK hP 2 rfl rfl 2 (by decide +kernel) (hts (.fieldLink RX10 60 "BuoyVote$Sea" "hour" "I") (List.mem_of_getElem? (i := 3) rfl)) (fun _ h9 => h9) rfl dX10_passHour_34 ?_
        as_aux_lemma =>
        refine lv_iconst (v := 1) hx hb dX10_passHour_37 kc_iconst_1 ?_
        refine lv_iadd hx hb dX10_passHour_38 ?_
        refine lv_topi (fun x_2 ex_2 => ?_)
        refine va_put (D := (dC, dI)) (ci := 7) (v := .int x_2) (ty := .int) (C := RX7) (T := TX7) (N := 13) hx hb hts iw_c_X10_passHour_X7 tyX7 tyX7_ok nmX7 hown hK hP hD hS 2 rfl rfl 2 (by decide +kernel) (hts (.fieldLink RX10 60 "BuoyVote$Sea" "hour" "I") (List.mem_of_getElem? (i := 3) rfl)) (fun _ h9 => h9) rfl (by decide +kernel) rfl rfl (Nat.le_of_ble_eq_true rfl) dX10_passHour_39 (fun H locs hP hD hS => ?_)
        have hP : va_P (dC, dI) vwCl (wd_c_X10_passHour h0 h0_0 h0_1 h0_2 h0_3 h0_4 h0_5 h0_0 h0_0_0 h0_0_f1 h0_0_f2 h0_0_f3 h1 h1_f0 h1_f1 x_2 h1_f3 h1_4 h1_5 h1_6 h1_7 h1_8 h1_9 h1_10 h1_11 h1_12 h0_4 h0_4k h0_4c h0_0_0 h0_0_0k h0_0_0c h0_2 h0_2k h0_2c h0_3 h0_3k h0_3c h1_10 h1_10k h1_10c h1_11 h1_11k h1_11c h1_12 h1_12k h1_12c h1_4 h1_4k j2_h1_4c h1_5 h1_5k j2_h1_5c h0_1 h0_1_0 h0_1_f1 h0_1_f2 h0_1_3 h0_1_3 h0_1_3k h0_1_3c h0_1_0 h0_1_0k h0_1_0c h0_1_0_e0 h0_1_0_e0_0 h0_1_0_e0_f1 h0_1_0_e0_2 h0_1_0_e0_0 h0_1_0_e0_0k h0_1_0_e0_0c h0_1_0_e0_2 h0_1_0_e0_2k h0_1_0_e0_2c h0_1_0_e1 h0_1_0_e1_0 h0_1_0_e1_f1 h0_1_0_e1_2 h0_1_0_e1_0 h0_1_0_e1_0k h0_1_0_e1_0c h0_1_0_e1_2 h0_1_0_e1_2k h0_1_0_e1_2c h0_1_0_e2 h0_1_0_e2_0 h0_1_0_e2_f1 h0_1_0_e2_2 h0_1_0_e2_0 h0_1_0_e2_0k h0_1_0_e2_0c h0_1_0_e2_2 h0_1_0_e2_2k h0_1_0_e2_2c h0_1_0_e3 h0_1_0_e3_0 h0_1_0_e3_f1 h0_1_0_e3_2 h0_1_0_e3_0 h0_1_0_e3_0k h0_1_0_e3_0c h0_1_0_e3_2 h0_1_0_e3_2k h0_1_0_e3_2c h1_8 h1_8k h1_8c h1_6 h1_6k h1_6c h1_7 h1_7k h1_7c) H := hP
        have hD : va_D A (wd_c_X10_passHour h0 h0_0 h0_1 h0_2 h0_3 h0_4 h0_5 h0_0 h0_0_0 h0_0_f1 h0_0_f2 h0_0_f3 h1 h1_f0 h1_f1 x_2 h1_f3 h1_4 h1_5 h1_6 h1_7 h1_8 h1_9 h1_10 h1_11 h1_12 h0_4 h0_4k h0_4c h0_0_0 h0_0_0k h0_0_0c h0_2 h0_2k h0_2c h0_3 h0_3k h0_3c h1_10 h1_10k h1_10c h1_11 h1_11k h1_11c h1_12 h1_12k h1_12c h1_4 h1_4k j2_h1_4c h1_5 h1_5k j2_h1_5c h0_1 h0_1_0 h0_1_f1 h0_1_f2 h0_1_3 h0_1_3 h0_1_3k h0_1_3c h0_1_0 h0_1_0k h0_1_0c h0_1_0_e0 h0_1_0_e0_0 h0_1_0_e0_f1 h0_1_0_e0_2 h0_1_0_e0_0 h0_1_0_e0_0k h0_1_0_e0_0c h0_1_0_e0_2 h0_1_0_e0_2k h0_1_0_e0_2c h0_1_0_e1 h0_1_0_e1_0 h0_1_0_e1_f1 h0_1_0_e1_2 h0_1_0_e1_0 h0_1_0_e1_0k h0_1_0_e1_0c h0_1_0_e1_2 h0_1_0_e1_2k h0_1_0_e1_2c h0_1_0_e2 h0_1_0_e2_0 h0_1_0_e2_f1 h0_1_0_e2_2 h0_1_0_e2_0 h0_1_0_e2_0k h0_1_0_e2_0c h0_1_0_e2_2 h0_1_0_e2_2k h0_1_0_e2_2c h0_1_0_e3 h0_1_0_e3_0 h0_1_0_e3_f1 h0_1_0_e3_2 h0_1_0_e3_0 h0_1_0_e3_0k h0_1_0_e3_0c h0_1_0_e3_2 h0_1_0_e3_2k h0_1_0_e3_2c h1_8 h1_8k h1_8c h1_6 h1_6k h1_6c h1_7 h1_7k h1_7c) := hD
        refine lv_aload_n hx hb dX10_passHour_42 rfl (lv_at hl 1 rfl) ?_
        refine lv_aload_n hx hb dX10_passHour_43 rfl (lv_at hl 2 rfl) ?_
        obtain ⟨hPc, hDc, hFc, hqc⟩ := cl_cut (wc := (wd_c_X10_tallyUp h0 h0_0 h0_1 h0_2 h0_3 h0_4 h0_5 h0_4 h0_4k h0_4c h0_0 h0_0_0 h0_0_f1 h0_0_f2 h0_0_f3 h0_0_0 h0_0_0k h0_0_0c h0_2 h0_2k h0_2c h0_3 h0_3k h0_3c h1 h1_f0 h1_f1 x_2 h1_f3 h1_4 h1_5 h1_6 h1_7 h1_8 h1_9 h1_10 h1_11 h1_12 h1_10 h1_10k h1_10c h1_11 h1_11k h1_11c h1_12 h1_12k h1_12c h1_4 h1_4k j2_h1_4c h1_5 h1_5k j2_h1_5c h0_1 h0_1_0 h0_1_f1 h0_1_f2 h0_1_3 h0_1_3 h0_1_3k h0_1_3c h0_1_0 h0_1_0k h0_1_0c h0_1_0_e0 h0_1_0_e0_0 h0_1_0_e0_f1 h0_1_0_e0_2 h0_1_0_e0_0 h0_1_0_e0_0k h0_1_0_e0_0c h0_1_0_e0_2 h0_1_0_e0_2k h0_1_0_e0_2c h0_1_0_e1 h0_1_0_e1_0 h0_1_0_e1_f1 h0_1_0_e1_2 h0_1_0_e1_0 h0_1_0_e1_0k h0_1_0_e1_0c h0_1_0_e1_2 h0_1_0_e1_2k h0_1_0_e1_2c h0_1_0_e2 h0_1_0_e2_0 h0_1_0_e2_f1 h0_1_0_e2_2 h0_1_0_e2_0 h0_1_0_e2_0k h0_1_0_e2_0c h0_1_0_e2_2 h0_1_0_e2_2k h0_1_0_e2_2c h0_1_0_e3 h0_1_0_e3_0 h0_1_0_e3_f1 h0_1_0_e3_2 h0_1_0_e3_0 h0_1_0_e3_0k h0_1_0_e3_0c h0_1_0_e3_2 h0_1_0_e3_2k h0_1_0_e3_2c)) hP hD hS hA [0, 3, 1, 4, 5, 6, 2, 7, 8, 9, 10, 11, 12, 13, 14, 15, 16, 17, 18, 19, 20, 21, 22, 23, 24, 25, 26] (by decide +kernel) rfl
        have hKc := hK.sub (tys' := [(h0_4k, .int), (h0_0_0k, .int), (h0_2k, .int), (h0_3k, .int), (h1_10k, .int), (h1_11k, .int), (h1_12k, .int), (h1_4k, .int), (h1_5k, .int), (h0_1_3k, .int), (h0_1_0k, .object RX4), (h0_1_0_e0_0k, .int), (h0_1_0_e0_2k, .int), (h0_1_0_e1_0k, .int), (h0_1_0_e1_2k, .int), (h0_1_0_e2_0k, .int), (h0_1_0_e2_2k, .int), (h0_1_0_e3_0k, .int), (h0_1_0_e3_2k, .int)]) [0, 1, 2, 3, 4, 5, 6, 7, 8, 9, 10, 11, 12, 13, 14, 15, 16, 17, 18] rfl
        have hrv := va_recv hKc hPc (ci := 10) (q0 := 0) rfl rfl
        refine va_callv (va_runV (As := [.ref h1]) (rest := []) ⟨hx, hb, hml, hown, hts⟩ (c_X10_tallyUp l dC dI H.size h0 h1 h0_0 h0_1 h0_2 h0_3 h0_4 h0_5 h0_4k h0_4c h0_0_0 h0_0_f1 h0_0_f2 h0_0_f3 h0_0_0k h0_0_0c h0_2k h0_2c h0_3k h0_3c h1_f0 h1_f1 x_2 h1_f3 h1_4 h1_5 h1_6 h1_7 h1_8 h1_9 h1_10 h1_11 h1_12 h1_10k h1_10c h1_11k h1_11c h1_12k h1_12c h1_4k j2_h1_4c h1_5k j2_h1_5c h0_1_0 h0_1_f1 h0_1_f2 h0_1_3 h0_1_3k h0_1_3c h0_1_0k h0_1_0c h0_1_0_e0 h0_1_0_e1 h0_1_0_e2 h0_1_0_e3 h0_1_0_e4 h0_1_0_e0_0 h0_1_0_e0_f1 h0_1_0_e0_2 h0_1_0_e0_0k h0_1_0_e0_0c h0_1_0_e0_2k h0_1_0_e0_2c h0_1_0_e1_0 h0_1_0_e1_f1 h0_1_0_e1_2 h0_1_0_e1_0k h0_1_0_e1_0c h0_1_0_e1_2k h0_1_0_e1_2c h0_1_0_e2_0 h0_1_0_e2_f1 h0_1_0_e2_2 h0_1_0_e2_0k h0_1_0_e2_0c h0_1_0_e2_2k h0_1_0_e2_2c h0_1_0_e3_0 h0_1_0_e3_f1 h0_1_0_e3_2 h0_1_0_e3_0k h0_1_0_e3_0c h0_1_0_e3_2k h0_1_0_e3_2c g_h0_0_f1 g_h0_0_f2 g_h0_0_f3 a_h0_0_0c a_h0_3c g_h0_1_f1 e_h0_1_0_e0 e_h0_1_0_e1 e_h0_1_0_e2 e_h0_1_0_e3 e_h0_1_0_e4 g_h0_1_0_e0_f1 g_h0_1_0_e1_f1 g_h0_1_0_e2_f1 g_h0_1_0_e3_f1) (cwV 1 hts gf_c_X10_passHour_c_X10_tallyUp rfl rfl rfl mdV_X10_tallyUp ⟨Nat.le_of_ble_eq_true rfl, Nat.le_of_ble_eq_true rfl⟩) ⟨fun a U g mk q => by obtain ⟨q0, q1, qP, qK, qD⟩ := q; exact ⟨q0, q1, qP, va_K.moved (u := U) (U := U.calling g mk a) (Vm.Alike.refl U.vm) qK, qD⟩, hrv, fun U hU hW => ⟨rfl, by rw [hU], by rw [hU]; exact hPc, va_K.moved hW.alike hKc, hDc.weaken (fun _ _ _ _ => trivial)⟩⟩ rfl rfl hl.1 rfl (lv_room (Nat.le_of_ble_eq_true rfl)) dX10_passHour_44 ⟨Nat.le_of_ble_eq_true rfl, Nat.le_of_ble_eq_true rfl⟩) hS (fun q _ h => hFc q h) hFc (fun u t H1 locs ht hvm hw hB hz1 hk1 hS => ?_)
        obtain ⟨w_4, w_5, w_6, w_7, w_8, w_9, w_10, w_11⟩ := u
        obtain ⟨hP1, hK1, hD1⟩ := hB
        rw [ht] at hP1
        obtain ⟨hP, hD⟩ := cl_put (w1 := (wd_c_X10_tallyUp h0 h0_0 h0_1 h0_2 h0_3 h0_4 h0_5 h0_4 h0_4k w_4 h0_0 h0_0_0 h0_0_f1 h0_0_f2 h0_0_f3 h0_0_0 h0_0_0k h0_0_0c h0_2 h0_2k w_5 h0_3 h0_3k w_6 h1 h1_f0 h1_f1 x_2 h1_f3 h1_4 h1_5 h1_6 h1_7 h1_8 h1_9 h1_10 h1_11 h1_12 h1_10 h1_10k h1_10c h1_11 h1_11k h1_11c h1_12 h1_12k h1_12c h1_4 h1_4k j2_h1_4c h1_5 h1_5k j2_h1_5c h0_1 h0_1_0 h0_1_f1 h0_1_f2 h0_1_3 h0_1_3 h0_1_3k w_7 h0_1_0 h0_1_0k h0_1_0c h0_1_0_e0 h0_1_0_e0_0 h0_1_0_e0_f1 h0_1_0_e0_2 h0_1_0_e0_0 h0_1_0_e0_0k h0_1_0_e0_0c h0_1_0_e0_2 h0_1_0_e0_2k w_8 h0_1_0_e1 h0_1_0_e1_0 h0_1_0_e1_f1 h0_1_0_e1_2 h0_1_0_e1_0 h0_1_0_e1_0k h0_1_0_e1_0c h0_1_0_e1_2 h0_1_0_e1_2k w_9 h0_1_0_e2 h0_1_0_e2_0 h0_1_0_e2_f1 h0_1_0_e2_2 h0_1_0_e2_0 h0_1_0_e2_0k h0_1_0_e2_0c h0_1_0_e2_2 h0_1_0_e2_2k w_10 h0_1_0_e3 h0_1_0_e3_0 h0_1_0_e3_f1 h0_1_0_e3_2 h0_1_0_e3_0 h0_1_0_e3_0k h0_1_0_e3_0c h0_1_0_e3_2 h0_1_0_e3_2k w_11)) (nw := (wd_c_X10_passHour h0 h0_0 h0_1 h0_2 h0_3 h0_4 h0_5 h0_0 h0_0_0 h0_0_f1 h0_0_f2 h0_0_f3 h1 h1_f0 h1_f1 x_2 h1_f3 h1_4 h1_5 h1_6 h1_7 h1_8 h1_9 h1_10 h1_11 h1_12 h0_4 h0_4k w_4 h0_0_0 h0_0_0k h0_0_0c h0_2 h0_2k w_5 h0_3 h0_3k w_6 h1_10 h1_10k h1_10c h1_11 h1_11k h1_11c h1_12 h1_12k h1_12c h1_4 h1_4k j2_h1_4c h1_5 h1_5k j2_h1_5c h0_1 h0_1_0 h0_1_f1 h0_1_f2 h0_1_3 h0_1_3 h0_1_3k w_7 h0_1_0 h0_1_0k h0_1_0c h0_1_0_e0 h0_1_0_e0_0 h0_1_0_e0_f1 h0_1_0_e0_2 h0_1_0_e0_0 h0_1_0_e0_0k h0_1_0_e0_0c h0_1_0_e0_2 h0_1_0_e0_2k w_8 h0_1_0_e1 h0_1_0_e1_0 h0_1_0_e1_f1 h0_1_0_e1_2 h0_1_0_e1_0 h0_1_0_e1_0k h0_1_0_e1_0c h0_1_0_e1_2 h0_1_0_e1_2k w_9 h0_1_0_e2 h0_1_0_e2_0 h0_1_0_e2_f1 h0_1_0_e2_2 h0_1_0_e2_0 h0_1_0_e2_0k h0_1_0_e2_0c h0_1_0_e2_2 h0_1_0_e2_2k w_10 h0_1_0_e3 h0_1_0_e3_0 h0_1_0_e3_f1 h0_1_0_e3_2 h0_1_0_e3_0 h0_1_0_e3_0k h0_1_0_e3_0c h0_1_0_e3_2 h0_1_0_e3_2k w_11 h1_8 h1_8k h1_8c h1_6 h1_6k h1_6c h1_7 h1_7k h1_7c)) hP hD [0, 3, 1, 4, 5, 6, 2, 7, 8, 9, 10, 11, 12, 13, 14, 15, 16, 17, 18, 19, 20, 21, 22, 23, 24, 25, 26] [30, 32, 36, 31, 33, 34, 35, 37, 38, 39, 40, 41, 42, 43, 44, 45, 46, 47, 48, 49, 50, 51, 52, 53, 54, 55, 56, 27, 28, 29] 30 rfl hqc (by decide +kernel) rfl hk1 hFc hP1 hD1
        generalize H1 = H at hP hS ⊢
        as_aux_lemma =>
        have h_12 := hw
        refine lv_aload_n hx hb dX10_passHour_47 rfl (lv_at hl 1 rfl) ?_
        refine va_get (D := (dC, dI)) (ci := 10) (v := .ref h0_0) (C := RX10) (T := TX10) (N := 6) hx hb hts iw_c_X10_passHour_X10 hown hK hP 0 rfl rfl 0 (by decide +kernel) (hts (.fieldLink RX10 9 "BuoyVote$Waters" "told" "LBuoyVote$Borough;") (List.mem_of_getElem? (i := 1) rfl)) (fun _ h9 => h9) rfl dX10_passHour_48 ?_
        obtain ⟨hPc, hDc, hFc, hqc⟩ := cl_cut (wc := (wd_c_X0_countHours h0_0 h0_0_0 h0_0_f1 h0_0_f2 h0_0_f3 h0_0_0 h0_0_0k h0_0_0c)) hP hD hS hA [1, 4] (by decide +kernel) rfl
        have hKc := hK.sub (tys' := [(h0_0_0k, .int)]) [1] rfl
        have hrv := va_recv hKc hPc (ci := 0) (q0 := 0) rfl rfl
        refine va_calli (va_runV (As := []) (rest := []) ⟨hx, hb, hml, hown, hts⟩ (c_X0_countHours l dC dI H.size h0_0 h0_0_0 h0_0_f1 h0_0_f2 h0_0_f3 h0_0_0k h0_0_0c g_h0_0_f1 g_h0_0_f2 g_h0_0_f3 a_h0_0_0c) (cwV 0 hts gf_c_X10_passHour_c_X0_countHours rfl rfl rfl mdV_X0_countHours ⟨Nat.le_of_ble_eq_true rfl, Nat.le_of_ble_eq_true rfl⟩) ⟨fun a U g mk q => by obtain ⟨q0, q1, qP, qK, qD⟩ := q; exact ⟨q0, q1, qP, va_K.moved (u := U) (U := U.calling g mk a) (Vm.Alike.refl U.vm) qK, qD⟩, hrv, fun U hU hW => ⟨rfl, by rw [hU], by rw [hU]; exact hPc, va_K.moved hW.alike hKc, hDc.weaken (fun _ _ _ _ => trivial)⟩⟩ rfl rfl hl.1 rfl (lv_room (Nat.le_of_ble_eq_true rfl)) dX10_passHour_51 ⟨Nat.le_of_ble_eq_true rfl, Nat.le_of_ble_eq_true rfl⟩) hS (fun q _ h => hFc q h) hFc (fun r_13 u t H1 locs ht hvm hw hB hz1 hk1 hS => ?_)
        obtain ⟨hP1, hK1, hD1⟩ := hB
        rw [ht] at hP1
        obtain ⟨hP, hD⟩ := cl_put (w1 := (wd_c_X0_countHours h0_0 h0_0_0 h0_0_f1 h0_0_f2 h0_0_f3 h0_0_0 h0_0_0k h0_0_0c)) (nw := (wd_c_X10_passHour h0 h0_0 h0_1 h0_2 h0_3 h0_4 h0_5 h0_0 h0_0_0 h0_0_f1 h0_0_f2 h0_0_f3 h1 h1_f0 h1_f1 x_2 h1_f3 h1_4 h1_5 h1_6 h1_7 h1_8 h1_9 h1_10 h1_11 h1_12 h0_4 h0_4k w_4 h0_0_0 h0_0_0k h0_0_0c h0_2 h0_2k w_5 h0_3 h0_3k w_6 h1_10 h1_10k h1_10c h1_11 h1_11k h1_11c h1_12 h1_12k h1_12c h1_4 h1_4k j2_h1_4c h1_5 h1_5k j2_h1_5c h0_1 h0_1_0 h0_1_f1 h0_1_f2 h0_1_3 h0_1_3 h0_1_3k w_7 h0_1_0 h0_1_0k h0_1_0c h0_1_0_e0 h0_1_0_e0_0 h0_1_0_e0_f1 h0_1_0_e0_2 h0_1_0_e0_0 h0_1_0_e0_0k h0_1_0_e0_0c h0_1_0_e0_2 h0_1_0_e0_2k w_8 h0_1_0_e1 h0_1_0_e1_0 h0_1_0_e1_f1 h0_1_0_e1_2 h0_1_0_e1_0 h0_1_0_e1_0k h0_1_0_e1_0c h0_1_0_e1_2 h0_1_0_e1_2k w_9 h0_1_0_e2 h0_1_0_e2_0 h0_1_0_e2_f1 h0_1_0_e2_2 h0_1_0_e2_0 h0_1_0_e2_0k h0_1_0_e2_0c h0_1_0_e2_2 h0_1_0_e2_2k w_10 h0_1_0_e3 h0_1_0_e3_0 h0_1_0_e3_f1 h0_1_0_e3_2 h0_1_0_e3_0 h0_1_0_e3_0k h0_1_0_e3_0c h0_1_0_e3_2 h0_1_0_e3_2k w_11 h1_8 h1_8k h1_8c h1_6 h1_6k h1_6c h1_7 h1_7k h1_7c)) hP hD [1, 4] [0, 30, 2, 3, 31, 5, 6, 7, 8, 9, 10, 11, 12, 13, 14, 15, 16, 17, 18, 19, 20, 21, 22, 23, 24, 25, 26, 27, 28, 29] 30 rfl hqc (by decide +kernel) rfl hk1 hFc hP1 hD1
        generalize H1 = H at hP hS ⊢
        as_aux_lemma =>
        have h_14 := hw
        refine lv_istore_n (lv' := [(2, .int r_13), (0, .ref h0), (1, .ref h1)]) hx hb dX10_passHour_54 rfl hl (Nat.le_of_ble_eq_true rfl) rfl (fun ls hl => ?_)
        refine lv_iload_n hx hb dX10_passHour_55 rfl (lv_at hl 0 rfl) ?_
        refine lv_if_le (tgt := 73) hx hb dX10_passHour_56 rfl (fun c_15 => ?_) (fun c_15 => ?_)
        · have g_16 : RG r_13 (-1) 0 := RG_le1 h_14 (RG_k 0 0 rfl) c_15 (by decide +kernel)
          have hK9 := hK.sub (tys' := []) [] rfl
          exact W.vret hx hb hr (fun t ht hW => ⟨⟨(x_2, w_4, w_5, w_6, h1_11c, h1_12c, j2_h1_4c, j2_h1_5c, w_7, w_8, w_9, w_10, w_11, h1_8c), rfl, ⟨h_12, ex_2⟩, by rw [ht]; exact hP, va_K.moved hW.alike hK9, hD⟩, hS.F ht⟩) hS.2.2 dX10_passHour_73
        · have d_17 := Int32.not_le.mp c_15
          have g_18 : RG r_13 1 99 := RG_lt2 (RG_k 0 0 rfl) h_14 d_17 (by decide +kernel)
          refine lv_aload_n hx hb dX10_passHour_59 rfl (lv_at hl 2 rfl) ?_
          refine va_get (D := (dC, dI)) (ci := 7) (v := .int x_2) (C := RX7) (T := TX7) (N := 13) hx hb hts iw_c_X10_passHour_X7 hown hK hP 2 rfl rfl 2 (by decide +kernel) (hts (.fieldLink RX10 60 "BuoyVote$Sea" "hour" "I") (List.mem_of_getElem? (i := 3) rfl)) (fun _ h9 => h9) rfl dX10_passHour_60 ?_
          refine lv_iload_n hx hb dX10_passHour_63 rfl (lv_at hl 0 rfl) ?_
          refine lv_irem hx hb dX10_passHour_64 (RG_ne0 g_18 (by decide +kernel)) ?_
          refine lv_topi (fun x_19 ex_19 => ?_)
          as_aux_lemma =>
          refine lv_if_ne (tgt := 73) hx hb dX10_passHour_65 rfl (fun c_20 => ?_) (fun c_20 => ?_)
          · have hK9 := hK.sub (tys' := []) [] rfl
            exact W.vret hx hb hr (fun t ht hW => ⟨⟨(x_2, w_4, w_5, w_6, h1_11c, h1_12c, j2_h1_4c, j2_h1_5c, w_7, w_8, w_9, w_10, w_11, h1_8c), rfl, ⟨h_12, ex_2⟩, by rw [ht]; exact hP, va_K.moved hW.alike hK9, hD⟩, hS.F ht⟩) hS.2.2 dX10_passHour_73
          · have g_21 : RG x_19 0 0 := RG_eq1 (RG_any x_19) (RG_k 0 0 rfl) c_20 (by decide +kernel)
            refine lv_aload_n hx hb dX10_passHour_68 rfl (lv_at hl 1 rfl) ?_
            refine lv_aload_n hx hb dX10_passHour_69 rfl (lv_at hl 2 rfl) ?_
            obtain ⟨hPc, hDc, hFc, hqc⟩ := cl_cut (wc := (wd_c_X10_holdCount h0 h0_0 h0_1 h0_2 h0_3 h0_4 h0_5 h0_0 h0_0_0 h0_0_f1 h0_0_f2 h0_0_f3 h0_4 h0_4k w_4 h1 h1_f0 h1_f1 x_2 h1_f3 h1_4 h1_5 h1_6 h1_7 h1_8 h1_9 h1_10 h1_11 h1_12 h1_8 h1_8k h1_8c h0_3 h0_3k w_6 h1_11 h1_11k h1_11c h1_12 h1_12k h1_12c)) hP hD hS hA [0, 1, 3, 2, 27, 6, 8, 9] (by decide +kernel) rfl
            have hKc := hK.sub (tys' := [(h0_4k, .int), (h1_8k, .int), (h0_3k, .int), (h1_11k, .int), (h1_12k, .int)]) [0, 19, 3, 5, 6] rfl
            have hrv := va_recv hKc hPc (ci := 10) (q0 := 0) rfl rfl
            refine va_callv (va_runV (As := [.ref h1]) (rest := []) ⟨hx, hb, hml, hown, hts⟩ (c_X10_holdCount l dC dI H.size h0 h1 h0_0 h0_1 h0_2 h0_3 h0_4 h0_5 h0_0_0 h0_0_f1 h0_0_f2 h0_0_f3 h0_4k w_4 h1_f0 h1_f1 x_2 h1_f3 h1_4 h1_5 h1_6 h1_7 h1_8 h1_9 h1_10 h1_11 h1_12 h1_8k h1_8c h0_3k w_6 h1_11k h1_11c h1_12k h1_12c g_h0_0_f1 g_h0_0_f2 g_h0_0_f3 h_12) (cwV 1 hts gf_c_X10_passHour_c_X10_holdCount rfl rfl rfl mdV_X10_holdCount ⟨Nat.le_of_ble_eq_true rfl, Nat.le_of_ble_eq_true rfl⟩) ⟨fun a U g mk q => by obtain ⟨q0, q1, qP, qK, qD⟩ := q; exact ⟨q0, q1, qP, va_K.moved (u := U) (U := U.calling g mk a) (Vm.Alike.refl U.vm) qK, qD⟩, hrv, fun U hU hW => ⟨rfl, by rw [hU], by rw [hU]; exact hPc, va_K.moved hW.alike hKc, hDc.weaken (fun _ _ _ _ => trivial)⟩⟩ rfl rfl hl.1 rfl (lv_room (Nat.le_of_ble_eq_true rfl)) dX10_passHour_70 ⟨Nat.le_of_ble_eq_true rfl, Nat.le_of_ble_eq_true rfl⟩) hS (fun q _ h => hFc q h) hFc (fun u t H1 locs ht hvm hw hB hz1 hk1 hS => ?_)
            obtain ⟨w_23, w_24, w_25⟩ := u
            obtain ⟨hP1, hK1, hD1⟩ := hB
            rw [ht] at hP1
            obtain ⟨hP, hD⟩ := cl_put (w1 := (wd_c_X10_holdCount h0 h0_0 h0_1 h0_2 h0_3 h0_4 h0_5 h0_0 h0_0_0 h0_0_f1 h0_0_f2 h0_0_f3 h0_4 h0_4k w_4 h1 h1_f0 h1_f1 x_2 h1_f3 h1_4 h1_5 h1_6 h1_7 h1_8 h1_9 h1_10 h1_11 h1_12 h1_8 h1_8k w_23 h0_3 h0_3k w_6 h1_11 h1_11k w_24 h1_12 h1_12k w_25)) (nw := (wd_c_X10_passHour h0 h0_0 h0_1 h0_2 h0_3 h0_4 h0_5 h0_0 h0_0_0 h0_0_f1 h0_0_f2 h0_0_f3 h1 h1_f0 h1_f1 x_2 h1_f3 h1_4 h1_5 h1_6 h1_7 h1_8 h1_9 h1_10 h1_11 h1_12 h0_4 h0_4k w_4 h0_0_0 h0_0_0k h0_0_0c h0_2 h0_2k w_5 h0_3 h0_3k w_6 h1_10 h1_10k h1_10c h1_11 h1_11k w_24 h1_12 h1_12k w_25 h1_4 h1_4k j2_h1_4c h1_5 h1_5k j2_h1_5c h0_1 h0_1_0 h0_1_f1 h0_1_f2 h0_1_3 h0_1_3 h0_1_3k w_7 h0_1_0 h0_1_0k h0_1_0c h0_1_0_e0 h0_1_0_e0_0 h0_1_0_e0_f1 h0_1_0_e0_2 h0_1_0_e0_0 h0_1_0_e0_0k h0_1_0_e0_0c h0_1_0_e0_2 h0_1_0_e0_2k w_8 h0_1_0_e1 h0_1_0_e1_0 h0_1_0_e1_f1 h0_1_0_e1_2 h0_1_0_e1_0 h0_1_0_e1_0k h0_1_0_e1_0c h0_1_0_e1_2 h0_1_0_e1_2k w_9 h0_1_0_e2 h0_1_0_e2_0 h0_1_0_e2_f1 h0_1_0_e2_2 h0_1_0_e2_0 h0_1_0_e2_0k h0_1_0_e2_0c h0_1_0_e2_2 h0_1_0_e2_2k w_10 h0_1_0_e3 h0_1_0_e3_0 h0_1_0_e3_f1 h0_1_0_e3_2 h0_1_0_e3_0 h0_1_0_e3_0k h0_1_0_e3_0c h0_1_0_e3_2 h0_1_0_e3_2k w_11 h1_8 h1_8k w_23 h1_6 h1_6k h1_6c h1_7 h1_7k h1_7c)) hP hD [0, 1, 3, 2, 27, 6, 8, 9] [30, 31, 33, 32, 4, 5, 35, 7, 36, 37, 10, 11, 12, 13, 14, 15, 16, 17, 18, 19, 20, 21, 22, 23, 24, 25, 26, 34, 28, 29] 30 rfl hqc (by decide +kernel) rfl hk1 hFc hP1 hD1
            generalize H1 = H at hP hS ⊢
            as_aux_lemma =>
            have h_26 := hw
            have hK9 := hK.sub (tys' := []) [] rfl
            exact W.vret hx hb hr (fun t ht hW => ⟨⟨(x_2, w_4, w_5, w_6, w_24, w_25, j2_h1_4c, j2_h1_5c, w_7, w_8, w_9, w_10, w_11, w_23), rfl, ⟨h_12, ex_2⟩, by rw [ht]; exact hP, va_K.moved hW.alike hK9, hD⟩, hS.F ht⟩) hS.2.2 dX10_passHour_73
      · have d_27 := Int32.not_le.mp c_1
        have g_28 : RG j2_l2 0 2 := RG_lt1 g_j2_l2 g_h0_0_f2 d_27 (by decide +kernel)
        have g_29 : RG h0_0_f2 1 3 := RG_lt2 g_j2_l2 g_h0_0_f2 d_27 (by decide +kernel)
        refine lv_aload_n hx hb dX10_passHour_13 rfl (lv_at hl 2 rfl) ?_
        refine lv_iload_n hx hb dX10_passHour_14 rfl (lv_at hl 0 rfl) ?_
        refine lv_aload_n hx hb dX10_passHour_15 rfl (lv_at hl 1 rfl) ?_
        refine va_get (D := (dC, dI)) (ci := 10) (v := .ref h0_0) (C := RX10) (T := TX10) (N := 6) hx hb hts iw_c_X10_passHour_X10 hown hK hP 0 rfl rfl 0 (by decide +kernel) (hts (.fieldLink RX10 9 "BuoyVote$Waters" "told" "LBuoyVote$Borough;") (List.mem_of_getElem? (i := 1) rfl)) (fun _ h9 => h9) rfl dX10_passHour_16 ?_
        refine lv_iload_n hx hb dX10_passHour_19 rfl (lv_at hl 0 rfl) ?_
        obtain ⟨hPc, hDc, hFc, hqc⟩ := cl_cut (wc := (wd_c_X0_speed h0_0 h0_0_0 h0_0_f1 h0_0_f2 h0_0_f3 h0_0_0 h0_0_0k h0_0_0c)) hP hD hS hA [1, 4] (by decide +kernel) rfl
        have hKc := hK.sub (tys' := [(h0_0_0k, .int)]) [1] rfl
        have hrv := va_recv hKc hPc (ci := 0) (q0 := 0) rfl rfl
        refine va_calli (va_runV (As := [.int j2_l2]) (rest := [.int j2_l2, .ref h1]) ⟨hx, hb, hml, hown, hts⟩ (c_X0_speed l dC dI H.size h0_0 j2_l2 h0_0_0 h0_0_f1 h0_0_f2 h0_0_f3 h0_0_0k h0_0_0c g_28 g_h0_0_f1 (RG_w g_29 (by decide +kernel)) g_h0_0_f3 a_h0_0_0c) (cwV 1 hts gf_c_X10_passHour_c_X0_speed rfl rfl rfl mdV_X0_speed ⟨Nat.le_of_ble_eq_true rfl, Nat.le_of_ble_eq_true rfl⟩) ⟨fun a U g mk q => by obtain ⟨q0, q1, qP, qK, qD⟩ := q; exact ⟨q0, q1, qP, va_K.moved (u := U) (U := U.calling g mk a) (Vm.Alike.refl U.vm) qK, qD⟩, hrv, fun U hU hW => ⟨rfl, by rw [hU], by rw [hU]; exact hPc, va_K.moved hW.alike hKc, hDc.weaken (fun _ _ _ _ => trivial)⟩⟩ rfl rfl hl.1 rfl (lv_room (Nat.le_of_ble_eq_true rfl)) dX10_passHour_20 ⟨Nat.le_of_ble_eq_true rfl, Nat.le_of_ble_eq_true rfl⟩) hS (fun q _ h => hFc q h) hFc (fun r_30 u t H1 locs ht hvm hw hB hz1 hk1 hS => ?_)
        as_aux_lemma =>
        obtain ⟨hP1, hK1, hD1⟩ := hB
        rw [ht] at hP1
        obtain ⟨hP, hD⟩ := cl_put (w1 := (wd_c_X0_speed h0_0 h0_0_0 h0_0_f1 h0_0_f2 h0_0_f3 h0_0_0 h0_0_0k h0_0_0c)) (nw := (wd_c_X10_passHour h0 h0_0 h0_1 h0_2 h0_3 h0_4 h0_5 h0_0 h0_0_0 h0_0_f1 h0_0_f2 h0_0_f3 h1 h1_f0 h1_f1 h1_f2 h1_f3 h1_4 h1_5 h1_6 h1_7 h1_8 h1_9 h1_10 h1_11 h1_12 h0_4 h0_4k h0_4c h0_0_0 h0_0_0k h0_0_0c h0_2 h0_2k h0_2c h0_3 h0_3k h0_3c h1_10 h1_10k h1_10c h1_11 h1_11k h1_11c h1_12 h1_12k h1_12c h1_4 h1_4k j2_h1_4c h1_5 h1_5k j2_h1_5c h0_1 h0_1_0 h0_1_f1 h0_1_f2 h0_1_3 h0_1_3 h0_1_3k h0_1_3c h0_1_0 h0_1_0k h0_1_0c h0_1_0_e0 h0_1_0_e0_0 h0_1_0_e0_f1 h0_1_0_e0_2 h0_1_0_e0_0 h0_1_0_e0_0k h0_1_0_e0_0c h0_1_0_e0_2 h0_1_0_e0_2k h0_1_0_e0_2c h0_1_0_e1 h0_1_0_e1_0 h0_1_0_e1_f1 h0_1_0_e1_2 h0_1_0_e1_0 h0_1_0_e1_0k h0_1_0_e1_0c h0_1_0_e1_2 h0_1_0_e1_2k h0_1_0_e1_2c h0_1_0_e2 h0_1_0_e2_0 h0_1_0_e2_f1 h0_1_0_e2_2 h0_1_0_e2_0 h0_1_0_e2_0k h0_1_0_e2_0c h0_1_0_e2_2 h0_1_0_e2_2k h0_1_0_e2_2c h0_1_0_e3 h0_1_0_e3_0 h0_1_0_e3_f1 h0_1_0_e3_2 h0_1_0_e3_0 h0_1_0_e3_0k h0_1_0_e3_0c h0_1_0_e3_2 h0_1_0_e3_2k h0_1_0_e3_2c h1_8 h1_8k h1_8c h1_6 h1_6k h1_6c h1_7 h1_7k h1_7c)) hP hD [1, 4] [0, 30, 2, 3, 31, 5, 6, 7, 8, 9, 10, 11, 12, 13, 14, 15, 16, 17, 18, 19, 20, 21, 22, 23, 24, 25, 26, 27, 28, 29] 30 rfl hqc (by decide +kernel) rfl hk1 hFc hP1 hD1
        generalize H1 = H at hP hS ⊢
        as_aux_lemma =>
        have h_31 := hw
        obtain ⟨hPc, hDc, hFc, hqc⟩ := cl_cut (wc := (wd_c_X7_rowOn h1 h1_f0 h1_f1 h1_f2 h1_f3 h1_4 h1_5 h1_6 h1_7 h1_8 h1_9 h1_10 h1_11 h1_12 h1_6 h1_6k h1_6c h1_4 h1_4k j2_h1_4c h1_7 h1_7k h1_7c h1_5 h1_5k j2_h1_5c)) hP hD hS hA [2, 28, 10, 29, 11] (by decide +kernel) rfl
        have hKc := hK.sub (tys' := [(h1_6k, .int), (h1_4k, .int), (h1_7k, .int), (h1_5k, .int)]) [20, 7, 21, 8] rfl
        have hrv := va_recv hKc hPc (ci := 7) (q0 := 0) rfl rfl
        refine va_callv (va_runV (As := [.int j2_l2, .int r_30]) (rest := []) ⟨hx, hb, hml, hown, hts⟩ (c_X7_rowOn l dC dI H.size h1 j2_l2 r_30 h1_f0 h1_f1 h1_f2 h1_f3 h1_4 h1_5 h1_6 h1_7 h1_8 h1_9 h1_10 h1_11 h1_12 h1_6k h1_6c h1_4k j2_h1_4c h1_7k h1_7c h1_5k j2_h1_5c g_28) (cwV 2 hts gf_c_X10_passHour_c_X7_rowOn rfl rfl rfl mdV_X7_rowOn ⟨Nat.le_of_ble_eq_true rfl, Nat.le_of_ble_eq_true rfl⟩) ⟨fun a U g mk q => by obtain ⟨q0, q1, qP, qK, qD⟩ := q; exact ⟨q0, q1, qP, va_K.moved (u := U) (U := U.calling g mk a) (Vm.Alike.refl U.vm) qK, qD⟩, hrv, fun U hU hW => ⟨rfl, by rw [hU], by rw [hU]; exact hPc, va_K.moved hW.alike hKc, hDc.weaken (fun _ _ _ _ => trivial)⟩⟩ rfl rfl hl.1 rfl (lv_room (Nat.le_of_ble_eq_true rfl)) dX10_passHour_23 ⟨Nat.le_of_ble_eq_true rfl, Nat.le_of_ble_eq_true rfl⟩) hS (fun q _ h => hFc q h) hFc (fun u t H1 locs ht hvm hw hB hz1 hk1 hS => ?_)
        obtain ⟨w_33, w_34⟩ := u
        obtain ⟨hP1, hK1, hD1⟩ := hB
        rw [ht] at hP1
        obtain ⟨hP, hD⟩ := cl_put (w1 := (wd_c_X7_rowOn h1 h1_f0 h1_f1 h1_f2 h1_f3 h1_4 h1_5 h1_6 h1_7 h1_8 h1_9 h1_10 h1_11 h1_12 h1_6 h1_6k h1_6c h1_4 h1_4k w_33 h1_7 h1_7k h1_7c h1_5 h1_5k w_34)) (nw := (wd_c_X10_passHour h0 h0_0 h0_1 h0_2 h0_3 h0_4 h0_5 h0_0 h0_0_0 h0_0_f1 h0_0_f2 h0_0_f3 h1 h1_f0 h1_f1 h1_f2 h1_f3 h1_4 h1_5 h1_6 h1_7 h1_8 h1_9 h1_10 h1_11 h1_12 h0_4 h0_4k h0_4c h0_0_0 h0_0_0k h0_0_0c h0_2 h0_2k h0_2c h0_3 h0_3k h0_3c h1_10 h1_10k h1_10c h1_11 h1_11k h1_11c h1_12 h1_12k h1_12c h1_4 h1_4k w_33 h1_5 h1_5k w_34 h0_1 h0_1_0 h0_1_f1 h0_1_f2 h0_1_3 h0_1_3 h0_1_3k h0_1_3c h0_1_0 h0_1_0k h0_1_0c h0_1_0_e0 h0_1_0_e0_0 h0_1_0_e0_f1 h0_1_0_e0_2 h0_1_0_e0_0 h0_1_0_e0_0k h0_1_0_e0_0c h0_1_0_e0_2 h0_1_0_e0_2k h0_1_0_e0_2c h0_1_0_e1 h0_1_0_e1_0 h0_1_0_e1_f1 h0_1_0_e1_2 h0_1_0_e1_0 h0_1_0_e1_0k h0_1_0_e1_0c h0_1_0_e1_2 h0_1_0_e1_2k h0_1_0_e1_2c h0_1_0_e2 h0_1_0_e2_0 h0_1_0_e2_f1 h0_1_0_e2_2 h0_1_0_e2_0 h0_1_0_e2_0k h0_1_0_e2_0c h0_1_0_e2_2 h0_1_0_e2_2k h0_1_0_e2_2c h0_1_0_e3 h0_1_0_e3_0 h0_1_0_e3_f1 h0_1_0_e3_2 h0_1_0_e3_0 h0_1_0_e3_0k h0_1_0_e3_0c h0_1_0_e3_2 h0_1_0_e3_2k h0_1_0_e3_2c h1_8 h1_8k h1_8c h1_6 h1_6k h1_6c h1_7 h1_7k h1_7c)) hP hD [2, 28, 10, 29, 11] [0, 1, 30, 3, 4, 5, 6, 7, 8, 9, 32, 34, 12, 13, 14, 15, 16, 17, 18, 19, 20, 21, 22, 23, 24, 25, 26, 27, 31, 33] 30 rfl hqc (by decide +kernel) rfl hk1 hFc hP1 hD1
        generalize H1 = H at hP hS ⊢
        as_aux_lemma =>
        have h_35 := hw
        obtain ⟨x_36, ex_36⟩ : ∃ y : Int32, y = j2_l2 + 1 := ⟨_, rfl⟩
        have g_37 : RG x_36 1 3 := RG_add ex_36 g_28 (RG_k 1 1 rfl) (by decide +kernel)
        refine lv_iinc (v := x_36) (lv' := [(2, .int x_36), (0, .ref h0), (1, .ref h1)]) hx hb dX10_passHour_26 hl (k := 0) rfl (by rw [ex_36]; rfl) (Nat.le_of_ble_eq_true rfl) rfl (fun ls hl => ?_)
        refine lv_goto (tgt := 2) hx hb dX10_passHour_29 rfl ?_
        exact hU _ _ _ (ih2 x_36 w_33 w_34 (mu_s (MU_add ex_36 g_28 (q := 1) rfl (by decide +kernel)) hM2) g_h0_0_f1 (RG_w g_29 (by decide +kernel)) g_h0_0_f3 g_h0_1_0_e0_f1 g_h0_1_0_e1_f1 g_h0_1_0_e2_f1 g_h0_1_0_e3_f1 g_h0_1_f1 (RG_w g_37 (by decide +kernel)) _ _ _ hP hD hS (lv_sub hl [0, 1, 2] rfl))
  refine hG _ _ _ ?_
  refine lv_iconst (v := 0) hx hb dX10_passHour_0 kc_iconst_0 ?_
  refine lv_istore_n (lv' := [(2, .int 0), (0, .ref h0), (1, .ref h1)]) hx hb dX10_passHour_1 rfl hl (Nat.le_of_ble_eq_true rfl) rfl (fun ls hl => ?_)
  exact hU _ _ _ (J2 _ 0 h1_4c h1_5c (Nat.lt_succ_self _) g_h0_0_f1 g_h0_0_f2 g_h0_0_f3 g_h0_1_0_e0_f1 g_h0_1_0_e1_f1 g_h0_1_0_e2_f1 g_h0_1_0_e3_f1 g_h0_1_f1 (RG_w (RG_k 0 0 rfl) (by decide +kernel)) _ _ _ hP hD hS (lv_sub hl [0, 1, 2] rfl))
noncomputable def wd_c_X7_logLength_1 (a0 : Nat) (a1 : Int32) (a2 : Int32) (a3 : Int32) (a4 : Int32) (a5 : Nat) (a6 : Nat) (a7 : Nat) (a8 : Nat) (a9 : Nat) (a10 : Nat) (a11 : Nat) (a12 : Nat) (a13 : Nat) : va_W := [(a0, .inr (7, [.int a1, .int a2, .int a3, .int a4, .ref a5, .ref a6, .ref a7, .ref a8, .ref a9, .ref a10, .ref a11, .ref a12, .ref a13]))]
noncomputable def wf_c_X7_logLength_1 : List Cond := List.cons (.code yX7_logLength cX7_logLength 1 (some .int)) (@HAppend.hAppend (List Cond) (List Cond) (List Cond) _ [.fieldLink RX7 58 "BuoyVote$Sea" "logged" "I", .methodLink RX7 94 Lib.Math.min.name, .static Lib.Math.min.name, .initialized "java/lang/Math", .code Lib.Math.min.name Lib.Math.min.code 2 (some .int)] wsX70)
theorem iw_c_X7_logLength_1_X7 : ∀ w ∈ wsX70, w ∈ wf_c_X7_logLength_1 := fun w h => List.mem_cons_of_mem _ (List.mem_append_right _ h)
set_option maxHeartbeats 4000000 in
set_option maxRecDepth 100000 in
theorem c_X7_logLength_1 (l : Launch) (dC : Nat → ClassId) (dI : Nat → Nat → Nat) (sz : Nat) (h0 : Nat) (h0_f0 : Int32) (h0_f1 : Int32) (h0_f2 : Int32) (h0_f3 : Int32) (h0_4 : Nat) (h0_5 : Nat) (h0_6 : Nat) (h0_7 : Nat) (h0_8 : Nat) (h0_9 : Nat) (h0_10 : Nat) (h0_11 : Nat) (h0_12 : Nat) (g_h0_f3 : RG h0_f3 0 9999) : Met l yX7_logLength wf_c_X7_logLength_1 ({ frames := 1, cells := 0, slots := 0, locals := 13 }) (va_Pc [.ref h0] (fun U => U.heap.size = sz ∧ va_P (dC, dI) vwCl (wd_c_X7_logLength_1 h0 h0_f0 h0_f1 h0_f2 h0_f3 h0_4 h0_5 h0_6 h0_7 h0_8 h0_9 h0_10 h0_11 h0_12) U.heap ∧ va_K (dC, dI) vwCl [] U ∧ va_D (fun _ => True) (wd_c_X7_logLength_1 h0 h0_f0 h0_f1 h0_f2 h0_f3 h0_4 h0_5 h0_6 h0_7 h0_8 h0_9 h0_10 h0_11 h0_12))) (va_Qi (fun (r : Int32) (u : Unit) => (RG r 0 60 ∧ r.toInt ≤ h0_f3.toInt + 0)) (fun (u : Unit) t => va_P (dC, dI) vwCl (wd_c_X7_logLength_1 h0 h0_f0 h0_f1 h0_f2 h0_f3 h0_4 h0_5 h0_6 h0_7 h0_8 h0_9 h0_10 h0_11 h0_12) t.heap ∧ va_K (dC, dI) vwCl [] t ∧ va_D (va_A (wd_c_X7_logLength_1 h0 h0_f0 h0_f1 h0_f2 h0_f3 h0_4 h0_5 h0_6 h0_7 h0_8 h0_9 h0_10 h0_11 h0_12) sz) (wd_c_X7_logLength_1 h0 h0_f0 h0_f1 h0_f2 h0_f3 h0_4 h0_5 h0_6 h0_7 h0_8 h0_9 h0_10 h0_11 h0_12)) (va_A (wd_c_X7_logLength_1 h0 h0_f0 h0_f1 h0_f2 h0_f3 h0_4 h0_5 h0_6 h0_7 h0_8 h0_9 h0_10 h0_11 h0_12) sz)) 0 0 (va_A (wd_c_X7_logLength_1 h0 h0_f0 h0_f1 h0_f2 h0_f3 h0_4 h0_5 h0_6 h0_7 h0_8 h0_9 h0_10 h0_11 h0_12) sz) := by
  refine Met.ofW (cc := cX7_logLength) (maxL := 1) (ret := (some .int)) (by decide +kernel) rfl ?_
  intro p e s m args below meth c s₁ B hml hv
  obtain ⟨rfl, hsz, hP, hK, hD0⟩ := hv
  have hx := B.exec
  have hb := B.bytes
  have hr := B.returns
  have hts := atoms_spec (ws := wf_c_X7_logLength_1) B.pre
  have hown : s.vm.findClass RX7 = some m.cls := findClass_of_methodNamed B.named
  have hlocks := B.notSynchronized
  subst hsz
  have hD := hD0.self (sz := s.heap.size)
  generalize hAe : va_A (wd_c_X7_logLength_1 h0 h0_f0 h0_f1 h0_f2 h0_f3 h0_4 h0_5 h0_6 h0_7 h0_8 h0_9 h0_10 h0_11 h0_12) s.heap.size = A at hD ⊢
  have hA : ∀ q : Nat, s.heap.size ≤ q → A q := fun q h => by rw [← hAe]; exact Or.inr h
  have hP : va_P (dC, dI) vwCl (wd_c_X7_logLength_1 h0 h0_f0 h0_f1 h0_f2 h0_f3 h0_4 h0_5 h0_6 h0_7 h0_8 h0_9 h0_10 h0_11 h0_12) s.heap := hP
  have hl := lv_entry ([.ref h0]) (n := 1) (Nat.le_of_ble_eq_true rfl)
  rw [lg_entry_eq]
  generalize (lg_sl ([.ref h0]) ++ List.replicate (1 - (lg_sl ([.ref h0])).length) Slot.unset).toArray = ls at hl ⊢
  have hl : lv_has ls 1 [(0, .ref h0)] := hl
  obtain ⟨H, hHe⟩ : ∃ H : Heap, s.heap = H := ⟨_, rfl⟩
  have hS : va_S A s.heap H [] := by rw [hHe]; exact va_S.rf
  have hP : va_P (dC, dI) vwCl (wd_c_X7_logLength_1 h0 h0_f0 h0_f1 h0_f2 h0_f3 h0_4 h0_5 h0_6 h0_7 h0_8 h0_9 h0_10 h0_11 h0_12) H := by rw [← hHe]; exact hP
  rw [hHe]
  refine lv_aload_n hx hb dX7_logLength_0 rfl (lv_at hl 0 rfl) ?_
  as_aux_lemma =>
  refine va_get (D := (dC, dI)) (ci := 7) (v := .int h0_f3) (C := RX7) (T := TX7) (N := 13) hx hb hts iw_c_X7_logLength_1_X7 hown hK hP 0 rfl rfl 3 (by decide +kernel) (hts (.fieldLink RX7 58 "BuoyVote$Sea" "logged" "I") (List.mem_of_getElem? (i := 1) rfl)) (fun _ h9 => h9) rfl dX7_logLength_1 ?_
  refine lv_bipush (v := 60) hx hb dX7_logLength_4 kc_bipush_60 ?_
  refine va_mmin hx hb (by rw [hml]; exact hl.1.symm) hown (hts (.methodLink RX7 94 Lib.Math.min.name) (List.mem_of_getElem? (i := 2) rfl)) (hts (.static Lib.Math.min.name) (List.mem_of_getElem? (i := 3) rfl)) (hts (.initialized "java/lang/Math") (List.mem_of_getElem? (i := 4) rfl)) (hts (.code Lib.Math.min.name Lib.Math.min.code 2 (some .int)) (List.mem_of_getElem? (i := 5) rfl)) (Nat.le_of_ble_eq_true rfl) (Nat.le_of_ble_eq_true rfl) (Nat.le_of_ble_eq_true rfl) (Nat.le_of_ble_eq_true rfl) dX7_logLength_6 ?_
  refine lv_topi (fun x_1 ex_1 => ?_)
  have g_2 : RG x_1 0 60 := RG_min ex_1 g_h0_f3 (RG_k 60 60 rfl) (by decide +kernel)
  have b_3 : x_1.toInt ≤ h0_f3.toInt + 0 := by have := min_le1 ex_1; omega
  have hK9 := hK.sub (tys' := []) [] rfl
  exact W.iret (v := x_1) hx hb hr (fun t ht hW => ⟨⟨x_1, (), rfl, ⟨g_2, (by have := b_3; have := (g_2).2; have := (g_h0_f3).1; show x_1.toInt ≤ h0_f3.toInt + 0; omega)⟩, by rw [ht]; exact hP, va_K.moved hW.alike hK9, hD⟩, hS.F ht⟩) hS.2.2 dX7_logLength_9
noncomputable def wf_c_X11_isWithin_5 : List Cond := .code yX11_isWithin cX11_isWithin 3 (some .boolean) :: ([])
set_option maxHeartbeats 4000000 in
set_option maxRecDepth 100000 in
theorem c_X11_isWithin_5 (l : Launch) (dC : Nat → ClassId) (dI : Nat → Nat → Nat) (sz : Nat) (p0 : Int32) (p2 : Int32) (g_p2 : RG p2 (-1) 59) : Met l yX11_isWithin wf_c_X11_isWithin_5 ({ frames := 0, cells := 0, slots := 0, locals := 0 }) (va_Pc [.int p0, .int 0, .int p2] (fun U => U.heap.size = sz ∧ va_P (dC, dI) vwCl [] U.heap ∧ va_K (dC, dI) vwCl [] U ∧ va_D (fun _ => True) [])) (va_Qi (fun (r : Int32) (u : Unit) => (r = 0 ∧ RG p0 (-2147483648) 2147483647) ∨ (r = 1 ∧ RG p0 0 59 ∧ RG p2 0 59 ∧ p0.toInt ≤ p2.toInt + 0)) (fun (u : Unit) t => va_P (dC, dI) vwCl [] t.heap ∧ va_K (dC, dI) vwCl [] t ∧ va_D (va_A [] sz) []) (va_A [] sz)) 0 0 (va_A [] sz) := by
  refine Met.ofW (cc := cX11_isWithin) (maxL := 3) (ret := (some .boolean)) (by decide +kernel) rfl ?_
  intro p e s m args below meth c s₁ B hml hv
  obtain ⟨rfl, hsz, hP, hK, hD0⟩ := hv
  have hx := B.exec
  have hb := B.bytes
  have hr := B.returns
  have hts := atoms_spec (ws := wf_c_X11_isWithin_5) B.pre
  have hown : s.vm.findClass RX11 = some m.cls := findClass_of_methodNamed B.named
  have hlocks := B.notSynchronized
  subst hsz
  have hD := hD0.self (sz := s.heap.size)
  generalize hAe : va_A [] s.heap.size = A at hD ⊢
  have hA : ∀ q : Nat, s.heap.size ≤ q → A q := fun q h => by rw [← hAe]; exact Or.inr h
  have hP : va_P (dC, dI) vwCl [] s.heap := hP
  have hl := lv_entry ([.int p0, .int 0, .int p2]) (n := 3) (Nat.le_of_ble_eq_true rfl)
  rw [lg_entry_eq]
  generalize (lg_sl ([.int p0, .int 0, .int p2]) ++ List.replicate (3 - (lg_sl ([.int p0, .int 0, .int p2])).length) Slot.unset).toArray = ls at hl ⊢
  have hl : lv_has ls 3 [(0, .int p0), (1, .int 0), (2, .int p2)] := hl
  obtain ⟨H, hHe⟩ : ∃ H : Heap, s.heap = H := ⟨_, rfl⟩
  have hS : va_S A s.heap H [] := by rw [hHe]; exact va_S.rf
  have hP : va_P (dC, dI) vwCl [] H := by rw [← hHe]; exact hP
  rw [hHe]
  refine lv_iload_n hx hb dX11_isWithin_0 rfl (lv_at hl 0 rfl) ?_
  as_aux_lemma =>
  refine lv_iload_n hx hb dX11_isWithin_1 rfl (lv_at hl 1 rfl) ?_
  refine lv_icmp_lt (tgt := 14) hx hb dX11_isWithin_2 rfl (fun c_1 => ?_) (fun c_1 => ?_)
  · have g_2 : RG p0 (-2147483648) (-1) := RG_lt1 (RG_any p0) (RG_k 0 0 rfl) c_1 (by decide +kernel)
    refine lv_iconst (v := 0) hx hb dX11_isWithin_14 kc_iconst_0 ?_
    have hK9 := hK.sub (tys' := []) [] rfl
    exact W.zret (v := 0) hx hb hr rfl (fun t ht hW => ⟨⟨0, (), rfl, (Or.inl ⟨rfl, (RG_w g_2 (by decide +kernel))⟩), by rw [ht]; exact hP, va_K.moved hW.alike hK9, hD⟩, hS.F ht⟩) hS.2.2 dX11_isWithin_15
  · have d_3 := Int32.not_lt.mp c_1
    have g_4 : RG p0 0 2147483647 := RG_le2 (RG_k 0 0 rfl) (RG_any p0) d_3 (by decide +kernel)
    refine lv_iload_n hx hb dX11_isWithin_5 rfl (lv_at hl 0 rfl) ?_
    refine lv_iload_n hx hb dX11_isWithin_6 rfl (lv_at hl 2 rfl) ?_
    refine lv_icmp_gt (tgt := 14) hx hb dX11_isWithin_7 rfl (fun c_5 => ?_) (fun c_5 => ?_)
    · have b_6 : p2.toInt ≤ p0.toInt + (-1) := by have := Int32.lt_iff_toInt_lt.mp c_5; omega
      refine lv_iconst (v := 0) hx hb dX11_isWithin_14 kc_iconst_0 ?_
      have hK9 := hK.sub (tys' := []) [] rfl
      exact W.zret (v := 0) hx hb hr rfl (fun t ht hW => ⟨⟨0, (), rfl, (Or.inl ⟨rfl, (RG_w g_4 (by decide +kernel))⟩), by rw [ht]; exact hP, va_K.moved hW.alike hK9, hD⟩, hS.F ht⟩) hS.2.2 dX11_isWithin_15
    · have d_7 := Int32.not_lt.mp c_5
      have b_8 : p0.toInt ≤ p2.toInt + 0 := by have := Int32.le_iff_toInt_le.mp d_7; omega
      have g_9 : RG p0 0 59 := RG_le1 g_4 g_p2 d_7 (by decide +kernel)
      have g_10 : RG p2 0 59 := RG_le2 g_4 g_p2 d_7 (by decide +kernel)
      refine lv_iconst (v := 1) hx hb dX11_isWithin_10 kc_iconst_1 ?_
      as_aux_lemma =>
      refine lv_goto (tgt := 15) hx hb dX11_isWithin_11 rfl ?_
      have hK9 := hK.sub (tys' := []) [] rfl
      exact W.zret (v := 1) hx hb hr rfl (fun t ht hW => ⟨⟨1, (), rfl, (Or.inr ⟨rfl, g_9, g_10, (by have := b_8; have := (g_9).2; have := (g_10).1; show p0.toInt ≤ p2.toInt + 0; omega)⟩), by rw [ht]; exact hP, va_K.moved hW.alike hK9, hD⟩, hS.F ht⟩) hS.2.2 dX11_isWithin_15
noncomputable def wf_c_X11_isWithin_6 : List Cond := .code yX11_isWithin cX11_isWithin 3 (some .boolean) :: ([])
set_option maxHeartbeats 4000000 in
set_option maxRecDepth 100000 in
theorem c_X11_isWithin_6 (l : Launch) (dC : Nat → ClassId) (dI : Nat → Nat → Nat) (sz : Nat) (p0 : Int32) : Met l yX11_isWithin wf_c_X11_isWithin_6 ({ frames := 0, cells := 0, slots := 0, locals := 0 }) (va_Pc [.int p0, .int 0, .int 2] (fun U => U.heap.size = sz ∧ va_P (dC, dI) vwCl [] U.heap ∧ va_K (dC, dI) vwCl [] U ∧ va_D (fun _ => True) [])) (va_Qi (fun (r : Int32) (u : Unit) => (r = 0 ∧ RG p0 (-2147483648) 2147483647) ∨ (r = 1 ∧ RG p0 0 2)) (fun (u : Unit) t => va_P (dC, dI) vwCl [] t.heap ∧ va_K (dC, dI) vwCl [] t ∧ va_D (va_A [] sz) []) (va_A [] sz)) 0 0 (va_A [] sz) := by
  refine Met.ofW (cc := cX11_isWithin) (maxL := 3) (ret := (some .boolean)) (by decide +kernel) rfl ?_
  intro p e s m args below meth c s₁ B hml hv
  obtain ⟨rfl, hsz, hP, hK, hD0⟩ := hv
  have hx := B.exec
  have hb := B.bytes
  have hr := B.returns
  have hts := atoms_spec (ws := wf_c_X11_isWithin_6) B.pre
  have hown : s.vm.findClass RX11 = some m.cls := findClass_of_methodNamed B.named
  have hlocks := B.notSynchronized
  subst hsz
  have hD := hD0.self (sz := s.heap.size)
  generalize hAe : va_A [] s.heap.size = A at hD ⊢
  have hA : ∀ q : Nat, s.heap.size ≤ q → A q := fun q h => by rw [← hAe]; exact Or.inr h
  have hP : va_P (dC, dI) vwCl [] s.heap := hP
  have hl := lv_entry ([.int p0, .int 0, .int 2]) (n := 3) (Nat.le_of_ble_eq_true rfl)
  rw [lg_entry_eq]
  generalize (lg_sl ([.int p0, .int 0, .int 2]) ++ List.replicate (3 - (lg_sl ([.int p0, .int 0, .int 2])).length) Slot.unset).toArray = ls at hl ⊢
  have hl : lv_has ls 3 [(0, .int p0), (1, .int 0), (2, .int 2)] := hl
  obtain ⟨H, hHe⟩ : ∃ H : Heap, s.heap = H := ⟨_, rfl⟩
  have hS : va_S A s.heap H [] := by rw [hHe]; exact va_S.rf
  have hP : va_P (dC, dI) vwCl [] H := by rw [← hHe]; exact hP
  rw [hHe]
  refine lv_iload_n hx hb dX11_isWithin_0 rfl (lv_at hl 0 rfl) ?_
  as_aux_lemma =>
  refine lv_iload_n hx hb dX11_isWithin_1 rfl (lv_at hl 1 rfl) ?_
  refine lv_icmp_lt (tgt := 14) hx hb dX11_isWithin_2 rfl (fun c_1 => ?_) (fun c_1 => ?_)
  · have g_2 : RG p0 (-2147483648) (-1) := RG_lt1 (RG_any p0) (RG_k 0 0 rfl) c_1 (by decide +kernel)
    refine lv_iconst (v := 0) hx hb dX11_isWithin_14 kc_iconst_0 ?_
    have hK9 := hK.sub (tys' := []) [] rfl
    exact W.zret (v := 0) hx hb hr rfl (fun t ht hW => ⟨⟨0, (), rfl, (Or.inl ⟨rfl, (RG_w g_2 (by decide +kernel))⟩), by rw [ht]; exact hP, va_K.moved hW.alike hK9, hD⟩, hS.F ht⟩) hS.2.2 dX11_isWithin_15
  · have d_3 := Int32.not_lt.mp c_1
    have g_4 : RG p0 0 2147483647 := RG_le2 (RG_k 0 0 rfl) (RG_any p0) d_3 (by decide +kernel)
    refine lv_iload_n hx hb dX11_isWithin_5 rfl (lv_at hl 0 rfl) ?_
    refine lv_iload_n hx hb dX11_isWithin_6 rfl (lv_at hl 2 rfl) ?_
    refine lv_icmp_gt (tgt := 14) hx hb dX11_isWithin_7 rfl (fun c_5 => ?_) (fun c_5 => ?_)
    · have g_6 : RG p0 3 2147483647 := RG_lt2 (RG_k 2 2 rfl) g_4 c_5 (by decide +kernel)
      refine lv_iconst (v := 0) hx hb dX11_isWithin_14 kc_iconst_0 ?_
      have hK9 := hK.sub (tys' := []) [] rfl
      exact W.zret (v := 0) hx hb hr rfl (fun t ht hW => ⟨⟨0, (), rfl, (Or.inl ⟨rfl, (RG_w g_6 (by decide +kernel))⟩), by rw [ht]; exact hP, va_K.moved hW.alike hK9, hD⟩, hS.F ht⟩) hS.2.2 dX11_isWithin_15
    · have d_7 := Int32.not_lt.mp c_5
      have g_8 : RG p0 0 2 := RG_le1 g_4 (RG_k 2 2 rfl) d_7 (by decide +kernel)
      refine lv_iconst (v := 1) hx hb dX11_isWithin_10 kc_iconst_1 ?_
      as_aux_lemma =>
      refine lv_goto (tgt := 15) hx hb dX11_isWithin_11 rfl ?_
      have hK9 := hK.sub (tys' := []) [] rfl
      exact W.zret (v := 1) hx hb hr rfl (fun t ht hW => ⟨⟨1, (), rfl, (Or.inr ⟨rfl, g_8⟩), by rw [ht]; exact hP, va_K.moved hW.alike hK9, hD⟩, hS.F ht⟩) hS.2.2 dX11_isWithin_15
noncomputable def wd_c_X3_logged (a0 : Nat) (a1 : Nat) (a2 : Int32) (a3 : Int32) (a4 : Nat) (a5 : Nat) (a6 : Nat) (a7 : Int32) (a8 : Nat) (a9 : ClassId) (a10 : Nat → Int32) : va_W := [(a0, .inr (3, [.ref a1, .int a2, .int a3, .ref a4, .ref a5, .ref a6, .int a7])), (a8, .inl (a9, 300, .inl a10))]
noncomputable def wf_c_X3_logged : List Cond := List.cons (.code yX3_logged cX3_logged 3 (some .int)) (@HAppend.hAppend (List Cond) (List Cond) (List Cond) _ [.fieldLink RX3 18 "BuoyVote$History" "log" "[I"] wsX30)
theorem iw_c_X3_logged_X3 : ∀ w ∈ wsX30, w ∈ wf_c_X3_logged := fun w h => List.mem_cons_of_mem _ (List.mem_append_right _ h)
set_option maxHeartbeats 4000000 in
set_option maxRecDepth 100000 in
theorem c_X3_logged (l : Launch) (dC : Nat → ClassId) (dI : Nat → Nat → Nat) (sz : Nat) (h0 : Nat) (p1 : Int32) (p2 : Int32) (h0_0 : Nat) (h0_f1 : Int32) (h0_f2 : Int32) (h0_3 : Nat) (h0_4 : Nat) (h0_5 : Nat) (h0_f6 : Int32) (h0_3k : ClassId) (h0_3c : Nat → Int32) (g_p1 : RG p1 0 2147483647) (g_p2 : RG p2 0 2) (g_h0_f1 : RG h0_f1 0 39) (g_h0_f2 : RG h0_f2 0 40) (g_h0_f6 : RG h0_f6 0 1) : Met l yX3_logged wf_c_X3_logged ({ frames := 0, cells := 0, slots := 0, locals := 0 }) (va_Pc [.ref h0, .int p1, .int p2] (fun U => U.heap.size = sz ∧ va_P (dC, dI) vwCl (wd_c_X3_logged h0 h0_0 h0_f1 h0_f2 h0_3 h0_4 h0_5 h0_f6 h0_3 h0_3k h0_3c) U.heap ∧ va_K (dC, dI) vwCl [(h0_3k, .int)] U ∧ va_D (fun _ => True) (wd_c_X3_logged h0 h0_0 h0_f1 h0_f2 h0_3 h0_4 h0_5 h0_f6 h0_3 h0_3k h0_3c))) (va_Qi (fun (r : Int32) (u : Unit) => (RG r (-2147483648) 2147483647)) (fun (u : Unit) t => va_P (dC, dI) vwCl (wd_c_X3_logged h0 h0_0 h0_f1 h0_f2 h0_3 h0_4 h0_5 h0_f6 h0_3 h0_3k h0_3c) t.heap ∧ va_K (dC, dI) vwCl [] t ∧ va_D (va_A (wd_c_X3_logged h0 h0_0 h0_f1 h0_f2 h0_3 h0_4 h0_5 h0_f6 h0_3 h0_3k h0_3c) sz) (wd_c_X3_logged h0 h0_0 h0_f1 h0_f2 h0_3 h0_4 h0_5 h0_f6 h0_3 h0_3k h0_3c)) (va_A (wd_c_X3_logged h0 h0_0 h0_f1 h0_f2 h0_3 h0_4 h0_5 h0_f6 h0_3 h0_3k h0_3c) sz)) 0 0 (va_A (wd_c_X3_logged h0 h0_0 h0_f1 h0_f2 h0_3 h0_4 h0_5 h0_f6 h0_3 h0_3k h0_3c) sz) := by
  refine Met.ofW (cc := cX3_logged) (maxL := 3) (ret := (some .int)) (by decide +kernel) rfl ?_
  intro p e s m args below meth c s₁ B hml hv
  obtain ⟨rfl, hsz, hP, hK, hD0⟩ := hv
  have hx := B.exec
  have hb := B.bytes
  have hr := B.returns
  have hts := atoms_spec (ws := wf_c_X3_logged) B.pre
  have hown : s.vm.findClass RX3 = some m.cls := findClass_of_methodNamed B.named
  have hlocks := B.notSynchronized
  subst hsz
  have hD := hD0.self (sz := s.heap.size)
  generalize hAe : va_A (wd_c_X3_logged h0 h0_0 h0_f1 h0_f2 h0_3 h0_4 h0_5 h0_f6 h0_3 h0_3k h0_3c) s.heap.size = A at hD ⊢
  have hA : ∀ q : Nat, s.heap.size ≤ q → A q := fun q h => by rw [← hAe]; exact Or.inr h
  have hP : va_P (dC, dI) vwCl (wd_c_X3_logged h0 h0_0 h0_f1 h0_f2 h0_3 h0_4 h0_5 h0_f6 h0_3 h0_3k h0_3c) s.heap := hP
  have hl := lv_entry ([.ref h0, .int p1, .int p2]) (n := 3) (Nat.le_of_ble_eq_true rfl)
  rw [lg_entry_eq]
  generalize (lg_sl ([.ref h0, .int p1, .int p2]) ++ List.replicate (3 - (lg_sl ([.ref h0, .int p1, .int p2])).length) Slot.unset).toArray = ls at hl ⊢
  have hl : lv_has ls 3 [(0, .ref h0), (1, .int p1), (2, .int p2)] := hl
  obtain ⟨H, hHe⟩ : ∃ H : Heap, s.heap = H := ⟨_, rfl⟩
  have hS : va_S A s.heap H [] := by rw [hHe]; exact va_S.rf
  have hP : va_P (dC, dI) vwCl (wd_c_X3_logged h0 h0_0 h0_f1 h0_f2 h0_3 h0_4 h0_5 h0_f6 h0_3 h0_3k h0_3c) H := by rw [← hHe]; exact hP
  rw [hHe]
  refine lv_aload_n hx hb dX3_logged_0 rfl (lv_at hl 0 rfl) ?_
  as_aux_lemma =>
  refine va_get (D := (dC, dI)) (ci := 3) (v := .ref h0_3) (C := RX3) (T := TX3) (N := 7) hx hb hts iw_c_X3_logged_X3 hown hK hP 0 rfl rfl 3 (by decide +kernel) (hts (.fieldLink RX3 18 "BuoyVote$History" "log" "[I") (List.mem_of_getElem? (i := 1) rfl)) (fun _ h9 => h9) rfl dX3_logged_1 ?_
  refine lv_iload_n hx hb dX3_logged_4 rfl (lv_at hl 1 rfl) ?_
  refine lv_bipush (v := 100) hx hb dX3_logged_5 kc_bipush_100 ?_
  refine lv_irem hx hb dX3_logged_7 (by decide +kernel) ?_
  refine lv_topi (fun x_1 ex_1 => ?_)
  have g_2 : RG x_1 0 99 := RG_rem ex_1 g_p1 (RG_k 100 100 rfl) (by decide +kernel)
  refine lv_iconst (v := 3) hx hb dX3_logged_8 kc_iconst_3 ?_
  refine lv_imul hx hb dX3_logged_9 ?_
  refine lv_topi (fun x_3 ex_3 => ?_)
  have g_4 : RG x_3 0 297 := RG_mulc ex_3 (q := 3) rfl g_2 (by decide +kernel)
  refine lv_iload_n hx hb dX3_logged_10 rfl (lv_at hl 2 rfl) ?_
  refine lv_iadd hx hb dX3_logged_11 ?_
  refine lv_topi (fun x_5 ex_5 => ?_)
  have g_6 : RG x_5 0 299 := RG_add ex_5 g_4 g_p2 (by decide +kernel)
  refine va_iald hx hb hK hP 1 0 rfl rfl (RG_in g_6 (by decide +kernel)) dX3_logged_12 ?_
  as_aux_lemma =>
  refine lv_topi (fun x_7 ex_7 => ?_)
  have hK9 := hK.sub (tys' := []) [] rfl
  exact W.iret (v := x_7) hx hb hr (fun t ht hW => ⟨⟨x_7, (), rfl, (RG_any x_7), by rw [ht]; exact hP, va_K.moved hW.alike hK9, hD⟩, hS.F ht⟩) hS.2.2 dX3_logged_13
noncomputable def wd_c_X11_log (a0 : Nat) (a1 : Nat) (a2 : Nat) (a3 : Nat) (a4 : Nat) (a5 : Nat) (a6 : Int32) (a7 : Nat) (a8 : Nat) (a9 : Nat) (a10 : Nat) (a11 : Nat) (a12 : Nat) (a13 : Nat) (a14 : Nat) (a15 : Nat) (a16 : Int64) (a17 : Nat) (a18 : Int32) (a19 : Int32) (a20 : Int32) (a21 : Int32) (a22 : Nat) (a23 : Nat) (a24 : Nat) (a25 : Nat) (a26 : Nat) (a27 : Nat) (a28 : Nat) (a29 : Nat) (a30 : Nat) (a31 : Nat) (a32 : Nat) (a33 : Int32) (a34 : Int32) (a35 : Nat) (a36 : Nat) (a37 : Nat) (a38 : Int32) (a39 : Nat) (a40 : ClassId) (a41 : Nat → Int32) : va_W := [(a0, .inr (11, [.ref a1, .ref a2, .ref a3, .ref a4, .ref a5, .int a6, .ref a7, .ref a8, .ref a9, .ref a10, .ref a11, .ref a12, .ref a13, .ref a14, .ref a15, .long a16])), (a17, .inr (7, [.int a18, .int a19, .int a20, .int a21, .ref a22, .ref a23, .ref a24, .ref a25, .ref a26, .ref a27, .ref a28, .ref a29, .ref a30])), (a31, .inr (3, [.ref a32, .int a33, .int a34, .ref a35, .ref a36, .ref a37, .int a38])), (a39, .inl (a40, 300, .inl a41))]
noncomputable def wf_c_X11_log : List Cond := List.cons (.code yX11_log cX11_log 3 (some .int)) (@HAppend.hAppend (List Cond) (List Cond) (List Cond) _ (@HAppend.hAppend (List Cond) (List Cond) (List Cond) _ (@HAppend.hAppend (List Cond) (List Cond) (List Cond) _ [.fieldLink RX11 52 "BuoyVote" "now" "LBuoyVote$Sea;", .methodLink RX11 285 yX7_logLength, .instanceMethod yX7_logLength, .selects RX7 yX7_logLength yX7_logLength, .initialized RX7, .code yX7_logLength cX7_logLength 1 (some .int), .fieldLink RX7 58 "BuoyVote$Sea" "logged" "I", .methodLink RX7 94 Lib.Math.min.name, .static Lib.Math.min.name, .initialized "java/lang/Math", .code Lib.Math.min.name Lib.Math.min.code 2 (some .int), .methodLink RX11 111 yX11_isWithin, .static yX11_isWithin, .initialized RX11, .code yX11_isWithin cX11_isWithin 3 (some .boolean), .fieldLink RX11 62 "BuoyVote" "history" "LBuoyVote$History;", .fieldLink RX11 288 "BuoyVote$Sea" "logged" "I", .methodLink RX11 291 yX3_logged, .instanceMethod yX3_logged, .selects RX3 yX3_logged yX3_logged, .initialized RX3, .code yX3_logged cX3_logged 3 (some .int), .fieldLink RX3 18 "BuoyVote$History" "log" "[I"] wsX110) wsX70) wsX30)
theorem iw_c_X11_log_X11 : ∀ w ∈ wsX110, w ∈ wf_c_X11_log := fun w h => List.mem_cons_of_mem _ (List.mem_append_left _ (List.mem_append_left _ (List.mem_append_right _ h)))
theorem iw_c_X11_log_X7 : ∀ w ∈ wsX70, w ∈ wf_c_X11_log := fun w h => List.mem_cons_of_mem _ (List.mem_append_left _ (List.mem_append_right _ h))
theorem iw_c_X11_log_X3 : ∀ w ∈ wsX30, w ∈ wf_c_X11_log := fun w h => List.mem_cons_of_mem _ (List.mem_append_right _ h)
set_option maxRecDepth 20000 in
theorem gf_c_X11_log_c_X7_logLength_1 : GoodIn wf_c_X11_log (wsV RX11 285 RX7 yX7_logLength wf_c_X7_logLength_1) := goodIn_app (gi_l [2, 3, 4, 5] rfl rfl) (gi_cons (j := 6) rfl rfl (goodIn_app (gi_l [7, 8, 9, 10, 11] rfl rfl) (goodIn_sub iw_c_X11_log_X7 gw_X7)))
set_option maxRecDepth 20000 in
theorem gf_c_X11_log_c_X11_isWithin_5 : GoodIn wf_c_X11_log (va_wsS RX11 111 yX11_isWithin wf_c_X11_isWithin_5) := goodIn_app (gi_l [12, 13, 14] rfl rfl) (gi_cons (j := 15) rfl rfl gi_nil)
set_option maxRecDepth 20000 in
theorem gf_c_X11_log_c_X11_isWithin_6 : GoodIn wf_c_X11_log (va_wsS RX11 111 yX11_isWithin wf_c_X11_isWithin_6) := goodIn_app (gi_l [12, 13, 14] rfl rfl) (gi_cons (j := 15) rfl rfl gi_nil)
set_option maxRecDepth 20000 in
theorem gf_c_X11_log_c_X3_logged : GoodIn wf_c_X11_log (wsV RX11 291 RX3 yX3_logged wf_c_X3_logged) := goodIn_app (gi_l [18, 19, 20, 21] rfl rfl) (gi_cons (j := 22) rfl rfl (goodIn_app (gi_l [23] rfl rfl) (goodIn_sub iw_c_X11_log_X3 gw_X3)))
set_option maxHeartbeats 4000000 in
set_option maxRecDepth 100000 in
theorem c_X11_log (l : Launch) (dC : Nat → ClassId) (dI : Nat → Nat → Nat) (sz : Nat) (h0 : Nat) (p1 : Int32) (p2 : Int32) (h0_0 : Nat) (h0_1 : Nat) (h0_2 : Nat) (h0_3 : Nat) (h0_4 : Nat) (h0_f5 : Int32) (h0_6 : Nat) (h0_7 : Nat) (h0_8 : Nat) (h0_9 : Nat) (h0_10 : Nat) (h0_11 : Nat) (h0_12 : Nat) (h0_13 : Nat) (h0_14 : Nat) (h0_f15 : Int64) (h0_7_f0 : Int32) (h0_7_f1 : Int32) (h0_7_f2 : Int32) (h0_7_f3 : Int32) (h0_7_4 : Nat) (h0_7_5 : Nat) (h0_7_6 : Nat) (h0_7_7 : Nat) (h0_7_8 : Nat) (h0_7_9 : Nat) (h0_7_10 : Nat) (h0_7_11 : Nat) (h0_7_12 : Nat) (h0_9_0 : Nat) (h0_9_f1 : Int32) (h0_9_f2 : Int32) (h0_9_3 : Nat) (h0_9_4 : Nat) (h0_9_5 : Nat) (h0_9_f6 : Int32) (h0_9_3k : ClassId) (h0_9_3c : Nat → Int32) (g_h0_f5 : RG h0_f5 0 4) (g_h0_7_f2 : RG h0_7_f2 0 9999) (g_h0_7_f3 : RG h0_7_f3 0 9999) (g_h0_9_f1 : RG h0_9_f1 0 39) (g_h0_9_f2 : RG h0_9_f2 0 40) (g_h0_9_f6 : RG h0_9_f6 0 1) : Met l yX11_log wf_c_X11_log ({ frames := 2, cells := 0, slots := 0, locals := 33 }) (va_Pc [.ref h0, .int p1, .int p2] (fun U => U.heap.size = sz ∧ va_P (dC, dI) vwCl (wd_c_X11_log h0 h0_0 h0_1 h0_2 h0_3 h0_4 h0_f5 h0_6 h0_7 h0_8 h0_9 h0_10 h0_11 h0_12 h0_13 h0_14 h0_f15 h0_7 h0_7_f0 h0_7_f1 h0_7_f2 h0_7_f3 h0_7_4 h0_7_5 h0_7_6 h0_7_7 h0_7_8 h0_7_9 h0_7_10 h0_7_11 h0_7_12 h0_9 h0_9_0 h0_9_f1 h0_9_f2 h0_9_3 h0_9_4 h0_9_5 h0_9_f6 h0_9_3 h0_9_3k h0_9_3c) U.heap ∧ va_K (dC, dI) vwCl [(h0_9_3k, .int)] U ∧ va_D (fun _ => True) (wd_c_X11_log h0 h0_0 h0_1 h0_2 h0_3 h0_4 h0_f5 h0_6 h0_7 h0_8 h0_9 h0_10 h0_11 h0_12 h0_13 h0_14 h0_f15 h0_7 h0_7_f0 h0_7_f1 h0_7_f2 h0_7_f3 h0_7_4 h0_7_5 h0_7_6 h0_7_7 h0_7_8 h0_7_9 h0_7_10 h0_7_11 h0_7_12 h0_9 h0_9_0 h0_9_f1 h0_9_f2 h0_9_3 h0_9_4 h0_9_5 h0_9_f6 h0_9_3 h0_9_3k h0_9_3c))) (va_Qi (fun (r : Int32) (u : Unit) => (r = (-1)) ∨ (RG r (-2147483648) 2147483647 ∧ RG p1 0 59 ∧ RG p2 0 2)) (fun (u : Unit) t => va_P (dC, dI) vwCl (wd_c_X11_log h0 h0_0 h0_1 h0_2 h0_3 h0_4 h0_f5 h0_6 h0_7 h0_8 h0_9 h0_10 h0_11 h0_12 h0_13 h0_14 h0_f15 h0_7 h0_7_f0 h0_7_f1 h0_7_f2 h0_7_f3 h0_7_4 h0_7_5 h0_7_6 h0_7_7 h0_7_8 h0_7_9 h0_7_10 h0_7_11 h0_7_12 h0_9 h0_9_0 h0_9_f1 h0_9_f2 h0_9_3 h0_9_4 h0_9_5 h0_9_f6 h0_9_3 h0_9_3k h0_9_3c) t.heap ∧ va_K (dC, dI) vwCl [] t ∧ va_D (va_A (wd_c_X11_log h0 h0_0 h0_1 h0_2 h0_3 h0_4 h0_f5 h0_6 h0_7 h0_8 h0_9 h0_10 h0_11 h0_12 h0_13 h0_14 h0_f15 h0_7 h0_7_f0 h0_7_f1 h0_7_f2 h0_7_f3 h0_7_4 h0_7_5 h0_7_6 h0_7_7 h0_7_8 h0_7_9 h0_7_10 h0_7_11 h0_7_12 h0_9 h0_9_0 h0_9_f1 h0_9_f2 h0_9_3 h0_9_4 h0_9_5 h0_9_f6 h0_9_3 h0_9_3k h0_9_3c) sz) (wd_c_X11_log h0 h0_0 h0_1 h0_2 h0_3 h0_4 h0_f5 h0_6 h0_7 h0_8 h0_9 h0_10 h0_11 h0_12 h0_13 h0_14 h0_f15 h0_7 h0_7_f0 h0_7_f1 h0_7_f2 h0_7_f3 h0_7_4 h0_7_5 h0_7_6 h0_7_7 h0_7_8 h0_7_9 h0_7_10 h0_7_11 h0_7_12 h0_9 h0_9_0 h0_9_f1 h0_9_f2 h0_9_3 h0_9_4 h0_9_5 h0_9_f6 h0_9_3 h0_9_3k h0_9_3c)) (va_A (wd_c_X11_log h0 h0_0 h0_1 h0_2 h0_3 h0_4 h0_f5 h0_6 h0_7 h0_8 h0_9 h0_10 h0_11 h0_12 h0_13 h0_14 h0_f15 h0_7 h0_7_f0 h0_7_f1 h0_7_f2 h0_7_f3 h0_7_4 h0_7_5 h0_7_6 h0_7_7 h0_7_8 h0_7_9 h0_7_10 h0_7_11 h0_7_12 h0_9 h0_9_0 h0_9_f1 h0_9_f2 h0_9_3 h0_9_4 h0_9_5 h0_9_f6 h0_9_3 h0_9_3k h0_9_3c) sz)) 0 0 (va_A (wd_c_X11_log h0 h0_0 h0_1 h0_2 h0_3 h0_4 h0_f5 h0_6 h0_7 h0_8 h0_9 h0_10 h0_11 h0_12 h0_13 h0_14 h0_f15 h0_7 h0_7_f0 h0_7_f1 h0_7_f2 h0_7_f3 h0_7_4 h0_7_5 h0_7_6 h0_7_7 h0_7_8 h0_7_9 h0_7_10 h0_7_11 h0_7_12 h0_9 h0_9_0 h0_9_f1 h0_9_f2 h0_9_3 h0_9_4 h0_9_5 h0_9_f6 h0_9_3 h0_9_3k h0_9_3c) sz) := by
  refine Met.ofW (cc := cX11_log) (maxL := 3) (ret := (some .int)) (by decide +kernel) rfl ?_
  intro p e s m args below meth c s₁ B hml hv
  obtain ⟨rfl, hsz, hP, hK, hD0⟩ := hv
  have hx := B.exec
  have hb := B.bytes
  have hr := B.returns
  have hts := atoms_spec (ws := wf_c_X11_log) B.pre
  have hown : s.vm.findClass RX11 = some m.cls := findClass_of_methodNamed B.named
  have hlocks := B.notSynchronized
  subst hsz
  have hD := hD0.self (sz := s.heap.size)
  generalize hAe : va_A (wd_c_X11_log h0 h0_0 h0_1 h0_2 h0_3 h0_4 h0_f5 h0_6 h0_7 h0_8 h0_9 h0_10 h0_11 h0_12 h0_13 h0_14 h0_f15 h0_7 h0_7_f0 h0_7_f1 h0_7_f2 h0_7_f3 h0_7_4 h0_7_5 h0_7_6 h0_7_7 h0_7_8 h0_7_9 h0_7_10 h0_7_11 h0_7_12 h0_9 h0_9_0 h0_9_f1 h0_9_f2 h0_9_3 h0_9_4 h0_9_5 h0_9_f6 h0_9_3 h0_9_3k h0_9_3c) s.heap.size = A at hD ⊢
  have hA : ∀ q : Nat, s.heap.size ≤ q → A q := fun q h => by rw [← hAe]; exact Or.inr h
  have hP : va_P (dC, dI) vwCl (wd_c_X11_log h0 h0_0 h0_1 h0_2 h0_3 h0_4 h0_f5 h0_6 h0_7 h0_8 h0_9 h0_10 h0_11 h0_12 h0_13 h0_14 h0_f15 h0_7 h0_7_f0 h0_7_f1 h0_7_f2 h0_7_f3 h0_7_4 h0_7_5 h0_7_6 h0_7_7 h0_7_8 h0_7_9 h0_7_10 h0_7_11 h0_7_12 h0_9 h0_9_0 h0_9_f1 h0_9_f2 h0_9_3 h0_9_4 h0_9_5 h0_9_f6 h0_9_3 h0_9_3k h0_9_3c) s.heap := hP
  have hl := lv_entry ([.ref h0, .int p1, .int p2]) (n := 3) (Nat.le_of_ble_eq_true rfl)
  rw [lg_entry_eq]
  generalize (lg_sl ([.ref h0, .int p1, .int p2]) ++ List.replicate (3 - (lg_sl ([.ref h0, .int p1, .int p2])).length) Slot.unset).toArray = ls at hl ⊢
  have hl : lv_has ls 3 [(0, .ref h0), (1, .int p1), (2, .int p2)] := hl
  obtain ⟨H, hHe⟩ : ∃ H : Heap, s.heap = H := ⟨_, rfl⟩
  have hS : va_S A s.heap H [] := by rw [hHe]; exact va_S.rf
  have hP : va_P (dC, dI) vwCl (wd_c_X11_log h0 h0_0 h0_1 h0_2 h0_3 h0_4 h0_f5 h0_6 h0_7 h0_8 h0_9 h0_10 h0_11 h0_12 h0_13 h0_14 h0_f15 h0_7 h0_7_f0 h0_7_f1 h0_7_f2 h0_7_f3 h0_7_4 h0_7_5 h0_7_6 h0_7_7 h0_7_8 h0_7_9 h0_7_10 h0_7_11 h0_7_12 h0_9 h0_9_0 h0_9_f1 h0_9_f2 h0_9_3 h0_9_4 h0_9_5 h0_9_f6 h0_9_3 h0_9_3k h0_9_3c) H := by rw [← hHe]; exact hP
  rw [hHe]
  refine lv_iload_n hx hb dX11_log_0 rfl (lv_at hl 1 rfl) ?_
  as_aux_lemma =>
  refine lv_iconst (v := 0) hx hb dX11_log_1 kc_iconst_0 ?_
  refine lv_aload_n hx hb dX11_log_2 rfl (lv_at hl 0 rfl) ?_
  refine va_get (D := (dC, dI)) (ci := 11) (v := .ref h0_7) (C := RX11) (T := TX11) (N := 16) hx hb hts iw_c_X11_log_X11 hown hK hP 0 rfl rfl 7 (by decide +kernel) (hts (.fieldLink RX11 52 "BuoyVote" "now" "LBuoyVote$Sea;") (List.mem_of_getElem? (i := 1) rfl)) (fun _ h9 => h9) rfl dX11_log_3 ?_
  obtain ⟨hPc, hDc, hFc, hqc⟩ := cl_cut (wc := (wd_c_X7_logLength_1 h0_7 h0_7_f0 h0_7_f1 h0_7_f2 h0_7_f3 h0_7_4 h0_7_5 h0_7_6 h0_7_7 h0_7_8 h0_7_9 h0_7_10 h0_7_11 h0_7_12)) hP hD hS hA [1] (by decide +kernel) rfl
  have hKc := hK.sub (tys' := []) [] rfl
  have hrv := va_recv hKc hPc (ci := 7) (q0 := 0) rfl rfl
  refine va_calli (va_runV (As := []) (rest := [.int 0, .int p1]) ⟨hx, hb, hml, hown, hts⟩ (c_X7_logLength_1 l dC dI H.size h0_7 h0_7_f0 h0_7_f1 h0_7_f2 h0_7_f3 h0_7_4 h0_7_5 h0_7_6 h0_7_7 h0_7_8 h0_7_9 h0_7_10 h0_7_11 h0_7_12 g_h0_7_f3) (cwV 0 hts gf_c_X11_log_c_X7_logLength_1 rfl rfl rfl mdV_X7_logLength ⟨Nat.le_of_ble_eq_true rfl, Nat.le_of_ble_eq_true rfl⟩) ⟨fun a U g mk q => by obtain ⟨q0, q1, qP, qK, qD⟩ := q; exact ⟨q0, q1, qP, va_K.moved (u := U) (U := U.calling g mk a) (Vm.Alike.refl U.vm) qK, qD⟩, hrv, fun U hU hW => ⟨rfl, by rw [hU], by rw [hU]; exact hPc, va_K.moved hW.alike hKc, hDc.weaken (fun _ _ _ _ => trivial)⟩⟩ rfl rfl hl.1 rfl (lv_room (Nat.le_of_ble_eq_true rfl)) dX11_log_6 ⟨Nat.le_of_ble_eq_true rfl, Nat.le_of_ble_eq_true rfl⟩) hS (fun q _ h => hFc q h) hFc (fun r_1 u t H1 locs ht hvm hw hB hz1 hk1 hS => ?_)
  obtain ⟨hP1, hK1, hD1⟩ := hB
  rw [ht] at hP1
  obtain ⟨hP, hD⟩ := cl_put (w1 := (wd_c_X7_logLength_1 h0_7 h0_7_f0 h0_7_f1 h0_7_f2 h0_7_f3 h0_7_4 h0_7_5 h0_7_6 h0_7_7 h0_7_8 h0_7_9 h0_7_10 h0_7_11 h0_7_12)) (nw := (wd_c_X11_log h0 h0_0 h0_1 h0_2 h0_3 h0_4 h0_f5 h0_6 h0_7 h0_8 h0_9 h0_10 h0_11 h0_12 h0_13 h0_14 h0_f15 h0_7 h0_7_f0 h0_7_f1 h0_7_f2 h0_7_f3 h0_7_4 h0_7_5 h0_7_6 h0_7_7 h0_7_8 h0_7_9 h0_7_10 h0_7_11 h0_7_12 h0_9 h0_9_0 h0_9_f1 h0_9_f2 h0_9_3 h0_9_4 h0_9_5 h0_9_f6 h0_9_3 h0_9_3k h0_9_3c)) hP hD [1] [0, 4, 2, 3] 4 rfl hqc (by decide +kernel) rfl hk1 hFc hP1 hD1
  generalize H1 = H at hP hS ⊢
  as_aux_lemma =>
  rcases hw with ⟨h_2, h_3⟩
  refine lv_iconst (v := 1) hx hb dX11_log_9 kc_iconst_1 ?_
  refine lv_isub hx hb dX11_log_10 ?_
  refine lv_topi (fun x_4 ex_4 => ?_)
  have g_5 : RG x_4 (-1) 59 := RG_sub ex_4 h_2 (RG_k 1 1 rfl) (by decide +kernel)
  obtain ⟨hPc, hDc, hFc, hqc⟩ := cl_cut (wc := []) hP hD hS hA [] (by decide +kernel) rfl
  have hKc := hK.sub (tys' := []) [] rfl
  refine va_calli (va_runS (As := [.int p1, .int 0, .int x_4]) (rest := []) ⟨hx, hb, hml, hown, hts⟩ (c_X11_isWithin_5 l dC dI H.size p1 x_4 g_5) (va_cwS 3 hts gf_c_X11_log_c_X11_isWithin_5 rfl rfl rfl md_X11_isWithin ⟨Nat.le_of_ble_eq_true rfl, Nat.le_of_ble_eq_true rfl⟩) ⟨fun a U g mk q => by obtain ⟨q0, q1, qP, qK, qD⟩ := q; exact ⟨q0, q1, qP, va_K.moved (u := U) (U := U.calling g mk a) (Vm.Alike.refl U.vm) qK, qD⟩, fun U hU hW => ⟨rfl, by rw [hU], by rw [hU]; exact hPc, va_K.moved hW.alike hKc, hDc.weaken (fun _ _ _ _ => trivial)⟩⟩ rfl rfl hl.1 rfl (lv_room (Nat.le_of_ble_eq_true rfl)) dX11_log_11 ⟨Nat.le_of_ble_eq_true rfl, Nat.le_of_ble_eq_true rfl⟩) hS (fun q _ h => hFc q h) hFc (fun r_6 u t H1 locs ht hvm hw hB hz1 hk1 hS => ?_)
  obtain ⟨hP1, hK1, hD1⟩ := hB
  rw [ht] at hP1
  have hP := bv_still hP hk1
  generalize H1 = H at hP hS ⊢
  as_aux_lemma =>
  rcases hw with ⟨h_7, h_8⟩ | ⟨h_9, h_10, h_11, h_12⟩
  · rw [h_7]
    refine lv_if_eq (tgt := 26) hx hb dX11_log_14 rfl (fun c_13 => ?_) (fun c_13 => absurd c_13 (by decide +kernel))
    refine lv_iconst (v := (-1)) hx hb dX11_log_26 kc_iconst_m1 ?_
    have hK9 := hK.sub (tys' := []) [] rfl
    exact W.iret (v := (-1)) hx hb hr (fun t ht hW => ⟨⟨(-1), (), rfl, (Or.inl rfl), by rw [ht]; exact hP, va_K.moved hW.alike hK9, hD⟩, hS.F ht⟩) hS.2.2 dX11_log_27
  · rw [h_9]
    have g_14 : RG r_1 1 60 := RG_addb (RG_sc (d := (-1)) ex_4 rfl) (q := (-1)) rfl h_2 h_11 (by decide +kernel)
    refine lv_if_eq (tgt := 26) hx hb dX11_log_14 rfl (fun c_15 => absurd c_15 (by decide +kernel)) (fun c_15 => ?_)
    refine lv_iload_n hx hb dX11_log_17 rfl (lv_at hl 2 rfl) ?_
    refine lv_iconst (v := 0) hx hb dX11_log_18 kc_iconst_0 ?_
    refine lv_iconst (v := 2) hx hb dX11_log_19 kc_iconst_2 ?_
    obtain ⟨hPc, hDc, hFc, hqc⟩ := cl_cut (wc := []) hP hD hS hA [] (by decide +kernel) rfl
    have hKc := hK.sub (tys' := []) [] rfl
    refine va_calli (va_runS (As := [.int p2, .int 0, .int 2]) (rest := []) ⟨hx, hb, hml, hown, hts⟩ (c_X11_isWithin_6 l dC dI H.size p2) (va_cwS 3 hts gf_c_X11_log_c_X11_isWithin_6 rfl rfl rfl md_X11_isWithin ⟨Nat.le_of_ble_eq_true rfl, Nat.le_of_ble_eq_true rfl⟩) ⟨fun a U g mk q => by obtain ⟨q0, q1, qP, qK, qD⟩ := q; exact ⟨q0, q1, qP, va_K.moved (u := U) (U := U.calling g mk a) (Vm.Alike.refl U.vm) qK, qD⟩, fun U hU hW => ⟨rfl, by rw [hU], by rw [hU]; exact hPc, va_K.moved hW.alike hKc, hDc.weaken (fun _ _ _ _ => trivial)⟩⟩ rfl rfl hl.1 rfl (lv_room (Nat.le_of_ble_eq_true rfl)) dX11_log_20 ⟨Nat.le_of_ble_eq_true rfl, Nat.le_of_ble_eq_true rfl⟩) hS (fun q _ h => hFc q h) hFc (fun r_16 u t H1 locs ht hvm hw hB hz1 hk1 hS => ?_)
    as_aux_lemma =>
    obtain ⟨hP1, hK1, hD1⟩ := hB
    rw [ht] at hP1
    have hP := bv_still hP hk1
    generalize H1 = H at hP hS ⊢
    as_aux_lemma =>
    rcases hw with ⟨h_17, h_18⟩ | ⟨h_19, h_20⟩
    · rw [h_17]
      refine lv_if_ne (tgt := 28) hx hb dX11_log_23 rfl (fun c_21 => absurd c_21 (by decide +kernel)) (fun c_21 => ?_)
      refine lv_iconst (v := (-1)) hx hb dX11_log_26 kc_iconst_m1 ?_
      have hK9 := hK.sub (tys' := []) [] rfl
      exact W.iret (v := (-1)) hx hb hr (fun t ht hW => ⟨⟨(-1), (), rfl, (Or.inl rfl), by rw [ht]; exact hP, va_K.moved hW.alike hK9, hD⟩, hS.F ht⟩) hS.2.2 dX11_log_27
    · rw [h_19]
      refine lv_if_ne (tgt := 28) hx hb dX11_log_23 rfl (fun c_22 => ?_) (fun c_22 => absurd c_22 (by decide +kernel))
      refine lv_aload_n hx hb dX11_log_28 rfl (lv_at hl 0 rfl) ?_
      refine va_get (D := (dC, dI)) (ci := 11) (v := .ref h0_9) (C := RX11) (T := TX11) (N := 16) hx hb hts iw_c_X11_log_X11 hown hK hP 0 rfl rfl 9 (by decide +kernel) (hts (.fieldLink RX11 62 "BuoyVote" "history" "LBuoyVote$History;") (List.mem_of_getElem? (i := 16) rfl)) (fun _ h9 => h9) rfl dX11_log_29 ?_
      refine lv_aload_n hx hb dX11_log_32 rfl (lv_at hl 0 rfl) ?_
      refine va_get (D := (dC, dI)) (ci := 11) (v := .ref h0_7) (C := RX11) (T := TX11) (N := 16) hx hb hts iw_c_X11_log_X11 hown hK hP 0 rfl rfl 7 (by decide +kernel) (hts (.fieldLink RX11 52 "BuoyVote" "now" "LBuoyVote$Sea;") (List.mem_of_getElem? (i := 1) rfl)) (fun _ h9 => h9) rfl dX11_log_33 ?_
      refine va_get (D := (dC, dI)) (ci := 7) (v := .int h0_7_f3) (C := RX7) (T := TX7) (N := 13) hx hb hts iw_c_X11_log_X7 hown hK hP 1 rfl rfl 3 (by decide +kernel) (hts (.fieldLink RX11 288 "BuoyVote$Sea" "logged" "I") (List.mem_of_getElem? (i := 17) rfl)) (fun _ h9 => h9) rfl dX11_log_36 ?_
      refine lv_iconst (v := 1) hx hb dX11_log_39 kc_iconst_1 ?_
      as_aux_lemma =>
      refine lv_isub hx hb dX11_log_40 ?_
      refine lv_topi (fun x_23 ex_23 => ?_)
      have g_24 : RG x_23 (-1) 9998 := RG_sub ex_23 g_h0_7_f3 (RG_k 1 1 rfl) (by decide +kernel)
      refine lv_iload_n hx hb dX11_log_41 rfl (lv_at hl 1 rfl) ?_
      refine lv_isub hx hb dX11_log_42 ?_
      refine lv_topi (fun x_25 ex_25 => ?_)
      have g_26 : RG x_25 0 9998 := RG_subd ex_25 g_24 h_10 (c := 0) (by have := h_12; have := eq_add (RG_sc (d := (-1)) ex_4 rfl) g_14 (q := (-1)) rfl (by decide +kernel); have := h_3; have := eq_add (RG_sc (d := (-1)) ex_23 rfl) g_h0_7_f3 (q := (-1)) rfl (by decide +kernel); have := (g_24).1; have := (h_10).2; omega) (by decide +kernel)
      refine lv_iload_n hx hb dX11_log_43 rfl (lv_at hl 2 rfl) ?_
      obtain ⟨hPc, hDc, hFc, hqc⟩ := cl_cut (wc := (wd_c_X3_logged h0_9 h0_9_0 h0_9_f1 h0_9_f2 h0_9_3 h0_9_4 h0_9_5 h0_9_f6 h0_9_3 h0_9_3k h0_9_3c)) hP hD hS hA [2, 3] (by decide +kernel) rfl
      have hKc := hK.sub (tys' := [(h0_9_3k, .int)]) [0] rfl
      have hrv := va_recv hKc hPc (ci := 3) (q0 := 0) rfl rfl
      refine va_calli (va_runV (As := [.int x_25, .int p2]) (rest := []) ⟨hx, hb, hml, hown, hts⟩ (c_X3_logged l dC dI H.size h0_9 x_25 p2 h0_9_0 h0_9_f1 h0_9_f2 h0_9_3 h0_9_4 h0_9_5 h0_9_f6 h0_9_3k h0_9_3c (RG_w g_26 (by decide +kernel)) h_20 g_h0_9_f1 g_h0_9_f2 g_h0_9_f6) (cwV 2 hts gf_c_X11_log_c_X3_logged rfl rfl rfl mdV_X3_logged ⟨Nat.le_of_ble_eq_true rfl, Nat.le_of_ble_eq_true rfl⟩) ⟨fun a U g mk q => by obtain ⟨q0, q1, qP, qK, qD⟩ := q; exact ⟨q0, q1, qP, va_K.moved (u := U) (U := U.calling g mk a) (Vm.Alike.refl U.vm) qK, qD⟩, hrv, fun U hU hW => ⟨rfl, by rw [hU], by rw [hU]; exact hPc, va_K.moved hW.alike hKc, hDc.weaken (fun _ _ _ _ => trivial)⟩⟩ rfl rfl hl.1 rfl (lv_room (Nat.le_of_ble_eq_true rfl)) dX11_log_44 ⟨Nat.le_of_ble_eq_true rfl, Nat.le_of_ble_eq_true rfl⟩) hS (fun q _ h => hFc q h) hFc (fun r_27 u t H1 locs ht hvm hw hB hz1 hk1 hS => ?_)
      obtain ⟨hP1, hK1, hD1⟩ := hB
      rw [ht] at hP1
      obtain ⟨hP, hD⟩ := cl_put (w1 := (wd_c_X3_logged h0_9 h0_9_0 h0_9_f1 h0_9_f2 h0_9_3 h0_9_4 h0_9_5 h0_9_f6 h0_9_3 h0_9_3k h0_9_3c)) (nw := (wd_c_X11_log h0 h0_0 h0_1 h0_2 h0_3 h0_4 h0_f5 h0_6 h0_7 h0_8 h0_9 h0_10 h0_11 h0_12 h0_13 h0_14 h0_f15 h0_7 h0_7_f0 h0_7_f1 h0_7_f2 h0_7_f3 h0_7_4 h0_7_5 h0_7_6 h0_7_7 h0_7_8 h0_7_9 h0_7_10 h0_7_11 h0_7_12 h0_9 h0_9_0 h0_9_f1 h0_9_f2 h0_9_3 h0_9_4 h0_9_5 h0_9_f6 h0_9_3 h0_9_3k h0_9_3c)) hP hD [2, 3] [0, 1, 4, 5] 4 rfl hqc (by decide +kernel) rfl hk1 hFc hP1 hD1
      generalize H1 = H at hP hS ⊢
      as_aux_lemma =>
      have h_28 := hw
      have hK9 := hK.sub (tys' := []) [] rfl
      exact W.iret (v := r_27) hx hb hr (fun t ht hW => ⟨⟨r_27, (), rfl, (Or.inr ⟨h_28, h_10, h_20⟩), by rw [ht]; exact hP, va_K.moved hW.alike hK9, hD⟩, hS.F ht⟩) hS.2.2 dX11_log_47
noncomputable def wd_c_X11_isPlan (a0 : Nat) (a1 : Nat) (a2 : Nat) (a3 : Nat) (a4 : Nat) (a5 : Nat) (a6 : Int32) (a7 : Nat) (a8 : Nat) (a9 : Nat) (a10 : Nat) (a11 : Nat) (a12 : Nat) (a13 : Nat) (a14 : Nat) (a15 : Nat) (a16 : Int64) : va_W := [(a0, .inr (11, [.ref a1, .ref a2, .ref a3, .ref a4, .ref a5, .int a6, .ref a7, .ref a8, .ref a9, .ref a10, .ref a11, .ref a12, .ref a13, .ref a14, .ref a15, .long a16]))]
noncomputable def wf_c_X11_isPlan : List Cond := List.cons (.code yX11_isPlan cX11_isPlan 2 (some .boolean)) (@HAppend.hAppend (List Cond) (List Cond) (List Cond) _ [.fieldLink RX11 126 "BuoyVote" "planCount" "I"] wsX110)
theorem iw_c_X11_isPlan_X11 : ∀ w ∈ wsX110, w ∈ wf_c_X11_isPlan := fun w h => List.mem_cons_of_mem _ (List.mem_append_right _ h)
set_option maxHeartbeats 4000000 in
set_option maxRecDepth 100000 in
theorem c_X11_isPlan (l : Launch) (dC : Nat → ClassId) (dI : Nat → Nat → Nat) (sz : Nat) (h0 : Nat) (p1 : Int32) (h0_0 : Nat) (h0_1 : Nat) (h0_2 : Nat) (h0_3 : Nat) (h0_4 : Nat) (h0_f5 : Int32) (h0_6 : Nat) (h0_7 : Nat) (h0_8 : Nat) (h0_9 : Nat) (h0_10 : Nat) (h0_11 : Nat) (h0_12 : Nat) (h0_13 : Nat) (h0_14 : Nat) (h0_f15 : Int64) (g_h0_f5 : RG h0_f5 0 4) : Met l yX11_isPlan wf_c_X11_isPlan ({ frames := 0, cells := 0, slots := 0, locals := 0 }) (va_Pc [.ref h0, .int p1] (fun U => U.heap.size = sz ∧ va_P (dC, dI) vwCl (wd_c_X11_isPlan h0 h0_0 h0_1 h0_2 h0_3 h0_4 h0_f5 h0_6 h0_7 h0_8 h0_9 h0_10 h0_11 h0_12 h0_13 h0_14 h0_f15) U.heap ∧ va_K (dC, dI) vwCl [] U ∧ va_D (fun _ => True) (wd_c_X11_isPlan h0 h0_0 h0_1 h0_2 h0_3 h0_4 h0_f5 h0_6 h0_7 h0_8 h0_9 h0_10 h0_11 h0_12 h0_13 h0_14 h0_f15))) (va_Qi (fun (r : Int32) (u : Unit) => (r = 0 ∧ RG p1 (-2147483648) 2147483647) ∨ (r = 1 ∧ RG h0_f5 1 4 ∧ RG p1 0 3)) (fun (u : Unit) t => va_P (dC, dI) vwCl (wd_c_X11_isPlan h0 h0_0 h0_1 h0_2 h0_3 h0_4 h0_f5 h0_6 h0_7 h0_8 h0_9 h0_10 h0_11 h0_12 h0_13 h0_14 h0_f15) t.heap ∧ va_K (dC, dI) vwCl [] t ∧ va_D (va_A (wd_c_X11_isPlan h0 h0_0 h0_1 h0_2 h0_3 h0_4 h0_f5 h0_6 h0_7 h0_8 h0_9 h0_10 h0_11 h0_12 h0_13 h0_14 h0_f15) sz) (wd_c_X11_isPlan h0 h0_0 h0_1 h0_2 h0_3 h0_4 h0_f5 h0_6 h0_7 h0_8 h0_9 h0_10 h0_11 h0_12 h0_13 h0_14 h0_f15)) (va_A (wd_c_X11_isPlan h0 h0_0 h0_1 h0_2 h0_3 h0_4 h0_f5 h0_6 h0_7 h0_8 h0_9 h0_10 h0_11 h0_12 h0_13 h0_14 h0_f15) sz)) 0 0 (va_A (wd_c_X11_isPlan h0 h0_0 h0_1 h0_2 h0_3 h0_4 h0_f5 h0_6 h0_7 h0_8 h0_9 h0_10 h0_11 h0_12 h0_13 h0_14 h0_f15) sz) := by
  refine Met.ofW (cc := cX11_isPlan) (maxL := 2) (ret := (some .boolean)) (by decide +kernel) rfl ?_
  intro p e s m args below meth c s₁ B hml hv
  obtain ⟨rfl, hsz, hP, hK, hD0⟩ := hv
  have hx := B.exec
  have hb := B.bytes
  have hr := B.returns
  have hts := atoms_spec (ws := wf_c_X11_isPlan) B.pre
  have hown : s.vm.findClass RX11 = some m.cls := findClass_of_methodNamed B.named
  have hlocks := B.notSynchronized
  subst hsz
  have hD := hD0.self (sz := s.heap.size)
  generalize hAe : va_A (wd_c_X11_isPlan h0 h0_0 h0_1 h0_2 h0_3 h0_4 h0_f5 h0_6 h0_7 h0_8 h0_9 h0_10 h0_11 h0_12 h0_13 h0_14 h0_f15) s.heap.size = A at hD ⊢
  have hA : ∀ q : Nat, s.heap.size ≤ q → A q := fun q h => by rw [← hAe]; exact Or.inr h
  have hP : va_P (dC, dI) vwCl (wd_c_X11_isPlan h0 h0_0 h0_1 h0_2 h0_3 h0_4 h0_f5 h0_6 h0_7 h0_8 h0_9 h0_10 h0_11 h0_12 h0_13 h0_14 h0_f15) s.heap := hP
  have hl := lv_entry ([.ref h0, .int p1]) (n := 2) (Nat.le_of_ble_eq_true rfl)
  rw [lg_entry_eq]
  generalize (lg_sl ([.ref h0, .int p1]) ++ List.replicate (2 - (lg_sl ([.ref h0, .int p1])).length) Slot.unset).toArray = ls at hl ⊢
  have hl : lv_has ls 2 [(0, .ref h0), (1, .int p1)] := hl
  obtain ⟨H, hHe⟩ : ∃ H : Heap, s.heap = H := ⟨_, rfl⟩
  have hS : va_S A s.heap H [] := by rw [hHe]; exact va_S.rf
  have hP : va_P (dC, dI) vwCl (wd_c_X11_isPlan h0 h0_0 h0_1 h0_2 h0_3 h0_4 h0_f5 h0_6 h0_7 h0_8 h0_9 h0_10 h0_11 h0_12 h0_13 h0_14 h0_f15) H := by rw [← hHe]; exact hP
  rw [hHe]
  refine lv_iload_n hx hb dX11_isPlan_0 rfl (lv_at hl 1 rfl) ?_
  as_aux_lemma =>
  refine lv_if_lt (tgt := 16) hx hb dX11_isPlan_1 rfl (fun c_1 => ?_) (fun c_1 => ?_)
  · have g_2 : RG p1 (-2147483648) (-1) := RG_lt1 (RG_any p1) (RG_k 0 0 rfl) c_1 (by decide +kernel)
    refine lv_iconst (v := 0) hx hb dX11_isPlan_16 kc_iconst_0 ?_
    have hK9 := hK.sub (tys' := []) [] rfl
    exact W.zret (v := 0) hx hb hr rfl (fun t ht hW => ⟨⟨0, (), rfl, (Or.inl ⟨rfl, (RG_w g_2 (by decide +kernel))⟩), by rw [ht]; exact hP, va_K.moved hW.alike hK9, hD⟩, hS.F ht⟩) hS.2.2 dX11_isPlan_17
  · have d_3 := Int32.not_lt.mp c_1
    have g_4 : RG p1 0 2147483647 := RG_le2 (RG_k 0 0 rfl) (RG_any p1) d_3 (by decide +kernel)
    refine lv_iload_n hx hb dX11_isPlan_4 rfl (lv_at hl 1 rfl) ?_
    refine lv_aload_n hx hb dX11_isPlan_5 rfl (lv_at hl 0 rfl) ?_
    refine va_get (D := (dC, dI)) (ci := 11) (v := .int h0_f5) (C := RX11) (T := TX11) (N := 16) hx hb hts iw_c_X11_isPlan_X11 hown hK hP 0 rfl rfl 5 (by decide +kernel) (hts (.fieldLink RX11 126 "BuoyVote" "planCount" "I") (List.mem_of_getElem? (i := 1) rfl)) (fun _ h9 => h9) rfl dX11_isPlan_6 ?_
    refine lv_icmp_ge (tgt := 16) hx hb dX11_isPlan_9 rfl (fun c_5 => ?_) (fun c_5 => ?_)
    · refine lv_iconst (v := 0) hx hb dX11_isPlan_16 kc_iconst_0 ?_
      have hK9 := hK.sub (tys' := []) [] rfl
      exact W.zret (v := 0) hx hb hr rfl (fun t ht hW => ⟨⟨0, (), rfl, (Or.inl ⟨rfl, (RG_w g_4 (by decide +kernel))⟩), by rw [ht]; exact hP, va_K.moved hW.alike hK9, hD⟩, hS.F ht⟩) hS.2.2 dX11_isPlan_17
    · have d_6 := Int32.not_le.mp c_5
      have g_7 : RG p1 0 3 := RG_lt1 g_4 g_h0_f5 d_6 (by decide +kernel)
      have g_8 : RG h0_f5 1 4 := RG_lt2 g_4 g_h0_f5 d_6 (by decide +kernel)
      refine lv_iconst (v := 1) hx hb dX11_isPlan_12 kc_iconst_1 ?_
      as_aux_lemma =>
      refine lv_goto (tgt := 17) hx hb dX11_isPlan_13 rfl ?_
      have hK9 := hK.sub (tys' := []) [] rfl
      exact W.zret (v := 1) hx hb hr rfl (fun t ht hW => ⟨⟨1, (), rfl, (Or.inr ⟨rfl, g_8, g_7⟩), by rw [ht]; exact hP, va_K.moved hW.alike hK9, hD⟩, hS.F ht⟩) hS.2.2 dX11_isPlan_17
noncomputable def wf_c_X11_isWithin_7 : List Cond := .code yX11_isWithin cX11_isWithin 3 (some .boolean) :: ([])
set_option maxHeartbeats 4000000 in
set_option maxRecDepth 100000 in
theorem c_X11_isWithin_7 (l : Launch) (dC : Nat → ClassId) (dI : Nat → Nat → Nat) (sz : Nat) (p0 : Int32) (p2 : Int32) (g_p2 : RG p2 (-1) 15) : Met l yX11_isWithin wf_c_X11_isWithin_7 ({ frames := 0, cells := 0, slots := 0, locals := 0 }) (va_Pc [.int p0, .int 0, .int p2] (fun U => U.heap.size = sz ∧ va_P (dC, dI) vwCl [] U.heap ∧ va_K (dC, dI) vwCl [] U ∧ va_D (fun _ => True) [])) (va_Qi (fun (r : Int32) (u : Unit) => (r = 0 ∧ RG p0 (-2147483648) 2147483647) ∨ (r = 1 ∧ RG p0 0 15 ∧ RG p2 0 15 ∧ p0.toInt ≤ p2.toInt + 0)) (fun (u : Unit) t => va_P (dC, dI) vwCl [] t.heap ∧ va_K (dC, dI) vwCl [] t ∧ va_D (va_A [] sz) []) (va_A [] sz)) 0 0 (va_A [] sz) := by
  refine Met.ofW (cc := cX11_isWithin) (maxL := 3) (ret := (some .boolean)) (by decide +kernel) rfl ?_
  intro p e s m args below meth c s₁ B hml hv
  obtain ⟨rfl, hsz, hP, hK, hD0⟩ := hv
  have hx := B.exec
  have hb := B.bytes
  have hr := B.returns
  have hts := atoms_spec (ws := wf_c_X11_isWithin_7) B.pre
  have hown : s.vm.findClass RX11 = some m.cls := findClass_of_methodNamed B.named
  have hlocks := B.notSynchronized
  subst hsz
  have hD := hD0.self (sz := s.heap.size)
  generalize hAe : va_A [] s.heap.size = A at hD ⊢
  have hA : ∀ q : Nat, s.heap.size ≤ q → A q := fun q h => by rw [← hAe]; exact Or.inr h
  have hP : va_P (dC, dI) vwCl [] s.heap := hP
  have hl := lv_entry ([.int p0, .int 0, .int p2]) (n := 3) (Nat.le_of_ble_eq_true rfl)
  rw [lg_entry_eq]
  generalize (lg_sl ([.int p0, .int 0, .int p2]) ++ List.replicate (3 - (lg_sl ([.int p0, .int 0, .int p2])).length) Slot.unset).toArray = ls at hl ⊢
  have hl : lv_has ls 3 [(0, .int p0), (1, .int 0), (2, .int p2)] := hl
  obtain ⟨H, hHe⟩ : ∃ H : Heap, s.heap = H := ⟨_, rfl⟩
  have hS : va_S A s.heap H [] := by rw [hHe]; exact va_S.rf
  have hP : va_P (dC, dI) vwCl [] H := by rw [← hHe]; exact hP
  rw [hHe]
  refine lv_iload_n hx hb dX11_isWithin_0 rfl (lv_at hl 0 rfl) ?_
  as_aux_lemma =>
  refine lv_iload_n hx hb dX11_isWithin_1 rfl (lv_at hl 1 rfl) ?_
  refine lv_icmp_lt (tgt := 14) hx hb dX11_isWithin_2 rfl (fun c_1 => ?_) (fun c_1 => ?_)
  · have g_2 : RG p0 (-2147483648) (-1) := RG_lt1 (RG_any p0) (RG_k 0 0 rfl) c_1 (by decide +kernel)
    refine lv_iconst (v := 0) hx hb dX11_isWithin_14 kc_iconst_0 ?_
    have hK9 := hK.sub (tys' := []) [] rfl
    exact W.zret (v := 0) hx hb hr rfl (fun t ht hW => ⟨⟨0, (), rfl, (Or.inl ⟨rfl, (RG_w g_2 (by decide +kernel))⟩), by rw [ht]; exact hP, va_K.moved hW.alike hK9, hD⟩, hS.F ht⟩) hS.2.2 dX11_isWithin_15
  · have d_3 := Int32.not_lt.mp c_1
    have g_4 : RG p0 0 2147483647 := RG_le2 (RG_k 0 0 rfl) (RG_any p0) d_3 (by decide +kernel)
    refine lv_iload_n hx hb dX11_isWithin_5 rfl (lv_at hl 0 rfl) ?_
    refine lv_iload_n hx hb dX11_isWithin_6 rfl (lv_at hl 2 rfl) ?_
    refine lv_icmp_gt (tgt := 14) hx hb dX11_isWithin_7 rfl (fun c_5 => ?_) (fun c_5 => ?_)
    · have b_6 : p2.toInt ≤ p0.toInt + (-1) := by have := Int32.lt_iff_toInt_lt.mp c_5; omega
      refine lv_iconst (v := 0) hx hb dX11_isWithin_14 kc_iconst_0 ?_
      have hK9 := hK.sub (tys' := []) [] rfl
      exact W.zret (v := 0) hx hb hr rfl (fun t ht hW => ⟨⟨0, (), rfl, (Or.inl ⟨rfl, (RG_w g_4 (by decide +kernel))⟩), by rw [ht]; exact hP, va_K.moved hW.alike hK9, hD⟩, hS.F ht⟩) hS.2.2 dX11_isWithin_15
    · have d_7 := Int32.not_lt.mp c_5
      have b_8 : p0.toInt ≤ p2.toInt + 0 := by have := Int32.le_iff_toInt_le.mp d_7; omega
      have g_9 : RG p0 0 15 := RG_le1 g_4 g_p2 d_7 (by decide +kernel)
      have g_10 : RG p2 0 15 := RG_le2 g_4 g_p2 d_7 (by decide +kernel)
      refine lv_iconst (v := 1) hx hb dX11_isWithin_10 kc_iconst_1 ?_
      as_aux_lemma =>
      refine lv_goto (tgt := 15) hx hb dX11_isWithin_11 rfl ?_
      have hK9 := hK.sub (tys' := []) [] rfl
      exact W.zret (v := 1) hx hb hr rfl (fun t ht hW => ⟨⟨1, (), rfl, (Or.inr ⟨rfl, g_9, g_10, (by have := b_8; have := (g_9).2; have := (g_10).1; show p0.toInt ≤ p2.toInt + 0; omega)⟩), by rw [ht]; exact hP, va_K.moved hW.alike hK9, hD⟩, hS.F ht⟩) hS.2.2 dX11_isWithin_15
noncomputable def wd_c_X6_part (a0 : Nat) (a1 : Nat) (a2 : Int32) (a3 : Nat) (a4 : ClassId) (a5 : Nat → Int32) : va_W := [(a0, .inr (6, [.ref a1, .int a2])), (a3, .inl (a4, 64, .inl a5))]
noncomputable def wf_c_X6_part : List Cond := List.cons (.code yX6_part cX6_part 3 (some .int)) (@HAppend.hAppend (List Cond) (List Cond) (List Cond) _ [.fieldLink RX6 11 "BuoyVote$Plan" "cells" "[I"] wsX60)
theorem iw_c_X6_part_X6 : ∀ w ∈ wsX60, w ∈ wf_c_X6_part := fun w h => List.mem_cons_of_mem _ (List.mem_append_right _ h)
set_option maxHeartbeats 4000000 in
set_option maxRecDepth 100000 in
theorem c_X6_part (l : Launch) (dC : Nat → ClassId) (dI : Nat → Nat → Nat) (sz : Nat) (h0 : Nat) (p1 : Int32) (p2 : Int32) (h0_0 : Nat) (h0_f1 : Int32) (h0_0k : ClassId) (h0_0c : Nat → Int32) (g_p1 : RG p1 0 15) (g_p2 : RG p2 0 3) (g_h0_f1 : RG h0_f1 0 16) (a_h0_0c : AI h0_0c (-1) 9) : Met l yX6_part wf_c_X6_part ({ frames := 0, cells := 0, slots := 0, locals := 0 }) (va_Pc [.ref h0, .int p1, .int p2] (fun U => U.heap.size = sz ∧ va_P (dC, dI) vwCl (wd_c_X6_part h0 h0_0 h0_f1 h0_0 h0_0k h0_0c) U.heap ∧ va_K (dC, dI) vwCl [(h0_0k, .int)] U ∧ va_D (fun _ => True) (wd_c_X6_part h0 h0_0 h0_f1 h0_0 h0_0k h0_0c))) (va_Qi (fun (r : Int32) (u : Unit) => (RG r (-1) 9 ∧ r = h0_0c (p1 * 4 + p2).toNatClampNeg)) (fun (u : Unit) t => va_P (dC, dI) vwCl (wd_c_X6_part h0 h0_0 h0_f1 h0_0 h0_0k h0_0c) t.heap ∧ va_K (dC, dI) vwCl [] t ∧ va_D (va_A (wd_c_X6_part h0 h0_0 h0_f1 h0_0 h0_0k h0_0c) sz) (wd_c_X6_part h0 h0_0 h0_f1 h0_0 h0_0k h0_0c)) (va_A (wd_c_X6_part h0 h0_0 h0_f1 h0_0 h0_0k h0_0c) sz)) 0 0 (va_A (wd_c_X6_part h0 h0_0 h0_f1 h0_0 h0_0k h0_0c) sz) := by
  refine Met.ofW (cc := cX6_part) (maxL := 3) (ret := (some .int)) (by decide +kernel) rfl ?_
  intro p e s m args below meth c s₁ B hml hv
  obtain ⟨rfl, hsz, hP, hK, hD0⟩ := hv
  have hx := B.exec
  have hb := B.bytes
  have hr := B.returns
  have hts := atoms_spec (ws := wf_c_X6_part) B.pre
  have hown : s.vm.findClass RX6 = some m.cls := findClass_of_methodNamed B.named
  have hlocks := B.notSynchronized
  subst hsz
  have hD := hD0.self (sz := s.heap.size)
  generalize hAe : va_A (wd_c_X6_part h0 h0_0 h0_f1 h0_0 h0_0k h0_0c) s.heap.size = A at hD ⊢
  have hA : ∀ q : Nat, s.heap.size ≤ q → A q := fun q h => by rw [← hAe]; exact Or.inr h
  have hP : va_P (dC, dI) vwCl (wd_c_X6_part h0 h0_0 h0_f1 h0_0 h0_0k h0_0c) s.heap := hP
  have hl := lv_entry ([.ref h0, .int p1, .int p2]) (n := 3) (Nat.le_of_ble_eq_true rfl)
  rw [lg_entry_eq]
  generalize (lg_sl ([.ref h0, .int p1, .int p2]) ++ List.replicate (3 - (lg_sl ([.ref h0, .int p1, .int p2])).length) Slot.unset).toArray = ls at hl ⊢
  have hl : lv_has ls 3 [(0, .ref h0), (1, .int p1), (2, .int p2)] := hl
  obtain ⟨H, hHe⟩ : ∃ H : Heap, s.heap = H := ⟨_, rfl⟩
  have hS : va_S A s.heap H [] := by rw [hHe]; exact va_S.rf
  have hP : va_P (dC, dI) vwCl (wd_c_X6_part h0 h0_0 h0_f1 h0_0 h0_0k h0_0c) H := by rw [← hHe]; exact hP
  rw [hHe]
  refine lv_aload_n hx hb dX6_part_0 rfl (lv_at hl 0 rfl) ?_
  as_aux_lemma =>
  refine va_get (D := (dC, dI)) (ci := 6) (v := .ref h0_0) (C := RX6) (T := TX6) (N := 2) hx hb hts iw_c_X6_part_X6 hown hK hP 0 rfl rfl 0 (by decide +kernel) (hts (.fieldLink RX6 11 "BuoyVote$Plan" "cells" "[I") (List.mem_of_getElem? (i := 1) rfl)) (fun _ h9 => h9) rfl dX6_part_1 ?_
  refine lv_iload_n hx hb dX6_part_4 rfl (lv_at hl 1 rfl) ?_
  refine lv_iconst (v := 4) hx hb dX6_part_5 kc_iconst_4 ?_
  refine lv_imul hx hb dX6_part_6 ?_
  refine lv_topi (fun x_1 ex_1 => ?_)
  have g_2 : RG x_1 0 60 := RG_mulc ex_1 (q := 4) rfl g_p1 (by decide +kernel)
  refine lv_iload_n hx hb dX6_part_7 rfl (lv_at hl 2 rfl) ?_
  refine lv_iadd hx hb dX6_part_8 ?_
  refine lv_topi (fun x_3 ex_3 => ?_)
  have g_4 : RG x_3 0 63 := RG_add ex_3 g_2 g_p2 (by decide +kernel)
  refine va_iald hx hb hK hP 1 0 rfl rfl (RG_in g_4 (by decide +kernel)) dX6_part_9 ?_
  refine lv_topi (fun x_5 ex_5 => ?_)
  have g_6 : RG x_5 (-1) 9 := AI_rd a_h0_0c ex_5
  have hK9 := hK.sub (tys' := []) [] rfl
  exact W.iret (v := x_5) hx hb hr (fun t ht hW => ⟨⟨x_5, (), rfl, ⟨g_6, (by rw [ex_5, ex_3, ex_1])⟩, by rw [ht]; exact hP, va_K.moved hW.alike hK9, hD⟩, hS.F ht⟩) hS.2.2 dX6_part_10
noncomputable def wd_c_X11_step (a0 : Nat) (a1 : Nat) (a2 : Nat) (a3 : Nat) (a4 : Nat) (a5 : Nat) (a6 : Int32) (a7 : Nat) (a8 : Nat) (a9 : Nat) (a10 : Nat) (a11 : Nat) (a12 : Nat) (a13 : Nat) (a14 : Nat) (a15 : Nat) (a16 : Int64) (a17 : Nat) (a18 : ClassId) (a19 : Nat → Option Nat) (a20 : Nat) (a21 : Nat) (a22 : Int32) (a23 : Nat) (a24 : ClassId) (a25 : Nat → Int32) (a26 : Nat) (a27 : Nat) (a28 : Int32) (a29 : Nat) (a30 : ClassId) (a31 : Nat → Int32) (a32 : Nat) (a33 : Nat) (a34 : Int32) (a35 : Nat) (a36 : ClassId) (a37 : Nat → Int32) (a38 : Nat) (a39 : Nat) (a40 : Int32) (a41 : Nat) (a42 : ClassId) (a43 : Nat → Int32) : va_W := [(a0, .inr (11, [.ref a1, .ref a2, .ref a3, .ref a4, .ref a5, .int a6, .ref a7, .ref a8, .ref a9, .ref a10, .ref a11, .ref a12, .ref a13, .ref a14, .ref a15, .long a16])), (a17, .inl (a18, 5, .inr (.inr (.inr (.inr a19))))), (a20, .inr (6, [.ref a21, .int a22])), (a23, .inl (a24, 64, .inl a25)), (a26, .inr (6, [.ref a27, .int a28])), (a29, .inl (a30, 64, .inl a31)), (a32, .inr (6, [.ref a33, .int a34])), (a35, .inl (a36, 64, .inl a37)), (a38, .inr (6, [.ref a39, .int a40])), (a41, .inl (a42, 64, .inl a43))]
noncomputable def wf_c_X11_step : List Cond := List.cons (.code yX11_step cX11_step 4 (some .int)) (@HAppend.hAppend (List Cond) (List Cond) (List Cond) _ (@HAppend.hAppend (List Cond) (List Cond) (List Cond) _ [.methodLink RX11 293 yX11_isPlan, .instanceMethod yX11_isPlan, .selects RX11 yX11_isPlan yX11_isPlan, .initialized RX11, .code yX11_isPlan cX11_isPlan 2 (some .boolean), .fieldLink RX11 126 "BuoyVote" "planCount" "I", .constant RX11 228 (-1000000), .fieldLink RX11 35 "BuoyVote" "plans" "[LBuoyVote$Plan;", .fieldLink RX11 296 "BuoyVote$Plan" "steps" "I", .methodLink RX11 111 yX11_isWithin, .static yX11_isWithin, .code yX11_isWithin cX11_isWithin 3 (some .boolean), .methodLink RX11 299 yX6_part, .instanceMethod yX6_part, .selects RX6 yX6_part yX6_part, .initialized RX6, .code yX6_part cX6_part 3 (some .int), .fieldLink RX6 11 "BuoyVote$Plan" "cells" "[I"] wsX110) wsX60)
theorem iw_c_X11_step_X11 : ∀ w ∈ wsX110, w ∈ wf_c_X11_step := fun w h => List.mem_cons_of_mem _ (List.mem_append_left _ (List.mem_append_right _ h))
theorem iw_c_X11_step_X6 : ∀ w ∈ wsX60, w ∈ wf_c_X11_step := fun w h => List.mem_cons_of_mem _ (List.mem_append_right _ h)
set_option maxRecDepth 20000 in
theorem gf_c_X11_step_c_X11_isPlan : GoodIn wf_c_X11_step (wsV RX11 293 RX11 yX11_isPlan wf_c_X11_isPlan) := goodIn_app (gi_l [1, 2, 3, 4] rfl rfl) (gi_cons (j := 5) rfl rfl (goodIn_app (gi_l [6] rfl rfl) (goodIn_sub iw_c_X11_step_X11 gw_X11)))
set_option maxRecDepth 20000 in
theorem gf_c_X11_step_c_X11_isWithin_7 : GoodIn wf_c_X11_step (va_wsS RX11 111 yX11_isWithin wf_c_X11_isWithin_7) := goodIn_app (gi_l [10, 11, 4] rfl rfl) (gi_cons (j := 12) rfl rfl gi_nil)
set_option maxRecDepth 20000 in
theorem gf_c_X11_step_c_X11_isWithin_3 : GoodIn wf_c_X11_step (va_wsS RX11 111 yX11_isWithin wf_c_X11_isWithin_3) := goodIn_app (gi_l [10, 11, 4] rfl rfl) (gi_cons (j := 12) rfl rfl gi_nil)
set_option maxRecDepth 20000 in
theorem gf_c_X11_step_c_X6_part : GoodIn wf_c_X11_step (wsV RX11 299 RX6 yX6_part wf_c_X6_part) := goodIn_app (gi_l [13, 14, 15, 16] rfl rfl) (gi_cons (j := 17) rfl rfl (goodIn_app (gi_l [18] rfl rfl) (goodIn_sub iw_c_X11_step_X6 gw_X6)))
set_option maxHeartbeats 4000000 in
set_option maxRecDepth 100000 in
theorem c_X11_step (l : Launch) (dC : Nat → ClassId) (dI : Nat → Nat → Nat) (sz : Nat) (h0 : Nat) (p1 : Int32) (p2 : Int32) (p3 : Int32) (h0_0 : Nat) (h0_1 : Nat) (h0_2 : Nat) (h0_3 : Nat) (h0_4 : Nat) (h0_f5 : Int32) (h0_6 : Nat) (h0_7 : Nat) (h0_8 : Nat) (h0_9 : Nat) (h0_10 : Nat) (h0_11 : Nat) (h0_12 : Nat) (h0_13 : Nat) (h0_14 : Nat) (h0_f15 : Int64) (h0_4k : ClassId) (h0_4c : Nat → Option Nat) (h0_4_e0 : Nat) (h0_4_e1 : Nat) (h0_4_e2 : Nat) (h0_4_e3 : Nat) (h0_4_e4 : Nat) (h0_4_e0_0 : Nat) (h0_4_e0_f1 : Int32) (h0_4_e0_0k : ClassId) (h0_4_e0_0c : Nat → Int32) (h0_4_e1_0 : Nat) (h0_4_e1_f1 : Int32) (h0_4_e1_0k : ClassId) (h0_4_e1_0c : Nat → Int32) (h0_4_e2_0 : Nat) (h0_4_e2_f1 : Int32) (h0_4_e2_0k : ClassId) (h0_4_e2_0c : Nat → Int32) (h0_4_e3_0 : Nat) (h0_4_e3_f1 : Int32) (h0_4_e3_0k : ClassId) (h0_4_e3_0c : Nat → Int32) (g_h0_f5 : RG h0_f5 0 4) (e_h0_4_e0 : h0_4c 0 = some h0_4_e0) (e_h0_4_e1 : h0_4c 1 = some h0_4_e1) (e_h0_4_e2 : h0_4c 2 = some h0_4_e2) (e_h0_4_e3 : h0_4c 3 = some h0_4_e3) (e_h0_4_e4 : h0_4c 4 = some h0_4_e4) (g_h0_4_e0_f1 : RG h0_4_e0_f1 0 16) (a_h0_4_e0_0c : AI h0_4_e0_0c (-1) 9) (g_h0_4_e1_f1 : RG h0_4_e1_f1 0 16) (a_h0_4_e1_0c : AI h0_4_e1_0c (-1) 9) (g_h0_4_e2_f1 : RG h0_4_e2_f1 0 16) (a_h0_4_e2_0c : AI h0_4_e2_0c (-1) 9) (g_h0_4_e3_f1 : RG h0_4_e3_f1 0 16) (a_h0_4_e3_0c : AI h0_4_e3_0c (-1) 9) : Met l yX11_step wf_c_X11_step ({ frames := 1, cells := 0, slots := 0, locals := 22 }) (va_Pc [.ref h0, .int p1, .int p2, .int p3] (fun U => U.heap.size = sz ∧ va_P (dC, dI) vwCl (wd_c_X11_step h0 h0_0 h0_1 h0_2 h0_3 h0_4 h0_f5 h0_6 h0_7 h0_8 h0_9 h0_10 h0_11 h0_12 h0_13 h0_14 h0_f15 h0_4 h0_4k h0_4c h0_4_e0 h0_4_e0_0 h0_4_e0_f1 h0_4_e0_0 h0_4_e0_0k h0_4_e0_0c h0_4_e1 h0_4_e1_0 h0_4_e1_f1 h0_4_e1_0 h0_4_e1_0k h0_4_e1_0c h0_4_e2 h0_4_e2_0 h0_4_e2_f1 h0_4_e2_0 h0_4_e2_0k h0_4_e2_0c h0_4_e3 h0_4_e3_0 h0_4_e3_f1 h0_4_e3_0 h0_4_e3_0k h0_4_e3_0c) U.heap ∧ va_K (dC, dI) vwCl [(h0_4k, .object RX6), (h0_4_e0_0k, .int), (h0_4_e1_0k, .int), (h0_4_e2_0k, .int), (h0_4_e3_0k, .int)] U ∧ va_D (fun _ => True) (wd_c_X11_step h0 h0_0 h0_1 h0_2 h0_3 h0_4 h0_f5 h0_6 h0_7 h0_8 h0_9 h0_10 h0_11 h0_12 h0_13 h0_14 h0_f15 h0_4 h0_4k h0_4c h0_4_e0 h0_4_e0_0 h0_4_e0_f1 h0_4_e0_0 h0_4_e0_0k h0_4_e0_0c h0_4_e1 h0_4_e1_0 h0_4_e1_f1 h0_4_e1_0 h0_4_e1_0k h0_4_e1_0c h0_4_e2 h0_4_e2_0 h0_4_e2_f1 h0_4_e2_0 h0_4_e2_0k h0_4_e2_0c h0_4_e3 h0_4_e3_0 h0_4_e3_f1 h0_4_e3_0 h0_4_e3_0k h0_4_e3_0c))) (va_Qi (fun (r : Int32) (u : Unit) => (r = (-1000000)) ∨ (RG r (-1) 9 ∧ RG h0_f5 1 4 ∧ RG p1 0 3 ∧ RG p2 0 15 ∧ RG p3 0 3)) (fun (u : Unit) t => va_P (dC, dI) vwCl (wd_c_X11_step h0 h0_0 h0_1 h0_2 h0_3 h0_4 h0_f5 h0_6 h0_7 h0_8 h0_9 h0_10 h0_11 h0_12 h0_13 h0_14 h0_f15 h0_4 h0_4k h0_4c h0_4_e0 h0_4_e0_0 h0_4_e0_f1 h0_4_e0_0 h0_4_e0_0k h0_4_e0_0c h0_4_e1 h0_4_e1_0 h0_4_e1_f1 h0_4_e1_0 h0_4_e1_0k h0_4_e1_0c h0_4_e2 h0_4_e2_0 h0_4_e2_f1 h0_4_e2_0 h0_4_e2_0k h0_4_e2_0c h0_4_e3 h0_4_e3_0 h0_4_e3_f1 h0_4_e3_0 h0_4_e3_0k h0_4_e3_0c) t.heap ∧ va_K (dC, dI) vwCl [] t ∧ va_D (va_A (wd_c_X11_step h0 h0_0 h0_1 h0_2 h0_3 h0_4 h0_f5 h0_6 h0_7 h0_8 h0_9 h0_10 h0_11 h0_12 h0_13 h0_14 h0_f15 h0_4 h0_4k h0_4c h0_4_e0 h0_4_e0_0 h0_4_e0_f1 h0_4_e0_0 h0_4_e0_0k h0_4_e0_0c h0_4_e1 h0_4_e1_0 h0_4_e1_f1 h0_4_e1_0 h0_4_e1_0k h0_4_e1_0c h0_4_e2 h0_4_e2_0 h0_4_e2_f1 h0_4_e2_0 h0_4_e2_0k h0_4_e2_0c h0_4_e3 h0_4_e3_0 h0_4_e3_f1 h0_4_e3_0 h0_4_e3_0k h0_4_e3_0c) sz) (wd_c_X11_step h0 h0_0 h0_1 h0_2 h0_3 h0_4 h0_f5 h0_6 h0_7 h0_8 h0_9 h0_10 h0_11 h0_12 h0_13 h0_14 h0_f15 h0_4 h0_4k h0_4c h0_4_e0 h0_4_e0_0 h0_4_e0_f1 h0_4_e0_0 h0_4_e0_0k h0_4_e0_0c h0_4_e1 h0_4_e1_0 h0_4_e1_f1 h0_4_e1_0 h0_4_e1_0k h0_4_e1_0c h0_4_e2 h0_4_e2_0 h0_4_e2_f1 h0_4_e2_0 h0_4_e2_0k h0_4_e2_0c h0_4_e3 h0_4_e3_0 h0_4_e3_f1 h0_4_e3_0 h0_4_e3_0k h0_4_e3_0c)) (va_A (wd_c_X11_step h0 h0_0 h0_1 h0_2 h0_3 h0_4 h0_f5 h0_6 h0_7 h0_8 h0_9 h0_10 h0_11 h0_12 h0_13 h0_14 h0_f15 h0_4 h0_4k h0_4c h0_4_e0 h0_4_e0_0 h0_4_e0_f1 h0_4_e0_0 h0_4_e0_0k h0_4_e0_0c h0_4_e1 h0_4_e1_0 h0_4_e1_f1 h0_4_e1_0 h0_4_e1_0k h0_4_e1_0c h0_4_e2 h0_4_e2_0 h0_4_e2_f1 h0_4_e2_0 h0_4_e2_0k h0_4_e2_0c h0_4_e3 h0_4_e3_0 h0_4_e3_f1 h0_4_e3_0 h0_4_e3_0k h0_4_e3_0c) sz)) 0 0 (va_A (wd_c_X11_step h0 h0_0 h0_1 h0_2 h0_3 h0_4 h0_f5 h0_6 h0_7 h0_8 h0_9 h0_10 h0_11 h0_12 h0_13 h0_14 h0_f15 h0_4 h0_4k h0_4c h0_4_e0 h0_4_e0_0 h0_4_e0_f1 h0_4_e0_0 h0_4_e0_0k h0_4_e0_0c h0_4_e1 h0_4_e1_0 h0_4_e1_f1 h0_4_e1_0 h0_4_e1_0k h0_4_e1_0c h0_4_e2 h0_4_e2_0 h0_4_e2_f1 h0_4_e2_0 h0_4_e2_0k h0_4_e2_0c h0_4_e3 h0_4_e3_0 h0_4_e3_f1 h0_4_e3_0 h0_4_e3_0k h0_4_e3_0c) sz) := by
  refine Met.ofW (cc := cX11_step) (maxL := 4) (ret := (some .int)) (by decide +kernel) rfl ?_
  intro p e s m args below meth c s₁ B hml hv
  obtain ⟨rfl, hsz, hP, hK, hD0⟩ := hv
  have hx := B.exec
  have hb := B.bytes
  have hr := B.returns
  have hts := atoms_spec (ws := wf_c_X11_step) B.pre
  have hown : s.vm.findClass RX11 = some m.cls := findClass_of_methodNamed B.named
  have hlocks := B.notSynchronized
  subst hsz
  have hD := hD0.self (sz := s.heap.size)
  generalize hAe : va_A (wd_c_X11_step h0 h0_0 h0_1 h0_2 h0_3 h0_4 h0_f5 h0_6 h0_7 h0_8 h0_9 h0_10 h0_11 h0_12 h0_13 h0_14 h0_f15 h0_4 h0_4k h0_4c h0_4_e0 h0_4_e0_0 h0_4_e0_f1 h0_4_e0_0 h0_4_e0_0k h0_4_e0_0c h0_4_e1 h0_4_e1_0 h0_4_e1_f1 h0_4_e1_0 h0_4_e1_0k h0_4_e1_0c h0_4_e2 h0_4_e2_0 h0_4_e2_f1 h0_4_e2_0 h0_4_e2_0k h0_4_e2_0c h0_4_e3 h0_4_e3_0 h0_4_e3_f1 h0_4_e3_0 h0_4_e3_0k h0_4_e3_0c) s.heap.size = A at hD ⊢
  have hA : ∀ q : Nat, s.heap.size ≤ q → A q := fun q h => by rw [← hAe]; exact Or.inr h
  have hP : va_P (dC, dI) vwCl (wd_c_X11_step h0 h0_0 h0_1 h0_2 h0_3 h0_4 h0_f5 h0_6 h0_7 h0_8 h0_9 h0_10 h0_11 h0_12 h0_13 h0_14 h0_f15 h0_4 h0_4k h0_4c h0_4_e0 h0_4_e0_0 h0_4_e0_f1 h0_4_e0_0 h0_4_e0_0k h0_4_e0_0c h0_4_e1 h0_4_e1_0 h0_4_e1_f1 h0_4_e1_0 h0_4_e1_0k h0_4_e1_0c h0_4_e2 h0_4_e2_0 h0_4_e2_f1 h0_4_e2_0 h0_4_e2_0k h0_4_e2_0c h0_4_e3 h0_4_e3_0 h0_4_e3_f1 h0_4_e3_0 h0_4_e3_0k h0_4_e3_0c) s.heap := hP
  have hl := lv_entry ([.ref h0, .int p1, .int p2, .int p3]) (n := 4) (Nat.le_of_ble_eq_true rfl)
  rw [lg_entry_eq]
  generalize (lg_sl ([.ref h0, .int p1, .int p2, .int p3]) ++ List.replicate (4 - (lg_sl ([.ref h0, .int p1, .int p2, .int p3])).length) Slot.unset).toArray = ls at hl ⊢
  have hl : lv_has ls 4 [(0, .ref h0), (1, .int p1), (2, .int p2), (3, .int p3)] := hl
  obtain ⟨H, hHe⟩ : ∃ H : Heap, s.heap = H := ⟨_, rfl⟩
  have hS : va_S A s.heap H [] := by rw [hHe]; exact va_S.rf
  have hP : va_P (dC, dI) vwCl (wd_c_X11_step h0 h0_0 h0_1 h0_2 h0_3 h0_4 h0_f5 h0_6 h0_7 h0_8 h0_9 h0_10 h0_11 h0_12 h0_13 h0_14 h0_f15 h0_4 h0_4k h0_4c h0_4_e0 h0_4_e0_0 h0_4_e0_f1 h0_4_e0_0 h0_4_e0_0k h0_4_e0_0c h0_4_e1 h0_4_e1_0 h0_4_e1_f1 h0_4_e1_0 h0_4_e1_0k h0_4_e1_0c h0_4_e2 h0_4_e2_0 h0_4_e2_f1 h0_4_e2_0 h0_4_e2_0k h0_4_e2_0c h0_4_e3 h0_4_e3_0 h0_4_e3_f1 h0_4_e3_0 h0_4_e3_0k h0_4_e3_0c) H := by rw [← hHe]; exact hP
  rw [hHe]
  refine lv_aload_n hx hb dX11_step_0 rfl (lv_at hl 0 rfl) ?_
  as_aux_lemma =>
  refine lv_iload_n hx hb dX11_step_1 rfl (lv_at hl 1 rfl) ?_
  obtain ⟨hPc, hDc, hFc, hqc⟩ := cl_cut (wc := (wd_c_X11_isPlan h0 h0_0 h0_1 h0_2 h0_3 h0_4 h0_f5 h0_6 h0_7 h0_8 h0_9 h0_10 h0_11 h0_12 h0_13 h0_14 h0_f15)) hP hD hS hA [0] (by decide +kernel) rfl
  have hKc := hK.sub (tys' := []) [] rfl
  have hrv := va_recv hKc hPc (ci := 11) (q0 := 0) rfl rfl
  refine va_calli (va_runV (As := [.int p1]) (rest := []) ⟨hx, hb, hml, hown, hts⟩ (c_X11_isPlan l dC dI H.size h0 p1 h0_0 h0_1 h0_2 h0_3 h0_4 h0_f5 h0_6 h0_7 h0_8 h0_9 h0_10 h0_11 h0_12 h0_13 h0_14 h0_f15 g_h0_f5) (cwV 1 hts gf_c_X11_step_c_X11_isPlan rfl rfl rfl mdV_X11_isPlan ⟨Nat.le_of_ble_eq_true rfl, Nat.le_of_ble_eq_true rfl⟩) ⟨fun a U g mk q => by obtain ⟨q0, q1, qP, qK, qD⟩ := q; exact ⟨q0, q1, qP, va_K.moved (u := U) (U := U.calling g mk a) (Vm.Alike.refl U.vm) qK, qD⟩, hrv, fun U hU hW => ⟨rfl, by rw [hU], by rw [hU]; exact hPc, va_K.moved hW.alike hKc, hDc.weaken (fun _ _ _ _ => trivial)⟩⟩ rfl rfl hl.1 rfl (lv_room (Nat.le_of_ble_eq_true rfl)) dX11_step_2 ⟨Nat.le_of_ble_eq_true rfl, Nat.le_of_ble_eq_true rfl⟩) hS (fun q _ h => hFc q h) hFc (fun r_1 u t H1 locs ht hvm hw hB hz1 hk1 hS => ?_)
  obtain ⟨hP1, hK1, hD1⟩ := hB
  rw [ht] at hP1
  obtain ⟨hP, hD⟩ := cl_put (w1 := (wd_c_X11_isPlan h0 h0_0 h0_1 h0_2 h0_3 h0_4 h0_f5 h0_6 h0_7 h0_8 h0_9 h0_10 h0_11 h0_12 h0_13 h0_14 h0_f15)) (nw := (wd_c_X11_step h0 h0_0 h0_1 h0_2 h0_3 h0_4 h0_f5 h0_6 h0_7 h0_8 h0_9 h0_10 h0_11 h0_12 h0_13 h0_14 h0_f15 h0_4 h0_4k h0_4c h0_4_e0 h0_4_e0_0 h0_4_e0_f1 h0_4_e0_0 h0_4_e0_0k h0_4_e0_0c h0_4_e1 h0_4_e1_0 h0_4_e1_f1 h0_4_e1_0 h0_4_e1_0k h0_4_e1_0c h0_4_e2 h0_4_e2_0 h0_4_e2_f1 h0_4_e2_0 h0_4_e2_0k h0_4_e2_0c h0_4_e3 h0_4_e3_0 h0_4_e3_f1 h0_4_e3_0 h0_4_e3_0k h0_4_e3_0c)) hP hD [0] [10, 1, 2, 3, 4, 5, 6, 7, 8, 9] 10 rfl hqc (by decide +kernel) rfl hk1 hFc hP1 hD1
  generalize H1 = H at hP hS ⊢
  as_aux_lemma =>
  rcases hw with ⟨h_2, h_3⟩ | ⟨h_4, h_5, h_6⟩
  · rw [h_2]
    refine lv_if_eq (tgt := 36) hx hb dX11_step_5 rfl (fun c_7 => ?_) (fun c_7 => absurd c_7 (by decide +kernel))
    refine lv_ldc hx hb hown (hts (.constant RX11 228 (-1000000)) (List.mem_of_getElem? (i := 7) rfl)) dX11_step_36 ?_
    have hK9 := hK.sub (tys' := []) [] rfl
    exact W.iret (v := (-1000000)) hx hb hr (fun t ht hW => ⟨⟨(-1000000), (), rfl, (Or.inl rfl), by rw [ht]; exact hP, va_K.moved hW.alike hK9, hD⟩, hS.F ht⟩) hS.2.2 dX11_step_38
  · rw [h_4]
    refine lv_if_eq (tgt := 36) hx hb dX11_step_5 rfl (fun c_8 => absurd c_8 (by decide +kernel)) (fun c_8 => ?_)
    refine lv_iload_n hx hb dX11_step_8 rfl (lv_at hl 2 rfl) ?_
    refine lv_iconst (v := 0) hx hb dX11_step_9 kc_iconst_0 ?_
    refine lv_aload_n hx hb dX11_step_10 rfl (lv_at hl 0 rfl) ?_
    refine va_get (D := (dC, dI)) (ci := 11) (v := .ref h0_4) (C := RX11) (T := TX11) (N := 16) hx hb hts iw_c_X11_step_X11 hown hK hP 0 rfl rfl 4 (by decide +kernel) (hts (.fieldLink RX11 35 "BuoyVote" "plans" "[LBuoyVote$Plan;") (List.mem_of_getElem? (i := 8) rfl)) (fun _ h9 => h9) rfl dX11_step_11 ?_
    refine lv_iload_n hx hb dX11_step_14 rfl (lv_at hl 1 rfl) ?_
    by_cases c_9 : p1 = 0
    · refine W.eq (g2 := F0 m 15 ls [.int 0, .ref h0_4, .int 0, .int p2]) (by rw [c_9]) ?_
      have g_10 : RG p1 0 0 := RG_k _ _ (by rw [c_9]; rfl)
      refine va_aldq hx hb hK hP 1 0 rfl rfl (by unfold vp_in; decide) dX11_step_15 ?_
      as_aux_lemma =>
      rw [show h0_4c (0 : Int32).toNatClampNeg = some h0_4_e0 from e_h0_4_e0]
      refine W.eq (g2 := F0 m 16 ls [.ref h0_4_e0, .int 0, .int p2]) rfl ?_
      refine va_get (D := (dC, dI)) (ci := 6) (v := .int h0_4_e0_f1) (C := RX6) (T := TX6) (N := 2) hx hb hts iw_c_X11_step_X6 hown hK hP 2 rfl rfl 1 (by decide +kernel) (hts (.fieldLink RX11 296 "BuoyVote$Plan" "steps" "I") (List.mem_of_getElem? (i := 9) rfl)) (fun _ h9 => h9) rfl dX11_step_16 ?_
      refine lv_iconst (v := 1) hx hb dX11_step_19 kc_iconst_1 ?_
      refine lv_isub hx hb dX11_step_20 ?_
      refine lv_topi (fun x_11 ex_11 => ?_)
      have g_12 : RG x_11 (-1) 15 := RG_sub ex_11 g_h0_4_e0_f1 (RG_k 1 1 rfl) (by decide +kernel)
      obtain ⟨hPc, hDc, hFc, hqc⟩ := cl_cut (wc := []) hP hD hS hA [] (by decide +kernel) rfl
      have hKc := hK.sub (tys' := []) [] rfl
      refine va_calli (va_runS (As := [.int p2, .int 0, .int x_11]) (rest := []) ⟨hx, hb, hml, hown, hts⟩ (c_X11_isWithin_7 l dC dI H.size p2 x_11 g_12) (va_cwS 3 hts gf_c_X11_step_c_X11_isWithin_7 rfl rfl rfl md_X11_isWithin ⟨Nat.le_of_ble_eq_true rfl, Nat.le_of_ble_eq_true rfl⟩) ⟨fun a U g mk q => by obtain ⟨q0, q1, qP, qK, qD⟩ := q; exact ⟨q0, q1, qP, va_K.moved (u := U) (U := U.calling g mk a) (Vm.Alike.refl U.vm) qK, qD⟩, fun U hU hW => ⟨rfl, by rw [hU], by rw [hU]; exact hPc, va_K.moved hW.alike hKc, hDc.weaken (fun _ _ _ _ => trivial)⟩⟩ rfl rfl hl.1 rfl (lv_room (Nat.le_of_ble_eq_true rfl)) dX11_step_21 ⟨Nat.le_of_ble_eq_true rfl, Nat.le_of_ble_eq_true rfl⟩) hS (fun q _ h => hFc q h) hFc (fun r_13 u t H1 locs ht hvm hw hB hz1 hk1 hS => ?_)
      obtain ⟨hP1, hK1, hD1⟩ := hB
      rw [ht] at hP1
      have hP := bv_still hP hk1
      generalize H1 = H at hP hS ⊢
      as_aux_lemma =>
      rcases hw with ⟨h_14, h_15⟩ | ⟨h_16, h_17, h_18, h_19⟩
      · rw [h_14]
        refine lv_if_eq (tgt := 36) hx hb dX11_step_24 rfl (fun c_20 => ?_) (fun c_20 => absurd c_20 (by decide +kernel))
        refine lv_ldc hx hb hown (hts (.constant RX11 228 (-1000000)) (List.mem_of_getElem? (i := 7) rfl)) dX11_step_36 ?_
        have hK9 := hK.sub (tys' := []) [] rfl
        exact W.iret (v := (-1000000)) hx hb hr (fun t ht hW => ⟨⟨(-1000000), (), rfl, (Or.inl rfl), by rw [ht]; exact hP, va_K.moved hW.alike hK9, hD⟩, hS.F ht⟩) hS.2.2 dX11_step_38
      · rw [h_16]
        have g_21 : RG h0_4_e0_f1 1 16 := RG_addb (RG_sc (d := (-1)) ex_11 rfl) (q := (-1)) rfl g_h0_4_e0_f1 h_18 (by decide +kernel)
        refine lv_if_eq (tgt := 36) hx hb dX11_step_24 rfl (fun c_22 => absurd c_22 (by decide +kernel)) (fun c_22 => ?_)
        refine lv_iload_n hx hb dX11_step_27 rfl (lv_at hl 3 rfl) ?_
        refine lv_iconst (v := 0) hx hb dX11_step_28 kc_iconst_0 ?_
        refine lv_iconst (v := 3) hx hb dX11_step_29 kc_iconst_3 ?_
        obtain ⟨hPc, hDc, hFc, hqc⟩ := cl_cut (wc := []) hP hD hS hA [] (by decide +kernel) rfl
        have hKc := hK.sub (tys' := []) [] rfl
        refine va_calli (va_runS (As := [.int p3, .int 0, .int 3]) (rest := []) ⟨hx, hb, hml, hown, hts⟩ (c_X11_isWithin_3 l dC dI H.size p3) (va_cwS 3 hts gf_c_X11_step_c_X11_isWithin_3 rfl rfl rfl md_X11_isWithin ⟨Nat.le_of_ble_eq_true rfl, Nat.le_of_ble_eq_true rfl⟩) ⟨fun a U g mk q => by obtain ⟨q0, q1, qP, qK, qD⟩ := q; exact ⟨q0, q1, qP, va_K.moved (u := U) (U := U.calling g mk a) (Vm.Alike.refl U.vm) qK, qD⟩, fun U hU hW => ⟨rfl, by rw [hU], by rw [hU]; exact hPc, va_K.moved hW.alike hKc, hDc.weaken (fun _ _ _ _ => trivial)⟩⟩ rfl rfl hl.1 rfl (lv_room (Nat.le_of_ble_eq_true rfl)) dX11_step_30 ⟨Nat.le_of_ble_eq_true rfl, Nat.le_of_ble_eq_true rfl⟩) hS (fun q _ h => hFc q h) hFc (fun r_23 u t H1 locs ht hvm hw hB hz1 hk1 hS => ?_)
        as_aux_lemma =>
        obtain ⟨hP1, hK1, hD1⟩ := hB
        rw [ht] at hP1
        have hP := bv_still hP hk1
        generalize H1 = H at hP hS ⊢
        as_aux_lemma =>
        rcases hw with ⟨h_24, h_25⟩ | ⟨h_26, h_27⟩
        · rw [h_24]
          refine lv_if_ne (tgt := 39) hx hb dX11_step_33 rfl (fun c_28 => absurd c_28 (by decide +kernel)) (fun c_28 => ?_)
          refine lv_ldc hx hb hown (hts (.constant RX11 228 (-1000000)) (List.mem_of_getElem? (i := 7) rfl)) dX11_step_36 ?_
          have hK9 := hK.sub (tys' := []) [] rfl
          exact W.iret (v := (-1000000)) hx hb hr (fun t ht hW => ⟨⟨(-1000000), (), rfl, (Or.inl rfl), by rw [ht]; exact hP, va_K.moved hW.alike hK9, hD⟩, hS.F ht⟩) hS.2.2 dX11_step_38
        · rw [h_26]
          refine lv_if_ne (tgt := 39) hx hb dX11_step_33 rfl (fun c_29 => ?_) (fun c_29 => absurd c_29 (by decide +kernel))
          refine lv_aload_n hx hb dX11_step_39 rfl (lv_at hl 0 rfl) ?_
          refine va_get (D := (dC, dI)) (ci := 11) (v := .ref h0_4) (C := RX11) (T := TX11) (N := 16) hx hb hts iw_c_X11_step_X11 hown hK hP 0 rfl rfl 4 (by decide +kernel) (hts (.fieldLink RX11 35 "BuoyVote" "plans" "[LBuoyVote$Plan;") (List.mem_of_getElem? (i := 8) rfl)) (fun _ h9 => h9) rfl dX11_step_40 ?_
          refine lv_iload_n hx hb dX11_step_43 rfl (lv_at hl 1 rfl) ?_
          by_cases c_30 : p1 = 0
          · refine W.eq (g2 := F0 m 44 ls [.int 0, .ref h0_4]) (by rw [c_30]) ?_
            have g_31 : RG p1 0 0 := RG_k _ _ (by rw [c_30]; rfl)
            refine va_aldq hx hb hK hP 1 0 rfl rfl (by unfold vp_in; decide) dX11_step_44 ?_
            as_aux_lemma =>
            rw [show h0_4c (0 : Int32).toNatClampNeg = some h0_4_e0 from e_h0_4_e0]
            refine W.eq (g2 := F0 m 45 ls [.ref h0_4_e0]) rfl ?_
            refine lv_iload_n hx hb dX11_step_45 rfl (lv_at hl 2 rfl) ?_
            refine lv_iload_n hx hb dX11_step_46 rfl (lv_at hl 3 rfl) ?_
            obtain ⟨hPc, hDc, hFc, hqc⟩ := cl_cut (wc := (wd_c_X6_part h0_4_e0 h0_4_e0_0 h0_4_e0_f1 h0_4_e0_0 h0_4_e0_0k h0_4_e0_0c)) hP hD hS hA [2, 3] (by decide +kernel) rfl
            have hKc := hK.sub (tys' := [(h0_4_e0_0k, .int)]) [1] rfl
            have hrv := va_recv hKc hPc (ci := 6) (q0 := 0) rfl rfl
            refine va_calli (va_runV (As := [.int p2, .int p3]) (rest := []) ⟨hx, hb, hml, hown, hts⟩ (c_X6_part l dC dI H.size h0_4_e0 p2 p3 h0_4_e0_0 h0_4_e0_f1 h0_4_e0_0k h0_4_e0_0c h_17 h_27 (RG_w g_21 (by decide +kernel)) a_h0_4_e0_0c) (cwV 2 hts gf_c_X11_step_c_X6_part rfl rfl rfl mdV_X6_part ⟨Nat.le_of_ble_eq_true rfl, Nat.le_of_ble_eq_true rfl⟩) ⟨fun a U g mk q => by obtain ⟨q0, q1, qP, qK, qD⟩ := q; exact ⟨q0, q1, qP, va_K.moved (u := U) (U := U.calling g mk a) (Vm.Alike.refl U.vm) qK, qD⟩, hrv, fun U hU hW => ⟨rfl, by rw [hU], by rw [hU]; exact hPc, va_K.moved hW.alike hKc, hDc.weaken (fun _ _ _ _ => trivial)⟩⟩ rfl rfl hl.1 rfl (lv_room (Nat.le_of_ble_eq_true rfl)) dX11_step_47 ⟨Nat.le_of_ble_eq_true rfl, Nat.le_of_ble_eq_true rfl⟩) hS (fun q _ h => hFc q h) hFc (fun r_32 u t H1 locs ht hvm hw hB hz1 hk1 hS => ?_)
            obtain ⟨hP1, hK1, hD1⟩ := hB
            rw [ht] at hP1
            obtain ⟨hP, hD⟩ := cl_put (w1 := (wd_c_X6_part h0_4_e0 h0_4_e0_0 h0_4_e0_f1 h0_4_e0_0 h0_4_e0_0k h0_4_e0_0c)) (nw := (wd_c_X11_step h0 h0_0 h0_1 h0_2 h0_3 h0_4 h0_f5 h0_6 h0_7 h0_8 h0_9 h0_10 h0_11 h0_12 h0_13 h0_14 h0_f15 h0_4 h0_4k h0_4c h0_4_e0 h0_4_e0_0 h0_4_e0_f1 h0_4_e0_0 h0_4_e0_0k h0_4_e0_0c h0_4_e1 h0_4_e1_0 h0_4_e1_f1 h0_4_e1_0 h0_4_e1_0k h0_4_e1_0c h0_4_e2 h0_4_e2_0 h0_4_e2_f1 h0_4_e2_0 h0_4_e2_0k h0_4_e2_0c h0_4_e3 h0_4_e3_0 h0_4_e3_f1 h0_4_e3_0 h0_4_e3_0k h0_4_e3_0c)) hP hD [2, 3] [0, 1, 10, 11, 4, 5, 6, 7, 8, 9] 10 rfl hqc (by decide +kernel) rfl hk1 hFc hP1 hD1
            generalize H1 = H at hP hS ⊢
            as_aux_lemma =>
            rcases hw with ⟨h_33, h_34⟩
            have hK9 := hK.sub (tys' := []) [] rfl
            exact W.iret (v := r_32) hx hb hr (fun t ht hW => ⟨⟨r_32, (), rfl, (Or.inr ⟨h_33, h_5, (RG_w g_31 (by decide +kernel)), h_17, h_27⟩), by rw [ht]; exact hP, va_K.moved hW.alike hK9, hD⟩, hS.F ht⟩) hS.2.2 dX11_step_50
          exfalso
          have zc_30 := lv_neT c_30 (a := 0) (by decide +kernel)
          have zg1 := (g_10).1
          have zg2 := (g_10).2
          omega
    by_cases c_35 : p1 = 1
    · refine W.eq (g2 := F0 m 15 ls [.int 1, .ref h0_4, .int 0, .int p2]) (by rw [c_35]) ?_
      have g_36 : RG p1 1 1 := RG_k _ _ (by rw [c_35]; rfl)
      refine va_aldq hx hb hK hP 1 0 rfl rfl (by unfold vp_in; decide) dX11_step_15 ?_
      rw [show h0_4c (1 : Int32).toNatClampNeg = some h0_4_e1 from e_h0_4_e1]
      refine W.eq (g2 := F0 m 16 ls [.ref h0_4_e1, .int 0, .int p2]) rfl ?_
      as_aux_lemma =>
      refine va_get (D := (dC, dI)) (ci := 6) (v := .int h0_4_e1_f1) (C := RX6) (T := TX6) (N := 2) hx hb hts iw_c_X11_step_X6 hown hK hP 4 rfl rfl 1 (by decide +kernel) (hts (.fieldLink RX11 296 "BuoyVote$Plan" "steps" "I") (List.mem_of_getElem? (i := 9) rfl)) (fun _ h9 => h9) rfl dX11_step_16 ?_
      refine lv_iconst (v := 1) hx hb dX11_step_19 kc_iconst_1 ?_
      refine lv_isub hx hb dX11_step_20 ?_
      refine lv_topi (fun x_37 ex_37 => ?_)
      have g_38 : RG x_37 (-1) 15 := RG_sub ex_37 g_h0_4_e1_f1 (RG_k 1 1 rfl) (by decide +kernel)
      obtain ⟨hPc, hDc, hFc, hqc⟩ := cl_cut (wc := []) hP hD hS hA [] (by decide +kernel) rfl
      have hKc := hK.sub (tys' := []) [] rfl
      refine va_calli (va_runS (As := [.int p2, .int 0, .int x_37]) (rest := []) ⟨hx, hb, hml, hown, hts⟩ (c_X11_isWithin_7 l dC dI H.size p2 x_37 g_38) (va_cwS 3 hts gf_c_X11_step_c_X11_isWithin_7 rfl rfl rfl md_X11_isWithin ⟨Nat.le_of_ble_eq_true rfl, Nat.le_of_ble_eq_true rfl⟩) ⟨fun a U g mk q => by obtain ⟨q0, q1, qP, qK, qD⟩ := q; exact ⟨q0, q1, qP, va_K.moved (u := U) (U := U.calling g mk a) (Vm.Alike.refl U.vm) qK, qD⟩, fun U hU hW => ⟨rfl, by rw [hU], by rw [hU]; exact hPc, va_K.moved hW.alike hKc, hDc.weaken (fun _ _ _ _ => trivial)⟩⟩ rfl rfl hl.1 rfl (lv_room (Nat.le_of_ble_eq_true rfl)) dX11_step_21 ⟨Nat.le_of_ble_eq_true rfl, Nat.le_of_ble_eq_true rfl⟩) hS (fun q _ h => hFc q h) hFc (fun r_39 u t H1 locs ht hvm hw hB hz1 hk1 hS => ?_)
      obtain ⟨hP1, hK1, hD1⟩ := hB
      rw [ht] at hP1
      have hP := bv_still hP hk1
      generalize H1 = H at hP hS ⊢
      as_aux_lemma =>
      rcases hw with ⟨h_40, h_41⟩ | ⟨h_42, h_43, h_44, h_45⟩
      · rw [h_40]
        refine lv_if_eq (tgt := 36) hx hb dX11_step_24 rfl (fun c_46 => ?_) (fun c_46 => absurd c_46 (by decide +kernel))
        refine lv_ldc hx hb hown (hts (.constant RX11 228 (-1000000)) (List.mem_of_getElem? (i := 7) rfl)) dX11_step_36 ?_
        have hK9 := hK.sub (tys' := []) [] rfl
        exact W.iret (v := (-1000000)) hx hb hr (fun t ht hW => ⟨⟨(-1000000), (), rfl, (Or.inl rfl), by rw [ht]; exact hP, va_K.moved hW.alike hK9, hD⟩, hS.F ht⟩) hS.2.2 dX11_step_38
      · rw [h_42]
        have g_47 : RG h0_4_e1_f1 1 16 := RG_addb (RG_sc (d := (-1)) ex_37 rfl) (q := (-1)) rfl g_h0_4_e1_f1 h_44 (by decide +kernel)
        refine lv_if_eq (tgt := 36) hx hb dX11_step_24 rfl (fun c_48 => absurd c_48 (by decide +kernel)) (fun c_48 => ?_)
        refine lv_iload_n hx hb dX11_step_27 rfl (lv_at hl 3 rfl) ?_
        refine lv_iconst (v := 0) hx hb dX11_step_28 kc_iconst_0 ?_
        refine lv_iconst (v := 3) hx hb dX11_step_29 kc_iconst_3 ?_
        obtain ⟨hPc, hDc, hFc, hqc⟩ := cl_cut (wc := []) hP hD hS hA [] (by decide +kernel) rfl
        have hKc := hK.sub (tys' := []) [] rfl
        refine va_calli (va_runS (As := [.int p3, .int 0, .int 3]) (rest := []) ⟨hx, hb, hml, hown, hts⟩ (c_X11_isWithin_3 l dC dI H.size p3) (va_cwS 3 hts gf_c_X11_step_c_X11_isWithin_3 rfl rfl rfl md_X11_isWithin ⟨Nat.le_of_ble_eq_true rfl, Nat.le_of_ble_eq_true rfl⟩) ⟨fun a U g mk q => by obtain ⟨q0, q1, qP, qK, qD⟩ := q; exact ⟨q0, q1, qP, va_K.moved (u := U) (U := U.calling g mk a) (Vm.Alike.refl U.vm) qK, qD⟩, fun U hU hW => ⟨rfl, by rw [hU], by rw [hU]; exact hPc, va_K.moved hW.alike hKc, hDc.weaken (fun _ _ _ _ => trivial)⟩⟩ rfl rfl hl.1 rfl (lv_room (Nat.le_of_ble_eq_true rfl)) dX11_step_30 ⟨Nat.le_of_ble_eq_true rfl, Nat.le_of_ble_eq_true rfl⟩) hS (fun q _ h => hFc q h) hFc (fun r_49 u t H1 locs ht hvm hw hB hz1 hk1 hS => ?_)
        as_aux_lemma =>
        obtain ⟨hP1, hK1, hD1⟩ := hB
        rw [ht] at hP1
        have hP := bv_still hP hk1
        generalize H1 = H at hP hS ⊢
        as_aux_lemma =>
        rcases hw with ⟨h_50, h_51⟩ | ⟨h_52, h_53⟩
        · rw [h_50]
          refine lv_if_ne (tgt := 39) hx hb dX11_step_33 rfl (fun c_54 => absurd c_54 (by decide +kernel)) (fun c_54 => ?_)
          refine lv_ldc hx hb hown (hts (.constant RX11 228 (-1000000)) (List.mem_of_getElem? (i := 7) rfl)) dX11_step_36 ?_
          have hK9 := hK.sub (tys' := []) [] rfl
          exact W.iret (v := (-1000000)) hx hb hr (fun t ht hW => ⟨⟨(-1000000), (), rfl, (Or.inl rfl), by rw [ht]; exact hP, va_K.moved hW.alike hK9, hD⟩, hS.F ht⟩) hS.2.2 dX11_step_38
        · rw [h_52]
          refine lv_if_ne (tgt := 39) hx hb dX11_step_33 rfl (fun c_55 => ?_) (fun c_55 => absurd c_55 (by decide +kernel))
          refine lv_aload_n hx hb dX11_step_39 rfl (lv_at hl 0 rfl) ?_
          refine va_get (D := (dC, dI)) (ci := 11) (v := .ref h0_4) (C := RX11) (T := TX11) (N := 16) hx hb hts iw_c_X11_step_X11 hown hK hP 0 rfl rfl 4 (by decide +kernel) (hts (.fieldLink RX11 35 "BuoyVote" "plans" "[LBuoyVote$Plan;") (List.mem_of_getElem? (i := 8) rfl)) (fun _ h9 => h9) rfl dX11_step_40 ?_
          refine lv_iload_n hx hb dX11_step_43 rfl (lv_at hl 1 rfl) ?_
          by_cases c_56 : p1 = 1
          · refine W.eq (g2 := F0 m 44 ls [.int 1, .ref h0_4]) (by rw [c_56]) ?_
            have g_57 : RG p1 1 1 := RG_k _ _ (by rw [c_56]; rfl)
            refine va_aldq hx hb hK hP 1 0 rfl rfl (by unfold vp_in; decide) dX11_step_44 ?_
            as_aux_lemma =>
            rw [show h0_4c (1 : Int32).toNatClampNeg = some h0_4_e1 from e_h0_4_e1]
            refine W.eq (g2 := F0 m 45 ls [.ref h0_4_e1]) rfl ?_
            refine lv_iload_n hx hb dX11_step_45 rfl (lv_at hl 2 rfl) ?_
            refine lv_iload_n hx hb dX11_step_46 rfl (lv_at hl 3 rfl) ?_
            obtain ⟨hPc, hDc, hFc, hqc⟩ := cl_cut (wc := (wd_c_X6_part h0_4_e1 h0_4_e1_0 h0_4_e1_f1 h0_4_e1_0 h0_4_e1_0k h0_4_e1_0c)) hP hD hS hA [4, 5] (by decide +kernel) rfl
            have hKc := hK.sub (tys' := [(h0_4_e1_0k, .int)]) [2] rfl
            have hrv := va_recv hKc hPc (ci := 6) (q0 := 0) rfl rfl
            refine va_calli (va_runV (As := [.int p2, .int p3]) (rest := []) ⟨hx, hb, hml, hown, hts⟩ (c_X6_part l dC dI H.size h0_4_e1 p2 p3 h0_4_e1_0 h0_4_e1_f1 h0_4_e1_0k h0_4_e1_0c h_43 h_53 (RG_w g_47 (by decide +kernel)) a_h0_4_e1_0c) (cwV 2 hts gf_c_X11_step_c_X6_part rfl rfl rfl mdV_X6_part ⟨Nat.le_of_ble_eq_true rfl, Nat.le_of_ble_eq_true rfl⟩) ⟨fun a U g mk q => by obtain ⟨q0, q1, qP, qK, qD⟩ := q; exact ⟨q0, q1, qP, va_K.moved (u := U) (U := U.calling g mk a) (Vm.Alike.refl U.vm) qK, qD⟩, hrv, fun U hU hW => ⟨rfl, by rw [hU], by rw [hU]; exact hPc, va_K.moved hW.alike hKc, hDc.weaken (fun _ _ _ _ => trivial)⟩⟩ rfl rfl hl.1 rfl (lv_room (Nat.le_of_ble_eq_true rfl)) dX11_step_47 ⟨Nat.le_of_ble_eq_true rfl, Nat.le_of_ble_eq_true rfl⟩) hS (fun q _ h => hFc q h) hFc (fun r_58 u t H1 locs ht hvm hw hB hz1 hk1 hS => ?_)
            obtain ⟨hP1, hK1, hD1⟩ := hB
            rw [ht] at hP1
            obtain ⟨hP, hD⟩ := cl_put (w1 := (wd_c_X6_part h0_4_e1 h0_4_e1_0 h0_4_e1_f1 h0_4_e1_0 h0_4_e1_0k h0_4_e1_0c)) (nw := (wd_c_X11_step h0 h0_0 h0_1 h0_2 h0_3 h0_4 h0_f5 h0_6 h0_7 h0_8 h0_9 h0_10 h0_11 h0_12 h0_13 h0_14 h0_f15 h0_4 h0_4k h0_4c h0_4_e0 h0_4_e0_0 h0_4_e0_f1 h0_4_e0_0 h0_4_e0_0k h0_4_e0_0c h0_4_e1 h0_4_e1_0 h0_4_e1_f1 h0_4_e1_0 h0_4_e1_0k h0_4_e1_0c h0_4_e2 h0_4_e2_0 h0_4_e2_f1 h0_4_e2_0 h0_4_e2_0k h0_4_e2_0c h0_4_e3 h0_4_e3_0 h0_4_e3_f1 h0_4_e3_0 h0_4_e3_0k h0_4_e3_0c)) hP hD [4, 5] [0, 1, 2, 3, 10, 11, 6, 7, 8, 9] 10 rfl hqc (by decide +kernel) rfl hk1 hFc hP1 hD1
            generalize H1 = H at hP hS ⊢
            as_aux_lemma =>
            rcases hw with ⟨h_59, h_60⟩
            have hK9 := hK.sub (tys' := []) [] rfl
            exact W.iret (v := r_58) hx hb hr (fun t ht hW => ⟨⟨r_58, (), rfl, (Or.inr ⟨h_59, h_5, (RG_w g_57 (by decide +kernel)), h_43, h_53⟩), by rw [ht]; exact hP, va_K.moved hW.alike hK9, hD⟩, hS.F ht⟩) hS.2.2 dX11_step_50
          exfalso
          have zc_56 := lv_neT c_56 (a := 1) (by decide +kernel)
          have zg1 := (g_36).1
          have zg2 := (g_36).2
          omega
    by_cases c_61 : p1 = 2
    · refine W.eq (g2 := F0 m 15 ls [.int 2, .ref h0_4, .int 0, .int p2]) (by rw [c_61]) ?_
      have g_62 : RG p1 2 2 := RG_k _ _ (by rw [c_61]; rfl)
      refine va_aldq hx hb hK hP 1 0 rfl rfl (by unfold vp_in; decide) dX11_step_15 ?_
      rw [show h0_4c (2 : Int32).toNatClampNeg = some h0_4_e2 from e_h0_4_e2]
      refine W.eq (g2 := F0 m 16 ls [.ref h0_4_e2, .int 0, .int p2]) rfl ?_
      as_aux_lemma =>
      refine va_get (D := (dC, dI)) (ci := 6) (v := .int h0_4_e2_f1) (C := RX6) (T := TX6) (N := 2) hx hb hts iw_c_X11_step_X6 hown hK hP 6 rfl rfl 1 (by decide +kernel) (hts (.fieldLink RX11 296 "BuoyVote$Plan" "steps" "I") (List.mem_of_getElem? (i := 9) rfl)) (fun _ h9 => h9) rfl dX11_step_16 ?_
      refine lv_iconst (v := 1) hx hb dX11_step_19 kc_iconst_1 ?_
      refine lv_isub hx hb dX11_step_20 ?_
      refine lv_topi (fun x_63 ex_63 => ?_)
      have g_64 : RG x_63 (-1) 15 := RG_sub ex_63 g_h0_4_e2_f1 (RG_k 1 1 rfl) (by decide +kernel)
      obtain ⟨hPc, hDc, hFc, hqc⟩ := cl_cut (wc := []) hP hD hS hA [] (by decide +kernel) rfl
      have hKc := hK.sub (tys' := []) [] rfl
      refine va_calli (va_runS (As := [.int p2, .int 0, .int x_63]) (rest := []) ⟨hx, hb, hml, hown, hts⟩ (c_X11_isWithin_7 l dC dI H.size p2 x_63 g_64) (va_cwS 3 hts gf_c_X11_step_c_X11_isWithin_7 rfl rfl rfl md_X11_isWithin ⟨Nat.le_of_ble_eq_true rfl, Nat.le_of_ble_eq_true rfl⟩) ⟨fun a U g mk q => by obtain ⟨q0, q1, qP, qK, qD⟩ := q; exact ⟨q0, q1, qP, va_K.moved (u := U) (U := U.calling g mk a) (Vm.Alike.refl U.vm) qK, qD⟩, fun U hU hW => ⟨rfl, by rw [hU], by rw [hU]; exact hPc, va_K.moved hW.alike hKc, hDc.weaken (fun _ _ _ _ => trivial)⟩⟩ rfl rfl hl.1 rfl (lv_room (Nat.le_of_ble_eq_true rfl)) dX11_step_21 ⟨Nat.le_of_ble_eq_true rfl, Nat.le_of_ble_eq_true rfl⟩) hS (fun q _ h => hFc q h) hFc (fun r_65 u t H1 locs ht hvm hw hB hz1 hk1 hS => ?_)
      obtain ⟨hP1, hK1, hD1⟩ := hB
      rw [ht] at hP1
      have hP := bv_still hP hk1
      generalize H1 = H at hP hS ⊢
      as_aux_lemma =>
      rcases hw with ⟨h_66, h_67⟩ | ⟨h_68, h_69, h_70, h_71⟩
      · rw [h_66]
        refine lv_if_eq (tgt := 36) hx hb dX11_step_24 rfl (fun c_72 => ?_) (fun c_72 => absurd c_72 (by decide +kernel))
        refine lv_ldc hx hb hown (hts (.constant RX11 228 (-1000000)) (List.mem_of_getElem? (i := 7) rfl)) dX11_step_36 ?_
        have hK9 := hK.sub (tys' := []) [] rfl
        exact W.iret (v := (-1000000)) hx hb hr (fun t ht hW => ⟨⟨(-1000000), (), rfl, (Or.inl rfl), by rw [ht]; exact hP, va_K.moved hW.alike hK9, hD⟩, hS.F ht⟩) hS.2.2 dX11_step_38
      · rw [h_68]
        have g_73 : RG h0_4_e2_f1 1 16 := RG_addb (RG_sc (d := (-1)) ex_63 rfl) (q := (-1)) rfl g_h0_4_e2_f1 h_70 (by decide +kernel)
        refine lv_if_eq (tgt := 36) hx hb dX11_step_24 rfl (fun c_74 => absurd c_74 (by decide +kernel)) (fun c_74 => ?_)
        refine lv_iload_n hx hb dX11_step_27 rfl (lv_at hl 3 rfl) ?_
        refine lv_iconst (v := 0) hx hb dX11_step_28 kc_iconst_0 ?_
        refine lv_iconst (v := 3) hx hb dX11_step_29 kc_iconst_3 ?_
        obtain ⟨hPc, hDc, hFc, hqc⟩ := cl_cut (wc := []) hP hD hS hA [] (by decide +kernel) rfl
        have hKc := hK.sub (tys' := []) [] rfl
        refine va_calli (va_runS (As := [.int p3, .int 0, .int 3]) (rest := []) ⟨hx, hb, hml, hown, hts⟩ (c_X11_isWithin_3 l dC dI H.size p3) (va_cwS 3 hts gf_c_X11_step_c_X11_isWithin_3 rfl rfl rfl md_X11_isWithin ⟨Nat.le_of_ble_eq_true rfl, Nat.le_of_ble_eq_true rfl⟩) ⟨fun a U g mk q => by obtain ⟨q0, q1, qP, qK, qD⟩ := q; exact ⟨q0, q1, qP, va_K.moved (u := U) (U := U.calling g mk a) (Vm.Alike.refl U.vm) qK, qD⟩, fun U hU hW => ⟨rfl, by rw [hU], by rw [hU]; exact hPc, va_K.moved hW.alike hKc, hDc.weaken (fun _ _ _ _ => trivial)⟩⟩ rfl rfl hl.1 rfl (lv_room (Nat.le_of_ble_eq_true rfl)) dX11_step_30 ⟨Nat.le_of_ble_eq_true rfl, Nat.le_of_ble_eq_true rfl⟩) hS (fun q _ h => hFc q h) hFc (fun r_75 u t H1 locs ht hvm hw hB hz1 hk1 hS => ?_)
        as_aux_lemma =>
        obtain ⟨hP1, hK1, hD1⟩ := hB
        rw [ht] at hP1
        have hP := bv_still hP hk1
        generalize H1 = H at hP hS ⊢
        as_aux_lemma =>
        rcases hw with ⟨h_76, h_77⟩ | ⟨h_78, h_79⟩
        · rw [h_76]
          refine lv_if_ne (tgt := 39) hx hb dX11_step_33 rfl (fun c_80 => absurd c_80 (by decide +kernel)) (fun c_80 => ?_)
          refine lv_ldc hx hb hown (hts (.constant RX11 228 (-1000000)) (List.mem_of_getElem? (i := 7) rfl)) dX11_step_36 ?_
          have hK9 := hK.sub (tys' := []) [] rfl
          exact W.iret (v := (-1000000)) hx hb hr (fun t ht hW => ⟨⟨(-1000000), (), rfl, (Or.inl rfl), by rw [ht]; exact hP, va_K.moved hW.alike hK9, hD⟩, hS.F ht⟩) hS.2.2 dX11_step_38
        · rw [h_78]
          refine lv_if_ne (tgt := 39) hx hb dX11_step_33 rfl (fun c_81 => ?_) (fun c_81 => absurd c_81 (by decide +kernel))
          refine lv_aload_n hx hb dX11_step_39 rfl (lv_at hl 0 rfl) ?_
          refine va_get (D := (dC, dI)) (ci := 11) (v := .ref h0_4) (C := RX11) (T := TX11) (N := 16) hx hb hts iw_c_X11_step_X11 hown hK hP 0 rfl rfl 4 (by decide +kernel) (hts (.fieldLink RX11 35 "BuoyVote" "plans" "[LBuoyVote$Plan;") (List.mem_of_getElem? (i := 8) rfl)) (fun _ h9 => h9) rfl dX11_step_40 ?_
          refine lv_iload_n hx hb dX11_step_43 rfl (lv_at hl 1 rfl) ?_
          by_cases c_82 : p1 = 2
          · refine W.eq (g2 := F0 m 44 ls [.int 2, .ref h0_4]) (by rw [c_82]) ?_
            have g_83 : RG p1 2 2 := RG_k _ _ (by rw [c_82]; rfl)
            refine va_aldq hx hb hK hP 1 0 rfl rfl (by unfold vp_in; decide) dX11_step_44 ?_
            as_aux_lemma =>
            rw [show h0_4c (2 : Int32).toNatClampNeg = some h0_4_e2 from e_h0_4_e2]
            refine W.eq (g2 := F0 m 45 ls [.ref h0_4_e2]) rfl ?_
            refine lv_iload_n hx hb dX11_step_45 rfl (lv_at hl 2 rfl) ?_
            refine lv_iload_n hx hb dX11_step_46 rfl (lv_at hl 3 rfl) ?_
            obtain ⟨hPc, hDc, hFc, hqc⟩ := cl_cut (wc := (wd_c_X6_part h0_4_e2 h0_4_e2_0 h0_4_e2_f1 h0_4_e2_0 h0_4_e2_0k h0_4_e2_0c)) hP hD hS hA [6, 7] (by decide +kernel) rfl
            have hKc := hK.sub (tys' := [(h0_4_e2_0k, .int)]) [3] rfl
            have hrv := va_recv hKc hPc (ci := 6) (q0 := 0) rfl rfl
            refine va_calli (va_runV (As := [.int p2, .int p3]) (rest := []) ⟨hx, hb, hml, hown, hts⟩ (c_X6_part l dC dI H.size h0_4_e2 p2 p3 h0_4_e2_0 h0_4_e2_f1 h0_4_e2_0k h0_4_e2_0c h_69 h_79 (RG_w g_73 (by decide +kernel)) a_h0_4_e2_0c) (cwV 2 hts gf_c_X11_step_c_X6_part rfl rfl rfl mdV_X6_part ⟨Nat.le_of_ble_eq_true rfl, Nat.le_of_ble_eq_true rfl⟩) ⟨fun a U g mk q => by obtain ⟨q0, q1, qP, qK, qD⟩ := q; exact ⟨q0, q1, qP, va_K.moved (u := U) (U := U.calling g mk a) (Vm.Alike.refl U.vm) qK, qD⟩, hrv, fun U hU hW => ⟨rfl, by rw [hU], by rw [hU]; exact hPc, va_K.moved hW.alike hKc, hDc.weaken (fun _ _ _ _ => trivial)⟩⟩ rfl rfl hl.1 rfl (lv_room (Nat.le_of_ble_eq_true rfl)) dX11_step_47 ⟨Nat.le_of_ble_eq_true rfl, Nat.le_of_ble_eq_true rfl⟩) hS (fun q _ h => hFc q h) hFc (fun r_84 u t H1 locs ht hvm hw hB hz1 hk1 hS => ?_)
            obtain ⟨hP1, hK1, hD1⟩ := hB
            rw [ht] at hP1
            obtain ⟨hP, hD⟩ := cl_put (w1 := (wd_c_X6_part h0_4_e2 h0_4_e2_0 h0_4_e2_f1 h0_4_e2_0 h0_4_e2_0k h0_4_e2_0c)) (nw := (wd_c_X11_step h0 h0_0 h0_1 h0_2 h0_3 h0_4 h0_f5 h0_6 h0_7 h0_8 h0_9 h0_10 h0_11 h0_12 h0_13 h0_14 h0_f15 h0_4 h0_4k h0_4c h0_4_e0 h0_4_e0_0 h0_4_e0_f1 h0_4_e0_0 h0_4_e0_0k h0_4_e0_0c h0_4_e1 h0_4_e1_0 h0_4_e1_f1 h0_4_e1_0 h0_4_e1_0k h0_4_e1_0c h0_4_e2 h0_4_e2_0 h0_4_e2_f1 h0_4_e2_0 h0_4_e2_0k h0_4_e2_0c h0_4_e3 h0_4_e3_0 h0_4_e3_f1 h0_4_e3_0 h0_4_e3_0k h0_4_e3_0c)) hP hD [6, 7] [0, 1, 2, 3, 4, 5, 10, 11, 8, 9] 10 rfl hqc (by decide +kernel) rfl hk1 hFc hP1 hD1
            generalize H1 = H at hP hS ⊢
            as_aux_lemma =>
            rcases hw with ⟨h_85, h_86⟩
            have hK9 := hK.sub (tys' := []) [] rfl
            exact W.iret (v := r_84) hx hb hr (fun t ht hW => ⟨⟨r_84, (), rfl, (Or.inr ⟨h_85, h_5, (RG_w g_83 (by decide +kernel)), h_69, h_79⟩), by rw [ht]; exact hP, va_K.moved hW.alike hK9, hD⟩, hS.F ht⟩) hS.2.2 dX11_step_50
          exfalso
          have zc_82 := lv_neT c_82 (a := 2) (by decide +kernel)
          have zg1 := (g_62).1
          have zg2 := (g_62).2
          omega
    by_cases c_87 : p1 = 3
    · refine W.eq (g2 := F0 m 15 ls [.int 3, .ref h0_4, .int 0, .int p2]) (by rw [c_87]) ?_
      have g_88 : RG p1 3 3 := RG_k _ _ (by rw [c_87]; rfl)
      refine va_aldq hx hb hK hP 1 0 rfl rfl (by unfold vp_in; decide) dX11_step_15 ?_
      rw [show h0_4c (3 : Int32).toNatClampNeg = some h0_4_e3 from e_h0_4_e3]
      refine W.eq (g2 := F0 m 16 ls [.ref h0_4_e3, .int 0, .int p2]) rfl ?_
      as_aux_lemma =>
      refine va_get (D := (dC, dI)) (ci := 6) (v := .int h0_4_e3_f1) (C := RX6) (T := TX6) (N := 2) hx hb hts iw_c_X11_step_X6 hown hK hP 8 rfl rfl 1 (by decide +kernel) (hts (.fieldLink RX11 296 "BuoyVote$Plan" "steps" "I") (List.mem_of_getElem? (i := 9) rfl)) (fun _ h9 => h9) rfl dX11_step_16 ?_
      refine lv_iconst (v := 1) hx hb dX11_step_19 kc_iconst_1 ?_
      refine lv_isub hx hb dX11_step_20 ?_
      refine lv_topi (fun x_89 ex_89 => ?_)
      have g_90 : RG x_89 (-1) 15 := RG_sub ex_89 g_h0_4_e3_f1 (RG_k 1 1 rfl) (by decide +kernel)
      obtain ⟨hPc, hDc, hFc, hqc⟩ := cl_cut (wc := []) hP hD hS hA [] (by decide +kernel) rfl
      have hKc := hK.sub (tys' := []) [] rfl
      refine va_calli (va_runS (As := [.int p2, .int 0, .int x_89]) (rest := []) ⟨hx, hb, hml, hown, hts⟩ (c_X11_isWithin_7 l dC dI H.size p2 x_89 g_90) (va_cwS 3 hts gf_c_X11_step_c_X11_isWithin_7 rfl rfl rfl md_X11_isWithin ⟨Nat.le_of_ble_eq_true rfl, Nat.le_of_ble_eq_true rfl⟩) ⟨fun a U g mk q => by obtain ⟨q0, q1, qP, qK, qD⟩ := q; exact ⟨q0, q1, qP, va_K.moved (u := U) (U := U.calling g mk a) (Vm.Alike.refl U.vm) qK, qD⟩, fun U hU hW => ⟨rfl, by rw [hU], by rw [hU]; exact hPc, va_K.moved hW.alike hKc, hDc.weaken (fun _ _ _ _ => trivial)⟩⟩ rfl rfl hl.1 rfl (lv_room (Nat.le_of_ble_eq_true rfl)) dX11_step_21 ⟨Nat.le_of_ble_eq_true rfl, Nat.le_of_ble_eq_true rfl⟩) hS (fun q _ h => hFc q h) hFc (fun r_91 u t H1 locs ht hvm hw hB hz1 hk1 hS => ?_)
      obtain ⟨hP1, hK1, hD1⟩ := hB
      rw [ht] at hP1
      have hP := bv_still hP hk1
      generalize H1 = H at hP hS ⊢
      as_aux_lemma =>
      rcases hw with ⟨h_92, h_93⟩ | ⟨h_94, h_95, h_96, h_97⟩
      · rw [h_92]
        refine lv_if_eq (tgt := 36) hx hb dX11_step_24 rfl (fun c_98 => ?_) (fun c_98 => absurd c_98 (by decide +kernel))
        refine lv_ldc hx hb hown (hts (.constant RX11 228 (-1000000)) (List.mem_of_getElem? (i := 7) rfl)) dX11_step_36 ?_
        have hK9 := hK.sub (tys' := []) [] rfl
        exact W.iret (v := (-1000000)) hx hb hr (fun t ht hW => ⟨⟨(-1000000), (), rfl, (Or.inl rfl), by rw [ht]; exact hP, va_K.moved hW.alike hK9, hD⟩, hS.F ht⟩) hS.2.2 dX11_step_38
      · rw [h_94]
        have g_99 : RG h0_4_e3_f1 1 16 := RG_addb (RG_sc (d := (-1)) ex_89 rfl) (q := (-1)) rfl g_h0_4_e3_f1 h_96 (by decide +kernel)
        refine lv_if_eq (tgt := 36) hx hb dX11_step_24 rfl (fun c_100 => absurd c_100 (by decide +kernel)) (fun c_100 => ?_)
        refine lv_iload_n hx hb dX11_step_27 rfl (lv_at hl 3 rfl) ?_
        refine lv_iconst (v := 0) hx hb dX11_step_28 kc_iconst_0 ?_
        refine lv_iconst (v := 3) hx hb dX11_step_29 kc_iconst_3 ?_
        obtain ⟨hPc, hDc, hFc, hqc⟩ := cl_cut (wc := []) hP hD hS hA [] (by decide +kernel) rfl
        have hKc := hK.sub (tys' := []) [] rfl
        refine va_calli (va_runS (As := [.int p3, .int 0, .int 3]) (rest := []) ⟨hx, hb, hml, hown, hts⟩ (c_X11_isWithin_3 l dC dI H.size p3) (va_cwS 3 hts gf_c_X11_step_c_X11_isWithin_3 rfl rfl rfl md_X11_isWithin ⟨Nat.le_of_ble_eq_true rfl, Nat.le_of_ble_eq_true rfl⟩) ⟨fun a U g mk q => by obtain ⟨q0, q1, qP, qK, qD⟩ := q; exact ⟨q0, q1, qP, va_K.moved (u := U) (U := U.calling g mk a) (Vm.Alike.refl U.vm) qK, qD⟩, fun U hU hW => ⟨rfl, by rw [hU], by rw [hU]; exact hPc, va_K.moved hW.alike hKc, hDc.weaken (fun _ _ _ _ => trivial)⟩⟩ rfl rfl hl.1 rfl (lv_room (Nat.le_of_ble_eq_true rfl)) dX11_step_30 ⟨Nat.le_of_ble_eq_true rfl, Nat.le_of_ble_eq_true rfl⟩) hS (fun q _ h => hFc q h) hFc (fun r_101 u t H1 locs ht hvm hw hB hz1 hk1 hS => ?_)
        as_aux_lemma =>
        obtain ⟨hP1, hK1, hD1⟩ := hB
        rw [ht] at hP1
        have hP := bv_still hP hk1
        generalize H1 = H at hP hS ⊢
        as_aux_lemma =>
        rcases hw with ⟨h_102, h_103⟩ | ⟨h_104, h_105⟩
        · rw [h_102]
          refine lv_if_ne (tgt := 39) hx hb dX11_step_33 rfl (fun c_106 => absurd c_106 (by decide +kernel)) (fun c_106 => ?_)
          refine lv_ldc hx hb hown (hts (.constant RX11 228 (-1000000)) (List.mem_of_getElem? (i := 7) rfl)) dX11_step_36 ?_
          have hK9 := hK.sub (tys' := []) [] rfl
          exact W.iret (v := (-1000000)) hx hb hr (fun t ht hW => ⟨⟨(-1000000), (), rfl, (Or.inl rfl), by rw [ht]; exact hP, va_K.moved hW.alike hK9, hD⟩, hS.F ht⟩) hS.2.2 dX11_step_38
        · rw [h_104]
          refine lv_if_ne (tgt := 39) hx hb dX11_step_33 rfl (fun c_107 => ?_) (fun c_107 => absurd c_107 (by decide +kernel))
          refine lv_aload_n hx hb dX11_step_39 rfl (lv_at hl 0 rfl) ?_
          refine va_get (D := (dC, dI)) (ci := 11) (v := .ref h0_4) (C := RX11) (T := TX11) (N := 16) hx hb hts iw_c_X11_step_X11 hown hK hP 0 rfl rfl 4 (by decide +kernel) (hts (.fieldLink RX11 35 "BuoyVote" "plans" "[LBuoyVote$Plan;") (List.mem_of_getElem? (i := 8) rfl)) (fun _ h9 => h9) rfl dX11_step_40 ?_
          refine lv_iload_n hx hb dX11_step_43 rfl (lv_at hl 1 rfl) ?_
          by_cases c_108 : p1 = 3
          · refine W.eq (g2 := F0 m 44 ls [.int 3, .ref h0_4]) (by rw [c_108]) ?_
            have g_109 : RG p1 3 3 := RG_k _ _ (by rw [c_108]; rfl)
            refine va_aldq hx hb hK hP 1 0 rfl rfl (by unfold vp_in; decide) dX11_step_44 ?_
            as_aux_lemma =>
            rw [show h0_4c (3 : Int32).toNatClampNeg = some h0_4_e3 from e_h0_4_e3]
            refine W.eq (g2 := F0 m 45 ls [.ref h0_4_e3]) rfl ?_
            refine lv_iload_n hx hb dX11_step_45 rfl (lv_at hl 2 rfl) ?_
            refine lv_iload_n hx hb dX11_step_46 rfl (lv_at hl 3 rfl) ?_
            obtain ⟨hPc, hDc, hFc, hqc⟩ := cl_cut (wc := (wd_c_X6_part h0_4_e3 h0_4_e3_0 h0_4_e3_f1 h0_4_e3_0 h0_4_e3_0k h0_4_e3_0c)) hP hD hS hA [8, 9] (by decide +kernel) rfl
            have hKc := hK.sub (tys' := [(h0_4_e3_0k, .int)]) [4] rfl
            have hrv := va_recv hKc hPc (ci := 6) (q0 := 0) rfl rfl
            refine va_calli (va_runV (As := [.int p2, .int p3]) (rest := []) ⟨hx, hb, hml, hown, hts⟩ (c_X6_part l dC dI H.size h0_4_e3 p2 p3 h0_4_e3_0 h0_4_e3_f1 h0_4_e3_0k h0_4_e3_0c h_95 h_105 (RG_w g_99 (by decide +kernel)) a_h0_4_e3_0c) (cwV 2 hts gf_c_X11_step_c_X6_part rfl rfl rfl mdV_X6_part ⟨Nat.le_of_ble_eq_true rfl, Nat.le_of_ble_eq_true rfl⟩) ⟨fun a U g mk q => by obtain ⟨q0, q1, qP, qK, qD⟩ := q; exact ⟨q0, q1, qP, va_K.moved (u := U) (U := U.calling g mk a) (Vm.Alike.refl U.vm) qK, qD⟩, hrv, fun U hU hW => ⟨rfl, by rw [hU], by rw [hU]; exact hPc, va_K.moved hW.alike hKc, hDc.weaken (fun _ _ _ _ => trivial)⟩⟩ rfl rfl hl.1 rfl (lv_room (Nat.le_of_ble_eq_true rfl)) dX11_step_47 ⟨Nat.le_of_ble_eq_true rfl, Nat.le_of_ble_eq_true rfl⟩) hS (fun q _ h => hFc q h) hFc (fun r_110 u t H1 locs ht hvm hw hB hz1 hk1 hS => ?_)
            obtain ⟨hP1, hK1, hD1⟩ := hB
            rw [ht] at hP1
            obtain ⟨hP, hD⟩ := cl_put (w1 := (wd_c_X6_part h0_4_e3 h0_4_e3_0 h0_4_e3_f1 h0_4_e3_0 h0_4_e3_0k h0_4_e3_0c)) (nw := (wd_c_X11_step h0 h0_0 h0_1 h0_2 h0_3 h0_4 h0_f5 h0_6 h0_7 h0_8 h0_9 h0_10 h0_11 h0_12 h0_13 h0_14 h0_f15 h0_4 h0_4k h0_4c h0_4_e0 h0_4_e0_0 h0_4_e0_f1 h0_4_e0_0 h0_4_e0_0k h0_4_e0_0c h0_4_e1 h0_4_e1_0 h0_4_e1_f1 h0_4_e1_0 h0_4_e1_0k h0_4_e1_0c h0_4_e2 h0_4_e2_0 h0_4_e2_f1 h0_4_e2_0 h0_4_e2_0k h0_4_e2_0c h0_4_e3 h0_4_e3_0 h0_4_e3_f1 h0_4_e3_0 h0_4_e3_0k h0_4_e3_0c)) hP hD [8, 9] [0, 1, 2, 3, 4, 5, 6, 7, 10, 11] 10 rfl hqc (by decide +kernel) rfl hk1 hFc hP1 hD1
            generalize H1 = H at hP hS ⊢
            as_aux_lemma =>
            rcases hw with ⟨h_111, h_112⟩
            have hK9 := hK.sub (tys' := []) [] rfl
            exact W.iret (v := r_110) hx hb hr (fun t ht hW => ⟨⟨r_110, (), rfl, (Or.inr ⟨h_111, h_5, (RG_w g_109 (by decide +kernel)), h_95, h_105⟩), by rw [ht]; exact hP, va_K.moved hW.alike hK9, hD⟩, hS.F ht⟩) hS.2.2 dX11_step_50
          exfalso
          have zc_108 := lv_neT c_108 (a := 3) (by decide +kernel)
          have zg1 := (g_88).1
          have zg2 := (g_88).2
          omega
    exfalso
    have zc_9 := lv_neT c_9 (a := 0) (by decide +kernel)
    have zc_35 := lv_neT c_35 (a := 1) (by decide +kernel)
    have zc_61 := lv_neT c_61 (a := 2) (by decide +kernel)
    have zc_87 := lv_neT c_87 (a := 3) (by decide +kernel)
    have zg1 := (h_6).1
    have zg2 := (h_6).2
    omega
noncomputable def wf_c_X11_isWithin_8 : List Cond := .code yX11_isWithin cX11_isWithin 3 (some .boolean) :: ([])
set_option maxHeartbeats 4000000 in
set_option maxRecDepth 100000 in
theorem c_X11_isWithin_8 (l : Launch) (dC : Nat → ClassId) (dI : Nat → Nat → Nat) (sz : Nat) (p0 : Int32) : Met l yX11_isWithin wf_c_X11_isWithin_8 ({ frames := 0, cells := 0, slots := 0, locals := 0 }) (va_Pc [.int p0, .int 0, .int 1] (fun U => U.heap.size = sz ∧ va_P (dC, dI) vwCl [] U.heap ∧ va_K (dC, dI) vwCl [] U ∧ va_D (fun _ => True) [])) (va_Qi (fun (r : Int32) (u : Unit) => (r = 0 ∧ RG p0 (-2147483648) 2147483647) ∨ (r = 1 ∧ RG p0 0 1)) (fun (u : Unit) t => va_P (dC, dI) vwCl [] t.heap ∧ va_K (dC, dI) vwCl [] t ∧ va_D (va_A [] sz) []) (va_A [] sz)) 0 0 (va_A [] sz) := by
  refine Met.ofW (cc := cX11_isWithin) (maxL := 3) (ret := (some .boolean)) (by decide +kernel) rfl ?_
  intro p e s m args below meth c s₁ B hml hv
  obtain ⟨rfl, hsz, hP, hK, hD0⟩ := hv
  have hx := B.exec
  have hb := B.bytes
  have hr := B.returns
  have hts := atoms_spec (ws := wf_c_X11_isWithin_8) B.pre
  have hown : s.vm.findClass RX11 = some m.cls := findClass_of_methodNamed B.named
  have hlocks := B.notSynchronized
  subst hsz
  have hD := hD0.self (sz := s.heap.size)
  generalize hAe : va_A [] s.heap.size = A at hD ⊢
  have hA : ∀ q : Nat, s.heap.size ≤ q → A q := fun q h => by rw [← hAe]; exact Or.inr h
  have hP : va_P (dC, dI) vwCl [] s.heap := hP
  have hl := lv_entry ([.int p0, .int 0, .int 1]) (n := 3) (Nat.le_of_ble_eq_true rfl)
  rw [lg_entry_eq]
  generalize (lg_sl ([.int p0, .int 0, .int 1]) ++ List.replicate (3 - (lg_sl ([.int p0, .int 0, .int 1])).length) Slot.unset).toArray = ls at hl ⊢
  have hl : lv_has ls 3 [(0, .int p0), (1, .int 0), (2, .int 1)] := hl
  obtain ⟨H, hHe⟩ : ∃ H : Heap, s.heap = H := ⟨_, rfl⟩
  have hS : va_S A s.heap H [] := by rw [hHe]; exact va_S.rf
  have hP : va_P (dC, dI) vwCl [] H := by rw [← hHe]; exact hP
  rw [hHe]
  refine lv_iload_n hx hb dX11_isWithin_0 rfl (lv_at hl 0 rfl) ?_
  as_aux_lemma =>
  refine lv_iload_n hx hb dX11_isWithin_1 rfl (lv_at hl 1 rfl) ?_
  refine lv_icmp_lt (tgt := 14) hx hb dX11_isWithin_2 rfl (fun c_1 => ?_) (fun c_1 => ?_)
  · have g_2 : RG p0 (-2147483648) (-1) := RG_lt1 (RG_any p0) (RG_k 0 0 rfl) c_1 (by decide +kernel)
    refine lv_iconst (v := 0) hx hb dX11_isWithin_14 kc_iconst_0 ?_
    have hK9 := hK.sub (tys' := []) [] rfl
    exact W.zret (v := 0) hx hb hr rfl (fun t ht hW => ⟨⟨0, (), rfl, (Or.inl ⟨rfl, (RG_w g_2 (by decide +kernel))⟩), by rw [ht]; exact hP, va_K.moved hW.alike hK9, hD⟩, hS.F ht⟩) hS.2.2 dX11_isWithin_15
  · have d_3 := Int32.not_lt.mp c_1
    have g_4 : RG p0 0 2147483647 := RG_le2 (RG_k 0 0 rfl) (RG_any p0) d_3 (by decide +kernel)
    refine lv_iload_n hx hb dX11_isWithin_5 rfl (lv_at hl 0 rfl) ?_
    refine lv_iload_n hx hb dX11_isWithin_6 rfl (lv_at hl 2 rfl) ?_
    refine lv_icmp_gt (tgt := 14) hx hb dX11_isWithin_7 rfl (fun c_5 => ?_) (fun c_5 => ?_)
    · have g_6 : RG p0 2 2147483647 := RG_lt2 (RG_k 1 1 rfl) g_4 c_5 (by decide +kernel)
      refine lv_iconst (v := 0) hx hb dX11_isWithin_14 kc_iconst_0 ?_
      have hK9 := hK.sub (tys' := []) [] rfl
      exact W.zret (v := 0) hx hb hr rfl (fun t ht hW => ⟨⟨0, (), rfl, (Or.inl ⟨rfl, (RG_w g_6 (by decide +kernel))⟩), by rw [ht]; exact hP, va_K.moved hW.alike hK9, hD⟩, hS.F ht⟩) hS.2.2 dX11_isWithin_15
    · have d_7 := Int32.not_lt.mp c_5
      have g_8 : RG p0 0 1 := RG_le1 g_4 (RG_k 1 1 rfl) d_7 (by decide +kernel)
      refine lv_iconst (v := 1) hx hb dX11_isWithin_10 kc_iconst_1 ?_
      as_aux_lemma =>
      refine lv_goto (tgt := 15) hx hb dX11_isWithin_11 rfl ?_
      have hK9 := hK.sub (tys' := []) [] rfl
      exact W.zret (v := 1) hx hb hr rfl (fun t ht hW => ⟨⟨1, (), rfl, (Or.inr ⟨rfl, g_8⟩), by rw [ht]; exact hP, va_K.moved hW.alike hK9, hD⟩, hS.F ht⟩) hS.2.2 dX11_isWithin_15
noncomputable def wd_c_X11_isBoat_1 (a0 : Nat) (a1 : Nat) (a2 : Nat) (a3 : Nat) (a4 : Nat) (a5 : Nat) (a6 : Int32) (a7 : Nat) (a8 : Nat) (a9 : Nat) (a10 : Nat) (a11 : Nat) (a12 : Nat) (a13 : Nat) (a14 : Nat) (a15 : Nat) (a16 : Int64) (a17 : Nat) (a18 : Nat) (a19 : Int32) (a20 : Int32) (a21 : Int32) : va_W := [(a0, .inr (11, [.ref a1, .ref a2, .ref a3, .ref a4, .ref a5, .int a6, .ref a7, .ref a8, .ref a9, .ref a10, .ref a11, .ref a12, .ref a13, .ref a14, .ref a15, .long a16])), (a17, .inr (0, [.ref a18, .int a19, .int a20, .int a21]))]
noncomputable def wf_c_X11_isBoat_1 : List Cond := List.cons (.code yX11_isBoat cX11_isBoat 2 (some .boolean)) (@HAppend.hAppend (List Cond) (List Cond) (List Cond) _ (@HAppend.hAppend (List Cond) (List Cond) (List Cond) _ [.fieldLink RX11 19 "BuoyVote" "told" "LBuoyVote$Borough;", .fieldLink RX11 272 "BuoyVote$Borough" "boats" "I"] wsX110) wsX00)
theorem iw_c_X11_isBoat_1_X11 : ∀ w ∈ wsX110, w ∈ wf_c_X11_isBoat_1 := fun w h => List.mem_cons_of_mem _ (List.mem_append_left _ (List.mem_append_right _ h))
theorem iw_c_X11_isBoat_1_X0 : ∀ w ∈ wsX00, w ∈ wf_c_X11_isBoat_1 := fun w h => List.mem_cons_of_mem _ (List.mem_append_right _ h)
set_option maxHeartbeats 4000000 in
set_option maxRecDepth 100000 in
theorem c_X11_isBoat_1 (l : Launch) (dC : Nat → ClassId) (dI : Nat → Nat → Nat) (sz : Nat) (h0 : Nat) (p1 : Int32) (h0_0 : Nat) (h0_1 : Nat) (h0_2 : Nat) (h0_3 : Nat) (h0_4 : Nat) (h0_f5 : Int32) (h0_6 : Nat) (h0_7 : Nat) (h0_8 : Nat) (h0_9 : Nat) (h0_10 : Nat) (h0_11 : Nat) (h0_12 : Nat) (h0_13 : Nat) (h0_14 : Nat) (h0_f15 : Int64) (h0_1_0 : Nat) (h0_1_f1 : Int32) (h0_1_f2 : Int32) (h0_1_f3 : Int32) (g_p1 : RG p1 (-1) 99) (g_h0_f5 : RG h0_f5 0 4) (g_h0_1_f1 : RG h0_1_f1 0 8) (g_h0_1_f2 : RG h0_1_f2 0 3) (g_h0_1_f3 : RG h0_1_f3 0 1) : Met l yX11_isBoat wf_c_X11_isBoat_1 ({ frames := 0, cells := 0, slots := 0, locals := 0 }) (va_Pc [.ref h0, .int p1] (fun U => U.heap.size = sz ∧ va_P (dC, dI) vwCl (wd_c_X11_isBoat_1 h0 h0_0 h0_1 h0_2 h0_3 h0_4 h0_f5 h0_6 h0_7 h0_8 h0_9 h0_10 h0_11 h0_12 h0_13 h0_14 h0_f15 h0_1 h0_1_0 h0_1_f1 h0_1_f2 h0_1_f3) U.heap ∧ va_K (dC, dI) vwCl [] U ∧ va_D (fun _ => True) (wd_c_X11_isBoat_1 h0 h0_0 h0_1 h0_2 h0_3 h0_4 h0_f5 h0_6 h0_7 h0_8 h0_9 h0_10 h0_11 h0_12 h0_13 h0_14 h0_f15 h0_1 h0_1_0 h0_1_f1 h0_1_f2 h0_1_f3))) (va_Qi (fun (r : Int32) (u : Unit) => (r = 0) ∨ (r = 1 ∧ RG h0_1_f2 1 3 ∧ RG p1 0 2)) (fun (u : Unit) t => va_P (dC, dI) vwCl (wd_c_X11_isBoat_1 h0 h0_0 h0_1 h0_2 h0_3 h0_4 h0_f5 h0_6 h0_7 h0_8 h0_9 h0_10 h0_11 h0_12 h0_13 h0_14 h0_f15 h0_1 h0_1_0 h0_1_f1 h0_1_f2 h0_1_f3) t.heap ∧ va_K (dC, dI) vwCl [] t ∧ va_D (va_A (wd_c_X11_isBoat_1 h0 h0_0 h0_1 h0_2 h0_3 h0_4 h0_f5 h0_6 h0_7 h0_8 h0_9 h0_10 h0_11 h0_12 h0_13 h0_14 h0_f15 h0_1 h0_1_0 h0_1_f1 h0_1_f2 h0_1_f3) sz) (wd_c_X11_isBoat_1 h0 h0_0 h0_1 h0_2 h0_3 h0_4 h0_f5 h0_6 h0_7 h0_8 h0_9 h0_10 h0_11 h0_12 h0_13 h0_14 h0_f15 h0_1 h0_1_0 h0_1_f1 h0_1_f2 h0_1_f3)) (va_A (wd_c_X11_isBoat_1 h0 h0_0 h0_1 h0_2 h0_3 h0_4 h0_f5 h0_6 h0_7 h0_8 h0_9 h0_10 h0_11 h0_12 h0_13 h0_14 h0_f15 h0_1 h0_1_0 h0_1_f1 h0_1_f2 h0_1_f3) sz)) 0 0 (va_A (wd_c_X11_isBoat_1 h0 h0_0 h0_1 h0_2 h0_3 h0_4 h0_f5 h0_6 h0_7 h0_8 h0_9 h0_10 h0_11 h0_12 h0_13 h0_14 h0_f15 h0_1 h0_1_0 h0_1_f1 h0_1_f2 h0_1_f3) sz) := by
  refine Met.ofW (cc := cX11_isBoat) (maxL := 2) (ret := (some .boolean)) (by decide +kernel) rfl ?_
  intro p e s m args below meth c s₁ B hml hv
  obtain ⟨rfl, hsz, hP, hK, hD0⟩ := hv
  have hx := B.exec
  have hb := B.bytes
  have hr := B.returns
  have hts := atoms_spec (ws := wf_c_X11_isBoat_1) B.pre
  have hown : s.vm.findClass RX11 = some m.cls := findClass_of_methodNamed B.named
  have hlocks := B.notSynchronized
  subst hsz
  have hD := hD0.self (sz := s.heap.size)
  generalize hAe : va_A (wd_c_X11_isBoat_1 h0 h0_0 h0_1 h0_2 h0_3 h0_4 h0_f5 h0_6 h0_7 h0_8 h0_9 h0_10 h0_11 h0_12 h0_13 h0_14 h0_f15 h0_1 h0_1_0 h0_1_f1 h0_1_f2 h0_1_f3) s.heap.size = A at hD ⊢
  have hA : ∀ q : Nat, s.heap.size ≤ q → A q := fun q h => by rw [← hAe]; exact Or.inr h
  have hP : va_P (dC, dI) vwCl (wd_c_X11_isBoat_1 h0 h0_0 h0_1 h0_2 h0_3 h0_4 h0_f5 h0_6 h0_7 h0_8 h0_9 h0_10 h0_11 h0_12 h0_13 h0_14 h0_f15 h0_1 h0_1_0 h0_1_f1 h0_1_f2 h0_1_f3) s.heap := hP
  have hl := lv_entry ([.ref h0, .int p1]) (n := 2) (Nat.le_of_ble_eq_true rfl)
  rw [lg_entry_eq]
  generalize (lg_sl ([.ref h0, .int p1]) ++ List.replicate (2 - (lg_sl ([.ref h0, .int p1])).length) Slot.unset).toArray = ls at hl ⊢
  have hl : lv_has ls 2 [(0, .ref h0), (1, .int p1)] := hl
  obtain ⟨H, hHe⟩ : ∃ H : Heap, s.heap = H := ⟨_, rfl⟩
  have hS : va_S A s.heap H [] := by rw [hHe]; exact va_S.rf
  have hP : va_P (dC, dI) vwCl (wd_c_X11_isBoat_1 h0 h0_0 h0_1 h0_2 h0_3 h0_4 h0_f5 h0_6 h0_7 h0_8 h0_9 h0_10 h0_11 h0_12 h0_13 h0_14 h0_f15 h0_1 h0_1_0 h0_1_f1 h0_1_f2 h0_1_f3) H := by rw [← hHe]; exact hP
  rw [hHe]
  refine lv_iload_n hx hb dX11_isBoat_0 rfl (lv_at hl 1 rfl) ?_
  as_aux_lemma =>
  refine lv_if_lt (tgt := 19) hx hb dX11_isBoat_1 rfl (fun c_1 => ?_) (fun c_1 => ?_)
  · have g_2 : RG p1 (-1) (-1) := RG_lt1 g_p1 (RG_k 0 0 rfl) c_1 (by decide +kernel)
    refine lv_iconst (v := 0) hx hb dX11_isBoat_19 kc_iconst_0 ?_
    have hK9 := hK.sub (tys' := []) [] rfl
    exact W.zret (v := 0) hx hb hr rfl (fun t ht hW => ⟨⟨0, (), rfl, (Or.inl rfl), by rw [ht]; exact hP, va_K.moved hW.alike hK9, hD⟩, hS.F ht⟩) hS.2.2 dX11_isBoat_20
  · have d_3 := Int32.not_lt.mp c_1
    have g_4 : RG p1 0 99 := RG_le2 (RG_k 0 0 rfl) g_p1 d_3 (by decide +kernel)
    refine lv_iload_n hx hb dX11_isBoat_4 rfl (lv_at hl 1 rfl) ?_
    refine lv_aload_n hx hb dX11_isBoat_5 rfl (lv_at hl 0 rfl) ?_
    refine va_get (D := (dC, dI)) (ci := 11) (v := .ref h0_1) (C := RX11) (T := TX11) (N := 16) hx hb hts iw_c_X11_isBoat_1_X11 hown hK hP 0 rfl rfl 1 (by decide +kernel) (hts (.fieldLink RX11 19 "BuoyVote" "told" "LBuoyVote$Borough;") (List.mem_of_getElem? (i := 1) rfl)) (fun _ h9 => h9) rfl dX11_isBoat_6 ?_
    refine va_get (D := (dC, dI)) (ci := 0) (v := .int h0_1_f2) (C := RX0) (T := TX0) (N := 4) hx hb hts iw_c_X11_isBoat_1_X0 hown hK hP 1 rfl rfl 2 (by decide +kernel) (hts (.fieldLink RX11 272 "BuoyVote$Borough" "boats" "I") (List.mem_of_getElem? (i := 2) rfl)) (fun _ h9 => h9) rfl dX11_isBoat_9 ?_
    refine lv_icmp_ge (tgt := 19) hx hb dX11_isBoat_12 rfl (fun c_5 => ?_) (fun c_5 => ?_)
    · refine lv_iconst (v := 0) hx hb dX11_isBoat_19 kc_iconst_0 ?_
      have hK9 := hK.sub (tys' := []) [] rfl
      exact W.zret (v := 0) hx hb hr rfl (fun t ht hW => ⟨⟨0, (), rfl, (Or.inl rfl), by rw [ht]; exact hP, va_K.moved hW.alike hK9, hD⟩, hS.F ht⟩) hS.2.2 dX11_isBoat_20
    · have d_6 := Int32.not_le.mp c_5
      have g_7 : RG p1 0 2 := RG_lt1 g_4 g_h0_1_f2 d_6 (by decide +kernel)
      have g_8 : RG h0_1_f2 1 3 := RG_lt2 g_4 g_h0_1_f2 d_6 (by decide +kernel)
      refine lv_iconst (v := 1) hx hb dX11_isBoat_15 kc_iconst_1 ?_
      as_aux_lemma =>
      refine lv_goto (tgt := 20) hx hb dX11_isBoat_16 rfl ?_
      have hK9 := hK.sub (tys' := []) [] rfl
      exact W.zret (v := 1) hx hb hr rfl (fun t ht hW => ⟨⟨1, (), rfl, (Or.inr ⟨rfl, g_8, g_7⟩), by rw [ht]; exact hP, va_K.moved hW.alike hK9, hD⟩, hS.F ht⟩) hS.2.2 dX11_isBoat_20
noncomputable def wf_c_X11_isWithin_9 : List Cond := .code yX11_isWithin cX11_isWithin 3 (some .boolean) :: ([])
set_option maxHeartbeats 4000000 in
set_option maxRecDepth 100000 in
theorem c_X11_isWithin_9 (l : Launch) (dC : Nat → ClassId) (dI : Nat → Nat → Nat) (sz : Nat) (p0 : Int32) (g_p0 : RG p0 (-1) 99) : Met l yX11_isWithin wf_c_X11_isWithin_9 ({ frames := 0, cells := 0, slots := 0, locals := 0 }) (va_Pc [.int p0, .int 0, .int 9] (fun U => U.heap.size = sz ∧ va_P (dC, dI) vwCl [] U.heap ∧ va_K (dC, dI) vwCl [] U ∧ va_D (fun _ => True) [])) (va_Qi (fun (r : Int32) (u : Unit) => (r = 0) ∨ (r = 1 ∧ RG p0 0 9)) (fun (u : Unit) t => va_P (dC, dI) vwCl [] t.heap ∧ va_K (dC, dI) vwCl [] t ∧ va_D (va_A [] sz) []) (va_A [] sz)) 0 0 (va_A [] sz) := by
  refine Met.ofW (cc := cX11_isWithin) (maxL := 3) (ret := (some .boolean)) (by decide +kernel) rfl ?_
  intro p e s m args below meth c s₁ B hml hv
  obtain ⟨rfl, hsz, hP, hK, hD0⟩ := hv
  have hx := B.exec
  have hb := B.bytes
  have hr := B.returns
  have hts := atoms_spec (ws := wf_c_X11_isWithin_9) B.pre
  have hown : s.vm.findClass RX11 = some m.cls := findClass_of_methodNamed B.named
  have hlocks := B.notSynchronized
  subst hsz
  have hD := hD0.self (sz := s.heap.size)
  generalize hAe : va_A [] s.heap.size = A at hD ⊢
  have hA : ∀ q : Nat, s.heap.size ≤ q → A q := fun q h => by rw [← hAe]; exact Or.inr h
  have hP : va_P (dC, dI) vwCl [] s.heap := hP
  have hl := lv_entry ([.int p0, .int 0, .int 9]) (n := 3) (Nat.le_of_ble_eq_true rfl)
  rw [lg_entry_eq]
  generalize (lg_sl ([.int p0, .int 0, .int 9]) ++ List.replicate (3 - (lg_sl ([.int p0, .int 0, .int 9])).length) Slot.unset).toArray = ls at hl ⊢
  have hl : lv_has ls 3 [(0, .int p0), (1, .int 0), (2, .int 9)] := hl
  obtain ⟨H, hHe⟩ : ∃ H : Heap, s.heap = H := ⟨_, rfl⟩
  have hS : va_S A s.heap H [] := by rw [hHe]; exact va_S.rf
  have hP : va_P (dC, dI) vwCl [] H := by rw [← hHe]; exact hP
  rw [hHe]
  refine lv_iload_n hx hb dX11_isWithin_0 rfl (lv_at hl 0 rfl) ?_
  as_aux_lemma =>
  refine lv_iload_n hx hb dX11_isWithin_1 rfl (lv_at hl 1 rfl) ?_
  refine lv_icmp_lt (tgt := 14) hx hb dX11_isWithin_2 rfl (fun c_1 => ?_) (fun c_1 => ?_)
  · have g_2 : RG p0 (-1) (-1) := RG_lt1 g_p0 (RG_k 0 0 rfl) c_1 (by decide +kernel)
    refine lv_iconst (v := 0) hx hb dX11_isWithin_14 kc_iconst_0 ?_
    have hK9 := hK.sub (tys' := []) [] rfl
    exact W.zret (v := 0) hx hb hr rfl (fun t ht hW => ⟨⟨0, (), rfl, (Or.inl rfl), by rw [ht]; exact hP, va_K.moved hW.alike hK9, hD⟩, hS.F ht⟩) hS.2.2 dX11_isWithin_15
  · have d_3 := Int32.not_lt.mp c_1
    have g_4 : RG p0 0 99 := RG_le2 (RG_k 0 0 rfl) g_p0 d_3 (by decide +kernel)
    refine lv_iload_n hx hb dX11_isWithin_5 rfl (lv_at hl 0 rfl) ?_
    refine lv_iload_n hx hb dX11_isWithin_6 rfl (lv_at hl 2 rfl) ?_
    refine lv_icmp_gt (tgt := 14) hx hb dX11_isWithin_7 rfl (fun c_5 => ?_) (fun c_5 => ?_)
    · have g_6 : RG p0 10 99 := RG_lt2 (RG_k 9 9 rfl) g_4 c_5 (by decide +kernel)
      refine lv_iconst (v := 0) hx hb dX11_isWithin_14 kc_iconst_0 ?_
      have hK9 := hK.sub (tys' := []) [] rfl
      exact W.zret (v := 0) hx hb hr rfl (fun t ht hW => ⟨⟨0, (), rfl, (Or.inl rfl), by rw [ht]; exact hP, va_K.moved hW.alike hK9, hD⟩, hS.F ht⟩) hS.2.2 dX11_isWithin_15
    · have d_7 := Int32.not_lt.mp c_5
      have g_8 : RG p0 0 9 := RG_le1 g_4 (RG_k 9 9 rfl) d_7 (by decide +kernel)
      refine lv_iconst (v := 1) hx hb dX11_isWithin_10 kc_iconst_1 ?_
      as_aux_lemma =>
      refine lv_goto (tgt := 15) hx hb dX11_isWithin_11 rfl ?_
      have hK9 := hK.sub (tys' := []) [] rfl
      exact W.zret (v := 1) hx hb hr rfl (fun t ht hW => ⟨⟨1, (), rfl, (Or.inr ⟨rfl, g_8⟩), by rw [ht]; exact hP, va_K.moved hW.alike hK9, hD⟩, hS.F ht⟩) hS.2.2 dX11_isWithin_15
noncomputable def wd_c_X11_canRow_1 (a0 : Nat) (a1 : Nat) (a2 : Nat) (a3 : Nat) (a4 : Nat) (a5 : Nat) (a6 : Int32) (a7 : Nat) (a8 : Nat) (a9 : Nat) (a10 : Nat) (a11 : Nat) (a12 : Nat) (a13 : Nat) (a14 : Nat) (a15 : Nat) (a16 : Int64) (a17 : Nat) (a18 : Nat) (a19 : Int32) (a20 : Int32) (a21 : Int32) (a22 : Nat) (a23 : Int32) (a24 : Int32) (a25 : Int32) (a26 : Int32) (a27 : Nat) (a28 : Nat) (a29 : Nat) (a30 : Nat) (a31 : Nat) (a32 : Nat) (a33 : Nat) (a34 : Nat) (a35 : Nat) (a36 : Nat) (a37 : ClassId) (a38 : Nat → Int32) (a39 : Nat) (a40 : ClassId) (a41 : Nat → Int32) : va_W := [(a0, .inr (11, [.ref a1, .ref a2, .ref a3, .ref a4, .ref a5, .int a6, .ref a7, .ref a8, .ref a9, .ref a10, .ref a11, .ref a12, .ref a13, .ref a14, .ref a15, .long a16])), (a17, .inr (0, [.ref a18, .int a19, .int a20, .int a21])), (a22, .inr (7, [.int a23, .int a24, .int a25, .int a26, .ref a27, .ref a28, .ref a29, .ref a30, .ref a31, .ref a32, .ref a33, .ref a34, .ref a35])), (a36, .inl (a37, 3, .inl a38)), (a39, .inl (a40, 3, .inl a41))]
noncomputable def wf_c_X11_canRow_1 : List Cond := List.cons (.code yX11_canRow cX11_canRow 5 (some .boolean)) (@HAppend.hAppend (List Cond) (List Cond) (List Cond) _ (@HAppend.hAppend (List Cond) (List Cond) (List Cond) _ (@HAppend.hAppend (List Cond) (List Cond) (List Cond) _ [.methodLink RX11 191 yX11_isBoat, .instanceMethod yX11_isBoat, .selects RX11 yX11_isBoat yX11_isBoat, .initialized RX11, .code yX11_isBoat cX11_isBoat 2 (some .boolean), .fieldLink RX11 19 "BuoyVote" "told" "LBuoyVote$Borough;", .fieldLink RX11 272 "BuoyVote$Borough" "boats" "I", .methodLink RX11 111 yX11_isWithin, .static yX11_isWithin, .code yX11_isWithin cX11_isWithin 3 (some .boolean), .fieldLink RX11 206 "BuoyVote$Sea" "goalX" "[I", .fieldLink RX11 209 "BuoyVote$Sea" "goalY" "[I"] wsX110) wsX00) wsX70)
theorem iw_c_X11_canRow_1_X11 : ∀ w ∈ wsX110, w ∈ wf_c_X11_canRow_1 := fun w h => List.mem_cons_of_mem _ (List.mem_append_left _ (List.mem_append_left _ (List.mem_append_right _ h)))
theorem iw_c_X11_canRow_1_X0 : ∀ w ∈ wsX00, w ∈ wf_c_X11_canRow_1 := fun w h => List.mem_cons_of_mem _ (List.mem_append_left _ (List.mem_append_right _ h))
theorem iw_c_X11_canRow_1_X7 : ∀ w ∈ wsX70, w ∈ wf_c_X11_canRow_1 := fun w h => List.mem_cons_of_mem _ (List.mem_append_right _ h)
set_option maxRecDepth 20000 in
theorem gf_c_X11_canRow_1_c_X11_isBoat_1 : GoodIn wf_c_X11_canRow_1 (wsV RX11 191 RX11 yX11_isBoat wf_c_X11_isBoat_1) := goodIn_app (gi_l [1, 2, 3, 4] rfl rfl) (gi_cons (j := 5) rfl rfl (goodIn_app (goodIn_app (gi_l [6, 7] rfl rfl) (goodIn_sub iw_c_X11_canRow_1_X11 gw_X11)) (goodIn_sub iw_c_X11_canRow_1_X0 gw_X0)))
set_option maxRecDepth 20000 in
theorem gf_c_X11_canRow_1_c_X11_isWithin_9 : GoodIn wf_c_X11_canRow_1 (va_wsS RX11 111 yX11_isWithin wf_c_X11_isWithin_9) := goodIn_app (gi_l [8, 9, 4] rfl rfl) (gi_cons (j := 10) rfl rfl gi_nil)
set_option maxHeartbeats 4000000 in
set_option maxRecDepth 100000 in
theorem c_X11_canRow_1 (l : Launch) (dC : Nat → ClassId) (dI : Nat → Nat → Nat) (sz : Nat) (h0 : Nat) (h1 : Nat) (p2 : Int32) (p3 : Int32) (p4 : Int32) (h0_0 : Nat) (h0_1 : Nat) (h0_2 : Nat) (h0_3 : Nat) (h0_4 : Nat) (h0_f5 : Int32) (h0_6 : Nat) (h0_7 : Nat) (h0_8 : Nat) (h0_9 : Nat) (h0_10 : Nat) (h0_11 : Nat) (h0_12 : Nat) (h0_13 : Nat) (h0_14 : Nat) (h0_f15 : Int64) (h0_1_0 : Nat) (h0_1_f1 : Int32) (h0_1_f2 : Int32) (h0_1_f3 : Int32) (h1_f0 : Int32) (h1_f1 : Int32) (h1_f2 : Int32) (h1_f3 : Int32) (h1_4 : Nat) (h1_5 : Nat) (h1_6 : Nat) (h1_7 : Nat) (h1_8 : Nat) (h1_9 : Nat) (h1_10 : Nat) (h1_11 : Nat) (h1_12 : Nat) (h1_6k : ClassId) (h1_6c : Nat → Int32) (h1_7k : ClassId) (h1_7c : Nat → Int32) (g_p2 : RG p2 (-1) 99) (g_p3 : RG p3 (-1) 99) (g_p4 : RG p4 (-1) 99) (g_h0_f5 : RG h0_f5 0 4) (g_h0_1_f1 : RG h0_1_f1 0 8) (g_h0_1_f2 : RG h0_1_f2 0 3) (g_h0_1_f3 : RG h0_1_f3 0 1) : Met l yX11_canRow wf_c_X11_canRow_1 ({ frames := 1, cells := 0, slots := 0, locals := 22 }) (va_Pc [.ref h0, .ref h1, .int p2, .int p3, .int p4] (fun U => U.heap.size = sz ∧ va_P (dC, dI) vwCl (wd_c_X11_canRow_1 h0 h0_0 h0_1 h0_2 h0_3 h0_4 h0_f5 h0_6 h0_7 h0_8 h0_9 h0_10 h0_11 h0_12 h0_13 h0_14 h0_f15 h0_1 h0_1_0 h0_1_f1 h0_1_f2 h0_1_f3 h1 h1_f0 h1_f1 h1_f2 h1_f3 h1_4 h1_5 h1_6 h1_7 h1_8 h1_9 h1_10 h1_11 h1_12 h1_6 h1_6k h1_6c h1_7 h1_7k h1_7c) U.heap ∧ va_K (dC, dI) vwCl [(h1_6k, .int), (h1_7k, .int)] U ∧ va_D (fun _ => True) (wd_c_X11_canRow_1 h0 h0_0 h0_1 h0_2 h0_3 h0_4 h0_f5 h0_6 h0_7 h0_8 h0_9 h0_10 h0_11 h0_12 h0_13 h0_14 h0_f15 h0_1 h0_1_0 h0_1_f1 h0_1_f2 h0_1_f3 h1 h1_f0 h1_f1 h1_f2 h1_f3 h1_4 h1_5 h1_6 h1_7 h1_8 h1_9 h1_10 h1_11 h1_12 h1_6 h1_6k h1_6c h1_7 h1_7k h1_7c))) (va_Qi (fun (r : Int32) (u : Unit) => (r = 0) ∨ (r = 1 ∧ RG h0_1_f2 1 3 ∧ RG p2 0 2 ∧ RG p3 0 9 ∧ RG p4 0 9)) (fun (u : Unit) t => va_P (dC, dI) vwCl (wd_c_X11_canRow_1 h0 h0_0 h0_1 h0_2 h0_3 h0_4 h0_f5 h0_6 h0_7 h0_8 h0_9 h0_10 h0_11 h0_12 h0_13 h0_14 h0_f15 h0_1 h0_1_0 h0_1_f1 h0_1_f2 h0_1_f3 h1 h1_f0 h1_f1 h1_f2 h1_f3 h1_4 h1_5 h1_6 h1_7 h1_8 h1_9 h1_10 h1_11 h1_12 h1_6 h1_6k h1_6c h1_7 h1_7k h1_7c) t.heap ∧ va_K (dC, dI) vwCl [] t ∧ va_D (va_A (wd_c_X11_canRow_1 h0 h0_0 h0_1 h0_2 h0_3 h0_4 h0_f5 h0_6 h0_7 h0_8 h0_9 h0_10 h0_11 h0_12 h0_13 h0_14 h0_f15 h0_1 h0_1_0 h0_1_f1 h0_1_f2 h0_1_f3 h1 h1_f0 h1_f1 h1_f2 h1_f3 h1_4 h1_5 h1_6 h1_7 h1_8 h1_9 h1_10 h1_11 h1_12 h1_6 h1_6k h1_6c h1_7 h1_7k h1_7c) sz) (wd_c_X11_canRow_1 h0 h0_0 h0_1 h0_2 h0_3 h0_4 h0_f5 h0_6 h0_7 h0_8 h0_9 h0_10 h0_11 h0_12 h0_13 h0_14 h0_f15 h0_1 h0_1_0 h0_1_f1 h0_1_f2 h0_1_f3 h1 h1_f0 h1_f1 h1_f2 h1_f3 h1_4 h1_5 h1_6 h1_7 h1_8 h1_9 h1_10 h1_11 h1_12 h1_6 h1_6k h1_6c h1_7 h1_7k h1_7c)) (va_A (wd_c_X11_canRow_1 h0 h0_0 h0_1 h0_2 h0_3 h0_4 h0_f5 h0_6 h0_7 h0_8 h0_9 h0_10 h0_11 h0_12 h0_13 h0_14 h0_f15 h0_1 h0_1_0 h0_1_f1 h0_1_f2 h0_1_f3 h1 h1_f0 h1_f1 h1_f2 h1_f3 h1_4 h1_5 h1_6 h1_7 h1_8 h1_9 h1_10 h1_11 h1_12 h1_6 h1_6k h1_6c h1_7 h1_7k h1_7c) sz)) 0 0 (va_A (wd_c_X11_canRow_1 h0 h0_0 h0_1 h0_2 h0_3 h0_4 h0_f5 h0_6 h0_7 h0_8 h0_9 h0_10 h0_11 h0_12 h0_13 h0_14 h0_f15 h0_1 h0_1_0 h0_1_f1 h0_1_f2 h0_1_f3 h1 h1_f0 h1_f1 h1_f2 h1_f3 h1_4 h1_5 h1_6 h1_7 h1_8 h1_9 h1_10 h1_11 h1_12 h1_6 h1_6k h1_6c h1_7 h1_7k h1_7c) sz) := by
  refine Met.ofW (cc := cX11_canRow) (maxL := 5) (ret := (some .boolean)) (by decide +kernel) rfl ?_
  intro p e s m args below meth c s₁ B hml hv
  obtain ⟨rfl, hsz, hP, hK, hD0⟩ := hv
  have hx := B.exec
  have hb := B.bytes
  have hr := B.returns
  have hts := atoms_spec (ws := wf_c_X11_canRow_1) B.pre
  have hown : s.vm.findClass RX11 = some m.cls := findClass_of_methodNamed B.named
  have hlocks := B.notSynchronized
  subst hsz
  have hD := hD0.self (sz := s.heap.size)
  generalize hAe : va_A (wd_c_X11_canRow_1 h0 h0_0 h0_1 h0_2 h0_3 h0_4 h0_f5 h0_6 h0_7 h0_8 h0_9 h0_10 h0_11 h0_12 h0_13 h0_14 h0_f15 h0_1 h0_1_0 h0_1_f1 h0_1_f2 h0_1_f3 h1 h1_f0 h1_f1 h1_f2 h1_f3 h1_4 h1_5 h1_6 h1_7 h1_8 h1_9 h1_10 h1_11 h1_12 h1_6 h1_6k h1_6c h1_7 h1_7k h1_7c) s.heap.size = A at hD ⊢
  have hA : ∀ q : Nat, s.heap.size ≤ q → A q := fun q h => by rw [← hAe]; exact Or.inr h
  have hP : va_P (dC, dI) vwCl (wd_c_X11_canRow_1 h0 h0_0 h0_1 h0_2 h0_3 h0_4 h0_f5 h0_6 h0_7 h0_8 h0_9 h0_10 h0_11 h0_12 h0_13 h0_14 h0_f15 h0_1 h0_1_0 h0_1_f1 h0_1_f2 h0_1_f3 h1 h1_f0 h1_f1 h1_f2 h1_f3 h1_4 h1_5 h1_6 h1_7 h1_8 h1_9 h1_10 h1_11 h1_12 h1_6 h1_6k h1_6c h1_7 h1_7k h1_7c) s.heap := hP
  have hl := lv_entry ([.ref h0, .ref h1, .int p2, .int p3, .int p4]) (n := 5) (Nat.le_of_ble_eq_true rfl)
  rw [lg_entry_eq]
  generalize (lg_sl ([.ref h0, .ref h1, .int p2, .int p3, .int p4]) ++ List.replicate (5 - (lg_sl ([.ref h0, .ref h1, .int p2, .int p3, .int p4])).length) Slot.unset).toArray = ls at hl ⊢
  have hl : lv_has ls 5 [(0, .ref h0), (1, .ref h1), (2, .int p2), (3, .int p3), (4, .int p4)] := hl
  obtain ⟨H, hHe⟩ : ∃ H : Heap, s.heap = H := ⟨_, rfl⟩
  have hS : va_S A s.heap H [] := by rw [hHe]; exact va_S.rf
  have hP : va_P (dC, dI) vwCl (wd_c_X11_canRow_1 h0 h0_0 h0_1 h0_2 h0_3 h0_4 h0_f5 h0_6 h0_7 h0_8 h0_9 h0_10 h0_11 h0_12 h0_13 h0_14 h0_f15 h0_1 h0_1_0 h0_1_f1 h0_1_f2 h0_1_f3 h1 h1_f0 h1_f1 h1_f2 h1_f3 h1_4 h1_5 h1_6 h1_7 h1_8 h1_9 h1_10 h1_11 h1_12 h1_6 h1_6k h1_6c h1_7 h1_7k h1_7c) H := by rw [← hHe]; exact hP
  rw [hHe]
  refine wj (fun G hG hU => ?_)
  as_aux_lemma =>
  have J52 : ∀ (g_h0_1_f1 : RG h0_1_f1 0 8) (g_h0_1_f2 : RG h0_1_f2 1 3) (g_h0_1_f3 : RG h0_1_f3 0 1) (g_h0_f5 : RG h0_f5 0 4) (g_p2 : RG p2 0 2) (g_p3 : RG p3 0 9) (g_p4 : RG p4 0 9) (H : Heap) (locs : List Loc) (ls : Array Slot) (hP : va_P (dC, dI) vwCl (wd_c_X11_canRow_1 h0 h0_0 h0_1 h0_2 h0_3 h0_4 h0_f5 h0_6 h0_7 h0_8 h0_9 h0_10 h0_11 h0_12 h0_13 h0_14 h0_f15 h0_1 h0_1_0 h0_1_f1 h0_1_f2 h0_1_f3 h1 h1_f0 h1_f1 h1_f2 h1_f3 h1_4 h1_5 h1_6 h1_7 h1_8 h1_9 h1_10 h1_11 h1_12 h1_6 h1_6k h1_6c h1_7 h1_7k h1_7c) H) (hD : va_D A (wd_c_X11_canRow_1 h0 h0_0 h0_1 h0_2 h0_3 h0_4 h0_f5 h0_6 h0_7 h0_8 h0_9 h0_10 h0_11 h0_12 h0_13 h0_14 h0_f15 h0_1 h0_1_0 h0_1_f1 h0_1_f2 h0_1_f3 h1 h1_f0 h1_f1 h1_f2 h1_f3 h1_4 h1_5 h1_6 h1_7 h1_8 h1_9 h1_10 h1_11 h1_12 h1_6 h1_6k h1_6c h1_7 h1_7k h1_7c)) (hS : va_S A s.heap H locs) (hl : lv_has ls 5 []), G H locs (F0 m 52 ls []) := by
    as_aux_lemma =>
    intro g_h0_1_f1 g_h0_1_f2 g_h0_1_f3 g_h0_f5 g_p2 g_p3 g_p4 H locs ls hP hD hS hl
    refine hG _ _ _ ?_
    refine lv_iconst (v := 1) hx hb dX11_canRow_52 kc_iconst_1 ?_
    refine lv_goto (tgt := 57) hx hb dX11_canRow_53 rfl ?_
    have hK9 := hK.sub (tys' := []) [] rfl
    exact W.zret (v := 1) hx hb hr rfl (fun t ht hW => ⟨⟨1, (), rfl, (Or.inr ⟨rfl, g_h0_1_f2, g_p2, g_p3, g_p4⟩), by rw [ht]; exact hP, va_K.moved hW.alike hK9, hD⟩, hS.F ht⟩) hS.2.2 dX11_canRow_57
  refine hG _ _ _ ?_
  refine lv_aload_n hx hb dX11_canRow_0 rfl (lv_at hl 0 rfl) ?_
  refine lv_iload_n hx hb dX11_canRow_1 rfl (lv_at hl 2 rfl) ?_
  obtain ⟨hPc, hDc, hFc, hqc⟩ := cl_cut (wc := (wd_c_X11_isBoat_1 h0 h0_0 h0_1 h0_2 h0_3 h0_4 h0_f5 h0_6 h0_7 h0_8 h0_9 h0_10 h0_11 h0_12 h0_13 h0_14 h0_f15 h0_1 h0_1_0 h0_1_f1 h0_1_f2 h0_1_f3)) hP hD hS hA [0, 1] (by decide +kernel) rfl
  have hKc := hK.sub (tys' := []) [] rfl
  have hrv := va_recv hKc hPc (ci := 11) (q0 := 0) rfl rfl
  refine va_calli (va_runV (As := [.int p2]) (rest := []) ⟨hx, hb, hml, hown, hts⟩ (c_X11_isBoat_1 l dC dI H.size h0 p2 h0_0 h0_1 h0_2 h0_3 h0_4 h0_f5 h0_6 h0_7 h0_8 h0_9 h0_10 h0_11 h0_12 h0_13 h0_14 h0_f15 h0_1_0 h0_1_f1 h0_1_f2 h0_1_f3 g_p2 g_h0_f5 g_h0_1_f1 g_h0_1_f2 g_h0_1_f3) (cwV 1 hts gf_c_X11_canRow_1_c_X11_isBoat_1 rfl rfl rfl mdV_X11_isBoat ⟨Nat.le_of_ble_eq_true rfl, Nat.le_of_ble_eq_true rfl⟩) ⟨fun a U g mk q => by obtain ⟨q0, q1, qP, qK, qD⟩ := q; exact ⟨q0, q1, qP, va_K.moved (u := U) (U := U.calling g mk a) (Vm.Alike.refl U.vm) qK, qD⟩, hrv, fun U hU hW => ⟨rfl, by rw [hU], by rw [hU]; exact hPc, va_K.moved hW.alike hKc, hDc.weaken (fun _ _ _ _ => trivial)⟩⟩ rfl rfl hl.1 rfl (lv_room (Nat.le_of_ble_eq_true rfl)) dX11_canRow_2 ⟨Nat.le_of_ble_eq_true rfl, Nat.le_of_ble_eq_true rfl⟩) hS (fun q _ h => hFc q h) hFc (fun r_1 u t H1 locs ht hvm hw hB hz1 hk1 hS => ?_)
  obtain ⟨hP1, hK1, hD1⟩ := hB
  rw [ht] at hP1
  obtain ⟨hP, hD⟩ := cl_put (w1 := (wd_c_X11_isBoat_1 h0 h0_0 h0_1 h0_2 h0_3 h0_4 h0_f5 h0_6 h0_7 h0_8 h0_9 h0_10 h0_11 h0_12 h0_13 h0_14 h0_f15 h0_1 h0_1_0 h0_1_f1 h0_1_f2 h0_1_f3)) (nw := (wd_c_X11_canRow_1 h0 h0_0 h0_1 h0_2 h0_3 h0_4 h0_f5 h0_6 h0_7 h0_8 h0_9 h0_10 h0_11 h0_12 h0_13 h0_14 h0_f15 h0_1 h0_1_0 h0_1_f1 h0_1_f2 h0_1_f3 h1 h1_f0 h1_f1 h1_f2 h1_f3 h1_4 h1_5 h1_6 h1_7 h1_8 h1_9 h1_10 h1_11 h1_12 h1_6 h1_6k h1_6c h1_7 h1_7k h1_7c)) hP hD [0, 1] [5, 6, 2, 3, 4] 5 rfl hqc (by decide +kernel) rfl hk1 hFc hP1 hD1
  generalize H1 = H at hP hS ⊢
  as_aux_lemma =>
  rcases hw with h_2 | ⟨h_3, h_4, h_5⟩
  · rw [h_2]
    refine lv_if_eq (tgt := 29) hx hb dX11_canRow_5 rfl (fun c_6 => ?_) (fun c_6 => absurd c_6 (by decide +kernel))
    refine lv_iconst (v := 0) hx hb dX11_canRow_29 kc_iconst_0 ?_
    have hK9 := hK.sub (tys' := []) [] rfl
    exact W.zret (v := 0) hx hb hr rfl (fun t ht hW => ⟨⟨0, (), rfl, (Or.inl rfl), by rw [ht]; exact hP, va_K.moved hW.alike hK9, hD⟩, hS.F ht⟩) hS.2.2 dX11_canRow_30
  · rw [h_3]
    refine lv_if_eq (tgt := 29) hx hb dX11_canRow_5 rfl (fun c_7 => absurd c_7 (by decide +kernel)) (fun c_7 => ?_)
    refine lv_iload_n hx hb dX11_canRow_8 rfl (lv_at hl 3 rfl) ?_
    refine lv_iconst (v := 0) hx hb dX11_canRow_9 kc_iconst_0 ?_
    refine lv_bipush (v := 9) hx hb dX11_canRow_10 kc_bipush_9 ?_
    obtain ⟨hPc, hDc, hFc, hqc⟩ := cl_cut (wc := []) hP hD hS hA [] (by decide +kernel) rfl
    have hKc := hK.sub (tys' := []) [] rfl
    refine va_calli (va_runS (As := [.int p3, .int 0, .int 9]) (rest := []) ⟨hx, hb, hml, hown, hts⟩ (c_X11_isWithin_9 l dC dI H.size p3 g_p3) (va_cwS 3 hts gf_c_X11_canRow_1_c_X11_isWithin_9 rfl rfl rfl md_X11_isWithin ⟨Nat.le_of_ble_eq_true rfl, Nat.le_of_ble_eq_true rfl⟩) ⟨fun a U g mk q => by obtain ⟨q0, q1, qP, qK, qD⟩ := q; exact ⟨q0, q1, qP, va_K.moved (u := U) (U := U.calling g mk a) (Vm.Alike.refl U.vm) qK, qD⟩, fun U hU hW => ⟨rfl, by rw [hU], by rw [hU]; exact hPc, va_K.moved hW.alike hKc, hDc.weaken (fun _ _ _ _ => trivial)⟩⟩ rfl rfl hl.1 rfl (lv_room (Nat.le_of_ble_eq_true rfl)) dX11_canRow_12 ⟨Nat.le_of_ble_eq_true rfl, Nat.le_of_ble_eq_true rfl⟩) hS (fun q _ h => hFc q h) hFc (fun r_8 u t H1 locs ht hvm hw hB hz1 hk1 hS => ?_)
    as_aux_lemma =>
    obtain ⟨hP1, hK1, hD1⟩ := hB
    rw [ht] at hP1
    have hP := bv_still hP hk1
    generalize H1 = H at hP hS ⊢
    as_aux_lemma =>
    rcases hw with h_9 | ⟨h_10, h_11⟩
    · rw [h_9]
      refine lv_if_eq (tgt := 29) hx hb dX11_canRow_15 rfl (fun c_12 => ?_) (fun c_12 => absurd c_12 (by decide +kernel))
      refine lv_iconst (v := 0) hx hb dX11_canRow_29 kc_iconst_0 ?_
      have hK9 := hK.sub (tys' := []) [] rfl
      exact W.zret (v := 0) hx hb hr rfl (fun t ht hW => ⟨⟨0, (), rfl, (Or.inl rfl), by rw [ht]; exact hP, va_K.moved hW.alike hK9, hD⟩, hS.F ht⟩) hS.2.2 dX11_canRow_30
    · rw [h_10]
      refine lv_if_eq (tgt := 29) hx hb dX11_canRow_15 rfl (fun c_13 => absurd c_13 (by decide +kernel)) (fun c_13 => ?_)
      refine lv_iload hx hb dX11_canRow_18 (lv_at hl 4 rfl) ?_
      refine lv_iconst (v := 0) hx hb dX11_canRow_20 kc_iconst_0 ?_
      refine lv_bipush (v := 9) hx hb dX11_canRow_21 kc_bipush_9 ?_
      obtain ⟨hPc, hDc, hFc, hqc⟩ := cl_cut (wc := []) hP hD hS hA [] (by decide +kernel) rfl
      have hKc := hK.sub (tys' := []) [] rfl
      refine va_calli (va_runS (As := [.int p4, .int 0, .int 9]) (rest := []) ⟨hx, hb, hml, hown, hts⟩ (c_X11_isWithin_9 l dC dI H.size p4 g_p4) (va_cwS 3 hts gf_c_X11_canRow_1_c_X11_isWithin_9 rfl rfl rfl md_X11_isWithin ⟨Nat.le_of_ble_eq_true rfl, Nat.le_of_ble_eq_true rfl⟩) ⟨fun a U g mk q => by obtain ⟨q0, q1, qP, qK, qD⟩ := q; exact ⟨q0, q1, qP, va_K.moved (u := U) (U := U.calling g mk a) (Vm.Alike.refl U.vm) qK, qD⟩, fun U hU hW => ⟨rfl, by rw [hU], by rw [hU]; exact hPc, va_K.moved hW.alike hKc, hDc.weaken (fun _ _ _ _ => trivial)⟩⟩ rfl rfl hl.1 rfl (lv_room (Nat.le_of_ble_eq_true rfl)) dX11_canRow_23 ⟨Nat.le_of_ble_eq_true rfl, Nat.le_of_ble_eq_true rfl⟩) hS (fun q _ h => hFc q h) hFc (fun r_14 u t H1 locs ht hvm hw hB hz1 hk1 hS => ?_)
      as_aux_lemma =>
      obtain ⟨hP1, hK1, hD1⟩ := hB
      rw [ht] at hP1
      have hP := bv_still hP hk1
      generalize H1 = H at hP hS ⊢
      as_aux_lemma =>
      rcases hw with h_15 | ⟨h_16, h_17⟩
      · rw [h_15]
        refine lv_if_ne (tgt := 31) hx hb dX11_canRow_26 rfl (fun c_18 => absurd c_18 (by decide +kernel)) (fun c_18 => ?_)
        refine lv_iconst (v := 0) hx hb dX11_canRow_29 kc_iconst_0 ?_
        have hK9 := hK.sub (tys' := []) [] rfl
        exact W.zret (v := 0) hx hb hr rfl (fun t ht hW => ⟨⟨0, (), rfl, (Or.inl rfl), by rw [ht]; exact hP, va_K.moved hW.alike hK9, hD⟩, hS.F ht⟩) hS.2.2 dX11_canRow_30
      · rw [h_16]
        refine lv_if_ne (tgt := 31) hx hb dX11_canRow_26 rfl (fun c_19 => ?_) (fun c_19 => absurd c_19 (by decide +kernel))
        refine lv_iload_n hx hb dX11_canRow_31 rfl (lv_at hl 3 rfl) ?_
        refine lv_aload_n hx hb dX11_canRow_32 rfl (lv_at hl 1 rfl) ?_
        refine va_get (D := (dC, dI)) (ci := 7) (v := .ref h1_6) (C := RX7) (T := TX7) (N := 13) hx hb hts iw_c_X11_canRow_1_X7 hown hK hP 2 rfl rfl 6 (by decide +kernel) (hts (.fieldLink RX11 206 "BuoyVote$Sea" "goalX" "[I") (List.mem_of_getElem? (i := 11) rfl)) (fun _ h9 => h9) rfl dX11_canRow_33 ?_
        refine lv_iload_n hx hb dX11_canRow_36 rfl (lv_at hl 2 rfl) ?_
        refine va_iald hx hb hK hP 3 0 rfl rfl (RG_in h_5 (by decide +kernel)) dX11_canRow_37 ?_
        refine lv_topi (fun x_20 ex_20 => ?_)
        as_aux_lemma =>
        refine lv_icmp_ne (tgt := 52) hx hb dX11_canRow_38 rfl (fun c_21 => ?_) (fun c_21 => ?_)
        · exact hU _ _ _ (J52 g_h0_1_f1 h_4 g_h0_1_f3 g_h0_f5 h_5 h_11 h_17 _ _ _ hP hD hS (lv_sub hl [] rfl))
        · have g_22 : RG x_20 0 9 := RG_eq1 (RG_any x_20) h_11 c_21.symm (by decide +kernel)
          refine lv_iload hx hb dX11_canRow_41 (lv_at hl 4 rfl) ?_
          refine lv_aload_n hx hb dX11_canRow_43 rfl (lv_at hl 1 rfl) ?_
          refine va_get (D := (dC, dI)) (ci := 7) (v := .ref h1_7) (C := RX7) (T := TX7) (N := 13) hx hb hts iw_c_X11_canRow_1_X7 hown hK hP 2 rfl rfl 7 (by decide +kernel) (hts (.fieldLink RX11 209 "BuoyVote$Sea" "goalY" "[I") (List.mem_of_getElem? (i := 12) rfl)) (fun _ h9 => h9) rfl dX11_canRow_44 ?_
          refine lv_iload_n hx hb dX11_canRow_47 rfl (lv_at hl 2 rfl) ?_
          refine va_iald hx hb hK hP 4 1 rfl rfl (RG_in h_5 (by decide +kernel)) dX11_canRow_48 ?_
          refine lv_topi (fun x_23 ex_23 => ?_)
          refine lv_icmp_eq (tgt := 56) hx hb dX11_canRow_49 rfl (fun c_24 => ?_) (fun c_24 => ?_)
          · have g_25 : RG x_23 0 9 := RG_eq1 (RG_any x_23) h_17 c_24.symm (by decide +kernel)
            refine lv_iconst (v := 0) hx hb dX11_canRow_56 kc_iconst_0 ?_
            have hK9 := hK.sub (tys' := []) [] rfl
            exact W.zret (v := 0) hx hb hr rfl (fun t ht hW => ⟨⟨0, (), rfl, (Or.inl rfl), by rw [ht]; exact hP, va_K.moved hW.alike hK9, hD⟩, hS.F ht⟩) hS.2.2 dX11_canRow_57
          · exact hU _ _ _ (J52 g_h0_1_f1 h_4 g_h0_1_f3 g_h0_f5 h_5 h_11 h_17 _ _ _ hP hD hS (lv_sub hl [] rfl))
noncomputable def wd_c_X11_isBuoy_1 (a0 : Nat) (a1 : Nat) (a2 : Nat) (a3 : Nat) (a4 : Nat) (a5 : Nat) (a6 : Int32) (a7 : Nat) (a8 : Nat) (a9 : Nat) (a10 : Nat) (a11 : Nat) (a12 : Nat) (a13 : Nat) (a14 : Nat) (a15 : Nat) (a16 : Int64) (a17 : Nat) (a18 : Nat) (a19 : Int32) (a20 : Int32) (a21 : Int32) : va_W := [(a0, .inr (11, [.ref a1, .ref a2, .ref a3, .ref a4, .ref a5, .int a6, .ref a7, .ref a8, .ref a9, .ref a10, .ref a11, .ref a12, .ref a13, .ref a14, .ref a15, .long a16])), (a17, .inr (0, [.ref a18, .int a19, .int a20, .int a21]))]
noncomputable def wf_c_X11_isBuoy_1 : List Cond := List.cons (.code yX11_isBuoy cX11_isBuoy 2 (some .boolean)) (@HAppend.hAppend (List Cond) (List Cond) (List Cond) _ (@HAppend.hAppend (List Cond) (List Cond) (List Cond) _ [.fieldLink RX11 19 "BuoyVote" "told" "LBuoyVote$Borough;", .fieldLink RX11 275 "BuoyVote$Borough" "buoys" "I"] wsX110) wsX00)
theorem iw_c_X11_isBuoy_1_X11 : ∀ w ∈ wsX110, w ∈ wf_c_X11_isBuoy_1 := fun w h => List.mem_cons_of_mem _ (List.mem_append_left _ (List.mem_append_right _ h))
theorem iw_c_X11_isBuoy_1_X0 : ∀ w ∈ wsX00, w ∈ wf_c_X11_isBuoy_1 := fun w h => List.mem_cons_of_mem _ (List.mem_append_right _ h)
set_option maxHeartbeats 4000000 in
set_option maxRecDepth 100000 in
theorem c_X11_isBuoy_1 (l : Launch) (dC : Nat → ClassId) (dI : Nat → Nat → Nat) (sz : Nat) (h0 : Nat) (p1 : Int32) (h0_0 : Nat) (h0_1 : Nat) (h0_2 : Nat) (h0_3 : Nat) (h0_4 : Nat) (h0_f5 : Int32) (h0_6 : Nat) (h0_7 : Nat) (h0_8 : Nat) (h0_9 : Nat) (h0_10 : Nat) (h0_11 : Nat) (h0_12 : Nat) (h0_13 : Nat) (h0_14 : Nat) (h0_f15 : Int64) (h0_1_0 : Nat) (h0_1_f1 : Int32) (h0_1_f2 : Int32) (h0_1_f3 : Int32) (g_p1 : RG p1 (-1) 99) (g_h0_f5 : RG h0_f5 0 4) (g_h0_1_f1 : RG h0_1_f1 0 8) (g_h0_1_f2 : RG h0_1_f2 0 3) (g_h0_1_f3 : RG h0_1_f3 0 1) : Met l yX11_isBuoy wf_c_X11_isBuoy_1 ({ frames := 0, cells := 0, slots := 0, locals := 0 }) (va_Pc [.ref h0, .int p1] (fun U => U.heap.size = sz ∧ va_P (dC, dI) vwCl (wd_c_X11_isBuoy_1 h0 h0_0 h0_1 h0_2 h0_3 h0_4 h0_f5 h0_6 h0_7 h0_8 h0_9 h0_10 h0_11 h0_12 h0_13 h0_14 h0_f15 h0_1 h0_1_0 h0_1_f1 h0_1_f2 h0_1_f3) U.heap ∧ va_K (dC, dI) vwCl [] U ∧ va_D (fun _ => True) (wd_c_X11_isBuoy_1 h0 h0_0 h0_1 h0_2 h0_3 h0_4 h0_f5 h0_6 h0_7 h0_8 h0_9 h0_10 h0_11 h0_12 h0_13 h0_14 h0_f15 h0_1 h0_1_0 h0_1_f1 h0_1_f2 h0_1_f3))) (va_Qi (fun (r : Int32) (u : Unit) => (r = 0) ∨ (r = 1 ∧ RG h0_1_f1 1 8 ∧ RG p1 0 7)) (fun (u : Unit) t => va_P (dC, dI) vwCl (wd_c_X11_isBuoy_1 h0 h0_0 h0_1 h0_2 h0_3 h0_4 h0_f5 h0_6 h0_7 h0_8 h0_9 h0_10 h0_11 h0_12 h0_13 h0_14 h0_f15 h0_1 h0_1_0 h0_1_f1 h0_1_f2 h0_1_f3) t.heap ∧ va_K (dC, dI) vwCl [] t ∧ va_D (va_A (wd_c_X11_isBuoy_1 h0 h0_0 h0_1 h0_2 h0_3 h0_4 h0_f5 h0_6 h0_7 h0_8 h0_9 h0_10 h0_11 h0_12 h0_13 h0_14 h0_f15 h0_1 h0_1_0 h0_1_f1 h0_1_f2 h0_1_f3) sz) (wd_c_X11_isBuoy_1 h0 h0_0 h0_1 h0_2 h0_3 h0_4 h0_f5 h0_6 h0_7 h0_8 h0_9 h0_10 h0_11 h0_12 h0_13 h0_14 h0_f15 h0_1 h0_1_0 h0_1_f1 h0_1_f2 h0_1_f3)) (va_A (wd_c_X11_isBuoy_1 h0 h0_0 h0_1 h0_2 h0_3 h0_4 h0_f5 h0_6 h0_7 h0_8 h0_9 h0_10 h0_11 h0_12 h0_13 h0_14 h0_f15 h0_1 h0_1_0 h0_1_f1 h0_1_f2 h0_1_f3) sz)) 0 0 (va_A (wd_c_X11_isBuoy_1 h0 h0_0 h0_1 h0_2 h0_3 h0_4 h0_f5 h0_6 h0_7 h0_8 h0_9 h0_10 h0_11 h0_12 h0_13 h0_14 h0_f15 h0_1 h0_1_0 h0_1_f1 h0_1_f2 h0_1_f3) sz) := by
  refine Met.ofW (cc := cX11_isBuoy) (maxL := 2) (ret := (some .boolean)) (by decide +kernel) rfl ?_
  intro p e s m args below meth c s₁ B hml hv
  obtain ⟨rfl, hsz, hP, hK, hD0⟩ := hv
  have hx := B.exec
  have hb := B.bytes
  have hr := B.returns
  have hts := atoms_spec (ws := wf_c_X11_isBuoy_1) B.pre
  have hown : s.vm.findClass RX11 = some m.cls := findClass_of_methodNamed B.named
  have hlocks := B.notSynchronized
  subst hsz
  have hD := hD0.self (sz := s.heap.size)
  generalize hAe : va_A (wd_c_X11_isBuoy_1 h0 h0_0 h0_1 h0_2 h0_3 h0_4 h0_f5 h0_6 h0_7 h0_8 h0_9 h0_10 h0_11 h0_12 h0_13 h0_14 h0_f15 h0_1 h0_1_0 h0_1_f1 h0_1_f2 h0_1_f3) s.heap.size = A at hD ⊢
  have hA : ∀ q : Nat, s.heap.size ≤ q → A q := fun q h => by rw [← hAe]; exact Or.inr h
  have hP : va_P (dC, dI) vwCl (wd_c_X11_isBuoy_1 h0 h0_0 h0_1 h0_2 h0_3 h0_4 h0_f5 h0_6 h0_7 h0_8 h0_9 h0_10 h0_11 h0_12 h0_13 h0_14 h0_f15 h0_1 h0_1_0 h0_1_f1 h0_1_f2 h0_1_f3) s.heap := hP
  have hl := lv_entry ([.ref h0, .int p1]) (n := 2) (Nat.le_of_ble_eq_true rfl)
  rw [lg_entry_eq]
  generalize (lg_sl ([.ref h0, .int p1]) ++ List.replicate (2 - (lg_sl ([.ref h0, .int p1])).length) Slot.unset).toArray = ls at hl ⊢
  have hl : lv_has ls 2 [(0, .ref h0), (1, .int p1)] := hl
  obtain ⟨H, hHe⟩ : ∃ H : Heap, s.heap = H := ⟨_, rfl⟩
  have hS : va_S A s.heap H [] := by rw [hHe]; exact va_S.rf
  have hP : va_P (dC, dI) vwCl (wd_c_X11_isBuoy_1 h0 h0_0 h0_1 h0_2 h0_3 h0_4 h0_f5 h0_6 h0_7 h0_8 h0_9 h0_10 h0_11 h0_12 h0_13 h0_14 h0_f15 h0_1 h0_1_0 h0_1_f1 h0_1_f2 h0_1_f3) H := by rw [← hHe]; exact hP
  rw [hHe]
  refine lv_iload_n hx hb dX11_isBuoy_0 rfl (lv_at hl 1 rfl) ?_
  as_aux_lemma =>
  refine lv_if_lt (tgt := 19) hx hb dX11_isBuoy_1 rfl (fun c_1 => ?_) (fun c_1 => ?_)
  · have g_2 : RG p1 (-1) (-1) := RG_lt1 g_p1 (RG_k 0 0 rfl) c_1 (by decide +kernel)
    refine lv_iconst (v := 0) hx hb dX11_isBuoy_19 kc_iconst_0 ?_
    have hK9 := hK.sub (tys' := []) [] rfl
    exact W.zret (v := 0) hx hb hr rfl (fun t ht hW => ⟨⟨0, (), rfl, (Or.inl rfl), by rw [ht]; exact hP, va_K.moved hW.alike hK9, hD⟩, hS.F ht⟩) hS.2.2 dX11_isBuoy_20
  · have d_3 := Int32.not_lt.mp c_1
    have g_4 : RG p1 0 99 := RG_le2 (RG_k 0 0 rfl) g_p1 d_3 (by decide +kernel)
    refine lv_iload_n hx hb dX11_isBuoy_4 rfl (lv_at hl 1 rfl) ?_
    refine lv_aload_n hx hb dX11_isBuoy_5 rfl (lv_at hl 0 rfl) ?_
    refine va_get (D := (dC, dI)) (ci := 11) (v := .ref h0_1) (C := RX11) (T := TX11) (N := 16) hx hb hts iw_c_X11_isBuoy_1_X11 hown hK hP 0 rfl rfl 1 (by decide +kernel) (hts (.fieldLink RX11 19 "BuoyVote" "told" "LBuoyVote$Borough;") (List.mem_of_getElem? (i := 1) rfl)) (fun _ h9 => h9) rfl dX11_isBuoy_6 ?_
    refine va_get (D := (dC, dI)) (ci := 0) (v := .int h0_1_f1) (C := RX0) (T := TX0) (N := 4) hx hb hts iw_c_X11_isBuoy_1_X0 hown hK hP 1 rfl rfl 1 (by decide +kernel) (hts (.fieldLink RX11 275 "BuoyVote$Borough" "buoys" "I") (List.mem_of_getElem? (i := 2) rfl)) (fun _ h9 => h9) rfl dX11_isBuoy_9 ?_
    refine lv_icmp_ge (tgt := 19) hx hb dX11_isBuoy_12 rfl (fun c_5 => ?_) (fun c_5 => ?_)
    · refine lv_iconst (v := 0) hx hb dX11_isBuoy_19 kc_iconst_0 ?_
      have hK9 := hK.sub (tys' := []) [] rfl
      exact W.zret (v := 0) hx hb hr rfl (fun t ht hW => ⟨⟨0, (), rfl, (Or.inl rfl), by rw [ht]; exact hP, va_K.moved hW.alike hK9, hD⟩, hS.F ht⟩) hS.2.2 dX11_isBuoy_20
    · have d_6 := Int32.not_le.mp c_5
      have g_7 : RG p1 0 7 := RG_lt1 g_4 g_h0_1_f1 d_6 (by decide +kernel)
      have g_8 : RG h0_1_f1 1 8 := RG_lt2 g_4 g_h0_1_f1 d_6 (by decide +kernel)
      refine lv_iconst (v := 1) hx hb dX11_isBuoy_15 kc_iconst_1 ?_
      as_aux_lemma =>
      refine lv_goto (tgt := 20) hx hb dX11_isBuoy_16 rfl ?_
      have hK9 := hK.sub (tys' := []) [] rfl
      exact W.zret (v := 1) hx hb hr rfl (fun t ht hW => ⟨⟨1, (), rfl, (Or.inr ⟨rfl, g_8, g_7⟩), by rw [ht]; exact hP, va_K.moved hW.alike hK9, hD⟩, hS.F ht⟩) hS.2.2 dX11_isBuoy_20
noncomputable def wd_c_X11_canSing_1 (a0 : Nat) (a1 : Nat) (a2 : Nat) (a3 : Nat) (a4 : Nat) (a5 : Nat) (a6 : Int32) (a7 : Nat) (a8 : Nat) (a9 : Nat) (a10 : Nat) (a11 : Nat) (a12 : Nat) (a13 : Nat) (a14 : Nat) (a15 : Nat) (a16 : Int64) (a17 : Nat) (a18 : Nat) (a19 : Int32) (a20 : Int32) (a21 : Int32) (a22 : Nat) (a23 : ClassId) (a24 : Nat → Int32) (a25 : Nat) (a26 : Int32) (a27 : Int32) (a28 : Int32) (a29 : Int32) (a30 : Nat) (a31 : Nat) (a32 : Nat) (a33 : Nat) (a34 : Nat) (a35 : Nat) (a36 : Nat) (a37 : Nat) (a38 : Nat) (a39 : Nat) (a40 : ClassId) (a41 : Nat → Int32) (a42 : Nat) (a43 : ClassId) (a44 : Nat → Int32) (a45 : Nat) (a46 : ClassId) (a47 : Nat → Int32) : va_W := [(a0, .inr (11, [.ref a1, .ref a2, .ref a3, .ref a4, .ref a5, .int a6, .ref a7, .ref a8, .ref a9, .ref a10, .ref a11, .ref a12, .ref a13, .ref a14, .ref a15, .long a16])), (a17, .inr (0, [.ref a18, .int a19, .int a20, .int a21])), (a22, .inl (a23, 80, .inl a24)), (a25, .inr (7, [.int a26, .int a27, .int a28, .int a29, .ref a30, .ref a31, .ref a32, .ref a33, .ref a34, .ref a35, .ref a36, .ref a37, .ref a38])), (a39, .inl (a40, 3, .inl a41)), (a42, .inl (a43, 3, .inl a44)), (a45, .inl (a46, 24, .inl a47))]
noncomputable def wf_c_X11_canSing_1 : List Cond := List.cons (.code yX11_canSing cX11_canSing 4 (some .boolean)) (@HAppend.hAppend (List Cond) (List Cond) (List Cond) _ (@HAppend.hAppend (List Cond) (List Cond) (List Cond) _ (@HAppend.hAppend (List Cond) (List Cond) (List Cond) _ [.methodLink RX11 191 yX11_isBoat, .instanceMethod yX11_isBoat, .selects RX11 yX11_isBoat yX11_isBoat, .initialized RX11, .code yX11_isBoat cX11_isBoat 2 (some .boolean), .fieldLink RX11 19 "BuoyVote" "told" "LBuoyVote$Borough;", .fieldLink RX11 272 "BuoyVote$Borough" "boats" "I", .methodLink RX11 163 yX11_isBuoy, .instanceMethod yX11_isBuoy, .selects RX11 yX11_isBuoy yX11_isBuoy, .code yX11_isBuoy cX11_isBuoy 2 (some .boolean), .fieldLink RX11 275 "BuoyVote$Borough" "buoys" "I", .methodLink RX11 416 yX11_isBeside, .instanceMethod yX11_isBeside, .selects RX11 yX11_isBeside yX11_isBeside, .code yX11_isBeside cX11_isBeside 4 (some .boolean), .methodLink RX11 169 yX0_buoyX, .instanceMethod yX0_buoyX, .selects RX0 yX0_buoyX yX0_buoyX, .initialized RX0, .code yX0_buoyX cX0_buoyX 2 (some .int), .fieldLink RX0 11 "BuoyVote$Borough" "values" "[I", .methodLink RX11 172 yX0_buoyY, .instanceMethod yX0_buoyY, .selects RX0 yX0_buoyY yX0_buoyY, .code yX0_buoyY cX0_buoyY 2 (some .int), .methodLink RX11 240 yX7_awayOf, .instanceMethod yX7_awayOf, .selects RX7 yX7_awayOf yX7_awayOf, .initialized RX7, .code yX7_awayOf cX7_awayOf 4 (some .int), .fieldLink RX7 9 "BuoyVote$Sea" "x" "[I", .methodLink RX7 99 Lib.Math.abs.name, .static Lib.Math.abs.name, .initialized "java/lang/Math", .code Lib.Math.abs.name Lib.Math.abs.code 1 (some .int), .fieldLink RX7 15 "BuoyVote$Sea" "y" "[I", .fieldLink RX11 188 "BuoyVote$Sea" "liking" "[I"] wsX110) wsX00) wsX70)
theorem iw_c_X11_canSing_1_X11 : ∀ w ∈ wsX110, w ∈ wf_c_X11_canSing_1 := fun w h => List.mem_cons_of_mem _ (List.mem_append_left _ (List.mem_append_left _ (List.mem_append_right _ h)))
theorem iw_c_X11_canSing_1_X0 : ∀ w ∈ wsX00, w ∈ wf_c_X11_canSing_1 := fun w h => List.mem_cons_of_mem _ (List.mem_append_left _ (List.mem_append_right _ h))
theorem iw_c_X11_canSing_1_X7 : ∀ w ∈ wsX70, w ∈ wf_c_X11_canSing_1 := fun w h => List.mem_cons_of_mem _ (List.mem_append_right _ h)
set_option maxRecDepth 20000 in
theorem gf_c_X11_canSing_1_c_X11_isBoat_1 : GoodIn wf_c_X11_canSing_1 (wsV RX11 191 RX11 yX11_isBoat wf_c_X11_isBoat_1) := goodIn_app (gi_l [1, 2, 3, 4] rfl rfl) (gi_cons (j := 5) rfl rfl (goodIn_app (goodIn_app (gi_l [6, 7] rfl rfl) (goodIn_sub iw_c_X11_canSing_1_X11 gw_X11)) (goodIn_sub iw_c_X11_canSing_1_X0 gw_X0)))
set_option maxRecDepth 20000 in
theorem gf_c_X11_canSing_1_c_X11_isBuoy_1 : GoodIn wf_c_X11_canSing_1 (wsV RX11 163 RX11 yX11_isBuoy wf_c_X11_isBuoy_1) := goodIn_app (gi_l [8, 9, 10, 4] rfl rfl) (gi_cons (j := 11) rfl rfl (goodIn_app (goodIn_app (gi_l [6, 12] rfl rfl) (goodIn_sub iw_c_X11_canSing_1_X11 gw_X11)) (goodIn_sub iw_c_X11_canSing_1_X0 gw_X0)))
set_option maxRecDepth 20000 in
theorem gf_c_X11_canSing_1_c_X11_isBeside : GoodIn wf_c_X11_canSing_1 (wsV RX11 416 RX11 yX11_isBeside wf_c_X11_isBeside) := goodIn_app (gi_l [13, 14, 15, 4] rfl rfl) (gi_cons (j := 16) rfl rfl (goodIn_app (goodIn_app (goodIn_app (gi_l [6, 17, 18, 19, 20, 21, 22, 23, 24, 25, 26, 27, 28, 29, 30, 31, 32, 33, 34, 35, 36, 37] rfl rfl) (goodIn_sub iw_c_X11_canSing_1_X11 gw_X11)) (goodIn_sub iw_c_X11_canSing_1_X0 gw_X0)) (goodIn_sub iw_c_X11_canSing_1_X7 gw_X7)))
set_option maxHeartbeats 4000000 in
set_option maxRecDepth 100000 in
theorem c_X11_canSing_1 (l : Launch) (dC : Nat → ClassId) (dI : Nat → Nat → Nat) (sz : Nat) (h0 : Nat) (h1 : Nat) (p2 : Int32) (p3 : Int32) (h0_0 : Nat) (h0_1 : Nat) (h0_2 : Nat) (h0_3 : Nat) (h0_4 : Nat) (h0_f5 : Int32) (h0_6 : Nat) (h0_7 : Nat) (h0_8 : Nat) (h0_9 : Nat) (h0_10 : Nat) (h0_11 : Nat) (h0_12 : Nat) (h0_13 : Nat) (h0_14 : Nat) (h0_f15 : Int64) (h0_1_0 : Nat) (h0_1_f1 : Int32) (h0_1_f2 : Int32) (h0_1_f3 : Int32) (h0_1_0k : ClassId) (h0_1_0c : Nat → Int32) (h1_f0 : Int32) (h1_f1 : Int32) (h1_f2 : Int32) (h1_f3 : Int32) (h1_4 : Nat) (h1_5 : Nat) (h1_6 : Nat) (h1_7 : Nat) (h1_8 : Nat) (h1_9 : Nat) (h1_10 : Nat) (h1_11 : Nat) (h1_12 : Nat) (h1_4k : ClassId) (h1_4c : Nat → Int32) (h1_5k : ClassId) (h1_5c : Nat → Int32) (h1_10k : ClassId) (h1_10c : Nat → Int32) (g_p2 : RG p2 (-1) 99) (g_p3 : RG p3 (-1) 99) (g_h0_f5 : RG h0_f5 0 4) (g_h0_1_f1 : RG h0_1_f1 0 8) (g_h0_1_f2 : RG h0_1_f2 0 3) (g_h0_1_f3 : RG h0_1_f3 0 1) (a_h0_1_0c : AI h0_1_0c (-1) 99) : Met l yX11_canSing wf_c_X11_canSing_1 ({ frames := 3, cells := 0, slots := 0, locals := 60 }) (va_Pc [.ref h0, .ref h1, .int p2, .int p3] (fun U => U.heap.size = sz ∧ va_P (dC, dI) vwCl (wd_c_X11_canSing_1 h0 h0_0 h0_1 h0_2 h0_3 h0_4 h0_f5 h0_6 h0_7 h0_8 h0_9 h0_10 h0_11 h0_12 h0_13 h0_14 h0_f15 h0_1 h0_1_0 h0_1_f1 h0_1_f2 h0_1_f3 h0_1_0 h0_1_0k h0_1_0c h1 h1_f0 h1_f1 h1_f2 h1_f3 h1_4 h1_5 h1_6 h1_7 h1_8 h1_9 h1_10 h1_11 h1_12 h1_4 h1_4k h1_4c h1_5 h1_5k h1_5c h1_10 h1_10k h1_10c) U.heap ∧ va_K (dC, dI) vwCl [(h0_1_0k, .int), (h1_4k, .int), (h1_5k, .int), (h1_10k, .int)] U ∧ va_D (fun _ => True) (wd_c_X11_canSing_1 h0 h0_0 h0_1 h0_2 h0_3 h0_4 h0_f5 h0_6 h0_7 h0_8 h0_9 h0_10 h0_11 h0_12 h0_13 h0_14 h0_f15 h0_1 h0_1_0 h0_1_f1 h0_1_f2 h0_1_f3 h0_1_0 h0_1_0k h0_1_0c h1 h1_f0 h1_f1 h1_f2 h1_f3 h1_4 h1_5 h1_6 h1_7 h1_8 h1_9 h1_10 h1_11 h1_12 h1_4 h1_4k h1_4c h1_5 h1_5k h1_5c h1_10 h1_10k h1_10c))) (va_Qi (fun (r : Int32) (u : Unit) => (r = 0) ∨ (r = 1 ∧ RG h0_1_f1 1 8 ∧ RG h0_1_f2 1 3 ∧ RG p2 0 2 ∧ RG p3 0 7)) (fun (u : Unit) t => va_P (dC, dI) vwCl (wd_c_X11_canSing_1 h0 h0_0 h0_1 h0_2 h0_3 h0_4 h0_f5 h0_6 h0_7 h0_8 h0_9 h0_10 h0_11 h0_12 h0_13 h0_14 h0_f15 h0_1 h0_1_0 h0_1_f1 h0_1_f2 h0_1_f3 h0_1_0 h0_1_0k h0_1_0c h1 h1_f0 h1_f1 h1_f2 h1_f3 h1_4 h1_5 h1_6 h1_7 h1_8 h1_9 h1_10 h1_11 h1_12 h1_4 h1_4k h1_4c h1_5 h1_5k h1_5c h1_10 h1_10k h1_10c) t.heap ∧ va_K (dC, dI) vwCl [] t ∧ va_D (va_A (wd_c_X11_canSing_1 h0 h0_0 h0_1 h0_2 h0_3 h0_4 h0_f5 h0_6 h0_7 h0_8 h0_9 h0_10 h0_11 h0_12 h0_13 h0_14 h0_f15 h0_1 h0_1_0 h0_1_f1 h0_1_f2 h0_1_f3 h0_1_0 h0_1_0k h0_1_0c h1 h1_f0 h1_f1 h1_f2 h1_f3 h1_4 h1_5 h1_6 h1_7 h1_8 h1_9 h1_10 h1_11 h1_12 h1_4 h1_4k h1_4c h1_5 h1_5k h1_5c h1_10 h1_10k h1_10c) sz) (wd_c_X11_canSing_1 h0 h0_0 h0_1 h0_2 h0_3 h0_4 h0_f5 h0_6 h0_7 h0_8 h0_9 h0_10 h0_11 h0_12 h0_13 h0_14 h0_f15 h0_1 h0_1_0 h0_1_f1 h0_1_f2 h0_1_f3 h0_1_0 h0_1_0k h0_1_0c h1 h1_f0 h1_f1 h1_f2 h1_f3 h1_4 h1_5 h1_6 h1_7 h1_8 h1_9 h1_10 h1_11 h1_12 h1_4 h1_4k h1_4c h1_5 h1_5k h1_5c h1_10 h1_10k h1_10c)) (va_A (wd_c_X11_canSing_1 h0 h0_0 h0_1 h0_2 h0_3 h0_4 h0_f5 h0_6 h0_7 h0_8 h0_9 h0_10 h0_11 h0_12 h0_13 h0_14 h0_f15 h0_1 h0_1_0 h0_1_f1 h0_1_f2 h0_1_f3 h0_1_0 h0_1_0k h0_1_0c h1 h1_f0 h1_f1 h1_f2 h1_f3 h1_4 h1_5 h1_6 h1_7 h1_8 h1_9 h1_10 h1_11 h1_12 h1_4 h1_4k h1_4c h1_5 h1_5k h1_5c h1_10 h1_10k h1_10c) sz)) 0 0 (va_A (wd_c_X11_canSing_1 h0 h0_0 h0_1 h0_2 h0_3 h0_4 h0_f5 h0_6 h0_7 h0_8 h0_9 h0_10 h0_11 h0_12 h0_13 h0_14 h0_f15 h0_1 h0_1_0 h0_1_f1 h0_1_f2 h0_1_f3 h0_1_0 h0_1_0k h0_1_0c h1 h1_f0 h1_f1 h1_f2 h1_f3 h1_4 h1_5 h1_6 h1_7 h1_8 h1_9 h1_10 h1_11 h1_12 h1_4 h1_4k h1_4c h1_5 h1_5k h1_5c h1_10 h1_10k h1_10c) sz) := by
  refine Met.ofW (cc := cX11_canSing) (maxL := 4) (ret := (some .boolean)) (by decide +kernel) rfl ?_
  intro p e s m args below meth c s₁ B hml hv
  obtain ⟨rfl, hsz, hP, hK, hD0⟩ := hv
  have hx := B.exec
  have hb := B.bytes
  have hr := B.returns
  have hts := atoms_spec (ws := wf_c_X11_canSing_1) B.pre
  have hown : s.vm.findClass RX11 = some m.cls := findClass_of_methodNamed B.named
  have hlocks := B.notSynchronized
  subst hsz
  have hD := hD0.self (sz := s.heap.size)
  generalize hAe : va_A (wd_c_X11_canSing_1 h0 h0_0 h0_1 h0_2 h0_3 h0_4 h0_f5 h0_6 h0_7 h0_8 h0_9 h0_10 h0_11 h0_12 h0_13 h0_14 h0_f15 h0_1 h0_1_0 h0_1_f1 h0_1_f2 h0_1_f3 h0_1_0 h0_1_0k h0_1_0c h1 h1_f0 h1_f1 h1_f2 h1_f3 h1_4 h1_5 h1_6 h1_7 h1_8 h1_9 h1_10 h1_11 h1_12 h1_4 h1_4k h1_4c h1_5 h1_5k h1_5c h1_10 h1_10k h1_10c) s.heap.size = A at hD ⊢
  have hA : ∀ q : Nat, s.heap.size ≤ q → A q := fun q h => by rw [← hAe]; exact Or.inr h
  have hP : va_P (dC, dI) vwCl (wd_c_X11_canSing_1 h0 h0_0 h0_1 h0_2 h0_3 h0_4 h0_f5 h0_6 h0_7 h0_8 h0_9 h0_10 h0_11 h0_12 h0_13 h0_14 h0_f15 h0_1 h0_1_0 h0_1_f1 h0_1_f2 h0_1_f3 h0_1_0 h0_1_0k h0_1_0c h1 h1_f0 h1_f1 h1_f2 h1_f3 h1_4 h1_5 h1_6 h1_7 h1_8 h1_9 h1_10 h1_11 h1_12 h1_4 h1_4k h1_4c h1_5 h1_5k h1_5c h1_10 h1_10k h1_10c) s.heap := hP
  have hl := lv_entry ([.ref h0, .ref h1, .int p2, .int p3]) (n := 4) (Nat.le_of_ble_eq_true rfl)
  rw [lg_entry_eq]
  generalize (lg_sl ([.ref h0, .ref h1, .int p2, .int p3]) ++ List.replicate (4 - (lg_sl ([.ref h0, .ref h1, .int p2, .int p3])).length) Slot.unset).toArray = ls at hl ⊢
  have hl : lv_has ls 4 [(0, .ref h0), (1, .ref h1), (2, .int p2), (3, .int p3)] := hl
  obtain ⟨H, hHe⟩ : ∃ H : Heap, s.heap = H := ⟨_, rfl⟩
  have hS : va_S A s.heap H [] := by rw [hHe]; exact va_S.rf
  have hP : va_P (dC, dI) vwCl (wd_c_X11_canSing_1 h0 h0_0 h0_1 h0_2 h0_3 h0_4 h0_f5 h0_6 h0_7 h0_8 h0_9 h0_10 h0_11 h0_12 h0_13 h0_14 h0_f15 h0_1 h0_1_0 h0_1_f1 h0_1_f2 h0_1_f3 h0_1_0 h0_1_0k h0_1_0c h1 h1_f0 h1_f1 h1_f2 h1_f3 h1_4 h1_5 h1_6 h1_7 h1_8 h1_9 h1_10 h1_11 h1_12 h1_4 h1_4k h1_4c h1_5 h1_5k h1_5c h1_10 h1_10k h1_10c) H := by rw [← hHe]; exact hP
  rw [hHe]
  refine lv_aload_n hx hb dX11_canSing_0 rfl (lv_at hl 0 rfl) ?_
  as_aux_lemma =>
  refine lv_iload_n hx hb dX11_canSing_1 rfl (lv_at hl 2 rfl) ?_
  obtain ⟨hPc, hDc, hFc, hqc⟩ := cl_cut (wc := (wd_c_X11_isBoat_1 h0 h0_0 h0_1 h0_2 h0_3 h0_4 h0_f5 h0_6 h0_7 h0_8 h0_9 h0_10 h0_11 h0_12 h0_13 h0_14 h0_f15 h0_1 h0_1_0 h0_1_f1 h0_1_f2 h0_1_f3)) hP hD hS hA [0, 1] (by decide +kernel) rfl
  have hKc := hK.sub (tys' := []) [] rfl
  have hrv := va_recv hKc hPc (ci := 11) (q0 := 0) rfl rfl
  refine va_calli (va_runV (As := [.int p2]) (rest := []) ⟨hx, hb, hml, hown, hts⟩ (c_X11_isBoat_1 l dC dI H.size h0 p2 h0_0 h0_1 h0_2 h0_3 h0_4 h0_f5 h0_6 h0_7 h0_8 h0_9 h0_10 h0_11 h0_12 h0_13 h0_14 h0_f15 h0_1_0 h0_1_f1 h0_1_f2 h0_1_f3 g_p2 g_h0_f5 g_h0_1_f1 g_h0_1_f2 g_h0_1_f3) (cwV 1 hts gf_c_X11_canSing_1_c_X11_isBoat_1 rfl rfl rfl mdV_X11_isBoat ⟨Nat.le_of_ble_eq_true rfl, Nat.le_of_ble_eq_true rfl⟩) ⟨fun a U g mk q => by obtain ⟨q0, q1, qP, qK, qD⟩ := q; exact ⟨q0, q1, qP, va_K.moved (u := U) (U := U.calling g mk a) (Vm.Alike.refl U.vm) qK, qD⟩, hrv, fun U hU hW => ⟨rfl, by rw [hU], by rw [hU]; exact hPc, va_K.moved hW.alike hKc, hDc.weaken (fun _ _ _ _ => trivial)⟩⟩ rfl rfl hl.1 rfl (lv_room (Nat.le_of_ble_eq_true rfl)) dX11_canSing_2 ⟨Nat.le_of_ble_eq_true rfl, Nat.le_of_ble_eq_true rfl⟩) hS (fun q _ h => hFc q h) hFc (fun r_1 u t H1 locs ht hvm hw hB hz1 hk1 hS => ?_)
  obtain ⟨hP1, hK1, hD1⟩ := hB
  rw [ht] at hP1
  obtain ⟨hP, hD⟩ := cl_put (w1 := (wd_c_X11_isBoat_1 h0 h0_0 h0_1 h0_2 h0_3 h0_4 h0_f5 h0_6 h0_7 h0_8 h0_9 h0_10 h0_11 h0_12 h0_13 h0_14 h0_f15 h0_1 h0_1_0 h0_1_f1 h0_1_f2 h0_1_f3)) (nw := (wd_c_X11_canSing_1 h0 h0_0 h0_1 h0_2 h0_3 h0_4 h0_f5 h0_6 h0_7 h0_8 h0_9 h0_10 h0_11 h0_12 h0_13 h0_14 h0_f15 h0_1 h0_1_0 h0_1_f1 h0_1_f2 h0_1_f3 h0_1_0 h0_1_0k h0_1_0c h1 h1_f0 h1_f1 h1_f2 h1_f3 h1_4 h1_5 h1_6 h1_7 h1_8 h1_9 h1_10 h1_11 h1_12 h1_4 h1_4k h1_4c h1_5 h1_5k h1_5c h1_10 h1_10k h1_10c)) hP hD [0, 1] [7, 8, 2, 3, 4, 5, 6] 7 rfl hqc (by decide +kernel) rfl hk1 hFc hP1 hD1
  generalize H1 = H at hP hS ⊢
  as_aux_lemma =>
  rcases hw with h_2 | ⟨h_3, h_4, h_5⟩
  · rw [h_2]
    refine lv_if_eq (tgt := 45) hx hb dX11_canSing_5 rfl (fun c_6 => ?_) (fun c_6 => absurd c_6 (by decide +kernel))
    refine lv_iconst (v := 0) hx hb dX11_canSing_45 kc_iconst_0 ?_
    have hK9 := hK.sub (tys' := []) [] rfl
    exact W.zret (v := 0) hx hb hr rfl (fun t ht hW => ⟨⟨0, (), rfl, (Or.inl rfl), by rw [ht]; exact hP, va_K.moved hW.alike hK9, hD⟩, hS.F ht⟩) hS.2.2 dX11_canSing_46
  · rw [h_3]
    refine lv_if_eq (tgt := 45) hx hb dX11_canSing_5 rfl (fun c_7 => absurd c_7 (by decide +kernel)) (fun c_7 => ?_)
    refine lv_aload_n hx hb dX11_canSing_8 rfl (lv_at hl 0 rfl) ?_
    refine lv_iload_n hx hb dX11_canSing_9 rfl (lv_at hl 3 rfl) ?_
    obtain ⟨hPc, hDc, hFc, hqc⟩ := cl_cut (wc := (wd_c_X11_isBuoy_1 h0 h0_0 h0_1 h0_2 h0_3 h0_4 h0_f5 h0_6 h0_7 h0_8 h0_9 h0_10 h0_11 h0_12 h0_13 h0_14 h0_f15 h0_1 h0_1_0 h0_1_f1 h0_1_f2 h0_1_f3)) hP hD hS hA [0, 1] (by decide +kernel) rfl
    have hKc := hK.sub (tys' := []) [] rfl
    have hrv := va_recv hKc hPc (ci := 11) (q0 := 0) rfl rfl
    refine va_calli (va_runV (As := [.int p3]) (rest := []) ⟨hx, hb, hml, hown, hts⟩ (c_X11_isBuoy_1 l dC dI H.size h0 p3 h0_0 h0_1 h0_2 h0_3 h0_4 h0_f5 h0_6 h0_7 h0_8 h0_9 h0_10 h0_11 h0_12 h0_13 h0_14 h0_f15 h0_1_0 h0_1_f1 h0_1_f2 h0_1_f3 g_p3 g_h0_f5 g_h0_1_f1 (RG_w h_4 (by decide +kernel)) g_h0_1_f3) (cwV 1 hts gf_c_X11_canSing_1_c_X11_isBuoy_1 rfl rfl rfl mdV_X11_isBuoy ⟨Nat.le_of_ble_eq_true rfl, Nat.le_of_ble_eq_true rfl⟩) ⟨fun a U g mk q => by obtain ⟨q0, q1, qP, qK, qD⟩ := q; exact ⟨q0, q1, qP, va_K.moved (u := U) (U := U.calling g mk a) (Vm.Alike.refl U.vm) qK, qD⟩, hrv, fun U hU hW => ⟨rfl, by rw [hU], by rw [hU]; exact hPc, va_K.moved hW.alike hKc, hDc.weaken (fun _ _ _ _ => trivial)⟩⟩ rfl rfl hl.1 rfl (lv_room (Nat.le_of_ble_eq_true rfl)) dX11_canSing_10 ⟨Nat.le_of_ble_eq_true rfl, Nat.le_of_ble_eq_true rfl⟩) hS (fun q _ h => hFc q h) hFc (fun r_8 u t H1 locs ht hvm hw hB hz1 hk1 hS => ?_)
    as_aux_lemma =>
    obtain ⟨hP1, hK1, hD1⟩ := hB
    rw [ht] at hP1
    obtain ⟨hP, hD⟩ := cl_put (w1 := (wd_c_X11_isBuoy_1 h0 h0_0 h0_1 h0_2 h0_3 h0_4 h0_f5 h0_6 h0_7 h0_8 h0_9 h0_10 h0_11 h0_12 h0_13 h0_14 h0_f15 h0_1 h0_1_0 h0_1_f1 h0_1_f2 h0_1_f3)) (nw := (wd_c_X11_canSing_1 h0 h0_0 h0_1 h0_2 h0_3 h0_4 h0_f5 h0_6 h0_7 h0_8 h0_9 h0_10 h0_11 h0_12 h0_13 h0_14 h0_f15 h0_1 h0_1_0 h0_1_f1 h0_1_f2 h0_1_f3 h0_1_0 h0_1_0k h0_1_0c h1 h1_f0 h1_f1 h1_f2 h1_f3 h1_4 h1_5 h1_6 h1_7 h1_8 h1_9 h1_10 h1_11 h1_12 h1_4 h1_4k h1_4c h1_5 h1_5k h1_5c h1_10 h1_10k h1_10c)) hP hD [0, 1] [7, 8, 2, 3, 4, 5, 6] 7 rfl hqc (by decide +kernel) rfl hk1 hFc hP1 hD1
    generalize H1 = H at hP hS ⊢
    as_aux_lemma =>
    rcases hw with h_9 | ⟨h_10, h_11, h_12⟩
    · rw [h_9]
      refine lv_if_eq (tgt := 45) hx hb dX11_canSing_13 rfl (fun c_13 => ?_) (fun c_13 => absurd c_13 (by decide +kernel))
      refine lv_iconst (v := 0) hx hb dX11_canSing_45 kc_iconst_0 ?_
      have hK9 := hK.sub (tys' := []) [] rfl
      exact W.zret (v := 0) hx hb hr rfl (fun t ht hW => ⟨⟨0, (), rfl, (Or.inl rfl), by rw [ht]; exact hP, va_K.moved hW.alike hK9, hD⟩, hS.F ht⟩) hS.2.2 dX11_canSing_46
    · rw [h_10]
      refine lv_if_eq (tgt := 45) hx hb dX11_canSing_13 rfl (fun c_14 => absurd c_14 (by decide +kernel)) (fun c_14 => ?_)
      refine lv_aload_n hx hb dX11_canSing_16 rfl (lv_at hl 0 rfl) ?_
      refine lv_aload_n hx hb dX11_canSing_17 rfl (lv_at hl 1 rfl) ?_
      refine lv_iload_n hx hb dX11_canSing_18 rfl (lv_at hl 2 rfl) ?_
      refine lv_iload_n hx hb dX11_canSing_19 rfl (lv_at hl 3 rfl) ?_
      obtain ⟨hPc, hDc, hFc, hqc⟩ := cl_cut (wc := (wd_c_X11_isBeside h0 h0_0 h0_1 h0_2 h0_3 h0_4 h0_f5 h0_6 h0_7 h0_8 h0_9 h0_10 h0_11 h0_12 h0_13 h0_14 h0_f15 h0_1 h0_1_0 h0_1_f1 h0_1_f2 h0_1_f3 h0_1_0 h0_1_0k h0_1_0c h1 h1_f0 h1_f1 h1_f2 h1_f3 h1_4 h1_5 h1_6 h1_7 h1_8 h1_9 h1_10 h1_11 h1_12 h1_4 h1_4k h1_4c h1_5 h1_5k h1_5c)) hP hD hS hA [0, 1, 2, 3, 4, 5] (by decide +kernel) rfl
      have hKc := hK.sub (tys' := [(h0_1_0k, .int), (h1_4k, .int), (h1_5k, .int)]) [0, 1, 2] rfl
      have hrv := va_recv hKc hPc (ci := 11) (q0 := 0) rfl rfl
      refine va_calli (va_runV (As := [.ref h1, .int p2, .int p3]) (rest := []) ⟨hx, hb, hml, hown, hts⟩ (c_X11_isBeside l dC dI H.size h0 h1 p2 p3 h0_0 h0_1 h0_2 h0_3 h0_4 h0_f5 h0_6 h0_7 h0_8 h0_9 h0_10 h0_11 h0_12 h0_13 h0_14 h0_f15 h0_1_0 h0_1_f1 h0_1_f2 h0_1_f3 h0_1_0k h0_1_0c h1_f0 h1_f1 h1_f2 h1_f3 h1_4 h1_5 h1_6 h1_7 h1_8 h1_9 h1_10 h1_11 h1_12 h1_4k h1_4c h1_5k h1_5c h_5 h_12 g_h0_f5 (RG_w h_11 (by decide +kernel)) (RG_w h_4 (by decide +kernel)) g_h0_1_f3 a_h0_1_0c) (cwV 3 hts gf_c_X11_canSing_1_c_X11_isBeside rfl rfl rfl mdV_X11_isBeside ⟨Nat.le_of_ble_eq_true rfl, Nat.le_of_ble_eq_true rfl⟩) ⟨fun a U g mk q => by obtain ⟨q0, q1, qP, qK, qD⟩ := q; exact ⟨q0, q1, qP, va_K.moved (u := U) (U := U.calling g mk a) (Vm.Alike.refl U.vm) qK, qD⟩, hrv, fun U hU hW => ⟨rfl, by rw [hU], by rw [hU]; exact hPc, va_K.moved hW.alike hKc, hDc.weaken (fun _ _ _ _ => trivial)⟩⟩ rfl rfl hl.1 rfl (lv_room (Nat.le_of_ble_eq_true rfl)) dX11_canSing_20 ⟨Nat.le_of_ble_eq_true rfl, Nat.le_of_ble_eq_true rfl⟩) hS (fun q _ h => hFc q h) hFc (fun r_15 u t H1 locs ht hvm hw hB hz1 hk1 hS => ?_)
      as_aux_lemma =>
      obtain ⟨hP1, hK1, hD1⟩ := hB
      rw [ht] at hP1
      obtain ⟨hP, hD⟩ := cl_put (w1 := (wd_c_X11_isBeside h0 h0_0 h0_1 h0_2 h0_3 h0_4 h0_f5 h0_6 h0_7 h0_8 h0_9 h0_10 h0_11 h0_12 h0_13 h0_14 h0_f15 h0_1 h0_1_0 h0_1_f1 h0_1_f2 h0_1_f3 h0_1_0 h0_1_0k h0_1_0c h1 h1_f0 h1_f1 h1_f2 h1_f3 h1_4 h1_5 h1_6 h1_7 h1_8 h1_9 h1_10 h1_11 h1_12 h1_4 h1_4k h1_4c h1_5 h1_5k h1_5c)) (nw := (wd_c_X11_canSing_1 h0 h0_0 h0_1 h0_2 h0_3 h0_4 h0_f5 h0_6 h0_7 h0_8 h0_9 h0_10 h0_11 h0_12 h0_13 h0_14 h0_f15 h0_1 h0_1_0 h0_1_f1 h0_1_f2 h0_1_f3 h0_1_0 h0_1_0k h0_1_0c h1 h1_f0 h1_f1 h1_f2 h1_f3 h1_4 h1_5 h1_6 h1_7 h1_8 h1_9 h1_10 h1_11 h1_12 h1_4 h1_4k h1_4c h1_5 h1_5k h1_5c h1_10 h1_10k h1_10c)) hP hD [0, 1, 2, 3, 4, 5] [7, 8, 9, 10, 11, 12, 6] 7 rfl hqc (by decide +kernel) rfl hk1 hFc hP1 hD1
      generalize H1 = H at hP hS ⊢
      as_aux_lemma =>
      rcases hw with h_16 | h_17
      · rw [h_16]
        refine lv_if_eq (tgt := 45) hx hb dX11_canSing_23 rfl (fun c_18 => ?_) (fun c_18 => absurd c_18 (by decide +kernel))
        refine lv_iconst (v := 0) hx hb dX11_canSing_45 kc_iconst_0 ?_
        have hK9 := hK.sub (tys' := []) [] rfl
        exact W.zret (v := 0) hx hb hr rfl (fun t ht hW => ⟨⟨0, (), rfl, (Or.inl rfl), by rw [ht]; exact hP, va_K.moved hW.alike hK9, hD⟩, hS.F ht⟩) hS.2.2 dX11_canSing_46
      · rw [h_17]
        refine lv_if_eq (tgt := 45) hx hb dX11_canSing_23 rfl (fun c_19 => absurd c_19 (by decide +kernel)) (fun c_19 => ?_)
        refine lv_aload_n hx hb dX11_canSing_26 rfl (lv_at hl 1 rfl) ?_
        refine va_get (D := (dC, dI)) (ci := 7) (v := .ref h1_10) (C := RX7) (T := TX7) (N := 13) hx hb hts iw_c_X11_canSing_1_X7 hown hK hP 3 rfl rfl 10 (by decide +kernel) (hts (.fieldLink RX11 188 "BuoyVote$Sea" "liking" "[I") (List.mem_of_getElem? (i := 38) rfl)) (fun _ h9 => h9) rfl dX11_canSing_27 ?_
        refine lv_iload_n hx hb dX11_canSing_30 rfl (lv_at hl 3 rfl) ?_
        refine lv_iconst (v := 3) hx hb dX11_canSing_31 kc_iconst_3 ?_
        refine lv_imul hx hb dX11_canSing_32 ?_
        refine lv_topi (fun x_20 ex_20 => ?_)
        as_aux_lemma =>
        have g_21 : RG x_20 0 21 := RG_mulc ex_20 (q := 3) rfl h_12 (by decide +kernel)
        refine lv_iload_n hx hb dX11_canSing_33 rfl (lv_at hl 2 rfl) ?_
        refine lv_iadd hx hb dX11_canSing_34 ?_
        refine lv_topi (fun x_22 ex_22 => ?_)
        have g_23 : RG x_22 0 23 := RG_add ex_22 g_21 h_5 (by decide +kernel)
        refine va_iald hx hb hK hP 6 3 rfl rfl (RG_in g_23 (by decide +kernel)) dX11_canSing_35 ?_
        refine lv_topi (fun x_24 ex_24 => ?_)
        refine lv_bipush (v := 9) hx hb dX11_canSing_36 kc_bipush_9 ?_
        refine lv_icmp_ge (tgt := 45) hx hb dX11_canSing_38 rfl (fun c_25 => ?_) (fun c_25 => ?_)
        · have g_26 : RG x_24 9 2147483647 := RG_le2 (RG_k 9 9 rfl) (RG_any x_24) c_25 (by decide +kernel)
          refine lv_iconst (v := 0) hx hb dX11_canSing_45 kc_iconst_0 ?_
          have hK9 := hK.sub (tys' := []) [] rfl
          exact W.zret (v := 0) hx hb hr rfl (fun t ht hW => ⟨⟨0, (), rfl, (Or.inl rfl), by rw [ht]; exact hP, va_K.moved hW.alike hK9, hD⟩, hS.F ht⟩) hS.2.2 dX11_canSing_46
        · have d_27 := Int32.not_le.mp c_25
          have g_28 : RG x_24 (-2147483648) 8 := RG_lt1 (RG_any x_24) (RG_k 9 9 rfl) d_27 (by decide +kernel)
          refine lv_iconst (v := 1) hx hb dX11_canSing_41 kc_iconst_1 ?_
          as_aux_lemma =>
          refine lv_goto (tgt := 46) hx hb dX11_canSing_42 rfl ?_
          have hK9 := hK.sub (tys' := []) [] rfl
          exact W.zret (v := 1) hx hb hr rfl (fun t ht hW => ⟨⟨1, (), rfl, (Or.inr ⟨rfl, h_11, h_4, h_5, h_12⟩), by rw [ht]; exact hP, va_K.moved hW.alike hK9, hD⟩, hS.F ht⟩) hS.2.2 dX11_canSing_46
noncomputable def wd_c_X11_canScrape_1 (a0 : Nat) (a1 : Nat) (a2 : Nat) (a3 : Nat) (a4 : Nat) (a5 : Nat) (a6 : Int32) (a7 : Nat) (a8 : Nat) (a9 : Nat) (a10 : Nat) (a11 : Nat) (a12 : Nat) (a13 : Nat) (a14 : Nat) (a15 : Nat) (a16 : Int64) (a17 : Nat) (a18 : Nat) (a19 : Int32) (a20 : Int32) (a21 : Int32) (a22 : Nat) (a23 : ClassId) (a24 : Nat → Int32) (a25 : Nat) (a26 : Int32) (a27 : Int32) (a28 : Int32) (a29 : Int32) (a30 : Nat) (a31 : Nat) (a32 : Nat) (a33 : Nat) (a34 : Nat) (a35 : Nat) (a36 : Nat) (a37 : Nat) (a38 : Nat) (a39 : Nat) (a40 : ClassId) (a41 : Nat → Int32) (a42 : Nat) (a43 : ClassId) (a44 : Nat → Int32) (a45 : Nat) (a46 : ClassId) (a47 : Nat → Int32) : va_W := [(a0, .inr (11, [.ref a1, .ref a2, .ref a3, .ref a4, .ref a5, .int a6, .ref a7, .ref a8, .ref a9, .ref a10, .ref a11, .ref a12, .ref a13, .ref a14, .ref a15, .long a16])), (a17, .inr (0, [.ref a18, .int a19, .int a20, .int a21])), (a22, .inl (a23, 80, .inl a24)), (a25, .inr (7, [.int a26, .int a27, .int a28, .int a29, .ref a30, .ref a31, .ref a32, .ref a33, .ref a34, .ref a35, .ref a36, .ref a37, .ref a38])), (a39, .inl (a40, 3, .inl a41)), (a42, .inl (a43, 3, .inl a44)), (a45, .inl (a46, 8, .inl a47))]
noncomputable def wf_c_X11_canScrape_1 : List Cond := List.cons (.code yX11_canScrape cX11_canScrape 4 (some .boolean)) (@HAppend.hAppend (List Cond) (List Cond) (List Cond) _ (@HAppend.hAppend (List Cond) (List Cond) (List Cond) _ (@HAppend.hAppend (List Cond) (List Cond) (List Cond) _ [.methodLink RX11 191 yX11_isBoat, .instanceMethod yX11_isBoat, .selects RX11 yX11_isBoat yX11_isBoat, .initialized RX11, .code yX11_isBoat cX11_isBoat 2 (some .boolean), .fieldLink RX11 19 "BuoyVote" "told" "LBuoyVote$Borough;", .fieldLink RX11 272 "BuoyVote$Borough" "boats" "I", .methodLink RX11 163 yX11_isBuoy, .instanceMethod yX11_isBuoy, .selects RX11 yX11_isBuoy yX11_isBuoy, .code yX11_isBuoy cX11_isBuoy 2 (some .boolean), .fieldLink RX11 275 "BuoyVote$Borough" "buoys" "I", .methodLink RX11 416 yX11_isBeside, .instanceMethod yX11_isBeside, .selects RX11 yX11_isBeside yX11_isBeside, .code yX11_isBeside cX11_isBeside 4 (some .boolean), .methodLink RX11 169 yX0_buoyX, .instanceMethod yX0_buoyX, .selects RX0 yX0_buoyX yX0_buoyX, .initialized RX0, .code yX0_buoyX cX0_buoyX 2 (some .int), .fieldLink RX0 11 "BuoyVote$Borough" "values" "[I", .methodLink RX11 172 yX0_buoyY, .instanceMethod yX0_buoyY, .selects RX0 yX0_buoyY yX0_buoyY, .code yX0_buoyY cX0_buoyY 2 (some .int), .methodLink RX11 240 yX7_awayOf, .instanceMethod yX7_awayOf, .selects RX7 yX7_awayOf yX7_awayOf, .initialized RX7, .code yX7_awayOf cX7_awayOf 4 (some .int), .fieldLink RX7 9 "BuoyVote$Sea" "x" "[I", .methodLink RX7 99 Lib.Math.abs.name, .static Lib.Math.abs.name, .initialized "java/lang/Math", .code Lib.Math.abs.name Lib.Math.abs.code 1 (some .int), .fieldLink RX7 15 "BuoyVote$Sea" "y" "[I", .fieldLink RX11 181 "BuoyVote$Sea" "barnacles" "[I"] wsX110) wsX00) wsX70)
theorem iw_c_X11_canScrape_1_X11 : ∀ w ∈ wsX110, w ∈ wf_c_X11_canScrape_1 := fun w h => List.mem_cons_of_mem _ (List.mem_append_left _ (List.mem_append_left _ (List.mem_append_right _ h)))
theorem iw_c_X11_canScrape_1_X0 : ∀ w ∈ wsX00, w ∈ wf_c_X11_canScrape_1 := fun w h => List.mem_cons_of_mem _ (List.mem_append_left _ (List.mem_append_right _ h))
theorem iw_c_X11_canScrape_1_X7 : ∀ w ∈ wsX70, w ∈ wf_c_X11_canScrape_1 := fun w h => List.mem_cons_of_mem _ (List.mem_append_right _ h)
set_option maxRecDepth 20000 in
theorem gf_c_X11_canScrape_1_c_X11_isBoat_1 : GoodIn wf_c_X11_canScrape_1 (wsV RX11 191 RX11 yX11_isBoat wf_c_X11_isBoat_1) := goodIn_app (gi_l [1, 2, 3, 4] rfl rfl) (gi_cons (j := 5) rfl rfl (goodIn_app (goodIn_app (gi_l [6, 7] rfl rfl) (goodIn_sub iw_c_X11_canScrape_1_X11 gw_X11)) (goodIn_sub iw_c_X11_canScrape_1_X0 gw_X0)))
set_option maxRecDepth 20000 in
theorem gf_c_X11_canScrape_1_c_X11_isBuoy_1 : GoodIn wf_c_X11_canScrape_1 (wsV RX11 163 RX11 yX11_isBuoy wf_c_X11_isBuoy_1) := goodIn_app (gi_l [8, 9, 10, 4] rfl rfl) (gi_cons (j := 11) rfl rfl (goodIn_app (goodIn_app (gi_l [6, 12] rfl rfl) (goodIn_sub iw_c_X11_canScrape_1_X11 gw_X11)) (goodIn_sub iw_c_X11_canScrape_1_X0 gw_X0)))
set_option maxRecDepth 20000 in
theorem gf_c_X11_canScrape_1_c_X11_isBeside : GoodIn wf_c_X11_canScrape_1 (wsV RX11 416 RX11 yX11_isBeside wf_c_X11_isBeside) := goodIn_app (gi_l [13, 14, 15, 4] rfl rfl) (gi_cons (j := 16) rfl rfl (goodIn_app (goodIn_app (goodIn_app (gi_l [6, 17, 18, 19, 20, 21, 22, 23, 24, 25, 26, 27, 28, 29, 30, 31, 32, 33, 34, 35, 36, 37] rfl rfl) (goodIn_sub iw_c_X11_canScrape_1_X11 gw_X11)) (goodIn_sub iw_c_X11_canScrape_1_X0 gw_X0)) (goodIn_sub iw_c_X11_canScrape_1_X7 gw_X7)))
set_option maxHeartbeats 4000000 in
set_option maxRecDepth 100000 in
theorem c_X11_canScrape_1 (l : Launch) (dC : Nat → ClassId) (dI : Nat → Nat → Nat) (sz : Nat) (h0 : Nat) (h1 : Nat) (p2 : Int32) (p3 : Int32) (h0_0 : Nat) (h0_1 : Nat) (h0_2 : Nat) (h0_3 : Nat) (h0_4 : Nat) (h0_f5 : Int32) (h0_6 : Nat) (h0_7 : Nat) (h0_8 : Nat) (h0_9 : Nat) (h0_10 : Nat) (h0_11 : Nat) (h0_12 : Nat) (h0_13 : Nat) (h0_14 : Nat) (h0_f15 : Int64) (h0_1_0 : Nat) (h0_1_f1 : Int32) (h0_1_f2 : Int32) (h0_1_f3 : Int32) (h0_1_0k : ClassId) (h0_1_0c : Nat → Int32) (h1_f0 : Int32) (h1_f1 : Int32) (h1_f2 : Int32) (h1_f3 : Int32) (h1_4 : Nat) (h1_5 : Nat) (h1_6 : Nat) (h1_7 : Nat) (h1_8 : Nat) (h1_9 : Nat) (h1_10 : Nat) (h1_11 : Nat) (h1_12 : Nat) (h1_4k : ClassId) (h1_4c : Nat → Int32) (h1_5k : ClassId) (h1_5c : Nat → Int32) (h1_12k : ClassId) (h1_12c : Nat → Int32) (g_p2 : RG p2 (-1) 99) (g_p3 : RG p3 (-1) 99) (g_h0_f5 : RG h0_f5 0 4) (g_h0_1_f1 : RG h0_1_f1 0 8) (g_h0_1_f2 : RG h0_1_f2 0 3) (g_h0_1_f3 : RG h0_1_f3 0 1) (a_h0_1_0c : AI h0_1_0c (-1) 99) : Met l yX11_canScrape wf_c_X11_canScrape_1 ({ frames := 3, cells := 0, slots := 0, locals := 60 }) (va_Pc [.ref h0, .ref h1, .int p2, .int p3] (fun U => U.heap.size = sz ∧ va_P (dC, dI) vwCl (wd_c_X11_canScrape_1 h0 h0_0 h0_1 h0_2 h0_3 h0_4 h0_f5 h0_6 h0_7 h0_8 h0_9 h0_10 h0_11 h0_12 h0_13 h0_14 h0_f15 h0_1 h0_1_0 h0_1_f1 h0_1_f2 h0_1_f3 h0_1_0 h0_1_0k h0_1_0c h1 h1_f0 h1_f1 h1_f2 h1_f3 h1_4 h1_5 h1_6 h1_7 h1_8 h1_9 h1_10 h1_11 h1_12 h1_4 h1_4k h1_4c h1_5 h1_5k h1_5c h1_12 h1_12k h1_12c) U.heap ∧ va_K (dC, dI) vwCl [(h0_1_0k, .int), (h1_4k, .int), (h1_5k, .int), (h1_12k, .int)] U ∧ va_D (fun _ => True) (wd_c_X11_canScrape_1 h0 h0_0 h0_1 h0_2 h0_3 h0_4 h0_f5 h0_6 h0_7 h0_8 h0_9 h0_10 h0_11 h0_12 h0_13 h0_14 h0_f15 h0_1 h0_1_0 h0_1_f1 h0_1_f2 h0_1_f3 h0_1_0 h0_1_0k h0_1_0c h1 h1_f0 h1_f1 h1_f2 h1_f3 h1_4 h1_5 h1_6 h1_7 h1_8 h1_9 h1_10 h1_11 h1_12 h1_4 h1_4k h1_4c h1_5 h1_5k h1_5c h1_12 h1_12k h1_12c))) (va_Qi (fun (r : Int32) (u : Unit) => (r = 0) ∨ (r = 1 ∧ RG h0_1_f1 1 8 ∧ RG h0_1_f2 1 3 ∧ RG p2 0 2 ∧ RG p3 0 7)) (fun (u : Unit) t => va_P (dC, dI) vwCl (wd_c_X11_canScrape_1 h0 h0_0 h0_1 h0_2 h0_3 h0_4 h0_f5 h0_6 h0_7 h0_8 h0_9 h0_10 h0_11 h0_12 h0_13 h0_14 h0_f15 h0_1 h0_1_0 h0_1_f1 h0_1_f2 h0_1_f3 h0_1_0 h0_1_0k h0_1_0c h1 h1_f0 h1_f1 h1_f2 h1_f3 h1_4 h1_5 h1_6 h1_7 h1_8 h1_9 h1_10 h1_11 h1_12 h1_4 h1_4k h1_4c h1_5 h1_5k h1_5c h1_12 h1_12k h1_12c) t.heap ∧ va_K (dC, dI) vwCl [] t ∧ va_D (va_A (wd_c_X11_canScrape_1 h0 h0_0 h0_1 h0_2 h0_3 h0_4 h0_f5 h0_6 h0_7 h0_8 h0_9 h0_10 h0_11 h0_12 h0_13 h0_14 h0_f15 h0_1 h0_1_0 h0_1_f1 h0_1_f2 h0_1_f3 h0_1_0 h0_1_0k h0_1_0c h1 h1_f0 h1_f1 h1_f2 h1_f3 h1_4 h1_5 h1_6 h1_7 h1_8 h1_9 h1_10 h1_11 h1_12 h1_4 h1_4k h1_4c h1_5 h1_5k h1_5c h1_12 h1_12k h1_12c) sz) (wd_c_X11_canScrape_1 h0 h0_0 h0_1 h0_2 h0_3 h0_4 h0_f5 h0_6 h0_7 h0_8 h0_9 h0_10 h0_11 h0_12 h0_13 h0_14 h0_f15 h0_1 h0_1_0 h0_1_f1 h0_1_f2 h0_1_f3 h0_1_0 h0_1_0k h0_1_0c h1 h1_f0 h1_f1 h1_f2 h1_f3 h1_4 h1_5 h1_6 h1_7 h1_8 h1_9 h1_10 h1_11 h1_12 h1_4 h1_4k h1_4c h1_5 h1_5k h1_5c h1_12 h1_12k h1_12c)) (va_A (wd_c_X11_canScrape_1 h0 h0_0 h0_1 h0_2 h0_3 h0_4 h0_f5 h0_6 h0_7 h0_8 h0_9 h0_10 h0_11 h0_12 h0_13 h0_14 h0_f15 h0_1 h0_1_0 h0_1_f1 h0_1_f2 h0_1_f3 h0_1_0 h0_1_0k h0_1_0c h1 h1_f0 h1_f1 h1_f2 h1_f3 h1_4 h1_5 h1_6 h1_7 h1_8 h1_9 h1_10 h1_11 h1_12 h1_4 h1_4k h1_4c h1_5 h1_5k h1_5c h1_12 h1_12k h1_12c) sz)) 0 0 (va_A (wd_c_X11_canScrape_1 h0 h0_0 h0_1 h0_2 h0_3 h0_4 h0_f5 h0_6 h0_7 h0_8 h0_9 h0_10 h0_11 h0_12 h0_13 h0_14 h0_f15 h0_1 h0_1_0 h0_1_f1 h0_1_f2 h0_1_f3 h0_1_0 h0_1_0k h0_1_0c h1 h1_f0 h1_f1 h1_f2 h1_f3 h1_4 h1_5 h1_6 h1_7 h1_8 h1_9 h1_10 h1_11 h1_12 h1_4 h1_4k h1_4c h1_5 h1_5k h1_5c h1_12 h1_12k h1_12c) sz) := by
  refine Met.ofW (cc := cX11_canScrape) (maxL := 4) (ret := (some .boolean)) (by decide +kernel) rfl ?_
  intro p e s m args below meth c s₁ B hml hv
  obtain ⟨rfl, hsz, hP, hK, hD0⟩ := hv
  have hx := B.exec
  have hb := B.bytes
  have hr := B.returns
  have hts := atoms_spec (ws := wf_c_X11_canScrape_1) B.pre
  have hown : s.vm.findClass RX11 = some m.cls := findClass_of_methodNamed B.named
  have hlocks := B.notSynchronized
  subst hsz
  have hD := hD0.self (sz := s.heap.size)
  generalize hAe : va_A (wd_c_X11_canScrape_1 h0 h0_0 h0_1 h0_2 h0_3 h0_4 h0_f5 h0_6 h0_7 h0_8 h0_9 h0_10 h0_11 h0_12 h0_13 h0_14 h0_f15 h0_1 h0_1_0 h0_1_f1 h0_1_f2 h0_1_f3 h0_1_0 h0_1_0k h0_1_0c h1 h1_f0 h1_f1 h1_f2 h1_f3 h1_4 h1_5 h1_6 h1_7 h1_8 h1_9 h1_10 h1_11 h1_12 h1_4 h1_4k h1_4c h1_5 h1_5k h1_5c h1_12 h1_12k h1_12c) s.heap.size = A at hD ⊢
  have hA : ∀ q : Nat, s.heap.size ≤ q → A q := fun q h => by rw [← hAe]; exact Or.inr h
  have hP : va_P (dC, dI) vwCl (wd_c_X11_canScrape_1 h0 h0_0 h0_1 h0_2 h0_3 h0_4 h0_f5 h0_6 h0_7 h0_8 h0_9 h0_10 h0_11 h0_12 h0_13 h0_14 h0_f15 h0_1 h0_1_0 h0_1_f1 h0_1_f2 h0_1_f3 h0_1_0 h0_1_0k h0_1_0c h1 h1_f0 h1_f1 h1_f2 h1_f3 h1_4 h1_5 h1_6 h1_7 h1_8 h1_9 h1_10 h1_11 h1_12 h1_4 h1_4k h1_4c h1_5 h1_5k h1_5c h1_12 h1_12k h1_12c) s.heap := hP
  have hl := lv_entry ([.ref h0, .ref h1, .int p2, .int p3]) (n := 4) (Nat.le_of_ble_eq_true rfl)
  rw [lg_entry_eq]
  generalize (lg_sl ([.ref h0, .ref h1, .int p2, .int p3]) ++ List.replicate (4 - (lg_sl ([.ref h0, .ref h1, .int p2, .int p3])).length) Slot.unset).toArray = ls at hl ⊢
  have hl : lv_has ls 4 [(0, .ref h0), (1, .ref h1), (2, .int p2), (3, .int p3)] := hl
  obtain ⟨H, hHe⟩ : ∃ H : Heap, s.heap = H := ⟨_, rfl⟩
  have hS : va_S A s.heap H [] := by rw [hHe]; exact va_S.rf
  have hP : va_P (dC, dI) vwCl (wd_c_X11_canScrape_1 h0 h0_0 h0_1 h0_2 h0_3 h0_4 h0_f5 h0_6 h0_7 h0_8 h0_9 h0_10 h0_11 h0_12 h0_13 h0_14 h0_f15 h0_1 h0_1_0 h0_1_f1 h0_1_f2 h0_1_f3 h0_1_0 h0_1_0k h0_1_0c h1 h1_f0 h1_f1 h1_f2 h1_f3 h1_4 h1_5 h1_6 h1_7 h1_8 h1_9 h1_10 h1_11 h1_12 h1_4 h1_4k h1_4c h1_5 h1_5k h1_5c h1_12 h1_12k h1_12c) H := by rw [← hHe]; exact hP
  rw [hHe]
  refine lv_aload_n hx hb dX11_canScrape_0 rfl (lv_at hl 0 rfl) ?_
  as_aux_lemma =>
  refine lv_iload_n hx hb dX11_canScrape_1 rfl (lv_at hl 2 rfl) ?_
  obtain ⟨hPc, hDc, hFc, hqc⟩ := cl_cut (wc := (wd_c_X11_isBoat_1 h0 h0_0 h0_1 h0_2 h0_3 h0_4 h0_f5 h0_6 h0_7 h0_8 h0_9 h0_10 h0_11 h0_12 h0_13 h0_14 h0_f15 h0_1 h0_1_0 h0_1_f1 h0_1_f2 h0_1_f3)) hP hD hS hA [0, 1] (by decide +kernel) rfl
  have hKc := hK.sub (tys' := []) [] rfl
  have hrv := va_recv hKc hPc (ci := 11) (q0 := 0) rfl rfl
  refine va_calli (va_runV (As := [.int p2]) (rest := []) ⟨hx, hb, hml, hown, hts⟩ (c_X11_isBoat_1 l dC dI H.size h0 p2 h0_0 h0_1 h0_2 h0_3 h0_4 h0_f5 h0_6 h0_7 h0_8 h0_9 h0_10 h0_11 h0_12 h0_13 h0_14 h0_f15 h0_1_0 h0_1_f1 h0_1_f2 h0_1_f3 g_p2 g_h0_f5 g_h0_1_f1 g_h0_1_f2 g_h0_1_f3) (cwV 1 hts gf_c_X11_canScrape_1_c_X11_isBoat_1 rfl rfl rfl mdV_X11_isBoat ⟨Nat.le_of_ble_eq_true rfl, Nat.le_of_ble_eq_true rfl⟩) ⟨fun a U g mk q => by obtain ⟨q0, q1, qP, qK, qD⟩ := q; exact ⟨q0, q1, qP, va_K.moved (u := U) (U := U.calling g mk a) (Vm.Alike.refl U.vm) qK, qD⟩, hrv, fun U hU hW => ⟨rfl, by rw [hU], by rw [hU]; exact hPc, va_K.moved hW.alike hKc, hDc.weaken (fun _ _ _ _ => trivial)⟩⟩ rfl rfl hl.1 rfl (lv_room (Nat.le_of_ble_eq_true rfl)) dX11_canScrape_2 ⟨Nat.le_of_ble_eq_true rfl, Nat.le_of_ble_eq_true rfl⟩) hS (fun q _ h => hFc q h) hFc (fun r_1 u t H1 locs ht hvm hw hB hz1 hk1 hS => ?_)
  obtain ⟨hP1, hK1, hD1⟩ := hB
  rw [ht] at hP1
  obtain ⟨hP, hD⟩ := cl_put (w1 := (wd_c_X11_isBoat_1 h0 h0_0 h0_1 h0_2 h0_3 h0_4 h0_f5 h0_6 h0_7 h0_8 h0_9 h0_10 h0_11 h0_12 h0_13 h0_14 h0_f15 h0_1 h0_1_0 h0_1_f1 h0_1_f2 h0_1_f3)) (nw := (wd_c_X11_canScrape_1 h0 h0_0 h0_1 h0_2 h0_3 h0_4 h0_f5 h0_6 h0_7 h0_8 h0_9 h0_10 h0_11 h0_12 h0_13 h0_14 h0_f15 h0_1 h0_1_0 h0_1_f1 h0_1_f2 h0_1_f3 h0_1_0 h0_1_0k h0_1_0c h1 h1_f0 h1_f1 h1_f2 h1_f3 h1_4 h1_5 h1_6 h1_7 h1_8 h1_9 h1_10 h1_11 h1_12 h1_4 h1_4k h1_4c h1_5 h1_5k h1_5c h1_12 h1_12k h1_12c)) hP hD [0, 1] [7, 8, 2, 3, 4, 5, 6] 7 rfl hqc (by decide +kernel) rfl hk1 hFc hP1 hD1
  generalize H1 = H at hP hS ⊢
  as_aux_lemma =>
  rcases hw with h_2 | ⟨h_3, h_4, h_5⟩
  · rw [h_2]
    refine lv_if_eq (tgt := 39) hx hb dX11_canScrape_5 rfl (fun c_6 => ?_) (fun c_6 => absurd c_6 (by decide +kernel))
    refine lv_iconst (v := 0) hx hb dX11_canScrape_39 kc_iconst_0 ?_
    have hK9 := hK.sub (tys' := []) [] rfl
    exact W.zret (v := 0) hx hb hr rfl (fun t ht hW => ⟨⟨0, (), rfl, (Or.inl rfl), by rw [ht]; exact hP, va_K.moved hW.alike hK9, hD⟩, hS.F ht⟩) hS.2.2 dX11_canScrape_40
  · rw [h_3]
    refine lv_if_eq (tgt := 39) hx hb dX11_canScrape_5 rfl (fun c_7 => absurd c_7 (by decide +kernel)) (fun c_7 => ?_)
    refine lv_aload_n hx hb dX11_canScrape_8 rfl (lv_at hl 0 rfl) ?_
    refine lv_iload_n hx hb dX11_canScrape_9 rfl (lv_at hl 3 rfl) ?_
    obtain ⟨hPc, hDc, hFc, hqc⟩ := cl_cut (wc := (wd_c_X11_isBuoy_1 h0 h0_0 h0_1 h0_2 h0_3 h0_4 h0_f5 h0_6 h0_7 h0_8 h0_9 h0_10 h0_11 h0_12 h0_13 h0_14 h0_f15 h0_1 h0_1_0 h0_1_f1 h0_1_f2 h0_1_f3)) hP hD hS hA [0, 1] (by decide +kernel) rfl
    have hKc := hK.sub (tys' := []) [] rfl
    have hrv := va_recv hKc hPc (ci := 11) (q0 := 0) rfl rfl
    refine va_calli (va_runV (As := [.int p3]) (rest := []) ⟨hx, hb, hml, hown, hts⟩ (c_X11_isBuoy_1 l dC dI H.size h0 p3 h0_0 h0_1 h0_2 h0_3 h0_4 h0_f5 h0_6 h0_7 h0_8 h0_9 h0_10 h0_11 h0_12 h0_13 h0_14 h0_f15 h0_1_0 h0_1_f1 h0_1_f2 h0_1_f3 g_p3 g_h0_f5 g_h0_1_f1 (RG_w h_4 (by decide +kernel)) g_h0_1_f3) (cwV 1 hts gf_c_X11_canScrape_1_c_X11_isBuoy_1 rfl rfl rfl mdV_X11_isBuoy ⟨Nat.le_of_ble_eq_true rfl, Nat.le_of_ble_eq_true rfl⟩) ⟨fun a U g mk q => by obtain ⟨q0, q1, qP, qK, qD⟩ := q; exact ⟨q0, q1, qP, va_K.moved (u := U) (U := U.calling g mk a) (Vm.Alike.refl U.vm) qK, qD⟩, hrv, fun U hU hW => ⟨rfl, by rw [hU], by rw [hU]; exact hPc, va_K.moved hW.alike hKc, hDc.weaken (fun _ _ _ _ => trivial)⟩⟩ rfl rfl hl.1 rfl (lv_room (Nat.le_of_ble_eq_true rfl)) dX11_canScrape_10 ⟨Nat.le_of_ble_eq_true rfl, Nat.le_of_ble_eq_true rfl⟩) hS (fun q _ h => hFc q h) hFc (fun r_8 u t H1 locs ht hvm hw hB hz1 hk1 hS => ?_)
    as_aux_lemma =>
    obtain ⟨hP1, hK1, hD1⟩ := hB
    rw [ht] at hP1
    obtain ⟨hP, hD⟩ := cl_put (w1 := (wd_c_X11_isBuoy_1 h0 h0_0 h0_1 h0_2 h0_3 h0_4 h0_f5 h0_6 h0_7 h0_8 h0_9 h0_10 h0_11 h0_12 h0_13 h0_14 h0_f15 h0_1 h0_1_0 h0_1_f1 h0_1_f2 h0_1_f3)) (nw := (wd_c_X11_canScrape_1 h0 h0_0 h0_1 h0_2 h0_3 h0_4 h0_f5 h0_6 h0_7 h0_8 h0_9 h0_10 h0_11 h0_12 h0_13 h0_14 h0_f15 h0_1 h0_1_0 h0_1_f1 h0_1_f2 h0_1_f3 h0_1_0 h0_1_0k h0_1_0c h1 h1_f0 h1_f1 h1_f2 h1_f3 h1_4 h1_5 h1_6 h1_7 h1_8 h1_9 h1_10 h1_11 h1_12 h1_4 h1_4k h1_4c h1_5 h1_5k h1_5c h1_12 h1_12k h1_12c)) hP hD [0, 1] [7, 8, 2, 3, 4, 5, 6] 7 rfl hqc (by decide +kernel) rfl hk1 hFc hP1 hD1
    generalize H1 = H at hP hS ⊢
    as_aux_lemma =>
    rcases hw with h_9 | ⟨h_10, h_11, h_12⟩
    · rw [h_9]
      refine lv_if_eq (tgt := 39) hx hb dX11_canScrape_13 rfl (fun c_13 => ?_) (fun c_13 => absurd c_13 (by decide +kernel))
      refine lv_iconst (v := 0) hx hb dX11_canScrape_39 kc_iconst_0 ?_
      have hK9 := hK.sub (tys' := []) [] rfl
      exact W.zret (v := 0) hx hb hr rfl (fun t ht hW => ⟨⟨0, (), rfl, (Or.inl rfl), by rw [ht]; exact hP, va_K.moved hW.alike hK9, hD⟩, hS.F ht⟩) hS.2.2 dX11_canScrape_40
    · rw [h_10]
      refine lv_if_eq (tgt := 39) hx hb dX11_canScrape_13 rfl (fun c_14 => absurd c_14 (by decide +kernel)) (fun c_14 => ?_)
      refine lv_aload_n hx hb dX11_canScrape_16 rfl (lv_at hl 0 rfl) ?_
      refine lv_aload_n hx hb dX11_canScrape_17 rfl (lv_at hl 1 rfl) ?_
      refine lv_iload_n hx hb dX11_canScrape_18 rfl (lv_at hl 2 rfl) ?_
      refine lv_iload_n hx hb dX11_canScrape_19 rfl (lv_at hl 3 rfl) ?_
      obtain ⟨hPc, hDc, hFc, hqc⟩ := cl_cut (wc := (wd_c_X11_isBeside h0 h0_0 h0_1 h0_2 h0_3 h0_4 h0_f5 h0_6 h0_7 h0_8 h0_9 h0_10 h0_11 h0_12 h0_13 h0_14 h0_f15 h0_1 h0_1_0 h0_1_f1 h0_1_f2 h0_1_f3 h0_1_0 h0_1_0k h0_1_0c h1 h1_f0 h1_f1 h1_f2 h1_f3 h1_4 h1_5 h1_6 h1_7 h1_8 h1_9 h1_10 h1_11 h1_12 h1_4 h1_4k h1_4c h1_5 h1_5k h1_5c)) hP hD hS hA [0, 1, 2, 3, 4, 5] (by decide +kernel) rfl
      have hKc := hK.sub (tys' := [(h0_1_0k, .int), (h1_4k, .int), (h1_5k, .int)]) [0, 1, 2] rfl
      have hrv := va_recv hKc hPc (ci := 11) (q0 := 0) rfl rfl
      refine va_calli (va_runV (As := [.ref h1, .int p2, .int p3]) (rest := []) ⟨hx, hb, hml, hown, hts⟩ (c_X11_isBeside l dC dI H.size h0 h1 p2 p3 h0_0 h0_1 h0_2 h0_3 h0_4 h0_f5 h0_6 h0_7 h0_8 h0_9 h0_10 h0_11 h0_12 h0_13 h0_14 h0_f15 h0_1_0 h0_1_f1 h0_1_f2 h0_1_f3 h0_1_0k h0_1_0c h1_f0 h1_f1 h1_f2 h1_f3 h1_4 h1_5 h1_6 h1_7 h1_8 h1_9 h1_10 h1_11 h1_12 h1_4k h1_4c h1_5k h1_5c h_5 h_12 g_h0_f5 (RG_w h_11 (by decide +kernel)) (RG_w h_4 (by decide +kernel)) g_h0_1_f3 a_h0_1_0c) (cwV 3 hts gf_c_X11_canScrape_1_c_X11_isBeside rfl rfl rfl mdV_X11_isBeside ⟨Nat.le_of_ble_eq_true rfl, Nat.le_of_ble_eq_true rfl⟩) ⟨fun a U g mk q => by obtain ⟨q0, q1, qP, qK, qD⟩ := q; exact ⟨q0, q1, qP, va_K.moved (u := U) (U := U.calling g mk a) (Vm.Alike.refl U.vm) qK, qD⟩, hrv, fun U hU hW => ⟨rfl, by rw [hU], by rw [hU]; exact hPc, va_K.moved hW.alike hKc, hDc.weaken (fun _ _ _ _ => trivial)⟩⟩ rfl rfl hl.1 rfl (lv_room (Nat.le_of_ble_eq_true rfl)) dX11_canScrape_20 ⟨Nat.le_of_ble_eq_true rfl, Nat.le_of_ble_eq_true rfl⟩) hS (fun q _ h => hFc q h) hFc (fun r_15 u t H1 locs ht hvm hw hB hz1 hk1 hS => ?_)
      as_aux_lemma =>
      obtain ⟨hP1, hK1, hD1⟩ := hB
      rw [ht] at hP1
      obtain ⟨hP, hD⟩ := cl_put (w1 := (wd_c_X11_isBeside h0 h0_0 h0_1 h0_2 h0_3 h0_4 h0_f5 h0_6 h0_7 h0_8 h0_9 h0_10 h0_11 h0_12 h0_13 h0_14 h0_f15 h0_1 h0_1_0 h0_1_f1 h0_1_f2 h0_1_f3 h0_1_0 h0_1_0k h0_1_0c h1 h1_f0 h1_f1 h1_f2 h1_f3 h1_4 h1_5 h1_6 h1_7 h1_8 h1_9 h1_10 h1_11 h1_12 h1_4 h1_4k h1_4c h1_5 h1_5k h1_5c)) (nw := (wd_c_X11_canScrape_1 h0 h0_0 h0_1 h0_2 h0_3 h0_4 h0_f5 h0_6 h0_7 h0_8 h0_9 h0_10 h0_11 h0_12 h0_13 h0_14 h0_f15 h0_1 h0_1_0 h0_1_f1 h0_1_f2 h0_1_f3 h0_1_0 h0_1_0k h0_1_0c h1 h1_f0 h1_f1 h1_f2 h1_f3 h1_4 h1_5 h1_6 h1_7 h1_8 h1_9 h1_10 h1_11 h1_12 h1_4 h1_4k h1_4c h1_5 h1_5k h1_5c h1_12 h1_12k h1_12c)) hP hD [0, 1, 2, 3, 4, 5] [7, 8, 9, 10, 11, 12, 6] 7 rfl hqc (by decide +kernel) rfl hk1 hFc hP1 hD1
      generalize H1 = H at hP hS ⊢
      as_aux_lemma =>
      rcases hw with h_16 | h_17
      · rw [h_16]
        refine lv_if_eq (tgt := 39) hx hb dX11_canScrape_23 rfl (fun c_18 => ?_) (fun c_18 => absurd c_18 (by decide +kernel))
        refine lv_iconst (v := 0) hx hb dX11_canScrape_39 kc_iconst_0 ?_
        have hK9 := hK.sub (tys' := []) [] rfl
        exact W.zret (v := 0) hx hb hr rfl (fun t ht hW => ⟨⟨0, (), rfl, (Or.inl rfl), by rw [ht]; exact hP, va_K.moved hW.alike hK9, hD⟩, hS.F ht⟩) hS.2.2 dX11_canScrape_40
      · rw [h_17]
        refine lv_if_eq (tgt := 39) hx hb dX11_canScrape_23 rfl (fun c_19 => absurd c_19 (by decide +kernel)) (fun c_19 => ?_)
        refine lv_aload_n hx hb dX11_canScrape_26 rfl (lv_at hl 1 rfl) ?_
        refine va_get (D := (dC, dI)) (ci := 7) (v := .ref h1_12) (C := RX7) (T := TX7) (N := 13) hx hb hts iw_c_X11_canScrape_1_X7 hown hK hP 3 rfl rfl 12 (by decide +kernel) (hts (.fieldLink RX11 181 "BuoyVote$Sea" "barnacles" "[I") (List.mem_of_getElem? (i := 38) rfl)) (fun _ h9 => h9) rfl dX11_canScrape_27 ?_
        refine lv_iload_n hx hb dX11_canScrape_30 rfl (lv_at hl 3 rfl) ?_
        refine va_iald hx hb hK hP 6 3 rfl rfl (RG_in h_12 (by decide +kernel)) dX11_canScrape_31 ?_
        refine lv_topi (fun x_20 ex_20 => ?_)
        refine lv_if_le (tgt := 39) hx hb dX11_canScrape_32 rfl (fun c_21 => ?_) (fun c_21 => ?_)
        · have g_22 : RG x_20 (-2147483648) 0 := RG_le1 (RG_any x_20) (RG_k 0 0 rfl) c_21 (by decide +kernel)
          refine lv_iconst (v := 0) hx hb dX11_canScrape_39 kc_iconst_0 ?_
          as_aux_lemma =>
          have hK9 := hK.sub (tys' := []) [] rfl
          exact W.zret (v := 0) hx hb hr rfl (fun t ht hW => ⟨⟨0, (), rfl, (Or.inl rfl), by rw [ht]; exact hP, va_K.moved hW.alike hK9, hD⟩, hS.F ht⟩) hS.2.2 dX11_canScrape_40
        · have d_23 := Int32.not_le.mp c_21
          have g_24 : RG x_20 1 2147483647 := RG_lt2 (RG_k 0 0 rfl) (RG_any x_20) d_23 (by decide +kernel)
          refine lv_iconst (v := 1) hx hb dX11_canScrape_35 kc_iconst_1 ?_
          refine lv_goto (tgt := 40) hx hb dX11_canScrape_36 rfl ?_
          have hK9 := hK.sub (tys' := []) [] rfl
          exact W.zret (v := 1) hx hb hr rfl (fun t ht hW => ⟨⟨1, (), rfl, (Or.inr ⟨rfl, h_11, h_4, h_5, h_12⟩), by rw [ht]; exact hP, va_K.moved hW.alike hK9, hD⟩, hS.F ht⟩) hS.2.2 dX11_canScrape_40
noncomputable def wd_c_X11_canDo (a0 : Nat) (a1 : Nat) (a2 : Int32) (a3 : Nat) (a4 : ClassId) (a5 : Nat → Int32) (a6 : Nat) (a7 : Nat) (a8 : Nat) (a9 : Nat) (a10 : Nat) (a11 : Nat) (a12 : Int32) (a13 : Nat) (a14 : Nat) (a15 : Nat) (a16 : Nat) (a17 : Nat) (a18 : Nat) (a19 : Nat) (a20 : Nat) (a21 : Nat) (a22 : Int64) (a23 : Nat) (a24 : Nat) (a25 : Int32) (a26 : Int32) (a27 : Int32) (a28 : Nat) (a29 : Int32) (a30 : Int32) (a31 : Int32) (a32 : Int32) (a33 : Nat) (a34 : Nat) (a35 : Nat) (a36 : Nat) (a37 : Nat) (a38 : Nat) (a39 : Nat) (a40 : Nat) (a41 : Nat) (a42 : Nat) (a43 : ClassId) (a44 : Nat → Int32) (a45 : Nat) (a46 : ClassId) (a47 : Nat → Int32) (a48 : Nat) (a49 : ClassId) (a50 : Nat → Int32) (a51 : Nat) (a52 : ClassId) (a53 : Nat → Int32) (a54 : Nat) (a55 : ClassId) (a56 : Nat → Int32) (a57 : Nat) (a58 : ClassId) (a59 : Nat → Int32) (a60 : Nat) (a61 : ClassId) (a62 : Nat → Int32) : va_W := [(a0, .inr (6, [.ref a1, .int a2])), (a3, .inl (a4, 64, .inl a5)), (a6, .inr (11, [.ref a7, .ref a8, .ref a9, .ref a10, .ref a11, .int a12, .ref a13, .ref a14, .ref a15, .ref a16, .ref a17, .ref a18, .ref a19, .ref a20, .ref a21, .long a22])), (a23, .inr (0, [.ref a24, .int a25, .int a26, .int a27])), (a28, .inr (7, [.int a29, .int a30, .int a31, .int a32, .ref a33, .ref a34, .ref a35, .ref a36, .ref a37, .ref a38, .ref a39, .ref a40, .ref a41])), (a42, .inl (a43, 3, .inl a44)), (a45, .inl (a46, 3, .inl a47)), (a48, .inl (a49, 80, .inl a50)), (a51, .inl (a52, 3, .inl a53)), (a54, .inl (a55, 3, .inl a56)), (a57, .inl (a58, 24, .inl a59)), (a60, .inl (a61, 8, .inl a62))]
noncomputable def wf_c_X11_canDo : List Cond := List.cons (.code yX11_canDo cX11_canDo 6 (some .boolean)) (@HAppend.hAppend (List Cond) (List Cond) (List Cond) _ (@HAppend.hAppend (List Cond) (List Cond) (List Cond) _ (@HAppend.hAppend (List Cond) (List Cond) (List Cond) _ (@HAppend.hAppend (List Cond) (List Cond) (List Cond) _ [.methodLink RX11 299 yX6_part, .instanceMethod yX6_part, .selects RX6 yX6_part yX6_part, .initialized RX6, .code yX6_part cX6_part 3 (some .int), .fieldLink RX6 11 "BuoyVote$Plan" "cells" "[I", .methodLink RX11 232 yX11_canRow, .instanceMethod yX11_canRow, .selects RX11 yX11_canRow yX11_canRow, .initialized RX11, .code yX11_canRow cX11_canRow 5 (some .boolean), .methodLink RX11 191 yX11_isBoat, .instanceMethod yX11_isBoat, .selects RX11 yX11_isBoat yX11_isBoat, .code yX11_isBoat cX11_isBoat 2 (some .boolean), .fieldLink RX11 19 "BuoyVote" "told" "LBuoyVote$Borough;", .fieldLink RX11 272 "BuoyVote$Borough" "boats" "I", .methodLink RX11 111 yX11_isWithin, .static yX11_isWithin, .code yX11_isWithin cX11_isWithin 3 (some .boolean), .fieldLink RX11 206 "BuoyVote$Sea" "goalX" "[I", .fieldLink RX11 209 "BuoyVote$Sea" "goalY" "[I", .methodLink RX11 248 yX11_canSing, .instanceMethod yX11_canSing, .selects RX11 yX11_canSing yX11_canSing, .code yX11_canSing cX11_canSing 4 (some .boolean), .methodLink RX11 163 yX11_isBuoy, .instanceMethod yX11_isBuoy, .selects RX11 yX11_isBuoy yX11_isBuoy, .code yX11_isBuoy cX11_isBuoy 2 (some .boolean), .fieldLink RX11 275 "BuoyVote$Borough" "buoys" "I", .methodLink RX11 416 yX11_isBeside, .instanceMethod yX11_isBeside, .selects RX11 yX11_isBeside yX11_isBeside, .code yX11_isBeside cX11_isBeside 4 (some .boolean), .methodLink RX11 169 yX0_buoyX, .instanceMethod yX0_buoyX, .selects RX0 yX0_buoyX yX0_buoyX, .initialized RX0, .code yX0_buoyX cX0_buoyX 2 (some .int), .fieldLink RX0 11 "BuoyVote$Borough" "values" "[I", .methodLink RX11 172 yX0_buoyY, .instanceMethod yX0_buoyY, .selects RX0 yX0_buoyY yX0_buoyY, .code yX0_buoyY cX0_buoyY 2 (some .int), .methodLink RX11 240 yX7_awayOf, .instanceMethod yX7_awayOf, .selects RX7 yX7_awayOf yX7_awayOf, .initialized RX7, .code yX7_awayOf cX7_awayOf 4 (some .int), .fieldLink RX7 9 "BuoyVote$Sea" "x" "[I", .methodLink RX7 99 Lib.Math.abs.name, .static Lib.Math.abs.name, .initialized "java/lang/Math", .code Lib.Math.abs.name Lib.Math.abs.code 1 (some .int), .fieldLink RX7 15 "BuoyVote$Sea" "y" "[I", .fieldLink RX11 188 "BuoyVote$Sea" "liking" "[I", .methodLink RX11 256 yX11_canScrape, .instanceMethod yX11_canScrape, .selects RX11 yX11_canScrape yX11_canScrape, .code yX11_canScrape cX11_canScrape 4 (some .boolean), .fieldLink RX11 181 "BuoyVote$Sea" "barnacles" "[I"] wsX60) wsX110) wsX00) wsX70)
theorem iw_c_X11_canDo_X6 : ∀ w ∈ wsX60, w ∈ wf_c_X11_canDo := fun w h => List.mem_cons_of_mem _ (List.mem_append_left _ (List.mem_append_left _ (List.mem_append_left _ (List.mem_append_right _ h))))
theorem iw_c_X11_canDo_X11 : ∀ w ∈ wsX110, w ∈ wf_c_X11_canDo := fun w h => List.mem_cons_of_mem _ (List.mem_append_left _ (List.mem_append_left _ (List.mem_append_right _ h)))
theorem iw_c_X11_canDo_X0 : ∀ w ∈ wsX00, w ∈ wf_c_X11_canDo := fun w h => List.mem_cons_of_mem _ (List.mem_append_left _ (List.mem_append_right _ h))
theorem iw_c_X11_canDo_X7 : ∀ w ∈ wsX70, w ∈ wf_c_X11_canDo := fun w h => List.mem_cons_of_mem _ (List.mem_append_right _ h)
set_option maxRecDepth 20000 in
theorem gf_c_X11_canDo_c_X6_part : GoodIn wf_c_X11_canDo (wsV RX11 299 RX6 yX6_part wf_c_X6_part) := goodIn_app (gi_l [1, 2, 3, 4] rfl rfl) (gi_cons (j := 5) rfl rfl (goodIn_app (gi_l [6] rfl rfl) (goodIn_sub iw_c_X11_canDo_X6 gw_X6)))
set_option maxRecDepth 20000 in
theorem gf_c_X11_canDo_c_X11_canRow_1 : GoodIn wf_c_X11_canDo (wsV RX11 232 RX11 yX11_canRow wf_c_X11_canRow_1) := goodIn_app (gi_l [7, 8, 9, 10] rfl rfl) (gi_cons (j := 11) rfl rfl (goodIn_app (goodIn_app (goodIn_app (gi_l [12, 13, 14, 10, 15, 16, 17, 18, 19, 20, 21, 22] rfl rfl) (goodIn_sub iw_c_X11_canDo_X11 gw_X11)) (goodIn_sub iw_c_X11_canDo_X0 gw_X0)) (goodIn_sub iw_c_X11_canDo_X7 gw_X7)))
set_option maxRecDepth 20000 in
theorem gf_c_X11_canDo_c_X11_canSing_1 : GoodIn wf_c_X11_canDo (wsV RX11 248 RX11 yX11_canSing wf_c_X11_canSing_1) := goodIn_app (gi_l [23, 24, 25, 10] rfl rfl) (gi_cons (j := 26) rfl rfl (goodIn_app (goodIn_app (goodIn_app (gi_l [12, 13, 14, 10, 15, 16, 17, 27, 28, 29, 30, 31, 32, 33, 34, 35, 36, 37, 38, 39, 40, 41, 42, 43, 44, 45, 46, 47, 48, 49, 50, 51, 52, 53, 54, 55, 56, 57] rfl rfl) (goodIn_sub iw_c_X11_canDo_X11 gw_X11)) (goodIn_sub iw_c_X11_canDo_X0 gw_X0)) (goodIn_sub iw_c_X11_canDo_X7 gw_X7)))
set_option maxRecDepth 20000 in
theorem gf_c_X11_canDo_c_X11_canScrape_1 : GoodIn wf_c_X11_canDo (wsV RX11 256 RX11 yX11_canScrape wf_c_X11_canScrape_1) := goodIn_app (gi_l [58, 59, 60, 10] rfl rfl) (gi_cons (j := 61) rfl rfl (goodIn_app (goodIn_app (goodIn_app (gi_l [12, 13, 14, 10, 15, 16, 17, 27, 28, 29, 30, 31, 32, 33, 34, 35, 36, 37, 38, 39, 40, 41, 42, 43, 44, 45, 46, 47, 48, 49, 50, 51, 52, 53, 54, 55, 56, 62] rfl rfl) (goodIn_sub iw_c_X11_canDo_X11 gw_X11)) (goodIn_sub iw_c_X11_canDo_X0 gw_X0)) (goodIn_sub iw_c_X11_canDo_X7 gw_X7)))
set_option maxHeartbeats 4000000 in
set_option maxRecDepth 100000 in
theorem c_X11_canDo (l : Launch) (dC : Nat → ClassId) (dI : Nat → Nat → Nat) (sz : Nat) (h0 : Nat) (h1 : Nat) (h2 : Nat) (p3 : Int32) (h2_0 : Nat) (h2_f1 : Int32) (h2_0k : ClassId) (h2_0c : Nat → Int32) (h0_0 : Nat) (h0_1 : Nat) (h0_2 : Nat) (h0_3 : Nat) (h0_4 : Nat) (h0_f5 : Int32) (h0_6 : Nat) (h0_7 : Nat) (h0_8 : Nat) (h0_9 : Nat) (h0_10 : Nat) (h0_11 : Nat) (h0_12 : Nat) (h0_13 : Nat) (h0_14 : Nat) (h0_f15 : Int64) (h0_1_0 : Nat) (h0_1_f1 : Int32) (h0_1_f2 : Int32) (h0_1_f3 : Int32) (h1_f0 : Int32) (h1_f1 : Int32) (h1_f2 : Int32) (h1_f3 : Int32) (h1_4 : Nat) (h1_5 : Nat) (h1_6 : Nat) (h1_7 : Nat) (h1_8 : Nat) (h1_9 : Nat) (h1_10 : Nat) (h1_11 : Nat) (h1_12 : Nat) (h1_6k : ClassId) (h1_6c : Nat → Int32) (h1_7k : ClassId) (h1_7c : Nat → Int32) (h0_1_0k : ClassId) (h0_1_0c : Nat → Int32) (h1_4k : ClassId) (h1_4c : Nat → Int32) (h1_5k : ClassId) (h1_5c : Nat → Int32) (h1_10k : ClassId) (h1_10c : Nat → Int32) (h1_12k : ClassId) (h1_12c : Nat → Int32) (y0 : Int32) (y1 : Int32) (y2 : Int32) (y3 : Int32) (g_p3 : RG p3 0 15) (g_h2_f1 : RG h2_f1 0 16) (a_h2_0c : AI h2_0c (-1) 9) (g_h0_f5 : RG h0_f5 0 4) (g_h0_1_f1 : RG h0_1_f1 0 8) (g_h0_1_f2 : RG h0_1_f2 0 3) (g_h0_1_f3 : RG h0_1_f3 0 1) (a_h0_1_0c : AI h0_1_0c (-1) 99) (pv_0 : y0 = h2_0c (p3 * 4 + 0).toNatClampNeg) (g_y0 : RG y0 (-1) 9) (pv_1 : y1 = h2_0c (p3 * 4 + 1).toNatClampNeg) (g_y1 : RG y1 (-1) 9) (pv_2 : y2 = h2_0c (p3 * 4 + 2).toNatClampNeg) (g_y2 : RG y2 (-1) 9) (pv_3 : y3 = h2_0c (p3 * 4 + 3).toNatClampNeg) (g_y3 : RG y3 (-1) 9) : Met l yX11_canDo wf_c_X11_canDo ({ frames := 4, cells := 0, slots := 0, locals := 83 }) (va_Pc [.ref h0, .ref h1, .ref h2, .int p3] (fun U => U.heap.size = sz ∧ va_P (dC, dI) vwCl (wd_c_X11_canDo h2 h2_0 h2_f1 h2_0 h2_0k h2_0c h0 h0_0 h0_1 h0_2 h0_3 h0_4 h0_f5 h0_6 h0_7 h0_8 h0_9 h0_10 h0_11 h0_12 h0_13 h0_14 h0_f15 h0_1 h0_1_0 h0_1_f1 h0_1_f2 h0_1_f3 h1 h1_f0 h1_f1 h1_f2 h1_f3 h1_4 h1_5 h1_6 h1_7 h1_8 h1_9 h1_10 h1_11 h1_12 h1_6 h1_6k h1_6c h1_7 h1_7k h1_7c h0_1_0 h0_1_0k h0_1_0c h1_4 h1_4k h1_4c h1_5 h1_5k h1_5c h1_10 h1_10k h1_10c h1_12 h1_12k h1_12c) U.heap ∧ va_K (dC, dI) vwCl [(h2_0k, .int), (h1_6k, .int), (h1_7k, .int), (h0_1_0k, .int), (h1_4k, .int), (h1_5k, .int), (h1_10k, .int), (h1_12k, .int)] U ∧ va_D (fun _ => True) (wd_c_X11_canDo h2 h2_0 h2_f1 h2_0 h2_0k h2_0c h0 h0_0 h0_1 h0_2 h0_3 h0_4 h0_f5 h0_6 h0_7 h0_8 h0_9 h0_10 h0_11 h0_12 h0_13 h0_14 h0_f15 h0_1 h0_1_0 h0_1_f1 h0_1_f2 h0_1_f3 h1 h1_f0 h1_f1 h1_f2 h1_f3 h1_4 h1_5 h1_6 h1_7 h1_8 h1_9 h1_10 h1_11 h1_12 h1_6 h1_6k h1_6c h1_7 h1_7k h1_7c h0_1_0 h0_1_0k h0_1_0c h1_4 h1_4k h1_4c h1_5 h1_5k h1_5c h1_10 h1_10k h1_10c h1_12 h1_12k h1_12c))) (va_Qi (fun (r : Int32) (u : Unit) => (r = 0) ∨ (r = 1 ∧ RG h0_1_f2 1 3 ∧ RG y0 0 0 ∧ RG y1 0 2 ∧ RG y2 0 9 ∧ RG y3 0 9) ∨ (r = 1 ∧ RG h0_1_f1 1 8 ∧ RG h0_1_f2 1 3 ∧ RG y0 1 1 ∧ RG y1 0 2 ∧ RG y2 0 7) ∨ (r = 1 ∧ RG h0_1_f1 1 8 ∧ RG h0_1_f2 1 3 ∧ RG y0 2 2 ∧ RG y1 0 2 ∧ RG y2 0 7) ∨ (r = 1 ∧ RG y0 (-1) (-1) ∧ RG y1 1 9) ∨ (r = 1 ∧ RG y0 3 9 ∧ RG y1 1 9)) (fun (u : Unit) t => va_P (dC, dI) vwCl (wd_c_X11_canDo h2 h2_0 h2_f1 h2_0 h2_0k h2_0c h0 h0_0 h0_1 h0_2 h0_3 h0_4 h0_f5 h0_6 h0_7 h0_8 h0_9 h0_10 h0_11 h0_12 h0_13 h0_14 h0_f15 h0_1 h0_1_0 h0_1_f1 h0_1_f2 h0_1_f3 h1 h1_f0 h1_f1 h1_f2 h1_f3 h1_4 h1_5 h1_6 h1_7 h1_8 h1_9 h1_10 h1_11 h1_12 h1_6 h1_6k h1_6c h1_7 h1_7k h1_7c h0_1_0 h0_1_0k h0_1_0c h1_4 h1_4k h1_4c h1_5 h1_5k h1_5c h1_10 h1_10k h1_10c h1_12 h1_12k h1_12c) t.heap ∧ va_K (dC, dI) vwCl [] t ∧ va_D (va_A (wd_c_X11_canDo h2 h2_0 h2_f1 h2_0 h2_0k h2_0c h0 h0_0 h0_1 h0_2 h0_3 h0_4 h0_f5 h0_6 h0_7 h0_8 h0_9 h0_10 h0_11 h0_12 h0_13 h0_14 h0_f15 h0_1 h0_1_0 h0_1_f1 h0_1_f2 h0_1_f3 h1 h1_f0 h1_f1 h1_f2 h1_f3 h1_4 h1_5 h1_6 h1_7 h1_8 h1_9 h1_10 h1_11 h1_12 h1_6 h1_6k h1_6c h1_7 h1_7k h1_7c h0_1_0 h0_1_0k h0_1_0c h1_4 h1_4k h1_4c h1_5 h1_5k h1_5c h1_10 h1_10k h1_10c h1_12 h1_12k h1_12c) sz) (wd_c_X11_canDo h2 h2_0 h2_f1 h2_0 h2_0k h2_0c h0 h0_0 h0_1 h0_2 h0_3 h0_4 h0_f5 h0_6 h0_7 h0_8 h0_9 h0_10 h0_11 h0_12 h0_13 h0_14 h0_f15 h0_1 h0_1_0 h0_1_f1 h0_1_f2 h0_1_f3 h1 h1_f0 h1_f1 h1_f2 h1_f3 h1_4 h1_5 h1_6 h1_7 h1_8 h1_9 h1_10 h1_11 h1_12 h1_6 h1_6k h1_6c h1_7 h1_7k h1_7c h0_1_0 h0_1_0k h0_1_0c h1_4 h1_4k h1_4c h1_5 h1_5k h1_5c h1_10 h1_10k h1_10c h1_12 h1_12k h1_12c)) (va_A (wd_c_X11_canDo h2 h2_0 h2_f1 h2_0 h2_0k h2_0c h0 h0_0 h0_1 h0_2 h0_3 h0_4 h0_f5 h0_6 h0_7 h0_8 h0_9 h0_10 h0_11 h0_12 h0_13 h0_14 h0_f15 h0_1 h0_1_0 h0_1_f1 h0_1_f2 h0_1_f3 h1 h1_f0 h1_f1 h1_f2 h1_f3 h1_4 h1_5 h1_6 h1_7 h1_8 h1_9 h1_10 h1_11 h1_12 h1_6 h1_6k h1_6c h1_7 h1_7k h1_7c h0_1_0 h0_1_0k h0_1_0c h1_4 h1_4k h1_4c h1_5 h1_5k h1_5c h1_10 h1_10k h1_10c h1_12 h1_12k h1_12c) sz)) 0 0 (va_A (wd_c_X11_canDo h2 h2_0 h2_f1 h2_0 h2_0k h2_0c h0 h0_0 h0_1 h0_2 h0_3 h0_4 h0_f5 h0_6 h0_7 h0_8 h0_9 h0_10 h0_11 h0_12 h0_13 h0_14 h0_f15 h0_1 h0_1_0 h0_1_f1 h0_1_f2 h0_1_f3 h1 h1_f0 h1_f1 h1_f2 h1_f3 h1_4 h1_5 h1_6 h1_7 h1_8 h1_9 h1_10 h1_11 h1_12 h1_6 h1_6k h1_6c h1_7 h1_7k h1_7c h0_1_0 h0_1_0k h0_1_0c h1_4 h1_4k h1_4c h1_5 h1_5k h1_5c h1_10 h1_10k h1_10c h1_12 h1_12k h1_12c) sz) := by
  refine Met.ofW (cc := cX11_canDo) (maxL := 6) (ret := (some .boolean)) (by decide +kernel) rfl ?_
  intro p e s m args below meth c s₁ B hml hv
  obtain ⟨rfl, hsz, hP, hK, hD0⟩ := hv
  have hx := B.exec
  have hb := B.bytes
  have hr := B.returns
  have hts := atoms_spec (ws := wf_c_X11_canDo) B.pre
  have hown : s.vm.findClass RX11 = some m.cls := findClass_of_methodNamed B.named
  have hlocks := B.notSynchronized
  subst hsz
  have hD := hD0.self (sz := s.heap.size)
  generalize hAe : va_A (wd_c_X11_canDo h2 h2_0 h2_f1 h2_0 h2_0k h2_0c h0 h0_0 h0_1 h0_2 h0_3 h0_4 h0_f5 h0_6 h0_7 h0_8 h0_9 h0_10 h0_11 h0_12 h0_13 h0_14 h0_f15 h0_1 h0_1_0 h0_1_f1 h0_1_f2 h0_1_f3 h1 h1_f0 h1_f1 h1_f2 h1_f3 h1_4 h1_5 h1_6 h1_7 h1_8 h1_9 h1_10 h1_11 h1_12 h1_6 h1_6k h1_6c h1_7 h1_7k h1_7c h0_1_0 h0_1_0k h0_1_0c h1_4 h1_4k h1_4c h1_5 h1_5k h1_5c h1_10 h1_10k h1_10c h1_12 h1_12k h1_12c) s.heap.size = A at hD ⊢
  have hA : ∀ q : Nat, s.heap.size ≤ q → A q := fun q h => by rw [← hAe]; exact Or.inr h
  have hP : va_P (dC, dI) vwCl (wd_c_X11_canDo h2 h2_0 h2_f1 h2_0 h2_0k h2_0c h0 h0_0 h0_1 h0_2 h0_3 h0_4 h0_f5 h0_6 h0_7 h0_8 h0_9 h0_10 h0_11 h0_12 h0_13 h0_14 h0_f15 h0_1 h0_1_0 h0_1_f1 h0_1_f2 h0_1_f3 h1 h1_f0 h1_f1 h1_f2 h1_f3 h1_4 h1_5 h1_6 h1_7 h1_8 h1_9 h1_10 h1_11 h1_12 h1_6 h1_6k h1_6c h1_7 h1_7k h1_7c h0_1_0 h0_1_0k h0_1_0c h1_4 h1_4k h1_4c h1_5 h1_5k h1_5c h1_10 h1_10k h1_10c h1_12 h1_12k h1_12c) s.heap := hP
  have hl := lv_entry ([.ref h0, .ref h1, .ref h2, .int p3]) (n := 6) (Nat.le_of_ble_eq_true rfl)
  rw [lg_entry_eq]
  generalize (lg_sl ([.ref h0, .ref h1, .ref h2, .int p3]) ++ List.replicate (6 - (lg_sl ([.ref h0, .ref h1, .ref h2, .int p3])).length) Slot.unset).toArray = ls at hl ⊢
  have hl : lv_has ls 6 [(0, .ref h0), (1, .ref h1), (2, .ref h2), (3, .int p3)] := hl
  obtain ⟨H, hHe⟩ : ∃ H : Heap, s.heap = H := ⟨_, rfl⟩
  have hS : va_S A s.heap H [] := by rw [hHe]; exact va_S.rf
  have hP : va_P (dC, dI) vwCl (wd_c_X11_canDo h2 h2_0 h2_f1 h2_0 h2_0k h2_0c h0 h0_0 h0_1 h0_2 h0_3 h0_4 h0_f5 h0_6 h0_7 h0_8 h0_9 h0_10 h0_11 h0_12 h0_13 h0_14 h0_f15 h0_1 h0_1_0 h0_1_f1 h0_1_f2 h0_1_f3 h1 h1_f0 h1_f1 h1_f2 h1_f3 h1_4 h1_5 h1_6 h1_7 h1_8 h1_9 h1_10 h1_11 h1_12 h1_6 h1_6k h1_6c h1_7 h1_7k h1_7c h0_1_0 h0_1_0k h0_1_0c h1_4 h1_4k h1_4c h1_5 h1_5k h1_5c h1_10 h1_10k h1_10c h1_12 h1_12k h1_12c) H := by rw [← hHe]; exact hP
  rw [hHe]
  refine lv_aload_n hx hb dX11_canDo_0 rfl (lv_at hl 2 rfl) ?_
  as_aux_lemma =>
  refine lv_iload_n hx hb dX11_canDo_1 rfl (lv_at hl 3 rfl) ?_
  refine lv_iconst (v := 1) hx hb dX11_canDo_2 kc_iconst_1 ?_
  obtain ⟨hPc, hDc, hFc, hqc⟩ := cl_cut (wc := (wd_c_X6_part h2 h2_0 h2_f1 h2_0 h2_0k h2_0c)) hP hD hS hA [0, 1] (by decide +kernel) rfl
  have hKc := hK.sub (tys' := [(h2_0k, .int)]) [0] rfl
  have hrv := va_recv hKc hPc (ci := 6) (q0 := 0) rfl rfl
  refine va_calli (va_runV (As := [.int p3, .int 1]) (rest := []) ⟨hx, hb, hml, hown, hts⟩ (c_X6_part l dC dI H.size h2 p3 1 h2_0 h2_f1 h2_0k h2_0c g_p3 (RG_w (RG_k 1 1 rfl) (by decide +kernel)) g_h2_f1 a_h2_0c) (cwV 2 hts gf_c_X11_canDo_c_X6_part rfl rfl rfl mdV_X6_part ⟨Nat.le_of_ble_eq_true rfl, Nat.le_of_ble_eq_true rfl⟩) ⟨fun a U g mk q => by obtain ⟨q0, q1, qP, qK, qD⟩ := q; exact ⟨q0, q1, qP, va_K.moved (u := U) (U := U.calling g mk a) (Vm.Alike.refl U.vm) qK, qD⟩, hrv, fun U hU hW => ⟨rfl, by rw [hU], by rw [hU]; exact hPc, va_K.moved hW.alike hKc, hDc.weaken (fun _ _ _ _ => trivial)⟩⟩ rfl rfl hl.1 rfl (lv_room (Nat.le_of_ble_eq_true rfl)) dX11_canDo_3 ⟨Nat.le_of_ble_eq_true rfl, Nat.le_of_ble_eq_true rfl⟩) hS (fun q _ h => hFc q h) hFc (fun r_1 u t H1 locs ht hvm hw hB hz1 hk1 hS => ?_)
  obtain ⟨hP1, hK1, hD1⟩ := hB
  rw [ht] at hP1
  obtain ⟨hP, hD⟩ := cl_put (w1 := (wd_c_X6_part h2 h2_0 h2_f1 h2_0 h2_0k h2_0c)) (nw := (wd_c_X11_canDo h2 h2_0 h2_f1 h2_0 h2_0k h2_0c h0 h0_0 h0_1 h0_2 h0_3 h0_4 h0_f5 h0_6 h0_7 h0_8 h0_9 h0_10 h0_11 h0_12 h0_13 h0_14 h0_f15 h0_1 h0_1_0 h0_1_f1 h0_1_f2 h0_1_f3 h1 h1_f0 h1_f1 h1_f2 h1_f3 h1_4 h1_5 h1_6 h1_7 h1_8 h1_9 h1_10 h1_11 h1_12 h1_6 h1_6k h1_6c h1_7 h1_7k h1_7c h0_1_0 h0_1_0k h0_1_0c h1_4 h1_4k h1_4c h1_5 h1_5k h1_5c h1_10 h1_10k h1_10c h1_12 h1_12k h1_12c)) hP hD [0, 1] [12, 13, 2, 3, 4, 5, 6, 7, 8, 9, 10, 11] 12 rfl hqc (by decide +kernel) rfl hk1 hFc hP1 hD1
  generalize H1 = H at hP hS ⊢
  as_aux_lemma =>
  rcases hw with ⟨h_2, h_3⟩
  obtain rfl : y1 = r_1 := (h_3.trans pv_1.symm).symm
  refine lv_istore (lv' := [(4, .int y1), (0, .ref h0), (1, .ref h1), (2, .ref h2), (3, .int p3)]) hx hb dX11_canDo_6 hl (Nat.le_of_ble_eq_true rfl) rfl (fun ls hl => ?_)
  refine lv_aload_n hx hb dX11_canDo_8 rfl (lv_at hl 3 rfl) ?_
  refine lv_iload_n hx hb dX11_canDo_9 rfl (lv_at hl 4 rfl) ?_
  refine lv_iconst (v := 2) hx hb dX11_canDo_10 kc_iconst_2 ?_
  obtain ⟨hPc, hDc, hFc, hqc⟩ := cl_cut (wc := (wd_c_X6_part h2 h2_0 h2_f1 h2_0 h2_0k h2_0c)) hP hD hS hA [0, 1] (by decide +kernel) rfl
  have hKc := hK.sub (tys' := [(h2_0k, .int)]) [0] rfl
  have hrv := va_recv hKc hPc (ci := 6) (q0 := 0) rfl rfl
  refine va_calli (va_runV (As := [.int p3, .int 2]) (rest := []) ⟨hx, hb, hml, hown, hts⟩ (c_X6_part l dC dI H.size h2 p3 2 h2_0 h2_f1 h2_0k h2_0c g_p3 (RG_w (RG_k 2 2 rfl) (by decide +kernel)) g_h2_f1 a_h2_0c) (cwV 2 hts gf_c_X11_canDo_c_X6_part rfl rfl rfl mdV_X6_part ⟨Nat.le_of_ble_eq_true rfl, Nat.le_of_ble_eq_true rfl⟩) ⟨fun a U g mk q => by obtain ⟨q0, q1, qP, qK, qD⟩ := q; exact ⟨q0, q1, qP, va_K.moved (u := U) (U := U.calling g mk a) (Vm.Alike.refl U.vm) qK, qD⟩, hrv, fun U hU hW => ⟨rfl, by rw [hU], by rw [hU]; exact hPc, va_K.moved hW.alike hKc, hDc.weaken (fun _ _ _ _ => trivial)⟩⟩ rfl rfl hl.1 rfl (lv_room (Nat.le_of_ble_eq_true rfl)) dX11_canDo_11 ⟨Nat.le_of_ble_eq_true rfl, Nat.le_of_ble_eq_true rfl⟩) hS (fun q _ h => hFc q h) hFc (fun r_4 u t H1 locs ht hvm hw hB hz1 hk1 hS => ?_)
  obtain ⟨hP1, hK1, hD1⟩ := hB
  rw [ht] at hP1
  obtain ⟨hP, hD⟩ := cl_put (w1 := (wd_c_X6_part h2 h2_0 h2_f1 h2_0 h2_0k h2_0c)) (nw := (wd_c_X11_canDo h2 h2_0 h2_f1 h2_0 h2_0k h2_0c h0 h0_0 h0_1 h0_2 h0_3 h0_4 h0_f5 h0_6 h0_7 h0_8 h0_9 h0_10 h0_11 h0_12 h0_13 h0_14 h0_f15 h0_1 h0_1_0 h0_1_f1 h0_1_f2 h0_1_f3 h1 h1_f0 h1_f1 h1_f2 h1_f3 h1_4 h1_5 h1_6 h1_7 h1_8 h1_9 h1_10 h1_11 h1_12 h1_6 h1_6k h1_6c h1_7 h1_7k h1_7c h0_1_0 h0_1_0k h0_1_0c h1_4 h1_4k h1_4c h1_5 h1_5k h1_5c h1_10 h1_10k h1_10c h1_12 h1_12k h1_12c)) hP hD [0, 1] [12, 13, 2, 3, 4, 5, 6, 7, 8, 9, 10, 11] 12 rfl hqc (by decide +kernel) rfl hk1 hFc hP1 hD1
  generalize H1 = H at hP hS ⊢
  as_aux_lemma =>
  rcases hw with ⟨h_5, h_6⟩
  obtain rfl : y2 = r_4 := (h_6.trans pv_2.symm).symm
  refine lv_istore (lv' := [(5, .int y2), (4, .int y1), (0, .ref h0), (1, .ref h1), (2, .ref h2), (3, .int p3)]) hx hb dX11_canDo_14 hl (Nat.le_of_ble_eq_true rfl) rfl (fun ls hl => ?_)
  refine lv_aload_n hx hb dX11_canDo_16 rfl (lv_at hl 4 rfl) ?_
  refine lv_iload_n hx hb dX11_canDo_17 rfl (lv_at hl 5 rfl) ?_
  refine lv_iconst (v := 0) hx hb dX11_canDo_18 kc_iconst_0 ?_
  obtain ⟨hPc, hDc, hFc, hqc⟩ := cl_cut (wc := (wd_c_X6_part h2 h2_0 h2_f1 h2_0 h2_0k h2_0c)) hP hD hS hA [0, 1] (by decide +kernel) rfl
  have hKc := hK.sub (tys' := [(h2_0k, .int)]) [0] rfl
  have hrv := va_recv hKc hPc (ci := 6) (q0 := 0) rfl rfl
  refine va_calli (va_runV (As := [.int p3, .int 0]) (rest := []) ⟨hx, hb, hml, hown, hts⟩ (c_X6_part l dC dI H.size h2 p3 0 h2_0 h2_f1 h2_0k h2_0c g_p3 (RG_w (RG_k 0 0 rfl) (by decide +kernel)) g_h2_f1 a_h2_0c) (cwV 2 hts gf_c_X11_canDo_c_X6_part rfl rfl rfl mdV_X6_part ⟨Nat.le_of_ble_eq_true rfl, Nat.le_of_ble_eq_true rfl⟩) ⟨fun a U g mk q => by obtain ⟨q0, q1, qP, qK, qD⟩ := q; exact ⟨q0, q1, qP, va_K.moved (u := U) (U := U.calling g mk a) (Vm.Alike.refl U.vm) qK, qD⟩, hrv, fun U hU hW => ⟨rfl, by rw [hU], by rw [hU]; exact hPc, va_K.moved hW.alike hKc, hDc.weaken (fun _ _ _ _ => trivial)⟩⟩ rfl rfl hl.1 rfl (lv_room (Nat.le_of_ble_eq_true rfl)) dX11_canDo_19 ⟨Nat.le_of_ble_eq_true rfl, Nat.le_of_ble_eq_true rfl⟩) hS (fun q _ h => hFc q h) hFc (fun r_7 u t H1 locs ht hvm hw hB hz1 hk1 hS => ?_)
  obtain ⟨hP1, hK1, hD1⟩ := hB
  rw [ht] at hP1
  obtain ⟨hP, hD⟩ := cl_put (w1 := (wd_c_X6_part h2 h2_0 h2_f1 h2_0 h2_0k h2_0c)) (nw := (wd_c_X11_canDo h2 h2_0 h2_f1 h2_0 h2_0k h2_0c h0 h0_0 h0_1 h0_2 h0_3 h0_4 h0_f5 h0_6 h0_7 h0_8 h0_9 h0_10 h0_11 h0_12 h0_13 h0_14 h0_f15 h0_1 h0_1_0 h0_1_f1 h0_1_f2 h0_1_f3 h1 h1_f0 h1_f1 h1_f2 h1_f3 h1_4 h1_5 h1_6 h1_7 h1_8 h1_9 h1_10 h1_11 h1_12 h1_6 h1_6k h1_6c h1_7 h1_7k h1_7c h0_1_0 h0_1_0k h0_1_0c h1_4 h1_4k h1_4c h1_5 h1_5k h1_5c h1_10 h1_10k h1_10c h1_12 h1_12k h1_12c)) hP hD [0, 1] [12, 13, 2, 3, 4, 5, 6, 7, 8, 9, 10, 11] 12 rfl hqc (by decide +kernel) rfl hk1 hFc hP1 hD1
  generalize H1 = H at hP hS ⊢
  as_aux_lemma =>
  rcases hw with ⟨h_8, h_9⟩
  obtain rfl : y0 = r_7 := (h_9.trans pv_0.symm).symm
  by_cases c_10 : y0 = 0
  · have hsw : y0.toInt = 0 := by rw [c_10]; rfl
    refine lv_tableIn (off := 26) (tgt := 48) hx hb dX11_canDo_22 (by rw [hsw]; decide) (by rw [hsw]; decide) (by rw [hsw]; decide) (by decide +kernel) ?_
    have g_11 : RG y0 0 0 := RG_k _ _ hsw
    refine lv_aload_n hx hb dX11_canDo_48 rfl (lv_at hl 2 rfl) ?_
    refine lv_aload_n hx hb dX11_canDo_49 rfl (lv_at hl 3 rfl) ?_
    refine lv_iload hx hb dX11_canDo_50 (lv_at hl 1 rfl) ?_
    refine lv_iload hx hb dX11_canDo_52 (lv_at hl 0 rfl) ?_
    refine lv_aload_n hx hb dX11_canDo_54 rfl (lv_at hl 4 rfl) ?_
    refine lv_iload_n hx hb dX11_canDo_55 rfl (lv_at hl 5 rfl) ?_
    refine lv_iconst (v := 3) hx hb dX11_canDo_56 kc_iconst_3 ?_
    obtain ⟨hPc, hDc, hFc, hqc⟩ := cl_cut (wc := (wd_c_X6_part h2 h2_0 h2_f1 h2_0 h2_0k h2_0c)) hP hD hS hA [0, 1] (by decide +kernel) rfl
    have hKc := hK.sub (tys' := [(h2_0k, .int)]) [0] rfl
    have hrv := va_recv hKc hPc (ci := 6) (q0 := 0) rfl rfl
    refine va_calli (va_runV (As := [.int p3, .int 3]) (rest := [.int y2, .int y1, .ref h1, .ref h0]) ⟨hx, hb, hml, hown, hts⟩ (c_X6_part l dC dI H.size h2 p3 3 h2_0 h2_f1 h2_0k h2_0c g_p3 (RG_w (RG_k 3 3 rfl) (by decide +kernel)) g_h2_f1 a_h2_0c) (cwV 2 hts gf_c_X11_canDo_c_X6_part rfl rfl rfl mdV_X6_part ⟨Nat.le_of_ble_eq_true rfl, Nat.le_of_ble_eq_true rfl⟩) ⟨fun a U g mk q => by obtain ⟨q0, q1, qP, qK, qD⟩ := q; exact ⟨q0, q1, qP, va_K.moved (u := U) (U := U.calling g mk a) (Vm.Alike.refl U.vm) qK, qD⟩, hrv, fun U hU hW => ⟨rfl, by rw [hU], by rw [hU]; exact hPc, va_K.moved hW.alike hKc, hDc.weaken (fun _ _ _ _ => trivial)⟩⟩ rfl rfl hl.1 rfl (lv_room (Nat.le_of_ble_eq_true rfl)) dX11_canDo_57 ⟨Nat.le_of_ble_eq_true rfl, Nat.le_of_ble_eq_true rfl⟩) hS (fun q _ h => hFc q h) hFc (fun r_12 u t H1 locs ht hvm hw hB hz1 hk1 hS => ?_)
    as_aux_lemma =>
    obtain ⟨hP1, hK1, hD1⟩ := hB
    rw [ht] at hP1
    obtain ⟨hP, hD⟩ := cl_put (w1 := (wd_c_X6_part h2 h2_0 h2_f1 h2_0 h2_0k h2_0c)) (nw := (wd_c_X11_canDo h2 h2_0 h2_f1 h2_0 h2_0k h2_0c h0 h0_0 h0_1 h0_2 h0_3 h0_4 h0_f5 h0_6 h0_7 h0_8 h0_9 h0_10 h0_11 h0_12 h0_13 h0_14 h0_f15 h0_1 h0_1_0 h0_1_f1 h0_1_f2 h0_1_f3 h1 h1_f0 h1_f1 h1_f2 h1_f3 h1_4 h1_5 h1_6 h1_7 h1_8 h1_9 h1_10 h1_11 h1_12 h1_6 h1_6k h1_6c h1_7 h1_7k h1_7c h0_1_0 h0_1_0k h0_1_0c h1_4 h1_4k h1_4c h1_5 h1_5k h1_5c h1_10 h1_10k h1_10c h1_12 h1_12k h1_12c)) hP hD [0, 1] [12, 13, 2, 3, 4, 5, 6, 7, 8, 9, 10, 11] 12 rfl hqc (by decide +kernel) rfl hk1 hFc hP1 hD1
    generalize H1 = H at hP hS ⊢
    as_aux_lemma =>
    rcases hw with ⟨h_13, h_14⟩
    obtain rfl : y3 = r_12 := (h_14.trans pv_3.symm).symm
    obtain ⟨hPc, hDc, hFc, hqc⟩ := cl_cut (wc := (wd_c_X11_canRow_1 h0 h0_0 h0_1 h0_2 h0_3 h0_4 h0_f5 h0_6 h0_7 h0_8 h0_9 h0_10 h0_11 h0_12 h0_13 h0_14 h0_f15 h0_1 h0_1_0 h0_1_f1 h0_1_f2 h0_1_f3 h1 h1_f0 h1_f1 h1_f2 h1_f3 h1_4 h1_5 h1_6 h1_7 h1_8 h1_9 h1_10 h1_11 h1_12 h1_6 h1_6k h1_6c h1_7 h1_7k h1_7c)) hP hD hS hA [2, 3, 4, 5, 6] (by decide +kernel) rfl
    have hKc := hK.sub (tys' := [(h1_6k, .int), (h1_7k, .int)]) [1, 2] rfl
    have hrv := va_recv hKc hPc (ci := 11) (q0 := 0) rfl rfl
    refine va_calli (va_runV (As := [.ref h1, .int y1, .int y2, .int y3]) (rest := []) ⟨hx, hb, hml, hown, hts⟩ (c_X11_canRow_1 l dC dI H.size h0 h1 y1 y2 y3 h0_0 h0_1 h0_2 h0_3 h0_4 h0_f5 h0_6 h0_7 h0_8 h0_9 h0_10 h0_11 h0_12 h0_13 h0_14 h0_f15 h0_1_0 h0_1_f1 h0_1_f2 h0_1_f3 h1_f0 h1_f1 h1_f2 h1_f3 h1_4 h1_5 h1_6 h1_7 h1_8 h1_9 h1_10 h1_11 h1_12 h1_6k h1_6c h1_7k h1_7c (RG_w g_y1 (by decide +kernel)) (RG_w g_y2 (by decide +kernel)) (RG_w g_y3 (by decide +kernel)) g_h0_f5 g_h0_1_f1 g_h0_1_f2 g_h0_1_f3) (cwV 4 hts gf_c_X11_canDo_c_X11_canRow_1 rfl rfl rfl mdV_X11_canRow ⟨Nat.le_of_ble_eq_true rfl, Nat.le_of_ble_eq_true rfl⟩) ⟨fun a U g mk q => by obtain ⟨q0, q1, qP, qK, qD⟩ := q; exact ⟨q0, q1, qP, va_K.moved (u := U) (U := U.calling g mk a) (Vm.Alike.refl U.vm) qK, qD⟩, hrv, fun U hU hW => ⟨rfl, by rw [hU], by rw [hU]; exact hPc, va_K.moved hW.alike hKc, hDc.weaken (fun _ _ _ _ => trivial)⟩⟩ rfl rfl hl.1 rfl (lv_room (Nat.le_of_ble_eq_true rfl)) dX11_canDo_60 ⟨Nat.le_of_ble_eq_true rfl, Nat.le_of_ble_eq_true rfl⟩) hS (fun q _ h => hFc q h) hFc (fun r_15 u t H1 locs ht hvm hw hB hz1 hk1 hS => ?_)
    obtain ⟨hP1, hK1, hD1⟩ := hB
    rw [ht] at hP1
    obtain ⟨hP, hD⟩ := cl_put (w1 := (wd_c_X11_canRow_1 h0 h0_0 h0_1 h0_2 h0_3 h0_4 h0_f5 h0_6 h0_7 h0_8 h0_9 h0_10 h0_11 h0_12 h0_13 h0_14 h0_f15 h0_1 h0_1_0 h0_1_f1 h0_1_f2 h0_1_f3 h1 h1_f0 h1_f1 h1_f2 h1_f3 h1_4 h1_5 h1_6 h1_7 h1_8 h1_9 h1_10 h1_11 h1_12 h1_6 h1_6k h1_6c h1_7 h1_7k h1_7c)) (nw := (wd_c_X11_canDo h2 h2_0 h2_f1 h2_0 h2_0k h2_0c h0 h0_0 h0_1 h0_2 h0_3 h0_4 h0_f5 h0_6 h0_7 h0_8 h0_9 h0_10 h0_11 h0_12 h0_13 h0_14 h0_f15 h0_1 h0_1_0 h0_1_f1 h0_1_f2 h0_1_f3 h1 h1_f0 h1_f1 h1_f2 h1_f3 h1_4 h1_5 h1_6 h1_7 h1_8 h1_9 h1_10 h1_11 h1_12 h1_6 h1_6k h1_6c h1_7 h1_7k h1_7c h0_1_0 h0_1_0k h0_1_0c h1_4 h1_4k h1_4c h1_5 h1_5k h1_5c h1_10 h1_10k h1_10c h1_12 h1_12k h1_12c)) hP hD [2, 3, 4, 5, 6] [0, 1, 12, 13, 14, 15, 16, 7, 8, 9, 10, 11] 12 rfl hqc (by decide +kernel) rfl hk1 hFc hP1 hD1
    generalize H1 = H at hP hS ⊢
    as_aux_lemma =>
    rcases hw with h_16 | ⟨h_17, h_18, h_19, h_20, h_21⟩
    · rw [h_16]
      have hK9 := hK.sub (tys' := []) [] rfl
      exact W.zret (v := 0) hx hb hr rfl (fun t ht hW => ⟨⟨0, (), rfl, (Or.inl rfl), by rw [ht]; exact hP, va_K.moved hW.alike hK9, hD⟩, hS.F ht⟩) hS.2.2 dX11_canDo_63
    · rw [h_17]
      have hK9 := hK.sub (tys' := []) [] rfl
      exact W.zret (v := 1) hx hb hr rfl (fun t ht hW => ⟨⟨1, (), rfl, (Or.inr (Or.inl ⟨rfl, h_18, g_11, h_19, h_20, h_21⟩)), by rw [ht]; exact hP, va_K.moved hW.alike hK9, hD⟩, hS.F ht⟩) hS.2.2 dX11_canDo_63
  by_cases c_22 : y0 = 1
  · have hsw : y0.toInt = 1 := by rw [c_22]; rfl
    refine lv_tableIn (off := 42) (tgt := 64) hx hb dX11_canDo_22 (by rw [hsw]; decide) (by rw [hsw]; decide) (by rw [hsw]; decide) (by decide +kernel) ?_
    have g_23 : RG y0 1 1 := RG_k _ _ hsw
    refine lv_aload_n hx hb dX11_canDo_64 rfl (lv_at hl 2 rfl) ?_
    refine lv_aload_n hx hb dX11_canDo_65 rfl (lv_at hl 3 rfl) ?_
    refine lv_iload hx hb dX11_canDo_66 (lv_at hl 1 rfl) ?_
    as_aux_lemma =>
    refine lv_iload hx hb dX11_canDo_68 (lv_at hl 0 rfl) ?_
    obtain ⟨hPc, hDc, hFc, hqc⟩ := cl_cut (wc := (wd_c_X11_canSing_1 h0 h0_0 h0_1 h0_2 h0_3 h0_4 h0_f5 h0_6 h0_7 h0_8 h0_9 h0_10 h0_11 h0_12 h0_13 h0_14 h0_f15 h0_1 h0_1_0 h0_1_f1 h0_1_f2 h0_1_f3 h0_1_0 h0_1_0k h0_1_0c h1 h1_f0 h1_f1 h1_f2 h1_f3 h1_4 h1_5 h1_6 h1_7 h1_8 h1_9 h1_10 h1_11 h1_12 h1_4 h1_4k h1_4c h1_5 h1_5k h1_5c h1_10 h1_10k h1_10c)) hP hD hS hA [2, 3, 7, 4, 8, 9, 10] (by decide +kernel) rfl
    have hKc := hK.sub (tys' := [(h0_1_0k, .int), (h1_4k, .int), (h1_5k, .int), (h1_10k, .int)]) [3, 4, 5, 6] rfl
    have hrv := va_recv hKc hPc (ci := 11) (q0 := 0) rfl rfl
    refine va_calli (va_runV (As := [.ref h1, .int y1, .int y2]) (rest := []) ⟨hx, hb, hml, hown, hts⟩ (c_X11_canSing_1 l dC dI H.size h0 h1 y1 y2 h0_0 h0_1 h0_2 h0_3 h0_4 h0_f5 h0_6 h0_7 h0_8 h0_9 h0_10 h0_11 h0_12 h0_13 h0_14 h0_f15 h0_1_0 h0_1_f1 h0_1_f2 h0_1_f3 h0_1_0k h0_1_0c h1_f0 h1_f1 h1_f2 h1_f3 h1_4 h1_5 h1_6 h1_7 h1_8 h1_9 h1_10 h1_11 h1_12 h1_4k h1_4c h1_5k h1_5c h1_10k h1_10c (RG_w g_y1 (by decide +kernel)) (RG_w g_y2 (by decide +kernel)) g_h0_f5 g_h0_1_f1 g_h0_1_f2 g_h0_1_f3 a_h0_1_0c) (cwV 3 hts gf_c_X11_canDo_c_X11_canSing_1 rfl rfl rfl mdV_X11_canSing ⟨Nat.le_of_ble_eq_true rfl, Nat.le_of_ble_eq_true rfl⟩) ⟨fun a U g mk q => by obtain ⟨q0, q1, qP, qK, qD⟩ := q; exact ⟨q0, q1, qP, va_K.moved (u := U) (U := U.calling g mk a) (Vm.Alike.refl U.vm) qK, qD⟩, hrv, fun U hU hW => ⟨rfl, by rw [hU], by rw [hU]; exact hPc, va_K.moved hW.alike hKc, hDc.weaken (fun _ _ _ _ => trivial)⟩⟩ rfl rfl hl.1 rfl (lv_room (Nat.le_of_ble_eq_true rfl)) dX11_canDo_70 ⟨Nat.le_of_ble_eq_true rfl, Nat.le_of_ble_eq_true rfl⟩) hS (fun q _ h => hFc q h) hFc (fun r_24 u t H1 locs ht hvm hw hB hz1 hk1 hS => ?_)
    obtain ⟨hP1, hK1, hD1⟩ := hB
    rw [ht] at hP1
    obtain ⟨hP, hD⟩ := cl_put (w1 := (wd_c_X11_canSing_1 h0 h0_0 h0_1 h0_2 h0_3 h0_4 h0_f5 h0_6 h0_7 h0_8 h0_9 h0_10 h0_11 h0_12 h0_13 h0_14 h0_f15 h0_1 h0_1_0 h0_1_f1 h0_1_f2 h0_1_f3 h0_1_0 h0_1_0k h0_1_0c h1 h1_f0 h1_f1 h1_f2 h1_f3 h1_4 h1_5 h1_6 h1_7 h1_8 h1_9 h1_10 h1_11 h1_12 h1_4 h1_4k h1_4c h1_5 h1_5k h1_5c h1_10 h1_10k h1_10c)) (nw := (wd_c_X11_canDo h2 h2_0 h2_f1 h2_0 h2_0k h2_0c h0 h0_0 h0_1 h0_2 h0_3 h0_4 h0_f5 h0_6 h0_7 h0_8 h0_9 h0_10 h0_11 h0_12 h0_13 h0_14 h0_f15 h0_1 h0_1_0 h0_1_f1 h0_1_f2 h0_1_f3 h1 h1_f0 h1_f1 h1_f2 h1_f3 h1_4 h1_5 h1_6 h1_7 h1_8 h1_9 h1_10 h1_11 h1_12 h1_6 h1_6k h1_6c h1_7 h1_7k h1_7c h0_1_0 h0_1_0k h0_1_0c h1_4 h1_4k h1_4c h1_5 h1_5k h1_5c h1_10 h1_10k h1_10c h1_12 h1_12k h1_12c)) hP hD [2, 3, 7, 4, 8, 9, 10] [0, 1, 12, 13, 15, 5, 6, 14, 16, 17, 18, 11] 12 rfl hqc (by decide +kernel) rfl hk1 hFc hP1 hD1
    generalize H1 = H at hP hS ⊢
    as_aux_lemma =>
    rcases hw with h_25 | ⟨h_26, h_27, h_28, h_29, h_30⟩
    · rw [h_25]
      have hK9 := hK.sub (tys' := []) [] rfl
      exact W.zret (v := 0) hx hb hr rfl (fun t ht hW => ⟨⟨0, (), rfl, (Or.inl rfl), by rw [ht]; exact hP, va_K.moved hW.alike hK9, hD⟩, hS.F ht⟩) hS.2.2 dX11_canDo_73
    · rw [h_26]
      have hK9 := hK.sub (tys' := []) [] rfl
      exact W.zret (v := 1) hx hb hr rfl (fun t ht hW => ⟨⟨1, (), rfl, (Or.inr (Or.inr (Or.inl ⟨rfl, h_27, h_28, g_23, h_29, h_30⟩))), by rw [ht]; exact hP, va_K.moved hW.alike hK9, hD⟩, hS.F ht⟩) hS.2.2 dX11_canDo_73
  by_cases c_31 : y0 = 2
  · have hsw : y0.toInt = 2 := by rw [c_31]; rfl
    refine lv_tableIn (off := 52) (tgt := 74) hx hb dX11_canDo_22 (by rw [hsw]; decide) (by rw [hsw]; decide) (by rw [hsw]; decide) (by decide +kernel) ?_
    have g_32 : RG y0 2 2 := RG_k _ _ hsw
    refine lv_aload_n hx hb dX11_canDo_74 rfl (lv_at hl 2 rfl) ?_
    refine lv_aload_n hx hb dX11_canDo_75 rfl (lv_at hl 3 rfl) ?_
    refine lv_iload hx hb dX11_canDo_76 (lv_at hl 1 rfl) ?_
    as_aux_lemma =>
    refine lv_iload hx hb dX11_canDo_78 (lv_at hl 0 rfl) ?_
    obtain ⟨hPc, hDc, hFc, hqc⟩ := cl_cut (wc := (wd_c_X11_canScrape_1 h0 h0_0 h0_1 h0_2 h0_3 h0_4 h0_f5 h0_6 h0_7 h0_8 h0_9 h0_10 h0_11 h0_12 h0_13 h0_14 h0_f15 h0_1 h0_1_0 h0_1_f1 h0_1_f2 h0_1_f3 h0_1_0 h0_1_0k h0_1_0c h1 h1_f0 h1_f1 h1_f2 h1_f3 h1_4 h1_5 h1_6 h1_7 h1_8 h1_9 h1_10 h1_11 h1_12 h1_4 h1_4k h1_4c h1_5 h1_5k h1_5c h1_12 h1_12k h1_12c)) hP hD hS hA [2, 3, 7, 4, 8, 9, 11] (by decide +kernel) rfl
    have hKc := hK.sub (tys' := [(h0_1_0k, .int), (h1_4k, .int), (h1_5k, .int), (h1_12k, .int)]) [3, 4, 5, 7] rfl
    have hrv := va_recv hKc hPc (ci := 11) (q0 := 0) rfl rfl
    refine va_calli (va_runV (As := [.ref h1, .int y1, .int y2]) (rest := []) ⟨hx, hb, hml, hown, hts⟩ (c_X11_canScrape_1 l dC dI H.size h0 h1 y1 y2 h0_0 h0_1 h0_2 h0_3 h0_4 h0_f5 h0_6 h0_7 h0_8 h0_9 h0_10 h0_11 h0_12 h0_13 h0_14 h0_f15 h0_1_0 h0_1_f1 h0_1_f2 h0_1_f3 h0_1_0k h0_1_0c h1_f0 h1_f1 h1_f2 h1_f3 h1_4 h1_5 h1_6 h1_7 h1_8 h1_9 h1_10 h1_11 h1_12 h1_4k h1_4c h1_5k h1_5c h1_12k h1_12c (RG_w g_y1 (by decide +kernel)) (RG_w g_y2 (by decide +kernel)) g_h0_f5 g_h0_1_f1 g_h0_1_f2 g_h0_1_f3 a_h0_1_0c) (cwV 3 hts gf_c_X11_canDo_c_X11_canScrape_1 rfl rfl rfl mdV_X11_canScrape ⟨Nat.le_of_ble_eq_true rfl, Nat.le_of_ble_eq_true rfl⟩) ⟨fun a U g mk q => by obtain ⟨q0, q1, qP, qK, qD⟩ := q; exact ⟨q0, q1, qP, va_K.moved (u := U) (U := U.calling g mk a) (Vm.Alike.refl U.vm) qK, qD⟩, hrv, fun U hU hW => ⟨rfl, by rw [hU], by rw [hU]; exact hPc, va_K.moved hW.alike hKc, hDc.weaken (fun _ _ _ _ => trivial)⟩⟩ rfl rfl hl.1 rfl (lv_room (Nat.le_of_ble_eq_true rfl)) dX11_canDo_80 ⟨Nat.le_of_ble_eq_true rfl, Nat.le_of_ble_eq_true rfl⟩) hS (fun q _ h => hFc q h) hFc (fun r_33 u t H1 locs ht hvm hw hB hz1 hk1 hS => ?_)
    obtain ⟨hP1, hK1, hD1⟩ := hB
    rw [ht] at hP1
    obtain ⟨hP, hD⟩ := cl_put (w1 := (wd_c_X11_canScrape_1 h0 h0_0 h0_1 h0_2 h0_3 h0_4 h0_f5 h0_6 h0_7 h0_8 h0_9 h0_10 h0_11 h0_12 h0_13 h0_14 h0_f15 h0_1 h0_1_0 h0_1_f1 h0_1_f2 h0_1_f3 h0_1_0 h0_1_0k h0_1_0c h1 h1_f0 h1_f1 h1_f2 h1_f3 h1_4 h1_5 h1_6 h1_7 h1_8 h1_9 h1_10 h1_11 h1_12 h1_4 h1_4k h1_4c h1_5 h1_5k h1_5c h1_12 h1_12k h1_12c)) (nw := (wd_c_X11_canDo h2 h2_0 h2_f1 h2_0 h2_0k h2_0c h0 h0_0 h0_1 h0_2 h0_3 h0_4 h0_f5 h0_6 h0_7 h0_8 h0_9 h0_10 h0_11 h0_12 h0_13 h0_14 h0_f15 h0_1 h0_1_0 h0_1_f1 h0_1_f2 h0_1_f3 h1 h1_f0 h1_f1 h1_f2 h1_f3 h1_4 h1_5 h1_6 h1_7 h1_8 h1_9 h1_10 h1_11 h1_12 h1_6 h1_6k h1_6c h1_7 h1_7k h1_7c h0_1_0 h0_1_0k h0_1_0c h1_4 h1_4k h1_4c h1_5 h1_5k h1_5c h1_10 h1_10k h1_10c h1_12 h1_12k h1_12c)) hP hD [2, 3, 7, 4, 8, 9, 11] [0, 1, 12, 13, 15, 5, 6, 14, 16, 17, 10, 18] 12 rfl hqc (by decide +kernel) rfl hk1 hFc hP1 hD1
    generalize H1 = H at hP hS ⊢
    as_aux_lemma =>
    rcases hw with h_34 | ⟨h_35, h_36, h_37, h_38, h_39⟩
    · rw [h_34]
      have hK9 := hK.sub (tys' := []) [] rfl
      exact W.zret (v := 0) hx hb hr rfl (fun t ht hW => ⟨⟨0, (), rfl, (Or.inl rfl), by rw [ht]; exact hP, va_K.moved hW.alike hK9, hD⟩, hS.F ht⟩) hS.2.2 dX11_canDo_83
    · rw [h_35]
      have hK9 := hK.sub (tys' := []) [] rfl
      exact W.zret (v := 1) hx hb hr rfl (fun t ht hW => ⟨⟨1, (), rfl, (Or.inr (Or.inr (Or.inr (Or.inl ⟨rfl, h_36, h_37, g_32, h_38, h_39⟩)))), by rw [ht]; exact hP, va_K.moved hW.alike hK9, hD⟩, hS.F ht⟩) hS.2.2 dX11_canDo_83
  have hsw : y0.toInt < 0 ∨ 2 < y0.toInt := by
    have zc_10 := lv_neT c_10 (a := 0) (by decide +kernel)
    have zc_22 := lv_neT c_22 (a := 1) (by decide +kernel)
    have zc_31 := lv_neT c_31 (a := 2) (by decide +kernel)
    have zg1 := (g_y0).1
    have zg2 := (g_y0).2
    omega
  refine lv_tableOut (tgt := 84) hx hb dX11_canDo_22 hsw (by decide +kernel) ?_
  as_aux_lemma =>
  rcases hsw with hsw | hsw
  · have g_40 : RG y0 (-1) (-1) := ⟨(g_y0).1, by omega⟩
    refine lv_iload hx hb dX11_canDo_84 (lv_at hl 1 rfl) ?_
    refine lv_if_le (tgt := 93) hx hb dX11_canDo_86 rfl (fun c_41 => ?_) (fun c_41 => ?_)
    · have g_42 : RG y1 (-1) 0 := RG_le1 g_y1 (RG_k 0 0 rfl) c_41 (by decide +kernel)
      refine lv_iconst (v := 0) hx hb dX11_canDo_93 kc_iconst_0 ?_
      have hK9 := hK.sub (tys' := []) [] rfl
      exact W.zret (v := 0) hx hb hr rfl (fun t ht hW => ⟨⟨0, (), rfl, (Or.inl rfl), by rw [ht]; exact hP, va_K.moved hW.alike hK9, hD⟩, hS.F ht⟩) hS.2.2 dX11_canDo_94
    · have d_43 := Int32.not_le.mp c_41
      have g_44 : RG y1 1 9 := RG_lt2 (RG_k 0 0 rfl) g_y1 d_43 (by decide +kernel)
      refine lv_iconst (v := 1) hx hb dX11_canDo_89 kc_iconst_1 ?_
      refine lv_goto (tgt := 94) hx hb dX11_canDo_90 rfl ?_
      have hK9 := hK.sub (tys' := []) [] rfl
      exact W.zret (v := 1) hx hb hr rfl (fun t ht hW => ⟨⟨1, (), rfl, (Or.inr (Or.inr (Or.inr (Or.inr (Or.inl ⟨rfl, g_40, g_44⟩))))), by rw [ht]; exact hP, va_K.moved hW.alike hK9, hD⟩, hS.F ht⟩) hS.2.2 dX11_canDo_94
  · have g_45 : RG y0 3 9 := ⟨by omega, (g_y0).2⟩
    refine lv_iload hx hb dX11_canDo_84 (lv_at hl 1 rfl) ?_
    as_aux_lemma =>
    refine lv_if_le (tgt := 93) hx hb dX11_canDo_86 rfl (fun c_46 => ?_) (fun c_46 => ?_)
    · have g_47 : RG y1 (-1) 0 := RG_le1 g_y1 (RG_k 0 0 rfl) c_46 (by decide +kernel)
      refine lv_iconst (v := 0) hx hb dX11_canDo_93 kc_iconst_0 ?_
      have hK9 := hK.sub (tys' := []) [] rfl
      exact W.zret (v := 0) hx hb hr rfl (fun t ht hW => ⟨⟨0, (), rfl, (Or.inl rfl), by rw [ht]; exact hP, va_K.moved hW.alike hK9, hD⟩, hS.F ht⟩) hS.2.2 dX11_canDo_94
    · have d_48 := Int32.not_le.mp c_46
      have g_49 : RG y1 1 9 := RG_lt2 (RG_k 0 0 rfl) g_y1 d_48 (by decide +kernel)
      refine lv_iconst (v := 1) hx hb dX11_canDo_89 kc_iconst_1 ?_
      refine lv_goto (tgt := 94) hx hb dX11_canDo_90 rfl ?_
      have hK9 := hK.sub (tys' := []) [] rfl
      exact W.zret (v := 1) hx hb hr rfl (fun t ht hW => ⟨⟨1, (), rfl, (Or.inr (Or.inr (Or.inr (Or.inr (Or.inr ⟨rfl, g_45, g_49⟩))))), by rw [ht]; exact hP, va_K.moved hW.alike hK9, hD⟩, hS.F ht⟩) hS.2.2 dX11_canDo_94
noncomputable def wd_c_X11_change (a0 : Nat) (a1 : Nat) (a2 : Int32) (a3 : Nat) (a4 : ClassId) (a5 : Nat → Int32) (a6 : Nat) (a7 : Int32) (a8 : Int32) (a9 : Int32) (a10 : Int32) (a11 : Nat) (a12 : Nat) (a13 : Nat) (a14 : Nat) (a15 : Nat) (a16 : Nat) (a17 : Nat) (a18 : Nat) (a19 : Nat) (a20 : Nat) (a21 : ClassId) (a22 : Nat → Int32) (a23 : Nat) (a24 : ClassId) (a25 : Nat → Int32) : va_W := [(a0, .inr (6, [.ref a1, .int a2])), (a3, .inl (a4, 64, .inl a5)), (a6, .inr (7, [.int a7, .int a8, .int a9, .int a10, .ref a11, .ref a12, .ref a13, .ref a14, .ref a15, .ref a16, .ref a17, .ref a18, .ref a19])), (a20, .inl (a21, 3, .inl a22)), (a23, .inl (a24, 3, .inl a25))]
noncomputable def wf_c_X11_change : List Cond := List.cons (.code yX11_change cX11_change 6 none) (@HAppend.hAppend (List Cond) (List Cond) (List Cond) _ (@HAppend.hAppend (List Cond) (List Cond) (List Cond) _ [.methodLink RX11 299 yX6_part, .instanceMethod yX6_part, .selects RX6 yX6_part yX6_part, .initialized RX6, .code yX6_part cX6_part 3 (some .int), .fieldLink RX6 11 "BuoyVote$Plan" "cells" "[I", .fieldLink RX11 206 "BuoyVote$Sea" "goalX" "[I", .fieldLink RX11 209 "BuoyVote$Sea" "goalY" "[I"] wsX60) wsX70)
theorem iw_c_X11_change_X6 : ∀ w ∈ wsX60, w ∈ wf_c_X11_change := fun w h => List.mem_cons_of_mem _ (List.mem_append_left _ (List.mem_append_right _ h))
theorem iw_c_X11_change_X7 : ∀ w ∈ wsX70, w ∈ wf_c_X11_change := fun w h => List.mem_cons_of_mem _ (List.mem_append_right _ h)
set_option maxRecDepth 20000 in
theorem gf_c_X11_change_c_X6_part : GoodIn wf_c_X11_change (wsV RX11 299 RX6 yX6_part wf_c_X6_part) := goodIn_app (gi_l [1, 2, 3, 4] rfl rfl) (gi_cons (j := 5) rfl rfl (goodIn_app (gi_l [6] rfl rfl) (goodIn_sub iw_c_X11_change_X6 gw_X6)))
set_option maxHeartbeats 4000000 in
set_option maxRecDepth 100000 in
theorem c_X11_change (l : Launch) (dC : Nat → ClassId) (dI : Nat → Nat → Nat) (sz : Nat) (h0 : Nat) (h1 : Nat) (h2 : Nat) (p3 : Int32) (h2_0 : Nat) (h2_f1 : Int32) (h2_0k : ClassId) (h2_0c : Nat → Int32) (h1_f0 : Int32) (h1_f1 : Int32) (h1_f2 : Int32) (h1_f3 : Int32) (h1_4 : Nat) (h1_5 : Nat) (h1_6 : Nat) (h1_7 : Nat) (h1_8 : Nat) (h1_9 : Nat) (h1_10 : Nat) (h1_11 : Nat) (h1_12 : Nat) (h1_6k : ClassId) (h1_6c : Nat → Int32) (h1_7k : ClassId) (h1_7c : Nat → Int32) (y0 : Int32) (y1 : Int32) (y2 : Int32) (y3 : Int32) (g_p3 : RG p3 0 15) (g_h2_f1 : RG h2_f1 0 16) (a_h2_0c : AI h2_0c (-1) 9) (pv_0 : y0 = h2_0c (p3 * 4 + 0).toNatClampNeg) (g_y0 : RG y0 0 0) (pv_1 : y1 = h2_0c (p3 * 4 + 1).toNatClampNeg) (g_y1 : RG y1 0 2) (pv_2 : y2 = h2_0c (p3 * 4 + 2).toNatClampNeg) (g_y2 : RG y2 0 9) (pv_3 : y3 = h2_0c (p3 * 4 + 3).toNatClampNeg) (g_y3 : RG y3 0 9) : Met l yX11_change wf_c_X11_change ({ frames := 1, cells := 0, slots := 0, locals := 22 }) (va_Pc [.ref h0, .ref h1, .ref h2, .int p3] (fun U => U.heap.size = sz ∧ va_P (dC, dI) vwCl (wd_c_X11_change h2 h2_0 h2_f1 h2_0 h2_0k h2_0c h1 h1_f0 h1_f1 h1_f2 h1_f3 h1_4 h1_5 h1_6 h1_7 h1_8 h1_9 h1_10 h1_11 h1_12 h1_6 h1_6k h1_6c h1_7 h1_7k h1_7c) U.heap ∧ va_K (dC, dI) vwCl [(h2_0k, .int), (h1_6k, .int), (h1_7k, .int)] U ∧ va_D (fun _ => True) (wd_c_X11_change h2 h2_0 h2_f1 h2_0 h2_0k h2_0c h1 h1_f0 h1_f1 h1_f2 h1_f3 h1_4 h1_5 h1_6 h1_7 h1_8 h1_9 h1_10 h1_11 h1_12 h1_6 h1_6k h1_6c h1_7 h1_7k h1_7c))) (va_Qv (fun (u : (Nat → Int32) × (Nat → Int32)) => (True)) (fun (u : (Nat → Int32) × (Nat → Int32)) t => va_P (dC, dI) vwCl (wd_c_X11_change h2 h2_0 h2_f1 h2_0 h2_0k h2_0c h1 h1_f0 h1_f1 h1_f2 h1_f3 h1_4 h1_5 h1_6 h1_7 h1_8 h1_9 h1_10 h1_11 h1_12 h1_6 h1_6k (u.1) h1_7 h1_7k (u.2)) t.heap ∧ va_K (dC, dI) vwCl [] t ∧ va_D (va_A (wd_c_X11_change h2 h2_0 h2_f1 h2_0 h2_0k h2_0c h1 h1_f0 h1_f1 h1_f2 h1_f3 h1_4 h1_5 h1_6 h1_7 h1_8 h1_9 h1_10 h1_11 h1_12 h1_6 h1_6k h1_6c h1_7 h1_7k h1_7c) sz) (wd_c_X11_change h2 h2_0 h2_f1 h2_0 h2_0k h2_0c h1 h1_f0 h1_f1 h1_f2 h1_f3 h1_4 h1_5 h1_6 h1_7 h1_8 h1_9 h1_10 h1_11 h1_12 h1_6 h1_6k (u.1) h1_7 h1_7k (u.2))) (va_A (wd_c_X11_change h2 h2_0 h2_f1 h2_0 h2_0k h2_0c h1 h1_f0 h1_f1 h1_f2 h1_f3 h1_4 h1_5 h1_6 h1_7 h1_8 h1_9 h1_10 h1_11 h1_12 h1_6 h1_6k h1_6c h1_7 h1_7k h1_7c) sz)) 0 0 (va_A (wd_c_X11_change h2 h2_0 h2_f1 h2_0 h2_0k h2_0c h1 h1_f0 h1_f1 h1_f2 h1_f3 h1_4 h1_5 h1_6 h1_7 h1_8 h1_9 h1_10 h1_11 h1_12 h1_6 h1_6k h1_6c h1_7 h1_7k h1_7c) sz) := by
  refine Met.ofW (cc := cX11_change) (maxL := 6) (ret := none) (by decide +kernel) rfl ?_
  intro p e s m args below meth c s₁ B hml hv
  obtain ⟨rfl, hsz, hP, hK, hD0⟩ := hv
  have hx := B.exec
  have hb := B.bytes
  have hr := B.returns
  have hts := atoms_spec (ws := wf_c_X11_change) B.pre
  have hown : s.vm.findClass RX11 = some m.cls := findClass_of_methodNamed B.named
  have hlocks := B.notSynchronized
  subst hsz
  have hD := hD0.self (sz := s.heap.size)
  generalize hAe : va_A (wd_c_X11_change h2 h2_0 h2_f1 h2_0 h2_0k h2_0c h1 h1_f0 h1_f1 h1_f2 h1_f3 h1_4 h1_5 h1_6 h1_7 h1_8 h1_9 h1_10 h1_11 h1_12 h1_6 h1_6k h1_6c h1_7 h1_7k h1_7c) s.heap.size = A at hD ⊢
  have hA : ∀ q : Nat, s.heap.size ≤ q → A q := fun q h => by rw [← hAe]; exact Or.inr h
  have hP : va_P (dC, dI) vwCl (wd_c_X11_change h2 h2_0 h2_f1 h2_0 h2_0k h2_0c h1 h1_f0 h1_f1 h1_f2 h1_f3 h1_4 h1_5 h1_6 h1_7 h1_8 h1_9 h1_10 h1_11 h1_12 h1_6 h1_6k h1_6c h1_7 h1_7k h1_7c) s.heap := hP
  have hl := lv_entry ([.ref h0, .ref h1, .ref h2, .int p3]) (n := 6) (Nat.le_of_ble_eq_true rfl)
  rw [lg_entry_eq]
  generalize (lg_sl ([.ref h0, .ref h1, .ref h2, .int p3]) ++ List.replicate (6 - (lg_sl ([.ref h0, .ref h1, .ref h2, .int p3])).length) Slot.unset).toArray = ls at hl ⊢
  have hl : lv_has ls 6 [(0, .ref h0), (1, .ref h1), (2, .ref h2), (3, .int p3)] := hl
  obtain ⟨H, hHe⟩ : ∃ H : Heap, s.heap = H := ⟨_, rfl⟩
  have hS : va_S A s.heap H [] := by rw [hHe]; exact va_S.rf
  have hP : va_P (dC, dI) vwCl (wd_c_X11_change h2 h2_0 h2_f1 h2_0 h2_0k h2_0c h1 h1_f0 h1_f1 h1_f2 h1_f3 h1_4 h1_5 h1_6 h1_7 h1_8 h1_9 h1_10 h1_11 h1_12 h1_6 h1_6k h1_6c h1_7 h1_7k h1_7c) H := by rw [← hHe]; exact hP
  rw [hHe]
  refine lv_aload_n hx hb dX11_change_0 rfl (lv_at hl 2 rfl) ?_
  as_aux_lemma =>
  refine lv_iload_n hx hb dX11_change_1 rfl (lv_at hl 3 rfl) ?_
  refine lv_iconst (v := 1) hx hb dX11_change_2 kc_iconst_1 ?_
  obtain ⟨hPc, hDc, hFc, hqc⟩ := cl_cut (wc := (wd_c_X6_part h2 h2_0 h2_f1 h2_0 h2_0k h2_0c)) hP hD hS hA [0, 1] (by decide +kernel) rfl
  have hKc := hK.sub (tys' := [(h2_0k, .int)]) [0] rfl
  have hrv := va_recv hKc hPc (ci := 6) (q0 := 0) rfl rfl
  refine va_calli (va_runV (As := [.int p3, .int 1]) (rest := []) ⟨hx, hb, hml, hown, hts⟩ (c_X6_part l dC dI H.size h2 p3 1 h2_0 h2_f1 h2_0k h2_0c g_p3 (RG_w (RG_k 1 1 rfl) (by decide +kernel)) g_h2_f1 a_h2_0c) (cwV 2 hts gf_c_X11_change_c_X6_part rfl rfl rfl mdV_X6_part ⟨Nat.le_of_ble_eq_true rfl, Nat.le_of_ble_eq_true rfl⟩) ⟨fun a U g mk q => by obtain ⟨q0, q1, qP, qK, qD⟩ := q; exact ⟨q0, q1, qP, va_K.moved (u := U) (U := U.calling g mk a) (Vm.Alike.refl U.vm) qK, qD⟩, hrv, fun U hU hW => ⟨rfl, by rw [hU], by rw [hU]; exact hPc, va_K.moved hW.alike hKc, hDc.weaken (fun _ _ _ _ => trivial)⟩⟩ rfl rfl hl.1 rfl (lv_room (Nat.le_of_ble_eq_true rfl)) dX11_change_3 ⟨Nat.le_of_ble_eq_true rfl, Nat.le_of_ble_eq_true rfl⟩) hS (fun q _ h => hFc q h) hFc (fun r_1 u t H1 locs ht hvm hw hB hz1 hk1 hS => ?_)
  obtain ⟨hP1, hK1, hD1⟩ := hB
  rw [ht] at hP1
  obtain ⟨hP, hD⟩ := cl_put (w1 := (wd_c_X6_part h2 h2_0 h2_f1 h2_0 h2_0k h2_0c)) (nw := (wd_c_X11_change h2 h2_0 h2_f1 h2_0 h2_0k h2_0c h1 h1_f0 h1_f1 h1_f2 h1_f3 h1_4 h1_5 h1_6 h1_7 h1_8 h1_9 h1_10 h1_11 h1_12 h1_6 h1_6k h1_6c h1_7 h1_7k h1_7c)) hP hD [0, 1] [5, 6, 2, 3, 4] 5 rfl hqc (by decide +kernel) rfl hk1 hFc hP1 hD1
  generalize H1 = H at hP hS ⊢
  as_aux_lemma =>
  rcases hw with ⟨h_2, h_3⟩
  obtain rfl : y1 = r_1 := (h_3.trans pv_1.symm).symm
  refine lv_istore (lv' := [(4, .int y1), (0, .ref h0), (1, .ref h1), (2, .ref h2), (3, .int p3)]) hx hb dX11_change_6 hl (Nat.le_of_ble_eq_true rfl) rfl (fun ls hl => ?_)
  refine lv_aload_n hx hb dX11_change_8 rfl (lv_at hl 3 rfl) ?_
  refine lv_iload_n hx hb dX11_change_9 rfl (lv_at hl 4 rfl) ?_
  refine lv_iconst (v := 2) hx hb dX11_change_10 kc_iconst_2 ?_
  obtain ⟨hPc, hDc, hFc, hqc⟩ := cl_cut (wc := (wd_c_X6_part h2 h2_0 h2_f1 h2_0 h2_0k h2_0c)) hP hD hS hA [0, 1] (by decide +kernel) rfl
  have hKc := hK.sub (tys' := [(h2_0k, .int)]) [0] rfl
  have hrv := va_recv hKc hPc (ci := 6) (q0 := 0) rfl rfl
  refine va_calli (va_runV (As := [.int p3, .int 2]) (rest := []) ⟨hx, hb, hml, hown, hts⟩ (c_X6_part l dC dI H.size h2 p3 2 h2_0 h2_f1 h2_0k h2_0c g_p3 (RG_w (RG_k 2 2 rfl) (by decide +kernel)) g_h2_f1 a_h2_0c) (cwV 2 hts gf_c_X11_change_c_X6_part rfl rfl rfl mdV_X6_part ⟨Nat.le_of_ble_eq_true rfl, Nat.le_of_ble_eq_true rfl⟩) ⟨fun a U g mk q => by obtain ⟨q0, q1, qP, qK, qD⟩ := q; exact ⟨q0, q1, qP, va_K.moved (u := U) (U := U.calling g mk a) (Vm.Alike.refl U.vm) qK, qD⟩, hrv, fun U hU hW => ⟨rfl, by rw [hU], by rw [hU]; exact hPc, va_K.moved hW.alike hKc, hDc.weaken (fun _ _ _ _ => trivial)⟩⟩ rfl rfl hl.1 rfl (lv_room (Nat.le_of_ble_eq_true rfl)) dX11_change_11 ⟨Nat.le_of_ble_eq_true rfl, Nat.le_of_ble_eq_true rfl⟩) hS (fun q _ h => hFc q h) hFc (fun r_4 u t H1 locs ht hvm hw hB hz1 hk1 hS => ?_)
  obtain ⟨hP1, hK1, hD1⟩ := hB
  rw [ht] at hP1
  obtain ⟨hP, hD⟩ := cl_put (w1 := (wd_c_X6_part h2 h2_0 h2_f1 h2_0 h2_0k h2_0c)) (nw := (wd_c_X11_change h2 h2_0 h2_f1 h2_0 h2_0k h2_0c h1 h1_f0 h1_f1 h1_f2 h1_f3 h1_4 h1_5 h1_6 h1_7 h1_8 h1_9 h1_10 h1_11 h1_12 h1_6 h1_6k h1_6c h1_7 h1_7k h1_7c)) hP hD [0, 1] [5, 6, 2, 3, 4] 5 rfl hqc (by decide +kernel) rfl hk1 hFc hP1 hD1
  generalize H1 = H at hP hS ⊢
  as_aux_lemma =>
  rcases hw with ⟨h_5, h_6⟩
  obtain rfl : y2 = r_4 := (h_6.trans pv_2.symm).symm
  refine lv_istore (lv' := [(5, .int y2), (4, .int y1), (0, .ref h0), (1, .ref h1), (2, .ref h2), (3, .int p3)]) hx hb dX11_change_14 hl (Nat.le_of_ble_eq_true rfl) rfl (fun ls hl => ?_)
  refine lv_aload_n hx hb dX11_change_16 rfl (lv_at hl 4 rfl) ?_
  refine lv_iload_n hx hb dX11_change_17 rfl (lv_at hl 5 rfl) ?_
  refine lv_iconst (v := 0) hx hb dX11_change_18 kc_iconst_0 ?_
  obtain ⟨hPc, hDc, hFc, hqc⟩ := cl_cut (wc := (wd_c_X6_part h2 h2_0 h2_f1 h2_0 h2_0k h2_0c)) hP hD hS hA [0, 1] (by decide +kernel) rfl
  have hKc := hK.sub (tys' := [(h2_0k, .int)]) [0] rfl
  have hrv := va_recv hKc hPc (ci := 6) (q0 := 0) rfl rfl
  refine va_calli (va_runV (As := [.int p3, .int 0]) (rest := []) ⟨hx, hb, hml, hown, hts⟩ (c_X6_part l dC dI H.size h2 p3 0 h2_0 h2_f1 h2_0k h2_0c g_p3 (RG_w (RG_k 0 0 rfl) (by decide +kernel)) g_h2_f1 a_h2_0c) (cwV 2 hts gf_c_X11_change_c_X6_part rfl rfl rfl mdV_X6_part ⟨Nat.le_of_ble_eq_true rfl, Nat.le_of_ble_eq_true rfl⟩) ⟨fun a U g mk q => by obtain ⟨q0, q1, qP, qK, qD⟩ := q; exact ⟨q0, q1, qP, va_K.moved (u := U) (U := U.calling g mk a) (Vm.Alike.refl U.vm) qK, qD⟩, hrv, fun U hU hW => ⟨rfl, by rw [hU], by rw [hU]; exact hPc, va_K.moved hW.alike hKc, hDc.weaken (fun _ _ _ _ => trivial)⟩⟩ rfl rfl hl.1 rfl (lv_room (Nat.le_of_ble_eq_true rfl)) dX11_change_19 ⟨Nat.le_of_ble_eq_true rfl, Nat.le_of_ble_eq_true rfl⟩) hS (fun q _ h => hFc q h) hFc (fun r_7 u t H1 locs ht hvm hw hB hz1 hk1 hS => ?_)
  obtain ⟨hP1, hK1, hD1⟩ := hB
  rw [ht] at hP1
  obtain ⟨hP, hD⟩ := cl_put (w1 := (wd_c_X6_part h2 h2_0 h2_f1 h2_0 h2_0k h2_0c)) (nw := (wd_c_X11_change h2 h2_0 h2_f1 h2_0 h2_0k h2_0c h1 h1_f0 h1_f1 h1_f2 h1_f3 h1_4 h1_5 h1_6 h1_7 h1_8 h1_9 h1_10 h1_11 h1_12 h1_6 h1_6k h1_6c h1_7 h1_7k h1_7c)) hP hD [0, 1] [5, 6, 2, 3, 4] 5 rfl hqc (by decide +kernel) rfl hk1 hFc hP1 hD1
  generalize H1 = H at hP hS ⊢
  as_aux_lemma =>
  rcases hw with ⟨h_8, h_9⟩
  obtain rfl : y0 = r_7 := (h_9.trans pv_0.symm).symm
  by_cases c_10 : y0 = 0
  · have hsw : y0.toInt = 0 := by rw [c_10]; rfl
    refine lv_tableIn (off := 26) (tgt := 48) hx hb dX11_change_22 (by rw [hsw]; decide) (by rw [hsw]; decide) (by rw [hsw]; decide) (by decide +kernel) ?_
    have g_11 : RG y0 0 0 := RG_k _ _ hsw
    refine lv_aload_n hx hb dX11_change_48 rfl (lv_at hl 3 rfl) ?_
    refine va_get (D := (dC, dI)) (ci := 7) (v := .ref h1_6) (C := RX7) (T := TX7) (N := 13) hx hb hts iw_c_X11_change_X7 hown hK hP 2 rfl rfl 6 (by decide +kernel) (hts (.fieldLink RX11 206 "BuoyVote$Sea" "goalX" "[I") (List.mem_of_getElem? (i := 7) rfl)) (fun _ h9 => h9) rfl dX11_change_49 ?_
    refine lv_iload hx hb dX11_change_52 (lv_at hl 1 rfl) ?_
    refine lv_iload hx hb dX11_change_54 (lv_at hl 0 rfl) ?_
    refine va_iast hx hb hK hP hD hS 3 1 rfl rfl (RG_in g_y1 (by decide +kernel)) dX11_change_56 (fun H locs hP hD hS => ?_)
    have hP : va_P (dC, dI) vwCl (wd_c_X11_change h2 h2_0 h2_f1 h2_0 h2_0k h2_0c h1 h1_f0 h1_f1 h1_f2 h1_f3 h1_4 h1_5 h1_6 h1_7 h1_8 h1_9 h1_10 h1_11 h1_12 h1_6 h1_6k (upd h1_6c (y1 : Int32).toNatClampNeg y2) h1_7 h1_7k h1_7c) H := hP
    have hD : va_D A (wd_c_X11_change h2 h2_0 h2_f1 h2_0 h2_0k h2_0c h1 h1_f0 h1_f1 h1_f2 h1_f3 h1_4 h1_5 h1_6 h1_7 h1_8 h1_9 h1_10 h1_11 h1_12 h1_6 h1_6k (upd h1_6c (y1 : Int32).toNatClampNeg y2) h1_7 h1_7k h1_7c) := hD
    have l_13 : (upd h1_6c (y1 : Int32).toNatClampNeg y2) (y1 : Int32).toNatClampNeg = y2 := pk_us
    generalize (upd h1_6c (y1 : Int32).toNatClampNeg y2) = w_12 at hP hD l_13
    have hP : va_P (dC, dI) vwCl (wd_c_X11_change h2 h2_0 h2_f1 h2_0 h2_0k h2_0c h1 h1_f0 h1_f1 h1_f2 h1_f3 h1_4 h1_5 h1_6 h1_7 h1_8 h1_9 h1_10 h1_11 h1_12 h1_6 h1_6k w_12 h1_7 h1_7k h1_7c) H := hP
    have hD : va_D A (wd_c_X11_change h2 h2_0 h2_f1 h2_0 h2_0k h2_0c h1 h1_f0 h1_f1 h1_f2 h1_f3 h1_4 h1_5 h1_6 h1_7 h1_8 h1_9 h1_10 h1_11 h1_12 h1_6 h1_6k w_12 h1_7 h1_7k h1_7c) := hD
    refine lv_aload_n hx hb dX11_change_57 rfl (lv_at hl 3 rfl) ?_
    as_aux_lemma =>
    refine va_get (D := (dC, dI)) (ci := 7) (v := .ref h1_7) (C := RX7) (T := TX7) (N := 13) hx hb hts iw_c_X11_change_X7 hown hK hP 2 rfl rfl 7 (by decide +kernel) (hts (.fieldLink RX11 209 "BuoyVote$Sea" "goalY" "[I") (List.mem_of_getElem? (i := 8) rfl)) (fun _ h9 => h9) rfl dX11_change_58 ?_
    refine lv_iload hx hb dX11_change_61 (lv_at hl 1 rfl) ?_
    refine lv_aload_n hx hb dX11_change_63 rfl (lv_at hl 4 rfl) ?_
    refine lv_iload_n hx hb dX11_change_64 rfl (lv_at hl 5 rfl) ?_
    refine lv_iconst (v := 3) hx hb dX11_change_65 kc_iconst_3 ?_
    obtain ⟨hPc, hDc, hFc, hqc⟩ := cl_cut (wc := (wd_c_X6_part h2 h2_0 h2_f1 h2_0 h2_0k h2_0c)) hP hD hS hA [0, 1] (by decide +kernel) rfl
    have hKc := hK.sub (tys' := [(h2_0k, .int)]) [0] rfl
    have hrv := va_recv hKc hPc (ci := 6) (q0 := 0) rfl rfl
    refine va_calli (va_runV (As := [.int p3, .int 3]) (rest := [.int y1, .ref h1_7]) ⟨hx, hb, hml, hown, hts⟩ (c_X6_part l dC dI H.size h2 p3 3 h2_0 h2_f1 h2_0k h2_0c g_p3 (RG_w (RG_k 3 3 rfl) (by decide +kernel)) g_h2_f1 a_h2_0c) (cwV 2 hts gf_c_X11_change_c_X6_part rfl rfl rfl mdV_X6_part ⟨Nat.le_of_ble_eq_true rfl, Nat.le_of_ble_eq_true rfl⟩) ⟨fun a U g mk q => by obtain ⟨q0, q1, qP, qK, qD⟩ := q; exact ⟨q0, q1, qP, va_K.moved (u := U) (U := U.calling g mk a) (Vm.Alike.refl U.vm) qK, qD⟩, hrv, fun U hU hW => ⟨rfl, by rw [hU], by rw [hU]; exact hPc, va_K.moved hW.alike hKc, hDc.weaken (fun _ _ _ _ => trivial)⟩⟩ rfl rfl hl.1 rfl (lv_room (Nat.le_of_ble_eq_true rfl)) dX11_change_66 ⟨Nat.le_of_ble_eq_true rfl, Nat.le_of_ble_eq_true rfl⟩) hS (fun q _ h => hFc q h) hFc (fun r_14 u t H1 locs ht hvm hw hB hz1 hk1 hS => ?_)
    obtain ⟨hP1, hK1, hD1⟩ := hB
    rw [ht] at hP1
    obtain ⟨hP, hD⟩ := cl_put (w1 := (wd_c_X6_part h2 h2_0 h2_f1 h2_0 h2_0k h2_0c)) (nw := (wd_c_X11_change h2 h2_0 h2_f1 h2_0 h2_0k h2_0c h1 h1_f0 h1_f1 h1_f2 h1_f3 h1_4 h1_5 h1_6 h1_7 h1_8 h1_9 h1_10 h1_11 h1_12 h1_6 h1_6k w_12 h1_7 h1_7k h1_7c)) hP hD [0, 1] [5, 6, 2, 3, 4] 5 rfl hqc (by decide +kernel) rfl hk1 hFc hP1 hD1
    generalize H1 = H at hP hS ⊢
    as_aux_lemma =>
    rcases hw with ⟨h_15, h_16⟩
    obtain rfl : y3 = r_14 := (h_16.trans pv_3.symm).symm
    refine va_iast hx hb hK hP hD hS 4 2 rfl rfl (RG_in g_y1 (by decide +kernel)) dX11_change_69 (fun H locs hP hD hS => ?_)
    have hP : va_P (dC, dI) vwCl (wd_c_X11_change h2 h2_0 h2_f1 h2_0 h2_0k h2_0c h1 h1_f0 h1_f1 h1_f2 h1_f3 h1_4 h1_5 h1_6 h1_7 h1_8 h1_9 h1_10 h1_11 h1_12 h1_6 h1_6k w_12 h1_7 h1_7k (upd h1_7c (y1 : Int32).toNatClampNeg y3)) H := hP
    have hD : va_D A (wd_c_X11_change h2 h2_0 h2_f1 h2_0 h2_0k h2_0c h1 h1_f0 h1_f1 h1_f2 h1_f3 h1_4 h1_5 h1_6 h1_7 h1_8 h1_9 h1_10 h1_11 h1_12 h1_6 h1_6k w_12 h1_7 h1_7k (upd h1_7c (y1 : Int32).toNatClampNeg y3)) := hD
    have l_18 : (upd h1_7c (y1 : Int32).toNatClampNeg y3) (y1 : Int32).toNatClampNeg = y3 := pk_us
    generalize (upd h1_7c (y1 : Int32).toNatClampNeg y3) = w_17 at hP hD l_18
    have hP : va_P (dC, dI) vwCl (wd_c_X11_change h2 h2_0 h2_f1 h2_0 h2_0k h2_0c h1 h1_f0 h1_f1 h1_f2 h1_f3 h1_4 h1_5 h1_6 h1_7 h1_8 h1_9 h1_10 h1_11 h1_12 h1_6 h1_6k w_12 h1_7 h1_7k w_17) H := hP
    have hD : va_D A (wd_c_X11_change h2 h2_0 h2_f1 h2_0 h2_0k h2_0c h1 h1_f0 h1_f1 h1_f2 h1_f3 h1_4 h1_5 h1_6 h1_7 h1_8 h1_9 h1_10 h1_11 h1_12 h1_6 h1_6k w_12 h1_7 h1_7k w_17) := hD
    refine lv_goto (tgt := 98) hx hb dX11_change_70 rfl ?_
    have hK9 := hK.sub (tys' := []) [] rfl
    exact W.vret hx hb hr (fun t ht hW => ⟨⟨(w_12, w_17), rfl, trivial, by rw [ht]; exact hP, va_K.moved hW.alike hK9, hD⟩, hS.F ht⟩) hS.2.2 dX11_change_98
  exfalso
  have zc_10 := lv_neT c_10 (a := 0) (by decide +kernel)
  have zg1 := (g_y0).1
  have zg2 := (g_y0).2
  omega
noncomputable def wd_c_X11_change_1 (a0 : Nat) (a1 : Nat) (a2 : Int32) (a3 : Nat) (a4 : ClassId) (a5 : Nat → Int32) (a6 : Nat) (a7 : Int32) (a8 : Int32) (a9 : Int32) (a10 : Int32) (a11 : Nat) (a12 : Nat) (a13 : Nat) (a14 : Nat) (a15 : Nat) (a16 : Nat) (a17 : Nat) (a18 : Nat) (a19 : Nat) (a20 : Nat) (a21 : ClassId) (a22 : Nat → Int32) (a23 : Nat) (a24 : ClassId) (a25 : Nat → Int32) : va_W := [(a0, .inr (6, [.ref a1, .int a2])), (a3, .inl (a4, 64, .inl a5)), (a6, .inr (7, [.int a7, .int a8, .int a9, .int a10, .ref a11, .ref a12, .ref a13, .ref a14, .ref a15, .ref a16, .ref a17, .ref a18, .ref a19])), (a20, .inl (a21, 24, .inl a22)), (a23, .inl (a24, 3, .inl a25))]
noncomputable def wf_c_X11_change_1 : List Cond := List.cons (.code yX11_change cX11_change 6 none) (@HAppend.hAppend (List Cond) (List Cond) (List Cond) _ (@HAppend.hAppend (List Cond) (List Cond) (List Cond) _ [.methodLink RX11 299 yX6_part, .instanceMethod yX6_part, .selects RX6 yX6_part yX6_part, .initialized RX6, .code yX6_part cX6_part 3 (some .int), .fieldLink RX6 11 "BuoyVote$Plan" "cells" "[I", .methodLink RX11 252 yX7_singTo, .instanceMethod yX7_singTo, .selects RX7 yX7_singTo yX7_singTo, .initialized RX7, .code yX7_singTo cX7_singTo 3 none, .fieldLink RX7 30 "BuoyVote$Sea" "liking" "[I", .fieldLink RX7 27 "BuoyVote$Sea" "sang" "[I"] wsX60) wsX70)
theorem iw_c_X11_change_1_X6 : ∀ w ∈ wsX60, w ∈ wf_c_X11_change_1 := fun w h => List.mem_cons_of_mem _ (List.mem_append_left _ (List.mem_append_right _ h))
theorem iw_c_X11_change_1_X7 : ∀ w ∈ wsX70, w ∈ wf_c_X11_change_1 := fun w h => List.mem_cons_of_mem _ (List.mem_append_right _ h)
set_option maxRecDepth 20000 in
theorem gf_c_X11_change_1_c_X6_part : GoodIn wf_c_X11_change_1 (wsV RX11 299 RX6 yX6_part wf_c_X6_part) := goodIn_app (gi_l [1, 2, 3, 4] rfl rfl) (gi_cons (j := 5) rfl rfl (goodIn_app (gi_l [6] rfl rfl) (goodIn_sub iw_c_X11_change_1_X6 gw_X6)))
set_option maxRecDepth 20000 in
theorem gf_c_X11_change_1_c_X7_singTo : GoodIn wf_c_X11_change_1 (wsV RX11 252 RX7 yX7_singTo wf_c_X7_singTo) := goodIn_app (gi_l [7, 8, 9, 10] rfl rfl) (gi_cons (j := 11) rfl rfl (goodIn_app (gi_l [12, 13] rfl rfl) (goodIn_sub iw_c_X11_change_1_X7 gw_X7)))
set_option maxHeartbeats 4000000 in
set_option maxRecDepth 100000 in
theorem c_X11_change_1 (l : Launch) (dC : Nat → ClassId) (dI : Nat → Nat → Nat) (sz : Nat) (h0 : Nat) (h1 : Nat) (h2 : Nat) (p3 : Int32) (h2_0 : Nat) (h2_f1 : Int32) (h2_0k : ClassId) (h2_0c : Nat → Int32) (h1_f0 : Int32) (h1_f1 : Int32) (h1_f2 : Int32) (h1_f3 : Int32) (h1_4 : Nat) (h1_5 : Nat) (h1_6 : Nat) (h1_7 : Nat) (h1_8 : Nat) (h1_9 : Nat) (h1_10 : Nat) (h1_11 : Nat) (h1_12 : Nat) (h1_10k : ClassId) (h1_10c : Nat → Int32) (h1_9k : ClassId) (h1_9c : Nat → Int32) (y0 : Int32) (y1 : Int32) (y2 : Int32) (y3 : Int32) (g_p3 : RG p3 0 15) (g_h2_f1 : RG h2_f1 0 16) (a_h2_0c : AI h2_0c (-1) 9) (pv_0 : y0 = h2_0c (p3 * 4 + 0).toNatClampNeg) (g_y0 : RG y0 1 1) (pv_1 : y1 = h2_0c (p3 * 4 + 1).toNatClampNeg) (g_y1 : RG y1 0 2) (pv_2 : y2 = h2_0c (p3 * 4 + 2).toNatClampNeg) (g_y2 : RG y2 0 7) (pv_3 : y3 = h2_0c (p3 * 4 + 3).toNatClampNeg) (g_y3 : RG y3 (-1) 9) : Met l yX11_change wf_c_X11_change_1 ({ frames := 1, cells := 0, slots := 0, locals := 22 }) (va_Pc [.ref h0, .ref h1, .ref h2, .int p3] (fun U => U.heap.size = sz ∧ va_P (dC, dI) vwCl (wd_c_X11_change_1 h2 h2_0 h2_f1 h2_0 h2_0k h2_0c h1 h1_f0 h1_f1 h1_f2 h1_f3 h1_4 h1_5 h1_6 h1_7 h1_8 h1_9 h1_10 h1_11 h1_12 h1_10 h1_10k h1_10c h1_9 h1_9k h1_9c) U.heap ∧ va_K (dC, dI) vwCl [(h2_0k, .int), (h1_10k, .int), (h1_9k, .int)] U ∧ va_D (fun _ => True) (wd_c_X11_change_1 h2 h2_0 h2_f1 h2_0 h2_0k h2_0c h1 h1_f0 h1_f1 h1_f2 h1_f3 h1_4 h1_5 h1_6 h1_7 h1_8 h1_9 h1_10 h1_11 h1_12 h1_10 h1_10k h1_10c h1_9 h1_9k h1_9c))) (va_Qv (fun (u : (Nat → Int32) × (Nat → Int32)) => (True)) (fun (u : (Nat → Int32) × (Nat → Int32)) t => va_P (dC, dI) vwCl (wd_c_X11_change_1 h2 h2_0 h2_f1 h2_0 h2_0k h2_0c h1 h1_f0 h1_f1 h1_f2 h1_f3 h1_4 h1_5 h1_6 h1_7 h1_8 h1_9 h1_10 h1_11 h1_12 h1_10 h1_10k (u.1) h1_9 h1_9k (u.2)) t.heap ∧ va_K (dC, dI) vwCl [] t ∧ va_D (va_A (wd_c_X11_change_1 h2 h2_0 h2_f1 h2_0 h2_0k h2_0c h1 h1_f0 h1_f1 h1_f2 h1_f3 h1_4 h1_5 h1_6 h1_7 h1_8 h1_9 h1_10 h1_11 h1_12 h1_10 h1_10k h1_10c h1_9 h1_9k h1_9c) sz) (wd_c_X11_change_1 h2 h2_0 h2_f1 h2_0 h2_0k h2_0c h1 h1_f0 h1_f1 h1_f2 h1_f3 h1_4 h1_5 h1_6 h1_7 h1_8 h1_9 h1_10 h1_11 h1_12 h1_10 h1_10k (u.1) h1_9 h1_9k (u.2))) (va_A (wd_c_X11_change_1 h2 h2_0 h2_f1 h2_0 h2_0k h2_0c h1 h1_f0 h1_f1 h1_f2 h1_f3 h1_4 h1_5 h1_6 h1_7 h1_8 h1_9 h1_10 h1_11 h1_12 h1_10 h1_10k h1_10c h1_9 h1_9k h1_9c) sz)) 0 0 (va_A (wd_c_X11_change_1 h2 h2_0 h2_f1 h2_0 h2_0k h2_0c h1 h1_f0 h1_f1 h1_f2 h1_f3 h1_4 h1_5 h1_6 h1_7 h1_8 h1_9 h1_10 h1_11 h1_12 h1_10 h1_10k h1_10c h1_9 h1_9k h1_9c) sz) := by
  refine Met.ofW (cc := cX11_change) (maxL := 6) (ret := none) (by decide +kernel) rfl ?_
  intro p e s m args below meth c s₁ B hml hv
  obtain ⟨rfl, hsz, hP, hK, hD0⟩ := hv
  have hx := B.exec
  have hb := B.bytes
  have hr := B.returns
  have hts := atoms_spec (ws := wf_c_X11_change_1) B.pre
  have hown : s.vm.findClass RX11 = some m.cls := findClass_of_methodNamed B.named
  have hlocks := B.notSynchronized
  subst hsz
  have hD := hD0.self (sz := s.heap.size)
  generalize hAe : va_A (wd_c_X11_change_1 h2 h2_0 h2_f1 h2_0 h2_0k h2_0c h1 h1_f0 h1_f1 h1_f2 h1_f3 h1_4 h1_5 h1_6 h1_7 h1_8 h1_9 h1_10 h1_11 h1_12 h1_10 h1_10k h1_10c h1_9 h1_9k h1_9c) s.heap.size = A at hD ⊢
  have hA : ∀ q : Nat, s.heap.size ≤ q → A q := fun q h => by rw [← hAe]; exact Or.inr h
  have hP : va_P (dC, dI) vwCl (wd_c_X11_change_1 h2 h2_0 h2_f1 h2_0 h2_0k h2_0c h1 h1_f0 h1_f1 h1_f2 h1_f3 h1_4 h1_5 h1_6 h1_7 h1_8 h1_9 h1_10 h1_11 h1_12 h1_10 h1_10k h1_10c h1_9 h1_9k h1_9c) s.heap := hP
  have hl := lv_entry ([.ref h0, .ref h1, .ref h2, .int p3]) (n := 6) (Nat.le_of_ble_eq_true rfl)
  rw [lg_entry_eq]
  generalize (lg_sl ([.ref h0, .ref h1, .ref h2, .int p3]) ++ List.replicate (6 - (lg_sl ([.ref h0, .ref h1, .ref h2, .int p3])).length) Slot.unset).toArray = ls at hl ⊢
  have hl : lv_has ls 6 [(0, .ref h0), (1, .ref h1), (2, .ref h2), (3, .int p3)] := hl
  obtain ⟨H, hHe⟩ : ∃ H : Heap, s.heap = H := ⟨_, rfl⟩
  have hS : va_S A s.heap H [] := by rw [hHe]; exact va_S.rf
  have hP : va_P (dC, dI) vwCl (wd_c_X11_change_1 h2 h2_0 h2_f1 h2_0 h2_0k h2_0c h1 h1_f0 h1_f1 h1_f2 h1_f3 h1_4 h1_5 h1_6 h1_7 h1_8 h1_9 h1_10 h1_11 h1_12 h1_10 h1_10k h1_10c h1_9 h1_9k h1_9c) H := by rw [← hHe]; exact hP
  rw [hHe]
  refine lv_aload_n hx hb dX11_change_0 rfl (lv_at hl 2 rfl) ?_
  as_aux_lemma =>
  refine lv_iload_n hx hb dX11_change_1 rfl (lv_at hl 3 rfl) ?_
  refine lv_iconst (v := 1) hx hb dX11_change_2 kc_iconst_1 ?_
  obtain ⟨hPc, hDc, hFc, hqc⟩ := cl_cut (wc := (wd_c_X6_part h2 h2_0 h2_f1 h2_0 h2_0k h2_0c)) hP hD hS hA [0, 1] (by decide +kernel) rfl
  have hKc := hK.sub (tys' := [(h2_0k, .int)]) [0] rfl
  have hrv := va_recv hKc hPc (ci := 6) (q0 := 0) rfl rfl
  refine va_calli (va_runV (As := [.int p3, .int 1]) (rest := []) ⟨hx, hb, hml, hown, hts⟩ (c_X6_part l dC dI H.size h2 p3 1 h2_0 h2_f1 h2_0k h2_0c g_p3 (RG_w (RG_k 1 1 rfl) (by decide +kernel)) g_h2_f1 a_h2_0c) (cwV 2 hts gf_c_X11_change_1_c_X6_part rfl rfl rfl mdV_X6_part ⟨Nat.le_of_ble_eq_true rfl, Nat.le_of_ble_eq_true rfl⟩) ⟨fun a U g mk q => by obtain ⟨q0, q1, qP, qK, qD⟩ := q; exact ⟨q0, q1, qP, va_K.moved (u := U) (U := U.calling g mk a) (Vm.Alike.refl U.vm) qK, qD⟩, hrv, fun U hU hW => ⟨rfl, by rw [hU], by rw [hU]; exact hPc, va_K.moved hW.alike hKc, hDc.weaken (fun _ _ _ _ => trivial)⟩⟩ rfl rfl hl.1 rfl (lv_room (Nat.le_of_ble_eq_true rfl)) dX11_change_3 ⟨Nat.le_of_ble_eq_true rfl, Nat.le_of_ble_eq_true rfl⟩) hS (fun q _ h => hFc q h) hFc (fun r_1 u t H1 locs ht hvm hw hB hz1 hk1 hS => ?_)
  obtain ⟨hP1, hK1, hD1⟩ := hB
  rw [ht] at hP1
  obtain ⟨hP, hD⟩ := cl_put (w1 := (wd_c_X6_part h2 h2_0 h2_f1 h2_0 h2_0k h2_0c)) (nw := (wd_c_X11_change_1 h2 h2_0 h2_f1 h2_0 h2_0k h2_0c h1 h1_f0 h1_f1 h1_f2 h1_f3 h1_4 h1_5 h1_6 h1_7 h1_8 h1_9 h1_10 h1_11 h1_12 h1_10 h1_10k h1_10c h1_9 h1_9k h1_9c)) hP hD [0, 1] [5, 6, 2, 3, 4] 5 rfl hqc (by decide +kernel) rfl hk1 hFc hP1 hD1
  generalize H1 = H at hP hS ⊢
  as_aux_lemma =>
  rcases hw with ⟨h_2, h_3⟩
  obtain rfl : y1 = r_1 := (h_3.trans pv_1.symm).symm
  refine lv_istore (lv' := [(4, .int y1), (0, .ref h0), (1, .ref h1), (2, .ref h2), (3, .int p3)]) hx hb dX11_change_6 hl (Nat.le_of_ble_eq_true rfl) rfl (fun ls hl => ?_)
  refine lv_aload_n hx hb dX11_change_8 rfl (lv_at hl 3 rfl) ?_
  refine lv_iload_n hx hb dX11_change_9 rfl (lv_at hl 4 rfl) ?_
  refine lv_iconst (v := 2) hx hb dX11_change_10 kc_iconst_2 ?_
  obtain ⟨hPc, hDc, hFc, hqc⟩ := cl_cut (wc := (wd_c_X6_part h2 h2_0 h2_f1 h2_0 h2_0k h2_0c)) hP hD hS hA [0, 1] (by decide +kernel) rfl
  have hKc := hK.sub (tys' := [(h2_0k, .int)]) [0] rfl
  have hrv := va_recv hKc hPc (ci := 6) (q0 := 0) rfl rfl
  refine va_calli (va_runV (As := [.int p3, .int 2]) (rest := []) ⟨hx, hb, hml, hown, hts⟩ (c_X6_part l dC dI H.size h2 p3 2 h2_0 h2_f1 h2_0k h2_0c g_p3 (RG_w (RG_k 2 2 rfl) (by decide +kernel)) g_h2_f1 a_h2_0c) (cwV 2 hts gf_c_X11_change_1_c_X6_part rfl rfl rfl mdV_X6_part ⟨Nat.le_of_ble_eq_true rfl, Nat.le_of_ble_eq_true rfl⟩) ⟨fun a U g mk q => by obtain ⟨q0, q1, qP, qK, qD⟩ := q; exact ⟨q0, q1, qP, va_K.moved (u := U) (U := U.calling g mk a) (Vm.Alike.refl U.vm) qK, qD⟩, hrv, fun U hU hW => ⟨rfl, by rw [hU], by rw [hU]; exact hPc, va_K.moved hW.alike hKc, hDc.weaken (fun _ _ _ _ => trivial)⟩⟩ rfl rfl hl.1 rfl (lv_room (Nat.le_of_ble_eq_true rfl)) dX11_change_11 ⟨Nat.le_of_ble_eq_true rfl, Nat.le_of_ble_eq_true rfl⟩) hS (fun q _ h => hFc q h) hFc (fun r_4 u t H1 locs ht hvm hw hB hz1 hk1 hS => ?_)
  obtain ⟨hP1, hK1, hD1⟩ := hB
  rw [ht] at hP1
  obtain ⟨hP, hD⟩ := cl_put (w1 := (wd_c_X6_part h2 h2_0 h2_f1 h2_0 h2_0k h2_0c)) (nw := (wd_c_X11_change_1 h2 h2_0 h2_f1 h2_0 h2_0k h2_0c h1 h1_f0 h1_f1 h1_f2 h1_f3 h1_4 h1_5 h1_6 h1_7 h1_8 h1_9 h1_10 h1_11 h1_12 h1_10 h1_10k h1_10c h1_9 h1_9k h1_9c)) hP hD [0, 1] [5, 6, 2, 3, 4] 5 rfl hqc (by decide +kernel) rfl hk1 hFc hP1 hD1
  generalize H1 = H at hP hS ⊢
  as_aux_lemma =>
  rcases hw with ⟨h_5, h_6⟩
  obtain rfl : y2 = r_4 := (h_6.trans pv_2.symm).symm
  refine lv_istore (lv' := [(5, .int y2), (4, .int y1), (0, .ref h0), (1, .ref h1), (2, .ref h2), (3, .int p3)]) hx hb dX11_change_14 hl (Nat.le_of_ble_eq_true rfl) rfl (fun ls hl => ?_)
  refine lv_aload_n hx hb dX11_change_16 rfl (lv_at hl 4 rfl) ?_
  refine lv_iload_n hx hb dX11_change_17 rfl (lv_at hl 5 rfl) ?_
  refine lv_iconst (v := 0) hx hb dX11_change_18 kc_iconst_0 ?_
  obtain ⟨hPc, hDc, hFc, hqc⟩ := cl_cut (wc := (wd_c_X6_part h2 h2_0 h2_f1 h2_0 h2_0k h2_0c)) hP hD hS hA [0, 1] (by decide +kernel) rfl
  have hKc := hK.sub (tys' := [(h2_0k, .int)]) [0] rfl
  have hrv := va_recv hKc hPc (ci := 6) (q0 := 0) rfl rfl
  refine va_calli (va_runV (As := [.int p3, .int 0]) (rest := []) ⟨hx, hb, hml, hown, hts⟩ (c_X6_part l dC dI H.size h2 p3 0 h2_0 h2_f1 h2_0k h2_0c g_p3 (RG_w (RG_k 0 0 rfl) (by decide +kernel)) g_h2_f1 a_h2_0c) (cwV 2 hts gf_c_X11_change_1_c_X6_part rfl rfl rfl mdV_X6_part ⟨Nat.le_of_ble_eq_true rfl, Nat.le_of_ble_eq_true rfl⟩) ⟨fun a U g mk q => by obtain ⟨q0, q1, qP, qK, qD⟩ := q; exact ⟨q0, q1, qP, va_K.moved (u := U) (U := U.calling g mk a) (Vm.Alike.refl U.vm) qK, qD⟩, hrv, fun U hU hW => ⟨rfl, by rw [hU], by rw [hU]; exact hPc, va_K.moved hW.alike hKc, hDc.weaken (fun _ _ _ _ => trivial)⟩⟩ rfl rfl hl.1 rfl (lv_room (Nat.le_of_ble_eq_true rfl)) dX11_change_19 ⟨Nat.le_of_ble_eq_true rfl, Nat.le_of_ble_eq_true rfl⟩) hS (fun q _ h => hFc q h) hFc (fun r_7 u t H1 locs ht hvm hw hB hz1 hk1 hS => ?_)
  obtain ⟨hP1, hK1, hD1⟩ := hB
  rw [ht] at hP1
  obtain ⟨hP, hD⟩ := cl_put (w1 := (wd_c_X6_part h2 h2_0 h2_f1 h2_0 h2_0k h2_0c)) (nw := (wd_c_X11_change_1 h2 h2_0 h2_f1 h2_0 h2_0k h2_0c h1 h1_f0 h1_f1 h1_f2 h1_f3 h1_4 h1_5 h1_6 h1_7 h1_8 h1_9 h1_10 h1_11 h1_12 h1_10 h1_10k h1_10c h1_9 h1_9k h1_9c)) hP hD [0, 1] [5, 6, 2, 3, 4] 5 rfl hqc (by decide +kernel) rfl hk1 hFc hP1 hD1
  generalize H1 = H at hP hS ⊢
  as_aux_lemma =>
  rcases hw with ⟨h_8, h_9⟩
  obtain rfl : y0 = r_7 := (h_9.trans pv_0.symm).symm
  by_cases c_10 : y0 = 1
  · have hsw : y0.toInt = 1 := by rw [c_10]; rfl
    refine lv_tableIn (off := 51) (tgt := 73) hx hb dX11_change_22 (by rw [hsw]; decide) (by rw [hsw]; decide) (by rw [hsw]; decide) (by decide +kernel) ?_
    have g_11 : RG y0 1 1 := RG_k _ _ hsw
    refine lv_aload_n hx hb dX11_change_73 rfl (lv_at hl 3 rfl) ?_
    refine lv_iload hx hb dX11_change_74 (lv_at hl 1 rfl) ?_
    refine lv_iload hx hb dX11_change_76 (lv_at hl 0 rfl) ?_
    obtain ⟨hPc, hDc, hFc, hqc⟩ := cl_cut (wc := (wd_c_X7_singTo h1 h1_f0 h1_f1 h1_f2 h1_f3 h1_4 h1_5 h1_6 h1_7 h1_8 h1_9 h1_10 h1_11 h1_12 h1_10 h1_10k h1_10c h1_9 h1_9k h1_9c)) hP hD hS hA [2, 3, 4] (by decide +kernel) rfl
    have hKc := hK.sub (tys' := [(h1_10k, .int), (h1_9k, .int)]) [1, 2] rfl
    have hrv := va_recv hKc hPc (ci := 7) (q0 := 0) rfl rfl
    refine va_callv (va_runV (As := [.int y1, .int y2]) (rest := []) ⟨hx, hb, hml, hown, hts⟩ (c_X7_singTo l dC dI H.size h1 y1 y2 h1_f0 h1_f1 h1_f2 h1_f3 h1_4 h1_5 h1_6 h1_7 h1_8 h1_9 h1_10 h1_11 h1_12 h1_10k h1_10c h1_9k h1_9c g_y1 g_y2) (cwV 2 hts gf_c_X11_change_1_c_X7_singTo rfl rfl rfl mdV_X7_singTo ⟨Nat.le_of_ble_eq_true rfl, Nat.le_of_ble_eq_true rfl⟩) ⟨fun a U g mk q => by obtain ⟨q0, q1, qP, qK, qD⟩ := q; exact ⟨q0, q1, qP, va_K.moved (u := U) (U := U.calling g mk a) (Vm.Alike.refl U.vm) qK, qD⟩, hrv, fun U hU hW => ⟨rfl, by rw [hU], by rw [hU]; exact hPc, va_K.moved hW.alike hKc, hDc.weaken (fun _ _ _ _ => trivial)⟩⟩ rfl rfl hl.1 rfl (lv_room (Nat.le_of_ble_eq_true rfl)) dX11_change_78 ⟨Nat.le_of_ble_eq_true rfl, Nat.le_of_ble_eq_true rfl⟩) hS (fun q _ h => hFc q h) hFc (fun u t H1 locs ht hvm hw hB hz1 hk1 hS => ?_)
    obtain ⟨w_13, w_14⟩ := u
    obtain ⟨hP1, hK1, hD1⟩ := hB
    rw [ht] at hP1
    obtain ⟨hP, hD⟩ := cl_put (w1 := (wd_c_X7_singTo h1 h1_f0 h1_f1 h1_f2 h1_f3 h1_4 h1_5 h1_6 h1_7 h1_8 h1_9 h1_10 h1_11 h1_12 h1_10 h1_10k w_13 h1_9 h1_9k w_14)) (nw := (wd_c_X11_change_1 h2 h2_0 h2_f1 h2_0 h2_0k h2_0c h1 h1_f0 h1_f1 h1_f2 h1_f3 h1_4 h1_5 h1_6 h1_7 h1_8 h1_9 h1_10 h1_11 h1_12 h1_10 h1_10k w_13 h1_9 h1_9k w_14)) hP hD [2, 3, 4] [0, 1, 5, 6, 7] 5 rfl hqc (by decide +kernel) rfl hk1 hFc hP1 hD1
    generalize H1 = H at hP hS ⊢
    as_aux_lemma =>
    have h_15 := hw
    refine lv_goto (tgt := 98) hx hb dX11_change_81 rfl ?_
    have hK9 := hK.sub (tys' := []) [] rfl
    exact W.vret hx hb hr (fun t ht hW => ⟨⟨(w_13, w_14), rfl, trivial, by rw [ht]; exact hP, va_K.moved hW.alike hK9, hD⟩, hS.F ht⟩) hS.2.2 dX11_change_98
  exfalso
  have zc_10 := lv_neT c_10 (a := 1) (by decide +kernel)
  have zg1 := (g_y0).1
  have zg2 := (g_y0).2
  omega
noncomputable def wd_c_X11_change_2 (a0 : Nat) (a1 : Nat) (a2 : Int32) (a3 : Nat) (a4 : ClassId) (a5 : Nat → Int32) (a6 : Nat) (a7 : Int32) (a8 : Int32) (a9 : Int32) (a10 : Int32) (a11 : Nat) (a12 : Nat) (a13 : Nat) (a14 : Nat) (a15 : Nat) (a16 : Nat) (a17 : Nat) (a18 : Nat) (a19 : Nat) (a20 : Nat) (a21 : ClassId) (a22 : Nat → Int32) : va_W := [(a0, .inr (6, [.ref a1, .int a2])), (a3, .inl (a4, 64, .inl a5)), (a6, .inr (7, [.int a7, .int a8, .int a9, .int a10, .ref a11, .ref a12, .ref a13, .ref a14, .ref a15, .ref a16, .ref a17, .ref a18, .ref a19])), (a20, .inl (a21, 8, .inl a22))]
noncomputable def wf_c_X11_change_2 : List Cond := List.cons (.code yX11_change cX11_change 6 none) (@HAppend.hAppend (List Cond) (List Cond) (List Cond) _ (@HAppend.hAppend (List Cond) (List Cond) (List Cond) _ [.methodLink RX11 299 yX6_part, .instanceMethod yX6_part, .selects RX6 yX6_part yX6_part, .initialized RX6, .code yX6_part cX6_part 3 (some .int), .fieldLink RX6 11 "BuoyVote$Plan" "cells" "[I", .fieldLink RX11 181 "BuoyVote$Sea" "barnacles" "[I"] wsX60) wsX70)
theorem iw_c_X11_change_2_X6 : ∀ w ∈ wsX60, w ∈ wf_c_X11_change_2 := fun w h => List.mem_cons_of_mem _ (List.mem_append_left _ (List.mem_append_right _ h))
theorem iw_c_X11_change_2_X7 : ∀ w ∈ wsX70, w ∈ wf_c_X11_change_2 := fun w h => List.mem_cons_of_mem _ (List.mem_append_right _ h)
set_option maxRecDepth 20000 in
theorem gf_c_X11_change_2_c_X6_part : GoodIn wf_c_X11_change_2 (wsV RX11 299 RX6 yX6_part wf_c_X6_part) := goodIn_app (gi_l [1, 2, 3, 4] rfl rfl) (gi_cons (j := 5) rfl rfl (goodIn_app (gi_l [6] rfl rfl) (goodIn_sub iw_c_X11_change_2_X6 gw_X6)))
set_option maxHeartbeats 4000000 in
set_option maxRecDepth 100000 in
theorem c_X11_change_2 (l : Launch) (dC : Nat → ClassId) (dI : Nat → Nat → Nat) (sz : Nat) (h0 : Nat) (h1 : Nat) (h2 : Nat) (p3 : Int32) (h2_0 : Nat) (h2_f1 : Int32) (h2_0k : ClassId) (h2_0c : Nat → Int32) (h1_f0 : Int32) (h1_f1 : Int32) (h1_f2 : Int32) (h1_f3 : Int32) (h1_4 : Nat) (h1_5 : Nat) (h1_6 : Nat) (h1_7 : Nat) (h1_8 : Nat) (h1_9 : Nat) (h1_10 : Nat) (h1_11 : Nat) (h1_12 : Nat) (h1_12k : ClassId) (h1_12c : Nat → Int32) (y0 : Int32) (y1 : Int32) (y2 : Int32) (y3 : Int32) (g_p3 : RG p3 0 15) (g_h2_f1 : RG h2_f1 0 16) (a_h2_0c : AI h2_0c (-1) 9) (pv_0 : y0 = h2_0c (p3 * 4 + 0).toNatClampNeg) (g_y0 : RG y0 2 2) (pv_1 : y1 = h2_0c (p3 * 4 + 1).toNatClampNeg) (g_y1 : RG y1 0 2) (pv_2 : y2 = h2_0c (p3 * 4 + 2).toNatClampNeg) (g_y2 : RG y2 0 7) (pv_3 : y3 = h2_0c (p3 * 4 + 3).toNatClampNeg) (g_y3 : RG y3 (-1) 9) : Met l yX11_change wf_c_X11_change_2 ({ frames := 1, cells := 0, slots := 0, locals := 22 }) (va_Pc [.ref h0, .ref h1, .ref h2, .int p3] (fun U => U.heap.size = sz ∧ va_P (dC, dI) vwCl (wd_c_X11_change_2 h2 h2_0 h2_f1 h2_0 h2_0k h2_0c h1 h1_f0 h1_f1 h1_f2 h1_f3 h1_4 h1_5 h1_6 h1_7 h1_8 h1_9 h1_10 h1_11 h1_12 h1_12 h1_12k h1_12c) U.heap ∧ va_K (dC, dI) vwCl [(h2_0k, .int), (h1_12k, .int)] U ∧ va_D (fun _ => True) (wd_c_X11_change_2 h2 h2_0 h2_f1 h2_0 h2_0k h2_0c h1 h1_f0 h1_f1 h1_f2 h1_f3 h1_4 h1_5 h1_6 h1_7 h1_8 h1_9 h1_10 h1_11 h1_12 h1_12 h1_12k h1_12c))) (va_Qv (fun (u : (Nat → Int32)) => (True)) (fun (u : (Nat → Int32)) t => va_P (dC, dI) vwCl (wd_c_X11_change_2 h2 h2_0 h2_f1 h2_0 h2_0k h2_0c h1 h1_f0 h1_f1 h1_f2 h1_f3 h1_4 h1_5 h1_6 h1_7 h1_8 h1_9 h1_10 h1_11 h1_12 h1_12 h1_12k (u)) t.heap ∧ va_K (dC, dI) vwCl [] t ∧ va_D (va_A (wd_c_X11_change_2 h2 h2_0 h2_f1 h2_0 h2_0k h2_0c h1 h1_f0 h1_f1 h1_f2 h1_f3 h1_4 h1_5 h1_6 h1_7 h1_8 h1_9 h1_10 h1_11 h1_12 h1_12 h1_12k h1_12c) sz) (wd_c_X11_change_2 h2 h2_0 h2_f1 h2_0 h2_0k h2_0c h1 h1_f0 h1_f1 h1_f2 h1_f3 h1_4 h1_5 h1_6 h1_7 h1_8 h1_9 h1_10 h1_11 h1_12 h1_12 h1_12k (u))) (va_A (wd_c_X11_change_2 h2 h2_0 h2_f1 h2_0 h2_0k h2_0c h1 h1_f0 h1_f1 h1_f2 h1_f3 h1_4 h1_5 h1_6 h1_7 h1_8 h1_9 h1_10 h1_11 h1_12 h1_12 h1_12k h1_12c) sz)) 0 0 (va_A (wd_c_X11_change_2 h2 h2_0 h2_f1 h2_0 h2_0k h2_0c h1 h1_f0 h1_f1 h1_f2 h1_f3 h1_4 h1_5 h1_6 h1_7 h1_8 h1_9 h1_10 h1_11 h1_12 h1_12 h1_12k h1_12c) sz) := by
  refine Met.ofW (cc := cX11_change) (maxL := 6) (ret := none) (by decide +kernel) rfl ?_
  intro p e s m args below meth c s₁ B hml hv
  obtain ⟨rfl, hsz, hP, hK, hD0⟩ := hv
  have hx := B.exec
  have hb := B.bytes
  have hr := B.returns
  have hts := atoms_spec (ws := wf_c_X11_change_2) B.pre
  have hown : s.vm.findClass RX11 = some m.cls := findClass_of_methodNamed B.named
  have hlocks := B.notSynchronized
  subst hsz
  have hD := hD0.self (sz := s.heap.size)
  generalize hAe : va_A (wd_c_X11_change_2 h2 h2_0 h2_f1 h2_0 h2_0k h2_0c h1 h1_f0 h1_f1 h1_f2 h1_f3 h1_4 h1_5 h1_6 h1_7 h1_8 h1_9 h1_10 h1_11 h1_12 h1_12 h1_12k h1_12c) s.heap.size = A at hD ⊢
  have hA : ∀ q : Nat, s.heap.size ≤ q → A q := fun q h => by rw [← hAe]; exact Or.inr h
  have hP : va_P (dC, dI) vwCl (wd_c_X11_change_2 h2 h2_0 h2_f1 h2_0 h2_0k h2_0c h1 h1_f0 h1_f1 h1_f2 h1_f3 h1_4 h1_5 h1_6 h1_7 h1_8 h1_9 h1_10 h1_11 h1_12 h1_12 h1_12k h1_12c) s.heap := hP
  have hl := lv_entry ([.ref h0, .ref h1, .ref h2, .int p3]) (n := 6) (Nat.le_of_ble_eq_true rfl)
  rw [lg_entry_eq]
  generalize (lg_sl ([.ref h0, .ref h1, .ref h2, .int p3]) ++ List.replicate (6 - (lg_sl ([.ref h0, .ref h1, .ref h2, .int p3])).length) Slot.unset).toArray = ls at hl ⊢
  have hl : lv_has ls 6 [(0, .ref h0), (1, .ref h1), (2, .ref h2), (3, .int p3)] := hl
  obtain ⟨H, hHe⟩ : ∃ H : Heap, s.heap = H := ⟨_, rfl⟩
  have hS : va_S A s.heap H [] := by rw [hHe]; exact va_S.rf
  have hP : va_P (dC, dI) vwCl (wd_c_X11_change_2 h2 h2_0 h2_f1 h2_0 h2_0k h2_0c h1 h1_f0 h1_f1 h1_f2 h1_f3 h1_4 h1_5 h1_6 h1_7 h1_8 h1_9 h1_10 h1_11 h1_12 h1_12 h1_12k h1_12c) H := by rw [← hHe]; exact hP
  rw [hHe]
  refine lv_aload_n hx hb dX11_change_0 rfl (lv_at hl 2 rfl) ?_
  as_aux_lemma =>
  refine lv_iload_n hx hb dX11_change_1 rfl (lv_at hl 3 rfl) ?_
  refine lv_iconst (v := 1) hx hb dX11_change_2 kc_iconst_1 ?_
  obtain ⟨hPc, hDc, hFc, hqc⟩ := cl_cut (wc := (wd_c_X6_part h2 h2_0 h2_f1 h2_0 h2_0k h2_0c)) hP hD hS hA [0, 1] (by decide +kernel) rfl
  have hKc := hK.sub (tys' := [(h2_0k, .int)]) [0] rfl
  have hrv := va_recv hKc hPc (ci := 6) (q0 := 0) rfl rfl
  refine va_calli (va_runV (As := [.int p3, .int 1]) (rest := []) ⟨hx, hb, hml, hown, hts⟩ (c_X6_part l dC dI H.size h2 p3 1 h2_0 h2_f1 h2_0k h2_0c g_p3 (RG_w (RG_k 1 1 rfl) (by decide +kernel)) g_h2_f1 a_h2_0c) (cwV 2 hts gf_c_X11_change_2_c_X6_part rfl rfl rfl mdV_X6_part ⟨Nat.le_of_ble_eq_true rfl, Nat.le_of_ble_eq_true rfl⟩) ⟨fun a U g mk q => by obtain ⟨q0, q1, qP, qK, qD⟩ := q; exact ⟨q0, q1, qP, va_K.moved (u := U) (U := U.calling g mk a) (Vm.Alike.refl U.vm) qK, qD⟩, hrv, fun U hU hW => ⟨rfl, by rw [hU], by rw [hU]; exact hPc, va_K.moved hW.alike hKc, hDc.weaken (fun _ _ _ _ => trivial)⟩⟩ rfl rfl hl.1 rfl (lv_room (Nat.le_of_ble_eq_true rfl)) dX11_change_3 ⟨Nat.le_of_ble_eq_true rfl, Nat.le_of_ble_eq_true rfl⟩) hS (fun q _ h => hFc q h) hFc (fun r_1 u t H1 locs ht hvm hw hB hz1 hk1 hS => ?_)
  obtain ⟨hP1, hK1, hD1⟩ := hB
  rw [ht] at hP1
  obtain ⟨hP, hD⟩ := cl_put (w1 := (wd_c_X6_part h2 h2_0 h2_f1 h2_0 h2_0k h2_0c)) (nw := (wd_c_X11_change_2 h2 h2_0 h2_f1 h2_0 h2_0k h2_0c h1 h1_f0 h1_f1 h1_f2 h1_f3 h1_4 h1_5 h1_6 h1_7 h1_8 h1_9 h1_10 h1_11 h1_12 h1_12 h1_12k h1_12c)) hP hD [0, 1] [4, 5, 2, 3] 4 rfl hqc (by decide +kernel) rfl hk1 hFc hP1 hD1
  generalize H1 = H at hP hS ⊢
  as_aux_lemma =>
  rcases hw with ⟨h_2, h_3⟩
  obtain rfl : y1 = r_1 := (h_3.trans pv_1.symm).symm
  refine lv_istore (lv' := [(4, .int y1), (0, .ref h0), (1, .ref h1), (2, .ref h2), (3, .int p3)]) hx hb dX11_change_6 hl (Nat.le_of_ble_eq_true rfl) rfl (fun ls hl => ?_)
  refine lv_aload_n hx hb dX11_change_8 rfl (lv_at hl 3 rfl) ?_
  refine lv_iload_n hx hb dX11_change_9 rfl (lv_at hl 4 rfl) ?_
  refine lv_iconst (v := 2) hx hb dX11_change_10 kc_iconst_2 ?_
  obtain ⟨hPc, hDc, hFc, hqc⟩ := cl_cut (wc := (wd_c_X6_part h2 h2_0 h2_f1 h2_0 h2_0k h2_0c)) hP hD hS hA [0, 1] (by decide +kernel) rfl
  have hKc := hK.sub (tys' := [(h2_0k, .int)]) [0] rfl
  have hrv := va_recv hKc hPc (ci := 6) (q0 := 0) rfl rfl
  refine va_calli (va_runV (As := [.int p3, .int 2]) (rest := []) ⟨hx, hb, hml, hown, hts⟩ (c_X6_part l dC dI H.size h2 p3 2 h2_0 h2_f1 h2_0k h2_0c g_p3 (RG_w (RG_k 2 2 rfl) (by decide +kernel)) g_h2_f1 a_h2_0c) (cwV 2 hts gf_c_X11_change_2_c_X6_part rfl rfl rfl mdV_X6_part ⟨Nat.le_of_ble_eq_true rfl, Nat.le_of_ble_eq_true rfl⟩) ⟨fun a U g mk q => by obtain ⟨q0, q1, qP, qK, qD⟩ := q; exact ⟨q0, q1, qP, va_K.moved (u := U) (U := U.calling g mk a) (Vm.Alike.refl U.vm) qK, qD⟩, hrv, fun U hU hW => ⟨rfl, by rw [hU], by rw [hU]; exact hPc, va_K.moved hW.alike hKc, hDc.weaken (fun _ _ _ _ => trivial)⟩⟩ rfl rfl hl.1 rfl (lv_room (Nat.le_of_ble_eq_true rfl)) dX11_change_11 ⟨Nat.le_of_ble_eq_true rfl, Nat.le_of_ble_eq_true rfl⟩) hS (fun q _ h => hFc q h) hFc (fun r_4 u t H1 locs ht hvm hw hB hz1 hk1 hS => ?_)
  obtain ⟨hP1, hK1, hD1⟩ := hB
  rw [ht] at hP1
  obtain ⟨hP, hD⟩ := cl_put (w1 := (wd_c_X6_part h2 h2_0 h2_f1 h2_0 h2_0k h2_0c)) (nw := (wd_c_X11_change_2 h2 h2_0 h2_f1 h2_0 h2_0k h2_0c h1 h1_f0 h1_f1 h1_f2 h1_f3 h1_4 h1_5 h1_6 h1_7 h1_8 h1_9 h1_10 h1_11 h1_12 h1_12 h1_12k h1_12c)) hP hD [0, 1] [4, 5, 2, 3] 4 rfl hqc (by decide +kernel) rfl hk1 hFc hP1 hD1
  generalize H1 = H at hP hS ⊢
  as_aux_lemma =>
  rcases hw with ⟨h_5, h_6⟩
  obtain rfl : y2 = r_4 := (h_6.trans pv_2.symm).symm
  refine lv_istore (lv' := [(5, .int y2), (4, .int y1), (0, .ref h0), (1, .ref h1), (2, .ref h2), (3, .int p3)]) hx hb dX11_change_14 hl (Nat.le_of_ble_eq_true rfl) rfl (fun ls hl => ?_)
  refine lv_aload_n hx hb dX11_change_16 rfl (lv_at hl 4 rfl) ?_
  refine lv_iload_n hx hb dX11_change_17 rfl (lv_at hl 5 rfl) ?_
  refine lv_iconst (v := 0) hx hb dX11_change_18 kc_iconst_0 ?_
  obtain ⟨hPc, hDc, hFc, hqc⟩ := cl_cut (wc := (wd_c_X6_part h2 h2_0 h2_f1 h2_0 h2_0k h2_0c)) hP hD hS hA [0, 1] (by decide +kernel) rfl
  have hKc := hK.sub (tys' := [(h2_0k, .int)]) [0] rfl
  have hrv := va_recv hKc hPc (ci := 6) (q0 := 0) rfl rfl
  refine va_calli (va_runV (As := [.int p3, .int 0]) (rest := []) ⟨hx, hb, hml, hown, hts⟩ (c_X6_part l dC dI H.size h2 p3 0 h2_0 h2_f1 h2_0k h2_0c g_p3 (RG_w (RG_k 0 0 rfl) (by decide +kernel)) g_h2_f1 a_h2_0c) (cwV 2 hts gf_c_X11_change_2_c_X6_part rfl rfl rfl mdV_X6_part ⟨Nat.le_of_ble_eq_true rfl, Nat.le_of_ble_eq_true rfl⟩) ⟨fun a U g mk q => by obtain ⟨q0, q1, qP, qK, qD⟩ := q; exact ⟨q0, q1, qP, va_K.moved (u := U) (U := U.calling g mk a) (Vm.Alike.refl U.vm) qK, qD⟩, hrv, fun U hU hW => ⟨rfl, by rw [hU], by rw [hU]; exact hPc, va_K.moved hW.alike hKc, hDc.weaken (fun _ _ _ _ => trivial)⟩⟩ rfl rfl hl.1 rfl (lv_room (Nat.le_of_ble_eq_true rfl)) dX11_change_19 ⟨Nat.le_of_ble_eq_true rfl, Nat.le_of_ble_eq_true rfl⟩) hS (fun q _ h => hFc q h) hFc (fun r_7 u t H1 locs ht hvm hw hB hz1 hk1 hS => ?_)
  obtain ⟨hP1, hK1, hD1⟩ := hB
  rw [ht] at hP1
  obtain ⟨hP, hD⟩ := cl_put (w1 := (wd_c_X6_part h2 h2_0 h2_f1 h2_0 h2_0k h2_0c)) (nw := (wd_c_X11_change_2 h2 h2_0 h2_f1 h2_0 h2_0k h2_0c h1 h1_f0 h1_f1 h1_f2 h1_f3 h1_4 h1_5 h1_6 h1_7 h1_8 h1_9 h1_10 h1_11 h1_12 h1_12 h1_12k h1_12c)) hP hD [0, 1] [4, 5, 2, 3] 4 rfl hqc (by decide +kernel) rfl hk1 hFc hP1 hD1
  generalize H1 = H at hP hS ⊢
  as_aux_lemma =>
  rcases hw with ⟨h_8, h_9⟩
  obtain rfl : y0 = r_7 := (h_9.trans pv_0.symm).symm
  by_cases c_10 : y0 = 2
  · have hsw : y0.toInt = 2 := by rw [c_10]; rfl
    refine lv_tableIn (off := 62) (tgt := 84) hx hb dX11_change_22 (by rw [hsw]; decide) (by rw [hsw]; decide) (by rw [hsw]; decide) (by decide +kernel) ?_
    have g_11 : RG y0 2 2 := RG_k _ _ hsw
    refine lv_aload_n hx hb dX11_change_84 rfl (lv_at hl 3 rfl) ?_
    refine va_get (D := (dC, dI)) (ci := 7) (v := .ref h1_12) (C := RX7) (T := TX7) (N := 13) hx hb hts iw_c_X11_change_2_X7 hown hK hP 2 rfl rfl 12 (by decide +kernel) (hts (.fieldLink RX11 181 "BuoyVote$Sea" "barnacles" "[I") (List.mem_of_getElem? (i := 7) rfl)) (fun _ h9 => h9) rfl dX11_change_85 ?_
    refine lv_iload hx hb dX11_change_88 (lv_at hl 0 rfl) ?_
    refine lv_dup2_11 hx hb dX11_change_90 rfl rfl ?_
    refine va_iald hx hb hK hP 3 1 rfl rfl (RG_in g_y2 (by decide +kernel)) dX11_change_91 ?_
    refine lv_topi (fun x_12 ex_12 => ?_)
    refine lv_iconst (v := 1) hx hb dX11_change_92 kc_iconst_1 ?_
    refine lv_isub hx hb dX11_change_93 ?_
    as_aux_lemma =>
    refine lv_topi (fun x_13 ex_13 => ?_)
    refine va_iast hx hb hK hP hD hS 3 1 rfl rfl (RG_in g_y2 (by decide +kernel)) dX11_change_94 (fun H locs hP hD hS => ?_)
    have hP : va_P (dC, dI) vwCl (wd_c_X11_change_2 h2 h2_0 h2_f1 h2_0 h2_0k h2_0c h1 h1_f0 h1_f1 h1_f2 h1_f3 h1_4 h1_5 h1_6 h1_7 h1_8 h1_9 h1_10 h1_11 h1_12 h1_12 h1_12k (upd h1_12c (y2 : Int32).toNatClampNeg x_13)) H := hP
    have hD : va_D A (wd_c_X11_change_2 h2 h2_0 h2_f1 h2_0 h2_0k h2_0c h1 h1_f0 h1_f1 h1_f2 h1_f3 h1_4 h1_5 h1_6 h1_7 h1_8 h1_9 h1_10 h1_11 h1_12 h1_12 h1_12k (upd h1_12c (y2 : Int32).toNatClampNeg x_13)) := hD
    have l_15 : (upd h1_12c (y2 : Int32).toNatClampNeg x_13) (y2 : Int32).toNatClampNeg = x_13 := pk_us
    generalize (upd h1_12c (y2 : Int32).toNatClampNeg x_13) = w_14 at hP hD l_15
    have hP : va_P (dC, dI) vwCl (wd_c_X11_change_2 h2 h2_0 h2_f1 h2_0 h2_0k h2_0c h1 h1_f0 h1_f1 h1_f2 h1_f3 h1_4 h1_5 h1_6 h1_7 h1_8 h1_9 h1_10 h1_11 h1_12 h1_12 h1_12k w_14) H := hP
    have hD : va_D A (wd_c_X11_change_2 h2 h2_0 h2_f1 h2_0 h2_0k h2_0c h1 h1_f0 h1_f1 h1_f2 h1_f3 h1_4 h1_5 h1_6 h1_7 h1_8 h1_9 h1_10 h1_11 h1_12 h1_12 h1_12k w_14) := hD
    refine lv_goto (tgt := 98) hx hb dX11_change_95 rfl ?_
    have hK9 := hK.sub (tys' := []) [] rfl
    exact W.vret hx hb hr (fun t ht hW => ⟨⟨w_14, rfl, trivial, by rw [ht]; exact hP, va_K.moved hW.alike hK9, hD⟩, hS.F ht⟩) hS.2.2 dX11_change_98
  exfalso
  have zc_10 := lv_neT c_10 (a := 2) (by decide +kernel)
  have zg1 := (g_y0).1
  have zg2 := (g_y0).2
  omega
noncomputable def wd_c_X11_change_3 (a0 : Nat) (a1 : Nat) (a2 : Int32) (a3 : Nat) (a4 : ClassId) (a5 : Nat → Int32) : va_W := [(a0, .inr (6, [.ref a1, .int a2])), (a3, .inl (a4, 64, .inl a5))]
noncomputable def wf_c_X11_change_3 : List Cond := List.cons (.code yX11_change cX11_change 6 none) (@HAppend.hAppend (List Cond) (List Cond) (List Cond) _ [.methodLink RX11 299 yX6_part, .instanceMethod yX6_part, .selects RX6 yX6_part yX6_part, .initialized RX6, .code yX6_part cX6_part 3 (some .int), .fieldLink RX6 11 "BuoyVote$Plan" "cells" "[I"] wsX60)
theorem iw_c_X11_change_3_X6 : ∀ w ∈ wsX60, w ∈ wf_c_X11_change_3 := fun w h => List.mem_cons_of_mem _ (List.mem_append_right _ h)
set_option maxRecDepth 20000 in
theorem gf_c_X11_change_3_c_X6_part : GoodIn wf_c_X11_change_3 (wsV RX11 299 RX6 yX6_part wf_c_X6_part) := goodIn_app (gi_l [1, 2, 3, 4] rfl rfl) (gi_cons (j := 5) rfl rfl (goodIn_app (gi_l [6] rfl rfl) (goodIn_sub iw_c_X11_change_3_X6 gw_X6)))
set_option maxHeartbeats 4000000 in
set_option maxRecDepth 100000 in
theorem c_X11_change_3 (l : Launch) (dC : Nat → ClassId) (dI : Nat → Nat → Nat) (sz : Nat) (h0 : Nat) (h1 : Nat) (h2 : Nat) (p3 : Int32) (h2_0 : Nat) (h2_f1 : Int32) (h2_0k : ClassId) (h2_0c : Nat → Int32) (y0 : Int32) (y1 : Int32) (y2 : Int32) (y3 : Int32) (g_p3 : RG p3 0 15) (g_h2_f1 : RG h2_f1 0 16) (a_h2_0c : AI h2_0c (-1) 9) (pv_0 : y0 = h2_0c (p3 * 4 + 0).toNatClampNeg) (g_y0 : RG y0 (-1) (-1)) (pv_1 : y1 = h2_0c (p3 * 4 + 1).toNatClampNeg) (g_y1 : RG y1 1 9) (pv_2 : y2 = h2_0c (p3 * 4 + 2).toNatClampNeg) (g_y2 : RG y2 (-1) 9) (pv_3 : y3 = h2_0c (p3 * 4 + 3).toNatClampNeg) (g_y3 : RG y3 (-1) 9) : Met l yX11_change wf_c_X11_change_3 ({ frames := 1, cells := 0, slots := 0, locals := 22 }) (va_Pc [.ref h0, .ref h1, .ref h2, .int p3] (fun U => U.heap.size = sz ∧ va_P (dC, dI) vwCl (wd_c_X11_change_3 h2 h2_0 h2_f1 h2_0 h2_0k h2_0c) U.heap ∧ va_K (dC, dI) vwCl [(h2_0k, .int)] U ∧ va_D (fun _ => True) (wd_c_X11_change_3 h2 h2_0 h2_f1 h2_0 h2_0k h2_0c))) (va_Qv (fun (u : Unit) => (True)) (fun (u : Unit) t => va_P (dC, dI) vwCl (wd_c_X11_change_3 h2 h2_0 h2_f1 h2_0 h2_0k h2_0c) t.heap ∧ va_K (dC, dI) vwCl [] t ∧ va_D (va_A (wd_c_X11_change_3 h2 h2_0 h2_f1 h2_0 h2_0k h2_0c) sz) (wd_c_X11_change_3 h2 h2_0 h2_f1 h2_0 h2_0k h2_0c)) (va_A (wd_c_X11_change_3 h2 h2_0 h2_f1 h2_0 h2_0k h2_0c) sz)) 0 0 (va_A (wd_c_X11_change_3 h2 h2_0 h2_f1 h2_0 h2_0k h2_0c) sz) := by
  refine Met.ofW (cc := cX11_change) (maxL := 6) (ret := none) (by decide +kernel) rfl ?_
  intro p e s m args below meth c s₁ B hml hv
  obtain ⟨rfl, hsz, hP, hK, hD0⟩ := hv
  have hx := B.exec
  have hb := B.bytes
  have hr := B.returns
  have hts := atoms_spec (ws := wf_c_X11_change_3) B.pre
  have hown : s.vm.findClass RX11 = some m.cls := findClass_of_methodNamed B.named
  have hlocks := B.notSynchronized
  subst hsz
  have hD := hD0.self (sz := s.heap.size)
  generalize hAe : va_A (wd_c_X11_change_3 h2 h2_0 h2_f1 h2_0 h2_0k h2_0c) s.heap.size = A at hD ⊢
  have hA : ∀ q : Nat, s.heap.size ≤ q → A q := fun q h => by rw [← hAe]; exact Or.inr h
  have hP : va_P (dC, dI) vwCl (wd_c_X11_change_3 h2 h2_0 h2_f1 h2_0 h2_0k h2_0c) s.heap := hP
  have hl := lv_entry ([.ref h0, .ref h1, .ref h2, .int p3]) (n := 6) (Nat.le_of_ble_eq_true rfl)
  rw [lg_entry_eq]
  generalize (lg_sl ([.ref h0, .ref h1, .ref h2, .int p3]) ++ List.replicate (6 - (lg_sl ([.ref h0, .ref h1, .ref h2, .int p3])).length) Slot.unset).toArray = ls at hl ⊢
  have hl : lv_has ls 6 [(0, .ref h0), (1, .ref h1), (2, .ref h2), (3, .int p3)] := hl
  obtain ⟨H, hHe⟩ : ∃ H : Heap, s.heap = H := ⟨_, rfl⟩
  have hS : va_S A s.heap H [] := by rw [hHe]; exact va_S.rf
  have hP : va_P (dC, dI) vwCl (wd_c_X11_change_3 h2 h2_0 h2_f1 h2_0 h2_0k h2_0c) H := by rw [← hHe]; exact hP
  rw [hHe]
  refine lv_aload_n hx hb dX11_change_0 rfl (lv_at hl 2 rfl) ?_
  as_aux_lemma =>
  refine lv_iload_n hx hb dX11_change_1 rfl (lv_at hl 3 rfl) ?_
  refine lv_iconst (v := 1) hx hb dX11_change_2 kc_iconst_1 ?_
  obtain ⟨hPc, hDc, hFc, hqc⟩ := cl_cut (wc := (wd_c_X6_part h2 h2_0 h2_f1 h2_0 h2_0k h2_0c)) hP hD hS hA [0, 1] (by decide +kernel) rfl
  have hKc := hK.sub (tys' := [(h2_0k, .int)]) [0] rfl
  have hrv := va_recv hKc hPc (ci := 6) (q0 := 0) rfl rfl
  refine va_calli (va_runV (As := [.int p3, .int 1]) (rest := []) ⟨hx, hb, hml, hown, hts⟩ (c_X6_part l dC dI H.size h2 p3 1 h2_0 h2_f1 h2_0k h2_0c g_p3 (RG_w (RG_k 1 1 rfl) (by decide +kernel)) g_h2_f1 a_h2_0c) (cwV 2 hts gf_c_X11_change_3_c_X6_part rfl rfl rfl mdV_X6_part ⟨Nat.le_of_ble_eq_true rfl, Nat.le_of_ble_eq_true rfl⟩) ⟨fun a U g mk q => by obtain ⟨q0, q1, qP, qK, qD⟩ := q; exact ⟨q0, q1, qP, va_K.moved (u := U) (U := U.calling g mk a) (Vm.Alike.refl U.vm) qK, qD⟩, hrv, fun U hU hW => ⟨rfl, by rw [hU], by rw [hU]; exact hPc, va_K.moved hW.alike hKc, hDc.weaken (fun _ _ _ _ => trivial)⟩⟩ rfl rfl hl.1 rfl (lv_room (Nat.le_of_ble_eq_true rfl)) dX11_change_3 ⟨Nat.le_of_ble_eq_true rfl, Nat.le_of_ble_eq_true rfl⟩) hS (fun q _ h => hFc q h) hFc (fun r_1 u t H1 locs ht hvm hw hB hz1 hk1 hS => ?_)
  obtain ⟨hP1, hK1, hD1⟩ := hB
  rw [ht] at hP1
  obtain ⟨hP, hD⟩ := cl_put (w1 := (wd_c_X6_part h2 h2_0 h2_f1 h2_0 h2_0k h2_0c)) (nw := (wd_c_X11_change_3 h2 h2_0 h2_f1 h2_0 h2_0k h2_0c)) hP hD [0, 1] [2, 3] 2 rfl hqc (by decide +kernel) rfl hk1 hFc hP1 hD1
  generalize H1 = H at hP hS ⊢
  as_aux_lemma =>
  rcases hw with ⟨h_2, h_3⟩
  obtain rfl : y1 = r_1 := (h_3.trans pv_1.symm).symm
  refine lv_istore (lv' := [(4, .int y1), (0, .ref h0), (1, .ref h1), (2, .ref h2), (3, .int p3)]) hx hb dX11_change_6 hl (Nat.le_of_ble_eq_true rfl) rfl (fun ls hl => ?_)
  refine lv_aload_n hx hb dX11_change_8 rfl (lv_at hl 3 rfl) ?_
  refine lv_iload_n hx hb dX11_change_9 rfl (lv_at hl 4 rfl) ?_
  refine lv_iconst (v := 2) hx hb dX11_change_10 kc_iconst_2 ?_
  obtain ⟨hPc, hDc, hFc, hqc⟩ := cl_cut (wc := (wd_c_X6_part h2 h2_0 h2_f1 h2_0 h2_0k h2_0c)) hP hD hS hA [0, 1] (by decide +kernel) rfl
  have hKc := hK.sub (tys' := [(h2_0k, .int)]) [0] rfl
  have hrv := va_recv hKc hPc (ci := 6) (q0 := 0) rfl rfl
  refine va_calli (va_runV (As := [.int p3, .int 2]) (rest := []) ⟨hx, hb, hml, hown, hts⟩ (c_X6_part l dC dI H.size h2 p3 2 h2_0 h2_f1 h2_0k h2_0c g_p3 (RG_w (RG_k 2 2 rfl) (by decide +kernel)) g_h2_f1 a_h2_0c) (cwV 2 hts gf_c_X11_change_3_c_X6_part rfl rfl rfl mdV_X6_part ⟨Nat.le_of_ble_eq_true rfl, Nat.le_of_ble_eq_true rfl⟩) ⟨fun a U g mk q => by obtain ⟨q0, q1, qP, qK, qD⟩ := q; exact ⟨q0, q1, qP, va_K.moved (u := U) (U := U.calling g mk a) (Vm.Alike.refl U.vm) qK, qD⟩, hrv, fun U hU hW => ⟨rfl, by rw [hU], by rw [hU]; exact hPc, va_K.moved hW.alike hKc, hDc.weaken (fun _ _ _ _ => trivial)⟩⟩ rfl rfl hl.1 rfl (lv_room (Nat.le_of_ble_eq_true rfl)) dX11_change_11 ⟨Nat.le_of_ble_eq_true rfl, Nat.le_of_ble_eq_true rfl⟩) hS (fun q _ h => hFc q h) hFc (fun r_4 u t H1 locs ht hvm hw hB hz1 hk1 hS => ?_)
  obtain ⟨hP1, hK1, hD1⟩ := hB
  rw [ht] at hP1
  obtain ⟨hP, hD⟩ := cl_put (w1 := (wd_c_X6_part h2 h2_0 h2_f1 h2_0 h2_0k h2_0c)) (nw := (wd_c_X11_change_3 h2 h2_0 h2_f1 h2_0 h2_0k h2_0c)) hP hD [0, 1] [2, 3] 2 rfl hqc (by decide +kernel) rfl hk1 hFc hP1 hD1
  generalize H1 = H at hP hS ⊢
  as_aux_lemma =>
  rcases hw with ⟨h_5, h_6⟩
  obtain rfl : y2 = r_4 := (h_6.trans pv_2.symm).symm
  refine lv_istore (lv' := [(5, .int y2), (4, .int y1), (0, .ref h0), (1, .ref h1), (2, .ref h2), (3, .int p3)]) hx hb dX11_change_14 hl (Nat.le_of_ble_eq_true rfl) rfl (fun ls hl => ?_)
  refine lv_aload_n hx hb dX11_change_16 rfl (lv_at hl 4 rfl) ?_
  refine lv_iload_n hx hb dX11_change_17 rfl (lv_at hl 5 rfl) ?_
  refine lv_iconst (v := 0) hx hb dX11_change_18 kc_iconst_0 ?_
  obtain ⟨hPc, hDc, hFc, hqc⟩ := cl_cut (wc := (wd_c_X6_part h2 h2_0 h2_f1 h2_0 h2_0k h2_0c)) hP hD hS hA [0, 1] (by decide +kernel) rfl
  have hKc := hK.sub (tys' := [(h2_0k, .int)]) [0] rfl
  have hrv := va_recv hKc hPc (ci := 6) (q0 := 0) rfl rfl
  refine va_calli (va_runV (As := [.int p3, .int 0]) (rest := []) ⟨hx, hb, hml, hown, hts⟩ (c_X6_part l dC dI H.size h2 p3 0 h2_0 h2_f1 h2_0k h2_0c g_p3 (RG_w (RG_k 0 0 rfl) (by decide +kernel)) g_h2_f1 a_h2_0c) (cwV 2 hts gf_c_X11_change_3_c_X6_part rfl rfl rfl mdV_X6_part ⟨Nat.le_of_ble_eq_true rfl, Nat.le_of_ble_eq_true rfl⟩) ⟨fun a U g mk q => by obtain ⟨q0, q1, qP, qK, qD⟩ := q; exact ⟨q0, q1, qP, va_K.moved (u := U) (U := U.calling g mk a) (Vm.Alike.refl U.vm) qK, qD⟩, hrv, fun U hU hW => ⟨rfl, by rw [hU], by rw [hU]; exact hPc, va_K.moved hW.alike hKc, hDc.weaken (fun _ _ _ _ => trivial)⟩⟩ rfl rfl hl.1 rfl (lv_room (Nat.le_of_ble_eq_true rfl)) dX11_change_19 ⟨Nat.le_of_ble_eq_true rfl, Nat.le_of_ble_eq_true rfl⟩) hS (fun q _ h => hFc q h) hFc (fun r_7 u t H1 locs ht hvm hw hB hz1 hk1 hS => ?_)
  obtain ⟨hP1, hK1, hD1⟩ := hB
  rw [ht] at hP1
  obtain ⟨hP, hD⟩ := cl_put (w1 := (wd_c_X6_part h2 h2_0 h2_f1 h2_0 h2_0k h2_0c)) (nw := (wd_c_X11_change_3 h2 h2_0 h2_f1 h2_0 h2_0k h2_0c)) hP hD [0, 1] [2, 3] 2 rfl hqc (by decide +kernel) rfl hk1 hFc hP1 hD1
  generalize H1 = H at hP hS ⊢
  as_aux_lemma =>
  rcases hw with ⟨h_8, h_9⟩
  obtain rfl : y0 = r_7 := (h_9.trans pv_0.symm).symm
  have hsw : y0.toInt < 0 ∨ 2 < y0.toInt := by
    have zg1 := (g_y0).1
    have zg2 := (g_y0).2
    omega
  refine lv_tableOut (tgt := 98) hx hb dX11_change_22 hsw (by decide +kernel) ?_
  have g_10 : RG y0 (-1) (-1) := ⟨(g_y0).1, by have := (g_y0).2; omega⟩
  have hK9 := hK.sub (tys' := []) [] rfl
  exact W.vret hx hb hr (fun t ht hW => ⟨⟨(), rfl, trivial, by rw [ht]; exact hP, va_K.moved hW.alike hK9, hD⟩, hS.F ht⟩) hS.2.2 dX11_change_98
noncomputable def wd_c_X11_change_4 (a0 : Nat) (a1 : Nat) (a2 : Int32) (a3 : Nat) (a4 : ClassId) (a5 : Nat → Int32) : va_W := [(a0, .inr (6, [.ref a1, .int a2])), (a3, .inl (a4, 64, .inl a5))]
noncomputable def wf_c_X11_change_4 : List Cond := List.cons (.code yX11_change cX11_change 6 none) (@HAppend.hAppend (List Cond) (List Cond) (List Cond) _ [.methodLink RX11 299 yX6_part, .instanceMethod yX6_part, .selects RX6 yX6_part yX6_part, .initialized RX6, .code yX6_part cX6_part 3 (some .int), .fieldLink RX6 11 "BuoyVote$Plan" "cells" "[I"] wsX60)
theorem iw_c_X11_change_4_X6 : ∀ w ∈ wsX60, w ∈ wf_c_X11_change_4 := fun w h => List.mem_cons_of_mem _ (List.mem_append_right _ h)
set_option maxRecDepth 20000 in
theorem gf_c_X11_change_4_c_X6_part : GoodIn wf_c_X11_change_4 (wsV RX11 299 RX6 yX6_part wf_c_X6_part) := goodIn_app (gi_l [1, 2, 3, 4] rfl rfl) (gi_cons (j := 5) rfl rfl (goodIn_app (gi_l [6] rfl rfl) (goodIn_sub iw_c_X11_change_4_X6 gw_X6)))
set_option maxHeartbeats 4000000 in
set_option maxRecDepth 100000 in
theorem c_X11_change_4 (l : Launch) (dC : Nat → ClassId) (dI : Nat → Nat → Nat) (sz : Nat) (h0 : Nat) (h1 : Nat) (h2 : Nat) (p3 : Int32) (h2_0 : Nat) (h2_f1 : Int32) (h2_0k : ClassId) (h2_0c : Nat → Int32) (y0 : Int32) (y1 : Int32) (y2 : Int32) (y3 : Int32) (g_p3 : RG p3 0 15) (g_h2_f1 : RG h2_f1 0 16) (a_h2_0c : AI h2_0c (-1) 9) (pv_0 : y0 = h2_0c (p3 * 4 + 0).toNatClampNeg) (g_y0 : RG y0 4 9) (pv_1 : y1 = h2_0c (p3 * 4 + 1).toNatClampNeg) (g_y1 : RG y1 1 9) (pv_2 : y2 = h2_0c (p3 * 4 + 2).toNatClampNeg) (g_y2 : RG y2 (-1) 9) (pv_3 : y3 = h2_0c (p3 * 4 + 3).toNatClampNeg) (g_y3 : RG y3 (-1) 9) : Met l yX11_change wf_c_X11_change_4 ({ frames := 1, cells := 0, slots := 0, locals := 22 }) (va_Pc [.ref h0, .ref h1, .ref h2, .int p3] (fun U => U.heap.size = sz ∧ va_P (dC, dI) vwCl (wd_c_X11_change_4 h2 h2_0 h2_f1 h2_0 h2_0k h2_0c) U.heap ∧ va_K (dC, dI) vwCl [(h2_0k, .int)] U ∧ va_D (fun _ => True) (wd_c_X11_change_4 h2 h2_0 h2_f1 h2_0 h2_0k h2_0c))) (va_Qv (fun (u : Unit) => (True)) (fun (u : Unit) t => va_P (dC, dI) vwCl (wd_c_X11_change_4 h2 h2_0 h2_f1 h2_0 h2_0k h2_0c) t.heap ∧ va_K (dC, dI) vwCl [] t ∧ va_D (va_A (wd_c_X11_change_4 h2 h2_0 h2_f1 h2_0 h2_0k h2_0c) sz) (wd_c_X11_change_4 h2 h2_0 h2_f1 h2_0 h2_0k h2_0c)) (va_A (wd_c_X11_change_4 h2 h2_0 h2_f1 h2_0 h2_0k h2_0c) sz)) 0 0 (va_A (wd_c_X11_change_4 h2 h2_0 h2_f1 h2_0 h2_0k h2_0c) sz) := by
  refine Met.ofW (cc := cX11_change) (maxL := 6) (ret := none) (by decide +kernel) rfl ?_
  intro p e s m args below meth c s₁ B hml hv
  obtain ⟨rfl, hsz, hP, hK, hD0⟩ := hv
  have hx := B.exec
  have hb := B.bytes
  have hr := B.returns
  have hts := atoms_spec (ws := wf_c_X11_change_4) B.pre
  have hown : s.vm.findClass RX11 = some m.cls := findClass_of_methodNamed B.named
  have hlocks := B.notSynchronized
  subst hsz
  have hD := hD0.self (sz := s.heap.size)
  generalize hAe : va_A (wd_c_X11_change_4 h2 h2_0 h2_f1 h2_0 h2_0k h2_0c) s.heap.size = A at hD ⊢
  have hA : ∀ q : Nat, s.heap.size ≤ q → A q := fun q h => by rw [← hAe]; exact Or.inr h
  have hP : va_P (dC, dI) vwCl (wd_c_X11_change_4 h2 h2_0 h2_f1 h2_0 h2_0k h2_0c) s.heap := hP
  have hl := lv_entry ([.ref h0, .ref h1, .ref h2, .int p3]) (n := 6) (Nat.le_of_ble_eq_true rfl)
  rw [lg_entry_eq]
  generalize (lg_sl ([.ref h0, .ref h1, .ref h2, .int p3]) ++ List.replicate (6 - (lg_sl ([.ref h0, .ref h1, .ref h2, .int p3])).length) Slot.unset).toArray = ls at hl ⊢
  have hl : lv_has ls 6 [(0, .ref h0), (1, .ref h1), (2, .ref h2), (3, .int p3)] := hl
  obtain ⟨H, hHe⟩ : ∃ H : Heap, s.heap = H := ⟨_, rfl⟩
  have hS : va_S A s.heap H [] := by rw [hHe]; exact va_S.rf
  have hP : va_P (dC, dI) vwCl (wd_c_X11_change_4 h2 h2_0 h2_f1 h2_0 h2_0k h2_0c) H := by rw [← hHe]; exact hP
  rw [hHe]
  refine lv_aload_n hx hb dX11_change_0 rfl (lv_at hl 2 rfl) ?_
  as_aux_lemma =>
  refine lv_iload_n hx hb dX11_change_1 rfl (lv_at hl 3 rfl) ?_
  refine lv_iconst (v := 1) hx hb dX11_change_2 kc_iconst_1 ?_
  obtain ⟨hPc, hDc, hFc, hqc⟩ := cl_cut (wc := (wd_c_X6_part h2 h2_0 h2_f1 h2_0 h2_0k h2_0c)) hP hD hS hA [0, 1] (by decide +kernel) rfl
  have hKc := hK.sub (tys' := [(h2_0k, .int)]) [0] rfl
  have hrv := va_recv hKc hPc (ci := 6) (q0 := 0) rfl rfl
  refine va_calli (va_runV (As := [.int p3, .int 1]) (rest := []) ⟨hx, hb, hml, hown, hts⟩ (c_X6_part l dC dI H.size h2 p3 1 h2_0 h2_f1 h2_0k h2_0c g_p3 (RG_w (RG_k 1 1 rfl) (by decide +kernel)) g_h2_f1 a_h2_0c) (cwV 2 hts gf_c_X11_change_4_c_X6_part rfl rfl rfl mdV_X6_part ⟨Nat.le_of_ble_eq_true rfl, Nat.le_of_ble_eq_true rfl⟩) ⟨fun a U g mk q => by obtain ⟨q0, q1, qP, qK, qD⟩ := q; exact ⟨q0, q1, qP, va_K.moved (u := U) (U := U.calling g mk a) (Vm.Alike.refl U.vm) qK, qD⟩, hrv, fun U hU hW => ⟨rfl, by rw [hU], by rw [hU]; exact hPc, va_K.moved hW.alike hKc, hDc.weaken (fun _ _ _ _ => trivial)⟩⟩ rfl rfl hl.1 rfl (lv_room (Nat.le_of_ble_eq_true rfl)) dX11_change_3 ⟨Nat.le_of_ble_eq_true rfl, Nat.le_of_ble_eq_true rfl⟩) hS (fun q _ h => hFc q h) hFc (fun r_1 u t H1 locs ht hvm hw hB hz1 hk1 hS => ?_)
  obtain ⟨hP1, hK1, hD1⟩ := hB
  rw [ht] at hP1
  obtain ⟨hP, hD⟩ := cl_put (w1 := (wd_c_X6_part h2 h2_0 h2_f1 h2_0 h2_0k h2_0c)) (nw := (wd_c_X11_change_4 h2 h2_0 h2_f1 h2_0 h2_0k h2_0c)) hP hD [0, 1] [2, 3] 2 rfl hqc (by decide +kernel) rfl hk1 hFc hP1 hD1
  generalize H1 = H at hP hS ⊢
  as_aux_lemma =>
  rcases hw with ⟨h_2, h_3⟩
  obtain rfl : y1 = r_1 := (h_3.trans pv_1.symm).symm
  refine lv_istore (lv' := [(4, .int y1), (0, .ref h0), (1, .ref h1), (2, .ref h2), (3, .int p3)]) hx hb dX11_change_6 hl (Nat.le_of_ble_eq_true rfl) rfl (fun ls hl => ?_)
  refine lv_aload_n hx hb dX11_change_8 rfl (lv_at hl 3 rfl) ?_
  refine lv_iload_n hx hb dX11_change_9 rfl (lv_at hl 4 rfl) ?_
  refine lv_iconst (v := 2) hx hb dX11_change_10 kc_iconst_2 ?_
  obtain ⟨hPc, hDc, hFc, hqc⟩ := cl_cut (wc := (wd_c_X6_part h2 h2_0 h2_f1 h2_0 h2_0k h2_0c)) hP hD hS hA [0, 1] (by decide +kernel) rfl
  have hKc := hK.sub (tys' := [(h2_0k, .int)]) [0] rfl
  have hrv := va_recv hKc hPc (ci := 6) (q0 := 0) rfl rfl
  refine va_calli (va_runV (As := [.int p3, .int 2]) (rest := []) ⟨hx, hb, hml, hown, hts⟩ (c_X6_part l dC dI H.size h2 p3 2 h2_0 h2_f1 h2_0k h2_0c g_p3 (RG_w (RG_k 2 2 rfl) (by decide +kernel)) g_h2_f1 a_h2_0c) (cwV 2 hts gf_c_X11_change_4_c_X6_part rfl rfl rfl mdV_X6_part ⟨Nat.le_of_ble_eq_true rfl, Nat.le_of_ble_eq_true rfl⟩) ⟨fun a U g mk q => by obtain ⟨q0, q1, qP, qK, qD⟩ := q; exact ⟨q0, q1, qP, va_K.moved (u := U) (U := U.calling g mk a) (Vm.Alike.refl U.vm) qK, qD⟩, hrv, fun U hU hW => ⟨rfl, by rw [hU], by rw [hU]; exact hPc, va_K.moved hW.alike hKc, hDc.weaken (fun _ _ _ _ => trivial)⟩⟩ rfl rfl hl.1 rfl (lv_room (Nat.le_of_ble_eq_true rfl)) dX11_change_11 ⟨Nat.le_of_ble_eq_true rfl, Nat.le_of_ble_eq_true rfl⟩) hS (fun q _ h => hFc q h) hFc (fun r_4 u t H1 locs ht hvm hw hB hz1 hk1 hS => ?_)
  obtain ⟨hP1, hK1, hD1⟩ := hB
  rw [ht] at hP1
  obtain ⟨hP, hD⟩ := cl_put (w1 := (wd_c_X6_part h2 h2_0 h2_f1 h2_0 h2_0k h2_0c)) (nw := (wd_c_X11_change_4 h2 h2_0 h2_f1 h2_0 h2_0k h2_0c)) hP hD [0, 1] [2, 3] 2 rfl hqc (by decide +kernel) rfl hk1 hFc hP1 hD1
  generalize H1 = H at hP hS ⊢
  as_aux_lemma =>
  rcases hw with ⟨h_5, h_6⟩
  obtain rfl : y2 = r_4 := (h_6.trans pv_2.symm).symm
  refine lv_istore (lv' := [(5, .int y2), (4, .int y1), (0, .ref h0), (1, .ref h1), (2, .ref h2), (3, .int p3)]) hx hb dX11_change_14 hl (Nat.le_of_ble_eq_true rfl) rfl (fun ls hl => ?_)
  refine lv_aload_n hx hb dX11_change_16 rfl (lv_at hl 4 rfl) ?_
  refine lv_iload_n hx hb dX11_change_17 rfl (lv_at hl 5 rfl) ?_
  refine lv_iconst (v := 0) hx hb dX11_change_18 kc_iconst_0 ?_
  obtain ⟨hPc, hDc, hFc, hqc⟩ := cl_cut (wc := (wd_c_X6_part h2 h2_0 h2_f1 h2_0 h2_0k h2_0c)) hP hD hS hA [0, 1] (by decide +kernel) rfl
  have hKc := hK.sub (tys' := [(h2_0k, .int)]) [0] rfl
  have hrv := va_recv hKc hPc (ci := 6) (q0 := 0) rfl rfl
  refine va_calli (va_runV (As := [.int p3, .int 0]) (rest := []) ⟨hx, hb, hml, hown, hts⟩ (c_X6_part l dC dI H.size h2 p3 0 h2_0 h2_f1 h2_0k h2_0c g_p3 (RG_w (RG_k 0 0 rfl) (by decide +kernel)) g_h2_f1 a_h2_0c) (cwV 2 hts gf_c_X11_change_4_c_X6_part rfl rfl rfl mdV_X6_part ⟨Nat.le_of_ble_eq_true rfl, Nat.le_of_ble_eq_true rfl⟩) ⟨fun a U g mk q => by obtain ⟨q0, q1, qP, qK, qD⟩ := q; exact ⟨q0, q1, qP, va_K.moved (u := U) (U := U.calling g mk a) (Vm.Alike.refl U.vm) qK, qD⟩, hrv, fun U hU hW => ⟨rfl, by rw [hU], by rw [hU]; exact hPc, va_K.moved hW.alike hKc, hDc.weaken (fun _ _ _ _ => trivial)⟩⟩ rfl rfl hl.1 rfl (lv_room (Nat.le_of_ble_eq_true rfl)) dX11_change_19 ⟨Nat.le_of_ble_eq_true rfl, Nat.le_of_ble_eq_true rfl⟩) hS (fun q _ h => hFc q h) hFc (fun r_7 u t H1 locs ht hvm hw hB hz1 hk1 hS => ?_)
  obtain ⟨hP1, hK1, hD1⟩ := hB
  rw [ht] at hP1
  obtain ⟨hP, hD⟩ := cl_put (w1 := (wd_c_X6_part h2 h2_0 h2_f1 h2_0 h2_0k h2_0c)) (nw := (wd_c_X11_change_4 h2 h2_0 h2_f1 h2_0 h2_0k h2_0c)) hP hD [0, 1] [2, 3] 2 rfl hqc (by decide +kernel) rfl hk1 hFc hP1 hD1
  generalize H1 = H at hP hS ⊢
  as_aux_lemma =>
  rcases hw with ⟨h_8, h_9⟩
  obtain rfl : y0 = r_7 := (h_9.trans pv_0.symm).symm
  have hsw : y0.toInt < 0 ∨ 2 < y0.toInt := by
    have zg1 := (g_y0).1
    have zg2 := (g_y0).2
    omega
  refine lv_tableOut (tgt := 98) hx hb dX11_change_22 hsw (by decide +kernel) ?_
  have g_10 : RG y0 4 9 := ⟨by have := (g_y0).1; omega, (g_y0).2⟩
  have hK9 := hK.sub (tys' := []) [] rfl
  exact W.vret hx hb hr (fun t ht hW => ⟨⟨(), rfl, trivial, by rw [ht]; exact hP, va_K.moved hW.alike hK9, hD⟩, hS.F ht⟩) hS.2.2 dX11_change_98
noncomputable def wd_c_X11_passApart (a0 : Nat) (a1 : Nat) (a2 : Nat) (a3 : Nat) (a4 : Nat) (a5 : Nat) (a6 : Int32) (a7 : Nat) (a8 : Nat) (a9 : Nat) (a10 : Nat) (a11 : Nat) (a12 : Nat) (a13 : Nat) (a14 : Nat) (a15 : Nat) (a16 : Int64) (a17 : Nat) (a18 : Nat) (a19 : Nat) (a20 : Nat) (a21 : Nat) (a22 : Nat) (a23 : Nat) (a24 : Nat) (a25 : Nat) (a26 : Int32) (a27 : Int32) (a28 : Int32) (a29 : Nat) (a30 : Int32) (a31 : Int32) (a32 : Int32) (a33 : Int32) (a34 : Nat) (a35 : Nat) (a36 : Nat) (a37 : Nat) (a38 : Nat) (a39 : Nat) (a40 : Nat) (a41 : Nat) (a42 : Nat) (a43 : Nat) (a44 : ClassId) (a45 : Nat → Int32) (a46 : Nat) (a47 : ClassId) (a48 : Nat → Int32) (a49 : Nat) (a50 : ClassId) (a51 : Nat → Int32) (a52 : Nat) (a53 : ClassId) (a54 : Nat → Int32) (a55 : Nat) (a56 : ClassId) (a57 : Nat → Int32) (a58 : Nat) (a59 : ClassId) (a60 : Nat → Int32) (a61 : Nat) (a62 : ClassId) (a63 : Nat → Int32) (a64 : Nat) (a65 : ClassId) (a66 : Nat → Int32) (a67 : Nat) (a68 : ClassId) (a69 : Nat → Int32) (a70 : Nat) (a71 : Nat) (a72 : Int32) (a73 : Int32) (a74 : Nat) (a75 : Nat) (a76 : ClassId) (a77 : Nat → Int32) (a78 : Nat) (a79 : ClassId) (a80 : Nat → Option Nat) (a81 : Nat) (a82 : Nat) (a83 : Int32) (a84 : Nat) (a85 : Nat) (a86 : ClassId) (a87 : Nat → Int32) (a88 : Nat) (a89 : ClassId) (a90 : Nat → Int32) (a91 : Nat) (a92 : Nat) (a93 : Int32) (a94 : Nat) (a95 : Nat) (a96 : ClassId) (a97 : Nat → Int32) (a98 : Nat) (a99 : ClassId) (a100 : Nat → Int32) (a101 : Nat) (a102 : Nat) (a103 : Int32) (a104 : Nat) (a105 : Nat) (a106 : ClassId) (a107 : Nat → Int32) (a108 : Nat) (a109 : ClassId) (a110 : Nat → Int32) (a111 : Nat) (a112 : Nat) (a113 : Int32) (a114 : Nat) (a115 : Nat) (a116 : ClassId) (a117 : Nat → Int32) (a118 : Nat) (a119 : ClassId) (a120 : Nat → Int32) (a121 : Nat) (a122 : ClassId) (a123 : Nat → Int32) (a124 : Nat) (a125 : ClassId) (a126 : Nat → Int32) (a127 : Nat) (a128 : ClassId) (a129 : Nat → Int32) : va_W := [(a0, .inr (11, [.ref a1, .ref a2, .ref a3, .ref a4, .ref a5, .int a6, .ref a7, .ref a8, .ref a9, .ref a10, .ref a11, .ref a12, .ref a13, .ref a14, .ref a15, .long a16])), (a17, .inr (10, [.ref a18, .ref a19, .ref a20, .ref a21, .ref a22, .ref a23])), (a24, .inr (0, [.ref a25, .int a26, .int a27, .int a28])), (a29, .inr (7, [.int a30, .int a31, .int a32, .int a33, .ref a34, .ref a35, .ref a36, .ref a37, .ref a38, .ref a39, .ref a40, .ref a41, .ref a42])), (a43, .inl (a44, 3, .inl a45)), (a46, .inl (a47, 80, .inl a48)), (a49, .inl (a50, 3, .inl a51)), (a52, .inl (a53, 8, .inl a54)), (a55, .inl (a56, 24, .inl a57)), (a58, .inl (a59, 8, .inl a60)), (a61, .inl (a62, 8, .inl a63)), (a64, .inl (a65, 3, .inl a66)), (a67, .inl (a68, 3, .inl a69)), (a70, .inr (5, [.ref a71, .int a72, .int a73, .ref a74])), (a75, .inl (a76, 6, .inl a77)), (a78, .inl (a79, 5, .inr (.inr (.inr (.inr a80))))), (a81, .inr (4, [.ref a82, .int a83, .ref a84])), (a85, .inl (a86, 240, .inl a87)), (a88, .inl (a89, 64, .inl a90)), (a91, .inr (4, [.ref a92, .int a93, .ref a94])), (a95, .inl (a96, 240, .inl a97)), (a98, .inl (a99, 64, .inl a100)), (a101, .inr (4, [.ref a102, .int a103, .ref a104])), (a105, .inl (a106, 240, .inl a107)), (a108, .inl (a109, 64, .inl a110)), (a111, .inr (4, [.ref a112, .int a113, .ref a114])), (a115, .inl (a116, 240, .inl a117)), (a118, .inl (a119, 64, .inl a120)), (a121, .inl (a122, 3, .inl a123)), (a124, .inl (a125, 3, .inl a126)), (a127, .inl (a128, 3, .inl a129))]
noncomputable def wf_c_X11_passApart : List Cond := List.cons (.code yX11_passApart cX11_passApart 3 none) (@HAppend.hAppend (List Cond) (List Cond) (List Cond) _ (@HAppend.hAppend (List Cond) (List Cond) (List Cond) _ (@HAppend.hAppend (List Cond) (List Cond) (List Cond) _ (@HAppend.hAppend (List Cond) (List Cond) (List Cond) _ (@HAppend.hAppend (List Cond) (List Cond) (List Cond) _ (@HAppend.hAppend (List Cond) (List Cond) (List Cond) _ [.fieldLink RX11 45 "BuoyVote" "waters" "LBuoyVote$Waters;", .fieldLink RX11 56 "BuoyVote" "apart" "LBuoyVote$Sea;", .methodLink RX11 392 yX10_passHour, .instanceMethod yX10_passHour, .selects RX10 yX10_passHour yX10_passHour, .initialized RX10, .code yX10_passHour cX10_passHour 3 none, .fieldLink RX10 9 "BuoyVote$Waters" "told" "LBuoyVote$Borough;", .fieldLink RX10 93 "BuoyVote$Borough" "boats" "I", .fieldLink RX10 60 "BuoyVote$Sea" "hour" "I", .methodLink RX10 111 yX10_tallyUp, .instanceMethod yX10_tallyUp, .selects RX10 yX10_tallyUp yX10_tallyUp, .code yX10_tallyUp cX10_tallyUp 4 none, .fieldLink RX10 26 "BuoyVote$Waters" "tally" "[I", .fieldLink RX10 105 "BuoyVote$Borough" "buoys" "I", .fieldLink RX10 23 "BuoyVote$Waters" "leans" "[I", .methodLink RX10 99 yX0_chain, .instanceMethod yX0_chain, .selects RX0 yX0_chain yX0_chain, .initialized RX0, .code yX0_chain cX0_chain 2 (some .int), .fieldLink RX0 11 "BuoyVote$Borough" "values" "[I", .methodLink RX10 102 yX10_leanBy, .instanceMethod yX10_leanBy, .selects RX10 yX10_leanBy yX10_leanBy, .code yX10_leanBy cX10_leanBy 5 (some .int), .fieldLink RX10 19 "BuoyVote$Waters" "draws" "[I", .methodLink RX10 96 yX10_drawOf, .instanceMethod yX10_drawOf, .selects RX10 yX10_drawOf yX10_drawOf, .code yX10_drawOf cX10_drawOf 7 (some .int), .fieldLink RX10 67 "BuoyVote$Sea" "liking" "[I", .fieldLink RX10 70 "BuoyVote$Sea" "old" "[I", .fieldLink RX10 73 "BuoyVote$Sea" "barnacles" "[I", .methodLink RX10 43 yX0_buoyX, .instanceMethod yX0_buoyX, .selects RX0 yX0_buoyX yX0_buoyX, .code yX0_buoyX cX0_buoyX 2 (some .int), .methodLink RX10 50 yX0_buoyY, .instanceMethod yX0_buoyY, .selects RX0 yX0_buoyY yX0_buoyY, .code yX0_buoyY cX0_buoyY 2 (some .int), .methodLink RX10 76 yX7_awayOf, .instanceMethod yX7_awayOf, .selects RX7 yX7_awayOf yX7_awayOf, .initialized RX7, .code yX7_awayOf cX7_awayOf 4 (some .int), .fieldLink RX7 9 "BuoyVote$Sea" "x" "[I", .methodLink RX7 99 Lib.Math.abs.name, .static Lib.Math.abs.name, .initialized "java/lang/Math", .code Lib.Math.abs.name Lib.Math.abs.code 1 (some .int), .fieldLink RX7 15 "BuoyVote$Sea" "y" "[I", .fieldLink RX10 15 "BuoyVote$Waters" "laws" "LBuoyVote$LawBook;", .methodLink RX10 80 yX0_voice, .instanceMethod yX0_voice, .selects RX0 yX0_voice yX0_voice, .code yX0_voice cX0_voice 2 (some .int), .methodLink RX10 83 yX10_pushOf, .instanceMethod yX10_pushOf, .selects RX10 yX10_pushOf yX10_pushOf, .code yX10_pushOf cX10_pushOf 10 (some .int), .fieldLink RX10 38 "BuoyVote$Sea" "x" "[I", .fieldLink RX10 47 "BuoyVote$Sea" "y" "[I", .fieldLink RX10 53 "BuoyVote$Sea" "way" "I", .fieldLink RX10 57 "BuoyVote$Sea" "wind" "I", .methodLink RX10 63 yX10_isRising, .instanceMethod yX10_isRising, .selects RX10 yX10_isRising yX10_isRising, .code yX10_isRising cX10_isRising 3 (some .boolean), .methodLink RX10 32 yX0_tideHours, .instanceMethod yX0_tideHours, .selects RX0 yX0_tideHours yX0_tideHours, .code yX0_tideHours cX0_tideHours 1 (some .int), .methodLink RX10 87 yX5_drawBy, .instanceMethod yX5_drawBy, .selects RX5 yX5_drawBy yX5_drawBy, .initialized RX5, .code yX5_drawBy cX5_drawBy 8 (some .int), .fieldLink RX5 18 "BuoyVote$LawBook" "holding" "I", .fieldLink RX5 26 "BuoyVote$LawBook" "size" "I", .fieldLink RX5 22 "BuoyVote$LawBook" "letters" "[I", .fieldLink RX5 11 "BuoyVote$LawBook" "laws" "[LBuoyVote$Law;", .methodLink RX5 29 yX4_worth, .instanceMethod yX4_worth, .selects RX4 yX4_worth yX4_worth, .initialized RX4, .code yX4_worth cX4_worth 6 (some .int), .fieldLink RX4 20 "BuoyVote$Law" "length" "I", .fieldLink RX4 11 "BuoyVote$Law" "code" "[I", .fieldLink RX4 17 "BuoyVote$Law" "stack" "[I", .methodLink RX4 24 yX4_joinedAt, .instanceMethod yX4_joinedAt, .selects RX4 yX4_joinedAt yX4_joinedAt, .code yX4_joinedAt cX4_joinedAt 7 (some .int), .constantLong RX4 28 (1000000), .constantLong RX4 31 (-1000000), .constant RX4 33 (-1000000), .constant RX4 30 (1000000), .methodLink RX10 127 yX0_countHours, .instanceMethod yX0_countHours, .selects RX0 yX0_countHours yX0_countHours, .code yX0_countHours cX0_countHours 1 (some .int), .methodLink RX10 130 yX10_holdCount, .instanceMethod yX10_holdCount, .selects RX10 yX10_holdCount yX10_holdCount, .code yX10_holdCount cX10_holdCount 5 none, .methodLink RX10 133 yX10_winner, .instanceMethod yX10_winner, .selects RX10 yX10_winner yX10_winner, .code yX10_winner cX10_winner 4 (some .int), .fieldLink RX10 136 "BuoyVote$Sea" "won" "[I", .methodLink RX10 139 Lib.Math.min.name, .static Lib.Math.min.name, .code Lib.Math.min.name Lib.Math.min.code 2 (some .int), .methodLink RX10 120 yX0_speed, .instanceMethod yX0_speed, .selects RX0 yX0_speed yX0_speed, .code yX0_speed cX0_speed 2 (some .int), .methodLink RX10 123 yX7_rowOn, .instanceMethod yX7_rowOn, .selects RX7 yX7_rowOn yX7_rowOn, .code yX7_rowOn cX7_rowOn 7 none, .fieldLink RX7 18 "BuoyVote$Sea" "goalX" "[I", .methodLink RX7 94 Lib.Math.min.name, .fieldLink RX7 21 "BuoyVote$Sea" "goalY" "[I"] wsX110) wsX100) wsX00) wsX70) wsX50) wsX40)
theorem iw_c_X11_passApart_X11 : ∀ w ∈ wsX110, w ∈ wf_c_X11_passApart := fun w h => List.mem_cons_of_mem _ (List.mem_append_left _ (List.mem_append_left _ (List.mem_append_left _ (List.mem_append_left _ (List.mem_append_left _ (List.mem_append_right _ h))))))
theorem iw_c_X11_passApart_X10 : ∀ w ∈ wsX100, w ∈ wf_c_X11_passApart := fun w h => List.mem_cons_of_mem _ (List.mem_append_left _ (List.mem_append_left _ (List.mem_append_left _ (List.mem_append_left _ (List.mem_append_right _ h)))))
theorem iw_c_X11_passApart_X0 : ∀ w ∈ wsX00, w ∈ wf_c_X11_passApart := fun w h => List.mem_cons_of_mem _ (List.mem_append_left _ (List.mem_append_left _ (List.mem_append_left _ (List.mem_append_right _ h))))
theorem iw_c_X11_passApart_X7 : ∀ w ∈ wsX70, w ∈ wf_c_X11_passApart := fun w h => List.mem_cons_of_mem _ (List.mem_append_left _ (List.mem_append_left _ (List.mem_append_right _ h)))
theorem iw_c_X11_passApart_X5 : ∀ w ∈ wsX50, w ∈ wf_c_X11_passApart := fun w h => List.mem_cons_of_mem _ (List.mem_append_left _ (List.mem_append_right _ h))
theorem iw_c_X11_passApart_X4 : ∀ w ∈ wsX40, w ∈ wf_c_X11_passApart := fun w h => List.mem_cons_of_mem _ (List.mem_append_right _ h)
set_option maxRecDepth 20000 in
theorem gf_c_X11_passApart_c_X10_passHour : GoodIn wf_c_X11_passApart (wsV RX11 392 RX10 yX10_passHour wf_c_X10_passHour) := goodIn_app (gi_l [3, 4, 5, 6] rfl rfl) (gi_cons (j := 7) rfl rfl (goodIn_app (goodIn_app (goodIn_app (goodIn_app (goodIn_app (gi_l [8, 9, 10, 11, 12, 13, 6, 14, 15, 16, 17, 18, 19, 20, 21, 22, 23, 24, 25, 26, 27, 28, 29, 30, 31, 32, 33, 34, 35, 36, 37, 38, 39, 40, 41, 42, 43, 44, 45, 46, 47, 48, 49, 50, 51, 52, 53, 54, 55, 56, 57, 58, 59, 60, 61, 62, 63, 64, 65, 66, 67, 68, 69, 70, 71, 72, 73, 74, 75, 76, 77, 78, 79, 80, 81, 82, 83, 84, 85, 86, 87, 88, 89, 90, 91, 92, 93, 94, 95, 96, 97, 98, 99, 100, 101, 102, 103, 104, 105, 106, 107, 108, 109, 110, 111, 112, 113, 114, 115, 116, 117, 118, 119, 120, 121, 122, 123, 124, 125, 126, 127] rfl rfl) (goodIn_sub iw_c_X11_passApart_X10 gw_X10)) (goodIn_sub iw_c_X11_passApart_X0 gw_X0)) (goodIn_sub iw_c_X11_passApart_X7 gw_X7)) (goodIn_sub iw_c_X11_passApart_X5 gw_X5)) (goodIn_sub iw_c_X11_passApart_X4 gw_X4)))
set_option maxHeartbeats 4000000 in
set_option maxRecDepth 100000 in
theorem c_X11_passApart (l : Launch) (dC : Nat → ClassId) (dI : Nat → Nat → Nat) (sz : Nat) (h0 : Nat) (p1 : Int32) (h0_0 : Nat) (h0_1 : Nat) (h0_2 : Nat) (h0_3 : Nat) (h0_4 : Nat) (h0_f5 : Int32) (h0_6 : Nat) (h0_7 : Nat) (h0_8 : Nat) (h0_9 : Nat) (h0_10 : Nat) (h0_11 : Nat) (h0_12 : Nat) (h0_13 : Nat) (h0_14 : Nat) (h0_f15 : Int64) (h0_6_2 : Nat) (h0_6_3 : Nat) (h0_6_4 : Nat) (h0_6_5 : Nat) (h0_1_0 : Nat) (h0_1_f1 : Int32) (h0_1_f2 : Int32) (h0_1_f3 : Int32) (h0_8_f0 : Int32) (h0_8_f1 : Int32) (h0_8_f2 : Int32) (h0_8_f3 : Int32) (h0_8_4 : Nat) (h0_8_5 : Nat) (h0_8_6 : Nat) (h0_8_7 : Nat) (h0_8_8 : Nat) (h0_8_9 : Nat) (h0_8_10 : Nat) (h0_8_11 : Nat) (h0_8_12 : Nat) (h0_6_4k : ClassId) (h0_6_4c : Nat → Int32) (h0_1_0k : ClassId) (h0_1_0c : Nat → Int32) (h0_6_2k : ClassId) (h0_6_2c : Nat → Int32) (h0_6_3k : ClassId) (h0_6_3c : Nat → Int32) (h0_8_10k : ClassId) (h0_8_10c : Nat → Int32) (h0_8_11k : ClassId) (h0_8_11c : Nat → Int32) (h0_8_12k : ClassId) (h0_8_12c : Nat → Int32) (h0_8_4k : ClassId) (h0_8_4c : Nat → Int32) (h0_8_5k : ClassId) (h0_8_5c : Nat → Int32) (h0_3_0 : Nat) (h0_3_f1 : Int32) (h0_3_f2 : Int32) (h0_3_3 : Nat) (h0_3_3k : ClassId) (h0_3_3c : Nat → Int32) (h0_3_0k : ClassId) (h0_3_0c : Nat → Option Nat) (h0_3_0_e0 : Nat) (h0_3_0_e1 : Nat) (h0_3_0_e2 : Nat) (h0_3_0_e3 : Nat) (h0_3_0_e4 : Nat) (h0_3_0_e0_0 : Nat) (h0_3_0_e0_f1 : Int32) (h0_3_0_e0_2 : Nat) (h0_3_0_e0_0k : ClassId) (h0_3_0_e0_0c : Nat → Int32) (h0_3_0_e0_2k : ClassId) (h0_3_0_e0_2c : Nat → Int32) (h0_3_0_e1_0 : Nat) (h0_3_0_e1_f1 : Int32) (h0_3_0_e1_2 : Nat) (h0_3_0_e1_0k : ClassId) (h0_3_0_e1_0c : Nat → Int32) (h0_3_0_e1_2k : ClassId) (h0_3_0_e1_2c : Nat → Int32) (h0_3_0_e2_0 : Nat) (h0_3_0_e2_f1 : Int32) (h0_3_0_e2_2 : Nat) (h0_3_0_e2_0k : ClassId) (h0_3_0_e2_0c : Nat → Int32) (h0_3_0_e2_2k : ClassId) (h0_3_0_e2_2c : Nat → Int32) (h0_3_0_e3_0 : Nat) (h0_3_0_e3_f1 : Int32) (h0_3_0_e3_2 : Nat) (h0_3_0_e3_0k : ClassId) (h0_3_0_e3_0c : Nat → Int32) (h0_3_0_e3_2k : ClassId) (h0_3_0_e3_2c : Nat → Int32) (h0_8_8k : ClassId) (h0_8_8c : Nat → Int32) (h0_8_6k : ClassId) (h0_8_6c : Nat → Int32) (h0_8_7k : ClassId) (h0_8_7c : Nat → Int32) (g_p1 : RG p1 0 9) (g_h0_f5 : RG h0_f5 0 4) (g_h0_1_f1 : RG h0_1_f1 0 8) (g_h0_1_f2 : RG h0_1_f2 0 3) (g_h0_1_f3 : RG h0_1_f3 0 1) (a_h0_1_0c : AI h0_1_0c (-1) 99) (a_h0_6_3c : AI h0_6_3c (-1) 2) (g_h0_3_f1 : RG h0_3_f1 0 4) (e_h0_3_0_e0 : h0_3_0c 0 = some h0_3_0_e0) (e_h0_3_0_e1 : h0_3_0c 1 = some h0_3_0_e1) (e_h0_3_0_e2 : h0_3_0c 2 = some h0_3_0_e2) (e_h0_3_0_e3 : h0_3_0c 3 = some h0_3_0_e3) (e_h0_3_0_e4 : h0_3_0c 4 = some h0_3_0_e4) (g_h0_3_0_e0_f1 : RG h0_3_0_e0_f1 0 240) (g_h0_3_0_e1_f1 : RG h0_3_0_e1_f1 0 240) (g_h0_3_0_e2_f1 : RG h0_3_0_e2_f1 0 240) (g_h0_3_0_e3_f1 : RG h0_3_0_e3_f1 0 240) : Met l yX11_passApart wf_c_X11_passApart ({ frames := 6, cells := 0, slots := 0, locals := 149 }) (va_Pc [.ref h0, .int p1] (fun U => U.heap.size = sz ∧ va_P (dC, dI) vwCl (wd_c_X11_passApart h0 h0_0 h0_1 h0_2 h0_3 h0_4 h0_f5 h0_6 h0_7 h0_8 h0_9 h0_10 h0_11 h0_12 h0_13 h0_14 h0_f15 h0_6 h0_1 h0_3 h0_6_2 h0_6_3 h0_6_4 h0_6_5 h0_1 h0_1_0 h0_1_f1 h0_1_f2 h0_1_f3 h0_8 h0_8_f0 h0_8_f1 h0_8_f2 h0_8_f3 h0_8_4 h0_8_5 h0_8_6 h0_8_7 h0_8_8 h0_8_9 h0_8_10 h0_8_11 h0_8_12 h0_6_4 h0_6_4k h0_6_4c h0_1_0 h0_1_0k h0_1_0c h0_6_2 h0_6_2k h0_6_2c h0_6_3 h0_6_3k h0_6_3c h0_8_10 h0_8_10k h0_8_10c h0_8_11 h0_8_11k h0_8_11c h0_8_12 h0_8_12k h0_8_12c h0_8_4 h0_8_4k h0_8_4c h0_8_5 h0_8_5k h0_8_5c h0_3 h0_3_0 h0_3_f1 h0_3_f2 h0_3_3 h0_3_3 h0_3_3k h0_3_3c h0_3_0 h0_3_0k h0_3_0c h0_3_0_e0 h0_3_0_e0_0 h0_3_0_e0_f1 h0_3_0_e0_2 h0_3_0_e0_0 h0_3_0_e0_0k h0_3_0_e0_0c h0_3_0_e0_2 h0_3_0_e0_2k h0_3_0_e0_2c h0_3_0_e1 h0_3_0_e1_0 h0_3_0_e1_f1 h0_3_0_e1_2 h0_3_0_e1_0 h0_3_0_e1_0k h0_3_0_e1_0c h0_3_0_e1_2 h0_3_0_e1_2k h0_3_0_e1_2c h0_3_0_e2 h0_3_0_e2_0 h0_3_0_e2_f1 h0_3_0_e2_2 h0_3_0_e2_0 h0_3_0_e2_0k h0_3_0_e2_0c h0_3_0_e2_2 h0_3_0_e2_2k h0_3_0_e2_2c h0_3_0_e3 h0_3_0_e3_0 h0_3_0_e3_f1 h0_3_0_e3_2 h0_3_0_e3_0 h0_3_0_e3_0k h0_3_0_e3_0c h0_3_0_e3_2 h0_3_0_e3_2k h0_3_0_e3_2c h0_8_8 h0_8_8k h0_8_8c h0_8_6 h0_8_6k h0_8_6c h0_8_7 h0_8_7k h0_8_7c) U.heap ∧ va_K (dC, dI) vwCl [(h0_6_4k, .int), (h0_1_0k, .int), (h0_6_2k, .int), (h0_6_3k, .int), (h0_8_10k, .int), (h0_8_11k, .int), (h0_8_12k, .int), (h0_8_4k, .int), (h0_8_5k, .int), (h0_3_3k, .int), (h0_3_0k, .object RX4), (h0_3_0_e0_0k, .int), (h0_3_0_e0_2k, .int), (h0_3_0_e1_0k, .int), (h0_3_0_e1_2k, .int), (h0_3_0_e2_0k, .int), (h0_3_0_e2_2k, .int), (h0_3_0_e3_0k, .int), (h0_3_0_e3_2k, .int), (h0_8_8k, .int), (h0_8_6k, .int), (h0_8_7k, .int)] U ∧ va_D (fun _ => True) (wd_c_X11_passApart h0 h0_0 h0_1 h0_2 h0_3 h0_4 h0_f5 h0_6 h0_7 h0_8 h0_9 h0_10 h0_11 h0_12 h0_13 h0_14 h0_f15 h0_6 h0_1 h0_3 h0_6_2 h0_6_3 h0_6_4 h0_6_5 h0_1 h0_1_0 h0_1_f1 h0_1_f2 h0_1_f3 h0_8 h0_8_f0 h0_8_f1 h0_8_f2 h0_8_f3 h0_8_4 h0_8_5 h0_8_6 h0_8_7 h0_8_8 h0_8_9 h0_8_10 h0_8_11 h0_8_12 h0_6_4 h0_6_4k h0_6_4c h0_1_0 h0_1_0k h0_1_0c h0_6_2 h0_6_2k h0_6_2c h0_6_3 h0_6_3k h0_6_3c h0_8_10 h0_8_10k h0_8_10c h0_8_11 h0_8_11k h0_8_11c h0_8_12 h0_8_12k h0_8_12c h0_8_4 h0_8_4k h0_8_4c h0_8_5 h0_8_5k h0_8_5c h0_3 h0_3_0 h0_3_f1 h0_3_f2 h0_3_3 h0_3_3 h0_3_3k h0_3_3c h0_3_0 h0_3_0k h0_3_0c h0_3_0_e0 h0_3_0_e0_0 h0_3_0_e0_f1 h0_3_0_e0_2 h0_3_0_e0_0 h0_3_0_e0_0k h0_3_0_e0_0c h0_3_0_e0_2 h0_3_0_e0_2k h0_3_0_e0_2c h0_3_0_e1 h0_3_0_e1_0 h0_3_0_e1_f1 h0_3_0_e1_2 h0_3_0_e1_0 h0_3_0_e1_0k h0_3_0_e1_0c h0_3_0_e1_2 h0_3_0_e1_2k h0_3_0_e1_2c h0_3_0_e2 h0_3_0_e2_0 h0_3_0_e2_f1 h0_3_0_e2_2 h0_3_0_e2_0 h0_3_0_e2_0k h0_3_0_e2_0c h0_3_0_e2_2 h0_3_0_e2_2k h0_3_0_e2_2c h0_3_0_e3 h0_3_0_e3_0 h0_3_0_e3_f1 h0_3_0_e3_2 h0_3_0_e3_0 h0_3_0_e3_0k h0_3_0_e3_0c h0_3_0_e3_2 h0_3_0_e3_2k h0_3_0_e3_2c h0_8_8 h0_8_8k h0_8_8c h0_8_6 h0_8_6k h0_8_6c h0_8_7 h0_8_7k h0_8_7c))) (va_Qv (fun (u : (Int32) × (Nat → Int32) × (Nat → Int32) × (Nat → Int32) × (Nat → Int32) × (Nat → Int32) × (Nat → Int32) × (Nat → Int32) × (Nat → Int32) × (Nat → Int32) × (Nat → Int32) × (Nat → Int32) × (Nat → Int32) × (Nat → Int32)) => (AI (u.2.2.2.1) (-1) 2)) (fun (u : (Int32) × (Nat → Int32) × (Nat → Int32) × (Nat → Int32) × (Nat → Int32) × (Nat → Int32) × (Nat → Int32) × (Nat → Int32) × (Nat → Int32) × (Nat → Int32) × (Nat → Int32) × (Nat → Int32) × (Nat → Int32) × (Nat → Int32)) t => va_P (dC, dI) vwCl (wd_c_X11_passApart h0 h0_0 h0_1 h0_2 h0_3 h0_4 h0_f5 h0_6 h0_7 h0_8 h0_9 h0_10 h0_11 h0_12 h0_13 h0_14 h0_f15 h0_6 h0_1 h0_3 h0_6_2 h0_6_3 h0_6_4 h0_6_5 h0_1 h0_1_0 h0_1_f1 h0_1_f2 h0_1_f3 h0_8 h0_8_f0 h0_8_f1 (u.1) h0_8_f3 h0_8_4 h0_8_5 h0_8_6 h0_8_7 h0_8_8 h0_8_9 h0_8_10 h0_8_11 h0_8_12 h0_6_4 h0_6_4k (u.2.1) h0_1_0 h0_1_0k h0_1_0c h0_6_2 h0_6_2k (u.2.2.1) h0_6_3 h0_6_3k (u.2.2.2.1) h0_8_10 h0_8_10k h0_8_10c h0_8_11 h0_8_11k (u.2.2.2.2.1) h0_8_12 h0_8_12k (u.2.2.2.2.2.1) h0_8_4 h0_8_4k (u.2.2.2.2.2.2.1) h0_8_5 h0_8_5k (u.2.2.2.2.2.2.2.1) h0_3 h0_3_0 h0_3_f1 h0_3_f2 h0_3_3 h0_3_3 h0_3_3k (u.2.2.2.2.2.2.2.2.1) h0_3_0 h0_3_0k h0_3_0c h0_3_0_e0 h0_3_0_e0_0 h0_3_0_e0_f1 h0_3_0_e0_2 h0_3_0_e0_0 h0_3_0_e0_0k h0_3_0_e0_0c h0_3_0_e0_2 h0_3_0_e0_2k (u.2.2.2.2.2.2.2.2.2.1) h0_3_0_e1 h0_3_0_e1_0 h0_3_0_e1_f1 h0_3_0_e1_2 h0_3_0_e1_0 h0_3_0_e1_0k h0_3_0_e1_0c h0_3_0_e1_2 h0_3_0_e1_2k (u.2.2.2.2.2.2.2.2.2.2.1) h0_3_0_e2 h0_3_0_e2_0 h0_3_0_e2_f1 h0_3_0_e2_2 h0_3_0_e2_0 h0_3_0_e2_0k h0_3_0_e2_0c h0_3_0_e2_2 h0_3_0_e2_2k (u.2.2.2.2.2.2.2.2.2.2.2.1) h0_3_0_e3 h0_3_0_e3_0 h0_3_0_e3_f1 h0_3_0_e3_2 h0_3_0_e3_0 h0_3_0_e3_0k h0_3_0_e3_0c h0_3_0_e3_2 h0_3_0_e3_2k (u.2.2.2.2.2.2.2.2.2.2.2.2.1) h0_8_8 h0_8_8k (u.2.2.2.2.2.2.2.2.2.2.2.2.2) h0_8_6 h0_8_6k h0_8_6c h0_8_7 h0_8_7k h0_8_7c) t.heap ∧ va_K (dC, dI) vwCl [] t ∧ va_D (va_A (wd_c_X11_passApart h0 h0_0 h0_1 h0_2 h0_3 h0_4 h0_f5 h0_6 h0_7 h0_8 h0_9 h0_10 h0_11 h0_12 h0_13 h0_14 h0_f15 h0_6 h0_1 h0_3 h0_6_2 h0_6_3 h0_6_4 h0_6_5 h0_1 h0_1_0 h0_1_f1 h0_1_f2 h0_1_f3 h0_8 h0_8_f0 h0_8_f1 h0_8_f2 h0_8_f3 h0_8_4 h0_8_5 h0_8_6 h0_8_7 h0_8_8 h0_8_9 h0_8_10 h0_8_11 h0_8_12 h0_6_4 h0_6_4k h0_6_4c h0_1_0 h0_1_0k h0_1_0c h0_6_2 h0_6_2k h0_6_2c h0_6_3 h0_6_3k h0_6_3c h0_8_10 h0_8_10k h0_8_10c h0_8_11 h0_8_11k h0_8_11c h0_8_12 h0_8_12k h0_8_12c h0_8_4 h0_8_4k h0_8_4c h0_8_5 h0_8_5k h0_8_5c h0_3 h0_3_0 h0_3_f1 h0_3_f2 h0_3_3 h0_3_3 h0_3_3k h0_3_3c h0_3_0 h0_3_0k h0_3_0c h0_3_0_e0 h0_3_0_e0_0 h0_3_0_e0_f1 h0_3_0_e0_2 h0_3_0_e0_0 h0_3_0_e0_0k h0_3_0_e0_0c h0_3_0_e0_2 h0_3_0_e0_2k h0_3_0_e0_2c h0_3_0_e1 h0_3_0_e1_0 h0_3_0_e1_f1 h0_3_0_e1_2 h0_3_0_e1_0 h0_3_0_e1_0k h0_3_0_e1_0c h0_3_0_e1_2 h0_3_0_e1_2k h0_3_0_e1_2c h0_3_0_e2 h0_3_0_e2_0 h0_3_0_e2_f1 h0_3_0_e2_2 h0_3_0_e2_0 h0_3_0_e2_0k h0_3_0_e2_0c h0_3_0_e2_2 h0_3_0_e2_2k h0_3_0_e2_2c h0_3_0_e3 h0_3_0_e3_0 h0_3_0_e3_f1 h0_3_0_e3_2 h0_3_0_e3_0 h0_3_0_e3_0k h0_3_0_e3_0c h0_3_0_e3_2 h0_3_0_e3_2k h0_3_0_e3_2c h0_8_8 h0_8_8k h0_8_8c h0_8_6 h0_8_6k h0_8_6c h0_8_7 h0_8_7k h0_8_7c) sz) (wd_c_X11_passApart h0 h0_0 h0_1 h0_2 h0_3 h0_4 h0_f5 h0_6 h0_7 h0_8 h0_9 h0_10 h0_11 h0_12 h0_13 h0_14 h0_f15 h0_6 h0_1 h0_3 h0_6_2 h0_6_3 h0_6_4 h0_6_5 h0_1 h0_1_0 h0_1_f1 h0_1_f2 h0_1_f3 h0_8 h0_8_f0 h0_8_f1 (u.1) h0_8_f3 h0_8_4 h0_8_5 h0_8_6 h0_8_7 h0_8_8 h0_8_9 h0_8_10 h0_8_11 h0_8_12 h0_6_4 h0_6_4k (u.2.1) h0_1_0 h0_1_0k h0_1_0c h0_6_2 h0_6_2k (u.2.2.1) h0_6_3 h0_6_3k (u.2.2.2.1) h0_8_10 h0_8_10k h0_8_10c h0_8_11 h0_8_11k (u.2.2.2.2.1) h0_8_12 h0_8_12k (u.2.2.2.2.2.1) h0_8_4 h0_8_4k (u.2.2.2.2.2.2.1) h0_8_5 h0_8_5k (u.2.2.2.2.2.2.2.1) h0_3 h0_3_0 h0_3_f1 h0_3_f2 h0_3_3 h0_3_3 h0_3_3k (u.2.2.2.2.2.2.2.2.1) h0_3_0 h0_3_0k h0_3_0c h0_3_0_e0 h0_3_0_e0_0 h0_3_0_e0_f1 h0_3_0_e0_2 h0_3_0_e0_0 h0_3_0_e0_0k h0_3_0_e0_0c h0_3_0_e0_2 h0_3_0_e0_2k (u.2.2.2.2.2.2.2.2.2.1) h0_3_0_e1 h0_3_0_e1_0 h0_3_0_e1_f1 h0_3_0_e1_2 h0_3_0_e1_0 h0_3_0_e1_0k h0_3_0_e1_0c h0_3_0_e1_2 h0_3_0_e1_2k (u.2.2.2.2.2.2.2.2.2.2.1) h0_3_0_e2 h0_3_0_e2_0 h0_3_0_e2_f1 h0_3_0_e2_2 h0_3_0_e2_0 h0_3_0_e2_0k h0_3_0_e2_0c h0_3_0_e2_2 h0_3_0_e2_2k (u.2.2.2.2.2.2.2.2.2.2.2.1) h0_3_0_e3 h0_3_0_e3_0 h0_3_0_e3_f1 h0_3_0_e3_2 h0_3_0_e3_0 h0_3_0_e3_0k h0_3_0_e3_0c h0_3_0_e3_2 h0_3_0_e3_2k (u.2.2.2.2.2.2.2.2.2.2.2.2.1) h0_8_8 h0_8_8k (u.2.2.2.2.2.2.2.2.2.2.2.2.2) h0_8_6 h0_8_6k h0_8_6c h0_8_7 h0_8_7k h0_8_7c)) (va_A (wd_c_X11_passApart h0 h0_0 h0_1 h0_2 h0_3 h0_4 h0_f5 h0_6 h0_7 h0_8 h0_9 h0_10 h0_11 h0_12 h0_13 h0_14 h0_f15 h0_6 h0_1 h0_3 h0_6_2 h0_6_3 h0_6_4 h0_6_5 h0_1 h0_1_0 h0_1_f1 h0_1_f2 h0_1_f3 h0_8 h0_8_f0 h0_8_f1 h0_8_f2 h0_8_f3 h0_8_4 h0_8_5 h0_8_6 h0_8_7 h0_8_8 h0_8_9 h0_8_10 h0_8_11 h0_8_12 h0_6_4 h0_6_4k h0_6_4c h0_1_0 h0_1_0k h0_1_0c h0_6_2 h0_6_2k h0_6_2c h0_6_3 h0_6_3k h0_6_3c h0_8_10 h0_8_10k h0_8_10c h0_8_11 h0_8_11k h0_8_11c h0_8_12 h0_8_12k h0_8_12c h0_8_4 h0_8_4k h0_8_4c h0_8_5 h0_8_5k h0_8_5c h0_3 h0_3_0 h0_3_f1 h0_3_f2 h0_3_3 h0_3_3 h0_3_3k h0_3_3c h0_3_0 h0_3_0k h0_3_0c h0_3_0_e0 h0_3_0_e0_0 h0_3_0_e0_f1 h0_3_0_e0_2 h0_3_0_e0_0 h0_3_0_e0_0k h0_3_0_e0_0c h0_3_0_e0_2 h0_3_0_e0_2k h0_3_0_e0_2c h0_3_0_e1 h0_3_0_e1_0 h0_3_0_e1_f1 h0_3_0_e1_2 h0_3_0_e1_0 h0_3_0_e1_0k h0_3_0_e1_0c h0_3_0_e1_2 h0_3_0_e1_2k h0_3_0_e1_2c h0_3_0_e2 h0_3_0_e2_0 h0_3_0_e2_f1 h0_3_0_e2_2 h0_3_0_e2_0 h0_3_0_e2_0k h0_3_0_e2_0c h0_3_0_e2_2 h0_3_0_e2_2k h0_3_0_e2_2c h0_3_0_e3 h0_3_0_e3_0 h0_3_0_e3_f1 h0_3_0_e3_2 h0_3_0_e3_0 h0_3_0_e3_0k h0_3_0_e3_0c h0_3_0_e3_2 h0_3_0_e3_2k h0_3_0_e3_2c h0_8_8 h0_8_8k h0_8_8c h0_8_6 h0_8_6k h0_8_6c h0_8_7 h0_8_7k h0_8_7c) sz)) 0 0 (va_A (wd_c_X11_passApart h0 h0_0 h0_1 h0_2 h0_3 h0_4 h0_f5 h0_6 h0_7 h0_8 h0_9 h0_10 h0_11 h0_12 h0_13 h0_14 h0_f15 h0_6 h0_1 h0_3 h0_6_2 h0_6_3 h0_6_4 h0_6_5 h0_1 h0_1_0 h0_1_f1 h0_1_f2 h0_1_f3 h0_8 h0_8_f0 h0_8_f1 h0_8_f2 h0_8_f3 h0_8_4 h0_8_5 h0_8_6 h0_8_7 h0_8_8 h0_8_9 h0_8_10 h0_8_11 h0_8_12 h0_6_4 h0_6_4k h0_6_4c h0_1_0 h0_1_0k h0_1_0c h0_6_2 h0_6_2k h0_6_2c h0_6_3 h0_6_3k h0_6_3c h0_8_10 h0_8_10k h0_8_10c h0_8_11 h0_8_11k h0_8_11c h0_8_12 h0_8_12k h0_8_12c h0_8_4 h0_8_4k h0_8_4c h0_8_5 h0_8_5k h0_8_5c h0_3 h0_3_0 h0_3_f1 h0_3_f2 h0_3_3 h0_3_3 h0_3_3k h0_3_3c h0_3_0 h0_3_0k h0_3_0c h0_3_0_e0 h0_3_0_e0_0 h0_3_0_e0_f1 h0_3_0_e0_2 h0_3_0_e0_0 h0_3_0_e0_0k h0_3_0_e0_0c h0_3_0_e0_2 h0_3_0_e0_2k h0_3_0_e0_2c h0_3_0_e1 h0_3_0_e1_0 h0_3_0_e1_f1 h0_3_0_e1_2 h0_3_0_e1_0 h0_3_0_e1_0k h0_3_0_e1_0c h0_3_0_e1_2 h0_3_0_e1_2k h0_3_0_e1_2c h0_3_0_e2 h0_3_0_e2_0 h0_3_0_e2_f1 h0_3_0_e2_2 h0_3_0_e2_0 h0_3_0_e2_0k h0_3_0_e2_0c h0_3_0_e2_2 h0_3_0_e2_2k h0_3_0_e2_2c h0_3_0_e3 h0_3_0_e3_0 h0_3_0_e3_f1 h0_3_0_e3_2 h0_3_0_e3_0 h0_3_0_e3_0k h0_3_0_e3_0c h0_3_0_e3_2 h0_3_0_e3_2k h0_3_0_e3_2c h0_8_8 h0_8_8k h0_8_8c h0_8_6 h0_8_6k h0_8_6c h0_8_7 h0_8_7k h0_8_7c) sz) := by
  refine Met.ofW (cc := cX11_passApart) (maxL := 3) (ret := none) (by decide +kernel) rfl ?_
  intro p e s m args below meth c s₁ B hml hv
  obtain ⟨rfl, hsz, hP, hK, hD0⟩ := hv
  have hx := B.exec
  have hb := B.bytes
  have hr := B.returns
  have hts := atoms_spec (ws := wf_c_X11_passApart) B.pre
  have hown : s.vm.findClass RX11 = some m.cls := findClass_of_methodNamed B.named
  have hlocks := B.notSynchronized
  subst hsz
  have hD := hD0.self (sz := s.heap.size)
  generalize hAe : va_A (wd_c_X11_passApart h0 h0_0 h0_1 h0_2 h0_3 h0_4 h0_f5 h0_6 h0_7 h0_8 h0_9 h0_10 h0_11 h0_12 h0_13 h0_14 h0_f15 h0_6 h0_1 h0_3 h0_6_2 h0_6_3 h0_6_4 h0_6_5 h0_1 h0_1_0 h0_1_f1 h0_1_f2 h0_1_f3 h0_8 h0_8_f0 h0_8_f1 h0_8_f2 h0_8_f3 h0_8_4 h0_8_5 h0_8_6 h0_8_7 h0_8_8 h0_8_9 h0_8_10 h0_8_11 h0_8_12 h0_6_4 h0_6_4k h0_6_4c h0_1_0 h0_1_0k h0_1_0c h0_6_2 h0_6_2k h0_6_2c h0_6_3 h0_6_3k h0_6_3c h0_8_10 h0_8_10k h0_8_10c h0_8_11 h0_8_11k h0_8_11c h0_8_12 h0_8_12k h0_8_12c h0_8_4 h0_8_4k h0_8_4c h0_8_5 h0_8_5k h0_8_5c h0_3 h0_3_0 h0_3_f1 h0_3_f2 h0_3_3 h0_3_3 h0_3_3k h0_3_3c h0_3_0 h0_3_0k h0_3_0c h0_3_0_e0 h0_3_0_e0_0 h0_3_0_e0_f1 h0_3_0_e0_2 h0_3_0_e0_0 h0_3_0_e0_0k h0_3_0_e0_0c h0_3_0_e0_2 h0_3_0_e0_2k h0_3_0_e0_2c h0_3_0_e1 h0_3_0_e1_0 h0_3_0_e1_f1 h0_3_0_e1_2 h0_3_0_e1_0 h0_3_0_e1_0k h0_3_0_e1_0c h0_3_0_e1_2 h0_3_0_e1_2k h0_3_0_e1_2c h0_3_0_e2 h0_3_0_e2_0 h0_3_0_e2_f1 h0_3_0_e2_2 h0_3_0_e2_0 h0_3_0_e2_0k h0_3_0_e2_0c h0_3_0_e2_2 h0_3_0_e2_2k h0_3_0_e2_2c h0_3_0_e3 h0_3_0_e3_0 h0_3_0_e3_f1 h0_3_0_e3_2 h0_3_0_e3_0 h0_3_0_e3_0k h0_3_0_e3_0c h0_3_0_e3_2 h0_3_0_e3_2k h0_3_0_e3_2c h0_8_8 h0_8_8k h0_8_8c h0_8_6 h0_8_6k h0_8_6c h0_8_7 h0_8_7k h0_8_7c) s.heap.size = A at hD ⊢
  have hA : ∀ q : Nat, s.heap.size ≤ q → A q := fun q h => by rw [← hAe]; exact Or.inr h
  have hP : va_P (dC, dI) vwCl (wd_c_X11_passApart h0 h0_0 h0_1 h0_2 h0_3 h0_4 h0_f5 h0_6 h0_7 h0_8 h0_9 h0_10 h0_11 h0_12 h0_13 h0_14 h0_f15 h0_6 h0_1 h0_3 h0_6_2 h0_6_3 h0_6_4 h0_6_5 h0_1 h0_1_0 h0_1_f1 h0_1_f2 h0_1_f3 h0_8 h0_8_f0 h0_8_f1 h0_8_f2 h0_8_f3 h0_8_4 h0_8_5 h0_8_6 h0_8_7 h0_8_8 h0_8_9 h0_8_10 h0_8_11 h0_8_12 h0_6_4 h0_6_4k h0_6_4c h0_1_0 h0_1_0k h0_1_0c h0_6_2 h0_6_2k h0_6_2c h0_6_3 h0_6_3k h0_6_3c h0_8_10 h0_8_10k h0_8_10c h0_8_11 h0_8_11k h0_8_11c h0_8_12 h0_8_12k h0_8_12c h0_8_4 h0_8_4k h0_8_4c h0_8_5 h0_8_5k h0_8_5c h0_3 h0_3_0 h0_3_f1 h0_3_f2 h0_3_3 h0_3_3 h0_3_3k h0_3_3c h0_3_0 h0_3_0k h0_3_0c h0_3_0_e0 h0_3_0_e0_0 h0_3_0_e0_f1 h0_3_0_e0_2 h0_3_0_e0_0 h0_3_0_e0_0k h0_3_0_e0_0c h0_3_0_e0_2 h0_3_0_e0_2k h0_3_0_e0_2c h0_3_0_e1 h0_3_0_e1_0 h0_3_0_e1_f1 h0_3_0_e1_2 h0_3_0_e1_0 h0_3_0_e1_0k h0_3_0_e1_0c h0_3_0_e1_2 h0_3_0_e1_2k h0_3_0_e1_2c h0_3_0_e2 h0_3_0_e2_0 h0_3_0_e2_f1 h0_3_0_e2_2 h0_3_0_e2_0 h0_3_0_e2_0k h0_3_0_e2_0c h0_3_0_e2_2 h0_3_0_e2_2k h0_3_0_e2_2c h0_3_0_e3 h0_3_0_e3_0 h0_3_0_e3_f1 h0_3_0_e3_2 h0_3_0_e3_0 h0_3_0_e3_0k h0_3_0_e3_0c h0_3_0_e3_2 h0_3_0_e3_2k h0_3_0_e3_2c h0_8_8 h0_8_8k h0_8_8c h0_8_6 h0_8_6k h0_8_6c h0_8_7 h0_8_7k h0_8_7c) s.heap := hP
  have hl := lv_entry ([.ref h0, .int p1]) (n := 3) (Nat.le_of_ble_eq_true rfl)
  rw [lg_entry_eq]
  generalize (lg_sl ([.ref h0, .int p1]) ++ List.replicate (3 - (lg_sl ([.ref h0, .int p1])).length) Slot.unset).toArray = ls at hl ⊢
  have hl : lv_has ls 3 [(0, .ref h0), (1, .int p1)] := hl
  obtain ⟨H, hHe⟩ : ∃ H : Heap, s.heap = H := ⟨_, rfl⟩
  have hS : va_S A s.heap H [] := by rw [hHe]; exact va_S.rf
  have hP : va_P (dC, dI) vwCl (wd_c_X11_passApart h0 h0_0 h0_1 h0_2 h0_3 h0_4 h0_f5 h0_6 h0_7 h0_8 h0_9 h0_10 h0_11 h0_12 h0_13 h0_14 h0_f15 h0_6 h0_1 h0_3 h0_6_2 h0_6_3 h0_6_4 h0_6_5 h0_1 h0_1_0 h0_1_f1 h0_1_f2 h0_1_f3 h0_8 h0_8_f0 h0_8_f1 h0_8_f2 h0_8_f3 h0_8_4 h0_8_5 h0_8_6 h0_8_7 h0_8_8 h0_8_9 h0_8_10 h0_8_11 h0_8_12 h0_6_4 h0_6_4k h0_6_4c h0_1_0 h0_1_0k h0_1_0c h0_6_2 h0_6_2k h0_6_2c h0_6_3 h0_6_3k h0_6_3c h0_8_10 h0_8_10k h0_8_10c h0_8_11 h0_8_11k h0_8_11c h0_8_12 h0_8_12k h0_8_12c h0_8_4 h0_8_4k h0_8_4c h0_8_5 h0_8_5k h0_8_5c h0_3 h0_3_0 h0_3_f1 h0_3_f2 h0_3_3 h0_3_3 h0_3_3k h0_3_3c h0_3_0 h0_3_0k h0_3_0c h0_3_0_e0 h0_3_0_e0_0 h0_3_0_e0_f1 h0_3_0_e0_2 h0_3_0_e0_0 h0_3_0_e0_0k h0_3_0_e0_0c h0_3_0_e0_2 h0_3_0_e0_2k h0_3_0_e0_2c h0_3_0_e1 h0_3_0_e1_0 h0_3_0_e1_f1 h0_3_0_e1_2 h0_3_0_e1_0 h0_3_0_e1_0k h0_3_0_e1_0c h0_3_0_e1_2 h0_3_0_e1_2k h0_3_0_e1_2c h0_3_0_e2 h0_3_0_e2_0 h0_3_0_e2_f1 h0_3_0_e2_2 h0_3_0_e2_0 h0_3_0_e2_0k h0_3_0_e2_0c h0_3_0_e2_2 h0_3_0_e2_2k h0_3_0_e2_2c h0_3_0_e3 h0_3_0_e3_0 h0_3_0_e3_f1 h0_3_0_e3_2 h0_3_0_e3_0 h0_3_0_e3_0k h0_3_0_e3_0c h0_3_0_e3_2 h0_3_0_e3_2k h0_3_0_e3_2c h0_8_8 h0_8_8k h0_8_8c h0_8_6 h0_8_6k h0_8_6c h0_8_7 h0_8_7k h0_8_7c) H := by rw [← hHe]; exact hP
  rw [hHe]
  refine wj (fun G hG hU => ?_)
  as_aux_lemma =>
  have J2 : ∀ (n2 : Nat) (j2_l2 : Int32) (j2_h0_8_f2 : Int32) (j2_h0_6_4c : Nat → Int32) (j2_h0_6_2c : Nat → Int32) (j2_h0_6_3c : Nat → Int32) (j2_h0_8_11c : Nat → Int32) (j2_h0_8_12c : Nat → Int32) (j2_h0_8_4c : Nat → Int32) (j2_h0_8_5c : Nat → Int32) (j2_h0_3_3c : Nat → Int32) (j2_h0_3_0_e0_2c : Nat → Int32) (j2_h0_3_0_e1_2c : Nat → Int32) (j2_h0_3_0_e2_2c : Nat → Int32) (j2_h0_3_0_e3_2c : Nat → Int32) (j2_h0_8_8c : Nat → Int32) (hM2 : MU j2_l2 < n2) (g_h0_1_f1 : RG h0_1_f1 0 8) (g_h0_1_f2 : RG h0_1_f2 0 3) (g_h0_1_f3 : RG h0_1_f3 0 1) (g_h0_3_0_e0_f1 : RG h0_3_0_e0_f1 0 240) (g_h0_3_0_e1_f1 : RG h0_3_0_e1_f1 0 240) (g_h0_3_0_e2_f1 : RG h0_3_0_e2_f1 0 240) (g_h0_3_0_e3_f1 : RG h0_3_0_e3_f1 0 240) (g_h0_3_f1 : RG h0_3_f1 0 4) (g_h0_f5 : RG h0_f5 0 4) (g_j2_l2 : RG j2_l2 0 9) (g_p1 : RG p1 0 9) (a_j2_h0_6_3c : AI j2_h0_6_3c (-1) 2) (H : Heap) (locs : List Loc) (ls : Array Slot) (hP : va_P (dC, dI) vwCl (wd_c_X11_passApart h0 h0_0 h0_1 h0_2 h0_3 h0_4 h0_f5 h0_6 h0_7 h0_8 h0_9 h0_10 h0_11 h0_12 h0_13 h0_14 h0_f15 h0_6 h0_1 h0_3 h0_6_2 h0_6_3 h0_6_4 h0_6_5 h0_1 h0_1_0 h0_1_f1 h0_1_f2 h0_1_f3 h0_8 h0_8_f0 h0_8_f1 j2_h0_8_f2 h0_8_f3 h0_8_4 h0_8_5 h0_8_6 h0_8_7 h0_8_8 h0_8_9 h0_8_10 h0_8_11 h0_8_12 h0_6_4 h0_6_4k j2_h0_6_4c h0_1_0 h0_1_0k h0_1_0c h0_6_2 h0_6_2k j2_h0_6_2c h0_6_3 h0_6_3k j2_h0_6_3c h0_8_10 h0_8_10k h0_8_10c h0_8_11 h0_8_11k j2_h0_8_11c h0_8_12 h0_8_12k j2_h0_8_12c h0_8_4 h0_8_4k j2_h0_8_4c h0_8_5 h0_8_5k j2_h0_8_5c h0_3 h0_3_0 h0_3_f1 h0_3_f2 h0_3_3 h0_3_3 h0_3_3k j2_h0_3_3c h0_3_0 h0_3_0k h0_3_0c h0_3_0_e0 h0_3_0_e0_0 h0_3_0_e0_f1 h0_3_0_e0_2 h0_3_0_e0_0 h0_3_0_e0_0k h0_3_0_e0_0c h0_3_0_e0_2 h0_3_0_e0_2k j2_h0_3_0_e0_2c h0_3_0_e1 h0_3_0_e1_0 h0_3_0_e1_f1 h0_3_0_e1_2 h0_3_0_e1_0 h0_3_0_e1_0k h0_3_0_e1_0c h0_3_0_e1_2 h0_3_0_e1_2k j2_h0_3_0_e1_2c h0_3_0_e2 h0_3_0_e2_0 h0_3_0_e2_f1 h0_3_0_e2_2 h0_3_0_e2_0 h0_3_0_e2_0k h0_3_0_e2_0c h0_3_0_e2_2 h0_3_0_e2_2k j2_h0_3_0_e2_2c h0_3_0_e3 h0_3_0_e3_0 h0_3_0_e3_f1 h0_3_0_e3_2 h0_3_0_e3_0 h0_3_0_e3_0k h0_3_0_e3_0c h0_3_0_e3_2 h0_3_0_e3_2k j2_h0_3_0_e3_2c h0_8_8 h0_8_8k j2_h0_8_8c h0_8_6 h0_8_6k h0_8_6c h0_8_7 h0_8_7k h0_8_7c) H) (hD : va_D A (wd_c_X11_passApart h0 h0_0 h0_1 h0_2 h0_3 h0_4 h0_f5 h0_6 h0_7 h0_8 h0_9 h0_10 h0_11 h0_12 h0_13 h0_14 h0_f15 h0_6 h0_1 h0_3 h0_6_2 h0_6_3 h0_6_4 h0_6_5 h0_1 h0_1_0 h0_1_f1 h0_1_f2 h0_1_f3 h0_8 h0_8_f0 h0_8_f1 j2_h0_8_f2 h0_8_f3 h0_8_4 h0_8_5 h0_8_6 h0_8_7 h0_8_8 h0_8_9 h0_8_10 h0_8_11 h0_8_12 h0_6_4 h0_6_4k j2_h0_6_4c h0_1_0 h0_1_0k h0_1_0c h0_6_2 h0_6_2k j2_h0_6_2c h0_6_3 h0_6_3k j2_h0_6_3c h0_8_10 h0_8_10k h0_8_10c h0_8_11 h0_8_11k j2_h0_8_11c h0_8_12 h0_8_12k j2_h0_8_12c h0_8_4 h0_8_4k j2_h0_8_4c h0_8_5 h0_8_5k j2_h0_8_5c h0_3 h0_3_0 h0_3_f1 h0_3_f2 h0_3_3 h0_3_3 h0_3_3k j2_h0_3_3c h0_3_0 h0_3_0k h0_3_0c h0_3_0_e0 h0_3_0_e0_0 h0_3_0_e0_f1 h0_3_0_e0_2 h0_3_0_e0_0 h0_3_0_e0_0k h0_3_0_e0_0c h0_3_0_e0_2 h0_3_0_e0_2k j2_h0_3_0_e0_2c h0_3_0_e1 h0_3_0_e1_0 h0_3_0_e1_f1 h0_3_0_e1_2 h0_3_0_e1_0 h0_3_0_e1_0k h0_3_0_e1_0c h0_3_0_e1_2 h0_3_0_e1_2k j2_h0_3_0_e1_2c h0_3_0_e2 h0_3_0_e2_0 h0_3_0_e2_f1 h0_3_0_e2_2 h0_3_0_e2_0 h0_3_0_e2_0k h0_3_0_e2_0c h0_3_0_e2_2 h0_3_0_e2_2k j2_h0_3_0_e2_2c h0_3_0_e3 h0_3_0_e3_0 h0_3_0_e3_f1 h0_3_0_e3_2 h0_3_0_e3_0 h0_3_0_e3_0k h0_3_0_e3_0c h0_3_0_e3_2 h0_3_0_e3_2k j2_h0_3_0_e3_2c h0_8_8 h0_8_8k j2_h0_8_8c h0_8_6 h0_8_6k h0_8_6c h0_8_7 h0_8_7k h0_8_7c)) (hS : va_S A s.heap H locs) (hl : lv_has ls 3 [(2, .int j2_l2), (0, .ref h0), (1, .int p1)]), G H locs (F0 m 2 ls []) := by
    as_aux_lemma =>
    intro n2
    induction n2 with
    | zero => intros; exact absurd (by assumption) (Nat.not_lt_zero _)
    | succ n2 ih2 =>
      intro j2_l2 j2_h0_8_f2 j2_h0_6_4c j2_h0_6_2c j2_h0_6_3c j2_h0_8_11c j2_h0_8_12c j2_h0_8_4c j2_h0_8_5c j2_h0_3_3c j2_h0_3_0_e0_2c j2_h0_3_0_e1_2c j2_h0_3_0_e2_2c j2_h0_3_0_e3_2c j2_h0_8_8c hM2 g_h0_1_f1 g_h0_1_f2 g_h0_1_f3 g_h0_3_0_e0_f1 g_h0_3_0_e1_f1 g_h0_3_0_e2_f1 g_h0_3_0_e3_f1 g_h0_3_f1 g_h0_f5 g_j2_l2 g_p1 a_j2_h0_6_3c H locs ls hP hD hS hl
      refine hG _ _ _ ?_
      refine lv_iload_n hx hb dX11_passApart_2 rfl (lv_at hl 0 rfl) ?_
      refine lv_iload_n hx hb dX11_passApart_3 rfl (lv_at hl 2 rfl) ?_
      refine lv_icmp_ge (tgt := 24) hx hb dX11_passApart_4 rfl (fun c_1 => ?_) (fun c_1 => ?_)
      · have hK9 := hK.sub (tys' := []) [] rfl
        exact W.vret hx hb hr (fun t ht hW => ⟨⟨(j2_h0_8_f2, j2_h0_6_4c, j2_h0_6_2c, j2_h0_6_3c, j2_h0_8_11c, j2_h0_8_12c, j2_h0_8_4c, j2_h0_8_5c, j2_h0_3_3c, j2_h0_3_0_e0_2c, j2_h0_3_0_e1_2c, j2_h0_3_0_e2_2c, j2_h0_3_0_e3_2c, j2_h0_8_8c), rfl, a_j2_h0_6_3c, by rw [ht]; exact hP, va_K.moved hW.alike hK9, hD⟩, hS.F ht⟩) hS.2.2 dX11_passApart_24
      · have d_2 := Int32.not_le.mp c_1
        have g_3 : RG j2_l2 0 8 := RG_lt1 g_j2_l2 g_p1 d_2 (by decide +kernel)
        have g_4 : RG p1 1 9 := RG_lt2 g_j2_l2 g_p1 d_2 (by decide +kernel)
        refine lv_aload_n hx hb dX11_passApart_7 rfl (lv_at hl 1 rfl) ?_
        as_aux_lemma =>
        refine va_get (D := (dC, dI)) (ci := 11) (v := .ref h0_6) (C := RX11) (T := TX11) (N := 16) hx hb hts iw_c_X11_passApart_X11 hown hK hP 0 rfl rfl 6 (by decide +kernel) (hts (.fieldLink RX11 45 "BuoyVote" "waters" "LBuoyVote$Waters;") (List.mem_of_getElem? (i := 1) rfl)) (fun _ h9 => h9) rfl dX11_passApart_8 ?_
        refine lv_aload_n hx hb dX11_passApart_11 rfl (lv_at hl 1 rfl) ?_
        refine va_get (D := (dC, dI)) (ci := 11) (v := .ref h0_8) (C := RX11) (T := TX11) (N := 16) hx hb hts iw_c_X11_passApart_X11 hown hK hP 0 rfl rfl 8 (by decide +kernel) (hts (.fieldLink RX11 56 "BuoyVote" "apart" "LBuoyVote$Sea;") (List.mem_of_getElem? (i := 2) rfl)) (fun _ h9 => h9) rfl dX11_passApart_12 ?_
        obtain ⟨hPc, hDc, hFc, hqc⟩ := cl_cut (wc := (wd_c_X10_passHour h0_6 h0_1 h0_3 h0_6_2 h0_6_3 h0_6_4 h0_6_5 h0_1 h0_1_0 h0_1_f1 h0_1_f2 h0_1_f3 h0_8 h0_8_f0 h0_8_f1 j2_h0_8_f2 h0_8_f3 h0_8_4 h0_8_5 h0_8_6 h0_8_7 h0_8_8 h0_8_9 h0_8_10 h0_8_11 h0_8_12 h0_6_4 h0_6_4k j2_h0_6_4c h0_1_0 h0_1_0k h0_1_0c h0_6_2 h0_6_2k j2_h0_6_2c h0_6_3 h0_6_3k j2_h0_6_3c h0_8_10 h0_8_10k h0_8_10c h0_8_11 h0_8_11k j2_h0_8_11c h0_8_12 h0_8_12k j2_h0_8_12c h0_8_4 h0_8_4k j2_h0_8_4c h0_8_5 h0_8_5k j2_h0_8_5c h0_3 h0_3_0 h0_3_f1 h0_3_f2 h0_3_3 h0_3_3 h0_3_3k j2_h0_3_3c h0_3_0 h0_3_0k h0_3_0c h0_3_0_e0 h0_3_0_e0_0 h0_3_0_e0_f1 h0_3_0_e0_2 h0_3_0_e0_0 h0_3_0_e0_0k h0_3_0_e0_0c h0_3_0_e0_2 h0_3_0_e0_2k j2_h0_3_0_e0_2c h0_3_0_e1 h0_3_0_e1_0 h0_3_0_e1_f1 h0_3_0_e1_2 h0_3_0_e1_0 h0_3_0_e1_0k h0_3_0_e1_0c h0_3_0_e1_2 h0_3_0_e1_2k j2_h0_3_0_e1_2c h0_3_0_e2 h0_3_0_e2_0 h0_3_0_e2_f1 h0_3_0_e2_2 h0_3_0_e2_0 h0_3_0_e2_0k h0_3_0_e2_0c h0_3_0_e2_2 h0_3_0_e2_2k j2_h0_3_0_e2_2c h0_3_0_e3 h0_3_0_e3_0 h0_3_0_e3_f1 h0_3_0_e3_2 h0_3_0_e3_0 h0_3_0_e3_0k h0_3_0_e3_0c h0_3_0_e3_2 h0_3_0_e3_2k j2_h0_3_0_e3_2c h0_8_8 h0_8_8k j2_h0_8_8c h0_8_6 h0_8_6k h0_8_6c h0_8_7 h0_8_7k h0_8_7c)) hP hD hS hA [1, 2, 3, 4, 5, 6, 7, 8, 9, 10, 11, 12, 13, 14, 15, 16, 17, 18, 19, 20, 21, 22, 23, 24, 25, 26, 27, 28, 29, 30] (by decide +kernel) rfl
        have hKc := hK.sub (tys' := [(h0_6_4k, .int), (h0_1_0k, .int), (h0_6_2k, .int), (h0_6_3k, .int), (h0_8_10k, .int), (h0_8_11k, .int), (h0_8_12k, .int), (h0_8_4k, .int), (h0_8_5k, .int), (h0_3_3k, .int), (h0_3_0k, .object RX4), (h0_3_0_e0_0k, .int), (h0_3_0_e0_2k, .int), (h0_3_0_e1_0k, .int), (h0_3_0_e1_2k, .int), (h0_3_0_e2_0k, .int), (h0_3_0_e2_2k, .int), (h0_3_0_e3_0k, .int), (h0_3_0_e3_2k, .int), (h0_8_8k, .int), (h0_8_6k, .int), (h0_8_7k, .int)]) [0, 1, 2, 3, 4, 5, 6, 7, 8, 9, 10, 11, 12, 13, 14, 15, 16, 17, 18, 19, 20, 21] rfl
        have hrv := va_recv hKc hPc (ci := 10) (q0 := 0) rfl rfl
        refine va_callv (va_runV (As := [.ref h0_8]) (rest := []) ⟨hx, hb, hml, hown, hts⟩ (c_X10_passHour l dC dI H.size h0_6 h0_8 h0_1 h0_3 h0_6_2 h0_6_3 h0_6_4 h0_6_5 h0_1_0 h0_1_f1 h0_1_f2 h0_1_f3 h0_8_f0 h0_8_f1 j2_h0_8_f2 h0_8_f3 h0_8_4 h0_8_5 h0_8_6 h0_8_7 h0_8_8 h0_8_9 h0_8_10 h0_8_11 h0_8_12 h0_6_4k j2_h0_6_4c h0_1_0k h0_1_0c h0_6_2k j2_h0_6_2c h0_6_3k j2_h0_6_3c h0_8_10k h0_8_10c h0_8_11k j2_h0_8_11c h0_8_12k j2_h0_8_12c h0_8_4k j2_h0_8_4c h0_8_5k j2_h0_8_5c h0_3_0 h0_3_f1 h0_3_f2 h0_3_3 h0_3_3k j2_h0_3_3c h0_3_0k h0_3_0c h0_3_0_e0 h0_3_0_e1 h0_3_0_e2 h0_3_0_e3 h0_3_0_e4 h0_3_0_e0_0 h0_3_0_e0_f1 h0_3_0_e0_2 h0_3_0_e0_0k h0_3_0_e0_0c h0_3_0_e0_2k j2_h0_3_0_e0_2c h0_3_0_e1_0 h0_3_0_e1_f1 h0_3_0_e1_2 h0_3_0_e1_0k h0_3_0_e1_0c h0_3_0_e1_2k j2_h0_3_0_e1_2c h0_3_0_e2_0 h0_3_0_e2_f1 h0_3_0_e2_2 h0_3_0_e2_0k h0_3_0_e2_0c h0_3_0_e2_2k j2_h0_3_0_e2_2c h0_3_0_e3_0 h0_3_0_e3_f1 h0_3_0_e3_2 h0_3_0_e3_0k h0_3_0_e3_0c h0_3_0_e3_2k j2_h0_3_0_e3_2c h0_8_8k j2_h0_8_8c h0_8_6k h0_8_6c h0_8_7k h0_8_7c g_h0_1_f1 g_h0_1_f2 g_h0_1_f3 a_h0_1_0c a_j2_h0_6_3c g_h0_3_f1 e_h0_3_0_e0 e_h0_3_0_e1 e_h0_3_0_e2 e_h0_3_0_e3 e_h0_3_0_e4 g_h0_3_0_e0_f1 g_h0_3_0_e1_f1 g_h0_3_0_e2_f1 g_h0_3_0_e3_f1) (cwV 1 hts gf_c_X11_passApart_c_X10_passHour rfl rfl rfl mdV_X10_passHour ⟨Nat.le_of_ble_eq_true rfl, Nat.le_of_ble_eq_true rfl⟩) ⟨fun a U g mk q => by obtain ⟨q0, q1, qP, qK, qD⟩ := q; exact ⟨q0, q1, qP, va_K.moved (u := U) (U := U.calling g mk a) (Vm.Alike.refl U.vm) qK, qD⟩, hrv, fun U hU hW => ⟨rfl, by rw [hU], by rw [hU]; exact hPc, va_K.moved hW.alike hKc, hDc.weaken (fun _ _ _ _ => trivial)⟩⟩ rfl rfl hl.1 rfl (lv_room (Nat.le_of_ble_eq_true rfl)) dX11_passApart_15 ⟨Nat.le_of_ble_eq_true rfl, Nat.le_of_ble_eq_true rfl⟩) hS (fun q _ h => hFc q h) hFc (fun u t H1 locs ht hvm hw hB hz1 hk1 hS => ?_)
        obtain ⟨x_6, w_7, w_8, w_9, w_10, w_11, w_12, w_13, w_14, w_15, w_16, w_17, w_18, w_19⟩ := u
        obtain ⟨hP1, hK1, hD1⟩ := hB
        rw [ht] at hP1
        obtain ⟨hP, hD⟩ := cl_put (w1 := (wd_c_X10_passHour h0_6 h0_1 h0_3 h0_6_2 h0_6_3 h0_6_4 h0_6_5 h0_1 h0_1_0 h0_1_f1 h0_1_f2 h0_1_f3 h0_8 h0_8_f0 h0_8_f1 x_6 h0_8_f3 h0_8_4 h0_8_5 h0_8_6 h0_8_7 h0_8_8 h0_8_9 h0_8_10 h0_8_11 h0_8_12 h0_6_4 h0_6_4k w_7 h0_1_0 h0_1_0k h0_1_0c h0_6_2 h0_6_2k w_8 h0_6_3 h0_6_3k w_9 h0_8_10 h0_8_10k h0_8_10c h0_8_11 h0_8_11k w_10 h0_8_12 h0_8_12k w_11 h0_8_4 h0_8_4k w_12 h0_8_5 h0_8_5k w_13 h0_3 h0_3_0 h0_3_f1 h0_3_f2 h0_3_3 h0_3_3 h0_3_3k w_14 h0_3_0 h0_3_0k h0_3_0c h0_3_0_e0 h0_3_0_e0_0 h0_3_0_e0_f1 h0_3_0_e0_2 h0_3_0_e0_0 h0_3_0_e0_0k h0_3_0_e0_0c h0_3_0_e0_2 h0_3_0_e0_2k w_15 h0_3_0_e1 h0_3_0_e1_0 h0_3_0_e1_f1 h0_3_0_e1_2 h0_3_0_e1_0 h0_3_0_e1_0k h0_3_0_e1_0c h0_3_0_e1_2 h0_3_0_e1_2k w_16 h0_3_0_e2 h0_3_0_e2_0 h0_3_0_e2_f1 h0_3_0_e2_2 h0_3_0_e2_0 h0_3_0_e2_0k h0_3_0_e2_0c h0_3_0_e2_2 h0_3_0_e2_2k w_17 h0_3_0_e3 h0_3_0_e3_0 h0_3_0_e3_f1 h0_3_0_e3_2 h0_3_0_e3_0 h0_3_0_e3_0k h0_3_0_e3_0c h0_3_0_e3_2 h0_3_0_e3_2k w_18 h0_8_8 h0_8_8k w_19 h0_8_6 h0_8_6k h0_8_6c h0_8_7 h0_8_7k h0_8_7c)) (nw := (wd_c_X11_passApart h0 h0_0 h0_1 h0_2 h0_3 h0_4 h0_f5 h0_6 h0_7 h0_8 h0_9 h0_10 h0_11 h0_12 h0_13 h0_14 h0_f15 h0_6 h0_1 h0_3 h0_6_2 h0_6_3 h0_6_4 h0_6_5 h0_1 h0_1_0 h0_1_f1 h0_1_f2 h0_1_f3 h0_8 h0_8_f0 h0_8_f1 x_6 h0_8_f3 h0_8_4 h0_8_5 h0_8_6 h0_8_7 h0_8_8 h0_8_9 h0_8_10 h0_8_11 h0_8_12 h0_6_4 h0_6_4k w_7 h0_1_0 h0_1_0k h0_1_0c h0_6_2 h0_6_2k w_8 h0_6_3 h0_6_3k w_9 h0_8_10 h0_8_10k h0_8_10c h0_8_11 h0_8_11k w_10 h0_8_12 h0_8_12k w_11 h0_8_4 h0_8_4k w_12 h0_8_5 h0_8_5k w_13 h0_3 h0_3_0 h0_3_f1 h0_3_f2 h0_3_3 h0_3_3 h0_3_3k w_14 h0_3_0 h0_3_0k h0_3_0c h0_3_0_e0 h0_3_0_e0_0 h0_3_0_e0_f1 h0_3_0_e0_2 h0_3_0_e0_0 h0_3_0_e0_0k h0_3_0_e0_0c h0_3_0_e0_2 h0_3_0_e0_2k w_15 h0_3_0_e1 h0_3_0_e1_0 h0_3_0_e1_f1 h0_3_0_e1_2 h0_3_0_e1_0 h0_3_0_e1_0k h0_3_0_e1_0c h0_3_0_e1_2 h0_3_0_e1_2k w_16 h0_3_0_e2 h0_3_0_e2_0 h0_3_0_e2_f1 h0_3_0_e2_2 h0_3_0_e2_0 h0_3_0_e2_0k h0_3_0_e2_0c h0_3_0_e2_2 h0_3_0_e2_2k w_17 h0_3_0_e3 h0_3_0_e3_0 h0_3_0_e3_f1 h0_3_0_e3_2 h0_3_0_e3_0 h0_3_0_e3_0k h0_3_0_e3_0c h0_3_0_e3_2 h0_3_0_e3_2k w_18 h0_8_8 h0_8_8k w_19 h0_8_6 h0_8_6k h0_8_6c h0_8_7 h0_8_7k h0_8_7c)) hP hD [1, 2, 3, 4, 5, 6, 7, 8, 9, 10, 11, 12, 13, 14, 15, 16, 17, 18, 19, 20, 21, 22, 23, 24, 25, 26, 27, 28, 29, 30] [0, 31, 32, 33, 34, 35, 36, 37, 38, 39, 40, 41, 42, 43, 44, 45, 46, 47, 48, 49, 50, 51, 52, 53, 54, 55, 56, 57, 58, 59, 60] 31 rfl hqc (by decide +kernel) rfl hk1 hFc hP1 hD1
        generalize H1 = H at hP hS ⊢
        as_aux_lemma =>
        rcases hw with ⟨h_20, h_21⟩
        obtain ⟨x_22, ex_22⟩ : ∃ y : Int32, y = j2_l2 + 1 := ⟨_, rfl⟩
        have g_23 : RG x_22 1 9 := RG_add ex_22 g_3 (RG_k 1 1 rfl) (by decide +kernel)
        refine lv_iinc (v := x_22) (lv' := [(2, .int x_22), (0, .ref h0), (1, .int p1)]) hx hb dX11_passApart_18 hl (k := 0) rfl (by rw [ex_22]; rfl) (Nat.le_of_ble_eq_true rfl) rfl (fun ls hl => ?_)
        refine lv_goto (tgt := 2) hx hb dX11_passApart_21 rfl ?_
        exact hU _ _ _ (ih2 x_22 x_6 w_7 w_8 w_9 w_10 w_11 w_12 w_13 w_14 w_15 w_16 w_17 w_18 w_19 (mu_s (MU_add ex_22 g_3 (q := 1) rfl (by decide +kernel)) hM2) g_h0_1_f1 g_h0_1_f2 g_h0_1_f3 g_h0_3_0_e0_f1 g_h0_3_0_e1_f1 g_h0_3_0_e2_f1 g_h0_3_0_e3_f1 g_h0_3_f1 g_h0_f5 (RG_w g_23 (by decide +kernel)) (RG_w g_4 (by decide +kernel)) h_20 _ _ _ hP hD hS (lv_sub hl [0, 1, 2] rfl))
  refine hG _ _ _ ?_
  refine lv_iconst (v := 0) hx hb dX11_passApart_0 kc_iconst_0 ?_
  refine lv_istore_n (lv' := [(2, .int 0), (0, .ref h0), (1, .int p1)]) hx hb dX11_passApart_1 rfl hl (Nat.le_of_ble_eq_true rfl) rfl (fun ls hl => ?_)
  exact hU _ _ _ (J2 _ 0 h0_8_f2 h0_6_4c h0_6_2c h0_6_3c h0_8_11c h0_8_12c h0_8_4c h0_8_5c h0_3_3c h0_3_0_e0_2c h0_3_0_e1_2c h0_3_0_e2_2c h0_3_0_e3_2c h0_8_8c (Nat.lt_succ_self _) g_h0_1_f1 g_h0_1_f2 g_h0_1_f3 g_h0_3_0_e0_f1 g_h0_3_0_e1_f1 g_h0_3_0_e2_f1 g_h0_3_0_e3_f1 g_h0_3_f1 g_h0_f5 (RG_w (RG_k 0 0 rfl) (by decide +kernel)) g_p1 a_h0_6_3c _ _ _ hP hD hS (lv_sub hl [0, 1, 2] rfl))
noncomputable def wd_c_X11_run (a0 : Nat) (a1 : Nat) (a2 : Nat) (a3 : Nat) (a4 : Nat) (a5 : Nat) (a6 : Int32) (a7 : Nat) (a8 : Nat) (a9 : Nat) (a10 : Nat) (a11 : Nat) (a12 : Nat) (a13 : Nat) (a14 : Nat) (a15 : Nat) (a16 : Int64) (a17 : Nat) (a18 : Nat) (a19 : Int32) (a20 : Int32) (a21 : Int32) (a22 : Nat) (a23 : ClassId) (a24 : Nat → Option Nat) (a25 : Nat) (a26 : Int32) (a27 : Int32) (a28 : Int32) (a29 : Int32) (a30 : Nat) (a31 : Nat) (a32 : Nat) (a33 : Nat) (a34 : Nat) (a35 : Nat) (a36 : Nat) (a37 : Nat) (a38 : Nat) (a39 : Nat) (a40 : Int32) (a41 : Int32) (a42 : Int32) (a43 : Int32) (a44 : Nat) (a45 : Nat) (a46 : Nat) (a47 : Nat) (a48 : Nat) (a49 : Nat) (a50 : Nat) (a51 : Nat) (a52 : Nat) (a53 : Nat) (a54 : ClassId) (a55 : Nat → Int32) (a56 : Nat) (a57 : ClassId) (a58 : Nat → Int32) (a59 : Nat) (a60 : ClassId) (a61 : Nat → Int32) (a62 : Nat) (a63 : ClassId) (a64 : Nat → Int32) (a65 : Nat) (a66 : ClassId) (a67 : Nat → Int32) (a68 : Nat) (a69 : ClassId) (a70 : Nat → Int32) (a71 : Nat) (a72 : ClassId) (a73 : Nat → Int32) (a74 : Nat) (a75 : ClassId) (a76 : Nat → Int32) (a77 : Nat) (a78 : ClassId) (a79 : Nat → Int32) (a80 : Nat) (a81 : ClassId) (a82 : Nat → Int32) (a83 : Nat) (a84 : ClassId) (a85 : Nat → Int32) (a86 : Nat) (a87 : ClassId) (a88 : Nat → Int32) (a89 : Nat) (a90 : ClassId) (a91 : Nat → Int32) (a92 : Nat) (a93 : ClassId) (a94 : Nat → Int32) (a95 : Nat) (a96 : ClassId) (a97 : Nat → Int32) (a98 : Nat) (a99 : ClassId) (a100 : Nat → Int32) (a101 : Nat) (a102 : ClassId) (a103 : Nat → Int32) (a104 : Nat) (a105 : ClassId) (a106 : Nat → Int32) (a107 : Nat) (a108 : Nat) (a109 : Int32) (a110 : Nat) (a111 : ClassId) (a112 : Nat → Int32) (a113 : Nat) (a114 : ClassId) (a115 : Nat → Int32) (a116 : Nat) (a117 : Nat) (a118 : Nat) (a119 : Nat) (a120 : Nat) (a121 : Nat) (a122 : Nat) (a123 : Nat) (a124 : ClassId) (a125 : Nat → Int32) (a126 : Nat) (a127 : ClassId) (a128 : Nat → Int32) (a129 : Nat) (a130 : ClassId) (a131 : Nat → Int32) (a132 : Nat) (a133 : Nat) (a134 : Int32) (a135 : Int32) (a136 : Nat) (a137 : Nat) (a138 : ClassId) (a139 : Nat → Int32) (a140 : Nat) (a141 : ClassId) (a142 : Nat → Option Nat) (a143 : Nat) (a144 : Nat) (a145 : Int32) (a146 : Nat) (a147 : Nat) (a148 : ClassId) (a149 : Nat → Int32) (a150 : Nat) (a151 : ClassId) (a152 : Nat → Int32) (a153 : Nat) (a154 : Nat) (a155 : Int32) (a156 : Nat) (a157 : Nat) (a158 : ClassId) (a159 : Nat → Int32) (a160 : Nat) (a161 : ClassId) (a162 : Nat → Int32) (a163 : Nat) (a164 : Nat) (a165 : Int32) (a166 : Nat) (a167 : Nat) (a168 : ClassId) (a169 : Nat → Int32) (a170 : Nat) (a171 : ClassId) (a172 : Nat → Int32) (a173 : Nat) (a174 : Nat) (a175 : Int32) (a176 : Nat) (a177 : Nat) (a178 : ClassId) (a179 : Nat → Int32) (a180 : Nat) (a181 : ClassId) (a182 : Nat → Int32) : va_W := [(a0, .inr (11, [.ref a1, .ref a2, .ref a3, .ref a4, .ref a5, .int a6, .ref a7, .ref a8, .ref a9, .ref a10, .ref a11, .ref a12, .ref a13, .ref a14, .ref a15, .long a16])), (a17, .inr (0, [.ref a18, .int a19, .int a20, .int a21])), (a22, .inl (a23, 5, .inr (.inr (.inr (.inr a24))))), (a25, .inr (7, [.int a26, .int a27, .int a28, .int a29, .ref a30, .ref a31, .ref a32, .ref a33, .ref a34, .ref a35, .ref a36, .ref a37, .ref a38])), (a39, .inr (7, [.int a40, .int a41, .int a42, .int a43, .ref a44, .ref a45, .ref a46, .ref a47, .ref a48, .ref a49, .ref a50, .ref a51, .ref a52])), (a53, .inl (a54, 3, .inl a55)), (a56, .inl (a57, 3, .inl a58)), (a59, .inl (a60, 3, .inl a61)), (a62, .inl (a63, 3, .inl a64)), (a65, .inl (a66, 3, .inl a67)), (a68, .inl (a69, 3, .inl a70)), (a71, .inl (a72, 3, .inl a73)), (a74, .inl (a75, 3, .inl a76)), (a77, .inl (a78, 3, .inl a79)), (a80, .inl (a81, 3, .inl a82)), (a83, .inl (a84, 3, .inl a85)), (a86, .inl (a87, 3, .inl a88)), (a89, .inl (a90, 24, .inl a91)), (a92, .inl (a93, 24, .inl a94)), (a95, .inl (a96, 8, .inl a97)), (a98, .inl (a99, 8, .inl a100)), (a101, .inl (a102, 8, .inl a103)), (a104, .inl (a105, 8, .inl a106)), (a107, .inr (6, [.ref a108, .int a109])), (a110, .inl (a111, 64, .inl a112)), (a113, .inl (a114, 80, .inl a115)), (a116, .inr (10, [.ref a117, .ref a118, .ref a119, .ref a120, .ref a121, .ref a122])), (a123, .inl (a124, 3, .inl a125)), (a126, .inl (a127, 3, .inl a128)), (a129, .inl (a130, 8, .inl a131)), (a132, .inr (5, [.ref a133, .int a134, .int a135, .ref a136])), (a137, .inl (a138, 6, .inl a139)), (a140, .inl (a141, 5, .inr (.inr (.inr (.inr a142))))), (a143, .inr (4, [.ref a144, .int a145, .ref a146])), (a147, .inl (a148, 240, .inl a149)), (a150, .inl (a151, 64, .inl a152)), (a153, .inr (4, [.ref a154, .int a155, .ref a156])), (a157, .inl (a158, 240, .inl a159)), (a160, .inl (a161, 64, .inl a162)), (a163, .inr (4, [.ref a164, .int a165, .ref a166])), (a167, .inl (a168, 240, .inl a169)), (a170, .inl (a171, 64, .inl a172)), (a173, .inr (4, [.ref a174, .int a175, .ref a176])), (a177, .inl (a178, 240, .inl a179)), (a180, .inl (a181, 64, .inl a182))]
noncomputable def wf_c_X11_run : List Cond := List.cons (.code yX11_run cX11_run 6 (some .int)) (@HAppend.hAppend (List Cond) (List Cond) (List Cond) _ (@HAppend.hAppend (List Cond) (List Cond) (List Cond) _ (@HAppend.hAppend (List Cond) (List Cond) (List Cond) _ (@HAppend.hAppend (List Cond) (List Cond) (List Cond) _ (@HAppend.hAppend (List Cond) (List Cond) (List Cond) _ (@HAppend.hAppend (List Cond) (List Cond) (List Cond) _ (@HAppend.hAppend (List Cond) (List Cond) (List Cond) _ [.methodLink RX11 293 yX11_isPlan, .instanceMethod yX11_isPlan, .selects RX11 yX11_isPlan yX11_isPlan, .initialized RX11, .code yX11_isPlan cX11_isPlan 2 (some .boolean), .fieldLink RX11 126 "BuoyVote" "planCount" "I", .constant RX11 228 (-1000000), .methodLink RX11 140 yX11_hasBorough, .instanceMethod yX11_hasBorough, .selects RX11 yX11_hasBorough yX11_hasBorough, .code yX11_hasBorough cX11_hasBorough 1 (some .boolean), .fieldLink RX11 19 "BuoyVote" "told" "LBuoyVote$Borough;", .fieldLink RX11 275 "BuoyVote$Borough" "buoys" "I", .methodLink RX11 111 yX11_isWithin, .static yX11_isWithin, .code yX11_isWithin cX11_isWithin 3 (some .boolean), .fieldLink RX11 35 "BuoyVote" "plans" "[LBuoyVote$Plan;", .fieldLink RX11 56 "BuoyVote" "apart" "LBuoyVote$Sea;", .fieldLink RX11 52 "BuoyVote" "now" "LBuoyVote$Sea;", .methodLink RX11 302 yX7_copyFrom, .instanceMethod yX7_copyFrom, .selects RX7 yX7_copyFrom yX7_copyFrom, .initialized RX7, .code yX7_copyFrom cX7_copyFrom 2 none, .fieldLink RX7 45 "BuoyVote$Sea" "wind" "I", .fieldLink RX7 52 "BuoyVote$Sea" "way" "I", .fieldLink RX7 55 "BuoyVote$Sea" "hour" "I", .fieldLink RX7 58 "BuoyVote$Sea" "logged" "I", .fieldLink RX7 9 "BuoyVote$Sea" "x" "[I", .methodLink RX7 88 arraycopyName, .native arraycopyName, .static arraycopyName, .initialized "java/lang/System", .fieldLink RX7 15 "BuoyVote$Sea" "y" "[I", .fieldLink RX7 18 "BuoyVote$Sea" "goalX" "[I", .fieldLink RX7 21 "BuoyVote$Sea" "goalY" "[I", .fieldLink RX7 24 "BuoyVote$Sea" "won" "[I", .fieldLink RX7 27 "BuoyVote$Sea" "sang" "[I", .fieldLink RX7 30 "BuoyVote$Sea" "liking" "[I", .fieldLink RX7 33 "BuoyVote$Sea" "old" "[I", .fieldLink RX7 36 "BuoyVote$Sea" "barnacles" "[I", .fieldLink RX11 296 "BuoyVote$Plan" "steps" "I", .methodLink RX11 305 yX11_canDo, .instanceMethod yX11_canDo, .selects RX11 yX11_canDo yX11_canDo, .code yX11_canDo cX11_canDo 6 (some .boolean), .methodLink RX11 299 yX6_part, .instanceMethod yX6_part, .selects RX6 yX6_part yX6_part, .initialized RX6, .code yX6_part cX6_part 3 (some .int), .fieldLink RX6 11 "BuoyVote$Plan" "cells" "[I", .methodLink RX11 232 yX11_canRow, .instanceMethod yX11_canRow, .selects RX11 yX11_canRow yX11_canRow, .code yX11_canRow cX11_canRow 5 (some .boolean), .methodLink RX11 191 yX11_isBoat, .instanceMethod yX11_isBoat, .selects RX11 yX11_isBoat yX11_isBoat, .code yX11_isBoat cX11_isBoat 2 (some .boolean), .fieldLink RX11 272 "BuoyVote$Borough" "boats" "I", .fieldLink RX11 206 "BuoyVote$Sea" "goalX" "[I", .fieldLink RX11 209 "BuoyVote$Sea" "goalY" "[I", .methodLink RX11 248 yX11_canSing, .instanceMethod yX11_canSing, .selects RX11 yX11_canSing yX11_canSing, .code yX11_canSing cX11_canSing 4 (some .boolean), .methodLink RX11 163 yX11_isBuoy, .instanceMethod yX11_isBuoy, .selects RX11 yX11_isBuoy yX11_isBuoy, .code yX11_isBuoy cX11_isBuoy 2 (some .boolean), .methodLink RX11 416 yX11_isBeside, .instanceMethod yX11_isBeside, .selects RX11 yX11_isBeside yX11_isBeside, .code yX11_isBeside cX11_isBeside 4 (some .boolean), .methodLink RX11 169 yX0_buoyX, .instanceMethod yX0_buoyX, .selects RX0 yX0_buoyX yX0_buoyX, .initialized RX0, .code yX0_buoyX cX0_buoyX 2 (some .int), .fieldLink RX0 11 "BuoyVote$Borough" "values" "[I", .methodLink RX11 172 yX0_buoyY, .instanceMethod yX0_buoyY, .selects RX0 yX0_buoyY yX0_buoyY, .code yX0_buoyY cX0_buoyY 2 (some .int), .methodLink RX11 240 yX7_awayOf, .instanceMethod yX7_awayOf, .selects RX7 yX7_awayOf yX7_awayOf, .code yX7_awayOf cX7_awayOf 4 (some .int), .methodLink RX7 99 Lib.Math.abs.name, .static Lib.Math.abs.name, .initialized "java/lang/Math", .code Lib.Math.abs.name Lib.Math.abs.code 1 (some .int), .fieldLink RX11 188 "BuoyVote$Sea" "liking" "[I", .methodLink RX11 256 yX11_canScrape, .instanceMethod yX11_canScrape, .selects RX11 yX11_canScrape yX11_canScrape, .code yX11_canScrape cX11_canScrape 4 (some .boolean), .fieldLink RX11 181 "BuoyVote$Sea" "barnacles" "[I", .methodLink RX11 312 yX11_change, .instanceMethod yX11_change, .selects RX11 yX11_change yX11_change, .code yX11_change cX11_change 6 none, .methodLink RX11 252 yX7_singTo, .instanceMethod yX7_singTo, .selects RX7 yX7_singTo yX7_singTo, .code yX7_singTo cX7_singTo 3 none, .methodLink RX11 309 yX11_passApart, .instanceMethod yX11_passApart, .selects RX11 yX11_passApart yX11_passApart, .code yX11_passApart cX11_passApart 3 none, .fieldLink RX11 45 "BuoyVote" "waters" "LBuoyVote$Waters;", .methodLink RX11 392 yX10_passHour, .instanceMethod yX10_passHour, .selects RX10 yX10_passHour yX10_passHour, .initialized RX10, .code yX10_passHour cX10_passHour 3 none, .fieldLink RX10 9 "BuoyVote$Waters" "told" "LBuoyVote$Borough;", .fieldLink RX10 93 "BuoyVote$Borough" "boats" "I", .fieldLink RX10 60 "BuoyVote$Sea" "hour" "I", .methodLink RX10 111 yX10_tallyUp, .instanceMethod yX10_tallyUp, .selects RX10 yX10_tallyUp yX10_tallyUp, .code yX10_tallyUp cX10_tallyUp 4 none, .fieldLink RX10 26 "BuoyVote$Waters" "tally" "[I", .fieldLink RX10 105 "BuoyVote$Borough" "buoys" "I", .fieldLink RX10 23 "BuoyVote$Waters" "leans" "[I", .methodLink RX10 99 yX0_chain, .instanceMethod yX0_chain, .selects RX0 yX0_chain yX0_chain, .code yX0_chain cX0_chain 2 (some .int), .methodLink RX10 102 yX10_leanBy, .instanceMethod yX10_leanBy, .selects RX10 yX10_leanBy yX10_leanBy, .code yX10_leanBy cX10_leanBy 5 (some .int), .fieldLink RX10 19 "BuoyVote$Waters" "draws" "[I", .methodLink RX10 96 yX10_drawOf, .instanceMethod yX10_drawOf, .selects RX10 yX10_drawOf yX10_drawOf, .code yX10_drawOf cX10_drawOf 7 (some .int), .fieldLink RX10 67 "BuoyVote$Sea" "liking" "[I", .fieldLink RX10 70 "BuoyVote$Sea" "old" "[I", .fieldLink RX10 73 "BuoyVote$Sea" "barnacles" "[I", .methodLink RX10 43 yX0_buoyX, .methodLink RX10 50 yX0_buoyY, .methodLink RX10 76 yX7_awayOf, .fieldLink RX10 15 "BuoyVote$Waters" "laws" "LBuoyVote$LawBook;", .methodLink RX10 80 yX0_voice, .instanceMethod yX0_voice, .selects RX0 yX0_voice yX0_voice, .code yX0_voice cX0_voice 2 (some .int), .methodLink RX10 83 yX10_pushOf, .instanceMethod yX10_pushOf, .selects RX10 yX10_pushOf yX10_pushOf, .code yX10_pushOf cX10_pushOf 10 (some .int), .fieldLink RX10 38 "BuoyVote$Sea" "x" "[I", .fieldLink RX10 47 "BuoyVote$Sea" "y" "[I", .fieldLink RX10 53 "BuoyVote$Sea" "way" "I", .fieldLink RX10 57 "BuoyVote$Sea" "wind" "I", .methodLink RX10 63 yX10_isRising, .instanceMethod yX10_isRising, .selects RX10 yX10_isRising yX10_isRising, .code yX10_isRising cX10_isRising 3 (some .boolean), .methodLink RX10 32 yX0_tideHours, .instanceMethod yX0_tideHours, .selects RX0 yX0_tideHours yX0_tideHours, .code yX0_tideHours cX0_tideHours 1 (some .int), .methodLink RX10 87 yX5_drawBy, .instanceMethod yX5_drawBy, .selects RX5 yX5_drawBy yX5_drawBy, .initialized RX5, .code yX5_drawBy cX5_drawBy 8 (some .int), .fieldLink RX5 18 "BuoyVote$LawBook" "holding" "I", .fieldLink RX5 26 "BuoyVote$LawBook" "size" "I", .fieldLink RX5 22 "BuoyVote$LawBook" "letters" "[I", .fieldLink RX5 11 "BuoyVote$LawBook" "laws" "[LBuoyVote$Law;", .methodLink RX5 29 yX4_worth, .instanceMethod yX4_worth, .selects RX4 yX4_worth yX4_worth, .initialized RX4, .code yX4_worth cX4_worth 6 (some .int), .fieldLink RX4 20 "BuoyVote$Law" "length" "I", .fieldLink RX4 11 "BuoyVote$Law" "code" "[I", .fieldLink RX4 17 "BuoyVote$Law" "stack" "[I", .methodLink RX4 24 yX4_joinedAt, .instanceMethod yX4_joinedAt, .selects RX4 yX4_joinedAt yX4_joinedAt, .code yX4_joinedAt cX4_joinedAt 7 (some .int), .constantLong RX4 28 (1000000), .constantLong RX4 31 (-1000000), .constant RX4 33 (-1000000), .constant RX4 30 (1000000), .methodLink RX10 127 yX0_countHours, .instanceMethod yX0_countHours, .selects RX0 yX0_countHours yX0_countHours, .code yX0_countHours cX0_countHours 1 (some .int), .methodLink RX10 130 yX10_holdCount, .instanceMethod yX10_holdCount, .selects RX10 yX10_holdCount yX10_holdCount, .code yX10_holdCount cX10_holdCount 5 none, .methodLink RX10 133 yX10_winner, .instanceMethod yX10_winner, .selects RX10 yX10_winner yX10_winner, .code yX10_winner cX10_winner 4 (some .int), .fieldLink RX10 136 "BuoyVote$Sea" "won" "[I", .methodLink RX10 139 Lib.Math.min.name, .static Lib.Math.min.name, .code Lib.Math.min.name Lib.Math.min.code 2 (some .int), .methodLink RX10 120 yX0_speed, .instanceMethod yX0_speed, .selects RX0 yX0_speed yX0_speed, .code yX0_speed cX0_speed 2 (some .int), .methodLink RX10 123 yX7_rowOn, .instanceMethod yX7_rowOn, .selects RX7 yX7_rowOn yX7_rowOn, .code yX7_rowOn cX7_rowOn 7 none, .methodLink RX7 94 Lib.Math.min.name] wsX110) wsX00) wsX70) wsX60) wsX100) wsX50) wsX40)
theorem iw_c_X11_run_X11 : ∀ w ∈ wsX110, w ∈ wf_c_X11_run := fun w h => List.mem_cons_of_mem _ (List.mem_append_left _ (List.mem_append_left _ (List.mem_append_left _ (List.mem_append_left _ (List.mem_append_left _ (List.mem_append_left _ (List.mem_append_right _ h)))))))
theorem iw_c_X11_run_X0 : ∀ w ∈ wsX00, w ∈ wf_c_X11_run := fun w h => List.mem_cons_of_mem _ (List.mem_append_left _ (List.mem_append_left _ (List.mem_append_left _ (List.mem_append_left _ (List.mem_append_left _ (List.mem_append_right _ h))))))
theorem iw_c_X11_run_X7 : ∀ w ∈ wsX70, w ∈ wf_c_X11_run := fun w h => List.mem_cons_of_mem _ (List.mem_append_left _ (List.mem_append_left _ (List.mem_append_left _ (List.mem_append_left _ (List.mem_append_right _ h)))))
theorem iw_c_X11_run_X6 : ∀ w ∈ wsX60, w ∈ wf_c_X11_run := fun w h => List.mem_cons_of_mem _ (List.mem_append_left _ (List.mem_append_left _ (List.mem_append_left _ (List.mem_append_right _ h))))
theorem iw_c_X11_run_X10 : ∀ w ∈ wsX100, w ∈ wf_c_X11_run := fun w h => List.mem_cons_of_mem _ (List.mem_append_left _ (List.mem_append_left _ (List.mem_append_right _ h)))
theorem iw_c_X11_run_X5 : ∀ w ∈ wsX50, w ∈ wf_c_X11_run := fun w h => List.mem_cons_of_mem _ (List.mem_append_left _ (List.mem_append_right _ h))
theorem iw_c_X11_run_X4 : ∀ w ∈ wsX40, w ∈ wf_c_X11_run := fun w h => List.mem_cons_of_mem _ (List.mem_append_right _ h)
set_option maxRecDepth 20000 in
theorem gf_c_X11_run_c_X11_canDo : GoodIn wf_c_X11_run (wsV RX11 305 RX11 yX11_canDo wf_c_X11_canDo) := goodIn_app (gi_l [43, 44, 45, 4] rfl rfl) (gi_cons (j := 46) rfl rfl (goodIn_app (goodIn_app (goodIn_app (goodIn_app (gi_l [47, 48, 49, 50, 51, 52, 53, 54, 55, 4, 56, 57, 58, 59, 60, 12, 61, 14, 15, 16, 62, 63, 64, 65, 66, 67, 68, 69, 70, 71, 13, 72, 73, 74, 75, 76, 77, 78, 79, 80, 81, 82, 83, 84, 85, 86, 87, 88, 23, 89, 29, 90, 91, 92, 93, 34, 94, 95, 96, 97, 98, 99] rfl rfl) (goodIn_sub iw_c_X11_run_X6 gw_X6)) (goodIn_sub iw_c_X11_run_X11 gw_X11)) (goodIn_sub iw_c_X11_run_X0 gw_X0)) (goodIn_sub iw_c_X11_run_X7 gw_X7)))
set_option maxRecDepth 20000 in
theorem gf_c_X11_run_c_X6_part : GoodIn wf_c_X11_run (wsV RX11 299 RX6 yX6_part wf_c_X6_part) := goodIn_app (gi_l [47, 48, 49, 50] rfl rfl) (gi_cons (j := 51) rfl rfl (goodIn_app (gi_l [52] rfl rfl) (goodIn_sub iw_c_X11_run_X6 gw_X6)))
set_option maxRecDepth 20000 in
theorem gf_c_X11_run_c_X11_change : GoodIn wf_c_X11_run (wsV RX11 312 RX11 yX11_change wf_c_X11_change) := goodIn_app (gi_l [100, 101, 102, 4] rfl rfl) (gi_cons (j := 103) rfl rfl (goodIn_app (goodIn_app (gi_l [47, 48, 49, 50, 51, 52, 62, 63] rfl rfl) (goodIn_sub iw_c_X11_run_X6 gw_X6)) (goodIn_sub iw_c_X11_run_X7 gw_X7)))
set_option maxRecDepth 20000 in
theorem gf_c_X11_run_c_X11_change_1 : GoodIn wf_c_X11_run (wsV RX11 312 RX11 yX11_change wf_c_X11_change_1) := goodIn_app (gi_l [100, 101, 102, 4] rfl rfl) (gi_cons (j := 103) rfl rfl (goodIn_app (goodIn_app (gi_l [47, 48, 49, 50, 51, 52, 104, 105, 106, 23, 107, 39, 38] rfl rfl) (goodIn_sub iw_c_X11_run_X6 gw_X6)) (goodIn_sub iw_c_X11_run_X7 gw_X7)))
set_option maxRecDepth 20000 in
theorem gf_c_X11_run_c_X11_change_2 : GoodIn wf_c_X11_run (wsV RX11 312 RX11 yX11_change wf_c_X11_change_2) := goodIn_app (gi_l [100, 101, 102, 4] rfl rfl) (gi_cons (j := 103) rfl rfl (goodIn_app (goodIn_app (gi_l [47, 48, 49, 50, 51, 52, 99] rfl rfl) (goodIn_sub iw_c_X11_run_X6 gw_X6)) (goodIn_sub iw_c_X11_run_X7 gw_X7)))
set_option maxRecDepth 20000 in
theorem gf_c_X11_run_c_X11_change_3 : GoodIn wf_c_X11_run (wsV RX11 312 RX11 yX11_change wf_c_X11_change_3) := goodIn_app (gi_l [100, 101, 102, 4] rfl rfl) (gi_cons (j := 103) rfl rfl (goodIn_app (gi_l [47, 48, 49, 50, 51, 52] rfl rfl) (goodIn_sub iw_c_X11_run_X6 gw_X6)))
set_option maxRecDepth 20000 in
theorem gf_c_X11_run_c_X11_change_4 : GoodIn wf_c_X11_run (wsV RX11 312 RX11 yX11_change wf_c_X11_change_4) := goodIn_app (gi_l [100, 101, 102, 4] rfl rfl) (gi_cons (j := 103) rfl rfl (goodIn_app (gi_l [47, 48, 49, 50, 51, 52] rfl rfl) (goodIn_sub iw_c_X11_run_X6 gw_X6)))
set_option maxRecDepth 20000 in
theorem gf_c_X11_run_c_X11_passApart : GoodIn wf_c_X11_run (wsV RX11 309 RX11 yX11_passApart wf_c_X11_passApart) := goodIn_app (gi_l [108, 109, 110, 4] rfl rfl) (gi_cons (j := 111) rfl rfl (goodIn_app (goodIn_app (goodIn_app (goodIn_app (goodIn_app (goodIn_app (gi_l [112, 18, 113, 114, 115, 116, 117, 118, 119, 120, 121, 122, 123, 124, 125, 126, 127, 128, 129, 130, 79, 131, 81, 132, 133, 134, 135, 136, 137, 138, 139, 140, 141, 142, 143, 144, 77, 78, 80, 145, 83, 84, 85, 146, 87, 88, 23, 89, 29, 90, 91, 92, 93, 34, 147, 148, 149, 150, 151, 152, 153, 154, 155, 156, 157, 158, 159, 160, 161, 162, 163, 164, 165, 166, 167, 168, 169, 170, 171, 172, 173, 174, 175, 176, 177, 178, 179, 180, 181, 182, 183, 184, 185, 186, 187, 188, 189, 190, 191, 192, 193, 194, 195, 196, 197, 198, 199, 200, 201, 202, 203, 204, 205, 206, 207, 208, 209, 210, 211, 212, 213, 214, 215, 216, 35, 217, 36] rfl rfl) (goodIn_sub iw_c_X11_run_X11 gw_X11)) (goodIn_sub iw_c_X11_run_X10 gw_X10)) (goodIn_sub iw_c_X11_run_X0 gw_X0)) (goodIn_sub iw_c_X11_run_X7 gw_X7)) (goodIn_sub iw_c_X11_run_X5 gw_X5)) (goodIn_sub iw_c_X11_run_X4 gw_X4)))
set_option maxRecDepth 20000 in
theorem gf_c_X11_run_c_X11_isPlan : GoodIn wf_c_X11_run (wsV RX11 293 RX11 yX11_isPlan wf_c_X11_isPlan) := goodIn_app (gi_l [1, 2, 3, 4] rfl rfl) (gi_cons (j := 5) rfl rfl (goodIn_app (gi_l [6] rfl rfl) (goodIn_sub iw_c_X11_run_X11 gw_X11)))
set_option maxRecDepth 20000 in
theorem gf_c_X11_run_c_X11_hasBorough : GoodIn wf_c_X11_run (wsV RX11 140 RX11 yX11_hasBorough wf_c_X11_hasBorough) := goodIn_app (gi_l [8, 9, 10, 4] rfl rfl) (gi_cons (j := 11) rfl rfl (goodIn_app (goodIn_app (gi_l [12, 13] rfl rfl) (goodIn_sub iw_c_X11_run_X11 gw_X11)) (goodIn_sub iw_c_X11_run_X0 gw_X0)))
set_option maxRecDepth 20000 in
theorem gf_c_X11_run_c_X11_isWithin_8 : GoodIn wf_c_X11_run (va_wsS RX11 111 yX11_isWithin wf_c_X11_isWithin_8) := goodIn_app (gi_l [14, 15, 4] rfl rfl) (gi_cons (j := 16) rfl rfl gi_nil)
set_option maxRecDepth 20000 in
theorem gf_c_X11_run_c_X7_copyFrom : GoodIn wf_c_X11_run (wsV RX11 302 RX7 yX7_copyFrom wf_c_X7_copyFrom) := goodIn_app (gi_l [20, 21, 22, 23] rfl rfl) (gi_cons (j := 24) rfl rfl (goodIn_app (gi_l [25, 26, 27, 28, 29, 30, 31, 32, 33, 34, 35, 36, 37, 38, 39, 40, 41] rfl rfl) (goodIn_sub iw_c_X11_run_X7 gw_X7)))
set_option maxHeartbeats 4000000 in
set_option maxRecDepth 100000 in
theorem c_X11_run (l : Launch) (dC : Nat → ClassId) (dI : Nat → Nat → Nat) (sz : Nat) (h0 : Nat) (p1 : Int32) (p2 : Int32) (z : Nat) (h0_0 : Nat) (h0_1 : Nat) (h0_2 : Nat) (h0_3 : Nat) (h0_4 : Nat) (h0_f5 : Int32) (h0_6 : Nat) (h0_7 : Nat) (h0_8 : Nat) (h0_9 : Nat) (h0_10 : Nat) (h0_11 : Nat) (h0_12 : Nat) (h0_13 : Nat) (h0_14 : Nat) (h0_f15 : Int64) (h0_1_0 : Nat) (h0_1_f1 : Int32) (h0_1_f2 : Int32) (h0_1_f3 : Int32) (h0_4k : ClassId) (h0_4c : Nat → Option Nat) (h0_7_f0 : Int32) (h0_7_f1 : Int32) (h0_7_f2 : Int32) (h0_7_f3 : Int32) (h0_7_4 : Nat) (h0_7_5 : Nat) (h0_7_6 : Nat) (h0_7_7 : Nat) (h0_7_8 : Nat) (h0_7_9 : Nat) (h0_7_10 : Nat) (h0_7_11 : Nat) (h0_7_12 : Nat) (h0_8_f0 : Int32) (h0_8_f1 : Int32) (h0_8_f2 : Int32) (h0_8_f3 : Int32) (h0_8_4 : Nat) (h0_8_5 : Nat) (h0_8_6 : Nat) (h0_8_7 : Nat) (h0_8_8 : Nat) (h0_8_9 : Nat) (h0_8_10 : Nat) (h0_8_11 : Nat) (h0_8_12 : Nat) (h0_7_4k : ClassId) (h0_7_4c : Nat → Int32) (h0_8_4k : ClassId) (h0_8_4c : Nat → Int32) (h0_7_5k : ClassId) (h0_7_5c : Nat → Int32) (h0_8_5k : ClassId) (h0_8_5c : Nat → Int32) (h0_7_6k : ClassId) (h0_7_6c : Nat → Int32) (h0_8_6k : ClassId) (h0_8_6c : Nat → Int32) (h0_7_7k : ClassId) (h0_7_7c : Nat → Int32) (h0_8_7k : ClassId) (h0_8_7c : Nat → Int32) (h0_7_8k : ClassId) (h0_7_8c : Nat → Int32) (h0_8_8k : ClassId) (h0_8_8c : Nat → Int32) (h0_7_9k : ClassId) (h0_7_9c : Nat → Int32) (h0_8_9k : ClassId) (h0_8_9c : Nat → Int32) (h0_7_10k : ClassId) (h0_7_10c : Nat → Int32) (h0_8_10k : ClassId) (h0_8_10c : Nat → Int32) (h0_7_11k : ClassId) (h0_7_11c : Nat → Int32) (h0_8_11k : ClassId) (h0_8_11c : Nat → Int32) (h0_7_12k : ClassId) (h0_7_12c : Nat → Int32) (h0_8_12k : ClassId) (h0_8_12c : Nat → Int32) (z_0 : Nat) (z_f1 : Int32) (z_0k : ClassId) (z_0c : Nat → Int32) (h0_1_0k : ClassId) (h0_1_0c : Nat → Int32) (h0_6_2 : Nat) (h0_6_3 : Nat) (h0_6_4 : Nat) (h0_6_5 : Nat) (h0_6_4k : ClassId) (h0_6_4c : Nat → Int32) (h0_6_2k : ClassId) (h0_6_2c : Nat → Int32) (h0_6_3k : ClassId) (h0_6_3c : Nat → Int32) (h0_3_0 : Nat) (h0_3_f1 : Int32) (h0_3_f2 : Int32) (h0_3_3 : Nat) (h0_3_3k : ClassId) (h0_3_3c : Nat → Int32) (h0_3_0k : ClassId) (h0_3_0c : Nat → Option Nat) (h0_3_0_e0 : Nat) (h0_3_0_e1 : Nat) (h0_3_0_e2 : Nat) (h0_3_0_e3 : Nat) (h0_3_0_e4 : Nat) (h0_3_0_e0_0 : Nat) (h0_3_0_e0_f1 : Int32) (h0_3_0_e0_2 : Nat) (h0_3_0_e0_0k : ClassId) (h0_3_0_e0_0c : Nat → Int32) (h0_3_0_e0_2k : ClassId) (h0_3_0_e0_2c : Nat → Int32) (h0_3_0_e1_0 : Nat) (h0_3_0_e1_f1 : Int32) (h0_3_0_e1_2 : Nat) (h0_3_0_e1_0k : ClassId) (h0_3_0_e1_0c : Nat → Int32) (h0_3_0_e1_2k : ClassId) (h0_3_0_e1_2c : Nat → Int32) (h0_3_0_e2_0 : Nat) (h0_3_0_e2_f1 : Int32) (h0_3_0_e2_2 : Nat) (h0_3_0_e2_0k : ClassId) (h0_3_0_e2_0c : Nat → Int32) (h0_3_0_e2_2k : ClassId) (h0_3_0_e2_2c : Nat → Int32) (h0_3_0_e3_0 : Nat) (h0_3_0_e3_f1 : Int32) (h0_3_0_e3_2 : Nat) (h0_3_0_e3_0k : ClassId) (h0_3_0_e3_0c : Nat → Int32) (h0_3_0_e3_2k : ClassId) (h0_3_0_e3_2c : Nat → Int32) (g_h0_f5 : RG h0_f5 0 4) (g_h0_1_f1 : RG h0_1_f1 0 8) (g_h0_1_f2 : RG h0_1_f2 0 3) (g_h0_1_f3 : RG h0_1_f3 0 1) (hz : RG p1 0 3 → h0_4c p1.toNatClampNeg = some z) (g_h0_7_f2 : RG h0_7_f2 0 9999) (g_h0_7_f3 : RG h0_7_f3 0 9999) (g_z_f1 : RG z_f1 0 16) (a_z_0c : AI z_0c (-1) 9) (a_h0_1_0c : AI h0_1_0c (-1) 99) (a_h0_6_3c : AI h0_6_3c (-1) 2) (g_h0_3_f1 : RG h0_3_f1 0 4) (e_h0_3_0_e0 : h0_3_0c 0 = some h0_3_0_e0) (e_h0_3_0_e1 : h0_3_0c 1 = some h0_3_0_e1) (e_h0_3_0_e2 : h0_3_0c 2 = some h0_3_0_e2) (e_h0_3_0_e3 : h0_3_0c 3 = some h0_3_0_e3) (e_h0_3_0_e4 : h0_3_0c 4 = some h0_3_0_e4) (g_h0_3_0_e0_f1 : RG h0_3_0_e0_f1 0 240) (g_h0_3_0_e1_f1 : RG h0_3_0_e1_f1 0 240) (g_h0_3_0_e2_f1 : RG h0_3_0_e2_f1 0 240) (g_h0_3_0_e3_f1 : RG h0_3_0_e3_f1 0 240) : Met l yX11_run wf_c_X11_run ({ frames := 7, cells := 0, slots := 0, locals := 171 }) (va_Pc [.ref h0, .int p1, .int p2] (fun U => U.heap.size = sz ∧ va_P (dC, dI) vwCl (wd_c_X11_run h0 h0_0 h0_1 h0_2 h0_3 h0_4 h0_f5 h0_6 h0_7 h0_8 h0_9 h0_10 h0_11 h0_12 h0_13 h0_14 h0_f15 h0_1 h0_1_0 h0_1_f1 h0_1_f2 h0_1_f3 h0_4 h0_4k h0_4c h0_7 h0_7_f0 h0_7_f1 h0_7_f2 h0_7_f3 h0_7_4 h0_7_5 h0_7_6 h0_7_7 h0_7_8 h0_7_9 h0_7_10 h0_7_11 h0_7_12 h0_8 h0_8_f0 h0_8_f1 h0_8_f2 h0_8_f3 h0_8_4 h0_8_5 h0_8_6 h0_8_7 h0_8_8 h0_8_9 h0_8_10 h0_8_11 h0_8_12 h0_7_4 h0_7_4k h0_7_4c h0_8_4 h0_8_4k h0_8_4c h0_7_5 h0_7_5k h0_7_5c h0_8_5 h0_8_5k h0_8_5c h0_7_6 h0_7_6k h0_7_6c h0_8_6 h0_8_6k h0_8_6c h0_7_7 h0_7_7k h0_7_7c h0_8_7 h0_8_7k h0_8_7c h0_7_8 h0_7_8k h0_7_8c h0_8_8 h0_8_8k h0_8_8c h0_7_9 h0_7_9k h0_7_9c h0_8_9 h0_8_9k h0_8_9c h0_7_10 h0_7_10k h0_7_10c h0_8_10 h0_8_10k h0_8_10c h0_7_11 h0_7_11k h0_7_11c h0_8_11 h0_8_11k h0_8_11c h0_7_12 h0_7_12k h0_7_12c h0_8_12 h0_8_12k h0_8_12c z z_0 z_f1 z_0 z_0k z_0c h0_1_0 h0_1_0k h0_1_0c h0_6 h0_1 h0_3 h0_6_2 h0_6_3 h0_6_4 h0_6_5 h0_6_4 h0_6_4k h0_6_4c h0_6_2 h0_6_2k h0_6_2c h0_6_3 h0_6_3k h0_6_3c h0_3 h0_3_0 h0_3_f1 h0_3_f2 h0_3_3 h0_3_3 h0_3_3k h0_3_3c h0_3_0 h0_3_0k h0_3_0c h0_3_0_e0 h0_3_0_e0_0 h0_3_0_e0_f1 h0_3_0_e0_2 h0_3_0_e0_0 h0_3_0_e0_0k h0_3_0_e0_0c h0_3_0_e0_2 h0_3_0_e0_2k h0_3_0_e0_2c h0_3_0_e1 h0_3_0_e1_0 h0_3_0_e1_f1 h0_3_0_e1_2 h0_3_0_e1_0 h0_3_0_e1_0k h0_3_0_e1_0c h0_3_0_e1_2 h0_3_0_e1_2k h0_3_0_e1_2c h0_3_0_e2 h0_3_0_e2_0 h0_3_0_e2_f1 h0_3_0_e2_2 h0_3_0_e2_0 h0_3_0_e2_0k h0_3_0_e2_0c h0_3_0_e2_2 h0_3_0_e2_2k h0_3_0_e2_2c h0_3_0_e3 h0_3_0_e3_0 h0_3_0_e3_f1 h0_3_0_e3_2 h0_3_0_e3_0 h0_3_0_e3_0k h0_3_0_e3_0c h0_3_0_e3_2 h0_3_0_e3_2k h0_3_0_e3_2c) U.heap ∧ va_K (dC, dI) vwCl [(h0_4k, .object RX6), (h0_7_4k, .int), (h0_8_4k, .int), (h0_7_5k, .int), (h0_8_5k, .int), (h0_7_6k, .int), (h0_8_6k, .int), (h0_7_7k, .int), (h0_8_7k, .int), (h0_7_8k, .int), (h0_8_8k, .int), (h0_7_9k, .int), (h0_8_9k, .int), (h0_7_10k, .int), (h0_8_10k, .int), (h0_7_11k, .int), (h0_8_11k, .int), (h0_7_12k, .int), (h0_8_12k, .int), (z_0k, .int), (h0_1_0k, .int), (h0_6_4k, .int), (h0_6_2k, .int), (h0_6_3k, .int), (h0_3_3k, .int), (h0_3_0k, .object RX4), (h0_3_0_e0_0k, .int), (h0_3_0_e0_2k, .int), (h0_3_0_e1_0k, .int), (h0_3_0_e1_2k, .int), (h0_3_0_e2_0k, .int), (h0_3_0_e2_2k, .int), (h0_3_0_e3_0k, .int), (h0_3_0_e3_2k, .int)] U ∧ va_D (fun _ => True) (wd_c_X11_run h0 h0_0 h0_1 h0_2 h0_3 h0_4 h0_f5 h0_6 h0_7 h0_8 h0_9 h0_10 h0_11 h0_12 h0_13 h0_14 h0_f15 h0_1 h0_1_0 h0_1_f1 h0_1_f2 h0_1_f3 h0_4 h0_4k h0_4c h0_7 h0_7_f0 h0_7_f1 h0_7_f2 h0_7_f3 h0_7_4 h0_7_5 h0_7_6 h0_7_7 h0_7_8 h0_7_9 h0_7_10 h0_7_11 h0_7_12 h0_8 h0_8_f0 h0_8_f1 h0_8_f2 h0_8_f3 h0_8_4 h0_8_5 h0_8_6 h0_8_7 h0_8_8 h0_8_9 h0_8_10 h0_8_11 h0_8_12 h0_7_4 h0_7_4k h0_7_4c h0_8_4 h0_8_4k h0_8_4c h0_7_5 h0_7_5k h0_7_5c h0_8_5 h0_8_5k h0_8_5c h0_7_6 h0_7_6k h0_7_6c h0_8_6 h0_8_6k h0_8_6c h0_7_7 h0_7_7k h0_7_7c h0_8_7 h0_8_7k h0_8_7c h0_7_8 h0_7_8k h0_7_8c h0_8_8 h0_8_8k h0_8_8c h0_7_9 h0_7_9k h0_7_9c h0_8_9 h0_8_9k h0_8_9c h0_7_10 h0_7_10k h0_7_10c h0_8_10 h0_8_10k h0_8_10c h0_7_11 h0_7_11k h0_7_11c h0_8_11 h0_8_11k h0_8_11c h0_7_12 h0_7_12k h0_7_12c h0_8_12 h0_8_12k h0_8_12c z z_0 z_f1 z_0 z_0k z_0c h0_1_0 h0_1_0k h0_1_0c h0_6 h0_1 h0_3 h0_6_2 h0_6_3 h0_6_4 h0_6_5 h0_6_4 h0_6_4k h0_6_4c h0_6_2 h0_6_2k h0_6_2c h0_6_3 h0_6_3k h0_6_3c h0_3 h0_3_0 h0_3_f1 h0_3_f2 h0_3_3 h0_3_3 h0_3_3k h0_3_3c h0_3_0 h0_3_0k h0_3_0c h0_3_0_e0 h0_3_0_e0_0 h0_3_0_e0_f1 h0_3_0_e0_2 h0_3_0_e0_0 h0_3_0_e0_0k h0_3_0_e0_0c h0_3_0_e0_2 h0_3_0_e0_2k h0_3_0_e0_2c h0_3_0_e1 h0_3_0_e1_0 h0_3_0_e1_f1 h0_3_0_e1_2 h0_3_0_e1_0 h0_3_0_e1_0k h0_3_0_e1_0c h0_3_0_e1_2 h0_3_0_e1_2k h0_3_0_e1_2c h0_3_0_e2 h0_3_0_e2_0 h0_3_0_e2_f1 h0_3_0_e2_2 h0_3_0_e2_0 h0_3_0_e2_0k h0_3_0_e2_0c h0_3_0_e2_2 h0_3_0_e2_2k h0_3_0_e2_2c h0_3_0_e3 h0_3_0_e3_0 h0_3_0_e3_f1 h0_3_0_e3_2 h0_3_0_e3_0 h0_3_0_e3_0k h0_3_0_e3_0c h0_3_0_e3_2 h0_3_0_e3_2k h0_3_0_e3_2c))) (va_Qi (fun (r : Int32) (u : (Int32) × (Int32) × (Int32) × (Int32) × (Nat → Int32) × (Nat → Int32) × (Nat → Int32) × (Nat → Int32) × (Nat → Int32) × (Nat → Int32) × (Nat → Int32) × (Nat → Int32) × (Nat → Int32) × (Nat → Int32) × (Nat → Int32) × (Nat → Int32) × (Nat → Int32) × (Nat → Int32) × (Nat → Int32) × (Nat → Int32) × (Nat → Int32)) => (r = (-1000000) ∧ AI (u.2.2.2.2.2.2.2.2.2.2.2.2.2.2.2.1) (-1) 2) ∨ (RG r (-2147483648) 2147483647 ∧ RG u.2.2.2.1 0 9999 ∧ AI (u.2.2.2.2.2.2.2.2.2.2.2.2.2.2.2.1) (-1) 2 ∧ RG h0_1_f1 1 8 ∧ RG h0_f5 1 4 ∧ RG p1 0 3 ∧ RG p2 0 1) ∨ (r = (-1) ∧ RG u.2.2.2.1 0 9999 ∧ AI (u.2.2.2.2.2.2.2.2.2.2.2.2.2.2.2.1) (-1) 2 ∧ RG h0_1_f1 1 8 ∧ RG h0_f5 1 4 ∧ RG p1 0 3 ∧ RG p2 0 0)) (fun (u : (Int32) × (Int32) × (Int32) × (Int32) × (Nat → Int32) × (Nat → Int32) × (Nat → Int32) × (Nat → Int32) × (Nat → Int32) × (Nat → Int32) × (Nat → Int32) × (Nat → Int32) × (Nat → Int32) × (Nat → Int32) × (Nat → Int32) × (Nat → Int32) × (Nat → Int32) × (Nat → Int32) × (Nat → Int32) × (Nat → Int32) × (Nat → Int32)) t => va_P (dC, dI) vwCl (wd_c_X11_run h0 h0_0 h0_1 h0_2 h0_3 h0_4 h0_f5 h0_6 h0_7 h0_8 h0_9 h0_10 h0_11 h0_12 h0_13 h0_14 h0_f15 h0_1 h0_1_0 h0_1_f1 h0_1_f2 h0_1_f3 h0_4 h0_4k h0_4c h0_7 h0_7_f0 h0_7_f1 h0_7_f2 h0_7_f3 h0_7_4 h0_7_5 h0_7_6 h0_7_7 h0_7_8 h0_7_9 h0_7_10 h0_7_11 h0_7_12 h0_8 (u.1) (u.2.1) (u.2.2.1) (u.2.2.2.1) h0_8_4 h0_8_5 h0_8_6 h0_8_7 h0_8_8 h0_8_9 h0_8_10 h0_8_11 h0_8_12 h0_7_4 h0_7_4k h0_7_4c h0_8_4 h0_8_4k (u.2.2.2.2.1) h0_7_5 h0_7_5k h0_7_5c h0_8_5 h0_8_5k (u.2.2.2.2.2.1) h0_7_6 h0_7_6k h0_7_6c h0_8_6 h0_8_6k (u.2.2.2.2.2.2.1) h0_7_7 h0_7_7k h0_7_7c h0_8_7 h0_8_7k (u.2.2.2.2.2.2.2.1) h0_7_8 h0_7_8k h0_7_8c h0_8_8 h0_8_8k (u.2.2.2.2.2.2.2.2.1) h0_7_9 h0_7_9k h0_7_9c h0_8_9 h0_8_9k (u.2.2.2.2.2.2.2.2.2.1) h0_7_10 h0_7_10k h0_7_10c h0_8_10 h0_8_10k (u.2.2.2.2.2.2.2.2.2.2.1) h0_7_11 h0_7_11k h0_7_11c h0_8_11 h0_8_11k (u.2.2.2.2.2.2.2.2.2.2.2.1) h0_7_12 h0_7_12k h0_7_12c h0_8_12 h0_8_12k (u.2.2.2.2.2.2.2.2.2.2.2.2.1) z z_0 z_f1 z_0 z_0k z_0c h0_1_0 h0_1_0k h0_1_0c h0_6 h0_1 h0_3 h0_6_2 h0_6_3 h0_6_4 h0_6_5 h0_6_4 h0_6_4k (u.2.2.2.2.2.2.2.2.2.2.2.2.2.1) h0_6_2 h0_6_2k (u.2.2.2.2.2.2.2.2.2.2.2.2.2.2.1) h0_6_3 h0_6_3k (u.2.2.2.2.2.2.2.2.2.2.2.2.2.2.2.1) h0_3 h0_3_0 h0_3_f1 h0_3_f2 h0_3_3 h0_3_3 h0_3_3k (u.2.2.2.2.2.2.2.2.2.2.2.2.2.2.2.2.1) h0_3_0 h0_3_0k h0_3_0c h0_3_0_e0 h0_3_0_e0_0 h0_3_0_e0_f1 h0_3_0_e0_2 h0_3_0_e0_0 h0_3_0_e0_0k h0_3_0_e0_0c h0_3_0_e0_2 h0_3_0_e0_2k (u.2.2.2.2.2.2.2.2.2.2.2.2.2.2.2.2.2.1) h0_3_0_e1 h0_3_0_e1_0 h0_3_0_e1_f1 h0_3_0_e1_2 h0_3_0_e1_0 h0_3_0_e1_0k h0_3_0_e1_0c h0_3_0_e1_2 h0_3_0_e1_2k (u.2.2.2.2.2.2.2.2.2.2.2.2.2.2.2.2.2.2.1) h0_3_0_e2 h0_3_0_e2_0 h0_3_0_e2_f1 h0_3_0_e2_2 h0_3_0_e2_0 h0_3_0_e2_0k h0_3_0_e2_0c h0_3_0_e2_2 h0_3_0_e2_2k (u.2.2.2.2.2.2.2.2.2.2.2.2.2.2.2.2.2.2.2.1) h0_3_0_e3 h0_3_0_e3_0 h0_3_0_e3_f1 h0_3_0_e3_2 h0_3_0_e3_0 h0_3_0_e3_0k h0_3_0_e3_0c h0_3_0_e3_2 h0_3_0_e3_2k (u.2.2.2.2.2.2.2.2.2.2.2.2.2.2.2.2.2.2.2.2)) t.heap ∧ va_K (dC, dI) vwCl [] t ∧ va_D (va_A (wd_c_X11_run h0 h0_0 h0_1 h0_2 h0_3 h0_4 h0_f5 h0_6 h0_7 h0_8 h0_9 h0_10 h0_11 h0_12 h0_13 h0_14 h0_f15 h0_1 h0_1_0 h0_1_f1 h0_1_f2 h0_1_f3 h0_4 h0_4k h0_4c h0_7 h0_7_f0 h0_7_f1 h0_7_f2 h0_7_f3 h0_7_4 h0_7_5 h0_7_6 h0_7_7 h0_7_8 h0_7_9 h0_7_10 h0_7_11 h0_7_12 h0_8 h0_8_f0 h0_8_f1 h0_8_f2 h0_8_f3 h0_8_4 h0_8_5 h0_8_6 h0_8_7 h0_8_8 h0_8_9 h0_8_10 h0_8_11 h0_8_12 h0_7_4 h0_7_4k h0_7_4c h0_8_4 h0_8_4k h0_8_4c h0_7_5 h0_7_5k h0_7_5c h0_8_5 h0_8_5k h0_8_5c h0_7_6 h0_7_6k h0_7_6c h0_8_6 h0_8_6k h0_8_6c h0_7_7 h0_7_7k h0_7_7c h0_8_7 h0_8_7k h0_8_7c h0_7_8 h0_7_8k h0_7_8c h0_8_8 h0_8_8k h0_8_8c h0_7_9 h0_7_9k h0_7_9c h0_8_9 h0_8_9k h0_8_9c h0_7_10 h0_7_10k h0_7_10c h0_8_10 h0_8_10k h0_8_10c h0_7_11 h0_7_11k h0_7_11c h0_8_11 h0_8_11k h0_8_11c h0_7_12 h0_7_12k h0_7_12c h0_8_12 h0_8_12k h0_8_12c z z_0 z_f1 z_0 z_0k z_0c h0_1_0 h0_1_0k h0_1_0c h0_6 h0_1 h0_3 h0_6_2 h0_6_3 h0_6_4 h0_6_5 h0_6_4 h0_6_4k h0_6_4c h0_6_2 h0_6_2k h0_6_2c h0_6_3 h0_6_3k h0_6_3c h0_3 h0_3_0 h0_3_f1 h0_3_f2 h0_3_3 h0_3_3 h0_3_3k h0_3_3c h0_3_0 h0_3_0k h0_3_0c h0_3_0_e0 h0_3_0_e0_0 h0_3_0_e0_f1 h0_3_0_e0_2 h0_3_0_e0_0 h0_3_0_e0_0k h0_3_0_e0_0c h0_3_0_e0_2 h0_3_0_e0_2k h0_3_0_e0_2c h0_3_0_e1 h0_3_0_e1_0 h0_3_0_e1_f1 h0_3_0_e1_2 h0_3_0_e1_0 h0_3_0_e1_0k h0_3_0_e1_0c h0_3_0_e1_2 h0_3_0_e1_2k h0_3_0_e1_2c h0_3_0_e2 h0_3_0_e2_0 h0_3_0_e2_f1 h0_3_0_e2_2 h0_3_0_e2_0 h0_3_0_e2_0k h0_3_0_e2_0c h0_3_0_e2_2 h0_3_0_e2_2k h0_3_0_e2_2c h0_3_0_e3 h0_3_0_e3_0 h0_3_0_e3_f1 h0_3_0_e3_2 h0_3_0_e3_0 h0_3_0_e3_0k h0_3_0_e3_0c h0_3_0_e3_2 h0_3_0_e3_2k h0_3_0_e3_2c) sz) (wd_c_X11_run h0 h0_0 h0_1 h0_2 h0_3 h0_4 h0_f5 h0_6 h0_7 h0_8 h0_9 h0_10 h0_11 h0_12 h0_13 h0_14 h0_f15 h0_1 h0_1_0 h0_1_f1 h0_1_f2 h0_1_f3 h0_4 h0_4k h0_4c h0_7 h0_7_f0 h0_7_f1 h0_7_f2 h0_7_f3 h0_7_4 h0_7_5 h0_7_6 h0_7_7 h0_7_8 h0_7_9 h0_7_10 h0_7_11 h0_7_12 h0_8 (u.1) (u.2.1) (u.2.2.1) (u.2.2.2.1) h0_8_4 h0_8_5 h0_8_6 h0_8_7 h0_8_8 h0_8_9 h0_8_10 h0_8_11 h0_8_12 h0_7_4 h0_7_4k h0_7_4c h0_8_4 h0_8_4k (u.2.2.2.2.1) h0_7_5 h0_7_5k h0_7_5c h0_8_5 h0_8_5k (u.2.2.2.2.2.1) h0_7_6 h0_7_6k h0_7_6c h0_8_6 h0_8_6k (u.2.2.2.2.2.2.1) h0_7_7 h0_7_7k h0_7_7c h0_8_7 h0_8_7k (u.2.2.2.2.2.2.2.1) h0_7_8 h0_7_8k h0_7_8c h0_8_8 h0_8_8k (u.2.2.2.2.2.2.2.2.1) h0_7_9 h0_7_9k h0_7_9c h0_8_9 h0_8_9k (u.2.2.2.2.2.2.2.2.2.1) h0_7_10 h0_7_10k h0_7_10c h0_8_10 h0_8_10k (u.2.2.2.2.2.2.2.2.2.2.1) h0_7_11 h0_7_11k h0_7_11c h0_8_11 h0_8_11k (u.2.2.2.2.2.2.2.2.2.2.2.1) h0_7_12 h0_7_12k h0_7_12c h0_8_12 h0_8_12k (u.2.2.2.2.2.2.2.2.2.2.2.2.1) z z_0 z_f1 z_0 z_0k z_0c h0_1_0 h0_1_0k h0_1_0c h0_6 h0_1 h0_3 h0_6_2 h0_6_3 h0_6_4 h0_6_5 h0_6_4 h0_6_4k (u.2.2.2.2.2.2.2.2.2.2.2.2.2.1) h0_6_2 h0_6_2k (u.2.2.2.2.2.2.2.2.2.2.2.2.2.2.1) h0_6_3 h0_6_3k (u.2.2.2.2.2.2.2.2.2.2.2.2.2.2.2.1) h0_3 h0_3_0 h0_3_f1 h0_3_f2 h0_3_3 h0_3_3 h0_3_3k (u.2.2.2.2.2.2.2.2.2.2.2.2.2.2.2.2.1) h0_3_0 h0_3_0k h0_3_0c h0_3_0_e0 h0_3_0_e0_0 h0_3_0_e0_f1 h0_3_0_e0_2 h0_3_0_e0_0 h0_3_0_e0_0k h0_3_0_e0_0c h0_3_0_e0_2 h0_3_0_e0_2k (u.2.2.2.2.2.2.2.2.2.2.2.2.2.2.2.2.2.1) h0_3_0_e1 h0_3_0_e1_0 h0_3_0_e1_f1 h0_3_0_e1_2 h0_3_0_e1_0 h0_3_0_e1_0k h0_3_0_e1_0c h0_3_0_e1_2 h0_3_0_e1_2k (u.2.2.2.2.2.2.2.2.2.2.2.2.2.2.2.2.2.2.1) h0_3_0_e2 h0_3_0_e2_0 h0_3_0_e2_f1 h0_3_0_e2_2 h0_3_0_e2_0 h0_3_0_e2_0k h0_3_0_e2_0c h0_3_0_e2_2 h0_3_0_e2_2k (u.2.2.2.2.2.2.2.2.2.2.2.2.2.2.2.2.2.2.2.1) h0_3_0_e3 h0_3_0_e3_0 h0_3_0_e3_f1 h0_3_0_e3_2 h0_3_0_e3_0 h0_3_0_e3_0k h0_3_0_e3_0c h0_3_0_e3_2 h0_3_0_e3_2k (u.2.2.2.2.2.2.2.2.2.2.2.2.2.2.2.2.2.2.2.2))) (va_A (wd_c_X11_run h0 h0_0 h0_1 h0_2 h0_3 h0_4 h0_f5 h0_6 h0_7 h0_8 h0_9 h0_10 h0_11 h0_12 h0_13 h0_14 h0_f15 h0_1 h0_1_0 h0_1_f1 h0_1_f2 h0_1_f3 h0_4 h0_4k h0_4c h0_7 h0_7_f0 h0_7_f1 h0_7_f2 h0_7_f3 h0_7_4 h0_7_5 h0_7_6 h0_7_7 h0_7_8 h0_7_9 h0_7_10 h0_7_11 h0_7_12 h0_8 h0_8_f0 h0_8_f1 h0_8_f2 h0_8_f3 h0_8_4 h0_8_5 h0_8_6 h0_8_7 h0_8_8 h0_8_9 h0_8_10 h0_8_11 h0_8_12 h0_7_4 h0_7_4k h0_7_4c h0_8_4 h0_8_4k h0_8_4c h0_7_5 h0_7_5k h0_7_5c h0_8_5 h0_8_5k h0_8_5c h0_7_6 h0_7_6k h0_7_6c h0_8_6 h0_8_6k h0_8_6c h0_7_7 h0_7_7k h0_7_7c h0_8_7 h0_8_7k h0_8_7c h0_7_8 h0_7_8k h0_7_8c h0_8_8 h0_8_8k h0_8_8c h0_7_9 h0_7_9k h0_7_9c h0_8_9 h0_8_9k h0_8_9c h0_7_10 h0_7_10k h0_7_10c h0_8_10 h0_8_10k h0_8_10c h0_7_11 h0_7_11k h0_7_11c h0_8_11 h0_8_11k h0_8_11c h0_7_12 h0_7_12k h0_7_12c h0_8_12 h0_8_12k h0_8_12c z z_0 z_f1 z_0 z_0k z_0c h0_1_0 h0_1_0k h0_1_0c h0_6 h0_1 h0_3 h0_6_2 h0_6_3 h0_6_4 h0_6_5 h0_6_4 h0_6_4k h0_6_4c h0_6_2 h0_6_2k h0_6_2c h0_6_3 h0_6_3k h0_6_3c h0_3 h0_3_0 h0_3_f1 h0_3_f2 h0_3_3 h0_3_3 h0_3_3k h0_3_3c h0_3_0 h0_3_0k h0_3_0c h0_3_0_e0 h0_3_0_e0_0 h0_3_0_e0_f1 h0_3_0_e0_2 h0_3_0_e0_0 h0_3_0_e0_0k h0_3_0_e0_0c h0_3_0_e0_2 h0_3_0_e0_2k h0_3_0_e0_2c h0_3_0_e1 h0_3_0_e1_0 h0_3_0_e1_f1 h0_3_0_e1_2 h0_3_0_e1_0 h0_3_0_e1_0k h0_3_0_e1_0c h0_3_0_e1_2 h0_3_0_e1_2k h0_3_0_e1_2c h0_3_0_e2 h0_3_0_e2_0 h0_3_0_e2_f1 h0_3_0_e2_2 h0_3_0_e2_0 h0_3_0_e2_0k h0_3_0_e2_0c h0_3_0_e2_2 h0_3_0_e2_2k h0_3_0_e2_2c h0_3_0_e3 h0_3_0_e3_0 h0_3_0_e3_f1 h0_3_0_e3_2 h0_3_0_e3_0 h0_3_0_e3_0k h0_3_0_e3_0c h0_3_0_e3_2 h0_3_0_e3_2k h0_3_0_e3_2c) sz)) 0 0 (va_A (wd_c_X11_run h0 h0_0 h0_1 h0_2 h0_3 h0_4 h0_f5 h0_6 h0_7 h0_8 h0_9 h0_10 h0_11 h0_12 h0_13 h0_14 h0_f15 h0_1 h0_1_0 h0_1_f1 h0_1_f2 h0_1_f3 h0_4 h0_4k h0_4c h0_7 h0_7_f0 h0_7_f1 h0_7_f2 h0_7_f3 h0_7_4 h0_7_5 h0_7_6 h0_7_7 h0_7_8 h0_7_9 h0_7_10 h0_7_11 h0_7_12 h0_8 h0_8_f0 h0_8_f1 h0_8_f2 h0_8_f3 h0_8_4 h0_8_5 h0_8_6 h0_8_7 h0_8_8 h0_8_9 h0_8_10 h0_8_11 h0_8_12 h0_7_4 h0_7_4k h0_7_4c h0_8_4 h0_8_4k h0_8_4c h0_7_5 h0_7_5k h0_7_5c h0_8_5 h0_8_5k h0_8_5c h0_7_6 h0_7_6k h0_7_6c h0_8_6 h0_8_6k h0_8_6c h0_7_7 h0_7_7k h0_7_7c h0_8_7 h0_8_7k h0_8_7c h0_7_8 h0_7_8k h0_7_8c h0_8_8 h0_8_8k h0_8_8c h0_7_9 h0_7_9k h0_7_9c h0_8_9 h0_8_9k h0_8_9c h0_7_10 h0_7_10k h0_7_10c h0_8_10 h0_8_10k h0_8_10c h0_7_11 h0_7_11k h0_7_11c h0_8_11 h0_8_11k h0_8_11c h0_7_12 h0_7_12k h0_7_12c h0_8_12 h0_8_12k h0_8_12c z z_0 z_f1 z_0 z_0k z_0c h0_1_0 h0_1_0k h0_1_0c h0_6 h0_1 h0_3 h0_6_2 h0_6_3 h0_6_4 h0_6_5 h0_6_4 h0_6_4k h0_6_4c h0_6_2 h0_6_2k h0_6_2c h0_6_3 h0_6_3k h0_6_3c h0_3 h0_3_0 h0_3_f1 h0_3_f2 h0_3_3 h0_3_3 h0_3_3k h0_3_3c h0_3_0 h0_3_0k h0_3_0c h0_3_0_e0 h0_3_0_e0_0 h0_3_0_e0_f1 h0_3_0_e0_2 h0_3_0_e0_0 h0_3_0_e0_0k h0_3_0_e0_0c h0_3_0_e0_2 h0_3_0_e0_2k h0_3_0_e0_2c h0_3_0_e1 h0_3_0_e1_0 h0_3_0_e1_f1 h0_3_0_e1_2 h0_3_0_e1_0 h0_3_0_e1_0k h0_3_0_e1_0c h0_3_0_e1_2 h0_3_0_e1_2k h0_3_0_e1_2c h0_3_0_e2 h0_3_0_e2_0 h0_3_0_e2_f1 h0_3_0_e2_2 h0_3_0_e2_0 h0_3_0_e2_0k h0_3_0_e2_0c h0_3_0_e2_2 h0_3_0_e2_2k h0_3_0_e2_2c h0_3_0_e3 h0_3_0_e3_0 h0_3_0_e3_f1 h0_3_0_e3_2 h0_3_0_e3_0 h0_3_0_e3_0k h0_3_0_e3_0c h0_3_0_e3_2 h0_3_0_e3_2k h0_3_0_e3_2c) sz) := by
  refine Met.ofW (cc := cX11_run) (maxL := 6) (ret := (some .int)) (by decide +kernel) rfl ?_
  intro p e s m args below meth c s₁ B hml hv
  obtain ⟨rfl, hsz, hP, hK, hD0⟩ := hv
  have hx := B.exec
  have hb := B.bytes
  have hr := B.returns
  have hts := atoms_spec (ws := wf_c_X11_run) B.pre
  have hown : s.vm.findClass RX11 = some m.cls := findClass_of_methodNamed B.named
  have hlocks := B.notSynchronized
  subst hsz
  have hD := hD0.self (sz := s.heap.size)
  generalize hAe : va_A (wd_c_X11_run h0 h0_0 h0_1 h0_2 h0_3 h0_4 h0_f5 h0_6 h0_7 h0_8 h0_9 h0_10 h0_11 h0_12 h0_13 h0_14 h0_f15 h0_1 h0_1_0 h0_1_f1 h0_1_f2 h0_1_f3 h0_4 h0_4k h0_4c h0_7 h0_7_f0 h0_7_f1 h0_7_f2 h0_7_f3 h0_7_4 h0_7_5 h0_7_6 h0_7_7 h0_7_8 h0_7_9 h0_7_10 h0_7_11 h0_7_12 h0_8 h0_8_f0 h0_8_f1 h0_8_f2 h0_8_f3 h0_8_4 h0_8_5 h0_8_6 h0_8_7 h0_8_8 h0_8_9 h0_8_10 h0_8_11 h0_8_12 h0_7_4 h0_7_4k h0_7_4c h0_8_4 h0_8_4k h0_8_4c h0_7_5 h0_7_5k h0_7_5c h0_8_5 h0_8_5k h0_8_5c h0_7_6 h0_7_6k h0_7_6c h0_8_6 h0_8_6k h0_8_6c h0_7_7 h0_7_7k h0_7_7c h0_8_7 h0_8_7k h0_8_7c h0_7_8 h0_7_8k h0_7_8c h0_8_8 h0_8_8k h0_8_8c h0_7_9 h0_7_9k h0_7_9c h0_8_9 h0_8_9k h0_8_9c h0_7_10 h0_7_10k h0_7_10c h0_8_10 h0_8_10k h0_8_10c h0_7_11 h0_7_11k h0_7_11c h0_8_11 h0_8_11k h0_8_11c h0_7_12 h0_7_12k h0_7_12c h0_8_12 h0_8_12k h0_8_12c z z_0 z_f1 z_0 z_0k z_0c h0_1_0 h0_1_0k h0_1_0c h0_6 h0_1 h0_3 h0_6_2 h0_6_3 h0_6_4 h0_6_5 h0_6_4 h0_6_4k h0_6_4c h0_6_2 h0_6_2k h0_6_2c h0_6_3 h0_6_3k h0_6_3c h0_3 h0_3_0 h0_3_f1 h0_3_f2 h0_3_3 h0_3_3 h0_3_3k h0_3_3c h0_3_0 h0_3_0k h0_3_0c h0_3_0_e0 h0_3_0_e0_0 h0_3_0_e0_f1 h0_3_0_e0_2 h0_3_0_e0_0 h0_3_0_e0_0k h0_3_0_e0_0c h0_3_0_e0_2 h0_3_0_e0_2k h0_3_0_e0_2c h0_3_0_e1 h0_3_0_e1_0 h0_3_0_e1_f1 h0_3_0_e1_2 h0_3_0_e1_0 h0_3_0_e1_0k h0_3_0_e1_0c h0_3_0_e1_2 h0_3_0_e1_2k h0_3_0_e1_2c h0_3_0_e2 h0_3_0_e2_0 h0_3_0_e2_f1 h0_3_0_e2_2 h0_3_0_e2_0 h0_3_0_e2_0k h0_3_0_e2_0c h0_3_0_e2_2 h0_3_0_e2_2k h0_3_0_e2_2c h0_3_0_e3 h0_3_0_e3_0 h0_3_0_e3_f1 h0_3_0_e3_2 h0_3_0_e3_0 h0_3_0_e3_0k h0_3_0_e3_0c h0_3_0_e3_2 h0_3_0_e3_2k h0_3_0_e3_2c) s.heap.size = A at hD ⊢
  have hA : ∀ q : Nat, s.heap.size ≤ q → A q := fun q h => by rw [← hAe]; exact Or.inr h
  have hP : va_P (dC, dI) vwCl (wd_c_X11_run h0 h0_0 h0_1 h0_2 h0_3 h0_4 h0_f5 h0_6 h0_7 h0_8 h0_9 h0_10 h0_11 h0_12 h0_13 h0_14 h0_f15 h0_1 h0_1_0 h0_1_f1 h0_1_f2 h0_1_f3 h0_4 h0_4k h0_4c h0_7 h0_7_f0 h0_7_f1 h0_7_f2 h0_7_f3 h0_7_4 h0_7_5 h0_7_6 h0_7_7 h0_7_8 h0_7_9 h0_7_10 h0_7_11 h0_7_12 h0_8 h0_8_f0 h0_8_f1 h0_8_f2 h0_8_f3 h0_8_4 h0_8_5 h0_8_6 h0_8_7 h0_8_8 h0_8_9 h0_8_10 h0_8_11 h0_8_12 h0_7_4 h0_7_4k h0_7_4c h0_8_4 h0_8_4k h0_8_4c h0_7_5 h0_7_5k h0_7_5c h0_8_5 h0_8_5k h0_8_5c h0_7_6 h0_7_6k h0_7_6c h0_8_6 h0_8_6k h0_8_6c h0_7_7 h0_7_7k h0_7_7c h0_8_7 h0_8_7k h0_8_7c h0_7_8 h0_7_8k h0_7_8c h0_8_8 h0_8_8k h0_8_8c h0_7_9 h0_7_9k h0_7_9c h0_8_9 h0_8_9k h0_8_9c h0_7_10 h0_7_10k h0_7_10c h0_8_10 h0_8_10k h0_8_10c h0_7_11 h0_7_11k h0_7_11c h0_8_11 h0_8_11k h0_8_11c h0_7_12 h0_7_12k h0_7_12c h0_8_12 h0_8_12k h0_8_12c z z_0 z_f1 z_0 z_0k z_0c h0_1_0 h0_1_0k h0_1_0c h0_6 h0_1 h0_3 h0_6_2 h0_6_3 h0_6_4 h0_6_5 h0_6_4 h0_6_4k h0_6_4c h0_6_2 h0_6_2k h0_6_2c h0_6_3 h0_6_3k h0_6_3c h0_3 h0_3_0 h0_3_f1 h0_3_f2 h0_3_3 h0_3_3 h0_3_3k h0_3_3c h0_3_0 h0_3_0k h0_3_0c h0_3_0_e0 h0_3_0_e0_0 h0_3_0_e0_f1 h0_3_0_e0_2 h0_3_0_e0_0 h0_3_0_e0_0k h0_3_0_e0_0c h0_3_0_e0_2 h0_3_0_e0_2k h0_3_0_e0_2c h0_3_0_e1 h0_3_0_e1_0 h0_3_0_e1_f1 h0_3_0_e1_2 h0_3_0_e1_0 h0_3_0_e1_0k h0_3_0_e1_0c h0_3_0_e1_2 h0_3_0_e1_2k h0_3_0_e1_2c h0_3_0_e2 h0_3_0_e2_0 h0_3_0_e2_f1 h0_3_0_e2_2 h0_3_0_e2_0 h0_3_0_e2_0k h0_3_0_e2_0c h0_3_0_e2_2 h0_3_0_e2_2k h0_3_0_e2_2c h0_3_0_e3 h0_3_0_e3_0 h0_3_0_e3_f1 h0_3_0_e3_2 h0_3_0_e3_0 h0_3_0_e3_0k h0_3_0_e3_0c h0_3_0_e3_2 h0_3_0_e3_2k h0_3_0_e3_2c) s.heap := hP
  have hl := lv_entry ([.ref h0, .int p1, .int p2]) (n := 6) (Nat.le_of_ble_eq_true rfl)
  rw [lg_entry_eq]
  generalize (lg_sl ([.ref h0, .int p1, .int p2]) ++ List.replicate (6 - (lg_sl ([.ref h0, .int p1, .int p2])).length) Slot.unset).toArray = ls at hl ⊢
  have hl : lv_has ls 6 [(0, .ref h0), (1, .int p1), (2, .int p2)] := hl
  obtain ⟨H, hHe⟩ : ∃ H : Heap, s.heap = H := ⟨_, rfl⟩
  have hS : va_S A s.heap H [] := by rw [hHe]; exact va_S.rf
  have hP : va_P (dC, dI) vwCl (wd_c_X11_run h0 h0_0 h0_1 h0_2 h0_3 h0_4 h0_f5 h0_6 h0_7 h0_8 h0_9 h0_10 h0_11 h0_12 h0_13 h0_14 h0_f15 h0_1 h0_1_0 h0_1_f1 h0_1_f2 h0_1_f3 h0_4 h0_4k h0_4c h0_7 h0_7_f0 h0_7_f1 h0_7_f2 h0_7_f3 h0_7_4 h0_7_5 h0_7_6 h0_7_7 h0_7_8 h0_7_9 h0_7_10 h0_7_11 h0_7_12 h0_8 h0_8_f0 h0_8_f1 h0_8_f2 h0_8_f3 h0_8_4 h0_8_5 h0_8_6 h0_8_7 h0_8_8 h0_8_9 h0_8_10 h0_8_11 h0_8_12 h0_7_4 h0_7_4k h0_7_4c h0_8_4 h0_8_4k h0_8_4c h0_7_5 h0_7_5k h0_7_5c h0_8_5 h0_8_5k h0_8_5c h0_7_6 h0_7_6k h0_7_6c h0_8_6 h0_8_6k h0_8_6c h0_7_7 h0_7_7k h0_7_7c h0_8_7 h0_8_7k h0_8_7c h0_7_8 h0_7_8k h0_7_8c h0_8_8 h0_8_8k h0_8_8c h0_7_9 h0_7_9k h0_7_9c h0_8_9 h0_8_9k h0_8_9c h0_7_10 h0_7_10k h0_7_10c h0_8_10 h0_8_10k h0_8_10c h0_7_11 h0_7_11k h0_7_11c h0_8_11 h0_8_11k h0_8_11c h0_7_12 h0_7_12k h0_7_12c h0_8_12 h0_8_12k h0_8_12c z z_0 z_f1 z_0 z_0k z_0c h0_1_0 h0_1_0k h0_1_0c h0_6 h0_1 h0_3 h0_6_2 h0_6_3 h0_6_4 h0_6_5 h0_6_4 h0_6_4k h0_6_4c h0_6_2 h0_6_2k h0_6_2c h0_6_3 h0_6_3k h0_6_3c h0_3 h0_3_0 h0_3_f1 h0_3_f2 h0_3_3 h0_3_3 h0_3_3k h0_3_3c h0_3_0 h0_3_0k h0_3_0c h0_3_0_e0 h0_3_0_e0_0 h0_3_0_e0_f1 h0_3_0_e0_2 h0_3_0_e0_0 h0_3_0_e0_0k h0_3_0_e0_0c h0_3_0_e0_2 h0_3_0_e0_2k h0_3_0_e0_2c h0_3_0_e1 h0_3_0_e1_0 h0_3_0_e1_f1 h0_3_0_e1_2 h0_3_0_e1_0 h0_3_0_e1_0k h0_3_0_e1_0c h0_3_0_e1_2 h0_3_0_e1_2k h0_3_0_e1_2c h0_3_0_e2 h0_3_0_e2_0 h0_3_0_e2_f1 h0_3_0_e2_2 h0_3_0_e2_0 h0_3_0_e2_0k h0_3_0_e2_0c h0_3_0_e2_2 h0_3_0_e2_2k h0_3_0_e2_2c h0_3_0_e3 h0_3_0_e3_0 h0_3_0_e3_f1 h0_3_0_e3_2 h0_3_0_e3_0 h0_3_0_e3_0k h0_3_0_e3_0c h0_3_0_e3_2 h0_3_0_e3_2k h0_3_0_e3_2c) H := by rw [← hHe]; exact hP
  rw [hHe]
  refine wj (fun G hG hU => ?_)
  as_aux_lemma =>
  have J130 : ∀ (j130_l5 : Int32) (j130_l4 : Int32) (j130_h0_8_f2 : Int32) (j130_h0_8_4c : Nat → Int32) (j130_h0_8_5c : Nat → Int32) (j130_h0_8_6c : Nat → Int32) (j130_h0_8_7c : Nat → Int32) (j130_h0_8_8c : Nat → Int32) (j130_h0_8_9c : Nat → Int32) (j130_h0_8_10c : Nat → Int32) (j130_h0_8_11c : Nat → Int32) (j130_h0_8_12c : Nat → Int32) (j130_h0_6_4c : Nat → Int32) (j130_h0_6_2c : Nat → Int32) (j130_h0_6_3c : Nat → Int32) (j130_h0_3_3c : Nat → Int32) (j130_h0_3_0_e0_2c : Nat → Int32) (j130_h0_3_0_e1_2c : Nat → Int32) (j130_h0_3_0_e2_2c : Nat → Int32) (j130_h0_3_0_e3_2c : Nat → Int32) (g_h0_1_f1 : RG h0_1_f1 1 8) (g_h0_1_f2 : RG h0_1_f2 0 3) (g_h0_1_f3 : RG h0_1_f3 0 1) (g_h0_3_0_e0_f1 : RG h0_3_0_e0_f1 0 240) (g_h0_3_0_e1_f1 : RG h0_3_0_e1_f1 0 240) (g_h0_3_0_e2_f1 : RG h0_3_0_e2_f1 0 240) (g_h0_3_0_e3_f1 : RG h0_3_0_e3_f1 0 240) (g_h0_3_f1 : RG h0_3_f1 0 4) (g_h0_7_f2 : RG h0_7_f2 0 9999) (g_h0_7_f3 : RG h0_7_f3 0 9999) (g_h0_f5 : RG h0_f5 1 4) (g_j130_l4 : RG j130_l4 0 16) (g_p1 : RG p1 0 3) (g_p2 : RG p2 0 1) (g_z_f1 : RG z_f1 0 16) (a_j130_h0_6_3c : AI j130_h0_6_3c (-1) 2) (H : Heap) (locs : List Loc) (ls : Array Slot) (hP : va_P (dC, dI) vwCl (wd_c_X11_run h0 h0_0 h0_1 h0_2 h0_3 h0_4 h0_f5 h0_6 h0_7 h0_8 h0_9 h0_10 h0_11 h0_12 h0_13 h0_14 h0_f15 h0_1 h0_1_0 h0_1_f1 h0_1_f2 h0_1_f3 h0_4 h0_4k h0_4c h0_7 h0_7_f0 h0_7_f1 h0_7_f2 h0_7_f3 h0_7_4 h0_7_5 h0_7_6 h0_7_7 h0_7_8 h0_7_9 h0_7_10 h0_7_11 h0_7_12 h0_8 h0_7_f0 h0_7_f1 j130_h0_8_f2 h0_7_f3 h0_8_4 h0_8_5 h0_8_6 h0_8_7 h0_8_8 h0_8_9 h0_8_10 h0_8_11 h0_8_12 h0_7_4 h0_7_4k h0_7_4c h0_8_4 h0_8_4k j130_h0_8_4c h0_7_5 h0_7_5k h0_7_5c h0_8_5 h0_8_5k j130_h0_8_5c h0_7_6 h0_7_6k h0_7_6c h0_8_6 h0_8_6k j130_h0_8_6c h0_7_7 h0_7_7k h0_7_7c h0_8_7 h0_8_7k j130_h0_8_7c h0_7_8 h0_7_8k h0_7_8c h0_8_8 h0_8_8k j130_h0_8_8c h0_7_9 h0_7_9k h0_7_9c h0_8_9 h0_8_9k j130_h0_8_9c h0_7_10 h0_7_10k h0_7_10c h0_8_10 h0_8_10k j130_h0_8_10c h0_7_11 h0_7_11k h0_7_11c h0_8_11 h0_8_11k j130_h0_8_11c h0_7_12 h0_7_12k h0_7_12c h0_8_12 h0_8_12k j130_h0_8_12c z z_0 z_f1 z_0 z_0k z_0c h0_1_0 h0_1_0k h0_1_0c h0_6 h0_1 h0_3 h0_6_2 h0_6_3 h0_6_4 h0_6_5 h0_6_4 h0_6_4k j130_h0_6_4c h0_6_2 h0_6_2k j130_h0_6_2c h0_6_3 h0_6_3k j130_h0_6_3c h0_3 h0_3_0 h0_3_f1 h0_3_f2 h0_3_3 h0_3_3 h0_3_3k j130_h0_3_3c h0_3_0 h0_3_0k h0_3_0c h0_3_0_e0 h0_3_0_e0_0 h0_3_0_e0_f1 h0_3_0_e0_2 h0_3_0_e0_0 h0_3_0_e0_0k h0_3_0_e0_0c h0_3_0_e0_2 h0_3_0_e0_2k j130_h0_3_0_e0_2c h0_3_0_e1 h0_3_0_e1_0 h0_3_0_e1_f1 h0_3_0_e1_2 h0_3_0_e1_0 h0_3_0_e1_0k h0_3_0_e1_0c h0_3_0_e1_2 h0_3_0_e1_2k j130_h0_3_0_e1_2c h0_3_0_e2 h0_3_0_e2_0 h0_3_0_e2_f1 h0_3_0_e2_2 h0_3_0_e2_0 h0_3_0_e2_0k h0_3_0_e2_0c h0_3_0_e2_2 h0_3_0_e2_2k j130_h0_3_0_e2_2c h0_3_0_e3 h0_3_0_e3_0 h0_3_0_e3_f1 h0_3_0_e3_2 h0_3_0_e3_0 h0_3_0_e3_0k h0_3_0_e3_0c h0_3_0_e3_2 h0_3_0_e3_2k j130_h0_3_0_e3_2c) H) (hD : va_D A (wd_c_X11_run h0 h0_0 h0_1 h0_2 h0_3 h0_4 h0_f5 h0_6 h0_7 h0_8 h0_9 h0_10 h0_11 h0_12 h0_13 h0_14 h0_f15 h0_1 h0_1_0 h0_1_f1 h0_1_f2 h0_1_f3 h0_4 h0_4k h0_4c h0_7 h0_7_f0 h0_7_f1 h0_7_f2 h0_7_f3 h0_7_4 h0_7_5 h0_7_6 h0_7_7 h0_7_8 h0_7_9 h0_7_10 h0_7_11 h0_7_12 h0_8 h0_7_f0 h0_7_f1 j130_h0_8_f2 h0_7_f3 h0_8_4 h0_8_5 h0_8_6 h0_8_7 h0_8_8 h0_8_9 h0_8_10 h0_8_11 h0_8_12 h0_7_4 h0_7_4k h0_7_4c h0_8_4 h0_8_4k j130_h0_8_4c h0_7_5 h0_7_5k h0_7_5c h0_8_5 h0_8_5k j130_h0_8_5c h0_7_6 h0_7_6k h0_7_6c h0_8_6 h0_8_6k j130_h0_8_6c h0_7_7 h0_7_7k h0_7_7c h0_8_7 h0_8_7k j130_h0_8_7c h0_7_8 h0_7_8k h0_7_8c h0_8_8 h0_8_8k j130_h0_8_8c h0_7_9 h0_7_9k h0_7_9c h0_8_9 h0_8_9k j130_h0_8_9c h0_7_10 h0_7_10k h0_7_10c h0_8_10 h0_8_10k j130_h0_8_10c h0_7_11 h0_7_11k h0_7_11c h0_8_11 h0_8_11k j130_h0_8_11c h0_7_12 h0_7_12k h0_7_12c h0_8_12 h0_8_12k j130_h0_8_12c z z_0 z_f1 z_0 z_0k z_0c h0_1_0 h0_1_0k h0_1_0c h0_6 h0_1 h0_3 h0_6_2 h0_6_3 h0_6_4 h0_6_5 h0_6_4 h0_6_4k j130_h0_6_4c h0_6_2 h0_6_2k j130_h0_6_2c h0_6_3 h0_6_3k j130_h0_6_3c h0_3 h0_3_0 h0_3_f1 h0_3_f2 h0_3_3 h0_3_3 h0_3_3k j130_h0_3_3c h0_3_0 h0_3_0k h0_3_0c h0_3_0_e0 h0_3_0_e0_0 h0_3_0_e0_f1 h0_3_0_e0_2 h0_3_0_e0_0 h0_3_0_e0_0k h0_3_0_e0_0c h0_3_0_e0_2 h0_3_0_e0_2k j130_h0_3_0_e0_2c h0_3_0_e1 h0_3_0_e1_0 h0_3_0_e1_f1 h0_3_0_e1_2 h0_3_0_e1_0 h0_3_0_e1_0k h0_3_0_e1_0c h0_3_0_e1_2 h0_3_0_e1_2k j130_h0_3_0_e1_2c h0_3_0_e2 h0_3_0_e2_0 h0_3_0_e2_f1 h0_3_0_e2_2 h0_3_0_e2_0 h0_3_0_e2_0k h0_3_0_e2_0c h0_3_0_e2_2 h0_3_0_e2_2k j130_h0_3_0_e2_2c h0_3_0_e3 h0_3_0_e3_0 h0_3_0_e3_f1 h0_3_0_e3_2 h0_3_0_e3_0 h0_3_0_e3_0k h0_3_0_e3_0c h0_3_0_e3_2 h0_3_0_e3_2k j130_h0_3_0_e3_2c)) (hS : va_S A s.heap H locs) (hl : lv_has ls 6 [(5, .int j130_l5), (4, .int j130_l4), (3, .ref z), (2, .int p2)]), G H locs (F0 m 130 ls []) := by
    as_aux_lemma =>
    intro j130_l5 j130_l4 j130_h0_8_f2 j130_h0_8_4c j130_h0_8_5c j130_h0_8_6c j130_h0_8_7c j130_h0_8_8c j130_h0_8_9c j130_h0_8_10c j130_h0_8_11c j130_h0_8_12c j130_h0_6_4c j130_h0_6_2c j130_h0_6_3c j130_h0_3_3c j130_h0_3_0_e0_2c j130_h0_3_0_e1_2c j130_h0_3_0_e2_2c j130_h0_3_0_e3_2c g_h0_1_f1 g_h0_1_f2 g_h0_1_f3 g_h0_3_0_e0_f1 g_h0_3_0_e1_f1 g_h0_3_0_e2_f1 g_h0_3_0_e3_f1 g_h0_3_f1 g_h0_7_f2 g_h0_7_f3 g_h0_f5 g_j130_l4 g_p1 g_p2 g_z_f1 a_j130_h0_6_3c H locs ls hP hD hS hl
    refine hG _ _ _ ?_
    refine lv_iload_n hx hb dX11_run_130 rfl (lv_at hl 3 rfl) ?_
    refine lv_iconst (v := 1) hx hb dX11_run_131 kc_iconst_1 ?_
    refine lv_icmp_ne (tgt := 138) hx hb dX11_run_132 rfl (fun c_1 => ?_) (fun c_1 => ?_)
    · have g_2 : RG p2 0 0 := RG_ne1 g_p2 (q := 1) rfl c_1 (by decide +kernel)
      refine lv_iload hx hb dX11_run_138 (lv_at hl 1 rfl) ?_
      refine lv_aload_n hx hb dX11_run_140 rfl (lv_at hl 2 rfl) ?_
      refine va_get (D := (dC, dI)) (ci := 6) (v := .int z_f1) (C := RX6) (T := TX6) (N := 2) hx hb hts iw_c_X11_run_X6 hown hK hP 23 rfl rfl 1 (by decide +kernel) (hts (.fieldLink RX11 296 "BuoyVote$Plan" "steps" "I") (List.mem_of_getElem? (i := 42) rfl)) (fun _ h9 => h9) rfl dX11_run_141 ?_
      refine lv_icmp_ne (tgt := 151) hx hb dX11_run_144 rfl (fun c_3 => ?_) (fun c_3 => ?_)
      · refine lv_iload hx hb dX11_run_151 (lv_at hl 1 rfl) ?_
        have hK9 := hK.sub (tys' := []) [] rfl
        exact W.iret (v := j130_l4) hx hb hr (fun t ht hW => ⟨⟨j130_l4, (h0_7_f0, h0_7_f1, j130_h0_8_f2, h0_7_f3, j130_h0_8_4c, j130_h0_8_5c, j130_h0_8_6c, j130_h0_8_7c, j130_h0_8_8c, j130_h0_8_9c, j130_h0_8_10c, j130_h0_8_11c, j130_h0_8_12c, j130_h0_6_4c, j130_h0_6_2c, j130_h0_6_3c, j130_h0_3_3c, j130_h0_3_0_e0_2c, j130_h0_3_0_e1_2c, j130_h0_3_0_e2_2c, j130_h0_3_0_e3_2c), rfl, (Or.inr (Or.inl ⟨(RG_w g_j130_l4 (by decide +kernel)), g_h0_7_f3, a_j130_h0_6_3c, g_h0_1_f1, g_h0_f5, g_p1, (RG_w g_2 (by decide +kernel))⟩)), by rw [ht]; exact hP, va_K.moved hW.alike hK9, hD⟩, hS.F ht⟩) hS.2.2 dX11_run_153
      · refine lv_iconst (v := (-1)) hx hb dX11_run_147 kc_iconst_m1 ?_
        refine lv_goto (tgt := 153) hx hb dX11_run_148 rfl ?_
        as_aux_lemma =>
        have hK9 := hK.sub (tys' := []) [] rfl
        exact W.iret (v := (-1)) hx hb hr (fun t ht hW => ⟨⟨(-1), (h0_7_f0, h0_7_f1, j130_h0_8_f2, h0_7_f3, j130_h0_8_4c, j130_h0_8_5c, j130_h0_8_6c, j130_h0_8_7c, j130_h0_8_8c, j130_h0_8_9c, j130_h0_8_10c, j130_h0_8_11c, j130_h0_8_12c, j130_h0_6_4c, j130_h0_6_2c, j130_h0_6_3c, j130_h0_3_3c, j130_h0_3_0_e0_2c, j130_h0_3_0_e1_2c, j130_h0_3_0_e2_2c, j130_h0_3_0_e3_2c), rfl, (Or.inr (Or.inr ⟨rfl, g_h0_7_f3, a_j130_h0_6_3c, g_h0_1_f1, g_h0_f5, g_p1, g_2⟩)), by rw [ht]; exact hP, va_K.moved hW.alike hK9, hD⟩, hS.F ht⟩) hS.2.2 dX11_run_153
    · have g_4 : RG p2 1 1 := RG_eq1 g_p2 (RG_k 1 1 rfl) c_1 (by decide +kernel)
      refine lv_iload hx hb dX11_run_135 (lv_at hl 0 rfl) ?_
      have hK9 := hK.sub (tys' := []) [] rfl
      exact W.iret (v := j130_l5) hx hb hr (fun t ht hW => ⟨⟨j130_l5, (h0_7_f0, h0_7_f1, j130_h0_8_f2, h0_7_f3, j130_h0_8_4c, j130_h0_8_5c, j130_h0_8_6c, j130_h0_8_7c, j130_h0_8_8c, j130_h0_8_9c, j130_h0_8_10c, j130_h0_8_11c, j130_h0_8_12c, j130_h0_6_4c, j130_h0_6_2c, j130_h0_6_3c, j130_h0_3_3c, j130_h0_3_0_e0_2c, j130_h0_3_0_e1_2c, j130_h0_3_0_e2_2c, j130_h0_3_0_e3_2c), rfl, (Or.inr (Or.inl ⟨(RG_any j130_l5), g_h0_7_f3, a_j130_h0_6_3c, g_h0_1_f1, g_h0_f5, g_p1, (RG_w g_4 (by decide +kernel))⟩)), by rw [ht]; exact hP, va_K.moved hW.alike hK9, hD⟩, hS.F ht⟩) hS.2.2 dX11_run_137
  have J51 : ∀ (n51 : Nat) (j51_l5 : Int32) (j51_l4 : Int32) (j51_h0_8_f2 : Int32) (j51_h0_8_4c : Nat → Int32) (j51_h0_8_5c : Nat → Int32) (j51_h0_8_6c : Nat → Int32) (j51_h0_8_7c : Nat → Int32) (j51_h0_8_8c : Nat → Int32) (j51_h0_8_9c : Nat → Int32) (j51_h0_8_10c : Nat → Int32) (j51_h0_8_11c : Nat → Int32) (j51_h0_8_12c : Nat → Int32) (j51_h0_6_4c : Nat → Int32) (j51_h0_6_2c : Nat → Int32) (j51_h0_6_3c : Nat → Int32) (j51_h0_3_3c : Nat → Int32) (j51_h0_3_0_e0_2c : Nat → Int32) (j51_h0_3_0_e1_2c : Nat → Int32) (j51_h0_3_0_e2_2c : Nat → Int32) (j51_h0_3_0_e3_2c : Nat → Int32) (hM51 : MU j51_l4 < n51) (g_h0_1_f1 : RG h0_1_f1 1 8) (g_h0_1_f2 : RG h0_1_f2 0 3) (g_h0_1_f3 : RG h0_1_f3 0 1) (g_h0_3_0_e0_f1 : RG h0_3_0_e0_f1 0 240) (g_h0_3_0_e1_f1 : RG h0_3_0_e1_f1 0 240) (g_h0_3_0_e2_f1 : RG h0_3_0_e2_f1 0 240) (g_h0_3_0_e3_f1 : RG h0_3_0_e3_f1 0 240) (g_h0_3_f1 : RG h0_3_f1 0 4) (g_h0_7_f2 : RG h0_7_f2 0 9999) (g_h0_7_f3 : RG h0_7_f3 0 9999) (g_h0_f5 : RG h0_f5 1 4) (g_j51_l4 : RG j51_l4 0 16) (g_p1 : RG p1 0 3) (g_p2 : RG p2 0 1) (g_z_f1 : RG z_f1 0 16) (a_j51_h0_6_3c : AI j51_h0_6_3c (-1) 2) (H : Heap) (locs : List Loc) (ls : Array Slot) (hP : va_P (dC, dI) vwCl (wd_c_X11_run h0 h0_0 h0_1 h0_2 h0_3 h0_4 h0_f5 h0_6 h0_7 h0_8 h0_9 h0_10 h0_11 h0_12 h0_13 h0_14 h0_f15 h0_1 h0_1_0 h0_1_f1 h0_1_f2 h0_1_f3 h0_4 h0_4k h0_4c h0_7 h0_7_f0 h0_7_f1 h0_7_f2 h0_7_f3 h0_7_4 h0_7_5 h0_7_6 h0_7_7 h0_7_8 h0_7_9 h0_7_10 h0_7_11 h0_7_12 h0_8 h0_7_f0 h0_7_f1 j51_h0_8_f2 h0_7_f3 h0_8_4 h0_8_5 h0_8_6 h0_8_7 h0_8_8 h0_8_9 h0_8_10 h0_8_11 h0_8_12 h0_7_4 h0_7_4k h0_7_4c h0_8_4 h0_8_4k j51_h0_8_4c h0_7_5 h0_7_5k h0_7_5c h0_8_5 h0_8_5k j51_h0_8_5c h0_7_6 h0_7_6k h0_7_6c h0_8_6 h0_8_6k j51_h0_8_6c h0_7_7 h0_7_7k h0_7_7c h0_8_7 h0_8_7k j51_h0_8_7c h0_7_8 h0_7_8k h0_7_8c h0_8_8 h0_8_8k j51_h0_8_8c h0_7_9 h0_7_9k h0_7_9c h0_8_9 h0_8_9k j51_h0_8_9c h0_7_10 h0_7_10k h0_7_10c h0_8_10 h0_8_10k j51_h0_8_10c h0_7_11 h0_7_11k h0_7_11c h0_8_11 h0_8_11k j51_h0_8_11c h0_7_12 h0_7_12k h0_7_12c h0_8_12 h0_8_12k j51_h0_8_12c z z_0 z_f1 z_0 z_0k z_0c h0_1_0 h0_1_0k h0_1_0c h0_6 h0_1 h0_3 h0_6_2 h0_6_3 h0_6_4 h0_6_5 h0_6_4 h0_6_4k j51_h0_6_4c h0_6_2 h0_6_2k j51_h0_6_2c h0_6_3 h0_6_3k j51_h0_6_3c h0_3 h0_3_0 h0_3_f1 h0_3_f2 h0_3_3 h0_3_3 h0_3_3k j51_h0_3_3c h0_3_0 h0_3_0k h0_3_0c h0_3_0_e0 h0_3_0_e0_0 h0_3_0_e0_f1 h0_3_0_e0_2 h0_3_0_e0_0 h0_3_0_e0_0k h0_3_0_e0_0c h0_3_0_e0_2 h0_3_0_e0_2k j51_h0_3_0_e0_2c h0_3_0_e1 h0_3_0_e1_0 h0_3_0_e1_f1 h0_3_0_e1_2 h0_3_0_e1_0 h0_3_0_e1_0k h0_3_0_e1_0c h0_3_0_e1_2 h0_3_0_e1_2k j51_h0_3_0_e1_2c h0_3_0_e2 h0_3_0_e2_0 h0_3_0_e2_f1 h0_3_0_e2_2 h0_3_0_e2_0 h0_3_0_e2_0k h0_3_0_e2_0c h0_3_0_e2_2 h0_3_0_e2_2k j51_h0_3_0_e2_2c h0_3_0_e3 h0_3_0_e3_0 h0_3_0_e3_f1 h0_3_0_e3_2 h0_3_0_e3_0 h0_3_0_e3_0k h0_3_0_e3_0c h0_3_0_e3_2 h0_3_0_e3_2k j51_h0_3_0_e3_2c) H) (hD : va_D A (wd_c_X11_run h0 h0_0 h0_1 h0_2 h0_3 h0_4 h0_f5 h0_6 h0_7 h0_8 h0_9 h0_10 h0_11 h0_12 h0_13 h0_14 h0_f15 h0_1 h0_1_0 h0_1_f1 h0_1_f2 h0_1_f3 h0_4 h0_4k h0_4c h0_7 h0_7_f0 h0_7_f1 h0_7_f2 h0_7_f3 h0_7_4 h0_7_5 h0_7_6 h0_7_7 h0_7_8 h0_7_9 h0_7_10 h0_7_11 h0_7_12 h0_8 h0_7_f0 h0_7_f1 j51_h0_8_f2 h0_7_f3 h0_8_4 h0_8_5 h0_8_6 h0_8_7 h0_8_8 h0_8_9 h0_8_10 h0_8_11 h0_8_12 h0_7_4 h0_7_4k h0_7_4c h0_8_4 h0_8_4k j51_h0_8_4c h0_7_5 h0_7_5k h0_7_5c h0_8_5 h0_8_5k j51_h0_8_5c h0_7_6 h0_7_6k h0_7_6c h0_8_6 h0_8_6k j51_h0_8_6c h0_7_7 h0_7_7k h0_7_7c h0_8_7 h0_8_7k j51_h0_8_7c h0_7_8 h0_7_8k h0_7_8c h0_8_8 h0_8_8k j51_h0_8_8c h0_7_9 h0_7_9k h0_7_9c h0_8_9 h0_8_9k j51_h0_8_9c h0_7_10 h0_7_10k h0_7_10c h0_8_10 h0_8_10k j51_h0_8_10c h0_7_11 h0_7_11k h0_7_11c h0_8_11 h0_8_11k j51_h0_8_11c h0_7_12 h0_7_12k h0_7_12c h0_8_12 h0_8_12k j51_h0_8_12c z z_0 z_f1 z_0 z_0k z_0c h0_1_0 h0_1_0k h0_1_0c h0_6 h0_1 h0_3 h0_6_2 h0_6_3 h0_6_4 h0_6_5 h0_6_4 h0_6_4k j51_h0_6_4c h0_6_2 h0_6_2k j51_h0_6_2c h0_6_3 h0_6_3k j51_h0_6_3c h0_3 h0_3_0 h0_3_f1 h0_3_f2 h0_3_3 h0_3_3 h0_3_3k j51_h0_3_3c h0_3_0 h0_3_0k h0_3_0c h0_3_0_e0 h0_3_0_e0_0 h0_3_0_e0_f1 h0_3_0_e0_2 h0_3_0_e0_0 h0_3_0_e0_0k h0_3_0_e0_0c h0_3_0_e0_2 h0_3_0_e0_2k j51_h0_3_0_e0_2c h0_3_0_e1 h0_3_0_e1_0 h0_3_0_e1_f1 h0_3_0_e1_2 h0_3_0_e1_0 h0_3_0_e1_0k h0_3_0_e1_0c h0_3_0_e1_2 h0_3_0_e1_2k j51_h0_3_0_e1_2c h0_3_0_e2 h0_3_0_e2_0 h0_3_0_e2_f1 h0_3_0_e2_2 h0_3_0_e2_0 h0_3_0_e2_0k h0_3_0_e2_0c h0_3_0_e2_2 h0_3_0_e2_2k j51_h0_3_0_e2_2c h0_3_0_e3 h0_3_0_e3_0 h0_3_0_e3_f1 h0_3_0_e3_2 h0_3_0_e3_0 h0_3_0_e3_0k h0_3_0_e3_0c h0_3_0_e3_2 h0_3_0_e3_2k j51_h0_3_0_e3_2c)) (hS : va_S A s.heap H locs) (hl : lv_has ls 6 [(5, .int j51_l5), (4, .int j51_l4), (3, .ref z), (0, .ref h0), (2, .int p2)]), G H locs (F0 m 51 ls []) := by
    as_aux_lemma =>
    intro n51
    induction n51 with
    | zero => intros; exact absurd (by assumption) (Nat.not_lt_zero _)
    | succ n51 ih51 =>
      intro j51_l5 j51_l4 j51_h0_8_f2 j51_h0_8_4c j51_h0_8_5c j51_h0_8_6c j51_h0_8_7c j51_h0_8_8c j51_h0_8_9c j51_h0_8_10c j51_h0_8_11c j51_h0_8_12c j51_h0_6_4c j51_h0_6_2c j51_h0_6_3c j51_h0_3_3c j51_h0_3_0_e0_2c j51_h0_3_0_e1_2c j51_h0_3_0_e2_2c j51_h0_3_0_e3_2c hM51 g_h0_1_f1 g_h0_1_f2 g_h0_1_f3 g_h0_3_0_e0_f1 g_h0_3_0_e1_f1 g_h0_3_0_e2_f1 g_h0_3_0_e3_f1 g_h0_3_f1 g_h0_7_f2 g_h0_7_f3 g_h0_f5 g_j51_l4 g_p1 g_p2 g_z_f1 a_j51_h0_6_3c H locs ls hP hD hS hl
      have J124 : ∀ (j124_l5 : Int32) (j124_h0_8_f2 : Int32) (j124_h0_8_4c : Nat → Int32) (j124_h0_8_5c : Nat → Int32) (j124_h0_8_6c : Nat → Int32) (j124_h0_8_7c : Nat → Int32) (j124_h0_8_8c : Nat → Int32) (j124_h0_8_9c : Nat → Int32) (j124_h0_8_10c : Nat → Int32) (j124_h0_8_11c : Nat → Int32) (j124_h0_8_12c : Nat → Int32) (j124_h0_6_4c : Nat → Int32) (j124_h0_6_2c : Nat → Int32) (j124_h0_6_3c : Nat → Int32) (j124_h0_3_3c : Nat → Int32) (j124_h0_3_0_e0_2c : Nat → Int32) (j124_h0_3_0_e1_2c : Nat → Int32) (j124_h0_3_0_e2_2c : Nat → Int32) (j124_h0_3_0_e3_2c : Nat → Int32) (g_h0_1_f1 : RG h0_1_f1 1 8) (g_h0_1_f2 : RG h0_1_f2 0 3) (g_h0_1_f3 : RG h0_1_f3 0 1) (g_h0_3_0_e0_f1 : RG h0_3_0_e0_f1 0 240) (g_h0_3_0_e1_f1 : RG h0_3_0_e1_f1 0 240) (g_h0_3_0_e2_f1 : RG h0_3_0_e2_f1 0 240) (g_h0_3_0_e3_f1 : RG h0_3_0_e3_f1 0 240) (g_h0_3_f1 : RG h0_3_f1 0 4) (g_h0_7_f2 : RG h0_7_f2 0 9999) (g_h0_7_f3 : RG h0_7_f3 0 9999) (g_h0_f5 : RG h0_f5 1 4) (g_j51_l4 : RG j51_l4 0 15) (g_p1 : RG p1 0 3) (g_p2 : RG p2 0 1) (g_z_f1 : RG z_f1 1 16) (a_j124_h0_6_3c : AI j124_h0_6_3c (-1) 2) (H : Heap) (locs : List Loc) (ls : Array Slot) (hP : va_P (dC, dI) vwCl (wd_c_X11_run h0 h0_0 h0_1 h0_2 h0_3 h0_4 h0_f5 h0_6 h0_7 h0_8 h0_9 h0_10 h0_11 h0_12 h0_13 h0_14 h0_f15 h0_1 h0_1_0 h0_1_f1 h0_1_f2 h0_1_f3 h0_4 h0_4k h0_4c h0_7 h0_7_f0 h0_7_f1 h0_7_f2 h0_7_f3 h0_7_4 h0_7_5 h0_7_6 h0_7_7 h0_7_8 h0_7_9 h0_7_10 h0_7_11 h0_7_12 h0_8 h0_7_f0 h0_7_f1 j124_h0_8_f2 h0_7_f3 h0_8_4 h0_8_5 h0_8_6 h0_8_7 h0_8_8 h0_8_9 h0_8_10 h0_8_11 h0_8_12 h0_7_4 h0_7_4k h0_7_4c h0_8_4 h0_8_4k j124_h0_8_4c h0_7_5 h0_7_5k h0_7_5c h0_8_5 h0_8_5k j124_h0_8_5c h0_7_6 h0_7_6k h0_7_6c h0_8_6 h0_8_6k j124_h0_8_6c h0_7_7 h0_7_7k h0_7_7c h0_8_7 h0_8_7k j124_h0_8_7c h0_7_8 h0_7_8k h0_7_8c h0_8_8 h0_8_8k j124_h0_8_8c h0_7_9 h0_7_9k h0_7_9c h0_8_9 h0_8_9k j124_h0_8_9c h0_7_10 h0_7_10k h0_7_10c h0_8_10 h0_8_10k j124_h0_8_10c h0_7_11 h0_7_11k h0_7_11c h0_8_11 h0_8_11k j124_h0_8_11c h0_7_12 h0_7_12k h0_7_12c h0_8_12 h0_8_12k j124_h0_8_12c z z_0 z_f1 z_0 z_0k z_0c h0_1_0 h0_1_0k h0_1_0c h0_6 h0_1 h0_3 h0_6_2 h0_6_3 h0_6_4 h0_6_5 h0_6_4 h0_6_4k j124_h0_6_4c h0_6_2 h0_6_2k j124_h0_6_2c h0_6_3 h0_6_3k j124_h0_6_3c h0_3 h0_3_0 h0_3_f1 h0_3_f2 h0_3_3 h0_3_3 h0_3_3k j124_h0_3_3c h0_3_0 h0_3_0k h0_3_0c h0_3_0_e0 h0_3_0_e0_0 h0_3_0_e0_f1 h0_3_0_e0_2 h0_3_0_e0_0 h0_3_0_e0_0k h0_3_0_e0_0c h0_3_0_e0_2 h0_3_0_e0_2k j124_h0_3_0_e0_2c h0_3_0_e1 h0_3_0_e1_0 h0_3_0_e1_f1 h0_3_0_e1_2 h0_3_0_e1_0 h0_3_0_e1_0k h0_3_0_e1_0c h0_3_0_e1_2 h0_3_0_e1_2k j124_h0_3_0_e1_2c h0_3_0_e2 h0_3_0_e2_0 h0_3_0_e2_f1 h0_3_0_e2_2 h0_3_0_e2_0 h0_3_0_e2_0k h0_3_0_e2_0c h0_3_0_e2_2 h0_3_0_e2_2k j124_h0_3_0_e2_2c h0_3_0_e3 h0_3_0_e3_0 h0_3_0_e3_f1 h0_3_0_e3_2 h0_3_0_e3_0 h0_3_0_e3_0k h0_3_0_e3_0c h0_3_0_e3_2 h0_3_0_e3_2k j124_h0_3_0_e3_2c) H) (hD : va_D A (wd_c_X11_run h0 h0_0 h0_1 h0_2 h0_3 h0_4 h0_f5 h0_6 h0_7 h0_8 h0_9 h0_10 h0_11 h0_12 h0_13 h0_14 h0_f15 h0_1 h0_1_0 h0_1_f1 h0_1_f2 h0_1_f3 h0_4 h0_4k h0_4c h0_7 h0_7_f0 h0_7_f1 h0_7_f2 h0_7_f3 h0_7_4 h0_7_5 h0_7_6 h0_7_7 h0_7_8 h0_7_9 h0_7_10 h0_7_11 h0_7_12 h0_8 h0_7_f0 h0_7_f1 j124_h0_8_f2 h0_7_f3 h0_8_4 h0_8_5 h0_8_6 h0_8_7 h0_8_8 h0_8_9 h0_8_10 h0_8_11 h0_8_12 h0_7_4 h0_7_4k h0_7_4c h0_8_4 h0_8_4k j124_h0_8_4c h0_7_5 h0_7_5k h0_7_5c h0_8_5 h0_8_5k j124_h0_8_5c h0_7_6 h0_7_6k h0_7_6c h0_8_6 h0_8_6k j124_h0_8_6c h0_7_7 h0_7_7k h0_7_7c h0_8_7 h0_8_7k j124_h0_8_7c h0_7_8 h0_7_8k h0_7_8c h0_8_8 h0_8_8k j124_h0_8_8c h0_7_9 h0_7_9k h0_7_9c h0_8_9 h0_8_9k j124_h0_8_9c h0_7_10 h0_7_10k h0_7_10c h0_8_10 h0_8_10k j124_h0_8_10c h0_7_11 h0_7_11k h0_7_11c h0_8_11 h0_8_11k j124_h0_8_11c h0_7_12 h0_7_12k h0_7_12c h0_8_12 h0_8_12k j124_h0_8_12c z z_0 z_f1 z_0 z_0k z_0c h0_1_0 h0_1_0k h0_1_0c h0_6 h0_1 h0_3 h0_6_2 h0_6_3 h0_6_4 h0_6_5 h0_6_4 h0_6_4k j124_h0_6_4c h0_6_2 h0_6_2k j124_h0_6_2c h0_6_3 h0_6_3k j124_h0_6_3c h0_3 h0_3_0 h0_3_f1 h0_3_f2 h0_3_3 h0_3_3 h0_3_3k j124_h0_3_3c h0_3_0 h0_3_0k h0_3_0c h0_3_0_e0 h0_3_0_e0_0 h0_3_0_e0_f1 h0_3_0_e0_2 h0_3_0_e0_0 h0_3_0_e0_0k h0_3_0_e0_0c h0_3_0_e0_2 h0_3_0_e0_2k j124_h0_3_0_e0_2c h0_3_0_e1 h0_3_0_e1_0 h0_3_0_e1_f1 h0_3_0_e1_2 h0_3_0_e1_0 h0_3_0_e1_0k h0_3_0_e1_0c h0_3_0_e1_2 h0_3_0_e1_2k j124_h0_3_0_e1_2c h0_3_0_e2 h0_3_0_e2_0 h0_3_0_e2_f1 h0_3_0_e2_2 h0_3_0_e2_0 h0_3_0_e2_0k h0_3_0_e2_0c h0_3_0_e2_2 h0_3_0_e2_2k j124_h0_3_0_e2_2c h0_3_0_e3 h0_3_0_e3_0 h0_3_0_e3_f1 h0_3_0_e3_2 h0_3_0_e3_0 h0_3_0_e3_0k h0_3_0_e3_0c h0_3_0_e3_2 h0_3_0_e3_2k j124_h0_3_0_e3_2c)) (hS : va_S A s.heap H locs) (hl : lv_has ls 6 [(5, .int j124_l5), (4, .int j51_l4), (3, .ref z), (0, .ref h0), (2, .int p2)]), G H locs (F0 m 124 ls []) := by
        as_aux_lemma =>
        intro j124_l5 j124_h0_8_f2 j124_h0_8_4c j124_h0_8_5c j124_h0_8_6c j124_h0_8_7c j124_h0_8_8c j124_h0_8_9c j124_h0_8_10c j124_h0_8_11c j124_h0_8_12c j124_h0_6_4c j124_h0_6_2c j124_h0_6_3c j124_h0_3_3c j124_h0_3_0_e0_2c j124_h0_3_0_e1_2c j124_h0_3_0_e2_2c j124_h0_3_0_e3_2c g_h0_1_f1 g_h0_1_f2 g_h0_1_f3 g_h0_3_0_e0_f1 g_h0_3_0_e1_f1 g_h0_3_0_e2_f1 g_h0_3_0_e3_f1 g_h0_3_f1 g_h0_7_f2 g_h0_7_f3 g_h0_f5 g_j51_l4 g_p1 g_p2 g_z_f1 a_j124_h0_6_3c H locs ls hP hD hS hl
        refine hG _ _ _ ?_
        obtain ⟨x_5, ex_5⟩ : ∃ y : Int32, y = j51_l4 + 1 := ⟨_, rfl⟩
        have g_6 : RG x_5 1 16 := RG_add ex_5 g_j51_l4 (RG_k 1 1 rfl) (by decide +kernel)
        refine lv_iinc (v := x_5) (lv' := [(4, .int x_5), (5, .int j124_l5), (3, .ref z), (0, .ref h0), (2, .int p2)]) hx hb dX11_run_124 hl (k := 1) rfl (by rw [ex_5]; rfl) (Nat.le_of_ble_eq_true rfl) rfl (fun ls hl => ?_)
        refine lv_goto (tgt := 51) hx hb dX11_run_127 rfl ?_
        exact hU _ _ _ (ih51 j124_l5 x_5 j124_h0_8_f2 j124_h0_8_4c j124_h0_8_5c j124_h0_8_6c j124_h0_8_7c j124_h0_8_8c j124_h0_8_9c j124_h0_8_10c j124_h0_8_11c j124_h0_8_12c j124_h0_6_4c j124_h0_6_2c j124_h0_6_3c j124_h0_3_3c j124_h0_3_0_e0_2c j124_h0_3_0_e1_2c j124_h0_3_0_e2_2c j124_h0_3_0_e3_2c (mu_s (MU_add ex_5 g_j51_l4 (q := 1) rfl (by decide +kernel)) hM51) g_h0_1_f1 g_h0_1_f2 g_h0_1_f3 g_h0_3_0_e0_f1 g_h0_3_0_e1_f1 g_h0_3_0_e2_f1 g_h0_3_0_e3_f1 g_h0_3_f1 g_h0_7_f2 g_h0_7_f3 g_h0_f5 (RG_w g_6 (by decide +kernel)) g_p1 g_p2 (RG_w g_z_f1 (by decide +kernel)) a_j124_h0_6_3c _ _ _ hP hD hS (lv_sub hl [1, 0, 2, 3, 4] rfl))
      refine hG _ _ _ ?_
      refine lv_iload hx hb dX11_run_51 (lv_at hl 1 rfl) ?_
      refine lv_aload_n hx hb dX11_run_53 rfl (lv_at hl 2 rfl) ?_
      refine va_get (D := (dC, dI)) (ci := 6) (v := .int z_f1) (C := RX6) (T := TX6) (N := 2) hx hb hts iw_c_X11_run_X6 hown hK hP 23 rfl rfl 1 (by decide +kernel) (hts (.fieldLink RX11 296 "BuoyVote$Plan" "steps" "I") (List.mem_of_getElem? (i := 42) rfl)) (fun _ h9 => h9) rfl dX11_run_54 ?_
      refine lv_icmp_ge (tgt := 130) hx hb dX11_run_57 rfl (fun c_7 => ?_) (fun c_7 => ?_)
      · exact hU _ _ _ (J130 j51_l5 j51_l4 j51_h0_8_f2 j51_h0_8_4c j51_h0_8_5c j51_h0_8_6c j51_h0_8_7c j51_h0_8_8c j51_h0_8_9c j51_h0_8_10c j51_h0_8_11c j51_h0_8_12c j51_h0_6_4c j51_h0_6_2c j51_h0_6_3c j51_h0_3_3c j51_h0_3_0_e0_2c j51_h0_3_0_e1_2c j51_h0_3_0_e2_2c j51_h0_3_0_e3_2c g_h0_1_f1 g_h0_1_f2 g_h0_1_f3 g_h0_3_0_e0_f1 g_h0_3_0_e1_f1 g_h0_3_0_e2_f1 g_h0_3_0_e3_f1 g_h0_3_f1 g_h0_7_f2 g_h0_7_f3 g_h0_f5 g_j51_l4 g_p1 g_p2 g_z_f1 a_j51_h0_6_3c _ _ _ hP hD hS (lv_sub hl [0, 1, 2, 4] rfl))
      · have d_8 := Int32.not_le.mp c_7
        have g_9 : RG j51_l4 0 15 := RG_lt1 g_j51_l4 g_z_f1 d_8 (by decide +kernel)
        have g_10 : RG z_f1 1 16 := RG_lt2 g_j51_l4 g_z_f1 d_8 (by decide +kernel)
        refine lv_aload_n hx hb dX11_run_60 rfl (lv_at hl 3 rfl) ?_
        as_aux_lemma =>
        refine lv_aload_n hx hb dX11_run_61 rfl (lv_at hl 3 rfl) ?_
        refine va_get (D := (dC, dI)) (ci := 11) (v := .ref h0_8) (C := RX11) (T := TX11) (N := 16) hx hb hts iw_c_X11_run_X11 hown hK hP 0 rfl rfl 8 (by decide +kernel) (hts (.fieldLink RX11 56 "BuoyVote" "apart" "LBuoyVote$Sea;") (List.mem_of_getElem? (i := 18) rfl)) (fun _ h9 => h9) rfl dX11_run_62 ?_
        refine lv_aload_n hx hb dX11_run_65 rfl (lv_at hl 2 rfl) ?_
        refine lv_iload hx hb dX11_run_66 (lv_at hl 1 rfl) ?_
        obtain ⟨y_11, v_12⟩ : ∃ y : Int32, y = z_0c (j51_l4 * 4 + 0).toNatClampNeg := ⟨_, rfl⟩
        have g_13 : RG y_11 (-1) 9 := AI_rd a_z_0c v_12
        obtain ⟨y_14, v_15⟩ : ∃ y : Int32, y = z_0c (j51_l4 * 4 + 1).toNatClampNeg := ⟨_, rfl⟩
        have g_16 : RG y_14 (-1) 9 := AI_rd a_z_0c v_15
        obtain ⟨y_17, v_18⟩ : ∃ y : Int32, y = z_0c (j51_l4 * 4 + 2).toNatClampNeg := ⟨_, rfl⟩
        have g_19 : RG y_17 (-1) 9 := AI_rd a_z_0c v_18
        obtain ⟨y_20, v_21⟩ : ∃ y : Int32, y = z_0c (j51_l4 * 4 + 3).toNatClampNeg := ⟨_, rfl⟩
        have g_22 : RG y_20 (-1) 9 := AI_rd a_z_0c v_21
        obtain ⟨hPc, hDc, hFc, hqc⟩ := cl_cut (wc := (wd_c_X11_canDo z z_0 z_f1 z_0 z_0k z_0c h0 h0_0 h0_1 h0_2 h0_3 h0_4 h0_f5 h0_6 h0_7 h0_8 h0_9 h0_10 h0_11 h0_12 h0_13 h0_14 h0_f15 h0_1 h0_1_0 h0_1_f1 h0_1_f2 h0_1_f3 h0_8 h0_7_f0 h0_7_f1 j51_h0_8_f2 h0_7_f3 h0_8_4 h0_8_5 h0_8_6 h0_8_7 h0_8_8 h0_8_9 h0_8_10 h0_8_11 h0_8_12 h0_8_6 h0_8_6k j51_h0_8_6c h0_8_7 h0_8_7k j51_h0_8_7c h0_1_0 h0_1_0k h0_1_0c h0_8_4 h0_8_4k j51_h0_8_4c h0_8_5 h0_8_5k j51_h0_8_5c h0_8_10 h0_8_10k j51_h0_8_10c h0_8_12 h0_8_12k j51_h0_8_12c)) hP hD hS hA [23, 24, 0, 1, 4, 10, 12, 25, 6, 8, 18, 22] (by decide +kernel) rfl
        have hKc := hK.sub (tys' := [(z_0k, .int), (h0_8_6k, .int), (h0_8_7k, .int), (h0_1_0k, .int), (h0_8_4k, .int), (h0_8_5k, .int), (h0_8_10k, .int), (h0_8_12k, .int)]) [19, 6, 8, 20, 2, 4, 14, 18] rfl
        have hrv := va_recv hKc hPc (ci := 11) (q0 := 2) rfl rfl
        refine va_calli (va_runV (As := [.ref h0_8, .ref z, .int j51_l4]) (rest := []) ⟨hx, hb, hml, hown, hts⟩ (c_X11_canDo l dC dI H.size h0 h0_8 z j51_l4 z_0 z_f1 z_0k z_0c h0_0 h0_1 h0_2 h0_3 h0_4 h0_f5 h0_6 h0_7 h0_8 h0_9 h0_10 h0_11 h0_12 h0_13 h0_14 h0_f15 h0_1_0 h0_1_f1 h0_1_f2 h0_1_f3 h0_7_f0 h0_7_f1 j51_h0_8_f2 h0_7_f3 h0_8_4 h0_8_5 h0_8_6 h0_8_7 h0_8_8 h0_8_9 h0_8_10 h0_8_11 h0_8_12 h0_8_6k j51_h0_8_6c h0_8_7k j51_h0_8_7c h0_1_0k h0_1_0c h0_8_4k j51_h0_8_4c h0_8_5k j51_h0_8_5c h0_8_10k j51_h0_8_10c h0_8_12k j51_h0_8_12c y_11 y_14 y_17 y_20 g_9 (RG_w g_10 (by decide +kernel)) a_z_0c (RG_w g_h0_f5 (by decide +kernel)) (RG_w g_h0_1_f1 (by decide +kernel)) g_h0_1_f2 g_h0_1_f3 a_h0_1_0c v_12 g_13 v_15 g_16 v_18 g_19 v_21 g_22) (cwV 3 hts gf_c_X11_run_c_X11_canDo rfl rfl rfl mdV_X11_canDo ⟨Nat.le_of_ble_eq_true rfl, Nat.le_of_ble_eq_true rfl⟩) ⟨fun a U g mk q => by obtain ⟨q0, q1, qP, qK, qD⟩ := q; exact ⟨q0, q1, qP, va_K.moved (u := U) (U := U.calling g mk a) (Vm.Alike.refl U.vm) qK, qD⟩, hrv, fun U hU hW => ⟨rfl, by rw [hU], by rw [hU]; exact hPc, va_K.moved hW.alike hKc, hDc.weaken (fun _ _ _ _ => trivial)⟩⟩ rfl rfl hl.1 rfl (lv_room (Nat.le_of_ble_eq_true rfl)) dX11_run_68 ⟨Nat.le_of_ble_eq_true rfl, Nat.le_of_ble_eq_true rfl⟩) hS (fun q _ h => hFc q h) hFc (fun r_23 u t H1 locs ht hvm hw hB hz1 hk1 hS => ?_)
        as_aux_lemma =>
        obtain ⟨hP1, hK1, hD1⟩ := hB
        rw [ht] at hP1
        obtain ⟨hP, hD⟩ := cl_put (w1 := (wd_c_X11_canDo z z_0 z_f1 z_0 z_0k z_0c h0 h0_0 h0_1 h0_2 h0_3 h0_4 h0_f5 h0_6 h0_7 h0_8 h0_9 h0_10 h0_11 h0_12 h0_13 h0_14 h0_f15 h0_1 h0_1_0 h0_1_f1 h0_1_f2 h0_1_f3 h0_8 h0_7_f0 h0_7_f1 j51_h0_8_f2 h0_7_f3 h0_8_4 h0_8_5 h0_8_6 h0_8_7 h0_8_8 h0_8_9 h0_8_10 h0_8_11 h0_8_12 h0_8_6 h0_8_6k j51_h0_8_6c h0_8_7 h0_8_7k j51_h0_8_7c h0_1_0 h0_1_0k h0_1_0c h0_8_4 h0_8_4k j51_h0_8_4c h0_8_5 h0_8_5k j51_h0_8_5c h0_8_10 h0_8_10k j51_h0_8_10c h0_8_12 h0_8_12k j51_h0_8_12c)) (nw := (wd_c_X11_run h0 h0_0 h0_1 h0_2 h0_3 h0_4 h0_f5 h0_6 h0_7 h0_8 h0_9 h0_10 h0_11 h0_12 h0_13 h0_14 h0_f15 h0_1 h0_1_0 h0_1_f1 h0_1_f2 h0_1_f3 h0_4 h0_4k h0_4c h0_7 h0_7_f0 h0_7_f1 h0_7_f2 h0_7_f3 h0_7_4 h0_7_5 h0_7_6 h0_7_7 h0_7_8 h0_7_9 h0_7_10 h0_7_11 h0_7_12 h0_8 h0_7_f0 h0_7_f1 j51_h0_8_f2 h0_7_f3 h0_8_4 h0_8_5 h0_8_6 h0_8_7 h0_8_8 h0_8_9 h0_8_10 h0_8_11 h0_8_12 h0_7_4 h0_7_4k h0_7_4c h0_8_4 h0_8_4k j51_h0_8_4c h0_7_5 h0_7_5k h0_7_5c h0_8_5 h0_8_5k j51_h0_8_5c h0_7_6 h0_7_6k h0_7_6c h0_8_6 h0_8_6k j51_h0_8_6c h0_7_7 h0_7_7k h0_7_7c h0_8_7 h0_8_7k j51_h0_8_7c h0_7_8 h0_7_8k h0_7_8c h0_8_8 h0_8_8k j51_h0_8_8c h0_7_9 h0_7_9k h0_7_9c h0_8_9 h0_8_9k j51_h0_8_9c h0_7_10 h0_7_10k h0_7_10c h0_8_10 h0_8_10k j51_h0_8_10c h0_7_11 h0_7_11k h0_7_11c h0_8_11 h0_8_11k j51_h0_8_11c h0_7_12 h0_7_12k h0_7_12c h0_8_12 h0_8_12k j51_h0_8_12c z z_0 z_f1 z_0 z_0k z_0c h0_1_0 h0_1_0k h0_1_0c h0_6 h0_1 h0_3 h0_6_2 h0_6_3 h0_6_4 h0_6_5 h0_6_4 h0_6_4k j51_h0_6_4c h0_6_2 h0_6_2k j51_h0_6_2c h0_6_3 h0_6_3k j51_h0_6_3c h0_3 h0_3_0 h0_3_f1 h0_3_f2 h0_3_3 h0_3_3 h0_3_3k j51_h0_3_3c h0_3_0 h0_3_0k h0_3_0c h0_3_0_e0 h0_3_0_e0_0 h0_3_0_e0_f1 h0_3_0_e0_2 h0_3_0_e0_0 h0_3_0_e0_0k h0_3_0_e0_0c h0_3_0_e0_2 h0_3_0_e0_2k j51_h0_3_0_e0_2c h0_3_0_e1 h0_3_0_e1_0 h0_3_0_e1_f1 h0_3_0_e1_2 h0_3_0_e1_0 h0_3_0_e1_0k h0_3_0_e1_0c h0_3_0_e1_2 h0_3_0_e1_2k j51_h0_3_0_e1_2c h0_3_0_e2 h0_3_0_e2_0 h0_3_0_e2_f1 h0_3_0_e2_2 h0_3_0_e2_0 h0_3_0_e2_0k h0_3_0_e2_0c h0_3_0_e2_2 h0_3_0_e2_2k j51_h0_3_0_e2_2c h0_3_0_e3 h0_3_0_e3_0 h0_3_0_e3_f1 h0_3_0_e3_2 h0_3_0_e3_0 h0_3_0_e3_0k h0_3_0_e3_0c h0_3_0_e3_2 h0_3_0_e3_2k j51_h0_3_0_e3_2c)) hP hD [23, 24, 0, 1, 4, 10, 12, 25, 6, 8, 18, 22] [47, 48, 2, 3, 49, 5, 53, 7, 54, 9, 50, 11, 51, 13, 14, 15, 16, 17, 55, 19, 20, 21, 56, 45, 46, 52, 26, 27, 28, 29, 30, 31, 32, 33, 34, 35, 36, 37, 38, 39, 40, 41, 42, 43, 44] 45 rfl hqc (by decide +kernel) rfl hk1 hFc hP1 hD1
        generalize H1 = H at hP hS ⊢
        as_aux_lemma =>
        rcases hw with h_24 | ⟨h_25, h_26, h_27, h_28, h_29, h_30⟩ | ⟨h_31, h_32, h_33, h_34, h_35, h_36⟩ | ⟨h_37, h_38, h_39, h_40, h_41, h_42⟩ | ⟨h_43, h_44, h_45⟩ | ⟨h_46, h_47, h_48⟩
        · rw [h_24]
          refine lv_if_eq (tgt := 130) hx hb dX11_run_71 rfl (fun c_49 => ?_) (fun c_49 => absurd c_49 (by decide +kernel))
          exact hU _ _ _ (J130 j51_l5 j51_l4 j51_h0_8_f2 j51_h0_8_4c j51_h0_8_5c j51_h0_8_6c j51_h0_8_7c j51_h0_8_8c j51_h0_8_9c j51_h0_8_10c j51_h0_8_11c j51_h0_8_12c j51_h0_6_4c j51_h0_6_2c j51_h0_6_3c j51_h0_3_3c j51_h0_3_0_e0_2c j51_h0_3_0_e1_2c j51_h0_3_0_e2_2c j51_h0_3_0_e3_2c g_h0_1_f1 g_h0_1_f2 g_h0_1_f3 g_h0_3_0_e0_f1 g_h0_3_0_e1_f1 g_h0_3_0_e2_f1 g_h0_3_0_e3_f1 g_h0_3_f1 g_h0_7_f2 g_h0_7_f3 g_h0_f5 (RG_w g_9 (by decide +kernel)) g_p1 g_p2 (RG_w g_10 (by decide +kernel)) a_j51_h0_6_3c _ _ _ hP hD hS (lv_sub hl [0, 1, 2, 4] rfl))
        · rw [h_25]
          refine lv_if_eq (tgt := 130) hx hb dX11_run_71 rfl (fun c_50 => absurd c_50 (by decide +kernel)) (fun c_50 => ?_)
          refine lv_aload_n hx hb dX11_run_74 rfl (lv_at hl 2 rfl) ?_
          refine lv_iload hx hb dX11_run_75 (lv_at hl 1 rfl) ?_
          refine lv_iconst (v := 0) hx hb dX11_run_77 kc_iconst_0 ?_
          obtain ⟨hPc, hDc, hFc, hqc⟩ := cl_cut (wc := (wd_c_X6_part z z_0 z_f1 z_0 z_0k z_0c)) hP hD hS hA [23, 24] (by decide +kernel) rfl
          have hKc := hK.sub (tys' := [(z_0k, .int)]) [19] rfl
          have hrv := va_recv hKc hPc (ci := 6) (q0 := 0) rfl rfl
          refine va_calli (va_runV (As := [.int j51_l4, .int 0]) (rest := []) ⟨hx, hb, hml, hown, hts⟩ (c_X6_part l dC dI H.size z j51_l4 0 z_0 z_f1 z_0k z_0c g_9 (RG_w (RG_k 0 0 rfl) (by decide +kernel)) (RG_w g_10 (by decide +kernel)) a_z_0c) (cwV 2 hts gf_c_X11_run_c_X6_part rfl rfl rfl mdV_X6_part ⟨Nat.le_of_ble_eq_true rfl, Nat.le_of_ble_eq_true rfl⟩) ⟨fun a U g mk q => by obtain ⟨q0, q1, qP, qK, qD⟩ := q; exact ⟨q0, q1, qP, va_K.moved (u := U) (U := U.calling g mk a) (Vm.Alike.refl U.vm) qK, qD⟩, hrv, fun U hU hW => ⟨rfl, by rw [hU], by rw [hU]; exact hPc, va_K.moved hW.alike hKc, hDc.weaken (fun _ _ _ _ => trivial)⟩⟩ rfl rfl hl.1 rfl (lv_room (Nat.le_of_ble_eq_true rfl)) dX11_run_78 ⟨Nat.le_of_ble_eq_true rfl, Nat.le_of_ble_eq_true rfl⟩) hS (fun q _ h => hFc q h) hFc (fun r_51 u t H1 locs ht hvm hw hB hz1 hk1 hS => ?_)
          obtain ⟨hP1, hK1, hD1⟩ := hB
          rw [ht] at hP1
          obtain ⟨hP, hD⟩ := cl_put (w1 := (wd_c_X6_part z z_0 z_f1 z_0 z_0k z_0c)) (nw := (wd_c_X11_run h0 h0_0 h0_1 h0_2 h0_3 h0_4 h0_f5 h0_6 h0_7 h0_8 h0_9 h0_10 h0_11 h0_12 h0_13 h0_14 h0_f15 h0_1 h0_1_0 h0_1_f1 h0_1_f2 h0_1_f3 h0_4 h0_4k h0_4c h0_7 h0_7_f0 h0_7_f1 h0_7_f2 h0_7_f3 h0_7_4 h0_7_5 h0_7_6 h0_7_7 h0_7_8 h0_7_9 h0_7_10 h0_7_11 h0_7_12 h0_8 h0_7_f0 h0_7_f1 j51_h0_8_f2 h0_7_f3 h0_8_4 h0_8_5 h0_8_6 h0_8_7 h0_8_8 h0_8_9 h0_8_10 h0_8_11 h0_8_12 h0_7_4 h0_7_4k h0_7_4c h0_8_4 h0_8_4k j51_h0_8_4c h0_7_5 h0_7_5k h0_7_5c h0_8_5 h0_8_5k j51_h0_8_5c h0_7_6 h0_7_6k h0_7_6c h0_8_6 h0_8_6k j51_h0_8_6c h0_7_7 h0_7_7k h0_7_7c h0_8_7 h0_8_7k j51_h0_8_7c h0_7_8 h0_7_8k h0_7_8c h0_8_8 h0_8_8k j51_h0_8_8c h0_7_9 h0_7_9k h0_7_9c h0_8_9 h0_8_9k j51_h0_8_9c h0_7_10 h0_7_10k h0_7_10c h0_8_10 h0_8_10k j51_h0_8_10c h0_7_11 h0_7_11k h0_7_11c h0_8_11 h0_8_11k j51_h0_8_11c h0_7_12 h0_7_12k h0_7_12c h0_8_12 h0_8_12k j51_h0_8_12c z z_0 z_f1 z_0 z_0k z_0c h0_1_0 h0_1_0k h0_1_0c h0_6 h0_1 h0_3 h0_6_2 h0_6_3 h0_6_4 h0_6_5 h0_6_4 h0_6_4k j51_h0_6_4c h0_6_2 h0_6_2k j51_h0_6_2c h0_6_3 h0_6_3k j51_h0_6_3c h0_3 h0_3_0 h0_3_f1 h0_3_f2 h0_3_3 h0_3_3 h0_3_3k j51_h0_3_3c h0_3_0 h0_3_0k h0_3_0c h0_3_0_e0 h0_3_0_e0_0 h0_3_0_e0_f1 h0_3_0_e0_2 h0_3_0_e0_0 h0_3_0_e0_0k h0_3_0_e0_0c h0_3_0_e0_2 h0_3_0_e0_2k j51_h0_3_0_e0_2c h0_3_0_e1 h0_3_0_e1_0 h0_3_0_e1_f1 h0_3_0_e1_2 h0_3_0_e1_0 h0_3_0_e1_0k h0_3_0_e1_0c h0_3_0_e1_2 h0_3_0_e1_2k j51_h0_3_0_e1_2c h0_3_0_e2 h0_3_0_e2_0 h0_3_0_e2_f1 h0_3_0_e2_2 h0_3_0_e2_0 h0_3_0_e2_0k h0_3_0_e2_0c h0_3_0_e2_2 h0_3_0_e2_2k j51_h0_3_0_e2_2c h0_3_0_e3 h0_3_0_e3_0 h0_3_0_e3_f1 h0_3_0_e3_2 h0_3_0_e3_0 h0_3_0_e3_0k h0_3_0_e3_0c h0_3_0_e3_2 h0_3_0_e3_2k j51_h0_3_0_e3_2c)) hP hD [23, 24] [0, 1, 2, 3, 4, 5, 6, 7, 8, 9, 10, 11, 12, 13, 14, 15, 16, 17, 18, 19, 20, 21, 22, 45, 46, 25, 26, 27, 28, 29, 30, 31, 32, 33, 34, 35, 36, 37, 38, 39, 40, 41, 42, 43, 44] 45 rfl hqc (by decide +kernel) rfl hk1 hFc hP1 hD1
          generalize H1 = H at hP hS ⊢
          as_aux_lemma =>
          rcases hw with ⟨h_52, h_53⟩
          obtain rfl : y_11 = r_51 := (h_53.trans v_12.symm).symm
          refine lv_iconst (v := 1) hx hb dX11_run_81 kc_iconst_1 ?_
          refine lv_icmp_ne (tgt := 88) hx hb dX11_run_82 rfl (fun c_54 => ?_) (fun c_54 => ?_)
          · refine lv_aload_n hx hb dX11_run_88 rfl (lv_at hl 2 rfl) ?_
            refine lv_iload hx hb dX11_run_89 (lv_at hl 1 rfl) ?_
            refine lv_iconst (v := 0) hx hb dX11_run_91 kc_iconst_0 ?_
            obtain ⟨hPc, hDc, hFc, hqc⟩ := cl_cut (wc := (wd_c_X6_part z z_0 z_f1 z_0 z_0k z_0c)) hP hD hS hA [23, 24] (by decide +kernel) rfl
            have hKc := hK.sub (tys' := [(z_0k, .int)]) [19] rfl
            have hrv := va_recv hKc hPc (ci := 6) (q0 := 0) rfl rfl
            refine va_calli (va_runV (As := [.int j51_l4, .int 0]) (rest := []) ⟨hx, hb, hml, hown, hts⟩ (c_X6_part l dC dI H.size z j51_l4 0 z_0 z_f1 z_0k z_0c g_9 (RG_w (RG_k 0 0 rfl) (by decide +kernel)) (RG_w g_10 (by decide +kernel)) a_z_0c) (cwV 2 hts gf_c_X11_run_c_X6_part rfl rfl rfl mdV_X6_part ⟨Nat.le_of_ble_eq_true rfl, Nat.le_of_ble_eq_true rfl⟩) ⟨fun a U g mk q => by obtain ⟨q0, q1, qP, qK, qD⟩ := q; exact ⟨q0, q1, qP, va_K.moved (u := U) (U := U.calling g mk a) (Vm.Alike.refl U.vm) qK, qD⟩, hrv, fun U hU hW => ⟨rfl, by rw [hU], by rw [hU]; exact hPc, va_K.moved hW.alike hKc, hDc.weaken (fun _ _ _ _ => trivial)⟩⟩ rfl rfl hl.1 rfl (lv_room (Nat.le_of_ble_eq_true rfl)) dX11_run_92 ⟨Nat.le_of_ble_eq_true rfl, Nat.le_of_ble_eq_true rfl⟩) hS (fun q _ h => hFc q h) hFc (fun r_55 u t H1 locs ht hvm hw hB hz1 hk1 hS => ?_)
            obtain ⟨hP1, hK1, hD1⟩ := hB
            rw [ht] at hP1
            obtain ⟨hP, hD⟩ := cl_put (w1 := (wd_c_X6_part z z_0 z_f1 z_0 z_0k z_0c)) (nw := (wd_c_X11_run h0 h0_0 h0_1 h0_2 h0_3 h0_4 h0_f5 h0_6 h0_7 h0_8 h0_9 h0_10 h0_11 h0_12 h0_13 h0_14 h0_f15 h0_1 h0_1_0 h0_1_f1 h0_1_f2 h0_1_f3 h0_4 h0_4k h0_4c h0_7 h0_7_f0 h0_7_f1 h0_7_f2 h0_7_f3 h0_7_4 h0_7_5 h0_7_6 h0_7_7 h0_7_8 h0_7_9 h0_7_10 h0_7_11 h0_7_12 h0_8 h0_7_f0 h0_7_f1 j51_h0_8_f2 h0_7_f3 h0_8_4 h0_8_5 h0_8_6 h0_8_7 h0_8_8 h0_8_9 h0_8_10 h0_8_11 h0_8_12 h0_7_4 h0_7_4k h0_7_4c h0_8_4 h0_8_4k j51_h0_8_4c h0_7_5 h0_7_5k h0_7_5c h0_8_5 h0_8_5k j51_h0_8_5c h0_7_6 h0_7_6k h0_7_6c h0_8_6 h0_8_6k j51_h0_8_6c h0_7_7 h0_7_7k h0_7_7c h0_8_7 h0_8_7k j51_h0_8_7c h0_7_8 h0_7_8k h0_7_8c h0_8_8 h0_8_8k j51_h0_8_8c h0_7_9 h0_7_9k h0_7_9c h0_8_9 h0_8_9k j51_h0_8_9c h0_7_10 h0_7_10k h0_7_10c h0_8_10 h0_8_10k j51_h0_8_10c h0_7_11 h0_7_11k h0_7_11c h0_8_11 h0_8_11k j51_h0_8_11c h0_7_12 h0_7_12k h0_7_12c h0_8_12 h0_8_12k j51_h0_8_12c z z_0 z_f1 z_0 z_0k z_0c h0_1_0 h0_1_0k h0_1_0c h0_6 h0_1 h0_3 h0_6_2 h0_6_3 h0_6_4 h0_6_5 h0_6_4 h0_6_4k j51_h0_6_4c h0_6_2 h0_6_2k j51_h0_6_2c h0_6_3 h0_6_3k j51_h0_6_3c h0_3 h0_3_0 h0_3_f1 h0_3_f2 h0_3_3 h0_3_3 h0_3_3k j51_h0_3_3c h0_3_0 h0_3_0k h0_3_0c h0_3_0_e0 h0_3_0_e0_0 h0_3_0_e0_f1 h0_3_0_e0_2 h0_3_0_e0_0 h0_3_0_e0_0k h0_3_0_e0_0c h0_3_0_e0_2 h0_3_0_e0_2k j51_h0_3_0_e0_2c h0_3_0_e1 h0_3_0_e1_0 h0_3_0_e1_f1 h0_3_0_e1_2 h0_3_0_e1_0 h0_3_0_e1_0k h0_3_0_e1_0c h0_3_0_e1_2 h0_3_0_e1_2k j51_h0_3_0_e1_2c h0_3_0_e2 h0_3_0_e2_0 h0_3_0_e2_f1 h0_3_0_e2_2 h0_3_0_e2_0 h0_3_0_e2_0k h0_3_0_e2_0c h0_3_0_e2_2 h0_3_0_e2_2k j51_h0_3_0_e2_2c h0_3_0_e3 h0_3_0_e3_0 h0_3_0_e3_f1 h0_3_0_e3_2 h0_3_0_e3_0 h0_3_0_e3_0k h0_3_0_e3_0c h0_3_0_e3_2 h0_3_0_e3_2k j51_h0_3_0_e3_2c)) hP hD [23, 24] [0, 1, 2, 3, 4, 5, 6, 7, 8, 9, 10, 11, 12, 13, 14, 15, 16, 17, 18, 19, 20, 21, 22, 45, 46, 25, 26, 27, 28, 29, 30, 31, 32, 33, 34, 35, 36, 37, 38, 39, 40, 41, 42, 43, 44] 45 rfl hqc (by decide +kernel) rfl hk1 hFc hP1 hD1
            generalize H1 = H at hP hS ⊢
            as_aux_lemma =>
            rcases hw with ⟨h_56, h_57⟩
            obtain rfl : y_11 = r_55 := (h_57.trans v_12.symm).symm
            refine lv_iconst (v := 3) hx hb dX11_run_95 kc_iconst_3 ?_
            refine lv_icmp_ne (tgt := 113) hx hb dX11_run_96 rfl (fun c_58 => ?_) (fun c_58 => ?_)
            · refine lv_aload_n hx hb dX11_run_113 rfl (lv_at hl 3 rfl) ?_
              refine lv_aload_n hx hb dX11_run_114 rfl (lv_at hl 3 rfl) ?_
              refine va_get (D := (dC, dI)) (ci := 11) (v := .ref h0_8) (C := RX11) (T := TX11) (N := 16) hx hb hts iw_c_X11_run_X11 hown hK hP 0 rfl rfl 8 (by decide +kernel) (hts (.fieldLink RX11 56 "BuoyVote" "apart" "LBuoyVote$Sea;") (List.mem_of_getElem? (i := 18) rfl)) (fun _ h9 => h9) rfl dX11_run_115 ?_
              refine lv_aload_n hx hb dX11_run_118 rfl (lv_at hl 2 rfl) ?_
              refine lv_iload hx hb dX11_run_119 (lv_at hl 1 rfl) ?_
              obtain ⟨hPc, hDc, hFc, hqc⟩ := cl_cut (wc := (wd_c_X11_change z z_0 z_f1 z_0 z_0k z_0c h0_8 h0_7_f0 h0_7_f1 j51_h0_8_f2 h0_7_f3 h0_8_4 h0_8_5 h0_8_6 h0_8_7 h0_8_8 h0_8_9 h0_8_10 h0_8_11 h0_8_12 h0_8_6 h0_8_6k j51_h0_8_6c h0_8_7 h0_8_7k j51_h0_8_7c)) hP hD hS hA [23, 24, 4, 10, 12] (by decide +kernel) rfl
              have hKc := hK.sub (tys' := [(z_0k, .int), (h0_8_6k, .int), (h0_8_7k, .int)]) [19, 6, 8] rfl
              have hrv := va_recv hK hP (ci := 11) (q0 := 0) rfl rfl
              refine va_callv (va_runV (As := [.ref h0_8, .ref z, .int j51_l4]) (rest := []) ⟨hx, hb, hml, hown, hts⟩ (c_X11_change l dC dI H.size h0 h0_8 z j51_l4 z_0 z_f1 z_0k z_0c h0_7_f0 h0_7_f1 j51_h0_8_f2 h0_7_f3 h0_8_4 h0_8_5 h0_8_6 h0_8_7 h0_8_8 h0_8_9 h0_8_10 h0_8_11 h0_8_12 h0_8_6k j51_h0_8_6c h0_8_7k j51_h0_8_7c y_11 y_14 y_17 y_20 g_9 (RG_w g_10 (by decide +kernel)) a_z_0c v_12 h_27 v_15 h_28 v_18 h_29 v_21 h_30) (cwV 3 hts gf_c_X11_run_c_X11_change rfl rfl rfl mdV_X11_change ⟨Nat.le_of_ble_eq_true rfl, Nat.le_of_ble_eq_true rfl⟩) ⟨fun a U g mk q => by obtain ⟨q0, q1, qP, qK, qD⟩ := q; exact ⟨q0, q1, qP, va_K.moved (u := U) (U := U.calling g mk a) (Vm.Alike.refl U.vm) qK, qD⟩, hrv, fun U hU hW => ⟨rfl, by rw [hU], by rw [hU]; exact hPc, va_K.moved hW.alike hKc, hDc.weaken (fun _ _ _ _ => trivial)⟩⟩ rfl rfl hl.1 rfl (lv_room (Nat.le_of_ble_eq_true rfl)) dX11_run_121 ⟨Nat.le_of_ble_eq_true rfl, Nat.le_of_ble_eq_true rfl⟩) hS (fun q _ h => hFc q h) hFc (fun u t H1 locs ht hvm hw hB hz1 hk1 hS => ?_)
              obtain ⟨w_60, w_61⟩ := u
              obtain ⟨hP1, hK1, hD1⟩ := hB
              rw [ht] at hP1
              obtain ⟨hP, hD⟩ := cl_put (w1 := (wd_c_X11_change z z_0 z_f1 z_0 z_0k z_0c h0_8 h0_7_f0 h0_7_f1 j51_h0_8_f2 h0_7_f3 h0_8_4 h0_8_5 h0_8_6 h0_8_7 h0_8_8 h0_8_9 h0_8_10 h0_8_11 h0_8_12 h0_8_6 h0_8_6k w_60 h0_8_7 h0_8_7k w_61)) (nw := (wd_c_X11_run h0 h0_0 h0_1 h0_2 h0_3 h0_4 h0_f5 h0_6 h0_7 h0_8 h0_9 h0_10 h0_11 h0_12 h0_13 h0_14 h0_f15 h0_1 h0_1_0 h0_1_f1 h0_1_f2 h0_1_f3 h0_4 h0_4k h0_4c h0_7 h0_7_f0 h0_7_f1 h0_7_f2 h0_7_f3 h0_7_4 h0_7_5 h0_7_6 h0_7_7 h0_7_8 h0_7_9 h0_7_10 h0_7_11 h0_7_12 h0_8 h0_7_f0 h0_7_f1 j51_h0_8_f2 h0_7_f3 h0_8_4 h0_8_5 h0_8_6 h0_8_7 h0_8_8 h0_8_9 h0_8_10 h0_8_11 h0_8_12 h0_7_4 h0_7_4k h0_7_4c h0_8_4 h0_8_4k j51_h0_8_4c h0_7_5 h0_7_5k h0_7_5c h0_8_5 h0_8_5k j51_h0_8_5c h0_7_6 h0_7_6k h0_7_6c h0_8_6 h0_8_6k w_60 h0_7_7 h0_7_7k h0_7_7c h0_8_7 h0_8_7k w_61 h0_7_8 h0_7_8k h0_7_8c h0_8_8 h0_8_8k j51_h0_8_8c h0_7_9 h0_7_9k h0_7_9c h0_8_9 h0_8_9k j51_h0_8_9c h0_7_10 h0_7_10k h0_7_10c h0_8_10 h0_8_10k j51_h0_8_10c h0_7_11 h0_7_11k h0_7_11c h0_8_11 h0_8_11k j51_h0_8_11c h0_7_12 h0_7_12k h0_7_12c h0_8_12 h0_8_12k j51_h0_8_12c z z_0 z_f1 z_0 z_0k z_0c h0_1_0 h0_1_0k h0_1_0c h0_6 h0_1 h0_3 h0_6_2 h0_6_3 h0_6_4 h0_6_5 h0_6_4 h0_6_4k j51_h0_6_4c h0_6_2 h0_6_2k j51_h0_6_2c h0_6_3 h0_6_3k j51_h0_6_3c h0_3 h0_3_0 h0_3_f1 h0_3_f2 h0_3_3 h0_3_3 h0_3_3k j51_h0_3_3c h0_3_0 h0_3_0k h0_3_0c h0_3_0_e0 h0_3_0_e0_0 h0_3_0_e0_f1 h0_3_0_e0_2 h0_3_0_e0_0 h0_3_0_e0_0k h0_3_0_e0_0c h0_3_0_e0_2 h0_3_0_e0_2k j51_h0_3_0_e0_2c h0_3_0_e1 h0_3_0_e1_0 h0_3_0_e1_f1 h0_3_0_e1_2 h0_3_0_e1_0 h0_3_0_e1_0k h0_3_0_e1_0c h0_3_0_e1_2 h0_3_0_e1_2k j51_h0_3_0_e1_2c h0_3_0_e2 h0_3_0_e2_0 h0_3_0_e2_f1 h0_3_0_e2_2 h0_3_0_e2_0 h0_3_0_e2_0k h0_3_0_e2_0c h0_3_0_e2_2 h0_3_0_e2_2k j51_h0_3_0_e2_2c h0_3_0_e3 h0_3_0_e3_0 h0_3_0_e3_f1 h0_3_0_e3_2 h0_3_0_e3_0 h0_3_0_e3_0k h0_3_0_e3_0c h0_3_0_e3_2 h0_3_0_e3_2k j51_h0_3_0_e3_2c)) hP hD [23, 24, 4, 10, 12] [0, 1, 2, 3, 47, 5, 6, 7, 8, 9, 48, 11, 49, 13, 14, 15, 16, 17, 18, 19, 20, 21, 22, 45, 46, 25, 26, 27, 28, 29, 30, 31, 32, 33, 34, 35, 36, 37, 38, 39, 40, 41, 42, 43, 44] 45 rfl hqc (by decide +kernel) rfl hk1 hFc hP1 hD1
              generalize H1 = H at hP hS ⊢
              as_aux_lemma =>
              have h_62 := hw
              exact hU _ _ _ (J124 j51_l5 j51_h0_8_f2 j51_h0_8_4c j51_h0_8_5c w_60 w_61 j51_h0_8_8c j51_h0_8_9c j51_h0_8_10c j51_h0_8_11c j51_h0_8_12c j51_h0_6_4c j51_h0_6_2c j51_h0_6_3c j51_h0_3_3c j51_h0_3_0_e0_2c j51_h0_3_0_e1_2c j51_h0_3_0_e2_2c j51_h0_3_0_e3_2c g_h0_1_f1 (RG_w h_26 (by decide +kernel)) g_h0_1_f3 g_h0_3_0_e0_f1 g_h0_3_0_e1_f1 g_h0_3_0_e2_f1 g_h0_3_0_e3_f1 g_h0_3_f1 g_h0_7_f2 g_h0_7_f3 g_h0_f5 g_9 g_p1 g_p2 g_10 a_j51_h0_6_3c _ _ _ hP hD hS (lv_sub hl [0, 1, 2, 3, 4] rfl))
            · exact RG_dead (RG_eq1 h_27 (RG_k 3 3 rfl) c_58 (a' := 3) (b' := 0) (by decide +kernel)) (by decide +kernel)
          · exact RG_dead (RG_eq1 h_27 (RG_k 1 1 rfl) c_54 (a' := 1) (b' := 0) (by decide +kernel)) (by decide +kernel)
        · rw [h_31]
          refine lv_if_eq (tgt := 130) hx hb dX11_run_71 rfl (fun c_63 => absurd c_63 (by decide +kernel)) (fun c_63 => ?_)
          refine lv_aload_n hx hb dX11_run_74 rfl (lv_at hl 2 rfl) ?_
          refine lv_iload hx hb dX11_run_75 (lv_at hl 1 rfl) ?_
          refine lv_iconst (v := 0) hx hb dX11_run_77 kc_iconst_0 ?_
          obtain ⟨hPc, hDc, hFc, hqc⟩ := cl_cut (wc := (wd_c_X6_part z z_0 z_f1 z_0 z_0k z_0c)) hP hD hS hA [23, 24] (by decide +kernel) rfl
          have hKc := hK.sub (tys' := [(z_0k, .int)]) [19] rfl
          have hrv := va_recv hKc hPc (ci := 6) (q0 := 0) rfl rfl
          refine va_calli (va_runV (As := [.int j51_l4, .int 0]) (rest := []) ⟨hx, hb, hml, hown, hts⟩ (c_X6_part l dC dI H.size z j51_l4 0 z_0 z_f1 z_0k z_0c g_9 (RG_w (RG_k 0 0 rfl) (by decide +kernel)) (RG_w g_10 (by decide +kernel)) a_z_0c) (cwV 2 hts gf_c_X11_run_c_X6_part rfl rfl rfl mdV_X6_part ⟨Nat.le_of_ble_eq_true rfl, Nat.le_of_ble_eq_true rfl⟩) ⟨fun a U g mk q => by obtain ⟨q0, q1, qP, qK, qD⟩ := q; exact ⟨q0, q1, qP, va_K.moved (u := U) (U := U.calling g mk a) (Vm.Alike.refl U.vm) qK, qD⟩, hrv, fun U hU hW => ⟨rfl, by rw [hU], by rw [hU]; exact hPc, va_K.moved hW.alike hKc, hDc.weaken (fun _ _ _ _ => trivial)⟩⟩ rfl rfl hl.1 rfl (lv_room (Nat.le_of_ble_eq_true rfl)) dX11_run_78 ⟨Nat.le_of_ble_eq_true rfl, Nat.le_of_ble_eq_true rfl⟩) hS (fun q _ h => hFc q h) hFc (fun r_64 u t H1 locs ht hvm hw hB hz1 hk1 hS => ?_)
          obtain ⟨hP1, hK1, hD1⟩ := hB
          rw [ht] at hP1
          obtain ⟨hP, hD⟩ := cl_put (w1 := (wd_c_X6_part z z_0 z_f1 z_0 z_0k z_0c)) (nw := (wd_c_X11_run h0 h0_0 h0_1 h0_2 h0_3 h0_4 h0_f5 h0_6 h0_7 h0_8 h0_9 h0_10 h0_11 h0_12 h0_13 h0_14 h0_f15 h0_1 h0_1_0 h0_1_f1 h0_1_f2 h0_1_f3 h0_4 h0_4k h0_4c h0_7 h0_7_f0 h0_7_f1 h0_7_f2 h0_7_f3 h0_7_4 h0_7_5 h0_7_6 h0_7_7 h0_7_8 h0_7_9 h0_7_10 h0_7_11 h0_7_12 h0_8 h0_7_f0 h0_7_f1 j51_h0_8_f2 h0_7_f3 h0_8_4 h0_8_5 h0_8_6 h0_8_7 h0_8_8 h0_8_9 h0_8_10 h0_8_11 h0_8_12 h0_7_4 h0_7_4k h0_7_4c h0_8_4 h0_8_4k j51_h0_8_4c h0_7_5 h0_7_5k h0_7_5c h0_8_5 h0_8_5k j51_h0_8_5c h0_7_6 h0_7_6k h0_7_6c h0_8_6 h0_8_6k j51_h0_8_6c h0_7_7 h0_7_7k h0_7_7c h0_8_7 h0_8_7k j51_h0_8_7c h0_7_8 h0_7_8k h0_7_8c h0_8_8 h0_8_8k j51_h0_8_8c h0_7_9 h0_7_9k h0_7_9c h0_8_9 h0_8_9k j51_h0_8_9c h0_7_10 h0_7_10k h0_7_10c h0_8_10 h0_8_10k j51_h0_8_10c h0_7_11 h0_7_11k h0_7_11c h0_8_11 h0_8_11k j51_h0_8_11c h0_7_12 h0_7_12k h0_7_12c h0_8_12 h0_8_12k j51_h0_8_12c z z_0 z_f1 z_0 z_0k z_0c h0_1_0 h0_1_0k h0_1_0c h0_6 h0_1 h0_3 h0_6_2 h0_6_3 h0_6_4 h0_6_5 h0_6_4 h0_6_4k j51_h0_6_4c h0_6_2 h0_6_2k j51_h0_6_2c h0_6_3 h0_6_3k j51_h0_6_3c h0_3 h0_3_0 h0_3_f1 h0_3_f2 h0_3_3 h0_3_3 h0_3_3k j51_h0_3_3c h0_3_0 h0_3_0k h0_3_0c h0_3_0_e0 h0_3_0_e0_0 h0_3_0_e0_f1 h0_3_0_e0_2 h0_3_0_e0_0 h0_3_0_e0_0k h0_3_0_e0_0c h0_3_0_e0_2 h0_3_0_e0_2k j51_h0_3_0_e0_2c h0_3_0_e1 h0_3_0_e1_0 h0_3_0_e1_f1 h0_3_0_e1_2 h0_3_0_e1_0 h0_3_0_e1_0k h0_3_0_e1_0c h0_3_0_e1_2 h0_3_0_e1_2k j51_h0_3_0_e1_2c h0_3_0_e2 h0_3_0_e2_0 h0_3_0_e2_f1 h0_3_0_e2_2 h0_3_0_e2_0 h0_3_0_e2_0k h0_3_0_e2_0c h0_3_0_e2_2 h0_3_0_e2_2k j51_h0_3_0_e2_2c h0_3_0_e3 h0_3_0_e3_0 h0_3_0_e3_f1 h0_3_0_e3_2 h0_3_0_e3_0 h0_3_0_e3_0k h0_3_0_e3_0c h0_3_0_e3_2 h0_3_0_e3_2k j51_h0_3_0_e3_2c)) hP hD [23, 24] [0, 1, 2, 3, 4, 5, 6, 7, 8, 9, 10, 11, 12, 13, 14, 15, 16, 17, 18, 19, 20, 21, 22, 45, 46, 25, 26, 27, 28, 29, 30, 31, 32, 33, 34, 35, 36, 37, 38, 39, 40, 41, 42, 43, 44] 45 rfl hqc (by decide +kernel) rfl hk1 hFc hP1 hD1
          generalize H1 = H at hP hS ⊢
          as_aux_lemma =>
          rcases hw with ⟨h_65, h_66⟩
          obtain rfl : y_11 = r_64 := (h_66.trans v_12.symm).symm
          refine lv_iconst (v := 1) hx hb dX11_run_81 kc_iconst_1 ?_
          refine lv_icmp_ne (tgt := 88) hx hb dX11_run_82 rfl (fun c_67 => ?_) (fun c_67 => ?_)
          · exact RG_dead (RG_ne1 h_34 (q := 1) rfl c_67 (a' := 2) (b' := 1) (by decide +kernel)) (by decide +kernel)
          · obtain ⟨x_68, ex_68⟩ : ∃ y : Int32, y = j51_l5 + 1 := ⟨_, rfl⟩
            refine lv_iinc (v := x_68) (lv' := [(5, .int x_68), (4, .int j51_l4), (3, .ref z), (0, .ref h0), (2, .int p2)]) hx hb dX11_run_85 hl (k := 0) rfl (by rw [ex_68]; rfl) (Nat.le_of_ble_eq_true rfl) rfl (fun ls hl => ?_)
            refine lv_aload_n hx hb dX11_run_88 rfl (lv_at hl 2 rfl) ?_
            refine lv_iload hx hb dX11_run_89 (lv_at hl 1 rfl) ?_
            refine lv_iconst (v := 0) hx hb dX11_run_91 kc_iconst_0 ?_
            obtain ⟨hPc, hDc, hFc, hqc⟩ := cl_cut (wc := (wd_c_X6_part z z_0 z_f1 z_0 z_0k z_0c)) hP hD hS hA [23, 24] (by decide +kernel) rfl
            have hKc := hK.sub (tys' := [(z_0k, .int)]) [19] rfl
            have hrv := va_recv hKc hPc (ci := 6) (q0 := 0) rfl rfl
            refine va_calli (va_runV (As := [.int j51_l4, .int 0]) (rest := []) ⟨hx, hb, hml, hown, hts⟩ (c_X6_part l dC dI H.size z j51_l4 0 z_0 z_f1 z_0k z_0c g_9 (RG_w (RG_k 0 0 rfl) (by decide +kernel)) (RG_w g_10 (by decide +kernel)) a_z_0c) (cwV 2 hts gf_c_X11_run_c_X6_part rfl rfl rfl mdV_X6_part ⟨Nat.le_of_ble_eq_true rfl, Nat.le_of_ble_eq_true rfl⟩) ⟨fun a U g mk q => by obtain ⟨q0, q1, qP, qK, qD⟩ := q; exact ⟨q0, q1, qP, va_K.moved (u := U) (U := U.calling g mk a) (Vm.Alike.refl U.vm) qK, qD⟩, hrv, fun U hU hW => ⟨rfl, by rw [hU], by rw [hU]; exact hPc, va_K.moved hW.alike hKc, hDc.weaken (fun _ _ _ _ => trivial)⟩⟩ rfl rfl hl.1 rfl (lv_room (Nat.le_of_ble_eq_true rfl)) dX11_run_92 ⟨Nat.le_of_ble_eq_true rfl, Nat.le_of_ble_eq_true rfl⟩) hS (fun q _ h => hFc q h) hFc (fun r_69 u t H1 locs ht hvm hw hB hz1 hk1 hS => ?_)
            as_aux_lemma =>
            obtain ⟨hP1, hK1, hD1⟩ := hB
            rw [ht] at hP1
            obtain ⟨hP, hD⟩ := cl_put (w1 := (wd_c_X6_part z z_0 z_f1 z_0 z_0k z_0c)) (nw := (wd_c_X11_run h0 h0_0 h0_1 h0_2 h0_3 h0_4 h0_f5 h0_6 h0_7 h0_8 h0_9 h0_10 h0_11 h0_12 h0_13 h0_14 h0_f15 h0_1 h0_1_0 h0_1_f1 h0_1_f2 h0_1_f3 h0_4 h0_4k h0_4c h0_7 h0_7_f0 h0_7_f1 h0_7_f2 h0_7_f3 h0_7_4 h0_7_5 h0_7_6 h0_7_7 h0_7_8 h0_7_9 h0_7_10 h0_7_11 h0_7_12 h0_8 h0_7_f0 h0_7_f1 j51_h0_8_f2 h0_7_f3 h0_8_4 h0_8_5 h0_8_6 h0_8_7 h0_8_8 h0_8_9 h0_8_10 h0_8_11 h0_8_12 h0_7_4 h0_7_4k h0_7_4c h0_8_4 h0_8_4k j51_h0_8_4c h0_7_5 h0_7_5k h0_7_5c h0_8_5 h0_8_5k j51_h0_8_5c h0_7_6 h0_7_6k h0_7_6c h0_8_6 h0_8_6k j51_h0_8_6c h0_7_7 h0_7_7k h0_7_7c h0_8_7 h0_8_7k j51_h0_8_7c h0_7_8 h0_7_8k h0_7_8c h0_8_8 h0_8_8k j51_h0_8_8c h0_7_9 h0_7_9k h0_7_9c h0_8_9 h0_8_9k j51_h0_8_9c h0_7_10 h0_7_10k h0_7_10c h0_8_10 h0_8_10k j51_h0_8_10c h0_7_11 h0_7_11k h0_7_11c h0_8_11 h0_8_11k j51_h0_8_11c h0_7_12 h0_7_12k h0_7_12c h0_8_12 h0_8_12k j51_h0_8_12c z z_0 z_f1 z_0 z_0k z_0c h0_1_0 h0_1_0k h0_1_0c h0_6 h0_1 h0_3 h0_6_2 h0_6_3 h0_6_4 h0_6_5 h0_6_4 h0_6_4k j51_h0_6_4c h0_6_2 h0_6_2k j51_h0_6_2c h0_6_3 h0_6_3k j51_h0_6_3c h0_3 h0_3_0 h0_3_f1 h0_3_f2 h0_3_3 h0_3_3 h0_3_3k j51_h0_3_3c h0_3_0 h0_3_0k h0_3_0c h0_3_0_e0 h0_3_0_e0_0 h0_3_0_e0_f1 h0_3_0_e0_2 h0_3_0_e0_0 h0_3_0_e0_0k h0_3_0_e0_0c h0_3_0_e0_2 h0_3_0_e0_2k j51_h0_3_0_e0_2c h0_3_0_e1 h0_3_0_e1_0 h0_3_0_e1_f1 h0_3_0_e1_2 h0_3_0_e1_0 h0_3_0_e1_0k h0_3_0_e1_0c h0_3_0_e1_2 h0_3_0_e1_2k j51_h0_3_0_e1_2c h0_3_0_e2 h0_3_0_e2_0 h0_3_0_e2_f1 h0_3_0_e2_2 h0_3_0_e2_0 h0_3_0_e2_0k h0_3_0_e2_0c h0_3_0_e2_2 h0_3_0_e2_2k j51_h0_3_0_e2_2c h0_3_0_e3 h0_3_0_e3_0 h0_3_0_e3_f1 h0_3_0_e3_2 h0_3_0_e3_0 h0_3_0_e3_0k h0_3_0_e3_0c h0_3_0_e3_2 h0_3_0_e3_2k j51_h0_3_0_e3_2c)) hP hD [23, 24] [0, 1, 2, 3, 4, 5, 6, 7, 8, 9, 10, 11, 12, 13, 14, 15, 16, 17, 18, 19, 20, 21, 22, 45, 46, 25, 26, 27, 28, 29, 30, 31, 32, 33, 34, 35, 36, 37, 38, 39, 40, 41, 42, 43, 44] 45 rfl hqc (by decide +kernel) rfl hk1 hFc hP1 hD1
            generalize H1 = H at hP hS ⊢
            as_aux_lemma =>
            rcases hw with ⟨h_70, h_71⟩
            obtain rfl : y_11 = r_69 := (h_71.trans v_12.symm).symm
            refine lv_iconst (v := 3) hx hb dX11_run_95 kc_iconst_3 ?_
            refine lv_icmp_ne (tgt := 113) hx hb dX11_run_96 rfl (fun c_72 => ?_) (fun c_72 => ?_)
            · refine lv_aload_n hx hb dX11_run_113 rfl (lv_at hl 3 rfl) ?_
              refine lv_aload_n hx hb dX11_run_114 rfl (lv_at hl 3 rfl) ?_
              refine va_get (D := (dC, dI)) (ci := 11) (v := .ref h0_8) (C := RX11) (T := TX11) (N := 16) hx hb hts iw_c_X11_run_X11 hown hK hP 0 rfl rfl 8 (by decide +kernel) (hts (.fieldLink RX11 56 "BuoyVote" "apart" "LBuoyVote$Sea;") (List.mem_of_getElem? (i := 18) rfl)) (fun _ h9 => h9) rfl dX11_run_115 ?_
              refine lv_aload_n hx hb dX11_run_118 rfl (lv_at hl 2 rfl) ?_
              refine lv_iload hx hb dX11_run_119 (lv_at hl 1 rfl) ?_
              obtain ⟨hPc, hDc, hFc, hqc⟩ := cl_cut (wc := (wd_c_X11_change_1 z z_0 z_f1 z_0 z_0k z_0c h0_8 h0_7_f0 h0_7_f1 j51_h0_8_f2 h0_7_f3 h0_8_4 h0_8_5 h0_8_6 h0_8_7 h0_8_8 h0_8_9 h0_8_10 h0_8_11 h0_8_12 h0_8_10 h0_8_10k j51_h0_8_10c h0_8_9 h0_8_9k j51_h0_8_9c)) hP hD hS hA [23, 24, 4, 18, 16] (by decide +kernel) rfl
              have hKc := hK.sub (tys' := [(z_0k, .int), (h0_8_10k, .int), (h0_8_9k, .int)]) [19, 14, 12] rfl
              have hrv := va_recv hK hP (ci := 11) (q0 := 0) rfl rfl
              refine va_callv (va_runV (As := [.ref h0_8, .ref z, .int j51_l4]) (rest := []) ⟨hx, hb, hml, hown, hts⟩ (c_X11_change_1 l dC dI H.size h0 h0_8 z j51_l4 z_0 z_f1 z_0k z_0c h0_7_f0 h0_7_f1 j51_h0_8_f2 h0_7_f3 h0_8_4 h0_8_5 h0_8_6 h0_8_7 h0_8_8 h0_8_9 h0_8_10 h0_8_11 h0_8_12 h0_8_10k j51_h0_8_10c h0_8_9k j51_h0_8_9c y_11 y_14 y_17 y_20 g_9 (RG_w g_10 (by decide +kernel)) a_z_0c v_12 h_34 v_15 h_35 v_18 h_36 v_21 g_22) (cwV 3 hts gf_c_X11_run_c_X11_change_1 rfl rfl rfl mdV_X11_change ⟨Nat.le_of_ble_eq_true rfl, Nat.le_of_ble_eq_true rfl⟩) ⟨fun a U g mk q => by obtain ⟨q0, q1, qP, qK, qD⟩ := q; exact ⟨q0, q1, qP, va_K.moved (u := U) (U := U.calling g mk a) (Vm.Alike.refl U.vm) qK, qD⟩, hrv, fun U hU hW => ⟨rfl, by rw [hU], by rw [hU]; exact hPc, va_K.moved hW.alike hKc, hDc.weaken (fun _ _ _ _ => trivial)⟩⟩ rfl rfl hl.1 rfl (lv_room (Nat.le_of_ble_eq_true rfl)) dX11_run_121 ⟨Nat.le_of_ble_eq_true rfl, Nat.le_of_ble_eq_true rfl⟩) hS (fun q _ h => hFc q h) hFc (fun u t H1 locs ht hvm hw hB hz1 hk1 hS => ?_)
              obtain ⟨w_74, w_75⟩ := u
              obtain ⟨hP1, hK1, hD1⟩ := hB
              rw [ht] at hP1
              obtain ⟨hP, hD⟩ := cl_put (w1 := (wd_c_X11_change_1 z z_0 z_f1 z_0 z_0k z_0c h0_8 h0_7_f0 h0_7_f1 j51_h0_8_f2 h0_7_f3 h0_8_4 h0_8_5 h0_8_6 h0_8_7 h0_8_8 h0_8_9 h0_8_10 h0_8_11 h0_8_12 h0_8_10 h0_8_10k w_74 h0_8_9 h0_8_9k w_75)) (nw := (wd_c_X11_run h0 h0_0 h0_1 h0_2 h0_3 h0_4 h0_f5 h0_6 h0_7 h0_8 h0_9 h0_10 h0_11 h0_12 h0_13 h0_14 h0_f15 h0_1 h0_1_0 h0_1_f1 h0_1_f2 h0_1_f3 h0_4 h0_4k h0_4c h0_7 h0_7_f0 h0_7_f1 h0_7_f2 h0_7_f3 h0_7_4 h0_7_5 h0_7_6 h0_7_7 h0_7_8 h0_7_9 h0_7_10 h0_7_11 h0_7_12 h0_8 h0_7_f0 h0_7_f1 j51_h0_8_f2 h0_7_f3 h0_8_4 h0_8_5 h0_8_6 h0_8_7 h0_8_8 h0_8_9 h0_8_10 h0_8_11 h0_8_12 h0_7_4 h0_7_4k h0_7_4c h0_8_4 h0_8_4k j51_h0_8_4c h0_7_5 h0_7_5k h0_7_5c h0_8_5 h0_8_5k j51_h0_8_5c h0_7_6 h0_7_6k h0_7_6c h0_8_6 h0_8_6k j51_h0_8_6c h0_7_7 h0_7_7k h0_7_7c h0_8_7 h0_8_7k j51_h0_8_7c h0_7_8 h0_7_8k h0_7_8c h0_8_8 h0_8_8k j51_h0_8_8c h0_7_9 h0_7_9k h0_7_9c h0_8_9 h0_8_9k w_75 h0_7_10 h0_7_10k h0_7_10c h0_8_10 h0_8_10k w_74 h0_7_11 h0_7_11k h0_7_11c h0_8_11 h0_8_11k j51_h0_8_11c h0_7_12 h0_7_12k h0_7_12c h0_8_12 h0_8_12k j51_h0_8_12c z z_0 z_f1 z_0 z_0k z_0c h0_1_0 h0_1_0k h0_1_0c h0_6 h0_1 h0_3 h0_6_2 h0_6_3 h0_6_4 h0_6_5 h0_6_4 h0_6_4k j51_h0_6_4c h0_6_2 h0_6_2k j51_h0_6_2c h0_6_3 h0_6_3k j51_h0_6_3c h0_3 h0_3_0 h0_3_f1 h0_3_f2 h0_3_3 h0_3_3 h0_3_3k j51_h0_3_3c h0_3_0 h0_3_0k h0_3_0c h0_3_0_e0 h0_3_0_e0_0 h0_3_0_e0_f1 h0_3_0_e0_2 h0_3_0_e0_0 h0_3_0_e0_0k h0_3_0_e0_0c h0_3_0_e0_2 h0_3_0_e0_2k j51_h0_3_0_e0_2c h0_3_0_e1 h0_3_0_e1_0 h0_3_0_e1_f1 h0_3_0_e1_2 h0_3_0_e1_0 h0_3_0_e1_0k h0_3_0_e1_0c h0_3_0_e1_2 h0_3_0_e1_2k j51_h0_3_0_e1_2c h0_3_0_e2 h0_3_0_e2_0 h0_3_0_e2_f1 h0_3_0_e2_2 h0_3_0_e2_0 h0_3_0_e2_0k h0_3_0_e2_0c h0_3_0_e2_2 h0_3_0_e2_2k j51_h0_3_0_e2_2c h0_3_0_e3 h0_3_0_e3_0 h0_3_0_e3_f1 h0_3_0_e3_2 h0_3_0_e3_0 h0_3_0_e3_0k h0_3_0_e3_0c h0_3_0_e3_2 h0_3_0_e3_2k j51_h0_3_0_e3_2c)) hP hD [23, 24, 4, 18, 16] [0, 1, 2, 3, 47, 5, 6, 7, 8, 9, 10, 11, 12, 13, 14, 15, 49, 17, 48, 19, 20, 21, 22, 45, 46, 25, 26, 27, 28, 29, 30, 31, 32, 33, 34, 35, 36, 37, 38, 39, 40, 41, 42, 43, 44] 45 rfl hqc (by decide +kernel) rfl hk1 hFc hP1 hD1
              generalize H1 = H at hP hS ⊢
              as_aux_lemma =>
              have h_76 := hw
              exact hU _ _ _ (J124 x_68 j51_h0_8_f2 j51_h0_8_4c j51_h0_8_5c j51_h0_8_6c j51_h0_8_7c j51_h0_8_8c w_75 w_74 j51_h0_8_11c j51_h0_8_12c j51_h0_6_4c j51_h0_6_2c j51_h0_6_3c j51_h0_3_3c j51_h0_3_0_e0_2c j51_h0_3_0_e1_2c j51_h0_3_0_e2_2c j51_h0_3_0_e3_2c g_h0_1_f1 (RG_w h_33 (by decide +kernel)) g_h0_1_f3 g_h0_3_0_e0_f1 g_h0_3_0_e1_f1 g_h0_3_0_e2_f1 g_h0_3_0_e3_f1 g_h0_3_f1 g_h0_7_f2 g_h0_7_f3 g_h0_f5 g_9 g_p1 g_p2 g_10 a_j51_h0_6_3c _ _ _ hP hD hS (lv_sub hl [0, 1, 2, 3, 4] rfl))
            · exact RG_dead (RG_eq1 h_34 (RG_k 3 3 rfl) c_72 (a' := 3) (b' := 1) (by decide +kernel)) (by decide +kernel)
        · rw [h_37]
          refine lv_if_eq (tgt := 130) hx hb dX11_run_71 rfl (fun c_77 => absurd c_77 (by decide +kernel)) (fun c_77 => ?_)
          refine lv_aload_n hx hb dX11_run_74 rfl (lv_at hl 2 rfl) ?_
          refine lv_iload hx hb dX11_run_75 (lv_at hl 1 rfl) ?_
          refine lv_iconst (v := 0) hx hb dX11_run_77 kc_iconst_0 ?_
          obtain ⟨hPc, hDc, hFc, hqc⟩ := cl_cut (wc := (wd_c_X6_part z z_0 z_f1 z_0 z_0k z_0c)) hP hD hS hA [23, 24] (by decide +kernel) rfl
          have hKc := hK.sub (tys' := [(z_0k, .int)]) [19] rfl
          have hrv := va_recv hKc hPc (ci := 6) (q0 := 0) rfl rfl
          refine va_calli (va_runV (As := [.int j51_l4, .int 0]) (rest := []) ⟨hx, hb, hml, hown, hts⟩ (c_X6_part l dC dI H.size z j51_l4 0 z_0 z_f1 z_0k z_0c g_9 (RG_w (RG_k 0 0 rfl) (by decide +kernel)) (RG_w g_10 (by decide +kernel)) a_z_0c) (cwV 2 hts gf_c_X11_run_c_X6_part rfl rfl rfl mdV_X6_part ⟨Nat.le_of_ble_eq_true rfl, Nat.le_of_ble_eq_true rfl⟩) ⟨fun a U g mk q => by obtain ⟨q0, q1, qP, qK, qD⟩ := q; exact ⟨q0, q1, qP, va_K.moved (u := U) (U := U.calling g mk a) (Vm.Alike.refl U.vm) qK, qD⟩, hrv, fun U hU hW => ⟨rfl, by rw [hU], by rw [hU]; exact hPc, va_K.moved hW.alike hKc, hDc.weaken (fun _ _ _ _ => trivial)⟩⟩ rfl rfl hl.1 rfl (lv_room (Nat.le_of_ble_eq_true rfl)) dX11_run_78 ⟨Nat.le_of_ble_eq_true rfl, Nat.le_of_ble_eq_true rfl⟩) hS (fun q _ h => hFc q h) hFc (fun r_78 u t H1 locs ht hvm hw hB hz1 hk1 hS => ?_)
          obtain ⟨hP1, hK1, hD1⟩ := hB
          rw [ht] at hP1
          obtain ⟨hP, hD⟩ := cl_put (w1 := (wd_c_X6_part z z_0 z_f1 z_0 z_0k z_0c)) (nw := (wd_c_X11_run h0 h0_0 h0_1 h0_2 h0_3 h0_4 h0_f5 h0_6 h0_7 h0_8 h0_9 h0_10 h0_11 h0_12 h0_13 h0_14 h0_f15 h0_1 h0_1_0 h0_1_f1 h0_1_f2 h0_1_f3 h0_4 h0_4k h0_4c h0_7 h0_7_f0 h0_7_f1 h0_7_f2 h0_7_f3 h0_7_4 h0_7_5 h0_7_6 h0_7_7 h0_7_8 h0_7_9 h0_7_10 h0_7_11 h0_7_12 h0_8 h0_7_f0 h0_7_f1 j51_h0_8_f2 h0_7_f3 h0_8_4 h0_8_5 h0_8_6 h0_8_7 h0_8_8 h0_8_9 h0_8_10 h0_8_11 h0_8_12 h0_7_4 h0_7_4k h0_7_4c h0_8_4 h0_8_4k j51_h0_8_4c h0_7_5 h0_7_5k h0_7_5c h0_8_5 h0_8_5k j51_h0_8_5c h0_7_6 h0_7_6k h0_7_6c h0_8_6 h0_8_6k j51_h0_8_6c h0_7_7 h0_7_7k h0_7_7c h0_8_7 h0_8_7k j51_h0_8_7c h0_7_8 h0_7_8k h0_7_8c h0_8_8 h0_8_8k j51_h0_8_8c h0_7_9 h0_7_9k h0_7_9c h0_8_9 h0_8_9k j51_h0_8_9c h0_7_10 h0_7_10k h0_7_10c h0_8_10 h0_8_10k j51_h0_8_10c h0_7_11 h0_7_11k h0_7_11c h0_8_11 h0_8_11k j51_h0_8_11c h0_7_12 h0_7_12k h0_7_12c h0_8_12 h0_8_12k j51_h0_8_12c z z_0 z_f1 z_0 z_0k z_0c h0_1_0 h0_1_0k h0_1_0c h0_6 h0_1 h0_3 h0_6_2 h0_6_3 h0_6_4 h0_6_5 h0_6_4 h0_6_4k j51_h0_6_4c h0_6_2 h0_6_2k j51_h0_6_2c h0_6_3 h0_6_3k j51_h0_6_3c h0_3 h0_3_0 h0_3_f1 h0_3_f2 h0_3_3 h0_3_3 h0_3_3k j51_h0_3_3c h0_3_0 h0_3_0k h0_3_0c h0_3_0_e0 h0_3_0_e0_0 h0_3_0_e0_f1 h0_3_0_e0_2 h0_3_0_e0_0 h0_3_0_e0_0k h0_3_0_e0_0c h0_3_0_e0_2 h0_3_0_e0_2k j51_h0_3_0_e0_2c h0_3_0_e1 h0_3_0_e1_0 h0_3_0_e1_f1 h0_3_0_e1_2 h0_3_0_e1_0 h0_3_0_e1_0k h0_3_0_e1_0c h0_3_0_e1_2 h0_3_0_e1_2k j51_h0_3_0_e1_2c h0_3_0_e2 h0_3_0_e2_0 h0_3_0_e2_f1 h0_3_0_e2_2 h0_3_0_e2_0 h0_3_0_e2_0k h0_3_0_e2_0c h0_3_0_e2_2 h0_3_0_e2_2k j51_h0_3_0_e2_2c h0_3_0_e3 h0_3_0_e3_0 h0_3_0_e3_f1 h0_3_0_e3_2 h0_3_0_e3_0 h0_3_0_e3_0k h0_3_0_e3_0c h0_3_0_e3_2 h0_3_0_e3_2k j51_h0_3_0_e3_2c)) hP hD [23, 24] [0, 1, 2, 3, 4, 5, 6, 7, 8, 9, 10, 11, 12, 13, 14, 15, 16, 17, 18, 19, 20, 21, 22, 45, 46, 25, 26, 27, 28, 29, 30, 31, 32, 33, 34, 35, 36, 37, 38, 39, 40, 41, 42, 43, 44] 45 rfl hqc (by decide +kernel) rfl hk1 hFc hP1 hD1
          generalize H1 = H at hP hS ⊢
          as_aux_lemma =>
          rcases hw with ⟨h_79, h_80⟩
          obtain rfl : y_11 = r_78 := (h_80.trans v_12.symm).symm
          refine lv_iconst (v := 1) hx hb dX11_run_81 kc_iconst_1 ?_
          refine lv_icmp_ne (tgt := 88) hx hb dX11_run_82 rfl (fun c_81 => ?_) (fun c_81 => ?_)
          · refine lv_aload_n hx hb dX11_run_88 rfl (lv_at hl 2 rfl) ?_
            refine lv_iload hx hb dX11_run_89 (lv_at hl 1 rfl) ?_
            refine lv_iconst (v := 0) hx hb dX11_run_91 kc_iconst_0 ?_
            obtain ⟨hPc, hDc, hFc, hqc⟩ := cl_cut (wc := (wd_c_X6_part z z_0 z_f1 z_0 z_0k z_0c)) hP hD hS hA [23, 24] (by decide +kernel) rfl
            have hKc := hK.sub (tys' := [(z_0k, .int)]) [19] rfl
            have hrv := va_recv hKc hPc (ci := 6) (q0 := 0) rfl rfl
            refine va_calli (va_runV (As := [.int j51_l4, .int 0]) (rest := []) ⟨hx, hb, hml, hown, hts⟩ (c_X6_part l dC dI H.size z j51_l4 0 z_0 z_f1 z_0k z_0c g_9 (RG_w (RG_k 0 0 rfl) (by decide +kernel)) (RG_w g_10 (by decide +kernel)) a_z_0c) (cwV 2 hts gf_c_X11_run_c_X6_part rfl rfl rfl mdV_X6_part ⟨Nat.le_of_ble_eq_true rfl, Nat.le_of_ble_eq_true rfl⟩) ⟨fun a U g mk q => by obtain ⟨q0, q1, qP, qK, qD⟩ := q; exact ⟨q0, q1, qP, va_K.moved (u := U) (U := U.calling g mk a) (Vm.Alike.refl U.vm) qK, qD⟩, hrv, fun U hU hW => ⟨rfl, by rw [hU], by rw [hU]; exact hPc, va_K.moved hW.alike hKc, hDc.weaken (fun _ _ _ _ => trivial)⟩⟩ rfl rfl hl.1 rfl (lv_room (Nat.le_of_ble_eq_true rfl)) dX11_run_92 ⟨Nat.le_of_ble_eq_true rfl, Nat.le_of_ble_eq_true rfl⟩) hS (fun q _ h => hFc q h) hFc (fun r_82 u t H1 locs ht hvm hw hB hz1 hk1 hS => ?_)
            obtain ⟨hP1, hK1, hD1⟩ := hB
            rw [ht] at hP1
            obtain ⟨hP, hD⟩ := cl_put (w1 := (wd_c_X6_part z z_0 z_f1 z_0 z_0k z_0c)) (nw := (wd_c_X11_run h0 h0_0 h0_1 h0_2 h0_3 h0_4 h0_f5 h0_6 h0_7 h0_8 h0_9 h0_10 h0_11 h0_12 h0_13 h0_14 h0_f15 h0_1 h0_1_0 h0_1_f1 h0_1_f2 h0_1_f3 h0_4 h0_4k h0_4c h0_7 h0_7_f0 h0_7_f1 h0_7_f2 h0_7_f3 h0_7_4 h0_7_5 h0_7_6 h0_7_7 h0_7_8 h0_7_9 h0_7_10 h0_7_11 h0_7_12 h0_8 h0_7_f0 h0_7_f1 j51_h0_8_f2 h0_7_f3 h0_8_4 h0_8_5 h0_8_6 h0_8_7 h0_8_8 h0_8_9 h0_8_10 h0_8_11 h0_8_12 h0_7_4 h0_7_4k h0_7_4c h0_8_4 h0_8_4k j51_h0_8_4c h0_7_5 h0_7_5k h0_7_5c h0_8_5 h0_8_5k j51_h0_8_5c h0_7_6 h0_7_6k h0_7_6c h0_8_6 h0_8_6k j51_h0_8_6c h0_7_7 h0_7_7k h0_7_7c h0_8_7 h0_8_7k j51_h0_8_7c h0_7_8 h0_7_8k h0_7_8c h0_8_8 h0_8_8k j51_h0_8_8c h0_7_9 h0_7_9k h0_7_9c h0_8_9 h0_8_9k j51_h0_8_9c h0_7_10 h0_7_10k h0_7_10c h0_8_10 h0_8_10k j51_h0_8_10c h0_7_11 h0_7_11k h0_7_11c h0_8_11 h0_8_11k j51_h0_8_11c h0_7_12 h0_7_12k h0_7_12c h0_8_12 h0_8_12k j51_h0_8_12c z z_0 z_f1 z_0 z_0k z_0c h0_1_0 h0_1_0k h0_1_0c h0_6 h0_1 h0_3 h0_6_2 h0_6_3 h0_6_4 h0_6_5 h0_6_4 h0_6_4k j51_h0_6_4c h0_6_2 h0_6_2k j51_h0_6_2c h0_6_3 h0_6_3k j51_h0_6_3c h0_3 h0_3_0 h0_3_f1 h0_3_f2 h0_3_3 h0_3_3 h0_3_3k j51_h0_3_3c h0_3_0 h0_3_0k h0_3_0c h0_3_0_e0 h0_3_0_e0_0 h0_3_0_e0_f1 h0_3_0_e0_2 h0_3_0_e0_0 h0_3_0_e0_0k h0_3_0_e0_0c h0_3_0_e0_2 h0_3_0_e0_2k j51_h0_3_0_e0_2c h0_3_0_e1 h0_3_0_e1_0 h0_3_0_e1_f1 h0_3_0_e1_2 h0_3_0_e1_0 h0_3_0_e1_0k h0_3_0_e1_0c h0_3_0_e1_2 h0_3_0_e1_2k j51_h0_3_0_e1_2c h0_3_0_e2 h0_3_0_e2_0 h0_3_0_e2_f1 h0_3_0_e2_2 h0_3_0_e2_0 h0_3_0_e2_0k h0_3_0_e2_0c h0_3_0_e2_2 h0_3_0_e2_2k j51_h0_3_0_e2_2c h0_3_0_e3 h0_3_0_e3_0 h0_3_0_e3_f1 h0_3_0_e3_2 h0_3_0_e3_0 h0_3_0_e3_0k h0_3_0_e3_0c h0_3_0_e3_2 h0_3_0_e3_2k j51_h0_3_0_e3_2c)) hP hD [23, 24] [0, 1, 2, 3, 4, 5, 6, 7, 8, 9, 10, 11, 12, 13, 14, 15, 16, 17, 18, 19, 20, 21, 22, 45, 46, 25, 26, 27, 28, 29, 30, 31, 32, 33, 34, 35, 36, 37, 38, 39, 40, 41, 42, 43, 44] 45 rfl hqc (by decide +kernel) rfl hk1 hFc hP1 hD1
            generalize H1 = H at hP hS ⊢
            as_aux_lemma =>
            rcases hw with ⟨h_83, h_84⟩
            obtain rfl : y_11 = r_82 := (h_84.trans v_12.symm).symm
            refine lv_iconst (v := 3) hx hb dX11_run_95 kc_iconst_3 ?_
            refine lv_icmp_ne (tgt := 113) hx hb dX11_run_96 rfl (fun c_85 => ?_) (fun c_85 => ?_)
            · refine lv_aload_n hx hb dX11_run_113 rfl (lv_at hl 3 rfl) ?_
              refine lv_aload_n hx hb dX11_run_114 rfl (lv_at hl 3 rfl) ?_
              refine va_get (D := (dC, dI)) (ci := 11) (v := .ref h0_8) (C := RX11) (T := TX11) (N := 16) hx hb hts iw_c_X11_run_X11 hown hK hP 0 rfl rfl 8 (by decide +kernel) (hts (.fieldLink RX11 56 "BuoyVote" "apart" "LBuoyVote$Sea;") (List.mem_of_getElem? (i := 18) rfl)) (fun _ h9 => h9) rfl dX11_run_115 ?_
              refine lv_aload_n hx hb dX11_run_118 rfl (lv_at hl 2 rfl) ?_
              refine lv_iload hx hb dX11_run_119 (lv_at hl 1 rfl) ?_
              obtain ⟨hPc, hDc, hFc, hqc⟩ := cl_cut (wc := (wd_c_X11_change_2 z z_0 z_f1 z_0 z_0k z_0c h0_8 h0_7_f0 h0_7_f1 j51_h0_8_f2 h0_7_f3 h0_8_4 h0_8_5 h0_8_6 h0_8_7 h0_8_8 h0_8_9 h0_8_10 h0_8_11 h0_8_12 h0_8_12 h0_8_12k j51_h0_8_12c)) hP hD hS hA [23, 24, 4, 22] (by decide +kernel) rfl
              have hKc := hK.sub (tys' := [(z_0k, .int), (h0_8_12k, .int)]) [19, 18] rfl
              have hrv := va_recv hK hP (ci := 11) (q0 := 0) rfl rfl
              refine va_callv (va_runV (As := [.ref h0_8, .ref z, .int j51_l4]) (rest := []) ⟨hx, hb, hml, hown, hts⟩ (c_X11_change_2 l dC dI H.size h0 h0_8 z j51_l4 z_0 z_f1 z_0k z_0c h0_7_f0 h0_7_f1 j51_h0_8_f2 h0_7_f3 h0_8_4 h0_8_5 h0_8_6 h0_8_7 h0_8_8 h0_8_9 h0_8_10 h0_8_11 h0_8_12 h0_8_12k j51_h0_8_12c y_11 y_14 y_17 y_20 g_9 (RG_w g_10 (by decide +kernel)) a_z_0c v_12 h_40 v_15 h_41 v_18 h_42 v_21 g_22) (cwV 3 hts gf_c_X11_run_c_X11_change_2 rfl rfl rfl mdV_X11_change ⟨Nat.le_of_ble_eq_true rfl, Nat.le_of_ble_eq_true rfl⟩) ⟨fun a U g mk q => by obtain ⟨q0, q1, qP, qK, qD⟩ := q; exact ⟨q0, q1, qP, va_K.moved (u := U) (U := U.calling g mk a) (Vm.Alike.refl U.vm) qK, qD⟩, hrv, fun U hU hW => ⟨rfl, by rw [hU], by rw [hU]; exact hPc, va_K.moved hW.alike hKc, hDc.weaken (fun _ _ _ _ => trivial)⟩⟩ rfl rfl hl.1 rfl (lv_room (Nat.le_of_ble_eq_true rfl)) dX11_run_121 ⟨Nat.le_of_ble_eq_true rfl, Nat.le_of_ble_eq_true rfl⟩) hS (fun q _ h => hFc q h) hFc (fun w_87 t H1 locs ht hvm hw hB hz1 hk1 hS => ?_)
              obtain ⟨hP1, hK1, hD1⟩ := hB
              rw [ht] at hP1
              obtain ⟨hP, hD⟩ := cl_put (w1 := (wd_c_X11_change_2 z z_0 z_f1 z_0 z_0k z_0c h0_8 h0_7_f0 h0_7_f1 j51_h0_8_f2 h0_7_f3 h0_8_4 h0_8_5 h0_8_6 h0_8_7 h0_8_8 h0_8_9 h0_8_10 h0_8_11 h0_8_12 h0_8_12 h0_8_12k w_87)) (nw := (wd_c_X11_run h0 h0_0 h0_1 h0_2 h0_3 h0_4 h0_f5 h0_6 h0_7 h0_8 h0_9 h0_10 h0_11 h0_12 h0_13 h0_14 h0_f15 h0_1 h0_1_0 h0_1_f1 h0_1_f2 h0_1_f3 h0_4 h0_4k h0_4c h0_7 h0_7_f0 h0_7_f1 h0_7_f2 h0_7_f3 h0_7_4 h0_7_5 h0_7_6 h0_7_7 h0_7_8 h0_7_9 h0_7_10 h0_7_11 h0_7_12 h0_8 h0_7_f0 h0_7_f1 j51_h0_8_f2 h0_7_f3 h0_8_4 h0_8_5 h0_8_6 h0_8_7 h0_8_8 h0_8_9 h0_8_10 h0_8_11 h0_8_12 h0_7_4 h0_7_4k h0_7_4c h0_8_4 h0_8_4k j51_h0_8_4c h0_7_5 h0_7_5k h0_7_5c h0_8_5 h0_8_5k j51_h0_8_5c h0_7_6 h0_7_6k h0_7_6c h0_8_6 h0_8_6k j51_h0_8_6c h0_7_7 h0_7_7k h0_7_7c h0_8_7 h0_8_7k j51_h0_8_7c h0_7_8 h0_7_8k h0_7_8c h0_8_8 h0_8_8k j51_h0_8_8c h0_7_9 h0_7_9k h0_7_9c h0_8_9 h0_8_9k j51_h0_8_9c h0_7_10 h0_7_10k h0_7_10c h0_8_10 h0_8_10k j51_h0_8_10c h0_7_11 h0_7_11k h0_7_11c h0_8_11 h0_8_11k j51_h0_8_11c h0_7_12 h0_7_12k h0_7_12c h0_8_12 h0_8_12k w_87 z z_0 z_f1 z_0 z_0k z_0c h0_1_0 h0_1_0k h0_1_0c h0_6 h0_1 h0_3 h0_6_2 h0_6_3 h0_6_4 h0_6_5 h0_6_4 h0_6_4k j51_h0_6_4c h0_6_2 h0_6_2k j51_h0_6_2c h0_6_3 h0_6_3k j51_h0_6_3c h0_3 h0_3_0 h0_3_f1 h0_3_f2 h0_3_3 h0_3_3 h0_3_3k j51_h0_3_3c h0_3_0 h0_3_0k h0_3_0c h0_3_0_e0 h0_3_0_e0_0 h0_3_0_e0_f1 h0_3_0_e0_2 h0_3_0_e0_0 h0_3_0_e0_0k h0_3_0_e0_0c h0_3_0_e0_2 h0_3_0_e0_2k j51_h0_3_0_e0_2c h0_3_0_e1 h0_3_0_e1_0 h0_3_0_e1_f1 h0_3_0_e1_2 h0_3_0_e1_0 h0_3_0_e1_0k h0_3_0_e1_0c h0_3_0_e1_2 h0_3_0_e1_2k j51_h0_3_0_e1_2c h0_3_0_e2 h0_3_0_e2_0 h0_3_0_e2_f1 h0_3_0_e2_2 h0_3_0_e2_0 h0_3_0_e2_0k h0_3_0_e2_0c h0_3_0_e2_2 h0_3_0_e2_2k j51_h0_3_0_e2_2c h0_3_0_e3 h0_3_0_e3_0 h0_3_0_e3_f1 h0_3_0_e3_2 h0_3_0_e3_0 h0_3_0_e3_0k h0_3_0_e3_0c h0_3_0_e3_2 h0_3_0_e3_2k j51_h0_3_0_e3_2c)) hP hD [23, 24, 4, 22] [0, 1, 2, 3, 47, 5, 6, 7, 8, 9, 10, 11, 12, 13, 14, 15, 16, 17, 18, 19, 20, 21, 48, 45, 46, 25, 26, 27, 28, 29, 30, 31, 32, 33, 34, 35, 36, 37, 38, 39, 40, 41, 42, 43, 44] 45 rfl hqc (by decide +kernel) rfl hk1 hFc hP1 hD1
              generalize H1 = H at hP hS ⊢
              as_aux_lemma =>
              have h_88 := hw
              exact hU _ _ _ (J124 j51_l5 j51_h0_8_f2 j51_h0_8_4c j51_h0_8_5c j51_h0_8_6c j51_h0_8_7c j51_h0_8_8c j51_h0_8_9c j51_h0_8_10c j51_h0_8_11c w_87 j51_h0_6_4c j51_h0_6_2c j51_h0_6_3c j51_h0_3_3c j51_h0_3_0_e0_2c j51_h0_3_0_e1_2c j51_h0_3_0_e2_2c j51_h0_3_0_e3_2c g_h0_1_f1 (RG_w h_39 (by decide +kernel)) g_h0_1_f3 g_h0_3_0_e0_f1 g_h0_3_0_e1_f1 g_h0_3_0_e2_f1 g_h0_3_0_e3_f1 g_h0_3_f1 g_h0_7_f2 g_h0_7_f3 g_h0_f5 g_9 g_p1 g_p2 g_10 a_j51_h0_6_3c _ _ _ hP hD hS (lv_sub hl [0, 1, 2, 3, 4] rfl))
            · exact RG_dead (RG_eq1 h_40 (RG_k 3 3 rfl) c_85 (a' := 3) (b' := 2) (by decide +kernel)) (by decide +kernel)
          · exact RG_dead (RG_eq1 h_40 (RG_k 1 1 rfl) c_81 (a' := 2) (b' := 1) (by decide +kernel)) (by decide +kernel)
        · rw [h_43]
          refine lv_if_eq (tgt := 130) hx hb dX11_run_71 rfl (fun c_89 => absurd c_89 (by decide +kernel)) (fun c_89 => ?_)
          refine lv_aload_n hx hb dX11_run_74 rfl (lv_at hl 2 rfl) ?_
          refine lv_iload hx hb dX11_run_75 (lv_at hl 1 rfl) ?_
          refine lv_iconst (v := 0) hx hb dX11_run_77 kc_iconst_0 ?_
          obtain ⟨hPc, hDc, hFc, hqc⟩ := cl_cut (wc := (wd_c_X6_part z z_0 z_f1 z_0 z_0k z_0c)) hP hD hS hA [23, 24] (by decide +kernel) rfl
          have hKc := hK.sub (tys' := [(z_0k, .int)]) [19] rfl
          have hrv := va_recv hKc hPc (ci := 6) (q0 := 0) rfl rfl
          refine va_calli (va_runV (As := [.int j51_l4, .int 0]) (rest := []) ⟨hx, hb, hml, hown, hts⟩ (c_X6_part l dC dI H.size z j51_l4 0 z_0 z_f1 z_0k z_0c g_9 (RG_w (RG_k 0 0 rfl) (by decide +kernel)) (RG_w g_10 (by decide +kernel)) a_z_0c) (cwV 2 hts gf_c_X11_run_c_X6_part rfl rfl rfl mdV_X6_part ⟨Nat.le_of_ble_eq_true rfl, Nat.le_of_ble_eq_true rfl⟩) ⟨fun a U g mk q => by obtain ⟨q0, q1, qP, qK, qD⟩ := q; exact ⟨q0, q1, qP, va_K.moved (u := U) (U := U.calling g mk a) (Vm.Alike.refl U.vm) qK, qD⟩, hrv, fun U hU hW => ⟨rfl, by rw [hU], by rw [hU]; exact hPc, va_K.moved hW.alike hKc, hDc.weaken (fun _ _ _ _ => trivial)⟩⟩ rfl rfl hl.1 rfl (lv_room (Nat.le_of_ble_eq_true rfl)) dX11_run_78 ⟨Nat.le_of_ble_eq_true rfl, Nat.le_of_ble_eq_true rfl⟩) hS (fun q _ h => hFc q h) hFc (fun r_90 u t H1 locs ht hvm hw hB hz1 hk1 hS => ?_)
          obtain ⟨hP1, hK1, hD1⟩ := hB
          rw [ht] at hP1
          obtain ⟨hP, hD⟩ := cl_put (w1 := (wd_c_X6_part z z_0 z_f1 z_0 z_0k z_0c)) (nw := (wd_c_X11_run h0 h0_0 h0_1 h0_2 h0_3 h0_4 h0_f5 h0_6 h0_7 h0_8 h0_9 h0_10 h0_11 h0_12 h0_13 h0_14 h0_f15 h0_1 h0_1_0 h0_1_f1 h0_1_f2 h0_1_f3 h0_4 h0_4k h0_4c h0_7 h0_7_f0 h0_7_f1 h0_7_f2 h0_7_f3 h0_7_4 h0_7_5 h0_7_6 h0_7_7 h0_7_8 h0_7_9 h0_7_10 h0_7_11 h0_7_12 h0_8 h0_7_f0 h0_7_f1 j51_h0_8_f2 h0_7_f3 h0_8_4 h0_8_5 h0_8_6 h0_8_7 h0_8_8 h0_8_9 h0_8_10 h0_8_11 h0_8_12 h0_7_4 h0_7_4k h0_7_4c h0_8_4 h0_8_4k j51_h0_8_4c h0_7_5 h0_7_5k h0_7_5c h0_8_5 h0_8_5k j51_h0_8_5c h0_7_6 h0_7_6k h0_7_6c h0_8_6 h0_8_6k j51_h0_8_6c h0_7_7 h0_7_7k h0_7_7c h0_8_7 h0_8_7k j51_h0_8_7c h0_7_8 h0_7_8k h0_7_8c h0_8_8 h0_8_8k j51_h0_8_8c h0_7_9 h0_7_9k h0_7_9c h0_8_9 h0_8_9k j51_h0_8_9c h0_7_10 h0_7_10k h0_7_10c h0_8_10 h0_8_10k j51_h0_8_10c h0_7_11 h0_7_11k h0_7_11c h0_8_11 h0_8_11k j51_h0_8_11c h0_7_12 h0_7_12k h0_7_12c h0_8_12 h0_8_12k j51_h0_8_12c z z_0 z_f1 z_0 z_0k z_0c h0_1_0 h0_1_0k h0_1_0c h0_6 h0_1 h0_3 h0_6_2 h0_6_3 h0_6_4 h0_6_5 h0_6_4 h0_6_4k j51_h0_6_4c h0_6_2 h0_6_2k j51_h0_6_2c h0_6_3 h0_6_3k j51_h0_6_3c h0_3 h0_3_0 h0_3_f1 h0_3_f2 h0_3_3 h0_3_3 h0_3_3k j51_h0_3_3c h0_3_0 h0_3_0k h0_3_0c h0_3_0_e0 h0_3_0_e0_0 h0_3_0_e0_f1 h0_3_0_e0_2 h0_3_0_e0_0 h0_3_0_e0_0k h0_3_0_e0_0c h0_3_0_e0_2 h0_3_0_e0_2k j51_h0_3_0_e0_2c h0_3_0_e1 h0_3_0_e1_0 h0_3_0_e1_f1 h0_3_0_e1_2 h0_3_0_e1_0 h0_3_0_e1_0k h0_3_0_e1_0c h0_3_0_e1_2 h0_3_0_e1_2k j51_h0_3_0_e1_2c h0_3_0_e2 h0_3_0_e2_0 h0_3_0_e2_f1 h0_3_0_e2_2 h0_3_0_e2_0 h0_3_0_e2_0k h0_3_0_e2_0c h0_3_0_e2_2 h0_3_0_e2_2k j51_h0_3_0_e2_2c h0_3_0_e3 h0_3_0_e3_0 h0_3_0_e3_f1 h0_3_0_e3_2 h0_3_0_e3_0 h0_3_0_e3_0k h0_3_0_e3_0c h0_3_0_e3_2 h0_3_0_e3_2k j51_h0_3_0_e3_2c)) hP hD [23, 24] [0, 1, 2, 3, 4, 5, 6, 7, 8, 9, 10, 11, 12, 13, 14, 15, 16, 17, 18, 19, 20, 21, 22, 45, 46, 25, 26, 27, 28, 29, 30, 31, 32, 33, 34, 35, 36, 37, 38, 39, 40, 41, 42, 43, 44] 45 rfl hqc (by decide +kernel) rfl hk1 hFc hP1 hD1
          generalize H1 = H at hP hS ⊢
          as_aux_lemma =>
          rcases hw with ⟨h_91, h_92⟩
          obtain rfl : y_11 = r_90 := (h_92.trans v_12.symm).symm
          refine lv_iconst (v := 1) hx hb dX11_run_81 kc_iconst_1 ?_
          refine lv_icmp_ne (tgt := 88) hx hb dX11_run_82 rfl (fun c_93 => ?_) (fun c_93 => ?_)
          · refine lv_aload_n hx hb dX11_run_88 rfl (lv_at hl 2 rfl) ?_
            refine lv_iload hx hb dX11_run_89 (lv_at hl 1 rfl) ?_
            refine lv_iconst (v := 0) hx hb dX11_run_91 kc_iconst_0 ?_
            obtain ⟨hPc, hDc, hFc, hqc⟩ := cl_cut (wc := (wd_c_X6_part z z_0 z_f1 z_0 z_0k z_0c)) hP hD hS hA [23, 24] (by decide +kernel) rfl
            have hKc := hK.sub (tys' := [(z_0k, .int)]) [19] rfl
            have hrv := va_recv hKc hPc (ci := 6) (q0 := 0) rfl rfl
            refine va_calli (va_runV (As := [.int j51_l4, .int 0]) (rest := []) ⟨hx, hb, hml, hown, hts⟩ (c_X6_part l dC dI H.size z j51_l4 0 z_0 z_f1 z_0k z_0c g_9 (RG_w (RG_k 0 0 rfl) (by decide +kernel)) (RG_w g_10 (by decide +kernel)) a_z_0c) (cwV 2 hts gf_c_X11_run_c_X6_part rfl rfl rfl mdV_X6_part ⟨Nat.le_of_ble_eq_true rfl, Nat.le_of_ble_eq_true rfl⟩) ⟨fun a U g mk q => by obtain ⟨q0, q1, qP, qK, qD⟩ := q; exact ⟨q0, q1, qP, va_K.moved (u := U) (U := U.calling g mk a) (Vm.Alike.refl U.vm) qK, qD⟩, hrv, fun U hU hW => ⟨rfl, by rw [hU], by rw [hU]; exact hPc, va_K.moved hW.alike hKc, hDc.weaken (fun _ _ _ _ => trivial)⟩⟩ rfl rfl hl.1 rfl (lv_room (Nat.le_of_ble_eq_true rfl)) dX11_run_92 ⟨Nat.le_of_ble_eq_true rfl, Nat.le_of_ble_eq_true rfl⟩) hS (fun q _ h => hFc q h) hFc (fun r_94 u t H1 locs ht hvm hw hB hz1 hk1 hS => ?_)
            obtain ⟨hP1, hK1, hD1⟩ := hB
            rw [ht] at hP1
            obtain ⟨hP, hD⟩ := cl_put (w1 := (wd_c_X6_part z z_0 z_f1 z_0 z_0k z_0c)) (nw := (wd_c_X11_run h0 h0_0 h0_1 h0_2 h0_3 h0_4 h0_f5 h0_6 h0_7 h0_8 h0_9 h0_10 h0_11 h0_12 h0_13 h0_14 h0_f15 h0_1 h0_1_0 h0_1_f1 h0_1_f2 h0_1_f3 h0_4 h0_4k h0_4c h0_7 h0_7_f0 h0_7_f1 h0_7_f2 h0_7_f3 h0_7_4 h0_7_5 h0_7_6 h0_7_7 h0_7_8 h0_7_9 h0_7_10 h0_7_11 h0_7_12 h0_8 h0_7_f0 h0_7_f1 j51_h0_8_f2 h0_7_f3 h0_8_4 h0_8_5 h0_8_6 h0_8_7 h0_8_8 h0_8_9 h0_8_10 h0_8_11 h0_8_12 h0_7_4 h0_7_4k h0_7_4c h0_8_4 h0_8_4k j51_h0_8_4c h0_7_5 h0_7_5k h0_7_5c h0_8_5 h0_8_5k j51_h0_8_5c h0_7_6 h0_7_6k h0_7_6c h0_8_6 h0_8_6k j51_h0_8_6c h0_7_7 h0_7_7k h0_7_7c h0_8_7 h0_8_7k j51_h0_8_7c h0_7_8 h0_7_8k h0_7_8c h0_8_8 h0_8_8k j51_h0_8_8c h0_7_9 h0_7_9k h0_7_9c h0_8_9 h0_8_9k j51_h0_8_9c h0_7_10 h0_7_10k h0_7_10c h0_8_10 h0_8_10k j51_h0_8_10c h0_7_11 h0_7_11k h0_7_11c h0_8_11 h0_8_11k j51_h0_8_11c h0_7_12 h0_7_12k h0_7_12c h0_8_12 h0_8_12k j51_h0_8_12c z z_0 z_f1 z_0 z_0k z_0c h0_1_0 h0_1_0k h0_1_0c h0_6 h0_1 h0_3 h0_6_2 h0_6_3 h0_6_4 h0_6_5 h0_6_4 h0_6_4k j51_h0_6_4c h0_6_2 h0_6_2k j51_h0_6_2c h0_6_3 h0_6_3k j51_h0_6_3c h0_3 h0_3_0 h0_3_f1 h0_3_f2 h0_3_3 h0_3_3 h0_3_3k j51_h0_3_3c h0_3_0 h0_3_0k h0_3_0c h0_3_0_e0 h0_3_0_e0_0 h0_3_0_e0_f1 h0_3_0_e0_2 h0_3_0_e0_0 h0_3_0_e0_0k h0_3_0_e0_0c h0_3_0_e0_2 h0_3_0_e0_2k j51_h0_3_0_e0_2c h0_3_0_e1 h0_3_0_e1_0 h0_3_0_e1_f1 h0_3_0_e1_2 h0_3_0_e1_0 h0_3_0_e1_0k h0_3_0_e1_0c h0_3_0_e1_2 h0_3_0_e1_2k j51_h0_3_0_e1_2c h0_3_0_e2 h0_3_0_e2_0 h0_3_0_e2_f1 h0_3_0_e2_2 h0_3_0_e2_0 h0_3_0_e2_0k h0_3_0_e2_0c h0_3_0_e2_2 h0_3_0_e2_2k j51_h0_3_0_e2_2c h0_3_0_e3 h0_3_0_e3_0 h0_3_0_e3_f1 h0_3_0_e3_2 h0_3_0_e3_0 h0_3_0_e3_0k h0_3_0_e3_0c h0_3_0_e3_2 h0_3_0_e3_2k j51_h0_3_0_e3_2c)) hP hD [23, 24] [0, 1, 2, 3, 4, 5, 6, 7, 8, 9, 10, 11, 12, 13, 14, 15, 16, 17, 18, 19, 20, 21, 22, 45, 46, 25, 26, 27, 28, 29, 30, 31, 32, 33, 34, 35, 36, 37, 38, 39, 40, 41, 42, 43, 44] 45 rfl hqc (by decide +kernel) rfl hk1 hFc hP1 hD1
            generalize H1 = H at hP hS ⊢
            as_aux_lemma =>
            rcases hw with ⟨h_95, h_96⟩
            obtain rfl : y_11 = r_94 := (h_96.trans v_12.symm).symm
            refine lv_iconst (v := 3) hx hb dX11_run_95 kc_iconst_3 ?_
            refine lv_icmp_ne (tgt := 113) hx hb dX11_run_96 rfl (fun c_97 => ?_) (fun c_97 => ?_)
            · refine lv_aload_n hx hb dX11_run_113 rfl (lv_at hl 3 rfl) ?_
              refine lv_aload_n hx hb dX11_run_114 rfl (lv_at hl 3 rfl) ?_
              refine va_get (D := (dC, dI)) (ci := 11) (v := .ref h0_8) (C := RX11) (T := TX11) (N := 16) hx hb hts iw_c_X11_run_X11 hown hK hP 0 rfl rfl 8 (by decide +kernel) (hts (.fieldLink RX11 56 "BuoyVote" "apart" "LBuoyVote$Sea;") (List.mem_of_getElem? (i := 18) rfl)) (fun _ h9 => h9) rfl dX11_run_115 ?_
              refine lv_aload_n hx hb dX11_run_118 rfl (lv_at hl 2 rfl) ?_
              refine lv_iload hx hb dX11_run_119 (lv_at hl 1 rfl) ?_
              obtain ⟨hPc, hDc, hFc, hqc⟩ := cl_cut (wc := (wd_c_X11_change_3 z z_0 z_f1 z_0 z_0k z_0c)) hP hD hS hA [23, 24] (by decide +kernel) rfl
              have hKc := hK.sub (tys' := [(z_0k, .int)]) [19] rfl
              have hrv := va_recv hK hP (ci := 11) (q0 := 0) rfl rfl
              refine va_callv (va_runV (As := [.ref h0_8, .ref z, .int j51_l4]) (rest := []) ⟨hx, hb, hml, hown, hts⟩ (c_X11_change_3 l dC dI H.size h0 h0_8 z j51_l4 z_0 z_f1 z_0k z_0c y_11 y_14 y_17 y_20 g_9 (RG_w g_10 (by decide +kernel)) a_z_0c v_12 h_44 v_15 h_45 v_18 g_19 v_21 g_22) (cwV 3 hts gf_c_X11_run_c_X11_change_3 rfl rfl rfl mdV_X11_change ⟨Nat.le_of_ble_eq_true rfl, Nat.le_of_ble_eq_true rfl⟩) ⟨fun a U g mk q => by obtain ⟨q0, q1, qP, qK, qD⟩ := q; exact ⟨q0, q1, qP, va_K.moved (u := U) (U := U.calling g mk a) (Vm.Alike.refl U.vm) qK, qD⟩, hrv, fun U hU hW => ⟨rfl, by rw [hU], by rw [hU]; exact hPc, va_K.moved hW.alike hKc, hDc.weaken (fun _ _ _ _ => trivial)⟩⟩ rfl rfl hl.1 rfl (lv_room (Nat.le_of_ble_eq_true rfl)) dX11_run_121 ⟨Nat.le_of_ble_eq_true rfl, Nat.le_of_ble_eq_true rfl⟩) hS (fun q _ h => hFc q h) hFc (fun u t H1 locs ht hvm hw hB hz1 hk1 hS => ?_)
              obtain ⟨hP1, hK1, hD1⟩ := hB
              rw [ht] at hP1
              obtain ⟨hP, hD⟩ := cl_put (w1 := (wd_c_X11_change_3 z z_0 z_f1 z_0 z_0k z_0c)) (nw := (wd_c_X11_run h0 h0_0 h0_1 h0_2 h0_3 h0_4 h0_f5 h0_6 h0_7 h0_8 h0_9 h0_10 h0_11 h0_12 h0_13 h0_14 h0_f15 h0_1 h0_1_0 h0_1_f1 h0_1_f2 h0_1_f3 h0_4 h0_4k h0_4c h0_7 h0_7_f0 h0_7_f1 h0_7_f2 h0_7_f3 h0_7_4 h0_7_5 h0_7_6 h0_7_7 h0_7_8 h0_7_9 h0_7_10 h0_7_11 h0_7_12 h0_8 h0_7_f0 h0_7_f1 j51_h0_8_f2 h0_7_f3 h0_8_4 h0_8_5 h0_8_6 h0_8_7 h0_8_8 h0_8_9 h0_8_10 h0_8_11 h0_8_12 h0_7_4 h0_7_4k h0_7_4c h0_8_4 h0_8_4k j51_h0_8_4c h0_7_5 h0_7_5k h0_7_5c h0_8_5 h0_8_5k j51_h0_8_5c h0_7_6 h0_7_6k h0_7_6c h0_8_6 h0_8_6k j51_h0_8_6c h0_7_7 h0_7_7k h0_7_7c h0_8_7 h0_8_7k j51_h0_8_7c h0_7_8 h0_7_8k h0_7_8c h0_8_8 h0_8_8k j51_h0_8_8c h0_7_9 h0_7_9k h0_7_9c h0_8_9 h0_8_9k j51_h0_8_9c h0_7_10 h0_7_10k h0_7_10c h0_8_10 h0_8_10k j51_h0_8_10c h0_7_11 h0_7_11k h0_7_11c h0_8_11 h0_8_11k j51_h0_8_11c h0_7_12 h0_7_12k h0_7_12c h0_8_12 h0_8_12k j51_h0_8_12c z z_0 z_f1 z_0 z_0k z_0c h0_1_0 h0_1_0k h0_1_0c h0_6 h0_1 h0_3 h0_6_2 h0_6_3 h0_6_4 h0_6_5 h0_6_4 h0_6_4k j51_h0_6_4c h0_6_2 h0_6_2k j51_h0_6_2c h0_6_3 h0_6_3k j51_h0_6_3c h0_3 h0_3_0 h0_3_f1 h0_3_f2 h0_3_3 h0_3_3 h0_3_3k j51_h0_3_3c h0_3_0 h0_3_0k h0_3_0c h0_3_0_e0 h0_3_0_e0_0 h0_3_0_e0_f1 h0_3_0_e0_2 h0_3_0_e0_0 h0_3_0_e0_0k h0_3_0_e0_0c h0_3_0_e0_2 h0_3_0_e0_2k j51_h0_3_0_e0_2c h0_3_0_e1 h0_3_0_e1_0 h0_3_0_e1_f1 h0_3_0_e1_2 h0_3_0_e1_0 h0_3_0_e1_0k h0_3_0_e1_0c h0_3_0_e1_2 h0_3_0_e1_2k j51_h0_3_0_e1_2c h0_3_0_e2 h0_3_0_e2_0 h0_3_0_e2_f1 h0_3_0_e2_2 h0_3_0_e2_0 h0_3_0_e2_0k h0_3_0_e2_0c h0_3_0_e2_2 h0_3_0_e2_2k j51_h0_3_0_e2_2c h0_3_0_e3 h0_3_0_e3_0 h0_3_0_e3_f1 h0_3_0_e3_2 h0_3_0_e3_0 h0_3_0_e3_0k h0_3_0_e3_0c h0_3_0_e3_2 h0_3_0_e3_2k j51_h0_3_0_e3_2c)) hP hD [23, 24] [0, 1, 2, 3, 4, 5, 6, 7, 8, 9, 10, 11, 12, 13, 14, 15, 16, 17, 18, 19, 20, 21, 22, 45, 46, 25, 26, 27, 28, 29, 30, 31, 32, 33, 34, 35, 36, 37, 38, 39, 40, 41, 42, 43, 44] 45 rfl hqc (by decide +kernel) rfl hk1 hFc hP1 hD1
              generalize H1 = H at hP hS ⊢
              as_aux_lemma =>
              have h_99 := hw
              exact hU _ _ _ (J124 j51_l5 j51_h0_8_f2 j51_h0_8_4c j51_h0_8_5c j51_h0_8_6c j51_h0_8_7c j51_h0_8_8c j51_h0_8_9c j51_h0_8_10c j51_h0_8_11c j51_h0_8_12c j51_h0_6_4c j51_h0_6_2c j51_h0_6_3c j51_h0_3_3c j51_h0_3_0_e0_2c j51_h0_3_0_e1_2c j51_h0_3_0_e2_2c j51_h0_3_0_e3_2c g_h0_1_f1 g_h0_1_f2 g_h0_1_f3 g_h0_3_0_e0_f1 g_h0_3_0_e1_f1 g_h0_3_0_e2_f1 g_h0_3_0_e3_f1 g_h0_3_f1 g_h0_7_f2 g_h0_7_f3 g_h0_f5 g_9 g_p1 g_p2 g_10 a_j51_h0_6_3c _ _ _ hP hD hS (lv_sub hl [0, 1, 2, 3, 4] rfl))
            · exact RG_dead (RG_eq1 h_44 (RG_k 3 3 rfl) c_97 (a' := 3) (b' := (-1)) (by decide +kernel)) (by decide +kernel)
          · exact RG_dead (RG_eq1 h_44 (RG_k 1 1 rfl) c_93 (a' := 1) (b' := (-1)) (by decide +kernel)) (by decide +kernel)
        · rw [h_46]
          refine lv_if_eq (tgt := 130) hx hb dX11_run_71 rfl (fun c_100 => absurd c_100 (by decide +kernel)) (fun c_100 => ?_)
          refine lv_aload_n hx hb dX11_run_74 rfl (lv_at hl 2 rfl) ?_
          refine lv_iload hx hb dX11_run_75 (lv_at hl 1 rfl) ?_
          refine lv_iconst (v := 0) hx hb dX11_run_77 kc_iconst_0 ?_
          obtain ⟨hPc, hDc, hFc, hqc⟩ := cl_cut (wc := (wd_c_X6_part z z_0 z_f1 z_0 z_0k z_0c)) hP hD hS hA [23, 24] (by decide +kernel) rfl
          have hKc := hK.sub (tys' := [(z_0k, .int)]) [19] rfl
          have hrv := va_recv hKc hPc (ci := 6) (q0 := 0) rfl rfl
          refine va_calli (va_runV (As := [.int j51_l4, .int 0]) (rest := []) ⟨hx, hb, hml, hown, hts⟩ (c_X6_part l dC dI H.size z j51_l4 0 z_0 z_f1 z_0k z_0c g_9 (RG_w (RG_k 0 0 rfl) (by decide +kernel)) (RG_w g_10 (by decide +kernel)) a_z_0c) (cwV 2 hts gf_c_X11_run_c_X6_part rfl rfl rfl mdV_X6_part ⟨Nat.le_of_ble_eq_true rfl, Nat.le_of_ble_eq_true rfl⟩) ⟨fun a U g mk q => by obtain ⟨q0, q1, qP, qK, qD⟩ := q; exact ⟨q0, q1, qP, va_K.moved (u := U) (U := U.calling g mk a) (Vm.Alike.refl U.vm) qK, qD⟩, hrv, fun U hU hW => ⟨rfl, by rw [hU], by rw [hU]; exact hPc, va_K.moved hW.alike hKc, hDc.weaken (fun _ _ _ _ => trivial)⟩⟩ rfl rfl hl.1 rfl (lv_room (Nat.le_of_ble_eq_true rfl)) dX11_run_78 ⟨Nat.le_of_ble_eq_true rfl, Nat.le_of_ble_eq_true rfl⟩) hS (fun q _ h => hFc q h) hFc (fun r_101 u t H1 locs ht hvm hw hB hz1 hk1 hS => ?_)
          obtain ⟨hP1, hK1, hD1⟩ := hB
          rw [ht] at hP1
          obtain ⟨hP, hD⟩ := cl_put (w1 := (wd_c_X6_part z z_0 z_f1 z_0 z_0k z_0c)) (nw := (wd_c_X11_run h0 h0_0 h0_1 h0_2 h0_3 h0_4 h0_f5 h0_6 h0_7 h0_8 h0_9 h0_10 h0_11 h0_12 h0_13 h0_14 h0_f15 h0_1 h0_1_0 h0_1_f1 h0_1_f2 h0_1_f3 h0_4 h0_4k h0_4c h0_7 h0_7_f0 h0_7_f1 h0_7_f2 h0_7_f3 h0_7_4 h0_7_5 h0_7_6 h0_7_7 h0_7_8 h0_7_9 h0_7_10 h0_7_11 h0_7_12 h0_8 h0_7_f0 h0_7_f1 j51_h0_8_f2 h0_7_f3 h0_8_4 h0_8_5 h0_8_6 h0_8_7 h0_8_8 h0_8_9 h0_8_10 h0_8_11 h0_8_12 h0_7_4 h0_7_4k h0_7_4c h0_8_4 h0_8_4k j51_h0_8_4c h0_7_5 h0_7_5k h0_7_5c h0_8_5 h0_8_5k j51_h0_8_5c h0_7_6 h0_7_6k h0_7_6c h0_8_6 h0_8_6k j51_h0_8_6c h0_7_7 h0_7_7k h0_7_7c h0_8_7 h0_8_7k j51_h0_8_7c h0_7_8 h0_7_8k h0_7_8c h0_8_8 h0_8_8k j51_h0_8_8c h0_7_9 h0_7_9k h0_7_9c h0_8_9 h0_8_9k j51_h0_8_9c h0_7_10 h0_7_10k h0_7_10c h0_8_10 h0_8_10k j51_h0_8_10c h0_7_11 h0_7_11k h0_7_11c h0_8_11 h0_8_11k j51_h0_8_11c h0_7_12 h0_7_12k h0_7_12c h0_8_12 h0_8_12k j51_h0_8_12c z z_0 z_f1 z_0 z_0k z_0c h0_1_0 h0_1_0k h0_1_0c h0_6 h0_1 h0_3 h0_6_2 h0_6_3 h0_6_4 h0_6_5 h0_6_4 h0_6_4k j51_h0_6_4c h0_6_2 h0_6_2k j51_h0_6_2c h0_6_3 h0_6_3k j51_h0_6_3c h0_3 h0_3_0 h0_3_f1 h0_3_f2 h0_3_3 h0_3_3 h0_3_3k j51_h0_3_3c h0_3_0 h0_3_0k h0_3_0c h0_3_0_e0 h0_3_0_e0_0 h0_3_0_e0_f1 h0_3_0_e0_2 h0_3_0_e0_0 h0_3_0_e0_0k h0_3_0_e0_0c h0_3_0_e0_2 h0_3_0_e0_2k j51_h0_3_0_e0_2c h0_3_0_e1 h0_3_0_e1_0 h0_3_0_e1_f1 h0_3_0_e1_2 h0_3_0_e1_0 h0_3_0_e1_0k h0_3_0_e1_0c h0_3_0_e1_2 h0_3_0_e1_2k j51_h0_3_0_e1_2c h0_3_0_e2 h0_3_0_e2_0 h0_3_0_e2_f1 h0_3_0_e2_2 h0_3_0_e2_0 h0_3_0_e2_0k h0_3_0_e2_0c h0_3_0_e2_2 h0_3_0_e2_2k j51_h0_3_0_e2_2c h0_3_0_e3 h0_3_0_e3_0 h0_3_0_e3_f1 h0_3_0_e3_2 h0_3_0_e3_0 h0_3_0_e3_0k h0_3_0_e3_0c h0_3_0_e3_2 h0_3_0_e3_2k j51_h0_3_0_e3_2c)) hP hD [23, 24] [0, 1, 2, 3, 4, 5, 6, 7, 8, 9, 10, 11, 12, 13, 14, 15, 16, 17, 18, 19, 20, 21, 22, 45, 46, 25, 26, 27, 28, 29, 30, 31, 32, 33, 34, 35, 36, 37, 38, 39, 40, 41, 42, 43, 44] 45 rfl hqc (by decide +kernel) rfl hk1 hFc hP1 hD1
          generalize H1 = H at hP hS ⊢
          as_aux_lemma =>
          rcases hw with ⟨h_102, h_103⟩
          obtain rfl : y_11 = r_101 := (h_103.trans v_12.symm).symm
          refine lv_iconst (v := 1) hx hb dX11_run_81 kc_iconst_1 ?_
          refine lv_icmp_ne (tgt := 88) hx hb dX11_run_82 rfl (fun c_104 => ?_) (fun c_104 => ?_)
          · refine lv_aload_n hx hb dX11_run_88 rfl (lv_at hl 2 rfl) ?_
            refine lv_iload hx hb dX11_run_89 (lv_at hl 1 rfl) ?_
            refine lv_iconst (v := 0) hx hb dX11_run_91 kc_iconst_0 ?_
            obtain ⟨hPc, hDc, hFc, hqc⟩ := cl_cut (wc := (wd_c_X6_part z z_0 z_f1 z_0 z_0k z_0c)) hP hD hS hA [23, 24] (by decide +kernel) rfl
            have hKc := hK.sub (tys' := [(z_0k, .int)]) [19] rfl
            have hrv := va_recv hKc hPc (ci := 6) (q0 := 0) rfl rfl
            refine va_calli (va_runV (As := [.int j51_l4, .int 0]) (rest := []) ⟨hx, hb, hml, hown, hts⟩ (c_X6_part l dC dI H.size z j51_l4 0 z_0 z_f1 z_0k z_0c g_9 (RG_w (RG_k 0 0 rfl) (by decide +kernel)) (RG_w g_10 (by decide +kernel)) a_z_0c) (cwV 2 hts gf_c_X11_run_c_X6_part rfl rfl rfl mdV_X6_part ⟨Nat.le_of_ble_eq_true rfl, Nat.le_of_ble_eq_true rfl⟩) ⟨fun a U g mk q => by obtain ⟨q0, q1, qP, qK, qD⟩ := q; exact ⟨q0, q1, qP, va_K.moved (u := U) (U := U.calling g mk a) (Vm.Alike.refl U.vm) qK, qD⟩, hrv, fun U hU hW => ⟨rfl, by rw [hU], by rw [hU]; exact hPc, va_K.moved hW.alike hKc, hDc.weaken (fun _ _ _ _ => trivial)⟩⟩ rfl rfl hl.1 rfl (lv_room (Nat.le_of_ble_eq_true rfl)) dX11_run_92 ⟨Nat.le_of_ble_eq_true rfl, Nat.le_of_ble_eq_true rfl⟩) hS (fun q _ h => hFc q h) hFc (fun r_105 u t H1 locs ht hvm hw hB hz1 hk1 hS => ?_)
            obtain ⟨hP1, hK1, hD1⟩ := hB
            rw [ht] at hP1
            obtain ⟨hP, hD⟩ := cl_put (w1 := (wd_c_X6_part z z_0 z_f1 z_0 z_0k z_0c)) (nw := (wd_c_X11_run h0 h0_0 h0_1 h0_2 h0_3 h0_4 h0_f5 h0_6 h0_7 h0_8 h0_9 h0_10 h0_11 h0_12 h0_13 h0_14 h0_f15 h0_1 h0_1_0 h0_1_f1 h0_1_f2 h0_1_f3 h0_4 h0_4k h0_4c h0_7 h0_7_f0 h0_7_f1 h0_7_f2 h0_7_f3 h0_7_4 h0_7_5 h0_7_6 h0_7_7 h0_7_8 h0_7_9 h0_7_10 h0_7_11 h0_7_12 h0_8 h0_7_f0 h0_7_f1 j51_h0_8_f2 h0_7_f3 h0_8_4 h0_8_5 h0_8_6 h0_8_7 h0_8_8 h0_8_9 h0_8_10 h0_8_11 h0_8_12 h0_7_4 h0_7_4k h0_7_4c h0_8_4 h0_8_4k j51_h0_8_4c h0_7_5 h0_7_5k h0_7_5c h0_8_5 h0_8_5k j51_h0_8_5c h0_7_6 h0_7_6k h0_7_6c h0_8_6 h0_8_6k j51_h0_8_6c h0_7_7 h0_7_7k h0_7_7c h0_8_7 h0_8_7k j51_h0_8_7c h0_7_8 h0_7_8k h0_7_8c h0_8_8 h0_8_8k j51_h0_8_8c h0_7_9 h0_7_9k h0_7_9c h0_8_9 h0_8_9k j51_h0_8_9c h0_7_10 h0_7_10k h0_7_10c h0_8_10 h0_8_10k j51_h0_8_10c h0_7_11 h0_7_11k h0_7_11c h0_8_11 h0_8_11k j51_h0_8_11c h0_7_12 h0_7_12k h0_7_12c h0_8_12 h0_8_12k j51_h0_8_12c z z_0 z_f1 z_0 z_0k z_0c h0_1_0 h0_1_0k h0_1_0c h0_6 h0_1 h0_3 h0_6_2 h0_6_3 h0_6_4 h0_6_5 h0_6_4 h0_6_4k j51_h0_6_4c h0_6_2 h0_6_2k j51_h0_6_2c h0_6_3 h0_6_3k j51_h0_6_3c h0_3 h0_3_0 h0_3_f1 h0_3_f2 h0_3_3 h0_3_3 h0_3_3k j51_h0_3_3c h0_3_0 h0_3_0k h0_3_0c h0_3_0_e0 h0_3_0_e0_0 h0_3_0_e0_f1 h0_3_0_e0_2 h0_3_0_e0_0 h0_3_0_e0_0k h0_3_0_e0_0c h0_3_0_e0_2 h0_3_0_e0_2k j51_h0_3_0_e0_2c h0_3_0_e1 h0_3_0_e1_0 h0_3_0_e1_f1 h0_3_0_e1_2 h0_3_0_e1_0 h0_3_0_e1_0k h0_3_0_e1_0c h0_3_0_e1_2 h0_3_0_e1_2k j51_h0_3_0_e1_2c h0_3_0_e2 h0_3_0_e2_0 h0_3_0_e2_f1 h0_3_0_e2_2 h0_3_0_e2_0 h0_3_0_e2_0k h0_3_0_e2_0c h0_3_0_e2_2 h0_3_0_e2_2k j51_h0_3_0_e2_2c h0_3_0_e3 h0_3_0_e3_0 h0_3_0_e3_f1 h0_3_0_e3_2 h0_3_0_e3_0 h0_3_0_e3_0k h0_3_0_e3_0c h0_3_0_e3_2 h0_3_0_e3_2k j51_h0_3_0_e3_2c)) hP hD [23, 24] [0, 1, 2, 3, 4, 5, 6, 7, 8, 9, 10, 11, 12, 13, 14, 15, 16, 17, 18, 19, 20, 21, 22, 45, 46, 25, 26, 27, 28, 29, 30, 31, 32, 33, 34, 35, 36, 37, 38, 39, 40, 41, 42, 43, 44] 45 rfl hqc (by decide +kernel) rfl hk1 hFc hP1 hD1
            generalize H1 = H at hP hS ⊢
            as_aux_lemma =>
            rcases hw with ⟨h_106, h_107⟩
            obtain rfl : y_11 = r_105 := (h_107.trans v_12.symm).symm
            refine lv_iconst (v := 3) hx hb dX11_run_95 kc_iconst_3 ?_
            refine lv_icmp_ne (tgt := 113) hx hb dX11_run_96 rfl (fun c_108 => ?_) (fun c_108 => ?_)
            · have g_109 : RG y_11 4 9 := RG_ne1 h_47 (q := 3) rfl c_108 (by decide +kernel)
              refine lv_aload_n hx hb dX11_run_113 rfl (lv_at hl 3 rfl) ?_
              refine lv_aload_n hx hb dX11_run_114 rfl (lv_at hl 3 rfl) ?_
              refine va_get (D := (dC, dI)) (ci := 11) (v := .ref h0_8) (C := RX11) (T := TX11) (N := 16) hx hb hts iw_c_X11_run_X11 hown hK hP 0 rfl rfl 8 (by decide +kernel) (hts (.fieldLink RX11 56 "BuoyVote" "apart" "LBuoyVote$Sea;") (List.mem_of_getElem? (i := 18) rfl)) (fun _ h9 => h9) rfl dX11_run_115 ?_
              refine lv_aload_n hx hb dX11_run_118 rfl (lv_at hl 2 rfl) ?_
              refine lv_iload hx hb dX11_run_119 (lv_at hl 1 rfl) ?_
              obtain ⟨hPc, hDc, hFc, hqc⟩ := cl_cut (wc := (wd_c_X11_change_4 z z_0 z_f1 z_0 z_0k z_0c)) hP hD hS hA [23, 24] (by decide +kernel) rfl
              have hKc := hK.sub (tys' := [(z_0k, .int)]) [19] rfl
              have hrv := va_recv hK hP (ci := 11) (q0 := 0) rfl rfl
              refine va_callv (va_runV (As := [.ref h0_8, .ref z, .int j51_l4]) (rest := []) ⟨hx, hb, hml, hown, hts⟩ (c_X11_change_4 l dC dI H.size h0 h0_8 z j51_l4 z_0 z_f1 z_0k z_0c y_11 y_14 y_17 y_20 g_9 (RG_w g_10 (by decide +kernel)) a_z_0c v_12 g_109 v_15 h_48 v_18 g_19 v_21 g_22) (cwV 3 hts gf_c_X11_run_c_X11_change_4 rfl rfl rfl mdV_X11_change ⟨Nat.le_of_ble_eq_true rfl, Nat.le_of_ble_eq_true rfl⟩) ⟨fun a U g mk q => by obtain ⟨q0, q1, qP, qK, qD⟩ := q; exact ⟨q0, q1, qP, va_K.moved (u := U) (U := U.calling g mk a) (Vm.Alike.refl U.vm) qK, qD⟩, hrv, fun U hU hW => ⟨rfl, by rw [hU], by rw [hU]; exact hPc, va_K.moved hW.alike hKc, hDc.weaken (fun _ _ _ _ => trivial)⟩⟩ rfl rfl hl.1 rfl (lv_room (Nat.le_of_ble_eq_true rfl)) dX11_run_121 ⟨Nat.le_of_ble_eq_true rfl, Nat.le_of_ble_eq_true rfl⟩) hS (fun q _ h => hFc q h) hFc (fun u t H1 locs ht hvm hw hB hz1 hk1 hS => ?_)
              as_aux_lemma =>
              obtain ⟨hP1, hK1, hD1⟩ := hB
              rw [ht] at hP1
              obtain ⟨hP, hD⟩ := cl_put (w1 := (wd_c_X11_change_4 z z_0 z_f1 z_0 z_0k z_0c)) (nw := (wd_c_X11_run h0 h0_0 h0_1 h0_2 h0_3 h0_4 h0_f5 h0_6 h0_7 h0_8 h0_9 h0_10 h0_11 h0_12 h0_13 h0_14 h0_f15 h0_1 h0_1_0 h0_1_f1 h0_1_f2 h0_1_f3 h0_4 h0_4k h0_4c h0_7 h0_7_f0 h0_7_f1 h0_7_f2 h0_7_f3 h0_7_4 h0_7_5 h0_7_6 h0_7_7 h0_7_8 h0_7_9 h0_7_10 h0_7_11 h0_7_12 h0_8 h0_7_f0 h0_7_f1 j51_h0_8_f2 h0_7_f3 h0_8_4 h0_8_5 h0_8_6 h0_8_7 h0_8_8 h0_8_9 h0_8_10 h0_8_11 h0_8_12 h0_7_4 h0_7_4k h0_7_4c h0_8_4 h0_8_4k j51_h0_8_4c h0_7_5 h0_7_5k h0_7_5c h0_8_5 h0_8_5k j51_h0_8_5c h0_7_6 h0_7_6k h0_7_6c h0_8_6 h0_8_6k j51_h0_8_6c h0_7_7 h0_7_7k h0_7_7c h0_8_7 h0_8_7k j51_h0_8_7c h0_7_8 h0_7_8k h0_7_8c h0_8_8 h0_8_8k j51_h0_8_8c h0_7_9 h0_7_9k h0_7_9c h0_8_9 h0_8_9k j51_h0_8_9c h0_7_10 h0_7_10k h0_7_10c h0_8_10 h0_8_10k j51_h0_8_10c h0_7_11 h0_7_11k h0_7_11c h0_8_11 h0_8_11k j51_h0_8_11c h0_7_12 h0_7_12k h0_7_12c h0_8_12 h0_8_12k j51_h0_8_12c z z_0 z_f1 z_0 z_0k z_0c h0_1_0 h0_1_0k h0_1_0c h0_6 h0_1 h0_3 h0_6_2 h0_6_3 h0_6_4 h0_6_5 h0_6_4 h0_6_4k j51_h0_6_4c h0_6_2 h0_6_2k j51_h0_6_2c h0_6_3 h0_6_3k j51_h0_6_3c h0_3 h0_3_0 h0_3_f1 h0_3_f2 h0_3_3 h0_3_3 h0_3_3k j51_h0_3_3c h0_3_0 h0_3_0k h0_3_0c h0_3_0_e0 h0_3_0_e0_0 h0_3_0_e0_f1 h0_3_0_e0_2 h0_3_0_e0_0 h0_3_0_e0_0k h0_3_0_e0_0c h0_3_0_e0_2 h0_3_0_e0_2k j51_h0_3_0_e0_2c h0_3_0_e1 h0_3_0_e1_0 h0_3_0_e1_f1 h0_3_0_e1_2 h0_3_0_e1_0 h0_3_0_e1_0k h0_3_0_e1_0c h0_3_0_e1_2 h0_3_0_e1_2k j51_h0_3_0_e1_2c h0_3_0_e2 h0_3_0_e2_0 h0_3_0_e2_f1 h0_3_0_e2_2 h0_3_0_e2_0 h0_3_0_e2_0k h0_3_0_e2_0c h0_3_0_e2_2 h0_3_0_e2_2k j51_h0_3_0_e2_2c h0_3_0_e3 h0_3_0_e3_0 h0_3_0_e3_f1 h0_3_0_e3_2 h0_3_0_e3_0 h0_3_0_e3_0k h0_3_0_e3_0c h0_3_0_e3_2 h0_3_0_e3_2k j51_h0_3_0_e3_2c)) hP hD [23, 24] [0, 1, 2, 3, 4, 5, 6, 7, 8, 9, 10, 11, 12, 13, 14, 15, 16, 17, 18, 19, 20, 21, 22, 45, 46, 25, 26, 27, 28, 29, 30, 31, 32, 33, 34, 35, 36, 37, 38, 39, 40, 41, 42, 43, 44] 45 rfl hqc (by decide +kernel) rfl hk1 hFc hP1 hD1
              generalize H1 = H at hP hS ⊢
              as_aux_lemma =>
              have h_111 := hw
              exact hU _ _ _ (J124 j51_l5 j51_h0_8_f2 j51_h0_8_4c j51_h0_8_5c j51_h0_8_6c j51_h0_8_7c j51_h0_8_8c j51_h0_8_9c j51_h0_8_10c j51_h0_8_11c j51_h0_8_12c j51_h0_6_4c j51_h0_6_2c j51_h0_6_3c j51_h0_3_3c j51_h0_3_0_e0_2c j51_h0_3_0_e1_2c j51_h0_3_0_e2_2c j51_h0_3_0_e3_2c g_h0_1_f1 g_h0_1_f2 g_h0_1_f3 g_h0_3_0_e0_f1 g_h0_3_0_e1_f1 g_h0_3_0_e2_f1 g_h0_3_0_e3_f1 g_h0_3_f1 g_h0_7_f2 g_h0_7_f3 g_h0_f5 g_9 g_p1 g_p2 g_10 a_j51_h0_6_3c _ _ _ hP hD hS (lv_sub hl [0, 1, 2, 3, 4] rfl))
            · have g_112 : RG y_11 3 3 := RG_eq1 h_47 (RG_k 3 3 rfl) c_108 (by decide +kernel)
              refine lv_aload_n hx hb dX11_run_99 rfl (lv_at hl 3 rfl) ?_
              refine lv_aload_n hx hb dX11_run_100 rfl (lv_at hl 2 rfl) ?_
              refine lv_iload hx hb dX11_run_101 (lv_at hl 1 rfl) ?_
              refine lv_iconst (v := 1) hx hb dX11_run_103 kc_iconst_1 ?_
              obtain ⟨hPc, hDc, hFc, hqc⟩ := cl_cut (wc := (wd_c_X6_part z z_0 z_f1 z_0 z_0k z_0c)) hP hD hS hA [23, 24] (by decide +kernel) rfl
              have hKc := hK.sub (tys' := [(z_0k, .int)]) [19] rfl
              have hrv := va_recv hKc hPc (ci := 6) (q0 := 0) rfl rfl
              refine va_calli (va_runV (As := [.int j51_l4, .int 1]) (rest := [.ref h0]) ⟨hx, hb, hml, hown, hts⟩ (c_X6_part l dC dI H.size z j51_l4 1 z_0 z_f1 z_0k z_0c g_9 (RG_w (RG_k 1 1 rfl) (by decide +kernel)) (RG_w g_10 (by decide +kernel)) a_z_0c) (cwV 2 hts gf_c_X11_run_c_X6_part rfl rfl rfl mdV_X6_part ⟨Nat.le_of_ble_eq_true rfl, Nat.le_of_ble_eq_true rfl⟩) ⟨fun a U g mk q => by obtain ⟨q0, q1, qP, qK, qD⟩ := q; exact ⟨q0, q1, qP, va_K.moved (u := U) (U := U.calling g mk a) (Vm.Alike.refl U.vm) qK, qD⟩, hrv, fun U hU hW => ⟨rfl, by rw [hU], by rw [hU]; exact hPc, va_K.moved hW.alike hKc, hDc.weaken (fun _ _ _ _ => trivial)⟩⟩ rfl rfl hl.1 rfl (lv_room (Nat.le_of_ble_eq_true rfl)) dX11_run_104 ⟨Nat.le_of_ble_eq_true rfl, Nat.le_of_ble_eq_true rfl⟩) hS (fun q _ h => hFc q h) hFc (fun r_113 u t H1 locs ht hvm hw hB hz1 hk1 hS => ?_)
              obtain ⟨hP1, hK1, hD1⟩ := hB
              rw [ht] at hP1
              obtain ⟨hP, hD⟩ := cl_put (w1 := (wd_c_X6_part z z_0 z_f1 z_0 z_0k z_0c)) (nw := (wd_c_X11_run h0 h0_0 h0_1 h0_2 h0_3 h0_4 h0_f5 h0_6 h0_7 h0_8 h0_9 h0_10 h0_11 h0_12 h0_13 h0_14 h0_f15 h0_1 h0_1_0 h0_1_f1 h0_1_f2 h0_1_f3 h0_4 h0_4k h0_4c h0_7 h0_7_f0 h0_7_f1 h0_7_f2 h0_7_f3 h0_7_4 h0_7_5 h0_7_6 h0_7_7 h0_7_8 h0_7_9 h0_7_10 h0_7_11 h0_7_12 h0_8 h0_7_f0 h0_7_f1 j51_h0_8_f2 h0_7_f3 h0_8_4 h0_8_5 h0_8_6 h0_8_7 h0_8_8 h0_8_9 h0_8_10 h0_8_11 h0_8_12 h0_7_4 h0_7_4k h0_7_4c h0_8_4 h0_8_4k j51_h0_8_4c h0_7_5 h0_7_5k h0_7_5c h0_8_5 h0_8_5k j51_h0_8_5c h0_7_6 h0_7_6k h0_7_6c h0_8_6 h0_8_6k j51_h0_8_6c h0_7_7 h0_7_7k h0_7_7c h0_8_7 h0_8_7k j51_h0_8_7c h0_7_8 h0_7_8k h0_7_8c h0_8_8 h0_8_8k j51_h0_8_8c h0_7_9 h0_7_9k h0_7_9c h0_8_9 h0_8_9k j51_h0_8_9c h0_7_10 h0_7_10k h0_7_10c h0_8_10 h0_8_10k j51_h0_8_10c h0_7_11 h0_7_11k h0_7_11c h0_8_11 h0_8_11k j51_h0_8_11c h0_7_12 h0_7_12k h0_7_12c h0_8_12 h0_8_12k j51_h0_8_12c z z_0 z_f1 z_0 z_0k z_0c h0_1_0 h0_1_0k h0_1_0c h0_6 h0_1 h0_3 h0_6_2 h0_6_3 h0_6_4 h0_6_5 h0_6_4 h0_6_4k j51_h0_6_4c h0_6_2 h0_6_2k j51_h0_6_2c h0_6_3 h0_6_3k j51_h0_6_3c h0_3 h0_3_0 h0_3_f1 h0_3_f2 h0_3_3 h0_3_3 h0_3_3k j51_h0_3_3c h0_3_0 h0_3_0k h0_3_0c h0_3_0_e0 h0_3_0_e0_0 h0_3_0_e0_f1 h0_3_0_e0_2 h0_3_0_e0_0 h0_3_0_e0_0k h0_3_0_e0_0c h0_3_0_e0_2 h0_3_0_e0_2k j51_h0_3_0_e0_2c h0_3_0_e1 h0_3_0_e1_0 h0_3_0_e1_f1 h0_3_0_e1_2 h0_3_0_e1_0 h0_3_0_e1_0k h0_3_0_e1_0c h0_3_0_e1_2 h0_3_0_e1_2k j51_h0_3_0_e1_2c h0_3_0_e2 h0_3_0_e2_0 h0_3_0_e2_f1 h0_3_0_e2_2 h0_3_0_e2_0 h0_3_0_e2_0k h0_3_0_e2_0c h0_3_0_e2_2 h0_3_0_e2_2k j51_h0_3_0_e2_2c h0_3_0_e3 h0_3_0_e3_0 h0_3_0_e3_f1 h0_3_0_e3_2 h0_3_0_e3_0 h0_3_0_e3_0k h0_3_0_e3_0c h0_3_0_e3_2 h0_3_0_e3_2k j51_h0_3_0_e3_2c)) hP hD [23, 24] [0, 1, 2, 3, 4, 5, 6, 7, 8, 9, 10, 11, 12, 13, 14, 15, 16, 17, 18, 19, 20, 21, 22, 45, 46, 25, 26, 27, 28, 29, 30, 31, 32, 33, 34, 35, 36, 37, 38, 39, 40, 41, 42, 43, 44] 45 rfl hqc (by decide +kernel) rfl hk1 hFc hP1 hD1
              generalize H1 = H at hP hS ⊢
              as_aux_lemma =>
              rcases hw with ⟨h_114, h_115⟩
              obtain rfl : y_14 = r_113 := (h_115.trans v_15.symm).symm
              obtain ⟨hPc, hDc, hFc, hqc⟩ := cl_cut (wc := (wd_c_X11_passApart h0 h0_0 h0_1 h0_2 h0_3 h0_4 h0_f5 h0_6 h0_7 h0_8 h0_9 h0_10 h0_11 h0_12 h0_13 h0_14 h0_f15 h0_6 h0_1 h0_3 h0_6_2 h0_6_3 h0_6_4 h0_6_5 h0_1 h0_1_0 h0_1_f1 h0_1_f2 h0_1_f3 h0_8 h0_7_f0 h0_7_f1 j51_h0_8_f2 h0_7_f3 h0_8_4 h0_8_5 h0_8_6 h0_8_7 h0_8_8 h0_8_9 h0_8_10 h0_8_11 h0_8_12 h0_6_4 h0_6_4k j51_h0_6_4c h0_1_0 h0_1_0k h0_1_0c h0_6_2 h0_6_2k j51_h0_6_2c h0_6_3 h0_6_3k j51_h0_6_3c h0_8_10 h0_8_10k j51_h0_8_10c h0_8_11 h0_8_11k j51_h0_8_11c h0_8_12 h0_8_12k j51_h0_8_12c h0_8_4 h0_8_4k j51_h0_8_4c h0_8_5 h0_8_5k j51_h0_8_5c h0_3 h0_3_0 h0_3_f1 h0_3_f2 h0_3_3 h0_3_3 h0_3_3k j51_h0_3_3c h0_3_0 h0_3_0k h0_3_0c h0_3_0_e0 h0_3_0_e0_0 h0_3_0_e0_f1 h0_3_0_e0_2 h0_3_0_e0_0 h0_3_0_e0_0k h0_3_0_e0_0c h0_3_0_e0_2 h0_3_0_e0_2k j51_h0_3_0_e0_2c h0_3_0_e1 h0_3_0_e1_0 h0_3_0_e1_f1 h0_3_0_e1_2 h0_3_0_e1_0 h0_3_0_e1_0k h0_3_0_e1_0c h0_3_0_e1_2 h0_3_0_e1_2k j51_h0_3_0_e1_2c h0_3_0_e2 h0_3_0_e2_0 h0_3_0_e2_f1 h0_3_0_e2_2 h0_3_0_e2_0 h0_3_0_e2_0k h0_3_0_e2_0c h0_3_0_e2_2 h0_3_0_e2_2k j51_h0_3_0_e2_2c h0_3_0_e3 h0_3_0_e3_0 h0_3_0_e3_f1 h0_3_0_e3_2 h0_3_0_e3_0 h0_3_0_e3_0k h0_3_0_e3_0c h0_3_0_e3_2 h0_3_0_e3_2k j51_h0_3_0_e3_2c h0_8_8 h0_8_8k j51_h0_8_8c h0_8_6 h0_8_6k j51_h0_8_6c h0_8_7 h0_8_7k j51_h0_8_7c)) hP hD hS hA [0, 26, 1, 4, 27, 25, 28, 29, 18, 20, 22, 6, 8, 30, 31, 32, 33, 34, 35, 36, 37, 38, 39, 40, 41, 42, 43, 44, 14, 10, 12] (by decide +kernel) rfl
              have hKc := hK.sub (tys' := [(h0_6_4k, .int), (h0_1_0k, .int), (h0_6_2k, .int), (h0_6_3k, .int), (h0_8_10k, .int), (h0_8_11k, .int), (h0_8_12k, .int), (h0_8_4k, .int), (h0_8_5k, .int), (h0_3_3k, .int), (h0_3_0k, .object RX4), (h0_3_0_e0_0k, .int), (h0_3_0_e0_2k, .int), (h0_3_0_e1_0k, .int), (h0_3_0_e1_2k, .int), (h0_3_0_e2_0k, .int), (h0_3_0_e2_2k, .int), (h0_3_0_e3_0k, .int), (h0_3_0_e3_2k, .int), (h0_8_8k, .int), (h0_8_6k, .int), (h0_8_7k, .int)]) [21, 20, 22, 23, 14, 16, 18, 2, 4, 24, 25, 26, 27, 28, 29, 30, 31, 32, 33, 10, 6, 8] rfl
              have hrv := va_recv hKc hPc (ci := 11) (q0 := 0) rfl rfl
              refine va_callv (va_runV (As := [.int y_14]) (rest := []) ⟨hx, hb, hml, hown, hts⟩ (c_X11_passApart l dC dI H.size h0 y_14 h0_0 h0_1 h0_2 h0_3 h0_4 h0_f5 h0_6 h0_7 h0_8 h0_9 h0_10 h0_11 h0_12 h0_13 h0_14 h0_f15 h0_6_2 h0_6_3 h0_6_4 h0_6_5 h0_1_0 h0_1_f1 h0_1_f2 h0_1_f3 h0_7_f0 h0_7_f1 j51_h0_8_f2 h0_7_f3 h0_8_4 h0_8_5 h0_8_6 h0_8_7 h0_8_8 h0_8_9 h0_8_10 h0_8_11 h0_8_12 h0_6_4k j51_h0_6_4c h0_1_0k h0_1_0c h0_6_2k j51_h0_6_2c h0_6_3k j51_h0_6_3c h0_8_10k j51_h0_8_10c h0_8_11k j51_h0_8_11c h0_8_12k j51_h0_8_12c h0_8_4k j51_h0_8_4c h0_8_5k j51_h0_8_5c h0_3_0 h0_3_f1 h0_3_f2 h0_3_3 h0_3_3k j51_h0_3_3c h0_3_0k h0_3_0c h0_3_0_e0 h0_3_0_e1 h0_3_0_e2 h0_3_0_e3 h0_3_0_e4 h0_3_0_e0_0 h0_3_0_e0_f1 h0_3_0_e0_2 h0_3_0_e0_0k h0_3_0_e0_0c h0_3_0_e0_2k j51_h0_3_0_e0_2c h0_3_0_e1_0 h0_3_0_e1_f1 h0_3_0_e1_2 h0_3_0_e1_0k h0_3_0_e1_0c h0_3_0_e1_2k j51_h0_3_0_e1_2c h0_3_0_e2_0 h0_3_0_e2_f1 h0_3_0_e2_2 h0_3_0_e2_0k h0_3_0_e2_0c h0_3_0_e2_2k j51_h0_3_0_e2_2c h0_3_0_e3_0 h0_3_0_e3_f1 h0_3_0_e3_2 h0_3_0_e3_0k h0_3_0_e3_0c h0_3_0_e3_2k j51_h0_3_0_e3_2c h0_8_8k j51_h0_8_8c h0_8_6k j51_h0_8_6c h0_8_7k j51_h0_8_7c (RG_w h_48 (by decide +kernel)) (RG_w g_h0_f5 (by decide +kernel)) (RG_w g_h0_1_f1 (by decide +kernel)) g_h0_1_f2 g_h0_1_f3 a_h0_1_0c a_j51_h0_6_3c g_h0_3_f1 e_h0_3_0_e0 e_h0_3_0_e1 e_h0_3_0_e2 e_h0_3_0_e3 e_h0_3_0_e4 g_h0_3_0_e0_f1 g_h0_3_0_e1_f1 g_h0_3_0_e2_f1 g_h0_3_0_e3_f1) (cwV 1 hts gf_c_X11_run_c_X11_passApart rfl rfl rfl mdV_X11_passApart ⟨Nat.le_of_ble_eq_true rfl, Nat.le_of_ble_eq_true rfl⟩) ⟨fun a U g mk q => by obtain ⟨q0, q1, qP, qK, qD⟩ := q; exact ⟨q0, q1, qP, va_K.moved (u := U) (U := U.calling g mk a) (Vm.Alike.refl U.vm) qK, qD⟩, hrv, fun U hU hW => ⟨rfl, by rw [hU], by rw [hU]; exact hPc, va_K.moved hW.alike hKc, hDc.weaken (fun _ _ _ _ => trivial)⟩⟩ rfl rfl hl.1 rfl (lv_room (Nat.le_of_ble_eq_true rfl)) dX11_run_107 ⟨Nat.le_of_ble_eq_true rfl, Nat.le_of_ble_eq_true rfl⟩) hS (fun q _ h => hFc q h) hFc (fun u t H1 locs ht hvm hw hB hz1 hk1 hS => ?_)
              obtain ⟨x_117, w_118, w_119, w_120, w_121, w_122, w_123, w_124, w_125, w_126, w_127, w_128, w_129, w_130⟩ := u
              obtain ⟨hP1, hK1, hD1⟩ := hB
              rw [ht] at hP1
              obtain ⟨hP, hD⟩ := cl_put (w1 := (wd_c_X11_passApart h0 h0_0 h0_1 h0_2 h0_3 h0_4 h0_f5 h0_6 h0_7 h0_8 h0_9 h0_10 h0_11 h0_12 h0_13 h0_14 h0_f15 h0_6 h0_1 h0_3 h0_6_2 h0_6_3 h0_6_4 h0_6_5 h0_1 h0_1_0 h0_1_f1 h0_1_f2 h0_1_f3 h0_8 h0_7_f0 h0_7_f1 x_117 h0_7_f3 h0_8_4 h0_8_5 h0_8_6 h0_8_7 h0_8_8 h0_8_9 h0_8_10 h0_8_11 h0_8_12 h0_6_4 h0_6_4k w_118 h0_1_0 h0_1_0k h0_1_0c h0_6_2 h0_6_2k w_119 h0_6_3 h0_6_3k w_120 h0_8_10 h0_8_10k j51_h0_8_10c h0_8_11 h0_8_11k w_121 h0_8_12 h0_8_12k w_122 h0_8_4 h0_8_4k w_123 h0_8_5 h0_8_5k w_124 h0_3 h0_3_0 h0_3_f1 h0_3_f2 h0_3_3 h0_3_3 h0_3_3k w_125 h0_3_0 h0_3_0k h0_3_0c h0_3_0_e0 h0_3_0_e0_0 h0_3_0_e0_f1 h0_3_0_e0_2 h0_3_0_e0_0 h0_3_0_e0_0k h0_3_0_e0_0c h0_3_0_e0_2 h0_3_0_e0_2k w_126 h0_3_0_e1 h0_3_0_e1_0 h0_3_0_e1_f1 h0_3_0_e1_2 h0_3_0_e1_0 h0_3_0_e1_0k h0_3_0_e1_0c h0_3_0_e1_2 h0_3_0_e1_2k w_127 h0_3_0_e2 h0_3_0_e2_0 h0_3_0_e2_f1 h0_3_0_e2_2 h0_3_0_e2_0 h0_3_0_e2_0k h0_3_0_e2_0c h0_3_0_e2_2 h0_3_0_e2_2k w_128 h0_3_0_e3 h0_3_0_e3_0 h0_3_0_e3_f1 h0_3_0_e3_2 h0_3_0_e3_0 h0_3_0_e3_0k h0_3_0_e3_0c h0_3_0_e3_2 h0_3_0_e3_2k w_129 h0_8_8 h0_8_8k w_130 h0_8_6 h0_8_6k j51_h0_8_6c h0_8_7 h0_8_7k j51_h0_8_7c)) (nw := (wd_c_X11_run h0 h0_0 h0_1 h0_2 h0_3 h0_4 h0_f5 h0_6 h0_7 h0_8 h0_9 h0_10 h0_11 h0_12 h0_13 h0_14 h0_f15 h0_1 h0_1_0 h0_1_f1 h0_1_f2 h0_1_f3 h0_4 h0_4k h0_4c h0_7 h0_7_f0 h0_7_f1 h0_7_f2 h0_7_f3 h0_7_4 h0_7_5 h0_7_6 h0_7_7 h0_7_8 h0_7_9 h0_7_10 h0_7_11 h0_7_12 h0_8 h0_7_f0 h0_7_f1 x_117 h0_7_f3 h0_8_4 h0_8_5 h0_8_6 h0_8_7 h0_8_8 h0_8_9 h0_8_10 h0_8_11 h0_8_12 h0_7_4 h0_7_4k h0_7_4c h0_8_4 h0_8_4k w_123 h0_7_5 h0_7_5k h0_7_5c h0_8_5 h0_8_5k w_124 h0_7_6 h0_7_6k h0_7_6c h0_8_6 h0_8_6k j51_h0_8_6c h0_7_7 h0_7_7k h0_7_7c h0_8_7 h0_8_7k j51_h0_8_7c h0_7_8 h0_7_8k h0_7_8c h0_8_8 h0_8_8k w_130 h0_7_9 h0_7_9k h0_7_9c h0_8_9 h0_8_9k j51_h0_8_9c h0_7_10 h0_7_10k h0_7_10c h0_8_10 h0_8_10k j51_h0_8_10c h0_7_11 h0_7_11k h0_7_11c h0_8_11 h0_8_11k w_121 h0_7_12 h0_7_12k h0_7_12c h0_8_12 h0_8_12k w_122 z z_0 z_f1 z_0 z_0k z_0c h0_1_0 h0_1_0k h0_1_0c h0_6 h0_1 h0_3 h0_6_2 h0_6_3 h0_6_4 h0_6_5 h0_6_4 h0_6_4k w_118 h0_6_2 h0_6_2k w_119 h0_6_3 h0_6_3k w_120 h0_3 h0_3_0 h0_3_f1 h0_3_f2 h0_3_3 h0_3_3 h0_3_3k w_125 h0_3_0 h0_3_0k h0_3_0c h0_3_0_e0 h0_3_0_e0_0 h0_3_0_e0_f1 h0_3_0_e0_2 h0_3_0_e0_0 h0_3_0_e0_0k h0_3_0_e0_0c h0_3_0_e0_2 h0_3_0_e0_2k w_126 h0_3_0_e1 h0_3_0_e1_0 h0_3_0_e1_f1 h0_3_0_e1_2 h0_3_0_e1_0 h0_3_0_e1_0k h0_3_0_e1_0c h0_3_0_e1_2 h0_3_0_e1_2k w_127 h0_3_0_e2 h0_3_0_e2_0 h0_3_0_e2_f1 h0_3_0_e2_2 h0_3_0_e2_0 h0_3_0_e2_0k h0_3_0_e2_0c h0_3_0_e2_2 h0_3_0_e2_2k w_128 h0_3_0_e3 h0_3_0_e3_0 h0_3_0_e3_f1 h0_3_0_e3_2 h0_3_0_e3_0 h0_3_0_e3_0k h0_3_0_e3_0c h0_3_0_e3_2 h0_3_0_e3_2k w_129)) hP hD [0, 26, 1, 4, 27, 25, 28, 29, 18, 20, 22, 6, 8, 30, 31, 32, 33, 34, 35, 36, 37, 38, 39, 40, 41, 42, 43, 44, 14, 10, 12] [45, 47, 2, 3, 48, 5, 56, 7, 57, 9, 74, 11, 75, 13, 73, 15, 16, 17, 53, 19, 54, 21, 55, 23, 24, 50, 46, 49, 51, 52, 58, 59, 60, 61, 62, 63, 64, 65, 66, 67, 68, 69, 70, 71, 72] 45 rfl hqc (by decide +kernel) rfl hk1 hFc hP1 hD1
              generalize H1 = H at hP hS ⊢
              as_aux_lemma =>
              have h_131 := hw
              refine lv_goto (tgt := 124) hx hb dX11_run_110 rfl ?_
              exact hU _ _ _ (J124 j51_l5 x_117 w_123 w_124 j51_h0_8_6c j51_h0_8_7c w_130 j51_h0_8_9c j51_h0_8_10c w_121 w_122 w_118 w_119 w_120 w_125 w_126 w_127 w_128 w_129 g_h0_1_f1 g_h0_1_f2 g_h0_1_f3 g_h0_3_0_e0_f1 g_h0_3_0_e1_f1 g_h0_3_0_e2_f1 g_h0_3_0_e3_f1 g_h0_3_f1 g_h0_7_f2 g_h0_7_f3 g_h0_f5 g_9 g_p1 g_p2 g_10 h_131 _ _ _ hP hD hS (lv_sub hl [0, 1, 2, 3, 4] rfl))
          · exact RG_dead (RG_eq1 h_47 (RG_k 1 1 rfl) c_104 (a' := 3) (b' := 1) (by decide +kernel)) (by decide +kernel)
  refine hG _ _ _ ?_
  refine lv_aload_n hx hb dX11_run_0 rfl (lv_at hl 0 rfl) ?_
  refine lv_iload_n hx hb dX11_run_1 rfl (lv_at hl 1 rfl) ?_
  obtain ⟨hPc, hDc, hFc, hqc⟩ := cl_cut (wc := (wd_c_X11_isPlan h0 h0_0 h0_1 h0_2 h0_3 h0_4 h0_f5 h0_6 h0_7 h0_8 h0_9 h0_10 h0_11 h0_12 h0_13 h0_14 h0_f15)) hP hD hS hA [0] (by decide +kernel) rfl
  have hKc := hK.sub (tys' := []) [] rfl
  have hrv := va_recv hKc hPc (ci := 11) (q0 := 0) rfl rfl
  refine va_calli (va_runV (As := [.int p1]) (rest := []) ⟨hx, hb, hml, hown, hts⟩ (c_X11_isPlan l dC dI H.size h0 p1 h0_0 h0_1 h0_2 h0_3 h0_4 h0_f5 h0_6 h0_7 h0_8 h0_9 h0_10 h0_11 h0_12 h0_13 h0_14 h0_f15 g_h0_f5) (cwV 1 hts gf_c_X11_run_c_X11_isPlan rfl rfl rfl mdV_X11_isPlan ⟨Nat.le_of_ble_eq_true rfl, Nat.le_of_ble_eq_true rfl⟩) ⟨fun a U g mk q => by obtain ⟨q0, q1, qP, qK, qD⟩ := q; exact ⟨q0, q1, qP, va_K.moved (u := U) (U := U.calling g mk a) (Vm.Alike.refl U.vm) qK, qD⟩, hrv, fun U hU hW => ⟨rfl, by rw [hU], by rw [hU]; exact hPc, va_K.moved hW.alike hKc, hDc.weaken (fun _ _ _ _ => trivial)⟩⟩ rfl rfl hl.1 rfl (lv_room (Nat.le_of_ble_eq_true rfl)) dX11_run_2 ⟨Nat.le_of_ble_eq_true rfl, Nat.le_of_ble_eq_true rfl⟩) hS (fun q _ h => hFc q h) hFc (fun r_132 u t H1 locs ht hvm hw hB hz1 hk1 hS => ?_)
  obtain ⟨hP1, hK1, hD1⟩ := hB
  rw [ht] at hP1
  obtain ⟨hP, hD⟩ := cl_put (w1 := (wd_c_X11_isPlan h0 h0_0 h0_1 h0_2 h0_3 h0_4 h0_f5 h0_6 h0_7 h0_8 h0_9 h0_10 h0_11 h0_12 h0_13 h0_14 h0_f15)) (nw := (wd_c_X11_run h0 h0_0 h0_1 h0_2 h0_3 h0_4 h0_f5 h0_6 h0_7 h0_8 h0_9 h0_10 h0_11 h0_12 h0_13 h0_14 h0_f15 h0_1 h0_1_0 h0_1_f1 h0_1_f2 h0_1_f3 h0_4 h0_4k h0_4c h0_7 h0_7_f0 h0_7_f1 h0_7_f2 h0_7_f3 h0_7_4 h0_7_5 h0_7_6 h0_7_7 h0_7_8 h0_7_9 h0_7_10 h0_7_11 h0_7_12 h0_8 h0_8_f0 h0_8_f1 h0_8_f2 h0_8_f3 h0_8_4 h0_8_5 h0_8_6 h0_8_7 h0_8_8 h0_8_9 h0_8_10 h0_8_11 h0_8_12 h0_7_4 h0_7_4k h0_7_4c h0_8_4 h0_8_4k h0_8_4c h0_7_5 h0_7_5k h0_7_5c h0_8_5 h0_8_5k h0_8_5c h0_7_6 h0_7_6k h0_7_6c h0_8_6 h0_8_6k h0_8_6c h0_7_7 h0_7_7k h0_7_7c h0_8_7 h0_8_7k h0_8_7c h0_7_8 h0_7_8k h0_7_8c h0_8_8 h0_8_8k h0_8_8c h0_7_9 h0_7_9k h0_7_9c h0_8_9 h0_8_9k h0_8_9c h0_7_10 h0_7_10k h0_7_10c h0_8_10 h0_8_10k h0_8_10c h0_7_11 h0_7_11k h0_7_11c h0_8_11 h0_8_11k h0_8_11c h0_7_12 h0_7_12k h0_7_12c h0_8_12 h0_8_12k h0_8_12c z z_0 z_f1 z_0 z_0k z_0c h0_1_0 h0_1_0k h0_1_0c h0_6 h0_1 h0_3 h0_6_2 h0_6_3 h0_6_4 h0_6_5 h0_6_4 h0_6_4k h0_6_4c h0_6_2 h0_6_2k h0_6_2c h0_6_3 h0_6_3k h0_6_3c h0_3 h0_3_0 h0_3_f1 h0_3_f2 h0_3_3 h0_3_3 h0_3_3k h0_3_3c h0_3_0 h0_3_0k h0_3_0c h0_3_0_e0 h0_3_0_e0_0 h0_3_0_e0_f1 h0_3_0_e0_2 h0_3_0_e0_0 h0_3_0_e0_0k h0_3_0_e0_0c h0_3_0_e0_2 h0_3_0_e0_2k h0_3_0_e0_2c h0_3_0_e1 h0_3_0_e1_0 h0_3_0_e1_f1 h0_3_0_e1_2 h0_3_0_e1_0 h0_3_0_e1_0k h0_3_0_e1_0c h0_3_0_e1_2 h0_3_0_e1_2k h0_3_0_e1_2c h0_3_0_e2 h0_3_0_e2_0 h0_3_0_e2_f1 h0_3_0_e2_2 h0_3_0_e2_0 h0_3_0_e2_0k h0_3_0_e2_0c h0_3_0_e2_2 h0_3_0_e2_2k h0_3_0_e2_2c h0_3_0_e3 h0_3_0_e3_0 h0_3_0_e3_f1 h0_3_0_e3_2 h0_3_0_e3_0 h0_3_0_e3_0k h0_3_0_e3_0c h0_3_0_e3_2 h0_3_0_e3_2k h0_3_0_e3_2c)) hP hD [0] [45, 1, 2, 3, 4, 5, 6, 7, 8, 9, 10, 11, 12, 13, 14, 15, 16, 17, 18, 19, 20, 21, 22, 23, 24, 25, 26, 27, 28, 29, 30, 31, 32, 33, 34, 35, 36, 37, 38, 39, 40, 41, 42, 43, 44] 45 rfl hqc (by decide +kernel) rfl hk1 hFc hP1 hD1
  generalize H1 = H at hP hS ⊢
  as_aux_lemma =>
  rcases hw with ⟨h_133, h_134⟩ | ⟨h_135, h_136, h_137⟩
  · rw [h_133]
    refine lv_if_eq (tgt := 24) hx hb dX11_run_5 rfl (fun c_138 => ?_) (fun c_138 => absurd c_138 (by decide +kernel))
    refine lv_ldc hx hb hown (hts (.constant RX11 228 (-1000000)) (List.mem_of_getElem? (i := 7) rfl)) dX11_run_24 ?_
    have hK9 := hK.sub (tys' := []) [] rfl
    exact W.iret (v := (-1000000)) hx hb hr (fun t ht hW => ⟨⟨(-1000000), (h0_8_f0, h0_8_f1, h0_8_f2, h0_8_f3, h0_8_4c, h0_8_5c, h0_8_6c, h0_8_7c, h0_8_8c, h0_8_9c, h0_8_10c, h0_8_11c, h0_8_12c, h0_6_4c, h0_6_2c, h0_6_3c, h0_3_3c, h0_3_0_e0_2c, h0_3_0_e1_2c, h0_3_0_e2_2c, h0_3_0_e3_2c), rfl, (Or.inl ⟨rfl, a_h0_6_3c⟩), by rw [ht]; exact hP, va_K.moved hW.alike hK9, hD⟩, hS.F ht⟩) hS.2.2 dX11_run_26
  · rw [h_135]
    refine lv_if_eq (tgt := 24) hx hb dX11_run_5 rfl (fun c_139 => absurd c_139 (by decide +kernel)) (fun c_139 => ?_)
    refine lv_aload_n hx hb dX11_run_8 rfl (lv_at hl 0 rfl) ?_
    obtain ⟨hPc, hDc, hFc, hqc⟩ := cl_cut (wc := (wd_c_X11_hasBorough h0 h0_0 h0_1 h0_2 h0_3 h0_4 h0_f5 h0_6 h0_7 h0_8 h0_9 h0_10 h0_11 h0_12 h0_13 h0_14 h0_f15 h0_1 h0_1_0 h0_1_f1 h0_1_f2 h0_1_f3)) hP hD hS hA [0, 1] (by decide +kernel) rfl
    have hKc := hK.sub (tys' := []) [] rfl
    have hrv := va_recv hKc hPc (ci := 11) (q0 := 0) rfl rfl
    refine va_calli (va_runV (As := []) (rest := []) ⟨hx, hb, hml, hown, hts⟩ (c_X11_hasBorough l dC dI H.size h0 h0_0 h0_1 h0_2 h0_3 h0_4 h0_f5 h0_6 h0_7 h0_8 h0_9 h0_10 h0_11 h0_12 h0_13 h0_14 h0_f15 h0_1_0 h0_1_f1 h0_1_f2 h0_1_f3 (RG_w h_136 (by decide +kernel)) g_h0_1_f1 g_h0_1_f2 g_h0_1_f3) (cwV 0 hts gf_c_X11_run_c_X11_hasBorough rfl rfl rfl mdV_X11_hasBorough ⟨Nat.le_of_ble_eq_true rfl, Nat.le_of_ble_eq_true rfl⟩) ⟨fun a U g mk q => by obtain ⟨q0, q1, qP, qK, qD⟩ := q; exact ⟨q0, q1, qP, va_K.moved (u := U) (U := U.calling g mk a) (Vm.Alike.refl U.vm) qK, qD⟩, hrv, fun U hU hW => ⟨rfl, by rw [hU], by rw [hU]; exact hPc, va_K.moved hW.alike hKc, hDc.weaken (fun _ _ _ _ => trivial)⟩⟩ rfl rfl hl.1 rfl (lv_room (Nat.le_of_ble_eq_true rfl)) dX11_run_9 ⟨Nat.le_of_ble_eq_true rfl, Nat.le_of_ble_eq_true rfl⟩) hS (fun q _ h => hFc q h) hFc (fun r_140 u t H1 locs ht hvm hw hB hz1 hk1 hS => ?_)
    obtain ⟨hP1, hK1, hD1⟩ := hB
    rw [ht] at hP1
    obtain ⟨hP, hD⟩ := cl_put (w1 := (wd_c_X11_hasBorough h0 h0_0 h0_1 h0_2 h0_3 h0_4 h0_f5 h0_6 h0_7 h0_8 h0_9 h0_10 h0_11 h0_12 h0_13 h0_14 h0_f15 h0_1 h0_1_0 h0_1_f1 h0_1_f2 h0_1_f3)) (nw := (wd_c_X11_run h0 h0_0 h0_1 h0_2 h0_3 h0_4 h0_f5 h0_6 h0_7 h0_8 h0_9 h0_10 h0_11 h0_12 h0_13 h0_14 h0_f15 h0_1 h0_1_0 h0_1_f1 h0_1_f2 h0_1_f3 h0_4 h0_4k h0_4c h0_7 h0_7_f0 h0_7_f1 h0_7_f2 h0_7_f3 h0_7_4 h0_7_5 h0_7_6 h0_7_7 h0_7_8 h0_7_9 h0_7_10 h0_7_11 h0_7_12 h0_8 h0_8_f0 h0_8_f1 h0_8_f2 h0_8_f3 h0_8_4 h0_8_5 h0_8_6 h0_8_7 h0_8_8 h0_8_9 h0_8_10 h0_8_11 h0_8_12 h0_7_4 h0_7_4k h0_7_4c h0_8_4 h0_8_4k h0_8_4c h0_7_5 h0_7_5k h0_7_5c h0_8_5 h0_8_5k h0_8_5c h0_7_6 h0_7_6k h0_7_6c h0_8_6 h0_8_6k h0_8_6c h0_7_7 h0_7_7k h0_7_7c h0_8_7 h0_8_7k h0_8_7c h0_7_8 h0_7_8k h0_7_8c h0_8_8 h0_8_8k h0_8_8c h0_7_9 h0_7_9k h0_7_9c h0_8_9 h0_8_9k h0_8_9c h0_7_10 h0_7_10k h0_7_10c h0_8_10 h0_8_10k h0_8_10c h0_7_11 h0_7_11k h0_7_11c h0_8_11 h0_8_11k h0_8_11c h0_7_12 h0_7_12k h0_7_12c h0_8_12 h0_8_12k h0_8_12c z z_0 z_f1 z_0 z_0k z_0c h0_1_0 h0_1_0k h0_1_0c h0_6 h0_1 h0_3 h0_6_2 h0_6_3 h0_6_4 h0_6_5 h0_6_4 h0_6_4k h0_6_4c h0_6_2 h0_6_2k h0_6_2c h0_6_3 h0_6_3k h0_6_3c h0_3 h0_3_0 h0_3_f1 h0_3_f2 h0_3_3 h0_3_3 h0_3_3k h0_3_3c h0_3_0 h0_3_0k h0_3_0c h0_3_0_e0 h0_3_0_e0_0 h0_3_0_e0_f1 h0_3_0_e0_2 h0_3_0_e0_0 h0_3_0_e0_0k h0_3_0_e0_0c h0_3_0_e0_2 h0_3_0_e0_2k h0_3_0_e0_2c h0_3_0_e1 h0_3_0_e1_0 h0_3_0_e1_f1 h0_3_0_e1_2 h0_3_0_e1_0 h0_3_0_e1_0k h0_3_0_e1_0c h0_3_0_e1_2 h0_3_0_e1_2k h0_3_0_e1_2c h0_3_0_e2 h0_3_0_e2_0 h0_3_0_e2_f1 h0_3_0_e2_2 h0_3_0_e2_0 h0_3_0_e2_0k h0_3_0_e2_0c h0_3_0_e2_2 h0_3_0_e2_2k h0_3_0_e2_2c h0_3_0_e3 h0_3_0_e3_0 h0_3_0_e3_f1 h0_3_0_e3_2 h0_3_0_e3_0 h0_3_0_e3_0k h0_3_0_e3_0c h0_3_0_e3_2 h0_3_0_e3_2k h0_3_0_e3_2c)) hP hD [0, 1] [45, 46, 2, 3, 4, 5, 6, 7, 8, 9, 10, 11, 12, 13, 14, 15, 16, 17, 18, 19, 20, 21, 22, 23, 24, 25, 26, 27, 28, 29, 30, 31, 32, 33, 34, 35, 36, 37, 38, 39, 40, 41, 42, 43, 44] 45 rfl hqc (by decide +kernel) rfl hk1 hFc hP1 hD1
    generalize H1 = H at hP hS ⊢
    as_aux_lemma =>
    rcases hw with ⟨h_141, h_142⟩ | ⟨h_143, h_144⟩
    · rw [h_141]
      refine lv_if_eq (tgt := 24) hx hb dX11_run_12 rfl (fun c_145 => ?_) (fun c_145 => absurd c_145 (by decide +kernel))
      refine lv_ldc hx hb hown (hts (.constant RX11 228 (-1000000)) (List.mem_of_getElem? (i := 7) rfl)) dX11_run_24 ?_
      have hK9 := hK.sub (tys' := []) [] rfl
      exact W.iret (v := (-1000000)) hx hb hr (fun t ht hW => ⟨⟨(-1000000), (h0_8_f0, h0_8_f1, h0_8_f2, h0_8_f3, h0_8_4c, h0_8_5c, h0_8_6c, h0_8_7c, h0_8_8c, h0_8_9c, h0_8_10c, h0_8_11c, h0_8_12c, h0_6_4c, h0_6_2c, h0_6_3c, h0_3_3c, h0_3_0_e0_2c, h0_3_0_e1_2c, h0_3_0_e2_2c, h0_3_0_e3_2c), rfl, (Or.inl ⟨rfl, a_h0_6_3c⟩), by rw [ht]; exact hP, va_K.moved hW.alike hK9, hD⟩, hS.F ht⟩) hS.2.2 dX11_run_26
    · rw [h_143]
      refine lv_if_eq (tgt := 24) hx hb dX11_run_12 rfl (fun c_146 => absurd c_146 (by decide +kernel)) (fun c_146 => ?_)
      refine lv_iload_n hx hb dX11_run_15 rfl (lv_at hl 2 rfl) ?_
      refine lv_iconst (v := 0) hx hb dX11_run_16 kc_iconst_0 ?_
      refine lv_iconst (v := 1) hx hb dX11_run_17 kc_iconst_1 ?_
      obtain ⟨hPc, hDc, hFc, hqc⟩ := cl_cut (wc := []) hP hD hS hA [] (by decide +kernel) rfl
      have hKc := hK.sub (tys' := []) [] rfl
      refine va_calli (va_runS (As := [.int p2, .int 0, .int 1]) (rest := []) ⟨hx, hb, hml, hown, hts⟩ (c_X11_isWithin_8 l dC dI H.size p2) (va_cwS 3 hts gf_c_X11_run_c_X11_isWithin_8 rfl rfl rfl md_X11_isWithin ⟨Nat.le_of_ble_eq_true rfl, Nat.le_of_ble_eq_true rfl⟩) ⟨fun a U g mk q => by obtain ⟨q0, q1, qP, qK, qD⟩ := q; exact ⟨q0, q1, qP, va_K.moved (u := U) (U := U.calling g mk a) (Vm.Alike.refl U.vm) qK, qD⟩, fun U hU hW => ⟨rfl, by rw [hU], by rw [hU]; exact hPc, va_K.moved hW.alike hKc, hDc.weaken (fun _ _ _ _ => trivial)⟩⟩ rfl rfl hl.1 rfl (lv_room (Nat.le_of_ble_eq_true rfl)) dX11_run_18 ⟨Nat.le_of_ble_eq_true rfl, Nat.le_of_ble_eq_true rfl⟩) hS (fun q _ h => hFc q h) hFc (fun r_147 u t H1 locs ht hvm hw hB hz1 hk1 hS => ?_)
      as_aux_lemma =>
      obtain ⟨hP1, hK1, hD1⟩ := hB
      rw [ht] at hP1
      have hP := bv_still hP hk1
      generalize H1 = H at hP hS ⊢
      as_aux_lemma =>
      rcases hw with ⟨h_148, h_149⟩ | ⟨h_150, h_151⟩
      · rw [h_148]
        refine lv_if_ne (tgt := 27) hx hb dX11_run_21 rfl (fun c_152 => absurd c_152 (by decide +kernel)) (fun c_152 => ?_)
        refine lv_ldc hx hb hown (hts (.constant RX11 228 (-1000000)) (List.mem_of_getElem? (i := 7) rfl)) dX11_run_24 ?_
        have hK9 := hK.sub (tys' := []) [] rfl
        exact W.iret (v := (-1000000)) hx hb hr (fun t ht hW => ⟨⟨(-1000000), (h0_8_f0, h0_8_f1, h0_8_f2, h0_8_f3, h0_8_4c, h0_8_5c, h0_8_6c, h0_8_7c, h0_8_8c, h0_8_9c, h0_8_10c, h0_8_11c, h0_8_12c, h0_6_4c, h0_6_2c, h0_6_3c, h0_3_3c, h0_3_0_e0_2c, h0_3_0_e1_2c, h0_3_0_e2_2c, h0_3_0_e3_2c), rfl, (Or.inl ⟨rfl, a_h0_6_3c⟩), by rw [ht]; exact hP, va_K.moved hW.alike hK9, hD⟩, hS.F ht⟩) hS.2.2 dX11_run_26
      · rw [h_150]
        refine lv_if_ne (tgt := 27) hx hb dX11_run_21 rfl (fun c_153 => ?_) (fun c_153 => absurd c_153 (by decide +kernel))
        refine lv_aload_n hx hb dX11_run_27 rfl (lv_at hl 0 rfl) ?_
        refine va_get (D := (dC, dI)) (ci := 11) (v := .ref h0_4) (C := RX11) (T := TX11) (N := 16) hx hb hts iw_c_X11_run_X11 hown hK hP 0 rfl rfl 4 (by decide +kernel) (hts (.fieldLink RX11 35 "BuoyVote" "plans" "[LBuoyVote$Plan;") (List.mem_of_getElem? (i := 17) rfl)) (fun _ h9 => h9) rfl dX11_run_28 ?_
        refine lv_iload_n hx hb dX11_run_31 rfl (lv_at hl 1 rfl) ?_
        refine va_aldq hx hb hK hP 2 0 rfl rfl (RG_in h_137 (by decide +kernel)) dX11_run_32 ?_
        rw [show h0_4c (p1 : Int32).toNatClampNeg = some z from hz h_137]
        refine W.eq (g2 := F0 m 33 ls [.ref z]) rfl ?_
        as_aux_lemma =>
        refine lv_astore_n (lv' := [(3, .ref z), (0, .ref h0), (1, .int p1), (2, .int p2)]) hx hb dX11_run_33 rfl hl (Nat.le_of_ble_eq_true rfl) rfl (fun ls hl => ?_)
        refine lv_aload_n hx hb dX11_run_34 rfl (lv_at hl 1 rfl) ?_
        refine va_get (D := (dC, dI)) (ci := 11) (v := .ref h0_8) (C := RX11) (T := TX11) (N := 16) hx hb hts iw_c_X11_run_X11 hown hK hP 0 rfl rfl 8 (by decide +kernel) (hts (.fieldLink RX11 56 "BuoyVote" "apart" "LBuoyVote$Sea;") (List.mem_of_getElem? (i := 18) rfl)) (fun _ h9 => h9) rfl dX11_run_35 ?_
        refine lv_aload_n hx hb dX11_run_38 rfl (lv_at hl 1 rfl) ?_
        refine va_get (D := (dC, dI)) (ci := 11) (v := .ref h0_7) (C := RX11) (T := TX11) (N := 16) hx hb hts iw_c_X11_run_X11 hown hK hP 0 rfl rfl 7 (by decide +kernel) (hts (.fieldLink RX11 52 "BuoyVote" "now" "LBuoyVote$Sea;") (List.mem_of_getElem? (i := 19) rfl)) (fun _ h9 => h9) rfl dX11_run_39 ?_
        obtain ⟨hPc, hDc, hFc, hqc⟩ := cl_cut (wc := (wd_c_X7_copyFrom h0_7 h0_7_f0 h0_7_f1 h0_7_f2 h0_7_f3 h0_7_4 h0_7_5 h0_7_6 h0_7_7 h0_7_8 h0_7_9 h0_7_10 h0_7_11 h0_7_12 h0_8 h0_8_f0 h0_8_f1 h0_8_f2 h0_8_f3 h0_8_4 h0_8_5 h0_8_6 h0_8_7 h0_8_8 h0_8_9 h0_8_10 h0_8_11 h0_8_12 h0_7_4 h0_7_4k h0_7_4c h0_8_4 h0_8_4k h0_8_4c h0_7_5 h0_7_5k h0_7_5c h0_8_5 h0_8_5k h0_8_5c h0_7_6 h0_7_6k h0_7_6c h0_8_6 h0_8_6k h0_8_6c h0_7_7 h0_7_7k h0_7_7c h0_8_7 h0_8_7k h0_8_7c h0_7_8 h0_7_8k h0_7_8c h0_8_8 h0_8_8k h0_8_8c h0_7_9 h0_7_9k h0_7_9c h0_8_9 h0_8_9k h0_8_9c h0_7_10 h0_7_10k h0_7_10c h0_8_10 h0_8_10k h0_8_10c h0_7_11 h0_7_11k h0_7_11c h0_8_11 h0_8_11k h0_8_11c h0_7_12 h0_7_12k h0_7_12c h0_8_12 h0_8_12k h0_8_12c)) hP hD hS hA [3, 4, 5, 6, 7, 8, 9, 10, 11, 12, 13, 14, 15, 16, 17, 18, 19, 20, 21, 22] (by decide +kernel) rfl
        have hKc := hK.sub (tys' := [(h0_7_4k, .int), (h0_8_4k, .int), (h0_7_5k, .int), (h0_8_5k, .int), (h0_7_6k, .int), (h0_8_6k, .int), (h0_7_7k, .int), (h0_8_7k, .int), (h0_7_8k, .int), (h0_8_8k, .int), (h0_7_9k, .int), (h0_8_9k, .int), (h0_7_10k, .int), (h0_8_10k, .int), (h0_7_11k, .int), (h0_8_11k, .int), (h0_7_12k, .int), (h0_8_12k, .int)]) [1, 2, 3, 4, 5, 6, 7, 8, 9, 10, 11, 12, 13, 14, 15, 16, 17, 18] rfl
        have hrv := va_recv hKc hPc (ci := 7) (q0 := 1) rfl rfl
        refine va_callv (va_runV (As := [.ref h0_7]) (rest := []) ⟨hx, hb, hml, hown, hts⟩ (c_X7_copyFrom l dC dI H.size h0_8 h0_7 h0_7_f0 h0_7_f1 h0_7_f2 h0_7_f3 h0_7_4 h0_7_5 h0_7_6 h0_7_7 h0_7_8 h0_7_9 h0_7_10 h0_7_11 h0_7_12 h0_8_f0 h0_8_f1 h0_8_f2 h0_8_f3 h0_8_4 h0_8_5 h0_8_6 h0_8_7 h0_8_8 h0_8_9 h0_8_10 h0_8_11 h0_8_12 h0_7_4k h0_7_4c h0_8_4k h0_8_4c h0_7_5k h0_7_5c h0_8_5k h0_8_5c h0_7_6k h0_7_6c h0_8_6k h0_8_6c h0_7_7k h0_7_7c h0_8_7k h0_8_7c h0_7_8k h0_7_8c h0_8_8k h0_8_8c h0_7_9k h0_7_9c h0_8_9k h0_8_9c h0_7_10k h0_7_10c h0_8_10k h0_8_10c h0_7_11k h0_7_11c h0_8_11k h0_8_11c h0_7_12k h0_7_12c h0_8_12k h0_8_12c) (cwV 1 hts gf_c_X11_run_c_X7_copyFrom rfl rfl rfl mdV_X7_copyFrom ⟨Nat.le_of_ble_eq_true rfl, Nat.le_of_ble_eq_true rfl⟩) ⟨fun a U g mk q => by obtain ⟨q0, q1, qP, qK, qD⟩ := q; exact ⟨q0, q1, qP, va_K.moved (u := U) (U := U.calling g mk a) (Vm.Alike.refl U.vm) qK, qD⟩, hrv, fun U hU hW => ⟨rfl, by rw [hU], by rw [hU]; exact hPc, va_K.moved hW.alike hKc, hDc.weaken (fun _ _ _ _ => trivial)⟩⟩ rfl rfl hl.1 rfl (lv_room (Nat.le_of_ble_eq_true rfl)) dX11_run_42 ⟨Nat.le_of_ble_eq_true rfl, Nat.le_of_ble_eq_true rfl⟩) hS (fun q _ h => hFc q h) hFc (fun u t H1 locs ht hvm hw hB hz1 hk1 hS => ?_)
        obtain ⟨w_155, w_156, w_157, w_158, w_159, w_160, w_161, w_162, w_163⟩ := u
        obtain ⟨hP1, hK1, hD1⟩ := hB
        rw [ht] at hP1
        obtain ⟨hP, hD⟩ := cl_put (w1 := (wd_c_X7_copyFrom h0_7 h0_7_f0 h0_7_f1 h0_7_f2 h0_7_f3 h0_7_4 h0_7_5 h0_7_6 h0_7_7 h0_7_8 h0_7_9 h0_7_10 h0_7_11 h0_7_12 h0_8 h0_7_f0 h0_7_f1 h0_7_f2 h0_7_f3 h0_8_4 h0_8_5 h0_8_6 h0_8_7 h0_8_8 h0_8_9 h0_8_10 h0_8_11 h0_8_12 h0_7_4 h0_7_4k h0_7_4c h0_8_4 h0_8_4k w_155 h0_7_5 h0_7_5k h0_7_5c h0_8_5 h0_8_5k w_156 h0_7_6 h0_7_6k h0_7_6c h0_8_6 h0_8_6k w_157 h0_7_7 h0_7_7k h0_7_7c h0_8_7 h0_8_7k w_158 h0_7_8 h0_7_8k h0_7_8c h0_8_8 h0_8_8k w_159 h0_7_9 h0_7_9k h0_7_9c h0_8_9 h0_8_9k w_160 h0_7_10 h0_7_10k h0_7_10c h0_8_10 h0_8_10k w_161 h0_7_11 h0_7_11k h0_7_11c h0_8_11 h0_8_11k w_162 h0_7_12 h0_7_12k h0_7_12c h0_8_12 h0_8_12k w_163)) (nw := (wd_c_X11_run h0 h0_0 h0_1 h0_2 h0_3 h0_4 h0_f5 h0_6 h0_7 h0_8 h0_9 h0_10 h0_11 h0_12 h0_13 h0_14 h0_f15 h0_1 h0_1_0 h0_1_f1 h0_1_f2 h0_1_f3 h0_4 h0_4k h0_4c h0_7 h0_7_f0 h0_7_f1 h0_7_f2 h0_7_f3 h0_7_4 h0_7_5 h0_7_6 h0_7_7 h0_7_8 h0_7_9 h0_7_10 h0_7_11 h0_7_12 h0_8 h0_7_f0 h0_7_f1 h0_7_f2 h0_7_f3 h0_8_4 h0_8_5 h0_8_6 h0_8_7 h0_8_8 h0_8_9 h0_8_10 h0_8_11 h0_8_12 h0_7_4 h0_7_4k h0_7_4c h0_8_4 h0_8_4k w_155 h0_7_5 h0_7_5k h0_7_5c h0_8_5 h0_8_5k w_156 h0_7_6 h0_7_6k h0_7_6c h0_8_6 h0_8_6k w_157 h0_7_7 h0_7_7k h0_7_7c h0_8_7 h0_8_7k w_158 h0_7_8 h0_7_8k h0_7_8c h0_8_8 h0_8_8k w_159 h0_7_9 h0_7_9k h0_7_9c h0_8_9 h0_8_9k w_160 h0_7_10 h0_7_10k h0_7_10c h0_8_10 h0_8_10k w_161 h0_7_11 h0_7_11k h0_7_11c h0_8_11 h0_8_11k w_162 h0_7_12 h0_7_12k h0_7_12c h0_8_12 h0_8_12k w_163 z z_0 z_f1 z_0 z_0k z_0c h0_1_0 h0_1_0k h0_1_0c h0_6 h0_1 h0_3 h0_6_2 h0_6_3 h0_6_4 h0_6_5 h0_6_4 h0_6_4k h0_6_4c h0_6_2 h0_6_2k h0_6_2c h0_6_3 h0_6_3k h0_6_3c h0_3 h0_3_0 h0_3_f1 h0_3_f2 h0_3_3 h0_3_3 h0_3_3k h0_3_3c h0_3_0 h0_3_0k h0_3_0c h0_3_0_e0 h0_3_0_e0_0 h0_3_0_e0_f1 h0_3_0_e0_2 h0_3_0_e0_0 h0_3_0_e0_0k h0_3_0_e0_0c h0_3_0_e0_2 h0_3_0_e0_2k h0_3_0_e0_2c h0_3_0_e1 h0_3_0_e1_0 h0_3_0_e1_f1 h0_3_0_e1_2 h0_3_0_e1_0 h0_3_0_e1_0k h0_3_0_e1_0c h0_3_0_e1_2 h0_3_0_e1_2k h0_3_0_e1_2c h0_3_0_e2 h0_3_0_e2_0 h0_3_0_e2_f1 h0_3_0_e2_2 h0_3_0_e2_0 h0_3_0_e2_0k h0_3_0_e2_0c h0_3_0_e2_2 h0_3_0_e2_2k h0_3_0_e2_2c h0_3_0_e3 h0_3_0_e3_0 h0_3_0_e3_f1 h0_3_0_e3_2 h0_3_0_e3_0 h0_3_0_e3_0k h0_3_0_e3_0c h0_3_0_e3_2 h0_3_0_e3_2k h0_3_0_e3_2c)) hP hD [3, 4, 5, 6, 7, 8, 9, 10, 11, 12, 13, 14, 15, 16, 17, 18, 19, 20, 21, 22] [0, 1, 2, 45, 46, 47, 48, 49, 50, 51, 52, 53, 54, 55, 56, 57, 58, 59, 60, 61, 62, 63, 64, 23, 24, 25, 26, 27, 28, 29, 30, 31, 32, 33, 34, 35, 36, 37, 38, 39, 40, 41, 42, 43, 44] 45 rfl hqc (by decide +kernel) rfl hk1 hFc hP1 hD1
        generalize H1 = H at hP hS ⊢
        as_aux_lemma =>
        have h_164 := hw
        refine lv_iconst (v := 0) hx hb dX11_run_45 kc_iconst_0 ?_
        refine lv_istore (lv' := [(4, .int 0), (3, .ref z), (0, .ref h0), (1, .int p1), (2, .int p2)]) hx hb dX11_run_46 hl (Nat.le_of_ble_eq_true rfl) rfl (fun ls hl => ?_)
        refine lv_iconst (v := 0) hx hb dX11_run_48 kc_iconst_0 ?_
        refine lv_istore (lv' := [(5, .int 0), (4, .int 0), (3, .ref z), (0, .ref h0), (1, .int p1), (2, .int p2)]) hx hb dX11_run_49 hl (Nat.le_of_ble_eq_true rfl) rfl (fun ls hl => ?_)
        exact hU _ _ _ (J51 _ 0 0 h0_7_f2 w_155 w_156 w_157 w_158 w_159 w_160 w_161 w_162 w_163 h0_6_4c h0_6_2c h0_6_3c h0_3_3c h0_3_0_e0_2c h0_3_0_e1_2c h0_3_0_e2_2c h0_3_0_e3_2c (Nat.lt_succ_self _) h_144 g_h0_1_f2 g_h0_1_f3 g_h0_3_0_e0_f1 g_h0_3_0_e1_f1 g_h0_3_0_e2_f1 g_h0_3_0_e3_f1 g_h0_3_f1 g_h0_7_f2 g_h0_7_f3 h_136 (RG_w (RG_k 0 0 rfl) (by decide +kernel)) h_137 h_151 g_z_f1 a_h0_6_3c _ _ _ hP hD hS (lv_sub hl [0, 1, 2, 3, 5] rfl))
