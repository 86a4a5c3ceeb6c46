noncomputable def wd_c_X11_pull (a0 : Nat) (a1 : Nat) (a2 : Nat) (a3 : Nat) (a4 : Nat) (a5 : Nat) (a6 : Int32) (a7 : Nat) (a8 : Nat) (a9 : Nat) (a10 : Nat) (a11 : Nat) (a12 : Nat) (a13 : Nat) (a14 : Nat) (a15 : Nat) (a16 : Int64) (a17 : Nat) (a18 : Nat) (a19 : Int32) (a20 : Int32) (a21 : Int32) (a22 : Nat) (a23 : Int32) (a24 : Int32) (a25 : Int32) (a26 : Int32) (a27 : Nat) (a28 : Nat) (a29 : Nat) (a30 : Nat) (a31 : Nat) (a32 : Nat) (a33 : Nat) (a34 : Nat) (a35 : Nat) (a36 : Nat) (a37 : ClassId) (a38 : Nat → Int32) (a39 : Nat) (a40 : ClassId) (a41 : Nat → Int32) (a42 : Nat) (a43 : ClassId) (a44 : Nat → Int32) (a45 : Nat) (a46 : Nat) (a47 : Nat) (a48 : Nat) (a49 : Nat) (a50 : Nat) (a51 : Nat) (a52 : Nat) (a53 : ClassId) (a54 : Nat → Int32) (a55 : Nat) (a56 : ClassId) (a57 : Nat → Int32) (a58 : Nat) (a59 : ClassId) (a60 : Nat → Int32) (a61 : Nat) (a62 : Nat) (a63 : Int32) (a64 : Int32) (a65 : Nat) (a66 : Nat) (a67 : ClassId) (a68 : Nat → Int32) (a69 : Nat) (a70 : ClassId) (a71 : Nat → Option Nat) (a72 : Nat) (a73 : Nat) (a74 : Int32) (a75 : Nat) (a76 : Nat) (a77 : ClassId) (a78 : Nat → Int32) (a79 : Nat) (a80 : ClassId) (a81 : Nat → Int32) (a82 : Nat) (a83 : Nat) (a84 : Int32) (a85 : Nat) (a86 : Nat) (a87 : ClassId) (a88 : Nat → Int32) (a89 : Nat) (a90 : ClassId) (a91 : Nat → Int32) (a92 : Nat) (a93 : Nat) (a94 : Int32) (a95 : Nat) (a96 : Nat) (a97 : ClassId) (a98 : Nat → Int32) (a99 : Nat) (a100 : ClassId) (a101 : Nat → Int32) (a102 : Nat) (a103 : Nat) (a104 : Int32) (a105 : Nat) (a106 : Nat) (a107 : ClassId) (a108 : Nat → Int32) (a109 : Nat) (a110 : ClassId) (a111 : Nat → Int32) : va_W := [(a0, .inr (11, [.ref a1, .ref a2, .ref a3, .ref a4, .ref a5, .int a6, .ref a7, .ref a8, .ref a9, .ref a10, .ref a11, .ref a12, .ref a13, .ref a14, .ref a15, .long a16])), (a17, .inr (0, [.ref a18, .int a19, .int a20, .int a21])), (a22, .inr (7, [.int a23, .int a24, .int a25, .int a26, .ref a27, .ref a28, .ref a29, .ref a30, .ref a31, .ref a32, .ref a33, .ref a34, .ref a35])), (a36, .inl (a37, 24, .inl a38)), (a39, .inl (a40, 8, .inl a41)), (a42, .inl (a43, 8, .inl a44)), (a45, .inr (10, [.ref a46, .ref a47, .ref a48, .ref a49, .ref a50, .ref a51])), (a52, .inl (a53, 80, .inl a54)), (a55, .inl (a56, 3, .inl a57)), (a58, .inl (a59, 3, .inl a60)), (a61, .inr (5, [.ref a62, .int a63, .int a64, .ref a65])), (a66, .inl (a67, 6, .inl a68)), (a69, .inl (a70, 5, .inr (.inr (.inr (.inr a71))))), (a72, .inr (4, [.ref a73, .int a74, .ref a75])), (a76, .inl (a77, 240, .inl a78)), (a79, .inl (a80, 64, .inl a81)), (a82, .inr (4, [.ref a83, .int a84, .ref a85])), (a86, .inl (a87, 240, .inl a88)), (a89, .inl (a90, 64, .inl a91)), (a92, .inr (4, [.ref a93, .int a94, .ref a95])), (a96, .inl (a97, 240, .inl a98)), (a99, .inl (a100, 64, .inl a101)), (a102, .inr (4, [.ref a103, .int a104, .ref a105])), (a106, .inl (a107, 240, .inl a108)), (a109, .inl (a110, 64, .inl a111))]
noncomputable def wf_c_X11_pull : List Cond := List.cons (.code yX11_pull cX11_pull 3 (some .int)) (@HAppend.hAppend (List Cond) (List Cond) (List Cond) _ (@HAppend.hAppend (List Cond) (List Cond) (List Cond) _ (@HAppend.hAppend (List Cond) (List Cond) (List Cond) _ (@HAppend.hAppend (List Cond) (List Cond) (List Cond) _ (@HAppend.hAppend (List Cond) (List Cond) (List Cond) _ (@HAppend.hAppend (List Cond) (List Cond) (List Cond) _ [.methodLink RX11 163 yX11_isBuoy, .instanceMethod yX11_isBuoy, .selects RX11 yX11_isBuoy yX11_isBuoy, .initialized RX11, .code yX11_isBuoy cX11_isBuoy 2 (some .boolean), .fieldLink RX11 19 "BuoyVote" "told" "LBuoyVote$Borough;", .fieldLink RX11 275 "BuoyVote$Borough" "buoys" "I", .constant RX11 228 (-1000000), .methodLink RX11 191 yX11_isBoat, .instanceMethod yX11_isBoat, .selects RX11 yX11_isBoat yX11_isBoat, .code yX11_isBoat cX11_isBoat 2 (some .boolean), .fieldLink RX11 272 "BuoyVote$Borough" "boats" "I", .fieldLink RX11 45 "BuoyVote" "waters" "LBuoyVote$Waters;", .fieldLink RX11 52 "BuoyVote" "now" "LBuoyVote$Sea;", .methodLink RX11 224 yX10_drawOf, .instanceMethod yX10_drawOf, .selects RX10 yX10_drawOf yX10_drawOf, .initialized RX10, .code yX10_drawOf cX10_drawOf 7 (some .int), .fieldLink RX10 67 "BuoyVote$Sea" "liking" "[I", .fieldLink RX10 70 "BuoyVote$Sea" "old" "[I", .fieldLink RX10 73 "BuoyVote$Sea" "barnacles" "[I", .fieldLink RX10 9 "BuoyVote$Waters" "told" "LBuoyVote$Borough;", .methodLink RX10 43 yX0_buoyX, .instanceMethod yX0_buoyX, .selects RX0 yX0_buoyX yX0_buoyX, .initialized RX0, .code yX0_buoyX cX0_buoyX 2 (some .int), .fieldLink RX0 11 "BuoyVote$Borough" "values" "[I", .methodLink RX10 50 yX0_buoyY, .instanceMethod yX0_buoyY, .selects RX0 yX0_buoyY yX0_buoyY, .code yX0_buoyY cX0_buoyY 2 (some .int), .methodLink RX10 76 yX7_awayOf, .instanceMethod yX7_awayOf, .selects RX7 yX7_awayOf yX7_awayOf, .initialized RX7, .code yX7_awayOf cX7_awayOf 4 (some .int), .fieldLink RX7 9 "BuoyVote$Sea" "x" "[I", .methodLink RX7 99 Lib.Math.abs.name, .static Lib.Math.abs.name, .initialized "java/lang/Math", .code Lib.Math.abs.name Lib.Math.abs.code 1 (some .int), .fieldLink RX7 15 "BuoyVote$Sea" "y" "[I", .fieldLink RX10 15 "BuoyVote$Waters" "laws" "LBuoyVote$LawBook;", .methodLink RX10 80 yX0_voice, .instanceMethod yX0_voice, .selects RX0 yX0_voice yX0_voice, .code yX0_voice cX0_voice 2 (some .int), .methodLink RX10 83 yX10_pushOf, .instanceMethod yX10_pushOf, .selects RX10 yX10_pushOf yX10_pushOf, .code yX10_pushOf cX10_pushOf 10 (some .int), .fieldLink RX10 38 "BuoyVote$Sea" "x" "[I", .fieldLink RX10 47 "BuoyVote$Sea" "y" "[I", .fieldLink RX10 53 "BuoyVote$Sea" "way" "I", .fieldLink RX10 57 "BuoyVote$Sea" "wind" "I", .fieldLink RX10 60 "BuoyVote$Sea" "hour" "I", .methodLink RX10 63 yX10_isRising, .instanceMethod yX10_isRising, .selects RX10 yX10_isRising yX10_isRising, .code yX10_isRising cX10_isRising 3 (some .boolean), .methodLink RX10 32 yX0_tideHours, .instanceMethod yX0_tideHours, .selects RX0 yX0_tideHours yX0_tideHours, .code yX0_tideHours cX0_tideHours 1 (some .int), .methodLink RX10 87 yX5_drawBy, .instanceMethod yX5_drawBy, .selects RX5 yX5_drawBy yX5_drawBy, .initialized RX5, .code yX5_drawBy cX5_drawBy 8 (some .int), .fieldLink RX5 18 "BuoyVote$LawBook" "holding" "I", .fieldLink RX5 26 "BuoyVote$LawBook" "size" "I", .fieldLink RX5 22 "BuoyVote$LawBook" "letters" "[I", .fieldLink RX5 11 "BuoyVote$LawBook" "laws" "[LBuoyVote$Law;", .methodLink RX5 29 yX4_worth, .instanceMethod yX4_worth, .selects RX4 yX4_worth yX4_worth, .initialized RX4, .code yX4_worth cX4_worth 6 (some .int), .fieldLink RX4 20 "BuoyVote$Law" "length" "I", .fieldLink RX4 11 "BuoyVote$Law" "code" "[I", .fieldLink RX4 17 "BuoyVote$Law" "stack" "[I", .methodLink RX4 24 yX4_joinedAt, .instanceMethod yX4_joinedAt, .selects RX4 yX4_joinedAt yX4_joinedAt, .code yX4_joinedAt cX4_joinedAt 7 (some .int), .constantLong RX4 28 (1000000), .constantLong RX4 31 (-1000000), .constant RX4 33 (-1000000), .constant RX4 30 (1000000)] wsX110) wsX00) wsX70) wsX100) wsX50) wsX40)
theorem iw_c_X11_pull_X11 : ∀ w ∈ wsX110, w ∈ wf_c_X11_pull := fun w h => List.mem_cons_of_mem _ (List.mem_append_left _ (List.mem_append_left _ (List.mem_append_left _ (List.mem_append_left _ (List.mem_append_left _ (List.mem_append_right _ h))))))
theorem iw_c_X11_pull_X0 : ∀ w ∈ wsX00, w ∈ wf_c_X11_pull := fun w h => List.mem_cons_of_mem _ (List.mem_append_left _ (List.mem_append_left _ (List.mem_append_left _ (List.mem_append_left _ (List.mem_append_right _ h)))))
theorem iw_c_X11_pull_X7 : ∀ w ∈ wsX70, w ∈ wf_c_X11_pull := fun w h => List.mem_cons_of_mem _ (List.mem_append_left _ (List.mem_append_left _ (List.mem_append_left _ (List.mem_append_right _ h))))
theorem iw_c_X11_pull_X10 : ∀ w ∈ wsX100, w ∈ wf_c_X11_pull := fun w h => List.mem_cons_of_mem _ (List.mem_append_left _ (List.mem_append_left _ (List.mem_append_right _ h)))
theorem iw_c_X11_pull_X5 : ∀ w ∈ wsX50, w ∈ wf_c_X11_pull := fun w h => List.mem_cons_of_mem _ (List.mem_append_left _ (List.mem_append_right _ h))
theorem iw_c_X11_pull_X4 : ∀ w ∈ wsX40, w ∈ wf_c_X11_pull := fun w h => List.mem_cons_of_mem _ (List.mem_append_right _ h)
set_option maxRecDepth 20000 in
theorem gf_c_X11_pull_c_X11_isBuoy : GoodIn wf_c_X11_pull (wsV RX11 163 RX11 yX11_isBuoy wf_c_X11_isBuoy) := goodIn_app (gi_l [1, 2, 3, 4] rfl rfl) (gi_cons (j := 5) rfl rfl (goodIn_app (goodIn_app (gi_l [6, 7] rfl rfl) (goodIn_sub iw_c_X11_pull_X11 gw_X11)) (goodIn_sub iw_c_X11_pull_X0 gw_X0)))
set_option maxRecDepth 20000 in
theorem gf_c_X11_pull_c_X11_isBoat : GoodIn wf_c_X11_pull (wsV RX11 191 RX11 yX11_isBoat wf_c_X11_isBoat) := goodIn_app (gi_l [9, 10, 11, 4] rfl rfl) (gi_cons (j := 12) rfl rfl (goodIn_app (goodIn_app (gi_l [6, 13] rfl rfl) (goodIn_sub iw_c_X11_pull_X11 gw_X11)) (goodIn_sub iw_c_X11_pull_X0 gw_X0)))
set_option maxRecDepth 20000 in
theorem gf_c_X11_pull_c_X10_drawOf : GoodIn wf_c_X11_pull (wsV RX11 224 RX10 yX10_drawOf wf_c_X10_drawOf) := goodIn_app (gi_l [16, 17, 18, 19] rfl rfl) (gi_cons (j := 20) rfl rfl (goodIn_app (goodIn_app (goodIn_app (goodIn_app (goodIn_app (gi_l [21, 22, 23, 24, 25, 26, 27, 28, 29, 30, 31, 32, 33, 34, 35, 36, 37, 38, 39, 40, 41, 42, 43, 44, 45, 46, 47, 48, 49, 50, 51, 52, 53, 19, 54, 55, 56, 57, 58, 59, 60, 61, 62, 63, 64, 65, 66, 67, 68, 69, 70, 71, 72, 73, 74, 75, 76, 77, 78, 79, 80, 81, 82, 83, 84, 85, 86, 87, 88, 89, 90, 91, 92] rfl rfl) (goodIn_sub iw_c_X11_pull_X7 gw_X7)) (goodIn_sub iw_c_X11_pull_X10 gw_X10)) (goodIn_sub iw_c_X11_pull_X0 gw_X0)) (goodIn_sub iw_c_X11_pull_X5 gw_X5)) (goodIn_sub iw_c_X11_pull_X4 gw_X4)))
set_option maxHeartbeats 4000000 in
set_option maxRecDepth 100000 in
theorem c_X11_pull (l : Launch) (dC : Nat → ClassId) (dI : Nat → Nat → Nat) (sz : Nat) (h0 : Nat) (p1 : Int32) (p2 : Int32) (h0_0 : Nat) (h0_1 : Nat) (h0_2 : Nat) (h0_3 : Nat) (h0_4 : Nat) (h0_f5 : Int32) (h0_6 : Nat) (h0_7 : Nat) (h0_8 : Nat) (h0_9 : Nat) (h0_10 : Nat) (h0_11 : Nat) (h0_12 : Nat) (h0_13 : Nat) (h0_14 : Nat) (h0_f15 : Int64) (h0_1_0 : Nat) (h0_1_f1 : Int32) (h0_1_f2 : Int32) (h0_1_f3 : Int32) (h0_7_f0 : Int32) (h0_7_f1 : Int32) (h0_7_f2 : Int32) (h0_7_f3 : Int32) (h0_7_4 : Nat) (h0_7_5 : Nat) (h0_7_6 : Nat) (h0_7_7 : Nat) (h0_7_8 : Nat) (h0_7_9 : Nat) (h0_7_10 : Nat) (h0_7_11 : Nat) (h0_7_12 : Nat) (h0_7_10k : ClassId) (h0_7_10c : Nat → Int32) (h0_7_11k : ClassId) (h0_7_11c : Nat → Int32) (h0_7_12k : ClassId) (h0_7_12c : Nat → Int32) (h0_6_2 : Nat) (h0_6_3 : Nat) (h0_6_4 : Nat) (h0_6_5 : Nat) (h0_1_0k : ClassId) (h0_1_0c : Nat → Int32) (h0_7_4k : ClassId) (h0_7_4c : Nat → Int32) (h0_7_5k : ClassId) (h0_7_5c : Nat → Int32) (h0_3_0 : Nat) (h0_3_f1 : Int32) (h0_3_f2 : Int32) (h0_3_3 : Nat) (h0_3_3k : ClassId) (h0_3_3c : Nat → Int32) (h0_3_0k : ClassId) (h0_3_0c : Nat → Option Nat) (h0_3_0_e0 : Nat) (h0_3_0_e1 : Nat) (h0_3_0_e2 : Nat) (h0_3_0_e3 : Nat) (h0_3_0_e4 : Nat) (h0_3_0_e0_0 : Nat) (h0_3_0_e0_f1 : Int32) (h0_3_0_e0_2 : Nat) (h0_3_0_e0_0k : ClassId) (h0_3_0_e0_0c : Nat → Int32) (h0_3_0_e0_2k : ClassId) (h0_3_0_e0_2c : Nat → Int32) (h0_3_0_e1_0 : Nat) (h0_3_0_e1_f1 : Int32) (h0_3_0_e1_2 : Nat) (h0_3_0_e1_0k : ClassId) (h0_3_0_e1_0c : Nat → Int32) (h0_3_0_e1_2k : ClassId) (h0_3_0_e1_2c : Nat → Int32) (h0_3_0_e2_0 : Nat) (h0_3_0_e2_f1 : Int32) (h0_3_0_e2_2 : Nat) (h0_3_0_e2_0k : ClassId) (h0_3_0_e2_0c : Nat → Int32) (h0_3_0_e2_2k : ClassId) (h0_3_0_e2_2c : Nat → Int32) (h0_3_0_e3_0 : Nat) (h0_3_0_e3_f1 : Int32) (h0_3_0_e3_2 : Nat) (h0_3_0_e3_0k : ClassId) (h0_3_0_e3_0c : Nat → Int32) (h0_3_0_e3_2k : ClassId) (h0_3_0_e3_2c : Nat → Int32) (g_h0_f5 : RG h0_f5 0 4) (g_h0_1_f1 : RG h0_1_f1 0 8) (g_h0_1_f2 : RG h0_1_f2 0 3) (g_h0_1_f3 : RG h0_1_f3 0 1) (g_h0_7_f2 : RG h0_7_f2 0 9999) (g_h0_7_f3 : RG h0_7_f3 0 9999) (a_h0_1_0c : AI h0_1_0c (-1) 99) (g_h0_3_f1 : RG h0_3_f1 0 4) (e_h0_3_0_e0 : h0_3_0c 0 = some h0_3_0_e0) (e_h0_3_0_e1 : h0_3_0c 1 = some h0_3_0_e1) (e_h0_3_0_e2 : h0_3_0c 2 = some h0_3_0_e2) (e_h0_3_0_e3 : h0_3_0c 3 = some h0_3_0_e3) (e_h0_3_0_e4 : h0_3_0c 4 = some h0_3_0_e4) (g_h0_3_0_e0_f1 : RG h0_3_0_e0_f1 0 240) (g_h0_3_0_e1_f1 : RG h0_3_0_e1_f1 0 240) (g_h0_3_0_e2_f1 : RG h0_3_0_e2_f1 0 240) (g_h0_3_0_e3_f1 : RG h0_3_0_e3_f1 0 240) : Met l yX11_pull wf_c_X11_pull ({ frames := 4, cells := 0, slots := 0, locals := 104 }) (va_Pc [.ref h0, .int p1, .int p2] (fun U => U.heap.size = sz ∧ va_P (dC, dI) vwCl (wd_c_X11_pull h0 h0_0 h0_1 h0_2 h0_3 h0_4 h0_f5 h0_6 h0_7 h0_8 h0_9 h0_10 h0_11 h0_12 h0_13 h0_14 h0_f15 h0_1 h0_1_0 h0_1_f1 h0_1_f2 h0_1_f3 h0_7 h0_7_f0 h0_7_f1 h0_7_f2 h0_7_f3 h0_7_4 h0_7_5 h0_7_6 h0_7_7 h0_7_8 h0_7_9 h0_7_10 h0_7_11 h0_7_12 h0_7_10 h0_7_10k h0_7_10c h0_7_11 h0_7_11k h0_7_11c h0_7_12 h0_7_12k h0_7_12c h0_6 h0_1 h0_3 h0_6_2 h0_6_3 h0_6_4 h0_6_5 h0_1_0 h0_1_0k h0_1_0c h0_7_4 h0_7_4k h0_7_4c h0_7_5 h0_7_5k h0_7_5c h0_3 h0_3_0 h0_3_f1 h0_3_f2 h0_3_3 h0_3_3 h0_3_3k h0_3_3c h0_3_0 h0_3_0k h0_3_0c h0_3_0_e0 h0_3_0_e0_0 h0_3_0_e0_f1 h0_3_0_e0_2 h0_3_0_e0_0 h0_3_0_e0_0k h0_3_0_e0_0c h0_3_0_e0_2 h0_3_0_e0_2k h0_3_0_e0_2c h0_3_0_e1 h0_3_0_e1_0 h0_3_0_e1_f1 h0_3_0_e1_2 h0_3_0_e1_0 h0_3_0_e1_0k h0_3_0_e1_0c h0_3_0_e1_2 h0_3_0_e1_2k h0_3_0_e1_2c h0_3_0_e2 h0_3_0_e2_0 h0_3_0_e2_f1 h0_3_0_e2_2 h0_3_0_e2_0 h0_3_0_e2_0k h0_3_0_e2_0c h0_3_0_e2_2 h0_3_0_e2_2k h0_3_0_e2_2c h0_3_0_e3 h0_3_0_e3_0 h0_3_0_e3_f1 h0_3_0_e3_2 h0_3_0_e3_0 h0_3_0_e3_0k h0_3_0_e3_0c h0_3_0_e3_2 h0_3_0_e3_2k h0_3_0_e3_2c) U.heap ∧ va_K (dC, dI) vwCl [(h0_7_10k, .int), (h0_7_11k, .int), (h0_7_12k, .int), (h0_1_0k, .int), (h0_7_4k, .int), (h0_7_5k, .int), (h0_3_3k, .int), (h0_3_0k, .object RX4), (h0_3_0_e0_0k, .int), (h0_3_0_e0_2k, .int), (h0_3_0_e1_0k, .int), (h0_3_0_e1_2k, .int), (h0_3_0_e2_0k, .int), (h0_3_0_e2_2k, .int), (h0_3_0_e3_0k, .int), (h0_3_0_e3_2k, .int)] U ∧ va_D (fun _ => True) (wd_c_X11_pull h0 h0_0 h0_1 h0_2 h0_3 h0_4 h0_f5 h0_6 h0_7 h0_8 h0_9 h0_10 h0_11 h0_12 h0_13 h0_14 h0_f15 h0_1 h0_1_0 h0_1_f1 h0_1_f2 h0_1_f3 h0_7 h0_7_f0 h0_7_f1 h0_7_f2 h0_7_f3 h0_7_4 h0_7_5 h0_7_6 h0_7_7 h0_7_8 h0_7_9 h0_7_10 h0_7_11 h0_7_12 h0_7_10 h0_7_10k h0_7_10c h0_7_11 h0_7_11k h0_7_11c h0_7_12 h0_7_12k h0_7_12c h0_6 h0_1 h0_3 h0_6_2 h0_6_3 h0_6_4 h0_6_5 h0_1_0 h0_1_0k h0_1_0c h0_7_4 h0_7_4k h0_7_4c h0_7_5 h0_7_5k h0_7_5c h0_3 h0_3_0 h0_3_f1 h0_3_f2 h0_3_3 h0_3_3 h0_3_3k h0_3_3c h0_3_0 h0_3_0k h0_3_0c h0_3_0_e0 h0_3_0_e0_0 h0_3_0_e0_f1 h0_3_0_e0_2 h0_3_0_e0_0 h0_3_0_e0_0k h0_3_0_e0_0c h0_3_0_e0_2 h0_3_0_e0_2k h0_3_0_e0_2c h0_3_0_e1 h0_3_0_e1_0 h0_3_0_e1_f1 h0_3_0_e1_2 h0_3_0_e1_0 h0_3_0_e1_0k h0_3_0_e1_0c h0_3_0_e1_2 h0_3_0_e1_2k h0_3_0_e1_2c h0_3_0_e2 h0_3_0_e2_0 h0_3_0_e2_f1 h0_3_0_e2_2 h0_3_0_e2_0 h0_3_0_e2_0k h0_3_0_e2_0c h0_3_0_e2_2 h0_3_0_e2_2k h0_3_0_e2_2c h0_3_0_e3 h0_3_0_e3_0 h0_3_0_e3_f1 h0_3_0_e3_2 h0_3_0_e3_0 h0_3_0_e3_0k h0_3_0_e3_0c h0_3_0_e3_2 h0_3_0_e3_2k h0_3_0_e3_2c))) (va_Qi (fun (r : Int32) (u : (Nat → Int32) × (Nat → Int32) × (Nat → Int32) × (Nat → Int32) × (Nat → Int32)) => (r = (-1000000)) ∨ (r = 0 ∧ RG h0_1_f1 1 8 ∧ RG h0_1_f2 1 3 ∧ RG h0_3_f1 1 4 ∧ RG h0_3_f2 0 3 ∧ RG p1 0 7 ∧ RG p2 0 2) ∨ (RG r (-2147483648) 2147483647 ∧ RG h0_1_f1 1 8 ∧ RG h0_1_f2 1 3 ∧ RG p1 0 7 ∧ RG p2 0 2) ∨ (r = (-99) ∧ RG h0_1_f1 1 8 ∧ RG h0_1_f2 1 3 ∧ RG h0_3_f1 1 4 ∧ RG h0_3_f2 0 3 ∧ RG p1 0 7 ∧ RG p2 0 2) ∨ (r = 99 ∧ RG h0_1_f1 1 8 ∧ RG h0_1_f2 1 3 ∧ RG h0_3_f1 1 4 ∧ RG h0_3_f2 0 3 ∧ RG p1 0 7 ∧ RG p2 0 2)) (fun (u : (Nat → Int32) × (Nat → Int32) × (Nat → Int32) × (Nat → Int32) × (Nat → Int32)) t => va_P (dC, dI) vwCl (wd_c_X11_pull h0 h0_0 h0_1 h0_2 h0_3 h0_4 h0_f5 h0_6 h0_7 h0_8 h0_9 h0_10 h0_11 h0_12 h0_13 h0_14 h0_f15 h0_1 h0_1_0 h0_1_f1 h0_1_f2 h0_1_f3 h0_7 h0_7_f0 h0_7_f1 h0_7_f2 h0_7_f3 h0_7_4 h0_7_5 h0_7_6 h0_7_7 h0_7_8 h0_7_9 h0_7_10 h0_7_11 h0_7_12 h0_7_10 h0_7_10k h0_7_10c h0_7_11 h0_7_11k h0_7_11c h0_7_12 h0_7_12k h0_7_12c h0_6 h0_1 h0_3 h0_6_2 h0_6_3 h0_6_4 h0_6_5 h0_1_0 h0_1_0k h0_1_0c h0_7_4 h0_7_4k h0_7_4c h0_7_5 h0_7_5k h0_7_5c h0_3 h0_3_0 h0_3_f1 h0_3_f2 h0_3_3 h0_3_3 h0_3_3k (u.1) h0_3_0 h0_3_0k h0_3_0c h0_3_0_e0 h0_3_0_e0_0 h0_3_0_e0_f1 h0_3_0_e0_2 h0_3_0_e0_0 h0_3_0_e0_0k h0_3_0_e0_0c h0_3_0_e0_2 h0_3_0_e0_2k (u.2.1) h0_3_0_e1 h0_3_0_e1_0 h0_3_0_e1_f1 h0_3_0_e1_2 h0_3_0_e1_0 h0_3_0_e1_0k h0_3_0_e1_0c h0_3_0_e1_2 h0_3_0_e1_2k (u.2.2.1) h0_3_0_e2 h0_3_0_e2_0 h0_3_0_e2_f1 h0_3_0_e2_2 h0_3_0_e2_0 h0_3_0_e2_0k h0_3_0_e2_0c h0_3_0_e2_2 h0_3_0_e2_2k (u.2.2.2.1) h0_3_0_e3 h0_3_0_e3_0 h0_3_0_e3_f1 h0_3_0_e3_2 h0_3_0_e3_0 h0_3_0_e3_0k h0_3_0_e3_0c h0_3_0_e3_2 h0_3_0_e3_2k (u.2.2.2.2)) t.heap ∧ va_K (dC, dI) vwCl [] t ∧ va_D (va_A (wd_c_X11_pull h0 h0_0 h0_1 h0_2 h0_3 h0_4 h0_f5 h0_6 h0_7 h0_8 h0_9 h0_10 h0_11 h0_12 h0_13 h0_14 h0_f15 h0_1 h0_1_0 h0_1_f1 h0_1_f2 h0_1_f3 h0_7 h0_7_f0 h0_7_f1 h0_7_f2 h0_7_f3 h0_7_4 h0_7_5 h0_7_6 h0_7_7 h0_7_8 h0_7_9 h0_7_10 h0_7_11 h0_7_12 h0_7_10 h0_7_10k h0_7_10c h0_7_11 h0_7_11k h0_7_11c h0_7_12 h0_7_12k h0_7_12c h0_6 h0_1 h0_3 h0_6_2 h0_6_3 h0_6_4 h0_6_5 h0_1_0 h0_1_0k h0_1_0c h0_7_4 h0_7_4k h0_7_4c h0_7_5 h0_7_5k h0_7_5c h0_3 h0_3_0 h0_3_f1 h0_3_f2 h0_3_3 h0_3_3 h0_3_3k h0_3_3c h0_3_0 h0_3_0k h0_3_0c h0_3_0_e0 h0_3_0_e0_0 h0_3_0_e0_f1 h0_3_0_e0_2 h0_3_0_e0_0 h0_3_0_e0_0k h0_3_0_e0_0c h0_3_0_e0_2 h0_3_0_e0_2k h0_3_0_e0_2c h0_3_0_e1 h0_3_0_e1_0 h0_3_0_e1_f1 h0_3_0_e1_2 h0_3_0_e1_0 h0_3_0_e1_0k h0_3_0_e1_0c h0_3_0_e1_2 h0_3_0_e1_2k h0_3_0_e1_2c h0_3_0_e2 h0_3_0_e2_0 h0_3_0_e2_f1 h0_3_0_e2_2 h0_3_0_e2_0 h0_3_0_e2_0k h0_3_0_e2_0c h0_3_0_e2_2 h0_3_0_e2_2k h0_3_0_e2_2c h0_3_0_e3 h0_3_0_e3_0 h0_3_0_e3_f1 h0_3_0_e3_2 h0_3_0_e3_0 h0_3_0_e3_0k h0_3_0_e3_0c h0_3_0_e3_2 h0_3_0_e3_2k h0_3_0_e3_2c) sz) (wd_c_X11_pull h0 h0_0 h0_1 h0_2 h0_3 h0_4 h0_f5 h0_6 h0_7 h0_8 h0_9 h0_10 h0_11 h0_12 h0_13 h0_14 h0_f15 h0_1 h0_1_0 h0_1_f1 h0_1_f2 h0_1_f3 h0_7 h0_7_f0 h0_7_f1 h0_7_f2 h0_7_f3 h0_7_4 h0_7_5 h0_7_6 h0_7_7 h0_7_8 h0_7_9 h0_7_10 h0_7_11 h0_7_12 h0_7_10 h0_7_10k h0_7_10c h0_7_11 h0_7_11k h0_7_11c h0_7_12 h0_7_12k h0_7_12c h0_6 h0_1 h0_3 h0_6_2 h0_6_3 h0_6_4 h0_6_5 h0_1_0 h0_1_0k h0_1_0c h0_7_4 h0_7_4k h0_7_4c h0_7_5 h0_7_5k h0_7_5c h0_3 h0_3_0 h0_3_f1 h0_3_f2 h0_3_3 h0_3_3 h0_3_3k (u.1) h0_3_0 h0_3_0k h0_3_0c h0_3_0_e0 h0_3_0_e0_0 h0_3_0_e0_f1 h0_3_0_e0_2 h0_3_0_e0_0 h0_3_0_e0_0k h0_3_0_e0_0c h0_3_0_e0_2 h0_3_0_e0_2k (u.2.1) h0_3_0_e1 h0_3_0_e1_0 h0_3_0_e1_f1 h0_3_0_e1_2 h0_3_0_e1_0 h0_3_0_e1_0k h0_3_0_e1_0c h0_3_0_e1_2 h0_3_0_e1_2k (u.2.2.1) h0_3_0_e2 h0_3_0_e2_0 h0_3_0_e2_f1 h0_3_0_e2_2 h0_3_0_e2_0 h0_3_0_e2_0k h0_3_0_e2_0c h0_3_0_e2_2 h0_3_0_e2_2k (u.2.2.2.1) h0_3_0_e3 h0_3_0_e3_0 h0_3_0_e3_f1 h0_3_0_e3_2 h0_3_0_e3_0 h0_3_0_e3_0k h0_3_0_e3_0c h0_3_0_e3_2 h0_3_0_e3_2k (u.2.2.2.2))) (va_A (wd_c_X11_pull h0 h0_0 h0_1 h0_2 h0_3 h0_4 h0_f5 h0_6 h0_7 h0_8 h0_9 h0_10 h0_11 h0_12 h0_13 h0_14 h0_f15 h0_1 h0_1_0 h0_1_f1 h0_1_f2 h0_1_f3 h0_7 h0_7_f0 h0_7_f1 h0_7_f2 h0_7_f3 h0_7_4 h0_7_5 h0_7_6 h0_7_7 h0_7_8 h0_7_9 h0_7_10 h0_7_11 h0_7_12 h0_7_10 h0_7_10k h0_7_10c h0_7_11 h0_7_11k h0_7_11c h0_7_12 h0_7_12k h0_7_12c h0_6 h0_1 h0_3 h0_6_2 h0_6_3 h0_6_4 h0_6_5 h0_1_0 h0_1_0k h0_1_0c h0_7_4 h0_7_4k h0_7_4c h0_7_5 h0_7_5k h0_7_5c h0_3 h0_3_0 h0_3_f1 h0_3_f2 h0_3_3 h0_3_3 h0_3_3k h0_3_3c h0_3_0 h0_3_0k h0_3_0c h0_3_0_e0 h0_3_0_e0_0 h0_3_0_e0_f1 h0_3_0_e0_2 h0_3_0_e0_0 h0_3_0_e0_0k h0_3_0_e0_0c h0_3_0_e0_2 h0_3_0_e0_2k h0_3_0_e0_2c h0_3_0_e1 h0_3_0_e1_0 h0_3_0_e1_f1 h0_3_0_e1_2 h0_3_0_e1_0 h0_3_0_e1_0k h0_3_0_e1_0c h0_3_0_e1_2 h0_3_0_e1_2k h0_3_0_e1_2c h0_3_0_e2 h0_3_0_e2_0 h0_3_0_e2_f1 h0_3_0_e2_2 h0_3_0_e2_0 h0_3_0_e2_0k h0_3_0_e2_0c h0_3_0_e2_2 h0_3_0_e2_2k h0_3_0_e2_2c h0_3_0_e3 h0_3_0_e3_0 h0_3_0_e3_f1 h0_3_0_e3_2 h0_3_0_e3_0 h0_3_0_e3_0k h0_3_0_e3_0c h0_3_0_e3_2 h0_3_0_e3_2k h0_3_0_e3_2c) sz)) 0 0 (va_A (wd_c_X11_pull h0 h0_0 h0_1 h0_2 h0_3 h0_4 h0_f5 h0_6 h0_7 h0_8 h0_9 h0_10 h0_11 h0_12 h0_13 h0_14 h0_f15 h0_1 h0_1_0 h0_1_f1 h0_1_f2 h0_1_f3 h0_7 h0_7_f0 h0_7_f1 h0_7_f2 h0_7_f3 h0_7_4 h0_7_5 h0_7_6 h0_7_7 h0_7_8 h0_7_9 h0_7_10 h0_7_11 h0_7_12 h0_7_10 h0_7_10k h0_7_10c h0_7_11 h0_7_11k h0_7_11c h0_7_12 h0_7_12k h0_7_12c h0_6 h0_1 h0_3 h0_6_2 h0_6_3 h0_6_4 h0_6_5 h0_1_0 h0_1_0k h0_1_0c h0_7_4 h0_7_4k h0_7_4c h0_7_5 h0_7_5k h0_7_5c h0_3 h0_3_0 h0_3_f1 h0_3_f2 h0_3_3 h0_3_3 h0_3_3k h0_3_3c h0_3_0 h0_3_0k h0_3_0c h0_3_0_e0 h0_3_0_e0_0 h0_3_0_e0_f1 h0_3_0_e0_2 h0_3_0_e0_0 h0_3_0_e0_0k h0_3_0_e0_0c h0_3_0_e0_2 h0_3_0_e0_2k h0_3_0_e0_2c h0_3_0_e1 h0_3_0_e1_0 h0_3_0_e1_f1 h0_3_0_e1_2 h0_3_0_e1_0 h0_3_0_e1_0k h0_3_0_e1_0c h0_3_0_e1_2 h0_3_0_e1_2k h0_3_0_e1_2c h0_3_0_e2 h0_3_0_e2_0 h0_3_0_e2_f1 h0_3_0_e2_2 h0_3_0_e2_0 h0_3_0_e2_0k h0_3_0_e2_0c h0_3_0_e2_2 h0_3_0_e2_2k h0_3_0_e2_2c h0_3_0_e3 h0_3_0_e3_0 h0_3_0_e3_f1 h0_3_0_e3_2 h0_3_0_e3_0 h0_3_0_e3_0k h0_3_0_e3_0c h0_3_0_e3_2 h0_3_0_e3_2k h0_3_0_e3_2c) sz) := by
  refine Met.ofW (cc := cX11_pull) (maxL := 3) (ret := (some .int)) (by decide +kernel) rfl ?_
  intro p e s m args below meth c s₁ B hml hv
  obtain ⟨rfl, hsz, hP, hK, hD0⟩ := hv
  have hx := B.exec
  have hb := B.bytes
  have hr := B.returns
  have hts := atoms_spec (ws := wf_c_X11_pull) B.pre
  have hown : s.vm.findClass RX11 = some m.cls := findClass_of_methodNamed B.named
  have hlocks := B.notSynchronized
  subst hsz
  have hD := hD0.self (sz := s.heap.size)
  generalize hAe : va_A (wd_c_X11_pull h0 h0_0 h0_1 h0_2 h0_3 h0_4 h0_f5 h0_6 h0_7 h0_8 h0_9 h0_10 h0_11 h0_12 h0_13 h0_14 h0_f15 h0_1 h0_1_0 h0_1_f1 h0_1_f2 h0_1_f3 h0_7 h0_7_f0 h0_7_f1 h0_7_f2 h0_7_f3 h0_7_4 h0_7_5 h0_7_6 h0_7_7 h0_7_8 h0_7_9 h0_7_10 h0_7_11 h0_7_12 h0_7_10 h0_7_10k h0_7_10c h0_7_11 h0_7_11k h0_7_11c h0_7_12 h0_7_12k h0_7_12c h0_6 h0_1 h0_3 h0_6_2 h0_6_3 h0_6_4 h0_6_5 h0_1_0 h0_1_0k h0_1_0c h0_7_4 h0_7_4k h0_7_4c h0_7_5 h0_7_5k h0_7_5c h0_3 h0_3_0 h0_3_f1 h0_3_f2 h0_3_3 h0_3_3 h0_3_3k h0_3_3c h0_3_0 h0_3_0k h0_3_0c h0_3_0_e0 h0_3_0_e0_0 h0_3_0_e0_f1 h0_3_0_e0_2 h0_3_0_e0_0 h0_3_0_e0_0k h0_3_0_e0_0c h0_3_0_e0_2 h0_3_0_e0_2k h0_3_0_e0_2c h0_3_0_e1 h0_3_0_e1_0 h0_3_0_e1_f1 h0_3_0_e1_2 h0_3_0_e1_0 h0_3_0_e1_0k h0_3_0_e1_0c h0_3_0_e1_2 h0_3_0_e1_2k h0_3_0_e1_2c h0_3_0_e2 h0_3_0_e2_0 h0_3_0_e2_f1 h0_3_0_e2_2 h0_3_0_e2_0 h0_3_0_e2_0k h0_3_0_e2_0c h0_3_0_e2_2 h0_3_0_e2_2k h0_3_0_e2_2c h0_3_0_e3 h0_3_0_e3_0 h0_3_0_e3_f1 h0_3_0_e3_2 h0_3_0_e3_0 h0_3_0_e3_0k h0_3_0_e3_0c h0_3_0_e3_2 h0_3_0_e3_2k h0_3_0_e3_2c) s.heap.size = A at hD ⊢
  have hA : ∀ q : Nat, s.heap.size ≤ q → A q := fun q h => by rw [← hAe]; exact Or.inr h
  have hP : va_P (dC, dI) vwCl (wd_c_X11_pull h0 h0_0 h0_1 h0_2 h0_3 h0_4 h0_f5 h0_6 h0_7 h0_8 h0_9 h0_10 h0_11 h0_12 h0_13 h0_14 h0_f15 h0_1 h0_1_0 h0_1_f1 h0_1_f2 h0_1_f3 h0_7 h0_7_f0 h0_7_f1 h0_7_f2 h0_7_f3 h0_7_4 h0_7_5 h0_7_6 h0_7_7 h0_7_8 h0_7_9 h0_7_10 h0_7_11 h0_7_12 h0_7_10 h0_7_10k h0_7_10c h0_7_11 h0_7_11k h0_7_11c h0_7_12 h0_7_12k h0_7_12c h0_6 h0_1 h0_3 h0_6_2 h0_6_3 h0_6_4 h0_6_5 h0_1_0 h0_1_0k h0_1_0c h0_7_4 h0_7_4k h0_7_4c h0_7_5 h0_7_5k h0_7_5c h0_3 h0_3_0 h0_3_f1 h0_3_f2 h0_3_3 h0_3_3 h0_3_3k h0_3_3c h0_3_0 h0_3_0k h0_3_0c h0_3_0_e0 h0_3_0_e0_0 h0_3_0_e0_f1 h0_3_0_e0_2 h0_3_0_e0_0 h0_3_0_e0_0k h0_3_0_e0_0c h0_3_0_e0_2 h0_3_0_e0_2k h0_3_0_e0_2c h0_3_0_e1 h0_3_0_e1_0 h0_3_0_e1_f1 h0_3_0_e1_2 h0_3_0_e1_0 h0_3_0_e1_0k h0_3_0_e1_0c h0_3_0_e1_2 h0_3_0_e1_2k h0_3_0_e1_2c h0_3_0_e2 h0_3_0_e2_0 h0_3_0_e2_f1 h0_3_0_e2_2 h0_3_0_e2_0 h0_3_0_e2_0k h0_3_0_e2_0c h0_3_0_e2_2 h0_3_0_e2_2k h0_3_0_e2_2c h0_3_0_e3 h0_3_0_e3_0 h0_3_0_e3_f1 h0_3_0_e3_2 h0_3_0_e3_0 h0_3_0_e3_0k h0_3_0_e3_0c h0_3_0_e3_2 h0_3_0_e3_2k h0_3_0_e3_2c) s.heap := hP
  have hl := lv_entry ([.ref h0, .int p1, .int p2]) (n := 3) (Nat.le_of_ble_eq_true rfl)
  rw [lg_entry_eq]
  generalize (lg_sl ([.ref h0, .int p1, .int p2]) ++ List.replicate (3 - (lg_sl ([.ref h0, .int p1, .int p2])).length) Slot.unset).toArray = ls at hl ⊢
  have hl : lv_has ls 3 [(0, .ref h0), (1, .int p1), (2, .int p2)] := hl
  obtain ⟨H, hHe⟩ : ∃ H : Heap, s.heap = H := ⟨_, rfl⟩
  have hS : va_S A s.heap H [] := by rw [hHe]; exact va_S.rf
  have hP : va_P (dC, dI) vwCl (wd_c_X11_pull h0 h0_0 h0_1 h0_2 h0_3 h0_4 h0_f5 h0_6 h0_7 h0_8 h0_9 h0_10 h0_11 h0_12 h0_13 h0_14 h0_f15 h0_1 h0_1_0 h0_1_f1 h0_1_f2 h0_1_f3 h0_7 h0_7_f0 h0_7_f1 h0_7_f2 h0_7_f3 h0_7_4 h0_7_5 h0_7_6 h0_7_7 h0_7_8 h0_7_9 h0_7_10 h0_7_11 h0_7_12 h0_7_10 h0_7_10k h0_7_10c h0_7_11 h0_7_11k h0_7_11c h0_7_12 h0_7_12k h0_7_12c h0_6 h0_1 h0_3 h0_6_2 h0_6_3 h0_6_4 h0_6_5 h0_1_0 h0_1_0k h0_1_0c h0_7_4 h0_7_4k h0_7_4c h0_7_5 h0_7_5k h0_7_5c h0_3 h0_3_0 h0_3_f1 h0_3_f2 h0_3_3 h0_3_3 h0_3_3k h0_3_3c h0_3_0 h0_3_0k h0_3_0c h0_3_0_e0 h0_3_0_e0_0 h0_3_0_e0_f1 h0_3_0_e0_2 h0_3_0_e0_0 h0_3_0_e0_0k h0_3_0_e0_0c h0_3_0_e0_2 h0_3_0_e0_2k h0_3_0_e0_2c h0_3_0_e1 h0_3_0_e1_0 h0_3_0_e1_f1 h0_3_0_e1_2 h0_3_0_e1_0 h0_3_0_e1_0k h0_3_0_e1_0c h0_3_0_e1_2 h0_3_0_e1_2k h0_3_0_e1_2c h0_3_0_e2 h0_3_0_e2_0 h0_3_0_e2_f1 h0_3_0_e2_2 h0_3_0_e2_0 h0_3_0_e2_0k h0_3_0_e2_0c h0_3_0_e2_2 h0_3_0_e2_2k h0_3_0_e2_2c h0_3_0_e3 h0_3_0_e3_0 h0_3_0_e3_f1 h0_3_0_e3_2 h0_3_0_e3_0 h0_3_0_e3_0k h0_3_0_e3_0c h0_3_0_e3_2 h0_3_0_e3_2k h0_3_0_e3_2c) H := by rw [← hHe]; exact hP
  rw [hHe]
  refine lv_aload_n hx hb dX11_pull_0 rfl (lv_at hl 0 rfl) ?_
  as_aux_lemma =>
  refine lv_iload_n hx hb dX11_pull_1 rfl (lv_at hl 1 rfl) ?_
  obtain ⟨hPc, hDc, hFc, hqc⟩ := cl_cut (wc := (wd_c_X11_isBuoy h0 h0_0 h0_1 h0_2 h0_3 h0_4 h0_f5 h0_6 h0_7 h0_8 h0_9 h0_10 h0_11 h0_12 h0_13 h0_14 h0_f15 h0_1 h0_1_0 h0_1_f1 h0_1_f2 h0_1_f3)) hP hD hS hA [0, 1] (by decide +kernel) rfl
  have hKc := hK.sub (tys' := []) [] rfl
  have hrv := va_recv hKc hPc (ci := 11) (q0 := 0) rfl rfl
  refine va_calli (va_runV (As := [.int p1]) (rest := []) ⟨hx, hb, hml, hown, hts⟩ (c_X11_isBuoy l dC dI H.size h0 p1 h0_0 h0_1 h0_2 h0_3 h0_4 h0_f5 h0_6 h0_7 h0_8 h0_9 h0_10 h0_11 h0_12 h0_13 h0_14 h0_f15 h0_1_0 h0_1_f1 h0_1_f2 h0_1_f3 g_h0_f5 g_h0_1_f1 g_h0_1_f2 g_h0_1_f3) (cwV 1 hts gf_c_X11_pull_c_X11_isBuoy rfl rfl rfl mdV_X11_isBuoy ⟨Nat.le_of_ble_eq_true rfl, Nat.le_of_ble_eq_true rfl⟩) ⟨fun a U g mk q => by obtain ⟨q0, q1, qP, qK, qD⟩ := q; exact ⟨q0, q1, qP, va_K.moved (u := U) (U := U.calling g mk a) (Vm.Alike.refl U.vm) qK, qD⟩, hrv, fun U hU hW => ⟨rfl, by rw [hU], by rw [hU]; exact hPc, va_K.moved hW.alike hKc, hDc.weaken (fun _ _ _ _ => trivial)⟩⟩ rfl rfl hl.1 rfl (lv_room (Nat.le_of_ble_eq_true rfl)) dX11_pull_2 ⟨Nat.le_of_ble_eq_true rfl, Nat.le_of_ble_eq_true rfl⟩) hS (fun q _ h => hFc q h) hFc (fun r_1 u t H1 locs ht hvm hw hB hz1 hk1 hS => ?_)
  obtain ⟨hP1, hK1, hD1⟩ := hB
  rw [ht] at hP1
  obtain ⟨hP, hD⟩ := cl_put (w1 := (wd_c_X11_isBuoy h0 h0_0 h0_1 h0_2 h0_3 h0_4 h0_f5 h0_6 h0_7 h0_8 h0_9 h0_10 h0_11 h0_12 h0_13 h0_14 h0_f15 h0_1 h0_1_0 h0_1_f1 h0_1_f2 h0_1_f3)) (nw := (wd_c_X11_pull h0 h0_0 h0_1 h0_2 h0_3 h0_4 h0_f5 h0_6 h0_7 h0_8 h0_9 h0_10 h0_11 h0_12 h0_13 h0_14 h0_f15 h0_1 h0_1_0 h0_1_f1 h0_1_f2 h0_1_f3 h0_7 h0_7_f0 h0_7_f1 h0_7_f2 h0_7_f3 h0_7_4 h0_7_5 h0_7_6 h0_7_7 h0_7_8 h0_7_9 h0_7_10 h0_7_11 h0_7_12 h0_7_10 h0_7_10k h0_7_10c h0_7_11 h0_7_11k h0_7_11c h0_7_12 h0_7_12k h0_7_12c h0_6 h0_1 h0_3 h0_6_2 h0_6_3 h0_6_4 h0_6_5 h0_1_0 h0_1_0k h0_1_0c h0_7_4 h0_7_4k h0_7_4c h0_7_5 h0_7_5k h0_7_5c h0_3 h0_3_0 h0_3_f1 h0_3_f2 h0_3_3 h0_3_3 h0_3_3k h0_3_3c h0_3_0 h0_3_0k h0_3_0c h0_3_0_e0 h0_3_0_e0_0 h0_3_0_e0_f1 h0_3_0_e0_2 h0_3_0_e0_0 h0_3_0_e0_0k h0_3_0_e0_0c h0_3_0_e0_2 h0_3_0_e0_2k h0_3_0_e0_2c h0_3_0_e1 h0_3_0_e1_0 h0_3_0_e1_f1 h0_3_0_e1_2 h0_3_0_e1_0 h0_3_0_e1_0k h0_3_0_e1_0c h0_3_0_e1_2 h0_3_0_e1_2k h0_3_0_e1_2c h0_3_0_e2 h0_3_0_e2_0 h0_3_0_e2_f1 h0_3_0_e2_2 h0_3_0_e2_0 h0_3_0_e2_0k h0_3_0_e2_0c h0_3_0_e2_2 h0_3_0_e2_2k h0_3_0_e2_2c h0_3_0_e3 h0_3_0_e3_0 h0_3_0_e3_f1 h0_3_0_e3_2 h0_3_0_e3_0 h0_3_0_e3_0k h0_3_0_e3_0c h0_3_0_e3_2 h0_3_0_e3_2k h0_3_0_e3_2c)) hP hD [0, 1] [25, 26, 2, 3, 4, 5, 6, 7, 8, 9, 10, 11, 12, 13, 14, 15, 16, 17, 18, 19, 20, 21, 22, 23, 24] 25 rfl hqc (by decide +kernel) rfl hk1 hFc hP1 hD1
  generalize H1 = H at hP hS ⊢
  as_aux_lemma =>
  rcases hw with ⟨h_2, h_3⟩ | ⟨h_4, h_5, h_6⟩
  · rw [h_2]
    refine lv_if_eq (tgt := 32) hx hb dX11_pull_5 rfl (fun c_7 => ?_) (fun c_7 => absurd c_7 (by decide +kernel))
    refine lv_ldc hx hb hown (hts (.constant RX11 228 (-1000000)) (List.mem_of_getElem? (i := 8) rfl)) dX11_pull_32 ?_
    have hK9 := hK.sub (tys' := []) [] rfl
    exact W.iret (v := (-1000000)) hx hb hr (fun t ht hW => ⟨⟨(-1000000), (h0_3_3c, h0_3_0_e0_2c, h0_3_0_e1_2c, h0_3_0_e2_2c, h0_3_0_e3_2c), rfl, (Or.inl rfl), by rw [ht]; exact hP, va_K.moved hW.alike hK9, hD⟩, hS.F ht⟩) hS.2.2 dX11_pull_34
  · rw [h_4]
    refine lv_if_eq (tgt := 32) hx hb dX11_pull_5 rfl (fun c_8 => absurd c_8 (by decide +kernel)) (fun c_8 => ?_)
    refine lv_aload_n hx hb dX11_pull_8 rfl (lv_at hl 0 rfl) ?_
    refine lv_iload_n hx hb dX11_pull_9 rfl (lv_at hl 2 rfl) ?_
    obtain ⟨hPc, hDc, hFc, hqc⟩ := cl_cut (wc := (wd_c_X11_isBoat h0 h0_0 h0_1 h0_2 h0_3 h0_4 h0_f5 h0_6 h0_7 h0_8 h0_9 h0_10 h0_11 h0_12 h0_13 h0_14 h0_f15 h0_1 h0_1_0 h0_1_f1 h0_1_f2 h0_1_f3)) hP hD hS hA [0, 1] (by decide +kernel) rfl
    have hKc := hK.sub (tys' := []) [] rfl
    have hrv := va_recv hKc hPc (ci := 11) (q0 := 0) rfl rfl
    refine va_calli (va_runV (As := [.int p2]) (rest := []) ⟨hx, hb, hml, hown, hts⟩ (c_X11_isBoat l dC dI H.size h0 p2 h0_0 h0_1 h0_2 h0_3 h0_4 h0_f5 h0_6 h0_7 h0_8 h0_9 h0_10 h0_11 h0_12 h0_13 h0_14 h0_f15 h0_1_0 h0_1_f1 h0_1_f2 h0_1_f3 g_h0_f5 (RG_w h_5 (by decide +kernel)) g_h0_1_f2 g_h0_1_f3) (cwV 1 hts gf_c_X11_pull_c_X11_isBoat rfl rfl rfl mdV_X11_isBoat ⟨Nat.le_of_ble_eq_true rfl, Nat.le_of_ble_eq_true rfl⟩) ⟨fun a U g mk q => by obtain ⟨q0, q1, qP, qK, qD⟩ := q; exact ⟨q0, q1, qP, va_K.moved (u := U) (U := U.calling g mk a) (Vm.Alike.refl U.vm) qK, qD⟩, hrv, fun U hU hW => ⟨rfl, by rw [hU], by rw [hU]; exact hPc, va_K.moved hW.alike hKc, hDc.weaken (fun _ _ _ _ => trivial)⟩⟩ rfl rfl hl.1 rfl (lv_room (Nat.le_of_ble_eq_true rfl)) dX11_pull_10 ⟨Nat.le_of_ble_eq_true rfl, Nat.le_of_ble_eq_true rfl⟩) hS (fun q _ h => hFc q h) hFc (fun r_9 u t H1 locs ht hvm hw hB hz1 hk1 hS => ?_)
    as_aux_lemma =>
    obtain ⟨hP1, hK1, hD1⟩ := hB
    rw [ht] at hP1
    obtain ⟨hP, hD⟩ := cl_put (w1 := (wd_c_X11_isBoat h0 h0_0 h0_1 h0_2 h0_3 h0_4 h0_f5 h0_6 h0_7 h0_8 h0_9 h0_10 h0_11 h0_12 h0_13 h0_14 h0_f15 h0_1 h0_1_0 h0_1_f1 h0_1_f2 h0_1_f3)) (nw := (wd_c_X11_pull h0 h0_0 h0_1 h0_2 h0_3 h0_4 h0_f5 h0_6 h0_7 h0_8 h0_9 h0_10 h0_11 h0_12 h0_13 h0_14 h0_f15 h0_1 h0_1_0 h0_1_f1 h0_1_f2 h0_1_f3 h0_7 h0_7_f0 h0_7_f1 h0_7_f2 h0_7_f3 h0_7_4 h0_7_5 h0_7_6 h0_7_7 h0_7_8 h0_7_9 h0_7_10 h0_7_11 h0_7_12 h0_7_10 h0_7_10k h0_7_10c h0_7_11 h0_7_11k h0_7_11c h0_7_12 h0_7_12k h0_7_12c h0_6 h0_1 h0_3 h0_6_2 h0_6_3 h0_6_4 h0_6_5 h0_1_0 h0_1_0k h0_1_0c h0_7_4 h0_7_4k h0_7_4c h0_7_5 h0_7_5k h0_7_5c h0_3 h0_3_0 h0_3_f1 h0_3_f2 h0_3_3 h0_3_3 h0_3_3k h0_3_3c h0_3_0 h0_3_0k h0_3_0c h0_3_0_e0 h0_3_0_e0_0 h0_3_0_e0_f1 h0_3_0_e0_2 h0_3_0_e0_0 h0_3_0_e0_0k h0_3_0_e0_0c h0_3_0_e0_2 h0_3_0_e0_2k h0_3_0_e0_2c h0_3_0_e1 h0_3_0_e1_0 h0_3_0_e1_f1 h0_3_0_e1_2 h0_3_0_e1_0 h0_3_0_e1_0k h0_3_0_e1_0c h0_3_0_e1_2 h0_3_0_e1_2k h0_3_0_e1_2c h0_3_0_e2 h0_3_0_e2_0 h0_3_0_e2_f1 h0_3_0_e2_2 h0_3_0_e2_0 h0_3_0_e2_0k h0_3_0_e2_0c h0_3_0_e2_2 h0_3_0_e2_2k h0_3_0_e2_2c h0_3_0_e3 h0_3_0_e3_0 h0_3_0_e3_f1 h0_3_0_e3_2 h0_3_0_e3_0 h0_3_0_e3_0k h0_3_0_e3_0c h0_3_0_e3_2 h0_3_0_e3_2k h0_3_0_e3_2c)) hP hD [0, 1] [25, 26, 2, 3, 4, 5, 6, 7, 8, 9, 10, 11, 12, 13, 14, 15, 16, 17, 18, 19, 20, 21, 22, 23, 24] 25 rfl hqc (by decide +kernel) rfl hk1 hFc hP1 hD1
    generalize H1 = H at hP hS ⊢
    as_aux_lemma =>
    rcases hw with ⟨h_10, h_11⟩ | ⟨h_12, h_13, h_14⟩
    · rw [h_10]
      refine lv_if_eq (tgt := 32) hx hb dX11_pull_13 rfl (fun c_15 => ?_) (fun c_15 => absurd c_15 (by decide +kernel))
      refine lv_ldc hx hb hown (hts (.constant RX11 228 (-1000000)) (List.mem_of_getElem? (i := 8) rfl)) dX11_pull_32 ?_
      have hK9 := hK.sub (tys' := []) [] rfl
      exact W.iret (v := (-1000000)) hx hb hr (fun t ht hW => ⟨⟨(-1000000), (h0_3_3c, h0_3_0_e0_2c, h0_3_0_e1_2c, h0_3_0_e2_2c, h0_3_0_e3_2c), rfl, (Or.inl rfl), by rw [ht]; exact hP, va_K.moved hW.alike hK9, hD⟩, hS.F ht⟩) hS.2.2 dX11_pull_34
    · rw [h_12]
      refine lv_if_eq (tgt := 32) hx hb dX11_pull_13 rfl (fun c_16 => absurd c_16 (by decide +kernel)) (fun c_16 => ?_)
      refine lv_aload_n hx hb dX11_pull_16 rfl (lv_at hl 0 rfl) ?_
      refine va_get (D := (dC, dI)) (ci := 11) (v := .ref h0_6) (C := RX11) (T := TX11) (N := 16) hx hb hts iw_c_X11_pull_X11 hown hK hP 0 rfl rfl 6 (by decide +kernel) (hts (.fieldLink RX11 45 "BuoyVote" "waters" "LBuoyVote$Waters;") (List.mem_of_getElem? (i := 14) rfl)) (fun _ h9 => h9) rfl dX11_pull_17 ?_
      refine lv_aload_n hx hb dX11_pull_20 rfl (lv_at hl 0 rfl) ?_
      refine va_get (D := (dC, dI)) (ci := 11) (v := .ref h0_7) (C := RX11) (T := TX11) (N := 16) hx hb hts iw_c_X11_pull_X11 hown hK hP 0 rfl rfl 7 (by decide +kernel) (hts (.fieldLink RX11 52 "BuoyVote" "now" "LBuoyVote$Sea;") (List.mem_of_getElem? (i := 15) rfl)) (fun _ h9 => h9) rfl dX11_pull_21 ?_
      refine lv_iload_n hx hb dX11_pull_24 rfl (lv_at hl 1 rfl) ?_
      refine lv_iload_n hx hb dX11_pull_25 rfl (lv_at hl 2 rfl) ?_
      as_aux_lemma =>
      obtain ⟨hPc, hDc, hFc, hqc⟩ := cl_cut (wc := (wd_c_X10_drawOf h0_7 h0_7_f0 h0_7_f1 h0_7_f2 h0_7_f3 h0_7_4 h0_7_5 h0_7_6 h0_7_7 h0_7_8 h0_7_9 h0_7_10 h0_7_11 h0_7_12 h0_7_10 h0_7_10k h0_7_10c h0_7_11 h0_7_11k h0_7_11c h0_7_12 h0_7_12k h0_7_12c h0_6 h0_1 h0_3 h0_6_2 h0_6_3 h0_6_4 h0_6_5 h0_1 h0_1_0 h0_1_f1 h0_1_f2 h0_1_f3 h0_1_0 h0_1_0k h0_1_0c h0_7_4 h0_7_4k h0_7_4c h0_7_5 h0_7_5k h0_7_5c h0_3 h0_3_0 h0_3_f1 h0_3_f2 h0_3_3 h0_3_3 h0_3_3k h0_3_3c h0_3_0 h0_3_0k h0_3_0c h0_3_0_e0 h0_3_0_e0_0 h0_3_0_e0_f1 h0_3_0_e0_2 h0_3_0_e0_0 h0_3_0_e0_0k h0_3_0_e0_0c h0_3_0_e0_2 h0_3_0_e0_2k h0_3_0_e0_2c h0_3_0_e1 h0_3_0_e1_0 h0_3_0_e1_f1 h0_3_0_e1_2 h0_3_0_e1_0 h0_3_0_e1_0k h0_3_0_e1_0c h0_3_0_e1_2 h0_3_0_e1_2k h0_3_0_e1_2c h0_3_0_e2 h0_3_0_e2_0 h0_3_0_e2_f1 h0_3_0_e2_2 h0_3_0_e2_0 h0_3_0_e2_0k h0_3_0_e2_0c h0_3_0_e2_2 h0_3_0_e2_2k h0_3_0_e2_2c h0_3_0_e3 h0_3_0_e3_0 h0_3_0_e3_f1 h0_3_0_e3_2 h0_3_0_e3_0 h0_3_0_e3_0k h0_3_0_e3_0c h0_3_0_e3_2 h0_3_0_e3_2k h0_3_0_e3_2c)) hP hD hS hA [2, 3, 4, 5, 6, 1, 7, 8, 9, 10, 11, 12, 13, 14, 15, 16, 17, 18, 19, 20, 21, 22, 23, 24] (by decide +kernel) rfl
      have hKc := hK.sub (tys' := [(h0_7_10k, .int), (h0_7_11k, .int), (h0_7_12k, .int), (h0_1_0k, .int), (h0_7_4k, .int), (h0_7_5k, .int), (h0_3_3k, .int), (h0_3_0k, .object RX4), (h0_3_0_e0_0k, .int), (h0_3_0_e0_2k, .int), (h0_3_0_e1_0k, .int), (h0_3_0_e1_2k, .int), (h0_3_0_e2_0k, .int), (h0_3_0_e2_2k, .int), (h0_3_0_e3_0k, .int), (h0_3_0_e3_2k, .int)]) [0, 1, 2, 3, 4, 5, 6, 7, 8, 9, 10, 11, 12, 13, 14, 15] rfl
      have hrv := va_recv hKc hPc (ci := 10) (q0 := 4) rfl rfl
      refine va_calli (va_runV (As := [.ref h0_7, .int p1, .int p2]) (rest := []) ⟨hx, hb, hml, hown, hts⟩ (c_X10_drawOf l dC dI H.size h0_6 h0_7 p1 p2 h0_7_f0 h0_7_f1 h0_7_f2 h0_7_f3 h0_7_4 h0_7_5 h0_7_6 h0_7_7 h0_7_8 h0_7_9 h0_7_10 h0_7_11 h0_7_12 h0_7_10k h0_7_10c h0_7_11k h0_7_11c h0_7_12k h0_7_12c h0_1 h0_3 h0_6_2 h0_6_3 h0_6_4 h0_6_5 h0_1_0 h0_1_f1 h0_1_f2 h0_1_f3 h0_1_0k h0_1_0c h0_7_4k h0_7_4c h0_7_5k h0_7_5c h0_3_0 h0_3_f1 h0_3_f2 h0_3_3 h0_3_3k h0_3_3c h0_3_0k h0_3_0c h0_3_0_e0 h0_3_0_e1 h0_3_0_e2 h0_3_0_e3 h0_3_0_e4 h0_3_0_e0_0 h0_3_0_e0_f1 h0_3_0_e0_2 h0_3_0_e0_0k h0_3_0_e0_0c h0_3_0_e0_2k h0_3_0_e0_2c h0_3_0_e1_0 h0_3_0_e1_f1 h0_3_0_e1_2 h0_3_0_e1_0k h0_3_0_e1_0c h0_3_0_e1_2k h0_3_0_e1_2c h0_3_0_e2_0 h0_3_0_e2_f1 h0_3_0_e2_2 h0_3_0_e2_0k h0_3_0_e2_0c h0_3_0_e2_2k h0_3_0_e2_2c h0_3_0_e3_0 h0_3_0_e3_f1 h0_3_0_e3_2 h0_3_0_e3_0k h0_3_0_e3_0c h0_3_0_e3_2k h0_3_0_e3_2c h_6 h_14 (RG_w h_5 (by decide +kernel)) (RG_w h_13 (by decide +kernel)) g_h0_1_f3 a_h0_1_0c g_h0_3_f1 e_h0_3_0_e0 e_h0_3_0_e1 e_h0_3_0_e2 e_h0_3_0_e3 e_h0_3_0_e4 g_h0_3_0_e0_f1 g_h0_3_0_e1_f1 g_h0_3_0_e2_f1 g_h0_3_0_e3_f1) (cwV 3 hts gf_c_X11_pull_c_X10_drawOf rfl rfl rfl mdV_X10_drawOf ⟨Nat.le_of_ble_eq_true rfl, Nat.le_of_ble_eq_true rfl⟩) ⟨fun a U g mk q => by obtain ⟨q0, q1, qP, qK, qD⟩ := q; exact ⟨q0, q1, qP, va_K.moved (u := U) (U := U.calling g mk a) (Vm.Alike.refl U.vm) qK, qD⟩, hrv, fun U hU hW => ⟨rfl, by rw [hU], by rw [hU]; exact hPc, va_K.moved hW.alike hKc, hDc.weaken (fun _ _ _ _ => trivial)⟩⟩ rfl rfl hl.1 rfl (lv_room (Nat.le_of_ble_eq_true rfl)) dX11_pull_26 ⟨Nat.le_of_ble_eq_true rfl, Nat.le_of_ble_eq_true rfl⟩) hS (fun q _ h => hFc q h) hFc (fun r_17 u t H1 locs ht hvm hw hB hz1 hk1 hS => ?_)
      obtain ⟨w_18, w_19, w_20, w_21, w_22⟩ := u
      obtain ⟨hP1, hK1, hD1⟩ := hB
      rw [ht] at hP1
      obtain ⟨hP, hD⟩ := cl_put (w1 := (wd_c_X10_drawOf h0_7 h0_7_f0 h0_7_f1 h0_7_f2 h0_7_f3 h0_7_4 h0_7_5 h0_7_6 h0_7_7 h0_7_8 h0_7_9 h0_7_10 h0_7_11 h0_7_12 h0_7_10 h0_7_10k h0_7_10c h0_7_11 h0_7_11k h0_7_11c h0_7_12 h0_7_12k h0_7_12c h0_6 h0_1 h0_3 h0_6_2 h0_6_3 h0_6_4 h0_6_5 h0_1 h0_1_0 h0_1_f1 h0_1_f2 h0_1_f3 h0_1_0 h0_1_0k h0_1_0c h0_7_4 h0_7_4k h0_7_4c h0_7_5 h0_7_5k h0_7_5c h0_3 h0_3_0 h0_3_f1 h0_3_f2 h0_3_3 h0_3_3 h0_3_3k w_18 h0_3_0 h0_3_0k h0_3_0c h0_3_0_e0 h0_3_0_e0_0 h0_3_0_e0_f1 h0_3_0_e0_2 h0_3_0_e0_0 h0_3_0_e0_0k h0_3_0_e0_0c h0_3_0_e0_2 h0_3_0_e0_2k w_19 h0_3_0_e1 h0_3_0_e1_0 h0_3_0_e1_f1 h0_3_0_e1_2 h0_3_0_e1_0 h0_3_0_e1_0k h0_3_0_e1_0c h0_3_0_e1_2 h0_3_0_e1_2k w_20 h0_3_0_e2 h0_3_0_e2_0 h0_3_0_e2_f1 h0_3_0_e2_2 h0_3_0_e2_0 h0_3_0_e2_0k h0_3_0_e2_0c h0_3_0_e2_2 h0_3_0_e2_2k w_21 h0_3_0_e3 h0_3_0_e3_0 h0_3_0_e3_f1 h0_3_0_e3_2 h0_3_0_e3_0 h0_3_0_e3_0k h0_3_0_e3_0c h0_3_0_e3_2 h0_3_0_e3_2k w_22)) (nw := (wd_c_X11_pull h0 h0_0 h0_1 h0_2 h0_3 h0_4 h0_f5 h0_6 h0_7 h0_8 h0_9 h0_10 h0_11 h0_12 h0_13 h0_14 h0_f15 h0_1 h0_1_0 h0_1_f1 h0_1_f2 h0_1_f3 h0_7 h0_7_f0 h0_7_f1 h0_7_f2 h0_7_f3 h0_7_4 h0_7_5 h0_7_6 h0_7_7 h0_7_8 h0_7_9 h0_7_10 h0_7_11 h0_7_12 h0_7_10 h0_7_10k h0_7_10c h0_7_11 h0_7_11k h0_7_11c h0_7_12 h0_7_12k h0_7_12c h0_6 h0_1 h0_3 h0_6_2 h0_6_3 h0_6_4 h0_6_5 h0_1_0 h0_1_0k h0_1_0c h0_7_4 h0_7_4k h0_7_4c h0_7_5 h0_7_5k h0_7_5c h0_3 h0_3_0 h0_3_f1 h0_3_f2 h0_3_3 h0_3_3 h0_3_3k w_18 h0_3_0 h0_3_0k h0_3_0c h0_3_0_e0 h0_3_0_e0_0 h0_3_0_e0_f1 h0_3_0_e0_2 h0_3_0_e0_0 h0_3_0_e0_0k h0_3_0_e0_0c h0_3_0_e0_2 h0_3_0_e0_2k w_19 h0_3_0_e1 h0_3_0_e1_0 h0_3_0_e1_f1 h0_3_0_e1_2 h0_3_0_e1_0 h0_3_0_e1_0k h0_3_0_e1_0c h0_3_0_e1_2 h0_3_0_e1_2k w_20 h0_3_0_e2 h0_3_0_e2_0 h0_3_0_e2_f1 h0_3_0_e2_2 h0_3_0_e2_0 h0_3_0_e2_0k h0_3_0_e2_0c h0_3_0_e2_2 h0_3_0_e2_2k w_21 h0_3_0_e3 h0_3_0_e3_0 h0_3_0_e3_f1 h0_3_0_e3_2 h0_3_0_e3_0 h0_3_0_e3_0k h0_3_0_e3_0c h0_3_0_e3_2 h0_3_0_e3_2k w_22)) hP hD [2, 3, 4, 5, 6, 1, 7, 8, 9, 10, 11, 12, 13, 14, 15, 16, 17, 18, 19, 20, 21, 22, 23, 24] [0, 30, 25, 26, 27, 28, 29, 31, 32, 33, 34, 35, 36, 37, 38, 39, 40, 41, 42, 43, 44, 45, 46, 47, 48] 25 rfl hqc (by decide +kernel) rfl hk1 hFc hP1 hD1
      generalize H1 = H at hP hS ⊢
      as_aux_lemma =>
      rcases hw with ⟨h_23, h_24, h_25⟩ | h_26 | ⟨h_27, h_28, h_29⟩ | ⟨h_30, h_31, h_32⟩
      · rw [h_23]
        refine lv_goto (tgt := 34) hx hb dX11_pull_29 rfl ?_
        have hK9 := hK.sub (tys' := []) [] rfl
        exact W.iret (v := 0) hx hb hr (fun t ht hW => ⟨⟨0, (w_18, w_19, w_20, w_21, w_22), rfl, (Or.inr (Or.inl ⟨rfl, h_5, h_13, h_24, h_25, h_6, h_14⟩)), by rw [ht]; exact hP, va_K.moved hW.alike hK9, hD⟩, hS.F ht⟩) hS.2.2 dX11_pull_34
      · refine lv_goto (tgt := 34) hx hb dX11_pull_29 rfl ?_
        have hK9 := hK.sub (tys' := []) [] rfl
        exact W.iret (v := r_17) hx hb hr (fun t ht hW => ⟨⟨r_17, (w_18, w_19, w_20, w_21, w_22), rfl, (Or.inr (Or.inr (Or.inl ⟨h_26, h_5, h_13, h_6, h_14⟩))), by rw [ht]; exact hP, va_K.moved hW.alike hK9, hD⟩, hS.F ht⟩) hS.2.2 dX11_pull_34
      · rw [h_27]
        refine lv_goto (tgt := 34) hx hb dX11_pull_29 rfl ?_
        have hK9 := hK.sub (tys' := []) [] rfl
        exact W.iret (v := (-99)) hx hb hr (fun t ht hW => ⟨⟨(-99), (w_18, w_19, w_20, w_21, w_22), rfl, (Or.inr (Or.inr (Or.inr (Or.inl ⟨rfl, h_5, h_13, h_28, h_29, h_6, h_14⟩)))), by rw [ht]; exact hP, va_K.moved hW.alike hK9, hD⟩, hS.F ht⟩) hS.2.2 dX11_pull_34
      · rw [h_30]
        refine lv_goto (tgt := 34) hx hb dX11_pull_29 rfl ?_
        as_aux_lemma =>
        have hK9 := hK.sub (tys' := []) [] rfl
        exact W.iret (v := 99) hx hb hr (fun t ht hW => ⟨⟨99, (w_18, w_19, w_20, w_21, w_22), rfl, (Or.inr (Or.inr (Or.inr (Or.inr ⟨rfl, h_5, h_13, h_31, h_32, h_6, h_14⟩)))), by rw [ht]; exact hP, va_K.moved hW.alike hK9, hD⟩, hS.F ht⟩) hS.2.2 dX11_pull_34
noncomputable def wd_c_X11_push (a0 : Nat) (a1 : Nat) (a2 : Nat) (a3 : Nat) (a4 : Nat) (a5 : Nat) (a6 : Int32) (a7 : Nat) (a8 : Nat) (a9 : Nat) (a10 : Nat) (a11 : Nat) (a12 : Nat) (a13 : Nat) (a14 : Nat) (a15 : Nat) (a16 : Int64) (a17 : Nat) (a18 : Nat) (a19 : Int32) (a20 : Int32) (a21 : Int32) (a22 : Nat) (a23 : Int32) (a24 : Int32) (a25 : Int32) (a26 : Int32) (a27 : Nat) (a28 : Nat) (a29 : Nat) (a30 : Nat) (a31 : Nat) (a32 : Nat) (a33 : Nat) (a34 : Nat) (a35 : Nat) (a36 : Nat) (a37 : ClassId) (a38 : Nat → Int32) (a39 : Nat) (a40 : Nat) (a41 : Nat) (a42 : Nat) (a43 : Nat) (a44 : Nat) (a45 : Nat) (a46 : Nat) (a47 : ClassId) (a48 : Nat → Int32) (a49 : Nat) (a50 : ClassId) (a51 : Nat → Int32) : va_W := [(a0, .inr (11, [.ref a1, .ref a2, .ref a3, .ref a4, .ref a5, .int a6, .ref a7, .ref a8, .ref a9, .ref a10, .ref a11, .ref a12, .ref a13, .ref a14, .ref a15, .long a16])), (a17, .inr (0, [.ref a18, .int a19, .int a20, .int a21])), (a22, .inr (7, [.int a23, .int a24, .int a25, .int a26, .ref a27, .ref a28, .ref a29, .ref a30, .ref a31, .ref a32, .ref a33, .ref a34, .ref a35])), (a36, .inl (a37, 3, .inl a38)), (a39, .inr (10, [.ref a40, .ref a41, .ref a42, .ref a43, .ref a44, .ref a45])), (a46, .inl (a47, 80, .inl a48)), (a49, .inl (a50, 3, .inl a51))]
noncomputable def wf_c_X11_push : List Cond := List.cons (.code yX11_push cX11_push 3 (some .int)) (@HAppend.hAppend (List Cond) (List Cond) (List Cond) _ (@HAppend.hAppend (List Cond) (List Cond) (List Cond) _ (@HAppend.hAppend (List Cond) (List Cond) (List Cond) _ (@HAppend.hAppend (List Cond) (List Cond) (List Cond) _ [.methodLink RX11 163 yX11_isBuoy, .instanceMethod yX11_isBuoy, .selects RX11 yX11_isBuoy yX11_isBuoy, .initialized RX11, .code yX11_isBuoy cX11_isBuoy 2 (some .boolean), .fieldLink RX11 19 "BuoyVote" "told" "LBuoyVote$Borough;", .fieldLink RX11 275 "BuoyVote$Borough" "buoys" "I", .constant RX11 228 (-1000000), .methodLink RX11 191 yX11_isBoat, .instanceMethod yX11_isBoat, .selects RX11 yX11_isBoat yX11_isBoat, .code yX11_isBoat cX11_isBoat 2 (some .boolean), .fieldLink RX11 272 "BuoyVote$Borough" "boats" "I", .fieldLink RX11 45 "BuoyVote" "waters" "LBuoyVote$Waters;", .fieldLink RX11 52 "BuoyVote" "now" "LBuoyVote$Sea;", .methodLink RX11 229 yX10_pushOf, .instanceMethod yX10_pushOf, .selects RX10 yX10_pushOf yX10_pushOf, .initialized RX10, .code yX10_pushOf cX10_pushOf 10 (some .int), .fieldLink RX10 38 "BuoyVote$Sea" "x" "[I", .fieldLink RX10 9 "BuoyVote$Waters" "told" "LBuoyVote$Borough;", .methodLink RX10 43 yX0_buoyX, .instanceMethod yX0_buoyX, .selects RX0 yX0_buoyX yX0_buoyX, .initialized RX0, .code yX0_buoyX cX0_buoyX 2 (some .int), .fieldLink RX0 11 "BuoyVote$Borough" "values" "[I", .fieldLink RX10 47 "BuoyVote$Sea" "y" "[I", .methodLink RX10 50 yX0_buoyY, .instanceMethod yX0_buoyY, .selects RX0 yX0_buoyY yX0_buoyY, .code yX0_buoyY cX0_buoyY 2 (some .int), .fieldLink RX10 53 "BuoyVote$Sea" "way" "I", .fieldLink RX10 57 "BuoyVote$Sea" "wind" "I", .fieldLink RX10 60 "BuoyVote$Sea" "hour" "I", .methodLink RX10 63 yX10_isRising, .instanceMethod yX10_isRising, .selects RX10 yX10_isRising yX10_isRising, .code yX10_isRising cX10_isRising 3 (some .boolean), .methodLink RX10 32 yX0_tideHours, .instanceMethod yX0_tideHours, .selects RX0 yX0_tideHours yX0_tideHours, .code yX0_tideHours cX0_tideHours 1 (some .int)] wsX110) wsX00) wsX70) wsX100)
theorem iw_c_X11_push_X11 : ∀ w ∈ wsX110, w ∈ wf_c_X11_push := fun w h => List.mem_cons_of_mem _ (List.mem_append_left _ (List.mem_append_left _ (List.mem_append_left _ (List.mem_append_right _ h))))
theorem iw_c_X11_push_X0 : ∀ w ∈ wsX00, w ∈ wf_c_X11_push := fun w h => List.mem_cons_of_mem _ (List.mem_append_left _ (List.mem_append_left _ (List.mem_append_right _ h)))
theorem iw_c_X11_push_X7 : ∀ w ∈ wsX70, w ∈ wf_c_X11_push := fun w h => List.mem_cons_of_mem _ (List.mem_append_left _ (List.mem_append_right _ h))
theorem iw_c_X11_push_X10 : ∀ w ∈ wsX100, w ∈ wf_c_X11_push := fun w h => List.mem_cons_of_mem _ (List.mem_append_right _ h)
set_option maxRecDepth 20000 in
theorem gf_c_X11_push_c_X11_isBuoy : GoodIn wf_c_X11_push (wsV RX11 163 RX11 yX11_isBuoy wf_c_X11_isBuoy) := goodIn_app (gi_l [1, 2, 3, 4] rfl rfl) (gi_cons (j := 5) rfl rfl (goodIn_app (goodIn_app (gi_l [6, 7] rfl rfl) (goodIn_sub iw_c_X11_push_X11 gw_X11)) (goodIn_sub iw_c_X11_push_X0 gw_X0)))
set_option maxRecDepth 20000 in
theorem gf_c_X11_push_c_X11_isBoat : GoodIn wf_c_X11_push (wsV RX11 191 RX11 yX11_isBoat wf_c_X11_isBoat) := goodIn_app (gi_l [9, 10, 11, 4] rfl rfl) (gi_cons (j := 12) rfl rfl (goodIn_app (goodIn_app (gi_l [6, 13] rfl rfl) (goodIn_sub iw_c_X11_push_X11 gw_X11)) (goodIn_sub iw_c_X11_push_X0 gw_X0)))
set_option maxRecDepth 20000 in
theorem gf_c_X11_push_c_X10_pushOf : GoodIn wf_c_X11_push (wsV RX11 229 RX10 yX10_pushOf wf_c_X10_pushOf) := goodIn_app (gi_l [16, 17, 18, 19] rfl rfl) (gi_cons (j := 20) rfl rfl (goodIn_app (goodIn_app (goodIn_app (gi_l [21, 22, 23, 24, 25, 26, 27, 28, 29, 30, 31, 32, 33, 34, 35, 36, 37, 38, 39, 19, 40, 41, 42, 43, 44] rfl rfl) (goodIn_sub iw_c_X11_push_X7 gw_X7)) (goodIn_sub iw_c_X11_push_X10 gw_X10)) (goodIn_sub iw_c_X11_push_X0 gw_X0)))
set_option maxHeartbeats 4000000 in
set_option maxRecDepth 100000 in
theorem c_X11_push (l : Launch) (dC : Nat → ClassId) (dI : Nat → Nat → Nat) (sz : Nat) (h0 : Nat) (p1 : Int32) (p2 : Int32) (h0_0 : Nat) (h0_1 : Nat) (h0_2 : Nat) (h0_3 : Nat) (h0_4 : Nat) (h0_f5 : Int32) (h0_6 : Nat) (h0_7 : Nat) (h0_8 : Nat) (h0_9 : Nat) (h0_10 : Nat) (h0_11 : Nat) (h0_12 : Nat) (h0_13 : Nat) (h0_14 : Nat) (h0_f15 : Int64) (h0_1_0 : Nat) (h0_1_f1 : Int32) (h0_1_f2 : Int32) (h0_1_f3 : Int32) (h0_7_f0 : Int32) (h0_7_f1 : Int32) (h0_7_f2 : Int32) (h0_7_f3 : Int32) (h0_7_4 : Nat) (h0_7_5 : Nat) (h0_7_6 : Nat) (h0_7_7 : Nat) (h0_7_8 : Nat) (h0_7_9 : Nat) (h0_7_10 : Nat) (h0_7_11 : Nat) (h0_7_12 : Nat) (h0_7_4k : ClassId) (h0_7_4c : Nat → Int32) (h0_6_2 : Nat) (h0_6_3 : Nat) (h0_6_4 : Nat) (h0_6_5 : Nat) (h0_1_0k : ClassId) (h0_1_0c : Nat → Int32) (h0_7_5k : ClassId) (h0_7_5c : Nat → Int32) (g_h0_f5 : RG h0_f5 0 4) (g_h0_1_f1 : RG h0_1_f1 0 8) (g_h0_1_f2 : RG h0_1_f2 0 3) (g_h0_1_f3 : RG h0_1_f3 0 1) (g_h0_7_f2 : RG h0_7_f2 0 9999) (g_h0_7_f3 : RG h0_7_f3 0 9999) (a_h0_1_0c : AI h0_1_0c (-1) 99) : Met l yX11_push wf_c_X11_push ({ frames := 3, cells := 0, slots := 0, locals := 71 }) (va_Pc [.ref h0, .int p1, .int p2] (fun U => U.heap.size = sz ∧ va_P (dC, dI) vwCl (wd_c_X11_push h0 h0_0 h0_1 h0_2 h0_3 h0_4 h0_f5 h0_6 h0_7 h0_8 h0_9 h0_10 h0_11 h0_12 h0_13 h0_14 h0_f15 h0_1 h0_1_0 h0_1_f1 h0_1_f2 h0_1_f3 h0_7 h0_7_f0 h0_7_f1 h0_7_f2 h0_7_f3 h0_7_4 h0_7_5 h0_7_6 h0_7_7 h0_7_8 h0_7_9 h0_7_10 h0_7_11 h0_7_12 h0_7_4 h0_7_4k h0_7_4c h0_6 h0_1 h0_3 h0_6_2 h0_6_3 h0_6_4 h0_6_5 h0_1_0 h0_1_0k h0_1_0c h0_7_5 h0_7_5k h0_7_5c) U.heap ∧ va_K (dC, dI) vwCl [(h0_7_4k, .int), (h0_1_0k, .int), (h0_7_5k, .int)] U ∧ va_D (fun _ => True) (wd_c_X11_push h0 h0_0 h0_1 h0_2 h0_3 h0_4 h0_f5 h0_6 h0_7 h0_8 h0_9 h0_10 h0_11 h0_12 h0_13 h0_14 h0_f15 h0_1 h0_1_0 h0_1_f1 h0_1_f2 h0_1_f3 h0_7 h0_7_f0 h0_7_f1 h0_7_f2 h0_7_f3 h0_7_4 h0_7_5 h0_7_6 h0_7_7 h0_7_8 h0_7_9 h0_7_10 h0_7_11 h0_7_12 h0_7_4 h0_7_4k h0_7_4c h0_6 h0_1 h0_3 h0_6_2 h0_6_3 h0_6_4 h0_6_5 h0_1_0 h0_1_0k h0_1_0c h0_7_5 h0_7_5k h0_7_5c))) (va_Qi (fun (r : Int32) (u : Unit) => (r = (-1000000)) ∨ (RG r (-2147483648) 2147483647 ∧ RG h0_1_f1 1 8 ∧ RG h0_1_f2 1 3 ∧ RG p1 0 7 ∧ RG p2 0 2)) (fun (u : Unit) t => va_P (dC, dI) vwCl (wd_c_X11_push h0 h0_0 h0_1 h0_2 h0_3 h0_4 h0_f5 h0_6 h0_7 h0_8 h0_9 h0_10 h0_11 h0_12 h0_13 h0_14 h0_f15 h0_1 h0_1_0 h0_1_f1 h0_1_f2 h0_1_f3 h0_7 h0_7_f0 h0_7_f1 h0_7_f2 h0_7_f3 h0_7_4 h0_7_5 h0_7_6 h0_7_7 h0_7_8 h0_7_9 h0_7_10 h0_7_11 h0_7_12 h0_7_4 h0_7_4k h0_7_4c h0_6 h0_1 h0_3 h0_6_2 h0_6_3 h0_6_4 h0_6_5 h0_1_0 h0_1_0k h0_1_0c h0_7_5 h0_7_5k h0_7_5c) t.heap ∧ va_K (dC, dI) vwCl [] t ∧ va_D (va_A (wd_c_X11_push h0 h0_0 h0_1 h0_2 h0_3 h0_4 h0_f5 h0_6 h0_7 h0_8 h0_9 h0_10 h0_11 h0_12 h0_13 h0_14 h0_f15 h0_1 h0_1_0 h0_1_f1 h0_1_f2 h0_1_f3 h0_7 h0_7_f0 h0_7_f1 h0_7_f2 h0_7_f3 h0_7_4 h0_7_5 h0_7_6 h0_7_7 h0_7_8 h0_7_9 h0_7_10 h0_7_11 h0_7_12 h0_7_4 h0_7_4k h0_7_4c h0_6 h0_1 h0_3 h0_6_2 h0_6_3 h0_6_4 h0_6_5 h0_1_0 h0_1_0k h0_1_0c h0_7_5 h0_7_5k h0_7_5c) sz) (wd_c_X11_push h0 h0_0 h0_1 h0_2 h0_3 h0_4 h0_f5 h0_6 h0_7 h0_8 h0_9 h0_10 h0_11 h0_12 h0_13 h0_14 h0_f15 h0_1 h0_1_0 h0_1_f1 h0_1_f2 h0_1_f3 h0_7 h0_7_f0 h0_7_f1 h0_7_f2 h0_7_f3 h0_7_4 h0_7_5 h0_7_6 h0_7_7 h0_7_8 h0_7_9 h0_7_10 h0_7_11 h0_7_12 h0_7_4 h0_7_4k h0_7_4c h0_6 h0_1 h0_3 h0_6_2 h0_6_3 h0_6_4 h0_6_5 h0_1_0 h0_1_0k h0_1_0c h0_7_5 h0_7_5k h0_7_5c)) (va_A (wd_c_X11_push h0 h0_0 h0_1 h0_2 h0_3 h0_4 h0_f5 h0_6 h0_7 h0_8 h0_9 h0_10 h0_11 h0_12 h0_13 h0_14 h0_f15 h0_1 h0_1_0 h0_1_f1 h0_1_f2 h0_1_f3 h0_7 h0_7_f0 h0_7_f1 h0_7_f2 h0_7_f3 h0_7_4 h0_7_5 h0_7_6 h0_7_7 h0_7_8 h0_7_9 h0_7_10 h0_7_11 h0_7_12 h0_7_4 h0_7_4k h0_7_4c h0_6 h0_1 h0_3 h0_6_2 h0_6_3 h0_6_4 h0_6_5 h0_1_0 h0_1_0k h0_1_0c h0_7_5 h0_7_5k h0_7_5c) sz)) 0 0 (va_A (wd_c_X11_push h0 h0_0 h0_1 h0_2 h0_3 h0_4 h0_f5 h0_6 h0_7 h0_8 h0_9 h0_10 h0_11 h0_12 h0_13 h0_14 h0_f15 h0_1 h0_1_0 h0_1_f1 h0_1_f2 h0_1_f3 h0_7 h0_7_f0 h0_7_f1 h0_7_f2 h0_7_f3 h0_7_4 h0_7_5 h0_7_6 h0_7_7 h0_7_8 h0_7_9 h0_7_10 h0_7_11 h0_7_12 h0_7_4 h0_7_4k h0_7_4c h0_6 h0_1 h0_3 h0_6_2 h0_6_3 h0_6_4 h0_6_5 h0_1_0 h0_1_0k h0_1_0c h0_7_5 h0_7_5k h0_7_5c) sz) := by
  refine Met.ofW (cc := cX11_push) (maxL := 3) (ret := (some .int)) (by decide +kernel) rfl ?_
  intro p e s m args below meth c s₁ B hml hv
  obtain ⟨rfl, hsz, hP, hK, hD0⟩ := hv
  have hx := B.exec
  have hb := B.bytes
  have hr := B.returns
  have hts := atoms_spec (ws := wf_c_X11_push) B.pre
  have hown : s.vm.findClass RX11 = some m.cls := findClass_of_methodNamed B.named
  have hlocks := B.notSynchronized
  subst hsz
  have hD := hD0.self (sz := s.heap.size)
  generalize hAe : va_A (wd_c_X11_push h0 h0_0 h0_1 h0_2 h0_3 h0_4 h0_f5 h0_6 h0_7 h0_8 h0_9 h0_10 h0_11 h0_12 h0_13 h0_14 h0_f15 h0_1 h0_1_0 h0_1_f1 h0_1_f2 h0_1_f3 h0_7 h0_7_f0 h0_7_f1 h0_7_f2 h0_7_f3 h0_7_4 h0_7_5 h0_7_6 h0_7_7 h0_7_8 h0_7_9 h0_7_10 h0_7_11 h0_7_12 h0_7_4 h0_7_4k h0_7_4c h0_6 h0_1 h0_3 h0_6_2 h0_6_3 h0_6_4 h0_6_5 h0_1_0 h0_1_0k h0_1_0c h0_7_5 h0_7_5k h0_7_5c) s.heap.size = A at hD ⊢
  have hA : ∀ q : Nat, s.heap.size ≤ q → A q := fun q h => by rw [← hAe]; exact Or.inr h
  have hP : va_P (dC, dI) vwCl (wd_c_X11_push h0 h0_0 h0_1 h0_2 h0_3 h0_4 h0_f5 h0_6 h0_7 h0_8 h0_9 h0_10 h0_11 h0_12 h0_13 h0_14 h0_f15 h0_1 h0_1_0 h0_1_f1 h0_1_f2 h0_1_f3 h0_7 h0_7_f0 h0_7_f1 h0_7_f2 h0_7_f3 h0_7_4 h0_7_5 h0_7_6 h0_7_7 h0_7_8 h0_7_9 h0_7_10 h0_7_11 h0_7_12 h0_7_4 h0_7_4k h0_7_4c h0_6 h0_1 h0_3 h0_6_2 h0_6_3 h0_6_4 h0_6_5 h0_1_0 h0_1_0k h0_1_0c h0_7_5 h0_7_5k h0_7_5c) s.heap := hP
  have hl := lv_entry ([.ref h0, .int p1, .int p2]) (n := 3) (Nat.le_of_ble_eq_true rfl)
  rw [lg_entry_eq]
  generalize (lg_sl ([.ref h0, .int p1, .int p2]) ++ List.replicate (3 - (lg_sl ([.ref h0, .int p1, .int p2])).length) Slot.unset).toArray = ls at hl ⊢
  have hl : lv_has ls 3 [(0, .ref h0), (1, .int p1), (2, .int p2)] := hl
  obtain ⟨H, hHe⟩ : ∃ H : Heap, s.heap = H := ⟨_, rfl⟩
  have hS : va_S A s.heap H [] := by rw [hHe]; exact va_S.rf
  have hP : va_P (dC, dI) vwCl (wd_c_X11_push h0 h0_0 h0_1 h0_2 h0_3 h0_4 h0_f5 h0_6 h0_7 h0_8 h0_9 h0_10 h0_11 h0_12 h0_13 h0_14 h0_f15 h0_1 h0_1_0 h0_1_f1 h0_1_f2 h0_1_f3 h0_7 h0_7_f0 h0_7_f1 h0_7_f2 h0_7_f3 h0_7_4 h0_7_5 h0_7_6 h0_7_7 h0_7_8 h0_7_9 h0_7_10 h0_7_11 h0_7_12 h0_7_4 h0_7_4k h0_7_4c h0_6 h0_1 h0_3 h0_6_2 h0_6_3 h0_6_4 h0_6_5 h0_1_0 h0_1_0k h0_1_0c h0_7_5 h0_7_5k h0_7_5c) H := by rw [← hHe]; exact hP
  rw [hHe]
  refine lv_aload_n hx hb dX11_push_0 rfl (lv_at hl 0 rfl) ?_
  as_aux_lemma =>
  refine lv_iload_n hx hb dX11_push_1 rfl (lv_at hl 1 rfl) ?_
  obtain ⟨hPc, hDc, hFc, hqc⟩ := cl_cut (wc := (wd_c_X11_isBuoy h0 h0_0 h0_1 h0_2 h0_3 h0_4 h0_f5 h0_6 h0_7 h0_8 h0_9 h0_10 h0_11 h0_12 h0_13 h0_14 h0_f15 h0_1 h0_1_0 h0_1_f1 h0_1_f2 h0_1_f3)) hP hD hS hA [0, 1] (by decide +kernel) rfl
  have hKc := hK.sub (tys' := []) [] rfl
  have hrv := va_recv hKc hPc (ci := 11) (q0 := 0) rfl rfl
  refine va_calli (va_runV (As := [.int p1]) (rest := []) ⟨hx, hb, hml, hown, hts⟩ (c_X11_isBuoy l dC dI H.size h0 p1 h0_0 h0_1 h0_2 h0_3 h0_4 h0_f5 h0_6 h0_7 h0_8 h0_9 h0_10 h0_11 h0_12 h0_13 h0_14 h0_f15 h0_1_0 h0_1_f1 h0_1_f2 h0_1_f3 g_h0_f5 g_h0_1_f1 g_h0_1_f2 g_h0_1_f3) (cwV 1 hts gf_c_X11_push_c_X11_isBuoy rfl rfl rfl mdV_X11_isBuoy ⟨Nat.le_of_ble_eq_true rfl, Nat.le_of_ble_eq_true rfl⟩) ⟨fun a U g mk q => by obtain ⟨q0, q1, qP, qK, qD⟩ := q; exact ⟨q0, q1, qP, va_K.moved (u := U) (U := U.calling g mk a) (Vm.Alike.refl U.vm) qK, qD⟩, hrv, fun U hU hW => ⟨rfl, by rw [hU], by rw [hU]; exact hPc, va_K.moved hW.alike hKc, hDc.weaken (fun _ _ _ _ => trivial)⟩⟩ rfl rfl hl.1 rfl (lv_room (Nat.le_of_ble_eq_true rfl)) dX11_push_2 ⟨Nat.le_of_ble_eq_true rfl, Nat.le_of_ble_eq_true rfl⟩) hS (fun q _ h => hFc q h) hFc (fun r_1 u t H1 locs ht hvm hw hB hz1 hk1 hS => ?_)
  obtain ⟨hP1, hK1, hD1⟩ := hB
  rw [ht] at hP1
  obtain ⟨hP, hD⟩ := cl_put (w1 := (wd_c_X11_isBuoy h0 h0_0 h0_1 h0_2 h0_3 h0_4 h0_f5 h0_6 h0_7 h0_8 h0_9 h0_10 h0_11 h0_12 h0_13 h0_14 h0_f15 h0_1 h0_1_0 h0_1_f1 h0_1_f2 h0_1_f3)) (nw := (wd_c_X11_push h0 h0_0 h0_1 h0_2 h0_3 h0_4 h0_f5 h0_6 h0_7 h0_8 h0_9 h0_10 h0_11 h0_12 h0_13 h0_14 h0_f15 h0_1 h0_1_0 h0_1_f1 h0_1_f2 h0_1_f3 h0_7 h0_7_f0 h0_7_f1 h0_7_f2 h0_7_f3 h0_7_4 h0_7_5 h0_7_6 h0_7_7 h0_7_8 h0_7_9 h0_7_10 h0_7_11 h0_7_12 h0_7_4 h0_7_4k h0_7_4c h0_6 h0_1 h0_3 h0_6_2 h0_6_3 h0_6_4 h0_6_5 h0_1_0 h0_1_0k h0_1_0c h0_7_5 h0_7_5k h0_7_5c)) hP hD [0, 1] [7, 8, 2, 3, 4, 5, 6] 7 rfl hqc (by decide +kernel) rfl hk1 hFc hP1 hD1
  generalize H1 = H at hP hS ⊢
  as_aux_lemma =>
  rcases hw with ⟨h_2, h_3⟩ | ⟨h_4, h_5, h_6⟩
  · rw [h_2]
    refine lv_if_eq (tgt := 32) hx hb dX11_push_5 rfl (fun c_7 => ?_) (fun c_7 => absurd c_7 (by decide +kernel))
    refine lv_ldc hx hb hown (hts (.constant RX11 228 (-1000000)) (List.mem_of_getElem? (i := 8) rfl)) dX11_push_32 ?_
    have hK9 := hK.sub (tys' := []) [] rfl
    exact W.iret (v := (-1000000)) hx hb hr (fun t ht hW => ⟨⟨(-1000000), (), rfl, (Or.inl rfl), by rw [ht]; exact hP, va_K.moved hW.alike hK9, hD⟩, hS.F ht⟩) hS.2.2 dX11_push_34
  · rw [h_4]
    refine lv_if_eq (tgt := 32) hx hb dX11_push_5 rfl (fun c_8 => absurd c_8 (by decide +kernel)) (fun c_8 => ?_)
    refine lv_aload_n hx hb dX11_push_8 rfl (lv_at hl 0 rfl) ?_
    refine lv_iload_n hx hb dX11_push_9 rfl (lv_at hl 2 rfl) ?_
    obtain ⟨hPc, hDc, hFc, hqc⟩ := cl_cut (wc := (wd_c_X11_isBoat h0 h0_0 h0_1 h0_2 h0_3 h0_4 h0_f5 h0_6 h0_7 h0_8 h0_9 h0_10 h0_11 h0_12 h0_13 h0_14 h0_f15 h0_1 h0_1_0 h0_1_f1 h0_1_f2 h0_1_f3)) hP hD hS hA [0, 1] (by decide +kernel) rfl
    have hKc := hK.sub (tys' := []) [] rfl
    have hrv := va_recv hKc hPc (ci := 11) (q0 := 0) rfl rfl
    refine va_calli (va_runV (As := [.int p2]) (rest := []) ⟨hx, hb, hml, hown, hts⟩ (c_X11_isBoat l dC dI H.size h0 p2 h0_0 h0_1 h0_2 h0_3 h0_4 h0_f5 h0_6 h0_7 h0_8 h0_9 h0_10 h0_11 h0_12 h0_13 h0_14 h0_f15 h0_1_0 h0_1_f1 h0_1_f2 h0_1_f3 g_h0_f5 (RG_w h_5 (by decide +kernel)) g_h0_1_f2 g_h0_1_f3) (cwV 1 hts gf_c_X11_push_c_X11_isBoat rfl rfl rfl mdV_X11_isBoat ⟨Nat.le_of_ble_eq_true rfl, Nat.le_of_ble_eq_true rfl⟩) ⟨fun a U g mk q => by obtain ⟨q0, q1, qP, qK, qD⟩ := q; exact ⟨q0, q1, qP, va_K.moved (u := U) (U := U.calling g mk a) (Vm.Alike.refl U.vm) qK, qD⟩, hrv, fun U hU hW => ⟨rfl, by rw [hU], by rw [hU]; exact hPc, va_K.moved hW.alike hKc, hDc.weaken (fun _ _ _ _ => trivial)⟩⟩ rfl rfl hl.1 rfl (lv_room (Nat.le_of_ble_eq_true rfl)) dX11_push_10 ⟨Nat.le_of_ble_eq_true rfl, Nat.le_of_ble_eq_true rfl⟩) hS (fun q _ h => hFc q h) hFc (fun r_9 u t H1 locs ht hvm hw hB hz1 hk1 hS => ?_)
    as_aux_lemma =>
    obtain ⟨hP1, hK1, hD1⟩ := hB
    rw [ht] at hP1
    obtain ⟨hP, hD⟩ := cl_put (w1 := (wd_c_X11_isBoat h0 h0_0 h0_1 h0_2 h0_3 h0_4 h0_f5 h0_6 h0_7 h0_8 h0_9 h0_10 h0_11 h0_12 h0_13 h0_14 h0_f15 h0_1 h0_1_0 h0_1_f1 h0_1_f2 h0_1_f3)) (nw := (wd_c_X11_push h0 h0_0 h0_1 h0_2 h0_3 h0_4 h0_f5 h0_6 h0_7 h0_8 h0_9 h0_10 h0_11 h0_12 h0_13 h0_14 h0_f15 h0_1 h0_1_0 h0_1_f1 h0_1_f2 h0_1_f3 h0_7 h0_7_f0 h0_7_f1 h0_7_f2 h0_7_f3 h0_7_4 h0_7_5 h0_7_6 h0_7_7 h0_7_8 h0_7_9 h0_7_10 h0_7_11 h0_7_12 h0_7_4 h0_7_4k h0_7_4c h0_6 h0_1 h0_3 h0_6_2 h0_6_3 h0_6_4 h0_6_5 h0_1_0 h0_1_0k h0_1_0c h0_7_5 h0_7_5k h0_7_5c)) hP hD [0, 1] [7, 8, 2, 3, 4, 5, 6] 7 rfl hqc (by decide +kernel) rfl hk1 hFc hP1 hD1
    generalize H1 = H at hP hS ⊢
    as_aux_lemma =>
    rcases hw with ⟨h_10, h_11⟩ | ⟨h_12, h_13, h_14⟩
    · rw [h_10]
      refine lv_if_eq (tgt := 32) hx hb dX11_push_13 rfl (fun c_15 => ?_) (fun c_15 => absurd c_15 (by decide +kernel))
      refine lv_ldc hx hb hown (hts (.constant RX11 228 (-1000000)) (List.mem_of_getElem? (i := 8) rfl)) dX11_push_32 ?_
      have hK9 := hK.sub (tys' := []) [] rfl
      exact W.iret (v := (-1000000)) hx hb hr (fun t ht hW => ⟨⟨(-1000000), (), rfl, (Or.inl rfl), by rw [ht]; exact hP, va_K.moved hW.alike hK9, hD⟩, hS.F ht⟩) hS.2.2 dX11_push_34
    · rw [h_12]
      refine lv_if_eq (tgt := 32) hx hb dX11_push_13 rfl (fun c_16 => absurd c_16 (by decide +kernel)) (fun c_16 => ?_)
      refine lv_aload_n hx hb dX11_push_16 rfl (lv_at hl 0 rfl) ?_
      refine va_get (D := (dC, dI)) (ci := 11) (v := .ref h0_6) (C := RX11) (T := TX11) (N := 16) hx hb hts iw_c_X11_push_X11 hown hK hP 0 rfl rfl 6 (by decide +kernel) (hts (.fieldLink RX11 45 "BuoyVote" "waters" "LBuoyVote$Waters;") (List.mem_of_getElem? (i := 14) rfl)) (fun _ h9 => h9) rfl dX11_push_17 ?_
      refine lv_aload_n hx hb dX11_push_20 rfl (lv_at hl 0 rfl) ?_
      refine va_get (D := (dC, dI)) (ci := 11) (v := .ref h0_7) (C := RX11) (T := TX11) (N := 16) hx hb hts iw_c_X11_push_X11 hown hK hP 0 rfl rfl 7 (by decide +kernel) (hts (.fieldLink RX11 52 "BuoyVote" "now" "LBuoyVote$Sea;") (List.mem_of_getElem? (i := 15) rfl)) (fun _ h9 => h9) rfl dX11_push_21 ?_
      refine lv_iload_n hx hb dX11_push_24 rfl (lv_at hl 1 rfl) ?_
      refine lv_iload_n hx hb dX11_push_25 rfl (lv_at hl 2 rfl) ?_
      as_aux_lemma =>
      obtain ⟨hPc, hDc, hFc, hqc⟩ := cl_cut (wc := (wd_c_X10_pushOf h0_7 h0_7_f0 h0_7_f1 h0_7_f2 h0_7_f3 h0_7_4 h0_7_5 h0_7_6 h0_7_7 h0_7_8 h0_7_9 h0_7_10 h0_7_11 h0_7_12 h0_7_4 h0_7_4k h0_7_4c h0_6 h0_1 h0_3 h0_6_2 h0_6_3 h0_6_4 h0_6_5 h0_1 h0_1_0 h0_1_f1 h0_1_f2 h0_1_f3 h0_1_0 h0_1_0k h0_1_0c h0_7_5 h0_7_5k h0_7_5c)) hP hD hS hA [2, 3, 4, 1, 5, 6] (by decide +kernel) rfl
      have hKc := hK.sub (tys' := [(h0_7_4k, .int), (h0_1_0k, .int), (h0_7_5k, .int)]) [0, 1, 2] rfl
      have hrv := va_recv hKc hPc (ci := 10) (q0 := 2) rfl rfl
      refine va_calli (va_runV (As := [.ref h0_7, .int p1, .int p2]) (rest := []) ⟨hx, hb, hml, hown, hts⟩ (c_X10_pushOf l dC dI H.size h0_6 h0_7 p1 p2 h0_7_f0 h0_7_f1 h0_7_f2 h0_7_f3 h0_7_4 h0_7_5 h0_7_6 h0_7_7 h0_7_8 h0_7_9 h0_7_10 h0_7_11 h0_7_12 h0_7_4k h0_7_4c h0_1 h0_3 h0_6_2 h0_6_3 h0_6_4 h0_6_5 h0_1_0 h0_1_f1 h0_1_f2 h0_1_f3 h0_1_0k h0_1_0c h0_7_5k h0_7_5c h_6 h_14 (RG_w h_5 (by decide +kernel)) (RG_w h_13 (by decide +kernel)) g_h0_1_f3 a_h0_1_0c) (cwV 3 hts gf_c_X11_push_c_X10_pushOf rfl rfl rfl mdV_X10_pushOf ⟨Nat.le_of_ble_eq_true rfl, Nat.le_of_ble_eq_true rfl⟩) ⟨fun a U g mk q => by obtain ⟨q0, q1, qP, qK, qD⟩ := q; exact ⟨q0, q1, qP, va_K.moved (u := U) (U := U.calling g mk a) (Vm.Alike.refl U.vm) qK, qD⟩, hrv, fun U hU hW => ⟨rfl, by rw [hU], by rw [hU]; exact hPc, va_K.moved hW.alike hKc, hDc.weaken (fun _ _ _ _ => trivial)⟩⟩ rfl rfl hl.1 rfl (lv_room (Nat.le_of_ble_eq_true rfl)) dX11_push_26 ⟨Nat.le_of_ble_eq_true rfl, Nat.le_of_ble_eq_true rfl⟩) hS (fun q _ h => hFc q h) hFc (fun r_17 u t H1 locs ht hvm hw hB hz1 hk1 hS => ?_)
      obtain ⟨hP1, hK1, hD1⟩ := hB
      rw [ht] at hP1
      obtain ⟨hP, hD⟩ := cl_put (w1 := (wd_c_X10_pushOf h0_7 h0_7_f0 h0_7_f1 h0_7_f2 h0_7_f3 h0_7_4 h0_7_5 h0_7_6 h0_7_7 h0_7_8 h0_7_9 h0_7_10 h0_7_11 h0_7_12 h0_7_4 h0_7_4k h0_7_4c h0_6 h0_1 h0_3 h0_6_2 h0_6_3 h0_6_4 h0_6_5 h0_1 h0_1_0 h0_1_f1 h0_1_f2 h0_1_f3 h0_1_0 h0_1_0k h0_1_0c h0_7_5 h0_7_5k h0_7_5c)) (nw := (wd_c_X11_push h0 h0_0 h0_1 h0_2 h0_3 h0_4 h0_f5 h0_6 h0_7 h0_8 h0_9 h0_10 h0_11 h0_12 h0_13 h0_14 h0_f15 h0_1 h0_1_0 h0_1_f1 h0_1_f2 h0_1_f3 h0_7 h0_7_f0 h0_7_f1 h0_7_f2 h0_7_f3 h0_7_4 h0_7_5 h0_7_6 h0_7_7 h0_7_8 h0_7_9 h0_7_10 h0_7_11 h0_7_12 h0_7_4 h0_7_4k h0_7_4c h0_6 h0_1 h0_3 h0_6_2 h0_6_3 h0_6_4 h0_6_5 h0_1_0 h0_1_0k h0_1_0c h0_7_5 h0_7_5k h0_7_5c)) hP hD [2, 3, 4, 1, 5, 6] [0, 10, 7, 8, 9, 11, 12] 7 rfl hqc (by decide +kernel) rfl hk1 hFc hP1 hD1
      generalize H1 = H at hP hS ⊢
      as_aux_lemma =>
      rcases hw with ⟨h_18, h_19⟩
      refine lv_goto (tgt := 34) hx hb dX11_push_29 rfl ?_
      have hK9 := hK.sub (tys' := []) [] rfl
      exact W.iret (v := r_17) hx hb hr (fun t ht hW => ⟨⟨r_17, (), rfl, (Or.inr ⟨h_18, h_5, h_13, h_6, h_14⟩), by rw [ht]; exact hP, va_K.moved hW.alike hK9, hD⟩, hS.F ht⟩) hS.2.2 dX11_push_34
noncomputable def wd_c_X7_copyFrom (a0 : Nat) (a1 : Int32) (a2 : Int32) (a3 : Int32) (a4 : Int32) (a5 : Nat) (a6 : Nat) (a7 : Nat) (a8 : Nat) (a9 : Nat) (a10 : Nat) (a11 : Nat) (a12 : Nat) (a13 : Nat) (a14 : Nat) (a15 : Int32) (a16 : Int32) (a17 : Int32) (a18 : Int32) (a19 : Nat) (a20 : Nat) (a21 : Nat) (a22 : Nat) (a23 : Nat) (a24 : Nat) (a25 : Nat) (a26 : Nat) (a27 : Nat) (a28 : Nat) (a29 : ClassId) (a30 : Nat → Int32) (a31 : Nat) (a32 : ClassId) (a33 : Nat → Int32) (a34 : Nat) (a35 : ClassId) (a36 : Nat → Int32) (a37 : Nat) (a38 : ClassId) (a39 : Nat → Int32) (a40 : Nat) (a41 : ClassId) (a42 : Nat → Int32) (a43 : Nat) (a44 : ClassId) (a45 : Nat → Int32) (a46 : Nat) (a47 : ClassId) (a48 : Nat → Int32) (a49 : Nat) (a50 : ClassId) (a51 : Nat → Int32) (a52 : Nat) (a53 : ClassId) (a54 : Nat → Int32) (a55 : Nat) (a56 : ClassId) (a57 : Nat → Int32) (a58 : Nat) (a59 : ClassId) (a60 : Nat → Int32) (a61 : Nat) (a62 : ClassId) (a63 : Nat → Int32) (a64 : Nat) (a65 : ClassId) (a66 : Nat → Int32) (a67 : Nat) (a68 : ClassId) (a69 : Nat → Int32) (a70 : Nat) (a71 : ClassId) (a72 : Nat → Int32) (a73 : Nat) (a74 : ClassId) (a75 : Nat → Int32) (a76 : Nat) (a77 : ClassId) (a78 : Nat → Int32) (a79 : Nat) (a80 : ClassId) (a81 : Nat → Int32) : va_W := [(a0, .inr (7, [.int a1, .int a2, .int a3, .int a4, .ref a5, .ref a6, .ref a7, .ref a8, .ref a9, .ref a10, .ref a11, .ref a12, .ref a13])), (a14, .inr (7, [.int a15, .int a16, .int a17, .int a18, .ref a19, .ref a20, .ref a21, .ref a22, .ref a23, .ref a24, .ref a25, .ref a26, .ref a27])), (a28, .inl (a29, 3, .inl a30)), (a31, .inl (a32, 3, .inl a33)), (a34, .inl (a35, 3, .inl a36)), (a37, .inl (a38, 3, .inl a39)), (a40, .inl (a41, 3, .inl a42)), (a43, .inl (a44, 3, .inl a45)), (a46, .inl (a47, 3, .inl a48)), (a49, .inl (a50, 3, .inl a51)), (a52, .inl (a53, 3, .inl a54)), (a55, .inl (a56, 3, .inl a57)), (a58, .inl (a59, 3, .inl a60)), (a61, .inl (a62, 3, .inl a63)), (a64, .inl (a65, 24, .inl a66)), (a67, .inl (a68, 24, .inl a69)), (a70, .inl (a71, 8, .inl a72)), (a73, .inl (a74, 8, .inl a75)), (a76, .inl (a77, 8, .inl a78)), (a79, .inl (a80, 8, .inl a81))]
noncomputable def wf_c_X7_copyFrom : List Cond := List.cons (.code yX7_copyFrom cX7_copyFrom 2 none) (@HAppend.hAppend (List Cond) (List Cond) (List Cond) _ [.fieldLink RX7 45 "BuoyVote$Sea" "wind" "I", .fieldLink RX7 52 "BuoyVote$Sea" "way" "I", .fieldLink RX7 55 "BuoyVote$Sea" "hour" "I", .fieldLink RX7 58 "BuoyVote$Sea" "logged" "I", .fieldLink RX7 9 "BuoyVote$Sea" "x" "[I", .methodLink RX7 88 arraycopyName, .native arraycopyName, .static arraycopyName, .initialized "java/lang/System", .fieldLink RX7 15 "BuoyVote$Sea" "y" "[I", .fieldLink RX7 18 "BuoyVote$Sea" "goalX" "[I", .fieldLink RX7 21 "BuoyVote$Sea" "goalY" "[I", .fieldLink RX7 24 "BuoyVote$Sea" "won" "[I", .fieldLink RX7 27 "BuoyVote$Sea" "sang" "[I", .fieldLink RX7 30 "BuoyVote$Sea" "liking" "[I", .fieldLink RX7 33 "BuoyVote$Sea" "old" "[I", .fieldLink RX7 36 "BuoyVote$Sea" "barnacles" "[I"] wsX70)
theorem iw_c_X7_copyFrom_X7 : ∀ w ∈ wsX70, w ∈ wf_c_X7_copyFrom := fun w h => List.mem_cons_of_mem _ (List.mem_append_right _ h)
set_option maxHeartbeats 4000000 in
set_option maxRecDepth 100000 in
theorem c_X7_copyFrom (l : Launch) (dC : Nat → ClassId) (dI : Nat → Nat → Nat) (sz : Nat) (h0 : Nat) (h1 : Nat) (h1_f0 : Int32) (h1_f1 : Int32) (h1_f2 : Int32) (h1_f3 : Int32) (h1_4 : Nat) (h1_5 : Nat) (h1_6 : Nat) (h1_7 : Nat) (h1_8 : Nat) (h1_9 : Nat) (h1_10 : Nat) (h1_11 : Nat) (h1_12 : Nat) (h0_f0 : Int32) (h0_f1 : Int32) (h0_f2 : Int32) (h0_f3 : Int32) (h0_4 : Nat) (h0_5 : Nat) (h0_6 : Nat) (h0_7 : Nat) (h0_8 : Nat) (h0_9 : Nat) (h0_10 : Nat) (h0_11 : Nat) (h0_12 : Nat) (h1_4k : ClassId) (h1_4c : Nat → Int32) (h0_4k : ClassId) (h0_4c : Nat → Int32) (h1_5k : ClassId) (h1_5c : Nat → Int32) (h0_5k : ClassId) (h0_5c : Nat → Int32) (h1_6k : ClassId) (h1_6c : Nat → Int32) (h0_6k : ClassId) (h0_6c : Nat → Int32) (h1_7k : ClassId) (h1_7c : Nat → Int32) (h0_7k : ClassId) (h0_7c : Nat → Int32) (h1_8k : ClassId) (h1_8c : Nat → Int32) (h0_8k : ClassId) (h0_8c : Nat → Int32) (h1_9k : ClassId) (h1_9c : Nat → Int32) (h0_9k : ClassId) (h0_9c : Nat → Int32) (h1_10k : ClassId) (h1_10c : Nat → Int32) (h0_10k : ClassId) (h0_10c : Nat → Int32) (h1_11k : ClassId) (h1_11c : Nat → Int32) (h0_11k : ClassId) (h0_11c : Nat → Int32) (h1_12k : ClassId) (h1_12c : Nat → Int32) (h0_12k : ClassId) (h0_12c : Nat → Int32) : Met l yX7_copyFrom wf_c_X7_copyFrom ({ frames := 1, cells := 0, slots := 0, locals := 40 }) (va_Pc [.ref h0, .ref h1] (fun U => U.heap.size = sz ∧ va_P (dC, dI) vwCl (wd_c_X7_copyFrom h1 h1_f0 h1_f1 h1_f2 h1_f3 h1_4 h1_5 h1_6 h1_7 h1_8 h1_9 h1_10 h1_11 h1_12 h0 h0_f0 h0_f1 h0_f2 h0_f3 h0_4 h0_5 h0_6 h0_7 h0_8 h0_9 h0_10 h0_11 h0_12 h1_4 h1_4k h1_4c h0_4 h0_4k h0_4c h1_5 h1_5k h1_5c h0_5 h0_5k h0_5c h1_6 h1_6k h1_6c h0_6 h0_6k h0_6c h1_7 h1_7k h1_7c h0_7 h0_7k h0_7c h1_8 h1_8k h1_8c h0_8 h0_8k h0_8c h1_9 h1_9k h1_9c h0_9 h0_9k h0_9c h1_10 h1_10k h1_10c h0_10 h0_10k h0_10c h1_11 h1_11k h1_11c h0_11 h0_11k h0_11c h1_12 h1_12k h1_12c h0_12 h0_12k h0_12c) U.heap ∧ va_K (dC, dI) vwCl [(h1_4k, .int), (h0_4k, .int), (h1_5k, .int), (h0_5k, .int), (h1_6k, .int), (h0_6k, .int), (h1_7k, .int), (h0_7k, .int), (h1_8k, .int), (h0_8k, .int), (h1_9k, .int), (h0_9k, .int), (h1_10k, .int), (h0_10k, .int), (h1_11k, .int), (h0_11k, .int), (h1_12k, .int), (h0_12k, .int)] U ∧ va_D (fun _ => True) (wd_c_X7_copyFrom h1 h1_f0 h1_f1 h1_f2 h1_f3 h1_4 h1_5 h1_6 h1_7 h1_8 h1_9 h1_10 h1_11 h1_12 h0 h0_f0 h0_f1 h0_f2 h0_f3 h0_4 h0_5 h0_6 h0_7 h0_8 h0_9 h0_10 h0_11 h0_12 h1_4 h1_4k h1_4c h0_4 h0_4k h0_4c h1_5 h1_5k h1_5c h0_5 h0_5k h0_5c h1_6 h1_6k h1_6c h0_6 h0_6k h0_6c h1_7 h1_7k h1_7c h0_7 h0_7k h0_7c h1_8 h1_8k h1_8c h0_8 h0_8k h0_8c h1_9 h1_9k h1_9c h0_9 h0_9k h0_9c h1_10 h1_10k h1_10c h0_10 h0_10k h0_10c h1_11 h1_11k h1_11c h0_11 h0_11k h0_11c h1_12 h1_12k h1_12c h0_12 h0_12k h0_12c))) (va_Qv (fun (u : (Nat → Int32) × (Nat → Int32) × (Nat → Int32) × (Nat → Int32) × (Nat → Int32) × (Nat → Int32) × (Nat → Int32) × (Nat → Int32) × (Nat → Int32)) => (True)) (fun (u : (Nat → Int32) × (Nat → Int32) × (Nat → Int32) × (Nat → Int32) × (Nat → Int32) × (Nat → Int32) × (Nat → Int32) × (Nat → Int32) × (Nat → Int32)) t => va_P (dC, dI) vwCl (wd_c_X7_copyFrom h1 h1_f0 h1_f1 h1_f2 h1_f3 h1_4 h1_5 h1_6 h1_7 h1_8 h1_9 h1_10 h1_11 h1_12 h0 h1_f0 h1_f1 h1_f2 h1_f3 h0_4 h0_5 h0_6 h0_7 h0_8 h0_9 h0_10 h0_11 h0_12 h1_4 h1_4k h1_4c h0_4 h0_4k (u.1) h1_5 h1_5k h1_5c h0_5 h0_5k (u.2.1) h1_6 h1_6k h1_6c h0_6 h0_6k (u.2.2.1) h1_7 h1_7k h1_7c h0_7 h0_7k (u.2.2.2.1) h1_8 h1_8k h1_8c h0_8 h0_8k (u.2.2.2.2.1) h1_9 h1_9k h1_9c h0_9 h0_9k (u.2.2.2.2.2.1) h1_10 h1_10k h1_10c h0_10 h0_10k (u.2.2.2.2.2.2.1) h1_11 h1_11k h1_11c h0_11 h0_11k (u.2.2.2.2.2.2.2.1) h1_12 h1_12k h1_12c h0_12 h0_12k (u.2.2.2.2.2.2.2.2)) t.heap ∧ va_K (dC, dI) vwCl [] t ∧ va_D (va_A (wd_c_X7_copyFrom h1 h1_f0 h1_f1 h1_f2 h1_f3 h1_4 h1_5 h1_6 h1_7 h1_8 h1_9 h1_10 h1_11 h1_12 h0 h0_f0 h0_f1 h0_f2 h0_f3 h0_4 h0_5 h0_6 h0_7 h0_8 h0_9 h0_10 h0_11 h0_12 h1_4 h1_4k h1_4c h0_4 h0_4k h0_4c h1_5 h1_5k h1_5c h0_5 h0_5k h0_5c h1_6 h1_6k h1_6c h0_6 h0_6k h0_6c h1_7 h1_7k h1_7c h0_7 h0_7k h0_7c h1_8 h1_8k h1_8c h0_8 h0_8k h0_8c h1_9 h1_9k h1_9c h0_9 h0_9k h0_9c h1_10 h1_10k h1_10c h0_10 h0_10k h0_10c h1_11 h1_11k h1_11c h0_11 h0_11k h0_11c h1_12 h1_12k h1_12c h0_12 h0_12k h0_12c) sz) (wd_c_X7_copyFrom h1 h1_f0 h1_f1 h1_f2 h1_f3 h1_4 h1_5 h1_6 h1_7 h1_8 h1_9 h1_10 h1_11 h1_12 h0 h1_f0 h1_f1 h1_f2 h1_f3 h0_4 h0_5 h0_6 h0_7 h0_8 h0_9 h0_10 h0_11 h0_12 h1_4 h1_4k h1_4c h0_4 h0_4k (u.1) h1_5 h1_5k h1_5c h0_5 h0_5k (u.2.1) h1_6 h1_6k h1_6c h0_6 h0_6k (u.2.2.1) h1_7 h1_7k h1_7c h0_7 h0_7k (u.2.2.2.1) h1_8 h1_8k h1_8c h0_8 h0_8k (u.2.2.2.2.1) h1_9 h1_9k h1_9c h0_9 h0_9k (u.2.2.2.2.2.1) h1_10 h1_10k h1_10c h0_10 h0_10k (u.2.2.2.2.2.2.1) h1_11 h1_11k h1_11c h0_11 h0_11k (u.2.2.2.2.2.2.2.1) h1_12 h1_12k h1_12c h0_12 h0_12k (u.2.2.2.2.2.2.2.2))) (va_A (wd_c_X7_copyFrom h1 h1_f0 h1_f1 h1_f2 h1_f3 h1_4 h1_5 h1_6 h1_7 h1_8 h1_9 h1_10 h1_11 h1_12 h0 h0_f0 h0_f1 h0_f2 h0_f3 h0_4 h0_5 h0_6 h0_7 h0_8 h0_9 h0_10 h0_11 h0_12 h1_4 h1_4k h1_4c h0_4 h0_4k h0_4c h1_5 h1_5k h1_5c h0_5 h0_5k h0_5c h1_6 h1_6k h1_6c h0_6 h0_6k h0_6c h1_7 h1_7k h1_7c h0_7 h0_7k h0_7c h1_8 h1_8k h1_8c h0_8 h0_8k h0_8c h1_9 h1_9k h1_9c h0_9 h0_9k h0_9c h1_10 h1_10k h1_10c h0_10 h0_10k h0_10c h1_11 h1_11k h1_11c h0_11 h0_11k h0_11c h1_12 h1_12k h1_12c h0_12 h0_12k h0_12c) sz)) 0 0 (va_A (wd_c_X7_copyFrom h1 h1_f0 h1_f1 h1_f2 h1_f3 h1_4 h1_5 h1_6 h1_7 h1_8 h1_9 h1_10 h1_11 h1_12 h0 h0_f0 h0_f1 h0_f2 h0_f3 h0_4 h0_5 h0_6 h0_7 h0_8 h0_9 h0_10 h0_11 h0_12 h1_4 h1_4k h1_4c h0_4 h0_4k h0_4c h1_5 h1_5k h1_5c h0_5 h0_5k h0_5c h1_6 h1_6k h1_6c h0_6 h0_6k h0_6c h1_7 h1_7k h1_7c h0_7 h0_7k h0_7c h1_8 h1_8k h1_8c h0_8 h0_8k h0_8c h1_9 h1_9k h1_9c h0_9 h0_9k h0_9c h1_10 h1_10k h1_10c h0_10 h0_10k h0_10c h1_11 h1_11k h1_11c h0_11 h0_11k h0_11c h1_12 h1_12k h1_12c h0_12 h0_12k h0_12c) sz) := by
  refine Met.ofW (cc := cX7_copyFrom) (maxL := 2) (ret := none) (by decide +kernel) rfl ?_
  intro p e s m args below meth c s₁ B hml hv
  obtain ⟨rfl, hsz, hP, hK, hD0⟩ := hv
  have hx := B.exec
  have hb := B.bytes
  have hr := B.returns
  have hts := atoms_spec (ws := wf_c_X7_copyFrom) B.pre
  have hown : s.vm.findClass RX7 = some m.cls := findClass_of_methodNamed B.named
  have hlocks := B.notSynchronized
  subst hsz
  have hD := hD0.self (sz := s.heap.size)
  generalize hAe : va_A (wd_c_X7_copyFrom h1 h1_f0 h1_f1 h1_f2 h1_f3 h1_4 h1_5 h1_6 h1_7 h1_8 h1_9 h1_10 h1_11 h1_12 h0 h0_f0 h0_f1 h0_f2 h0_f3 h0_4 h0_5 h0_6 h0_7 h0_8 h0_9 h0_10 h0_11 h0_12 h1_4 h1_4k h1_4c h0_4 h0_4k h0_4c h1_5 h1_5k h1_5c h0_5 h0_5k h0_5c h1_6 h1_6k h1_6c h0_6 h0_6k h0_6c h1_7 h1_7k h1_7c h0_7 h0_7k h0_7c h1_8 h1_8k h1_8c h0_8 h0_8k h0_8c h1_9 h1_9k h1_9c h0_9 h0_9k h0_9c h1_10 h1_10k h1_10c h0_10 h0_10k h0_10c h1_11 h1_11k h1_11c h0_11 h0_11k h0_11c h1_12 h1_12k h1_12c h0_12 h0_12k h0_12c) s.heap.size = A at hD ⊢
  have hA : ∀ q : Nat, s.heap.size ≤ q → A q := fun q h => by rw [← hAe]; exact Or.inr h
  have hP : va_P (dC, dI) vwCl (wd_c_X7_copyFrom h1 h1_f0 h1_f1 h1_f2 h1_f3 h1_4 h1_5 h1_6 h1_7 h1_8 h1_9 h1_10 h1_11 h1_12 h0 h0_f0 h0_f1 h0_f2 h0_f3 h0_4 h0_5 h0_6 h0_7 h0_8 h0_9 h0_10 h0_11 h0_12 h1_4 h1_4k h1_4c h0_4 h0_4k h0_4c h1_5 h1_5k h1_5c h0_5 h0_5k h0_5c h1_6 h1_6k h1_6c h0_6 h0_6k h0_6c h1_7 h1_7k h1_7c h0_7 h0_7k h0_7c h1_8 h1_8k h1_8c h0_8 h0_8k h0_8c h1_9 h1_9k h1_9c h0_9 h0_9k h0_9c h1_10 h1_10k h1_10c h0_10 h0_10k h0_10c h1_11 h1_11k h1_11c h0_11 h0_11k h0_11c h1_12 h1_12k h1_12c h0_12 h0_12k h0_12c) s.heap := hP
  have hl := lv_entry ([.ref h0, .ref h1]) (n := 2) (Nat.le_of_ble_eq_true rfl)
  rw [lg_entry_eq]
  generalize (lg_sl ([.ref h0, .ref h1]) ++ List.replicate (2 - (lg_sl ([.ref h0, .ref h1])).length) Slot.unset).toArray = ls at hl ⊢
  have hl : lv_has ls 2 [(0, .ref h0), (1, .ref h1)] := hl
  obtain ⟨H, hHe⟩ : ∃ H : Heap, s.heap = H := ⟨_, rfl⟩
  have hS : va_S A s.heap H [] := by rw [hHe]; exact va_S.rf
  have hP : va_P (dC, dI) vwCl (wd_c_X7_copyFrom h1 h1_f0 h1_f1 h1_f2 h1_f3 h1_4 h1_5 h1_6 h1_7 h1_8 h1_9 h1_10 h1_11 h1_12 h0 h0_f0 h0_f1 h0_f2 h0_f3 h0_4 h0_5 h0_6 h0_7 h0_8 h0_9 h0_10 h0_11 h0_12 h1_4 h1_4k h1_4c h0_4 h0_4k h0_4c h1_5 h1_5k h1_5c h0_5 h0_5k h0_5c h1_6 h1_6k h1_6c h0_6 h0_6k h0_6c h1_7 h1_7k h1_7c h0_7 h0_7k h0_7c h1_8 h1_8k h1_8c h0_8 h0_8k h0_8c h1_9 h1_9k h1_9c h0_9 h0_9k h0_9c h1_10 h1_10k h1_10c h0_10 h0_10k h0_10c h1_11 h1_11k h1_11c h0_11 h0_11k h0_11c h1_12 h1_12k h1_12c h0_12 h0_12k h0_12c) H := by rw [← hHe]; exact hP
  rw [hHe]
  refine lv_aload_n hx hb dX7_copyFrom_0 rfl (lv_at hl 0 rfl) ?_
  as_aux_lemma =>
  refine lv_aload_n hx hb dX7_copyFrom_1 rfl (lv_at hl 1 rfl) ?_
  refine va_get (D := (dC, dI)) (ci := 7) (v := .int h1_f0) (C := RX7) (T := TX7) (N := 13) hx hb hts iw_c_X7_copyFrom_X7 hown hK hP 0 rfl rfl 0 (by decide +kernel) (hts (.fieldLink RX7 45 "BuoyVote$Sea" "wind" "I") (List.mem_of_getElem? (i := 1) rfl)) (fun _ h9 => h9) rfl dX7_copyFrom_2 ?_
  refine va_put (D := (dC, dI)) (ci := 7) (v := .int h1_f0) (ty := .int) (C := RX7) (T := TX7) (N := 13) hx hb hts iw_c_X7_copyFrom_X7 tyX7 tyX7_ok nmX7 hown hK hP hD hS 1 rfl rfl 0 (by decide +kernel) (hts (.fieldLink RX7 45 "BuoyVote$Sea" "wind" "I") (List.mem_of_getElem? (i := 1) rfl)) (fun _ h9 => h9) rfl (by decide +kernel) rfl rfl (Nat.le_of_ble_eq_true rfl) dX7_copyFrom_5 (fun H locs hP hD hS => ?_)
  have hP : va_P (dC, dI) vwCl (wd_c_X7_copyFrom h1 h1_f0 h1_f1 h1_f2 h1_f3 h1_4 h1_5 h1_6 h1_7 h1_8 h1_9 h1_10 h1_11 h1_12 h0 h1_f0 h0_f1 h0_f2 h0_f3 h0_4 h0_5 h0_6 h0_7 h0_8 h0_9 h0_10 h0_11 h0_12 h1_4 h1_4k h1_4c h0_4 h0_4k h0_4c h1_5 h1_5k h1_5c h0_5 h0_5k h0_5c h1_6 h1_6k h1_6c h0_6 h0_6k h0_6c h1_7 h1_7k h1_7c h0_7 h0_7k h0_7c h1_8 h1_8k h1_8c h0_8 h0_8k h0_8c h1_9 h1_9k h1_9c h0_9 h0_9k h0_9c h1_10 h1_10k h1_10c h0_10 h0_10k h0_10c h1_11 h1_11k h1_11c h0_11 h0_11k h0_11c h1_12 h1_12k h1_12c h0_12 h0_12k h0_12c) H := hP
  have hD : va_D A (wd_c_X7_copyFrom h1 h1_f0 h1_f1 h1_f2 h1_f3 h1_4 h1_5 h1_6 h1_7 h1_8 h1_9 h1_10 h1_11 h1_12 h0 h1_f0 h0_f1 h0_f2 h0_f3 h0_4 h0_5 h0_6 h0_7 h0_8 h0_9 h0_10 h0_11 h0_12 h1_4 h1_4k h1_4c h0_4 h0_4k h0_4c h1_5 h1_5k h1_5c h0_5 h0_5k h0_5c h1_6 h1_6k h1_6c h0_6 h0_6k h0_6c h1_7 h1_7k h1_7c h0_7 h0_7k h0_7c h1_8 h1_8k h1_8c h0_8 h0_8k h0_8c h1_9 h1_9k h1_9c h0_9 h0_9k h0_9c h1_10 h1_10k h1_10c h0_10 h0_10k h0_10c h1_11 h1_11k h1_11c h0_11 h0_11k h0_11c h1_12 h1_12k h1_12c h0_12 h0_12k h0_12c) := hD
  refine lv_aload_n hx hb dX7_copyFrom_8 rfl (lv_at hl 0 rfl) ?_
  refine lv_aload_n hx hb dX7_copyFrom_9 rfl (lv_at hl 1 rfl) ?_
  refine va_get (D := (dC, dI)) (ci := 7) (v := .int h1_f1) (C := RX7) (T := TX7) (N := 13) hx hb hts iw_c_X7_copyFrom_X7 hown hK hP 0 rfl rfl 1 (by decide +kernel) (hts (.fieldLink RX7 52 "BuoyVote$Sea" "way" "I") (List.mem_of_getElem? (i := 2) rfl)) (fun _ h9 => h9) rfl dX7_copyFrom_10 ?_
  refine va_put (D := (dC, dI)) (ci := 7) (v := .int h1_f1) (ty := .int) (C := RX7) (T := TX7) (N := 13) hx hb hts iw_c_X7_copyFrom_X7 tyX7 tyX7_ok nmX7 hown hK hP hD hS 1 rfl rfl 1 (by decide +kernel) (hts (.fieldLink RX7 52 "BuoyVote$Sea" "way" "I") (List.mem_of_getElem? (i := 2) rfl)) (fun _ h9 => h9) rfl (by decide +kernel) rfl rfl (Nat.le_of_ble_eq_true rfl) dX7_copyFrom_13 (fun H locs hP hD hS => ?_)
  have hP : va_P (dC, dI) vwCl (wd_c_X7_copyFrom h1 h1_f0 h1_f1 h1_f2 h1_f3 h1_4 h1_5 h1_6 h1_7 h1_8 h1_9 h1_10 h1_11 h1_12 h0 h1_f0 h1_f1 h0_f2 h0_f3 h0_4 h0_5 h0_6 h0_7 h0_8 h0_9 h0_10 h0_11 h0_12 h1_4 h1_4k h1_4c h0_4 h0_4k h0_4c h1_5 h1_5k h1_5c h0_5 h0_5k h0_5c h1_6 h1_6k h1_6c h0_6 h0_6k h0_6c h1_7 h1_7k h1_7c h0_7 h0_7k h0_7c h1_8 h1_8k h1_8c h0_8 h0_8k h0_8c h1_9 h1_9k h1_9c h0_9 h0_9k h0_9c h1_10 h1_10k h1_10c h0_10 h0_10k h0_10c h1_11 h1_11k h1_11c h0_11 h0_11k h0_11c h1_12 h1_12k h1_12c h0_12 h0_12k h0_12c) H := hP
  have hD : va_D A (wd_c_X7_copyFrom h1 h1_f0 h1_f1 h1_f2 h1_f3 h1_4 h1_5 h1_6 h1_7 h1_8 h1_9 h1_10 h1_11 h1_12 h0 h1_f0 h1_f1 h0_f2 h0_f3 h0_4 h0_5 h0_6 h0_7 h0_8 h0_9 h0_10 h0_11 h0_12 h1_4 h1_4k h1_4c h0_4 h0_4k h0_4c h1_5 h1_5k h1_5c h0_5 h0_5k h0_5c h1_6 h1_6k h1_6c h0_6 h0_6k h0_6c h1_7 h1_7k h1_7c h0_7 h0_7k h0_7c h1_8 h1_8k h1_8c h0_8 h0_8k h0_8c h1_9 h1_9k h1_9c h0_9 h0_9k h0_9c h1_10 h1_10k h1_10c h0_10 h0_10k h0_10c h1_11 h1_11k h1_11c h0_11 h0_11k h0_11c h1_12 h1_12k h1_12c h0_12 h0_12k h0_12c) := hD
  refine lv_aload_n hx hb dX7_copyFrom_16 rfl (lv_at hl 0 rfl) ?_
  refine lv_aload_n hx hb dX7_copyFrom_17 rfl (lv_at hl 1 rfl) ?_
  refine va_get (D := (dC, dI)) (ci := 7) (v := .int h1_f2) (C := RX7) (T := TX7) (N := 13) hx hb hts iw_c_X7_copyFrom_X7 hown hK hP 0 rfl rfl 2 (by decide +kernel) (hts (.fieldLink RX7 55 "BuoyVote$Sea" "hour" "I") (List.mem_of_getElem? (i := 3) rfl)) (fun _ h9 => h9) rfl dX7_copyFrom_18 ?_
  as_aux_lemma =>
  refine va_put (D := (dC, dI)) (ci := 7) (v := .int h1_f2) (ty := .int) (C := RX7) (T := TX7) (N := 13) hx hb hts iw_c_X7_copyFrom_X7 tyX7 tyX7_ok nmX7 hown hK hP hD hS 1 rfl rfl 2 (by decide +kernel) (hts (.fieldLink RX7 55 "BuoyVote$Sea" "hour" "I") (List.mem_of_getElem? (i := 3) rfl)) (fun _ h9 => h9) rfl (by decide +kernel) rfl rfl (Nat.le_of_ble_eq_true rfl) dX7_copyFrom_21 (fun H locs hP hD hS => ?_)
  have hP : va_P (dC, dI) vwCl (wd_c_X7_copyFrom h1 h1_f0 h1_f1 h1_f2 h1_f3 h1_4 h1_5 h1_6 h1_7 h1_8 h1_9 h1_10 h1_11 h1_12 h0 h1_f0 h1_f1 h1_f2 h0_f3 h0_4 h0_5 h0_6 h0_7 h0_8 h0_9 h0_10 h0_11 h0_12 h1_4 h1_4k h1_4c h0_4 h0_4k h0_4c h1_5 h1_5k h1_5c h0_5 h0_5k h0_5c h1_6 h1_6k h1_6c h0_6 h0_6k h0_6c h1_7 h1_7k h1_7c h0_7 h0_7k h0_7c h1_8 h1_8k h1_8c h0_8 h0_8k h0_8c h1_9 h1_9k h1_9c h0_9 h0_9k h0_9c h1_10 h1_10k h1_10c h0_10 h0_10k h0_10c h1_11 h1_11k h1_11c h0_11 h0_11k h0_11c h1_12 h1_12k h1_12c h0_12 h0_12k h0_12c) H := hP
  have hD : va_D A (wd_c_X7_copyFrom h1 h1_f0 h1_f1 h1_f2 h1_f3 h1_4 h1_5 h1_6 h1_7 h1_8 h1_9 h1_10 h1_11 h1_12 h0 h1_f0 h1_f1 h1_f2 h0_f3 h0_4 h0_5 h0_6 h0_7 h0_8 h0_9 h0_10 h0_11 h0_12 h1_4 h1_4k h1_4c h0_4 h0_4k h0_4c h1_5 h1_5k h1_5c h0_5 h0_5k h0_5c h1_6 h1_6k h1_6c h0_6 h0_6k h0_6c h1_7 h1_7k h1_7c h0_7 h0_7k h0_7c h1_8 h1_8k h1_8c h0_8 h0_8k h0_8c h1_9 h1_9k h1_9c h0_9 h0_9k h0_9c h1_10 h1_10k h1_10c h0_10 h0_10k h0_10c h1_11 h1_11k h1_11c h0_11 h0_11k h0_11c h1_12 h1_12k h1_12c h0_12 h0_12k h0_12c) := hD
  refine lv_aload_n hx hb dX7_copyFrom_24 rfl (lv_at hl 0 rfl) ?_
  refine lv_aload_n hx hb dX7_copyFrom_25 rfl (lv_at hl 1 rfl) ?_
  refine va_get (D := (dC, dI)) (ci := 7) (v := .int h1_f3) (C := RX7) (T := TX7) (N := 13) hx hb hts iw_c_X7_copyFrom_X7 hown hK hP 0 rfl rfl 3 (by decide +kernel) (hts (.fieldLink RX7 58 "BuoyVote$Sea" "logged" "I") (List.mem_of_getElem? (i := 4) rfl)) (fun _ h9 => h9) rfl dX7_copyFrom_26 ?_
  refine va_put (D := (dC, dI)) (ci := 7) (v := .int h1_f3) (ty := .int) (C := RX7) (T := TX7) (N := 13) hx hb hts iw_c_X7_copyFrom_X7 tyX7 tyX7_ok nmX7 hown hK hP hD hS 1 rfl rfl 3 (by decide +kernel) (hts (.fieldLink RX7 58 "BuoyVote$Sea" "logged" "I") (List.mem_of_getElem? (i := 4) rfl)) (fun _ h9 => h9) rfl (by decide +kernel) rfl rfl (Nat.le_of_ble_eq_true rfl) dX7_copyFrom_29 (fun H locs hP hD hS => ?_)
  have hP : va_P (dC, dI) vwCl (wd_c_X7_copyFrom h1 h1_f0 h1_f1 h1_f2 h1_f3 h1_4 h1_5 h1_6 h1_7 h1_8 h1_9 h1_10 h1_11 h1_12 h0 h1_f0 h1_f1 h1_f2 h1_f3 h0_4 h0_5 h0_6 h0_7 h0_8 h0_9 h0_10 h0_11 h0_12 h1_4 h1_4k h1_4c h0_4 h0_4k h0_4c h1_5 h1_5k h1_5c h0_5 h0_5k h0_5c h1_6 h1_6k h1_6c h0_6 h0_6k h0_6c h1_7 h1_7k h1_7c h0_7 h0_7k h0_7c h1_8 h1_8k h1_8c h0_8 h0_8k h0_8c h1_9 h1_9k h1_9c h0_9 h0_9k h0_9c h1_10 h1_10k h1_10c h0_10 h0_10k h0_10c h1_11 h1_11k h1_11c h0_11 h0_11k h0_11c h1_12 h1_12k h1_12c h0_12 h0_12k h0_12c) H := hP
  have hD : va_D A (wd_c_X7_copyFrom h1 h1_f0 h1_f1 h1_f2 h1_f3 h1_4 h1_5 h1_6 h1_7 h1_8 h1_9 h1_10 h1_11 h1_12 h0 h1_f0 h1_f1 h1_f2 h1_f3 h0_4 h0_5 h0_6 h0_7 h0_8 h0_9 h0_10 h0_11 h0_12 h1_4 h1_4k h1_4c h0_4 h0_4k h0_4c h1_5 h1_5k h1_5c h0_5 h0_5k h0_5c h1_6 h1_6k h1_6c h0_6 h0_6k h0_6c h1_7 h1_7k h1_7c h0_7 h0_7k h0_7c h1_8 h1_8k h1_8c h0_8 h0_8k h0_8c h1_9 h1_9k h1_9c h0_9 h0_9k h0_9c h1_10 h1_10k h1_10c h0_10 h0_10k h0_10c h1_11 h1_11k h1_11c h0_11 h0_11k h0_11c h1_12 h1_12k h1_12c h0_12 h0_12k h0_12c) := hD
  refine lv_aload_n hx hb dX7_copyFrom_32 rfl (lv_at hl 1 rfl) ?_
  refine va_get (D := (dC, dI)) (ci := 7) (v := .ref h1_4) (C := RX7) (T := TX7) (N := 13) hx hb hts iw_c_X7_copyFrom_X7 hown hK hP 0 rfl rfl 4 (by decide +kernel) (hts (.fieldLink RX7 9 "BuoyVote$Sea" "x" "[I") (List.mem_of_getElem? (i := 5) rfl)) (fun _ h9 => h9) rfl dX7_copyFrom_33 ?_
  refine lv_iconst (v := 0) hx hb dX7_copyFrom_36 kc_iconst_0 ?_
  refine lv_aload_n hx hb dX7_copyFrom_37 rfl (lv_at hl 0 rfl) ?_
  refine va_get (D := (dC, dI)) (ci := 7) (v := .ref h0_4) (C := RX7) (T := TX7) (N := 13) hx hb hts iw_c_X7_copyFrom_X7 hown hK hP 1 rfl rfl 4 (by decide +kernel) (hts (.fieldLink RX7 9 "BuoyVote$Sea" "x" "[I") (List.mem_of_getElem? (i := 5) rfl)) (fun _ h9 => h9) rfl dX7_copyFrom_38 ?_
  as_aux_lemma =>
  refine lv_iconst (v := 0) hx hb dX7_copyFrom_41 kc_iconst_0 ?_
  refine lv_iconst (v := 3) hx hb dX7_copyFrom_42 kc_iconst_3 ?_
  refine va_copyi hx hb (by rw [hml]; exact hl.1.symm) hown (hts (.methodLink RX7 88 arraycopyName) (List.mem_of_getElem? (i := 6) rfl)) (hts (.native arraycopyName) (List.mem_of_getElem? (i := 7) rfl)) (hts (.static arraycopyName) (List.mem_of_getElem? (i := 8) rfl)) (hts (.initialized "java/lang/System") (List.mem_of_getElem? (i := 9) rfl)) hK hP hD hS 2 3 0 1 rfl rfl rfl rfl rfl (by decide +kernel) (by decide +kernel) (by decide +kernel) (by decide +kernel) (by decide +kernel) (fun _ _ => rfl) (Nat.le_of_ble_eq_true rfl) (Nat.le_of_ble_eq_true rfl) dX7_copyFrom_43 (fun H locs hP hD hS => ?_)
  have hP : va_P (dC, dI) vwCl (wd_c_X7_copyFrom h1 h1_f0 h1_f1 h1_f2 h1_f3 h1_4 h1_5 h1_6 h1_7 h1_8 h1_9 h1_10 h1_11 h1_12 h0 h1_f0 h1_f1 h1_f2 h1_f3 h0_4 h0_5 h0_6 h0_7 h0_8 h0_9 h0_10 h0_11 h0_12 h1_4 h1_4k h1_4c h0_4 h0_4k (va_cpy h1_4c h0_4c (0 : Int32).toNatClampNeg (0 : Int32).toNatClampNeg (3 : Int32).toNatClampNeg) h1_5 h1_5k h1_5c h0_5 h0_5k h0_5c h1_6 h1_6k h1_6c h0_6 h0_6k h0_6c h1_7 h1_7k h1_7c h0_7 h0_7k h0_7c h1_8 h1_8k h1_8c h0_8 h0_8k h0_8c h1_9 h1_9k h1_9c h0_9 h0_9k h0_9c h1_10 h1_10k h1_10c h0_10 h0_10k h0_10c h1_11 h1_11k h1_11c h0_11 h0_11k h0_11c h1_12 h1_12k h1_12c h0_12 h0_12k h0_12c) H := hP
  have hD : va_D A (wd_c_X7_copyFrom h1 h1_f0 h1_f1 h1_f2 h1_f3 h1_4 h1_5 h1_6 h1_7 h1_8 h1_9 h1_10 h1_11 h1_12 h0 h1_f0 h1_f1 h1_f2 h1_f3 h0_4 h0_5 h0_6 h0_7 h0_8 h0_9 h0_10 h0_11 h0_12 h1_4 h1_4k h1_4c h0_4 h0_4k (va_cpy h1_4c h0_4c (0 : Int32).toNatClampNeg (0 : Int32).toNatClampNeg (3 : Int32).toNatClampNeg) h1_5 h1_5k h1_5c h0_5 h0_5k h0_5c h1_6 h1_6k h1_6c h0_6 h0_6k h0_6c h1_7 h1_7k h1_7c h0_7 h0_7k h0_7c h1_8 h1_8k h1_8c h0_8 h0_8k h0_8c h1_9 h1_9k h1_9c h0_9 h0_9k h0_9c h1_10 h1_10k h1_10c h0_10 h0_10k h0_10c h1_11 h1_11k h1_11c h0_11 h0_11k h0_11c h1_12 h1_12k h1_12c h0_12 h0_12k h0_12c) := hD
  generalize (va_cpy h1_4c h0_4c (0 : Int32).toNatClampNeg (0 : Int32).toNatClampNeg (3 : Int32).toNatClampNeg) = w_1 at hP hD
  have hP : va_P (dC, dI) vwCl (wd_c_X7_copyFrom h1 h1_f0 h1_f1 h1_f2 h1_f3 h1_4 h1_5 h1_6 h1_7 h1_8 h1_9 h1_10 h1_11 h1_12 h0 h1_f0 h1_f1 h1_f2 h1_f3 h0_4 h0_5 h0_6 h0_7 h0_8 h0_9 h0_10 h0_11 h0_12 h1_4 h1_4k h1_4c h0_4 h0_4k w_1 h1_5 h1_5k h1_5c h0_5 h0_5k h0_5c h1_6 h1_6k h1_6c h0_6 h0_6k h0_6c h1_7 h1_7k h1_7c h0_7 h0_7k h0_7c h1_8 h1_8k h1_8c h0_8 h0_8k h0_8c h1_9 h1_9k h1_9c h0_9 h0_9k h0_9c h1_10 h1_10k h1_10c h0_10 h0_10k h0_10c h1_11 h1_11k h1_11c h0_11 h0_11k h0_11c h1_12 h1_12k h1_12c h0_12 h0_12k h0_12c) H := hP
  have hD : va_D A (wd_c_X7_copyFrom h1 h1_f0 h1_f1 h1_f2 h1_f3 h1_4 h1_5 h1_6 h1_7 h1_8 h1_9 h1_10 h1_11 h1_12 h0 h1_f0 h1_f1 h1_f2 h1_f3 h0_4 h0_5 h0_6 h0_7 h0_8 h0_9 h0_10 h0_11 h0_12 h1_4 h1_4k h1_4c h0_4 h0_4k w_1 h1_5 h1_5k h1_5c h0_5 h0_5k h0_5c h1_6 h1_6k h1_6c h0_6 h0_6k h0_6c h1_7 h1_7k h1_7c h0_7 h0_7k h0_7c h1_8 h1_8k h1_8c h0_8 h0_8k h0_8c h1_9 h1_9k h1_9c h0_9 h0_9k h0_9c h1_10 h1_10k h1_10c h0_10 h0_10k h0_10c h1_11 h1_11k h1_11c h0_11 h0_11k h0_11c h1_12 h1_12k h1_12c h0_12 h0_12k h0_12c) := hD
  refine lv_aload_n hx hb dX7_copyFrom_46 rfl (lv_at hl 1 rfl) ?_
  refine va_get (D := (dC, dI)) (ci := 7) (v := .ref h1_5) (C := RX7) (T := TX7) (N := 13) hx hb hts iw_c_X7_copyFrom_X7 hown hK hP 0 rfl rfl 5 (by decide +kernel) (hts (.fieldLink RX7 15 "BuoyVote$Sea" "y" "[I") (List.mem_of_getElem? (i := 10) rfl)) (fun _ h9 => h9) rfl dX7_copyFrom_47 ?_
  refine lv_iconst (v := 0) hx hb dX7_copyFrom_50 kc_iconst_0 ?_
  refine lv_aload_n hx hb dX7_copyFrom_51 rfl (lv_at hl 0 rfl) ?_
  refine va_get (D := (dC, dI)) (ci := 7) (v := .ref h0_5) (C := RX7) (T := TX7) (N := 13) hx hb hts iw_c_X7_copyFrom_X7 hown hK hP 1 rfl rfl 5 (by decide +kernel) (hts (.fieldLink RX7 15 "BuoyVote$Sea" "y" "[I") (List.mem_of_getElem? (i := 10) rfl)) (fun _ h9 => h9) rfl dX7_copyFrom_52 ?_
  refine lv_iconst (v := 0) hx hb dX7_copyFrom_55 kc_iconst_0 ?_
  as_aux_lemma =>
  refine lv_iconst (v := 3) hx hb dX7_copyFrom_56 kc_iconst_3 ?_
  refine va_copyi hx hb (by rw [hml]; exact hl.1.symm) hown (hts (.methodLink RX7 88 arraycopyName) (List.mem_of_getElem? (i := 6) rfl)) (hts (.native arraycopyName) (List.mem_of_getElem? (i := 7) rfl)) (hts (.static arraycopyName) (List.mem_of_getElem? (i := 8) rfl)) (hts (.initialized "java/lang/System") (List.mem_of_getElem? (i := 9) rfl)) hK hP hD hS 4 5 2 3 rfl rfl rfl rfl rfl (by decide +kernel) (by decide +kernel) (by decide +kernel) (by decide +kernel) (by decide +kernel) (fun _ _ => rfl) (Nat.le_of_ble_eq_true rfl) (Nat.le_of_ble_eq_true rfl) dX7_copyFrom_57 (fun H locs hP hD hS => ?_)
  have hP : va_P (dC, dI) vwCl (wd_c_X7_copyFrom h1 h1_f0 h1_f1 h1_f2 h1_f3 h1_4 h1_5 h1_6 h1_7 h1_8 h1_9 h1_10 h1_11 h1_12 h0 h1_f0 h1_f1 h1_f2 h1_f3 h0_4 h0_5 h0_6 h0_7 h0_8 h0_9 h0_10 h0_11 h0_12 h1_4 h1_4k h1_4c h0_4 h0_4k w_1 h1_5 h1_5k h1_5c h0_5 h0_5k (va_cpy h1_5c h0_5c (0 : Int32).toNatClampNeg (0 : Int32).toNatClampNeg (3 : Int32).toNatClampNeg) h1_6 h1_6k h1_6c h0_6 h0_6k h0_6c h1_7 h1_7k h1_7c h0_7 h0_7k h0_7c h1_8 h1_8k h1_8c h0_8 h0_8k h0_8c h1_9 h1_9k h1_9c h0_9 h0_9k h0_9c h1_10 h1_10k h1_10c h0_10 h0_10k h0_10c h1_11 h1_11k h1_11c h0_11 h0_11k h0_11c h1_12 h1_12k h1_12c h0_12 h0_12k h0_12c) H := hP
  have hD : va_D A (wd_c_X7_copyFrom h1 h1_f0 h1_f1 h1_f2 h1_f3 h1_4 h1_5 h1_6 h1_7 h1_8 h1_9 h1_10 h1_11 h1_12 h0 h1_f0 h1_f1 h1_f2 h1_f3 h0_4 h0_5 h0_6 h0_7 h0_8 h0_9 h0_10 h0_11 h0_12 h1_4 h1_4k h1_4c h0_4 h0_4k w_1 h1_5 h1_5k h1_5c h0_5 h0_5k (va_cpy h1_5c h0_5c (0 : Int32).toNatClampNeg (0 : Int32).toNatClampNeg (3 : Int32).toNatClampNeg) h1_6 h1_6k h1_6c h0_6 h0_6k h0_6c h1_7 h1_7k h1_7c h0_7 h0_7k h0_7c h1_8 h1_8k h1_8c h0_8 h0_8k h0_8c h1_9 h1_9k h1_9c h0_9 h0_9k h0_9c h1_10 h1_10k h1_10c h0_10 h0_10k h0_10c h1_11 h1_11k h1_11c h0_11 h0_11k h0_11c h1_12 h1_12k h1_12c h0_12 h0_12k h0_12c) := hD
  generalize (va_cpy h1_5c h0_5c (0 : Int32).toNatClampNeg (0 : Int32).toNatClampNeg (3 : Int32).toNatClampNeg) = w_2 at hP hD
  have hP : va_P (dC, dI) vwCl (wd_c_X7_copyFrom h1 h1_f0 h1_f1 h1_f2 h1_f3 h1_4 h1_5 h1_6 h1_7 h1_8 h1_9 h1_10 h1_11 h1_12 h0 h1_f0 h1_f1 h1_f2 h1_f3 h0_4 h0_5 h0_6 h0_7 h0_8 h0_9 h0_10 h0_11 h0_12 h1_4 h1_4k h1_4c h0_4 h0_4k w_1 h1_5 h1_5k h1_5c h0_5 h0_5k w_2 h1_6 h1_6k h1_6c h0_6 h0_6k h0_6c h1_7 h1_7k h1_7c h0_7 h0_7k h0_7c h1_8 h1_8k h1_8c h0_8 h0_8k h0_8c h1_9 h1_9k h1_9c h0_9 h0_9k h0_9c h1_10 h1_10k h1_10c h0_10 h0_10k h0_10c h1_11 h1_11k h1_11c h0_11 h0_11k h0_11c h1_12 h1_12k h1_12c h0_12 h0_12k h0_12c) H := hP
  have hD : va_D A (wd_c_X7_copyFrom h1 h1_f0 h1_f1 h1_f2 h1_f3 h1_4 h1_5 h1_6 h1_7 h1_8 h1_9 h1_10 h1_11 h1_12 h0 h1_f0 h1_f1 h1_f2 h1_f3 h0_4 h0_5 h0_6 h0_7 h0_8 h0_9 h0_10 h0_11 h0_12 h1_4 h1_4k h1_4c h0_4 h0_4k w_1 h1_5 h1_5k h1_5c h0_5 h0_5k w_2 h1_6 h1_6k h1_6c h0_6 h0_6k h0_6c h1_7 h1_7k h1_7c h0_7 h0_7k h0_7c h1_8 h1_8k h1_8c h0_8 h0_8k h0_8c h1_9 h1_9k h1_9c h0_9 h0_9k h0_9c h1_10 h1_10k h1_10c h0_10 h0_10k h0_10c h1_11 h1_11k h1_11c h0_11 h0_11k h0_11c h1_12 h1_12k h1_12c h0_12 h0_12k h0_12c) := hD
  refine lv_aload_n hx hb dX7_copyFrom_60 rfl (lv_at hl 1 rfl) ?_
  refine va_get (D := (dC, dI)) (ci := 7) (v := .ref h1_6) (C := RX7) (T := TX7) (N := 13) hx hb hts iw_c_X7_copyFrom_X7 hown hK hP 0 rfl rfl 6 (by decide +kernel) (hts (.fieldLink RX7 18 "BuoyVote$Sea" "goalX" "[I") (List.mem_of_getElem? (i := 11) rfl)) (fun _ h9 => h9) rfl dX7_copyFrom_61 ?_
  refine lv_iconst (v := 0) hx hb dX7_copyFrom_64 kc_iconst_0 ?_
  refine lv_aload_n hx hb dX7_copyFrom_65 rfl (lv_at hl 0 rfl) ?_
  refine va_get (D := (dC, dI)) (ci := 7) (v := .ref h0_6) (C := RX7) (T := TX7) (N := 13) hx hb hts iw_c_X7_copyFrom_X7 hown hK hP 1 rfl rfl 6 (by decide +kernel) (hts (.fieldLink RX7 18 "BuoyVote$Sea" "goalX" "[I") (List.mem_of_getElem? (i := 11) rfl)) (fun _ h9 => h9) rfl dX7_copyFrom_66 ?_
  refine lv_iconst (v := 0) hx hb dX7_copyFrom_69 kc_iconst_0 ?_
  refine lv_iconst (v := 3) hx hb dX7_copyFrom_70 kc_iconst_3 ?_
  as_aux_lemma =>
  refine va_copyi hx hb (by rw [hml]; exact hl.1.symm) hown (hts (.methodLink RX7 88 arraycopyName) (List.mem_of_getElem? (i := 6) rfl)) (hts (.native arraycopyName) (List.mem_of_getElem? (i := 7) rfl)) (hts (.static arraycopyName) (List.mem_of_getElem? (i := 8) rfl)) (hts (.initialized "java/lang/System") (List.mem_of_getElem? (i := 9) rfl)) hK hP hD hS 6 7 4 5 rfl rfl rfl rfl rfl (by decide +kernel) (by decide +kernel) (by decide +kernel) (by decide +kernel) (by decide +kernel) (fun _ _ => rfl) (Nat.le_of_ble_eq_true rfl) (Nat.le_of_ble_eq_true rfl) dX7_copyFrom_71 (fun H locs hP hD hS => ?_)
  have hP : va_P (dC, dI) vwCl (wd_c_X7_copyFrom h1 h1_f0 h1_f1 h1_f2 h1_f3 h1_4 h1_5 h1_6 h1_7 h1_8 h1_9 h1_10 h1_11 h1_12 h0 h1_f0 h1_f1 h1_f2 h1_f3 h0_4 h0_5 h0_6 h0_7 h0_8 h0_9 h0_10 h0_11 h0_12 h1_4 h1_4k h1_4c h0_4 h0_4k w_1 h1_5 h1_5k h1_5c h0_5 h0_5k w_2 h1_6 h1_6k h1_6c h0_6 h0_6k (va_cpy h1_6c h0_6c (0 : Int32).toNatClampNeg (0 : Int32).toNatClampNeg (3 : Int32).toNatClampNeg) h1_7 h1_7k h1_7c h0_7 h0_7k h0_7c h1_8 h1_8k h1_8c h0_8 h0_8k h0_8c h1_9 h1_9k h1_9c h0_9 h0_9k h0_9c h1_10 h1_10k h1_10c h0_10 h0_10k h0_10c h1_11 h1_11k h1_11c h0_11 h0_11k h0_11c h1_12 h1_12k h1_12c h0_12 h0_12k h0_12c) H := hP
  have hD : va_D A (wd_c_X7_copyFrom h1 h1_f0 h1_f1 h1_f2 h1_f3 h1_4 h1_5 h1_6 h1_7 h1_8 h1_9 h1_10 h1_11 h1_12 h0 h1_f0 h1_f1 h1_f2 h1_f3 h0_4 h0_5 h0_6 h0_7 h0_8 h0_9 h0_10 h0_11 h0_12 h1_4 h1_4k h1_4c h0_4 h0_4k w_1 h1_5 h1_5k h1_5c h0_5 h0_5k w_2 h1_6 h1_6k h1_6c h0_6 h0_6k (va_cpy h1_6c h0_6c (0 : Int32).toNatClampNeg (0 : Int32).toNatClampNeg (3 : Int32).toNatClampNeg) h1_7 h1_7k h1_7c h0_7 h0_7k h0_7c h1_8 h1_8k h1_8c h0_8 h0_8k h0_8c h1_9 h1_9k h1_9c h0_9 h0_9k h0_9c h1_10 h1_10k h1_10c h0_10 h0_10k h0_10c h1_11 h1_11k h1_11c h0_11 h0_11k h0_11c h1_12 h1_12k h1_12c h0_12 h0_12k h0_12c) := hD
  generalize (va_cpy h1_6c h0_6c (0 : Int32).toNatClampNeg (0 : Int32).toNatClampNeg (3 : Int32).toNatClampNeg) = w_3 at hP hD
  have hP : va_P (dC, dI) vwCl (wd_c_X7_copyFrom h1 h1_f0 h1_f1 h1_f2 h1_f3 h1_4 h1_5 h1_6 h1_7 h1_8 h1_9 h1_10 h1_11 h1_12 h0 h1_f0 h1_f1 h1_f2 h1_f3 h0_4 h0_5 h0_6 h0_7 h0_8 h0_9 h0_10 h0_11 h0_12 h1_4 h1_4k h1_4c h0_4 h0_4k w_1 h1_5 h1_5k h1_5c h0_5 h0_5k w_2 h1_6 h1_6k h1_6c h0_6 h0_6k w_3 h1_7 h1_7k h1_7c h0_7 h0_7k h0_7c h1_8 h1_8k h1_8c h0_8 h0_8k h0_8c h1_9 h1_9k h1_9c h0_9 h0_9k h0_9c h1_10 h1_10k h1_10c h0_10 h0_10k h0_10c h1_11 h1_11k h1_11c h0_11 h0_11k h0_11c h1_12 h1_12k h1_12c h0_12 h0_12k h0_12c) H := hP
  have hD : va_D A (wd_c_X7_copyFrom h1 h1_f0 h1_f1 h1_f2 h1_f3 h1_4 h1_5 h1_6 h1_7 h1_8 h1_9 h1_10 h1_11 h1_12 h0 h1_f0 h1_f1 h1_f2 h1_f3 h0_4 h0_5 h0_6 h0_7 h0_8 h0_9 h0_10 h0_11 h0_12 h1_4 h1_4k h1_4c h0_4 h0_4k w_1 h1_5 h1_5k h1_5c h0_5 h0_5k w_2 h1_6 h1_6k h1_6c h0_6 h0_6k w_3 h1_7 h1_7k h1_7c h0_7 h0_7k h0_7c h1_8 h1_8k h1_8c h0_8 h0_8k h0_8c h1_9 h1_9k h1_9c h0_9 h0_9k h0_9c h1_10 h1_10k h1_10c h0_10 h0_10k h0_10c h1_11 h1_11k h1_11c h0_11 h0_11k h0_11c h1_12 h1_12k h1_12c h0_12 h0_12k h0_12c) := hD
  refine lv_aload_n hx hb dX7_copyFrom_74 rfl (lv_at hl 1 rfl) ?_
  refine va_get (D := (dC, dI)) (ci := 7) (v := .ref h1_7) (C := RX7) (T := TX7) (N := 13) hx hb hts iw_c_X7_copyFrom_X7 hown hK hP 0 rfl rfl 7 (by decide +kernel) (hts (.fieldLink RX7 21 "BuoyVote$Sea" "goalY" "[I") (List.mem_of_getElem? (i := 12) rfl)) (fun _ h9 => h9) rfl dX7_copyFrom_75 ?_
  refine lv_iconst (v := 0) hx hb dX7_copyFrom_78 kc_iconst_0 ?_
  refine lv_aload_n hx hb dX7_copyFrom_79 rfl (lv_at hl 0 rfl) ?_
  refine va_get (D := (dC, dI)) (ci := 7) (v := .ref h0_7) (C := RX7) (T := TX7) (N := 13) hx hb hts iw_c_X7_copyFrom_X7 hown hK hP 1 rfl rfl 7 (by decide +kernel) (hts (.fieldLink RX7 21 "BuoyVote$Sea" "goalY" "[I") (List.mem_of_getElem? (i := 12) rfl)) (fun _ h9 => h9) rfl dX7_copyFrom_80 ?_
  refine lv_iconst (v := 0) hx hb dX7_copyFrom_83 kc_iconst_0 ?_
  refine lv_iconst (v := 3) hx hb dX7_copyFrom_84 kc_iconst_3 ?_
  refine va_copyi hx hb (by rw [hml]; exact hl.1.symm) hown (hts (.methodLink RX7 88 arraycopyName) (List.mem_of_getElem? (i := 6) rfl)) (hts (.native arraycopyName) (List.mem_of_getElem? (i := 7) rfl)) (hts (.static arraycopyName) (List.mem_of_getElem? (i := 8) rfl)) (hts (.initialized "java/lang/System") (List.mem_of_getElem? (i := 9) rfl)) hK hP hD hS 8 9 6 7 rfl rfl rfl rfl rfl (by decide +kernel) (by decide +kernel) (by decide +kernel) (by decide +kernel) (by decide +kernel) (fun _ _ => rfl) (Nat.le_of_ble_eq_true rfl) (Nat.le_of_ble_eq_true rfl) dX7_copyFrom_85 (fun H locs hP hD hS => ?_)
  as_aux_lemma =>
  have hP : va_P (dC, dI) vwCl (wd_c_X7_copyFrom h1 h1_f0 h1_f1 h1_f2 h1_f3 h1_4 h1_5 h1_6 h1_7 h1_8 h1_9 h1_10 h1_11 h1_12 h0 h1_f0 h1_f1 h1_f2 h1_f3 h0_4 h0_5 h0_6 h0_7 h0_8 h0_9 h0_10 h0_11 h0_12 h1_4 h1_4k h1_4c h0_4 h0_4k w_1 h1_5 h1_5k h1_5c h0_5 h0_5k w_2 h1_6 h1_6k h1_6c h0_6 h0_6k w_3 h1_7 h1_7k h1_7c h0_7 h0_7k (va_cpy h1_7c h0_7c (0 : Int32).toNatClampNeg (0 : Int32).toNatClampNeg (3 : Int32).toNatClampNeg) h1_8 h1_8k h1_8c h0_8 h0_8k h0_8c h1_9 h1_9k h1_9c h0_9 h0_9k h0_9c h1_10 h1_10k h1_10c h0_10 h0_10k h0_10c h1_11 h1_11k h1_11c h0_11 h0_11k h0_11c h1_12 h1_12k h1_12c h0_12 h0_12k h0_12c) H := hP
  have hD : va_D A (wd_c_X7_copyFrom h1 h1_f0 h1_f1 h1_f2 h1_f3 h1_4 h1_5 h1_6 h1_7 h1_8 h1_9 h1_10 h1_11 h1_12 h0 h1_f0 h1_f1 h1_f2 h1_f3 h0_4 h0_5 h0_6 h0_7 h0_8 h0_9 h0_10 h0_11 h0_12 h1_4 h1_4k h1_4c h0_4 h0_4k w_1 h1_5 h1_5k h1_5c h0_5 h0_5k w_2 h1_6 h1_6k h1_6c h0_6 h0_6k w_3 h1_7 h1_7k h1_7c h0_7 h0_7k (va_cpy h1_7c h0_7c (0 : Int32).toNatClampNeg (0 : Int32).toNatClampNeg (3 : Int32).toNatClampNeg) h1_8 h1_8k h1_8c h0_8 h0_8k h0_8c h1_9 h1_9k h1_9c h0_9 h0_9k h0_9c h1_10 h1_10k h1_10c h0_10 h0_10k h0_10c h1_11 h1_11k h1_11c h0_11 h0_11k h0_11c h1_12 h1_12k h1_12c h0_12 h0_12k h0_12c) := hD
  generalize (va_cpy h1_7c h0_7c (0 : Int32).toNatClampNeg (0 : Int32).toNatClampNeg (3 : Int32).toNatClampNeg) = w_4 at hP hD
  have hP : va_P (dC, dI) vwCl (wd_c_X7_copyFrom h1 h1_f0 h1_f1 h1_f2 h1_f3 h1_4 h1_5 h1_6 h1_7 h1_8 h1_9 h1_10 h1_11 h1_12 h0 h1_f0 h1_f1 h1_f2 h1_f3 h0_4 h0_5 h0_6 h0_7 h0_8 h0_9 h0_10 h0_11 h0_12 h1_4 h1_4k h1_4c h0_4 h0_4k w_1 h1_5 h1_5k h1_5c h0_5 h0_5k w_2 h1_6 h1_6k h1_6c h0_6 h0_6k w_3 h1_7 h1_7k h1_7c h0_7 h0_7k w_4 h1_8 h1_8k h1_8c h0_8 h0_8k h0_8c h1_9 h1_9k h1_9c h0_9 h0_9k h0_9c h1_10 h1_10k h1_10c h0_10 h0_10k h0_10c h1_11 h1_11k h1_11c h0_11 h0_11k h0_11c h1_12 h1_12k h1_12c h0_12 h0_12k h0_12c) H := hP
  have hD : va_D A (wd_c_X7_copyFrom h1 h1_f0 h1_f1 h1_f2 h1_f3 h1_4 h1_5 h1_6 h1_7 h1_8 h1_9 h1_10 h1_11 h1_12 h0 h1_f0 h1_f1 h1_f2 h1_f3 h0_4 h0_5 h0_6 h0_7 h0_8 h0_9 h0_10 h0_11 h0_12 h1_4 h1_4k h1_4c h0_4 h0_4k w_1 h1_5 h1_5k h1_5c h0_5 h0_5k w_2 h1_6 h1_6k h1_6c h0_6 h0_6k w_3 h1_7 h1_7k h1_7c h0_7 h0_7k w_4 h1_8 h1_8k h1_8c h0_8 h0_8k h0_8c h1_9 h1_9k h1_9c h0_9 h0_9k h0_9c h1_10 h1_10k h1_10c h0_10 h0_10k h0_10c h1_11 h1_11k h1_11c h0_11 h0_11k h0_11c h1_12 h1_12k h1_12c h0_12 h0_12k h0_12c) := hD
  refine lv_aload_n hx hb dX7_copyFrom_88 rfl (lv_at hl 1 rfl) ?_
  refine va_get (D := (dC, dI)) (ci := 7) (v := .ref h1_8) (C := RX7) (T := TX7) (N := 13) hx hb hts iw_c_X7_copyFrom_X7 hown hK hP 0 rfl rfl 8 (by decide +kernel) (hts (.fieldLink RX7 24 "BuoyVote$Sea" "won" "[I") (List.mem_of_getElem? (i := 13) rfl)) (fun _ h9 => h9) rfl dX7_copyFrom_89 ?_
  refine lv_iconst (v := 0) hx hb dX7_copyFrom_92 kc_iconst_0 ?_
  refine lv_aload_n hx hb dX7_copyFrom_93 rfl (lv_at hl 0 rfl) ?_
  refine va_get (D := (dC, dI)) (ci := 7) (v := .ref h0_8) (C := RX7) (T := TX7) (N := 13) hx hb hts iw_c_X7_copyFrom_X7 hown hK hP 1 rfl rfl 8 (by decide +kernel) (hts (.fieldLink RX7 24 "BuoyVote$Sea" "won" "[I") (List.mem_of_getElem? (i := 13) rfl)) (fun _ h9 => h9) rfl dX7_copyFrom_94 ?_
  refine lv_iconst (v := 0) hx hb dX7_copyFrom_97 kc_iconst_0 ?_
  refine lv_iconst (v := 3) hx hb dX7_copyFrom_98 kc_iconst_3 ?_
  refine va_copyi hx hb (by rw [hml]; exact hl.1.symm) hown (hts (.methodLink RX7 88 arraycopyName) (List.mem_of_getElem? (i := 6) rfl)) (hts (.native arraycopyName) (List.mem_of_getElem? (i := 7) rfl)) (hts (.static arraycopyName) (List.mem_of_getElem? (i := 8) rfl)) (hts (.initialized "java/lang/System") (List.mem_of_getElem? (i := 9) rfl)) hK hP hD hS 10 11 8 9 rfl rfl rfl rfl rfl (by decide +kernel) (by decide +kernel) (by decide +kernel) (by decide +kernel) (by decide +kernel) (fun _ _ => rfl) (Nat.le_of_ble_eq_true rfl) (Nat.le_of_ble_eq_true rfl) dX7_copyFrom_99 (fun H locs hP hD hS => ?_)
  have hP : va_P (dC, dI) vwCl (wd_c_X7_copyFrom h1 h1_f0 h1_f1 h1_f2 h1_f3 h1_4 h1_5 h1_6 h1_7 h1_8 h1_9 h1_10 h1_11 h1_12 h0 h1_f0 h1_f1 h1_f2 h1_f3 h0_4 h0_5 h0_6 h0_7 h0_8 h0_9 h0_10 h0_11 h0_12 h1_4 h1_4k h1_4c h0_4 h0_4k w_1 h1_5 h1_5k h1_5c h0_5 h0_5k w_2 h1_6 h1_6k h1_6c h0_6 h0_6k w_3 h1_7 h1_7k h1_7c h0_7 h0_7k w_4 h1_8 h1_8k h1_8c h0_8 h0_8k (va_cpy h1_8c h0_8c (0 : Int32).toNatClampNeg (0 : Int32).toNatClampNeg (3 : Int32).toNatClampNeg) h1_9 h1_9k h1_9c h0_9 h0_9k h0_9c h1_10 h1_10k h1_10c h0_10 h0_10k h0_10c h1_11 h1_11k h1_11c h0_11 h0_11k h0_11c h1_12 h1_12k h1_12c h0_12 h0_12k h0_12c) H := hP
  have hD : va_D A (wd_c_X7_copyFrom h1 h1_f0 h1_f1 h1_f2 h1_f3 h1_4 h1_5 h1_6 h1_7 h1_8 h1_9 h1_10 h1_11 h1_12 h0 h1_f0 h1_f1 h1_f2 h1_f3 h0_4 h0_5 h0_6 h0_7 h0_8 h0_9 h0_10 h0_11 h0_12 h1_4 h1_4k h1_4c h0_4 h0_4k w_1 h1_5 h1_5k h1_5c h0_5 h0_5k w_2 h1_6 h1_6k h1_6c h0_6 h0_6k w_3 h1_7 h1_7k h1_7c h0_7 h0_7k w_4 h1_8 h1_8k h1_8c h0_8 h0_8k (va_cpy h1_8c h0_8c (0 : Int32).toNatClampNeg (0 : Int32).toNatClampNeg (3 : Int32).toNatClampNeg) h1_9 h1_9k h1_9c h0_9 h0_9k h0_9c h1_10 h1_10k h1_10c h0_10 h0_10k h0_10c h1_11 h1_11k h1_11c h0_11 h0_11k h0_11c h1_12 h1_12k h1_12c h0_12 h0_12k h0_12c) := hD
  generalize (va_cpy h1_8c h0_8c (0 : Int32).toNatClampNeg (0 : Int32).toNatClampNeg (3 : Int32).toNatClampNeg) = w_5 at hP hD
  have hP : va_P (dC, dI) vwCl (wd_c_X7_copyFrom h1 h1_f0 h1_f1 h1_f2 h1_f3 h1_4 h1_5 h1_6 h1_7 h1_8 h1_9 h1_10 h1_11 h1_12 h0 h1_f0 h1_f1 h1_f2 h1_f3 h0_4 h0_5 h0_6 h0_7 h0_8 h0_9 h0_10 h0_11 h0_12 h1_4 h1_4k h1_4c h0_4 h0_4k w_1 h1_5 h1_5k h1_5c h0_5 h0_5k w_2 h1_6 h1_6k h1_6c h0_6 h0_6k w_3 h1_7 h1_7k h1_7c h0_7 h0_7k w_4 h1_8 h1_8k h1_8c h0_8 h0_8k w_5 h1_9 h1_9k h1_9c h0_9 h0_9k h0_9c h1_10 h1_10k h1_10c h0_10 h0_10k h0_10c h1_11 h1_11k h1_11c h0_11 h0_11k h0_11c h1_12 h1_12k h1_12c h0_12 h0_12k h0_12c) H := hP
  have hD : va_D A (wd_c_X7_copyFrom h1 h1_f0 h1_f1 h1_f2 h1_f3 h1_4 h1_5 h1_6 h1_7 h1_8 h1_9 h1_10 h1_11 h1_12 h0 h1_f0 h1_f1 h1_f2 h1_f3 h0_4 h0_5 h0_6 h0_7 h0_8 h0_9 h0_10 h0_11 h0_12 h1_4 h1_4k h1_4c h0_4 h0_4k w_1 h1_5 h1_5k h1_5c h0_5 h0_5k w_2 h1_6 h1_6k h1_6c h0_6 h0_6k w_3 h1_7 h1_7k h1_7c h0_7 h0_7k w_4 h1_8 h1_8k h1_8c h0_8 h0_8k w_5 h1_9 h1_9k h1_9c h0_9 h0_9k h0_9c h1_10 h1_10k h1_10c h0_10 h0_10k h0_10c h1_11 h1_11k h1_11c h0_11 h0_11k h0_11c h1_12 h1_12k h1_12c h0_12 h0_12k h0_12c) := hD
  refine lv_aload_n hx hb dX7_copyFrom_102 rfl (lv_at hl 1 rfl) ?_
  as_aux_lemma =>
  refine va_get (D := (dC, dI)) (ci := 7) (v := .ref h1_9) (C := RX7) (T := TX7) (N := 13) hx hb hts iw_c_X7_copyFrom_X7 hown hK hP 0 rfl rfl 9 (by decide +kernel) (hts (.fieldLink RX7 27 "BuoyVote$Sea" "sang" "[I") (List.mem_of_getElem? (i := 14) rfl)) (fun _ h9 => h9) rfl dX7_copyFrom_103 ?_
  refine lv_iconst (v := 0) hx hb dX7_copyFrom_106 kc_iconst_0 ?_
  refine lv_aload_n hx hb dX7_copyFrom_107 rfl (lv_at hl 0 rfl) ?_
  refine va_get (D := (dC, dI)) (ci := 7) (v := .ref h0_9) (C := RX7) (T := TX7) (N := 13) hx hb hts iw_c_X7_copyFrom_X7 hown hK hP 1 rfl rfl 9 (by decide +kernel) (hts (.fieldLink RX7 27 "BuoyVote$Sea" "sang" "[I") (List.mem_of_getElem? (i := 14) rfl)) (fun _ h9 => h9) rfl dX7_copyFrom_108 ?_
  refine lv_iconst (v := 0) hx hb dX7_copyFrom_111 kc_iconst_0 ?_
  refine lv_iconst (v := 3) hx hb dX7_copyFrom_112 kc_iconst_3 ?_
  refine va_copyi hx hb (by rw [hml]; exact hl.1.symm) hown (hts (.methodLink RX7 88 arraycopyName) (List.mem_of_getElem? (i := 6) rfl)) (hts (.native arraycopyName) (List.mem_of_getElem? (i := 7) rfl)) (hts (.static arraycopyName) (List.mem_of_getElem? (i := 8) rfl)) (hts (.initialized "java/lang/System") (List.mem_of_getElem? (i := 9) rfl)) hK hP hD hS 12 13 10 11 rfl rfl rfl rfl rfl (by decide +kernel) (by decide +kernel) (by decide +kernel) (by decide +kernel) (by decide +kernel) (fun _ _ => rfl) (Nat.le_of_ble_eq_true rfl) (Nat.le_of_ble_eq_true rfl) dX7_copyFrom_113 (fun H locs hP hD hS => ?_)
  have hP : va_P (dC, dI) vwCl (wd_c_X7_copyFrom h1 h1_f0 h1_f1 h1_f2 h1_f3 h1_4 h1_5 h1_6 h1_7 h1_8 h1_9 h1_10 h1_11 h1_12 h0 h1_f0 h1_f1 h1_f2 h1_f3 h0_4 h0_5 h0_6 h0_7 h0_8 h0_9 h0_10 h0_11 h0_12 h1_4 h1_4k h1_4c h0_4 h0_4k w_1 h1_5 h1_5k h1_5c h0_5 h0_5k w_2 h1_6 h1_6k h1_6c h0_6 h0_6k w_3 h1_7 h1_7k h1_7c h0_7 h0_7k w_4 h1_8 h1_8k h1_8c h0_8 h0_8k w_5 h1_9 h1_9k h1_9c h0_9 h0_9k (va_cpy h1_9c h0_9c (0 : Int32).toNatClampNeg (0 : Int32).toNatClampNeg (3 : Int32).toNatClampNeg) h1_10 h1_10k h1_10c h0_10 h0_10k h0_10c h1_11 h1_11k h1_11c h0_11 h0_11k h0_11c h1_12 h1_12k h1_12c h0_12 h0_12k h0_12c) H := hP
  have hD : va_D A (wd_c_X7_copyFrom h1 h1_f0 h1_f1 h1_f2 h1_f3 h1_4 h1_5 h1_6 h1_7 h1_8 h1_9 h1_10 h1_11 h1_12 h0 h1_f0 h1_f1 h1_f2 h1_f3 h0_4 h0_5 h0_6 h0_7 h0_8 h0_9 h0_10 h0_11 h0_12 h1_4 h1_4k h1_4c h0_4 h0_4k w_1 h1_5 h1_5k h1_5c h0_5 h0_5k w_2 h1_6 h1_6k h1_6c h0_6 h0_6k w_3 h1_7 h1_7k h1_7c h0_7 h0_7k w_4 h1_8 h1_8k h1_8c h0_8 h0_8k w_5 h1_9 h1_9k h1_9c h0_9 h0_9k (va_cpy h1_9c h0_9c (0 : Int32).toNatClampNeg (0 : Int32).toNatClampNeg (3 : Int32).toNatClampNeg) h1_10 h1_10k h1_10c h0_10 h0_10k h0_10c h1_11 h1_11k h1_11c h0_11 h0_11k h0_11c h1_12 h1_12k h1_12c h0_12 h0_12k h0_12c) := hD
  generalize (va_cpy h1_9c h0_9c (0 : Int32).toNatClampNeg (0 : Int32).toNatClampNeg (3 : Int32).toNatClampNeg) = w_6 at hP hD
  have hP : va_P (dC, dI) vwCl (wd_c_X7_copyFrom h1 h1_f0 h1_f1 h1_f2 h1_f3 h1_4 h1_5 h1_6 h1_7 h1_8 h1_9 h1_10 h1_11 h1_12 h0 h1_f0 h1_f1 h1_f2 h1_f3 h0_4 h0_5 h0_6 h0_7 h0_8 h0_9 h0_10 h0_11 h0_12 h1_4 h1_4k h1_4c h0_4 h0_4k w_1 h1_5 h1_5k h1_5c h0_5 h0_5k w_2 h1_6 h1_6k h1_6c h0_6 h0_6k w_3 h1_7 h1_7k h1_7c h0_7 h0_7k w_4 h1_8 h1_8k h1_8c h0_8 h0_8k w_5 h1_9 h1_9k h1_9c h0_9 h0_9k w_6 h1_10 h1_10k h1_10c h0_10 h0_10k h0_10c h1_11 h1_11k h1_11c h0_11 h0_11k h0_11c h1_12 h1_12k h1_12c h0_12 h0_12k h0_12c) H := hP
  have hD : va_D A (wd_c_X7_copyFrom h1 h1_f0 h1_f1 h1_f2 h1_f3 h1_4 h1_5 h1_6 h1_7 h1_8 h1_9 h1_10 h1_11 h1_12 h0 h1_f0 h1_f1 h1_f2 h1_f3 h0_4 h0_5 h0_6 h0_7 h0_8 h0_9 h0_10 h0_11 h0_12 h1_4 h1_4k h1_4c h0_4 h0_4k w_1 h1_5 h1_5k h1_5c h0_5 h0_5k w_2 h1_6 h1_6k h1_6c h0_6 h0_6k w_3 h1_7 h1_7k h1_7c h0_7 h0_7k w_4 h1_8 h1_8k h1_8c h0_8 h0_8k w_5 h1_9 h1_9k h1_9c h0_9 h0_9k w_6 h1_10 h1_10k h1_10c h0_10 h0_10k h0_10c h1_11 h1_11k h1_11c h0_11 h0_11k h0_11c h1_12 h1_12k h1_12c h0_12 h0_12k h0_12c) := hD
  refine lv_aload_n hx hb dX7_copyFrom_116 rfl (lv_at hl 1 rfl) ?_
  refine va_get (D := (dC, dI)) (ci := 7) (v := .ref h1_10) (C := RX7) (T := TX7) (N := 13) hx hb hts iw_c_X7_copyFrom_X7 hown hK hP 0 rfl rfl 10 (by decide +kernel) (hts (.fieldLink RX7 30 "BuoyVote$Sea" "liking" "[I") (List.mem_of_getElem? (i := 15) rfl)) (fun _ h9 => h9) rfl dX7_copyFrom_117 ?_
  as_aux_lemma =>
  refine lv_iconst (v := 0) hx hb dX7_copyFrom_120 kc_iconst_0 ?_
  refine lv_aload_n hx hb dX7_copyFrom_121 rfl (lv_at hl 0 rfl) ?_
  refine va_get (D := (dC, dI)) (ci := 7) (v := .ref h0_10) (C := RX7) (T := TX7) (N := 13) hx hb hts iw_c_X7_copyFrom_X7 hown hK hP 1 rfl rfl 10 (by decide +kernel) (hts (.fieldLink RX7 30 "BuoyVote$Sea" "liking" "[I") (List.mem_of_getElem? (i := 15) rfl)) (fun _ h9 => h9) rfl dX7_copyFrom_122 ?_
  refine lv_iconst (v := 0) hx hb dX7_copyFrom_125 kc_iconst_0 ?_
  refine lv_bipush (v := 24) hx hb dX7_copyFrom_126 kc_bipush_24 ?_
  refine va_copyi hx hb (by rw [hml]; exact hl.1.symm) hown (hts (.methodLink RX7 88 arraycopyName) (List.mem_of_getElem? (i := 6) rfl)) (hts (.native arraycopyName) (List.mem_of_getElem? (i := 7) rfl)) (hts (.static arraycopyName) (List.mem_of_getElem? (i := 8) rfl)) (hts (.initialized "java/lang/System") (List.mem_of_getElem? (i := 9) rfl)) hK hP hD hS 14 15 12 13 rfl rfl rfl rfl rfl (by decide +kernel) (by decide +kernel) (by decide +kernel) (by decide +kernel) (by decide +kernel) (fun _ _ => rfl) (Nat.le_of_ble_eq_true rfl) (Nat.le_of_ble_eq_true rfl) dX7_copyFrom_128 (fun H locs hP hD hS => ?_)
  have hP : va_P (dC, dI) vwCl (wd_c_X7_copyFrom h1 h1_f0 h1_f1 h1_f2 h1_f3 h1_4 h1_5 h1_6 h1_7 h1_8 h1_9 h1_10 h1_11 h1_12 h0 h1_f0 h1_f1 h1_f2 h1_f3 h0_4 h0_5 h0_6 h0_7 h0_8 h0_9 h0_10 h0_11 h0_12 h1_4 h1_4k h1_4c h0_4 h0_4k w_1 h1_5 h1_5k h1_5c h0_5 h0_5k w_2 h1_6 h1_6k h1_6c h0_6 h0_6k w_3 h1_7 h1_7k h1_7c h0_7 h0_7k w_4 h1_8 h1_8k h1_8c h0_8 h0_8k w_5 h1_9 h1_9k h1_9c h0_9 h0_9k w_6 h1_10 h1_10k h1_10c h0_10 h0_10k (va_cpy h1_10c h0_10c (0 : Int32).toNatClampNeg (0 : Int32).toNatClampNeg (24 : Int32).toNatClampNeg) h1_11 h1_11k h1_11c h0_11 h0_11k h0_11c h1_12 h1_12k h1_12c h0_12 h0_12k h0_12c) H := hP
  have hD : va_D A (wd_c_X7_copyFrom h1 h1_f0 h1_f1 h1_f2 h1_f3 h1_4 h1_5 h1_6 h1_7 h1_8 h1_9 h1_10 h1_11 h1_12 h0 h1_f0 h1_f1 h1_f2 h1_f3 h0_4 h0_5 h0_6 h0_7 h0_8 h0_9 h0_10 h0_11 h0_12 h1_4 h1_4k h1_4c h0_4 h0_4k w_1 h1_5 h1_5k h1_5c h0_5 h0_5k w_2 h1_6 h1_6k h1_6c h0_6 h0_6k w_3 h1_7 h1_7k h1_7c h0_7 h0_7k w_4 h1_8 h1_8k h1_8c h0_8 h0_8k w_5 h1_9 h1_9k h1_9c h0_9 h0_9k w_6 h1_10 h1_10k h1_10c h0_10 h0_10k (va_cpy h1_10c h0_10c (0 : Int32).toNatClampNeg (0 : Int32).toNatClampNeg (24 : Int32).toNatClampNeg) h1_11 h1_11k h1_11c h0_11 h0_11k h0_11c h1_12 h1_12k h1_12c h0_12 h0_12k h0_12c) := hD
  generalize (va_cpy h1_10c h0_10c (0 : Int32).toNatClampNeg (0 : Int32).toNatClampNeg (24 : Int32).toNatClampNeg) = w_7 at hP hD
  have hP : va_P (dC, dI) vwCl (wd_c_X7_copyFrom h1 h1_f0 h1_f1 h1_f2 h1_f3 h1_4 h1_5 h1_6 h1_7 h1_8 h1_9 h1_10 h1_11 h1_12 h0 h1_f0 h1_f1 h1_f2 h1_f3 h0_4 h0_5 h0_6 h0_7 h0_8 h0_9 h0_10 h0_11 h0_12 h1_4 h1_4k h1_4c h0_4 h0_4k w_1 h1_5 h1_5k h1_5c h0_5 h0_5k w_2 h1_6 h1_6k h1_6c h0_6 h0_6k w_3 h1_7 h1_7k h1_7c h0_7 h0_7k w_4 h1_8 h1_8k h1_8c h0_8 h0_8k w_5 h1_9 h1_9k h1_9c h0_9 h0_9k w_6 h1_10 h1_10k h1_10c h0_10 h0_10k w_7 h1_11 h1_11k h1_11c h0_11 h0_11k h0_11c h1_12 h1_12k h1_12c h0_12 h0_12k h0_12c) H := hP
  have hD : va_D A (wd_c_X7_copyFrom h1 h1_f0 h1_f1 h1_f2 h1_f3 h1_4 h1_5 h1_6 h1_7 h1_8 h1_9 h1_10 h1_11 h1_12 h0 h1_f0 h1_f1 h1_f2 h1_f3 h0_4 h0_5 h0_6 h0_7 h0_8 h0_9 h0_10 h0_11 h0_12 h1_4 h1_4k h1_4c h0_4 h0_4k w_1 h1_5 h1_5k h1_5c h0_5 h0_5k w_2 h1_6 h1_6k h1_6c h0_6 h0_6k w_3 h1_7 h1_7k h1_7c h0_7 h0_7k w_4 h1_8 h1_8k h1_8c h0_8 h0_8k w_5 h1_9 h1_9k h1_9c h0_9 h0_9k w_6 h1_10 h1_10k h1_10c h0_10 h0_10k w_7 h1_11 h1_11k h1_11c h0_11 h0_11k h0_11c h1_12 h1_12k h1_12c h0_12 h0_12k h0_12c) := hD
  refine lv_aload_n hx hb dX7_copyFrom_131 rfl (lv_at hl 1 rfl) ?_
  refine va_get (D := (dC, dI)) (ci := 7) (v := .ref h1_11) (C := RX7) (T := TX7) (N := 13) hx hb hts iw_c_X7_copyFrom_X7 hown hK hP 0 rfl rfl 11 (by decide +kernel) (hts (.fieldLink RX7 33 "BuoyVote$Sea" "old" "[I") (List.mem_of_getElem? (i := 16) rfl)) (fun _ h9 => h9) rfl dX7_copyFrom_132 ?_
  refine lv_iconst (v := 0) hx hb dX7_copyFrom_135 kc_iconst_0 ?_
  as_aux_lemma =>
  refine lv_aload_n hx hb dX7_copyFrom_136 rfl (lv_at hl 0 rfl) ?_
  refine va_get (D := (dC, dI)) (ci := 7) (v := .ref h0_11) (C := RX7) (T := TX7) (N := 13) hx hb hts iw_c_X7_copyFrom_X7 hown hK hP 1 rfl rfl 11 (by decide +kernel) (hts (.fieldLink RX7 33 "BuoyVote$Sea" "old" "[I") (List.mem_of_getElem? (i := 16) rfl)) (fun _ h9 => h9) rfl dX7_copyFrom_137 ?_
  refine lv_iconst (v := 0) hx hb dX7_copyFrom_140 kc_iconst_0 ?_
  refine lv_bipush (v := 8) hx hb dX7_copyFrom_141 kc_bipush_8 ?_
  refine va_copyi hx hb (by rw [hml]; exact hl.1.symm) hown (hts (.methodLink RX7 88 arraycopyName) (List.mem_of_getElem? (i := 6) rfl)) (hts (.native arraycopyName) (List.mem_of_getElem? (i := 7) rfl)) (hts (.static arraycopyName) (List.mem_of_getElem? (i := 8) rfl)) (hts (.initialized "java/lang/System") (List.mem_of_getElem? (i := 9) rfl)) hK hP hD hS 16 17 14 15 rfl rfl rfl rfl rfl (by decide +kernel) (by decide +kernel) (by decide +kernel) (by decide +kernel) (by decide +kernel) (fun _ _ => rfl) (Nat.le_of_ble_eq_true rfl) (Nat.le_of_ble_eq_true rfl) dX7_copyFrom_143 (fun H locs hP hD hS => ?_)
  have hP : va_P (dC, dI) vwCl (wd_c_X7_copyFrom h1 h1_f0 h1_f1 h1_f2 h1_f3 h1_4 h1_5 h1_6 h1_7 h1_8 h1_9 h1_10 h1_11 h1_12 h0 h1_f0 h1_f1 h1_f2 h1_f3 h0_4 h0_5 h0_6 h0_7 h0_8 h0_9 h0_10 h0_11 h0_12 h1_4 h1_4k h1_4c h0_4 h0_4k w_1 h1_5 h1_5k h1_5c h0_5 h0_5k w_2 h1_6 h1_6k h1_6c h0_6 h0_6k w_3 h1_7 h1_7k h1_7c h0_7 h0_7k w_4 h1_8 h1_8k h1_8c h0_8 h0_8k w_5 h1_9 h1_9k h1_9c h0_9 h0_9k w_6 h1_10 h1_10k h1_10c h0_10 h0_10k w_7 h1_11 h1_11k h1_11c h0_11 h0_11k (va_cpy h1_11c h0_11c (0 : Int32).toNatClampNeg (0 : Int32).toNatClampNeg (8 : Int32).toNatClampNeg) h1_12 h1_12k h1_12c h0_12 h0_12k h0_12c) H := hP
  have hD : va_D A (wd_c_X7_copyFrom h1 h1_f0 h1_f1 h1_f2 h1_f3 h1_4 h1_5 h1_6 h1_7 h1_8 h1_9 h1_10 h1_11 h1_12 h0 h1_f0 h1_f1 h1_f2 h1_f3 h0_4 h0_5 h0_6 h0_7 h0_8 h0_9 h0_10 h0_11 h0_12 h1_4 h1_4k h1_4c h0_4 h0_4k w_1 h1_5 h1_5k h1_5c h0_5 h0_5k w_2 h1_6 h1_6k h1_6c h0_6 h0_6k w_3 h1_7 h1_7k h1_7c h0_7 h0_7k w_4 h1_8 h1_8k h1_8c h0_8 h0_8k w_5 h1_9 h1_9k h1_9c h0_9 h0_9k w_6 h1_10 h1_10k h1_10c h0_10 h0_10k w_7 h1_11 h1_11k h1_11c h0_11 h0_11k (va_cpy h1_11c h0_11c (0 : Int32).toNatClampNeg (0 : Int32).toNatClampNeg (8 : Int32).toNatClampNeg) h1_12 h1_12k h1_12c h0_12 h0_12k h0_12c) := hD
  generalize (va_cpy h1_11c h0_11c (0 : Int32).toNatClampNeg (0 : Int32).toNatClampNeg (8 : Int32).toNatClampNeg) = w_8 at hP hD
  have hP : va_P (dC, dI) vwCl (wd_c_X7_copyFrom h1 h1_f0 h1_f1 h1_f2 h1_f3 h1_4 h1_5 h1_6 h1_7 h1_8 h1_9 h1_10 h1_11 h1_12 h0 h1_f0 h1_f1 h1_f2 h1_f3 h0_4 h0_5 h0_6 h0_7 h0_8 h0_9 h0_10 h0_11 h0_12 h1_4 h1_4k h1_4c h0_4 h0_4k w_1 h1_5 h1_5k h1_5c h0_5 h0_5k w_2 h1_6 h1_6k h1_6c h0_6 h0_6k w_3 h1_7 h1_7k h1_7c h0_7 h0_7k w_4 h1_8 h1_8k h1_8c h0_8 h0_8k w_5 h1_9 h1_9k h1_9c h0_9 h0_9k w_6 h1_10 h1_10k h1_10c h0_10 h0_10k w_7 h1_11 h1_11k h1_11c h0_11 h0_11k w_8 h1_12 h1_12k h1_12c h0_12 h0_12k h0_12c) H := hP
  have hD : va_D A (wd_c_X7_copyFrom h1 h1_f0 h1_f1 h1_f2 h1_f3 h1_4 h1_5 h1_6 h1_7 h1_8 h1_9 h1_10 h1_11 h1_12 h0 h1_f0 h1_f1 h1_f2 h1_f3 h0_4 h0_5 h0_6 h0_7 h0_8 h0_9 h0_10 h0_11 h0_12 h1_4 h1_4k h1_4c h0_4 h0_4k w_1 h1_5 h1_5k h1_5c h0_5 h0_5k w_2 h1_6 h1_6k h1_6c h0_6 h0_6k w_3 h1_7 h1_7k h1_7c h0_7 h0_7k w_4 h1_8 h1_8k h1_8c h0_8 h0_8k w_5 h1_9 h1_9k h1_9c h0_9 h0_9k w_6 h1_10 h1_10k h1_10c h0_10 h0_10k w_7 h1_11 h1_11k h1_11c h0_11 h0_11k w_8 h1_12 h1_12k h1_12c h0_12 h0_12k h0_12c) := hD
  refine lv_aload_n hx hb dX7_copyFrom_146 rfl (lv_at hl 1 rfl) ?_
  refine va_get (D := (dC, dI)) (ci := 7) (v := .ref h1_12) (C := RX7) (T := TX7) (N := 13) hx hb hts iw_c_X7_copyFrom_X7 hown hK hP 0 rfl rfl 12 (by decide +kernel) (hts (.fieldLink RX7 36 "BuoyVote$Sea" "barnacles" "[I") (List.mem_of_getElem? (i := 17) rfl)) (fun _ h9 => h9) rfl dX7_copyFrom_147 ?_
  refine lv_iconst (v := 0) hx hb dX7_copyFrom_150 kc_iconst_0 ?_
  refine lv_aload_n hx hb dX7_copyFrom_151 rfl (lv_at hl 0 rfl) ?_
  as_aux_lemma =>
  refine va_get (D := (dC, dI)) (ci := 7) (v := .ref h0_12) (C := RX7) (T := TX7) (N := 13) hx hb hts iw_c_X7_copyFrom_X7 hown hK hP 1 rfl rfl 12 (by decide +kernel) (hts (.fieldLink RX7 36 "BuoyVote$Sea" "barnacles" "[I") (List.mem_of_getElem? (i := 17) rfl)) (fun _ h9 => h9) rfl dX7_copyFrom_152 ?_
  refine lv_iconst (v := 0) hx hb dX7_copyFrom_155 kc_iconst_0 ?_
  refine lv_bipush (v := 8) hx hb dX7_copyFrom_156 kc_bipush_8 ?_
  refine va_copyi hx hb (by rw [hml]; exact hl.1.symm) hown (hts (.methodLink RX7 88 arraycopyName) (List.mem_of_getElem? (i := 6) rfl)) (hts (.native arraycopyName) (List.mem_of_getElem? (i := 7) rfl)) (hts (.static arraycopyName) (List.mem_of_getElem? (i := 8) rfl)) (hts (.initialized "java/lang/System") (List.mem_of_getElem? (i := 9) rfl)) hK hP hD hS 18 19 16 17 rfl rfl rfl rfl rfl (by decide +kernel) (by decide +kernel) (by decide +kernel) (by decide +kernel) (by decide +kernel) (fun _ _ => rfl) (Nat.le_of_ble_eq_true rfl) (Nat.le_of_ble_eq_true rfl) dX7_copyFrom_158 (fun H locs hP hD hS => ?_)
  have hP : va_P (dC, dI) vwCl (wd_c_X7_copyFrom h1 h1_f0 h1_f1 h1_f2 h1_f3 h1_4 h1_5 h1_6 h1_7 h1_8 h1_9 h1_10 h1_11 h1_12 h0 h1_f0 h1_f1 h1_f2 h1_f3 h0_4 h0_5 h0_6 h0_7 h0_8 h0_9 h0_10 h0_11 h0_12 h1_4 h1_4k h1_4c h0_4 h0_4k w_1 h1_5 h1_5k h1_5c h0_5 h0_5k w_2 h1_6 h1_6k h1_6c h0_6 h0_6k w_3 h1_7 h1_7k h1_7c h0_7 h0_7k w_4 h1_8 h1_8k h1_8c h0_8 h0_8k w_5 h1_9 h1_9k h1_9c h0_9 h0_9k w_6 h1_10 h1_10k h1_10c h0_10 h0_10k w_7 h1_11 h1_11k h1_11c h0_11 h0_11k w_8 h1_12 h1_12k h1_12c h0_12 h0_12k (va_cpy h1_12c h0_12c (0 : Int32).toNatClampNeg (0 : Int32).toNatClampNeg (8 : Int32).toNatClampNeg)) H := hP
  have hD : va_D A (wd_c_X7_copyFrom h1 h1_f0 h1_f1 h1_f2 h1_f3 h1_4 h1_5 h1_6 h1_7 h1_8 h1_9 h1_10 h1_11 h1_12 h0 h1_f0 h1_f1 h1_f2 h1_f3 h0_4 h0_5 h0_6 h0_7 h0_8 h0_9 h0_10 h0_11 h0_12 h1_4 h1_4k h1_4c h0_4 h0_4k w_1 h1_5 h1_5k h1_5c h0_5 h0_5k w_2 h1_6 h1_6k h1_6c h0_6 h0_6k w_3 h1_7 h1_7k h1_7c h0_7 h0_7k w_4 h1_8 h1_8k h1_8c h0_8 h0_8k w_5 h1_9 h1_9k h1_9c h0_9 h0_9k w_6 h1_10 h1_10k h1_10c h0_10 h0_10k w_7 h1_11 h1_11k h1_11c h0_11 h0_11k w_8 h1_12 h1_12k h1_12c h0_12 h0_12k (va_cpy h1_12c h0_12c (0 : Int32).toNatClampNeg (0 : Int32).toNatClampNeg (8 : Int32).toNatClampNeg)) := hD
  generalize (va_cpy h1_12c h0_12c (0 : Int32).toNatClampNeg (0 : Int32).toNatClampNeg (8 : Int32).toNatClampNeg) = w_9 at hP hD
  have hP : va_P (dC, dI) vwCl (wd_c_X7_copyFrom h1 h1_f0 h1_f1 h1_f2 h1_f3 h1_4 h1_5 h1_6 h1_7 h1_8 h1_9 h1_10 h1_11 h1_12 h0 h1_f0 h1_f1 h1_f2 h1_f3 h0_4 h0_5 h0_6 h0_7 h0_8 h0_9 h0_10 h0_11 h0_12 h1_4 h1_4k h1_4c h0_4 h0_4k w_1 h1_5 h1_5k h1_5c h0_5 h0_5k w_2 h1_6 h1_6k h1_6c h0_6 h0_6k w_3 h1_7 h1_7k h1_7c h0_7 h0_7k w_4 h1_8 h1_8k h1_8c h0_8 h0_8k w_5 h1_9 h1_9k h1_9c h0_9 h0_9k w_6 h1_10 h1_10k h1_10c h0_10 h0_10k w_7 h1_11 h1_11k h1_11c h0_11 h0_11k w_8 h1_12 h1_12k h1_12c h0_12 h0_12k w_9) H := hP
  have hD : va_D A (wd_c_X7_copyFrom h1 h1_f0 h1_f1 h1_f2 h1_f3 h1_4 h1_5 h1_6 h1_7 h1_8 h1_9 h1_10 h1_11 h1_12 h0 h1_f0 h1_f1 h1_f2 h1_f3 h0_4 h0_5 h0_6 h0_7 h0_8 h0_9 h0_10 h0_11 h0_12 h1_4 h1_4k h1_4c h0_4 h0_4k w_1 h1_5 h1_5k h1_5c h0_5 h0_5k w_2 h1_6 h1_6k h1_6c h0_6 h0_6k w_3 h1_7 h1_7k h1_7c h0_7 h0_7k w_4 h1_8 h1_8k h1_8c h0_8 h0_8k w_5 h1_9 h1_9k h1_9c h0_9 h0_9k w_6 h1_10 h1_10k h1_10c h0_10 h0_10k w_7 h1_11 h1_11k h1_11c h0_11 h0_11k w_8 h1_12 h1_12k h1_12c h0_12 h0_12k w_9) := hD
  have hK9 := hK.sub (tys' := []) [] rfl
  exact W.vret hx hb hr (fun t ht hW => ⟨⟨(w_1, w_2, w_3, w_4, w_5, w_6, w_7, w_8, w_9), rfl, trivial, by rw [ht]; exact hP, va_K.moved hW.alike hK9, hD⟩, hS.F ht⟩) hS.2.2 dX7_copyFrom_161
noncomputable def wf_c_X11_hoursFor : List Cond := .code yX11_hoursFor cX11_hoursFor 2 (some .int) :: ([])
set_option maxHeartbeats 4000000 in
set_option maxRecDepth 100000 in
theorem c_X11_hoursFor (l : Launch) (dC : Nat → ClassId) (dI : Nat → Nat → Nat) (sz : Nat) (p0 : Int32) (p1 : Int32) (g_p1 : RG p1 (-1) 99) : Met l yX11_hoursFor wf_c_X11_hoursFor ({ frames := 0, cells := 0, slots := 0, locals := 0 }) (va_Pc [.int p0, .int p1] (fun U => U.heap.size = sz ∧ va_P (dC, dI) vwCl [] U.heap ∧ va_K (dC, dI) vwCl [] U ∧ va_D (fun _ => True) [])) (va_Qi (fun (r : Int32) (u : Unit) => (r = 0 ∧ RG p1 (-1) 0) ∨ (RG r (-2147483648) 2147483647 ∧ RG p1 1 99)) (fun (u : Unit) t => va_P (dC, dI) vwCl [] t.heap ∧ va_K (dC, dI) vwCl [] t ∧ va_D (va_A [] sz) []) (va_A [] sz)) 0 0 (va_A [] sz) := by
  refine Met.ofW (cc := cX11_hoursFor) (maxL := 2) (ret := (some .int)) (by decide +kernel) rfl ?_
  intro p e s m args below meth c s₁ B hml hv
  obtain ⟨rfl, hsz, hP, hK, hD0⟩ := hv
  have hx := B.exec
  have hb := B.bytes
  have hr := B.returns
  have hts := atoms_spec (ws := wf_c_X11_hoursFor) B.pre
  have hown : s.vm.findClass RX11 = some m.cls := findClass_of_methodNamed B.named
  have hlocks := B.notSynchronized
  subst hsz
  have hD := hD0.self (sz := s.heap.size)
  generalize hAe : va_A [] s.heap.size = A at hD ⊢
  have hA : ∀ q : Nat, s.heap.size ≤ q → A q := fun q h => by rw [← hAe]; exact Or.inr h
  have hP : va_P (dC, dI) vwCl [] s.heap := hP
  have hl := lv_entry ([.int p0, .int p1]) (n := 2) (Nat.le_of_ble_eq_true rfl)
  rw [lg_entry_eq]
  generalize (lg_sl ([.int p0, .int p1]) ++ List.replicate (2 - (lg_sl ([.int p0, .int p1])).length) Slot.unset).toArray = ls at hl ⊢
  have hl : lv_has ls 2 [(0, .int p0), (1, .int p1)] := hl
  obtain ⟨H, hHe⟩ : ∃ H : Heap, s.heap = H := ⟨_, rfl⟩
  have hS : va_S A s.heap H [] := by rw [hHe]; exact va_S.rf
  have hP : va_P (dC, dI) vwCl [] H := by rw [← hHe]; exact hP
  rw [hHe]
  refine lv_iload_n hx hb dX11_hoursFor_0 rfl (lv_at hl 1 rfl) ?_
  as_aux_lemma =>
  refine lv_if_le (tgt := 14) hx hb dX11_hoursFor_1 rfl (fun c_1 => ?_) (fun c_1 => ?_)
  · have g_2 : RG p1 (-1) 0 := RG_le1 g_p1 (RG_k 0 0 rfl) c_1 (by decide +kernel)
    refine lv_iconst (v := 0) hx hb dX11_hoursFor_14 kc_iconst_0 ?_
    have hK9 := hK.sub (tys' := []) [] rfl
    exact W.iret (v := 0) hx hb hr (fun t ht hW => ⟨⟨0, (), rfl, (Or.inl ⟨rfl, g_2⟩), by rw [ht]; exact hP, va_K.moved hW.alike hK9, hD⟩, hS.F ht⟩) hS.2.2 dX11_hoursFor_15
  · have d_3 := Int32.not_le.mp c_1
    have g_4 : RG p1 1 99 := RG_lt2 (RG_k 0 0 rfl) g_p1 d_3 (by decide +kernel)
    refine lv_iload_n hx hb dX11_hoursFor_4 rfl (lv_at hl 0 rfl) ?_
    refine lv_iload_n hx hb dX11_hoursFor_5 rfl (lv_at hl 1 rfl) ?_
    refine lv_iadd hx hb dX11_hoursFor_6 ?_
    refine lv_topi (fun x_5 ex_5 => ?_)
    refine lv_iconst (v := 1) hx hb dX11_hoursFor_7 kc_iconst_1 ?_
    refine lv_isub hx hb dX11_hoursFor_8 ?_
    refine lv_topi (fun x_6 ex_6 => ?_)
    as_aux_lemma =>
    refine lv_iload_n hx hb dX11_hoursFor_9 rfl (lv_at hl 1 rfl) ?_
    refine lv_idiv hx hb dX11_hoursFor_10 (RG_ne0 g_4 (by decide +kernel)) ?_
    refine lv_topi (fun x_7 ex_7 => ?_)
    refine lv_goto (tgt := 15) hx hb dX11_hoursFor_11 rfl ?_
    have hK9 := hK.sub (tys' := []) [] rfl
    exact W.iret (v := x_7) hx hb hr (fun t ht hW => ⟨⟨x_7, (), rfl, (Or.inr ⟨(RG_any x_7), g_4⟩), by rw [ht]; exact hP, va_K.moved hW.alike hK9, hD⟩, hS.F ht⟩) hS.2.2 dX11_hoursFor_15
noncomputable def wd_c_X11_isBeside (a0 : Nat) (a1 : Nat) (a2 : Nat) (a3 : Nat) (a4 : Nat) (a5 : Nat) (a6 : Int32) (a7 : Nat) (a8 : Nat) (a9 : Nat) (a10 : Nat) (a11 : Nat) (a12 : Nat) (a13 : Nat) (a14 : Nat) (a15 : Nat) (a16 : Int64) (a17 : Nat) (a18 : Nat) (a19 : Int32) (a20 : Int32) (a21 : Int32) (a22 : Nat) (a23 : ClassId) (a24 : Nat → Int32) (a25 : Nat) (a26 : Int32) (a27 : Int32) (a28 : Int32) (a29 : Int32) (a30 : Nat) (a31 : Nat) (a32 : Nat) (a33 : Nat) (a34 : Nat) (a35 : Nat) (a36 : Nat) (a37 : Nat) (a38 : Nat) (a39 : Nat) (a40 : ClassId) (a41 : Nat → Int32) (a42 : Nat) (a43 : ClassId) (a44 : Nat → Int32) : va_W := [(a0, .inr (11, [.ref a1, .ref a2, .ref a3, .ref a4, .ref a5, .int a6, .ref a7, .ref a8, .ref a9, .ref a10, .ref a11, .ref a12, .ref a13, .ref a14, .ref a15, .long a16])), (a17, .inr (0, [.ref a18, .int a19, .int a20, .int a21])), (a22, .inl (a23, 80, .inl a24)), (a25, .inr (7, [.int a26, .int a27, .int a28, .int a29, .ref a30, .ref a31, .ref a32, .ref a33, .ref a34, .ref a35, .ref a36, .ref a37, .ref a38])), (a39, .inl (a40, 3, .inl a41)), (a42, .inl (a43, 3, .inl a44))]
noncomputable def wf_c_X11_isBeside : List Cond := List.cons (.code yX11_isBeside cX11_isBeside 4 (some .boolean)) (@HAppend.hAppend (List Cond) (List Cond) (List Cond) _ (@HAppend.hAppend (List Cond) (List Cond) (List Cond) _ (@HAppend.hAppend (List Cond) (List Cond) (List Cond) _ [.fieldLink RX11 19 "BuoyVote" "told" "LBuoyVote$Borough;", .methodLink RX11 169 yX0_buoyX, .instanceMethod yX0_buoyX, .selects RX0 yX0_buoyX yX0_buoyX, .initialized RX0, .code yX0_buoyX cX0_buoyX 2 (some .int), .fieldLink RX0 11 "BuoyVote$Borough" "values" "[I", .methodLink RX11 172 yX0_buoyY, .instanceMethod yX0_buoyY, .selects RX0 yX0_buoyY yX0_buoyY, .code yX0_buoyY cX0_buoyY 2 (some .int), .methodLink RX11 240 yX7_awayOf, .instanceMethod yX7_awayOf, .selects RX7 yX7_awayOf yX7_awayOf, .initialized RX7, .code yX7_awayOf cX7_awayOf 4 (some .int), .fieldLink RX7 9 "BuoyVote$Sea" "x" "[I", .methodLink RX7 99 Lib.Math.abs.name, .static Lib.Math.abs.name, .initialized "java/lang/Math", .code Lib.Math.abs.name Lib.Math.abs.code 1 (some .int), .fieldLink RX7 15 "BuoyVote$Sea" "y" "[I"] wsX110) wsX00) wsX70)
theorem iw_c_X11_isBeside_X11 : ∀ w ∈ wsX110, w ∈ wf_c_X11_isBeside := fun w h => List.mem_cons_of_mem _ (List.mem_append_left _ (List.mem_append_left _ (List.mem_append_right _ h)))
theorem iw_c_X11_isBeside_X0 : ∀ w ∈ wsX00, w ∈ wf_c_X11_isBeside := fun w h => List.mem_cons_of_mem _ (List.mem_append_left _ (List.mem_append_right _ h))
theorem iw_c_X11_isBeside_X7 : ∀ w ∈ wsX70, w ∈ wf_c_X11_isBeside := fun w h => List.mem_cons_of_mem _ (List.mem_append_right _ h)
set_option maxRecDepth 20000 in
theorem gf_c_X11_isBeside_c_X0_buoyX : GoodIn wf_c_X11_isBeside (wsV RX11 169 RX0 yX0_buoyX wf_c_X0_buoyX) := goodIn_app (gi_l [2, 3, 4, 5] rfl rfl) (gi_cons (j := 6) rfl rfl (goodIn_app (gi_l [7] rfl rfl) (goodIn_sub iw_c_X11_isBeside_X0 gw_X0)))
set_option maxRecDepth 20000 in
theorem gf_c_X11_isBeside_c_X0_buoyY : GoodIn wf_c_X11_isBeside (wsV RX11 172 RX0 yX0_buoyY wf_c_X0_buoyY) := goodIn_app (gi_l [8, 9, 10, 5] rfl rfl) (gi_cons (j := 11) rfl rfl (goodIn_app (gi_l [7] rfl rfl) (goodIn_sub iw_c_X11_isBeside_X0 gw_X0)))
set_option maxRecDepth 20000 in
theorem gf_c_X11_isBeside_c_X7_awayOf : GoodIn wf_c_X11_isBeside (wsV RX11 240 RX7 yX7_awayOf wf_c_X7_awayOf) := goodIn_app (gi_l [12, 13, 14, 15] rfl rfl) (gi_cons (j := 16) rfl rfl (goodIn_app (gi_l [17, 18, 19, 20, 21, 22] rfl rfl) (goodIn_sub iw_c_X11_isBeside_X7 gw_X7)))
set_option maxHeartbeats 4000000 in
set_option maxRecDepth 100000 in
theorem c_X11_isBeside (l : Launch) (dC : Nat → ClassId) (dI : Nat → Nat → Nat) (sz : Nat) (h0 : Nat) (h1 : Nat) (p2 : Int32) (p3 : Int32) (h0_0 : Nat) (h0_1 : Nat) (h0_2 : Nat) (h0_3 : Nat) (h0_4 : Nat) (h0_f5 : Int32) (h0_6 : Nat) (h0_7 : Nat) (h0_8 : Nat) (h0_9 : Nat) (h0_10 : Nat) (h0_11 : Nat) (h0_12 : Nat) (h0_13 : Nat) (h0_14 : Nat) (h0_f15 : Int64) (h0_1_0 : Nat) (h0_1_f1 : Int32) (h0_1_f2 : Int32) (h0_1_f3 : Int32) (h0_1_0k : ClassId) (h0_1_0c : Nat → Int32) (h1_f0 : Int32) (h1_f1 : Int32) (h1_f2 : Int32) (h1_f3 : Int32) (h1_4 : Nat) (h1_5 : Nat) (h1_6 : Nat) (h1_7 : Nat) (h1_8 : Nat) (h1_9 : Nat) (h1_10 : Nat) (h1_11 : Nat) (h1_12 : Nat) (h1_4k : ClassId) (h1_4c : Nat → Int32) (h1_5k : ClassId) (h1_5c : Nat → Int32) (g_p2 : RG p2 0 2) (g_p3 : RG p3 0 7) (g_h0_f5 : RG h0_f5 0 4) (g_h0_1_f1 : RG h0_1_f1 0 8) (g_h0_1_f2 : RG h0_1_f2 0 3) (g_h0_1_f3 : RG h0_1_f3 0 1) (a_h0_1_0c : AI h0_1_0c (-1) 99) : Met l yX11_isBeside wf_c_X11_isBeside ({ frames := 2, cells := 0, slots := 0, locals := 37 }) (va_Pc [.ref h0, .ref h1, .int p2, .int p3] (fun U => U.heap.size = sz ∧ va_P (dC, dI) vwCl (wd_c_X11_isBeside h0 h0_0 h0_1 h0_2 h0_3 h0_4 h0_f5 h0_6 h0_7 h0_8 h0_9 h0_10 h0_11 h0_12 h0_13 h0_14 h0_f15 h0_1 h0_1_0 h0_1_f1 h0_1_f2 h0_1_f3 h0_1_0 h0_1_0k h0_1_0c h1 h1_f0 h1_f1 h1_f2 h1_f3 h1_4 h1_5 h1_6 h1_7 h1_8 h1_9 h1_10 h1_11 h1_12 h1_4 h1_4k h1_4c h1_5 h1_5k h1_5c) U.heap ∧ va_K (dC, dI) vwCl [(h0_1_0k, .int), (h1_4k, .int), (h1_5k, .int)] U ∧ va_D (fun _ => True) (wd_c_X11_isBeside h0 h0_0 h0_1 h0_2 h0_3 h0_4 h0_f5 h0_6 h0_7 h0_8 h0_9 h0_10 h0_11 h0_12 h0_13 h0_14 h0_f15 h0_1 h0_1_0 h0_1_f1 h0_1_f2 h0_1_f3 h0_1_0 h0_1_0k h0_1_0c h1 h1_f0 h1_f1 h1_f2 h1_f3 h1_4 h1_5 h1_6 h1_7 h1_8 h1_9 h1_10 h1_11 h1_12 h1_4 h1_4k h1_4c h1_5 h1_5k h1_5c))) (va_Qi (fun (r : Int32) (u : Unit) => (r = 0) ∨ (r = 1)) (fun (u : Unit) t => va_P (dC, dI) vwCl (wd_c_X11_isBeside h0 h0_0 h0_1 h0_2 h0_3 h0_4 h0_f5 h0_6 h0_7 h0_8 h0_9 h0_10 h0_11 h0_12 h0_13 h0_14 h0_f15 h0_1 h0_1_0 h0_1_f1 h0_1_f2 h0_1_f3 h0_1_0 h0_1_0k h0_1_0c h1 h1_f0 h1_f1 h1_f2 h1_f3 h1_4 h1_5 h1_6 h1_7 h1_8 h1_9 h1_10 h1_11 h1_12 h1_4 h1_4k h1_4c h1_5 h1_5k h1_5c) t.heap ∧ va_K (dC, dI) vwCl [] t ∧ va_D (va_A (wd_c_X11_isBeside h0 h0_0 h0_1 h0_2 h0_3 h0_4 h0_f5 h0_6 h0_7 h0_8 h0_9 h0_10 h0_11 h0_12 h0_13 h0_14 h0_f15 h0_1 h0_1_0 h0_1_f1 h0_1_f2 h0_1_f3 h0_1_0 h0_1_0k h0_1_0c h1 h1_f0 h1_f1 h1_f2 h1_f3 h1_4 h1_5 h1_6 h1_7 h1_8 h1_9 h1_10 h1_11 h1_12 h1_4 h1_4k h1_4c h1_5 h1_5k h1_5c) sz) (wd_c_X11_isBeside h0 h0_0 h0_1 h0_2 h0_3 h0_4 h0_f5 h0_6 h0_7 h0_8 h0_9 h0_10 h0_11 h0_12 h0_13 h0_14 h0_f15 h0_1 h0_1_0 h0_1_f1 h0_1_f2 h0_1_f3 h0_1_0 h0_1_0k h0_1_0c h1 h1_f0 h1_f1 h1_f2 h1_f3 h1_4 h1_5 h1_6 h1_7 h1_8 h1_9 h1_10 h1_11 h1_12 h1_4 h1_4k h1_4c h1_5 h1_5k h1_5c)) (va_A (wd_c_X11_isBeside h0 h0_0 h0_1 h0_2 h0_3 h0_4 h0_f5 h0_6 h0_7 h0_8 h0_9 h0_10 h0_11 h0_12 h0_13 h0_14 h0_f15 h0_1 h0_1_0 h0_1_f1 h0_1_f2 h0_1_f3 h0_1_0 h0_1_0k h0_1_0c h1 h1_f0 h1_f1 h1_f2 h1_f3 h1_4 h1_5 h1_6 h1_7 h1_8 h1_9 h1_10 h1_11 h1_12 h1_4 h1_4k h1_4c h1_5 h1_5k h1_5c) sz)) 0 0 (va_A (wd_c_X11_isBeside h0 h0_0 h0_1 h0_2 h0_3 h0_4 h0_f5 h0_6 h0_7 h0_8 h0_9 h0_10 h0_11 h0_12 h0_13 h0_14 h0_f15 h0_1 h0_1_0 h0_1_f1 h0_1_f2 h0_1_f3 h0_1_0 h0_1_0k h0_1_0c h1 h1_f0 h1_f1 h1_f2 h1_f3 h1_4 h1_5 h1_6 h1_7 h1_8 h1_9 h1_10 h1_11 h1_12 h1_4 h1_4k h1_4c h1_5 h1_5k h1_5c) sz) := by
  refine Met.ofW (cc := cX11_isBeside) (maxL := 4) (ret := (some .boolean)) (by decide +kernel) rfl ?_
  intro p e s m args below meth c s₁ B hml hv
  obtain ⟨rfl, hsz, hP, hK, hD0⟩ := hv
  have hx := B.exec
  have hb := B.bytes
  have hr := B.returns
  have hts := atoms_spec (ws := wf_c_X11_isBeside) B.pre
  have hown : s.vm.findClass RX11 = some m.cls := findClass_of_methodNamed B.named
  have hlocks := B.notSynchronized
  subst hsz
  have hD := hD0.self (sz := s.heap.size)
  generalize hAe : va_A (wd_c_X11_isBeside h0 h0_0 h0_1 h0_2 h0_3 h0_4 h0_f5 h0_6 h0_7 h0_8 h0_9 h0_10 h0_11 h0_12 h0_13 h0_14 h0_f15 h0_1 h0_1_0 h0_1_f1 h0_1_f2 h0_1_f3 h0_1_0 h0_1_0k h0_1_0c h1 h1_f0 h1_f1 h1_f2 h1_f3 h1_4 h1_5 h1_6 h1_7 h1_8 h1_9 h1_10 h1_11 h1_12 h1_4 h1_4k h1_4c h1_5 h1_5k h1_5c) s.heap.size = A at hD ⊢
  have hA : ∀ q : Nat, s.heap.size ≤ q → A q := fun q h => by rw [← hAe]; exact Or.inr h
  have hP : va_P (dC, dI) vwCl (wd_c_X11_isBeside h0 h0_0 h0_1 h0_2 h0_3 h0_4 h0_f5 h0_6 h0_7 h0_8 h0_9 h0_10 h0_11 h0_12 h0_13 h0_14 h0_f15 h0_1 h0_1_0 h0_1_f1 h0_1_f2 h0_1_f3 h0_1_0 h0_1_0k h0_1_0c h1 h1_f0 h1_f1 h1_f2 h1_f3 h1_4 h1_5 h1_6 h1_7 h1_8 h1_9 h1_10 h1_11 h1_12 h1_4 h1_4k h1_4c h1_5 h1_5k h1_5c) s.heap := hP
  have hl := lv_entry ([.ref h0, .ref h1, .int p2, .int p3]) (n := 4) (Nat.le_of_ble_eq_true rfl)
  rw [lg_entry_eq]
  generalize (lg_sl ([.ref h0, .ref h1, .int p2, .int p3]) ++ List.replicate (4 - (lg_sl ([.ref h0, .ref h1, .int p2, .int p3])).length) Slot.unset).toArray = ls at hl ⊢
  have hl : lv_has ls 4 [(0, .ref h0), (1, .ref h1), (2, .int p2), (3, .int p3)] := hl
  obtain ⟨H, hHe⟩ : ∃ H : Heap, s.heap = H := ⟨_, rfl⟩
  have hS : va_S A s.heap H [] := by rw [hHe]; exact va_S.rf
  have hP : va_P (dC, dI) vwCl (wd_c_X11_isBeside h0 h0_0 h0_1 h0_2 h0_3 h0_4 h0_f5 h0_6 h0_7 h0_8 h0_9 h0_10 h0_11 h0_12 h0_13 h0_14 h0_f15 h0_1 h0_1_0 h0_1_f1 h0_1_f2 h0_1_f3 h0_1_0 h0_1_0k h0_1_0c h1 h1_f0 h1_f1 h1_f2 h1_f3 h1_4 h1_5 h1_6 h1_7 h1_8 h1_9 h1_10 h1_11 h1_12 h1_4 h1_4k h1_4c h1_5 h1_5k h1_5c) H := by rw [← hHe]; exact hP
  rw [hHe]
  refine lv_aload_n hx hb dX11_isBeside_0 rfl (lv_at hl 1 rfl) ?_
  as_aux_lemma =>
  refine lv_iload_n hx hb dX11_isBeside_1 rfl (lv_at hl 2 rfl) ?_
  refine lv_aload_n hx hb dX11_isBeside_2 rfl (lv_at hl 0 rfl) ?_
  refine va_get (D := (dC, dI)) (ci := 11) (v := .ref h0_1) (C := RX11) (T := TX11) (N := 16) hx hb hts iw_c_X11_isBeside_X11 hown hK hP 0 rfl rfl 1 (by decide +kernel) (hts (.fieldLink RX11 19 "BuoyVote" "told" "LBuoyVote$Borough;") (List.mem_of_getElem? (i := 1) rfl)) (fun _ h9 => h9) rfl dX11_isBeside_3 ?_
  refine lv_iload_n hx hb dX11_isBeside_6 rfl (lv_at hl 3 rfl) ?_
  obtain ⟨hPc, hDc, hFc, hqc⟩ := cl_cut (wc := (wd_c_X0_buoyX h0_1 h0_1_0 h0_1_f1 h0_1_f2 h0_1_f3 h0_1_0 h0_1_0k h0_1_0c)) hP hD hS hA [1, 2] (by decide +kernel) rfl
  have hKc := hK.sub (tys' := [(h0_1_0k, .int)]) [0] rfl
  have hrv := va_recv hKc hPc (ci := 0) (q0 := 0) rfl rfl
  refine va_calli (va_runV (As := [.int p3]) (rest := [.int p2, .ref h1]) ⟨hx, hb, hml, hown, hts⟩ (c_X0_buoyX l dC dI H.size h0_1 p3 h0_1_0 h0_1_f1 h0_1_f2 h0_1_f3 h0_1_0k h0_1_0c g_p3 g_h0_1_f1 g_h0_1_f2 g_h0_1_f3 a_h0_1_0c) (cwV 1 hts gf_c_X11_isBeside_c_X0_buoyX rfl rfl rfl mdV_X0_buoyX ⟨Nat.le_of_ble_eq_true rfl, Nat.le_of_ble_eq_true rfl⟩) ⟨fun a U g mk q => by obtain ⟨q0, q1, qP, qK, qD⟩ := q; exact ⟨q0, q1, qP, va_K.moved (u := U) (U := U.calling g mk a) (Vm.Alike.refl U.vm) qK, qD⟩, hrv, fun U hU hW => ⟨rfl, by rw [hU], by rw [hU]; exact hPc, va_K.moved hW.alike hKc, hDc.weaken (fun _ _ _ _ => trivial)⟩⟩ rfl rfl hl.1 rfl (lv_room (Nat.le_of_ble_eq_true rfl)) dX11_isBeside_7 ⟨Nat.le_of_ble_eq_true rfl, Nat.le_of_ble_eq_true rfl⟩) hS (fun q _ h => hFc q h) hFc (fun r_1 u t H1 locs ht hvm hw hB hz1 hk1 hS => ?_)
  obtain ⟨hP1, hK1, hD1⟩ := hB
  rw [ht] at hP1
  obtain ⟨hP, hD⟩ := cl_put (w1 := (wd_c_X0_buoyX h0_1 h0_1_0 h0_1_f1 h0_1_f2 h0_1_f3 h0_1_0 h0_1_0k h0_1_0c)) (nw := (wd_c_X11_isBeside h0 h0_0 h0_1 h0_2 h0_3 h0_4 h0_f5 h0_6 h0_7 h0_8 h0_9 h0_10 h0_11 h0_12 h0_13 h0_14 h0_f15 h0_1 h0_1_0 h0_1_f1 h0_1_f2 h0_1_f3 h0_1_0 h0_1_0k h0_1_0c h1 h1_f0 h1_f1 h1_f2 h1_f3 h1_4 h1_5 h1_6 h1_7 h1_8 h1_9 h1_10 h1_11 h1_12 h1_4 h1_4k h1_4c h1_5 h1_5k h1_5c)) hP hD [1, 2] [0, 6, 7, 3, 4, 5] 6 rfl hqc (by decide +kernel) rfl hk1 hFc hP1 hD1
  generalize H1 = H at hP hS ⊢
  as_aux_lemma =>
  rcases hw with ⟨h_2, h_3⟩
  refine lv_aload_n hx hb dX11_isBeside_10 rfl (lv_at hl 0 rfl) ?_
  refine va_get (D := (dC, dI)) (ci := 11) (v := .ref h0_1) (C := RX11) (T := TX11) (N := 16) hx hb hts iw_c_X11_isBeside_X11 hown hK hP 0 rfl rfl 1 (by decide +kernel) (hts (.fieldLink RX11 19 "BuoyVote" "told" "LBuoyVote$Borough;") (List.mem_of_getElem? (i := 1) rfl)) (fun _ h9 => h9) rfl dX11_isBeside_11 ?_
  refine lv_iload_n hx hb dX11_isBeside_14 rfl (lv_at hl 3 rfl) ?_
  obtain ⟨hPc, hDc, hFc, hqc⟩ := cl_cut (wc := (wd_c_X0_buoyY h0_1 h0_1_0 h0_1_f1 h0_1_f2 h0_1_f3 h0_1_0 h0_1_0k h0_1_0c)) hP hD hS hA [1, 2] (by decide +kernel) rfl
  have hKc := hK.sub (tys' := [(h0_1_0k, .int)]) [0] rfl
  have hrv := va_recv hKc hPc (ci := 0) (q0 := 0) rfl rfl
  refine va_calli (va_runV (As := [.int p3]) (rest := [.int r_1, .int p2, .ref h1]) ⟨hx, hb, hml, hown, hts⟩ (c_X0_buoyY l dC dI H.size h0_1 p3 h0_1_0 h0_1_f1 h0_1_f2 h0_1_f3 h0_1_0k h0_1_0c g_p3 g_h0_1_f1 g_h0_1_f2 g_h0_1_f3 a_h0_1_0c) (cwV 1 hts gf_c_X11_isBeside_c_X0_buoyY rfl rfl rfl mdV_X0_buoyY ⟨Nat.le_of_ble_eq_true rfl, Nat.le_of_ble_eq_true rfl⟩) ⟨fun a U g mk q => by obtain ⟨q0, q1, qP, qK, qD⟩ := q; exact ⟨q0, q1, qP, va_K.moved (u := U) (U := U.calling g mk a) (Vm.Alike.refl U.vm) qK, qD⟩, hrv, fun U hU hW => ⟨rfl, by rw [hU], by rw [hU]; exact hPc, va_K.moved hW.alike hKc, hDc.weaken (fun _ _ _ _ => trivial)⟩⟩ rfl rfl hl.1 rfl (lv_room (Nat.le_of_ble_eq_true rfl)) dX11_isBeside_15 ⟨Nat.le_of_ble_eq_true rfl, Nat.le_of_ble_eq_true rfl⟩) hS (fun q _ h => hFc q h) hFc (fun r_4 u t H1 locs ht hvm hw hB hz1 hk1 hS => ?_)
  obtain ⟨hP1, hK1, hD1⟩ := hB
  rw [ht] at hP1
  obtain ⟨hP, hD⟩ := cl_put (w1 := (wd_c_X0_buoyY h0_1 h0_1_0 h0_1_f1 h0_1_f2 h0_1_f3 h0_1_0 h0_1_0k h0_1_0c)) (nw := (wd_c_X11_isBeside h0 h0_0 h0_1 h0_2 h0_3 h0_4 h0_f5 h0_6 h0_7 h0_8 h0_9 h0_10 h0_11 h0_12 h0_13 h0_14 h0_f15 h0_1 h0_1_0 h0_1_f1 h0_1_f2 h0_1_f3 h0_1_0 h0_1_0k h0_1_0c h1 h1_f0 h1_f1 h1_f2 h1_f3 h1_4 h1_5 h1_6 h1_7 h1_8 h1_9 h1_10 h1_11 h1_12 h1_4 h1_4k h1_4c h1_5 h1_5k h1_5c)) hP hD [1, 2] [0, 6, 7, 3, 4, 5] 6 rfl hqc (by decide +kernel) rfl hk1 hFc hP1 hD1
  generalize H1 = H at hP hS ⊢
  as_aux_lemma =>
  rcases hw with ⟨h_5, h_6⟩
  obtain ⟨hPc, hDc, hFc, hqc⟩ := cl_cut (wc := (wd_c_X7_awayOf h1 h1_f0 h1_f1 h1_f2 h1_f3 h1_4 h1_5 h1_6 h1_7 h1_8 h1_9 h1_10 h1_11 h1_12 h1_4 h1_4k h1_4c h1_5 h1_5k h1_5c)) hP hD hS hA [3, 4, 5] (by decide +kernel) rfl
  have hKc := hK.sub (tys' := [(h1_4k, .int), (h1_5k, .int)]) [1, 2] rfl
  have hrv := va_recv hKc hPc (ci := 7) (q0 := 0) rfl rfl
  refine va_calli (va_runV (As := [.int p2, .int r_1, .int r_4]) (rest := []) ⟨hx, hb, hml, hown, hts⟩ (c_X7_awayOf l dC dI H.size h1 p2 r_1 r_4 h1_f0 h1_f1 h1_f2 h1_f3 h1_4 h1_5 h1_6 h1_7 h1_8 h1_9 h1_10 h1_11 h1_12 h1_4k h1_4c h1_5k h1_5c g_p2 h_2 h_5) (cwV 3 hts gf_c_X11_isBeside_c_X7_awayOf rfl rfl rfl mdV_X7_awayOf ⟨Nat.le_of_ble_eq_true rfl, Nat.le_of_ble_eq_true rfl⟩) ⟨fun a U g mk q => by obtain ⟨q0, q1, qP, qK, qD⟩ := q; exact ⟨q0, q1, qP, va_K.moved (u := U) (U := U.calling g mk a) (Vm.Alike.refl U.vm) qK, qD⟩, hrv, fun U hU hW => ⟨rfl, by rw [hU], by rw [hU]; exact hPc, va_K.moved hW.alike hKc, hDc.weaken (fun _ _ _ _ => trivial)⟩⟩ rfl rfl hl.1 rfl (lv_room (Nat.le_of_ble_eq_true rfl)) dX11_isBeside_18 ⟨Nat.le_of_ble_eq_true rfl, Nat.le_of_ble_eq_true rfl⟩) hS (fun q _ h => hFc q h) hFc (fun r_7 u t H1 locs ht hvm hw hB hz1 hk1 hS => ?_)
  obtain ⟨hP1, hK1, hD1⟩ := hB
  rw [ht] at hP1
  obtain ⟨hP, hD⟩ := cl_put (w1 := (wd_c_X7_awayOf h1 h1_f0 h1_f1 h1_f2 h1_f3 h1_4 h1_5 h1_6 h1_7 h1_8 h1_9 h1_10 h1_11 h1_12 h1_4 h1_4k h1_4c h1_5 h1_5k h1_5c)) (nw := (wd_c_X11_isBeside h0 h0_0 h0_1 h0_2 h0_3 h0_4 h0_f5 h0_6 h0_7 h0_8 h0_9 h0_10 h0_11 h0_12 h0_13 h0_14 h0_f15 h0_1 h0_1_0 h0_1_f1 h0_1_f2 h0_1_f3 h0_1_0 h0_1_0k h0_1_0c h1 h1_f0 h1_f1 h1_f2 h1_f3 h1_4 h1_5 h1_6 h1_7 h1_8 h1_9 h1_10 h1_11 h1_12 h1_4 h1_4k h1_4c h1_5 h1_5k h1_5c)) hP hD [3, 4, 5] [0, 1, 2, 6, 7, 8] 6 rfl hqc (by decide +kernel) rfl hk1 hFc hP1 hD1
  generalize H1 = H at hP hS ⊢
  as_aux_lemma =>
  have h_8 := hw
  refine lv_iconst (v := 1) hx hb dX11_isBeside_21 kc_iconst_1 ?_
  refine lv_icmp_gt (tgt := 29) hx hb dX11_isBeside_22 rfl (fun c_9 => ?_) (fun c_9 => ?_)
  · have g_10 : RG r_7 2 2147483647 := RG_lt2 (RG_k 1 1 rfl) h_8 c_9 (by decide +kernel)
    refine lv_iconst (v := 0) hx hb dX11_isBeside_29 kc_iconst_0 ?_
    have hK9 := hK.sub (tys' := []) [] rfl
    exact W.zret (v := 0) hx hb hr rfl (fun t ht hW => ⟨⟨0, (), rfl, (Or.inl rfl), by rw [ht]; exact hP, va_K.moved hW.alike hK9, hD⟩, hS.F ht⟩) hS.2.2 dX11_isBeside_30
  · have d_11 := Int32.not_lt.mp c_9
    have g_12 : RG r_7 (-2147483648) 1 := RG_le1 h_8 (RG_k 1 1 rfl) d_11 (by decide +kernel)
    refine lv_iconst (v := 1) hx hb dX11_isBeside_25 kc_iconst_1 ?_
    refine lv_goto (tgt := 30) hx hb dX11_isBeside_26 rfl ?_
    have hK9 := hK.sub (tys' := []) [] rfl
    exact W.zret (v := 1) hx hb hr rfl (fun t ht hW => ⟨⟨1, (), rfl, (Or.inr rfl), by rw [ht]; exact hP, va_K.moved hW.alike hK9, hD⟩, hS.F ht⟩) hS.2.2 dX11_isBeside_30
noncomputable def wd_c_X7_singTo (a0 : Nat) (a1 : Int32) (a2 : Int32) (a3 : Int32) (a4 : Int32) (a5 : Nat) (a6 : Nat) (a7 : Nat) (a8 : Nat) (a9 : Nat) (a10 : Nat) (a11 : Nat) (a12 : Nat) (a13 : Nat) (a14 : Nat) (a15 : ClassId) (a16 : Nat → Int32) (a17 : Nat) (a18 : ClassId) (a19 : Nat → Int32) : va_W := [(a0, .inr (7, [.int a1, .int a2, .int a3, .int a4, .ref a5, .ref a6, .ref a7, .ref a8, .ref a9, .ref a10, .ref a11, .ref a12, .ref a13])), (a14, .inl (a15, 24, .inl a16)), (a17, .inl (a18, 3, .inl a19))]
noncomputable def wf_c_X7_singTo : List Cond := List.cons (.code yX7_singTo cX7_singTo 3 none) (@HAppend.hAppend (List Cond) (List Cond) (List Cond) _ [.fieldLink RX7 30 "BuoyVote$Sea" "liking" "[I", .fieldLink RX7 27 "BuoyVote$Sea" "sang" "[I"] wsX70)
theorem iw_c_X7_singTo_X7 : ∀ w ∈ wsX70, w ∈ wf_c_X7_singTo := fun w h => List.mem_cons_of_mem _ (List.mem_append_right _ h)
set_option maxHeartbeats 4000000 in
set_option maxRecDepth 100000 in
theorem c_X7_singTo (l : Launch) (dC : Nat → ClassId) (dI : Nat → Nat → Nat) (sz : Nat) (h0 : Nat) (p1 : Int32) (p2 : Int32) (h0_f0 : Int32) (h0_f1 : Int32) (h0_f2 : Int32) (h0_f3 : Int32) (h0_4 : Nat) (h0_5 : Nat) (h0_6 : Nat) (h0_7 : Nat) (h0_8 : Nat) (h0_9 : Nat) (h0_10 : Nat) (h0_11 : Nat) (h0_12 : Nat) (h0_10k : ClassId) (h0_10c : Nat → Int32) (h0_9k : ClassId) (h0_9c : Nat → Int32) (g_p1 : RG p1 0 2) (g_p2 : RG p2 0 7) : Met l yX7_singTo wf_c_X7_singTo ({ frames := 0, cells := 0, slots := 0, locals := 0 }) (va_Pc [.ref h0, .int p1, .int p2] (fun U => U.heap.size = sz ∧ va_P (dC, dI) vwCl (wd_c_X7_singTo h0 h0_f0 h0_f1 h0_f2 h0_f3 h0_4 h0_5 h0_6 h0_7 h0_8 h0_9 h0_10 h0_11 h0_12 h0_10 h0_10k h0_10c h0_9 h0_9k h0_9c) U.heap ∧ va_K (dC, dI) vwCl [(h0_10k, .int), (h0_9k, .int)] U ∧ va_D (fun _ => True) (wd_c_X7_singTo h0 h0_f0 h0_f1 h0_f2 h0_f3 h0_4 h0_5 h0_6 h0_7 h0_8 h0_9 h0_10 h0_11 h0_12 h0_10 h0_10k h0_10c h0_9 h0_9k h0_9c))) (va_Qv (fun (u : (Nat → Int32) × (Nat → Int32)) => (True)) (fun (u : (Nat → Int32) × (Nat → Int32)) t => va_P (dC, dI) vwCl (wd_c_X7_singTo h0 h0_f0 h0_f1 h0_f2 h0_f3 h0_4 h0_5 h0_6 h0_7 h0_8 h0_9 h0_10 h0_11 h0_12 h0_10 h0_10k (u.1) h0_9 h0_9k (u.2)) t.heap ∧ va_K (dC, dI) vwCl [] t ∧ va_D (va_A (wd_c_X7_singTo h0 h0_f0 h0_f1 h0_f2 h0_f3 h0_4 h0_5 h0_6 h0_7 h0_8 h0_9 h0_10 h0_11 h0_12 h0_10 h0_10k h0_10c h0_9 h0_9k h0_9c) sz) (wd_c_X7_singTo h0 h0_f0 h0_f1 h0_f2 h0_f3 h0_4 h0_5 h0_6 h0_7 h0_8 h0_9 h0_10 h0_11 h0_12 h0_10 h0_10k (u.1) h0_9 h0_9k (u.2))) (va_A (wd_c_X7_singTo h0 h0_f0 h0_f1 h0_f2 h0_f3 h0_4 h0_5 h0_6 h0_7 h0_8 h0_9 h0_10 h0_11 h0_12 h0_10 h0_10k h0_10c h0_9 h0_9k h0_9c) sz)) 0 0 (va_A (wd_c_X7_singTo h0 h0_f0 h0_f1 h0_f2 h0_f3 h0_4 h0_5 h0_6 h0_7 h0_8 h0_9 h0_10 h0_11 h0_12 h0_10 h0_10k h0_10c h0_9 h0_9k h0_9c) sz) := by
  refine Met.ofW (cc := cX7_singTo) (maxL := 3) (ret := none) (by decide +kernel) rfl ?_
  intro p e s m args below meth c s₁ B hml hv
  obtain ⟨rfl, hsz, hP, hK, hD0⟩ := hv
  have hx := B.exec
  have hb := B.bytes
  have hr := B.returns
  have hts := atoms_spec (ws := wf_c_X7_singTo) B.pre
  have hown : s.vm.findClass RX7 = some m.cls := findClass_of_methodNamed B.named
  have hlocks := B.notSynchronized
  subst hsz
  have hD := hD0.self (sz := s.heap.size)
  generalize hAe : va_A (wd_c_X7_singTo h0 h0_f0 h0_f1 h0_f2 h0_f3 h0_4 h0_5 h0_6 h0_7 h0_8 h0_9 h0_10 h0_11 h0_12 h0_10 h0_10k h0_10c h0_9 h0_9k h0_9c) s.heap.size = A at hD ⊢
  have hA : ∀ q : Nat, s.heap.size ≤ q → A q := fun q h => by rw [← hAe]; exact Or.inr h
  have hP : va_P (dC, dI) vwCl (wd_c_X7_singTo h0 h0_f0 h0_f1 h0_f2 h0_f3 h0_4 h0_5 h0_6 h0_7 h0_8 h0_9 h0_10 h0_11 h0_12 h0_10 h0_10k h0_10c h0_9 h0_9k h0_9c) s.heap := hP
  have hl := lv_entry ([.ref h0, .int p1, .int p2]) (n := 3) (Nat.le_of_ble_eq_true rfl)
  rw [lg_entry_eq]
  generalize (lg_sl ([.ref h0, .int p1, .int p2]) ++ List.replicate (3 - (lg_sl ([.ref h0, .int p1, .int p2])).length) Slot.unset).toArray = ls at hl ⊢
  have hl : lv_has ls 3 [(0, .ref h0), (1, .int p1), (2, .int p2)] := hl
  obtain ⟨H, hHe⟩ : ∃ H : Heap, s.heap = H := ⟨_, rfl⟩
  have hS : va_S A s.heap H [] := by rw [hHe]; exact va_S.rf
  have hP : va_P (dC, dI) vwCl (wd_c_X7_singTo h0 h0_f0 h0_f1 h0_f2 h0_f3 h0_4 h0_5 h0_6 h0_7 h0_8 h0_9 h0_10 h0_11 h0_12 h0_10 h0_10k h0_10c h0_9 h0_9k h0_9c) H := by rw [← hHe]; exact hP
  rw [hHe]
  refine lv_aload_n hx hb dX7_singTo_0 rfl (lv_at hl 0 rfl) ?_
  as_aux_lemma =>
  refine va_get (D := (dC, dI)) (ci := 7) (v := .ref h0_10) (C := RX7) (T := TX7) (N := 13) hx hb hts iw_c_X7_singTo_X7 hown hK hP 0 rfl rfl 10 (by decide +kernel) (hts (.fieldLink RX7 30 "BuoyVote$Sea" "liking" "[I") (List.mem_of_getElem? (i := 1) rfl)) (fun _ h9 => h9) rfl dX7_singTo_1 ?_
  refine lv_iload_n hx hb dX7_singTo_4 rfl (lv_at hl 2 rfl) ?_
  refine lv_iconst (v := 3) hx hb dX7_singTo_5 kc_iconst_3 ?_
  refine lv_imul hx hb dX7_singTo_6 ?_
  refine lv_topi (fun x_1 ex_1 => ?_)
  have g_2 : RG x_1 0 21 := RG_mulc ex_1 (q := 3) rfl g_p2 (by decide +kernel)
  refine lv_iload_n hx hb dX7_singTo_7 rfl (lv_at hl 1 rfl) ?_
  refine lv_iadd hx hb dX7_singTo_8 ?_
  refine lv_topi (fun x_3 ex_3 => ?_)
  have g_4 : RG x_3 0 23 := RG_add ex_3 g_2 g_p1 (by decide +kernel)
  refine lv_dup2_11 hx hb dX7_singTo_9 rfl rfl ?_
  refine va_iald hx hb hK hP 1 0 rfl rfl (RG_in g_4 (by decide +kernel)) dX7_singTo_10 ?_
  refine lv_topi (fun x_5 ex_5 => ?_)
  refine lv_iconst (v := 1) hx hb dX7_singTo_11 kc_iconst_1 ?_
  as_aux_lemma =>
  refine lv_iadd hx hb dX7_singTo_12 ?_
  refine lv_topi (fun x_6 ex_6 => ?_)
  refine va_iast hx hb hK hP hD hS 1 0 rfl rfl (RG_in g_4 (by decide +kernel)) dX7_singTo_13 (fun H locs hP hD hS => ?_)
  have hP : va_P (dC, dI) vwCl (wd_c_X7_singTo h0 h0_f0 h0_f1 h0_f2 h0_f3 h0_4 h0_5 h0_6 h0_7 h0_8 h0_9 h0_10 h0_11 h0_12 h0_10 h0_10k (upd h0_10c (x_3 : Int32).toNatClampNeg x_6) h0_9 h0_9k h0_9c) H := hP
  have hD : va_D A (wd_c_X7_singTo h0 h0_f0 h0_f1 h0_f2 h0_f3 h0_4 h0_5 h0_6 h0_7 h0_8 h0_9 h0_10 h0_11 h0_12 h0_10 h0_10k (upd h0_10c (x_3 : Int32).toNatClampNeg x_6) h0_9 h0_9k h0_9c) := hD
  have l_8 : (upd h0_10c (x_3 : Int32).toNatClampNeg x_6) (x_3 : Int32).toNatClampNeg = x_6 := pk_us
  generalize (upd h0_10c (x_3 : Int32).toNatClampNeg x_6) = w_7 at hP hD l_8
  have hP : va_P (dC, dI) vwCl (wd_c_X7_singTo h0 h0_f0 h0_f1 h0_f2 h0_f3 h0_4 h0_5 h0_6 h0_7 h0_8 h0_9 h0_10 h0_11 h0_12 h0_10 h0_10k w_7 h0_9 h0_9k h0_9c) H := hP
  have hD : va_D A (wd_c_X7_singTo h0 h0_f0 h0_f1 h0_f2 h0_f3 h0_4 h0_5 h0_6 h0_7 h0_8 h0_9 h0_10 h0_11 h0_12 h0_10 h0_10k w_7 h0_9 h0_9k h0_9c) := hD
  refine lv_aload_n hx hb dX7_singTo_14 rfl (lv_at hl 0 rfl) ?_
  refine va_get (D := (dC, dI)) (ci := 7) (v := .ref h0_9) (C := RX7) (T := TX7) (N := 13) hx hb hts iw_c_X7_singTo_X7 hown hK hP 0 rfl rfl 9 (by decide +kernel) (hts (.fieldLink RX7 27 "BuoyVote$Sea" "sang" "[I") (List.mem_of_getElem? (i := 2) rfl)) (fun _ h9 => h9) rfl dX7_singTo_15 ?_
  refine lv_iload_n hx hb dX7_singTo_18 rfl (lv_at hl 1 rfl) ?_
  refine lv_dup2_11 hx hb dX7_singTo_19 rfl rfl ?_
  refine va_iald hx hb hK hP 2 1 rfl rfl (RG_in g_p1 (by decide +kernel)) dX7_singTo_20 ?_
  as_aux_lemma =>
  refine lv_topi (fun x_9 ex_9 => ?_)
  refine lv_iconst (v := 1) hx hb dX7_singTo_21 kc_iconst_1 ?_
  refine lv_iadd hx hb dX7_singTo_22 ?_
  refine lv_topi (fun x_10 ex_10 => ?_)
  refine va_iast hx hb hK hP hD hS 2 1 rfl rfl (RG_in g_p1 (by decide +kernel)) dX7_singTo_23 (fun H locs hP hD hS => ?_)
  have hP : va_P (dC, dI) vwCl (wd_c_X7_singTo h0 h0_f0 h0_f1 h0_f2 h0_f3 h0_4 h0_5 h0_6 h0_7 h0_8 h0_9 h0_10 h0_11 h0_12 h0_10 h0_10k w_7 h0_9 h0_9k (upd h0_9c (p1 : Int32).toNatClampNeg x_10)) H := hP
  have hD : va_D A (wd_c_X7_singTo h0 h0_f0 h0_f1 h0_f2 h0_f3 h0_4 h0_5 h0_6 h0_7 h0_8 h0_9 h0_10 h0_11 h0_12 h0_10 h0_10k w_7 h0_9 h0_9k (upd h0_9c (p1 : Int32).toNatClampNeg x_10)) := hD
  have l_12 : (upd h0_9c (p1 : Int32).toNatClampNeg x_10) (p1 : Int32).toNatClampNeg = x_10 := pk_us
  generalize (upd h0_9c (p1 : Int32).toNatClampNeg x_10) = w_11 at hP hD l_12
  have hP : va_P (dC, dI) vwCl (wd_c_X7_singTo h0 h0_f0 h0_f1 h0_f2 h0_f3 h0_4 h0_5 h0_6 h0_7 h0_8 h0_9 h0_10 h0_11 h0_12 h0_10 h0_10k w_7 h0_9 h0_9k w_11) H := hP
  have hD : va_D A (wd_c_X7_singTo h0 h0_f0 h0_f1 h0_f2 h0_f3 h0_4 h0_5 h0_6 h0_7 h0_8 h0_9 h0_10 h0_11 h0_12 h0_10 h0_10k w_7 h0_9 h0_9k w_11) := hD
  have hK9 := hK.sub (tys' := []) [] rfl
  exact W.vret hx hb hr (fun t ht hW => ⟨⟨(w_7, w_11), rfl, trivial, by rw [ht]; exact hP, va_K.moved hW.alike hK9, hD⟩, hS.F ht⟩) hS.2.2 dX7_singTo_24
noncomputable def wf_c_X11_isWithin_3 : List Cond := .code yX11_isWithin cX11_isWithin 3 (some .boolean) :: ([])
noncomputable def fx_c_X11_isWithin_3 (p0 : Int32) : Int32 := (if p0 < 0 then 0 else (if 3 < p0 then 0 else 1))
set_option maxHeartbeats 4000000 in
set_option maxRecDepth 100000 in
theorem c_X11_isWithin_3 (l : Launch) (dC : Nat → ClassId) (dI : Nat → Nat → Nat) (sz : Nat) (p0 : Int32) : Met l yX11_isWithin wf_c_X11_isWithin_3 ({ frames := 0, cells := 0, slots := 0, locals := 0 }) (va_Pc [.int p0, .int 0, .int 3] (fun U => U.heap.size = sz ∧ va_P (dC, dI) vwCl [] U.heap ∧ va_K (dC, dI) vwCl [] U ∧ va_D (fun _ => True) [])) (va_Qi (fun (r : Int32) (u : Unit) => (r = 0 ∧ RG p0 (-2147483648) 2147483647 ∧ r = fx_c_X11_isWithin_3 p0) ∨ (r = 1 ∧ RG p0 0 3 ∧ r = fx_c_X11_isWithin_3 p0)) (fun (u : Unit) t => va_P (dC, dI) vwCl [] t.heap ∧ va_K (dC, dI) vwCl [] t ∧ va_D (va_A [] sz) []) (va_A [] sz)) 0 0 (va_A [] sz) := by
  refine Met.ofW (cc := cX11_isWithin) (maxL := 3) (ret := (some .boolean)) (by decide +kernel) rfl ?_
  intro p e s m args below meth c s₁ B hml hv
  obtain ⟨rfl, hsz, hP, hK, hD0⟩ := hv
  have hx := B.exec
  have hb := B.bytes
  have hr := B.returns
  have hts := atoms_spec (ws := wf_c_X11_isWithin_3) B.pre
  have hown : s.vm.findClass RX11 = some m.cls := findClass_of_methodNamed B.named
  have hlocks := B.notSynchronized
  subst hsz
  have hD := hD0.self (sz := s.heap.size)
  generalize hAe : va_A [] s.heap.size = A at hD ⊢
  have hA : ∀ q : Nat, s.heap.size ≤ q → A q := fun q h => by rw [← hAe]; exact Or.inr h
  have hP : va_P (dC, dI) vwCl [] s.heap := hP
  have hl := lv_entry ([.int p0, .int 0, .int 3]) (n := 3) (Nat.le_of_ble_eq_true rfl)
  rw [lg_entry_eq]
  generalize (lg_sl ([.int p0, .int 0, .int 3]) ++ List.replicate (3 - (lg_sl ([.int p0, .int 0, .int 3])).length) Slot.unset).toArray = ls at hl ⊢
  have hl : lv_has ls 3 [(0, .int p0), (1, .int 0), (2, .int 3)] := hl
  obtain ⟨H, hHe⟩ : ∃ H : Heap, s.heap = H := ⟨_, rfl⟩
  have hS : va_S A s.heap H [] := by rw [hHe]; exact va_S.rf
  have hP : va_P (dC, dI) vwCl [] H := by rw [← hHe]; exact hP
  rw [hHe]
  obtain ⟨RES, hR⟩ : ∃ z, fx_c_X11_isWithin_3 p0 = z := ⟨_, rfl⟩
  have hEX : RES = fx_c_X11_isWithin_3 p0 := hR.symm
  refine lv_iload_n hx hb dX11_isWithin_0 rfl (lv_at hl 0 rfl) ?_
  as_aux_lemma =>
  refine lv_iload_n hx hb dX11_isWithin_1 rfl (lv_at hl 1 rfl) ?_
  refine lv_icmp_lt (tgt := 14) hx hb dX11_isWithin_2 rfl (fun c_1 => ?_) (fun c_1 => ?_)
  · replace hEX := hEX.trans (if_pos c_1)
    have g_2 : RG p0 (-2147483648) (-1) := RG_lt1 (RG_any p0) (RG_k 0 0 rfl) c_1 (by decide +kernel)
    refine lv_iconst (v := 0) hx hb dX11_isWithin_14 kc_iconst_0 ?_
    have hK9 := hK.sub (tys' := []) [] rfl
    exact W.zret (v := 0) hx hb hr rfl (fun t ht hW => ⟨⟨0, (), rfl, (Or.inl ⟨rfl, (RG_w g_2 (by decide +kernel)), (hR.trans hEX).symm⟩), by rw [ht]; exact hP, va_K.moved hW.alike hK9, hD⟩, hS.F ht⟩) hS.2.2 dX11_isWithin_15
  · replace hEX := hEX.trans (if_neg c_1)
    have d_3 := Int32.not_lt.mp c_1
    have g_4 : RG p0 0 2147483647 := RG_le2 (RG_k 0 0 rfl) (RG_any p0) d_3 (by decide +kernel)
    refine lv_iload_n hx hb dX11_isWithin_5 rfl (lv_at hl 0 rfl) ?_
    refine lv_iload_n hx hb dX11_isWithin_6 rfl (lv_at hl 2 rfl) ?_
    refine lv_icmp_gt (tgt := 14) hx hb dX11_isWithin_7 rfl (fun c_5 => ?_) (fun c_5 => ?_)
    · replace hEX := hEX.trans (if_pos c_5)
      have g_6 : RG p0 4 2147483647 := RG_lt2 (RG_k 3 3 rfl) g_4 c_5 (by decide +kernel)
      refine lv_iconst (v := 0) hx hb dX11_isWithin_14 kc_iconst_0 ?_
      as_aux_lemma =>
      have hK9 := hK.sub (tys' := []) [] rfl
      exact W.zret (v := 0) hx hb hr rfl (fun t ht hW => ⟨⟨0, (), rfl, (Or.inl ⟨rfl, (RG_w g_6 (by decide +kernel)), (hR.trans hEX).symm⟩), by rw [ht]; exact hP, va_K.moved hW.alike hK9, hD⟩, hS.F ht⟩) hS.2.2 dX11_isWithin_15
    · replace hEX := hEX.trans (if_neg c_5)
      have d_7 := Int32.not_lt.mp c_5
      have g_8 : RG p0 0 3 := RG_le1 g_4 (RG_k 3 3 rfl) d_7 (by decide +kernel)
      refine lv_iconst (v := 1) hx hb dX11_isWithin_10 kc_iconst_1 ?_
      refine lv_goto (tgt := 15) hx hb dX11_isWithin_11 rfl ?_
      have hK9 := hK.sub (tys' := []) [] rfl
      exact W.zret (v := 1) hx hb hr rfl (fun t ht hW => ⟨⟨1, (), rfl, (Or.inr ⟨rfl, g_8, (hR.trans hEX).symm⟩), by rw [ht]; exact hP, va_K.moved hW.alike hK9, hD⟩, hS.F ht⟩) hS.2.2 dX11_isWithin_15
noncomputable def wf_c_X11_isWithin_4 : List Cond := .code yX11_isWithin cX11_isWithin 3 (some .boolean) :: ([])
noncomputable def fx_c_X11_isWithin_4 (p0 : Int32) : Int32 := (if p0 < 1 then 0 else (if 60 < p0 then 0 else 1))
set_option maxHeartbeats 4000000 in
set_option maxRecDepth 100000 in
theorem c_X11_isWithin_4 (l : Launch) (dC : Nat → ClassId) (dI : Nat → Nat → Nat) (sz : Nat) (p0 : Int32) : Met l yX11_isWithin wf_c_X11_isWithin_4 ({ frames := 0, cells := 0, slots := 0, locals := 0 }) (va_Pc [.int p0, .int 1, .int 60] (fun U => U.heap.size = sz ∧ va_P (dC, dI) vwCl [] U.heap ∧ va_K (dC, dI) vwCl [] U ∧ va_D (fun _ => True) [])) (va_Qi (fun (r : Int32) (u : Unit) => (r = 0 ∧ RG p0 (-2147483648) 2147483647 ∧ r = fx_c_X11_isWithin_4 p0) ∨ (r = 1 ∧ RG p0 1 60 ∧ r = fx_c_X11_isWithin_4 p0)) (fun (u : Unit) t => va_P (dC, dI) vwCl [] t.heap ∧ va_K (dC, dI) vwCl [] t ∧ va_D (va_A [] sz) []) (va_A [] sz)) 0 0 (va_A [] sz) := by
  refine Met.ofW (cc := cX11_isWithin) (maxL := 3) (ret := (some .boolean)) (by decide +kernel) rfl ?_
  intro p e s m args below meth c s₁ B hml hv
  obtain ⟨rfl, hsz, hP, hK, hD0⟩ := hv
  have hx := B.exec
  have hb := B.bytes
  have hr := B.returns
  have hts := atoms_spec (ws := wf_c_X11_isWithin_4) B.pre
  have hown : s.vm.findClass RX11 = some m.cls := findClass_of_methodNamed B.named
  have hlocks := B.notSynchronized
  subst hsz
  have hD := hD0.self (sz := s.heap.size)
  generalize hAe : va_A [] s.heap.size = A at hD ⊢
  have hA : ∀ q : Nat, s.heap.size ≤ q → A q := fun q h => by rw [← hAe]; exact Or.inr h
  have hP : va_P (dC, dI) vwCl [] s.heap := hP
  have hl := lv_entry ([.int p0, .int 1, .int 60]) (n := 3) (Nat.le_of_ble_eq_true rfl)
  rw [lg_entry_eq]
  generalize (lg_sl ([.int p0, .int 1, .int 60]) ++ List.replicate (3 - (lg_sl ([.int p0, .int 1, .int 60])).length) Slot.unset).toArray = ls at hl ⊢
  have hl : lv_has ls 3 [(0, .int p0), (1, .int 1), (2, .int 60)] := hl
  obtain ⟨H, hHe⟩ : ∃ H : Heap, s.heap = H := ⟨_, rfl⟩
  have hS : va_S A s.heap H [] := by rw [hHe]; exact va_S.rf
  have hP : va_P (dC, dI) vwCl [] H := by rw [← hHe]; exact hP
  rw [hHe]
  obtain ⟨RES, hR⟩ : ∃ z, fx_c_X11_isWithin_4 p0 = z := ⟨_, rfl⟩
  have hEX : RES = fx_c_X11_isWithin_4 p0 := hR.symm
  refine lv_iload_n hx hb dX11_isWithin_0 rfl (lv_at hl 0 rfl) ?_
  as_aux_lemma =>
  refine lv_iload_n hx hb dX11_isWithin_1 rfl (lv_at hl 1 rfl) ?_
  refine lv_icmp_lt (tgt := 14) hx hb dX11_isWithin_2 rfl (fun c_1 => ?_) (fun c_1 => ?_)
  · replace hEX := hEX.trans (if_pos c_1)
    have g_2 : RG p0 (-2147483648) 0 := RG_lt1 (RG_any p0) (RG_k 1 1 rfl) c_1 (by decide +kernel)
    refine lv_iconst (v := 0) hx hb dX11_isWithin_14 kc_iconst_0 ?_
    have hK9 := hK.sub (tys' := []) [] rfl
    exact W.zret (v := 0) hx hb hr rfl (fun t ht hW => ⟨⟨0, (), rfl, (Or.inl ⟨rfl, (RG_w g_2 (by decide +kernel)), (hR.trans hEX).symm⟩), by rw [ht]; exact hP, va_K.moved hW.alike hK9, hD⟩, hS.F ht⟩) hS.2.2 dX11_isWithin_15
  · replace hEX := hEX.trans (if_neg c_1)
    have d_3 := Int32.not_lt.mp c_1
    have g_4 : RG p0 1 2147483647 := RG_le2 (RG_k 1 1 rfl) (RG_any p0) d_3 (by decide +kernel)
    refine lv_iload_n hx hb dX11_isWithin_5 rfl (lv_at hl 0 rfl) ?_
    refine lv_iload_n hx hb dX11_isWithin_6 rfl (lv_at hl 2 rfl) ?_
    refine lv_icmp_gt (tgt := 14) hx hb dX11_isWithin_7 rfl (fun c_5 => ?_) (fun c_5 => ?_)
    · replace hEX := hEX.trans (if_pos c_5)
      have g_6 : RG p0 61 2147483647 := RG_lt2 (RG_k 60 60 rfl) g_4 c_5 (by decide +kernel)
      refine lv_iconst (v := 0) hx hb dX11_isWithin_14 kc_iconst_0 ?_
      as_aux_lemma =>
      have hK9 := hK.sub (tys' := []) [] rfl
      exact W.zret (v := 0) hx hb hr rfl (fun t ht hW => ⟨⟨0, (), rfl, (Or.inl ⟨rfl, (RG_w g_6 (by decide +kernel)), (hR.trans hEX).symm⟩), by rw [ht]; exact hP, va_K.moved hW.alike hK9, hD⟩, hS.F ht⟩) hS.2.2 dX11_isWithin_15
    · replace hEX := hEX.trans (if_neg c_5)
      have d_7 := Int32.not_lt.mp c_5
      have g_8 : RG p0 1 60 := RG_le1 g_4 (RG_k 60 60 rfl) d_7 (by decide +kernel)
      refine lv_iconst (v := 1) hx hb dX11_isWithin_10 kc_iconst_1 ?_
      refine lv_goto (tgt := 15) hx hb dX11_isWithin_11 rfl ?_
      have hK9 := hK.sub (tys' := []) [] rfl
      exact W.zret (v := 1) hx hb hr rfl (fun t ht hW => ⟨⟨1, (), rfl, (Or.inr ⟨rfl, g_8, (hR.trans hEX).symm⟩), by rw [ht]; exact hP, va_K.moved hW.alike hK9, hD⟩, hS.F ht⟩) hS.2.2 dX11_isWithin_15
noncomputable def wd_c_X0_chain (a0 : Nat) (a1 : Nat) (a2 : Int32) (a3 : Int32) (a4 : Int32) (a5 : Nat) (a6 : ClassId) (a7 : Nat → Int32) : va_W := [(a0, .inr (0, [.ref a1, .int a2, .int a3, .int a4])), (a5, .inl (a6, 80, .inl a7))]
noncomputable def wf_c_X0_chain : List Cond := List.cons (.code yX0_chain cX0_chain 2 (some .int)) (@HAppend.hAppend (List Cond) (List Cond) (List Cond) _ [.fieldLink RX0 11 "BuoyVote$Borough" "values" "[I"] wsX00)
theorem iw_c_X0_chain_X0 : ∀ w ∈ wsX00, w ∈ wf_c_X0_chain := fun w h => List.mem_cons_of_mem _ (List.mem_append_right _ h)
set_option maxHeartbeats 4000000 in
set_option maxRecDepth 100000 in
theorem c_X0_chain (l : Launch) (dC : Nat → ClassId) (dI : Nat → Nat → Nat) (sz : Nat) (h0 : Nat) (p1 : Int32) (h0_0 : Nat) (h0_f1 : Int32) (h0_f2 : Int32) (h0_f3 : Int32) (h0_0k : ClassId) (h0_0c : Nat → Int32) (g_p1 : RG p1 0 7) (g_h0_f1 : RG h0_f1 0 8) (g_h0_f2 : RG h0_f2 0 3) (g_h0_f3 : RG h0_f3 0 1) (a_h0_0c : AI h0_0c (-1) 99) : Met l yX0_chain wf_c_X0_chain ({ frames := 0, cells := 0, slots := 0, locals := 0 }) (va_Pc [.ref h0, .int p1] (fun U => U.heap.size = sz ∧ va_P (dC, dI) vwCl (wd_c_X0_chain h0 h0_0 h0_f1 h0_f2 h0_f3 h0_0 h0_0k h0_0c) U.heap ∧ va_K (dC, dI) vwCl [(h0_0k, .int)] U ∧ va_D (fun _ => True) (wd_c_X0_chain h0 h0_0 h0_f1 h0_f2 h0_f3 h0_0 h0_0k h0_0c))) (va_Qi (fun (r : Int32) (u : Unit) => (RG r (-1) 99)) (fun (u : Unit) t => va_P (dC, dI) vwCl (wd_c_X0_chain h0 h0_0 h0_f1 h0_f2 h0_f3 h0_0 h0_0k h0_0c) t.heap ∧ va_K (dC, dI) vwCl [] t ∧ va_D (va_A (wd_c_X0_chain h0 h0_0 h0_f1 h0_f2 h0_f3 h0_0 h0_0k h0_0c) sz) (wd_c_X0_chain h0 h0_0 h0_f1 h0_f2 h0_f3 h0_0 h0_0k h0_0c)) (va_A (wd_c_X0_chain h0 h0_0 h0_f1 h0_f2 h0_f3 h0_0 h0_0k h0_0c) sz)) 0 0 (va_A (wd_c_X0_chain h0 h0_0 h0_f1 h0_f2 h0_f3 h0_0 h0_0k h0_0c) sz) := by
  refine Met.ofW (cc := cX0_chain) (maxL := 2) (ret := (some .int)) (by decide +kernel) rfl ?_
  intro p e s m args below meth c s₁ B hml hv
  obtain ⟨rfl, hsz, hP, hK, hD0⟩ := hv
  have hx := B.exec
  have hb := B.bytes
  have hr := B.returns
  have hts := atoms_spec (ws := wf_c_X0_chain) B.pre
  have hown : s.vm.findClass RX0 = some m.cls := findClass_of_methodNamed B.named
  have hlocks := B.notSynchronized
  subst hsz
  have hD := hD0.self (sz := s.heap.size)
  generalize hAe : va_A (wd_c_X0_chain h0 h0_0 h0_f1 h0_f2 h0_f3 h0_0 h0_0k h0_0c) s.heap.size = A at hD ⊢
  have hA : ∀ q : Nat, s.heap.size ≤ q → A q := fun q h => by rw [← hAe]; exact Or.inr h
  have hP : va_P (dC, dI) vwCl (wd_c_X0_chain h0 h0_0 h0_f1 h0_f2 h0_f3 h0_0 h0_0k h0_0c) s.heap := hP
  have hl := lv_entry ([.ref h0, .int p1]) (n := 2) (Nat.le_of_ble_eq_true rfl)
  rw [lg_entry_eq]
  generalize (lg_sl ([.ref h0, .int p1]) ++ List.replicate (2 - (lg_sl ([.ref h0, .int p1])).length) Slot.unset).toArray = ls at hl ⊢
  have hl : lv_has ls 2 [(0, .ref h0), (1, .int p1)] := hl
  obtain ⟨H, hHe⟩ : ∃ H : Heap, s.heap = H := ⟨_, rfl⟩
  have hS : va_S A s.heap H [] := by rw [hHe]; exact va_S.rf
  have hP : va_P (dC, dI) vwCl (wd_c_X0_chain h0 h0_0 h0_f1 h0_f2 h0_f3 h0_0 h0_0k h0_0c) H := by rw [← hHe]; exact hP
  rw [hHe]
  refine lv_aload_n hx hb dX0_chain_0 rfl (lv_at hl 0 rfl) ?_
  as_aux_lemma =>
  refine va_get (D := (dC, dI)) (ci := 0) (v := .ref h0_0) (C := RX0) (T := TX0) (N := 4) hx hb hts iw_c_X0_chain_X0 hown hK hP 0 rfl rfl 0 (by decide +kernel) (hts (.fieldLink RX0 11 "BuoyVote$Borough" "values" "[I") (List.mem_of_getElem? (i := 1) rfl)) (fun _ h9 => h9) rfl dX0_chain_1 ?_
  refine lv_iconst (v := 4) hx hb dX0_chain_4 kc_iconst_4 ?_
  refine lv_iload_n hx hb dX0_chain_5 rfl (lv_at hl 1 rfl) ?_
  refine lv_bipush (v := 8) hx hb dX0_chain_6 kc_bipush_8 ?_
  refine lv_imul hx hb dX0_chain_8 ?_
  refine lv_topi (fun x_1 ex_1 => ?_)
  have g_2 : RG x_1 0 56 := RG_mulc ex_1 (q := 8) rfl g_p1 (by decide +kernel)
  refine lv_iadd hx hb dX0_chain_9 ?_
  refine lv_topi (fun x_3 ex_3 => ?_)
  have g_4 : RG x_3 4 60 := RG_add ex_3 (RG_k 4 4 rfl) g_2 (by decide +kernel)
  refine lv_iconst (v := 2) hx hb dX0_chain_10 kc_iconst_2 ?_
  refine lv_iadd hx hb dX0_chain_11 ?_
  refine lv_topi (fun x_5 ex_5 => ?_)
  have g_6 : RG x_5 6 62 := RG_add ex_5 g_4 (RG_k 2 2 rfl) (by decide +kernel)
  refine va_iald hx hb hK hP 1 0 rfl rfl (RG_in g_6 (by decide +kernel)) dX0_chain_12 ?_
  as_aux_lemma =>
  refine lv_topi (fun x_7 ex_7 => ?_)
  have g_8 : RG x_7 (-1) 99 := AI_rd a_h0_0c ex_7
  have hK9 := hK.sub (tys' := []) [] rfl
  exact W.iret (v := x_7) hx hb hr (fun t ht hW => ⟨⟨x_7, (), rfl, g_8, by rw [ht]; exact hP, va_K.moved hW.alike hK9, hD⟩, hS.F ht⟩) hS.2.2 dX0_chain_13
noncomputable def wd_c_X10_leanBy (a0 : Nat) (a1 : Nat) (a2 : Nat) (a3 : Nat) (a4 : Nat) (a5 : Nat) (a6 : Nat) (a7 : Nat) (a8 : Nat) (a9 : Int32) (a10 : Int32) (a11 : Int32) (a12 : Nat) (a13 : ClassId) (a14 : Nat → Int32) : va_W := [(a0, .inr (10, [.ref a1, .ref a2, .ref a3, .ref a4, .ref a5, .ref a6])), (a7, .inr (0, [.ref a8, .int a9, .int a10, .int a11])), (a12, .inl (a13, 3, .inl a14))]
noncomputable def wf_c_X10_leanBy : List Cond := List.cons (.code yX10_leanBy cX10_leanBy 5 (some .int)) (@HAppend.hAppend (List Cond) (List Cond) (List Cond) _ (@HAppend.hAppend (List Cond) (List Cond) (List Cond) _ [.fieldLink RX10 9 "BuoyVote$Waters" "told" "LBuoyVote$Borough;", .fieldLink RX10 93 "BuoyVote$Borough" "boats" "I", .fieldLink RX10 19 "BuoyVote$Waters" "draws" "[I"] wsX100) wsX00)
theorem iw_c_X10_leanBy_X10 : ∀ w ∈ wsX100, w ∈ wf_c_X10_leanBy := fun w h => List.mem_cons_of_mem _ (List.mem_append_left _ (List.mem_append_right _ h))
theorem iw_c_X10_leanBy_X0 : ∀ w ∈ wsX00, w ∈ wf_c_X10_leanBy := fun w h => List.mem_cons_of_mem _ (List.mem_append_right _ h)
set_option maxHeartbeats 4000000 in
set_option maxRecDepth 100000 in
theorem c_X10_leanBy (l : Launch) (dC : Nat → ClassId) (dI : Nat → Nat → Nat) (sz : Nat) (h0 : Nat) (p1 : Int32) (h0_0 : Nat) (h0_1 : Nat) (h0_2 : Nat) (h0_3 : Nat) (h0_4 : Nat) (h0_5 : Nat) (h0_0_0 : Nat) (h0_0_f1 : Int32) (h0_0_f2 : Int32) (h0_0_f3 : Int32) (h0_2k : ClassId) (h0_2c : Nat → Int32) (g_p1 : RG p1 (-1) 99) (g_h0_0_f1 : RG h0_0_f1 0 8) (g_h0_0_f2 : RG h0_0_f2 0 3) (g_h0_0_f3 : RG h0_0_f3 0 1) : Met l yX10_leanBy wf_c_X10_leanBy ({ frames := 0, cells := 0, slots := 0, locals := 0 }) (va_Pc [.ref h0, .int p1] (fun U => U.heap.size = sz ∧ va_P (dC, dI) vwCl (wd_c_X10_leanBy h0 h0_0 h0_1 h0_2 h0_3 h0_4 h0_5 h0_0 h0_0_0 h0_0_f1 h0_0_f2 h0_0_f3 h0_2 h0_2k h0_2c) U.heap ∧ va_K (dC, dI) vwCl [(h0_2k, .int)] U ∧ va_D (fun _ => True) (wd_c_X10_leanBy h0 h0_0 h0_1 h0_2 h0_3 h0_4 h0_5 h0_0 h0_0_0 h0_0_f1 h0_0_f2 h0_0_f3 h0_2 h0_2k h0_2c))) (va_Qi (fun (r : Int32) (u : Unit) => (r = (-1)) ∨ (RG r 0 2)) (fun (u : Unit) t => va_P (dC, dI) vwCl (wd_c_X10_leanBy h0 h0_0 h0_1 h0_2 h0_3 h0_4 h0_5 h0_0 h0_0_0 h0_0_f1 h0_0_f2 h0_0_f3 h0_2 h0_2k h0_2c) t.heap ∧ va_K (dC, dI) vwCl [] t ∧ va_D (va_A (wd_c_X10_leanBy h0 h0_0 h0_1 h0_2 h0_3 h0_4 h0_5 h0_0 h0_0_0 h0_0_f1 h0_0_f2 h0_0_f3 h0_2 h0_2k h0_2c) sz) (wd_c_X10_leanBy h0 h0_0 h0_1 h0_2 h0_3 h0_4 h0_5 h0_0 h0_0_0 h0_0_f1 h0_0_f2 h0_0_f3 h0_2 h0_2k h0_2c)) (va_A (wd_c_X10_leanBy h0 h0_0 h0_1 h0_2 h0_3 h0_4 h0_5 h0_0 h0_0_0 h0_0_f1 h0_0_f2 h0_0_f3 h0_2 h0_2k h0_2c) sz)) 0 0 (va_A (wd_c_X10_leanBy h0 h0_0 h0_1 h0_2 h0_3 h0_4 h0_5 h0_0 h0_0_0 h0_0_f1 h0_0_f2 h0_0_f3 h0_2 h0_2k h0_2c) sz) := by
  refine Met.ofW (cc := cX10_leanBy) (maxL := 5) (ret := (some .int)) (by decide +kernel) rfl ?_
  intro p e s m args below meth c s₁ B hml hv
  obtain ⟨rfl, hsz, hP, hK, hD0⟩ := hv
  have hx := B.exec
  have hb := B.bytes
  have hr := B.returns
  have hts := atoms_spec (ws := wf_c_X10_leanBy) B.pre
  have hown : s.vm.findClass RX10 = some m.cls := findClass_of_methodNamed B.named
  have hlocks := B.notSynchronized
  subst hsz
  have hD := hD0.self (sz := s.heap.size)
  generalize hAe : va_A (wd_c_X10_leanBy h0 h0_0 h0_1 h0_2 h0_3 h0_4 h0_5 h0_0 h0_0_0 h0_0_f1 h0_0_f2 h0_0_f3 h0_2 h0_2k h0_2c) s.heap.size = A at hD ⊢
  have hA : ∀ q : Nat, s.heap.size ≤ q → A q := fun q h => by rw [← hAe]; exact Or.inr h
  have hP : va_P (dC, dI) vwCl (wd_c_X10_leanBy h0 h0_0 h0_1 h0_2 h0_3 h0_4 h0_5 h0_0 h0_0_0 h0_0_f1 h0_0_f2 h0_0_f3 h0_2 h0_2k h0_2c) s.heap := hP
  have hl := lv_entry ([.ref h0, .int p1]) (n := 5) (Nat.le_of_ble_eq_true rfl)
  rw [lg_entry_eq]
  generalize (lg_sl ([.ref h0, .int p1]) ++ List.replicate (5 - (lg_sl ([.ref h0, .int p1])).length) Slot.unset).toArray = ls at hl ⊢
  have hl : lv_has ls 5 [(0, .ref h0), (1, .int p1)] := hl
  obtain ⟨H, hHe⟩ : ∃ H : Heap, s.heap = H := ⟨_, rfl⟩
  have hS : va_S A s.heap H [] := by rw [hHe]; exact va_S.rf
  have hP : va_P (dC, dI) vwCl (wd_c_X10_leanBy h0 h0_0 h0_1 h0_2 h0_3 h0_4 h0_5 h0_0 h0_0_0 h0_0_f1 h0_0_f2 h0_0_f3 h0_2 h0_2k h0_2c) H := by rw [← hHe]; exact hP
  rw [hHe]
  refine wj (fun G hG hU => ?_)
  as_aux_lemma =>
  have J7 : ∀ (n7 : Nat) (j7_l4 : Int32) (j7_l3 : Int32) (j7_l2 : Int32) (hM7 : MU j7_l4 < n7) (g_h0_0_f1 : RG h0_0_f1 0 8) (g_h0_0_f2 : RG h0_0_f2 0 3) (g_h0_0_f3 : RG h0_0_f3 0 1) (g_j7_l2 : RG j7_l2 0 2) (g_j7_l3 : RG j7_l3 0 1) (g_j7_l4 : RG j7_l4 1 3) (g_p1 : RG p1 (-1) 99) (H : Heap) (locs : List Loc) (ls : Array Slot) (hP : va_P (dC, dI) vwCl (wd_c_X10_leanBy h0 h0_0 h0_1 h0_2 h0_3 h0_4 h0_5 h0_0 h0_0_0 h0_0_f1 h0_0_f2 h0_0_f3 h0_2 h0_2k h0_2c) H) (hD : va_D A (wd_c_X10_leanBy h0 h0_0 h0_1 h0_2 h0_3 h0_4 h0_5 h0_0 h0_0_0 h0_0_f1 h0_0_f2 h0_0_f3 h0_2 h0_2k h0_2c)) (hS : va_S A s.heap H locs) (hl : lv_has ls 5 [(4, .int j7_l4), (3, .int j7_l3), (2, .int j7_l2), (0, .ref h0), (1, .int p1)]), G H locs (F0 m 7 ls []) := by
    as_aux_lemma =>
    intro n7
    induction n7 with
    | zero => intros; exact absurd (by assumption) (Nat.not_lt_zero _)
    | succ n7 ih7 =>
      intro j7_l4 j7_l3 j7_l2 hM7 g_h0_0_f1 g_h0_0_f2 g_h0_0_f3 g_j7_l2 g_j7_l3 g_j7_l4 g_p1 H locs ls hP hD hS hl
      have J61 : ∀ (j61_l3 : Int32) (j61_l2 : Int32) (g_h0_0_f1 : RG h0_0_f1 0 8) (g_h0_0_f2 : RG h0_0_f2 2 3) (g_h0_0_f3 : RG h0_0_f3 0 1) (g_j61_l2 : RG j61_l2 0 2) (g_j61_l3 : RG j61_l3 0 1) (g_j7_l2 : RG j7_l2 0 2) (g_j7_l3 : RG j7_l3 0 1) (g_j7_l4 : RG j7_l4 1 2) (g_p1 : RG p1 (-1) 99) (H : Heap) (locs : List Loc) (ls : Array Slot) (hP : va_P (dC, dI) vwCl (wd_c_X10_leanBy h0 h0_0 h0_1 h0_2 h0_3 h0_4 h0_5 h0_0 h0_0_0 h0_0_f1 h0_0_f2 h0_0_f3 h0_2 h0_2k h0_2c) H) (hD : va_D A (wd_c_X10_leanBy h0 h0_0 h0_1 h0_2 h0_3 h0_4 h0_5 h0_0 h0_0_0 h0_0_f1 h0_0_f2 h0_0_f3 h0_2 h0_2k h0_2c)) (hS : va_S A s.heap H locs) (hl : lv_has ls 5 [(4, .int j7_l4), (3, .int j61_l3), (2, .int j61_l2), (0, .ref h0), (1, .int p1)]), G H locs (F0 m 61 ls []) := by
        as_aux_lemma =>
        intro j61_l3 j61_l2 g_h0_0_f1 g_h0_0_f2 g_h0_0_f3 g_j61_l2 g_j61_l3 g_j7_l2 g_j7_l3 g_j7_l4 g_p1 H locs ls hP hD hS hl
        refine hG _ _ _ ?_
        obtain ⟨x_1, ex_1⟩ : ∃ y : Int32, y = j7_l4 + 1 := ⟨_, rfl⟩
        have g_2 : RG x_1 2 3 := RG_add ex_1 g_j7_l4 (RG_k 1 1 rfl) (by decide +kernel)
        refine lv_iinc (v := x_1) (lv' := [(4, .int x_1), (3, .int j61_l3), (2, .int j61_l2), (0, .ref h0), (1, .int p1)]) hx hb dX10_leanBy_61 hl (k := 0) rfl (by rw [ex_1]; rfl) (Nat.le_of_ble_eq_true rfl) rfl (fun ls hl => ?_)
        refine lv_goto (tgt := 7) hx hb dX10_leanBy_64 rfl ?_
        exact hU _ _ _ (ih7 x_1 j61_l3 j61_l2 (mu_s (MU_add ex_1 g_j7_l4 (q := 1) rfl (by decide +kernel)) hM7) g_h0_0_f1 (RG_w g_h0_0_f2 (by decide +kernel)) g_h0_0_f3 g_j61_l2 g_j61_l3 (RG_w g_2 (by decide +kernel)) g_p1 _ _ _ hP hD hS (lv_sub hl [0, 1, 2, 3, 4] rfl))
      refine hG _ _ _ ?_
      refine lv_iload hx hb dX10_leanBy_7 (lv_at hl 0 rfl) ?_
      refine lv_aload_n hx hb dX10_leanBy_9 rfl (lv_at hl 3 rfl) ?_
      refine va_get (D := (dC, dI)) (ci := 10) (v := .ref h0_0) (C := RX10) (T := TX10) (N := 6) hx hb hts iw_c_X10_leanBy_X10 hown hK hP 0 rfl rfl 0 (by decide +kernel) (hts (.fieldLink RX10 9 "BuoyVote$Waters" "told" "LBuoyVote$Borough;") (List.mem_of_getElem? (i := 1) rfl)) (fun _ h9 => h9) rfl dX10_leanBy_10 ?_
      refine va_get (D := (dC, dI)) (ci := 0) (v := .int h0_0_f2) (C := RX0) (T := TX0) (N := 4) hx hb hts iw_c_X10_leanBy_X0 hown hK hP 1 rfl rfl 2 (by decide +kernel) (hts (.fieldLink RX10 93 "BuoyVote$Borough" "boats" "I") (List.mem_of_getElem? (i := 2) rfl)) (fun _ h9 => h9) rfl dX10_leanBy_13 ?_
      refine lv_icmp_ge (tgt := 67) hx hb dX10_leanBy_16 rfl (fun c_3 => ?_) (fun c_3 => ?_)
      · refine lv_iload_n hx hb dX10_leanBy_67 rfl (lv_at hl 1 rfl) ?_
        refine lv_if_eq (tgt := 85) hx hb dX10_leanBy_68 rfl (fun c_4 => ?_) (fun c_4 => ?_)
        · have g_5 : RG j7_l3 0 0 := RG_eq1 g_j7_l3 (RG_k 0 0 rfl) c_4 (by decide +kernel)
          refine lv_iconst (v := (-1)) hx hb dX10_leanBy_85 kc_iconst_m1 ?_
          as_aux_lemma =>
          have hK9 := hK.sub (tys' := []) [] rfl
          exact W.iret (v := (-1)) hx hb hr (fun t ht hW => ⟨⟨(-1), (), rfl, (Or.inl rfl), by rw [ht]; exact hP, va_K.moved hW.alike hK9, hD⟩, hS.F ht⟩) hS.2.2 dX10_leanBy_86
        · have g_6 : RG j7_l3 1 1 := RG_ne1 g_j7_l3 (q := 0) rfl c_4 (by decide +kernel)
          refine lv_aload_n hx hb dX10_leanBy_71 rfl (lv_at hl 3 rfl) ?_
          refine va_get (D := (dC, dI)) (ci := 10) (v := .ref h0_2) (C := RX10) (T := TX10) (N := 6) hx hb hts iw_c_X10_leanBy_X10 hown hK hP 0 rfl rfl 2 (by decide +kernel) (hts (.fieldLink RX10 19 "BuoyVote$Waters" "draws" "[I") (List.mem_of_getElem? (i := 3) rfl)) (fun _ h9 => h9) rfl dX10_leanBy_72 ?_
          refine lv_iload_n hx hb dX10_leanBy_75 rfl (lv_at hl 2 rfl) ?_
          refine va_iald hx hb hK hP 2 0 rfl rfl (RG_in g_j7_l2 (by decide +kernel)) dX10_leanBy_76 ?_
          refine lv_topi (fun x_7 ex_7 => ?_)
          refine lv_iload_n hx hb dX10_leanBy_77 rfl (lv_at hl 4 rfl) ?_
          refine lv_icmp_lt (tgt := 85) hx hb dX10_leanBy_78 rfl (fun c_8 => ?_) (fun c_8 => ?_)
          · have g_9 : RG x_7 (-2147483648) 98 := RG_lt1 (RG_any x_7) g_p1 c_8 (by decide +kernel)
            refine lv_iconst (v := (-1)) hx hb dX10_leanBy_85 kc_iconst_m1 ?_
            have hK9 := hK.sub (tys' := []) [] rfl
            exact W.iret (v := (-1)) hx hb hr (fun t ht hW => ⟨⟨(-1), (), rfl, (Or.inl rfl), by rw [ht]; exact hP, va_K.moved hW.alike hK9, hD⟩, hS.F ht⟩) hS.2.2 dX10_leanBy_86
          · have d_10 := Int32.not_lt.mp c_8
            have g_11 : RG x_7 (-1) 2147483647 := RG_le2 g_p1 (RG_any x_7) d_10 (by decide +kernel)
            refine lv_iload_n hx hb dX10_leanBy_81 rfl (lv_at hl 2 rfl) ?_
            as_aux_lemma =>
            refine lv_goto (tgt := 86) hx hb dX10_leanBy_82 rfl ?_
            have hK9 := hK.sub (tys' := []) [] rfl
            exact W.iret (v := j7_l2) hx hb hr (fun t ht hW => ⟨⟨j7_l2, (), rfl, (Or.inr g_j7_l2), by rw [ht]; exact hP, va_K.moved hW.alike hK9, hD⟩, hS.F ht⟩) hS.2.2 dX10_leanBy_86
      · have d_12 := Int32.not_le.mp c_3
        have g_13 : RG j7_l4 1 2 := RG_lt1 g_j7_l4 g_h0_0_f2 d_12 (by decide +kernel)
        have g_14 : RG h0_0_f2 2 3 := RG_lt2 g_j7_l4 g_h0_0_f2 d_12 (by decide +kernel)
        refine lv_aload_n hx hb dX10_leanBy_19 rfl (lv_at hl 3 rfl) ?_
        refine va_get (D := (dC, dI)) (ci := 10) (v := .ref h0_2) (C := RX10) (T := TX10) (N := 6) hx hb hts iw_c_X10_leanBy_X10 hown hK hP 0 rfl rfl 2 (by decide +kernel) (hts (.fieldLink RX10 19 "BuoyVote$Waters" "draws" "[I") (List.mem_of_getElem? (i := 3) rfl)) (fun _ h9 => h9) rfl dX10_leanBy_20 ?_
        refine lv_iload hx hb dX10_leanBy_23 (lv_at hl 0 rfl) ?_
        refine va_iald hx hb hK hP 2 0 rfl rfl (RG_in g_13 (by decide +kernel)) dX10_leanBy_25 ?_
        refine lv_topi (fun x_15 ex_15 => ?_)
        refine lv_aload_n hx hb dX10_leanBy_26 rfl (lv_at hl 3 rfl) ?_
        refine va_get (D := (dC, dI)) (ci := 10) (v := .ref h0_2) (C := RX10) (T := TX10) (N := 6) hx hb hts iw_c_X10_leanBy_X10 hown hK hP 0 rfl rfl 2 (by decide +kernel) (hts (.fieldLink RX10 19 "BuoyVote$Waters" "draws" "[I") (List.mem_of_getElem? (i := 3) rfl)) (fun _ h9 => h9) rfl dX10_leanBy_27 ?_
        refine lv_iload_n hx hb dX10_leanBy_30 rfl (lv_at hl 2 rfl) ?_
        as_aux_lemma =>
        refine va_iald hx hb hK hP 2 0 rfl rfl (RG_in g_j7_l2 (by decide +kernel)) dX10_leanBy_31 ?_
        refine lv_topi (fun x_16 ex_16 => ?_)
        refine lv_icmp_le (tgt := 43) hx hb dX10_leanBy_32 rfl (fun c_17 => ?_) (fun c_17 => ?_)
        · refine lv_aload_n hx hb dX10_leanBy_43 rfl (lv_at hl 3 rfl) ?_
          refine va_get (D := (dC, dI)) (ci := 10) (v := .ref h0_2) (C := RX10) (T := TX10) (N := 6) hx hb hts iw_c_X10_leanBy_X10 hown hK hP 0 rfl rfl 2 (by decide +kernel) (hts (.fieldLink RX10 19 "BuoyVote$Waters" "draws" "[I") (List.mem_of_getElem? (i := 3) rfl)) (fun _ h9 => h9) rfl dX10_leanBy_44 ?_
          refine lv_iload hx hb dX10_leanBy_47 (lv_at hl 0 rfl) ?_
          refine va_iald hx hb hK hP 2 0 rfl rfl (RG_in g_13 (by decide +kernel)) dX10_leanBy_49 ?_
          refine lv_topi (fun x_18 ex_18 => ?_)
          obtain rfl : x_15 = x_18 := (ex_18.trans ex_15.symm).symm
          refine lv_aload_n hx hb dX10_leanBy_50 rfl (lv_at hl 3 rfl) ?_
          refine va_get (D := (dC, dI)) (ci := 10) (v := .ref h0_2) (C := RX10) (T := TX10) (N := 6) hx hb hts iw_c_X10_leanBy_X10 hown hK hP 0 rfl rfl 2 (by decide +kernel) (hts (.fieldLink RX10 19 "BuoyVote$Waters" "draws" "[I") (List.mem_of_getElem? (i := 3) rfl)) (fun _ h9 => h9) rfl dX10_leanBy_51 ?_
          refine lv_iload_n hx hb dX10_leanBy_54 rfl (lv_at hl 2 rfl) ?_
          refine va_iald hx hb hK hP 2 0 rfl rfl (RG_in g_j7_l2 (by decide +kernel)) dX10_leanBy_55 ?_
          refine lv_topi (fun x_19 ex_19 => ?_)
          as_aux_lemma =>
          obtain rfl : x_16 = x_19 := (ex_19.trans ex_16.symm).symm
          refine lv_icmp_ne (tgt := 61) hx hb dX10_leanBy_56 rfl (fun c_20 => ?_) (fun c_20 => ?_)
          · exact hU _ _ _ (J61 j7_l3 j7_l2 g_h0_0_f1 g_14 g_h0_0_f3 g_j7_l2 g_j7_l3 g_j7_l2 g_j7_l3 g_13 g_p1 _ _ _ hP hD hS (lv_sub hl [0, 1, 2, 3, 4] rfl))
          · refine lv_iconst (v := 0) hx hb dX10_leanBy_59 kc_iconst_0 ?_
            refine lv_istore_n (lv' := [(3, .int 0), (4, .int j7_l4), (2, .int j7_l2), (0, .ref h0), (1, .int p1)]) hx hb dX10_leanBy_60 rfl hl (Nat.le_of_ble_eq_true rfl) rfl (fun ls hl => ?_)
            exact hU _ _ _ (J61 0 j7_l2 g_h0_0_f1 g_14 g_h0_0_f3 g_j7_l2 (RG_w (RG_k 0 0 rfl) (by decide +kernel)) g_j7_l2 g_j7_l3 g_13 g_p1 _ _ _ hP hD hS (lv_sub hl [1, 0, 2, 3, 4] rfl))
        · have d_21 := Int32.not_le.mp c_17
          have g_22 : RG x_16 (-2147483648) 2147483646 := RG_lt1 (RG_any x_16) (RG_any x_15) d_21 (by decide +kernel)
          have g_23 : RG x_15 (-2147483647) 2147483647 := RG_lt2 (RG_any x_16) (RG_any x_15) d_21 (by decide +kernel)
          refine lv_iload hx hb dX10_leanBy_35 (lv_at hl 0 rfl) ?_
          refine lv_istore_n (lv' := [(2, .int j7_l4), (4, .int j7_l4), (3, .int j7_l3), (0, .ref h0), (1, .int p1)]) hx hb dX10_leanBy_37 rfl hl (Nat.le_of_ble_eq_true rfl) rfl (fun ls hl => ?_)
          refine lv_iconst (v := 1) hx hb dX10_leanBy_38 kc_iconst_1 ?_
          refine lv_istore_n (lv' := [(3, .int 1), (2, .int j7_l4), (4, .int j7_l4), (0, .ref h0), (1, .int p1)]) hx hb dX10_leanBy_39 rfl hl (Nat.le_of_ble_eq_true rfl) rfl (fun ls hl => ?_)
          refine lv_goto (tgt := 61) hx hb dX10_leanBy_40 rfl ?_
          as_aux_lemma =>
          exact hU _ _ _ (J61 1 j7_l4 g_h0_0_f1 g_14 g_h0_0_f3 (RG_w g_13 (by decide +kernel)) (RG_w (RG_k 1 1 rfl) (by decide +kernel)) g_j7_l2 g_j7_l3 g_13 g_p1 _ _ _ hP hD hS (lv_sub hl [2, 0, 1, 3, 4] rfl))
  refine hG _ _ _ ?_
  refine lv_iconst (v := 0) hx hb dX10_leanBy_0 kc_iconst_0 ?_
  refine lv_istore_n (lv' := [(2, .int 0), (0, .ref h0), (1, .int p1)]) hx hb dX10_leanBy_1 rfl hl (Nat.le_of_ble_eq_true rfl) rfl (fun ls hl => ?_)
  refine lv_iconst (v := 1) hx hb dX10_leanBy_2 kc_iconst_1 ?_
  refine lv_istore_n (lv' := [(3, .int 1), (2, .int 0), (0, .ref h0), (1, .int p1)]) hx hb dX10_leanBy_3 rfl hl (Nat.le_of_ble_eq_true rfl) rfl (fun ls hl => ?_)
  refine lv_iconst (v := 1) hx hb dX10_leanBy_4 kc_iconst_1 ?_
  refine lv_istore (lv' := [(4, .int 1), (3, .int 1), (2, .int 0), (0, .ref h0), (1, .int p1)]) hx hb dX10_leanBy_5 hl (Nat.le_of_ble_eq_true rfl) rfl (fun ls hl => ?_)
  exact hU _ _ _ (J7 _ 1 1 0 (Nat.lt_succ_self _) g_h0_0_f1 g_h0_0_f2 g_h0_0_f3 (RG_w (RG_k 0 0 rfl) (by decide +kernel)) (RG_w (RG_k 1 1 rfl) (by decide +kernel)) (RG_w (RG_k 1 1 rfl) (by decide +kernel)) g_p1 _ _ _ hP hD hS (lv_sub hl [0, 1, 2, 3, 4] rfl))
noncomputable def wd_c_X10_tallyUp (a0 : Nat) (a1 : Nat) (a2 : Nat) (a3 : Nat) (a4 : Nat) (a5 : Nat) (a6 : Nat) (a7 : Nat) (a8 : ClassId) (a9 : Nat → Int32) (a10 : Nat) (a11 : Nat) (a12 : Int32) (a13 : Int32) (a14 : Int32) (a15 : Nat) (a16 : ClassId) (a17 : Nat → Int32) (a18 : Nat) (a19 : ClassId) (a20 : Nat → Int32) (a21 : Nat) (a22 : ClassId) (a23 : Nat → Int32) (a24 : Nat) (a25 : Int32) (a26 : Int32) (a27 : Int32) (a28 : Int32) (a29 : Nat) (a30 : Nat) (a31 : Nat) (a32 : Nat) (a33 : Nat) (a34 : Nat) (a35 : Nat) (a36 : Nat) (a37 : Nat) (a38 : Nat) (a39 : ClassId) (a40 : Nat → Int32) (a41 : Nat) (a42 : ClassId) (a43 : Nat → Int32) (a44 : Nat) (a45 : ClassId) (a46 : Nat → Int32) (a47 : Nat) (a48 : ClassId) (a49 : Nat → Int32) (a50 : Nat) (a51 : ClassId) (a52 : Nat → Int32) (a53 : Nat) (a54 : Nat) (a55 : Int32) (a56 : Int32) (a57 : Nat) (a58 : Nat) (a59 : ClassId) (a60 : Nat → Int32) (a61 : Nat) (a62 : ClassId) (a63 : Nat → Option Nat) (a64 : Nat) (a65 : Nat) (a66 : Int32) (a67 : Nat) (a68 : Nat) (a69 : ClassId) (a70 : Nat → Int32) (a71 : Nat) (a72 : ClassId) (a73 : Nat → Int32) (a74 : Nat) (a75 : Nat) (a76 : Int32) (a77 : Nat) (a78 : Nat) (a79 : ClassId) (a80 : Nat → Int32) (a81 : Nat) (a82 : ClassId) (a83 : Nat → Int32) (a84 : Nat) (a85 : Nat) (a86 : Int32) (a87 : Nat) (a88 : Nat) (a89 : ClassId) (a90 : Nat → Int32) (a91 : Nat) (a92 : ClassId) (a93 : Nat → Int32) (a94 : Nat) (a95 : Nat) (a96 : Int32) (a97 : Nat) (a98 : Nat) (a99 : ClassId) (a100 : Nat → Int32) (a101 : Nat) (a102 : ClassId) (a103 : Nat → Int32) : va_W := [(a0, .inr (10, [.ref a1, .ref a2, .ref a3, .ref a4, .ref a5, .ref a6])), (a7, .inl (a8, 3, .inl a9)), (a10, .inr (0, [.ref a11, .int a12, .int a13, .int a14])), (a15, .inl (a16, 80, .inl a17)), (a18, .inl (a19, 3, .inl a20)), (a21, .inl (a22, 8, .inl a23)), (a24, .inr (7, [.int a25, .int a26, .int a27, .int a28, .ref a29, .ref a30, .ref a31, .ref a32, .ref a33, .ref a34, .ref a35, .ref a36, .ref a37])), (a38, .inl (a39, 24, .inl a40)), (a41, .inl (a42, 8, .inl a43)), (a44, .inl (a45, 8, .inl a46)), (a47, .inl (a48, 3, .inl a49)), (a50, .inl (a51, 3, .inl a52)), (a53, .inr (5, [.ref a54, .int a55, .int a56, .ref a57])), (a58, .inl (a59, 6, .inl a60)), (a61, .inl (a62, 5, .inr (.inr (.inr (.inr a63))))), (a64, .inr (4, [.ref a65, .int a66, .ref a67])), (a68, .inl (a69, 240, .inl a70)), (a71, .inl (a72, 64, .inl a73)), (a74, .inr (4, [.ref a75, .int a76, .ref a77])), (a78, .inl (a79, 240, .inl a80)), (a81, .inl (a82, 64, .inl a83)), (a84, .inr (4, [.ref a85, .int a86, .ref a87])), (a88, .inl (a89, 240, .inl a90)), (a91, .inl (a92, 64, .inl a93)), (a94, .inr (4, [.ref a95, .int a96, .ref a97])), (a98, .inl (a99, 240, .inl a100)), (a101, .inl (a102, 64, .inl a103))]
noncomputable def wf_c_X10_tallyUp : List Cond := List.cons (.code yX10_tallyUp cX10_tallyUp 4 none) (@HAppend.hAppend (List Cond) (List Cond) (List Cond) _ (@HAppend.hAppend (List Cond) (List Cond) (List Cond) _ (@HAppend.hAppend (List Cond) (List Cond) (List Cond) _ (@HAppend.hAppend (List Cond) (List Cond) (List Cond) _ (@HAppend.hAppend (List Cond) (List Cond) (List Cond) _ [.fieldLink RX10 26 "BuoyVote$Waters" "tally" "[I", .fieldLink RX10 9 "BuoyVote$Waters" "told" "LBuoyVote$Borough;", .fieldLink RX10 105 "BuoyVote$Borough" "buoys" "I", .fieldLink RX10 93 "BuoyVote$Borough" "boats" "I", .fieldLink RX10 23 "BuoyVote$Waters" "leans" "[I", .methodLink RX10 99 yX0_chain, .instanceMethod yX0_chain, .selects RX0 yX0_chain yX0_chain, .initialized RX0, .code yX0_chain cX0_chain 2 (some .int), .fieldLink RX0 11 "BuoyVote$Borough" "values" "[I", .methodLink RX10 102 yX10_leanBy, .instanceMethod yX10_leanBy, .selects RX10 yX10_leanBy yX10_leanBy, .initialized RX10, .code yX10_leanBy cX10_leanBy 5 (some .int), .fieldLink RX10 19 "BuoyVote$Waters" "draws" "[I", .methodLink RX10 96 yX10_drawOf, .instanceMethod yX10_drawOf, .selects RX10 yX10_drawOf yX10_drawOf, .code yX10_drawOf cX10_drawOf 7 (some .int), .fieldLink RX10 67 "BuoyVote$Sea" "liking" "[I", .fieldLink RX10 70 "BuoyVote$Sea" "old" "[I", .fieldLink RX10 73 "BuoyVote$Sea" "barnacles" "[I", .methodLink RX10 43 yX0_buoyX, .instanceMethod yX0_buoyX, .selects RX0 yX0_buoyX yX0_buoyX, .code yX0_buoyX cX0_buoyX 2 (some .int), .methodLink RX10 50 yX0_buoyY, .instanceMethod yX0_buoyY, .selects RX0 yX0_buoyY yX0_buoyY, .code yX0_buoyY cX0_buoyY 2 (some .int), .methodLink RX10 76 yX7_awayOf, .instanceMethod yX7_awayOf, .selects RX7 yX7_awayOf yX7_awayOf, .initialized RX7, .code yX7_awayOf cX7_awayOf 4 (some .int), .fieldLink RX7 9 "BuoyVote$Sea" "x" "[I", .methodLink RX7 99 Lib.Math.abs.name, .static Lib.Math.abs.name, .initialized "java/lang/Math", .code Lib.Math.abs.name Lib.Math.abs.code 1 (some .int), .fieldLink RX7 15 "BuoyVote$Sea" "y" "[I", .fieldLink RX10 15 "BuoyVote$Waters" "laws" "LBuoyVote$LawBook;", .methodLink RX10 80 yX0_voice, .instanceMethod yX0_voice, .selects RX0 yX0_voice yX0_voice, .code yX0_voice cX0_voice 2 (some .int), .methodLink RX10 83 yX10_pushOf, .instanceMethod yX10_pushOf, .selects RX10 yX10_pushOf yX10_pushOf, .code yX10_pushOf cX10_pushOf 10 (some .int), .fieldLink RX10 38 "BuoyVote$Sea" "x" "[I", .fieldLink RX10 47 "BuoyVote$Sea" "y" "[I", .fieldLink RX10 53 "BuoyVote$Sea" "way" "I", .fieldLink RX10 57 "BuoyVote$Sea" "wind" "I", .fieldLink RX10 60 "BuoyVote$Sea" "hour" "I", .methodLink RX10 63 yX10_isRising, .instanceMethod yX10_isRising, .selects RX10 yX10_isRising yX10_isRising, .code yX10_isRising cX10_isRising 3 (some .boolean), .methodLink RX10 32 yX0_tideHours, .instanceMethod yX0_tideHours, .selects RX0 yX0_tideHours yX0_tideHours, .code yX0_tideHours cX0_tideHours 1 (some .int), .methodLink RX10 87 yX5_drawBy, .instanceMethod yX5_drawBy, .selects RX5 yX5_drawBy yX5_drawBy, .initialized RX5, .code yX5_drawBy cX5_drawBy 8 (some .int), .fieldLink RX5 18 "BuoyVote$LawBook" "holding" "I", .fieldLink RX5 26 "BuoyVote$LawBook" "size" "I", .fieldLink RX5 22 "BuoyVote$LawBook" "letters" "[I", .fieldLink RX5 11 "BuoyVote$LawBook" "laws" "[LBuoyVote$Law;", .methodLink RX5 29 yX4_worth, .instanceMethod yX4_worth, .selects RX4 yX4_worth yX4_worth, .initialized RX4, .code yX4_worth cX4_worth 6 (some .int), .fieldLink RX4 20 "BuoyVote$Law" "length" "I", .fieldLink RX4 11 "BuoyVote$Law" "code" "[I", .fieldLink RX4 17 "BuoyVote$Law" "stack" "[I", .methodLink RX4 24 yX4_joinedAt, .instanceMethod yX4_joinedAt, .selects RX4 yX4_joinedAt yX4_joinedAt, .code yX4_joinedAt cX4_joinedAt 7 (some .int), .constantLong RX4 28 (1000000), .constantLong RX4 31 (-1000000), .constant RX4 33 (-1000000), .constant RX4 30 (1000000)] wsX100) wsX00) wsX70) wsX50) wsX40)
theorem iw_c_X10_tallyUp_X10 : ∀ w ∈ wsX100, w ∈ wf_c_X10_tallyUp := fun w h => List.mem_cons_of_mem _ (List.mem_append_left _ (List.mem_append_left _ (List.mem_append_left _ (List.mem_append_left _ (List.mem_append_right _ h)))))
theorem iw_c_X10_tallyUp_X0 : ∀ w ∈ wsX00, w ∈ wf_c_X10_tallyUp := fun w h => List.mem_cons_of_mem _ (List.mem_append_left _ (List.mem_append_left _ (List.mem_append_left _ (List.mem_append_right _ h))))
theorem iw_c_X10_tallyUp_X7 : ∀ w ∈ wsX70, w ∈ wf_c_X10_tallyUp := fun w h => List.mem_cons_of_mem _ (List.mem_append_left _ (List.mem_append_left _ (List.mem_append_right _ h)))
theorem iw_c_X10_tallyUp_X5 : ∀ w ∈ wsX50, w ∈ wf_c_X10_tallyUp := fun w h => List.mem_cons_of_mem _ (List.mem_append_left _ (List.mem_append_right _ h))
theorem iw_c_X10_tallyUp_X4 : ∀ w ∈ wsX40, w ∈ wf_c_X10_tallyUp := fun w h => List.mem_cons_of_mem _ (List.mem_append_right _ h)
set_option maxRecDepth 20000 in
theorem gf_c_X10_tallyUp_c_X0_chain : GoodIn wf_c_X10_tallyUp (wsV RX10 99 RX0 yX0_chain wf_c_X0_chain) := goodIn_app (gi_l [6, 7, 8, 9] rfl rfl) (gi_cons (j := 10) rfl rfl (goodIn_app (gi_l [11] rfl rfl) (goodIn_sub iw_c_X10_tallyUp_X0 gw_X0)))
set_option maxRecDepth 20000 in
theorem gf_c_X10_tallyUp_c_X10_leanBy : GoodIn wf_c_X10_tallyUp (wsV RX10 102 RX10 yX10_leanBy wf_c_X10_leanBy) := goodIn_app (gi_l [12, 13, 14, 15] rfl rfl) (gi_cons (j := 16) rfl rfl (goodIn_app (goodIn_app (gi_l [2, 4, 17] rfl rfl) (goodIn_sub iw_c_X10_tallyUp_X10 gw_X10)) (goodIn_sub iw_c_X10_tallyUp_X0 gw_X0)))
set_option maxRecDepth 20000 in
theorem gf_c_X10_tallyUp_c_X10_drawOf : GoodIn wf_c_X10_tallyUp (wsV RX10 96 RX10 yX10_drawOf wf_c_X10_drawOf) := goodIn_app (gi_l [18, 19, 20, 15] rfl rfl) (gi_cons (j := 21) rfl rfl (goodIn_app (goodIn_app (goodIn_app (goodIn_app (goodIn_app (gi_l [22, 23, 24, 2, 25, 26, 27, 9, 28, 11, 29, 30, 31, 32, 33, 34, 35, 36, 37, 38, 39, 40, 41, 42, 43, 44, 45, 46, 47, 48, 49, 50, 51, 15, 52, 53, 54, 55, 56, 57, 58, 59, 60, 61, 62, 63, 64, 65, 66, 67, 68, 69, 70, 71, 72, 73, 74, 75, 76, 77, 78, 79, 80, 81, 82, 83, 84, 85, 86, 87, 88, 89, 90] rfl rfl) (goodIn_sub iw_c_X10_tallyUp_X7 gw_X7)) (goodIn_sub iw_c_X10_tallyUp_X10 gw_X10)) (goodIn_sub iw_c_X10_tallyUp_X0 gw_X0)) (goodIn_sub iw_c_X10_tallyUp_X5 gw_X5)) (goodIn_sub iw_c_X10_tallyUp_X4 gw_X4)))
set_option maxHeartbeats 4000000 in
set_option maxRecDepth 100000 in
theorem c_X10_tallyUp (l : Launch) (dC : Nat → ClassId) (dI : Nat → Nat → Nat) (sz : Nat) (h0 : Nat) (h1 : Nat) (h0_0 : Nat) (h0_1 : Nat) (h0_2 : Nat) (h0_3 : Nat) (h0_4 : Nat) (h0_5 : Nat) (h0_4k : ClassId) (h0_4c : Nat → Int32) (h0_0_0 : Nat) (h0_0_f1 : Int32) (h0_0_f2 : Int32) (h0_0_f3 : Int32) (h0_0_0k : ClassId) (h0_0_0c : Nat → Int32) (h0_2k : ClassId) (h0_2c : Nat → Int32) (h0_3k : ClassId) (h0_3c : Nat → Int32) (h1_f0 : Int32) (h1_f1 : Int32) (h1_f2 : Int32) (h1_f3 : Int32) (h1_4 : Nat) (h1_5 : Nat) (h1_6 : Nat) (h1_7 : Nat) (h1_8 : Nat) (h1_9 : Nat) (h1_10 : Nat) (h1_11 : Nat) (h1_12 : Nat) (h1_10k : ClassId) (h1_10c : Nat → Int32) (h1_11k : ClassId) (h1_11c : Nat → Int32) (h1_12k : ClassId) (h1_12c : Nat → Int32) (h1_4k : ClassId) (h1_4c : Nat → Int32) (h1_5k : ClassId) (h1_5c : Nat → Int32) (h0_1_0 : Nat) (h0_1_f1 : Int32) (h0_1_f2 : Int32) (h0_1_3 : Nat) (h0_1_3k : ClassId) (h0_1_3c : Nat → Int32) (h0_1_0k : ClassId) (h0_1_0c : Nat → Option Nat) (h0_1_0_e0 : Nat) (h0_1_0_e1 : Nat) (h0_1_0_e2 : Nat) (h0_1_0_e3 : Nat) (h0_1_0_e4 : Nat) (h0_1_0_e0_0 : Nat) (h0_1_0_e0_f1 : Int32) (h0_1_0_e0_2 : Nat) (h0_1_0_e0_0k : ClassId) (h0_1_0_e0_0c : Nat → Int32) (h0_1_0_e0_2k : ClassId) (h0_1_0_e0_2c : Nat → Int32) (h0_1_0_e1_0 : Nat) (h0_1_0_e1_f1 : Int32) (h0_1_0_e1_2 : Nat) (h0_1_0_e1_0k : ClassId) (h0_1_0_e1_0c : Nat → Int32) (h0_1_0_e1_2k : ClassId) (h0_1_0_e1_2c : Nat → Int32) (h0_1_0_e2_0 : Nat) (h0_1_0_e2_f1 : Int32) (h0_1_0_e2_2 : Nat) (h0_1_0_e2_0k : ClassId) (h0_1_0_e2_0c : Nat → Int32) (h0_1_0_e2_2k : ClassId) (h0_1_0_e2_2c : Nat → Int32) (h0_1_0_e3_0 : Nat) (h0_1_0_e3_f1 : Int32) (h0_1_0_e3_2 : Nat) (h0_1_0_e3_0k : ClassId) (h0_1_0_e3_0c : Nat → Int32) (h0_1_0_e3_2k : ClassId) (h0_1_0_e3_2c : Nat → Int32) (g_h0_0_f1 : RG h0_0_f1 0 8) (g_h0_0_f2 : RG h0_0_f2 0 3) (g_h0_0_f3 : RG h0_0_f3 0 1) (a_h0_0_0c : AI h0_0_0c (-1) 99) (a_h0_3c : AI h0_3c (-1) 2) (g_h0_1_f1 : RG h0_1_f1 0 4) (e_h0_1_0_e0 : h0_1_0c 0 = some h0_1_0_e0) (e_h0_1_0_e1 : h0_1_0c 1 = some h0_1_0_e1) (e_h0_1_0_e2 : h0_1_0c 2 = some h0_1_0_e2) (e_h0_1_0_e3 : h0_1_0c 3 = some h0_1_0_e3) (e_h0_1_0_e4 : h0_1_0c 4 = some h0_1_0_e4) (g_h0_1_0_e0_f1 : RG h0_1_0_e0_f1 0 240) (g_h0_1_0_e1_f1 : RG h0_1_0_e1_f1 0 240) (g_h0_1_0_e2_f1 : RG h0_1_0_e2_f1 0 240) (g_h0_1_0_e3_f1 : RG h0_1_0_e3_f1 0 240) : Met l yX10_tallyUp wf_c_X10_tallyUp ({ frames := 4, cells := 0, slots := 0, locals := 104 }) (va_Pc [.ref h0, .ref h1] (fun U => U.heap.size = sz ∧ va_P (dC, dI) vwCl (wd_c_X10_tallyUp h0 h0_0 h0_1 h0_2 h0_3 h0_4 h0_5 h0_4 h0_4k h0_4c h0_0 h0_0_0 h0_0_f1 h0_0_f2 h0_0_f3 h0_0_0 h0_0_0k h0_0_0c h0_2 h0_2k h0_2c h0_3 h0_3k h0_3c h1 h1_f0 h1_f1 h1_f2 h1_f3 h1_4 h1_5 h1_6 h1_7 h1_8 h1_9 h1_10 h1_11 h1_12 h1_10 h1_10k h1_10c h1_11 h1_11k h1_11c h1_12 h1_12k h1_12c h1_4 h1_4k h1_4c h1_5 h1_5k h1_5c h0_1 h0_1_0 h0_1_f1 h0_1_f2 h0_1_3 h0_1_3 h0_1_3k h0_1_3c h0_1_0 h0_1_0k h0_1_0c h0_1_0_e0 h0_1_0_e0_0 h0_1_0_e0_f1 h0_1_0_e0_2 h0_1_0_e0_0 h0_1_0_e0_0k h0_1_0_e0_0c h0_1_0_e0_2 h0_1_0_e0_2k h0_1_0_e0_2c h0_1_0_e1 h0_1_0_e1_0 h0_1_0_e1_f1 h0_1_0_e1_2 h0_1_0_e1_0 h0_1_0_e1_0k h0_1_0_e1_0c h0_1_0_e1_2 h0_1_0_e1_2k h0_1_0_e1_2c h0_1_0_e2 h0_1_0_e2_0 h0_1_0_e2_f1 h0_1_0_e2_2 h0_1_0_e2_0 h0_1_0_e2_0k h0_1_0_e2_0c h0_1_0_e2_2 h0_1_0_e2_2k h0_1_0_e2_2c h0_1_0_e3 h0_1_0_e3_0 h0_1_0_e3_f1 h0_1_0_e3_2 h0_1_0_e3_0 h0_1_0_e3_0k h0_1_0_e3_0c h0_1_0_e3_2 h0_1_0_e3_2k h0_1_0_e3_2c) U.heap ∧ va_K (dC, dI) vwCl [(h0_4k, .int), (h0_0_0k, .int), (h0_2k, .int), (h0_3k, .int), (h1_10k, .int), (h1_11k, .int), (h1_12k, .int), (h1_4k, .int), (h1_5k, .int), (h0_1_3k, .int), (h0_1_0k, .object RX4), (h0_1_0_e0_0k, .int), (h0_1_0_e0_2k, .int), (h0_1_0_e1_0k, .int), (h0_1_0_e1_2k, .int), (h0_1_0_e2_0k, .int), (h0_1_0_e2_2k, .int), (h0_1_0_e3_0k, .int), (h0_1_0_e3_2k, .int)] U ∧ va_D (fun _ => True) (wd_c_X10_tallyUp h0 h0_0 h0_1 h0_2 h0_3 h0_4 h0_5 h0_4 h0_4k h0_4c h0_0 h0_0_0 h0_0_f1 h0_0_f2 h0_0_f3 h0_0_0 h0_0_0k h0_0_0c h0_2 h0_2k h0_2c h0_3 h0_3k h0_3c h1 h1_f0 h1_f1 h1_f2 h1_f3 h1_4 h1_5 h1_6 h1_7 h1_8 h1_9 h1_10 h1_11 h1_12 h1_10 h1_10k h1_10c h1_11 h1_11k h1_11c h1_12 h1_12k h1_12c h1_4 h1_4k h1_4c h1_5 h1_5k h1_5c h0_1 h0_1_0 h0_1_f1 h0_1_f2 h0_1_3 h0_1_3 h0_1_3k h0_1_3c h0_1_0 h0_1_0k h0_1_0c h0_1_0_e0 h0_1_0_e0_0 h0_1_0_e0_f1 h0_1_0_e0_2 h0_1_0_e0_0 h0_1_0_e0_0k h0_1_0_e0_0c h0_1_0_e0_2 h0_1_0_e0_2k h0_1_0_e0_2c h0_1_0_e1 h0_1_0_e1_0 h0_1_0_e1_f1 h0_1_0_e1_2 h0_1_0_e1_0 h0_1_0_e1_0k h0_1_0_e1_0c h0_1_0_e1_2 h0_1_0_e1_2k h0_1_0_e1_2c h0_1_0_e2 h0_1_0_e2_0 h0_1_0_e2_f1 h0_1_0_e2_2 h0_1_0_e2_0 h0_1_0_e2_0k h0_1_0_e2_0c h0_1_0_e2_2 h0_1_0_e2_2k h0_1_0_e2_2c h0_1_0_e3 h0_1_0_e3_0 h0_1_0_e3_f1 h0_1_0_e3_2 h0_1_0_e3_0 h0_1_0_e3_0k h0_1_0_e3_0c h0_1_0_e3_2 h0_1_0_e3_2k h0_1_0_e3_2c))) (va_Qv (fun (u : (Nat → Int32) × (Nat → Int32) × (Nat → Int32) × (Nat → Int32) × (Nat → Int32) × (Nat → Int32) × (Nat → Int32) × (Nat → Int32)) => (AI (u.2.2.1) (-1) 2)) (fun (u : (Nat → Int32) × (Nat → Int32) × (Nat → Int32) × (Nat → Int32) × (Nat → Int32) × (Nat → Int32) × (Nat → Int32) × (Nat → Int32)) t => va_P (dC, dI) vwCl (wd_c_X10_tallyUp h0 h0_0 h0_1 h0_2 h0_3 h0_4 h0_5 h0_4 h0_4k (u.1) h0_0 h0_0_0 h0_0_f1 h0_0_f2 h0_0_f3 h0_0_0 h0_0_0k h0_0_0c h0_2 h0_2k (u.2.1) h0_3 h0_3k (u.2.2.1) h1 h1_f0 h1_f1 h1_f2 h1_f3 h1_4 h1_5 h1_6 h1_7 h1_8 h1_9 h1_10 h1_11 h1_12 h1_10 h1_10k h1_10c h1_11 h1_11k h1_11c h1_12 h1_12k h1_12c h1_4 h1_4k h1_4c h1_5 h1_5k h1_5c h0_1 h0_1_0 h0_1_f1 h0_1_f2 h0_1_3 h0_1_3 h0_1_3k (u.2.2.2.1) h0_1_0 h0_1_0k h0_1_0c h0_1_0_e0 h0_1_0_e0_0 h0_1_0_e0_f1 h0_1_0_e0_2 h0_1_0_e0_0 h0_1_0_e0_0k h0_1_0_e0_0c h0_1_0_e0_2 h0_1_0_e0_2k (u.2.2.2.2.1) h0_1_0_e1 h0_1_0_e1_0 h0_1_0_e1_f1 h0_1_0_e1_2 h0_1_0_e1_0 h0_1_0_e1_0k h0_1_0_e1_0c h0_1_0_e1_2 h0_1_0_e1_2k (u.2.2.2.2.2.1) h0_1_0_e2 h0_1_0_e2_0 h0_1_0_e2_f1 h0_1_0_e2_2 h0_1_0_e2_0 h0_1_0_e2_0k h0_1_0_e2_0c h0_1_0_e2_2 h0_1_0_e2_2k (u.2.2.2.2.2.2.1) h0_1_0_e3 h0_1_0_e3_0 h0_1_0_e3_f1 h0_1_0_e3_2 h0_1_0_e3_0 h0_1_0_e3_0k h0_1_0_e3_0c h0_1_0_e3_2 h0_1_0_e3_2k (u.2.2.2.2.2.2.2)) t.heap ∧ va_K (dC, dI) vwCl [] t ∧ va_D (va_A (wd_c_X10_tallyUp h0 h0_0 h0_1 h0_2 h0_3 h0_4 h0_5 h0_4 h0_4k h0_4c h0_0 h0_0_0 h0_0_f1 h0_0_f2 h0_0_f3 h0_0_0 h0_0_0k h0_0_0c h0_2 h0_2k h0_2c h0_3 h0_3k h0_3c h1 h1_f0 h1_f1 h1_f2 h1_f3 h1_4 h1_5 h1_6 h1_7 h1_8 h1_9 h1_10 h1_11 h1_12 h1_10 h1_10k h1_10c h1_11 h1_11k h1_11c h1_12 h1_12k h1_12c h1_4 h1_4k h1_4c h1_5 h1_5k h1_5c h0_1 h0_1_0 h0_1_f1 h0_1_f2 h0_1_3 h0_1_3 h0_1_3k h0_1_3c h0_1_0 h0_1_0k h0_1_0c h0_1_0_e0 h0_1_0_e0_0 h0_1_0_e0_f1 h0_1_0_e0_2 h0_1_0_e0_0 h0_1_0_e0_0k h0_1_0_e0_0c h0_1_0_e0_2 h0_1_0_e0_2k h0_1_0_e0_2c h0_1_0_e1 h0_1_0_e1_0 h0_1_0_e1_f1 h0_1_0_e1_2 h0_1_0_e1_0 h0_1_0_e1_0k h0_1_0_e1_0c h0_1_0_e1_2 h0_1_0_e1_2k h0_1_0_e1_2c h0_1_0_e2 h0_1_0_e2_0 h0_1_0_e2_f1 h0_1_0_e2_2 h0_1_0_e2_0 h0_1_0_e2_0k h0_1_0_e2_0c h0_1_0_e2_2 h0_1_0_e2_2k h0_1_0_e2_2c h0_1_0_e3 h0_1_0_e3_0 h0_1_0_e3_f1 h0_1_0_e3_2 h0_1_0_e3_0 h0_1_0_e3_0k h0_1_0_e3_0c h0_1_0_e3_2 h0_1_0_e3_2k h0_1_0_e3_2c) sz) (wd_c_X10_tallyUp h0 h0_0 h0_1 h0_2 h0_3 h0_4 h0_5 h0_4 h0_4k (u.1) h0_0 h0_0_0 h0_0_f1 h0_0_f2 h0_0_f3 h0_0_0 h0_0_0k h0_0_0c h0_2 h0_2k (u.2.1) h0_3 h0_3k (u.2.2.1) h1 h1_f0 h1_f1 h1_f2 h1_f3 h1_4 h1_5 h1_6 h1_7 h1_8 h1_9 h1_10 h1_11 h1_12 h1_10 h1_10k h1_10c h1_11 h1_11k h1_11c h1_12 h1_12k h1_12c h1_4 h1_4k h1_4c h1_5 h1_5k h1_5c h0_1 h0_1_0 h0_1_f1 h0_1_f2 h0_1_3 h0_1_3 h0_1_3k (u.2.2.2.1) h0_1_0 h0_1_0k h0_1_0c h0_1_0_e0 h0_1_0_e0_0 h0_1_0_e0_f1 h0_1_0_e0_2 h0_1_0_e0_0 h0_1_0_e0_0k h0_1_0_e0_0c h0_1_0_e0_2 h0_1_0_e0_2k (u.2.2.2.2.1) h0_1_0_e1 h0_1_0_e1_0 h0_1_0_e1_f1 h0_1_0_e1_2 h0_1_0_e1_0 h0_1_0_e1_0k h0_1_0_e1_0c h0_1_0_e1_2 h0_1_0_e1_2k (u.2.2.2.2.2.1) h0_1_0_e2 h0_1_0_e2_0 h0_1_0_e2_f1 h0_1_0_e2_2 h0_1_0_e2_0 h0_1_0_e2_0k h0_1_0_e2_0c h0_1_0_e2_2 h0_1_0_e2_2k (u.2.2.2.2.2.2.1) h0_1_0_e3 h0_1_0_e3_0 h0_1_0_e3_f1 h0_1_0_e3_2 h0_1_0_e3_0 h0_1_0_e3_0k h0_1_0_e3_0c h0_1_0_e3_2 h0_1_0_e3_2k (u.2.2.2.2.2.2.2))) (va_A (wd_c_X10_tallyUp h0 h0_0 h0_1 h0_2 h0_3 h0_4 h0_5 h0_4 h0_4k h0_4c h0_0 h0_0_0 h0_0_f1 h0_0_f2 h0_0_f3 h0_0_0 h0_0_0k h0_0_0c h0_2 h0_2k h0_2c h0_3 h0_3k h0_3c h1 h1_f0 h1_f1 h1_f2 h1_f3 h1_4 h1_5 h1_6 h1_7 h1_8 h1_9 h1_10 h1_11 h1_12 h1_10 h1_10k h1_10c h1_11 h1_11k h1_11c h1_12 h1_12k h1_12c h1_4 h1_4k h1_4c h1_5 h1_5k h1_5c h0_1 h0_1_0 h0_1_f1 h0_1_f2 h0_1_3 h0_1_3 h0_1_3k h0_1_3c h0_1_0 h0_1_0k h0_1_0c h0_1_0_e0 h0_1_0_e0_0 h0_1_0_e0_f1 h0_1_0_e0_2 h0_1_0_e0_0 h0_1_0_e0_0k h0_1_0_e0_0c h0_1_0_e0_2 h0_1_0_e0_2k h0_1_0_e0_2c h0_1_0_e1 h0_1_0_e1_0 h0_1_0_e1_f1 h0_1_0_e1_2 h0_1_0_e1_0 h0_1_0_e1_0k h0_1_0_e1_0c h0_1_0_e1_2 h0_1_0_e1_2k h0_1_0_e1_2c h0_1_0_e2 h0_1_0_e2_0 h0_1_0_e2_f1 h0_1_0_e2_2 h0_1_0_e2_0 h0_1_0_e2_0k h0_1_0_e2_0c h0_1_0_e2_2 h0_1_0_e2_2k h0_1_0_e2_2c h0_1_0_e3 h0_1_0_e3_0 h0_1_0_e3_f1 h0_1_0_e3_2 h0_1_0_e3_0 h0_1_0_e3_0k h0_1_0_e3_0c h0_1_0_e3_2 h0_1_0_e3_2k h0_1_0_e3_2c) sz)) 0 0 (va_A (wd_c_X10_tallyUp h0 h0_0 h0_1 h0_2 h0_3 h0_4 h0_5 h0_4 h0_4k h0_4c h0_0 h0_0_0 h0_0_f1 h0_0_f2 h0_0_f3 h0_0_0 h0_0_0k h0_0_0c h0_2 h0_2k h0_2c h0_3 h0_3k h0_3c h1 h1_f0 h1_f1 h1_f2 h1_f3 h1_4 h1_5 h1_6 h1_7 h1_8 h1_9 h1_10 h1_11 h1_12 h1_10 h1_10k h1_10c h1_11 h1_11k h1_11c h1_12 h1_12k h1_12c h1_4 h1_4k h1_4c h1_5 h1_5k h1_5c h0_1 h0_1_0 h0_1_f1 h0_1_f2 h0_1_3 h0_1_3 h0_1_3k h0_1_3c h0_1_0 h0_1_0k h0_1_0c h0_1_0_e0 h0_1_0_e0_0 h0_1_0_e0_f1 h0_1_0_e0_2 h0_1_0_e0_0 h0_1_0_e0_0k h0_1_0_e0_0c h0_1_0_e0_2 h0_1_0_e0_2k h0_1_0_e0_2c h0_1_0_e1 h0_1_0_e1_0 h0_1_0_e1_f1 h0_1_0_e1_2 h0_1_0_e1_0 h0_1_0_e1_0k h0_1_0_e1_0c h0_1_0_e1_2 h0_1_0_e1_2k h0_1_0_e1_2c h0_1_0_e2 h0_1_0_e2_0 h0_1_0_e2_f1 h0_1_0_e2_2 h0_1_0_e2_0 h0_1_0_e2_0k h0_1_0_e2_0c h0_1_0_e2_2 h0_1_0_e2_2k h0_1_0_e2_2c h0_1_0_e3 h0_1_0_e3_0 h0_1_0_e3_f1 h0_1_0_e3_2 h0_1_0_e3_0 h0_1_0_e3_0k h0_1_0_e3_0c h0_1_0_e3_2 h0_1_0_e3_2k h0_1_0_e3_2c) sz) := by
  refine Met.ofW (cc := cX10_tallyUp) (maxL := 4) (ret := none) (by decide +kernel) rfl ?_
  intro p e s m args below meth c s₁ B hml hv
  obtain ⟨rfl, hsz, hP, hK, hD0⟩ := hv
  have hx := B.exec
  have hb := B.bytes
  have hr := B.returns
  have hts := atoms_spec (ws := wf_c_X10_tallyUp) B.pre
  have hown : s.vm.findClass RX10 = some m.cls := findClass_of_methodNamed B.named
  have hlocks := B.notSynchronized
  subst hsz
  have hD := hD0.self (sz := s.heap.size)
  generalize hAe : va_A (wd_c_X10_tallyUp h0 h0_0 h0_1 h0_2 h0_3 h0_4 h0_5 h0_4 h0_4k h0_4c h0_0 h0_0_0 h0_0_f1 h0_0_f2 h0_0_f3 h0_0_0 h0_0_0k h0_0_0c h0_2 h0_2k h0_2c h0_3 h0_3k h0_3c h1 h1_f0 h1_f1 h1_f2 h1_f3 h1_4 h1_5 h1_6 h1_7 h1_8 h1_9 h1_10 h1_11 h1_12 h1_10 h1_10k h1_10c h1_11 h1_11k h1_11c h1_12 h1_12k h1_12c h1_4 h1_4k h1_4c h1_5 h1_5k h1_5c h0_1 h0_1_0 h0_1_f1 h0_1_f2 h0_1_3 h0_1_3 h0_1_3k h0_1_3c h0_1_0 h0_1_0k h0_1_0c h0_1_0_e0 h0_1_0_e0_0 h0_1_0_e0_f1 h0_1_0_e0_2 h0_1_0_e0_0 h0_1_0_e0_0k h0_1_0_e0_0c h0_1_0_e0_2 h0_1_0_e0_2k h0_1_0_e0_2c h0_1_0_e1 h0_1_0_e1_0 h0_1_0_e1_f1 h0_1_0_e1_2 h0_1_0_e1_0 h0_1_0_e1_0k h0_1_0_e1_0c h0_1_0_e1_2 h0_1_0_e1_2k h0_1_0_e1_2c h0_1_0_e2 h0_1_0_e2_0 h0_1_0_e2_f1 h0_1_0_e2_2 h0_1_0_e2_0 h0_1_0_e2_0k h0_1_0_e2_0c h0_1_0_e2_2 h0_1_0_e2_2k h0_1_0_e2_2c h0_1_0_e3 h0_1_0_e3_0 h0_1_0_e3_f1 h0_1_0_e3_2 h0_1_0_e3_0 h0_1_0_e3_0k h0_1_0_e3_0c h0_1_0_e3_2 h0_1_0_e3_2k h0_1_0_e3_2c) s.heap.size = A at hD ⊢
  have hA : ∀ q : Nat, s.heap.size ≤ q → A q := fun q h => by rw [← hAe]; exact Or.inr h
  have hP : va_P (dC, dI) vwCl (wd_c_X10_tallyUp h0 h0_0 h0_1 h0_2 h0_3 h0_4 h0_5 h0_4 h0_4k h0_4c h0_0 h0_0_0 h0_0_f1 h0_0_f2 h0_0_f3 h0_0_0 h0_0_0k h0_0_0c h0_2 h0_2k h0_2c h0_3 h0_3k h0_3c h1 h1_f0 h1_f1 h1_f2 h1_f3 h1_4 h1_5 h1_6 h1_7 h1_8 h1_9 h1_10 h1_11 h1_12 h1_10 h1_10k h1_10c h1_11 h1_11k h1_11c h1_12 h1_12k h1_12c h1_4 h1_4k h1_4c h1_5 h1_5k h1_5c h0_1 h0_1_0 h0_1_f1 h0_1_f2 h0_1_3 h0_1_3 h0_1_3k h0_1_3c h0_1_0 h0_1_0k h0_1_0c h0_1_0_e0 h0_1_0_e0_0 h0_1_0_e0_f1 h0_1_0_e0_2 h0_1_0_e0_0 h0_1_0_e0_0k h0_1_0_e0_0c h0_1_0_e0_2 h0_1_0_e0_2k h0_1_0_e0_2c h0_1_0_e1 h0_1_0_e1_0 h0_1_0_e1_f1 h0_1_0_e1_2 h0_1_0_e1_0 h0_1_0_e1_0k h0_1_0_e1_0c h0_1_0_e1_2 h0_1_0_e1_2k h0_1_0_e1_2c h0_1_0_e2 h0_1_0_e2_0 h0_1_0_e2_f1 h0_1_0_e2_2 h0_1_0_e2_0 h0_1_0_e2_0k h0_1_0_e2_0c h0_1_0_e2_2 h0_1_0_e2_2k h0_1_0_e2_2c h0_1_0_e3 h0_1_0_e3_0 h0_1_0_e3_f1 h0_1_0_e3_2 h0_1_0_e3_0 h0_1_0_e3_0k h0_1_0_e3_0c h0_1_0_e3_2 h0_1_0_e3_2k h0_1_0_e3_2c) s.heap := hP
  have hl := lv_entry ([.ref h0, .ref h1]) (n := 4) (Nat.le_of_ble_eq_true rfl)
  rw [lg_entry_eq]
  generalize (lg_sl ([.ref h0, .ref h1]) ++ List.replicate (4 - (lg_sl ([.ref h0, .ref h1])).length) Slot.unset).toArray = ls at hl ⊢
  have hl : lv_has ls 4 [(0, .ref h0), (1, .ref h1)] := hl
  obtain ⟨H, hHe⟩ : ∃ H : Heap, s.heap = H := ⟨_, rfl⟩
  have hS : va_S A s.heap H [] := by rw [hHe]; exact va_S.rf
  have hP : va_P (dC, dI) vwCl (wd_c_X10_tallyUp h0 h0_0 h0_1 h0_2 h0_3 h0_4 h0_5 h0_4 h0_4k h0_4c h0_0 h0_0_0 h0_0_f1 h0_0_f2 h0_0_f3 h0_0_0 h0_0_0k h0_0_0c h0_2 h0_2k h0_2c h0_3 h0_3k h0_3c h1 h1_f0 h1_f1 h1_f2 h1_f3 h1_4 h1_5 h1_6 h1_7 h1_8 h1_9 h1_10 h1_11 h1_12 h1_10 h1_10k h1_10c h1_11 h1_11k h1_11c h1_12 h1_12k h1_12c h1_4 h1_4k h1_4c h1_5 h1_5k h1_5c h0_1 h0_1_0 h0_1_f1 h0_1_f2 h0_1_3 h0_1_3 h0_1_3k h0_1_3c h0_1_0 h0_1_0k h0_1_0c h0_1_0_e0 h0_1_0_e0_0 h0_1_0_e0_f1 h0_1_0_e0_2 h0_1_0_e0_0 h0_1_0_e0_0k h0_1_0_e0_0c h0_1_0_e0_2 h0_1_0_e0_2k h0_1_0_e0_2c h0_1_0_e1 h0_1_0_e1_0 h0_1_0_e1_f1 h0_1_0_e1_2 h0_1_0_e1_0 h0_1_0_e1_0k h0_1_0_e1_0c h0_1_0_e1_2 h0_1_0_e1_2k h0_1_0_e1_2c h0_1_0_e2 h0_1_0_e2_0 h0_1_0_e2_f1 h0_1_0_e2_2 h0_1_0_e2_0 h0_1_0_e2_0k h0_1_0_e2_0c h0_1_0_e2_2 h0_1_0_e2_2k h0_1_0_e2_2c h0_1_0_e3 h0_1_0_e3_0 h0_1_0_e3_f1 h0_1_0_e3_2 h0_1_0_e3_0 h0_1_0_e3_0k h0_1_0_e3_0c h0_1_0_e3_2 h0_1_0_e3_2k h0_1_0_e3_2c) H := by rw [← hHe]; exact hP
  rw [hHe]
  refine wj (fun G hG hU => ?_)
  as_aux_lemma =>
  have J22 : ∀ (n22 : Nat) (j22_l2 : Int32) (j22_h0_4c : Nat → Int32) (j22_h0_2c : Nat → Int32) (j22_h0_3c : Nat → Int32) (j22_h0_1_3c : Nat → Int32) (j22_h0_1_0_e0_2c : Nat → Int32) (j22_h0_1_0_e1_2c : Nat → Int32) (j22_h0_1_0_e2_2c : Nat → Int32) (j22_h0_1_0_e3_2c : Nat → Int32) (hM22 : MU j22_l2 < n22) (g_h0_0_f1 : RG h0_0_f1 0 8) (g_h0_0_f2 : RG h0_0_f2 0 3) (g_h0_0_f3 : RG h0_0_f3 0 1) (g_h0_1_0_e0_f1 : RG h0_1_0_e0_f1 0 240) (g_h0_1_0_e1_f1 : RG h0_1_0_e1_f1 0 240) (g_h0_1_0_e2_f1 : RG h0_1_0_e2_f1 0 240) (g_h0_1_0_e3_f1 : RG h0_1_0_e3_f1 0 240) (g_h0_1_f1 : RG h0_1_f1 0 4) (g_j22_l2 : RG j22_l2 0 8) (a_j22_h0_3c : AI j22_h0_3c (-1) 2) (H : Heap) (locs : List Loc) (ls : Array Slot) (hP : va_P (dC, dI) vwCl (wd_c_X10_tallyUp h0 h0_0 h0_1 h0_2 h0_3 h0_4 h0_5 h0_4 h0_4k j22_h0_4c h0_0 h0_0_0 h0_0_f1 h0_0_f2 h0_0_f3 h0_0_0 h0_0_0k h0_0_0c h0_2 h0_2k j22_h0_2c h0_3 h0_3k j22_h0_3c h1 h1_f0 h1_f1 h1_f2 h1_f3 h1_4 h1_5 h1_6 h1_7 h1_8 h1_9 h1_10 h1_11 h1_12 h1_10 h1_10k h1_10c h1_11 h1_11k h1_11c h1_12 h1_12k h1_12c h1_4 h1_4k h1_4c h1_5 h1_5k h1_5c h0_1 h0_1_0 h0_1_f1 h0_1_f2 h0_1_3 h0_1_3 h0_1_3k j22_h0_1_3c h0_1_0 h0_1_0k h0_1_0c h0_1_0_e0 h0_1_0_e0_0 h0_1_0_e0_f1 h0_1_0_e0_2 h0_1_0_e0_0 h0_1_0_e0_0k h0_1_0_e0_0c h0_1_0_e0_2 h0_1_0_e0_2k j22_h0_1_0_e0_2c h0_1_0_e1 h0_1_0_e1_0 h0_1_0_e1_f1 h0_1_0_e1_2 h0_1_0_e1_0 h0_1_0_e1_0k h0_1_0_e1_0c h0_1_0_e1_2 h0_1_0_e1_2k j22_h0_1_0_e1_2c h0_1_0_e2 h0_1_0_e2_0 h0_1_0_e2_f1 h0_1_0_e2_2 h0_1_0_e2_0 h0_1_0_e2_0k h0_1_0_e2_0c h0_1_0_e2_2 h0_1_0_e2_2k j22_h0_1_0_e2_2c h0_1_0_e3 h0_1_0_e3_0 h0_1_0_e3_f1 h0_1_0_e3_2 h0_1_0_e3_0 h0_1_0_e3_0k h0_1_0_e3_0c h0_1_0_e3_2 h0_1_0_e3_2k j22_h0_1_0_e3_2c) H) (hD : va_D A (wd_c_X10_tallyUp h0 h0_0 h0_1 h0_2 h0_3 h0_4 h0_5 h0_4 h0_4k j22_h0_4c h0_0 h0_0_0 h0_0_f1 h0_0_f2 h0_0_f3 h0_0_0 h0_0_0k h0_0_0c h0_2 h0_2k j22_h0_2c h0_3 h0_3k j22_h0_3c h1 h1_f0 h1_f1 h1_f2 h1_f3 h1_4 h1_5 h1_6 h1_7 h1_8 h1_9 h1_10 h1_11 h1_12 h1_10 h1_10k h1_10c h1_11 h1_11k h1_11c h1_12 h1_12k h1_12c h1_4 h1_4k h1_4c h1_5 h1_5k h1_5c h0_1 h0_1_0 h0_1_f1 h0_1_f2 h0_1_3 h0_1_3 h0_1_3k j22_h0_1_3c h0_1_0 h0_1_0k h0_1_0c h0_1_0_e0 h0_1_0_e0_0 h0_1_0_e0_f1 h0_1_0_e0_2 h0_1_0_e0_0 h0_1_0_e0_0k h0_1_0_e0_0c h0_1_0_e0_2 h0_1_0_e0_2k j22_h0_1_0_e0_2c h0_1_0_e1 h0_1_0_e1_0 h0_1_0_e1_f1 h0_1_0_e1_2 h0_1_0_e1_0 h0_1_0_e1_0k h0_1_0_e1_0c h0_1_0_e1_2 h0_1_0_e1_2k j22_h0_1_0_e1_2c h0_1_0_e2 h0_1_0_e2_0 h0_1_0_e2_f1 h0_1_0_e2_2 h0_1_0_e2_0 h0_1_0_e2_0k h0_1_0_e2_0c h0_1_0_e2_2 h0_1_0_e2_2k j22_h0_1_0_e2_2c h0_1_0_e3 h0_1_0_e3_0 h0_1_0_e3_f1 h0_1_0_e3_2 h0_1_0_e3_0 h0_1_0_e3_0k h0_1_0_e3_0c h0_1_0_e3_2 h0_1_0_e3_2k j22_h0_1_0_e3_2c)) (hS : va_S A s.heap H locs) (hl : lv_has ls 4 [(2, .int j22_l2), (0, .ref h0), (1, .ref h1)]), G H locs (F0 m 22 ls []) := by
    as_aux_lemma =>
    intro n22
    induction n22 with
    | zero => intros; exact absurd (by assumption) (Nat.not_lt_zero _)
    | succ n22 ih22 =>
      intro j22_l2 j22_h0_4c j22_h0_2c j22_h0_3c j22_h0_1_3c j22_h0_1_0_e0_2c j22_h0_1_0_e1_2c j22_h0_1_0_e2_2c j22_h0_1_0_e3_2c hM22 g_h0_0_f1 g_h0_0_f2 g_h0_0_f3 g_h0_1_0_e0_f1 g_h0_1_0_e1_f1 g_h0_1_0_e2_f1 g_h0_1_0_e3_f1 g_h0_1_f1 g_j22_l2 a_j22_h0_3c H locs ls hP hD hS hl
      have J108 : ∀ (j108_h0_4c : Nat → Int32) (j108_h0_2c : Nat → Int32) (j108_h0_3c : Nat → Int32) (j108_h0_1_3c : Nat → Int32) (j108_h0_1_0_e0_2c : Nat → Int32) (j108_h0_1_0_e1_2c : Nat → Int32) (j108_h0_1_0_e2_2c : Nat → Int32) (j108_h0_1_0_e3_2c : Nat → Int32) (g_h0_0_f1 : RG h0_0_f1 1 8) (g_h0_0_f2 : RG h0_0_f2 0 3) (g_h0_0_f3 : RG h0_0_f3 0 1) (g_h0_1_0_e0_f1 : RG h0_1_0_e0_f1 0 240) (g_h0_1_0_e1_f1 : RG h0_1_0_e1_f1 0 240) (g_h0_1_0_e2_f1 : RG h0_1_0_e2_f1 0 240) (g_h0_1_0_e3_f1 : RG h0_1_0_e3_f1 0 240) (g_h0_1_f1 : RG h0_1_f1 0 4) (g_j22_l2 : RG j22_l2 0 7) (a_j108_h0_3c : AI j108_h0_3c (-1) 2) (H : Heap) (locs : List Loc) (ls : Array Slot) (hP : va_P (dC, dI) vwCl (wd_c_X10_tallyUp h0 h0_0 h0_1 h0_2 h0_3 h0_4 h0_5 h0_4 h0_4k j108_h0_4c h0_0 h0_0_0 h0_0_f1 h0_0_f2 h0_0_f3 h0_0_0 h0_0_0k h0_0_0c h0_2 h0_2k j108_h0_2c h0_3 h0_3k j108_h0_3c h1 h1_f0 h1_f1 h1_f2 h1_f3 h1_4 h1_5 h1_6 h1_7 h1_8 h1_9 h1_10 h1_11 h1_12 h1_10 h1_10k h1_10c h1_11 h1_11k h1_11c h1_12 h1_12k h1_12c h1_4 h1_4k h1_4c h1_5 h1_5k h1_5c h0_1 h0_1_0 h0_1_f1 h0_1_f2 h0_1_3 h0_1_3 h0_1_3k j108_h0_1_3c h0_1_0 h0_1_0k h0_1_0c h0_1_0_e0 h0_1_0_e0_0 h0_1_0_e0_f1 h0_1_0_e0_2 h0_1_0_e0_0 h0_1_0_e0_0k h0_1_0_e0_0c h0_1_0_e0_2 h0_1_0_e0_2k j108_h0_1_0_e0_2c h0_1_0_e1 h0_1_0_e1_0 h0_1_0_e1_f1 h0_1_0_e1_2 h0_1_0_e1_0 h0_1_0_e1_0k h0_1_0_e1_0c h0_1_0_e1_2 h0_1_0_e1_2k j108_h0_1_0_e1_2c h0_1_0_e2 h0_1_0_e2_0 h0_1_0_e2_f1 h0_1_0_e2_2 h0_1_0_e2_0 h0_1_0_e2_0k h0_1_0_e2_0c h0_1_0_e2_2 h0_1_0_e2_2k j108_h0_1_0_e2_2c h0_1_0_e3 h0_1_0_e3_0 h0_1_0_e3_f1 h0_1_0_e3_2 h0_1_0_e3_0 h0_1_0_e3_0k h0_1_0_e3_0c h0_1_0_e3_2 h0_1_0_e3_2k j108_h0_1_0_e3_2c) H) (hD : va_D A (wd_c_X10_tallyUp h0 h0_0 h0_1 h0_2 h0_3 h0_4 h0_5 h0_4 h0_4k j108_h0_4c h0_0 h0_0_0 h0_0_f1 h0_0_f2 h0_0_f3 h0_0_0 h0_0_0k h0_0_0c h0_2 h0_2k j108_h0_2c h0_3 h0_3k j108_h0_3c h1 h1_f0 h1_f1 h1_f2 h1_f3 h1_4 h1_5 h1_6 h1_7 h1_8 h1_9 h1_10 h1_11 h1_12 h1_10 h1_10k h1_10c h1_11 h1_11k h1_11c h1_12 h1_12k h1_12c h1_4 h1_4k h1_4c h1_5 h1_5k h1_5c h0_1 h0_1_0 h0_1_f1 h0_1_f2 h0_1_3 h0_1_3 h0_1_3k j108_h0_1_3c h0_1_0 h0_1_0k h0_1_0c h0_1_0_e0 h0_1_0_e0_0 h0_1_0_e0_f1 h0_1_0_e0_2 h0_1_0_e0_0 h0_1_0_e0_0k h0_1_0_e0_0c h0_1_0_e0_2 h0_1_0_e0_2k j108_h0_1_0_e0_2c h0_1_0_e1 h0_1_0_e1_0 h0_1_0_e1_f1 h0_1_0_e1_2 h0_1_0_e1_0 h0_1_0_e1_0k h0_1_0_e1_0c h0_1_0_e1_2 h0_1_0_e1_2k j108_h0_1_0_e1_2c h0_1_0_e2 h0_1_0_e2_0 h0_1_0_e2_f1 h0_1_0_e2_2 h0_1_0_e2_0 h0_1_0_e2_0k h0_1_0_e2_0c h0_1_0_e2_2 h0_1_0_e2_2k j108_h0_1_0_e2_2c h0_1_0_e3 h0_1_0_e3_0 h0_1_0_e3_f1 h0_1_0_e3_2 h0_1_0_e3_0 h0_1_0_e3_0k h0_1_0_e3_0c h0_1_0_e3_2 h0_1_0_e3_2k j108_h0_1_0_e3_2c)) (hS : va_S A s.heap H locs) (hl : lv_has ls 4 [(2, .int j22_l2), (0, .ref h0), (1, .ref h1)]), G H locs (F0 m 108 ls []) := by
        as_aux_lemma =>
        intro j108_h0_4c j108_h0_2c j108_h0_3c j108_h0_1_3c j108_h0_1_0_e0_2c j108_h0_1_0_e1_2c j108_h0_1_0_e2_2c j108_h0_1_0_e3_2c g_h0_0_f1 g_h0_0_f2 g_h0_0_f3 g_h0_1_0_e0_f1 g_h0_1_0_e1_f1 g_h0_1_0_e2_f1 g_h0_1_0_e3_f1 g_h0_1_f1 g_j22_l2 a_j108_h0_3c H locs ls hP hD hS hl
        refine hG _ _ _ ?_
        obtain ⟨x_1, ex_1⟩ : ∃ y : Int32, y = j22_l2 + 1 := ⟨_, rfl⟩
        have g_2 : RG x_1 1 8 := RG_add ex_1 g_j22_l2 (RG_k 1 1 rfl) (by decide +kernel)
        refine lv_iinc (v := x_1) (lv' := [(2, .int x_1), (0, .ref h0), (1, .ref h1)]) hx hb dX10_tallyUp_108 hl (k := 0) rfl (by rw [ex_1]; rfl) (Nat.le_of_ble_eq_true rfl) rfl (fun ls hl => ?_)
        refine lv_goto (tgt := 22) hx hb dX10_tallyUp_111 rfl ?_
        exact hU _ _ _ (ih22 x_1 j108_h0_4c j108_h0_2c j108_h0_3c j108_h0_1_3c j108_h0_1_0_e0_2c j108_h0_1_0_e1_2c j108_h0_1_0_e2_2c j108_h0_1_0_e3_2c (mu_s (MU_add ex_1 g_j22_l2 (q := 1) rfl (by decide +kernel)) hM22) (RG_w g_h0_0_f1 (by decide +kernel)) g_h0_0_f2 g_h0_0_f3 g_h0_1_0_e0_f1 g_h0_1_0_e1_f1 g_h0_1_0_e2_f1 g_h0_1_0_e3_f1 g_h0_1_f1 (RG_w g_2 (by decide +kernel)) a_j108_h0_3c _ _ _ hP hD hS (lv_sub hl [0, 1, 2] rfl))
      have J35 : ∀ (n35 : Nat) (j35_l3 : Int32) (j35_h0_2c : Nat → Int32) (j35_h0_1_3c : Nat → Int32) (j35_h0_1_0_e0_2c : Nat → Int32) (j35_h0_1_0_e1_2c : Nat → Int32) (j35_h0_1_0_e2_2c : Nat → Int32) (j35_h0_1_0_e3_2c : Nat → Int32) (hM35 : MU j35_l3 < n35) (g_h0_0_f1 : RG h0_0_f1 1 8) (g_h0_0_f2 : RG h0_0_f2 0 3) (g_h0_0_f3 : RG h0_0_f3 0 1) (g_h0_1_0_e0_f1 : RG h0_1_0_e0_f1 0 240) (g_h0_1_0_e1_f1 : RG h0_1_0_e1_f1 0 240) (g_h0_1_0_e2_f1 : RG h0_1_0_e2_f1 0 240) (g_h0_1_0_e3_f1 : RG h0_1_0_e3_f1 0 240) (g_h0_1_f1 : RG h0_1_f1 0 4) (g_j22_l2 : RG j22_l2 0 7) (g_j35_l3 : RG j35_l3 0 3) (H : Heap) (locs : List Loc) (ls : Array Slot) (hP : va_P (dC, dI) vwCl (wd_c_X10_tallyUp h0 h0_0 h0_1 h0_2 h0_3 h0_4 h0_5 h0_4 h0_4k j22_h0_4c h0_0 h0_0_0 h0_0_f1 h0_0_f2 h0_0_f3 h0_0_0 h0_0_0k h0_0_0c h0_2 h0_2k j35_h0_2c h0_3 h0_3k j22_h0_3c h1 h1_f0 h1_f1 h1_f2 h1_f3 h1_4 h1_5 h1_6 h1_7 h1_8 h1_9 h1_10 h1_11 h1_12 h1_10 h1_10k h1_10c h1_11 h1_11k h1_11c h1_12 h1_12k h1_12c h1_4 h1_4k h1_4c h1_5 h1_5k h1_5c h0_1 h0_1_0 h0_1_f1 h0_1_f2 h0_1_3 h0_1_3 h0_1_3k j35_h0_1_3c h0_1_0 h0_1_0k h0_1_0c h0_1_0_e0 h0_1_0_e0_0 h0_1_0_e0_f1 h0_1_0_e0_2 h0_1_0_e0_0 h0_1_0_e0_0k h0_1_0_e0_0c h0_1_0_e0_2 h0_1_0_e0_2k j35_h0_1_0_e0_2c h0_1_0_e1 h0_1_0_e1_0 h0_1_0_e1_f1 h0_1_0_e1_2 h0_1_0_e1_0 h0_1_0_e1_0k h0_1_0_e1_0c h0_1_0_e1_2 h0_1_0_e1_2k j35_h0_1_0_e1_2c h0_1_0_e2 h0_1_0_e2_0 h0_1_0_e2_f1 h0_1_0_e2_2 h0_1_0_e2_0 h0_1_0_e2_0k h0_1_0_e2_0c h0_1_0_e2_2 h0_1_0_e2_2k j35_h0_1_0_e2_2c h0_1_0_e3 h0_1_0_e3_0 h0_1_0_e3_f1 h0_1_0_e3_2 h0_1_0_e3_0 h0_1_0_e3_0k h0_1_0_e3_0c h0_1_0_e3_2 h0_1_0_e3_2k j35_h0_1_0_e3_2c) H) (hD : va_D A (wd_c_X10_tallyUp h0 h0_0 h0_1 h0_2 h0_3 h0_4 h0_5 h0_4 h0_4k j22_h0_4c h0_0 h0_0_0 h0_0_f1 h0_0_f2 h0_0_f3 h0_0_0 h0_0_0k h0_0_0c h0_2 h0_2k j35_h0_2c h0_3 h0_3k j22_h0_3c h1 h1_f0 h1_f1 h1_f2 h1_f3 h1_4 h1_5 h1_6 h1_7 h1_8 h1_9 h1_10 h1_11 h1_12 h1_10 h1_10k h1_10c h1_11 h1_11k h1_11c h1_12 h1_12k h1_12c h1_4 h1_4k h1_4c h1_5 h1_5k h1_5c h0_1 h0_1_0 h0_1_f1 h0_1_f2 h0_1_3 h0_1_3 h0_1_3k j35_h0_1_3c h0_1_0 h0_1_0k h0_1_0c h0_1_0_e0 h0_1_0_e0_0 h0_1_0_e0_f1 h0_1_0_e0_2 h0_1_0_e0_0 h0_1_0_e0_0k h0_1_0_e0_0c h0_1_0_e0_2 h0_1_0_e0_2k j35_h0_1_0_e0_2c h0_1_0_e1 h0_1_0_e1_0 h0_1_0_e1_f1 h0_1_0_e1_2 h0_1_0_e1_0 h0_1_0_e1_0k h0_1_0_e1_0c h0_1_0_e1_2 h0_1_0_e1_2k j35_h0_1_0_e1_2c h0_1_0_e2 h0_1_0_e2_0 h0_1_0_e2_f1 h0_1_0_e2_2 h0_1_0_e2_0 h0_1_0_e2_0k h0_1_0_e2_0c h0_1_0_e2_2 h0_1_0_e2_2k j35_h0_1_0_e2_2c h0_1_0_e3 h0_1_0_e3_0 h0_1_0_e3_f1 h0_1_0_e3_2 h0_1_0_e3_0 h0_1_0_e3_0k h0_1_0_e3_0c h0_1_0_e3_2 h0_1_0_e3_2k j35_h0_1_0_e3_2c)) (hS : va_S A s.heap H locs) (hl : lv_has ls 4 [(3, .int j35_l3), (2, .int j22_l2), (0, .ref h0), (1, .ref h1)]), G H locs (F0 m 35 ls []) := by
        as_aux_lemma =>
        intro n35
        induction n35 with
        | zero => intros; exact absurd (by assumption) (Nat.not_lt_zero _)
        | succ n35 ih35 =>
          intro j35_l3 j35_h0_2c j35_h0_1_3c j35_h0_1_0_e0_2c j35_h0_1_0_e1_2c j35_h0_1_0_e2_2c j35_h0_1_0_e3_2c hM35 g_h0_0_f1 g_h0_0_f2 g_h0_0_f3 g_h0_1_0_e0_f1 g_h0_1_0_e1_f1 g_h0_1_0_e2_f1 g_h0_1_0_e3_f1 g_h0_1_f1 g_j22_l2 g_j35_l3 H locs ls hP hD hS hl
          refine hG _ _ _ ?_
          refine lv_iload_n hx hb dX10_tallyUp_35 rfl (lv_at hl 0 rfl) ?_
          refine lv_aload_n hx hb dX10_tallyUp_36 rfl (lv_at hl 2 rfl) ?_
          refine va_get (D := (dC, dI)) (ci := 10) (v := .ref h0_0) (C := RX10) (T := TX10) (N := 6) hx hb hts iw_c_X10_tallyUp_X10 hown hK hP 0 rfl rfl 0 (by decide +kernel) (hts (.fieldLink RX10 9 "BuoyVote$Waters" "told" "LBuoyVote$Borough;") (List.mem_of_getElem? (i := 2) rfl)) (fun _ h9 => h9) rfl dX10_tallyUp_37 ?_
          refine va_get (D := (dC, dI)) (ci := 0) (v := .int h0_0_f2) (C := RX0) (T := TX0) (N := 4) hx hb hts iw_c_X10_tallyUp_X0 hown hK hP 2 rfl rfl 2 (by decide +kernel) (hts (.fieldLink RX10 93 "BuoyVote$Borough" "boats" "I") (List.mem_of_getElem? (i := 4) rfl)) (fun _ h9 => h9) rfl dX10_tallyUp_40 ?_
          refine lv_icmp_ge (tgt := 65) hx hb dX10_tallyUp_43 rfl (fun c_3 => ?_) (fun c_3 => ?_)
          · refine lv_aload_n hx hb dX10_tallyUp_65 rfl (lv_at hl 2 rfl) ?_
            refine va_get (D := (dC, dI)) (ci := 10) (v := .ref h0_3) (C := RX10) (T := TX10) (N := 6) hx hb hts iw_c_X10_tallyUp_X10 hown hK hP 0 rfl rfl 3 (by decide +kernel) (hts (.fieldLink RX10 23 "BuoyVote$Waters" "leans" "[I") (List.mem_of_getElem? (i := 5) rfl)) (fun _ h9 => h9) rfl dX10_tallyUp_66 ?_
            refine lv_iload_n hx hb dX10_tallyUp_69 rfl (lv_at hl 1 rfl) ?_
            as_aux_lemma =>
            refine lv_aload_n hx hb dX10_tallyUp_70 rfl (lv_at hl 2 rfl) ?_
            refine lv_aload_n hx hb dX10_tallyUp_71 rfl (lv_at hl 2 rfl) ?_
            refine va_get (D := (dC, dI)) (ci := 10) (v := .ref h0_0) (C := RX10) (T := TX10) (N := 6) hx hb hts iw_c_X10_tallyUp_X10 hown hK hP 0 rfl rfl 0 (by decide +kernel) (hts (.fieldLink RX10 9 "BuoyVote$Waters" "told" "LBuoyVote$Borough;") (List.mem_of_getElem? (i := 2) rfl)) (fun _ h9 => h9) rfl dX10_tallyUp_72 ?_
            refine lv_iload_n hx hb dX10_tallyUp_75 rfl (lv_at hl 1 rfl) ?_
            obtain ⟨hPc, hDc, hFc, hqc⟩ := cl_cut (wc := (wd_c_X0_chain h0_0 h0_0_0 h0_0_f1 h0_0_f2 h0_0_f3 h0_0_0 h0_0_0k h0_0_0c)) hP hD hS hA [2, 3] (by decide +kernel) rfl
            have hKc := hK.sub (tys' := [(h0_0_0k, .int)]) [1] rfl
            have hrv := va_recv hKc hPc (ci := 0) (q0 := 0) rfl rfl
            refine va_calli (va_runV (As := [.int j22_l2]) (rest := [.ref h0, .int j22_l2, .ref h0_3]) ⟨hx, hb, hml, hown, hts⟩ (c_X0_chain l dC dI H.size h0_0 j22_l2 h0_0_0 h0_0_f1 h0_0_f2 h0_0_f3 h0_0_0k h0_0_0c g_j22_l2 (RG_w g_h0_0_f1 (by decide +kernel)) g_h0_0_f2 g_h0_0_f3 a_h0_0_0c) (cwV 1 hts gf_c_X10_tallyUp_c_X0_chain rfl rfl rfl mdV_X0_chain ⟨Nat.le_of_ble_eq_true rfl, Nat.le_of_ble_eq_true rfl⟩) ⟨fun a U g mk q => by obtain ⟨q0, q1, qP, qK, qD⟩ := q; exact ⟨q0, q1, qP, va_K.moved (u := U) (U := U.calling g mk a) (Vm.Alike.refl U.vm) qK, qD⟩, hrv, fun U hU hW => ⟨rfl, by rw [hU], by rw [hU]; exact hPc, va_K.moved hW.alike hKc, hDc.weaken (fun _ _ _ _ => trivial)⟩⟩ rfl rfl hl.1 rfl (lv_room (Nat.le_of_ble_eq_true rfl)) dX10_tallyUp_76 ⟨Nat.le_of_ble_eq_true rfl, Nat.le_of_ble_eq_true rfl⟩) hS (fun q _ h => hFc q h) hFc (fun r_4 u t H1 locs ht hvm hw hB hz1 hk1 hS => ?_)
            obtain ⟨hP1, hK1, hD1⟩ := hB
            rw [ht] at hP1
            obtain ⟨hP, hD⟩ := cl_put (w1 := (wd_c_X0_chain h0_0 h0_0_0 h0_0_f1 h0_0_f2 h0_0_f3 h0_0_0 h0_0_0k h0_0_0c)) (nw := (wd_c_X10_tallyUp h0 h0_0 h0_1 h0_2 h0_3 h0_4 h0_5 h0_4 h0_4k j22_h0_4c h0_0 h0_0_0 h0_0_f1 h0_0_f2 h0_0_f3 h0_0_0 h0_0_0k h0_0_0c h0_2 h0_2k j35_h0_2c h0_3 h0_3k j22_h0_3c h1 h1_f0 h1_f1 h1_f2 h1_f3 h1_4 h1_5 h1_6 h1_7 h1_8 h1_9 h1_10 h1_11 h1_12 h1_10 h1_10k h1_10c h1_11 h1_11k h1_11c h1_12 h1_12k h1_12c h1_4 h1_4k h1_4c h1_5 h1_5k h1_5c h0_1 h0_1_0 h0_1_f1 h0_1_f2 h0_1_3 h0_1_3 h0_1_3k j35_h0_1_3c h0_1_0 h0_1_0k h0_1_0c h0_1_0_e0 h0_1_0_e0_0 h0_1_0_e0_f1 h0_1_0_e0_2 h0_1_0_e0_0 h0_1_0_e0_0k h0_1_0_e0_0c h0_1_0_e0_2 h0_1_0_e0_2k j35_h0_1_0_e0_2c h0_1_0_e1 h0_1_0_e1_0 h0_1_0_e1_f1 h0_1_0_e1_2 h0_1_0_e1_0 h0_1_0_e1_0k h0_1_0_e1_0c h0_1_0_e1_2 h0_1_0_e1_2k j35_h0_1_0_e1_2c h0_1_0_e2 h0_1_0_e2_0 h0_1_0_e2_f1 h0_1_0_e2_2 h0_1_0_e2_0 h0_1_0_e2_0k h0_1_0_e2_0c h0_1_0_e2_2 h0_1_0_e2_2k j35_h0_1_0_e2_2c h0_1_0_e3 h0_1_0_e3_0 h0_1_0_e3_f1 h0_1_0_e3_2 h0_1_0_e3_0 h0_1_0_e3_0k h0_1_0_e3_0c h0_1_0_e3_2 h0_1_0_e3_2k j35_h0_1_0_e3_2c)) hP hD [2, 3] [0, 1, 27, 28, 4, 5, 6, 7, 8, 9, 10, 11, 12, 13, 14, 15, 16, 17, 18, 19, 20, 21, 22, 23, 24, 25, 26] 27 rfl hqc (by decide +kernel) rfl hk1 hFc hP1 hD1
            generalize H1 = H at hP hS ⊢
            as_aux_lemma =>
            have h_5 := hw
            obtain ⟨hPc, hDc, hFc, hqc⟩ := cl_cut (wc := (wd_c_X10_leanBy h0 h0_0 h0_1 h0_2 h0_3 h0_4 h0_5 h0_0 h0_0_0 h0_0_f1 h0_0_f2 h0_0_f3 h0_2 h0_2k j35_h0_2c)) hP hD hS hA [0, 2, 4] (by decide +kernel) rfl
            have hKc := hK.sub (tys' := [(h0_2k, .int)]) [2] rfl
            have hrv := va_recv hKc hPc (ci := 10) (q0 := 0) rfl rfl
            refine va_calli (va_runV (As := [.int r_4]) (rest := [.int j22_l2, .ref h0_3]) ⟨hx, hb, hml, hown, hts⟩ (c_X10_leanBy l dC dI H.size h0 r_4 h0_0 h0_1 h0_2 h0_3 h0_4 h0_5 h0_0_0 h0_0_f1 h0_0_f2 h0_0_f3 h0_2k j35_h0_2c h_5 (RG_w g_h0_0_f1 (by decide +kernel)) g_h0_0_f2 g_h0_0_f3) (cwV 1 hts gf_c_X10_tallyUp_c_X10_leanBy rfl rfl rfl mdV_X10_leanBy ⟨Nat.le_of_ble_eq_true rfl, Nat.le_of_ble_eq_true rfl⟩) ⟨fun a U g mk q => by obtain ⟨q0, q1, qP, qK, qD⟩ := q; exact ⟨q0, q1, qP, va_K.moved (u := U) (U := U.calling g mk a) (Vm.Alike.refl U.vm) qK, qD⟩, hrv, fun U hU hW => ⟨rfl, by rw [hU], by rw [hU]; exact hPc, va_K.moved hW.alike hKc, hDc.weaken (fun _ _ _ _ => trivial)⟩⟩ rfl rfl hl.1 rfl (lv_room (Nat.le_of_ble_eq_true rfl)) dX10_tallyUp_79 ⟨Nat.le_of_ble_eq_true rfl, Nat.le_of_ble_eq_true rfl⟩) hS (fun q _ h => hFc q h) hFc (fun r_6 u t H1 locs ht hvm hw hB hz1 hk1 hS => ?_)
            obtain ⟨hP1, hK1, hD1⟩ := hB
            rw [ht] at hP1
            obtain ⟨hP, hD⟩ := cl_put (w1 := (wd_c_X10_leanBy h0 h0_0 h0_1 h0_2 h0_3 h0_4 h0_5 h0_0 h0_0_0 h0_0_f1 h0_0_f2 h0_0_f3 h0_2 h0_2k j35_h0_2c)) (nw := (wd_c_X10_tallyUp h0 h0_0 h0_1 h0_2 h0_3 h0_4 h0_5 h0_4 h0_4k j22_h0_4c h0_0 h0_0_0 h0_0_f1 h0_0_f2 h0_0_f3 h0_0_0 h0_0_0k h0_0_0c h0_2 h0_2k j35_h0_2c h0_3 h0_3k j22_h0_3c h1 h1_f0 h1_f1 h1_f2 h1_f3 h1_4 h1_5 h1_6 h1_7 h1_8 h1_9 h1_10 h1_11 h1_12 h1_10 h1_10k h1_10c h1_11 h1_11k h1_11c h1_12 h1_12k h1_12c h1_4 h1_4k h1_4c h1_5 h1_5k h1_5c h0_1 h0_1_0 h0_1_f1 h0_1_f2 h0_1_3 h0_1_3 h0_1_3k j35_h0_1_3c h0_1_0 h0_1_0k h0_1_0c h0_1_0_e0 h0_1_0_e0_0 h0_1_0_e0_f1 h0_1_0_e0_2 h0_1_0_e0_0 h0_1_0_e0_0k h0_1_0_e0_0c h0_1_0_e0_2 h0_1_0_e0_2k j35_h0_1_0_e0_2c h0_1_0_e1 h0_1_0_e1_0 h0_1_0_e1_f1 h0_1_0_e1_2 h0_1_0_e1_0 h0_1_0_e1_0k h0_1_0_e1_0c h0_1_0_e1_2 h0_1_0_e1_2k j35_h0_1_0_e1_2c h0_1_0_e2 h0_1_0_e2_0 h0_1_0_e2_f1 h0_1_0_e2_2 h0_1_0_e2_0 h0_1_0_e2_0k h0_1_0_e2_0c h0_1_0_e2_2 h0_1_0_e2_2k j35_h0_1_0_e2_2c h0_1_0_e3 h0_1_0_e3_0 h0_1_0_e3_f1 h0_1_0_e3_2 h0_1_0_e3_0 h0_1_0_e3_0k h0_1_0_e3_0c h0_1_0_e3_2 h0_1_0_e3_2k j35_h0_1_0_e3_2c)) hP hD [0, 2, 4] [27, 1, 28, 3, 29, 5, 6, 7, 8, 9, 10, 11, 12, 13, 14, 15, 16, 17, 18, 19, 20, 21, 22, 23, 24, 25, 26] 27 rfl hqc (by decide +kernel) rfl hk1 hFc hP1 hD1
            generalize H1 = H at hP hS ⊢
            as_aux_lemma =>
            rcases hw with h_7 | h_8
            · rw [h_7]
              refine va_iast hx hb hK hP hD hS 5 3 rfl rfl (RG_in g_j22_l2 (by decide +kernel)) dX10_tallyUp_82 (fun H locs hP hD hS => ?_)
              have hP : va_P (dC, dI) vwCl (wd_c_X10_tallyUp h0 h0_0 h0_1 h0_2 h0_3 h0_4 h0_5 h0_4 h0_4k j22_h0_4c h0_0 h0_0_0 h0_0_f1 h0_0_f2 h0_0_f3 h0_0_0 h0_0_0k h0_0_0c h0_2 h0_2k j35_h0_2c h0_3 h0_3k (upd j22_h0_3c (j22_l2 : Int32).toNatClampNeg (-1)) h1 h1_f0 h1_f1 h1_f2 h1_f3 h1_4 h1_5 h1_6 h1_7 h1_8 h1_9 h1_10 h1_11 h1_12 h1_10 h1_10k h1_10c h1_11 h1_11k h1_11c h1_12 h1_12k h1_12c h1_4 h1_4k h1_4c h1_5 h1_5k h1_5c h0_1 h0_1_0 h0_1_f1 h0_1_f2 h0_1_3 h0_1_3 h0_1_3k j35_h0_1_3c h0_1_0 h0_1_0k h0_1_0c h0_1_0_e0 h0_1_0_e0_0 h0_1_0_e0_f1 h0_1_0_e0_2 h0_1_0_e0_0 h0_1_0_e0_0k h0_1_0_e0_0c h0_1_0_e0_2 h0_1_0_e0_2k j35_h0_1_0_e0_2c h0_1_0_e1 h0_1_0_e1_0 h0_1_0_e1_f1 h0_1_0_e1_2 h0_1_0_e1_0 h0_1_0_e1_0k h0_1_0_e1_0c h0_1_0_e1_2 h0_1_0_e1_2k j35_h0_1_0_e1_2c h0_1_0_e2 h0_1_0_e2_0 h0_1_0_e2_f1 h0_1_0_e2_2 h0_1_0_e2_0 h0_1_0_e2_0k h0_1_0_e2_0c h0_1_0_e2_2 h0_1_0_e2_2k j35_h0_1_0_e2_2c h0_1_0_e3 h0_1_0_e3_0 h0_1_0_e3_f1 h0_1_0_e3_2 h0_1_0_e3_0 h0_1_0_e3_0k h0_1_0_e3_0c h0_1_0_e3_2 h0_1_0_e3_2k j35_h0_1_0_e3_2c) H := hP
              have hD : va_D A (wd_c_X10_tallyUp h0 h0_0 h0_1 h0_2 h0_3 h0_4 h0_5 h0_4 h0_4k j22_h0_4c h0_0 h0_0_0 h0_0_f1 h0_0_f2 h0_0_f3 h0_0_0 h0_0_0k h0_0_0c h0_2 h0_2k j35_h0_2c h0_3 h0_3k (upd j22_h0_3c (j22_l2 : Int32).toNatClampNeg (-1)) h1 h1_f0 h1_f1 h1_f2 h1_f3 h1_4 h1_5 h1_6 h1_7 h1_8 h1_9 h1_10 h1_11 h1_12 h1_10 h1_10k h1_10c h1_11 h1_11k h1_11c h1_12 h1_12k h1_12c h1_4 h1_4k h1_4c h1_5 h1_5k h1_5c h0_1 h0_1_0 h0_1_f1 h0_1_f2 h0_1_3 h0_1_3 h0_1_3k j35_h0_1_3c h0_1_0 h0_1_0k h0_1_0c h0_1_0_e0 h0_1_0_e0_0 h0_1_0_e0_f1 h0_1_0_e0_2 h0_1_0_e0_0 h0_1_0_e0_0k h0_1_0_e0_0c h0_1_0_e0_2 h0_1_0_e0_2k j35_h0_1_0_e0_2c h0_1_0_e1 h0_1_0_e1_0 h0_1_0_e1_f1 h0_1_0_e1_2 h0_1_0_e1_0 h0_1_0_e1_0k h0_1_0_e1_0c h0_1_0_e1_2 h0_1_0_e1_2k j35_h0_1_0_e1_2c h0_1_0_e2 h0_1_0_e2_0 h0_1_0_e2_f1 h0_1_0_e2_2 h0_1_0_e2_0 h0_1_0_e2_0k h0_1_0_e2_0c h0_1_0_e2_2 h0_1_0_e2_2k j35_h0_1_0_e2_2c h0_1_0_e3 h0_1_0_e3_0 h0_1_0_e3_f1 h0_1_0_e3_2 h0_1_0_e3_0 h0_1_0_e3_0k h0_1_0_e3_0c h0_1_0_e3_2 h0_1_0_e3_2k j35_h0_1_0_e3_2c) := hD
              have l_10 : (upd j22_h0_3c (j22_l2 : Int32).toNatClampNeg (-1)) (j22_l2 : Int32).toNatClampNeg = (-1) := pk_us
              have a_11 : AI (upd j22_h0_3c (j22_l2 : Int32).toNatClampNeg (-1)) (-1) 2 := AI_up a_j22_h0_3c (RG_k (-1) (-1) rfl) (by decide +kernel)
              generalize (upd j22_h0_3c (j22_l2 : Int32).toNatClampNeg (-1)) = w_9 at hP hD a_11 l_10
              have hP : va_P (dC, dI) vwCl (wd_c_X10_tallyUp h0 h0_0 h0_1 h0_2 h0_3 h0_4 h0_5 h0_4 h0_4k j22_h0_4c h0_0 h0_0_0 h0_0_f1 h0_0_f2 h0_0_f3 h0_0_0 h0_0_0k h0_0_0c h0_2 h0_2k j35_h0_2c h0_3 h0_3k w_9 h1 h1_f0 h1_f1 h1_f2 h1_f3 h1_4 h1_5 h1_6 h1_7 h1_8 h1_9 h1_10 h1_11 h1_12 h1_10 h1_10k h1_10c h1_11 h1_11k h1_11c h1_12 h1_12k h1_12c h1_4 h1_4k h1_4c h1_5 h1_5k h1_5c h0_1 h0_1_0 h0_1_f1 h0_1_f2 h0_1_3 h0_1_3 h0_1_3k j35_h0_1_3c h0_1_0 h0_1_0k h0_1_0c h0_1_0_e0 h0_1_0_e0_0 h0_1_0_e0_f1 h0_1_0_e0_2 h0_1_0_e0_0 h0_1_0_e0_0k h0_1_0_e0_0c h0_1_0_e0_2 h0_1_0_e0_2k j35_h0_1_0_e0_2c h0_1_0_e1 h0_1_0_e1_0 h0_1_0_e1_f1 h0_1_0_e1_2 h0_1_0_e1_0 h0_1_0_e1_0k h0_1_0_e1_0c h0_1_0_e1_2 h0_1_0_e1_2k j35_h0_1_0_e1_2c h0_1_0_e2 h0_1_0_e2_0 h0_1_0_e2_f1 h0_1_0_e2_2 h0_1_0_e2_0 h0_1_0_e2_0k h0_1_0_e2_0c h0_1_0_e2_2 h0_1_0_e2_2k j35_h0_1_0_e2_2c h0_1_0_e3 h0_1_0_e3_0 h0_1_0_e3_f1 h0_1_0_e3_2 h0_1_0_e3_0 h0_1_0_e3_0k h0_1_0_e3_0c h0_1_0_e3_2 h0_1_0_e3_2k j35_h0_1_0_e3_2c) H := hP
              have hD : va_D A (wd_c_X10_tallyUp h0 h0_0 h0_1 h0_2 h0_3 h0_4 h0_5 h0_4 h0_4k j22_h0_4c h0_0 h0_0_0 h0_0_f1 h0_0_f2 h0_0_f3 h0_0_0 h0_0_0k h0_0_0c h0_2 h0_2k j35_h0_2c h0_3 h0_3k w_9 h1 h1_f0 h1_f1 h1_f2 h1_f3 h1_4 h1_5 h1_6 h1_7 h1_8 h1_9 h1_10 h1_11 h1_12 h1_10 h1_10k h1_10c h1_11 h1_11k h1_11c h1_12 h1_12k h1_12c h1_4 h1_4k h1_4c h1_5 h1_5k h1_5c h0_1 h0_1_0 h0_1_f1 h0_1_f2 h0_1_3 h0_1_3 h0_1_3k j35_h0_1_3c h0_1_0 h0_1_0k h0_1_0c h0_1_0_e0 h0_1_0_e0_0 h0_1_0_e0_f1 h0_1_0_e0_2 h0_1_0_e0_0 h0_1_0_e0_0k h0_1_0_e0_0c h0_1_0_e0_2 h0_1_0_e0_2k j35_h0_1_0_e0_2c h0_1_0_e1 h0_1_0_e1_0 h0_1_0_e1_f1 h0_1_0_e1_2 h0_1_0_e1_0 h0_1_0_e1_0k h0_1_0_e1_0c h0_1_0_e1_2 h0_1_0_e1_2k j35_h0_1_0_e1_2c h0_1_0_e2 h0_1_0_e2_0 h0_1_0_e2_f1 h0_1_0_e2_2 h0_1_0_e2_0 h0_1_0_e2_0k h0_1_0_e2_0c h0_1_0_e2_2 h0_1_0_e2_2k j35_h0_1_0_e2_2c h0_1_0_e3 h0_1_0_e3_0 h0_1_0_e3_f1 h0_1_0_e3_2 h0_1_0_e3_0 h0_1_0_e3_0k h0_1_0_e3_0c h0_1_0_e3_2 h0_1_0_e3_2k j35_h0_1_0_e3_2c) := hD
              refine lv_aload_n hx hb dX10_tallyUp_83 rfl (lv_at hl 2 rfl) ?_
              refine va_get (D := (dC, dI)) (ci := 10) (v := .ref h0_3) (C := RX10) (T := TX10) (N := 6) hx hb hts iw_c_X10_tallyUp_X10 hown hK hP 0 rfl rfl 3 (by decide +kernel) (hts (.fieldLink RX10 23 "BuoyVote$Waters" "leans" "[I") (List.mem_of_getElem? (i := 5) rfl)) (fun _ h9 => h9) rfl dX10_tallyUp_84 ?_
              refine lv_iload_n hx hb dX10_tallyUp_87 rfl (lv_at hl 1 rfl) ?_
              refine va_iald hx hb hK hP 5 3 rfl rfl (RG_in g_j22_l2 (by decide +kernel)) dX10_tallyUp_88 ?_
              as_aux_lemma =>
              refine lv_topi (fun x_12 ex_12 => ?_)
              obtain rfl : x_12 = (-1) := ex_12.trans l_10
              refine lv_iconst (v := (-1)) hx hb dX10_tallyUp_89 kc_iconst_m1 ?_
              refine lv_icmp_eq (tgt := 108) hx hb dX10_tallyUp_90 rfl (fun c_13 => ?_) (fun c_13 => absurd c_13 (by decide +kernel))
              exact hU _ _ _ (J108 j22_h0_4c j35_h0_2c w_9 j35_h0_1_3c j35_h0_1_0_e0_2c j35_h0_1_0_e1_2c j35_h0_1_0_e2_2c j35_h0_1_0_e3_2c g_h0_0_f1 g_h0_0_f2 g_h0_0_f3 g_h0_1_0_e0_f1 g_h0_1_0_e1_f1 g_h0_1_0_e2_f1 g_h0_1_0_e3_f1 g_h0_1_f1 g_j22_l2 a_11 _ _ _ hP hD hS (lv_sub hl [1, 2, 3] rfl))
            · refine va_iast hx hb hK hP hD hS 5 3 rfl rfl (RG_in g_j22_l2 (by decide +kernel)) dX10_tallyUp_82 (fun H locs hP hD hS => ?_)
              have hP : va_P (dC, dI) vwCl (wd_c_X10_tallyUp h0 h0_0 h0_1 h0_2 h0_3 h0_4 h0_5 h0_4 h0_4k j22_h0_4c h0_0 h0_0_0 h0_0_f1 h0_0_f2 h0_0_f3 h0_0_0 h0_0_0k h0_0_0c h0_2 h0_2k j35_h0_2c h0_3 h0_3k (upd j22_h0_3c (j22_l2 : Int32).toNatClampNeg r_6) h1 h1_f0 h1_f1 h1_f2 h1_f3 h1_4 h1_5 h1_6 h1_7 h1_8 h1_9 h1_10 h1_11 h1_12 h1_10 h1_10k h1_10c h1_11 h1_11k h1_11c h1_12 h1_12k h1_12c h1_4 h1_4k h1_4c h1_5 h1_5k h1_5c h0_1 h0_1_0 h0_1_f1 h0_1_f2 h0_1_3 h0_1_3 h0_1_3k j35_h0_1_3c h0_1_0 h0_1_0k h0_1_0c h0_1_0_e0 h0_1_0_e0_0 h0_1_0_e0_f1 h0_1_0_e0_2 h0_1_0_e0_0 h0_1_0_e0_0k h0_1_0_e0_0c h0_1_0_e0_2 h0_1_0_e0_2k j35_h0_1_0_e0_2c h0_1_0_e1 h0_1_0_e1_0 h0_1_0_e1_f1 h0_1_0_e1_2 h0_1_0_e1_0 h0_1_0_e1_0k h0_1_0_e1_0c h0_1_0_e1_2 h0_1_0_e1_2k j35_h0_1_0_e1_2c h0_1_0_e2 h0_1_0_e2_0 h0_1_0_e2_f1 h0_1_0_e2_2 h0_1_0_e2_0 h0_1_0_e2_0k h0_1_0_e2_0c h0_1_0_e2_2 h0_1_0_e2_2k j35_h0_1_0_e2_2c h0_1_0_e3 h0_1_0_e3_0 h0_1_0_e3_f1 h0_1_0_e3_2 h0_1_0_e3_0 h0_1_0_e3_0k h0_1_0_e3_0c h0_1_0_e3_2 h0_1_0_e3_2k j35_h0_1_0_e3_2c) H := hP
              have hD : va_D A (wd_c_X10_tallyUp h0 h0_0 h0_1 h0_2 h0_3 h0_4 h0_5 h0_4 h0_4k j22_h0_4c h0_0 h0_0_0 h0_0_f1 h0_0_f2 h0_0_f3 h0_0_0 h0_0_0k h0_0_0c h0_2 h0_2k j35_h0_2c h0_3 h0_3k (upd j22_h0_3c (j22_l2 : Int32).toNatClampNeg r_6) h1 h1_f0 h1_f1 h1_f2 h1_f3 h1_4 h1_5 h1_6 h1_7 h1_8 h1_9 h1_10 h1_11 h1_12 h1_10 h1_10k h1_10c h1_11 h1_11k h1_11c h1_12 h1_12k h1_12c h1_4 h1_4k h1_4c h1_5 h1_5k h1_5c h0_1 h0_1_0 h0_1_f1 h0_1_f2 h0_1_3 h0_1_3 h0_1_3k j35_h0_1_3c h0_1_0 h0_1_0k h0_1_0c h0_1_0_e0 h0_1_0_e0_0 h0_1_0_e0_f1 h0_1_0_e0_2 h0_1_0_e0_0 h0_1_0_e0_0k h0_1_0_e0_0c h0_1_0_e0_2 h0_1_0_e0_2k j35_h0_1_0_e0_2c h0_1_0_e1 h0_1_0_e1_0 h0_1_0_e1_f1 h0_1_0_e1_2 h0_1_0_e1_0 h0_1_0_e1_0k h0_1_0_e1_0c h0_1_0_e1_2 h0_1_0_e1_2k j35_h0_1_0_e1_2c h0_1_0_e2 h0_1_0_e2_0 h0_1_0_e2_f1 h0_1_0_e2_2 h0_1_0_e2_0 h0_1_0_e2_0k h0_1_0_e2_0c h0_1_0_e2_2 h0_1_0_e2_2k j35_h0_1_0_e2_2c h0_1_0_e3 h0_1_0_e3_0 h0_1_0_e3_f1 h0_1_0_e3_2 h0_1_0_e3_0 h0_1_0_e3_0k h0_1_0_e3_0c h0_1_0_e3_2 h0_1_0_e3_2k j35_h0_1_0_e3_2c) := hD
              have l_15 : (upd j22_h0_3c (j22_l2 : Int32).toNatClampNeg r_6) (j22_l2 : Int32).toNatClampNeg = r_6 := pk_us
              have a_16 : AI (upd j22_h0_3c (j22_l2 : Int32).toNatClampNeg r_6) (-1) 2 := AI_up a_j22_h0_3c h_8 (by decide +kernel)
              generalize (upd j22_h0_3c (j22_l2 : Int32).toNatClampNeg r_6) = w_14 at hP hD a_16 l_15
              have hP : va_P (dC, dI) vwCl (wd_c_X10_tallyUp h0 h0_0 h0_1 h0_2 h0_3 h0_4 h0_5 h0_4 h0_4k j22_h0_4c h0_0 h0_0_0 h0_0_f1 h0_0_f2 h0_0_f3 h0_0_0 h0_0_0k h0_0_0c h0_2 h0_2k j35_h0_2c h0_3 h0_3k w_14 h1 h1_f0 h1_f1 h1_f2 h1_f3 h1_4 h1_5 h1_6 h1_7 h1_8 h1_9 h1_10 h1_11 h1_12 h1_10 h1_10k h1_10c h1_11 h1_11k h1_11c h1_12 h1_12k h1_12c h1_4 h1_4k h1_4c h1_5 h1_5k h1_5c h0_1 h0_1_0 h0_1_f1 h0_1_f2 h0_1_3 h0_1_3 h0_1_3k j35_h0_1_3c h0_1_0 h0_1_0k h0_1_0c h0_1_0_e0 h0_1_0_e0_0 h0_1_0_e0_f1 h0_1_0_e0_2 h0_1_0_e0_0 h0_1_0_e0_0k h0_1_0_e0_0c h0_1_0_e0_2 h0_1_0_e0_2k j35_h0_1_0_e0_2c h0_1_0_e1 h0_1_0_e1_0 h0_1_0_e1_f1 h0_1_0_e1_2 h0_1_0_e1_0 h0_1_0_e1_0k h0_1_0_e1_0c h0_1_0_e1_2 h0_1_0_e1_2k j35_h0_1_0_e1_2c h0_1_0_e2 h0_1_0_e2_0 h0_1_0_e2_f1 h0_1_0_e2_2 h0_1_0_e2_0 h0_1_0_e2_0k h0_1_0_e2_0c h0_1_0_e2_2 h0_1_0_e2_2k j35_h0_1_0_e2_2c h0_1_0_e3 h0_1_0_e3_0 h0_1_0_e3_f1 h0_1_0_e3_2 h0_1_0_e3_0 h0_1_0_e3_0k h0_1_0_e3_0c h0_1_0_e3_2 h0_1_0_e3_2k j35_h0_1_0_e3_2c) H := hP
              have hD : va_D A (wd_c_X10_tallyUp h0 h0_0 h0_1 h0_2 h0_3 h0_4 h0_5 h0_4 h0_4k j22_h0_4c h0_0 h0_0_0 h0_0_f1 h0_0_f2 h0_0_f3 h0_0_0 h0_0_0k h0_0_0c h0_2 h0_2k j35_h0_2c h0_3 h0_3k w_14 h1 h1_f0 h1_f1 h1_f2 h1_f3 h1_4 h1_5 h1_6 h1_7 h1_8 h1_9 h1_10 h1_11 h1_12 h1_10 h1_10k h1_10c h1_11 h1_11k h1_11c h1_12 h1_12k h1_12c h1_4 h1_4k h1_4c h1_5 h1_5k h1_5c h0_1 h0_1_0 h0_1_f1 h0_1_f2 h0_1_3 h0_1_3 h0_1_3k j35_h0_1_3c h0_1_0 h0_1_0k h0_1_0c h0_1_0_e0 h0_1_0_e0_0 h0_1_0_e0_f1 h0_1_0_e0_2 h0_1_0_e0_0 h0_1_0_e0_0k h0_1_0_e0_0c h0_1_0_e0_2 h0_1_0_e0_2k j35_h0_1_0_e0_2c h0_1_0_e1 h0_1_0_e1_0 h0_1_0_e1_f1 h0_1_0_e1_2 h0_1_0_e1_0 h0_1_0_e1_0k h0_1_0_e1_0c h0_1_0_e1_2 h0_1_0_e1_2k j35_h0_1_0_e1_2c h0_1_0_e2 h0_1_0_e2_0 h0_1_0_e2_f1 h0_1_0_e2_2 h0_1_0_e2_0 h0_1_0_e2_0k h0_1_0_e2_0c h0_1_0_e2_2 h0_1_0_e2_2k j35_h0_1_0_e2_2c h0_1_0_e3 h0_1_0_e3_0 h0_1_0_e3_f1 h0_1_0_e3_2 h0_1_0_e3_0 h0_1_0_e3_0k h0_1_0_e3_0c h0_1_0_e3_2 h0_1_0_e3_2k j35_h0_1_0_e3_2c) := hD
              refine lv_aload_n hx hb dX10_tallyUp_83 rfl (lv_at hl 2 rfl) ?_
              as_aux_lemma =>
              refine va_get (D := (dC, dI)) (ci := 10) (v := .ref h0_3) (C := RX10) (T := TX10) (N := 6) hx hb hts iw_c_X10_tallyUp_X10 hown hK hP 0 rfl rfl 3 (by decide +kernel) (hts (.fieldLink RX10 23 "BuoyVote$Waters" "leans" "[I") (List.mem_of_getElem? (i := 5) rfl)) (fun _ h9 => h9) rfl dX10_tallyUp_84 ?_
              refine lv_iload_n hx hb dX10_tallyUp_87 rfl (lv_at hl 1 rfl) ?_
              refine va_iald hx hb hK hP 5 3 rfl rfl (RG_in g_j22_l2 (by decide +kernel)) dX10_tallyUp_88 ?_
              refine lv_topi (fun x_17 ex_17 => ?_)
              obtain rfl : r_6 = x_17 := (ex_17.trans l_15).symm
              refine lv_iconst (v := (-1)) hx hb dX10_tallyUp_89 kc_iconst_m1 ?_
              refine lv_icmp_eq (tgt := 108) hx hb dX10_tallyUp_90 rfl (fun c_18 => ?_) (fun c_18 => ?_)
              · exact RG_dead (RG_eq1 h_8 (RG_k (-1) (-1) rfl) c_18 (a' := 0) (b' := (-1)) (by decide +kernel)) (by decide +kernel)
              · refine lv_aload_n hx hb dX10_tallyUp_93 rfl (lv_at hl 2 rfl) ?_
                refine va_get (D := (dC, dI)) (ci := 10) (v := .ref h0_4) (C := RX10) (T := TX10) (N := 6) hx hb hts iw_c_X10_tallyUp_X10 hown hK hP 0 rfl rfl 4 (by decide +kernel) (hts (.fieldLink RX10 26 "BuoyVote$Waters" "tally" "[I") (List.mem_of_getElem? (i := 1) rfl)) (fun _ h9 => h9) rfl dX10_tallyUp_94 ?_
                refine lv_aload_n hx hb dX10_tallyUp_97 rfl (lv_at hl 2 rfl) ?_
                refine va_get (D := (dC, dI)) (ci := 10) (v := .ref h0_3) (C := RX10) (T := TX10) (N := 6) hx hb hts iw_c_X10_tallyUp_X10 hown hK hP 0 rfl rfl 3 (by decide +kernel) (hts (.fieldLink RX10 23 "BuoyVote$Waters" "leans" "[I") (List.mem_of_getElem? (i := 5) rfl)) (fun _ h9 => h9) rfl dX10_tallyUp_98 ?_
                refine lv_iload_n hx hb dX10_tallyUp_101 rfl (lv_at hl 1 rfl) ?_
                refine va_iald hx hb hK hP 5 3 rfl rfl (RG_in g_j22_l2 (by decide +kernel)) dX10_tallyUp_102 ?_
                as_aux_lemma =>
                refine lv_topi (fun x_19 ex_19 => ?_)
                obtain rfl : r_6 = x_19 := (ex_19.trans l_15).symm
                refine lv_dup2_11 hx hb dX10_tallyUp_103 rfl rfl ?_
                refine va_iald hx hb hK hP 1 0 rfl rfl (RG_in h_8 (by decide +kernel)) dX10_tallyUp_104 ?_
                refine lv_topi (fun x_20 ex_20 => ?_)
                refine lv_iconst (v := 1) hx hb dX10_tallyUp_105 kc_iconst_1 ?_
                refine lv_iadd hx hb dX10_tallyUp_106 ?_
                refine lv_topi (fun x_21 ex_21 => ?_)
                refine va_iast hx hb hK hP hD hS 1 0 rfl rfl (RG_in h_8 (by decide +kernel)) dX10_tallyUp_107 (fun H locs hP hD hS => ?_)
                have hP : va_P (dC, dI) vwCl (wd_c_X10_tallyUp h0 h0_0 h0_1 h0_2 h0_3 h0_4 h0_5 h0_4 h0_4k (upd j22_h0_4c (r_6 : Int32).toNatClampNeg x_21) h0_0 h0_0_0 h0_0_f1 h0_0_f2 h0_0_f3 h0_0_0 h0_0_0k h0_0_0c h0_2 h0_2k j35_h0_2c h0_3 h0_3k w_14 h1 h1_f0 h1_f1 h1_f2 h1_f3 h1_4 h1_5 h1_6 h1_7 h1_8 h1_9 h1_10 h1_11 h1_12 h1_10 h1_10k h1_10c h1_11 h1_11k h1_11c h1_12 h1_12k h1_12c h1_4 h1_4k h1_4c h1_5 h1_5k h1_5c h0_1 h0_1_0 h0_1_f1 h0_1_f2 h0_1_3 h0_1_3 h0_1_3k j35_h0_1_3c h0_1_0 h0_1_0k h0_1_0c h0_1_0_e0 h0_1_0_e0_0 h0_1_0_e0_f1 h0_1_0_e0_2 h0_1_0_e0_0 h0_1_0_e0_0k h0_1_0_e0_0c h0_1_0_e0_2 h0_1_0_e0_2k j35_h0_1_0_e0_2c h0_1_0_e1 h0_1_0_e1_0 h0_1_0_e1_f1 h0_1_0_e1_2 h0_1_0_e1_0 h0_1_0_e1_0k h0_1_0_e1_0c h0_1_0_e1_2 h0_1_0_e1_2k j35_h0_1_0_e1_2c h0_1_0_e2 h0_1_0_e2_0 h0_1_0_e2_f1 h0_1_0_e2_2 h0_1_0_e2_0 h0_1_0_e2_0k h0_1_0_e2_0c h0_1_0_e2_2 h0_1_0_e2_2k j35_h0_1_0_e2_2c h0_1_0_e3 h0_1_0_e3_0 h0_1_0_e3_f1 h0_1_0_e3_2 h0_1_0_e3_0 h0_1_0_e3_0k h0_1_0_e3_0c h0_1_0_e3_2 h0_1_0_e3_2k j35_h0_1_0_e3_2c) H := hP
                have hD : va_D A (wd_c_X10_tallyUp h0 h0_0 h0_1 h0_2 h0_3 h0_4 h0_5 h0_4 h0_4k (upd j22_h0_4c (r_6 : Int32).toNatClampNeg x_21) h0_0 h0_0_0 h0_0_f1 h0_0_f2 h0_0_f3 h0_0_0 h0_0_0k h0_0_0c h0_2 h0_2k j35_h0_2c h0_3 h0_3k w_14 h1 h1_f0 h1_f1 h1_f2 h1_f3 h1_4 h1_5 h1_6 h1_7 h1_8 h1_9 h1_10 h1_11 h1_12 h1_10 h1_10k h1_10c h1_11 h1_11k h1_11c h1_12 h1_12k h1_12c h1_4 h1_4k h1_4c h1_5 h1_5k h1_5c h0_1 h0_1_0 h0_1_f1 h0_1_f2 h0_1_3 h0_1_3 h0_1_3k j35_h0_1_3c h0_1_0 h0_1_0k h0_1_0c h0_1_0_e0 h0_1_0_e0_0 h0_1_0_e0_f1 h0_1_0_e0_2 h0_1_0_e0_0 h0_1_0_e0_0k h0_1_0_e0_0c h0_1_0_e0_2 h0_1_0_e0_2k j35_h0_1_0_e0_2c h0_1_0_e1 h0_1_0_e1_0 h0_1_0_e1_f1 h0_1_0_e1_2 h0_1_0_e1_0 h0_1_0_e1_0k h0_1_0_e1_0c h0_1_0_e1_2 h0_1_0_e1_2k j35_h0_1_0_e1_2c h0_1_0_e2 h0_1_0_e2_0 h0_1_0_e2_f1 h0_1_0_e2_2 h0_1_0_e2_0 h0_1_0_e2_0k h0_1_0_e2_0c h0_1_0_e2_2 h0_1_0_e2_2k j35_h0_1_0_e2_2c h0_1_0_e3 h0_1_0_e3_0 h0_1_0_e3_f1 h0_1_0_e3_2 h0_1_0_e3_0 h0_1_0_e3_0k h0_1_0_e3_0c h0_1_0_e3_2 h0_1_0_e3_2k j35_h0_1_0_e3_2c) := hD
                have l_23 : (upd j22_h0_4c (r_6 : Int32).toNatClampNeg x_21) (r_6 : Int32).toNatClampNeg = x_21 := pk_us
                generalize (upd j22_h0_4c (r_6 : Int32).toNatClampNeg x_21) = w_22 at hP hD l_23
                have hP : va_P (dC, dI) vwCl (wd_c_X10_tallyUp h0 h0_0 h0_1 h0_2 h0_3 h0_4 h0_5 h0_4 h0_4k w_22 h0_0 h0_0_0 h0_0_f1 h0_0_f2 h0_0_f3 h0_0_0 h0_0_0k h0_0_0c h0_2 h0_2k j35_h0_2c h0_3 h0_3k w_14 h1 h1_f0 h1_f1 h1_f2 h1_f3 h1_4 h1_5 h1_6 h1_7 h1_8 h1_9 h1_10 h1_11 h1_12 h1_10 h1_10k h1_10c h1_11 h1_11k h1_11c h1_12 h1_12k h1_12c h1_4 h1_4k h1_4c h1_5 h1_5k h1_5c h0_1 h0_1_0 h0_1_f1 h0_1_f2 h0_1_3 h0_1_3 h0_1_3k j35_h0_1_3c h0_1_0 h0_1_0k h0_1_0c h0_1_0_e0 h0_1_0_e0_0 h0_1_0_e0_f1 h0_1_0_e0_2 h0_1_0_e0_0 h0_1_0_e0_0k h0_1_0_e0_0c h0_1_0_e0_2 h0_1_0_e0_2k j35_h0_1_0_e0_2c h0_1_0_e1 h0_1_0_e1_0 h0_1_0_e1_f1 h0_1_0_e1_2 h0_1_0_e1_0 h0_1_0_e1_0k h0_1_0_e1_0c h0_1_0_e1_2 h0_1_0_e1_2k j35_h0_1_0_e1_2c h0_1_0_e2 h0_1_0_e2_0 h0_1_0_e2_f1 h0_1_0_e2_2 h0_1_0_e2_0 h0_1_0_e2_0k h0_1_0_e2_0c h0_1_0_e2_2 h0_1_0_e2_2k j35_h0_1_0_e2_2c h0_1_0_e3 h0_1_0_e3_0 h0_1_0_e3_f1 h0_1_0_e3_2 h0_1_0_e3_0 h0_1_0_e3_0k h0_1_0_e3_0c h0_1_0_e3_2 h0_1_0_e3_2k j35_h0_1_0_e3_2c) H := hP
                have hD : va_D A (wd_c_X10_tallyUp h0 h0_0 h0_1 h0_2 h0_3 h0_4 h0_5 h0_4 h0_4k w_22 h0_0 h0_0_0 h0_0_f1 h0_0_f2 h0_0_f3 h0_0_0 h0_0_0k h0_0_0c h0_2 h0_2k j35_h0_2c h0_3 h0_3k w_14 h1 h1_f0 h1_f1 h1_f2 h1_f3 h1_4 h1_5 h1_6 h1_7 h1_8 h1_9 h1_10 h1_11 h1_12 h1_10 h1_10k h1_10c h1_11 h1_11k h1_11c h1_12 h1_12k h1_12c h1_4 h1_4k h1_4c h1_5 h1_5k h1_5c h0_1 h0_1_0 h0_1_f1 h0_1_f2 h0_1_3 h0_1_3 h0_1_3k j35_h0_1_3c h0_1_0 h0_1_0k h0_1_0c h0_1_0_e0 h0_1_0_e0_0 h0_1_0_e0_f1 h0_1_0_e0_2 h0_1_0_e0_0 h0_1_0_e0_0k h0_1_0_e0_0c h0_1_0_e0_2 h0_1_0_e0_2k j35_h0_1_0_e0_2c h0_1_0_e1 h0_1_0_e1_0 h0_1_0_e1_f1 h0_1_0_e1_2 h0_1_0_e1_0 h0_1_0_e1_0k h0_1_0_e1_0c h0_1_0_e1_2 h0_1_0_e1_2k j35_h0_1_0_e1_2c h0_1_0_e2 h0_1_0_e2_0 h0_1_0_e2_f1 h0_1_0_e2_2 h0_1_0_e2_0 h0_1_0_e2_0k h0_1_0_e2_0c h0_1_0_e2_2 h0_1_0_e2_2k j35_h0_1_0_e2_2c h0_1_0_e3 h0_1_0_e3_0 h0_1_0_e3_f1 h0_1_0_e3_2 h0_1_0_e3_0 h0_1_0_e3_0k h0_1_0_e3_0c h0_1_0_e3_2 h0_1_0_e3_2k j35_h0_1_0_e3_2c) := hD
                exact hU _ _ _ (J108 w_22 j35_h0_2c w_14 j35_h0_1_3c j35_h0_1_0_e0_2c j35_h0_1_0_e1_2c j35_h0_1_0_e2_2c j35_h0_1_0_e3_2c g_h0_0_f1 g_h0_0_f2 g_h0_0_f3 g_h0_1_0_e0_f1 g_h0_1_0_e1_f1 g_h0_1_0_e2_f1 g_h0_1_0_e3_f1 g_h0_1_f1 g_j22_l2 a_16 _ _ _ hP hD hS (lv_sub hl [1, 2, 3] rfl))
          · have d_24 := Int32.not_le.mp c_3
            have g_25 : RG j35_l3 0 2 := RG_lt1 g_j35_l3 g_h0_0_f2 d_24 (by decide +kernel)
            have g_26 : RG h0_0_f2 1 3 := RG_lt2 g_j35_l3 g_h0_0_f2 d_24 (by decide +kernel)
            refine lv_aload_n hx hb dX10_tallyUp_46 rfl (lv_at hl 2 rfl) ?_
            as_aux_lemma =>
            refine va_get (D := (dC, dI)) (ci := 10) (v := .ref h0_2) (C := RX10) (T := TX10) (N := 6) hx hb hts iw_c_X10_tallyUp_X10 hown hK hP 0 rfl rfl 2 (by decide +kernel) (hts (.fieldLink RX10 19 "BuoyVote$Waters" "draws" "[I") (List.mem_of_getElem? (i := 17) rfl)) (fun _ h9 => h9) rfl dX10_tallyUp_47 ?_
            refine lv_iload_n hx hb dX10_tallyUp_50 rfl (lv_at hl 0 rfl) ?_
            refine lv_aload_n hx hb dX10_tallyUp_51 rfl (lv_at hl 2 rfl) ?_
            refine lv_aload_n hx hb dX10_tallyUp_52 rfl (lv_at hl 3 rfl) ?_
            refine lv_iload_n hx hb dX10_tallyUp_53 rfl (lv_at hl 1 rfl) ?_
            refine lv_iload_n hx hb dX10_tallyUp_54 rfl (lv_at hl 0 rfl) ?_
            obtain ⟨hPc, hDc, hFc, hqc⟩ := cl_cut (wc := (wd_c_X10_drawOf h1 h1_f0 h1_f1 h1_f2 h1_f3 h1_4 h1_5 h1_6 h1_7 h1_8 h1_9 h1_10 h1_11 h1_12 h1_10 h1_10k h1_10c h1_11 h1_11k h1_11c h1_12 h1_12k h1_12c h0 h0_0 h0_1 h0_2 h0_3 h0_4 h0_5 h0_0 h0_0_0 h0_0_f1 h0_0_f2 h0_0_f3 h0_0_0 h0_0_0k h0_0_0c h1_4 h1_4k h1_4c h1_5 h1_5k h1_5c h0_1 h0_1_0 h0_1_f1 h0_1_f2 h0_1_3 h0_1_3 h0_1_3k j35_h0_1_3c h0_1_0 h0_1_0k h0_1_0c h0_1_0_e0 h0_1_0_e0_0 h0_1_0_e0_f1 h0_1_0_e0_2 h0_1_0_e0_0 h0_1_0_e0_0k h0_1_0_e0_0c h0_1_0_e0_2 h0_1_0_e0_2k j35_h0_1_0_e0_2c h0_1_0_e1 h0_1_0_e1_0 h0_1_0_e1_f1 h0_1_0_e1_2 h0_1_0_e1_0 h0_1_0_e1_0k h0_1_0_e1_0c h0_1_0_e1_2 h0_1_0_e1_2k j35_h0_1_0_e1_2c h0_1_0_e2 h0_1_0_e2_0 h0_1_0_e2_f1 h0_1_0_e2_2 h0_1_0_e2_0 h0_1_0_e2_0k h0_1_0_e2_0c h0_1_0_e2_2 h0_1_0_e2_2k j35_h0_1_0_e2_2c h0_1_0_e3 h0_1_0_e3_0 h0_1_0_e3_f1 h0_1_0_e3_2 h0_1_0_e3_0 h0_1_0_e3_0k h0_1_0_e3_0c h0_1_0_e3_2 h0_1_0_e3_2k j35_h0_1_0_e3_2c)) hP hD hS hA [6, 7, 8, 9, 0, 2, 3, 10, 11, 12, 13, 14, 15, 16, 17, 18, 19, 20, 21, 22, 23, 24, 25, 26] (by decide +kernel) rfl
            have hKc := hK.sub (tys' := [(h1_10k, .int), (h1_11k, .int), (h1_12k, .int), (h0_0_0k, .int), (h1_4k, .int), (h1_5k, .int), (h0_1_3k, .int), (h0_1_0k, .object RX4), (h0_1_0_e0_0k, .int), (h0_1_0_e0_2k, .int), (h0_1_0_e1_0k, .int), (h0_1_0_e1_2k, .int), (h0_1_0_e2_0k, .int), (h0_1_0_e2_2k, .int), (h0_1_0_e3_0k, .int), (h0_1_0_e3_2k, .int)]) [4, 5, 6, 1, 7, 8, 9, 10, 11, 12, 13, 14, 15, 16, 17, 18] rfl
            have hrv := va_recv hKc hPc (ci := 10) (q0 := 4) rfl rfl
            refine va_calli (va_runV (As := [.ref h1, .int j22_l2, .int j35_l3]) (rest := [.int j35_l3, .ref h0_2]) ⟨hx, hb, hml, hown, hts⟩ (c_X10_drawOf l dC dI H.size h0 h1 j22_l2 j35_l3 h1_f0 h1_f1 h1_f2 h1_f3 h1_4 h1_5 h1_6 h1_7 h1_8 h1_9 h1_10 h1_11 h1_12 h1_10k h1_10c h1_11k h1_11c h1_12k h1_12c h0_0 h0_1 h0_2 h0_3 h0_4 h0_5 h0_0_0 h0_0_f1 h0_0_f2 h0_0_f3 h0_0_0k h0_0_0c h1_4k h1_4c h1_5k h1_5c h0_1_0 h0_1_f1 h0_1_f2 h0_1_3 h0_1_3k j35_h0_1_3c h0_1_0k h0_1_0c h0_1_0_e0 h0_1_0_e1 h0_1_0_e2 h0_1_0_e3 h0_1_0_e4 h0_1_0_e0_0 h0_1_0_e0_f1 h0_1_0_e0_2 h0_1_0_e0_0k h0_1_0_e0_0c h0_1_0_e0_2k j35_h0_1_0_e0_2c h0_1_0_e1_0 h0_1_0_e1_f1 h0_1_0_e1_2 h0_1_0_e1_0k h0_1_0_e1_0c h0_1_0_e1_2k j35_h0_1_0_e1_2c h0_1_0_e2_0 h0_1_0_e2_f1 h0_1_0_e2_2 h0_1_0_e2_0k h0_1_0_e2_0c h0_1_0_e2_2k j35_h0_1_0_e2_2c h0_1_0_e3_0 h0_1_0_e3_f1 h0_1_0_e3_2 h0_1_0_e3_0k h0_1_0_e3_0c h0_1_0_e3_2k j35_h0_1_0_e3_2c g_j22_l2 g_25 (RG_w g_h0_0_f1 (by decide +kernel)) (RG_w g_26 (by decide +kernel)) g_h0_0_f3 a_h0_0_0c g_h0_1_f1 e_h0_1_0_e0 e_h0_1_0_e1 e_h0_1_0_e2 e_h0_1_0_e3 e_h0_1_0_e4 g_h0_1_0_e0_f1 g_h0_1_0_e1_f1 g_h0_1_0_e2_f1 g_h0_1_0_e3_f1) (cwV 3 hts gf_c_X10_tallyUp_c_X10_drawOf rfl rfl rfl mdV_X10_drawOf ⟨Nat.le_of_ble_eq_true rfl, Nat.le_of_ble_eq_true rfl⟩) ⟨fun a U g mk q => by obtain ⟨q0, q1, qP, qK, qD⟩ := q; exact ⟨q0, q1, qP, va_K.moved (u := U) (U := U.calling g mk a) (Vm.Alike.refl U.vm) qK, qD⟩, hrv, fun U hU hW => ⟨rfl, by rw [hU], by rw [hU]; exact hPc, va_K.moved hW.alike hKc, hDc.weaken (fun _ _ _ _ => trivial)⟩⟩ rfl rfl hl.1 rfl (lv_room (Nat.le_of_ble_eq_true rfl)) dX10_tallyUp_55 ⟨Nat.le_of_ble_eq_true rfl, Nat.le_of_ble_eq_true rfl⟩) hS (fun q _ h => hFc q h) hFc (fun r_27 u t H1 locs ht hvm hw hB hz1 hk1 hS => ?_)
            obtain ⟨w_28, w_29, w_30, w_31, w_32⟩ := u
            obtain ⟨hP1, hK1, hD1⟩ := hB
            rw [ht] at hP1
            obtain ⟨hP, hD⟩ := cl_put (w1 := (wd_c_X10_drawOf h1 h1_f0 h1_f1 h1_f2 h1_f3 h1_4 h1_5 h1_6 h1_7 h1_8 h1_9 h1_10 h1_11 h1_12 h1_10 h1_10k h1_10c h1_11 h1_11k h1_11c h1_12 h1_12k h1_12c h0 h0_0 h0_1 h0_2 h0_3 h0_4 h0_5 h0_0 h0_0_0 h0_0_f1 h0_0_f2 h0_0_f3 h0_0_0 h0_0_0k h0_0_0c h1_4 h1_4k h1_4c h1_5 h1_5k h1_5c h0_1 h0_1_0 h0_1_f1 h0_1_f2 h0_1_3 h0_1_3 h0_1_3k w_28 h0_1_0 h0_1_0k h0_1_0c h0_1_0_e0 h0_1_0_e0_0 h0_1_0_e0_f1 h0_1_0_e0_2 h0_1_0_e0_0 h0_1_0_e0_0k h0_1_0_e0_0c h0_1_0_e0_2 h0_1_0_e0_2k w_29 h0_1_0_e1 h0_1_0_e1_0 h0_1_0_e1_f1 h0_1_0_e1_2 h0_1_0_e1_0 h0_1_0_e1_0k h0_1_0_e1_0c h0_1_0_e1_2 h0_1_0_e1_2k w_30 h0_1_0_e2 h0_1_0_e2_0 h0_1_0_e2_f1 h0_1_0_e2_2 h0_1_0_e2_0 h0_1_0_e2_0k h0_1_0_e2_0c h0_1_0_e2_2 h0_1_0_e2_2k w_31 h0_1_0_e3 h0_1_0_e3_0 h0_1_0_e3_f1 h0_1_0_e3_2 h0_1_0_e3_0 h0_1_0_e3_0k h0_1_0_e3_0c h0_1_0_e3_2 h0_1_0_e3_2k w_32)) (nw := (wd_c_X10_tallyUp h0 h0_0 h0_1 h0_2 h0_3 h0_4 h0_5 h0_4 h0_4k j22_h0_4c h0_0 h0_0_0 h0_0_f1 h0_0_f2 h0_0_f3 h0_0_0 h0_0_0k h0_0_0c h0_2 h0_2k j35_h0_2c h0_3 h0_3k j22_h0_3c h1 h1_f0 h1_f1 h1_f2 h1_f3 h1_4 h1_5 h1_6 h1_7 h1_8 h1_9 h1_10 h1_11 h1_12 h1_10 h1_10k h1_10c h1_11 h1_11k h1_11c h1_12 h1_12k h1_12c h1_4 h1_4k h1_4c h1_5 h1_5k h1_5c h0_1 h0_1_0 h0_1_f1 h0_1_f2 h0_1_3 h0_1_3 h0_1_3k w_28 h0_1_0 h0_1_0k h0_1_0c h0_1_0_e0 h0_1_0_e0_0 h0_1_0_e0_f1 h0_1_0_e0_2 h0_1_0_e0_0 h0_1_0_e0_0k h0_1_0_e0_0c h0_1_0_e0_2 h0_1_0_e0_2k w_29 h0_1_0_e1 h0_1_0_e1_0 h0_1_0_e1_f1 h0_1_0_e1_2 h0_1_0_e1_0 h0_1_0_e1_0k h0_1_0_e1_0c h0_1_0_e1_2 h0_1_0_e1_2k w_30 h0_1_0_e2 h0_1_0_e2_0 h0_1_0_e2_f1 h0_1_0_e2_2 h0_1_0_e2_0 h0_1_0_e2_0k h0_1_0_e2_0c h0_1_0_e2_2 h0_1_0_e2_2k w_31 h0_1_0_e3 h0_1_0_e3_0 h0_1_0_e3_f1 h0_1_0_e3_2 h0_1_0_e3_0 h0_1_0_e3_0k h0_1_0_e3_0c h0_1_0_e3_2 h0_1_0_e3_2k w_32)) hP hD [6, 7, 8, 9, 0, 2, 3, 10, 11, 12, 13, 14, 15, 16, 17, 18, 19, 20, 21, 22, 23, 24, 25, 26] [31, 1, 32, 33, 4, 5, 27, 28, 29, 30, 34, 35, 36, 37, 38, 39, 40, 41, 42, 43, 44, 45, 46, 47, 48, 49, 50] 27 rfl hqc (by decide +kernel) rfl hk1 hFc hP1 hD1
            generalize H1 = H at hP hS ⊢
            as_aux_lemma =>
            rcases hw with ⟨h_33, h_34, h_35⟩ | h_36 | ⟨h_37, h_38, h_39⟩ | ⟨h_40, h_41, h_42⟩
            · rw [h_33]
              refine va_iast hx hb hK hP hD hS 4 2 rfl rfl (RG_in g_25 (by decide +kernel)) dX10_tallyUp_58 (fun H locs hP hD hS => ?_)
              have hP : va_P (dC, dI) vwCl (wd_c_X10_tallyUp h0 h0_0 h0_1 h0_2 h0_3 h0_4 h0_5 h0_4 h0_4k j22_h0_4c h0_0 h0_0_0 h0_0_f1 h0_0_f2 h0_0_f3 h0_0_0 h0_0_0k h0_0_0c h0_2 h0_2k (upd j35_h0_2c (j35_l3 : Int32).toNatClampNeg 0) h0_3 h0_3k j22_h0_3c h1 h1_f0 h1_f1 h1_f2 h1_f3 h1_4 h1_5 h1_6 h1_7 h1_8 h1_9 h1_10 h1_11 h1_12 h1_10 h1_10k h1_10c h1_11 h1_11k h1_11c h1_12 h1_12k h1_12c h1_4 h1_4k h1_4c h1_5 h1_5k h1_5c h0_1 h0_1_0 h0_1_f1 h0_1_f2 h0_1_3 h0_1_3 h0_1_3k w_28 h0_1_0 h0_1_0k h0_1_0c h0_1_0_e0 h0_1_0_e0_0 h0_1_0_e0_f1 h0_1_0_e0_2 h0_1_0_e0_0 h0_1_0_e0_0k h0_1_0_e0_0c h0_1_0_e0_2 h0_1_0_e0_2k w_29 h0_1_0_e1 h0_1_0_e1_0 h0_1_0_e1_f1 h0_1_0_e1_2 h0_1_0_e1_0 h0_1_0_e1_0k h0_1_0_e1_0c h0_1_0_e1_2 h0_1_0_e1_2k w_30 h0_1_0_e2 h0_1_0_e2_0 h0_1_0_e2_f1 h0_1_0_e2_2 h0_1_0_e2_0 h0_1_0_e2_0k h0_1_0_e2_0c h0_1_0_e2_2 h0_1_0_e2_2k w_31 h0_1_0_e3 h0_1_0_e3_0 h0_1_0_e3_f1 h0_1_0_e3_2 h0_1_0_e3_0 h0_1_0_e3_0k h0_1_0_e3_0c h0_1_0_e3_2 h0_1_0_e3_2k w_32) H := hP
              have hD : va_D A (wd_c_X10_tallyUp h0 h0_0 h0_1 h0_2 h0_3 h0_4 h0_5 h0_4 h0_4k j22_h0_4c h0_0 h0_0_0 h0_0_f1 h0_0_f2 h0_0_f3 h0_0_0 h0_0_0k h0_0_0c h0_2 h0_2k (upd j35_h0_2c (j35_l3 : Int32).toNatClampNeg 0) h0_3 h0_3k j22_h0_3c h1 h1_f0 h1_f1 h1_f2 h1_f3 h1_4 h1_5 h1_6 h1_7 h1_8 h1_9 h1_10 h1_11 h1_12 h1_10 h1_10k h1_10c h1_11 h1_11k h1_11c h1_12 h1_12k h1_12c h1_4 h1_4k h1_4c h1_5 h1_5k h1_5c h0_1 h0_1_0 h0_1_f1 h0_1_f2 h0_1_3 h0_1_3 h0_1_3k w_28 h0_1_0 h0_1_0k h0_1_0c h0_1_0_e0 h0_1_0_e0_0 h0_1_0_e0_f1 h0_1_0_e0_2 h0_1_0_e0_0 h0_1_0_e0_0k h0_1_0_e0_0c h0_1_0_e0_2 h0_1_0_e0_2k w_29 h0_1_0_e1 h0_1_0_e1_0 h0_1_0_e1_f1 h0_1_0_e1_2 h0_1_0_e1_0 h0_1_0_e1_0k h0_1_0_e1_0c h0_1_0_e1_2 h0_1_0_e1_2k w_30 h0_1_0_e2 h0_1_0_e2_0 h0_1_0_e2_f1 h0_1_0_e2_2 h0_1_0_e2_0 h0_1_0_e2_0k h0_1_0_e2_0c h0_1_0_e2_2 h0_1_0_e2_2k w_31 h0_1_0_e3 h0_1_0_e3_0 h0_1_0_e3_f1 h0_1_0_e3_2 h0_1_0_e3_0 h0_1_0_e3_0k h0_1_0_e3_0c h0_1_0_e3_2 h0_1_0_e3_2k w_32) := hD
              have l_44 : (upd j35_h0_2c (j35_l3 : Int32).toNatClampNeg 0) (j35_l3 : Int32).toNatClampNeg = 0 := pk_us
              generalize (upd j35_h0_2c (j35_l3 : Int32).toNatClampNeg 0) = w_43 at hP hD l_44
              have hP : va_P (dC, dI) vwCl (wd_c_X10_tallyUp h0 h0_0 h0_1 h0_2 h0_3 h0_4 h0_5 h0_4 h0_4k j22_h0_4c h0_0 h0_0_0 h0_0_f1 h0_0_f2 h0_0_f3 h0_0_0 h0_0_0k h0_0_0c h0_2 h0_2k w_43 h0_3 h0_3k j22_h0_3c h1 h1_f0 h1_f1 h1_f2 h1_f3 h1_4 h1_5 h1_6 h1_7 h1_8 h1_9 h1_10 h1_11 h1_12 h1_10 h1_10k h1_10c h1_11 h1_11k h1_11c h1_12 h1_12k h1_12c h1_4 h1_4k h1_4c h1_5 h1_5k h1_5c h0_1 h0_1_0 h0_1_f1 h0_1_f2 h0_1_3 h0_1_3 h0_1_3k w_28 h0_1_0 h0_1_0k h0_1_0c h0_1_0_e0 h0_1_0_e0_0 h0_1_0_e0_f1 h0_1_0_e0_2 h0_1_0_e0_0 h0_1_0_e0_0k h0_1_0_e0_0c h0_1_0_e0_2 h0_1_0_e0_2k w_29 h0_1_0_e1 h0_1_0_e1_0 h0_1_0_e1_f1 h0_1_0_e1_2 h0_1_0_e1_0 h0_1_0_e1_0k h0_1_0_e1_0c h0_1_0_e1_2 h0_1_0_e1_2k w_30 h0_1_0_e2 h0_1_0_e2_0 h0_1_0_e2_f1 h0_1_0_e2_2 h0_1_0_e2_0 h0_1_0_e2_0k h0_1_0_e2_0c h0_1_0_e2_2 h0_1_0_e2_2k w_31 h0_1_0_e3 h0_1_0_e3_0 h0_1_0_e3_f1 h0_1_0_e3_2 h0_1_0_e3_0 h0_1_0_e3_0k h0_1_0_e3_0c h0_1_0_e3_2 h0_1_0_e3_2k w_32) H := hP
              have hD : va_D A (wd_c_X10_tallyUp h0 h0_0 h0_1 h0_2 h0_3 h0_4 h0_5 h0_4 h0_4k j22_h0_4c h0_0 h0_0_0 h0_0_f1 h0_0_f2 h0_0_f3 h0_0_0 h0_0_0k h0_0_0c h0_2 h0_2k w_43 h0_3 h0_3k j22_h0_3c h1 h1_f0 h1_f1 h1_f2 h1_f3 h1_4 h1_5 h1_6 h1_7 h1_8 h1_9 h1_10 h1_11 h1_12 h1_10 h1_10k h1_10c h1_11 h1_11k h1_11c h1_12 h1_12k h1_12c h1_4 h1_4k h1_4c h1_5 h1_5k h1_5c h0_1 h0_1_0 h0_1_f1 h0_1_f2 h0_1_3 h0_1_3 h0_1_3k w_28 h0_1_0 h0_1_0k h0_1_0c h0_1_0_e0 h0_1_0_e0_0 h0_1_0_e0_f1 h0_1_0_e0_2 h0_1_0_e0_0 h0_1_0_e0_0k h0_1_0_e0_0c h0_1_0_e0_2 h0_1_0_e0_2k w_29 h0_1_0_e1 h0_1_0_e1_0 h0_1_0_e1_f1 h0_1_0_e1_2 h0_1_0_e1_0 h0_1_0_e1_0k h0_1_0_e1_0c h0_1_0_e1_2 h0_1_0_e1_2k w_30 h0_1_0_e2 h0_1_0_e2_0 h0_1_0_e2_f1 h0_1_0_e2_2 h0_1_0_e2_0 h0_1_0_e2_0k h0_1_0_e2_0c h0_1_0_e2_2 h0_1_0_e2_2k w_31 h0_1_0_e3 h0_1_0_e3_0 h0_1_0_e3_f1 h0_1_0_e3_2 h0_1_0_e3_0 h0_1_0_e3_0k h0_1_0_e3_0c h0_1_0_e3_2 h0_1_0_e3_2k w_32) := hD
              obtain ⟨x_45, ex_45⟩ : ∃ y : Int32, y = j35_l3 + 1 := ⟨_, rfl⟩
              have g_46 : RG x_45 1 3 := RG_add ex_45 g_25 (RG_k 1 1 rfl) (by decide +kernel)
              refine lv_iinc (v := x_45) (lv' := [(3, .int x_45), (2, .int j22_l2), (0, .ref h0), (1, .ref h1)]) hx hb dX10_tallyUp_59 hl (k := 0) rfl (by rw [ex_45]; rfl) (Nat.le_of_ble_eq_true rfl) rfl (fun ls hl => ?_)
              refine lv_goto (tgt := 35) hx hb dX10_tallyUp_62 rfl ?_
              exact hU _ _ _ (ih35 x_45 w_43 w_28 w_29 w_30 w_31 w_32 (mu_s (MU_add ex_45 g_25 (q := 1) rfl (by decide +kernel)) hM35) g_h0_0_f1 (RG_w g_26 (by decide +kernel)) g_h0_0_f3 g_h0_1_0_e0_f1 g_h0_1_0_e1_f1 g_h0_1_0_e2_f1 g_h0_1_0_e3_f1 (RG_w h_34 (by decide +kernel)) g_j22_l2 (RG_w g_46 (by decide +kernel)) _ _ _ hP hD hS (lv_sub hl [0, 1, 2, 3] rfl))
            · refine va_iast hx hb hK hP hD hS 4 2 rfl rfl (RG_in g_25 (by decide +kernel)) dX10_tallyUp_58 (fun H locs hP hD hS => ?_)
              have hP : va_P (dC, dI) vwCl (wd_c_X10_tallyUp h0 h0_0 h0_1 h0_2 h0_3 h0_4 h0_5 h0_4 h0_4k j22_h0_4c h0_0 h0_0_0 h0_0_f1 h0_0_f2 h0_0_f3 h0_0_0 h0_0_0k h0_0_0c h0_2 h0_2k (upd j35_h0_2c (j35_l3 : Int32).toNatClampNeg r_27) h0_3 h0_3k j22_h0_3c h1 h1_f0 h1_f1 h1_f2 h1_f3 h1_4 h1_5 h1_6 h1_7 h1_8 h1_9 h1_10 h1_11 h1_12 h1_10 h1_10k h1_10c h1_11 h1_11k h1_11c h1_12 h1_12k h1_12c h1_4 h1_4k h1_4c h1_5 h1_5k h1_5c h0_1 h0_1_0 h0_1_f1 h0_1_f2 h0_1_3 h0_1_3 h0_1_3k w_28 h0_1_0 h0_1_0k h0_1_0c h0_1_0_e0 h0_1_0_e0_0 h0_1_0_e0_f1 h0_1_0_e0_2 h0_1_0_e0_0 h0_1_0_e0_0k h0_1_0_e0_0c h0_1_0_e0_2 h0_1_0_e0_2k w_29 h0_1_0_e1 h0_1_0_e1_0 h0_1_0_e1_f1 h0_1_0_e1_2 h0_1_0_e1_0 h0_1_0_e1_0k h0_1_0_e1_0c h0_1_0_e1_2 h0_1_0_e1_2k w_30 h0_1_0_e2 h0_1_0_e2_0 h0_1_0_e2_f1 h0_1_0_e2_2 h0_1_0_e2_0 h0_1_0_e2_0k h0_1_0_e2_0c h0_1_0_e2_2 h0_1_0_e2_2k w_31 h0_1_0_e3 h0_1_0_e3_0 h0_1_0_e3_f1 h0_1_0_e3_2 h0_1_0_e3_0 h0_1_0_e3_0k h0_1_0_e3_0c h0_1_0_e3_2 h0_1_0_e3_2k w_32) H := hP
              have hD : va_D A (wd_c_X10_tallyUp h0 h0_0 h0_1 h0_2 h0_3 h0_4 h0_5 h0_4 h0_4k j22_h0_4c h0_0 h0_0_0 h0_0_f1 h0_0_f2 h0_0_f3 h0_0_0 h0_0_0k h0_0_0c h0_2 h0_2k (upd j35_h0_2c (j35_l3 : Int32).toNatClampNeg r_27) h0_3 h0_3k j22_h0_3c h1 h1_f0 h1_f1 h1_f2 h1_f3 h1_4 h1_5 h1_6 h1_7 h1_8 h1_9 h1_10 h1_11 h1_12 h1_10 h1_10k h1_10c h1_11 h1_11k h1_11c h1_12 h1_12k h1_12c h1_4 h1_4k h1_4c h1_5 h1_5k h1_5c h0_1 h0_1_0 h0_1_f1 h0_1_f2 h0_1_3 h0_1_3 h0_1_3k w_28 h0_1_0 h0_1_0k h0_1_0c h0_1_0_e0 h0_1_0_e0_0 h0_1_0_e0_f1 h0_1_0_e0_2 h0_1_0_e0_0 h0_1_0_e0_0k h0_1_0_e0_0c h0_1_0_e0_2 h0_1_0_e0_2k w_29 h0_1_0_e1 h0_1_0_e1_0 h0_1_0_e1_f1 h0_1_0_e1_2 h0_1_0_e1_0 h0_1_0_e1_0k h0_1_0_e1_0c h0_1_0_e1_2 h0_1_0_e1_2k w_30 h0_1_0_e2 h0_1_0_e2_0 h0_1_0_e2_f1 h0_1_0_e2_2 h0_1_0_e2_0 h0_1_0_e2_0k h0_1_0_e2_0c h0_1_0_e2_2 h0_1_0_e2_2k w_31 h0_1_0_e3 h0_1_0_e3_0 h0_1_0_e3_f1 h0_1_0_e3_2 h0_1_0_e3_0 h0_1_0_e3_0k h0_1_0_e3_0c h0_1_0_e3_2 h0_1_0_e3_2k w_32) := hD
              have l_48 : (upd j35_h0_2c (j35_l3 : Int32).toNatClampNeg r_27) (j35_l3 : Int32).toNatClampNeg = r_27 := pk_us
              generalize (upd j35_h0_2c (j35_l3 : Int32).toNatClampNeg r_27) = w_47 at hP hD l_48
              have hP : va_P (dC, dI) vwCl (wd_c_X10_tallyUp h0 h0_0 h0_1 h0_2 h0_3 h0_4 h0_5 h0_4 h0_4k j22_h0_4c h0_0 h0_0_0 h0_0_f1 h0_0_f2 h0_0_f3 h0_0_0 h0_0_0k h0_0_0c h0_2 h0_2k w_47 h0_3 h0_3k j22_h0_3c h1 h1_f0 h1_f1 h1_f2 h1_f3 h1_4 h1_5 h1_6 h1_7 h1_8 h1_9 h1_10 h1_11 h1_12 h1_10 h1_10k h1_10c h1_11 h1_11k h1_11c h1_12 h1_12k h1_12c h1_4 h1_4k h1_4c h1_5 h1_5k h1_5c h0_1 h0_1_0 h0_1_f1 h0_1_f2 h0_1_3 h0_1_3 h0_1_3k w_28 h0_1_0 h0_1_0k h0_1_0c h0_1_0_e0 h0_1_0_e0_0 h0_1_0_e0_f1 h0_1_0_e0_2 h0_1_0_e0_0 h0_1_0_e0_0k h0_1_0_e0_0c h0_1_0_e0_2 h0_1_0_e0_2k w_29 h0_1_0_e1 h0_1_0_e1_0 h0_1_0_e1_f1 h0_1_0_e1_2 h0_1_0_e1_0 h0_1_0_e1_0k h0_1_0_e1_0c h0_1_0_e1_2 h0_1_0_e1_2k w_30 h0_1_0_e2 h0_1_0_e2_0 h0_1_0_e2_f1 h0_1_0_e2_2 h0_1_0_e2_0 h0_1_0_e2_0k h0_1_0_e2_0c h0_1_0_e2_2 h0_1_0_e2_2k w_31 h0_1_0_e3 h0_1_0_e3_0 h0_1_0_e3_f1 h0_1_0_e3_2 h0_1_0_e3_0 h0_1_0_e3_0k h0_1_0_e3_0c h0_1_0_e3_2 h0_1_0_e3_2k w_32) H := hP
              have hD : va_D A (wd_c_X10_tallyUp h0 h0_0 h0_1 h0_2 h0_3 h0_4 h0_5 h0_4 h0_4k j22_h0_4c h0_0 h0_0_0 h0_0_f1 h0_0_f2 h0_0_f3 h0_0_0 h0_0_0k h0_0_0c h0_2 h0_2k w_47 h0_3 h0_3k j22_h0_3c h1 h1_f0 h1_f1 h1_f2 h1_f3 h1_4 h1_5 h1_6 h1_7 h1_8 h1_9 h1_10 h1_11 h1_12 h1_10 h1_10k h1_10c h1_11 h1_11k h1_11c h1_12 h1_12k h1_12c h1_4 h1_4k h1_4c h1_5 h1_5k h1_5c h0_1 h0_1_0 h0_1_f1 h0_1_f2 h0_1_3 h0_1_3 h0_1_3k w_28 h0_1_0 h0_1_0k h0_1_0c h0_1_0_e0 h0_1_0_e0_0 h0_1_0_e0_f1 h0_1_0_e0_2 h0_1_0_e0_0 h0_1_0_e0_0k h0_1_0_e0_0c h0_1_0_e0_2 h0_1_0_e0_2k w_29 h0_1_0_e1 h0_1_0_e1_0 h0_1_0_e1_f1 h0_1_0_e1_2 h0_1_0_e1_0 h0_1_0_e1_0k h0_1_0_e1_0c h0_1_0_e1_2 h0_1_0_e1_2k w_30 h0_1_0_e2 h0_1_0_e2_0 h0_1_0_e2_f1 h0_1_0_e2_2 h0_1_0_e2_0 h0_1_0_e2_0k h0_1_0_e2_0c h0_1_0_e2_2 h0_1_0_e2_2k w_31 h0_1_0_e3 h0_1_0_e3_0 h0_1_0_e3_f1 h0_1_0_e3_2 h0_1_0_e3_0 h0_1_0_e3_0k h0_1_0_e3_0c h0_1_0_e3_2 h0_1_0_e3_2k w_32) := hD
              obtain ⟨x_49, ex_49⟩ : ∃ y : Int32, y = j35_l3 + 1 := ⟨_, rfl⟩
              have g_50 : RG x_49 1 3 := RG_add ex_49 g_25 (RG_k 1 1 rfl) (by decide +kernel)
              refine lv_iinc (v := x_49) (lv' := [(3, .int x_49), (2, .int j22_l2), (0, .ref h0), (1, .ref h1)]) hx hb dX10_tallyUp_59 hl (k := 0) rfl (by rw [ex_49]; rfl) (Nat.le_of_ble_eq_true rfl) rfl (fun ls hl => ?_)
              as_aux_lemma =>
              refine lv_goto (tgt := 35) hx hb dX10_tallyUp_62 rfl ?_
              exact hU _ _ _ (ih35 x_49 w_47 w_28 w_29 w_30 w_31 w_32 (mu_s (MU_add ex_49 g_25 (q := 1) rfl (by decide +kernel)) hM35) g_h0_0_f1 (RG_w g_26 (by decide +kernel)) g_h0_0_f3 g_h0_1_0_e0_f1 g_h0_1_0_e1_f1 g_h0_1_0_e2_f1 g_h0_1_0_e3_f1 g_h0_1_f1 g_j22_l2 (RG_w g_50 (by decide +kernel)) _ _ _ hP hD hS (lv_sub hl [0, 1, 2, 3] rfl))
            · rw [h_37]
              refine va_iast hx hb hK hP hD hS 4 2 rfl rfl (RG_in g_25 (by decide +kernel)) dX10_tallyUp_58 (fun H locs hP hD hS => ?_)
              have hP : va_P (dC, dI) vwCl (wd_c_X10_tallyUp h0 h0_0 h0_1 h0_2 h0_3 h0_4 h0_5 h0_4 h0_4k j22_h0_4c h0_0 h0_0_0 h0_0_f1 h0_0_f2 h0_0_f3 h0_0_0 h0_0_0k h0_0_0c h0_2 h0_2k (upd j35_h0_2c (j35_l3 : Int32).toNatClampNeg (-99)) h0_3 h0_3k j22_h0_3c h1 h1_f0 h1_f1 h1_f2 h1_f3 h1_4 h1_5 h1_6 h1_7 h1_8 h1_9 h1_10 h1_11 h1_12 h1_10 h1_10k h1_10c h1_11 h1_11k h1_11c h1_12 h1_12k h1_12c h1_4 h1_4k h1_4c h1_5 h1_5k h1_5c h0_1 h0_1_0 h0_1_f1 h0_1_f2 h0_1_3 h0_1_3 h0_1_3k w_28 h0_1_0 h0_1_0k h0_1_0c h0_1_0_e0 h0_1_0_e0_0 h0_1_0_e0_f1 h0_1_0_e0_2 h0_1_0_e0_0 h0_1_0_e0_0k h0_1_0_e0_0c h0_1_0_e0_2 h0_1_0_e0_2k w_29 h0_1_0_e1 h0_1_0_e1_0 h0_1_0_e1_f1 h0_1_0_e1_2 h0_1_0_e1_0 h0_1_0_e1_0k h0_1_0_e1_0c h0_1_0_e1_2 h0_1_0_e1_2k w_30 h0_1_0_e2 h0_1_0_e2_0 h0_1_0_e2_f1 h0_1_0_e2_2 h0_1_0_e2_0 h0_1_0_e2_0k h0_1_0_e2_0c h0_1_0_e2_2 h0_1_0_e2_2k w_31 h0_1_0_e3 h0_1_0_e3_0 h0_1_0_e3_f1 h0_1_0_e3_2 h0_1_0_e3_0 h0_1_0_e3_0k h0_1_0_e3_0c h0_1_0_e3_2 h0_1_0_e3_2k w_32) H := hP
              have hD : va_D A (wd_c_X10_tallyUp h0 h0_0 h0_1 h0_2 h0_3 h0_4 h0_5 h0_4 h0_4k j22_h0_4c h0_0 h0_0_0 h0_0_f1 h0_0_f2 h0_0_f3 h0_0_0 h0_0_0k h0_0_0c h0_2 h0_2k (upd j35_h0_2c (j35_l3 : Int32).toNatClampNeg (-99)) h0_3 h0_3k j22_h0_3c h1 h1_f0 h1_f1 h1_f2 h1_f3 h1_4 h1_5 h1_6 h1_7 h1_8 h1_9 h1_10 h1_11 h1_12 h1_10 h1_10k h1_10c h1_11 h1_11k h1_11c h1_12 h1_12k h1_12c h1_4 h1_4k h1_4c h1_5 h1_5k h1_5c h0_1 h0_1_0 h0_1_f1 h0_1_f2 h0_1_3 h0_1_3 h0_1_3k w_28 h0_1_0 h0_1_0k h0_1_0c h0_1_0_e0 h0_1_0_e0_0 h0_1_0_e0_f1 h0_1_0_e0_2 h0_1_0_e0_0 h0_1_0_e0_0k h0_1_0_e0_0c h0_1_0_e0_2 h0_1_0_e0_2k w_29 h0_1_0_e1 h0_1_0_e1_0 h0_1_0_e1_f1 h0_1_0_e1_2 h0_1_0_e1_0 h0_1_0_e1_0k h0_1_0_e1_0c h0_1_0_e1_2 h0_1_0_e1_2k w_30 h0_1_0_e2 h0_1_0_e2_0 h0_1_0_e2_f1 h0_1_0_e2_2 h0_1_0_e2_0 h0_1_0_e2_0k h0_1_0_e2_0c h0_1_0_e2_2 h0_1_0_e2_2k w_31 h0_1_0_e3 h0_1_0_e3_0 h0_1_0_e3_f1 h0_1_0_e3_2 h0_1_0_e3_0 h0_1_0_e3_0k h0_1_0_e3_0c h0_1_0_e3_2 h0_1_0_e3_2k w_32) := hD
              have l_52 : (upd j35_h0_2c (j35_l3 : Int32).toNatClampNeg (-99)) (j35_l3 : Int32).toNatClampNeg = (-99) := pk_us
              generalize (upd j35_h0_2c (j35_l3 : Int32).toNatClampNeg (-99)) = w_51 at hP hD l_52
              have hP : va_P (dC, dI) vwCl (wd_c_X10_tallyUp h0 h0_0 h0_1 h0_2 h0_3 h0_4 h0_5 h0_4 h0_4k j22_h0_4c h0_0 h0_0_0 h0_0_f1 h0_0_f2 h0_0_f3 h0_0_0 h0_0_0k h0_0_0c h0_2 h0_2k w_51 h0_3 h0_3k j22_h0_3c h1 h1_f0 h1_f1 h1_f2 h1_f3 h1_4 h1_5 h1_6 h1_7 h1_8 h1_9 h1_10 h1_11 h1_12 h1_10 h1_10k h1_10c h1_11 h1_11k h1_11c h1_12 h1_12k h1_12c h1_4 h1_4k h1_4c h1_5 h1_5k h1_5c h0_1 h0_1_0 h0_1_f1 h0_1_f2 h0_1_3 h0_1_3 h0_1_3k w_28 h0_1_0 h0_1_0k h0_1_0c h0_1_0_e0 h0_1_0_e0_0 h0_1_0_e0_f1 h0_1_0_e0_2 h0_1_0_e0_0 h0_1_0_e0_0k h0_1_0_e0_0c h0_1_0_e0_2 h0_1_0_e0_2k w_29 h0_1_0_e1 h0_1_0_e1_0 h0_1_0_e1_f1 h0_1_0_e1_2 h0_1_0_e1_0 h0_1_0_e1_0k h0_1_0_e1_0c h0_1_0_e1_2 h0_1_0_e1_2k w_30 h0_1_0_e2 h0_1_0_e2_0 h0_1_0_e2_f1 h0_1_0_e2_2 h0_1_0_e2_0 h0_1_0_e2_0k h0_1_0_e2_0c h0_1_0_e2_2 h0_1_0_e2_2k w_31 h0_1_0_e3 h0_1_0_e3_0 h0_1_0_e3_f1 h0_1_0_e3_2 h0_1_0_e3_0 h0_1_0_e3_0k h0_1_0_e3_0c h0_1_0_e3_2 h0_1_0_e3_2k w_32) H := hP
              have hD : va_D A (wd_c_X10_tallyUp h0 h0_0 h0_1 h0_2 h0_3 h0_4 h0_5 h0_4 h0_4k j22_h0_4c h0_0 h0_0_0 h0_0_f1 h0_0_f2 h0_0_f3 h0_0_0 h0_0_0k h0_0_0c h0_2 h0_2k w_51 h0_3 h0_3k j22_h0_3c h1 h1_f0 h1_f1 h1_f2 h1_f3 h1_4 h1_5 h1_6 h1_7 h1_8 h1_9 h1_10 h1_11 h1_12 h1_10 h1_10k h1_10c h1_11 h1_11k h1_11c h1_12 h1_12k h1_12c h1_4 h1_4k h1_4c h1_5 h1_5k h1_5c h0_1 h0_1_0 h0_1_f1 h0_1_f2 h0_1_3 h0_1_3 h0_1_3k w_28 h0_1_0 h0_1_0k h0_1_0c h0_1_0_e0 h0_1_0_e0_0 h0_1_0_e0_f1 h0_1_0_e0_2 h0_1_0_e0_0 h0_1_0_e0_0k h0_1_0_e0_0c h0_1_0_e0_2 h0_1_0_e0_2k w_29 h0_1_0_e1 h0_1_0_e1_0 h0_1_0_e1_f1 h0_1_0_e1_2 h0_1_0_e1_0 h0_1_0_e1_0k h0_1_0_e1_0c h0_1_0_e1_2 h0_1_0_e1_2k w_30 h0_1_0_e2 h0_1_0_e2_0 h0_1_0_e2_f1 h0_1_0_e2_2 h0_1_0_e2_0 h0_1_0_e2_0k h0_1_0_e2_0c h0_1_0_e2_2 h0_1_0_e2_2k w_31 h0_1_0_e3 h0_1_0_e3_0 h0_1_0_e3_f1 h0_1_0_e3_2 h0_1_0_e3_0 h0_1_0_e3_0k h0_1_0_e3_0c h0_1_0_e3_2 h0_1_0_e3_2k w_32) := hD
              obtain ⟨x_53, ex_53⟩ : ∃ y : Int32, y = j35_l3 + 1 := ⟨_, rfl⟩
              have g_54 : RG x_53 1 3 := RG_add ex_53 g_25 (RG_k 1 1 rfl) (by decide +kernel)
              refine lv_iinc (v := x_53) (lv' := [(3, .int x_53), (2, .int j22_l2), (0, .ref h0), (1, .ref h1)]) hx hb dX10_tallyUp_59 hl (k := 0) rfl (by rw [ex_53]; rfl) (Nat.le_of_ble_eq_true rfl) rfl (fun ls hl => ?_)
              refine lv_goto (tgt := 35) hx hb dX10_tallyUp_62 rfl ?_
              as_aux_lemma =>
              exact hU _ _ _ (ih35 x_53 w_51 w_28 w_29 w_30 w_31 w_32 (mu_s (MU_add ex_53 g_25 (q := 1) rfl (by decide +kernel)) hM35) g_h0_0_f1 (RG_w g_26 (by decide +kernel)) g_h0_0_f3 g_h0_1_0_e0_f1 g_h0_1_0_e1_f1 g_h0_1_0_e2_f1 g_h0_1_0_e3_f1 (RG_w h_38 (by decide +kernel)) g_j22_l2 (RG_w g_54 (by decide +kernel)) _ _ _ hP hD hS (lv_sub hl [0, 1, 2, 3] rfl))
            · rw [h_40]
              refine va_iast hx hb hK hP hD hS 4 2 rfl rfl (RG_in g_25 (by decide +kernel)) dX10_tallyUp_58 (fun H locs hP hD hS => ?_)
              have hP : va_P (dC, dI) vwCl (wd_c_X10_tallyUp h0 h0_0 h0_1 h0_2 h0_3 h0_4 h0_5 h0_4 h0_4k j22_h0_4c h0_0 h0_0_0 h0_0_f1 h0_0_f2 h0_0_f3 h0_0_0 h0_0_0k h0_0_0c h0_2 h0_2k (upd j35_h0_2c (j35_l3 : Int32).toNatClampNeg 99) h0_3 h0_3k j22_h0_3c h1 h1_f0 h1_f1 h1_f2 h1_f3 h1_4 h1_5 h1_6 h1_7 h1_8 h1_9 h1_10 h1_11 h1_12 h1_10 h1_10k h1_10c h1_11 h1_11k h1_11c h1_12 h1_12k h1_12c h1_4 h1_4k h1_4c h1_5 h1_5k h1_5c h0_1 h0_1_0 h0_1_f1 h0_1_f2 h0_1_3 h0_1_3 h0_1_3k w_28 h0_1_0 h0_1_0k h0_1_0c h0_1_0_e0 h0_1_0_e0_0 h0_1_0_e0_f1 h0_1_0_e0_2 h0_1_0_e0_0 h0_1_0_e0_0k h0_1_0_e0_0c h0_1_0_e0_2 h0_1_0_e0_2k w_29 h0_1_0_e1 h0_1_0_e1_0 h0_1_0_e1_f1 h0_1_0_e1_2 h0_1_0_e1_0 h0_1_0_e1_0k h0_1_0_e1_0c h0_1_0_e1_2 h0_1_0_e1_2k w_30 h0_1_0_e2 h0_1_0_e2_0 h0_1_0_e2_f1 h0_1_0_e2_2 h0_1_0_e2_0 h0_1_0_e2_0k h0_1_0_e2_0c h0_1_0_e2_2 h0_1_0_e2_2k w_31 h0_1_0_e3 h0_1_0_e3_0 h0_1_0_e3_f1 h0_1_0_e3_2 h0_1_0_e3_0 h0_1_0_e3_0k h0_1_0_e3_0c h0_1_0_e3_2 h0_1_0_e3_2k w_32) H := hP
              have hD : va_D A (wd_c_X10_tallyUp h0 h0_0 h0_1 h0_2 h0_3 h0_4 h0_5 h0_4 h0_4k j22_h0_4c h0_0 h0_0_0 h0_0_f1 h0_0_f2 h0_0_f3 h0_0_0 h0_0_0k h0_0_0c h0_2 h0_2k (upd j35_h0_2c (j35_l3 : Int32).toNatClampNeg 99) h0_3 h0_3k j22_h0_3c h1 h1_f0 h1_f1 h1_f2 h1_f3 h1_4 h1_5 h1_6 h1_7 h1_8 h1_9 h1_10 h1_11 h1_12 h1_10 h1_10k h1_10c h1_11 h1_11k h1_11c h1_12 h1_12k h1_12c h1_4 h1_4k h1_4c h1_5 h1_5k h1_5c h0_1 h0_1_0 h0_1_f1 h0_1_f2 h0_1_3 h0_1_3 h0_1_3k w_28 h0_1_0 h0_1_0k h0_1_0c h0_1_0_e0 h0_1_0_e0_0 h0_1_0_e0_f1 h0_1_0_e0_2 h0_1_0_e0_0 h0_1_0_e0_0k h0_1_0_e0_0c h0_1_0_e0_2 h0_1_0_e0_2k w_29 h0_1_0_e1 h0_1_0_e1_0 h0_1_0_e1_f1 h0_1_0_e1_2 h0_1_0_e1_0 h0_1_0_e1_0k h0_1_0_e1_0c h0_1_0_e1_2 h0_1_0_e1_2k w_30 h0_1_0_e2 h0_1_0_e2_0 h0_1_0_e2_f1 h0_1_0_e2_2 h0_1_0_e2_0 h0_1_0_e2_0k h0_1_0_e2_0c h0_1_0_e2_2 h0_1_0_e2_2k w_31 h0_1_0_e3 h0_1_0_e3_0 h0_1_0_e3_f1 h0_1_0_e3_2 h0_1_0_e3_0 h0_1_0_e3_0k h0_1_0_e3_0c h0_1_0_e3_2 h0_1_0_e3_2k w_32) := hD
              have l_56 : (upd j35_h0_2c (j35_l3 : Int32).toNatClampNeg 99) (j35_l3 : Int32).toNatClampNeg = 99 := pk_us
              generalize (upd j35_h0_2c (j35_l3 : Int32).toNatClampNeg 99) = w_55 at hP hD l_56
              have hP : va_P (dC, dI) vwCl (wd_c_X10_tallyUp h0 h0_0 h0_1 h0_2 h0_3 h0_4 h0_5 h0_4 h0_4k j22_h0_4c h0_0 h0_0_0 h0_0_f1 h0_0_f2 h0_0_f3 h0_0_0 h0_0_0k h0_0_0c h0_2 h0_2k w_55 h0_3 h0_3k j22_h0_3c h1 h1_f0 h1_f1 h1_f2 h1_f3 h1_4 h1_5 h1_6 h1_7 h1_8 h1_9 h1_10 h1_11 h1_12 h1_10 h1_10k h1_10c h1_11 h1_11k h1_11c h1_12 h1_12k h1_12c h1_4 h1_4k h1_4c h1_5 h1_5k h1_5c h0_1 h0_1_0 h0_1_f1 h0_1_f2 h0_1_3 h0_1_3 h0_1_3k w_28 h0_1_0 h0_1_0k h0_1_0c h0_1_0_e0 h0_1_0_e0_0 h0_1_0_e0_f1 h0_1_0_e0_2 h0_1_0_e0_0 h0_1_0_e0_0k h0_1_0_e0_0c h0_1_0_e0_2 h0_1_0_e0_2k w_29 h0_1_0_e1 h0_1_0_e1_0 h0_1_0_e1_f1 h0_1_0_e1_2 h0_1_0_e1_0 h0_1_0_e1_0k h0_1_0_e1_0c h0_1_0_e1_2 h0_1_0_e1_2k w_30 h0_1_0_e2 h0_1_0_e2_0 h0_1_0_e2_f1 h0_1_0_e2_2 h0_1_0_e2_0 h0_1_0_e2_0k h0_1_0_e2_0c h0_1_0_e2_2 h0_1_0_e2_2k w_31 h0_1_0_e3 h0_1_0_e3_0 h0_1_0_e3_f1 h0_1_0_e3_2 h0_1_0_e3_0 h0_1_0_e3_0k h0_1_0_e3_0c h0_1_0_e3_2 h0_1_0_e3_2k w_32) H := hP
              have hD : va_D A (wd_c_X10_tallyUp h0 h0_0 h0_1 h0_2 h0_3 h0_4 h0_5 h0_4 h0_4k j22_h0_4c h0_0 h0_0_0 h0_0_f1 h0_0_f2 h0_0_f3 h0_0_0 h0_0_0k h0_0_0c h0_2 h0_2k w_55 h0_3 h0_3k j22_h0_3c h1 h1_f0 h1_f1 h1_f2 h1_f3 h1_4 h1_5 h1_6 h1_7 h1_8 h1_9 h1_10 h1_11 h1_12 h1_10 h1_10k h1_10c h1_11 h1_11k h1_11c h1_12 h1_12k h1_12c h1_4 h1_4k h1_4c h1_5 h1_5k h1_5c h0_1 h0_1_0 h0_1_f1 h0_1_f2 h0_1_3 h0_1_3 h0_1_3k w_28 h0_1_0 h0_1_0k h0_1_0c h0_1_0_e0 h0_1_0_e0_0 h0_1_0_e0_f1 h0_1_0_e0_2 h0_1_0_e0_0 h0_1_0_e0_0k h0_1_0_e0_0c h0_1_0_e0_2 h0_1_0_e0_2k w_29 h0_1_0_e1 h0_1_0_e1_0 h0_1_0_e1_f1 h0_1_0_e1_2 h0_1_0_e1_0 h0_1_0_e1_0k h0_1_0_e1_0c h0_1_0_e1_2 h0_1_0_e1_2k w_30 h0_1_0_e2 h0_1_0_e2_0 h0_1_0_e2_f1 h0_1_0_e2_2 h0_1_0_e2_0 h0_1_0_e2_0k h0_1_0_e2_0c h0_1_0_e2_2 h0_1_0_e2_2k w_31 h0_1_0_e3 h0_1_0_e3_0 h0_1_0_e3_f1 h0_1_0_e3_2 h0_1_0_e3_0 h0_1_0_e3_0k h0_1_0_e3_0c h0_1_0_e3_2 h0_1_0_e3_2k w_32) := hD
              obtain ⟨x_57, ex_57⟩ : ∃ y : Int32, y = j35_l3 + 1 := ⟨_, rfl⟩
              have g_58 : RG x_57 1 3 := RG_add ex_57 g_25 (RG_k 1 1 rfl) (by decide +kernel)
              refine lv_iinc (v := x_57) (lv' := [(3, .int x_57), (2, .int j22_l2), (0, .ref h0), (1, .ref h1)]) hx hb dX10_tallyUp_59 hl (k := 0) rfl (by rw [ex_57]; rfl) (Nat.le_of_ble_eq_true rfl) rfl (fun ls hl => ?_)
              refine lv_goto (tgt := 35) hx hb dX10_tallyUp_62 rfl ?_
              exact hU _ _ _ (ih35 x_57 w_55 w_28 w_29 w_30 w_31 w_32 (mu_s (MU_add ex_57 g_25 (q := 1) rfl (by decide +kernel)) hM35) g_h0_0_f1 (RG_w g_26 (by decide +kernel)) g_h0_0_f3 g_h0_1_0_e0_f1 g_h0_1_0_e1_f1 g_h0_1_0_e2_f1 g_h0_1_0_e3_f1 (RG_w h_41 (by decide +kernel)) g_j22_l2 (RG_w g_58 (by decide +kernel)) _ _ _ hP hD hS (lv_sub hl [0, 1, 2, 3] rfl))
      refine hG _ _ _ ?_
      as_aux_lemma =>
      refine lv_iload_n hx hb dX10_tallyUp_22 rfl (lv_at hl 0 rfl) ?_
      refine lv_aload_n hx hb dX10_tallyUp_23 rfl (lv_at hl 1 rfl) ?_
      refine va_get (D := (dC, dI)) (ci := 10) (v := .ref h0_0) (C := RX10) (T := TX10) (N := 6) hx hb hts iw_c_X10_tallyUp_X10 hown hK hP 0 rfl rfl 0 (by decide +kernel) (hts (.fieldLink RX10 9 "BuoyVote$Waters" "told" "LBuoyVote$Borough;") (List.mem_of_getElem? (i := 2) rfl)) (fun _ h9 => h9) rfl dX10_tallyUp_24 ?_
      refine va_get (D := (dC, dI)) (ci := 0) (v := .int h0_0_f1) (C := RX0) (T := TX0) (N := 4) hx hb hts iw_c_X10_tallyUp_X0 hown hK hP 2 rfl rfl 1 (by decide +kernel) (hts (.fieldLink RX10 105 "BuoyVote$Borough" "buoys" "I") (List.mem_of_getElem? (i := 3) rfl)) (fun _ h9 => h9) rfl dX10_tallyUp_27 ?_
      refine lv_icmp_ge (tgt := 114) hx hb dX10_tallyUp_30 rfl (fun c_59 => ?_) (fun c_59 => ?_)
      · have hK9 := hK.sub (tys' := []) [] rfl
        exact W.vret hx hb hr (fun t ht hW => ⟨⟨(j22_h0_4c, j22_h0_2c, j22_h0_3c, j22_h0_1_3c, j22_h0_1_0_e0_2c, j22_h0_1_0_e1_2c, j22_h0_1_0_e2_2c, j22_h0_1_0_e3_2c), rfl, a_j22_h0_3c, by rw [ht]; exact hP, va_K.moved hW.alike hK9, hD⟩, hS.F ht⟩) hS.2.2 dX10_tallyUp_114
      · have d_60 := Int32.not_le.mp c_59
        have g_61 : RG j22_l2 0 7 := RG_lt1 g_j22_l2 g_h0_0_f1 d_60 (by decide +kernel)
        have g_62 : RG h0_0_f1 1 8 := RG_lt2 g_j22_l2 g_h0_0_f1 d_60 (by decide +kernel)
        refine lv_iconst (v := 0) hx hb dX10_tallyUp_33 kc_iconst_0 ?_
        refine lv_istore_n (lv' := [(3, .int 0), (2, .int j22_l2), (0, .ref h0), (1, .ref h1)]) hx hb dX10_tallyUp_34 rfl hl (Nat.le_of_ble_eq_true rfl) rfl (fun ls hl => ?_)
        exact hU _ _ _ (J35 _ 0 j22_h0_2c j22_h0_1_3c j22_h0_1_0_e0_2c j22_h0_1_0_e1_2c j22_h0_1_0_e2_2c j22_h0_1_0_e3_2c (Nat.lt_succ_self _) g_62 g_h0_0_f2 g_h0_0_f3 g_h0_1_0_e0_f1 g_h0_1_0_e1_f1 g_h0_1_0_e2_f1 g_h0_1_0_e3_f1 g_h0_1_f1 g_61 (RG_w (RG_k 0 0 rfl) (by decide +kernel)) _ _ _ hP hD hS (lv_sub hl [0, 1, 2, 3] rfl))
  have J2 : ∀ (n2 : Nat) (j2_l2 : Int32) (j2_h0_4c : Nat → Int32) (hM2 : MU j2_l2 < n2) (g_h0_0_f1 : RG h0_0_f1 0 8) (g_h0_0_f2 : RG h0_0_f2 0 3) (g_h0_0_f3 : RG h0_0_f3 0 1) (g_h0_1_0_e0_f1 : RG h0_1_0_e0_f1 0 240) (g_h0_1_0_e1_f1 : RG h0_1_0_e1_f1 0 240) (g_h0_1_0_e2_f1 : RG h0_1_0_e2_f1 0 240) (g_h0_1_0_e3_f1 : RG h0_1_0_e3_f1 0 240) (g_h0_1_f1 : RG h0_1_f1 0 4) (g_j2_l2 : RG j2_l2 0 3) (H : Heap) (locs : List Loc) (ls : Array Slot) (hP : va_P (dC, dI) vwCl (wd_c_X10_tallyUp h0 h0_0 h0_1 h0_2 h0_3 h0_4 h0_5 h0_4 h0_4k j2_h0_4c h0_0 h0_0_0 h0_0_f1 h0_0_f2 h0_0_f3 h0_0_0 h0_0_0k h0_0_0c h0_2 h0_2k h0_2c h0_3 h0_3k h0_3c h1 h1_f0 h1_f1 h1_f2 h1_f3 h1_4 h1_5 h1_6 h1_7 h1_8 h1_9 h1_10 h1_11 h1_12 h1_10 h1_10k h1_10c h1_11 h1_11k h1_11c h1_12 h1_12k h1_12c h1_4 h1_4k h1_4c h1_5 h1_5k h1_5c h0_1 h0_1_0 h0_1_f1 h0_1_f2 h0_1_3 h0_1_3 h0_1_3k h0_1_3c h0_1_0 h0_1_0k h0_1_0c h0_1_0_e0 h0_1_0_e0_0 h0_1_0_e0_f1 h0_1_0_e0_2 h0_1_0_e0_0 h0_1_0_e0_0k h0_1_0_e0_0c h0_1_0_e0_2 h0_1_0_e0_2k h0_1_0_e0_2c h0_1_0_e1 h0_1_0_e1_0 h0_1_0_e1_f1 h0_1_0_e1_2 h0_1_0_e1_0 h0_1_0_e1_0k h0_1_0_e1_0c h0_1_0_e1_2 h0_1_0_e1_2k h0_1_0_e1_2c h0_1_0_e2 h0_1_0_e2_0 h0_1_0_e2_f1 h0_1_0_e2_2 h0_1_0_e2_0 h0_1_0_e2_0k h0_1_0_e2_0c h0_1_0_e2_2 h0_1_0_e2_2k h0_1_0_e2_2c h0_1_0_e3 h0_1_0_e3_0 h0_1_0_e3_f1 h0_1_0_e3_2 h0_1_0_e3_0 h0_1_0_e3_0k h0_1_0_e3_0c h0_1_0_e3_2 h0_1_0_e3_2k h0_1_0_e3_2c) H) (hD : va_D A (wd_c_X10_tallyUp h0 h0_0 h0_1 h0_2 h0_3 h0_4 h0_5 h0_4 h0_4k j2_h0_4c h0_0 h0_0_0 h0_0_f1 h0_0_f2 h0_0_f3 h0_0_0 h0_0_0k h0_0_0c h0_2 h0_2k h0_2c h0_3 h0_3k h0_3c h1 h1_f0 h1_f1 h1_f2 h1_f3 h1_4 h1_5 h1_6 h1_7 h1_8 h1_9 h1_10 h1_11 h1_12 h1_10 h1_10k h1_10c h1_11 h1_11k h1_11c h1_12 h1_12k h1_12c h1_4 h1_4k h1_4c h1_5 h1_5k h1_5c h0_1 h0_1_0 h0_1_f1 h0_1_f2 h0_1_3 h0_1_3 h0_1_3k h0_1_3c h0_1_0 h0_1_0k h0_1_0c h0_1_0_e0 h0_1_0_e0_0 h0_1_0_e0_f1 h0_1_0_e0_2 h0_1_0_e0_0 h0_1_0_e0_0k h0_1_0_e0_0c h0_1_0_e0_2 h0_1_0_e0_2k h0_1_0_e0_2c h0_1_0_e1 h0_1_0_e1_0 h0_1_0_e1_f1 h0_1_0_e1_2 h0_1_0_e1_0 h0_1_0_e1_0k h0_1_0_e1_0c h0_1_0_e1_2 h0_1_0_e1_2k h0_1_0_e1_2c h0_1_0_e2 h0_1_0_e2_0 h0_1_0_e2_f1 h0_1_0_e2_2 h0_1_0_e2_0 h0_1_0_e2_0k h0_1_0_e2_0c h0_1_0_e2_2 h0_1_0_e2_2k h0_1_0_e2_2c h0_1_0_e3 h0_1_0_e3_0 h0_1_0_e3_f1 h0_1_0_e3_2 h0_1_0_e3_0 h0_1_0_e3_0k h0_1_0_e3_0c h0_1_0_e3_2 h0_1_0_e3_2k h0_1_0_e3_2c)) (hS : va_S A s.heap H locs) (hl : lv_has ls 4 [(2, .int j2_l2), (0, .ref h0), (1, .ref h1)]), G H locs (F0 m 2 ls []) := by
    as_aux_lemma =>
    intro n2
    induction n2 with
    | zero => intros; exact absurd (by assumption) (Nat.not_lt_zero _)
    | succ n2 ih2 =>
      intro j2_l2 j2_h0_4c hM2 g_h0_0_f1 g_h0_0_f2 g_h0_0_f3 g_h0_1_0_e0_f1 g_h0_1_0_e1_f1 g_h0_1_0_e2_f1 g_h0_1_0_e3_f1 g_h0_1_f1 g_j2_l2 H locs ls hP hD hS hl
      refine hG _ _ _ ?_
      refine lv_iload_n hx hb dX10_tallyUp_2 rfl (lv_at hl 0 rfl) ?_
      refine lv_iconst (v := 3) hx hb dX10_tallyUp_3 kc_iconst_3 ?_
      refine lv_icmp_ge (tgt := 20) hx hb dX10_tallyUp_4 rfl (fun c_63 => ?_) (fun c_63 => ?_)
      · have g_64 : RG j2_l2 3 3 := RG_le2 (RG_k 3 3 rfl) g_j2_l2 c_63 (by decide +kernel)
        refine lv_iconst (v := 0) hx hb dX10_tallyUp_20 kc_iconst_0 ?_
        refine lv_istore_n (lv' := [(2, .int 0), (0, .ref h0), (1, .ref h1)]) hx hb dX10_tallyUp_21 rfl hl (Nat.le_of_ble_eq_true rfl) rfl (fun ls hl => ?_)
        exact hU _ _ _ (J22 _ 0 j2_h0_4c h0_2c h0_3c h0_1_3c h0_1_0_e0_2c h0_1_0_e1_2c h0_1_0_e2_2c h0_1_0_e3_2c (Nat.lt_succ_self _) g_h0_0_f1 g_h0_0_f2 g_h0_0_f3 g_h0_1_0_e0_f1 g_h0_1_0_e1_f1 g_h0_1_0_e2_f1 g_h0_1_0_e3_f1 g_h0_1_f1 (RG_w (RG_k 0 0 rfl) (by decide +kernel)) a_h0_3c _ _ _ hP hD hS (lv_sub hl [0, 1, 2] rfl))
      · have d_65 := Int32.not_le.mp c_63
        have g_66 : RG j2_l2 0 2 := RG_lt1 g_j2_l2 (RG_k 3 3 rfl) d_65 (by decide +kernel)
        refine lv_aload_n hx hb dX10_tallyUp_7 rfl (lv_at hl 1 rfl) ?_
        as_aux_lemma =>
        refine va_get (D := (dC, dI)) (ci := 10) (v := .ref h0_4) (C := RX10) (T := TX10) (N := 6) hx hb hts iw_c_X10_tallyUp_X10 hown hK hP 0 rfl rfl 4 (by decide +kernel) (hts (.fieldLink RX10 26 "BuoyVote$Waters" "tally" "[I") (List.mem_of_getElem? (i := 1) rfl)) (fun _ h9 => h9) rfl dX10_tallyUp_8 ?_
        refine lv_iload_n hx hb dX10_tallyUp_11 rfl (lv_at hl 0 rfl) ?_
        refine lv_iconst (v := 0) hx hb dX10_tallyUp_12 kc_iconst_0 ?_
        refine va_iast hx hb hK hP hD hS 1 0 rfl rfl (RG_in g_66 (by decide +kernel)) dX10_tallyUp_13 (fun H locs hP hD hS => ?_)
        have hP : va_P (dC, dI) vwCl (wd_c_X10_tallyUp h0 h0_0 h0_1 h0_2 h0_3 h0_4 h0_5 h0_4 h0_4k (upd j2_h0_4c (j2_l2 : Int32).toNatClampNeg 0) h0_0 h0_0_0 h0_0_f1 h0_0_f2 h0_0_f3 h0_0_0 h0_0_0k h0_0_0c h0_2 h0_2k h0_2c h0_3 h0_3k h0_3c h1 h1_f0 h1_f1 h1_f2 h1_f3 h1_4 h1_5 h1_6 h1_7 h1_8 h1_9 h1_10 h1_11 h1_12 h1_10 h1_10k h1_10c h1_11 h1_11k h1_11c h1_12 h1_12k h1_12c h1_4 h1_4k h1_4c h1_5 h1_5k h1_5c h0_1 h0_1_0 h0_1_f1 h0_1_f2 h0_1_3 h0_1_3 h0_1_3k h0_1_3c h0_1_0 h0_1_0k h0_1_0c h0_1_0_e0 h0_1_0_e0_0 h0_1_0_e0_f1 h0_1_0_e0_2 h0_1_0_e0_0 h0_1_0_e0_0k h0_1_0_e0_0c h0_1_0_e0_2 h0_1_0_e0_2k h0_1_0_e0_2c h0_1_0_e1 h0_1_0_e1_0 h0_1_0_e1_f1 h0_1_0_e1_2 h0_1_0_e1_0 h0_1_0_e1_0k h0_1_0_e1_0c h0_1_0_e1_2 h0_1_0_e1_2k h0_1_0_e1_2c h0_1_0_e2 h0_1_0_e2_0 h0_1_0_e2_f1 h0_1_0_e2_2 h0_1_0_e2_0 h0_1_0_e2_0k h0_1_0_e2_0c h0_1_0_e2_2 h0_1_0_e2_2k h0_1_0_e2_2c h0_1_0_e3 h0_1_0_e3_0 h0_1_0_e3_f1 h0_1_0_e3_2 h0_1_0_e3_0 h0_1_0_e3_0k h0_1_0_e3_0c h0_1_0_e3_2 h0_1_0_e3_2k h0_1_0_e3_2c) H := hP
        have hD : va_D A (wd_c_X10_tallyUp h0 h0_0 h0_1 h0_2 h0_3 h0_4 h0_5 h0_4 h0_4k (upd j2_h0_4c (j2_l2 : Int32).toNatClampNeg 0) h0_0 h0_0_0 h0_0_f1 h0_0_f2 h0_0_f3 h0_0_0 h0_0_0k h0_0_0c h0_2 h0_2k h0_2c h0_3 h0_3k h0_3c h1 h1_f0 h1_f1 h1_f2 h1_f3 h1_4 h1_5 h1_6 h1_7 h1_8 h1_9 h1_10 h1_11 h1_12 h1_10 h1_10k h1_10c h1_11 h1_11k h1_11c h1_12 h1_12k h1_12c h1_4 h1_4k h1_4c h1_5 h1_5k h1_5c h0_1 h0_1_0 h0_1_f1 h0_1_f2 h0_1_3 h0_1_3 h0_1_3k h0_1_3c h0_1_0 h0_1_0k h0_1_0c h0_1_0_e0 h0_1_0_e0_0 h0_1_0_e0_f1 h0_1_0_e0_2 h0_1_0_e0_0 h0_1_0_e0_0k h0_1_0_e0_0c h0_1_0_e0_2 h0_1_0_e0_2k h0_1_0_e0_2c h0_1_0_e1 h0_1_0_e1_0 h0_1_0_e1_f1 h0_1_0_e1_2 h0_1_0_e1_0 h0_1_0_e1_0k h0_1_0_e1_0c h0_1_0_e1_2 h0_1_0_e1_2k h0_1_0_e1_2c h0_1_0_e2 h0_1_0_e2_0 h0_1_0_e2_f1 h0_1_0_e2_2 h0_1_0_e2_0 h0_1_0_e2_0k h0_1_0_e2_0c h0_1_0_e2_2 h0_1_0_e2_2k h0_1_0_e2_2c h0_1_0_e3 h0_1_0_e3_0 h0_1_0_e3_f1 h0_1_0_e3_2 h0_1_0_e3_0 h0_1_0_e3_0k h0_1_0_e3_0c h0_1_0_e3_2 h0_1_0_e3_2k h0_1_0_e3_2c) := hD
        have l_68 : (upd j2_h0_4c (j2_l2 : Int32).toNatClampNeg 0) (j2_l2 : Int32).toNatClampNeg = 0 := pk_us
        generalize (upd j2_h0_4c (j2_l2 : Int32).toNatClampNeg 0) = w_67 at hP hD l_68
        have hP : va_P (dC, dI) vwCl (wd_c_X10_tallyUp h0 h0_0 h0_1 h0_2 h0_3 h0_4 h0_5 h0_4 h0_4k w_67 h0_0 h0_0_0 h0_0_f1 h0_0_f2 h0_0_f3 h0_0_0 h0_0_0k h0_0_0c h0_2 h0_2k h0_2c h0_3 h0_3k h0_3c h1 h1_f0 h1_f1 h1_f2 h1_f3 h1_4 h1_5 h1_6 h1_7 h1_8 h1_9 h1_10 h1_11 h1_12 h1_10 h1_10k h1_10c h1_11 h1_11k h1_11c h1_12 h1_12k h1_12c h1_4 h1_4k h1_4c h1_5 h1_5k h1_5c h0_1 h0_1_0 h0_1_f1 h0_1_f2 h0_1_3 h0_1_3 h0_1_3k h0_1_3c h0_1_0 h0_1_0k h0_1_0c h0_1_0_e0 h0_1_0_e0_0 h0_1_0_e0_f1 h0_1_0_e0_2 h0_1_0_e0_0 h0_1_0_e0_0k h0_1_0_e0_0c h0_1_0_e0_2 h0_1_0_e0_2k h0_1_0_e0_2c h0_1_0_e1 h0_1_0_e1_0 h0_1_0_e1_f1 h0_1_0_e1_2 h0_1_0_e1_0 h0_1_0_e1_0k h0_1_0_e1_0c h0_1_0_e1_2 h0_1_0_e1_2k h0_1_0_e1_2c h0_1_0_e2 h0_1_0_e2_0 h0_1_0_e2_f1 h0_1_0_e2_2 h0_1_0_e2_0 h0_1_0_e2_0k h0_1_0_e2_0c h0_1_0_e2_2 h0_1_0_e2_2k h0_1_0_e2_2c h0_1_0_e3 h0_1_0_e3_0 h0_1_0_e3_f1 h0_1_0_e3_2 h0_1_0_e3_0 h0_1_0_e3_0k h0_1_0_e3_0c h0_1_0_e3_2 h0_1_0_e3_2k h0_1_0_e3_2c) H := hP
        have hD : va_D A (wd_c_X10_tallyUp h0 h0_0 h0_1 h0_2 h0_3 h0_4 h0_5 h0_4 h0_4k w_67 h0_0 h0_0_0 h0_0_f1 h0_0_f2 h0_0_f3 h0_0_0 h0_0_0k h0_0_0c h0_2 h0_2k h0_2c h0_3 h0_3k h0_3c h1 h1_f0 h1_f1 h1_f2 h1_f3 h1_4 h1_5 h1_6 h1_7 h1_8 h1_9 h1_10 h1_11 h1_12 h1_10 h1_10k h1_10c h1_11 h1_11k h1_11c h1_12 h1_12k h1_12c h1_4 h1_4k h1_4c h1_5 h1_5k h1_5c h0_1 h0_1_0 h0_1_f1 h0_1_f2 h0_1_3 h0_1_3 h0_1_3k h0_1_3c h0_1_0 h0_1_0k h0_1_0c h0_1_0_e0 h0_1_0_e0_0 h0_1_0_e0_f1 h0_1_0_e0_2 h0_1_0_e0_0 h0_1_0_e0_0k h0_1_0_e0_0c h0_1_0_e0_2 h0_1_0_e0_2k h0_1_0_e0_2c h0_1_0_e1 h0_1_0_e1_0 h0_1_0_e1_f1 h0_1_0_e1_2 h0_1_0_e1_0 h0_1_0_e1_0k h0_1_0_e1_0c h0_1_0_e1_2 h0_1_0_e1_2k h0_1_0_e1_2c h0_1_0_e2 h0_1_0_e2_0 h0_1_0_e2_f1 h0_1_0_e2_2 h0_1_0_e2_0 h0_1_0_e2_0k h0_1_0_e2_0c h0_1_0_e2_2 h0_1_0_e2_2k h0_1_0_e2_2c h0_1_0_e3 h0_1_0_e3_0 h0_1_0_e3_f1 h0_1_0_e3_2 h0_1_0_e3_0 h0_1_0_e3_0k h0_1_0_e3_0c h0_1_0_e3_2 h0_1_0_e3_2k h0_1_0_e3_2c) := hD
        obtain ⟨x_69, ex_69⟩ : ∃ y : Int32, y = j2_l2 + 1 := ⟨_, rfl⟩
        have g_70 : RG x_69 1 3 := RG_add ex_69 g_66 (RG_k 1 1 rfl) (by decide +kernel)
        refine lv_iinc (v := x_69) (lv' := [(2, .int x_69), (0, .ref h0), (1, .ref h1)]) hx hb dX10_tallyUp_14 hl (k := 0) rfl (by rw [ex_69]; rfl) (Nat.le_of_ble_eq_true rfl) rfl (fun ls hl => ?_)
        refine lv_goto (tgt := 2) hx hb dX10_tallyUp_17 rfl ?_
        as_aux_lemma =>
        exact hU _ _ _ (ih2 x_69 w_67 (mu_s (MU_add ex_69 g_66 (q := 1) rfl (by decide +kernel)) hM2) g_h0_0_f1 g_h0_0_f2 g_h0_0_f3 g_h0_1_0_e0_f1 g_h0_1_0_e1_f1 g_h0_1_0_e2_f1 g_h0_1_0_e3_f1 g_h0_1_f1 (RG_w g_70 (by decide +kernel)) _ _ _ hP hD hS (lv_sub hl [0, 1, 2] rfl))
  refine hG _ _ _ ?_
  refine lv_iconst (v := 0) hx hb dX10_tallyUp_0 kc_iconst_0 ?_
  refine lv_istore_n (lv' := [(2, .int 0), (0, .ref h0), (1, .ref h1)]) hx hb dX10_tallyUp_1 rfl hl (Nat.le_of_ble_eq_true rfl) rfl (fun ls hl => ?_)
  exact hU _ _ _ (J2 _ 0 h0_4c (Nat.lt_succ_self _) g_h0_0_f1 g_h0_0_f2 g_h0_0_f3 g_h0_1_0_e0_f1 g_h0_1_0_e1_f1 g_h0_1_0_e2_f1 g_h0_1_0_e3_f1 g_h0_1_f1 (RG_w (RG_k 0 0 rfl) (by decide +kernel)) _ _ _ hP hD hS (lv_sub hl [0, 1, 2] rfl))
noncomputable def wd_c_X10_winner (a0 : Nat) (a1 : Nat) (a2 : Nat) (a3 : Nat) (a4 : Nat) (a5 : Nat) (a6 : Nat) (a7 : Nat) (a8 : Nat) (a9 : Int32) (a10 : Int32) (a11 : Int32) (a12 : Nat) (a13 : ClassId) (a14 : Nat → Int32) : va_W := [(a0, .inr (10, [.ref a1, .ref a2, .ref a3, .ref a4, .ref a5, .ref a6])), (a7, .inr (0, [.ref a8, .int a9, .int a10, .int a11])), (a12, .inl (a13, 3, .inl a14))]
noncomputable def wf_c_X10_winner : List Cond := List.cons (.code yX10_winner cX10_winner 4 (some .int)) (@HAppend.hAppend (List Cond) (List Cond) (List Cond) _ (@HAppend.hAppend (List Cond) (List Cond) (List Cond) _ [.fieldLink RX10 9 "BuoyVote$Waters" "told" "LBuoyVote$Borough;", .fieldLink RX10 93 "BuoyVote$Borough" "boats" "I", .fieldLink RX10 26 "BuoyVote$Waters" "tally" "[I"] wsX100) wsX00)
theorem iw_c_X10_winner_X10 : ∀ w ∈ wsX100, w ∈ wf_c_X10_winner := fun w h => List.mem_cons_of_mem _ (List.mem_append_left _ (List.mem_append_right _ h))
theorem iw_c_X10_winner_X0 : ∀ w ∈ wsX00, w ∈ wf_c_X10_winner := fun w h => List.mem_cons_of_mem _ (List.mem_append_right _ h)
set_option maxHeartbeats 4000000 in
set_option maxRecDepth 100000 in
theorem c_X10_winner (l : Launch) (dC : Nat → ClassId) (dI : Nat → Nat → Nat) (sz : Nat) (h0 : Nat) (h0_0 : Nat) (h0_1 : Nat) (h0_2 : Nat) (h0_3 : Nat) (h0_4 : Nat) (h0_5 : Nat) (h0_0_0 : Nat) (h0_0_f1 : Int32) (h0_0_f2 : Int32) (h0_0_f3 : Int32) (h0_4k : ClassId) (h0_4c : Nat → Int32) (g_h0_0_f1 : RG h0_0_f1 0 8) (g_h0_0_f2 : RG h0_0_f2 0 3) (g_h0_0_f3 : RG h0_0_f3 0 1) : Met l yX10_winner wf_c_X10_winner ({ frames := 0, cells := 0, slots := 0, locals := 0 }) (va_Pc [.ref h0] (fun U => U.heap.size = sz ∧ va_P (dC, dI) vwCl (wd_c_X10_winner h0 h0_0 h0_1 h0_2 h0_3 h0_4 h0_5 h0_0 h0_0_0 h0_0_f1 h0_0_f2 h0_0_f3 h0_4 h0_4k h0_4c) U.heap ∧ va_K (dC, dI) vwCl [(h0_4k, .int)] U ∧ va_D (fun _ => True) (wd_c_X10_winner h0 h0_0 h0_1 h0_2 h0_3 h0_4 h0_5 h0_0 h0_0_0 h0_0_f1 h0_0_f2 h0_0_f3 h0_4 h0_4k h0_4c))) (va_Qi (fun (r : Int32) (u : Unit) => (RG r (-1) 2)) (fun (u : Unit) t => va_P (dC, dI) vwCl (wd_c_X10_winner h0 h0_0 h0_1 h0_2 h0_3 h0_4 h0_5 h0_0 h0_0_0 h0_0_f1 h0_0_f2 h0_0_f3 h0_4 h0_4k h0_4c) t.heap ∧ va_K (dC, dI) vwCl [] t ∧ va_D (va_A (wd_c_X10_winner h0 h0_0 h0_1 h0_2 h0_3 h0_4 h0_5 h0_0 h0_0_0 h0_0_f1 h0_0_f2 h0_0_f3 h0_4 h0_4k h0_4c) sz) (wd_c_X10_winner h0 h0_0 h0_1 h0_2 h0_3 h0_4 h0_5 h0_0 h0_0_0 h0_0_f1 h0_0_f2 h0_0_f3 h0_4 h0_4k h0_4c)) (va_A (wd_c_X10_winner h0 h0_0 h0_1 h0_2 h0_3 h0_4 h0_5 h0_0 h0_0_0 h0_0_f1 h0_0_f2 h0_0_f3 h0_4 h0_4k h0_4c) sz)) 0 0 (va_A (wd_c_X10_winner h0 h0_0 h0_1 h0_2 h0_3 h0_4 h0_5 h0_0 h0_0_0 h0_0_f1 h0_0_f2 h0_0_f3 h0_4 h0_4k h0_4c) sz) := by
  refine Met.ofW (cc := cX10_winner) (maxL := 4) (ret := (some .int)) (by decide +kernel) rfl ?_
  intro p e s m args below meth c s₁ B hml hv
  obtain ⟨rfl, hsz, hP, hK, hD0⟩ := hv
  have hx := B.exec
  have hb := B.bytes
  have hr := B.returns
  have hts := atoms_spec (ws := wf_c_X10_winner) B.pre
  have hown : s.vm.findClass RX10 = some m.cls := findClass_of_methodNamed B.named
  have hlocks := B.notSynchronized
  subst hsz
  have hD := hD0.self (sz := s.heap.size)
  generalize hAe : va_A (wd_c_X10_winner h0 h0_0 h0_1 h0_2 h0_3 h0_4 h0_5 h0_0 h0_0_0 h0_0_f1 h0_0_f2 h0_0_f3 h0_4 h0_4k h0_4c) s.heap.size = A at hD ⊢
  have hA : ∀ q : Nat, s.heap.size ≤ q → A q := fun q h => by rw [← hAe]; exact Or.inr h
  have hP : va_P (dC, dI) vwCl (wd_c_X10_winner h0 h0_0 h0_1 h0_2 h0_3 h0_4 h0_5 h0_0 h0_0_0 h0_0_f1 h0_0_f2 h0_0_f3 h0_4 h0_4k h0_4c) s.heap := hP
  have hl := lv_entry ([.ref h0]) (n := 4) (Nat.le_of_ble_eq_true rfl)
  rw [lg_entry_eq]
  generalize (lg_sl ([.ref h0]) ++ List.replicate (4 - (lg_sl ([.ref h0])).length) Slot.unset).toArray = ls at hl ⊢
  have hl : lv_has ls 4 [(0, .ref h0)] := hl
  obtain ⟨H, hHe⟩ : ∃ H : Heap, s.heap = H := ⟨_, rfl⟩
  have hS : va_S A s.heap H [] := by rw [hHe]; exact va_S.rf
  have hP : va_P (dC, dI) vwCl (wd_c_X10_winner h0 h0_0 h0_1 h0_2 h0_3 h0_4 h0_5 h0_0 h0_0_0 h0_0_f1 h0_0_f2 h0_0_f3 h0_4 h0_4k h0_4c) H := by rw [← hHe]; exact hP
  rw [hHe]
  refine wj (fun G hG hU => ?_)
  as_aux_lemma =>
  have J6 : ∀ (n6 : Nat) (j6_l3 : Int32) (j6_l2 : Int32) (j6_l1 : Int32) (hM6 : MU j6_l3 < n6) (g_h0_0_f1 : RG h0_0_f1 0 8) (g_h0_0_f2 : RG h0_0_f2 0 3) (g_h0_0_f3 : RG h0_0_f3 0 1) (g_j6_l1 : RG j6_l1 0 2147483647) (g_j6_l2 : RG j6_l2 (-1) 2) (g_j6_l3 : RG j6_l3 0 3) (H : Heap) (locs : List Loc) (ls : Array Slot) (hP : va_P (dC, dI) vwCl (wd_c_X10_winner h0 h0_0 h0_1 h0_2 h0_3 h0_4 h0_5 h0_0 h0_0_0 h0_0_f1 h0_0_f2 h0_0_f3 h0_4 h0_4k h0_4c) H) (hD : va_D A (wd_c_X10_winner h0 h0_0 h0_1 h0_2 h0_3 h0_4 h0_5 h0_0 h0_0_0 h0_0_f1 h0_0_f2 h0_0_f3 h0_4 h0_4k h0_4c)) (hS : va_S A s.heap H locs) (hl : lv_has ls 4 [(3, .int j6_l3), (2, .int j6_l2), (1, .int j6_l1), (0, .ref h0)]), G H locs (F0 m 6 ls []) := by
    as_aux_lemma =>
    intro n6
    induction n6 with
    | zero => intros; exact absurd (by assumption) (Nat.not_lt_zero _)
    | succ n6 ih6 =>
      intro j6_l3 j6_l2 j6_l1 hM6 g_h0_0_f1 g_h0_0_f2 g_h0_0_f3 g_j6_l1 g_j6_l2 g_j6_l3 H locs ls hP hD hS hl
      have J51 : ∀ (j51_l2 : Int32) (j51_l1 : Int32) (g_h0_0_f1 : RG h0_0_f1 0 8) (g_h0_0_f2 : RG h0_0_f2 1 3) (g_h0_0_f3 : RG h0_0_f3 0 1) (g_j51_l1 : RG j51_l1 0 2147483647) (g_j51_l2 : RG j51_l2 (-1) 2) (g_j6_l1 : RG j6_l1 0 2147483647) (g_j6_l2 : RG j6_l2 (-1) 2) (g_j6_l3 : RG j6_l3 0 2) (H : Heap) (locs : List Loc) (ls : Array Slot) (hP : va_P (dC, dI) vwCl (wd_c_X10_winner h0 h0_0 h0_1 h0_2 h0_3 h0_4 h0_5 h0_0 h0_0_0 h0_0_f1 h0_0_f2 h0_0_f3 h0_4 h0_4k h0_4c) H) (hD : va_D A (wd_c_X10_winner h0 h0_0 h0_1 h0_2 h0_3 h0_4 h0_5 h0_0 h0_0_0 h0_0_f1 h0_0_f2 h0_0_f3 h0_4 h0_4k h0_4c)) (hS : va_S A s.heap H locs) (hl : lv_has ls 4 [(3, .int j6_l3), (2, .int j51_l2), (1, .int j51_l1), (0, .ref h0)]), G H locs (F0 m 51 ls []) := by
        as_aux_lemma =>
        intro j51_l2 j51_l1 g_h0_0_f1 g_h0_0_f2 g_h0_0_f3 g_j51_l1 g_j51_l2 g_j6_l1 g_j6_l2 g_j6_l3 H locs ls hP hD hS hl
        refine hG _ _ _ ?_
        obtain ⟨x_1, ex_1⟩ : ∃ y : Int32, y = j6_l3 + 1 := ⟨_, rfl⟩
        have g_2 : RG x_1 1 3 := RG_add ex_1 g_j6_l3 (RG_k 1 1 rfl) (by decide +kernel)
        refine lv_iinc (v := x_1) (lv' := [(3, .int x_1), (2, .int j51_l2), (1, .int j51_l1), (0, .ref h0)]) hx hb dX10_winner_51 hl (k := 0) rfl (by rw [ex_1]; rfl) (Nat.le_of_ble_eq_true rfl) rfl (fun ls hl => ?_)
        refine lv_goto (tgt := 6) hx hb dX10_winner_54 rfl ?_
        exact hU _ _ _ (ih6 x_1 j51_l2 j51_l1 (mu_s (MU_add ex_1 g_j6_l3 (q := 1) rfl (by decide +kernel)) hM6) g_h0_0_f1 (RG_w g_h0_0_f2 (by decide +kernel)) g_h0_0_f3 g_j51_l1 g_j51_l2 (RG_w g_2 (by decide +kernel)) _ _ _ hP hD hS (lv_sub hl [0, 1, 2, 3] rfl))
      refine hG _ _ _ ?_
      refine lv_iload_n hx hb dX10_winner_6 rfl (lv_at hl 0 rfl) ?_
      refine lv_aload_n hx hb dX10_winner_7 rfl (lv_at hl 3 rfl) ?_
      refine va_get (D := (dC, dI)) (ci := 10) (v := .ref h0_0) (C := RX10) (T := TX10) (N := 6) hx hb hts iw_c_X10_winner_X10 hown hK hP 0 rfl rfl 0 (by decide +kernel) (hts (.fieldLink RX10 9 "BuoyVote$Waters" "told" "LBuoyVote$Borough;") (List.mem_of_getElem? (i := 1) rfl)) (fun _ h9 => h9) rfl dX10_winner_8 ?_
      refine va_get (D := (dC, dI)) (ci := 0) (v := .int h0_0_f2) (C := RX0) (T := TX0) (N := 4) hx hb hts iw_c_X10_winner_X0 hown hK hP 1 rfl rfl 2 (by decide +kernel) (hts (.fieldLink RX10 93 "BuoyVote$Borough" "boats" "I") (List.mem_of_getElem? (i := 2) rfl)) (fun _ h9 => h9) rfl dX10_winner_11 ?_
      refine lv_icmp_ge (tgt := 57) hx hb dX10_winner_14 rfl (fun c_3 => ?_) (fun c_3 => ?_)
      · refine lv_iload_n hx hb dX10_winner_57 rfl (lv_at hl 1 rfl) ?_
        have hK9 := hK.sub (tys' := []) [] rfl
        exact W.iret (v := j6_l2) hx hb hr (fun t ht hW => ⟨⟨j6_l2, (), rfl, g_j6_l2, by rw [ht]; exact hP, va_K.moved hW.alike hK9, hD⟩, hS.F ht⟩) hS.2.2 dX10_winner_58
      · have d_4 := Int32.not_le.mp c_3
        have g_5 : RG j6_l3 0 2 := RG_lt1 g_j6_l3 g_h0_0_f2 d_4 (by decide +kernel)
        have g_6 : RG h0_0_f2 1 3 := RG_lt2 g_j6_l3 g_h0_0_f2 d_4 (by decide +kernel)
        refine lv_aload_n hx hb dX10_winner_17 rfl (lv_at hl 3 rfl) ?_
        as_aux_lemma =>
        refine va_get (D := (dC, dI)) (ci := 10) (v := .ref h0_4) (C := RX10) (T := TX10) (N := 6) hx hb hts iw_c_X10_winner_X10 hown hK hP 0 rfl rfl 4 (by decide +kernel) (hts (.fieldLink RX10 26 "BuoyVote$Waters" "tally" "[I") (List.mem_of_getElem? (i := 3) rfl)) (fun _ h9 => h9) rfl dX10_winner_18 ?_
        refine lv_iload_n hx hb dX10_winner_21 rfl (lv_at hl 0 rfl) ?_
        refine va_iald hx hb hK hP 2 0 rfl rfl (RG_in g_5 (by decide +kernel)) dX10_winner_22 ?_
        refine lv_topi (fun x_7 ex_7 => ?_)
        refine lv_iload_n hx hb dX10_winner_23 rfl (lv_at hl 2 rfl) ?_
        refine lv_icmp_le (tgt := 39) hx hb dX10_winner_24 rfl (fun c_8 => ?_) (fun c_8 => ?_)
        · refine lv_aload_n hx hb dX10_winner_39 rfl (lv_at hl 3 rfl) ?_
          refine va_get (D := (dC, dI)) (ci := 10) (v := .ref h0_4) (C := RX10) (T := TX10) (N := 6) hx hb hts iw_c_X10_winner_X10 hown hK hP 0 rfl rfl 4 (by decide +kernel) (hts (.fieldLink RX10 26 "BuoyVote$Waters" "tally" "[I") (List.mem_of_getElem? (i := 3) rfl)) (fun _ h9 => h9) rfl dX10_winner_40 ?_
          refine lv_iload_n hx hb dX10_winner_43 rfl (lv_at hl 0 rfl) ?_
          refine va_iald hx hb hK hP 2 0 rfl rfl (RG_in g_5 (by decide +kernel)) dX10_winner_44 ?_
          refine lv_topi (fun x_9 ex_9 => ?_)
          obtain rfl : x_7 = x_9 := (ex_9.trans ex_7.symm).symm
          refine lv_iload_n hx hb dX10_winner_45 rfl (lv_at hl 2 rfl) ?_
          refine lv_icmp_ne (tgt := 51) hx hb dX10_winner_46 rfl (fun c_10 => ?_) (fun c_10 => ?_)
          · exact hU _ _ _ (J51 j6_l2 j6_l1 g_h0_0_f1 g_6 g_h0_0_f3 g_j6_l1 g_j6_l2 g_j6_l1 g_j6_l2 g_5 _ _ _ hP hD hS (lv_sub hl [0, 1, 2, 3] rfl))
          · have g_11 : RG x_7 0 2147483647 := RG_eq1 (RG_any x_7) g_j6_l1 c_10 (by decide +kernel)
            refine lv_iconst (v := (-1)) hx hb dX10_winner_49 kc_iconst_m1 ?_
            as_aux_lemma =>
            refine lv_istore_n (lv' := [(2, .int (-1)), (3, .int j6_l3), (1, .int j6_l1), (0, .ref h0)]) hx hb dX10_winner_50 rfl hl (Nat.le_of_ble_eq_true rfl) rfl (fun ls hl => ?_)
            exact hU _ _ _ (J51 (-1) j6_l1 g_h0_0_f1 g_6 g_h0_0_f3 g_j6_l1 (RG_w (RG_k (-1) (-1) rfl) (by decide +kernel)) g_j6_l1 g_j6_l2 g_5 _ _ _ hP hD hS (lv_sub hl [1, 0, 2, 3] rfl))
        · have d_12 := Int32.not_le.mp c_8
          have g_13 : RG j6_l1 0 2147483646 := RG_lt1 g_j6_l1 (RG_any x_7) d_12 (by decide +kernel)
          have g_14 : RG x_7 1 2147483647 := RG_lt2 g_j6_l1 (RG_any x_7) d_12 (by decide +kernel)
          refine lv_aload_n hx hb dX10_winner_27 rfl (lv_at hl 3 rfl) ?_
          refine va_get (D := (dC, dI)) (ci := 10) (v := .ref h0_4) (C := RX10) (T := TX10) (N := 6) hx hb hts iw_c_X10_winner_X10 hown hK hP 0 rfl rfl 4 (by decide +kernel) (hts (.fieldLink RX10 26 "BuoyVote$Waters" "tally" "[I") (List.mem_of_getElem? (i := 3) rfl)) (fun _ h9 => h9) rfl dX10_winner_28 ?_
          refine lv_iload_n hx hb dX10_winner_31 rfl (lv_at hl 0 rfl) ?_
          refine va_iald hx hb hK hP 2 0 rfl rfl (RG_in g_5 (by decide +kernel)) dX10_winner_32 ?_
          refine lv_topi (fun x_15 ex_15 => ?_)
          obtain rfl : x_7 = x_15 := (ex_15.trans ex_7.symm).symm
          refine lv_istore_n (lv' := [(1, .int x_7), (3, .int j6_l3), (2, .int j6_l2), (0, .ref h0)]) hx hb dX10_winner_33 rfl hl (Nat.le_of_ble_eq_true rfl) rfl (fun ls hl => ?_)
          refine lv_iload_n hx hb dX10_winner_34 rfl (lv_at hl 1 rfl) ?_
          refine lv_istore_n (lv' := [(2, .int j6_l3), (1, .int x_7), (3, .int j6_l3), (0, .ref h0)]) hx hb dX10_winner_35 rfl hl (Nat.le_of_ble_eq_true rfl) rfl (fun ls hl => ?_)
          as_aux_lemma =>
          refine lv_goto (tgt := 51) hx hb dX10_winner_36 rfl ?_
          exact hU _ _ _ (J51 j6_l3 x_7 g_h0_0_f1 g_6 g_h0_0_f3 (RG_w g_14 (by decide +kernel)) (RG_w g_5 (by decide +kernel)) (RG_w g_13 (by decide +kernel)) g_j6_l2 g_5 _ _ _ hP hD hS (lv_sub hl [2, 0, 1, 3] rfl))
  refine hG _ _ _ ?_
  refine lv_iconst (v := 0) hx hb dX10_winner_0 kc_iconst_0 ?_
  refine lv_istore_n (lv' := [(1, .int 0), (0, .ref h0)]) hx hb dX10_winner_1 rfl hl (Nat.le_of_ble_eq_true rfl) rfl (fun ls hl => ?_)
  refine lv_iconst (v := (-1)) hx hb dX10_winner_2 kc_iconst_m1 ?_
  refine lv_istore_n (lv' := [(2, .int (-1)), (1, .int 0), (0, .ref h0)]) hx hb dX10_winner_3 rfl hl (Nat.le_of_ble_eq_true rfl) rfl (fun ls hl => ?_)
  refine lv_iconst (v := 0) hx hb dX10_winner_4 kc_iconst_0 ?_
  refine lv_istore_n (lv' := [(3, .int 0), (2, .int (-1)), (1, .int 0), (0, .ref h0)]) hx hb dX10_winner_5 rfl hl (Nat.le_of_ble_eq_true rfl) rfl (fun ls hl => ?_)
  exact hU _ _ _ (J6 _ 0 (-1) 0 (Nat.lt_succ_self _) g_h0_0_f1 g_h0_0_f2 g_h0_0_f3 (RG_w (RG_k 0 0 rfl) (by decide +kernel)) (RG_w (RG_k (-1) (-1) rfl) (by decide +kernel)) (RG_w (RG_k 0 0 rfl) (by decide +kernel)) _ _ _ hP hD hS (lv_sub hl [0, 1, 2, 3] rfl))
noncomputable def wd_c_X10_holdCount (a0 : Nat) (a1 : Nat) (a2 : Nat) (a3 : Nat) (a4 : Nat) (a5 : Nat) (a6 : Nat) (a7 : Nat) (a8 : Nat) (a9 : Int32) (a10 : Int32) (a11 : Int32) (a12 : Nat) (a13 : ClassId) (a14 : Nat → Int32) (a15 : Nat) (a16 : Int32) (a17 : Int32) (a18 : Int32) (a19 : Int32) (a20 : Nat) (a21 : Nat) (a22 : Nat) (a23 : Nat) (a24 : Nat) (a25 : Nat) (a26 : Nat) (a27 : Nat) (a28 : Nat) (a29 : Nat) (a30 : ClassId) (a31 : Nat → Int32) (a32 : Nat) (a33 : ClassId) (a34 : Nat → Int32) (a35 : Nat) (a36 : ClassId) (a37 : Nat → Int32) (a38 : Nat) (a39 : ClassId) (a40 : Nat → Int32) : va_W := [(a0, .inr (10, [.ref a1, .ref a2, .ref a3, .ref a4, .ref a5, .ref a6])), (a7, .inr (0, [.ref a8, .int a9, .int a10, .int a11])), (a12, .inl (a13, 3, .inl a14)), (a15, .inr (7, [.int a16, .int a17, .int a18, .int a19, .ref a20, .ref a21, .ref a22, .ref a23, .ref a24, .ref a25, .ref a26, .ref a27, .ref a28])), (a29, .inl (a30, 3, .inl a31)), (a32, .inl (a33, 8, .inl a34)), (a35, .inl (a36, 8, .inl a37)), (a38, .inl (a39, 8, .inl a40))]
noncomputable def wf_c_X10_holdCount : List Cond := List.cons (.code yX10_holdCount cX10_holdCount 5 none) (@HAppend.hAppend (List Cond) (List Cond) (List Cond) _ (@HAppend.hAppend (List Cond) (List Cond) (List Cond) _ (@HAppend.hAppend (List Cond) (List Cond) (List Cond) _ [.methodLink RX10 133 yX10_winner, .instanceMethod yX10_winner, .selects RX10 yX10_winner yX10_winner, .initialized RX10, .code yX10_winner cX10_winner 4 (some .int), .fieldLink RX10 9 "BuoyVote$Waters" "told" "LBuoyVote$Borough;", .fieldLink RX10 93 "BuoyVote$Borough" "boats" "I", .fieldLink RX10 26 "BuoyVote$Waters" "tally" "[I", .fieldLink RX10 136 "BuoyVote$Sea" "won" "[I", .fieldLink RX10 105 "BuoyVote$Borough" "buoys" "I", .fieldLink RX10 23 "BuoyVote$Waters" "leans" "[I", .fieldLink RX10 70 "BuoyVote$Sea" "old" "[I", .fieldLink RX10 73 "BuoyVote$Sea" "barnacles" "[I", .methodLink RX10 139 Lib.Math.min.name, .static Lib.Math.min.name, .initialized "java/lang/Math", .code Lib.Math.min.name Lib.Math.min.code 2 (some .int)] wsX100) wsX00) wsX70)
theorem iw_c_X10_holdCount_X10 : ∀ w ∈ wsX100, w ∈ wf_c_X10_holdCount := fun w h => List.mem_cons_of_mem _ (List.mem_append_left _ (List.mem_append_left _ (List.mem_append_right _ h)))
theorem iw_c_X10_holdCount_X0 : ∀ w ∈ wsX00, w ∈ wf_c_X10_holdCount := fun w h => List.mem_cons_of_mem _ (List.mem_append_left _ (List.mem_append_right _ h))
theorem iw_c_X10_holdCount_X7 : ∀ w ∈ wsX70, w ∈ wf_c_X10_holdCount := fun w h => List.mem_cons_of_mem _ (List.mem_append_right _ h)
set_option maxRecDepth 20000 in
theorem gf_c_X10_holdCount_c_X10_winner : GoodIn wf_c_X10_holdCount (wsV RX10 133 RX10 yX10_winner wf_c_X10_winner) := goodIn_app (gi_l [1, 2, 3, 4] rfl rfl) (gi_cons (j := 5) rfl rfl (goodIn_app (goodIn_app (gi_l [6, 7, 8] rfl rfl) (goodIn_sub iw_c_X10_holdCount_X10 gw_X10)) (goodIn_sub iw_c_X10_holdCount_X0 gw_X0)))
set_option maxHeartbeats 4000000 in
set_option maxRecDepth 100000 in
theorem c_X10_holdCount (l : Launch) (dC : Nat → ClassId) (dI : Nat → Nat → Nat) (sz : Nat) (h0 : Nat) (h1 : Nat) (h0_0 : Nat) (h0_1 : Nat) (h0_2 : Nat) (h0_3 : Nat) (h0_4 : Nat) (h0_5 : Nat) (h0_0_0 : Nat) (h0_0_f1 : Int32) (h0_0_f2 : Int32) (h0_0_f3 : Int32) (h0_4k : ClassId) (h0_4c : Nat → Int32) (h1_f0 : Int32) (h1_f1 : Int32) (h1_f2 : Int32) (h1_f3 : Int32) (h1_4 : Nat) (h1_5 : Nat) (h1_6 : Nat) (h1_7 : Nat) (h1_8 : Nat) (h1_9 : Nat) (h1_10 : Nat) (h1_11 : Nat) (h1_12 : Nat) (h1_8k : ClassId) (h1_8c : Nat → Int32) (h0_3k : ClassId) (h0_3c : Nat → Int32) (h1_11k : ClassId) (h1_11c : Nat → Int32) (h1_12k : ClassId) (h1_12c : Nat → Int32) (g_h0_0_f1 : RG h0_0_f1 0 8) (g_h0_0_f2 : RG h0_0_f2 0 3) (g_h0_0_f3 : RG h0_0_f3 0 1) (a_h0_3c : AI h0_3c (-1) 2) : Met l yX10_holdCount wf_c_X10_holdCount ({ frames := 1, cells := 0, slots := 0, locals := 23 }) (va_Pc [.ref h0, .ref h1] (fun U => U.heap.size = sz ∧ va_P (dC, dI) vwCl (wd_c_X10_holdCount h0 h0_0 h0_1 h0_2 h0_3 h0_4 h0_5 h0_0 h0_0_0 h0_0_f1 h0_0_f2 h0_0_f3 h0_4 h0_4k h0_4c h1 h1_f0 h1_f1 h1_f2 h1_f3 h1_4 h1_5 h1_6 h1_7 h1_8 h1_9 h1_10 h1_11 h1_12 h1_8 h1_8k h1_8c h0_3 h0_3k h0_3c h1_11 h1_11k h1_11c h1_12 h1_12k h1_12c) U.heap ∧ va_K (dC, dI) vwCl [(h0_4k, .int), (h1_8k, .int), (h0_3k, .int), (h1_11k, .int), (h1_12k, .int)] U ∧ va_D (fun _ => True) (wd_c_X10_holdCount h0 h0_0 h0_1 h0_2 h0_3 h0_4 h0_5 h0_0 h0_0_0 h0_0_f1 h0_0_f2 h0_0_f3 h0_4 h0_4k h0_4c h1 h1_f0 h1_f1 h1_f2 h1_f3 h1_4 h1_5 h1_6 h1_7 h1_8 h1_9 h1_10 h1_11 h1_12 h1_8 h1_8k h1_8c h0_3 h0_3k h0_3c h1_11 h1_11k h1_11c h1_12 h1_12k h1_12c))) (va_Qv (fun (u : (Nat → Int32) × (Nat → Int32) × (Nat → Int32)) => (True)) (fun (u : (Nat → Int32) × (Nat → Int32) × (Nat → Int32)) t => va_P (dC, dI) vwCl (wd_c_X10_holdCount h0 h0_0 h0_1 h0_2 h0_3 h0_4 h0_5 h0_0 h0_0_0 h0_0_f1 h0_0_f2 h0_0_f3 h0_4 h0_4k h0_4c h1 h1_f0 h1_f1 h1_f2 h1_f3 h1_4 h1_5 h1_6 h1_7 h1_8 h1_9 h1_10 h1_11 h1_12 h1_8 h1_8k (u.1) h0_3 h0_3k h0_3c h1_11 h1_11k (u.2.1) h1_12 h1_12k (u.2.2)) t.heap ∧ va_K (dC, dI) vwCl [] t ∧ va_D (va_A (wd_c_X10_holdCount h0 h0_0 h0_1 h0_2 h0_3 h0_4 h0_5 h0_0 h0_0_0 h0_0_f1 h0_0_f2 h0_0_f3 h0_4 h0_4k h0_4c h1 h1_f0 h1_f1 h1_f2 h1_f3 h1_4 h1_5 h1_6 h1_7 h1_8 h1_9 h1_10 h1_11 h1_12 h1_8 h1_8k h1_8c h0_3 h0_3k h0_3c h1_11 h1_11k h1_11c h1_12 h1_12k h1_12c) sz) (wd_c_X10_holdCount h0 h0_0 h0_1 h0_2 h0_3 h0_4 h0_5 h0_0 h0_0_0 h0_0_f1 h0_0_f2 h0_0_f3 h0_4 h0_4k h0_4c h1 h1_f0 h1_f1 h1_f2 h1_f3 h1_4 h1_5 h1_6 h1_7 h1_8 h1_9 h1_10 h1_11 h1_12 h1_8 h1_8k (u.1) h0_3 h0_3k h0_3c h1_11 h1_11k (u.2.1) h1_12 h1_12k (u.2.2))) (va_A (wd_c_X10_holdCount h0 h0_0 h0_1 h0_2 h0_3 h0_4 h0_5 h0_0 h0_0_0 h0_0_f1 h0_0_f2 h0_0_f3 h0_4 h0_4k h0_4c h1 h1_f0 h1_f1 h1_f2 h1_f3 h1_4 h1_5 h1_6 h1_7 h1_8 h1_9 h1_10 h1_11 h1_12 h1_8 h1_8k h1_8c h0_3 h0_3k h0_3c h1_11 h1_11k h1_11c h1_12 h1_12k h1_12c) sz)) 0 0 (va_A (wd_c_X10_holdCount h0 h0_0 h0_1 h0_2 h0_3 h0_4 h0_5 h0_0 h0_0_0 h0_0_f1 h0_0_f2 h0_0_f3 h0_4 h0_4k h0_4c h1 h1_f0 h1_f1 h1_f2 h1_f3 h1_4 h1_5 h1_6 h1_7 h1_8 h1_9 h1_10 h1_11 h1_12 h1_8 h1_8k h1_8c h0_3 h0_3k h0_3c h1_11 h1_11k h1_11c h1_12 h1_12k h1_12c) sz) := by
  refine Met.ofW (cc := cX10_holdCount) (maxL := 5) (ret := none) (by decide +kernel) rfl ?_
  intro p e s m args below meth c s₁ B hml hv
  obtain ⟨rfl, hsz, hP, hK, hD0⟩ := hv
  have hx := B.exec
  have hb := B.bytes
  have hr := B.returns
  have hts := atoms_spec (ws := wf_c_X10_holdCount) B.pre
  have hown : s.vm.findClass RX10 = some m.cls := findClass_of_methodNamed B.named
  have hlocks := B.notSynchronized
  subst hsz
  have hD := hD0.self (sz := s.heap.size)
  generalize hAe : va_A (wd_c_X10_holdCount h0 h0_0 h0_1 h0_2 h0_3 h0_4 h0_5 h0_0 h0_0_0 h0_0_f1 h0_0_f2 h0_0_f3 h0_4 h0_4k h0_4c h1 h1_f0 h1_f1 h1_f2 h1_f3 h1_4 h1_5 h1_6 h1_7 h1_8 h1_9 h1_10 h1_11 h1_12 h1_8 h1_8k h1_8c h0_3 h0_3k h0_3c h1_11 h1_11k h1_11c h1_12 h1_12k h1_12c) s.heap.size = A at hD ⊢
  have hA : ∀ q : Nat, s.heap.size ≤ q → A q := fun q h => by rw [← hAe]; exact Or.inr h
  have hP : va_P (dC, dI) vwCl (wd_c_X10_holdCount h0 h0_0 h0_1 h0_2 h0_3 h0_4 h0_5 h0_0 h0_0_0 h0_0_f1 h0_0_f2 h0_0_f3 h0_4 h0_4k h0_4c h1 h1_f0 h1_f1 h1_f2 h1_f3 h1_4 h1_5 h1_6 h1_7 h1_8 h1_9 h1_10 h1_11 h1_12 h1_8 h1_8k h1_8c h0_3 h0_3k h0_3c h1_11 h1_11k h1_11c h1_12 h1_12k h1_12c) s.heap := hP
  have hl := lv_entry ([.ref h0, .ref h1]) (n := 5) (Nat.le_of_ble_eq_true rfl)
  rw [lg_entry_eq]
  generalize (lg_sl ([.ref h0, .ref h1]) ++ List.replicate (5 - (lg_sl ([.ref h0, .ref h1])).length) Slot.unset).toArray = ls at hl ⊢
  have hl : lv_has ls 5 [(0, .ref h0), (1, .ref h1)] := hl
  obtain ⟨H, hHe⟩ : ∃ H : Heap, s.heap = H := ⟨_, rfl⟩
  have hS : va_S A s.heap H [] := by rw [hHe]; exact va_S.rf
  have hP : va_P (dC, dI) vwCl (wd_c_X10_holdCount h0 h0_0 h0_1 h0_2 h0_3 h0_4 h0_5 h0_0 h0_0_0 h0_0_f1 h0_0_f2 h0_0_f3 h0_4 h0_4k h0_4c h1 h1_f0 h1_f1 h1_f2 h1_f3 h1_4 h1_5 h1_6 h1_7 h1_8 h1_9 h1_10 h1_11 h1_12 h1_8 h1_8k h1_8c h0_3 h0_3k h0_3c h1_11 h1_11k h1_11c h1_12 h1_12k h1_12c) H := by rw [← hHe]; exact hP
  rw [hHe]
  refine wj (fun G hG hU => ?_)
  as_aux_lemma =>
  have J22 : ∀ (n22 : Nat) (j22_l3 : Int32) (j22_h1_8c : Nat → Int32) (j22_h1_11c : Nat → Int32) (j22_h1_12c : Nat → Int32) (hM22 : MU j22_l3 < n22) (g_h0_0_f1 : RG h0_0_f1 0 8) (g_h0_0_f2 : RG h0_0_f2 0 3) (g_h0_0_f3 : RG h0_0_f3 0 1) (g_j22_l3 : RG j22_l3 0 8) (H : Heap) (locs : List Loc) (ls : Array Slot) (hP : va_P (dC, dI) vwCl (wd_c_X10_holdCount h0 h0_0 h0_1 h0_2 h0_3 h0_4 h0_5 h0_0 h0_0_0 h0_0_f1 h0_0_f2 h0_0_f3 h0_4 h0_4k h0_4c h1 h1_f0 h1_f1 h1_f2 h1_f3 h1_4 h1_5 h1_6 h1_7 h1_8 h1_9 h1_10 h1_11 h1_12 h1_8 h1_8k j22_h1_8c h0_3 h0_3k h0_3c h1_11 h1_11k j22_h1_11c h1_12 h1_12k j22_h1_12c) H) (hD : va_D A (wd_c_X10_holdCount h0 h0_0 h0_1 h0_2 h0_3 h0_4 h0_5 h0_0 h0_0_0 h0_0_f1 h0_0_f2 h0_0_f3 h0_4 h0_4k h0_4c h1 h1_f0 h1_f1 h1_f2 h1_f3 h1_4 h1_5 h1_6 h1_7 h1_8 h1_9 h1_10 h1_11 h1_12 h1_8 h1_8k j22_h1_8c h0_3 h0_3k h0_3c h1_11 h1_11k j22_h1_11c h1_12 h1_12k j22_h1_12c)) (hS : va_S A s.heap H locs) (hl : lv_has ls 5 [(3, .int j22_l3), (0, .ref h0), (1, .ref h1)]), G H locs (F0 m 22 ls []) := by
    as_aux_lemma =>
    intro n22
    induction n22 with
    | zero => intros; exact absurd (by assumption) (Nat.not_lt_zero _)
    | succ n22 ih22 =>
      intro j22_l3 j22_h1_8c j22_h1_11c j22_h1_12c hM22 g_h0_0_f1 g_h0_0_f2 g_h0_0_f3 g_j22_l3 H locs ls hP hD hS hl
      have J101 : ∀ (j101_h1_11c : Nat → Int32) (j101_h1_12c : Nat → Int32) (g_h0_0_f1 : RG h0_0_f1 1 8) (g_h0_0_f2 : RG h0_0_f2 0 3) (g_h0_0_f3 : RG h0_0_f3 0 1) (g_j22_l3 : RG j22_l3 0 7) (H : Heap) (locs : List Loc) (ls : Array Slot) (hP : va_P (dC, dI) vwCl (wd_c_X10_holdCount h0 h0_0 h0_1 h0_2 h0_3 h0_4 h0_5 h0_0 h0_0_0 h0_0_f1 h0_0_f2 h0_0_f3 h0_4 h0_4k h0_4c h1 h1_f0 h1_f1 h1_f2 h1_f3 h1_4 h1_5 h1_6 h1_7 h1_8 h1_9 h1_10 h1_11 h1_12 h1_8 h1_8k j22_h1_8c h0_3 h0_3k h0_3c h1_11 h1_11k j101_h1_11c h1_12 h1_12k j101_h1_12c) H) (hD : va_D A (wd_c_X10_holdCount h0 h0_0 h0_1 h0_2 h0_3 h0_4 h0_5 h0_0 h0_0_0 h0_0_f1 h0_0_f2 h0_0_f3 h0_4 h0_4k h0_4c h1 h1_f0 h1_f1 h1_f2 h1_f3 h1_4 h1_5 h1_6 h1_7 h1_8 h1_9 h1_10 h1_11 h1_12 h1_8 h1_8k j22_h1_8c h0_3 h0_3k h0_3c h1_11 h1_11k j101_h1_11c h1_12 h1_12k j101_h1_12c)) (hS : va_S A s.heap H locs) (hl : lv_has ls 5 [(3, .int j22_l3), (0, .ref h0), (1, .ref h1)]), G H locs (F0 m 101 ls []) := by
        as_aux_lemma =>
        intro j101_h1_11c j101_h1_12c g_h0_0_f1 g_h0_0_f2 g_h0_0_f3 g_j22_l3 H locs ls hP hD hS hl
        refine hG _ _ _ ?_
        obtain ⟨x_1, ex_1⟩ : ∃ y : Int32, y = j22_l3 + 1 := ⟨_, rfl⟩
        have g_2 : RG x_1 1 8 := RG_add ex_1 g_j22_l3 (RG_k 1 1 rfl) (by decide +kernel)
        refine lv_iinc (v := x_1) (lv' := [(3, .int x_1), (0, .ref h0), (1, .ref h1)]) hx hb dX10_holdCount_101 hl (k := 0) rfl (by rw [ex_1]; rfl) (Nat.le_of_ble_eq_true rfl) rfl (fun ls hl => ?_)
        refine lv_goto (tgt := 22) hx hb dX10_holdCount_104 rfl ?_
        exact hU _ _ _ (ih22 x_1 j22_h1_8c j101_h1_11c j101_h1_12c (mu_s (MU_add ex_1 g_j22_l3 (q := 1) rfl (by decide +kernel)) hM22) (RG_w g_h0_0_f1 (by decide +kernel)) g_h0_0_f2 g_h0_0_f3 (RG_w g_2 (by decide +kernel)) _ _ _ hP hD hS (lv_sub hl [0, 1, 2] rfl))
      have J80 : ∀ (j80_l4 : Int32) (g_h0_0_f1 : RG h0_0_f1 1 8) (g_h0_0_f2 : RG h0_0_f2 0 3) (g_h0_0_f3 : RG h0_0_f3 0 1) (g_j22_l3 : RG j22_l3 0 7) (g_j80_l4 : RG j80_l4 (-1) 2) (H : Heap) (locs : List Loc) (ls : Array Slot) (hP : va_P (dC, dI) vwCl (wd_c_X10_holdCount h0 h0_0 h0_1 h0_2 h0_3 h0_4 h0_5 h0_0 h0_0_0 h0_0_f1 h0_0_f2 h0_0_f3 h0_4 h0_4k h0_4c h1 h1_f0 h1_f1 h1_f2 h1_f3 h1_4 h1_5 h1_6 h1_7 h1_8 h1_9 h1_10 h1_11 h1_12 h1_8 h1_8k j22_h1_8c h0_3 h0_3k h0_3c h1_11 h1_11k j22_h1_11c h1_12 h1_12k j22_h1_12c) H) (hD : va_D A (wd_c_X10_holdCount h0 h0_0 h0_1 h0_2 h0_3 h0_4 h0_5 h0_0 h0_0_0 h0_0_f1 h0_0_f2 h0_0_f3 h0_4 h0_4k h0_4c h1 h1_f0 h1_f1 h1_f2 h1_f3 h1_4 h1_5 h1_6 h1_7 h1_8 h1_9 h1_10 h1_11 h1_12 h1_8 h1_8k j22_h1_8c h0_3 h0_3k h0_3c h1_11 h1_11k j22_h1_11c h1_12 h1_12k j22_h1_12c)) (hS : va_S A s.heap H locs) (hl : lv_has ls 5 [(4, .int j80_l4), (3, .int j22_l3), (0, .ref h0), (1, .ref h1)]), G H locs (F0 m 80 ls []) := by
        as_aux_lemma =>
        intro j80_l4 g_h0_0_f1 g_h0_0_f2 g_h0_0_f3 g_j22_l3 g_j80_l4 H locs ls hP hD hS hl
        refine hG _ _ _ ?_
        refine lv_iload hx hb dX10_holdCount_80 (lv_at hl 0 rfl) ?_
        refine lv_iconst (v := (-1)) hx hb dX10_holdCount_82 kc_iconst_m1 ?_
        refine lv_icmp_eq (tgt := 101) hx hb dX10_holdCount_83 rfl (fun c_3 => ?_) (fun c_3 => ?_)
        · have g_4 : RG j80_l4 (-1) (-1) := RG_eq1 g_j80_l4 (RG_k (-1) (-1) rfl) c_3 (by decide +kernel)
          exact hU _ _ _ (J101 j22_h1_11c j22_h1_12c g_h0_0_f1 g_h0_0_f2 g_h0_0_f3 g_j22_l3 _ _ _ hP hD hS (lv_sub hl [1, 2, 3] rfl))
        · have g_5 : RG j80_l4 0 2 := RG_ne1 g_j80_l4 (q := (-1)) rfl c_3 (by decide +kernel)
          refine lv_aload_n hx hb dX10_holdCount_86 rfl (lv_at hl 3 rfl) ?_
          refine va_get (D := (dC, dI)) (ci := 7) (v := .ref h1_11) (C := RX7) (T := TX7) (N := 13) hx hb hts iw_c_X10_holdCount_X7 hown hK hP 3 rfl rfl 11 (by decide +kernel) (hts (.fieldLink RX10 70 "BuoyVote$Sea" "old" "[I") (List.mem_of_getElem? (i := 12) rfl)) (fun _ h9 => h9) rfl dX10_holdCount_87 ?_
          refine lv_iload_n hx hb dX10_holdCount_90 rfl (lv_at hl 1 rfl) ?_
          refine lv_iload hx hb dX10_holdCount_91 (lv_at hl 0 rfl) ?_
          refine va_iast hx hb hK hP hD hS 6 3 rfl rfl (RG_in g_j22_l3 (by decide +kernel)) dX10_holdCount_93 (fun H locs hP hD hS => ?_)
          have hP : va_P (dC, dI) vwCl (wd_c_X10_holdCount h0 h0_0 h0_1 h0_2 h0_3 h0_4 h0_5 h0_0 h0_0_0 h0_0_f1 h0_0_f2 h0_0_f3 h0_4 h0_4k h0_4c h1 h1_f0 h1_f1 h1_f2 h1_f3 h1_4 h1_5 h1_6 h1_7 h1_8 h1_9 h1_10 h1_11 h1_12 h1_8 h1_8k j22_h1_8c h0_3 h0_3k h0_3c h1_11 h1_11k (upd j22_h1_11c (j22_l3 : Int32).toNatClampNeg j80_l4) h1_12 h1_12k j22_h1_12c) H := hP
          have hD : va_D A (wd_c_X10_holdCount h0 h0_0 h0_1 h0_2 h0_3 h0_4 h0_5 h0_0 h0_0_0 h0_0_f1 h0_0_f2 h0_0_f3 h0_4 h0_4k h0_4c h1 h1_f0 h1_f1 h1_f2 h1_f3 h1_4 h1_5 h1_6 h1_7 h1_8 h1_9 h1_10 h1_11 h1_12 h1_8 h1_8k j22_h1_8c h0_3 h0_3k h0_3c h1_11 h1_11k (upd j22_h1_11c (j22_l3 : Int32).toNatClampNeg j80_l4) h1_12 h1_12k j22_h1_12c) := hD
          have l_7 : (upd j22_h1_11c (j22_l3 : Int32).toNatClampNeg j80_l4) (j22_l3 : Int32).toNatClampNeg = j80_l4 := pk_us
          generalize (upd j22_h1_11c (j22_l3 : Int32).toNatClampNeg j80_l4) = w_6 at hP hD l_7
          have hP : va_P (dC, dI) vwCl (wd_c_X10_holdCount h0 h0_0 h0_1 h0_2 h0_3 h0_4 h0_5 h0_0 h0_0_0 h0_0_f1 h0_0_f2 h0_0_f3 h0_4 h0_4k h0_4c h1 h1_f0 h1_f1 h1_f2 h1_f3 h1_4 h1_5 h1_6 h1_7 h1_8 h1_9 h1_10 h1_11 h1_12 h1_8 h1_8k j22_h1_8c h0_3 h0_3k h0_3c h1_11 h1_11k w_6 h1_12 h1_12k j22_h1_12c) H := hP
          have hD : va_D A (wd_c_X10_holdCount h0 h0_0 h0_1 h0_2 h0_3 h0_4 h0_5 h0_0 h0_0_0 h0_0_f1 h0_0_f2 h0_0_f3 h0_4 h0_4k h0_4c h1 h1_f0 h1_f1 h1_f2 h1_f3 h1_4 h1_5 h1_6 h1_7 h1_8 h1_9 h1_10 h1_11 h1_12 h1_8 h1_8k j22_h1_8c h0_3 h0_3k h0_3c h1_11 h1_11k w_6 h1_12 h1_12k j22_h1_12c) := hD
          refine lv_aload_n hx hb dX10_holdCount_94 rfl (lv_at hl 3 rfl) ?_
          as_aux_lemma =>
          refine va_get (D := (dC, dI)) (ci := 7) (v := .ref h1_12) (C := RX7) (T := TX7) (N := 13) hx hb hts iw_c_X10_holdCount_X7 hown hK hP 3 rfl rfl 12 (by decide +kernel) (hts (.fieldLink RX10 73 "BuoyVote$Sea" "barnacles" "[I") (List.mem_of_getElem? (i := 13) rfl)) (fun _ h9 => h9) rfl dX10_holdCount_95 ?_
          refine lv_iload_n hx hb dX10_holdCount_98 rfl (lv_at hl 1 rfl) ?_
          refine lv_iconst (v := 1) hx hb dX10_holdCount_99 kc_iconst_1 ?_
          refine va_iast hx hb hK hP hD hS 7 4 rfl rfl (RG_in g_j22_l3 (by decide +kernel)) dX10_holdCount_100 (fun H locs hP hD hS => ?_)
          have hP : va_P (dC, dI) vwCl (wd_c_X10_holdCount h0 h0_0 h0_1 h0_2 h0_3 h0_4 h0_5 h0_0 h0_0_0 h0_0_f1 h0_0_f2 h0_0_f3 h0_4 h0_4k h0_4c h1 h1_f0 h1_f1 h1_f2 h1_f3 h1_4 h1_5 h1_6 h1_7 h1_8 h1_9 h1_10 h1_11 h1_12 h1_8 h1_8k j22_h1_8c h0_3 h0_3k h0_3c h1_11 h1_11k w_6 h1_12 h1_12k (upd j22_h1_12c (j22_l3 : Int32).toNatClampNeg 1)) H := hP
          have hD : va_D A (wd_c_X10_holdCount h0 h0_0 h0_1 h0_2 h0_3 h0_4 h0_5 h0_0 h0_0_0 h0_0_f1 h0_0_f2 h0_0_f3 h0_4 h0_4k h0_4c h1 h1_f0 h1_f1 h1_f2 h1_f3 h1_4 h1_5 h1_6 h1_7 h1_8 h1_9 h1_10 h1_11 h1_12 h1_8 h1_8k j22_h1_8c h0_3 h0_3k h0_3c h1_11 h1_11k w_6 h1_12 h1_12k (upd j22_h1_12c (j22_l3 : Int32).toNatClampNeg 1)) := hD
          have l_9 : (upd j22_h1_12c (j22_l3 : Int32).toNatClampNeg 1) (j22_l3 : Int32).toNatClampNeg = 1 := pk_us
          generalize (upd j22_h1_12c (j22_l3 : Int32).toNatClampNeg 1) = w_8 at hP hD l_9
          have hP : va_P (dC, dI) vwCl (wd_c_X10_holdCount h0 h0_0 h0_1 h0_2 h0_3 h0_4 h0_5 h0_0 h0_0_0 h0_0_f1 h0_0_f2 h0_0_f3 h0_4 h0_4k h0_4c h1 h1_f0 h1_f1 h1_f2 h1_f3 h1_4 h1_5 h1_6 h1_7 h1_8 h1_9 h1_10 h1_11 h1_12 h1_8 h1_8k j22_h1_8c h0_3 h0_3k h0_3c h1_11 h1_11k w_6 h1_12 h1_12k w_8) H := hP
          have hD : va_D A (wd_c_X10_holdCount h0 h0_0 h0_1 h0_2 h0_3 h0_4 h0_5 h0_0 h0_0_0 h0_0_f1 h0_0_f2 h0_0_f3 h0_4 h0_4k h0_4c h1 h1_f0 h1_f1 h1_f2 h1_f3 h1_4 h1_5 h1_6 h1_7 h1_8 h1_9 h1_10 h1_11 h1_12 h1_8 h1_8k j22_h1_8c h0_3 h0_3k h0_3c h1_11 h1_11k w_6 h1_12 h1_12k w_8) := hD
          exact hU _ _ _ (J101 w_6 w_8 g_h0_0_f1 g_h0_0_f2 g_h0_0_f3 g_j22_l3 _ _ _ hP hD hS (lv_sub hl [1, 2, 3] rfl))
      refine hG _ _ _ ?_
      refine lv_iload_n hx hb dX10_holdCount_22 rfl (lv_at hl 0 rfl) ?_
      refine lv_aload_n hx hb dX10_holdCount_23 rfl (lv_at hl 1 rfl) ?_
      as_aux_lemma =>
      refine va_get (D := (dC, dI)) (ci := 10) (v := .ref h0_0) (C := RX10) (T := TX10) (N := 6) hx hb hts iw_c_X10_holdCount_X10 hown hK hP 0 rfl rfl 0 (by decide +kernel) (hts (.fieldLink RX10 9 "BuoyVote$Waters" "told" "LBuoyVote$Borough;") (List.mem_of_getElem? (i := 6) rfl)) (fun _ h9 => h9) rfl dX10_holdCount_24 ?_
      refine va_get (D := (dC, dI)) (ci := 0) (v := .int h0_0_f1) (C := RX0) (T := TX0) (N := 4) hx hb hts iw_c_X10_holdCount_X0 hown hK hP 1 rfl rfl 1 (by decide +kernel) (hts (.fieldLink RX10 105 "BuoyVote$Borough" "buoys" "I") (List.mem_of_getElem? (i := 10) rfl)) (fun _ h9 => h9) rfl dX10_holdCount_27 ?_
      refine lv_icmp_ge (tgt := 107) hx hb dX10_holdCount_30 rfl (fun c_10 => ?_) (fun c_10 => ?_)
      · have hK9 := hK.sub (tys' := []) [] rfl
        exact W.vret hx hb hr (fun t ht hW => ⟨⟨(j22_h1_8c, j22_h1_11c, j22_h1_12c), rfl, trivial, by rw [ht]; exact hP, va_K.moved hW.alike hK9, hD⟩, hS.F ht⟩) hS.2.2 dX10_holdCount_107
      · have d_11 := Int32.not_le.mp c_10
        have g_12 : RG j22_l3 0 7 := RG_lt1 g_j22_l3 g_h0_0_f1 d_11 (by decide +kernel)
        have g_13 : RG h0_0_f1 1 8 := RG_lt2 g_j22_l3 g_h0_0_f1 d_11 (by decide +kernel)
        refine lv_aload_n hx hb dX10_holdCount_33 rfl (lv_at hl 1 rfl) ?_
        refine va_get (D := (dC, dI)) (ci := 10) (v := .ref h0_3) (C := RX10) (T := TX10) (N := 6) hx hb hts iw_c_X10_holdCount_X10 hown hK hP 0 rfl rfl 3 (by decide +kernel) (hts (.fieldLink RX10 23 "BuoyVote$Waters" "leans" "[I") (List.mem_of_getElem? (i := 11) rfl)) (fun _ h9 => h9) rfl dX10_holdCount_34 ?_
        refine lv_iload_n hx hb dX10_holdCount_37 rfl (lv_at hl 0 rfl) ?_
        refine va_iald hx hb hK hP 5 2 rfl rfl (RG_in g_12 (by decide +kernel)) dX10_holdCount_38 ?_
        refine lv_topi (fun x_14 ex_14 => ?_)
        have g_15 : RG x_14 (-1) 2 := AI_rd a_h0_3c ex_14
        refine lv_istore (lv' := [(4, .int x_14), (3, .int j22_l3), (0, .ref h0), (1, .ref h1)]) hx hb dX10_holdCount_39 hl (Nat.le_of_ble_eq_true rfl) rfl (fun ls hl => ?_)
        as_aux_lemma =>
        refine lv_iload hx hb dX10_holdCount_41 (lv_at hl 0 rfl) ?_
        refine lv_iconst (v := (-1)) hx hb dX10_holdCount_43 kc_iconst_m1 ?_
        refine lv_icmp_eq (tgt := 80) hx hb dX10_holdCount_44 rfl (fun c_16 => ?_) (fun c_16 => ?_)
        · have g_17 : RG x_14 (-1) (-1) := RG_eq1 g_15 (RG_k (-1) (-1) rfl) c_16 (by decide +kernel)
          exact hU _ _ _ (J80 x_14 g_13 g_h0_0_f2 g_h0_0_f3 g_12 (RG_w g_17 (by decide +kernel)) _ _ _ hP hD hS (lv_sub hl [0, 1, 2, 3] rfl))
        · have g_18 : RG x_14 0 2 := RG_ne1 g_15 (q := (-1)) rfl c_16 (by decide +kernel)
          refine lv_iload hx hb dX10_holdCount_47 (lv_at hl 0 rfl) ?_
          refine lv_aload_n hx hb dX10_holdCount_49 rfl (lv_at hl 3 rfl) ?_
          refine va_get (D := (dC, dI)) (ci := 7) (v := .ref h1_11) (C := RX7) (T := TX7) (N := 13) hx hb hts iw_c_X10_holdCount_X7 hown hK hP 3 rfl rfl 11 (by decide +kernel) (hts (.fieldLink RX10 70 "BuoyVote$Sea" "old" "[I") (List.mem_of_getElem? (i := 12) rfl)) (fun _ h9 => h9) rfl dX10_holdCount_50 ?_
          refine lv_iload_n hx hb dX10_holdCount_53 rfl (lv_at hl 1 rfl) ?_
          refine va_iald hx hb hK hP 6 3 rfl rfl (RG_in g_12 (by decide +kernel)) dX10_holdCount_54 ?_
          refine lv_topi (fun x_19 ex_19 => ?_)
          refine lv_icmp_ne (tgt := 80) hx hb dX10_holdCount_55 rfl (fun c_20 => ?_) (fun c_20 => ?_)
          · exact hU _ _ _ (J80 x_14 g_13 g_h0_0_f2 g_h0_0_f3 g_12 (RG_w g_18 (by decide +kernel)) _ _ _ hP hD hS (lv_sub hl [0, 1, 2, 3] rfl))
          · have g_21 : RG x_19 0 2 := RG_eq1 (RG_any x_19) g_18 c_20.symm (by decide +kernel)
            refine lv_aload_n hx hb dX10_holdCount_58 rfl (lv_at hl 3 rfl) ?_
            as_aux_lemma =>
            refine va_get (D := (dC, dI)) (ci := 7) (v := .ref h1_12) (C := RX7) (T := TX7) (N := 13) hx hb hts iw_c_X10_holdCount_X7 hown hK hP 3 rfl rfl 12 (by decide +kernel) (hts (.fieldLink RX10 73 "BuoyVote$Sea" "barnacles" "[I") (List.mem_of_getElem? (i := 13) rfl)) (fun _ h9 => h9) rfl dX10_holdCount_59 ?_
            refine lv_iload_n hx hb dX10_holdCount_62 rfl (lv_at hl 1 rfl) ?_
            refine lv_aload_n hx hb dX10_holdCount_63 rfl (lv_at hl 3 rfl) ?_
            refine va_get (D := (dC, dI)) (ci := 7) (v := .ref h1_12) (C := RX7) (T := TX7) (N := 13) hx hb hts iw_c_X10_holdCount_X7 hown hK hP 3 rfl rfl 12 (by decide +kernel) (hts (.fieldLink RX10 73 "BuoyVote$Sea" "barnacles" "[I") (List.mem_of_getElem? (i := 13) rfl)) (fun _ h9 => h9) rfl dX10_holdCount_64 ?_
            refine lv_iload_n hx hb dX10_holdCount_67 rfl (lv_at hl 1 rfl) ?_
            refine va_iald hx hb hK hP 7 4 rfl rfl (RG_in g_12 (by decide +kernel)) dX10_holdCount_68 ?_
            refine lv_topi (fun x_22 ex_22 => ?_)
            refine lv_iconst (v := 1) hx hb dX10_holdCount_69 kc_iconst_1 ?_
            refine lv_iadd hx hb dX10_holdCount_70 ?_
            refine lv_topi (fun x_23 ex_23 => ?_)
            refine lv_bipush (v := 9) hx hb dX10_holdCount_71 kc_bipush_9 ?_
            refine va_mmin hx hb (by rw [hml]; exact hl.1.symm) hown (hts (.methodLink RX10 139 Lib.Math.min.name) (List.mem_of_getElem? (i := 14) rfl)) (hts (.static Lib.Math.min.name) (List.mem_of_getElem? (i := 15) rfl)) (hts (.initialized "java/lang/Math") (List.mem_of_getElem? (i := 16) rfl)) (hts (.code Lib.Math.min.name Lib.Math.min.code 2 (some .int)) (List.mem_of_getElem? (i := 17) rfl)) (Nat.le_of_ble_eq_true rfl) (Nat.le_of_ble_eq_true rfl) (Nat.le_of_ble_eq_true rfl) (Nat.le_of_ble_eq_true rfl) dX10_holdCount_73 ?_
            refine lv_topi (fun x_24 ex_24 => ?_)
            have g_25 : RG x_24 (-2147483648) 9 := RG_min ex_24 (RG_any x_23) (RG_k 9 9 rfl) (by decide +kernel)
            refine va_iast hx hb hK hP hD hS 7 4 rfl rfl (RG_in g_12 (by decide +kernel)) dX10_holdCount_76 (fun H locs hP hD hS => ?_)
            as_aux_lemma =>
            have hP : va_P (dC, dI) vwCl (wd_c_X10_holdCount h0 h0_0 h0_1 h0_2 h0_3 h0_4 h0_5 h0_0 h0_0_0 h0_0_f1 h0_0_f2 h0_0_f3 h0_4 h0_4k h0_4c h1 h1_f0 h1_f1 h1_f2 h1_f3 h1_4 h1_5 h1_6 h1_7 h1_8 h1_9 h1_10 h1_11 h1_12 h1_8 h1_8k j22_h1_8c h0_3 h0_3k h0_3c h1_11 h1_11k j22_h1_11c h1_12 h1_12k (upd j22_h1_12c (j22_l3 : Int32).toNatClampNeg x_24)) H := hP
            have hD : va_D A (wd_c_X10_holdCount h0 h0_0 h0_1 h0_2 h0_3 h0_4 h0_5 h0_0 h0_0_0 h0_0_f1 h0_0_f2 h0_0_f3 h0_4 h0_4k h0_4c h1 h1_f0 h1_f1 h1_f2 h1_f3 h1_4 h1_5 h1_6 h1_7 h1_8 h1_9 h1_10 h1_11 h1_12 h1_8 h1_8k j22_h1_8c h0_3 h0_3k h0_3c h1_11 h1_11k j22_h1_11c h1_12 h1_12k (upd j22_h1_12c (j22_l3 : Int32).toNatClampNeg x_24)) := hD
            have l_27 : (upd j22_h1_12c (j22_l3 : Int32).toNatClampNeg x_24) (j22_l3 : Int32).toNatClampNeg = x_24 := pk_us
            generalize (upd j22_h1_12c (j22_l3 : Int32).toNatClampNeg x_24) = w_26 at hP hD l_27
            have hP : va_P (dC, dI) vwCl (wd_c_X10_holdCount h0 h0_0 h0_1 h0_2 h0_3 h0_4 h0_5 h0_0 h0_0_0 h0_0_f1 h0_0_f2 h0_0_f3 h0_4 h0_4k h0_4c h1 h1_f0 h1_f1 h1_f2 h1_f3 h1_4 h1_5 h1_6 h1_7 h1_8 h1_9 h1_10 h1_11 h1_12 h1_8 h1_8k j22_h1_8c h0_3 h0_3k h0_3c h1_11 h1_11k j22_h1_11c h1_12 h1_12k w_26) H := hP
            have hD : va_D A (wd_c_X10_holdCount h0 h0_0 h0_1 h0_2 h0_3 h0_4 h0_5 h0_0 h0_0_0 h0_0_f1 h0_0_f2 h0_0_f3 h0_4 h0_4k h0_4c h1 h1_f0 h1_f1 h1_f2 h1_f3 h1_4 h1_5 h1_6 h1_7 h1_8 h1_9 h1_10 h1_11 h1_12 h1_8 h1_8k j22_h1_8c h0_3 h0_3k h0_3c h1_11 h1_11k j22_h1_11c h1_12 h1_12k w_26) := hD
            refine lv_goto (tgt := 101) hx hb dX10_holdCount_77 rfl ?_
            exact hU _ _ _ (J101 j22_h1_11c w_26 g_13 g_h0_0_f2 g_h0_0_f3 g_12 _ _ _ hP hD hS (lv_sub hl [1, 2, 3] rfl))
  have J20 : ∀ (j20_h1_8c : Nat → Int32) (g_h0_0_f1 : RG h0_0_f1 0 8) (g_h0_0_f2 : RG h0_0_f2 0 3) (g_h0_0_f3 : RG h0_0_f3 0 1) (H : Heap) (locs : List Loc) (ls : Array Slot) (hP : va_P (dC, dI) vwCl (wd_c_X10_holdCount h0 h0_0 h0_1 h0_2 h0_3 h0_4 h0_5 h0_0 h0_0_0 h0_0_f1 h0_0_f2 h0_0_f3 h0_4 h0_4k h0_4c h1 h1_f0 h1_f1 h1_f2 h1_f3 h1_4 h1_5 h1_6 h1_7 h1_8 h1_9 h1_10 h1_11 h1_12 h1_8 h1_8k j20_h1_8c h0_3 h0_3k h0_3c h1_11 h1_11k h1_11c h1_12 h1_12k h1_12c) H) (hD : va_D A (wd_c_X10_holdCount h0 h0_0 h0_1 h0_2 h0_3 h0_4 h0_5 h0_0 h0_0_0 h0_0_f1 h0_0_f2 h0_0_f3 h0_4 h0_4k h0_4c h1 h1_f0 h1_f1 h1_f2 h1_f3 h1_4 h1_5 h1_6 h1_7 h1_8 h1_9 h1_10 h1_11 h1_12 h1_8 h1_8k j20_h1_8c h0_3 h0_3k h0_3c h1_11 h1_11k h1_11c h1_12 h1_12k h1_12c)) (hS : va_S A s.heap H locs) (hl : lv_has ls 5 [(0, .ref h0), (1, .ref h1)]), G H locs (F0 m 20 ls []) := by
    as_aux_lemma =>
    intro j20_h1_8c g_h0_0_f1 g_h0_0_f2 g_h0_0_f3 H locs ls hP hD hS hl
    refine hG _ _ _ ?_
    refine lv_iconst (v := 0) hx hb dX10_holdCount_20 kc_iconst_0 ?_
    refine lv_istore_n (lv' := [(3, .int 0), (0, .ref h0), (1, .ref h1)]) hx hb dX10_holdCount_21 rfl hl (Nat.le_of_ble_eq_true rfl) rfl (fun ls hl => ?_)
    exact hU _ _ _ (J22 _ 0 j20_h1_8c h1_11c h1_12c (Nat.lt_succ_self _) g_h0_0_f1 g_h0_0_f2 g_h0_0_f3 (RG_w (RG_k 0 0 rfl) (by decide +kernel)) _ _ _ hP hD hS (lv_sub hl [0, 1, 2] rfl))
  refine hG _ _ _ ?_
  refine lv_aload_n hx hb dX10_holdCount_0 rfl (lv_at hl 0 rfl) ?_
  obtain ⟨hPc, hDc, hFc, hqc⟩ := cl_cut (wc := (wd_c_X10_winner h0 h0_0 h0_1 h0_2 h0_3 h0_4 h0_5 h0_0 h0_0_0 h0_0_f1 h0_0_f2 h0_0_f3 h0_4 h0_4k h0_4c)) hP hD hS hA [0, 1, 2] (by decide +kernel) rfl
  have hKc := hK.sub (tys' := [(h0_4k, .int)]) [0] rfl
  have hrv := va_recv hKc hPc (ci := 10) (q0 := 0) rfl rfl
  refine va_calli (va_runV (As := []) (rest := []) ⟨hx, hb, hml, hown, hts⟩ (c_X10_winner l dC dI H.size h0 h0_0 h0_1 h0_2 h0_3 h0_4 h0_5 h0_0_0 h0_0_f1 h0_0_f2 h0_0_f3 h0_4k h0_4c g_h0_0_f1 g_h0_0_f2 g_h0_0_f3) (cwV 0 hts gf_c_X10_holdCount_c_X10_winner rfl rfl rfl mdV_X10_winner ⟨Nat.le_of_ble_eq_true rfl, Nat.le_of_ble_eq_true rfl⟩) ⟨fun a U g mk q => by obtain ⟨q0, q1, qP, qK, qD⟩ := q; exact ⟨q0, q1, qP, va_K.moved (u := U) (U := U.calling g mk a) (Vm.Alike.refl U.vm) qK, qD⟩, hrv, fun U hU hW => ⟨rfl, by rw [hU], by rw [hU]; exact hPc, va_K.moved hW.alike hKc, hDc.weaken (fun _ _ _ _ => trivial)⟩⟩ rfl rfl hl.1 rfl (lv_room (Nat.le_of_ble_eq_true rfl)) dX10_holdCount_1 ⟨Nat.le_of_ble_eq_true rfl, Nat.le_of_ble_eq_true rfl⟩) hS (fun q _ h => hFc q h) hFc (fun r_28 u t H1 locs ht hvm hw hB hz1 hk1 hS => ?_)
  obtain ⟨hP1, hK1, hD1⟩ := hB
  rw [ht] at hP1
  obtain ⟨hP, hD⟩ := cl_put (w1 := (wd_c_X10_winner h0 h0_0 h0_1 h0_2 h0_3 h0_4 h0_5 h0_0 h0_0_0 h0_0_f1 h0_0_f2 h0_0_f3 h0_4 h0_4k h0_4c)) (nw := (wd_c_X10_holdCount h0 h0_0 h0_1 h0_2 h0_3 h0_4 h0_5 h0_0 h0_0_0 h0_0_f1 h0_0_f2 h0_0_f3 h0_4 h0_4k h0_4c h1 h1_f0 h1_f1 h1_f2 h1_f3 h1_4 h1_5 h1_6 h1_7 h1_8 h1_9 h1_10 h1_11 h1_12 h1_8 h1_8k h1_8c h0_3 h0_3k h0_3c h1_11 h1_11k h1_11c h1_12 h1_12k h1_12c)) hP hD [0, 1, 2] [8, 9, 10, 3, 4, 5, 6, 7] 8 rfl hqc (by decide +kernel) rfl hk1 hFc hP1 hD1
  generalize H1 = H at hP hS ⊢
  as_aux_lemma =>
  have h_29 := hw
  refine lv_istore_n (lv' := [(2, .int r_28), (0, .ref h0), (1, .ref h1)]) hx hb dX10_holdCount_4 rfl hl (Nat.le_of_ble_eq_true rfl) rfl (fun ls hl => ?_)
  refine lv_iload_n hx hb dX10_holdCount_5 rfl (lv_at hl 0 rfl) ?_
  refine lv_iconst (v := (-1)) hx hb dX10_holdCount_6 kc_iconst_m1 ?_
  refine lv_icmp_eq (tgt := 20) hx hb dX10_holdCount_7 rfl (fun c_30 => ?_) (fun c_30 => ?_)
  · have g_31 : RG r_28 (-1) (-1) := RG_eq1 h_29 (RG_k (-1) (-1) rfl) c_30 (by decide +kernel)
    exact hU _ _ _ (J20 h1_8c g_h0_0_f1 g_h0_0_f2 g_h0_0_f3 _ _ _ hP hD hS (lv_sub hl [1, 2] rfl))
  · have g_32 : RG r_28 0 2 := RG_ne1 h_29 (q := (-1)) rfl c_30 (by decide +kernel)
    refine lv_aload_n hx hb dX10_holdCount_10 rfl (lv_at hl 2 rfl) ?_
    refine va_get (D := (dC, dI)) (ci := 7) (v := .ref h1_8) (C := RX7) (T := TX7) (N := 13) hx hb hts iw_c_X10_holdCount_X7 hown hK hP 3 rfl rfl 8 (by decide +kernel) (hts (.fieldLink RX10 136 "BuoyVote$Sea" "won" "[I") (List.mem_of_getElem? (i := 9) rfl)) (fun _ h9 => h9) rfl dX10_holdCount_11 ?_
    refine lv_iload_n hx hb dX10_holdCount_14 rfl (lv_at hl 0 rfl) ?_
    refine lv_dup2_11 hx hb dX10_holdCount_15 rfl rfl ?_
    refine va_iald hx hb hK hP 4 1 rfl rfl (RG_in g_32 (by decide +kernel)) dX10_holdCount_16 ?_
    refine lv_topi (fun x_33 ex_33 => ?_)
    as_aux_lemma =>
    refine lv_iconst (v := 1) hx hb dX10_holdCount_17 kc_iconst_1 ?_
    refine lv_iadd hx hb dX10_holdCount_18 ?_
    refine lv_topi (fun x_34 ex_34 => ?_)
    refine va_iast hx hb hK hP hD hS 4 1 rfl rfl (RG_in g_32 (by decide +kernel)) dX10_holdCount_19 (fun H locs hP hD hS => ?_)
    have hP : va_P (dC, dI) vwCl (wd_c_X10_holdCount h0 h0_0 h0_1 h0_2 h0_3 h0_4 h0_5 h0_0 h0_0_0 h0_0_f1 h0_0_f2 h0_0_f3 h0_4 h0_4k h0_4c h1 h1_f0 h1_f1 h1_f2 h1_f3 h1_4 h1_5 h1_6 h1_7 h1_8 h1_9 h1_10 h1_11 h1_12 h1_8 h1_8k (upd h1_8c (r_28 : Int32).toNatClampNeg x_34) h0_3 h0_3k h0_3c h1_11 h1_11k h1_11c h1_12 h1_12k h1_12c) H := hP
    have hD : va_D A (wd_c_X10_holdCount h0 h0_0 h0_1 h0_2 h0_3 h0_4 h0_5 h0_0 h0_0_0 h0_0_f1 h0_0_f2 h0_0_f3 h0_4 h0_4k h0_4c h1 h1_f0 h1_f1 h1_f2 h1_f3 h1_4 h1_5 h1_6 h1_7 h1_8 h1_9 h1_10 h1_11 h1_12 h1_8 h1_8k (upd h1_8c (r_28 : Int32).toNatClampNeg x_34) h0_3 h0_3k h0_3c h1_11 h1_11k h1_11c h1_12 h1_12k h1_12c) := hD
    have l_36 : (upd h1_8c (r_28 : Int32).toNatClampNeg x_34) (r_28 : Int32).toNatClampNeg = x_34 := pk_us
    generalize (upd h1_8c (r_28 : Int32).toNatClampNeg x_34) = w_35 at hP hD l_36
    have hP : va_P (dC, dI) vwCl (wd_c_X10_holdCount h0 h0_0 h0_1 h0_2 h0_3 h0_4 h0_5 h0_0 h0_0_0 h0_0_f1 h0_0_f2 h0_0_f3 h0_4 h0_4k h0_4c h1 h1_f0 h1_f1 h1_f2 h1_f3 h1_4 h1_5 h1_6 h1_7 h1_8 h1_9 h1_10 h1_11 h1_12 h1_8 h1_8k w_35 h0_3 h0_3k h0_3c h1_11 h1_11k h1_11c h1_12 h1_12k h1_12c) H := hP
    have hD : va_D A (wd_c_X10_holdCount h0 h0_0 h0_1 h0_2 h0_3 h0_4 h0_5 h0_0 h0_0_0 h0_0_f1 h0_0_f2 h0_0_f3 h0_4 h0_4k h0_4c h1 h1_f0 h1_f1 h1_f2 h1_f3 h1_4 h1_5 h1_6 h1_7 h1_8 h1_9 h1_10 h1_11 h1_12 h1_8 h1_8k w_35 h0_3 h0_3k h0_3c h1_11 h1_11k h1_11c h1_12 h1_12k h1_12c) := hD
    exact hU _ _ _ (J20 w_35 g_h0_0_f1 g_h0_0_f2 g_h0_0_f3 _ _ _ hP hD hS (lv_sub hl [1, 2] rfl))
noncomputable def wd_c_X7_rowOn (a0 : Nat) (a1 : Int32) (a2 : Int32) (a3 : Int32) (a4 : Int32) (a5 : Nat) (a6 : Nat) (a7 : Nat) (a8 : Nat) (a9 : Nat) (a10 : Nat) (a11 : Nat) (a12 : Nat) (a13 : Nat) (a14 : Nat) (a15 : ClassId) (a16 : Nat → Int32) (a17 : Nat) (a18 : ClassId) (a19 : Nat → Int32) (a20 : Nat) (a21 : ClassId) (a22 : Nat → Int32) (a23 : Nat) (a24 : ClassId) (a25 : Nat → Int32) : va_W := [(a0, .inr (7, [.int a1, .int a2, .int a3, .int a4, .ref a5, .ref a6, .ref a7, .ref a8, .ref a9, .ref a10, .ref a11, .ref a12, .ref a13])), (a14, .inl (a15, 3, .inl a16)), (a17, .inl (a18, 3, .inl a19)), (a20, .inl (a21, 3, .inl a22)), (a23, .inl (a24, 3, .inl a25))]
noncomputable def wf_c_X7_rowOn : List Cond := List.cons (.code yX7_rowOn cX7_rowOn 7 none) (@HAppend.hAppend (List Cond) (List Cond) (List Cond) _ [.fieldLink RX7 18 "BuoyVote$Sea" "goalX" "[I", .fieldLink RX7 9 "BuoyVote$Sea" "x" "[I", .methodLink RX7 99 Lib.Math.abs.name, .static Lib.Math.abs.name, .initialized "java/lang/Math", .code Lib.Math.abs.name Lib.Math.abs.code 1 (some .int), .methodLink RX7 94 Lib.Math.min.name, .static Lib.Math.min.name, .code Lib.Math.min.name Lib.Math.min.code 2 (some .int), .fieldLink RX7 21 "BuoyVote$Sea" "goalY" "[I", .fieldLink RX7 15 "BuoyVote$Sea" "y" "[I"] wsX70)
theorem iw_c_X7_rowOn_X7 : ∀ w ∈ wsX70, w ∈ wf_c_X7_rowOn := fun w h => List.mem_cons_of_mem _ (List.mem_append_right _ h)
set_option maxHeartbeats 4000000 in
set_option maxRecDepth 100000 in
theorem c_X7_rowOn (l : Launch) (dC : Nat → ClassId) (dI : Nat → Nat → Nat) (sz : Nat) (h0 : Nat) (p1 : Int32) (p2 : Int32) (h0_f0 : Int32) (h0_f1 : Int32) (h0_f2 : Int32) (h0_f3 : Int32) (h0_4 : Nat) (h0_5 : Nat) (h0_6 : Nat) (h0_7 : Nat) (h0_8 : Nat) (h0_9 : Nat) (h0_10 : Nat) (h0_11 : Nat) (h0_12 : Nat) (h0_6k : ClassId) (h0_6c : Nat → Int32) (h0_4k : ClassId) (h0_4c : Nat → Int32) (h0_7k : ClassId) (h0_7c : Nat → Int32) (h0_5k : ClassId) (h0_5c : Nat → Int32) (g_p1 : RG p1 0 2) : Met l yX7_rowOn wf_c_X7_rowOn ({ frames := 1, cells := 0, slots := 0, locals := 14 }) (va_Pc [.ref h0, .int p1, .int p2] (fun U => U.heap.size = sz ∧ va_P (dC, dI) vwCl (wd_c_X7_rowOn h0 h0_f0 h0_f1 h0_f2 h0_f3 h0_4 h0_5 h0_6 h0_7 h0_8 h0_9 h0_10 h0_11 h0_12 h0_6 h0_6k h0_6c h0_4 h0_4k h0_4c h0_7 h0_7k h0_7c h0_5 h0_5k h0_5c) U.heap ∧ va_K (dC, dI) vwCl [(h0_6k, .int), (h0_4k, .int), (h0_7k, .int), (h0_5k, .int)] U ∧ va_D (fun _ => True) (wd_c_X7_rowOn h0 h0_f0 h0_f1 h0_f2 h0_f3 h0_4 h0_5 h0_6 h0_7 h0_8 h0_9 h0_10 h0_11 h0_12 h0_6 h0_6k h0_6c h0_4 h0_4k h0_4c h0_7 h0_7k h0_7c h0_5 h0_5k h0_5c))) (va_Qv (fun (u : (Nat → Int32) × (Nat → Int32)) => (True)) (fun (u : (Nat → Int32) × (Nat → Int32)) t => va_P (dC, dI) vwCl (wd_c_X7_rowOn h0 h0_f0 h0_f1 h0_f2 h0_f3 h0_4 h0_5 h0_6 h0_7 h0_8 h0_9 h0_10 h0_11 h0_12 h0_6 h0_6k h0_6c h0_4 h0_4k (u.1) h0_7 h0_7k h0_7c h0_5 h0_5k (u.2)) t.heap ∧ va_K (dC, dI) vwCl [] t ∧ va_D (va_A (wd_c_X7_rowOn h0 h0_f0 h0_f1 h0_f2 h0_f3 h0_4 h0_5 h0_6 h0_7 h0_8 h0_9 h0_10 h0_11 h0_12 h0_6 h0_6k h0_6c h0_4 h0_4k h0_4c h0_7 h0_7k h0_7c h0_5 h0_5k h0_5c) sz) (wd_c_X7_rowOn h0 h0_f0 h0_f1 h0_f2 h0_f3 h0_4 h0_5 h0_6 h0_7 h0_8 h0_9 h0_10 h0_11 h0_12 h0_6 h0_6k h0_6c h0_4 h0_4k (u.1) h0_7 h0_7k h0_7c h0_5 h0_5k (u.2))) (va_A (wd_c_X7_rowOn h0 h0_f0 h0_f1 h0_f2 h0_f3 h0_4 h0_5 h0_6 h0_7 h0_8 h0_9 h0_10 h0_11 h0_12 h0_6 h0_6k h0_6c h0_4 h0_4k h0_4c h0_7 h0_7k h0_7c h0_5 h0_5k h0_5c) sz)) 0 0 (va_A (wd_c_X7_rowOn h0 h0_f0 h0_f1 h0_f2 h0_f3 h0_4 h0_5 h0_6 h0_7 h0_8 h0_9 h0_10 h0_11 h0_12 h0_6 h0_6k h0_6c h0_4 h0_4k h0_4c h0_7 h0_7k h0_7c h0_5 h0_5k h0_5c) sz) := by
  refine Met.ofW (cc := cX7_rowOn) (maxL := 7) (ret := none) (by decide +kernel) rfl ?_
  intro p e s m args below meth c s₁ B hml hv
  obtain ⟨rfl, hsz, hP, hK, hD0⟩ := hv
  have hx := B.exec
  have hb := B.bytes
  have hr := B.returns
  have hts := atoms_spec (ws := wf_c_X7_rowOn) B.pre
  have hown : s.vm.findClass RX7 = some m.cls := findClass_of_methodNamed B.named
  have hlocks := B.notSynchronized
  subst hsz
  have hD := hD0.self (sz := s.heap.size)
  generalize hAe : va_A (wd_c_X7_rowOn h0 h0_f0 h0_f1 h0_f2 h0_f3 h0_4 h0_5 h0_6 h0_7 h0_8 h0_9 h0_10 h0_11 h0_12 h0_6 h0_6k h0_6c h0_4 h0_4k h0_4c h0_7 h0_7k h0_7c h0_5 h0_5k h0_5c) s.heap.size = A at hD ⊢
  have hA : ∀ q : Nat, s.heap.size ≤ q → A q := fun q h => by rw [← hAe]; exact Or.inr h
  have hP : va_P (dC, dI) vwCl (wd_c_X7_rowOn h0 h0_f0 h0_f1 h0_f2 h0_f3 h0_4 h0_5 h0_6 h0_7 h0_8 h0_9 h0_10 h0_11 h0_12 h0_6 h0_6k h0_6c h0_4 h0_4k h0_4c h0_7 h0_7k h0_7c h0_5 h0_5k h0_5c) s.heap := hP
  have hl := lv_entry ([.ref h0, .int p1, .int p2]) (n := 7) (Nat.le_of_ble_eq_true rfl)
  rw [lg_entry_eq]
  generalize (lg_sl ([.ref h0, .int p1, .int p2]) ++ List.replicate (7 - (lg_sl ([.ref h0, .int p1, .int p2])).length) Slot.unset).toArray = ls at hl ⊢
  have hl : lv_has ls 7 [(0, .ref h0), (1, .int p1), (2, .int p2)] := hl
  obtain ⟨H, hHe⟩ : ∃ H : Heap, s.heap = H := ⟨_, rfl⟩
  have hS : va_S A s.heap H [] := by rw [hHe]; exact va_S.rf
  have hP : va_P (dC, dI) vwCl (wd_c_X7_rowOn h0 h0_f0 h0_f1 h0_f2 h0_f3 h0_4 h0_5 h0_6 h0_7 h0_8 h0_9 h0_10 h0_11 h0_12 h0_6 h0_6k h0_6c h0_4 h0_4k h0_4c h0_7 h0_7k h0_7c h0_5 h0_5k h0_5c) H := by rw [← hHe]; exact hP
  rw [hHe]
  refine wj (fun G hG hU => ?_)
  as_aux_lemma =>
  have J94 : ∀ (j94_s2 : Int32) (j94_s3 : Int32) (j94_h0_4c : Nat → Int32) (g_p1 : RG p1 0 2) (H : Heap) (locs : List Loc) (ls : Array Slot) (hP : va_P (dC, dI) vwCl (wd_c_X7_rowOn h0 h0_f0 h0_f1 h0_f2 h0_f3 h0_4 h0_5 h0_6 h0_7 h0_8 h0_9 h0_10 h0_11 h0_12 h0_6 h0_6k h0_6c h0_4 h0_4k j94_h0_4c h0_7 h0_7k h0_7c h0_5 h0_5k h0_5c) H) (hD : va_D A (wd_c_X7_rowOn h0 h0_f0 h0_f1 h0_f2 h0_f3 h0_4 h0_5 h0_6 h0_7 h0_8 h0_9 h0_10 h0_11 h0_12 h0_6 h0_6k h0_6c h0_4 h0_4k j94_h0_4c h0_7 h0_7k h0_7c h0_5 h0_5k h0_5c)) (hS : va_S A s.heap H locs) (hl : lv_has ls 7 []), G H locs (F0 m 94 ls [.int j94_s3, .int j94_s2, .int p1, .ref h0_5]) := by
    as_aux_lemma =>
    intro j94_s2 j94_s3 j94_h0_4c g_p1 H locs ls hP hD hS hl
    refine hG _ _ _ ?_
    refine lv_iadd hx hb dX7_rowOn_94 ?_
    refine lv_topi (fun x_1 ex_1 => ?_)
    refine va_iast hx hb hK hP hD hS 4 3 rfl rfl (RG_in g_p1 (by decide +kernel)) dX7_rowOn_95 (fun H locs hP hD hS => ?_)
    have hP : va_P (dC, dI) vwCl (wd_c_X7_rowOn h0 h0_f0 h0_f1 h0_f2 h0_f3 h0_4 h0_5 h0_6 h0_7 h0_8 h0_9 h0_10 h0_11 h0_12 h0_6 h0_6k h0_6c h0_4 h0_4k j94_h0_4c h0_7 h0_7k h0_7c h0_5 h0_5k (upd h0_5c (p1 : Int32).toNatClampNeg x_1)) H := hP
    have hD : va_D A (wd_c_X7_rowOn h0 h0_f0 h0_f1 h0_f2 h0_f3 h0_4 h0_5 h0_6 h0_7 h0_8 h0_9 h0_10 h0_11 h0_12 h0_6 h0_6k h0_6c h0_4 h0_4k j94_h0_4c h0_7 h0_7k h0_7c h0_5 h0_5k (upd h0_5c (p1 : Int32).toNatClampNeg x_1)) := hD
    have l_3 : (upd h0_5c (p1 : Int32).toNatClampNeg x_1) (p1 : Int32).toNatClampNeg = x_1 := pk_us
    generalize (upd h0_5c (p1 : Int32).toNatClampNeg x_1) = w_2 at hP hD l_3
    have hP : va_P (dC, dI) vwCl (wd_c_X7_rowOn h0 h0_f0 h0_f1 h0_f2 h0_f3 h0_4 h0_5 h0_6 h0_7 h0_8 h0_9 h0_10 h0_11 h0_12 h0_6 h0_6k h0_6c h0_4 h0_4k j94_h0_4c h0_7 h0_7k h0_7c h0_5 h0_5k w_2) H := hP
    have hD : va_D A (wd_c_X7_rowOn h0 h0_f0 h0_f1 h0_f2 h0_f3 h0_4 h0_5 h0_6 h0_7 h0_8 h0_9 h0_10 h0_11 h0_12 h0_6 h0_6k h0_6c h0_4 h0_4k j94_h0_4c h0_7 h0_7k h0_7c h0_5 h0_5k w_2) := hD
    have hK9 := hK.sub (tys' := []) [] rfl
    exact W.vret hx hb hr (fun t ht hW => ⟨⟨(j94_h0_4c, w_2), rfl, trivial, by rw [ht]; exact hP, va_K.moved hW.alike hK9, hD⟩, hS.F ht⟩) hS.2.2 dX7_rowOn_96
  have J43 : ∀ (j43_l4 : Int32) (j43_s2 : Int32) (j43_s3 : Int32) (g_p1 : RG p1 0 2) (H : Heap) (locs : List Loc) (ls : Array Slot) (hP : va_P (dC, dI) vwCl (wd_c_X7_rowOn h0 h0_f0 h0_f1 h0_f2 h0_f3 h0_4 h0_5 h0_6 h0_7 h0_8 h0_9 h0_10 h0_11 h0_12 h0_6 h0_6k h0_6c h0_4 h0_4k h0_4c h0_7 h0_7k h0_7c h0_5 h0_5k h0_5c) H) (hD : va_D A (wd_c_X7_rowOn h0 h0_f0 h0_f1 h0_f2 h0_f3 h0_4 h0_5 h0_6 h0_7 h0_8 h0_9 h0_10 h0_11 h0_12 h0_6 h0_6k h0_6c h0_4 h0_4k h0_4c h0_7 h0_7k h0_7c h0_5 h0_5k h0_5c)) (hS : va_S A s.heap H locs) (hl : lv_has ls 7 [(4, .int j43_l4), (0, .ref h0), (1, .int p1), (2, .int p2)]), G H locs (F0 m 43 ls [.int j43_s3, .int j43_s2, .int p1, .ref h0_4]) := by
    as_aux_lemma =>
    intro j43_l4 j43_s2 j43_s3 g_p1 H locs ls hP hD hS hl
    refine hG _ _ _ ?_
    refine lv_iadd hx hb dX7_rowOn_43 ?_
    refine lv_topi (fun x_4 ex_4 => ?_)
    refine va_iast hx hb hK hP hD hS 2 1 rfl rfl (RG_in g_p1 (by decide +kernel)) dX7_rowOn_44 (fun H locs hP hD hS => ?_)
    have hP : va_P (dC, dI) vwCl (wd_c_X7_rowOn h0 h0_f0 h0_f1 h0_f2 h0_f3 h0_4 h0_5 h0_6 h0_7 h0_8 h0_9 h0_10 h0_11 h0_12 h0_6 h0_6k h0_6c h0_4 h0_4k (upd h0_4c (p1 : Int32).toNatClampNeg x_4) h0_7 h0_7k h0_7c h0_5 h0_5k h0_5c) H := hP
    have hD : va_D A (wd_c_X7_rowOn h0 h0_f0 h0_f1 h0_f2 h0_f3 h0_4 h0_5 h0_6 h0_7 h0_8 h0_9 h0_10 h0_11 h0_12 h0_6 h0_6k h0_6c h0_4 h0_4k (upd h0_4c (p1 : Int32).toNatClampNeg x_4) h0_7 h0_7k h0_7c h0_5 h0_5k h0_5c) := hD
    have l_6 : (upd h0_4c (p1 : Int32).toNatClampNeg x_4) (p1 : Int32).toNatClampNeg = x_4 := pk_us
    generalize (upd h0_4c (p1 : Int32).toNatClampNeg x_4) = w_5 at hP hD l_6
    have hP : va_P (dC, dI) vwCl (wd_c_X7_rowOn h0 h0_f0 h0_f1 h0_f2 h0_f3 h0_4 h0_5 h0_6 h0_7 h0_8 h0_9 h0_10 h0_11 h0_12 h0_6 h0_6k h0_6c h0_4 h0_4k w_5 h0_7 h0_7k h0_7c h0_5 h0_5k h0_5c) H := hP
    have hD : va_D A (wd_c_X7_rowOn h0 h0_f0 h0_f1 h0_f2 h0_f3 h0_4 h0_5 h0_6 h0_7 h0_8 h0_9 h0_10 h0_11 h0_12 h0_6 h0_6k h0_6c h0_4 h0_4k w_5 h0_7 h0_7k h0_7c h0_5 h0_5k h0_5c) := hD
    refine lv_aload_n hx hb dX7_rowOn_45 rfl (lv_at hl 1 rfl) ?_
    refine va_get (D := (dC, dI)) (ci := 7) (v := .ref h0_7) (C := RX7) (T := TX7) (N := 13) hx hb hts iw_c_X7_rowOn_X7 hown hK hP 0 rfl rfl 7 (by decide +kernel) (hts (.fieldLink RX7 21 "BuoyVote$Sea" "goalY" "[I") (List.mem_of_getElem? (i := 10) rfl)) (fun _ h9 => h9) rfl dX7_rowOn_46 ?_
    refine lv_iload_n hx hb dX7_rowOn_49 rfl (lv_at hl 2 rfl) ?_
    as_aux_lemma =>
    refine va_iald hx hb hK hP 3 2 rfl rfl (RG_in g_p1 (by decide +kernel)) dX7_rowOn_50 ?_
    refine lv_topi (fun x_7 ex_7 => ?_)
    refine lv_aload_n hx hb dX7_rowOn_51 rfl (lv_at hl 1 rfl) ?_
    refine va_get (D := (dC, dI)) (ci := 7) (v := .ref h0_5) (C := RX7) (T := TX7) (N := 13) hx hb hts iw_c_X7_rowOn_X7 hown hK hP 0 rfl rfl 5 (by decide +kernel) (hts (.fieldLink RX7 15 "BuoyVote$Sea" "y" "[I") (List.mem_of_getElem? (i := 11) rfl)) (fun _ h9 => h9) rfl dX7_rowOn_52 ?_
    refine lv_iload_n hx hb dX7_rowOn_55 rfl (lv_at hl 2 rfl) ?_
    refine va_iald hx hb hK hP 4 3 rfl rfl (RG_in g_p1 (by decide +kernel)) dX7_rowOn_56 ?_
    refine lv_topi (fun x_8 ex_8 => ?_)
    refine lv_isub hx hb dX7_rowOn_57 ?_
    refine lv_topi (fun x_9 ex_9 => ?_)
    refine lv_istore (lv' := [(5, .int x_9), (4, .int j43_l4), (0, .ref h0), (1, .int p1), (2, .int p2)]) hx hb dX7_rowOn_58 hl (Nat.le_of_ble_eq_true rfl) rfl (fun ls hl => ?_)
    refine lv_iload_n hx hb dX7_rowOn_60 rfl (lv_at hl 4 rfl) ?_
    refine lv_iload hx hb dX7_rowOn_61 (lv_at hl 1 rfl) ?_
    refine lv_isub hx hb dX7_rowOn_63 ?_
    refine lv_topi (fun x_10 ex_10 => ?_)
    as_aux_lemma =>
    refine lv_iload hx hb dX7_rowOn_64 (lv_at hl 0 rfl) ?_
    refine va_mabs hx hb (by rw [hml]; exact hl.1.symm) hown (hts (.methodLink RX7 99 Lib.Math.abs.name) (List.mem_of_getElem? (i := 3) rfl)) (hts (.static Lib.Math.abs.name) (List.mem_of_getElem? (i := 4) rfl)) (hts (.initialized "java/lang/Math") (List.mem_of_getElem? (i := 5) rfl)) (hts (.code Lib.Math.abs.name Lib.Math.abs.code 1 (some .int)) (List.mem_of_getElem? (i := 6) rfl)) (Nat.le_of_ble_eq_true rfl) (Nat.le_of_ble_eq_true rfl) (Nat.le_of_ble_eq_true rfl) (Nat.le_of_ble_eq_true rfl) dX7_rowOn_66 ?_
    refine lv_topi (fun x_11 ex_11 => ?_)
    refine va_mmin hx hb (by rw [hml]; exact hl.1.symm) hown (hts (.methodLink RX7 94 Lib.Math.min.name) (List.mem_of_getElem? (i := 7) rfl)) (hts (.static Lib.Math.min.name) (List.mem_of_getElem? (i := 8) rfl)) (hts (.initialized "java/lang/Math") (List.mem_of_getElem? (i := 5) rfl)) (hts (.code Lib.Math.min.name Lib.Math.min.code 2 (some .int)) (List.mem_of_getElem? (i := 9) rfl)) (Nat.le_of_ble_eq_true rfl) (Nat.le_of_ble_eq_true rfl) (Nat.le_of_ble_eq_true rfl) (Nat.le_of_ble_eq_true rfl) dX7_rowOn_69 ?_
    refine lv_topi (fun x_12 ex_12 => ?_)
    refine lv_istore (lv' := [(6, .int x_12), (5, .int x_9), (4, .int j43_l4), (0, .ref h0), (1, .int p1), (2, .int p2)]) hx hb dX7_rowOn_72 hl (Nat.le_of_ble_eq_true rfl) rfl (fun ls hl => ?_)
    refine lv_aload_n hx hb dX7_rowOn_74 rfl (lv_at hl 3 rfl) ?_
    refine va_get (D := (dC, dI)) (ci := 7) (v := .ref h0_5) (C := RX7) (T := TX7) (N := 13) hx hb hts iw_c_X7_rowOn_X7 hown hK hP 0 rfl rfl 5 (by decide +kernel) (hts (.fieldLink RX7 15 "BuoyVote$Sea" "y" "[I") (List.mem_of_getElem? (i := 11) rfl)) (fun _ h9 => h9) rfl dX7_rowOn_75 ?_
    refine lv_iload_n hx hb dX7_rowOn_78 rfl (lv_at hl 4 rfl) ?_
    refine lv_dup2_11 hx hb dX7_rowOn_79 rfl rfl ?_
    refine va_iald hx hb hK hP 4 3 rfl rfl (RG_in g_p1 (by decide +kernel)) dX7_rowOn_80 ?_
    refine lv_topi (fun x_13 ex_13 => ?_)
    obtain rfl : x_8 = x_13 := (ex_13.trans ex_8.symm).symm
    refine lv_iload hx hb dX7_rowOn_81 (lv_at hl 1 rfl) ?_
    as_aux_lemma =>
    refine lv_if_ge (tgt := 92) hx hb dX7_rowOn_83 rfl (fun c_14 => ?_) (fun c_14 => ?_)
    · have g_15 : RG x_9 0 2147483647 := RG_le2 (RG_k 0 0 rfl) (RG_any x_9) c_14 (by decide +kernel)
      refine lv_iload hx hb dX7_rowOn_92 (lv_at hl 0 rfl) ?_
      exact hU _ _ _ (J94 x_8 x_12 w_5 g_p1 _ _ _ hP hD hS (lv_sub hl [] rfl))
    · have d_16 := Int32.not_le.mp c_14
      have g_17 : RG x_9 (-2147483648) (-1) := RG_lt1 (RG_any x_9) (RG_k 0 0 rfl) d_16 (by decide +kernel)
      refine lv_iload hx hb dX7_rowOn_86 (lv_at hl 0 rfl) ?_
      refine lv_ineg hx hb dX7_rowOn_88 ?_
      refine lv_topi (fun x_18 ex_18 => ?_)
      refine lv_goto (tgt := 94) hx hb dX7_rowOn_89 rfl ?_
      exact hU _ _ _ (J94 x_8 x_18 w_5 g_p1 _ _ _ hP hD hS (lv_sub hl [] rfl))
  refine hG _ _ _ ?_
  refine lv_aload_n hx hb dX7_rowOn_0 rfl (lv_at hl 0 rfl) ?_
  refine va_get (D := (dC, dI)) (ci := 7) (v := .ref h0_6) (C := RX7) (T := TX7) (N := 13) hx hb hts iw_c_X7_rowOn_X7 hown hK hP 0 rfl rfl 6 (by decide +kernel) (hts (.fieldLink RX7 18 "BuoyVote$Sea" "goalX" "[I") (List.mem_of_getElem? (i := 1) rfl)) (fun _ h9 => h9) rfl dX7_rowOn_1 ?_
  as_aux_lemma =>
  refine lv_iload_n hx hb dX7_rowOn_4 rfl (lv_at hl 1 rfl) ?_
  refine va_iald hx hb hK hP 1 0 rfl rfl (RG_in g_p1 (by decide +kernel)) dX7_rowOn_5 ?_
  refine lv_topi (fun x_19 ex_19 => ?_)
  refine lv_aload_n hx hb dX7_rowOn_6 rfl (lv_at hl 0 rfl) ?_
  refine va_get (D := (dC, dI)) (ci := 7) (v := .ref h0_4) (C := RX7) (T := TX7) (N := 13) hx hb hts iw_c_X7_rowOn_X7 hown hK hP 0 rfl rfl 4 (by decide +kernel) (hts (.fieldLink RX7 9 "BuoyVote$Sea" "x" "[I") (List.mem_of_getElem? (i := 2) rfl)) (fun _ h9 => h9) rfl dX7_rowOn_7 ?_
  refine lv_iload_n hx hb dX7_rowOn_10 rfl (lv_at hl 1 rfl) ?_
  refine va_iald hx hb hK hP 2 1 rfl rfl (RG_in g_p1 (by decide +kernel)) dX7_rowOn_11 ?_
  refine lv_topi (fun x_20 ex_20 => ?_)
  refine lv_isub hx hb dX7_rowOn_12 ?_
  refine lv_topi (fun x_21 ex_21 => ?_)
  refine lv_istore_n (lv' := [(3, .int x_21), (0, .ref h0), (1, .int p1), (2, .int p2)]) hx hb dX7_rowOn_13 rfl hl (Nat.le_of_ble_eq_true rfl) rfl (fun ls hl => ?_)
  refine lv_iload_n hx hb dX7_rowOn_14 rfl (lv_at hl 3 rfl) ?_
  refine lv_iload_n hx hb dX7_rowOn_15 rfl (lv_at hl 0 rfl) ?_
  refine va_mabs hx hb (by rw [hml]; exact hl.1.symm) hown (hts (.methodLink RX7 99 Lib.Math.abs.name) (List.mem_of_getElem? (i := 3) rfl)) (hts (.static Lib.Math.abs.name) (List.mem_of_getElem? (i := 4) rfl)) (hts (.initialized "java/lang/Math") (List.mem_of_getElem? (i := 5) rfl)) (hts (.code Lib.Math.abs.name Lib.Math.abs.code 1 (some .int)) (List.mem_of_getElem? (i := 6) rfl)) (Nat.le_of_ble_eq_true rfl) (Nat.le_of_ble_eq_true rfl) (Nat.le_of_ble_eq_true rfl) (Nat.le_of_ble_eq_true rfl) dX7_rowOn_16 ?_
  as_aux_lemma =>
  refine lv_topi (fun x_22 ex_22 => ?_)
  refine va_mmin hx hb (by rw [hml]; exact hl.1.symm) hown (hts (.methodLink RX7 94 Lib.Math.min.name) (List.mem_of_getElem? (i := 7) rfl)) (hts (.static Lib.Math.min.name) (List.mem_of_getElem? (i := 8) rfl)) (hts (.initialized "java/lang/Math") (List.mem_of_getElem? (i := 5) rfl)) (hts (.code Lib.Math.min.name Lib.Math.min.code 2 (some .int)) (List.mem_of_getElem? (i := 9) rfl)) (Nat.le_of_ble_eq_true rfl) (Nat.le_of_ble_eq_true rfl) (Nat.le_of_ble_eq_true rfl) (Nat.le_of_ble_eq_true rfl) dX7_rowOn_19 ?_
  refine lv_topi (fun x_23 ex_23 => ?_)
  refine lv_istore (lv' := [(4, .int x_23), (3, .int x_21), (0, .ref h0), (1, .int p1), (2, .int p2)]) hx hb dX7_rowOn_22 hl (Nat.le_of_ble_eq_true rfl) rfl (fun ls hl => ?_)
  refine lv_aload_n hx hb dX7_rowOn_24 rfl (lv_at hl 2 rfl) ?_
  refine va_get (D := (dC, dI)) (ci := 7) (v := .ref h0_4) (C := RX7) (T := TX7) (N := 13) hx hb hts iw_c_X7_rowOn_X7 hown hK hP 0 rfl rfl 4 (by decide +kernel) (hts (.fieldLink RX7 9 "BuoyVote$Sea" "x" "[I") (List.mem_of_getElem? (i := 2) rfl)) (fun _ h9 => h9) rfl dX7_rowOn_25 ?_
  refine lv_iload_n hx hb dX7_rowOn_28 rfl (lv_at hl 3 rfl) ?_
  refine lv_dup2_11 hx hb dX7_rowOn_29 rfl rfl ?_
  refine va_iald hx hb hK hP 2 1 rfl rfl (RG_in g_p1 (by decide +kernel)) dX7_rowOn_30 ?_
  refine lv_topi (fun x_24 ex_24 => ?_)
  obtain rfl : x_20 = x_24 := (ex_24.trans ex_20.symm).symm
  refine lv_iload_n hx hb dX7_rowOn_31 rfl (lv_at hl 1 rfl) ?_
  refine lv_if_ge (tgt := 41) hx hb dX7_rowOn_32 rfl (fun c_25 => ?_) (fun c_25 => ?_)
  · have g_26 : RG x_21 0 2147483647 := RG_le2 (RG_k 0 0 rfl) (RG_any x_21) c_25 (by decide +kernel)
    refine lv_iload hx hb dX7_rowOn_41 (lv_at hl 0 rfl) ?_
    as_aux_lemma =>
    exact hU _ _ _ (J43 x_23 x_20 x_23 g_p1 _ _ _ hP hD hS (lv_sub hl [0, 2, 3, 4] rfl))
  · have d_27 := Int32.not_le.mp c_25
    have g_28 : RG x_21 (-2147483648) (-1) := RG_lt1 (RG_any x_21) (RG_k 0 0 rfl) d_27 (by decide +kernel)
    refine lv_iload hx hb dX7_rowOn_35 (lv_at hl 0 rfl) ?_
    refine lv_ineg hx hb dX7_rowOn_37 ?_
    refine lv_topi (fun x_29 ex_29 => ?_)
    refine lv_goto (tgt := 43) hx hb dX7_rowOn_38 rfl ?_
    exact hU _ _ _ (J43 x_23 x_20 x_29 g_p1 _ _ _ hP hD hS (lv_sub hl [0, 2, 3, 4] rfl))
noncomputable def wd_c_X10_passHour (a0 : Nat) (a1 : Nat) (a2 : Nat) (a3 : Nat) (a4 : Nat) (a5 : Nat) (a6 : Nat) (a7 : Nat) (a8 : Nat) (a9 : Int32) (a10 : Int32) (a11 : Int32) (a12 : Nat) (a13 : Int32) (a14 : Int32) (a15 : Int32) (a16 : Int32) (a17 : Nat) (a18 : Nat) (a19 : Nat) (a20 : Nat) (a21 : Nat) (a22 : Nat) (a23 : Nat) (a24 : Nat) (a25 : Nat) (a26 : Nat) (a27 : ClassId) (a28 : Nat → Int32) (a29 : Nat) (a30 : ClassId) (a31 : Nat → Int32) (a32 : Nat) (a33 : ClassId) (a34 : Nat → Int32) (a35 : Nat) (a36 : ClassId) (a37 : Nat → Int32) (a38 : Nat) (a39 : ClassId) (a40 : Nat → Int32) (a41 : Nat) (a42 : ClassId) (a43 : Nat → Int32) (a44 : Nat) (a45 : ClassId) (a46 : Nat → Int32) (a47 : Nat) (a48 : ClassId) (a49 : Nat → Int32) (a50 : Nat) (a51 : ClassId) (a52 : Nat → Int32) (a53 : Nat) (a54 : Nat) (a55 : Int32) (a56 : Int32) (a57 : Nat) (a58 : Nat) (a59 : ClassId) (a60 : Nat → Int32) (a61 : Nat) (a62 : ClassId) (a63 : Nat → Option Nat) (a64 : Nat) (a65 : Nat) (a66 : Int32) (a67 : Nat) (a68 : Nat) (a69 : ClassId) (a70 : Nat → Int32) (a71 : Nat) (a72 : ClassId) (a73 : Nat → Int32) (a74 : Nat) (a75 : Nat) (a76 : Int32) (a77 : Nat) (a78 : Nat) (a79 : ClassId) (a80 : Nat → Int32) (a81 : Nat) (a82 : ClassId) (a83 : Nat → Int32) (a84 : Nat) (a85 : Nat) (a86 : Int32) (a87 : Nat) (a88 : Nat) (a89 : ClassId) (a90 : Nat → Int32) (a91 : Nat) (a92 : ClassId) (a93 : Nat → Int32) (a94 : Nat) (a95 : Nat) (a96 : Int32) (a97 : Nat) (a98 : Nat) (a99 : ClassId) (a100 : Nat → Int32) (a101 : Nat) (a102 : ClassId) (a103 : Nat → Int32) (a104 : Nat) (a105 : ClassId) (a106 : Nat → Int32) (a107 : Nat) (a108 : ClassId) (a109 : Nat → Int32) (a110 : Nat) (a111 : ClassId) (a112 : Nat → Int32) : va_W := [(a0, .inr (10, [.ref a1, .ref a2, .ref a3, .ref a4, .ref a5, .ref a6])), (a7, .inr (0, [.ref a8, .int a9, .int a10, .int a11])), (a12, .inr (7, [.int a13, .int a14, .int a15, .int a16, .ref a17, .ref a18, .ref a19, .ref a20, .ref a21, .ref a22, .ref a23, .ref a24, .ref a25])), (a26, .inl (a27, 3, .inl a28)), (a29, .inl (a30, 80, .inl a31)), (a32, .inl (a33, 3, .inl a34)), (a35, .inl (a36, 8, .inl a37)), (a38, .inl (a39, 24, .inl a40)), (a41, .inl (a42, 8, .inl a43)), (a44, .inl (a45, 8, .inl a46)), (a47, .inl (a48, 3, .inl a49)), (a50, .inl (a51, 3, .inl a52)), (a53, .inr (5, [.ref a54, .int a55, .int a56, .ref a57])), (a58, .inl (a59, 6, .inl a60)), (a61, .inl (a62, 5, .inr (.inr (.inr (.inr a63))))), (a64, .inr (4, [.ref a65, .int a66, .ref a67])), (a68, .inl (a69, 240, .inl a70)), (a71, .inl (a72, 64, .inl a73)), (a74, .inr (4, [.ref a75, .int a76, .ref a77])), (a78, .inl (a79, 240, .inl a80)), (a81, .inl (a82, 64, .inl a83)), (a84, .inr (4, [.ref a85, .int a86, .ref a87])), (a88, .inl (a89, 240, .inl a90)), (a91, .inl (a92, 64, .inl a93)), (a94, .inr (4, [.ref a95, .int a96, .ref a97])), (a98, .inl (a99, 240, .inl a100)), (a101, .inl (a102, 64, .inl a103)), (a104, .inl (a105, 3, .inl a106)), (a107, .inl (a108, 3, .inl a109)), (a110, .inl (a111, 3, .inl a112))]
noncomputable def wf_c_X10_passHour : List Cond := List.cons (.code yX10_passHour cX10_passHour 3 none) (@HAppend.hAppend (List Cond) (List Cond) (List Cond) _ (@HAppend.hAppend (List Cond) (List Cond) (List Cond) _ (@HAppend.hAppend (List Cond) (List Cond) (List Cond) _ (@HAppend.hAppend (List Cond) (List Cond) (List Cond) _ (@HAppend.hAppend (List Cond) (List Cond) (List Cond) _ [.fieldLink RX10 9 "BuoyVote$Waters" "told" "LBuoyVote$Borough;", .fieldLink RX10 93 "BuoyVote$Borough" "boats" "I", .fieldLink RX10 60 "BuoyVote$Sea" "hour" "I", .methodLink RX10 111 yX10_tallyUp, .instanceMethod yX10_tallyUp, .selects RX10 yX10_tallyUp yX10_tallyUp, .initialized RX10, .code yX10_tallyUp cX10_tallyUp 4 none, .fieldLink RX10 26 "BuoyVote$Waters" "tally" "[I", .fieldLink RX10 105 "BuoyVote$Borough" "buoys" "I", .fieldLink RX10 23 "BuoyVote$Waters" "leans" "[I", .methodLink RX10 99 yX0_chain, .instanceMethod yX0_chain, .selects RX0 yX0_chain yX0_chain, .initialized RX0, .code yX0_chain cX0_chain 2 (some .int), .fieldLink RX0 11 "BuoyVote$Borough" "values" "[I", .methodLink RX10 102 yX10_leanBy, .instanceMethod yX10_leanBy, .selects RX10 yX10_leanBy yX10_leanBy, .code yX10_leanBy cX10_leanBy 5 (some .int), .fieldLink RX10 19 "BuoyVote$Waters" "draws" "[I", .methodLink RX10 96 yX10_drawOf, .instanceMethod yX10_drawOf, .selects RX10 yX10_drawOf yX10_drawOf, .code yX10_drawOf cX10_drawOf 7 (some .int), .fieldLink RX10 67 "BuoyVote$Sea" "liking" "[I", .fieldLink RX10 70 "BuoyVote$Sea" "old" "[I", .fieldLink RX10 73 "BuoyVote$Sea" "barnacles" "[I", .methodLink RX10 43 yX0_buoyX, .instanceMethod yX0_buoyX, .selects RX0 yX0_buoyX yX0_buoyX, .code yX0_buoyX cX0_buoyX 2 (some .int), .methodLink RX10 50 yX0_buoyY, .instanceMethod yX0_buoyY, .selects RX0 yX0_buoyY yX0_buoyY, .code yX0_buoyY cX0_buoyY 2 (some .int), .methodLink RX10 76 yX7_awayOf, .instanceMethod yX7_awayOf, .selects RX7 yX7_awayOf yX7_awayOf, .initialized RX7, .code yX7_awayOf cX7_awayOf 4 (some .int), .fieldLink RX7 9 "BuoyVote$Sea" "x" "[I", .methodLink RX7 99 Lib.Math.abs.name, .static Lib.Math.abs.name, .initialized "java/lang/Math", .code Lib.Math.abs.name Lib.Math.abs.code 1 (some .int), .fieldLink RX7 15 "BuoyVote$Sea" "y" "[I", .fieldLink RX10 15 "BuoyVote$Waters" "laws" "LBuoyVote$LawBook;", .methodLink RX10 80 yX0_voice, .instanceMethod yX0_voice, .selects RX0 yX0_voice yX0_voice, .code yX0_voice cX0_voice 2 (some .int), .methodLink RX10 83 yX10_pushOf, .instanceMethod yX10_pushOf, .selects RX10 yX10_pushOf yX10_pushOf, .code yX10_pushOf cX10_pushOf 10 (some .int), .fieldLink RX10 38 "BuoyVote$Sea" "x" "[I", .fieldLink RX10 47 "BuoyVote$Sea" "y" "[I", .fieldLink RX10 53 "BuoyVote$Sea" "way" "I", .fieldLink RX10 57 "BuoyVote$Sea" "wind" "I", .methodLink RX10 63 yX10_isRising, .instanceMethod yX10_isRising, .selects RX10 yX10_isRising yX10_isRising, .code yX10_isRising cX10_isRising 3 (some .boolean), .methodLink RX10 32 yX0_tideHours, .instanceMethod yX0_tideHours, .selects RX0 yX0_tideHours yX0_tideHours, .code yX0_tideHours cX0_tideHours 1 (some .int), .methodLink RX10 87 yX5_drawBy, .instanceMethod yX5_drawBy, .selects RX5 yX5_drawBy yX5_drawBy, .initialized RX5, .code yX5_drawBy cX5_drawBy 8 (some .int), .fieldLink RX5 18 "BuoyVote$LawBook" "holding" "I", .fieldLink RX5 26 "BuoyVote$LawBook" "size" "I", .fieldLink RX5 22 "BuoyVote$LawBook" "letters" "[I", .fieldLink RX5 11 "BuoyVote$LawBook" "laws" "[LBuoyVote$Law;", .methodLink RX5 29 yX4_worth, .instanceMethod yX4_worth, .selects RX4 yX4_worth yX4_worth, .initialized RX4, .code yX4_worth cX4_worth 6 (some .int), .fieldLink RX4 20 "BuoyVote$Law" "length" "I", .fieldLink RX4 11 "BuoyVote$Law" "code" "[I", .fieldLink RX4 17 "BuoyVote$Law" "stack" "[I", .methodLink RX4 24 yX4_joinedAt, .instanceMethod yX4_joinedAt, .selects RX4 yX4_joinedAt yX4_joinedAt, .code yX4_joinedAt cX4_joinedAt 7 (some .int), .constantLong RX4 28 (1000000), .constantLong RX4 31 (-1000000), .constant RX4 33 (-1000000), .constant RX4 30 (1000000), .methodLink RX10 127 yX0_countHours, .instanceMethod yX0_countHours, .selects RX0 yX0_countHours yX0_countHours, .code yX0_countHours cX0_countHours 1 (some .int), .methodLink RX10 130 yX10_holdCount, .instanceMethod yX10_holdCount, .selects RX10 yX10_holdCount yX10_holdCount, .code yX10_holdCount cX10_holdCount 5 none, .methodLink RX10 133 yX10_winner, .instanceMethod yX10_winner, .selects RX10 yX10_winner yX10_winner, .code yX10_winner cX10_winner 4 (some .int), .fieldLink RX10 136 "BuoyVote$Sea" "won" "[I", .methodLink RX10 139 Lib.Math.min.name, .static Lib.Math.min.name, .code Lib.Math.min.name Lib.Math.min.code 2 (some .int), .methodLink RX10 120 yX0_speed, .instanceMethod yX0_speed, .selects RX0 yX0_speed yX0_speed, .code yX0_speed cX0_speed 2 (some .int), .methodLink RX10 123 yX7_rowOn, .instanceMethod yX7_rowOn, .selects RX7 yX7_rowOn yX7_rowOn, .code yX7_rowOn cX7_rowOn 7 none, .fieldLink RX7 18 "BuoyVote$Sea" "goalX" "[I", .methodLink RX7 94 Lib.Math.min.name, .fieldLink RX7 21 "BuoyVote$Sea" "goalY" "[I"] wsX100) wsX00) wsX70) wsX50) wsX40)
theorem iw_c_X10_passHour_X10 : ∀ w ∈ wsX100, w ∈ wf_c_X10_passHour := fun w h => List.mem_cons_of_mem _ (List.mem_append_left _ (List.mem_append_left _ (List.mem_append_left _ (List.mem_append_left _ (List.mem_append_right _ h)))))
theorem iw_c_X10_passHour_X0 : ∀ w ∈ wsX00, w ∈ wf_c_X10_passHour := fun w h => List.mem_cons_of_mem _ (List.mem_append_left _ (List.mem_append_left _ (List.mem_append_left _ (List.mem_append_right _ h))))
theorem iw_c_X10_passHour_X7 : ∀ w ∈ wsX70, w ∈ wf_c_X10_passHour := fun w h => List.mem_cons_of_mem _ (List.mem_append_left _ (List.mem_append_left _ (List.mem_append_right _ h)))
theorem iw_c_X10_passHour_X5 : ∀ w ∈ wsX50, w ∈ wf_c_X10_passHour := fun w h => List.mem_cons_of_mem _ (List.mem_append_left _ (List.mem_append_right _ h))
theorem iw_c_X10_passHour_X4 : ∀ w ∈ wsX40, w ∈ wf_c_X10_passHour := fun w h => List.mem_cons_of_mem _ (List.mem_append_right _ h)
set_option maxRecDepth 20000 in
theorem gf_c_X10_passHour_c_X10_tallyUp : GoodIn wf_c_X10_passHour (wsV RX10 111 RX10 yX10_tallyUp wf_c_X10_tallyUp) := goodIn_app (gi_l [4, 5, 6, 7] rfl rfl) (gi_cons (j := 8) rfl rfl (goodIn_app (goodIn_app (goodIn_app (goodIn_app (goodIn_app (gi_l [9, 1, 10, 2, 11, 12, 13, 14, 15, 16, 17, 18, 19, 20, 7, 21, 22, 23, 24, 25, 26, 27, 28, 29, 30, 31, 32, 33, 34, 35, 36, 37, 38, 39, 40, 41, 42, 43, 44, 45, 46, 47, 48, 49, 50, 51, 52, 53, 54, 55, 56, 57, 58, 59, 60, 61, 3, 62, 63, 64, 65, 66, 67, 68, 69, 70, 71, 72, 73, 74, 75, 76, 77, 78, 79, 80, 81, 82, 83, 84, 85, 86, 87, 88, 89, 90, 91, 92, 93, 94] rfl rfl) (goodIn_sub iw_c_X10_passHour_X10 gw_X10)) (goodIn_sub iw_c_X10_passHour_X0 gw_X0)) (goodIn_sub iw_c_X10_passHour_X7 gw_X7)) (goodIn_sub iw_c_X10_passHour_X5 gw_X5)) (goodIn_sub iw_c_X10_passHour_X4 gw_X4)))
set_option maxRecDepth 20000 in
theorem gf_c_X10_passHour_c_X0_countHours : GoodIn wf_c_X10_passHour (wsV RX10 127 RX0 yX0_countHours wf_c_X0_countHours) := goodIn_app (gi_l [95, 96, 97, 15] rfl rfl) (gi_cons (j := 98) rfl rfl (goodIn_app (gi_l [17] rfl rfl) (goodIn_sub iw_c_X10_passHour_X0 gw_X0)))
set_option maxRecDepth 20000 in
theorem gf_c_X10_passHour_c_X10_holdCount : GoodIn wf_c_X10_passHour (wsV RX10 130 RX10 yX10_holdCount wf_c_X10_holdCount) := goodIn_app (gi_l [99, 100, 101, 7] rfl rfl) (gi_cons (j := 102) rfl rfl (goodIn_app (goodIn_app (goodIn_app (gi_l [103, 104, 105, 7, 106, 1, 2, 9, 107, 10, 11, 28, 29, 108, 109, 46, 110] rfl rfl) (goodIn_sub iw_c_X10_passHour_X10 gw_X10)) (goodIn_sub iw_c_X10_passHour_X0 gw_X0)) (goodIn_sub iw_c_X10_passHour_X7 gw_X7)))
set_option maxRecDepth 20000 in
theorem gf_c_X10_passHour_c_X0_speed : GoodIn wf_c_X10_passHour (wsV RX10 120 RX0 yX0_speed wf_c_X0_speed) := goodIn_app (gi_l [111, 112, 113, 15] rfl rfl) (gi_cons (j := 114) rfl rfl (goodIn_app (gi_l [17] rfl rfl) (goodIn_sub iw_c_X10_passHour_X0 gw_X0)))
set_option maxRecDepth 20000 in
theorem gf_c_X10_passHour_c_X7_rowOn : GoodIn wf_c_X10_passHour (wsV RX10 123 RX7 yX7_rowOn wf_c_X7_rowOn) := goodIn_app (gi_l [115, 116, 117, 41] rfl rfl) (gi_cons (j := 118) rfl rfl (goodIn_app (gi_l [119, 43, 44, 45, 46, 47, 120, 109, 110, 121, 48] rfl rfl) (goodIn_sub iw_c_X10_passHour_X7 gw_X7)))
set_option maxHeartbeats 4000000 in
set_option maxRecDepth 100000 in
theorem c_X10_passHour (l : Launch) (dC : Nat → ClassId) (dI : Nat → Nat → Nat) (sz : Nat) (h0 : Nat) (h1 : Nat) (h0_0 : Nat) (h0_1 : Nat) (h0_2 : Nat) (h0_3 : Nat) (h0_4 : Nat) (h0_5 : Nat) (h0_0_0 : Nat) (h0_0_f1 : Int32) (h0_0_f2 : Int32) (h0_0_f3 : Int32) (h1_f0 : Int32) (h1_f1 : Int32) (h1_f2 : Int32) (h1_f3 : Int32) (h1_4 : Nat) (h1_5 : Nat) (h1_6 : Nat) (h1_7 : Nat) (h1_8 : Nat) (h1_9 : Nat) (h1_10 : Nat) (h1_11 : Nat) (h1_12 : Nat) (h0_4k : ClassId) (h0_4c : Nat → Int32) (h0_0_0k : ClassId) (h0_0_0c : Nat → Int32) (h0_2k : ClassId) (h0_2c : Nat → Int32) (h0_3k : ClassId) (h0_3c : Nat → Int32) (h1_10k : ClassId) (h1_10c : Nat → Int32) (h1_11k : ClassId) (h1_11c : Nat → Int32) (h1_12k : ClassId) (h1_12c : Nat → Int32) (h1_4k : ClassId) (h1_4c : Nat → Int32) (h1_5k : ClassId) (h1_5c : Nat → Int32) (h0_1_0 : Nat) (h0_1_f1 : Int32) (h0_1_f2 : Int32) (h0_1_3 : Nat) (h0_1_3k : ClassId) (h0_1_3c : Nat → Int32) (h0_1_0k : ClassId) (h0_1_0c : Nat → Option Nat) (h0_1_0_e0 : Nat) (h0_1_0_e1 : Nat) (h0_1_0_e2 : Nat) (h0_1_0_e3 : Nat) (h0_1_0_e4 : Nat) (h0_1_0_e0_0 : Nat) (h0_1_0_e0_f1 : Int32) (h0_1_0_e0_2 : Nat) (h0_1_0_e0_0k : ClassId) (h0_1_0_e0_0c : Nat → Int32) (h0_1_0_e0_2k : ClassId) (h0_1_0_e0_2c : Nat → Int32) (h0_1_0_e1_0 : Nat) (h0_1_0_e1_f1 : Int32) (h0_1_0_e1_2 : Nat) (h0_1_0_e1_0k : ClassId) (h0_1_0_e1_0c : Nat → Int32) (h0_1_0_e1_2k : ClassId) (h0_1_0_e1_2c : Nat → Int32) (h0_1_0_e2_0 : Nat) (h0_1_0_e2_f1 : Int32) (h0_1_0_e2_2 : Nat) (h0_1_0_e2_0k : ClassId) (h0_1_0_e2_0c : Nat → Int32) (h0_1_0_e2_2k : ClassId) (h0_1_0_e2_2c : Nat → Int32) (h0_1_0_e3_0 : Nat) (h0_1_0_e3_f1 : Int32) (h0_1_0_e3_2 : Nat) (h0_1_0_e3_0k : ClassId) (h0_1_0_e3_0c : Nat → Int32) (h0_1_0_e3_2k : ClassId) (h0_1_0_e3_2c : Nat → Int32) (h1_8k : ClassId) (h1_8c : Nat → Int32) (h1_6k : ClassId) (h1_6c : Nat → Int32) (h1_7k : ClassId) (h1_7c : Nat → Int32) (g_h0_0_f1 : RG h0_0_f1 0 8) (g_h0_0_f2 : RG h0_0_f2 0 3) (g_h0_0_f3 : RG h0_0_f3 0 1) (a_h0_0_0c : AI h0_0_0c (-1) 99) (a_h0_3c : AI h0_3c (-1) 2) (g_h0_1_f1 : RG h0_1_f1 0 4) (e_h0_1_0_e0 : h0_1_0c 0 = some h0_1_0_e0) (e_h0_1_0_e1 : h0_1_0c 1 = some h0_1_0_e1) (e_h0_1_0_e2 : h0_1_0c 2 = some h0_1_0_e2) (e_h0_1_0_e3 : h0_1_0c 3 = some h0_1_0_e3) (e_h0_1_0_e4 : h0_1_0c 4 = some h0_1_0_e4) (g_h0_1_0_e0_f1 : RG h0_1_0_e0_f1 0 240) (g_h0_1_0_e1_f1 : RG h0_1_0_e1_f1 0 240) (g_h0_1_0_e2_f1 : RG h0_1_0_e2_f1 0 240) (g_h0_1_0_e3_f1 : RG h0_1_0_e3_f1 0 240) : Met l yX10_passHour wf_c_X10_passHour ({ frames := 5, cells := 0, slots := 0, locals := 127 }) (va_Pc [.ref h0, .ref h1] (fun U => U.heap.size = sz ∧ va_P (dC, dI) vwCl (wd_c_X10_passHour h0 h0_0 h0_1 h0_2 h0_3 h0_4 h0_5 h0_0 h0_0_0 h0_0_f1 h0_0_f2 h0_0_f3 h1 h1_f0 h1_f1 h1_f2 h1_f3 h1_4 h1_5 h1_6 h1_7 h1_8 h1_9 h1_10 h1_11 h1_12 h0_4 h0_4k h0_4c h0_0_0 h0_0_0k h0_0_0c h0_2 h0_2k h0_2c h0_3 h0_3k h0_3c h1_10 h1_10k h1_10c h1_11 h1_11k h1_11c h1_12 h1_12k h1_12c h1_4 h1_4k h1_4c h1_5 h1_5k h1_5c h0_1 h0_1_0 h0_1_f1 h0_1_f2 h0_1_3 h0_1_3 h0_1_3k h0_1_3c h0_1_0 h0_1_0k h0_1_0c h0_1_0_e0 h0_1_0_e0_0 h0_1_0_e0_f1 h0_1_0_e0_2 h0_1_0_e0_0 h0_1_0_e0_0k h0_1_0_e0_0c h0_1_0_e0_2 h0_1_0_e0_2k h0_1_0_e0_2c h0_1_0_e1 h0_1_0_e1_0 h0_1_0_e1_f1 h0_1_0_e1_2 h0_1_0_e1_0 h0_1_0_e1_0k h0_1_0_e1_0c h0_1_0_e1_2 h0_1_0_e1_2k h0_1_0_e1_2c h0_1_0_e2 h0_1_0_e2_0 h0_1_0_e2_f1 h0_1_0_e2_2 h0_1_0_e2_0 h0_1_0_e2_0k h0_1_0_e2_0c h0_1_0_e2_2 h0_1_0_e2_2k h0_1_0_e2_2c h0_1_0_e3 h0_1_0_e3_0 h0_1_0_e3_f1 h0_1_0_e3_2 h0_1_0_e3_0 h0_1_0_e3_0k h0_1_0_e3_0c h0_1_0_e3_2 h0_1_0_e3_2k h0_1_0_e3_2c h1_8 h1_8k h1_8c h1_6 h1_6k h1_6c h1_7 h1_7k h1_7c) U.heap ∧ va_K (dC, dI) vwCl [(h0_4k, .int), (h0_0_0k, .int), (h0_2k, .int), (h0_3k, .int), (h1_10k, .int), (h1_11k, .int), (h1_12k, .int), (h1_4k, .int), (h1_5k, .int), (h0_1_3k, .int), (h0_1_0k, .object RX4), (h0_1_0_e0_0k, .int), (h0_1_0_e0_2k, .int), (h0_1_0_e1_0k, .int), (h0_1_0_e1_2k, .int), (h0_1_0_e2_0k, .int), (h0_1_0_e2_2k, .int), (h0_1_0_e3_0k, .int), (h0_1_0_e3_2k, .int), (h1_8k, .int), (h1_6k, .int), (h1_7k, .int)] U ∧ va_D (fun _ => True) (wd_c_X10_passHour h0 h0_0 h0_1 h0_2 h0_3 h0_4 h0_5 h0_0 h0_0_0 h0_0_f1 h0_0_f2 h0_0_f3 h1 h1_f0 h1_f1 h1_f2 h1_f3 h1_4 h1_5 h1_6 h1_7 h1_8 h1_9 h1_10 h1_11 h1_12 h0_4 h0_4k h0_4c h0_0_0 h0_0_0k h0_0_0c h0_2 h0_2k h0_2c h0_3 h0_3k h0_3c h1_10 h1_10k h1_10c h1_11 h1_11k h1_11c h1_12 h1_12k h1_12c h1_4 h1_4k h1_4c h1_5 h1_5k h1_5c h0_1 h0_1_0 h0_1_f1 h0_1_f2 h0_1_3 h0_1_3 h0_1_3k h0_1_3c h0_1_0 h0_1_0k h0_1_0c h0_1_0_e0 h0_1_0_e0_0 h0_1_0_e0_f1 h0_1_0_e0_2 h0_1_0_e0_0 h0_1_0_e0_0k h0_1_0_e0_0c h0_1_0_e0_2 h0_1_0_e0_2k h0_1_0_e0_2c h0_1_0_e1 h0_1_0_e1_0 h0_1_0_e1_f1 h0_1_0_e1_2 h0_1_0_e1_0 h0_1_0_e1_0k h0_1_0_e1_0c h0_1_0_e1_2 h0_1_0_e1_2k h0_1_0_e1_2c h0_1_0_e2 h0_1_0_e2_0 h0_1_0_e2_f1 h0_1_0_e2_2 h0_1_0_e2_0 h0_1_0_e2_0k h0_1_0_e2_0c h0_1_0_e2_2 h0_1_0_e2_2k h0_1_0_e2_2c h0_1_0_e3 h0_1_0_e3_0 h0_1_0_e3_f1 h0_1_0_e3_2 h0_1_0_e3_0 h0_1_0_e3_0k h0_1_0_e3_0c h0_1_0_e3_2 h0_1_0_e3_2k h0_1_0_e3_2c h1_8 h1_8k h1_8c h1_6 h1_6k h1_6c h1_7 h1_7k h1_7c))) (va_Qv (fun (u : (Int32) × (Nat → Int32) × (Nat → Int32) × (Nat → Int32) × (Nat → Int32) × (Nat → Int32) × (Nat → Int32) × (Nat → Int32) × (Nat → Int32) × (Nat → Int32) × (Nat → Int32) × (Nat → Int32) × (Nat → Int32) × (Nat → Int32)) => (AI (u.2.2.2.1) (-1) 2 ∧ u.1 = h1_f2 + 1)) (fun (u : (Int32) × (Nat → Int32) × (Nat → Int32) × (Nat → Int32) × (Nat → Int32) × (Nat → Int32) × (Nat → Int32) × (Nat → Int32) × (Nat → Int32) × (Nat → Int32) × (Nat → Int32) × (Nat → Int32) × (Nat → Int32) × (Nat → Int32)) t => va_P (dC, dI) vwCl (wd_c_X10_passHour h0 h0_0 h0_1 h0_2 h0_3 h0_4 h0_5 h0_0 h0_0_0 h0_0_f1 h0_0_f2 h0_0_f3 h1 h1_f0 h1_f1 (u.1) h1_f3 h1_4 h1_5 h1_6 h1_7 h1_8 h1_9 h1_10 h1_11 h1_12 h0_4 h0_4k (u.2.1) h0_0_0 h0_0_0k h0_0_0c h0_2 h0_2k (u.2.2.1) h0_3 h0_3k (u.2.2.2.1) h1_10 h1_10k h1_10c h1_11 h1_11k (u.2.2.2.2.1) h1_12 h1_12k (u.2.2.2.2.2.1) h1_4 h1_4k (u.2.2.2.2.2.2.1) h1_5 h1_5k (u.2.2.2.2.2.2.2.1) h0_1 h0_1_0 h0_1_f1 h0_1_f2 h0_1_3 h0_1_3 h0_1_3k (u.2.2.2.2.2.2.2.2.1) h0_1_0 h0_1_0k h0_1_0c h0_1_0_e0 h0_1_0_e0_0 h0_1_0_e0_f1 h0_1_0_e0_2 h0_1_0_e0_0 h0_1_0_e0_0k h0_1_0_e0_0c h0_1_0_e0_2 h0_1_0_e0_2k (u.2.2.2.2.2.2.2.2.2.1) h0_1_0_e1 h0_1_0_e1_0 h0_1_0_e1_f1 h0_1_0_e1_2 h0_1_0_e1_0 h0_1_0_e1_0k h0_1_0_e1_0c h0_1_0_e1_2 h0_1_0_e1_2k (u.2.2.2.2.2.2.2.2.2.2.1) h0_1_0_e2 h0_1_0_e2_0 h0_1_0_e2_f1 h0_1_0_e2_2 h0_1_0_e2_0 h0_1_0_e2_0k h0_1_0_e2_0c h0_1_0_e2_2 h0_1_0_e2_2k (u.2.2.2.2.2.2.2.2.2.2.2.1) h0_1_0_e3 h0_1_0_e3_0 h0_1_0_e3_f1 h0_1_0_e3_2 h0_1_0_e3_0 h0_1_0_e3_0k h0_1_0_e3_0c h0_1_0_e3_2 h0_1_0_e3_2k (u.2.2.2.2.2.2.2.2.2.2.2.2.1) h1_8 h1_8k (u.2.2.2.2.2.2.2.2.2.2.2.2.2) h1_6 h1_6k h1_6c h1_7 h1_7k h1_7c) t.heap ∧ va_K (dC, dI) vwCl [] t ∧ va_D (va_A (wd_c_X10_passHour h0 h0_0 h0_1 h0_2 h0_3 h0_4 h0_5 h0_0 h0_0_0 h0_0_f1 h0_0_f2 h0_0_f3 h1 h1_f0 h1_f1 h1_f2 h1_f3 h1_4 h1_5 h1_6 h1_7 h1_8 h1_9 h1_10 h1_11 h1_12 h0_4 h0_4k h0_4c h0_0_0 h0_0_0k h0_0_0c h0_2 h0_2k h0_2c h0_3 h0_3k h0_3c h1_10 h1_10k h1_10c h1_11 h1_11k h1_11c h1_12 h1_12k h1_12c h1_4 h1_4k h1_4c h1_5 h1_5k h1_5c h0_1 h0_1_0 h0_1_f1 h0_1_f2 h0_1_3 h0_1_3 h0_1_3k h0_1_3c h0_1_0 h0_1_0k h0_1_0c h0_1_0_e0 h0_1_0_e0_0 h0_1_0_e0_f1 h0_1_0_e0_2 h0_1_0_e0_0 h0_1_0_e0_0k h0_1_0_e0_0c h0_1_0_e0_2 h0_1_0_e0_2k h0_1_0_e0_2c h0_1_0_e1 h0_1_0_e1_0 h0_1_0_e1_f1 h0_1_0_e1_2 h0_1_0_e1_0 h0_1_0_e1_0k h0_1_0_e1_0c h0_1_0_e1_2 h0_1_0_e1_2k h0_1_0_e1_2c h0_1_0_e2 h0_1_0_e2_0 h0_1_0_e2_f1 h0_1_0_e2_2 h0_1_0_e2_0 h0_1_0_e2_0k h0_1_0_e2_0c h0_1_0_e2_2 h0_1_0_e2_2k h0_1_0_e2_2c h0_1_0_e3 h0_1_0_e3_0 h0_1_0_e3_f1 h0_1_0_e3_2 h0_1_0_e3_0 h0_1_0_e3_0k h0_1_0_e3_0c h0_1_0_e3_2 h0_1_0_e3_2k h0_1_0_e3_2c h1_8 h1_8k h1_8c h1_6 h1_6k h1_6c h1_7 h1_7k h1_7c) sz) (wd_c_X10_passHour h0 h0_0 h0_1 h0_2 h0_3 h0_4 h0_5 h0_0 h0_0_0 h0_0_f1 h0_0_f2 h0_0_f3 h1 h1_f0 h1_f1 (u.1) h1_f3 h1_4 h1_5 h1_6 h1_7 h1_8 h1_9 h1_10 h1_11 h1_12 h0_4 h0_4k (u.2.1) h0_0_0 h0_0_0k h0_0_0c h0_2 h0_2k (u.2.2.1) h0_3 h0_3k (u.2.2.2.1) h1_10 h1_10k h1_10c h1_11 h1_11k (u.2.2.2.2.1) h1_12 h1_12k (u.2.2.2.2.2.1) h1_4 h1_4k (u.2.2.2.2.2.2.1) h1_5 h1_5k (u.2.2.2.2.2.2.2.1) h0_1 h0_1_0 h0_1_f1 h0_1_f2 h0_1_3 h0_1_3 h0_1_3k (u.2.2.2.2.2.2.2.2.1) h0_1_0 h0_1_0k h0_1_0c h0_1_0_e0 h0_1_0_e0_0 h0_1_0_e0_f1 h0_1_0_e0_2 h0_1_0_e0_0 h0_1_0_e0_0k h0_1_0_e0_0c h0_1_0_e0_2 h0_1_0_e0_2k (u.2.2.2.2.2.2.2.2.2.1) h0_1_0_e1 h0_1_0_e1_0 h0_1_0_e1_f1 h0_1_0_e1_2 h0_1_0_e1_0 h0_1_0_e1_0k h0_1_0_e1_0c h0_1_0_e1_2 h0_1_0_e1_2k (u.2.2.2.2.2.2.2.2.2.2.1) h0_1_0_e2 h0_1_0_e2_0 h0_1_0_e2_f1 h0_1_0_e2_2 h0_1_0_e2_0 h0_1_0_e2_0k h0_1_0_e2_0c h0_1_0_e2_2 h0_1_0_e2_2k (u.2.2.2.2.2.2.2.2.2.2.2.1) h0_1_0_e3 h0_1_0_e3_0 h0_1_0_e3_f1 h0_1_0_e3_2 h0_1_0_e3_0 h0_1_0_e3_0k h0_1_0_e3_0c h0_1_0_e3_2 h0_1_0_e3_2k (u.2.2.2.2.2.2.2.2.2.2.2.2.1) h1_8 h1_8k (u.2.2.2.2.2.2.2.2.2.2.2.2.2) h1_6 h1_6k h1_6c h1_7 h1_7k h1_7c)) (va_A (wd_c_X10_passHour h0 h0_0 h0_1 h0_2 h0_3 h0_4 h0_5 h0_0 h0_0_0 h0_0_f1 h0_0_f2 h0_0_f3 h1 h1_f0 h1_f1 h1_f2 h1_f3 h1_4 h1_5 h1_6 h1_7 h1_8 h1_9 h1_10 h1_11 h1_12 h0_4 h0_4k h0_4c h0_0_0 h0_0_0k h0_0_0c h0_2 h0_2k h0_2c h0_3 h0_3k h0_3c h1_10 h1_10k h1_10c h1_11 h1_11k h1_11c h1_12 h1_12k h1_12c h1_4 h1_4k h1_4c h1_5 h1_5k h1_5c h0_1 h0_1_0 h0_1_f1 h0_1_f2 h0_1_3 h0_1_3 h0_1_3k h0_1_3c h0_1_0 h0_1_0k h0_1_0c h0_1_0_e0 h0_1_0_e0_0 h0_1_0_e0_f1 h0_1_0_e0_2 h0_1_0_e0_0 h0_1_0_e0_0k h0_1_0_e0_0c h0_1_0_e0_2 h0_1_0_e0_2k h0_1_0_e0_2c h0_1_0_e1 h0_1_0_e1_0 h0_1_0_e1_f1 h0_1_0_e1_2 h0_1_0_e1_0 h0_1_0_e1_0k h0_1_0_e1_0c h0_1_0_e1_2 h0_1_0_e1_2k h0_1_0_e1_2c h0_1_0_e2 h0_1_0_e2_0 h0_1_0_e2_f1 h0_1_0_e2_2 h0_1_0_e2_0 h0_1_0_e2_0k h0_1_0_e2_0c h0_1_0_e2_2 h0_1_0_e2_2k h0_1_0_e2_2c h0_1_0_e3 h0_1_0_e3_0 h0_1_0_e3_f1 h0_1_0_e3_2 h0_1_0_e3_0 h0_1_0_e3_0k h0_1_0_e3_0c h0_1_0_e3_2 h0_1_0_e3_2k h0_1_0_e3_2c h1_8 h1_8k h1_8c h1_6 h1_6k h1_6c h1_7 h1_7k h1_7c) sz)) 0 0 (va_A (wd_c_X10_passHour h0 h0_0 h0_1 h0_2 h0_3 h0_4 h0_5 h0_0 h0_0_0 h0_0_f1 h0_0_f2 h0_0_f3 h1 h1_f0 h1_f1 h1_f2 h1_f3 h1_4 h1_5 h1_6 h1_7 h1_8 h1_9 h1_10 h1_11 h1_12 h0_4 h0_4k h0_4c h0_0_0 h0_0_0k h0_0_0c h0_2 h0_2k h0_2c h0_3 h0_3k h0_3c h1_10 h1_10k h1_10c h1_11 h1_11k h1_11c h1_12 h1_12k h1_12c h1_4 h1_4k h1_4c h1_5 h1_5k h1_5c h0_1 h0_1_0 h0_1_f1 h0_1_f2 h0_1_3 h0_1_3 h0_1_3k h0_1_3c h0_1_0 h0_1_0k h0_1_0c h0_1_0_e0 h0_1_0_e0_0 h0_1_0_e0_f1 h0_1_0_e0_2 h0_1_0_e0_0 h0_1_0_e0_0k h0_1_0_e0_0c h0_1_0_e0_2 h0_1_0_e0_2k h0_1_0_e0_2c h0_1_0_e1 h0_1_0_e1_0 h0_1_0_e1_f1 h0_1_0_e1_2 h0_1_0_e1_0 h0_1_0_e1_0k h0_1_0_e1_0c h0_1_0_e1_2 h0_1_0_e1_2k h0_1_0_e1_2c h0_1_0_e2 h0_1_0_e2_0 h0_1_0_e2_f1 h0_1_0_e2_2 h0_1_0_e2_0 h0_1_0_e2_0k h0_1_0_e2_0c h0_1_0_e2_2 h0_1_0_e2_2k h0_1_0_e2_2c h0_1_0_e3 h0_1_0_e3_0 h0_1_0_e3_f1 h0_1_0_e3_2 h0_1_0_e3_0 h0_1_0_e3_0k h0_1_0_e3_0c h0_1_0_e3_2 h0_1_0_e3_2k h0_1_0_e3_2c h1_8 h1_8k h1_8c h1_6 h1_6k h1_6c h1_7 h1_7k h1_7c) sz) := by
  refine Met.ofW (cc := cX10_passHour) (maxL := 3) (ret := none) (by decide +kernel) rfl ?_
  intro p e s m args below meth c s₁ B hml hv
  obtain ⟨rfl, hsz, hP, hK, hD0⟩ := hv
  have hx := B.exec
  have hb := B.bytes
  have hr := B.returns
  have hts := atoms_spec (ws := wf_c_X10_passHour) B.pre
  have hown : s.vm.findClass RX10 = some m.cls := findClass_of_methodNamed B.named
  have hlocks := B.notSynchronized
  subst hsz
  have hD := hD0.self (sz := s.heap.size)
  generalize hAe : va_A (wd_c_X10_passHour h0 h0_0 h0_1 h0_2 h0_3 h0_4 h0_5 h0_0 h0_0_0 h0_0_f1 h0_0_f2 h0_0_f3 h1 h1_f0 h1_f1 h1_f2 h1_f3 h1_4 h1_5 h1_6 h1_7 h1_8 h1_9 h1_10 h1_11 h1_12 h0_4 h0_4k h0_4c h0_0_0 h0_0_0k h0_0_0c h0_2 h0_2k h0_2c h0_3 h0_3k h0_3c h1_10 h1_10k h1_10c h1_11 h1_11k h1_11c h1_12 h1_12k h1_12c h1_4 h1_4k h1_4c h1_5 h1_5k h1_5c h0_1 h0_1_0 h0_1_f1 h0_1_f2 h0_1_3 h0_1_3 h0_1_3k h0_1_3c h0_1_0 h0_1_0k h0_1_0c h0_1_0_e0 h0_1_0_e0_0 h0_1_0_e0_f1 h0_1_0_e0_2 h0_1_0_e0_0 h0_1_0_e0_0k h0_1_0_e0_0c h0_1_0_e0_2 h0_1_0_e0_2k h0_1_0_e0_2c h0_1_0_e1 h0_1_0_e1_0 h0_1_0_e1_f1 h0_1_0_e1_2 h0_1_0_e1_0 h0_1_0_e1_0k h0_1_0_e1_0c h0_1_0_e1_2 h0_1_0_e1_2k h0_1_0_e1_2c h0_1_0_e2 h0_1_0_e2_0 h0_1_0_e2_f1 h0_1_0_e2_2 h0_1_0_e2_0 h0_1_0_e2_0k h0_1_0_e2_0c h0_1_0_e2_2 h0_1_0_e2_2k h0_1_0_e2_2c h0_1_0_e3 h0_1_0_e3_0 h0_1_0_e3_f1 h0_1_0_e3_2 h0_1_0_e3_0 h0_1_0_e3_0k h0_1_0_e3_0c h0_1_0_e3_2 h0_1_0_e3_2k h0_1_0_e3_2c h1_8 h1_8k h1_8c h1_6 h1_6k h1_6c h1_7 h1_7k h1_7c) s.heap.size = A at hD ⊢
  have hA : ∀ q : Nat, s.heap.size ≤ q → A q := fun q h => by rw [← hAe]; exact Or.inr h
  have hP : va_P (dC, dI) vwCl (wd_c_X10_passHour h0 h0_0 h0_1 h0_2 h0_3 h0_4 h0_5 h0_0 h0_0_0 h0_0_f1 h0_0_f2 h0_0_f3 h1 h1_f0 h1_f1 h1_f2 h1_f3 h1_4 h1_5 h1_6 h1_7 h1_8 h1_9 h1_10 h1_11 h1_12 h0_4 h0_4k h0_4c h0_0_0 h0_0_0k h0_0_0c h0_2 h0_2k h0_2c h0_3 h0_3k h0_3c h1_10 h1_10k h1_10c h1_11 h1_11k h1_11c h1_12 h1_12k h1_12c h1_4 h1_4k h1_4c h1_5 h1_5k h1_5c h0_1 h0_1_0 h0_1_f1 h0_1_f2 h0_1_3 h0_1_3 h0_1_3k h0_1_3c h0_1_0 h0_1_0k h0_1_0c h0_1_0_e0 h0_1_0_e0_0 h0_1_0_e0_f1 h0_1_0_e0_2 h0_1_0_e0_0 h0_1_0_e0_0k h0_1_0_e0_0c h0_1_0_e0_2 h0_1_0_e0_2k h0_1_0_e0_2c h0_1_0_e1 h0_1_0_e1_0 h0_1_0_e1_f1 h0_1_0_e1_2 h0_1_0_e1_0 h0_1_0_e1_0k h0_1_0_e1_0c h0_1_0_e1_2 h0_1_0_e1_2k h0_1_0_e1_2c h0_1_0_e2 h0_1_0_e2_0 h0_1_0_e2_f1 h0_1_0_e2_2 h0_1_0_e2_0 h0_1_0_e2_0k h0_1_0_e2_0c h0_1_0_e2_2 h0_1_0_e2_2k h0_1_0_e2_2c h0_1_0_e3 h0_1_0_e3_0 h0_1_0_e3_f1 h0_1_0_e3_2 h0_1_0_e3_0 h0_1_0_e3_0k h0_1_0_e3_0c h0_1_0_e3_2 h0_1_0_e3_2k h0_1_0_e3_2c h1_8 h1_8k h1_8c h1_6 h1_6k h1_6c h1_7 h1_7k h1_7c) s.heap := hP
  have hl := lv_entry ([.ref h0, .ref h1]) (n := 3) (Nat.le_of_ble_eq_true rfl)
  rw [lg_entry_eq]
  generalize (lg_sl ([.ref h0, .ref h1]) ++ List.replicate (3 - (lg_sl ([.ref h0, .ref h1])).length) Slot.unset).toArray = ls at hl ⊢
  have hl : lv_has ls 3 [(0, .ref h0), (1, .ref h1)] := hl
  obtain ⟨H, hHe⟩ : ∃ H : Heap, s.heap = H := ⟨_, rfl⟩
  have hS : va_S A s.heap H [] := by rw [hHe]; exact va_S.rf
  have hP : va_P (dC, dI) vwCl (wd_c_X10_passHour h0 h0_0 h0_1 h0_2 h0_3 h0_4 h0_5 h0_0 h0_0_0 h0_0_f1 h0_0_f2 h0_0_f3 h1 h1_f0 h1_f1 h1_f2 h1_f3 h1_4 h1_5 h1_6 h1_7 h1_8 h1_9 h1_10 h1_11 h1_12 h0_4 h0_4k h0_4c h0_0_0 h0_0_0k h0_0_0c h0_2 h0_2k h0_2c h0_3 h0_3k h0_3c h1_10 h1_10k h1_10c h1_11 h1_11k h1_11c h1_12 h1_12k h1_12c h1_4 h1_4k h1_4c h1_5 h1_5k h1_5c h0_1 h0_1_0 h0_1_f1 h0_1_f2 h0_1_3 h0_1_3 h0_1_3k h0_1_3c h0_1_0 h0_1_0k h0_1_0c h0_1_0_e0 h0_1_0_e0_0 h0_1_0_e0_f1 h0_1_0_e0_2 h0_1_0_e0_0 h0_1_0_e0_0k h0_1_0_e0_0c h0_1_0_e0_2 h0_1_0_e0_2k h0_1_0_e0_2c h0_1_0_e1 h0_1_0_e1_0 h0_1_0_e1_f1 h0_1_0_e1_2 h0_1_0_e1_0 h0_1_0_e1_0k h0_1_0_e1_0c h0_1_0_e1_2 h0_1_0_e1_2k h0_1_0_e1_2c h0_1_0_e2 h0_1_0_e2_0 h0_1_0_e2_f1 h0_1_0_e2_2 h0_1_0_e2_0 h0_1_0_e2_0k h0_1_0_e2_0c h0_1_0_e2_2 h0_1_0_e2_2k h0_1_0_e2_2c h0_1_0_e3 h0_1_0_e3_0 h0_1_0_e3_f1 h0_1_0_e3_2 h0_1_0_e3_0 h0_1_0_e3_0k h0_1_0_e3_0c h0_1_0_e3_2 h0_1_0_e3_2k h0_1_0_e3_2c h1_8 h1_8k h1_8c h1_6 h1_6k h1_6c h1_7 h1_7k h1_7c) H := by rw [← hHe]; exact hP
  rw [hHe]
  refine wj (fun G hG hU => ?_)
  as_aux_lemma =>
  have J2 : ∀ (n2 : Nat) (j2_l2 : Int32) (j2_h1_4c : Nat → Int32) (j2_h1_5c : Nat → Int32) (hM2 : MU j2_l2 < n2) (g_h0_0_f1 : RG h0_0_f1 0 8) (g_h0_0_f2 : RG h0_0_f2 0 3) (g_h0_0_f3 : RG h0_0_f3 0 1) (g_h0_1_0_e0_f1 : RG h0_1_0_e0_f1 0 240) (g_h0_1_0_e1_f1 : RG h0_1_0_e1_f1 0 240) (g_h0_1_0_e2_f1 : RG h0_1_0_e2_f1 0 240) (g_h0_1_0_e3_f1 : RG h0_1_0_e3_f1 0 240) (g_h0_1_f1 : RG h0_1_f1 0 4) (g_j2_l2 : RG j2_l2 0 3) (H : Heap) (locs : List Loc) (ls : Array Slot) (hP : va_P (dC, dI) vwCl (wd_c_X10_passHour h0 h0_0 h0_1 h0_2 h0_3 h0_4 h0_5 h0_0 h0_0_0 h0_0_f1 h0_0_f2 h0_0_f3 h1 h1_f0 h1_f1 h1_f2 h1_f3 h1_4 h1_5 h1_6 h1_7 h1_8 h1_9 h1_10 h1_11 h1_12 h0_4 h0_4k h0_4c h0_0_0 h0_0_0k h0_0_0c h0_2 h0_2k h0_2c h0_3 h0_3k h0_3c h1_10 h1_10k h1_10c h1_11 h1_11k h1_11c h1_12 h1_12k h1_12c h1_4 h1_4k j2_h1_4c h1_5 h1_5k j2_h1_5c h0_1 h0_1_0 h0_1_f1 h0_1_f2 h0_1_3 h0_1_3 h0_1_3k h0_1_3c h0_1_0 h0_1_0k h0_1_0c h0_1_0_e0 h0_1_0_e0_0 h0_1_0_e0_f1 h0_1_0_e0_2 h0_1_0_e0_0 h0_1_0_e0_0k h0_1_0_e0_0c h0_1_0_e0_2 h0_1_0_e0_2k h0_1_0_e0_2c h0_1_0_e1 h0_1_0_e1_0 h0_1_0_e1_f1 h0_1_0_e1_2 h0_1_0_e1_0 h0_1_0_e1_0k h0_1_0_e1_0c h0_1_0_e1_2 h0_1_0_e1_2k h0_1_0_e1_2c h0_1_0_e2 h0_1_0_e2_0 h0_1_0_e2_f1 h0_1_0_e2_2 h0_1_0_e2_0 h0_1_0_e2_0k h0_1_0_e2_0c h0_1_0_e2_2 h0_1_0_e2_2k h0_1_0_e2_2c h0_1_0_e3 h0_1_0_e3_0 h0_1_0_e3_f1 h0_1_0_e3_2 h0_1_0_e3_0 h0_1_0_e3_0k h0_1_0_e3_0c h0_1_0_e3_2 h0_1_0_e3_2k h0_1_0_e3_2c h1_8 h1_8k h1_8c h1_6 h1_6k h1_6c h1_7 h1_7k h1_7c) H) (hD : va_D A (wd_c_X10_passHour h0 h0_0 h0_1 h0_2 h0_3 h0_4 h0_5 h0_0 h0_0_0 h0_0_f1 h0_0_f2 h0_0_f3 h1 h1_f0 h1_f1 h1_f2 h1_f3 h1_4 h1_5 h1_6 h1_7 h1_8 h1_9 h1_10 h1_11 h1_12 h0_4 h0_4k h0_4c h0_0_0 h0_0_0k h0_0_0c h0_2 h0_2k h0_2c h0_3 h0_3k h0_3c h1_10 h1_10k h1_10c h1_11 h1_11k h1_11c h1_12 h1_12k h1_12c h1_4 h1_4k j2_h1_4c h1_5 h1_5k j2_h1_5c h0_1 h0_1_0 h0_1_f1 h0_1_f2 h0_1_3 h0_1_3 h0_1_3k h0_1_3c h0_1_0 h0_1_0k h0_1_0c h0_1_0_e0 h0_1_0_e0_0 h0_1_0_e0_f1 h0_1_0_e0_2 h0_1_0_e0_0 h0_1_0_e0_0k h0_1_0_e0_0c h0_1_0_e0_2 h0_1_0_e0_2k h0_1_0_e0_2c h0_1_0_e1 h0_1_0_e1_0 h0_1_0_e1_f1 h0_1_0_e1_2 h0_1_0_e1_0 h0_1_0_e1_0k h0_1_0_e1_0c h0_1_0_e1_2 h0_1_0_e1_2k h0_1_0_e1_2c h0_1_0_e2 h0_1_0_e2_0 h0_1_0_e2_f1 h0_1_0_e2_2 h0_1_0_e2_0 h0_1_0_e2_0k h0_1_0_e2_0c h0_1_0_e2_2 h0_1_0_e2_2k h0_1_0_e2_2c h0_1_0_e3 h0_1_0_e3_0 h0_1_0_e3_f1 h0_1_0_e3_2 h0_1_0_e3_0 h0_1_0_e3_0k h0_1_0_e3_0c h0_1_0_e3_2 h0_1_0_e3_2k h0_1_0_e3_2c h1_8 h1_8k h1_8c h1_6 h1_6k h1_6c h1_7 h1_7k h1_7c)) (hS : va_S A s.heap H locs) (hl : lv_has ls 3 [(2, .int j2_l2), (0, .ref h0), (1, .ref h1)]), G H locs (F0 m 2 ls []) := by
    as_aux_lemma =>
    intro n2
    induction n2 with
    | zero => intros; exact absurd (by assumption) (Nat.not_lt_zero _)
    | succ n2 ih2 =>
      intro j2_l2 j2_h1_4c j2_h1_5c hM2 g_h0_0_f1 g_h0_0_f2 g_h0_0_f3 g_h0_1_0_e0_f1 g_h0_1_0_e1_f1 g_h0_1_0_e2_f1 g_h0_1_0_e3_f1 g_h0_1_f1 g_j2_l2 H locs ls hP hD hS hl
      refine hG _ _ _ ?_
      refine lv_iload_n hx hb dX10_passHour_2 rfl (lv_at hl 0 rfl) ?_
      refine lv_aload_n hx hb dX10_passHour_3 rfl (lv_at hl 1 rfl) ?_
      refine va_get (D := (dC, dI)) (ci := 10) (v := .ref h0_0) (C := RX10) (T := TX10) (N := 6) hx hb hts iw_c_X10_passHour_X10 hown hK hP 0 rfl rfl 0 (by decide +kernel) (hts (.fieldLink RX10 9 "BuoyVote$Waters" "told" "LBuoyVote$Borough;") (List.mem_of_getElem? (i := 1) rfl)) (fun _ h9 => h9) rfl dX10_passHour_4 ?_
      refine va_get (D := (dC, dI)) (ci := 0) (v := .int h0_0_f2) (C := RX0) (T := TX0) (N := 4) hx hb hts iw_c_X10_passHour_X0 hown hK hP 1 rfl rfl 2 (by decide +kernel) (hts (.fieldLink RX10 93 "BuoyVote$Borough" "boats" "I") (List.mem_of_getElem? (i := 2) rfl)) (fun _ h9 => h9) rfl dX10_passHour_7 ?_
      refine lv_icmp_ge (tgt := 32) hx hb dX10_passHour_10 rfl (fun c_1 => ?_) (fun c_1 => ?_)
      · refine lv_aload_n hx hb dX10_passHour_32 rfl (lv_at hl 2 rfl) ?_
        refine lv_dup hx hb dX10_passHour_33 rfl ?_
        refine va_get (D := (dC, dI)) (ci := 7) (v := .int h1_f2) (C := RX7) (T := TX7) (N := 13) hx hb hts iw_c_X10_passHour_X7 hown hK hP 2 rfl rfl 2 (by decide +kernel) (hts (.fieldLink RX10 60 "BuoyVote$Sea" "hour" "I") (List.mem_of_getElem? (i := 3) rfl)) (fun _ h9 => h9) rfl dX10_passHour_34 ?_
        as_aux_lemma =>
        refine lv_iconst (v := 1) hx hb dX10_passHour_37 kc_iconst_1 ?_
        refine lv_iadd hx hb dX10_passHour_38 ?_
        refine lv_topi (fun x_2 ex_2 => ?_)
        refine va_put (D := (dC, dI)) (ci := 7) (v := .int x_2) (ty := .int) (C := RX7) (T := TX7) (N := 13) hx hb hts iw_c_X10_passHour_X7 tyX7 tyX7_ok nmX7 hown hK hP hD hS 2 rfl rfl 2 (by decide +kernel) (hts (.fieldLink RX10 60 "BuoyVote$Sea" "hour" "I") (List.mem_of_getElem? (i := 3) rfl)) (fun _ h9 => h9) rfl (by decide +kernel) rfl rfl (Nat.le_of_ble_eq_true rfl) dX10_passHour_39 (fun H locs hP hD hS => ?_)
        have hP : va_P (dC, dI) vwCl (wd_c_X10_passHour h0 h0_0 h0_1 h0_2 h0_3 h0_4 h0_5 h0_0 h0_0_0 h0_0_f1 h0_0_f2 h0_0_f3 h1 h1_f0 h1_f1 x_2 h1_f3 h1_4 h1_5 h1_6 h1_7 h1_8 h1_9 h1_10 h1_11 h1_12 h0_4 h0_4k h0_4c h0_0_0 h0_0_0k h0_0_0c h0_2 h0_2k h0_2c h0_3 h0_3k h0_3c h1_10 h1_10k h1_10c h1_11 h1_11k h1_11c h1_12 h1_12k h1_12c h1_4 h1_4k j2_h1_4c h1_5 h1_5k j2_h1_5c h0_1 h0_1_0 h0_1_f1 h0_1_f2 h0_1_3 h0_1_3 h0_1_3k h0_1_3c h0_1_0 h0_1_0k h0_1_0c h0_1_0_e0 h0_1_0_e0_0 h0_1_0_e0_f1 h0_1_0_e0_2 h0_1_0_e0_0 h0_1_0_e0_0k h0_1_0_e0_0c h0_1_0_e0_2 h0_1_0_e0_2k h0_1_0_e0_2c h0_1_0_e1 h0_1_0_e1_0 h0_1_0_e1_f1 h0_1_0_e1_2 h0_1_0_e1_0 h0_1_0_e1_0k h0_1_0_e1_0c h0_1_0_e1_2 h0_1_0_e1_2k h0_1_0_e1_2c h0_1_0_e2 h0_1_0_e2_0 h0_1_0_e2_f1 h0_1_0_e2_2 h0_1_0_e2_0 h0_1_0_e2_0k h0_1_0_e2_0c h0_1_0_e2_2 h0_1_0_e2_2k h0_1_0_e2_2c h0_1_0_e3 h0_1_0_e3_0 h0_1_0_e3_f1 h0_1_0_e3_2 h0_1_0_e3_0 h0_1_0_e3_0k h0_1_0_e3_0c h0_1_0_e3_2 h0_1_0_e3_2k h0_1_0_e3_2c h1_8 h1_8k h1_8c h1_6 h1_6k h1_6c h1_7 h1_7k h1_7c) H := hP
        have hD : va_D A (wd_c_X10_passHour h0 h0_0 h0_1 h0_2 h0_3 h0_4 h0_5 h0_0 h0_0_0 h0_0_f1 h0_0_f2 h0_0_f3 h1 h1_f0 h1_f1 x_2 h1_f3 h1_4 h1_5 h1_6 h1_7 h1_8 h1_9 h1_10 h1_11 h1_12 h0_4 h0_4k h0_4c h0_0_0 h0_0_0k h0_0_0c h0_2 h0_2k h0_2c h0_3 h0_3k h0_3c h1_10 h1_10k h1_10c h1_11 h1_11k h1_11c h1_12 h1_12k h1_12c h1_4 h1_4k j2_h1_4c h1_5 h1_5k j2_h1_5c h0_1 h0_1_0 h0_1_f1 h0_1_f2 h0_1_3 h0_1_3 h0_1_3k h0_1_3c h0_1_0 h0_1_0k h0_1_0c h0_1_0_e0 h0_1_0_e0_0 h0_1_0_e0_f1 h0_1_0_e0_2 h0_1_0_e0_0 h0_1_0_e0_0k h0_1_0_e0_0c h0_1_0_e0_2 h0_1_0_e0_2k h0_1_0_e0_2c h0_1_0_e1 h0_1_0_e1_0 h0_1_0_e1_f1 h0_1_0_e1_2 h0_1_0_e1_0 h0_1_0_e1_0k h0_1_0_e1_0c h0_1_0_e1_2 h0_1_0_e1_2k h0_1_0_e1_2c h0_1_0_e2 h0_1_0_e2_0 h0_1_0_e2_f1 h0_1_0_e2_2 h0_1_0_e2_0 h0_1_0_e2_0k h0_1_0_e2_0c h0_1_0_e2_2 h0_1_0_e2_2k h0_1_0_e2_2c h0_1_0_e3 h0_1_0_e3_0 h0_1_0_e3_f1 h0_1_0_e3_2 h0_1_0_e3_0 h0_1_0_e3_0k h0_1_0_e3_0c h0_1_0_e3_2 h0_1_0_e3_2k h0_1_0_e3_2c h1_8 h1_8k h1_8c h1_6 h1_6k h1_6c h1_7 h1_7k h1_7c) := hD
        refine lv_aload_n hx hb dX10_passHour_42 rfl (lv_at hl 1 rfl) ?_
        refine lv_aload_n hx hb dX10_passHour_43 rfl (lv_at hl 2 rfl) ?_
        obtain ⟨hPc, hDc, hFc, hqc⟩ := cl_cut (wc := (wd_c_X10_tallyUp h0 h0_0 h0_1 h0_2 h0_3 h0_4 h0_5 h0_4 h0_4k h0_4c h0_0 h0_0_0 h0_0_f1 h0_0_f2 h0_0_f3 h0_0_0 h0_0_0k h0_0_0c h0_2 h0_2k h0_2c h0_3 h0_3k h0_3c h1 h1_f0 h1_f1 x_2 h1_f3 h1_4 h1_5 h1_6 h1_7 h1_8 h1_9 h1_10 h1_11 h1_12 h1_10 h1_10k h1_10c h1_11 h1_11k h1_11c h1_12 h1_12k h1_12c h1_4 h1_4k j2_h1_4c h1_5 h1_5k j2_h1_5c h0_1 h0_1_0 h0_1_f1 h0_1_f2 h0_1_3 h0_1_3 h0_1_3k h0_1_3c h0_1_0 h0_1_0k h0_1_0c h0_1_0_e0 h0_1_0_e0_0 h0_1_0_e0_f1 h0_1_0_e0_2 h0_1_0_e0_0 h0_1_0_e0_0k h0_1_0_e0_0c h0_1_0_e0_2 h0_1_0_e0_2k h0_1_0_e0_2c h0_1_0_e1 h0_1_0_e1_0 h0_1_0_e1_f1 h0_1_0_e1_2 h0_1_0_e1_0 h0_1_0_e1_0k h0_1_0_e1_0c h0_1_0_e1_2 h0_1_0_e1_2k h0_1_0_e1_2c h0_1_0_e2 h0_1_0_e2_0 h0_1_0_e2_f1 h0_1_0_e2_2 h0_1_0_e2_0 h0_1_0_e2_0k h0_1_0_e2_0c h0_1_0_e2_2 h0_1_0_e2_2k h0_1_0_e2_2c h0_1_0_e3 h0_1_0_e3_0 h0_1_0_e3_f1 h0_1_0_e3_2 h0_1_0_e3_0 h0_1_0_e3_0k h0_1_0_e3_0c h0_1_0_e3_2 h0_1_0_e3_2k h0_1_0_e3_2c)) hP hD hS hA [0, 3, 1, 4, 5, 6, 2, 7, 8, 9, 10, 11, 12, 13, 14, 15, 16, 17, 18, 19, 20, 21, 22, 23, 24, 25, 26] (by decide +kernel) rfl
        have hKc := hK.sub (tys' := [(h0_4k, .int), (h0_0_0k, .int), (h0_2k, .int), (h0_3k, .int), (h1_10k, .int), (h1_11k, .int), (h1_12k, .int), (h1_4k, .int), (h1_5k, .int), (h0_1_3k, .int), (h0_1_0k, .object RX4), (h0_1_0_e0_0k, .int), (h0_1_0_e0_2k, .int), (h0_1_0_e1_0k, .int), (h0_1_0_e1_2k, .int), (h0_1_0_e2_0k, .int), (h0_1_0_e2_2k, .int), (h0_1_0_e3_0k, .int), (h0_1_0_e3_2k, .int)]) [0, 1, 2, 3, 4, 5, 6, 7, 8, 9, 10, 11, 12, 13, 14, 15, 16, 17, 18] rfl
        have hrv := va_recv hKc hPc (ci := 10) (q0 := 0) rfl rfl
        refine va_callv (va_runV (As := [.ref h1]) (rest := []) ⟨hx, hb, hml, hown, hts⟩ (c_X10_tallyUp l dC dI H.size h0 h1 h0_0 h0_1 h0_2 h0_3 h0_4 h0_5 h0_4k h0_4c h0_0_0 h0_0_f1 h0_0_f2 h0_0_f3 h0_0_0k h0_0_0c h0_2k h0_2c h0_3k h0_3c h1_f0 h1_f1 x_2 h1_f3 h1_4 h1_5 h1_6 h1_7 h1_8 h1_9 h1_10 h1_11 h1_12 h1_10k h1_10c h1_11k h1_11c h1_12k h1_12c h1_4k j2_h1_4c h1_5k j2_h1_5c h0_1_0 h0_1_f1 h0_1_f2 h0_1_3 h0_1_3k h0_1_3c h0_1_0k h0_1_0c h0_1_0_e0 h0_1_0_e1 h0_1_0_e2 h0_1_0_e3 h0_1_0_e4 h0_1_0_e0_0 h0_1_0_e0_f1 h0_1_0_e0_2 h0_1_0_e0_0k h0_1_0_e0_0c h0_1_0_e0_2k h0_1_0_e0_2c h0_1_0_e1_0 h0_1_0_e1_f1 h0_1_0_e1_2 h0_1_0_e1_0k h0_1_0_e1_0c h0_1_0_e1_2k h0_1_0_e1_2c h0_1_0_e2_0 h0_1_0_e2_f1 h0_1_0_e2_2 h0_1_0_e2_0k h0_1_0_e2_0c h0_1_0_e2_2k h0_1_0_e2_2c h0_1_0_e3_0 h0_1_0_e3_f1 h0_1_0_e3_2 h0_1_0_e3_0k h0_1_0_e3_0c h0_1_0_e3_2k h0_1_0_e3_2c g_h0_0_f1 g_h0_0_f2 g_h0_0_f3 a_h0_0_0c a_h0_3c g_h0_1_f1 e_h0_1_0_e0 e_h0_1_0_e1 e_h0_1_0_e2 e_h0_1_0_e3 e_h0_1_0_e4 g_h0_1_0_e0_f1 g_h0_1_0_e1_f1 g_h0_1_0_e2_f1 g_h0_1_0_e3_f1) (cwV 1 hts gf_c_X10_passHour_c_X10_tallyUp rfl rfl rfl mdV_X10_tallyUp ⟨Nat.le_of_ble_eq_true rfl, Nat.le_of_ble_eq_true rfl⟩) ⟨fun a U g mk q => by obtain ⟨q0, q1, qP, qK, qD⟩ := q; exact ⟨q0, q1, qP, va_K.moved (u := U) (U := U.calling g mk a) (Vm.Alike.refl U.vm) qK, qD⟩, hrv, fun U hU hW => ⟨rfl, by rw [hU], by rw [hU]; exact hPc, va_K.moved hW.alike hKc, hDc.weaken (fun _ _ _ _ => trivial)⟩⟩ rfl rfl hl.1 rfl (lv_room (Nat.le_of_ble_eq_true rfl)) dX10_passHour_44 ⟨Nat.le_of_ble_eq_true rfl, Nat.le_of_ble_eq_true rfl⟩) hS (fun q _ h => hFc q h) hFc (fun u t H1 locs ht hvm hw hB hz1 hk1 hS => ?_)
        obtain ⟨w_4, w_5, w_6, w_7, w_8, w_9, w_10, w_11⟩ := u
        obtain ⟨hP1, hK1, hD1⟩ := hB
        rw [ht] at hP1
        obtain ⟨hP, hD⟩ := cl_put (w1 := (wd_c_X10_tallyUp h0 h0_0 h0_1 h0_2 h0_3 h0_4 h0_5 h0_4 h0_4k w_4 h0_0 h0_0_0 h0_0_f1 h0_0_f2 h0_0_f3 h0_0_0 h0_0_0k h0_0_0c h0_2 h0_2k w_5 h0_3 h0_3k w_6 h1 h1_f0 h1_f1 x_2 h1_f3 h1_4 h1_5 h1_6 h1_7 h1_8 h1_9 h1_10 h1_11 h1_12 h1_10 h1_10k h1_10c h1_11 h1_11k h1_11c h1_12 h1_12k h1_12c h1_4 h1_4k j2_h1_4c h1_5 h1_5k j2_h1_5c h0_1 h0_1_0 h0_1_f1 h0_1_f2 h0_1_3 h0_1_3 h0_1_3k w_7 h0_1_0 h0_1_0k h0_1_0c h0_1_0_e0 h0_1_0_e0_0 h0_1_0_e0_f1 h0_1_0_e0_2 h0_1_0_e0_0 h0_1_0_e0_0k h0_1_0_e0_0c h0_1_0_e0_2 h0_1_0_e0_2k w_8 h0_1_0_e1 h0_1_0_e1_0 h0_1_0_e1_f1 h0_1_0_e1_2 h0_1_0_e1_0 h0_1_0_e1_0k h0_1_0_e1_0c h0_1_0_e1_2 h0_1_0_e1_2k w_9 h0_1_0_e2 h0_1_0_e2_0 h0_1_0_e2_f1 h0_1_0_e2_2 h0_1_0_e2_0 h0_1_0_e2_0k h0_1_0_e2_0c h0_1_0_e2_2 h0_1_0_e2_2k w_10 h0_1_0_e3 h0_1_0_e3_0 h0_1_0_e3_f1 h0_1_0_e3_2 h0_1_0_e3_0 h0_1_0_e3_0k h0_1_0_e3_0c h0_1_0_e3_2 h0_1_0_e3_2k w_11)) (nw := (wd_c_X10_passHour h0 h0_0 h0_1 h0_2 h0_3 h0_4 h0_5 h0_0 h0_0_0 h0_0_f1 h0_0_f2 h0_0_f3 h1 h1_f0 h1_f1 x_2 h1_f3 h1_4 h1_5 h1_6 h1_7 h1_8 h1_9 h1_10 h1_11 h1_12 h0_4 h0_4k w_4 h0_0_0 h0_0_0k h0_0_0c h0_2 h0_2k w_5 h0_3 h0_3k w_6 h1_10 h1_10k h1_10c h1_11 h1_11k h1_11c h1_12 h1_12k h1_12c h1_4 h1_4k j2_h1_4c h1_5 h1_5k j2_h1_5c h0_1 h0_1_0 h0_1_f1 h0_1_f2 h0_1_3 h0_1_3 h0_1_3k w_7 h0_1_0 h0_1_0k h0_1_0c h0_1_0_e0 h0_1_0_e0_0 h0_1_0_e0_f1 h0_1_0_e0_2 h0_1_0_e0_0 h0_1_0_e0_0k h0_1_0_e0_0c h0_1_0_e0_2 h0_1_0_e0_2k w_8 h0_1_0_e1 h0_1_0_e1_0 h0_1_0_e1_f1 h0_1_0_e1_2 h0_1_0_e1_0 h0_1_0_e1_0k h0_1_0_e1_0c h0_1_0_e1_2 h0_1_0_e1_2k w_9 h0_1_0_e2 h0_1_0_e2_0 h0_1_0_e2_f1 h0_1_0_e2_2 h0_1_0_e2_0 h0_1_0_e2_0k h0_1_0_e2_0c h0_1_0_e2_2 h0_1_0_e2_2k w_10 h0_1_0_e3 h0_1_0_e3_0 h0_1_0_e3_f1 h0_1_0_e3_2 h0_1_0_e3_0 h0_1_0_e3_0k h0_1_0_e3_0c h0_1_0_e3_2 h0_1_0_e3_2k w_11 h1_8 h1_8k h1_8c h1_6 h1_6k h1_6c h1_7 h1_7k h1_7c)) hP hD [0, 3, 1, 4, 5, 6, 2, 7, 8, 9, 10, 11, 12, 13, 14, 15, 16, 17, 18, 19, 20, 21, 22, 23, 24, 25, 26] [30, 32, 36, 31, 33, 34, 35, 37, 38, 39, 40, 41, 42, 43, 44, 45, 46, 47, 48, 49, 50, 51, 52, 53, 54, 55, 56, 27, 28, 29] 30 rfl hqc (by decide +kernel) rfl hk1 hFc hP1 hD1
        generalize H1 = H at hP hS ⊢
        as_aux_lemma =>
        have h_12 := hw
        refine lv_aload_n hx hb dX10_passHour_47 rfl (lv_at hl 1 rfl) ?_
        refine va_get (D := (dC, dI)) (ci := 10) (v := .ref h0_0) (C := RX10) (T := TX10) (N := 6) hx hb hts iw_c_X10_passHour_X10 hown hK hP 0 rfl rfl 0 (by decide +kernel) (hts (.fieldLink RX10 9 "BuoyVote$Waters" "told" "LBuoyVote$Borough;") (List.mem_of_getElem? (i := 1) rfl)) (fun _ h9 => h9) rfl dX10_passHour_48 ?_
        obtain ⟨hPc, hDc, hFc, hqc⟩ := cl_cut (wc := (wd_c_X0_countHours h0_0 h0_0_0 h0_0_f1 h0_0_f2 h0_0_f3 h0_0_0 h0_0_0k h0_0_0c)) hP hD hS hA [1, 4] (by decide +kernel) rfl
        have hKc := hK.sub (tys' := [(h0_0_0k, .int)]) [1] rfl
        have hrv := va_recv hKc hPc (ci := 0) (q0 := 0) rfl rfl
        refine va_calli (va_runV (As := []) (rest := []) ⟨hx, hb, hml, hown, hts⟩ (c_X0_countHours l dC dI H.size h0_0 h0_0_0 h0_0_f1 h0_0_f2 h0_0_f3 h0_0_0k h0_0_0c g_h0_0_f1 g_h0_0_f2 g_h0_0_f3 a_h0_0_0c) (cwV 0 hts gf_c_X10_passHour_c_X0_countHours rfl rfl rfl mdV_X0_countHours ⟨Nat.le_of_ble_eq_true rfl, Nat.le_of_ble_eq_true rfl⟩) ⟨fun a U g mk q => by obtain ⟨q0, q1, qP, qK, qD⟩ := q; exact ⟨q0, q1, qP, va_K.moved (u := U) (U := U.calling g mk a) (Vm.Alike.refl U.vm) qK, qD⟩, hrv, fun U hU hW => ⟨rfl, by rw [hU], by rw [hU]; exact hPc, va_K.moved hW.alike hKc, hDc.weaken (fun _ _ _ _ => trivial)⟩⟩ rfl rfl hl.1 rfl (lv_room (Nat.le_of_ble_eq_true rfl)) dX10_passHour_51 ⟨Nat.le_of_ble_eq_true rfl, Nat.le_of_ble_eq_true rfl⟩) hS (fun q _ h => hFc q h) hFc (fun r_13 u t H1 locs ht hvm hw hB hz1 hk1 hS => ?_)
        obtain ⟨hP1, hK1, hD1⟩ := hB
        rw [ht] at hP1
        obtain ⟨hP, hD⟩ := cl_put (w1 := (wd_c_X0_countHours h0_0 h0_0_0 h0_0_f1 h0_0_f2 h0_0_f3 h0_0_0 h0_0_0k h0_0_0c)) (nw := (wd_c_X10_passHour h0 h0_0 h0_1 h0_2 h0_3 h0_4 h0_5 h0_0 h0_0_0 h0_0_f1 h0_0_f2 h0_0_f3 h1 h1_f0 h1_f1 x_2 h1_f3 h1_4 h1_5 h1_6 h1_7 h1_8 h1_9 h1_10 h1_11 h1_12 h0_4 h0_4k w_4 h0_0_0 h0_0_0k h0_0_0c h0_2 h0_2k w_5 h0_3 h0_3k w_6 h1_10 h1_10k h1_10c h1_11 h1_11k h1_11c h1_12 h1_12k h1_12c h1_4 h1_4k j2_h1_4c h1_5 h1_5k j2_h1_5c h0_1 h0_1_0 h0_1_f1 h0_1_f2 h0_1_3 h0_1_3 h0_1_3k w_7 h0_1_0 h0_1_0k h0_1_0c h0_1_0_e0 h0_1_0_e0_0 h0_1_0_e0_f1 h0_1_0_e0_2 h0_1_0_e0_0 h0_1_0_e0_0k h0_1_0_e0_0c h0_1_0_e0_2 h0_1_0_e0_2k w_8 h0_1_0_e1 h0_1_0_e1_0 h0_1_0_e1_f1 h0_1_0_e1_2 h0_1_0_e1_0 h0_1_0_e1_0k h0_1_0_e1_0c h0_1_0_e1_2 h0_1_0_e1_2k w_9 h0_1_0_e2 h0_1_0_e2_0 h0_1_0_e2_f1 h0_1_0_e2_2 h0_1_0_e2_0 h0_1_0_e2_0k h0_1_0_e2_0c h0_1_0_e2_2 h0_1_0_e2_2k w_10 h0_1_0_e3 h0_1_0_e3_0 h0_1_0_e3_f1 h0_1_0_e3_2 h0_1_0_e3_0 h0_1_0_e3_0k h0_1_0_e3_0c h0_1_0_e3_2 h0_1_0_e3_2k w_11 h1_8 h1_8k h1_8c h1_6 h1_6k h1_6c h1_7 h1_7k h1_7c)) hP hD [1, 4] [0, 30, 2, 3, 31, 5, 6, 7, 8, 9, 10, 11, 12, 13, 14, 15, 16, 17, 18, 19, 20, 21, 22, 23, 24, 25, 26, 27, 28, 29] 30 rfl hqc (by decide +kernel) rfl hk1 hFc hP1 hD1
        generalize H1 = H at hP hS ⊢
        as_aux_lemma =>
        have h_14 := hw
        refine lv_istore_n (lv' := [(2, .int r_13), (0, .ref h0), (1, .ref h1)]) hx hb dX10_passHour_54 rfl hl (Nat.le_of_ble_eq_true rfl) rfl (fun ls hl => ?_)
        refine lv_iload_n hx hb dX10_passHour_55 rfl (lv_at hl 0 rfl) ?_
        refine lv_if_le (tgt := 73) hx hb dX10_passHour_56 rfl (fun c_15 => ?_) (fun c_15 => ?_)
        · have g_16 : RG r_13 (-1) 0 := RG_le1 h_14 (RG_k 0 0 rfl) c_15 (by decide +kernel)
          have hK9 := hK.sub (tys' := []) [] rfl
          exact W.vret hx hb hr (fun t ht hW => ⟨⟨(x_2, w_4, w_5, w_6, h1_11c, h1_12c, j2_h1_4c, j2_h1_5c, w_7, w_8, w_9, w_10, w_11, h1_8c), rfl, ⟨h_12, ex_2⟩, by rw [ht]; exact hP, va_K.moved hW.alike hK9, hD⟩, hS.F ht⟩) hS.2.2 dX10_passHour_73
        · have d_17 := Int32.not_le.mp c_15
          have g_18 : RG r_13 1 99 := RG_lt2 (RG_k 0 0 rfl) h_14 d_17 (by decide +kernel)
          refine lv_aload_n hx hb dX10_passHour_59 rfl (lv_at hl 2 rfl) ?_
          refine va_get (D := (dC, dI)) (ci := 7) (v := .int x_2) (C := RX7) (T := TX7) (N := 13) hx hb hts iw_c_X10_passHour_X7 hown hK hP 2 rfl rfl 2 (by decide +kernel) (hts (.fieldLink RX10 60 "BuoyVote$Sea" "hour" "I") (List.mem_of_getElem? (i := 3) rfl)) (fun _ h9 => h9) rfl dX10_passHour_60 ?_
          refine lv_iload_n hx hb dX10_passHour_63 rfl (lv_at hl 0 rfl) ?_
          refine lv_irem hx hb dX10_passHour_64 (RG_ne0 g_18 (by decide +kernel)) ?_
          refine lv_topi (fun x_19 ex_19 => ?_)
          as_aux_lemma =>
          refine lv_if_ne (tgt := 73) hx hb dX10_passHour_65 rfl (fun c_20 => ?_) (fun c_20 => ?_)
          · have hK9 := hK.sub (tys' := []) [] rfl
            exact W.vret hx hb hr (fun t ht hW => ⟨⟨(x_2, w_4, w_5, w_6, h1_11c, h1_12c, j2_h1_4c, j2_h1_5c, w_7, w_8, w_9, w_10, w_11, h1_8c), rfl, ⟨h_12, ex_2⟩, by rw [ht]; exact hP, va_K.moved hW.alike hK9, hD⟩, hS.F ht⟩) hS.2.2 dX10_passHour_73
          · have g_21 : RG x_19 0 0 := RG_eq1 (RG_any x_19) (RG_k 0 0 rfl) c_20 (by decide +kernel)
            refine lv_aload_n hx hb dX10_passHour_68 rfl (lv_at hl 1 rfl) ?_
            refine lv_aload_n hx hb dX10_passHour_69 rfl (lv_at hl 2 rfl) ?_
            obtain ⟨hPc, hDc, hFc, hqc⟩ := cl_cut (wc := (wd_c_X10_holdCount h0 h0_0 h0_1 h0_2 h0_3 h0_4 h0_5 h0_0 h0_0_0 h0_0_f1 h0_0_f2 h0_0_f3 h0_4 h0_4k w_4 h1 h1_f0 h1_f1 x_2 h1_f3 h1_4 h1_5 h1_6 h1_7 h1_8 h1_9 h1_10 h1_11 h1_12 h1_8 h1_8k h1_8c h0_3 h0_3k w_6 h1_11 h1_11k h1_11c h1_12 h1_12k h1_12c)) hP hD hS hA [0, 1, 3, 2, 27, 6, 8, 9] (by decide +kernel) rfl
            have hKc := hK.sub (tys' := [(h0_4k, .int), (h1_8k, .int), (h0_3k, .int), (h1_11k, .int), (h1_12k, .int)]) [0, 19, 3, 5, 6] rfl
            have hrv := va_recv hKc hPc (ci := 10) (q0 := 0) rfl rfl
            refine va_callv (va_runV (As := [.ref h1]) (rest := []) ⟨hx, hb, hml, hown, hts⟩ (c_X10_holdCount l dC dI H.size h0 h1 h0_0 h0_1 h0_2 h0_3 h0_4 h0_5 h0_0_0 h0_0_f1 h0_0_f2 h0_0_f3 h0_4k w_4 h1_f0 h1_f1 x_2 h1_f3 h1_4 h1_5 h1_6 h1_7 h1_8 h1_9 h1_10 h1_11 h1_12 h1_8k h1_8c h0_3k w_6 h1_11k h1_11c h1_12k h1_12c g_h0_0_f1 g_h0_0_f2 g_h0_0_f3 h_12) (cwV 1 hts gf_c_X10_passHour_c_X10_holdCount rfl rfl rfl mdV_X10_holdCount ⟨Nat.le_of_ble_eq_true rfl, Nat.le_of_ble_eq_true rfl⟩) ⟨fun a U g mk q => by obtain ⟨q0, q1, qP, qK, qD⟩ := q; exact ⟨q0, q1, qP, va_K.moved (u := U) (U := U.calling g mk a) (Vm.Alike.refl U.vm) qK, qD⟩, hrv, fun U hU hW => ⟨rfl, by rw [hU], by rw [hU]; exact hPc, va_K.moved hW.alike hKc, hDc.weaken (fun _ _ _ _ => trivial)⟩⟩ rfl rfl hl.1 rfl (lv_room (Nat.le_of_ble_eq_true rfl)) dX10_passHour_70 ⟨Nat.le_of_ble_eq_true rfl, Nat.le_of_ble_eq_true rfl⟩) hS (fun q _ h => hFc q h) hFc (fun u t H1 locs ht hvm hw hB hz1 hk1 hS => ?_)
            obtain ⟨w_23, w_24, w_25⟩ := u
            obtain ⟨hP1, hK1, hD1⟩ := hB
            rw [ht] at hP1
            obtain ⟨hP, hD⟩ := cl_put (w1 := (wd_c_X10_holdCount h0 h0_0 h0_1 h0_2 h0_3 h0_4 h0_5 h0_0 h0_0_0 h0_0_f1 h0_0_f2 h0_0_f3 h0_4 h0_4k w_4 h1 h1_f0 h1_f1 x_2 h1_f3 h1_4 h1_5 h1_6 h1_7 h1_8 h1_9 h1_10 h1_11 h1_12 h1_8 h1_8k w_23 h0_3 h0_3k w_6 h1_11 h1_11k w_24 h1_12 h1_12k w_25)) (nw := (wd_c_X10_passHour h0 h0_0 h0_1 h0_2 h0_3 h0_4 h0_5 h0_0 h0_0_0 h0_0_f1 h0_0_f2 h0_0_f3 h1 h1_f0 h1_f1 x_2 h1_f3 h1_4 h1_5 h1_6 h1_7 h1_8 h1_9 h1_10 h1_11 h1_12 h0_4 h0_4k w_4 h0_0_0 h0_0_0k h0_0_0c h0_2 h0_2k w_5 h0_3 h0_3k w_6 h1_10 h1_10k h1_10c h1_11 h1_11k w_24 h1_12 h1_12k w_25 h1_4 h1_4k j2_h1_4c h1_5 h1_5k j2_h1_5c h0_1 h0_1_0 h0_1_f1 h0_1_f2 h0_1_3 h0_1_3 h0_1_3k w_7 h0_1_0 h0_1_0k h0_1_0c h0_1_0_e0 h0_1_0_e0_0 h0_1_0_e0_f1 h0_1_0_e0_2 h0_1_0_e0_0 h0_1_0_e0_0k h0_1_0_e0_0c h0_1_0_e0_2 h0_1_0_e0_2k w_8 h0_1_0_e1 h0_1_0_e1_0 h0_1_0_e1_f1 h0_1_0_e1_2 h0_1_0_e1_0 h0_1_0_e1_0k h0_1_0_e1_0c h0_1_0_e1_2 h0_1_0_e1_2k w_9 h0_1_0_e2 h0_1_0_e2_0 h0_1_0_e2_f1 h0_1_0_e2_2 h0_1_0_e2_0 h0_1_0_e2_0k h0_1_0_e2_0c h0_1_0_e2_2 h0_1_0_e2_2k w_10 h0_1_0_e3 h0_1_0_e3_0 h0_1_0_e3_f1 h0_1_0_e3_2 h0_1_0_e3_0 h0_1_0_e3_0k h0_1_0_e3_0c h0_1_0_e3_2 h0_1_0_e3_2k w_11 h1_8 h1_8k w_23 h1_6 h1_6k h1_6c h1_7 h1_7k h1_7c)) hP hD [0, 1, 3, 2, 27, 6, 8, 9] [30, 31, 33, 32, 4, 5, 35, 7, 36, 37, 10, 11, 12, 13, 14, 15, 16, 17, 18, 19, 20, 21, 22, 23, 24, 25, 26, 34, 28, 29] 30 rfl hqc (by decide +kernel) rfl hk1 hFc hP1 hD1
            generalize H1 = H at hP hS ⊢
            as_aux_lemma =>
            have h_26 := hw
            have hK9 := hK.sub (tys' := []) [] rfl
            exact W.vret hx hb hr (fun t ht hW => ⟨⟨(x_2, w_4, w_5, w_6, w_24, w_25, j2_h1_4c, j2_h1_5c, w_7, w_8, w_9, w_10, w_11, w_23), rfl, ⟨h_12, ex_2⟩, by rw [ht]; exact hP, va_K.moved hW.alike hK9, hD⟩, hS.F ht⟩) hS.2.2 dX10_passHour_73
      · have d_27 := Int32.not_le.mp c_1
        have g_28 : RG j2_l2 0 2 := RG_lt1 g_j2_l2 g_h0_0_f2 d_27 (by decide +kernel)
        have g_29 : RG h0_0_f2 1 3 := RG_lt2 g_j2_l2 g_h0_0_f2 d_27 (by decide +kernel)
        refine lv_aload_n hx hb dX10_passHour_13 rfl (lv_at hl 2 rfl) ?_
        refine lv_iload_n hx hb dX10_passHour_14 rfl (lv_at hl 0 rfl) ?_
        refine lv_aload_n hx hb dX10_passHour_15 rfl (lv_at hl 1 rfl) ?_
        refine va_get (D := (dC, dI)) (ci := 10) (v := .ref h0_0) (C := RX10) (T := TX10) (N := 6) hx hb hts iw_c_X10_passHour_X10 hown hK hP 0 rfl rfl 0 (by decide +kernel) (hts (.fieldLink RX10 9 "BuoyVote$Waters" "told" "LBuoyVote$Borough;") (List.mem_of_getElem? (i := 1) rfl)) (fun _ h9 => h9) rfl dX10_passHour_16 ?_
        refine lv_iload_n hx hb dX10_passHour_19 rfl (lv_at hl 0 rfl) ?_
        obtain ⟨hPc, hDc, hFc, hqc⟩ := cl_cut (wc := (wd_c_X0_speed h0_0 h0_0_0 h0_0_f1 h0_0_f2 h0_0_f3 h0_0_0 h0_0_0k h0_0_0c)) hP hD hS hA [1, 4] (by decide +kernel) rfl
        have hKc := hK.sub (tys' := [(h0_0_0k, .int)]) [1] rfl
        have hrv := va_recv hKc hPc (ci := 0) (q0 := 0) rfl rfl
        refine va_calli (va_runV (As := [.int j2_l2]) (rest := [.int j2_l2, .ref h1]) ⟨hx, hb, hml, hown, hts⟩ (c_X0_speed l dC dI H.size h0_0 j2_l2 h0_0_0 h0_0_f1 h0_0_f2 h0_0_f3 h0_0_0k h0_0_0c g_28 g_h0_0_f1 (RG_w g_29 (by decide +kernel)) g_h0_0_f3 a_h0_0_0c) (cwV 1 hts gf_c_X10_passHour_c_X0_speed rfl rfl rfl mdV_X0_speed ⟨Nat.le_of_ble_eq_true rfl, Nat.le_of_ble_eq_true rfl⟩) ⟨fun a U g mk q => by obtain ⟨q0, q1, qP, qK, qD⟩ := q; exact ⟨q0, q1, qP, va_K.moved (u := U) (U := U.calling g mk a) (Vm.Alike.refl U.vm) qK, qD⟩, hrv, fun U hU hW => ⟨rfl, by rw [hU], by rw [hU]; exact hPc, va_K.moved hW.alike hKc, hDc.weaken (fun _ _ _ _ => trivial)⟩⟩ rfl rfl hl.1 rfl (lv_room (Nat.le_of_ble_eq_true rfl)) dX10_passHour_20 ⟨Nat.le_of_ble_eq_true rfl, Nat.le_of_ble_eq_true rfl⟩) hS (fun q _ h => hFc q h) hFc (fun r_30 u t H1 locs ht hvm hw hB hz1 hk1 hS => ?_)
        as_aux_lemma =>
        obtain ⟨hP1, hK1, hD1⟩ := hB
        rw [ht] at hP1
        obtain ⟨hP, hD⟩ := cl_put (w1 := (wd_c_X0_speed h0_0 h0_0_0 h0_0_f1 h0_0_f2 h0_0_f3 h0_0_0 h0_0_0k h0_0_0c)) (nw := (wd_c_X10_passHour h0 h0_0 h0_1 h0_2 h0_3 h0_4 h0_5 h0_0 h0_0_0 h0_0_f1 h0_0_f2 h0_0_f3 h1 h1_f0 h1_f1 h1_f2 h1_f3 h1_4 h1_5 h1_6 h1_7 h1_8 h1_9 h1_10 h1_11 h1_12 h0_4 h0_4k h0_4c h0_0_0 h0_0_0k h0_0_0c h0_2 h0_2k h0_2c h0_3 h0_3k h0_3c h1_10 h1_10k h1_10c h1_11 h1_11k h1_11c h1_12 h1_12k h1_12c h1_4 h1_4k j2_h1_4c h1_5 h1_5k j2_h1_5c h0_1 h0_1_0 h0_1_f1 h0_1_f2 h0_1_3 h0_1_3 h0_1_3k h0_1_3c h0_1_0 h0_1_0k h0_1_0c h0_1_0_e0 h0_1_0_e0_0 h0_1_0_e0_f1 h0_1_0_e0_2 h0_1_0_e0_0 h0_1_0_e0_0k h0_1_0_e0_0c h0_1_0_e0_2 h0_1_0_e0_2k h0_1_0_e0_2c h0_1_0_e1 h0_1_0_e1_0 h0_1_0_e1_f1 h0_1_0_e1_2 h0_1_0_e1_0 h0_1_0_e1_0k h0_1_0_e1_0c h0_1_0_e1_2 h0_1_0_e1_2k h0_1_0_e1_2c h0_1_0_e2 h0_1_0_e2_0 h0_1_0_e2_f1 h0_1_0_e2_2 h0_1_0_e2_0 h0_1_0_e2_0k h0_1_0_e2_0c h0_1_0_e2_2 h0_1_0_e2_2k h0_1_0_e2_2c h0_1_0_e3 h0_1_0_e3_0 h0_1_0_e3_f1 h0_1_0_e3_2 h0_1_0_e3_0 h0_1_0_e3_0k h0_1_0_e3_0c h0_1_0_e3_2 h0_1_0_e3_2k h0_1_0_e3_2c h1_8 h1_8k h1_8c h1_6 h1_6k h1_6c h1_7 h1_7k h1_7c)) hP hD [1, 4] [0, 30, 2, 3, 31, 5, 6, 7, 8, 9, 10, 11, 12, 13, 14, 15, 16, 17, 18, 19, 20, 21, 22, 23, 24, 25, 26, 27, 28, 29] 30 rfl hqc (by decide +kernel) rfl hk1 hFc hP1 hD1
        generalize H1 = H at hP hS ⊢
        as_aux_lemma =>
        have h_31 := hw
        obtain ⟨hPc, hDc, hFc, hqc⟩ := cl_cut (wc := (wd_c_X7_rowOn h1 h1_f0 h1_f1 h1_f2 h1_f3 h1_4 h1_5 h1_6 h1_7 h1_8 h1_9 h1_10 h1_11 h1_12 h1_6 h1_6k h1_6c h1_4 h1_4k j2_h1_4c h1_7 h1_7k h1_7c h1_5 h1_5k j2_h1_5c)) hP hD hS hA [2, 28, 10, 29, 11] (by decide +kernel) rfl
        have hKc := hK.sub (tys' := [(h1_6k, .int), (h1_4k, .int), (h1_7k, .int), (h1_5k, .int)]) [20, 7, 21, 8] rfl
        have hrv := va_recv hKc hPc (ci := 7) (q0 := 0) rfl rfl
        refine va_callv (va_runV (As := [.int j2_l2, .int r_30]) (rest := []) ⟨hx, hb, hml, hown, hts⟩ (c_X7_rowOn l dC dI H.size h1 j2_l2 r_30 h1_f0 h1_f1 h1_f2 h1_f3 h1_4 h1_5 h1_6 h1_7 h1_8 h1_9 h1_10 h1_11 h1_12 h1_6k h1_6c h1_4k j2_h1_4c h1_7k h1_7c h1_5k j2_h1_5c g_28) (cwV 2 hts gf_c_X10_passHour_c_X7_rowOn rfl rfl rfl mdV_X7_rowOn ⟨Nat.le_of_ble_eq_true rfl, Nat.le_of_ble_eq_true rfl⟩) ⟨fun a U g mk q => by obtain ⟨q0, q1, qP, qK, qD⟩ := q; exact ⟨q0, q1, qP, va_K.moved (u := U) (U := U.calling g mk a) (Vm.Alike.refl U.vm) qK, qD⟩, hrv, fun U hU hW => ⟨rfl, by rw [hU], by rw [hU]; exact hPc, va_K.moved hW.alike hKc, hDc.weaken (fun _ _ _ _ => trivial)⟩⟩ rfl rfl hl.1 rfl (lv_room (Nat.le_of_ble_eq_true rfl)) dX10_passHour_23 ⟨Nat.le_of_ble_eq_true rfl, Nat.le_of_ble_eq_true rfl⟩) hS (fun q _ h => hFc q h) hFc (fun u t H1 locs ht hvm hw hB hz1 hk1 hS => ?_)
        obtain ⟨w_33, w_34⟩ := u
        obtain ⟨hP1, hK1, hD1⟩ := hB
        rw [ht] at hP1
        obtain ⟨hP, hD⟩ := cl_put (w1 := (wd_c_X7_rowOn h1 h1_f0 h1_f1 h1_f2 h1_f3 h1_4 h1_5 h1_6 h1_7 h1_8 h1_9 h1_10 h1_11 h1_12 h1_6 h1_6k h1_6c h1_4 h1_4k w_33 h1_7 h1_7k h1_7c h1_5 h1_5k w_34)) (nw := (wd_c_X10_passHour h0 h0_0 h0_1 h0_2 h0_3 h0_4 h0_5 h0_0 h0_0_0 h0_0_f1 h0_0_f2 h0_0_f3 h1 h1_f0 h1_f1 h1_f2 h1_f3 h1_4 h1_5 h1_6 h1_7 h1_8 h1_9 h1_10 h1_11 h1_12 h0_4 h0_4k h0_4c h0_0_0 h0_0_0k h0_0_0c h0_2 h0_2k h0_2c h0_3 h0_3k h0_3c h1_10 h1_10k h1_10c h1_11 h1_11k h1_11c h1_12 h1_12k h1_12c h1_4 h1_4k w_33 h1_5 h1_5k w_34 h0_1 h0_1_0 h0_1_f1 h0_1_f2 h0_1_3 h0_1_3 h0_1_3k h0_1_3c h0_1_0 h0_1_0k h0_1_0c h0_1_0_e0 h0_1_0_e0_0 h0_1_0_e0_f1 h0_1_0_e0_2 h0_1_0_e0_0 h0_1_0_e0_0k h0_1_0_e0_0c h0_1_0_e0_2 h0_1_0_e0_2k h0_1_0_e0_2c h0_1_0_e1 h0_1_0_e1_0 h0_1_0_e1_f1 h0_1_0_e1_2 h0_1_0_e1_0 h0_1_0_e1_0k h0_1_0_e1_0c h0_1_0_e1_2 h0_1_0_e1_2k h0_1_0_e1_2c h0_1_0_e2 h0_1_0_e2_0 h0_1_0_e2_f1 h0_1_0_e2_2 h0_1_0_e2_0 h0_1_0_e2_0k h0_1_0_e2_0c h0_1_0_e2_2 h0_1_0_e2_2k h0_1_0_e2_2c h0_1_0_e3 h0_1_0_e3_0 h0_1_0_e3_f1 h0_1_0_e3_2 h0_1_0_e3_0 h0_1_0_e3_0k h0_1_0_e3_0c h0_1_0_e3_2 h0_1_0_e3_2k h0_1_0_e3_2c h1_8 h1_8k h1_8c h1_6 h1_6k h1_6c h1_7 h1_7k h1_7c)) hP hD [2, 28, 10, 29, 11] [0, 1, 30, 3, 4, 5, 6, 7, 8, 9, 32, 34, 12, 13, 14, 15, 16, 17, 18, 19, 20, 21, 22, 23, 24, 25, 26, 27, 31, 33] 30 rfl hqc (by decide +kernel) rfl hk1 hFc hP1 hD1
        generalize H1 = H at hP hS ⊢
        as_aux_lemma =>
        have h_35 := hw
        obtain ⟨x_36, ex_36⟩ : ∃ y : Int32, y = j2_l2 + 1 := ⟨_, rfl⟩
        have g_37 : RG x_36 1 3 := RG_add ex_36 g_28 (RG_k 1 1 rfl) (by decide +kernel)
        refine lv_iinc (v := x_36) (lv' := [(2, .int x_36), (0, .ref h0), (1, .ref h1)]) hx hb dX10_passHour_26 hl (k := 0) rfl (by rw [ex_36]; rfl) (Nat.le_of_ble_eq_true rfl) rfl (fun ls hl => ?_)
        refine lv_goto (tgt := 2) hx hb dX10_passHour_29 rfl ?_
        exact hU _ _ _ (ih2 x_36 w_33 w_34 (mu_s (MU_add ex_36 g_28 (q := 1) rfl (by decide +kernel)) hM2) g_h0_0_f1 (RG_w g_29 (by decide +kernel)) g_h0_0_f3 g_h0_1_0_e0_f1 g_h0_1_0_e1_f1 g_h0_1_0_e2_f1 g_h0_1_0_e3_f1 g_h0_1_f1 (RG_w g_37 (by decide +kernel)) _ _ _ hP hD hS (lv_sub hl [0, 1, 2] rfl))
  refine hG _ _ _ ?_
  refine lv_iconst (v := 0) hx hb dX10_passHour_0 kc_iconst_0 ?_
  refine lv_istore_n (lv' := [(2, .int 0), (0, .ref h0), (1, .ref h1)]) hx hb dX10_passHour_1 rfl hl (Nat.le_of_ble_eq_true rfl) rfl (fun ls hl => ?_)
  exact hU _ _ _ (J2 _ 0 h1_4c h1_5c (Nat.lt_succ_self _) g_h0_0_f1 g_h0_0_f2 g_h0_0_f3 g_h0_1_0_e0_f1 g_h0_1_0_e1_f1 g_h0_1_0_e2_f1 g_h0_1_0_e3_f1 g_h0_1_f1 (RG_w (RG_k 0 0 rfl) (by decide +kernel)) _ _ _ hP hD hS (lv_sub hl [0, 1, 2] rfl))
noncomputable def wd_c_X7_logLength_1 (a0 : Nat) (a1 : Int32) (a2 : Int32) (a3 : Int32) (a4 : Int32) (a5 : Nat) (a6 : Nat) (a7 : Nat) (a8 : Nat) (a9 : Nat) (a10 : Nat) (a11 : Nat) (a12 : Nat) (a13 : Nat) : va_W := [(a0, .inr (7, [.int a1, .int a2, .int a3, .int a4, .ref a5, .ref a6, .ref a7, .ref a8, .ref a9, .ref a10, .ref a11, .ref a12, .ref a13]))]
noncomputable def wf_c_X7_logLength_1 : List Cond := List.cons (.code yX7_logLength cX7_logLength 1 (some .int)) (@HAppend.hAppend (List Cond) (List Cond) (List Cond) _ [.fieldLink RX7 58 "BuoyVote$Sea" "logged" "I", .methodLink RX7 94 Lib.Math.min.name, .static Lib.Math.min.name, .initialized "java/lang/Math", .code Lib.Math.min.name Lib.Math.min.code 2 (some .int)] wsX70)
theorem iw_c_X7_logLength_1_X7 : ∀ w ∈ wsX70, w ∈ wf_c_X7_logLength_1 := fun w h => List.mem_cons_of_mem _ (List.mem_append_right _ h)
set_option maxHeartbeats 4000000 in
set_option maxRecDepth 100000 in
theorem c_X7_logLength_1 (l : Launch) (dC : Nat → ClassId) (dI : Nat → Nat → Nat) (sz : Nat) (h0 : Nat) (h0_f0 : Int32) (h0_f1 : Int32) (h0_f2 : Int32) (h0_f3 : Int32) (h0_4 : Nat) (h0_5 : Nat) (h0_6 : Nat) (h0_7 : Nat) (h0_8 : Nat) (h0_9 : Nat) (h0_10 : Nat) (h0_11 : Nat) (h0_12 : Nat) (g_h0_f3 : RG h0_f3 0 9999) : Met l yX7_logLength wf_c_X7_logLength_1 ({ frames := 1, cells := 0, slots := 0, locals := 13 }) (va_Pc [.ref h0] (fun U => U.heap.size = sz ∧ va_P (dC, dI) vwCl (wd_c_X7_logLength_1 h0 h0_f0 h0_f1 h0_f2 h0_f3 h0_4 h0_5 h0_6 h0_7 h0_8 h0_9 h0_10 h0_11 h0_12) U.heap ∧ va_K (dC, dI) vwCl [] U ∧ va_D (fun _ => True) (wd_c_X7_logLength_1 h0 h0_f0 h0_f1 h0_f2 h0_f3 h0_4 h0_5 h0_6 h0_7 h0_8 h0_9 h0_10 h0_11 h0_12))) (va_Qi (fun (r : Int32) (u : Unit) => (RG r 0 60 ∧ r.toInt ≤ h0_f3.toInt + 0)) (fun (u : Unit) t => va_P (dC, dI) vwCl (wd_c_X7_logLength_1 h0 h0_f0 h0_f1 h0_f2 h0_f3 h0_4 h0_5 h0_6 h0_7 h0_8 h0_9 h0_10 h0_11 h0_12) t.heap ∧ va_K (dC, dI) vwCl [] t ∧ va_D (va_A (wd_c_X7_logLength_1 h0 h0_f0 h0_f1 h0_f2 h0_f3 h0_4 h0_5 h0_6 h0_7 h0_8 h0_9 h0_10 h0_11 h0_12) sz) (wd_c_X7_logLength_1 h0 h0_f0 h0_f1 h0_f2 h0_f3 h0_4 h0_5 h0_6 h0_7 h0_8 h0_9 h0_10 h0_11 h0_12)) (va_A (wd_c_X7_logLength_1 h0 h0_f0 h0_f1 h0_f2 h0_f3 h0_4 h0_5 h0_6 h0_7 h0_8 h0_9 h0_10 h0_11 h0_12) sz)) 0 0 (va_A (wd_c_X7_logLength_1 h0 h0_f0 h0_f1 h0_f2 h0_f3 h0_4 h0_5 h0_6 h0_7 h0_8 h0_9 h0_10 h0_11 h0_12) sz) := by
  refine Met.ofW (cc := cX7_logLength) (maxL := 1) (ret := (some .int)) (by decide +kernel) rfl ?_
  intro p e s m args below meth c s₁ B hml hv
  obtain ⟨rfl, hsz, hP, hK, hD0⟩ := hv
  have hx := B.exec
  have hb := B.bytes
  have hr := B.returns
  have hts := atoms_spec (ws := wf_c_X7_logLength_1) B.pre
  have hown : s.vm.findClass RX7 = some m.cls := findClass_of_methodNamed B.named
  have hlocks := B.notSynchronized
  subst hsz
  have hD := hD0.self (sz := s.heap.size)
  generalize hAe : va_A (wd_c_X7_logLength_1 h0 h0_f0 h0_f1 h0_f2 h0_f3 h0_4 h0_5 h0_6 h0_7 h0_8 h0_9 h0_10 h0_11 h0_12) s.heap.size = A at hD ⊢
  have hA : ∀ q : Nat, s.heap.size ≤ q → A q := fun q h => by rw [← hAe]; exact Or.inr h
  have hP : va_P (dC, dI) vwCl (wd_c_X7_logLength_1 h0 h0_f0 h0_f1 h0_f2 h0_f3 h0_4 h0_5 h0_6 h0_7 h0_8 h0_9 h0_10 h0_11 h0_12) s.heap := hP
  have hl := lv_entry ([.ref h0]) (n := 1) (Nat.le_of_ble_eq_true rfl)
  rw [lg_entry_eq]
  generalize (lg_sl ([.ref h0]) ++ List.replicate (1 - (lg_sl ([.ref h0])).length) Slot.unset).toArray = ls at hl ⊢
  have hl : lv_has ls 1 [(0, .ref h0)] := hl
  obtain ⟨H, hHe⟩ : ∃ H : Heap, s.heap = H := ⟨_, rfl⟩
  have hS : va_S A s.heap H [] := by rw [hHe]; exact va_S.rf
  have hP : va_P (dC, dI) vwCl (wd_c_X7_logLength_1 h0 h0_f0 h0_f1 h0_f2 h0_f3 h0_4 h0_5 h0_6 h0_7 h0_8 h0_9 h0_10 h0_11 h0_12) H := by rw [← hHe]; exact hP
  rw [hHe]
  refine lv_aload_n hx hb dX7_logLength_0 rfl (lv_at hl 0 rfl) ?_
  as_aux_lemma =>
  refine va_get (D := (dC, dI)) (ci := 7) (v := .int h0_f3) (C := RX7) (T := TX7) (N := 13) hx hb hts iw_c_X7_logLength_1_X7 hown hK hP 0 rfl rfl 3 (by decide +kernel) (hts (.fieldLink RX7 58 "BuoyVote$Sea" "logged" "I") (List.mem_of_getElem? (i := 1) rfl)) (fun _ h9 => h9) rfl dX7_logLength_1 ?_
  refine lv_bipush (v := 60) hx hb dX7_logLength_4 kc_bipush_60 ?_
  refine va_mmin hx hb (by rw [hml]; exact hl.1.symm) hown (hts (.methodLink RX7 94 Lib.Math.min.name) (List.mem_of_getElem? (i := 2) rfl)) (hts (.static Lib.Math.min.name) (List.mem_of_getElem? (i := 3) rfl)) (hts (.initialized "java/lang/Math") (List.mem_of_getElem? (i := 4) rfl)) (hts (.code Lib.Math.min.name Lib.Math.min.code 2 (some .int)) (List.mem_of_getElem? (i := 5) rfl)) (Nat.le_of_ble_eq_true rfl) (Nat.le_of_ble_eq_true rfl) (Nat.le_of_ble_eq_true rfl) (Nat.le_of_ble_eq_true rfl) dX7_logLength_6 ?_
  refine lv_topi (fun x_1 ex_1 => ?_)
  have g_2 : RG x_1 0 60 := RG_min ex_1 g_h0_f3 (RG_k 60 60 rfl) (by decide +kernel)
  have b_3 : x_1.toInt ≤ h0_f3.toInt + 0 := by have := min_le1 ex_1; omega
  have hK9 := hK.sub (tys' := []) [] rfl
  exact W.iret (v := x_1) hx hb hr (fun t ht hW => ⟨⟨x_1, (), rfl, ⟨g_2, (by have := b_3; have := (g_2).2; have := (g_h0_f3).1; show x_1.toInt ≤ h0_f3.toInt + 0; omega)⟩, by rw [ht]; exact hP, va_K.moved hW.alike hK9, hD⟩, hS.F ht⟩) hS.2.2 dX7_logLength_9
noncomputable def wf_c_X11_isWithin_5 : List Cond := .code yX11_isWithin cX11_isWithin 3 (some .boolean) :: ([])
noncomputable def fx_c_X11_isWithin_5 (p0 : Int32) (p2 : Int32) : Int32 := (if p0 < 0 then 0 else (if p2 < p0 then 0 else 1))
set_option maxHeartbeats 4000000 in
set_option maxRecDepth 100000 in
theorem c_X11_isWithin_5 (l : Launch) (dC : Nat → ClassId) (dI : Nat → Nat → Nat) (sz : Nat) (p0 : Int32) (p2 : Int32) (g_p2 : RG p2 (-1) 59) : Met l yX11_isWithin wf_c_X11_isWithin_5 ({ frames := 0, cells := 0, slots := 0, locals := 0 }) (va_Pc [.int p0, .int 0, .int p2] (fun U => U.heap.size = sz ∧ va_P (dC, dI) vwCl [] U.heap ∧ va_K (dC, dI) vwCl [] U ∧ va_D (fun _ => True) [])) (va_Qi (fun (r : Int32) (u : Unit) => (r = 0 ∧ RG p0 (-2147483648) 2147483647 ∧ r = fx_c_X11_isWithin_5 p0 p2) ∨ (r = 1 ∧ RG p0 0 59 ∧ RG p2 0 59 ∧ p0.toInt ≤ p2.toInt + 0 ∧ r = fx_c_X11_isWithin_5 p0 p2)) (fun (u : Unit) t => va_P (dC, dI) vwCl [] t.heap ∧ va_K (dC, dI) vwCl [] t ∧ va_D (va_A [] sz) []) (va_A [] sz)) 0 0 (va_A [] sz) := by
  refine Met.ofW (cc := cX11_isWithin) (maxL := 3) (ret := (some .boolean)) (by decide +kernel) rfl ?_
  intro p e s m args below meth c s₁ B hml hv
  obtain ⟨rfl, hsz, hP, hK, hD0⟩ := hv
  have hx := B.exec
  have hb := B.bytes
  have hr := B.returns
  have hts := atoms_spec (ws := wf_c_X11_isWithin_5) B.pre
  have hown : s.vm.findClass RX11 = some m.cls := findClass_of_methodNamed B.named
  have hlocks := B.notSynchronized
  subst hsz
  have hD := hD0.self (sz := s.heap.size)
  generalize hAe : va_A [] s.heap.size = A at hD ⊢
  have hA : ∀ q : Nat, s.heap.size ≤ q → A q := fun q h => by rw [← hAe]; exact Or.inr h
  have hP : va_P (dC, dI) vwCl [] s.heap := hP
  have hl := lv_entry ([.int p0, .int 0, .int p2]) (n := 3) (Nat.le_of_ble_eq_true rfl)
  rw [lg_entry_eq]
  generalize (lg_sl ([.int p0, .int 0, .int p2]) ++ List.replicate (3 - (lg_sl ([.int p0, .int 0, .int p2])).length) Slot.unset).toArray = ls at hl ⊢
  have hl : lv_has ls 3 [(0, .int p0), (1, .int 0), (2, .int p2)] := hl
  obtain ⟨H, hHe⟩ : ∃ H : Heap, s.heap = H := ⟨_, rfl⟩
  have hS : va_S A s.heap H [] := by rw [hHe]; exact va_S.rf
  have hP : va_P (dC, dI) vwCl [] H := by rw [← hHe]; exact hP
  rw [hHe]
  obtain ⟨RES, hR⟩ : ∃ z, fx_c_X11_isWithin_5 p0 p2 = z := ⟨_, rfl⟩
  have hEX : RES = fx_c_X11_isWithin_5 p0 p2 := hR.symm
  refine lv_iload_n hx hb dX11_isWithin_0 rfl (lv_at hl 0 rfl) ?_
  as_aux_lemma =>
  refine lv_iload_n hx hb dX11_isWithin_1 rfl (lv_at hl 1 rfl) ?_
  refine lv_icmp_lt (tgt := 14) hx hb dX11_isWithin_2 rfl (fun c_1 => ?_) (fun c_1 => ?_)
  · replace hEX := hEX.trans (if_pos c_1)
    have g_2 : RG p0 (-2147483648) (-1) := RG_lt1 (RG_any p0) (RG_k 0 0 rfl) c_1 (by decide +kernel)
    refine lv_iconst (v := 0) hx hb dX11_isWithin_14 kc_iconst_0 ?_
    have hK9 := hK.sub (tys' := []) [] rfl
    exact W.zret (v := 0) hx hb hr rfl (fun t ht hW => ⟨⟨0, (), rfl, (Or.inl ⟨rfl, (RG_w g_2 (by decide +kernel)), (hR.trans hEX).symm⟩), by rw [ht]; exact hP, va_K.moved hW.alike hK9, hD⟩, hS.F ht⟩) hS.2.2 dX11_isWithin_15
  · replace hEX := hEX.trans (if_neg c_1)
    have d_3 := Int32.not_lt.mp c_1
    have g_4 : RG p0 0 2147483647 := RG_le2 (RG_k 0 0 rfl) (RG_any p0) d_3 (by decide +kernel)
    refine lv_iload_n hx hb dX11_isWithin_5 rfl (lv_at hl 0 rfl) ?_
    refine lv_iload_n hx hb dX11_isWithin_6 rfl (lv_at hl 2 rfl) ?_
    refine lv_icmp_gt (tgt := 14) hx hb dX11_isWithin_7 rfl (fun c_5 => ?_) (fun c_5 => ?_)
    · replace hEX := hEX.trans (if_pos c_5)
      have b_6 : p2.toInt ≤ p0.toInt + (-1) := by have := Int32.lt_iff_toInt_lt.mp c_5; omega
      refine lv_iconst (v := 0) hx hb dX11_isWithin_14 kc_iconst_0 ?_
      as_aux_lemma =>
      have hK9 := hK.sub (tys' := []) [] rfl
      exact W.zret (v := 0) hx hb hr rfl (fun t ht hW => ⟨⟨0, (), rfl, (Or.inl ⟨rfl, (RG_w g_4 (by decide +kernel)), (hR.trans hEX).symm⟩), by rw [ht]; exact hP, va_K.moved hW.alike hK9, hD⟩, hS.F ht⟩) hS.2.2 dX11_isWithin_15
    · replace hEX := hEX.trans (if_neg c_5)
      have d_7 := Int32.not_lt.mp c_5
      have b_8 : p0.toInt ≤ p2.toInt + 0 := by have := Int32.le_iff_toInt_le.mp d_7; omega
      have g_9 : RG p0 0 59 := RG_le1 g_4 g_p2 d_7 (by decide +kernel)
      have g_10 : RG p2 0 59 := RG_le2 g_4 g_p2 d_7 (by decide +kernel)
      refine lv_iconst (v := 1) hx hb dX11_isWithin_10 kc_iconst_1 ?_
      refine lv_goto (tgt := 15) hx hb dX11_isWithin_11 rfl ?_
      have hK9 := hK.sub (tys' := []) [] rfl
      exact W.zret (v := 1) hx hb hr rfl (fun t ht hW => ⟨⟨1, (), rfl, (Or.inr ⟨rfl, g_9, g_10, (by have := b_8; have := (g_9).2; have := (g_10).1; show p0.toInt ≤ p2.toInt + 0; omega), (hR.trans hEX).symm⟩), by rw [ht]; exact hP, va_K.moved hW.alike hK9, hD⟩, hS.F ht⟩) hS.2.2 dX11_isWithin_15
noncomputable def wf_c_X11_isWithin_6 : List Cond := .code yX11_isWithin cX11_isWithin 3 (some .boolean) :: ([])
noncomputable def fx_c_X11_isWithin_6 (p0 : Int32) : Int32 := (if p0 < 0 then 0 else (if 2 < p0 then 0 else 1))
set_option maxHeartbeats 4000000 in
set_option maxRecDepth 100000 in
theorem c_X11_isWithin_6 (l : Launch) (dC : Nat → ClassId) (dI : Nat → Nat → Nat) (sz : Nat) (p0 : Int32) : Met l yX11_isWithin wf_c_X11_isWithin_6 ({ frames := 0, cells := 0, slots := 0, locals := 0 }) (va_Pc [.int p0, .int 0, .int 2] (fun U => U.heap.size = sz ∧ va_P (dC, dI) vwCl [] U.heap ∧ va_K (dC, dI) vwCl [] U ∧ va_D (fun _ => True) [])) (va_Qi (fun (r : Int32) (u : Unit) => (r = 0 ∧ RG p0 (-2147483648) 2147483647 ∧ r = fx_c_X11_isWithin_6 p0) ∨ (r = 1 ∧ RG p0 0 2 ∧ r = fx_c_X11_isWithin_6 p0)) (fun (u : Unit) t => va_P (dC, dI) vwCl [] t.heap ∧ va_K (dC, dI) vwCl [] t ∧ va_D (va_A [] sz) []) (va_A [] sz)) 0 0 (va_A [] sz) := by
  refine Met.ofW (cc := cX11_isWithin) (maxL := 3) (ret := (some .boolean)) (by decide +kernel) rfl ?_
  intro p e s m args below meth c s₁ B hml hv
  obtain ⟨rfl, hsz, hP, hK, hD0⟩ := hv
  have hx := B.exec
  have hb := B.bytes
  have hr := B.returns
  have hts := atoms_spec (ws := wf_c_X11_isWithin_6) B.pre
  have hown : s.vm.findClass RX11 = some m.cls := findClass_of_methodNamed B.named
  have hlocks := B.notSynchronized
  subst hsz
  have hD := hD0.self (sz := s.heap.size)
  generalize hAe : va_A [] s.heap.size = A at hD ⊢
  have hA : ∀ q : Nat, s.heap.size ≤ q → A q := fun q h => by rw [← hAe]; exact Or.inr h
  have hP : va_P (dC, dI) vwCl [] s.heap := hP
  have hl := lv_entry ([.int p0, .int 0, .int 2]) (n := 3) (Nat.le_of_ble_eq_true rfl)
  rw [lg_entry_eq]
  generalize (lg_sl ([.int p0, .int 0, .int 2]) ++ List.replicate (3 - (lg_sl ([.int p0, .int 0, .int 2])).length) Slot.unset).toArray = ls at hl ⊢
  have hl : lv_has ls 3 [(0, .int p0), (1, .int 0), (2, .int 2)] := hl
  obtain ⟨H, hHe⟩ : ∃ H : Heap, s.heap = H := ⟨_, rfl⟩
  have hS : va_S A s.heap H [] := by rw [hHe]; exact va_S.rf
  have hP : va_P (dC, dI) vwCl [] H := by rw [← hHe]; exact hP
  rw [hHe]
  obtain ⟨RES, hR⟩ : ∃ z, fx_c_X11_isWithin_6 p0 = z := ⟨_, rfl⟩
  have hEX : RES = fx_c_X11_isWithin_6 p0 := hR.symm
  refine lv_iload_n hx hb dX11_isWithin_0 rfl (lv_at hl 0 rfl) ?_
  as_aux_lemma =>
  refine lv_iload_n hx hb dX11_isWithin_1 rfl (lv_at hl 1 rfl) ?_
  refine lv_icmp_lt (tgt := 14) hx hb dX11_isWithin_2 rfl (fun c_1 => ?_) (fun c_1 => ?_)
  · replace hEX := hEX.trans (if_pos c_1)
    have g_2 : RG p0 (-2147483648) (-1) := RG_lt1 (RG_any p0) (RG_k 0 0 rfl) c_1 (by decide +kernel)
    refine lv_iconst (v := 0) hx hb dX11_isWithin_14 kc_iconst_0 ?_
    have hK9 := hK.sub (tys' := []) [] rfl
    exact W.zret (v := 0) hx hb hr rfl (fun t ht hW => ⟨⟨0, (), rfl, (Or.inl ⟨rfl, (RG_w g_2 (by decide +kernel)), (hR.trans hEX).symm⟩), by rw [ht]; exact hP, va_K.moved hW.alike hK9, hD⟩, hS.F ht⟩) hS.2.2 dX11_isWithin_15
  · replace hEX := hEX.trans (if_neg c_1)
    have d_3 := Int32.not_lt.mp c_1
    have g_4 : RG p0 0 2147483647 := RG_le2 (RG_k 0 0 rfl) (RG_any p0) d_3 (by decide +kernel)
    refine lv_iload_n hx hb dX11_isWithin_5 rfl (lv_at hl 0 rfl) ?_
    refine lv_iload_n hx hb dX11_isWithin_6 rfl (lv_at hl 2 rfl) ?_
    refine lv_icmp_gt (tgt := 14) hx hb dX11_isWithin_7 rfl (fun c_5 => ?_) (fun c_5 => ?_)
    · replace hEX := hEX.trans (if_pos c_5)
      have g_6 : RG p0 3 2147483647 := RG_lt2 (RG_k 2 2 rfl) g_4 c_5 (by decide +kernel)
      refine lv_iconst (v := 0) hx hb dX11_isWithin_14 kc_iconst_0 ?_
      as_aux_lemma =>
      have hK9 := hK.sub (tys' := []) [] rfl
      exact W.zret (v := 0) hx hb hr rfl (fun t ht hW => ⟨⟨0, (), rfl, (Or.inl ⟨rfl, (RG_w g_6 (by decide +kernel)), (hR.trans hEX).symm⟩), by rw [ht]; exact hP, va_K.moved hW.alike hK9, hD⟩, hS.F ht⟩) hS.2.2 dX11_isWithin_15
    · replace hEX := hEX.trans (if_neg c_5)
      have d_7 := Int32.not_lt.mp c_5
      have g_8 : RG p0 0 2 := RG_le1 g_4 (RG_k 2 2 rfl) d_7 (by decide +kernel)
      refine lv_iconst (v := 1) hx hb dX11_isWithin_10 kc_iconst_1 ?_
      refine lv_goto (tgt := 15) hx hb dX11_isWithin_11 rfl ?_
      have hK9 := hK.sub (tys' := []) [] rfl
      exact W.zret (v := 1) hx hb hr rfl (fun t ht hW => ⟨⟨1, (), rfl, (Or.inr ⟨rfl, g_8, (hR.trans hEX).symm⟩), by rw [ht]; exact hP, va_K.moved hW.alike hK9, hD⟩, hS.F ht⟩) hS.2.2 dX11_isWithin_15
noncomputable def wd_c_X3_logged (a0 : Nat) (a1 : Nat) (a2 : Int32) (a3 : Int32) (a4 : Nat) (a5 : Nat) (a6 : Nat) (a7 : Int32) (a8 : Nat) (a9 : ClassId) (a10 : Nat → Int32) : va_W := [(a0, .inr (3, [.ref a1, .int a2, .int a3, .ref a4, .ref a5, .ref a6, .int a7])), (a8, .inl (a9, 300, .inl a10))]
noncomputable def wf_c_X3_logged : List Cond := List.cons (.code yX3_logged cX3_logged 3 (some .int)) (@HAppend.hAppend (List Cond) (List Cond) (List Cond) _ [.fieldLink RX3 18 "BuoyVote$History" "log" "[I"] wsX30)
theorem iw_c_X3_logged_X3 : ∀ w ∈ wsX30, w ∈ wf_c_X3_logged := fun w h => List.mem_cons_of_mem _ (List.mem_append_right _ h)
set_option maxHeartbeats 4000000 in
set_option maxRecDepth 100000 in
theorem c_X3_logged (l : Launch) (dC : Nat → ClassId) (dI : Nat → Nat → Nat) (sz : Nat) (h0 : Nat) (p1 : Int32) (p2 : Int32) (h0_0 : Nat) (h0_f1 : Int32) (h0_f2 : Int32) (h0_3 : Nat) (h0_4 : Nat) (h0_5 : Nat) (h0_f6 : Int32) (h0_3k : ClassId) (h0_3c : Nat → Int32) (g_p1 : RG p1 0 2147483647) (g_p2 : RG p2 0 2) (g_h0_f1 : RG h0_f1 0 39) (g_h0_f2 : RG h0_f2 0 40) (g_h0_f6 : RG h0_f6 0 1) : Met l yX3_logged wf_c_X3_logged ({ frames := 0, cells := 0, slots := 0, locals := 0 }) (va_Pc [.ref h0, .int p1, .int p2] (fun U => U.heap.size = sz ∧ va_P (dC, dI) vwCl (wd_c_X3_logged h0 h0_0 h0_f1 h0_f2 h0_3 h0_4 h0_5 h0_f6 h0_3 h0_3k h0_3c) U.heap ∧ va_K (dC, dI) vwCl [(h0_3k, .int)] U ∧ va_D (fun _ => True) (wd_c_X3_logged h0 h0_0 h0_f1 h0_f2 h0_3 h0_4 h0_5 h0_f6 h0_3 h0_3k h0_3c))) (va_Qi (fun (r : Int32) (u : Unit) => (RG r (-2147483648) 2147483647)) (fun (u : Unit) t => va_P (dC, dI) vwCl (wd_c_X3_logged h0 h0_0 h0_f1 h0_f2 h0_3 h0_4 h0_5 h0_f6 h0_3 h0_3k h0_3c) t.heap ∧ va_K (dC, dI) vwCl [] t ∧ va_D (va_A (wd_c_X3_logged h0 h0_0 h0_f1 h0_f2 h0_3 h0_4 h0_5 h0_f6 h0_3 h0_3k h0_3c) sz) (wd_c_X3_logged h0 h0_0 h0_f1 h0_f2 h0_3 h0_4 h0_5 h0_f6 h0_3 h0_3k h0_3c)) (va_A (wd_c_X3_logged h0 h0_0 h0_f1 h0_f2 h0_3 h0_4 h0_5 h0_f6 h0_3 h0_3k h0_3c) sz)) 0 0 (va_A (wd_c_X3_logged h0 h0_0 h0_f1 h0_f2 h0_3 h0_4 h0_5 h0_f6 h0_3 h0_3k h0_3c) sz) := by
  refine Met.ofW (cc := cX3_logged) (maxL := 3) (ret := (some .int)) (by decide +kernel) rfl ?_
  intro p e s m args below meth c s₁ B hml hv
  obtain ⟨rfl, hsz, hP, hK, hD0⟩ := hv
  have hx := B.exec
  have hb := B.bytes
  have hr := B.returns
  have hts := atoms_spec (ws := wf_c_X3_logged) B.pre
  have hown : s.vm.findClass RX3 = some m.cls := findClass_of_methodNamed B.named
  have hlocks := B.notSynchronized
  subst hsz
  have hD := hD0.self (sz := s.heap.size)
  generalize hAe : va_A (wd_c_X3_logged h0 h0_0 h0_f1 h0_f2 h0_3 h0_4 h0_5 h0_f6 h0_3 h0_3k h0_3c) s.heap.size = A at hD ⊢
  have hA : ∀ q : Nat, s.heap.size ≤ q → A q := fun q h => by rw [← hAe]; exact Or.inr h
  have hP : va_P (dC, dI) vwCl (wd_c_X3_logged h0 h0_0 h0_f1 h0_f2 h0_3 h0_4 h0_5 h0_f6 h0_3 h0_3k h0_3c) s.heap := hP
  have hl := lv_entry ([.ref h0, .int p1, .int p2]) (n := 3) (Nat.le_of_ble_eq_true rfl)
  rw [lg_entry_eq]
  generalize (lg_sl ([.ref h0, .int p1, .int p2]) ++ List.replicate (3 - (lg_sl ([.ref h0, .int p1, .int p2])).length) Slot.unset).toArray = ls at hl ⊢
  have hl : lv_has ls 3 [(0, .ref h0), (1, .int p1), (2, .int p2)] := hl
  obtain ⟨H, hHe⟩ : ∃ H : Heap, s.heap = H := ⟨_, rfl⟩
  have hS : va_S A s.heap H [] := by rw [hHe]; exact va_S.rf
  have hP : va_P (dC, dI) vwCl (wd_c_X3_logged h0 h0_0 h0_f1 h0_f2 h0_3 h0_4 h0_5 h0_f6 h0_3 h0_3k h0_3c) H := by rw [← hHe]; exact hP
  rw [hHe]
  refine lv_aload_n hx hb dX3_logged_0 rfl (lv_at hl 0 rfl) ?_
  as_aux_lemma =>
  refine va_get (D := (dC, dI)) (ci := 3) (v := .ref h0_3) (C := RX3) (T := TX3) (N := 7) hx hb hts iw_c_X3_logged_X3 hown hK hP 0 rfl rfl 3 (by decide +kernel) (hts (.fieldLink RX3 18 "BuoyVote$History" "log" "[I") (List.mem_of_getElem? (i := 1) rfl)) (fun _ h9 => h9) rfl dX3_logged_1 ?_
  refine lv_iload_n hx hb dX3_logged_4 rfl (lv_at hl 1 rfl) ?_
  refine lv_bipush (v := 100) hx hb dX3_logged_5 kc_bipush_100 ?_
  refine lv_irem hx hb dX3_logged_7 (by decide +kernel) ?_
  refine lv_topi (fun x_1 ex_1 => ?_)
  have g_2 : RG x_1 0 99 := RG_rem ex_1 g_p1 (RG_k 100 100 rfl) (by decide +kernel)
  refine lv_iconst (v := 3) hx hb dX3_logged_8 kc_iconst_3 ?_
  refine lv_imul hx hb dX3_logged_9 ?_
  refine lv_topi (fun x_3 ex_3 => ?_)
  have g_4 : RG x_3 0 297 := RG_mulc ex_3 (q := 3) rfl g_2 (by decide +kernel)
  refine lv_iload_n hx hb dX3_logged_10 rfl (lv_at hl 2 rfl) ?_
  refine lv_iadd hx hb dX3_logged_11 ?_
  refine lv_topi (fun x_5 ex_5 => ?_)
  have g_6 : RG x_5 0 299 := RG_add ex_5 g_4 g_p2 (by decide +kernel)
  refine va_iald hx hb hK hP 1 0 rfl rfl (RG_in g_6 (by decide +kernel)) dX3_logged_12 ?_
  as_aux_lemma =>
  refine lv_topi (fun x_7 ex_7 => ?_)
  have hK9 := hK.sub (tys' := []) [] rfl
  exact W.iret (v := x_7) hx hb hr (fun t ht hW => ⟨⟨x_7, (), rfl, (RG_any x_7), by rw [ht]; exact hP, va_K.moved hW.alike hK9, hD⟩, hS.F ht⟩) hS.2.2 dX3_logged_13
noncomputable def wd_c_X11_log (a0 : Nat) (a1 : Nat) (a2 : Nat) (a3 : Nat) (a4 : Nat) (a5 : Nat) (a6 : Int32) (a7 : Nat) (a8 : Nat) (a9 : Nat) (a10 : Nat) (a11 : Nat) (a12 : Nat) (a13 : Nat) (a14 : Nat) (a15 : Nat) (a16 : Int64) (a17 : Nat) (a18 : Int32) (a19 : Int32) (a20 : Int32) (a21 : Int32) (a22 : Nat) (a23 : Nat) (a24 : Nat) (a25 : Nat) (a26 : Nat) (a27 : Nat) (a28 : Nat) (a29 : Nat) (a30 : Nat) (a31 : Nat) (a32 : Nat) (a33 : Int32) (a34 : Int32) (a35 : Nat) (a36 : Nat) (a37 : Nat) (a38 : Int32) (a39 : Nat) (a40 : ClassId) (a41 : Nat → Int32) : va_W := [(a0, .inr (11, [.ref a1, .ref a2, .ref a3, .ref a4, .ref a5, .int a6, .ref a7, .ref a8, .ref a9, .ref a10, .ref a11, .ref a12, .ref a13, .ref a14, .ref a15, .long a16])), (a17, .inr (7, [.int a18, .int a19, .int a20, .int a21, .ref a22, .ref a23, .ref a24, .ref a25, .ref a26, .ref a27, .ref a28, .ref a29, .ref a30])), (a31, .inr (3, [.ref a32, .int a33, .int a34, .ref a35, .ref a36, .ref a37, .int a38])), (a39, .inl (a40, 300, .inl a41))]
noncomputable def wf_c_X11_log : List Cond := List.cons (.code yX11_log cX11_log 3 (some .int)) (@HAppend.hAppend (List Cond) (List Cond) (List Cond) _ (@HAppend.hAppend (List Cond) (List Cond) (List Cond) _ (@HAppend.hAppend (List Cond) (List Cond) (List Cond) _ [.fieldLink RX11 52 "BuoyVote" "now" "LBuoyVote$Sea;", .methodLink RX11 285 yX7_logLength, .instanceMethod yX7_logLength, .selects RX7 yX7_logLength yX7_logLength, .initialized RX7, .code yX7_logLength cX7_logLength 1 (some .int), .fieldLink RX7 58 "BuoyVote$Sea" "logged" "I", .methodLink RX7 94 Lib.Math.min.name, .static Lib.Math.min.name, .initialized "java/lang/Math", .code Lib.Math.min.name Lib.Math.min.code 2 (some .int), .methodLink RX11 111 yX11_isWithin, .static yX11_isWithin, .initialized RX11, .code yX11_isWithin cX11_isWithin 3 (some .boolean), .fieldLink RX11 62 "BuoyVote" "history" "LBuoyVote$History;", .fieldLink RX11 288 "BuoyVote$Sea" "logged" "I", .methodLink RX11 291 yX3_logged, .instanceMethod yX3_logged, .selects RX3 yX3_logged yX3_logged, .initialized RX3, .code yX3_logged cX3_logged 3 (some .int), .fieldLink RX3 18 "BuoyVote$History" "log" "[I"] wsX110) wsX70) wsX30)
theorem iw_c_X11_log_X11 : ∀ w ∈ wsX110, w ∈ wf_c_X11_log := fun w h => List.mem_cons_of_mem _ (List.mem_append_left _ (List.mem_append_left _ (List.mem_append_right _ h)))
theorem iw_c_X11_log_X7 : ∀ w ∈ wsX70, w ∈ wf_c_X11_log := fun w h => List.mem_cons_of_mem _ (List.mem_append_left _ (List.mem_append_right _ h))
theorem iw_c_X11_log_X3 : ∀ w ∈ wsX30, w ∈ wf_c_X11_log := fun w h => List.mem_cons_of_mem _ (List.mem_append_right _ h)
set_option maxRecDepth 20000 in
theorem gf_c_X11_log_c_X7_logLength_1 : GoodIn wf_c_X11_log (wsV RX11 285 RX7 yX7_logLength wf_c_X7_logLength_1) := goodIn_app (gi_l [2, 3, 4, 5] rfl rfl) (gi_cons (j := 6) rfl rfl (goodIn_app (gi_l [7, 8, 9, 10, 11] rfl rfl) (goodIn_sub iw_c_X11_log_X7 gw_X7)))
set_option maxRecDepth 20000 in
theorem gf_c_X11_log_c_X11_isWithin_5 : GoodIn wf_c_X11_log (va_wsS RX11 111 yX11_isWithin wf_c_X11_isWithin_5) := goodIn_app (gi_l [12, 13, 14] rfl rfl) (gi_cons (j := 15) rfl rfl gi_nil)
set_option maxRecDepth 20000 in
theorem gf_c_X11_log_c_X11_isWithin_6 : GoodIn wf_c_X11_log (va_wsS RX11 111 yX11_isWithin wf_c_X11_isWithin_6) := goodIn_app (gi_l [12, 13, 14] rfl rfl) (gi_cons (j := 15) rfl rfl gi_nil)
set_option maxRecDepth 20000 in
theorem gf_c_X11_log_c_X3_logged : GoodIn wf_c_X11_log (wsV RX11 291 RX3 yX3_logged wf_c_X3_logged) := goodIn_app (gi_l [18, 19, 20, 21] rfl rfl) (gi_cons (j := 22) rfl rfl (goodIn_app (gi_l [23] rfl rfl) (goodIn_sub iw_c_X11_log_X3 gw_X3)))
set_option maxHeartbeats 4000000 in
set_option maxRecDepth 100000 in
theorem c_X11_log (l : Launch) (dC : Nat → ClassId) (dI : Nat → Nat → Nat) (sz : Nat) (h0 : Nat) (p1 : Int32) (p2 : Int32) (h0_0 : Nat) (h0_1 : Nat) (h0_2 : Nat) (h0_3 : Nat) (h0_4 : Nat) (h0_f5 : Int32) (h0_6 : Nat) (h0_7 : Nat) (h0_8 : Nat) (h0_9 : Nat) (h0_10 : Nat) (h0_11 : Nat) (h0_12 : Nat) (h0_13 : Nat) (h0_14 : Nat) (h0_f15 : Int64) (h0_7_f0 : Int32) (h0_7_f1 : Int32) (h0_7_f2 : Int32) (h0_7_f3 : Int32) (h0_7_4 : Nat) (h0_7_5 : Nat) (h0_7_6 : Nat) (h0_7_7 : Nat) (h0_7_8 : Nat) (h0_7_9 : Nat) (h0_7_10 : Nat) (h0_7_11 : Nat) (h0_7_12 : Nat) (h0_9_0 : Nat) (h0_9_f1 : Int32) (h0_9_f2 : Int32) (h0_9_3 : Nat) (h0_9_4 : Nat) (h0_9_5 : Nat) (h0_9_f6 : Int32) (h0_9_3k : ClassId) (h0_9_3c : Nat → Int32) (g_h0_f5 : RG h0_f5 0 4) (g_h0_7_f2 : RG h0_7_f2 0 9999) (g_h0_7_f3 : RG h0_7_f3 0 9999) (g_h0_9_f1 : RG h0_9_f1 0 39) (g_h0_9_f2 : RG h0_9_f2 0 40) (g_h0_9_f6 : RG h0_9_f6 0 1) : Met l yX11_log wf_c_X11_log ({ frames := 2, cells := 0, slots := 0, locals := 33 }) (va_Pc [.ref h0, .int p1, .int p2] (fun U => U.heap.size = sz ∧ va_P (dC, dI) vwCl (wd_c_X11_log h0 h0_0 h0_1 h0_2 h0_3 h0_4 h0_f5 h0_6 h0_7 h0_8 h0_9 h0_10 h0_11 h0_12 h0_13 h0_14 h0_f15 h0_7 h0_7_f0 h0_7_f1 h0_7_f2 h0_7_f3 h0_7_4 h0_7_5 h0_7_6 h0_7_7 h0_7_8 h0_7_9 h0_7_10 h0_7_11 h0_7_12 h0_9 h0_9_0 h0_9_f1 h0_9_f2 h0_9_3 h0_9_4 h0_9_5 h0_9_f6 h0_9_3 h0_9_3k h0_9_3c) U.heap ∧ va_K (dC, dI) vwCl [(h0_9_3k, .int)] U ∧ va_D (fun _ => True) (wd_c_X11_log h0 h0_0 h0_1 h0_2 h0_3 h0_4 h0_f5 h0_6 h0_7 h0_8 h0_9 h0_10 h0_11 h0_12 h0_13 h0_14 h0_f15 h0_7 h0_7_f0 h0_7_f1 h0_7_f2 h0_7_f3 h0_7_4 h0_7_5 h0_7_6 h0_7_7 h0_7_8 h0_7_9 h0_7_10 h0_7_11 h0_7_12 h0_9 h0_9_0 h0_9_f1 h0_9_f2 h0_9_3 h0_9_4 h0_9_5 h0_9_f6 h0_9_3 h0_9_3k h0_9_3c))) (va_Qi (fun (r : Int32) (u : Unit) => (r = (-1)) ∨ (RG r (-2147483648) 2147483647 ∧ RG p1 0 59 ∧ RG p2 0 2)) (fun (u : Unit) t => va_P (dC, dI) vwCl (wd_c_X11_log h0 h0_0 h0_1 h0_2 h0_3 h0_4 h0_f5 h0_6 h0_7 h0_8 h0_9 h0_10 h0_11 h0_12 h0_13 h0_14 h0_f15 h0_7 h0_7_f0 h0_7_f1 h0_7_f2 h0_7_f3 h0_7_4 h0_7_5 h0_7_6 h0_7_7 h0_7_8 h0_7_9 h0_7_10 h0_7_11 h0_7_12 h0_9 h0_9_0 h0_9_f1 h0_9_f2 h0_9_3 h0_9_4 h0_9_5 h0_9_f6 h0_9_3 h0_9_3k h0_9_3c) t.heap ∧ va_K (dC, dI) vwCl [] t ∧ va_D (va_A (wd_c_X11_log h0 h0_0 h0_1 h0_2 h0_3 h0_4 h0_f5 h0_6 h0_7 h0_8 h0_9 h0_10 h0_11 h0_12 h0_13 h0_14 h0_f15 h0_7 h0_7_f0 h0_7_f1 h0_7_f2 h0_7_f3 h0_7_4 h0_7_5 h0_7_6 h0_7_7 h0_7_8 h0_7_9 h0_7_10 h0_7_11 h0_7_12 h0_9 h0_9_0 h0_9_f1 h0_9_f2 h0_9_3 h0_9_4 h0_9_5 h0_9_f6 h0_9_3 h0_9_3k h0_9_3c) sz) (wd_c_X11_log h0 h0_0 h0_1 h0_2 h0_3 h0_4 h0_f5 h0_6 h0_7 h0_8 h0_9 h0_10 h0_11 h0_12 h0_13 h0_14 h0_f15 h0_7 h0_7_f0 h0_7_f1 h0_7_f2 h0_7_f3 h0_7_4 h0_7_5 h0_7_6 h0_7_7 h0_7_8 h0_7_9 h0_7_10 h0_7_11 h0_7_12 h0_9 h0_9_0 h0_9_f1 h0_9_f2 h0_9_3 h0_9_4 h0_9_5 h0_9_f6 h0_9_3 h0_9_3k h0_9_3c)) (va_A (wd_c_X11_log h0 h0_0 h0_1 h0_2 h0_3 h0_4 h0_f5 h0_6 h0_7 h0_8 h0_9 h0_10 h0_11 h0_12 h0_13 h0_14 h0_f15 h0_7 h0_7_f0 h0_7_f1 h0_7_f2 h0_7_f3 h0_7_4 h0_7_5 h0_7_6 h0_7_7 h0_7_8 h0_7_9 h0_7_10 h0_7_11 h0_7_12 h0_9 h0_9_0 h0_9_f1 h0_9_f2 h0_9_3 h0_9_4 h0_9_5 h0_9_f6 h0_9_3 h0_9_3k h0_9_3c) sz)) 0 0 (va_A (wd_c_X11_log h0 h0_0 h0_1 h0_2 h0_3 h0_4 h0_f5 h0_6 h0_7 h0_8 h0_9 h0_10 h0_11 h0_12 h0_13 h0_14 h0_f15 h0_7 h0_7_f0 h0_7_f1 h0_7_f2 h0_7_f3 h0_7_4 h0_7_5 h0_7_6 h0_7_7 h0_7_8 h0_7_9 h0_7_10 h0_7_11 h0_7_12 h0_9 h0_9_0 h0_9_f1 h0_9_f2 h0_9_3 h0_9_4 h0_9_5 h0_9_f6 h0_9_3 h0_9_3k h0_9_3c) sz) := by
  refine Met.ofW (cc := cX11_log) (maxL := 3) (ret := (some .int)) (by decide +kernel) rfl ?_
  intro p e s m args below meth c s₁ B hml hv
  obtain ⟨rfl, hsz, hP, hK, hD0⟩ := hv
  have hx := B.exec
  have hb := B.bytes
  have hr := B.returns
  have hts := atoms_spec (ws := wf_c_X11_log) B.pre
  have hown : s.vm.findClass RX11 = some m.cls := findClass_of_methodNamed B.named
  have hlocks := B.notSynchronized
  subst hsz
  have hD := hD0.self (sz := s.heap.size)
  generalize hAe : va_A (wd_c_X11_log h0 h0_0 h0_1 h0_2 h0_3 h0_4 h0_f5 h0_6 h0_7 h0_8 h0_9 h0_10 h0_11 h0_12 h0_13 h0_14 h0_f15 h0_7 h0_7_f0 h0_7_f1 h0_7_f2 h0_7_f3 h0_7_4 h0_7_5 h0_7_6 h0_7_7 h0_7_8 h0_7_9 h0_7_10 h0_7_11 h0_7_12 h0_9 h0_9_0 h0_9_f1 h0_9_f2 h0_9_3 h0_9_4 h0_9_5 h0_9_f6 h0_9_3 h0_9_3k h0_9_3c) s.heap.size = A at hD ⊢
  have hA : ∀ q : Nat, s.heap.size ≤ q → A q := fun q h => by rw [← hAe]; exact Or.inr h
  have hP : va_P (dC, dI) vwCl (wd_c_X11_log h0 h0_0 h0_1 h0_2 h0_3 h0_4 h0_f5 h0_6 h0_7 h0_8 h0_9 h0_10 h0_11 h0_12 h0_13 h0_14 h0_f15 h0_7 h0_7_f0 h0_7_f1 h0_7_f2 h0_7_f3 h0_7_4 h0_7_5 h0_7_6 h0_7_7 h0_7_8 h0_7_9 h0_7_10 h0_7_11 h0_7_12 h0_9 h0_9_0 h0_9_f1 h0_9_f2 h0_9_3 h0_9_4 h0_9_5 h0_9_f6 h0_9_3 h0_9_3k h0_9_3c) s.heap := hP
  have hl := lv_entry ([.ref h0, .int p1, .int p2]) (n := 3) (Nat.le_of_ble_eq_true rfl)
  rw [lg_entry_eq]
  generalize (lg_sl ([.ref h0, .int p1, .int p2]) ++ List.replicate (3 - (lg_sl ([.ref h0, .int p1, .int p2])).length) Slot.unset).toArray = ls at hl ⊢
  have hl : lv_has ls 3 [(0, .ref h0), (1, .int p1), (2, .int p2)] := hl
  obtain ⟨H, hHe⟩ : ∃ H : Heap, s.heap = H := ⟨_, rfl⟩
  have hS : va_S A s.heap H [] := by rw [hHe]; exact va_S.rf
  have hP : va_P (dC, dI) vwCl (wd_c_X11_log h0 h0_0 h0_1 h0_2 h0_3 h0_4 h0_f5 h0_6 h0_7 h0_8 h0_9 h0_10 h0_11 h0_12 h0_13 h0_14 h0_f15 h0_7 h0_7_f0 h0_7_f1 h0_7_f2 h0_7_f3 h0_7_4 h0_7_5 h0_7_6 h0_7_7 h0_7_8 h0_7_9 h0_7_10 h0_7_11 h0_7_12 h0_9 h0_9_0 h0_9_f1 h0_9_f2 h0_9_3 h0_9_4 h0_9_5 h0_9_f6 h0_9_3 h0_9_3k h0_9_3c) H := by rw [← hHe]; exact hP
  rw [hHe]
  refine lv_iload_n hx hb dX11_log_0 rfl (lv_at hl 1 rfl) ?_
  as_aux_lemma =>
  refine lv_iconst (v := 0) hx hb dX11_log_1 kc_iconst_0 ?_
  refine lv_aload_n hx hb dX11_log_2 rfl (lv_at hl 0 rfl) ?_
  refine va_get (D := (dC, dI)) (ci := 11) (v := .ref h0_7) (C := RX11) (T := TX11) (N := 16) hx hb hts iw_c_X11_log_X11 hown hK hP 0 rfl rfl 7 (by decide +kernel) (hts (.fieldLink RX11 52 "BuoyVote" "now" "LBuoyVote$Sea;") (List.mem_of_getElem? (i := 1) rfl)) (fun _ h9 => h9) rfl dX11_log_3 ?_
  obtain ⟨hPc, hDc, hFc, hqc⟩ := cl_cut (wc := (wd_c_X7_logLength_1 h0_7 h0_7_f0 h0_7_f1 h0_7_f2 h0_7_f3 h0_7_4 h0_7_5 h0_7_6 h0_7_7 h0_7_8 h0_7_9 h0_7_10 h0_7_11 h0_7_12)) hP hD hS hA [1] (by decide +kernel) rfl
  have hKc := hK.sub (tys' := []) [] rfl
  have hrv := va_recv hKc hPc (ci := 7) (q0 := 0) rfl rfl
  refine va_calli (va_runV (As := []) (rest := [.int 0, .int p1]) ⟨hx, hb, hml, hown, hts⟩ (c_X7_logLength_1 l dC dI H.size h0_7 h0_7_f0 h0_7_f1 h0_7_f2 h0_7_f3 h0_7_4 h0_7_5 h0_7_6 h0_7_7 h0_7_8 h0_7_9 h0_7_10 h0_7_11 h0_7_12 g_h0_7_f3) (cwV 0 hts gf_c_X11_log_c_X7_logLength_1 rfl rfl rfl mdV_X7_logLength ⟨Nat.le_of_ble_eq_true rfl, Nat.le_of_ble_eq_true rfl⟩) ⟨fun a U g mk q => by obtain ⟨q0, q1, qP, qK, qD⟩ := q; exact ⟨q0, q1, qP, va_K.moved (u := U) (U := U.calling g mk a) (Vm.Alike.refl U.vm) qK, qD⟩, hrv, fun U hU hW => ⟨rfl, by rw [hU], by rw [hU]; exact hPc, va_K.moved hW.alike hKc, hDc.weaken (fun _ _ _ _ => trivial)⟩⟩ rfl rfl hl.1 rfl (lv_room (Nat.le_of_ble_eq_true rfl)) dX11_log_6 ⟨Nat.le_of_ble_eq_true rfl, Nat.le_of_ble_eq_true rfl⟩) hS (fun q _ h => hFc q h) hFc (fun r_1 u t H1 locs ht hvm hw hB hz1 hk1 hS => ?_)
  obtain ⟨hP1, hK1, hD1⟩ := hB
  rw [ht] at hP1
  obtain ⟨hP, hD⟩ := cl_put (w1 := (wd_c_X7_logLength_1 h0_7 h0_7_f0 h0_7_f1 h0_7_f2 h0_7_f3 h0_7_4 h0_7_5 h0_7_6 h0_7_7 h0_7_8 h0_7_9 h0_7_10 h0_7_11 h0_7_12)) (nw := (wd_c_X11_log h0 h0_0 h0_1 h0_2 h0_3 h0_4 h0_f5 h0_6 h0_7 h0_8 h0_9 h0_10 h0_11 h0_12 h0_13 h0_14 h0_f15 h0_7 h0_7_f0 h0_7_f1 h0_7_f2 h0_7_f3 h0_7_4 h0_7_5 h0_7_6 h0_7_7 h0_7_8 h0_7_9 h0_7_10 h0_7_11 h0_7_12 h0_9 h0_9_0 h0_9_f1 h0_9_f2 h0_9_3 h0_9_4 h0_9_5 h0_9_f6 h0_9_3 h0_9_3k h0_9_3c)) hP hD [1] [0, 4, 2, 3] 4 rfl hqc (by decide +kernel) rfl hk1 hFc hP1 hD1
  generalize H1 = H at hP hS ⊢
  as_aux_lemma =>
  rcases hw with ⟨h_2, h_3⟩
  refine lv_iconst (v := 1) hx hb dX11_log_9 kc_iconst_1 ?_
  refine lv_isub hx hb dX11_log_10 ?_
  refine lv_topi (fun x_4 ex_4 => ?_)
  have g_5 : RG x_4 (-1) 59 := RG_sub ex_4 h_2 (RG_k 1 1 rfl) (by decide +kernel)
  obtain ⟨hPc, hDc, hFc, hqc⟩ := cl_cut (wc := []) hP hD hS hA [] (by decide +kernel) rfl
  have hKc := hK.sub (tys' := []) [] rfl
  refine va_calli (va_runS (As := [.int p1, .int 0, .int x_4]) (rest := []) ⟨hx, hb, hml, hown, hts⟩ (c_X11_isWithin_5 l dC dI H.size p1 x_4 g_5) (va_cwS 3 hts gf_c_X11_log_c_X11_isWithin_5 rfl rfl rfl md_X11_isWithin ⟨Nat.le_of_ble_eq_true rfl, Nat.le_of_ble_eq_true rfl⟩) ⟨fun a U g mk q => by obtain ⟨q0, q1, qP, qK, qD⟩ := q; exact ⟨q0, q1, qP, va_K.moved (u := U) (U := U.calling g mk a) (Vm.Alike.refl U.vm) qK, qD⟩, fun U hU hW => ⟨rfl, by rw [hU], by rw [hU]; exact hPc, va_K.moved hW.alike hKc, hDc.weaken (fun _ _ _ _ => trivial)⟩⟩ rfl rfl hl.1 rfl (lv_room (Nat.le_of_ble_eq_true rfl)) dX11_log_11 ⟨Nat.le_of_ble_eq_true rfl, Nat.le_of_ble_eq_true rfl⟩) hS (fun q _ h => hFc q h) hFc (fun r_6 u t H1 locs ht hvm hw hB hz1 hk1 hS => ?_)
  obtain ⟨hP1, hK1, hD1⟩ := hB
  rw [ht] at hP1
  have hP := bv_still hP hk1
  generalize H1 = H at hP hS ⊢
  as_aux_lemma =>
  rcases hw with ⟨h_7, h_8, h_9⟩ | ⟨h_10, h_11, h_12, h_13, h_14⟩
  · rw [h_7]
    refine lv_if_eq (tgt := 26) hx hb dX11_log_14 rfl (fun c_15 => ?_) (fun c_15 => absurd c_15 (by decide +kernel))
    refine lv_iconst (v := (-1)) hx hb dX11_log_26 kc_iconst_m1 ?_
    have hK9 := hK.sub (tys' := []) [] rfl
    exact W.iret (v := (-1)) hx hb hr (fun t ht hW => ⟨⟨(-1), (), rfl, (Or.inl rfl), by rw [ht]; exact hP, va_K.moved hW.alike hK9, hD⟩, hS.F ht⟩) hS.2.2 dX11_log_27
  · rw [h_10]
    have g_16 : RG r_1 1 60 := RG_addb (RG_sc (d := (-1)) ex_4 rfl) (q := (-1)) rfl h_2 h_12 (by decide +kernel)
    refine lv_if_eq (tgt := 26) hx hb dX11_log_14 rfl (fun c_17 => absurd c_17 (by decide +kernel)) (fun c_17 => ?_)
    refine lv_iload_n hx hb dX11_log_17 rfl (lv_at hl 2 rfl) ?_
    refine lv_iconst (v := 0) hx hb dX11_log_18 kc_iconst_0 ?_
    refine lv_iconst (v := 2) hx hb dX11_log_19 kc_iconst_2 ?_
    obtain ⟨hPc, hDc, hFc, hqc⟩ := cl_cut (wc := []) hP hD hS hA [] (by decide +kernel) rfl
    have hKc := hK.sub (tys' := []) [] rfl
    refine va_calli (va_runS (As := [.int p2, .int 0, .int 2]) (rest := []) ⟨hx, hb, hml, hown, hts⟩ (c_X11_isWithin_6 l dC dI H.size p2) (va_cwS 3 hts gf_c_X11_log_c_X11_isWithin_6 rfl rfl rfl md_X11_isWithin ⟨Nat.le_of_ble_eq_true rfl, Nat.le_of_ble_eq_true rfl⟩) ⟨fun a U g mk q => by obtain ⟨q0, q1, qP, qK, qD⟩ := q; exact ⟨q0, q1, qP, va_K.moved (u := U) (U := U.calling g mk a) (Vm.Alike.refl U.vm) qK, qD⟩, fun U hU hW => ⟨rfl, by rw [hU], by rw [hU]; exact hPc, va_K.moved hW.alike hKc, hDc.weaken (fun _ _ _ _ => trivial)⟩⟩ rfl rfl hl.1 rfl (lv_room (Nat.le_of_ble_eq_true rfl)) dX11_log_20 ⟨Nat.le_of_ble_eq_true rfl, Nat.le_of_ble_eq_true rfl⟩) hS (fun q _ h => hFc q h) hFc (fun r_18 u t H1 locs ht hvm hw hB hz1 hk1 hS => ?_)
    as_aux_lemma =>
    obtain ⟨hP1, hK1, hD1⟩ := hB
    rw [ht] at hP1
    have hP := bv_still hP hk1
    generalize H1 = H at hP hS ⊢
    as_aux_lemma =>
    rcases hw with ⟨h_19, h_20, h_21⟩ | ⟨h_22, h_23, h_24⟩
    · rw [h_19]
      refine lv_if_ne (tgt := 28) hx hb dX11_log_23 rfl (fun c_25 => absurd c_25 (by decide +kernel)) (fun c_25 => ?_)
      refine lv_iconst (v := (-1)) hx hb dX11_log_26 kc_iconst_m1 ?_
      have hK9 := hK.sub (tys' := []) [] rfl
      exact W.iret (v := (-1)) hx hb hr (fun t ht hW => ⟨⟨(-1), (), rfl, (Or.inl rfl), by rw [ht]; exact hP, va_K.moved hW.alike hK9, hD⟩, hS.F ht⟩) hS.2.2 dX11_log_27
    · rw [h_22]
      refine lv_if_ne (tgt := 28) hx hb dX11_log_23 rfl (fun c_26 => ?_) (fun c_26 => absurd c_26 (by decide +kernel))
      refine lv_aload_n hx hb dX11_log_28 rfl (lv_at hl 0 rfl) ?_
      refine va_get (D := (dC, dI)) (ci := 11) (v := .ref h0_9) (C := RX11) (T := TX11) (N := 16) hx hb hts iw_c_X11_log_X11 hown hK hP 0 rfl rfl 9 (by decide +kernel) (hts (.fieldLink RX11 62 "BuoyVote" "history" "LBuoyVote$History;") (List.mem_of_getElem? (i := 16) rfl)) (fun _ h9 => h9) rfl dX11_log_29 ?_
      refine lv_aload_n hx hb dX11_log_32 rfl (lv_at hl 0 rfl) ?_
      refine va_get (D := (dC, dI)) (ci := 11) (v := .ref h0_7) (C := RX11) (T := TX11) (N := 16) hx hb hts iw_c_X11_log_X11 hown hK hP 0 rfl rfl 7 (by decide +kernel) (hts (.fieldLink RX11 52 "BuoyVote" "now" "LBuoyVote$Sea;") (List.mem_of_getElem? (i := 1) rfl)) (fun _ h9 => h9) rfl dX11_log_33 ?_
      refine va_get (D := (dC, dI)) (ci := 7) (v := .int h0_7_f3) (C := RX7) (T := TX7) (N := 13) hx hb hts iw_c_X11_log_X7 hown hK hP 1 rfl rfl 3 (by decide +kernel) (hts (.fieldLink RX11 288 "BuoyVote$Sea" "logged" "I") (List.mem_of_getElem? (i := 17) rfl)) (fun _ h9 => h9) rfl dX11_log_36 ?_
      refine lv_iconst (v := 1) hx hb dX11_log_39 kc_iconst_1 ?_
      as_aux_lemma =>
      refine lv_isub hx hb dX11_log_40 ?_
      refine lv_topi (fun x_27 ex_27 => ?_)
      have g_28 : RG x_27 (-1) 9998 := RG_sub ex_27 g_h0_7_f3 (RG_k 1 1 rfl) (by decide +kernel)
      refine lv_iload_n hx hb dX11_log_41 rfl (lv_at hl 1 rfl) ?_
      refine lv_isub hx hb dX11_log_42 ?_
      refine lv_topi (fun x_29 ex_29 => ?_)
      have g_30 : RG x_29 0 9998 := RG_subd ex_29 g_28 h_11 (c := 0) (by have := h_13; have := eq_add (RG_sc (d := (-1)) ex_4 rfl) g_16 (q := (-1)) rfl (by decide +kernel); have := h_3; have := eq_add (RG_sc (d := (-1)) ex_27 rfl) g_h0_7_f3 (q := (-1)) rfl (by decide +kernel); have := (g_28).1; have := (h_11).2; omega) (by decide +kernel)
      refine lv_iload_n hx hb dX11_log_43 rfl (lv_at hl 2 rfl) ?_
      obtain ⟨hPc, hDc, hFc, hqc⟩ := cl_cut (wc := (wd_c_X3_logged h0_9 h0_9_0 h0_9_f1 h0_9_f2 h0_9_3 h0_9_4 h0_9_5 h0_9_f6 h0_9_3 h0_9_3k h0_9_3c)) hP hD hS hA [2, 3] (by decide +kernel) rfl
      have hKc := hK.sub (tys' := [(h0_9_3k, .int)]) [0] rfl
      have hrv := va_recv hKc hPc (ci := 3) (q0 := 0) rfl rfl
      refine va_calli (va_runV (As := [.int x_29, .int p2]) (rest := []) ⟨hx, hb, hml, hown, hts⟩ (c_X3_logged l dC dI H.size h0_9 x_29 p2 h0_9_0 h0_9_f1 h0_9_f2 h0_9_3 h0_9_4 h0_9_5 h0_9_f6 h0_9_3k h0_9_3c (RG_w g_30 (by decide +kernel)) h_23 g_h0_9_f1 g_h0_9_f2 g_h0_9_f6) (cwV 2 hts gf_c_X11_log_c_X3_logged rfl rfl rfl mdV_X3_logged ⟨Nat.le_of_ble_eq_true rfl, Nat.le_of_ble_eq_true rfl⟩) ⟨fun a U g mk q => by obtain ⟨q0, q1, qP, qK, qD⟩ := q; exact ⟨q0, q1, qP, va_K.moved (u := U) (U := U.calling g mk a) (Vm.Alike.refl U.vm) qK, qD⟩, hrv, fun U hU hW => ⟨rfl, by rw [hU], by rw [hU]; exact hPc, va_K.moved hW.alike hKc, hDc.weaken (fun _ _ _ _ => trivial)⟩⟩ rfl rfl hl.1 rfl (lv_room (Nat.le_of_ble_eq_true rfl)) dX11_log_44 ⟨Nat.le_of_ble_eq_true rfl, Nat.le_of_ble_eq_true rfl⟩) hS (fun q _ h => hFc q h) hFc (fun r_31 u t H1 locs ht hvm hw hB hz1 hk1 hS => ?_)
      obtain ⟨hP1, hK1, hD1⟩ := hB
      rw [ht] at hP1
      obtain ⟨hP, hD⟩ := cl_put (w1 := (wd_c_X3_logged h0_9 h0_9_0 h0_9_f1 h0_9_f2 h0_9_3 h0_9_4 h0_9_5 h0_9_f6 h0_9_3 h0_9_3k h0_9_3c)) (nw := (wd_c_X11_log h0 h0_0 h0_1 h0_2 h0_3 h0_4 h0_f5 h0_6 h0_7 h0_8 h0_9 h0_10 h0_11 h0_12 h0_13 h0_14 h0_f15 h0_7 h0_7_f0 h0_7_f1 h0_7_f2 h0_7_f3 h0_7_4 h0_7_5 h0_7_6 h0_7_7 h0_7_8 h0_7_9 h0_7_10 h0_7_11 h0_7_12 h0_9 h0_9_0 h0_9_f1 h0_9_f2 h0_9_3 h0_9_4 h0_9_5 h0_9_f6 h0_9_3 h0_9_3k h0_9_3c)) hP hD [2, 3] [0, 1, 4, 5] 4 rfl hqc (by decide +kernel) rfl hk1 hFc hP1 hD1
      generalize H1 = H at hP hS ⊢
      as_aux_lemma =>
      have h_32 := hw
      have hK9 := hK.sub (tys' := []) [] rfl
      exact W.iret (v := r_31) hx hb hr (fun t ht hW => ⟨⟨r_31, (), rfl, (Or.inr ⟨h_32, h_11, h_23⟩), by rw [ht]; exact hP, va_K.moved hW.alike hK9, hD⟩, hS.F ht⟩) hS.2.2 dX11_log_47
noncomputable def wd_c_X11_isPlan (a0 : Nat) (a1 : Nat) (a2 : Nat) (a3 : Nat) (a4 : Nat) (a5 : Nat) (a6 : Int32) (a7 : Nat) (a8 : Nat) (a9 : Nat) (a10 : Nat) (a11 : Nat) (a12 : Nat) (a13 : Nat) (a14 : Nat) (a15 : Nat) (a16 : Int64) : va_W := [(a0, .inr (11, [.ref a1, .ref a2, .ref a3, .ref a4, .ref a5, .int a6, .ref a7, .ref a8, .ref a9, .ref a10, .ref a11, .ref a12, .ref a13, .ref a14, .ref a15, .long a16]))]
noncomputable def wf_c_X11_isPlan : List Cond := List.cons (.code yX11_isPlan cX11_isPlan 2 (some .boolean)) (@HAppend.hAppend (List Cond) (List Cond) (List Cond) _ [.fieldLink RX11 126 "BuoyVote" "planCount" "I"] wsX110)
theorem iw_c_X11_isPlan_X11 : ∀ w ∈ wsX110, w ∈ wf_c_X11_isPlan := fun w h => List.mem_cons_of_mem _ (List.mem_append_right _ h)
set_option maxHeartbeats 4000000 in
set_option maxRecDepth 100000 in
theorem c_X11_isPlan (l : Launch) (dC : Nat → ClassId) (dI : Nat → Nat → Nat) (sz : Nat) (h0 : Nat) (p1 : Int32) (h0_0 : Nat) (h0_1 : Nat) (h0_2 : Nat) (h0_3 : Nat) (h0_4 : Nat) (h0_f5 : Int32) (h0_6 : Nat) (h0_7 : Nat) (h0_8 : Nat) (h0_9 : Nat) (h0_10 : Nat) (h0_11 : Nat) (h0_12 : Nat) (h0_13 : Nat) (h0_14 : Nat) (h0_f15 : Int64) (g_h0_f5 : RG h0_f5 0 4) : Met l yX11_isPlan wf_c_X11_isPlan ({ frames := 0, cells := 0, slots := 0, locals := 0 }) (va_Pc [.ref h0, .int p1] (fun U => U.heap.size = sz ∧ va_P (dC, dI) vwCl (wd_c_X11_isPlan h0 h0_0 h0_1 h0_2 h0_3 h0_4 h0_f5 h0_6 h0_7 h0_8 h0_9 h0_10 h0_11 h0_12 h0_13 h0_14 h0_f15) U.heap ∧ va_K (dC, dI) vwCl [] U ∧ va_D (fun _ => True) (wd_c_X11_isPlan h0 h0_0 h0_1 h0_2 h0_3 h0_4 h0_f5 h0_6 h0_7 h0_8 h0_9 h0_10 h0_11 h0_12 h0_13 h0_14 h0_f15))) (va_Qi (fun (r : Int32) (u : Unit) => (r = 0 ∧ RG p1 (-2147483648) 2147483647) ∨ (r = 1 ∧ RG h0_f5 1 4 ∧ RG p1 0 3)) (fun (u : Unit) t => va_P (dC, dI) vwCl (wd_c_X11_isPlan h0 h0_0 h0_1 h0_2 h0_3 h0_4 h0_f5 h0_6 h0_7 h0_8 h0_9 h0_10 h0_11 h0_12 h0_13 h0_14 h0_f15) t.heap ∧ va_K (dC, dI) vwCl [] t ∧ va_D (va_A (wd_c_X11_isPlan h0 h0_0 h0_1 h0_2 h0_3 h0_4 h0_f5 h0_6 h0_7 h0_8 h0_9 h0_10 h0_11 h0_12 h0_13 h0_14 h0_f15) sz) (wd_c_X11_isPlan h0 h0_0 h0_1 h0_2 h0_3 h0_4 h0_f5 h0_6 h0_7 h0_8 h0_9 h0_10 h0_11 h0_12 h0_13 h0_14 h0_f15)) (va_A (wd_c_X11_isPlan h0 h0_0 h0_1 h0_2 h0_3 h0_4 h0_f5 h0_6 h0_7 h0_8 h0_9 h0_10 h0_11 h0_12 h0_13 h0_14 h0_f15) sz)) 0 0 (va_A (wd_c_X11_isPlan h0 h0_0 h0_1 h0_2 h0_3 h0_4 h0_f5 h0_6 h0_7 h0_8 h0_9 h0_10 h0_11 h0_12 h0_13 h0_14 h0_f15) sz) := by
  refine Met.ofW (cc := cX11_isPlan) (maxL := 2) (ret := (some .boolean)) (by decide +kernel) rfl ?_
  intro p e s m args below meth c s₁ B hml hv
  obtain ⟨rfl, hsz, hP, hK, hD0⟩ := hv
  have hx := B.exec
  have hb := B.bytes
  have hr := B.returns
  have hts := atoms_spec (ws := wf_c_X11_isPlan) B.pre
  have hown : s.vm.findClass RX11 = some m.cls := findClass_of_methodNamed B.named
  have hlocks := B.notSynchronized
  subst hsz
  have hD := hD0.self (sz := s.heap.size)
  generalize hAe : va_A (wd_c_X11_isPlan h0 h0_0 h0_1 h0_2 h0_3 h0_4 h0_f5 h0_6 h0_7 h0_8 h0_9 h0_10 h0_11 h0_12 h0_13 h0_14 h0_f15) s.heap.size = A at hD ⊢
  have hA : ∀ q : Nat, s.heap.size ≤ q → A q := fun q h => by rw [← hAe]; exact Or.inr h
  have hP : va_P (dC, dI) vwCl (wd_c_X11_isPlan h0 h0_0 h0_1 h0_2 h0_3 h0_4 h0_f5 h0_6 h0_7 h0_8 h0_9 h0_10 h0_11 h0_12 h0_13 h0_14 h0_f15) s.heap := hP
  have hl := lv_entry ([.ref h0, .int p1]) (n := 2) (Nat.le_of_ble_eq_true rfl)
  rw [lg_entry_eq]
  generalize (lg_sl ([.ref h0, .int p1]) ++ List.replicate (2 - (lg_sl ([.ref h0, .int p1])).length) Slot.unset).toArray = ls at hl ⊢
  have hl : lv_has ls 2 [(0, .ref h0), (1, .int p1)] := hl
  obtain ⟨H, hHe⟩ : ∃ H : Heap, s.heap = H := ⟨_, rfl⟩
  have hS : va_S A s.heap H [] := by rw [hHe]; exact va_S.rf
  have hP : va_P (dC, dI) vwCl (wd_c_X11_isPlan h0 h0_0 h0_1 h0_2 h0_3 h0_4 h0_f5 h0_6 h0_7 h0_8 h0_9 h0_10 h0_11 h0_12 h0_13 h0_14 h0_f15) H := by rw [← hHe]; exact hP
  rw [hHe]
  refine lv_iload_n hx hb dX11_isPlan_0 rfl (lv_at hl 1 rfl) ?_
  as_aux_lemma =>
  refine lv_if_lt (tgt := 16) hx hb dX11_isPlan_1 rfl (fun c_1 => ?_) (fun c_1 => ?_)
  · have g_2 : RG p1 (-2147483648) (-1) := RG_lt1 (RG_any p1) (RG_k 0 0 rfl) c_1 (by decide +kernel)
    refine lv_iconst (v := 0) hx hb dX11_isPlan_16 kc_iconst_0 ?_
    have hK9 := hK.sub (tys' := []) [] rfl
    exact W.zret (v := 0) hx hb hr rfl (fun t ht hW => ⟨⟨0, (), rfl, (Or.inl ⟨rfl, (RG_w g_2 (by decide +kernel))⟩), by rw [ht]; exact hP, va_K.moved hW.alike hK9, hD⟩, hS.F ht⟩) hS.2.2 dX11_isPlan_17
  · have d_3 := Int32.not_lt.mp c_1
    have g_4 : RG p1 0 2147483647 := RG_le2 (RG_k 0 0 rfl) (RG_any p1) d_3 (by decide +kernel)
    refine lv_iload_n hx hb dX11_isPlan_4 rfl (lv_at hl 1 rfl) ?_
    refine lv_aload_n hx hb dX11_isPlan_5 rfl (lv_at hl 0 rfl) ?_
    refine va_get (D := (dC, dI)) (ci := 11) (v := .int h0_f5) (C := RX11) (T := TX11) (N := 16) hx hb hts iw_c_X11_isPlan_X11 hown hK hP 0 rfl rfl 5 (by decide +kernel) (hts (.fieldLink RX11 126 "BuoyVote" "planCount" "I") (List.mem_of_getElem? (i := 1) rfl)) (fun _ h9 => h9) rfl dX11_isPlan_6 ?_
    refine lv_icmp_ge (tgt := 16) hx hb dX11_isPlan_9 rfl (fun c_5 => ?_) (fun c_5 => ?_)
    · refine lv_iconst (v := 0) hx hb dX11_isPlan_16 kc_iconst_0 ?_
      have hK9 := hK.sub (tys' := []) [] rfl
      exact W.zret (v := 0) hx hb hr rfl (fun t ht hW => ⟨⟨0, (), rfl, (Or.inl ⟨rfl, (RG_w g_4 (by decide +kernel))⟩), by rw [ht]; exact hP, va_K.moved hW.alike hK9, hD⟩, hS.F ht⟩) hS.2.2 dX11_isPlan_17
    · have d_6 := Int32.not_le.mp c_5
      have g_7 : RG p1 0 3 := RG_lt1 g_4 g_h0_f5 d_6 (by decide +kernel)
      have g_8 : RG h0_f5 1 4 := RG_lt2 g_4 g_h0_f5 d_6 (by decide +kernel)
      refine lv_iconst (v := 1) hx hb dX11_isPlan_12 kc_iconst_1 ?_
      as_aux_lemma =>
      refine lv_goto (tgt := 17) hx hb dX11_isPlan_13 rfl ?_
      have hK9 := hK.sub (tys' := []) [] rfl
      exact W.zret (v := 1) hx hb hr rfl (fun t ht hW => ⟨⟨1, (), rfl, (Or.inr ⟨rfl, g_8, g_7⟩), by rw [ht]; exact hP, va_K.moved hW.alike hK9, hD⟩, hS.F ht⟩) hS.2.2 dX11_isPlan_17
noncomputable def wf_c_X11_isWithin_7 : List Cond := .code yX11_isWithin cX11_isWithin 3 (some .boolean) :: ([])
noncomputable def fx_c_X11_isWithin_7 (p0 : Int32) (p2 : Int32) : Int32 := (if p0 < 0 then 0 else (if p2 < p0 then 0 else 1))
set_option maxHeartbeats 4000000 in
set_option maxRecDepth 100000 in
theorem c_X11_isWithin_7 (l : Launch) (dC : Nat → ClassId) (dI : Nat → Nat → Nat) (sz : Nat) (p0 : Int32) (p2 : Int32) (g_p2 : RG p2 (-1) 15) : Met l yX11_isWithin wf_c_X11_isWithin_7 ({ frames := 0, cells := 0, slots := 0, locals := 0 }) (va_Pc [.int p0, .int 0, .int p2] (fun U => U.heap.size = sz ∧ va_P (dC, dI) vwCl [] U.heap ∧ va_K (dC, dI) vwCl [] U ∧ va_D (fun _ => True) [])) (va_Qi (fun (r : Int32) (u : Unit) => (r = 0 ∧ RG p0 (-2147483648) 2147483647 ∧ r = fx_c_X11_isWithin_7 p0 p2) ∨ (r = 1 ∧ RG p0 0 15 ∧ RG p2 0 15 ∧ p0.toInt ≤ p2.toInt + 0 ∧ r = fx_c_X11_isWithin_7 p0 p2)) (fun (u : Unit) t => va_P (dC, dI) vwCl [] t.heap ∧ va_K (dC, dI) vwCl [] t ∧ va_D (va_A [] sz) []) (va_A [] sz)) 0 0 (va_A [] sz) := by
  refine Met.ofW (cc := cX11_isWithin) (maxL := 3) (ret := (some .boolean)) (by decide +kernel) rfl ?_
  intro p e s m args below meth c s₁ B hml hv
  obtain ⟨rfl, hsz, hP, hK, hD0⟩ := hv
  have hx := B.exec
  have hb := B.bytes
  have hr := B.returns
  have hts := atoms_spec (ws := wf_c_X11_isWithin_7) B.pre
  have hown : s.vm.findClass RX11 = some m.cls := findClass_of_methodNamed B.named
  have hlocks := B.notSynchronized
  subst hsz
  have hD := hD0.self (sz := s.heap.size)
  generalize hAe : va_A [] s.heap.size = A at hD ⊢
  have hA : ∀ q : Nat, s.heap.size ≤ q → A q := fun q h => by rw [← hAe]; exact Or.inr h
  have hP : va_P (dC, dI) vwCl [] s.heap := hP
  have hl := lv_entry ([.int p0, .int 0, .int p2]) (n := 3) (Nat.le_of_ble_eq_true rfl)
  rw [lg_entry_eq]
  generalize (lg_sl ([.int p0, .int 0, .int p2]) ++ List.replicate (3 - (lg_sl ([.int p0, .int 0, .int p2])).length) Slot.unset).toArray = ls at hl ⊢
  have hl : lv_has ls 3 [(0, .int p0), (1, .int 0), (2, .int p2)] := hl
  obtain ⟨H, hHe⟩ : ∃ H : Heap, s.heap = H := ⟨_, rfl⟩
  have hS : va_S A s.heap H [] := by rw [hHe]; exact va_S.rf
  have hP : va_P (dC, dI) vwCl [] H := by rw [← hHe]; exact hP
  rw [hHe]
  obtain ⟨RES, hR⟩ : ∃ z, fx_c_X11_isWithin_7 p0 p2 = z := ⟨_, rfl⟩
  have hEX : RES = fx_c_X11_isWithin_7 p0 p2 := hR.symm
  refine lv_iload_n hx hb dX11_isWithin_0 rfl (lv_at hl 0 rfl) ?_
  as_aux_lemma =>
  refine lv_iload_n hx hb dX11_isWithin_1 rfl (lv_at hl 1 rfl) ?_
  refine lv_icmp_lt (tgt := 14) hx hb dX11_isWithin_2 rfl (fun c_1 => ?_) (fun c_1 => ?_)
  · replace hEX := hEX.trans (if_pos c_1)
    have g_2 : RG p0 (-2147483648) (-1) := RG_lt1 (RG_any p0) (RG_k 0 0 rfl) c_1 (by decide +kernel)
    refine lv_iconst (v := 0) hx hb dX11_isWithin_14 kc_iconst_0 ?_
    have hK9 := hK.sub (tys' := []) [] rfl
    exact W.zret (v := 0) hx hb hr rfl (fun t ht hW => ⟨⟨0, (), rfl, (Or.inl ⟨rfl, (RG_w g_2 (by decide +kernel)), (hR.trans hEX).symm⟩), by rw [ht]; exact hP, va_K.moved hW.alike hK9, hD⟩, hS.F ht⟩) hS.2.2 dX11_isWithin_15
  · replace hEX := hEX.trans (if_neg c_1)
    have d_3 := Int32.not_lt.mp c_1
    have g_4 : RG p0 0 2147483647 := RG_le2 (RG_k 0 0 rfl) (RG_any p0) d_3 (by decide +kernel)
    refine lv_iload_n hx hb dX11_isWithin_5 rfl (lv_at hl 0 rfl) ?_
    refine lv_iload_n hx hb dX11_isWithin_6 rfl (lv_at hl 2 rfl) ?_
    refine lv_icmp_gt (tgt := 14) hx hb dX11_isWithin_7 rfl (fun c_5 => ?_) (fun c_5 => ?_)
    · replace hEX := hEX.trans (if_pos c_5)
      have b_6 : p2.toInt ≤ p0.toInt + (-1) := by have := Int32.lt_iff_toInt_lt.mp c_5; omega
      refine lv_iconst (v := 0) hx hb dX11_isWithin_14 kc_iconst_0 ?_
      as_aux_lemma =>
      have hK9 := hK.sub (tys' := []) [] rfl
      exact W.zret (v := 0) hx hb hr rfl (fun t ht hW => ⟨⟨0, (), rfl, (Or.inl ⟨rfl, (RG_w g_4 (by decide +kernel)), (hR.trans hEX).symm⟩), by rw [ht]; exact hP, va_K.moved hW.alike hK9, hD⟩, hS.F ht⟩) hS.2.2 dX11_isWithin_15
    · replace hEX := hEX.trans (if_neg c_5)
      have d_7 := Int32.not_lt.mp c_5
      have b_8 : p0.toInt ≤ p2.toInt + 0 := by have := Int32.le_iff_toInt_le.mp d_7; omega
      have g_9 : RG p0 0 15 := RG_le1 g_4 g_p2 d_7 (by decide +kernel)
      have g_10 : RG p2 0 15 := RG_le2 g_4 g_p2 d_7 (by decide +kernel)
      refine lv_iconst (v := 1) hx hb dX11_isWithin_10 kc_iconst_1 ?_
      refine lv_goto (tgt := 15) hx hb dX11_isWithin_11 rfl ?_
      have hK9 := hK.sub (tys' := []) [] rfl
      exact W.zret (v := 1) hx hb hr rfl (fun t ht hW => ⟨⟨1, (), rfl, (Or.inr ⟨rfl, g_9, g_10, (by have := b_8; have := (g_9).2; have := (g_10).1; show p0.toInt ≤ p2.toInt + 0; omega), (hR.trans hEX).symm⟩), by rw [ht]; exact hP, va_K.moved hW.alike hK9, hD⟩, hS.F ht⟩) hS.2.2 dX11_isWithin_15
noncomputable def wd_c_X6_part (a0 : Nat) (a1 : Nat) (a2 : Int32) (a3 : Nat) (a4 : ClassId) (a5 : Nat → Int32) : va_W := [(a0, .inr (6, [.ref a1, .int a2])), (a3, .inl (a4, 64, .inl a5))]
noncomputable def wf_c_X6_part : List Cond := List.cons (.code yX6_part cX6_part 3 (some .int)) (@HAppend.hAppend (List Cond) (List Cond) (List Cond) _ [.fieldLink RX6 11 "BuoyVote$Plan" "cells" "[I"] wsX60)
theorem iw_c_X6_part_X6 : ∀ w ∈ wsX60, w ∈ wf_c_X6_part := fun w h => List.mem_cons_of_mem _ (List.mem_append_right _ h)
set_option maxHeartbeats 4000000 in
set_option maxRecDepth 100000 in
theorem c_X6_part (l : Launch) (dC : Nat → ClassId) (dI : Nat → Nat → Nat) (sz : Nat) (h0 : Nat) (p1 : Int32) (p2 : Int32) (h0_0 : Nat) (h0_f1 : Int32) (h0_0k : ClassId) (h0_0c : Nat → Int32) (g_p1 : RG p1 0 15) (g_p2 : RG p2 0 3) (g_h0_f1 : RG h0_f1 0 16) (a_h0_0c : AI h0_0c (-1) 9) : Met l yX6_part wf_c_X6_part ({ frames := 0, cells := 0, slots := 0, locals := 0 }) (va_Pc [.ref h0, .int p1, .int p2] (fun U => U.heap.size = sz ∧ va_P (dC, dI) vwCl (wd_c_X6_part h0 h0_0 h0_f1 h0_0 h0_0k h0_0c) U.heap ∧ va_K (dC, dI) vwCl [(h0_0k, .int)] U ∧ va_D (fun _ => True) (wd_c_X6_part h0 h0_0 h0_f1 h0_0 h0_0k h0_0c))) (va_Qi (fun (r : Int32) (u : Unit) => (RG r (-1) 9 ∧ r = h0_0c (p1 * 4 + p2).toNatClampNeg)) (fun (u : Unit) t => va_P (dC, dI) vwCl (wd_c_X6_part h0 h0_0 h0_f1 h0_0 h0_0k h0_0c) t.heap ∧ va_K (dC, dI) vwCl [] t ∧ va_D (va_A (wd_c_X6_part h0 h0_0 h0_f1 h0_0 h0_0k h0_0c) sz) (wd_c_X6_part h0 h0_0 h0_f1 h0_0 h0_0k h0_0c)) (va_A (wd_c_X6_part h0 h0_0 h0_f1 h0_0 h0_0k h0_0c) sz)) 0 0 (va_A (wd_c_X6_part h0 h0_0 h0_f1 h0_0 h0_0k h0_0c) sz) := by
  refine Met.ofW (cc := cX6_part) (maxL := 3) (ret := (some .int)) (by decide +kernel) rfl ?_
  intro p e s m args below meth c s₁ B hml hv
  obtain ⟨rfl, hsz, hP, hK, hD0⟩ := hv
  have hx := B.exec
  have hb := B.bytes
  have hr := B.returns
  have hts := atoms_spec (ws := wf_c_X6_part) B.pre
  have hown : s.vm.findClass RX6 = some m.cls := findClass_of_methodNamed B.named
  have hlocks := B.notSynchronized
  subst hsz
  have hD := hD0.self (sz := s.heap.size)
  generalize hAe : va_A (wd_c_X6_part h0 h0_0 h0_f1 h0_0 h0_0k h0_0c) s.heap.size = A at hD ⊢
  have hA : ∀ q : Nat, s.heap.size ≤ q → A q := fun q h => by rw [← hAe]; exact Or.inr h
  have hP : va_P (dC, dI) vwCl (wd_c_X6_part h0 h0_0 h0_f1 h0_0 h0_0k h0_0c) s.heap := hP
  have hl := lv_entry ([.ref h0, .int p1, .int p2]) (n := 3) (Nat.le_of_ble_eq_true rfl)
  rw [lg_entry_eq]
  generalize (lg_sl ([.ref h0, .int p1, .int p2]) ++ List.replicate (3 - (lg_sl ([.ref h0, .int p1, .int p2])).length) Slot.unset).toArray = ls at hl ⊢
  have hl : lv_has ls 3 [(0, .ref h0), (1, .int p1), (2, .int p2)] := hl
  obtain ⟨H, hHe⟩ : ∃ H : Heap, s.heap = H := ⟨_, rfl⟩
  have hS : va_S A s.heap H [] := by rw [hHe]; exact va_S.rf
  have hP : va_P (dC, dI) vwCl (wd_c_X6_part h0 h0_0 h0_f1 h0_0 h0_0k h0_0c) H := by rw [← hHe]; exact hP
  rw [hHe]
  refine lv_aload_n hx hb dX6_part_0 rfl (lv_at hl 0 rfl) ?_
  as_aux_lemma =>
  refine va_get (D := (dC, dI)) (ci := 6) (v := .ref h0_0) (C := RX6) (T := TX6) (N := 2) hx hb hts iw_c_X6_part_X6 hown hK hP 0 rfl rfl 0 (by decide +kernel) (hts (.fieldLink RX6 11 "BuoyVote$Plan" "cells" "[I") (List.mem_of_getElem? (i := 1) rfl)) (fun _ h9 => h9) rfl dX6_part_1 ?_
  refine lv_iload_n hx hb dX6_part_4 rfl (lv_at hl 1 rfl) ?_
  refine lv_iconst (v := 4) hx hb dX6_part_5 kc_iconst_4 ?_
  refine lv_imul hx hb dX6_part_6 ?_
  refine lv_topi (fun x_1 ex_1 => ?_)
  have g_2 : RG x_1 0 60 := RG_mulc ex_1 (q := 4) rfl g_p1 (by decide +kernel)
  refine lv_iload_n hx hb dX6_part_7 rfl (lv_at hl 2 rfl) ?_
  refine lv_iadd hx hb dX6_part_8 ?_
  refine lv_topi (fun x_3 ex_3 => ?_)
  have g_4 : RG x_3 0 63 := RG_add ex_3 g_2 g_p2 (by decide +kernel)
  refine va_iald hx hb hK hP 1 0 rfl rfl (RG_in g_4 (by decide +kernel)) dX6_part_9 ?_
  refine lv_topi (fun x_5 ex_5 => ?_)
  have g_6 : RG x_5 (-1) 9 := AI_rd a_h0_0c ex_5
  have hK9 := hK.sub (tys' := []) [] rfl
  exact W.iret (v := x_5) hx hb hr (fun t ht hW => ⟨⟨x_5, (), rfl, ⟨g_6, (by rw [ex_5, ex_3, ex_1])⟩, by rw [ht]; exact hP, va_K.moved hW.alike hK9, hD⟩, hS.F ht⟩) hS.2.2 dX6_part_10
noncomputable def wd_c_X11_step (a0 : Nat) (a1 : Nat) (a2 : Nat) (a3 : Nat) (a4 : Nat) (a5 : Nat) (a6 : Int32) (a7 : Nat) (a8 : Nat) (a9 : Nat) (a10 : Nat) (a11 : Nat) (a12 : Nat) (a13 : Nat) (a14 : Nat) (a15 : Nat) (a16 : Int64) (a17 : Nat) (a18 : ClassId) (a19 : Nat → Option Nat) (a20 : Nat) (a21 : Nat) (a22 : Int32) (a23 : Nat) (a24 : ClassId) (a25 : Nat → Int32) (a26 : Nat) (a27 : Nat) (a28 : Int32) (a29 : Nat) (a30 : ClassId) (a31 : Nat → Int32) (a32 : Nat) (a33 : Nat) (a34 : Int32) (a35 : Nat) (a36 : ClassId) (a37 : Nat → Int32) (a38 : Nat) (a39 : Nat) (a40 : Int32) (a41 : Nat) (a42 : ClassId) (a43 : Nat → Int32) : va_W := [(a0, .inr (11, [.ref a1, .ref a2, .ref a3, .ref a4, .ref a5, .int a6, .ref a7, .ref a8, .ref a9, .ref a10, .ref a11, .ref a12, .ref a13, .ref a14, .ref a15, .long a16])), (a17, .inl (a18, 5, .inr (.inr (.inr (.inr a19))))), (a20, .inr (6, [.ref a21, .int a22])), (a23, .inl (a24, 64, .inl a25)), (a26, .inr (6, [.ref a27, .int a28])), (a29, .inl (a30, 64, .inl a31)), (a32, .inr (6, [.ref a33, .int a34])), (a35, .inl (a36, 64, .inl a37)), (a38, .inr (6, [.ref a39, .int a40])), (a41, .inl (a42, 64, .inl a43))]
noncomputable def wf_c_X11_step : List Cond := List.cons (.code yX11_step cX11_step 4 (some .int)) (@HAppend.hAppend (List Cond) (List Cond) (List Cond) _ (@HAppend.hAppend (List Cond) (List Cond) (List Cond) _ [.methodLink RX11 293 yX11_isPlan, .instanceMethod yX11_isPlan, .selects RX11 yX11_isPlan yX11_isPlan, .initialized RX11, .code yX11_isPlan cX11_isPlan 2 (some .boolean), .fieldLink RX11 126 "BuoyVote" "planCount" "I", .constant RX11 228 (-1000000), .fieldLink RX11 35 "BuoyVote" "plans" "[LBuoyVote$Plan;", .fieldLink RX11 296 "BuoyVote$Plan" "steps" "I", .methodLink RX11 111 yX11_isWithin, .static yX11_isWithin, .code yX11_isWithin cX11_isWithin 3 (some .boolean), .methodLink RX11 299 yX6_part, .instanceMethod yX6_part, .selects RX6 yX6_part yX6_part, .initialized RX6, .code yX6_part cX6_part 3 (some .int), .fieldLink RX6 11 "BuoyVote$Plan" "cells" "[I"] wsX110) wsX60)
theorem iw_c_X11_step_X11 : ∀ w ∈ wsX110, w ∈ wf_c_X11_step := fun w h => List.mem_cons_of_mem _ (List.mem_append_left _ (List.mem_append_right _ h))
theorem iw_c_X11_step_X6 : ∀ w ∈ wsX60, w ∈ wf_c_X11_step := fun w h => List.mem_cons_of_mem _ (List.mem_append_right _ h)
set_option maxRecDepth 20000 in
theorem gf_c_X11_step_c_X11_isPlan : GoodIn wf_c_X11_step (wsV RX11 293 RX11 yX11_isPlan wf_c_X11_isPlan) := goodIn_app (gi_l [1, 2, 3, 4] rfl rfl) (gi_cons (j := 5) rfl rfl (goodIn_app (gi_l [6] rfl rfl) (goodIn_sub iw_c_X11_step_X11 gw_X11)))
set_option maxRecDepth 20000 in
theorem gf_c_X11_step_c_X11_isWithin_7 : GoodIn wf_c_X11_step (va_wsS RX11 111 yX11_isWithin wf_c_X11_isWithin_7) := goodIn_app (gi_l [10, 11, 4] rfl rfl) (gi_cons (j := 12) rfl rfl gi_nil)
set_option maxRecDepth 20000 in
theorem gf_c_X11_step_c_X11_isWithin_3 : GoodIn wf_c_X11_step (va_wsS RX11 111 yX11_isWithin wf_c_X11_isWithin_3) := goodIn_app (gi_l [10, 11, 4] rfl rfl) (gi_cons (j := 12) rfl rfl gi_nil)
set_option maxRecDepth 20000 in
theorem gf_c_X11_step_c_X6_part : GoodIn wf_c_X11_step (wsV RX11 299 RX6 yX6_part wf_c_X6_part) := goodIn_app (gi_l [13, 14, 15, 16] rfl rfl) (gi_cons (j := 17) rfl rfl (goodIn_app (gi_l [18] rfl rfl) (goodIn_sub iw_c_X11_step_X6 gw_X6)))
set_option maxHeartbeats 4000000 in
set_option maxRecDepth 100000 in
theorem c_X11_step (l : Launch) (dC : Nat → ClassId) (dI : Nat → Nat → Nat) (sz : Nat) (h0 : Nat) (p1 : Int32) (p2 : Int32) (p3 : Int32) (h0_0 : Nat) (h0_1 : Nat) (h0_2 : Nat) (h0_3 : Nat) (h0_4 : Nat) (h0_f5 : Int32) (h0_6 : Nat) (h0_7 : Nat) (h0_8 : Nat) (h0_9 : Nat) (h0_10 : Nat) (h0_11 : Nat) (h0_12 : Nat) (h0_13 : Nat) (h0_14 : Nat) (h0_f15 : Int64) (h0_4k : ClassId) (h0_4c : Nat → Option Nat) (h0_4_e0 : Nat) (h0_4_e1 : Nat) (h0_4_e2 : Nat) (h0_4_e3 : Nat) (h0_4_e4 : Nat) (h0_4_e0_0 : Nat) (h0_4_e0_f1 : Int32) (h0_4_e0_0k : ClassId) (h0_4_e0_0c : Nat → Int32) (h0_4_e1_0 : Nat) (h0_4_e1_f1 : Int32) (h0_4_e1_0k : ClassId) (h0_4_e1_0c : Nat → Int32) (h0_4_e2_0 : Nat) (h0_4_e2_f1 : Int32) (h0_4_e2_0k : ClassId) (h0_4_e2_0c : Nat → Int32) (h0_4_e3_0 : Nat) (h0_4_e3_f1 : Int32) (h0_4_e3_0k : ClassId) (h0_4_e3_0c : Nat → Int32) (g_h0_f5 : RG h0_f5 0 4) (e_h0_4_e0 : h0_4c 0 = some h0_4_e0) (e_h0_4_e1 : h0_4c 1 = some h0_4_e1) (e_h0_4_e2 : h0_4c 2 = some h0_4_e2) (e_h0_4_e3 : h0_4c 3 = some h0_4_e3) (e_h0_4_e4 : h0_4c 4 = some h0_4_e4) (g_h0_4_e0_f1 : RG h0_4_e0_f1 0 16) (a_h0_4_e0_0c : AI h0_4_e0_0c (-1) 9) (g_h0_4_e1_f1 : RG h0_4_e1_f1 0 16) (a_h0_4_e1_0c : AI h0_4_e1_0c (-1) 9) (g_h0_4_e2_f1 : RG h0_4_e2_f1 0 16) (a_h0_4_e2_0c : AI h0_4_e2_0c (-1) 9) (g_h0_4_e3_f1 : RG h0_4_e3_f1 0 16) (a_h0_4_e3_0c : AI h0_4_e3_0c (-1) 9) : Met l yX11_step wf_c_X11_step ({ frames := 1, cells := 0, slots := 0, locals := 22 }) (va_Pc [.ref h0, .int p1, .int p2, .int p3] (fun U => U.heap.size = sz ∧ va_P (dC, dI) vwCl (wd_c_X11_step h0 h0_0 h0_1 h0_2 h0_3 h0_4 h0_f5 h0_6 h0_7 h0_8 h0_9 h0_10 h0_11 h0_12 h0_13 h0_14 h0_f15 h0_4 h0_4k h0_4c h0_4_e0 h0_4_e0_0 h0_4_e0_f1 h0_4_e0_0 h0_4_e0_0k h0_4_e0_0c h0_4_e1 h0_4_e1_0 h0_4_e1_f1 h0_4_e1_0 h0_4_e1_0k h0_4_e1_0c h0_4_e2 h0_4_e2_0 h0_4_e2_f1 h0_4_e2_0 h0_4_e2_0k h0_4_e2_0c h0_4_e3 h0_4_e3_0 h0_4_e3_f1 h0_4_e3_0 h0_4_e3_0k h0_4_e3_0c) U.heap ∧ va_K (dC, dI) vwCl [(h0_4k, .object RX6), (h0_4_e0_0k, .int), (h0_4_e1_0k, .int), (h0_4_e2_0k, .int), (h0_4_e3_0k, .int)] U ∧ va_D (fun _ => True) (wd_c_X11_step h0 h0_0 h0_1 h0_2 h0_3 h0_4 h0_f5 h0_6 h0_7 h0_8 h0_9 h0_10 h0_11 h0_12 h0_13 h0_14 h0_f15 h0_4 h0_4k h0_4c h0_4_e0 h0_4_e0_0 h0_4_e0_f1 h0_4_e0_0 h0_4_e0_0k h0_4_e0_0c h0_4_e1 h0_4_e1_0 h0_4_e1_f1 h0_4_e1_0 h0_4_e1_0k h0_4_e1_0c h0_4_e2 h0_4_e2_0 h0_4_e2_f1 h0_4_e2_0 h0_4_e2_0k h0_4_e2_0c h0_4_e3 h0_4_e3_0 h0_4_e3_f1 h0_4_e3_0 h0_4_e3_0k h0_4_e3_0c))) (va_Qi (fun (r : Int32) (u : Unit) => (r = (-1000000)) ∨ (RG r (-1) 9 ∧ RG h0_f5 1 4 ∧ RG p1 0 3 ∧ RG p2 0 15 ∧ RG p3 0 3)) (fun (u : Unit) t => va_P (dC, dI) vwCl (wd_c_X11_step h0 h0_0 h0_1 h0_2 h0_3 h0_4 h0_f5 h0_6 h0_7 h0_8 h0_9 h0_10 h0_11 h0_12 h0_13 h0_14 h0_f15 h0_4 h0_4k h0_4c h0_4_e0 h0_4_e0_0 h0_4_e0_f1 h0_4_e0_0 h0_4_e0_0k h0_4_e0_0c h0_4_e1 h0_4_e1_0 h0_4_e1_f1 h0_4_e1_0 h0_4_e1_0k h0_4_e1_0c h0_4_e2 h0_4_e2_0 h0_4_e2_f1 h0_4_e2_0 h0_4_e2_0k h0_4_e2_0c h0_4_e3 h0_4_e3_0 h0_4_e3_f1 h0_4_e3_0 h0_4_e3_0k h0_4_e3_0c) t.heap ∧ va_K (dC, dI) vwCl [] t ∧ va_D (va_A (wd_c_X11_step h0 h0_0 h0_1 h0_2 h0_3 h0_4 h0_f5 h0_6 h0_7 h0_8 h0_9 h0_10 h0_11 h0_12 h0_13 h0_14 h0_f15 h0_4 h0_4k h0_4c h0_4_e0 h0_4_e0_0 h0_4_e0_f1 h0_4_e0_0 h0_4_e0_0k h0_4_e0_0c h0_4_e1 h0_4_e1_0 h0_4_e1_f1 h0_4_e1_0 h0_4_e1_0k h0_4_e1_0c h0_4_e2 h0_4_e2_0 h0_4_e2_f1 h0_4_e2_0 h0_4_e2_0k h0_4_e2_0c h0_4_e3 h0_4_e3_0 h0_4_e3_f1 h0_4_e3_0 h0_4_e3_0k h0_4_e3_0c) sz) (wd_c_X11_step h0 h0_0 h0_1 h0_2 h0_3 h0_4 h0_f5 h0_6 h0_7 h0_8 h0_9 h0_10 h0_11 h0_12 h0_13 h0_14 h0_f15 h0_4 h0_4k h0_4c h0_4_e0 h0_4_e0_0 h0_4_e0_f1 h0_4_e0_0 h0_4_e0_0k h0_4_e0_0c h0_4_e1 h0_4_e1_0 h0_4_e1_f1 h0_4_e1_0 h0_4_e1_0k h0_4_e1_0c h0_4_e2 h0_4_e2_0 h0_4_e2_f1 h0_4_e2_0 h0_4_e2_0k h0_4_e2_0c h0_4_e3 h0_4_e3_0 h0_4_e3_f1 h0_4_e3_0 h0_4_e3_0k h0_4_e3_0c)) (va_A (wd_c_X11_step h0 h0_0 h0_1 h0_2 h0_3 h0_4 h0_f5 h0_6 h0_7 h0_8 h0_9 h0_10 h0_11 h0_12 h0_13 h0_14 h0_f15 h0_4 h0_4k h0_4c h0_4_e0 h0_4_e0_0 h0_4_e0_f1 h0_4_e0_0 h0_4_e0_0k h0_4_e0_0c h0_4_e1 h0_4_e1_0 h0_4_e1_f1 h0_4_e1_0 h0_4_e1_0k h0_4_e1_0c h0_4_e2 h0_4_e2_0 h0_4_e2_f1 h0_4_e2_0 h0_4_e2_0k h0_4_e2_0c h0_4_e3 h0_4_e3_0 h0_4_e3_f1 h0_4_e3_0 h0_4_e3_0k h0_4_e3_0c) sz)) 0 0 (va_A (wd_c_X11_step h0 h0_0 h0_1 h0_2 h0_3 h0_4 h0_f5 h0_6 h0_7 h0_8 h0_9 h0_10 h0_11 h0_12 h0_13 h0_14 h0_f15 h0_4 h0_4k h0_4c h0_4_e0 h0_4_e0_0 h0_4_e0_f1 h0_4_e0_0 h0_4_e0_0k h0_4_e0_0c h0_4_e1 h0_4_e1_0 h0_4_e1_f1 h0_4_e1_0 h0_4_e1_0k h0_4_e1_0c h0_4_e2 h0_4_e2_0 h0_4_e2_f1 h0_4_e2_0 h0_4_e2_0k h0_4_e2_0c h0_4_e3 h0_4_e3_0 h0_4_e3_f1 h0_4_e3_0 h0_4_e3_0k h0_4_e3_0c) sz) := by
  refine Met.ofW (cc := cX11_step) (maxL := 4) (ret := (some .int)) (by decide +kernel) rfl ?_
  intro p e s m args below meth c s₁ B hml hv
  obtain ⟨rfl, hsz, hP, hK, hD0⟩ := hv
  have hx := B.exec
  have hb := B.bytes
  have hr := B.returns
  have hts := atoms_spec (ws := wf_c_X11_step) B.pre
  have hown : s.vm.findClass RX11 = some m.cls := findClass_of_methodNamed B.named
  have hlocks := B.notSynchronized
  subst hsz
  have hD := hD0.self (sz := s.heap.size)
  generalize hAe : va_A (wd_c_X11_step h0 h0_0 h0_1 h0_2 h0_3 h0_4 h0_f5 h0_6 h0_7 h0_8 h0_9 h0_10 h0_11 h0_12 h0_13 h0_14 h0_f15 h0_4 h0_4k h0_4c h0_4_e0 h0_4_e0_0 h0_4_e0_f1 h0_4_e0_0 h0_4_e0_0k h0_4_e0_0c h0_4_e1 h0_4_e1_0 h0_4_e1_f1 h0_4_e1_0 h0_4_e1_0k h0_4_e1_0c h0_4_e2 h0_4_e2_0 h0_4_e2_f1 h0_4_e2_0 h0_4_e2_0k h0_4_e2_0c h0_4_e3 h0_4_e3_0 h0_4_e3_f1 h0_4_e3_0 h0_4_e3_0k h0_4_e3_0c) s.heap.size = A at hD ⊢
  have hA : ∀ q : Nat, s.heap.size ≤ q → A q := fun q h => by rw [← hAe]; exact Or.inr h
  have hP : va_P (dC, dI) vwCl (wd_c_X11_step h0 h0_0 h0_1 h0_2 h0_3 h0_4 h0_f5 h0_6 h0_7 h0_8 h0_9 h0_10 h0_11 h0_12 h0_13 h0_14 h0_f15 h0_4 h0_4k h0_4c h0_4_e0 h0_4_e0_0 h0_4_e0_f1 h0_4_e0_0 h0_4_e0_0k h0_4_e0_0c h0_4_e1 h0_4_e1_0 h0_4_e1_f1 h0_4_e1_0 h0_4_e1_0k h0_4_e1_0c h0_4_e2 h0_4_e2_0 h0_4_e2_f1 h0_4_e2_0 h0_4_e2_0k h0_4_e2_0c h0_4_e3 h0_4_e3_0 h0_4_e3_f1 h0_4_e3_0 h0_4_e3_0k h0_4_e3_0c) s.heap := hP
  have hl := lv_entry ([.ref h0, .int p1, .int p2, .int p3]) (n := 4) (Nat.le_of_ble_eq_true rfl)
  rw [lg_entry_eq]
  generalize (lg_sl ([.ref h0, .int p1, .int p2, .int p3]) ++ List.replicate (4 - (lg_sl ([.ref h0, .int p1, .int p2, .int p3])).length) Slot.unset).toArray = ls at hl ⊢
  have hl : lv_has ls 4 [(0, .ref h0), (1, .int p1), (2, .int p2), (3, .int p3)] := hl
  obtain ⟨H, hHe⟩ : ∃ H : Heap, s.heap = H := ⟨_, rfl⟩
  have hS : va_S A s.heap H [] := by rw [hHe]; exact va_S.rf
  have hP : va_P (dC, dI) vwCl (wd_c_X11_step h0 h0_0 h0_1 h0_2 h0_3 h0_4 h0_f5 h0_6 h0_7 h0_8 h0_9 h0_10 h0_11 h0_12 h0_13 h0_14 h0_f15 h0_4 h0_4k h0_4c h0_4_e0 h0_4_e0_0 h0_4_e0_f1 h0_4_e0_0 h0_4_e0_0k h0_4_e0_0c h0_4_e1 h0_4_e1_0 h0_4_e1_f1 h0_4_e1_0 h0_4_e1_0k h0_4_e1_0c h0_4_e2 h0_4_e2_0 h0_4_e2_f1 h0_4_e2_0 h0_4_e2_0k h0_4_e2_0c h0_4_e3 h0_4_e3_0 h0_4_e3_f1 h0_4_e3_0 h0_4_e3_0k h0_4_e3_0c) H := by rw [← hHe]; exact hP
  rw [hHe]
  refine lv_aload_n hx hb dX11_step_0 rfl (lv_at hl 0 rfl) ?_
  as_aux_lemma =>
  refine lv_iload_n hx hb dX11_step_1 rfl (lv_at hl 1 rfl) ?_
  obtain ⟨hPc, hDc, hFc, hqc⟩ := cl_cut (wc := (wd_c_X11_isPlan h0 h0_0 h0_1 h0_2 h0_3 h0_4 h0_f5 h0_6 h0_7 h0_8 h0_9 h0_10 h0_11 h0_12 h0_13 h0_14 h0_f15)) hP hD hS hA [0] (by decide +kernel) rfl
  have hKc := hK.sub (tys' := []) [] rfl
  have hrv := va_recv hKc hPc (ci := 11) (q0 := 0) rfl rfl
  refine va_calli (va_runV (As := [.int p1]) (rest := []) ⟨hx, hb, hml, hown, hts⟩ (c_X11_isPlan l dC dI H.size h0 p1 h0_0 h0_1 h0_2 h0_3 h0_4 h0_f5 h0_6 h0_7 h0_8 h0_9 h0_10 h0_11 h0_12 h0_13 h0_14 h0_f15 g_h0_f5) (cwV 1 hts gf_c_X11_step_c_X11_isPlan rfl rfl rfl mdV_X11_isPlan ⟨Nat.le_of_ble_eq_true rfl, Nat.le_of_ble_eq_true rfl⟩) ⟨fun a U g mk q => by obtain ⟨q0, q1, qP, qK, qD⟩ := q; exact ⟨q0, q1, qP, va_K.moved (u := U) (U := U.calling g mk a) (Vm.Alike.refl U.vm) qK, qD⟩, hrv, fun U hU hW => ⟨rfl, by rw [hU], by rw [hU]; exact hPc, va_K.moved hW.alike hKc, hDc.weaken (fun _ _ _ _ => trivial)⟩⟩ rfl rfl hl.1 rfl (lv_room (Nat.le_of_ble_eq_true rfl)) dX11_step_2 ⟨Nat.le_of_ble_eq_true rfl, Nat.le_of_ble_eq_true rfl⟩) hS (fun q _ h => hFc q h) hFc (fun r_1 u t H1 locs ht hvm hw hB hz1 hk1 hS => ?_)
  obtain ⟨hP1, hK1, hD1⟩ := hB
  rw [ht] at hP1
  obtain ⟨hP, hD⟩ := cl_put (w1 := (wd_c_X11_isPlan h0 h0_0 h0_1 h0_2 h0_3 h0_4 h0_f5 h0_6 h0_7 h0_8 h0_9 h0_10 h0_11 h0_12 h0_13 h0_14 h0_f15)) (nw := (wd_c_X11_step h0 h0_0 h0_1 h0_2 h0_3 h0_4 h0_f5 h0_6 h0_7 h0_8 h0_9 h0_10 h0_11 h0_12 h0_13 h0_14 h0_f15 h0_4 h0_4k h0_4c h0_4_e0 h0_4_e0_0 h0_4_e0_f1 h0_4_e0_0 h0_4_e0_0k h0_4_e0_0c h0_4_e1 h0_4_e1_0 h0_4_e1_f1 h0_4_e1_0 h0_4_e1_0k h0_4_e1_0c h0_4_e2 h0_4_e2_0 h0_4_e2_f1 h0_4_e2_0 h0_4_e2_0k h0_4_e2_0c h0_4_e3 h0_4_e3_0 h0_4_e3_f1 h0_4_e3_0 h0_4_e3_0k h0_4_e3_0c)) hP hD [0] [10, 1, 2, 3, 4, 5, 6, 7, 8, 9] 10 rfl hqc (by decide +kernel) rfl hk1 hFc hP1 hD1
  generalize H1 = H at hP hS ⊢
  as_aux_lemma =>
  rcases hw with ⟨h_2, h_3⟩ | ⟨h_4, h_5, h_6⟩
  · rw [h_2]
    refine lv_if_eq (tgt := 36) hx hb dX11_step_5 rfl (fun c_7 => ?_) (fun c_7 => absurd c_7 (by decide +kernel))
    refine lv_ldc hx hb hown (hts (.constant RX11 228 (-1000000)) (List.mem_of_getElem? (i := 7) rfl)) dX11_step_36 ?_
    have hK9 := hK.sub (tys' := []) [] rfl
    exact W.iret (v := (-1000000)) hx hb hr (fun t ht hW => ⟨⟨(-1000000), (), rfl, (Or.inl rfl), by rw [ht]; exact hP, va_K.moved hW.alike hK9, hD⟩, hS.F ht⟩) hS.2.2 dX11_step_38
  · rw [h_4]
    refine lv_if_eq (tgt := 36) hx hb dX11_step_5 rfl (fun c_8 => absurd c_8 (by decide +kernel)) (fun c_8 => ?_)
    refine lv_iload_n hx hb dX11_step_8 rfl (lv_at hl 2 rfl) ?_
    refine lv_iconst (v := 0) hx hb dX11_step_9 kc_iconst_0 ?_
    refine lv_aload_n hx hb dX11_step_10 rfl (lv_at hl 0 rfl) ?_
    refine va_get (D := (dC, dI)) (ci := 11) (v := .ref h0_4) (C := RX11) (T := TX11) (N := 16) hx hb hts iw_c_X11_step_X11 hown hK hP 0 rfl rfl 4 (by decide +kernel) (hts (.fieldLink RX11 35 "BuoyVote" "plans" "[LBuoyVote$Plan;") (List.mem_of_getElem? (i := 8) rfl)) (fun _ h9 => h9) rfl dX11_step_11 ?_
    refine lv_iload_n hx hb dX11_step_14 rfl (lv_at hl 1 rfl) ?_
    by_cases c_9 : p1 = 0
    · refine W.eq (g2 := F0 m 15 ls [.int 0, .ref h0_4, .int 0, .int p2]) (by rw [c_9]) ?_
      have g_10 : RG p1 0 0 := RG_k _ _ (by rw [c_9]; rfl)
      refine va_aldq hx hb hK hP 1 0 rfl rfl (by unfold vp_in; decide) dX11_step_15 ?_
      as_aux_lemma =>
      rw [show h0_4c (0 : Int32).toNatClampNeg = some h0_4_e0 from e_h0_4_e0]
      refine W.eq (g2 := F0 m 16 ls [.ref h0_4_e0, .int 0, .int p2]) rfl ?_
      refine va_get (D := (dC, dI)) (ci := 6) (v := .int h0_4_e0_f1) (C := RX6) (T := TX6) (N := 2) hx hb hts iw_c_X11_step_X6 hown hK hP 2 rfl rfl 1 (by decide +kernel) (hts (.fieldLink RX11 296 "BuoyVote$Plan" "steps" "I") (List.mem_of_getElem? (i := 9) rfl)) (fun _ h9 => h9) rfl dX11_step_16 ?_
      refine lv_iconst (v := 1) hx hb dX11_step_19 kc_iconst_1 ?_
      refine lv_isub hx hb dX11_step_20 ?_
      refine lv_topi (fun x_11 ex_11 => ?_)
      have g_12 : RG x_11 (-1) 15 := RG_sub ex_11 g_h0_4_e0_f1 (RG_k 1 1 rfl) (by decide +kernel)
      obtain ⟨hPc, hDc, hFc, hqc⟩ := cl_cut (wc := []) hP hD hS hA [] (by decide +kernel) rfl
      have hKc := hK.sub (tys' := []) [] rfl
      refine va_calli (va_runS (As := [.int p2, .int 0, .int x_11]) (rest := []) ⟨hx, hb, hml, hown, hts⟩ (c_X11_isWithin_7 l dC dI H.size p2 x_11 g_12) (va_cwS 3 hts gf_c_X11_step_c_X11_isWithin_7 rfl rfl rfl md_X11_isWithin ⟨Nat.le_of_ble_eq_true rfl, Nat.le_of_ble_eq_true rfl⟩) ⟨fun a U g mk q => by obtain ⟨q0, q1, qP, qK, qD⟩ := q; exact ⟨q0, q1, qP, va_K.moved (u := U) (U := U.calling g mk a) (Vm.Alike.refl U.vm) qK, qD⟩, fun U hU hW => ⟨rfl, by rw [hU], by rw [hU]; exact hPc, va_K.moved hW.alike hKc, hDc.weaken (fun _ _ _ _ => trivial)⟩⟩ rfl rfl hl.1 rfl (lv_room (Nat.le_of_ble_eq_true rfl)) dX11_step_21 ⟨Nat.le_of_ble_eq_true rfl, Nat.le_of_ble_eq_true rfl⟩) hS (fun q _ h => hFc q h) hFc (fun r_13 u t H1 locs ht hvm hw hB hz1 hk1 hS => ?_)
      obtain ⟨hP1, hK1, hD1⟩ := hB
      rw [ht] at hP1
      have hP := bv_still hP hk1
      generalize H1 = H at hP hS ⊢
      as_aux_lemma =>
      rcases hw with ⟨h_14, h_15, h_16⟩ | ⟨h_17, h_18, h_19, h_20, h_21⟩
      · rw [h_14]
        refine lv_if_eq (tgt := 36) hx hb dX11_step_24 rfl (fun c_22 => ?_) (fun c_22 => absurd c_22 (by decide +kernel))
        refine lv_ldc hx hb hown (hts (.constant RX11 228 (-1000000)) (List.mem_of_getElem? (i := 7) rfl)) dX11_step_36 ?_
        have hK9 := hK.sub (tys' := []) [] rfl
        exact W.iret (v := (-1000000)) hx hb hr (fun t ht hW => ⟨⟨(-1000000), (), rfl, (Or.inl rfl), by rw [ht]; exact hP, va_K.moved hW.alike hK9, hD⟩, hS.F ht⟩) hS.2.2 dX11_step_38
      · rw [h_17]
        have g_23 : RG h0_4_e0_f1 1 16 := RG_addb (RG_sc (d := (-1)) ex_11 rfl) (q := (-1)) rfl g_h0_4_e0_f1 h_19 (by decide +kernel)
        refine lv_if_eq (tgt := 36) hx hb dX11_step_24 rfl (fun c_24 => absurd c_24 (by decide +kernel)) (fun c_24 => ?_)
        refine lv_iload_n hx hb dX11_step_27 rfl (lv_at hl 3 rfl) ?_
        refine lv_iconst (v := 0) hx hb dX11_step_28 kc_iconst_0 ?_
        refine lv_iconst (v := 3) hx hb dX11_step_29 kc_iconst_3 ?_
        obtain ⟨hPc, hDc, hFc, hqc⟩ := cl_cut (wc := []) hP hD hS hA [] (by decide +kernel) rfl
        have hKc := hK.sub (tys' := []) [] rfl
        refine va_calli (va_runS (As := [.int p3, .int 0, .int 3]) (rest := []) ⟨hx, hb, hml, hown, hts⟩ (c_X11_isWithin_3 l dC dI H.size p3) (va_cwS 3 hts gf_c_X11_step_c_X11_isWithin_3 rfl rfl rfl md_X11_isWithin ⟨Nat.le_of_ble_eq_true rfl, Nat.le_of_ble_eq_true rfl⟩) ⟨fun a U g mk q => by obtain ⟨q0, q1, qP, qK, qD⟩ := q; exact ⟨q0, q1, qP, va_K.moved (u := U) (U := U.calling g mk a) (Vm.Alike.refl U.vm) qK, qD⟩, fun U hU hW => ⟨rfl, by rw [hU], by rw [hU]; exact hPc, va_K.moved hW.alike hKc, hDc.weaken (fun _ _ _ _ => trivial)⟩⟩ rfl rfl hl.1 rfl (lv_room (Nat.le_of_ble_eq_true rfl)) dX11_step_30 ⟨Nat.le_of_ble_eq_true rfl, Nat.le_of_ble_eq_true rfl⟩) hS (fun q _ h => hFc q h) hFc (fun r_25 u t H1 locs ht hvm hw hB hz1 hk1 hS => ?_)
        as_aux_lemma =>
        obtain ⟨hP1, hK1, hD1⟩ := hB
        rw [ht] at hP1
        have hP := bv_still hP hk1
        generalize H1 = H at hP hS ⊢
        as_aux_lemma =>
        rcases hw with ⟨h_26, h_27, h_28⟩ | ⟨h_29, h_30, h_31⟩
        · rw [h_26]
          refine lv_if_ne (tgt := 39) hx hb dX11_step_33 rfl (fun c_32 => absurd c_32 (by decide +kernel)) (fun c_32 => ?_)
          refine lv_ldc hx hb hown (hts (.constant RX11 228 (-1000000)) (List.mem_of_getElem? (i := 7) rfl)) dX11_step_36 ?_
          have hK9 := hK.sub (tys' := []) [] rfl
          exact W.iret (v := (-1000000)) hx hb hr (fun t ht hW => ⟨⟨(-1000000), (), rfl, (Or.inl rfl), by rw [ht]; exact hP, va_K.moved hW.alike hK9, hD⟩, hS.F ht⟩) hS.2.2 dX11_step_38
        · rw [h_29]
          refine lv_if_ne (tgt := 39) hx hb dX11_step_33 rfl (fun c_33 => ?_) (fun c_33 => absurd c_33 (by decide +kernel))
          refine lv_aload_n hx hb dX11_step_39 rfl (lv_at hl 0 rfl) ?_
          refine va_get (D := (dC, dI)) (ci := 11) (v := .ref h0_4) (C := RX11) (T := TX11) (N := 16) hx hb hts iw_c_X11_step_X11 hown hK hP 0 rfl rfl 4 (by decide +kernel) (hts (.fieldLink RX11 35 "BuoyVote" "plans" "[LBuoyVote$Plan;") (List.mem_of_getElem? (i := 8) rfl)) (fun _ h9 => h9) rfl dX11_step_40 ?_
          refine lv_iload_n hx hb dX11_step_43 rfl (lv_at hl 1 rfl) ?_
          by_cases c_34 : p1 = 0
          · refine W.eq (g2 := F0 m 44 ls [.int 0, .ref h0_4]) (by rw [c_34]) ?_
            have g_35 : RG p1 0 0 := RG_k _ _ (by rw [c_34]; rfl)
            refine va_aldq hx hb hK hP 1 0 rfl rfl (by unfold vp_in; decide) dX11_step_44 ?_
            as_aux_lemma =>
            rw [show h0_4c (0 : Int32).toNatClampNeg = some h0_4_e0 from e_h0_4_e0]
            refine W.eq (g2 := F0 m 45 ls [.ref h0_4_e0]) rfl ?_
            refine lv_iload_n hx hb dX11_step_45 rfl (lv_at hl 2 rfl) ?_
            refine lv_iload_n hx hb dX11_step_46 rfl (lv_at hl 3 rfl) ?_
            obtain ⟨hPc, hDc, hFc, hqc⟩ := cl_cut (wc := (wd_c_X6_part h0_4_e0 h0_4_e0_0 h0_4_e0_f1 h0_4_e0_0 h0_4_e0_0k h0_4_e0_0c)) hP hD hS hA [2, 3] (by decide +kernel) rfl
            have hKc := hK.sub (tys' := [(h0_4_e0_0k, .int)]) [1] rfl
            have hrv := va_recv hKc hPc (ci := 6) (q0 := 0) rfl rfl
            refine va_calli (va_runV (As := [.int p2, .int p3]) (rest := []) ⟨hx, hb, hml, hown, hts⟩ (c_X6_part l dC dI H.size h0_4_e0 p2 p3 h0_4_e0_0 h0_4_e0_f1 h0_4_e0_0k h0_4_e0_0c h_18 h_30 (RG_w g_23 (by decide +kernel)) a_h0_4_e0_0c) (cwV 2 hts gf_c_X11_step_c_X6_part rfl rfl rfl mdV_X6_part ⟨Nat.le_of_ble_eq_true rfl, Nat.le_of_ble_eq_true rfl⟩) ⟨fun a U g mk q => by obtain ⟨q0, q1, qP, qK, qD⟩ := q; exact ⟨q0, q1, qP, va_K.moved (u := U) (U := U.calling g mk a) (Vm.Alike.refl U.vm) qK, qD⟩, hrv, fun U hU hW => ⟨rfl, by rw [hU], by rw [hU]; exact hPc, va_K.moved hW.alike hKc, hDc.weaken (fun _ _ _ _ => trivial)⟩⟩ rfl rfl hl.1 rfl (lv_room (Nat.le_of_ble_eq_true rfl)) dX11_step_47 ⟨Nat.le_of_ble_eq_true rfl, Nat.le_of_ble_eq_true rfl⟩) hS (fun q _ h => hFc q h) hFc (fun r_36 u t H1 locs ht hvm hw hB hz1 hk1 hS => ?_)
            obtain ⟨hP1, hK1, hD1⟩ := hB
            rw [ht] at hP1
            obtain ⟨hP, hD⟩ := cl_put (w1 := (wd_c_X6_part h0_4_e0 h0_4_e0_0 h0_4_e0_f1 h0_4_e0_0 h0_4_e0_0k h0_4_e0_0c)) (nw := (wd_c_X11_step h0 h0_0 h0_1 h0_2 h0_3 h0_4 h0_f5 h0_6 h0_7 h0_8 h0_9 h0_10 h0_11 h0_12 h0_13 h0_14 h0_f15 h0_4 h0_4k h0_4c h0_4_e0 h0_4_e0_0 h0_4_e0_f1 h0_4_e0_0 h0_4_e0_0k h0_4_e0_0c h0_4_e1 h0_4_e1_0 h0_4_e1_f1 h0_4_e1_0 h0_4_e1_0k h0_4_e1_0c h0_4_e2 h0_4_e2_0 h0_4_e2_f1 h0_4_e2_0 h0_4_e2_0k h0_4_e2_0c h0_4_e3 h0_4_e3_0 h0_4_e3_f1 h0_4_e3_0 h0_4_e3_0k h0_4_e3_0c)) hP hD [2, 3] [0, 1, 10, 11, 4, 5, 6, 7, 8, 9] 10 rfl hqc (by decide +kernel) rfl hk1 hFc hP1 hD1
            generalize H1 = H at hP hS ⊢
            as_aux_lemma =>
            rcases hw with ⟨h_37, h_38⟩
            have hK9 := hK.sub (tys' := []) [] rfl
            exact W.iret (v := r_36) hx hb hr (fun t ht hW => ⟨⟨r_36, (), rfl, (Or.inr ⟨h_37, h_5, (RG_w g_35 (by decide +kernel)), h_18, h_30⟩), by rw [ht]; exact hP, va_K.moved hW.alike hK9, hD⟩, hS.F ht⟩) hS.2.2 dX11_step_50
          exfalso
          have zc_34 := lv_neT c_34 (a := 0) (by decide +kernel)
          have zg1 := (g_10).1
          have zg2 := (g_10).2
          omega
    by_cases c_39 : p1 = 1
    · refine W.eq (g2 := F0 m 15 ls [.int 1, .ref h0_4, .int 0, .int p2]) (by rw [c_39]) ?_
      have g_40 : RG p1 1 1 := RG_k _ _ (by rw [c_39]; rfl)
      refine va_aldq hx hb hK hP 1 0 rfl rfl (by unfold vp_in; decide) dX11_step_15 ?_
      rw [show h0_4c (1 : Int32).toNatClampNeg = some h0_4_e1 from e_h0_4_e1]
      refine W.eq (g2 := F0 m 16 ls [.ref h0_4_e1, .int 0, .int p2]) rfl ?_
      as_aux_lemma =>
      refine va_get (D := (dC, dI)) (ci := 6) (v := .int h0_4_e1_f1) (C := RX6) (T := TX6) (N := 2) hx hb hts iw_c_X11_step_X6 hown hK hP 4 rfl rfl 1 (by decide +kernel) (hts (.fieldLink RX11 296 "BuoyVote$Plan" "steps" "I") (List.mem_of_getElem? (i := 9) rfl)) (fun _ h9 => h9) rfl dX11_step_16 ?_
      refine lv_iconst (v := 1) hx hb dX11_step_19 kc_iconst_1 ?_
      refine lv_isub hx hb dX11_step_20 ?_
      refine lv_topi (fun x_41 ex_41 => ?_)
      have g_42 : RG x_41 (-1) 15 := RG_sub ex_41 g_h0_4_e1_f1 (RG_k 1 1 rfl) (by decide +kernel)
      obtain ⟨hPc, hDc, hFc, hqc⟩ := cl_cut (wc := []) hP hD hS hA [] (by decide +kernel) rfl
      have hKc := hK.sub (tys' := []) [] rfl
      refine va_calli (va_runS (As := [.int p2, .int 0, .int x_41]) (rest := []) ⟨hx, hb, hml, hown, hts⟩ (c_X11_isWithin_7 l dC dI H.size p2 x_41 g_42) (va_cwS 3 hts gf_c_X11_step_c_X11_isWithin_7 rfl rfl rfl md_X11_isWithin ⟨Nat.le_of_ble_eq_true rfl, Nat.le_of_ble_eq_true rfl⟩) ⟨fun a U g mk q => by obtain ⟨q0, q1, qP, qK, qD⟩ := q; exact ⟨q0, q1, qP, va_K.moved (u := U) (U := U.calling g mk a) (Vm.Alike.refl U.vm) qK, qD⟩, fun U hU hW => ⟨rfl, by rw [hU], by rw [hU]; exact hPc, va_K.moved hW.alike hKc, hDc.weaken (fun _ _ _ _ => trivial)⟩⟩ rfl rfl hl.1 rfl (lv_room (Nat.le_of_ble_eq_true rfl)) dX11_step_21 ⟨Nat.le_of_ble_eq_true rfl, Nat.le_of_ble_eq_true rfl⟩) hS (fun q _ h => hFc q h) hFc (fun r_43 u t H1 locs ht hvm hw hB hz1 hk1 hS => ?_)
      obtain ⟨hP1, hK1, hD1⟩ := hB
      rw [ht] at hP1
      have hP := bv_still hP hk1
      generalize H1 = H at hP hS ⊢
      as_aux_lemma =>
      rcases hw with ⟨h_44, h_45, h_46⟩ | ⟨h_47, h_48, h_49, h_50, h_51⟩
      · rw [h_44]
        refine lv_if_eq (tgt := 36) hx hb dX11_step_24 rfl (fun c_52 => ?_) (fun c_52 => absurd c_52 (by decide +kernel))
        refine lv_ldc hx hb hown (hts (.constant RX11 228 (-1000000)) (List.mem_of_getElem? (i := 7) rfl)) dX11_step_36 ?_
        have hK9 := hK.sub (tys' := []) [] rfl
        exact W.iret (v := (-1000000)) hx hb hr (fun t ht hW => ⟨⟨(-1000000), (), rfl, (Or.inl rfl), by rw [ht]; exact hP, va_K.moved hW.alike hK9, hD⟩, hS.F ht⟩) hS.2.2 dX11_step_38
      · rw [h_47]
        have g_53 : RG h0_4_e1_f1 1 16 := RG_addb (RG_sc (d := (-1)) ex_41 rfl) (q := (-1)) rfl g_h0_4_e1_f1 h_49 (by decide +kernel)
        refine lv_if_eq (tgt := 36) hx hb dX11_step_24 rfl (fun c_54 => absurd c_54 (by decide +kernel)) (fun c_54 => ?_)
        refine lv_iload_n hx hb dX11_step_27 rfl (lv_at hl 3 rfl) ?_
        refine lv_iconst (v := 0) hx hb dX11_step_28 kc_iconst_0 ?_
        refine lv_iconst (v := 3) hx hb dX11_step_29 kc_iconst_3 ?_
        obtain ⟨hPc, hDc, hFc, hqc⟩ := cl_cut (wc := []) hP hD hS hA [] (by decide +kernel) rfl
        have hKc := hK.sub (tys' := []) [] rfl
        refine va_calli (va_runS (As := [.int p3, .int 0, .int 3]) (rest := []) ⟨hx, hb, hml, hown, hts⟩ (c_X11_isWithin_3 l dC dI H.size p3) (va_cwS 3 hts gf_c_X11_step_c_X11_isWithin_3 rfl rfl rfl md_X11_isWithin ⟨Nat.le_of_ble_eq_true rfl, Nat.le_of_ble_eq_true rfl⟩) ⟨fun a U g mk q => by obtain ⟨q0, q1, qP, qK, qD⟩ := q; exact ⟨q0, q1, qP, va_K.moved (u := U) (U := U.calling g mk a) (Vm.Alike.refl U.vm) qK, qD⟩, fun U hU hW => ⟨rfl, by rw [hU], by rw [hU]; exact hPc, va_K.moved hW.alike hKc, hDc.weaken (fun _ _ _ _ => trivial)⟩⟩ rfl rfl hl.1 rfl (lv_room (Nat.le_of_ble_eq_true rfl)) dX11_step_30 ⟨Nat.le_of_ble_eq_true rfl, Nat.le_of_ble_eq_true rfl⟩) hS (fun q _ h => hFc q h) hFc (fun r_55 u t H1 locs ht hvm hw hB hz1 hk1 hS => ?_)
        as_aux_lemma =>
        obtain ⟨hP1, hK1, hD1⟩ := hB
        rw [ht] at hP1
        have hP := bv_still hP hk1
        generalize H1 = H at hP hS ⊢
        as_aux_lemma =>
        rcases hw with ⟨h_56, h_57, h_58⟩ | ⟨h_59, h_60, h_61⟩
        · rw [h_56]
          refine lv_if_ne (tgt := 39) hx hb dX11_step_33 rfl (fun c_62 => absurd c_62 (by decide +kernel)) (fun c_62 => ?_)
          refine lv_ldc hx hb hown (hts (.constant RX11 228 (-1000000)) (List.mem_of_getElem? (i := 7) rfl)) dX11_step_36 ?_
          have hK9 := hK.sub (tys' := []) [] rfl
          exact W.iret (v := (-1000000)) hx hb hr (fun t ht hW => ⟨⟨(-1000000), (), rfl, (Or.inl rfl), by rw [ht]; exact hP, va_K.moved hW.alike hK9, hD⟩, hS.F ht⟩) hS.2.2 dX11_step_38
        · rw [h_59]
          refine lv_if_ne (tgt := 39) hx hb dX11_step_33 rfl (fun c_63 => ?_) (fun c_63 => absurd c_63 (by decide +kernel))
          refine lv_aload_n hx hb dX11_step_39 rfl (lv_at hl 0 rfl) ?_
          refine va_get (D := (dC, dI)) (ci := 11) (v := .ref h0_4) (C := RX11) (T := TX11) (N := 16) hx hb hts iw_c_X11_step_X11 hown hK hP 0 rfl rfl 4 (by decide +kernel) (hts (.fieldLink RX11 35 "BuoyVote" "plans" "[LBuoyVote$Plan;") (List.mem_of_getElem? (i := 8) rfl)) (fun _ h9 => h9) rfl dX11_step_40 ?_
          refine lv_iload_n hx hb dX11_step_43 rfl (lv_at hl 1 rfl) ?_
          by_cases c_64 : p1 = 1
          · refine W.eq (g2 := F0 m 44 ls [.int 1, .ref h0_4]) (by rw [c_64]) ?_
            have g_65 : RG p1 1 1 := RG_k _ _ (by rw [c_64]; rfl)
            refine va_aldq hx hb hK hP 1 0 rfl rfl (by unfold vp_in; decide) dX11_step_44 ?_
            as_aux_lemma =>
            rw [show h0_4c (1 : Int32).toNatClampNeg = some h0_4_e1 from e_h0_4_e1]
            refine W.eq (g2 := F0 m 45 ls [.ref h0_4_e1]) rfl ?_
            refine lv_iload_n hx hb dX11_step_45 rfl (lv_at hl 2 rfl) ?_
            refine lv_iload_n hx hb dX11_step_46 rfl (lv_at hl 3 rfl) ?_
            obtain ⟨hPc, hDc, hFc, hqc⟩ := cl_cut (wc := (wd_c_X6_part h0_4_e1 h0_4_e1_0 h0_4_e1_f1 h0_4_e1_0 h0_4_e1_0k h0_4_e1_0c)) hP hD hS hA [4, 5] (by decide +kernel) rfl
            have hKc := hK.sub (tys' := [(h0_4_e1_0k, .int)]) [2] rfl
            have hrv := va_recv hKc hPc (ci := 6) (q0 := 0) rfl rfl
            refine va_calli (va_runV (As := [.int p2, .int p3]) (rest := []) ⟨hx, hb, hml, hown, hts⟩ (c_X6_part l dC dI H.size h0_4_e1 p2 p3 h0_4_e1_0 h0_4_e1_f1 h0_4_e1_0k h0_4_e1_0c h_48 h_60 (RG_w g_53 (by decide +kernel)) a_h0_4_e1_0c) (cwV 2 hts gf_c_X11_step_c_X6_part rfl rfl rfl mdV_X6_part ⟨Nat.le_of_ble_eq_true rfl, Nat.le_of_ble_eq_true rfl⟩) ⟨fun a U g mk q => by obtain ⟨q0, q1, qP, qK, qD⟩ := q; exact ⟨q0, q1, qP, va_K.moved (u := U) (U := U.calling g mk a) (Vm.Alike.refl U.vm) qK, qD⟩, hrv, fun U hU hW => ⟨rfl, by rw [hU], by rw [hU]; exact hPc, va_K.moved hW.alike hKc, hDc.weaken (fun _ _ _ _ => trivial)⟩⟩ rfl rfl hl.1 rfl (lv_room (Nat.le_of_ble_eq_true rfl)) dX11_step_47 ⟨Nat.le_of_ble_eq_true rfl, Nat.le_of_ble_eq_true rfl⟩) hS (fun q _ h => hFc q h) hFc (fun r_66 u t H1 locs ht hvm hw hB hz1 hk1 hS => ?_)
            obtain ⟨hP1, hK1, hD1⟩ := hB
            rw [ht] at hP1
            obtain ⟨hP, hD⟩ := cl_put (w1 := (wd_c_X6_part h0_4_e1 h0_4_e1_0 h0_4_e1_f1 h0_4_e1_0 h0_4_e1_0k h0_4_e1_0c)) (nw := (wd_c_X11_step h0 h0_0 h0_1 h0_2 h0_3 h0_4 h0_f5 h0_6 h0_7 h0_8 h0_9 h0_10 h0_11 h0_12 h0_13 h0_14 h0_f15 h0_4 h0_4k h0_4c h0_4_e0 h0_4_e0_0 h0_4_e0_f1 h0_4_e0_0 h0_4_e0_0k h0_4_e0_0c h0_4_e1 h0_4_e1_0 h0_4_e1_f1 h0_4_e1_0 h0_4_e1_0k h0_4_e1_0c h0_4_e2 h0_4_e2_0 h0_4_e2_f1 h0_4_e2_0 h0_4_e2_0k h0_4_e2_0c h0_4_e3 h0_4_e3_0 h0_4_e3_f1 h0_4_e3_0 h0_4_e3_0k h0_4_e3_0c)) hP hD [4, 5] [0, 1, 2, 3, 10, 11, 6, 7, 8, 9] 10 rfl hqc (by decide +kernel) rfl hk1 hFc hP1 hD1
            generalize H1 = H at hP hS ⊢
            as_aux_lemma =>
            rcases hw with ⟨h_67, h_68⟩
            have hK9 := hK.sub (tys' := []) [] rfl
            exact W.iret (v := r_66) hx hb hr (fun t ht hW => ⟨⟨r_66, (), rfl, (Or.inr ⟨h_67, h_5, (RG_w g_65 (by decide +kernel)), h_48, h_60⟩), by rw [ht]; exact hP, va_K.moved hW.alike hK9, hD⟩, hS.F ht⟩) hS.2.2 dX11_step_50
          exfalso
          have zc_64 := lv_neT c_64 (a := 1) (by decide +kernel)
          have zg1 := (g_40).1
          have zg2 := (g_40).2
          omega
    by_cases c_69 : p1 = 2
    · refine W.eq (g2 := F0 m 15 ls [.int 2, .ref h0_4, .int 0, .int p2]) (by rw [c_69]) ?_
      have g_70 : RG p1 2 2 := RG_k _ _ (by rw [c_69]; rfl)
      refine va_aldq hx hb hK hP 1 0 rfl rfl (by unfold vp_in; decide) dX11_step_15 ?_
      rw [show h0_4c (2 : Int32).toNatClampNeg = some h0_4_e2 from e_h0_4_e2]
      refine W.eq (g2 := F0 m 16 ls [.ref h0_4_e2, .int 0, .int p2]) rfl ?_
      as_aux_lemma =>
      refine va_get (D := (dC, dI)) (ci := 6) (v := .int h0_4_e2_f1) (C := RX6) (T := TX6) (N := 2) hx hb hts iw_c_X11_step_X6 hown hK hP 6 rfl rfl 1 (by decide +kernel) (hts (.fieldLink RX11 296 "BuoyVote$Plan" "steps" "I") (List.mem_of_getElem? (i := 9) rfl)) (fun _ h9 => h9) rfl dX11_step_16 ?_
      refine lv_iconst (v := 1) hx hb dX11_step_19 kc_iconst_1 ?_
      refine lv_isub hx hb dX11_step_20 ?_
      refine lv_topi (fun x_71 ex_71 => ?_)
      have g_72 : RG x_71 (-1) 15 := RG_sub ex_71 g_h0_4_e2_f1 (RG_k 1 1 rfl) (by decide +kernel)
      obtain ⟨hPc, hDc, hFc, hqc⟩ := cl_cut (wc := []) hP hD hS hA [] (by decide +kernel) rfl
      have hKc := hK.sub (tys' := []) [] rfl
      refine va_calli (va_runS (As := [.int p2, .int 0, .int x_71]) (rest := []) ⟨hx, hb, hml, hown, hts⟩ (c_X11_isWithin_7 l dC dI H.size p2 x_71 g_72) (va_cwS 3 hts gf_c_X11_step_c_X11_isWithin_7 rfl rfl rfl md_X11_isWithin ⟨Nat.le_of_ble_eq_true rfl, Nat.le_of_ble_eq_true rfl⟩) ⟨fun a U g mk q => by obtain ⟨q0, q1, qP, qK, qD⟩ := q; exact ⟨q0, q1, qP, va_K.moved (u := U) (U := U.calling g mk a) (Vm.Alike.refl U.vm) qK, qD⟩, fun U hU hW => ⟨rfl, by rw [hU], by rw [hU]; exact hPc, va_K.moved hW.alike hKc, hDc.weaken (fun _ _ _ _ => trivial)⟩⟩ rfl rfl hl.1 rfl (lv_room (Nat.le_of_ble_eq_true rfl)) dX11_step_21 ⟨Nat.le_of_ble_eq_true rfl, Nat.le_of_ble_eq_true rfl⟩) hS (fun q _ h => hFc q h) hFc (fun r_73 u t H1 locs ht hvm hw hB hz1 hk1 hS => ?_)
      obtain ⟨hP1, hK1, hD1⟩ := hB
      rw [ht] at hP1
      have hP := bv_still hP hk1
      generalize H1 = H at hP hS ⊢
      as_aux_lemma =>
      rcases hw with ⟨h_74, h_75, h_76⟩ | ⟨h_77, h_78, h_79, h_80, h_81⟩
      · rw [h_74]
        refine lv_if_eq (tgt := 36) hx hb dX11_step_24 rfl (fun c_82 => ?_) (fun c_82 => absurd c_82 (by decide +kernel))
        refine lv_ldc hx hb hown (hts (.constant RX11 228 (-1000000)) (List.mem_of_getElem? (i := 7) rfl)) dX11_step_36 ?_
        have hK9 := hK.sub (tys' := []) [] rfl
        exact W.iret (v := (-1000000)) hx hb hr (fun t ht hW => ⟨⟨(-1000000), (), rfl, (Or.inl rfl), by rw [ht]; exact hP, va_K.moved hW.alike hK9, hD⟩, hS.F ht⟩) hS.2.2 dX11_step_38
      · rw [h_77]
        have g_83 : RG h0_4_e2_f1 1 16 := RG_addb (RG_sc (d := (-1)) ex_71 rfl) (q := (-1)) rfl g_h0_4_e2_f1 h_79 (by decide +kernel)
        refine lv_if_eq (tgt := 36) hx hb dX11_step_24 rfl (fun c_84 => absurd c_84 (by decide +kernel)) (fun c_84 => ?_)
        refine lv_iload_n hx hb dX11_step_27 rfl (lv_at hl 3 rfl) ?_
        refine lv_iconst (v := 0) hx hb dX11_step_28 kc_iconst_0 ?_
        refine lv_iconst (v := 3) hx hb dX11_step_29 kc_iconst_3 ?_
        obtain ⟨hPc, hDc, hFc, hqc⟩ := cl_cut (wc := []) hP hD hS hA [] (by decide +kernel) rfl
        have hKc := hK.sub (tys' := []) [] rfl
        refine va_calli (va_runS (As := [.int p3, .int 0, .int 3]) (rest := []) ⟨hx, hb, hml, hown, hts⟩ (c_X11_isWithin_3 l dC dI H.size p3) (va_cwS 3 hts gf_c_X11_step_c_X11_isWithin_3 rfl rfl rfl md_X11_isWithin ⟨Nat.le_of_ble_eq_true rfl, Nat.le_of_ble_eq_true rfl⟩) ⟨fun a U g mk q => by obtain ⟨q0, q1, qP, qK, qD⟩ := q; exact ⟨q0, q1, qP, va_K.moved (u := U) (U := U.calling g mk a) (Vm.Alike.refl U.vm) qK, qD⟩, fun U hU hW => ⟨rfl, by rw [hU], by rw [hU]; exact hPc, va_K.moved hW.alike hKc, hDc.weaken (fun _ _ _ _ => trivial)⟩⟩ rfl rfl hl.1 rfl (lv_room (Nat.le_of_ble_eq_true rfl)) dX11_step_30 ⟨Nat.le_of_ble_eq_true rfl, Nat.le_of_ble_eq_true rfl⟩) hS (fun q _ h => hFc q h) hFc (fun r_85 u t H1 locs ht hvm hw hB hz1 hk1 hS => ?_)
        as_aux_lemma =>
        obtain ⟨hP1, hK1, hD1⟩ := hB
        rw [ht] at hP1
        have hP := bv_still hP hk1
        generalize H1 = H at hP hS ⊢
        as_aux_lemma =>
        rcases hw with ⟨h_86, h_87, h_88⟩ | ⟨h_89, h_90, h_91⟩
        · rw [h_86]
          refine lv_if_ne (tgt := 39) hx hb dX11_step_33 rfl (fun c_92 => absurd c_92 (by decide +kernel)) (fun c_92 => ?_)
          refine lv_ldc hx hb hown (hts (.constant RX11 228 (-1000000)) (List.mem_of_getElem? (i := 7) rfl)) dX11_step_36 ?_
          have hK9 := hK.sub (tys' := []) [] rfl
          exact W.iret (v := (-1000000)) hx hb hr (fun t ht hW => ⟨⟨(-1000000), (), rfl, (Or.inl rfl), by rw [ht]; exact hP, va_K.moved hW.alike hK9, hD⟩, hS.F ht⟩) hS.2.2 dX11_step_38
        · rw [h_89]
          refine lv_if_ne (tgt := 39) hx hb dX11_step_33 rfl (fun c_93 => ?_) (fun c_93 => absurd c_93 (by decide +kernel))
          refine lv_aload_n hx hb dX11_step_39 rfl (lv_at hl 0 rfl) ?_
          refine va_get (D := (dC, dI)) (ci := 11) (v := .ref h0_4) (C := RX11) (T := TX11) (N := 16) hx hb hts iw_c_X11_step_X11 hown hK hP 0 rfl rfl 4 (by decide +kernel) (hts (.fieldLink RX11 35 "BuoyVote" "plans" "[LBuoyVote$Plan;") (List.mem_of_getElem? (i := 8) rfl)) (fun _ h9 => h9) rfl dX11_step_40 ?_
          refine lv_iload_n hx hb dX11_step_43 rfl (lv_at hl 1 rfl) ?_
          by_cases c_94 : p1 = 2
          · refine W.eq (g2 := F0 m 44 ls [.int 2, .ref h0_4]) (by rw [c_94]) ?_
            have g_95 : RG p1 2 2 := RG_k _ _ (by rw [c_94]; rfl)
            refine va_aldq hx hb hK hP 1 0 rfl rfl (by unfold vp_in; decide) dX11_step_44 ?_
            as_aux_lemma =>
            rw [show h0_4c (2 : Int32).toNatClampNeg = some h0_4_e2 from e_h0_4_e2]
            refine W.eq (g2 := F0 m 45 ls [.ref h0_4_e2]) rfl ?_
            refine lv_iload_n hx hb dX11_step_45 rfl (lv_at hl 2 rfl) ?_
            refine lv_iload_n hx hb dX11_step_46 rfl (lv_at hl 3 rfl) ?_
            obtain ⟨hPc, hDc, hFc, hqc⟩ := cl_cut (wc := (wd_c_X6_part h0_4_e2 h0_4_e2_0 h0_4_e2_f1 h0_4_e2_0 h0_4_e2_0k h0_4_e2_0c)) hP hD hS hA [6, 7] (by decide +kernel) rfl
            have hKc := hK.sub (tys' := [(h0_4_e2_0k, .int)]) [3] rfl
            have hrv := va_recv hKc hPc (ci := 6) (q0 := 0) rfl rfl
            refine va_calli (va_runV (As := [.int p2, .int p3]) (rest := []) ⟨hx, hb, hml, hown, hts⟩ (c_X6_part l dC dI H.size h0_4_e2 p2 p3 h0_4_e2_0 h0_4_e2_f1 h0_4_e2_0k h0_4_e2_0c h_78 h_90 (RG_w g_83 (by decide +kernel)) a_h0_4_e2_0c) (cwV 2 hts gf_c_X11_step_c_X6_part rfl rfl rfl mdV_X6_part ⟨Nat.le_of_ble_eq_true rfl, Nat.le_of_ble_eq_true rfl⟩) ⟨fun a U g mk q => by obtain ⟨q0, q1, qP, qK, qD⟩ := q; exact ⟨q0, q1, qP, va_K.moved (u := U) (U := U.calling g mk a) (Vm.Alike.refl U.vm) qK, qD⟩, hrv, fun U hU hW => ⟨rfl, by rw [hU], by rw [hU]; exact hPc, va_K.moved hW.alike hKc, hDc.weaken (fun _ _ _ _ => trivial)⟩⟩ rfl rfl hl.1 rfl (lv_room (Nat.le_of_ble_eq_true rfl)) dX11_step_47 ⟨Nat.le_of_ble_eq_true rfl, Nat.le_of_ble_eq_true rfl⟩) hS (fun q _ h => hFc q h) hFc (fun r_96 u t H1 locs ht hvm hw hB hz1 hk1 hS => ?_)
            obtain ⟨hP1, hK1, hD1⟩ := hB
            rw [ht] at hP1
            obtain ⟨hP, hD⟩ := cl_put (w1 := (wd_c_X6_part h0_4_e2 h0_4_e2_0 h0_4_e2_f1 h0_4_e2_0 h0_4_e2_0k h0_4_e2_0c)) (nw := (wd_c_X11_step h0 h0_0 h0_1 h0_2 h0_3 h0_4 h0_f5 h0_6 h0_7 h0_8 h0_9 h0_10 h0_11 h0_12 h0_13 h0_14 h0_f15 h0_4 h0_4k h0_4c h0_4_e0 h0_4_e0_0 h0_4_e0_f1 h0_4_e0_0 h0_4_e0_0k h0_4_e0_0c h0_4_e1 h0_4_e1_0 h0_4_e1_f1 h0_4_e1_0 h0_4_e1_0k h0_4_e1_0c h0_4_e2 h0_4_e2_0 h0_4_e2_f1 h0_4_e2_0 h0_4_e2_0k h0_4_e2_0c h0_4_e3 h0_4_e3_0 h0_4_e3_f1 h0_4_e3_0 h0_4_e3_0k h0_4_e3_0c)) hP hD [6, 7] [0, 1, 2, 3, 4, 5, 10, 11, 8, 9] 10 rfl hqc (by decide +kernel) rfl hk1 hFc hP1 hD1
            generalize H1 = H at hP hS ⊢
            as_aux_lemma =>
            rcases hw with ⟨h_97, h_98⟩
            have hK9 := hK.sub (tys' := []) [] rfl
            exact W.iret (v := r_96) hx hb hr (fun t ht hW => ⟨⟨r_96, (), rfl, (Or.inr ⟨h_97, h_5, (RG_w g_95 (by decide +kernel)), h_78, h_90⟩), by rw [ht]; exact hP, va_K.moved hW.alike hK9, hD⟩, hS.F ht⟩) hS.2.2 dX11_step_50
          exfalso
          have zc_94 := lv_neT c_94 (a := 2) (by decide +kernel)
          have zg1 := (g_70).1
          have zg2 := (g_70).2
          omega
    by_cases c_99 : p1 = 3
    · refine W.eq (g2 := F0 m 15 ls [.int 3, .ref h0_4, .int 0, .int p2]) (by rw [c_99]) ?_
      have g_100 : RG p1 3 3 := RG_k _ _ (by rw [c_99]; rfl)
      refine va_aldq hx hb hK hP 1 0 rfl rfl (by unfold vp_in; decide) dX11_step_15 ?_
      rw [show h0_4c (3 : Int32).toNatClampNeg = some h0_4_e3 from e_h0_4_e3]
      refine W.eq (g2 := F0 m 16 ls [.ref h0_4_e3, .int 0, .int p2]) rfl ?_
      as_aux_lemma =>
      refine va_get (D := (dC, dI)) (ci := 6) (v := .int h0_4_e3_f1) (C := RX6) (T := TX6) (N := 2) hx hb hts iw_c_X11_step_X6 hown hK hP 8 rfl rfl 1 (by decide +kernel) (hts (.fieldLink RX11 296 "BuoyVote$Plan" "steps" "I") (List.mem_of_getElem? (i := 9) rfl)) (fun _ h9 => h9) rfl dX11_step_16 ?_
      refine lv_iconst (v := 1) hx hb dX11_step_19 kc_iconst_1 ?_
      refine lv_isub hx hb dX11_step_20 ?_
      refine lv_topi (fun x_101 ex_101 => ?_)
      have g_102 : RG x_101 (-1) 15 := RG_sub ex_101 g_h0_4_e3_f1 (RG_k 1 1 rfl) (by decide +kernel)
      obtain ⟨hPc, hDc, hFc, hqc⟩ := cl_cut (wc := []) hP hD hS hA [] (by decide +kernel) rfl
      have hKc := hK.sub (tys' := []) [] rfl
      refine va_calli (va_runS (As := [.int p2, .int 0, .int x_101]) (rest := []) ⟨hx, hb, hml, hown, hts⟩ (c_X11_isWithin_7 l dC dI H.size p2 x_101 g_102) (va_cwS 3 hts gf_c_X11_step_c_X11_isWithin_7 rfl rfl rfl md_X11_isWithin ⟨Nat.le_of_ble_eq_true rfl, Nat.le_of_ble_eq_true rfl⟩) ⟨fun a U g mk q => by obtain ⟨q0, q1, qP, qK, qD⟩ := q; exact ⟨q0, q1, qP, va_K.moved (u := U) (U := U.calling g mk a) (Vm.Alike.refl U.vm) qK, qD⟩, fun U hU hW => ⟨rfl, by rw [hU], by rw [hU]; exact hPc, va_K.moved hW.alike hKc, hDc.weaken (fun _ _ _ _ => trivial)⟩⟩ rfl rfl hl.1 rfl (lv_room (Nat.le_of_ble_eq_true rfl)) dX11_step_21 ⟨Nat.le_of_ble_eq_true rfl, Nat.le_of_ble_eq_true rfl⟩) hS (fun q _ h => hFc q h) hFc (fun r_103 u t H1 locs ht hvm hw hB hz1 hk1 hS => ?_)
      obtain ⟨hP1, hK1, hD1⟩ := hB
      rw [ht] at hP1
      have hP := bv_still hP hk1
      generalize H1 = H at hP hS ⊢
      as_aux_lemma =>
      rcases hw with ⟨h_104, h_105, h_106⟩ | ⟨h_107, h_108, h_109, h_110, h_111⟩
      · rw [h_104]
        refine lv_if_eq (tgt := 36) hx hb dX11_step_24 rfl (fun c_112 => ?_) (fun c_112 => absurd c_112 (by decide +kernel))
        refine lv_ldc hx hb hown (hts (.constant RX11 228 (-1000000)) (List.mem_of_getElem? (i := 7) rfl)) dX11_step_36 ?_
        have hK9 := hK.sub (tys' := []) [] rfl
        exact W.iret (v := (-1000000)) hx hb hr (fun t ht hW => ⟨⟨(-1000000), (), rfl, (Or.inl rfl), by rw [ht]; exact hP, va_K.moved hW.alike hK9, hD⟩, hS.F ht⟩) hS.2.2 dX11_step_38
      · rw [h_107]
        have g_113 : RG h0_4_e3_f1 1 16 := RG_addb (RG_sc (d := (-1)) ex_101 rfl) (q := (-1)) rfl g_h0_4_e3_f1 h_109 (by decide +kernel)
        refine lv_if_eq (tgt := 36) hx hb dX11_step_24 rfl (fun c_114 => absurd c_114 (by decide +kernel)) (fun c_114 => ?_)
        refine lv_iload_n hx hb dX11_step_27 rfl (lv_at hl 3 rfl) ?_
        refine lv_iconst (v := 0) hx hb dX11_step_28 kc_iconst_0 ?_
        refine lv_iconst (v := 3) hx hb dX11_step_29 kc_iconst_3 ?_
        obtain ⟨hPc, hDc, hFc, hqc⟩ := cl_cut (wc := []) hP hD hS hA [] (by decide +kernel) rfl
        have hKc := hK.sub (tys' := []) [] rfl
        refine va_calli (va_runS (As := [.int p3, .int 0, .int 3]) (rest := []) ⟨hx, hb, hml, hown, hts⟩ (c_X11_isWithin_3 l dC dI H.size p3) (va_cwS 3 hts gf_c_X11_step_c_X11_isWithin_3 rfl rfl rfl md_X11_isWithin ⟨Nat.le_of_ble_eq_true rfl, Nat.le_of_ble_eq_true rfl⟩) ⟨fun a U g mk q => by obtain ⟨q0, q1, qP, qK, qD⟩ := q; exact ⟨q0, q1, qP, va_K.moved (u := U) (U := U.calling g mk a) (Vm.Alike.refl U.vm) qK, qD⟩, fun U hU hW => ⟨rfl, by rw [hU], by rw [hU]; exact hPc, va_K.moved hW.alike hKc, hDc.weaken (fun _ _ _ _ => trivial)⟩⟩ rfl rfl hl.1 rfl (lv_room (Nat.le_of_ble_eq_true rfl)) dX11_step_30 ⟨Nat.le_of_ble_eq_true rfl, Nat.le_of_ble_eq_true rfl⟩) hS (fun q _ h => hFc q h) hFc (fun r_115 u t H1 locs ht hvm hw hB hz1 hk1 hS => ?_)
        as_aux_lemma =>
        obtain ⟨hP1, hK1, hD1⟩ := hB
        rw [ht] at hP1
        have hP := bv_still hP hk1
        generalize H1 = H at hP hS ⊢
        as_aux_lemma =>
        rcases hw with ⟨h_116, h_117, h_118⟩ | ⟨h_119, h_120, h_121⟩
        · rw [h_116]
          refine lv_if_ne (tgt := 39) hx hb dX11_step_33 rfl (fun c_122 => absurd c_122 (by decide +kernel)) (fun c_122 => ?_)
          refine lv_ldc hx hb hown (hts (.constant RX11 228 (-1000000)) (List.mem_of_getElem? (i := 7) rfl)) dX11_step_36 ?_
          have hK9 := hK.sub (tys' := []) [] rfl
          exact W.iret (v := (-1000000)) hx hb hr (fun t ht hW => ⟨⟨(-1000000), (), rfl, (Or.inl rfl), by rw [ht]; exact hP, va_K.moved hW.alike hK9, hD⟩, hS.F ht⟩) hS.2.2 dX11_step_38
        · rw [h_119]
          refine lv_if_ne (tgt := 39) hx hb dX11_step_33 rfl (fun c_123 => ?_) (fun c_123 => absurd c_123 (by decide +kernel))
          refine lv_aload_n hx hb dX11_step_39 rfl (lv_at hl 0 rfl) ?_
          refine va_get (D := (dC, dI)) (ci := 11) (v := .ref h0_4) (C := RX11) (T := TX11) (N := 16) hx hb hts iw_c_X11_step_X11 hown hK hP 0 rfl rfl 4 (by decide +kernel) (hts (.fieldLink RX11 35 "BuoyVote" "plans" "[LBuoyVote$Plan;") (List.mem_of_getElem? (i := 8) rfl)) (fun _ h9 => h9) rfl dX11_step_40 ?_
          refine lv_iload_n hx hb dX11_step_43 rfl (lv_at hl 1 rfl) ?_
          by_cases c_124 : p1 = 3
          · refine W.eq (g2 := F0 m 44 ls [.int 3, .ref h0_4]) (by rw [c_124]) ?_
            have g_125 : RG p1 3 3 := RG_k _ _ (by rw [c_124]; rfl)
            refine va_aldq hx hb hK hP 1 0 rfl rfl (by unfold vp_in; decide) dX11_step_44 ?_
            as_aux_lemma =>
            rw [show h0_4c (3 : Int32).toNatClampNeg = some h0_4_e3 from e_h0_4_e3]
            refine W.eq (g2 := F0 m 45 ls [.ref h0_4_e3]) rfl ?_
            refine lv_iload_n hx hb dX11_step_45 rfl (lv_at hl 2 rfl) ?_
            refine lv_iload_n hx hb dX11_step_46 rfl (lv_at hl 3 rfl) ?_
            obtain ⟨hPc, hDc, hFc, hqc⟩ := cl_cut (wc := (wd_c_X6_part h0_4_e3 h0_4_e3_0 h0_4_e3_f1 h0_4_e3_0 h0_4_e3_0k h0_4_e3_0c)) hP hD hS hA [8, 9] (by decide +kernel) rfl
            have hKc := hK.sub (tys' := [(h0_4_e3_0k, .int)]) [4] rfl
            have hrv := va_recv hKc hPc (ci := 6) (q0 := 0) rfl rfl
            refine va_calli (va_runV (As := [.int p2, .int p3]) (rest := []) ⟨hx, hb, hml, hown, hts⟩ (c_X6_part l dC dI H.size h0_4_e3 p2 p3 h0_4_e3_0 h0_4_e3_f1 h0_4_e3_0k h0_4_e3_0c h_108 h_120 (RG_w g_113 (by decide +kernel)) a_h0_4_e3_0c) (cwV 2 hts gf_c_X11_step_c_X6_part rfl rfl rfl mdV_X6_part ⟨Nat.le_of_ble_eq_true rfl, Nat.le_of_ble_eq_true rfl⟩) ⟨fun a U g mk q => by obtain ⟨q0, q1, qP, qK, qD⟩ := q; exact ⟨q0, q1, qP, va_K.moved (u := U) (U := U.calling g mk a) (Vm.Alike.refl U.vm) qK, qD⟩, hrv, fun U hU hW => ⟨rfl, by rw [hU], by rw [hU]; exact hPc, va_K.moved hW.alike hKc, hDc.weaken (fun _ _ _ _ => trivial)⟩⟩ rfl rfl hl.1 rfl (lv_room (Nat.le_of_ble_eq_true rfl)) dX11_step_47 ⟨Nat.le_of_ble_eq_true rfl, Nat.le_of_ble_eq_true rfl⟩) hS (fun q _ h => hFc q h) hFc (fun r_126 u t H1 locs ht hvm hw hB hz1 hk1 hS => ?_)
            obtain ⟨hP1, hK1, hD1⟩ := hB
            rw [ht] at hP1
            obtain ⟨hP, hD⟩ := cl_put (w1 := (wd_c_X6_part h0_4_e3 h0_4_e3_0 h0_4_e3_f1 h0_4_e3_0 h0_4_e3_0k h0_4_e3_0c)) (nw := (wd_c_X11_step h0 h0_0 h0_1 h0_2 h0_3 h0_4 h0_f5 h0_6 h0_7 h0_8 h0_9 h0_10 h0_11 h0_12 h0_13 h0_14 h0_f15 h0_4 h0_4k h0_4c h0_4_e0 h0_4_e0_0 h0_4_e0_f1 h0_4_e0_0 h0_4_e0_0k h0_4_e0_0c h0_4_e1 h0_4_e1_0 h0_4_e1_f1 h0_4_e1_0 h0_4_e1_0k h0_4_e1_0c h0_4_e2 h0_4_e2_0 h0_4_e2_f1 h0_4_e2_0 h0_4_e2_0k h0_4_e2_0c h0_4_e3 h0_4_e3_0 h0_4_e3_f1 h0_4_e3_0 h0_4_e3_0k h0_4_e3_0c)) hP hD [8, 9] [0, 1, 2, 3, 4, 5, 6, 7, 10, 11] 10 rfl hqc (by decide +kernel) rfl hk1 hFc hP1 hD1
            generalize H1 = H at hP hS ⊢
            as_aux_lemma =>
            rcases hw with ⟨h_127, h_128⟩
            have hK9 := hK.sub (tys' := []) [] rfl
            exact W.iret (v := r_126) hx hb hr (fun t ht hW => ⟨⟨r_126, (), rfl, (Or.inr ⟨h_127, h_5, (RG_w g_125 (by decide +kernel)), h_108, h_120⟩), by rw [ht]; exact hP, va_K.moved hW.alike hK9, hD⟩, hS.F ht⟩) hS.2.2 dX11_step_50
          exfalso
          have zc_124 := lv_neT c_124 (a := 3) (by decide +kernel)
          have zg1 := (g_100).1
          have zg2 := (g_100).2
          omega
    exfalso
    have zc_9 := lv_neT c_9 (a := 0) (by decide +kernel)
    have zc_39 := lv_neT c_39 (a := 1) (by decide +kernel)
    have zc_69 := lv_neT c_69 (a := 2) (by decide +kernel)
    have zc_99 := lv_neT c_99 (a := 3) (by decide +kernel)
    have zg1 := (h_6).1
    have zg2 := (h_6).2
    omega
