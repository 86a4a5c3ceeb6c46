def wd_c_X11_pull (a0 : Nat) (a1 : Nat) (a2 : Nat) (a3 : Nat) (a4 : Nat) (a5 : Nat) (a6 : Int32) (a7 : Nat) (a8 : Nat) (a9 : Nat) (a10 : Nat) (a11 : Nat) (a12 : Nat) (a13 : Nat) (a14 : Nat) (a15 : Nat) (a16 : Int64) (a17 : Nat) (a18 : Nat) (a19 : Int32) (a20 : Int32) (a21 : Int32) (a22 : Nat) (a23 : Int32) (a24 : Int32) (a25 : Int32) (a26 : Int32) (a27 : Nat) (a28 : Nat) (a29 : Nat) (a30 : Nat) (a31 : Nat) (a32 : Nat) (a33 : Nat) (a34 : Nat) (a35 : Nat) (a36 : Nat) (a37 : ClassId) (a38 : Nat → Int32) (a39 : Nat) (a40 : ClassId) (a41 : Nat → Int32) (a42 : Nat) (a43 : ClassId) (a44 : Nat → Int32) (a45 : Nat) (a46 : Nat) (a47 : Nat) (a48 : Nat) (a49 : Nat) (a50 : Nat) (a51 : Nat) (a52 : Nat) (a53 : ClassId) (a54 : Nat → Int32) (a55 : Nat) (a56 : ClassId) (a57 : Nat → Int32) (a58 : Nat) (a59 : ClassId) (a60 : Nat → Int32) (a61 : Nat) (a62 : Nat) (a63 : Int32) (a64 : Int32) (a65 : Nat) (a66 : Nat) (a67 : ClassId) (a68 : Nat → Int32) (a69 : Nat) (a70 : ClassId) (a71 : Nat → Option Nat) (a72 : Nat) (a73 : Nat) (a74 : Int32) (a75 : Nat) (a76 : Nat) (a77 : ClassId) (a78 : Nat → Int32) (a79 : Nat) (a80 : ClassId) (a81 : Nat → Int32) (a82 : Nat) (a83 : Nat) (a84 : Int32) (a85 : Nat) (a86 : Nat) (a87 : ClassId) (a88 : Nat → Int32) (a89 : Nat) (a90 : ClassId) (a91 : Nat → Int32) (a92 : Nat) (a93 : Nat) (a94 : Int32) (a95 : Nat) (a96 : Nat) (a97 : ClassId) (a98 : Nat → Int32) (a99 : Nat) (a100 : ClassId) (a101 : Nat → Int32) (a102 : Nat) (a103 : Nat) (a104 : Int32) (a105 : Nat) (a106 : Nat) (a107 : ClassId) (a108 : Nat → Int32) (a109 : Nat) (a110 : ClassId) (a111 : Nat → Int32) : va_W := [(a0, .inr (11, [.ref a1, .ref a2, .ref a3, .ref a4, .ref a5, .int a6, .ref a7, .ref a8, .ref a9, .ref a10, .ref a11, .ref a12, .ref a13, .ref a14, .ref a15, .long a16])), (a17, .inr (0, [.ref a18, .int a19, .int a20, .int a21])), (a22, .inr (7, [.int a23, .int a24, .int a25, .int a26, .ref a27, .ref a28, .ref a29, .ref a30, .ref a31, .ref a32, .ref a33, .ref a34, .ref a35])), (a36, .inl (a37, 24, .inl a38)), (a39, .inl (a40, 8, .inl a41)), (a42, .inl (a43, 8, .inl a44)), (a45, .inr (10, [.ref a46, .ref a47, .ref a48, .ref a49, .ref a50, .ref a51])), (a52, .inl (a53, 80, .inl a54)), (a55, .inl (a56, 3, .inl a57)), (a58, .inl (a59, 3, .inl a60)), (a61, .inr (5, [.ref a62, .int a63, .int a64, .ref a65])), (a66, .inl (a67, 6, .inl a68)), (a69, .inl (a70, 5, .inr (.inr (.inr (.inr a71))))), (a72, .inr (4, [.ref a73, .int a74, .ref a75])), (a76, .inl (a77, 240, .inl a78)), (a79, .inl (a80, 64, .inl a81)), (a82, .inr (4, [.ref a83, .int a84, .ref a85])), (a86, .inl (a87, 240, .inl a88)), (a89, .inl (a90, 64, .inl a91)), (a92, .inr (4, [.ref a93, .int a94, .ref a95])), (a96, .inl (a97, 240, .inl a98)), (a99, .inl (a100, 64, .inl a101)), (a102, .inr (4, [.ref a103, .int a104, .ref a105])), (a106, .inl (a107, 240, .inl a108)), (a109, .inl (a110, 64, .inl a111))]
def wf_c_X11_pull : List Cond := .code yX11_pull cX11_pull 3 (some .int) :: ([.methodLink RX11 163 yX11_isBuoy, .instanceMethod yX11_isBuoy, .selects RX11 yX11_isBuoy yX11_isBuoy, .initialized RX11, .code yX11_isBuoy cX11_isBuoy 2 (some .boolean), .fieldLink RX11 19 "BuoyVote" "told" "LBuoyVote$Borough;", .fieldLink RX11 275 "BuoyVote$Borough" "buoys" "I", .constant RX11 228 (-1000000), .methodLink RX11 191 yX11_isBoat, .instanceMethod yX11_isBoat, .selects RX11 yX11_isBoat yX11_isBoat, .code yX11_isBoat cX11_isBoat 2 (some .boolean), .fieldLink RX11 272 "BuoyVote$Borough" "boats" "I", .fieldLink RX11 45 "BuoyVote" "waters" "LBuoyVote$Waters;", .fieldLink RX11 52 "BuoyVote" "now" "LBuoyVote$Sea;", .methodLink RX11 224 yX10_drawOf, .instanceMethod yX10_drawOf, .selects RX10 yX10_drawOf yX10_drawOf, .initialized RX10, .code yX10_drawOf cX10_drawOf 7 (some .int), .fieldLink RX10 67 "BuoyVote$Sea" "liking" "[I", .fieldLink RX10 70 "BuoyVote$Sea" "old" "[I", .fieldLink RX10 73 "BuoyVote$Sea" "barnacles" "[I", .fieldLink RX10 9 "BuoyVote$Waters" "told" "LBuoyVote$Borough;", .methodLink RX10 43 yX0_buoyX, .instanceMethod yX0_buoyX, .selects RX0 yX0_buoyX yX0_buoyX, .initialized RX0, .code yX0_buoyX cX0_buoyX 2 (some .int), .fieldLink RX0 11 "BuoyVote$Borough" "values" "[I", .methodLink RX10 50 yX0_buoyY, .instanceMethod yX0_buoyY, .selects RX0 yX0_buoyY yX0_buoyY, .code yX0_buoyY cX0_buoyY 2 (some .int), .methodLink RX10 76 yX7_awayOf, .instanceMethod yX7_awayOf, .selects RX7 yX7_awayOf yX7_awayOf, .initialized RX7, .code yX7_awayOf cX7_awayOf 4 (some .int), .fieldLink RX7 9 "BuoyVote$Sea" "x" "[I", .methodLink RX7 99 Lib.Math.abs.name, .static Lib.Math.abs.name, .initialized "java/lang/Math", .code Lib.Math.abs.name Lib.Math.abs.code 1 (some .int), .fieldLink RX7 15 "BuoyVote$Sea" "y" "[I", .fieldLink RX10 15 "BuoyVote$Waters" "laws" "LBuoyVote$LawBook;", .methodLink RX10 80 yX0_voice, .instanceMethod yX0_voice, .selects RX0 yX0_voice yX0_voice, .code yX0_voice cX0_voice 2 (some .int), .methodLink RX10 83 yX10_pushOf, .instanceMethod yX10_pushOf, .selects RX10 yX10_pushOf yX10_pushOf, .code yX10_pushOf cX10_pushOf 10 (some .int), .fieldLink RX10 38 "BuoyVote$Sea" "x" "[I", .fieldLink RX10 47 "BuoyVote$Sea" "y" "[I", .fieldLink RX10 53 "BuoyVote$Sea" "way" "I", .fieldLink RX10 57 "BuoyVote$Sea" "wind" "I", .fieldLink RX10 60 "BuoyVote$Sea" "hour" "I", .methodLink RX10 63 yX10_isRising, .instanceMethod yX10_isRising, .selects RX10 yX10_isRising yX10_isRising, .code yX10_isRising cX10_isRising 3 (some .boolean), .methodLink RX10 32 yX0_tideHours, .instanceMethod yX0_tideHours, .selects RX0 yX0_tideHours yX0_tideHours, .code yX0_tideHours cX0_tideHours 1 (some .int), .methodLink RX10 87 yX5_drawBy, .instanceMethod yX5_drawBy, .selects RX5 yX5_drawBy yX5_drawBy, .initialized RX5, .code yX5_drawBy cX5_drawBy 8 (some .int), .fieldLink RX5 18 "BuoyVote$LawBook" "holding" "I", .fieldLink RX5 26 "BuoyVote$LawBook" "size" "I", .fieldLink RX5 22 "BuoyVote$LawBook" "letters" "[I", .fieldLink RX5 11 "BuoyVote$LawBook" "laws" "[LBuoyVote$Law;", .methodLink RX5 29 yX4_worth, .instanceMethod yX4_worth, .selects RX4 yX4_worth yX4_worth, .initialized RX4, .code yX4_worth cX4_worth 6 (some .int), .fieldLink RX4 20 "BuoyVote$Law" "length" "I", .fieldLink RX4 11 "BuoyVote$Law" "code" "[I", .fieldLink RX4 17 "BuoyVote$Law" "stack" "[I", .methodLink RX4 24 yX4_joinedAt, .instanceMethod yX4_joinedAt, .selects RX4 yX4_joinedAt yX4_joinedAt, .code yX4_joinedAt cX4_joinedAt 7 (some .int), .constantLong RX4 28 (1000000), .constantLong RX4 31 (-1000000), .constant RX4 33 (-1000000), .constant RX4 30 (1000000)] ++ wsX110 ++ wsX00 ++ wsX70 ++ wsX100 ++ wsX50 ++ wsX40)
theorem iw_c_X11_pull_X11 : ∀ w ∈ wsX110, w ∈ wf_c_X11_pull := fun w h => List.mem_cons_of_mem _ (List.mem_append_left _ (List.mem_append_left _ (List.mem_append_left _ (List.mem_append_left _ (List.mem_append_left _ (List.mem_append_right _ h))))))
theorem iw_c_X11_pull_X0 : ∀ w ∈ wsX00, w ∈ wf_c_X11_pull := fun w h => List.mem_cons_of_mem _ (List.mem_append_left _ (List.mem_append_left _ (List.mem_append_left _ (List.mem_append_left _ (List.mem_append_right _ h)))))
theorem iw_c_X11_pull_X7 : ∀ w ∈ wsX70, w ∈ wf_c_X11_pull := fun w h => List.mem_cons_of_mem _ (List.mem_append_left _ (List.mem_append_left _ (List.mem_append_left _ (List.mem_append_right _ h))))
theorem iw_c_X11_pull_X10 : ∀ w ∈ wsX100, w ∈ wf_c_X11_pull := fun w h => List.mem_cons_of_mem _ (List.mem_append_left _ (List.mem_append_left _ (List.mem_append_right _ h)))
theorem iw_c_X11_pull_X5 : ∀ w ∈ wsX50, w ∈ wf_c_X11_pull := fun w h => List.mem_cons_of_mem _ (List.mem_append_left _ (List.mem_append_right _ h))
theorem iw_c_X11_pull_X4 : ∀ w ∈ wsX40, w ∈ wf_c_X11_pull := fun w h => List.mem_cons_of_mem _ (List.mem_append_right _ h)
set_option maxRecDepth 20000 in
theorem gf_c_X11_pull_c_X11_isBuoy : GoodIn wf_c_X11_pull (wsV RX11 163 RX11 yX11_isBuoy wf_c_X11_isBuoy) := goodIn_app (gi_cons (j := 1) rfl rfl (gi_cons (j := 2) rfl rfl (gi_cons (j := 3) rfl rfl (gi_cons (j := 4) rfl rfl (gi_nil))))) (gi_cons (j := 5) rfl rfl (goodIn_app (goodIn_app (gi_cons (j := 6) rfl rfl (gi_cons (j := 7) rfl rfl (gi_nil))) (goodIn_sub iw_c_X11_pull_X11 gw_X11)) (goodIn_sub iw_c_X11_pull_X0 gw_X0)))
set_option maxRecDepth 20000 in
theorem gf_c_X11_pull_c_X11_isBoat : GoodIn wf_c_X11_pull (wsV RX11 191 RX11 yX11_isBoat wf_c_X11_isBoat) := goodIn_app (gi_cons (j := 9) rfl rfl (gi_cons (j := 10) rfl rfl (gi_cons (j := 11) rfl rfl (gi_cons (j := 4) rfl rfl (gi_nil))))) (gi_cons (j := 12) rfl rfl (goodIn_app (goodIn_app (gi_cons (j := 6) rfl rfl (gi_cons (j := 13) rfl rfl (gi_nil))) (goodIn_sub iw_c_X11_pull_X11 gw_X11)) (goodIn_sub iw_c_X11_pull_X0 gw_X0)))
set_option maxRecDepth 20000 in
theorem gf_c_X11_pull_c_X10_drawOf : GoodIn wf_c_X11_pull (wsV RX11 224 RX10 yX10_drawOf wf_c_X10_drawOf) := goodIn_app (gi_cons (j := 16) rfl rfl (gi_cons (j := 17) rfl rfl (gi_cons (j := 18) rfl rfl (gi_cons (j := 19) rfl rfl (gi_nil))))) (gi_cons (j := 20) rfl rfl (goodIn_app (goodIn_app (goodIn_app (goodIn_app (goodIn_app (gi_cons (j := 21) rfl rfl (gi_cons (j := 22) rfl rfl (gi_cons (j := 23) rfl rfl (gi_cons (j := 24) rfl rfl (gi_cons (j := 25) rfl rfl (gi_cons (j := 26) rfl rfl (gi_cons (j := 27) rfl rfl (gi_cons (j := 28) rfl rfl (gi_cons (j := 29) rfl rfl (gi_cons (j := 30) rfl rfl (gi_cons (j := 31) rfl rfl (gi_cons (j := 32) rfl rfl (gi_cons (j := 33) rfl rfl (gi_cons (j := 34) rfl rfl (gi_cons (j := 35) rfl rfl (gi_cons (j := 36) rfl rfl (gi_cons (j := 37) rfl rfl (gi_cons (j := 38) rfl rfl (gi_cons (j := 39) rfl rfl (gi_cons (j := 40) rfl rfl (gi_cons (j := 41) rfl rfl (gi_cons (j := 42) rfl rfl (gi_cons (j := 43) rfl rfl (gi_cons (j := 44) rfl rfl (gi_cons (j := 45) rfl rfl (gi_cons (j := 46) rfl rfl (gi_cons (j := 47) rfl rfl (gi_cons (j := 48) rfl rfl (gi_cons (j := 49) rfl rfl (gi_cons (j := 50) rfl rfl (gi_cons (j := 51) rfl rfl (gi_cons (j := 52) rfl rfl (gi_cons (j := 53) rfl rfl (gi_cons (j := 19) rfl rfl (gi_cons (j := 54) rfl rfl (gi_cons (j := 55) rfl rfl (gi_cons (j := 56) rfl rfl (gi_cons (j := 57) rfl rfl (gi_cons (j := 58) rfl rfl (gi_cons (j := 59) rfl rfl (gi_cons (j := 60) rfl rfl (gi_cons (j := 61) rfl rfl (gi_cons (j := 62) rfl rfl (gi_cons (j := 63) rfl rfl (gi_cons (j := 64) rfl rfl (gi_cons (j := 65) rfl rfl (gi_cons (j := 66) rfl rfl (gi_cons (j := 67) rfl rfl (gi_cons (j := 68) rfl rfl (gi_cons (j := 69) rfl rfl (gi_cons (j := 70) rfl rfl (gi_cons (j := 71) rfl rfl (gi_cons (j := 72) rfl rfl (gi_cons (j := 73) rfl rfl (gi_cons (j := 74) rfl rfl (gi_cons (j := 75) rfl rfl (gi_cons (j := 76) rfl rfl (gi_cons (j := 77) rfl rfl (gi_cons (j := 78) rfl rfl (gi_cons (j := 79) rfl rfl (gi_cons (j := 80) rfl rfl (gi_cons (j := 81) rfl rfl (gi_cons (j := 82) rfl rfl (gi_cons (j := 83) rfl rfl (gi_cons (j := 84) rfl rfl (gi_cons (j := 85) rfl rfl (gi_cons (j := 86) rfl rfl (gi_cons (j := 87) rfl rfl (gi_cons (j := 88) rfl rfl (gi_cons (j := 89) rfl rfl (gi_cons (j := 90) rfl rfl (gi_cons (j := 91) rfl rfl (gi_cons (j := 92) rfl rfl (gi_nil)))))))))))))))))))))))))))))))))))))))))))))))))))))))))))))))))))))))))) (goodIn_sub iw_c_X11_pull_X7 gw_X7)) (goodIn_sub iw_c_X11_pull_X10 gw_X10)) (goodIn_sub iw_c_X11_pull_X0 gw_X0)) (goodIn_sub iw_c_X11_pull_X5 gw_X5)) (goodIn_sub iw_c_X11_pull_X4 gw_X4)))
set_option maxHeartbeats 4000000 in
set_option maxRecDepth 100000 in
theorem c_X11_pull (l : Launch) (dC : Nat → ClassId) (dI : Nat → Nat → Nat) (sz : Nat) (h0 : Nat) (p1 : Int32) (p2 : Int32) (h0_0 : Nat) (h0_1 : Nat) (h0_2 : Nat) (h0_3 : Nat) (h0_4 : Nat) (h0_f5 : Int32) (h0_6 : Nat) (h0_7 : Nat) (h0_8 : Nat) (h0_9 : Nat) (h0_10 : Nat) (h0_11 : Nat) (h0_12 : Nat) (h0_13 : Nat) (h0_14 : Nat) (h0_f15 : Int64) (h0_1_0 : Nat) (h0_1_f1 : Int32) (h0_1_f2 : Int32) (h0_1_f3 : Int32) (h0_7_f0 : Int32) (h0_7_f1 : Int32) (h0_7_f2 : Int32) (h0_7_f3 : Int32) (h0_7_4 : Nat) (h0_7_5 : Nat) (h0_7_6 : Nat) (h0_7_7 : Nat) (h0_7_8 : Nat) (h0_7_9 : Nat) (h0_7_10 : Nat) (h0_7_11 : Nat) (h0_7_12 : Nat) (h0_7_10k : ClassId) (h0_7_10c : Nat → Int32) (h0_7_11k : ClassId) (h0_7_11c : Nat → Int32) (h0_7_12k : ClassId) (h0_7_12c : Nat → Int32) (h0_6_2 : Nat) (h0_6_3 : Nat) (h0_6_4 : Nat) (h0_6_5 : Nat) (h0_1_0k : ClassId) (h0_1_0c : Nat → Int32) (h0_7_4k : ClassId) (h0_7_4c : Nat → Int32) (h0_7_5k : ClassId) (h0_7_5c : Nat → Int32) (h0_3_0 : Nat) (h0_3_f1 : Int32) (h0_3_f2 : Int32) (h0_3_3 : Nat) (h0_3_3k : ClassId) (h0_3_3c : Nat → Int32) (h0_3_0k : ClassId) (h0_3_0c : Nat → Option Nat) (h0_3_0_e0 : Nat) (h0_3_0_e1 : Nat) (h0_3_0_e2 : Nat) (h0_3_0_e3 : Nat) (h0_3_0_e4 : Nat) (h0_3_0_e0_0 : Nat) (h0_3_0_e0_f1 : Int32) (h0_3_0_e0_2 : Nat) (h0_3_0_e0_0k : ClassId) (h0_3_0_e0_0c : Nat → Int32) (h0_3_0_e0_2k : ClassId) (h0_3_0_e0_2c : Nat → Int32) (h0_3_0_e1_0 : Nat) (h0_3_0_e1_f1 : Int32) (h0_3_0_e1_2 : Nat) (h0_3_0_e1_0k : ClassId) (h0_3_0_e1_0c : Nat → Int32) (h0_3_0_e1_2k : ClassId) (h0_3_0_e1_2c : Nat → Int32) (h0_3_0_e2_0 : Nat) (h0_3_0_e2_f1 : Int32) (h0_3_0_e2_2 : Nat) (h0_3_0_e2_0k : ClassId) (h0_3_0_e2_0c : Nat → Int32) (h0_3_0_e2_2k : ClassId) (h0_3_0_e2_2c : Nat → Int32) (h0_3_0_e3_0 : Nat) (h0_3_0_e3_f1 : Int32) (h0_3_0_e3_2 : Nat) (h0_3_0_e3_0k : ClassId) (h0_3_0_e3_0c : Nat → Int32) (h0_3_0_e3_2k : ClassId) (h0_3_0_e3_2c : Nat → Int32) (g_h0_f5 : RG h0_f5 0 4) (g_h0_1_f1 : RG h0_1_f1 0 8) (g_h0_1_f2 : RG h0_1_f2 0 3) (g_h0_1_f3 : RG h0_1_f3 0 1) (g_h0_7_f2 : RG h0_7_f2 0 9999) (g_h0_7_f3 : RG h0_7_f3 0 9999) (a_h0_1_0c : AI h0_1_0c (-1) 99) (g_h0_3_f1 : RG h0_3_f1 0 4) (e_h0_3_0_e0 : h0_3_0c 0 = some h0_3_0_e0) (e_h0_3_0_e1 : h0_3_0c 1 = some h0_3_0_e1) (e_h0_3_0_e2 : h0_3_0c 2 = some h0_3_0_e2) (e_h0_3_0_e3 : h0_3_0c 3 = some h0_3_0_e3) (e_h0_3_0_e4 : h0_3_0c 4 = some h0_3_0_e4) (g_h0_3_0_e0_f1 : RG h0_3_0_e0_f1 0 240) (g_h0_3_0_e1_f1 : RG h0_3_0_e1_f1 0 240) (g_h0_3_0_e2_f1 : RG h0_3_0_e2_f1 0 240) (g_h0_3_0_e3_f1 : RG h0_3_0_e3_f1 0 240) : Met l yX11_pull wf_c_X11_pull ({ frames := 4, cells := 0, slots := 0, locals := 104 }) (va_Pc [.ref h0, .int p1, .int p2] (fun U => U.heap.size = sz ∧ va_P (dC, dI) vwCl (wd_c_X11_pull h0 h0_0 h0_1 h0_2 h0_3 h0_4 h0_f5 h0_6 h0_7 h0_8 h0_9 h0_10 h0_11 h0_12 h0_13 h0_14 h0_f15 h0_1 h0_1_0 h0_1_f1 h0_1_f2 h0_1_f3 h0_7 h0_7_f0 h0_7_f1 h0_7_f2 h0_7_f3 h0_7_4 h0_7_5 h0_7_6 h0_7_7 h0_7_8 h0_7_9 h0_7_10 h0_7_11 h0_7_12 h0_7_10 h0_7_10k h0_7_10c h0_7_11 h0_7_11k h0_7_11c h0_7_12 h0_7_12k h0_7_12c h0_6 h0_1 h0_3 h0_6_2 h0_6_3 h0_6_4 h0_6_5 h0_1_0 h0_1_0k h0_1_0c h0_7_4 h0_7_4k h0_7_4c h0_7_5 h0_7_5k h0_7_5c h0_3 h0_3_0 h0_3_f1 h0_3_f2 h0_3_3 h0_3_3 h0_3_3k h0_3_3c h0_3_0 h0_3_0k h0_3_0c h0_3_0_e0 h0_3_0_e0_0 h0_3_0_e0_f1 h0_3_0_e0_2 h0_3_0_e0_0 h0_3_0_e0_0k h0_3_0_e0_0c h0_3_0_e0_2 h0_3_0_e0_2k h0_3_0_e0_2c h0_3_0_e1 h0_3_0_e1_0 h0_3_0_e1_f1 h0_3_0_e1_2 h0_3_0_e1_0 h0_3_0_e1_0k h0_3_0_e1_0c h0_3_0_e1_2 h0_3_0_e1_2k h0_3_0_e1_2c h0_3_0_e2 h0_3_0_e2_0 h0_3_0_e2_f1 h0_3_0_e2_2 h0_3_0_e2_0 h0_3_0_e2_0k h0_3_0_e2_0c h0_3_0_e2_2 h0_3_0_e2_2k h0_3_0_e2_2c h0_3_0_e3 h0_3_0_e3_0 h0_3_0_e3_f1 h0_3_0_e3_2 h0_3_0_e3_0 h0_3_0_e3_0k h0_3_0_e3_0c h0_3_0_e3_2 h0_3_0_e3_2k h0_3_0_e3_2c) U.heap ∧ va_K (dC, dI) vwCl [(h0_7_10k, .int), (h0_7_11k, .int), (h0_7_12k, .int), (h0_1_0k, .int), (h0_7_4k, .int), (h0_7_5k, .int), (h0_3_3k, .int), (h0_3_0k, .object RX4), (h0_3_0_e0_0k, .int), (h0_3_0_e0_2k, .int), (h0_3_0_e1_0k, .int), (h0_3_0_e1_2k, .int), (h0_3_0_e2_0k, .int), (h0_3_0_e2_2k, .int), (h0_3_0_e3_0k, .int), (h0_3_0_e3_2k, .int)] U ∧ va_D (fun _ => True) (wd_c_X11_pull h0 h0_0 h0_1 h0_2 h0_3 h0_4 h0_f5 h0_6 h0_7 h0_8 h0_9 h0_10 h0_11 h0_12 h0_13 h0_14 h0_f15 h0_1 h0_1_0 h0_1_f1 h0_1_f2 h0_1_f3 h0_7 h0_7_f0 h0_7_f1 h0_7_f2 h0_7_f3 h0_7_4 h0_7_5 h0_7_6 h0_7_7 h0_7_8 h0_7_9 h0_7_10 h0_7_11 h0_7_12 h0_7_10 h0_7_10k h0_7_10c h0_7_11 h0_7_11k h0_7_11c h0_7_12 h0_7_12k h0_7_12c h0_6 h0_1 h0_3 h0_6_2 h0_6_3 h0_6_4 h0_6_5 h0_1_0 h0_1_0k h0_1_0c h0_7_4 h0_7_4k h0_7_4c h0_7_5 h0_7_5k h0_7_5c h0_3 h0_3_0 h0_3_f1 h0_3_f2 h0_3_3 h0_3_3 h0_3_3k h0_3_3c h0_3_0 h0_3_0k h0_3_0c h0_3_0_e0 h0_3_0_e0_0 h0_3_0_e0_f1 h0_3_0_e0_2 h0_3_0_e0_0 h0_3_0_e0_0k h0_3_0_e0_0c h0_3_0_e0_2 h0_3_0_e0_2k h0_3_0_e0_2c h0_3_0_e1 h0_3_0_e1_0 h0_3_0_e1_f1 h0_3_0_e1_2 h0_3_0_e1_0 h0_3_0_e1_0k h0_3_0_e1_0c h0_3_0_e1_2 h0_3_0_e1_2k h0_3_0_e1_2c h0_3_0_e2 h0_3_0_e2_0 h0_3_0_e2_f1 h0_3_0_e2_2 h0_3_0_e2_0 h0_3_0_e2_0k h0_3_0_e2_0c h0_3_0_e2_2 h0_3_0_e2_2k h0_3_0_e2_2c h0_3_0_e3 h0_3_0_e3_0 h0_3_0_e3_f1 h0_3_0_e3_2 h0_3_0_e3_0 h0_3_0_e3_0k h0_3_0_e3_0c h0_3_0_e3_2 h0_3_0_e3_2k h0_3_0_e3_2c))) (va_Qi (fun (r : Int32) (u : (Nat → Int32) × (Nat → Int32) × (Nat → Int32) × (Nat → Int32) × (Nat → Int32)) => (r = (-1000000)) ∨ (r = 0 ∧ RG h0_1_f1 1 8 ∧ RG h0_1_f2 1 3 ∧ RG h0_3_f1 1 4 ∧ RG h0_3_f2 0 3 ∧ RG p1 0 7 ∧ RG p2 0 2) ∨ (RG r (-2147483648) 2147483647 ∧ RG h0_1_f1 1 8 ∧ RG h0_1_f2 1 3 ∧ RG p1 0 7 ∧ RG p2 0 2) ∨ (r = (-99) ∧ RG h0_1_f1 1 8 ∧ RG h0_1_f2 1 3 ∧ RG h0_3_f1 1 4 ∧ RG h0_3_f2 0 3 ∧ RG p1 0 7 ∧ RG p2 0 2) ∨ (r = 99 ∧ RG h0_1_f1 1 8 ∧ RG h0_1_f2 1 3 ∧ RG h0_3_f1 1 4 ∧ RG h0_3_f2 0 3 ∧ RG p1 0 7 ∧ RG p2 0 2)) (fun (u : (Nat → Int32) × (Nat → Int32) × (Nat → Int32) × (Nat → Int32) × (Nat → Int32)) t => va_P (dC, dI) vwCl (wd_c_X11_pull h0 h0_0 h0_1 h0_2 h0_3 h0_4 h0_f5 h0_6 h0_7 h0_8 h0_9 h0_10 h0_11 h0_12 h0_13 h0_14 h0_f15 h0_1 h0_1_0 h0_1_f1 h0_1_f2 h0_1_f3 h0_7 h0_7_f0 h0_7_f1 h0_7_f2 h0_7_f3 h0_7_4 h0_7_5 h0_7_6 h0_7_7 h0_7_8 h0_7_9 h0_7_10 h0_7_11 h0_7_12 h0_7_10 h0_7_10k h0_7_10c h0_7_11 h0_7_11k h0_7_11c h0_7_12 h0_7_12k h0_7_12c h0_6 h0_1 h0_3 h0_6_2 h0_6_3 h0_6_4 h0_6_5 h0_1_0 h0_1_0k h0_1_0c h0_7_4 h0_7_4k h0_7_4c h0_7_5 h0_7_5k h0_7_5c h0_3 h0_3_0 h0_3_f1 h0_3_f2 h0_3_3 h0_3_3 h0_3_3k (u.1) h0_3_0 h0_3_0k h0_3_0c h0_3_0_e0 h0_3_0_e0_0 h0_3_0_e0_f1 h0_3_0_e0_2 h0_3_0_e0_0 h0_3_0_e0_0k h0_3_0_e0_0c h0_3_0_e0_2 h0_3_0_e0_2k (u.2.1) h0_3_0_e1 h0_3_0_e1_0 h0_3_0_e1_f1 h0_3_0_e1_2 h0_3_0_e1_0 h0_3_0_e1_0k h0_3_0_e1_0c h0_3_0_e1_2 h0_3_0_e1_2k (u.2.2.1) h0_3_0_e2 h0_3_0_e2_0 h0_3_0_e2_f1 h0_3_0_e2_2 h0_3_0_e2_0 h0_3_0_e2_0k h0_3_0_e2_0c h0_3_0_e2_2 h0_3_0_e2_2k (u.2.2.2.1) h0_3_0_e3 h0_3_0_e3_0 h0_3_0_e3_f1 h0_3_0_e3_2 h0_3_0_e3_0 h0_3_0_e3_0k h0_3_0_e3_0c h0_3_0_e3_2 h0_3_0_e3_2k (u.2.2.2.2)) t.heap ∧ va_K (dC, dI) vwCl [] t ∧ va_D (va_A (wd_c_X11_pull h0 h0_0 h0_1 h0_2 h0_3 h0_4 h0_f5 h0_6 h0_7 h0_8 h0_9 h0_10 h0_11 h0_12 h0_13 h0_14 h0_f15 h0_1 h0_1_0 h0_1_f1 h0_1_f2 h0_1_f3 h0_7 h0_7_f0 h0_7_f1 h0_7_f2 h0_7_f3 h0_7_4 h0_7_5 h0_7_6 h0_7_7 h0_7_8 h0_7_9 h0_7_10 h0_7_11 h0_7_12 h0_7_10 h0_7_10k h0_7_10c h0_7_11 h0_7_11k h0_7_11c h0_7_12 h0_7_12k h0_7_12c h0_6 h0_1 h0_3 h0_6_2 h0_6_3 h0_6_4 h0_6_5 h0_1_0 h0_1_0k h0_1_0c h0_7_4 h0_7_4k h0_7_4c h0_7_5 h0_7_5k h0_7_5c h0_3 h0_3_0 h0_3_f1 h0_3_f2 h0_3_3 h0_3_3 h0_3_3k h0_3_3c h0_3_0 h0_3_0k h0_3_0c h0_3_0_e0 h0_3_0_e0_0 h0_3_0_e0_f1 h0_3_0_e0_2 h0_3_0_e0_0 h0_3_0_e0_0k h0_3_0_e0_0c h0_3_0_e0_2 h0_3_0_e0_2k h0_3_0_e0_2c h0_3_0_e1 h0_3_0_e1_0 h0_3_0_e1_f1 h0_3_0_e1_2 h0_3_0_e1_0 h0_3_0_e1_0k h0_3_0_e1_0c h0_3_0_e1_2 h0_3_0_e1_2k h0_3_0_e1_2c h0_3_0_e2 h0_3_0_e2_0 h0_3_0_e2_f1 h0_3_0_e2_2 h0_3_0_e2_0 h0_3_0_e2_0k h0_3_0_e2_0c h0_3_0_e2_2 h0_3_0_e2_2k h0_3_0_e2_2c h0_3_0_e3 h0_3_0_e3_0 h0_3_0_e3_f1 h0_3_0_e3_2 h0_3_0_e3_0 h0_3_0_e3_0k h0_3_0_e3_0c h0_3_0_e3_2 h0_3_0_e3_2k h0_3_0_e3_2c) sz) (wd_c_X11_pull h0 h0_0 h0_1 h0_2 h0_3 h0_4 h0_f5 h0_6 h0_7 h0_8 h0_9 h0_10 h0_11 h0_12 h0_13 h0_14 h0_f15 h0_1 h0_1_0 h0_1_f1 h0_1_f2 h0_1_f3 h0_7 h0_7_f0 h0_7_f1 h0_7_f2 h0_7_f3 h0_7_4 h0_7_5 h0_7_6 h0_7_7 h0_7_8 h0_7_9 h0_7_10 h0_7_11 h0_7_12 h0_7_10 h0_7_10k h0_7_10c h0_7_11 h0_7_11k h0_7_11c h0_7_12 h0_7_12k h0_7_12c h0_6 h0_1 h0_3 h0_6_2 h0_6_3 h0_6_4 h0_6_5 h0_1_0 h0_1_0k h0_1_0c h0_7_4 h0_7_4k h0_7_4c h0_7_5 h0_7_5k h0_7_5c h0_3 h0_3_0 h0_3_f1 h0_3_f2 h0_3_3 h0_3_3 h0_3_3k (u.1) h0_3_0 h0_3_0k h0_3_0c h0_3_0_e0 h0_3_0_e0_0 h0_3_0_e0_f1 h0_3_0_e0_2 h0_3_0_e0_0 h0_3_0_e0_0k h0_3_0_e0_0c h0_3_0_e0_2 h0_3_0_e0_2k (u.2.1) h0_3_0_e1 h0_3_0_e1_0 h0_3_0_e1_f1 h0_3_0_e1_2 h0_3_0_e1_0 h0_3_0_e1_0k h0_3_0_e1_0c h0_3_0_e1_2 h0_3_0_e1_2k (u.2.2.1) h0_3_0_e2 h0_3_0_e2_0 h0_3_0_e2_f1 h0_3_0_e2_2 h0_3_0_e2_0 h0_3_0_e2_0k h0_3_0_e2_0c h0_3_0_e2_2 h0_3_0_e2_2k (u.2.2.2.1) h0_3_0_e3 h0_3_0_e3_0 h0_3_0_e3_f1 h0_3_0_e3_2 h0_3_0_e3_0 h0_3_0_e3_0k h0_3_0_e3_0c h0_3_0_e3_2 h0_3_0_e3_2k (u.2.2.2.2))) (va_A (wd_c_X11_pull h0 h0_0 h0_1 h0_2 h0_3 h0_4 h0_f5 h0_6 h0_7 h0_8 h0_9 h0_10 h0_11 h0_12 h0_13 h0_14 h0_f15 h0_1 h0_1_0 h0_1_f1 h0_1_f2 h0_1_f3 h0_7 h0_7_f0 h0_7_f1 h0_7_f2 h0_7_f3 h0_7_4 h0_7_5 h0_7_6 h0_7_7 h0_7_8 h0_7_9 h0_7_10 h0_7_11 h0_7_12 h0_7_10 h0_7_10k h0_7_10c h0_7_11 h0_7_11k h0_7_11c h0_7_12 h0_7_12k h0_7_12c h0_6 h0_1 h0_3 h0_6_2 h0_6_3 h0_6_4 h0_6_5 h0_1_0 h0_1_0k h0_1_0c h0_7_4 h0_7_4k h0_7_4c h0_7_5 h0_7_5k h0_7_5c h0_3 h0_3_0 h0_3_f1 h0_3_f2 h0_3_3 h0_3_3 h0_3_3k h0_3_3c h0_3_0 h0_3_0k h0_3_0c h0_3_0_e0 h0_3_0_e0_0 h0_3_0_e0_f1 h0_3_0_e0_2 h0_3_0_e0_0 h0_3_0_e0_0k h0_3_0_e0_0c h0_3_0_e0_2 h0_3_0_e0_2k h0_3_0_e0_2c h0_3_0_e1 h0_3_0_e1_0 h0_3_0_e1_f1 h0_3_0_e1_2 h0_3_0_e1_0 h0_3_0_e1_0k h0_3_0_e1_0c h0_3_0_e1_2 h0_3_0_e1_2k h0_3_0_e1_2c h0_3_0_e2 h0_3_0_e2_0 h0_3_0_e2_f1 h0_3_0_e2_2 h0_3_0_e2_0 h0_3_0_e2_0k h0_3_0_e2_0c h0_3_0_e2_2 h0_3_0_e2_2k h0_3_0_e2_2c h0_3_0_e3 h0_3_0_e3_0 h0_3_0_e3_f1 h0_3_0_e3_2 h0_3_0_e3_0 h0_3_0_e3_0k h0_3_0_e3_0c h0_3_0_e3_2 h0_3_0_e3_2k h0_3_0_e3_2c) sz)) 0 0 (va_A (wd_c_X11_pull h0 h0_0 h0_1 h0_2 h0_3 h0_4 h0_f5 h0_6 h0_7 h0_8 h0_9 h0_10 h0_11 h0_12 h0_13 h0_14 h0_f15 h0_1 h0_1_0 h0_1_f1 h0_1_f2 h0_1_f3 h0_7 h0_7_f0 h0_7_f1 h0_7_f2 h0_7_f3 h0_7_4 h0_7_5 h0_7_6 h0_7_7 h0_7_8 h0_7_9 h0_7_10 h0_7_11 h0_7_12 h0_7_10 h0_7_10k h0_7_10c h0_7_11 h0_7_11k h0_7_11c h0_7_12 h0_7_12k h0_7_12c h0_6 h0_1 h0_3 h0_6_2 h0_6_3 h0_6_4 h0_6_5 h0_1_0 h0_1_0k h0_1_0c h0_7_4 h0_7_4k h0_7_4c h0_7_5 h0_7_5k h0_7_5c h0_3 h0_3_0 h0_3_f1 h0_3_f2 h0_3_3 h0_3_3 h0_3_3k h0_3_3c h0_3_0 h0_3_0k h0_3_0c h0_3_0_e0 h0_3_0_e0_0 h0_3_0_e0_f1 h0_3_0_e0_2 h0_3_0_e0_0 h0_3_0_e0_0k h0_3_0_e0_0c h0_3_0_e0_2 h0_3_0_e0_2k h0_3_0_e0_2c h0_3_0_e1 h0_3_0_e1_0 h0_3_0_e1_f1 h0_3_0_e1_2 h0_3_0_e1_0 h0_3_0_e1_0k h0_3_0_e1_0c h0_3_0_e1_2 h0_3_0_e1_2k h0_3_0_e1_2c h0_3_0_e2 h0_3_0_e2_0 h0_3_0_e2_f1 h0_3_0_e2_2 h0_3_0_e2_0 h0_3_0_e2_0k h0_3_0_e2_0c h0_3_0_e2_2 h0_3_0_e2_2k h0_3_0_e2_2c h0_3_0_e3 h0_3_0_e3_0 h0_3_0_e3_f1 h0_3_0_e3_2 h0_3_0_e3_0 h0_3_0_e3_0k h0_3_0_e3_0c h0_3_0_e3_2 h0_3_0_e3_2k h0_3_0_e3_2c) sz) := by
  refine Met.ofW (cc := cX11_pull) (maxL := 3) (ret := (some .int)) (by decide) rfl ?_
  intro p e s m args below meth c s₁ B hml hv
  obtain ⟨rfl, hsz, hP, hK, hD0⟩ := hv
  have hx := B.exec
  have hb := B.bytes
  have hr := B.returns
  have hts := atoms_spec (ws := wf_c_X11_pull) B.pre
  have hown : s.vm.findClass RX11 = some m.cls := findClass_of_methodNamed B.named
  have hlocks := B.notSynchronized
  subst hsz
  have hD := hD0.self (sz := s.heap.size)
  generalize hAe : va_A (wd_c_X11_pull h0 h0_0 h0_1 h0_2 h0_3 h0_4 h0_f5 h0_6 h0_7 h0_8 h0_9 h0_10 h0_11 h0_12 h0_13 h0_14 h0_f15 h0_1 h0_1_0 h0_1_f1 h0_1_f2 h0_1_f3 h0_7 h0_7_f0 h0_7_f1 h0_7_f2 h0_7_f3 h0_7_4 h0_7_5 h0_7_6 h0_7_7 h0_7_8 h0_7_9 h0_7_10 h0_7_11 h0_7_12 h0_7_10 h0_7_10k h0_7_10c h0_7_11 h0_7_11k h0_7_11c h0_7_12 h0_7_12k h0_7_12c h0_6 h0_1 h0_3 h0_6_2 h0_6_3 h0_6_4 h0_6_5 h0_1_0 h0_1_0k h0_1_0c h0_7_4 h0_7_4k h0_7_4c h0_7_5 h0_7_5k h0_7_5c h0_3 h0_3_0 h0_3_f1 h0_3_f2 h0_3_3 h0_3_3 h0_3_3k h0_3_3c h0_3_0 h0_3_0k h0_3_0c h0_3_0_e0 h0_3_0_e0_0 h0_3_0_e0_f1 h0_3_0_e0_2 h0_3_0_e0_0 h0_3_0_e0_0k h0_3_0_e0_0c h0_3_0_e0_2 h0_3_0_e0_2k h0_3_0_e0_2c h0_3_0_e1 h0_3_0_e1_0 h0_3_0_e1_f1 h0_3_0_e1_2 h0_3_0_e1_0 h0_3_0_e1_0k h0_3_0_e1_0c h0_3_0_e1_2 h0_3_0_e1_2k h0_3_0_e1_2c h0_3_0_e2 h0_3_0_e2_0 h0_3_0_e2_f1 h0_3_0_e2_2 h0_3_0_e2_0 h0_3_0_e2_0k h0_3_0_e2_0c h0_3_0_e2_2 h0_3_0_e2_2k h0_3_0_e2_2c h0_3_0_e3 h0_3_0_e3_0 h0_3_0_e3_f1 h0_3_0_e3_2 h0_3_0_e3_0 h0_3_0_e3_0k h0_3_0_e3_0c h0_3_0_e3_2 h0_3_0_e3_2k h0_3_0_e3_2c) s.heap.size = A at hD ⊢
  have hA : ∀ q : Nat, s.heap.size ≤ q → A q := fun q h => by rw [← hAe]; exact Or.inr h
  have hP : va_P (dC, dI) vwCl (wd_c_X11_pull h0 h0_0 h0_1 h0_2 h0_3 h0_4 h0_f5 h0_6 h0_7 h0_8 h0_9 h0_10 h0_11 h0_12 h0_13 h0_14 h0_f15 h0_1 h0_1_0 h0_1_f1 h0_1_f2 h0_1_f3 h0_7 h0_7_f0 h0_7_f1 h0_7_f2 h0_7_f3 h0_7_4 h0_7_5 h0_7_6 h0_7_7 h0_7_8 h0_7_9 h0_7_10 h0_7_11 h0_7_12 h0_7_10 h0_7_10k h0_7_10c h0_7_11 h0_7_11k h0_7_11c h0_7_12 h0_7_12k h0_7_12c h0_6 h0_1 h0_3 h0_6_2 h0_6_3 h0_6_4 h0_6_5 h0_1_0 h0_1_0k h0_1_0c h0_7_4 h0_7_4k h0_7_4c h0_7_5 h0_7_5k h0_7_5c h0_3 h0_3_0 h0_3_f1 h0_3_f2 h0_3_3 h0_3_3 h0_3_3k h0_3_3c h0_3_0 h0_3_0k h0_3_0c h0_3_0_e0 h0_3_0_e0_0 h0_3_0_e0_f1 h0_3_0_e0_2 h0_3_0_e0_0 h0_3_0_e0_0k h0_3_0_e0_0c h0_3_0_e0_2 h0_3_0_e0_2k h0_3_0_e0_2c h0_3_0_e1 h0_3_0_e1_0 h0_3_0_e1_f1 h0_3_0_e1_2 h0_3_0_e1_0 h0_3_0_e1_0k h0_3_0_e1_0c h0_3_0_e1_2 h0_3_0_e1_2k h0_3_0_e1_2c h0_3_0_e2 h0_3_0_e2_0 h0_3_0_e2_f1 h0_3_0_e2_2 h0_3_0_e2_0 h0_3_0_e2_0k h0_3_0_e2_0c h0_3_0_e2_2 h0_3_0_e2_2k h0_3_0_e2_2c h0_3_0_e3 h0_3_0_e3_0 h0_3_0_e3_f1 h0_3_0_e3_2 h0_3_0_e3_0 h0_3_0_e3_0k h0_3_0_e3_0c h0_3_0_e3_2 h0_3_0_e3_2k h0_3_0_e3_2c) s.heap := hP
  have hl := lv_entry ([.ref h0, .int p1, .int p2]) (n := 3) (Nat.le_of_ble_eq_true rfl)
  rw [lg_entry_eq]
  generalize (lg_sl ([.ref h0, .int p1, .int p2]) ++ List.replicate (3 - (lg_sl ([.ref h0, .int p1, .int p2])).length) Slot.unset).toArray = ls at hl ⊢
  have hl : lv_has ls 3 [(0, .ref h0), (1, .int p1), (2, .int p2)] := hl
  obtain ⟨H, hHe⟩ : ∃ H : Heap, s.heap = H := ⟨_, rfl⟩
  have hS : va_S A s.heap H [] := by rw [hHe]; exact va_S.rf
  have hP : va_P (dC, dI) vwCl (wd_c_X11_pull h0 h0_0 h0_1 h0_2 h0_3 h0_4 h0_f5 h0_6 h0_7 h0_8 h0_9 h0_10 h0_11 h0_12 h0_13 h0_14 h0_f15 h0_1 h0_1_0 h0_1_f1 h0_1_f2 h0_1_f3 h0_7 h0_7_f0 h0_7_f1 h0_7_f2 h0_7_f3 h0_7_4 h0_7_5 h0_7_6 h0_7_7 h0_7_8 h0_7_9 h0_7_10 h0_7_11 h0_7_12 h0_7_10 h0_7_10k h0_7_10c h0_7_11 h0_7_11k h0_7_11c h0_7_12 h0_7_12k h0_7_12c h0_6 h0_1 h0_3 h0_6_2 h0_6_3 h0_6_4 h0_6_5 h0_1_0 h0_1_0k h0_1_0c h0_7_4 h0_7_4k h0_7_4c h0_7_5 h0_7_5k h0_7_5c h0_3 h0_3_0 h0_3_f1 h0_3_f2 h0_3_3 h0_3_3 h0_3_3k h0_3_3c h0_3_0 h0_3_0k h0_3_0c h0_3_0_e0 h0_3_0_e0_0 h0_3_0_e0_f1 h0_3_0_e0_2 h0_3_0_e0_0 h0_3_0_e0_0k h0_3_0_e0_0c h0_3_0_e0_2 h0_3_0_e0_2k h0_3_0_e0_2c h0_3_0_e1 h0_3_0_e1_0 h0_3_0_e1_f1 h0_3_0_e1_2 h0_3_0_e1_0 h0_3_0_e1_0k h0_3_0_e1_0c h0_3_0_e1_2 h0_3_0_e1_2k h0_3_0_e1_2c h0_3_0_e2 h0_3_0_e2_0 h0_3_0_e2_f1 h0_3_0_e2_2 h0_3_0_e2_0 h0_3_0_e2_0k h0_3_0_e2_0c h0_3_0_e2_2 h0_3_0_e2_2k h0_3_0_e2_2c h0_3_0_e3 h0_3_0_e3_0 h0_3_0_e3_f1 h0_3_0_e3_2 h0_3_0_e3_0 h0_3_0_e3_0k h0_3_0_e3_0c h0_3_0_e3_2 h0_3_0_e3_2k h0_3_0_e3_2c) H := by rw [← hHe]; exact hP
  rw [hHe]
  refine lv_aload_n hx hb dX11_pull_0 rfl (lv_at hl 0 rfl) ?_
  refine lv_iload_n hx hb dX11_pull_1 rfl (lv_at hl 1 rfl) ?_
  have hPc := hP.sub (ws' := (wd_c_X11_isBuoy h0 h0_0 h0_1 h0_2 h0_3 h0_4 h0_f5 h0_6 h0_7 h0_8 h0_9 h0_10 h0_11 h0_12 h0_13 h0_14 h0_f15 h0_1 h0_1_0 h0_1_f1 h0_1_f2 h0_1_f3)) [0, 1] rfl
  have hDc := hD.sub (ws' := (wd_c_X11_isBuoy h0 h0_0 h0_1 h0_2 h0_3 h0_4 h0_f5 h0_6 h0_7 h0_8 h0_9 h0_10 h0_11 h0_12 h0_13 h0_14 h0_f15 h0_1 h0_1_0 h0_1_f1 h0_1_f2 h0_1_f3)) [0, 1] (by decide) rfl
  have hKc := hK.sub (tys' := []) [] rfl
  have hFc := va_free (wc := (wd_c_X11_isBuoy h0 h0_0 h0_1 h0_2 h0_3 h0_4 h0_f5 h0_6 h0_7 h0_8 h0_9 h0_10 h0_11 h0_12 h0_13 h0_14 h0_f15 h0_1 h0_1_0 h0_1_f1 h0_1_f2 h0_1_f3)) hD hS hA [0, 1] rfl
  refine va_calli (va_runV (As := [.int p1]) (rest := []) ⟨hx, hb, hml, hown, hts⟩ (c_X11_isBuoy l dC dI H.size h0 p1 h0_0 h0_1 h0_2 h0_3 h0_4 h0_f5 h0_6 h0_7 h0_8 h0_9 h0_10 h0_11 h0_12 h0_13 h0_14 h0_f15 h0_1_0 h0_1_f1 h0_1_f2 h0_1_f3 g_h0_f5 g_h0_1_f1 g_h0_1_f2 g_h0_1_f3) (cwV 1 hts gf_c_X11_pull_c_X11_isBuoy rfl rfl rfl (by decide +kernel) ⟨Nat.le_of_ble_eq_true rfl, Nat.le_of_ble_eq_true rfl⟩) ⟨fun a U g mk q => by obtain ⟨q0, q1, qP, qK, qD⟩ := q; exact ⟨q0, q1, qP, va_K.moved (u := U) (U := U.calling g mk a) (Vm.Alike.refl U.vm) qK, qD⟩, va_recv hKc hPc (ci := 11) (q0 := 0) rfl rfl, fun U hU hW => ⟨rfl, by rw [hU], by rw [hU]; exact hPc, va_K.moved hW.alike hKc, hDc.weaken (fun _ _ _ _ => trivial)⟩⟩ rfl rfl hl.1 rfl (lv_room (Nat.le_of_ble_eq_true rfl)) dX11_pull_2 ⟨Nat.le_of_ble_eq_true rfl, Nat.le_of_ble_eq_true rfl⟩) hS (fun q _ h => hFc q h) hFc (fun r_1 u t H1 locs ht hvm hw hB hz1 hk1 hS => ?_)
  obtain ⟨hP1, hK1, hD1⟩ := hB
  rw [ht] at hP1
  obtain ⟨hP, hD⟩ := va_join (wr := [(h0_7, .inr (7, [.int h0_7_f0, .int h0_7_f1, .int h0_7_f2, .int h0_7_f3, .ref h0_7_4, .ref h0_7_5, .ref h0_7_6, .ref h0_7_7, .ref h0_7_8, .ref h0_7_9, .ref h0_7_10, .ref h0_7_11, .ref h0_7_12])), (h0_7_10, .inl (h0_7_10k, 24, .inl h0_7_10c)), (h0_7_11, .inl (h0_7_11k, 8, .inl h0_7_11c)), (h0_7_12, .inl (h0_7_12k, 8, .inl h0_7_12c)), (h0_6, .inr (10, [.ref h0_1, .ref h0_3, .ref h0_6_2, .ref h0_6_3, .ref h0_6_4, .ref h0_6_5])), (h0_1_0, .inl (h0_1_0k, 80, .inl h0_1_0c)), (h0_7_4, .inl (h0_7_4k, 3, .inl h0_7_4c)), (h0_7_5, .inl (h0_7_5k, 3, .inl h0_7_5c)), (h0_3, .inr (5, [.ref h0_3_0, .int h0_3_f1, .int h0_3_f2, .ref h0_3_3])), (h0_3_3, .inl (h0_3_3k, 6, .inl h0_3_3c)), (h0_3_0, .inl (h0_3_0k, 5, .inr (.inr (.inr (.inr h0_3_0c))))), (h0_3_0_e0, .inr (4, [.ref h0_3_0_e0_0, .int h0_3_0_e0_f1, .ref h0_3_0_e0_2])), (h0_3_0_e0_0, .inl (h0_3_0_e0_0k, 240, .inl h0_3_0_e0_0c)), (h0_3_0_e0_2, .inl (h0_3_0_e0_2k, 64, .inl h0_3_0_e0_2c)), (h0_3_0_e1, .inr (4, [.ref h0_3_0_e1_0, .int h0_3_0_e1_f1, .ref h0_3_0_e1_2])), (h0_3_0_e1_0, .inl (h0_3_0_e1_0k, 240, .inl h0_3_0_e1_0c)), (h0_3_0_e1_2, .inl (h0_3_0_e1_2k, 64, .inl h0_3_0_e1_2c)), (h0_3_0_e2, .inr (4, [.ref h0_3_0_e2_0, .int h0_3_0_e2_f1, .ref h0_3_0_e2_2])), (h0_3_0_e2_0, .inl (h0_3_0_e2_0k, 240, .inl h0_3_0_e2_0c)), (h0_3_0_e2_2, .inl (h0_3_0_e2_2k, 64, .inl h0_3_0_e2_2c)), (h0_3_0_e3, .inr (4, [.ref h0_3_0_e3_0, .int h0_3_0_e3_f1, .ref h0_3_0_e3_2])), (h0_3_0_e3_0, .inl (h0_3_0_e3_0k, 240, .inl h0_3_0_e3_0c)), (h0_3_0_e3_2, .inl (h0_3_0_e3_2k, 64, .inl h0_3_0_e3_2c))]) (w1 := (wd_c_X11_isBuoy h0 h0_0 h0_1 h0_2 h0_3 h0_4 h0_f5 h0_6 h0_7 h0_8 h0_9 h0_10 h0_11 h0_12 h0_13 h0_14 h0_f15 h0_1 h0_1_0 h0_1_f1 h0_1_f2 h0_1_f3)) hP hD [0, 1] [2, 3, 4, 5, 6, 7, 8, 9, 10, 11, 12, 13, 14, 15, 16, 17, 18, 19, 20, 21, 22, 23, 24] rfl rfl (by decide) (by decide) hk1 hFc hP1 hD1
  have hP := hP.sub (ws' := (wd_c_X11_pull h0 h0_0 h0_1 h0_2 h0_3 h0_4 h0_f5 h0_6 h0_7 h0_8 h0_9 h0_10 h0_11 h0_12 h0_13 h0_14 h0_f15 h0_1 h0_1_0 h0_1_f1 h0_1_f2 h0_1_f3 h0_7 h0_7_f0 h0_7_f1 h0_7_f2 h0_7_f3 h0_7_4 h0_7_5 h0_7_6 h0_7_7 h0_7_8 h0_7_9 h0_7_10 h0_7_11 h0_7_12 h0_7_10 h0_7_10k h0_7_10c h0_7_11 h0_7_11k h0_7_11c h0_7_12 h0_7_12k h0_7_12c h0_6 h0_1 h0_3 h0_6_2 h0_6_3 h0_6_4 h0_6_5 h0_1_0 h0_1_0k h0_1_0c h0_7_4 h0_7_4k h0_7_4c h0_7_5 h0_7_5k h0_7_5c h0_3 h0_3_0 h0_3_f1 h0_3_f2 h0_3_3 h0_3_3 h0_3_3k h0_3_3c h0_3_0 h0_3_0k h0_3_0c h0_3_0_e0 h0_3_0_e0_0 h0_3_0_e0_f1 h0_3_0_e0_2 h0_3_0_e0_0 h0_3_0_e0_0k h0_3_0_e0_0c h0_3_0_e0_2 h0_3_0_e0_2k h0_3_0_e0_2c h0_3_0_e1 h0_3_0_e1_0 h0_3_0_e1_f1 h0_3_0_e1_2 h0_3_0_e1_0 h0_3_0_e1_0k h0_3_0_e1_0c h0_3_0_e1_2 h0_3_0_e1_2k h0_3_0_e1_2c h0_3_0_e2 h0_3_0_e2_0 h0_3_0_e2_f1 h0_3_0_e2_2 h0_3_0_e2_0 h0_3_0_e2_0k h0_3_0_e2_0c h0_3_0_e2_2 h0_3_0_e2_2k h0_3_0_e2_2c h0_3_0_e3 h0_3_0_e3_0 h0_3_0_e3_f1 h0_3_0_e3_2 h0_3_0_e3_0 h0_3_0_e3_0k h0_3_0_e3_0c h0_3_0_e3_2 h0_3_0_e3_2k h0_3_0_e3_2c)) [23, 24, 0, 1, 2, 3, 4, 5, 6, 7, 8, 9, 10, 11, 12, 13, 14, 15, 16, 17, 18, 19, 20, 21, 22] rfl
  have hD := hD.sub (ws' := (wd_c_X11_pull h0 h0_0 h0_1 h0_2 h0_3 h0_4 h0_f5 h0_6 h0_7 h0_8 h0_9 h0_10 h0_11 h0_12 h0_13 h0_14 h0_f15 h0_1 h0_1_0 h0_1_f1 h0_1_f2 h0_1_f3 h0_7 h0_7_f0 h0_7_f1 h0_7_f2 h0_7_f3 h0_7_4 h0_7_5 h0_7_6 h0_7_7 h0_7_8 h0_7_9 h0_7_10 h0_7_11 h0_7_12 h0_7_10 h0_7_10k h0_7_10c h0_7_11 h0_7_11k h0_7_11c h0_7_12 h0_7_12k h0_7_12c h0_6 h0_1 h0_3 h0_6_2 h0_6_3 h0_6_4 h0_6_5 h0_1_0 h0_1_0k h0_1_0c h0_7_4 h0_7_4k h0_7_4c h0_7_5 h0_7_5k h0_7_5c h0_3 h0_3_0 h0_3_f1 h0_3_f2 h0_3_3 h0_3_3 h0_3_3k h0_3_3c h0_3_0 h0_3_0k h0_3_0c h0_3_0_e0 h0_3_0_e0_0 h0_3_0_e0_f1 h0_3_0_e0_2 h0_3_0_e0_0 h0_3_0_e0_0k h0_3_0_e0_0c h0_3_0_e0_2 h0_3_0_e0_2k h0_3_0_e0_2c h0_3_0_e1 h0_3_0_e1_0 h0_3_0_e1_f1 h0_3_0_e1_2 h0_3_0_e1_0 h0_3_0_e1_0k h0_3_0_e1_0c h0_3_0_e1_2 h0_3_0_e1_2k h0_3_0_e1_2c h0_3_0_e2 h0_3_0_e2_0 h0_3_0_e2_f1 h0_3_0_e2_2 h0_3_0_e2_0 h0_3_0_e2_0k h0_3_0_e2_0c h0_3_0_e2_2 h0_3_0_e2_2k h0_3_0_e2_2c h0_3_0_e3 h0_3_0_e3_0 h0_3_0_e3_f1 h0_3_0_e3_2 h0_3_0_e3_0 h0_3_0_e3_0k h0_3_0_e3_0c h0_3_0_e3_2 h0_3_0_e3_2k h0_3_0_e3_2c)) [23, 24, 0, 1, 2, 3, 4, 5, 6, 7, 8, 9, 10, 11, 12, 13, 14, 15, 16, 17, 18, 19, 20, 21, 22] (by decide) rfl
  generalize H1 = H at hP hS ⊢
  rcases hw with ⟨h_2, h_3⟩ | ⟨h_4, h_5, h_6⟩
  · rw [h_2]
    refine lv_if_eq (tgt := 32) hx hb dX11_pull_5 rfl (fun c_7 => ?_) (fun c_7 => absurd c_7 (by decide))
    refine lv_ldc hx hb hown (hts (.constant RX11 228 (-1000000)) (List.mem_of_getElem? (i := 8) rfl)) dX11_pull_32 ?_
    have hK9 := hK.sub (tys' := []) [] rfl
    exact W.iret (v := (-1000000)) hx hb hr (fun t ht hW => ⟨⟨(-1000000), (h0_3_3c, h0_3_0_e0_2c, h0_3_0_e1_2c, h0_3_0_e2_2c, h0_3_0_e3_2c), rfl, (Or.inl rfl), by rw [ht]; exact hP, va_K.moved hW.alike hK9, hD⟩, hS.F ht⟩) hS.2.2 dX11_pull_34
  · rw [h_4]
    refine lv_if_eq (tgt := 32) hx hb dX11_pull_5 rfl (fun c_8 => absurd c_8 (by decide)) (fun c_8 => ?_)
    refine lv_aload_n hx hb dX11_pull_8 rfl (lv_at hl 0 rfl) ?_
    refine lv_iload_n hx hb dX11_pull_9 rfl (lv_at hl 2 rfl) ?_
    have hPc := hP.sub (ws' := (wd_c_X11_isBoat h0 h0_0 h0_1 h0_2 h0_3 h0_4 h0_f5 h0_6 h0_7 h0_8 h0_9 h0_10 h0_11 h0_12 h0_13 h0_14 h0_f15 h0_1 h0_1_0 h0_1_f1 h0_1_f2 h0_1_f3)) [0, 1] rfl
    have hDc := hD.sub (ws' := (wd_c_X11_isBoat h0 h0_0 h0_1 h0_2 h0_3 h0_4 h0_f5 h0_6 h0_7 h0_8 h0_9 h0_10 h0_11 h0_12 h0_13 h0_14 h0_f15 h0_1 h0_1_0 h0_1_f1 h0_1_f2 h0_1_f3)) [0, 1] (by decide) rfl
    have hKc := hK.sub (tys' := []) [] rfl
    have hFc := va_free (wc := (wd_c_X11_isBoat h0 h0_0 h0_1 h0_2 h0_3 h0_4 h0_f5 h0_6 h0_7 h0_8 h0_9 h0_10 h0_11 h0_12 h0_13 h0_14 h0_f15 h0_1 h0_1_0 h0_1_f1 h0_1_f2 h0_1_f3)) hD hS hA [0, 1] rfl
    refine va_calli (va_runV (As := [.int p2]) (rest := []) ⟨hx, hb, hml, hown, hts⟩ (c_X11_isBoat l dC dI H.size h0 p2 h0_0 h0_1 h0_2 h0_3 h0_4 h0_f5 h0_6 h0_7 h0_8 h0_9 h0_10 h0_11 h0_12 h0_13 h0_14 h0_f15 h0_1_0 h0_1_f1 h0_1_f2 h0_1_f3 g_h0_f5 (RG_w h_5 (by decide)) g_h0_1_f2 g_h0_1_f3) (cwV 1 hts gf_c_X11_pull_c_X11_isBoat rfl rfl rfl (by decide +kernel) ⟨Nat.le_of_ble_eq_true rfl, Nat.le_of_ble_eq_true rfl⟩) ⟨fun a U g mk q => by obtain ⟨q0, q1, qP, qK, qD⟩ := q; exact ⟨q0, q1, qP, va_K.moved (u := U) (U := U.calling g mk a) (Vm.Alike.refl U.vm) qK, qD⟩, va_recv hKc hPc (ci := 11) (q0 := 0) rfl rfl, fun U hU hW => ⟨rfl, by rw [hU], by rw [hU]; exact hPc, va_K.moved hW.alike hKc, hDc.weaken (fun _ _ _ _ => trivial)⟩⟩ rfl rfl hl.1 rfl (lv_room (Nat.le_of_ble_eq_true rfl)) dX11_pull_10 ⟨Nat.le_of_ble_eq_true rfl, Nat.le_of_ble_eq_true rfl⟩) hS (fun q _ h => hFc q h) hFc (fun r_9 u t H1 locs ht hvm hw hB hz1 hk1 hS => ?_)
    obtain ⟨hP1, hK1, hD1⟩ := hB
    rw [ht] at hP1
    obtain ⟨hP, hD⟩ := va_join (wr := [(h0_7, .inr (7, [.int h0_7_f0, .int h0_7_f1, .int h0_7_f2, .int h0_7_f3, .ref h0_7_4, .ref h0_7_5, .ref h0_7_6, .ref h0_7_7, .ref h0_7_8, .ref h0_7_9, .ref h0_7_10, .ref h0_7_11, .ref h0_7_12])), (h0_7_10, .inl (h0_7_10k, 24, .inl h0_7_10c)), (h0_7_11, .inl (h0_7_11k, 8, .inl h0_7_11c)), (h0_7_12, .inl (h0_7_12k, 8, .inl h0_7_12c)), (h0_6, .inr (10, [.ref h0_1, .ref h0_3, .ref h0_6_2, .ref h0_6_3, .ref h0_6_4, .ref h0_6_5])), (h0_1_0, .inl (h0_1_0k, 80, .inl h0_1_0c)), (h0_7_4, .inl (h0_7_4k, 3, .inl h0_7_4c)), (h0_7_5, .inl (h0_7_5k, 3, .inl h0_7_5c)), (h0_3, .inr (5, [.ref h0_3_0, .int h0_3_f1, .int h0_3_f2, .ref h0_3_3])), (h0_3_3, .inl (h0_3_3k, 6, .inl h0_3_3c)), (h0_3_0, .inl (h0_3_0k, 5, .inr (.inr (.inr (.inr h0_3_0c))))), (h0_3_0_e0, .inr (4, [.ref h0_3_0_e0_0, .int h0_3_0_e0_f1, .ref h0_3_0_e0_2])), (h0_3_0_e0_0, .inl (h0_3_0_e0_0k, 240, .inl h0_3_0_e0_0c)), (h0_3_0_e0_2, .inl (h0_3_0_e0_2k, 64, .inl h0_3_0_e0_2c)), (h0_3_0_e1, .inr (4, [.ref h0_3_0_e1_0, .int h0_3_0_e1_f1, .ref h0_3_0_e1_2])), (h0_3_0_e1_0, .inl (h0_3_0_e1_0k, 240, .inl h0_3_0_e1_0c)), (h0_3_0_e1_2, .inl (h0_3_0_e1_2k, 64, .inl h0_3_0_e1_2c)), (h0_3_0_e2, .inr (4, [.ref h0_3_0_e2_0, .int h0_3_0_e2_f1, .ref h0_3_0_e2_2])), (h0_3_0_e2_0, .inl (h0_3_0_e2_0k, 240, .inl h0_3_0_e2_0c)), (h0_3_0_e2_2, .inl (h0_3_0_e2_2k, 64, .inl h0_3_0_e2_2c)), (h0_3_0_e3, .inr (4, [.ref h0_3_0_e3_0, .int h0_3_0_e3_f1, .ref h0_3_0_e3_2])), (h0_3_0_e3_0, .inl (h0_3_0_e3_0k, 240, .inl h0_3_0_e3_0c)), (h0_3_0_e3_2, .inl (h0_3_0_e3_2k, 64, .inl h0_3_0_e3_2c))]) (w1 := (wd_c_X11_isBoat h0 h0_0 h0_1 h0_2 h0_3 h0_4 h0_f5 h0_6 h0_7 h0_8 h0_9 h0_10 h0_11 h0_12 h0_13 h0_14 h0_f15 h0_1 h0_1_0 h0_1_f1 h0_1_f2 h0_1_f3)) hP hD [0, 1] [2, 3, 4, 5, 6, 7, 8, 9, 10, 11, 12, 13, 14, 15, 16, 17, 18, 19, 20, 21, 22, 23, 24] rfl rfl (by decide) (by decide) hk1 hFc hP1 hD1
    have hP := hP.sub (ws' := (wd_c_X11_pull h0 h0_0 h0_1 h0_2 h0_3 h0_4 h0_f5 h0_6 h0_7 h0_8 h0_9 h0_10 h0_11 h0_12 h0_13 h0_14 h0_f15 h0_1 h0_1_0 h0_1_f1 h0_1_f2 h0_1_f3 h0_7 h0_7_f0 h0_7_f1 h0_7_f2 h0_7_f3 h0_7_4 h0_7_5 h0_7_6 h0_7_7 h0_7_8 h0_7_9 h0_7_10 h0_7_11 h0_7_12 h0_7_10 h0_7_10k h0_7_10c h0_7_11 h0_7_11k h0_7_11c h0_7_12 h0_7_12k h0_7_12c h0_6 h0_1 h0_3 h0_6_2 h0_6_3 h0_6_4 h0_6_5 h0_1_0 h0_1_0k h0_1_0c h0_7_4 h0_7_4k h0_7_4c h0_7_5 h0_7_5k h0_7_5c h0_3 h0_3_0 h0_3_f1 h0_3_f2 h0_3_3 h0_3_3 h0_3_3k h0_3_3c h0_3_0 h0_3_0k h0_3_0c h0_3_0_e0 h0_3_0_e0_0 h0_3_0_e0_f1 h0_3_0_e0_2 h0_3_0_e0_0 h0_3_0_e0_0k h0_3_0_e0_0c h0_3_0_e0_2 h0_3_0_e0_2k h0_3_0_e0_2c h0_3_0_e1 h0_3_0_e1_0 h0_3_0_e1_f1 h0_3_0_e1_2 h0_3_0_e1_0 h0_3_0_e1_0k h0_3_0_e1_0c h0_3_0_e1_2 h0_3_0_e1_2k h0_3_0_e1_2c h0_3_0_e2 h0_3_0_e2_0 h0_3_0_e2_f1 h0_3_0_e2_2 h0_3_0_e2_0 h0_3_0_e2_0k h0_3_0_e2_0c h0_3_0_e2_2 h0_3_0_e2_2k h0_3_0_e2_2c h0_3_0_e3 h0_3_0_e3_0 h0_3_0_e3_f1 h0_3_0_e3_2 h0_3_0_e3_0 h0_3_0_e3_0k h0_3_0_e3_0c h0_3_0_e3_2 h0_3_0_e3_2k h0_3_0_e3_2c)) [23, 24, 0, 1, 2, 3, 4, 5, 6, 7, 8, 9, 10, 11, 12, 13, 14, 15, 16, 17, 18, 19, 20, 21, 22] rfl
    have hD := hD.sub (ws' := (wd_c_X11_pull h0 h0_0 h0_1 h0_2 h0_3 h0_4 h0_f5 h0_6 h0_7 h0_8 h0_9 h0_10 h0_11 h0_12 h0_13 h0_14 h0_f15 h0_1 h0_1_0 h0_1_f1 h0_1_f2 h0_1_f3 h0_7 h0_7_f0 h0_7_f1 h0_7_f2 h0_7_f3 h0_7_4 h0_7_5 h0_7_6 h0_7_7 h0_7_8 h0_7_9 h0_7_10 h0_7_11 h0_7_12 h0_7_10 h0_7_10k h0_7_10c h0_7_11 h0_7_11k h0_7_11c h0_7_12 h0_7_12k h0_7_12c h0_6 h0_1 h0_3 h0_6_2 h0_6_3 h0_6_4 h0_6_5 h0_1_0 h0_1_0k h0_1_0c h0_7_4 h0_7_4k h0_7_4c h0_7_5 h0_7_5k h0_7_5c h0_3 h0_3_0 h0_3_f1 h0_3_f2 h0_3_3 h0_3_3 h0_3_3k h0_3_3c h0_3_0 h0_3_0k h0_3_0c h0_3_0_e0 h0_3_0_e0_0 h0_3_0_e0_f1 h0_3_0_e0_2 h0_3_0_e0_0 h0_3_0_e0_0k h0_3_0_e0_0c h0_3_0_e0_2 h0_3_0_e0_2k h0_3_0_e0_2c h0_3_0_e1 h0_3_0_e1_0 h0_3_0_e1_f1 h0_3_0_e1_2 h0_3_0_e1_0 h0_3_0_e1_0k h0_3_0_e1_0c h0_3_0_e1_2 h0_3_0_e1_2k h0_3_0_e1_2c h0_3_0_e2 h0_3_0_e2_0 h0_3_0_e2_f1 h0_3_0_e2_2 h0_3_0_e2_0 h0_3_0_e2_0k h0_3_0_e2_0c h0_3_0_e2_2 h0_3_0_e2_2k h0_3_0_e2_2c h0_3_0_e3 h0_3_0_e3_0 h0_3_0_e3_f1 h0_3_0_e3_2 h0_3_0_e3_0 h0_3_0_e3_0k h0_3_0_e3_0c h0_3_0_e3_2 h0_3_0_e3_2k h0_3_0_e3_2c)) [23, 24, 0, 1, 2, 3, 4, 5, 6, 7, 8, 9, 10, 11, 12, 13, 14, 15, 16, 17, 18, 19, 20, 21, 22] (by decide) rfl
    generalize H1 = H at hP hS ⊢
    rcases hw with ⟨h_10, h_11⟩ | ⟨h_12, h_13, h_14⟩
    · rw [h_10]
      refine lv_if_eq (tgt := 32) hx hb dX11_pull_13 rfl (fun c_15 => ?_) (fun c_15 => absurd c_15 (by decide))
      refine lv_ldc hx hb hown (hts (.constant RX11 228 (-1000000)) (List.mem_of_getElem? (i := 8) rfl)) dX11_pull_32 ?_
      have hK9 := hK.sub (tys' := []) [] rfl
      exact W.iret (v := (-1000000)) hx hb hr (fun t ht hW => ⟨⟨(-1000000), (h0_3_3c, h0_3_0_e0_2c, h0_3_0_e1_2c, h0_3_0_e2_2c, h0_3_0_e3_2c), rfl, (Or.inl rfl), by rw [ht]; exact hP, va_K.moved hW.alike hK9, hD⟩, hS.F ht⟩) hS.2.2 dX11_pull_34
    · rw [h_12]
      refine lv_if_eq (tgt := 32) hx hb dX11_pull_13 rfl (fun c_16 => absurd c_16 (by decide)) (fun c_16 => ?_)
      refine lv_aload_n hx hb dX11_pull_16 rfl (lv_at hl 0 rfl) ?_
      refine va_get (D := (dC, dI)) (ci := 11) (v := .ref h0_6) (C := RX11) (T := TX11) (N := 16) hx hb hts iw_c_X11_pull_X11 hown hK hP 0 rfl rfl 6 (by decide) (hts (.fieldLink RX11 45 "BuoyVote" "waters" "LBuoyVote$Waters;") (List.mem_of_getElem? (i := 14) rfl)) (fun _ h9 => h9) rfl dX11_pull_17 ?_
      refine lv_aload_n hx hb dX11_pull_20 rfl (lv_at hl 0 rfl) ?_
      refine va_get (D := (dC, dI)) (ci := 11) (v := .ref h0_7) (C := RX11) (T := TX11) (N := 16) hx hb hts iw_c_X11_pull_X11 hown hK hP 0 rfl rfl 7 (by decide) (hts (.fieldLink RX11 52 "BuoyVote" "now" "LBuoyVote$Sea;") (List.mem_of_getElem? (i := 15) rfl)) (fun _ h9 => h9) rfl dX11_pull_21 ?_
      refine lv_iload_n hx hb dX11_pull_24 rfl (lv_at hl 1 rfl) ?_
      refine lv_iload_n hx hb dX11_pull_25 rfl (lv_at hl 2 rfl) ?_
      have hPc := hP.sub (ws' := (wd_c_X10_drawOf h0_7 h0_7_f0 h0_7_f1 h0_7_f2 h0_7_f3 h0_7_4 h0_7_5 h0_7_6 h0_7_7 h0_7_8 h0_7_9 h0_7_10 h0_7_11 h0_7_12 h0_7_10 h0_7_10k h0_7_10c h0_7_11 h0_7_11k h0_7_11c h0_7_12 h0_7_12k h0_7_12c h0_6 h0_1 h0_3 h0_6_2 h0_6_3 h0_6_4 h0_6_5 h0_1 h0_1_0 h0_1_f1 h0_1_f2 h0_1_f3 h0_1_0 h0_1_0k h0_1_0c h0_7_4 h0_7_4k h0_7_4c h0_7_5 h0_7_5k h0_7_5c h0_3 h0_3_0 h0_3_f1 h0_3_f2 h0_3_3 h0_3_3 h0_3_3k h0_3_3c h0_3_0 h0_3_0k h0_3_0c h0_3_0_e0 h0_3_0_e0_0 h0_3_0_e0_f1 h0_3_0_e0_2 h0_3_0_e0_0 h0_3_0_e0_0k h0_3_0_e0_0c h0_3_0_e0_2 h0_3_0_e0_2k h0_3_0_e0_2c h0_3_0_e1 h0_3_0_e1_0 h0_3_0_e1_f1 h0_3_0_e1_2 h0_3_0_e1_0 h0_3_0_e1_0k h0_3_0_e1_0c h0_3_0_e1_2 h0_3_0_e1_2k h0_3_0_e1_2c h0_3_0_e2 h0_3_0_e2_0 h0_3_0_e2_f1 h0_3_0_e2_2 h0_3_0_e2_0 h0_3_0_e2_0k h0_3_0_e2_0c h0_3_0_e2_2 h0_3_0_e2_2k h0_3_0_e2_2c h0_3_0_e3 h0_3_0_e3_0 h0_3_0_e3_f1 h0_3_0_e3_2 h0_3_0_e3_0 h0_3_0_e3_0k h0_3_0_e3_0c h0_3_0_e3_2 h0_3_0_e3_2k h0_3_0_e3_2c)) [2, 3, 4, 5, 6, 1, 7, 8, 9, 10, 11, 12, 13, 14, 15, 16, 17, 18, 19, 20, 21, 22, 23, 24] rfl
      have hDc := hD.sub (ws' := (wd_c_X10_drawOf h0_7 h0_7_f0 h0_7_f1 h0_7_f2 h0_7_f3 h0_7_4 h0_7_5 h0_7_6 h0_7_7 h0_7_8 h0_7_9 h0_7_10 h0_7_11 h0_7_12 h0_7_10 h0_7_10k h0_7_10c h0_7_11 h0_7_11k h0_7_11c h0_7_12 h0_7_12k h0_7_12c h0_6 h0_1 h0_3 h0_6_2 h0_6_3 h0_6_4 h0_6_5 h0_1 h0_1_0 h0_1_f1 h0_1_f2 h0_1_f3 h0_1_0 h0_1_0k h0_1_0c h0_7_4 h0_7_4k h0_7_4c h0_7_5 h0_7_5k h0_7_5c h0_3 h0_3_0 h0_3_f1 h0_3_f2 h0_3_3 h0_3_3 h0_3_3k h0_3_3c h0_3_0 h0_3_0k h0_3_0c h0_3_0_e0 h0_3_0_e0_0 h0_3_0_e0_f1 h0_3_0_e0_2 h0_3_0_e0_0 h0_3_0_e0_0k h0_3_0_e0_0c h0_3_0_e0_2 h0_3_0_e0_2k h0_3_0_e0_2c h0_3_0_e1 h0_3_0_e1_0 h0_3_0_e1_f1 h0_3_0_e1_2 h0_3_0_e1_0 h0_3_0_e1_0k h0_3_0_e1_0c h0_3_0_e1_2 h0_3_0_e1_2k h0_3_0_e1_2c h0_3_0_e2 h0_3_0_e2_0 h0_3_0_e2_f1 h0_3_0_e2_2 h0_3_0_e2_0 h0_3_0_e2_0k h0_3_0_e2_0c h0_3_0_e2_2 h0_3_0_e2_2k h0_3_0_e2_2c h0_3_0_e3 h0_3_0_e3_0 h0_3_0_e3_f1 h0_3_0_e3_2 h0_3_0_e3_0 h0_3_0_e3_0k h0_3_0_e3_0c h0_3_0_e3_2 h0_3_0_e3_2k h0_3_0_e3_2c)) [2, 3, 4, 5, 6, 1, 7, 8, 9, 10, 11, 12, 13, 14, 15, 16, 17, 18, 19, 20, 21, 22, 23, 24] (by decide) rfl
      have hKc := hK.sub (tys' := [(h0_7_10k, .int), (h0_7_11k, .int), (h0_7_12k, .int), (h0_1_0k, .int), (h0_7_4k, .int), (h0_7_5k, .int), (h0_3_3k, .int), (h0_3_0k, .object RX4), (h0_3_0_e0_0k, .int), (h0_3_0_e0_2k, .int), (h0_3_0_e1_0k, .int), (h0_3_0_e1_2k, .int), (h0_3_0_e2_0k, .int), (h0_3_0_e2_2k, .int), (h0_3_0_e3_0k, .int), (h0_3_0_e3_2k, .int)]) [0, 1, 2, 3, 4, 5, 6, 7, 8, 9, 10, 11, 12, 13, 14, 15] rfl
      have hFc := va_free (wc := (wd_c_X10_drawOf h0_7 h0_7_f0 h0_7_f1 h0_7_f2 h0_7_f3 h0_7_4 h0_7_5 h0_7_6 h0_7_7 h0_7_8 h0_7_9 h0_7_10 h0_7_11 h0_7_12 h0_7_10 h0_7_10k h0_7_10c h0_7_11 h0_7_11k h0_7_11c h0_7_12 h0_7_12k h0_7_12c h0_6 h0_1 h0_3 h0_6_2 h0_6_3 h0_6_4 h0_6_5 h0_1 h0_1_0 h0_1_f1 h0_1_f2 h0_1_f3 h0_1_0 h0_1_0k h0_1_0c h0_7_4 h0_7_4k h0_7_4c h0_7_5 h0_7_5k h0_7_5c h0_3 h0_3_0 h0_3_f1 h0_3_f2 h0_3_3 h0_3_3 h0_3_3k h0_3_3c h0_3_0 h0_3_0k h0_3_0c h0_3_0_e0 h0_3_0_e0_0 h0_3_0_e0_f1 h0_3_0_e0_2 h0_3_0_e0_0 h0_3_0_e0_0k h0_3_0_e0_0c h0_3_0_e0_2 h0_3_0_e0_2k h0_3_0_e0_2c h0_3_0_e1 h0_3_0_e1_0 h0_3_0_e1_f1 h0_3_0_e1_2 h0_3_0_e1_0 h0_3_0_e1_0k h0_3_0_e1_0c h0_3_0_e1_2 h0_3_0_e1_2k h0_3_0_e1_2c h0_3_0_e2 h0_3_0_e2_0 h0_3_0_e2_f1 h0_3_0_e2_2 h0_3_0_e2_0 h0_3_0_e2_0k h0_3_0_e2_0c h0_3_0_e2_2 h0_3_0_e2_2k h0_3_0_e2_2c h0_3_0_e3 h0_3_0_e3_0 h0_3_0_e3_f1 h0_3_0_e3_2 h0_3_0_e3_0 h0_3_0_e3_0k h0_3_0_e3_0c h0_3_0_e3_2 h0_3_0_e3_2k h0_3_0_e3_2c)) hD hS hA [2, 3, 4, 5, 6, 1, 7, 8, 9, 10, 11, 12, 13, 14, 15, 16, 17, 18, 19, 20, 21, 22, 23, 24] rfl
      refine va_calli (va_runV (As := [.ref h0_7, .int p1, .int p2]) (rest := []) ⟨hx, hb, hml, hown, hts⟩ (c_X10_drawOf l dC dI H.size h0_6 h0_7 p1 p2 h0_7_f0 h0_7_f1 h0_7_f2 h0_7_f3 h0_7_4 h0_7_5 h0_7_6 h0_7_7 h0_7_8 h0_7_9 h0_7_10 h0_7_11 h0_7_12 h0_7_10k h0_7_10c h0_7_11k h0_7_11c h0_7_12k h0_7_12c h0_1 h0_3 h0_6_2 h0_6_3 h0_6_4 h0_6_5 h0_1_0 h0_1_f1 h0_1_f2 h0_1_f3 h0_1_0k h0_1_0c h0_7_4k h0_7_4c h0_7_5k h0_7_5c h0_3_0 h0_3_f1 h0_3_f2 h0_3_3 h0_3_3k h0_3_3c h0_3_0k h0_3_0c h0_3_0_e0 h0_3_0_e1 h0_3_0_e2 h0_3_0_e3 h0_3_0_e4 h0_3_0_e0_0 h0_3_0_e0_f1 h0_3_0_e0_2 h0_3_0_e0_0k h0_3_0_e0_0c h0_3_0_e0_2k h0_3_0_e0_2c h0_3_0_e1_0 h0_3_0_e1_f1 h0_3_0_e1_2 h0_3_0_e1_0k h0_3_0_e1_0c h0_3_0_e1_2k h0_3_0_e1_2c h0_3_0_e2_0 h0_3_0_e2_f1 h0_3_0_e2_2 h0_3_0_e2_0k h0_3_0_e2_0c h0_3_0_e2_2k h0_3_0_e2_2c h0_3_0_e3_0 h0_3_0_e3_f1 h0_3_0_e3_2 h0_3_0_e3_0k h0_3_0_e3_0c h0_3_0_e3_2k h0_3_0_e3_2c h_6 h_14 (RG_w h_5 (by decide)) (RG_w h_13 (by decide)) g_h0_1_f3 a_h0_1_0c g_h0_3_f1 e_h0_3_0_e0 e_h0_3_0_e1 e_h0_3_0_e2 e_h0_3_0_e3 e_h0_3_0_e4 g_h0_3_0_e0_f1 g_h0_3_0_e1_f1 g_h0_3_0_e2_f1 g_h0_3_0_e3_f1) (cwV 3 hts gf_c_X11_pull_c_X10_drawOf rfl rfl rfl (by decide +kernel) ⟨Nat.le_of_ble_eq_true rfl, Nat.le_of_ble_eq_true rfl⟩) ⟨fun a U g mk q => by obtain ⟨q0, q1, qP, qK, qD⟩ := q; exact ⟨q0, q1, qP, va_K.moved (u := U) (U := U.calling g mk a) (Vm.Alike.refl U.vm) qK, qD⟩, va_recv hKc hPc (ci := 10) (q0 := 4) rfl rfl, fun U hU hW => ⟨rfl, by rw [hU], by rw [hU]; exact hPc, va_K.moved hW.alike hKc, hDc.weaken (fun _ _ _ _ => trivial)⟩⟩ rfl rfl hl.1 rfl (lv_room (Nat.le_of_ble_eq_true rfl)) dX11_pull_26 ⟨Nat.le_of_ble_eq_true rfl, Nat.le_of_ble_eq_true rfl⟩) hS (fun q _ h => hFc q h) hFc (fun r_17 u t H1 locs ht hvm hw hB hz1 hk1 hS => ?_)
      obtain ⟨w_18, w_19, w_20, w_21, w_22⟩ := u
      obtain ⟨hP1, hK1, hD1⟩ := hB
      rw [ht] at hP1
      obtain ⟨hP, hD⟩ := va_join (wr := [(h0, .inr (11, [.ref h0_0, .ref h0_1, .ref h0_2, .ref h0_3, .ref h0_4, .int h0_f5, .ref h0_6, .ref h0_7, .ref h0_8, .ref h0_9, .ref h0_10, .ref h0_11, .ref h0_12, .ref h0_13, .ref h0_14, .long h0_f15]))]) (w1 := (wd_c_X10_drawOf h0_7 h0_7_f0 h0_7_f1 h0_7_f2 h0_7_f3 h0_7_4 h0_7_5 h0_7_6 h0_7_7 h0_7_8 h0_7_9 h0_7_10 h0_7_11 h0_7_12 h0_7_10 h0_7_10k h0_7_10c h0_7_11 h0_7_11k h0_7_11c h0_7_12 h0_7_12k h0_7_12c h0_6 h0_1 h0_3 h0_6_2 h0_6_3 h0_6_4 h0_6_5 h0_1 h0_1_0 h0_1_f1 h0_1_f2 h0_1_f3 h0_1_0 h0_1_0k h0_1_0c h0_7_4 h0_7_4k h0_7_4c h0_7_5 h0_7_5k h0_7_5c h0_3 h0_3_0 h0_3_f1 h0_3_f2 h0_3_3 h0_3_3 h0_3_3k w_18 h0_3_0 h0_3_0k h0_3_0c h0_3_0_e0 h0_3_0_e0_0 h0_3_0_e0_f1 h0_3_0_e0_2 h0_3_0_e0_0 h0_3_0_e0_0k h0_3_0_e0_0c h0_3_0_e0_2 h0_3_0_e0_2k w_19 h0_3_0_e1 h0_3_0_e1_0 h0_3_0_e1_f1 h0_3_0_e1_2 h0_3_0_e1_0 h0_3_0_e1_0k h0_3_0_e1_0c h0_3_0_e1_2 h0_3_0_e1_2k w_20 h0_3_0_e2 h0_3_0_e2_0 h0_3_0_e2_f1 h0_3_0_e2_2 h0_3_0_e2_0 h0_3_0_e2_0k h0_3_0_e2_0c h0_3_0_e2_2 h0_3_0_e2_2k w_21 h0_3_0_e3 h0_3_0_e3_0 h0_3_0_e3_f1 h0_3_0_e3_2 h0_3_0_e3_0 h0_3_0_e3_0k h0_3_0_e3_0c h0_3_0_e3_2 h0_3_0_e3_2k w_22)) hP hD [2, 3, 4, 5, 6, 1, 7, 8, 9, 10, 11, 12, 13, 14, 15, 16, 17, 18, 19, 20, 21, 22, 23, 24] [0] rfl rfl (by decide) (by decide) hk1 hFc hP1 hD1
      have hP := hP.sub (ws' := (wd_c_X11_pull h0 h0_0 h0_1 h0_2 h0_3 h0_4 h0_f5 h0_6 h0_7 h0_8 h0_9 h0_10 h0_11 h0_12 h0_13 h0_14 h0_f15 h0_1 h0_1_0 h0_1_f1 h0_1_f2 h0_1_f3 h0_7 h0_7_f0 h0_7_f1 h0_7_f2 h0_7_f3 h0_7_4 h0_7_5 h0_7_6 h0_7_7 h0_7_8 h0_7_9 h0_7_10 h0_7_11 h0_7_12 h0_7_10 h0_7_10k h0_7_10c h0_7_11 h0_7_11k h0_7_11c h0_7_12 h0_7_12k h0_7_12c h0_6 h0_1 h0_3 h0_6_2 h0_6_3 h0_6_4 h0_6_5 h0_1_0 h0_1_0k h0_1_0c h0_7_4 h0_7_4k h0_7_4c h0_7_5 h0_7_5k h0_7_5c h0_3 h0_3_0 h0_3_f1 h0_3_f2 h0_3_3 h0_3_3 h0_3_3k w_18 h0_3_0 h0_3_0k h0_3_0c h0_3_0_e0 h0_3_0_e0_0 h0_3_0_e0_f1 h0_3_0_e0_2 h0_3_0_e0_0 h0_3_0_e0_0k h0_3_0_e0_0c h0_3_0_e0_2 h0_3_0_e0_2k w_19 h0_3_0_e1 h0_3_0_e1_0 h0_3_0_e1_f1 h0_3_0_e1_2 h0_3_0_e1_0 h0_3_0_e1_0k h0_3_0_e1_0c h0_3_0_e1_2 h0_3_0_e1_2k w_20 h0_3_0_e2 h0_3_0_e2_0 h0_3_0_e2_f1 h0_3_0_e2_2 h0_3_0_e2_0 h0_3_0_e2_0k h0_3_0_e2_0c h0_3_0_e2_2 h0_3_0_e2_2k w_21 h0_3_0_e3 h0_3_0_e3_0 h0_3_0_e3_f1 h0_3_0_e3_2 h0_3_0_e3_0 h0_3_0_e3_0k h0_3_0_e3_0c h0_3_0_e3_2 h0_3_0_e3_2k w_22)) [0, 6, 1, 2, 3, 4, 5, 7, 8, 9, 10, 11, 12, 13, 14, 15, 16, 17, 18, 19, 20, 21, 22, 23, 24] rfl
      have hD := hD.sub (ws' := (wd_c_X11_pull h0 h0_0 h0_1 h0_2 h0_3 h0_4 h0_f5 h0_6 h0_7 h0_8 h0_9 h0_10 h0_11 h0_12 h0_13 h0_14 h0_f15 h0_1 h0_1_0 h0_1_f1 h0_1_f2 h0_1_f3 h0_7 h0_7_f0 h0_7_f1 h0_7_f2 h0_7_f3 h0_7_4 h0_7_5 h0_7_6 h0_7_7 h0_7_8 h0_7_9 h0_7_10 h0_7_11 h0_7_12 h0_7_10 h0_7_10k h0_7_10c h0_7_11 h0_7_11k h0_7_11c h0_7_12 h0_7_12k h0_7_12c h0_6 h0_1 h0_3 h0_6_2 h0_6_3 h0_6_4 h0_6_5 h0_1_0 h0_1_0k h0_1_0c h0_7_4 h0_7_4k h0_7_4c h0_7_5 h0_7_5k h0_7_5c h0_3 h0_3_0 h0_3_f1 h0_3_f2 h0_3_3 h0_3_3 h0_3_3k w_18 h0_3_0 h0_3_0k h0_3_0c h0_3_0_e0 h0_3_0_e0_0 h0_3_0_e0_f1 h0_3_0_e0_2 h0_3_0_e0_0 h0_3_0_e0_0k h0_3_0_e0_0c h0_3_0_e0_2 h0_3_0_e0_2k w_19 h0_3_0_e1 h0_3_0_e1_0 h0_3_0_e1_f1 h0_3_0_e1_2 h0_3_0_e1_0 h0_3_0_e1_0k h0_3_0_e1_0c h0_3_0_e1_2 h0_3_0_e1_2k w_20 h0_3_0_e2 h0_3_0_e2_0 h0_3_0_e2_f1 h0_3_0_e2_2 h0_3_0_e2_0 h0_3_0_e2_0k h0_3_0_e2_0c h0_3_0_e2_2 h0_3_0_e2_2k w_21 h0_3_0_e3 h0_3_0_e3_0 h0_3_0_e3_f1 h0_3_0_e3_2 h0_3_0_e3_0 h0_3_0_e3_0k h0_3_0_e3_0c h0_3_0_e3_2 h0_3_0_e3_2k w_22)) [0, 6, 1, 2, 3, 4, 5, 7, 8, 9, 10, 11, 12, 13, 14, 15, 16, 17, 18, 19, 20, 21, 22, 23, 24] (by decide) rfl
      generalize H1 = H at hP hS ⊢
      rcases hw with ⟨h_23, h_24, h_25⟩ | h_26 | ⟨h_27, h_28, h_29⟩ | ⟨h_30, h_31, h_32⟩
      · rw [h_23]
        refine lv_goto (tgt := 34) hx hb dX11_pull_29 rfl ?_
        have hK9 := hK.sub (tys' := []) [] rfl
        exact W.iret (v := 0) hx hb hr (fun t ht hW => ⟨⟨0, (w_18, w_19, w_20, w_21, w_22), rfl, (Or.inr (Or.inl ⟨rfl, h_5, h_13, h_24, h_25, h_6, h_14⟩)), by rw [ht]; exact hP, va_K.moved hW.alike hK9, hD⟩, hS.F ht⟩) hS.2.2 dX11_pull_34
      · refine lv_goto (tgt := 34) hx hb dX11_pull_29 rfl ?_
        have hK9 := hK.sub (tys' := []) [] rfl
        exact W.iret (v := r_17) hx hb hr (fun t ht hW => ⟨⟨r_17, (w_18, w_19, w_20, w_21, w_22), rfl, (Or.inr (Or.inr (Or.inl ⟨h_26, h_5, h_13, h_6, h_14⟩))), by rw [ht]; exact hP, va_K.moved hW.alike hK9, hD⟩, hS.F ht⟩) hS.2.2 dX11_pull_34
      · rw [h_27]
        refine lv_goto (tgt := 34) hx hb dX11_pull_29 rfl ?_
        have hK9 := hK.sub (tys' := []) [] rfl
        exact W.iret (v := (-99)) hx hb hr (fun t ht hW => ⟨⟨(-99), (w_18, w_19, w_20, w_21, w_22), rfl, (Or.inr (Or.inr (Or.inr (Or.inl ⟨rfl, h_5, h_13, h_28, h_29, h_6, h_14⟩)))), by rw [ht]; exact hP, va_K.moved hW.alike hK9, hD⟩, hS.F ht⟩) hS.2.2 dX11_pull_34
      · rw [h_30]
        refine lv_goto (tgt := 34) hx hb dX11_pull_29 rfl ?_
        have hK9 := hK.sub (tys' := []) [] rfl
        exact W.iret (v := 99) hx hb hr (fun t ht hW => ⟨⟨99, (w_18, w_19, w_20, w_21, w_22), rfl, (Or.inr (Or.inr (Or.inr (Or.inr ⟨rfl, h_5, h_13, h_31, h_32, h_6, h_14⟩)))), by rw [ht]; exact hP, va_K.moved hW.alike hK9, hD⟩, hS.F ht⟩) hS.2.2 dX11_pull_34
def wd_c_X11_push (a0 : Nat) (a1 : Nat) (a2 : Nat) (a3 : Nat) (a4 : Nat) (a5 : Nat) (a6 : Int32) (a7 : Nat) (a8 : Nat) (a9 : Nat) (a10 : Nat) (a11 : Nat) (a12 : Nat) (a13 : Nat) (a14 : Nat) (a15 : Nat) (a16 : Int64) (a17 : Nat) (a18 : Nat) (a19 : Int32) (a20 : Int32) (a21 : Int32) (a22 : Nat) (a23 : Int32) (a24 : Int32) (a25 : Int32) (a26 : Int32) (a27 : Nat) (a28 : Nat) (a29 : Nat) (a30 : Nat) (a31 : Nat) (a32 : Nat) (a33 : Nat) (a34 : Nat) (a35 : Nat) (a36 : Nat) (a37 : ClassId) (a38 : Nat → Int32) (a39 : Nat) (a40 : Nat) (a41 : Nat) (a42 : Nat) (a43 : Nat) (a44 : Nat) (a45 : Nat) (a46 : Nat) (a47 : ClassId) (a48 : Nat → Int32) (a49 : Nat) (a50 : ClassId) (a51 : Nat → Int32) : va_W := [(a0, .inr (11, [.ref a1, .ref a2, .ref a3, .ref a4, .ref a5, .int a6, .ref a7, .ref a8, .ref a9, .ref a10, .ref a11, .ref a12, .ref a13, .ref a14, .ref a15, .long a16])), (a17, .inr (0, [.ref a18, .int a19, .int a20, .int a21])), (a22, .inr (7, [.int a23, .int a24, .int a25, .int a26, .ref a27, .ref a28, .ref a29, .ref a30, .ref a31, .ref a32, .ref a33, .ref a34, .ref a35])), (a36, .inl (a37, 3, .inl a38)), (a39, .inr (10, [.ref a40, .ref a41, .ref a42, .ref a43, .ref a44, .ref a45])), (a46, .inl (a47, 80, .inl a48)), (a49, .inl (a50, 3, .inl a51))]
def wf_c_X11_push : List Cond := .code yX11_push cX11_push 3 (some .int) :: ([.methodLink RX11 163 yX11_isBuoy, .instanceMethod yX11_isBuoy, .selects RX11 yX11_isBuoy yX11_isBuoy, .initialized RX11, .code yX11_isBuoy cX11_isBuoy 2 (some .boolean), .fieldLink RX11 19 "BuoyVote" "told" "LBuoyVote$Borough;", .fieldLink RX11 275 "BuoyVote$Borough" "buoys" "I", .constant RX11 228 (-1000000), .methodLink RX11 191 yX11_isBoat, .instanceMethod yX11_isBoat, .selects RX11 yX11_isBoat yX11_isBoat, .code yX11_isBoat cX11_isBoat 2 (some .boolean), .fieldLink RX11 272 "BuoyVote$Borough" "boats" "I", .fieldLink RX11 45 "BuoyVote" "waters" "LBuoyVote$Waters;", .fieldLink RX11 52 "BuoyVote" "now" "LBuoyVote$Sea;", .methodLink RX11 229 yX10_pushOf, .instanceMethod yX10_pushOf, .selects RX10 yX10_pushOf yX10_pushOf, .initialized RX10, .code yX10_pushOf cX10_pushOf 10 (some .int), .fieldLink RX10 38 "BuoyVote$Sea" "x" "[I", .fieldLink RX10 9 "BuoyVote$Waters" "told" "LBuoyVote$Borough;", .methodLink RX10 43 yX0_buoyX, .instanceMethod yX0_buoyX, .selects RX0 yX0_buoyX yX0_buoyX, .initialized RX0, .code yX0_buoyX cX0_buoyX 2 (some .int), .fieldLink RX0 11 "BuoyVote$Borough" "values" "[I", .fieldLink RX10 47 "BuoyVote$Sea" "y" "[I", .methodLink RX10 50 yX0_buoyY, .instanceMethod yX0_buoyY, .selects RX0 yX0_buoyY yX0_buoyY, .code yX0_buoyY cX0_buoyY 2 (some .int), .fieldLink RX10 53 "BuoyVote$Sea" "way" "I", .fieldLink RX10 57 "BuoyVote$Sea" "wind" "I", .fieldLink RX10 60 "BuoyVote$Sea" "hour" "I", .methodLink RX10 63 yX10_isRising, .instanceMethod yX10_isRising, .selects RX10 yX10_isRising yX10_isRising, .code yX10_isRising cX10_isRising 3 (some .boolean), .methodLink RX10 32 yX0_tideHours, .instanceMethod yX0_tideHours, .selects RX0 yX0_tideHours yX0_tideHours, .code yX0_tideHours cX0_tideHours 1 (some .int)] ++ wsX110 ++ wsX00 ++ wsX70 ++ wsX100)
theorem iw_c_X11_push_X11 : ∀ w ∈ wsX110, w ∈ wf_c_X11_push := fun w h => List.mem_cons_of_mem _ (List.mem_append_left _ (List.mem_append_left _ (List.mem_append_left _ (List.mem_append_right _ h))))
theorem iw_c_X11_push_X0 : ∀ w ∈ wsX00, w ∈ wf_c_X11_push := fun w h => List.mem_cons_of_mem _ (List.mem_append_left _ (List.mem_append_left _ (List.mem_append_right _ h)))
theorem iw_c_X11_push_X7 : ∀ w ∈ wsX70, w ∈ wf_c_X11_push := fun w h => List.mem_cons_of_mem _ (List.mem_append_left _ (List.mem_append_right _ h))
theorem iw_c_X11_push_X10 : ∀ w ∈ wsX100, w ∈ wf_c_X11_push := fun w h => List.mem_cons_of_mem _ (List.mem_append_right _ h)
set_option maxRecDepth 20000 in
theorem gf_c_X11_push_c_X11_isBuoy : GoodIn wf_c_X11_push (wsV RX11 163 RX11 yX11_isBuoy wf_c_X11_isBuoy) := goodIn_app (gi_cons (j := 1) rfl rfl (gi_cons (j := 2) rfl rfl (gi_cons (j := 3) rfl rfl (gi_cons (j := 4) rfl rfl (gi_nil))))) (gi_cons (j := 5) rfl rfl (goodIn_app (goodIn_app (gi_cons (j := 6) rfl rfl (gi_cons (j := 7) rfl rfl (gi_nil))) (goodIn_sub iw_c_X11_push_X11 gw_X11)) (goodIn_sub iw_c_X11_push_X0 gw_X0)))
set_option maxRecDepth 20000 in
theorem gf_c_X11_push_c_X11_isBoat : GoodIn wf_c_X11_push (wsV RX11 191 RX11 yX11_isBoat wf_c_X11_isBoat) := goodIn_app (gi_cons (j := 9) rfl rfl (gi_cons (j := 10) rfl rfl (gi_cons (j := 11) rfl rfl (gi_cons (j := 4) rfl rfl (gi_nil))))) (gi_cons (j := 12) rfl rfl (goodIn_app (goodIn_app (gi_cons (j := 6) rfl rfl (gi_cons (j := 13) rfl rfl (gi_nil))) (goodIn_sub iw_c_X11_push_X11 gw_X11)) (goodIn_sub iw_c_X11_push_X0 gw_X0)))
set_option maxRecDepth 20000 in
theorem gf_c_X11_push_c_X10_pushOf : GoodIn wf_c_X11_push (wsV RX11 229 RX10 yX10_pushOf wf_c_X10_pushOf) := goodIn_app (gi_cons (j := 16) rfl rfl (gi_cons (j := 17) rfl rfl (gi_cons (j := 18) rfl rfl (gi_cons (j := 19) rfl rfl (gi_nil))))) (gi_cons (j := 20) rfl rfl (goodIn_app (goodIn_app (goodIn_app (gi_cons (j := 21) rfl rfl (gi_cons (j := 22) rfl rfl (gi_cons (j := 23) rfl rfl (gi_cons (j := 24) rfl rfl (gi_cons (j := 25) rfl rfl (gi_cons (j := 26) rfl rfl (gi_cons (j := 27) rfl rfl (gi_cons (j := 28) rfl rfl (gi_cons (j := 29) rfl rfl (gi_cons (j := 30) rfl rfl (gi_cons (j := 31) rfl rfl (gi_cons (j := 32) rfl rfl (gi_cons (j := 33) rfl rfl (gi_cons (j := 34) rfl rfl (gi_cons (j := 35) rfl rfl (gi_cons (j := 36) rfl rfl (gi_cons (j := 37) rfl rfl (gi_cons (j := 38) rfl rfl (gi_cons (j := 39) rfl rfl (gi_cons (j := 19) rfl rfl (gi_cons (j := 40) rfl rfl (gi_cons (j := 41) rfl rfl (gi_cons (j := 42) rfl rfl (gi_cons (j := 43) rfl rfl (gi_cons (j := 44) rfl rfl (gi_nil)))))))))))))))))))))))))) (goodIn_sub iw_c_X11_push_X7 gw_X7)) (goodIn_sub iw_c_X11_push_X10 gw_X10)) (goodIn_sub iw_c_X11_push_X0 gw_X0)))
set_option maxHeartbeats 4000000 in
set_option maxRecDepth 100000 in
theorem c_X11_push (l : Launch) (dC : Nat → ClassId) (dI : Nat → Nat → Nat) (sz : Nat) (h0 : Nat) (p1 : Int32) (p2 : Int32) (h0_0 : Nat) (h0_1 : Nat) (h0_2 : Nat) (h0_3 : Nat) (h0_4 : Nat) (h0_f5 : Int32) (h0_6 : Nat) (h0_7 : Nat) (h0_8 : Nat) (h0_9 : Nat) (h0_10 : Nat) (h0_11 : Nat) (h0_12 : Nat) (h0_13 : Nat) (h0_14 : Nat) (h0_f15 : Int64) (h0_1_0 : Nat) (h0_1_f1 : Int32) (h0_1_f2 : Int32) (h0_1_f3 : Int32) (h0_7_f0 : Int32) (h0_7_f1 : Int32) (h0_7_f2 : Int32) (h0_7_f3 : Int32) (h0_7_4 : Nat) (h0_7_5 : Nat) (h0_7_6 : Nat) (h0_7_7 : Nat) (h0_7_8 : Nat) (h0_7_9 : Nat) (h0_7_10 : Nat) (h0_7_11 : Nat) (h0_7_12 : Nat) (h0_7_4k : ClassId) (h0_7_4c : Nat → Int32) (h0_6_2 : Nat) (h0_6_3 : Nat) (h0_6_4 : Nat) (h0_6_5 : Nat) (h0_1_0k : ClassId) (h0_1_0c : Nat → Int32) (h0_7_5k : ClassId) (h0_7_5c : Nat → Int32) (g_h0_f5 : RG h0_f5 0 4) (g_h0_1_f1 : RG h0_1_f1 0 8) (g_h0_1_f2 : RG h0_1_f2 0 3) (g_h0_1_f3 : RG h0_1_f3 0 1) (g_h0_7_f2 : RG h0_7_f2 0 9999) (g_h0_7_f3 : RG h0_7_f3 0 9999) (a_h0_1_0c : AI h0_1_0c (-1) 99) : Met l yX11_push wf_c_X11_push ({ frames := 3, cells := 0, slots := 0, locals := 71 }) (va_Pc [.ref h0, .int p1, .int p2] (fun U => U.heap.size = sz ∧ va_P (dC, dI) vwCl (wd_c_X11_push h0 h0_0 h0_1 h0_2 h0_3 h0_4 h0_f5 h0_6 h0_7 h0_8 h0_9 h0_10 h0_11 h0_12 h0_13 h0_14 h0_f15 h0_1 h0_1_0 h0_1_f1 h0_1_f2 h0_1_f3 h0_7 h0_7_f0 h0_7_f1 h0_7_f2 h0_7_f3 h0_7_4 h0_7_5 h0_7_6 h0_7_7 h0_7_8 h0_7_9 h0_7_10 h0_7_11 h0_7_12 h0_7_4 h0_7_4k h0_7_4c h0_6 h0_1 h0_3 h0_6_2 h0_6_3 h0_6_4 h0_6_5 h0_1_0 h0_1_0k h0_1_0c h0_7_5 h0_7_5k h0_7_5c) U.heap ∧ va_K (dC, dI) vwCl [(h0_7_4k, .int), (h0_1_0k, .int), (h0_7_5k, .int)] U ∧ va_D (fun _ => True) (wd_c_X11_push h0 h0_0 h0_1 h0_2 h0_3 h0_4 h0_f5 h0_6 h0_7 h0_8 h0_9 h0_10 h0_11 h0_12 h0_13 h0_14 h0_f15 h0_1 h0_1_0 h0_1_f1 h0_1_f2 h0_1_f3 h0_7 h0_7_f0 h0_7_f1 h0_7_f2 h0_7_f3 h0_7_4 h0_7_5 h0_7_6 h0_7_7 h0_7_8 h0_7_9 h0_7_10 h0_7_11 h0_7_12 h0_7_4 h0_7_4k h0_7_4c h0_6 h0_1 h0_3 h0_6_2 h0_6_3 h0_6_4 h0_6_5 h0_1_0 h0_1_0k h0_1_0c h0_7_5 h0_7_5k h0_7_5c))) (va_Qi (fun (r : Int32) (u : Unit) => (r = (-1000000)) ∨ (RG r (-2147483648) 2147483647 ∧ RG h0_1_f1 1 8 ∧ RG h0_1_f2 1 3 ∧ RG p1 0 7 ∧ RG p2 0 2)) (fun (u : Unit) t => va_P (dC, dI) vwCl (wd_c_X11_push h0 h0_0 h0_1 h0_2 h0_3 h0_4 h0_f5 h0_6 h0_7 h0_8 h0_9 h0_10 h0_11 h0_12 h0_13 h0_14 h0_f15 h0_1 h0_1_0 h0_1_f1 h0_1_f2 h0_1_f3 h0_7 h0_7_f0 h0_7_f1 h0_7_f2 h0_7_f3 h0_7_4 h0_7_5 h0_7_6 h0_7_7 h0_7_8 h0_7_9 h0_7_10 h0_7_11 h0_7_12 h0_7_4 h0_7_4k h0_7_4c h0_6 h0_1 h0_3 h0_6_2 h0_6_3 h0_6_4 h0_6_5 h0_1_0 h0_1_0k h0_1_0c h0_7_5 h0_7_5k h0_7_5c) t.heap ∧ va_K (dC, dI) vwCl [] t ∧ va_D (va_A (wd_c_X11_push h0 h0_0 h0_1 h0_2 h0_3 h0_4 h0_f5 h0_6 h0_7 h0_8 h0_9 h0_10 h0_11 h0_12 h0_13 h0_14 h0_f15 h0_1 h0_1_0 h0_1_f1 h0_1_f2 h0_1_f3 h0_7 h0_7_f0 h0_7_f1 h0_7_f2 h0_7_f3 h0_7_4 h0_7_5 h0_7_6 h0_7_7 h0_7_8 h0_7_9 h0_7_10 h0_7_11 h0_7_12 h0_7_4 h0_7_4k h0_7_4c h0_6 h0_1 h0_3 h0_6_2 h0_6_3 h0_6_4 h0_6_5 h0_1_0 h0_1_0k h0_1_0c h0_7_5 h0_7_5k h0_7_5c) sz) (wd_c_X11_push h0 h0_0 h0_1 h0_2 h0_3 h0_4 h0_f5 h0_6 h0_7 h0_8 h0_9 h0_10 h0_11 h0_12 h0_13 h0_14 h0_f15 h0_1 h0_1_0 h0_1_f1 h0_1_f2 h0_1_f3 h0_7 h0_7_f0 h0_7_f1 h0_7_f2 h0_7_f3 h0_7_4 h0_7_5 h0_7_6 h0_7_7 h0_7_8 h0_7_9 h0_7_10 h0_7_11 h0_7_12 h0_7_4 h0_7_4k h0_7_4c h0_6 h0_1 h0_3 h0_6_2 h0_6_3 h0_6_4 h0_6_5 h0_1_0 h0_1_0k h0_1_0c h0_7_5 h0_7_5k h0_7_5c)) (va_A (wd_c_X11_push h0 h0_0 h0_1 h0_2 h0_3 h0_4 h0_f5 h0_6 h0_7 h0_8 h0_9 h0_10 h0_11 h0_12 h0_13 h0_14 h0_f15 h0_1 h0_1_0 h0_1_f1 h0_1_f2 h0_1_f3 h0_7 h0_7_f0 h0_7_f1 h0_7_f2 h0_7_f3 h0_7_4 h0_7_5 h0_7_6 h0_7_7 h0_7_8 h0_7_9 h0_7_10 h0_7_11 h0_7_12 h0_7_4 h0_7_4k h0_7_4c h0_6 h0_1 h0_3 h0_6_2 h0_6_3 h0_6_4 h0_6_5 h0_1_0 h0_1_0k h0_1_0c h0_7_5 h0_7_5k h0_7_5c) sz)) 0 0 (va_A (wd_c_X11_push h0 h0_0 h0_1 h0_2 h0_3 h0_4 h0_f5 h0_6 h0_7 h0_8 h0_9 h0_10 h0_11 h0_12 h0_13 h0_14 h0_f15 h0_1 h0_1_0 h0_1_f1 h0_1_f2 h0_1_f3 h0_7 h0_7_f0 h0_7_f1 h0_7_f2 h0_7_f3 h0_7_4 h0_7_5 h0_7_6 h0_7_7 h0_7_8 h0_7_9 h0_7_10 h0_7_11 h0_7_12 h0_7_4 h0_7_4k h0_7_4c h0_6 h0_1 h0_3 h0_6_2 h0_6_3 h0_6_4 h0_6_5 h0_1_0 h0_1_0k h0_1_0c h0_7_5 h0_7_5k h0_7_5c) sz) := by
  refine Met.ofW (cc := cX11_push) (maxL := 3) (ret := (some .int)) (by decide) rfl ?_
  intro p e s m args below meth c s₁ B hml hv
  obtain ⟨rfl, hsz, hP, hK, hD0⟩ := hv
  have hx := B.exec
  have hb := B.bytes
  have hr := B.returns
  have hts := atoms_spec (ws := wf_c_X11_push) B.pre
  have hown : s.vm.findClass RX11 = some m.cls := findClass_of_methodNamed B.named
  have hlocks := B.notSynchronized
  subst hsz
  have hD := hD0.self (sz := s.heap.size)
  generalize hAe : va_A (wd_c_X11_push h0 h0_0 h0_1 h0_2 h0_3 h0_4 h0_f5 h0_6 h0_7 h0_8 h0_9 h0_10 h0_11 h0_12 h0_13 h0_14 h0_f15 h0_1 h0_1_0 h0_1_f1 h0_1_f2 h0_1_f3 h0_7 h0_7_f0 h0_7_f1 h0_7_f2 h0_7_f3 h0_7_4 h0_7_5 h0_7_6 h0_7_7 h0_7_8 h0_7_9 h0_7_10 h0_7_11 h0_7_12 h0_7_4 h0_7_4k h0_7_4c h0_6 h0_1 h0_3 h0_6_2 h0_6_3 h0_6_4 h0_6_5 h0_1_0 h0_1_0k h0_1_0c h0_7_5 h0_7_5k h0_7_5c) s.heap.size = A at hD ⊢
  have hA : ∀ q : Nat, s.heap.size ≤ q → A q := fun q h => by rw [← hAe]; exact Or.inr h
  have hP : va_P (dC, dI) vwCl (wd_c_X11_push h0 h0_0 h0_1 h0_2 h0_3 h0_4 h0_f5 h0_6 h0_7 h0_8 h0_9 h0_10 h0_11 h0_12 h0_13 h0_14 h0_f15 h0_1 h0_1_0 h0_1_f1 h0_1_f2 h0_1_f3 h0_7 h0_7_f0 h0_7_f1 h0_7_f2 h0_7_f3 h0_7_4 h0_7_5 h0_7_6 h0_7_7 h0_7_8 h0_7_9 h0_7_10 h0_7_11 h0_7_12 h0_7_4 h0_7_4k h0_7_4c h0_6 h0_1 h0_3 h0_6_2 h0_6_3 h0_6_4 h0_6_5 h0_1_0 h0_1_0k h0_1_0c h0_7_5 h0_7_5k h0_7_5c) s.heap := hP
  have hl := lv_entry ([.ref h0, .int p1, .int p2]) (n := 3) (Nat.le_of_ble_eq_true rfl)
  rw [lg_entry_eq]
  generalize (lg_sl ([.ref h0, .int p1, .int p2]) ++ List.replicate (3 - (lg_sl ([.ref h0, .int p1, .int p2])).length) Slot.unset).toArray = ls at hl ⊢
  have hl : lv_has ls 3 [(0, .ref h0), (1, .int p1), (2, .int p2)] := hl
  obtain ⟨H, hHe⟩ : ∃ H : Heap, s.heap = H := ⟨_, rfl⟩
  have hS : va_S A s.heap H [] := by rw [hHe]; exact va_S.rf
  have hP : va_P (dC, dI) vwCl (wd_c_X11_push h0 h0_0 h0_1 h0_2 h0_3 h0_4 h0_f5 h0_6 h0_7 h0_8 h0_9 h0_10 h0_11 h0_12 h0_13 h0_14 h0_f15 h0_1 h0_1_0 h0_1_f1 h0_1_f2 h0_1_f3 h0_7 h0_7_f0 h0_7_f1 h0_7_f2 h0_7_f3 h0_7_4 h0_7_5 h0_7_6 h0_7_7 h0_7_8 h0_7_9 h0_7_10 h0_7_11 h0_7_12 h0_7_4 h0_7_4k h0_7_4c h0_6 h0_1 h0_3 h0_6_2 h0_6_3 h0_6_4 h0_6_5 h0_1_0 h0_1_0k h0_1_0c h0_7_5 h0_7_5k h0_7_5c) H := by rw [← hHe]; exact hP
  rw [hHe]
  refine lv_aload_n hx hb dX11_push_0 rfl (lv_at hl 0 rfl) ?_
  refine lv_iload_n hx hb dX11_push_1 rfl (lv_at hl 1 rfl) ?_
  have hPc := hP.sub (ws' := (wd_c_X11_isBuoy h0 h0_0 h0_1 h0_2 h0_3 h0_4 h0_f5 h0_6 h0_7 h0_8 h0_9 h0_10 h0_11 h0_12 h0_13 h0_14 h0_f15 h0_1 h0_1_0 h0_1_f1 h0_1_f2 h0_1_f3)) [0, 1] rfl
  have hDc := hD.sub (ws' := (wd_c_X11_isBuoy h0 h0_0 h0_1 h0_2 h0_3 h0_4 h0_f5 h0_6 h0_7 h0_8 h0_9 h0_10 h0_11 h0_12 h0_13 h0_14 h0_f15 h0_1 h0_1_0 h0_1_f1 h0_1_f2 h0_1_f3)) [0, 1] (by decide) rfl
  have hKc := hK.sub (tys' := []) [] rfl
  have hFc := va_free (wc := (wd_c_X11_isBuoy h0 h0_0 h0_1 h0_2 h0_3 h0_4 h0_f5 h0_6 h0_7 h0_8 h0_9 h0_10 h0_11 h0_12 h0_13 h0_14 h0_f15 h0_1 h0_1_0 h0_1_f1 h0_1_f2 h0_1_f3)) hD hS hA [0, 1] rfl
  refine va_calli (va_runV (As := [.int p1]) (rest := []) ⟨hx, hb, hml, hown, hts⟩ (c_X11_isBuoy l dC dI H.size h0 p1 h0_0 h0_1 h0_2 h0_3 h0_4 h0_f5 h0_6 h0_7 h0_8 h0_9 h0_10 h0_11 h0_12 h0_13 h0_14 h0_f15 h0_1_0 h0_1_f1 h0_1_f2 h0_1_f3 g_h0_f5 g_h0_1_f1 g_h0_1_f2 g_h0_1_f3) (cwV 1 hts gf_c_X11_push_c_X11_isBuoy rfl rfl rfl (by decide +kernel) ⟨Nat.le_of_ble_eq_true rfl, Nat.le_of_ble_eq_true rfl⟩) ⟨fun a U g mk q => by obtain ⟨q0, q1, qP, qK, qD⟩ := q; exact ⟨q0, q1, qP, va_K.moved (u := U) (U := U.calling g mk a) (Vm.Alike.refl U.vm) qK, qD⟩, va_recv hKc hPc (ci := 11) (q0 := 0) rfl rfl, fun U hU hW => ⟨rfl, by rw [hU], by rw [hU]; exact hPc, va_K.moved hW.alike hKc, hDc.weaken (fun _ _ _ _ => trivial)⟩⟩ rfl rfl hl.1 rfl (lv_room (Nat.le_of_ble_eq_true rfl)) dX11_push_2 ⟨Nat.le_of_ble_eq_true rfl, Nat.le_of_ble_eq_true rfl⟩) hS (fun q _ h => hFc q h) hFc (fun r_1 u t H1 locs ht hvm hw hB hz1 hk1 hS => ?_)
  obtain ⟨hP1, hK1, hD1⟩ := hB
  rw [ht] at hP1
  obtain ⟨hP, hD⟩ := va_join (wr := [(h0_7, .inr (7, [.int h0_7_f0, .int h0_7_f1, .int h0_7_f2, .int h0_7_f3, .ref h0_7_4, .ref h0_7_5, .ref h0_7_6, .ref h0_7_7, .ref h0_7_8, .ref h0_7_9, .ref h0_7_10, .ref h0_7_11, .ref h0_7_12])), (h0_7_4, .inl (h0_7_4k, 3, .inl h0_7_4c)), (h0_6, .inr (10, [.ref h0_1, .ref h0_3, .ref h0_6_2, .ref h0_6_3, .ref h0_6_4, .ref h0_6_5])), (h0_1_0, .inl (h0_1_0k, 80, .inl h0_1_0c)), (h0_7_5, .inl (h0_7_5k, 3, .inl h0_7_5c))]) (w1 := (wd_c_X11_isBuoy h0 h0_0 h0_1 h0_2 h0_3 h0_4 h0_f5 h0_6 h0_7 h0_8 h0_9 h0_10 h0_11 h0_12 h0_13 h0_14 h0_f15 h0_1 h0_1_0 h0_1_f1 h0_1_f2 h0_1_f3)) hP hD [0, 1] [2, 3, 4, 5, 6] rfl rfl (by decide) (by decide) hk1 hFc hP1 hD1
  have hP := hP.sub (ws' := (wd_c_X11_push h0 h0_0 h0_1 h0_2 h0_3 h0_4 h0_f5 h0_6 h0_7 h0_8 h0_9 h0_10 h0_11 h0_12 h0_13 h0_14 h0_f15 h0_1 h0_1_0 h0_1_f1 h0_1_f2 h0_1_f3 h0_7 h0_7_f0 h0_7_f1 h0_7_f2 h0_7_f3 h0_7_4 h0_7_5 h0_7_6 h0_7_7 h0_7_8 h0_7_9 h0_7_10 h0_7_11 h0_7_12 h0_7_4 h0_7_4k h0_7_4c h0_6 h0_1 h0_3 h0_6_2 h0_6_3 h0_6_4 h0_6_5 h0_1_0 h0_1_0k h0_1_0c h0_7_5 h0_7_5k h0_7_5c)) [5, 6, 0, 1, 2, 3, 4] rfl
  have hD := hD.sub (ws' := (wd_c_X11_push h0 h0_0 h0_1 h0_2 h0_3 h0_4 h0_f5 h0_6 h0_7 h0_8 h0_9 h0_10 h0_11 h0_12 h0_13 h0_14 h0_f15 h0_1 h0_1_0 h0_1_f1 h0_1_f2 h0_1_f3 h0_7 h0_7_f0 h0_7_f1 h0_7_f2 h0_7_f3 h0_7_4 h0_7_5 h0_7_6 h0_7_7 h0_7_8 h0_7_9 h0_7_10 h0_7_11 h0_7_12 h0_7_4 h0_7_4k h0_7_4c h0_6 h0_1 h0_3 h0_6_2 h0_6_3 h0_6_4 h0_6_5 h0_1_0 h0_1_0k h0_1_0c h0_7_5 h0_7_5k h0_7_5c)) [5, 6, 0, 1, 2, 3, 4] (by decide) rfl
  generalize H1 = H at hP hS ⊢
  rcases hw with ⟨h_2, h_3⟩ | ⟨h_4, h_5, h_6⟩
  · rw [h_2]
    refine lv_if_eq (tgt := 32) hx hb dX11_push_5 rfl (fun c_7 => ?_) (fun c_7 => absurd c_7 (by decide))
    refine lv_ldc hx hb hown (hts (.constant RX11 228 (-1000000)) (List.mem_of_getElem? (i := 8) rfl)) dX11_push_32 ?_
    have hK9 := hK.sub (tys' := []) [] rfl
    exact W.iret (v := (-1000000)) hx hb hr (fun t ht hW => ⟨⟨(-1000000), (), rfl, (Or.inl rfl), by rw [ht]; exact hP, va_K.moved hW.alike hK9, hD⟩, hS.F ht⟩) hS.2.2 dX11_push_34
  · rw [h_4]
    refine lv_if_eq (tgt := 32) hx hb dX11_push_5 rfl (fun c_8 => absurd c_8 (by decide)) (fun c_8 => ?_)
    refine lv_aload_n hx hb dX11_push_8 rfl (lv_at hl 0 rfl) ?_
    refine lv_iload_n hx hb dX11_push_9 rfl (lv_at hl 2 rfl) ?_
    have hPc := hP.sub (ws' := (wd_c_X11_isBoat h0 h0_0 h0_1 h0_2 h0_3 h0_4 h0_f5 h0_6 h0_7 h0_8 h0_9 h0_10 h0_11 h0_12 h0_13 h0_14 h0_f15 h0_1 h0_1_0 h0_1_f1 h0_1_f2 h0_1_f3)) [0, 1] rfl
    have hDc := hD.sub (ws' := (wd_c_X11_isBoat h0 h0_0 h0_1 h0_2 h0_3 h0_4 h0_f5 h0_6 h0_7 h0_8 h0_9 h0_10 h0_11 h0_12 h0_13 h0_14 h0_f15 h0_1 h0_1_0 h0_1_f1 h0_1_f2 h0_1_f3)) [0, 1] (by decide) rfl
    have hKc := hK.sub (tys' := []) [] rfl
    have hFc := va_free (wc := (wd_c_X11_isBoat h0 h0_0 h0_1 h0_2 h0_3 h0_4 h0_f5 h0_6 h0_7 h0_8 h0_9 h0_10 h0_11 h0_12 h0_13 h0_14 h0_f15 h0_1 h0_1_0 h0_1_f1 h0_1_f2 h0_1_f3)) hD hS hA [0, 1] rfl
    refine va_calli (va_runV (As := [.int p2]) (rest := []) ⟨hx, hb, hml, hown, hts⟩ (c_X11_isBoat l dC dI H.size h0 p2 h0_0 h0_1 h0_2 h0_3 h0_4 h0_f5 h0_6 h0_7 h0_8 h0_9 h0_10 h0_11 h0_12 h0_13 h0_14 h0_f15 h0_1_0 h0_1_f1 h0_1_f2 h0_1_f3 g_h0_f5 (RG_w h_5 (by decide)) g_h0_1_f2 g_h0_1_f3) (cwV 1 hts gf_c_X11_push_c_X11_isBoat rfl rfl rfl (by decide +kernel) ⟨Nat.le_of_ble_eq_true rfl, Nat.le_of_ble_eq_true rfl⟩) ⟨fun a U g mk q => by obtain ⟨q0, q1, qP, qK, qD⟩ := q; exact ⟨q0, q1, qP, va_K.moved (u := U) (U := U.calling g mk a) (Vm.Alike.refl U.vm) qK, qD⟩, va_recv hKc hPc (ci := 11) (q0 := 0) rfl rfl, fun U hU hW => ⟨rfl, by rw [hU], by rw [hU]; exact hPc, va_K.moved hW.alike hKc, hDc.weaken (fun _ _ _ _ => trivial)⟩⟩ rfl rfl hl.1 rfl (lv_room (Nat.le_of_ble_eq_true rfl)) dX11_push_10 ⟨Nat.le_of_ble_eq_true rfl, Nat.le_of_ble_eq_true rfl⟩) hS (fun q _ h => hFc q h) hFc (fun r_9 u t H1 locs ht hvm hw hB hz1 hk1 hS => ?_)
    obtain ⟨hP1, hK1, hD1⟩ := hB
    rw [ht] at hP1
    obtain ⟨hP, hD⟩ := va_join (wr := [(h0_7, .inr (7, [.int h0_7_f0, .int h0_7_f1, .int h0_7_f2, .int h0_7_f3, .ref h0_7_4, .ref h0_7_5, .ref h0_7_6, .ref h0_7_7, .ref h0_7_8, .ref h0_7_9, .ref h0_7_10, .ref h0_7_11, .ref h0_7_12])), (h0_7_4, .inl (h0_7_4k, 3, .inl h0_7_4c)), (h0_6, .inr (10, [.ref h0_1, .ref h0_3, .ref h0_6_2, .ref h0_6_3, .ref h0_6_4, .ref h0_6_5])), (h0_1_0, .inl (h0_1_0k, 80, .inl h0_1_0c)), (h0_7_5, .inl (h0_7_5k, 3, .inl h0_7_5c))]) (w1 := (wd_c_X11_isBoat h0 h0_0 h0_1 h0_2 h0_3 h0_4 h0_f5 h0_6 h0_7 h0_8 h0_9 h0_10 h0_11 h0_12 h0_13 h0_14 h0_f15 h0_1 h0_1_0 h0_1_f1 h0_1_f2 h0_1_f3)) hP hD [0, 1] [2, 3, 4, 5, 6] rfl rfl (by decide) (by decide) hk1 hFc hP1 hD1
    have hP := hP.sub (ws' := (wd_c_X11_push h0 h0_0 h0_1 h0_2 h0_3 h0_4 h0_f5 h0_6 h0_7 h0_8 h0_9 h0_10 h0_11 h0_12 h0_13 h0_14 h0_f15 h0_1 h0_1_0 h0_1_f1 h0_1_f2 h0_1_f3 h0_7 h0_7_f0 h0_7_f1 h0_7_f2 h0_7_f3 h0_7_4 h0_7_5 h0_7_6 h0_7_7 h0_7_8 h0_7_9 h0_7_10 h0_7_11 h0_7_12 h0_7_4 h0_7_4k h0_7_4c h0_6 h0_1 h0_3 h0_6_2 h0_6_3 h0_6_4 h0_6_5 h0_1_0 h0_1_0k h0_1_0c h0_7_5 h0_7_5k h0_7_5c)) [5, 6, 0, 1, 2, 3, 4] rfl
    have hD := hD.sub (ws' := (wd_c_X11_push h0 h0_0 h0_1 h0_2 h0_3 h0_4 h0_f5 h0_6 h0_7 h0_8 h0_9 h0_10 h0_11 h0_12 h0_13 h0_14 h0_f15 h0_1 h0_1_0 h0_1_f1 h0_1_f2 h0_1_f3 h0_7 h0_7_f0 h0_7_f1 h0_7_f2 h0_7_f3 h0_7_4 h0_7_5 h0_7_6 h0_7_7 h0_7_8 h0_7_9 h0_7_10 h0_7_11 h0_7_12 h0_7_4 h0_7_4k h0_7_4c h0_6 h0_1 h0_3 h0_6_2 h0_6_3 h0_6_4 h0_6_5 h0_1_0 h0_1_0k h0_1_0c h0_7_5 h0_7_5k h0_7_5c)) [5, 6, 0, 1, 2, 3, 4] (by decide) rfl
    generalize H1 = H at hP hS ⊢
    rcases hw with ⟨h_10, h_11⟩ | ⟨h_12, h_13, h_14⟩
    · rw [h_10]
      refine lv_if_eq (tgt := 32) hx hb dX11_push_13 rfl (fun c_15 => ?_) (fun c_15 => absurd c_15 (by decide))
      refine lv_ldc hx hb hown (hts (.constant RX11 228 (-1000000)) (List.mem_of_getElem? (i := 8) rfl)) dX11_push_32 ?_
      have hK9 := hK.sub (tys' := []) [] rfl
      exact W.iret (v := (-1000000)) hx hb hr (fun t ht hW => ⟨⟨(-1000000), (), rfl, (Or.inl rfl), by rw [ht]; exact hP, va_K.moved hW.alike hK9, hD⟩, hS.F ht⟩) hS.2.2 dX11_push_34
    · rw [h_12]
      refine lv_if_eq (tgt := 32) hx hb dX11_push_13 rfl (fun c_16 => absurd c_16 (by decide)) (fun c_16 => ?_)
      refine lv_aload_n hx hb dX11_push_16 rfl (lv_at hl 0 rfl) ?_
      refine va_get (D := (dC, dI)) (ci := 11) (v := .ref h0_6) (C := RX11) (T := TX11) (N := 16) hx hb hts iw_c_X11_push_X11 hown hK hP 0 rfl rfl 6 (by decide) (hts (.fieldLink RX11 45 "BuoyVote" "waters" "LBuoyVote$Waters;") (List.mem_of_getElem? (i := 14) rfl)) (fun _ h9 => h9) rfl dX11_push_17 ?_
      refine lv_aload_n hx hb dX11_push_20 rfl (lv_at hl 0 rfl) ?_
      refine va_get (D := (dC, dI)) (ci := 11) (v := .ref h0_7) (C := RX11) (T := TX11) (N := 16) hx hb hts iw_c_X11_push_X11 hown hK hP 0 rfl rfl 7 (by decide) (hts (.fieldLink RX11 52 "BuoyVote" "now" "LBuoyVote$Sea;") (List.mem_of_getElem? (i := 15) rfl)) (fun _ h9 => h9) rfl dX11_push_21 ?_
      refine lv_iload_n hx hb dX11_push_24 rfl (lv_at hl 1 rfl) ?_
      refine lv_iload_n hx hb dX11_push_25 rfl (lv_at hl 2 rfl) ?_
      have hPc := hP.sub (ws' := (wd_c_X10_pushOf h0_7 h0_7_f0 h0_7_f1 h0_7_f2 h0_7_f3 h0_7_4 h0_7_5 h0_7_6 h0_7_7 h0_7_8 h0_7_9 h0_7_10 h0_7_11 h0_7_12 h0_7_4 h0_7_4k h0_7_4c h0_6 h0_1 h0_3 h0_6_2 h0_6_3 h0_6_4 h0_6_5 h0_1 h0_1_0 h0_1_f1 h0_1_f2 h0_1_f3 h0_1_0 h0_1_0k h0_1_0c h0_7_5 h0_7_5k h0_7_5c)) [2, 3, 4, 1, 5, 6] rfl
      have hDc := hD.sub (ws' := (wd_c_X10_pushOf h0_7 h0_7_f0 h0_7_f1 h0_7_f2 h0_7_f3 h0_7_4 h0_7_5 h0_7_6 h0_7_7 h0_7_8 h0_7_9 h0_7_10 h0_7_11 h0_7_12 h0_7_4 h0_7_4k h0_7_4c h0_6 h0_1 h0_3 h0_6_2 h0_6_3 h0_6_4 h0_6_5 h0_1 h0_1_0 h0_1_f1 h0_1_f2 h0_1_f3 h0_1_0 h0_1_0k h0_1_0c h0_7_5 h0_7_5k h0_7_5c)) [2, 3, 4, 1, 5, 6] (by decide) rfl
      have hKc := hK.sub (tys' := [(h0_7_4k, .int), (h0_1_0k, .int), (h0_7_5k, .int)]) [0, 1, 2] rfl
      have hFc := va_free (wc := (wd_c_X10_pushOf h0_7 h0_7_f0 h0_7_f1 h0_7_f2 h0_7_f3 h0_7_4 h0_7_5 h0_7_6 h0_7_7 h0_7_8 h0_7_9 h0_7_10 h0_7_11 h0_7_12 h0_7_4 h0_7_4k h0_7_4c h0_6 h0_1 h0_3 h0_6_2 h0_6_3 h0_6_4 h0_6_5 h0_1 h0_1_0 h0_1_f1 h0_1_f2 h0_1_f3 h0_1_0 h0_1_0k h0_1_0c h0_7_5 h0_7_5k h0_7_5c)) hD hS hA [2, 3, 4, 1, 5, 6] rfl
      refine va_calli (va_runV (As := [.ref h0_7, .int p1, .int p2]) (rest := []) ⟨hx, hb, hml, hown, hts⟩ (c_X10_pushOf l dC dI H.size h0_6 h0_7 p1 p2 h0_7_f0 h0_7_f1 h0_7_f2 h0_7_f3 h0_7_4 h0_7_5 h0_7_6 h0_7_7 h0_7_8 h0_7_9 h0_7_10 h0_7_11 h0_7_12 h0_7_4k h0_7_4c h0_1 h0_3 h0_6_2 h0_6_3 h0_6_4 h0_6_5 h0_1_0 h0_1_f1 h0_1_f2 h0_1_f3 h0_1_0k h0_1_0c h0_7_5k h0_7_5c h_6 h_14 (RG_w h_5 (by decide)) (RG_w h_13 (by decide)) g_h0_1_f3 a_h0_1_0c) (cwV 3 hts gf_c_X11_push_c_X10_pushOf rfl rfl rfl (by decide +kernel) ⟨Nat.le_of_ble_eq_true rfl, Nat.le_of_ble_eq_true rfl⟩) ⟨fun a U g mk q => by obtain ⟨q0, q1, qP, qK, qD⟩ := q; exact ⟨q0, q1, qP, va_K.moved (u := U) (U := U.calling g mk a) (Vm.Alike.refl U.vm) qK, qD⟩, va_recv hKc hPc (ci := 10) (q0 := 2) rfl rfl, fun U hU hW => ⟨rfl, by rw [hU], by rw [hU]; exact hPc, va_K.moved hW.alike hKc, hDc.weaken (fun _ _ _ _ => trivial)⟩⟩ rfl rfl hl.1 rfl (lv_room (Nat.le_of_ble_eq_true rfl)) dX11_push_26 ⟨Nat.le_of_ble_eq_true rfl, Nat.le_of_ble_eq_true rfl⟩) hS (fun q _ h => hFc q h) hFc (fun r_17 u t H1 locs ht hvm hw hB hz1 hk1 hS => ?_)
      obtain ⟨hP1, hK1, hD1⟩ := hB
      rw [ht] at hP1
      obtain ⟨hP, hD⟩ := va_join (wr := [(h0, .inr (11, [.ref h0_0, .ref h0_1, .ref h0_2, .ref h0_3, .ref h0_4, .int h0_f5, .ref h0_6, .ref h0_7, .ref h0_8, .ref h0_9, .ref h0_10, .ref h0_11, .ref h0_12, .ref h0_13, .ref h0_14, .long h0_f15]))]) (w1 := (wd_c_X10_pushOf h0_7 h0_7_f0 h0_7_f1 h0_7_f2 h0_7_f3 h0_7_4 h0_7_5 h0_7_6 h0_7_7 h0_7_8 h0_7_9 h0_7_10 h0_7_11 h0_7_12 h0_7_4 h0_7_4k h0_7_4c h0_6 h0_1 h0_3 h0_6_2 h0_6_3 h0_6_4 h0_6_5 h0_1 h0_1_0 h0_1_f1 h0_1_f2 h0_1_f3 h0_1_0 h0_1_0k h0_1_0c h0_7_5 h0_7_5k h0_7_5c)) hP hD [2, 3, 4, 1, 5, 6] [0] rfl rfl (by decide) (by decide) hk1 hFc hP1 hD1
      have hP := hP.sub (ws' := (wd_c_X11_push h0 h0_0 h0_1 h0_2 h0_3 h0_4 h0_f5 h0_6 h0_7 h0_8 h0_9 h0_10 h0_11 h0_12 h0_13 h0_14 h0_f15 h0_1 h0_1_0 h0_1_f1 h0_1_f2 h0_1_f3 h0_7 h0_7_f0 h0_7_f1 h0_7_f2 h0_7_f3 h0_7_4 h0_7_5 h0_7_6 h0_7_7 h0_7_8 h0_7_9 h0_7_10 h0_7_11 h0_7_12 h0_7_4 h0_7_4k h0_7_4c h0_6 h0_1 h0_3 h0_6_2 h0_6_3 h0_6_4 h0_6_5 h0_1_0 h0_1_0k h0_1_0c h0_7_5 h0_7_5k h0_7_5c)) [0, 4, 1, 2, 3, 5, 6] rfl
      have hD := hD.sub (ws' := (wd_c_X11_push h0 h0_0 h0_1 h0_2 h0_3 h0_4 h0_f5 h0_6 h0_7 h0_8 h0_9 h0_10 h0_11 h0_12 h0_13 h0_14 h0_f15 h0_1 h0_1_0 h0_1_f1 h0_1_f2 h0_1_f3 h0_7 h0_7_f0 h0_7_f1 h0_7_f2 h0_7_f3 h0_7_4 h0_7_5 h0_7_6 h0_7_7 h0_7_8 h0_7_9 h0_7_10 h0_7_11 h0_7_12 h0_7_4 h0_7_4k h0_7_4c h0_6 h0_1 h0_3 h0_6_2 h0_6_3 h0_6_4 h0_6_5 h0_1_0 h0_1_0k h0_1_0c h0_7_5 h0_7_5k h0_7_5c)) [0, 4, 1, 2, 3, 5, 6] (by decide) rfl
      generalize H1 = H at hP hS ⊢
      rcases hw with ⟨h_18, h_19⟩
      refine lv_goto (tgt := 34) hx hb dX11_push_29 rfl ?_
      have hK9 := hK.sub (tys' := []) [] rfl
      exact W.iret (v := r_17) hx hb hr (fun t ht hW => ⟨⟨r_17, (), rfl, (Or.inr ⟨h_18, h_5, h_13, h_6, h_14⟩), by rw [ht]; exact hP, va_K.moved hW.alike hK9, hD⟩, hS.F ht⟩) hS.2.2 dX11_push_34
def wd_c_X7_logLength_1 (a0 : Nat) (a1 : Int32) (a2 : Int32) (a3 : Int32) (a4 : Int32) (a5 : Nat) (a6 : Nat) (a7 : Nat) (a8 : Nat) (a9 : Nat) (a10 : Nat) (a11 : Nat) (a12 : Nat) (a13 : Nat) : va_W := [(a0, .inr (7, [.int a1, .int a2, .int a3, .int a4, .ref a5, .ref a6, .ref a7, .ref a8, .ref a9, .ref a10, .ref a11, .ref a12, .ref a13]))]
def wf_c_X7_logLength_1 : List Cond := .code yX7_logLength cX7_logLength 1 (some .int) :: ([.fieldLink RX7 58 "BuoyVote$Sea" "logged" "I", .methodLink RX7 94 Lib.Math.min.name, .static Lib.Math.min.name, .initialized "java/lang/Math", .code Lib.Math.min.name Lib.Math.min.code 2 (some .int)] ++ wsX70)
theorem iw_c_X7_logLength_1_X7 : ∀ w ∈ wsX70, w ∈ wf_c_X7_logLength_1 := fun w h => List.mem_cons_of_mem _ (List.mem_append_right _ h)
set_option maxHeartbeats 4000000 in
set_option maxRecDepth 100000 in
theorem c_X7_logLength_1 (l : Launch) (dC : Nat → ClassId) (dI : Nat → Nat → Nat) (sz : Nat) (h0 : Nat) (h0_f0 : Int32) (h0_f1 : Int32) (h0_f2 : Int32) (h0_f3 : Int32) (h0_4 : Nat) (h0_5 : Nat) (h0_6 : Nat) (h0_7 : Nat) (h0_8 : Nat) (h0_9 : Nat) (h0_10 : Nat) (h0_11 : Nat) (h0_12 : Nat) (g_h0_f3 : RG h0_f3 0 9999) : Met l yX7_logLength wf_c_X7_logLength_1 ({ frames := 1, cells := 0, slots := 0, locals := 13 }) (va_Pc [.ref h0] (fun U => U.heap.size = sz ∧ va_P (dC, dI) vwCl (wd_c_X7_logLength_1 h0 h0_f0 h0_f1 h0_f2 h0_f3 h0_4 h0_5 h0_6 h0_7 h0_8 h0_9 h0_10 h0_11 h0_12) U.heap ∧ va_K (dC, dI) vwCl [] U ∧ va_D (fun _ => True) (wd_c_X7_logLength_1 h0 h0_f0 h0_f1 h0_f2 h0_f3 h0_4 h0_5 h0_6 h0_7 h0_8 h0_9 h0_10 h0_11 h0_12))) (va_Qi (fun (r : Int32) (u : Unit) => (RG r 0 60 ∧ r.toInt ≤ h0_f3.toInt + 0)) (fun (u : Unit) t => va_P (dC, dI) vwCl (wd_c_X7_logLength_1 h0 h0_f0 h0_f1 h0_f2 h0_f3 h0_4 h0_5 h0_6 h0_7 h0_8 h0_9 h0_10 h0_11 h0_12) t.heap ∧ va_K (dC, dI) vwCl [] t ∧ va_D (va_A (wd_c_X7_logLength_1 h0 h0_f0 h0_f1 h0_f2 h0_f3 h0_4 h0_5 h0_6 h0_7 h0_8 h0_9 h0_10 h0_11 h0_12) sz) (wd_c_X7_logLength_1 h0 h0_f0 h0_f1 h0_f2 h0_f3 h0_4 h0_5 h0_6 h0_7 h0_8 h0_9 h0_10 h0_11 h0_12)) (va_A (wd_c_X7_logLength_1 h0 h0_f0 h0_f1 h0_f2 h0_f3 h0_4 h0_5 h0_6 h0_7 h0_8 h0_9 h0_10 h0_11 h0_12) sz)) 0 0 (va_A (wd_c_X7_logLength_1 h0 h0_f0 h0_f1 h0_f2 h0_f3 h0_4 h0_5 h0_6 h0_7 h0_8 h0_9 h0_10 h0_11 h0_12) sz) := by
  refine Met.ofW (cc := cX7_logLength) (maxL := 1) (ret := (some .int)) (by decide) rfl ?_
  intro p e s m args below meth c s₁ B hml hv
  obtain ⟨rfl, hsz, hP, hK, hD0⟩ := hv
  have hx := B.exec
  have hb := B.bytes
  have hr := B.returns
  have hts := atoms_spec (ws := wf_c_X7_logLength_1) B.pre
  have hown : s.vm.findClass RX7 = some m.cls := findClass_of_methodNamed B.named
  have hlocks := B.notSynchronized
  subst hsz
  have hD := hD0.self (sz := s.heap.size)
  generalize hAe : va_A (wd_c_X7_logLength_1 h0 h0_f0 h0_f1 h0_f2 h0_f3 h0_4 h0_5 h0_6 h0_7 h0_8 h0_9 h0_10 h0_11 h0_12) s.heap.size = A at hD ⊢
  have hA : ∀ q : Nat, s.heap.size ≤ q → A q := fun q h => by rw [← hAe]; exact Or.inr h
  have hP : va_P (dC, dI) vwCl (wd_c_X7_logLength_1 h0 h0_f0 h0_f1 h0_f2 h0_f3 h0_4 h0_5 h0_6 h0_7 h0_8 h0_9 h0_10 h0_11 h0_12) s.heap := hP
  have hl := lv_entry ([.ref h0]) (n := 1) (Nat.le_of_ble_eq_true rfl)
  rw [lg_entry_eq]
  generalize (lg_sl ([.ref h0]) ++ List.replicate (1 - (lg_sl ([.ref h0])).length) Slot.unset).toArray = ls at hl ⊢
  have hl : lv_has ls 1 [(0, .ref h0)] := hl
  obtain ⟨H, hHe⟩ : ∃ H : Heap, s.heap = H := ⟨_, rfl⟩
  have hS : va_S A s.heap H [] := by rw [hHe]; exact va_S.rf
  have hP : va_P (dC, dI) vwCl (wd_c_X7_logLength_1 h0 h0_f0 h0_f1 h0_f2 h0_f3 h0_4 h0_5 h0_6 h0_7 h0_8 h0_9 h0_10 h0_11 h0_12) H := by rw [← hHe]; exact hP
  rw [hHe]
  refine lv_aload_n hx hb dX7_logLength_0 rfl (lv_at hl 0 rfl) ?_
  refine va_get (D := (dC, dI)) (ci := 7) (v := .int h0_f3) (C := RX7) (T := TX7) (N := 13) hx hb hts iw_c_X7_logLength_1_X7 hown hK hP 0 rfl rfl 3 (by decide) (hts (.fieldLink RX7 58 "BuoyVote$Sea" "logged" "I") (List.mem_of_getElem? (i := 1) rfl)) (fun _ h9 => h9) rfl dX7_logLength_1 ?_
  refine lv_bipush (v := 60) hx hb dX7_logLength_4 kc_bipush_60 ?_
  refine va_mmin hx hb (by rw [hml]; exact hl.1.symm) hown (hts (.methodLink RX7 94 Lib.Math.min.name) (List.mem_of_getElem? (i := 2) rfl)) (hts (.static Lib.Math.min.name) (List.mem_of_getElem? (i := 3) rfl)) (hts (.initialized "java/lang/Math") (List.mem_of_getElem? (i := 4) rfl)) (hts (.code Lib.Math.min.name Lib.Math.min.code 2 (some .int)) (List.mem_of_getElem? (i := 5) rfl)) (Nat.le_of_ble_eq_true rfl) (Nat.le_of_ble_eq_true rfl) (Nat.le_of_ble_eq_true rfl) (Nat.le_of_ble_eq_true rfl) dX7_logLength_6 ?_
  refine lv_topi (fun x_1 ex_1 => ?_)
  have g_2 : RG x_1 0 60 := RG_min ex_1 g_h0_f3 (RG_k 60 60 rfl) (by decide)
  have b_3 : x_1.toInt ≤ h0_f3.toInt + 0 := by have := min_le1 ex_1; omega
  have hK9 := hK.sub (tys' := []) [] rfl
  exact W.iret (v := x_1) hx hb hr (fun t ht hW => ⟨⟨x_1, (), rfl, ⟨g_2, (by have := b_3; have := (g_2).2; have := (g_h0_f3).1; show x_1.toInt ≤ h0_f3.toInt + 0; omega)⟩, by rw [ht]; exact hP, va_K.moved hW.alike hK9, hD⟩, hS.F ht⟩) hS.2.2 dX7_logLength_9
def wf_c_X11_isWithin_2 : List Cond := .code yX11_isWithin cX11_isWithin 3 (some .boolean) :: ([])
set_option maxHeartbeats 4000000 in
set_option maxRecDepth 100000 in
theorem c_X11_isWithin_2 (l : Launch) (dC : Nat → ClassId) (dI : Nat → Nat → Nat) (sz : Nat) (p0 : Int32) (p2 : Int32) (g_p2 : RG p2 (-1) 59) : Met l yX11_isWithin wf_c_X11_isWithin_2 ({ frames := 0, cells := 0, slots := 0, locals := 0 }) (va_Pc [.int p0, .int 0, .int p2] (fun U => U.heap.size = sz ∧ va_P (dC, dI) vwCl [] U.heap ∧ va_K (dC, dI) vwCl [] U ∧ va_D (fun _ => True) [])) (va_Qi (fun (r : Int32) (u : Unit) => (r = 0 ∧ RG p0 (-2147483648) 2147483647) ∨ (r = 1 ∧ RG p0 0 59 ∧ RG p2 0 59 ∧ p0.toInt ≤ p2.toInt + 0)) (fun (u : Unit) t => va_P (dC, dI) vwCl [] t.heap ∧ va_K (dC, dI) vwCl [] t ∧ va_D (va_A [] sz) []) (va_A [] sz)) 0 0 (va_A [] sz) := by
  refine Met.ofW (cc := cX11_isWithin) (maxL := 3) (ret := (some .boolean)) (by decide) rfl ?_
  intro p e s m args below meth c s₁ B hml hv
  obtain ⟨rfl, hsz, hP, hK, hD0⟩ := hv
  have hx := B.exec
  have hb := B.bytes
  have hr := B.returns
  have hts := atoms_spec (ws := wf_c_X11_isWithin_2) B.pre
  have hown : s.vm.findClass RX11 = some m.cls := findClass_of_methodNamed B.named
  have hlocks := B.notSynchronized
  subst hsz
  have hD := hD0.self (sz := s.heap.size)
  generalize hAe : va_A [] s.heap.size = A at hD ⊢
  have hA : ∀ q : Nat, s.heap.size ≤ q → A q := fun q h => by rw [← hAe]; exact Or.inr h
  have hP : va_P (dC, dI) vwCl [] s.heap := hP
  have hl := lv_entry ([.int p0, .int 0, .int p2]) (n := 3) (Nat.le_of_ble_eq_true rfl)
  rw [lg_entry_eq]
  generalize (lg_sl ([.int p0, .int 0, .int p2]) ++ List.replicate (3 - (lg_sl ([.int p0, .int 0, .int p2])).length) Slot.unset).toArray = ls at hl ⊢
  have hl : lv_has ls 3 [(0, .int p0), (1, .int 0), (2, .int p2)] := hl
  obtain ⟨H, hHe⟩ : ∃ H : Heap, s.heap = H := ⟨_, rfl⟩
  have hS : va_S A s.heap H [] := by rw [hHe]; exact va_S.rf
  have hP : va_P (dC, dI) vwCl [] H := by rw [← hHe]; exact hP
  rw [hHe]
  refine lv_iload_n hx hb dX11_isWithin_0 rfl (lv_at hl 0 rfl) ?_
  refine lv_iload_n hx hb dX11_isWithin_1 rfl (lv_at hl 1 rfl) ?_
  refine lv_icmp_lt (tgt := 14) hx hb dX11_isWithin_2 rfl (fun c_1 => ?_) (fun c_1 => ?_)
  · have g_2 : RG p0 (-2147483648) (-1) := RG_lt1 (RG_any p0) (RG_k 0 0 rfl) c_1 (by decide)
    refine lv_iconst (v := 0) hx hb dX11_isWithin_14 kc_iconst_0 ?_
    have hK9 := hK.sub (tys' := []) [] rfl
    exact W.zret (v := 0) hx hb hr rfl (fun t ht hW => ⟨⟨0, (), rfl, (Or.inl ⟨rfl, (RG_w g_2 (by decide))⟩), by rw [ht]; exact hP, va_K.moved hW.alike hK9, hD⟩, hS.F ht⟩) hS.2.2 dX11_isWithin_15
  · have d_3 := Int32.not_lt.mp c_1
    have g_4 : RG p0 0 2147483647 := RG_le2 (RG_k 0 0 rfl) (RG_any p0) d_3 (by decide)
    refine lv_iload_n hx hb dX11_isWithin_5 rfl (lv_at hl 0 rfl) ?_
    refine lv_iload_n hx hb dX11_isWithin_6 rfl (lv_at hl 2 rfl) ?_
    refine lv_icmp_gt (tgt := 14) hx hb dX11_isWithin_7 rfl (fun c_5 => ?_) (fun c_5 => ?_)
    · have b_6 : p2.toInt ≤ p0.toInt + (-1) := by have := Int32.lt_iff_toInt_lt.mp c_5; omega
      refine lv_iconst (v := 0) hx hb dX11_isWithin_14 kc_iconst_0 ?_
      have hK9 := hK.sub (tys' := []) [] rfl
      exact W.zret (v := 0) hx hb hr rfl (fun t ht hW => ⟨⟨0, (), rfl, (Or.inl ⟨rfl, (RG_w g_4 (by decide))⟩), by rw [ht]; exact hP, va_K.moved hW.alike hK9, hD⟩, hS.F ht⟩) hS.2.2 dX11_isWithin_15
    · have d_7 := Int32.not_lt.mp c_5
      have b_8 : p0.toInt ≤ p2.toInt + 0 := by have := Int32.le_iff_toInt_le.mp d_7; omega
      have g_9 : RG p0 0 59 := RG_le1 g_4 g_p2 d_7 (by decide)
      have g_10 : RG p2 0 59 := RG_le2 g_4 g_p2 d_7 (by decide)
      refine lv_iconst (v := 1) hx hb dX11_isWithin_10 kc_iconst_1 ?_
      refine lv_goto (tgt := 15) hx hb dX11_isWithin_11 rfl ?_
      have hK9 := hK.sub (tys' := []) [] rfl
      exact W.zret (v := 1) hx hb hr rfl (fun t ht hW => ⟨⟨1, (), rfl, (Or.inr ⟨rfl, g_9, g_10, (by have := b_8; have := (g_9).2; have := (g_10).1; show p0.toInt ≤ p2.toInt + 0; omega)⟩), by rw [ht]; exact hP, va_K.moved hW.alike hK9, hD⟩, hS.F ht⟩) hS.2.2 dX11_isWithin_15
def wf_c_X11_isWithin_3 : List Cond := .code yX11_isWithin cX11_isWithin 3 (some .boolean) :: ([])
set_option maxHeartbeats 4000000 in
set_option maxRecDepth 100000 in
theorem c_X11_isWithin_3 (l : Launch) (dC : Nat → ClassId) (dI : Nat → Nat → Nat) (sz : Nat) (p0 : Int32) : Met l yX11_isWithin wf_c_X11_isWithin_3 ({ frames := 0, cells := 0, slots := 0, locals := 0 }) (va_Pc [.int p0, .int 0, .int 2] (fun U => U.heap.size = sz ∧ va_P (dC, dI) vwCl [] U.heap ∧ va_K (dC, dI) vwCl [] U ∧ va_D (fun _ => True) [])) (va_Qi (fun (r : Int32) (u : Unit) => (r = 0 ∧ RG p0 (-2147483648) 2147483647) ∨ (r = 1 ∧ RG p0 0 2)) (fun (u : Unit) t => va_P (dC, dI) vwCl [] t.heap ∧ va_K (dC, dI) vwCl [] t ∧ va_D (va_A [] sz) []) (va_A [] sz)) 0 0 (va_A [] sz) := by
  refine Met.ofW (cc := cX11_isWithin) (maxL := 3) (ret := (some .boolean)) (by decide) rfl ?_
  intro p e s m args below meth c s₁ B hml hv
  obtain ⟨rfl, hsz, hP, hK, hD0⟩ := hv
  have hx := B.exec
  have hb := B.bytes
  have hr := B.returns
  have hts := atoms_spec (ws := wf_c_X11_isWithin_3) B.pre
  have hown : s.vm.findClass RX11 = some m.cls := findClass_of_methodNamed B.named
  have hlocks := B.notSynchronized
  subst hsz
  have hD := hD0.self (sz := s.heap.size)
  generalize hAe : va_A [] s.heap.size = A at hD ⊢
  have hA : ∀ q : Nat, s.heap.size ≤ q → A q := fun q h => by rw [← hAe]; exact Or.inr h
  have hP : va_P (dC, dI) vwCl [] s.heap := hP
  have hl := lv_entry ([.int p0, .int 0, .int 2]) (n := 3) (Nat.le_of_ble_eq_true rfl)
  rw [lg_entry_eq]
  generalize (lg_sl ([.int p0, .int 0, .int 2]) ++ List.replicate (3 - (lg_sl ([.int p0, .int 0, .int 2])).length) Slot.unset).toArray = ls at hl ⊢
  have hl : lv_has ls 3 [(0, .int p0), (1, .int 0), (2, .int 2)] := hl
  obtain ⟨H, hHe⟩ : ∃ H : Heap, s.heap = H := ⟨_, rfl⟩
  have hS : va_S A s.heap H [] := by rw [hHe]; exact va_S.rf
  have hP : va_P (dC, dI) vwCl [] H := by rw [← hHe]; exact hP
  rw [hHe]
  refine lv_iload_n hx hb dX11_isWithin_0 rfl (lv_at hl 0 rfl) ?_
  refine lv_iload_n hx hb dX11_isWithin_1 rfl (lv_at hl 1 rfl) ?_
  refine lv_icmp_lt (tgt := 14) hx hb dX11_isWithin_2 rfl (fun c_1 => ?_) (fun c_1 => ?_)
  · have g_2 : RG p0 (-2147483648) (-1) := RG_lt1 (RG_any p0) (RG_k 0 0 rfl) c_1 (by decide)
    refine lv_iconst (v := 0) hx hb dX11_isWithin_14 kc_iconst_0 ?_
    have hK9 := hK.sub (tys' := []) [] rfl
    exact W.zret (v := 0) hx hb hr rfl (fun t ht hW => ⟨⟨0, (), rfl, (Or.inl ⟨rfl, (RG_w g_2 (by decide))⟩), by rw [ht]; exact hP, va_K.moved hW.alike hK9, hD⟩, hS.F ht⟩) hS.2.2 dX11_isWithin_15
  · have d_3 := Int32.not_lt.mp c_1
    have g_4 : RG p0 0 2147483647 := RG_le2 (RG_k 0 0 rfl) (RG_any p0) d_3 (by decide)
    refine lv_iload_n hx hb dX11_isWithin_5 rfl (lv_at hl 0 rfl) ?_
    refine lv_iload_n hx hb dX11_isWithin_6 rfl (lv_at hl 2 rfl) ?_
    refine lv_icmp_gt (tgt := 14) hx hb dX11_isWithin_7 rfl (fun c_5 => ?_) (fun c_5 => ?_)
    · have g_6 : RG p0 3 2147483647 := RG_lt2 (RG_k 2 2 rfl) g_4 c_5 (by decide)
      refine lv_iconst (v := 0) hx hb dX11_isWithin_14 kc_iconst_0 ?_
      have hK9 := hK.sub (tys' := []) [] rfl
      exact W.zret (v := 0) hx hb hr rfl (fun t ht hW => ⟨⟨0, (), rfl, (Or.inl ⟨rfl, (RG_w g_6 (by decide))⟩), by rw [ht]; exact hP, va_K.moved hW.alike hK9, hD⟩, hS.F ht⟩) hS.2.2 dX11_isWithin_15
    · have d_7 := Int32.not_lt.mp c_5
      have g_8 : RG p0 0 2 := RG_le1 g_4 (RG_k 2 2 rfl) d_7 (by decide)
      refine lv_iconst (v := 1) hx hb dX11_isWithin_10 kc_iconst_1 ?_
      refine lv_goto (tgt := 15) hx hb dX11_isWithin_11 rfl ?_
      have hK9 := hK.sub (tys' := []) [] rfl
      exact W.zret (v := 1) hx hb hr rfl (fun t ht hW => ⟨⟨1, (), rfl, (Or.inr ⟨rfl, g_8⟩), by rw [ht]; exact hP, va_K.moved hW.alike hK9, hD⟩, hS.F ht⟩) hS.2.2 dX11_isWithin_15
def wd_c_X3_logged (a0 : Nat) (a1 : Nat) (a2 : Int32) (a3 : Int32) (a4 : Nat) (a5 : Nat) (a6 : Nat) (a7 : Int32) (a8 : Nat) (a9 : ClassId) (a10 : Nat → Int32) : va_W := [(a0, .inr (3, [.ref a1, .int a2, .int a3, .ref a4, .ref a5, .ref a6, .int a7])), (a8, .inl (a9, 300, .inl a10))]
def wf_c_X3_logged : List Cond := .code yX3_logged cX3_logged 3 (some .int) :: ([.fieldLink RX3 18 "BuoyVote$History" "log" "[I"] ++ wsX30)
theorem iw_c_X3_logged_X3 : ∀ w ∈ wsX30, w ∈ wf_c_X3_logged := fun w h => List.mem_cons_of_mem _ (List.mem_append_right _ h)
set_option maxHeartbeats 4000000 in
set_option maxRecDepth 100000 in
theorem c_X3_logged (l : Launch) (dC : Nat → ClassId) (dI : Nat → Nat → Nat) (sz : Nat) (h0 : Nat) (p1 : Int32) (p2 : Int32) (h0_0 : Nat) (h0_f1 : Int32) (h0_f2 : Int32) (h0_3 : Nat) (h0_4 : Nat) (h0_5 : Nat) (h0_f6 : Int32) (h0_3k : ClassId) (h0_3c : Nat → Int32) (g_p1 : RG p1 0 2147483647) (g_p2 : RG p2 0 2) (g_h0_f1 : RG h0_f1 0 39) (g_h0_f2 : RG h0_f2 0 40) (g_h0_f6 : RG h0_f6 0 1) : Met l yX3_logged wf_c_X3_logged ({ frames := 0, cells := 0, slots := 0, locals := 0 }) (va_Pc [.ref h0, .int p1, .int p2] (fun U => U.heap.size = sz ∧ va_P (dC, dI) vwCl (wd_c_X3_logged h0 h0_0 h0_f1 h0_f2 h0_3 h0_4 h0_5 h0_f6 h0_3 h0_3k h0_3c) U.heap ∧ va_K (dC, dI) vwCl [(h0_3k, .int)] U ∧ va_D (fun _ => True) (wd_c_X3_logged h0 h0_0 h0_f1 h0_f2 h0_3 h0_4 h0_5 h0_f6 h0_3 h0_3k h0_3c))) (va_Qi (fun (r : Int32) (u : Unit) => (RG r (-2147483648) 2147483647)) (fun (u : Unit) t => va_P (dC, dI) vwCl (wd_c_X3_logged h0 h0_0 h0_f1 h0_f2 h0_3 h0_4 h0_5 h0_f6 h0_3 h0_3k h0_3c) t.heap ∧ va_K (dC, dI) vwCl [] t ∧ va_D (va_A (wd_c_X3_logged h0 h0_0 h0_f1 h0_f2 h0_3 h0_4 h0_5 h0_f6 h0_3 h0_3k h0_3c) sz) (wd_c_X3_logged h0 h0_0 h0_f1 h0_f2 h0_3 h0_4 h0_5 h0_f6 h0_3 h0_3k h0_3c)) (va_A (wd_c_X3_logged h0 h0_0 h0_f1 h0_f2 h0_3 h0_4 h0_5 h0_f6 h0_3 h0_3k h0_3c) sz)) 0 0 (va_A (wd_c_X3_logged h0 h0_0 h0_f1 h0_f2 h0_3 h0_4 h0_5 h0_f6 h0_3 h0_3k h0_3c) sz) := by
  refine Met.ofW (cc := cX3_logged) (maxL := 3) (ret := (some .int)) (by decide) rfl ?_
  intro p e s m args below meth c s₁ B hml hv
  obtain ⟨rfl, hsz, hP, hK, hD0⟩ := hv
  have hx := B.exec
  have hb := B.bytes
  have hr := B.returns
  have hts := atoms_spec (ws := wf_c_X3_logged) B.pre
  have hown : s.vm.findClass RX3 = some m.cls := findClass_of_methodNamed B.named
  have hlocks := B.notSynchronized
  subst hsz
  have hD := hD0.self (sz := s.heap.size)
  generalize hAe : va_A (wd_c_X3_logged h0 h0_0 h0_f1 h0_f2 h0_3 h0_4 h0_5 h0_f6 h0_3 h0_3k h0_3c) s.heap.size = A at hD ⊢
  have hA : ∀ q : Nat, s.heap.size ≤ q → A q := fun q h => by rw [← hAe]; exact Or.inr h
  have hP : va_P (dC, dI) vwCl (wd_c_X3_logged h0 h0_0 h0_f1 h0_f2 h0_3 h0_4 h0_5 h0_f6 h0_3 h0_3k h0_3c) s.heap := hP
  have hl := lv_entry ([.ref h0, .int p1, .int p2]) (n := 3) (Nat.le_of_ble_eq_true rfl)
  rw [lg_entry_eq]
  generalize (lg_sl ([.ref h0, .int p1, .int p2]) ++ List.replicate (3 - (lg_sl ([.ref h0, .int p1, .int p2])).length) Slot.unset).toArray = ls at hl ⊢
  have hl : lv_has ls 3 [(0, .ref h0), (1, .int p1), (2, .int p2)] := hl
  obtain ⟨H, hHe⟩ : ∃ H : Heap, s.heap = H := ⟨_, rfl⟩
  have hS : va_S A s.heap H [] := by rw [hHe]; exact va_S.rf
  have hP : va_P (dC, dI) vwCl (wd_c_X3_logged h0 h0_0 h0_f1 h0_f2 h0_3 h0_4 h0_5 h0_f6 h0_3 h0_3k h0_3c) H := by rw [← hHe]; exact hP
  rw [hHe]
  refine lv_aload_n hx hb dX3_logged_0 rfl (lv_at hl 0 rfl) ?_
  refine va_get (D := (dC, dI)) (ci := 3) (v := .ref h0_3) (C := RX3) (T := TX3) (N := 7) hx hb hts iw_c_X3_logged_X3 hown hK hP 0 rfl rfl 3 (by decide) (hts (.fieldLink RX3 18 "BuoyVote$History" "log" "[I") (List.mem_of_getElem? (i := 1) rfl)) (fun _ h9 => h9) rfl dX3_logged_1 ?_
  refine lv_iload_n hx hb dX3_logged_4 rfl (lv_at hl 1 rfl) ?_
  refine lv_bipush (v := 100) hx hb dX3_logged_5 kc_bipush_100 ?_
  refine lv_irem hx hb dX3_logged_7 (by decide) ?_
  refine lv_topi (fun x_1 ex_1 => ?_)
  have g_2 : RG x_1 0 99 := RG_rem ex_1 g_p1 (RG_k 100 100 rfl) (by decide)
  refine lv_iconst (v := 3) hx hb dX3_logged_8 kc_iconst_3 ?_
  refine lv_imul hx hb dX3_logged_9 ?_
  refine lv_topi (fun x_3 ex_3 => ?_)
  have g_4 : RG x_3 0 297 := RG_mulc ex_3 (q := 3) rfl g_2 (by decide)
  refine lv_iload_n hx hb dX3_logged_10 rfl (lv_at hl 2 rfl) ?_
  refine lv_iadd hx hb dX3_logged_11 ?_
  refine lv_topi (fun x_5 ex_5 => ?_)
  have g_6 : RG x_5 0 299 := RG_add ex_5 g_4 g_p2 (by decide)
  refine va_iald hx hb hK hP 1 0 rfl rfl (RG_in g_6 (by decide)) dX3_logged_12 ?_
  refine lv_topi (fun x_7 ex_7 => ?_)
  have hK9 := hK.sub (tys' := []) [] rfl
  exact W.iret (v := x_7) hx hb hr (fun t ht hW => ⟨⟨x_7, (), rfl, (RG_any x_7), by rw [ht]; exact hP, va_K.moved hW.alike hK9, hD⟩, hS.F ht⟩) hS.2.2 dX3_logged_13
def wd_c_X11_log (a0 : Nat) (a1 : Nat) (a2 : Nat) (a3 : Nat) (a4 : Nat) (a5 : Nat) (a6 : Int32) (a7 : Nat) (a8 : Nat) (a9 : Nat) (a10 : Nat) (a11 : Nat) (a12 : Nat) (a13 : Nat) (a14 : Nat) (a15 : Nat) (a16 : Int64) (a17 : Nat) (a18 : Int32) (a19 : Int32) (a20 : Int32) (a21 : Int32) (a22 : Nat) (a23 : Nat) (a24 : Nat) (a25 : Nat) (a26 : Nat) (a27 : Nat) (a28 : Nat) (a29 : Nat) (a30 : Nat) (a31 : Nat) (a32 : Nat) (a33 : Int32) (a34 : Int32) (a35 : Nat) (a36 : Nat) (a37 : Nat) (a38 : Int32) (a39 : Nat) (a40 : ClassId) (a41 : Nat → Int32) : va_W := [(a0, .inr (11, [.ref a1, .ref a2, .ref a3, .ref a4, .ref a5, .int a6, .ref a7, .ref a8, .ref a9, .ref a10, .ref a11, .ref a12, .ref a13, .ref a14, .ref a15, .long a16])), (a17, .inr (7, [.int a18, .int a19, .int a20, .int a21, .ref a22, .ref a23, .ref a24, .ref a25, .ref a26, .ref a27, .ref a28, .ref a29, .ref a30])), (a31, .inr (3, [.ref a32, .int a33, .int a34, .ref a35, .ref a36, .ref a37, .int a38])), (a39, .inl (a40, 300, .inl a41))]
def wf_c_X11_log : List Cond := .code yX11_log cX11_log 3 (some .int) :: ([.fieldLink RX11 52 "BuoyVote" "now" "LBuoyVote$Sea;", .methodLink RX11 285 yX7_logLength, .instanceMethod yX7_logLength, .selects RX7 yX7_logLength yX7_logLength, .initialized RX7, .code yX7_logLength cX7_logLength 1 (some .int), .fieldLink RX7 58 "BuoyVote$Sea" "logged" "I", .methodLink RX7 94 Lib.Math.min.name, .static Lib.Math.min.name, .initialized "java/lang/Math", .code Lib.Math.min.name Lib.Math.min.code 2 (some .int), .methodLink RX11 111 yX11_isWithin, .static yX11_isWithin, .initialized RX11, .code yX11_isWithin cX11_isWithin 3 (some .boolean), .fieldLink RX11 62 "BuoyVote" "history" "LBuoyVote$History;", .fieldLink RX11 288 "BuoyVote$Sea" "logged" "I", .methodLink RX11 291 yX3_logged, .instanceMethod yX3_logged, .selects RX3 yX3_logged yX3_logged, .initialized RX3, .code yX3_logged cX3_logged 3 (some .int), .fieldLink RX3 18 "BuoyVote$History" "log" "[I"] ++ wsX110 ++ wsX70 ++ wsX30)
theorem iw_c_X11_log_X11 : ∀ w ∈ wsX110, w ∈ wf_c_X11_log := fun w h => List.mem_cons_of_mem _ (List.mem_append_left _ (List.mem_append_left _ (List.mem_append_right _ h)))
theorem iw_c_X11_log_X7 : ∀ w ∈ wsX70, w ∈ wf_c_X11_log := fun w h => List.mem_cons_of_mem _ (List.mem_append_left _ (List.mem_append_right _ h))
theorem iw_c_X11_log_X3 : ∀ w ∈ wsX30, w ∈ wf_c_X11_log := fun w h => List.mem_cons_of_mem _ (List.mem_append_right _ h)
set_option maxRecDepth 20000 in
theorem gf_c_X11_log_c_X7_logLength_1 : GoodIn wf_c_X11_log (wsV RX11 285 RX7 yX7_logLength wf_c_X7_logLength_1) := goodIn_app (gi_cons (j := 2) rfl rfl (gi_cons (j := 3) rfl rfl (gi_cons (j := 4) rfl rfl (gi_cons (j := 5) rfl rfl (gi_nil))))) (gi_cons (j := 6) rfl rfl (goodIn_app (gi_cons (j := 7) rfl rfl (gi_cons (j := 8) rfl rfl (gi_cons (j := 9) rfl rfl (gi_cons (j := 10) rfl rfl (gi_cons (j := 11) rfl rfl (gi_nil)))))) (goodIn_sub iw_c_X11_log_X7 gw_X7)))
set_option maxRecDepth 20000 in
theorem gf_c_X11_log_c_X11_isWithin_2 : GoodIn wf_c_X11_log (va_wsS RX11 111 yX11_isWithin wf_c_X11_isWithin_2) := goodIn_app (gi_cons (j := 12) rfl rfl (gi_cons (j := 13) rfl rfl (gi_cons (j := 14) rfl rfl (gi_nil)))) (gi_cons (j := 15) rfl rfl (gi_nil))
set_option maxRecDepth 20000 in
theorem gf_c_X11_log_c_X11_isWithin_3 : GoodIn wf_c_X11_log (va_wsS RX11 111 yX11_isWithin wf_c_X11_isWithin_3) := goodIn_app (gi_cons (j := 12) rfl rfl (gi_cons (j := 13) rfl rfl (gi_cons (j := 14) rfl rfl (gi_nil)))) (gi_cons (j := 15) rfl rfl (gi_nil))
set_option maxRecDepth 20000 in
theorem gf_c_X11_log_c_X3_logged : GoodIn wf_c_X11_log (wsV RX11 291 RX3 yX3_logged wf_c_X3_logged) := goodIn_app (gi_cons (j := 18) rfl rfl (gi_cons (j := 19) rfl rfl (gi_cons (j := 20) rfl rfl (gi_cons (j := 21) rfl rfl (gi_nil))))) (gi_cons (j := 22) rfl rfl (goodIn_app (gi_cons (j := 23) rfl rfl (gi_nil)) (goodIn_sub iw_c_X11_log_X3 gw_X3)))
set_option maxHeartbeats 4000000 in
set_option maxRecDepth 100000 in
theorem c_X11_log (l : Launch) (dC : Nat → ClassId) (dI : Nat → Nat → Nat) (sz : Nat) (h0 : Nat) (p1 : Int32) (p2 : Int32) (h0_0 : Nat) (h0_1 : Nat) (h0_2 : Nat) (h0_3 : Nat) (h0_4 : Nat) (h0_f5 : Int32) (h0_6 : Nat) (h0_7 : Nat) (h0_8 : Nat) (h0_9 : Nat) (h0_10 : Nat) (h0_11 : Nat) (h0_12 : Nat) (h0_13 : Nat) (h0_14 : Nat) (h0_f15 : Int64) (h0_7_f0 : Int32) (h0_7_f1 : Int32) (h0_7_f2 : Int32) (h0_7_f3 : Int32) (h0_7_4 : Nat) (h0_7_5 : Nat) (h0_7_6 : Nat) (h0_7_7 : Nat) (h0_7_8 : Nat) (h0_7_9 : Nat) (h0_7_10 : Nat) (h0_7_11 : Nat) (h0_7_12 : Nat) (h0_9_0 : Nat) (h0_9_f1 : Int32) (h0_9_f2 : Int32) (h0_9_3 : Nat) (h0_9_4 : Nat) (h0_9_5 : Nat) (h0_9_f6 : Int32) (h0_9_3k : ClassId) (h0_9_3c : Nat → Int32) (g_h0_f5 : RG h0_f5 0 4) (g_h0_7_f2 : RG h0_7_f2 0 9999) (g_h0_7_f3 : RG h0_7_f3 0 9999) (g_h0_9_f1 : RG h0_9_f1 0 39) (g_h0_9_f2 : RG h0_9_f2 0 40) (g_h0_9_f6 : RG h0_9_f6 0 1) : Met l yX11_log wf_c_X11_log ({ frames := 2, cells := 0, slots := 0, locals := 33 }) (va_Pc [.ref h0, .int p1, .int p2] (fun U => U.heap.size = sz ∧ va_P (dC, dI) vwCl (wd_c_X11_log h0 h0_0 h0_1 h0_2 h0_3 h0_4 h0_f5 h0_6 h0_7 h0_8 h0_9 h0_10 h0_11 h0_12 h0_13 h0_14 h0_f15 h0_7 h0_7_f0 h0_7_f1 h0_7_f2 h0_7_f3 h0_7_4 h0_7_5 h0_7_6 h0_7_7 h0_7_8 h0_7_9 h0_7_10 h0_7_11 h0_7_12 h0_9 h0_9_0 h0_9_f1 h0_9_f2 h0_9_3 h0_9_4 h0_9_5 h0_9_f6 h0_9_3 h0_9_3k h0_9_3c) U.heap ∧ va_K (dC, dI) vwCl [(h0_9_3k, .int)] U ∧ va_D (fun _ => True) (wd_c_X11_log h0 h0_0 h0_1 h0_2 h0_3 h0_4 h0_f5 h0_6 h0_7 h0_8 h0_9 h0_10 h0_11 h0_12 h0_13 h0_14 h0_f15 h0_7 h0_7_f0 h0_7_f1 h0_7_f2 h0_7_f3 h0_7_4 h0_7_5 h0_7_6 h0_7_7 h0_7_8 h0_7_9 h0_7_10 h0_7_11 h0_7_12 h0_9 h0_9_0 h0_9_f1 h0_9_f2 h0_9_3 h0_9_4 h0_9_5 h0_9_f6 h0_9_3 h0_9_3k h0_9_3c))) (va_Qi (fun (r : Int32) (u : Unit) => (r = (-1)) ∨ (RG r (-2147483648) 2147483647 ∧ RG p1 0 59 ∧ RG p2 0 2)) (fun (u : Unit) t => va_P (dC, dI) vwCl (wd_c_X11_log h0 h0_0 h0_1 h0_2 h0_3 h0_4 h0_f5 h0_6 h0_7 h0_8 h0_9 h0_10 h0_11 h0_12 h0_13 h0_14 h0_f15 h0_7 h0_7_f0 h0_7_f1 h0_7_f2 h0_7_f3 h0_7_4 h0_7_5 h0_7_6 h0_7_7 h0_7_8 h0_7_9 h0_7_10 h0_7_11 h0_7_12 h0_9 h0_9_0 h0_9_f1 h0_9_f2 h0_9_3 h0_9_4 h0_9_5 h0_9_f6 h0_9_3 h0_9_3k h0_9_3c) t.heap ∧ va_K (dC, dI) vwCl [] t ∧ va_D (va_A (wd_c_X11_log h0 h0_0 h0_1 h0_2 h0_3 h0_4 h0_f5 h0_6 h0_7 h0_8 h0_9 h0_10 h0_11 h0_12 h0_13 h0_14 h0_f15 h0_7 h0_7_f0 h0_7_f1 h0_7_f2 h0_7_f3 h0_7_4 h0_7_5 h0_7_6 h0_7_7 h0_7_8 h0_7_9 h0_7_10 h0_7_11 h0_7_12 h0_9 h0_9_0 h0_9_f1 h0_9_f2 h0_9_3 h0_9_4 h0_9_5 h0_9_f6 h0_9_3 h0_9_3k h0_9_3c) sz) (wd_c_X11_log h0 h0_0 h0_1 h0_2 h0_3 h0_4 h0_f5 h0_6 h0_7 h0_8 h0_9 h0_10 h0_11 h0_12 h0_13 h0_14 h0_f15 h0_7 h0_7_f0 h0_7_f1 h0_7_f2 h0_7_f3 h0_7_4 h0_7_5 h0_7_6 h0_7_7 h0_7_8 h0_7_9 h0_7_10 h0_7_11 h0_7_12 h0_9 h0_9_0 h0_9_f1 h0_9_f2 h0_9_3 h0_9_4 h0_9_5 h0_9_f6 h0_9_3 h0_9_3k h0_9_3c)) (va_A (wd_c_X11_log h0 h0_0 h0_1 h0_2 h0_3 h0_4 h0_f5 h0_6 h0_7 h0_8 h0_9 h0_10 h0_11 h0_12 h0_13 h0_14 h0_f15 h0_7 h0_7_f0 h0_7_f1 h0_7_f2 h0_7_f3 h0_7_4 h0_7_5 h0_7_6 h0_7_7 h0_7_8 h0_7_9 h0_7_10 h0_7_11 h0_7_12 h0_9 h0_9_0 h0_9_f1 h0_9_f2 h0_9_3 h0_9_4 h0_9_5 h0_9_f6 h0_9_3 h0_9_3k h0_9_3c) sz)) 0 0 (va_A (wd_c_X11_log h0 h0_0 h0_1 h0_2 h0_3 h0_4 h0_f5 h0_6 h0_7 h0_8 h0_9 h0_10 h0_11 h0_12 h0_13 h0_14 h0_f15 h0_7 h0_7_f0 h0_7_f1 h0_7_f2 h0_7_f3 h0_7_4 h0_7_5 h0_7_6 h0_7_7 h0_7_8 h0_7_9 h0_7_10 h0_7_11 h0_7_12 h0_9 h0_9_0 h0_9_f1 h0_9_f2 h0_9_3 h0_9_4 h0_9_5 h0_9_f6 h0_9_3 h0_9_3k h0_9_3c) sz) := by
  refine Met.ofW (cc := cX11_log) (maxL := 3) (ret := (some .int)) (by decide) rfl ?_
  intro p e s m args below meth c s₁ B hml hv
  obtain ⟨rfl, hsz, hP, hK, hD0⟩ := hv
  have hx := B.exec
  have hb := B.bytes
  have hr := B.returns
  have hts := atoms_spec (ws := wf_c_X11_log) B.pre
  have hown : s.vm.findClass RX11 = some m.cls := findClass_of_methodNamed B.named
  have hlocks := B.notSynchronized
  subst hsz
  have hD := hD0.self (sz := s.heap.size)
  generalize hAe : va_A (wd_c_X11_log h0 h0_0 h0_1 h0_2 h0_3 h0_4 h0_f5 h0_6 h0_7 h0_8 h0_9 h0_10 h0_11 h0_12 h0_13 h0_14 h0_f15 h0_7 h0_7_f0 h0_7_f1 h0_7_f2 h0_7_f3 h0_7_4 h0_7_5 h0_7_6 h0_7_7 h0_7_8 h0_7_9 h0_7_10 h0_7_11 h0_7_12 h0_9 h0_9_0 h0_9_f1 h0_9_f2 h0_9_3 h0_9_4 h0_9_5 h0_9_f6 h0_9_3 h0_9_3k h0_9_3c) s.heap.size = A at hD ⊢
  have hA : ∀ q : Nat, s.heap.size ≤ q → A q := fun q h => by rw [← hAe]; exact Or.inr h
  have hP : va_P (dC, dI) vwCl (wd_c_X11_log h0 h0_0 h0_1 h0_2 h0_3 h0_4 h0_f5 h0_6 h0_7 h0_8 h0_9 h0_10 h0_11 h0_12 h0_13 h0_14 h0_f15 h0_7 h0_7_f0 h0_7_f1 h0_7_f2 h0_7_f3 h0_7_4 h0_7_5 h0_7_6 h0_7_7 h0_7_8 h0_7_9 h0_7_10 h0_7_11 h0_7_12 h0_9 h0_9_0 h0_9_f1 h0_9_f2 h0_9_3 h0_9_4 h0_9_5 h0_9_f6 h0_9_3 h0_9_3k h0_9_3c) s.heap := hP
  have hl := lv_entry ([.ref h0, .int p1, .int p2]) (n := 3) (Nat.le_of_ble_eq_true rfl)
  rw [lg_entry_eq]
  generalize (lg_sl ([.ref h0, .int p1, .int p2]) ++ List.replicate (3 - (lg_sl ([.ref h0, .int p1, .int p2])).length) Slot.unset).toArray = ls at hl ⊢
  have hl : lv_has ls 3 [(0, .ref h0), (1, .int p1), (2, .int p2)] := hl
  obtain ⟨H, hHe⟩ : ∃ H : Heap, s.heap = H := ⟨_, rfl⟩
  have hS : va_S A s.heap H [] := by rw [hHe]; exact va_S.rf
  have hP : va_P (dC, dI) vwCl (wd_c_X11_log h0 h0_0 h0_1 h0_2 h0_3 h0_4 h0_f5 h0_6 h0_7 h0_8 h0_9 h0_10 h0_11 h0_12 h0_13 h0_14 h0_f15 h0_7 h0_7_f0 h0_7_f1 h0_7_f2 h0_7_f3 h0_7_4 h0_7_5 h0_7_6 h0_7_7 h0_7_8 h0_7_9 h0_7_10 h0_7_11 h0_7_12 h0_9 h0_9_0 h0_9_f1 h0_9_f2 h0_9_3 h0_9_4 h0_9_5 h0_9_f6 h0_9_3 h0_9_3k h0_9_3c) H := by rw [← hHe]; exact hP
  rw [hHe]
  refine lv_iload_n hx hb dX11_log_0 rfl (lv_at hl 1 rfl) ?_
  refine lv_iconst (v := 0) hx hb dX11_log_1 kc_iconst_0 ?_
  refine lv_aload_n hx hb dX11_log_2 rfl (lv_at hl 0 rfl) ?_
  refine va_get (D := (dC, dI)) (ci := 11) (v := .ref h0_7) (C := RX11) (T := TX11) (N := 16) hx hb hts iw_c_X11_log_X11 hown hK hP 0 rfl rfl 7 (by decide) (hts (.fieldLink RX11 52 "BuoyVote" "now" "LBuoyVote$Sea;") (List.mem_of_getElem? (i := 1) rfl)) (fun _ h9 => h9) rfl dX11_log_3 ?_
  have hPc := hP.sub (ws' := (wd_c_X7_logLength_1 h0_7 h0_7_f0 h0_7_f1 h0_7_f2 h0_7_f3 h0_7_4 h0_7_5 h0_7_6 h0_7_7 h0_7_8 h0_7_9 h0_7_10 h0_7_11 h0_7_12)) [1] rfl
  have hDc := hD.sub (ws' := (wd_c_X7_logLength_1 h0_7 h0_7_f0 h0_7_f1 h0_7_f2 h0_7_f3 h0_7_4 h0_7_5 h0_7_6 h0_7_7 h0_7_8 h0_7_9 h0_7_10 h0_7_11 h0_7_12)) [1] (by decide) rfl
  have hKc := hK.sub (tys' := []) [] rfl
  have hFc := va_free (wc := (wd_c_X7_logLength_1 h0_7 h0_7_f0 h0_7_f1 h0_7_f2 h0_7_f3 h0_7_4 h0_7_5 h0_7_6 h0_7_7 h0_7_8 h0_7_9 h0_7_10 h0_7_11 h0_7_12)) hD hS hA [1] rfl
  refine va_calli (va_runV (As := []) (rest := [.int 0, .int p1]) ⟨hx, hb, hml, hown, hts⟩ (c_X7_logLength_1 l dC dI H.size h0_7 h0_7_f0 h0_7_f1 h0_7_f2 h0_7_f3 h0_7_4 h0_7_5 h0_7_6 h0_7_7 h0_7_8 h0_7_9 h0_7_10 h0_7_11 h0_7_12 g_h0_7_f3) (cwV 0 hts gf_c_X11_log_c_X7_logLength_1 rfl rfl rfl (by decide +kernel) ⟨Nat.le_of_ble_eq_true rfl, Nat.le_of_ble_eq_true rfl⟩) ⟨fun a U g mk q => by obtain ⟨q0, q1, qP, qK, qD⟩ := q; exact ⟨q0, q1, qP, va_K.moved (u := U) (U := U.calling g mk a) (Vm.Alike.refl U.vm) qK, qD⟩, va_recv hKc hPc (ci := 7) (q0 := 0) rfl rfl, fun U hU hW => ⟨rfl, by rw [hU], by rw [hU]; exact hPc, va_K.moved hW.alike hKc, hDc.weaken (fun _ _ _ _ => trivial)⟩⟩ rfl rfl hl.1 rfl (lv_room (Nat.le_of_ble_eq_true rfl)) dX11_log_6 ⟨Nat.le_of_ble_eq_true rfl, Nat.le_of_ble_eq_true rfl⟩) hS (fun q _ h => hFc q h) hFc (fun r_1 u t H1 locs ht hvm hw hB hz1 hk1 hS => ?_)
  obtain ⟨hP1, hK1, hD1⟩ := hB
  rw [ht] at hP1
  obtain ⟨hP, hD⟩ := va_join (wr := [(h0, .inr (11, [.ref h0_0, .ref h0_1, .ref h0_2, .ref h0_3, .ref h0_4, .int h0_f5, .ref h0_6, .ref h0_7, .ref h0_8, .ref h0_9, .ref h0_10, .ref h0_11, .ref h0_12, .ref h0_13, .ref h0_14, .long h0_f15])), (h0_9, .inr (3, [.ref h0_9_0, .int h0_9_f1, .int h0_9_f2, .ref h0_9_3, .ref h0_9_4, .ref h0_9_5, .int h0_9_f6])), (h0_9_3, .inl (h0_9_3k, 300, .inl h0_9_3c))]) (w1 := (wd_c_X7_logLength_1 h0_7 h0_7_f0 h0_7_f1 h0_7_f2 h0_7_f3 h0_7_4 h0_7_5 h0_7_6 h0_7_7 h0_7_8 h0_7_9 h0_7_10 h0_7_11 h0_7_12)) hP hD [1] [0, 2, 3] rfl rfl (by decide) (by decide) hk1 hFc hP1 hD1
  have hP := hP.sub (ws' := (wd_c_X11_log h0 h0_0 h0_1 h0_2 h0_3 h0_4 h0_f5 h0_6 h0_7 h0_8 h0_9 h0_10 h0_11 h0_12 h0_13 h0_14 h0_f15 h0_7 h0_7_f0 h0_7_f1 h0_7_f2 h0_7_f3 h0_7_4 h0_7_5 h0_7_6 h0_7_7 h0_7_8 h0_7_9 h0_7_10 h0_7_11 h0_7_12 h0_9 h0_9_0 h0_9_f1 h0_9_f2 h0_9_3 h0_9_4 h0_9_5 h0_9_f6 h0_9_3 h0_9_3k h0_9_3c)) [0, 3, 1, 2] rfl
  have hD := hD.sub (ws' := (wd_c_X11_log h0 h0_0 h0_1 h0_2 h0_3 h0_4 h0_f5 h0_6 h0_7 h0_8 h0_9 h0_10 h0_11 h0_12 h0_13 h0_14 h0_f15 h0_7 h0_7_f0 h0_7_f1 h0_7_f2 h0_7_f3 h0_7_4 h0_7_5 h0_7_6 h0_7_7 h0_7_8 h0_7_9 h0_7_10 h0_7_11 h0_7_12 h0_9 h0_9_0 h0_9_f1 h0_9_f2 h0_9_3 h0_9_4 h0_9_5 h0_9_f6 h0_9_3 h0_9_3k h0_9_3c)) [0, 3, 1, 2] (by decide) rfl
  generalize H1 = H at hP hS ⊢
  rcases hw with ⟨h_2, h_3⟩
  refine lv_iconst (v := 1) hx hb dX11_log_9 kc_iconst_1 ?_
  refine lv_isub hx hb dX11_log_10 ?_
  refine lv_topi (fun x_4 ex_4 => ?_)
  have g_5 : RG x_4 (-1) 59 := RG_sub ex_4 h_2 (RG_k 1 1 rfl) (by decide)
  have hPc := hP.sub (ws' := []) [] rfl
  have hDc := hD.sub (ws' := []) [] (by decide) rfl
  have hKc := hK.sub (tys' := []) [] rfl
  have hFc := va_free (wc := []) hD hS hA [] rfl
  refine va_calli (va_runS (As := [.int p1, .int 0, .int x_4]) (rest := []) ⟨hx, hb, hml, hown, hts⟩ (c_X11_isWithin_2 l dC dI H.size p1 x_4 g_5) (va_cwS 3 hts gf_c_X11_log_c_X11_isWithin_2 rfl rfl rfl (by decide +kernel) ⟨Nat.le_of_ble_eq_true rfl, Nat.le_of_ble_eq_true rfl⟩) ⟨fun a U g mk q => by obtain ⟨q0, q1, qP, qK, qD⟩ := q; exact ⟨q0, q1, qP, va_K.moved (u := U) (U := U.calling g mk a) (Vm.Alike.refl U.vm) qK, qD⟩, fun U hU hW => ⟨rfl, by rw [hU], by rw [hU]; exact hPc, va_K.moved hW.alike hKc, hDc.weaken (fun _ _ _ _ => trivial)⟩⟩ rfl rfl hl.1 rfl (lv_room (Nat.le_of_ble_eq_true rfl)) dX11_log_11 ⟨Nat.le_of_ble_eq_true rfl, Nat.le_of_ble_eq_true rfl⟩) hS (fun q _ h => hFc q h) hFc (fun r_6 u t H1 locs ht hvm hw hB hz1 hk1 hS => ?_)
  obtain ⟨hP1, hK1, hD1⟩ := hB
  rw [ht] at hP1
  have hP := bv_still hP hk1
  generalize H1 = H at hP hS ⊢
  rcases hw with ⟨h_7, h_8⟩ | ⟨h_9, h_10, h_11, h_12⟩
  · rw [h_7]
    refine lv_if_eq (tgt := 26) hx hb dX11_log_14 rfl (fun c_13 => ?_) (fun c_13 => absurd c_13 (by decide))
    refine lv_iconst (v := (-1)) hx hb dX11_log_26 kc_iconst_m1 ?_
    have hK9 := hK.sub (tys' := []) [] rfl
    exact W.iret (v := (-1)) hx hb hr (fun t ht hW => ⟨⟨(-1), (), rfl, (Or.inl rfl), by rw [ht]; exact hP, va_K.moved hW.alike hK9, hD⟩, hS.F ht⟩) hS.2.2 dX11_log_27
  · rw [h_9]
    have g_14 : RG r_1 1 60 := RG_addb (RG_sc (d := (-1)) ex_4 rfl) (q := (-1)) rfl h_2 h_11 (by decide)
    refine lv_if_eq (tgt := 26) hx hb dX11_log_14 rfl (fun c_15 => absurd c_15 (by decide)) (fun c_15 => ?_)
    refine lv_iload_n hx hb dX11_log_17 rfl (lv_at hl 2 rfl) ?_
    refine lv_iconst (v := 0) hx hb dX11_log_18 kc_iconst_0 ?_
    refine lv_iconst (v := 2) hx hb dX11_log_19 kc_iconst_2 ?_
    have hPc := hP.sub (ws' := []) [] rfl
    have hDc := hD.sub (ws' := []) [] (by decide) rfl
    have hKc := hK.sub (tys' := []) [] rfl
    have hFc := va_free (wc := []) hD hS hA [] rfl
    refine va_calli (va_runS (As := [.int p2, .int 0, .int 2]) (rest := []) ⟨hx, hb, hml, hown, hts⟩ (c_X11_isWithin_3 l dC dI H.size p2) (va_cwS 3 hts gf_c_X11_log_c_X11_isWithin_3 rfl rfl rfl (by decide +kernel) ⟨Nat.le_of_ble_eq_true rfl, Nat.le_of_ble_eq_true rfl⟩) ⟨fun a U g mk q => by obtain ⟨q0, q1, qP, qK, qD⟩ := q; exact ⟨q0, q1, qP, va_K.moved (u := U) (U := U.calling g mk a) (Vm.Alike.refl U.vm) qK, qD⟩, fun U hU hW => ⟨rfl, by rw [hU], by rw [hU]; exact hPc, va_K.moved hW.alike hKc, hDc.weaken (fun _ _ _ _ => trivial)⟩⟩ rfl rfl hl.1 rfl (lv_room (Nat.le_of_ble_eq_true rfl)) dX11_log_20 ⟨Nat.le_of_ble_eq_true rfl, Nat.le_of_ble_eq_true rfl⟩) hS (fun q _ h => hFc q h) hFc (fun r_16 u t H1 locs ht hvm hw hB hz1 hk1 hS => ?_)
    obtain ⟨hP1, hK1, hD1⟩ := hB
    rw [ht] at hP1
    have hP := bv_still hP hk1
    generalize H1 = H at hP hS ⊢
    rcases hw with ⟨h_17, h_18⟩ | ⟨h_19, h_20⟩
    · rw [h_17]
      refine lv_if_ne (tgt := 28) hx hb dX11_log_23 rfl (fun c_21 => absurd c_21 (by decide)) (fun c_21 => ?_)
      refine lv_iconst (v := (-1)) hx hb dX11_log_26 kc_iconst_m1 ?_
      have hK9 := hK.sub (tys' := []) [] rfl
      exact W.iret (v := (-1)) hx hb hr (fun t ht hW => ⟨⟨(-1), (), rfl, (Or.inl rfl), by rw [ht]; exact hP, va_K.moved hW.alike hK9, hD⟩, hS.F ht⟩) hS.2.2 dX11_log_27
    · rw [h_19]
      refine lv_if_ne (tgt := 28) hx hb dX11_log_23 rfl (fun c_22 => ?_) (fun c_22 => absurd c_22 (by decide))
      refine lv_aload_n hx hb dX11_log_28 rfl (lv_at hl 0 rfl) ?_
      refine va_get (D := (dC, dI)) (ci := 11) (v := .ref h0_9) (C := RX11) (T := TX11) (N := 16) hx hb hts iw_c_X11_log_X11 hown hK hP 0 rfl rfl 9 (by decide) (hts (.fieldLink RX11 62 "BuoyVote" "history" "LBuoyVote$History;") (List.mem_of_getElem? (i := 16) rfl)) (fun _ h9 => h9) rfl dX11_log_29 ?_
      refine lv_aload_n hx hb dX11_log_32 rfl (lv_at hl 0 rfl) ?_
      refine va_get (D := (dC, dI)) (ci := 11) (v := .ref h0_7) (C := RX11) (T := TX11) (N := 16) hx hb hts iw_c_X11_log_X11 hown hK hP 0 rfl rfl 7 (by decide) (hts (.fieldLink RX11 52 "BuoyVote" "now" "LBuoyVote$Sea;") (List.mem_of_getElem? (i := 1) rfl)) (fun _ h9 => h9) rfl dX11_log_33 ?_
      refine va_get (D := (dC, dI)) (ci := 7) (v := .int h0_7_f3) (C := RX7) (T := TX7) (N := 13) hx hb hts iw_c_X11_log_X7 hown hK hP 1 rfl rfl 3 (by decide) (hts (.fieldLink RX11 288 "BuoyVote$Sea" "logged" "I") (List.mem_of_getElem? (i := 17) rfl)) (fun _ h9 => h9) rfl dX11_log_36 ?_
      refine lv_iconst (v := 1) hx hb dX11_log_39 kc_iconst_1 ?_
      refine lv_isub hx hb dX11_log_40 ?_
      refine lv_topi (fun x_23 ex_23 => ?_)
      have g_24 : RG x_23 (-1) 9998 := RG_sub ex_23 g_h0_7_f3 (RG_k 1 1 rfl) (by decide)
      refine lv_iload_n hx hb dX11_log_41 rfl (lv_at hl 1 rfl) ?_
      refine lv_isub hx hb dX11_log_42 ?_
      refine lv_topi (fun x_25 ex_25 => ?_)
      have g_26 : RG x_25 0 9998 := RG_subd ex_25 g_24 h_10 (c := 0) (by have := h_12; have := eq_add (RG_sc (d := (-1)) ex_4 rfl) g_14 (q := (-1)) rfl (by decide); have := h_3; have := eq_add (RG_sc (d := (-1)) ex_23 rfl) g_h0_7_f3 (q := (-1)) rfl (by decide); have := (g_24).1; have := (h_10).2; omega) (by decide)
      refine lv_iload_n hx hb dX11_log_43 rfl (lv_at hl 2 rfl) ?_
      have hPc := hP.sub (ws' := (wd_c_X3_logged h0_9 h0_9_0 h0_9_f1 h0_9_f2 h0_9_3 h0_9_4 h0_9_5 h0_9_f6 h0_9_3 h0_9_3k h0_9_3c)) [2, 3] rfl
      have hDc := hD.sub (ws' := (wd_c_X3_logged h0_9 h0_9_0 h0_9_f1 h0_9_f2 h0_9_3 h0_9_4 h0_9_5 h0_9_f6 h0_9_3 h0_9_3k h0_9_3c)) [2, 3] (by decide) rfl
      have hKc := hK.sub (tys' := [(h0_9_3k, .int)]) [0] rfl
      have hFc := va_free (wc := (wd_c_X3_logged h0_9 h0_9_0 h0_9_f1 h0_9_f2 h0_9_3 h0_9_4 h0_9_5 h0_9_f6 h0_9_3 h0_9_3k h0_9_3c)) hD hS hA [2, 3] rfl
      refine va_calli (va_runV (As := [.int x_25, .int p2]) (rest := []) ⟨hx, hb, hml, hown, hts⟩ (c_X3_logged l dC dI H.size h0_9 x_25 p2 h0_9_0 h0_9_f1 h0_9_f2 h0_9_3 h0_9_4 h0_9_5 h0_9_f6 h0_9_3k h0_9_3c (RG_w g_26 (by decide)) h_20 g_h0_9_f1 g_h0_9_f2 g_h0_9_f6) (cwV 2 hts gf_c_X11_log_c_X3_logged rfl rfl rfl (by decide +kernel) ⟨Nat.le_of_ble_eq_true rfl, Nat.le_of_ble_eq_true rfl⟩) ⟨fun a U g mk q => by obtain ⟨q0, q1, qP, qK, qD⟩ := q; exact ⟨q0, q1, qP, va_K.moved (u := U) (U := U.calling g mk a) (Vm.Alike.refl U.vm) qK, qD⟩, va_recv hKc hPc (ci := 3) (q0 := 0) rfl rfl, fun U hU hW => ⟨rfl, by rw [hU], by rw [hU]; exact hPc, va_K.moved hW.alike hKc, hDc.weaken (fun _ _ _ _ => trivial)⟩⟩ rfl rfl hl.1 rfl (lv_room (Nat.le_of_ble_eq_true rfl)) dX11_log_44 ⟨Nat.le_of_ble_eq_true rfl, Nat.le_of_ble_eq_true rfl⟩) hS (fun q _ h => hFc q h) hFc (fun r_27 u t H1 locs ht hvm hw hB hz1 hk1 hS => ?_)
      obtain ⟨hP1, hK1, hD1⟩ := hB
      rw [ht] at hP1
      obtain ⟨hP, hD⟩ := va_join (wr := [(h0, .inr (11, [.ref h0_0, .ref h0_1, .ref h0_2, .ref h0_3, .ref h0_4, .int h0_f5, .ref h0_6, .ref h0_7, .ref h0_8, .ref h0_9, .ref h0_10, .ref h0_11, .ref h0_12, .ref h0_13, .ref h0_14, .long h0_f15])), (h0_7, .inr (7, [.int h0_7_f0, .int h0_7_f1, .int h0_7_f2, .int h0_7_f3, .ref h0_7_4, .ref h0_7_5, .ref h0_7_6, .ref h0_7_7, .ref h0_7_8, .ref h0_7_9, .ref h0_7_10, .ref h0_7_11, .ref h0_7_12]))]) (w1 := (wd_c_X3_logged h0_9 h0_9_0 h0_9_f1 h0_9_f2 h0_9_3 h0_9_4 h0_9_5 h0_9_f6 h0_9_3 h0_9_3k h0_9_3c)) hP hD [2, 3] [0, 1] rfl rfl (by decide) (by decide) hk1 hFc hP1 hD1
      have hP := hP.sub (ws' := (wd_c_X11_log h0 h0_0 h0_1 h0_2 h0_3 h0_4 h0_f5 h0_6 h0_7 h0_8 h0_9 h0_10 h0_11 h0_12 h0_13 h0_14 h0_f15 h0_7 h0_7_f0 h0_7_f1 h0_7_f2 h0_7_f3 h0_7_4 h0_7_5 h0_7_6 h0_7_7 h0_7_8 h0_7_9 h0_7_10 h0_7_11 h0_7_12 h0_9 h0_9_0 h0_9_f1 h0_9_f2 h0_9_3 h0_9_4 h0_9_5 h0_9_f6 h0_9_3 h0_9_3k h0_9_3c)) [0, 1, 2, 3] rfl
      have hD := hD.sub (ws' := (wd_c_X11_log h0 h0_0 h0_1 h0_2 h0_3 h0_4 h0_f5 h0_6 h0_7 h0_8 h0_9 h0_10 h0_11 h0_12 h0_13 h0_14 h0_f15 h0_7 h0_7_f0 h0_7_f1 h0_7_f2 h0_7_f3 h0_7_4 h0_7_5 h0_7_6 h0_7_7 h0_7_8 h0_7_9 h0_7_10 h0_7_11 h0_7_12 h0_9 h0_9_0 h0_9_f1 h0_9_f2 h0_9_3 h0_9_4 h0_9_5 h0_9_f6 h0_9_3 h0_9_3k h0_9_3c)) [0, 1, 2, 3] (by decide) rfl
      generalize H1 = H at hP hS ⊢
      have h_28 := hw
      have hK9 := hK.sub (tys' := []) [] rfl
      exact W.iret (v := r_27) hx hb hr (fun t ht hW => ⟨⟨r_27, (), rfl, (Or.inr ⟨h_28, h_10, h_20⟩), by rw [ht]; exact hP, va_K.moved hW.alike hK9, hD⟩, hS.F ht⟩) hS.2.2 dX11_log_47
def wd_c_X11_isPlan (a0 : Nat) (a1 : Nat) (a2 : Nat) (a3 : Nat) (a4 : Nat) (a5 : Nat) (a6 : Int32) (a7 : Nat) (a8 : Nat) (a9 : Nat) (a10 : Nat) (a11 : Nat) (a12 : Nat) (a13 : Nat) (a14 : Nat) (a15 : Nat) (a16 : Int64) : va_W := [(a0, .inr (11, [.ref a1, .ref a2, .ref a3, .ref a4, .ref a5, .int a6, .ref a7, .ref a8, .ref a9, .ref a10, .ref a11, .ref a12, .ref a13, .ref a14, .ref a15, .long a16]))]
def wf_c_X11_isPlan : List Cond := .code yX11_isPlan cX11_isPlan 2 (some .boolean) :: ([.fieldLink RX11 126 "BuoyVote" "planCount" "I"] ++ wsX110)
theorem iw_c_X11_isPlan_X11 : ∀ w ∈ wsX110, w ∈ wf_c_X11_isPlan := fun w h => List.mem_cons_of_mem _ (List.mem_append_right _ h)
set_option maxHeartbeats 4000000 in
set_option maxRecDepth 100000 in
theorem c_X11_isPlan (l : Launch) (dC : Nat → ClassId) (dI : Nat → Nat → Nat) (sz : Nat) (h0 : Nat) (p1 : Int32) (h0_0 : Nat) (h0_1 : Nat) (h0_2 : Nat) (h0_3 : Nat) (h0_4 : Nat) (h0_f5 : Int32) (h0_6 : Nat) (h0_7 : Nat) (h0_8 : Nat) (h0_9 : Nat) (h0_10 : Nat) (h0_11 : Nat) (h0_12 : Nat) (h0_13 : Nat) (h0_14 : Nat) (h0_f15 : Int64) (g_h0_f5 : RG h0_f5 0 4) : Met l yX11_isPlan wf_c_X11_isPlan ({ frames := 0, cells := 0, slots := 0, locals := 0 }) (va_Pc [.ref h0, .int p1] (fun U => U.heap.size = sz ∧ va_P (dC, dI) vwCl (wd_c_X11_isPlan h0 h0_0 h0_1 h0_2 h0_3 h0_4 h0_f5 h0_6 h0_7 h0_8 h0_9 h0_10 h0_11 h0_12 h0_13 h0_14 h0_f15) U.heap ∧ va_K (dC, dI) vwCl [] U ∧ va_D (fun _ => True) (wd_c_X11_isPlan h0 h0_0 h0_1 h0_2 h0_3 h0_4 h0_f5 h0_6 h0_7 h0_8 h0_9 h0_10 h0_11 h0_12 h0_13 h0_14 h0_f15))) (va_Qi (fun (r : Int32) (u : Unit) => (r = 0 ∧ RG p1 (-2147483648) 2147483647) ∨ (r = 1 ∧ RG h0_f5 1 4 ∧ RG p1 0 3)) (fun (u : Unit) t => va_P (dC, dI) vwCl (wd_c_X11_isPlan h0 h0_0 h0_1 h0_2 h0_3 h0_4 h0_f5 h0_6 h0_7 h0_8 h0_9 h0_10 h0_11 h0_12 h0_13 h0_14 h0_f15) t.heap ∧ va_K (dC, dI) vwCl [] t ∧ va_D (va_A (wd_c_X11_isPlan h0 h0_0 h0_1 h0_2 h0_3 h0_4 h0_f5 h0_6 h0_7 h0_8 h0_9 h0_10 h0_11 h0_12 h0_13 h0_14 h0_f15) sz) (wd_c_X11_isPlan h0 h0_0 h0_1 h0_2 h0_3 h0_4 h0_f5 h0_6 h0_7 h0_8 h0_9 h0_10 h0_11 h0_12 h0_13 h0_14 h0_f15)) (va_A (wd_c_X11_isPlan h0 h0_0 h0_1 h0_2 h0_3 h0_4 h0_f5 h0_6 h0_7 h0_8 h0_9 h0_10 h0_11 h0_12 h0_13 h0_14 h0_f15) sz)) 0 0 (va_A (wd_c_X11_isPlan h0 h0_0 h0_1 h0_2 h0_3 h0_4 h0_f5 h0_6 h0_7 h0_8 h0_9 h0_10 h0_11 h0_12 h0_13 h0_14 h0_f15) sz) := by
  refine Met.ofW (cc := cX11_isPlan) (maxL := 2) (ret := (some .boolean)) (by decide) rfl ?_
  intro p e s m args below meth c s₁ B hml hv
  obtain ⟨rfl, hsz, hP, hK, hD0⟩ := hv
  have hx := B.exec
  have hb := B.bytes
  have hr := B.returns
  have hts := atoms_spec (ws := wf_c_X11_isPlan) B.pre
  have hown : s.vm.findClass RX11 = some m.cls := findClass_of_methodNamed B.named
  have hlocks := B.notSynchronized
  subst hsz
  have hD := hD0.self (sz := s.heap.size)
  generalize hAe : va_A (wd_c_X11_isPlan h0 h0_0 h0_1 h0_2 h0_3 h0_4 h0_f5 h0_6 h0_7 h0_8 h0_9 h0_10 h0_11 h0_12 h0_13 h0_14 h0_f15) s.heap.size = A at hD ⊢
  have hA : ∀ q : Nat, s.heap.size ≤ q → A q := fun q h => by rw [← hAe]; exact Or.inr h
  have hP : va_P (dC, dI) vwCl (wd_c_X11_isPlan h0 h0_0 h0_1 h0_2 h0_3 h0_4 h0_f5 h0_6 h0_7 h0_8 h0_9 h0_10 h0_11 h0_12 h0_13 h0_14 h0_f15) s.heap := hP
  have hl := lv_entry ([.ref h0, .int p1]) (n := 2) (Nat.le_of_ble_eq_true rfl)
  rw [lg_entry_eq]
  generalize (lg_sl ([.ref h0, .int p1]) ++ List.replicate (2 - (lg_sl ([.ref h0, .int p1])).length) Slot.unset).toArray = ls at hl ⊢
  have hl : lv_has ls 2 [(0, .ref h0), (1, .int p1)] := hl
  obtain ⟨H, hHe⟩ : ∃ H : Heap, s.heap = H := ⟨_, rfl⟩
  have hS : va_S A s.heap H [] := by rw [hHe]; exact va_S.rf
  have hP : va_P (dC, dI) vwCl (wd_c_X11_isPlan h0 h0_0 h0_1 h0_2 h0_3 h0_4 h0_f5 h0_6 h0_7 h0_8 h0_9 h0_10 h0_11 h0_12 h0_13 h0_14 h0_f15) H := by rw [← hHe]; exact hP
  rw [hHe]
  refine lv_iload_n hx hb dX11_isPlan_0 rfl (lv_at hl 1 rfl) ?_
  refine lv_if_lt (tgt := 16) hx hb dX11_isPlan_1 rfl (fun c_1 => ?_) (fun c_1 => ?_)
  · have g_2 : RG p1 (-2147483648) (-1) := RG_lt1 (RG_any p1) (RG_k 0 0 rfl) c_1 (by decide)
    refine lv_iconst (v := 0) hx hb dX11_isPlan_16 kc_iconst_0 ?_
    have hK9 := hK.sub (tys' := []) [] rfl
    exact W.zret (v := 0) hx hb hr rfl (fun t ht hW => ⟨⟨0, (), rfl, (Or.inl ⟨rfl, (RG_w g_2 (by decide))⟩), by rw [ht]; exact hP, va_K.moved hW.alike hK9, hD⟩, hS.F ht⟩) hS.2.2 dX11_isPlan_17
  · have d_3 := Int32.not_lt.mp c_1
    have g_4 : RG p1 0 2147483647 := RG_le2 (RG_k 0 0 rfl) (RG_any p1) d_3 (by decide)
    refine lv_iload_n hx hb dX11_isPlan_4 rfl (lv_at hl 1 rfl) ?_
    refine lv_aload_n hx hb dX11_isPlan_5 rfl (lv_at hl 0 rfl) ?_
    refine va_get (D := (dC, dI)) (ci := 11) (v := .int h0_f5) (C := RX11) (T := TX11) (N := 16) hx hb hts iw_c_X11_isPlan_X11 hown hK hP 0 rfl rfl 5 (by decide) (hts (.fieldLink RX11 126 "BuoyVote" "planCount" "I") (List.mem_of_getElem? (i := 1) rfl)) (fun _ h9 => h9) rfl dX11_isPlan_6 ?_
    refine lv_icmp_ge (tgt := 16) hx hb dX11_isPlan_9 rfl (fun c_5 => ?_) (fun c_5 => ?_)
    · refine lv_iconst (v := 0) hx hb dX11_isPlan_16 kc_iconst_0 ?_
      have hK9 := hK.sub (tys' := []) [] rfl
      exact W.zret (v := 0) hx hb hr rfl (fun t ht hW => ⟨⟨0, (), rfl, (Or.inl ⟨rfl, (RG_w g_4 (by decide))⟩), by rw [ht]; exact hP, va_K.moved hW.alike hK9, hD⟩, hS.F ht⟩) hS.2.2 dX11_isPlan_17
    · have d_6 := Int32.not_le.mp c_5
      have g_7 : RG p1 0 3 := RG_lt1 g_4 g_h0_f5 d_6 (by decide)
      have g_8 : RG h0_f5 1 4 := RG_lt2 g_4 g_h0_f5 d_6 (by decide)
      refine lv_iconst (v := 1) hx hb dX11_isPlan_12 kc_iconst_1 ?_
      refine lv_goto (tgt := 17) hx hb dX11_isPlan_13 rfl ?_
      have hK9 := hK.sub (tys' := []) [] rfl
      exact W.zret (v := 1) hx hb hr rfl (fun t ht hW => ⟨⟨1, (), rfl, (Or.inr ⟨rfl, g_8, g_7⟩), by rw [ht]; exact hP, va_K.moved hW.alike hK9, hD⟩, hS.F ht⟩) hS.2.2 dX11_isPlan_17
def wf_c_X11_isWithin_4 : List Cond := .code yX11_isWithin cX11_isWithin 3 (some .boolean) :: ([])
set_option maxHeartbeats 4000000 in
set_option maxRecDepth 100000 in
theorem c_X11_isWithin_4 (l : Launch) (dC : Nat → ClassId) (dI : Nat → Nat → Nat) (sz : Nat) (p0 : Int32) (p2 : Int32) (g_p2 : RG p2 (-1) 15) : Met l yX11_isWithin wf_c_X11_isWithin_4 ({ frames := 0, cells := 0, slots := 0, locals := 0 }) (va_Pc [.int p0, .int 0, .int p2] (fun U => U.heap.size = sz ∧ va_P (dC, dI) vwCl [] U.heap ∧ va_K (dC, dI) vwCl [] U ∧ va_D (fun _ => True) [])) (va_Qi (fun (r : Int32) (u : Unit) => (r = 0 ∧ RG p0 (-2147483648) 2147483647) ∨ (r = 1 ∧ RG p0 0 15 ∧ RG p2 0 15 ∧ p0.toInt ≤ p2.toInt + 0)) (fun (u : Unit) t => va_P (dC, dI) vwCl [] t.heap ∧ va_K (dC, dI) vwCl [] t ∧ va_D (va_A [] sz) []) (va_A [] sz)) 0 0 (va_A [] sz) := by
  refine Met.ofW (cc := cX11_isWithin) (maxL := 3) (ret := (some .boolean)) (by decide) rfl ?_
  intro p e s m args below meth c s₁ B hml hv
  obtain ⟨rfl, hsz, hP, hK, hD0⟩ := hv
  have hx := B.exec
  have hb := B.bytes
  have hr := B.returns
  have hts := atoms_spec (ws := wf_c_X11_isWithin_4) B.pre
  have hown : s.vm.findClass RX11 = some m.cls := findClass_of_methodNamed B.named
  have hlocks := B.notSynchronized
  subst hsz
  have hD := hD0.self (sz := s.heap.size)
  generalize hAe : va_A [] s.heap.size = A at hD ⊢
  have hA : ∀ q : Nat, s.heap.size ≤ q → A q := fun q h => by rw [← hAe]; exact Or.inr h
  have hP : va_P (dC, dI) vwCl [] s.heap := hP
  have hl := lv_entry ([.int p0, .int 0, .int p2]) (n := 3) (Nat.le_of_ble_eq_true rfl)
  rw [lg_entry_eq]
  generalize (lg_sl ([.int p0, .int 0, .int p2]) ++ List.replicate (3 - (lg_sl ([.int p0, .int 0, .int p2])).length) Slot.unset).toArray = ls at hl ⊢
  have hl : lv_has ls 3 [(0, .int p0), (1, .int 0), (2, .int p2)] := hl
  obtain ⟨H, hHe⟩ : ∃ H : Heap, s.heap = H := ⟨_, rfl⟩
  have hS : va_S A s.heap H [] := by rw [hHe]; exact va_S.rf
  have hP : va_P (dC, dI) vwCl [] H := by rw [← hHe]; exact hP
  rw [hHe]
  refine lv_iload_n hx hb dX11_isWithin_0 rfl (lv_at hl 0 rfl) ?_
  refine lv_iload_n hx hb dX11_isWithin_1 rfl (lv_at hl 1 rfl) ?_
  refine lv_icmp_lt (tgt := 14) hx hb dX11_isWithin_2 rfl (fun c_1 => ?_) (fun c_1 => ?_)
  · have g_2 : RG p0 (-2147483648) (-1) := RG_lt1 (RG_any p0) (RG_k 0 0 rfl) c_1 (by decide)
    refine lv_iconst (v := 0) hx hb dX11_isWithin_14 kc_iconst_0 ?_
    have hK9 := hK.sub (tys' := []) [] rfl
    exact W.zret (v := 0) hx hb hr rfl (fun t ht hW => ⟨⟨0, (), rfl, (Or.inl ⟨rfl, (RG_w g_2 (by decide))⟩), by rw [ht]; exact hP, va_K.moved hW.alike hK9, hD⟩, hS.F ht⟩) hS.2.2 dX11_isWithin_15
  · have d_3 := Int32.not_lt.mp c_1
    have g_4 : RG p0 0 2147483647 := RG_le2 (RG_k 0 0 rfl) (RG_any p0) d_3 (by decide)
    refine lv_iload_n hx hb dX11_isWithin_5 rfl (lv_at hl 0 rfl) ?_
    refine lv_iload_n hx hb dX11_isWithin_6 rfl (lv_at hl 2 rfl) ?_
    refine lv_icmp_gt (tgt := 14) hx hb dX11_isWithin_7 rfl (fun c_5 => ?_) (fun c_5 => ?_)
    · have b_6 : p2.toInt ≤ p0.toInt + (-1) := by have := Int32.lt_iff_toInt_lt.mp c_5; omega
      refine lv_iconst (v := 0) hx hb dX11_isWithin_14 kc_iconst_0 ?_
      have hK9 := hK.sub (tys' := []) [] rfl
      exact W.zret (v := 0) hx hb hr rfl (fun t ht hW => ⟨⟨0, (), rfl, (Or.inl ⟨rfl, (RG_w g_4 (by decide))⟩), by rw [ht]; exact hP, va_K.moved hW.alike hK9, hD⟩, hS.F ht⟩) hS.2.2 dX11_isWithin_15
    · have d_7 := Int32.not_lt.mp c_5
      have b_8 : p0.toInt ≤ p2.toInt + 0 := by have := Int32.le_iff_toInt_le.mp d_7; omega
      have g_9 : RG p0 0 15 := RG_le1 g_4 g_p2 d_7 (by decide)
      have g_10 : RG p2 0 15 := RG_le2 g_4 g_p2 d_7 (by decide)
      refine lv_iconst (v := 1) hx hb dX11_isWithin_10 kc_iconst_1 ?_
      refine lv_goto (tgt := 15) hx hb dX11_isWithin_11 rfl ?_
      have hK9 := hK.sub (tys' := []) [] rfl
      exact W.zret (v := 1) hx hb hr rfl (fun t ht hW => ⟨⟨1, (), rfl, (Or.inr ⟨rfl, g_9, g_10, (by have := b_8; have := (g_9).2; have := (g_10).1; show p0.toInt ≤ p2.toInt + 0; omega)⟩), by rw [ht]; exact hP, va_K.moved hW.alike hK9, hD⟩, hS.F ht⟩) hS.2.2 dX11_isWithin_15
def wf_c_X11_isWithin_5 : List Cond := .code yX11_isWithin cX11_isWithin 3 (some .boolean) :: ([])
set_option maxHeartbeats 4000000 in
set_option maxRecDepth 100000 in
theorem c_X11_isWithin_5 (l : Launch) (dC : Nat → ClassId) (dI : Nat → Nat → Nat) (sz : Nat) (p0 : Int32) : Met l yX11_isWithin wf_c_X11_isWithin_5 ({ frames := 0, cells := 0, slots := 0, locals := 0 }) (va_Pc [.int p0, .int 0, .int 3] (fun U => U.heap.size = sz ∧ va_P (dC, dI) vwCl [] U.heap ∧ va_K (dC, dI) vwCl [] U ∧ va_D (fun _ => True) [])) (va_Qi (fun (r : Int32) (u : Unit) => (r = 0 ∧ RG p0 (-2147483648) 2147483647) ∨ (r = 1 ∧ RG p0 0 3)) (fun (u : Unit) t => va_P (dC, dI) vwCl [] t.heap ∧ va_K (dC, dI) vwCl [] t ∧ va_D (va_A [] sz) []) (va_A [] sz)) 0 0 (va_A [] sz) := by
  refine Met.ofW (cc := cX11_isWithin) (maxL := 3) (ret := (some .boolean)) (by decide) rfl ?_
  intro p e s m args below meth c s₁ B hml hv
  obtain ⟨rfl, hsz, hP, hK, hD0⟩ := hv
  have hx := B.exec
  have hb := B.bytes
  have hr := B.returns
  have hts := atoms_spec (ws := wf_c_X11_isWithin_5) B.pre
  have hown : s.vm.findClass RX11 = some m.cls := findClass_of_methodNamed B.named
  have hlocks := B.notSynchronized
  subst hsz
  have hD := hD0.self (sz := s.heap.size)
  generalize hAe : va_A [] s.heap.size = A at hD ⊢
  have hA : ∀ q : Nat, s.heap.size ≤ q → A q := fun q h => by rw [← hAe]; exact Or.inr h
  have hP : va_P (dC, dI) vwCl [] s.heap := hP
  have hl := lv_entry ([.int p0, .int 0, .int 3]) (n := 3) (Nat.le_of_ble_eq_true rfl)
  rw [lg_entry_eq]
  generalize (lg_sl ([.int p0, .int 0, .int 3]) ++ List.replicate (3 - (lg_sl ([.int p0, .int 0, .int 3])).length) Slot.unset).toArray = ls at hl ⊢
  have hl : lv_has ls 3 [(0, .int p0), (1, .int 0), (2, .int 3)] := hl
  obtain ⟨H, hHe⟩ : ∃ H : Heap, s.heap = H := ⟨_, rfl⟩
  have hS : va_S A s.heap H [] := by rw [hHe]; exact va_S.rf
  have hP : va_P (dC, dI) vwCl [] H := by rw [← hHe]; exact hP
  rw [hHe]
  refine lv_iload_n hx hb dX11_isWithin_0 rfl (lv_at hl 0 rfl) ?_
  refine lv_iload_n hx hb dX11_isWithin_1 rfl (lv_at hl 1 rfl) ?_
  refine lv_icmp_lt (tgt := 14) hx hb dX11_isWithin_2 rfl (fun c_1 => ?_) (fun c_1 => ?_)
  · have g_2 : RG p0 (-2147483648) (-1) := RG_lt1 (RG_any p0) (RG_k 0 0 rfl) c_1 (by decide)
    refine lv_iconst (v := 0) hx hb dX11_isWithin_14 kc_iconst_0 ?_
    have hK9 := hK.sub (tys' := []) [] rfl
    exact W.zret (v := 0) hx hb hr rfl (fun t ht hW => ⟨⟨0, (), rfl, (Or.inl ⟨rfl, (RG_w g_2 (by decide))⟩), by rw [ht]; exact hP, va_K.moved hW.alike hK9, hD⟩, hS.F ht⟩) hS.2.2 dX11_isWithin_15
  · have d_3 := Int32.not_lt.mp c_1
    have g_4 : RG p0 0 2147483647 := RG_le2 (RG_k 0 0 rfl) (RG_any p0) d_3 (by decide)
    refine lv_iload_n hx hb dX11_isWithin_5 rfl (lv_at hl 0 rfl) ?_
    refine lv_iload_n hx hb dX11_isWithin_6 rfl (lv_at hl 2 rfl) ?_
    refine lv_icmp_gt (tgt := 14) hx hb dX11_isWithin_7 rfl (fun c_5 => ?_) (fun c_5 => ?_)
    · have g_6 : RG p0 4 2147483647 := RG_lt2 (RG_k 3 3 rfl) g_4 c_5 (by decide)
      refine lv_iconst (v := 0) hx hb dX11_isWithin_14 kc_iconst_0 ?_
      have hK9 := hK.sub (tys' := []) [] rfl
      exact W.zret (v := 0) hx hb hr rfl (fun t ht hW => ⟨⟨0, (), rfl, (Or.inl ⟨rfl, (RG_w g_6 (by decide))⟩), by rw [ht]; exact hP, va_K.moved hW.alike hK9, hD⟩, hS.F ht⟩) hS.2.2 dX11_isWithin_15
    · have d_7 := Int32.not_lt.mp c_5
      have g_8 : RG p0 0 3 := RG_le1 g_4 (RG_k 3 3 rfl) d_7 (by decide)
      refine lv_iconst (v := 1) hx hb dX11_isWithin_10 kc_iconst_1 ?_
      refine lv_goto (tgt := 15) hx hb dX11_isWithin_11 rfl ?_
      have hK9 := hK.sub (tys' := []) [] rfl
      exact W.zret (v := 1) hx hb hr rfl (fun t ht hW => ⟨⟨1, (), rfl, (Or.inr ⟨rfl, g_8⟩), by rw [ht]; exact hP, va_K.moved hW.alike hK9, hD⟩, hS.F ht⟩) hS.2.2 dX11_isWithin_15
def wd_c_X6_part (a0 : Nat) (a1 : Nat) (a2 : Int32) (a3 : Nat) (a4 : ClassId) (a5 : Nat → Int32) : va_W := [(a0, .inr (6, [.ref a1, .int a2])), (a3, .inl (a4, 64, .inl a5))]
def wf_c_X6_part : List Cond := .code yX6_part cX6_part 3 (some .int) :: ([.fieldLink RX6 11 "BuoyVote$Plan" "cells" "[I"] ++ wsX60)
theorem iw_c_X6_part_X6 : ∀ w ∈ wsX60, w ∈ wf_c_X6_part := fun w h => List.mem_cons_of_mem _ (List.mem_append_right _ h)
set_option maxHeartbeats 4000000 in
set_option maxRecDepth 100000 in
theorem c_X6_part (l : Launch) (dC : Nat → ClassId) (dI : Nat → Nat → Nat) (sz : Nat) (h0 : Nat) (p1 : Int32) (p2 : Int32) (h0_0 : Nat) (h0_f1 : Int32) (h0_0k : ClassId) (h0_0c : Nat → Int32) (g_p1 : RG p1 0 15) (g_p2 : RG p2 0 3) (g_h0_f1 : RG h0_f1 0 16) (a_h0_0c : AI h0_0c (-1) 9) : Met l yX6_part wf_c_X6_part ({ frames := 0, cells := 0, slots := 0, locals := 0 }) (va_Pc [.ref h0, .int p1, .int p2] (fun U => U.heap.size = sz ∧ va_P (dC, dI) vwCl (wd_c_X6_part h0 h0_0 h0_f1 h0_0 h0_0k h0_0c) U.heap ∧ va_K (dC, dI) vwCl [(h0_0k, .int)] U ∧ va_D (fun _ => True) (wd_c_X6_part h0 h0_0 h0_f1 h0_0 h0_0k h0_0c))) (va_Qi (fun (r : Int32) (u : Unit) => (RG r (-1) 9 ∧ r = h0_0c (p1 * 4 + p2).toNatClampNeg)) (fun (u : Unit) t => va_P (dC, dI) vwCl (wd_c_X6_part h0 h0_0 h0_f1 h0_0 h0_0k h0_0c) t.heap ∧ va_K (dC, dI) vwCl [] t ∧ va_D (va_A (wd_c_X6_part h0 h0_0 h0_f1 h0_0 h0_0k h0_0c) sz) (wd_c_X6_part h0 h0_0 h0_f1 h0_0 h0_0k h0_0c)) (va_A (wd_c_X6_part h0 h0_0 h0_f1 h0_0 h0_0k h0_0c) sz)) 0 0 (va_A (wd_c_X6_part h0 h0_0 h0_f1 h0_0 h0_0k h0_0c) sz) := by
  refine Met.ofW (cc := cX6_part) (maxL := 3) (ret := (some .int)) (by decide) rfl ?_
  intro p e s m args below meth c s₁ B hml hv
  obtain ⟨rfl, hsz, hP, hK, hD0⟩ := hv
  have hx := B.exec
  have hb := B.bytes
  have hr := B.returns
  have hts := atoms_spec (ws := wf_c_X6_part) B.pre
  have hown : s.vm.findClass RX6 = some m.cls := findClass_of_methodNamed B.named
  have hlocks := B.notSynchronized
  subst hsz
  have hD := hD0.self (sz := s.heap.size)
  generalize hAe : va_A (wd_c_X6_part h0 h0_0 h0_f1 h0_0 h0_0k h0_0c) s.heap.size = A at hD ⊢
  have hA : ∀ q : Nat, s.heap.size ≤ q → A q := fun q h => by rw [← hAe]; exact Or.inr h
  have hP : va_P (dC, dI) vwCl (wd_c_X6_part h0 h0_0 h0_f1 h0_0 h0_0k h0_0c) s.heap := hP
  have hl := lv_entry ([.ref h0, .int p1, .int p2]) (n := 3) (Nat.le_of_ble_eq_true rfl)
  rw [lg_entry_eq]
  generalize (lg_sl ([.ref h0, .int p1, .int p2]) ++ List.replicate (3 - (lg_sl ([.ref h0, .int p1, .int p2])).length) Slot.unset).toArray = ls at hl ⊢
  have hl : lv_has ls 3 [(0, .ref h0), (1, .int p1), (2, .int p2)] := hl
  obtain ⟨H, hHe⟩ : ∃ H : Heap, s.heap = H := ⟨_, rfl⟩
  have hS : va_S A s.heap H [] := by rw [hHe]; exact va_S.rf
  have hP : va_P (dC, dI) vwCl (wd_c_X6_part h0 h0_0 h0_f1 h0_0 h0_0k h0_0c) H := by rw [← hHe]; exact hP
  rw [hHe]
  refine lv_aload_n hx hb dX6_part_0 rfl (lv_at hl 0 rfl) ?_
  refine va_get (D := (dC, dI)) (ci := 6) (v := .ref h0_0) (C := RX6) (T := TX6) (N := 2) hx hb hts iw_c_X6_part_X6 hown hK hP 0 rfl rfl 0 (by decide) (hts (.fieldLink RX6 11 "BuoyVote$Plan" "cells" "[I") (List.mem_of_getElem? (i := 1) rfl)) (fun _ h9 => h9) rfl dX6_part_1 ?_
  refine lv_iload_n hx hb dX6_part_4 rfl (lv_at hl 1 rfl) ?_
  refine lv_iconst (v := 4) hx hb dX6_part_5 kc_iconst_4 ?_
  refine lv_imul hx hb dX6_part_6 ?_
  refine lv_topi (fun x_1 ex_1 => ?_)
  have g_2 : RG x_1 0 60 := RG_mulc ex_1 (q := 4) rfl g_p1 (by decide)
  refine lv_iload_n hx hb dX6_part_7 rfl (lv_at hl 2 rfl) ?_
  refine lv_iadd hx hb dX6_part_8 ?_
  refine lv_topi (fun x_3 ex_3 => ?_)
  have g_4 : RG x_3 0 63 := RG_add ex_3 g_2 g_p2 (by decide)
  refine va_iald hx hb hK hP 1 0 rfl rfl (RG_in g_4 (by decide)) dX6_part_9 ?_
  refine lv_topi (fun x_5 ex_5 => ?_)
  have g_6 : RG x_5 (-1) 9 := AI_rd a_h0_0c ex_5
  have hK9 := hK.sub (tys' := []) [] rfl
  exact W.iret (v := x_5) hx hb hr (fun t ht hW => ⟨⟨x_5, (), rfl, ⟨g_6, (by rw [ex_5, ex_3, ex_1])⟩, by rw [ht]; exact hP, va_K.moved hW.alike hK9, hD⟩, hS.F ht⟩) hS.2.2 dX6_part_10
def wd_c_X11_step (a0 : Nat) (a1 : Nat) (a2 : Nat) (a3 : Nat) (a4 : Nat) (a5 : Nat) (a6 : Int32) (a7 : Nat) (a8 : Nat) (a9 : Nat) (a10 : Nat) (a11 : Nat) (a12 : Nat) (a13 : Nat) (a14 : Nat) (a15 : Nat) (a16 : Int64) (a17 : Nat) (a18 : ClassId) (a19 : Nat → Option Nat) (a20 : Nat) (a21 : Nat) (a22 : Int32) (a23 : Nat) (a24 : ClassId) (a25 : Nat → Int32) (a26 : Nat) (a27 : Nat) (a28 : Int32) (a29 : Nat) (a30 : ClassId) (a31 : Nat → Int32) (a32 : Nat) (a33 : Nat) (a34 : Int32) (a35 : Nat) (a36 : ClassId) (a37 : Nat → Int32) (a38 : Nat) (a39 : Nat) (a40 : Int32) (a41 : Nat) (a42 : ClassId) (a43 : Nat → Int32) : va_W := [(a0, .inr (11, [.ref a1, .ref a2, .ref a3, .ref a4, .ref a5, .int a6, .ref a7, .ref a8, .ref a9, .ref a10, .ref a11, .ref a12, .ref a13, .ref a14, .ref a15, .long a16])), (a17, .inl (a18, 5, .inr (.inr (.inr (.inr a19))))), (a20, .inr (6, [.ref a21, .int a22])), (a23, .inl (a24, 64, .inl a25)), (a26, .inr (6, [.ref a27, .int a28])), (a29, .inl (a30, 64, .inl a31)), (a32, .inr (6, [.ref a33, .int a34])), (a35, .inl (a36, 64, .inl a37)), (a38, .inr (6, [.ref a39, .int a40])), (a41, .inl (a42, 64, .inl a43))]
def wf_c_X11_step : List Cond := .code yX11_step cX11_step 4 (some .int) :: ([.methodLink RX11 293 yX11_isPlan, .instanceMethod yX11_isPlan, .selects RX11 yX11_isPlan yX11_isPlan, .initialized RX11, .code yX11_isPlan cX11_isPlan 2 (some .boolean), .fieldLink RX11 126 "BuoyVote" "planCount" "I", .constant RX11 228 (-1000000), .fieldLink RX11 35 "BuoyVote" "plans" "[LBuoyVote$Plan;", .fieldLink RX11 296 "BuoyVote$Plan" "steps" "I", .methodLink RX11 111 yX11_isWithin, .static yX11_isWithin, .code yX11_isWithin cX11_isWithin 3 (some .boolean), .methodLink RX11 299 yX6_part, .instanceMethod yX6_part, .selects RX6 yX6_part yX6_part, .initialized RX6, .code yX6_part cX6_part 3 (some .int), .fieldLink RX6 11 "BuoyVote$Plan" "cells" "[I"] ++ wsX110 ++ wsX60)
theorem iw_c_X11_step_X11 : ∀ w ∈ wsX110, w ∈ wf_c_X11_step := fun w h => List.mem_cons_of_mem _ (List.mem_append_left _ (List.mem_append_right _ h))
theorem iw_c_X11_step_X6 : ∀ w ∈ wsX60, w ∈ wf_c_X11_step := fun w h => List.mem_cons_of_mem _ (List.mem_append_right _ h)
set_option maxRecDepth 20000 in
theorem gf_c_X11_step_c_X11_isPlan : GoodIn wf_c_X11_step (wsV RX11 293 RX11 yX11_isPlan wf_c_X11_isPlan) := goodIn_app (gi_cons (j := 1) rfl rfl (gi_cons (j := 2) rfl rfl (gi_cons (j := 3) rfl rfl (gi_cons (j := 4) rfl rfl (gi_nil))))) (gi_cons (j := 5) rfl rfl (goodIn_app (gi_cons (j := 6) rfl rfl (gi_nil)) (goodIn_sub iw_c_X11_step_X11 gw_X11)))
set_option maxRecDepth 20000 in
theorem gf_c_X11_step_c_X11_isWithin_4 : GoodIn wf_c_X11_step (va_wsS RX11 111 yX11_isWithin wf_c_X11_isWithin_4) := goodIn_app (gi_cons (j := 10) rfl rfl (gi_cons (j := 11) rfl rfl (gi_cons (j := 4) rfl rfl (gi_nil)))) (gi_cons (j := 12) rfl rfl (gi_nil))
set_option maxRecDepth 20000 in
theorem gf_c_X11_step_c_X11_isWithin_5 : GoodIn wf_c_X11_step (va_wsS RX11 111 yX11_isWithin wf_c_X11_isWithin_5) := goodIn_app (gi_cons (j := 10) rfl rfl (gi_cons (j := 11) rfl rfl (gi_cons (j := 4) rfl rfl (gi_nil)))) (gi_cons (j := 12) rfl rfl (gi_nil))
set_option maxRecDepth 20000 in
theorem gf_c_X11_step_c_X6_part : GoodIn wf_c_X11_step (wsV RX11 299 RX6 yX6_part wf_c_X6_part) := goodIn_app (gi_cons (j := 13) rfl rfl (gi_cons (j := 14) rfl rfl (gi_cons (j := 15) rfl rfl (gi_cons (j := 16) rfl rfl (gi_nil))))) (gi_cons (j := 17) rfl rfl (goodIn_app (gi_cons (j := 18) rfl rfl (gi_nil)) (goodIn_sub iw_c_X11_step_X6 gw_X6)))
set_option maxHeartbeats 4000000 in
set_option maxRecDepth 100000 in
theorem c_X11_step (l : Launch) (dC : Nat → ClassId) (dI : Nat → Nat → Nat) (sz : Nat) (h0 : Nat) (p1 : Int32) (p2 : Int32) (p3 : Int32) (h0_0 : Nat) (h0_1 : Nat) (h0_2 : Nat) (h0_3 : Nat) (h0_4 : Nat) (h0_f5 : Int32) (h0_6 : Nat) (h0_7 : Nat) (h0_8 : Nat) (h0_9 : Nat) (h0_10 : Nat) (h0_11 : Nat) (h0_12 : Nat) (h0_13 : Nat) (h0_14 : Nat) (h0_f15 : Int64) (h0_4k : ClassId) (h0_4c : Nat → Option Nat) (h0_4_e0 : Nat) (h0_4_e1 : Nat) (h0_4_e2 : Nat) (h0_4_e3 : Nat) (h0_4_e4 : Nat) (h0_4_e0_0 : Nat) (h0_4_e0_f1 : Int32) (h0_4_e0_0k : ClassId) (h0_4_e0_0c : Nat → Int32) (h0_4_e1_0 : Nat) (h0_4_e1_f1 : Int32) (h0_4_e1_0k : ClassId) (h0_4_e1_0c : Nat → Int32) (h0_4_e2_0 : Nat) (h0_4_e2_f1 : Int32) (h0_4_e2_0k : ClassId) (h0_4_e2_0c : Nat → Int32) (h0_4_e3_0 : Nat) (h0_4_e3_f1 : Int32) (h0_4_e3_0k : ClassId) (h0_4_e3_0c : Nat → Int32) (g_h0_f5 : RG h0_f5 0 4) (e_h0_4_e0 : h0_4c 0 = some h0_4_e0) (e_h0_4_e1 : h0_4c 1 = some h0_4_e1) (e_h0_4_e2 : h0_4c 2 = some h0_4_e2) (e_h0_4_e3 : h0_4c 3 = some h0_4_e3) (e_h0_4_e4 : h0_4c 4 = some h0_4_e4) (g_h0_4_e0_f1 : RG h0_4_e0_f1 0 16) (a_h0_4_e0_0c : AI h0_4_e0_0c (-1) 9) (g_h0_4_e1_f1 : RG h0_4_e1_f1 0 16) (a_h0_4_e1_0c : AI h0_4_e1_0c (-1) 9) (g_h0_4_e2_f1 : RG h0_4_e2_f1 0 16) (a_h0_4_e2_0c : AI h0_4_e2_0c (-1) 9) (g_h0_4_e3_f1 : RG h0_4_e3_f1 0 16) (a_h0_4_e3_0c : AI h0_4_e3_0c (-1) 9) : Met l yX11_step wf_c_X11_step ({ frames := 1, cells := 0, slots := 0, locals := 22 }) (va_Pc [.ref h0, .int p1, .int p2, .int p3] (fun U => U.heap.size = sz ∧ va_P (dC, dI) vwCl (wd_c_X11_step h0 h0_0 h0_1 h0_2 h0_3 h0_4 h0_f5 h0_6 h0_7 h0_8 h0_9 h0_10 h0_11 h0_12 h0_13 h0_14 h0_f15 h0_4 h0_4k h0_4c h0_4_e0 h0_4_e0_0 h0_4_e0_f1 h0_4_e0_0 h0_4_e0_0k h0_4_e0_0c h0_4_e1 h0_4_e1_0 h0_4_e1_f1 h0_4_e1_0 h0_4_e1_0k h0_4_e1_0c h0_4_e2 h0_4_e2_0 h0_4_e2_f1 h0_4_e2_0 h0_4_e2_0k h0_4_e2_0c h0_4_e3 h0_4_e3_0 h0_4_e3_f1 h0_4_e3_0 h0_4_e3_0k h0_4_e3_0c) U.heap ∧ va_K (dC, dI) vwCl [(h0_4k, .object RX6), (h0_4_e0_0k, .int), (h0_4_e1_0k, .int), (h0_4_e2_0k, .int), (h0_4_e3_0k, .int)] U ∧ va_D (fun _ => True) (wd_c_X11_step h0 h0_0 h0_1 h0_2 h0_3 h0_4 h0_f5 h0_6 h0_7 h0_8 h0_9 h0_10 h0_11 h0_12 h0_13 h0_14 h0_f15 h0_4 h0_4k h0_4c h0_4_e0 h0_4_e0_0 h0_4_e0_f1 h0_4_e0_0 h0_4_e0_0k h0_4_e0_0c h0_4_e1 h0_4_e1_0 h0_4_e1_f1 h0_4_e1_0 h0_4_e1_0k h0_4_e1_0c h0_4_e2 h0_4_e2_0 h0_4_e2_f1 h0_4_e2_0 h0_4_e2_0k h0_4_e2_0c h0_4_e3 h0_4_e3_0 h0_4_e3_f1 h0_4_e3_0 h0_4_e3_0k h0_4_e3_0c))) (va_Qi (fun (r : Int32) (u : Unit) => (r = (-1000000)) ∨ (RG r (-1) 9 ∧ RG h0_f5 1 4 ∧ RG p1 0 3 ∧ RG p2 0 15 ∧ RG p3 0 3)) (fun (u : Unit) t => va_P (dC, dI) vwCl (wd_c_X11_step h0 h0_0 h0_1 h0_2 h0_3 h0_4 h0_f5 h0_6 h0_7 h0_8 h0_9 h0_10 h0_11 h0_12 h0_13 h0_14 h0_f15 h0_4 h0_4k h0_4c h0_4_e0 h0_4_e0_0 h0_4_e0_f1 h0_4_e0_0 h0_4_e0_0k h0_4_e0_0c h0_4_e1 h0_4_e1_0 h0_4_e1_f1 h0_4_e1_0 h0_4_e1_0k h0_4_e1_0c h0_4_e2 h0_4_e2_0 h0_4_e2_f1 h0_4_e2_0 h0_4_e2_0k h0_4_e2_0c h0_4_e3 h0_4_e3_0 h0_4_e3_f1 h0_4_e3_0 h0_4_e3_0k h0_4_e3_0c) t.heap ∧ va_K (dC, dI) vwCl [] t ∧ va_D (va_A (wd_c_X11_step h0 h0_0 h0_1 h0_2 h0_3 h0_4 h0_f5 h0_6 h0_7 h0_8 h0_9 h0_10 h0_11 h0_12 h0_13 h0_14 h0_f15 h0_4 h0_4k h0_4c h0_4_e0 h0_4_e0_0 h0_4_e0_f1 h0_4_e0_0 h0_4_e0_0k h0_4_e0_0c h0_4_e1 h0_4_e1_0 h0_4_e1_f1 h0_4_e1_0 h0_4_e1_0k h0_4_e1_0c h0_4_e2 h0_4_e2_0 h0_4_e2_f1 h0_4_e2_0 h0_4_e2_0k h0_4_e2_0c h0_4_e3 h0_4_e3_0 h0_4_e3_f1 h0_4_e3_0 h0_4_e3_0k h0_4_e3_0c) sz) (wd_c_X11_step h0 h0_0 h0_1 h0_2 h0_3 h0_4 h0_f5 h0_6 h0_7 h0_8 h0_9 h0_10 h0_11 h0_12 h0_13 h0_14 h0_f15 h0_4 h0_4k h0_4c h0_4_e0 h0_4_e0_0 h0_4_e0_f1 h0_4_e0_0 h0_4_e0_0k h0_4_e0_0c h0_4_e1 h0_4_e1_0 h0_4_e1_f1 h0_4_e1_0 h0_4_e1_0k h0_4_e1_0c h0_4_e2 h0_4_e2_0 h0_4_e2_f1 h0_4_e2_0 h0_4_e2_0k h0_4_e2_0c h0_4_e3 h0_4_e3_0 h0_4_e3_f1 h0_4_e3_0 h0_4_e3_0k h0_4_e3_0c)) (va_A (wd_c_X11_step h0 h0_0 h0_1 h0_2 h0_3 h0_4 h0_f5 h0_6 h0_7 h0_8 h0_9 h0_10 h0_11 h0_12 h0_13 h0_14 h0_f15 h0_4 h0_4k h0_4c h0_4_e0 h0_4_e0_0 h0_4_e0_f1 h0_4_e0_0 h0_4_e0_0k h0_4_e0_0c h0_4_e1 h0_4_e1_0 h0_4_e1_f1 h0_4_e1_0 h0_4_e1_0k h0_4_e1_0c h0_4_e2 h0_4_e2_0 h0_4_e2_f1 h0_4_e2_0 h0_4_e2_0k h0_4_e2_0c h0_4_e3 h0_4_e3_0 h0_4_e3_f1 h0_4_e3_0 h0_4_e3_0k h0_4_e3_0c) sz)) 0 0 (va_A (wd_c_X11_step h0 h0_0 h0_1 h0_2 h0_3 h0_4 h0_f5 h0_6 h0_7 h0_8 h0_9 h0_10 h0_11 h0_12 h0_13 h0_14 h0_f15 h0_4 h0_4k h0_4c h0_4_e0 h0_4_e0_0 h0_4_e0_f1 h0_4_e0_0 h0_4_e0_0k h0_4_e0_0c h0_4_e1 h0_4_e1_0 h0_4_e1_f1 h0_4_e1_0 h0_4_e1_0k h0_4_e1_0c h0_4_e2 h0_4_e2_0 h0_4_e2_f1 h0_4_e2_0 h0_4_e2_0k h0_4_e2_0c h0_4_e3 h0_4_e3_0 h0_4_e3_f1 h0_4_e3_0 h0_4_e3_0k h0_4_e3_0c) sz) := by
  refine Met.ofW (cc := cX11_step) (maxL := 4) (ret := (some .int)) (by decide) rfl ?_
  intro p e s m args below meth c s₁ B hml hv
  obtain ⟨rfl, hsz, hP, hK, hD0⟩ := hv
  have hx := B.exec
  have hb := B.bytes
  have hr := B.returns
  have hts := atoms_spec (ws := wf_c_X11_step) B.pre
  have hown : s.vm.findClass RX11 = some m.cls := findClass_of_methodNamed B.named
  have hlocks := B.notSynchronized
  subst hsz
  have hD := hD0.self (sz := s.heap.size)
  generalize hAe : va_A (wd_c_X11_step h0 h0_0 h0_1 h0_2 h0_3 h0_4 h0_f5 h0_6 h0_7 h0_8 h0_9 h0_10 h0_11 h0_12 h0_13 h0_14 h0_f15 h0_4 h0_4k h0_4c h0_4_e0 h0_4_e0_0 h0_4_e0_f1 h0_4_e0_0 h0_4_e0_0k h0_4_e0_0c h0_4_e1 h0_4_e1_0 h0_4_e1_f1 h0_4_e1_0 h0_4_e1_0k h0_4_e1_0c h0_4_e2 h0_4_e2_0 h0_4_e2_f1 h0_4_e2_0 h0_4_e2_0k h0_4_e2_0c h0_4_e3 h0_4_e3_0 h0_4_e3_f1 h0_4_e3_0 h0_4_e3_0k h0_4_e3_0c) s.heap.size = A at hD ⊢
  have hA : ∀ q : Nat, s.heap.size ≤ q → A q := fun q h => by rw [← hAe]; exact Or.inr h
  have hP : va_P (dC, dI) vwCl (wd_c_X11_step h0 h0_0 h0_1 h0_2 h0_3 h0_4 h0_f5 h0_6 h0_7 h0_8 h0_9 h0_10 h0_11 h0_12 h0_13 h0_14 h0_f15 h0_4 h0_4k h0_4c h0_4_e0 h0_4_e0_0 h0_4_e0_f1 h0_4_e0_0 h0_4_e0_0k h0_4_e0_0c h0_4_e1 h0_4_e1_0 h0_4_e1_f1 h0_4_e1_0 h0_4_e1_0k h0_4_e1_0c h0_4_e2 h0_4_e2_0 h0_4_e2_f1 h0_4_e2_0 h0_4_e2_0k h0_4_e2_0c h0_4_e3 h0_4_e3_0 h0_4_e3_f1 h0_4_e3_0 h0_4_e3_0k h0_4_e3_0c) s.heap := hP
  have hl := lv_entry ([.ref h0, .int p1, .int p2, .int p3]) (n := 4) (Nat.le_of_ble_eq_true rfl)
  rw [lg_entry_eq]
  generalize (lg_sl ([.ref h0, .int p1, .int p2, .int p3]) ++ List.replicate (4 - (lg_sl ([.ref h0, .int p1, .int p2, .int p3])).length) Slot.unset).toArray = ls at hl ⊢
  have hl : lv_has ls 4 [(0, .ref h0), (1, .int p1), (2, .int p2), (3, .int p3)] := hl
  obtain ⟨H, hHe⟩ : ∃ H : Heap, s.heap = H := ⟨_, rfl⟩
  have hS : va_S A s.heap H [] := by rw [hHe]; exact va_S.rf
  have hP : va_P (dC, dI) vwCl (wd_c_X11_step h0 h0_0 h0_1 h0_2 h0_3 h0_4 h0_f5 h0_6 h0_7 h0_8 h0_9 h0_10 h0_11 h0_12 h0_13 h0_14 h0_f15 h0_4 h0_4k h0_4c h0_4_e0 h0_4_e0_0 h0_4_e0_f1 h0_4_e0_0 h0_4_e0_0k h0_4_e0_0c h0_4_e1 h0_4_e1_0 h0_4_e1_f1 h0_4_e1_0 h0_4_e1_0k h0_4_e1_0c h0_4_e2 h0_4_e2_0 h0_4_e2_f1 h0_4_e2_0 h0_4_e2_0k h0_4_e2_0c h0_4_e3 h0_4_e3_0 h0_4_e3_f1 h0_4_e3_0 h0_4_e3_0k h0_4_e3_0c) H := by rw [← hHe]; exact hP
  rw [hHe]
  refine lv_aload_n hx hb dX11_step_0 rfl (lv_at hl 0 rfl) ?_
  refine lv_iload_n hx hb dX11_step_1 rfl (lv_at hl 1 rfl) ?_
  have hPc := hP.sub (ws' := (wd_c_X11_isPlan h0 h0_0 h0_1 h0_2 h0_3 h0_4 h0_f5 h0_6 h0_7 h0_8 h0_9 h0_10 h0_11 h0_12 h0_13 h0_14 h0_f15)) [0] rfl
  have hDc := hD.sub (ws' := (wd_c_X11_isPlan h0 h0_0 h0_1 h0_2 h0_3 h0_4 h0_f5 h0_6 h0_7 h0_8 h0_9 h0_10 h0_11 h0_12 h0_13 h0_14 h0_f15)) [0] (by decide) rfl
  have hKc := hK.sub (tys' := []) [] rfl
  have hFc := va_free (wc := (wd_c_X11_isPlan h0 h0_0 h0_1 h0_2 h0_3 h0_4 h0_f5 h0_6 h0_7 h0_8 h0_9 h0_10 h0_11 h0_12 h0_13 h0_14 h0_f15)) hD hS hA [0] rfl
  refine va_calli (va_runV (As := [.int p1]) (rest := []) ⟨hx, hb, hml, hown, hts⟩ (c_X11_isPlan l dC dI H.size h0 p1 h0_0 h0_1 h0_2 h0_3 h0_4 h0_f5 h0_6 h0_7 h0_8 h0_9 h0_10 h0_11 h0_12 h0_13 h0_14 h0_f15 g_h0_f5) (cwV 1 hts gf_c_X11_step_c_X11_isPlan rfl rfl rfl (by decide +kernel) ⟨Nat.le_of_ble_eq_true rfl, Nat.le_of_ble_eq_true rfl⟩) ⟨fun a U g mk q => by obtain ⟨q0, q1, qP, qK, qD⟩ := q; exact ⟨q0, q1, qP, va_K.moved (u := U) (U := U.calling g mk a) (Vm.Alike.refl U.vm) qK, qD⟩, va_recv hKc hPc (ci := 11) (q0 := 0) rfl rfl, fun U hU hW => ⟨rfl, by rw [hU], by rw [hU]; exact hPc, va_K.moved hW.alike hKc, hDc.weaken (fun _ _ _ _ => trivial)⟩⟩ rfl rfl hl.1 rfl (lv_room (Nat.le_of_ble_eq_true rfl)) dX11_step_2 ⟨Nat.le_of_ble_eq_true rfl, Nat.le_of_ble_eq_true rfl⟩) hS (fun q _ h => hFc q h) hFc (fun r_1 u t H1 locs ht hvm hw hB hz1 hk1 hS => ?_)
  obtain ⟨hP1, hK1, hD1⟩ := hB
  rw [ht] at hP1
  obtain ⟨hP, hD⟩ := va_join (wr := [(h0_4, .inl (h0_4k, 5, .inr (.inr (.inr (.inr h0_4c))))), (h0_4_e0, .inr (6, [.ref h0_4_e0_0, .int h0_4_e0_f1])), (h0_4_e0_0, .inl (h0_4_e0_0k, 64, .inl h0_4_e0_0c)), (h0_4_e1, .inr (6, [.ref h0_4_e1_0, .int h0_4_e1_f1])), (h0_4_e1_0, .inl (h0_4_e1_0k, 64, .inl h0_4_e1_0c)), (h0_4_e2, .inr (6, [.ref h0_4_e2_0, .int h0_4_e2_f1])), (h0_4_e2_0, .inl (h0_4_e2_0k, 64, .inl h0_4_e2_0c)), (h0_4_e3, .inr (6, [.ref h0_4_e3_0, .int h0_4_e3_f1])), (h0_4_e3_0, .inl (h0_4_e3_0k, 64, .inl h0_4_e3_0c))]) (w1 := (wd_c_X11_isPlan h0 h0_0 h0_1 h0_2 h0_3 h0_4 h0_f5 h0_6 h0_7 h0_8 h0_9 h0_10 h0_11 h0_12 h0_13 h0_14 h0_f15)) hP hD [0] [1, 2, 3, 4, 5, 6, 7, 8, 9] rfl rfl (by decide) (by decide) hk1 hFc hP1 hD1
  have hP := hP.sub (ws' := (wd_c_X11_step h0 h0_0 h0_1 h0_2 h0_3 h0_4 h0_f5 h0_6 h0_7 h0_8 h0_9 h0_10 h0_11 h0_12 h0_13 h0_14 h0_f15 h0_4 h0_4k h0_4c h0_4_e0 h0_4_e0_0 h0_4_e0_f1 h0_4_e0_0 h0_4_e0_0k h0_4_e0_0c h0_4_e1 h0_4_e1_0 h0_4_e1_f1 h0_4_e1_0 h0_4_e1_0k h0_4_e1_0c h0_4_e2 h0_4_e2_0 h0_4_e2_f1 h0_4_e2_0 h0_4_e2_0k h0_4_e2_0c h0_4_e3 h0_4_e3_0 h0_4_e3_f1 h0_4_e3_0 h0_4_e3_0k h0_4_e3_0c)) [9, 0, 1, 2, 3, 4, 5, 6, 7, 8] rfl
  have hD := hD.sub (ws' := (wd_c_X11_step h0 h0_0 h0_1 h0_2 h0_3 h0_4 h0_f5 h0_6 h0_7 h0_8 h0_9 h0_10 h0_11 h0_12 h0_13 h0_14 h0_f15 h0_4 h0_4k h0_4c h0_4_e0 h0_4_e0_0 h0_4_e0_f1 h0_4_e0_0 h0_4_e0_0k h0_4_e0_0c h0_4_e1 h0_4_e1_0 h0_4_e1_f1 h0_4_e1_0 h0_4_e1_0k h0_4_e1_0c h0_4_e2 h0_4_e2_0 h0_4_e2_f1 h0_4_e2_0 h0_4_e2_0k h0_4_e2_0c h0_4_e3 h0_4_e3_0 h0_4_e3_f1 h0_4_e3_0 h0_4_e3_0k h0_4_e3_0c)) [9, 0, 1, 2, 3, 4, 5, 6, 7, 8] (by decide) rfl
  generalize H1 = H at hP hS ⊢
  rcases hw with ⟨h_2, h_3⟩ | ⟨h_4, h_5, h_6⟩
  · rw [h_2]
    refine lv_if_eq (tgt := 36) hx hb dX11_step_5 rfl (fun c_7 => ?_) (fun c_7 => absurd c_7 (by decide))
    refine lv_ldc hx hb hown (hts (.constant RX11 228 (-1000000)) (List.mem_of_getElem? (i := 7) rfl)) dX11_step_36 ?_
    have hK9 := hK.sub (tys' := []) [] rfl
    exact W.iret (v := (-1000000)) hx hb hr (fun t ht hW => ⟨⟨(-1000000), (), rfl, (Or.inl rfl), by rw [ht]; exact hP, va_K.moved hW.alike hK9, hD⟩, hS.F ht⟩) hS.2.2 dX11_step_38
  · rw [h_4]
    refine lv_if_eq (tgt := 36) hx hb dX11_step_5 rfl (fun c_8 => absurd c_8 (by decide)) (fun c_8 => ?_)
    refine lv_iload_n hx hb dX11_step_8 rfl (lv_at hl 2 rfl) ?_
    refine lv_iconst (v := 0) hx hb dX11_step_9 kc_iconst_0 ?_
    refine lv_aload_n hx hb dX11_step_10 rfl (lv_at hl 0 rfl) ?_
    refine va_get (D := (dC, dI)) (ci := 11) (v := .ref h0_4) (C := RX11) (T := TX11) (N := 16) hx hb hts iw_c_X11_step_X11 hown hK hP 0 rfl rfl 4 (by decide) (hts (.fieldLink RX11 35 "BuoyVote" "plans" "[LBuoyVote$Plan;") (List.mem_of_getElem? (i := 8) rfl)) (fun _ h9 => h9) rfl dX11_step_11 ?_
    refine lv_iload_n hx hb dX11_step_14 rfl (lv_at hl 1 rfl) ?_
    by_cases c_9 : p1 = 0
    · refine W.eq (g2 := F0 m 15 ls [.int 0, .ref h0_4, .int 0, .int p2]) (by rw [c_9]) ?_
      have g_10 : RG p1 0 0 := RG_k _ _ (by rw [c_9]; rfl)
      refine va_aldq hx hb hK hP 1 0 rfl rfl (by unfold vp_in; decide) dX11_step_15 ?_
      rw [show h0_4c (0 : Int32).toNatClampNeg = some h0_4_e0 from e_h0_4_e0]
      refine W.eq (g2 := F0 m 16 ls [.ref h0_4_e0, .int 0, .int p2]) rfl ?_
      refine va_get (D := (dC, dI)) (ci := 6) (v := .int h0_4_e0_f1) (C := RX6) (T := TX6) (N := 2) hx hb hts iw_c_X11_step_X6 hown hK hP 2 rfl rfl 1 (by decide) (hts (.fieldLink RX11 296 "BuoyVote$Plan" "steps" "I") (List.mem_of_getElem? (i := 9) rfl)) (fun _ h9 => h9) rfl dX11_step_16 ?_
      refine lv_iconst (v := 1) hx hb dX11_step_19 kc_iconst_1 ?_
      refine lv_isub hx hb dX11_step_20 ?_
      refine lv_topi (fun x_11 ex_11 => ?_)
      have g_12 : RG x_11 (-1) 15 := RG_sub ex_11 g_h0_4_e0_f1 (RG_k 1 1 rfl) (by decide)
      have hPc := hP.sub (ws' := []) [] rfl
      have hDc := hD.sub (ws' := []) [] (by decide) rfl
      have hKc := hK.sub (tys' := []) [] rfl
      have hFc := va_free (wc := []) hD hS hA [] rfl
      refine va_calli (va_runS (As := [.int p2, .int 0, .int x_11]) (rest := []) ⟨hx, hb, hml, hown, hts⟩ (c_X11_isWithin_4 l dC dI H.size p2 x_11 g_12) (va_cwS 3 hts gf_c_X11_step_c_X11_isWithin_4 rfl rfl rfl (by decide +kernel) ⟨Nat.le_of_ble_eq_true rfl, Nat.le_of_ble_eq_true rfl⟩) ⟨fun a U g mk q => by obtain ⟨q0, q1, qP, qK, qD⟩ := q; exact ⟨q0, q1, qP, va_K.moved (u := U) (U := U.calling g mk a) (Vm.Alike.refl U.vm) qK, qD⟩, fun U hU hW => ⟨rfl, by rw [hU], by rw [hU]; exact hPc, va_K.moved hW.alike hKc, hDc.weaken (fun _ _ _ _ => trivial)⟩⟩ rfl rfl hl.1 rfl (lv_room (Nat.le_of_ble_eq_true rfl)) dX11_step_21 ⟨Nat.le_of_ble_eq_true rfl, Nat.le_of_ble_eq_true rfl⟩) hS (fun q _ h => hFc q h) hFc (fun r_13 u t H1 locs ht hvm hw hB hz1 hk1 hS => ?_)
      obtain ⟨hP1, hK1, hD1⟩ := hB
      rw [ht] at hP1
      have hP := bv_still hP hk1
      generalize H1 = H at hP hS ⊢
      rcases hw with ⟨h_14, h_15⟩ | ⟨h_16, h_17, h_18, h_19⟩
      · rw [h_14]
        refine lv_if_eq (tgt := 36) hx hb dX11_step_24 rfl (fun c_20 => ?_) (fun c_20 => absurd c_20 (by decide))
        refine lv_ldc hx hb hown (hts (.constant RX11 228 (-1000000)) (List.mem_of_getElem? (i := 7) rfl)) dX11_step_36 ?_
        have hK9 := hK.sub (tys' := []) [] rfl
        exact W.iret (v := (-1000000)) hx hb hr (fun t ht hW => ⟨⟨(-1000000), (), rfl, (Or.inl rfl), by rw [ht]; exact hP, va_K.moved hW.alike hK9, hD⟩, hS.F ht⟩) hS.2.2 dX11_step_38
      · rw [h_16]
        have g_21 : RG h0_4_e0_f1 1 16 := RG_addb (RG_sc (d := (-1)) ex_11 rfl) (q := (-1)) rfl g_h0_4_e0_f1 h_18 (by decide)
        refine lv_if_eq (tgt := 36) hx hb dX11_step_24 rfl (fun c_22 => absurd c_22 (by decide)) (fun c_22 => ?_)
        refine lv_iload_n hx hb dX11_step_27 rfl (lv_at hl 3 rfl) ?_
        refine lv_iconst (v := 0) hx hb dX11_step_28 kc_iconst_0 ?_
        refine lv_iconst (v := 3) hx hb dX11_step_29 kc_iconst_3 ?_
        have hPc := hP.sub (ws' := []) [] rfl
        have hDc := hD.sub (ws' := []) [] (by decide) rfl
        have hKc := hK.sub (tys' := []) [] rfl
        have hFc := va_free (wc := []) hD hS hA [] rfl
        refine va_calli (va_runS (As := [.int p3, .int 0, .int 3]) (rest := []) ⟨hx, hb, hml, hown, hts⟩ (c_X11_isWithin_5 l dC dI H.size p3) (va_cwS 3 hts gf_c_X11_step_c_X11_isWithin_5 rfl rfl rfl (by decide +kernel) ⟨Nat.le_of_ble_eq_true rfl, Nat.le_of_ble_eq_true rfl⟩) ⟨fun a U g mk q => by obtain ⟨q0, q1, qP, qK, qD⟩ := q; exact ⟨q0, q1, qP, va_K.moved (u := U) (U := U.calling g mk a) (Vm.Alike.refl U.vm) qK, qD⟩, fun U hU hW => ⟨rfl, by rw [hU], by rw [hU]; exact hPc, va_K.moved hW.alike hKc, hDc.weaken (fun _ _ _ _ => trivial)⟩⟩ rfl rfl hl.1 rfl (lv_room (Nat.le_of_ble_eq_true rfl)) dX11_step_30 ⟨Nat.le_of_ble_eq_true rfl, Nat.le_of_ble_eq_true rfl⟩) hS (fun q _ h => hFc q h) hFc (fun r_23 u t H1 locs ht hvm hw hB hz1 hk1 hS => ?_)
        obtain ⟨hP1, hK1, hD1⟩ := hB
        rw [ht] at hP1
        have hP := bv_still hP hk1
        generalize H1 = H at hP hS ⊢
        rcases hw with ⟨h_24, h_25⟩ | ⟨h_26, h_27⟩
        · rw [h_24]
          refine lv_if_ne (tgt := 39) hx hb dX11_step_33 rfl (fun c_28 => absurd c_28 (by decide)) (fun c_28 => ?_)
          refine lv_ldc hx hb hown (hts (.constant RX11 228 (-1000000)) (List.mem_of_getElem? (i := 7) rfl)) dX11_step_36 ?_
          have hK9 := hK.sub (tys' := []) [] rfl
          exact W.iret (v := (-1000000)) hx hb hr (fun t ht hW => ⟨⟨(-1000000), (), rfl, (Or.inl rfl), by rw [ht]; exact hP, va_K.moved hW.alike hK9, hD⟩, hS.F ht⟩) hS.2.2 dX11_step_38
        · rw [h_26]
          refine lv_if_ne (tgt := 39) hx hb dX11_step_33 rfl (fun c_29 => ?_) (fun c_29 => absurd c_29 (by decide))
          refine lv_aload_n hx hb dX11_step_39 rfl (lv_at hl 0 rfl) ?_
          refine va_get (D := (dC, dI)) (ci := 11) (v := .ref h0_4) (C := RX11) (T := TX11) (N := 16) hx hb hts iw_c_X11_step_X11 hown hK hP 0 rfl rfl 4 (by decide) (hts (.fieldLink RX11 35 "BuoyVote" "plans" "[LBuoyVote$Plan;") (List.mem_of_getElem? (i := 8) rfl)) (fun _ h9 => h9) rfl dX11_step_40 ?_
          refine lv_iload_n hx hb dX11_step_43 rfl (lv_at hl 1 rfl) ?_
          by_cases c_30 : p1 = 0
          · refine W.eq (g2 := F0 m 44 ls [.int 0, .ref h0_4]) (by rw [c_30]) ?_
            have g_31 : RG p1 0 0 := RG_k _ _ (by rw [c_30]; rfl)
            refine va_aldq hx hb hK hP 1 0 rfl rfl (by unfold vp_in; decide) dX11_step_44 ?_
            rw [show h0_4c (0 : Int32).toNatClampNeg = some h0_4_e0 from e_h0_4_e0]
            refine W.eq (g2 := F0 m 45 ls [.ref h0_4_e0]) rfl ?_
            refine lv_iload_n hx hb dX11_step_45 rfl (lv_at hl 2 rfl) ?_
            refine lv_iload_n hx hb dX11_step_46 rfl (lv_at hl 3 rfl) ?_
            have hPc := hP.sub (ws' := (wd_c_X6_part h0_4_e0 h0_4_e0_0 h0_4_e0_f1 h0_4_e0_0 h0_4_e0_0k h0_4_e0_0c)) [2, 3] rfl
            have hDc := hD.sub (ws' := (wd_c_X6_part h0_4_e0 h0_4_e0_0 h0_4_e0_f1 h0_4_e0_0 h0_4_e0_0k h0_4_e0_0c)) [2, 3] (by decide) rfl
            have hKc := hK.sub (tys' := [(h0_4_e0_0k, .int)]) [1] rfl
            have hFc := va_free (wc := (wd_c_X6_part h0_4_e0 h0_4_e0_0 h0_4_e0_f1 h0_4_e0_0 h0_4_e0_0k h0_4_e0_0c)) hD hS hA [2, 3] rfl
            refine va_calli (va_runV (As := [.int p2, .int p3]) (rest := []) ⟨hx, hb, hml, hown, hts⟩ (c_X6_part l dC dI H.size h0_4_e0 p2 p3 h0_4_e0_0 h0_4_e0_f1 h0_4_e0_0k h0_4_e0_0c h_17 h_27 (RG_w g_21 (by decide)) a_h0_4_e0_0c) (cwV 2 hts gf_c_X11_step_c_X6_part rfl rfl rfl (by decide +kernel) ⟨Nat.le_of_ble_eq_true rfl, Nat.le_of_ble_eq_true rfl⟩) ⟨fun a U g mk q => by obtain ⟨q0, q1, qP, qK, qD⟩ := q; exact ⟨q0, q1, qP, va_K.moved (u := U) (U := U.calling g mk a) (Vm.Alike.refl U.vm) qK, qD⟩, va_recv hKc hPc (ci := 6) (q0 := 0) rfl rfl, fun U hU hW => ⟨rfl, by rw [hU], by rw [hU]; exact hPc, va_K.moved hW.alike hKc, hDc.weaken (fun _ _ _ _ => trivial)⟩⟩ rfl rfl hl.1 rfl (lv_room (Nat.le_of_ble_eq_true rfl)) dX11_step_47 ⟨Nat.le_of_ble_eq_true rfl, Nat.le_of_ble_eq_true rfl⟩) hS (fun q _ h => hFc q h) hFc (fun r_32 u t H1 locs ht hvm hw hB hz1 hk1 hS => ?_)
            obtain ⟨hP1, hK1, hD1⟩ := hB
            rw [ht] at hP1
            obtain ⟨hP, hD⟩ := va_join (wr := [(h0, .inr (11, [.ref h0_0, .ref h0_1, .ref h0_2, .ref h0_3, .ref h0_4, .int h0_f5, .ref h0_6, .ref h0_7, .ref h0_8, .ref h0_9, .ref h0_10, .ref h0_11, .ref h0_12, .ref h0_13, .ref h0_14, .long h0_f15])), (h0_4, .inl (h0_4k, 5, .inr (.inr (.inr (.inr h0_4c))))), (h0_4_e1, .inr (6, [.ref h0_4_e1_0, .int h0_4_e1_f1])), (h0_4_e1_0, .inl (h0_4_e1_0k, 64, .inl h0_4_e1_0c)), (h0_4_e2, .inr (6, [.ref h0_4_e2_0, .int h0_4_e2_f1])), (h0_4_e2_0, .inl (h0_4_e2_0k, 64, .inl h0_4_e2_0c)), (h0_4_e3, .inr (6, [.ref h0_4_e3_0, .int h0_4_e3_f1])), (h0_4_e3_0, .inl (h0_4_e3_0k, 64, .inl h0_4_e3_0c))]) (w1 := (wd_c_X6_part h0_4_e0 h0_4_e0_0 h0_4_e0_f1 h0_4_e0_0 h0_4_e0_0k h0_4_e0_0c)) hP hD [2, 3] [0, 1, 4, 5, 6, 7, 8, 9] rfl rfl (by decide) (by decide) hk1 hFc hP1 hD1
            have hP := hP.sub (ws' := (wd_c_X11_step h0 h0_0 h0_1 h0_2 h0_3 h0_4 h0_f5 h0_6 h0_7 h0_8 h0_9 h0_10 h0_11 h0_12 h0_13 h0_14 h0_f15 h0_4 h0_4k h0_4c h0_4_e0 h0_4_e0_0 h0_4_e0_f1 h0_4_e0_0 h0_4_e0_0k h0_4_e0_0c h0_4_e1 h0_4_e1_0 h0_4_e1_f1 h0_4_e1_0 h0_4_e1_0k h0_4_e1_0c h0_4_e2 h0_4_e2_0 h0_4_e2_f1 h0_4_e2_0 h0_4_e2_0k h0_4_e2_0c h0_4_e3 h0_4_e3_0 h0_4_e3_f1 h0_4_e3_0 h0_4_e3_0k h0_4_e3_0c)) [0, 1, 8, 9, 2, 3, 4, 5, 6, 7] rfl
            have hD := hD.sub (ws' := (wd_c_X11_step h0 h0_0 h0_1 h0_2 h0_3 h0_4 h0_f5 h0_6 h0_7 h0_8 h0_9 h0_10 h0_11 h0_12 h0_13 h0_14 h0_f15 h0_4 h0_4k h0_4c h0_4_e0 h0_4_e0_0 h0_4_e0_f1 h0_4_e0_0 h0_4_e0_0k h0_4_e0_0c h0_4_e1 h0_4_e1_0 h0_4_e1_f1 h0_4_e1_0 h0_4_e1_0k h0_4_e1_0c h0_4_e2 h0_4_e2_0 h0_4_e2_f1 h0_4_e2_0 h0_4_e2_0k h0_4_e2_0c h0_4_e3 h0_4_e3_0 h0_4_e3_f1 h0_4_e3_0 h0_4_e3_0k h0_4_e3_0c)) [0, 1, 8, 9, 2, 3, 4, 5, 6, 7] (by decide) rfl
            generalize H1 = H at hP hS ⊢
            rcases hw with ⟨h_33, h_34⟩
            have hK9 := hK.sub (tys' := []) [] rfl
            exact W.iret (v := r_32) hx hb hr (fun t ht hW => ⟨⟨r_32, (), rfl, (Or.inr ⟨h_33, h_5, (RG_w g_31 (by decide)), h_17, h_27⟩), by rw [ht]; exact hP, va_K.moved hW.alike hK9, hD⟩, hS.F ht⟩) hS.2.2 dX11_step_50
          exfalso
          have zc_30 := lv_neT c_30 (a := 0) (by decide)
          have zg1 := (g_10).1
          have zg2 := (g_10).2
          omega
    by_cases c_35 : p1 = 1
    · refine W.eq (g2 := F0 m 15 ls [.int 1, .ref h0_4, .int 0, .int p2]) (by rw [c_35]) ?_
      have g_36 : RG p1 1 1 := RG_k _ _ (by rw [c_35]; rfl)
      refine va_aldq hx hb hK hP 1 0 rfl rfl (by unfold vp_in; decide) dX11_step_15 ?_
      rw [show h0_4c (1 : Int32).toNatClampNeg = some h0_4_e1 from e_h0_4_e1]
      refine W.eq (g2 := F0 m 16 ls [.ref h0_4_e1, .int 0, .int p2]) rfl ?_
      refine va_get (D := (dC, dI)) (ci := 6) (v := .int h0_4_e1_f1) (C := RX6) (T := TX6) (N := 2) hx hb hts iw_c_X11_step_X6 hown hK hP 4 rfl rfl 1 (by decide) (hts (.fieldLink RX11 296 "BuoyVote$Plan" "steps" "I") (List.mem_of_getElem? (i := 9) rfl)) (fun _ h9 => h9) rfl dX11_step_16 ?_
      refine lv_iconst (v := 1) hx hb dX11_step_19 kc_iconst_1 ?_
      refine lv_isub hx hb dX11_step_20 ?_
      refine lv_topi (fun x_37 ex_37 => ?_)
      have g_38 : RG x_37 (-1) 15 := RG_sub ex_37 g_h0_4_e1_f1 (RG_k 1 1 rfl) (by decide)
      have hPc := hP.sub (ws' := []) [] rfl
      have hDc := hD.sub (ws' := []) [] (by decide) rfl
      have hKc := hK.sub (tys' := []) [] rfl
      have hFc := va_free (wc := []) hD hS hA [] rfl
      refine va_calli (va_runS (As := [.int p2, .int 0, .int x_37]) (rest := []) ⟨hx, hb, hml, hown, hts⟩ (c_X11_isWithin_4 l dC dI H.size p2 x_37 g_38) (va_cwS 3 hts gf_c_X11_step_c_X11_isWithin_4 rfl rfl rfl (by decide +kernel) ⟨Nat.le_of_ble_eq_true rfl, Nat.le_of_ble_eq_true rfl⟩) ⟨fun a U g mk q => by obtain ⟨q0, q1, qP, qK, qD⟩ := q; exact ⟨q0, q1, qP, va_K.moved (u := U) (U := U.calling g mk a) (Vm.Alike.refl U.vm) qK, qD⟩, fun U hU hW => ⟨rfl, by rw [hU], by rw [hU]; exact hPc, va_K.moved hW.alike hKc, hDc.weaken (fun _ _ _ _ => trivial)⟩⟩ rfl rfl hl.1 rfl (lv_room (Nat.le_of_ble_eq_true rfl)) dX11_step_21 ⟨Nat.le_of_ble_eq_true rfl, Nat.le_of_ble_eq_true rfl⟩) hS (fun q _ h => hFc q h) hFc (fun r_39 u t H1 locs ht hvm hw hB hz1 hk1 hS => ?_)
      obtain ⟨hP1, hK1, hD1⟩ := hB
      rw [ht] at hP1
      have hP := bv_still hP hk1
      generalize H1 = H at hP hS ⊢
      rcases hw with ⟨h_40, h_41⟩ | ⟨h_42, h_43, h_44, h_45⟩
      · rw [h_40]
        refine lv_if_eq (tgt := 36) hx hb dX11_step_24 rfl (fun c_46 => ?_) (fun c_46 => absurd c_46 (by decide))
        refine lv_ldc hx hb hown (hts (.constant RX11 228 (-1000000)) (List.mem_of_getElem? (i := 7) rfl)) dX11_step_36 ?_
        have hK9 := hK.sub (tys' := []) [] rfl
        exact W.iret (v := (-1000000)) hx hb hr (fun t ht hW => ⟨⟨(-1000000), (), rfl, (Or.inl rfl), by rw [ht]; exact hP, va_K.moved hW.alike hK9, hD⟩, hS.F ht⟩) hS.2.2 dX11_step_38
      · rw [h_42]
        have g_47 : RG h0_4_e1_f1 1 16 := RG_addb (RG_sc (d := (-1)) ex_37 rfl) (q := (-1)) rfl g_h0_4_e1_f1 h_44 (by decide)
        refine lv_if_eq (tgt := 36) hx hb dX11_step_24 rfl (fun c_48 => absurd c_48 (by decide)) (fun c_48 => ?_)
        refine lv_iload_n hx hb dX11_step_27 rfl (lv_at hl 3 rfl) ?_
        refine lv_iconst (v := 0) hx hb dX11_step_28 kc_iconst_0 ?_
        refine lv_iconst (v := 3) hx hb dX11_step_29 kc_iconst_3 ?_
        have hPc := hP.sub (ws' := []) [] rfl
        have hDc := hD.sub (ws' := []) [] (by decide) rfl
        have hKc := hK.sub (tys' := []) [] rfl
        have hFc := va_free (wc := []) hD hS hA [] rfl
        refine va_calli (va_runS (As := [.int p3, .int 0, .int 3]) (rest := []) ⟨hx, hb, hml, hown, hts⟩ (c_X11_isWithin_5 l dC dI H.size p3) (va_cwS 3 hts gf_c_X11_step_c_X11_isWithin_5 rfl rfl rfl (by decide +kernel) ⟨Nat.le_of_ble_eq_true rfl, Nat.le_of_ble_eq_true rfl⟩) ⟨fun a U g mk q => by obtain ⟨q0, q1, qP, qK, qD⟩ := q; exact ⟨q0, q1, qP, va_K.moved (u := U) (U := U.calling g mk a) (Vm.Alike.refl U.vm) qK, qD⟩, fun U hU hW => ⟨rfl, by rw [hU], by rw [hU]; exact hPc, va_K.moved hW.alike hKc, hDc.weaken (fun _ _ _ _ => trivial)⟩⟩ rfl rfl hl.1 rfl (lv_room (Nat.le_of_ble_eq_true rfl)) dX11_step_30 ⟨Nat.le_of_ble_eq_true rfl, Nat.le_of_ble_eq_true rfl⟩) hS (fun q _ h => hFc q h) hFc (fun r_49 u t H1 locs ht hvm hw hB hz1 hk1 hS => ?_)
        obtain ⟨hP1, hK1, hD1⟩ := hB
        rw [ht] at hP1
        have hP := bv_still hP hk1
        generalize H1 = H at hP hS ⊢
        rcases hw with ⟨h_50, h_51⟩ | ⟨h_52, h_53⟩
        · rw [h_50]
          refine lv_if_ne (tgt := 39) hx hb dX11_step_33 rfl (fun c_54 => absurd c_54 (by decide)) (fun c_54 => ?_)
          refine lv_ldc hx hb hown (hts (.constant RX11 228 (-1000000)) (List.mem_of_getElem? (i := 7) rfl)) dX11_step_36 ?_
          have hK9 := hK.sub (tys' := []) [] rfl
          exact W.iret (v := (-1000000)) hx hb hr (fun t ht hW => ⟨⟨(-1000000), (), rfl, (Or.inl rfl), by rw [ht]; exact hP, va_K.moved hW.alike hK9, hD⟩, hS.F ht⟩) hS.2.2 dX11_step_38
        · rw [h_52]
          refine lv_if_ne (tgt := 39) hx hb dX11_step_33 rfl (fun c_55 => ?_) (fun c_55 => absurd c_55 (by decide))
          refine lv_aload_n hx hb dX11_step_39 rfl (lv_at hl 0 rfl) ?_
          refine va_get (D := (dC, dI)) (ci := 11) (v := .ref h0_4) (C := RX11) (T := TX11) (N := 16) hx hb hts iw_c_X11_step_X11 hown hK hP 0 rfl rfl 4 (by decide) (hts (.fieldLink RX11 35 "BuoyVote" "plans" "[LBuoyVote$Plan;") (List.mem_of_getElem? (i := 8) rfl)) (fun _ h9 => h9) rfl dX11_step_40 ?_
          refine lv_iload_n hx hb dX11_step_43 rfl (lv_at hl 1 rfl) ?_
          by_cases c_56 : p1 = 1
          · refine W.eq (g2 := F0 m 44 ls [.int 1, .ref h0_4]) (by rw [c_56]) ?_
            have g_57 : RG p1 1 1 := RG_k _ _ (by rw [c_56]; rfl)
            refine va_aldq hx hb hK hP 1 0 rfl rfl (by unfold vp_in; decide) dX11_step_44 ?_
            rw [show h0_4c (1 : Int32).toNatClampNeg = some h0_4_e1 from e_h0_4_e1]
            refine W.eq (g2 := F0 m 45 ls [.ref h0_4_e1]) rfl ?_
            refine lv_iload_n hx hb dX11_step_45 rfl (lv_at hl 2 rfl) ?_
            refine lv_iload_n hx hb dX11_step_46 rfl (lv_at hl 3 rfl) ?_
            have hPc := hP.sub (ws' := (wd_c_X6_part h0_4_e1 h0_4_e1_0 h0_4_e1_f1 h0_4_e1_0 h0_4_e1_0k h0_4_e1_0c)) [4, 5] rfl
            have hDc := hD.sub (ws' := (wd_c_X6_part h0_4_e1 h0_4_e1_0 h0_4_e1_f1 h0_4_e1_0 h0_4_e1_0k h0_4_e1_0c)) [4, 5] (by decide) rfl
            have hKc := hK.sub (tys' := [(h0_4_e1_0k, .int)]) [2] rfl
            have hFc := va_free (wc := (wd_c_X6_part h0_4_e1 h0_4_e1_0 h0_4_e1_f1 h0_4_e1_0 h0_4_e1_0k h0_4_e1_0c)) hD hS hA [4, 5] rfl
            refine va_calli (va_runV (As := [.int p2, .int p3]) (rest := []) ⟨hx, hb, hml, hown, hts⟩ (c_X6_part l dC dI H.size h0_4_e1 p2 p3 h0_4_e1_0 h0_4_e1_f1 h0_4_e1_0k h0_4_e1_0c h_43 h_53 (RG_w g_47 (by decide)) a_h0_4_e1_0c) (cwV 2 hts gf_c_X11_step_c_X6_part rfl rfl rfl (by decide +kernel) ⟨Nat.le_of_ble_eq_true rfl, Nat.le_of_ble_eq_true rfl⟩) ⟨fun a U g mk q => by obtain ⟨q0, q1, qP, qK, qD⟩ := q; exact ⟨q0, q1, qP, va_K.moved (u := U) (U := U.calling g mk a) (Vm.Alike.refl U.vm) qK, qD⟩, va_recv hKc hPc (ci := 6) (q0 := 0) rfl rfl, fun U hU hW => ⟨rfl, by rw [hU], by rw [hU]; exact hPc, va_K.moved hW.alike hKc, hDc.weaken (fun _ _ _ _ => trivial)⟩⟩ rfl rfl hl.1 rfl (lv_room (Nat.le_of_ble_eq_true rfl)) dX11_step_47 ⟨Nat.le_of_ble_eq_true rfl, Nat.le_of_ble_eq_true rfl⟩) hS (fun q _ h => hFc q h) hFc (fun r_58 u t H1 locs ht hvm hw hB hz1 hk1 hS => ?_)
            obtain ⟨hP1, hK1, hD1⟩ := hB
            rw [ht] at hP1
            obtain ⟨hP, hD⟩ := va_join (wr := [(h0, .inr (11, [.ref h0_0, .ref h0_1, .ref h0_2, .ref h0_3, .ref h0_4, .int h0_f5, .ref h0_6, .ref h0_7, .ref h0_8, .ref h0_9, .ref h0_10, .ref h0_11, .ref h0_12, .ref h0_13, .ref h0_14, .long h0_f15])), (h0_4, .inl (h0_4k, 5, .inr (.inr (.inr (.inr h0_4c))))), (h0_4_e0, .inr (6, [.ref h0_4_e0_0, .int h0_4_e0_f1])), (h0_4_e0_0, .inl (h0_4_e0_0k, 64, .inl h0_4_e0_0c)), (h0_4_e2, .inr (6, [.ref h0_4_e2_0, .int h0_4_e2_f1])), (h0_4_e2_0, .inl (h0_4_e2_0k, 64, .inl h0_4_e2_0c)), (h0_4_e3, .inr (6, [.ref h0_4_e3_0, .int h0_4_e3_f1])), (h0_4_e3_0, .inl (h0_4_e3_0k, 64, .inl h0_4_e3_0c))]) (w1 := (wd_c_X6_part h0_4_e1 h0_4_e1_0 h0_4_e1_f1 h0_4_e1_0 h0_4_e1_0k h0_4_e1_0c)) hP hD [4, 5] [0, 1, 2, 3, 6, 7, 8, 9] rfl rfl (by decide) (by decide) hk1 hFc hP1 hD1
            have hP := hP.sub (ws' := (wd_c_X11_step h0 h0_0 h0_1 h0_2 h0_3 h0_4 h0_f5 h0_6 h0_7 h0_8 h0_9 h0_10 h0_11 h0_12 h0_13 h0_14 h0_f15 h0_4 h0_4k h0_4c h0_4_e0 h0_4_e0_0 h0_4_e0_f1 h0_4_e0_0 h0_4_e0_0k h0_4_e0_0c h0_4_e1 h0_4_e1_0 h0_4_e1_f1 h0_4_e1_0 h0_4_e1_0k h0_4_e1_0c h0_4_e2 h0_4_e2_0 h0_4_e2_f1 h0_4_e2_0 h0_4_e2_0k h0_4_e2_0c h0_4_e3 h0_4_e3_0 h0_4_e3_f1 h0_4_e3_0 h0_4_e3_0k h0_4_e3_0c)) [0, 1, 2, 3, 8, 9, 4, 5, 6, 7] rfl
            have hD := hD.sub (ws' := (wd_c_X11_step h0 h0_0 h0_1 h0_2 h0_3 h0_4 h0_f5 h0_6 h0_7 h0_8 h0_9 h0_10 h0_11 h0_12 h0_13 h0_14 h0_f15 h0_4 h0_4k h0_4c h0_4_e0 h0_4_e0_0 h0_4_e0_f1 h0_4_e0_0 h0_4_e0_0k h0_4_e0_0c h0_4_e1 h0_4_e1_0 h0_4_e1_f1 h0_4_e1_0 h0_4_e1_0k h0_4_e1_0c h0_4_e2 h0_4_e2_0 h0_4_e2_f1 h0_4_e2_0 h0_4_e2_0k h0_4_e2_0c h0_4_e3 h0_4_e3_0 h0_4_e3_f1 h0_4_e3_0 h0_4_e3_0k h0_4_e3_0c)) [0, 1, 2, 3, 8, 9, 4, 5, 6, 7] (by decide) rfl
            generalize H1 = H at hP hS ⊢
            rcases hw with ⟨h_59, h_60⟩
            have hK9 := hK.sub (tys' := []) [] rfl
            exact W.iret (v := r_58) hx hb hr (fun t ht hW => ⟨⟨r_58, (), rfl, (Or.inr ⟨h_59, h_5, (RG_w g_57 (by decide)), h_43, h_53⟩), by rw [ht]; exact hP, va_K.moved hW.alike hK9, hD⟩, hS.F ht⟩) hS.2.2 dX11_step_50
          exfalso
          have zc_56 := lv_neT c_56 (a := 1) (by decide)
          have zg1 := (g_36).1
          have zg2 := (g_36).2
          omega
    by_cases c_61 : p1 = 2
    · refine W.eq (g2 := F0 m 15 ls [.int 2, .ref h0_4, .int 0, .int p2]) (by rw [c_61]) ?_
      have g_62 : RG p1 2 2 := RG_k _ _ (by rw [c_61]; rfl)
      refine va_aldq hx hb hK hP 1 0 rfl rfl (by unfold vp_in; decide) dX11_step_15 ?_
      rw [show h0_4c (2 : Int32).toNatClampNeg = some h0_4_e2 from e_h0_4_e2]
      refine W.eq (g2 := F0 m 16 ls [.ref h0_4_e2, .int 0, .int p2]) rfl ?_
      refine va_get (D := (dC, dI)) (ci := 6) (v := .int h0_4_e2_f1) (C := RX6) (T := TX6) (N := 2) hx hb hts iw_c_X11_step_X6 hown hK hP 6 rfl rfl 1 (by decide) (hts (.fieldLink RX11 296 "BuoyVote$Plan" "steps" "I") (List.mem_of_getElem? (i := 9) rfl)) (fun _ h9 => h9) rfl dX11_step_16 ?_
      refine lv_iconst (v := 1) hx hb dX11_step_19 kc_iconst_1 ?_
      refine lv_isub hx hb dX11_step_20 ?_
      refine lv_topi (fun x_63 ex_63 => ?_)
      have g_64 : RG x_63 (-1) 15 := RG_sub ex_63 g_h0_4_e2_f1 (RG_k 1 1 rfl) (by decide)
      have hPc := hP.sub (ws' := []) [] rfl
      have hDc := hD.sub (ws' := []) [] (by decide) rfl
      have hKc := hK.sub (tys' := []) [] rfl
      have hFc := va_free (wc := []) hD hS hA [] rfl
      refine va_calli (va_runS (As := [.int p2, .int 0, .int x_63]) (rest := []) ⟨hx, hb, hml, hown, hts⟩ (c_X11_isWithin_4 l dC dI H.size p2 x_63 g_64) (va_cwS 3 hts gf_c_X11_step_c_X11_isWithin_4 rfl rfl rfl (by decide +kernel) ⟨Nat.le_of_ble_eq_true rfl, Nat.le_of_ble_eq_true rfl⟩) ⟨fun a U g mk q => by obtain ⟨q0, q1, qP, qK, qD⟩ := q; exact ⟨q0, q1, qP, va_K.moved (u := U) (U := U.calling g mk a) (Vm.Alike.refl U.vm) qK, qD⟩, fun U hU hW => ⟨rfl, by rw [hU], by rw [hU]; exact hPc, va_K.moved hW.alike hKc, hDc.weaken (fun _ _ _ _ => trivial)⟩⟩ rfl rfl hl.1 rfl (lv_room (Nat.le_of_ble_eq_true rfl)) dX11_step_21 ⟨Nat.le_of_ble_eq_true rfl, Nat.le_of_ble_eq_true rfl⟩) hS (fun q _ h => hFc q h) hFc (fun r_65 u t H1 locs ht hvm hw hB hz1 hk1 hS => ?_)
      obtain ⟨hP1, hK1, hD1⟩ := hB
      rw [ht] at hP1
      have hP := bv_still hP hk1
      generalize H1 = H at hP hS ⊢
      rcases hw with ⟨h_66, h_67⟩ | ⟨h_68, h_69, h_70, h_71⟩
      · rw [h_66]
        refine lv_if_eq (tgt := 36) hx hb dX11_step_24 rfl (fun c_72 => ?_) (fun c_72 => absurd c_72 (by decide))
        refine lv_ldc hx hb hown (hts (.constant RX11 228 (-1000000)) (List.mem_of_getElem? (i := 7) rfl)) dX11_step_36 ?_
        have hK9 := hK.sub (tys' := []) [] rfl
        exact W.iret (v := (-1000000)) hx hb hr (fun t ht hW => ⟨⟨(-1000000), (), rfl, (Or.inl rfl), by rw [ht]; exact hP, va_K.moved hW.alike hK9, hD⟩, hS.F ht⟩) hS.2.2 dX11_step_38
      · rw [h_68]
        have g_73 : RG h0_4_e2_f1 1 16 := RG_addb (RG_sc (d := (-1)) ex_63 rfl) (q := (-1)) rfl g_h0_4_e2_f1 h_70 (by decide)
        refine lv_if_eq (tgt := 36) hx hb dX11_step_24 rfl (fun c_74 => absurd c_74 (by decide)) (fun c_74 => ?_)
        refine lv_iload_n hx hb dX11_step_27 rfl (lv_at hl 3 rfl) ?_
        refine lv_iconst (v := 0) hx hb dX11_step_28 kc_iconst_0 ?_
        refine lv_iconst (v := 3) hx hb dX11_step_29 kc_iconst_3 ?_
        have hPc := hP.sub (ws' := []) [] rfl
        have hDc := hD.sub (ws' := []) [] (by decide) rfl
        have hKc := hK.sub (tys' := []) [] rfl
        have hFc := va_free (wc := []) hD hS hA [] rfl
        refine va_calli (va_runS (As := [.int p3, .int 0, .int 3]) (rest := []) ⟨hx, hb, hml, hown, hts⟩ (c_X11_isWithin_5 l dC dI H.size p3) (va_cwS 3 hts gf_c_X11_step_c_X11_isWithin_5 rfl rfl rfl (by decide +kernel) ⟨Nat.le_of_ble_eq_true rfl, Nat.le_of_ble_eq_true rfl⟩) ⟨fun a U g mk q => by obtain ⟨q0, q1, qP, qK, qD⟩ := q; exact ⟨q0, q1, qP, va_K.moved (u := U) (U := U.calling g mk a) (Vm.Alike.refl U.vm) qK, qD⟩, fun U hU hW => ⟨rfl, by rw [hU], by rw [hU]; exact hPc, va_K.moved hW.alike hKc, hDc.weaken (fun _ _ _ _ => trivial)⟩⟩ rfl rfl hl.1 rfl (lv_room (Nat.le_of_ble_eq_true rfl)) dX11_step_30 ⟨Nat.le_of_ble_eq_true rfl, Nat.le_of_ble_eq_true rfl⟩) hS (fun q _ h => hFc q h) hFc (fun r_75 u t H1 locs ht hvm hw hB hz1 hk1 hS => ?_)
        obtain ⟨hP1, hK1, hD1⟩ := hB
        rw [ht] at hP1
        have hP := bv_still hP hk1
        generalize H1 = H at hP hS ⊢
        rcases hw with ⟨h_76, h_77⟩ | ⟨h_78, h_79⟩
        · rw [h_76]
          refine lv_if_ne (tgt := 39) hx hb dX11_step_33 rfl (fun c_80 => absurd c_80 (by decide)) (fun c_80 => ?_)
          refine lv_ldc hx hb hown (hts (.constant RX11 228 (-1000000)) (List.mem_of_getElem? (i := 7) rfl)) dX11_step_36 ?_
          have hK9 := hK.sub (tys' := []) [] rfl
          exact W.iret (v := (-1000000)) hx hb hr (fun t ht hW => ⟨⟨(-1000000), (), rfl, (Or.inl rfl), by rw [ht]; exact hP, va_K.moved hW.alike hK9, hD⟩, hS.F ht⟩) hS.2.2 dX11_step_38
        · rw [h_78]
          refine lv_if_ne (tgt := 39) hx hb dX11_step_33 rfl (fun c_81 => ?_) (fun c_81 => absurd c_81 (by decide))
          refine lv_aload_n hx hb dX11_step_39 rfl (lv_at hl 0 rfl) ?_
          refine va_get (D := (dC, dI)) (ci := 11) (v := .ref h0_4) (C := RX11) (T := TX11) (N := 16) hx hb hts iw_c_X11_step_X11 hown hK hP 0 rfl rfl 4 (by decide) (hts (.fieldLink RX11 35 "BuoyVote" "plans" "[LBuoyVote$Plan;") (List.mem_of_getElem? (i := 8) rfl)) (fun _ h9 => h9) rfl dX11_step_40 ?_
          refine lv_iload_n hx hb dX11_step_43 rfl (lv_at hl 1 rfl) ?_
          by_cases c_82 : p1 = 2
          · refine W.eq (g2 := F0 m 44 ls [.int 2, .ref h0_4]) (by rw [c_82]) ?_
            have g_83 : RG p1 2 2 := RG_k _ _ (by rw [c_82]; rfl)
            refine va_aldq hx hb hK hP 1 0 rfl rfl (by unfold vp_in; decide) dX11_step_44 ?_
            rw [show h0_4c (2 : Int32).toNatClampNeg = some h0_4_e2 from e_h0_4_e2]
            refine W.eq (g2 := F0 m 45 ls [.ref h0_4_e2]) rfl ?_
            refine lv_iload_n hx hb dX11_step_45 rfl (lv_at hl 2 rfl) ?_
            refine lv_iload_n hx hb dX11_step_46 rfl (lv_at hl 3 rfl) ?_
            have hPc := hP.sub (ws' := (wd_c_X6_part h0_4_e2 h0_4_e2_0 h0_4_e2_f1 h0_4_e2_0 h0_4_e2_0k h0_4_e2_0c)) [6, 7] rfl
            have hDc := hD.sub (ws' := (wd_c_X6_part h0_4_e2 h0_4_e2_0 h0_4_e2_f1 h0_4_e2_0 h0_4_e2_0k h0_4_e2_0c)) [6, 7] (by decide) rfl
            have hKc := hK.sub (tys' := [(h0_4_e2_0k, .int)]) [3] rfl
            have hFc := va_free (wc := (wd_c_X6_part h0_4_e2 h0_4_e2_0 h0_4_e2_f1 h0_4_e2_0 h0_4_e2_0k h0_4_e2_0c)) hD hS hA [6, 7] rfl
            refine va_calli (va_runV (As := [.int p2, .int p3]) (rest := []) ⟨hx, hb, hml, hown, hts⟩ (c_X6_part l dC dI H.size h0_4_e2 p2 p3 h0_4_e2_0 h0_4_e2_f1 h0_4_e2_0k h0_4_e2_0c h_69 h_79 (RG_w g_73 (by decide)) a_h0_4_e2_0c) (cwV 2 hts gf_c_X11_step_c_X6_part rfl rfl rfl (by decide +kernel) ⟨Nat.le_of_ble_eq_true rfl, Nat.le_of_ble_eq_true rfl⟩) ⟨fun a U g mk q => by obtain ⟨q0, q1, qP, qK, qD⟩ := q; exact ⟨q0, q1, qP, va_K.moved (u := U) (U := U.calling g mk a) (Vm.Alike.refl U.vm) qK, qD⟩, va_recv hKc hPc (ci := 6) (q0 := 0) rfl rfl, fun U hU hW => ⟨rfl, by rw [hU], by rw [hU]; exact hPc, va_K.moved hW.alike hKc, hDc.weaken (fun _ _ _ _ => trivial)⟩⟩ rfl rfl hl.1 rfl (lv_room (Nat.le_of_ble_eq_true rfl)) dX11_step_47 ⟨Nat.le_of_ble_eq_true rfl, Nat.le_of_ble_eq_true rfl⟩) hS (fun q _ h => hFc q h) hFc (fun r_84 u t H1 locs ht hvm hw hB hz1 hk1 hS => ?_)
            obtain ⟨hP1, hK1, hD1⟩ := hB
            rw [ht] at hP1
            obtain ⟨hP, hD⟩ := va_join (wr := [(h0, .inr (11, [.ref h0_0, .ref h0_1, .ref h0_2, .ref h0_3, .ref h0_4, .int h0_f5, .ref h0_6, .ref h0_7, .ref h0_8, .ref h0_9, .ref h0_10, .ref h0_11, .ref h0_12, .ref h0_13, .ref h0_14, .long h0_f15])), (h0_4, .inl (h0_4k, 5, .inr (.inr (.inr (.inr h0_4c))))), (h0_4_e0, .inr (6, [.ref h0_4_e0_0, .int h0_4_e0_f1])), (h0_4_e0_0, .inl (h0_4_e0_0k, 64, .inl h0_4_e0_0c)), (h0_4_e1, .inr (6, [.ref h0_4_e1_0, .int h0_4_e1_f1])), (h0_4_e1_0, .inl (h0_4_e1_0k, 64, .inl h0_4_e1_0c)), (h0_4_e3, .inr (6, [.ref h0_4_e3_0, .int h0_4_e3_f1])), (h0_4_e3_0, .inl (h0_4_e3_0k, 64, .inl h0_4_e3_0c))]) (w1 := (wd_c_X6_part h0_4_e2 h0_4_e2_0 h0_4_e2_f1 h0_4_e2_0 h0_4_e2_0k h0_4_e2_0c)) hP hD [6, 7] [0, 1, 2, 3, 4, 5, 8, 9] rfl rfl (by decide) (by decide) hk1 hFc hP1 hD1
            have hP := hP.sub (ws' := (wd_c_X11_step h0 h0_0 h0_1 h0_2 h0_3 h0_4 h0_f5 h0_6 h0_7 h0_8 h0_9 h0_10 h0_11 h0_12 h0_13 h0_14 h0_f15 h0_4 h0_4k h0_4c h0_4_e0 h0_4_e0_0 h0_4_e0_f1 h0_4_e0_0 h0_4_e0_0k h0_4_e0_0c h0_4_e1 h0_4_e1_0 h0_4_e1_f1 h0_4_e1_0 h0_4_e1_0k h0_4_e1_0c h0_4_e2 h0_4_e2_0 h0_4_e2_f1 h0_4_e2_0 h0_4_e2_0k h0_4_e2_0c h0_4_e3 h0_4_e3_0 h0_4_e3_f1 h0_4_e3_0 h0_4_e3_0k h0_4_e3_0c)) [0, 1, 2, 3, 4, 5, 8, 9, 6, 7] rfl
            have hD := hD.sub (ws' := (wd_c_X11_step h0 h0_0 h0_1 h0_2 h0_3 h0_4 h0_f5 h0_6 h0_7 h0_8 h0_9 h0_10 h0_11 h0_12 h0_13 h0_14 h0_f15 h0_4 h0_4k h0_4c h0_4_e0 h0_4_e0_0 h0_4_e0_f1 h0_4_e0_0 h0_4_e0_0k h0_4_e0_0c h0_4_e1 h0_4_e1_0 h0_4_e1_f1 h0_4_e1_0 h0_4_e1_0k h0_4_e1_0c h0_4_e2 h0_4_e2_0 h0_4_e2_f1 h0_4_e2_0 h0_4_e2_0k h0_4_e2_0c h0_4_e3 h0_4_e3_0 h0_4_e3_f1 h0_4_e3_0 h0_4_e3_0k h0_4_e3_0c)) [0, 1, 2, 3, 4, 5, 8, 9, 6, 7] (by decide) rfl
            generalize H1 = H at hP hS ⊢
            rcases hw with ⟨h_85, h_86⟩
            have hK9 := hK.sub (tys' := []) [] rfl
            exact W.iret (v := r_84) hx hb hr (fun t ht hW => ⟨⟨r_84, (), rfl, (Or.inr ⟨h_85, h_5, (RG_w g_83 (by decide)), h_69, h_79⟩), by rw [ht]; exact hP, va_K.moved hW.alike hK9, hD⟩, hS.F ht⟩) hS.2.2 dX11_step_50
          exfalso
          have zc_82 := lv_neT c_82 (a := 2) (by decide)
          have zg1 := (g_62).1
          have zg2 := (g_62).2
          omega
    by_cases c_87 : p1 = 3
    · refine W.eq (g2 := F0 m 15 ls [.int 3, .ref h0_4, .int 0, .int p2]) (by rw [c_87]) ?_
      have g_88 : RG p1 3 3 := RG_k _ _ (by rw [c_87]; rfl)
      refine va_aldq hx hb hK hP 1 0 rfl rfl (by unfold vp_in; decide) dX11_step_15 ?_
      rw [show h0_4c (3 : Int32).toNatClampNeg = some h0_4_e3 from e_h0_4_e3]
      refine W.eq (g2 := F0 m 16 ls [.ref h0_4_e3, .int 0, .int p2]) rfl ?_
      refine va_get (D := (dC, dI)) (ci := 6) (v := .int h0_4_e3_f1) (C := RX6) (T := TX6) (N := 2) hx hb hts iw_c_X11_step_X6 hown hK hP 8 rfl rfl 1 (by decide) (hts (.fieldLink RX11 296 "BuoyVote$Plan" "steps" "I") (List.mem_of_getElem? (i := 9) rfl)) (fun _ h9 => h9) rfl dX11_step_16 ?_
      refine lv_iconst (v := 1) hx hb dX11_step_19 kc_iconst_1 ?_
      refine lv_isub hx hb dX11_step_20 ?_
      refine lv_topi (fun x_89 ex_89 => ?_)
      have g_90 : RG x_89 (-1) 15 := RG_sub ex_89 g_h0_4_e3_f1 (RG_k 1 1 rfl) (by decide)
      have hPc := hP.sub (ws' := []) [] rfl
      have hDc := hD.sub (ws' := []) [] (by decide) rfl
      have hKc := hK.sub (tys' := []) [] rfl
      have hFc := va_free (wc := []) hD hS hA [] rfl
      refine va_calli (va_runS (As := [.int p2, .int 0, .int x_89]) (rest := []) ⟨hx, hb, hml, hown, hts⟩ (c_X11_isWithin_4 l dC dI H.size p2 x_89 g_90) (va_cwS 3 hts gf_c_X11_step_c_X11_isWithin_4 rfl rfl rfl (by decide +kernel) ⟨Nat.le_of_ble_eq_true rfl, Nat.le_of_ble_eq_true rfl⟩) ⟨fun a U g mk q => by obtain ⟨q0, q1, qP, qK, qD⟩ := q; exact ⟨q0, q1, qP, va_K.moved (u := U) (U := U.calling g mk a) (Vm.Alike.refl U.vm) qK, qD⟩, fun U hU hW => ⟨rfl, by rw [hU], by rw [hU]; exact hPc, va_K.moved hW.alike hKc, hDc.weaken (fun _ _ _ _ => trivial)⟩⟩ rfl rfl hl.1 rfl (lv_room (Nat.le_of_ble_eq_true rfl)) dX11_step_21 ⟨Nat.le_of_ble_eq_true rfl, Nat.le_of_ble_eq_true rfl⟩) hS (fun q _ h => hFc q h) hFc (fun r_91 u t H1 locs ht hvm hw hB hz1 hk1 hS => ?_)
      obtain ⟨hP1, hK1, hD1⟩ := hB
      rw [ht] at hP1
      have hP := bv_still hP hk1
      generalize H1 = H at hP hS ⊢
      rcases hw with ⟨h_92, h_93⟩ | ⟨h_94, h_95, h_96, h_97⟩
      · rw [h_92]
        refine lv_if_eq (tgt := 36) hx hb dX11_step_24 rfl (fun c_98 => ?_) (fun c_98 => absurd c_98 (by decide))
        refine lv_ldc hx hb hown (hts (.constant RX11 228 (-1000000)) (List.mem_of_getElem? (i := 7) rfl)) dX11_step_36 ?_
        have hK9 := hK.sub (tys' := []) [] rfl
        exact W.iret (v := (-1000000)) hx hb hr (fun t ht hW => ⟨⟨(-1000000), (), rfl, (Or.inl rfl), by rw [ht]; exact hP, va_K.moved hW.alike hK9, hD⟩, hS.F ht⟩) hS.2.2 dX11_step_38
      · rw [h_94]
        have g_99 : RG h0_4_e3_f1 1 16 := RG_addb (RG_sc (d := (-1)) ex_89 rfl) (q := (-1)) rfl g_h0_4_e3_f1 h_96 (by decide)
        refine lv_if_eq (tgt := 36) hx hb dX11_step_24 rfl (fun c_100 => absurd c_100 (by decide)) (fun c_100 => ?_)
        refine lv_iload_n hx hb dX11_step_27 rfl (lv_at hl 3 rfl) ?_
        refine lv_iconst (v := 0) hx hb dX11_step_28 kc_iconst_0 ?_
        refine lv_iconst (v := 3) hx hb dX11_step_29 kc_iconst_3 ?_
        have hPc := hP.sub (ws' := []) [] rfl
        have hDc := hD.sub (ws' := []) [] (by decide) rfl
        have hKc := hK.sub (tys' := []) [] rfl
        have hFc := va_free (wc := []) hD hS hA [] rfl
        refine va_calli (va_runS (As := [.int p3, .int 0, .int 3]) (rest := []) ⟨hx, hb, hml, hown, hts⟩ (c_X11_isWithin_5 l dC dI H.size p3) (va_cwS 3 hts gf_c_X11_step_c_X11_isWithin_5 rfl rfl rfl (by decide +kernel) ⟨Nat.le_of_ble_eq_true rfl, Nat.le_of_ble_eq_true rfl⟩) ⟨fun a U g mk q => by obtain ⟨q0, q1, qP, qK, qD⟩ := q; exact ⟨q0, q1, qP, va_K.moved (u := U) (U := U.calling g mk a) (Vm.Alike.refl U.vm) qK, qD⟩, fun U hU hW => ⟨rfl, by rw [hU], by rw [hU]; exact hPc, va_K.moved hW.alike hKc, hDc.weaken (fun _ _ _ _ => trivial)⟩⟩ rfl rfl hl.1 rfl (lv_room (Nat.le_of_ble_eq_true rfl)) dX11_step_30 ⟨Nat.le_of_ble_eq_true rfl, Nat.le_of_ble_eq_true rfl⟩) hS (fun q _ h => hFc q h) hFc (fun r_101 u t H1 locs ht hvm hw hB hz1 hk1 hS => ?_)
        obtain ⟨hP1, hK1, hD1⟩ := hB
        rw [ht] at hP1
        have hP := bv_still hP hk1
        generalize H1 = H at hP hS ⊢
        rcases hw with ⟨h_102, h_103⟩ | ⟨h_104, h_105⟩
        · rw [h_102]
          refine lv_if_ne (tgt := 39) hx hb dX11_step_33 rfl (fun c_106 => absurd c_106 (by decide)) (fun c_106 => ?_)
          refine lv_ldc hx hb hown (hts (.constant RX11 228 (-1000000)) (List.mem_of_getElem? (i := 7) rfl)) dX11_step_36 ?_
          have hK9 := hK.sub (tys' := []) [] rfl
          exact W.iret (v := (-1000000)) hx hb hr (fun t ht hW => ⟨⟨(-1000000), (), rfl, (Or.inl rfl), by rw [ht]; exact hP, va_K.moved hW.alike hK9, hD⟩, hS.F ht⟩) hS.2.2 dX11_step_38
        · rw [h_104]
          refine lv_if_ne (tgt := 39) hx hb dX11_step_33 rfl (fun c_107 => ?_) (fun c_107 => absurd c_107 (by decide))
          refine lv_aload_n hx hb dX11_step_39 rfl (lv_at hl 0 rfl) ?_
          refine va_get (D := (dC, dI)) (ci := 11) (v := .ref h0_4) (C := RX11) (T := TX11) (N := 16) hx hb hts iw_c_X11_step_X11 hown hK hP 0 rfl rfl 4 (by decide) (hts (.fieldLink RX11 35 "BuoyVote" "plans" "[LBuoyVote$Plan;") (List.mem_of_getElem? (i := 8) rfl)) (fun _ h9 => h9) rfl dX11_step_40 ?_
          refine lv_iload_n hx hb dX11_step_43 rfl (lv_at hl 1 rfl) ?_
          by_cases c_108 : p1 = 3
          · refine W.eq (g2 := F0 m 44 ls [.int 3, .ref h0_4]) (by rw [c_108]) ?_
            have g_109 : RG p1 3 3 := RG_k _ _ (by rw [c_108]; rfl)
            refine va_aldq hx hb hK hP 1 0 rfl rfl (by unfold vp_in; decide) dX11_step_44 ?_
            rw [show h0_4c (3 : Int32).toNatClampNeg = some h0_4_e3 from e_h0_4_e3]
            refine W.eq (g2 := F0 m 45 ls [.ref h0_4_e3]) rfl ?_
            refine lv_iload_n hx hb dX11_step_45 rfl (lv_at hl 2 rfl) ?_
            refine lv_iload_n hx hb dX11_step_46 rfl (lv_at hl 3 rfl) ?_
            have hPc := hP.sub (ws' := (wd_c_X6_part h0_4_e3 h0_4_e3_0 h0_4_e3_f1 h0_4_e3_0 h0_4_e3_0k h0_4_e3_0c)) [8, 9] rfl
            have hDc := hD.sub (ws' := (wd_c_X6_part h0_4_e3 h0_4_e3_0 h0_4_e3_f1 h0_4_e3_0 h0_4_e3_0k h0_4_e3_0c)) [8, 9] (by decide) rfl
            have hKc := hK.sub (tys' := [(h0_4_e3_0k, .int)]) [4] rfl
            have hFc := va_free (wc := (wd_c_X6_part h0_4_e3 h0_4_e3_0 h0_4_e3_f1 h0_4_e3_0 h0_4_e3_0k h0_4_e3_0c)) hD hS hA [8, 9] rfl
            refine va_calli (va_runV (As := [.int p2, .int p3]) (rest := []) ⟨hx, hb, hml, hown, hts⟩ (c_X6_part l dC dI H.size h0_4_e3 p2 p3 h0_4_e3_0 h0_4_e3_f1 h0_4_e3_0k h0_4_e3_0c h_95 h_105 (RG_w g_99 (by decide)) a_h0_4_e3_0c) (cwV 2 hts gf_c_X11_step_c_X6_part rfl rfl rfl (by decide +kernel) ⟨Nat.le_of_ble_eq_true rfl, Nat.le_of_ble_eq_true rfl⟩) ⟨fun a U g mk q => by obtain ⟨q0, q1, qP, qK, qD⟩ := q; exact ⟨q0, q1, qP, va_K.moved (u := U) (U := U.calling g mk a) (Vm.Alike.refl U.vm) qK, qD⟩, va_recv hKc hPc (ci := 6) (q0 := 0) rfl rfl, fun U hU hW => ⟨rfl, by rw [hU], by rw [hU]; exact hPc, va_K.moved hW.alike hKc, hDc.weaken (fun _ _ _ _ => trivial)⟩⟩ rfl rfl hl.1 rfl (lv_room (Nat.le_of_ble_eq_true rfl)) dX11_step_47 ⟨Nat.le_of_ble_eq_true rfl, Nat.le_of_ble_eq_true rfl⟩) hS (fun q _ h => hFc q h) hFc (fun r_110 u t H1 locs ht hvm hw hB hz1 hk1 hS => ?_)
            obtain ⟨hP1, hK1, hD1⟩ := hB
            rw [ht] at hP1
            obtain ⟨hP, hD⟩ := va_join (wr := [(h0, .inr (11, [.ref h0_0, .ref h0_1, .ref h0_2, .ref h0_3, .ref h0_4, .int h0_f5, .ref h0_6, .ref h0_7, .ref h0_8, .ref h0_9, .ref h0_10, .ref h0_11, .ref h0_12, .ref h0_13, .ref h0_14, .long h0_f15])), (h0_4, .inl (h0_4k, 5, .inr (.inr (.inr (.inr h0_4c))))), (h0_4_e0, .inr (6, [.ref h0_4_e0_0, .int h0_4_e0_f1])), (h0_4_e0_0, .inl (h0_4_e0_0k, 64, .inl h0_4_e0_0c)), (h0_4_e1, .inr (6, [.ref h0_4_e1_0, .int h0_4_e1_f1])), (h0_4_e1_0, .inl (h0_4_e1_0k, 64, .inl h0_4_e1_0c)), (h0_4_e2, .inr (6, [.ref h0_4_e2_0, .int h0_4_e2_f1])), (h0_4_e2_0, .inl (h0_4_e2_0k, 64, .inl h0_4_e2_0c))]) (w1 := (wd_c_X6_part h0_4_e3 h0_4_e3_0 h0_4_e3_f1 h0_4_e3_0 h0_4_e3_0k h0_4_e3_0c)) hP hD [8, 9] [0, 1, 2, 3, 4, 5, 6, 7] rfl rfl (by decide) (by decide) hk1 hFc hP1 hD1
            have hP := hP.sub (ws' := (wd_c_X11_step h0 h0_0 h0_1 h0_2 h0_3 h0_4 h0_f5 h0_6 h0_7 h0_8 h0_9 h0_10 h0_11 h0_12 h0_13 h0_14 h0_f15 h0_4 h0_4k h0_4c h0_4_e0 h0_4_e0_0 h0_4_e0_f1 h0_4_e0_0 h0_4_e0_0k h0_4_e0_0c h0_4_e1 h0_4_e1_0 h0_4_e1_f1 h0_4_e1_0 h0_4_e1_0k h0_4_e1_0c h0_4_e2 h0_4_e2_0 h0_4_e2_f1 h0_4_e2_0 h0_4_e2_0k h0_4_e2_0c h0_4_e3 h0_4_e3_0 h0_4_e3_f1 h0_4_e3_0 h0_4_e3_0k h0_4_e3_0c)) [0, 1, 2, 3, 4, 5, 6, 7, 8, 9] rfl
            have hD := hD.sub (ws' := (wd_c_X11_step h0 h0_0 h0_1 h0_2 h0_3 h0_4 h0_f5 h0_6 h0_7 h0_8 h0_9 h0_10 h0_11 h0_12 h0_13 h0_14 h0_f15 h0_4 h0_4k h0_4c h0_4_e0 h0_4_e0_0 h0_4_e0_f1 h0_4_e0_0 h0_4_e0_0k h0_4_e0_0c h0_4_e1 h0_4_e1_0 h0_4_e1_f1 h0_4_e1_0 h0_4_e1_0k h0_4_e1_0c h0_4_e2 h0_4_e2_0 h0_4_e2_f1 h0_4_e2_0 h0_4_e2_0k h0_4_e2_0c h0_4_e3 h0_4_e3_0 h0_4_e3_f1 h0_4_e3_0 h0_4_e3_0k h0_4_e3_0c)) [0, 1, 2, 3, 4, 5, 6, 7, 8, 9] (by decide) rfl
            generalize H1 = H at hP hS ⊢
            rcases hw with ⟨h_111, h_112⟩
            have hK9 := hK.sub (tys' := []) [] rfl
            exact W.iret (v := r_110) hx hb hr (fun t ht hW => ⟨⟨r_110, (), rfl, (Or.inr ⟨h_111, h_5, (RG_w g_109 (by decide)), h_95, h_105⟩), by rw [ht]; exact hP, va_K.moved hW.alike hK9, hD⟩, hS.F ht⟩) hS.2.2 dX11_step_50
          exfalso
          have zc_108 := lv_neT c_108 (a := 3) (by decide)
          have zg1 := (g_88).1
          have zg2 := (g_88).2
          omega
    exfalso
    have zc_9 := lv_neT c_9 (a := 0) (by decide)
    have zc_35 := lv_neT c_35 (a := 1) (by decide)
    have zc_61 := lv_neT c_61 (a := 2) (by decide)
    have zc_87 := lv_neT c_87 (a := 3) (by decide)
    have zg1 := (h_6).1
    have zg2 := (h_6).2
    omega
def wf_c_X11_isWithin_6 : List Cond := .code yX11_isWithin cX11_isWithin 3 (some .boolean) :: ([])
set_option maxHeartbeats 4000000 in
set_option maxRecDepth 100000 in
theorem c_X11_isWithin_6 (l : Launch) (dC : Nat → ClassId) (dI : Nat → Nat → Nat) (sz : Nat) (p0 : Int32) : Met l yX11_isWithin wf_c_X11_isWithin_6 ({ frames := 0, cells := 0, slots := 0, locals := 0 }) (va_Pc [.int p0, .int 0, .int 1] (fun U => U.heap.size = sz ∧ va_P (dC, dI) vwCl [] U.heap ∧ va_K (dC, dI) vwCl [] U ∧ va_D (fun _ => True) [])) (va_Qi (fun (r : Int32) (u : Unit) => (r = 0 ∧ RG p0 (-2147483648) 2147483647) ∨ (r = 1 ∧ RG p0 0 1)) (fun (u : Unit) t => va_P (dC, dI) vwCl [] t.heap ∧ va_K (dC, dI) vwCl [] t ∧ va_D (va_A [] sz) []) (va_A [] sz)) 0 0 (va_A [] sz) := by
  refine Met.ofW (cc := cX11_isWithin) (maxL := 3) (ret := (some .boolean)) (by decide) rfl ?_
  intro p e s m args below meth c s₁ B hml hv
  obtain ⟨rfl, hsz, hP, hK, hD0⟩ := hv
  have hx := B.exec
  have hb := B.bytes
  have hr := B.returns
  have hts := atoms_spec (ws := wf_c_X11_isWithin_6) B.pre
  have hown : s.vm.findClass RX11 = some m.cls := findClass_of_methodNamed B.named
  have hlocks := B.notSynchronized
  subst hsz
  have hD := hD0.self (sz := s.heap.size)
  generalize hAe : va_A [] s.heap.size = A at hD ⊢
  have hA : ∀ q : Nat, s.heap.size ≤ q → A q := fun q h => by rw [← hAe]; exact Or.inr h
  have hP : va_P (dC, dI) vwCl [] s.heap := hP
  have hl := lv_entry ([.int p0, .int 0, .int 1]) (n := 3) (Nat.le_of_ble_eq_true rfl)
  rw [lg_entry_eq]
  generalize (lg_sl ([.int p0, .int 0, .int 1]) ++ List.replicate (3 - (lg_sl ([.int p0, .int 0, .int 1])).length) Slot.unset).toArray = ls at hl ⊢
  have hl : lv_has ls 3 [(0, .int p0), (1, .int 0), (2, .int 1)] := hl
  obtain ⟨H, hHe⟩ : ∃ H : Heap, s.heap = H := ⟨_, rfl⟩
  have hS : va_S A s.heap H [] := by rw [hHe]; exact va_S.rf
  have hP : va_P (dC, dI) vwCl [] H := by rw [← hHe]; exact hP
  rw [hHe]
  refine lv_iload_n hx hb dX11_isWithin_0 rfl (lv_at hl 0 rfl) ?_
  refine lv_iload_n hx hb dX11_isWithin_1 rfl (lv_at hl 1 rfl) ?_
  refine lv_icmp_lt (tgt := 14) hx hb dX11_isWithin_2 rfl (fun c_1 => ?_) (fun c_1 => ?_)
  · have g_2 : RG p0 (-2147483648) (-1) := RG_lt1 (RG_any p0) (RG_k 0 0 rfl) c_1 (by decide)
    refine lv_iconst (v := 0) hx hb dX11_isWithin_14 kc_iconst_0 ?_
    have hK9 := hK.sub (tys' := []) [] rfl
    exact W.zret (v := 0) hx hb hr rfl (fun t ht hW => ⟨⟨0, (), rfl, (Or.inl ⟨rfl, (RG_w g_2 (by decide))⟩), by rw [ht]; exact hP, va_K.moved hW.alike hK9, hD⟩, hS.F ht⟩) hS.2.2 dX11_isWithin_15
  · have d_3 := Int32.not_lt.mp c_1
    have g_4 : RG p0 0 2147483647 := RG_le2 (RG_k 0 0 rfl) (RG_any p0) d_3 (by decide)
    refine lv_iload_n hx hb dX11_isWithin_5 rfl (lv_at hl 0 rfl) ?_
    refine lv_iload_n hx hb dX11_isWithin_6 rfl (lv_at hl 2 rfl) ?_
    refine lv_icmp_gt (tgt := 14) hx hb dX11_isWithin_7 rfl (fun c_5 => ?_) (fun c_5 => ?_)
    · have g_6 : RG p0 2 2147483647 := RG_lt2 (RG_k 1 1 rfl) g_4 c_5 (by decide)
      refine lv_iconst (v := 0) hx hb dX11_isWithin_14 kc_iconst_0 ?_
      have hK9 := hK.sub (tys' := []) [] rfl
      exact W.zret (v := 0) hx hb hr rfl (fun t ht hW => ⟨⟨0, (), rfl, (Or.inl ⟨rfl, (RG_w g_6 (by decide))⟩), by rw [ht]; exact hP, va_K.moved hW.alike hK9, hD⟩, hS.F ht⟩) hS.2.2 dX11_isWithin_15
    · have d_7 := Int32.not_lt.mp c_5
      have g_8 : RG p0 0 1 := RG_le1 g_4 (RG_k 1 1 rfl) d_7 (by decide)
      refine lv_iconst (v := 1) hx hb dX11_isWithin_10 kc_iconst_1 ?_
      refine lv_goto (tgt := 15) hx hb dX11_isWithin_11 rfl ?_
      have hK9 := hK.sub (tys' := []) [] rfl
      exact W.zret (v := 1) hx hb hr rfl (fun t ht hW => ⟨⟨1, (), rfl, (Or.inr ⟨rfl, g_8⟩), by rw [ht]; exact hP, va_K.moved hW.alike hK9, hD⟩, hS.F ht⟩) hS.2.2 dX11_isWithin_15
def wd_c_X7_copyFrom (a0 : Nat) (a1 : Int32) (a2 : Int32) (a3 : Int32) (a4 : Int32) (a5 : Nat) (a6 : Nat) (a7 : Nat) (a8 : Nat) (a9 : Nat) (a10 : Nat) (a11 : Nat) (a12 : Nat) (a13 : Nat) (a14 : Nat) (a15 : Int32) (a16 : Int32) (a17 : Int32) (a18 : Int32) (a19 : Nat) (a20 : Nat) (a21 : Nat) (a22 : Nat) (a23 : Nat) (a24 : Nat) (a25 : Nat) (a26 : Nat) (a27 : Nat) (a28 : Nat) (a29 : ClassId) (a30 : Nat → Int32) (a31 : Nat) (a32 : ClassId) (a33 : Nat → Int32) (a34 : Nat) (a35 : ClassId) (a36 : Nat → Int32) (a37 : Nat) (a38 : ClassId) (a39 : Nat → Int32) (a40 : Nat) (a41 : ClassId) (a42 : Nat → Int32) (a43 : Nat) (a44 : ClassId) (a45 : Nat → Int32) (a46 : Nat) (a47 : ClassId) (a48 : Nat → Int32) (a49 : Nat) (a50 : ClassId) (a51 : Nat → Int32) (a52 : Nat) (a53 : ClassId) (a54 : Nat → Int32) (a55 : Nat) (a56 : ClassId) (a57 : Nat → Int32) (a58 : Nat) (a59 : ClassId) (a60 : Nat → Int32) (a61 : Nat) (a62 : ClassId) (a63 : Nat → Int32) (a64 : Nat) (a65 : ClassId) (a66 : Nat → Int32) (a67 : Nat) (a68 : ClassId) (a69 : Nat → Int32) (a70 : Nat) (a71 : ClassId) (a72 : Nat → Int32) (a73 : Nat) (a74 : ClassId) (a75 : Nat → Int32) (a76 : Nat) (a77 : ClassId) (a78 : Nat → Int32) (a79 : Nat) (a80 : ClassId) (a81 : Nat → Int32) : va_W := [(a0, .inr (7, [.int a1, .int a2, .int a3, .int a4, .ref a5, .ref a6, .ref a7, .ref a8, .ref a9, .ref a10, .ref a11, .ref a12, .ref a13])), (a14, .inr (7, [.int a15, .int a16, .int a17, .int a18, .ref a19, .ref a20, .ref a21, .ref a22, .ref a23, .ref a24, .ref a25, .ref a26, .ref a27])), (a28, .inl (a29, 3, .inl a30)), (a31, .inl (a32, 3, .inl a33)), (a34, .inl (a35, 3, .inl a36)), (a37, .inl (a38, 3, .inl a39)), (a40, .inl (a41, 3, .inl a42)), (a43, .inl (a44, 3, .inl a45)), (a46, .inl (a47, 3, .inl a48)), (a49, .inl (a50, 3, .inl a51)), (a52, .inl (a53, 3, .inl a54)), (a55, .inl (a56, 3, .inl a57)), (a58, .inl (a59, 3, .inl a60)), (a61, .inl (a62, 3, .inl a63)), (a64, .inl (a65, 24, .inl a66)), (a67, .inl (a68, 24, .inl a69)), (a70, .inl (a71, 8, .inl a72)), (a73, .inl (a74, 8, .inl a75)), (a76, .inl (a77, 8, .inl a78)), (a79, .inl (a80, 8, .inl a81))]
def wf_c_X7_copyFrom : List Cond := .code yX7_copyFrom cX7_copyFrom 2 none :: ([.fieldLink RX7 45 "BuoyVote$Sea" "wind" "I", .fieldLink RX7 52 "BuoyVote$Sea" "way" "I", .fieldLink RX7 55 "BuoyVote$Sea" "hour" "I", .fieldLink RX7 58 "BuoyVote$Sea" "logged" "I", .fieldLink RX7 9 "BuoyVote$Sea" "x" "[I", .methodLink RX7 88 arraycopyName, .native arraycopyName, .static arraycopyName, .initialized "java/lang/System", .fieldLink RX7 15 "BuoyVote$Sea" "y" "[I", .fieldLink RX7 18 "BuoyVote$Sea" "goalX" "[I", .fieldLink RX7 21 "BuoyVote$Sea" "goalY" "[I", .fieldLink RX7 24 "BuoyVote$Sea" "won" "[I", .fieldLink RX7 27 "BuoyVote$Sea" "sang" "[I", .fieldLink RX7 30 "BuoyVote$Sea" "liking" "[I", .fieldLink RX7 33 "BuoyVote$Sea" "old" "[I", .fieldLink RX7 36 "BuoyVote$Sea" "barnacles" "[I"] ++ wsX70)
theorem iw_c_X7_copyFrom_X7 : ∀ w ∈ wsX70, w ∈ wf_c_X7_copyFrom := fun w h => List.mem_cons_of_mem _ (List.mem_append_right _ h)
set_option maxHeartbeats 4000000 in
set_option maxRecDepth 100000 in
theorem c_X7_copyFrom (l : Launch) (dC : Nat → ClassId) (dI : Nat → Nat → Nat) (sz : Nat) (h0 : Nat) (h1 : Nat) (h1_f0 : Int32) (h1_f1 : Int32) (h1_f2 : Int32) (h1_f3 : Int32) (h1_4 : Nat) (h1_5 : Nat) (h1_6 : Nat) (h1_7 : Nat) (h1_8 : Nat) (h1_9 : Nat) (h1_10 : Nat) (h1_11 : Nat) (h1_12 : Nat) (h0_f0 : Int32) (h0_f1 : Int32) (h0_f2 : Int32) (h0_f3 : Int32) (h0_4 : Nat) (h0_5 : Nat) (h0_6 : Nat) (h0_7 : Nat) (h0_8 : Nat) (h0_9 : Nat) (h0_10 : Nat) (h0_11 : Nat) (h0_12 : Nat) (h1_4k : ClassId) (h1_4c : Nat → Int32) (h0_4k : ClassId) (h0_4c : Nat → Int32) (h1_5k : ClassId) (h1_5c : Nat → Int32) (h0_5k : ClassId) (h0_5c : Nat → Int32) (h1_6k : ClassId) (h1_6c : Nat → Int32) (h0_6k : ClassId) (h0_6c : Nat → Int32) (h1_7k : ClassId) (h1_7c : Nat → Int32) (h0_7k : ClassId) (h0_7c : Nat → Int32) (h1_8k : ClassId) (h1_8c : Nat → Int32) (h0_8k : ClassId) (h0_8c : Nat → Int32) (h1_9k : ClassId) (h1_9c : Nat → Int32) (h0_9k : ClassId) (h0_9c : Nat → Int32) (h1_10k : ClassId) (h1_10c : Nat → Int32) (h0_10k : ClassId) (h0_10c : Nat → Int32) (h1_11k : ClassId) (h1_11c : Nat → Int32) (h0_11k : ClassId) (h0_11c : Nat → Int32) (h1_12k : ClassId) (h1_12c : Nat → Int32) (h0_12k : ClassId) (h0_12c : Nat → Int32) : Met l yX7_copyFrom wf_c_X7_copyFrom ({ frames := 1, cells := 0, slots := 0, locals := 40 }) (va_Pc [.ref h0, .ref h1] (fun U => U.heap.size = sz ∧ va_P (dC, dI) vwCl (wd_c_X7_copyFrom h1 h1_f0 h1_f1 h1_f2 h1_f3 h1_4 h1_5 h1_6 h1_7 h1_8 h1_9 h1_10 h1_11 h1_12 h0 h0_f0 h0_f1 h0_f2 h0_f3 h0_4 h0_5 h0_6 h0_7 h0_8 h0_9 h0_10 h0_11 h0_12 h1_4 h1_4k h1_4c h0_4 h0_4k h0_4c h1_5 h1_5k h1_5c h0_5 h0_5k h0_5c h1_6 h1_6k h1_6c h0_6 h0_6k h0_6c h1_7 h1_7k h1_7c h0_7 h0_7k h0_7c h1_8 h1_8k h1_8c h0_8 h0_8k h0_8c h1_9 h1_9k h1_9c h0_9 h0_9k h0_9c h1_10 h1_10k h1_10c h0_10 h0_10k h0_10c h1_11 h1_11k h1_11c h0_11 h0_11k h0_11c h1_12 h1_12k h1_12c h0_12 h0_12k h0_12c) U.heap ∧ va_K (dC, dI) vwCl [(h1_4k, .int), (h0_4k, .int), (h1_5k, .int), (h0_5k, .int), (h1_6k, .int), (h0_6k, .int), (h1_7k, .int), (h0_7k, .int), (h1_8k, .int), (h0_8k, .int), (h1_9k, .int), (h0_9k, .int), (h1_10k, .int), (h0_10k, .int), (h1_11k, .int), (h0_11k, .int), (h1_12k, .int), (h0_12k, .int)] U ∧ va_D (fun _ => True) (wd_c_X7_copyFrom h1 h1_f0 h1_f1 h1_f2 h1_f3 h1_4 h1_5 h1_6 h1_7 h1_8 h1_9 h1_10 h1_11 h1_12 h0 h0_f0 h0_f1 h0_f2 h0_f3 h0_4 h0_5 h0_6 h0_7 h0_8 h0_9 h0_10 h0_11 h0_12 h1_4 h1_4k h1_4c h0_4 h0_4k h0_4c h1_5 h1_5k h1_5c h0_5 h0_5k h0_5c h1_6 h1_6k h1_6c h0_6 h0_6k h0_6c h1_7 h1_7k h1_7c h0_7 h0_7k h0_7c h1_8 h1_8k h1_8c h0_8 h0_8k h0_8c h1_9 h1_9k h1_9c h0_9 h0_9k h0_9c h1_10 h1_10k h1_10c h0_10 h0_10k h0_10c h1_11 h1_11k h1_11c h0_11 h0_11k h0_11c h1_12 h1_12k h1_12c h0_12 h0_12k h0_12c))) (va_Qv (fun (u : (Nat → Int32) × (Nat → Int32) × (Nat → Int32) × (Nat → Int32) × (Nat → Int32) × (Nat → Int32) × (Nat → Int32) × (Nat → Int32) × (Nat → Int32)) => (True)) (fun (u : (Nat → Int32) × (Nat → Int32) × (Nat → Int32) × (Nat → Int32) × (Nat → Int32) × (Nat → Int32) × (Nat → Int32) × (Nat → Int32) × (Nat → Int32)) t => va_P (dC, dI) vwCl (wd_c_X7_copyFrom h1 h1_f0 h1_f1 h1_f2 h1_f3 h1_4 h1_5 h1_6 h1_7 h1_8 h1_9 h1_10 h1_11 h1_12 h0 h1_f0 h1_f1 h1_f2 h1_f3 h0_4 h0_5 h0_6 h0_7 h0_8 h0_9 h0_10 h0_11 h0_12 h1_4 h1_4k h1_4c h0_4 h0_4k (u.1) h1_5 h1_5k h1_5c h0_5 h0_5k (u.2.1) h1_6 h1_6k h1_6c h0_6 h0_6k (u.2.2.1) h1_7 h1_7k h1_7c h0_7 h0_7k (u.2.2.2.1) h1_8 h1_8k h1_8c h0_8 h0_8k (u.2.2.2.2.1) h1_9 h1_9k h1_9c h0_9 h0_9k (u.2.2.2.2.2.1) h1_10 h1_10k h1_10c h0_10 h0_10k (u.2.2.2.2.2.2.1) h1_11 h1_11k h1_11c h0_11 h0_11k (u.2.2.2.2.2.2.2.1) h1_12 h1_12k h1_12c h0_12 h0_12k (u.2.2.2.2.2.2.2.2)) t.heap ∧ va_K (dC, dI) vwCl [] t ∧ va_D (va_A (wd_c_X7_copyFrom h1 h1_f0 h1_f1 h1_f2 h1_f3 h1_4 h1_5 h1_6 h1_7 h1_8 h1_9 h1_10 h1_11 h1_12 h0 h0_f0 h0_f1 h0_f2 h0_f3 h0_4 h0_5 h0_6 h0_7 h0_8 h0_9 h0_10 h0_11 h0_12 h1_4 h1_4k h1_4c h0_4 h0_4k h0_4c h1_5 h1_5k h1_5c h0_5 h0_5k h0_5c h1_6 h1_6k h1_6c h0_6 h0_6k h0_6c h1_7 h1_7k h1_7c h0_7 h0_7k h0_7c h1_8 h1_8k h1_8c h0_8 h0_8k h0_8c h1_9 h1_9k h1_9c h0_9 h0_9k h0_9c h1_10 h1_10k h1_10c h0_10 h0_10k h0_10c h1_11 h1_11k h1_11c h0_11 h0_11k h0_11c h1_12 h1_12k h1_12c h0_12 h0_12k h0_12c) sz) (wd_c_X7_copyFrom h1 h1_f0 h1_f1 h1_f2 h1_f3 h1_4 h1_5 h1_6 h1_7 h1_8 h1_9 h1_10 h1_11 h1_12 h0 h1_f0 h1_f1 h1_f2 h1_f3 h0_4 h0_5 h0_6 h0_7 h0_8 h0_9 h0_10 h0_11 h0_12 h1_4 h1_4k h1_4c h0_4 h0_4k (u.1) h1_5 h1_5k h1_5c h0_5 h0_5k (u.2.1) h1_6 h1_6k h1_6c h0_6 h0_6k (u.2.2.1) h1_7 h1_7k h1_7c h0_7 h0_7k (u.2.2.2.1) h1_8 h1_8k h1_8c h0_8 h0_8k (u.2.2.2.2.1) h1_9 h1_9k h1_9c h0_9 h0_9k (u.2.2.2.2.2.1) h1_10 h1_10k h1_10c h0_10 h0_10k (u.2.2.2.2.2.2.1) h1_11 h1_11k h1_11c h0_11 h0_11k (u.2.2.2.2.2.2.2.1) h1_12 h1_12k h1_12c h0_12 h0_12k (u.2.2.2.2.2.2.2.2))) (va_A (wd_c_X7_copyFrom h1 h1_f0 h1_f1 h1_f2 h1_f3 h1_4 h1_5 h1_6 h1_7 h1_8 h1_9 h1_10 h1_11 h1_12 h0 h0_f0 h0_f1 h0_f2 h0_f3 h0_4 h0_5 h0_6 h0_7 h0_8 h0_9 h0_10 h0_11 h0_12 h1_4 h1_4k h1_4c h0_4 h0_4k h0_4c h1_5 h1_5k h1_5c h0_5 h0_5k h0_5c h1_6 h1_6k h1_6c h0_6 h0_6k h0_6c h1_7 h1_7k h1_7c h0_7 h0_7k h0_7c h1_8 h1_8k h1_8c h0_8 h0_8k h0_8c h1_9 h1_9k h1_9c h0_9 h0_9k h0_9c h1_10 h1_10k h1_10c h0_10 h0_10k h0_10c h1_11 h1_11k h1_11c h0_11 h0_11k h0_11c h1_12 h1_12k h1_12c h0_12 h0_12k h0_12c) sz)) 0 0 (va_A (wd_c_X7_copyFrom h1 h1_f0 h1_f1 h1_f2 h1_f3 h1_4 h1_5 h1_6 h1_7 h1_8 h1_9 h1_10 h1_11 h1_12 h0 h0_f0 h0_f1 h0_f2 h0_f3 h0_4 h0_5 h0_6 h0_7 h0_8 h0_9 h0_10 h0_11 h0_12 h1_4 h1_4k h1_4c h0_4 h0_4k h0_4c h1_5 h1_5k h1_5c h0_5 h0_5k h0_5c h1_6 h1_6k h1_6c h0_6 h0_6k h0_6c h1_7 h1_7k h1_7c h0_7 h0_7k h0_7c h1_8 h1_8k h1_8c h0_8 h0_8k h0_8c h1_9 h1_9k h1_9c h0_9 h0_9k h0_9c h1_10 h1_10k h1_10c h0_10 h0_10k h0_10c h1_11 h1_11k h1_11c h0_11 h0_11k h0_11c h1_12 h1_12k h1_12c h0_12 h0_12k h0_12c) sz) := by
  refine Met.ofW (cc := cX7_copyFrom) (maxL := 2) (ret := none) (by decide) rfl ?_
  intro p e s m args below meth c s₁ B hml hv
  obtain ⟨rfl, hsz, hP, hK, hD0⟩ := hv
  have hx := B.exec
  have hb := B.bytes
  have hr := B.returns
  have hts := atoms_spec (ws := wf_c_X7_copyFrom) B.pre
  have hown : s.vm.findClass RX7 = some m.cls := findClass_of_methodNamed B.named
  have hlocks := B.notSynchronized
  subst hsz
  have hD := hD0.self (sz := s.heap.size)
  generalize hAe : va_A (wd_c_X7_copyFrom h1 h1_f0 h1_f1 h1_f2 h1_f3 h1_4 h1_5 h1_6 h1_7 h1_8 h1_9 h1_10 h1_11 h1_12 h0 h0_f0 h0_f1 h0_f2 h0_f3 h0_4 h0_5 h0_6 h0_7 h0_8 h0_9 h0_10 h0_11 h0_12 h1_4 h1_4k h1_4c h0_4 h0_4k h0_4c h1_5 h1_5k h1_5c h0_5 h0_5k h0_5c h1_6 h1_6k h1_6c h0_6 h0_6k h0_6c h1_7 h1_7k h1_7c h0_7 h0_7k h0_7c h1_8 h1_8k h1_8c h0_8 h0_8k h0_8c h1_9 h1_9k h1_9c h0_9 h0_9k h0_9c h1_10 h1_10k h1_10c h0_10 h0_10k h0_10c h1_11 h1_11k h1_11c h0_11 h0_11k h0_11c h1_12 h1_12k h1_12c h0_12 h0_12k h0_12c) s.heap.size = A at hD ⊢
  have hA : ∀ q : Nat, s.heap.size ≤ q → A q := fun q h => by rw [← hAe]; exact Or.inr h
  have hP : va_P (dC, dI) vwCl (wd_c_X7_copyFrom h1 h1_f0 h1_f1 h1_f2 h1_f3 h1_4 h1_5 h1_6 h1_7 h1_8 h1_9 h1_10 h1_11 h1_12 h0 h0_f0 h0_f1 h0_f2 h0_f3 h0_4 h0_5 h0_6 h0_7 h0_8 h0_9 h0_10 h0_11 h0_12 h1_4 h1_4k h1_4c h0_4 h0_4k h0_4c h1_5 h1_5k h1_5c h0_5 h0_5k h0_5c h1_6 h1_6k h1_6c h0_6 h0_6k h0_6c h1_7 h1_7k h1_7c h0_7 h0_7k h0_7c h1_8 h1_8k h1_8c h0_8 h0_8k h0_8c h1_9 h1_9k h1_9c h0_9 h0_9k h0_9c h1_10 h1_10k h1_10c h0_10 h0_10k h0_10c h1_11 h1_11k h1_11c h0_11 h0_11k h0_11c h1_12 h1_12k h1_12c h0_12 h0_12k h0_12c) s.heap := hP
  have hl := lv_entry ([.ref h0, .ref h1]) (n := 2) (Nat.le_of_ble_eq_true rfl)
  rw [lg_entry_eq]
  generalize (lg_sl ([.ref h0, .ref h1]) ++ List.replicate (2 - (lg_sl ([.ref h0, .ref h1])).length) Slot.unset).toArray = ls at hl ⊢
  have hl : lv_has ls 2 [(0, .ref h0), (1, .ref h1)] := hl
  obtain ⟨H, hHe⟩ : ∃ H : Heap, s.heap = H := ⟨_, rfl⟩
  have hS : va_S A s.heap H [] := by rw [hHe]; exact va_S.rf
  have hP : va_P (dC, dI) vwCl (wd_c_X7_copyFrom h1 h1_f0 h1_f1 h1_f2 h1_f3 h1_4 h1_5 h1_6 h1_7 h1_8 h1_9 h1_10 h1_11 h1_12 h0 h0_f0 h0_f1 h0_f2 h0_f3 h0_4 h0_5 h0_6 h0_7 h0_8 h0_9 h0_10 h0_11 h0_12 h1_4 h1_4k h1_4c h0_4 h0_4k h0_4c h1_5 h1_5k h1_5c h0_5 h0_5k h0_5c h1_6 h1_6k h1_6c h0_6 h0_6k h0_6c h1_7 h1_7k h1_7c h0_7 h0_7k h0_7c h1_8 h1_8k h1_8c h0_8 h0_8k h0_8c h1_9 h1_9k h1_9c h0_9 h0_9k h0_9c h1_10 h1_10k h1_10c h0_10 h0_10k h0_10c h1_11 h1_11k h1_11c h0_11 h0_11k h0_11c h1_12 h1_12k h1_12c h0_12 h0_12k h0_12c) H := by rw [← hHe]; exact hP
  rw [hHe]
  refine lv_aload_n hx hb dX7_copyFrom_0 rfl (lv_at hl 0 rfl) ?_
  refine lv_aload_n hx hb dX7_copyFrom_1 rfl (lv_at hl 1 rfl) ?_
  refine va_get (D := (dC, dI)) (ci := 7) (v := .int h1_f0) (C := RX7) (T := TX7) (N := 13) hx hb hts iw_c_X7_copyFrom_X7 hown hK hP 0 rfl rfl 0 (by decide) (hts (.fieldLink RX7 45 "BuoyVote$Sea" "wind" "I") (List.mem_of_getElem? (i := 1) rfl)) (fun _ h9 => h9) rfl dX7_copyFrom_2 ?_
  refine va_put (D := (dC, dI)) (ci := 7) (v := .int h1_f0) (ty := .int) (C := RX7) (T := TX7) (N := 13) hx hb hts iw_c_X7_copyFrom_X7 tyX7 tyX7_ok nmX7 hown hK hP hD hS 1 rfl rfl 0 (by decide) (hts (.fieldLink RX7 45 "BuoyVote$Sea" "wind" "I") (List.mem_of_getElem? (i := 1) rfl)) (fun _ h9 => h9) rfl (by decide +kernel) rfl rfl (Nat.le_of_ble_eq_true rfl) dX7_copyFrom_5 (fun H locs hP hD hS => ?_)
  have hP : va_P (dC, dI) vwCl (wd_c_X7_copyFrom h1 h1_f0 h1_f1 h1_f2 h1_f3 h1_4 h1_5 h1_6 h1_7 h1_8 h1_9 h1_10 h1_11 h1_12 h0 h1_f0 h0_f1 h0_f2 h0_f3 h0_4 h0_5 h0_6 h0_7 h0_8 h0_9 h0_10 h0_11 h0_12 h1_4 h1_4k h1_4c h0_4 h0_4k h0_4c h1_5 h1_5k h1_5c h0_5 h0_5k h0_5c h1_6 h1_6k h1_6c h0_6 h0_6k h0_6c h1_7 h1_7k h1_7c h0_7 h0_7k h0_7c h1_8 h1_8k h1_8c h0_8 h0_8k h0_8c h1_9 h1_9k h1_9c h0_9 h0_9k h0_9c h1_10 h1_10k h1_10c h0_10 h0_10k h0_10c h1_11 h1_11k h1_11c h0_11 h0_11k h0_11c h1_12 h1_12k h1_12c h0_12 h0_12k h0_12c) H := hP
  have hD : va_D A (wd_c_X7_copyFrom h1 h1_f0 h1_f1 h1_f2 h1_f3 h1_4 h1_5 h1_6 h1_7 h1_8 h1_9 h1_10 h1_11 h1_12 h0 h1_f0 h0_f1 h0_f2 h0_f3 h0_4 h0_5 h0_6 h0_7 h0_8 h0_9 h0_10 h0_11 h0_12 h1_4 h1_4k h1_4c h0_4 h0_4k h0_4c h1_5 h1_5k h1_5c h0_5 h0_5k h0_5c h1_6 h1_6k h1_6c h0_6 h0_6k h0_6c h1_7 h1_7k h1_7c h0_7 h0_7k h0_7c h1_8 h1_8k h1_8c h0_8 h0_8k h0_8c h1_9 h1_9k h1_9c h0_9 h0_9k h0_9c h1_10 h1_10k h1_10c h0_10 h0_10k h0_10c h1_11 h1_11k h1_11c h0_11 h0_11k h0_11c h1_12 h1_12k h1_12c h0_12 h0_12k h0_12c) := hD
  refine lv_aload_n hx hb dX7_copyFrom_8 rfl (lv_at hl 0 rfl) ?_
  refine lv_aload_n hx hb dX7_copyFrom_9 rfl (lv_at hl 1 rfl) ?_
  refine va_get (D := (dC, dI)) (ci := 7) (v := .int h1_f1) (C := RX7) (T := TX7) (N := 13) hx hb hts iw_c_X7_copyFrom_X7 hown hK hP 0 rfl rfl 1 (by decide) (hts (.fieldLink RX7 52 "BuoyVote$Sea" "way" "I") (List.mem_of_getElem? (i := 2) rfl)) (fun _ h9 => h9) rfl dX7_copyFrom_10 ?_
  refine va_put (D := (dC, dI)) (ci := 7) (v := .int h1_f1) (ty := .int) (C := RX7) (T := TX7) (N := 13) hx hb hts iw_c_X7_copyFrom_X7 tyX7 tyX7_ok nmX7 hown hK hP hD hS 1 rfl rfl 1 (by decide) (hts (.fieldLink RX7 52 "BuoyVote$Sea" "way" "I") (List.mem_of_getElem? (i := 2) rfl)) (fun _ h9 => h9) rfl (by decide +kernel) rfl rfl (Nat.le_of_ble_eq_true rfl) dX7_copyFrom_13 (fun H locs hP hD hS => ?_)
  have hP : va_P (dC, dI) vwCl (wd_c_X7_copyFrom h1 h1_f0 h1_f1 h1_f2 h1_f3 h1_4 h1_5 h1_6 h1_7 h1_8 h1_9 h1_10 h1_11 h1_12 h0 h1_f0 h1_f1 h0_f2 h0_f3 h0_4 h0_5 h0_6 h0_7 h0_8 h0_9 h0_10 h0_11 h0_12 h1_4 h1_4k h1_4c h0_4 h0_4k h0_4c h1_5 h1_5k h1_5c h0_5 h0_5k h0_5c h1_6 h1_6k h1_6c h0_6 h0_6k h0_6c h1_7 h1_7k h1_7c h0_7 h0_7k h0_7c h1_8 h1_8k h1_8c h0_8 h0_8k h0_8c h1_9 h1_9k h1_9c h0_9 h0_9k h0_9c h1_10 h1_10k h1_10c h0_10 h0_10k h0_10c h1_11 h1_11k h1_11c h0_11 h0_11k h0_11c h1_12 h1_12k h1_12c h0_12 h0_12k h0_12c) H := hP
  have hD : va_D A (wd_c_X7_copyFrom h1 h1_f0 h1_f1 h1_f2 h1_f3 h1_4 h1_5 h1_6 h1_7 h1_8 h1_9 h1_10 h1_11 h1_12 h0 h1_f0 h1_f1 h0_f2 h0_f3 h0_4 h0_5 h0_6 h0_7 h0_8 h0_9 h0_10 h0_11 h0_12 h1_4 h1_4k h1_4c h0_4 h0_4k h0_4c h1_5 h1_5k h1_5c h0_5 h0_5k h0_5c h1_6 h1_6k h1_6c h0_6 h0_6k h0_6c h1_7 h1_7k h1_7c h0_7 h0_7k h0_7c h1_8 h1_8k h1_8c h0_8 h0_8k h0_8c h1_9 h1_9k h1_9c h0_9 h0_9k h0_9c h1_10 h1_10k h1_10c h0_10 h0_10k h0_10c h1_11 h1_11k h1_11c h0_11 h0_11k h0_11c h1_12 h1_12k h1_12c h0_12 h0_12k h0_12c) := hD
  refine lv_aload_n hx hb dX7_copyFrom_16 rfl (lv_at hl 0 rfl) ?_
  refine lv_aload_n hx hb dX7_copyFrom_17 rfl (lv_at hl 1 rfl) ?_
  refine va_get (D := (dC, dI)) (ci := 7) (v := .int h1_f2) (C := RX7) (T := TX7) (N := 13) hx hb hts iw_c_X7_copyFrom_X7 hown hK hP 0 rfl rfl 2 (by decide) (hts (.fieldLink RX7 55 "BuoyVote$Sea" "hour" "I") (List.mem_of_getElem? (i := 3) rfl)) (fun _ h9 => h9) rfl dX7_copyFrom_18 ?_
  refine va_put (D := (dC, dI)) (ci := 7) (v := .int h1_f2) (ty := .int) (C := RX7) (T := TX7) (N := 13) hx hb hts iw_c_X7_copyFrom_X7 tyX7 tyX7_ok nmX7 hown hK hP hD hS 1 rfl rfl 2 (by decide) (hts (.fieldLink RX7 55 "BuoyVote$Sea" "hour" "I") (List.mem_of_getElem? (i := 3) rfl)) (fun _ h9 => h9) rfl (by decide +kernel) rfl rfl (Nat.le_of_ble_eq_true rfl) dX7_copyFrom_21 (fun H locs hP hD hS => ?_)
  have hP : va_P (dC, dI) vwCl (wd_c_X7_copyFrom h1 h1_f0 h1_f1 h1_f2 h1_f3 h1_4 h1_5 h1_6 h1_7 h1_8 h1_9 h1_10 h1_11 h1_12 h0 h1_f0 h1_f1 h1_f2 h0_f3 h0_4 h0_5 h0_6 h0_7 h0_8 h0_9 h0_10 h0_11 h0_12 h1_4 h1_4k h1_4c h0_4 h0_4k h0_4c h1_5 h1_5k h1_5c h0_5 h0_5k h0_5c h1_6 h1_6k h1_6c h0_6 h0_6k h0_6c h1_7 h1_7k h1_7c h0_7 h0_7k h0_7c h1_8 h1_8k h1_8c h0_8 h0_8k h0_8c h1_9 h1_9k h1_9c h0_9 h0_9k h0_9c h1_10 h1_10k h1_10c h0_10 h0_10k h0_10c h1_11 h1_11k h1_11c h0_11 h0_11k h0_11c h1_12 h1_12k h1_12c h0_12 h0_12k h0_12c) H := hP
  have hD : va_D A (wd_c_X7_copyFrom h1 h1_f0 h1_f1 h1_f2 h1_f3 h1_4 h1_5 h1_6 h1_7 h1_8 h1_9 h1_10 h1_11 h1_12 h0 h1_f0 h1_f1 h1_f2 h0_f3 h0_4 h0_5 h0_6 h0_7 h0_8 h0_9 h0_10 h0_11 h0_12 h1_4 h1_4k h1_4c h0_4 h0_4k h0_4c h1_5 h1_5k h1_5c h0_5 h0_5k h0_5c h1_6 h1_6k h1_6c h0_6 h0_6k h0_6c h1_7 h1_7k h1_7c h0_7 h0_7k h0_7c h1_8 h1_8k h1_8c h0_8 h0_8k h0_8c h1_9 h1_9k h1_9c h0_9 h0_9k h0_9c h1_10 h1_10k h1_10c h0_10 h0_10k h0_10c h1_11 h1_11k h1_11c h0_11 h0_11k h0_11c h1_12 h1_12k h1_12c h0_12 h0_12k h0_12c) := hD
  refine lv_aload_n hx hb dX7_copyFrom_24 rfl (lv_at hl 0 rfl) ?_
  refine lv_aload_n hx hb dX7_copyFrom_25 rfl (lv_at hl 1 rfl) ?_
  refine va_get (D := (dC, dI)) (ci := 7) (v := .int h1_f3) (C := RX7) (T := TX7) (N := 13) hx hb hts iw_c_X7_copyFrom_X7 hown hK hP 0 rfl rfl 3 (by decide) (hts (.fieldLink RX7 58 "BuoyVote$Sea" "logged" "I") (List.mem_of_getElem? (i := 4) rfl)) (fun _ h9 => h9) rfl dX7_copyFrom_26 ?_
  refine va_put (D := (dC, dI)) (ci := 7) (v := .int h1_f3) (ty := .int) (C := RX7) (T := TX7) (N := 13) hx hb hts iw_c_X7_copyFrom_X7 tyX7 tyX7_ok nmX7 hown hK hP hD hS 1 rfl rfl 3 (by decide) (hts (.fieldLink RX7 58 "BuoyVote$Sea" "logged" "I") (List.mem_of_getElem? (i := 4) rfl)) (fun _ h9 => h9) rfl (by decide +kernel) rfl rfl (Nat.le_of_ble_eq_true rfl) dX7_copyFrom_29 (fun H locs hP hD hS => ?_)
  have hP : va_P (dC, dI) vwCl (wd_c_X7_copyFrom h1 h1_f0 h1_f1 h1_f2 h1_f3 h1_4 h1_5 h1_6 h1_7 h1_8 h1_9 h1_10 h1_11 h1_12 h0 h1_f0 h1_f1 h1_f2 h1_f3 h0_4 h0_5 h0_6 h0_7 h0_8 h0_9 h0_10 h0_11 h0_12 h1_4 h1_4k h1_4c h0_4 h0_4k h0_4c h1_5 h1_5k h1_5c h0_5 h0_5k h0_5c h1_6 h1_6k h1_6c h0_6 h0_6k h0_6c h1_7 h1_7k h1_7c h0_7 h0_7k h0_7c h1_8 h1_8k h1_8c h0_8 h0_8k h0_8c h1_9 h1_9k h1_9c h0_9 h0_9k h0_9c h1_10 h1_10k h1_10c h0_10 h0_10k h0_10c h1_11 h1_11k h1_11c h0_11 h0_11k h0_11c h1_12 h1_12k h1_12c h0_12 h0_12k h0_12c) H := hP
  have hD : va_D A (wd_c_X7_copyFrom h1 h1_f0 h1_f1 h1_f2 h1_f3 h1_4 h1_5 h1_6 h1_7 h1_8 h1_9 h1_10 h1_11 h1_12 h0 h1_f0 h1_f1 h1_f2 h1_f3 h0_4 h0_5 h0_6 h0_7 h0_8 h0_9 h0_10 h0_11 h0_12 h1_4 h1_4k h1_4c h0_4 h0_4k h0_4c h1_5 h1_5k h1_5c h0_5 h0_5k h0_5c h1_6 h1_6k h1_6c h0_6 h0_6k h0_6c h1_7 h1_7k h1_7c h0_7 h0_7k h0_7c h1_8 h1_8k h1_8c h0_8 h0_8k h0_8c h1_9 h1_9k h1_9c h0_9 h0_9k h0_9c h1_10 h1_10k h1_10c h0_10 h0_10k h0_10c h1_11 h1_11k h1_11c h0_11 h0_11k h0_11c h1_12 h1_12k h1_12c h0_12 h0_12k h0_12c) := hD
  refine lv_aload_n hx hb dX7_copyFrom_32 rfl (lv_at hl 1 rfl) ?_
  refine va_get (D := (dC, dI)) (ci := 7) (v := .ref h1_4) (C := RX7) (T := TX7) (N := 13) hx hb hts iw_c_X7_copyFrom_X7 hown hK hP 0 rfl rfl 4 (by decide) (hts (.fieldLink RX7 9 "BuoyVote$Sea" "x" "[I") (List.mem_of_getElem? (i := 5) rfl)) (fun _ h9 => h9) rfl dX7_copyFrom_33 ?_
  refine lv_iconst (v := 0) hx hb dX7_copyFrom_36 kc_iconst_0 ?_
  refine lv_aload_n hx hb dX7_copyFrom_37 rfl (lv_at hl 0 rfl) ?_
  refine va_get (D := (dC, dI)) (ci := 7) (v := .ref h0_4) (C := RX7) (T := TX7) (N := 13) hx hb hts iw_c_X7_copyFrom_X7 hown hK hP 1 rfl rfl 4 (by decide) (hts (.fieldLink RX7 9 "BuoyVote$Sea" "x" "[I") (List.mem_of_getElem? (i := 5) rfl)) (fun _ h9 => h9) rfl dX7_copyFrom_38 ?_
  refine lv_iconst (v := 0) hx hb dX7_copyFrom_41 kc_iconst_0 ?_
  refine lv_iconst (v := 3) hx hb dX7_copyFrom_42 kc_iconst_3 ?_
  refine va_copyi hx hb (by rw [hml]; exact hl.1.symm) hown (hts (.methodLink RX7 88 arraycopyName) (List.mem_of_getElem? (i := 6) rfl)) (hts (.native arraycopyName) (List.mem_of_getElem? (i := 7) rfl)) (hts (.static arraycopyName) (List.mem_of_getElem? (i := 8) rfl)) (hts (.initialized "java/lang/System") (List.mem_of_getElem? (i := 9) rfl)) hK hP hD hS 2 3 0 1 rfl rfl rfl rfl rfl (by decide) (by decide) (by decide) (by decide) (by decide) (fun _ _ => rfl) (Nat.le_of_ble_eq_true rfl) (Nat.le_of_ble_eq_true rfl) dX7_copyFrom_43 (fun H locs hP hD hS => ?_)
  have hP : va_P (dC, dI) vwCl (wd_c_X7_copyFrom h1 h1_f0 h1_f1 h1_f2 h1_f3 h1_4 h1_5 h1_6 h1_7 h1_8 h1_9 h1_10 h1_11 h1_12 h0 h1_f0 h1_f1 h1_f2 h1_f3 h0_4 h0_5 h0_6 h0_7 h0_8 h0_9 h0_10 h0_11 h0_12 h1_4 h1_4k h1_4c h0_4 h0_4k (va_cpy h1_4c h0_4c (0 : Int32).toNatClampNeg (0 : Int32).toNatClampNeg (3 : Int32).toNatClampNeg) h1_5 h1_5k h1_5c h0_5 h0_5k h0_5c h1_6 h1_6k h1_6c h0_6 h0_6k h0_6c h1_7 h1_7k h1_7c h0_7 h0_7k h0_7c h1_8 h1_8k h1_8c h0_8 h0_8k h0_8c h1_9 h1_9k h1_9c h0_9 h0_9k h0_9c h1_10 h1_10k h1_10c h0_10 h0_10k h0_10c h1_11 h1_11k h1_11c h0_11 h0_11k h0_11c h1_12 h1_12k h1_12c h0_12 h0_12k h0_12c) H := hP
  have hD : va_D A (wd_c_X7_copyFrom h1 h1_f0 h1_f1 h1_f2 h1_f3 h1_4 h1_5 h1_6 h1_7 h1_8 h1_9 h1_10 h1_11 h1_12 h0 h1_f0 h1_f1 h1_f2 h1_f3 h0_4 h0_5 h0_6 h0_7 h0_8 h0_9 h0_10 h0_11 h0_12 h1_4 h1_4k h1_4c h0_4 h0_4k (va_cpy h1_4c h0_4c (0 : Int32).toNatClampNeg (0 : Int32).toNatClampNeg (3 : Int32).toNatClampNeg) h1_5 h1_5k h1_5c h0_5 h0_5k h0_5c h1_6 h1_6k h1_6c h0_6 h0_6k h0_6c h1_7 h1_7k h1_7c h0_7 h0_7k h0_7c h1_8 h1_8k h1_8c h0_8 h0_8k h0_8c h1_9 h1_9k h1_9c h0_9 h0_9k h0_9c h1_10 h1_10k h1_10c h0_10 h0_10k h0_10c h1_11 h1_11k h1_11c h0_11 h0_11k h0_11c h1_12 h1_12k h1_12c h0_12 h0_12k h0_12c) := hD
  generalize (va_cpy h1_4c h0_4c (0 : Int32).toNatClampNeg (0 : Int32).toNatClampNeg (3 : Int32).toNatClampNeg) = w_1 at hP hD
  have hP : va_P (dC, dI) vwCl (wd_c_X7_copyFrom h1 h1_f0 h1_f1 h1_f2 h1_f3 h1_4 h1_5 h1_6 h1_7 h1_8 h1_9 h1_10 h1_11 h1_12 h0 h1_f0 h1_f1 h1_f2 h1_f3 h0_4 h0_5 h0_6 h0_7 h0_8 h0_9 h0_10 h0_11 h0_12 h1_4 h1_4k h1_4c h0_4 h0_4k w_1 h1_5 h1_5k h1_5c h0_5 h0_5k h0_5c h1_6 h1_6k h1_6c h0_6 h0_6k h0_6c h1_7 h1_7k h1_7c h0_7 h0_7k h0_7c h1_8 h1_8k h1_8c h0_8 h0_8k h0_8c h1_9 h1_9k h1_9c h0_9 h0_9k h0_9c h1_10 h1_10k h1_10c h0_10 h0_10k h0_10c h1_11 h1_11k h1_11c h0_11 h0_11k h0_11c h1_12 h1_12k h1_12c h0_12 h0_12k h0_12c) H := hP
  have hD : va_D A (wd_c_X7_copyFrom h1 h1_f0 h1_f1 h1_f2 h1_f3 h1_4 h1_5 h1_6 h1_7 h1_8 h1_9 h1_10 h1_11 h1_12 h0 h1_f0 h1_f1 h1_f2 h1_f3 h0_4 h0_5 h0_6 h0_7 h0_8 h0_9 h0_10 h0_11 h0_12 h1_4 h1_4k h1_4c h0_4 h0_4k w_1 h1_5 h1_5k h1_5c h0_5 h0_5k h0_5c h1_6 h1_6k h1_6c h0_6 h0_6k h0_6c h1_7 h1_7k h1_7c h0_7 h0_7k h0_7c h1_8 h1_8k h1_8c h0_8 h0_8k h0_8c h1_9 h1_9k h1_9c h0_9 h0_9k h0_9c h1_10 h1_10k h1_10c h0_10 h0_10k h0_10c h1_11 h1_11k h1_11c h0_11 h0_11k h0_11c h1_12 h1_12k h1_12c h0_12 h0_12k h0_12c) := hD
  refine lv_aload_n hx hb dX7_copyFrom_46 rfl (lv_at hl 1 rfl) ?_
  refine va_get (D := (dC, dI)) (ci := 7) (v := .ref h1_5) (C := RX7) (T := TX7) (N := 13) hx hb hts iw_c_X7_copyFrom_X7 hown hK hP 0 rfl rfl 5 (by decide) (hts (.fieldLink RX7 15 "BuoyVote$Sea" "y" "[I") (List.mem_of_getElem? (i := 10) rfl)) (fun _ h9 => h9) rfl dX7_copyFrom_47 ?_
  refine lv_iconst (v := 0) hx hb dX7_copyFrom_50 kc_iconst_0 ?_
  refine lv_aload_n hx hb dX7_copyFrom_51 rfl (lv_at hl 0 rfl) ?_
  refine va_get (D := (dC, dI)) (ci := 7) (v := .ref h0_5) (C := RX7) (T := TX7) (N := 13) hx hb hts iw_c_X7_copyFrom_X7 hown hK hP 1 rfl rfl 5 (by decide) (hts (.fieldLink RX7 15 "BuoyVote$Sea" "y" "[I") (List.mem_of_getElem? (i := 10) rfl)) (fun _ h9 => h9) rfl dX7_copyFrom_52 ?_
  refine lv_iconst (v := 0) hx hb dX7_copyFrom_55 kc_iconst_0 ?_
  refine lv_iconst (v := 3) hx hb dX7_copyFrom_56 kc_iconst_3 ?_
  refine va_copyi hx hb (by rw [hml]; exact hl.1.symm) hown (hts (.methodLink RX7 88 arraycopyName) (List.mem_of_getElem? (i := 6) rfl)) (hts (.native arraycopyName) (List.mem_of_getElem? (i := 7) rfl)) (hts (.static arraycopyName) (List.mem_of_getElem? (i := 8) rfl)) (hts (.initialized "java/lang/System") (List.mem_of_getElem? (i := 9) rfl)) hK hP hD hS 4 5 2 3 rfl rfl rfl rfl rfl (by decide) (by decide) (by decide) (by decide) (by decide) (fun _ _ => rfl) (Nat.le_of_ble_eq_true rfl) (Nat.le_of_ble_eq_true rfl) dX7_copyFrom_57 (fun H locs hP hD hS => ?_)
  have hP : va_P (dC, dI) vwCl (wd_c_X7_copyFrom h1 h1_f0 h1_f1 h1_f2 h1_f3 h1_4 h1_5 h1_6 h1_7 h1_8 h1_9 h1_10 h1_11 h1_12 h0 h1_f0 h1_f1 h1_f2 h1_f3 h0_4 h0_5 h0_6 h0_7 h0_8 h0_9 h0_10 h0_11 h0_12 h1_4 h1_4k h1_4c h0_4 h0_4k w_1 h1_5 h1_5k h1_5c h0_5 h0_5k (va_cpy h1_5c h0_5c (0 : Int32).toNatClampNeg (0 : Int32).toNatClampNeg (3 : Int32).toNatClampNeg) h1_6 h1_6k h1_6c h0_6 h0_6k h0_6c h1_7 h1_7k h1_7c h0_7 h0_7k h0_7c h1_8 h1_8k h1_8c h0_8 h0_8k h0_8c h1_9 h1_9k h1_9c h0_9 h0_9k h0_9c h1_10 h1_10k h1_10c h0_10 h0_10k h0_10c h1_11 h1_11k h1_11c h0_11 h0_11k h0_11c h1_12 h1_12k h1_12c h0_12 h0_12k h0_12c) H := hP
  have hD : va_D A (wd_c_X7_copyFrom h1 h1_f0 h1_f1 h1_f2 h1_f3 h1_4 h1_5 h1_6 h1_7 h1_8 h1_9 h1_10 h1_11 h1_12 h0 h1_f0 h1_f1 h1_f2 h1_f3 h0_4 h0_5 h0_6 h0_7 h0_8 h0_9 h0_10 h0_11 h0_12 h1_4 h1_4k h1_4c h0_4 h0_4k w_1 h1_5 h1_5k h1_5c h0_5 h0_5k (va_cpy h1_5c h0_5c (0 : Int32).toNatClampNeg (0 : Int32).toNatClampNeg (3 : Int32).toNatClampNeg) h1_6 h1_6k h1_6c h0_6 h0_6k h0_6c h1_7 h1_7k h1_7c h0_7 h0_7k h0_7c h1_8 h1_8k h1_8c h0_8 h0_8k h0_8c h1_9 h1_9k h1_9c h0_9 h0_9k h0_9c h1_10 h1_10k h1_10c h0_10 h0_10k h0_10c h1_11 h1_11k h1_11c h0_11 h0_11k h0_11c h1_12 h1_12k h1_12c h0_12 h0_12k h0_12c) := hD
  generalize (va_cpy h1_5c h0_5c (0 : Int32).toNatClampNeg (0 : Int32).toNatClampNeg (3 : Int32).toNatClampNeg) = w_2 at hP hD
  have hP : va_P (dC, dI) vwCl (wd_c_X7_copyFrom h1 h1_f0 h1_f1 h1_f2 h1_f3 h1_4 h1_5 h1_6 h1_7 h1_8 h1_9 h1_10 h1_11 h1_12 h0 h1_f0 h1_f1 h1_f2 h1_f3 h0_4 h0_5 h0_6 h0_7 h0_8 h0_9 h0_10 h0_11 h0_12 h1_4 h1_4k h1_4c h0_4 h0_4k w_1 h1_5 h1_5k h1_5c h0_5 h0_5k w_2 h1_6 h1_6k h1_6c h0_6 h0_6k h0_6c h1_7 h1_7k h1_7c h0_7 h0_7k h0_7c h1_8 h1_8k h1_8c h0_8 h0_8k h0_8c h1_9 h1_9k h1_9c h0_9 h0_9k h0_9c h1_10 h1_10k h1_10c h0_10 h0_10k h0_10c h1_11 h1_11k h1_11c h0_11 h0_11k h0_11c h1_12 h1_12k h1_12c h0_12 h0_12k h0_12c) H := hP
  have hD : va_D A (wd_c_X7_copyFrom h1 h1_f0 h1_f1 h1_f2 h1_f3 h1_4 h1_5 h1_6 h1_7 h1_8 h1_9 h1_10 h1_11 h1_12 h0 h1_f0 h1_f1 h1_f2 h1_f3 h0_4 h0_5 h0_6 h0_7 h0_8 h0_9 h0_10 h0_11 h0_12 h1_4 h1_4k h1_4c h0_4 h0_4k w_1 h1_5 h1_5k h1_5c h0_5 h0_5k w_2 h1_6 h1_6k h1_6c h0_6 h0_6k h0_6c h1_7 h1_7k h1_7c h0_7 h0_7k h0_7c h1_8 h1_8k h1_8c h0_8 h0_8k h0_8c h1_9 h1_9k h1_9c h0_9 h0_9k h0_9c h1_10 h1_10k h1_10c h0_10 h0_10k h0_10c h1_11 h1_11k h1_11c h0_11 h0_11k h0_11c h1_12 h1_12k h1_12c h0_12 h0_12k h0_12c) := hD
  refine lv_aload_n hx hb dX7_copyFrom_60 rfl (lv_at hl 1 rfl) ?_
  refine va_get (D := (dC, dI)) (ci := 7) (v := .ref h1_6) (C := RX7) (T := TX7) (N := 13) hx hb hts iw_c_X7_copyFrom_X7 hown hK hP 0 rfl rfl 6 (by decide) (hts (.fieldLink RX7 18 "BuoyVote$Sea" "goalX" "[I") (List.mem_of_getElem? (i := 11) rfl)) (fun _ h9 => h9) rfl dX7_copyFrom_61 ?_
  refine lv_iconst (v := 0) hx hb dX7_copyFrom_64 kc_iconst_0 ?_
  refine lv_aload_n hx hb dX7_copyFrom_65 rfl (lv_at hl 0 rfl) ?_
  refine va_get (D := (dC, dI)) (ci := 7) (v := .ref h0_6) (C := RX7) (T := TX7) (N := 13) hx hb hts iw_c_X7_copyFrom_X7 hown hK hP 1 rfl rfl 6 (by decide) (hts (.fieldLink RX7 18 "BuoyVote$Sea" "goalX" "[I") (List.mem_of_getElem? (i := 11) rfl)) (fun _ h9 => h9) rfl dX7_copyFrom_66 ?_
  refine lv_iconst (v := 0) hx hb dX7_copyFrom_69 kc_iconst_0 ?_
  refine lv_iconst (v := 3) hx hb dX7_copyFrom_70 kc_iconst_3 ?_
  refine va_copyi hx hb (by rw [hml]; exact hl.1.symm) hown (hts (.methodLink RX7 88 arraycopyName) (List.mem_of_getElem? (i := 6) rfl)) (hts (.native arraycopyName) (List.mem_of_getElem? (i := 7) rfl)) (hts (.static arraycopyName) (List.mem_of_getElem? (i := 8) rfl)) (hts (.initialized "java/lang/System") (List.mem_of_getElem? (i := 9) rfl)) hK hP hD hS 6 7 4 5 rfl rfl rfl rfl rfl (by decide) (by decide) (by decide) (by decide) (by decide) (fun _ _ => rfl) (Nat.le_of_ble_eq_true rfl) (Nat.le_of_ble_eq_true rfl) dX7_copyFrom_71 (fun H locs hP hD hS => ?_)
  have hP : va_P (dC, dI) vwCl (wd_c_X7_copyFrom h1 h1_f0 h1_f1 h1_f2 h1_f3 h1_4 h1_5 h1_6 h1_7 h1_8 h1_9 h1_10 h1_11 h1_12 h0 h1_f0 h1_f1 h1_f2 h1_f3 h0_4 h0_5 h0_6 h0_7 h0_8 h0_9 h0_10 h0_11 h0_12 h1_4 h1_4k h1_4c h0_4 h0_4k w_1 h1_5 h1_5k h1_5c h0_5 h0_5k w_2 h1_6 h1_6k h1_6c h0_6 h0_6k (va_cpy h1_6c h0_6c (0 : Int32).toNatClampNeg (0 : Int32).toNatClampNeg (3 : Int32).toNatClampNeg) h1_7 h1_7k h1_7c h0_7 h0_7k h0_7c h1_8 h1_8k h1_8c h0_8 h0_8k h0_8c h1_9 h1_9k h1_9c h0_9 h0_9k h0_9c h1_10 h1_10k h1_10c h0_10 h0_10k h0_10c h1_11 h1_11k h1_11c h0_11 h0_11k h0_11c h1_12 h1_12k h1_12c h0_12 h0_12k h0_12c) H := hP
  have hD : va_D A (wd_c_X7_copyFrom h1 h1_f0 h1_f1 h1_f2 h1_f3 h1_4 h1_5 h1_6 h1_7 h1_8 h1_9 h1_10 h1_11 h1_12 h0 h1_f0 h1_f1 h1_f2 h1_f3 h0_4 h0_5 h0_6 h0_7 h0_8 h0_9 h0_10 h0_11 h0_12 h1_4 h1_4k h1_4c h0_4 h0_4k w_1 h1_5 h1_5k h1_5c h0_5 h0_5k w_2 h1_6 h1_6k h1_6c h0_6 h0_6k (va_cpy h1_6c h0_6c (0 : Int32).toNatClampNeg (0 : Int32).toNatClampNeg (3 : Int32).toNatClampNeg) h1_7 h1_7k h1_7c h0_7 h0_7k h0_7c h1_8 h1_8k h1_8c h0_8 h0_8k h0_8c h1_9 h1_9k h1_9c h0_9 h0_9k h0_9c h1_10 h1_10k h1_10c h0_10 h0_10k h0_10c h1_11 h1_11k h1_11c h0_11 h0_11k h0_11c h1_12 h1_12k h1_12c h0_12 h0_12k h0_12c) := hD
  generalize (va_cpy h1_6c h0_6c (0 : Int32).toNatClampNeg (0 : Int32).toNatClampNeg (3 : Int32).toNatClampNeg) = w_3 at hP hD
  have hP : va_P (dC, dI) vwCl (wd_c_X7_copyFrom h1 h1_f0 h1_f1 h1_f2 h1_f3 h1_4 h1_5 h1_6 h1_7 h1_8 h1_9 h1_10 h1_11 h1_12 h0 h1_f0 h1_f1 h1_f2 h1_f3 h0_4 h0_5 h0_6 h0_7 h0_8 h0_9 h0_10 h0_11 h0_12 h1_4 h1_4k h1_4c h0_4 h0_4k w_1 h1_5 h1_5k h1_5c h0_5 h0_5k w_2 h1_6 h1_6k h1_6c h0_6 h0_6k w_3 h1_7 h1_7k h1_7c h0_7 h0_7k h0_7c h1_8 h1_8k h1_8c h0_8 h0_8k h0_8c h1_9 h1_9k h1_9c h0_9 h0_9k h0_9c h1_10 h1_10k h1_10c h0_10 h0_10k h0_10c h1_11 h1_11k h1_11c h0_11 h0_11k h0_11c h1_12 h1_12k h1_12c h0_12 h0_12k h0_12c) H := hP
  have hD : va_D A (wd_c_X7_copyFrom h1 h1_f0 h1_f1 h1_f2 h1_f3 h1_4 h1_5 h1_6 h1_7 h1_8 h1_9 h1_10 h1_11 h1_12 h0 h1_f0 h1_f1 h1_f2 h1_f3 h0_4 h0_5 h0_6 h0_7 h0_8 h0_9 h0_10 h0_11 h0_12 h1_4 h1_4k h1_4c h0_4 h0_4k w_1 h1_5 h1_5k h1_5c h0_5 h0_5k w_2 h1_6 h1_6k h1_6c h0_6 h0_6k w_3 h1_7 h1_7k h1_7c h0_7 h0_7k h0_7c h1_8 h1_8k h1_8c h0_8 h0_8k h0_8c h1_9 h1_9k h1_9c h0_9 h0_9k h0_9c h1_10 h1_10k h1_10c h0_10 h0_10k h0_10c h1_11 h1_11k h1_11c h0_11 h0_11k h0_11c h1_12 h1_12k h1_12c h0_12 h0_12k h0_12c) := hD
  refine lv_aload_n hx hb dX7_copyFrom_74 rfl (lv_at hl 1 rfl) ?_
  refine va_get (D := (dC, dI)) (ci := 7) (v := .ref h1_7) (C := RX7) (T := TX7) (N := 13) hx hb hts iw_c_X7_copyFrom_X7 hown hK hP 0 rfl rfl 7 (by decide) (hts (.fieldLink RX7 21 "BuoyVote$Sea" "goalY" "[I") (List.mem_of_getElem? (i := 12) rfl)) (fun _ h9 => h9) rfl dX7_copyFrom_75 ?_
  refine lv_iconst (v := 0) hx hb dX7_copyFrom_78 kc_iconst_0 ?_
  refine lv_aload_n hx hb dX7_copyFrom_79 rfl (lv_at hl 0 rfl) ?_
  refine va_get (D := (dC, dI)) (ci := 7) (v := .ref h0_7) (C := RX7) (T := TX7) (N := 13) hx hb hts iw_c_X7_copyFrom_X7 hown hK hP 1 rfl rfl 7 (by decide) (hts (.fieldLink RX7 21 "BuoyVote$Sea" "goalY" "[I") (List.mem_of_getElem? (i := 12) rfl)) (fun _ h9 => h9) rfl dX7_copyFrom_80 ?_
  refine lv_iconst (v := 0) hx hb dX7_copyFrom_83 kc_iconst_0 ?_
  refine lv_iconst (v := 3) hx hb dX7_copyFrom_84 kc_iconst_3 ?_
  refine va_copyi hx hb (by rw [hml]; exact hl.1.symm) hown (hts (.methodLink RX7 88 arraycopyName) (List.mem_of_getElem? (i := 6) rfl)) (hts (.native arraycopyName) (List.mem_of_getElem? (i := 7) rfl)) (hts (.static arraycopyName) (List.mem_of_getElem? (i := 8) rfl)) (hts (.initialized "java/lang/System") (List.mem_of_getElem? (i := 9) rfl)) hK hP hD hS 8 9 6 7 rfl rfl rfl rfl rfl (by decide) (by decide) (by decide) (by decide) (by decide) (fun _ _ => rfl) (Nat.le_of_ble_eq_true rfl) (Nat.le_of_ble_eq_true rfl) dX7_copyFrom_85 (fun H locs hP hD hS => ?_)
  have hP : va_P (dC, dI) vwCl (wd_c_X7_copyFrom h1 h1_f0 h1_f1 h1_f2 h1_f3 h1_4 h1_5 h1_6 h1_7 h1_8 h1_9 h1_10 h1_11 h1_12 h0 h1_f0 h1_f1 h1_f2 h1_f3 h0_4 h0_5 h0_6 h0_7 h0_8 h0_9 h0_10 h0_11 h0_12 h1_4 h1_4k h1_4c h0_4 h0_4k w_1 h1_5 h1_5k h1_5c h0_5 h0_5k w_2 h1_6 h1_6k h1_6c h0_6 h0_6k w_3 h1_7 h1_7k h1_7c h0_7 h0_7k (va_cpy h1_7c h0_7c (0 : Int32).toNatClampNeg (0 : Int32).toNatClampNeg (3 : Int32).toNatClampNeg) h1_8 h1_8k h1_8c h0_8 h0_8k h0_8c h1_9 h1_9k h1_9c h0_9 h0_9k h0_9c h1_10 h1_10k h1_10c h0_10 h0_10k h0_10c h1_11 h1_11k h1_11c h0_11 h0_11k h0_11c h1_12 h1_12k h1_12c h0_12 h0_12k h0_12c) H := hP
  have hD : va_D A (wd_c_X7_copyFrom h1 h1_f0 h1_f1 h1_f2 h1_f3 h1_4 h1_5 h1_6 h1_7 h1_8 h1_9 h1_10 h1_11 h1_12 h0 h1_f0 h1_f1 h1_f2 h1_f3 h0_4 h0_5 h0_6 h0_7 h0_8 h0_9 h0_10 h0_11 h0_12 h1_4 h1_4k h1_4c h0_4 h0_4k w_1 h1_5 h1_5k h1_5c h0_5 h0_5k w_2 h1_6 h1_6k h1_6c h0_6 h0_6k w_3 h1_7 h1_7k h1_7c h0_7 h0_7k (va_cpy h1_7c h0_7c (0 : Int32).toNatClampNeg (0 : Int32).toNatClampNeg (3 : Int32).toNatClampNeg) h1_8 h1_8k h1_8c h0_8 h0_8k h0_8c h1_9 h1_9k h1_9c h0_9 h0_9k h0_9c h1_10 h1_10k h1_10c h0_10 h0_10k h0_10c h1_11 h1_11k h1_11c h0_11 h0_11k h0_11c h1_12 h1_12k h1_12c h0_12 h0_12k h0_12c) := hD
  generalize (va_cpy h1_7c h0_7c (0 : Int32).toNatClampNeg (0 : Int32).toNatClampNeg (3 : Int32).toNatClampNeg) = w_4 at hP hD
  have hP : va_P (dC, dI) vwCl (wd_c_X7_copyFrom h1 h1_f0 h1_f1 h1_f2 h1_f3 h1_4 h1_5 h1_6 h1_7 h1_8 h1_9 h1_10 h1_11 h1_12 h0 h1_f0 h1_f1 h1_f2 h1_f3 h0_4 h0_5 h0_6 h0_7 h0_8 h0_9 h0_10 h0_11 h0_12 h1_4 h1_4k h1_4c h0_4 h0_4k w_1 h1_5 h1_5k h1_5c h0_5 h0_5k w_2 h1_6 h1_6k h1_6c h0_6 h0_6k w_3 h1_7 h1_7k h1_7c h0_7 h0_7k w_4 h1_8 h1_8k h1_8c h0_8 h0_8k h0_8c h1_9 h1_9k h1_9c h0_9 h0_9k h0_9c h1_10 h1_10k h1_10c h0_10 h0_10k h0_10c h1_11 h1_11k h1_11c h0_11 h0_11k h0_11c h1_12 h1_12k h1_12c h0_12 h0_12k h0_12c) H := hP
  have hD : va_D A (wd_c_X7_copyFrom h1 h1_f0 h1_f1 h1_f2 h1_f3 h1_4 h1_5 h1_6 h1_7 h1_8 h1_9 h1_10 h1_11 h1_12 h0 h1_f0 h1_f1 h1_f2 h1_f3 h0_4 h0_5 h0_6 h0_7 h0_8 h0_9 h0_10 h0_11 h0_12 h1_4 h1_4k h1_4c h0_4 h0_4k w_1 h1_5 h1_5k h1_5c h0_5 h0_5k w_2 h1_6 h1_6k h1_6c h0_6 h0_6k w_3 h1_7 h1_7k h1_7c h0_7 h0_7k w_4 h1_8 h1_8k h1_8c h0_8 h0_8k h0_8c h1_9 h1_9k h1_9c h0_9 h0_9k h0_9c h1_10 h1_10k h1_10c h0_10 h0_10k h0_10c h1_11 h1_11k h1_11c h0_11 h0_11k h0_11c h1_12 h1_12k h1_12c h0_12 h0_12k h0_12c) := hD
  refine lv_aload_n hx hb dX7_copyFrom_88 rfl (lv_at hl 1 rfl) ?_
  refine va_get (D := (dC, dI)) (ci := 7) (v := .ref h1_8) (C := RX7) (T := TX7) (N := 13) hx hb hts iw_c_X7_copyFrom_X7 hown hK hP 0 rfl rfl 8 (by decide) (hts (.fieldLink RX7 24 "BuoyVote$Sea" "won" "[I") (List.mem_of_getElem? (i := 13) rfl)) (fun _ h9 => h9) rfl dX7_copyFrom_89 ?_
  refine lv_iconst (v := 0) hx hb dX7_copyFrom_92 kc_iconst_0 ?_
  refine lv_aload_n hx hb dX7_copyFrom_93 rfl (lv_at hl 0 rfl) ?_
  refine va_get (D := (dC, dI)) (ci := 7) (v := .ref h0_8) (C := RX7) (T := TX7) (N := 13) hx hb hts iw_c_X7_copyFrom_X7 hown hK hP 1 rfl rfl 8 (by decide) (hts (.fieldLink RX7 24 "BuoyVote$Sea" "won" "[I") (List.mem_of_getElem? (i := 13) rfl)) (fun _ h9 => h9) rfl dX7_copyFrom_94 ?_
  refine lv_iconst (v := 0) hx hb dX7_copyFrom_97 kc_iconst_0 ?_
  refine lv_iconst (v := 3) hx hb dX7_copyFrom_98 kc_iconst_3 ?_
  refine va_copyi hx hb (by rw [hml]; exact hl.1.symm) hown (hts (.methodLink RX7 88 arraycopyName) (List.mem_of_getElem? (i := 6) rfl)) (hts (.native arraycopyName) (List.mem_of_getElem? (i := 7) rfl)) (hts (.static arraycopyName) (List.mem_of_getElem? (i := 8) rfl)) (hts (.initialized "java/lang/System") (List.mem_of_getElem? (i := 9) rfl)) hK hP hD hS 10 11 8 9 rfl rfl rfl rfl rfl (by decide) (by decide) (by decide) (by decide) (by decide) (fun _ _ => rfl) (Nat.le_of_ble_eq_true rfl) (Nat.le_of_ble_eq_true rfl) dX7_copyFrom_99 (fun H locs hP hD hS => ?_)
  have hP : va_P (dC, dI) vwCl (wd_c_X7_copyFrom h1 h1_f0 h1_f1 h1_f2 h1_f3 h1_4 h1_5 h1_6 h1_7 h1_8 h1_9 h1_10 h1_11 h1_12 h0 h1_f0 h1_f1 h1_f2 h1_f3 h0_4 h0_5 h0_6 h0_7 h0_8 h0_9 h0_10 h0_11 h0_12 h1_4 h1_4k h1_4c h0_4 h0_4k w_1 h1_5 h1_5k h1_5c h0_5 h0_5k w_2 h1_6 h1_6k h1_6c h0_6 h0_6k w_3 h1_7 h1_7k h1_7c h0_7 h0_7k w_4 h1_8 h1_8k h1_8c h0_8 h0_8k (va_cpy h1_8c h0_8c (0 : Int32).toNatClampNeg (0 : Int32).toNatClampNeg (3 : Int32).toNatClampNeg) h1_9 h1_9k h1_9c h0_9 h0_9k h0_9c h1_10 h1_10k h1_10c h0_10 h0_10k h0_10c h1_11 h1_11k h1_11c h0_11 h0_11k h0_11c h1_12 h1_12k h1_12c h0_12 h0_12k h0_12c) H := hP
  have hD : va_D A (wd_c_X7_copyFrom h1 h1_f0 h1_f1 h1_f2 h1_f3 h1_4 h1_5 h1_6 h1_7 h1_8 h1_9 h1_10 h1_11 h1_12 h0 h1_f0 h1_f1 h1_f2 h1_f3 h0_4 h0_5 h0_6 h0_7 h0_8 h0_9 h0_10 h0_11 h0_12 h1_4 h1_4k h1_4c h0_4 h0_4k w_1 h1_5 h1_5k h1_5c h0_5 h0_5k w_2 h1_6 h1_6k h1_6c h0_6 h0_6k w_3 h1_7 h1_7k h1_7c h0_7 h0_7k w_4 h1_8 h1_8k h1_8c h0_8 h0_8k (va_cpy h1_8c h0_8c (0 : Int32).toNatClampNeg (0 : Int32).toNatClampNeg (3 : Int32).toNatClampNeg) h1_9 h1_9k h1_9c h0_9 h0_9k h0_9c h1_10 h1_10k h1_10c h0_10 h0_10k h0_10c h1_11 h1_11k h1_11c h0_11 h0_11k h0_11c h1_12 h1_12k h1_12c h0_12 h0_12k h0_12c) := hD
  generalize (va_cpy h1_8c h0_8c (0 : Int32).toNatClampNeg (0 : Int32).toNatClampNeg (3 : Int32).toNatClampNeg) = w_5 at hP hD
  have hP : va_P (dC, dI) vwCl (wd_c_X7_copyFrom h1 h1_f0 h1_f1 h1_f2 h1_f3 h1_4 h1_5 h1_6 h1_7 h1_8 h1_9 h1_10 h1_11 h1_12 h0 h1_f0 h1_f1 h1_f2 h1_f3 h0_4 h0_5 h0_6 h0_7 h0_8 h0_9 h0_10 h0_11 h0_12 h1_4 h1_4k h1_4c h0_4 h0_4k w_1 h1_5 h1_5k h1_5c h0_5 h0_5k w_2 h1_6 h1_6k h1_6c h0_6 h0_6k w_3 h1_7 h1_7k h1_7c h0_7 h0_7k w_4 h1_8 h1_8k h1_8c h0_8 h0_8k w_5 h1_9 h1_9k h1_9c h0_9 h0_9k h0_9c h1_10 h1_10k h1_10c h0_10 h0_10k h0_10c h1_11 h1_11k h1_11c h0_11 h0_11k h0_11c h1_12 h1_12k h1_12c h0_12 h0_12k h0_12c) H := hP
  have hD : va_D A (wd_c_X7_copyFrom h1 h1_f0 h1_f1 h1_f2 h1_f3 h1_4 h1_5 h1_6 h1_7 h1_8 h1_9 h1_10 h1_11 h1_12 h0 h1_f0 h1_f1 h1_f2 h1_f3 h0_4 h0_5 h0_6 h0_7 h0_8 h0_9 h0_10 h0_11 h0_12 h1_4 h1_4k h1_4c h0_4 h0_4k w_1 h1_5 h1_5k h1_5c h0_5 h0_5k w_2 h1_6 h1_6k h1_6c h0_6 h0_6k w_3 h1_7 h1_7k h1_7c h0_7 h0_7k w_4 h1_8 h1_8k h1_8c h0_8 h0_8k w_5 h1_9 h1_9k h1_9c h0_9 h0_9k h0_9c h1_10 h1_10k h1_10c h0_10 h0_10k h0_10c h1_11 h1_11k h1_11c h0_11 h0_11k h0_11c h1_12 h1_12k h1_12c h0_12 h0_12k h0_12c) := hD
  refine lv_aload_n hx hb dX7_copyFrom_102 rfl (lv_at hl 1 rfl) ?_
  refine va_get (D := (dC, dI)) (ci := 7) (v := .ref h1_9) (C := RX7) (T := TX7) (N := 13) hx hb hts iw_c_X7_copyFrom_X7 hown hK hP 0 rfl rfl 9 (by decide) (hts (.fieldLink RX7 27 "BuoyVote$Sea" "sang" "[I") (List.mem_of_getElem? (i := 14) rfl)) (fun _ h9 => h9) rfl dX7_copyFrom_103 ?_
  refine lv_iconst (v := 0) hx hb dX7_copyFrom_106 kc_iconst_0 ?_
  refine lv_aload_n hx hb dX7_copyFrom_107 rfl (lv_at hl 0 rfl) ?_
  refine va_get (D := (dC, dI)) (ci := 7) (v := .ref h0_9) (C := RX7) (T := TX7) (N := 13) hx hb hts iw_c_X7_copyFrom_X7 hown hK hP 1 rfl rfl 9 (by decide) (hts (.fieldLink RX7 27 "BuoyVote$Sea" "sang" "[I") (List.mem_of_getElem? (i := 14) rfl)) (fun _ h9 => h9) rfl dX7_copyFrom_108 ?_
  refine lv_iconst (v := 0) hx hb dX7_copyFrom_111 kc_iconst_0 ?_
  refine lv_iconst (v := 3) hx hb dX7_copyFrom_112 kc_iconst_3 ?_
  refine va_copyi hx hb (by rw [hml]; exact hl.1.symm) hown (hts (.methodLink RX7 88 arraycopyName) (List.mem_of_getElem? (i := 6) rfl)) (hts (.native arraycopyName) (List.mem_of_getElem? (i := 7) rfl)) (hts (.static arraycopyName) (List.mem_of_getElem? (i := 8) rfl)) (hts (.initialized "java/lang/System") (List.mem_of_getElem? (i := 9) rfl)) hK hP hD hS 12 13 10 11 rfl rfl rfl rfl rfl (by decide) (by decide) (by decide) (by decide) (by decide) (fun _ _ => rfl) (Nat.le_of_ble_eq_true rfl) (Nat.le_of_ble_eq_true rfl) dX7_copyFrom_113 (fun H locs hP hD hS => ?_)
  have hP : va_P (dC, dI) vwCl (wd_c_X7_copyFrom h1 h1_f0 h1_f1 h1_f2 h1_f3 h1_4 h1_5 h1_6 h1_7 h1_8 h1_9 h1_10 h1_11 h1_12 h0 h1_f0 h1_f1 h1_f2 h1_f3 h0_4 h0_5 h0_6 h0_7 h0_8 h0_9 h0_10 h0_11 h0_12 h1_4 h1_4k h1_4c h0_4 h0_4k w_1 h1_5 h1_5k h1_5c h0_5 h0_5k w_2 h1_6 h1_6k h1_6c h0_6 h0_6k w_3 h1_7 h1_7k h1_7c h0_7 h0_7k w_4 h1_8 h1_8k h1_8c h0_8 h0_8k w_5 h1_9 h1_9k h1_9c h0_9 h0_9k (va_cpy h1_9c h0_9c (0 : Int32).toNatClampNeg (0 : Int32).toNatClampNeg (3 : Int32).toNatClampNeg) h1_10 h1_10k h1_10c h0_10 h0_10k h0_10c h1_11 h1_11k h1_11c h0_11 h0_11k h0_11c h1_12 h1_12k h1_12c h0_12 h0_12k h0_12c) H := hP
  have hD : va_D A (wd_c_X7_copyFrom h1 h1_f0 h1_f1 h1_f2 h1_f3 h1_4 h1_5 h1_6 h1_7 h1_8 h1_9 h1_10 h1_11 h1_12 h0 h1_f0 h1_f1 h1_f2 h1_f3 h0_4 h0_5 h0_6 h0_7 h0_8 h0_9 h0_10 h0_11 h0_12 h1_4 h1_4k h1_4c h0_4 h0_4k w_1 h1_5 h1_5k h1_5c h0_5 h0_5k w_2 h1_6 h1_6k h1_6c h0_6 h0_6k w_3 h1_7 h1_7k h1_7c h0_7 h0_7k w_4 h1_8 h1_8k h1_8c h0_8 h0_8k w_5 h1_9 h1_9k h1_9c h0_9 h0_9k (va_cpy h1_9c h0_9c (0 : Int32).toNatClampNeg (0 : Int32).toNatClampNeg (3 : Int32).toNatClampNeg) h1_10 h1_10k h1_10c h0_10 h0_10k h0_10c h1_11 h1_11k h1_11c h0_11 h0_11k h0_11c h1_12 h1_12k h1_12c h0_12 h0_12k h0_12c) := hD
  generalize (va_cpy h1_9c h0_9c (0 : Int32).toNatClampNeg (0 : Int32).toNatClampNeg (3 : Int32).toNatClampNeg) = w_6 at hP hD
  have hP : va_P (dC, dI) vwCl (wd_c_X7_copyFrom h1 h1_f0 h1_f1 h1_f2 h1_f3 h1_4 h1_5 h1_6 h1_7 h1_8 h1_9 h1_10 h1_11 h1_12 h0 h1_f0 h1_f1 h1_f2 h1_f3 h0_4 h0_5 h0_6 h0_7 h0_8 h0_9 h0_10 h0_11 h0_12 h1_4 h1_4k h1_4c h0_4 h0_4k w_1 h1_5 h1_5k h1_5c h0_5 h0_5k w_2 h1_6 h1_6k h1_6c h0_6 h0_6k w_3 h1_7 h1_7k h1_7c h0_7 h0_7k w_4 h1_8 h1_8k h1_8c h0_8 h0_8k w_5 h1_9 h1_9k h1_9c h0_9 h0_9k w_6 h1_10 h1_10k h1_10c h0_10 h0_10k h0_10c h1_11 h1_11k h1_11c h0_11 h0_11k h0_11c h1_12 h1_12k h1_12c h0_12 h0_12k h0_12c) H := hP
  have hD : va_D A (wd_c_X7_copyFrom h1 h1_f0 h1_f1 h1_f2 h1_f3 h1_4 h1_5 h1_6 h1_7 h1_8 h1_9 h1_10 h1_11 h1_12 h0 h1_f0 h1_f1 h1_f2 h1_f3 h0_4 h0_5 h0_6 h0_7 h0_8 h0_9 h0_10 h0_11 h0_12 h1_4 h1_4k h1_4c h0_4 h0_4k w_1 h1_5 h1_5k h1_5c h0_5 h0_5k w_2 h1_6 h1_6k h1_6c h0_6 h0_6k w_3 h1_7 h1_7k h1_7c h0_7 h0_7k w_4 h1_8 h1_8k h1_8c h0_8 h0_8k w_5 h1_9 h1_9k h1_9c h0_9 h0_9k w_6 h1_10 h1_10k h1_10c h0_10 h0_10k h0_10c h1_11 h1_11k h1_11c h0_11 h0_11k h0_11c h1_12 h1_12k h1_12c h0_12 h0_12k h0_12c) := hD
  refine lv_aload_n hx hb dX7_copyFrom_116 rfl (lv_at hl 1 rfl) ?_
  refine va_get (D := (dC, dI)) (ci := 7) (v := .ref h1_10) (C := RX7) (T := TX7) (N := 13) hx hb hts iw_c_X7_copyFrom_X7 hown hK hP 0 rfl rfl 10 (by decide) (hts (.fieldLink RX7 30 "BuoyVote$Sea" "liking" "[I") (List.mem_of_getElem? (i := 15) rfl)) (fun _ h9 => h9) rfl dX7_copyFrom_117 ?_
  refine lv_iconst (v := 0) hx hb dX7_copyFrom_120 kc_iconst_0 ?_
  refine lv_aload_n hx hb dX7_copyFrom_121 rfl (lv_at hl 0 rfl) ?_
  refine va_get (D := (dC, dI)) (ci := 7) (v := .ref h0_10) (C := RX7) (T := TX7) (N := 13) hx hb hts iw_c_X7_copyFrom_X7 hown hK hP 1 rfl rfl 10 (by decide) (hts (.fieldLink RX7 30 "BuoyVote$Sea" "liking" "[I") (List.mem_of_getElem? (i := 15) rfl)) (fun _ h9 => h9) rfl dX7_copyFrom_122 ?_
  refine lv_iconst (v := 0) hx hb dX7_copyFrom_125 kc_iconst_0 ?_
  refine lv_bipush (v := 24) hx hb dX7_copyFrom_126 kc_bipush_24 ?_
  refine va_copyi hx hb (by rw [hml]; exact hl.1.symm) hown (hts (.methodLink RX7 88 arraycopyName) (List.mem_of_getElem? (i := 6) rfl)) (hts (.native arraycopyName) (List.mem_of_getElem? (i := 7) rfl)) (hts (.static arraycopyName) (List.mem_of_getElem? (i := 8) rfl)) (hts (.initialized "java/lang/System") (List.mem_of_getElem? (i := 9) rfl)) hK hP hD hS 14 15 12 13 rfl rfl rfl rfl rfl (by decide) (by decide) (by decide) (by decide) (by decide) (fun _ _ => rfl) (Nat.le_of_ble_eq_true rfl) (Nat.le_of_ble_eq_true rfl) dX7_copyFrom_128 (fun H locs hP hD hS => ?_)
  have hP : va_P (dC, dI) vwCl (wd_c_X7_copyFrom h1 h1_f0 h1_f1 h1_f2 h1_f3 h1_4 h1_5 h1_6 h1_7 h1_8 h1_9 h1_10 h1_11 h1_12 h0 h1_f0 h1_f1 h1_f2 h1_f3 h0_4 h0_5 h0_6 h0_7 h0_8 h0_9 h0_10 h0_11 h0_12 h1_4 h1_4k h1_4c h0_4 h0_4k w_1 h1_5 h1_5k h1_5c h0_5 h0_5k w_2 h1_6 h1_6k h1_6c h0_6 h0_6k w_3 h1_7 h1_7k h1_7c h0_7 h0_7k w_4 h1_8 h1_8k h1_8c h0_8 h0_8k w_5 h1_9 h1_9k h1_9c h0_9 h0_9k w_6 h1_10 h1_10k h1_10c h0_10 h0_10k (va_cpy h1_10c h0_10c (0 : Int32).toNatClampNeg (0 : Int32).toNatClampNeg (24 : Int32).toNatClampNeg) h1_11 h1_11k h1_11c h0_11 h0_11k h0_11c h1_12 h1_12k h1_12c h0_12 h0_12k h0_12c) H := hP
  have hD : va_D A (wd_c_X7_copyFrom h1 h1_f0 h1_f1 h1_f2 h1_f3 h1_4 h1_5 h1_6 h1_7 h1_8 h1_9 h1_10 h1_11 h1_12 h0 h1_f0 h1_f1 h1_f2 h1_f3 h0_4 h0_5 h0_6 h0_7 h0_8 h0_9 h0_10 h0_11 h0_12 h1_4 h1_4k h1_4c h0_4 h0_4k w_1 h1_5 h1_5k h1_5c h0_5 h0_5k w_2 h1_6 h1_6k h1_6c h0_6 h0_6k w_3 h1_7 h1_7k h1_7c h0_7 h0_7k w_4 h1_8 h1_8k h1_8c h0_8 h0_8k w_5 h1_9 h1_9k h1_9c h0_9 h0_9k w_6 h1_10 h1_10k h1_10c h0_10 h0_10k (va_cpy h1_10c h0_10c (0 : Int32).toNatClampNeg (0 : Int32).toNatClampNeg (24 : Int32).toNatClampNeg) h1_11 h1_11k h1_11c h0_11 h0_11k h0_11c h1_12 h1_12k h1_12c h0_12 h0_12k h0_12c) := hD
  generalize (va_cpy h1_10c h0_10c (0 : Int32).toNatClampNeg (0 : Int32).toNatClampNeg (24 : Int32).toNatClampNeg) = w_7 at hP hD
  have hP : va_P (dC, dI) vwCl (wd_c_X7_copyFrom h1 h1_f0 h1_f1 h1_f2 h1_f3 h1_4 h1_5 h1_6 h1_7 h1_8 h1_9 h1_10 h1_11 h1_12 h0 h1_f0 h1_f1 h1_f2 h1_f3 h0_4 h0_5 h0_6 h0_7 h0_8 h0_9 h0_10 h0_11 h0_12 h1_4 h1_4k h1_4c h0_4 h0_4k w_1 h1_5 h1_5k h1_5c h0_5 h0_5k w_2 h1_6 h1_6k h1_6c h0_6 h0_6k w_3 h1_7 h1_7k h1_7c h0_7 h0_7k w_4 h1_8 h1_8k h1_8c h0_8 h0_8k w_5 h1_9 h1_9k h1_9c h0_9 h0_9k w_6 h1_10 h1_10k h1_10c h0_10 h0_10k w_7 h1_11 h1_11k h1_11c h0_11 h0_11k h0_11c h1_12 h1_12k h1_12c h0_12 h0_12k h0_12c) H := hP
  have hD : va_D A (wd_c_X7_copyFrom h1 h1_f0 h1_f1 h1_f2 h1_f3 h1_4 h1_5 h1_6 h1_7 h1_8 h1_9 h1_10 h1_11 h1_12 h0 h1_f0 h1_f1 h1_f2 h1_f3 h0_4 h0_5 h0_6 h0_7 h0_8 h0_9 h0_10 h0_11 h0_12 h1_4 h1_4k h1_4c h0_4 h0_4k w_1 h1_5 h1_5k h1_5c h0_5 h0_5k w_2 h1_6 h1_6k h1_6c h0_6 h0_6k w_3 h1_7 h1_7k h1_7c h0_7 h0_7k w_4 h1_8 h1_8k h1_8c h0_8 h0_8k w_5 h1_9 h1_9k h1_9c h0_9 h0_9k w_6 h1_10 h1_10k h1_10c h0_10 h0_10k w_7 h1_11 h1_11k h1_11c h0_11 h0_11k h0_11c h1_12 h1_12k h1_12c h0_12 h0_12k h0_12c) := hD
  refine lv_aload_n hx hb dX7_copyFrom_131 rfl (lv_at hl 1 rfl) ?_
  refine va_get (D := (dC, dI)) (ci := 7) (v := .ref h1_11) (C := RX7) (T := TX7) (N := 13) hx hb hts iw_c_X7_copyFrom_X7 hown hK hP 0 rfl rfl 11 (by decide) (hts (.fieldLink RX7 33 "BuoyVote$Sea" "old" "[I") (List.mem_of_getElem? (i := 16) rfl)) (fun _ h9 => h9) rfl dX7_copyFrom_132 ?_
  refine lv_iconst (v := 0) hx hb dX7_copyFrom_135 kc_iconst_0 ?_
  refine lv_aload_n hx hb dX7_copyFrom_136 rfl (lv_at hl 0 rfl) ?_
  refine va_get (D := (dC, dI)) (ci := 7) (v := .ref h0_11) (C := RX7) (T := TX7) (N := 13) hx hb hts iw_c_X7_copyFrom_X7 hown hK hP 1 rfl rfl 11 (by decide) (hts (.fieldLink RX7 33 "BuoyVote$Sea" "old" "[I") (List.mem_of_getElem? (i := 16) rfl)) (fun _ h9 => h9) rfl dX7_copyFrom_137 ?_
  refine lv_iconst (v := 0) hx hb dX7_copyFrom_140 kc_iconst_0 ?_
  refine lv_bipush (v := 8) hx hb dX7_copyFrom_141 kc_bipush_8 ?_
  refine va_copyi hx hb (by rw [hml]; exact hl.1.symm) hown (hts (.methodLink RX7 88 arraycopyName) (List.mem_of_getElem? (i := 6) rfl)) (hts (.native arraycopyName) (List.mem_of_getElem? (i := 7) rfl)) (hts (.static arraycopyName) (List.mem_of_getElem? (i := 8) rfl)) (hts (.initialized "java/lang/System") (List.mem_of_getElem? (i := 9) rfl)) hK hP hD hS 16 17 14 15 rfl rfl rfl rfl rfl (by decide) (by decide) (by decide) (by decide) (by decide) (fun _ _ => rfl) (Nat.le_of_ble_eq_true rfl) (Nat.le_of_ble_eq_true rfl) dX7_copyFrom_143 (fun H locs hP hD hS => ?_)
  have hP : va_P (dC, dI) vwCl (wd_c_X7_copyFrom h1 h1_f0 h1_f1 h1_f2 h1_f3 h1_4 h1_5 h1_6 h1_7 h1_8 h1_9 h1_10 h1_11 h1_12 h0 h1_f0 h1_f1 h1_f2 h1_f3 h0_4 h0_5 h0_6 h0_7 h0_8 h0_9 h0_10 h0_11 h0_12 h1_4 h1_4k h1_4c h0_4 h0_4k w_1 h1_5 h1_5k h1_5c h0_5 h0_5k w_2 h1_6 h1_6k h1_6c h0_6 h0_6k w_3 h1_7 h1_7k h1_7c h0_7 h0_7k w_4 h1_8 h1_8k h1_8c h0_8 h0_8k w_5 h1_9 h1_9k h1_9c h0_9 h0_9k w_6 h1_10 h1_10k h1_10c h0_10 h0_10k w_7 h1_11 h1_11k h1_11c h0_11 h0_11k (va_cpy h1_11c h0_11c (0 : Int32).toNatClampNeg (0 : Int32).toNatClampNeg (8 : Int32).toNatClampNeg) h1_12 h1_12k h1_12c h0_12 h0_12k h0_12c) H := hP
  have hD : va_D A (wd_c_X7_copyFrom h1 h1_f0 h1_f1 h1_f2 h1_f3 h1_4 h1_5 h1_6 h1_7 h1_8 h1_9 h1_10 h1_11 h1_12 h0 h1_f0 h1_f1 h1_f2 h1_f3 h0_4 h0_5 h0_6 h0_7 h0_8 h0_9 h0_10 h0_11 h0_12 h1_4 h1_4k h1_4c h0_4 h0_4k w_1 h1_5 h1_5k h1_5c h0_5 h0_5k w_2 h1_6 h1_6k h1_6c h0_6 h0_6k w_3 h1_7 h1_7k h1_7c h0_7 h0_7k w_4 h1_8 h1_8k h1_8c h0_8 h0_8k w_5 h1_9 h1_9k h1_9c h0_9 h0_9k w_6 h1_10 h1_10k h1_10c h0_10 h0_10k w_7 h1_11 h1_11k h1_11c h0_11 h0_11k (va_cpy h1_11c h0_11c (0 : Int32).toNatClampNeg (0 : Int32).toNatClampNeg (8 : Int32).toNatClampNeg) h1_12 h1_12k h1_12c h0_12 h0_12k h0_12c) := hD
  generalize (va_cpy h1_11c h0_11c (0 : Int32).toNatClampNeg (0 : Int32).toNatClampNeg (8 : Int32).toNatClampNeg) = w_8 at hP hD
  have hP : va_P (dC, dI) vwCl (wd_c_X7_copyFrom h1 h1_f0 h1_f1 h1_f2 h1_f3 h1_4 h1_5 h1_6 h1_7 h1_8 h1_9 h1_10 h1_11 h1_12 h0 h1_f0 h1_f1 h1_f2 h1_f3 h0_4 h0_5 h0_6 h0_7 h0_8 h0_9 h0_10 h0_11 h0_12 h1_4 h1_4k h1_4c h0_4 h0_4k w_1 h1_5 h1_5k h1_5c h0_5 h0_5k w_2 h1_6 h1_6k h1_6c h0_6 h0_6k w_3 h1_7 h1_7k h1_7c h0_7 h0_7k w_4 h1_8 h1_8k h1_8c h0_8 h0_8k w_5 h1_9 h1_9k h1_9c h0_9 h0_9k w_6 h1_10 h1_10k h1_10c h0_10 h0_10k w_7 h1_11 h1_11k h1_11c h0_11 h0_11k w_8 h1_12 h1_12k h1_12c h0_12 h0_12k h0_12c) H := hP
  have hD : va_D A (wd_c_X7_copyFrom h1 h1_f0 h1_f1 h1_f2 h1_f3 h1_4 h1_5 h1_6 h1_7 h1_8 h1_9 h1_10 h1_11 h1_12 h0 h1_f0 h1_f1 h1_f2 h1_f3 h0_4 h0_5 h0_6 h0_7 h0_8 h0_9 h0_10 h0_11 h0_12 h1_4 h1_4k h1_4c h0_4 h0_4k w_1 h1_5 h1_5k h1_5c h0_5 h0_5k w_2 h1_6 h1_6k h1_6c h0_6 h0_6k w_3 h1_7 h1_7k h1_7c h0_7 h0_7k w_4 h1_8 h1_8k h1_8c h0_8 h0_8k w_5 h1_9 h1_9k h1_9c h0_9 h0_9k w_6 h1_10 h1_10k h1_10c h0_10 h0_10k w_7 h1_11 h1_11k h1_11c h0_11 h0_11k w_8 h1_12 h1_12k h1_12c h0_12 h0_12k h0_12c) := hD
  refine lv_aload_n hx hb dX7_copyFrom_146 rfl (lv_at hl 1 rfl) ?_
  refine va_get (D := (dC, dI)) (ci := 7) (v := .ref h1_12) (C := RX7) (T := TX7) (N := 13) hx hb hts iw_c_X7_copyFrom_X7 hown hK hP 0 rfl rfl 12 (by decide) (hts (.fieldLink RX7 36 "BuoyVote$Sea" "barnacles" "[I") (List.mem_of_getElem? (i := 17) rfl)) (fun _ h9 => h9) rfl dX7_copyFrom_147 ?_
  refine lv_iconst (v := 0) hx hb dX7_copyFrom_150 kc_iconst_0 ?_
  refine lv_aload_n hx hb dX7_copyFrom_151 rfl (lv_at hl 0 rfl) ?_
  refine va_get (D := (dC, dI)) (ci := 7) (v := .ref h0_12) (C := RX7) (T := TX7) (N := 13) hx hb hts iw_c_X7_copyFrom_X7 hown hK hP 1 rfl rfl 12 (by decide) (hts (.fieldLink RX7 36 "BuoyVote$Sea" "barnacles" "[I") (List.mem_of_getElem? (i := 17) rfl)) (fun _ h9 => h9) rfl dX7_copyFrom_152 ?_
  refine lv_iconst (v := 0) hx hb dX7_copyFrom_155 kc_iconst_0 ?_
  refine lv_bipush (v := 8) hx hb dX7_copyFrom_156 kc_bipush_8 ?_
  refine va_copyi hx hb (by rw [hml]; exact hl.1.symm) hown (hts (.methodLink RX7 88 arraycopyName) (List.mem_of_getElem? (i := 6) rfl)) (hts (.native arraycopyName) (List.mem_of_getElem? (i := 7) rfl)) (hts (.static arraycopyName) (List.mem_of_getElem? (i := 8) rfl)) (hts (.initialized "java/lang/System") (List.mem_of_getElem? (i := 9) rfl)) hK hP hD hS 18 19 16 17 rfl rfl rfl rfl rfl (by decide) (by decide) (by decide) (by decide) (by decide) (fun _ _ => rfl) (Nat.le_of_ble_eq_true rfl) (Nat.le_of_ble_eq_true rfl) dX7_copyFrom_158 (fun H locs hP hD hS => ?_)
  have hP : va_P (dC, dI) vwCl (wd_c_X7_copyFrom h1 h1_f0 h1_f1 h1_f2 h1_f3 h1_4 h1_5 h1_6 h1_7 h1_8 h1_9 h1_10 h1_11 h1_12 h0 h1_f0 h1_f1 h1_f2 h1_f3 h0_4 h0_5 h0_6 h0_7 h0_8 h0_9 h0_10 h0_11 h0_12 h1_4 h1_4k h1_4c h0_4 h0_4k w_1 h1_5 h1_5k h1_5c h0_5 h0_5k w_2 h1_6 h1_6k h1_6c h0_6 h0_6k w_3 h1_7 h1_7k h1_7c h0_7 h0_7k w_4 h1_8 h1_8k h1_8c h0_8 h0_8k w_5 h1_9 h1_9k h1_9c h0_9 h0_9k w_6 h1_10 h1_10k h1_10c h0_10 h0_10k w_7 h1_11 h1_11k h1_11c h0_11 h0_11k w_8 h1_12 h1_12k h1_12c h0_12 h0_12k (va_cpy h1_12c h0_12c (0 : Int32).toNatClampNeg (0 : Int32).toNatClampNeg (8 : Int32).toNatClampNeg)) H := hP
  have hD : va_D A (wd_c_X7_copyFrom h1 h1_f0 h1_f1 h1_f2 h1_f3 h1_4 h1_5 h1_6 h1_7 h1_8 h1_9 h1_10 h1_11 h1_12 h0 h1_f0 h1_f1 h1_f2 h1_f3 h0_4 h0_5 h0_6 h0_7 h0_8 h0_9 h0_10 h0_11 h0_12 h1_4 h1_4k h1_4c h0_4 h0_4k w_1 h1_5 h1_5k h1_5c h0_5 h0_5k w_2 h1_6 h1_6k h1_6c h0_6 h0_6k w_3 h1_7 h1_7k h1_7c h0_7 h0_7k w_4 h1_8 h1_8k h1_8c h0_8 h0_8k w_5 h1_9 h1_9k h1_9c h0_9 h0_9k w_6 h1_10 h1_10k h1_10c h0_10 h0_10k w_7 h1_11 h1_11k h1_11c h0_11 h0_11k w_8 h1_12 h1_12k h1_12c h0_12 h0_12k (va_cpy h1_12c h0_12c (0 : Int32).toNatClampNeg (0 : Int32).toNatClampNeg (8 : Int32).toNatClampNeg)) := hD
  generalize (va_cpy h1_12c h0_12c (0 : Int32).toNatClampNeg (0 : Int32).toNatClampNeg (8 : Int32).toNatClampNeg) = w_9 at hP hD
  have hP : va_P (dC, dI) vwCl (wd_c_X7_copyFrom h1 h1_f0 h1_f1 h1_f2 h1_f3 h1_4 h1_5 h1_6 h1_7 h1_8 h1_9 h1_10 h1_11 h1_12 h0 h1_f0 h1_f1 h1_f2 h1_f3 h0_4 h0_5 h0_6 h0_7 h0_8 h0_9 h0_10 h0_11 h0_12 h1_4 h1_4k h1_4c h0_4 h0_4k w_1 h1_5 h1_5k h1_5c h0_5 h0_5k w_2 h1_6 h1_6k h1_6c h0_6 h0_6k w_3 h1_7 h1_7k h1_7c h0_7 h0_7k w_4 h1_8 h1_8k h1_8c h0_8 h0_8k w_5 h1_9 h1_9k h1_9c h0_9 h0_9k w_6 h1_10 h1_10k h1_10c h0_10 h0_10k w_7 h1_11 h1_11k h1_11c h0_11 h0_11k w_8 h1_12 h1_12k h1_12c h0_12 h0_12k w_9) H := hP
  have hD : va_D A (wd_c_X7_copyFrom h1 h1_f0 h1_f1 h1_f2 h1_f3 h1_4 h1_5 h1_6 h1_7 h1_8 h1_9 h1_10 h1_11 h1_12 h0 h1_f0 h1_f1 h1_f2 h1_f3 h0_4 h0_5 h0_6 h0_7 h0_8 h0_9 h0_10 h0_11 h0_12 h1_4 h1_4k h1_4c h0_4 h0_4k w_1 h1_5 h1_5k h1_5c h0_5 h0_5k w_2 h1_6 h1_6k h1_6c h0_6 h0_6k w_3 h1_7 h1_7k h1_7c h0_7 h0_7k w_4 h1_8 h1_8k h1_8c h0_8 h0_8k w_5 h1_9 h1_9k h1_9c h0_9 h0_9k w_6 h1_10 h1_10k h1_10c h0_10 h0_10k w_7 h1_11 h1_11k h1_11c h0_11 h0_11k w_8 h1_12 h1_12k h1_12c h0_12 h0_12k w_9) := hD
  have hK9 := hK.sub (tys' := []) [] rfl
  exact W.vret hx hb hr (fun t ht hW => ⟨⟨(w_1, w_2, w_3, w_4, w_5, w_6, w_7, w_8, w_9), rfl, trivial, by rw [ht]; exact hP, va_K.moved hW.alike hK9, hD⟩, hS.F ht⟩) hS.2.2 dX7_copyFrom_161
def wd_c_X11_isBoat_1 (a0 : Nat) (a1 : Nat) (a2 : Nat) (a3 : Nat) (a4 : Nat) (a5 : Nat) (a6 : Int32) (a7 : Nat) (a8 : Nat) (a9 : Nat) (a10 : Nat) (a11 : Nat) (a12 : Nat) (a13 : Nat) (a14 : Nat) (a15 : Nat) (a16 : Int64) (a17 : Nat) (a18 : Nat) (a19 : Int32) (a20 : Int32) (a21 : Int32) : va_W := [(a0, .inr (11, [.ref a1, .ref a2, .ref a3, .ref a4, .ref a5, .int a6, .ref a7, .ref a8, .ref a9, .ref a10, .ref a11, .ref a12, .ref a13, .ref a14, .ref a15, .long a16])), (a17, .inr (0, [.ref a18, .int a19, .int a20, .int a21]))]
def wf_c_X11_isBoat_1 : List Cond := .code yX11_isBoat cX11_isBoat 2 (some .boolean) :: ([.fieldLink RX11 19 "BuoyVote" "told" "LBuoyVote$Borough;", .fieldLink RX11 272 "BuoyVote$Borough" "boats" "I"] ++ wsX110 ++ wsX00)
theorem iw_c_X11_isBoat_1_X11 : ∀ w ∈ wsX110, w ∈ wf_c_X11_isBoat_1 := fun w h => List.mem_cons_of_mem _ (List.mem_append_left _ (List.mem_append_right _ h))
theorem iw_c_X11_isBoat_1_X0 : ∀ w ∈ wsX00, w ∈ wf_c_X11_isBoat_1 := fun w h => List.mem_cons_of_mem _ (List.mem_append_right _ h)
set_option maxHeartbeats 4000000 in
set_option maxRecDepth 100000 in
theorem c_X11_isBoat_1 (l : Launch) (dC : Nat → ClassId) (dI : Nat → Nat → Nat) (sz : Nat) (h0 : Nat) (p1 : Int32) (h0_0 : Nat) (h0_1 : Nat) (h0_2 : Nat) (h0_3 : Nat) (h0_4 : Nat) (h0_f5 : Int32) (h0_6 : Nat) (h0_7 : Nat) (h0_8 : Nat) (h0_9 : Nat) (h0_10 : Nat) (h0_11 : Nat) (h0_12 : Nat) (h0_13 : Nat) (h0_14 : Nat) (h0_f15 : Int64) (h0_1_0 : Nat) (h0_1_f1 : Int32) (h0_1_f2 : Int32) (h0_1_f3 : Int32) (g_p1 : RG p1 (-1) 99) (g_h0_f5 : RG h0_f5 0 4) (g_h0_1_f1 : RG h0_1_f1 0 8) (g_h0_1_f2 : RG h0_1_f2 0 3) (g_h0_1_f3 : RG h0_1_f3 0 1) : Met l yX11_isBoat wf_c_X11_isBoat_1 ({ frames := 0, cells := 0, slots := 0, locals := 0 }) (va_Pc [.ref h0, .int p1] (fun U => U.heap.size = sz ∧ va_P (dC, dI) vwCl (wd_c_X11_isBoat_1 h0 h0_0 h0_1 h0_2 h0_3 h0_4 h0_f5 h0_6 h0_7 h0_8 h0_9 h0_10 h0_11 h0_12 h0_13 h0_14 h0_f15 h0_1 h0_1_0 h0_1_f1 h0_1_f2 h0_1_f3) U.heap ∧ va_K (dC, dI) vwCl [] U ∧ va_D (fun _ => True) (wd_c_X11_isBoat_1 h0 h0_0 h0_1 h0_2 h0_3 h0_4 h0_f5 h0_6 h0_7 h0_8 h0_9 h0_10 h0_11 h0_12 h0_13 h0_14 h0_f15 h0_1 h0_1_0 h0_1_f1 h0_1_f2 h0_1_f3))) (va_Qi (fun (r : Int32) (u : Unit) => (r = 0) ∨ (r = 1 ∧ RG h0_1_f2 1 3 ∧ RG p1 0 2)) (fun (u : Unit) t => va_P (dC, dI) vwCl (wd_c_X11_isBoat_1 h0 h0_0 h0_1 h0_2 h0_3 h0_4 h0_f5 h0_6 h0_7 h0_8 h0_9 h0_10 h0_11 h0_12 h0_13 h0_14 h0_f15 h0_1 h0_1_0 h0_1_f1 h0_1_f2 h0_1_f3) t.heap ∧ va_K (dC, dI) vwCl [] t ∧ va_D (va_A (wd_c_X11_isBoat_1 h0 h0_0 h0_1 h0_2 h0_3 h0_4 h0_f5 h0_6 h0_7 h0_8 h0_9 h0_10 h0_11 h0_12 h0_13 h0_14 h0_f15 h0_1 h0_1_0 h0_1_f1 h0_1_f2 h0_1_f3) sz) (wd_c_X11_isBoat_1 h0 h0_0 h0_1 h0_2 h0_3 h0_4 h0_f5 h0_6 h0_7 h0_8 h0_9 h0_10 h0_11 h0_12 h0_13 h0_14 h0_f15 h0_1 h0_1_0 h0_1_f1 h0_1_f2 h0_1_f3)) (va_A (wd_c_X11_isBoat_1 h0 h0_0 h0_1 h0_2 h0_3 h0_4 h0_f5 h0_6 h0_7 h0_8 h0_9 h0_10 h0_11 h0_12 h0_13 h0_14 h0_f15 h0_1 h0_1_0 h0_1_f1 h0_1_f2 h0_1_f3) sz)) 0 0 (va_A (wd_c_X11_isBoat_1 h0 h0_0 h0_1 h0_2 h0_3 h0_4 h0_f5 h0_6 h0_7 h0_8 h0_9 h0_10 h0_11 h0_12 h0_13 h0_14 h0_f15 h0_1 h0_1_0 h0_1_f1 h0_1_f2 h0_1_f3) sz) := by
  refine Met.ofW (cc := cX11_isBoat) (maxL := 2) (ret := (some .boolean)) (by decide) rfl ?_
  intro p e s m args below meth c s₁ B hml hv
  obtain ⟨rfl, hsz, hP, hK, hD0⟩ := hv
  have hx := B.exec
  have hb := B.bytes
  have hr := B.returns
  have hts := atoms_spec (ws := wf_c_X11_isBoat_1) B.pre
  have hown : s.vm.findClass RX11 = some m.cls := findClass_of_methodNamed B.named
  have hlocks := B.notSynchronized
  subst hsz
  have hD := hD0.self (sz := s.heap.size)
  generalize hAe : va_A (wd_c_X11_isBoat_1 h0 h0_0 h0_1 h0_2 h0_3 h0_4 h0_f5 h0_6 h0_7 h0_8 h0_9 h0_10 h0_11 h0_12 h0_13 h0_14 h0_f15 h0_1 h0_1_0 h0_1_f1 h0_1_f2 h0_1_f3) s.heap.size = A at hD ⊢
  have hA : ∀ q : Nat, s.heap.size ≤ q → A q := fun q h => by rw [← hAe]; exact Or.inr h
  have hP : va_P (dC, dI) vwCl (wd_c_X11_isBoat_1 h0 h0_0 h0_1 h0_2 h0_3 h0_4 h0_f5 h0_6 h0_7 h0_8 h0_9 h0_10 h0_11 h0_12 h0_13 h0_14 h0_f15 h0_1 h0_1_0 h0_1_f1 h0_1_f2 h0_1_f3) s.heap := hP
  have hl := lv_entry ([.ref h0, .int p1]) (n := 2) (Nat.le_of_ble_eq_true rfl)
  rw [lg_entry_eq]
  generalize (lg_sl ([.ref h0, .int p1]) ++ List.replicate (2 - (lg_sl ([.ref h0, .int p1])).length) Slot.unset).toArray = ls at hl ⊢
  have hl : lv_has ls 2 [(0, .ref h0), (1, .int p1)] := hl
  obtain ⟨H, hHe⟩ : ∃ H : Heap, s.heap = H := ⟨_, rfl⟩
  have hS : va_S A s.heap H [] := by rw [hHe]; exact va_S.rf
  have hP : va_P (dC, dI) vwCl (wd_c_X11_isBoat_1 h0 h0_0 h0_1 h0_2 h0_3 h0_4 h0_f5 h0_6 h0_7 h0_8 h0_9 h0_10 h0_11 h0_12 h0_13 h0_14 h0_f15 h0_1 h0_1_0 h0_1_f1 h0_1_f2 h0_1_f3) H := by rw [← hHe]; exact hP
  rw [hHe]
  refine lv_iload_n hx hb dX11_isBoat_0 rfl (lv_at hl 1 rfl) ?_
  refine lv_if_lt (tgt := 19) hx hb dX11_isBoat_1 rfl (fun c_1 => ?_) (fun c_1 => ?_)
  · have g_2 : RG p1 (-1) (-1) := RG_lt1 g_p1 (RG_k 0 0 rfl) c_1 (by decide)
    refine lv_iconst (v := 0) hx hb dX11_isBoat_19 kc_iconst_0 ?_
    have hK9 := hK.sub (tys' := []) [] rfl
    exact W.zret (v := 0) hx hb hr rfl (fun t ht hW => ⟨⟨0, (), rfl, (Or.inl rfl), by rw [ht]; exact hP, va_K.moved hW.alike hK9, hD⟩, hS.F ht⟩) hS.2.2 dX11_isBoat_20
  · have d_3 := Int32.not_lt.mp c_1
    have g_4 : RG p1 0 99 := RG_le2 (RG_k 0 0 rfl) g_p1 d_3 (by decide)
    refine lv_iload_n hx hb dX11_isBoat_4 rfl (lv_at hl 1 rfl) ?_
    refine lv_aload_n hx hb dX11_isBoat_5 rfl (lv_at hl 0 rfl) ?_
    refine va_get (D := (dC, dI)) (ci := 11) (v := .ref h0_1) (C := RX11) (T := TX11) (N := 16) hx hb hts iw_c_X11_isBoat_1_X11 hown hK hP 0 rfl rfl 1 (by decide) (hts (.fieldLink RX11 19 "BuoyVote" "told" "LBuoyVote$Borough;") (List.mem_of_getElem? (i := 1) rfl)) (fun _ h9 => h9) rfl dX11_isBoat_6 ?_
    refine va_get (D := (dC, dI)) (ci := 0) (v := .int h0_1_f2) (C := RX0) (T := TX0) (N := 4) hx hb hts iw_c_X11_isBoat_1_X0 hown hK hP 1 rfl rfl 2 (by decide) (hts (.fieldLink RX11 272 "BuoyVote$Borough" "boats" "I") (List.mem_of_getElem? (i := 2) rfl)) (fun _ h9 => h9) rfl dX11_isBoat_9 ?_
    refine lv_icmp_ge (tgt := 19) hx hb dX11_isBoat_12 rfl (fun c_5 => ?_) (fun c_5 => ?_)
    · refine lv_iconst (v := 0) hx hb dX11_isBoat_19 kc_iconst_0 ?_
      have hK9 := hK.sub (tys' := []) [] rfl
      exact W.zret (v := 0) hx hb hr rfl (fun t ht hW => ⟨⟨0, (), rfl, (Or.inl rfl), by rw [ht]; exact hP, va_K.moved hW.alike hK9, hD⟩, hS.F ht⟩) hS.2.2 dX11_isBoat_20
    · have d_6 := Int32.not_le.mp c_5
      have g_7 : RG p1 0 2 := RG_lt1 g_4 g_h0_1_f2 d_6 (by decide)
      have g_8 : RG h0_1_f2 1 3 := RG_lt2 g_4 g_h0_1_f2 d_6 (by decide)
      refine lv_iconst (v := 1) hx hb dX11_isBoat_15 kc_iconst_1 ?_
      refine lv_goto (tgt := 20) hx hb dX11_isBoat_16 rfl ?_
      have hK9 := hK.sub (tys' := []) [] rfl
      exact W.zret (v := 1) hx hb hr rfl (fun t ht hW => ⟨⟨1, (), rfl, (Or.inr ⟨rfl, g_8, g_7⟩), by rw [ht]; exact hP, va_K.moved hW.alike hK9, hD⟩, hS.F ht⟩) hS.2.2 dX11_isBoat_20
def wf_c_X11_isWithin_7 : List Cond := .code yX11_isWithin cX11_isWithin 3 (some .boolean) :: ([])
set_option maxHeartbeats 4000000 in
set_option maxRecDepth 100000 in
theorem c_X11_isWithin_7 (l : Launch) (dC : Nat → ClassId) (dI : Nat → Nat → Nat) (sz : Nat) (p0 : Int32) (g_p0 : RG p0 (-1) 99) : Met l yX11_isWithin wf_c_X11_isWithin_7 ({ frames := 0, cells := 0, slots := 0, locals := 0 }) (va_Pc [.int p0, .int 0, .int 9] (fun U => U.heap.size = sz ∧ va_P (dC, dI) vwCl [] U.heap ∧ va_K (dC, dI) vwCl [] U ∧ va_D (fun _ => True) [])) (va_Qi (fun (r : Int32) (u : Unit) => (r = 0) ∨ (r = 1 ∧ RG p0 0 9)) (fun (u : Unit) t => va_P (dC, dI) vwCl [] t.heap ∧ va_K (dC, dI) vwCl [] t ∧ va_D (va_A [] sz) []) (va_A [] sz)) 0 0 (va_A [] sz) := by
  refine Met.ofW (cc := cX11_isWithin) (maxL := 3) (ret := (some .boolean)) (by decide) rfl ?_
  intro p e s m args below meth c s₁ B hml hv
  obtain ⟨rfl, hsz, hP, hK, hD0⟩ := hv
  have hx := B.exec
  have hb := B.bytes
  have hr := B.returns
  have hts := atoms_spec (ws := wf_c_X11_isWithin_7) B.pre
  have hown : s.vm.findClass RX11 = some m.cls := findClass_of_methodNamed B.named
  have hlocks := B.notSynchronized
  subst hsz
  have hD := hD0.self (sz := s.heap.size)
  generalize hAe : va_A [] s.heap.size = A at hD ⊢
  have hA : ∀ q : Nat, s.heap.size ≤ q → A q := fun q h => by rw [← hAe]; exact Or.inr h
  have hP : va_P (dC, dI) vwCl [] s.heap := hP
  have hl := lv_entry ([.int p0, .int 0, .int 9]) (n := 3) (Nat.le_of_ble_eq_true rfl)
  rw [lg_entry_eq]
  generalize (lg_sl ([.int p0, .int 0, .int 9]) ++ List.replicate (3 - (lg_sl ([.int p0, .int 0, .int 9])).length) Slot.unset).toArray = ls at hl ⊢
  have hl : lv_has ls 3 [(0, .int p0), (1, .int 0), (2, .int 9)] := hl
  obtain ⟨H, hHe⟩ : ∃ H : Heap, s.heap = H := ⟨_, rfl⟩
  have hS : va_S A s.heap H [] := by rw [hHe]; exact va_S.rf
  have hP : va_P (dC, dI) vwCl [] H := by rw [← hHe]; exact hP
  rw [hHe]
  refine lv_iload_n hx hb dX11_isWithin_0 rfl (lv_at hl 0 rfl) ?_
  refine lv_iload_n hx hb dX11_isWithin_1 rfl (lv_at hl 1 rfl) ?_
  refine lv_icmp_lt (tgt := 14) hx hb dX11_isWithin_2 rfl (fun c_1 => ?_) (fun c_1 => ?_)
  · have g_2 : RG p0 (-1) (-1) := RG_lt1 g_p0 (RG_k 0 0 rfl) c_1 (by decide)
    refine lv_iconst (v := 0) hx hb dX11_isWithin_14 kc_iconst_0 ?_
    have hK9 := hK.sub (tys' := []) [] rfl
    exact W.zret (v := 0) hx hb hr rfl (fun t ht hW => ⟨⟨0, (), rfl, (Or.inl rfl), by rw [ht]; exact hP, va_K.moved hW.alike hK9, hD⟩, hS.F ht⟩) hS.2.2 dX11_isWithin_15
  · have d_3 := Int32.not_lt.mp c_1
    have g_4 : RG p0 0 99 := RG_le2 (RG_k 0 0 rfl) g_p0 d_3 (by decide)
    refine lv_iload_n hx hb dX11_isWithin_5 rfl (lv_at hl 0 rfl) ?_
    refine lv_iload_n hx hb dX11_isWithin_6 rfl (lv_at hl 2 rfl) ?_
    refine lv_icmp_gt (tgt := 14) hx hb dX11_isWithin_7 rfl (fun c_5 => ?_) (fun c_5 => ?_)
    · have g_6 : RG p0 10 99 := RG_lt2 (RG_k 9 9 rfl) g_4 c_5 (by decide)
      refine lv_iconst (v := 0) hx hb dX11_isWithin_14 kc_iconst_0 ?_
      have hK9 := hK.sub (tys' := []) [] rfl
      exact W.zret (v := 0) hx hb hr rfl (fun t ht hW => ⟨⟨0, (), rfl, (Or.inl rfl), by rw [ht]; exact hP, va_K.moved hW.alike hK9, hD⟩, hS.F ht⟩) hS.2.2 dX11_isWithin_15
    · have d_7 := Int32.not_lt.mp c_5
      have g_8 : RG p0 0 9 := RG_le1 g_4 (RG_k 9 9 rfl) d_7 (by decide)
      refine lv_iconst (v := 1) hx hb dX11_isWithin_10 kc_iconst_1 ?_
      refine lv_goto (tgt := 15) hx hb dX11_isWithin_11 rfl ?_
      have hK9 := hK.sub (tys' := []) [] rfl
      exact W.zret (v := 1) hx hb hr rfl (fun t ht hW => ⟨⟨1, (), rfl, (Or.inr ⟨rfl, g_8⟩), by rw [ht]; exact hP, va_K.moved hW.alike hK9, hD⟩, hS.F ht⟩) hS.2.2 dX11_isWithin_15
def wd_c_X11_canRow (a0 : Nat) (a1 : Nat) (a2 : Nat) (a3 : Nat) (a4 : Nat) (a5 : Nat) (a6 : Int32) (a7 : Nat) (a8 : Nat) (a9 : Nat) (a10 : Nat) (a11 : Nat) (a12 : Nat) (a13 : Nat) (a14 : Nat) (a15 : Nat) (a16 : Int64) (a17 : Nat) (a18 : Nat) (a19 : Int32) (a20 : Int32) (a21 : Int32) (a22 : Nat) (a23 : Int32) (a24 : Int32) (a25 : Int32) (a26 : Int32) (a27 : Nat) (a28 : Nat) (a29 : Nat) (a30 : Nat) (a31 : Nat) (a32 : Nat) (a33 : Nat) (a34 : Nat) (a35 : Nat) (a36 : Nat) (a37 : ClassId) (a38 : Nat → Int32) (a39 : Nat) (a40 : ClassId) (a41 : Nat → Int32) : va_W := [(a0, .inr (11, [.ref a1, .ref a2, .ref a3, .ref a4, .ref a5, .int a6, .ref a7, .ref a8, .ref a9, .ref a10, .ref a11, .ref a12, .ref a13, .ref a14, .ref a15, .long a16])), (a17, .inr (0, [.ref a18, .int a19, .int a20, .int a21])), (a22, .inr (7, [.int a23, .int a24, .int a25, .int a26, .ref a27, .ref a28, .ref a29, .ref a30, .ref a31, .ref a32, .ref a33, .ref a34, .ref a35])), (a36, .inl (a37, 3, .inl a38)), (a39, .inl (a40, 3, .inl a41))]
def wf_c_X11_canRow : List Cond := .code yX11_canRow cX11_canRow 5 (some .boolean) :: ([.methodLink RX11 191 yX11_isBoat, .instanceMethod yX11_isBoat, .selects RX11 yX11_isBoat yX11_isBoat, .initialized RX11, .code yX11_isBoat cX11_isBoat 2 (some .boolean), .fieldLink RX11 19 "BuoyVote" "told" "LBuoyVote$Borough;", .fieldLink RX11 272 "BuoyVote$Borough" "boats" "I", .methodLink RX11 111 yX11_isWithin, .static yX11_isWithin, .code yX11_isWithin cX11_isWithin 3 (some .boolean), .fieldLink RX11 206 "BuoyVote$Sea" "goalX" "[I", .fieldLink RX11 209 "BuoyVote$Sea" "goalY" "[I"] ++ wsX110 ++ wsX00 ++ wsX70)
theorem iw_c_X11_canRow_X11 : ∀ w ∈ wsX110, w ∈ wf_c_X11_canRow := fun w h => List.mem_cons_of_mem _ (List.mem_append_left _ (List.mem_append_left _ (List.mem_append_right _ h)))
theorem iw_c_X11_canRow_X0 : ∀ w ∈ wsX00, w ∈ wf_c_X11_canRow := fun w h => List.mem_cons_of_mem _ (List.mem_append_left _ (List.mem_append_right _ h))
theorem iw_c_X11_canRow_X7 : ∀ w ∈ wsX70, w ∈ wf_c_X11_canRow := fun w h => List.mem_cons_of_mem _ (List.mem_append_right _ h)
set_option maxRecDepth 20000 in
theorem gf_c_X11_canRow_c_X11_isBoat_1 : GoodIn wf_c_X11_canRow (wsV RX11 191 RX11 yX11_isBoat wf_c_X11_isBoat_1) := goodIn_app (gi_cons (j := 1) rfl rfl (gi_cons (j := 2) rfl rfl (gi_cons (j := 3) rfl rfl (gi_cons (j := 4) rfl rfl (gi_nil))))) (gi_cons (j := 5) rfl rfl (goodIn_app (goodIn_app (gi_cons (j := 6) rfl rfl (gi_cons (j := 7) rfl rfl (gi_nil))) (goodIn_sub iw_c_X11_canRow_X11 gw_X11)) (goodIn_sub iw_c_X11_canRow_X0 gw_X0)))
set_option maxRecDepth 20000 in
theorem gf_c_X11_canRow_c_X11_isWithin_7 : GoodIn wf_c_X11_canRow (va_wsS RX11 111 yX11_isWithin wf_c_X11_isWithin_7) := goodIn_app (gi_cons (j := 8) rfl rfl (gi_cons (j := 9) rfl rfl (gi_cons (j := 4) rfl rfl (gi_nil)))) (gi_cons (j := 10) rfl rfl (gi_nil))
set_option maxHeartbeats 4000000 in
set_option maxRecDepth 100000 in
theorem c_X11_canRow (l : Launch) (dC : Nat → ClassId) (dI : Nat → Nat → Nat) (sz : Nat) (h0 : Nat) (h1 : Nat) (p2 : Int32) (p3 : Int32) (p4 : Int32) (h0_0 : Nat) (h0_1 : Nat) (h0_2 : Nat) (h0_3 : Nat) (h0_4 : Nat) (h0_f5 : Int32) (h0_6 : Nat) (h0_7 : Nat) (h0_8 : Nat) (h0_9 : Nat) (h0_10 : Nat) (h0_11 : Nat) (h0_12 : Nat) (h0_13 : Nat) (h0_14 : Nat) (h0_f15 : Int64) (h0_1_0 : Nat) (h0_1_f1 : Int32) (h0_1_f2 : Int32) (h0_1_f3 : Int32) (h1_f0 : Int32) (h1_f1 : Int32) (h1_f2 : Int32) (h1_f3 : Int32) (h1_4 : Nat) (h1_5 : Nat) (h1_6 : Nat) (h1_7 : Nat) (h1_8 : Nat) (h1_9 : Nat) (h1_10 : Nat) (h1_11 : Nat) (h1_12 : Nat) (h1_6k : ClassId) (h1_6c : Nat → Int32) (h1_7k : ClassId) (h1_7c : Nat → Int32) (g_p2 : RG p2 (-1) 99) (g_p3 : RG p3 (-1) 99) (g_p4 : RG p4 (-1) 99) (g_h0_f5 : RG h0_f5 0 4) (g_h0_1_f1 : RG h0_1_f1 0 8) (g_h0_1_f2 : RG h0_1_f2 0 3) (g_h0_1_f3 : RG h0_1_f3 0 1) : Met l yX11_canRow wf_c_X11_canRow ({ frames := 1, cells := 0, slots := 0, locals := 22 }) (va_Pc [.ref h0, .ref h1, .int p2, .int p3, .int p4] (fun U => U.heap.size = sz ∧ va_P (dC, dI) vwCl (wd_c_X11_canRow h0 h0_0 h0_1 h0_2 h0_3 h0_4 h0_f5 h0_6 h0_7 h0_8 h0_9 h0_10 h0_11 h0_12 h0_13 h0_14 h0_f15 h0_1 h0_1_0 h0_1_f1 h0_1_f2 h0_1_f3 h1 h1_f0 h1_f1 h1_f2 h1_f3 h1_4 h1_5 h1_6 h1_7 h1_8 h1_9 h1_10 h1_11 h1_12 h1_6 h1_6k h1_6c h1_7 h1_7k h1_7c) U.heap ∧ va_K (dC, dI) vwCl [(h1_6k, .int), (h1_7k, .int)] U ∧ va_D (fun _ => True) (wd_c_X11_canRow h0 h0_0 h0_1 h0_2 h0_3 h0_4 h0_f5 h0_6 h0_7 h0_8 h0_9 h0_10 h0_11 h0_12 h0_13 h0_14 h0_f15 h0_1 h0_1_0 h0_1_f1 h0_1_f2 h0_1_f3 h1 h1_f0 h1_f1 h1_f2 h1_f3 h1_4 h1_5 h1_6 h1_7 h1_8 h1_9 h1_10 h1_11 h1_12 h1_6 h1_6k h1_6c h1_7 h1_7k h1_7c))) (va_Qi (fun (r : Int32) (u : Unit) => (r = 0) ∨ (r = 1 ∧ RG h0_1_f2 1 3 ∧ RG p2 0 2 ∧ RG p3 0 9 ∧ RG p4 0 9)) (fun (u : Unit) t => va_P (dC, dI) vwCl (wd_c_X11_canRow h0 h0_0 h0_1 h0_2 h0_3 h0_4 h0_f5 h0_6 h0_7 h0_8 h0_9 h0_10 h0_11 h0_12 h0_13 h0_14 h0_f15 h0_1 h0_1_0 h0_1_f1 h0_1_f2 h0_1_f3 h1 h1_f0 h1_f1 h1_f2 h1_f3 h1_4 h1_5 h1_6 h1_7 h1_8 h1_9 h1_10 h1_11 h1_12 h1_6 h1_6k h1_6c h1_7 h1_7k h1_7c) t.heap ∧ va_K (dC, dI) vwCl [] t ∧ va_D (va_A (wd_c_X11_canRow h0 h0_0 h0_1 h0_2 h0_3 h0_4 h0_f5 h0_6 h0_7 h0_8 h0_9 h0_10 h0_11 h0_12 h0_13 h0_14 h0_f15 h0_1 h0_1_0 h0_1_f1 h0_1_f2 h0_1_f3 h1 h1_f0 h1_f1 h1_f2 h1_f3 h1_4 h1_5 h1_6 h1_7 h1_8 h1_9 h1_10 h1_11 h1_12 h1_6 h1_6k h1_6c h1_7 h1_7k h1_7c) sz) (wd_c_X11_canRow h0 h0_0 h0_1 h0_2 h0_3 h0_4 h0_f5 h0_6 h0_7 h0_8 h0_9 h0_10 h0_11 h0_12 h0_13 h0_14 h0_f15 h0_1 h0_1_0 h0_1_f1 h0_1_f2 h0_1_f3 h1 h1_f0 h1_f1 h1_f2 h1_f3 h1_4 h1_5 h1_6 h1_7 h1_8 h1_9 h1_10 h1_11 h1_12 h1_6 h1_6k h1_6c h1_7 h1_7k h1_7c)) (va_A (wd_c_X11_canRow h0 h0_0 h0_1 h0_2 h0_3 h0_4 h0_f5 h0_6 h0_7 h0_8 h0_9 h0_10 h0_11 h0_12 h0_13 h0_14 h0_f15 h0_1 h0_1_0 h0_1_f1 h0_1_f2 h0_1_f3 h1 h1_f0 h1_f1 h1_f2 h1_f3 h1_4 h1_5 h1_6 h1_7 h1_8 h1_9 h1_10 h1_11 h1_12 h1_6 h1_6k h1_6c h1_7 h1_7k h1_7c) sz)) 0 0 (va_A (wd_c_X11_canRow h0 h0_0 h0_1 h0_2 h0_3 h0_4 h0_f5 h0_6 h0_7 h0_8 h0_9 h0_10 h0_11 h0_12 h0_13 h0_14 h0_f15 h0_1 h0_1_0 h0_1_f1 h0_1_f2 h0_1_f3 h1 h1_f0 h1_f1 h1_f2 h1_f3 h1_4 h1_5 h1_6 h1_7 h1_8 h1_9 h1_10 h1_11 h1_12 h1_6 h1_6k h1_6c h1_7 h1_7k h1_7c) sz) := by
  refine Met.ofW (cc := cX11_canRow) (maxL := 5) (ret := (some .boolean)) (by decide) rfl ?_
  intro p e s m args below meth c s₁ B hml hv
  obtain ⟨rfl, hsz, hP, hK, hD0⟩ := hv
  have hx := B.exec
  have hb := B.bytes
  have hr := B.returns
  have hts := atoms_spec (ws := wf_c_X11_canRow) B.pre
  have hown : s.vm.findClass RX11 = some m.cls := findClass_of_methodNamed B.named
  have hlocks := B.notSynchronized
  subst hsz
  have hD := hD0.self (sz := s.heap.size)
  generalize hAe : va_A (wd_c_X11_canRow h0 h0_0 h0_1 h0_2 h0_3 h0_4 h0_f5 h0_6 h0_7 h0_8 h0_9 h0_10 h0_11 h0_12 h0_13 h0_14 h0_f15 h0_1 h0_1_0 h0_1_f1 h0_1_f2 h0_1_f3 h1 h1_f0 h1_f1 h1_f2 h1_f3 h1_4 h1_5 h1_6 h1_7 h1_8 h1_9 h1_10 h1_11 h1_12 h1_6 h1_6k h1_6c h1_7 h1_7k h1_7c) s.heap.size = A at hD ⊢
  have hA : ∀ q : Nat, s.heap.size ≤ q → A q := fun q h => by rw [← hAe]; exact Or.inr h
  have hP : va_P (dC, dI) vwCl (wd_c_X11_canRow h0 h0_0 h0_1 h0_2 h0_3 h0_4 h0_f5 h0_6 h0_7 h0_8 h0_9 h0_10 h0_11 h0_12 h0_13 h0_14 h0_f15 h0_1 h0_1_0 h0_1_f1 h0_1_f2 h0_1_f3 h1 h1_f0 h1_f1 h1_f2 h1_f3 h1_4 h1_5 h1_6 h1_7 h1_8 h1_9 h1_10 h1_11 h1_12 h1_6 h1_6k h1_6c h1_7 h1_7k h1_7c) s.heap := hP
  have hl := lv_entry ([.ref h0, .ref h1, .int p2, .int p3, .int p4]) (n := 5) (Nat.le_of_ble_eq_true rfl)
  rw [lg_entry_eq]
  generalize (lg_sl ([.ref h0, .ref h1, .int p2, .int p3, .int p4]) ++ List.replicate (5 - (lg_sl ([.ref h0, .ref h1, .int p2, .int p3, .int p4])).length) Slot.unset).toArray = ls at hl ⊢
  have hl : lv_has ls 5 [(0, .ref h0), (1, .ref h1), (2, .int p2), (3, .int p3), (4, .int p4)] := hl
  obtain ⟨H, hHe⟩ : ∃ H : Heap, s.heap = H := ⟨_, rfl⟩
  have hS : va_S A s.heap H [] := by rw [hHe]; exact va_S.rf
  have hP : va_P (dC, dI) vwCl (wd_c_X11_canRow h0 h0_0 h0_1 h0_2 h0_3 h0_4 h0_f5 h0_6 h0_7 h0_8 h0_9 h0_10 h0_11 h0_12 h0_13 h0_14 h0_f15 h0_1 h0_1_0 h0_1_f1 h0_1_f2 h0_1_f3 h1 h1_f0 h1_f1 h1_f2 h1_f3 h1_4 h1_5 h1_6 h1_7 h1_8 h1_9 h1_10 h1_11 h1_12 h1_6 h1_6k h1_6c h1_7 h1_7k h1_7c) H := by rw [← hHe]; exact hP
  rw [hHe]
  refine wj (fun G hG hU => ?_)
  have J52 : ∀ (g_h0_1_f1 : RG h0_1_f1 0 8) (g_h0_1_f2 : RG h0_1_f2 1 3) (g_h0_1_f3 : RG h0_1_f3 0 1) (g_h0_f5 : RG h0_f5 0 4) (g_p2 : RG p2 0 2) (g_p3 : RG p3 0 9) (g_p4 : RG p4 0 9) (H : Heap) (locs : List Loc) (ls : Array Slot) (hP : va_P (dC, dI) vwCl (wd_c_X11_canRow h0 h0_0 h0_1 h0_2 h0_3 h0_4 h0_f5 h0_6 h0_7 h0_8 h0_9 h0_10 h0_11 h0_12 h0_13 h0_14 h0_f15 h0_1 h0_1_0 h0_1_f1 h0_1_f2 h0_1_f3 h1 h1_f0 h1_f1 h1_f2 h1_f3 h1_4 h1_5 h1_6 h1_7 h1_8 h1_9 h1_10 h1_11 h1_12 h1_6 h1_6k h1_6c h1_7 h1_7k h1_7c) H) (hD : va_D A (wd_c_X11_canRow h0 h0_0 h0_1 h0_2 h0_3 h0_4 h0_f5 h0_6 h0_7 h0_8 h0_9 h0_10 h0_11 h0_12 h0_13 h0_14 h0_f15 h0_1 h0_1_0 h0_1_f1 h0_1_f2 h0_1_f3 h1 h1_f0 h1_f1 h1_f2 h1_f3 h1_4 h1_5 h1_6 h1_7 h1_8 h1_9 h1_10 h1_11 h1_12 h1_6 h1_6k h1_6c h1_7 h1_7k h1_7c)) (hS : va_S A s.heap H locs) (hl : lv_has ls 5 []), G H locs (F0 m 52 ls []) := by
    intro g_h0_1_f1 g_h0_1_f2 g_h0_1_f3 g_h0_f5 g_p2 g_p3 g_p4 H locs ls hP hD hS hl
    refine hG _ _ _ ?_
    refine lv_iconst (v := 1) hx hb dX11_canRow_52 kc_iconst_1 ?_
    refine lv_goto (tgt := 57) hx hb dX11_canRow_53 rfl ?_
    have hK9 := hK.sub (tys' := []) [] rfl
    exact W.zret (v := 1) hx hb hr rfl (fun t ht hW => ⟨⟨1, (), rfl, (Or.inr ⟨rfl, g_h0_1_f2, g_p2, g_p3, g_p4⟩), by rw [ht]; exact hP, va_K.moved hW.alike hK9, hD⟩, hS.F ht⟩) hS.2.2 dX11_canRow_57
  refine hG _ _ _ ?_
  refine lv_aload_n hx hb dX11_canRow_0 rfl (lv_at hl 0 rfl) ?_
  refine lv_iload_n hx hb dX11_canRow_1 rfl (lv_at hl 2 rfl) ?_
  have hPc := hP.sub (ws' := (wd_c_X11_isBoat_1 h0 h0_0 h0_1 h0_2 h0_3 h0_4 h0_f5 h0_6 h0_7 h0_8 h0_9 h0_10 h0_11 h0_12 h0_13 h0_14 h0_f15 h0_1 h0_1_0 h0_1_f1 h0_1_f2 h0_1_f3)) [0, 1] rfl
  have hDc := hD.sub (ws' := (wd_c_X11_isBoat_1 h0 h0_0 h0_1 h0_2 h0_3 h0_4 h0_f5 h0_6 h0_7 h0_8 h0_9 h0_10 h0_11 h0_12 h0_13 h0_14 h0_f15 h0_1 h0_1_0 h0_1_f1 h0_1_f2 h0_1_f3)) [0, 1] (by decide) rfl
  have hKc := hK.sub (tys' := []) [] rfl
  have hFc := va_free (wc := (wd_c_X11_isBoat_1 h0 h0_0 h0_1 h0_2 h0_3 h0_4 h0_f5 h0_6 h0_7 h0_8 h0_9 h0_10 h0_11 h0_12 h0_13 h0_14 h0_f15 h0_1 h0_1_0 h0_1_f1 h0_1_f2 h0_1_f3)) hD hS hA [0, 1] rfl
  refine va_calli (va_runV (As := [.int p2]) (rest := []) ⟨hx, hb, hml, hown, hts⟩ (c_X11_isBoat_1 l dC dI H.size h0 p2 h0_0 h0_1 h0_2 h0_3 h0_4 h0_f5 h0_6 h0_7 h0_8 h0_9 h0_10 h0_11 h0_12 h0_13 h0_14 h0_f15 h0_1_0 h0_1_f1 h0_1_f2 h0_1_f3 g_p2 g_h0_f5 g_h0_1_f1 g_h0_1_f2 g_h0_1_f3) (cwV 1 hts gf_c_X11_canRow_c_X11_isBoat_1 rfl rfl rfl (by decide +kernel) ⟨Nat.le_of_ble_eq_true rfl, Nat.le_of_ble_eq_true rfl⟩) ⟨fun a U g mk q => by obtain ⟨q0, q1, qP, qK, qD⟩ := q; exact ⟨q0, q1, qP, va_K.moved (u := U) (U := U.calling g mk a) (Vm.Alike.refl U.vm) qK, qD⟩, va_recv hKc hPc (ci := 11) (q0 := 0) rfl rfl, fun U hU hW => ⟨rfl, by rw [hU], by rw [hU]; exact hPc, va_K.moved hW.alike hKc, hDc.weaken (fun _ _ _ _ => trivial)⟩⟩ rfl rfl hl.1 rfl (lv_room (Nat.le_of_ble_eq_true rfl)) dX11_canRow_2 ⟨Nat.le_of_ble_eq_true rfl, Nat.le_of_ble_eq_true rfl⟩) hS (fun q _ h => hFc q h) hFc (fun r_1 u t H1 locs ht hvm hw hB hz1 hk1 hS => ?_)
  obtain ⟨hP1, hK1, hD1⟩ := hB
  rw [ht] at hP1
  obtain ⟨hP, hD⟩ := va_join (wr := [(h1, .inr (7, [.int h1_f0, .int h1_f1, .int h1_f2, .int h1_f3, .ref h1_4, .ref h1_5, .ref h1_6, .ref h1_7, .ref h1_8, .ref h1_9, .ref h1_10, .ref h1_11, .ref h1_12])), (h1_6, .inl (h1_6k, 3, .inl h1_6c)), (h1_7, .inl (h1_7k, 3, .inl h1_7c))]) (w1 := (wd_c_X11_isBoat_1 h0 h0_0 h0_1 h0_2 h0_3 h0_4 h0_f5 h0_6 h0_7 h0_8 h0_9 h0_10 h0_11 h0_12 h0_13 h0_14 h0_f15 h0_1 h0_1_0 h0_1_f1 h0_1_f2 h0_1_f3)) hP hD [0, 1] [2, 3, 4] rfl rfl (by decide) (by decide) hk1 hFc hP1 hD1
  have hP := hP.sub (ws' := (wd_c_X11_canRow h0 h0_0 h0_1 h0_2 h0_3 h0_4 h0_f5 h0_6 h0_7 h0_8 h0_9 h0_10 h0_11 h0_12 h0_13 h0_14 h0_f15 h0_1 h0_1_0 h0_1_f1 h0_1_f2 h0_1_f3 h1 h1_f0 h1_f1 h1_f2 h1_f3 h1_4 h1_5 h1_6 h1_7 h1_8 h1_9 h1_10 h1_11 h1_12 h1_6 h1_6k h1_6c h1_7 h1_7k h1_7c)) [3, 4, 0, 1, 2] rfl
  have hD := hD.sub (ws' := (wd_c_X11_canRow h0 h0_0 h0_1 h0_2 h0_3 h0_4 h0_f5 h0_6 h0_7 h0_8 h0_9 h0_10 h0_11 h0_12 h0_13 h0_14 h0_f15 h0_1 h0_1_0 h0_1_f1 h0_1_f2 h0_1_f3 h1 h1_f0 h1_f1 h1_f2 h1_f3 h1_4 h1_5 h1_6 h1_7 h1_8 h1_9 h1_10 h1_11 h1_12 h1_6 h1_6k h1_6c h1_7 h1_7k h1_7c)) [3, 4, 0, 1, 2] (by decide) rfl
  generalize H1 = H at hP hS ⊢
  rcases hw with h_2 | ⟨h_3, h_4, h_5⟩
  · rw [h_2]
    refine lv_if_eq (tgt := 29) hx hb dX11_canRow_5 rfl (fun c_6 => ?_) (fun c_6 => absurd c_6 (by decide))
    refine lv_iconst (v := 0) hx hb dX11_canRow_29 kc_iconst_0 ?_
    have hK9 := hK.sub (tys' := []) [] rfl
    exact W.zret (v := 0) hx hb hr rfl (fun t ht hW => ⟨⟨0, (), rfl, (Or.inl rfl), by rw [ht]; exact hP, va_K.moved hW.alike hK9, hD⟩, hS.F ht⟩) hS.2.2 dX11_canRow_30
  · rw [h_3]
    refine lv_if_eq (tgt := 29) hx hb dX11_canRow_5 rfl (fun c_7 => absurd c_7 (by decide)) (fun c_7 => ?_)
    refine lv_iload_n hx hb dX11_canRow_8 rfl (lv_at hl 3 rfl) ?_
    refine lv_iconst (v := 0) hx hb dX11_canRow_9 kc_iconst_0 ?_
    refine lv_bipush (v := 9) hx hb dX11_canRow_10 kc_bipush_9 ?_
    have hPc := hP.sub (ws' := []) [] rfl
    have hDc := hD.sub (ws' := []) [] (by decide) rfl
    have hKc := hK.sub (tys' := []) [] rfl
    have hFc := va_free (wc := []) hD hS hA [] rfl
    refine va_calli (va_runS (As := [.int p3, .int 0, .int 9]) (rest := []) ⟨hx, hb, hml, hown, hts⟩ (c_X11_isWithin_7 l dC dI H.size p3 g_p3) (va_cwS 3 hts gf_c_X11_canRow_c_X11_isWithin_7 rfl rfl rfl (by decide +kernel) ⟨Nat.le_of_ble_eq_true rfl, Nat.le_of_ble_eq_true rfl⟩) ⟨fun a U g mk q => by obtain ⟨q0, q1, qP, qK, qD⟩ := q; exact ⟨q0, q1, qP, va_K.moved (u := U) (U := U.calling g mk a) (Vm.Alike.refl U.vm) qK, qD⟩, fun U hU hW => ⟨rfl, by rw [hU], by rw [hU]; exact hPc, va_K.moved hW.alike hKc, hDc.weaken (fun _ _ _ _ => trivial)⟩⟩ rfl rfl hl.1 rfl (lv_room (Nat.le_of_ble_eq_true rfl)) dX11_canRow_12 ⟨Nat.le_of_ble_eq_true rfl, Nat.le_of_ble_eq_true rfl⟩) hS (fun q _ h => hFc q h) hFc (fun r_8 u t H1 locs ht hvm hw hB hz1 hk1 hS => ?_)
    obtain ⟨hP1, hK1, hD1⟩ := hB
    rw [ht] at hP1
    have hP := bv_still hP hk1
    generalize H1 = H at hP hS ⊢
    rcases hw with h_9 | ⟨h_10, h_11⟩
    · rw [h_9]
      refine lv_if_eq (tgt := 29) hx hb dX11_canRow_15 rfl (fun c_12 => ?_) (fun c_12 => absurd c_12 (by decide))
      refine lv_iconst (v := 0) hx hb dX11_canRow_29 kc_iconst_0 ?_
      have hK9 := hK.sub (tys' := []) [] rfl
      exact W.zret (v := 0) hx hb hr rfl (fun t ht hW => ⟨⟨0, (), rfl, (Or.inl rfl), by rw [ht]; exact hP, va_K.moved hW.alike hK9, hD⟩, hS.F ht⟩) hS.2.2 dX11_canRow_30
    · rw [h_10]
      refine lv_if_eq (tgt := 29) hx hb dX11_canRow_15 rfl (fun c_13 => absurd c_13 (by decide)) (fun c_13 => ?_)
      refine lv_iload hx hb dX11_canRow_18 (lv_at hl 4 rfl) ?_
      refine lv_iconst (v := 0) hx hb dX11_canRow_20 kc_iconst_0 ?_
      refine lv_bipush (v := 9) hx hb dX11_canRow_21 kc_bipush_9 ?_
      have hPc := hP.sub (ws' := []) [] rfl
      have hDc := hD.sub (ws' := []) [] (by decide) rfl
      have hKc := hK.sub (tys' := []) [] rfl
      have hFc := va_free (wc := []) hD hS hA [] rfl
      refine va_calli (va_runS (As := [.int p4, .int 0, .int 9]) (rest := []) ⟨hx, hb, hml, hown, hts⟩ (c_X11_isWithin_7 l dC dI H.size p4 g_p4) (va_cwS 3 hts gf_c_X11_canRow_c_X11_isWithin_7 rfl rfl rfl (by decide +kernel) ⟨Nat.le_of_ble_eq_true rfl, Nat.le_of_ble_eq_true rfl⟩) ⟨fun a U g mk q => by obtain ⟨q0, q1, qP, qK, qD⟩ := q; exact ⟨q0, q1, qP, va_K.moved (u := U) (U := U.calling g mk a) (Vm.Alike.refl U.vm) qK, qD⟩, fun U hU hW => ⟨rfl, by rw [hU], by rw [hU]; exact hPc, va_K.moved hW.alike hKc, hDc.weaken (fun _ _ _ _ => trivial)⟩⟩ rfl rfl hl.1 rfl (lv_room (Nat.le_of_ble_eq_true rfl)) dX11_canRow_23 ⟨Nat.le_of_ble_eq_true rfl, Nat.le_of_ble_eq_true rfl⟩) hS (fun q _ h => hFc q h) hFc (fun r_14 u t H1 locs ht hvm hw hB hz1 hk1 hS => ?_)
      obtain ⟨hP1, hK1, hD1⟩ := hB
      rw [ht] at hP1
      have hP := bv_still hP hk1
      generalize H1 = H at hP hS ⊢
      rcases hw with h_15 | ⟨h_16, h_17⟩
      · rw [h_15]
        refine lv_if_ne (tgt := 31) hx hb dX11_canRow_26 rfl (fun c_18 => absurd c_18 (by decide)) (fun c_18 => ?_)
        refine lv_iconst (v := 0) hx hb dX11_canRow_29 kc_iconst_0 ?_
        have hK9 := hK.sub (tys' := []) [] rfl
        exact W.zret (v := 0) hx hb hr rfl (fun t ht hW => ⟨⟨0, (), rfl, (Or.inl rfl), by rw [ht]; exact hP, va_K.moved hW.alike hK9, hD⟩, hS.F ht⟩) hS.2.2 dX11_canRow_30
      · rw [h_16]
        refine lv_if_ne (tgt := 31) hx hb dX11_canRow_26 rfl (fun c_19 => ?_) (fun c_19 => absurd c_19 (by decide))
        refine lv_iload_n hx hb dX11_canRow_31 rfl (lv_at hl 3 rfl) ?_
        refine lv_aload_n hx hb dX11_canRow_32 rfl (lv_at hl 1 rfl) ?_
        refine va_get (D := (dC, dI)) (ci := 7) (v := .ref h1_6) (C := RX7) (T := TX7) (N := 13) hx hb hts iw_c_X11_canRow_X7 hown hK hP 2 rfl rfl 6 (by decide) (hts (.fieldLink RX11 206 "BuoyVote$Sea" "goalX" "[I") (List.mem_of_getElem? (i := 11) rfl)) (fun _ h9 => h9) rfl dX11_canRow_33 ?_
        refine lv_iload_n hx hb dX11_canRow_36 rfl (lv_at hl 2 rfl) ?_
        refine va_iald hx hb hK hP 3 0 rfl rfl (RG_in h_5 (by decide)) dX11_canRow_37 ?_
        refine lv_topi (fun x_20 ex_20 => ?_)
        refine lv_icmp_ne (tgt := 52) hx hb dX11_canRow_38 rfl (fun c_21 => ?_) (fun c_21 => ?_)
        · exact hU _ _ _ (J52 g_h0_1_f1 h_4 g_h0_1_f3 g_h0_f5 h_5 h_11 h_17 _ _ _ hP hD hS (lv_sub hl [] rfl))
        · have g_22 : RG x_20 0 9 := RG_eq1 (RG_any x_20) h_11 c_21.symm (by decide)
          refine lv_iload hx hb dX11_canRow_41 (lv_at hl 4 rfl) ?_
          refine lv_aload_n hx hb dX11_canRow_43 rfl (lv_at hl 1 rfl) ?_
          refine va_get (D := (dC, dI)) (ci := 7) (v := .ref h1_7) (C := RX7) (T := TX7) (N := 13) hx hb hts iw_c_X11_canRow_X7 hown hK hP 2 rfl rfl 7 (by decide) (hts (.fieldLink RX11 209 "BuoyVote$Sea" "goalY" "[I") (List.mem_of_getElem? (i := 12) rfl)) (fun _ h9 => h9) rfl dX11_canRow_44 ?_
          refine lv_iload_n hx hb dX11_canRow_47 rfl (lv_at hl 2 rfl) ?_
          refine va_iald hx hb hK hP 4 1 rfl rfl (RG_in h_5 (by decide)) dX11_canRow_48 ?_
          refine lv_topi (fun x_23 ex_23 => ?_)
          refine lv_icmp_eq (tgt := 56) hx hb dX11_canRow_49 rfl (fun c_24 => ?_) (fun c_24 => ?_)
          · have g_25 : RG x_23 0 9 := RG_eq1 (RG_any x_23) h_17 c_24.symm (by decide)
            refine lv_iconst (v := 0) hx hb dX11_canRow_56 kc_iconst_0 ?_
            have hK9 := hK.sub (tys' := []) [] rfl
            exact W.zret (v := 0) hx hb hr rfl (fun t ht hW => ⟨⟨0, (), rfl, (Or.inl rfl), by rw [ht]; exact hP, va_K.moved hW.alike hK9, hD⟩, hS.F ht⟩) hS.2.2 dX11_canRow_57
          · exact hU _ _ _ (J52 g_h0_1_f1 h_4 g_h0_1_f3 g_h0_f5 h_5 h_11 h_17 _ _ _ hP hD hS (lv_sub hl [] rfl))
def wd_c_X11_isBuoy_1 (a0 : Nat) (a1 : Nat) (a2 : Nat) (a3 : Nat) (a4 : Nat) (a5 : Nat) (a6 : Int32) (a7 : Nat) (a8 : Nat) (a9 : Nat) (a10 : Nat) (a11 : Nat) (a12 : Nat) (a13 : Nat) (a14 : Nat) (a15 : Nat) (a16 : Int64) (a17 : Nat) (a18 : Nat) (a19 : Int32) (a20 : Int32) (a21 : Int32) : va_W := [(a0, .inr (11, [.ref a1, .ref a2, .ref a3, .ref a4, .ref a5, .int a6, .ref a7, .ref a8, .ref a9, .ref a10, .ref a11, .ref a12, .ref a13, .ref a14, .ref a15, .long a16])), (a17, .inr (0, [.ref a18, .int a19, .int a20, .int a21]))]
def wf_c_X11_isBuoy_1 : List Cond := .code yX11_isBuoy cX11_isBuoy 2 (some .boolean) :: ([.fieldLink RX11 19 "BuoyVote" "told" "LBuoyVote$Borough;", .fieldLink RX11 275 "BuoyVote$Borough" "buoys" "I"] ++ wsX110 ++ wsX00)
theorem iw_c_X11_isBuoy_1_X11 : ∀ w ∈ wsX110, w ∈ wf_c_X11_isBuoy_1 := fun w h => List.mem_cons_of_mem _ (List.mem_append_left _ (List.mem_append_right _ h))
theorem iw_c_X11_isBuoy_1_X0 : ∀ w ∈ wsX00, w ∈ wf_c_X11_isBuoy_1 := fun w h => List.mem_cons_of_mem _ (List.mem_append_right _ h)
set_option maxHeartbeats 4000000 in
set_option maxRecDepth 100000 in
theorem c_X11_isBuoy_1 (l : Launch) (dC : Nat → ClassId) (dI : Nat → Nat → Nat) (sz : Nat) (h0 : Nat) (p1 : Int32) (h0_0 : Nat) (h0_1 : Nat) (h0_2 : Nat) (h0_3 : Nat) (h0_4 : Nat) (h0_f5 : Int32) (h0_6 : Nat) (h0_7 : Nat) (h0_8 : Nat) (h0_9 : Nat) (h0_10 : Nat) (h0_11 : Nat) (h0_12 : Nat) (h0_13 : Nat) (h0_14 : Nat) (h0_f15 : Int64) (h0_1_0 : Nat) (h0_1_f1 : Int32) (h0_1_f2 : Int32) (h0_1_f3 : Int32) (g_p1 : RG p1 (-1) 99) (g_h0_f5 : RG h0_f5 0 4) (g_h0_1_f1 : RG h0_1_f1 0 8) (g_h0_1_f2 : RG h0_1_f2 0 3) (g_h0_1_f3 : RG h0_1_f3 0 1) : Met l yX11_isBuoy wf_c_X11_isBuoy_1 ({ frames := 0, cells := 0, slots := 0, locals := 0 }) (va_Pc [.ref h0, .int p1] (fun U => U.heap.size = sz ∧ va_P (dC, dI) vwCl (wd_c_X11_isBuoy_1 h0 h0_0 h0_1 h0_2 h0_3 h0_4 h0_f5 h0_6 h0_7 h0_8 h0_9 h0_10 h0_11 h0_12 h0_13 h0_14 h0_f15 h0_1 h0_1_0 h0_1_f1 h0_1_f2 h0_1_f3) U.heap ∧ va_K (dC, dI) vwCl [] U ∧ va_D (fun _ => True) (wd_c_X11_isBuoy_1 h0 h0_0 h0_1 h0_2 h0_3 h0_4 h0_f5 h0_6 h0_7 h0_8 h0_9 h0_10 h0_11 h0_12 h0_13 h0_14 h0_f15 h0_1 h0_1_0 h0_1_f1 h0_1_f2 h0_1_f3))) (va_Qi (fun (r : Int32) (u : Unit) => (r = 0) ∨ (r = 1 ∧ RG h0_1_f1 1 8 ∧ RG p1 0 7)) (fun (u : Unit) t => va_P (dC, dI) vwCl (wd_c_X11_isBuoy_1 h0 h0_0 h0_1 h0_2 h0_3 h0_4 h0_f5 h0_6 h0_7 h0_8 h0_9 h0_10 h0_11 h0_12 h0_13 h0_14 h0_f15 h0_1 h0_1_0 h0_1_f1 h0_1_f2 h0_1_f3) t.heap ∧ va_K (dC, dI) vwCl [] t ∧ va_D (va_A (wd_c_X11_isBuoy_1 h0 h0_0 h0_1 h0_2 h0_3 h0_4 h0_f5 h0_6 h0_7 h0_8 h0_9 h0_10 h0_11 h0_12 h0_13 h0_14 h0_f15 h0_1 h0_1_0 h0_1_f1 h0_1_f2 h0_1_f3) sz) (wd_c_X11_isBuoy_1 h0 h0_0 h0_1 h0_2 h0_3 h0_4 h0_f5 h0_6 h0_7 h0_8 h0_9 h0_10 h0_11 h0_12 h0_13 h0_14 h0_f15 h0_1 h0_1_0 h0_1_f1 h0_1_f2 h0_1_f3)) (va_A (wd_c_X11_isBuoy_1 h0 h0_0 h0_1 h0_2 h0_3 h0_4 h0_f5 h0_6 h0_7 h0_8 h0_9 h0_10 h0_11 h0_12 h0_13 h0_14 h0_f15 h0_1 h0_1_0 h0_1_f1 h0_1_f2 h0_1_f3) sz)) 0 0 (va_A (wd_c_X11_isBuoy_1 h0 h0_0 h0_1 h0_2 h0_3 h0_4 h0_f5 h0_6 h0_7 h0_8 h0_9 h0_10 h0_11 h0_12 h0_13 h0_14 h0_f15 h0_1 h0_1_0 h0_1_f1 h0_1_f2 h0_1_f3) sz) := by
  refine Met.ofW (cc := cX11_isBuoy) (maxL := 2) (ret := (some .boolean)) (by decide) rfl ?_
  intro p e s m args below meth c s₁ B hml hv
  obtain ⟨rfl, hsz, hP, hK, hD0⟩ := hv
  have hx := B.exec
  have hb := B.bytes
  have hr := B.returns
  have hts := atoms_spec (ws := wf_c_X11_isBuoy_1) B.pre
  have hown : s.vm.findClass RX11 = some m.cls := findClass_of_methodNamed B.named
  have hlocks := B.notSynchronized
  subst hsz
  have hD := hD0.self (sz := s.heap.size)
  generalize hAe : va_A (wd_c_X11_isBuoy_1 h0 h0_0 h0_1 h0_2 h0_3 h0_4 h0_f5 h0_6 h0_7 h0_8 h0_9 h0_10 h0_11 h0_12 h0_13 h0_14 h0_f15 h0_1 h0_1_0 h0_1_f1 h0_1_f2 h0_1_f3) s.heap.size = A at hD ⊢
  have hA : ∀ q : Nat, s.heap.size ≤ q → A q := fun q h => by rw [← hAe]; exact Or.inr h
  have hP : va_P (dC, dI) vwCl (wd_c_X11_isBuoy_1 h0 h0_0 h0_1 h0_2 h0_3 h0_4 h0_f5 h0_6 h0_7 h0_8 h0_9 h0_10 h0_11 h0_12 h0_13 h0_14 h0_f15 h0_1 h0_1_0 h0_1_f1 h0_1_f2 h0_1_f3) s.heap := hP
  have hl := lv_entry ([.ref h0, .int p1]) (n := 2) (Nat.le_of_ble_eq_true rfl)
  rw [lg_entry_eq]
  generalize (lg_sl ([.ref h0, .int p1]) ++ List.replicate (2 - (lg_sl ([.ref h0, .int p1])).length) Slot.unset).toArray = ls at hl ⊢
  have hl : lv_has ls 2 [(0, .ref h0), (1, .int p1)] := hl
  obtain ⟨H, hHe⟩ : ∃ H : Heap, s.heap = H := ⟨_, rfl⟩
  have hS : va_S A s.heap H [] := by rw [hHe]; exact va_S.rf
  have hP : va_P (dC, dI) vwCl (wd_c_X11_isBuoy_1 h0 h0_0 h0_1 h0_2 h0_3 h0_4 h0_f5 h0_6 h0_7 h0_8 h0_9 h0_10 h0_11 h0_12 h0_13 h0_14 h0_f15 h0_1 h0_1_0 h0_1_f1 h0_1_f2 h0_1_f3) H := by rw [← hHe]; exact hP
  rw [hHe]
  refine lv_iload_n hx hb dX11_isBuoy_0 rfl (lv_at hl 1 rfl) ?_
  refine lv_if_lt (tgt := 19) hx hb dX11_isBuoy_1 rfl (fun c_1 => ?_) (fun c_1 => ?_)
  · have g_2 : RG p1 (-1) (-1) := RG_lt1 g_p1 (RG_k 0 0 rfl) c_1 (by decide)
    refine lv_iconst (v := 0) hx hb dX11_isBuoy_19 kc_iconst_0 ?_
    have hK9 := hK.sub (tys' := []) [] rfl
    exact W.zret (v := 0) hx hb hr rfl (fun t ht hW => ⟨⟨0, (), rfl, (Or.inl rfl), by rw [ht]; exact hP, va_K.moved hW.alike hK9, hD⟩, hS.F ht⟩) hS.2.2 dX11_isBuoy_20
  · have d_3 := Int32.not_lt.mp c_1
    have g_4 : RG p1 0 99 := RG_le2 (RG_k 0 0 rfl) g_p1 d_3 (by decide)
    refine lv_iload_n hx hb dX11_isBuoy_4 rfl (lv_at hl 1 rfl) ?_
    refine lv_aload_n hx hb dX11_isBuoy_5 rfl (lv_at hl 0 rfl) ?_
    refine va_get (D := (dC, dI)) (ci := 11) (v := .ref h0_1) (C := RX11) (T := TX11) (N := 16) hx hb hts iw_c_X11_isBuoy_1_X11 hown hK hP 0 rfl rfl 1 (by decide) (hts (.fieldLink RX11 19 "BuoyVote" "told" "LBuoyVote$Borough;") (List.mem_of_getElem? (i := 1) rfl)) (fun _ h9 => h9) rfl dX11_isBuoy_6 ?_
    refine va_get (D := (dC, dI)) (ci := 0) (v := .int h0_1_f1) (C := RX0) (T := TX0) (N := 4) hx hb hts iw_c_X11_isBuoy_1_X0 hown hK hP 1 rfl rfl 1 (by decide) (hts (.fieldLink RX11 275 "BuoyVote$Borough" "buoys" "I") (List.mem_of_getElem? (i := 2) rfl)) (fun _ h9 => h9) rfl dX11_isBuoy_9 ?_
    refine lv_icmp_ge (tgt := 19) hx hb dX11_isBuoy_12 rfl (fun c_5 => ?_) (fun c_5 => ?_)
    · refine lv_iconst (v := 0) hx hb dX11_isBuoy_19 kc_iconst_0 ?_
      have hK9 := hK.sub (tys' := []) [] rfl
      exact W.zret (v := 0) hx hb hr rfl (fun t ht hW => ⟨⟨0, (), rfl, (Or.inl rfl), by rw [ht]; exact hP, va_K.moved hW.alike hK9, hD⟩, hS.F ht⟩) hS.2.2 dX11_isBuoy_20
    · have d_6 := Int32.not_le.mp c_5
      have g_7 : RG p1 0 7 := RG_lt1 g_4 g_h0_1_f1 d_6 (by decide)
      have g_8 : RG h0_1_f1 1 8 := RG_lt2 g_4 g_h0_1_f1 d_6 (by decide)
      refine lv_iconst (v := 1) hx hb dX11_isBuoy_15 kc_iconst_1 ?_
      refine lv_goto (tgt := 20) hx hb dX11_isBuoy_16 rfl ?_
      have hK9 := hK.sub (tys' := []) [] rfl
      exact W.zret (v := 1) hx hb hr rfl (fun t ht hW => ⟨⟨1, (), rfl, (Or.inr ⟨rfl, g_8, g_7⟩), by rw [ht]; exact hP, va_K.moved hW.alike hK9, hD⟩, hS.F ht⟩) hS.2.2 dX11_isBuoy_20
def wd_c_X11_isBeside (a0 : Nat) (a1 : Nat) (a2 : Nat) (a3 : Nat) (a4 : Nat) (a5 : Nat) (a6 : Int32) (a7 : Nat) (a8 : Nat) (a9 : Nat) (a10 : Nat) (a11 : Nat) (a12 : Nat) (a13 : Nat) (a14 : Nat) (a15 : Nat) (a16 : Int64) (a17 : Nat) (a18 : Nat) (a19 : Int32) (a20 : Int32) (a21 : Int32) (a22 : Nat) (a23 : ClassId) (a24 : Nat → Int32) (a25 : Nat) (a26 : Int32) (a27 : Int32) (a28 : Int32) (a29 : Int32) (a30 : Nat) (a31 : Nat) (a32 : Nat) (a33 : Nat) (a34 : Nat) (a35 : Nat) (a36 : Nat) (a37 : Nat) (a38 : Nat) (a39 : Nat) (a40 : ClassId) (a41 : Nat → Int32) (a42 : Nat) (a43 : ClassId) (a44 : Nat → Int32) : va_W := [(a0, .inr (11, [.ref a1, .ref a2, .ref a3, .ref a4, .ref a5, .int a6, .ref a7, .ref a8, .ref a9, .ref a10, .ref a11, .ref a12, .ref a13, .ref a14, .ref a15, .long a16])), (a17, .inr (0, [.ref a18, .int a19, .int a20, .int a21])), (a22, .inl (a23, 80, .inl a24)), (a25, .inr (7, [.int a26, .int a27, .int a28, .int a29, .ref a30, .ref a31, .ref a32, .ref a33, .ref a34, .ref a35, .ref a36, .ref a37, .ref a38])), (a39, .inl (a40, 3, .inl a41)), (a42, .inl (a43, 3, .inl a44))]
def wf_c_X11_isBeside : List Cond := .code yX11_isBeside cX11_isBeside 4 (some .boolean) :: ([.fieldLink RX11 19 "BuoyVote" "told" "LBuoyVote$Borough;", .methodLink RX11 169 yX0_buoyX, .instanceMethod yX0_buoyX, .selects RX0 yX0_buoyX yX0_buoyX, .initialized RX0, .code yX0_buoyX cX0_buoyX 2 (some .int), .fieldLink RX0 11 "BuoyVote$Borough" "values" "[I", .methodLink RX11 172 yX0_buoyY, .instanceMethod yX0_buoyY, .selects RX0 yX0_buoyY yX0_buoyY, .code yX0_buoyY cX0_buoyY 2 (some .int), .methodLink RX11 240 yX7_awayOf, .instanceMethod yX7_awayOf, .selects RX7 yX7_awayOf yX7_awayOf, .initialized RX7, .code yX7_awayOf cX7_awayOf 4 (some .int), .fieldLink RX7 9 "BuoyVote$Sea" "x" "[I", .methodLink RX7 99 Lib.Math.abs.name, .static Lib.Math.abs.name, .initialized "java/lang/Math", .code Lib.Math.abs.name Lib.Math.abs.code 1 (some .int), .fieldLink RX7 15 "BuoyVote$Sea" "y" "[I"] ++ wsX110 ++ wsX00 ++ wsX70)
theorem iw_c_X11_isBeside_X11 : ∀ w ∈ wsX110, w ∈ wf_c_X11_isBeside := fun w h => List.mem_cons_of_mem _ (List.mem_append_left _ (List.mem_append_left _ (List.mem_append_right _ h)))
theorem iw_c_X11_isBeside_X0 : ∀ w ∈ wsX00, w ∈ wf_c_X11_isBeside := fun w h => List.mem_cons_of_mem _ (List.mem_append_left _ (List.mem_append_right _ h))
theorem iw_c_X11_isBeside_X7 : ∀ w ∈ wsX70, w ∈ wf_c_X11_isBeside := fun w h => List.mem_cons_of_mem _ (List.mem_append_right _ h)
set_option maxRecDepth 20000 in
theorem gf_c_X11_isBeside_c_X0_buoyX : GoodIn wf_c_X11_isBeside (wsV RX11 169 RX0 yX0_buoyX wf_c_X0_buoyX) := goodIn_app (gi_cons (j := 2) rfl rfl (gi_cons (j := 3) rfl rfl (gi_cons (j := 4) rfl rfl (gi_cons (j := 5) rfl rfl (gi_nil))))) (gi_cons (j := 6) rfl rfl (goodIn_app (gi_cons (j := 7) rfl rfl (gi_nil)) (goodIn_sub iw_c_X11_isBeside_X0 gw_X0)))
set_option maxRecDepth 20000 in
theorem gf_c_X11_isBeside_c_X0_buoyY : GoodIn wf_c_X11_isBeside (wsV RX11 172 RX0 yX0_buoyY wf_c_X0_buoyY) := goodIn_app (gi_cons (j := 8) rfl rfl (gi_cons (j := 9) rfl rfl (gi_cons (j := 10) rfl rfl (gi_cons (j := 5) rfl rfl (gi_nil))))) (gi_cons (j := 11) rfl rfl (goodIn_app (gi_cons (j := 7) rfl rfl (gi_nil)) (goodIn_sub iw_c_X11_isBeside_X0 gw_X0)))
set_option maxRecDepth 20000 in
theorem gf_c_X11_isBeside_c_X7_awayOf : GoodIn wf_c_X11_isBeside (wsV RX11 240 RX7 yX7_awayOf wf_c_X7_awayOf) := goodIn_app (gi_cons (j := 12) rfl rfl (gi_cons (j := 13) rfl rfl (gi_cons (j := 14) rfl rfl (gi_cons (j := 15) rfl rfl (gi_nil))))) (gi_cons (j := 16) rfl rfl (goodIn_app (gi_cons (j := 17) rfl rfl (gi_cons (j := 18) rfl rfl (gi_cons (j := 19) rfl rfl (gi_cons (j := 20) rfl rfl (gi_cons (j := 21) rfl rfl (gi_cons (j := 22) rfl rfl (gi_nil))))))) (goodIn_sub iw_c_X11_isBeside_X7 gw_X7)))
set_option maxHeartbeats 4000000 in
set_option maxRecDepth 100000 in
theorem c_X11_isBeside (l : Launch) (dC : Nat → ClassId) (dI : Nat → Nat → Nat) (sz : Nat) (h0 : Nat) (h1 : Nat) (p2 : Int32) (p3 : Int32) (h0_0 : Nat) (h0_1 : Nat) (h0_2 : Nat) (h0_3 : Nat) (h0_4 : Nat) (h0_f5 : Int32) (h0_6 : Nat) (h0_7 : Nat) (h0_8 : Nat) (h0_9 : Nat) (h0_10 : Nat) (h0_11 : Nat) (h0_12 : Nat) (h0_13 : Nat) (h0_14 : Nat) (h0_f15 : Int64) (h0_1_0 : Nat) (h0_1_f1 : Int32) (h0_1_f2 : Int32) (h0_1_f3 : Int32) (h0_1_0k : ClassId) (h0_1_0c : Nat → Int32) (h1_f0 : Int32) (h1_f1 : Int32) (h1_f2 : Int32) (h1_f3 : Int32) (h1_4 : Nat) (h1_5 : Nat) (h1_6 : Nat) (h1_7 : Nat) (h1_8 : Nat) (h1_9 : Nat) (h1_10 : Nat) (h1_11 : Nat) (h1_12 : Nat) (h1_4k : ClassId) (h1_4c : Nat → Int32) (h1_5k : ClassId) (h1_5c : Nat → Int32) (g_p2 : RG p2 0 2) (g_p3 : RG p3 0 7) (g_h0_f5 : RG h0_f5 0 4) (g_h0_1_f1 : RG h0_1_f1 0 8) (g_h0_1_f2 : RG h0_1_f2 0 3) (g_h0_1_f3 : RG h0_1_f3 0 1) (a_h0_1_0c : AI h0_1_0c (-1) 99) : Met l yX11_isBeside wf_c_X11_isBeside ({ frames := 2, cells := 0, slots := 0, locals := 37 }) (va_Pc [.ref h0, .ref h1, .int p2, .int p3] (fun U => U.heap.size = sz ∧ va_P (dC, dI) vwCl (wd_c_X11_isBeside h0 h0_0 h0_1 h0_2 h0_3 h0_4 h0_f5 h0_6 h0_7 h0_8 h0_9 h0_10 h0_11 h0_12 h0_13 h0_14 h0_f15 h0_1 h0_1_0 h0_1_f1 h0_1_f2 h0_1_f3 h0_1_0 h0_1_0k h0_1_0c h1 h1_f0 h1_f1 h1_f2 h1_f3 h1_4 h1_5 h1_6 h1_7 h1_8 h1_9 h1_10 h1_11 h1_12 h1_4 h1_4k h1_4c h1_5 h1_5k h1_5c) U.heap ∧ va_K (dC, dI) vwCl [(h0_1_0k, .int), (h1_4k, .int), (h1_5k, .int)] U ∧ va_D (fun _ => True) (wd_c_X11_isBeside h0 h0_0 h0_1 h0_2 h0_3 h0_4 h0_f5 h0_6 h0_7 h0_8 h0_9 h0_10 h0_11 h0_12 h0_13 h0_14 h0_f15 h0_1 h0_1_0 h0_1_f1 h0_1_f2 h0_1_f3 h0_1_0 h0_1_0k h0_1_0c h1 h1_f0 h1_f1 h1_f2 h1_f3 h1_4 h1_5 h1_6 h1_7 h1_8 h1_9 h1_10 h1_11 h1_12 h1_4 h1_4k h1_4c h1_5 h1_5k h1_5c))) (va_Qi (fun (r : Int32) (u : Unit) => (r = 0) ∨ (r = 1)) (fun (u : Unit) t => va_P (dC, dI) vwCl (wd_c_X11_isBeside h0 h0_0 h0_1 h0_2 h0_3 h0_4 h0_f5 h0_6 h0_7 h0_8 h0_9 h0_10 h0_11 h0_12 h0_13 h0_14 h0_f15 h0_1 h0_1_0 h0_1_f1 h0_1_f2 h0_1_f3 h0_1_0 h0_1_0k h0_1_0c h1 h1_f0 h1_f1 h1_f2 h1_f3 h1_4 h1_5 h1_6 h1_7 h1_8 h1_9 h1_10 h1_11 h1_12 h1_4 h1_4k h1_4c h1_5 h1_5k h1_5c) t.heap ∧ va_K (dC, dI) vwCl [] t ∧ va_D (va_A (wd_c_X11_isBeside h0 h0_0 h0_1 h0_2 h0_3 h0_4 h0_f5 h0_6 h0_7 h0_8 h0_9 h0_10 h0_11 h0_12 h0_13 h0_14 h0_f15 h0_1 h0_1_0 h0_1_f1 h0_1_f2 h0_1_f3 h0_1_0 h0_1_0k h0_1_0c h1 h1_f0 h1_f1 h1_f2 h1_f3 h1_4 h1_5 h1_6 h1_7 h1_8 h1_9 h1_10 h1_11 h1_12 h1_4 h1_4k h1_4c h1_5 h1_5k h1_5c) sz) (wd_c_X11_isBeside h0 h0_0 h0_1 h0_2 h0_3 h0_4 h0_f5 h0_6 h0_7 h0_8 h0_9 h0_10 h0_11 h0_12 h0_13 h0_14 h0_f15 h0_1 h0_1_0 h0_1_f1 h0_1_f2 h0_1_f3 h0_1_0 h0_1_0k h0_1_0c h1 h1_f0 h1_f1 h1_f2 h1_f3 h1_4 h1_5 h1_6 h1_7 h1_8 h1_9 h1_10 h1_11 h1_12 h1_4 h1_4k h1_4c h1_5 h1_5k h1_5c)) (va_A (wd_c_X11_isBeside h0 h0_0 h0_1 h0_2 h0_3 h0_4 h0_f5 h0_6 h0_7 h0_8 h0_9 h0_10 h0_11 h0_12 h0_13 h0_14 h0_f15 h0_1 h0_1_0 h0_1_f1 h0_1_f2 h0_1_f3 h0_1_0 h0_1_0k h0_1_0c h1 h1_f0 h1_f1 h1_f2 h1_f3 h1_4 h1_5 h1_6 h1_7 h1_8 h1_9 h1_10 h1_11 h1_12 h1_4 h1_4k h1_4c h1_5 h1_5k h1_5c) sz)) 0 0 (va_A (wd_c_X11_isBeside h0 h0_0 h0_1 h0_2 h0_3 h0_4 h0_f5 h0_6 h0_7 h0_8 h0_9 h0_10 h0_11 h0_12 h0_13 h0_14 h0_f15 h0_1 h0_1_0 h0_1_f1 h0_1_f2 h0_1_f3 h0_1_0 h0_1_0k h0_1_0c h1 h1_f0 h1_f1 h1_f2 h1_f3 h1_4 h1_5 h1_6 h1_7 h1_8 h1_9 h1_10 h1_11 h1_12 h1_4 h1_4k h1_4c h1_5 h1_5k h1_5c) sz) := by
  refine Met.ofW (cc := cX11_isBeside) (maxL := 4) (ret := (some .boolean)) (by decide) rfl ?_
  intro p e s m args below meth c s₁ B hml hv
  obtain ⟨rfl, hsz, hP, hK, hD0⟩ := hv
  have hx := B.exec
  have hb := B.bytes
  have hr := B.returns
  have hts := atoms_spec (ws := wf_c_X11_isBeside) B.pre
  have hown : s.vm.findClass RX11 = some m.cls := findClass_of_methodNamed B.named
  have hlocks := B.notSynchronized
  subst hsz
  have hD := hD0.self (sz := s.heap.size)
  generalize hAe : va_A (wd_c_X11_isBeside h0 h0_0 h0_1 h0_2 h0_3 h0_4 h0_f5 h0_6 h0_7 h0_8 h0_9 h0_10 h0_11 h0_12 h0_13 h0_14 h0_f15 h0_1 h0_1_0 h0_1_f1 h0_1_f2 h0_1_f3 h0_1_0 h0_1_0k h0_1_0c h1 h1_f0 h1_f1 h1_f2 h1_f3 h1_4 h1_5 h1_6 h1_7 h1_8 h1_9 h1_10 h1_11 h1_12 h1_4 h1_4k h1_4c h1_5 h1_5k h1_5c) s.heap.size = A at hD ⊢
  have hA : ∀ q : Nat, s.heap.size ≤ q → A q := fun q h => by rw [← hAe]; exact Or.inr h
  have hP : va_P (dC, dI) vwCl (wd_c_X11_isBeside h0 h0_0 h0_1 h0_2 h0_3 h0_4 h0_f5 h0_6 h0_7 h0_8 h0_9 h0_10 h0_11 h0_12 h0_13 h0_14 h0_f15 h0_1 h0_1_0 h0_1_f1 h0_1_f2 h0_1_f3 h0_1_0 h0_1_0k h0_1_0c h1 h1_f0 h1_f1 h1_f2 h1_f3 h1_4 h1_5 h1_6 h1_7 h1_8 h1_9 h1_10 h1_11 h1_12 h1_4 h1_4k h1_4c h1_5 h1_5k h1_5c) s.heap := hP
  have hl := lv_entry ([.ref h0, .ref h1, .int p2, .int p3]) (n := 4) (Nat.le_of_ble_eq_true rfl)
  rw [lg_entry_eq]
  generalize (lg_sl ([.ref h0, .ref h1, .int p2, .int p3]) ++ List.replicate (4 - (lg_sl ([.ref h0, .ref h1, .int p2, .int p3])).length) Slot.unset).toArray = ls at hl ⊢
  have hl : lv_has ls 4 [(0, .ref h0), (1, .ref h1), (2, .int p2), (3, .int p3)] := hl
  obtain ⟨H, hHe⟩ : ∃ H : Heap, s.heap = H := ⟨_, rfl⟩
  have hS : va_S A s.heap H [] := by rw [hHe]; exact va_S.rf
  have hP : va_P (dC, dI) vwCl (wd_c_X11_isBeside h0 h0_0 h0_1 h0_2 h0_3 h0_4 h0_f5 h0_6 h0_7 h0_8 h0_9 h0_10 h0_11 h0_12 h0_13 h0_14 h0_f15 h0_1 h0_1_0 h0_1_f1 h0_1_f2 h0_1_f3 h0_1_0 h0_1_0k h0_1_0c h1 h1_f0 h1_f1 h1_f2 h1_f3 h1_4 h1_5 h1_6 h1_7 h1_8 h1_9 h1_10 h1_11 h1_12 h1_4 h1_4k h1_4c h1_5 h1_5k h1_5c) H := by rw [← hHe]; exact hP
  rw [hHe]
  refine lv_aload_n hx hb dX11_isBeside_0 rfl (lv_at hl 1 rfl) ?_
  refine lv_iload_n hx hb dX11_isBeside_1 rfl (lv_at hl 2 rfl) ?_
  refine lv_aload_n hx hb dX11_isBeside_2 rfl (lv_at hl 0 rfl) ?_
  refine va_get (D := (dC, dI)) (ci := 11) (v := .ref h0_1) (C := RX11) (T := TX11) (N := 16) hx hb hts iw_c_X11_isBeside_X11 hown hK hP 0 rfl rfl 1 (by decide) (hts (.fieldLink RX11 19 "BuoyVote" "told" "LBuoyVote$Borough;") (List.mem_of_getElem? (i := 1) rfl)) (fun _ h9 => h9) rfl dX11_isBeside_3 ?_
  refine lv_iload_n hx hb dX11_isBeside_6 rfl (lv_at hl 3 rfl) ?_
  have hPc := hP.sub (ws' := (wd_c_X0_buoyX h0_1 h0_1_0 h0_1_f1 h0_1_f2 h0_1_f3 h0_1_0 h0_1_0k h0_1_0c)) [1, 2] rfl
  have hDc := hD.sub (ws' := (wd_c_X0_buoyX h0_1 h0_1_0 h0_1_f1 h0_1_f2 h0_1_f3 h0_1_0 h0_1_0k h0_1_0c)) [1, 2] (by decide) rfl
  have hKc := hK.sub (tys' := [(h0_1_0k, .int)]) [0] rfl
  have hFc := va_free (wc := (wd_c_X0_buoyX h0_1 h0_1_0 h0_1_f1 h0_1_f2 h0_1_f3 h0_1_0 h0_1_0k h0_1_0c)) hD hS hA [1, 2] rfl
  refine va_calli (va_runV (As := [.int p3]) (rest := [.int p2, .ref h1]) ⟨hx, hb, hml, hown, hts⟩ (c_X0_buoyX l dC dI H.size h0_1 p3 h0_1_0 h0_1_f1 h0_1_f2 h0_1_f3 h0_1_0k h0_1_0c g_p3 g_h0_1_f1 g_h0_1_f2 g_h0_1_f3 a_h0_1_0c) (cwV 1 hts gf_c_X11_isBeside_c_X0_buoyX rfl rfl rfl (by decide +kernel) ⟨Nat.le_of_ble_eq_true rfl, Nat.le_of_ble_eq_true rfl⟩) ⟨fun a U g mk q => by obtain ⟨q0, q1, qP, qK, qD⟩ := q; exact ⟨q0, q1, qP, va_K.moved (u := U) (U := U.calling g mk a) (Vm.Alike.refl U.vm) qK, qD⟩, va_recv hKc hPc (ci := 0) (q0 := 0) rfl rfl, fun U hU hW => ⟨rfl, by rw [hU], by rw [hU]; exact hPc, va_K.moved hW.alike hKc, hDc.weaken (fun _ _ _ _ => trivial)⟩⟩ rfl rfl hl.1 rfl (lv_room (Nat.le_of_ble_eq_true rfl)) dX11_isBeside_7 ⟨Nat.le_of_ble_eq_true rfl, Nat.le_of_ble_eq_true rfl⟩) hS (fun q _ h => hFc q h) hFc (fun r_1 u t H1 locs ht hvm hw hB hz1 hk1 hS => ?_)
  obtain ⟨hP1, hK1, hD1⟩ := hB
  rw [ht] at hP1
  obtain ⟨hP, hD⟩ := va_join (wr := [(h0, .inr (11, [.ref h0_0, .ref h0_1, .ref h0_2, .ref h0_3, .ref h0_4, .int h0_f5, .ref h0_6, .ref h0_7, .ref h0_8, .ref h0_9, .ref h0_10, .ref h0_11, .ref h0_12, .ref h0_13, .ref h0_14, .long h0_f15])), (h1, .inr (7, [.int h1_f0, .int h1_f1, .int h1_f2, .int h1_f3, .ref h1_4, .ref h1_5, .ref h1_6, .ref h1_7, .ref h1_8, .ref h1_9, .ref h1_10, .ref h1_11, .ref h1_12])), (h1_4, .inl (h1_4k, 3, .inl h1_4c)), (h1_5, .inl (h1_5k, 3, .inl h1_5c))]) (w1 := (wd_c_X0_buoyX h0_1 h0_1_0 h0_1_f1 h0_1_f2 h0_1_f3 h0_1_0 h0_1_0k h0_1_0c)) hP hD [1, 2] [0, 3, 4, 5] rfl rfl (by decide) (by decide) hk1 hFc hP1 hD1
  have hP := hP.sub (ws' := (wd_c_X11_isBeside h0 h0_0 h0_1 h0_2 h0_3 h0_4 h0_f5 h0_6 h0_7 h0_8 h0_9 h0_10 h0_11 h0_12 h0_13 h0_14 h0_f15 h0_1 h0_1_0 h0_1_f1 h0_1_f2 h0_1_f3 h0_1_0 h0_1_0k h0_1_0c h1 h1_f0 h1_f1 h1_f2 h1_f3 h1_4 h1_5 h1_6 h1_7 h1_8 h1_9 h1_10 h1_11 h1_12 h1_4 h1_4k h1_4c h1_5 h1_5k h1_5c)) [0, 4, 5, 1, 2, 3] rfl
  have hD := hD.sub (ws' := (wd_c_X11_isBeside h0 h0_0 h0_1 h0_2 h0_3 h0_4 h0_f5 h0_6 h0_7 h0_8 h0_9 h0_10 h0_11 h0_12 h0_13 h0_14 h0_f15 h0_1 h0_1_0 h0_1_f1 h0_1_f2 h0_1_f3 h0_1_0 h0_1_0k h0_1_0c h1 h1_f0 h1_f1 h1_f2 h1_f3 h1_4 h1_5 h1_6 h1_7 h1_8 h1_9 h1_10 h1_11 h1_12 h1_4 h1_4k h1_4c h1_5 h1_5k h1_5c)) [0, 4, 5, 1, 2, 3] (by decide) rfl
  generalize H1 = H at hP hS ⊢
  have h_2 := hw
  refine lv_aload_n hx hb dX11_isBeside_10 rfl (lv_at hl 0 rfl) ?_
  refine va_get (D := (dC, dI)) (ci := 11) (v := .ref h0_1) (C := RX11) (T := TX11) (N := 16) hx hb hts iw_c_X11_isBeside_X11 hown hK hP 0 rfl rfl 1 (by decide) (hts (.fieldLink RX11 19 "BuoyVote" "told" "LBuoyVote$Borough;") (List.mem_of_getElem? (i := 1) rfl)) (fun _ h9 => h9) rfl dX11_isBeside_11 ?_
  refine lv_iload_n hx hb dX11_isBeside_14 rfl (lv_at hl 3 rfl) ?_
  have hPc := hP.sub (ws' := (wd_c_X0_buoyY h0_1 h0_1_0 h0_1_f1 h0_1_f2 h0_1_f3 h0_1_0 h0_1_0k h0_1_0c)) [1, 2] rfl
  have hDc := hD.sub (ws' := (wd_c_X0_buoyY h0_1 h0_1_0 h0_1_f1 h0_1_f2 h0_1_f3 h0_1_0 h0_1_0k h0_1_0c)) [1, 2] (by decide) rfl
  have hKc := hK.sub (tys' := [(h0_1_0k, .int)]) [0] rfl
  have hFc := va_free (wc := (wd_c_X0_buoyY h0_1 h0_1_0 h0_1_f1 h0_1_f2 h0_1_f3 h0_1_0 h0_1_0k h0_1_0c)) hD hS hA [1, 2] rfl
  refine va_calli (va_runV (As := [.int p3]) (rest := [.int r_1, .int p2, .ref h1]) ⟨hx, hb, hml, hown, hts⟩ (c_X0_buoyY l dC dI H.size h0_1 p3 h0_1_0 h0_1_f1 h0_1_f2 h0_1_f3 h0_1_0k h0_1_0c g_p3 g_h0_1_f1 g_h0_1_f2 g_h0_1_f3 a_h0_1_0c) (cwV 1 hts gf_c_X11_isBeside_c_X0_buoyY rfl rfl rfl (by decide +kernel) ⟨Nat.le_of_ble_eq_true rfl, Nat.le_of_ble_eq_true rfl⟩) ⟨fun a U g mk q => by obtain ⟨q0, q1, qP, qK, qD⟩ := q; exact ⟨q0, q1, qP, va_K.moved (u := U) (U := U.calling g mk a) (Vm.Alike.refl U.vm) qK, qD⟩, va_recv hKc hPc (ci := 0) (q0 := 0) rfl rfl, fun U hU hW => ⟨rfl, by rw [hU], by rw [hU]; exact hPc, va_K.moved hW.alike hKc, hDc.weaken (fun _ _ _ _ => trivial)⟩⟩ rfl rfl hl.1 rfl (lv_room (Nat.le_of_ble_eq_true rfl)) dX11_isBeside_15 ⟨Nat.le_of_ble_eq_true rfl, Nat.le_of_ble_eq_true rfl⟩) hS (fun q _ h => hFc q h) hFc (fun r_3 u t H1 locs ht hvm hw hB hz1 hk1 hS => ?_)
  obtain ⟨hP1, hK1, hD1⟩ := hB
  rw [ht] at hP1
  obtain ⟨hP, hD⟩ := va_join (wr := [(h0, .inr (11, [.ref h0_0, .ref h0_1, .ref h0_2, .ref h0_3, .ref h0_4, .int h0_f5, .ref h0_6, .ref h0_7, .ref h0_8, .ref h0_9, .ref h0_10, .ref h0_11, .ref h0_12, .ref h0_13, .ref h0_14, .long h0_f15])), (h1, .inr (7, [.int h1_f0, .int h1_f1, .int h1_f2, .int h1_f3, .ref h1_4, .ref h1_5, .ref h1_6, .ref h1_7, .ref h1_8, .ref h1_9, .ref h1_10, .ref h1_11, .ref h1_12])), (h1_4, .inl (h1_4k, 3, .inl h1_4c)), (h1_5, .inl (h1_5k, 3, .inl h1_5c))]) (w1 := (wd_c_X0_buoyY h0_1 h0_1_0 h0_1_f1 h0_1_f2 h0_1_f3 h0_1_0 h0_1_0k h0_1_0c)) hP hD [1, 2] [0, 3, 4, 5] rfl rfl (by decide) (by decide) hk1 hFc hP1 hD1
  have hP := hP.sub (ws' := (wd_c_X11_isBeside h0 h0_0 h0_1 h0_2 h0_3 h0_4 h0_f5 h0_6 h0_7 h0_8 h0_9 h0_10 h0_11 h0_12 h0_13 h0_14 h0_f15 h0_1 h0_1_0 h0_1_f1 h0_1_f2 h0_1_f3 h0_1_0 h0_1_0k h0_1_0c h1 h1_f0 h1_f1 h1_f2 h1_f3 h1_4 h1_5 h1_6 h1_7 h1_8 h1_9 h1_10 h1_11 h1_12 h1_4 h1_4k h1_4c h1_5 h1_5k h1_5c)) [0, 4, 5, 1, 2, 3] rfl
  have hD := hD.sub (ws' := (wd_c_X11_isBeside h0 h0_0 h0_1 h0_2 h0_3 h0_4 h0_f5 h0_6 h0_7 h0_8 h0_9 h0_10 h0_11 h0_12 h0_13 h0_14 h0_f15 h0_1 h0_1_0 h0_1_f1 h0_1_f2 h0_1_f3 h0_1_0 h0_1_0k h0_1_0c h1 h1_f0 h1_f1 h1_f2 h1_f3 h1_4 h1_5 h1_6 h1_7 h1_8 h1_9 h1_10 h1_11 h1_12 h1_4 h1_4k h1_4c h1_5 h1_5k h1_5c)) [0, 4, 5, 1, 2, 3] (by decide) rfl
  generalize H1 = H at hP hS ⊢
  have h_4 := hw
  have hPc := hP.sub (ws' := (wd_c_X7_awayOf h1 h1_f0 h1_f1 h1_f2 h1_f3 h1_4 h1_5 h1_6 h1_7 h1_8 h1_9 h1_10 h1_11 h1_12 h1_4 h1_4k h1_4c h1_5 h1_5k h1_5c)) [3, 4, 5] rfl
  have hDc := hD.sub (ws' := (wd_c_X7_awayOf h1 h1_f0 h1_f1 h1_f2 h1_f3 h1_4 h1_5 h1_6 h1_7 h1_8 h1_9 h1_10 h1_11 h1_12 h1_4 h1_4k h1_4c h1_5 h1_5k h1_5c)) [3, 4, 5] (by decide) rfl
  have hKc := hK.sub (tys' := [(h1_4k, .int), (h1_5k, .int)]) [1, 2] rfl
  have hFc := va_free (wc := (wd_c_X7_awayOf h1 h1_f0 h1_f1 h1_f2 h1_f3 h1_4 h1_5 h1_6 h1_7 h1_8 h1_9 h1_10 h1_11 h1_12 h1_4 h1_4k h1_4c h1_5 h1_5k h1_5c)) hD hS hA [3, 4, 5] rfl
  refine va_calli (va_runV (As := [.int p2, .int r_1, .int r_3]) (rest := []) ⟨hx, hb, hml, hown, hts⟩ (c_X7_awayOf l dC dI H.size h1 p2 r_1 r_3 h1_f0 h1_f1 h1_f2 h1_f3 h1_4 h1_5 h1_6 h1_7 h1_8 h1_9 h1_10 h1_11 h1_12 h1_4k h1_4c h1_5k h1_5c g_p2 h_2 h_4) (cwV 3 hts gf_c_X11_isBeside_c_X7_awayOf rfl rfl rfl (by decide +kernel) ⟨Nat.le_of_ble_eq_true rfl, Nat.le_of_ble_eq_true rfl⟩) ⟨fun a U g mk q => by obtain ⟨q0, q1, qP, qK, qD⟩ := q; exact ⟨q0, q1, qP, va_K.moved (u := U) (U := U.calling g mk a) (Vm.Alike.refl U.vm) qK, qD⟩, va_recv hKc hPc (ci := 7) (q0 := 0) rfl rfl, fun U hU hW => ⟨rfl, by rw [hU], by rw [hU]; exact hPc, va_K.moved hW.alike hKc, hDc.weaken (fun _ _ _ _ => trivial)⟩⟩ rfl rfl hl.1 rfl (lv_room (Nat.le_of_ble_eq_true rfl)) dX11_isBeside_18 ⟨Nat.le_of_ble_eq_true rfl, Nat.le_of_ble_eq_true rfl⟩) hS (fun q _ h => hFc q h) hFc (fun r_5 u t H1 locs ht hvm hw hB hz1 hk1 hS => ?_)
  obtain ⟨hP1, hK1, hD1⟩ := hB
  rw [ht] at hP1
  obtain ⟨hP, hD⟩ := va_join (wr := [(h0, .inr (11, [.ref h0_0, .ref h0_1, .ref h0_2, .ref h0_3, .ref h0_4, .int h0_f5, .ref h0_6, .ref h0_7, .ref h0_8, .ref h0_9, .ref h0_10, .ref h0_11, .ref h0_12, .ref h0_13, .ref h0_14, .long h0_f15])), (h0_1, .inr (0, [.ref h0_1_0, .int h0_1_f1, .int h0_1_f2, .int h0_1_f3])), (h0_1_0, .inl (h0_1_0k, 80, .inl h0_1_0c))]) (w1 := (wd_c_X7_awayOf h1 h1_f0 h1_f1 h1_f2 h1_f3 h1_4 h1_5 h1_6 h1_7 h1_8 h1_9 h1_10 h1_11 h1_12 h1_4 h1_4k h1_4c h1_5 h1_5k h1_5c)) hP hD [3, 4, 5] [0, 1, 2] rfl rfl (by decide) (by decide) hk1 hFc hP1 hD1
  have hP := hP.sub (ws' := (wd_c_X11_isBeside h0 h0_0 h0_1 h0_2 h0_3 h0_4 h0_f5 h0_6 h0_7 h0_8 h0_9 h0_10 h0_11 h0_12 h0_13 h0_14 h0_f15 h0_1 h0_1_0 h0_1_f1 h0_1_f2 h0_1_f3 h0_1_0 h0_1_0k h0_1_0c h1 h1_f0 h1_f1 h1_f2 h1_f3 h1_4 h1_5 h1_6 h1_7 h1_8 h1_9 h1_10 h1_11 h1_12 h1_4 h1_4k h1_4c h1_5 h1_5k h1_5c)) [0, 1, 2, 3, 4, 5] rfl
  have hD := hD.sub (ws' := (wd_c_X11_isBeside h0 h0_0 h0_1 h0_2 h0_3 h0_4 h0_f5 h0_6 h0_7 h0_8 h0_9 h0_10 h0_11 h0_12 h0_13 h0_14 h0_f15 h0_1 h0_1_0 h0_1_f1 h0_1_f2 h0_1_f3 h0_1_0 h0_1_0k h0_1_0c h1 h1_f0 h1_f1 h1_f2 h1_f3 h1_4 h1_5 h1_6 h1_7 h1_8 h1_9 h1_10 h1_11 h1_12 h1_4 h1_4k h1_4c h1_5 h1_5k h1_5c)) [0, 1, 2, 3, 4, 5] (by decide) rfl
  generalize H1 = H at hP hS ⊢
  have h_6 := hw
  refine lv_iconst (v := 1) hx hb dX11_isBeside_21 kc_iconst_1 ?_
  refine lv_icmp_gt (tgt := 29) hx hb dX11_isBeside_22 rfl (fun c_7 => ?_) (fun c_7 => ?_)
  · have g_8 : RG r_5 2 2147483647 := RG_lt2 (RG_k 1 1 rfl) h_6 c_7 (by decide)
    refine lv_iconst (v := 0) hx hb dX11_isBeside_29 kc_iconst_0 ?_
    have hK9 := hK.sub (tys' := []) [] rfl
    exact W.zret (v := 0) hx hb hr rfl (fun t ht hW => ⟨⟨0, (), rfl, (Or.inl rfl), by rw [ht]; exact hP, va_K.moved hW.alike hK9, hD⟩, hS.F ht⟩) hS.2.2 dX11_isBeside_30
  · have d_9 := Int32.not_lt.mp c_7
    have g_10 : RG r_5 (-2147483648) 1 := RG_le1 h_6 (RG_k 1 1 rfl) d_9 (by decide)
    refine lv_iconst (v := 1) hx hb dX11_isBeside_25 kc_iconst_1 ?_
    refine lv_goto (tgt := 30) hx hb dX11_isBeside_26 rfl ?_
    have hK9 := hK.sub (tys' := []) [] rfl
    exact W.zret (v := 1) hx hb hr rfl (fun t ht hW => ⟨⟨1, (), rfl, (Or.inr rfl), by rw [ht]; exact hP, va_K.moved hW.alike hK9, hD⟩, hS.F ht⟩) hS.2.2 dX11_isBeside_30
def wd_c_X11_canSing (a0 : Nat) (a1 : Nat) (a2 : Nat) (a3 : Nat) (a4 : Nat) (a5 : Nat) (a6 : Int32) (a7 : Nat) (a8 : Nat) (a9 : Nat) (a10 : Nat) (a11 : Nat) (a12 : Nat) (a13 : Nat) (a14 : Nat) (a15 : Nat) (a16 : Int64) (a17 : Nat) (a18 : Nat) (a19 : Int32) (a20 : Int32) (a21 : Int32) (a22 : Nat) (a23 : ClassId) (a24 : Nat → Int32) (a25 : Nat) (a26 : Int32) (a27 : Int32) (a28 : Int32) (a29 : Int32) (a30 : Nat) (a31 : Nat) (a32 : Nat) (a33 : Nat) (a34 : Nat) (a35 : Nat) (a36 : Nat) (a37 : Nat) (a38 : Nat) (a39 : Nat) (a40 : ClassId) (a41 : Nat → Int32) (a42 : Nat) (a43 : ClassId) (a44 : Nat → Int32) (a45 : Nat) (a46 : ClassId) (a47 : Nat → Int32) : va_W := [(a0, .inr (11, [.ref a1, .ref a2, .ref a3, .ref a4, .ref a5, .int a6, .ref a7, .ref a8, .ref a9, .ref a10, .ref a11, .ref a12, .ref a13, .ref a14, .ref a15, .long a16])), (a17, .inr (0, [.ref a18, .int a19, .int a20, .int a21])), (a22, .inl (a23, 80, .inl a24)), (a25, .inr (7, [.int a26, .int a27, .int a28, .int a29, .ref a30, .ref a31, .ref a32, .ref a33, .ref a34, .ref a35, .ref a36, .ref a37, .ref a38])), (a39, .inl (a40, 3, .inl a41)), (a42, .inl (a43, 3, .inl a44)), (a45, .inl (a46, 24, .inl a47))]
def wf_c_X11_canSing : List Cond := .code yX11_canSing cX11_canSing 4 (some .boolean) :: ([.methodLink RX11 191 yX11_isBoat, .instanceMethod yX11_isBoat, .selects RX11 yX11_isBoat yX11_isBoat, .initialized RX11, .code yX11_isBoat cX11_isBoat 2 (some .boolean), .fieldLink RX11 19 "BuoyVote" "told" "LBuoyVote$Borough;", .fieldLink RX11 272 "BuoyVote$Borough" "boats" "I", .methodLink RX11 163 yX11_isBuoy, .instanceMethod yX11_isBuoy, .selects RX11 yX11_isBuoy yX11_isBuoy, .code yX11_isBuoy cX11_isBuoy 2 (some .boolean), .fieldLink RX11 275 "BuoyVote$Borough" "buoys" "I", .methodLink RX11 416 yX11_isBeside, .instanceMethod yX11_isBeside, .selects RX11 yX11_isBeside yX11_isBeside, .code yX11_isBeside cX11_isBeside 4 (some .boolean), .methodLink RX11 169 yX0_buoyX, .instanceMethod yX0_buoyX, .selects RX0 yX0_buoyX yX0_buoyX, .initialized RX0, .code yX0_buoyX cX0_buoyX 2 (some .int), .fieldLink RX0 11 "BuoyVote$Borough" "values" "[I", .methodLink RX11 172 yX0_buoyY, .instanceMethod yX0_buoyY, .selects RX0 yX0_buoyY yX0_buoyY, .code yX0_buoyY cX0_buoyY 2 (some .int), .methodLink RX11 240 yX7_awayOf, .instanceMethod yX7_awayOf, .selects RX7 yX7_awayOf yX7_awayOf, .initialized RX7, .code yX7_awayOf cX7_awayOf 4 (some .int), .fieldLink RX7 9 "BuoyVote$Sea" "x" "[I", .methodLink RX7 99 Lib.Math.abs.name, .static Lib.Math.abs.name, .initialized "java/lang/Math", .code Lib.Math.abs.name Lib.Math.abs.code 1 (some .int), .fieldLink RX7 15 "BuoyVote$Sea" "y" "[I", .fieldLink RX11 188 "BuoyVote$Sea" "liking" "[I"] ++ wsX110 ++ wsX00 ++ wsX70)
theorem iw_c_X11_canSing_X11 : ∀ w ∈ wsX110, w ∈ wf_c_X11_canSing := fun w h => List.mem_cons_of_mem _ (List.mem_append_left _ (List.mem_append_left _ (List.mem_append_right _ h)))
theorem iw_c_X11_canSing_X0 : ∀ w ∈ wsX00, w ∈ wf_c_X11_canSing := fun w h => List.mem_cons_of_mem _ (List.mem_append_left _ (List.mem_append_right _ h))
theorem iw_c_X11_canSing_X7 : ∀ w ∈ wsX70, w ∈ wf_c_X11_canSing := fun w h => List.mem_cons_of_mem _ (List.mem_append_right _ h)
set_option maxRecDepth 20000 in
theorem gf_c_X11_canSing_c_X11_isBoat_1 : GoodIn wf_c_X11_canSing (wsV RX11 191 RX11 yX11_isBoat wf_c_X11_isBoat_1) := goodIn_app (gi_cons (j := 1) rfl rfl (gi_cons (j := 2) rfl rfl (gi_cons (j := 3) rfl rfl (gi_cons (j := 4) rfl rfl (gi_nil))))) (gi_cons (j := 5) rfl rfl (goodIn_app (goodIn_app (gi_cons (j := 6) rfl rfl (gi_cons (j := 7) rfl rfl (gi_nil))) (goodIn_sub iw_c_X11_canSing_X11 gw_X11)) (goodIn_sub iw_c_X11_canSing_X0 gw_X0)))
set_option maxRecDepth 20000 in
theorem gf_c_X11_canSing_c_X11_isBuoy_1 : GoodIn wf_c_X11_canSing (wsV RX11 163 RX11 yX11_isBuoy wf_c_X11_isBuoy_1) := goodIn_app (gi_cons (j := 8) rfl rfl (gi_cons (j := 9) rfl rfl (gi_cons (j := 10) rfl rfl (gi_cons (j := 4) rfl rfl (gi_nil))))) (gi_cons (j := 11) rfl rfl (goodIn_app (goodIn_app (gi_cons (j := 6) rfl rfl (gi_cons (j := 12) rfl rfl (gi_nil))) (goodIn_sub iw_c_X11_canSing_X11 gw_X11)) (goodIn_sub iw_c_X11_canSing_X0 gw_X0)))
set_option maxRecDepth 20000 in
theorem gf_c_X11_canSing_c_X11_isBeside : GoodIn wf_c_X11_canSing (wsV RX11 416 RX11 yX11_isBeside wf_c_X11_isBeside) := goodIn_app (gi_cons (j := 13) rfl rfl (gi_cons (j := 14) rfl rfl (gi_cons (j := 15) rfl rfl (gi_cons (j := 4) rfl rfl (gi_nil))))) (gi_cons (j := 16) rfl rfl (goodIn_app (goodIn_app (goodIn_app (gi_cons (j := 6) rfl rfl (gi_cons (j := 17) rfl rfl (gi_cons (j := 18) rfl rfl (gi_cons (j := 19) rfl rfl (gi_cons (j := 20) rfl rfl (gi_cons (j := 21) rfl rfl (gi_cons (j := 22) rfl rfl (gi_cons (j := 23) rfl rfl (gi_cons (j := 24) rfl rfl (gi_cons (j := 25) rfl rfl (gi_cons (j := 26) rfl rfl (gi_cons (j := 27) rfl rfl (gi_cons (j := 28) rfl rfl (gi_cons (j := 29) rfl rfl (gi_cons (j := 30) rfl rfl (gi_cons (j := 31) rfl rfl (gi_cons (j := 32) rfl rfl (gi_cons (j := 33) rfl rfl (gi_cons (j := 34) rfl rfl (gi_cons (j := 35) rfl rfl (gi_cons (j := 36) rfl rfl (gi_cons (j := 37) rfl rfl (gi_nil))))))))))))))))))))))) (goodIn_sub iw_c_X11_canSing_X11 gw_X11)) (goodIn_sub iw_c_X11_canSing_X0 gw_X0)) (goodIn_sub iw_c_X11_canSing_X7 gw_X7)))
set_option maxHeartbeats 4000000 in
set_option maxRecDepth 100000 in
theorem c_X11_canSing (l : Launch) (dC : Nat → ClassId) (dI : Nat → Nat → Nat) (sz : Nat) (h0 : Nat) (h1 : Nat) (p2 : Int32) (p3 : Int32) (h0_0 : Nat) (h0_1 : Nat) (h0_2 : Nat) (h0_3 : Nat) (h0_4 : Nat) (h0_f5 : Int32) (h0_6 : Nat) (h0_7 : Nat) (h0_8 : Nat) (h0_9 : Nat) (h0_10 : Nat) (h0_11 : Nat) (h0_12 : Nat) (h0_13 : Nat) (h0_14 : Nat) (h0_f15 : Int64) (h0_1_0 : Nat) (h0_1_f1 : Int32) (h0_1_f2 : Int32) (h0_1_f3 : Int32) (h0_1_0k : ClassId) (h0_1_0c : Nat → Int32) (h1_f0 : Int32) (h1_f1 : Int32) (h1_f2 : Int32) (h1_f3 : Int32) (h1_4 : Nat) (h1_5 : Nat) (h1_6 : Nat) (h1_7 : Nat) (h1_8 : Nat) (h1_9 : Nat) (h1_10 : Nat) (h1_11 : Nat) (h1_12 : Nat) (h1_4k : ClassId) (h1_4c : Nat → Int32) (h1_5k : ClassId) (h1_5c : Nat → Int32) (h1_10k : ClassId) (h1_10c : Nat → Int32) (g_p2 : RG p2 (-1) 99) (g_p3 : RG p3 (-1) 99) (g_h0_f5 : RG h0_f5 0 4) (g_h0_1_f1 : RG h0_1_f1 0 8) (g_h0_1_f2 : RG h0_1_f2 0 3) (g_h0_1_f3 : RG h0_1_f3 0 1) (a_h0_1_0c : AI h0_1_0c (-1) 99) : Met l yX11_canSing wf_c_X11_canSing ({ frames := 3, cells := 0, slots := 0, locals := 60 }) (va_Pc [.ref h0, .ref h1, .int p2, .int p3] (fun U => U.heap.size = sz ∧ va_P (dC, dI) vwCl (wd_c_X11_canSing h0 h0_0 h0_1 h0_2 h0_3 h0_4 h0_f5 h0_6 h0_7 h0_8 h0_9 h0_10 h0_11 h0_12 h0_13 h0_14 h0_f15 h0_1 h0_1_0 h0_1_f1 h0_1_f2 h0_1_f3 h0_1_0 h0_1_0k h0_1_0c h1 h1_f0 h1_f1 h1_f2 h1_f3 h1_4 h1_5 h1_6 h1_7 h1_8 h1_9 h1_10 h1_11 h1_12 h1_4 h1_4k h1_4c h1_5 h1_5k h1_5c h1_10 h1_10k h1_10c) U.heap ∧ va_K (dC, dI) vwCl [(h0_1_0k, .int), (h1_4k, .int), (h1_5k, .int), (h1_10k, .int)] U ∧ va_D (fun _ => True) (wd_c_X11_canSing h0 h0_0 h0_1 h0_2 h0_3 h0_4 h0_f5 h0_6 h0_7 h0_8 h0_9 h0_10 h0_11 h0_12 h0_13 h0_14 h0_f15 h0_1 h0_1_0 h0_1_f1 h0_1_f2 h0_1_f3 h0_1_0 h0_1_0k h0_1_0c h1 h1_f0 h1_f1 h1_f2 h1_f3 h1_4 h1_5 h1_6 h1_7 h1_8 h1_9 h1_10 h1_11 h1_12 h1_4 h1_4k h1_4c h1_5 h1_5k h1_5c h1_10 h1_10k h1_10c))) (va_Qi (fun (r : Int32) (u : Unit) => (r = 0) ∨ (r = 1 ∧ RG h0_1_f1 1 8 ∧ RG h0_1_f2 1 3 ∧ RG p2 0 2 ∧ RG p3 0 7)) (fun (u : Unit) t => va_P (dC, dI) vwCl (wd_c_X11_canSing h0 h0_0 h0_1 h0_2 h0_3 h0_4 h0_f5 h0_6 h0_7 h0_8 h0_9 h0_10 h0_11 h0_12 h0_13 h0_14 h0_f15 h0_1 h0_1_0 h0_1_f1 h0_1_f2 h0_1_f3 h0_1_0 h0_1_0k h0_1_0c h1 h1_f0 h1_f1 h1_f2 h1_f3 h1_4 h1_5 h1_6 h1_7 h1_8 h1_9 h1_10 h1_11 h1_12 h1_4 h1_4k h1_4c h1_5 h1_5k h1_5c h1_10 h1_10k h1_10c) t.heap ∧ va_K (dC, dI) vwCl [] t ∧ va_D (va_A (wd_c_X11_canSing h0 h0_0 h0_1 h0_2 h0_3 h0_4 h0_f5 h0_6 h0_7 h0_8 h0_9 h0_10 h0_11 h0_12 h0_13 h0_14 h0_f15 h0_1 h0_1_0 h0_1_f1 h0_1_f2 h0_1_f3 h0_1_0 h0_1_0k h0_1_0c h1 h1_f0 h1_f1 h1_f2 h1_f3 h1_4 h1_5 h1_6 h1_7 h1_8 h1_9 h1_10 h1_11 h1_12 h1_4 h1_4k h1_4c h1_5 h1_5k h1_5c h1_10 h1_10k h1_10c) sz) (wd_c_X11_canSing h0 h0_0 h0_1 h0_2 h0_3 h0_4 h0_f5 h0_6 h0_7 h0_8 h0_9 h0_10 h0_11 h0_12 h0_13 h0_14 h0_f15 h0_1 h0_1_0 h0_1_f1 h0_1_f2 h0_1_f3 h0_1_0 h0_1_0k h0_1_0c h1 h1_f0 h1_f1 h1_f2 h1_f3 h1_4 h1_5 h1_6 h1_7 h1_8 h1_9 h1_10 h1_11 h1_12 h1_4 h1_4k h1_4c h1_5 h1_5k h1_5c h1_10 h1_10k h1_10c)) (va_A (wd_c_X11_canSing h0 h0_0 h0_1 h0_2 h0_3 h0_4 h0_f5 h0_6 h0_7 h0_8 h0_9 h0_10 h0_11 h0_12 h0_13 h0_14 h0_f15 h0_1 h0_1_0 h0_1_f1 h0_1_f2 h0_1_f3 h0_1_0 h0_1_0k h0_1_0c h1 h1_f0 h1_f1 h1_f2 h1_f3 h1_4 h1_5 h1_6 h1_7 h1_8 h1_9 h1_10 h1_11 h1_12 h1_4 h1_4k h1_4c h1_5 h1_5k h1_5c h1_10 h1_10k h1_10c) sz)) 0 0 (va_A (wd_c_X11_canSing h0 h0_0 h0_1 h0_2 h0_3 h0_4 h0_f5 h0_6 h0_7 h0_8 h0_9 h0_10 h0_11 h0_12 h0_13 h0_14 h0_f15 h0_1 h0_1_0 h0_1_f1 h0_1_f2 h0_1_f3 h0_1_0 h0_1_0k h0_1_0c h1 h1_f0 h1_f1 h1_f2 h1_f3 h1_4 h1_5 h1_6 h1_7 h1_8 h1_9 h1_10 h1_11 h1_12 h1_4 h1_4k h1_4c h1_5 h1_5k h1_5c h1_10 h1_10k h1_10c) sz) := by
  refine Met.ofW (cc := cX11_canSing) (maxL := 4) (ret := (some .boolean)) (by decide) rfl ?_
  intro p e s m args below meth c s₁ B hml hv
  obtain ⟨rfl, hsz, hP, hK, hD0⟩ := hv
  have hx := B.exec
  have hb := B.bytes
  have hr := B.returns
  have hts := atoms_spec (ws := wf_c_X11_canSing) B.pre
  have hown : s.vm.findClass RX11 = some m.cls := findClass_of_methodNamed B.named
  have hlocks := B.notSynchronized
  subst hsz
  have hD := hD0.self (sz := s.heap.size)
  generalize hAe : va_A (wd_c_X11_canSing h0 h0_0 h0_1 h0_2 h0_3 h0_4 h0_f5 h0_6 h0_7 h0_8 h0_9 h0_10 h0_11 h0_12 h0_13 h0_14 h0_f15 h0_1 h0_1_0 h0_1_f1 h0_1_f2 h0_1_f3 h0_1_0 h0_1_0k h0_1_0c h1 h1_f0 h1_f1 h1_f2 h1_f3 h1_4 h1_5 h1_6 h1_7 h1_8 h1_9 h1_10 h1_11 h1_12 h1_4 h1_4k h1_4c h1_5 h1_5k h1_5c h1_10 h1_10k h1_10c) s.heap.size = A at hD ⊢
  have hA : ∀ q : Nat, s.heap.size ≤ q → A q := fun q h => by rw [← hAe]; exact Or.inr h
  have hP : va_P (dC, dI) vwCl (wd_c_X11_canSing h0 h0_0 h0_1 h0_2 h0_3 h0_4 h0_f5 h0_6 h0_7 h0_8 h0_9 h0_10 h0_11 h0_12 h0_13 h0_14 h0_f15 h0_1 h0_1_0 h0_1_f1 h0_1_f2 h0_1_f3 h0_1_0 h0_1_0k h0_1_0c h1 h1_f0 h1_f1 h1_f2 h1_f3 h1_4 h1_5 h1_6 h1_7 h1_8 h1_9 h1_10 h1_11 h1_12 h1_4 h1_4k h1_4c h1_5 h1_5k h1_5c h1_10 h1_10k h1_10c) s.heap := hP
  have hl := lv_entry ([.ref h0, .ref h1, .int p2, .int p3]) (n := 4) (Nat.le_of_ble_eq_true rfl)
  rw [lg_entry_eq]
  generalize (lg_sl ([.ref h0, .ref h1, .int p2, .int p3]) ++ List.replicate (4 - (lg_sl ([.ref h0, .ref h1, .int p2, .int p3])).length) Slot.unset).toArray = ls at hl ⊢
  have hl : lv_has ls 4 [(0, .ref h0), (1, .ref h1), (2, .int p2), (3, .int p3)] := hl
  obtain ⟨H, hHe⟩ : ∃ H : Heap, s.heap = H := ⟨_, rfl⟩
  have hS : va_S A s.heap H [] := by rw [hHe]; exact va_S.rf
  have hP : va_P (dC, dI) vwCl (wd_c_X11_canSing h0 h0_0 h0_1 h0_2 h0_3 h0_4 h0_f5 h0_6 h0_7 h0_8 h0_9 h0_10 h0_11 h0_12 h0_13 h0_14 h0_f15 h0_1 h0_1_0 h0_1_f1 h0_1_f2 h0_1_f3 h0_1_0 h0_1_0k h0_1_0c h1 h1_f0 h1_f1 h1_f2 h1_f3 h1_4 h1_5 h1_6 h1_7 h1_8 h1_9 h1_10 h1_11 h1_12 h1_4 h1_4k h1_4c h1_5 h1_5k h1_5c h1_10 h1_10k h1_10c) H := by rw [← hHe]; exact hP
  rw [hHe]
  refine lv_aload_n hx hb dX11_canSing_0 rfl (lv_at hl 0 rfl) ?_
  refine lv_iload_n hx hb dX11_canSing_1 rfl (lv_at hl 2 rfl) ?_
  have hPc := hP.sub (ws' := (wd_c_X11_isBoat_1 h0 h0_0 h0_1 h0_2 h0_3 h0_4 h0_f5 h0_6 h0_7 h0_8 h0_9 h0_10 h0_11 h0_12 h0_13 h0_14 h0_f15 h0_1 h0_1_0 h0_1_f1 h0_1_f2 h0_1_f3)) [0, 1] rfl
  have hDc := hD.sub (ws' := (wd_c_X11_isBoat_1 h0 h0_0 h0_1 h0_2 h0_3 h0_4 h0_f5 h0_6 h0_7 h0_8 h0_9 h0_10 h0_11 h0_12 h0_13 h0_14 h0_f15 h0_1 h0_1_0 h0_1_f1 h0_1_f2 h0_1_f3)) [0, 1] (by decide) rfl
  have hKc := hK.sub (tys' := []) [] rfl
  have hFc := va_free (wc := (wd_c_X11_isBoat_1 h0 h0_0 h0_1 h0_2 h0_3 h0_4 h0_f5 h0_6 h0_7 h0_8 h0_9 h0_10 h0_11 h0_12 h0_13 h0_14 h0_f15 h0_1 h0_1_0 h0_1_f1 h0_1_f2 h0_1_f3)) hD hS hA [0, 1] rfl
  refine va_calli (va_runV (As := [.int p2]) (rest := []) ⟨hx, hb, hml, hown, hts⟩ (c_X11_isBoat_1 l dC dI H.size h0 p2 h0_0 h0_1 h0_2 h0_3 h0_4 h0_f5 h0_6 h0_7 h0_8 h0_9 h0_10 h0_11 h0_12 h0_13 h0_14 h0_f15 h0_1_0 h0_1_f1 h0_1_f2 h0_1_f3 g_p2 g_h0_f5 g_h0_1_f1 g_h0_1_f2 g_h0_1_f3) (cwV 1 hts gf_c_X11_canSing_c_X11_isBoat_1 rfl rfl rfl (by decide +kernel) ⟨Nat.le_of_ble_eq_true rfl, Nat.le_of_ble_eq_true rfl⟩) ⟨fun a U g mk q => by obtain ⟨q0, q1, qP, qK, qD⟩ := q; exact ⟨q0, q1, qP, va_K.moved (u := U) (U := U.calling g mk a) (Vm.Alike.refl U.vm) qK, qD⟩, va_recv hKc hPc (ci := 11) (q0 := 0) rfl rfl, fun U hU hW => ⟨rfl, by rw [hU], by rw [hU]; exact hPc, va_K.moved hW.alike hKc, hDc.weaken (fun _ _ _ _ => trivial)⟩⟩ rfl rfl hl.1 rfl (lv_room (Nat.le_of_ble_eq_true rfl)) dX11_canSing_2 ⟨Nat.le_of_ble_eq_true rfl, Nat.le_of_ble_eq_true rfl⟩) hS (fun q _ h => hFc q h) hFc (fun r_1 u t H1 locs ht hvm hw hB hz1 hk1 hS => ?_)
  obtain ⟨hP1, hK1, hD1⟩ := hB
  rw [ht] at hP1
  obtain ⟨hP, hD⟩ := va_join (wr := [(h0_1_0, .inl (h0_1_0k, 80, .inl h0_1_0c)), (h1, .inr (7, [.int h1_f0, .int h1_f1, .int h1_f2, .int h1_f3, .ref h1_4, .ref h1_5, .ref h1_6, .ref h1_7, .ref h1_8, .ref h1_9, .ref h1_10, .ref h1_11, .ref h1_12])), (h1_4, .inl (h1_4k, 3, .inl h1_4c)), (h1_5, .inl (h1_5k, 3, .inl h1_5c)), (h1_10, .inl (h1_10k, 24, .inl h1_10c))]) (w1 := (wd_c_X11_isBoat_1 h0 h0_0 h0_1 h0_2 h0_3 h0_4 h0_f5 h0_6 h0_7 h0_8 h0_9 h0_10 h0_11 h0_12 h0_13 h0_14 h0_f15 h0_1 h0_1_0 h0_1_f1 h0_1_f2 h0_1_f3)) hP hD [0, 1] [2, 3, 4, 5, 6] rfl rfl (by decide) (by decide) hk1 hFc hP1 hD1
  have hP := hP.sub (ws' := (wd_c_X11_canSing h0 h0_0 h0_1 h0_2 h0_3 h0_4 h0_f5 h0_6 h0_7 h0_8 h0_9 h0_10 h0_11 h0_12 h0_13 h0_14 h0_f15 h0_1 h0_1_0 h0_1_f1 h0_1_f2 h0_1_f3 h0_1_0 h0_1_0k h0_1_0c h1 h1_f0 h1_f1 h1_f2 h1_f3 h1_4 h1_5 h1_6 h1_7 h1_8 h1_9 h1_10 h1_11 h1_12 h1_4 h1_4k h1_4c h1_5 h1_5k h1_5c h1_10 h1_10k h1_10c)) [5, 6, 0, 1, 2, 3, 4] rfl
  have hD := hD.sub (ws' := (wd_c_X11_canSing h0 h0_0 h0_1 h0_2 h0_3 h0_4 h0_f5 h0_6 h0_7 h0_8 h0_9 h0_10 h0_11 h0_12 h0_13 h0_14 h0_f15 h0_1 h0_1_0 h0_1_f1 h0_1_f2 h0_1_f3 h0_1_0 h0_1_0k h0_1_0c h1 h1_f0 h1_f1 h1_f2 h1_f3 h1_4 h1_5 h1_6 h1_7 h1_8 h1_9 h1_10 h1_11 h1_12 h1_4 h1_4k h1_4c h1_5 h1_5k h1_5c h1_10 h1_10k h1_10c)) [5, 6, 0, 1, 2, 3, 4] (by decide) rfl
  generalize H1 = H at hP hS ⊢
  rcases hw with h_2 | ⟨h_3, h_4, h_5⟩
  · rw [h_2]
    refine lv_if_eq (tgt := 45) hx hb dX11_canSing_5 rfl (fun c_6 => ?_) (fun c_6 => absurd c_6 (by decide))
    refine lv_iconst (v := 0) hx hb dX11_canSing_45 kc_iconst_0 ?_
    have hK9 := hK.sub (tys' := []) [] rfl
    exact W.zret (v := 0) hx hb hr rfl (fun t ht hW => ⟨⟨0, (), rfl, (Or.inl rfl), by rw [ht]; exact hP, va_K.moved hW.alike hK9, hD⟩, hS.F ht⟩) hS.2.2 dX11_canSing_46
  · rw [h_3]
    refine lv_if_eq (tgt := 45) hx hb dX11_canSing_5 rfl (fun c_7 => absurd c_7 (by decide)) (fun c_7 => ?_)
    refine lv_aload_n hx hb dX11_canSing_8 rfl (lv_at hl 0 rfl) ?_
    refine lv_iload_n hx hb dX11_canSing_9 rfl (lv_at hl 3 rfl) ?_
    have hPc := hP.sub (ws' := (wd_c_X11_isBuoy_1 h0 h0_0 h0_1 h0_2 h0_3 h0_4 h0_f5 h0_6 h0_7 h0_8 h0_9 h0_10 h0_11 h0_12 h0_13 h0_14 h0_f15 h0_1 h0_1_0 h0_1_f1 h0_1_f2 h0_1_f3)) [0, 1] rfl
    have hDc := hD.sub (ws' := (wd_c_X11_isBuoy_1 h0 h0_0 h0_1 h0_2 h0_3 h0_4 h0_f5 h0_6 h0_7 h0_8 h0_9 h0_10 h0_11 h0_12 h0_13 h0_14 h0_f15 h0_1 h0_1_0 h0_1_f1 h0_1_f2 h0_1_f3)) [0, 1] (by decide) rfl
    have hKc := hK.sub (tys' := []) [] rfl
    have hFc := va_free (wc := (wd_c_X11_isBuoy_1 h0 h0_0 h0_1 h0_2 h0_3 h0_4 h0_f5 h0_6 h0_7 h0_8 h0_9 h0_10 h0_11 h0_12 h0_13 h0_14 h0_f15 h0_1 h0_1_0 h0_1_f1 h0_1_f2 h0_1_f3)) hD hS hA [0, 1] rfl
    refine va_calli (va_runV (As := [.int p3]) (rest := []) ⟨hx, hb, hml, hown, hts⟩ (c_X11_isBuoy_1 l dC dI H.size h0 p3 h0_0 h0_1 h0_2 h0_3 h0_4 h0_f5 h0_6 h0_7 h0_8 h0_9 h0_10 h0_11 h0_12 h0_13 h0_14 h0_f15 h0_1_0 h0_1_f1 h0_1_f2 h0_1_f3 g_p3 g_h0_f5 g_h0_1_f1 (RG_w h_4 (by decide)) g_h0_1_f3) (cwV 1 hts gf_c_X11_canSing_c_X11_isBuoy_1 rfl rfl rfl (by decide +kernel) ⟨Nat.le_of_ble_eq_true rfl, Nat.le_of_ble_eq_true rfl⟩) ⟨fun a U g mk q => by obtain ⟨q0, q1, qP, qK, qD⟩ := q; exact ⟨q0, q1, qP, va_K.moved (u := U) (U := U.calling g mk a) (Vm.Alike.refl U.vm) qK, qD⟩, va_recv hKc hPc (ci := 11) (q0 := 0) rfl rfl, fun U hU hW => ⟨rfl, by rw [hU], by rw [hU]; exact hPc, va_K.moved hW.alike hKc, hDc.weaken (fun _ _ _ _ => trivial)⟩⟩ rfl rfl hl.1 rfl (lv_room (Nat.le_of_ble_eq_true rfl)) dX11_canSing_10 ⟨Nat.le_of_ble_eq_true rfl, Nat.le_of_ble_eq_true rfl⟩) hS (fun q _ h => hFc q h) hFc (fun r_8 u t H1 locs ht hvm hw hB hz1 hk1 hS => ?_)
    obtain ⟨hP1, hK1, hD1⟩ := hB
    rw [ht] at hP1
    obtain ⟨hP, hD⟩ := va_join (wr := [(h0_1_0, .inl (h0_1_0k, 80, .inl h0_1_0c)), (h1, .inr (7, [.int h1_f0, .int h1_f1, .int h1_f2, .int h1_f3, .ref h1_4, .ref h1_5, .ref h1_6, .ref h1_7, .ref h1_8, .ref h1_9, .ref h1_10, .ref h1_11, .ref h1_12])), (h1_4, .inl (h1_4k, 3, .inl h1_4c)), (h1_5, .inl (h1_5k, 3, .inl h1_5c)), (h1_10, .inl (h1_10k, 24, .inl h1_10c))]) (w1 := (wd_c_X11_isBuoy_1 h0 h0_0 h0_1 h0_2 h0_3 h0_4 h0_f5 h0_6 h0_7 h0_8 h0_9 h0_10 h0_11 h0_12 h0_13 h0_14 h0_f15 h0_1 h0_1_0 h0_1_f1 h0_1_f2 h0_1_f3)) hP hD [0, 1] [2, 3, 4, 5, 6] rfl rfl (by decide) (by decide) hk1 hFc hP1 hD1
    have hP := hP.sub (ws' := (wd_c_X11_canSing h0 h0_0 h0_1 h0_2 h0_3 h0_4 h0_f5 h0_6 h0_7 h0_8 h0_9 h0_10 h0_11 h0_12 h0_13 h0_14 h0_f15 h0_1 h0_1_0 h0_1_f1 h0_1_f2 h0_1_f3 h0_1_0 h0_1_0k h0_1_0c h1 h1_f0 h1_f1 h1_f2 h1_f3 h1_4 h1_5 h1_6 h1_7 h1_8 h1_9 h1_10 h1_11 h1_12 h1_4 h1_4k h1_4c h1_5 h1_5k h1_5c h1_10 h1_10k h1_10c)) [5, 6, 0, 1, 2, 3, 4] rfl
    have hD := hD.sub (ws' := (wd_c_X11_canSing h0 h0_0 h0_1 h0_2 h0_3 h0_4 h0_f5 h0_6 h0_7 h0_8 h0_9 h0_10 h0_11 h0_12 h0_13 h0_14 h0_f15 h0_1 h0_1_0 h0_1_f1 h0_1_f2 h0_1_f3 h0_1_0 h0_1_0k h0_1_0c h1 h1_f0 h1_f1 h1_f2 h1_f3 h1_4 h1_5 h1_6 h1_7 h1_8 h1_9 h1_10 h1_11 h1_12 h1_4 h1_4k h1_4c h1_5 h1_5k h1_5c h1_10 h1_10k h1_10c)) [5, 6, 0, 1, 2, 3, 4] (by decide) rfl
    generalize H1 = H at hP hS ⊢
    rcases hw with h_9 | ⟨h_10, h_11, h_12⟩
    · rw [h_9]
      refine lv_if_eq (tgt := 45) hx hb dX11_canSing_13 rfl (fun c_13 => ?_) (fun c_13 => absurd c_13 (by decide))
      refine lv_iconst (v := 0) hx hb dX11_canSing_45 kc_iconst_0 ?_
      have hK9 := hK.sub (tys' := []) [] rfl
      exact W.zret (v := 0) hx hb hr rfl (fun t ht hW => ⟨⟨0, (), rfl, (Or.inl rfl), by rw [ht]; exact hP, va_K.moved hW.alike hK9, hD⟩, hS.F ht⟩) hS.2.2 dX11_canSing_46
    · rw [h_10]
      refine lv_if_eq (tgt := 45) hx hb dX11_canSing_13 rfl (fun c_14 => absurd c_14 (by decide)) (fun c_14 => ?_)
      refine lv_aload_n hx hb dX11_canSing_16 rfl (lv_at hl 0 rfl) ?_
      refine lv_aload_n hx hb dX11_canSing_17 rfl (lv_at hl 1 rfl) ?_
      refine lv_iload_n hx hb dX11_canSing_18 rfl (lv_at hl 2 rfl) ?_
      refine lv_iload_n hx hb dX11_canSing_19 rfl (lv_at hl 3 rfl) ?_
      have hPc := hP.sub (ws' := (wd_c_X11_isBeside h0 h0_0 h0_1 h0_2 h0_3 h0_4 h0_f5 h0_6 h0_7 h0_8 h0_9 h0_10 h0_11 h0_12 h0_13 h0_14 h0_f15 h0_1 h0_1_0 h0_1_f1 h0_1_f2 h0_1_f3 h0_1_0 h0_1_0k h0_1_0c h1 h1_f0 h1_f1 h1_f2 h1_f3 h1_4 h1_5 h1_6 h1_7 h1_8 h1_9 h1_10 h1_11 h1_12 h1_4 h1_4k h1_4c h1_5 h1_5k h1_5c)) [0, 1, 2, 3, 4, 5] rfl
      have hDc := hD.sub (ws' := (wd_c_X11_isBeside h0 h0_0 h0_1 h0_2 h0_3 h0_4 h0_f5 h0_6 h0_7 h0_8 h0_9 h0_10 h0_11 h0_12 h0_13 h0_14 h0_f15 h0_1 h0_1_0 h0_1_f1 h0_1_f2 h0_1_f3 h0_1_0 h0_1_0k h0_1_0c h1 h1_f0 h1_f1 h1_f2 h1_f3 h1_4 h1_5 h1_6 h1_7 h1_8 h1_9 h1_10 h1_11 h1_12 h1_4 h1_4k h1_4c h1_5 h1_5k h1_5c)) [0, 1, 2, 3, 4, 5] (by decide) rfl
      have hKc := hK.sub (tys' := [(h0_1_0k, .int), (h1_4k, .int), (h1_5k, .int)]) [0, 1, 2] rfl
      have hFc := va_free (wc := (wd_c_X11_isBeside h0 h0_0 h0_1 h0_2 h0_3 h0_4 h0_f5 h0_6 h0_7 h0_8 h0_9 h0_10 h0_11 h0_12 h0_13 h0_14 h0_f15 h0_1 h0_1_0 h0_1_f1 h0_1_f2 h0_1_f3 h0_1_0 h0_1_0k h0_1_0c h1 h1_f0 h1_f1 h1_f2 h1_f3 h1_4 h1_5 h1_6 h1_7 h1_8 h1_9 h1_10 h1_11 h1_12 h1_4 h1_4k h1_4c h1_5 h1_5k h1_5c)) hD hS hA [0, 1, 2, 3, 4, 5] rfl
      refine va_calli (va_runV (As := [.ref h1, .int p2, .int p3]) (rest := []) ⟨hx, hb, hml, hown, hts⟩ (c_X11_isBeside l dC dI H.size h0 h1 p2 p3 h0_0 h0_1 h0_2 h0_3 h0_4 h0_f5 h0_6 h0_7 h0_8 h0_9 h0_10 h0_11 h0_12 h0_13 h0_14 h0_f15 h0_1_0 h0_1_f1 h0_1_f2 h0_1_f3 h0_1_0k h0_1_0c h1_f0 h1_f1 h1_f2 h1_f3 h1_4 h1_5 h1_6 h1_7 h1_8 h1_9 h1_10 h1_11 h1_12 h1_4k h1_4c h1_5k h1_5c h_5 h_12 g_h0_f5 (RG_w h_11 (by decide)) (RG_w h_4 (by decide)) g_h0_1_f3 a_h0_1_0c) (cwV 3 hts gf_c_X11_canSing_c_X11_isBeside rfl rfl rfl (by decide +kernel) ⟨Nat.le_of_ble_eq_true rfl, Nat.le_of_ble_eq_true rfl⟩) ⟨fun a U g mk q => by obtain ⟨q0, q1, qP, qK, qD⟩ := q; exact ⟨q0, q1, qP, va_K.moved (u := U) (U := U.calling g mk a) (Vm.Alike.refl U.vm) qK, qD⟩, va_recv hKc hPc (ci := 11) (q0 := 0) rfl rfl, fun U hU hW => ⟨rfl, by rw [hU], by rw [hU]; exact hPc, va_K.moved hW.alike hKc, hDc.weaken (fun _ _ _ _ => trivial)⟩⟩ rfl rfl hl.1 rfl (lv_room (Nat.le_of_ble_eq_true rfl)) dX11_canSing_20 ⟨Nat.le_of_ble_eq_true rfl, Nat.le_of_ble_eq_true rfl⟩) hS (fun q _ h => hFc q h) hFc (fun r_15 u t H1 locs ht hvm hw hB hz1 hk1 hS => ?_)
      obtain ⟨hP1, hK1, hD1⟩ := hB
      rw [ht] at hP1
      obtain ⟨hP, hD⟩ := va_join (wr := [(h1_10, .inl (h1_10k, 24, .inl h1_10c))]) (w1 := (wd_c_X11_isBeside h0 h0_0 h0_1 h0_2 h0_3 h0_4 h0_f5 h0_6 h0_7 h0_8 h0_9 h0_10 h0_11 h0_12 h0_13 h0_14 h0_f15 h0_1 h0_1_0 h0_1_f1 h0_1_f2 h0_1_f3 h0_1_0 h0_1_0k h0_1_0c h1 h1_f0 h1_f1 h1_f2 h1_f3 h1_4 h1_5 h1_6 h1_7 h1_8 h1_9 h1_10 h1_11 h1_12 h1_4 h1_4k h1_4c h1_5 h1_5k h1_5c)) hP hD [0, 1, 2, 3, 4, 5] [6] rfl rfl (by decide) (by decide) hk1 hFc hP1 hD1
      have hP := hP.sub (ws' := (wd_c_X11_canSing h0 h0_0 h0_1 h0_2 h0_3 h0_4 h0_f5 h0_6 h0_7 h0_8 h0_9 h0_10 h0_11 h0_12 h0_13 h0_14 h0_f15 h0_1 h0_1_0 h0_1_f1 h0_1_f2 h0_1_f3 h0_1_0 h0_1_0k h0_1_0c h1 h1_f0 h1_f1 h1_f2 h1_f3 h1_4 h1_5 h1_6 h1_7 h1_8 h1_9 h1_10 h1_11 h1_12 h1_4 h1_4k h1_4c h1_5 h1_5k h1_5c h1_10 h1_10k h1_10c)) [1, 2, 3, 4, 5, 6, 0] rfl
      have hD := hD.sub (ws' := (wd_c_X11_canSing h0 h0_0 h0_1 h0_2 h0_3 h0_4 h0_f5 h0_6 h0_7 h0_8 h0_9 h0_10 h0_11 h0_12 h0_13 h0_14 h0_f15 h0_1 h0_1_0 h0_1_f1 h0_1_f2 h0_1_f3 h0_1_0 h0_1_0k h0_1_0c h1 h1_f0 h1_f1 h1_f2 h1_f3 h1_4 h1_5 h1_6 h1_7 h1_8 h1_9 h1_10 h1_11 h1_12 h1_4 h1_4k h1_4c h1_5 h1_5k h1_5c h1_10 h1_10k h1_10c)) [1, 2, 3, 4, 5, 6, 0] (by decide) rfl
      generalize H1 = H at hP hS ⊢
      rcases hw with h_16 | h_17
      · rw [h_16]
        refine lv_if_eq (tgt := 45) hx hb dX11_canSing_23 rfl (fun c_18 => ?_) (fun c_18 => absurd c_18 (by decide))
        refine lv_iconst (v := 0) hx hb dX11_canSing_45 kc_iconst_0 ?_
        have hK9 := hK.sub (tys' := []) [] rfl
        exact W.zret (v := 0) hx hb hr rfl (fun t ht hW => ⟨⟨0, (), rfl, (Or.inl rfl), by rw [ht]; exact hP, va_K.moved hW.alike hK9, hD⟩, hS.F ht⟩) hS.2.2 dX11_canSing_46
      · rw [h_17]
        refine lv_if_eq (tgt := 45) hx hb dX11_canSing_23 rfl (fun c_19 => absurd c_19 (by decide)) (fun c_19 => ?_)
        refine lv_aload_n hx hb dX11_canSing_26 rfl (lv_at hl 1 rfl) ?_
        refine va_get (D := (dC, dI)) (ci := 7) (v := .ref h1_10) (C := RX7) (T := TX7) (N := 13) hx hb hts iw_c_X11_canSing_X7 hown hK hP 3 rfl rfl 10 (by decide) (hts (.fieldLink RX11 188 "BuoyVote$Sea" "liking" "[I") (List.mem_of_getElem? (i := 38) rfl)) (fun _ h9 => h9) rfl dX11_canSing_27 ?_
        refine lv_iload_n hx hb dX11_canSing_30 rfl (lv_at hl 3 rfl) ?_
        refine lv_iconst (v := 3) hx hb dX11_canSing_31 kc_iconst_3 ?_
        refine lv_imul hx hb dX11_canSing_32 ?_
        refine lv_topi (fun x_20 ex_20 => ?_)
        have g_21 : RG x_20 0 21 := RG_mulc ex_20 (q := 3) rfl h_12 (by decide)
        refine lv_iload_n hx hb dX11_canSing_33 rfl (lv_at hl 2 rfl) ?_
        refine lv_iadd hx hb dX11_canSing_34 ?_
        refine lv_topi (fun x_22 ex_22 => ?_)
        have g_23 : RG x_22 0 23 := RG_add ex_22 g_21 h_5 (by decide)
        refine va_iald hx hb hK hP 6 3 rfl rfl (RG_in g_23 (by decide)) dX11_canSing_35 ?_
        refine lv_topi (fun x_24 ex_24 => ?_)
        refine lv_bipush (v := 9) hx hb dX11_canSing_36 kc_bipush_9 ?_
        refine lv_icmp_ge (tgt := 45) hx hb dX11_canSing_38 rfl (fun c_25 => ?_) (fun c_25 => ?_)
        · have g_26 : RG x_24 9 2147483647 := RG_le2 (RG_k 9 9 rfl) (RG_any x_24) c_25 (by decide)
          refine lv_iconst (v := 0) hx hb dX11_canSing_45 kc_iconst_0 ?_
          have hK9 := hK.sub (tys' := []) [] rfl
          exact W.zret (v := 0) hx hb hr rfl (fun t ht hW => ⟨⟨0, (), rfl, (Or.inl rfl), by rw [ht]; exact hP, va_K.moved hW.alike hK9, hD⟩, hS.F ht⟩) hS.2.2 dX11_canSing_46
        · have d_27 := Int32.not_le.mp c_25
          have g_28 : RG x_24 (-2147483648) 8 := RG_lt1 (RG_any x_24) (RG_k 9 9 rfl) d_27 (by decide)
          refine lv_iconst (v := 1) hx hb dX11_canSing_41 kc_iconst_1 ?_
          refine lv_goto (tgt := 46) hx hb dX11_canSing_42 rfl ?_
          have hK9 := hK.sub (tys' := []) [] rfl
          exact W.zret (v := 1) hx hb hr rfl (fun t ht hW => ⟨⟨1, (), rfl, (Or.inr ⟨rfl, h_11, h_4, h_5, h_12⟩), by rw [ht]; exact hP, va_K.moved hW.alike hK9, hD⟩, hS.F ht⟩) hS.2.2 dX11_canSing_46
def wd_c_X11_canScrape (a0 : Nat) (a1 : Nat) (a2 : Nat) (a3 : Nat) (a4 : Nat) (a5 : Nat) (a6 : Int32) (a7 : Nat) (a8 : Nat) (a9 : Nat) (a10 : Nat) (a11 : Nat) (a12 : Nat) (a13 : Nat) (a14 : Nat) (a15 : Nat) (a16 : Int64) (a17 : Nat) (a18 : Nat) (a19 : Int32) (a20 : Int32) (a21 : Int32) (a22 : Nat) (a23 : ClassId) (a24 : Nat → Int32) (a25 : Nat) (a26 : Int32) (a27 : Int32) (a28 : Int32) (a29 : Int32) (a30 : Nat) (a31 : Nat) (a32 : Nat) (a33 : Nat) (a34 : Nat) (a35 : Nat) (a36 : Nat) (a37 : Nat) (a38 : Nat) (a39 : Nat) (a40 : ClassId) (a41 : Nat → Int32) (a42 : Nat) (a43 : ClassId) (a44 : Nat → Int32) (a45 : Nat) (a46 : ClassId) (a47 : Nat → Int32) : va_W := [(a0, .inr (11, [.ref a1, .ref a2, .ref a3, .ref a4, .ref a5, .int a6, .ref a7, .ref a8, .ref a9, .ref a10, .ref a11, .ref a12, .ref a13, .ref a14, .ref a15, .long a16])), (a17, .inr (0, [.ref a18, .int a19, .int a20, .int a21])), (a22, .inl (a23, 80, .inl a24)), (a25, .inr (7, [.int a26, .int a27, .int a28, .int a29, .ref a30, .ref a31, .ref a32, .ref a33, .ref a34, .ref a35, .ref a36, .ref a37, .ref a38])), (a39, .inl (a40, 3, .inl a41)), (a42, .inl (a43, 3, .inl a44)), (a45, .inl (a46, 8, .inl a47))]
def wf_c_X11_canScrape : List Cond := .code yX11_canScrape cX11_canScrape 4 (some .boolean) :: ([.methodLink RX11 191 yX11_isBoat, .instanceMethod yX11_isBoat, .selects RX11 yX11_isBoat yX11_isBoat, .initialized RX11, .code yX11_isBoat cX11_isBoat 2 (some .boolean), .fieldLink RX11 19 "BuoyVote" "told" "LBuoyVote$Borough;", .fieldLink RX11 272 "BuoyVote$Borough" "boats" "I", .methodLink RX11 163 yX11_isBuoy, .instanceMethod yX11_isBuoy, .selects RX11 yX11_isBuoy yX11_isBuoy, .code yX11_isBuoy cX11_isBuoy 2 (some .boolean), .fieldLink RX11 275 "BuoyVote$Borough" "buoys" "I", .methodLink RX11 416 yX11_isBeside, .instanceMethod yX11_isBeside, .selects RX11 yX11_isBeside yX11_isBeside, .code yX11_isBeside cX11_isBeside 4 (some .boolean), .methodLink RX11 169 yX0_buoyX, .instanceMethod yX0_buoyX, .selects RX0 yX0_buoyX yX0_buoyX, .initialized RX0, .code yX0_buoyX cX0_buoyX 2 (some .int), .fieldLink RX0 11 "BuoyVote$Borough" "values" "[I", .methodLink RX11 172 yX0_buoyY, .instanceMethod yX0_buoyY, .selects RX0 yX0_buoyY yX0_buoyY, .code yX0_buoyY cX0_buoyY 2 (some .int), .methodLink RX11 240 yX7_awayOf, .instanceMethod yX7_awayOf, .selects RX7 yX7_awayOf yX7_awayOf, .initialized RX7, .code yX7_awayOf cX7_awayOf 4 (some .int), .fieldLink RX7 9 "BuoyVote$Sea" "x" "[I", .methodLink RX7 99 Lib.Math.abs.name, .static Lib.Math.abs.name, .initialized "java/lang/Math", .code Lib.Math.abs.name Lib.Math.abs.code 1 (some .int), .fieldLink RX7 15 "BuoyVote$Sea" "y" "[I", .fieldLink RX11 181 "BuoyVote$Sea" "barnacles" "[I"] ++ wsX110 ++ wsX00 ++ wsX70)
theorem iw_c_X11_canScrape_X11 : ∀ w ∈ wsX110, w ∈ wf_c_X11_canScrape := fun w h => List.mem_cons_of_mem _ (List.mem_append_left _ (List.mem_append_left _ (List.mem_append_right _ h)))
theorem iw_c_X11_canScrape_X0 : ∀ w ∈ wsX00, w ∈ wf_c_X11_canScrape := fun w h => List.mem_cons_of_mem _ (List.mem_append_left _ (List.mem_append_right _ h))
theorem iw_c_X11_canScrape_X7 : ∀ w ∈ wsX70, w ∈ wf_c_X11_canScrape := fun w h => List.mem_cons_of_mem _ (List.mem_append_right _ h)
set_option maxRecDepth 20000 in
theorem gf_c_X11_canScrape_c_X11_isBoat_1 : GoodIn wf_c_X11_canScrape (wsV RX11 191 RX11 yX11_isBoat wf_c_X11_isBoat_1) := goodIn_app (gi_cons (j := 1) rfl rfl (gi_cons (j := 2) rfl rfl (gi_cons (j := 3) rfl rfl (gi_cons (j := 4) rfl rfl (gi_nil))))) (gi_cons (j := 5) rfl rfl (goodIn_app (goodIn_app (gi_cons (j := 6) rfl rfl (gi_cons (j := 7) rfl rfl (gi_nil))) (goodIn_sub iw_c_X11_canScrape_X11 gw_X11)) (goodIn_sub iw_c_X11_canScrape_X0 gw_X0)))
set_option maxRecDepth 20000 in
theorem gf_c_X11_canScrape_c_X11_isBuoy_1 : GoodIn wf_c_X11_canScrape (wsV RX11 163 RX11 yX11_isBuoy wf_c_X11_isBuoy_1) := goodIn_app (gi_cons (j := 8) rfl rfl (gi_cons (j := 9) rfl rfl (gi_cons (j := 10) rfl rfl (gi_cons (j := 4) rfl rfl (gi_nil))))) (gi_cons (j := 11) rfl rfl (goodIn_app (goodIn_app (gi_cons (j := 6) rfl rfl (gi_cons (j := 12) rfl rfl (gi_nil))) (goodIn_sub iw_c_X11_canScrape_X11 gw_X11)) (goodIn_sub iw_c_X11_canScrape_X0 gw_X0)))
set_option maxRecDepth 20000 in
theorem gf_c_X11_canScrape_c_X11_isBeside : GoodIn wf_c_X11_canScrape (wsV RX11 416 RX11 yX11_isBeside wf_c_X11_isBeside) := goodIn_app (gi_cons (j := 13) rfl rfl (gi_cons (j := 14) rfl rfl (gi_cons (j := 15) rfl rfl (gi_cons (j := 4) rfl rfl (gi_nil))))) (gi_cons (j := 16) rfl rfl (goodIn_app (goodIn_app (goodIn_app (gi_cons (j := 6) rfl rfl (gi_cons (j := 17) rfl rfl (gi_cons (j := 18) rfl rfl (gi_cons (j := 19) rfl rfl (gi_cons (j := 20) rfl rfl (gi_cons (j := 21) rfl rfl (gi_cons (j := 22) rfl rfl (gi_cons (j := 23) rfl rfl (gi_cons (j := 24) rfl rfl (gi_cons (j := 25) rfl rfl (gi_cons (j := 26) rfl rfl (gi_cons (j := 27) rfl rfl (gi_cons (j := 28) rfl rfl (gi_cons (j := 29) rfl rfl (gi_cons (j := 30) rfl rfl (gi_cons (j := 31) rfl rfl (gi_cons (j := 32) rfl rfl (gi_cons (j := 33) rfl rfl (gi_cons (j := 34) rfl rfl (gi_cons (j := 35) rfl rfl (gi_cons (j := 36) rfl rfl (gi_cons (j := 37) rfl rfl (gi_nil))))))))))))))))))))))) (goodIn_sub iw_c_X11_canScrape_X11 gw_X11)) (goodIn_sub iw_c_X11_canScrape_X0 gw_X0)) (goodIn_sub iw_c_X11_canScrape_X7 gw_X7)))
set_option maxHeartbeats 4000000 in
set_option maxRecDepth 100000 in
theorem c_X11_canScrape (l : Launch) (dC : Nat → ClassId) (dI : Nat → Nat → Nat) (sz : Nat) (h0 : Nat) (h1 : Nat) (p2 : Int32) (p3 : Int32) (h0_0 : Nat) (h0_1 : Nat) (h0_2 : Nat) (h0_3 : Nat) (h0_4 : Nat) (h0_f5 : Int32) (h0_6 : Nat) (h0_7 : Nat) (h0_8 : Nat) (h0_9 : Nat) (h0_10 : Nat) (h0_11 : Nat) (h0_12 : Nat) (h0_13 : Nat) (h0_14 : Nat) (h0_f15 : Int64) (h0_1_0 : Nat) (h0_1_f1 : Int32) (h0_1_f2 : Int32) (h0_1_f3 : Int32) (h0_1_0k : ClassId) (h0_1_0c : Nat → Int32) (h1_f0 : Int32) (h1_f1 : Int32) (h1_f2 : Int32) (h1_f3 : Int32) (h1_4 : Nat) (h1_5 : Nat) (h1_6 : Nat) (h1_7 : Nat) (h1_8 : Nat) (h1_9 : Nat) (h1_10 : Nat) (h1_11 : Nat) (h1_12 : Nat) (h1_4k : ClassId) (h1_4c : Nat → Int32) (h1_5k : ClassId) (h1_5c : Nat → Int32) (h1_12k : ClassId) (h1_12c : Nat → Int32) (g_p2 : RG p2 (-1) 99) (g_p3 : RG p3 (-1) 99) (g_h0_f5 : RG h0_f5 0 4) (g_h0_1_f1 : RG h0_1_f1 0 8) (g_h0_1_f2 : RG h0_1_f2 0 3) (g_h0_1_f3 : RG h0_1_f3 0 1) (a_h0_1_0c : AI h0_1_0c (-1) 99) : Met l yX11_canScrape wf_c_X11_canScrape ({ frames := 3, cells := 0, slots := 0, locals := 60 }) (va_Pc [.ref h0, .ref h1, .int p2, .int p3] (fun U => U.heap.size = sz ∧ va_P (dC, dI) vwCl (wd_c_X11_canScrape h0 h0_0 h0_1 h0_2 h0_3 h0_4 h0_f5 h0_6 h0_7 h0_8 h0_9 h0_10 h0_11 h0_12 h0_13 h0_14 h0_f15 h0_1 h0_1_0 h0_1_f1 h0_1_f2 h0_1_f3 h0_1_0 h0_1_0k h0_1_0c h1 h1_f0 h1_f1 h1_f2 h1_f3 h1_4 h1_5 h1_6 h1_7 h1_8 h1_9 h1_10 h1_11 h1_12 h1_4 h1_4k h1_4c h1_5 h1_5k h1_5c h1_12 h1_12k h1_12c) U.heap ∧ va_K (dC, dI) vwCl [(h0_1_0k, .int), (h1_4k, .int), (h1_5k, .int), (h1_12k, .int)] U ∧ va_D (fun _ => True) (wd_c_X11_canScrape h0 h0_0 h0_1 h0_2 h0_3 h0_4 h0_f5 h0_6 h0_7 h0_8 h0_9 h0_10 h0_11 h0_12 h0_13 h0_14 h0_f15 h0_1 h0_1_0 h0_1_f1 h0_1_f2 h0_1_f3 h0_1_0 h0_1_0k h0_1_0c h1 h1_f0 h1_f1 h1_f2 h1_f3 h1_4 h1_5 h1_6 h1_7 h1_8 h1_9 h1_10 h1_11 h1_12 h1_4 h1_4k h1_4c h1_5 h1_5k h1_5c h1_12 h1_12k h1_12c))) (va_Qi (fun (r : Int32) (u : Unit) => (r = 0) ∨ (r = 1 ∧ RG h0_1_f1 1 8 ∧ RG h0_1_f2 1 3 ∧ RG p2 0 2 ∧ RG p3 0 7)) (fun (u : Unit) t => va_P (dC, dI) vwCl (wd_c_X11_canScrape h0 h0_0 h0_1 h0_2 h0_3 h0_4 h0_f5 h0_6 h0_7 h0_8 h0_9 h0_10 h0_11 h0_12 h0_13 h0_14 h0_f15 h0_1 h0_1_0 h0_1_f1 h0_1_f2 h0_1_f3 h0_1_0 h0_1_0k h0_1_0c h1 h1_f0 h1_f1 h1_f2 h1_f3 h1_4 h1_5 h1_6 h1_7 h1_8 h1_9 h1_10 h1_11 h1_12 h1_4 h1_4k h1_4c h1_5 h1_5k h1_5c h1_12 h1_12k h1_12c) t.heap ∧ va_K (dC, dI) vwCl [] t ∧ va_D (va_A (wd_c_X11_canScrape h0 h0_0 h0_1 h0_2 h0_3 h0_4 h0_f5 h0_6 h0_7 h0_8 h0_9 h0_10 h0_11 h0_12 h0_13 h0_14 h0_f15 h0_1 h0_1_0 h0_1_f1 h0_1_f2 h0_1_f3 h0_1_0 h0_1_0k h0_1_0c h1 h1_f0 h1_f1 h1_f2 h1_f3 h1_4 h1_5 h1_6 h1_7 h1_8 h1_9 h1_10 h1_11 h1_12 h1_4 h1_4k h1_4c h1_5 h1_5k h1_5c h1_12 h1_12k h1_12c) sz) (wd_c_X11_canScrape h0 h0_0 h0_1 h0_2 h0_3 h0_4 h0_f5 h0_6 h0_7 h0_8 h0_9 h0_10 h0_11 h0_12 h0_13 h0_14 h0_f15 h0_1 h0_1_0 h0_1_f1 h0_1_f2 h0_1_f3 h0_1_0 h0_1_0k h0_1_0c h1 h1_f0 h1_f1 h1_f2 h1_f3 h1_4 h1_5 h1_6 h1_7 h1_8 h1_9 h1_10 h1_11 h1_12 h1_4 h1_4k h1_4c h1_5 h1_5k h1_5c h1_12 h1_12k h1_12c)) (va_A (wd_c_X11_canScrape h0 h0_0 h0_1 h0_2 h0_3 h0_4 h0_f5 h0_6 h0_7 h0_8 h0_9 h0_10 h0_11 h0_12 h0_13 h0_14 h0_f15 h0_1 h0_1_0 h0_1_f1 h0_1_f2 h0_1_f3 h0_1_0 h0_1_0k h0_1_0c h1 h1_f0 h1_f1 h1_f2 h1_f3 h1_4 h1_5 h1_6 h1_7 h1_8 h1_9 h1_10 h1_11 h1_12 h1_4 h1_4k h1_4c h1_5 h1_5k h1_5c h1_12 h1_12k h1_12c) sz)) 0 0 (va_A (wd_c_X11_canScrape h0 h0_0 h0_1 h0_2 h0_3 h0_4 h0_f5 h0_6 h0_7 h0_8 h0_9 h0_10 h0_11 h0_12 h0_13 h0_14 h0_f15 h0_1 h0_1_0 h0_1_f1 h0_1_f2 h0_1_f3 h0_1_0 h0_1_0k h0_1_0c h1 h1_f0 h1_f1 h1_f2 h1_f3 h1_4 h1_5 h1_6 h1_7 h1_8 h1_9 h1_10 h1_11 h1_12 h1_4 h1_4k h1_4c h1_5 h1_5k h1_5c h1_12 h1_12k h1_12c) sz) := by
  refine Met.ofW (cc := cX11_canScrape) (maxL := 4) (ret := (some .boolean)) (by decide) rfl ?_
  intro p e s m args below meth c s₁ B hml hv
  obtain ⟨rfl, hsz, hP, hK, hD0⟩ := hv
  have hx := B.exec
  have hb := B.bytes
  have hr := B.returns
  have hts := atoms_spec (ws := wf_c_X11_canScrape) B.pre
  have hown : s.vm.findClass RX11 = some m.cls := findClass_of_methodNamed B.named
  have hlocks := B.notSynchronized
  subst hsz
  have hD := hD0.self (sz := s.heap.size)
  generalize hAe : va_A (wd_c_X11_canScrape h0 h0_0 h0_1 h0_2 h0_3 h0_4 h0_f5 h0_6 h0_7 h0_8 h0_9 h0_10 h0_11 h0_12 h0_13 h0_14 h0_f15 h0_1 h0_1_0 h0_1_f1 h0_1_f2 h0_1_f3 h0_1_0 h0_1_0k h0_1_0c h1 h1_f0 h1_f1 h1_f2 h1_f3 h1_4 h1_5 h1_6 h1_7 h1_8 h1_9 h1_10 h1_11 h1_12 h1_4 h1_4k h1_4c h1_5 h1_5k h1_5c h1_12 h1_12k h1_12c) s.heap.size = A at hD ⊢
  have hA : ∀ q : Nat, s.heap.size ≤ q → A q := fun q h => by rw [← hAe]; exact Or.inr h
  have hP : va_P (dC, dI) vwCl (wd_c_X11_canScrape h0 h0_0 h0_1 h0_2 h0_3 h0_4 h0_f5 h0_6 h0_7 h0_8 h0_9 h0_10 h0_11 h0_12 h0_13 h0_14 h0_f15 h0_1 h0_1_0 h0_1_f1 h0_1_f2 h0_1_f3 h0_1_0 h0_1_0k h0_1_0c h1 h1_f0 h1_f1 h1_f2 h1_f3 h1_4 h1_5 h1_6 h1_7 h1_8 h1_9 h1_10 h1_11 h1_12 h1_4 h1_4k h1_4c h1_5 h1_5k h1_5c h1_12 h1_12k h1_12c) s.heap := hP
  have hl := lv_entry ([.ref h0, .ref h1, .int p2, .int p3]) (n := 4) (Nat.le_of_ble_eq_true rfl)
  rw [lg_entry_eq]
  generalize (lg_sl ([.ref h0, .ref h1, .int p2, .int p3]) ++ List.replicate (4 - (lg_sl ([.ref h0, .ref h1, .int p2, .int p3])).length) Slot.unset).toArray = ls at hl ⊢
  have hl : lv_has ls 4 [(0, .ref h0), (1, .ref h1), (2, .int p2), (3, .int p3)] := hl
  obtain ⟨H, hHe⟩ : ∃ H : Heap, s.heap = H := ⟨_, rfl⟩
  have hS : va_S A s.heap H [] := by rw [hHe]; exact va_S.rf
  have hP : va_P (dC, dI) vwCl (wd_c_X11_canScrape h0 h0_0 h0_1 h0_2 h0_3 h0_4 h0_f5 h0_6 h0_7 h0_8 h0_9 h0_10 h0_11 h0_12 h0_13 h0_14 h0_f15 h0_1 h0_1_0 h0_1_f1 h0_1_f2 h0_1_f3 h0_1_0 h0_1_0k h0_1_0c h1 h1_f0 h1_f1 h1_f2 h1_f3 h1_4 h1_5 h1_6 h1_7 h1_8 h1_9 h1_10 h1_11 h1_12 h1_4 h1_4k h1_4c h1_5 h1_5k h1_5c h1_12 h1_12k h1_12c) H := by rw [← hHe]; exact hP
  rw [hHe]
  refine lv_aload_n hx hb dX11_canScrape_0 rfl (lv_at hl 0 rfl) ?_
  refine lv_iload_n hx hb dX11_canScrape_1 rfl (lv_at hl 2 rfl) ?_
  have hPc := hP.sub (ws' := (wd_c_X11_isBoat_1 h0 h0_0 h0_1 h0_2 h0_3 h0_4 h0_f5 h0_6 h0_7 h0_8 h0_9 h0_10 h0_11 h0_12 h0_13 h0_14 h0_f15 h0_1 h0_1_0 h0_1_f1 h0_1_f2 h0_1_f3)) [0, 1] rfl
  have hDc := hD.sub (ws' := (wd_c_X11_isBoat_1 h0 h0_0 h0_1 h0_2 h0_3 h0_4 h0_f5 h0_6 h0_7 h0_8 h0_9 h0_10 h0_11 h0_12 h0_13 h0_14 h0_f15 h0_1 h0_1_0 h0_1_f1 h0_1_f2 h0_1_f3)) [0, 1] (by decide) rfl
  have hKc := hK.sub (tys' := []) [] rfl
  have hFc := va_free (wc := (wd_c_X11_isBoat_1 h0 h0_0 h0_1 h0_2 h0_3 h0_4 h0_f5 h0_6 h0_7 h0_8 h0_9 h0_10 h0_11 h0_12 h0_13 h0_14 h0_f15 h0_1 h0_1_0 h0_1_f1 h0_1_f2 h0_1_f3)) hD hS hA [0, 1] rfl
  refine va_calli (va_runV (As := [.int p2]) (rest := []) ⟨hx, hb, hml, hown, hts⟩ (c_X11_isBoat_1 l dC dI H.size h0 p2 h0_0 h0_1 h0_2 h0_3 h0_4 h0_f5 h0_6 h0_7 h0_8 h0_9 h0_10 h0_11 h0_12 h0_13 h0_14 h0_f15 h0_1_0 h0_1_f1 h0_1_f2 h0_1_f3 g_p2 g_h0_f5 g_h0_1_f1 g_h0_1_f2 g_h0_1_f3) (cwV 1 hts gf_c_X11_canScrape_c_X11_isBoat_1 rfl rfl rfl (by decide +kernel) ⟨Nat.le_of_ble_eq_true rfl, Nat.le_of_ble_eq_true rfl⟩) ⟨fun a U g mk q => by obtain ⟨q0, q1, qP, qK, qD⟩ := q; exact ⟨q0, q1, qP, va_K.moved (u := U) (U := U.calling g mk a) (Vm.Alike.refl U.vm) qK, qD⟩, va_recv hKc hPc (ci := 11) (q0 := 0) rfl rfl, fun U hU hW => ⟨rfl, by rw [hU], by rw [hU]; exact hPc, va_K.moved hW.alike hKc, hDc.weaken (fun _ _ _ _ => trivial)⟩⟩ rfl rfl hl.1 rfl (lv_room (Nat.le_of_ble_eq_true rfl)) dX11_canScrape_2 ⟨Nat.le_of_ble_eq_true rfl, Nat.le_of_ble_eq_true rfl⟩) hS (fun q _ h => hFc q h) hFc (fun r_1 u t H1 locs ht hvm hw hB hz1 hk1 hS => ?_)
  obtain ⟨hP1, hK1, hD1⟩ := hB
  rw [ht] at hP1
  obtain ⟨hP, hD⟩ := va_join (wr := [(h0_1_0, .inl (h0_1_0k, 80, .inl h0_1_0c)), (h1, .inr (7, [.int h1_f0, .int h1_f1, .int h1_f2, .int h1_f3, .ref h1_4, .ref h1_5, .ref h1_6, .ref h1_7, .ref h1_8, .ref h1_9, .ref h1_10, .ref h1_11, .ref h1_12])), (h1_4, .inl (h1_4k, 3, .inl h1_4c)), (h1_5, .inl (h1_5k, 3, .inl h1_5c)), (h1_12, .inl (h1_12k, 8, .inl h1_12c))]) (w1 := (wd_c_X11_isBoat_1 h0 h0_0 h0_1 h0_2 h0_3 h0_4 h0_f5 h0_6 h0_7 h0_8 h0_9 h0_10 h0_11 h0_12 h0_13 h0_14 h0_f15 h0_1 h0_1_0 h0_1_f1 h0_1_f2 h0_1_f3)) hP hD [0, 1] [2, 3, 4, 5, 6] rfl rfl (by decide) (by decide) hk1 hFc hP1 hD1
  have hP := hP.sub (ws' := (wd_c_X11_canScrape h0 h0_0 h0_1 h0_2 h0_3 h0_4 h0_f5 h0_6 h0_7 h0_8 h0_9 h0_10 h0_11 h0_12 h0_13 h0_14 h0_f15 h0_1 h0_1_0 h0_1_f1 h0_1_f2 h0_1_f3 h0_1_0 h0_1_0k h0_1_0c h1 h1_f0 h1_f1 h1_f2 h1_f3 h1_4 h1_5 h1_6 h1_7 h1_8 h1_9 h1_10 h1_11 h1_12 h1_4 h1_4k h1_4c h1_5 h1_5k h1_5c h1_12 h1_12k h1_12c)) [5, 6, 0, 1, 2, 3, 4] rfl
  have hD := hD.sub (ws' := (wd_c_X11_canScrape h0 h0_0 h0_1 h0_2 h0_3 h0_4 h0_f5 h0_6 h0_7 h0_8 h0_9 h0_10 h0_11 h0_12 h0_13 h0_14 h0_f15 h0_1 h0_1_0 h0_1_f1 h0_1_f2 h0_1_f3 h0_1_0 h0_1_0k h0_1_0c h1 h1_f0 h1_f1 h1_f2 h1_f3 h1_4 h1_5 h1_6 h1_7 h1_8 h1_9 h1_10 h1_11 h1_12 h1_4 h1_4k h1_4c h1_5 h1_5k h1_5c h1_12 h1_12k h1_12c)) [5, 6, 0, 1, 2, 3, 4] (by decide) rfl
  generalize H1 = H at hP hS ⊢
  rcases hw with h_2 | ⟨h_3, h_4, h_5⟩
  · rw [h_2]
    refine lv_if_eq (tgt := 39) hx hb dX11_canScrape_5 rfl (fun c_6 => ?_) (fun c_6 => absurd c_6 (by decide))
    refine lv_iconst (v := 0) hx hb dX11_canScrape_39 kc_iconst_0 ?_
    have hK9 := hK.sub (tys' := []) [] rfl
    exact W.zret (v := 0) hx hb hr rfl (fun t ht hW => ⟨⟨0, (), rfl, (Or.inl rfl), by rw [ht]; exact hP, va_K.moved hW.alike hK9, hD⟩, hS.F ht⟩) hS.2.2 dX11_canScrape_40
  · rw [h_3]
    refine lv_if_eq (tgt := 39) hx hb dX11_canScrape_5 rfl (fun c_7 => absurd c_7 (by decide)) (fun c_7 => ?_)
    refine lv_aload_n hx hb dX11_canScrape_8 rfl (lv_at hl 0 rfl) ?_
    refine lv_iload_n hx hb dX11_canScrape_9 rfl (lv_at hl 3 rfl) ?_
    have hPc := hP.sub (ws' := (wd_c_X11_isBuoy_1 h0 h0_0 h0_1 h0_2 h0_3 h0_4 h0_f5 h0_6 h0_7 h0_8 h0_9 h0_10 h0_11 h0_12 h0_13 h0_14 h0_f15 h0_1 h0_1_0 h0_1_f1 h0_1_f2 h0_1_f3)) [0, 1] rfl
    have hDc := hD.sub (ws' := (wd_c_X11_isBuoy_1 h0 h0_0 h0_1 h0_2 h0_3 h0_4 h0_f5 h0_6 h0_7 h0_8 h0_9 h0_10 h0_11 h0_12 h0_13 h0_14 h0_f15 h0_1 h0_1_0 h0_1_f1 h0_1_f2 h0_1_f3)) [0, 1] (by decide) rfl
    have hKc := hK.sub (tys' := []) [] rfl
    have hFc := va_free (wc := (wd_c_X11_isBuoy_1 h0 h0_0 h0_1 h0_2 h0_3 h0_4 h0_f5 h0_6 h0_7 h0_8 h0_9 h0_10 h0_11 h0_12 h0_13 h0_14 h0_f15 h0_1 h0_1_0 h0_1_f1 h0_1_f2 h0_1_f3)) hD hS hA [0, 1] rfl
    refine va_calli (va_runV (As := [.int p3]) (rest := []) ⟨hx, hb, hml, hown, hts⟩ (c_X11_isBuoy_1 l dC dI H.size h0 p3 h0_0 h0_1 h0_2 h0_3 h0_4 h0_f5 h0_6 h0_7 h0_8 h0_9 h0_10 h0_11 h0_12 h0_13 h0_14 h0_f15 h0_1_0 h0_1_f1 h0_1_f2 h0_1_f3 g_p3 g_h0_f5 g_h0_1_f1 (RG_w h_4 (by decide)) g_h0_1_f3) (cwV 1 hts gf_c_X11_canScrape_c_X11_isBuoy_1 rfl rfl rfl (by decide +kernel) ⟨Nat.le_of_ble_eq_true rfl, Nat.le_of_ble_eq_true rfl⟩) ⟨fun a U g mk q => by obtain ⟨q0, q1, qP, qK, qD⟩ := q; exact ⟨q0, q1, qP, va_K.moved (u := U) (U := U.calling g mk a) (Vm.Alike.refl U.vm) qK, qD⟩, va_recv hKc hPc (ci := 11) (q0 := 0) rfl rfl, fun U hU hW => ⟨rfl, by rw [hU], by rw [hU]; exact hPc, va_K.moved hW.alike hKc, hDc.weaken (fun _ _ _ _ => trivial)⟩⟩ rfl rfl hl.1 rfl (lv_room (Nat.le_of_ble_eq_true rfl)) dX11_canScrape_10 ⟨Nat.le_of_ble_eq_true rfl, Nat.le_of_ble_eq_true rfl⟩) hS (fun q _ h => hFc q h) hFc (fun r_8 u t H1 locs ht hvm hw hB hz1 hk1 hS => ?_)
    obtain ⟨hP1, hK1, hD1⟩ := hB
    rw [ht] at hP1
    obtain ⟨hP, hD⟩ := va_join (wr := [(h0_1_0, .inl (h0_1_0k, 80, .inl h0_1_0c)), (h1, .inr (7, [.int h1_f0, .int h1_f1, .int h1_f2, .int h1_f3, .ref h1_4, .ref h1_5, .ref h1_6, .ref h1_7, .ref h1_8, .ref h1_9, .ref h1_10, .ref h1_11, .ref h1_12])), (h1_4, .inl (h1_4k, 3, .inl h1_4c)), (h1_5, .inl (h1_5k, 3, .inl h1_5c)), (h1_12, .inl (h1_12k, 8, .inl h1_12c))]) (w1 := (wd_c_X11_isBuoy_1 h0 h0_0 h0_1 h0_2 h0_3 h0_4 h0_f5 h0_6 h0_7 h0_8 h0_9 h0_10 h0_11 h0_12 h0_13 h0_14 h0_f15 h0_1 h0_1_0 h0_1_f1 h0_1_f2 h0_1_f3)) hP hD [0, 1] [2, 3, 4, 5, 6] rfl rfl (by decide) (by decide) hk1 hFc hP1 hD1
    have hP := hP.sub (ws' := (wd_c_X11_canScrape h0 h0_0 h0_1 h0_2 h0_3 h0_4 h0_f5 h0_6 h0_7 h0_8 h0_9 h0_10 h0_11 h0_12 h0_13 h0_14 h0_f15 h0_1 h0_1_0 h0_1_f1 h0_1_f2 h0_1_f3 h0_1_0 h0_1_0k h0_1_0c h1 h1_f0 h1_f1 h1_f2 h1_f3 h1_4 h1_5 h1_6 h1_7 h1_8 h1_9 h1_10 h1_11 h1_12 h1_4 h1_4k h1_4c h1_5 h1_5k h1_5c h1_12 h1_12k h1_12c)) [5, 6, 0, 1, 2, 3, 4] rfl
    have hD := hD.sub (ws' := (wd_c_X11_canScrape h0 h0_0 h0_1 h0_2 h0_3 h0_4 h0_f5 h0_6 h0_7 h0_8 h0_9 h0_10 h0_11 h0_12 h0_13 h0_14 h0_f15 h0_1 h0_1_0 h0_1_f1 h0_1_f2 h0_1_f3 h0_1_0 h0_1_0k h0_1_0c h1 h1_f0 h1_f1 h1_f2 h1_f3 h1_4 h1_5 h1_6 h1_7 h1_8 h1_9 h1_10 h1_11 h1_12 h1_4 h1_4k h1_4c h1_5 h1_5k h1_5c h1_12 h1_12k h1_12c)) [5, 6, 0, 1, 2, 3, 4] (by decide) rfl
    generalize H1 = H at hP hS ⊢
    rcases hw with h_9 | ⟨h_10, h_11, h_12⟩
    · rw [h_9]
      refine lv_if_eq (tgt := 39) hx hb dX11_canScrape_13 rfl (fun c_13 => ?_) (fun c_13 => absurd c_13 (by decide))
      refine lv_iconst (v := 0) hx hb dX11_canScrape_39 kc_iconst_0 ?_
      have hK9 := hK.sub (tys' := []) [] rfl
      exact W.zret (v := 0) hx hb hr rfl (fun t ht hW => ⟨⟨0, (), rfl, (Or.inl rfl), by rw [ht]; exact hP, va_K.moved hW.alike hK9, hD⟩, hS.F ht⟩) hS.2.2 dX11_canScrape_40
    · rw [h_10]
      refine lv_if_eq (tgt := 39) hx hb dX11_canScrape_13 rfl (fun c_14 => absurd c_14 (by decide)) (fun c_14 => ?_)
      refine lv_aload_n hx hb dX11_canScrape_16 rfl (lv_at hl 0 rfl) ?_
      refine lv_aload_n hx hb dX11_canScrape_17 rfl (lv_at hl 1 rfl) ?_
      refine lv_iload_n hx hb dX11_canScrape_18 rfl (lv_at hl 2 rfl) ?_
      refine lv_iload_n hx hb dX11_canScrape_19 rfl (lv_at hl 3 rfl) ?_
      have hPc := hP.sub (ws' := (wd_c_X11_isBeside h0 h0_0 h0_1 h0_2 h0_3 h0_4 h0_f5 h0_6 h0_7 h0_8 h0_9 h0_10 h0_11 h0_12 h0_13 h0_14 h0_f15 h0_1 h0_1_0 h0_1_f1 h0_1_f2 h0_1_f3 h0_1_0 h0_1_0k h0_1_0c h1 h1_f0 h1_f1 h1_f2 h1_f3 h1_4 h1_5 h1_6 h1_7 h1_8 h1_9 h1_10 h1_11 h1_12 h1_4 h1_4k h1_4c h1_5 h1_5k h1_5c)) [0, 1, 2, 3, 4, 5] rfl
      have hDc := hD.sub (ws' := (wd_c_X11_isBeside h0 h0_0 h0_1 h0_2 h0_3 h0_4 h0_f5 h0_6 h0_7 h0_8 h0_9 h0_10 h0_11 h0_12 h0_13 h0_14 h0_f15 h0_1 h0_1_0 h0_1_f1 h0_1_f2 h0_1_f3 h0_1_0 h0_1_0k h0_1_0c h1 h1_f0 h1_f1 h1_f2 h1_f3 h1_4 h1_5 h1_6 h1_7 h1_8 h1_9 h1_10 h1_11 h1_12 h1_4 h1_4k h1_4c h1_5 h1_5k h1_5c)) [0, 1, 2, 3, 4, 5] (by decide) rfl
      have hKc := hK.sub (tys' := [(h0_1_0k, .int), (h1_4k, .int), (h1_5k, .int)]) [0, 1, 2] rfl
      have hFc := va_free (wc := (wd_c_X11_isBeside h0 h0_0 h0_1 h0_2 h0_3 h0_4 h0_f5 h0_6 h0_7 h0_8 h0_9 h0_10 h0_11 h0_12 h0_13 h0_14 h0_f15 h0_1 h0_1_0 h0_1_f1 h0_1_f2 h0_1_f3 h0_1_0 h0_1_0k h0_1_0c h1 h1_f0 h1_f1 h1_f2 h1_f3 h1_4 h1_5 h1_6 h1_7 h1_8 h1_9 h1_10 h1_11 h1_12 h1_4 h1_4k h1_4c h1_5 h1_5k h1_5c)) hD hS hA [0, 1, 2, 3, 4, 5] rfl
      refine va_calli (va_runV (As := [.ref h1, .int p2, .int p3]) (rest := []) ⟨hx, hb, hml, hown, hts⟩ (c_X11_isBeside l dC dI H.size h0 h1 p2 p3 h0_0 h0_1 h0_2 h0_3 h0_4 h0_f5 h0_6 h0_7 h0_8 h0_9 h0_10 h0_11 h0_12 h0_13 h0_14 h0_f15 h0_1_0 h0_1_f1 h0_1_f2 h0_1_f3 h0_1_0k h0_1_0c h1_f0 h1_f1 h1_f2 h1_f3 h1_4 h1_5 h1_6 h1_7 h1_8 h1_9 h1_10 h1_11 h1_12 h1_4k h1_4c h1_5k h1_5c h_5 h_12 g_h0_f5 (RG_w h_11 (by decide)) (RG_w h_4 (by decide)) g_h0_1_f3 a_h0_1_0c) (cwV 3 hts gf_c_X11_canScrape_c_X11_isBeside rfl rfl rfl (by decide +kernel) ⟨Nat.le_of_ble_eq_true rfl, Nat.le_of_ble_eq_true rfl⟩) ⟨fun a U g mk q => by obtain ⟨q0, q1, qP, qK, qD⟩ := q; exact ⟨q0, q1, qP, va_K.moved (u := U) (U := U.calling g mk a) (Vm.Alike.refl U.vm) qK, qD⟩, va_recv hKc hPc (ci := 11) (q0 := 0) rfl rfl, fun U hU hW => ⟨rfl, by rw [hU], by rw [hU]; exact hPc, va_K.moved hW.alike hKc, hDc.weaken (fun _ _ _ _ => trivial)⟩⟩ rfl rfl hl.1 rfl (lv_room (Nat.le_of_ble_eq_true rfl)) dX11_canScrape_20 ⟨Nat.le_of_ble_eq_true rfl, Nat.le_of_ble_eq_true rfl⟩) hS (fun q _ h => hFc q h) hFc (fun r_15 u t H1 locs ht hvm hw hB hz1 hk1 hS => ?_)
      obtain ⟨hP1, hK1, hD1⟩ := hB
      rw [ht] at hP1
      obtain ⟨hP, hD⟩ := va_join (wr := [(h1_12, .inl (h1_12k, 8, .inl h1_12c))]) (w1 := (wd_c_X11_isBeside h0 h0_0 h0_1 h0_2 h0_3 h0_4 h0_f5 h0_6 h0_7 h0_8 h0_9 h0_10 h0_11 h0_12 h0_13 h0_14 h0_f15 h0_1 h0_1_0 h0_1_f1 h0_1_f2 h0_1_f3 h0_1_0 h0_1_0k h0_1_0c h1 h1_f0 h1_f1 h1_f2 h1_f3 h1_4 h1_5 h1_6 h1_7 h1_8 h1_9 h1_10 h1_11 h1_12 h1_4 h1_4k h1_4c h1_5 h1_5k h1_5c)) hP hD [0, 1, 2, 3, 4, 5] [6] rfl rfl (by decide) (by decide) hk1 hFc hP1 hD1
      have hP := hP.sub (ws' := (wd_c_X11_canScrape h0 h0_0 h0_1 h0_2 h0_3 h0_4 h0_f5 h0_6 h0_7 h0_8 h0_9 h0_10 h0_11 h0_12 h0_13 h0_14 h0_f15 h0_1 h0_1_0 h0_1_f1 h0_1_f2 h0_1_f3 h0_1_0 h0_1_0k h0_1_0c h1 h1_f0 h1_f1 h1_f2 h1_f3 h1_4 h1_5 h1_6 h1_7 h1_8 h1_9 h1_10 h1_11 h1_12 h1_4 h1_4k h1_4c h1_5 h1_5k h1_5c h1_12 h1_12k h1_12c)) [1, 2, 3, 4, 5, 6, 0] rfl
      have hD := hD.sub (ws' := (wd_c_X11_canScrape h0 h0_0 h0_1 h0_2 h0_3 h0_4 h0_f5 h0_6 h0_7 h0_8 h0_9 h0_10 h0_11 h0_12 h0_13 h0_14 h0_f15 h0_1 h0_1_0 h0_1_f1 h0_1_f2 h0_1_f3 h0_1_0 h0_1_0k h0_1_0c h1 h1_f0 h1_f1 h1_f2 h1_f3 h1_4 h1_5 h1_6 h1_7 h1_8 h1_9 h1_10 h1_11 h1_12 h1_4 h1_4k h1_4c h1_5 h1_5k h1_5c h1_12 h1_12k h1_12c)) [1, 2, 3, 4, 5, 6, 0] (by decide) rfl
      generalize H1 = H at hP hS ⊢
      rcases hw with h_16 | h_17
      · rw [h_16]
        refine lv_if_eq (tgt := 39) hx hb dX11_canScrape_23 rfl (fun c_18 => ?_) (fun c_18 => absurd c_18 (by decide))
        refine lv_iconst (v := 0) hx hb dX11_canScrape_39 kc_iconst_0 ?_
        have hK9 := hK.sub (tys' := []) [] rfl
        exact W.zret (v := 0) hx hb hr rfl (fun t ht hW => ⟨⟨0, (), rfl, (Or.inl rfl), by rw [ht]; exact hP, va_K.moved hW.alike hK9, hD⟩, hS.F ht⟩) hS.2.2 dX11_canScrape_40
      · rw [h_17]
        refine lv_if_eq (tgt := 39) hx hb dX11_canScrape_23 rfl (fun c_19 => absurd c_19 (by decide)) (fun c_19 => ?_)
        refine lv_aload_n hx hb dX11_canScrape_26 rfl (lv_at hl 1 rfl) ?_
        refine va_get (D := (dC, dI)) (ci := 7) (v := .ref h1_12) (C := RX7) (T := TX7) (N := 13) hx hb hts iw_c_X11_canScrape_X7 hown hK hP 3 rfl rfl 12 (by decide) (hts (.fieldLink RX11 181 "BuoyVote$Sea" "barnacles" "[I") (List.mem_of_getElem? (i := 38) rfl)) (fun _ h9 => h9) rfl dX11_canScrape_27 ?_
        refine lv_iload_n hx hb dX11_canScrape_30 rfl (lv_at hl 3 rfl) ?_
        refine va_iald hx hb hK hP 6 3 rfl rfl (RG_in h_12 (by decide)) dX11_canScrape_31 ?_
        refine lv_topi (fun x_20 ex_20 => ?_)
        refine lv_if_le (tgt := 39) hx hb dX11_canScrape_32 rfl (fun c_21 => ?_) (fun c_21 => ?_)
        · have g_22 : RG x_20 (-2147483648) 0 := RG_le1 (RG_any x_20) (RG_k 0 0 rfl) c_21 (by decide)
          refine lv_iconst (v := 0) hx hb dX11_canScrape_39 kc_iconst_0 ?_
          have hK9 := hK.sub (tys' := []) [] rfl
          exact W.zret (v := 0) hx hb hr rfl (fun t ht hW => ⟨⟨0, (), rfl, (Or.inl rfl), by rw [ht]; exact hP, va_K.moved hW.alike hK9, hD⟩, hS.F ht⟩) hS.2.2 dX11_canScrape_40
        · have d_23 := Int32.not_le.mp c_21
          have g_24 : RG x_20 1 2147483647 := RG_lt2 (RG_k 0 0 rfl) (RG_any x_20) d_23 (by decide)
          refine lv_iconst (v := 1) hx hb dX11_canScrape_35 kc_iconst_1 ?_
          refine lv_goto (tgt := 40) hx hb dX11_canScrape_36 rfl ?_
          have hK9 := hK.sub (tys' := []) [] rfl
          exact W.zret (v := 1) hx hb hr rfl (fun t ht hW => ⟨⟨1, (), rfl, (Or.inr ⟨rfl, h_11, h_4, h_5, h_12⟩), by rw [ht]; exact hP, va_K.moved hW.alike hK9, hD⟩, hS.F ht⟩) hS.2.2 dX11_canScrape_40
def wd_c_X11_canDo (a0 : Nat) (a1 : Nat) (a2 : Int32) (a3 : Nat) (a4 : ClassId) (a5 : Nat → Int32) (a6 : Nat) (a7 : Nat) (a8 : Nat) (a9 : Nat) (a10 : Nat) (a11 : Nat) (a12 : Int32) (a13 : Nat) (a14 : Nat) (a15 : Nat) (a16 : Nat) (a17 : Nat) (a18 : Nat) (a19 : Nat) (a20 : Nat) (a21 : Nat) (a22 : Int64) (a23 : Nat) (a24 : Nat) (a25 : Int32) (a26 : Int32) (a27 : Int32) (a28 : Nat) (a29 : Int32) (a30 : Int32) (a31 : Int32) (a32 : Int32) (a33 : Nat) (a34 : Nat) (a35 : Nat) (a36 : Nat) (a37 : Nat) (a38 : Nat) (a39 : Nat) (a40 : Nat) (a41 : Nat) (a42 : Nat) (a43 : ClassId) (a44 : Nat → Int32) (a45 : Nat) (a46 : ClassId) (a47 : Nat → Int32) (a48 : Nat) (a49 : ClassId) (a50 : Nat → Int32) (a51 : Nat) (a52 : ClassId) (a53 : Nat → Int32) (a54 : Nat) (a55 : ClassId) (a56 : Nat → Int32) (a57 : Nat) (a58 : ClassId) (a59 : Nat → Int32) (a60 : Nat) (a61 : ClassId) (a62 : Nat → Int32) : va_W := [(a0, .inr (6, [.ref a1, .int a2])), (a3, .inl (a4, 64, .inl a5)), (a6, .inr (11, [.ref a7, .ref a8, .ref a9, .ref a10, .ref a11, .int a12, .ref a13, .ref a14, .ref a15, .ref a16, .ref a17, .ref a18, .ref a19, .ref a20, .ref a21, .long a22])), (a23, .inr (0, [.ref a24, .int a25, .int a26, .int a27])), (a28, .inr (7, [.int a29, .int a30, .int a31, .int a32, .ref a33, .ref a34, .ref a35, .ref a36, .ref a37, .ref a38, .ref a39, .ref a40, .ref a41])), (a42, .inl (a43, 3, .inl a44)), (a45, .inl (a46, 3, .inl a47)), (a48, .inl (a49, 80, .inl a50)), (a51, .inl (a52, 3, .inl a53)), (a54, .inl (a55, 3, .inl a56)), (a57, .inl (a58, 24, .inl a59)), (a60, .inl (a61, 8, .inl a62))]
def wf_c_X11_canDo : List Cond := .code yX11_canDo cX11_canDo 6 (some .boolean) :: ([.methodLink RX11 299 yX6_part, .instanceMethod yX6_part, .selects RX6 yX6_part yX6_part, .initialized RX6, .code yX6_part cX6_part 3 (some .int), .fieldLink RX6 11 "BuoyVote$Plan" "cells" "[I", .methodLink RX11 232 yX11_canRow, .instanceMethod yX11_canRow, .selects RX11 yX11_canRow yX11_canRow, .initialized RX11, .code yX11_canRow cX11_canRow 5 (some .boolean), .methodLink RX11 191 yX11_isBoat, .instanceMethod yX11_isBoat, .selects RX11 yX11_isBoat yX11_isBoat, .code yX11_isBoat cX11_isBoat 2 (some .boolean), .fieldLink RX11 19 "BuoyVote" "told" "LBuoyVote$Borough;", .fieldLink RX11 272 "BuoyVote$Borough" "boats" "I", .methodLink RX11 111 yX11_isWithin, .static yX11_isWithin, .code yX11_isWithin cX11_isWithin 3 (some .boolean), .fieldLink RX11 206 "BuoyVote$Sea" "goalX" "[I", .fieldLink RX11 209 "BuoyVote$Sea" "goalY" "[I", .methodLink RX11 248 yX11_canSing, .instanceMethod yX11_canSing, .selects RX11 yX11_canSing yX11_canSing, .code yX11_canSing cX11_canSing 4 (some .boolean), .methodLink RX11 163 yX11_isBuoy, .instanceMethod yX11_isBuoy, .selects RX11 yX11_isBuoy yX11_isBuoy, .code yX11_isBuoy cX11_isBuoy 2 (some .boolean), .fieldLink RX11 275 "BuoyVote$Borough" "buoys" "I", .methodLink RX11 416 yX11_isBeside, .instanceMethod yX11_isBeside, .selects RX11 yX11_isBeside yX11_isBeside, .code yX11_isBeside cX11_isBeside 4 (some .boolean), .methodLink RX11 169 yX0_buoyX, .instanceMethod yX0_buoyX, .selects RX0 yX0_buoyX yX0_buoyX, .initialized RX0, .code yX0_buoyX cX0_buoyX 2 (some .int), .fieldLink RX0 11 "BuoyVote$Borough" "values" "[I", .methodLink RX11 172 yX0_buoyY, .instanceMethod yX0_buoyY, .selects RX0 yX0_buoyY yX0_buoyY, .code yX0_buoyY cX0_buoyY 2 (some .int), .methodLink RX11 240 yX7_awayOf, .instanceMethod yX7_awayOf, .selects RX7 yX7_awayOf yX7_awayOf, .initialized RX7, .code yX7_awayOf cX7_awayOf 4 (some .int), .fieldLink RX7 9 "BuoyVote$Sea" "x" "[I", .methodLink RX7 99 Lib.Math.abs.name, .static Lib.Math.abs.name, .initialized "java/lang/Math", .code Lib.Math.abs.name Lib.Math.abs.code 1 (some .int), .fieldLink RX7 15 "BuoyVote$Sea" "y" "[I", .fieldLink RX11 188 "BuoyVote$Sea" "liking" "[I", .methodLink RX11 256 yX11_canScrape, .instanceMethod yX11_canScrape, .selects RX11 yX11_canScrape yX11_canScrape, .code yX11_canScrape cX11_canScrape 4 (some .boolean), .fieldLink RX11 181 "BuoyVote$Sea" "barnacles" "[I"] ++ wsX60 ++ wsX110 ++ wsX00 ++ wsX70)
theorem iw_c_X11_canDo_X6 : ∀ w ∈ wsX60, w ∈ wf_c_X11_canDo := fun w h => List.mem_cons_of_mem _ (List.mem_append_left _ (List.mem_append_left _ (List.mem_append_left _ (List.mem_append_right _ h))))
theorem iw_c_X11_canDo_X11 : ∀ w ∈ wsX110, w ∈ wf_c_X11_canDo := fun w h => List.mem_cons_of_mem _ (List.mem_append_left _ (List.mem_append_left _ (List.mem_append_right _ h)))
theorem iw_c_X11_canDo_X0 : ∀ w ∈ wsX00, w ∈ wf_c_X11_canDo := fun w h => List.mem_cons_of_mem _ (List.mem_append_left _ (List.mem_append_right _ h))
theorem iw_c_X11_canDo_X7 : ∀ w ∈ wsX70, w ∈ wf_c_X11_canDo := fun w h => List.mem_cons_of_mem _ (List.mem_append_right _ h)
set_option maxRecDepth 20000 in
theorem gf_c_X11_canDo_c_X6_part : GoodIn wf_c_X11_canDo (wsV RX11 299 RX6 yX6_part wf_c_X6_part) := goodIn_app (gi_cons (j := 1) rfl rfl (gi_cons (j := 2) rfl rfl (gi_cons (j := 3) rfl rfl (gi_cons (j := 4) rfl rfl (gi_nil))))) (gi_cons (j := 5) rfl rfl (goodIn_app (gi_cons (j := 6) rfl rfl (gi_nil)) (goodIn_sub iw_c_X11_canDo_X6 gw_X6)))
set_option maxRecDepth 20000 in
theorem gf_c_X11_canDo_c_X11_canRow : GoodIn wf_c_X11_canDo (wsV RX11 232 RX11 yX11_canRow wf_c_X11_canRow) := goodIn_app (gi_cons (j := 7) rfl rfl (gi_cons (j := 8) rfl rfl (gi_cons (j := 9) rfl rfl (gi_cons (j := 10) rfl rfl (gi_nil))))) (gi_cons (j := 11) rfl rfl (goodIn_app (goodIn_app (goodIn_app (gi_cons (j := 12) rfl rfl (gi_cons (j := 13) rfl rfl (gi_cons (j := 14) rfl rfl (gi_cons (j := 10) rfl rfl (gi_cons (j := 15) rfl rfl (gi_cons (j := 16) rfl rfl (gi_cons (j := 17) rfl rfl (gi_cons (j := 18) rfl rfl (gi_cons (j := 19) rfl rfl (gi_cons (j := 20) rfl rfl (gi_cons (j := 21) rfl rfl (gi_cons (j := 22) rfl rfl (gi_nil))))))))))))) (goodIn_sub iw_c_X11_canDo_X11 gw_X11)) (goodIn_sub iw_c_X11_canDo_X0 gw_X0)) (goodIn_sub iw_c_X11_canDo_X7 gw_X7)))
set_option maxRecDepth 20000 in
theorem gf_c_X11_canDo_c_X11_canSing : GoodIn wf_c_X11_canDo (wsV RX11 248 RX11 yX11_canSing wf_c_X11_canSing) := goodIn_app (gi_cons (j := 23) rfl rfl (gi_cons (j := 24) rfl rfl (gi_cons (j := 25) rfl rfl (gi_cons (j := 10) rfl rfl (gi_nil))))) (gi_cons (j := 26) rfl rfl (goodIn_app (goodIn_app (goodIn_app (gi_cons (j := 12) rfl rfl (gi_cons (j := 13) rfl rfl (gi_cons (j := 14) rfl rfl (gi_cons (j := 10) rfl rfl (gi_cons (j := 15) rfl rfl (gi_cons (j := 16) rfl rfl (gi_cons (j := 17) rfl rfl (gi_cons (j := 27) rfl rfl (gi_cons (j := 28) rfl rfl (gi_cons (j := 29) rfl rfl (gi_cons (j := 30) rfl rfl (gi_cons (j := 31) rfl rfl (gi_cons (j := 32) rfl rfl (gi_cons (j := 33) rfl rfl (gi_cons (j := 34) rfl rfl (gi_cons (j := 35) rfl rfl (gi_cons (j := 36) rfl rfl (gi_cons (j := 37) rfl rfl (gi_cons (j := 38) rfl rfl (gi_cons (j := 39) rfl rfl (gi_cons (j := 40) rfl rfl (gi_cons (j := 41) rfl rfl (gi_cons (j := 42) rfl rfl (gi_cons (j := 43) rfl rfl (gi_cons (j := 44) rfl rfl (gi_cons (j := 45) rfl rfl (gi_cons (j := 46) rfl rfl (gi_cons (j := 47) rfl rfl (gi_cons (j := 48) rfl rfl (gi_cons (j := 49) rfl rfl (gi_cons (j := 50) rfl rfl (gi_cons (j := 51) rfl rfl (gi_cons (j := 52) rfl rfl (gi_cons (j := 53) rfl rfl (gi_cons (j := 54) rfl rfl (gi_cons (j := 55) rfl rfl (gi_cons (j := 56) rfl rfl (gi_cons (j := 57) rfl rfl (gi_nil))))))))))))))))))))))))))))))))))))))) (goodIn_sub iw_c_X11_canDo_X11 gw_X11)) (goodIn_sub iw_c_X11_canDo_X0 gw_X0)) (goodIn_sub iw_c_X11_canDo_X7 gw_X7)))
set_option maxRecDepth 20000 in
theorem gf_c_X11_canDo_c_X11_canScrape : GoodIn wf_c_X11_canDo (wsV RX11 256 RX11 yX11_canScrape wf_c_X11_canScrape) := goodIn_app (gi_cons (j := 58) rfl rfl (gi_cons (j := 59) rfl rfl (gi_cons (j := 60) rfl rfl (gi_cons (j := 10) rfl rfl (gi_nil))))) (gi_cons (j := 61) rfl rfl (goodIn_app (goodIn_app (goodIn_app (gi_cons (j := 12) rfl rfl (gi_cons (j := 13) rfl rfl (gi_cons (j := 14) rfl rfl (gi_cons (j := 10) rfl rfl (gi_cons (j := 15) rfl rfl (gi_cons (j := 16) rfl rfl (gi_cons (j := 17) rfl rfl (gi_cons (j := 27) rfl rfl (gi_cons (j := 28) rfl rfl (gi_cons (j := 29) rfl rfl (gi_cons (j := 30) rfl rfl (gi_cons (j := 31) rfl rfl (gi_cons (j := 32) rfl rfl (gi_cons (j := 33) rfl rfl (gi_cons (j := 34) rfl rfl (gi_cons (j := 35) rfl rfl (gi_cons (j := 36) rfl rfl (gi_cons (j := 37) rfl rfl (gi_cons (j := 38) rfl rfl (gi_cons (j := 39) rfl rfl (gi_cons (j := 40) rfl rfl (gi_cons (j := 41) rfl rfl (gi_cons (j := 42) rfl rfl (gi_cons (j := 43) rfl rfl (gi_cons (j := 44) rfl rfl (gi_cons (j := 45) rfl rfl (gi_cons (j := 46) rfl rfl (gi_cons (j := 47) rfl rfl (gi_cons (j := 48) rfl rfl (gi_cons (j := 49) rfl rfl (gi_cons (j := 50) rfl rfl (gi_cons (j := 51) rfl rfl (gi_cons (j := 52) rfl rfl (gi_cons (j := 53) rfl rfl (gi_cons (j := 54) rfl rfl (gi_cons (j := 55) rfl rfl (gi_cons (j := 56) rfl rfl (gi_cons (j := 62) rfl rfl (gi_nil))))))))))))))))))))))))))))))))))))))) (goodIn_sub iw_c_X11_canDo_X11 gw_X11)) (goodIn_sub iw_c_X11_canDo_X0 gw_X0)) (goodIn_sub iw_c_X11_canDo_X7 gw_X7)))
set_option maxHeartbeats 4000000 in
set_option maxRecDepth 100000 in
theorem c_X11_canDo (l : Launch) (dC : Nat → ClassId) (dI : Nat → Nat → Nat) (sz : Nat) (h0 : Nat) (h1 : Nat) (h2 : Nat) (p3 : Int32) (h2_0 : Nat) (h2_f1 : Int32) (h2_0k : ClassId) (h2_0c : Nat → Int32) (h0_0 : Nat) (h0_1 : Nat) (h0_2 : Nat) (h0_3 : Nat) (h0_4 : Nat) (h0_f5 : Int32) (h0_6 : Nat) (h0_7 : Nat) (h0_8 : Nat) (h0_9 : Nat) (h0_10 : Nat) (h0_11 : Nat) (h0_12 : Nat) (h0_13 : Nat) (h0_14 : Nat) (h0_f15 : Int64) (h0_1_0 : Nat) (h0_1_f1 : Int32) (h0_1_f2 : Int32) (h0_1_f3 : Int32) (h1_f0 : Int32) (h1_f1 : Int32) (h1_f2 : Int32) (h1_f3 : Int32) (h1_4 : Nat) (h1_5 : Nat) (h1_6 : Nat) (h1_7 : Nat) (h1_8 : Nat) (h1_9 : Nat) (h1_10 : Nat) (h1_11 : Nat) (h1_12 : Nat) (h1_6k : ClassId) (h1_6c : Nat → Int32) (h1_7k : ClassId) (h1_7c : Nat → Int32) (h0_1_0k : ClassId) (h0_1_0c : Nat → Int32) (h1_4k : ClassId) (h1_4c : Nat → Int32) (h1_5k : ClassId) (h1_5c : Nat → Int32) (h1_10k : ClassId) (h1_10c : Nat → Int32) (h1_12k : ClassId) (h1_12c : Nat → Int32) (y0 : Int32) (y1 : Int32) (y2 : Int32) (y3 : Int32) (g_p3 : RG p3 0 15) (g_h2_f1 : RG h2_f1 0 16) (a_h2_0c : AI h2_0c (-1) 9) (g_h0_f5 : RG h0_f5 0 4) (g_h0_1_f1 : RG h0_1_f1 0 8) (g_h0_1_f2 : RG h0_1_f2 0 3) (g_h0_1_f3 : RG h0_1_f3 0 1) (a_h0_1_0c : AI h0_1_0c (-1) 99) (pv_0 : y0 = h2_0c (p3 * 4 + 0).toNatClampNeg) (g_y0 : RG y0 (-1) 9) (pv_1 : y1 = h2_0c (p3 * 4 + 1).toNatClampNeg) (g_y1 : RG y1 (-1) 9) (pv_2 : y2 = h2_0c (p3 * 4 + 2).toNatClampNeg) (g_y2 : RG y2 (-1) 9) (pv_3 : y3 = h2_0c (p3 * 4 + 3).toNatClampNeg) (g_y3 : RG y3 (-1) 9) : Met l yX11_canDo wf_c_X11_canDo ({ frames := 4, cells := 0, slots := 0, locals := 83 }) (va_Pc [.ref h0, .ref h1, .ref h2, .int p3] (fun U => U.heap.size = sz ∧ va_P (dC, dI) vwCl (wd_c_X11_canDo h2 h2_0 h2_f1 h2_0 h2_0k h2_0c h0 h0_0 h0_1 h0_2 h0_3 h0_4 h0_f5 h0_6 h0_7 h0_8 h0_9 h0_10 h0_11 h0_12 h0_13 h0_14 h0_f15 h0_1 h0_1_0 h0_1_f1 h0_1_f2 h0_1_f3 h1 h1_f0 h1_f1 h1_f2 h1_f3 h1_4 h1_5 h1_6 h1_7 h1_8 h1_9 h1_10 h1_11 h1_12 h1_6 h1_6k h1_6c h1_7 h1_7k h1_7c h0_1_0 h0_1_0k h0_1_0c h1_4 h1_4k h1_4c h1_5 h1_5k h1_5c h1_10 h1_10k h1_10c h1_12 h1_12k h1_12c) U.heap ∧ va_K (dC, dI) vwCl [(h2_0k, .int), (h1_6k, .int), (h1_7k, .int), (h0_1_0k, .int), (h1_4k, .int), (h1_5k, .int), (h1_10k, .int), (h1_12k, .int)] U ∧ va_D (fun _ => True) (wd_c_X11_canDo h2 h2_0 h2_f1 h2_0 h2_0k h2_0c h0 h0_0 h0_1 h0_2 h0_3 h0_4 h0_f5 h0_6 h0_7 h0_8 h0_9 h0_10 h0_11 h0_12 h0_13 h0_14 h0_f15 h0_1 h0_1_0 h0_1_f1 h0_1_f2 h0_1_f3 h1 h1_f0 h1_f1 h1_f2 h1_f3 h1_4 h1_5 h1_6 h1_7 h1_8 h1_9 h1_10 h1_11 h1_12 h1_6 h1_6k h1_6c h1_7 h1_7k h1_7c h0_1_0 h0_1_0k h0_1_0c h1_4 h1_4k h1_4c h1_5 h1_5k h1_5c h1_10 h1_10k h1_10c h1_12 h1_12k h1_12c))) (va_Qi (fun (r : Int32) (u : Unit) => (r = 0) ∨ (r = 1 ∧ RG h0_1_f2 1 3 ∧ RG y0 0 0 ∧ RG y1 0 2 ∧ RG y2 0 9 ∧ RG y3 0 9) ∨ (r = 1 ∧ RG h0_1_f1 1 8 ∧ RG h0_1_f2 1 3 ∧ RG y0 1 1 ∧ RG y1 0 2 ∧ RG y2 0 7) ∨ (r = 1 ∧ RG h0_1_f1 1 8 ∧ RG h0_1_f2 1 3 ∧ RG y0 2 2 ∧ RG y1 0 2 ∧ RG y2 0 7) ∨ (r = 1 ∧ RG y0 (-1) (-1) ∧ RG y1 1 9) ∨ (r = 1 ∧ RG y0 3 9 ∧ RG y1 1 9)) (fun (u : Unit) t => va_P (dC, dI) vwCl (wd_c_X11_canDo h2 h2_0 h2_f1 h2_0 h2_0k h2_0c h0 h0_0 h0_1 h0_2 h0_3 h0_4 h0_f5 h0_6 h0_7 h0_8 h0_9 h0_10 h0_11 h0_12 h0_13 h0_14 h0_f15 h0_1 h0_1_0 h0_1_f1 h0_1_f2 h0_1_f3 h1 h1_f0 h1_f1 h1_f2 h1_f3 h1_4 h1_5 h1_6 h1_7 h1_8 h1_9 h1_10 h1_11 h1_12 h1_6 h1_6k h1_6c h1_7 h1_7k h1_7c h0_1_0 h0_1_0k h0_1_0c h1_4 h1_4k h1_4c h1_5 h1_5k h1_5c h1_10 h1_10k h1_10c h1_12 h1_12k h1_12c) t.heap ∧ va_K (dC, dI) vwCl [] t ∧ va_D (va_A (wd_c_X11_canDo h2 h2_0 h2_f1 h2_0 h2_0k h2_0c h0 h0_0 h0_1 h0_2 h0_3 h0_4 h0_f5 h0_6 h0_7 h0_8 h0_9 h0_10 h0_11 h0_12 h0_13 h0_14 h0_f15 h0_1 h0_1_0 h0_1_f1 h0_1_f2 h0_1_f3 h1 h1_f0 h1_f1 h1_f2 h1_f3 h1_4 h1_5 h1_6 h1_7 h1_8 h1_9 h1_10 h1_11 h1_12 h1_6 h1_6k h1_6c h1_7 h1_7k h1_7c h0_1_0 h0_1_0k h0_1_0c h1_4 h1_4k h1_4c h1_5 h1_5k h1_5c h1_10 h1_10k h1_10c h1_12 h1_12k h1_12c) sz) (wd_c_X11_canDo h2 h2_0 h2_f1 h2_0 h2_0k h2_0c h0 h0_0 h0_1 h0_2 h0_3 h0_4 h0_f5 h0_6 h0_7 h0_8 h0_9 h0_10 h0_11 h0_12 h0_13 h0_14 h0_f15 h0_1 h0_1_0 h0_1_f1 h0_1_f2 h0_1_f3 h1 h1_f0 h1_f1 h1_f2 h1_f3 h1_4 h1_5 h1_6 h1_7 h1_8 h1_9 h1_10 h1_11 h1_12 h1_6 h1_6k h1_6c h1_7 h1_7k h1_7c h0_1_0 h0_1_0k h0_1_0c h1_4 h1_4k h1_4c h1_5 h1_5k h1_5c h1_10 h1_10k h1_10c h1_12 h1_12k h1_12c)) (va_A (wd_c_X11_canDo h2 h2_0 h2_f1 h2_0 h2_0k h2_0c h0 h0_0 h0_1 h0_2 h0_3 h0_4 h0_f5 h0_6 h0_7 h0_8 h0_9 h0_10 h0_11 h0_12 h0_13 h0_14 h0_f15 h0_1 h0_1_0 h0_1_f1 h0_1_f2 h0_1_f3 h1 h1_f0 h1_f1 h1_f2 h1_f3 h1_4 h1_5 h1_6 h1_7 h1_8 h1_9 h1_10 h1_11 h1_12 h1_6 h1_6k h1_6c h1_7 h1_7k h1_7c h0_1_0 h0_1_0k h0_1_0c h1_4 h1_4k h1_4c h1_5 h1_5k h1_5c h1_10 h1_10k h1_10c h1_12 h1_12k h1_12c) sz)) 0 0 (va_A (wd_c_X11_canDo h2 h2_0 h2_f1 h2_0 h2_0k h2_0c h0 h0_0 h0_1 h0_2 h0_3 h0_4 h0_f5 h0_6 h0_7 h0_8 h0_9 h0_10 h0_11 h0_12 h0_13 h0_14 h0_f15 h0_1 h0_1_0 h0_1_f1 h0_1_f2 h0_1_f3 h1 h1_f0 h1_f1 h1_f2 h1_f3 h1_4 h1_5 h1_6 h1_7 h1_8 h1_9 h1_10 h1_11 h1_12 h1_6 h1_6k h1_6c h1_7 h1_7k h1_7c h0_1_0 h0_1_0k h0_1_0c h1_4 h1_4k h1_4c h1_5 h1_5k h1_5c h1_10 h1_10k h1_10c h1_12 h1_12k h1_12c) sz) := by
  refine Met.ofW (cc := cX11_canDo) (maxL := 6) (ret := (some .boolean)) (by decide) rfl ?_
  intro p e s m args below meth c s₁ B hml hv
  obtain ⟨rfl, hsz, hP, hK, hD0⟩ := hv
  have hx := B.exec
  have hb := B.bytes
  have hr := B.returns
  have hts := atoms_spec (ws := wf_c_X11_canDo) B.pre
  have hown : s.vm.findClass RX11 = some m.cls := findClass_of_methodNamed B.named
  have hlocks := B.notSynchronized
  subst hsz
  have hD := hD0.self (sz := s.heap.size)
  generalize hAe : va_A (wd_c_X11_canDo h2 h2_0 h2_f1 h2_0 h2_0k h2_0c h0 h0_0 h0_1 h0_2 h0_3 h0_4 h0_f5 h0_6 h0_7 h0_8 h0_9 h0_10 h0_11 h0_12 h0_13 h0_14 h0_f15 h0_1 h0_1_0 h0_1_f1 h0_1_f2 h0_1_f3 h1 h1_f0 h1_f1 h1_f2 h1_f3 h1_4 h1_5 h1_6 h1_7 h1_8 h1_9 h1_10 h1_11 h1_12 h1_6 h1_6k h1_6c h1_7 h1_7k h1_7c h0_1_0 h0_1_0k h0_1_0c h1_4 h1_4k h1_4c h1_5 h1_5k h1_5c h1_10 h1_10k h1_10c h1_12 h1_12k h1_12c) s.heap.size = A at hD ⊢
  have hA : ∀ q : Nat, s.heap.size ≤ q → A q := fun q h => by rw [← hAe]; exact Or.inr h
  have hP : va_P (dC, dI) vwCl (wd_c_X11_canDo h2 h2_0 h2_f1 h2_0 h2_0k h2_0c h0 h0_0 h0_1 h0_2 h0_3 h0_4 h0_f5 h0_6 h0_7 h0_8 h0_9 h0_10 h0_11 h0_12 h0_13 h0_14 h0_f15 h0_1 h0_1_0 h0_1_f1 h0_1_f2 h0_1_f3 h1 h1_f0 h1_f1 h1_f2 h1_f3 h1_4 h1_5 h1_6 h1_7 h1_8 h1_9 h1_10 h1_11 h1_12 h1_6 h1_6k h1_6c h1_7 h1_7k h1_7c h0_1_0 h0_1_0k h0_1_0c h1_4 h1_4k h1_4c h1_5 h1_5k h1_5c h1_10 h1_10k h1_10c h1_12 h1_12k h1_12c) s.heap := hP
  have hl := lv_entry ([.ref h0, .ref h1, .ref h2, .int p3]) (n := 6) (Nat.le_of_ble_eq_true rfl)
  rw [lg_entry_eq]
  generalize (lg_sl ([.ref h0, .ref h1, .ref h2, .int p3]) ++ List.replicate (6 - (lg_sl ([.ref h0, .ref h1, .ref h2, .int p3])).length) Slot.unset).toArray = ls at hl ⊢
  have hl : lv_has ls 6 [(0, .ref h0), (1, .ref h1), (2, .ref h2), (3, .int p3)] := hl
  obtain ⟨H, hHe⟩ : ∃ H : Heap, s.heap = H := ⟨_, rfl⟩
  have hS : va_S A s.heap H [] := by rw [hHe]; exact va_S.rf
  have hP : va_P (dC, dI) vwCl (wd_c_X11_canDo h2 h2_0 h2_f1 h2_0 h2_0k h2_0c h0 h0_0 h0_1 h0_2 h0_3 h0_4 h0_f5 h0_6 h0_7 h0_8 h0_9 h0_10 h0_11 h0_12 h0_13 h0_14 h0_f15 h0_1 h0_1_0 h0_1_f1 h0_1_f2 h0_1_f3 h1 h1_f0 h1_f1 h1_f2 h1_f3 h1_4 h1_5 h1_6 h1_7 h1_8 h1_9 h1_10 h1_11 h1_12 h1_6 h1_6k h1_6c h1_7 h1_7k h1_7c h0_1_0 h0_1_0k h0_1_0c h1_4 h1_4k h1_4c h1_5 h1_5k h1_5c h1_10 h1_10k h1_10c h1_12 h1_12k h1_12c) H := by rw [← hHe]; exact hP
  rw [hHe]
  refine lv_aload_n hx hb dX11_canDo_0 rfl (lv_at hl 2 rfl) ?_
  refine lv_iload_n hx hb dX11_canDo_1 rfl (lv_at hl 3 rfl) ?_
  refine lv_iconst (v := 1) hx hb dX11_canDo_2 kc_iconst_1 ?_
  have hPc := hP.sub (ws' := (wd_c_X6_part h2 h2_0 h2_f1 h2_0 h2_0k h2_0c)) [0, 1] rfl
  have hDc := hD.sub (ws' := (wd_c_X6_part h2 h2_0 h2_f1 h2_0 h2_0k h2_0c)) [0, 1] (by decide) rfl
  have hKc := hK.sub (tys' := [(h2_0k, .int)]) [0] rfl
  have hFc := va_free (wc := (wd_c_X6_part h2 h2_0 h2_f1 h2_0 h2_0k h2_0c)) hD hS hA [0, 1] rfl
  refine va_calli (va_runV (As := [.int p3, .int 1]) (rest := []) ⟨hx, hb, hml, hown, hts⟩ (c_X6_part l dC dI H.size h2 p3 1 h2_0 h2_f1 h2_0k h2_0c g_p3 (RG_w (RG_k 1 1 rfl) (by decide)) g_h2_f1 a_h2_0c) (cwV 2 hts gf_c_X11_canDo_c_X6_part rfl rfl rfl (by decide +kernel) ⟨Nat.le_of_ble_eq_true rfl, Nat.le_of_ble_eq_true rfl⟩) ⟨fun a U g mk q => by obtain ⟨q0, q1, qP, qK, qD⟩ := q; exact ⟨q0, q1, qP, va_K.moved (u := U) (U := U.calling g mk a) (Vm.Alike.refl U.vm) qK, qD⟩, va_recv hKc hPc (ci := 6) (q0 := 0) rfl rfl, fun U hU hW => ⟨rfl, by rw [hU], by rw [hU]; exact hPc, va_K.moved hW.alike hKc, hDc.weaken (fun _ _ _ _ => trivial)⟩⟩ rfl rfl hl.1 rfl (lv_room (Nat.le_of_ble_eq_true rfl)) dX11_canDo_3 ⟨Nat.le_of_ble_eq_true rfl, Nat.le_of_ble_eq_true rfl⟩) hS (fun q _ h => hFc q h) hFc (fun r_1 u t H1 locs ht hvm hw hB hz1 hk1 hS => ?_)
  obtain ⟨hP1, hK1, hD1⟩ := hB
  rw [ht] at hP1
  obtain ⟨hP, hD⟩ := va_join (wr := [(h0, .inr (11, [.ref h0_0, .ref h0_1, .ref h0_2, .ref h0_3, .ref h0_4, .int h0_f5, .ref h0_6, .ref h0_7, .ref h0_8, .ref h0_9, .ref h0_10, .ref h0_11, .ref h0_12, .ref h0_13, .ref h0_14, .long h0_f15])), (h0_1, .inr (0, [.ref h0_1_0, .int h0_1_f1, .int h0_1_f2, .int h0_1_f3])), (h1, .inr (7, [.int h1_f0, .int h1_f1, .int h1_f2, .int h1_f3, .ref h1_4, .ref h1_5, .ref h1_6, .ref h1_7, .ref h1_8, .ref h1_9, .ref h1_10, .ref h1_11, .ref h1_12])), (h1_6, .inl (h1_6k, 3, .inl h1_6c)), (h1_7, .inl (h1_7k, 3, .inl h1_7c)), (h0_1_0, .inl (h0_1_0k, 80, .inl h0_1_0c)), (h1_4, .inl (h1_4k, 3, .inl h1_4c)), (h1_5, .inl (h1_5k, 3, .inl h1_5c)), (h1_10, .inl (h1_10k, 24, .inl h1_10c)), (h1_12, .inl (h1_12k, 8, .inl h1_12c))]) (w1 := (wd_c_X6_part h2 h2_0 h2_f1 h2_0 h2_0k h2_0c)) hP hD [0, 1] [2, 3, 4, 5, 6, 7, 8, 9, 10, 11] rfl rfl (by decide) (by decide) hk1 hFc hP1 hD1
  have hP := hP.sub (ws' := (wd_c_X11_canDo h2 h2_0 h2_f1 h2_0 h2_0k h2_0c h0 h0_0 h0_1 h0_2 h0_3 h0_4 h0_f5 h0_6 h0_7 h0_8 h0_9 h0_10 h0_11 h0_12 h0_13 h0_14 h0_f15 h0_1 h0_1_0 h0_1_f1 h0_1_f2 h0_1_f3 h1 h1_f0 h1_f1 h1_f2 h1_f3 h1_4 h1_5 h1_6 h1_7 h1_8 h1_9 h1_10 h1_11 h1_12 h1_6 h1_6k h1_6c h1_7 h1_7k h1_7c h0_1_0 h0_1_0k h0_1_0c h1_4 h1_4k h1_4c h1_5 h1_5k h1_5c h1_10 h1_10k h1_10c h1_12 h1_12k h1_12c)) [10, 11, 0, 1, 2, 3, 4, 5, 6, 7, 8, 9] rfl
  have hD := hD.sub (ws' := (wd_c_X11_canDo h2 h2_0 h2_f1 h2_0 h2_0k h2_0c h0 h0_0 h0_1 h0_2 h0_3 h0_4 h0_f5 h0_6 h0_7 h0_8 h0_9 h0_10 h0_11 h0_12 h0_13 h0_14 h0_f15 h0_1 h0_1_0 h0_1_f1 h0_1_f2 h0_1_f3 h1 h1_f0 h1_f1 h1_f2 h1_f3 h1_4 h1_5 h1_6 h1_7 h1_8 h1_9 h1_10 h1_11 h1_12 h1_6 h1_6k h1_6c h1_7 h1_7k h1_7c h0_1_0 h0_1_0k h0_1_0c h1_4 h1_4k h1_4c h1_5 h1_5k h1_5c h1_10 h1_10k h1_10c h1_12 h1_12k h1_12c)) [10, 11, 0, 1, 2, 3, 4, 5, 6, 7, 8, 9] (by decide) rfl
  generalize H1 = H at hP hS ⊢
  rcases hw with ⟨h_2, h_3⟩
  obtain rfl : y1 = r_1 := (h_3.trans pv_1.symm).symm
  refine lv_istore (lv' := [(4, .int y1), (0, .ref h0), (1, .ref h1), (2, .ref h2), (3, .int p3)]) hx hb dX11_canDo_6 hl (Nat.le_of_ble_eq_true rfl) rfl (fun ls hl => ?_)
  refine lv_aload_n hx hb dX11_canDo_8 rfl (lv_at hl 3 rfl) ?_
  refine lv_iload_n hx hb dX11_canDo_9 rfl (lv_at hl 4 rfl) ?_
  refine lv_iconst (v := 2) hx hb dX11_canDo_10 kc_iconst_2 ?_
  have hPc := hP.sub (ws' := (wd_c_X6_part h2 h2_0 h2_f1 h2_0 h2_0k h2_0c)) [0, 1] rfl
  have hDc := hD.sub (ws' := (wd_c_X6_part h2 h2_0 h2_f1 h2_0 h2_0k h2_0c)) [0, 1] (by decide) rfl
  have hKc := hK.sub (tys' := [(h2_0k, .int)]) [0] rfl
  have hFc := va_free (wc := (wd_c_X6_part h2 h2_0 h2_f1 h2_0 h2_0k h2_0c)) hD hS hA [0, 1] rfl
  refine va_calli (va_runV (As := [.int p3, .int 2]) (rest := []) ⟨hx, hb, hml, hown, hts⟩ (c_X6_part l dC dI H.size h2 p3 2 h2_0 h2_f1 h2_0k h2_0c g_p3 (RG_w (RG_k 2 2 rfl) (by decide)) g_h2_f1 a_h2_0c) (cwV 2 hts gf_c_X11_canDo_c_X6_part rfl rfl rfl (by decide +kernel) ⟨Nat.le_of_ble_eq_true rfl, Nat.le_of_ble_eq_true rfl⟩) ⟨fun a U g mk q => by obtain ⟨q0, q1, qP, qK, qD⟩ := q; exact ⟨q0, q1, qP, va_K.moved (u := U) (U := U.calling g mk a) (Vm.Alike.refl U.vm) qK, qD⟩, va_recv hKc hPc (ci := 6) (q0 := 0) rfl rfl, fun U hU hW => ⟨rfl, by rw [hU], by rw [hU]; exact hPc, va_K.moved hW.alike hKc, hDc.weaken (fun _ _ _ _ => trivial)⟩⟩ rfl rfl hl.1 rfl (lv_room (Nat.le_of_ble_eq_true rfl)) dX11_canDo_11 ⟨Nat.le_of_ble_eq_true rfl, Nat.le_of_ble_eq_true rfl⟩) hS (fun q _ h => hFc q h) hFc (fun r_4 u t H1 locs ht hvm hw hB hz1 hk1 hS => ?_)
  obtain ⟨hP1, hK1, hD1⟩ := hB
  rw [ht] at hP1
  obtain ⟨hP, hD⟩ := va_join (wr := [(h0, .inr (11, [.ref h0_0, .ref h0_1, .ref h0_2, .ref h0_3, .ref h0_4, .int h0_f5, .ref h0_6, .ref h0_7, .ref h0_8, .ref h0_9, .ref h0_10, .ref h0_11, .ref h0_12, .ref h0_13, .ref h0_14, .long h0_f15])), (h0_1, .inr (0, [.ref h0_1_0, .int h0_1_f1, .int h0_1_f2, .int h0_1_f3])), (h1, .inr (7, [.int h1_f0, .int h1_f1, .int h1_f2, .int h1_f3, .ref h1_4, .ref h1_5, .ref h1_6, .ref h1_7, .ref h1_8, .ref h1_9, .ref h1_10, .ref h1_11, .ref h1_12])), (h1_6, .inl (h1_6k, 3, .inl h1_6c)), (h1_7, .inl (h1_7k, 3, .inl h1_7c)), (h0_1_0, .inl (h0_1_0k, 80, .inl h0_1_0c)), (h1_4, .inl (h1_4k, 3, .inl h1_4c)), (h1_5, .inl (h1_5k, 3, .inl h1_5c)), (h1_10, .inl (h1_10k, 24, .inl h1_10c)), (h1_12, .inl (h1_12k, 8, .inl h1_12c))]) (w1 := (wd_c_X6_part h2 h2_0 h2_f1 h2_0 h2_0k h2_0c)) hP hD [0, 1] [2, 3, 4, 5, 6, 7, 8, 9, 10, 11] rfl rfl (by decide) (by decide) hk1 hFc hP1 hD1
  have hP := hP.sub (ws' := (wd_c_X11_canDo h2 h2_0 h2_f1 h2_0 h2_0k h2_0c h0 h0_0 h0_1 h0_2 h0_3 h0_4 h0_f5 h0_6 h0_7 h0_8 h0_9 h0_10 h0_11 h0_12 h0_13 h0_14 h0_f15 h0_1 h0_1_0 h0_1_f1 h0_1_f2 h0_1_f3 h1 h1_f0 h1_f1 h1_f2 h1_f3 h1_4 h1_5 h1_6 h1_7 h1_8 h1_9 h1_10 h1_11 h1_12 h1_6 h1_6k h1_6c h1_7 h1_7k h1_7c h0_1_0 h0_1_0k h0_1_0c h1_4 h1_4k h1_4c h1_5 h1_5k h1_5c h1_10 h1_10k h1_10c h1_12 h1_12k h1_12c)) [10, 11, 0, 1, 2, 3, 4, 5, 6, 7, 8, 9] rfl
  have hD := hD.sub (ws' := (wd_c_X11_canDo h2 h2_0 h2_f1 h2_0 h2_0k h2_0c h0 h0_0 h0_1 h0_2 h0_3 h0_4 h0_f5 h0_6 h0_7 h0_8 h0_9 h0_10 h0_11 h0_12 h0_13 h0_14 h0_f15 h0_1 h0_1_0 h0_1_f1 h0_1_f2 h0_1_f3 h1 h1_f0 h1_f1 h1_f2 h1_f3 h1_4 h1_5 h1_6 h1_7 h1_8 h1_9 h1_10 h1_11 h1_12 h1_6 h1_6k h1_6c h1_7 h1_7k h1_7c h0_1_0 h0_1_0k h0_1_0c h1_4 h1_4k h1_4c h1_5 h1_5k h1_5c h1_10 h1_10k h1_10c h1_12 h1_12k h1_12c)) [10, 11, 0, 1, 2, 3, 4, 5, 6, 7, 8, 9] (by decide) rfl
  generalize H1 = H at hP hS ⊢
  rcases hw with ⟨h_5, h_6⟩
  obtain rfl : y2 = r_4 := (h_6.trans pv_2.symm).symm
  refine lv_istore (lv' := [(5, .int y2), (4, .int y1), (0, .ref h0), (1, .ref h1), (2, .ref h2), (3, .int p3)]) hx hb dX11_canDo_14 hl (Nat.le_of_ble_eq_true rfl) rfl (fun ls hl => ?_)
  refine lv_aload_n hx hb dX11_canDo_16 rfl (lv_at hl 4 rfl) ?_
  refine lv_iload_n hx hb dX11_canDo_17 rfl (lv_at hl 5 rfl) ?_
  refine lv_iconst (v := 0) hx hb dX11_canDo_18 kc_iconst_0 ?_
  have hPc := hP.sub (ws' := (wd_c_X6_part h2 h2_0 h2_f1 h2_0 h2_0k h2_0c)) [0, 1] rfl
  have hDc := hD.sub (ws' := (wd_c_X6_part h2 h2_0 h2_f1 h2_0 h2_0k h2_0c)) [0, 1] (by decide) rfl
  have hKc := hK.sub (tys' := [(h2_0k, .int)]) [0] rfl
  have hFc := va_free (wc := (wd_c_X6_part h2 h2_0 h2_f1 h2_0 h2_0k h2_0c)) hD hS hA [0, 1] rfl
  refine va_calli (va_runV (As := [.int p3, .int 0]) (rest := []) ⟨hx, hb, hml, hown, hts⟩ (c_X6_part l dC dI H.size h2 p3 0 h2_0 h2_f1 h2_0k h2_0c g_p3 (RG_w (RG_k 0 0 rfl) (by decide)) g_h2_f1 a_h2_0c) (cwV 2 hts gf_c_X11_canDo_c_X6_part rfl rfl rfl (by decide +kernel) ⟨Nat.le_of_ble_eq_true rfl, Nat.le_of_ble_eq_true rfl⟩) ⟨fun a U g mk q => by obtain ⟨q0, q1, qP, qK, qD⟩ := q; exact ⟨q0, q1, qP, va_K.moved (u := U) (U := U.calling g mk a) (Vm.Alike.refl U.vm) qK, qD⟩, va_recv hKc hPc (ci := 6) (q0 := 0) rfl rfl, fun U hU hW => ⟨rfl, by rw [hU], by rw [hU]; exact hPc, va_K.moved hW.alike hKc, hDc.weaken (fun _ _ _ _ => trivial)⟩⟩ rfl rfl hl.1 rfl (lv_room (Nat.le_of_ble_eq_true rfl)) dX11_canDo_19 ⟨Nat.le_of_ble_eq_true rfl, Nat.le_of_ble_eq_true rfl⟩) hS (fun q _ h => hFc q h) hFc (fun r_7 u t H1 locs ht hvm hw hB hz1 hk1 hS => ?_)
  obtain ⟨hP1, hK1, hD1⟩ := hB
  rw [ht] at hP1
  obtain ⟨hP, hD⟩ := va_join (wr := [(h0, .inr (11, [.ref h0_0, .ref h0_1, .ref h0_2, .ref h0_3, .ref h0_4, .int h0_f5, .ref h0_6, .ref h0_7, .ref h0_8, .ref h0_9, .ref h0_10, .ref h0_11, .ref h0_12, .ref h0_13, .ref h0_14, .long h0_f15])), (h0_1, .inr (0, [.ref h0_1_0, .int h0_1_f1, .int h0_1_f2, .int h0_1_f3])), (h1, .inr (7, [.int h1_f0, .int h1_f1, .int h1_f2, .int h1_f3, .ref h1_4, .ref h1_5, .ref h1_6, .ref h1_7, .ref h1_8, .ref h1_9, .ref h1_10, .ref h1_11, .ref h1_12])), (h1_6, .inl (h1_6k, 3, .inl h1_6c)), (h1_7, .inl (h1_7k, 3, .inl h1_7c)), (h0_1_0, .inl (h0_1_0k, 80, .inl h0_1_0c)), (h1_4, .inl (h1_4k, 3, .inl h1_4c)), (h1_5, .inl (h1_5k, 3, .inl h1_5c)), (h1_10, .inl (h1_10k, 24, .inl h1_10c)), (h1_12, .inl (h1_12k, 8, .inl h1_12c))]) (w1 := (wd_c_X6_part h2 h2_0 h2_f1 h2_0 h2_0k h2_0c)) hP hD [0, 1] [2, 3, 4, 5, 6, 7, 8, 9, 10, 11] rfl rfl (by decide) (by decide) hk1 hFc hP1 hD1
  have hP := hP.sub (ws' := (wd_c_X11_canDo h2 h2_0 h2_f1 h2_0 h2_0k h2_0c h0 h0_0 h0_1 h0_2 h0_3 h0_4 h0_f5 h0_6 h0_7 h0_8 h0_9 h0_10 h0_11 h0_12 h0_13 h0_14 h0_f15 h0_1 h0_1_0 h0_1_f1 h0_1_f2 h0_1_f3 h1 h1_f0 h1_f1 h1_f2 h1_f3 h1_4 h1_5 h1_6 h1_7 h1_8 h1_9 h1_10 h1_11 h1_12 h1_6 h1_6k h1_6c h1_7 h1_7k h1_7c h0_1_0 h0_1_0k h0_1_0c h1_4 h1_4k h1_4c h1_5 h1_5k h1_5c h1_10 h1_10k h1_10c h1_12 h1_12k h1_12c)) [10, 11, 0, 1, 2, 3, 4, 5, 6, 7, 8, 9] rfl
  have hD := hD.sub (ws' := (wd_c_X11_canDo h2 h2_0 h2_f1 h2_0 h2_0k h2_0c h0 h0_0 h0_1 h0_2 h0_3 h0_4 h0_f5 h0_6 h0_7 h0_8 h0_9 h0_10 h0_11 h0_12 h0_13 h0_14 h0_f15 h0_1 h0_1_0 h0_1_f1 h0_1_f2 h0_1_f3 h1 h1_f0 h1_f1 h1_f2 h1_f3 h1_4 h1_5 h1_6 h1_7 h1_8 h1_9 h1_10 h1_11 h1_12 h1_6 h1_6k h1_6c h1_7 h1_7k h1_7c h0_1_0 h0_1_0k h0_1_0c h1_4 h1_4k h1_4c h1_5 h1_5k h1_5c h1_10 h1_10k h1_10c h1_12 h1_12k h1_12c)) [10, 11, 0, 1, 2, 3, 4, 5, 6, 7, 8, 9] (by decide) rfl
  generalize H1 = H at hP hS ⊢
  rcases hw with ⟨h_8, h_9⟩
  obtain rfl : y0 = r_7 := (h_9.trans pv_0.symm).symm
  by_cases c_10 : y0 = 0
  · have hsw : y0.toInt = 0 := by rw [c_10]; rfl
    refine lv_tableIn (off := 26) (tgt := 48) hx hb dX11_canDo_22 (by rw [hsw]; decide) (by rw [hsw]; decide) (by rw [hsw]; decide) (by decide) ?_
    have g_11 : RG y0 0 0 := RG_k _ _ hsw
    refine lv_aload_n hx hb dX11_canDo_48 rfl (lv_at hl 2 rfl) ?_
    refine lv_aload_n hx hb dX11_canDo_49 rfl (lv_at hl 3 rfl) ?_
    refine lv_iload hx hb dX11_canDo_50 (lv_at hl 1 rfl) ?_
    refine lv_iload hx hb dX11_canDo_52 (lv_at hl 0 rfl) ?_
    refine lv_aload_n hx hb dX11_canDo_54 rfl (lv_at hl 4 rfl) ?_
    refine lv_iload_n hx hb dX11_canDo_55 rfl (lv_at hl 5 rfl) ?_
    refine lv_iconst (v := 3) hx hb dX11_canDo_56 kc_iconst_3 ?_
    have hPc := hP.sub (ws' := (wd_c_X6_part h2 h2_0 h2_f1 h2_0 h2_0k h2_0c)) [0, 1] rfl
    have hDc := hD.sub (ws' := (wd_c_X6_part h2 h2_0 h2_f1 h2_0 h2_0k h2_0c)) [0, 1] (by decide) rfl
    have hKc := hK.sub (tys' := [(h2_0k, .int)]) [0] rfl
    have hFc := va_free (wc := (wd_c_X6_part h2 h2_0 h2_f1 h2_0 h2_0k h2_0c)) hD hS hA [0, 1] rfl
    refine va_calli (va_runV (As := [.int p3, .int 3]) (rest := [.int y2, .int y1, .ref h1, .ref h0]) ⟨hx, hb, hml, hown, hts⟩ (c_X6_part l dC dI H.size h2 p3 3 h2_0 h2_f1 h2_0k h2_0c g_p3 (RG_w (RG_k 3 3 rfl) (by decide)) g_h2_f1 a_h2_0c) (cwV 2 hts gf_c_X11_canDo_c_X6_part rfl rfl rfl (by decide +kernel) ⟨Nat.le_of_ble_eq_true rfl, Nat.le_of_ble_eq_true rfl⟩) ⟨fun a U g mk q => by obtain ⟨q0, q1, qP, qK, qD⟩ := q; exact ⟨q0, q1, qP, va_K.moved (u := U) (U := U.calling g mk a) (Vm.Alike.refl U.vm) qK, qD⟩, va_recv hKc hPc (ci := 6) (q0 := 0) rfl rfl, fun U hU hW => ⟨rfl, by rw [hU], by rw [hU]; exact hPc, va_K.moved hW.alike hKc, hDc.weaken (fun _ _ _ _ => trivial)⟩⟩ rfl rfl hl.1 rfl (lv_room (Nat.le_of_ble_eq_true rfl)) dX11_canDo_57 ⟨Nat.le_of_ble_eq_true rfl, Nat.le_of_ble_eq_true rfl⟩) hS (fun q _ h => hFc q h) hFc (fun r_12 u t H1 locs ht hvm hw hB hz1 hk1 hS => ?_)
    obtain ⟨hP1, hK1, hD1⟩ := hB
    rw [ht] at hP1
    obtain ⟨hP, hD⟩ := va_join (wr := [(h0, .inr (11, [.ref h0_0, .ref h0_1, .ref h0_2, .ref h0_3, .ref h0_4, .int h0_f5, .ref h0_6, .ref h0_7, .ref h0_8, .ref h0_9, .ref h0_10, .ref h0_11, .ref h0_12, .ref h0_13, .ref h0_14, .long h0_f15])), (h0_1, .inr (0, [.ref h0_1_0, .int h0_1_f1, .int h0_1_f2, .int h0_1_f3])), (h1, .inr (7, [.int h1_f0, .int h1_f1, .int h1_f2, .int h1_f3, .ref h1_4, .ref h1_5, .ref h1_6, .ref h1_7, .ref h1_8, .ref h1_9, .ref h1_10, .ref h1_11, .ref h1_12])), (h1_6, .inl (h1_6k, 3, .inl h1_6c)), (h1_7, .inl (h1_7k, 3, .inl h1_7c)), (h0_1_0, .inl (h0_1_0k, 80, .inl h0_1_0c)), (h1_4, .inl (h1_4k, 3, .inl h1_4c)), (h1_5, .inl (h1_5k, 3, .inl h1_5c)), (h1_10, .inl (h1_10k, 24, .inl h1_10c)), (h1_12, .inl (h1_12k, 8, .inl h1_12c))]) (w1 := (wd_c_X6_part h2 h2_0 h2_f1 h2_0 h2_0k h2_0c)) hP hD [0, 1] [2, 3, 4, 5, 6, 7, 8, 9, 10, 11] rfl rfl (by decide) (by decide) hk1 hFc hP1 hD1
    have hP := hP.sub (ws' := (wd_c_X11_canDo h2 h2_0 h2_f1 h2_0 h2_0k h2_0c h0 h0_0 h0_1 h0_2 h0_3 h0_4 h0_f5 h0_6 h0_7 h0_8 h0_9 h0_10 h0_11 h0_12 h0_13 h0_14 h0_f15 h0_1 h0_1_0 h0_1_f1 h0_1_f2 h0_1_f3 h1 h1_f0 h1_f1 h1_f2 h1_f3 h1_4 h1_5 h1_6 h1_7 h1_8 h1_9 h1_10 h1_11 h1_12 h1_6 h1_6k h1_6c h1_7 h1_7k h1_7c h0_1_0 h0_1_0k h0_1_0c h1_4 h1_4k h1_4c h1_5 h1_5k h1_5c h1_10 h1_10k h1_10c h1_12 h1_12k h1_12c)) [10, 11, 0, 1, 2, 3, 4, 5, 6, 7, 8, 9] rfl
    have hD := hD.sub (ws' := (wd_c_X11_canDo h2 h2_0 h2_f1 h2_0 h2_0k h2_0c h0 h0_0 h0_1 h0_2 h0_3 h0_4 h0_f5 h0_6 h0_7 h0_8 h0_9 h0_10 h0_11 h0_12 h0_13 h0_14 h0_f15 h0_1 h0_1_0 h0_1_f1 h0_1_f2 h0_1_f3 h1 h1_f0 h1_f1 h1_f2 h1_f3 h1_4 h1_5 h1_6 h1_7 h1_8 h1_9 h1_10 h1_11 h1_12 h1_6 h1_6k h1_6c h1_7 h1_7k h1_7c h0_1_0 h0_1_0k h0_1_0c h1_4 h1_4k h1_4c h1_5 h1_5k h1_5c h1_10 h1_10k h1_10c h1_12 h1_12k h1_12c)) [10, 11, 0, 1, 2, 3, 4, 5, 6, 7, 8, 9] (by decide) rfl
    generalize H1 = H at hP hS ⊢
    rcases hw with ⟨h_13, h_14⟩
    obtain rfl : y3 = r_12 := (h_14.trans pv_3.symm).symm
    have hPc := hP.sub (ws' := (wd_c_X11_canRow h0 h0_0 h0_1 h0_2 h0_3 h0_4 h0_f5 h0_6 h0_7 h0_8 h0_9 h0_10 h0_11 h0_12 h0_13 h0_14 h0_f15 h0_1 h0_1_0 h0_1_f1 h0_1_f2 h0_1_f3 h1 h1_f0 h1_f1 h1_f2 h1_f3 h1_4 h1_5 h1_6 h1_7 h1_8 h1_9 h1_10 h1_11 h1_12 h1_6 h1_6k h1_6c h1_7 h1_7k h1_7c)) [2, 3, 4, 5, 6] rfl
    have hDc := hD.sub (ws' := (wd_c_X11_canRow h0 h0_0 h0_1 h0_2 h0_3 h0_4 h0_f5 h0_6 h0_7 h0_8 h0_9 h0_10 h0_11 h0_12 h0_13 h0_14 h0_f15 h0_1 h0_1_0 h0_1_f1 h0_1_f2 h0_1_f3 h1 h1_f0 h1_f1 h1_f2 h1_f3 h1_4 h1_5 h1_6 h1_7 h1_8 h1_9 h1_10 h1_11 h1_12 h1_6 h1_6k h1_6c h1_7 h1_7k h1_7c)) [2, 3, 4, 5, 6] (by decide) rfl
    have hKc := hK.sub (tys' := [(h1_6k, .int), (h1_7k, .int)]) [1, 2] rfl
    have hFc := va_free (wc := (wd_c_X11_canRow h0 h0_0 h0_1 h0_2 h0_3 h0_4 h0_f5 h0_6 h0_7 h0_8 h0_9 h0_10 h0_11 h0_12 h0_13 h0_14 h0_f15 h0_1 h0_1_0 h0_1_f1 h0_1_f2 h0_1_f3 h1 h1_f0 h1_f1 h1_f2 h1_f3 h1_4 h1_5 h1_6 h1_7 h1_8 h1_9 h1_10 h1_11 h1_12 h1_6 h1_6k h1_6c h1_7 h1_7k h1_7c)) hD hS hA [2, 3, 4, 5, 6] rfl
    refine va_calli (va_runV (As := [.ref h1, .int y1, .int y2, .int y3]) (rest := []) ⟨hx, hb, hml, hown, hts⟩ (c_X11_canRow l dC dI H.size h0 h1 y1 y2 y3 h0_0 h0_1 h0_2 h0_3 h0_4 h0_f5 h0_6 h0_7 h0_8 h0_9 h0_10 h0_11 h0_12 h0_13 h0_14 h0_f15 h0_1_0 h0_1_f1 h0_1_f2 h0_1_f3 h1_f0 h1_f1 h1_f2 h1_f3 h1_4 h1_5 h1_6 h1_7 h1_8 h1_9 h1_10 h1_11 h1_12 h1_6k h1_6c h1_7k h1_7c (RG_w g_y1 (by decide)) (RG_w g_y2 (by decide)) (RG_w g_y3 (by decide)) g_h0_f5 g_h0_1_f1 g_h0_1_f2 g_h0_1_f3) (cwV 4 hts gf_c_X11_canDo_c_X11_canRow rfl rfl rfl (by decide +kernel) ⟨Nat.le_of_ble_eq_true rfl, Nat.le_of_ble_eq_true rfl⟩) ⟨fun a U g mk q => by obtain ⟨q0, q1, qP, qK, qD⟩ := q; exact ⟨q0, q1, qP, va_K.moved (u := U) (U := U.calling g mk a) (Vm.Alike.refl U.vm) qK, qD⟩, va_recv hKc hPc (ci := 11) (q0 := 0) rfl rfl, fun U hU hW => ⟨rfl, by rw [hU], by rw [hU]; exact hPc, va_K.moved hW.alike hKc, hDc.weaken (fun _ _ _ _ => trivial)⟩⟩ rfl rfl hl.1 rfl (lv_room (Nat.le_of_ble_eq_true rfl)) dX11_canDo_60 ⟨Nat.le_of_ble_eq_true rfl, Nat.le_of_ble_eq_true rfl⟩) hS (fun q _ h => hFc q h) hFc (fun r_15 u t H1 locs ht hvm hw hB hz1 hk1 hS => ?_)
    obtain ⟨hP1, hK1, hD1⟩ := hB
    rw [ht] at hP1
    obtain ⟨hP, hD⟩ := va_join (wr := [(h2, .inr (6, [.ref h2_0, .int h2_f1])), (h2_0, .inl (h2_0k, 64, .inl h2_0c)), (h0_1_0, .inl (h0_1_0k, 80, .inl h0_1_0c)), (h1_4, .inl (h1_4k, 3, .inl h1_4c)), (h1_5, .inl (h1_5k, 3, .inl h1_5c)), (h1_10, .inl (h1_10k, 24, .inl h1_10c)), (h1_12, .inl (h1_12k, 8, .inl h1_12c))]) (w1 := (wd_c_X11_canRow h0 h0_0 h0_1 h0_2 h0_3 h0_4 h0_f5 h0_6 h0_7 h0_8 h0_9 h0_10 h0_11 h0_12 h0_13 h0_14 h0_f15 h0_1 h0_1_0 h0_1_f1 h0_1_f2 h0_1_f3 h1 h1_f0 h1_f1 h1_f2 h1_f3 h1_4 h1_5 h1_6 h1_7 h1_8 h1_9 h1_10 h1_11 h1_12 h1_6 h1_6k h1_6c h1_7 h1_7k h1_7c)) hP hD [2, 3, 4, 5, 6] [0, 1, 7, 8, 9, 10, 11] rfl rfl (by decide) (by decide) hk1 hFc hP1 hD1
    have hP := hP.sub (ws' := (wd_c_X11_canDo h2 h2_0 h2_f1 h2_0 h2_0k h2_0c h0 h0_0 h0_1 h0_2 h0_3 h0_4 h0_f5 h0_6 h0_7 h0_8 h0_9 h0_10 h0_11 h0_12 h0_13 h0_14 h0_f15 h0_1 h0_1_0 h0_1_f1 h0_1_f2 h0_1_f3 h1 h1_f0 h1_f1 h1_f2 h1_f3 h1_4 h1_5 h1_6 h1_7 h1_8 h1_9 h1_10 h1_11 h1_12 h1_6 h1_6k h1_6c h1_7 h1_7k h1_7c h0_1_0 h0_1_0k h0_1_0c h1_4 h1_4k h1_4c h1_5 h1_5k h1_5c h1_10 h1_10k h1_10c h1_12 h1_12k h1_12c)) [0, 1, 7, 8, 9, 10, 11, 2, 3, 4, 5, 6] rfl
    have hD := hD.sub (ws' := (wd_c_X11_canDo h2 h2_0 h2_f1 h2_0 h2_0k h2_0c h0 h0_0 h0_1 h0_2 h0_3 h0_4 h0_f5 h0_6 h0_7 h0_8 h0_9 h0_10 h0_11 h0_12 h0_13 h0_14 h0_f15 h0_1 h0_1_0 h0_1_f1 h0_1_f2 h0_1_f3 h1 h1_f0 h1_f1 h1_f2 h1_f3 h1_4 h1_5 h1_6 h1_7 h1_8 h1_9 h1_10 h1_11 h1_12 h1_6 h1_6k h1_6c h1_7 h1_7k h1_7c h0_1_0 h0_1_0k h0_1_0c h1_4 h1_4k h1_4c h1_5 h1_5k h1_5c h1_10 h1_10k h1_10c h1_12 h1_12k h1_12c)) [0, 1, 7, 8, 9, 10, 11, 2, 3, 4, 5, 6] (by decide) rfl
    generalize H1 = H at hP hS ⊢
    rcases hw with h_16 | ⟨h_17, h_18, h_19, h_20, h_21⟩
    · rw [h_16]
      have hK9 := hK.sub (tys' := []) [] rfl
      exact W.zret (v := 0) hx hb hr rfl (fun t ht hW => ⟨⟨0, (), rfl, (Or.inl rfl), by rw [ht]; exact hP, va_K.moved hW.alike hK9, hD⟩, hS.F ht⟩) hS.2.2 dX11_canDo_63
    · rw [h_17]
      have hK9 := hK.sub (tys' := []) [] rfl
      exact W.zret (v := 1) hx hb hr rfl (fun t ht hW => ⟨⟨1, (), rfl, (Or.inr (Or.inl ⟨rfl, h_18, g_11, h_19, h_20, h_21⟩)), by rw [ht]; exact hP, va_K.moved hW.alike hK9, hD⟩, hS.F ht⟩) hS.2.2 dX11_canDo_63
  by_cases c_22 : y0 = 1
  · have hsw : y0.toInt = 1 := by rw [c_22]; rfl
    refine lv_tableIn (off := 42) (tgt := 64) hx hb dX11_canDo_22 (by rw [hsw]; decide) (by rw [hsw]; decide) (by rw [hsw]; decide) (by decide) ?_
    have g_23 : RG y0 1 1 := RG_k _ _ hsw
    refine lv_aload_n hx hb dX11_canDo_64 rfl (lv_at hl 2 rfl) ?_
    refine lv_aload_n hx hb dX11_canDo_65 rfl (lv_at hl 3 rfl) ?_
    refine lv_iload hx hb dX11_canDo_66 (lv_at hl 1 rfl) ?_
    refine lv_iload hx hb dX11_canDo_68 (lv_at hl 0 rfl) ?_
    have hPc := hP.sub (ws' := (wd_c_X11_canSing h0 h0_0 h0_1 h0_2 h0_3 h0_4 h0_f5 h0_6 h0_7 h0_8 h0_9 h0_10 h0_11 h0_12 h0_13 h0_14 h0_f15 h0_1 h0_1_0 h0_1_f1 h0_1_f2 h0_1_f3 h0_1_0 h0_1_0k h0_1_0c h1 h1_f0 h1_f1 h1_f2 h1_f3 h1_4 h1_5 h1_6 h1_7 h1_8 h1_9 h1_10 h1_11 h1_12 h1_4 h1_4k h1_4c h1_5 h1_5k h1_5c h1_10 h1_10k h1_10c)) [2, 3, 7, 4, 8, 9, 10] rfl
    have hDc := hD.sub (ws' := (wd_c_X11_canSing h0 h0_0 h0_1 h0_2 h0_3 h0_4 h0_f5 h0_6 h0_7 h0_8 h0_9 h0_10 h0_11 h0_12 h0_13 h0_14 h0_f15 h0_1 h0_1_0 h0_1_f1 h0_1_f2 h0_1_f3 h0_1_0 h0_1_0k h0_1_0c h1 h1_f0 h1_f1 h1_f2 h1_f3 h1_4 h1_5 h1_6 h1_7 h1_8 h1_9 h1_10 h1_11 h1_12 h1_4 h1_4k h1_4c h1_5 h1_5k h1_5c h1_10 h1_10k h1_10c)) [2, 3, 7, 4, 8, 9, 10] (by decide) rfl
    have hKc := hK.sub (tys' := [(h0_1_0k, .int), (h1_4k, .int), (h1_5k, .int), (h1_10k, .int)]) [3, 4, 5, 6] rfl
    have hFc := va_free (wc := (wd_c_X11_canSing h0 h0_0 h0_1 h0_2 h0_3 h0_4 h0_f5 h0_6 h0_7 h0_8 h0_9 h0_10 h0_11 h0_12 h0_13 h0_14 h0_f15 h0_1 h0_1_0 h0_1_f1 h0_1_f2 h0_1_f3 h0_1_0 h0_1_0k h0_1_0c h1 h1_f0 h1_f1 h1_f2 h1_f3 h1_4 h1_5 h1_6 h1_7 h1_8 h1_9 h1_10 h1_11 h1_12 h1_4 h1_4k h1_4c h1_5 h1_5k h1_5c h1_10 h1_10k h1_10c)) hD hS hA [2, 3, 7, 4, 8, 9, 10] rfl
    refine va_calli (va_runV (As := [.ref h1, .int y1, .int y2]) (rest := []) ⟨hx, hb, hml, hown, hts⟩ (c_X11_canSing l dC dI H.size h0 h1 y1 y2 h0_0 h0_1 h0_2 h0_3 h0_4 h0_f5 h0_6 h0_7 h0_8 h0_9 h0_10 h0_11 h0_12 h0_13 h0_14 h0_f15 h0_1_0 h0_1_f1 h0_1_f2 h0_1_f3 h0_1_0k h0_1_0c h1_f0 h1_f1 h1_f2 h1_f3 h1_4 h1_5 h1_6 h1_7 h1_8 h1_9 h1_10 h1_11 h1_12 h1_4k h1_4c h1_5k h1_5c h1_10k h1_10c (RG_w g_y1 (by decide)) (RG_w g_y2 (by decide)) g_h0_f5 g_h0_1_f1 g_h0_1_f2 g_h0_1_f3 a_h0_1_0c) (cwV 3 hts gf_c_X11_canDo_c_X11_canSing rfl rfl rfl (by decide +kernel) ⟨Nat.le_of_ble_eq_true rfl, Nat.le_of_ble_eq_true rfl⟩) ⟨fun a U g mk q => by obtain ⟨q0, q1, qP, qK, qD⟩ := q; exact ⟨q0, q1, qP, va_K.moved (u := U) (U := U.calling g mk a) (Vm.Alike.refl U.vm) qK, qD⟩, va_recv hKc hPc (ci := 11) (q0 := 0) rfl rfl, fun U hU hW => ⟨rfl, by rw [hU], by rw [hU]; exact hPc, va_K.moved hW.alike hKc, hDc.weaken (fun _ _ _ _ => trivial)⟩⟩ rfl rfl hl.1 rfl (lv_room (Nat.le_of_ble_eq_true rfl)) dX11_canDo_70 ⟨Nat.le_of_ble_eq_true rfl, Nat.le_of_ble_eq_true rfl⟩) hS (fun q _ h => hFc q h) hFc (fun r_24 u t H1 locs ht hvm hw hB hz1 hk1 hS => ?_)
    obtain ⟨hP1, hK1, hD1⟩ := hB
    rw [ht] at hP1
    obtain ⟨hP, hD⟩ := va_join (wr := [(h2, .inr (6, [.ref h2_0, .int h2_f1])), (h2_0, .inl (h2_0k, 64, .inl h2_0c)), (h1_6, .inl (h1_6k, 3, .inl h1_6c)), (h1_7, .inl (h1_7k, 3, .inl h1_7c)), (h1_12, .inl (h1_12k, 8, .inl h1_12c))]) (w1 := (wd_c_X11_canSing h0 h0_0 h0_1 h0_2 h0_3 h0_4 h0_f5 h0_6 h0_7 h0_8 h0_9 h0_10 h0_11 h0_12 h0_13 h0_14 h0_f15 h0_1 h0_1_0 h0_1_f1 h0_1_f2 h0_1_f3 h0_1_0 h0_1_0k h0_1_0c h1 h1_f0 h1_f1 h1_f2 h1_f3 h1_4 h1_5 h1_6 h1_7 h1_8 h1_9 h1_10 h1_11 h1_12 h1_4 h1_4k h1_4c h1_5 h1_5k h1_5c h1_10 h1_10k h1_10c)) hP hD [2, 3, 7, 4, 8, 9, 10] [0, 1, 5, 6, 11] rfl rfl (by decide) (by decide) hk1 hFc hP1 hD1
    have hP := hP.sub (ws' := (wd_c_X11_canDo h2 h2_0 h2_f1 h2_0 h2_0k h2_0c h0 h0_0 h0_1 h0_2 h0_3 h0_4 h0_f5 h0_6 h0_7 h0_8 h0_9 h0_10 h0_11 h0_12 h0_13 h0_14 h0_f15 h0_1 h0_1_0 h0_1_f1 h0_1_f2 h0_1_f3 h1 h1_f0 h1_f1 h1_f2 h1_f3 h1_4 h1_5 h1_6 h1_7 h1_8 h1_9 h1_10 h1_11 h1_12 h1_6 h1_6k h1_6c h1_7 h1_7k h1_7c h0_1_0 h0_1_0k h0_1_0c h1_4 h1_4k h1_4c h1_5 h1_5k h1_5c h1_10 h1_10k h1_10c h1_12 h1_12k h1_12c)) [0, 1, 5, 6, 8, 2, 3, 7, 9, 10, 11, 4] rfl
    have hD := hD.sub (ws' := (wd_c_X11_canDo h2 h2_0 h2_f1 h2_0 h2_0k h2_0c h0 h0_0 h0_1 h0_2 h0_3 h0_4 h0_f5 h0_6 h0_7 h0_8 h0_9 h0_10 h0_11 h0_12 h0_13 h0_14 h0_f15 h0_1 h0_1_0 h0_1_f1 h0_1_f2 h0_1_f3 h1 h1_f0 h1_f1 h1_f2 h1_f3 h1_4 h1_5 h1_6 h1_7 h1_8 h1_9 h1_10 h1_11 h1_12 h1_6 h1_6k h1_6c h1_7 h1_7k h1_7c h0_1_0 h0_1_0k h0_1_0c h1_4 h1_4k h1_4c h1_5 h1_5k h1_5c h1_10 h1_10k h1_10c h1_12 h1_12k h1_12c)) [0, 1, 5, 6, 8, 2, 3, 7, 9, 10, 11, 4] (by decide) rfl
    generalize H1 = H at hP hS ⊢
    rcases hw with h_25 | ⟨h_26, h_27, h_28, h_29, h_30⟩
    · rw [h_25]
      have hK9 := hK.sub (tys' := []) [] rfl
      exact W.zret (v := 0) hx hb hr rfl (fun t ht hW => ⟨⟨0, (), rfl, (Or.inl rfl), by rw [ht]; exact hP, va_K.moved hW.alike hK9, hD⟩, hS.F ht⟩) hS.2.2 dX11_canDo_73
    · rw [h_26]
      have hK9 := hK.sub (tys' := []) [] rfl
      exact W.zret (v := 1) hx hb hr rfl (fun t ht hW => ⟨⟨1, (), rfl, (Or.inr (Or.inr (Or.inl ⟨rfl, h_27, h_28, g_23, h_29, h_30⟩))), by rw [ht]; exact hP, va_K.moved hW.alike hK9, hD⟩, hS.F ht⟩) hS.2.2 dX11_canDo_73
  by_cases c_31 : y0 = 2
  · have hsw : y0.toInt = 2 := by rw [c_31]; rfl
    refine lv_tableIn (off := 52) (tgt := 74) hx hb dX11_canDo_22 (by rw [hsw]; decide) (by rw [hsw]; decide) (by rw [hsw]; decide) (by decide) ?_
    have g_32 : RG y0 2 2 := RG_k _ _ hsw
    refine lv_aload_n hx hb dX11_canDo_74 rfl (lv_at hl 2 rfl) ?_
    refine lv_aload_n hx hb dX11_canDo_75 rfl (lv_at hl 3 rfl) ?_
    refine lv_iload hx hb dX11_canDo_76 (lv_at hl 1 rfl) ?_
    refine lv_iload hx hb dX11_canDo_78 (lv_at hl 0 rfl) ?_
    have hPc := hP.sub (ws' := (wd_c_X11_canScrape h0 h0_0 h0_1 h0_2 h0_3 h0_4 h0_f5 h0_6 h0_7 h0_8 h0_9 h0_10 h0_11 h0_12 h0_13 h0_14 h0_f15 h0_1 h0_1_0 h0_1_f1 h0_1_f2 h0_1_f3 h0_1_0 h0_1_0k h0_1_0c h1 h1_f0 h1_f1 h1_f2 h1_f3 h1_4 h1_5 h1_6 h1_7 h1_8 h1_9 h1_10 h1_11 h1_12 h1_4 h1_4k h1_4c h1_5 h1_5k h1_5c h1_12 h1_12k h1_12c)) [2, 3, 7, 4, 8, 9, 11] rfl
    have hDc := hD.sub (ws' := (wd_c_X11_canScrape h0 h0_0 h0_1 h0_2 h0_3 h0_4 h0_f5 h0_6 h0_7 h0_8 h0_9 h0_10 h0_11 h0_12 h0_13 h0_14 h0_f15 h0_1 h0_1_0 h0_1_f1 h0_1_f2 h0_1_f3 h0_1_0 h0_1_0k h0_1_0c h1 h1_f0 h1_f1 h1_f2 h1_f3 h1_4 h1_5 h1_6 h1_7 h1_8 h1_9 h1_10 h1_11 h1_12 h1_4 h1_4k h1_4c h1_5 h1_5k h1_5c h1_12 h1_12k h1_12c)) [2, 3, 7, 4, 8, 9, 11] (by decide) rfl
    have hKc := hK.sub (tys' := [(h0_1_0k, .int), (h1_4k, .int), (h1_5k, .int), (h1_12k, .int)]) [3, 4, 5, 7] rfl
    have hFc := va_free (wc := (wd_c_X11_canScrape h0 h0_0 h0_1 h0_2 h0_3 h0_4 h0_f5 h0_6 h0_7 h0_8 h0_9 h0_10 h0_11 h0_12 h0_13 h0_14 h0_f15 h0_1 h0_1_0 h0_1_f1 h0_1_f2 h0_1_f3 h0_1_0 h0_1_0k h0_1_0c h1 h1_f0 h1_f1 h1_f2 h1_f3 h1_4 h1_5 h1_6 h1_7 h1_8 h1_9 h1_10 h1_11 h1_12 h1_4 h1_4k h1_4c h1_5 h1_5k h1_5c h1_12 h1_12k h1_12c)) hD hS hA [2, 3, 7, 4, 8, 9, 11] rfl
    refine va_calli (va_runV (As := [.ref h1, .int y1, .int y2]) (rest := []) ⟨hx, hb, hml, hown, hts⟩ (c_X11_canScrape l dC dI H.size h0 h1 y1 y2 h0_0 h0_1 h0_2 h0_3 h0_4 h0_f5 h0_6 h0_7 h0_8 h0_9 h0_10 h0_11 h0_12 h0_13 h0_14 h0_f15 h0_1_0 h0_1_f1 h0_1_f2 h0_1_f3 h0_1_0k h0_1_0c h1_f0 h1_f1 h1_f2 h1_f3 h1_4 h1_5 h1_6 h1_7 h1_8 h1_9 h1_10 h1_11 h1_12 h1_4k h1_4c h1_5k h1_5c h1_12k h1_12c (RG_w g_y1 (by decide)) (RG_w g_y2 (by decide)) g_h0_f5 g_h0_1_f1 g_h0_1_f2 g_h0_1_f3 a_h0_1_0c) (cwV 3 hts gf_c_X11_canDo_c_X11_canScrape rfl rfl rfl (by decide +kernel) ⟨Nat.le_of_ble_eq_true rfl, Nat.le_of_ble_eq_true rfl⟩) ⟨fun a U g mk q => by obtain ⟨q0, q1, qP, qK, qD⟩ := q; exact ⟨q0, q1, qP, va_K.moved (u := U) (U := U.calling g mk a) (Vm.Alike.refl U.vm) qK, qD⟩, va_recv hKc hPc (ci := 11) (q0 := 0) rfl rfl, fun U hU hW => ⟨rfl, by rw [hU], by rw [hU]; exact hPc, va_K.moved hW.alike hKc, hDc.weaken (fun _ _ _ _ => trivial)⟩⟩ rfl rfl hl.1 rfl (lv_room (Nat.le_of_ble_eq_true rfl)) dX11_canDo_80 ⟨Nat.le_of_ble_eq_true rfl, Nat.le_of_ble_eq_true rfl⟩) hS (fun q _ h => hFc q h) hFc (fun r_33 u t H1 locs ht hvm hw hB hz1 hk1 hS => ?_)
    obtain ⟨hP1, hK1, hD1⟩ := hB
    rw [ht] at hP1
    obtain ⟨hP, hD⟩ := va_join (wr := [(h2, .inr (6, [.ref h2_0, .int h2_f1])), (h2_0, .inl (h2_0k, 64, .inl h2_0c)), (h1_6, .inl (h1_6k, 3, .inl h1_6c)), (h1_7, .inl (h1_7k, 3, .inl h1_7c)), (h1_10, .inl (h1_10k, 24, .inl h1_10c))]) (w1 := (wd_c_X11_canScrape h0 h0_0 h0_1 h0_2 h0_3 h0_4 h0_f5 h0_6 h0_7 h0_8 h0_9 h0_10 h0_11 h0_12 h0_13 h0_14 h0_f15 h0_1 h0_1_0 h0_1_f1 h0_1_f2 h0_1_f3 h0_1_0 h0_1_0k h0_1_0c h1 h1_f0 h1_f1 h1_f2 h1_f3 h1_4 h1_5 h1_6 h1_7 h1_8 h1_9 h1_10 h1_11 h1_12 h1_4 h1_4k h1_4c h1_5 h1_5k h1_5c h1_12 h1_12k h1_12c)) hP hD [2, 3, 7, 4, 8, 9, 11] [0, 1, 5, 6, 10] rfl rfl (by decide) (by decide) hk1 hFc hP1 hD1
    have hP := hP.sub (ws' := (wd_c_X11_canDo h2 h2_0 h2_f1 h2_0 h2_0k h2_0c h0 h0_0 h0_1 h0_2 h0_3 h0_4 h0_f5 h0_6 h0_7 h0_8 h0_9 h0_10 h0_11 h0_12 h0_13 h0_14 h0_f15 h0_1 h0_1_0 h0_1_f1 h0_1_f2 h0_1_f3 h1 h1_f0 h1_f1 h1_f2 h1_f3 h1_4 h1_5 h1_6 h1_7 h1_8 h1_9 h1_10 h1_11 h1_12 h1_6 h1_6k h1_6c h1_7 h1_7k h1_7c h0_1_0 h0_1_0k h0_1_0c h1_4 h1_4k h1_4c h1_5 h1_5k h1_5c h1_10 h1_10k h1_10c h1_12 h1_12k h1_12c)) [0, 1, 5, 6, 8, 2, 3, 7, 9, 10, 4, 11] rfl
    have hD := hD.sub (ws' := (wd_c_X11_canDo h2 h2_0 h2_f1 h2_0 h2_0k h2_0c h0 h0_0 h0_1 h0_2 h0_3 h0_4 h0_f5 h0_6 h0_7 h0_8 h0_9 h0_10 h0_11 h0_12 h0_13 h0_14 h0_f15 h0_1 h0_1_0 h0_1_f1 h0_1_f2 h0_1_f3 h1 h1_f0 h1_f1 h1_f2 h1_f3 h1_4 h1_5 h1_6 h1_7 h1_8 h1_9 h1_10 h1_11 h1_12 h1_6 h1_6k h1_6c h1_7 h1_7k h1_7c h0_1_0 h0_1_0k h0_1_0c h1_4 h1_4k h1_4c h1_5 h1_5k h1_5c h1_10 h1_10k h1_10c h1_12 h1_12k h1_12c)) [0, 1, 5, 6, 8, 2, 3, 7, 9, 10, 4, 11] (by decide) rfl
    generalize H1 = H at hP hS ⊢
    rcases hw with h_34 | ⟨h_35, h_36, h_37, h_38, h_39⟩
    · rw [h_34]
      have hK9 := hK.sub (tys' := []) [] rfl
      exact W.zret (v := 0) hx hb hr rfl (fun t ht hW => ⟨⟨0, (), rfl, (Or.inl rfl), by rw [ht]; exact hP, va_K.moved hW.alike hK9, hD⟩, hS.F ht⟩) hS.2.2 dX11_canDo_83
    · rw [h_35]
      have hK9 := hK.sub (tys' := []) [] rfl
      exact W.zret (v := 1) hx hb hr rfl (fun t ht hW => ⟨⟨1, (), rfl, (Or.inr (Or.inr (Or.inr (Or.inl ⟨rfl, h_36, h_37, g_32, h_38, h_39⟩)))), by rw [ht]; exact hP, va_K.moved hW.alike hK9, hD⟩, hS.F ht⟩) hS.2.2 dX11_canDo_83
  have hsw : y0.toInt < 0 ∨ 2 < y0.toInt := by
    have zc_10 := lv_neT c_10 (a := 0) (by decide)
    have zc_22 := lv_neT c_22 (a := 1) (by decide)
    have zc_31 := lv_neT c_31 (a := 2) (by decide)
    have zg1 := (g_y0).1
    have zg2 := (g_y0).2
    omega
  refine lv_tableOut (tgt := 84) hx hb dX11_canDo_22 hsw (by decide) ?_
  rcases hsw with hsw | hsw
  · have g_40 : RG y0 (-1) (-1) := ⟨(g_y0).1, by omega⟩
    refine lv_iload hx hb dX11_canDo_84 (lv_at hl 1 rfl) ?_
    refine lv_if_le (tgt := 93) hx hb dX11_canDo_86 rfl (fun c_41 => ?_) (fun c_41 => ?_)
    · have g_42 : RG y1 (-1) 0 := RG_le1 g_y1 (RG_k 0 0 rfl) c_41 (by decide)
      refine lv_iconst (v := 0) hx hb dX11_canDo_93 kc_iconst_0 ?_
      have hK9 := hK.sub (tys' := []) [] rfl
      exact W.zret (v := 0) hx hb hr rfl (fun t ht hW => ⟨⟨0, (), rfl, (Or.inl rfl), by rw [ht]; exact hP, va_K.moved hW.alike hK9, hD⟩, hS.F ht⟩) hS.2.2 dX11_canDo_94
    · have d_43 := Int32.not_le.mp c_41
      have g_44 : RG y1 1 9 := RG_lt2 (RG_k 0 0 rfl) g_y1 d_43 (by decide)
      refine lv_iconst (v := 1) hx hb dX11_canDo_89 kc_iconst_1 ?_
      refine lv_goto (tgt := 94) hx hb dX11_canDo_90 rfl ?_
      have hK9 := hK.sub (tys' := []) [] rfl
      exact W.zret (v := 1) hx hb hr rfl (fun t ht hW => ⟨⟨1, (), rfl, (Or.inr (Or.inr (Or.inr (Or.inr (Or.inl ⟨rfl, g_40, g_44⟩))))), by rw [ht]; exact hP, va_K.moved hW.alike hK9, hD⟩, hS.F ht⟩) hS.2.2 dX11_canDo_94
  · have g_45 : RG y0 3 9 := ⟨by omega, (g_y0).2⟩
    refine lv_iload hx hb dX11_canDo_84 (lv_at hl 1 rfl) ?_
    refine lv_if_le (tgt := 93) hx hb dX11_canDo_86 rfl (fun c_46 => ?_) (fun c_46 => ?_)
    · have g_47 : RG y1 (-1) 0 := RG_le1 g_y1 (RG_k 0 0 rfl) c_46 (by decide)
      refine lv_iconst (v := 0) hx hb dX11_canDo_93 kc_iconst_0 ?_
      have hK9 := hK.sub (tys' := []) [] rfl
      exact W.zret (v := 0) hx hb hr rfl (fun t ht hW => ⟨⟨0, (), rfl, (Or.inl rfl), by rw [ht]; exact hP, va_K.moved hW.alike hK9, hD⟩, hS.F ht⟩) hS.2.2 dX11_canDo_94
    · have d_48 := Int32.not_le.mp c_46
      have g_49 : RG y1 1 9 := RG_lt2 (RG_k 0 0 rfl) g_y1 d_48 (by decide)
      refine lv_iconst (v := 1) hx hb dX11_canDo_89 kc_iconst_1 ?_
      refine lv_goto (tgt := 94) hx hb dX11_canDo_90 rfl ?_
      have hK9 := hK.sub (tys' := []) [] rfl
      exact W.zret (v := 1) hx hb hr rfl (fun t ht hW => ⟨⟨1, (), rfl, (Or.inr (Or.inr (Or.inr (Or.inr (Or.inr ⟨rfl, g_45, g_49⟩))))), by rw [ht]; exact hP, va_K.moved hW.alike hK9, hD⟩, hS.F ht⟩) hS.2.2 dX11_canDo_94
def wd_c_X11_change (a0 : Nat) (a1 : Nat) (a2 : Int32) (a3 : Nat) (a4 : ClassId) (a5 : Nat → Int32) (a6 : Nat) (a7 : Int32) (a8 : Int32) (a9 : Int32) (a10 : Int32) (a11 : Nat) (a12 : Nat) (a13 : Nat) (a14 : Nat) (a15 : Nat) (a16 : Nat) (a17 : Nat) (a18 : Nat) (a19 : Nat) (a20 : Nat) (a21 : ClassId) (a22 : Nat → Int32) (a23 : Nat) (a24 : ClassId) (a25 : Nat → Int32) : va_W := [(a0, .inr (6, [.ref a1, .int a2])), (a3, .inl (a4, 64, .inl a5)), (a6, .inr (7, [.int a7, .int a8, .int a9, .int a10, .ref a11, .ref a12, .ref a13, .ref a14, .ref a15, .ref a16, .ref a17, .ref a18, .ref a19])), (a20, .inl (a21, 3, .inl a22)), (a23, .inl (a24, 3, .inl a25))]
def wf_c_X11_change : List Cond := .code yX11_change cX11_change 6 none :: ([.methodLink RX11 299 yX6_part, .instanceMethod yX6_part, .selects RX6 yX6_part yX6_part, .initialized RX6, .code yX6_part cX6_part 3 (some .int), .fieldLink RX6 11 "BuoyVote$Plan" "cells" "[I", .fieldLink RX11 206 "BuoyVote$Sea" "goalX" "[I", .fieldLink RX11 209 "BuoyVote$Sea" "goalY" "[I"] ++ wsX60 ++ wsX70)
theorem iw_c_X11_change_X6 : ∀ w ∈ wsX60, w ∈ wf_c_X11_change := fun w h => List.mem_cons_of_mem _ (List.mem_append_left _ (List.mem_append_right _ h))
theorem iw_c_X11_change_X7 : ∀ w ∈ wsX70, w ∈ wf_c_X11_change := fun w h => List.mem_cons_of_mem _ (List.mem_append_right _ h)
set_option maxRecDepth 20000 in
theorem gf_c_X11_change_c_X6_part : GoodIn wf_c_X11_change (wsV RX11 299 RX6 yX6_part wf_c_X6_part) := goodIn_app (gi_cons (j := 1) rfl rfl (gi_cons (j := 2) rfl rfl (gi_cons (j := 3) rfl rfl (gi_cons (j := 4) rfl rfl (gi_nil))))) (gi_cons (j := 5) rfl rfl (goodIn_app (gi_cons (j := 6) rfl rfl (gi_nil)) (goodIn_sub iw_c_X11_change_X6 gw_X6)))
set_option maxHeartbeats 4000000 in
set_option maxRecDepth 100000 in
theorem c_X11_change (l : Launch) (dC : Nat → ClassId) (dI : Nat → Nat → Nat) (sz : Nat) (h0 : Nat) (h1 : Nat) (h2 : Nat) (p3 : Int32) (h2_0 : Nat) (h2_f1 : Int32) (h2_0k : ClassId) (h2_0c : Nat → Int32) (h1_f0 : Int32) (h1_f1 : Int32) (h1_f2 : Int32) (h1_f3 : Int32) (h1_4 : Nat) (h1_5 : Nat) (h1_6 : Nat) (h1_7 : Nat) (h1_8 : Nat) (h1_9 : Nat) (h1_10 : Nat) (h1_11 : Nat) (h1_12 : Nat) (h1_6k : ClassId) (h1_6c : Nat → Int32) (h1_7k : ClassId) (h1_7c : Nat → Int32) (y0 : Int32) (y1 : Int32) (y2 : Int32) (y3 : Int32) (g_p3 : RG p3 0 15) (g_h2_f1 : RG h2_f1 0 16) (a_h2_0c : AI h2_0c (-1) 9) (pv_0 : y0 = h2_0c (p3 * 4 + 0).toNatClampNeg) (g_y0 : RG y0 0 0) (pv_1 : y1 = h2_0c (p3 * 4 + 1).toNatClampNeg) (g_y1 : RG y1 0 2) (pv_2 : y2 = h2_0c (p3 * 4 + 2).toNatClampNeg) (g_y2 : RG y2 0 9) (pv_3 : y3 = h2_0c (p3 * 4 + 3).toNatClampNeg) (g_y3 : RG y3 0 9) : Met l yX11_change wf_c_X11_change ({ frames := 1, cells := 0, slots := 0, locals := 22 }) (va_Pc [.ref h0, .ref h1, .ref h2, .int p3] (fun U => U.heap.size = sz ∧ va_P (dC, dI) vwCl (wd_c_X11_change h2 h2_0 h2_f1 h2_0 h2_0k h2_0c h1 h1_f0 h1_f1 h1_f2 h1_f3 h1_4 h1_5 h1_6 h1_7 h1_8 h1_9 h1_10 h1_11 h1_12 h1_6 h1_6k h1_6c h1_7 h1_7k h1_7c) U.heap ∧ va_K (dC, dI) vwCl [(h2_0k, .int), (h1_6k, .int), (h1_7k, .int)] U ∧ va_D (fun _ => True) (wd_c_X11_change h2 h2_0 h2_f1 h2_0 h2_0k h2_0c h1 h1_f0 h1_f1 h1_f2 h1_f3 h1_4 h1_5 h1_6 h1_7 h1_8 h1_9 h1_10 h1_11 h1_12 h1_6 h1_6k h1_6c h1_7 h1_7k h1_7c))) (va_Qv (fun (u : (Nat → Int32) × (Nat → Int32)) => (True)) (fun (u : (Nat → Int32) × (Nat → Int32)) t => va_P (dC, dI) vwCl (wd_c_X11_change h2 h2_0 h2_f1 h2_0 h2_0k h2_0c h1 h1_f0 h1_f1 h1_f2 h1_f3 h1_4 h1_5 h1_6 h1_7 h1_8 h1_9 h1_10 h1_11 h1_12 h1_6 h1_6k (u.1) h1_7 h1_7k (u.2)) t.heap ∧ va_K (dC, dI) vwCl [] t ∧ va_D (va_A (wd_c_X11_change h2 h2_0 h2_f1 h2_0 h2_0k h2_0c h1 h1_f0 h1_f1 h1_f2 h1_f3 h1_4 h1_5 h1_6 h1_7 h1_8 h1_9 h1_10 h1_11 h1_12 h1_6 h1_6k h1_6c h1_7 h1_7k h1_7c) sz) (wd_c_X11_change h2 h2_0 h2_f1 h2_0 h2_0k h2_0c h1 h1_f0 h1_f1 h1_f2 h1_f3 h1_4 h1_5 h1_6 h1_7 h1_8 h1_9 h1_10 h1_11 h1_12 h1_6 h1_6k (u.1) h1_7 h1_7k (u.2))) (va_A (wd_c_X11_change h2 h2_0 h2_f1 h2_0 h2_0k h2_0c h1 h1_f0 h1_f1 h1_f2 h1_f3 h1_4 h1_5 h1_6 h1_7 h1_8 h1_9 h1_10 h1_11 h1_12 h1_6 h1_6k h1_6c h1_7 h1_7k h1_7c) sz)) 0 0 (va_A (wd_c_X11_change h2 h2_0 h2_f1 h2_0 h2_0k h2_0c h1 h1_f0 h1_f1 h1_f2 h1_f3 h1_4 h1_5 h1_6 h1_7 h1_8 h1_9 h1_10 h1_11 h1_12 h1_6 h1_6k h1_6c h1_7 h1_7k h1_7c) sz) := by
  refine Met.ofW (cc := cX11_change) (maxL := 6) (ret := none) (by decide) rfl ?_
  intro p e s m args below meth c s₁ B hml hv
  obtain ⟨rfl, hsz, hP, hK, hD0⟩ := hv
  have hx := B.exec
  have hb := B.bytes
  have hr := B.returns
  have hts := atoms_spec (ws := wf_c_X11_change) B.pre
  have hown : s.vm.findClass RX11 = some m.cls := findClass_of_methodNamed B.named
  have hlocks := B.notSynchronized
  subst hsz
  have hD := hD0.self (sz := s.heap.size)
  generalize hAe : va_A (wd_c_X11_change h2 h2_0 h2_f1 h2_0 h2_0k h2_0c h1 h1_f0 h1_f1 h1_f2 h1_f3 h1_4 h1_5 h1_6 h1_7 h1_8 h1_9 h1_10 h1_11 h1_12 h1_6 h1_6k h1_6c h1_7 h1_7k h1_7c) s.heap.size = A at hD ⊢
  have hA : ∀ q : Nat, s.heap.size ≤ q → A q := fun q h => by rw [← hAe]; exact Or.inr h
  have hP : va_P (dC, dI) vwCl (wd_c_X11_change h2 h2_0 h2_f1 h2_0 h2_0k h2_0c h1 h1_f0 h1_f1 h1_f2 h1_f3 h1_4 h1_5 h1_6 h1_7 h1_8 h1_9 h1_10 h1_11 h1_12 h1_6 h1_6k h1_6c h1_7 h1_7k h1_7c) s.heap := hP
  have hl := lv_entry ([.ref h0, .ref h1, .ref h2, .int p3]) (n := 6) (Nat.le_of_ble_eq_true rfl)
  rw [lg_entry_eq]
  generalize (lg_sl ([.ref h0, .ref h1, .ref h2, .int p3]) ++ List.replicate (6 - (lg_sl ([.ref h0, .ref h1, .ref h2, .int p3])).length) Slot.unset).toArray = ls at hl ⊢
  have hl : lv_has ls 6 [(0, .ref h0), (1, .ref h1), (2, .ref h2), (3, .int p3)] := hl
  obtain ⟨H, hHe⟩ : ∃ H : Heap, s.heap = H := ⟨_, rfl⟩
  have hS : va_S A s.heap H [] := by rw [hHe]; exact va_S.rf
  have hP : va_P (dC, dI) vwCl (wd_c_X11_change h2 h2_0 h2_f1 h2_0 h2_0k h2_0c h1 h1_f0 h1_f1 h1_f2 h1_f3 h1_4 h1_5 h1_6 h1_7 h1_8 h1_9 h1_10 h1_11 h1_12 h1_6 h1_6k h1_6c h1_7 h1_7k h1_7c) H := by rw [← hHe]; exact hP
  rw [hHe]
  refine lv_aload_n hx hb dX11_change_0 rfl (lv_at hl 2 rfl) ?_
  refine lv_iload_n hx hb dX11_change_1 rfl (lv_at hl 3 rfl) ?_
  refine lv_iconst (v := 1) hx hb dX11_change_2 kc_iconst_1 ?_
  have hPc := hP.sub (ws' := (wd_c_X6_part h2 h2_0 h2_f1 h2_0 h2_0k h2_0c)) [0, 1] rfl
  have hDc := hD.sub (ws' := (wd_c_X6_part h2 h2_0 h2_f1 h2_0 h2_0k h2_0c)) [0, 1] (by decide) rfl
  have hKc := hK.sub (tys' := [(h2_0k, .int)]) [0] rfl
  have hFc := va_free (wc := (wd_c_X6_part h2 h2_0 h2_f1 h2_0 h2_0k h2_0c)) hD hS hA [0, 1] rfl
  refine va_calli (va_runV (As := [.int p3, .int 1]) (rest := []) ⟨hx, hb, hml, hown, hts⟩ (c_X6_part l dC dI H.size h2 p3 1 h2_0 h2_f1 h2_0k h2_0c g_p3 (RG_w (RG_k 1 1 rfl) (by decide)) g_h2_f1 a_h2_0c) (cwV 2 hts gf_c_X11_change_c_X6_part rfl rfl rfl (by decide +kernel) ⟨Nat.le_of_ble_eq_true rfl, Nat.le_of_ble_eq_true rfl⟩) ⟨fun a U g mk q => by obtain ⟨q0, q1, qP, qK, qD⟩ := q; exact ⟨q0, q1, qP, va_K.moved (u := U) (U := U.calling g mk a) (Vm.Alike.refl U.vm) qK, qD⟩, va_recv hKc hPc (ci := 6) (q0 := 0) rfl rfl, fun U hU hW => ⟨rfl, by rw [hU], by rw [hU]; exact hPc, va_K.moved hW.alike hKc, hDc.weaken (fun _ _ _ _ => trivial)⟩⟩ rfl rfl hl.1 rfl (lv_room (Nat.le_of_ble_eq_true rfl)) dX11_change_3 ⟨Nat.le_of_ble_eq_true rfl, Nat.le_of_ble_eq_true rfl⟩) hS (fun q _ h => hFc q h) hFc (fun r_1 u t H1 locs ht hvm hw hB hz1 hk1 hS => ?_)
  obtain ⟨hP1, hK1, hD1⟩ := hB
  rw [ht] at hP1
  obtain ⟨hP, hD⟩ := va_join (wr := [(h1, .inr (7, [.int h1_f0, .int h1_f1, .int h1_f2, .int h1_f3, .ref h1_4, .ref h1_5, .ref h1_6, .ref h1_7, .ref h1_8, .ref h1_9, .ref h1_10, .ref h1_11, .ref h1_12])), (h1_6, .inl (h1_6k, 3, .inl h1_6c)), (h1_7, .inl (h1_7k, 3, .inl h1_7c))]) (w1 := (wd_c_X6_part h2 h2_0 h2_f1 h2_0 h2_0k h2_0c)) hP hD [0, 1] [2, 3, 4] rfl rfl (by decide) (by decide) hk1 hFc hP1 hD1
  have hP := hP.sub (ws' := (wd_c_X11_change h2 h2_0 h2_f1 h2_0 h2_0k h2_0c h1 h1_f0 h1_f1 h1_f2 h1_f3 h1_4 h1_5 h1_6 h1_7 h1_8 h1_9 h1_10 h1_11 h1_12 h1_6 h1_6k h1_6c h1_7 h1_7k h1_7c)) [3, 4, 0, 1, 2] rfl
  have hD := hD.sub (ws' := (wd_c_X11_change h2 h2_0 h2_f1 h2_0 h2_0k h2_0c h1 h1_f0 h1_f1 h1_f2 h1_f3 h1_4 h1_5 h1_6 h1_7 h1_8 h1_9 h1_10 h1_11 h1_12 h1_6 h1_6k h1_6c h1_7 h1_7k h1_7c)) [3, 4, 0, 1, 2] (by decide) rfl
  generalize H1 = H at hP hS ⊢
  rcases hw with ⟨h_2, h_3⟩
  obtain rfl : y1 = r_1 := (h_3.trans pv_1.symm).symm
  refine lv_istore (lv' := [(4, .int y1), (0, .ref h0), (1, .ref h1), (2, .ref h2), (3, .int p3)]) hx hb dX11_change_6 hl (Nat.le_of_ble_eq_true rfl) rfl (fun ls hl => ?_)
  refine lv_aload_n hx hb dX11_change_8 rfl (lv_at hl 3 rfl) ?_
  refine lv_iload_n hx hb dX11_change_9 rfl (lv_at hl 4 rfl) ?_
  refine lv_iconst (v := 2) hx hb dX11_change_10 kc_iconst_2 ?_
  have hPc := hP.sub (ws' := (wd_c_X6_part h2 h2_0 h2_f1 h2_0 h2_0k h2_0c)) [0, 1] rfl
  have hDc := hD.sub (ws' := (wd_c_X6_part h2 h2_0 h2_f1 h2_0 h2_0k h2_0c)) [0, 1] (by decide) rfl
  have hKc := hK.sub (tys' := [(h2_0k, .int)]) [0] rfl
  have hFc := va_free (wc := (wd_c_X6_part h2 h2_0 h2_f1 h2_0 h2_0k h2_0c)) hD hS hA [0, 1] rfl
  refine va_calli (va_runV (As := [.int p3, .int 2]) (rest := []) ⟨hx, hb, hml, hown, hts⟩ (c_X6_part l dC dI H.size h2 p3 2 h2_0 h2_f1 h2_0k h2_0c g_p3 (RG_w (RG_k 2 2 rfl) (by decide)) g_h2_f1 a_h2_0c) (cwV 2 hts gf_c_X11_change_c_X6_part rfl rfl rfl (by decide +kernel) ⟨Nat.le_of_ble_eq_true rfl, Nat.le_of_ble_eq_true rfl⟩) ⟨fun a U g mk q => by obtain ⟨q0, q1, qP, qK, qD⟩ := q; exact ⟨q0, q1, qP, va_K.moved (u := U) (U := U.calling g mk a) (Vm.Alike.refl U.vm) qK, qD⟩, va_recv hKc hPc (ci := 6) (q0 := 0) rfl rfl, fun U hU hW => ⟨rfl, by rw [hU], by rw [hU]; exact hPc, va_K.moved hW.alike hKc, hDc.weaken (fun _ _ _ _ => trivial)⟩⟩ rfl rfl hl.1 rfl (lv_room (Nat.le_of_ble_eq_true rfl)) dX11_change_11 ⟨Nat.le_of_ble_eq_true rfl, Nat.le_of_ble_eq_true rfl⟩) hS (fun q _ h => hFc q h) hFc (fun r_4 u t H1 locs ht hvm hw hB hz1 hk1 hS => ?_)
  obtain ⟨hP1, hK1, hD1⟩ := hB
  rw [ht] at hP1
  obtain ⟨hP, hD⟩ := va_join (wr := [(h1, .inr (7, [.int h1_f0, .int h1_f1, .int h1_f2, .int h1_f3, .ref h1_4, .ref h1_5, .ref h1_6, .ref h1_7, .ref h1_8, .ref h1_9, .ref h1_10, .ref h1_11, .ref h1_12])), (h1_6, .inl (h1_6k, 3, .inl h1_6c)), (h1_7, .inl (h1_7k, 3, .inl h1_7c))]) (w1 := (wd_c_X6_part h2 h2_0 h2_f1 h2_0 h2_0k h2_0c)) hP hD [0, 1] [2, 3, 4] rfl rfl (by decide) (by decide) hk1 hFc hP1 hD1
  have hP := hP.sub (ws' := (wd_c_X11_change h2 h2_0 h2_f1 h2_0 h2_0k h2_0c h1 h1_f0 h1_f1 h1_f2 h1_f3 h1_4 h1_5 h1_6 h1_7 h1_8 h1_9 h1_10 h1_11 h1_12 h1_6 h1_6k h1_6c h1_7 h1_7k h1_7c)) [3, 4, 0, 1, 2] rfl
  have hD := hD.sub (ws' := (wd_c_X11_change h2 h2_0 h2_f1 h2_0 h2_0k h2_0c h1 h1_f0 h1_f1 h1_f2 h1_f3 h1_4 h1_5 h1_6 h1_7 h1_8 h1_9 h1_10 h1_11 h1_12 h1_6 h1_6k h1_6c h1_7 h1_7k h1_7c)) [3, 4, 0, 1, 2] (by decide) rfl
  generalize H1 = H at hP hS ⊢
  rcases hw with ⟨h_5, h_6⟩
  obtain rfl : y2 = r_4 := (h_6.trans pv_2.symm).symm
  refine lv_istore (lv' := [(5, .int y2), (4, .int y1), (0, .ref h0), (1, .ref h1), (2, .ref h2), (3, .int p3)]) hx hb dX11_change_14 hl (Nat.le_of_ble_eq_true rfl) rfl (fun ls hl => ?_)
  refine lv_aload_n hx hb dX11_change_16 rfl (lv_at hl 4 rfl) ?_
  refine lv_iload_n hx hb dX11_change_17 rfl (lv_at hl 5 rfl) ?_
  refine lv_iconst (v := 0) hx hb dX11_change_18 kc_iconst_0 ?_
  have hPc := hP.sub (ws' := (wd_c_X6_part h2 h2_0 h2_f1 h2_0 h2_0k h2_0c)) [0, 1] rfl
  have hDc := hD.sub (ws' := (wd_c_X6_part h2 h2_0 h2_f1 h2_0 h2_0k h2_0c)) [0, 1] (by decide) rfl
  have hKc := hK.sub (tys' := [(h2_0k, .int)]) [0] rfl
  have hFc := va_free (wc := (wd_c_X6_part h2 h2_0 h2_f1 h2_0 h2_0k h2_0c)) hD hS hA [0, 1] rfl
  refine va_calli (va_runV (As := [.int p3, .int 0]) (rest := []) ⟨hx, hb, hml, hown, hts⟩ (c_X6_part l dC dI H.size h2 p3 0 h2_0 h2_f1 h2_0k h2_0c g_p3 (RG_w (RG_k 0 0 rfl) (by decide)) g_h2_f1 a_h2_0c) (cwV 2 hts gf_c_X11_change_c_X6_part rfl rfl rfl (by decide +kernel) ⟨Nat.le_of_ble_eq_true rfl, Nat.le_of_ble_eq_true rfl⟩) ⟨fun a U g mk q => by obtain ⟨q0, q1, qP, qK, qD⟩ := q; exact ⟨q0, q1, qP, va_K.moved (u := U) (U := U.calling g mk a) (Vm.Alike.refl U.vm) qK, qD⟩, va_recv hKc hPc (ci := 6) (q0 := 0) rfl rfl, fun U hU hW => ⟨rfl, by rw [hU], by rw [hU]; exact hPc, va_K.moved hW.alike hKc, hDc.weaken (fun _ _ _ _ => trivial)⟩⟩ rfl rfl hl.1 rfl (lv_room (Nat.le_of_ble_eq_true rfl)) dX11_change_19 ⟨Nat.le_of_ble_eq_true rfl, Nat.le_of_ble_eq_true rfl⟩) hS (fun q _ h => hFc q h) hFc (fun r_7 u t H1 locs ht hvm hw hB hz1 hk1 hS => ?_)
  obtain ⟨hP1, hK1, hD1⟩ := hB
  rw [ht] at hP1
  obtain ⟨hP, hD⟩ := va_join (wr := [(h1, .inr (7, [.int h1_f0, .int h1_f1, .int h1_f2, .int h1_f3, .ref h1_4, .ref h1_5, .ref h1_6, .ref h1_7, .ref h1_8, .ref h1_9, .ref h1_10, .ref h1_11, .ref h1_12])), (h1_6, .inl (h1_6k, 3, .inl h1_6c)), (h1_7, .inl (h1_7k, 3, .inl h1_7c))]) (w1 := (wd_c_X6_part h2 h2_0 h2_f1 h2_0 h2_0k h2_0c)) hP hD [0, 1] [2, 3, 4] rfl rfl (by decide) (by decide) hk1 hFc hP1 hD1
  have hP := hP.sub (ws' := (wd_c_X11_change h2 h2_0 h2_f1 h2_0 h2_0k h2_0c h1 h1_f0 h1_f1 h1_f2 h1_f3 h1_4 h1_5 h1_6 h1_7 h1_8 h1_9 h1_10 h1_11 h1_12 h1_6 h1_6k h1_6c h1_7 h1_7k h1_7c)) [3, 4, 0, 1, 2] rfl
  have hD := hD.sub (ws' := (wd_c_X11_change h2 h2_0 h2_f1 h2_0 h2_0k h2_0c h1 h1_f0 h1_f1 h1_f2 h1_f3 h1_4 h1_5 h1_6 h1_7 h1_8 h1_9 h1_10 h1_11 h1_12 h1_6 h1_6k h1_6c h1_7 h1_7k h1_7c)) [3, 4, 0, 1, 2] (by decide) rfl
  generalize H1 = H at hP hS ⊢
  rcases hw with ⟨h_8, h_9⟩
  obtain rfl : y0 = r_7 := (h_9.trans pv_0.symm).symm
  by_cases c_10 : y0 = 0
  · have hsw : y0.toInt = 0 := by rw [c_10]; rfl
    refine lv_tableIn (off := 26) (tgt := 48) hx hb dX11_change_22 (by rw [hsw]; decide) (by rw [hsw]; decide) (by rw [hsw]; decide) (by decide) ?_
    have g_11 : RG y0 0 0 := RG_k _ _ hsw
    refine lv_aload_n hx hb dX11_change_48 rfl (lv_at hl 3 rfl) ?_
    refine va_get (D := (dC, dI)) (ci := 7) (v := .ref h1_6) (C := RX7) (T := TX7) (N := 13) hx hb hts iw_c_X11_change_X7 hown hK hP 2 rfl rfl 6 (by decide) (hts (.fieldLink RX11 206 "BuoyVote$Sea" "goalX" "[I") (List.mem_of_getElem? (i := 7) rfl)) (fun _ h9 => h9) rfl dX11_change_49 ?_
    refine lv_iload hx hb dX11_change_52 (lv_at hl 1 rfl) ?_
    refine lv_iload hx hb dX11_change_54 (lv_at hl 0 rfl) ?_
    refine va_iast hx hb hK hP hD hS 3 1 rfl rfl (RG_in g_y1 (by decide)) dX11_change_56 (fun H locs hP hD hS => ?_)
    have hP : va_P (dC, dI) vwCl (wd_c_X11_change h2 h2_0 h2_f1 h2_0 h2_0k h2_0c h1 h1_f0 h1_f1 h1_f2 h1_f3 h1_4 h1_5 h1_6 h1_7 h1_8 h1_9 h1_10 h1_11 h1_12 h1_6 h1_6k (upd h1_6c (y1 : Int32).toNatClampNeg y2) h1_7 h1_7k h1_7c) H := hP
    have hD : va_D A (wd_c_X11_change h2 h2_0 h2_f1 h2_0 h2_0k h2_0c h1 h1_f0 h1_f1 h1_f2 h1_f3 h1_4 h1_5 h1_6 h1_7 h1_8 h1_9 h1_10 h1_11 h1_12 h1_6 h1_6k (upd h1_6c (y1 : Int32).toNatClampNeg y2) h1_7 h1_7k h1_7c) := hD
    have l_13 : (upd h1_6c (y1 : Int32).toNatClampNeg y2) (y1 : Int32).toNatClampNeg = y2 := pk_us
    generalize (upd h1_6c (y1 : Int32).toNatClampNeg y2) = w_12 at hP hD l_13
    have hP : va_P (dC, dI) vwCl (wd_c_X11_change h2 h2_0 h2_f1 h2_0 h2_0k h2_0c h1 h1_f0 h1_f1 h1_f2 h1_f3 h1_4 h1_5 h1_6 h1_7 h1_8 h1_9 h1_10 h1_11 h1_12 h1_6 h1_6k w_12 h1_7 h1_7k h1_7c) H := hP
    have hD : va_D A (wd_c_X11_change h2 h2_0 h2_f1 h2_0 h2_0k h2_0c h1 h1_f0 h1_f1 h1_f2 h1_f3 h1_4 h1_5 h1_6 h1_7 h1_8 h1_9 h1_10 h1_11 h1_12 h1_6 h1_6k w_12 h1_7 h1_7k h1_7c) := hD
    refine lv_aload_n hx hb dX11_change_57 rfl (lv_at hl 3 rfl) ?_
    refine va_get (D := (dC, dI)) (ci := 7) (v := .ref h1_7) (C := RX7) (T := TX7) (N := 13) hx hb hts iw_c_X11_change_X7 hown hK hP 2 rfl rfl 7 (by decide) (hts (.fieldLink RX11 209 "BuoyVote$Sea" "goalY" "[I") (List.mem_of_getElem? (i := 8) rfl)) (fun _ h9 => h9) rfl dX11_change_58 ?_
    refine lv_iload hx hb dX11_change_61 (lv_at hl 1 rfl) ?_
    refine lv_aload_n hx hb dX11_change_63 rfl (lv_at hl 4 rfl) ?_
    refine lv_iload_n hx hb dX11_change_64 rfl (lv_at hl 5 rfl) ?_
    refine lv_iconst (v := 3) hx hb dX11_change_65 kc_iconst_3 ?_
    have hPc := hP.sub (ws' := (wd_c_X6_part h2 h2_0 h2_f1 h2_0 h2_0k h2_0c)) [0, 1] rfl
    have hDc := hD.sub (ws' := (wd_c_X6_part h2 h2_0 h2_f1 h2_0 h2_0k h2_0c)) [0, 1] (by decide) rfl
    have hKc := hK.sub (tys' := [(h2_0k, .int)]) [0] rfl
    have hFc := va_free (wc := (wd_c_X6_part h2 h2_0 h2_f1 h2_0 h2_0k h2_0c)) hD hS hA [0, 1] rfl
    refine va_calli (va_runV (As := [.int p3, .int 3]) (rest := [.int y1, .ref h1_7]) ⟨hx, hb, hml, hown, hts⟩ (c_X6_part l dC dI H.size h2 p3 3 h2_0 h2_f1 h2_0k h2_0c g_p3 (RG_w (RG_k 3 3 rfl) (by decide)) g_h2_f1 a_h2_0c) (cwV 2 hts gf_c_X11_change_c_X6_part rfl rfl rfl (by decide +kernel) ⟨Nat.le_of_ble_eq_true rfl, Nat.le_of_ble_eq_true rfl⟩) ⟨fun a U g mk q => by obtain ⟨q0, q1, qP, qK, qD⟩ := q; exact ⟨q0, q1, qP, va_K.moved (u := U) (U := U.calling g mk a) (Vm.Alike.refl U.vm) qK, qD⟩, va_recv hKc hPc (ci := 6) (q0 := 0) rfl rfl, fun U hU hW => ⟨rfl, by rw [hU], by rw [hU]; exact hPc, va_K.moved hW.alike hKc, hDc.weaken (fun _ _ _ _ => trivial)⟩⟩ rfl rfl hl.1 rfl (lv_room (Nat.le_of_ble_eq_true rfl)) dX11_change_66 ⟨Nat.le_of_ble_eq_true rfl, Nat.le_of_ble_eq_true rfl⟩) hS (fun q _ h => hFc q h) hFc (fun r_14 u t H1 locs ht hvm hw hB hz1 hk1 hS => ?_)
    obtain ⟨hP1, hK1, hD1⟩ := hB
    rw [ht] at hP1
    obtain ⟨hP, hD⟩ := va_join (wr := [(h1, .inr (7, [.int h1_f0, .int h1_f1, .int h1_f2, .int h1_f3, .ref h1_4, .ref h1_5, .ref h1_6, .ref h1_7, .ref h1_8, .ref h1_9, .ref h1_10, .ref h1_11, .ref h1_12])), (h1_6, .inl (h1_6k, 3, .inl w_12)), (h1_7, .inl (h1_7k, 3, .inl h1_7c))]) (w1 := (wd_c_X6_part h2 h2_0 h2_f1 h2_0 h2_0k h2_0c)) hP hD [0, 1] [2, 3, 4] rfl rfl (by decide) (by decide) hk1 hFc hP1 hD1
    have hP := hP.sub (ws' := (wd_c_X11_change h2 h2_0 h2_f1 h2_0 h2_0k h2_0c h1 h1_f0 h1_f1 h1_f2 h1_f3 h1_4 h1_5 h1_6 h1_7 h1_8 h1_9 h1_10 h1_11 h1_12 h1_6 h1_6k w_12 h1_7 h1_7k h1_7c)) [3, 4, 0, 1, 2] rfl
    have hD := hD.sub (ws' := (wd_c_X11_change h2 h2_0 h2_f1 h2_0 h2_0k h2_0c h1 h1_f0 h1_f1 h1_f2 h1_f3 h1_4 h1_5 h1_6 h1_7 h1_8 h1_9 h1_10 h1_11 h1_12 h1_6 h1_6k w_12 h1_7 h1_7k h1_7c)) [3, 4, 0, 1, 2] (by decide) rfl
    generalize H1 = H at hP hS ⊢
    rcases hw with ⟨h_15, h_16⟩
    obtain rfl : y3 = r_14 := (h_16.trans pv_3.symm).symm
    refine va_iast hx hb hK hP hD hS 4 2 rfl rfl (RG_in g_y1 (by decide)) dX11_change_69 (fun H locs hP hD hS => ?_)
    have hP : va_P (dC, dI) vwCl (wd_c_X11_change h2 h2_0 h2_f1 h2_0 h2_0k h2_0c h1 h1_f0 h1_f1 h1_f2 h1_f3 h1_4 h1_5 h1_6 h1_7 h1_8 h1_9 h1_10 h1_11 h1_12 h1_6 h1_6k w_12 h1_7 h1_7k (upd h1_7c (y1 : Int32).toNatClampNeg y3)) H := hP
    have hD : va_D A (wd_c_X11_change h2 h2_0 h2_f1 h2_0 h2_0k h2_0c h1 h1_f0 h1_f1 h1_f2 h1_f3 h1_4 h1_5 h1_6 h1_7 h1_8 h1_9 h1_10 h1_11 h1_12 h1_6 h1_6k w_12 h1_7 h1_7k (upd h1_7c (y1 : Int32).toNatClampNeg y3)) := hD
    have l_18 : (upd h1_7c (y1 : Int32).toNatClampNeg y3) (y1 : Int32).toNatClampNeg = y3 := pk_us
    generalize (upd h1_7c (y1 : Int32).toNatClampNeg y3) = w_17 at hP hD l_18
    have hP : va_P (dC, dI) vwCl (wd_c_X11_change h2 h2_0 h2_f1 h2_0 h2_0k h2_0c h1 h1_f0 h1_f1 h1_f2 h1_f3 h1_4 h1_5 h1_6 h1_7 h1_8 h1_9 h1_10 h1_11 h1_12 h1_6 h1_6k w_12 h1_7 h1_7k w_17) H := hP
    have hD : va_D A (wd_c_X11_change h2 h2_0 h2_f1 h2_0 h2_0k h2_0c h1 h1_f0 h1_f1 h1_f2 h1_f3 h1_4 h1_5 h1_6 h1_7 h1_8 h1_9 h1_10 h1_11 h1_12 h1_6 h1_6k w_12 h1_7 h1_7k w_17) := hD
    refine lv_goto (tgt := 98) hx hb dX11_change_70 rfl ?_
    have hK9 := hK.sub (tys' := []) [] rfl
    exact W.vret hx hb hr (fun t ht hW => ⟨⟨(w_12, w_17), rfl, trivial, by rw [ht]; exact hP, va_K.moved hW.alike hK9, hD⟩, hS.F ht⟩) hS.2.2 dX11_change_98
  exfalso
  have zc_10 := lv_neT c_10 (a := 0) (by decide)
  have zg1 := (g_y0).1
  have zg2 := (g_y0).2
  omega
def wd_c_X7_singTo (a0 : Nat) (a1 : Int32) (a2 : Int32) (a3 : Int32) (a4 : Int32) (a5 : Nat) (a6 : Nat) (a7 : Nat) (a8 : Nat) (a9 : Nat) (a10 : Nat) (a11 : Nat) (a12 : Nat) (a13 : Nat) (a14 : Nat) (a15 : ClassId) (a16 : Nat → Int32) (a17 : Nat) (a18 : ClassId) (a19 : Nat → Int32) : va_W := [(a0, .inr (7, [.int a1, .int a2, .int a3, .int a4, .ref a5, .ref a6, .ref a7, .ref a8, .ref a9, .ref a10, .ref a11, .ref a12, .ref a13])), (a14, .inl (a15, 24, .inl a16)), (a17, .inl (a18, 3, .inl a19))]
def wf_c_X7_singTo : List Cond := .code yX7_singTo cX7_singTo 3 none :: ([.fieldLink RX7 30 "BuoyVote$Sea" "liking" "[I", .fieldLink RX7 27 "BuoyVote$Sea" "sang" "[I"] ++ wsX70)
theorem iw_c_X7_singTo_X7 : ∀ w ∈ wsX70, w ∈ wf_c_X7_singTo := fun w h => List.mem_cons_of_mem _ (List.mem_append_right _ h)
set_option maxHeartbeats 4000000 in
set_option maxRecDepth 100000 in
theorem c_X7_singTo (l : Launch) (dC : Nat → ClassId) (dI : Nat → Nat → Nat) (sz : Nat) (h0 : Nat) (p1 : Int32) (p2 : Int32) (h0_f0 : Int32) (h0_f1 : Int32) (h0_f2 : Int32) (h0_f3 : Int32) (h0_4 : Nat) (h0_5 : Nat) (h0_6 : Nat) (h0_7 : Nat) (h0_8 : Nat) (h0_9 : Nat) (h0_10 : Nat) (h0_11 : Nat) (h0_12 : Nat) (h0_10k : ClassId) (h0_10c : Nat → Int32) (h0_9k : ClassId) (h0_9c : Nat → Int32) (g_p1 : RG p1 0 2) (g_p2 : RG p2 0 7) : Met l yX7_singTo wf_c_X7_singTo ({ frames := 0, cells := 0, slots := 0, locals := 0 }) (va_Pc [.ref h0, .int p1, .int p2] (fun U => U.heap.size = sz ∧ va_P (dC, dI) vwCl (wd_c_X7_singTo h0 h0_f0 h0_f1 h0_f2 h0_f3 h0_4 h0_5 h0_6 h0_7 h0_8 h0_9 h0_10 h0_11 h0_12 h0_10 h0_10k h0_10c h0_9 h0_9k h0_9c) U.heap ∧ va_K (dC, dI) vwCl [(h0_10k, .int), (h0_9k, .int)] U ∧ va_D (fun _ => True) (wd_c_X7_singTo h0 h0_f0 h0_f1 h0_f2 h0_f3 h0_4 h0_5 h0_6 h0_7 h0_8 h0_9 h0_10 h0_11 h0_12 h0_10 h0_10k h0_10c h0_9 h0_9k h0_9c))) (va_Qv (fun (u : (Nat → Int32) × (Nat → Int32)) => (True)) (fun (u : (Nat → Int32) × (Nat → Int32)) t => va_P (dC, dI) vwCl (wd_c_X7_singTo h0 h0_f0 h0_f1 h0_f2 h0_f3 h0_4 h0_5 h0_6 h0_7 h0_8 h0_9 h0_10 h0_11 h0_12 h0_10 h0_10k (u.1) h0_9 h0_9k (u.2)) t.heap ∧ va_K (dC, dI) vwCl [] t ∧ va_D (va_A (wd_c_X7_singTo h0 h0_f0 h0_f1 h0_f2 h0_f3 h0_4 h0_5 h0_6 h0_7 h0_8 h0_9 h0_10 h0_11 h0_12 h0_10 h0_10k h0_10c h0_9 h0_9k h0_9c) sz) (wd_c_X7_singTo h0 h0_f0 h0_f1 h0_f2 h0_f3 h0_4 h0_5 h0_6 h0_7 h0_8 h0_9 h0_10 h0_11 h0_12 h0_10 h0_10k (u.1) h0_9 h0_9k (u.2))) (va_A (wd_c_X7_singTo h0 h0_f0 h0_f1 h0_f2 h0_f3 h0_4 h0_5 h0_6 h0_7 h0_8 h0_9 h0_10 h0_11 h0_12 h0_10 h0_10k h0_10c h0_9 h0_9k h0_9c) sz)) 0 0 (va_A (wd_c_X7_singTo h0 h0_f0 h0_f1 h0_f2 h0_f3 h0_4 h0_5 h0_6 h0_7 h0_8 h0_9 h0_10 h0_11 h0_12 h0_10 h0_10k h0_10c h0_9 h0_9k h0_9c) sz) := by
  refine Met.ofW (cc := cX7_singTo) (maxL := 3) (ret := none) (by decide) rfl ?_
  intro p e s m args below meth c s₁ B hml hv
  obtain ⟨rfl, hsz, hP, hK, hD0⟩ := hv
  have hx := B.exec
  have hb := B.bytes
  have hr := B.returns
  have hts := atoms_spec (ws := wf_c_X7_singTo) B.pre
  have hown : s.vm.findClass RX7 = some m.cls := findClass_of_methodNamed B.named
  have hlocks := B.notSynchronized
  subst hsz
  have hD := hD0.self (sz := s.heap.size)
  generalize hAe : va_A (wd_c_X7_singTo h0 h0_f0 h0_f1 h0_f2 h0_f3 h0_4 h0_5 h0_6 h0_7 h0_8 h0_9 h0_10 h0_11 h0_12 h0_10 h0_10k h0_10c h0_9 h0_9k h0_9c) s.heap.size = A at hD ⊢
  have hA : ∀ q : Nat, s.heap.size ≤ q → A q := fun q h => by rw [← hAe]; exact Or.inr h
  have hP : va_P (dC, dI) vwCl (wd_c_X7_singTo h0 h0_f0 h0_f1 h0_f2 h0_f3 h0_4 h0_5 h0_6 h0_7 h0_8 h0_9 h0_10 h0_11 h0_12 h0_10 h0_10k h0_10c h0_9 h0_9k h0_9c) s.heap := hP
  have hl := lv_entry ([.ref h0, .int p1, .int p2]) (n := 3) (Nat.le_of_ble_eq_true rfl)
  rw [lg_entry_eq]
  generalize (lg_sl ([.ref h0, .int p1, .int p2]) ++ List.replicate (3 - (lg_sl ([.ref h0, .int p1, .int p2])).length) Slot.unset).toArray = ls at hl ⊢
  have hl : lv_has ls 3 [(0, .ref h0), (1, .int p1), (2, .int p2)] := hl
  obtain ⟨H, hHe⟩ : ∃ H : Heap, s.heap = H := ⟨_, rfl⟩
  have hS : va_S A s.heap H [] := by rw [hHe]; exact va_S.rf
  have hP : va_P (dC, dI) vwCl (wd_c_X7_singTo h0 h0_f0 h0_f1 h0_f2 h0_f3 h0_4 h0_5 h0_6 h0_7 h0_8 h0_9 h0_10 h0_11 h0_12 h0_10 h0_10k h0_10c h0_9 h0_9k h0_9c) H := by rw [← hHe]; exact hP
  rw [hHe]
  refine lv_aload_n hx hb dX7_singTo_0 rfl (lv_at hl 0 rfl) ?_
  refine va_get (D := (dC, dI)) (ci := 7) (v := .ref h0_10) (C := RX7) (T := TX7) (N := 13) hx hb hts iw_c_X7_singTo_X7 hown hK hP 0 rfl rfl 10 (by decide) (hts (.fieldLink RX7 30 "BuoyVote$Sea" "liking" "[I") (List.mem_of_getElem? (i := 1) rfl)) (fun _ h9 => h9) rfl dX7_singTo_1 ?_
  refine lv_iload_n hx hb dX7_singTo_4 rfl (lv_at hl 2 rfl) ?_
  refine lv_iconst (v := 3) hx hb dX7_singTo_5 kc_iconst_3 ?_
  refine lv_imul hx hb dX7_singTo_6 ?_
  refine lv_topi (fun x_1 ex_1 => ?_)
  have g_2 : RG x_1 0 21 := RG_mulc ex_1 (q := 3) rfl g_p2 (by decide)
  refine lv_iload_n hx hb dX7_singTo_7 rfl (lv_at hl 1 rfl) ?_
  refine lv_iadd hx hb dX7_singTo_8 ?_
  refine lv_topi (fun x_3 ex_3 => ?_)
  have g_4 : RG x_3 0 23 := RG_add ex_3 g_2 g_p1 (by decide)
  refine lv_dup2_11 hx hb dX7_singTo_9 rfl rfl ?_
  refine va_iald hx hb hK hP 1 0 rfl rfl (RG_in g_4 (by decide)) dX7_singTo_10 ?_
  refine lv_topi (fun x_5 ex_5 => ?_)
  refine lv_iconst (v := 1) hx hb dX7_singTo_11 kc_iconst_1 ?_
  refine lv_iadd hx hb dX7_singTo_12 ?_
  refine lv_topi (fun x_6 ex_6 => ?_)
  refine va_iast hx hb hK hP hD hS 1 0 rfl rfl (RG_in g_4 (by decide)) dX7_singTo_13 (fun H locs hP hD hS => ?_)
  have hP : va_P (dC, dI) vwCl (wd_c_X7_singTo h0 h0_f0 h0_f1 h0_f2 h0_f3 h0_4 h0_5 h0_6 h0_7 h0_8 h0_9 h0_10 h0_11 h0_12 h0_10 h0_10k (upd h0_10c (x_3 : Int32).toNatClampNeg x_6) h0_9 h0_9k h0_9c) H := hP
  have hD : va_D A (wd_c_X7_singTo h0 h0_f0 h0_f1 h0_f2 h0_f3 h0_4 h0_5 h0_6 h0_7 h0_8 h0_9 h0_10 h0_11 h0_12 h0_10 h0_10k (upd h0_10c (x_3 : Int32).toNatClampNeg x_6) h0_9 h0_9k h0_9c) := hD
  have l_8 : (upd h0_10c (x_3 : Int32).toNatClampNeg x_6) (x_3 : Int32).toNatClampNeg = x_6 := pk_us
  generalize (upd h0_10c (x_3 : Int32).toNatClampNeg x_6) = w_7 at hP hD l_8
  have hP : va_P (dC, dI) vwCl (wd_c_X7_singTo h0 h0_f0 h0_f1 h0_f2 h0_f3 h0_4 h0_5 h0_6 h0_7 h0_8 h0_9 h0_10 h0_11 h0_12 h0_10 h0_10k w_7 h0_9 h0_9k h0_9c) H := hP
  have hD : va_D A (wd_c_X7_singTo h0 h0_f0 h0_f1 h0_f2 h0_f3 h0_4 h0_5 h0_6 h0_7 h0_8 h0_9 h0_10 h0_11 h0_12 h0_10 h0_10k w_7 h0_9 h0_9k h0_9c) := hD
  refine lv_aload_n hx hb dX7_singTo_14 rfl (lv_at hl 0 rfl) ?_
  refine va_get (D := (dC, dI)) (ci := 7) (v := .ref h0_9) (C := RX7) (T := TX7) (N := 13) hx hb hts iw_c_X7_singTo_X7 hown hK hP 0 rfl rfl 9 (by decide) (hts (.fieldLink RX7 27 "BuoyVote$Sea" "sang" "[I") (List.mem_of_getElem? (i := 2) rfl)) (fun _ h9 => h9) rfl dX7_singTo_15 ?_
  refine lv_iload_n hx hb dX7_singTo_18 rfl (lv_at hl 1 rfl) ?_
  refine lv_dup2_11 hx hb dX7_singTo_19 rfl rfl ?_
  refine va_iald hx hb hK hP 2 1 rfl rfl (RG_in g_p1 (by decide)) dX7_singTo_20 ?_
  refine lv_topi (fun x_9 ex_9 => ?_)
  refine lv_iconst (v := 1) hx hb dX7_singTo_21 kc_iconst_1 ?_
  refine lv_iadd hx hb dX7_singTo_22 ?_
  refine lv_topi (fun x_10 ex_10 => ?_)
  refine va_iast hx hb hK hP hD hS 2 1 rfl rfl (RG_in g_p1 (by decide)) dX7_singTo_23 (fun H locs hP hD hS => ?_)
  have hP : va_P (dC, dI) vwCl (wd_c_X7_singTo h0 h0_f0 h0_f1 h0_f2 h0_f3 h0_4 h0_5 h0_6 h0_7 h0_8 h0_9 h0_10 h0_11 h0_12 h0_10 h0_10k w_7 h0_9 h0_9k (upd h0_9c (p1 : Int32).toNatClampNeg x_10)) H := hP
  have hD : va_D A (wd_c_X7_singTo h0 h0_f0 h0_f1 h0_f2 h0_f3 h0_4 h0_5 h0_6 h0_7 h0_8 h0_9 h0_10 h0_11 h0_12 h0_10 h0_10k w_7 h0_9 h0_9k (upd h0_9c (p1 : Int32).toNatClampNeg x_10)) := hD
  have l_12 : (upd h0_9c (p1 : Int32).toNatClampNeg x_10) (p1 : Int32).toNatClampNeg = x_10 := pk_us
  generalize (upd h0_9c (p1 : Int32).toNatClampNeg x_10) = w_11 at hP hD l_12
  have hP : va_P (dC, dI) vwCl (wd_c_X7_singTo h0 h0_f0 h0_f1 h0_f2 h0_f3 h0_4 h0_5 h0_6 h0_7 h0_8 h0_9 h0_10 h0_11 h0_12 h0_10 h0_10k w_7 h0_9 h0_9k w_11) H := hP
  have hD : va_D A (wd_c_X7_singTo h0 h0_f0 h0_f1 h0_f2 h0_f3 h0_4 h0_5 h0_6 h0_7 h0_8 h0_9 h0_10 h0_11 h0_12 h0_10 h0_10k w_7 h0_9 h0_9k w_11) := hD
  have hK9 := hK.sub (tys' := []) [] rfl
  exact W.vret hx hb hr (fun t ht hW => ⟨⟨(w_7, w_11), rfl, trivial, by rw [ht]; exact hP, va_K.moved hW.alike hK9, hD⟩, hS.F ht⟩) hS.2.2 dX7_singTo_24
def wd_c_X11_change_1 (a0 : Nat) (a1 : Nat) (a2 : Int32) (a3 : Nat) (a4 : ClassId) (a5 : Nat → Int32) (a6 : Nat) (a7 : Int32) (a8 : Int32) (a9 : Int32) (a10 : Int32) (a11 : Nat) (a12 : Nat) (a13 : Nat) (a14 : Nat) (a15 : Nat) (a16 : Nat) (a17 : Nat) (a18 : Nat) (a19 : Nat) (a20 : Nat) (a21 : ClassId) (a22 : Nat → Int32) (a23 : Nat) (a24 : ClassId) (a25 : Nat → Int32) : va_W := [(a0, .inr (6, [.ref a1, .int a2])), (a3, .inl (a4, 64, .inl a5)), (a6, .inr (7, [.int a7, .int a8, .int a9, .int a10, .ref a11, .ref a12, .ref a13, .ref a14, .ref a15, .ref a16, .ref a17, .ref a18, .ref a19])), (a20, .inl (a21, 24, .inl a22)), (a23, .inl (a24, 3, .inl a25))]
def wf_c_X11_change_1 : List Cond := .code yX11_change cX11_change 6 none :: ([.methodLink RX11 299 yX6_part, .instanceMethod yX6_part, .selects RX6 yX6_part yX6_part, .initialized RX6, .code yX6_part cX6_part 3 (some .int), .fieldLink RX6 11 "BuoyVote$Plan" "cells" "[I", .methodLink RX11 252 yX7_singTo, .instanceMethod yX7_singTo, .selects RX7 yX7_singTo yX7_singTo, .initialized RX7, .code yX7_singTo cX7_singTo 3 none, .fieldLink RX7 30 "BuoyVote$Sea" "liking" "[I", .fieldLink RX7 27 "BuoyVote$Sea" "sang" "[I"] ++ wsX60 ++ wsX70)
theorem iw_c_X11_change_1_X6 : ∀ w ∈ wsX60, w ∈ wf_c_X11_change_1 := fun w h => List.mem_cons_of_mem _ (List.mem_append_left _ (List.mem_append_right _ h))
theorem iw_c_X11_change_1_X7 : ∀ w ∈ wsX70, w ∈ wf_c_X11_change_1 := fun w h => List.mem_cons_of_mem _ (List.mem_append_right _ h)
set_option maxRecDepth 20000 in
theorem gf_c_X11_change_1_c_X6_part : GoodIn wf_c_X11_change_1 (wsV RX11 299 RX6 yX6_part wf_c_X6_part) := goodIn_app (gi_cons (j := 1) rfl rfl (gi_cons (j := 2) rfl rfl (gi_cons (j := 3) rfl rfl (gi_cons (j := 4) rfl rfl (gi_nil))))) (gi_cons (j := 5) rfl rfl (goodIn_app (gi_cons (j := 6) rfl rfl (gi_nil)) (goodIn_sub iw_c_X11_change_1_X6 gw_X6)))
set_option maxRecDepth 20000 in
theorem gf_c_X11_change_1_c_X7_singTo : GoodIn wf_c_X11_change_1 (wsV RX11 252 RX7 yX7_singTo wf_c_X7_singTo) := goodIn_app (gi_cons (j := 7) rfl rfl (gi_cons (j := 8) rfl rfl (gi_cons (j := 9) rfl rfl (gi_cons (j := 10) rfl rfl (gi_nil))))) (gi_cons (j := 11) rfl rfl (goodIn_app (gi_cons (j := 12) rfl rfl (gi_cons (j := 13) rfl rfl (gi_nil))) (goodIn_sub iw_c_X11_change_1_X7 gw_X7)))
set_option maxHeartbeats 4000000 in
set_option maxRecDepth 100000 in
theorem c_X11_change_1 (l : Launch) (dC : Nat → ClassId) (dI : Nat → Nat → Nat) (sz : Nat) (h0 : Nat) (h1 : Nat) (h2 : Nat) (p3 : Int32) (h2_0 : Nat) (h2_f1 : Int32) (h2_0k : ClassId) (h2_0c : Nat → Int32) (h1_f0 : Int32) (h1_f1 : Int32) (h1_f2 : Int32) (h1_f3 : Int32) (h1_4 : Nat) (h1_5 : Nat) (h1_6 : Nat) (h1_7 : Nat) (h1_8 : Nat) (h1_9 : Nat) (h1_10 : Nat) (h1_11 : Nat) (h1_12 : Nat) (h1_10k : ClassId) (h1_10c : Nat → Int32) (h1_9k : ClassId) (h1_9c : Nat → Int32) (y0 : Int32) (y1 : Int32) (y2 : Int32) (y3 : Int32) (g_p3 : RG p3 0 15) (g_h2_f1 : RG h2_f1 0 16) (a_h2_0c : AI h2_0c (-1) 9) (pv_0 : y0 = h2_0c (p3 * 4 + 0).toNatClampNeg) (g_y0 : RG y0 1 1) (pv_1 : y1 = h2_0c (p3 * 4 + 1).toNatClampNeg) (g_y1 : RG y1 0 2) (pv_2 : y2 = h2_0c (p3 * 4 + 2).toNatClampNeg) (g_y2 : RG y2 0 7) (pv_3 : y3 = h2_0c (p3 * 4 + 3).toNatClampNeg) (g_y3 : RG y3 (-1) 9) : Met l yX11_change wf_c_X11_change_1 ({ frames := 1, cells := 0, slots := 0, locals := 22 }) (va_Pc [.ref h0, .ref h1, .ref h2, .int p3] (fun U => U.heap.size = sz ∧ va_P (dC, dI) vwCl (wd_c_X11_change_1 h2 h2_0 h2_f1 h2_0 h2_0k h2_0c h1 h1_f0 h1_f1 h1_f2 h1_f3 h1_4 h1_5 h1_6 h1_7 h1_8 h1_9 h1_10 h1_11 h1_12 h1_10 h1_10k h1_10c h1_9 h1_9k h1_9c) U.heap ∧ va_K (dC, dI) vwCl [(h2_0k, .int), (h1_10k, .int), (h1_9k, .int)] U ∧ va_D (fun _ => True) (wd_c_X11_change_1 h2 h2_0 h2_f1 h2_0 h2_0k h2_0c h1 h1_f0 h1_f1 h1_f2 h1_f3 h1_4 h1_5 h1_6 h1_7 h1_8 h1_9 h1_10 h1_11 h1_12 h1_10 h1_10k h1_10c h1_9 h1_9k h1_9c))) (va_Qv (fun (u : (Nat → Int32) × (Nat → Int32)) => (True)) (fun (u : (Nat → Int32) × (Nat → Int32)) t => va_P (dC, dI) vwCl (wd_c_X11_change_1 h2 h2_0 h2_f1 h2_0 h2_0k h2_0c h1 h1_f0 h1_f1 h1_f2 h1_f3 h1_4 h1_5 h1_6 h1_7 h1_8 h1_9 h1_10 h1_11 h1_12 h1_10 h1_10k (u.1) h1_9 h1_9k (u.2)) t.heap ∧ va_K (dC, dI) vwCl [] t ∧ va_D (va_A (wd_c_X11_change_1 h2 h2_0 h2_f1 h2_0 h2_0k h2_0c h1 h1_f0 h1_f1 h1_f2 h1_f3 h1_4 h1_5 h1_6 h1_7 h1_8 h1_9 h1_10 h1_11 h1_12 h1_10 h1_10k h1_10c h1_9 h1_9k h1_9c) sz) (wd_c_X11_change_1 h2 h2_0 h2_f1 h2_0 h2_0k h2_0c h1 h1_f0 h1_f1 h1_f2 h1_f3 h1_4 h1_5 h1_6 h1_7 h1_8 h1_9 h1_10 h1_11 h1_12 h1_10 h1_10k (u.1) h1_9 h1_9k (u.2))) (va_A (wd_c_X11_change_1 h2 h2_0 h2_f1 h2_0 h2_0k h2_0c h1 h1_f0 h1_f1 h1_f2 h1_f3 h1_4 h1_5 h1_6 h1_7 h1_8 h1_9 h1_10 h1_11 h1_12 h1_10 h1_10k h1_10c h1_9 h1_9k h1_9c) sz)) 0 0 (va_A (wd_c_X11_change_1 h2 h2_0 h2_f1 h2_0 h2_0k h2_0c h1 h1_f0 h1_f1 h1_f2 h1_f3 h1_4 h1_5 h1_6 h1_7 h1_8 h1_9 h1_10 h1_11 h1_12 h1_10 h1_10k h1_10c h1_9 h1_9k h1_9c) sz) := by
  refine Met.ofW (cc := cX11_change) (maxL := 6) (ret := none) (by decide) rfl ?_
  intro p e s m args below meth c s₁ B hml hv
  obtain ⟨rfl, hsz, hP, hK, hD0⟩ := hv
  have hx := B.exec
  have hb := B.bytes
  have hr := B.returns
  have hts := atoms_spec (ws := wf_c_X11_change_1) B.pre
  have hown : s.vm.findClass RX11 = some m.cls := findClass_of_methodNamed B.named
  have hlocks := B.notSynchronized
  subst hsz
  have hD := hD0.self (sz := s.heap.size)
  generalize hAe : va_A (wd_c_X11_change_1 h2 h2_0 h2_f1 h2_0 h2_0k h2_0c h1 h1_f0 h1_f1 h1_f2 h1_f3 h1_4 h1_5 h1_6 h1_7 h1_8 h1_9 h1_10 h1_11 h1_12 h1_10 h1_10k h1_10c h1_9 h1_9k h1_9c) s.heap.size = A at hD ⊢
  have hA : ∀ q : Nat, s.heap.size ≤ q → A q := fun q h => by rw [← hAe]; exact Or.inr h
  have hP : va_P (dC, dI) vwCl (wd_c_X11_change_1 h2 h2_0 h2_f1 h2_0 h2_0k h2_0c h1 h1_f0 h1_f1 h1_f2 h1_f3 h1_4 h1_5 h1_6 h1_7 h1_8 h1_9 h1_10 h1_11 h1_12 h1_10 h1_10k h1_10c h1_9 h1_9k h1_9c) s.heap := hP
  have hl := lv_entry ([.ref h0, .ref h1, .ref h2, .int p3]) (n := 6) (Nat.le_of_ble_eq_true rfl)
  rw [lg_entry_eq]
  generalize (lg_sl ([.ref h0, .ref h1, .ref h2, .int p3]) ++ List.replicate (6 - (lg_sl ([.ref h0, .ref h1, .ref h2, .int p3])).length) Slot.unset).toArray = ls at hl ⊢
  have hl : lv_has ls 6 [(0, .ref h0), (1, .ref h1), (2, .ref h2), (3, .int p3)] := hl
  obtain ⟨H, hHe⟩ : ∃ H : Heap, s.heap = H := ⟨_, rfl⟩
  have hS : va_S A s.heap H [] := by rw [hHe]; exact va_S.rf
  have hP : va_P (dC, dI) vwCl (wd_c_X11_change_1 h2 h2_0 h2_f1 h2_0 h2_0k h2_0c h1 h1_f0 h1_f1 h1_f2 h1_f3 h1_4 h1_5 h1_6 h1_7 h1_8 h1_9 h1_10 h1_11 h1_12 h1_10 h1_10k h1_10c h1_9 h1_9k h1_9c) H := by rw [← hHe]; exact hP
  rw [hHe]
  refine lv_aload_n hx hb dX11_change_0 rfl (lv_at hl 2 rfl) ?_
  refine lv_iload_n hx hb dX11_change_1 rfl (lv_at hl 3 rfl) ?_
  refine lv_iconst (v := 1) hx hb dX11_change_2 kc_iconst_1 ?_
  have hPc := hP.sub (ws' := (wd_c_X6_part h2 h2_0 h2_f1 h2_0 h2_0k h2_0c)) [0, 1] rfl
  have hDc := hD.sub (ws' := (wd_c_X6_part h2 h2_0 h2_f1 h2_0 h2_0k h2_0c)) [0, 1] (by decide) rfl
  have hKc := hK.sub (tys' := [(h2_0k, .int)]) [0] rfl
  have hFc := va_free (wc := (wd_c_X6_part h2 h2_0 h2_f1 h2_0 h2_0k h2_0c)) hD hS hA [0, 1] rfl
  refine va_calli (va_runV (As := [.int p3, .int 1]) (rest := []) ⟨hx, hb, hml, hown, hts⟩ (c_X6_part l dC dI H.size h2 p3 1 h2_0 h2_f1 h2_0k h2_0c g_p3 (RG_w (RG_k 1 1 rfl) (by decide)) g_h2_f1 a_h2_0c) (cwV 2 hts gf_c_X11_change_1_c_X6_part rfl rfl rfl (by decide +kernel) ⟨Nat.le_of_ble_eq_true rfl, Nat.le_of_ble_eq_true rfl⟩) ⟨fun a U g mk q => by obtain ⟨q0, q1, qP, qK, qD⟩ := q; exact ⟨q0, q1, qP, va_K.moved (u := U) (U := U.calling g mk a) (Vm.Alike.refl U.vm) qK, qD⟩, va_recv hKc hPc (ci := 6) (q0 := 0) rfl rfl, fun U hU hW => ⟨rfl, by rw [hU], by rw [hU]; exact hPc, va_K.moved hW.alike hKc, hDc.weaken (fun _ _ _ _ => trivial)⟩⟩ rfl rfl hl.1 rfl (lv_room (Nat.le_of_ble_eq_true rfl)) dX11_change_3 ⟨Nat.le_of_ble_eq_true rfl, Nat.le_of_ble_eq_true rfl⟩) hS (fun q _ h => hFc q h) hFc (fun r_1 u t H1 locs ht hvm hw hB hz1 hk1 hS => ?_)
  obtain ⟨hP1, hK1, hD1⟩ := hB
  rw [ht] at hP1
  obtain ⟨hP, hD⟩ := va_join (wr := [(h1, .inr (7, [.int h1_f0, .int h1_f1, .int h1_f2, .int h1_f3, .ref h1_4, .ref h1_5, .ref h1_6, .ref h1_7, .ref h1_8, .ref h1_9, .ref h1_10, .ref h1_11, .ref h1_12])), (h1_10, .inl (h1_10k, 24, .inl h1_10c)), (h1_9, .inl (h1_9k, 3, .inl h1_9c))]) (w1 := (wd_c_X6_part h2 h2_0 h2_f1 h2_0 h2_0k h2_0c)) hP hD [0, 1] [2, 3, 4] rfl rfl (by decide) (by decide) hk1 hFc hP1 hD1
  have hP := hP.sub (ws' := (wd_c_X11_change_1 h2 h2_0 h2_f1 h2_0 h2_0k h2_0c h1 h1_f0 h1_f1 h1_f2 h1_f3 h1_4 h1_5 h1_6 h1_7 h1_8 h1_9 h1_10 h1_11 h1_12 h1_10 h1_10k h1_10c h1_9 h1_9k h1_9c)) [3, 4, 0, 1, 2] rfl
  have hD := hD.sub (ws' := (wd_c_X11_change_1 h2 h2_0 h2_f1 h2_0 h2_0k h2_0c h1 h1_f0 h1_f1 h1_f2 h1_f3 h1_4 h1_5 h1_6 h1_7 h1_8 h1_9 h1_10 h1_11 h1_12 h1_10 h1_10k h1_10c h1_9 h1_9k h1_9c)) [3, 4, 0, 1, 2] (by decide) rfl
  generalize H1 = H at hP hS ⊢
  rcases hw with ⟨h_2, h_3⟩
  obtain rfl : y1 = r_1 := (h_3.trans pv_1.symm).symm
  refine lv_istore (lv' := [(4, .int y1), (0, .ref h0), (1, .ref h1), (2, .ref h2), (3, .int p3)]) hx hb dX11_change_6 hl (Nat.le_of_ble_eq_true rfl) rfl (fun ls hl => ?_)
  refine lv_aload_n hx hb dX11_change_8 rfl (lv_at hl 3 rfl) ?_
  refine lv_iload_n hx hb dX11_change_9 rfl (lv_at hl 4 rfl) ?_
  refine lv_iconst (v := 2) hx hb dX11_change_10 kc_iconst_2 ?_
  have hPc := hP.sub (ws' := (wd_c_X6_part h2 h2_0 h2_f1 h2_0 h2_0k h2_0c)) [0, 1] rfl
  have hDc := hD.sub (ws' := (wd_c_X6_part h2 h2_0 h2_f1 h2_0 h2_0k h2_0c)) [0, 1] (by decide) rfl
  have hKc := hK.sub (tys' := [(h2_0k, .int)]) [0] rfl
  have hFc := va_free (wc := (wd_c_X6_part h2 h2_0 h2_f1 h2_0 h2_0k h2_0c)) hD hS hA [0, 1] rfl
  refine va_calli (va_runV (As := [.int p3, .int 2]) (rest := []) ⟨hx, hb, hml, hown, hts⟩ (c_X6_part l dC dI H.size h2 p3 2 h2_0 h2_f1 h2_0k h2_0c g_p3 (RG_w (RG_k 2 2 rfl) (by decide)) g_h2_f1 a_h2_0c) (cwV 2 hts gf_c_X11_change_1_c_X6_part rfl rfl rfl (by decide +kernel) ⟨Nat.le_of_ble_eq_true rfl, Nat.le_of_ble_eq_true rfl⟩) ⟨fun a U g mk q => by obtain ⟨q0, q1, qP, qK, qD⟩ := q; exact ⟨q0, q1, qP, va_K.moved (u := U) (U := U.calling g mk a) (Vm.Alike.refl U.vm) qK, qD⟩, va_recv hKc hPc (ci := 6) (q0 := 0) rfl rfl, fun U hU hW => ⟨rfl, by rw [hU], by rw [hU]; exact hPc, va_K.moved hW.alike hKc, hDc.weaken (fun _ _ _ _ => trivial)⟩⟩ rfl rfl hl.1 rfl (lv_room (Nat.le_of_ble_eq_true rfl)) dX11_change_11 ⟨Nat.le_of_ble_eq_true rfl, Nat.le_of_ble_eq_true rfl⟩) hS (fun q _ h => hFc q h) hFc (fun r_4 u t H1 locs ht hvm hw hB hz1 hk1 hS => ?_)
  obtain ⟨hP1, hK1, hD1⟩ := hB
  rw [ht] at hP1
  obtain ⟨hP, hD⟩ := va_join (wr := [(h1, .inr (7, [.int h1_f0, .int h1_f1, .int h1_f2, .int h1_f3, .ref h1_4, .ref h1_5, .ref h1_6, .ref h1_7, .ref h1_8, .ref h1_9, .ref h1_10, .ref h1_11, .ref h1_12])), (h1_10, .inl (h1_10k, 24, .inl h1_10c)), (h1_9, .inl (h1_9k, 3, .inl h1_9c))]) (w1 := (wd_c_X6_part h2 h2_0 h2_f1 h2_0 h2_0k h2_0c)) hP hD [0, 1] [2, 3, 4] rfl rfl (by decide) (by decide) hk1 hFc hP1 hD1
  have hP := hP.sub (ws' := (wd_c_X11_change_1 h2 h2_0 h2_f1 h2_0 h2_0k h2_0c h1 h1_f0 h1_f1 h1_f2 h1_f3 h1_4 h1_5 h1_6 h1_7 h1_8 h1_9 h1_10 h1_11 h1_12 h1_10 h1_10k h1_10c h1_9 h1_9k h1_9c)) [3, 4, 0, 1, 2] rfl
  have hD := hD.sub (ws' := (wd_c_X11_change_1 h2 h2_0 h2_f1 h2_0 h2_0k h2_0c h1 h1_f0 h1_f1 h1_f2 h1_f3 h1_4 h1_5 h1_6 h1_7 h1_8 h1_9 h1_10 h1_11 h1_12 h1_10 h1_10k h1_10c h1_9 h1_9k h1_9c)) [3, 4, 0, 1, 2] (by decide) rfl
  generalize H1 = H at hP hS ⊢
  rcases hw with ⟨h_5, h_6⟩
  obtain rfl : y2 = r_4 := (h_6.trans pv_2.symm).symm
  refine lv_istore (lv' := [(5, .int y2), (4, .int y1), (0, .ref h0), (1, .ref h1), (2, .ref h2), (3, .int p3)]) hx hb dX11_change_14 hl (Nat.le_of_ble_eq_true rfl) rfl (fun ls hl => ?_)
  refine lv_aload_n hx hb dX11_change_16 rfl (lv_at hl 4 rfl) ?_
  refine lv_iload_n hx hb dX11_change_17 rfl (lv_at hl 5 rfl) ?_
  refine lv_iconst (v := 0) hx hb dX11_change_18 kc_iconst_0 ?_
  have hPc := hP.sub (ws' := (wd_c_X6_part h2 h2_0 h2_f1 h2_0 h2_0k h2_0c)) [0, 1] rfl
  have hDc := hD.sub (ws' := (wd_c_X6_part h2 h2_0 h2_f1 h2_0 h2_0k h2_0c)) [0, 1] (by decide) rfl
  have hKc := hK.sub (tys' := [(h2_0k, .int)]) [0] rfl
  have hFc := va_free (wc := (wd_c_X6_part h2 h2_0 h2_f1 h2_0 h2_0k h2_0c)) hD hS hA [0, 1] rfl
  refine va_calli (va_runV (As := [.int p3, .int 0]) (rest := []) ⟨hx, hb, hml, hown, hts⟩ (c_X6_part l dC dI H.size h2 p3 0 h2_0 h2_f1 h2_0k h2_0c g_p3 (RG_w (RG_k 0 0 rfl) (by decide)) g_h2_f1 a_h2_0c) (cwV 2 hts gf_c_X11_change_1_c_X6_part rfl rfl rfl (by decide +kernel) ⟨Nat.le_of_ble_eq_true rfl, Nat.le_of_ble_eq_true rfl⟩) ⟨fun a U g mk q => by obtain ⟨q0, q1, qP, qK, qD⟩ := q; exact ⟨q0, q1, qP, va_K.moved (u := U) (U := U.calling g mk a) (Vm.Alike.refl U.vm) qK, qD⟩, va_recv hKc hPc (ci := 6) (q0 := 0) rfl rfl, fun U hU hW => ⟨rfl, by rw [hU], by rw [hU]; exact hPc, va_K.moved hW.alike hKc, hDc.weaken (fun _ _ _ _ => trivial)⟩⟩ rfl rfl hl.1 rfl (lv_room (Nat.le_of_ble_eq_true rfl)) dX11_change_19 ⟨Nat.le_of_ble_eq_true rfl, Nat.le_of_ble_eq_true rfl⟩) hS (fun q _ h => hFc q h) hFc (fun r_7 u t H1 locs ht hvm hw hB hz1 hk1 hS => ?_)
  obtain ⟨hP1, hK1, hD1⟩ := hB
  rw [ht] at hP1
  obtain ⟨hP, hD⟩ := va_join (wr := [(h1, .inr (7, [.int h1_f0, .int h1_f1, .int h1_f2, .int h1_f3, .ref h1_4, .ref h1_5, .ref h1_6, .ref h1_7, .ref h1_8, .ref h1_9, .ref h1_10, .ref h1_11, .ref h1_12])), (h1_10, .inl (h1_10k, 24, .inl h1_10c)), (h1_9, .inl (h1_9k, 3, .inl h1_9c))]) (w1 := (wd_c_X6_part h2 h2_0 h2_f1 h2_0 h2_0k h2_0c)) hP hD [0, 1] [2, 3, 4] rfl rfl (by decide) (by decide) hk1 hFc hP1 hD1
  have hP := hP.sub (ws' := (wd_c_X11_change_1 h2 h2_0 h2_f1 h2_0 h2_0k h2_0c h1 h1_f0 h1_f1 h1_f2 h1_f3 h1_4 h1_5 h1_6 h1_7 h1_8 h1_9 h1_10 h1_11 h1_12 h1_10 h1_10k h1_10c h1_9 h1_9k h1_9c)) [3, 4, 0, 1, 2] rfl
  have hD := hD.sub (ws' := (wd_c_X11_change_1 h2 h2_0 h2_f1 h2_0 h2_0k h2_0c h1 h1_f0 h1_f1 h1_f2 h1_f3 h1_4 h1_5 h1_6 h1_7 h1_8 h1_9 h1_10 h1_11 h1_12 h1_10 h1_10k h1_10c h1_9 h1_9k h1_9c)) [3, 4, 0, 1, 2] (by decide) rfl
  generalize H1 = H at hP hS ⊢
  rcases hw with ⟨h_8, h_9⟩
  obtain rfl : y0 = r_7 := (h_9.trans pv_0.symm).symm
  by_cases c_10 : y0 = 1
  · have hsw : y0.toInt = 1 := by rw [c_10]; rfl
    refine lv_tableIn (off := 51) (tgt := 73) hx hb dX11_change_22 (by rw [hsw]; decide) (by rw [hsw]; decide) (by rw [hsw]; decide) (by decide) ?_
    have g_11 : RG y0 1 1 := RG_k _ _ hsw
    refine lv_aload_n hx hb dX11_change_73 rfl (lv_at hl 3 rfl) ?_
    refine lv_iload hx hb dX11_change_74 (lv_at hl 1 rfl) ?_
    refine lv_iload hx hb dX11_change_76 (lv_at hl 0 rfl) ?_
    have hPc := hP.sub (ws' := (wd_c_X7_singTo h1 h1_f0 h1_f1 h1_f2 h1_f3 h1_4 h1_5 h1_6 h1_7 h1_8 h1_9 h1_10 h1_11 h1_12 h1_10 h1_10k h1_10c h1_9 h1_9k h1_9c)) [2, 3, 4] rfl
    have hDc := hD.sub (ws' := (wd_c_X7_singTo h1 h1_f0 h1_f1 h1_f2 h1_f3 h1_4 h1_5 h1_6 h1_7 h1_8 h1_9 h1_10 h1_11 h1_12 h1_10 h1_10k h1_10c h1_9 h1_9k h1_9c)) [2, 3, 4] (by decide) rfl
    have hKc := hK.sub (tys' := [(h1_10k, .int), (h1_9k, .int)]) [1, 2] rfl
    have hFc := va_free (wc := (wd_c_X7_singTo h1 h1_f0 h1_f1 h1_f2 h1_f3 h1_4 h1_5 h1_6 h1_7 h1_8 h1_9 h1_10 h1_11 h1_12 h1_10 h1_10k h1_10c h1_9 h1_9k h1_9c)) hD hS hA [2, 3, 4] rfl
    refine va_callv (va_runV (As := [.int y1, .int y2]) (rest := []) ⟨hx, hb, hml, hown, hts⟩ (c_X7_singTo l dC dI H.size h1 y1 y2 h1_f0 h1_f1 h1_f2 h1_f3 h1_4 h1_5 h1_6 h1_7 h1_8 h1_9 h1_10 h1_11 h1_12 h1_10k h1_10c h1_9k h1_9c g_y1 g_y2) (cwV 2 hts gf_c_X11_change_1_c_X7_singTo rfl rfl rfl (by decide +kernel) ⟨Nat.le_of_ble_eq_true rfl, Nat.le_of_ble_eq_true rfl⟩) ⟨fun a U g mk q => by obtain ⟨q0, q1, qP, qK, qD⟩ := q; exact ⟨q0, q1, qP, va_K.moved (u := U) (U := U.calling g mk a) (Vm.Alike.refl U.vm) qK, qD⟩, va_recv hKc hPc (ci := 7) (q0 := 0) rfl rfl, fun U hU hW => ⟨rfl, by rw [hU], by rw [hU]; exact hPc, va_K.moved hW.alike hKc, hDc.weaken (fun _ _ _ _ => trivial)⟩⟩ rfl rfl hl.1 rfl (lv_room (Nat.le_of_ble_eq_true rfl)) dX11_change_78 ⟨Nat.le_of_ble_eq_true rfl, Nat.le_of_ble_eq_true rfl⟩) hS (fun q _ h => hFc q h) hFc (fun u t H1 locs ht hvm hw hB hz1 hk1 hS => ?_)
    obtain ⟨w_13, w_14⟩ := u
    obtain ⟨hP1, hK1, hD1⟩ := hB
    rw [ht] at hP1
    obtain ⟨hP, hD⟩ := va_join (wr := [(h2, .inr (6, [.ref h2_0, .int h2_f1])), (h2_0, .inl (h2_0k, 64, .inl h2_0c))]) (w1 := (wd_c_X7_singTo h1 h1_f0 h1_f1 h1_f2 h1_f3 h1_4 h1_5 h1_6 h1_7 h1_8 h1_9 h1_10 h1_11 h1_12 h1_10 h1_10k w_13 h1_9 h1_9k w_14)) hP hD [2, 3, 4] [0, 1] rfl rfl (by decide) (by decide) hk1 hFc hP1 hD1
    have hP := hP.sub (ws' := (wd_c_X11_change_1 h2 h2_0 h2_f1 h2_0 h2_0k h2_0c h1 h1_f0 h1_f1 h1_f2 h1_f3 h1_4 h1_5 h1_6 h1_7 h1_8 h1_9 h1_10 h1_11 h1_12 h1_10 h1_10k w_13 h1_9 h1_9k w_14)) [0, 1, 2, 3, 4] rfl
    have hD := hD.sub (ws' := (wd_c_X11_change_1 h2 h2_0 h2_f1 h2_0 h2_0k h2_0c h1 h1_f0 h1_f1 h1_f2 h1_f3 h1_4 h1_5 h1_6 h1_7 h1_8 h1_9 h1_10 h1_11 h1_12 h1_10 h1_10k w_13 h1_9 h1_9k w_14)) [0, 1, 2, 3, 4] (by decide) rfl
    generalize H1 = H at hP hS ⊢
    have h_15 := hw
    refine lv_goto (tgt := 98) hx hb dX11_change_81 rfl ?_
    have hK9 := hK.sub (tys' := []) [] rfl
    exact W.vret hx hb hr (fun t ht hW => ⟨⟨(w_13, w_14), rfl, trivial, by rw [ht]; exact hP, va_K.moved hW.alike hK9, hD⟩, hS.F ht⟩) hS.2.2 dX11_change_98
  exfalso
  have zc_10 := lv_neT c_10 (a := 1) (by decide)
  have zg1 := (g_y0).1
  have zg2 := (g_y0).2
  omega
def wd_c_X11_change_2 (a0 : Nat) (a1 : Nat) (a2 : Int32) (a3 : Nat) (a4 : ClassId) (a5 : Nat → Int32) (a6 : Nat) (a7 : Int32) (a8 : Int32) (a9 : Int32) (a10 : Int32) (a11 : Nat) (a12 : Nat) (a13 : Nat) (a14 : Nat) (a15 : Nat) (a16 : Nat) (a17 : Nat) (a18 : Nat) (a19 : Nat) (a20 : Nat) (a21 : ClassId) (a22 : Nat → Int32) : va_W := [(a0, .inr (6, [.ref a1, .int a2])), (a3, .inl (a4, 64, .inl a5)), (a6, .inr (7, [.int a7, .int a8, .int a9, .int a10, .ref a11, .ref a12, .ref a13, .ref a14, .ref a15, .ref a16, .ref a17, .ref a18, .ref a19])), (a20, .inl (a21, 8, .inl a22))]
def wf_c_X11_change_2 : List Cond := .code yX11_change cX11_change 6 none :: ([.methodLink RX11 299 yX6_part, .instanceMethod yX6_part, .selects RX6 yX6_part yX6_part, .initialized RX6, .code yX6_part cX6_part 3 (some .int), .fieldLink RX6 11 "BuoyVote$Plan" "cells" "[I", .fieldLink RX11 181 "BuoyVote$Sea" "barnacles" "[I"] ++ wsX60 ++ wsX70)
theorem iw_c_X11_change_2_X6 : ∀ w ∈ wsX60, w ∈ wf_c_X11_change_2 := fun w h => List.mem_cons_of_mem _ (List.mem_append_left _ (List.mem_append_right _ h))
theorem iw_c_X11_change_2_X7 : ∀ w ∈ wsX70, w ∈ wf_c_X11_change_2 := fun w h => List.mem_cons_of_mem _ (List.mem_append_right _ h)
set_option maxRecDepth 20000 in
theorem gf_c_X11_change_2_c_X6_part : GoodIn wf_c_X11_change_2 (wsV RX11 299 RX6 yX6_part wf_c_X6_part) := goodIn_app (gi_cons (j := 1) rfl rfl (gi_cons (j := 2) rfl rfl (gi_cons (j := 3) rfl rfl (gi_cons (j := 4) rfl rfl (gi_nil))))) (gi_cons (j := 5) rfl rfl (goodIn_app (gi_cons (j := 6) rfl rfl (gi_nil)) (goodIn_sub iw_c_X11_change_2_X6 gw_X6)))
set_option maxHeartbeats 4000000 in
set_option maxRecDepth 100000 in
theorem c_X11_change_2 (l : Launch) (dC : Nat → ClassId) (dI : Nat → Nat → Nat) (sz : Nat) (h0 : Nat) (h1 : Nat) (h2 : Nat) (p3 : Int32) (h2_0 : Nat) (h2_f1 : Int32) (h2_0k : ClassId) (h2_0c : Nat → Int32) (h1_f0 : Int32) (h1_f1 : Int32) (h1_f2 : Int32) (h1_f3 : Int32) (h1_4 : Nat) (h1_5 : Nat) (h1_6 : Nat) (h1_7 : Nat) (h1_8 : Nat) (h1_9 : Nat) (h1_10 : Nat) (h1_11 : Nat) (h1_12 : Nat) (h1_12k : ClassId) (h1_12c : Nat → Int32) (y0 : Int32) (y1 : Int32) (y2 : Int32) (y3 : Int32) (g_p3 : RG p3 0 15) (g_h2_f1 : RG h2_f1 0 16) (a_h2_0c : AI h2_0c (-1) 9) (pv_0 : y0 = h2_0c (p3 * 4 + 0).toNatClampNeg) (g_y0 : RG y0 2 2) (pv_1 : y1 = h2_0c (p3 * 4 + 1).toNatClampNeg) (g_y1 : RG y1 0 2) (pv_2 : y2 = h2_0c (p3 * 4 + 2).toNatClampNeg) (g_y2 : RG y2 0 7) (pv_3 : y3 = h2_0c (p3 * 4 + 3).toNatClampNeg) (g_y3 : RG y3 (-1) 9) : Met l yX11_change wf_c_X11_change_2 ({ frames := 1, cells := 0, slots := 0, locals := 22 }) (va_Pc [.ref h0, .ref h1, .ref h2, .int p3] (fun U => U.heap.size = sz ∧ va_P (dC, dI) vwCl (wd_c_X11_change_2 h2 h2_0 h2_f1 h2_0 h2_0k h2_0c h1 h1_f0 h1_f1 h1_f2 h1_f3 h1_4 h1_5 h1_6 h1_7 h1_8 h1_9 h1_10 h1_11 h1_12 h1_12 h1_12k h1_12c) U.heap ∧ va_K (dC, dI) vwCl [(h2_0k, .int), (h1_12k, .int)] U ∧ va_D (fun _ => True) (wd_c_X11_change_2 h2 h2_0 h2_f1 h2_0 h2_0k h2_0c h1 h1_f0 h1_f1 h1_f2 h1_f3 h1_4 h1_5 h1_6 h1_7 h1_8 h1_9 h1_10 h1_11 h1_12 h1_12 h1_12k h1_12c))) (va_Qv (fun (u : (Nat → Int32)) => (True)) (fun (u : (Nat → Int32)) t => va_P (dC, dI) vwCl (wd_c_X11_change_2 h2 h2_0 h2_f1 h2_0 h2_0k h2_0c h1 h1_f0 h1_f1 h1_f2 h1_f3 h1_4 h1_5 h1_6 h1_7 h1_8 h1_9 h1_10 h1_11 h1_12 h1_12 h1_12k (u)) t.heap ∧ va_K (dC, dI) vwCl [] t ∧ va_D (va_A (wd_c_X11_change_2 h2 h2_0 h2_f1 h2_0 h2_0k h2_0c h1 h1_f0 h1_f1 h1_f2 h1_f3 h1_4 h1_5 h1_6 h1_7 h1_8 h1_9 h1_10 h1_11 h1_12 h1_12 h1_12k h1_12c) sz) (wd_c_X11_change_2 h2 h2_0 h2_f1 h2_0 h2_0k h2_0c h1 h1_f0 h1_f1 h1_f2 h1_f3 h1_4 h1_5 h1_6 h1_7 h1_8 h1_9 h1_10 h1_11 h1_12 h1_12 h1_12k (u))) (va_A (wd_c_X11_change_2 h2 h2_0 h2_f1 h2_0 h2_0k h2_0c h1 h1_f0 h1_f1 h1_f2 h1_f3 h1_4 h1_5 h1_6 h1_7 h1_8 h1_9 h1_10 h1_11 h1_12 h1_12 h1_12k h1_12c) sz)) 0 0 (va_A (wd_c_X11_change_2 h2 h2_0 h2_f1 h2_0 h2_0k h2_0c h1 h1_f0 h1_f1 h1_f2 h1_f3 h1_4 h1_5 h1_6 h1_7 h1_8 h1_9 h1_10 h1_11 h1_12 h1_12 h1_12k h1_12c) sz) := by
  refine Met.ofW (cc := cX11_change) (maxL := 6) (ret := none) (by decide) rfl ?_
  intro p e s m args below meth c s₁ B hml hv
  obtain ⟨rfl, hsz, hP, hK, hD0⟩ := hv
  have hx := B.exec
  have hb := B.bytes
  have hr := B.returns
  have hts := atoms_spec (ws := wf_c_X11_change_2) B.pre
  have hown : s.vm.findClass RX11 = some m.cls := findClass_of_methodNamed B.named
  have hlocks := B.notSynchronized
  subst hsz
  have hD := hD0.self (sz := s.heap.size)
  generalize hAe : va_A (wd_c_X11_change_2 h2 h2_0 h2_f1 h2_0 h2_0k h2_0c h1 h1_f0 h1_f1 h1_f2 h1_f3 h1_4 h1_5 h1_6 h1_7 h1_8 h1_9 h1_10 h1_11 h1_12 h1_12 h1_12k h1_12c) s.heap.size = A at hD ⊢
  have hA : ∀ q : Nat, s.heap.size ≤ q → A q := fun q h => by rw [← hAe]; exact Or.inr h
  have hP : va_P (dC, dI) vwCl (wd_c_X11_change_2 h2 h2_0 h2_f1 h2_0 h2_0k h2_0c h1 h1_f0 h1_f1 h1_f2 h1_f3 h1_4 h1_5 h1_6 h1_7 h1_8 h1_9 h1_10 h1_11 h1_12 h1_12 h1_12k h1_12c) s.heap := hP
  have hl := lv_entry ([.ref h0, .ref h1, .ref h2, .int p3]) (n := 6) (Nat.le_of_ble_eq_true rfl)
  rw [lg_entry_eq]
  generalize (lg_sl ([.ref h0, .ref h1, .ref h2, .int p3]) ++ List.replicate (6 - (lg_sl ([.ref h0, .ref h1, .ref h2, .int p3])).length) Slot.unset).toArray = ls at hl ⊢
  have hl : lv_has ls 6 [(0, .ref h0), (1, .ref h1), (2, .ref h2), (3, .int p3)] := hl
  obtain ⟨H, hHe⟩ : ∃ H : Heap, s.heap = H := ⟨_, rfl⟩
  have hS : va_S A s.heap H [] := by rw [hHe]; exact va_S.rf
  have hP : va_P (dC, dI) vwCl (wd_c_X11_change_2 h2 h2_0 h2_f1 h2_0 h2_0k h2_0c h1 h1_f0 h1_f1 h1_f2 h1_f3 h1_4 h1_5 h1_6 h1_7 h1_8 h1_9 h1_10 h1_11 h1_12 h1_12 h1_12k h1_12c) H := by rw [← hHe]; exact hP
  rw [hHe]
  refine lv_aload_n hx hb dX11_change_0 rfl (lv_at hl 2 rfl) ?_
  refine lv_iload_n hx hb dX11_change_1 rfl (lv_at hl 3 rfl) ?_
  refine lv_iconst (v := 1) hx hb dX11_change_2 kc_iconst_1 ?_
  have hPc := hP.sub (ws' := (wd_c_X6_part h2 h2_0 h2_f1 h2_0 h2_0k h2_0c)) [0, 1] rfl
  have hDc := hD.sub (ws' := (wd_c_X6_part h2 h2_0 h2_f1 h2_0 h2_0k h2_0c)) [0, 1] (by decide) rfl
  have hKc := hK.sub (tys' := [(h2_0k, .int)]) [0] rfl
  have hFc := va_free (wc := (wd_c_X6_part h2 h2_0 h2_f1 h2_0 h2_0k h2_0c)) hD hS hA [0, 1] rfl
  refine va_calli (va_runV (As := [.int p3, .int 1]) (rest := []) ⟨hx, hb, hml, hown, hts⟩ (c_X6_part l dC dI H.size h2 p3 1 h2_0 h2_f1 h2_0k h2_0c g_p3 (RG_w (RG_k 1 1 rfl) (by decide)) g_h2_f1 a_h2_0c) (cwV 2 hts gf_c_X11_change_2_c_X6_part rfl rfl rfl (by decide +kernel) ⟨Nat.le_of_ble_eq_true rfl, Nat.le_of_ble_eq_true rfl⟩) ⟨fun a U g mk q => by obtain ⟨q0, q1, qP, qK, qD⟩ := q; exact ⟨q0, q1, qP, va_K.moved (u := U) (U := U.calling g mk a) (Vm.Alike.refl U.vm) qK, qD⟩, va_recv hKc hPc (ci := 6) (q0 := 0) rfl rfl, fun U hU hW => ⟨rfl, by rw [hU], by rw [hU]; exact hPc, va_K.moved hW.alike hKc, hDc.weaken (fun _ _ _ _ => trivial)⟩⟩ rfl rfl hl.1 rfl (lv_room (Nat.le_of_ble_eq_true rfl)) dX11_change_3 ⟨Nat.le_of_ble_eq_true rfl, Nat.le_of_ble_eq_true rfl⟩) hS (fun q _ h => hFc q h) hFc (fun r_1 u t H1 locs ht hvm hw hB hz1 hk1 hS => ?_)
  obtain ⟨hP1, hK1, hD1⟩ := hB
  rw [ht] at hP1
  obtain ⟨hP, hD⟩ := va_join (wr := [(h1, .inr (7, [.int h1_f0, .int h1_f1, .int h1_f2, .int h1_f3, .ref h1_4, .ref h1_5, .ref h1_6, .ref h1_7, .ref h1_8, .ref h1_9, .ref h1_10, .ref h1_11, .ref h1_12])), (h1_12, .inl (h1_12k, 8, .inl h1_12c))]) (w1 := (wd_c_X6_part h2 h2_0 h2_f1 h2_0 h2_0k h2_0c)) hP hD [0, 1] [2, 3] rfl rfl (by decide) (by decide) hk1 hFc hP1 hD1
  have hP := hP.sub (ws' := (wd_c_X11_change_2 h2 h2_0 h2_f1 h2_0 h2_0k h2_0c h1 h1_f0 h1_f1 h1_f2 h1_f3 h1_4 h1_5 h1_6 h1_7 h1_8 h1_9 h1_10 h1_11 h1_12 h1_12 h1_12k h1_12c)) [2, 3, 0, 1] rfl
  have hD := hD.sub (ws' := (wd_c_X11_change_2 h2 h2_0 h2_f1 h2_0 h2_0k h2_0c h1 h1_f0 h1_f1 h1_f2 h1_f3 h1_4 h1_5 h1_6 h1_7 h1_8 h1_9 h1_10 h1_11 h1_12 h1_12 h1_12k h1_12c)) [2, 3, 0, 1] (by decide) rfl
  generalize H1 = H at hP hS ⊢
  rcases hw with ⟨h_2, h_3⟩
  obtain rfl : y1 = r_1 := (h_3.trans pv_1.symm).symm
  refine lv_istore (lv' := [(4, .int y1), (0, .ref h0), (1, .ref h1), (2, .ref h2), (3, .int p3)]) hx hb dX11_change_6 hl (Nat.le_of_ble_eq_true rfl) rfl (fun ls hl => ?_)
  refine lv_aload_n hx hb dX11_change_8 rfl (lv_at hl 3 rfl) ?_
  refine lv_iload_n hx hb dX11_change_9 rfl (lv_at hl 4 rfl) ?_
  refine lv_iconst (v := 2) hx hb dX11_change_10 kc_iconst_2 ?_
  have hPc := hP.sub (ws' := (wd_c_X6_part h2 h2_0 h2_f1 h2_0 h2_0k h2_0c)) [0, 1] rfl
  have hDc := hD.sub (ws' := (wd_c_X6_part h2 h2_0 h2_f1 h2_0 h2_0k h2_0c)) [0, 1] (by decide) rfl
  have hKc := hK.sub (tys' := [(h2_0k, .int)]) [0] rfl
  have hFc := va_free (wc := (wd_c_X6_part h2 h2_0 h2_f1 h2_0 h2_0k h2_0c)) hD hS hA [0, 1] rfl
  refine va_calli (va_runV (As := [.int p3, .int 2]) (rest := []) ⟨hx, hb, hml, hown, hts⟩ (c_X6_part l dC dI H.size h2 p3 2 h2_0 h2_f1 h2_0k h2_0c g_p3 (RG_w (RG_k 2 2 rfl) (by decide)) g_h2_f1 a_h2_0c) (cwV 2 hts gf_c_X11_change_2_c_X6_part rfl rfl rfl (by decide +kernel) ⟨Nat.le_of_ble_eq_true rfl, Nat.le_of_ble_eq_true rfl⟩) ⟨fun a U g mk q => by obtain ⟨q0, q1, qP, qK, qD⟩ := q; exact ⟨q0, q1, qP, va_K.moved (u := U) (U := U.calling g mk a) (Vm.Alike.refl U.vm) qK, qD⟩, va_recv hKc hPc (ci := 6) (q0 := 0) rfl rfl, fun U hU hW => ⟨rfl, by rw [hU], by rw [hU]; exact hPc, va_K.moved hW.alike hKc, hDc.weaken (fun _ _ _ _ => trivial)⟩⟩ rfl rfl hl.1 rfl (lv_room (Nat.le_of_ble_eq_true rfl)) dX11_change_11 ⟨Nat.le_of_ble_eq_true rfl, Nat.le_of_ble_eq_true rfl⟩) hS (fun q _ h => hFc q h) hFc (fun r_4 u t H1 locs ht hvm hw hB hz1 hk1 hS => ?_)
  obtain ⟨hP1, hK1, hD1⟩ := hB
  rw [ht] at hP1
  obtain ⟨hP, hD⟩ := va_join (wr := [(h1, .inr (7, [.int h1_f0, .int h1_f1, .int h1_f2, .int h1_f3, .ref h1_4, .ref h1_5, .ref h1_6, .ref h1_7, .ref h1_8, .ref h1_9, .ref h1_10, .ref h1_11, .ref h1_12])), (h1_12, .inl (h1_12k, 8, .inl h1_12c))]) (w1 := (wd_c_X6_part h2 h2_0 h2_f1 h2_0 h2_0k h2_0c)) hP hD [0, 1] [2, 3] rfl rfl (by decide) (by decide) hk1 hFc hP1 hD1
  have hP := hP.sub (ws' := (wd_c_X11_change_2 h2 h2_0 h2_f1 h2_0 h2_0k h2_0c h1 h1_f0 h1_f1 h1_f2 h1_f3 h1_4 h1_5 h1_6 h1_7 h1_8 h1_9 h1_10 h1_11 h1_12 h1_12 h1_12k h1_12c)) [2, 3, 0, 1] rfl
  have hD := hD.sub (ws' := (wd_c_X11_change_2 h2 h2_0 h2_f1 h2_0 h2_0k h2_0c h1 h1_f0 h1_f1 h1_f2 h1_f3 h1_4 h1_5 h1_6 h1_7 h1_8 h1_9 h1_10 h1_11 h1_12 h1_12 h1_12k h1_12c)) [2, 3, 0, 1] (by decide) rfl
  generalize H1 = H at hP hS ⊢
  rcases hw with ⟨h_5, h_6⟩
  obtain rfl : y2 = r_4 := (h_6.trans pv_2.symm).symm
  refine lv_istore (lv' := [(5, .int y2), (4, .int y1), (0, .ref h0), (1, .ref h1), (2, .ref h2), (3, .int p3)]) hx hb dX11_change_14 hl (Nat.le_of_ble_eq_true rfl) rfl (fun ls hl => ?_)
  refine lv_aload_n hx hb dX11_change_16 rfl (lv_at hl 4 rfl) ?_
  refine lv_iload_n hx hb dX11_change_17 rfl (lv_at hl 5 rfl) ?_
  refine lv_iconst (v := 0) hx hb dX11_change_18 kc_iconst_0 ?_
  have hPc := hP.sub (ws' := (wd_c_X6_part h2 h2_0 h2_f1 h2_0 h2_0k h2_0c)) [0, 1] rfl
  have hDc := hD.sub (ws' := (wd_c_X6_part h2 h2_0 h2_f1 h2_0 h2_0k h2_0c)) [0, 1] (by decide) rfl
  have hKc := hK.sub (tys' := [(h2_0k, .int)]) [0] rfl
  have hFc := va_free (wc := (wd_c_X6_part h2 h2_0 h2_f1 h2_0 h2_0k h2_0c)) hD hS hA [0, 1] rfl
  refine va_calli (va_runV (As := [.int p3, .int 0]) (rest := []) ⟨hx, hb, hml, hown, hts⟩ (c_X6_part l dC dI H.size h2 p3 0 h2_0 h2_f1 h2_0k h2_0c g_p3 (RG_w (RG_k 0 0 rfl) (by decide)) g_h2_f1 a_h2_0c) (cwV 2 hts gf_c_X11_change_2_c_X6_part rfl rfl rfl (by decide +kernel) ⟨Nat.le_of_ble_eq_true rfl, Nat.le_of_ble_eq_true rfl⟩) ⟨fun a U g mk q => by obtain ⟨q0, q1, qP, qK, qD⟩ := q; exact ⟨q0, q1, qP, va_K.moved (u := U) (U := U.calling g mk a) (Vm.Alike.refl U.vm) qK, qD⟩, va_recv hKc hPc (ci := 6) (q0 := 0) rfl rfl, fun U hU hW => ⟨rfl, by rw [hU], by rw [hU]; exact hPc, va_K.moved hW.alike hKc, hDc.weaken (fun _ _ _ _ => trivial)⟩⟩ rfl rfl hl.1 rfl (lv_room (Nat.le_of_ble_eq_true rfl)) dX11_change_19 ⟨Nat.le_of_ble_eq_true rfl, Nat.le_of_ble_eq_true rfl⟩) hS (fun q _ h => hFc q h) hFc (fun r_7 u t H1 locs ht hvm hw hB hz1 hk1 hS => ?_)
  obtain ⟨hP1, hK1, hD1⟩ := hB
  rw [ht] at hP1
  obtain ⟨hP, hD⟩ := va_join (wr := [(h1, .inr (7, [.int h1_f0, .int h1_f1, .int h1_f2, .int h1_f3, .ref h1_4, .ref h1_5, .ref h1_6, .ref h1_7, .ref h1_8, .ref h1_9, .ref h1_10, .ref h1_11, .ref h1_12])), (h1_12, .inl (h1_12k, 8, .inl h1_12c))]) (w1 := (wd_c_X6_part h2 h2_0 h2_f1 h2_0 h2_0k h2_0c)) hP hD [0, 1] [2, 3] rfl rfl (by decide) (by decide) hk1 hFc hP1 hD1
  have hP := hP.sub (ws' := (wd_c_X11_change_2 h2 h2_0 h2_f1 h2_0 h2_0k h2_0c h1 h1_f0 h1_f1 h1_f2 h1_f3 h1_4 h1_5 h1_6 h1_7 h1_8 h1_9 h1_10 h1_11 h1_12 h1_12 h1_12k h1_12c)) [2, 3, 0, 1] rfl
  have hD := hD.sub (ws' := (wd_c_X11_change_2 h2 h2_0 h2_f1 h2_0 h2_0k h2_0c h1 h1_f0 h1_f1 h1_f2 h1_f3 h1_4 h1_5 h1_6 h1_7 h1_8 h1_9 h1_10 h1_11 h1_12 h1_12 h1_12k h1_12c)) [2, 3, 0, 1] (by decide) rfl
  generalize H1 = H at hP hS ⊢
  rcases hw with ⟨h_8, h_9⟩
  obtain rfl : y0 = r_7 := (h_9.trans pv_0.symm).symm
  by_cases c_10 : y0 = 2
  · have hsw : y0.toInt = 2 := by rw [c_10]; rfl
    refine lv_tableIn (off := 62) (tgt := 84) hx hb dX11_change_22 (by rw [hsw]; decide) (by rw [hsw]; decide) (by rw [hsw]; decide) (by decide) ?_
    have g_11 : RG y0 2 2 := RG_k _ _ hsw
    refine lv_aload_n hx hb dX11_change_84 rfl (lv_at hl 3 rfl) ?_
    refine va_get (D := (dC, dI)) (ci := 7) (v := .ref h1_12) (C := RX7) (T := TX7) (N := 13) hx hb hts iw_c_X11_change_2_X7 hown hK hP 2 rfl rfl 12 (by decide) (hts (.fieldLink RX11 181 "BuoyVote$Sea" "barnacles" "[I") (List.mem_of_getElem? (i := 7) rfl)) (fun _ h9 => h9) rfl dX11_change_85 ?_
    refine lv_iload hx hb dX11_change_88 (lv_at hl 0 rfl) ?_
    refine lv_dup2_11 hx hb dX11_change_90 rfl rfl ?_
    refine va_iald hx hb hK hP 3 1 rfl rfl (RG_in g_y2 (by decide)) dX11_change_91 ?_
    refine lv_topi (fun x_12 ex_12 => ?_)
    refine lv_iconst (v := 1) hx hb dX11_change_92 kc_iconst_1 ?_
    refine lv_isub hx hb dX11_change_93 ?_
    refine lv_topi (fun x_13 ex_13 => ?_)
    refine va_iast hx hb hK hP hD hS 3 1 rfl rfl (RG_in g_y2 (by decide)) dX11_change_94 (fun H locs hP hD hS => ?_)
    have hP : va_P (dC, dI) vwCl (wd_c_X11_change_2 h2 h2_0 h2_f1 h2_0 h2_0k h2_0c h1 h1_f0 h1_f1 h1_f2 h1_f3 h1_4 h1_5 h1_6 h1_7 h1_8 h1_9 h1_10 h1_11 h1_12 h1_12 h1_12k (upd h1_12c (y2 : Int32).toNatClampNeg x_13)) H := hP
    have hD : va_D A (wd_c_X11_change_2 h2 h2_0 h2_f1 h2_0 h2_0k h2_0c h1 h1_f0 h1_f1 h1_f2 h1_f3 h1_4 h1_5 h1_6 h1_7 h1_8 h1_9 h1_10 h1_11 h1_12 h1_12 h1_12k (upd h1_12c (y2 : Int32).toNatClampNeg x_13)) := hD
    have l_15 : (upd h1_12c (y2 : Int32).toNatClampNeg x_13) (y2 : Int32).toNatClampNeg = x_13 := pk_us
    generalize (upd h1_12c (y2 : Int32).toNatClampNeg x_13) = w_14 at hP hD l_15
    have hP : va_P (dC, dI) vwCl (wd_c_X11_change_2 h2 h2_0 h2_f1 h2_0 h2_0k h2_0c h1 h1_f0 h1_f1 h1_f2 h1_f3 h1_4 h1_5 h1_6 h1_7 h1_8 h1_9 h1_10 h1_11 h1_12 h1_12 h1_12k w_14) H := hP
    have hD : va_D A (wd_c_X11_change_2 h2 h2_0 h2_f1 h2_0 h2_0k h2_0c h1 h1_f0 h1_f1 h1_f2 h1_f3 h1_4 h1_5 h1_6 h1_7 h1_8 h1_9 h1_10 h1_11 h1_12 h1_12 h1_12k w_14) := hD
    refine lv_goto (tgt := 98) hx hb dX11_change_95 rfl ?_
    have hK9 := hK.sub (tys' := []) [] rfl
    exact W.vret hx hb hr (fun t ht hW => ⟨⟨w_14, rfl, trivial, by rw [ht]; exact hP, va_K.moved hW.alike hK9, hD⟩, hS.F ht⟩) hS.2.2 dX11_change_98
  exfalso
  have zc_10 := lv_neT c_10 (a := 2) (by decide)
  have zg1 := (g_y0).1
  have zg2 := (g_y0).2
  omega
