noncomputable def wd_c_X12_goThrough (a0 : Nat) (a1 : Int32) (a2 : Nat) (a3 : Nat) (a4 : Nat) (a5 : Nat) (a6 : Nat) (a7 : Int32) (a8 : Int32) (a9 : Int32) (a10 : Int32) (a11 : Int32) (a12 : Int32) (a13 : Int32) (a14 : Int32) (a15 : Int32) (a16 : Nat) (a17 : Nat) (a18 : Int32) (a19 : Nat) (a20 : Nat) (a21 : Nat) (a22 : Nat) (a23 : Nat) (a24 : Nat) (a25 : Nat) (a26 : Nat) (a27 : Int32) (a28 : Int32) (a29 : Int32) (a30 : Int32) (a31 : Int32) (a32 : Int32) (a33 : Nat) (a34 : Nat) (a35 : Int32) (a36 : Nat) (a37 : Nat) (a38 : Nat) (a39 : Nat) (a40 : Nat) (a41 : Nat) (a42 : Int32) (a43 : Int64) (a44 : Int32) (a45 : Int32) (a46 : Nat) (a47 : Nat) (a48 : Nat) (a49 : Nat) (a50 : Nat) (a51 : Nat) (a52 : Int32) (a53 : Nat) (a54 : Int32) (a55 : Nat) (a56 : ClassId) (a57 : Nat → Int32) (a58 : Nat) (a59 : ClassId) (a60 : Nat → Int32) : va_W := [(a0, .inr (12, [.int a1, .ref a2, .ref a3, .ref a4, .ref a5, .ref a6, .int a7, .int a8, .int a9, .int a10, .int a11, .int a12, .int a13, .int a14, .int a15, .ref a16, .ref a17, .int a18, .ref a19, .ref a20, .ref a21, .ref a22, .ref a23, .ref a24, .ref a25, .ref a26, .int a27, .int a28, .int a29, .int a30, .int a31, .int a32, .ref a33, .ref a34, .int a35, .ref a36, .ref a37, .ref a38, .ref a39, .ref a40, .ref a41, .int a42, .long a43, .int a44, .int a45, .ref a46, .ref a47, .ref a48, .ref a49, .ref a50, .ref a51, .int a52, .ref a53, .int a54])), (a55, .inl (a56, 240, .inl a57)), (a58, .inl (a59, 128, .inl a60))]
noncomputable def wf_c_X12_goThrough : List Cond := List.cons (.code yX12_goThrough cX12_goThrough 4 none) (@HAppend.hAppend (List Cond) (List Cond) (List Cond) _ [.methodLink RX12 222 yX12_starts, .instanceMethod yX12_starts, .selects RX12 yX12_starts yX12_starts, .initialized RX12, .code yX12_starts cX12_starts 4 none, .fieldLink RX12 23 "BuoyVoteModel" "text" "[B", .fieldLink RX12 140 "BuoyVoteModel" "begins" "I", .fieldLink RX12 137 "BuoyVoteModel" "ends" "I", .fieldLink RX12 134 "BuoyVoteModel" "at" "I", .fieldLink RX12 143 "BuoyVoteModel" "fault" "I", .fieldLink RX12 216 "BuoyVoteModel" "label" "I", .fieldLink RX12 146 "BuoyVoteModel" "deep" "I", .fieldLink RX12 212 "BuoyVoteModel" "hasFound" "Z", .fieldLink RX12 219 "BuoyVoteModel" "found" "I", .methodLink RX12 226 yX12_clause, .instanceMethod yX12_clause, .selects RX12 yX12_clause yX12_clause, .code yX12_clause cX12_clause 5 none, .methodLink RX12 153 yX12_look, .instanceMethod yX12_look, .selects RX12 yX12_look yX12_look, .code yX12_look cX12_look 1 (some .int), .methodLink RX12 169 yX12_isAmong, .static yX12_isAmong, .code yX12_isAmong cX12_isAmong 3 (some .boolean), .methodLink RX12 114 yJ0_length_8abf5, .instanceMethod yJ0_length_8abf5, .selects RJ0 yJ0_length_8abf5 yJ0_length_8abf5, .initialized RJ0, .code yJ0_length_8abf5 cJ0_length_8abf5 1 (some .int), .fieldLink RJ0 9 "java/lang/String" "value" "[B", .methodLink RJ0 335 yJ0_coder_7d493, .instanceMethod yJ0_coder_7d493, .selects RJ0 yJ0_coder_7d493 yJ0_coder_7d493, .code yJ0_coder_7d493 cJ0_coder_7d493 1 (some .byte), .fieldLink RJ0 38 "java/lang/String" "COMPACT_STRINGS" "Z", .fieldLink RJ0 15 "java/lang/String" "coder" "B", .methodLink RX12 120 yJ0_charAt_5068e, .instanceMethod yJ0_charAt_5068e, .selects RJ0 yJ0_charAt_5068e yJ0_charAt_5068e, .code yJ0_charAt_5068e cJ0_charAt_5068e 2 (some .char), .methodLink RJ0 492 yJ0_isLatin1_aae02, .instanceMethod yJ0_isLatin1_aae02, .selects RJ0 yJ0_isLatin1_aae02 yJ0_isLatin1_aae02, .code yJ0_isLatin1_aae02 cJ0_isLatin1_aae02 1 (some .boolean), .methodLink RJ0 495 yJ1_charAt_3b067, .static yJ1_charAt_3b067, .initialized RJ1, .code yJ1_charAt_3b067 cJ1_charAt_3b067 2 (some .char), .methodLink RJ1 9 yJ0_checkIndex_df160, .static yJ0_checkIndex_df160, .code yJ0_checkIndex_df160 cJ0_checkIndex_df160 2 none, .fieldLink RJ0 1053 "jdk/internal/util/Preconditions" "SIOOBE_FORMATTER" "Ljava/util/function/BiFunction;", .methodLink RJ0 1059 yJ3_checkIndex_8e157, .static yJ3_checkIndex_8e157, .initialized RJ3, .code yJ3_checkIndex_8e157 cJ3_checkIndex_8e157 3 (some .int), .methodLink RX12 149 yX12_fails, .instanceMethod yX12_fails, .selects RX12 yX12_fails yX12_fails, .code yX12_fails cX12_fails 1 (some .boolean), .methodLink RX12 179 yX12_takes, .instanceMethod yX12_takes, .selects RX12 yX12_takes yX12_takes, .code yX12_takes cX12_takes 2 (some .boolean), .methodLink RX12 176 yX12_sum, .instanceMethod yX12_sum, .selects RX12 yX12_sum yX12_sum, .code yX12_sum cX12_sum 5 (some .int), .methodLink RX12 193 yX12_term, .instanceMethod yX12_term, .selects RX12 yX12_term yX12_term, .code yX12_term cX12_term 5 (some .int), .methodLink RX12 186 yX12_atom, .instanceMethod yX12_atom, .selects RX12 yX12_atom yX12_atom, .code yX12_atom cX12_atom 4 (some .int), .methodLink RX12 183 yX12_isDigit, .instanceMethod yX12_isDigit, .selects RX12 yX12_isDigit yX12_isDigit, .code yX12_isDigit cX12_isDigit 1 (some .boolean), .methodLink RX12 173 yX12_goesIn, .instanceMethod yX12_goesIn, .selects RX12 yX12_goesIn yX12_goesIn, .code yX12_goesIn cX12_goesIn 1 (some .boolean), .fieldLink RX12 20 "BuoyVoteModel" "letters" "[I", .methodLink RX12 189 yX12_within, .static yX12_within, .code yX12_within cX12_within 2 (some .int), .constantLong RX12 156 (-1000000), .constantLong RX12 158 (1000000), .methodLink RX12 160 Lib.MathLoose.min_long.x, .static Lib.MathLoose.min_long.x, .initialized "java/lang/Math", .code Lib.MathLoose.min_long.x Lib.MathLoose.min_long.code 4 (some .long), .methodLink RX12 166 Lib.MathLoose.max_long.x, .static Lib.MathLoose.max_long.x, .code Lib.MathLoose.max_long.x Lib.MathLoose.max_long.code 4 (some .long), .methodLink RX12 196 yX12_isSign, .static yX12_isSign, .code yX12_isSign cX12_isSign 1 (some .boolean), .methodLink RX12 202 yX12_condition, .instanceMethod yX12_condition, .selects RX12 yX12_condition yX12_condition, .code yX12_condition cX12_condition 5 (some .boolean), .methodLink RX12 209 yX12_part, .instanceMethod yX12_part, .selects RX12 yX12_part yX12_part, .code yX12_part cX12_part 5 (some .boolean), .methodLink RX12 199 yX12_unit, .instanceMethod yX12_unit, .selects RX12 yX12_unit yX12_unit, .code yX12_unit cX12_unit 3 (some .boolean), .methodLink RX12 206 yX12_compares, .instanceMethod yX12_compares, .selects RX12 yX12_compares yX12_compares, .code yX12_compares cX12_compares 6 (some .boolean)] wsX120)
theorem iw_c_X12_goThrough_X12 : ∀ w ∈ wsX120, w ∈ wf_c_X12_goThrough := fun w h => List.mem_cons_of_mem _ (List.mem_append_right _ h)
set_option maxRecDepth 20000 in
theorem gf_c_X12_goThrough_c_X12_look : GoodIn wf_c_X12_goThrough (wsV RX12 153 RX12 yX12_look wf_c_X12_look) := goodIn_app (gi_l [19, 20, 21, 4] rfl rfl) (gi_cons (j := 22) rfl rfl (goodIn_app (gi_l [9, 8, 6, 7] rfl rfl) (goodIn_sub iw_c_X12_goThrough_X12 gw_X12)))
set_option maxRecDepth 20000 in
theorem gf_c_X12_goThrough_c_X12_fails : GoodIn wf_c_X12_goThrough (wsV RX12 149 RX12 yX12_fails wf_c_X12_fails) := goodIn_app (gi_l [58, 59, 60, 4] rfl rfl) (gi_cons (j := 61) rfl rfl (goodIn_app (gi_l [10, 9] rfl rfl) (goodIn_sub iw_c_X12_goThrough_X12 gw_X12)))
set_option maxRecDepth 20000 in
theorem gf_c_X12_goThrough_c_X12_clause : GoodIn wf_c_X12_goThrough (wsV RX12 226 RX12 yX12_clause wf_c_X12_clause) := goodIn_app (gi_l [15, 16, 17, 4] rfl rfl) (gi_cons (j := 18) rfl rfl (goodIn_app (gi_l [19, 20, 21, 4, 22, 9, 8, 6, 7, 23, 24, 25, 26, 27, 28, 29, 30, 31, 32, 33, 34, 35, 36, 37, 38, 39, 40, 41, 42, 43, 44, 45, 46, 47, 48, 49, 50, 51, 52, 53, 54, 55, 56, 57, 58, 59, 60, 61, 10, 62, 63, 64, 65, 66, 67, 68, 69, 70, 71, 72, 73, 74, 75, 76, 77, 78, 79, 80, 81, 82, 83, 84, 85, 12, 86, 87, 88, 89, 90, 91, 92, 93, 94, 95, 96, 97, 98, 99, 100, 101, 102, 103, 104, 105, 106, 107, 108, 109, 110, 111, 112, 113, 114, 115, 116, 117, 13, 11, 14] rfl rfl) (goodIn_sub iw_c_X12_goThrough_X12 gw_X12)))
set_option maxRecDepth 20000 in
theorem gf_c_X12_goThrough_c_X12_starts : GoodIn wf_c_X12_goThrough (wsV RX12 222 RX12 yX12_starts wf_c_X12_starts) := goodIn_app (gi_l [1, 2, 3, 4] rfl rfl) (gi_cons (j := 5) rfl rfl (goodIn_app (gi_l [6, 7, 8, 9, 10] rfl rfl) (goodIn_sub iw_c_X12_goThrough_X12 gw_X12)))
set_option maxHeartbeats 4000000 in
set_option maxRecDepth 100000 in
theorem c_X12_goThrough (l : Launch) (dC : Nat → ClassId) (dI : Nat → Nat → Nat) (sz : Nat) (h0 : Nat) (h1 : Nat) (p3 : Int32) (h0_f0 : Int32) (h0_1 : Nat) (h0_2 : Nat) (h0_3 : Nat) (h0_4 : Nat) (h0_5 : Nat) (h0_f6 : Int32) (h0_f7 : Int32) (h0_f8 : Int32) (h0_f9 : Int32) (h0_f10 : Int32) (h0_f11 : Int32) (h0_f12 : Int32) (h0_f13 : Int32) (h0_f14 : Int32) (h0_15 : Nat) (h0_16 : Nat) (h0_f17 : Int32) (h0_18 : Nat) (h0_19 : Nat) (h0_20 : Nat) (h0_21 : Nat) (h0_22 : Nat) (h0_23 : Nat) (h0_24 : Nat) (h0_25 : Nat) (h0_f26 : Int32) (h0_f27 : Int32) (h0_f28 : Int32) (h0_f29 : Int32) (h0_f30 : Int32) (h0_f31 : Int32) (h0_32 : Nat) (h0_33 : Nat) (h0_f34 : Int32) (h0_35 : Nat) (h0_36 : Nat) (h0_37 : Nat) (h0_38 : Nat) (h0_39 : Nat) (h0_40 : Nat) (h0_f41 : Int32) (h0_f42 : Int64) (h0_f43 : Int32) (h0_f44 : Int32) (h0_45 : Nat) (h0_46 : Nat) (h0_47 : Nat) (h0_48 : Nat) (h0_49 : Nat) (h0_50 : Nat) (h0_f51 : Int32) (h0_52 : Nat) (h0_f53 : Int32) (h1k : ClassId) (h1c : Nat → Int32) (h0_4k : ClassId) (h0_4c : Nat → Int32) (ts6 : Nat) (tv6 : Nat) (ts7 : Nat) (tv7 : Nat) (g_p3 : RG p3 0 240) (g_h0_f6 : RG h0_f6 0 240) (g_h0_f7 : RG h0_f7 0 4) (g_h0_f8 : RG h0_f8 0 720) (g_h0_f9 : RG h0_f9 0 240) (g_h0_f10 : RG h0_f10 0 240) (g_h0_f11 : RG h0_f11 (-1) 240) (g_h0_f17 : RG h0_f17 0 1) (g_h0_f26 : RG h0_f26 0 8) (g_h0_f27 : RG h0_f27 0 3) (g_h0_f28 : RG h0_f28 0 8) (g_h0_f29 : RG h0_f29 0 3) (g_h0_f30 : RG h0_f30 0 4) (g_h0_f31 : RG h0_f31 0 1) (g_h0_f34 : RG h0_f34 (-1) 3) (g_h0_f41 : RG h0_f41 0 40) (g_h0_f51 : RG h0_f51 0 10) (g_h0_f53 : RG h0_f53 0 1) (a_h0_4c : AP tLet h0_4c) : Met l yX12_goThrough wf_c_X12_goThrough ({ frames := 31, cells := 0, slots := 0, locals := 723 }) (va_Pc [.ref h0, .ref h1, .int 0, .int p3] (fun U => U.heap.size = sz ∧ va_P (dC, dI) vwCl (wd_c_X12_goThrough h0 h0_f0 h0_1 h0_2 h0_3 h0_4 h0_5 h0_f6 h0_f7 h0_f8 h0_f9 h0_f10 h0_f11 h0_f12 h0_f13 h0_f14 h0_15 h0_16 h0_f17 h0_18 h0_19 h0_20 h0_21 h0_22 h0_23 h0_24 h0_25 h0_f26 h0_f27 h0_f28 h0_f29 h0_f30 h0_f31 h0_32 h0_33 h0_f34 h0_35 h0_36 h0_37 h0_38 h0_39 h0_40 h0_f41 h0_f42 h0_f43 h0_f44 h0_45 h0_46 h0_47 h0_48 h0_49 h0_50 h0_f51 h0_52 h0_f53 h1 h1k h1c h0_4 h0_4k h0_4c) U.heap ∧ va_K (dC, dI) vwCl [(h1k, .byte), (h0_4k, .int)] U ∧ va_D (fun _ => True) (wd_c_X12_goThrough h0 h0_f0 h0_1 h0_2 h0_3 h0_4 h0_5 h0_f6 h0_f7 h0_f8 h0_f9 h0_f10 h0_f11 h0_f12 h0_f13 h0_f14 h0_15 h0_16 h0_f17 h0_18 h0_19 h0_20 h0_21 h0_22 h0_23 h0_24 h0_25 h0_f26 h0_f27 h0_f28 h0_f29 h0_f30 h0_f31 h0_32 h0_33 h0_f34 h0_35 h0_36 h0_37 h0_38 h0_39 h0_40 h0_f41 h0_f42 h0_f43 h0_f44 h0_45 h0_46 h0_47 h0_48 h0_49 h0_50 h0_f51 h0_52 h0_f53 h1 h1k h1c h0_4 h0_4k h0_4c) ∧ vk_R RX12 26 "y" ts6 U ∧ va_OF "java/lang/String" "value" "[B" (.ref tv6) ts6 (va_A (wd_c_X12_goThrough h0 h0_f0 h0_1 h0_2 h0_3 h0_4 h0_5 h0_f6 h0_f7 h0_f8 h0_f9 h0_f10 h0_f11 h0_f12 h0_f13 h0_f14 h0_15 h0_16 h0_f17 h0_18 h0_19 h0_20 h0_21 h0_22 h0_23 h0_24 h0_25 h0_f26 h0_f27 h0_f28 h0_f29 h0_f30 h0_f31 h0_32 h0_33 h0_f34 h0_35 h0_36 h0_37 h0_38 h0_39 h0_40 h0_f41 h0_f42 h0_f43 h0_f44 h0_45 h0_46 h0_47 h0_48 h0_49 h0_50 h0_f51 h0_52 h0_f53 h1 h1k h1c h0_4 h0_4k h0_4c) sz) U U.heap ∧ va_T .byte tv6 1 (fun j => .int ([121].getD j 0)) (va_A (wd_c_X12_goThrough h0 h0_f0 h0_1 h0_2 h0_3 h0_4 h0_5 h0_f6 h0_f7 h0_f8 h0_f9 h0_f10 h0_f11 h0_f12 h0_f13 h0_f14 h0_15 h0_16 h0_f17 h0_18 h0_19 h0_20 h0_21 h0_22 h0_23 h0_24 h0_25 h0_f26 h0_f27 h0_f28 h0_f29 h0_f30 h0_f31 h0_32 h0_33 h0_f34 h0_35 h0_36 h0_37 h0_38 h0_39 h0_40 h0_f41 h0_f42 h0_f43 h0_f44 h0_45 h0_46 h0_47 h0_48 h0_49 h0_50 h0_f51 h0_52 h0_f53 h1 h1k h1c h0_4 h0_4k h0_4c) sz) U U.heap ∧ va_Z "java/lang/String" "COMPACT_STRINGS" "Z" (.int 1) (va_A (wd_c_X12_goThrough h0 h0_f0 h0_1 h0_2 h0_3 h0_4 h0_5 h0_f6 h0_f7 h0_f8 h0_f9 h0_f10 h0_f11 h0_f12 h0_f13 h0_f14 h0_15 h0_16 h0_f17 h0_18 h0_19 h0_20 h0_21 h0_22 h0_23 h0_24 h0_25 h0_f26 h0_f27 h0_f28 h0_f29 h0_f30 h0_f31 h0_32 h0_33 h0_f34 h0_35 h0_36 h0_37 h0_38 h0_39 h0_40 h0_f41 h0_f42 h0_f43 h0_f44 h0_45 h0_46 h0_47 h0_48 h0_49 h0_50 h0_f51 h0_52 h0_f53 h1 h1k h1c h0_4 h0_4k h0_4c) sz) U U.heap ∧ va_OF "java/lang/String" "coder" "B" (.int 0) ts6 (va_A (wd_c_X12_goThrough h0 h0_f0 h0_1 h0_2 h0_3 h0_4 h0_5 h0_f6 h0_f7 h0_f8 h0_f9 h0_f10 h0_f11 h0_f12 h0_f13 h0_f14 h0_15 h0_16 h0_f17 h0_18 h0_19 h0_20 h0_21 h0_22 h0_23 h0_24 h0_25 h0_f26 h0_f27 h0_f28 h0_f29 h0_f30 h0_f31 h0_32 h0_33 h0_f34 h0_35 h0_36 h0_37 h0_38 h0_39 h0_40 h0_f41 h0_f42 h0_f43 h0_f44 h0_45 h0_46 h0_47 h0_48 h0_49 h0_50 h0_f51 h0_52 h0_f53 h1 h1k h1c h0_4 h0_4k h0_4c) sz) U U.heap ∧ va_O "java/lang/String" ts6 (va_A (wd_c_X12_goThrough h0 h0_f0 h0_1 h0_2 h0_3 h0_4 h0_5 h0_f6 h0_f7 h0_f8 h0_f9 h0_f10 h0_f11 h0_f12 h0_f13 h0_f14 h0_15 h0_16 h0_f17 h0_18 h0_19 h0_20 h0_21 h0_22 h0_23 h0_24 h0_25 h0_f26 h0_f27 h0_f28 h0_f29 h0_f30 h0_f31 h0_32 h0_33 h0_f34 h0_35 h0_36 h0_37 h0_38 h0_39 h0_40 h0_f41 h0_f42 h0_f43 h0_f44 h0_45 h0_46 h0_47 h0_48 h0_49 h0_50 h0_f51 h0_52 h0_f53 h1 h1k h1c h0_4 h0_4k h0_4c) sz) U U.heap ∧ va_Zq "jdk/internal/util/Preconditions" "SIOOBE_FORMATTER" "Ljava/util/function/BiFunction;" (va_A (wd_c_X12_goThrough h0 h0_f0 h0_1 h0_2 h0_3 h0_4 h0_5 h0_f6 h0_f7 h0_f8 h0_f9 h0_f10 h0_f11 h0_f12 h0_f13 h0_f14 h0_15 h0_16 h0_f17 h0_18 h0_19 h0_20 h0_21 h0_22 h0_23 h0_24 h0_25 h0_f26 h0_f27 h0_f28 h0_f29 h0_f30 h0_f31 h0_32 h0_33 h0_f34 h0_35 h0_36 h0_37 h0_38 h0_39 h0_40 h0_f41 h0_f42 h0_f43 h0_f44 h0_45 h0_46 h0_47 h0_48 h0_49 h0_50 h0_f51 h0_52 h0_f53 h1 h1k h1c h0_4 h0_4k h0_4c) sz) U U.heap ∧ vk_R RX12 32 "vlrdph" ts7 U ∧ va_OF "java/lang/String" "value" "[B" (.ref tv7) ts7 (va_A (wd_c_X12_goThrough h0 h0_f0 h0_1 h0_2 h0_3 h0_4 h0_5 h0_f6 h0_f7 h0_f8 h0_f9 h0_f10 h0_f11 h0_f12 h0_f13 h0_f14 h0_15 h0_16 h0_f17 h0_18 h0_19 h0_20 h0_21 h0_22 h0_23 h0_24 h0_25 h0_f26 h0_f27 h0_f28 h0_f29 h0_f30 h0_f31 h0_32 h0_33 h0_f34 h0_35 h0_36 h0_37 h0_38 h0_39 h0_40 h0_f41 h0_f42 h0_f43 h0_f44 h0_45 h0_46 h0_47 h0_48 h0_49 h0_50 h0_f51 h0_52 h0_f53 h1 h1k h1c h0_4 h0_4k h0_4c) sz) U U.heap ∧ va_T .byte tv7 6 (fun j => .int ([118, 108, 114, 100, 112, 104].getD j 0)) (va_A (wd_c_X12_goThrough h0 h0_f0 h0_1 h0_2 h0_3 h0_4 h0_5 h0_f6 h0_f7 h0_f8 h0_f9 h0_f10 h0_f11 h0_f12 h0_f13 h0_f14 h0_15 h0_16 h0_f17 h0_18 h0_19 h0_20 h0_21 h0_22 h0_23 h0_24 h0_25 h0_f26 h0_f27 h0_f28 h0_f29 h0_f30 h0_f31 h0_32 h0_33 h0_f34 h0_35 h0_36 h0_37 h0_38 h0_39 h0_40 h0_f41 h0_f42 h0_f43 h0_f44 h0_45 h0_46 h0_47 h0_48 h0_49 h0_50 h0_f51 h0_52 h0_f53 h1 h1k h1c h0_4 h0_4k h0_4c) sz) U U.heap ∧ va_OF "java/lang/String" "coder" "B" (.int 0) ts7 (va_A (wd_c_X12_goThrough h0 h0_f0 h0_1 h0_2 h0_3 h0_4 h0_5 h0_f6 h0_f7 h0_f8 h0_f9 h0_f10 h0_f11 h0_f12 h0_f13 h0_f14 h0_15 h0_16 h0_f17 h0_18 h0_19 h0_20 h0_21 h0_22 h0_23 h0_24 h0_25 h0_f26 h0_f27 h0_f28 h0_f29 h0_f30 h0_f31 h0_32 h0_33 h0_f34 h0_35 h0_36 h0_37 h0_38 h0_39 h0_40 h0_f41 h0_f42 h0_f43 h0_f44 h0_45 h0_46 h0_47 h0_48 h0_49 h0_50 h0_f51 h0_52 h0_f53 h1 h1k h1c h0_4 h0_4k h0_4c) sz) U U.heap ∧ va_O "java/lang/String" ts7 (va_A (wd_c_X12_goThrough h0 h0_f0 h0_1 h0_2 h0_3 h0_4 h0_5 h0_f6 h0_f7 h0_f8 h0_f9 h0_f10 h0_f11 h0_f12 h0_f13 h0_f14 h0_15 h0_16 h0_f17 h0_18 h0_19 h0_20 h0_21 h0_22 h0_23 h0_24 h0_25 h0_f26 h0_f27 h0_f28 h0_f29 h0_f30 h0_f31 h0_32 h0_33 h0_f34 h0_35 h0_36 h0_37 h0_38 h0_39 h0_40 h0_f41 h0_f42 h0_f43 h0_f44 h0_45 h0_46 h0_47 h0_48 h0_49 h0_50 h0_f51 h0_52 h0_f53 h1 h1k h1c h0_4 h0_4k h0_4c) sz) U U.heap)) (va_Qv (fun (u : (Int32) × (Int32) × (Int32) × (Int32) × (Int32)) => (RG u.1 0 240 ∧ u.2.1 = (-1) ∧ u.2.2.1 = 0 ∧ RG u.2.2.2.2 0 1 ∧ RG p3 1 240 ∧ u.2.1 = fx_c_X12_goThrough p3 h1c h0_4c) ∨ (RG u.1 0 240 ∧ RG u.2.1 0 240 ∧ RG u.2.2.1 0 6 ∧ RG u.2.2.2.2 0 1 ∧ u.2.1 = fx_c_X12_goThrough p3 h1c h0_4c)) (fun (u : (Int32) × (Int32) × (Int32) × (Int32) × (Int32)) t => va_P (dC, dI) vwCl (wd_c_X12_goThrough h0 h0_f0 h0_1 h0_2 h0_3 h0_4 h1 h0_f6 h0_f7 0 p3 (u.1) (u.2.1) (u.2.2.1) 121 (u.2.2.2.1) h0_15 h0_16 (u.2.2.2.2) h0_18 h0_19 h0_20 h0_21 h0_22 h0_23 h0_24 h0_25 h0_f26 h0_f27 h0_f28 h0_f29 h0_f30 h0_f31 h0_32 h0_33 h0_f34 h0_35 h0_36 h0_37 h0_38 h0_39 h0_40 h0_f41 h0_f42 h0_f43 h0_f44 h0_45 h0_46 h0_47 h0_48 h0_49 h0_50 h0_f51 h0_52 h0_f53 h1 h1k h1c h0_4 h0_4k h0_4c) t.heap ∧ va_K (dC, dI) vwCl [] t ∧ va_D (va_A (wd_c_X12_goThrough h0 h0_f0 h0_1 h0_2 h0_3 h0_4 h0_5 h0_f6 h0_f7 h0_f8 h0_f9 h0_f10 h0_f11 h0_f12 h0_f13 h0_f14 h0_15 h0_16 h0_f17 h0_18 h0_19 h0_20 h0_21 h0_22 h0_23 h0_24 h0_25 h0_f26 h0_f27 h0_f28 h0_f29 h0_f30 h0_f31 h0_32 h0_33 h0_f34 h0_35 h0_36 h0_37 h0_38 h0_39 h0_40 h0_f41 h0_f42 h0_f43 h0_f44 h0_45 h0_46 h0_47 h0_48 h0_49 h0_50 h0_f51 h0_52 h0_f53 h1 h1k h1c h0_4 h0_4k h0_4c) sz) (wd_c_X12_goThrough h0 h0_f0 h0_1 h0_2 h0_3 h0_4 h1 h0_f6 h0_f7 0 p3 (u.1) (u.2.1) (u.2.2.1) 121 (u.2.2.2.1) h0_15 h0_16 (u.2.2.2.2) h0_18 h0_19 h0_20 h0_21 h0_22 h0_23 h0_24 h0_25 h0_f26 h0_f27 h0_f28 h0_f29 h0_f30 h0_f31 h0_32 h0_33 h0_f34 h0_35 h0_36 h0_37 h0_38 h0_39 h0_40 h0_f41 h0_f42 h0_f43 h0_f44 h0_45 h0_46 h0_47 h0_48 h0_49 h0_50 h0_f51 h0_52 h0_f53 h1 h1k h1c h0_4 h0_4k h0_4c)) (va_A (wd_c_X12_goThrough h0 h0_f0 h0_1 h0_2 h0_3 h0_4 h0_5 h0_f6 h0_f7 h0_f8 h0_f9 h0_f10 h0_f11 h0_f12 h0_f13 h0_f14 h0_15 h0_16 h0_f17 h0_18 h0_19 h0_20 h0_21 h0_22 h0_23 h0_24 h0_25 h0_f26 h0_f27 h0_f28 h0_f29 h0_f30 h0_f31 h0_32 h0_33 h0_f34 h0_35 h0_36 h0_37 h0_38 h0_39 h0_40 h0_f41 h0_f42 h0_f43 h0_f44 h0_45 h0_46 h0_47 h0_48 h0_49 h0_50 h0_f51 h0_52 h0_f53 h1 h1k h1c h0_4 h0_4k h0_4c) sz)) 0 0 (va_A (wd_c_X12_goThrough h0 h0_f0 h0_1 h0_2 h0_3 h0_4 h0_5 h0_f6 h0_f7 h0_f8 h0_f9 h0_f10 h0_f11 h0_f12 h0_f13 h0_f14 h0_15 h0_16 h0_f17 h0_18 h0_19 h0_20 h0_21 h0_22 h0_23 h0_24 h0_25 h0_f26 h0_f27 h0_f28 h0_f29 h0_f30 h0_f31 h0_32 h0_33 h0_f34 h0_35 h0_36 h0_37 h0_38 h0_39 h0_40 h0_f41 h0_f42 h0_f43 h0_f44 h0_45 h0_46 h0_47 h0_48 h0_49 h0_50 h0_f51 h0_52 h0_f53 h1 h1k h1c h0_4 h0_4k h0_4c) sz) := by
  refine Met.ofW (cc := cX12_goThrough) (maxL := 4) (ret := none) (by decide +kernel) rfl ?_
  intro p e s m args below meth c s₁ B hml hv
  obtain ⟨rfl, hsz, hP, hK, hD0, hE_42, hE_45, hE_46, hE_10, hE_44, hE_43, hE_11, hE_47, hE_50, hE_51, hE_49, hE_48⟩ := hv
  have hx := B.exec
  have hb := B.bytes
  have hr := B.returns
  have hts := atoms_spec (ws := wf_c_X12_goThrough) B.pre
  have hown : s.vm.findClass RX12 = some m.cls := findClass_of_methodNamed B.named
  have hlocks := B.notSynchronized
  subst hsz
  have hD := hD0.self (sz := s.heap.size)
  generalize hAe : va_A (wd_c_X12_goThrough h0 h0_f0 h0_1 h0_2 h0_3 h0_4 h0_5 h0_f6 h0_f7 h0_f8 h0_f9 h0_f10 h0_f11 h0_f12 h0_f13 h0_f14 h0_15 h0_16 h0_f17 h0_18 h0_19 h0_20 h0_21 h0_22 h0_23 h0_24 h0_25 h0_f26 h0_f27 h0_f28 h0_f29 h0_f30 h0_f31 h0_32 h0_33 h0_f34 h0_35 h0_36 h0_37 h0_38 h0_39 h0_40 h0_f41 h0_f42 h0_f43 h0_f44 h0_45 h0_46 h0_47 h0_48 h0_49 h0_50 h0_f51 h0_52 h0_f53 h1 h1k h1c h0_4 h0_4k h0_4c) s.heap.size = A at hD hE_45 hE_46 hE_10 hE_44 hE_43 hE_11 hE_50 hE_51 hE_49 hE_48 ⊢
  have hA : ∀ q : Nat, s.heap.size ≤ q → A q := fun q h => by rw [← hAe]; exact Or.inr h
  have hP : va_P (dC, dI) vwCl (wd_c_X12_goThrough h0 h0_f0 h0_1 h0_2 h0_3 h0_4 h0_5 h0_f6 h0_f7 h0_f8 h0_f9 h0_f10 h0_f11 h0_f12 h0_f13 h0_f14 h0_15 h0_16 h0_f17 h0_18 h0_19 h0_20 h0_21 h0_22 h0_23 h0_24 h0_25 h0_f26 h0_f27 h0_f28 h0_f29 h0_f30 h0_f31 h0_32 h0_33 h0_f34 h0_35 h0_36 h0_37 h0_38 h0_39 h0_40 h0_f41 h0_f42 h0_f43 h0_f44 h0_45 h0_46 h0_47 h0_48 h0_49 h0_50 h0_f51 h0_52 h0_f53 h1 h1k h1c h0_4 h0_4k h0_4c) s.heap := hP
  have hl := lv_entry ([.ref h0, .ref h1, .int 0, .int p3]) (n := 4) (Nat.le_of_ble_eq_true rfl)
  rw [lg_entry_eq]
  generalize (lg_sl ([.ref h0, .ref h1, .int 0, .int p3]) ++ List.replicate (4 - (lg_sl ([.ref h0, .ref h1, .int 0, .int p3])).length) Slot.unset).toArray = ls at hl ⊢
  have hl : lv_has ls 4 [(0, .ref h0), (1, .ref h1), (2, .int 0), (3, .int p3)] := hl
  obtain ⟨H, hHe⟩ : ∃ H : Heap, s.heap = H := ⟨_, rfl⟩
  have hS : va_S A s.heap H [] := by rw [hHe]; exact va_S.rf
  have hP : va_P (dC, dI) vwCl (wd_c_X12_goThrough h0 h0_f0 h0_1 h0_2 h0_3 h0_4 h0_5 h0_f6 h0_f7 h0_f8 h0_f9 h0_f10 h0_f11 h0_f12 h0_f13 h0_f14 h0_15 h0_16 h0_f17 h0_18 h0_19 h0_20 h0_21 h0_22 h0_23 h0_24 h0_25 h0_f26 h0_f27 h0_f28 h0_f29 h0_f30 h0_f31 h0_32 h0_33 h0_f34 h0_35 h0_36 h0_37 h0_38 h0_39 h0_40 h0_f41 h0_f42 h0_f43 h0_f44 h0_45 h0_46 h0_47 h0_48 h0_49 h0_50 h0_f51 h0_52 h0_f53 h1 h1k h1c h0_4 h0_4k h0_4c) H := by rw [← hHe]; exact hP
  rw [hHe]
  obtain ⟨RES, hR⟩ : ∃ z, fx_c_X12_goThrough p3 h1c h0_4c = z := ⟨_, rfl⟩
  have hEX : RES = fx_c_X12_goThrough p3 h1c h0_4c := hR.symm
  refine wj (fun G hG hU => ?_)
  as_aux_lemma =>
  have J66b : ∀ (j66b_h0_f10 : Int32) (j66b_h0_f11 : Int32) (j66b_h0_f12 : Int32) (j66b_h0_f14 : Int32) (j66b_h0_f17 : Int32) (g_h0_f10 : RG h0_f10 0 240) (g_h0_f11 : RG h0_f11 (-1) 240) (g_h0_f17 : RG h0_f17 0 1) (g_h0_f26 : RG h0_f26 0 8) (g_h0_f27 : RG h0_f27 0 3) (g_h0_f28 : RG h0_f28 0 8) (g_h0_f29 : RG h0_f29 0 3) (g_h0_f30 : RG h0_f30 0 4) (g_h0_f31 : RG h0_f31 0 1) (g_h0_f34 : RG h0_f34 (-1) 3) (g_h0_f41 : RG h0_f41 0 40) (g_h0_f51 : RG h0_f51 0 10) (g_h0_f53 : RG h0_f53 0 1) (g_h0_f6 : RG h0_f6 0 240) (g_h0_f7 : RG h0_f7 0 4) (g_h0_f8 : RG h0_f8 0 720) (g_h0_f9 : RG h0_f9 0 240) (g_j66b_h0_f10 : RG j66b_h0_f10 0 240) (g_j66b_h0_f11 : RG j66b_h0_f11 0 240) (g_j66b_h0_f12 : RG j66b_h0_f12 0 6) (g_j66b_h0_f17 : RG j66b_h0_f17 0 1) (g_p3 : RG p3 0 240) (hEX : RES = fx_c_X12_goThrough_p66b j66b_h0_f11) (H : Heap) (locs : List Loc) (ls : Array Slot) (hP : va_P (dC, dI) vwCl (wd_c_X12_goThrough h0 h0_f0 h0_1 h0_2 h0_3 h0_4 h1 h0_f6 h0_f7 0 p3 j66b_h0_f10 j66b_h0_f11 j66b_h0_f12 121 j66b_h0_f14 h0_15 h0_16 j66b_h0_f17 h0_18 h0_19 h0_20 h0_21 h0_22 h0_23 h0_24 h0_25 h0_f26 h0_f27 h0_f28 h0_f29 h0_f30 h0_f31 h0_32 h0_33 h0_f34 h0_35 h0_36 h0_37 h0_38 h0_39 h0_40 h0_f41 h0_f42 h0_f43 h0_f44 h0_45 h0_46 h0_47 h0_48 h0_49 h0_50 h0_f51 h0_52 h0_f53 h1 h1k h1c h0_4 h0_4k h0_4c) H) (hD : va_D A (wd_c_X12_goThrough h0 h0_f0 h0_1 h0_2 h0_3 h0_4 h1 h0_f6 h0_f7 0 p3 j66b_h0_f10 j66b_h0_f11 j66b_h0_f12 121 j66b_h0_f14 h0_15 h0_16 j66b_h0_f17 h0_18 h0_19 h0_20 h0_21 h0_22 h0_23 h0_24 h0_25 h0_f26 h0_f27 h0_f28 h0_f29 h0_f30 h0_f31 h0_32 h0_33 h0_f34 h0_35 h0_36 h0_37 h0_38 h0_39 h0_40 h0_f41 h0_f42 h0_f43 h0_f44 h0_45 h0_46 h0_47 h0_48 h0_49 h0_50 h0_f51 h0_52 h0_f53 h1 h1k h1c h0_4 h0_4k h0_4c)) (hS : va_S A s.heap H locs) (hl : lv_has ls 4 [(0, .ref h0)]), G H locs (F0 m 66 ls []) := by
    as_aux_lemma =>
    intro j66b_h0_f10 j66b_h0_f11 j66b_h0_f12 j66b_h0_f14 j66b_h0_f17 g_h0_f10 g_h0_f11 g_h0_f17 g_h0_f26 g_h0_f27 g_h0_f28 g_h0_f29 g_h0_f30 g_h0_f31 g_h0_f34 g_h0_f41 g_h0_f51 g_h0_f53 g_h0_f6 g_h0_f7 g_h0_f8 g_h0_f9 g_j66b_h0_f10 g_j66b_h0_f11 g_j66b_h0_f12 g_j66b_h0_f17 g_p3 hEX H locs ls hP hD hS hl
    refine hG _ _ _ ?_
    refine lv_aload_n hx hb dX12_goThrough_66 rfl (lv_at hl 0 rfl) ?_
    refine va_get (D := (dC, dI)) (ci := 12) (v := .int j66b_h0_f11) (C := RX12) (T := TX12) (N := 54) hx hb hts iw_c_X12_goThrough_X12 hown hK hP 0 rfl rfl 11 (by decide +kernel) (hts (.fieldLink RX12 143 "BuoyVoteModel" "fault" "I") (List.mem_of_getElem? (i := 10) rfl)) (fun _ h9 => h9) rfl dX12_goThrough_67 ?_
    refine lv_iconst (v := (-1)) hx hb dX12_goThrough_70 kc_iconst_m1 ?_
    refine lv_icmp_ne (tgt := 87) hx hb dX12_goThrough_71 rfl (fun c_1 => ?_) (fun c_1 => ?_)
    · replace hEX := hEX.trans (if_neg c_1)
      have hK9 := hK.sub (tys' := []) [] rfl
      exact W.vret hx hb hr (fun t ht hW => ⟨⟨(j66b_h0_f10, j66b_h0_f11, j66b_h0_f12, j66b_h0_f14, j66b_h0_f17), rfl, (Or.inr ⟨g_j66b_h0_f10, g_j66b_h0_f11, g_j66b_h0_f12, g_j66b_h0_f17, (hR.trans hEX).symm⟩), by rw [ht]; exact hP, va_K.moved hW.alike hK9, hD⟩, hS.F ht⟩) hS.2.2 dX12_goThrough_87
    · replace hEX := hEX.trans (if_pos c_1)
      exact RG_dead (RG_eq1 g_j66b_h0_f11 (RG_k (-1) (-1) rfl) c_1 (a' := 0) (b' := (-1)) (by decide +kernel)) (by decide +kernel)
  have J32b : ∀ (j32b_h0_f10 : Int32) (j32b_h0_f11 : Int32) (j32b_h0_f12 : Int32) (j32b_h0_f14 : Int32) (j32b_h0_f17 : Int32) (g_h0_f10 : RG h0_f10 0 240) (g_h0_f11 : RG h0_f11 (-1) 240) (g_h0_f17 : RG h0_f17 0 1) (g_h0_f26 : RG h0_f26 0 8) (g_h0_f27 : RG h0_f27 0 3) (g_h0_f28 : RG h0_f28 0 8) (g_h0_f29 : RG h0_f29 0 3) (g_h0_f30 : RG h0_f30 0 4) (g_h0_f31 : RG h0_f31 0 1) (g_h0_f34 : RG h0_f34 (-1) 3) (g_h0_f41 : RG h0_f41 0 40) (g_h0_f51 : RG h0_f51 0 10) (g_h0_f53 : RG h0_f53 0 1) (g_h0_f6 : RG h0_f6 0 240) (g_h0_f7 : RG h0_f7 0 4) (g_h0_f8 : RG h0_f8 0 720) (g_h0_f9 : RG h0_f9 0 240) (g_j32b_h0_f10 : RG j32b_h0_f10 0 240) (g_j32b_h0_f11 : RG j32b_h0_f11 0 240) (g_j32b_h0_f12 : RG j32b_h0_f12 0 6) (g_j32b_h0_f17 : RG j32b_h0_f17 0 1) (g_p3 : RG p3 0 240) (hEX : RES = fx_c_X12_goThrough_p32b j32b_h0_f11) (H : Heap) (locs : List Loc) (ls : Array Slot) (hP : va_P (dC, dI) vwCl (wd_c_X12_goThrough h0 h0_f0 h0_1 h0_2 h0_3 h0_4 h1 h0_f6 h0_f7 0 p3 j32b_h0_f10 j32b_h0_f11 j32b_h0_f12 121 j32b_h0_f14 h0_15 h0_16 j32b_h0_f17 h0_18 h0_19 h0_20 h0_21 h0_22 h0_23 h0_24 h0_25 h0_f26 h0_f27 h0_f28 h0_f29 h0_f30 h0_f31 h0_32 h0_33 h0_f34 h0_35 h0_36 h0_37 h0_38 h0_39 h0_40 h0_f41 h0_f42 h0_f43 h0_f44 h0_45 h0_46 h0_47 h0_48 h0_49 h0_50 h0_f51 h0_52 h0_f53 h1 h1k h1c h0_4 h0_4k h0_4c) H) (hD : va_D A (wd_c_X12_goThrough h0 h0_f0 h0_1 h0_2 h0_3 h0_4 h1 h0_f6 h0_f7 0 p3 j32b_h0_f10 j32b_h0_f11 j32b_h0_f12 121 j32b_h0_f14 h0_15 h0_16 j32b_h0_f17 h0_18 h0_19 h0_20 h0_21 h0_22 h0_23 h0_24 h0_25 h0_f26 h0_f27 h0_f28 h0_f29 h0_f30 h0_f31 h0_32 h0_33 h0_f34 h0_35 h0_36 h0_37 h0_38 h0_39 h0_40 h0_f41 h0_f42 h0_f43 h0_f44 h0_45 h0_46 h0_47 h0_48 h0_49 h0_50 h0_f51 h0_52 h0_f53 h1 h1k h1c h0_4 h0_4k h0_4c)) (hS : va_S A s.heap H locs) (hl : lv_has ls 4 [(0, .ref h0)]), G H locs (F0 m 32 ls []) := by
    as_aux_lemma =>
    intro j32b_h0_f10 j32b_h0_f11 j32b_h0_f12 j32b_h0_f14 j32b_h0_f17 g_h0_f10 g_h0_f11 g_h0_f17 g_h0_f26 g_h0_f27 g_h0_f28 g_h0_f29 g_h0_f30 g_h0_f31 g_h0_f34 g_h0_f41 g_h0_f51 g_h0_f53 g_h0_f6 g_h0_f7 g_h0_f8 g_h0_f9 g_j32b_h0_f10 g_j32b_h0_f11 g_j32b_h0_f12 g_j32b_h0_f17 g_p3 hEX H locs ls hP hD hS hl
    refine hG _ _ _ ?_
    refine lv_aload_n hx hb dX12_goThrough_32 rfl (lv_at hl 0 rfl) ?_
    refine va_get (D := (dC, dI)) (ci := 12) (v := .int j32b_h0_f11) (C := RX12) (T := TX12) (N := 54) hx hb hts iw_c_X12_goThrough_X12 hown hK hP 0 rfl rfl 11 (by decide +kernel) (hts (.fieldLink RX12 143 "BuoyVoteModel" "fault" "I") (List.mem_of_getElem? (i := 10) rfl)) (fun _ h9 => h9) rfl dX12_goThrough_33 ?_
    refine lv_iconst (v := (-1)) hx hb dX12_goThrough_36 kc_iconst_m1 ?_
    refine lv_icmp_ne (tgt := 66) hx hb dX12_goThrough_37 rfl (fun c_2 => ?_) (fun c_2 => ?_)
    · replace hEX := hEX.trans (if_neg c_2)
      exact hU _ _ _ (J66b j32b_h0_f10 j32b_h0_f11 j32b_h0_f12 j32b_h0_f14 j32b_h0_f17 g_h0_f10 g_h0_f11 g_h0_f17 g_h0_f26 g_h0_f27 g_h0_f28 g_h0_f29 g_h0_f30 g_h0_f31 g_h0_f34 g_h0_f41 g_h0_f51 g_h0_f53 g_h0_f6 g_h0_f7 g_h0_f8 g_h0_f9 g_j32b_h0_f10 g_j32b_h0_f11 g_j32b_h0_f12 g_j32b_h0_f17 g_p3 hEX _ _ _ hP hD hS (lv_sub hl [0] rfl))
    · replace hEX := hEX.trans (if_pos c_2)
      exact RG_dead (RG_eq1 g_j32b_h0_f11 (RG_k (-1) (-1) rfl) c_2 (a' := 0) (b' := (-1)) (by decide +kernel)) (by decide +kernel)
  have J66 : ∀ (j66_h0_f10 : Int32) (j66_h0_f14 : Int32) (j66_h0_f17 : Int32) (g_h0_f10 : RG h0_f10 0 240) (g_h0_f11 : RG h0_f11 (-1) 240) (g_h0_f17 : RG h0_f17 0 1) (g_h0_f26 : RG h0_f26 0 8) (g_h0_f27 : RG h0_f27 0 3) (g_h0_f28 : RG h0_f28 0 8) (g_h0_f29 : RG h0_f29 0 3) (g_h0_f30 : RG h0_f30 0 4) (g_h0_f31 : RG h0_f31 0 1) (g_h0_f34 : RG h0_f34 (-1) 3) (g_h0_f41 : RG h0_f41 0 40) (g_h0_f51 : RG h0_f51 0 10) (g_h0_f53 : RG h0_f53 0 1) (g_h0_f6 : RG h0_f6 0 240) (g_h0_f7 : RG h0_f7 0 4) (g_h0_f8 : RG h0_f8 0 720) (g_h0_f9 : RG h0_f9 0 240) (g_j66_h0_f10 : RG j66_h0_f10 0 240) (g_j66_h0_f17 : RG j66_h0_f17 0 1) (g_p3 : RG p3 1 240) (hEX : RES = fx_c_X12_goThrough_p66 p3 h1c j66_h0_f10) (H : Heap) (locs : List Loc) (ls : Array Slot) (hP : va_P (dC, dI) vwCl (wd_c_X12_goThrough h0 h0_f0 h0_1 h0_2 h0_3 h0_4 h1 h0_f6 h0_f7 0 p3 j66_h0_f10 (-1) 0 121 j66_h0_f14 h0_15 h0_16 j66_h0_f17 h0_18 h0_19 h0_20 h0_21 h0_22 h0_23 h0_24 h0_25 h0_f26 h0_f27 h0_f28 h0_f29 h0_f30 h0_f31 h0_32 h0_33 h0_f34 h0_35 h0_36 h0_37 h0_38 h0_39 h0_40 h0_f41 h0_f42 h0_f43 h0_f44 h0_45 h0_46 h0_47 h0_48 h0_49 h0_50 h0_f51 h0_52 h0_f53 h1 h1k h1c h0_4 h0_4k h0_4c) H) (hD : va_D A (wd_c_X12_goThrough h0 h0_f0 h0_1 h0_2 h0_3 h0_4 h1 h0_f6 h0_f7 0 p3 j66_h0_f10 (-1) 0 121 j66_h0_f14 h0_15 h0_16 j66_h0_f17 h0_18 h0_19 h0_20 h0_21 h0_22 h0_23 h0_24 h0_25 h0_f26 h0_f27 h0_f28 h0_f29 h0_f30 h0_f31 h0_32 h0_33 h0_f34 h0_35 h0_36 h0_37 h0_38 h0_39 h0_40 h0_f41 h0_f42 h0_f43 h0_f44 h0_45 h0_46 h0_47 h0_48 h0_49 h0_50 h0_f51 h0_52 h0_f53 h1 h1k h1c h0_4 h0_4k h0_4c)) (hS : va_S A s.heap H locs) (hl : lv_has ls 4 [(0, .ref h0)]), G H locs (F0 m 66 ls []) := by
    as_aux_lemma =>
    intro j66_h0_f10 j66_h0_f14 j66_h0_f17 g_h0_f10 g_h0_f11 g_h0_f17 g_h0_f26 g_h0_f27 g_h0_f28 g_h0_f29 g_h0_f30 g_h0_f31 g_h0_f34 g_h0_f41 g_h0_f51 g_h0_f53 g_h0_f6 g_h0_f7 g_h0_f8 g_h0_f9 g_j66_h0_f10 g_j66_h0_f17 g_p3 hEX H locs ls hP hD hS hl
    refine hG _ _ _ ?_
    refine lv_aload_n hx hb dX12_goThrough_66 rfl (lv_at hl 0 rfl) ?_
    refine va_get (D := (dC, dI)) (ci := 12) (v := .int (-1)) (C := RX12) (T := TX12) (N := 54) hx hb hts iw_c_X12_goThrough_X12 hown hK hP 0 rfl rfl 11 (by decide +kernel) (hts (.fieldLink RX12 143 "BuoyVoteModel" "fault" "I") (List.mem_of_getElem? (i := 10) rfl)) (fun _ h9 => h9) rfl dX12_goThrough_67 ?_
    refine lv_iconst (v := (-1)) hx hb dX12_goThrough_70 kc_iconst_m1 ?_
    refine lv_icmp_ne (tgt := 87) hx hb dX12_goThrough_71 rfl (fun c_3 => absurd c_3 (by decide +kernel)) (fun c_3 => ?_)
    refine lv_aload_n hx hb dX12_goThrough_74 rfl (lv_at hl 0 rfl) ?_
    obtain ⟨hPc, hDc, hFc, hqc⟩ := cl_cut (wc := (wd_c_X12_look h0 h0_f0 h0_1 h0_2 h0_3 h0_4 h1 h0_f6 h0_f7 0 p3 j66_h0_f10 (-1) 0 121 j66_h0_f14 h0_15 h0_16 j66_h0_f17 h0_18 h0_19 h0_20 h0_21 h0_22 h0_23 h0_24 h0_25 h0_f26 h0_f27 h0_f28 h0_f29 h0_f30 h0_f31 h0_32 h0_33 h0_f34 h0_35 h0_36 h0_37 h0_38 h0_39 h0_40 h0_f41 h0_f42 h0_f43 h0_f44 h0_45 h0_46 h0_47 h0_48 h0_49 h0_50 h0_f51 h0_52 h0_f53 h1 h1k 240 h1c)) hP hD hS hA [0, 1] (by decide +kernel) rfl
    have hKc := hK.sub (tys' := [(h1k, .byte)]) [0] rfl
    have hrv := va_recv hKc hPc (ci := 12) (q0 := 0) rfl rfl
    refine va_calli (va_runV (As := []) (rest := []) ⟨hx, hb, hml, hown, hts⟩ (c_X12_look l dC dI H.size h0 h0_f0 h0_1 h0_2 h0_3 h0_4 h1 h0_f6 h0_f7 0 p3 j66_h0_f10 0 121 j66_h0_f14 h0_15 h0_16 j66_h0_f17 h0_18 h0_19 h0_20 h0_21 h0_22 h0_23 h0_24 h0_25 h0_f26 h0_f27 h0_f28 h0_f29 h0_f30 h0_f31 h0_32 h0_33 h0_f34 h0_35 h0_36 h0_37 h0_38 h0_39 h0_40 h0_f41 h0_f42 h0_f43 h0_f44 h0_45 h0_46 h0_47 h0_48 h0_49 h0_50 h0_f51 h0_52 h0_f53 h1k h1c 240 g_h0_f6 g_h0_f7 (RG_w (RG_k 0 0 rfl) (by decide +kernel)) (RG_w g_p3 (by decide +kernel)) g_j66_h0_f10 g_j66_h0_f17 g_h0_f26 g_h0_f27 g_h0_f28 g_h0_f29 g_h0_f30 g_h0_f31 g_h0_f34 g_h0_f41 g_h0_f51 g_h0_f53 (by decide +kernel)) (cwV 0 hts gf_c_X12_goThrough_c_X12_look rfl rfl rfl mdV_X12_look ⟨Nat.le_of_ble_eq_true rfl, Nat.le_of_ble_eq_true rfl⟩) ⟨fun a U g mk q => by obtain ⟨q0, q1, qP, qK, qD⟩ := q; exact ⟨q0, q1, qP, va_K.moved (u := U) (U := U.calling g mk a) (Vm.Alike.refl U.vm) qK, qD⟩, hrv, fun U hU hW => ⟨rfl, by rw [hU], by rw [hU]; exact hPc, va_K.moved hW.alike hKc, hDc.weaken (fun _ _ _ _ => trivial)⟩⟩ rfl rfl hl.1 rfl (lv_room (Nat.le_of_ble_eq_true rfl)) dX12_goThrough_75 ⟨Nat.le_of_ble_eq_true rfl, Nat.le_of_ble_eq_true rfl⟩) hS (fun q _ h => hFc q h) hFc (fun r_4 x_5 t H1 locs ht hvm hw hB hz1 hk1 hS => ?_)
    obtain ⟨hP1, hK1, hD1⟩ := hB
    rw [ht] at hP1
    obtain ⟨hP, hD⟩ := cl_put (w1 := (wd_c_X12_look h0 h0_f0 h0_1 h0_2 h0_3 h0_4 h1 h0_f6 h0_f7 0 p3 x_5 (-1) 0 121 j66_h0_f14 h0_15 h0_16 j66_h0_f17 h0_18 h0_19 h0_20 h0_21 h0_22 h0_23 h0_24 h0_25 h0_f26 h0_f27 h0_f28 h0_f29 h0_f30 h0_f31 h0_32 h0_33 h0_f34 h0_35 h0_36 h0_37 h0_38 h0_39 h0_40 h0_f41 h0_f42 h0_f43 h0_f44 h0_45 h0_46 h0_47 h0_48 h0_49 h0_50 h0_f51 h0_52 h0_f53 h1 h1k 240 h1c)) (nw := (wd_c_X12_goThrough h0 h0_f0 h0_1 h0_2 h0_3 h0_4 h1 h0_f6 h0_f7 0 p3 x_5 (-1) 0 121 j66_h0_f14 h0_15 h0_16 j66_h0_f17 h0_18 h0_19 h0_20 h0_21 h0_22 h0_23 h0_24 h0_25 h0_f26 h0_f27 h0_f28 h0_f29 h0_f30 h0_f31 h0_32 h0_33 h0_f34 h0_35 h0_36 h0_37 h0_38 h0_39 h0_40 h0_f41 h0_f42 h0_f43 h0_f44 h0_45 h0_46 h0_47 h0_48 h0_49 h0_50 h0_f51 h0_52 h0_f53 h1 h1k h1c h0_4 h0_4k h0_4c)) hP hD [0, 1] [3, 4, 2] 3 rfl hqc (by decide +kernel) rfl hk1 hFc hP1 hD1
    generalize H1 = H at hP hS ⊢
    as_aux_lemma =>
    rcases hw with ⟨h_6, h_7, h_8, h_9, h_10, h_11⟩ | ⟨h_12, h_13, h_14, h_15, h_16, h_17, h_18⟩
    · have h_11 : (r_4, x_5) = _ := h_11
      replace hEX := hEX.trans (exc2_eq h_11)
      replace hEX := hEX.trans (if_pos (show r_4 = (-1) from h_6))
      rw [h_6]
      refine lv_iconst (v := (-1)) hx hb dX12_goThrough_78 kc_iconst_m1 ?_
      refine lv_icmp_eq (tgt := 87) hx hb dX12_goThrough_79 rfl (fun c_19 => ?_) (fun c_19 => absurd c_19 (by decide +kernel))
      have hK9 := hK.sub (tys' := []) [] rfl
      exact W.vret hx hb hr (fun t ht hW => ⟨⟨(x_5, (-1), 0, j66_h0_f14, j66_h0_f17), rfl, (Or.inl ⟨h_7, rfl, rfl, g_j66_h0_f17, g_p3, (hR.trans hEX).symm⟩), by rw [ht]; exact hP, va_K.moved hW.alike hK9, hD⟩, hS.F ht⟩) hS.2.2 dX12_goThrough_87
    · have h_18 : (r_4, x_5) = _ := h_18
      replace hEX := hEX.trans (exc2_eq h_18)
      replace hEX := hEX.trans (if_neg (RG_neq (x := r_4) (c := (-1)) (show RG r_4 0 255 from h_12) (by decide +kernel)))
      have nb_20 := h_17.2.resolve_left (fun q => by have g9 := h_12; rw [q] at g9; exact absurd g9.1 (by decide +kernel))
      refine lv_iconst (v := (-1)) hx hb dX12_goThrough_78 kc_iconst_m1 ?_
      as_aux_lemma =>
      refine lv_icmp_eq (tgt := 87) hx hb dX12_goThrough_79 rfl (fun c_21 => ?_) (fun c_21 => ?_)
      · replace hEX := hEX.trans (if_pos c_21)
        exact RG_dead (RG_eq1 h_12 (RG_k (-1) (-1) rfl) c_21 (a' := 0) (b' := (-1)) (by decide +kernel)) (by decide +kernel)
      · replace hEX := hEX.trans (if_neg c_21)
        refine lv_aload_n hx hb dX12_goThrough_82 rfl (lv_at hl 0 rfl) ?_
        obtain ⟨hPc, hDc, hFc, hqc⟩ := cl_cut (wc := (wd_c_X12_fails h0 h0_f0 h0_1 h0_2 h0_3 h0_4 h1 h0_f6 h0_f7 0 p3 x_5 (-1) 0 121 j66_h0_f14 h0_15 h0_16 j66_h0_f17 h0_18 h0_19 h0_20 h0_21 h0_22 h0_23 h0_24 h0_25 h0_f26 h0_f27 h0_f28 h0_f29 h0_f30 h0_f31 h0_32 h0_33 h0_f34 h0_35 h0_36 h0_37 h0_38 h0_39 h0_40 h0_f41 h0_f42 h0_f43 h0_f44 h0_45 h0_46 h0_47 h0_48 h0_49 h0_50 h0_f51 h0_52 h0_f53)) hP hD hS hA [0] (by decide +kernel) rfl
        have hKc := hK.sub (tys' := []) [] rfl
        have hrv := va_recv hKc hPc (ci := 12) (q0 := 0) rfl rfl
        refine va_calli (va_runV (As := []) (rest := []) ⟨hx, hb, hml, hown, hts⟩ (c_X12_fails l dC dI H.size h0 h0_f0 h0_1 h0_2 h0_3 h0_4 h1 h0_f6 h0_f7 0 p3 x_5 0 121 j66_h0_f14 h0_15 h0_16 j66_h0_f17 h0_18 h0_19 h0_20 h0_21 h0_22 h0_23 h0_24 h0_25 h0_f26 h0_f27 h0_f28 h0_f29 h0_f30 h0_f31 h0_32 h0_33 h0_f34 h0_35 h0_36 h0_37 h0_38 h0_39 h0_40 h0_f41 h0_f42 h0_f43 h0_f44 h0_45 h0_46 h0_47 h0_48 h0_49 h0_50 h0_f51 h0_52 h0_f53 g_h0_f6 g_h0_f7 (RG_w (RG_k 0 0 rfl) (by decide +kernel)) (RG_w g_p3 (by decide +kernel)) (RG_w h_13 (by decide +kernel)) g_j66_h0_f17 g_h0_f26 g_h0_f27 g_h0_f28 g_h0_f29 g_h0_f30 g_h0_f31 g_h0_f34 g_h0_f41 g_h0_f51 g_h0_f53) (cwV 0 hts gf_c_X12_goThrough_c_X12_fails rfl rfl rfl mdV_X12_fails ⟨Nat.le_of_ble_eq_true rfl, Nat.le_of_ble_eq_true rfl⟩) ⟨fun a U g mk q => by obtain ⟨q0, q1, qP, qK, qD⟩ := q; exact ⟨q0, q1, qP, va_K.moved (u := U) (U := U.calling g mk a) (Vm.Alike.refl U.vm) qK, qD⟩, hrv, fun U hU hW => ⟨rfl, by rw [hU], by rw [hU]; exact hPc, va_K.moved hW.alike hKc, hDc.weaken (fun _ _ _ _ => trivial)⟩⟩ rfl rfl hl.1 rfl (lv_room (Nat.le_of_ble_eq_true rfl)) dX12_goThrough_83 ⟨Nat.le_of_ble_eq_true rfl, Nat.le_of_ble_eq_true rfl⟩) hS (fun q _ h => hFc q h) hFc (fun r_22 u t H1 locs ht hvm hw hB hz1 hk1 hS => ?_)
        obtain ⟨hP1, hK1, hD1⟩ := hB
        rw [ht] at hP1
        obtain ⟨hP, hD⟩ := cl_put (w1 := (wd_c_X12_fails h0 h0_f0 h0_1 h0_2 h0_3 h0_4 h1 h0_f6 h0_f7 0 p3 x_5 x_5 0 121 j66_h0_f14 h0_15 h0_16 j66_h0_f17 h0_18 h0_19 h0_20 h0_21 h0_22 h0_23 h0_24 h0_25 h0_f26 h0_f27 h0_f28 h0_f29 h0_f30 h0_f31 h0_32 h0_33 h0_f34 h0_35 h0_36 h0_37 h0_38 h0_39 h0_40 h0_f41 h0_f42 h0_f43 h0_f44 h0_45 h0_46 h0_47 h0_48 h0_49 h0_50 h0_f51 h0_52 h0_f53)) (nw := (wd_c_X12_goThrough h0 h0_f0 h0_1 h0_2 h0_3 h0_4 h1 h0_f6 h0_f7 0 p3 x_5 x_5 0 121 j66_h0_f14 h0_15 h0_16 j66_h0_f17 h0_18 h0_19 h0_20 h0_21 h0_22 h0_23 h0_24 h0_25 h0_f26 h0_f27 h0_f28 h0_f29 h0_f30 h0_f31 h0_32 h0_33 h0_f34 h0_35 h0_36 h0_37 h0_38 h0_39 h0_40 h0_f41 h0_f42 h0_f43 h0_f44 h0_45 h0_46 h0_47 h0_48 h0_49 h0_50 h0_f51 h0_52 h0_f53 h1 h1k h1c h0_4 h0_4k h0_4c)) hP hD [0] [3, 1, 2] 3 rfl hqc (by decide +kernel) rfl hk1 hFc hP1 hD1
        generalize H1 = H at hP hS ⊢
        as_aux_lemma =>
        rcases hw with ⟨h_23, h_24⟩
        have h_24 : r_22 = _ := h_24
        replace hEX := hEX.trans (exc1_eq h_24)
        rw [h_23]
        refine lv_pop hx hb dX12_goThrough_86 rfl ?_
        have hK9 := hK.sub (tys' := []) [] rfl
        exact W.vret hx hb hr (fun t ht hW => ⟨⟨(x_5, x_5, 0, j66_h0_f14, j66_h0_f17), rfl, (Or.inr ⟨(RG_w h_13 (by decide +kernel)), (RG_w h_13 (by decide +kernel)), (RG_w (RG_k 0 0 rfl) (by decide +kernel)), g_j66_h0_f17, (hR.trans hEX).symm⟩), by rw [ht]; exact hP, va_K.moved hW.alike hK9, hD⟩, hS.F ht⟩) hS.2.2 dX12_goThrough_87
  have J32 : ∀ (n32 : Nat) (j32_h0_f10 : Int32) (j32_h0_f14 : Int32) (j32_h0_f17 : Int32) (hM32 : MU j32_h0_f10 < n32) (g_h0_f10 : RG h0_f10 0 240) (g_h0_f11 : RG h0_f11 (-1) 240) (g_h0_f17 : RG h0_f17 0 1) (g_h0_f26 : RG h0_f26 0 8) (g_h0_f27 : RG h0_f27 0 3) (g_h0_f28 : RG h0_f28 0 8) (g_h0_f29 : RG h0_f29 0 3) (g_h0_f30 : RG h0_f30 0 4) (g_h0_f31 : RG h0_f31 0 1) (g_h0_f34 : RG h0_f34 (-1) 3) (g_h0_f41 : RG h0_f41 0 40) (g_h0_f51 : RG h0_f51 0 10) (g_h0_f53 : RG h0_f53 0 1) (g_h0_f6 : RG h0_f6 0 240) (g_h0_f7 : RG h0_f7 0 4) (g_h0_f8 : RG h0_f8 0 720) (g_h0_f9 : RG h0_f9 0 240) (g_j32_h0_f10 : RG j32_h0_f10 0 240) (g_j32_h0_f17 : RG j32_h0_f17 0 1) (g_p3 : RG p3 1 240) (hEX : RES = fx_c_X12_goThrough_p32 p3 h1c h0_4c n32 j32_h0_f10 j32_h0_f14 j32_h0_f17) (H : Heap) (locs : List Loc) (ls : Array Slot) (hP : va_P (dC, dI) vwCl (wd_c_X12_goThrough h0 h0_f0 h0_1 h0_2 h0_3 h0_4 h1 h0_f6 h0_f7 0 p3 j32_h0_f10 (-1) 0 121 j32_h0_f14 h0_15 h0_16 j32_h0_f17 h0_18 h0_19 h0_20 h0_21 h0_22 h0_23 h0_24 h0_25 h0_f26 h0_f27 h0_f28 h0_f29 h0_f30 h0_f31 h0_32 h0_33 h0_f34 h0_35 h0_36 h0_37 h0_38 h0_39 h0_40 h0_f41 h0_f42 h0_f43 h0_f44 h0_45 h0_46 h0_47 h0_48 h0_49 h0_50 h0_f51 h0_52 h0_f53 h1 h1k h1c h0_4 h0_4k h0_4c) H) (hD : va_D A (wd_c_X12_goThrough h0 h0_f0 h0_1 h0_2 h0_3 h0_4 h1 h0_f6 h0_f7 0 p3 j32_h0_f10 (-1) 0 121 j32_h0_f14 h0_15 h0_16 j32_h0_f17 h0_18 h0_19 h0_20 h0_21 h0_22 h0_23 h0_24 h0_25 h0_f26 h0_f27 h0_f28 h0_f29 h0_f30 h0_f31 h0_32 h0_33 h0_f34 h0_35 h0_36 h0_37 h0_38 h0_39 h0_40 h0_f41 h0_f42 h0_f43 h0_f44 h0_45 h0_46 h0_47 h0_48 h0_49 h0_50 h0_f51 h0_52 h0_f53 h1 h1k h1c h0_4 h0_4k h0_4c)) (hS : va_S A s.heap H locs) (hl : lv_has ls 4 [(0, .ref h0)]), G H locs (F0 m 32 ls []) := by
    as_aux_lemma =>
    intro n32
    induction n32 with
    | zero => intros; exact absurd (by assumption) (Nat.not_lt_zero _)
    | succ n32 ih32 =>
      intro j32_h0_f10 j32_h0_f14 j32_h0_f17 hM32 g_h0_f10 g_h0_f11 g_h0_f17 g_h0_f26 g_h0_f27 g_h0_f28 g_h0_f29 g_h0_f30 g_h0_f31 g_h0_f34 g_h0_f41 g_h0_f51 g_h0_f53 g_h0_f6 g_h0_f7 g_h0_f8 g_h0_f9 g_j32_h0_f10 g_j32_h0_f17 g_p3 hEX H locs ls hP hD hS hl
      refine hG _ _ _ ?_
      replace hEX := hEX.trans (if_pos (rfl : j32_h0_f10 = j32_h0_f10))
      refine lv_aload_n hx hb dX12_goThrough_32 rfl (lv_at hl 0 rfl) ?_
      refine va_get (D := (dC, dI)) (ci := 12) (v := .int (-1)) (C := RX12) (T := TX12) (N := 54) hx hb hts iw_c_X12_goThrough_X12 hown hK hP 0 rfl rfl 11 (by decide +kernel) (hts (.fieldLink RX12 143 "BuoyVoteModel" "fault" "I") (List.mem_of_getElem? (i := 10) rfl)) (fun _ h9 => h9) rfl dX12_goThrough_33 ?_
      refine lv_iconst (v := (-1)) hx hb dX12_goThrough_36 kc_iconst_m1 ?_
      refine lv_icmp_ne (tgt := 66) hx hb dX12_goThrough_37 rfl (fun c_25 => absurd c_25 (by decide +kernel)) (fun c_25 => ?_)
      refine lv_aload_n hx hb dX12_goThrough_40 rfl (lv_at hl 0 rfl) ?_
      obtain ⟨hPc, hDc, hFc, hqc⟩ := cl_cut (wc := (wd_c_X12_look h0 h0_f0 h0_1 h0_2 h0_3 h0_4 h1 h0_f6 h0_f7 0 p3 j32_h0_f10 (-1) 0 121 j32_h0_f14 h0_15 h0_16 j32_h0_f17 h0_18 h0_19 h0_20 h0_21 h0_22 h0_23 h0_24 h0_25 h0_f26 h0_f27 h0_f28 h0_f29 h0_f30 h0_f31 h0_32 h0_33 h0_f34 h0_35 h0_36 h0_37 h0_38 h0_39 h0_40 h0_f41 h0_f42 h0_f43 h0_f44 h0_45 h0_46 h0_47 h0_48 h0_49 h0_50 h0_f51 h0_52 h0_f53 h1 h1k 240 h1c)) hP hD hS hA [0, 1] (by decide +kernel) rfl
      have hKc := hK.sub (tys' := [(h1k, .byte)]) [0] rfl
      have hrv := va_recv hKc hPc (ci := 12) (q0 := 0) rfl rfl
      refine va_calli (va_runV (As := []) (rest := []) ⟨hx, hb, hml, hown, hts⟩ (c_X12_look l dC dI H.size h0 h0_f0 h0_1 h0_2 h0_3 h0_4 h1 h0_f6 h0_f7 0 p3 j32_h0_f10 0 121 j32_h0_f14 h0_15 h0_16 j32_h0_f17 h0_18 h0_19 h0_20 h0_21 h0_22 h0_23 h0_24 h0_25 h0_f26 h0_f27 h0_f28 h0_f29 h0_f30 h0_f31 h0_32 h0_33 h0_f34 h0_35 h0_36 h0_37 h0_38 h0_39 h0_40 h0_f41 h0_f42 h0_f43 h0_f44 h0_45 h0_46 h0_47 h0_48 h0_49 h0_50 h0_f51 h0_52 h0_f53 h1k h1c 240 g_h0_f6 g_h0_f7 (RG_w (RG_k 0 0 rfl) (by decide +kernel)) (RG_w g_p3 (by decide +kernel)) g_j32_h0_f10 g_j32_h0_f17 g_h0_f26 g_h0_f27 g_h0_f28 g_h0_f29 g_h0_f30 g_h0_f31 g_h0_f34 g_h0_f41 g_h0_f51 g_h0_f53 (by decide +kernel)) (cwV 0 hts gf_c_X12_goThrough_c_X12_look rfl rfl rfl mdV_X12_look ⟨Nat.le_of_ble_eq_true rfl, Nat.le_of_ble_eq_true rfl⟩) ⟨fun a U g mk q => by obtain ⟨q0, q1, qP, qK, qD⟩ := q; exact ⟨q0, q1, qP, va_K.moved (u := U) (U := U.calling g mk a) (Vm.Alike.refl U.vm) qK, qD⟩, hrv, fun U hU hW => ⟨rfl, by rw [hU], by rw [hU]; exact hPc, va_K.moved hW.alike hKc, hDc.weaken (fun _ _ _ _ => trivial)⟩⟩ rfl rfl hl.1 rfl (lv_room (Nat.le_of_ble_eq_true rfl)) dX12_goThrough_41 ⟨Nat.le_of_ble_eq_true rfl, Nat.le_of_ble_eq_true rfl⟩) hS (fun q _ h => hFc q h) hFc (fun r_26 x_27 t H1 locs ht hvm hw hB hz1 hk1 hS => ?_)
      as_aux_lemma =>
      obtain ⟨hP1, hK1, hD1⟩ := hB
      rw [ht] at hP1
      obtain ⟨hP, hD⟩ := cl_put (w1 := (wd_c_X12_look h0 h0_f0 h0_1 h0_2 h0_3 h0_4 h1 h0_f6 h0_f7 0 p3 x_27 (-1) 0 121 j32_h0_f14 h0_15 h0_16 j32_h0_f17 h0_18 h0_19 h0_20 h0_21 h0_22 h0_23 h0_24 h0_25 h0_f26 h0_f27 h0_f28 h0_f29 h0_f30 h0_f31 h0_32 h0_33 h0_f34 h0_35 h0_36 h0_37 h0_38 h0_39 h0_40 h0_f41 h0_f42 h0_f43 h0_f44 h0_45 h0_46 h0_47 h0_48 h0_49 h0_50 h0_f51 h0_52 h0_f53 h1 h1k 240 h1c)) (nw := (wd_c_X12_goThrough h0 h0_f0 h0_1 h0_2 h0_3 h0_4 h1 h0_f6 h0_f7 0 p3 x_27 (-1) 0 121 j32_h0_f14 h0_15 h0_16 j32_h0_f17 h0_18 h0_19 h0_20 h0_21 h0_22 h0_23 h0_24 h0_25 h0_f26 h0_f27 h0_f28 h0_f29 h0_f30 h0_f31 h0_32 h0_33 h0_f34 h0_35 h0_36 h0_37 h0_38 h0_39 h0_40 h0_f41 h0_f42 h0_f43 h0_f44 h0_45 h0_46 h0_47 h0_48 h0_49 h0_50 h0_f51 h0_52 h0_f53 h1 h1k h1c h0_4 h0_4k h0_4c)) hP hD [0, 1] [3, 4, 2] 3 rfl hqc (by decide +kernel) rfl hk1 hFc hP1 hD1
      generalize H1 = H at hP hS ⊢
      as_aux_lemma =>
      rcases hw with ⟨h_28, h_29, h_30, h_31, h_32, h_33⟩ | ⟨h_34, h_35, h_36, h_37, h_38, h_39, h_40⟩
      · have h_33 : (r_26, x_27) = _ := h_33
        replace hEX := hEX.trans (exc2_eq h_33)
        replace hEX := hEX.trans (if_pos (show r_26 = (-1) from h_28))
        rw [h_28]
        refine lv_bipush (v := 59) hx hb dX12_goThrough_44 kc_bipush_59 ?_
        refine lv_icmp_ne (tgt := 66) hx hb dX12_goThrough_46 rfl (fun c_41 => ?_) (fun c_41 => absurd c_41 (by decide +kernel))
        exact hU _ _ _ (J66 x_27 j32_h0_f14 j32_h0_f17 g_h0_f10 g_h0_f11 g_h0_f17 g_h0_f26 g_h0_f27 g_h0_f28 g_h0_f29 g_h0_f30 g_h0_f31 g_h0_f34 g_h0_f41 g_h0_f51 g_h0_f53 g_h0_f6 g_h0_f7 g_h0_f8 g_h0_f9 h_29 g_j32_h0_f17 g_p3 hEX _ _ _ hP hD hS (lv_sub hl [0] rfl))
      · have h_40 : (r_26, x_27) = _ := h_40
        replace hEX := hEX.trans (exc2_eq h_40)
        replace hEX := hEX.trans (if_neg (RG_neq (x := r_26) (c := (-1)) (show RG r_26 0 255 from h_34) (by decide +kernel)))
        have nb_42 := h_39.2.resolve_left (fun q => by have g9 := h_34; rw [q] at g9; exact absurd g9.1 (by decide +kernel))
        refine lv_bipush (v := 59) hx hb dX12_goThrough_44 kc_bipush_59 ?_
        refine lv_icmp_ne (tgt := 66) hx hb dX12_goThrough_46 rfl (fun c_43 => ?_) (fun c_43 => ?_)
        · replace hEX := hEX.trans (if_neg c_43)
          exact hU _ _ _ (J66 x_27 j32_h0_f14 j32_h0_f17 g_h0_f10 g_h0_f11 g_h0_f17 g_h0_f26 g_h0_f27 g_h0_f28 g_h0_f29 g_h0_f30 g_h0_f31 g_h0_f34 g_h0_f41 g_h0_f51 g_h0_f53 g_h0_f6 g_h0_f7 g_h0_f8 g_h0_f9 (RG_w h_35 (by decide +kernel)) g_j32_h0_f17 g_p3 hEX _ _ _ hP hD hS (lv_sub hl [0] rfl))
        · replace hEX := hEX.trans (if_pos c_43)
          have g_44 : RG r_26 59 59 := RG_eq1 h_34 (RG_k 59 59 rfl) c_43 (by decide +kernel)
          refine lv_aload_n hx hb dX12_goThrough_49 rfl (lv_at hl 0 rfl) ?_
          as_aux_lemma =>
          refine lv_dup hx hb dX12_goThrough_50 rfl ?_
          refine va_get (D := (dC, dI)) (ci := 12) (v := .int x_27) (C := RX12) (T := TX12) (N := 54) hx hb hts iw_c_X12_goThrough_X12 hown hK hP 0 rfl rfl 10 (by decide +kernel) (hts (.fieldLink RX12 134 "BuoyVoteModel" "at" "I") (List.mem_of_getElem? (i := 9) rfl)) (fun _ h9 => h9) rfl dX12_goThrough_51 ?_
          refine lv_iconst (v := 1) hx hb dX12_goThrough_54 kc_iconst_1 ?_
          refine lv_iadd hx hb dX12_goThrough_55 ?_
          refine lv_topi (fun x_45 ex_45 => ?_)
          replace hEX := hEX.trans (exl_eq ex_45)
          have g_46 : RG x_45 1 240 := RG_add ex_45 h_35 (RG_k 1 1 rfl) (by decide +kernel)
          have q_47 : x_45.toInt = x_27.toInt + 1 := eq_add ex_45 h_35 (q := 1) rfl (by decide +kernel)
          refine va_put (D := (dC, dI)) (ci := 12) (v := .int x_45) (ty := .int) (C := RX12) (T := TX12) (N := 54) hx hb hts iw_c_X12_goThrough_X12 tyX12 tyX12_ok nmX12 hown hK hP hD hS 0 rfl rfl 10 (by decide +kernel) (hts (.fieldLink RX12 134 "BuoyVoteModel" "at" "I") (List.mem_of_getElem? (i := 9) rfl)) (fun _ h9 => h9) rfl (by decide +kernel) rfl rfl (Nat.le_of_ble_eq_true rfl) dX12_goThrough_56 (fun H locs hP hD hS => ?_)
          have hP : va_P (dC, dI) vwCl (wd_c_X12_goThrough h0 h0_f0 h0_1 h0_2 h0_3 h0_4 h1 h0_f6 h0_f7 0 p3 x_45 (-1) 0 121 j32_h0_f14 h0_15 h0_16 j32_h0_f17 h0_18 h0_19 h0_20 h0_21 h0_22 h0_23 h0_24 h0_25 h0_f26 h0_f27 h0_f28 h0_f29 h0_f30 h0_f31 h0_32 h0_33 h0_f34 h0_35 h0_36 h0_37 h0_38 h0_39 h0_40 h0_f41 h0_f42 h0_f43 h0_f44 h0_45 h0_46 h0_47 h0_48 h0_49 h0_50 h0_f51 h0_52 h0_f53 h1 h1k h1c h0_4 h0_4k h0_4c) H := hP
          have hD : va_D A (wd_c_X12_goThrough h0 h0_f0 h0_1 h0_2 h0_3 h0_4 h1 h0_f6 h0_f7 0 p3 x_45 (-1) 0 121 j32_h0_f14 h0_15 h0_16 j32_h0_f17 h0_18 h0_19 h0_20 h0_21 h0_22 h0_23 h0_24 h0_25 h0_f26 h0_f27 h0_f28 h0_f29 h0_f30 h0_f31 h0_32 h0_33 h0_f34 h0_35 h0_36 h0_37 h0_38 h0_39 h0_40 h0_f41 h0_f42 h0_f43 h0_f44 h0_45 h0_46 h0_47 h0_48 h0_49 h0_50 h0_f51 h0_52 h0_f53 h1 h1k h1c h0_4 h0_4k h0_4c) := hD
          refine lv_aload_n hx hb dX12_goThrough_59 rfl (lv_at hl 0 rfl) ?_
          obtain ⟨hPc, hDc, hFc, hqc⟩ := cl_cut (wc := (wd_c_X12_clause h0 h0_f0 h0_1 h0_2 h0_3 h0_4 h1 h0_f6 h0_f7 0 p3 x_45 (-1) 0 121 j32_h0_f14 h0_15 h0_16 j32_h0_f17 h0_18 h0_19 h0_20 h0_21 h0_22 h0_23 h0_24 h0_25 h0_f26 h0_f27 h0_f28 h0_f29 h0_f30 h0_f31 h0_32 h0_33 h0_f34 h0_35 h0_36 h0_37 h0_38 h0_39 h0_40 h0_f41 h0_f42 h0_f43 h0_f44 h0_45 h0_46 h0_47 h0_48 h0_49 h0_50 h0_f51 h0_52 h0_f53 h1 h1k 240 h1c h0_4 h0_4k h0_4c)) hP hD hS hA [0, 1, 2] (by decide +kernel) rfl
          have hKc := hK.sub (tys' := [(h1k, .byte), (h0_4k, .int)]) [0, 1] rfl
          have hrv := va_recv hKc hPc (ci := 12) (q0 := 0) rfl rfl
          refine va_callv (va_runV (As := []) (rest := []) ⟨hx, hb, hml, hown, hts⟩ (c_X12_clause l dC dI H.size h0 h0_f0 h0_1 h0_2 h0_3 h0_4 h1 h0_f6 h0_f7 0 p3 x_45 121 j32_h0_f14 h0_15 h0_16 j32_h0_f17 h0_18 h0_19 h0_20 h0_21 h0_22 h0_23 h0_24 h0_25 h0_f26 h0_f27 h0_f28 h0_f29 h0_f30 h0_f31 h0_32 h0_33 h0_f34 h0_35 h0_36 h0_37 h0_38 h0_39 h0_40 h0_f41 h0_f42 h0_f43 h0_f44 h0_45 h0_46 h0_47 h0_48 h0_49 h0_50 h0_f51 h0_52 h0_f53 h1k h1c 240 h0_4k h0_4c ts6 tv6 ts7 tv7 g_h0_f6 g_h0_f7 (RG_w (RG_k 0 0 rfl) (by decide +kernel)) (RG_w g_p3 (by decide +kernel)) (RG_w g_46 (by decide +kernel)) g_j32_h0_f17 g_h0_f26 g_h0_f27 g_h0_f28 g_h0_f29 g_h0_f30 g_h0_f31 g_h0_f34 g_h0_f41 g_h0_f51 g_h0_f53 (by decide +kernel) a_h0_4c) (cwV 0 hts gf_c_X12_goThrough_c_X12_clause rfl rfl rfl mdV_X12_clause ⟨Nat.le_of_ble_eq_true rfl, Nat.le_of_ble_eq_true rfl⟩) ⟨fun a U g mk q => by obtain ⟨q0, q1, qP, qK, qD, qE0, qE1, qE2, qE3, qE4, qE5, qE6, qE7, qE8, qE9, qE10, qE11⟩ := q; exact ⟨q0, q1, qP, va_K.moved (u := U) (U := U.calling g mk a) (Vm.Alike.refl U.vm) qK, qD, vk_R.same rfl qE0, va_OF.moved (u := U) (U := U.calling g mk a) (Vm.Alike.refl U.vm) qE1, va_T.moved (u := U) (U := U.calling g mk a) (Vm.Alike.refl U.vm) qE2, va_Z.moved (u := U) (U := U.calling g mk a) (Vm.Alike.refl U.vm) qE3, va_OF.moved (u := U) (U := U.calling g mk a) (Vm.Alike.refl U.vm) qE4, va_O.moved (u := U) (U := U.calling g mk a) (Vm.Alike.refl U.vm) qE5, va_Zq.moved (u := U) (U := U.calling g mk a) (Vm.Alike.refl U.vm) qE6, vk_R.same rfl qE7, va_OF.moved (u := U) (U := U.calling g mk a) (Vm.Alike.refl U.vm) qE8, va_T.moved (u := U) (U := U.calling g mk a) (Vm.Alike.refl U.vm) qE9, va_OF.moved (u := U) (U := U.calling g mk a) (Vm.Alike.refl U.vm) qE10, va_O.moved (u := U) (U := U.calling g mk a) (Vm.Alike.refl U.vm) qE11⟩, hrv, fun U hU hW => ⟨rfl, by rw [hU], by rw [hU]; exact hPc, va_K.moved hW.alike hKc, hDc.weaken (fun _ _ _ _ => trivial), vk_R.warm hW hE_42, va_OF.moved hW.alike (by rw [hU]; exact (hE_45.kept hS.2.1).narrow hFc), va_T.moved hW.alike (by rw [hU]; exact (hE_46.kept hS.2.1).narrow hFc), va_Z.moved hW.alike (by rw [hU]; exact (hE_10.kept hS.2.1).narrow hFc), va_OF.moved hW.alike (by rw [hU]; exact (hE_44.kept hS.2.1).narrow hFc), va_O.moved hW.alike (by rw [hU]; exact (hE_43.kept hS.2.1).narrow hFc), va_Zq.moved hW.alike (by rw [hU]; exact (hE_11.kept hS.2.1).narrow hFc), vk_R.warm hW hE_47, va_OF.moved hW.alike (by rw [hU]; exact (hE_50.kept hS.2.1).narrow hFc), va_T.moved hW.alike (by rw [hU]; exact (hE_51.kept hS.2.1).narrow hFc), va_OF.moved hW.alike (by rw [hU]; exact (hE_49.kept hS.2.1).narrow hFc), va_O.moved hW.alike (by rw [hU]; exact (hE_48.kept hS.2.1).narrow hFc)⟩⟩ rfl rfl hl.1 rfl (lv_room (Nat.le_of_ble_eq_true rfl)) dX12_goThrough_60 ⟨Nat.le_of_ble_eq_true rfl, Nat.le_of_ble_eq_true rfl⟩) hS (fun q _ h => hFc q h) hFc (fun u t H1 locs ht hvm hw hB hz1 hk1 hS => ?_)
          as_aux_lemma =>
          obtain ⟨x_49, x_50, x_51, x_52, x_53⟩ := u
          obtain ⟨hP1, hK1, hD1⟩ := hB
          rw [ht] at hP1
          obtain ⟨hP, hD⟩ := cl_put (w1 := (wd_c_X12_clause h0 h0_f0 h0_1 h0_2 h0_3 h0_4 h1 h0_f6 h0_f7 0 p3 x_49 x_50 x_51 121 x_52 h0_15 h0_16 x_53 h0_18 h0_19 h0_20 h0_21 h0_22 h0_23 h0_24 h0_25 h0_f26 h0_f27 h0_f28 h0_f29 h0_f30 h0_f31 h0_32 h0_33 h0_f34 h0_35 h0_36 h0_37 h0_38 h0_39 h0_40 h0_f41 h0_f42 h0_f43 h0_f44 h0_45 h0_46 h0_47 h0_48 h0_49 h0_50 h0_f51 h0_52 h0_f53 h1 h1k 240 h1c h0_4 h0_4k h0_4c)) (nw := (wd_c_X12_goThrough h0 h0_f0 h0_1 h0_2 h0_3 h0_4 h1 h0_f6 h0_f7 0 p3 x_49 x_50 x_51 121 x_52 h0_15 h0_16 x_53 h0_18 h0_19 h0_20 h0_21 h0_22 h0_23 h0_24 h0_25 h0_f26 h0_f27 h0_f28 h0_f29 h0_f30 h0_f31 h0_32 h0_33 h0_f34 h0_35 h0_36 h0_37 h0_38 h0_39 h0_40 h0_f41 h0_f42 h0_f43 h0_f44 h0_45 h0_46 h0_47 h0_48 h0_49 h0_50 h0_f51 h0_52 h0_f53 h1 h1k h1c h0_4 h0_4k h0_4c)) hP hD [0, 1, 2] [3, 4, 5] 3 rfl hqc (by decide +kernel) rfl hk1 hFc hP1 hD1
          generalize H1 = H at hP hS ⊢
          as_aux_lemma =>
          rcases hw with ⟨h_54, h_55, h_56, h_57, h_58, h_59, h_60⟩ | ⟨h_61, h_62, h_63, h_64, h_65, h_66⟩
          · have h_60 : (x_49, x_50, x_51, x_52, x_53) = _ := h_60
            replace hEX := hEX.trans (exc5_eq h_60)
            replace hEX := hEX.trans (if_pos (show x_50 = (-1) from h_55))
            subst h_55
            subst h_56
            have h_59 : x_45.toInt + 1 ≤ x_49.toInt := h_59
            refine lv_goto (tgt := 32) hx hb dX12_goThrough_63 rfl ?_
            exact hU _ _ _ (ih32 x_49 x_52 x_53 (mu_s (MU_lt (by have := h_37; have := q_47; have := h_59; omega)) hM32) g_h0_f10 g_h0_f11 g_h0_f17 g_h0_f26 g_h0_f27 g_h0_f28 g_h0_f29 g_h0_f30 g_h0_f31 g_h0_f34 g_h0_f41 g_h0_f51 g_h0_f53 g_h0_f6 g_h0_f7 g_h0_f8 g_h0_f9 h_54 h_57 g_p3 hEX _ _ _ hP hD hS (lv_sub hl [0] rfl))
          · have h_66 : (x_49, x_50, x_51, x_52, x_53) = _ := h_66
            replace hEX := hEX.trans (exc5_eq h_66)
            replace hEX := hEX.trans (if_neg (RG_neq (x := x_50) (c := (-1)) (show RG x_50 0 240 from h_62) (by decide +kernel)))
            have h_65 : x_45.toInt + 0 ≤ x_49.toInt := h_65
            refine lv_goto (tgt := 32) hx hb dX12_goThrough_63 rfl ?_
            as_aux_lemma =>
            exact hU _ _ _ (J32b x_49 x_50 x_51 x_52 x_53 g_h0_f10 g_h0_f11 g_h0_f17 g_h0_f26 g_h0_f27 g_h0_f28 g_h0_f29 g_h0_f30 g_h0_f31 g_h0_f34 g_h0_f41 g_h0_f51 g_h0_f53 g_h0_f6 g_h0_f7 g_h0_f8 g_h0_f9 h_61 h_62 h_63 h_64 (RG_w g_p3 (by decide +kernel)) hEX _ _ _ hP hD hS (lv_sub hl [0] rfl))
  refine hG _ _ _ ?_
  refine lv_aload_n hx hb dX12_goThrough_0 rfl (lv_at hl 0 rfl) ?_
  refine lv_aload_n hx hb dX12_goThrough_1 rfl (lv_at hl 1 rfl) ?_
  refine lv_iload_n hx hb dX12_goThrough_2 rfl (lv_at hl 2 rfl) ?_
  refine lv_iload_n hx hb dX12_goThrough_3 rfl (lv_at hl 3 rfl) ?_
  obtain ⟨hPc, hDc, hFc, hqc⟩ := cl_cut (wc := (wd_c_X12_starts h0 h0_f0 h0_1 h0_2 h0_3 h0_4 h0_5 h0_f6 h0_f7 h0_f8 h0_f9 h0_f10 h0_f11 h0_f12 h0_f13 h0_f14 h0_15 h0_16 h0_f17 h0_18 h0_19 h0_20 h0_21 h0_22 h0_23 h0_24 h0_25 h0_f26 h0_f27 h0_f28 h0_f29 h0_f30 h0_f31 h0_32 h0_33 h0_f34 h0_35 h0_36 h0_37 h0_38 h0_39 h0_40 h0_f41 h0_f42 h0_f43 h0_f44 h0_45 h0_46 h0_47 h0_48 h0_49 h0_50 h0_f51 h0_52 h0_f53)) hP hD hS hA [0] (by decide +kernel) rfl
  have hKc := hK.sub (tys' := []) [] rfl
  have hrv := va_recv hKc hPc (ci := 12) (q0 := 0) rfl rfl
  refine va_callv (va_runV (As := [.ref h1, .int 0, .int p3]) (rest := []) ⟨hx, hb, hml, hown, hts⟩ (c_X12_starts l dC dI H.size h0 h1 p3 h0_f0 h0_1 h0_2 h0_3 h0_4 h0_5 h0_f6 h0_f7 h0_f8 h0_f9 h0_f10 h0_f11 h0_f12 h0_f13 h0_f14 h0_15 h0_16 h0_f17 h0_18 h0_19 h0_20 h0_21 h0_22 h0_23 h0_24 h0_25 h0_f26 h0_f27 h0_f28 h0_f29 h0_f30 h0_f31 h0_32 h0_33 h0_f34 h0_35 h0_36 h0_37 h0_38 h0_39 h0_40 h0_f41 h0_f42 h0_f43 h0_f44 h0_45 h0_46 h0_47 h0_48 h0_49 h0_50 h0_f51 h0_52 h0_f53 g_p3 g_h0_f6 g_h0_f7 g_h0_f8 g_h0_f9 g_h0_f10 g_h0_f11 g_h0_f17 g_h0_f26 g_h0_f27 g_h0_f28 g_h0_f29 g_h0_f30 g_h0_f31 g_h0_f34 g_h0_f41 g_h0_f51 g_h0_f53) (cwV 3 hts gf_c_X12_goThrough_c_X12_starts rfl rfl rfl mdV_X12_starts ⟨Nat.le_of_ble_eq_true rfl, Nat.le_of_ble_eq_true rfl⟩) ⟨fun a U g mk q => by obtain ⟨q0, q1, qP, qK, qD⟩ := q; exact ⟨q0, q1, qP, va_K.moved (u := U) (U := U.calling g mk a) (Vm.Alike.refl U.vm) qK, qD⟩, hrv, fun U hU hW => ⟨rfl, by rw [hU], by rw [hU]; exact hPc, va_K.moved hW.alike hKc, hDc.weaken (fun _ _ _ _ => trivial)⟩⟩ rfl rfl hl.1 rfl (lv_room (Nat.le_of_ble_eq_true rfl)) dX12_goThrough_4 ⟨Nat.le_of_ble_eq_true rfl, Nat.le_of_ble_eq_true rfl⟩) hS (fun q _ h => hFc q h) hFc (fun u t H1 locs ht hvm hw hB hz1 hk1 hS => ?_)
  obtain ⟨hP1, hK1, hD1⟩ := hB
  rw [ht] at hP1
  obtain ⟨hP, hD⟩ := cl_put (w1 := (wd_c_X12_starts h0 h0_f0 h0_1 h0_2 h0_3 h0_4 h1 h0_f6 h0_f7 0 p3 0 (-1) h0_f12 h0_f13 h0_f14 h0_15 h0_16 h0_f17 h0_18 h0_19 h0_20 h0_21 h0_22 h0_23 h0_24 h0_25 h0_f26 h0_f27 h0_f28 h0_f29 h0_f30 h0_f31 h0_32 h0_33 h0_f34 h0_35 h0_36 h0_37 h0_38 h0_39 h0_40 h0_f41 h0_f42 h0_f43 h0_f44 h0_45 h0_46 h0_47 h0_48 h0_49 h0_50 h0_f51 h0_52 h0_f53)) (nw := (wd_c_X12_goThrough h0 h0_f0 h0_1 h0_2 h0_3 h0_4 h1 h0_f6 h0_f7 0 p3 0 (-1) h0_f12 h0_f13 h0_f14 h0_15 h0_16 h0_f17 h0_18 h0_19 h0_20 h0_21 h0_22 h0_23 h0_24 h0_25 h0_f26 h0_f27 h0_f28 h0_f29 h0_f30 h0_f31 h0_32 h0_33 h0_f34 h0_35 h0_36 h0_37 h0_38 h0_39 h0_40 h0_f41 h0_f42 h0_f43 h0_f44 h0_45 h0_46 h0_47 h0_48 h0_49 h0_50 h0_f51 h0_52 h0_f53 h1 h1k h1c h0_4 h0_4k h0_4c)) hP hD [0] [3, 1, 2] 3 rfl hqc (by decide +kernel) rfl hk1 hFc hP1 hD1
  generalize H1 = H at hP hS ⊢
  as_aux_lemma =>
  have h_68 := hw
  refine lv_aload_n hx hb dX12_goThrough_7 rfl (lv_at hl 0 rfl) ?_
  refine lv_bipush (v := 121) hx hb dX12_goThrough_8 kc_bipush_121 ?_
  refine va_put (D := (dC, dI)) (ci := 12) (v := .int 121) (ty := .int) (C := RX12) (T := TX12) (N := 54) hx hb hts iw_c_X12_goThrough_X12 tyX12 tyX12_ok nmX12 hown hK hP hD hS 0 rfl rfl 13 (by decide +kernel) (hts (.fieldLink RX12 216 "BuoyVoteModel" "label" "I") (List.mem_of_getElem? (i := 11) rfl)) (fun _ h9 => h9) rfl (by decide +kernel) rfl rfl (Nat.le_of_ble_eq_true rfl) dX12_goThrough_10 (fun H locs hP hD hS => ?_)
  have hP : va_P (dC, dI) vwCl (wd_c_X12_goThrough h0 h0_f0 h0_1 h0_2 h0_3 h0_4 h1 h0_f6 h0_f7 0 p3 0 (-1) h0_f12 121 h0_f14 h0_15 h0_16 h0_f17 h0_18 h0_19 h0_20 h0_21 h0_22 h0_23 h0_24 h0_25 h0_f26 h0_f27 h0_f28 h0_f29 h0_f30 h0_f31 h0_32 h0_33 h0_f34 h0_35 h0_36 h0_37 h0_38 h0_39 h0_40 h0_f41 h0_f42 h0_f43 h0_f44 h0_45 h0_46 h0_47 h0_48 h0_49 h0_50 h0_f51 h0_52 h0_f53 h1 h1k h1c h0_4 h0_4k h0_4c) H := hP
  have hD : va_D A (wd_c_X12_goThrough h0 h0_f0 h0_1 h0_2 h0_3 h0_4 h1 h0_f6 h0_f7 0 p3 0 (-1) h0_f12 121 h0_f14 h0_15 h0_16 h0_f17 h0_18 h0_19 h0_20 h0_21 h0_22 h0_23 h0_24 h0_25 h0_f26 h0_f27 h0_f28 h0_f29 h0_f30 h0_f31 h0_32 h0_33 h0_f34 h0_35 h0_36 h0_37 h0_38 h0_39 h0_40 h0_f41 h0_f42 h0_f43 h0_f44 h0_45 h0_46 h0_47 h0_48 h0_49 h0_50 h0_f51 h0_52 h0_f53 h1 h1k h1c h0_4 h0_4k h0_4c) := hD
  refine lv_aload_n hx hb dX12_goThrough_13 rfl (lv_at hl 0 rfl) ?_
  refine lv_iconst (v := 0) hx hb dX12_goThrough_14 kc_iconst_0 ?_
  refine va_put (D := (dC, dI)) (ci := 12) (v := .int 0) (ty := .int) (C := RX12) (T := TX12) (N := 54) hx hb hts iw_c_X12_goThrough_X12 tyX12 tyX12_ok nmX12 hown hK hP hD hS 0 rfl rfl 12 (by decide +kernel) (hts (.fieldLink RX12 146 "BuoyVoteModel" "deep" "I") (List.mem_of_getElem? (i := 12) rfl)) (fun _ h9 => h9) rfl (by decide +kernel) rfl rfl (Nat.le_of_ble_eq_true rfl) dX12_goThrough_15 (fun H locs hP hD hS => ?_)
  have hP : va_P (dC, dI) vwCl (wd_c_X12_goThrough h0 h0_f0 h0_1 h0_2 h0_3 h0_4 h1 h0_f6 h0_f7 0 p3 0 (-1) 0 121 h0_f14 h0_15 h0_16 h0_f17 h0_18 h0_19 h0_20 h0_21 h0_22 h0_23 h0_24 h0_25 h0_f26 h0_f27 h0_f28 h0_f29 h0_f30 h0_f31 h0_32 h0_33 h0_f34 h0_35 h0_36 h0_37 h0_38 h0_39 h0_40 h0_f41 h0_f42 h0_f43 h0_f44 h0_45 h0_46 h0_47 h0_48 h0_49 h0_50 h0_f51 h0_52 h0_f53 h1 h1k h1c h0_4 h0_4k h0_4c) H := hP
  have hD : va_D A (wd_c_X12_goThrough h0 h0_f0 h0_1 h0_2 h0_3 h0_4 h1 h0_f6 h0_f7 0 p3 0 (-1) 0 121 h0_f14 h0_15 h0_16 h0_f17 h0_18 h0_19 h0_20 h0_21 h0_22 h0_23 h0_24 h0_25 h0_f26 h0_f27 h0_f28 h0_f29 h0_f30 h0_f31 h0_32 h0_33 h0_f34 h0_35 h0_36 h0_37 h0_38 h0_39 h0_40 h0_f41 h0_f42 h0_f43 h0_f44 h0_45 h0_46 h0_47 h0_48 h0_49 h0_50 h0_f51 h0_52 h0_f53 h1 h1k h1c h0_4 h0_4k h0_4c) := hD
  refine lv_aload_n hx hb dX12_goThrough_18 rfl (lv_at hl 0 rfl) ?_
  refine lv_iconst (v := 0) hx hb dX12_goThrough_19 kc_iconst_0 ?_
  refine va_put (D := (dC, dI)) (ci := 12) (v := .int 0) (ty := .boolean) (C := RX12) (T := TX12) (N := 54) hx hb hts iw_c_X12_goThrough_X12 tyX12 tyX12_ok nmX12 hown hK hP hD hS 0 rfl rfl 17 (by decide +kernel) (hts (.fieldLink RX12 212 "BuoyVoteModel" "hasFound" "Z") (List.mem_of_getElem? (i := 13) rfl)) (fun _ h9 => h9) rfl (by decide +kernel) rfl rfl (Nat.le_of_ble_eq_true rfl) dX12_goThrough_20 (fun H locs hP hD hS => ?_)
  as_aux_lemma =>
  have hP : va_P (dC, dI) vwCl (wd_c_X12_goThrough h0 h0_f0 h0_1 h0_2 h0_3 h0_4 h1 h0_f6 h0_f7 0 p3 0 (-1) 0 121 h0_f14 h0_15 h0_16 0 h0_18 h0_19 h0_20 h0_21 h0_22 h0_23 h0_24 h0_25 h0_f26 h0_f27 h0_f28 h0_f29 h0_f30 h0_f31 h0_32 h0_33 h0_f34 h0_35 h0_36 h0_37 h0_38 h0_39 h0_40 h0_f41 h0_f42 h0_f43 h0_f44 h0_45 h0_46 h0_47 h0_48 h0_49 h0_50 h0_f51 h0_52 h0_f53 h1 h1k h1c h0_4 h0_4k h0_4c) H := hP
  have hD : va_D A (wd_c_X12_goThrough h0 h0_f0 h0_1 h0_2 h0_3 h0_4 h1 h0_f6 h0_f7 0 p3 0 (-1) 0 121 h0_f14 h0_15 h0_16 0 h0_18 h0_19 h0_20 h0_21 h0_22 h0_23 h0_24 h0_25 h0_f26 h0_f27 h0_f28 h0_f29 h0_f30 h0_f31 h0_32 h0_33 h0_f34 h0_35 h0_36 h0_37 h0_38 h0_39 h0_40 h0_f41 h0_f42 h0_f43 h0_f44 h0_45 h0_46 h0_47 h0_48 h0_49 h0_50 h0_f51 h0_52 h0_f53 h1 h1k h1c h0_4 h0_4k h0_4c) := hD
  refine lv_aload_n hx hb dX12_goThrough_23 rfl (lv_at hl 0 rfl) ?_
  refine lv_iconst (v := 0) hx hb dX12_goThrough_24 kc_iconst_0 ?_
  refine va_put (D := (dC, dI)) (ci := 12) (v := .int 0) (ty := .int) (C := RX12) (T := TX12) (N := 54) hx hb hts iw_c_X12_goThrough_X12 tyX12 tyX12_ok nmX12 hown hK hP hD hS 0 rfl rfl 14 (by decide +kernel) (hts (.fieldLink RX12 219 "BuoyVoteModel" "found" "I") (List.mem_of_getElem? (i := 14) rfl)) (fun _ h9 => h9) rfl (by decide +kernel) rfl rfl (Nat.le_of_ble_eq_true rfl) dX12_goThrough_25 (fun H locs hP hD hS => ?_)
  have hP : va_P (dC, dI) vwCl (wd_c_X12_goThrough h0 h0_f0 h0_1 h0_2 h0_3 h0_4 h1 h0_f6 h0_f7 0 p3 0 (-1) 0 121 0 h0_15 h0_16 0 h0_18 h0_19 h0_20 h0_21 h0_22 h0_23 h0_24 h0_25 h0_f26 h0_f27 h0_f28 h0_f29 h0_f30 h0_f31 h0_32 h0_33 h0_f34 h0_35 h0_36 h0_37 h0_38 h0_39 h0_40 h0_f41 h0_f42 h0_f43 h0_f44 h0_45 h0_46 h0_47 h0_48 h0_49 h0_50 h0_f51 h0_52 h0_f53 h1 h1k h1c h0_4 h0_4k h0_4c) H := hP
  have hD : va_D A (wd_c_X12_goThrough h0 h0_f0 h0_1 h0_2 h0_3 h0_4 h1 h0_f6 h0_f7 0 p3 0 (-1) 0 121 0 h0_15 h0_16 0 h0_18 h0_19 h0_20 h0_21 h0_22 h0_23 h0_24 h0_25 h0_f26 h0_f27 h0_f28 h0_f29 h0_f30 h0_f31 h0_32 h0_33 h0_f34 h0_35 h0_36 h0_37 h0_38 h0_39 h0_40 h0_f41 h0_f42 h0_f43 h0_f44 h0_45 h0_46 h0_47 h0_48 h0_49 h0_50 h0_f51 h0_52 h0_f53 h1 h1k h1c h0_4 h0_4k h0_4c) := hD
  refine lv_aload_n hx hb dX12_goThrough_28 rfl (lv_at hl 0 rfl) ?_
  obtain ⟨hPc, hDc, hFc, hqc⟩ := cl_cut (wc := (wd_c_X12_clause h0 h0_f0 h0_1 h0_2 h0_3 h0_4 h1 h0_f6 h0_f7 0 p3 0 (-1) 0 121 0 h0_15 h0_16 0 h0_18 h0_19 h0_20 h0_21 h0_22 h0_23 h0_24 h0_25 h0_f26 h0_f27 h0_f28 h0_f29 h0_f30 h0_f31 h0_32 h0_33 h0_f34 h0_35 h0_36 h0_37 h0_38 h0_39 h0_40 h0_f41 h0_f42 h0_f43 h0_f44 h0_45 h0_46 h0_47 h0_48 h0_49 h0_50 h0_f51 h0_52 h0_f53 h1 h1k 240 h1c h0_4 h0_4k h0_4c)) hP hD hS hA [0, 1, 2] (by decide +kernel) rfl
  have hKc := hK.sub (tys' := [(h1k, .byte), (h0_4k, .int)]) [0, 1] rfl
  have hrv := va_recv hKc hPc (ci := 12) (q0 := 0) rfl rfl
  refine va_callv (va_runV (As := []) (rest := []) ⟨hx, hb, hml, hown, hts⟩ (c_X12_clause l dC dI H.size h0 h0_f0 h0_1 h0_2 h0_3 h0_4 h1 h0_f6 h0_f7 0 p3 0 121 0 h0_15 h0_16 0 h0_18 h0_19 h0_20 h0_21 h0_22 h0_23 h0_24 h0_25 h0_f26 h0_f27 h0_f28 h0_f29 h0_f30 h0_f31 h0_32 h0_33 h0_f34 h0_35 h0_36 h0_37 h0_38 h0_39 h0_40 h0_f41 h0_f42 h0_f43 h0_f44 h0_45 h0_46 h0_47 h0_48 h0_49 h0_50 h0_f51 h0_52 h0_f53 h1k h1c 240 h0_4k h0_4c ts6 tv6 ts7 tv7 g_h0_f6 g_h0_f7 (RG_w (RG_k 0 0 rfl) (by decide +kernel)) g_p3 (RG_w (RG_k 0 0 rfl) (by decide +kernel)) (RG_w (RG_k 0 0 rfl) (by decide +kernel)) g_h0_f26 g_h0_f27 g_h0_f28 g_h0_f29 g_h0_f30 g_h0_f31 g_h0_f34 g_h0_f41 g_h0_f51 g_h0_f53 (by decide +kernel) a_h0_4c) (cwV 0 hts gf_c_X12_goThrough_c_X12_clause rfl rfl rfl mdV_X12_clause ⟨Nat.le_of_ble_eq_true rfl, Nat.le_of_ble_eq_true rfl⟩) ⟨fun a U g mk q => by obtain ⟨q0, q1, qP, qK, qD, qE0, qE1, qE2, qE3, qE4, qE5, qE6, qE7, qE8, qE9, qE10, qE11⟩ := q; exact ⟨q0, q1, qP, va_K.moved (u := U) (U := U.calling g mk a) (Vm.Alike.refl U.vm) qK, qD, vk_R.same rfl qE0, va_OF.moved (u := U) (U := U.calling g mk a) (Vm.Alike.refl U.vm) qE1, va_T.moved (u := U) (U := U.calling g mk a) (Vm.Alike.refl U.vm) qE2, va_Z.moved (u := U) (U := U.calling g mk a) (Vm.Alike.refl U.vm) qE3, va_OF.moved (u := U) (U := U.calling g mk a) (Vm.Alike.refl U.vm) qE4, va_O.moved (u := U) (U := U.calling g mk a) (Vm.Alike.refl U.vm) qE5, va_Zq.moved (u := U) (U := U.calling g mk a) (Vm.Alike.refl U.vm) qE6, vk_R.same rfl qE7, va_OF.moved (u := U) (U := U.calling g mk a) (Vm.Alike.refl U.vm) qE8, va_T.moved (u := U) (U := U.calling g mk a) (Vm.Alike.refl U.vm) qE9, va_OF.moved (u := U) (U := U.calling g mk a) (Vm.Alike.refl U.vm) qE10, va_O.moved (u := U) (U := U.calling g mk a) (Vm.Alike.refl U.vm) qE11⟩, hrv, fun U hU hW => ⟨rfl, by rw [hU], by rw [hU]; exact hPc, va_K.moved hW.alike hKc, hDc.weaken (fun _ _ _ _ => trivial), vk_R.warm hW hE_42, va_OF.moved hW.alike (by rw [hU]; exact (hE_45.kept hS.2.1).narrow hFc), va_T.moved hW.alike (by rw [hU]; exact (hE_46.kept hS.2.1).narrow hFc), va_Z.moved hW.alike (by rw [hU]; exact (hE_10.kept hS.2.1).narrow hFc), va_OF.moved hW.alike (by rw [hU]; exact (hE_44.kept hS.2.1).narrow hFc), va_O.moved hW.alike (by rw [hU]; exact (hE_43.kept hS.2.1).narrow hFc), va_Zq.moved hW.alike (by rw [hU]; exact (hE_11.kept hS.2.1).narrow hFc), vk_R.warm hW hE_47, va_OF.moved hW.alike (by rw [hU]; exact (hE_50.kept hS.2.1).narrow hFc), va_T.moved hW.alike (by rw [hU]; exact (hE_51.kept hS.2.1).narrow hFc), va_OF.moved hW.alike (by rw [hU]; exact (hE_49.kept hS.2.1).narrow hFc), va_O.moved hW.alike (by rw [hU]; exact (hE_48.kept hS.2.1).narrow hFc)⟩⟩ rfl rfl hl.1 rfl (lv_room (Nat.le_of_ble_eq_true rfl)) dX12_goThrough_29 ⟨Nat.le_of_ble_eq_true rfl, Nat.le_of_ble_eq_true rfl⟩) hS (fun q _ h => hFc q h) hFc (fun u t H1 locs ht hvm hw hB hz1 hk1 hS => ?_)
  obtain ⟨x_70, x_71, x_72, x_73, x_74⟩ := u
  obtain ⟨hP1, hK1, hD1⟩ := hB
  rw [ht] at hP1
  obtain ⟨hP, hD⟩ := cl_put (w1 := (wd_c_X12_clause h0 h0_f0 h0_1 h0_2 h0_3 h0_4 h1 h0_f6 h0_f7 0 p3 x_70 x_71 x_72 121 x_73 h0_15 h0_16 x_74 h0_18 h0_19 h0_20 h0_21 h0_22 h0_23 h0_24 h0_25 h0_f26 h0_f27 h0_f28 h0_f29 h0_f30 h0_f31 h0_32 h0_33 h0_f34 h0_35 h0_36 h0_37 h0_38 h0_39 h0_40 h0_f41 h0_f42 h0_f43 h0_f44 h0_45 h0_46 h0_47 h0_48 h0_49 h0_50 h0_f51 h0_52 h0_f53 h1 h1k 240 h1c h0_4 h0_4k h0_4c)) (nw := (wd_c_X12_goThrough h0 h0_f0 h0_1 h0_2 h0_3 h0_4 h1 h0_f6 h0_f7 0 p3 x_70 x_71 x_72 121 x_73 h0_15 h0_16 x_74 h0_18 h0_19 h0_20 h0_21 h0_22 h0_23 h0_24 h0_25 h0_f26 h0_f27 h0_f28 h0_f29 h0_f30 h0_f31 h0_32 h0_33 h0_f34 h0_35 h0_36 h0_37 h0_38 h0_39 h0_40 h0_f41 h0_f42 h0_f43 h0_f44 h0_45 h0_46 h0_47 h0_48 h0_49 h0_50 h0_f51 h0_52 h0_f53 h1 h1k h1c h0_4 h0_4k h0_4c)) hP hD [0, 1, 2] [3, 4, 5] 3 rfl hqc (by decide +kernel) rfl hk1 hFc hP1 hD1
  generalize H1 = H at hP hS ⊢
  as_aux_lemma =>
  rcases hw with ⟨h_75, h_76, h_77, h_78, h_79, h_80, h_81⟩ | ⟨h_82, h_83, h_84, h_85, h_86, h_87⟩
  · have h_81 : (x_70, x_71, x_72, x_73, x_74) = _ := h_81
    replace hEX := hEX.trans (exc5_eq h_81)
    replace hEX := hEX.trans (if_pos (show x_71 = (-1) from h_76))
    subst h_76
    subst h_77
    exact hU _ _ _ (J32 exF x_70 x_73 x_74 MU_F g_h0_f10 g_h0_f11 g_h0_f17 g_h0_f26 g_h0_f27 g_h0_f28 g_h0_f29 g_h0_f30 g_h0_f31 g_h0_f34 g_h0_f41 g_h0_f51 g_h0_f53 g_h0_f6 g_h0_f7 g_h0_f8 g_h0_f9 h_75 h_78 h_79 hEX _ _ _ hP hD hS (lv_sub hl [0] rfl))
  · have h_87 : (x_70, x_71, x_72, x_73, x_74) = _ := h_87
    replace hEX := hEX.trans (exc5_eq h_87)
    replace hEX := hEX.trans (if_neg (RG_neq (x := x_71) (c := (-1)) (show RG x_71 0 240 from h_83) (by decide +kernel)))
    exact hU _ _ _ (J32b x_70 x_71 x_72 x_73 x_74 g_h0_f10 g_h0_f11 g_h0_f17 g_h0_f26 g_h0_f27 g_h0_f28 g_h0_f29 g_h0_f30 g_h0_f31 g_h0_f34 g_h0_f41 g_h0_f51 g_h0_f53 g_h0_f6 g_h0_f7 g_h0_f8 g_h0_f9 h_82 h_83 h_84 h_85 g_p3 hEX _ _ _ hP hD hS (lv_sub hl [0] rfl))
noncomputable def wf_c_J0_coder_7d493_11 : List Cond := .code yJ0_coder_7d493 cJ0_coder_7d493 1 (some .byte) :: ([.fieldLink RJ0 38 "java/lang/String" "COMPACT_STRINGS" "Z", .fieldLink RJ0 15 "java/lang/String" "coder" "B"])
set_option maxHeartbeats 4000000 in
set_option maxRecDepth 100000 in
theorem c_J0_coder_7d493_11 (l : Launch) (dC : Nat → ClassId) (dI : Nat → Nat → Nat) (sz : Nat) (ts11 : Nat) : Met l yJ0_coder_7d493 wf_c_J0_coder_7d493_11 ({ frames := 0, cells := 0, slots := 0, locals := 0 }) (va_Pc [.ref ts11] (fun U => U.heap.size = sz ∧ va_P (dC, dI) vwCl [] U.heap ∧ va_K (dC, dI) vwCl [] U ∧ va_D (fun _ => True) [] ∧ va_Z "java/lang/String" "COMPACT_STRINGS" "Z" (.int 1) (va_A [] sz) U U.heap ∧ va_OF "java/lang/String" "coder" "B" (.int 0) ts11 (va_A [] sz) U U.heap)) (va_Qi (fun (r : Int32) (u : Unit) => (r = 0 ∧ r = fx_c_J0_coder_7d493_11)) (fun (u : Unit) t => va_P (dC, dI) vwCl [] t.heap ∧ va_K (dC, dI) vwCl [] t ∧ va_D (va_A [] sz) []) (va_A [] sz)) 0 0 (va_A [] sz) := by
  refine Met.ofW (cc := cJ0_coder_7d493) (maxL := 1) (ret := (some .byte)) (by decide +kernel) rfl ?_
  intro p e s m args below meth c s₁ B hml hv
  obtain ⟨rfl, hsz, hP, hK, hD0, hE_10, hE_69⟩ := hv
  have hx := B.exec
  have hb := B.bytes
  have hr := B.returns
  have hts := atoms_spec (ws := wf_c_J0_coder_7d493_11) B.pre
  have hown : s.vm.findClass RJ0 = some m.cls := findClass_of_methodNamed B.named
  have hlocks := B.notSynchronized
  subst hsz
  have hD := hD0.self (sz := s.heap.size)
  generalize hAe : va_A [] s.heap.size = A at hD hE_10 hE_69 ⊢
  have hA : ∀ q : Nat, s.heap.size ≤ q → A q := fun q h => by rw [← hAe]; exact Or.inr h
  have hP : va_P (dC, dI) vwCl [] s.heap := hP
  have hl := lv_entry ([.ref ts11]) (n := 1) (Nat.le_of_ble_eq_true rfl)
  rw [lg_entry_eq]
  generalize (lg_sl ([.ref ts11]) ++ List.replicate (1 - (lg_sl ([.ref ts11])).length) Slot.unset).toArray = ls at hl ⊢
  have hl : lv_has ls 1 [(0, .ref ts11)] := hl
  obtain ⟨H, hHe⟩ : ∃ H : Heap, s.heap = H := ⟨_, rfl⟩
  have hS : va_S A s.heap H [] := by rw [hHe]; exact va_S.rf
  have hP : va_P (dC, dI) vwCl [] H := by rw [← hHe]; exact hP
  rw [hHe]
  obtain ⟨RES, hR⟩ : ∃ z, fx_c_J0_coder_7d493_11 = z := ⟨_, rfl⟩
  have hEX : RES = fx_c_J0_coder_7d493_11 := hR.symm
  refine va_gets hx hb hE_10 hS hown (hts (.fieldLink RJ0 38 "java/lang/String" "COMPACT_STRINGS" "Z") (List.mem_of_getElem? (i := 1) rfl)) (fun _ h9 => h9) dJ0_coder_7d493_0 ?_
  as_aux_lemma =>
  refine lv_if_eq (tgt := 13) hx hb dJ0_coder_7d493_3 rfl (fun c_1 => absurd c_1 (by decide +kernel)) (fun c_1 => ?_)
  refine lv_aload_n hx hb dJ0_coder_7d493_6 rfl (lv_at hl 0 rfl) ?_
  refine vk_getf hx hb hE_69 hS hown (hts (.fieldLink RJ0 15 "java/lang/String" "coder" "B") (List.mem_of_getElem? (i := 2) rfl)) (fun _ h9 => h9) dJ0_coder_7d493_7 ?_
  refine lv_goto (tgt := 14) hx hb dJ0_coder_7d493_10 rfl ?_
  have hK9 := hK.sub (tys' := []) [] rfl
  exact W.zret (v := 0) hx hb hr rfl (fun t ht hW => ⟨⟨0, (), rfl, ⟨rfl, (hR.trans hEX).symm⟩, by rw [ht]; exact hP, va_K.moved hW.alike hK9, hD⟩, hS.F ht⟩) hS.2.2 dJ0_coder_7d493_14
noncomputable def wf_c_J0_length_8abf5_11 : List Cond := .code yJ0_length_8abf5 cJ0_length_8abf5 1 (some .int) :: ([.fieldLink RJ0 9 "java/lang/String" "value" "[B", .methodLink RJ0 335 yJ0_coder_7d493, .instanceMethod yJ0_coder_7d493, .selects RJ0 yJ0_coder_7d493 yJ0_coder_7d493, .initialized RJ0, .code yJ0_coder_7d493 cJ0_coder_7d493 1 (some .byte), .fieldLink RJ0 38 "java/lang/String" "COMPACT_STRINGS" "Z", .fieldLink RJ0 15 "java/lang/String" "coder" "B"])
set_option maxRecDepth 20000 in
theorem gf_c_J0_length_8abf5_11_c_J0_coder_7d493_11 : GoodIn wf_c_J0_length_8abf5_11 (wsV RJ0 335 RJ0 yJ0_coder_7d493 wf_c_J0_coder_7d493_11) := goodIn_app (gi_l [2, 3, 4, 5] rfl rfl) (gi_cons (j := 6) rfl rfl (gi_l [7, 8] rfl rfl))
set_option maxHeartbeats 4000000 in
set_option maxRecDepth 100000 in
theorem c_J0_length_8abf5_11 (l : Launch) (dC : Nat → ClassId) (dI : Nat → Nat → Nat) (sz : Nat) (ts11 : Nat) (tv11 : Nat) : Met l yJ0_length_8abf5 wf_c_J0_length_8abf5_11 ({ frames := 1, cells := 0, slots := 0, locals := 20 }) (va_Pc [.ref ts11] (fun U => U.heap.size = sz ∧ va_P (dC, dI) vwCl [] U.heap ∧ va_K (dC, dI) vwCl [] U ∧ va_D (fun _ => True) [] ∧ va_OF "java/lang/String" "value" "[B" (.ref tv11) ts11 (va_A [] sz) U U.heap ∧ va_T .byte tv11 4 (fun j => .int ([103, 115, 99, 104].getD j 0)) (va_A [] sz) U U.heap ∧ va_Z "java/lang/String" "COMPACT_STRINGS" "Z" (.int 1) (va_A [] sz) U U.heap ∧ va_OF "java/lang/String" "coder" "B" (.int 0) ts11 (va_A [] sz) U U.heap ∧ va_O "java/lang/String" ts11 (va_A [] sz) U U.heap)) (va_Qi (fun (r : Int32) (u : Unit) => (r = 4 ∧ r = fx_c_J0_length_8abf5_11)) (fun (u : Unit) t => va_P (dC, dI) vwCl [] t.heap ∧ va_K (dC, dI) vwCl [] t ∧ va_D (va_A [] sz) []) (va_A [] sz)) 0 0 (va_A [] sz) := by
  refine Met.ofW (cc := cJ0_length_8abf5) (maxL := 1) (ret := (some .int)) (by decide +kernel) rfl ?_
  intro p e s m args below meth c s₁ B hml hv
  obtain ⟨rfl, hsz, hP, hK, hD0, hE_70, hE_71, hE_10, hE_69, hE_68⟩ := hv
  have hx := B.exec
  have hb := B.bytes
  have hr := B.returns
  have hts := atoms_spec (ws := wf_c_J0_length_8abf5_11) B.pre
  have hown : s.vm.findClass RJ0 = some m.cls := findClass_of_methodNamed B.named
  have hlocks := B.notSynchronized
  subst hsz
  have hD := hD0.self (sz := s.heap.size)
  generalize hAe : va_A [] s.heap.size = A at hD hE_70 hE_71 hE_10 hE_69 hE_68 ⊢
  have hA : ∀ q : Nat, s.heap.size ≤ q → A q := fun q h => by rw [← hAe]; exact Or.inr h
  have hP : va_P (dC, dI) vwCl [] s.heap := hP
  have hl := lv_entry ([.ref ts11]) (n := 1) (Nat.le_of_ble_eq_true rfl)
  rw [lg_entry_eq]
  generalize (lg_sl ([.ref ts11]) ++ List.replicate (1 - (lg_sl ([.ref ts11])).length) Slot.unset).toArray = ls at hl ⊢
  have hl : lv_has ls 1 [(0, .ref ts11)] := hl
  obtain ⟨H, hHe⟩ : ∃ H : Heap, s.heap = H := ⟨_, rfl⟩
  have hS : va_S A s.heap H [] := by rw [hHe]; exact va_S.rf
  have hP : va_P (dC, dI) vwCl [] H := by rw [← hHe]; exact hP
  rw [hHe]
  obtain ⟨RES, hR⟩ : ∃ z, fx_c_J0_length_8abf5_11 = z := ⟨_, rfl⟩
  have hEX : RES = fx_c_J0_length_8abf5_11 := hR.symm
  refine lv_aload_n hx hb dJ0_length_8abf5_0 rfl (lv_at hl 0 rfl) ?_
  as_aux_lemma =>
  refine vk_getf hx hb hE_70 hS hown (hts (.fieldLink RJ0 9 "java/lang/String" "value" "[B") (List.mem_of_getElem? (i := 1) rfl)) (fun _ h9 => h9) dJ0_length_8abf5_1 ?_
  refine va_tlen (v := 4) hx hb hE_71 hS rfl dJ0_length_8abf5_4 ?_
  refine lv_aload_n hx hb dJ0_length_8abf5_5 rfl (lv_at hl 0 rfl) ?_
  obtain ⟨hPc, hDc, hFc, hqc⟩ := cl_cut (wc := []) hP hD hS hA [] (by decide +kernel) rfl
  have hKc := hK.sub (tys' := []) [] rfl
  have hrv := bv_Orecv hE_68 hS
  refine va_calli (va_runV (As := []) (rest := [.int 4]) ⟨hx, hb, hml, hown, hts⟩ (c_J0_coder_7d493_11 l dC dI H.size ts11) (cwV 0 hts gf_c_J0_length_8abf5_11_c_J0_coder_7d493_11 rfl rfl rfl mdV_J0_coder_7d493 ⟨Nat.le_of_ble_eq_true rfl, Nat.le_of_ble_eq_true rfl⟩) ⟨fun a U g mk q => by obtain ⟨q0, q1, qP, qK, qD, qE0, qE1⟩ := q; exact ⟨q0, q1, qP, va_K.moved (u := U) (U := U.calling g mk a) (Vm.Alike.refl U.vm) qK, qD, va_Z.moved (u := U) (U := U.calling g mk a) (Vm.Alike.refl U.vm) qE0, va_OF.moved (u := U) (U := U.calling g mk a) (Vm.Alike.refl U.vm) qE1⟩, hrv, fun U hU hW => ⟨rfl, by rw [hU], by rw [hU]; exact hPc, va_K.moved hW.alike hKc, hDc.weaken (fun _ _ _ _ => trivial), va_Z.moved hW.alike (by rw [hU]; exact (hE_10.kept hS.2.1).narrow hFc), va_OF.moved hW.alike (by rw [hU]; exact (hE_69.kept hS.2.1).narrow hFc)⟩⟩ rfl rfl hl.1 rfl (lv_room (Nat.le_of_ble_eq_true rfl)) dJ0_length_8abf5_6 ⟨Nat.le_of_ble_eq_true rfl, Nat.le_of_ble_eq_true rfl⟩) hS (fun q _ h => hFc q h) hFc (fun r_1 u t H1 locs ht hvm hw hB hz1 hk1 hS => ?_)
  obtain ⟨hP1, hK1, hD1⟩ := hB
  rw [ht] at hP1
  have hP := bv_still hP hk1
  generalize H1 = H at hP hS ⊢
  as_aux_lemma =>
  rcases hw with ⟨h_2, h_3⟩
  have h_3 : r_1 = _ := h_3
  replace hEX := hEX.trans (exc1_eq h_3)
  rw [h_2]
  refine lv_ishr hx hb dJ0_length_8abf5_9 ?_
  refine lv_topi (fun x_4 ex_4 => ?_)
  obtain rfl : x_4 = 4 := ex_4.trans (by decide +kernel)
  have hK9 := hK.sub (tys' := []) [] rfl
  exact W.iret (v := 4) hx hb hr (fun t ht hW => ⟨⟨4, (), rfl, ⟨rfl, (hR.trans hEX).symm⟩, by rw [ht]; exact hP, va_K.moved hW.alike hK9, hD⟩, hS.F ht⟩) hS.2.2 dJ0_length_8abf5_10
noncomputable def wf_c_J0_isLatin1_aae02_11 : List Cond := .code yJ0_isLatin1_aae02 cJ0_isLatin1_aae02 1 (some .boolean) :: ([.fieldLink RJ0 38 "java/lang/String" "COMPACT_STRINGS" "Z", .fieldLink RJ0 15 "java/lang/String" "coder" "B"])
set_option maxHeartbeats 4000000 in
set_option maxRecDepth 100000 in
theorem c_J0_isLatin1_aae02_11 (l : Launch) (dC : Nat → ClassId) (dI : Nat → Nat → Nat) (sz : Nat) (ts11 : Nat) : Met l yJ0_isLatin1_aae02 wf_c_J0_isLatin1_aae02_11 ({ frames := 0, cells := 0, slots := 0, locals := 0 }) (va_Pc [.ref ts11] (fun U => U.heap.size = sz ∧ va_P (dC, dI) vwCl [] U.heap ∧ va_K (dC, dI) vwCl [] U ∧ va_D (fun _ => True) [] ∧ va_Z "java/lang/String" "COMPACT_STRINGS" "Z" (.int 1) (va_A [] sz) U U.heap ∧ va_OF "java/lang/String" "coder" "B" (.int 0) ts11 (va_A [] sz) U U.heap)) (va_Qi (fun (r : Int32) (u : Unit) => (r = 1 ∧ r = fx_c_J0_isLatin1_aae02_11)) (fun (u : Unit) t => va_P (dC, dI) vwCl [] t.heap ∧ va_K (dC, dI) vwCl [] t ∧ va_D (va_A [] sz) []) (va_A [] sz)) 0 0 (va_A [] sz) := by
  refine Met.ofW (cc := cJ0_isLatin1_aae02) (maxL := 1) (ret := (some .boolean)) (by decide +kernel) rfl ?_
  intro p e s m args below meth c s₁ B hml hv
  obtain ⟨rfl, hsz, hP, hK, hD0, hE_10, hE_69⟩ := hv
  have hx := B.exec
  have hb := B.bytes
  have hr := B.returns
  have hts := atoms_spec (ws := wf_c_J0_isLatin1_aae02_11) B.pre
  have hown : s.vm.findClass RJ0 = some m.cls := findClass_of_methodNamed B.named
  have hlocks := B.notSynchronized
  subst hsz
  have hD := hD0.self (sz := s.heap.size)
  generalize hAe : va_A [] s.heap.size = A at hD hE_10 hE_69 ⊢
  have hA : ∀ q : Nat, s.heap.size ≤ q → A q := fun q h => by rw [← hAe]; exact Or.inr h
  have hP : va_P (dC, dI) vwCl [] s.heap := hP
  have hl := lv_entry ([.ref ts11]) (n := 1) (Nat.le_of_ble_eq_true rfl)
  rw [lg_entry_eq]
  generalize (lg_sl ([.ref ts11]) ++ List.replicate (1 - (lg_sl ([.ref ts11])).length) Slot.unset).toArray = ls at hl ⊢
  have hl : lv_has ls 1 [(0, .ref ts11)] := hl
  obtain ⟨H, hHe⟩ : ∃ H : Heap, s.heap = H := ⟨_, rfl⟩
  have hS : va_S A s.heap H [] := by rw [hHe]; exact va_S.rf
  have hP : va_P (dC, dI) vwCl [] H := by rw [← hHe]; exact hP
  rw [hHe]
  obtain ⟨RES, hR⟩ : ∃ z, fx_c_J0_isLatin1_aae02_11 = z := ⟨_, rfl⟩
  have hEX : RES = fx_c_J0_isLatin1_aae02_11 := hR.symm
  refine va_gets hx hb hE_10 hS hown (hts (.fieldLink RJ0 38 "java/lang/String" "COMPACT_STRINGS" "Z") (List.mem_of_getElem? (i := 1) rfl)) (fun _ h9 => h9) dJ0_isLatin1_aae02_0 ?_
  as_aux_lemma =>
  refine lv_if_eq (tgt := 17) hx hb dJ0_isLatin1_aae02_3 rfl (fun c_1 => absurd c_1 (by decide +kernel)) (fun c_1 => ?_)
  refine lv_aload_n hx hb dJ0_isLatin1_aae02_6 rfl (lv_at hl 0 rfl) ?_
  refine vk_getf hx hb hE_69 hS hown (hts (.fieldLink RJ0 15 "java/lang/String" "coder" "B") (List.mem_of_getElem? (i := 2) rfl)) (fun _ h9 => h9) dJ0_isLatin1_aae02_7 ?_
  refine lv_if_ne (tgt := 17) hx hb dJ0_isLatin1_aae02_10 rfl (fun c_2 => absurd c_2 (by decide +kernel)) (fun c_2 => ?_)
  refine lv_iconst (v := 1) hx hb dJ0_isLatin1_aae02_13 kc_iconst_1 ?_
  refine lv_goto (tgt := 18) hx hb dJ0_isLatin1_aae02_14 rfl ?_
  have hK9 := hK.sub (tys' := []) [] rfl
  exact W.zret (v := 1) hx hb hr rfl (fun t ht hW => ⟨⟨1, (), rfl, ⟨rfl, (hR.trans hEX).symm⟩, by rw [ht]; exact hP, va_K.moved hW.alike hK9, hD⟩, hS.F ht⟩) hS.2.2 dJ0_isLatin1_aae02_18
noncomputable def wf_c_J1_charAt_3b067_23 : List Cond := .code yJ1_charAt_3b067 cJ1_charAt_3b067 2 (some .char) :: ([.methodLink RJ1 9 yJ0_checkIndex_df160, .static yJ0_checkIndex_df160, .initialized RJ0, .code yJ0_checkIndex_df160 cJ0_checkIndex_df160 2 none, .fieldLink RJ0 1053 "jdk/internal/util/Preconditions" "SIOOBE_FORMATTER" "Ljava/util/function/BiFunction;", .methodLink RJ0 1059 yJ3_checkIndex_8e157, .static yJ3_checkIndex_8e157, .initialized RJ3, .code yJ3_checkIndex_8e157 cJ3_checkIndex_8e157 3 (some .int)])
set_option maxRecDepth 20000 in
theorem gf_c_J1_charAt_3b067_23_c_J0_checkIndex_df160 : GoodIn wf_c_J1_charAt_3b067_23 (va_wsS RJ1 9 yJ0_checkIndex_df160 wf_c_J0_checkIndex_df160) := goodIn_app (gi_l [1, 2, 3] rfl rfl) (gi_cons (j := 4) rfl rfl (gi_l [5, 6, 7, 8, 9] rfl rfl))
set_option maxHeartbeats 4000000 in
set_option maxRecDepth 100000 in
theorem c_J1_charAt_3b067_23 (l : Launch) (dC : Nat → ClassId) (dI : Nat → Nat → Nat) (sz : Nat) (tv11 : Nat) : Met l yJ1_charAt_3b067 wf_c_J1_charAt_3b067_23 ({ frames := 2, cells := 0, slots := 0, locals := 43 }) (va_Pc [.ref tv11, .int 0] (fun U => U.heap.size = sz ∧ va_P (dC, dI) vwCl [] U.heap ∧ va_K (dC, dI) vwCl [] U ∧ va_D (fun _ => True) [] ∧ va_T .byte tv11 4 (fun j => .int ([103, 115, 99, 104].getD j 0)) (va_A [] sz) U U.heap ∧ va_Zq "jdk/internal/util/Preconditions" "SIOOBE_FORMATTER" "Ljava/util/function/BiFunction;" (va_A [] sz) U U.heap)) (va_Qi (fun (r : Int32) (u : Unit) => (r = 103 ∧ r = fx_c_J1_charAt_3b067_23)) (fun (u : Unit) t => va_P (dC, dI) vwCl [] t.heap ∧ va_K (dC, dI) vwCl [] t ∧ va_D (va_A [] sz) []) (va_A [] sz)) 0 0 (va_A [] sz) := by
  refine Met.ofW (cc := cJ1_charAt_3b067) (maxL := 2) (ret := (some .char)) (by decide +kernel) rfl ?_
  intro p e s m args below meth c s₁ B hml hv
  obtain ⟨rfl, hsz, hP, hK, hD0, hE_71, hE_11⟩ := hv
  have hx := B.exec
  have hb := B.bytes
  have hr := B.returns
  have hts := atoms_spec (ws := wf_c_J1_charAt_3b067_23) B.pre
  have hown : s.vm.findClass RJ1 = some m.cls := findClass_of_methodNamed B.named
  have hlocks := B.notSynchronized
  subst hsz
  have hD := hD0.self (sz := s.heap.size)
  generalize hAe : va_A [] s.heap.size = A at hD hE_71 hE_11 ⊢
  have hA : ∀ q : Nat, s.heap.size ≤ q → A q := fun q h => by rw [← hAe]; exact Or.inr h
  have hP : va_P (dC, dI) vwCl [] s.heap := hP
  have hl := lv_entry ([.ref tv11, .int 0]) (n := 2) (Nat.le_of_ble_eq_true rfl)
  rw [lg_entry_eq]
  generalize (lg_sl ([.ref tv11, .int 0]) ++ List.replicate (2 - (lg_sl ([.ref tv11, .int 0])).length) Slot.unset).toArray = ls at hl ⊢
  have hl : lv_has ls 2 [(0, .ref tv11), (1, .int 0)] := hl
  obtain ⟨H, hHe⟩ : ∃ H : Heap, s.heap = H := ⟨_, rfl⟩
  have hS : va_S A s.heap H [] := by rw [hHe]; exact va_S.rf
  have hP : va_P (dC, dI) vwCl [] H := by rw [← hHe]; exact hP
  rw [hHe]
  obtain ⟨RES, hR⟩ : ∃ z, fx_c_J1_charAt_3b067_23 = z := ⟨_, rfl⟩
  have hEX : RES = fx_c_J1_charAt_3b067_23 := hR.symm
  refine lv_iload_n hx hb dJ1_charAt_3b067_0 rfl (lv_at hl 1 rfl) ?_
  as_aux_lemma =>
  refine lv_aload_n hx hb dJ1_charAt_3b067_1 rfl (lv_at hl 0 rfl) ?_
  refine va_tlen (v := 4) hx hb hE_71 hS rfl dJ1_charAt_3b067_2 ?_
  obtain ⟨hPc, hDc, hFc, hqc⟩ := cl_cut (wc := []) hP hD hS hA [] (by decide +kernel) rfl
  have hKc := hK.sub (tys' := []) [] rfl
  refine va_callv (va_runS (As := [.int 0, .int 4]) (rest := []) ⟨hx, hb, hml, hown, hts⟩ (c_J0_checkIndex_df160 l dC dI H.size) (va_cwS 2 hts gf_c_J1_charAt_3b067_23_c_J0_checkIndex_df160 rfl rfl rfl md_J0_checkIndex_df160 ⟨Nat.le_of_ble_eq_true rfl, Nat.le_of_ble_eq_true rfl⟩) ⟨fun a U g mk q => by obtain ⟨q0, q1, qP, qK, qD, qE0⟩ := q; exact ⟨q0, q1, qP, va_K.moved (u := U) (U := U.calling g mk a) (Vm.Alike.refl U.vm) qK, qD, va_Zq.moved (u := U) (U := U.calling g mk a) (Vm.Alike.refl U.vm) qE0⟩, fun U hU hW => ⟨rfl, by rw [hU], by rw [hU]; exact hPc, va_K.moved hW.alike hKc, hDc.weaken (fun _ _ _ _ => trivial), va_Zq.moved hW.alike (by rw [hU]; exact (hE_11.kept hS.2.1).narrow hFc)⟩⟩ rfl rfl hl.1 rfl (lv_room (Nat.le_of_ble_eq_true rfl)) dJ1_charAt_3b067_3 ⟨Nat.le_of_ble_eq_true rfl, Nat.le_of_ble_eq_true rfl⟩) hS (fun q _ h => hFc q h) hFc (fun u t H1 locs ht hvm hw hB hz1 hk1 hS => ?_)
  obtain ⟨hP1, hK1, hD1⟩ := hB
  rw [ht] at hP1
  have hP := bv_still hP hk1
  generalize H1 = H at hP hS ⊢
  as_aux_lemma =>
  have h_2 := hw
  refine lv_aload_n hx hb dJ1_charAt_3b067_6 rfl (lv_at hl 0 rfl) ?_
  refine lv_iload_n hx hb dJ1_charAt_3b067_7 rfl (lv_at hl 1 rfl) ?_
  refine va_tb (v := .int 103) hx hb hE_71 hS (by unfold vp_in; decide) rfl dJ1_charAt_3b067_8 ?_
  refine lv_sipush (v := 255) hx hb dJ1_charAt_3b067_9 kc_sipush_255 ?_
  refine lv_iand hx hb dJ1_charAt_3b067_12 ?_
  refine lv_topi (fun x_3 ex_3 => ?_)
  obtain rfl : x_3 = 103 := ex_3.trans (by decide +kernel)
  refine lv_i2c (v := 103) hx hb dJ1_charAt_3b067_13 (by decide +kernel) ?_
  have hK9 := hK.sub (tys' := []) [] rfl
  exact W.zret (v := 103) hx hb hr rfl (fun t ht hW => ⟨⟨103, (), rfl, ⟨rfl, (hR.trans hEX).symm⟩, by rw [ht]; exact hP, va_K.moved hW.alike hK9, hD⟩, hS.F ht⟩) hS.2.2 dJ1_charAt_3b067_14
noncomputable def wf_c_J0_charAt_5068e_23 : List Cond := .code yJ0_charAt_5068e cJ0_charAt_5068e 2 (some .char) :: ([.methodLink RJ0 492 yJ0_isLatin1_aae02, .instanceMethod yJ0_isLatin1_aae02, .selects RJ0 yJ0_isLatin1_aae02 yJ0_isLatin1_aae02, .initialized RJ0, .code yJ0_isLatin1_aae02 cJ0_isLatin1_aae02 1 (some .boolean), .fieldLink RJ0 38 "java/lang/String" "COMPACT_STRINGS" "Z", .fieldLink RJ0 15 "java/lang/String" "coder" "B", .fieldLink RJ0 9 "java/lang/String" "value" "[B", .methodLink RJ0 495 yJ1_charAt_3b067, .static yJ1_charAt_3b067, .initialized RJ1, .code yJ1_charAt_3b067 cJ1_charAt_3b067 2 (some .char), .methodLink RJ1 9 yJ0_checkIndex_df160, .static yJ0_checkIndex_df160, .code yJ0_checkIndex_df160 cJ0_checkIndex_df160 2 none, .fieldLink RJ0 1053 "jdk/internal/util/Preconditions" "SIOOBE_FORMATTER" "Ljava/util/function/BiFunction;", .methodLink RJ0 1059 yJ3_checkIndex_8e157, .static yJ3_checkIndex_8e157, .initialized RJ3, .code yJ3_checkIndex_8e157 cJ3_checkIndex_8e157 3 (some .int)])
set_option maxRecDepth 20000 in
theorem gf_c_J0_charAt_5068e_23_c_J0_isLatin1_aae02_11 : GoodIn wf_c_J0_charAt_5068e_23 (wsV RJ0 492 RJ0 yJ0_isLatin1_aae02 wf_c_J0_isLatin1_aae02_11) := goodIn_app (gi_l [1, 2, 3, 4] rfl rfl) (gi_cons (j := 5) rfl rfl (gi_l [6, 7] rfl rfl))
set_option maxRecDepth 20000 in
theorem gf_c_J0_charAt_5068e_23_c_J1_charAt_3b067_23 : GoodIn wf_c_J0_charAt_5068e_23 (va_wsS RJ0 495 yJ1_charAt_3b067 wf_c_J1_charAt_3b067_23) := goodIn_app (gi_l [9, 10, 11] rfl rfl) (gi_cons (j := 12) rfl rfl (gi_l [13, 14, 4, 15, 16, 17, 18, 19, 20] rfl rfl))
set_option maxHeartbeats 4000000 in
set_option maxRecDepth 100000 in
theorem c_J0_charAt_5068e_23 (l : Launch) (dC : Nat → ClassId) (dI : Nat → Nat → Nat) (sz : Nat) (ts11 : Nat) (tv11 : Nat) : Met l yJ0_charAt_5068e wf_c_J0_charAt_5068e_23 ({ frames := 3, cells := 0, slots := 0, locals := 64 }) (va_Pc [.ref ts11, .int 0] (fun U => U.heap.size = sz ∧ va_P (dC, dI) vwCl [] U.heap ∧ va_K (dC, dI) vwCl [] U ∧ va_D (fun _ => True) [] ∧ va_Z "java/lang/String" "COMPACT_STRINGS" "Z" (.int 1) (va_A [] sz) U U.heap ∧ va_OF "java/lang/String" "coder" "B" (.int 0) ts11 (va_A [] sz) U U.heap ∧ va_O "java/lang/String" ts11 (va_A [] sz) U U.heap ∧ va_OF "java/lang/String" "value" "[B" (.ref tv11) ts11 (va_A [] sz) U U.heap ∧ va_T .byte tv11 4 (fun j => .int ([103, 115, 99, 104].getD j 0)) (va_A [] sz) U U.heap ∧ va_Zq "jdk/internal/util/Preconditions" "SIOOBE_FORMATTER" "Ljava/util/function/BiFunction;" (va_A [] sz) U U.heap)) (va_Qi (fun (r : Int32) (u : Unit) => (r = 103 ∧ r = fx_c_J0_charAt_5068e_23)) (fun (u : Unit) t => va_P (dC, dI) vwCl [] t.heap ∧ va_K (dC, dI) vwCl [] t ∧ va_D (va_A [] sz) []) (va_A [] sz)) 0 0 (va_A [] sz) := by
  refine Met.ofW (cc := cJ0_charAt_5068e) (maxL := 2) (ret := (some .char)) (by decide +kernel) rfl ?_
  intro p e s m args below meth c s₁ B hml hv
  obtain ⟨rfl, hsz, hP, hK, hD0, hE_10, hE_69, hE_68, hE_70, hE_71, hE_11⟩ := hv
  have hx := B.exec
  have hb := B.bytes
  have hr := B.returns
  have hts := atoms_spec (ws := wf_c_J0_charAt_5068e_23) B.pre
  have hown : s.vm.findClass RJ0 = some m.cls := findClass_of_methodNamed B.named
  have hlocks := B.notSynchronized
  subst hsz
  have hD := hD0.self (sz := s.heap.size)
  generalize hAe : va_A [] s.heap.size = A at hD hE_10 hE_69 hE_68 hE_70 hE_71 hE_11 ⊢
  have hA : ∀ q : Nat, s.heap.size ≤ q → A q := fun q h => by rw [← hAe]; exact Or.inr h
  have hP : va_P (dC, dI) vwCl [] s.heap := hP
  have hl := lv_entry ([.ref ts11, .int 0]) (n := 2) (Nat.le_of_ble_eq_true rfl)
  rw [lg_entry_eq]
  generalize (lg_sl ([.ref ts11, .int 0]) ++ List.replicate (2 - (lg_sl ([.ref ts11, .int 0])).length) Slot.unset).toArray = ls at hl ⊢
  have hl : lv_has ls 2 [(0, .ref ts11), (1, .int 0)] := hl
  obtain ⟨H, hHe⟩ : ∃ H : Heap, s.heap = H := ⟨_, rfl⟩
  have hS : va_S A s.heap H [] := by rw [hHe]; exact va_S.rf
  have hP : va_P (dC, dI) vwCl [] H := by rw [← hHe]; exact hP
  rw [hHe]
  obtain ⟨RES, hR⟩ : ∃ z, fx_c_J0_charAt_5068e_23 = z := ⟨_, rfl⟩
  have hEX : RES = fx_c_J0_charAt_5068e_23 := hR.symm
  refine lv_aload_n hx hb dJ0_charAt_5068e_0 rfl (lv_at hl 0 rfl) ?_
  as_aux_lemma =>
  obtain ⟨hPc, hDc, hFc, hqc⟩ := cl_cut (wc := []) hP hD hS hA [] (by decide +kernel) rfl
  have hKc := hK.sub (tys' := []) [] rfl
  have hrv := bv_Orecv hE_68 hS
  refine va_calli (va_runV (As := []) (rest := []) ⟨hx, hb, hml, hown, hts⟩ (c_J0_isLatin1_aae02_11 l dC dI H.size ts11) (cwV 0 hts gf_c_J0_charAt_5068e_23_c_J0_isLatin1_aae02_11 rfl rfl rfl mdV_J0_isLatin1_aae02 ⟨Nat.le_of_ble_eq_true rfl, Nat.le_of_ble_eq_true rfl⟩) ⟨fun a U g mk q => by obtain ⟨q0, q1, qP, qK, qD, qE0, qE1⟩ := q; exact ⟨q0, q1, qP, va_K.moved (u := U) (U := U.calling g mk a) (Vm.Alike.refl U.vm) qK, qD, va_Z.moved (u := U) (U := U.calling g mk a) (Vm.Alike.refl U.vm) qE0, va_OF.moved (u := U) (U := U.calling g mk a) (Vm.Alike.refl U.vm) qE1⟩, hrv, fun U hU hW => ⟨rfl, by rw [hU], by rw [hU]; exact hPc, va_K.moved hW.alike hKc, hDc.weaken (fun _ _ _ _ => trivial), va_Z.moved hW.alike (by rw [hU]; exact (hE_10.kept hS.2.1).narrow hFc), va_OF.moved hW.alike (by rw [hU]; exact (hE_69.kept hS.2.1).narrow hFc)⟩⟩ rfl rfl hl.1 rfl (lv_room (Nat.le_of_ble_eq_true rfl)) dJ0_charAt_5068e_1 ⟨Nat.le_of_ble_eq_true rfl, Nat.le_of_ble_eq_true rfl⟩) hS (fun q _ h => hFc q h) hFc (fun r_1 u t H1 locs ht hvm hw hB hz1 hk1 hS => ?_)
  obtain ⟨hP1, hK1, hD1⟩ := hB
  rw [ht] at hP1
  have hP := bv_still hP hk1
  generalize H1 = H at hP hS ⊢
  as_aux_lemma =>
  rcases hw with ⟨h_2, h_3⟩
  have h_3 : r_1 = _ := h_3
  replace hEX := hEX.trans (exc1_eq h_3)
  rw [h_2]
  refine lv_if_eq (tgt := 16) hx hb dJ0_charAt_5068e_4 rfl (fun c_4 => absurd c_4 (by decide +kernel)) (fun c_4 => ?_)
  refine lv_aload_n hx hb dJ0_charAt_5068e_7 rfl (lv_at hl 0 rfl) ?_
  refine vk_getf hx hb hE_70 hS hown (hts (.fieldLink RJ0 9 "java/lang/String" "value" "[B") (List.mem_of_getElem? (i := 8) rfl)) (fun _ h9 => h9) dJ0_charAt_5068e_8 ?_
  refine lv_iload_n hx hb dJ0_charAt_5068e_11 rfl (lv_at hl 1 rfl) ?_
  obtain ⟨hPc, hDc, hFc, hqc⟩ := cl_cut (wc := []) hP hD hS hA [] (by decide +kernel) rfl
  have hKc := hK.sub (tys' := []) [] rfl
  refine va_calli (va_runS (As := [.ref tv11, .int 0]) (rest := []) ⟨hx, hb, hml, hown, hts⟩ (c_J1_charAt_3b067_23 l dC dI H.size tv11) (va_cwS 2 hts gf_c_J0_charAt_5068e_23_c_J1_charAt_3b067_23 rfl rfl rfl md_J1_charAt_3b067 ⟨Nat.le_of_ble_eq_true rfl, Nat.le_of_ble_eq_true rfl⟩) ⟨fun a U g mk q => by obtain ⟨q0, q1, qP, qK, qD, qE0, qE1⟩ := q; exact ⟨q0, q1, qP, va_K.moved (u := U) (U := U.calling g mk a) (Vm.Alike.refl U.vm) qK, qD, va_T.moved (u := U) (U := U.calling g mk a) (Vm.Alike.refl U.vm) qE0, va_Zq.moved (u := U) (U := U.calling g mk a) (Vm.Alike.refl U.vm) qE1⟩, fun U hU hW => ⟨rfl, by rw [hU], by rw [hU]; exact hPc, va_K.moved hW.alike hKc, hDc.weaken (fun _ _ _ _ => trivial), va_T.moved hW.alike (by rw [hU]; exact (hE_71.kept hS.2.1).narrow hFc), va_Zq.moved hW.alike (by rw [hU]; exact (hE_11.kept hS.2.1).narrow hFc)⟩⟩ rfl rfl hl.1 rfl (lv_room (Nat.le_of_ble_eq_true rfl)) dJ0_charAt_5068e_12 ⟨Nat.le_of_ble_eq_true rfl, Nat.le_of_ble_eq_true rfl⟩) hS (fun q _ h => hFc q h) hFc (fun r_5 u t H1 locs ht hvm hw hB hz1 hk1 hS => ?_)
  obtain ⟨hP1, hK1, hD1⟩ := hB
  rw [ht] at hP1
  have hP := bv_still hP hk1
  generalize H1 = H at hP hS ⊢
  as_aux_lemma =>
  rcases hw with ⟨h_6, h_7⟩
  have h_7 : r_5 = _ := h_7
  replace hEX := hEX.trans (exc1_eq h_7)
  rw [h_6]
  have hK9 := hK.sub (tys' := []) [] rfl
  exact W.zret (v := 103) hx hb hr rfl (fun t ht hW => ⟨⟨103, (), rfl, ⟨rfl, (hR.trans hEX).symm⟩, by rw [ht]; exact hP, va_K.moved hW.alike hK9, hD⟩, hS.F ht⟩) hS.2.2 dJ0_charAt_5068e_15
noncomputable def wf_c_J1_charAt_3b067_24 : List Cond := .code yJ1_charAt_3b067 cJ1_charAt_3b067 2 (some .char) :: ([.methodLink RJ1 9 yJ0_checkIndex_df160, .static yJ0_checkIndex_df160, .initialized RJ0, .code yJ0_checkIndex_df160 cJ0_checkIndex_df160 2 none, .fieldLink RJ0 1053 "jdk/internal/util/Preconditions" "SIOOBE_FORMATTER" "Ljava/util/function/BiFunction;", .methodLink RJ0 1059 yJ3_checkIndex_8e157, .static yJ3_checkIndex_8e157, .initialized RJ3, .code yJ3_checkIndex_8e157 cJ3_checkIndex_8e157 3 (some .int)])
set_option maxRecDepth 20000 in
theorem gf_c_J1_charAt_3b067_24_c_J0_checkIndex_df160_1 : GoodIn wf_c_J1_charAt_3b067_24 (va_wsS RJ1 9 yJ0_checkIndex_df160 wf_c_J0_checkIndex_df160_1) := goodIn_app (gi_l [1, 2, 3] rfl rfl) (gi_cons (j := 4) rfl rfl (gi_l [5, 6, 7, 8, 9] rfl rfl))
set_option maxHeartbeats 4000000 in
set_option maxRecDepth 100000 in
theorem c_J1_charAt_3b067_24 (l : Launch) (dC : Nat → ClassId) (dI : Nat → Nat → Nat) (sz : Nat) (tv11 : Nat) : Met l yJ1_charAt_3b067 wf_c_J1_charAt_3b067_24 ({ frames := 2, cells := 0, slots := 0, locals := 43 }) (va_Pc [.ref tv11, .int 1] (fun U => U.heap.size = sz ∧ va_P (dC, dI) vwCl [] U.heap ∧ va_K (dC, dI) vwCl [] U ∧ va_D (fun _ => True) [] ∧ va_T .byte tv11 4 (fun j => .int ([103, 115, 99, 104].getD j 0)) (va_A [] sz) U U.heap ∧ va_Zq "jdk/internal/util/Preconditions" "SIOOBE_FORMATTER" "Ljava/util/function/BiFunction;" (va_A [] sz) U U.heap)) (va_Qi (fun (r : Int32) (u : Unit) => (r = 115 ∧ r = fx_c_J1_charAt_3b067_24)) (fun (u : Unit) t => va_P (dC, dI) vwCl [] t.heap ∧ va_K (dC, dI) vwCl [] t ∧ va_D (va_A [] sz) []) (va_A [] sz)) 0 0 (va_A [] sz) := by
  refine Met.ofW (cc := cJ1_charAt_3b067) (maxL := 2) (ret := (some .char)) (by decide +kernel) rfl ?_
  intro p e s m args below meth c s₁ B hml hv
  obtain ⟨rfl, hsz, hP, hK, hD0, hE_71, hE_11⟩ := hv
  have hx := B.exec
  have hb := B.bytes
  have hr := B.returns
  have hts := atoms_spec (ws := wf_c_J1_charAt_3b067_24) B.pre
  have hown : s.vm.findClass RJ1 = some m.cls := findClass_of_methodNamed B.named
  have hlocks := B.notSynchronized
  subst hsz
  have hD := hD0.self (sz := s.heap.size)
  generalize hAe : va_A [] s.heap.size = A at hD hE_71 hE_11 ⊢
  have hA : ∀ q : Nat, s.heap.size ≤ q → A q := fun q h => by rw [← hAe]; exact Or.inr h
  have hP : va_P (dC, dI) vwCl [] s.heap := hP
  have hl := lv_entry ([.ref tv11, .int 1]) (n := 2) (Nat.le_of_ble_eq_true rfl)
  rw [lg_entry_eq]
  generalize (lg_sl ([.ref tv11, .int 1]) ++ List.replicate (2 - (lg_sl ([.ref tv11, .int 1])).length) Slot.unset).toArray = ls at hl ⊢
  have hl : lv_has ls 2 [(0, .ref tv11), (1, .int 1)] := hl
  obtain ⟨H, hHe⟩ : ∃ H : Heap, s.heap = H := ⟨_, rfl⟩
  have hS : va_S A s.heap H [] := by rw [hHe]; exact va_S.rf
  have hP : va_P (dC, dI) vwCl [] H := by rw [← hHe]; exact hP
  rw [hHe]
  obtain ⟨RES, hR⟩ : ∃ z, fx_c_J1_charAt_3b067_24 = z := ⟨_, rfl⟩
  have hEX : RES = fx_c_J1_charAt_3b067_24 := hR.symm
  refine lv_iload_n hx hb dJ1_charAt_3b067_0 rfl (lv_at hl 1 rfl) ?_
  as_aux_lemma =>
  refine lv_aload_n hx hb dJ1_charAt_3b067_1 rfl (lv_at hl 0 rfl) ?_
  refine va_tlen (v := 4) hx hb hE_71 hS rfl dJ1_charAt_3b067_2 ?_
  obtain ⟨hPc, hDc, hFc, hqc⟩ := cl_cut (wc := []) hP hD hS hA [] (by decide +kernel) rfl
  have hKc := hK.sub (tys' := []) [] rfl
  refine va_callv (va_runS (As := [.int 1, .int 4]) (rest := []) ⟨hx, hb, hml, hown, hts⟩ (c_J0_checkIndex_df160_1 l dC dI H.size) (va_cwS 2 hts gf_c_J1_charAt_3b067_24_c_J0_checkIndex_df160_1 rfl rfl rfl md_J0_checkIndex_df160 ⟨Nat.le_of_ble_eq_true rfl, Nat.le_of_ble_eq_true rfl⟩) ⟨fun a U g mk q => by obtain ⟨q0, q1, qP, qK, qD, qE0⟩ := q; exact ⟨q0, q1, qP, va_K.moved (u := U) (U := U.calling g mk a) (Vm.Alike.refl U.vm) qK, qD, va_Zq.moved (u := U) (U := U.calling g mk a) (Vm.Alike.refl U.vm) qE0⟩, fun U hU hW => ⟨rfl, by rw [hU], by rw [hU]; exact hPc, va_K.moved hW.alike hKc, hDc.weaken (fun _ _ _ _ => trivial), va_Zq.moved hW.alike (by rw [hU]; exact (hE_11.kept hS.2.1).narrow hFc)⟩⟩ rfl rfl hl.1 rfl (lv_room (Nat.le_of_ble_eq_true rfl)) dJ1_charAt_3b067_3 ⟨Nat.le_of_ble_eq_true rfl, Nat.le_of_ble_eq_true rfl⟩) hS (fun q _ h => hFc q h) hFc (fun u t H1 locs ht hvm hw hB hz1 hk1 hS => ?_)
  obtain ⟨hP1, hK1, hD1⟩ := hB
  rw [ht] at hP1
  have hP := bv_still hP hk1
  generalize H1 = H at hP hS ⊢
  as_aux_lemma =>
  have h_2 := hw
  refine lv_aload_n hx hb dJ1_charAt_3b067_6 rfl (lv_at hl 0 rfl) ?_
  refine lv_iload_n hx hb dJ1_charAt_3b067_7 rfl (lv_at hl 1 rfl) ?_
  refine va_tb (v := .int 115) hx hb hE_71 hS (by unfold vp_in; decide) rfl dJ1_charAt_3b067_8 ?_
  refine lv_sipush (v := 255) hx hb dJ1_charAt_3b067_9 kc_sipush_255 ?_
  refine lv_iand hx hb dJ1_charAt_3b067_12 ?_
  refine lv_topi (fun x_3 ex_3 => ?_)
  obtain rfl : x_3 = 115 := ex_3.trans (by decide +kernel)
  refine lv_i2c (v := 115) hx hb dJ1_charAt_3b067_13 (by decide +kernel) ?_
  have hK9 := hK.sub (tys' := []) [] rfl
  exact W.zret (v := 115) hx hb hr rfl (fun t ht hW => ⟨⟨115, (), rfl, ⟨rfl, (hR.trans hEX).symm⟩, by rw [ht]; exact hP, va_K.moved hW.alike hK9, hD⟩, hS.F ht⟩) hS.2.2 dJ1_charAt_3b067_14
noncomputable def wf_c_J0_charAt_5068e_24 : List Cond := .code yJ0_charAt_5068e cJ0_charAt_5068e 2 (some .char) :: ([.methodLink RJ0 492 yJ0_isLatin1_aae02, .instanceMethod yJ0_isLatin1_aae02, .selects RJ0 yJ0_isLatin1_aae02 yJ0_isLatin1_aae02, .initialized RJ0, .code yJ0_isLatin1_aae02 cJ0_isLatin1_aae02 1 (some .boolean), .fieldLink RJ0 38 "java/lang/String" "COMPACT_STRINGS" "Z", .fieldLink RJ0 15 "java/lang/String" "coder" "B", .fieldLink RJ0 9 "java/lang/String" "value" "[B", .methodLink RJ0 495 yJ1_charAt_3b067, .static yJ1_charAt_3b067, .initialized RJ1, .code yJ1_charAt_3b067 cJ1_charAt_3b067 2 (some .char), .methodLink RJ1 9 yJ0_checkIndex_df160, .static yJ0_checkIndex_df160, .code yJ0_checkIndex_df160 cJ0_checkIndex_df160 2 none, .fieldLink RJ0 1053 "jdk/internal/util/Preconditions" "SIOOBE_FORMATTER" "Ljava/util/function/BiFunction;", .methodLink RJ0 1059 yJ3_checkIndex_8e157, .static yJ3_checkIndex_8e157, .initialized RJ3, .code yJ3_checkIndex_8e157 cJ3_checkIndex_8e157 3 (some .int)])
set_option maxRecDepth 20000 in
theorem gf_c_J0_charAt_5068e_24_c_J0_isLatin1_aae02_11 : GoodIn wf_c_J0_charAt_5068e_24 (wsV RJ0 492 RJ0 yJ0_isLatin1_aae02 wf_c_J0_isLatin1_aae02_11) := goodIn_app (gi_l [1, 2, 3, 4] rfl rfl) (gi_cons (j := 5) rfl rfl (gi_l [6, 7] rfl rfl))
set_option maxRecDepth 20000 in
theorem gf_c_J0_charAt_5068e_24_c_J1_charAt_3b067_24 : GoodIn wf_c_J0_charAt_5068e_24 (va_wsS RJ0 495 yJ1_charAt_3b067 wf_c_J1_charAt_3b067_24) := goodIn_app (gi_l [9, 10, 11] rfl rfl) (gi_cons (j := 12) rfl rfl (gi_l [13, 14, 4, 15, 16, 17, 18, 19, 20] rfl rfl))
set_option maxHeartbeats 4000000 in
set_option maxRecDepth 100000 in
theorem c_J0_charAt_5068e_24 (l : Launch) (dC : Nat → ClassId) (dI : Nat → Nat → Nat) (sz : Nat) (ts11 : Nat) (tv11 : Nat) : Met l yJ0_charAt_5068e wf_c_J0_charAt_5068e_24 ({ frames := 3, cells := 0, slots := 0, locals := 64 }) (va_Pc [.ref ts11, .int 1] (fun U => U.heap.size = sz ∧ va_P (dC, dI) vwCl [] U.heap ∧ va_K (dC, dI) vwCl [] U ∧ va_D (fun _ => True) [] ∧ va_Z "java/lang/String" "COMPACT_STRINGS" "Z" (.int 1) (va_A [] sz) U U.heap ∧ va_OF "java/lang/String" "coder" "B" (.int 0) ts11 (va_A [] sz) U U.heap ∧ va_O "java/lang/String" ts11 (va_A [] sz) U U.heap ∧ va_OF "java/lang/String" "value" "[B" (.ref tv11) ts11 (va_A [] sz) U U.heap ∧ va_T .byte tv11 4 (fun j => .int ([103, 115, 99, 104].getD j 0)) (va_A [] sz) U U.heap ∧ va_Zq "jdk/internal/util/Preconditions" "SIOOBE_FORMATTER" "Ljava/util/function/BiFunction;" (va_A [] sz) U U.heap)) (va_Qi (fun (r : Int32) (u : Unit) => (r = 115 ∧ r = fx_c_J0_charAt_5068e_24)) (fun (u : Unit) t => va_P (dC, dI) vwCl [] t.heap ∧ va_K (dC, dI) vwCl [] t ∧ va_D (va_A [] sz) []) (va_A [] sz)) 0 0 (va_A [] sz) := by
  refine Met.ofW (cc := cJ0_charAt_5068e) (maxL := 2) (ret := (some .char)) (by decide +kernel) rfl ?_
  intro p e s m args below meth c s₁ B hml hv
  obtain ⟨rfl, hsz, hP, hK, hD0, hE_10, hE_69, hE_68, hE_70, hE_71, hE_11⟩ := hv
  have hx := B.exec
  have hb := B.bytes
  have hr := B.returns
  have hts := atoms_spec (ws := wf_c_J0_charAt_5068e_24) B.pre
  have hown : s.vm.findClass RJ0 = some m.cls := findClass_of_methodNamed B.named
  have hlocks := B.notSynchronized
  subst hsz
  have hD := hD0.self (sz := s.heap.size)
  generalize hAe : va_A [] s.heap.size = A at hD hE_10 hE_69 hE_68 hE_70 hE_71 hE_11 ⊢
  have hA : ∀ q : Nat, s.heap.size ≤ q → A q := fun q h => by rw [← hAe]; exact Or.inr h
  have hP : va_P (dC, dI) vwCl [] s.heap := hP
  have hl := lv_entry ([.ref ts11, .int 1]) (n := 2) (Nat.le_of_ble_eq_true rfl)
  rw [lg_entry_eq]
  generalize (lg_sl ([.ref ts11, .int 1]) ++ List.replicate (2 - (lg_sl ([.ref ts11, .int 1])).length) Slot.unset).toArray = ls at hl ⊢
  have hl : lv_has ls 2 [(0, .ref ts11), (1, .int 1)] := hl
  obtain ⟨H, hHe⟩ : ∃ H : Heap, s.heap = H := ⟨_, rfl⟩
  have hS : va_S A s.heap H [] := by rw [hHe]; exact va_S.rf
  have hP : va_P (dC, dI) vwCl [] H := by rw [← hHe]; exact hP
  rw [hHe]
  obtain ⟨RES, hR⟩ : ∃ z, fx_c_J0_charAt_5068e_24 = z := ⟨_, rfl⟩
  have hEX : RES = fx_c_J0_charAt_5068e_24 := hR.symm
  refine lv_aload_n hx hb dJ0_charAt_5068e_0 rfl (lv_at hl 0 rfl) ?_
  as_aux_lemma =>
  obtain ⟨hPc, hDc, hFc, hqc⟩ := cl_cut (wc := []) hP hD hS hA [] (by decide +kernel) rfl
  have hKc := hK.sub (tys' := []) [] rfl
  have hrv := bv_Orecv hE_68 hS
  refine va_calli (va_runV (As := []) (rest := []) ⟨hx, hb, hml, hown, hts⟩ (c_J0_isLatin1_aae02_11 l dC dI H.size ts11) (cwV 0 hts gf_c_J0_charAt_5068e_24_c_J0_isLatin1_aae02_11 rfl rfl rfl mdV_J0_isLatin1_aae02 ⟨Nat.le_of_ble_eq_true rfl, Nat.le_of_ble_eq_true rfl⟩) ⟨fun a U g mk q => by obtain ⟨q0, q1, qP, qK, qD, qE0, qE1⟩ := q; exact ⟨q0, q1, qP, va_K.moved (u := U) (U := U.calling g mk a) (Vm.Alike.refl U.vm) qK, qD, va_Z.moved (u := U) (U := U.calling g mk a) (Vm.Alike.refl U.vm) qE0, va_OF.moved (u := U) (U := U.calling g mk a) (Vm.Alike.refl U.vm) qE1⟩, hrv, fun U hU hW => ⟨rfl, by rw [hU], by rw [hU]; exact hPc, va_K.moved hW.alike hKc, hDc.weaken (fun _ _ _ _ => trivial), va_Z.moved hW.alike (by rw [hU]; exact (hE_10.kept hS.2.1).narrow hFc), va_OF.moved hW.alike (by rw [hU]; exact (hE_69.kept hS.2.1).narrow hFc)⟩⟩ rfl rfl hl.1 rfl (lv_room (Nat.le_of_ble_eq_true rfl)) dJ0_charAt_5068e_1 ⟨Nat.le_of_ble_eq_true rfl, Nat.le_of_ble_eq_true rfl⟩) hS (fun q _ h => hFc q h) hFc (fun r_1 u t H1 locs ht hvm hw hB hz1 hk1 hS => ?_)
  obtain ⟨hP1, hK1, hD1⟩ := hB
  rw [ht] at hP1
  have hP := bv_still hP hk1
  generalize H1 = H at hP hS ⊢
  as_aux_lemma =>
  rcases hw with ⟨h_2, h_3⟩
  have h_3 : r_1 = _ := h_3
  replace hEX := hEX.trans (exc1_eq h_3)
  rw [h_2]
  refine lv_if_eq (tgt := 16) hx hb dJ0_charAt_5068e_4 rfl (fun c_4 => absurd c_4 (by decide +kernel)) (fun c_4 => ?_)
  refine lv_aload_n hx hb dJ0_charAt_5068e_7 rfl (lv_at hl 0 rfl) ?_
  refine vk_getf hx hb hE_70 hS hown (hts (.fieldLink RJ0 9 "java/lang/String" "value" "[B") (List.mem_of_getElem? (i := 8) rfl)) (fun _ h9 => h9) dJ0_charAt_5068e_8 ?_
  refine lv_iload_n hx hb dJ0_charAt_5068e_11 rfl (lv_at hl 1 rfl) ?_
  obtain ⟨hPc, hDc, hFc, hqc⟩ := cl_cut (wc := []) hP hD hS hA [] (by decide +kernel) rfl
  have hKc := hK.sub (tys' := []) [] rfl
  refine va_calli (va_runS (As := [.ref tv11, .int 1]) (rest := []) ⟨hx, hb, hml, hown, hts⟩ (c_J1_charAt_3b067_24 l dC dI H.size tv11) (va_cwS 2 hts gf_c_J0_charAt_5068e_24_c_J1_charAt_3b067_24 rfl rfl rfl md_J1_charAt_3b067 ⟨Nat.le_of_ble_eq_true rfl, Nat.le_of_ble_eq_true rfl⟩) ⟨fun a U g mk q => by obtain ⟨q0, q1, qP, qK, qD, qE0, qE1⟩ := q; exact ⟨q0, q1, qP, va_K.moved (u := U) (U := U.calling g mk a) (Vm.Alike.refl U.vm) qK, qD, va_T.moved (u := U) (U := U.calling g mk a) (Vm.Alike.refl U.vm) qE0, va_Zq.moved (u := U) (U := U.calling g mk a) (Vm.Alike.refl U.vm) qE1⟩, fun U hU hW => ⟨rfl, by rw [hU], by rw [hU]; exact hPc, va_K.moved hW.alike hKc, hDc.weaken (fun _ _ _ _ => trivial), va_T.moved hW.alike (by rw [hU]; exact (hE_71.kept hS.2.1).narrow hFc), va_Zq.moved hW.alike (by rw [hU]; exact (hE_11.kept hS.2.1).narrow hFc)⟩⟩ rfl rfl hl.1 rfl (lv_room (Nat.le_of_ble_eq_true rfl)) dJ0_charAt_5068e_12 ⟨Nat.le_of_ble_eq_true rfl, Nat.le_of_ble_eq_true rfl⟩) hS (fun q _ h => hFc q h) hFc (fun r_5 u t H1 locs ht hvm hw hB hz1 hk1 hS => ?_)
  obtain ⟨hP1, hK1, hD1⟩ := hB
  rw [ht] at hP1
  have hP := bv_still hP hk1
  generalize H1 = H at hP hS ⊢
  as_aux_lemma =>
  rcases hw with ⟨h_6, h_7⟩
  have h_7 : r_5 = _ := h_7
  replace hEX := hEX.trans (exc1_eq h_7)
  rw [h_6]
  have hK9 := hK.sub (tys' := []) [] rfl
  exact W.zret (v := 115) hx hb hr rfl (fun t ht hW => ⟨⟨115, (), rfl, ⟨rfl, (hR.trans hEX).symm⟩, by rw [ht]; exact hP, va_K.moved hW.alike hK9, hD⟩, hS.F ht⟩) hS.2.2 dJ0_charAt_5068e_15
noncomputable def wf_c_J1_charAt_3b067_25 : List Cond := .code yJ1_charAt_3b067 cJ1_charAt_3b067 2 (some .char) :: ([.methodLink RJ1 9 yJ0_checkIndex_df160, .static yJ0_checkIndex_df160, .initialized RJ0, .code yJ0_checkIndex_df160 cJ0_checkIndex_df160 2 none, .fieldLink RJ0 1053 "jdk/internal/util/Preconditions" "SIOOBE_FORMATTER" "Ljava/util/function/BiFunction;", .methodLink RJ0 1059 yJ3_checkIndex_8e157, .static yJ3_checkIndex_8e157, .initialized RJ3, .code yJ3_checkIndex_8e157 cJ3_checkIndex_8e157 3 (some .int)])
set_option maxRecDepth 20000 in
theorem gf_c_J1_charAt_3b067_25_c_J0_checkIndex_df160_2 : GoodIn wf_c_J1_charAt_3b067_25 (va_wsS RJ1 9 yJ0_checkIndex_df160 wf_c_J0_checkIndex_df160_2) := goodIn_app (gi_l [1, 2, 3] rfl rfl) (gi_cons (j := 4) rfl rfl (gi_l [5, 6, 7, 8, 9] rfl rfl))
set_option maxHeartbeats 4000000 in
set_option maxRecDepth 100000 in
theorem c_J1_charAt_3b067_25 (l : Launch) (dC : Nat → ClassId) (dI : Nat → Nat → Nat) (sz : Nat) (tv11 : Nat) : Met l yJ1_charAt_3b067 wf_c_J1_charAt_3b067_25 ({ frames := 2, cells := 0, slots := 0, locals := 43 }) (va_Pc [.ref tv11, .int 2] (fun U => U.heap.size = sz ∧ va_P (dC, dI) vwCl [] U.heap ∧ va_K (dC, dI) vwCl [] U ∧ va_D (fun _ => True) [] ∧ va_T .byte tv11 4 (fun j => .int ([103, 115, 99, 104].getD j 0)) (va_A [] sz) U U.heap ∧ va_Zq "jdk/internal/util/Preconditions" "SIOOBE_FORMATTER" "Ljava/util/function/BiFunction;" (va_A [] sz) U U.heap)) (va_Qi (fun (r : Int32) (u : Unit) => (r = 99 ∧ r = fx_c_J1_charAt_3b067_25)) (fun (u : Unit) t => va_P (dC, dI) vwCl [] t.heap ∧ va_K (dC, dI) vwCl [] t ∧ va_D (va_A [] sz) []) (va_A [] sz)) 0 0 (va_A [] sz) := by
  refine Met.ofW (cc := cJ1_charAt_3b067) (maxL := 2) (ret := (some .char)) (by decide +kernel) rfl ?_
  intro p e s m args below meth c s₁ B hml hv
  obtain ⟨rfl, hsz, hP, hK, hD0, hE_71, hE_11⟩ := hv
  have hx := B.exec
  have hb := B.bytes
  have hr := B.returns
  have hts := atoms_spec (ws := wf_c_J1_charAt_3b067_25) B.pre
  have hown : s.vm.findClass RJ1 = some m.cls := findClass_of_methodNamed B.named
  have hlocks := B.notSynchronized
  subst hsz
  have hD := hD0.self (sz := s.heap.size)
  generalize hAe : va_A [] s.heap.size = A at hD hE_71 hE_11 ⊢
  have hA : ∀ q : Nat, s.heap.size ≤ q → A q := fun q h => by rw [← hAe]; exact Or.inr h
  have hP : va_P (dC, dI) vwCl [] s.heap := hP
  have hl := lv_entry ([.ref tv11, .int 2]) (n := 2) (Nat.le_of_ble_eq_true rfl)
  rw [lg_entry_eq]
  generalize (lg_sl ([.ref tv11, .int 2]) ++ List.replicate (2 - (lg_sl ([.ref tv11, .int 2])).length) Slot.unset).toArray = ls at hl ⊢
  have hl : lv_has ls 2 [(0, .ref tv11), (1, .int 2)] := hl
  obtain ⟨H, hHe⟩ : ∃ H : Heap, s.heap = H := ⟨_, rfl⟩
  have hS : va_S A s.heap H [] := by rw [hHe]; exact va_S.rf
  have hP : va_P (dC, dI) vwCl [] H := by rw [← hHe]; exact hP
  rw [hHe]
  obtain ⟨RES, hR⟩ : ∃ z, fx_c_J1_charAt_3b067_25 = z := ⟨_, rfl⟩
  have hEX : RES = fx_c_J1_charAt_3b067_25 := hR.symm
  refine lv_iload_n hx hb dJ1_charAt_3b067_0 rfl (lv_at hl 1 rfl) ?_
  as_aux_lemma =>
  refine lv_aload_n hx hb dJ1_charAt_3b067_1 rfl (lv_at hl 0 rfl) ?_
  refine va_tlen (v := 4) hx hb hE_71 hS rfl dJ1_charAt_3b067_2 ?_
  obtain ⟨hPc, hDc, hFc, hqc⟩ := cl_cut (wc := []) hP hD hS hA [] (by decide +kernel) rfl
  have hKc := hK.sub (tys' := []) [] rfl
  refine va_callv (va_runS (As := [.int 2, .int 4]) (rest := []) ⟨hx, hb, hml, hown, hts⟩ (c_J0_checkIndex_df160_2 l dC dI H.size) (va_cwS 2 hts gf_c_J1_charAt_3b067_25_c_J0_checkIndex_df160_2 rfl rfl rfl md_J0_checkIndex_df160 ⟨Nat.le_of_ble_eq_true rfl, Nat.le_of_ble_eq_true rfl⟩) ⟨fun a U g mk q => by obtain ⟨q0, q1, qP, qK, qD, qE0⟩ := q; exact ⟨q0, q1, qP, va_K.moved (u := U) (U := U.calling g mk a) (Vm.Alike.refl U.vm) qK, qD, va_Zq.moved (u := U) (U := U.calling g mk a) (Vm.Alike.refl U.vm) qE0⟩, fun U hU hW => ⟨rfl, by rw [hU], by rw [hU]; exact hPc, va_K.moved hW.alike hKc, hDc.weaken (fun _ _ _ _ => trivial), va_Zq.moved hW.alike (by rw [hU]; exact (hE_11.kept hS.2.1).narrow hFc)⟩⟩ rfl rfl hl.1 rfl (lv_room (Nat.le_of_ble_eq_true rfl)) dJ1_charAt_3b067_3 ⟨Nat.le_of_ble_eq_true rfl, Nat.le_of_ble_eq_true rfl⟩) hS (fun q _ h => hFc q h) hFc (fun u t H1 locs ht hvm hw hB hz1 hk1 hS => ?_)
  obtain ⟨hP1, hK1, hD1⟩ := hB
  rw [ht] at hP1
  have hP := bv_still hP hk1
  generalize H1 = H at hP hS ⊢
  as_aux_lemma =>
  have h_2 := hw
  refine lv_aload_n hx hb dJ1_charAt_3b067_6 rfl (lv_at hl 0 rfl) ?_
  refine lv_iload_n hx hb dJ1_charAt_3b067_7 rfl (lv_at hl 1 rfl) ?_
  refine va_tb (v := .int 99) hx hb hE_71 hS (by unfold vp_in; decide) rfl dJ1_charAt_3b067_8 ?_
  refine lv_sipush (v := 255) hx hb dJ1_charAt_3b067_9 kc_sipush_255 ?_
  refine lv_iand hx hb dJ1_charAt_3b067_12 ?_
  refine lv_topi (fun x_3 ex_3 => ?_)
  obtain rfl : x_3 = 99 := ex_3.trans (by decide +kernel)
  refine lv_i2c (v := 99) hx hb dJ1_charAt_3b067_13 (by decide +kernel) ?_
  have hK9 := hK.sub (tys' := []) [] rfl
  exact W.zret (v := 99) hx hb hr rfl (fun t ht hW => ⟨⟨99, (), rfl, ⟨rfl, (hR.trans hEX).symm⟩, by rw [ht]; exact hP, va_K.moved hW.alike hK9, hD⟩, hS.F ht⟩) hS.2.2 dJ1_charAt_3b067_14
noncomputable def wf_c_J0_charAt_5068e_25 : List Cond := .code yJ0_charAt_5068e cJ0_charAt_5068e 2 (some .char) :: ([.methodLink RJ0 492 yJ0_isLatin1_aae02, .instanceMethod yJ0_isLatin1_aae02, .selects RJ0 yJ0_isLatin1_aae02 yJ0_isLatin1_aae02, .initialized RJ0, .code yJ0_isLatin1_aae02 cJ0_isLatin1_aae02 1 (some .boolean), .fieldLink RJ0 38 "java/lang/String" "COMPACT_STRINGS" "Z", .fieldLink RJ0 15 "java/lang/String" "coder" "B", .fieldLink RJ0 9 "java/lang/String" "value" "[B", .methodLink RJ0 495 yJ1_charAt_3b067, .static yJ1_charAt_3b067, .initialized RJ1, .code yJ1_charAt_3b067 cJ1_charAt_3b067 2 (some .char), .methodLink RJ1 9 yJ0_checkIndex_df160, .static yJ0_checkIndex_df160, .code yJ0_checkIndex_df160 cJ0_checkIndex_df160 2 none, .fieldLink RJ0 1053 "jdk/internal/util/Preconditions" "SIOOBE_FORMATTER" "Ljava/util/function/BiFunction;", .methodLink RJ0 1059 yJ3_checkIndex_8e157, .static yJ3_checkIndex_8e157, .initialized RJ3, .code yJ3_checkIndex_8e157 cJ3_checkIndex_8e157 3 (some .int)])
set_option maxRecDepth 20000 in
theorem gf_c_J0_charAt_5068e_25_c_J0_isLatin1_aae02_11 : GoodIn wf_c_J0_charAt_5068e_25 (wsV RJ0 492 RJ0 yJ0_isLatin1_aae02 wf_c_J0_isLatin1_aae02_11) := goodIn_app (gi_l [1, 2, 3, 4] rfl rfl) (gi_cons (j := 5) rfl rfl (gi_l [6, 7] rfl rfl))
set_option maxRecDepth 20000 in
theorem gf_c_J0_charAt_5068e_25_c_J1_charAt_3b067_25 : GoodIn wf_c_J0_charAt_5068e_25 (va_wsS RJ0 495 yJ1_charAt_3b067 wf_c_J1_charAt_3b067_25) := goodIn_app (gi_l [9, 10, 11] rfl rfl) (gi_cons (j := 12) rfl rfl (gi_l [13, 14, 4, 15, 16, 17, 18, 19, 20] rfl rfl))
set_option maxHeartbeats 4000000 in
set_option maxRecDepth 100000 in
theorem c_J0_charAt_5068e_25 (l : Launch) (dC : Nat → ClassId) (dI : Nat → Nat → Nat) (sz : Nat) (ts11 : Nat) (tv11 : Nat) : Met l yJ0_charAt_5068e wf_c_J0_charAt_5068e_25 ({ frames := 3, cells := 0, slots := 0, locals := 64 }) (va_Pc [.ref ts11, .int 2] (fun U => U.heap.size = sz ∧ va_P (dC, dI) vwCl [] U.heap ∧ va_K (dC, dI) vwCl [] U ∧ va_D (fun _ => True) [] ∧ va_Z "java/lang/String" "COMPACT_STRINGS" "Z" (.int 1) (va_A [] sz) U U.heap ∧ va_OF "java/lang/String" "coder" "B" (.int 0) ts11 (va_A [] sz) U U.heap ∧ va_O "java/lang/String" ts11 (va_A [] sz) U U.heap ∧ va_OF "java/lang/String" "value" "[B" (.ref tv11) ts11 (va_A [] sz) U U.heap ∧ va_T .byte tv11 4 (fun j => .int ([103, 115, 99, 104].getD j 0)) (va_A [] sz) U U.heap ∧ va_Zq "jdk/internal/util/Preconditions" "SIOOBE_FORMATTER" "Ljava/util/function/BiFunction;" (va_A [] sz) U U.heap)) (va_Qi (fun (r : Int32) (u : Unit) => (r = 99 ∧ r = fx_c_J0_charAt_5068e_25)) (fun (u : Unit) t => va_P (dC, dI) vwCl [] t.heap ∧ va_K (dC, dI) vwCl [] t ∧ va_D (va_A [] sz) []) (va_A [] sz)) 0 0 (va_A [] sz) := by
  refine Met.ofW (cc := cJ0_charAt_5068e) (maxL := 2) (ret := (some .char)) (by decide +kernel) rfl ?_
  intro p e s m args below meth c s₁ B hml hv
  obtain ⟨rfl, hsz, hP, hK, hD0, hE_10, hE_69, hE_68, hE_70, hE_71, hE_11⟩ := hv
  have hx := B.exec
  have hb := B.bytes
  have hr := B.returns
  have hts := atoms_spec (ws := wf_c_J0_charAt_5068e_25) B.pre
  have hown : s.vm.findClass RJ0 = some m.cls := findClass_of_methodNamed B.named
  have hlocks := B.notSynchronized
  subst hsz
  have hD := hD0.self (sz := s.heap.size)
  generalize hAe : va_A [] s.heap.size = A at hD hE_10 hE_69 hE_68 hE_70 hE_71 hE_11 ⊢
  have hA : ∀ q : Nat, s.heap.size ≤ q → A q := fun q h => by rw [← hAe]; exact Or.inr h
  have hP : va_P (dC, dI) vwCl [] s.heap := hP
  have hl := lv_entry ([.ref ts11, .int 2]) (n := 2) (Nat.le_of_ble_eq_true rfl)
  rw [lg_entry_eq]
  generalize (lg_sl ([.ref ts11, .int 2]) ++ List.replicate (2 - (lg_sl ([.ref ts11, .int 2])).length) Slot.unset).toArray = ls at hl ⊢
  have hl : lv_has ls 2 [(0, .ref ts11), (1, .int 2)] := hl
  obtain ⟨H, hHe⟩ : ∃ H : Heap, s.heap = H := ⟨_, rfl⟩
  have hS : va_S A s.heap H [] := by rw [hHe]; exact va_S.rf
  have hP : va_P (dC, dI) vwCl [] H := by rw [← hHe]; exact hP
  rw [hHe]
  obtain ⟨RES, hR⟩ : ∃ z, fx_c_J0_charAt_5068e_25 = z := ⟨_, rfl⟩
  have hEX : RES = fx_c_J0_charAt_5068e_25 := hR.symm
  refine lv_aload_n hx hb dJ0_charAt_5068e_0 rfl (lv_at hl 0 rfl) ?_
  as_aux_lemma =>
  obtain ⟨hPc, hDc, hFc, hqc⟩ := cl_cut (wc := []) hP hD hS hA [] (by decide +kernel) rfl
  have hKc := hK.sub (tys' := []) [] rfl
  have hrv := bv_Orecv hE_68 hS
  refine va_calli (va_runV (As := []) (rest := []) ⟨hx, hb, hml, hown, hts⟩ (c_J0_isLatin1_aae02_11 l dC dI H.size ts11) (cwV 0 hts gf_c_J0_charAt_5068e_25_c_J0_isLatin1_aae02_11 rfl rfl rfl mdV_J0_isLatin1_aae02 ⟨Nat.le_of_ble_eq_true rfl, Nat.le_of_ble_eq_true rfl⟩) ⟨fun a U g mk q => by obtain ⟨q0, q1, qP, qK, qD, qE0, qE1⟩ := q; exact ⟨q0, q1, qP, va_K.moved (u := U) (U := U.calling g mk a) (Vm.Alike.refl U.vm) qK, qD, va_Z.moved (u := U) (U := U.calling g mk a) (Vm.Alike.refl U.vm) qE0, va_OF.moved (u := U) (U := U.calling g mk a) (Vm.Alike.refl U.vm) qE1⟩, hrv, fun U hU hW => ⟨rfl, by rw [hU], by rw [hU]; exact hPc, va_K.moved hW.alike hKc, hDc.weaken (fun _ _ _ _ => trivial), va_Z.moved hW.alike (by rw [hU]; exact (hE_10.kept hS.2.1).narrow hFc), va_OF.moved hW.alike (by rw [hU]; exact (hE_69.kept hS.2.1).narrow hFc)⟩⟩ rfl rfl hl.1 rfl (lv_room (Nat.le_of_ble_eq_true rfl)) dJ0_charAt_5068e_1 ⟨Nat.le_of_ble_eq_true rfl, Nat.le_of_ble_eq_true rfl⟩) hS (fun q _ h => hFc q h) hFc (fun r_1 u t H1 locs ht hvm hw hB hz1 hk1 hS => ?_)
  obtain ⟨hP1, hK1, hD1⟩ := hB
  rw [ht] at hP1
  have hP := bv_still hP hk1
  generalize H1 = H at hP hS ⊢
  as_aux_lemma =>
  rcases hw with ⟨h_2, h_3⟩
  have h_3 : r_1 = _ := h_3
  replace hEX := hEX.trans (exc1_eq h_3)
  rw [h_2]
  refine lv_if_eq (tgt := 16) hx hb dJ0_charAt_5068e_4 rfl (fun c_4 => absurd c_4 (by decide +kernel)) (fun c_4 => ?_)
  refine lv_aload_n hx hb dJ0_charAt_5068e_7 rfl (lv_at hl 0 rfl) ?_
  refine vk_getf hx hb hE_70 hS hown (hts (.fieldLink RJ0 9 "java/lang/String" "value" "[B") (List.mem_of_getElem? (i := 8) rfl)) (fun _ h9 => h9) dJ0_charAt_5068e_8 ?_
  refine lv_iload_n hx hb dJ0_charAt_5068e_11 rfl (lv_at hl 1 rfl) ?_
  obtain ⟨hPc, hDc, hFc, hqc⟩ := cl_cut (wc := []) hP hD hS hA [] (by decide +kernel) rfl
  have hKc := hK.sub (tys' := []) [] rfl
  refine va_calli (va_runS (As := [.ref tv11, .int 2]) (rest := []) ⟨hx, hb, hml, hown, hts⟩ (c_J1_charAt_3b067_25 l dC dI H.size tv11) (va_cwS 2 hts gf_c_J0_charAt_5068e_25_c_J1_charAt_3b067_25 rfl rfl rfl md_J1_charAt_3b067 ⟨Nat.le_of_ble_eq_true rfl, Nat.le_of_ble_eq_true rfl⟩) ⟨fun a U g mk q => by obtain ⟨q0, q1, qP, qK, qD, qE0, qE1⟩ := q; exact ⟨q0, q1, qP, va_K.moved (u := U) (U := U.calling g mk a) (Vm.Alike.refl U.vm) qK, qD, va_T.moved (u := U) (U := U.calling g mk a) (Vm.Alike.refl U.vm) qE0, va_Zq.moved (u := U) (U := U.calling g mk a) (Vm.Alike.refl U.vm) qE1⟩, fun U hU hW => ⟨rfl, by rw [hU], by rw [hU]; exact hPc, va_K.moved hW.alike hKc, hDc.weaken (fun _ _ _ _ => trivial), va_T.moved hW.alike (by rw [hU]; exact (hE_71.kept hS.2.1).narrow hFc), va_Zq.moved hW.alike (by rw [hU]; exact (hE_11.kept hS.2.1).narrow hFc)⟩⟩ rfl rfl hl.1 rfl (lv_room (Nat.le_of_ble_eq_true rfl)) dJ0_charAt_5068e_12 ⟨Nat.le_of_ble_eq_true rfl, Nat.le_of_ble_eq_true rfl⟩) hS (fun q _ h => hFc q h) hFc (fun r_5 u t H1 locs ht hvm hw hB hz1 hk1 hS => ?_)
  obtain ⟨hP1, hK1, hD1⟩ := hB
  rw [ht] at hP1
  have hP := bv_still hP hk1
  generalize H1 = H at hP hS ⊢
  as_aux_lemma =>
  rcases hw with ⟨h_6, h_7⟩
  have h_7 : r_5 = _ := h_7
  replace hEX := hEX.trans (exc1_eq h_7)
  rw [h_6]
  have hK9 := hK.sub (tys' := []) [] rfl
  exact W.zret (v := 99) hx hb hr rfl (fun t ht hW => ⟨⟨99, (), rfl, ⟨rfl, (hR.trans hEX).symm⟩, by rw [ht]; exact hP, va_K.moved hW.alike hK9, hD⟩, hS.F ht⟩) hS.2.2 dJ0_charAt_5068e_15
noncomputable def wf_c_J1_charAt_3b067_26 : List Cond := .code yJ1_charAt_3b067 cJ1_charAt_3b067 2 (some .char) :: ([.methodLink RJ1 9 yJ0_checkIndex_df160, .static yJ0_checkIndex_df160, .initialized RJ0, .code yJ0_checkIndex_df160 cJ0_checkIndex_df160 2 none, .fieldLink RJ0 1053 "jdk/internal/util/Preconditions" "SIOOBE_FORMATTER" "Ljava/util/function/BiFunction;", .methodLink RJ0 1059 yJ3_checkIndex_8e157, .static yJ3_checkIndex_8e157, .initialized RJ3, .code yJ3_checkIndex_8e157 cJ3_checkIndex_8e157 3 (some .int)])
set_option maxRecDepth 20000 in
theorem gf_c_J1_charAt_3b067_26_c_J0_checkIndex_df160_3 : GoodIn wf_c_J1_charAt_3b067_26 (va_wsS RJ1 9 yJ0_checkIndex_df160 wf_c_J0_checkIndex_df160_3) := goodIn_app (gi_l [1, 2, 3] rfl rfl) (gi_cons (j := 4) rfl rfl (gi_l [5, 6, 7, 8, 9] rfl rfl))
set_option maxHeartbeats 4000000 in
set_option maxRecDepth 100000 in
theorem c_J1_charAt_3b067_26 (l : Launch) (dC : Nat → ClassId) (dI : Nat → Nat → Nat) (sz : Nat) (tv11 : Nat) : Met l yJ1_charAt_3b067 wf_c_J1_charAt_3b067_26 ({ frames := 2, cells := 0, slots := 0, locals := 43 }) (va_Pc [.ref tv11, .int 3] (fun U => U.heap.size = sz ∧ va_P (dC, dI) vwCl [] U.heap ∧ va_K (dC, dI) vwCl [] U ∧ va_D (fun _ => True) [] ∧ va_T .byte tv11 4 (fun j => .int ([103, 115, 99, 104].getD j 0)) (va_A [] sz) U U.heap ∧ va_Zq "jdk/internal/util/Preconditions" "SIOOBE_FORMATTER" "Ljava/util/function/BiFunction;" (va_A [] sz) U U.heap)) (va_Qi (fun (r : Int32) (u : Unit) => (r = 104 ∧ r = fx_c_J1_charAt_3b067_26)) (fun (u : Unit) t => va_P (dC, dI) vwCl [] t.heap ∧ va_K (dC, dI) vwCl [] t ∧ va_D (va_A [] sz) []) (va_A [] sz)) 0 0 (va_A [] sz) := by
  refine Met.ofW (cc := cJ1_charAt_3b067) (maxL := 2) (ret := (some .char)) (by decide +kernel) rfl ?_
  intro p e s m args below meth c s₁ B hml hv
  obtain ⟨rfl, hsz, hP, hK, hD0, hE_71, hE_11⟩ := hv
  have hx := B.exec
  have hb := B.bytes
  have hr := B.returns
  have hts := atoms_spec (ws := wf_c_J1_charAt_3b067_26) B.pre
  have hown : s.vm.findClass RJ1 = some m.cls := findClass_of_methodNamed B.named
  have hlocks := B.notSynchronized
  subst hsz
  have hD := hD0.self (sz := s.heap.size)
  generalize hAe : va_A [] s.heap.size = A at hD hE_71 hE_11 ⊢
  have hA : ∀ q : Nat, s.heap.size ≤ q → A q := fun q h => by rw [← hAe]; exact Or.inr h
  have hP : va_P (dC, dI) vwCl [] s.heap := hP
  have hl := lv_entry ([.ref tv11, .int 3]) (n := 2) (Nat.le_of_ble_eq_true rfl)
  rw [lg_entry_eq]
  generalize (lg_sl ([.ref tv11, .int 3]) ++ List.replicate (2 - (lg_sl ([.ref tv11, .int 3])).length) Slot.unset).toArray = ls at hl ⊢
  have hl : lv_has ls 2 [(0, .ref tv11), (1, .int 3)] := hl
  obtain ⟨H, hHe⟩ : ∃ H : Heap, s.heap = H := ⟨_, rfl⟩
  have hS : va_S A s.heap H [] := by rw [hHe]; exact va_S.rf
  have hP : va_P (dC, dI) vwCl [] H := by rw [← hHe]; exact hP
  rw [hHe]
  obtain ⟨RES, hR⟩ : ∃ z, fx_c_J1_charAt_3b067_26 = z := ⟨_, rfl⟩
  have hEX : RES = fx_c_J1_charAt_3b067_26 := hR.symm
  refine lv_iload_n hx hb dJ1_charAt_3b067_0 rfl (lv_at hl 1 rfl) ?_
  as_aux_lemma =>
  refine lv_aload_n hx hb dJ1_charAt_3b067_1 rfl (lv_at hl 0 rfl) ?_
  refine va_tlen (v := 4) hx hb hE_71 hS rfl dJ1_charAt_3b067_2 ?_
  obtain ⟨hPc, hDc, hFc, hqc⟩ := cl_cut (wc := []) hP hD hS hA [] (by decide +kernel) rfl
  have hKc := hK.sub (tys' := []) [] rfl
  refine va_callv (va_runS (As := [.int 3, .int 4]) (rest := []) ⟨hx, hb, hml, hown, hts⟩ (c_J0_checkIndex_df160_3 l dC dI H.size) (va_cwS 2 hts gf_c_J1_charAt_3b067_26_c_J0_checkIndex_df160_3 rfl rfl rfl md_J0_checkIndex_df160 ⟨Nat.le_of_ble_eq_true rfl, Nat.le_of_ble_eq_true rfl⟩) ⟨fun a U g mk q => by obtain ⟨q0, q1, qP, qK, qD, qE0⟩ := q; exact ⟨q0, q1, qP, va_K.moved (u := U) (U := U.calling g mk a) (Vm.Alike.refl U.vm) qK, qD, va_Zq.moved (u := U) (U := U.calling g mk a) (Vm.Alike.refl U.vm) qE0⟩, fun U hU hW => ⟨rfl, by rw [hU], by rw [hU]; exact hPc, va_K.moved hW.alike hKc, hDc.weaken (fun _ _ _ _ => trivial), va_Zq.moved hW.alike (by rw [hU]; exact (hE_11.kept hS.2.1).narrow hFc)⟩⟩ rfl rfl hl.1 rfl (lv_room (Nat.le_of_ble_eq_true rfl)) dJ1_charAt_3b067_3 ⟨Nat.le_of_ble_eq_true rfl, Nat.le_of_ble_eq_true rfl⟩) hS (fun q _ h => hFc q h) hFc (fun u t H1 locs ht hvm hw hB hz1 hk1 hS => ?_)
  obtain ⟨hP1, hK1, hD1⟩ := hB
  rw [ht] at hP1
  have hP := bv_still hP hk1
  generalize H1 = H at hP hS ⊢
  as_aux_lemma =>
  have h_2 := hw
  refine lv_aload_n hx hb dJ1_charAt_3b067_6 rfl (lv_at hl 0 rfl) ?_
  refine lv_iload_n hx hb dJ1_charAt_3b067_7 rfl (lv_at hl 1 rfl) ?_
  refine va_tb (v := .int 104) hx hb hE_71 hS (by unfold vp_in; decide) rfl dJ1_charAt_3b067_8 ?_
  refine lv_sipush (v := 255) hx hb dJ1_charAt_3b067_9 kc_sipush_255 ?_
  refine lv_iand hx hb dJ1_charAt_3b067_12 ?_
  refine lv_topi (fun x_3 ex_3 => ?_)
  obtain rfl : x_3 = 104 := ex_3.trans (by decide +kernel)
  refine lv_i2c (v := 104) hx hb dJ1_charAt_3b067_13 (by decide +kernel) ?_
  have hK9 := hK.sub (tys' := []) [] rfl
  exact W.zret (v := 104) hx hb hr rfl (fun t ht hW => ⟨⟨104, (), rfl, ⟨rfl, (hR.trans hEX).symm⟩, by rw [ht]; exact hP, va_K.moved hW.alike hK9, hD⟩, hS.F ht⟩) hS.2.2 dJ1_charAt_3b067_14
noncomputable def wf_c_J0_charAt_5068e_26 : List Cond := .code yJ0_charAt_5068e cJ0_charAt_5068e 2 (some .char) :: ([.methodLink RJ0 492 yJ0_isLatin1_aae02, .instanceMethod yJ0_isLatin1_aae02, .selects RJ0 yJ0_isLatin1_aae02 yJ0_isLatin1_aae02, .initialized RJ0, .code yJ0_isLatin1_aae02 cJ0_isLatin1_aae02 1 (some .boolean), .fieldLink RJ0 38 "java/lang/String" "COMPACT_STRINGS" "Z", .fieldLink RJ0 15 "java/lang/String" "coder" "B", .fieldLink RJ0 9 "java/lang/String" "value" "[B", .methodLink RJ0 495 yJ1_charAt_3b067, .static yJ1_charAt_3b067, .initialized RJ1, .code yJ1_charAt_3b067 cJ1_charAt_3b067 2 (some .char), .methodLink RJ1 9 yJ0_checkIndex_df160, .static yJ0_checkIndex_df160, .code yJ0_checkIndex_df160 cJ0_checkIndex_df160 2 none, .fieldLink RJ0 1053 "jdk/internal/util/Preconditions" "SIOOBE_FORMATTER" "Ljava/util/function/BiFunction;", .methodLink RJ0 1059 yJ3_checkIndex_8e157, .static yJ3_checkIndex_8e157, .initialized RJ3, .code yJ3_checkIndex_8e157 cJ3_checkIndex_8e157 3 (some .int)])
set_option maxRecDepth 20000 in
theorem gf_c_J0_charAt_5068e_26_c_J0_isLatin1_aae02_11 : GoodIn wf_c_J0_charAt_5068e_26 (wsV RJ0 492 RJ0 yJ0_isLatin1_aae02 wf_c_J0_isLatin1_aae02_11) := goodIn_app (gi_l [1, 2, 3, 4] rfl rfl) (gi_cons (j := 5) rfl rfl (gi_l [6, 7] rfl rfl))
set_option maxRecDepth 20000 in
theorem gf_c_J0_charAt_5068e_26_c_J1_charAt_3b067_26 : GoodIn wf_c_J0_charAt_5068e_26 (va_wsS RJ0 495 yJ1_charAt_3b067 wf_c_J1_charAt_3b067_26) := goodIn_app (gi_l [9, 10, 11] rfl rfl) (gi_cons (j := 12) rfl rfl (gi_l [13, 14, 4, 15, 16, 17, 18, 19, 20] rfl rfl))
set_option maxHeartbeats 4000000 in
set_option maxRecDepth 100000 in
theorem c_J0_charAt_5068e_26 (l : Launch) (dC : Nat → ClassId) (dI : Nat → Nat → Nat) (sz : Nat) (ts11 : Nat) (tv11 : Nat) : Met l yJ0_charAt_5068e wf_c_J0_charAt_5068e_26 ({ frames := 3, cells := 0, slots := 0, locals := 64 }) (va_Pc [.ref ts11, .int 3] (fun U => U.heap.size = sz ∧ va_P (dC, dI) vwCl [] U.heap ∧ va_K (dC, dI) vwCl [] U ∧ va_D (fun _ => True) [] ∧ va_Z "java/lang/String" "COMPACT_STRINGS" "Z" (.int 1) (va_A [] sz) U U.heap ∧ va_OF "java/lang/String" "coder" "B" (.int 0) ts11 (va_A [] sz) U U.heap ∧ va_O "java/lang/String" ts11 (va_A [] sz) U U.heap ∧ va_OF "java/lang/String" "value" "[B" (.ref tv11) ts11 (va_A [] sz) U U.heap ∧ va_T .byte tv11 4 (fun j => .int ([103, 115, 99, 104].getD j 0)) (va_A [] sz) U U.heap ∧ va_Zq "jdk/internal/util/Preconditions" "SIOOBE_FORMATTER" "Ljava/util/function/BiFunction;" (va_A [] sz) U U.heap)) (va_Qi (fun (r : Int32) (u : Unit) => (r = 104 ∧ r = fx_c_J0_charAt_5068e_26)) (fun (u : Unit) t => va_P (dC, dI) vwCl [] t.heap ∧ va_K (dC, dI) vwCl [] t ∧ va_D (va_A [] sz) []) (va_A [] sz)) 0 0 (va_A [] sz) := by
  refine Met.ofW (cc := cJ0_charAt_5068e) (maxL := 2) (ret := (some .char)) (by decide +kernel) rfl ?_
  intro p e s m args below meth c s₁ B hml hv
  obtain ⟨rfl, hsz, hP, hK, hD0, hE_10, hE_69, hE_68, hE_70, hE_71, hE_11⟩ := hv
  have hx := B.exec
  have hb := B.bytes
  have hr := B.returns
  have hts := atoms_spec (ws := wf_c_J0_charAt_5068e_26) B.pre
  have hown : s.vm.findClass RJ0 = some m.cls := findClass_of_methodNamed B.named
  have hlocks := B.notSynchronized
  subst hsz
  have hD := hD0.self (sz := s.heap.size)
  generalize hAe : va_A [] s.heap.size = A at hD hE_10 hE_69 hE_68 hE_70 hE_71 hE_11 ⊢
  have hA : ∀ q : Nat, s.heap.size ≤ q → A q := fun q h => by rw [← hAe]; exact Or.inr h
  have hP : va_P (dC, dI) vwCl [] s.heap := hP
  have hl := lv_entry ([.ref ts11, .int 3]) (n := 2) (Nat.le_of_ble_eq_true rfl)
  rw [lg_entry_eq]
  generalize (lg_sl ([.ref ts11, .int 3]) ++ List.replicate (2 - (lg_sl ([.ref ts11, .int 3])).length) Slot.unset).toArray = ls at hl ⊢
  have hl : lv_has ls 2 [(0, .ref ts11), (1, .int 3)] := hl
  obtain ⟨H, hHe⟩ : ∃ H : Heap, s.heap = H := ⟨_, rfl⟩
  have hS : va_S A s.heap H [] := by rw [hHe]; exact va_S.rf
  have hP : va_P (dC, dI) vwCl [] H := by rw [← hHe]; exact hP
  rw [hHe]
  obtain ⟨RES, hR⟩ : ∃ z, fx_c_J0_charAt_5068e_26 = z := ⟨_, rfl⟩
  have hEX : RES = fx_c_J0_charAt_5068e_26 := hR.symm
  refine lv_aload_n hx hb dJ0_charAt_5068e_0 rfl (lv_at hl 0 rfl) ?_
  as_aux_lemma =>
  obtain ⟨hPc, hDc, hFc, hqc⟩ := cl_cut (wc := []) hP hD hS hA [] (by decide +kernel) rfl
  have hKc := hK.sub (tys' := []) [] rfl
  have hrv := bv_Orecv hE_68 hS
  refine va_calli (va_runV (As := []) (rest := []) ⟨hx, hb, hml, hown, hts⟩ (c_J0_isLatin1_aae02_11 l dC dI H.size ts11) (cwV 0 hts gf_c_J0_charAt_5068e_26_c_J0_isLatin1_aae02_11 rfl rfl rfl mdV_J0_isLatin1_aae02 ⟨Nat.le_of_ble_eq_true rfl, Nat.le_of_ble_eq_true rfl⟩) ⟨fun a U g mk q => by obtain ⟨q0, q1, qP, qK, qD, qE0, qE1⟩ := q; exact ⟨q0, q1, qP, va_K.moved (u := U) (U := U.calling g mk a) (Vm.Alike.refl U.vm) qK, qD, va_Z.moved (u := U) (U := U.calling g mk a) (Vm.Alike.refl U.vm) qE0, va_OF.moved (u := U) (U := U.calling g mk a) (Vm.Alike.refl U.vm) qE1⟩, hrv, fun U hU hW => ⟨rfl, by rw [hU], by rw [hU]; exact hPc, va_K.moved hW.alike hKc, hDc.weaken (fun _ _ _ _ => trivial), va_Z.moved hW.alike (by rw [hU]; exact (hE_10.kept hS.2.1).narrow hFc), va_OF.moved hW.alike (by rw [hU]; exact (hE_69.kept hS.2.1).narrow hFc)⟩⟩ rfl rfl hl.1 rfl (lv_room (Nat.le_of_ble_eq_true rfl)) dJ0_charAt_5068e_1 ⟨Nat.le_of_ble_eq_true rfl, Nat.le_of_ble_eq_true rfl⟩) hS (fun q _ h => hFc q h) hFc (fun r_1 u t H1 locs ht hvm hw hB hz1 hk1 hS => ?_)
  obtain ⟨hP1, hK1, hD1⟩ := hB
  rw [ht] at hP1
  have hP := bv_still hP hk1
  generalize H1 = H at hP hS ⊢
  as_aux_lemma =>
  rcases hw with ⟨h_2, h_3⟩
  have h_3 : r_1 = _ := h_3
  replace hEX := hEX.trans (exc1_eq h_3)
  rw [h_2]
  refine lv_if_eq (tgt := 16) hx hb dJ0_charAt_5068e_4 rfl (fun c_4 => absurd c_4 (by decide +kernel)) (fun c_4 => ?_)
  refine lv_aload_n hx hb dJ0_charAt_5068e_7 rfl (lv_at hl 0 rfl) ?_
  refine vk_getf hx hb hE_70 hS hown (hts (.fieldLink RJ0 9 "java/lang/String" "value" "[B") (List.mem_of_getElem? (i := 8) rfl)) (fun _ h9 => h9) dJ0_charAt_5068e_8 ?_
  refine lv_iload_n hx hb dJ0_charAt_5068e_11 rfl (lv_at hl 1 rfl) ?_
  obtain ⟨hPc, hDc, hFc, hqc⟩ := cl_cut (wc := []) hP hD hS hA [] (by decide +kernel) rfl
  have hKc := hK.sub (tys' := []) [] rfl
  refine va_calli (va_runS (As := [.ref tv11, .int 3]) (rest := []) ⟨hx, hb, hml, hown, hts⟩ (c_J1_charAt_3b067_26 l dC dI H.size tv11) (va_cwS 2 hts gf_c_J0_charAt_5068e_26_c_J1_charAt_3b067_26 rfl rfl rfl md_J1_charAt_3b067 ⟨Nat.le_of_ble_eq_true rfl, Nat.le_of_ble_eq_true rfl⟩) ⟨fun a U g mk q => by obtain ⟨q0, q1, qP, qK, qD, qE0, qE1⟩ := q; exact ⟨q0, q1, qP, va_K.moved (u := U) (U := U.calling g mk a) (Vm.Alike.refl U.vm) qK, qD, va_T.moved (u := U) (U := U.calling g mk a) (Vm.Alike.refl U.vm) qE0, va_Zq.moved (u := U) (U := U.calling g mk a) (Vm.Alike.refl U.vm) qE1⟩, fun U hU hW => ⟨rfl, by rw [hU], by rw [hU]; exact hPc, va_K.moved hW.alike hKc, hDc.weaken (fun _ _ _ _ => trivial), va_T.moved hW.alike (by rw [hU]; exact (hE_71.kept hS.2.1).narrow hFc), va_Zq.moved hW.alike (by rw [hU]; exact (hE_11.kept hS.2.1).narrow hFc)⟩⟩ rfl rfl hl.1 rfl (lv_room (Nat.le_of_ble_eq_true rfl)) dJ0_charAt_5068e_12 ⟨Nat.le_of_ble_eq_true rfl, Nat.le_of_ble_eq_true rfl⟩) hS (fun q _ h => hFc q h) hFc (fun r_5 u t H1 locs ht hvm hw hB hz1 hk1 hS => ?_)
  obtain ⟨hP1, hK1, hD1⟩ := hB
  rw [ht] at hP1
  have hP := bv_still hP hk1
  generalize H1 = H at hP hS ⊢
  as_aux_lemma =>
  rcases hw with ⟨h_6, h_7⟩
  have h_7 : r_5 = _ := h_7
  replace hEX := hEX.trans (exc1_eq h_7)
  rw [h_6]
  have hK9 := hK.sub (tys' := []) [] rfl
  exact W.zret (v := 104) hx hb hr rfl (fun t ht hW => ⟨⟨104, (), rfl, ⟨rfl, (hR.trans hEX).symm⟩, by rw [ht]; exact hP, va_K.moved hW.alike hK9, hD⟩, hS.F ht⟩) hS.2.2 dJ0_charAt_5068e_15
noncomputable def wf_c_X12_spotOf_6 : List Cond := .code yX12_spotOf cX12_spotOf 3 (some .int) :: ([.methodLink RX12 114 yJ0_length_8abf5, .instanceMethod yJ0_length_8abf5, .selects RJ0 yJ0_length_8abf5 yJ0_length_8abf5, .initialized RJ0, .code yJ0_length_8abf5 cJ0_length_8abf5 1 (some .int), .fieldLink RJ0 9 "java/lang/String" "value" "[B", .methodLink RJ0 335 yJ0_coder_7d493, .instanceMethod yJ0_coder_7d493, .selects RJ0 yJ0_coder_7d493 yJ0_coder_7d493, .code yJ0_coder_7d493 cJ0_coder_7d493 1 (some .byte), .fieldLink RJ0 38 "java/lang/String" "COMPACT_STRINGS" "Z", .fieldLink RJ0 15 "java/lang/String" "coder" "B", .methodLink RX12 120 yJ0_charAt_5068e, .instanceMethod yJ0_charAt_5068e, .selects RJ0 yJ0_charAt_5068e yJ0_charAt_5068e, .code yJ0_charAt_5068e cJ0_charAt_5068e 2 (some .char), .methodLink RJ0 492 yJ0_isLatin1_aae02, .instanceMethod yJ0_isLatin1_aae02, .selects RJ0 yJ0_isLatin1_aae02 yJ0_isLatin1_aae02, .code yJ0_isLatin1_aae02 cJ0_isLatin1_aae02 1 (some .boolean), .methodLink RJ0 495 yJ1_charAt_3b067, .static yJ1_charAt_3b067, .initialized RJ1, .code yJ1_charAt_3b067 cJ1_charAt_3b067 2 (some .char), .methodLink RJ1 9 yJ0_checkIndex_df160, .static yJ0_checkIndex_df160, .code yJ0_checkIndex_df160 cJ0_checkIndex_df160 2 none, .fieldLink RJ0 1053 "jdk/internal/util/Preconditions" "SIOOBE_FORMATTER" "Ljava/util/function/BiFunction;", .methodLink RJ0 1059 yJ3_checkIndex_8e157, .static yJ3_checkIndex_8e157, .initialized RJ3, .code yJ3_checkIndex_8e157 cJ3_checkIndex_8e157 3 (some .int)])
set_option maxRecDepth 20000 in
theorem gf_c_X12_spotOf_6_c_J0_length_8abf5_11 : GoodIn wf_c_X12_spotOf_6 (wsV RX12 114 RJ0 yJ0_length_8abf5 wf_c_J0_length_8abf5_11) := goodIn_app (gi_l [1, 2, 3, 4] rfl rfl) (gi_cons (j := 5) rfl rfl (gi_l [6, 7, 8, 9, 4, 10, 11, 12] rfl rfl))
set_option maxRecDepth 20000 in
theorem gf_c_X12_spotOf_6_c_J0_charAt_5068e_23 : GoodIn wf_c_X12_spotOf_6 (wsV RX12 120 RJ0 yJ0_charAt_5068e wf_c_J0_charAt_5068e_23) := goodIn_app (gi_l [13, 14, 15, 4] rfl rfl) (gi_cons (j := 16) rfl rfl (gi_l [17, 18, 19, 4, 20, 11, 12, 6, 21, 22, 23, 24, 25, 26, 27, 28, 29, 30, 31, 32] rfl rfl))
set_option maxRecDepth 20000 in
theorem gf_c_X12_spotOf_6_c_J0_charAt_5068e_24 : GoodIn wf_c_X12_spotOf_6 (wsV RX12 120 RJ0 yJ0_charAt_5068e wf_c_J0_charAt_5068e_24) := goodIn_app (gi_l [13, 14, 15, 4] rfl rfl) (gi_cons (j := 16) rfl rfl (gi_l [17, 18, 19, 4, 20, 11, 12, 6, 21, 22, 23, 24, 25, 26, 27, 28, 29, 30, 31, 32] rfl rfl))
set_option maxRecDepth 20000 in
theorem gf_c_X12_spotOf_6_c_J0_charAt_5068e_25 : GoodIn wf_c_X12_spotOf_6 (wsV RX12 120 RJ0 yJ0_charAt_5068e wf_c_J0_charAt_5068e_25) := goodIn_app (gi_l [13, 14, 15, 4] rfl rfl) (gi_cons (j := 16) rfl rfl (gi_l [17, 18, 19, 4, 20, 11, 12, 6, 21, 22, 23, 24, 25, 26, 27, 28, 29, 30, 31, 32] rfl rfl))
set_option maxRecDepth 20000 in
theorem gf_c_X12_spotOf_6_c_J0_charAt_5068e_26 : GoodIn wf_c_X12_spotOf_6 (wsV RX12 120 RJ0 yJ0_charAt_5068e wf_c_J0_charAt_5068e_26) := goodIn_app (gi_l [13, 14, 15, 4] rfl rfl) (gi_cons (j := 16) rfl rfl (gi_l [17, 18, 19, 4, 20, 11, 12, 6, 21, 22, 23, 24, 25, 26, 27, 28, 29, 30, 31, 32] rfl rfl))
set_option maxHeartbeats 4000000 in
set_option maxRecDepth 100000 in
theorem c_X12_spotOf_6 (l : Launch) (dC : Nat → ClassId) (dI : Nat → Nat → Nat) (sz : Nat) (ts11 : Nat) (tv11 : Nat) : Met l yX12_spotOf wf_c_X12_spotOf_6 ({ frames := 4, cells := 0, slots := 0, locals := 85 }) (va_Pc [.ref ts11, .int (-1)] (fun U => U.heap.size = sz ∧ va_P (dC, dI) vwCl [] U.heap ∧ va_K (dC, dI) vwCl [] U ∧ va_D (fun _ => True) [] ∧ va_OF "java/lang/String" "value" "[B" (.ref tv11) ts11 (va_A [] sz) U U.heap ∧ va_T .byte tv11 4 (fun j => .int ([103, 115, 99, 104].getD j 0)) (va_A [] sz) U U.heap ∧ va_Z "java/lang/String" "COMPACT_STRINGS" "Z" (.int 1) (va_A [] sz) U U.heap ∧ va_OF "java/lang/String" "coder" "B" (.int 0) ts11 (va_A [] sz) U U.heap ∧ va_O "java/lang/String" ts11 (va_A [] sz) U U.heap ∧ va_Zq "jdk/internal/util/Preconditions" "SIOOBE_FORMATTER" "Ljava/util/function/BiFunction;" (va_A [] sz) U U.heap)) (va_Qi (fun (r : Int32) (u : Unit) => (r = (-1) ∧ r = fx_c_X12_spotOf_6)) (fun (u : Unit) t => va_P (dC, dI) vwCl [] t.heap ∧ va_K (dC, dI) vwCl [] t ∧ va_D (va_A [] sz) []) (va_A [] sz)) 0 0 (va_A [] sz) := by
  refine Met.ofW (cc := cX12_spotOf) (maxL := 3) (ret := (some .int)) (by decide +kernel) rfl ?_
  intro p e s m args below meth c s₁ B hml hv
  obtain ⟨rfl, hsz, hP, hK, hD0, hE_70, hE_71, hE_10, hE_69, hE_68, hE_11⟩ := hv
  have hx := B.exec
  have hb := B.bytes
  have hr := B.returns
  have hts := atoms_spec (ws := wf_c_X12_spotOf_6) B.pre
  have hown : s.vm.findClass RX12 = some m.cls := findClass_of_methodNamed B.named
  have hlocks := B.notSynchronized
  subst hsz
  have hD := hD0.self (sz := s.heap.size)
  generalize hAe : va_A [] s.heap.size = A at hD hE_70 hE_71 hE_10 hE_69 hE_68 hE_11 ⊢
  have hA : ∀ q : Nat, s.heap.size ≤ q → A q := fun q h => by rw [← hAe]; exact Or.inr h
  have hP : va_P (dC, dI) vwCl [] s.heap := hP
  have hl := lv_entry ([.ref ts11, .int (-1)]) (n := 3) (Nat.le_of_ble_eq_true rfl)
  rw [lg_entry_eq]
  generalize (lg_sl ([.ref ts11, .int (-1)]) ++ List.replicate (3 - (lg_sl ([.ref ts11, .int (-1)])).length) Slot.unset).toArray = ls at hl ⊢
  have hl : lv_has ls 3 [(0, .ref ts11), (1, .int (-1))] := hl
  obtain ⟨H, hHe⟩ : ∃ H : Heap, s.heap = H := ⟨_, rfl⟩
  have hS : va_S A s.heap H [] := by rw [hHe]; exact va_S.rf
  have hP : va_P (dC, dI) vwCl [] H := by rw [← hHe]; exact hP
  rw [hHe]
  obtain ⟨RES, hR⟩ : ∃ z, fx_c_X12_spotOf_6 = z := ⟨_, rfl⟩
  have hEX : RES = fx_c_X12_spotOf_6 := hR.symm
  refine lv_iconst (v := 0) hx hb dX12_spotOf_0 kc_iconst_0 ?_
  as_aux_lemma =>
  refine lv_istore_n (lv' := [(2, .int 0), (0, .ref ts11), (1, .int (-1))]) hx hb dX12_spotOf_1 rfl hl (Nat.le_of_ble_eq_true rfl) rfl (fun ls hl => ?_)
  refine lv_iload_n hx hb dX12_spotOf_2 rfl (lv_at hl 0 rfl) ?_
  refine lv_aload_n hx hb dX12_spotOf_3 rfl (lv_at hl 1 rfl) ?_
  obtain ⟨hPc, hDc, hFc, hqc⟩ := cl_cut (wc := []) hP hD hS hA [] (by decide +kernel) rfl
  have hKc := hK.sub (tys' := []) [] rfl
  have hrv := bv_Orecv hE_68 hS
  refine va_calli (va_runV (As := []) (rest := [.int 0]) ⟨hx, hb, hml, hown, hts⟩ (c_J0_length_8abf5_11 l dC dI H.size ts11 tv11) (cwV 0 hts gf_c_X12_spotOf_6_c_J0_length_8abf5_11 rfl rfl rfl mdV_J0_length_8abf5 ⟨Nat.le_of_ble_eq_true rfl, Nat.le_of_ble_eq_true rfl⟩) ⟨fun a U g mk q => by obtain ⟨q0, q1, qP, qK, qD, qE0, qE1, qE2, qE3, qE4⟩ := q; exact ⟨q0, q1, qP, va_K.moved (u := U) (U := U.calling g mk a) (Vm.Alike.refl U.vm) qK, qD, va_OF.moved (u := U) (U := U.calling g mk a) (Vm.Alike.refl U.vm) qE0, va_T.moved (u := U) (U := U.calling g mk a) (Vm.Alike.refl U.vm) qE1, va_Z.moved (u := U) (U := U.calling g mk a) (Vm.Alike.refl U.vm) qE2, va_OF.moved (u := U) (U := U.calling g mk a) (Vm.Alike.refl U.vm) qE3, va_O.moved (u := U) (U := U.calling g mk a) (Vm.Alike.refl U.vm) qE4⟩, hrv, fun U hU hW => ⟨rfl, by rw [hU], by rw [hU]; exact hPc, va_K.moved hW.alike hKc, hDc.weaken (fun _ _ _ _ => trivial), va_OF.moved hW.alike (by rw [hU]; exact (hE_70.kept hS.2.1).narrow hFc), va_T.moved hW.alike (by rw [hU]; exact (hE_71.kept hS.2.1).narrow hFc), va_Z.moved hW.alike (by rw [hU]; exact (hE_10.kept hS.2.1).narrow hFc), va_OF.moved hW.alike (by rw [hU]; exact (hE_69.kept hS.2.1).narrow hFc), va_O.moved hW.alike (by rw [hU]; exact (hE_68.kept hS.2.1).narrow hFc)⟩⟩ rfl rfl hl.1 rfl (lv_room (Nat.le_of_ble_eq_true rfl)) dX12_spotOf_4 ⟨Nat.le_of_ble_eq_true rfl, Nat.le_of_ble_eq_true rfl⟩) hS (fun q _ h => hFc q h) hFc (fun r_1 u t H1 locs ht hvm hw hB hz1 hk1 hS => ?_)
  obtain ⟨hP1, hK1, hD1⟩ := hB
  rw [ht] at hP1
  have hP := bv_still hP hk1
  generalize H1 = H at hP hS ⊢
  as_aux_lemma =>
  rcases hw with ⟨h_2, h_3⟩
  have h_3 : r_1 = _ := h_3
  replace hEX := hEX.trans (exc1_eq h_3)
  rw [h_2]
  refine lv_icmp_ge (tgt := 27) hx hb dX12_spotOf_7 rfl (fun c_4 => absurd c_4 (by decide +kernel)) (fun c_4 => ?_)
  refine lv_aload_n hx hb dX12_spotOf_10 rfl (lv_at hl 1 rfl) ?_
  refine lv_iload_n hx hb dX12_spotOf_11 rfl (lv_at hl 0 rfl) ?_
  obtain ⟨hPc, hDc, hFc, hqc⟩ := cl_cut (wc := []) hP hD hS hA [] (by decide +kernel) rfl
  have hKc := hK.sub (tys' := []) [] rfl
  have hrv := bv_Orecv hE_68 hS
  refine va_calli (va_runV (As := [.int 0]) (rest := []) ⟨hx, hb, hml, hown, hts⟩ (c_J0_charAt_5068e_23 l dC dI H.size ts11 tv11) (cwV 1 hts gf_c_X12_spotOf_6_c_J0_charAt_5068e_23 rfl rfl rfl mdV_J0_charAt_5068e ⟨Nat.le_of_ble_eq_true rfl, Nat.le_of_ble_eq_true rfl⟩) ⟨fun a U g mk q => by obtain ⟨q0, q1, qP, qK, qD, qE0, qE1, qE2, qE3, qE4, qE5⟩ := q; exact ⟨q0, q1, qP, va_K.moved (u := U) (U := U.calling g mk a) (Vm.Alike.refl U.vm) qK, qD, va_Z.moved (u := U) (U := U.calling g mk a) (Vm.Alike.refl U.vm) qE0, va_OF.moved (u := U) (U := U.calling g mk a) (Vm.Alike.refl U.vm) qE1, va_O.moved (u := U) (U := U.calling g mk a) (Vm.Alike.refl U.vm) qE2, va_OF.moved (u := U) (U := U.calling g mk a) (Vm.Alike.refl U.vm) qE3, va_T.moved (u := U) (U := U.calling g mk a) (Vm.Alike.refl U.vm) qE4, va_Zq.moved (u := U) (U := U.calling g mk a) (Vm.Alike.refl U.vm) qE5⟩, hrv, fun U hU hW => ⟨rfl, by rw [hU], by rw [hU]; exact hPc, va_K.moved hW.alike hKc, hDc.weaken (fun _ _ _ _ => trivial), va_Z.moved hW.alike (by rw [hU]; exact (hE_10.kept hS.2.1).narrow hFc), va_OF.moved hW.alike (by rw [hU]; exact (hE_69.kept hS.2.1).narrow hFc), va_O.moved hW.alike (by rw [hU]; exact (hE_68.kept hS.2.1).narrow hFc), va_OF.moved hW.alike (by rw [hU]; exact (hE_70.kept hS.2.1).narrow hFc), va_T.moved hW.alike (by rw [hU]; exact (hE_71.kept hS.2.1).narrow hFc), va_Zq.moved hW.alike (by rw [hU]; exact (hE_11.kept hS.2.1).narrow hFc)⟩⟩ rfl rfl hl.1 rfl (lv_room (Nat.le_of_ble_eq_true rfl)) dX12_spotOf_12 ⟨Nat.le_of_ble_eq_true rfl, Nat.le_of_ble_eq_true rfl⟩) hS (fun q _ h => hFc q h) hFc (fun r_5 u t H1 locs ht hvm hw hB hz1 hk1 hS => ?_)
  obtain ⟨hP1, hK1, hD1⟩ := hB
  rw [ht] at hP1
  have hP := bv_still hP hk1
  generalize H1 = H at hP hS ⊢
  as_aux_lemma =>
  rcases hw with ⟨h_6, h_7⟩
  have h_7 : r_5 = _ := h_7
  replace hEX := hEX.trans (exc1_eq h_7)
  rw [h_6]
  refine lv_iload_n hx hb dX12_spotOf_15 rfl (lv_at hl 2 rfl) ?_
  refine lv_icmp_ne (tgt := 21) hx hb dX12_spotOf_16 rfl (fun c_8 => ?_) (fun c_8 => absurd c_8 (by decide +kernel))
  refine lv_iinc (v := 1) (lv' := [(2, .int 1), (0, .ref ts11), (1, .int (-1))]) hx hb dX12_spotOf_21 hl (k := 0) rfl (by decide +kernel) (Nat.le_of_ble_eq_true rfl) rfl (fun ls hl => ?_)
  refine lv_goto (tgt := 2) hx hb dX12_spotOf_24 rfl ?_
  refine lv_iload_n hx hb dX12_spotOf_2 rfl (lv_at hl 0 rfl) ?_
  refine lv_aload_n hx hb dX12_spotOf_3 rfl (lv_at hl 1 rfl) ?_
  obtain ⟨hPc, hDc, hFc, hqc⟩ := cl_cut (wc := []) hP hD hS hA [] (by decide +kernel) rfl
  have hKc := hK.sub (tys' := []) [] rfl
  have hrv := bv_Orecv hE_68 hS
  refine va_calli (va_runV (As := []) (rest := [.int 1]) ⟨hx, hb, hml, hown, hts⟩ (c_J0_length_8abf5_11 l dC dI H.size ts11 tv11) (cwV 0 hts gf_c_X12_spotOf_6_c_J0_length_8abf5_11 rfl rfl rfl mdV_J0_length_8abf5 ⟨Nat.le_of_ble_eq_true rfl, Nat.le_of_ble_eq_true rfl⟩) ⟨fun a U g mk q => by obtain ⟨q0, q1, qP, qK, qD, qE0, qE1, qE2, qE3, qE4⟩ := q; exact ⟨q0, q1, qP, va_K.moved (u := U) (U := U.calling g mk a) (Vm.Alike.refl U.vm) qK, qD, va_OF.moved (u := U) (U := U.calling g mk a) (Vm.Alike.refl U.vm) qE0, va_T.moved (u := U) (U := U.calling g mk a) (Vm.Alike.refl U.vm) qE1, va_Z.moved (u := U) (U := U.calling g mk a) (Vm.Alike.refl U.vm) qE2, va_OF.moved (u := U) (U := U.calling g mk a) (Vm.Alike.refl U.vm) qE3, va_O.moved (u := U) (U := U.calling g mk a) (Vm.Alike.refl U.vm) qE4⟩, hrv, fun U hU hW => ⟨rfl, by rw [hU], by rw [hU]; exact hPc, va_K.moved hW.alike hKc, hDc.weaken (fun _ _ _ _ => trivial), va_OF.moved hW.alike (by rw [hU]; exact (hE_70.kept hS.2.1).narrow hFc), va_T.moved hW.alike (by rw [hU]; exact (hE_71.kept hS.2.1).narrow hFc), va_Z.moved hW.alike (by rw [hU]; exact (hE_10.kept hS.2.1).narrow hFc), va_OF.moved hW.alike (by rw [hU]; exact (hE_69.kept hS.2.1).narrow hFc), va_O.moved hW.alike (by rw [hU]; exact (hE_68.kept hS.2.1).narrow hFc)⟩⟩ rfl rfl hl.1 rfl (lv_room (Nat.le_of_ble_eq_true rfl)) dX12_spotOf_4 ⟨Nat.le_of_ble_eq_true rfl, Nat.le_of_ble_eq_true rfl⟩) hS (fun q _ h => hFc q h) hFc (fun r_9 u t H1 locs ht hvm hw hB hz1 hk1 hS => ?_)
  as_aux_lemma =>
  obtain ⟨hP1, hK1, hD1⟩ := hB
  rw [ht] at hP1
  have hP := bv_still hP hk1
  generalize H1 = H at hP hS ⊢
  as_aux_lemma =>
  rcases hw with ⟨h_10, h_11⟩
  have h_11 : r_9 = _ := h_11
  replace hEX := hEX.trans (exc1_eq h_11)
  rw [h_10]
  refine lv_icmp_ge (tgt := 27) hx hb dX12_spotOf_7 rfl (fun c_12 => absurd c_12 (by decide +kernel)) (fun c_12 => ?_)
  refine lv_aload_n hx hb dX12_spotOf_10 rfl (lv_at hl 1 rfl) ?_
  refine lv_iload_n hx hb dX12_spotOf_11 rfl (lv_at hl 0 rfl) ?_
  obtain ⟨hPc, hDc, hFc, hqc⟩ := cl_cut (wc := []) hP hD hS hA [] (by decide +kernel) rfl
  have hKc := hK.sub (tys' := []) [] rfl
  have hrv := bv_Orecv hE_68 hS
  refine va_calli (va_runV (As := [.int 1]) (rest := []) ⟨hx, hb, hml, hown, hts⟩ (c_J0_charAt_5068e_24 l dC dI H.size ts11 tv11) (cwV 1 hts gf_c_X12_spotOf_6_c_J0_charAt_5068e_24 rfl rfl rfl mdV_J0_charAt_5068e ⟨Nat.le_of_ble_eq_true rfl, Nat.le_of_ble_eq_true rfl⟩) ⟨fun a U g mk q => by obtain ⟨q0, q1, qP, qK, qD, qE0, qE1, qE2, qE3, qE4, qE5⟩ := q; exact ⟨q0, q1, qP, va_K.moved (u := U) (U := U.calling g mk a) (Vm.Alike.refl U.vm) qK, qD, va_Z.moved (u := U) (U := U.calling g mk a) (Vm.Alike.refl U.vm) qE0, va_OF.moved (u := U) (U := U.calling g mk a) (Vm.Alike.refl U.vm) qE1, va_O.moved (u := U) (U := U.calling g mk a) (Vm.Alike.refl U.vm) qE2, va_OF.moved (u := U) (U := U.calling g mk a) (Vm.Alike.refl U.vm) qE3, va_T.moved (u := U) (U := U.calling g mk a) (Vm.Alike.refl U.vm) qE4, va_Zq.moved (u := U) (U := U.calling g mk a) (Vm.Alike.refl U.vm) qE5⟩, hrv, fun U hU hW => ⟨rfl, by rw [hU], by rw [hU]; exact hPc, va_K.moved hW.alike hKc, hDc.weaken (fun _ _ _ _ => trivial), va_Z.moved hW.alike (by rw [hU]; exact (hE_10.kept hS.2.1).narrow hFc), va_OF.moved hW.alike (by rw [hU]; exact (hE_69.kept hS.2.1).narrow hFc), va_O.moved hW.alike (by rw [hU]; exact (hE_68.kept hS.2.1).narrow hFc), va_OF.moved hW.alike (by rw [hU]; exact (hE_70.kept hS.2.1).narrow hFc), va_T.moved hW.alike (by rw [hU]; exact (hE_71.kept hS.2.1).narrow hFc), va_Zq.moved hW.alike (by rw [hU]; exact (hE_11.kept hS.2.1).narrow hFc)⟩⟩ rfl rfl hl.1 rfl (lv_room (Nat.le_of_ble_eq_true rfl)) dX12_spotOf_12 ⟨Nat.le_of_ble_eq_true rfl, Nat.le_of_ble_eq_true rfl⟩) hS (fun q _ h => hFc q h) hFc (fun r_13 u t H1 locs ht hvm hw hB hz1 hk1 hS => ?_)
  obtain ⟨hP1, hK1, hD1⟩ := hB
  rw [ht] at hP1
  have hP := bv_still hP hk1
  generalize H1 = H at hP hS ⊢
  as_aux_lemma =>
  rcases hw with ⟨h_14, h_15⟩
  have h_15 : r_13 = _ := h_15
  replace hEX := hEX.trans (exc1_eq h_15)
  rw [h_14]
  refine lv_iload_n hx hb dX12_spotOf_15 rfl (lv_at hl 2 rfl) ?_
  refine lv_icmp_ne (tgt := 21) hx hb dX12_spotOf_16 rfl (fun c_16 => ?_) (fun c_16 => absurd c_16 (by decide +kernel))
  refine lv_iinc (v := 2) (lv' := [(2, .int 2), (0, .ref ts11), (1, .int (-1))]) hx hb dX12_spotOf_21 hl (k := 0) rfl (by decide +kernel) (Nat.le_of_ble_eq_true rfl) rfl (fun ls hl => ?_)
  refine lv_goto (tgt := 2) hx hb dX12_spotOf_24 rfl ?_
  refine lv_iload_n hx hb dX12_spotOf_2 rfl (lv_at hl 0 rfl) ?_
  refine lv_aload_n hx hb dX12_spotOf_3 rfl (lv_at hl 1 rfl) ?_
  obtain ⟨hPc, hDc, hFc, hqc⟩ := cl_cut (wc := []) hP hD hS hA [] (by decide +kernel) rfl
  have hKc := hK.sub (tys' := []) [] rfl
  have hrv := bv_Orecv hE_68 hS
  refine va_calli (va_runV (As := []) (rest := [.int 2]) ⟨hx, hb, hml, hown, hts⟩ (c_J0_length_8abf5_11 l dC dI H.size ts11 tv11) (cwV 0 hts gf_c_X12_spotOf_6_c_J0_length_8abf5_11 rfl rfl rfl mdV_J0_length_8abf5 ⟨Nat.le_of_ble_eq_true rfl, Nat.le_of_ble_eq_true rfl⟩) ⟨fun a U g mk q => by obtain ⟨q0, q1, qP, qK, qD, qE0, qE1, qE2, qE3, qE4⟩ := q; exact ⟨q0, q1, qP, va_K.moved (u := U) (U := U.calling g mk a) (Vm.Alike.refl U.vm) qK, qD, va_OF.moved (u := U) (U := U.calling g mk a) (Vm.Alike.refl U.vm) qE0, va_T.moved (u := U) (U := U.calling g mk a) (Vm.Alike.refl U.vm) qE1, va_Z.moved (u := U) (U := U.calling g mk a) (Vm.Alike.refl U.vm) qE2, va_OF.moved (u := U) (U := U.calling g mk a) (Vm.Alike.refl U.vm) qE3, va_O.moved (u := U) (U := U.calling g mk a) (Vm.Alike.refl U.vm) qE4⟩, hrv, fun U hU hW => ⟨rfl, by rw [hU], by rw [hU]; exact hPc, va_K.moved hW.alike hKc, hDc.weaken (fun _ _ _ _ => trivial), va_OF.moved hW.alike (by rw [hU]; exact (hE_70.kept hS.2.1).narrow hFc), va_T.moved hW.alike (by rw [hU]; exact (hE_71.kept hS.2.1).narrow hFc), va_Z.moved hW.alike (by rw [hU]; exact (hE_10.kept hS.2.1).narrow hFc), va_OF.moved hW.alike (by rw [hU]; exact (hE_69.kept hS.2.1).narrow hFc), va_O.moved hW.alike (by rw [hU]; exact (hE_68.kept hS.2.1).narrow hFc)⟩⟩ rfl rfl hl.1 rfl (lv_room (Nat.le_of_ble_eq_true rfl)) dX12_spotOf_4 ⟨Nat.le_of_ble_eq_true rfl, Nat.le_of_ble_eq_true rfl⟩) hS (fun q _ h => hFc q h) hFc (fun r_17 u t H1 locs ht hvm hw hB hz1 hk1 hS => ?_)
  as_aux_lemma =>
  obtain ⟨hP1, hK1, hD1⟩ := hB
  rw [ht] at hP1
  have hP := bv_still hP hk1
  generalize H1 = H at hP hS ⊢
  as_aux_lemma =>
  rcases hw with ⟨h_18, h_19⟩
  have h_19 : r_17 = _ := h_19
  replace hEX := hEX.trans (exc1_eq h_19)
  rw [h_18]
  refine lv_icmp_ge (tgt := 27) hx hb dX12_spotOf_7 rfl (fun c_20 => absurd c_20 (by decide +kernel)) (fun c_20 => ?_)
  refine lv_aload_n hx hb dX12_spotOf_10 rfl (lv_at hl 1 rfl) ?_
  refine lv_iload_n hx hb dX12_spotOf_11 rfl (lv_at hl 0 rfl) ?_
  obtain ⟨hPc, hDc, hFc, hqc⟩ := cl_cut (wc := []) hP hD hS hA [] (by decide +kernel) rfl
  have hKc := hK.sub (tys' := []) [] rfl
  have hrv := bv_Orecv hE_68 hS
  refine va_calli (va_runV (As := [.int 2]) (rest := []) ⟨hx, hb, hml, hown, hts⟩ (c_J0_charAt_5068e_25 l dC dI H.size ts11 tv11) (cwV 1 hts gf_c_X12_spotOf_6_c_J0_charAt_5068e_25 rfl rfl rfl mdV_J0_charAt_5068e ⟨Nat.le_of_ble_eq_true rfl, Nat.le_of_ble_eq_true rfl⟩) ⟨fun a U g mk q => by obtain ⟨q0, q1, qP, qK, qD, qE0, qE1, qE2, qE3, qE4, qE5⟩ := q; exact ⟨q0, q1, qP, va_K.moved (u := U) (U := U.calling g mk a) (Vm.Alike.refl U.vm) qK, qD, va_Z.moved (u := U) (U := U.calling g mk a) (Vm.Alike.refl U.vm) qE0, va_OF.moved (u := U) (U := U.calling g mk a) (Vm.Alike.refl U.vm) qE1, va_O.moved (u := U) (U := U.calling g mk a) (Vm.Alike.refl U.vm) qE2, va_OF.moved (u := U) (U := U.calling g mk a) (Vm.Alike.refl U.vm) qE3, va_T.moved (u := U) (U := U.calling g mk a) (Vm.Alike.refl U.vm) qE4, va_Zq.moved (u := U) (U := U.calling g mk a) (Vm.Alike.refl U.vm) qE5⟩, hrv, fun U hU hW => ⟨rfl, by rw [hU], by rw [hU]; exact hPc, va_K.moved hW.alike hKc, hDc.weaken (fun _ _ _ _ => trivial), va_Z.moved hW.alike (by rw [hU]; exact (hE_10.kept hS.2.1).narrow hFc), va_OF.moved hW.alike (by rw [hU]; exact (hE_69.kept hS.2.1).narrow hFc), va_O.moved hW.alike (by rw [hU]; exact (hE_68.kept hS.2.1).narrow hFc), va_OF.moved hW.alike (by rw [hU]; exact (hE_70.kept hS.2.1).narrow hFc), va_T.moved hW.alike (by rw [hU]; exact (hE_71.kept hS.2.1).narrow hFc), va_Zq.moved hW.alike (by rw [hU]; exact (hE_11.kept hS.2.1).narrow hFc)⟩⟩ rfl rfl hl.1 rfl (lv_room (Nat.le_of_ble_eq_true rfl)) dX12_spotOf_12 ⟨Nat.le_of_ble_eq_true rfl, Nat.le_of_ble_eq_true rfl⟩) hS (fun q _ h => hFc q h) hFc (fun r_21 u t H1 locs ht hvm hw hB hz1 hk1 hS => ?_)
  obtain ⟨hP1, hK1, hD1⟩ := hB
  rw [ht] at hP1
  have hP := bv_still hP hk1
  generalize H1 = H at hP hS ⊢
  as_aux_lemma =>
  rcases hw with ⟨h_22, h_23⟩
  have h_23 : r_21 = _ := h_23
  replace hEX := hEX.trans (exc1_eq h_23)
  rw [h_22]
  refine lv_iload_n hx hb dX12_spotOf_15 rfl (lv_at hl 2 rfl) ?_
  refine lv_icmp_ne (tgt := 21) hx hb dX12_spotOf_16 rfl (fun c_24 => ?_) (fun c_24 => absurd c_24 (by decide +kernel))
  refine lv_iinc (v := 3) (lv' := [(2, .int 3), (0, .ref ts11), (1, .int (-1))]) hx hb dX12_spotOf_21 hl (k := 0) rfl (by decide +kernel) (Nat.le_of_ble_eq_true rfl) rfl (fun ls hl => ?_)
  refine lv_goto (tgt := 2) hx hb dX12_spotOf_24 rfl ?_
  refine lv_iload_n hx hb dX12_spotOf_2 rfl (lv_at hl 0 rfl) ?_
  refine lv_aload_n hx hb dX12_spotOf_3 rfl (lv_at hl 1 rfl) ?_
  obtain ⟨hPc, hDc, hFc, hqc⟩ := cl_cut (wc := []) hP hD hS hA [] (by decide +kernel) rfl
  have hKc := hK.sub (tys' := []) [] rfl
  have hrv := bv_Orecv hE_68 hS
  refine va_calli (va_runV (As := []) (rest := [.int 3]) ⟨hx, hb, hml, hown, hts⟩ (c_J0_length_8abf5_11 l dC dI H.size ts11 tv11) (cwV 0 hts gf_c_X12_spotOf_6_c_J0_length_8abf5_11 rfl rfl rfl mdV_J0_length_8abf5 ⟨Nat.le_of_ble_eq_true rfl, Nat.le_of_ble_eq_true rfl⟩) ⟨fun a U g mk q => by obtain ⟨q0, q1, qP, qK, qD, qE0, qE1, qE2, qE3, qE4⟩ := q; exact ⟨q0, q1, qP, va_K.moved (u := U) (U := U.calling g mk a) (Vm.Alike.refl U.vm) qK, qD, va_OF.moved (u := U) (U := U.calling g mk a) (Vm.Alike.refl U.vm) qE0, va_T.moved (u := U) (U := U.calling g mk a) (Vm.Alike.refl U.vm) qE1, va_Z.moved (u := U) (U := U.calling g mk a) (Vm.Alike.refl U.vm) qE2, va_OF.moved (u := U) (U := U.calling g mk a) (Vm.Alike.refl U.vm) qE3, va_O.moved (u := U) (U := U.calling g mk a) (Vm.Alike.refl U.vm) qE4⟩, hrv, fun U hU hW => ⟨rfl, by rw [hU], by rw [hU]; exact hPc, va_K.moved hW.alike hKc, hDc.weaken (fun _ _ _ _ => trivial), va_OF.moved hW.alike (by rw [hU]; exact (hE_70.kept hS.2.1).narrow hFc), va_T.moved hW.alike (by rw [hU]; exact (hE_71.kept hS.2.1).narrow hFc), va_Z.moved hW.alike (by rw [hU]; exact (hE_10.kept hS.2.1).narrow hFc), va_OF.moved hW.alike (by rw [hU]; exact (hE_69.kept hS.2.1).narrow hFc), va_O.moved hW.alike (by rw [hU]; exact (hE_68.kept hS.2.1).narrow hFc)⟩⟩ rfl rfl hl.1 rfl (lv_room (Nat.le_of_ble_eq_true rfl)) dX12_spotOf_4 ⟨Nat.le_of_ble_eq_true rfl, Nat.le_of_ble_eq_true rfl⟩) hS (fun q _ h => hFc q h) hFc (fun r_25 u t H1 locs ht hvm hw hB hz1 hk1 hS => ?_)
  as_aux_lemma =>
  obtain ⟨hP1, hK1, hD1⟩ := hB
  rw [ht] at hP1
  have hP := bv_still hP hk1
  generalize H1 = H at hP hS ⊢
  as_aux_lemma =>
  rcases hw with ⟨h_26, h_27⟩
  have h_27 : r_25 = _ := h_27
  replace hEX := hEX.trans (exc1_eq h_27)
  rw [h_26]
  refine lv_icmp_ge (tgt := 27) hx hb dX12_spotOf_7 rfl (fun c_28 => absurd c_28 (by decide +kernel)) (fun c_28 => ?_)
  refine lv_aload_n hx hb dX12_spotOf_10 rfl (lv_at hl 1 rfl) ?_
  refine lv_iload_n hx hb dX12_spotOf_11 rfl (lv_at hl 0 rfl) ?_
  obtain ⟨hPc, hDc, hFc, hqc⟩ := cl_cut (wc := []) hP hD hS hA [] (by decide +kernel) rfl
  have hKc := hK.sub (tys' := []) [] rfl
  have hrv := bv_Orecv hE_68 hS
  refine va_calli (va_runV (As := [.int 3]) (rest := []) ⟨hx, hb, hml, hown, hts⟩ (c_J0_charAt_5068e_26 l dC dI H.size ts11 tv11) (cwV 1 hts gf_c_X12_spotOf_6_c_J0_charAt_5068e_26 rfl rfl rfl mdV_J0_charAt_5068e ⟨Nat.le_of_ble_eq_true rfl, Nat.le_of_ble_eq_true rfl⟩) ⟨fun a U g mk q => by obtain ⟨q0, q1, qP, qK, qD, qE0, qE1, qE2, qE3, qE4, qE5⟩ := q; exact ⟨q0, q1, qP, va_K.moved (u := U) (U := U.calling g mk a) (Vm.Alike.refl U.vm) qK, qD, va_Z.moved (u := U) (U := U.calling g mk a) (Vm.Alike.refl U.vm) qE0, va_OF.moved (u := U) (U := U.calling g mk a) (Vm.Alike.refl U.vm) qE1, va_O.moved (u := U) (U := U.calling g mk a) (Vm.Alike.refl U.vm) qE2, va_OF.moved (u := U) (U := U.calling g mk a) (Vm.Alike.refl U.vm) qE3, va_T.moved (u := U) (U := U.calling g mk a) (Vm.Alike.refl U.vm) qE4, va_Zq.moved (u := U) (U := U.calling g mk a) (Vm.Alike.refl U.vm) qE5⟩, hrv, fun U hU hW => ⟨rfl, by rw [hU], by rw [hU]; exact hPc, va_K.moved hW.alike hKc, hDc.weaken (fun _ _ _ _ => trivial), va_Z.moved hW.alike (by rw [hU]; exact (hE_10.kept hS.2.1).narrow hFc), va_OF.moved hW.alike (by rw [hU]; exact (hE_69.kept hS.2.1).narrow hFc), va_O.moved hW.alike (by rw [hU]; exact (hE_68.kept hS.2.1).narrow hFc), va_OF.moved hW.alike (by rw [hU]; exact (hE_70.kept hS.2.1).narrow hFc), va_T.moved hW.alike (by rw [hU]; exact (hE_71.kept hS.2.1).narrow hFc), va_Zq.moved hW.alike (by rw [hU]; exact (hE_11.kept hS.2.1).narrow hFc)⟩⟩ rfl rfl hl.1 rfl (lv_room (Nat.le_of_ble_eq_true rfl)) dX12_spotOf_12 ⟨Nat.le_of_ble_eq_true rfl, Nat.le_of_ble_eq_true rfl⟩) hS (fun q _ h => hFc q h) hFc (fun r_29 u t H1 locs ht hvm hw hB hz1 hk1 hS => ?_)
  obtain ⟨hP1, hK1, hD1⟩ := hB
  rw [ht] at hP1
  have hP := bv_still hP hk1
  generalize H1 = H at hP hS ⊢
  as_aux_lemma =>
  rcases hw with ⟨h_30, h_31⟩
  have h_31 : r_29 = _ := h_31
  replace hEX := hEX.trans (exc1_eq h_31)
  rw [h_30]
  refine lv_iload_n hx hb dX12_spotOf_15 rfl (lv_at hl 2 rfl) ?_
  refine lv_icmp_ne (tgt := 21) hx hb dX12_spotOf_16 rfl (fun c_32 => ?_) (fun c_32 => absurd c_32 (by decide +kernel))
  refine lv_iinc (v := 4) (lv' := [(2, .int 4), (0, .ref ts11), (1, .int (-1))]) hx hb dX12_spotOf_21 hl (k := 0) rfl (by decide +kernel) (Nat.le_of_ble_eq_true rfl) rfl (fun ls hl => ?_)
  refine lv_goto (tgt := 2) hx hb dX12_spotOf_24 rfl ?_
  refine lv_iload_n hx hb dX12_spotOf_2 rfl (lv_at hl 0 rfl) ?_
  refine lv_aload_n hx hb dX12_spotOf_3 rfl (lv_at hl 1 rfl) ?_
  obtain ⟨hPc, hDc, hFc, hqc⟩ := cl_cut (wc := []) hP hD hS hA [] (by decide +kernel) rfl
  have hKc := hK.sub (tys' := []) [] rfl
  have hrv := bv_Orecv hE_68 hS
  refine va_calli (va_runV (As := []) (rest := [.int 4]) ⟨hx, hb, hml, hown, hts⟩ (c_J0_length_8abf5_11 l dC dI H.size ts11 tv11) (cwV 0 hts gf_c_X12_spotOf_6_c_J0_length_8abf5_11 rfl rfl rfl mdV_J0_length_8abf5 ⟨Nat.le_of_ble_eq_true rfl, Nat.le_of_ble_eq_true rfl⟩) ⟨fun a U g mk q => by obtain ⟨q0, q1, qP, qK, qD, qE0, qE1, qE2, qE3, qE4⟩ := q; exact ⟨q0, q1, qP, va_K.moved (u := U) (U := U.calling g mk a) (Vm.Alike.refl U.vm) qK, qD, va_OF.moved (u := U) (U := U.calling g mk a) (Vm.Alike.refl U.vm) qE0, va_T.moved (u := U) (U := U.calling g mk a) (Vm.Alike.refl U.vm) qE1, va_Z.moved (u := U) (U := U.calling g mk a) (Vm.Alike.refl U.vm) qE2, va_OF.moved (u := U) (U := U.calling g mk a) (Vm.Alike.refl U.vm) qE3, va_O.moved (u := U) (U := U.calling g mk a) (Vm.Alike.refl U.vm) qE4⟩, hrv, fun U hU hW => ⟨rfl, by rw [hU], by rw [hU]; exact hPc, va_K.moved hW.alike hKc, hDc.weaken (fun _ _ _ _ => trivial), va_OF.moved hW.alike (by rw [hU]; exact (hE_70.kept hS.2.1).narrow hFc), va_T.moved hW.alike (by rw [hU]; exact (hE_71.kept hS.2.1).narrow hFc), va_Z.moved hW.alike (by rw [hU]; exact (hE_10.kept hS.2.1).narrow hFc), va_OF.moved hW.alike (by rw [hU]; exact (hE_69.kept hS.2.1).narrow hFc), va_O.moved hW.alike (by rw [hU]; exact (hE_68.kept hS.2.1).narrow hFc)⟩⟩ rfl rfl hl.1 rfl (lv_room (Nat.le_of_ble_eq_true rfl)) dX12_spotOf_4 ⟨Nat.le_of_ble_eq_true rfl, Nat.le_of_ble_eq_true rfl⟩) hS (fun q _ h => hFc q h) hFc (fun r_33 u t H1 locs ht hvm hw hB hz1 hk1 hS => ?_)
  as_aux_lemma =>
  obtain ⟨hP1, hK1, hD1⟩ := hB
  rw [ht] at hP1
  have hP := bv_still hP hk1
  generalize H1 = H at hP hS ⊢
  as_aux_lemma =>
  rcases hw with ⟨h_34, h_35⟩
  have h_35 : r_33 = _ := h_35
  replace hEX := hEX.trans (exc1_eq h_35)
  rw [h_34]
  refine lv_icmp_ge (tgt := 27) hx hb dX12_spotOf_7 rfl (fun c_36 => ?_) (fun c_36 => absurd c_36 (by decide +kernel))
  refine lv_iconst (v := (-1)) hx hb dX12_spotOf_27 kc_iconst_m1 ?_
  have hK9 := hK.sub (tys' := []) [] rfl
  exact W.iret (v := (-1)) hx hb hr (fun t ht hW => ⟨⟨(-1), (), rfl, ⟨rfl, (hR.trans hEX).symm⟩, by rw [ht]; exact hP, va_K.moved hW.alike hK9, hD⟩, hS.F ht⟩) hS.2.2 dX12_spotOf_28
noncomputable def wf_c_X12_spotOf_7 : List Cond := .code yX12_spotOf cX12_spotOf 3 (some .int) :: ([.methodLink RX12 114 yJ0_length_8abf5, .instanceMethod yJ0_length_8abf5, .selects RJ0 yJ0_length_8abf5 yJ0_length_8abf5, .initialized RJ0, .code yJ0_length_8abf5 cJ0_length_8abf5 1 (some .int), .fieldLink RJ0 9 "java/lang/String" "value" "[B", .methodLink RJ0 335 yJ0_coder_7d493, .instanceMethod yJ0_coder_7d493, .selects RJ0 yJ0_coder_7d493 yJ0_coder_7d493, .code yJ0_coder_7d493 cJ0_coder_7d493 1 (some .byte), .fieldLink RJ0 38 "java/lang/String" "COMPACT_STRINGS" "Z", .fieldLink RJ0 15 "java/lang/String" "coder" "B", .methodLink RX12 120 yJ0_charAt_5068e, .instanceMethod yJ0_charAt_5068e, .selects RJ0 yJ0_charAt_5068e yJ0_charAt_5068e, .code yJ0_charAt_5068e cJ0_charAt_5068e 2 (some .char), .methodLink RJ0 492 yJ0_isLatin1_aae02, .instanceMethod yJ0_isLatin1_aae02, .selects RJ0 yJ0_isLatin1_aae02 yJ0_isLatin1_aae02, .code yJ0_isLatin1_aae02 cJ0_isLatin1_aae02 1 (some .boolean), .methodLink RJ0 495 yJ1_charAt_3b067, .static yJ1_charAt_3b067, .initialized RJ1, .code yJ1_charAt_3b067 cJ1_charAt_3b067 2 (some .char), .methodLink RJ1 9 yJ0_checkIndex_df160, .static yJ0_checkIndex_df160, .code yJ0_checkIndex_df160 cJ0_checkIndex_df160 2 none, .fieldLink RJ0 1053 "jdk/internal/util/Preconditions" "SIOOBE_FORMATTER" "Ljava/util/function/BiFunction;", .methodLink RJ0 1059 yJ3_checkIndex_8e157, .static yJ3_checkIndex_8e157, .initialized RJ3, .code yJ3_checkIndex_8e157 cJ3_checkIndex_8e157 3 (some .int)])
set_option maxRecDepth 20000 in
theorem gf_c_X12_spotOf_7_c_J0_length_8abf5_11 : GoodIn wf_c_X12_spotOf_7 (wsV RX12 114 RJ0 yJ0_length_8abf5 wf_c_J0_length_8abf5_11) := goodIn_app (gi_l [1, 2, 3, 4] rfl rfl) (gi_cons (j := 5) rfl rfl (gi_l [6, 7, 8, 9, 4, 10, 11, 12] rfl rfl))
set_option maxRecDepth 20000 in
theorem gf_c_X12_spotOf_7_c_J0_charAt_5068e_23 : GoodIn wf_c_X12_spotOf_7 (wsV RX12 120 RJ0 yJ0_charAt_5068e wf_c_J0_charAt_5068e_23) := goodIn_app (gi_l [13, 14, 15, 4] rfl rfl) (gi_cons (j := 16) rfl rfl (gi_l [17, 18, 19, 4, 20, 11, 12, 6, 21, 22, 23, 24, 25, 26, 27, 28, 29, 30, 31, 32] rfl rfl))
set_option maxRecDepth 20000 in
theorem gf_c_X12_spotOf_7_c_J0_charAt_5068e_24 : GoodIn wf_c_X12_spotOf_7 (wsV RX12 120 RJ0 yJ0_charAt_5068e wf_c_J0_charAt_5068e_24) := goodIn_app (gi_l [13, 14, 15, 4] rfl rfl) (gi_cons (j := 16) rfl rfl (gi_l [17, 18, 19, 4, 20, 11, 12, 6, 21, 22, 23, 24, 25, 26, 27, 28, 29, 30, 31, 32] rfl rfl))
set_option maxRecDepth 20000 in
theorem gf_c_X12_spotOf_7_c_J0_charAt_5068e_25 : GoodIn wf_c_X12_spotOf_7 (wsV RX12 120 RJ0 yJ0_charAt_5068e wf_c_J0_charAt_5068e_25) := goodIn_app (gi_l [13, 14, 15, 4] rfl rfl) (gi_cons (j := 16) rfl rfl (gi_l [17, 18, 19, 4, 20, 11, 12, 6, 21, 22, 23, 24, 25, 26, 27, 28, 29, 30, 31, 32] rfl rfl))
set_option maxRecDepth 20000 in
theorem gf_c_X12_spotOf_7_c_J0_charAt_5068e_26 : GoodIn wf_c_X12_spotOf_7 (wsV RX12 120 RJ0 yJ0_charAt_5068e wf_c_J0_charAt_5068e_26) := goodIn_app (gi_l [13, 14, 15, 4] rfl rfl) (gi_cons (j := 16) rfl rfl (gi_l [17, 18, 19, 4, 20, 11, 12, 6, 21, 22, 23, 24, 25, 26, 27, 28, 29, 30, 31, 32] rfl rfl))
set_option maxHeartbeats 4000000 in
set_option maxRecDepth 100000 in
theorem c_X12_spotOf_7 (l : Launch) (dC : Nat → ClassId) (dI : Nat → Nat → Nat) (sz : Nat) (ts11 : Nat) (p1 : Int32) (tv11 : Nat) (g_p1 : RG p1 0 255) : Met l yX12_spotOf wf_c_X12_spotOf_7 ({ frames := 4, cells := 0, slots := 0, locals := 85 }) (va_Pc [.ref ts11, .int p1] (fun U => U.heap.size = sz ∧ va_P (dC, dI) vwCl [] U.heap ∧ va_K (dC, dI) vwCl [] U ∧ va_D (fun _ => True) [] ∧ va_OF "java/lang/String" "value" "[B" (.ref tv11) ts11 (va_A [] sz) U U.heap ∧ va_T .byte tv11 4 (fun j => .int ([103, 115, 99, 104].getD j 0)) (va_A [] sz) U U.heap ∧ va_Z "java/lang/String" "COMPACT_STRINGS" "Z" (.int 1) (va_A [] sz) U U.heap ∧ va_OF "java/lang/String" "coder" "B" (.int 0) ts11 (va_A [] sz) U U.heap ∧ va_O "java/lang/String" ts11 (va_A [] sz) U U.heap ∧ va_Zq "jdk/internal/util/Preconditions" "SIOOBE_FORMATTER" "Ljava/util/function/BiFunction;" (va_A [] sz) U U.heap)) (va_Qi (fun (r : Int32) (u : Unit) => (r = (-1) ∧ r = fx_c_X12_spotOf_7 p1) ∨ (r = 3 ∧ RG p1 104 104 ∧ r = fx_c_X12_spotOf_7 p1) ∨ (r = 2 ∧ RG p1 99 99 ∧ r = fx_c_X12_spotOf_7 p1) ∨ (r = 1 ∧ RG p1 115 115 ∧ r = fx_c_X12_spotOf_7 p1) ∨ (r = 0 ∧ RG p1 103 103 ∧ r = fx_c_X12_spotOf_7 p1)) (fun (u : Unit) t => va_P (dC, dI) vwCl [] t.heap ∧ va_K (dC, dI) vwCl [] t ∧ va_D (va_A [] sz) []) (va_A [] sz)) 0 0 (va_A [] sz) := by
  refine Met.ofW (cc := cX12_spotOf) (maxL := 3) (ret := (some .int)) (by decide +kernel) rfl ?_
  intro p e s m args below meth c s₁ B hml hv
  obtain ⟨rfl, hsz, hP, hK, hD0, hE_70, hE_71, hE_10, hE_69, hE_68, hE_11⟩ := hv
  have hx := B.exec
  have hb := B.bytes
  have hr := B.returns
  have hts := atoms_spec (ws := wf_c_X12_spotOf_7) B.pre
  have hown : s.vm.findClass RX12 = some m.cls := findClass_of_methodNamed B.named
  have hlocks := B.notSynchronized
  subst hsz
  have hD := hD0.self (sz := s.heap.size)
  generalize hAe : va_A [] s.heap.size = A at hD hE_70 hE_71 hE_10 hE_69 hE_68 hE_11 ⊢
  have hA : ∀ q : Nat, s.heap.size ≤ q → A q := fun q h => by rw [← hAe]; exact Or.inr h
  have hP : va_P (dC, dI) vwCl [] s.heap := hP
  have hl := lv_entry ([.ref ts11, .int p1]) (n := 3) (Nat.le_of_ble_eq_true rfl)
  rw [lg_entry_eq]
  generalize (lg_sl ([.ref ts11, .int p1]) ++ List.replicate (3 - (lg_sl ([.ref ts11, .int p1])).length) Slot.unset).toArray = ls at hl ⊢
  have hl : lv_has ls 3 [(0, .ref ts11), (1, .int p1)] := hl
  obtain ⟨H, hHe⟩ : ∃ H : Heap, s.heap = H := ⟨_, rfl⟩
  have hS : va_S A s.heap H [] := by rw [hHe]; exact va_S.rf
  have hP : va_P (dC, dI) vwCl [] H := by rw [← hHe]; exact hP
  rw [hHe]
  obtain ⟨RES, hR⟩ : ∃ z, fx_c_X12_spotOf_7 p1 = z := ⟨_, rfl⟩
  have hEX : RES = fx_c_X12_spotOf_7 p1 := hR.symm
  refine lv_iconst (v := 0) hx hb dX12_spotOf_0 kc_iconst_0 ?_
  as_aux_lemma =>
  refine lv_istore_n (lv' := [(2, .int 0), (0, .ref ts11), (1, .int p1)]) hx hb dX12_spotOf_1 rfl hl (Nat.le_of_ble_eq_true rfl) rfl (fun ls hl => ?_)
  refine lv_iload_n hx hb dX12_spotOf_2 rfl (lv_at hl 0 rfl) ?_
  refine lv_aload_n hx hb dX12_spotOf_3 rfl (lv_at hl 1 rfl) ?_
  obtain ⟨hPc, hDc, hFc, hqc⟩ := cl_cut (wc := []) hP hD hS hA [] (by decide +kernel) rfl
  have hKc := hK.sub (tys' := []) [] rfl
  have hrv := bv_Orecv hE_68 hS
  refine va_calli (va_runV (As := []) (rest := [.int 0]) ⟨hx, hb, hml, hown, hts⟩ (c_J0_length_8abf5_11 l dC dI H.size ts11 tv11) (cwV 0 hts gf_c_X12_spotOf_7_c_J0_length_8abf5_11 rfl rfl rfl mdV_J0_length_8abf5 ⟨Nat.le_of_ble_eq_true rfl, Nat.le_of_ble_eq_true rfl⟩) ⟨fun a U g mk q => by obtain ⟨q0, q1, qP, qK, qD, qE0, qE1, qE2, qE3, qE4⟩ := q; exact ⟨q0, q1, qP, va_K.moved (u := U) (U := U.calling g mk a) (Vm.Alike.refl U.vm) qK, qD, va_OF.moved (u := U) (U := U.calling g mk a) (Vm.Alike.refl U.vm) qE0, va_T.moved (u := U) (U := U.calling g mk a) (Vm.Alike.refl U.vm) qE1, va_Z.moved (u := U) (U := U.calling g mk a) (Vm.Alike.refl U.vm) qE2, va_OF.moved (u := U) (U := U.calling g mk a) (Vm.Alike.refl U.vm) qE3, va_O.moved (u := U) (U := U.calling g mk a) (Vm.Alike.refl U.vm) qE4⟩, hrv, fun U hU hW => ⟨rfl, by rw [hU], by rw [hU]; exact hPc, va_K.moved hW.alike hKc, hDc.weaken (fun _ _ _ _ => trivial), va_OF.moved hW.alike (by rw [hU]; exact (hE_70.kept hS.2.1).narrow hFc), va_T.moved hW.alike (by rw [hU]; exact (hE_71.kept hS.2.1).narrow hFc), va_Z.moved hW.alike (by rw [hU]; exact (hE_10.kept hS.2.1).narrow hFc), va_OF.moved hW.alike (by rw [hU]; exact (hE_69.kept hS.2.1).narrow hFc), va_O.moved hW.alike (by rw [hU]; exact (hE_68.kept hS.2.1).narrow hFc)⟩⟩ rfl rfl hl.1 rfl (lv_room (Nat.le_of_ble_eq_true rfl)) dX12_spotOf_4 ⟨Nat.le_of_ble_eq_true rfl, Nat.le_of_ble_eq_true rfl⟩) hS (fun q _ h => hFc q h) hFc (fun r_1 u t H1 locs ht hvm hw hB hz1 hk1 hS => ?_)
  obtain ⟨hP1, hK1, hD1⟩ := hB
  rw [ht] at hP1
  have hP := bv_still hP hk1
  generalize H1 = H at hP hS ⊢
  as_aux_lemma =>
  rcases hw with ⟨h_2, h_3⟩
  have h_3 : r_1 = _ := h_3
  replace hEX := hEX.trans (exc1_eq h_3)
  rw [h_2]
  refine lv_icmp_ge (tgt := 27) hx hb dX12_spotOf_7 rfl (fun c_4 => absurd c_4 (by decide +kernel)) (fun c_4 => ?_)
  refine lv_aload_n hx hb dX12_spotOf_10 rfl (lv_at hl 1 rfl) ?_
  refine lv_iload_n hx hb dX12_spotOf_11 rfl (lv_at hl 0 rfl) ?_
  obtain ⟨hPc, hDc, hFc, hqc⟩ := cl_cut (wc := []) hP hD hS hA [] (by decide +kernel) rfl
  have hKc := hK.sub (tys' := []) [] rfl
  have hrv := bv_Orecv hE_68 hS
  refine va_calli (va_runV (As := [.int 0]) (rest := []) ⟨hx, hb, hml, hown, hts⟩ (c_J0_charAt_5068e_23 l dC dI H.size ts11 tv11) (cwV 1 hts gf_c_X12_spotOf_7_c_J0_charAt_5068e_23 rfl rfl rfl mdV_J0_charAt_5068e ⟨Nat.le_of_ble_eq_true rfl, Nat.le_of_ble_eq_true rfl⟩) ⟨fun a U g mk q => by obtain ⟨q0, q1, qP, qK, qD, qE0, qE1, qE2, qE3, qE4, qE5⟩ := q; exact ⟨q0, q1, qP, va_K.moved (u := U) (U := U.calling g mk a) (Vm.Alike.refl U.vm) qK, qD, va_Z.moved (u := U) (U := U.calling g mk a) (Vm.Alike.refl U.vm) qE0, va_OF.moved (u := U) (U := U.calling g mk a) (Vm.Alike.refl U.vm) qE1, va_O.moved (u := U) (U := U.calling g mk a) (Vm.Alike.refl U.vm) qE2, va_OF.moved (u := U) (U := U.calling g mk a) (Vm.Alike.refl U.vm) qE3, va_T.moved (u := U) (U := U.calling g mk a) (Vm.Alike.refl U.vm) qE4, va_Zq.moved (u := U) (U := U.calling g mk a) (Vm.Alike.refl U.vm) qE5⟩, hrv, fun U hU hW => ⟨rfl, by rw [hU], by rw [hU]; exact hPc, va_K.moved hW.alike hKc, hDc.weaken (fun _ _ _ _ => trivial), va_Z.moved hW.alike (by rw [hU]; exact (hE_10.kept hS.2.1).narrow hFc), va_OF.moved hW.alike (by rw [hU]; exact (hE_69.kept hS.2.1).narrow hFc), va_O.moved hW.alike (by rw [hU]; exact (hE_68.kept hS.2.1).narrow hFc), va_OF.moved hW.alike (by rw [hU]; exact (hE_70.kept hS.2.1).narrow hFc), va_T.moved hW.alike (by rw [hU]; exact (hE_71.kept hS.2.1).narrow hFc), va_Zq.moved hW.alike (by rw [hU]; exact (hE_11.kept hS.2.1).narrow hFc)⟩⟩ rfl rfl hl.1 rfl (lv_room (Nat.le_of_ble_eq_true rfl)) dX12_spotOf_12 ⟨Nat.le_of_ble_eq_true rfl, Nat.le_of_ble_eq_true rfl⟩) hS (fun q _ h => hFc q h) hFc (fun r_5 u t H1 locs ht hvm hw hB hz1 hk1 hS => ?_)
  obtain ⟨hP1, hK1, hD1⟩ := hB
  rw [ht] at hP1
  have hP := bv_still hP hk1
  generalize H1 = H at hP hS ⊢
  as_aux_lemma =>
  rcases hw with ⟨h_6, h_7⟩
  have h_7 : r_5 = _ := h_7
  replace hEX := hEX.trans (exc1_eq h_7)
  rw [h_6]
  refine lv_iload_n hx hb dX12_spotOf_15 rfl (lv_at hl 2 rfl) ?_
  refine lv_icmp_ne (tgt := 21) hx hb dX12_spotOf_16 rfl (fun c_8 => ?_) (fun c_8 => ?_)
  · replace hEX := hEX.trans (if_neg c_8)
    refine lv_iinc (v := 1) (lv' := [(2, .int 1), (0, .ref ts11), (1, .int p1)]) hx hb dX12_spotOf_21 hl (k := 0) rfl (by decide +kernel) (Nat.le_of_ble_eq_true rfl) rfl (fun ls hl => ?_)
    refine lv_goto (tgt := 2) hx hb dX12_spotOf_24 rfl ?_
    refine lv_iload_n hx hb dX12_spotOf_2 rfl (lv_at hl 0 rfl) ?_
    refine lv_aload_n hx hb dX12_spotOf_3 rfl (lv_at hl 1 rfl) ?_
    obtain ⟨hPc, hDc, hFc, hqc⟩ := cl_cut (wc := []) hP hD hS hA [] (by decide +kernel) rfl
    have hKc := hK.sub (tys' := []) [] rfl
    have hrv := bv_Orecv hE_68 hS
    refine va_calli (va_runV (As := []) (rest := [.int 1]) ⟨hx, hb, hml, hown, hts⟩ (c_J0_length_8abf5_11 l dC dI H.size ts11 tv11) (cwV 0 hts gf_c_X12_spotOf_7_c_J0_length_8abf5_11 rfl rfl rfl mdV_J0_length_8abf5 ⟨Nat.le_of_ble_eq_true rfl, Nat.le_of_ble_eq_true rfl⟩) ⟨fun a U g mk q => by obtain ⟨q0, q1, qP, qK, qD, qE0, qE1, qE2, qE3, qE4⟩ := q; exact ⟨q0, q1, qP, va_K.moved (u := U) (U := U.calling g mk a) (Vm.Alike.refl U.vm) qK, qD, va_OF.moved (u := U) (U := U.calling g mk a) (Vm.Alike.refl U.vm) qE0, va_T.moved (u := U) (U := U.calling g mk a) (Vm.Alike.refl U.vm) qE1, va_Z.moved (u := U) (U := U.calling g mk a) (Vm.Alike.refl U.vm) qE2, va_OF.moved (u := U) (U := U.calling g mk a) (Vm.Alike.refl U.vm) qE3, va_O.moved (u := U) (U := U.calling g mk a) (Vm.Alike.refl U.vm) qE4⟩, hrv, fun U hU hW => ⟨rfl, by rw [hU], by rw [hU]; exact hPc, va_K.moved hW.alike hKc, hDc.weaken (fun _ _ _ _ => trivial), va_OF.moved hW.alike (by rw [hU]; exact (hE_70.kept hS.2.1).narrow hFc), va_T.moved hW.alike (by rw [hU]; exact (hE_71.kept hS.2.1).narrow hFc), va_Z.moved hW.alike (by rw [hU]; exact (hE_10.kept hS.2.1).narrow hFc), va_OF.moved hW.alike (by rw [hU]; exact (hE_69.kept hS.2.1).narrow hFc), va_O.moved hW.alike (by rw [hU]; exact (hE_68.kept hS.2.1).narrow hFc)⟩⟩ rfl rfl hl.1 rfl (lv_room (Nat.le_of_ble_eq_true rfl)) dX12_spotOf_4 ⟨Nat.le_of_ble_eq_true rfl, Nat.le_of_ble_eq_true rfl⟩) hS (fun q _ h => hFc q h) hFc (fun r_9 u t H1 locs ht hvm hw hB hz1 hk1 hS => ?_)
    as_aux_lemma =>
    obtain ⟨hP1, hK1, hD1⟩ := hB
    rw [ht] at hP1
    have hP := bv_still hP hk1
    generalize H1 = H at hP hS ⊢
    as_aux_lemma =>
    rcases hw with ⟨h_10, h_11⟩
    have h_11 : r_9 = _ := h_11
    replace hEX := hEX.trans (exc1_eq h_11)
    rw [h_10]
    refine lv_icmp_ge (tgt := 27) hx hb dX12_spotOf_7 rfl (fun c_12 => absurd c_12 (by decide +kernel)) (fun c_12 => ?_)
    refine lv_aload_n hx hb dX12_spotOf_10 rfl (lv_at hl 1 rfl) ?_
    refine lv_iload_n hx hb dX12_spotOf_11 rfl (lv_at hl 0 rfl) ?_
    obtain ⟨hPc, hDc, hFc, hqc⟩ := cl_cut (wc := []) hP hD hS hA [] (by decide +kernel) rfl
    have hKc := hK.sub (tys' := []) [] rfl
    have hrv := bv_Orecv hE_68 hS
    refine va_calli (va_runV (As := [.int 1]) (rest := []) ⟨hx, hb, hml, hown, hts⟩ (c_J0_charAt_5068e_24 l dC dI H.size ts11 tv11) (cwV 1 hts gf_c_X12_spotOf_7_c_J0_charAt_5068e_24 rfl rfl rfl mdV_J0_charAt_5068e ⟨Nat.le_of_ble_eq_true rfl, Nat.le_of_ble_eq_true rfl⟩) ⟨fun a U g mk q => by obtain ⟨q0, q1, qP, qK, qD, qE0, qE1, qE2, qE3, qE4, qE5⟩ := q; exact ⟨q0, q1, qP, va_K.moved (u := U) (U := U.calling g mk a) (Vm.Alike.refl U.vm) qK, qD, va_Z.moved (u := U) (U := U.calling g mk a) (Vm.Alike.refl U.vm) qE0, va_OF.moved (u := U) (U := U.calling g mk a) (Vm.Alike.refl U.vm) qE1, va_O.moved (u := U) (U := U.calling g mk a) (Vm.Alike.refl U.vm) qE2, va_OF.moved (u := U) (U := U.calling g mk a) (Vm.Alike.refl U.vm) qE3, va_T.moved (u := U) (U := U.calling g mk a) (Vm.Alike.refl U.vm) qE4, va_Zq.moved (u := U) (U := U.calling g mk a) (Vm.Alike.refl U.vm) qE5⟩, hrv, fun U hU hW => ⟨rfl, by rw [hU], by rw [hU]; exact hPc, va_K.moved hW.alike hKc, hDc.weaken (fun _ _ _ _ => trivial), va_Z.moved hW.alike (by rw [hU]; exact (hE_10.kept hS.2.1).narrow hFc), va_OF.moved hW.alike (by rw [hU]; exact (hE_69.kept hS.2.1).narrow hFc), va_O.moved hW.alike (by rw [hU]; exact (hE_68.kept hS.2.1).narrow hFc), va_OF.moved hW.alike (by rw [hU]; exact (hE_70.kept hS.2.1).narrow hFc), va_T.moved hW.alike (by rw [hU]; exact (hE_71.kept hS.2.1).narrow hFc), va_Zq.moved hW.alike (by rw [hU]; exact (hE_11.kept hS.2.1).narrow hFc)⟩⟩ rfl rfl hl.1 rfl (lv_room (Nat.le_of_ble_eq_true rfl)) dX12_spotOf_12 ⟨Nat.le_of_ble_eq_true rfl, Nat.le_of_ble_eq_true rfl⟩) hS (fun q _ h => hFc q h) hFc (fun r_13 u t H1 locs ht hvm hw hB hz1 hk1 hS => ?_)
    obtain ⟨hP1, hK1, hD1⟩ := hB
    rw [ht] at hP1
    have hP := bv_still hP hk1
    generalize H1 = H at hP hS ⊢
    as_aux_lemma =>
    rcases hw with ⟨h_14, h_15⟩
    have h_15 : r_13 = _ := h_15
    replace hEX := hEX.trans (exc1_eq h_15)
    rw [h_14]
    refine lv_iload_n hx hb dX12_spotOf_15 rfl (lv_at hl 2 rfl) ?_
    refine lv_icmp_ne (tgt := 21) hx hb dX12_spotOf_16 rfl (fun c_16 => ?_) (fun c_16 => ?_)
    · replace hEX := hEX.trans (if_neg c_16)
      refine lv_iinc (v := 2) (lv' := [(2, .int 2), (0, .ref ts11), (1, .int p1)]) hx hb dX12_spotOf_21 hl (k := 0) rfl (by decide +kernel) (Nat.le_of_ble_eq_true rfl) rfl (fun ls hl => ?_)
      refine lv_goto (tgt := 2) hx hb dX12_spotOf_24 rfl ?_
      refine lv_iload_n hx hb dX12_spotOf_2 rfl (lv_at hl 0 rfl) ?_
      refine lv_aload_n hx hb dX12_spotOf_3 rfl (lv_at hl 1 rfl) ?_
      obtain ⟨hPc, hDc, hFc, hqc⟩ := cl_cut (wc := []) hP hD hS hA [] (by decide +kernel) rfl
      have hKc := hK.sub (tys' := []) [] rfl
      have hrv := bv_Orecv hE_68 hS
      refine va_calli (va_runV (As := []) (rest := [.int 2]) ⟨hx, hb, hml, hown, hts⟩ (c_J0_length_8abf5_11 l dC dI H.size ts11 tv11) (cwV 0 hts gf_c_X12_spotOf_7_c_J0_length_8abf5_11 rfl rfl rfl mdV_J0_length_8abf5 ⟨Nat.le_of_ble_eq_true rfl, Nat.le_of_ble_eq_true rfl⟩) ⟨fun a U g mk q => by obtain ⟨q0, q1, qP, qK, qD, qE0, qE1, qE2, qE3, qE4⟩ := q; exact ⟨q0, q1, qP, va_K.moved (u := U) (U := U.calling g mk a) (Vm.Alike.refl U.vm) qK, qD, va_OF.moved (u := U) (U := U.calling g mk a) (Vm.Alike.refl U.vm) qE0, va_T.moved (u := U) (U := U.calling g mk a) (Vm.Alike.refl U.vm) qE1, va_Z.moved (u := U) (U := U.calling g mk a) (Vm.Alike.refl U.vm) qE2, va_OF.moved (u := U) (U := U.calling g mk a) (Vm.Alike.refl U.vm) qE3, va_O.moved (u := U) (U := U.calling g mk a) (Vm.Alike.refl U.vm) qE4⟩, hrv, fun U hU hW => ⟨rfl, by rw [hU], by rw [hU]; exact hPc, va_K.moved hW.alike hKc, hDc.weaken (fun _ _ _ _ => trivial), va_OF.moved hW.alike (by rw [hU]; exact (hE_70.kept hS.2.1).narrow hFc), va_T.moved hW.alike (by rw [hU]; exact (hE_71.kept hS.2.1).narrow hFc), va_Z.moved hW.alike (by rw [hU]; exact (hE_10.kept hS.2.1).narrow hFc), va_OF.moved hW.alike (by rw [hU]; exact (hE_69.kept hS.2.1).narrow hFc), va_O.moved hW.alike (by rw [hU]; exact (hE_68.kept hS.2.1).narrow hFc)⟩⟩ rfl rfl hl.1 rfl (lv_room (Nat.le_of_ble_eq_true rfl)) dX12_spotOf_4 ⟨Nat.le_of_ble_eq_true rfl, Nat.le_of_ble_eq_true rfl⟩) hS (fun q _ h => hFc q h) hFc (fun r_17 u t H1 locs ht hvm hw hB hz1 hk1 hS => ?_)
      as_aux_lemma =>
      obtain ⟨hP1, hK1, hD1⟩ := hB
      rw [ht] at hP1
      have hP := bv_still hP hk1
      generalize H1 = H at hP hS ⊢
      as_aux_lemma =>
      rcases hw with ⟨h_18, h_19⟩
      have h_19 : r_17 = _ := h_19
      replace hEX := hEX.trans (exc1_eq h_19)
      rw [h_18]
      refine lv_icmp_ge (tgt := 27) hx hb dX12_spotOf_7 rfl (fun c_20 => absurd c_20 (by decide +kernel)) (fun c_20 => ?_)
      refine lv_aload_n hx hb dX12_spotOf_10 rfl (lv_at hl 1 rfl) ?_
      refine lv_iload_n hx hb dX12_spotOf_11 rfl (lv_at hl 0 rfl) ?_
      obtain ⟨hPc, hDc, hFc, hqc⟩ := cl_cut (wc := []) hP hD hS hA [] (by decide +kernel) rfl
      have hKc := hK.sub (tys' := []) [] rfl
      have hrv := bv_Orecv hE_68 hS
      refine va_calli (va_runV (As := [.int 2]) (rest := []) ⟨hx, hb, hml, hown, hts⟩ (c_J0_charAt_5068e_25 l dC dI H.size ts11 tv11) (cwV 1 hts gf_c_X12_spotOf_7_c_J0_charAt_5068e_25 rfl rfl rfl mdV_J0_charAt_5068e ⟨Nat.le_of_ble_eq_true rfl, Nat.le_of_ble_eq_true rfl⟩) ⟨fun a U g mk q => by obtain ⟨q0, q1, qP, qK, qD, qE0, qE1, qE2, qE3, qE4, qE5⟩ := q; exact ⟨q0, q1, qP, va_K.moved (u := U) (U := U.calling g mk a) (Vm.Alike.refl U.vm) qK, qD, va_Z.moved (u := U) (U := U.calling g mk a) (Vm.Alike.refl U.vm) qE0, va_OF.moved (u := U) (U := U.calling g mk a) (Vm.Alike.refl U.vm) qE1, va_O.moved (u := U) (U := U.calling g mk a) (Vm.Alike.refl U.vm) qE2, va_OF.moved (u := U) (U := U.calling g mk a) (Vm.Alike.refl U.vm) qE3, va_T.moved (u := U) (U := U.calling g mk a) (Vm.Alike.refl U.vm) qE4, va_Zq.moved (u := U) (U := U.calling g mk a) (Vm.Alike.refl U.vm) qE5⟩, hrv, fun U hU hW => ⟨rfl, by rw [hU], by rw [hU]; exact hPc, va_K.moved hW.alike hKc, hDc.weaken (fun _ _ _ _ => trivial), va_Z.moved hW.alike (by rw [hU]; exact (hE_10.kept hS.2.1).narrow hFc), va_OF.moved hW.alike (by rw [hU]; exact (hE_69.kept hS.2.1).narrow hFc), va_O.moved hW.alike (by rw [hU]; exact (hE_68.kept hS.2.1).narrow hFc), va_OF.moved hW.alike (by rw [hU]; exact (hE_70.kept hS.2.1).narrow hFc), va_T.moved hW.alike (by rw [hU]; exact (hE_71.kept hS.2.1).narrow hFc), va_Zq.moved hW.alike (by rw [hU]; exact (hE_11.kept hS.2.1).narrow hFc)⟩⟩ rfl rfl hl.1 rfl (lv_room (Nat.le_of_ble_eq_true rfl)) dX12_spotOf_12 ⟨Nat.le_of_ble_eq_true rfl, Nat.le_of_ble_eq_true rfl⟩) hS (fun q _ h => hFc q h) hFc (fun r_21 u t H1 locs ht hvm hw hB hz1 hk1 hS => ?_)
      obtain ⟨hP1, hK1, hD1⟩ := hB
      rw [ht] at hP1
      have hP := bv_still hP hk1
      generalize H1 = H at hP hS ⊢
      as_aux_lemma =>
      rcases hw with ⟨h_22, h_23⟩
      have h_23 : r_21 = _ := h_23
      replace hEX := hEX.trans (exc1_eq h_23)
      rw [h_22]
      refine lv_iload_n hx hb dX12_spotOf_15 rfl (lv_at hl 2 rfl) ?_
      refine lv_icmp_ne (tgt := 21) hx hb dX12_spotOf_16 rfl (fun c_24 => ?_) (fun c_24 => ?_)
      · replace hEX := hEX.trans (if_neg c_24)
        refine lv_iinc (v := 3) (lv' := [(2, .int 3), (0, .ref ts11), (1, .int p1)]) hx hb dX12_spotOf_21 hl (k := 0) rfl (by decide +kernel) (Nat.le_of_ble_eq_true rfl) rfl (fun ls hl => ?_)
        refine lv_goto (tgt := 2) hx hb dX12_spotOf_24 rfl ?_
        refine lv_iload_n hx hb dX12_spotOf_2 rfl (lv_at hl 0 rfl) ?_
        refine lv_aload_n hx hb dX12_spotOf_3 rfl (lv_at hl 1 rfl) ?_
        obtain ⟨hPc, hDc, hFc, hqc⟩ := cl_cut (wc := []) hP hD hS hA [] (by decide +kernel) rfl
        have hKc := hK.sub (tys' := []) [] rfl
        have hrv := bv_Orecv hE_68 hS
        refine va_calli (va_runV (As := []) (rest := [.int 3]) ⟨hx, hb, hml, hown, hts⟩ (c_J0_length_8abf5_11 l dC dI H.size ts11 tv11) (cwV 0 hts gf_c_X12_spotOf_7_c_J0_length_8abf5_11 rfl rfl rfl mdV_J0_length_8abf5 ⟨Nat.le_of_ble_eq_true rfl, Nat.le_of_ble_eq_true rfl⟩) ⟨fun a U g mk q => by obtain ⟨q0, q1, qP, qK, qD, qE0, qE1, qE2, qE3, qE4⟩ := q; exact ⟨q0, q1, qP, va_K.moved (u := U) (U := U.calling g mk a) (Vm.Alike.refl U.vm) qK, qD, va_OF.moved (u := U) (U := U.calling g mk a) (Vm.Alike.refl U.vm) qE0, va_T.moved (u := U) (U := U.calling g mk a) (Vm.Alike.refl U.vm) qE1, va_Z.moved (u := U) (U := U.calling g mk a) (Vm.Alike.refl U.vm) qE2, va_OF.moved (u := U) (U := U.calling g mk a) (Vm.Alike.refl U.vm) qE3, va_O.moved (u := U) (U := U.calling g mk a) (Vm.Alike.refl U.vm) qE4⟩, hrv, fun U hU hW => ⟨rfl, by rw [hU], by rw [hU]; exact hPc, va_K.moved hW.alike hKc, hDc.weaken (fun _ _ _ _ => trivial), va_OF.moved hW.alike (by rw [hU]; exact (hE_70.kept hS.2.1).narrow hFc), va_T.moved hW.alike (by rw [hU]; exact (hE_71.kept hS.2.1).narrow hFc), va_Z.moved hW.alike (by rw [hU]; exact (hE_10.kept hS.2.1).narrow hFc), va_OF.moved hW.alike (by rw [hU]; exact (hE_69.kept hS.2.1).narrow hFc), va_O.moved hW.alike (by rw [hU]; exact (hE_68.kept hS.2.1).narrow hFc)⟩⟩ rfl rfl hl.1 rfl (lv_room (Nat.le_of_ble_eq_true rfl)) dX12_spotOf_4 ⟨Nat.le_of_ble_eq_true rfl, Nat.le_of_ble_eq_true rfl⟩) hS (fun q _ h => hFc q h) hFc (fun r_25 u t H1 locs ht hvm hw hB hz1 hk1 hS => ?_)
        as_aux_lemma =>
        obtain ⟨hP1, hK1, hD1⟩ := hB
        rw [ht] at hP1
        have hP := bv_still hP hk1
        generalize H1 = H at hP hS ⊢
        as_aux_lemma =>
        rcases hw with ⟨h_26, h_27⟩
        have h_27 : r_25 = _ := h_27
        replace hEX := hEX.trans (exc1_eq h_27)
        rw [h_26]
        refine lv_icmp_ge (tgt := 27) hx hb dX12_spotOf_7 rfl (fun c_28 => absurd c_28 (by decide +kernel)) (fun c_28 => ?_)
        refine lv_aload_n hx hb dX12_spotOf_10 rfl (lv_at hl 1 rfl) ?_
        refine lv_iload_n hx hb dX12_spotOf_11 rfl (lv_at hl 0 rfl) ?_
        obtain ⟨hPc, hDc, hFc, hqc⟩ := cl_cut (wc := []) hP hD hS hA [] (by decide +kernel) rfl
        have hKc := hK.sub (tys' := []) [] rfl
        have hrv := bv_Orecv hE_68 hS
        refine va_calli (va_runV (As := [.int 3]) (rest := []) ⟨hx, hb, hml, hown, hts⟩ (c_J0_charAt_5068e_26 l dC dI H.size ts11 tv11) (cwV 1 hts gf_c_X12_spotOf_7_c_J0_charAt_5068e_26 rfl rfl rfl mdV_J0_charAt_5068e ⟨Nat.le_of_ble_eq_true rfl, Nat.le_of_ble_eq_true rfl⟩) ⟨fun a U g mk q => by obtain ⟨q0, q1, qP, qK, qD, qE0, qE1, qE2, qE3, qE4, qE5⟩ := q; exact ⟨q0, q1, qP, va_K.moved (u := U) (U := U.calling g mk a) (Vm.Alike.refl U.vm) qK, qD, va_Z.moved (u := U) (U := U.calling g mk a) (Vm.Alike.refl U.vm) qE0, va_OF.moved (u := U) (U := U.calling g mk a) (Vm.Alike.refl U.vm) qE1, va_O.moved (u := U) (U := U.calling g mk a) (Vm.Alike.refl U.vm) qE2, va_OF.moved (u := U) (U := U.calling g mk a) (Vm.Alike.refl U.vm) qE3, va_T.moved (u := U) (U := U.calling g mk a) (Vm.Alike.refl U.vm) qE4, va_Zq.moved (u := U) (U := U.calling g mk a) (Vm.Alike.refl U.vm) qE5⟩, hrv, fun U hU hW => ⟨rfl, by rw [hU], by rw [hU]; exact hPc, va_K.moved hW.alike hKc, hDc.weaken (fun _ _ _ _ => trivial), va_Z.moved hW.alike (by rw [hU]; exact (hE_10.kept hS.2.1).narrow hFc), va_OF.moved hW.alike (by rw [hU]; exact (hE_69.kept hS.2.1).narrow hFc), va_O.moved hW.alike (by rw [hU]; exact (hE_68.kept hS.2.1).narrow hFc), va_OF.moved hW.alike (by rw [hU]; exact (hE_70.kept hS.2.1).narrow hFc), va_T.moved hW.alike (by rw [hU]; exact (hE_71.kept hS.2.1).narrow hFc), va_Zq.moved hW.alike (by rw [hU]; exact (hE_11.kept hS.2.1).narrow hFc)⟩⟩ rfl rfl hl.1 rfl (lv_room (Nat.le_of_ble_eq_true rfl)) dX12_spotOf_12 ⟨Nat.le_of_ble_eq_true rfl, Nat.le_of_ble_eq_true rfl⟩) hS (fun q _ h => hFc q h) hFc (fun r_29 u t H1 locs ht hvm hw hB hz1 hk1 hS => ?_)
        obtain ⟨hP1, hK1, hD1⟩ := hB
        rw [ht] at hP1
        have hP := bv_still hP hk1
        generalize H1 = H at hP hS ⊢
        as_aux_lemma =>
        rcases hw with ⟨h_30, h_31⟩
        have h_31 : r_29 = _ := h_31
        replace hEX := hEX.trans (exc1_eq h_31)
        rw [h_30]
        refine lv_iload_n hx hb dX12_spotOf_15 rfl (lv_at hl 2 rfl) ?_
        refine lv_icmp_ne (tgt := 21) hx hb dX12_spotOf_16 rfl (fun c_32 => ?_) (fun c_32 => ?_)
        · replace hEX := hEX.trans (if_neg c_32)
          refine lv_iinc (v := 4) (lv' := [(2, .int 4), (0, .ref ts11), (1, .int p1)]) hx hb dX12_spotOf_21 hl (k := 0) rfl (by decide +kernel) (Nat.le_of_ble_eq_true rfl) rfl (fun ls hl => ?_)
          refine lv_goto (tgt := 2) hx hb dX12_spotOf_24 rfl ?_
          refine lv_iload_n hx hb dX12_spotOf_2 rfl (lv_at hl 0 rfl) ?_
          refine lv_aload_n hx hb dX12_spotOf_3 rfl (lv_at hl 1 rfl) ?_
          obtain ⟨hPc, hDc, hFc, hqc⟩ := cl_cut (wc := []) hP hD hS hA [] (by decide +kernel) rfl
          have hKc := hK.sub (tys' := []) [] rfl
          have hrv := bv_Orecv hE_68 hS
          refine va_calli (va_runV (As := []) (rest := [.int 4]) ⟨hx, hb, hml, hown, hts⟩ (c_J0_length_8abf5_11 l dC dI H.size ts11 tv11) (cwV 0 hts gf_c_X12_spotOf_7_c_J0_length_8abf5_11 rfl rfl rfl mdV_J0_length_8abf5 ⟨Nat.le_of_ble_eq_true rfl, Nat.le_of_ble_eq_true rfl⟩) ⟨fun a U g mk q => by obtain ⟨q0, q1, qP, qK, qD, qE0, qE1, qE2, qE3, qE4⟩ := q; exact ⟨q0, q1, qP, va_K.moved (u := U) (U := U.calling g mk a) (Vm.Alike.refl U.vm) qK, qD, va_OF.moved (u := U) (U := U.calling g mk a) (Vm.Alike.refl U.vm) qE0, va_T.moved (u := U) (U := U.calling g mk a) (Vm.Alike.refl U.vm) qE1, va_Z.moved (u := U) (U := U.calling g mk a) (Vm.Alike.refl U.vm) qE2, va_OF.moved (u := U) (U := U.calling g mk a) (Vm.Alike.refl U.vm) qE3, va_O.moved (u := U) (U := U.calling g mk a) (Vm.Alike.refl U.vm) qE4⟩, hrv, fun U hU hW => ⟨rfl, by rw [hU], by rw [hU]; exact hPc, va_K.moved hW.alike hKc, hDc.weaken (fun _ _ _ _ => trivial), va_OF.moved hW.alike (by rw [hU]; exact (hE_70.kept hS.2.1).narrow hFc), va_T.moved hW.alike (by rw [hU]; exact (hE_71.kept hS.2.1).narrow hFc), va_Z.moved hW.alike (by rw [hU]; exact (hE_10.kept hS.2.1).narrow hFc), va_OF.moved hW.alike (by rw [hU]; exact (hE_69.kept hS.2.1).narrow hFc), va_O.moved hW.alike (by rw [hU]; exact (hE_68.kept hS.2.1).narrow hFc)⟩⟩ rfl rfl hl.1 rfl (lv_room (Nat.le_of_ble_eq_true rfl)) dX12_spotOf_4 ⟨Nat.le_of_ble_eq_true rfl, Nat.le_of_ble_eq_true rfl⟩) hS (fun q _ h => hFc q h) hFc (fun r_33 u t H1 locs ht hvm hw hB hz1 hk1 hS => ?_)
          as_aux_lemma =>
          obtain ⟨hP1, hK1, hD1⟩ := hB
          rw [ht] at hP1
          have hP := bv_still hP hk1
          generalize H1 = H at hP hS ⊢
          as_aux_lemma =>
          rcases hw with ⟨h_34, h_35⟩
          have h_35 : r_33 = _ := h_35
          replace hEX := hEX.trans (exc1_eq h_35)
          rw [h_34]
          refine lv_icmp_ge (tgt := 27) hx hb dX12_spotOf_7 rfl (fun c_36 => ?_) (fun c_36 => absurd c_36 (by decide +kernel))
          refine lv_iconst (v := (-1)) hx hb dX12_spotOf_27 kc_iconst_m1 ?_
          have hK9 := hK.sub (tys' := []) [] rfl
          exact W.iret (v := (-1)) hx hb hr (fun t ht hW => ⟨⟨(-1), (), rfl, (Or.inl ⟨rfl, (hR.trans hEX).symm⟩), by rw [ht]; exact hP, va_K.moved hW.alike hK9, hD⟩, hS.F ht⟩) hS.2.2 dX12_spotOf_28
        · replace hEX := hEX.trans (if_pos c_32)
          have g_37 : RG p1 104 104 := RG_eq1 g_p1 (RG_k 104 104 rfl) c_32.symm (by decide +kernel)
          refine lv_iload_n hx hb dX12_spotOf_19 rfl (lv_at hl 0 rfl) ?_
          have hK9 := hK.sub (tys' := []) [] rfl
          exact W.iret (v := 3) hx hb hr (fun t ht hW => ⟨⟨3, (), rfl, (Or.inr (Or.inl ⟨rfl, g_37, (hR.trans hEX).symm⟩)), by rw [ht]; exact hP, va_K.moved hW.alike hK9, hD⟩, hS.F ht⟩) hS.2.2 dX12_spotOf_20
      · replace hEX := hEX.trans (if_pos c_24)
        have g_38 : RG p1 99 99 := RG_eq1 g_p1 (RG_k 99 99 rfl) c_24.symm (by decide +kernel)
        refine lv_iload_n hx hb dX12_spotOf_19 rfl (lv_at hl 0 rfl) ?_
        as_aux_lemma =>
        have hK9 := hK.sub (tys' := []) [] rfl
        exact W.iret (v := 2) hx hb hr (fun t ht hW => ⟨⟨2, (), rfl, (Or.inr (Or.inr (Or.inl ⟨rfl, g_38, (hR.trans hEX).symm⟩))), by rw [ht]; exact hP, va_K.moved hW.alike hK9, hD⟩, hS.F ht⟩) hS.2.2 dX12_spotOf_20
    · replace hEX := hEX.trans (if_pos c_16)
      have g_39 : RG p1 115 115 := RG_eq1 g_p1 (RG_k 115 115 rfl) c_16.symm (by decide +kernel)
      refine lv_iload_n hx hb dX12_spotOf_19 rfl (lv_at hl 0 rfl) ?_
      have hK9 := hK.sub (tys' := []) [] rfl
      exact W.iret (v := 1) hx hb hr (fun t ht hW => ⟨⟨1, (), rfl, (Or.inr (Or.inr (Or.inr (Or.inl ⟨rfl, g_39, (hR.trans hEX).symm⟩)))), by rw [ht]; exact hP, va_K.moved hW.alike hK9, hD⟩, hS.F ht⟩) hS.2.2 dX12_spotOf_20
  · replace hEX := hEX.trans (if_pos c_8)
    have g_40 : RG p1 103 103 := RG_eq1 g_p1 (RG_k 103 103 rfl) c_8.symm (by decide +kernel)
    refine lv_iload_n hx hb dX12_spotOf_19 rfl (lv_at hl 0 rfl) ?_
    have hK9 := hK.sub (tys' := []) [] rfl
    exact W.iret (v := 0) hx hb hr (fun t ht hW => ⟨⟨0, (), rfl, (Or.inr (Or.inr (Or.inr (Or.inr ⟨rfl, g_40, (hR.trans hEX).symm⟩)))), by rw [ht]; exact hP, va_K.moved hW.alike hK9, hD⟩, hS.F ht⟩) hS.2.2 dX12_spotOf_20
noncomputable def wd_c_X12_digit (a0 : Nat) (a1 : Int32) (a2 : Nat) (a3 : Nat) (a4 : Nat) (a5 : Nat) (a6 : Nat) (a7 : Int32) (a8 : Int32) (a9 : Int32) (a10 : Int32) (a11 : Int32) (a12 : Int32) (a13 : Int32) (a14 : Int32) (a15 : Int32) (a16 : Nat) (a17 : Nat) (a18 : Int32) (a19 : Nat) (a20 : Nat) (a21 : Nat) (a22 : Nat) (a23 : Nat) (a24 : Nat) (a25 : Nat) (a26 : Nat) (a27 : Int32) (a28 : Int32) (a29 : Int32) (a30 : Int32) (a31 : Int32) (a32 : Int32) (a33 : Nat) (a34 : Nat) (a35 : Int32) (a36 : Nat) (a37 : Nat) (a38 : Nat) (a39 : Nat) (a40 : Nat) (a41 : Nat) (a42 : Int32) (a43 : Int64) (a44 : Int32) (a45 : Int32) (a46 : Nat) (a47 : Nat) (a48 : Nat) (a49 : Nat) (a50 : Nat) (a51 : Nat) (a52 : Int32) (a53 : Nat) (a54 : Int32) (a55 : Nat) (a56 : ClassId) (a57 : Nat) (a58 : Nat → Int32) : va_W := [(a0, .inr (12, [.int a1, .ref a2, .ref a3, .ref a4, .ref a5, .ref a6, .int a7, .int a8, .int a9, .int a10, .int a11, .int a12, .int a13, .int a14, .int a15, .ref a16, .ref a17, .int a18, .ref a19, .ref a20, .ref a21, .ref a22, .ref a23, .ref a24, .ref a25, .ref a26, .int a27, .int a28, .int a29, .int a30, .int a31, .int a32, .ref a33, .ref a34, .int a35, .ref a36, .ref a37, .ref a38, .ref a39, .ref a40, .ref a41, .int a42, .long a43, .int a44, .int a45, .ref a46, .ref a47, .ref a48, .ref a49, .ref a50, .ref a51, .int a52, .ref a53, .int a54])), (a55, .inl (a56, a57, .inl a58))]
noncomputable def wf_c_X12_digit : List Cond := List.cons (.code yX12_digit cX12_digit 2 (some .int)) (@HAppend.hAppend (List Cond) (List Cond) (List Cond) _ [.methodLink RX12 153 yX12_look, .instanceMethod yX12_look, .selects RX12 yX12_look yX12_look, .initialized RX12, .code yX12_look cX12_look 1 (some .int), .fieldLink RX12 134 "BuoyVoteModel" "at" "I", .fieldLink RX12 137 "BuoyVoteModel" "ends" "I", .fieldLink RX12 23 "BuoyVoteModel" "text" "[B", .fieldLink RX12 140 "BuoyVoteModel" "begins" "I", .methodLink RX12 183 yX12_isDigit, .instanceMethod yX12_isDigit, .selects RX12 yX12_isDigit yX12_isDigit, .code yX12_isDigit cX12_isDigit 1 (some .boolean), .methodLink RX12 149 yX12_fails, .instanceMethod yX12_fails, .selects RX12 yX12_fails yX12_fails, .code yX12_fails cX12_fails 1 (some .boolean), .fieldLink RX12 143 "BuoyVoteModel" "fault" "I"] wsX120)
theorem iw_c_X12_digit_X12 : ∀ w ∈ wsX120, w ∈ wf_c_X12_digit := fun w h => List.mem_cons_of_mem _ (List.mem_append_right _ h)
set_option maxRecDepth 20000 in
theorem gf_c_X12_digit_c_X12_look : GoodIn wf_c_X12_digit (wsV RX12 153 RX12 yX12_look wf_c_X12_look) := goodIn_app (gi_l [1, 2, 3, 4] rfl rfl) (gi_cons (j := 5) rfl rfl (goodIn_app (gi_l [6, 7, 8, 9] rfl rfl) (goodIn_sub iw_c_X12_digit_X12 gw_X12)))
set_option maxRecDepth 20000 in
theorem gf_c_X12_digit_c_X12_isDigit : GoodIn wf_c_X12_digit (wsV RX12 183 RX12 yX12_isDigit wf_c_X12_isDigit) := goodIn_app (gi_l [10, 11, 12, 4] rfl rfl) (gi_cons (j := 13) rfl rfl (goodIn_app (gi_l [6, 7, 8, 9] rfl rfl) (goodIn_sub iw_c_X12_digit_X12 gw_X12)))
set_option maxRecDepth 20000 in
theorem gf_c_X12_digit_c_X12_fails : GoodIn wf_c_X12_digit (wsV RX12 149 RX12 yX12_fails wf_c_X12_fails) := goodIn_app (gi_l [14, 15, 16, 4] rfl rfl) (gi_cons (j := 17) rfl rfl (goodIn_app (gi_l [18, 6] rfl rfl) (goodIn_sub iw_c_X12_digit_X12 gw_X12)))
set_option maxHeartbeats 4000000 in
set_option maxRecDepth 100000 in
theorem c_X12_digit (l : Launch) (dC : Nat → ClassId) (dI : Nat → Nat → Nat) (sz : Nat) (h0 : Nat) (h0_f0 : Int32) (h0_1 : Nat) (h0_2 : Nat) (h0_3 : Nat) (h0_4 : Nat) (h0_5 : Nat) (h0_f6 : Int32) (h0_f7 : Int32) (h0_f8 : Int32) (h0_f9 : Int32) (h0_f10 : Int32) (h0_f12 : Int32) (h0_f13 : Int32) (h0_f14 : Int32) (h0_15 : Nat) (h0_16 : Nat) (h0_f17 : Int32) (h0_18 : Nat) (h0_19 : Nat) (h0_20 : Nat) (h0_21 : Nat) (h0_22 : Nat) (h0_23 : Nat) (h0_24 : Nat) (h0_25 : Nat) (h0_f26 : Int32) (h0_f27 : Int32) (h0_f28 : Int32) (h0_f29 : Int32) (h0_f30 : Int32) (h0_f31 : Int32) (h0_32 : Nat) (h0_33 : Nat) (h0_f34 : Int32) (h0_35 : Nat) (h0_36 : Nat) (h0_37 : Nat) (h0_38 : Nat) (h0_39 : Nat) (h0_40 : Nat) (h0_f41 : Int32) (h0_f42 : Int64) (h0_f43 : Int32) (h0_f44 : Int32) (h0_45 : Nat) (h0_46 : Nat) (h0_47 : Nat) (h0_48 : Nat) (h0_49 : Nat) (h0_50 : Nat) (h0_f51 : Int32) (h0_52 : Nat) (h0_f53 : Int32) (h0_5k : ClassId) (h0_5c : Nat → Int32) (tN : Nat) (g_h0_f6 : RG h0_f6 0 240) (g_h0_f7 : RG h0_f7 0 4) (g_h0_f8 : RG h0_f8 0 720) (g_h0_f9 : RG h0_f9 0 240) (g_h0_f10 : RG h0_f10 0 240) (g_h0_f17 : RG h0_f17 0 1) (g_h0_f26 : RG h0_f26 0 8) (g_h0_f27 : RG h0_f27 0 3) (g_h0_f28 : RG h0_f28 0 8) (g_h0_f29 : RG h0_f29 0 3) (g_h0_f30 : RG h0_f30 0 4) (g_h0_f31 : RG h0_f31 0 1) (g_h0_f34 : RG h0_f34 (-1) 3) (g_h0_f41 : RG h0_f41 0 40) (g_h0_f51 : RG h0_f51 0 10) (g_h0_f53 : RG h0_f53 0 1) (htN : h0_f8.toInt + 240 ≤ (tN : Int)) : Met l yX12_digit wf_c_X12_digit ({ frames := 1, cells := 0, slots := 0, locals := 20 }) (va_Pc [.ref h0] (fun U => U.heap.size = sz ∧ va_P (dC, dI) vwCl (wd_c_X12_digit h0 h0_f0 h0_1 h0_2 h0_3 h0_4 h0_5 h0_f6 h0_f7 h0_f8 h0_f9 h0_f10 (-1) h0_f12 h0_f13 h0_f14 h0_15 h0_16 h0_f17 h0_18 h0_19 h0_20 h0_21 h0_22 h0_23 h0_24 h0_25 h0_f26 h0_f27 h0_f28 h0_f29 h0_f30 h0_f31 h0_32 h0_33 h0_f34 h0_35 h0_36 h0_37 h0_38 h0_39 h0_40 h0_f41 h0_f42 h0_f43 h0_f44 h0_45 h0_46 h0_47 h0_48 h0_49 h0_50 h0_f51 h0_52 h0_f53 h0_5 h0_5k tN h0_5c) U.heap ∧ va_K (dC, dI) vwCl [(h0_5k, .byte)] U ∧ va_D (fun _ => True) (wd_c_X12_digit h0 h0_f0 h0_1 h0_2 h0_3 h0_4 h0_5 h0_f6 h0_f7 h0_f8 h0_f9 h0_f10 (-1) h0_f12 h0_f13 h0_f14 h0_15 h0_16 h0_f17 h0_18 h0_19 h0_20 h0_21 h0_22 h0_23 h0_24 h0_25 h0_f26 h0_f27 h0_f28 h0_f29 h0_f30 h0_f31 h0_32 h0_33 h0_f34 h0_35 h0_36 h0_37 h0_38 h0_39 h0_40 h0_f41 h0_f42 h0_f43 h0_f44 h0_45 h0_46 h0_47 h0_48 h0_49 h0_50 h0_f51 h0_52 h0_f53 h0_5 h0_5k tN h0_5c))) (va_Qi (fun (r : Int32) (u : (Int32) × (Int32)) => (RG r 0 9 ∧ RG u.1 1 240 ∧ u.2 = (-1) ∧ RG h0_f9 1 240 ∧ h0_f10.toInt + 1 ≤ (u.1).toInt ∧ (r, u.1, u.2) = fx_c_X12_digit h0_f8 h0_f9 h0_f10 h0_5c) ∨ (r = 0 ∧ RG u.1 0 240 ∧ RG u.2 0 240 ∧ h0_f10.toInt + 0 ≤ (u.1).toInt ∧ (r, u.1, u.2) = fx_c_X12_digit h0_f8 h0_f9 h0_f10 h0_5c)) (fun (u : (Int32) × (Int32)) t => va_P (dC, dI) vwCl (wd_c_X12_digit h0 h0_f0 h0_1 h0_2 h0_3 h0_4 h0_5 h0_f6 h0_f7 h0_f8 h0_f9 (u.1) (u.2) h0_f12 h0_f13 h0_f14 h0_15 h0_16 h0_f17 h0_18 h0_19 h0_20 h0_21 h0_22 h0_23 h0_24 h0_25 h0_f26 h0_f27 h0_f28 h0_f29 h0_f30 h0_f31 h0_32 h0_33 h0_f34 h0_35 h0_36 h0_37 h0_38 h0_39 h0_40 h0_f41 h0_f42 h0_f43 h0_f44 h0_45 h0_46 h0_47 h0_48 h0_49 h0_50 h0_f51 h0_52 h0_f53 h0_5 h0_5k tN h0_5c) t.heap ∧ va_K (dC, dI) vwCl [] t ∧ va_D (va_A (wd_c_X12_digit h0 h0_f0 h0_1 h0_2 h0_3 h0_4 h0_5 h0_f6 h0_f7 h0_f8 h0_f9 h0_f10 (-1) h0_f12 h0_f13 h0_f14 h0_15 h0_16 h0_f17 h0_18 h0_19 h0_20 h0_21 h0_22 h0_23 h0_24 h0_25 h0_f26 h0_f27 h0_f28 h0_f29 h0_f30 h0_f31 h0_32 h0_33 h0_f34 h0_35 h0_36 h0_37 h0_38 h0_39 h0_40 h0_f41 h0_f42 h0_f43 h0_f44 h0_45 h0_46 h0_47 h0_48 h0_49 h0_50 h0_f51 h0_52 h0_f53 h0_5 h0_5k tN h0_5c) sz) (wd_c_X12_digit h0 h0_f0 h0_1 h0_2 h0_3 h0_4 h0_5 h0_f6 h0_f7 h0_f8 h0_f9 (u.1) (u.2) h0_f12 h0_f13 h0_f14 h0_15 h0_16 h0_f17 h0_18 h0_19 h0_20 h0_21 h0_22 h0_23 h0_24 h0_25 h0_f26 h0_f27 h0_f28 h0_f29 h0_f30 h0_f31 h0_32 h0_33 h0_f34 h0_35 h0_36 h0_37 h0_38 h0_39 h0_40 h0_f41 h0_f42 h0_f43 h0_f44 h0_45 h0_46 h0_47 h0_48 h0_49 h0_50 h0_f51 h0_52 h0_f53 h0_5 h0_5k tN h0_5c)) (va_A (wd_c_X12_digit h0 h0_f0 h0_1 h0_2 h0_3 h0_4 h0_5 h0_f6 h0_f7 h0_f8 h0_f9 h0_f10 (-1) h0_f12 h0_f13 h0_f14 h0_15 h0_16 h0_f17 h0_18 h0_19 h0_20 h0_21 h0_22 h0_23 h0_24 h0_25 h0_f26 h0_f27 h0_f28 h0_f29 h0_f30 h0_f31 h0_32 h0_33 h0_f34 h0_35 h0_36 h0_37 h0_38 h0_39 h0_40 h0_f41 h0_f42 h0_f43 h0_f44 h0_45 h0_46 h0_47 h0_48 h0_49 h0_50 h0_f51 h0_52 h0_f53 h0_5 h0_5k tN h0_5c) sz)) 0 0 (va_A (wd_c_X12_digit h0 h0_f0 h0_1 h0_2 h0_3 h0_4 h0_5 h0_f6 h0_f7 h0_f8 h0_f9 h0_f10 (-1) h0_f12 h0_f13 h0_f14 h0_15 h0_16 h0_f17 h0_18 h0_19 h0_20 h0_21 h0_22 h0_23 h0_24 h0_25 h0_f26 h0_f27 h0_f28 h0_f29 h0_f30 h0_f31 h0_32 h0_33 h0_f34 h0_35 h0_36 h0_37 h0_38 h0_39 h0_40 h0_f41 h0_f42 h0_f43 h0_f44 h0_45 h0_46 h0_47 h0_48 h0_49 h0_50 h0_f51 h0_52 h0_f53 h0_5 h0_5k tN h0_5c) sz) := by
  refine Met.ofW (cc := cX12_digit) (maxL := 2) (ret := (some .int)) (by decide +kernel) rfl ?_
  intro p e s m args below meth c s₁ B hml hv
  obtain ⟨rfl, hsz, hP, hK, hD0⟩ := hv
  have hx := B.exec
  have hb := B.bytes
  have hr := B.returns
  have hts := atoms_spec (ws := wf_c_X12_digit) B.pre
  have hown : s.vm.findClass RX12 = some m.cls := findClass_of_methodNamed B.named
  have hlocks := B.notSynchronized
  subst hsz
  have hD := hD0.self (sz := s.heap.size)
  generalize hAe : va_A (wd_c_X12_digit h0 h0_f0 h0_1 h0_2 h0_3 h0_4 h0_5 h0_f6 h0_f7 h0_f8 h0_f9 h0_f10 (-1) h0_f12 h0_f13 h0_f14 h0_15 h0_16 h0_f17 h0_18 h0_19 h0_20 h0_21 h0_22 h0_23 h0_24 h0_25 h0_f26 h0_f27 h0_f28 h0_f29 h0_f30 h0_f31 h0_32 h0_33 h0_f34 h0_35 h0_36 h0_37 h0_38 h0_39 h0_40 h0_f41 h0_f42 h0_f43 h0_f44 h0_45 h0_46 h0_47 h0_48 h0_49 h0_50 h0_f51 h0_52 h0_f53 h0_5 h0_5k tN h0_5c) s.heap.size = A at hD ⊢
  have hA : ∀ q : Nat, s.heap.size ≤ q → A q := fun q h => by rw [← hAe]; exact Or.inr h
  have hP : va_P (dC, dI) vwCl (wd_c_X12_digit h0 h0_f0 h0_1 h0_2 h0_3 h0_4 h0_5 h0_f6 h0_f7 h0_f8 h0_f9 h0_f10 (-1) h0_f12 h0_f13 h0_f14 h0_15 h0_16 h0_f17 h0_18 h0_19 h0_20 h0_21 h0_22 h0_23 h0_24 h0_25 h0_f26 h0_f27 h0_f28 h0_f29 h0_f30 h0_f31 h0_32 h0_33 h0_f34 h0_35 h0_36 h0_37 h0_38 h0_39 h0_40 h0_f41 h0_f42 h0_f43 h0_f44 h0_45 h0_46 h0_47 h0_48 h0_49 h0_50 h0_f51 h0_52 h0_f53 h0_5 h0_5k tN h0_5c) s.heap := hP
  have hl := lv_entry ([.ref h0]) (n := 2) (Nat.le_of_ble_eq_true rfl)
  rw [lg_entry_eq]
  generalize (lg_sl ([.ref h0]) ++ List.replicate (2 - (lg_sl ([.ref h0])).length) Slot.unset).toArray = ls at hl ⊢
  have hl : lv_has ls 2 [(0, .ref h0)] := hl
  obtain ⟨H, hHe⟩ : ∃ H : Heap, s.heap = H := ⟨_, rfl⟩
  have hS : va_S A s.heap H [] := by rw [hHe]; exact va_S.rf
  have hP : va_P (dC, dI) vwCl (wd_c_X12_digit h0 h0_f0 h0_1 h0_2 h0_3 h0_4 h0_5 h0_f6 h0_f7 h0_f8 h0_f9 h0_f10 (-1) h0_f12 h0_f13 h0_f14 h0_15 h0_16 h0_f17 h0_18 h0_19 h0_20 h0_21 h0_22 h0_23 h0_24 h0_25 h0_f26 h0_f27 h0_f28 h0_f29 h0_f30 h0_f31 h0_32 h0_33 h0_f34 h0_35 h0_36 h0_37 h0_38 h0_39 h0_40 h0_f41 h0_f42 h0_f43 h0_f44 h0_45 h0_46 h0_47 h0_48 h0_49 h0_50 h0_f51 h0_52 h0_f53 h0_5 h0_5k tN h0_5c) H := by rw [← hHe]; exact hP
  rw [hHe]
  obtain ⟨RES, hR⟩ : ∃ z, fx_c_X12_digit h0_f8 h0_f9 h0_f10 h0_5c = z := ⟨_, rfl⟩
  have hEX : RES = fx_c_X12_digit h0_f8 h0_f9 h0_f10 h0_5c := hR.symm
  refine lv_aload_n hx hb dX12_digit_0 rfl (lv_at hl 0 rfl) ?_
  as_aux_lemma =>
  obtain ⟨hPc, hDc, hFc, hqc⟩ := cl_cut (wc := (wd_c_X12_look h0 h0_f0 h0_1 h0_2 h0_3 h0_4 h0_5 h0_f6 h0_f7 h0_f8 h0_f9 h0_f10 (-1) h0_f12 h0_f13 h0_f14 h0_15 h0_16 h0_f17 h0_18 h0_19 h0_20 h0_21 h0_22 h0_23 h0_24 h0_25 h0_f26 h0_f27 h0_f28 h0_f29 h0_f30 h0_f31 h0_32 h0_33 h0_f34 h0_35 h0_36 h0_37 h0_38 h0_39 h0_40 h0_f41 h0_f42 h0_f43 h0_f44 h0_45 h0_46 h0_47 h0_48 h0_49 h0_50 h0_f51 h0_52 h0_f53 h0_5 h0_5k tN h0_5c)) hP hD hS hA [0, 1] (by decide +kernel) rfl
  have hKc := hK.sub (tys' := [(h0_5k, .byte)]) [0] rfl
  have hrv := va_recv hKc hPc (ci := 12) (q0 := 0) rfl rfl
  refine va_calli (va_runV (As := []) (rest := []) ⟨hx, hb, hml, hown, hts⟩ (c_X12_look l dC dI H.size h0 h0_f0 h0_1 h0_2 h0_3 h0_4 h0_5 h0_f6 h0_f7 h0_f8 h0_f9 h0_f10 h0_f12 h0_f13 h0_f14 h0_15 h0_16 h0_f17 h0_18 h0_19 h0_20 h0_21 h0_22 h0_23 h0_24 h0_25 h0_f26 h0_f27 h0_f28 h0_f29 h0_f30 h0_f31 h0_32 h0_33 h0_f34 h0_35 h0_36 h0_37 h0_38 h0_39 h0_40 h0_f41 h0_f42 h0_f43 h0_f44 h0_45 h0_46 h0_47 h0_48 h0_49 h0_50 h0_f51 h0_52 h0_f53 h0_5k h0_5c tN g_h0_f6 g_h0_f7 g_h0_f8 g_h0_f9 g_h0_f10 g_h0_f17 g_h0_f26 g_h0_f27 g_h0_f28 g_h0_f29 g_h0_f30 g_h0_f31 g_h0_f34 g_h0_f41 g_h0_f51 g_h0_f53 htN) (cwV 0 hts gf_c_X12_digit_c_X12_look rfl rfl rfl mdV_X12_look ⟨Nat.le_of_ble_eq_true rfl, Nat.le_of_ble_eq_true rfl⟩) ⟨fun a U g mk q => by obtain ⟨q0, q1, qP, qK, qD⟩ := q; exact ⟨q0, q1, qP, va_K.moved (u := U) (U := U.calling g mk a) (Vm.Alike.refl U.vm) qK, qD⟩, hrv, fun U hU hW => ⟨rfl, by rw [hU], by rw [hU]; exact hPc, va_K.moved hW.alike hKc, hDc.weaken (fun _ _ _ _ => trivial)⟩⟩ rfl rfl hl.1 rfl (lv_room (Nat.le_of_ble_eq_true rfl)) dX12_digit_1 ⟨Nat.le_of_ble_eq_true rfl, Nat.le_of_ble_eq_true rfl⟩) hS (fun q _ h => hFc q h) hFc (fun r_1 x_2 t H1 locs ht hvm hw hB hz1 hk1 hS => ?_)
  obtain ⟨hP1, hK1, hD1⟩ := hB
  rw [ht] at hP1
  obtain ⟨hP, hD⟩ := cl_put (w1 := (wd_c_X12_look h0 h0_f0 h0_1 h0_2 h0_3 h0_4 h0_5 h0_f6 h0_f7 h0_f8 h0_f9 x_2 (-1) h0_f12 h0_f13 h0_f14 h0_15 h0_16 h0_f17 h0_18 h0_19 h0_20 h0_21 h0_22 h0_23 h0_24 h0_25 h0_f26 h0_f27 h0_f28 h0_f29 h0_f30 h0_f31 h0_32 h0_33 h0_f34 h0_35 h0_36 h0_37 h0_38 h0_39 h0_40 h0_f41 h0_f42 h0_f43 h0_f44 h0_45 h0_46 h0_47 h0_48 h0_49 h0_50 h0_f51 h0_52 h0_f53 h0_5 h0_5k tN h0_5c)) (nw := (wd_c_X12_digit h0 h0_f0 h0_1 h0_2 h0_3 h0_4 h0_5 h0_f6 h0_f7 h0_f8 h0_f9 x_2 (-1) h0_f12 h0_f13 h0_f14 h0_15 h0_16 h0_f17 h0_18 h0_19 h0_20 h0_21 h0_22 h0_23 h0_24 h0_25 h0_f26 h0_f27 h0_f28 h0_f29 h0_f30 h0_f31 h0_32 h0_33 h0_f34 h0_35 h0_36 h0_37 h0_38 h0_39 h0_40 h0_f41 h0_f42 h0_f43 h0_f44 h0_45 h0_46 h0_47 h0_48 h0_49 h0_50 h0_f51 h0_52 h0_f53 h0_5 h0_5k tN h0_5c)) hP hD [0, 1] [2, 3] 2 rfl hqc (by decide +kernel) rfl hk1 hFc hP1 hD1
  generalize H1 = H at hP hS ⊢
  as_aux_lemma =>
  rcases hw with ⟨h_3, h_4, h_5, h_6, h_7, h_8⟩ | ⟨h_9, h_10, h_11, h_12, h_13, h_14, h_15⟩
  · have h_8 : (r_1, x_2) = _ := h_8
    replace hEX := hEX.trans (exc2_eq h_8)
    replace hEX := hEX.trans (if_pos (show r_1 = (-1) from h_3))
    rw [h_3]
    refine lv_istore_n (lv' := [(1, .int (-1)), (0, .ref h0)]) hx hb dX12_digit_4 rfl hl (Nat.le_of_ble_eq_true rfl) rfl (fun ls hl => ?_)
    refine lv_aload_n hx hb dX12_digit_5 rfl (lv_at hl 1 rfl) ?_
    obtain ⟨hPc, hDc, hFc, hqc⟩ := cl_cut (wc := (wd_c_X12_isDigit h0 h0_f0 h0_1 h0_2 h0_3 h0_4 h0_5 h0_f6 h0_f7 h0_f8 h0_f9 x_2 (-1) h0_f12 h0_f13 h0_f14 h0_15 h0_16 h0_f17 h0_18 h0_19 h0_20 h0_21 h0_22 h0_23 h0_24 h0_25 h0_f26 h0_f27 h0_f28 h0_f29 h0_f30 h0_f31 h0_32 h0_33 h0_f34 h0_35 h0_36 h0_37 h0_38 h0_39 h0_40 h0_f41 h0_f42 h0_f43 h0_f44 h0_45 h0_46 h0_47 h0_48 h0_49 h0_50 h0_f51 h0_52 h0_f53 h0_5 h0_5k tN h0_5c)) hP hD hS hA [0, 1] (by decide +kernel) rfl
    have hKc := hK.sub (tys' := [(h0_5k, .byte)]) [0] rfl
    have hrv := va_recv hKc hPc (ci := 12) (q0 := 0) rfl rfl
    refine va_calli (va_runV (As := []) (rest := []) ⟨hx, hb, hml, hown, hts⟩ (c_X12_isDigit l dC dI H.size h0 h0_f0 h0_1 h0_2 h0_3 h0_4 h0_5 h0_f6 h0_f7 h0_f8 h0_f9 x_2 h0_f12 h0_f13 h0_f14 h0_15 h0_16 h0_f17 h0_18 h0_19 h0_20 h0_21 h0_22 h0_23 h0_24 h0_25 h0_f26 h0_f27 h0_f28 h0_f29 h0_f30 h0_f31 h0_32 h0_33 h0_f34 h0_35 h0_36 h0_37 h0_38 h0_39 h0_40 h0_f41 h0_f42 h0_f43 h0_f44 h0_45 h0_46 h0_47 h0_48 h0_49 h0_50 h0_f51 h0_52 h0_f53 h0_5k h0_5c tN g_h0_f6 g_h0_f7 g_h0_f8 g_h0_f9 h_4 g_h0_f17 g_h0_f26 g_h0_f27 g_h0_f28 g_h0_f29 g_h0_f30 g_h0_f31 g_h0_f34 g_h0_f41 g_h0_f51 g_h0_f53 htN) (cwV 0 hts gf_c_X12_digit_c_X12_isDigit rfl rfl rfl mdV_X12_isDigit ⟨Nat.le_of_ble_eq_true rfl, Nat.le_of_ble_eq_true rfl⟩) ⟨fun a U g mk q => by obtain ⟨q0, q1, qP, qK, qD⟩ := q; exact ⟨q0, q1, qP, va_K.moved (u := U) (U := U.calling g mk a) (Vm.Alike.refl U.vm) qK, qD⟩, hrv, fun U hU hW => ⟨rfl, by rw [hU], by rw [hU]; exact hPc, va_K.moved hW.alike hKc, hDc.weaken (fun _ _ _ _ => trivial)⟩⟩ rfl rfl hl.1 rfl (lv_room (Nat.le_of_ble_eq_true rfl)) dX12_digit_6 ⟨Nat.le_of_ble_eq_true rfl, Nat.le_of_ble_eq_true rfl⟩) hS (fun q _ h => hFc q h) hFc (fun r_16 u t H1 locs ht hvm hw hB hz1 hk1 hS => ?_)
    obtain ⟨hP1, hK1, hD1⟩ := hB
    rw [ht] at hP1
    obtain ⟨hP, hD⟩ := cl_put (w1 := (wd_c_X12_isDigit h0 h0_f0 h0_1 h0_2 h0_3 h0_4 h0_5 h0_f6 h0_f7 h0_f8 h0_f9 x_2 (-1) h0_f12 h0_f13 h0_f14 h0_15 h0_16 h0_f17 h0_18 h0_19 h0_20 h0_21 h0_22 h0_23 h0_24 h0_25 h0_f26 h0_f27 h0_f28 h0_f29 h0_f30 h0_f31 h0_32 h0_33 h0_f34 h0_35 h0_36 h0_37 h0_38 h0_39 h0_40 h0_f41 h0_f42 h0_f43 h0_f44 h0_45 h0_46 h0_47 h0_48 h0_49 h0_50 h0_f51 h0_52 h0_f53 h0_5 h0_5k tN h0_5c)) (nw := (wd_c_X12_digit h0 h0_f0 h0_1 h0_2 h0_3 h0_4 h0_5 h0_f6 h0_f7 h0_f8 h0_f9 x_2 (-1) h0_f12 h0_f13 h0_f14 h0_15 h0_16 h0_f17 h0_18 h0_19 h0_20 h0_21 h0_22 h0_23 h0_24 h0_25 h0_f26 h0_f27 h0_f28 h0_f29 h0_f30 h0_f31 h0_32 h0_33 h0_f34 h0_35 h0_36 h0_37 h0_38 h0_39 h0_40 h0_f41 h0_f42 h0_f43 h0_f44 h0_45 h0_46 h0_47 h0_48 h0_49 h0_50 h0_f51 h0_52 h0_f53 h0_5 h0_5k tN h0_5c)) hP hD [0, 1] [2, 3] 2 rfl hqc (by decide +kernel) rfl hk1 hFc hP1 hD1
    generalize H1 = H at hP hS ⊢
    as_aux_lemma =>
    rcases hw with ⟨h_17, h_18, h_19⟩ | ⟨h_20, h_21, h_22, h_23, h_24, h_25⟩
    · have h_19 : r_16 = _ := h_19
      replace hEX := hEX.trans (exc1_eq h_19)
      replace hEX := hEX.trans (if_pos (show r_16 = 0 from h_17))
      rw [h_17]
      refine lv_if_ne (tgt := 19) hx hb dX12_digit_9 rfl (fun c_26 => absurd c_26 (by decide +kernel)) (fun c_26 => ?_)
      refine lv_aload_n hx hb dX12_digit_12 rfl (lv_at hl 1 rfl) ?_
      obtain ⟨hPc, hDc, hFc, hqc⟩ := cl_cut (wc := (wd_c_X12_fails h0 h0_f0 h0_1 h0_2 h0_3 h0_4 h0_5 h0_f6 h0_f7 h0_f8 h0_f9 x_2 (-1) h0_f12 h0_f13 h0_f14 h0_15 h0_16 h0_f17 h0_18 h0_19 h0_20 h0_21 h0_22 h0_23 h0_24 h0_25 h0_f26 h0_f27 h0_f28 h0_f29 h0_f30 h0_f31 h0_32 h0_33 h0_f34 h0_35 h0_36 h0_37 h0_38 h0_39 h0_40 h0_f41 h0_f42 h0_f43 h0_f44 h0_45 h0_46 h0_47 h0_48 h0_49 h0_50 h0_f51 h0_52 h0_f53)) hP hD hS hA [0] (by decide +kernel) rfl
      have hKc := hK.sub (tys' := []) [] rfl
      have hrv := va_recv hKc hPc (ci := 12) (q0 := 0) rfl rfl
      refine va_calli (va_runV (As := []) (rest := []) ⟨hx, hb, hml, hown, hts⟩ (c_X12_fails l dC dI H.size h0 h0_f0 h0_1 h0_2 h0_3 h0_4 h0_5 h0_f6 h0_f7 h0_f8 h0_f9 x_2 h0_f12 h0_f13 h0_f14 h0_15 h0_16 h0_f17 h0_18 h0_19 h0_20 h0_21 h0_22 h0_23 h0_24 h0_25 h0_f26 h0_f27 h0_f28 h0_f29 h0_f30 h0_f31 h0_32 h0_33 h0_f34 h0_35 h0_36 h0_37 h0_38 h0_39 h0_40 h0_f41 h0_f42 h0_f43 h0_f44 h0_45 h0_46 h0_47 h0_48 h0_49 h0_50 h0_f51 h0_52 h0_f53 g_h0_f6 g_h0_f7 g_h0_f8 g_h0_f9 h_4 g_h0_f17 g_h0_f26 g_h0_f27 g_h0_f28 g_h0_f29 g_h0_f30 g_h0_f31 g_h0_f34 g_h0_f41 g_h0_f51 g_h0_f53) (cwV 0 hts gf_c_X12_digit_c_X12_fails rfl rfl rfl mdV_X12_fails ⟨Nat.le_of_ble_eq_true rfl, Nat.le_of_ble_eq_true rfl⟩) ⟨fun a U g mk q => by obtain ⟨q0, q1, qP, qK, qD⟩ := q; exact ⟨q0, q1, qP, va_K.moved (u := U) (U := U.calling g mk a) (Vm.Alike.refl U.vm) qK, qD⟩, hrv, fun U hU hW => ⟨rfl, by rw [hU], by rw [hU]; exact hPc, va_K.moved hW.alike hKc, hDc.weaken (fun _ _ _ _ => trivial)⟩⟩ rfl rfl hl.1 rfl (lv_room (Nat.le_of_ble_eq_true rfl)) dX12_digit_13 ⟨Nat.le_of_ble_eq_true rfl, Nat.le_of_ble_eq_true rfl⟩) hS (fun q _ h => hFc q h) hFc (fun r_27 u t H1 locs ht hvm hw hB hz1 hk1 hS => ?_)
      obtain ⟨hP1, hK1, hD1⟩ := hB
      rw [ht] at hP1
      obtain ⟨hP, hD⟩ := cl_put (w1 := (wd_c_X12_fails h0 h0_f0 h0_1 h0_2 h0_3 h0_4 h0_5 h0_f6 h0_f7 h0_f8 h0_f9 x_2 x_2 h0_f12 h0_f13 h0_f14 h0_15 h0_16 h0_f17 h0_18 h0_19 h0_20 h0_21 h0_22 h0_23 h0_24 h0_25 h0_f26 h0_f27 h0_f28 h0_f29 h0_f30 h0_f31 h0_32 h0_33 h0_f34 h0_35 h0_36 h0_37 h0_38 h0_39 h0_40 h0_f41 h0_f42 h0_f43 h0_f44 h0_45 h0_46 h0_47 h0_48 h0_49 h0_50 h0_f51 h0_52 h0_f53)) (nw := (wd_c_X12_digit h0 h0_f0 h0_1 h0_2 h0_3 h0_4 h0_5 h0_f6 h0_f7 h0_f8 h0_f9 x_2 x_2 h0_f12 h0_f13 h0_f14 h0_15 h0_16 h0_f17 h0_18 h0_19 h0_20 h0_21 h0_22 h0_23 h0_24 h0_25 h0_f26 h0_f27 h0_f28 h0_f29 h0_f30 h0_f31 h0_32 h0_33 h0_f34 h0_35 h0_36 h0_37 h0_38 h0_39 h0_40 h0_f41 h0_f42 h0_f43 h0_f44 h0_45 h0_46 h0_47 h0_48 h0_49 h0_50 h0_f51 h0_52 h0_f53 h0_5 h0_5k tN h0_5c)) hP hD [0] [2, 1] 2 rfl hqc (by decide +kernel) rfl hk1 hFc hP1 hD1
      generalize H1 = H at hP hS ⊢
      as_aux_lemma =>
      rcases hw with ⟨h_28, h_29⟩
      have h_29 : r_27 = _ := h_29
      replace hEX := hEX.trans (exc1_eq h_29)
      rw [h_28]
      refine lv_pop hx hb dX12_digit_16 rfl ?_
      refine lv_iconst (v := 0) hx hb dX12_digit_17 kc_iconst_0 ?_
      have hK9 := hK.sub (tys' := []) [] rfl
      exact W.iret (v := 0) hx hb hr (fun t ht hW => ⟨⟨0, (x_2, x_2), rfl, (Or.inr ⟨rfl, h_4, h_4, (by have := h_5; show h0_f10.toInt + 0 ≤ x_2.toInt; omega), (hR.trans hEX).symm⟩), by rw [ht]; exact hP, va_K.moved hW.alike hK9, hD⟩, hS.F ht⟩) hS.2.2 dX12_digit_18
    · have h_25 : r_16 = _ := h_25
      replace hEX := hEX.trans (exc1_eq h_25)
      replace hEX := hEX.trans (if_neg (fun q9 : r_16 = 0 => absurd ((show r_16 = 1 from h_20).symm.trans q9) (by decide +kernel)))
      rw [h_20]
      exfalso
      have := h_23
      have := h_6
      omega
  · have h_15 : (r_1, x_2) = _ := h_15
    replace hEX := hEX.trans (exc2_eq h_15)
    replace hEX := hEX.trans (if_neg (RG_neq (x := r_1) (c := (-1)) (show RG r_1 0 255 from h_9) (by decide +kernel)))
    have nb_30 := h_14.2.resolve_left (fun q => by have g9 := h_9; rw [q] at g9; exact absurd g9.1 (by decide +kernel))
    refine lv_istore_n (lv' := [(1, .int r_1), (0, .ref h0)]) hx hb dX12_digit_4 rfl hl (Nat.le_of_ble_eq_true rfl) rfl (fun ls hl => ?_)
    as_aux_lemma =>
    refine lv_aload_n hx hb dX12_digit_5 rfl (lv_at hl 1 rfl) ?_
    obtain ⟨hPc, hDc, hFc, hqc⟩ := cl_cut (wc := (wd_c_X12_isDigit h0 h0_f0 h0_1 h0_2 h0_3 h0_4 h0_5 h0_f6 h0_f7 h0_f8 h0_f9 x_2 (-1) h0_f12 h0_f13 h0_f14 h0_15 h0_16 h0_f17 h0_18 h0_19 h0_20 h0_21 h0_22 h0_23 h0_24 h0_25 h0_f26 h0_f27 h0_f28 h0_f29 h0_f30 h0_f31 h0_32 h0_33 h0_f34 h0_35 h0_36 h0_37 h0_38 h0_39 h0_40 h0_f41 h0_f42 h0_f43 h0_f44 h0_45 h0_46 h0_47 h0_48 h0_49 h0_50 h0_f51 h0_52 h0_f53 h0_5 h0_5k tN h0_5c)) hP hD hS hA [0, 1] (by decide +kernel) rfl
    have hKc := hK.sub (tys' := [(h0_5k, .byte)]) [0] rfl
    have hrv := va_recv hKc hPc (ci := 12) (q0 := 0) rfl rfl
    refine va_calli (va_runV (As := []) (rest := []) ⟨hx, hb, hml, hown, hts⟩ (c_X12_isDigit l dC dI H.size h0 h0_f0 h0_1 h0_2 h0_3 h0_4 h0_5 h0_f6 h0_f7 h0_f8 h0_f9 x_2 h0_f12 h0_f13 h0_f14 h0_15 h0_16 h0_f17 h0_18 h0_19 h0_20 h0_21 h0_22 h0_23 h0_24 h0_25 h0_f26 h0_f27 h0_f28 h0_f29 h0_f30 h0_f31 h0_32 h0_33 h0_f34 h0_35 h0_36 h0_37 h0_38 h0_39 h0_40 h0_f41 h0_f42 h0_f43 h0_f44 h0_45 h0_46 h0_47 h0_48 h0_49 h0_50 h0_f51 h0_52 h0_f53 h0_5k h0_5c tN g_h0_f6 g_h0_f7 g_h0_f8 (RG_w h_11 (by decide +kernel)) (RG_w h_10 (by decide +kernel)) g_h0_f17 g_h0_f26 g_h0_f27 g_h0_f28 g_h0_f29 g_h0_f30 g_h0_f31 g_h0_f34 g_h0_f41 g_h0_f51 g_h0_f53 htN) (cwV 0 hts gf_c_X12_digit_c_X12_isDigit rfl rfl rfl mdV_X12_isDigit ⟨Nat.le_of_ble_eq_true rfl, Nat.le_of_ble_eq_true rfl⟩) ⟨fun a U g mk q => by obtain ⟨q0, q1, qP, qK, qD⟩ := q; exact ⟨q0, q1, qP, va_K.moved (u := U) (U := U.calling g mk a) (Vm.Alike.refl U.vm) qK, qD⟩, hrv, fun U hU hW => ⟨rfl, by rw [hU], by rw [hU]; exact hPc, va_K.moved hW.alike hKc, hDc.weaken (fun _ _ _ _ => trivial)⟩⟩ rfl rfl hl.1 rfl (lv_room (Nat.le_of_ble_eq_true rfl)) dX12_digit_6 ⟨Nat.le_of_ble_eq_true rfl, Nat.le_of_ble_eq_true rfl⟩) hS (fun q _ h => hFc q h) hFc (fun r_31 u t H1 locs ht hvm hw hB hz1 hk1 hS => ?_)
    obtain ⟨hP1, hK1, hD1⟩ := hB
    rw [ht] at hP1
    obtain ⟨hP, hD⟩ := cl_put (w1 := (wd_c_X12_isDigit h0 h0_f0 h0_1 h0_2 h0_3 h0_4 h0_5 h0_f6 h0_f7 h0_f8 h0_f9 x_2 (-1) h0_f12 h0_f13 h0_f14 h0_15 h0_16 h0_f17 h0_18 h0_19 h0_20 h0_21 h0_22 h0_23 h0_24 h0_25 h0_f26 h0_f27 h0_f28 h0_f29 h0_f30 h0_f31 h0_32 h0_33 h0_f34 h0_35 h0_36 h0_37 h0_38 h0_39 h0_40 h0_f41 h0_f42 h0_f43 h0_f44 h0_45 h0_46 h0_47 h0_48 h0_49 h0_50 h0_f51 h0_52 h0_f53 h0_5 h0_5k tN h0_5c)) (nw := (wd_c_X12_digit h0 h0_f0 h0_1 h0_2 h0_3 h0_4 h0_5 h0_f6 h0_f7 h0_f8 h0_f9 x_2 (-1) h0_f12 h0_f13 h0_f14 h0_15 h0_16 h0_f17 h0_18 h0_19 h0_20 h0_21 h0_22 h0_23 h0_24 h0_25 h0_f26 h0_f27 h0_f28 h0_f29 h0_f30 h0_f31 h0_32 h0_33 h0_f34 h0_35 h0_36 h0_37 h0_38 h0_39 h0_40 h0_f41 h0_f42 h0_f43 h0_f44 h0_45 h0_46 h0_47 h0_48 h0_49 h0_50 h0_f51 h0_52 h0_f53 h0_5 h0_5k tN h0_5c)) hP hD [0, 1] [2, 3] 2 rfl hqc (by decide +kernel) rfl hk1 hFc hP1 hD1
    generalize H1 = H at hP hS ⊢
    as_aux_lemma =>
    rcases hw with ⟨h_32, h_33, h_34⟩ | ⟨h_35, h_36, h_37, h_38, h_39, h_40⟩
    · have h_34 : r_31 = _ := h_34
      replace hEX := hEX.trans (exc1_eq h_34)
      replace hEX := hEX.trans (if_pos (show r_31 = 0 from h_32))
      rw [h_32]
      refine lv_if_ne (tgt := 19) hx hb dX12_digit_9 rfl (fun c_41 => absurd c_41 (by decide +kernel)) (fun c_41 => ?_)
      refine lv_aload_n hx hb dX12_digit_12 rfl (lv_at hl 1 rfl) ?_
      obtain ⟨hPc, hDc, hFc, hqc⟩ := cl_cut (wc := (wd_c_X12_fails h0 h0_f0 h0_1 h0_2 h0_3 h0_4 h0_5 h0_f6 h0_f7 h0_f8 h0_f9 x_2 (-1) h0_f12 h0_f13 h0_f14 h0_15 h0_16 h0_f17 h0_18 h0_19 h0_20 h0_21 h0_22 h0_23 h0_24 h0_25 h0_f26 h0_f27 h0_f28 h0_f29 h0_f30 h0_f31 h0_32 h0_33 h0_f34 h0_35 h0_36 h0_37 h0_38 h0_39 h0_40 h0_f41 h0_f42 h0_f43 h0_f44 h0_45 h0_46 h0_47 h0_48 h0_49 h0_50 h0_f51 h0_52 h0_f53)) hP hD hS hA [0] (by decide +kernel) rfl
      have hKc := hK.sub (tys' := []) [] rfl
      have hrv := va_recv hKc hPc (ci := 12) (q0 := 0) rfl rfl
      refine va_calli (va_runV (As := []) (rest := []) ⟨hx, hb, hml, hown, hts⟩ (c_X12_fails l dC dI H.size h0 h0_f0 h0_1 h0_2 h0_3 h0_4 h0_5 h0_f6 h0_f7 h0_f8 h0_f9 x_2 h0_f12 h0_f13 h0_f14 h0_15 h0_16 h0_f17 h0_18 h0_19 h0_20 h0_21 h0_22 h0_23 h0_24 h0_25 h0_f26 h0_f27 h0_f28 h0_f29 h0_f30 h0_f31 h0_32 h0_33 h0_f34 h0_35 h0_36 h0_37 h0_38 h0_39 h0_40 h0_f41 h0_f42 h0_f43 h0_f44 h0_45 h0_46 h0_47 h0_48 h0_49 h0_50 h0_f51 h0_52 h0_f53 g_h0_f6 g_h0_f7 g_h0_f8 (RG_w h_11 (by decide +kernel)) (RG_w h_10 (by decide +kernel)) g_h0_f17 g_h0_f26 g_h0_f27 g_h0_f28 g_h0_f29 g_h0_f30 g_h0_f31 g_h0_f34 g_h0_f41 g_h0_f51 g_h0_f53) (cwV 0 hts gf_c_X12_digit_c_X12_fails rfl rfl rfl mdV_X12_fails ⟨Nat.le_of_ble_eq_true rfl, Nat.le_of_ble_eq_true rfl⟩) ⟨fun a U g mk q => by obtain ⟨q0, q1, qP, qK, qD⟩ := q; exact ⟨q0, q1, qP, va_K.moved (u := U) (U := U.calling g mk a) (Vm.Alike.refl U.vm) qK, qD⟩, hrv, fun U hU hW => ⟨rfl, by rw [hU], by rw [hU]; exact hPc, va_K.moved hW.alike hKc, hDc.weaken (fun _ _ _ _ => trivial)⟩⟩ rfl rfl hl.1 rfl (lv_room (Nat.le_of_ble_eq_true rfl)) dX12_digit_13 ⟨Nat.le_of_ble_eq_true rfl, Nat.le_of_ble_eq_true rfl⟩) hS (fun q _ h => hFc q h) hFc (fun r_42 u t H1 locs ht hvm hw hB hz1 hk1 hS => ?_)
      obtain ⟨hP1, hK1, hD1⟩ := hB
      rw [ht] at hP1
      obtain ⟨hP, hD⟩ := cl_put (w1 := (wd_c_X12_fails h0 h0_f0 h0_1 h0_2 h0_3 h0_4 h0_5 h0_f6 h0_f7 h0_f8 h0_f9 x_2 x_2 h0_f12 h0_f13 h0_f14 h0_15 h0_16 h0_f17 h0_18 h0_19 h0_20 h0_21 h0_22 h0_23 h0_24 h0_25 h0_f26 h0_f27 h0_f28 h0_f29 h0_f30 h0_f31 h0_32 h0_33 h0_f34 h0_35 h0_36 h0_37 h0_38 h0_39 h0_40 h0_f41 h0_f42 h0_f43 h0_f44 h0_45 h0_46 h0_47 h0_48 h0_49 h0_50 h0_f51 h0_52 h0_f53)) (nw := (wd_c_X12_digit h0 h0_f0 h0_1 h0_2 h0_3 h0_4 h0_5 h0_f6 h0_f7 h0_f8 h0_f9 x_2 x_2 h0_f12 h0_f13 h0_f14 h0_15 h0_16 h0_f17 h0_18 h0_19 h0_20 h0_21 h0_22 h0_23 h0_24 h0_25 h0_f26 h0_f27 h0_f28 h0_f29 h0_f30 h0_f31 h0_32 h0_33 h0_f34 h0_35 h0_36 h0_37 h0_38 h0_39 h0_40 h0_f41 h0_f42 h0_f43 h0_f44 h0_45 h0_46 h0_47 h0_48 h0_49 h0_50 h0_f51 h0_52 h0_f53 h0_5 h0_5k tN h0_5c)) hP hD [0] [2, 1] 2 rfl hqc (by decide +kernel) rfl hk1 hFc hP1 hD1
      generalize H1 = H at hP hS ⊢
      as_aux_lemma =>
      rcases hw with ⟨h_43, h_44⟩
      have h_44 : r_42 = _ := h_44
      replace hEX := hEX.trans (exc1_eq h_44)
      rw [h_43]
      refine lv_pop hx hb dX12_digit_16 rfl ?_
      refine lv_iconst (v := 0) hx hb dX12_digit_17 kc_iconst_0 ?_
      have hK9 := hK.sub (tys' := []) [] rfl
      exact W.iret (v := 0) hx hb hr (fun t ht hW => ⟨⟨0, (x_2, x_2), rfl, (Or.inr ⟨rfl, (RG_w h_10 (by decide +kernel)), (RG_w h_10 (by decide +kernel)), (by have := h_12; show h0_f10.toInt + 0 ≤ x_2.toInt; omega), (hR.trans hEX).symm⟩), by rw [ht]; exact hP, va_K.moved hW.alike hK9, hD⟩, hS.F ht⟩) hS.2.2 dX12_digit_18
    · have h_40 : r_31 = _ := h_40
      replace hEX := hEX.trans (exc1_eq h_40)
      replace hEX := hEX.trans (if_neg (fun q9 : r_31 = 0 => absurd ((show r_31 = 1 from h_35).symm.trans q9) (by decide +kernel)))
      rw [h_35]
      have g_45 := h_39 h_35
      have g_46 : RG r_1 48 57 := RG_dig h_14.1 g_45 trivial h_9 (by decide +kernel)
      refine lv_if_ne (tgt := 19) hx hb dX12_digit_9 rfl (fun c_47 => ?_) (fun c_47 => absurd c_47 (by decide +kernel))
      refine lv_aload_n hx hb dX12_digit_19 rfl (lv_at hl 1 rfl) ?_
      as_aux_lemma =>
      refine lv_dup hx hb dX12_digit_20 rfl ?_
      refine va_get (D := (dC, dI)) (ci := 12) (v := .int x_2) (C := RX12) (T := TX12) (N := 54) hx hb hts iw_c_X12_digit_X12 hown hK hP 0 rfl rfl 10 (by decide +kernel) (hts (.fieldLink RX12 134 "BuoyVoteModel" "at" "I") (List.mem_of_getElem? (i := 6) rfl)) (fun _ h9 => h9) rfl dX12_digit_21 ?_
      refine lv_iconst (v := 1) hx hb dX12_digit_24 kc_iconst_1 ?_
      refine lv_iadd hx hb dX12_digit_25 ?_
      refine lv_topi (fun x_48 ex_48 => ?_)
      replace hEX := hEX.trans (exl_eq ex_48)
      have g_49 : RG x_48 1 240 := RG_add ex_48 h_10 (RG_k 1 1 rfl) (by decide +kernel)
      have q_50 : x_48.toInt = x_2.toInt + 1 := eq_add ex_48 h_10 (q := 1) rfl (by decide +kernel)
      refine va_put (D := (dC, dI)) (ci := 12) (v := .int x_48) (ty := .int) (C := RX12) (T := TX12) (N := 54) hx hb hts iw_c_X12_digit_X12 tyX12 tyX12_ok nmX12 hown hK hP hD hS 0 rfl rfl 10 (by decide +kernel) (hts (.fieldLink RX12 134 "BuoyVoteModel" "at" "I") (List.mem_of_getElem? (i := 6) rfl)) (fun _ h9 => h9) rfl (by decide +kernel) rfl rfl (Nat.le_of_ble_eq_true rfl) dX12_digit_26 (fun H locs hP hD hS => ?_)
      have hP : va_P (dC, dI) vwCl (wd_c_X12_digit h0 h0_f0 h0_1 h0_2 h0_3 h0_4 h0_5 h0_f6 h0_f7 h0_f8 h0_f9 x_48 (-1) h0_f12 h0_f13 h0_f14 h0_15 h0_16 h0_f17 h0_18 h0_19 h0_20 h0_21 h0_22 h0_23 h0_24 h0_25 h0_f26 h0_f27 h0_f28 h0_f29 h0_f30 h0_f31 h0_32 h0_33 h0_f34 h0_35 h0_36 h0_37 h0_38 h0_39 h0_40 h0_f41 h0_f42 h0_f43 h0_f44 h0_45 h0_46 h0_47 h0_48 h0_49 h0_50 h0_f51 h0_52 h0_f53 h0_5 h0_5k tN h0_5c) H := hP
      have hD : va_D A (wd_c_X12_digit h0 h0_f0 h0_1 h0_2 h0_3 h0_4 h0_5 h0_f6 h0_f7 h0_f8 h0_f9 x_48 (-1) h0_f12 h0_f13 h0_f14 h0_15 h0_16 h0_f17 h0_18 h0_19 h0_20 h0_21 h0_22 h0_23 h0_24 h0_25 h0_f26 h0_f27 h0_f28 h0_f29 h0_f30 h0_f31 h0_32 h0_33 h0_f34 h0_35 h0_36 h0_37 h0_38 h0_39 h0_40 h0_f41 h0_f42 h0_f43 h0_f44 h0_45 h0_46 h0_47 h0_48 h0_49 h0_50 h0_f51 h0_52 h0_f53 h0_5 h0_5k tN h0_5c) := hD
      refine lv_iload_n hx hb dX12_digit_29 rfl (lv_at hl 0 rfl) ?_
      refine lv_bipush (v := 48) hx hb dX12_digit_30 kc_bipush_48 ?_
      refine lv_isub hx hb dX12_digit_32 ?_
      as_aux_lemma =>
      refine lv_topi (fun x_51 ex_51 => ?_)
      replace hEX := hEX.trans (exl_eq ex_51)
      have g_52 : RG x_51 0 9 := RG_sub ex_51 g_46 (RG_k 48 48 rfl) (by decide +kernel)
      have hK9 := hK.sub (tys' := []) [] rfl
      exact W.iret (v := x_51) hx hb hr (fun t ht hW => ⟨⟨x_51, (x_48, (-1)), rfl, (Or.inl ⟨g_52, g_49, rfl, h_11, (by have := h_12; have := q_50; show h0_f10.toInt + 1 ≤ x_48.toInt; omega), (hR.trans hEX).symm⟩), by rw [ht]; exact hP, va_K.moved hW.alike hK9, hD⟩, hS.F ht⟩) hS.2.2 dX12_digit_33
noncomputable def wd_c_X12_readStep_7 (a0 : Nat) (a1 : Int32) (a2 : Nat) (a3 : Nat) (a4 : Nat) (a5 : Nat) (a6 : Nat) (a7 : Int32) (a8 : Int32) (a9 : Int32) (a10 : Int32) (a11 : Int32) (a12 : Int32) (a13 : Int32) (a14 : Int32) (a15 : Int32) (a16 : Nat) (a17 : Nat) (a18 : Int32) (a19 : Nat) (a20 : Nat) (a21 : Nat) (a22 : Nat) (a23 : Nat) (a24 : Nat) (a25 : Nat) (a26 : Nat) (a27 : Int32) (a28 : Int32) (a29 : Int32) (a30 : Int32) (a31 : Int32) (a32 : Int32) (a33 : Nat) (a34 : Nat) (a35 : Int32) (a36 : Nat) (a37 : Nat) (a38 : Nat) (a39 : Nat) (a40 : Nat) (a41 : Nat) (a42 : Int32) (a43 : Int64) (a44 : Int32) (a45 : Int32) (a46 : Nat) (a47 : Nat) (a48 : Nat) (a49 : Nat) (a50 : Nat) (a51 : Nat) (a52 : Int32) (a53 : Nat) (a54 : Int32) (a55 : Nat) (a56 : ClassId) (a57 : Nat) (a58 : Nat → Int32) (a59 : Nat) (a60 : ClassId) (a61 : Nat → Int32) : va_W := [(a0, .inr (12, [.int a1, .ref a2, .ref a3, .ref a4, .ref a5, .ref a6, .int a7, .int a8, .int a9, .int a10, .int a11, .int a12, .int a13, .int a14, .int a15, .ref a16, .ref a17, .int a18, .ref a19, .ref a20, .ref a21, .ref a22, .ref a23, .ref a24, .ref a25, .ref a26, .int a27, .int a28, .int a29, .int a30, .int a31, .int a32, .ref a33, .ref a34, .int a35, .ref a36, .ref a37, .ref a38, .ref a39, .ref a40, .ref a41, .int a42, .long a43, .int a44, .int a45, .ref a46, .ref a47, .ref a48, .ref a49, .ref a50, .ref a51, .int a52, .ref a53, .int a54])), (a55, .inl (a56, a57, .inl a58)), (a59, .inl (a60, 320, .inl a61))]
noncomputable def wf_c_X12_readStep_7 : List Cond := List.cons (.code yX12_readStep cX12_readStep 3 none) (@HAppend.hAppend (List Cond) (List Cond) (List Cond) _ [.methodLink RX12 153 yX12_look, .instanceMethod yX12_look, .selects RX12 yX12_look yX12_look, .initialized RX12, .code yX12_look cX12_look 1 (some .int), .fieldLink RX12 134 "BuoyVoteModel" "at" "I", .fieldLink RX12 137 "BuoyVoteModel" "ends" "I", .fieldLink RX12 23 "BuoyVoteModel" "text" "[B", .fieldLink RX12 140 "BuoyVoteModel" "begins" "I", .methodLink RX12 240 yX12_spotOf, .static yX12_spotOf, .code yX12_spotOf cX12_spotOf 3 (some .int), .methodLink RX12 114 yJ0_length_8abf5, .instanceMethod yJ0_length_8abf5, .selects RJ0 yJ0_length_8abf5 yJ0_length_8abf5, .initialized RJ0, .code yJ0_length_8abf5 cJ0_length_8abf5 1 (some .int), .fieldLink RJ0 9 "java/lang/String" "value" "[B", .methodLink RJ0 335 yJ0_coder_7d493, .instanceMethod yJ0_coder_7d493, .selects RJ0 yJ0_coder_7d493 yJ0_coder_7d493, .code yJ0_coder_7d493 cJ0_coder_7d493 1 (some .byte), .fieldLink RJ0 38 "java/lang/String" "COMPACT_STRINGS" "Z", .fieldLink RJ0 15 "java/lang/String" "coder" "B", .methodLink RX12 120 yJ0_charAt_5068e, .instanceMethod yJ0_charAt_5068e, .selects RJ0 yJ0_charAt_5068e yJ0_charAt_5068e, .code yJ0_charAt_5068e cJ0_charAt_5068e 2 (some .char), .methodLink RJ0 492 yJ0_isLatin1_aae02, .instanceMethod yJ0_isLatin1_aae02, .selects RJ0 yJ0_isLatin1_aae02 yJ0_isLatin1_aae02, .code yJ0_isLatin1_aae02 cJ0_isLatin1_aae02 1 (some .boolean), .methodLink RJ0 495 yJ1_charAt_3b067, .static yJ1_charAt_3b067, .initialized RJ1, .code yJ1_charAt_3b067 cJ1_charAt_3b067 2 (some .char), .methodLink RJ1 9 yJ0_checkIndex_df160, .static yJ0_checkIndex_df160, .code yJ0_checkIndex_df160 cJ0_checkIndex_df160 2 none, .fieldLink RJ0 1053 "jdk/internal/util/Preconditions" "SIOOBE_FORMATTER" "Ljava/util/function/BiFunction;", .methodLink RJ0 1059 yJ3_checkIndex_8e157, .static yJ3_checkIndex_8e157, .initialized RJ3, .code yJ3_checkIndex_8e157 cJ3_checkIndex_8e157 3 (some .int), .methodLink RX12 149 yX12_fails, .instanceMethod yX12_fails, .selects RX12 yX12_fails yX12_fails, .code yX12_fails cX12_fails 1 (some .boolean), .fieldLink RX12 143 "BuoyVoteModel" "fault" "I", .fieldLink RX12 55 "BuoyVoteModel" "plan" "[I", .methodLink RX12 284 yX12_digit, .instanceMethod yX12_digit, .selects RX12 yX12_digit yX12_digit, .code yX12_digit cX12_digit 2 (some .int), .methodLink RX12 183 yX12_isDigit, .instanceMethod yX12_isDigit, .selects RX12 yX12_isDigit yX12_isDigit, .code yX12_isDigit cX12_isDigit 1 (some .boolean)] wsX120)
theorem iw_c_X12_readStep_7_X12 : ∀ w ∈ wsX120, w ∈ wf_c_X12_readStep_7 := fun w h => List.mem_cons_of_mem _ (List.mem_append_right _ h)
set_option maxRecDepth 20000 in
theorem gf_c_X12_readStep_7_c_X12_digit : GoodIn wf_c_X12_readStep_7 (wsV RX12 284 RX12 yX12_digit wf_c_X12_digit) := goodIn_app (gi_l [51, 52, 53, 4] rfl rfl) (gi_cons (j := 54) rfl rfl (goodIn_app (gi_l [1, 2, 3, 4, 5, 6, 7, 8, 9, 55, 56, 57, 58, 45, 46, 47, 48, 49] rfl rfl) (goodIn_sub iw_c_X12_readStep_7_X12 gw_X12)))
set_option maxRecDepth 20000 in
theorem gf_c_X12_readStep_7_c_X12_look : GoodIn wf_c_X12_readStep_7 (wsV RX12 153 RX12 yX12_look wf_c_X12_look) := goodIn_app (gi_l [1, 2, 3, 4] rfl rfl) (gi_cons (j := 5) rfl rfl (goodIn_app (gi_l [6, 7, 8, 9] rfl rfl) (goodIn_sub iw_c_X12_readStep_7_X12 gw_X12)))
set_option maxRecDepth 20000 in
theorem gf_c_X12_readStep_7_c_X12_spotOf_6 : GoodIn wf_c_X12_readStep_7 (va_wsS RX12 240 yX12_spotOf wf_c_X12_spotOf_6) := goodIn_app (gi_l [10, 11, 4] rfl rfl) (gi_cons (j := 12) rfl rfl (gi_l [13, 14, 15, 16, 17, 18, 19, 20, 21, 22, 23, 24, 25, 26, 27, 28, 29, 30, 31, 32, 33, 34, 35, 36, 37, 38, 39, 40, 41, 42, 43, 44] rfl rfl))
set_option maxRecDepth 20000 in
theorem gf_c_X12_readStep_7_c_X12_fails : GoodIn wf_c_X12_readStep_7 (wsV RX12 149 RX12 yX12_fails wf_c_X12_fails) := goodIn_app (gi_l [45, 46, 47, 4] rfl rfl) (gi_cons (j := 48) rfl rfl (goodIn_app (gi_l [49, 6] rfl rfl) (goodIn_sub iw_c_X12_readStep_7_X12 gw_X12)))
set_option maxRecDepth 20000 in
theorem gf_c_X12_readStep_7_c_X12_spotOf_7 : GoodIn wf_c_X12_readStep_7 (va_wsS RX12 240 yX12_spotOf wf_c_X12_spotOf_7) := goodIn_app (gi_l [10, 11, 4] rfl rfl) (gi_cons (j := 12) rfl rfl (gi_l [13, 14, 15, 16, 17, 18, 19, 20, 21, 22, 23, 24, 25, 26, 27, 28, 29, 30, 31, 32, 33, 34, 35, 36, 37, 38, 39, 40, 41, 42, 43, 44] rfl rfl))
set_option maxHeartbeats 4000000 in
set_option maxRecDepth 100000 in
theorem c_X12_readStep_7 (l : Launch) (dC : Nat → ClassId) (dI : Nat → Nat → Nat) (sz : Nat) (h0 : Nat) (p1 : Int32) (h0_f0 : Int32) (h0_1 : Nat) (h0_2 : Nat) (h0_3 : Nat) (h0_4 : Nat) (h0_5 : Nat) (h0_f6 : Int32) (h0_f7 : Int32) (h0_f8 : Int32) (h0_f9 : Int32) (h0_f10 : Int32) (h0_f12 : Int32) (h0_f13 : Int32) (h0_f14 : Int32) (h0_15 : Nat) (h0_16 : Nat) (h0_f17 : Int32) (h0_18 : Nat) (h0_19 : Nat) (h0_20 : Nat) (h0_21 : Nat) (h0_22 : Nat) (h0_23 : Nat) (h0_24 : Nat) (h0_25 : Nat) (h0_f26 : Int32) (h0_f27 : Int32) (h0_f28 : Int32) (h0_f29 : Int32) (h0_f30 : Int32) (h0_f31 : Int32) (h0_32 : Nat) (h0_33 : Nat) (h0_f34 : Int32) (h0_35 : Nat) (h0_36 : Nat) (h0_37 : Nat) (h0_38 : Nat) (h0_39 : Nat) (h0_40 : Nat) (h0_f41 : Int32) (h0_f42 : Int64) (h0_f43 : Int32) (h0_f44 : Int32) (h0_45 : Nat) (h0_46 : Nat) (h0_47 : Nat) (h0_48 : Nat) (h0_49 : Nat) (h0_50 : Nat) (h0_f51 : Int32) (h0_52 : Nat) (h0_f53 : Int32) (h0_5k : ClassId) (h0_5c : Nat → Int32) (tN : Nat) (h0_24k : ClassId) (h0_24c : Nat → Int32) (ts11 : Nat) (tv11 : Nat) (g_p1 : RG p1 256 316) (g_h0_f6 : RG h0_f6 0 240) (g_h0_f7 : RG h0_f7 0 4) (g_h0_f8 : RG h0_f8 0 720) (g_h0_f9 : RG h0_f9 0 240) (g_h0_f10 : RG h0_f10 0 240) (g_h0_f17 : RG h0_f17 0 1) (g_h0_f26 : RG h0_f26 0 8) (g_h0_f27 : RG h0_f27 0 3) (g_h0_f28 : RG h0_f28 0 8) (g_h0_f29 : RG h0_f29 0 3) (g_h0_f30 : RG h0_f30 0 4) (g_h0_f31 : RG h0_f31 0 1) (g_h0_f34 : RG h0_f34 (-1) 3) (g_h0_f41 : RG h0_f41 0 40) (g_h0_f51 : RG h0_f51 0 10) (g_h0_f53 : RG h0_f53 0 1) (htN : h0_f8.toInt + 240 ≤ (tN : Int)) (a_h0_24c : AI h0_24c (-1) 9) : Met l yX12_readStep wf_c_X12_readStep_7 ({ frames := 5, cells := 0, slots := 0, locals := 107 }) (va_Pc [.ref h0, .int p1] (fun U => U.heap.size = sz ∧ va_P (dC, dI) vwCl (wd_c_X12_readStep_7 h0 h0_f0 h0_1 h0_2 h0_3 h0_4 h0_5 h0_f6 h0_f7 h0_f8 h0_f9 h0_f10 (-1) h0_f12 h0_f13 h0_f14 h0_15 h0_16 h0_f17 h0_18 h0_19 h0_20 h0_21 h0_22 h0_23 h0_24 h0_25 h0_f26 h0_f27 h0_f28 h0_f29 h0_f30 h0_f31 h0_32 h0_33 h0_f34 h0_35 h0_36 h0_37 h0_38 h0_39 h0_40 h0_f41 h0_f42 h0_f43 h0_f44 h0_45 h0_46 h0_47 h0_48 h0_49 h0_50 h0_f51 h0_52 h0_f53 h0_5 h0_5k tN h0_5c h0_24 h0_24k h0_24c) U.heap ∧ va_K (dC, dI) vwCl [(h0_5k, .byte), (h0_24k, .int)] U ∧ va_D (fun _ => True) (wd_c_X12_readStep_7 h0 h0_f0 h0_1 h0_2 h0_3 h0_4 h0_5 h0_f6 h0_f7 h0_f8 h0_f9 h0_f10 (-1) h0_f12 h0_f13 h0_f14 h0_15 h0_16 h0_f17 h0_18 h0_19 h0_20 h0_21 h0_22 h0_23 h0_24 h0_25 h0_f26 h0_f27 h0_f28 h0_f29 h0_f30 h0_f31 h0_32 h0_33 h0_f34 h0_35 h0_36 h0_37 h0_38 h0_39 h0_40 h0_f41 h0_f42 h0_f43 h0_f44 h0_45 h0_46 h0_47 h0_48 h0_49 h0_50 h0_f51 h0_52 h0_f53 h0_5 h0_5k tN h0_5c h0_24 h0_24k h0_24c) ∧ vk_R RX12 282 "gsch" ts11 U ∧ va_OF "java/lang/String" "value" "[B" (.ref tv11) ts11 (va_A (wd_c_X12_readStep_7 h0 h0_f0 h0_1 h0_2 h0_3 h0_4 h0_5 h0_f6 h0_f7 h0_f8 h0_f9 h0_f10 (-1) h0_f12 h0_f13 h0_f14 h0_15 h0_16 h0_f17 h0_18 h0_19 h0_20 h0_21 h0_22 h0_23 h0_24 h0_25 h0_f26 h0_f27 h0_f28 h0_f29 h0_f30 h0_f31 h0_32 h0_33 h0_f34 h0_35 h0_36 h0_37 h0_38 h0_39 h0_40 h0_f41 h0_f42 h0_f43 h0_f44 h0_45 h0_46 h0_47 h0_48 h0_49 h0_50 h0_f51 h0_52 h0_f53 h0_5 h0_5k tN h0_5c h0_24 h0_24k h0_24c) sz) U U.heap ∧ va_T .byte tv11 4 (fun j => .int ([103, 115, 99, 104].getD j 0)) (va_A (wd_c_X12_readStep_7 h0 h0_f0 h0_1 h0_2 h0_3 h0_4 h0_5 h0_f6 h0_f7 h0_f8 h0_f9 h0_f10 (-1) h0_f12 h0_f13 h0_f14 h0_15 h0_16 h0_f17 h0_18 h0_19 h0_20 h0_21 h0_22 h0_23 h0_24 h0_25 h0_f26 h0_f27 h0_f28 h0_f29 h0_f30 h0_f31 h0_32 h0_33 h0_f34 h0_35 h0_36 h0_37 h0_38 h0_39 h0_40 h0_f41 h0_f42 h0_f43 h0_f44 h0_45 h0_46 h0_47 h0_48 h0_49 h0_50 h0_f51 h0_52 h0_f53 h0_5 h0_5k tN h0_5c h0_24 h0_24k h0_24c) sz) U U.heap ∧ va_Z "java/lang/String" "COMPACT_STRINGS" "Z" (.int 1) (va_A (wd_c_X12_readStep_7 h0 h0_f0 h0_1 h0_2 h0_3 h0_4 h0_5 h0_f6 h0_f7 h0_f8 h0_f9 h0_f10 (-1) h0_f12 h0_f13 h0_f14 h0_15 h0_16 h0_f17 h0_18 h0_19 h0_20 h0_21 h0_22 h0_23 h0_24 h0_25 h0_f26 h0_f27 h0_f28 h0_f29 h0_f30 h0_f31 h0_32 h0_33 h0_f34 h0_35 h0_36 h0_37 h0_38 h0_39 h0_40 h0_f41 h0_f42 h0_f43 h0_f44 h0_45 h0_46 h0_47 h0_48 h0_49 h0_50 h0_f51 h0_52 h0_f53 h0_5 h0_5k tN h0_5c h0_24 h0_24k h0_24c) sz) U U.heap ∧ va_OF "java/lang/String" "coder" "B" (.int 0) ts11 (va_A (wd_c_X12_readStep_7 h0 h0_f0 h0_1 h0_2 h0_3 h0_4 h0_5 h0_f6 h0_f7 h0_f8 h0_f9 h0_f10 (-1) h0_f12 h0_f13 h0_f14 h0_15 h0_16 h0_f17 h0_18 h0_19 h0_20 h0_21 h0_22 h0_23 h0_24 h0_25 h0_f26 h0_f27 h0_f28 h0_f29 h0_f30 h0_f31 h0_32 h0_33 h0_f34 h0_35 h0_36 h0_37 h0_38 h0_39 h0_40 h0_f41 h0_f42 h0_f43 h0_f44 h0_45 h0_46 h0_47 h0_48 h0_49 h0_50 h0_f51 h0_52 h0_f53 h0_5 h0_5k tN h0_5c h0_24 h0_24k h0_24c) sz) U U.heap ∧ va_O "java/lang/String" ts11 (va_A (wd_c_X12_readStep_7 h0 h0_f0 h0_1 h0_2 h0_3 h0_4 h0_5 h0_f6 h0_f7 h0_f8 h0_f9 h0_f10 (-1) h0_f12 h0_f13 h0_f14 h0_15 h0_16 h0_f17 h0_18 h0_19 h0_20 h0_21 h0_22 h0_23 h0_24 h0_25 h0_f26 h0_f27 h0_f28 h0_f29 h0_f30 h0_f31 h0_32 h0_33 h0_f34 h0_35 h0_36 h0_37 h0_38 h0_39 h0_40 h0_f41 h0_f42 h0_f43 h0_f44 h0_45 h0_46 h0_47 h0_48 h0_49 h0_50 h0_f51 h0_52 h0_f53 h0_5 h0_5k tN h0_5c h0_24 h0_24k h0_24c) sz) U U.heap ∧ va_Zq "jdk/internal/util/Preconditions" "SIOOBE_FORMATTER" "Ljava/util/function/BiFunction;" (va_A (wd_c_X12_readStep_7 h0 h0_f0 h0_1 h0_2 h0_3 h0_4 h0_5 h0_f6 h0_f7 h0_f8 h0_f9 h0_f10 (-1) h0_f12 h0_f13 h0_f14 h0_15 h0_16 h0_f17 h0_18 h0_19 h0_20 h0_21 h0_22 h0_23 h0_24 h0_25 h0_f26 h0_f27 h0_f28 h0_f29 h0_f30 h0_f31 h0_32 h0_33 h0_f34 h0_35 h0_36 h0_37 h0_38 h0_39 h0_40 h0_f41 h0_f42 h0_f43 h0_f44 h0_45 h0_46 h0_47 h0_48 h0_49 h0_50 h0_f51 h0_52 h0_f53 h0_5 h0_5k tN h0_5c h0_24 h0_24k h0_24c) sz) U U.heap)) (va_Qv (fun (u : (Int32) × (Int32) × (Nat → Int32)) => (RG u.1 1 240 ∧ u.2.1 = (-1) ∧ AI (u.2.2) (-1) 9 ∧ RG h0_f9 1 240 ∧ h0_f10.toInt + 1 ≤ (u.1).toInt ∧ (u.1, u.2.1, u.2.2) = fx_c_X12_readStep_7 p1 h0_f8 h0_f9 h0_f10 h0_5c h0_24c) ∨ (RG u.1 0 240 ∧ RG u.2.1 0 240 ∧ AI (u.2.2) (-1) 9 ∧ h0_f10.toInt + 0 ≤ (u.1).toInt ∧ (u.1, u.2.1, u.2.2) = fx_c_X12_readStep_7 p1 h0_f8 h0_f9 h0_f10 h0_5c h0_24c)) (fun (u : (Int32) × (Int32) × (Nat → Int32)) t => va_P (dC, dI) vwCl (wd_c_X12_readStep_7 h0 h0_f0 h0_1 h0_2 h0_3 h0_4 h0_5 h0_f6 h0_f7 h0_f8 h0_f9 (u.1) (u.2.1) h0_f12 h0_f13 h0_f14 h0_15 h0_16 h0_f17 h0_18 h0_19 h0_20 h0_21 h0_22 h0_23 h0_24 h0_25 h0_f26 h0_f27 h0_f28 h0_f29 h0_f30 h0_f31 h0_32 h0_33 h0_f34 h0_35 h0_36 h0_37 h0_38 h0_39 h0_40 h0_f41 h0_f42 h0_f43 h0_f44 h0_45 h0_46 h0_47 h0_48 h0_49 h0_50 h0_f51 h0_52 h0_f53 h0_5 h0_5k tN h0_5c h0_24 h0_24k (u.2.2)) t.heap ∧ va_K (dC, dI) vwCl [] t ∧ va_D (va_A (wd_c_X12_readStep_7 h0 h0_f0 h0_1 h0_2 h0_3 h0_4 h0_5 h0_f6 h0_f7 h0_f8 h0_f9 h0_f10 (-1) h0_f12 h0_f13 h0_f14 h0_15 h0_16 h0_f17 h0_18 h0_19 h0_20 h0_21 h0_22 h0_23 h0_24 h0_25 h0_f26 h0_f27 h0_f28 h0_f29 h0_f30 h0_f31 h0_32 h0_33 h0_f34 h0_35 h0_36 h0_37 h0_38 h0_39 h0_40 h0_f41 h0_f42 h0_f43 h0_f44 h0_45 h0_46 h0_47 h0_48 h0_49 h0_50 h0_f51 h0_52 h0_f53 h0_5 h0_5k tN h0_5c h0_24 h0_24k h0_24c) sz) (wd_c_X12_readStep_7 h0 h0_f0 h0_1 h0_2 h0_3 h0_4 h0_5 h0_f6 h0_f7 h0_f8 h0_f9 (u.1) (u.2.1) h0_f12 h0_f13 h0_f14 h0_15 h0_16 h0_f17 h0_18 h0_19 h0_20 h0_21 h0_22 h0_23 h0_24 h0_25 h0_f26 h0_f27 h0_f28 h0_f29 h0_f30 h0_f31 h0_32 h0_33 h0_f34 h0_35 h0_36 h0_37 h0_38 h0_39 h0_40 h0_f41 h0_f42 h0_f43 h0_f44 h0_45 h0_46 h0_47 h0_48 h0_49 h0_50 h0_f51 h0_52 h0_f53 h0_5 h0_5k tN h0_5c h0_24 h0_24k (u.2.2))) (va_A (wd_c_X12_readStep_7 h0 h0_f0 h0_1 h0_2 h0_3 h0_4 h0_5 h0_f6 h0_f7 h0_f8 h0_f9 h0_f10 (-1) h0_f12 h0_f13 h0_f14 h0_15 h0_16 h0_f17 h0_18 h0_19 h0_20 h0_21 h0_22 h0_23 h0_24 h0_25 h0_f26 h0_f27 h0_f28 h0_f29 h0_f30 h0_f31 h0_32 h0_33 h0_f34 h0_35 h0_36 h0_37 h0_38 h0_39 h0_40 h0_f41 h0_f42 h0_f43 h0_f44 h0_45 h0_46 h0_47 h0_48 h0_49 h0_50 h0_f51 h0_52 h0_f53 h0_5 h0_5k tN h0_5c h0_24 h0_24k h0_24c) sz)) 0 0 (va_A (wd_c_X12_readStep_7 h0 h0_f0 h0_1 h0_2 h0_3 h0_4 h0_5 h0_f6 h0_f7 h0_f8 h0_f9 h0_f10 (-1) h0_f12 h0_f13 h0_f14 h0_15 h0_16 h0_f17 h0_18 h0_19 h0_20 h0_21 h0_22 h0_23 h0_24 h0_25 h0_f26 h0_f27 h0_f28 h0_f29 h0_f30 h0_f31 h0_32 h0_33 h0_f34 h0_35 h0_36 h0_37 h0_38 h0_39 h0_40 h0_f41 h0_f42 h0_f43 h0_f44 h0_45 h0_46 h0_47 h0_48 h0_49 h0_50 h0_f51 h0_52 h0_f53 h0_5 h0_5k tN h0_5c h0_24 h0_24k h0_24c) sz) := by
  refine Met.ofW (cc := cX12_readStep) (maxL := 3) (ret := none) (by decide +kernel) rfl ?_
  intro p e s m args below meth c s₁ B hml hv
  obtain ⟨rfl, hsz, hP, hK, hD0, hE_67, hE_70, hE_71, hE_10, hE_69, hE_68, hE_11⟩ := hv
  have hx := B.exec
  have hb := B.bytes
  have hr := B.returns
  have hts := atoms_spec (ws := wf_c_X12_readStep_7) B.pre
  have hown : s.vm.findClass RX12 = some m.cls := findClass_of_methodNamed B.named
  have hlocks := B.notSynchronized
  subst hsz
  have hD := hD0.self (sz := s.heap.size)
  generalize hAe : va_A (wd_c_X12_readStep_7 h0 h0_f0 h0_1 h0_2 h0_3 h0_4 h0_5 h0_f6 h0_f7 h0_f8 h0_f9 h0_f10 (-1) h0_f12 h0_f13 h0_f14 h0_15 h0_16 h0_f17 h0_18 h0_19 h0_20 h0_21 h0_22 h0_23 h0_24 h0_25 h0_f26 h0_f27 h0_f28 h0_f29 h0_f30 h0_f31 h0_32 h0_33 h0_f34 h0_35 h0_36 h0_37 h0_38 h0_39 h0_40 h0_f41 h0_f42 h0_f43 h0_f44 h0_45 h0_46 h0_47 h0_48 h0_49 h0_50 h0_f51 h0_52 h0_f53 h0_5 h0_5k tN h0_5c h0_24 h0_24k h0_24c) s.heap.size = A at hD hE_70 hE_71 hE_10 hE_69 hE_68 hE_11 ⊢
  have hA : ∀ q : Nat, s.heap.size ≤ q → A q := fun q h => by rw [← hAe]; exact Or.inr h
  have hP : va_P (dC, dI) vwCl (wd_c_X12_readStep_7 h0 h0_f0 h0_1 h0_2 h0_3 h0_4 h0_5 h0_f6 h0_f7 h0_f8 h0_f9 h0_f10 (-1) h0_f12 h0_f13 h0_f14 h0_15 h0_16 h0_f17 h0_18 h0_19 h0_20 h0_21 h0_22 h0_23 h0_24 h0_25 h0_f26 h0_f27 h0_f28 h0_f29 h0_f30 h0_f31 h0_32 h0_33 h0_f34 h0_35 h0_36 h0_37 h0_38 h0_39 h0_40 h0_f41 h0_f42 h0_f43 h0_f44 h0_45 h0_46 h0_47 h0_48 h0_49 h0_50 h0_f51 h0_52 h0_f53 h0_5 h0_5k tN h0_5c h0_24 h0_24k h0_24c) s.heap := hP
  have hl := lv_entry ([.ref h0, .int p1]) (n := 3) (Nat.le_of_ble_eq_true rfl)
  rw [lg_entry_eq]
  generalize (lg_sl ([.ref h0, .int p1]) ++ List.replicate (3 - (lg_sl ([.ref h0, .int p1])).length) Slot.unset).toArray = ls at hl ⊢
  have hl : lv_has ls 3 [(0, .ref h0), (1, .int p1)] := hl
  obtain ⟨H, hHe⟩ : ∃ H : Heap, s.heap = H := ⟨_, rfl⟩
  have hS : va_S A s.heap H [] := by rw [hHe]; exact va_S.rf
  have hP : va_P (dC, dI) vwCl (wd_c_X12_readStep_7 h0 h0_f0 h0_1 h0_2 h0_3 h0_4 h0_5 h0_f6 h0_f7 h0_f8 h0_f9 h0_f10 (-1) h0_f12 h0_f13 h0_f14 h0_15 h0_16 h0_f17 h0_18 h0_19 h0_20 h0_21 h0_22 h0_23 h0_24 h0_25 h0_f26 h0_f27 h0_f28 h0_f29 h0_f30 h0_f31 h0_32 h0_33 h0_f34 h0_35 h0_36 h0_37 h0_38 h0_39 h0_40 h0_f41 h0_f42 h0_f43 h0_f44 h0_45 h0_46 h0_47 h0_48 h0_49 h0_50 h0_f51 h0_52 h0_f53 h0_5 h0_5k tN h0_5c h0_24 h0_24k h0_24c) H := by rw [← hHe]; exact hP
  rw [hHe]
  obtain ⟨RES, hR⟩ : ∃ z, fx_c_X12_readStep_7 p1 h0_f8 h0_f9 h0_f10 h0_5c h0_24c = z := ⟨_, rfl⟩
  have hEX : RES = fx_c_X12_readStep_7 p1 h0_f8 h0_f9 h0_f10 h0_5c h0_24c := hR.symm
  refine wj (fun G hG hU => ?_)
  as_aux_lemma =>
  have J94 : ∀ (j94_l2 : Int32) (j94_h0_f10 : Int32) (j94_h0_24c : Nat → Int32) (g_h0_f10 : RG h0_f10 0 240) (g_h0_f17 : RG h0_f17 0 1) (g_h0_f26 : RG h0_f26 0 8) (g_h0_f27 : RG h0_f27 0 3) (g_h0_f28 : RG h0_f28 0 8) (g_h0_f29 : RG h0_f29 0 3) (g_h0_f30 : RG h0_f30 0 4) (g_h0_f31 : RG h0_f31 0 1) (g_h0_f34 : RG h0_f34 (-1) 3) (g_h0_f41 : RG h0_f41 0 40) (g_h0_f51 : RG h0_f51 0 10) (g_h0_f53 : RG h0_f53 0 1) (g_h0_f6 : RG h0_f6 0 240) (g_h0_f7 : RG h0_f7 0 4) (g_h0_f8 : RG h0_f8 0 720) (g_h0_f9 : RG h0_f9 1 240) (g_j94_h0_f10 : RG j94_h0_f10 1 240) (g_j94_l2 : RG j94_l2 0 3) (g_p1 : RG p1 256 316) (a_j94_h0_24c : AI j94_h0_24c (-1) 9) (r_h0_f10_j94_h0_f10 : h0_f10.toInt + 1 ≤ j94_h0_f10.toInt) (hEX : RES = fx_c_X12_readStep_7_p94 p1 h0_f8 h0_f9 h0_5c j94_l2 j94_h0_f10 j94_h0_24c) (H : Heap) (locs : List Loc) (ls : Array Slot) (hP : va_P (dC, dI) vwCl (wd_c_X12_readStep_7 h0 h0_f0 h0_1 h0_2 h0_3 h0_4 h0_5 h0_f6 h0_f7 h0_f8 h0_f9 j94_h0_f10 (-1) h0_f12 h0_f13 h0_f14 h0_15 h0_16 h0_f17 h0_18 h0_19 h0_20 h0_21 h0_22 h0_23 h0_24 h0_25 h0_f26 h0_f27 h0_f28 h0_f29 h0_f30 h0_f31 h0_32 h0_33 h0_f34 h0_35 h0_36 h0_37 h0_38 h0_39 h0_40 h0_f41 h0_f42 h0_f43 h0_f44 h0_45 h0_46 h0_47 h0_48 h0_49 h0_50 h0_f51 h0_52 h0_f53 h0_5 h0_5k tN h0_5c h0_24 h0_24k j94_h0_24c) H) (hD : va_D A (wd_c_X12_readStep_7 h0 h0_f0 h0_1 h0_2 h0_3 h0_4 h0_5 h0_f6 h0_f7 h0_f8 h0_f9 j94_h0_f10 (-1) h0_f12 h0_f13 h0_f14 h0_15 h0_16 h0_f17 h0_18 h0_19 h0_20 h0_21 h0_22 h0_23 h0_24 h0_25 h0_f26 h0_f27 h0_f28 h0_f29 h0_f30 h0_f31 h0_32 h0_33 h0_f34 h0_35 h0_36 h0_37 h0_38 h0_39 h0_40 h0_f41 h0_f42 h0_f43 h0_f44 h0_45 h0_46 h0_47 h0_48 h0_49 h0_50 h0_f51 h0_52 h0_f53 h0_5 h0_5k tN h0_5c h0_24 h0_24k j94_h0_24c)) (hS : va_S A s.heap H locs) (hl : lv_has ls 3 [(2, .int j94_l2), (0, .ref h0), (1, .int p1)]), G H locs (F0 m 94 ls []) := by
    as_aux_lemma =>
    intro j94_l2 j94_h0_f10 j94_h0_24c g_h0_f10 g_h0_f17 g_h0_f26 g_h0_f27 g_h0_f28 g_h0_f29 g_h0_f30 g_h0_f31 g_h0_f34 g_h0_f41 g_h0_f51 g_h0_f53 g_h0_f6 g_h0_f7 g_h0_f8 g_h0_f9 g_j94_h0_f10 g_j94_l2 g_p1 a_j94_h0_24c r_h0_f10_j94_h0_f10 hEX H locs ls hP hD hS hl
    refine hG _ _ _ ?_
    refine lv_aload_n hx hb dX12_readStep_94 rfl (lv_at hl 1 rfl) ?_
    refine va_get (D := (dC, dI)) (ci := 12) (v := .int (-1)) (C := RX12) (T := TX12) (N := 54) hx hb hts iw_c_X12_readStep_7_X12 hown hK hP 0 rfl rfl 11 (by decide +kernel) (hts (.fieldLink RX12 143 "BuoyVoteModel" "fault" "I") (List.mem_of_getElem? (i := 49) rfl)) (fun _ h9 => h9) rfl dX12_readStep_95 ?_
    refine lv_iconst (v := (-1)) hx hb dX12_readStep_98 kc_iconst_m1 ?_
    refine lv_icmp_ne (tgt := 118) hx hb dX12_readStep_99 rfl (fun c_1 => absurd c_1 (by decide +kernel)) (fun c_1 => ?_)
    refine lv_iload_n hx hb dX12_readStep_102 rfl (lv_at hl 0 rfl) ?_
    refine lv_if_ne (tgt := 118) hx hb dX12_readStep_103 rfl (fun c_2 => ?_) (fun c_2 => ?_)
    · replace hEX := hEX.trans (if_neg c_2)
      have g_3 : RG j94_l2 1 3 := RG_ne1 g_j94_l2 (q := 0) rfl c_2 (by decide +kernel)
      have hK9 := hK.sub (tys' := []) [] rfl
      exact W.vret hx hb hr (fun t ht hW => ⟨⟨(j94_h0_f10, (-1), j94_h0_24c), rfl, (Or.inl ⟨g_j94_h0_f10, rfl, a_j94_h0_24c, g_h0_f9, (by have := r_h0_f10_j94_h0_f10; show h0_f10.toInt + 1 ≤ j94_h0_f10.toInt; omega), (hR.trans hEX).symm⟩), by rw [ht]; exact hP, va_K.moved hW.alike hK9, hD⟩, hS.F ht⟩) hS.2.2 dX12_readStep_118
    · replace hEX := hEX.trans (if_pos c_2)
      have g_4 : RG j94_l2 0 0 := RG_eq1 g_j94_l2 (RG_k 0 0 rfl) c_2 (by decide +kernel)
      refine lv_aload_n hx hb dX12_readStep_106 rfl (lv_at hl 1 rfl) ?_
      as_aux_lemma =>
      refine va_get (D := (dC, dI)) (ci := 12) (v := .ref h0_24) (C := RX12) (T := TX12) (N := 54) hx hb hts iw_c_X12_readStep_7_X12 hown hK hP 0 rfl rfl 24 (by decide +kernel) (hts (.fieldLink RX12 55 "BuoyVoteModel" "plan" "[I") (List.mem_of_getElem? (i := 50) rfl)) (fun _ h9 => h9) rfl dX12_readStep_107 ?_
      refine lv_iload_n hx hb dX12_readStep_110 rfl (lv_at hl 2 rfl) ?_
      refine lv_iconst (v := 3) hx hb dX12_readStep_111 kc_iconst_3 ?_
      refine lv_iadd hx hb dX12_readStep_112 ?_
      refine lv_topi (fun x_5 ex_5 => ?_)
      replace hEX := hEX.trans (exl_eq ex_5)
      have g_6 : RG x_5 259 319 := RG_add ex_5 g_p1 (RG_k 3 3 rfl) (by decide +kernel)
      refine lv_aload_n hx hb dX12_readStep_113 rfl (lv_at hl 1 rfl) ?_
      obtain ⟨hPc, hDc, hFc, hqc⟩ := cl_cut (wc := (wd_c_X12_digit h0 h0_f0 h0_1 h0_2 h0_3 h0_4 h0_5 h0_f6 h0_f7 h0_f8 h0_f9 j94_h0_f10 (-1) h0_f12 h0_f13 h0_f14 h0_15 h0_16 h0_f17 h0_18 h0_19 h0_20 h0_21 h0_22 h0_23 h0_24 h0_25 h0_f26 h0_f27 h0_f28 h0_f29 h0_f30 h0_f31 h0_32 h0_33 h0_f34 h0_35 h0_36 h0_37 h0_38 h0_39 h0_40 h0_f41 h0_f42 h0_f43 h0_f44 h0_45 h0_46 h0_47 h0_48 h0_49 h0_50 h0_f51 h0_52 h0_f53 h0_5 h0_5k tN h0_5c)) hP hD hS hA [0, 1] (by decide +kernel) rfl
      have hKc := hK.sub (tys' := [(h0_5k, .byte)]) [0] rfl
      have hrv := va_recv hKc hPc (ci := 12) (q0 := 0) rfl rfl
      refine va_calli (va_runV (As := []) (rest := [.int x_5, .ref h0_24]) ⟨hx, hb, hml, hown, hts⟩ (c_X12_digit l dC dI H.size h0 h0_f0 h0_1 h0_2 h0_3 h0_4 h0_5 h0_f6 h0_f7 h0_f8 h0_f9 j94_h0_f10 h0_f12 h0_f13 h0_f14 h0_15 h0_16 h0_f17 h0_18 h0_19 h0_20 h0_21 h0_22 h0_23 h0_24 h0_25 h0_f26 h0_f27 h0_f28 h0_f29 h0_f30 h0_f31 h0_32 h0_33 h0_f34 h0_35 h0_36 h0_37 h0_38 h0_39 h0_40 h0_f41 h0_f42 h0_f43 h0_f44 h0_45 h0_46 h0_47 h0_48 h0_49 h0_50 h0_f51 h0_52 h0_f53 h0_5k h0_5c tN g_h0_f6 g_h0_f7 g_h0_f8 (RG_w g_h0_f9 (by decide +kernel)) (RG_w g_j94_h0_f10 (by decide +kernel)) g_h0_f17 g_h0_f26 g_h0_f27 g_h0_f28 g_h0_f29 g_h0_f30 g_h0_f31 g_h0_f34 g_h0_f41 g_h0_f51 g_h0_f53 htN) (cwV 0 hts gf_c_X12_readStep_7_c_X12_digit rfl rfl rfl mdV_X12_digit ⟨Nat.le_of_ble_eq_true rfl, Nat.le_of_ble_eq_true rfl⟩) ⟨fun a U g mk q => by obtain ⟨q0, q1, qP, qK, qD⟩ := q; exact ⟨q0, q1, qP, va_K.moved (u := U) (U := U.calling g mk a) (Vm.Alike.refl U.vm) qK, qD⟩, hrv, fun U hU hW => ⟨rfl, by rw [hU], by rw [hU]; exact hPc, va_K.moved hW.alike hKc, hDc.weaken (fun _ _ _ _ => trivial)⟩⟩ rfl rfl hl.1 rfl (lv_room (Nat.le_of_ble_eq_true rfl)) dX12_readStep_114 ⟨Nat.le_of_ble_eq_true rfl, Nat.le_of_ble_eq_true rfl⟩) hS (fun q _ h => hFc q h) hFc (fun r_7 u t H1 locs ht hvm hw hB hz1 hk1 hS => ?_)
      obtain ⟨x_8, x_9⟩ := u
      obtain ⟨hP1, hK1, hD1⟩ := hB
      rw [ht] at hP1
      obtain ⟨hP, hD⟩ := cl_put (w1 := (wd_c_X12_digit h0 h0_f0 h0_1 h0_2 h0_3 h0_4 h0_5 h0_f6 h0_f7 h0_f8 h0_f9 x_8 x_9 h0_f12 h0_f13 h0_f14 h0_15 h0_16 h0_f17 h0_18 h0_19 h0_20 h0_21 h0_22 h0_23 h0_24 h0_25 h0_f26 h0_f27 h0_f28 h0_f29 h0_f30 h0_f31 h0_32 h0_33 h0_f34 h0_35 h0_36 h0_37 h0_38 h0_39 h0_40 h0_f41 h0_f42 h0_f43 h0_f44 h0_45 h0_46 h0_47 h0_48 h0_49 h0_50 h0_f51 h0_52 h0_f53 h0_5 h0_5k tN h0_5c)) (nw := (wd_c_X12_readStep_7 h0 h0_f0 h0_1 h0_2 h0_3 h0_4 h0_5 h0_f6 h0_f7 h0_f8 h0_f9 x_8 x_9 h0_f12 h0_f13 h0_f14 h0_15 h0_16 h0_f17 h0_18 h0_19 h0_20 h0_21 h0_22 h0_23 h0_24 h0_25 h0_f26 h0_f27 h0_f28 h0_f29 h0_f30 h0_f31 h0_32 h0_33 h0_f34 h0_35 h0_36 h0_37 h0_38 h0_39 h0_40 h0_f41 h0_f42 h0_f43 h0_f44 h0_45 h0_46 h0_47 h0_48 h0_49 h0_50 h0_f51 h0_52 h0_f53 h0_5 h0_5k tN h0_5c h0_24 h0_24k j94_h0_24c)) hP hD [0, 1] [3, 4, 2] 3 rfl hqc (by decide +kernel) rfl hk1 hFc hP1 hD1
      generalize H1 = H at hP hS ⊢
      as_aux_lemma =>
      rcases hw with ⟨h_10, h_11, h_12, h_13, h_14, h_15⟩ | ⟨h_16, h_17, h_18, h_19, h_20⟩
      · have h_15 : (r_7, x_8, x_9) = _ := h_15
        replace hEX := hEX.trans (exc3_eq h_15)
        replace hEX := hEX.trans (if_pos (show x_9 = (-1) from h_12))
        subst h_12
        have h_14 : j94_h0_f10.toInt + 1 ≤ x_8.toInt := h_14
        refine va_iast hx hb hK hP hD hS 2 1 rfl rfl (RG_in g_6 (by decide +kernel)) dX12_readStep_117 (fun H locs hP hD hS => ?_)
        have hP : va_P (dC, dI) vwCl (wd_c_X12_readStep_7 h0 h0_f0 h0_1 h0_2 h0_3 h0_4 h0_5 h0_f6 h0_f7 h0_f8 h0_f9 x_8 (-1) h0_f12 h0_f13 h0_f14 h0_15 h0_16 h0_f17 h0_18 h0_19 h0_20 h0_21 h0_22 h0_23 h0_24 h0_25 h0_f26 h0_f27 h0_f28 h0_f29 h0_f30 h0_f31 h0_32 h0_33 h0_f34 h0_35 h0_36 h0_37 h0_38 h0_39 h0_40 h0_f41 h0_f42 h0_f43 h0_f44 h0_45 h0_46 h0_47 h0_48 h0_49 h0_50 h0_f51 h0_52 h0_f53 h0_5 h0_5k tN h0_5c h0_24 h0_24k (upd j94_h0_24c (x_5 : Int32).toNatClampNeg r_7)) H := hP
        have hD : va_D A (wd_c_X12_readStep_7 h0 h0_f0 h0_1 h0_2 h0_3 h0_4 h0_5 h0_f6 h0_f7 h0_f8 h0_f9 x_8 (-1) h0_f12 h0_f13 h0_f14 h0_15 h0_16 h0_f17 h0_18 h0_19 h0_20 h0_21 h0_22 h0_23 h0_24 h0_25 h0_f26 h0_f27 h0_f28 h0_f29 h0_f30 h0_f31 h0_32 h0_33 h0_f34 h0_35 h0_36 h0_37 h0_38 h0_39 h0_40 h0_f41 h0_f42 h0_f43 h0_f44 h0_45 h0_46 h0_47 h0_48 h0_49 h0_50 h0_f51 h0_52 h0_f53 h0_5 h0_5k tN h0_5c h0_24 h0_24k (upd j94_h0_24c (x_5 : Int32).toNatClampNeg r_7)) := hD
        have l_22 : (upd j94_h0_24c (x_5 : Int32).toNatClampNeg r_7) (x_5 : Int32).toNatClampNeg = r_7 := pk_us
        have a_23 : AI (upd j94_h0_24c (x_5 : Int32).toNatClampNeg r_7) (-1) 9 := AI_up a_j94_h0_24c h_10 (by decide +kernel)
        generalize huw_21 : (upd j94_h0_24c (x_5 : Int32).toNatClampNeg r_7) = w_21 at hP hD a_23 l_22
        replace hEX := hEX.trans (exl_eq huw_21.symm)
        have hP : va_P (dC, dI) vwCl (wd_c_X12_readStep_7 h0 h0_f0 h0_1 h0_2 h0_3 h0_4 h0_5 h0_f6 h0_f7 h0_f8 h0_f9 x_8 (-1) h0_f12 h0_f13 h0_f14 h0_15 h0_16 h0_f17 h0_18 h0_19 h0_20 h0_21 h0_22 h0_23 h0_24 h0_25 h0_f26 h0_f27 h0_f28 h0_f29 h0_f30 h0_f31 h0_32 h0_33 h0_f34 h0_35 h0_36 h0_37 h0_38 h0_39 h0_40 h0_f41 h0_f42 h0_f43 h0_f44 h0_45 h0_46 h0_47 h0_48 h0_49 h0_50 h0_f51 h0_52 h0_f53 h0_5 h0_5k tN h0_5c h0_24 h0_24k w_21) H := hP
        have hD : va_D A (wd_c_X12_readStep_7 h0 h0_f0 h0_1 h0_2 h0_3 h0_4 h0_5 h0_f6 h0_f7 h0_f8 h0_f9 x_8 (-1) h0_f12 h0_f13 h0_f14 h0_15 h0_16 h0_f17 h0_18 h0_19 h0_20 h0_21 h0_22 h0_23 h0_24 h0_25 h0_f26 h0_f27 h0_f28 h0_f29 h0_f30 h0_f31 h0_32 h0_33 h0_f34 h0_35 h0_36 h0_37 h0_38 h0_39 h0_40 h0_f41 h0_f42 h0_f43 h0_f44 h0_45 h0_46 h0_47 h0_48 h0_49 h0_50 h0_f51 h0_52 h0_f53 h0_5 h0_5k tN h0_5c h0_24 h0_24k w_21) := hD
        have hK9 := hK.sub (tys' := []) [] rfl
        exact W.vret hx hb hr (fun t ht hW => ⟨⟨(x_8, (-1), w_21), rfl, (Or.inl ⟨h_11, rfl, a_23, g_h0_f9, (by have := r_h0_f10_j94_h0_f10; have := h_14; show h0_f10.toInt + 1 ≤ x_8.toInt; omega), (hR.trans hEX).symm⟩), by rw [ht]; exact hP, va_K.moved hW.alike hK9, hD⟩, hS.F ht⟩) hS.2.2 dX12_readStep_118
      · have h_20 : (r_7, x_8, x_9) = _ := h_20
        replace hEX := hEX.trans (exc3_eq h_20)
        replace hEX := hEX.trans (if_neg (RG_neq (x := x_9) (c := (-1)) (show RG x_9 0 240 from h_18) (by decide +kernel)))
        rw [h_16]
        have h_19 : j94_h0_f10.toInt + 0 ≤ x_8.toInt := h_19
        refine va_iast hx hb hK hP hD hS 2 1 rfl rfl (RG_in g_6 (by decide +kernel)) dX12_readStep_117 (fun H locs hP hD hS => ?_)
        as_aux_lemma =>
        have hP : va_P (dC, dI) vwCl (wd_c_X12_readStep_7 h0 h0_f0 h0_1 h0_2 h0_3 h0_4 h0_5 h0_f6 h0_f7 h0_f8 h0_f9 x_8 x_9 h0_f12 h0_f13 h0_f14 h0_15 h0_16 h0_f17 h0_18 h0_19 h0_20 h0_21 h0_22 h0_23 h0_24 h0_25 h0_f26 h0_f27 h0_f28 h0_f29 h0_f30 h0_f31 h0_32 h0_33 h0_f34 h0_35 h0_36 h0_37 h0_38 h0_39 h0_40 h0_f41 h0_f42 h0_f43 h0_f44 h0_45 h0_46 h0_47 h0_48 h0_49 h0_50 h0_f51 h0_52 h0_f53 h0_5 h0_5k tN h0_5c h0_24 h0_24k (upd j94_h0_24c (x_5 : Int32).toNatClampNeg 0)) H := hP
        have hD : va_D A (wd_c_X12_readStep_7 h0 h0_f0 h0_1 h0_2 h0_3 h0_4 h0_5 h0_f6 h0_f7 h0_f8 h0_f9 x_8 x_9 h0_f12 h0_f13 h0_f14 h0_15 h0_16 h0_f17 h0_18 h0_19 h0_20 h0_21 h0_22 h0_23 h0_24 h0_25 h0_f26 h0_f27 h0_f28 h0_f29 h0_f30 h0_f31 h0_32 h0_33 h0_f34 h0_35 h0_36 h0_37 h0_38 h0_39 h0_40 h0_f41 h0_f42 h0_f43 h0_f44 h0_45 h0_46 h0_47 h0_48 h0_49 h0_50 h0_f51 h0_52 h0_f53 h0_5 h0_5k tN h0_5c h0_24 h0_24k (upd j94_h0_24c (x_5 : Int32).toNatClampNeg 0)) := hD
        have l_25 : (upd j94_h0_24c (x_5 : Int32).toNatClampNeg 0) (x_5 : Int32).toNatClampNeg = 0 := pk_us
        have a_26 : AI (upd j94_h0_24c (x_5 : Int32).toNatClampNeg 0) (-1) 9 := AI_up a_j94_h0_24c (RG_k 0 0 rfl) (by decide +kernel)
        generalize huw_24 : (upd j94_h0_24c (x_5 : Int32).toNatClampNeg 0) = w_24 at hP hD a_26 l_25
        replace hEX := hEX.trans (exl_eq huw_24.symm)
        have hP : va_P (dC, dI) vwCl (wd_c_X12_readStep_7 h0 h0_f0 h0_1 h0_2 h0_3 h0_4 h0_5 h0_f6 h0_f7 h0_f8 h0_f9 x_8 x_9 h0_f12 h0_f13 h0_f14 h0_15 h0_16 h0_f17 h0_18 h0_19 h0_20 h0_21 h0_22 h0_23 h0_24 h0_25 h0_f26 h0_f27 h0_f28 h0_f29 h0_f30 h0_f31 h0_32 h0_33 h0_f34 h0_35 h0_36 h0_37 h0_38 h0_39 h0_40 h0_f41 h0_f42 h0_f43 h0_f44 h0_45 h0_46 h0_47 h0_48 h0_49 h0_50 h0_f51 h0_52 h0_f53 h0_5 h0_5k tN h0_5c h0_24 h0_24k w_24) H := hP
        have hD : va_D A (wd_c_X12_readStep_7 h0 h0_f0 h0_1 h0_2 h0_3 h0_4 h0_5 h0_f6 h0_f7 h0_f8 h0_f9 x_8 x_9 h0_f12 h0_f13 h0_f14 h0_15 h0_16 h0_f17 h0_18 h0_19 h0_20 h0_21 h0_22 h0_23 h0_24 h0_25 h0_f26 h0_f27 h0_f28 h0_f29 h0_f30 h0_f31 h0_32 h0_33 h0_f34 h0_35 h0_36 h0_37 h0_38 h0_39 h0_40 h0_f41 h0_f42 h0_f43 h0_f44 h0_45 h0_46 h0_47 h0_48 h0_49 h0_50 h0_f51 h0_52 h0_f53 h0_5 h0_5k tN h0_5c h0_24 h0_24k w_24) := hD
        have hK9 := hK.sub (tys' := []) [] rfl
        exact W.vret hx hb hr (fun t ht hW => ⟨⟨(x_8, x_9, w_24), rfl, (Or.inr ⟨h_17, h_18, a_26, (by have := r_h0_f10_j94_h0_f10; have := h_19; show h0_f10.toInt + 0 ≤ x_8.toInt; omega), (hR.trans hEX).symm⟩), by rw [ht]; exact hP, va_K.moved hW.alike hK9, hD⟩, hS.F ht⟩) hS.2.2 dX12_readStep_118
  have J94b : ∀ (j94b_l2 : Int32) (j94b_h0_f10 : Int32) (j94b_h0_f11 : Int32) (j94b_h0_24c : Nat → Int32) (g_h0_f10 : RG h0_f10 0 240) (g_h0_f17 : RG h0_f17 0 1) (g_h0_f26 : RG h0_f26 0 8) (g_h0_f27 : RG h0_f27 0 3) (g_h0_f28 : RG h0_f28 0 8) (g_h0_f29 : RG h0_f29 0 3) (g_h0_f30 : RG h0_f30 0 4) (g_h0_f31 : RG h0_f31 0 1) (g_h0_f34 : RG h0_f34 (-1) 3) (g_h0_f41 : RG h0_f41 0 40) (g_h0_f51 : RG h0_f51 0 10) (g_h0_f53 : RG h0_f53 0 1) (g_h0_f6 : RG h0_f6 0 240) (g_h0_f7 : RG h0_f7 0 4) (g_h0_f8 : RG h0_f8 0 720) (g_h0_f9 : RG h0_f9 1 240) (g_j94b_h0_f10 : RG j94b_h0_f10 0 240) (g_j94b_h0_f11 : RG j94b_h0_f11 0 240) (g_j94b_l2 : RG j94b_l2 0 3) (g_p1 : RG p1 256 316) (a_j94b_h0_24c : AI j94b_h0_24c (-1) 9) (r_h0_f10_j94b_h0_f10 : h0_f10.toInt + 1 ≤ j94b_h0_f10.toInt) (hEX : RES = fx_c_X12_readStep_7_p94b j94b_h0_f10 j94b_h0_f11 j94b_h0_24c) (H : Heap) (locs : List Loc) (ls : Array Slot) (hP : va_P (dC, dI) vwCl (wd_c_X12_readStep_7 h0 h0_f0 h0_1 h0_2 h0_3 h0_4 h0_5 h0_f6 h0_f7 h0_f8 h0_f9 j94b_h0_f10 j94b_h0_f11 h0_f12 h0_f13 h0_f14 h0_15 h0_16 h0_f17 h0_18 h0_19 h0_20 h0_21 h0_22 h0_23 h0_24 h0_25 h0_f26 h0_f27 h0_f28 h0_f29 h0_f30 h0_f31 h0_32 h0_33 h0_f34 h0_35 h0_36 h0_37 h0_38 h0_39 h0_40 h0_f41 h0_f42 h0_f43 h0_f44 h0_45 h0_46 h0_47 h0_48 h0_49 h0_50 h0_f51 h0_52 h0_f53 h0_5 h0_5k tN h0_5c h0_24 h0_24k j94b_h0_24c) H) (hD : va_D A (wd_c_X12_readStep_7 h0 h0_f0 h0_1 h0_2 h0_3 h0_4 h0_5 h0_f6 h0_f7 h0_f8 h0_f9 j94b_h0_f10 j94b_h0_f11 h0_f12 h0_f13 h0_f14 h0_15 h0_16 h0_f17 h0_18 h0_19 h0_20 h0_21 h0_22 h0_23 h0_24 h0_25 h0_f26 h0_f27 h0_f28 h0_f29 h0_f30 h0_f31 h0_32 h0_33 h0_f34 h0_35 h0_36 h0_37 h0_38 h0_39 h0_40 h0_f41 h0_f42 h0_f43 h0_f44 h0_45 h0_46 h0_47 h0_48 h0_49 h0_50 h0_f51 h0_52 h0_f53 h0_5 h0_5k tN h0_5c h0_24 h0_24k j94b_h0_24c)) (hS : va_S A s.heap H locs) (hl : lv_has ls 3 [(2, .int j94b_l2), (0, .ref h0), (1, .int p1)]), G H locs (F0 m 94 ls []) := by
    as_aux_lemma =>
    intro j94b_l2 j94b_h0_f10 j94b_h0_f11 j94b_h0_24c g_h0_f10 g_h0_f17 g_h0_f26 g_h0_f27 g_h0_f28 g_h0_f29 g_h0_f30 g_h0_f31 g_h0_f34 g_h0_f41 g_h0_f51 g_h0_f53 g_h0_f6 g_h0_f7 g_h0_f8 g_h0_f9 g_j94b_h0_f10 g_j94b_h0_f11 g_j94b_l2 g_p1 a_j94b_h0_24c r_h0_f10_j94b_h0_f10 hEX H locs ls hP hD hS hl
    refine hG _ _ _ ?_
    refine lv_aload_n hx hb dX12_readStep_94 rfl (lv_at hl 1 rfl) ?_
    refine va_get (D := (dC, dI)) (ci := 12) (v := .int j94b_h0_f11) (C := RX12) (T := TX12) (N := 54) hx hb hts iw_c_X12_readStep_7_X12 hown hK hP 0 rfl rfl 11 (by decide +kernel) (hts (.fieldLink RX12 143 "BuoyVoteModel" "fault" "I") (List.mem_of_getElem? (i := 49) rfl)) (fun _ h9 => h9) rfl dX12_readStep_95 ?_
    refine lv_iconst (v := (-1)) hx hb dX12_readStep_98 kc_iconst_m1 ?_
    refine lv_icmp_ne (tgt := 118) hx hb dX12_readStep_99 rfl (fun c_27 => ?_) (fun c_27 => ?_)
    · replace hEX := hEX.trans (if_neg c_27)
      have hK9 := hK.sub (tys' := []) [] rfl
      exact W.vret hx hb hr (fun t ht hW => ⟨⟨(j94b_h0_f10, j94b_h0_f11, j94b_h0_24c), rfl, (Or.inr ⟨g_j94b_h0_f10, g_j94b_h0_f11, a_j94b_h0_24c, (by have := r_h0_f10_j94b_h0_f10; show h0_f10.toInt + 0 ≤ j94b_h0_f10.toInt; omega), (hR.trans hEX).symm⟩), by rw [ht]; exact hP, va_K.moved hW.alike hK9, hD⟩, hS.F ht⟩) hS.2.2 dX12_readStep_118
    · replace hEX := hEX.trans (if_pos c_27)
      exact RG_dead (RG_eq1 g_j94b_h0_f11 (RG_k (-1) (-1) rfl) c_27 (a' := 0) (b' := (-1)) (by decide +kernel)) (by decide +kernel)
  refine hG _ _ _ ?_
  refine va_ldcwS hx hb hown hE_67 dX12_readStep_0 ?_
  refine lv_aload_n hx hb dX12_readStep_3 rfl (lv_at hl 0 rfl) ?_
  as_aux_lemma =>
  obtain ⟨hPc, hDc, hFc, hqc⟩ := cl_cut (wc := (wd_c_X12_look h0 h0_f0 h0_1 h0_2 h0_3 h0_4 h0_5 h0_f6 h0_f7 h0_f8 h0_f9 h0_f10 (-1) h0_f12 h0_f13 h0_f14 h0_15 h0_16 h0_f17 h0_18 h0_19 h0_20 h0_21 h0_22 h0_23 h0_24 h0_25 h0_f26 h0_f27 h0_f28 h0_f29 h0_f30 h0_f31 h0_32 h0_33 h0_f34 h0_35 h0_36 h0_37 h0_38 h0_39 h0_40 h0_f41 h0_f42 h0_f43 h0_f44 h0_45 h0_46 h0_47 h0_48 h0_49 h0_50 h0_f51 h0_52 h0_f53 h0_5 h0_5k tN h0_5c)) hP hD hS hA [0, 1] (by decide +kernel) rfl
  have hKc := hK.sub (tys' := [(h0_5k, .byte)]) [0] rfl
  have hrv := va_recv hKc hPc (ci := 12) (q0 := 0) rfl rfl
  refine va_calli (va_runV (As := []) (rest := [.ref ts11]) ⟨hx, hb, hml, hown, hts⟩ (c_X12_look l dC dI H.size h0 h0_f0 h0_1 h0_2 h0_3 h0_4 h0_5 h0_f6 h0_f7 h0_f8 h0_f9 h0_f10 h0_f12 h0_f13 h0_f14 h0_15 h0_16 h0_f17 h0_18 h0_19 h0_20 h0_21 h0_22 h0_23 h0_24 h0_25 h0_f26 h0_f27 h0_f28 h0_f29 h0_f30 h0_f31 h0_32 h0_33 h0_f34 h0_35 h0_36 h0_37 h0_38 h0_39 h0_40 h0_f41 h0_f42 h0_f43 h0_f44 h0_45 h0_46 h0_47 h0_48 h0_49 h0_50 h0_f51 h0_52 h0_f53 h0_5k h0_5c tN g_h0_f6 g_h0_f7 g_h0_f8 g_h0_f9 g_h0_f10 g_h0_f17 g_h0_f26 g_h0_f27 g_h0_f28 g_h0_f29 g_h0_f30 g_h0_f31 g_h0_f34 g_h0_f41 g_h0_f51 g_h0_f53 htN) (cwV 0 hts gf_c_X12_readStep_7_c_X12_look rfl rfl rfl mdV_X12_look ⟨Nat.le_of_ble_eq_true rfl, Nat.le_of_ble_eq_true rfl⟩) ⟨fun a U g mk q => by obtain ⟨q0, q1, qP, qK, qD⟩ := q; exact ⟨q0, q1, qP, va_K.moved (u := U) (U := U.calling g mk a) (Vm.Alike.refl U.vm) qK, qD⟩, hrv, fun U hU hW => ⟨rfl, by rw [hU], by rw [hU]; exact hPc, va_K.moved hW.alike hKc, hDc.weaken (fun _ _ _ _ => trivial)⟩⟩ rfl rfl hl.1 rfl (lv_room (Nat.le_of_ble_eq_true rfl)) dX12_readStep_4 ⟨Nat.le_of_ble_eq_true rfl, Nat.le_of_ble_eq_true rfl⟩) hS (fun q _ h => hFc q h) hFc (fun r_28 x_29 t H1 locs ht hvm hw hB hz1 hk1 hS => ?_)
  obtain ⟨hP1, hK1, hD1⟩ := hB
  rw [ht] at hP1
  obtain ⟨hP, hD⟩ := cl_put (w1 := (wd_c_X12_look h0 h0_f0 h0_1 h0_2 h0_3 h0_4 h0_5 h0_f6 h0_f7 h0_f8 h0_f9 x_29 (-1) h0_f12 h0_f13 h0_f14 h0_15 h0_16 h0_f17 h0_18 h0_19 h0_20 h0_21 h0_22 h0_23 h0_24 h0_25 h0_f26 h0_f27 h0_f28 h0_f29 h0_f30 h0_f31 h0_32 h0_33 h0_f34 h0_35 h0_36 h0_37 h0_38 h0_39 h0_40 h0_f41 h0_f42 h0_f43 h0_f44 h0_45 h0_46 h0_47 h0_48 h0_49 h0_50 h0_f51 h0_52 h0_f53 h0_5 h0_5k tN h0_5c)) (nw := (wd_c_X12_readStep_7 h0 h0_f0 h0_1 h0_2 h0_3 h0_4 h0_5 h0_f6 h0_f7 h0_f8 h0_f9 x_29 (-1) h0_f12 h0_f13 h0_f14 h0_15 h0_16 h0_f17 h0_18 h0_19 h0_20 h0_21 h0_22 h0_23 h0_24 h0_25 h0_f26 h0_f27 h0_f28 h0_f29 h0_f30 h0_f31 h0_32 h0_33 h0_f34 h0_35 h0_36 h0_37 h0_38 h0_39 h0_40 h0_f41 h0_f42 h0_f43 h0_f44 h0_45 h0_46 h0_47 h0_48 h0_49 h0_50 h0_f51 h0_52 h0_f53 h0_5 h0_5k tN h0_5c h0_24 h0_24k h0_24c)) hP hD [0, 1] [3, 4, 2] 3 rfl hqc (by decide +kernel) rfl hk1 hFc hP1 hD1
  generalize H1 = H at hP hS ⊢
  as_aux_lemma =>
  rcases hw with ⟨h_30, h_31, h_32, h_33, h_34, h_35⟩ | ⟨h_36, h_37, h_38, h_39, h_40, h_41, h_42⟩
  · have h_35 : (r_28, x_29) = _ := h_35
    replace hEX := hEX.trans (exc2_eq h_35)
    replace hEX := hEX.trans (if_pos (show r_28 = (-1) from h_30))
    rw [h_30]
    obtain ⟨hPc, hDc, hFc, hqc⟩ := cl_cut (wc := []) hP hD hS hA [] (by decide +kernel) rfl
    have hKc := hK.sub (tys' := []) [] rfl
    refine va_calli (va_runS (As := [.ref ts11, .int (-1)]) (rest := []) ⟨hx, hb, hml, hown, hts⟩ (c_X12_spotOf_6 l dC dI H.size ts11 tv11) (va_cwS 2 hts gf_c_X12_readStep_7_c_X12_spotOf_6 rfl rfl rfl md_X12_spotOf ⟨Nat.le_of_ble_eq_true rfl, Nat.le_of_ble_eq_true rfl⟩) ⟨fun a U g mk q => by obtain ⟨q0, q1, qP, qK, qD, qE0, qE1, qE2, qE3, qE4, qE5⟩ := q; exact ⟨q0, q1, qP, va_K.moved (u := U) (U := U.calling g mk a) (Vm.Alike.refl U.vm) qK, qD, va_OF.moved (u := U) (U := U.calling g mk a) (Vm.Alike.refl U.vm) qE0, va_T.moved (u := U) (U := U.calling g mk a) (Vm.Alike.refl U.vm) qE1, va_Z.moved (u := U) (U := U.calling g mk a) (Vm.Alike.refl U.vm) qE2, va_OF.moved (u := U) (U := U.calling g mk a) (Vm.Alike.refl U.vm) qE3, va_O.moved (u := U) (U := U.calling g mk a) (Vm.Alike.refl U.vm) qE4, va_Zq.moved (u := U) (U := U.calling g mk a) (Vm.Alike.refl U.vm) qE5⟩, fun U hU hW => ⟨rfl, by rw [hU], by rw [hU]; exact hPc, va_K.moved hW.alike hKc, hDc.weaken (fun _ _ _ _ => trivial), va_OF.moved hW.alike (by rw [hU]; exact (hE_70.kept hS.2.1).narrow hFc), va_T.moved hW.alike (by rw [hU]; exact (hE_71.kept hS.2.1).narrow hFc), va_Z.moved hW.alike (by rw [hU]; exact (hE_10.kept hS.2.1).narrow hFc), va_OF.moved hW.alike (by rw [hU]; exact (hE_69.kept hS.2.1).narrow hFc), va_O.moved hW.alike (by rw [hU]; exact (hE_68.kept hS.2.1).narrow hFc), va_Zq.moved hW.alike (by rw [hU]; exact (hE_11.kept hS.2.1).narrow hFc)⟩⟩ rfl rfl hl.1 rfl (lv_room (Nat.le_of_ble_eq_true rfl)) dX12_readStep_7 ⟨Nat.le_of_ble_eq_true rfl, Nat.le_of_ble_eq_true rfl⟩) hS (fun q _ h => hFc q h) hFc (fun r_43 u t H1 locs ht hvm hw hB hz1 hk1 hS => ?_)
    obtain ⟨hP1, hK1, hD1⟩ := hB
    rw [ht] at hP1
    have hP := bv_still hP hk1
    generalize H1 = H at hP hS ⊢
    as_aux_lemma =>
    rcases hw with ⟨h_44, h_45⟩
    have h_45 : r_43 = _ := h_45
    replace hEX := hEX.trans (exc1_eq h_45)
    rw [h_44]
    refine lv_istore_n (lv' := [(2, .int (-1)), (0, .ref h0), (1, .int p1)]) hx hb dX12_readStep_10 rfl hl (Nat.le_of_ble_eq_true rfl) rfl (fun ls hl => ?_)
    refine lv_iload_n hx hb dX12_readStep_11 rfl (lv_at hl 0 rfl) ?_
    refine lv_iconst (v := (-1)) hx hb dX12_readStep_12 kc_iconst_m1 ?_
    refine lv_icmp_ne (tgt := 22) hx hb dX12_readStep_13 rfl (fun c_46 => absurd c_46 (by decide +kernel)) (fun c_46 => ?_)
    refine lv_aload_n hx hb dX12_readStep_16 rfl (lv_at hl 1 rfl) ?_
    obtain ⟨hPc, hDc, hFc, hqc⟩ := cl_cut (wc := (wd_c_X12_fails h0 h0_f0 h0_1 h0_2 h0_3 h0_4 h0_5 h0_f6 h0_f7 h0_f8 h0_f9 x_29 (-1) h0_f12 h0_f13 h0_f14 h0_15 h0_16 h0_f17 h0_18 h0_19 h0_20 h0_21 h0_22 h0_23 h0_24 h0_25 h0_f26 h0_f27 h0_f28 h0_f29 h0_f30 h0_f31 h0_32 h0_33 h0_f34 h0_35 h0_36 h0_37 h0_38 h0_39 h0_40 h0_f41 h0_f42 h0_f43 h0_f44 h0_45 h0_46 h0_47 h0_48 h0_49 h0_50 h0_f51 h0_52 h0_f53)) hP hD hS hA [0] (by decide +kernel) rfl
    have hKc := hK.sub (tys' := []) [] rfl
    have hrv := va_recv hKc hPc (ci := 12) (q0 := 0) rfl rfl
    refine va_calli (va_runV (As := []) (rest := []) ⟨hx, hb, hml, hown, hts⟩ (c_X12_fails l dC dI H.size h0 h0_f0 h0_1 h0_2 h0_3 h0_4 h0_5 h0_f6 h0_f7 h0_f8 h0_f9 x_29 h0_f12 h0_f13 h0_f14 h0_15 h0_16 h0_f17 h0_18 h0_19 h0_20 h0_21 h0_22 h0_23 h0_24 h0_25 h0_f26 h0_f27 h0_f28 h0_f29 h0_f30 h0_f31 h0_32 h0_33 h0_f34 h0_35 h0_36 h0_37 h0_38 h0_39 h0_40 h0_f41 h0_f42 h0_f43 h0_f44 h0_45 h0_46 h0_47 h0_48 h0_49 h0_50 h0_f51 h0_52 h0_f53 g_h0_f6 g_h0_f7 g_h0_f8 g_h0_f9 h_31 g_h0_f17 g_h0_f26 g_h0_f27 g_h0_f28 g_h0_f29 g_h0_f30 g_h0_f31 g_h0_f34 g_h0_f41 g_h0_f51 g_h0_f53) (cwV 0 hts gf_c_X12_readStep_7_c_X12_fails rfl rfl rfl mdV_X12_fails ⟨Nat.le_of_ble_eq_true rfl, Nat.le_of_ble_eq_true rfl⟩) ⟨fun a U g mk q => by obtain ⟨q0, q1, qP, qK, qD⟩ := q; exact ⟨q0, q1, qP, va_K.moved (u := U) (U := U.calling g mk a) (Vm.Alike.refl U.vm) qK, qD⟩, hrv, fun U hU hW => ⟨rfl, by rw [hU], by rw [hU]; exact hPc, va_K.moved hW.alike hKc, hDc.weaken (fun _ _ _ _ => trivial)⟩⟩ rfl rfl hl.1 rfl (lv_room (Nat.le_of_ble_eq_true rfl)) dX12_readStep_17 ⟨Nat.le_of_ble_eq_true rfl, Nat.le_of_ble_eq_true rfl⟩) hS (fun q _ h => hFc q h) hFc (fun r_47 u t H1 locs ht hvm hw hB hz1 hk1 hS => ?_)
    obtain ⟨hP1, hK1, hD1⟩ := hB
    rw [ht] at hP1
    obtain ⟨hP, hD⟩ := cl_put (w1 := (wd_c_X12_fails h0 h0_f0 h0_1 h0_2 h0_3 h0_4 h0_5 h0_f6 h0_f7 h0_f8 h0_f9 x_29 x_29 h0_f12 h0_f13 h0_f14 h0_15 h0_16 h0_f17 h0_18 h0_19 h0_20 h0_21 h0_22 h0_23 h0_24 h0_25 h0_f26 h0_f27 h0_f28 h0_f29 h0_f30 h0_f31 h0_32 h0_33 h0_f34 h0_35 h0_36 h0_37 h0_38 h0_39 h0_40 h0_f41 h0_f42 h0_f43 h0_f44 h0_45 h0_46 h0_47 h0_48 h0_49 h0_50 h0_f51 h0_52 h0_f53)) (nw := (wd_c_X12_readStep_7 h0 h0_f0 h0_1 h0_2 h0_3 h0_4 h0_5 h0_f6 h0_f7 h0_f8 h0_f9 x_29 x_29 h0_f12 h0_f13 h0_f14 h0_15 h0_16 h0_f17 h0_18 h0_19 h0_20 h0_21 h0_22 h0_23 h0_24 h0_25 h0_f26 h0_f27 h0_f28 h0_f29 h0_f30 h0_f31 h0_32 h0_33 h0_f34 h0_35 h0_36 h0_37 h0_38 h0_39 h0_40 h0_f41 h0_f42 h0_f43 h0_f44 h0_45 h0_46 h0_47 h0_48 h0_49 h0_50 h0_f51 h0_52 h0_f53 h0_5 h0_5k tN h0_5c h0_24 h0_24k h0_24c)) hP hD [0] [3, 1, 2] 3 rfl hqc (by decide +kernel) rfl hk1 hFc hP1 hD1
    generalize H1 = H at hP hS ⊢
    as_aux_lemma =>
    rcases hw with ⟨h_48, h_49⟩
    have h_49 : r_47 = _ := h_49
    replace hEX := hEX.trans (exc1_eq h_49)
    rw [h_48]
    refine lv_pop hx hb dX12_readStep_20 rfl ?_
    have hK9 := hK.sub (tys' := []) [] rfl
    exact W.vret hx hb hr (fun t ht hW => ⟨⟨(x_29, x_29, h0_24c), rfl, (Or.inr ⟨h_31, h_31, a_h0_24c, (by have := h_32; show h0_f10.toInt + 0 ≤ x_29.toInt; omega), (hR.trans hEX).symm⟩), by rw [ht]; exact hP, va_K.moved hW.alike hK9, hD⟩, hS.F ht⟩) hS.2.2 dX12_readStep_21
  · have h_42 : (r_28, x_29) = _ := h_42
    replace hEX := hEX.trans (exc2_eq h_42)
    replace hEX := hEX.trans (if_neg (RG_neq (x := r_28) (c := (-1)) (show RG r_28 0 255 from h_36) (by decide +kernel)))
    have nb_50 := h_41.2.resolve_left (fun q => by have g9 := h_36; rw [q] at g9; exact absurd g9.1 (by decide +kernel))
    obtain ⟨hPc, hDc, hFc, hqc⟩ := cl_cut (wc := []) hP hD hS hA [] (by decide +kernel) rfl
    have hKc := hK.sub (tys' := []) [] rfl
    refine va_calli (va_runS (As := [.ref ts11, .int r_28]) (rest := []) ⟨hx, hb, hml, hown, hts⟩ (c_X12_spotOf_7 l dC dI H.size ts11 r_28 tv11 h_36) (va_cwS 2 hts gf_c_X12_readStep_7_c_X12_spotOf_7 rfl rfl rfl md_X12_spotOf ⟨Nat.le_of_ble_eq_true rfl, Nat.le_of_ble_eq_true rfl⟩) ⟨fun a U g mk q => by obtain ⟨q0, q1, qP, qK, qD, qE0, qE1, qE2, qE3, qE4, qE5⟩ := q; exact ⟨q0, q1, qP, va_K.moved (u := U) (U := U.calling g mk a) (Vm.Alike.refl U.vm) qK, qD, va_OF.moved (u := U) (U := U.calling g mk a) (Vm.Alike.refl U.vm) qE0, va_T.moved (u := U) (U := U.calling g mk a) (Vm.Alike.refl U.vm) qE1, va_Z.moved (u := U) (U := U.calling g mk a) (Vm.Alike.refl U.vm) qE2, va_OF.moved (u := U) (U := U.calling g mk a) (Vm.Alike.refl U.vm) qE3, va_O.moved (u := U) (U := U.calling g mk a) (Vm.Alike.refl U.vm) qE4, va_Zq.moved (u := U) (U := U.calling g mk a) (Vm.Alike.refl U.vm) qE5⟩, fun U hU hW => ⟨rfl, by rw [hU], by rw [hU]; exact hPc, va_K.moved hW.alike hKc, hDc.weaken (fun _ _ _ _ => trivial), va_OF.moved hW.alike (by rw [hU]; exact (hE_70.kept hS.2.1).narrow hFc), va_T.moved hW.alike (by rw [hU]; exact (hE_71.kept hS.2.1).narrow hFc), va_Z.moved hW.alike (by rw [hU]; exact (hE_10.kept hS.2.1).narrow hFc), va_OF.moved hW.alike (by rw [hU]; exact (hE_69.kept hS.2.1).narrow hFc), va_O.moved hW.alike (by rw [hU]; exact (hE_68.kept hS.2.1).narrow hFc), va_Zq.moved hW.alike (by rw [hU]; exact (hE_11.kept hS.2.1).narrow hFc)⟩⟩ rfl rfl hl.1 rfl (lv_room (Nat.le_of_ble_eq_true rfl)) dX12_readStep_7 ⟨Nat.le_of_ble_eq_true rfl, Nat.le_of_ble_eq_true rfl⟩) hS (fun q _ h => hFc q h) hFc (fun r_51 u t H1 locs ht hvm hw hB hz1 hk1 hS => ?_)
    as_aux_lemma =>
    obtain ⟨hP1, hK1, hD1⟩ := hB
    rw [ht] at hP1
    have hP := bv_still hP hk1
    generalize H1 = H at hP hS ⊢
    as_aux_lemma =>
    rcases hw with ⟨h_52, h_53⟩ | ⟨h_54, h_55, h_56⟩ | ⟨h_57, h_58, h_59⟩ | ⟨h_60, h_61, h_62⟩ | ⟨h_63, h_64, h_65⟩
    · have h_53 : r_51 = _ := h_53
      replace hEX := hEX.trans (exc1_eq h_53)
      replace hEX := hEX.trans (if_pos (show r_51 = (-1) from h_52))
      rw [h_52]
      refine lv_istore_n (lv' := [(2, .int (-1)), (0, .ref h0), (1, .int p1)]) hx hb dX12_readStep_10 rfl hl (Nat.le_of_ble_eq_true rfl) rfl (fun ls hl => ?_)
      refine lv_iload_n hx hb dX12_readStep_11 rfl (lv_at hl 0 rfl) ?_
      refine lv_iconst (v := (-1)) hx hb dX12_readStep_12 kc_iconst_m1 ?_
      refine lv_icmp_ne (tgt := 22) hx hb dX12_readStep_13 rfl (fun c_66 => absurd c_66 (by decide +kernel)) (fun c_66 => ?_)
      refine lv_aload_n hx hb dX12_readStep_16 rfl (lv_at hl 1 rfl) ?_
      obtain ⟨hPc, hDc, hFc, hqc⟩ := cl_cut (wc := (wd_c_X12_fails h0 h0_f0 h0_1 h0_2 h0_3 h0_4 h0_5 h0_f6 h0_f7 h0_f8 h0_f9 x_29 (-1) h0_f12 h0_f13 h0_f14 h0_15 h0_16 h0_f17 h0_18 h0_19 h0_20 h0_21 h0_22 h0_23 h0_24 h0_25 h0_f26 h0_f27 h0_f28 h0_f29 h0_f30 h0_f31 h0_32 h0_33 h0_f34 h0_35 h0_36 h0_37 h0_38 h0_39 h0_40 h0_f41 h0_f42 h0_f43 h0_f44 h0_45 h0_46 h0_47 h0_48 h0_49 h0_50 h0_f51 h0_52 h0_f53)) hP hD hS hA [0] (by decide +kernel) rfl
      have hKc := hK.sub (tys' := []) [] rfl
      have hrv := va_recv hKc hPc (ci := 12) (q0 := 0) rfl rfl
      refine va_calli (va_runV (As := []) (rest := []) ⟨hx, hb, hml, hown, hts⟩ (c_X12_fails l dC dI H.size h0 h0_f0 h0_1 h0_2 h0_3 h0_4 h0_5 h0_f6 h0_f7 h0_f8 h0_f9 x_29 h0_f12 h0_f13 h0_f14 h0_15 h0_16 h0_f17 h0_18 h0_19 h0_20 h0_21 h0_22 h0_23 h0_24 h0_25 h0_f26 h0_f27 h0_f28 h0_f29 h0_f30 h0_f31 h0_32 h0_33 h0_f34 h0_35 h0_36 h0_37 h0_38 h0_39 h0_40 h0_f41 h0_f42 h0_f43 h0_f44 h0_45 h0_46 h0_47 h0_48 h0_49 h0_50 h0_f51 h0_52 h0_f53 g_h0_f6 g_h0_f7 g_h0_f8 (RG_w h_38 (by decide +kernel)) (RG_w h_37 (by decide +kernel)) g_h0_f17 g_h0_f26 g_h0_f27 g_h0_f28 g_h0_f29 g_h0_f30 g_h0_f31 g_h0_f34 g_h0_f41 g_h0_f51 g_h0_f53) (cwV 0 hts gf_c_X12_readStep_7_c_X12_fails rfl rfl rfl mdV_X12_fails ⟨Nat.le_of_ble_eq_true rfl, Nat.le_of_ble_eq_true rfl⟩) ⟨fun a U g mk q => by obtain ⟨q0, q1, qP, qK, qD⟩ := q; exact ⟨q0, q1, qP, va_K.moved (u := U) (U := U.calling g mk a) (Vm.Alike.refl U.vm) qK, qD⟩, hrv, fun U hU hW => ⟨rfl, by rw [hU], by rw [hU]; exact hPc, va_K.moved hW.alike hKc, hDc.weaken (fun _ _ _ _ => trivial)⟩⟩ rfl rfl hl.1 rfl (lv_room (Nat.le_of_ble_eq_true rfl)) dX12_readStep_17 ⟨Nat.le_of_ble_eq_true rfl, Nat.le_of_ble_eq_true rfl⟩) hS (fun q _ h => hFc q h) hFc (fun r_67 u t H1 locs ht hvm hw hB hz1 hk1 hS => ?_)
      as_aux_lemma =>
      obtain ⟨hP1, hK1, hD1⟩ := hB
      rw [ht] at hP1
      obtain ⟨hP, hD⟩ := cl_put (w1 := (wd_c_X12_fails h0 h0_f0 h0_1 h0_2 h0_3 h0_4 h0_5 h0_f6 h0_f7 h0_f8 h0_f9 x_29 x_29 h0_f12 h0_f13 h0_f14 h0_15 h0_16 h0_f17 h0_18 h0_19 h0_20 h0_21 h0_22 h0_23 h0_24 h0_25 h0_f26 h0_f27 h0_f28 h0_f29 h0_f30 h0_f31 h0_32 h0_33 h0_f34 h0_35 h0_36 h0_37 h0_38 h0_39 h0_40 h0_f41 h0_f42 h0_f43 h0_f44 h0_45 h0_46 h0_47 h0_48 h0_49 h0_50 h0_f51 h0_52 h0_f53)) (nw := (wd_c_X12_readStep_7 h0 h0_f0 h0_1 h0_2 h0_3 h0_4 h0_5 h0_f6 h0_f7 h0_f8 h0_f9 x_29 x_29 h0_f12 h0_f13 h0_f14 h0_15 h0_16 h0_f17 h0_18 h0_19 h0_20 h0_21 h0_22 h0_23 h0_24 h0_25 h0_f26 h0_f27 h0_f28 h0_f29 h0_f30 h0_f31 h0_32 h0_33 h0_f34 h0_35 h0_36 h0_37 h0_38 h0_39 h0_40 h0_f41 h0_f42 h0_f43 h0_f44 h0_45 h0_46 h0_47 h0_48 h0_49 h0_50 h0_f51 h0_52 h0_f53 h0_5 h0_5k tN h0_5c h0_24 h0_24k h0_24c)) hP hD [0] [3, 1, 2] 3 rfl hqc (by decide +kernel) rfl hk1 hFc hP1 hD1
      generalize H1 = H at hP hS ⊢
      as_aux_lemma =>
      rcases hw with ⟨h_68, h_69⟩
      have h_69 : r_67 = _ := h_69
      replace hEX := hEX.trans (exc1_eq h_69)
      rw [h_68]
      refine lv_pop hx hb dX12_readStep_20 rfl ?_
      have hK9 := hK.sub (tys' := []) [] rfl
      exact W.vret hx hb hr (fun t ht hW => ⟨⟨(x_29, x_29, h0_24c), rfl, (Or.inr ⟨(RG_w h_37 (by decide +kernel)), (RG_w h_37 (by decide +kernel)), a_h0_24c, (by have := h_39; show h0_f10.toInt + 0 ≤ x_29.toInt; omega), (hR.trans hEX).symm⟩), by rw [ht]; exact hP, va_K.moved hW.alike hK9, hD⟩, hS.F ht⟩) hS.2.2 dX12_readStep_21
    · have h_56 : r_51 = _ := h_56
      replace hEX := hEX.trans (exc1_eq h_56)
      replace hEX := hEX.trans (if_neg (fun q9 : r_51 = (-1) => absurd ((show r_51 = 3 from h_54).symm.trans q9) (by decide +kernel)))
      replace hEX := hEX.trans (if_pos (show r_51 = 3 from h_54))
      rw [h_54]
      refine lv_istore_n (lv' := [(2, .int 3), (0, .ref h0), (1, .int p1)]) hx hb dX12_readStep_10 rfl hl (Nat.le_of_ble_eq_true rfl) rfl (fun ls hl => ?_)
      refine lv_iload_n hx hb dX12_readStep_11 rfl (lv_at hl 0 rfl) ?_
      as_aux_lemma =>
      refine lv_iconst (v := (-1)) hx hb dX12_readStep_12 kc_iconst_m1 ?_
      refine lv_icmp_ne (tgt := 22) hx hb dX12_readStep_13 rfl (fun c_70 => ?_) (fun c_70 => absurd c_70 (by decide +kernel))
      refine lv_aload_n hx hb dX12_readStep_22 rfl (lv_at hl 1 rfl) ?_
      refine lv_dup hx hb dX12_readStep_23 rfl ?_
      refine va_get (D := (dC, dI)) (ci := 12) (v := .int x_29) (C := RX12) (T := TX12) (N := 54) hx hb hts iw_c_X12_readStep_7_X12 hown hK hP 0 rfl rfl 10 (by decide +kernel) (hts (.fieldLink RX12 134 "BuoyVoteModel" "at" "I") (List.mem_of_getElem? (i := 6) rfl)) (fun _ h9 => h9) rfl dX12_readStep_24 ?_
      refine lv_iconst (v := 1) hx hb dX12_readStep_27 kc_iconst_1 ?_
      refine lv_iadd hx hb dX12_readStep_28 ?_
      refine lv_topi (fun x_71 ex_71 => ?_)
      replace hEX := hEX.trans (exl_eq ex_71)
      have g_72 : RG x_71 1 240 := RG_add ex_71 h_37 (RG_k 1 1 rfl) (by decide +kernel)
      have q_73 : x_71.toInt = x_29.toInt + 1 := eq_add ex_71 h_37 (q := 1) rfl (by decide +kernel)
      refine va_put (D := (dC, dI)) (ci := 12) (v := .int x_71) (ty := .int) (C := RX12) (T := TX12) (N := 54) hx hb hts iw_c_X12_readStep_7_X12 tyX12 tyX12_ok nmX12 hown hK hP hD hS 0 rfl rfl 10 (by decide +kernel) (hts (.fieldLink RX12 134 "BuoyVoteModel" "at" "I") (List.mem_of_getElem? (i := 6) rfl)) (fun _ h9 => h9) rfl (by decide +kernel) rfl rfl (Nat.le_of_ble_eq_true rfl) dX12_readStep_29 (fun H locs hP hD hS => ?_)
      have hP : va_P (dC, dI) vwCl (wd_c_X12_readStep_7 h0 h0_f0 h0_1 h0_2 h0_3 h0_4 h0_5 h0_f6 h0_f7 h0_f8 h0_f9 x_71 (-1) h0_f12 h0_f13 h0_f14 h0_15 h0_16 h0_f17 h0_18 h0_19 h0_20 h0_21 h0_22 h0_23 h0_24 h0_25 h0_f26 h0_f27 h0_f28 h0_f29 h0_f30 h0_f31 h0_32 h0_33 h0_f34 h0_35 h0_36 h0_37 h0_38 h0_39 h0_40 h0_f41 h0_f42 h0_f43 h0_f44 h0_45 h0_46 h0_47 h0_48 h0_49 h0_50 h0_f51 h0_52 h0_f53 h0_5 h0_5k tN h0_5c h0_24 h0_24k h0_24c) H := hP
      have hD : va_D A (wd_c_X12_readStep_7 h0 h0_f0 h0_1 h0_2 h0_3 h0_4 h0_5 h0_f6 h0_f7 h0_f8 h0_f9 x_71 (-1) h0_f12 h0_f13 h0_f14 h0_15 h0_16 h0_f17 h0_18 h0_19 h0_20 h0_21 h0_22 h0_23 h0_24 h0_25 h0_f26 h0_f27 h0_f28 h0_f29 h0_f30 h0_f31 h0_32 h0_33 h0_f34 h0_35 h0_36 h0_37 h0_38 h0_39 h0_40 h0_f41 h0_f42 h0_f43 h0_f44 h0_45 h0_46 h0_47 h0_48 h0_49 h0_50 h0_f51 h0_52 h0_f53 h0_5 h0_5k tN h0_5c h0_24 h0_24k h0_24c) := hD
      refine lv_aload_n hx hb dX12_readStep_32 rfl (lv_at hl 1 rfl) ?_
      as_aux_lemma =>
      refine va_get (D := (dC, dI)) (ci := 12) (v := .ref h0_24) (C := RX12) (T := TX12) (N := 54) hx hb hts iw_c_X12_readStep_7_X12 hown hK hP 0 rfl rfl 24 (by decide +kernel) (hts (.fieldLink RX12 55 "BuoyVoteModel" "plan" "[I") (List.mem_of_getElem? (i := 50) rfl)) (fun _ h9 => h9) rfl dX12_readStep_33 ?_
      refine lv_iload_n hx hb dX12_readStep_36 rfl (lv_at hl 2 rfl) ?_
      refine lv_iload_n hx hb dX12_readStep_37 rfl (lv_at hl 0 rfl) ?_
      refine va_iast hx hb hK hP hD hS 2 1 rfl rfl (RG_in g_p1 (by decide +kernel)) dX12_readStep_38 (fun H locs hP hD hS => ?_)
      have hP : va_P (dC, dI) vwCl (wd_c_X12_readStep_7 h0 h0_f0 h0_1 h0_2 h0_3 h0_4 h0_5 h0_f6 h0_f7 h0_f8 h0_f9 x_71 (-1) h0_f12 h0_f13 h0_f14 h0_15 h0_16 h0_f17 h0_18 h0_19 h0_20 h0_21 h0_22 h0_23 h0_24 h0_25 h0_f26 h0_f27 h0_f28 h0_f29 h0_f30 h0_f31 h0_32 h0_33 h0_f34 h0_35 h0_36 h0_37 h0_38 h0_39 h0_40 h0_f41 h0_f42 h0_f43 h0_f44 h0_45 h0_46 h0_47 h0_48 h0_49 h0_50 h0_f51 h0_52 h0_f53 h0_5 h0_5k tN h0_5c h0_24 h0_24k (upd h0_24c (p1 : Int32).toNatClampNeg 3)) H := hP
      have hD : va_D A (wd_c_X12_readStep_7 h0 h0_f0 h0_1 h0_2 h0_3 h0_4 h0_5 h0_f6 h0_f7 h0_f8 h0_f9 x_71 (-1) h0_f12 h0_f13 h0_f14 h0_15 h0_16 h0_f17 h0_18 h0_19 h0_20 h0_21 h0_22 h0_23 h0_24 h0_25 h0_f26 h0_f27 h0_f28 h0_f29 h0_f30 h0_f31 h0_32 h0_33 h0_f34 h0_35 h0_36 h0_37 h0_38 h0_39 h0_40 h0_f41 h0_f42 h0_f43 h0_f44 h0_45 h0_46 h0_47 h0_48 h0_49 h0_50 h0_f51 h0_52 h0_f53 h0_5 h0_5k tN h0_5c h0_24 h0_24k (upd h0_24c (p1 : Int32).toNatClampNeg 3)) := hD
      have l_75 : (upd h0_24c (p1 : Int32).toNatClampNeg 3) (p1 : Int32).toNatClampNeg = 3 := pk_us
      have a_76 : AI (upd h0_24c (p1 : Int32).toNatClampNeg 3) (-1) 9 := AI_up a_h0_24c (RG_k 3 3 rfl) (by decide +kernel)
      generalize huw_74 : (upd h0_24c (p1 : Int32).toNatClampNeg 3) = w_74 at hP hD a_76 l_75
      replace hEX := hEX.trans (exl_eq huw_74.symm)
      have hP : va_P (dC, dI) vwCl (wd_c_X12_readStep_7 h0 h0_f0 h0_1 h0_2 h0_3 h0_4 h0_5 h0_f6 h0_f7 h0_f8 h0_f9 x_71 (-1) h0_f12 h0_f13 h0_f14 h0_15 h0_16 h0_f17 h0_18 h0_19 h0_20 h0_21 h0_22 h0_23 h0_24 h0_25 h0_f26 h0_f27 h0_f28 h0_f29 h0_f30 h0_f31 h0_32 h0_33 h0_f34 h0_35 h0_36 h0_37 h0_38 h0_39 h0_40 h0_f41 h0_f42 h0_f43 h0_f44 h0_45 h0_46 h0_47 h0_48 h0_49 h0_50 h0_f51 h0_52 h0_f53 h0_5 h0_5k tN h0_5c h0_24 h0_24k w_74) H := hP
      have hD : va_D A (wd_c_X12_readStep_7 h0 h0_f0 h0_1 h0_2 h0_3 h0_4 h0_5 h0_f6 h0_f7 h0_f8 h0_f9 x_71 (-1) h0_f12 h0_f13 h0_f14 h0_15 h0_16 h0_f17 h0_18 h0_19 h0_20 h0_21 h0_22 h0_23 h0_24 h0_25 h0_f26 h0_f27 h0_f28 h0_f29 h0_f30 h0_f31 h0_32 h0_33 h0_f34 h0_35 h0_36 h0_37 h0_38 h0_39 h0_40 h0_f41 h0_f42 h0_f43 h0_f44 h0_45 h0_46 h0_47 h0_48 h0_49 h0_50 h0_f51 h0_52 h0_f53 h0_5 h0_5k tN h0_5c h0_24 h0_24k w_74) := hD
      refine lv_aload_n hx hb dX12_readStep_39 rfl (lv_at hl 1 rfl) ?_
      refine va_get (D := (dC, dI)) (ci := 12) (v := .ref h0_24) (C := RX12) (T := TX12) (N := 54) hx hb hts iw_c_X12_readStep_7_X12 hown hK hP 0 rfl rfl 24 (by decide +kernel) (hts (.fieldLink RX12 55 "BuoyVoteModel" "plan" "[I") (List.mem_of_getElem? (i := 50) rfl)) (fun _ h9 => h9) rfl dX12_readStep_40 ?_
      as_aux_lemma =>
      refine lv_iload_n hx hb dX12_readStep_43 rfl (lv_at hl 2 rfl) ?_
      refine lv_iconst (v := 1) hx hb dX12_readStep_44 kc_iconst_1 ?_
      refine lv_iadd hx hb dX12_readStep_45 ?_
      refine lv_topi (fun x_77 ex_77 => ?_)
      replace hEX := hEX.trans (exl_eq ex_77)
      have g_78 : RG x_77 257 317 := RG_add ex_77 g_p1 (RG_k 1 1 rfl) (by decide +kernel)
      refine lv_aload_n hx hb dX12_readStep_46 rfl (lv_at hl 1 rfl) ?_
      obtain ⟨hPc, hDc, hFc, hqc⟩ := cl_cut (wc := (wd_c_X12_digit h0 h0_f0 h0_1 h0_2 h0_3 h0_4 h0_5 h0_f6 h0_f7 h0_f8 h0_f9 x_71 (-1) h0_f12 h0_f13 h0_f14 h0_15 h0_16 h0_f17 h0_18 h0_19 h0_20 h0_21 h0_22 h0_23 h0_24 h0_25 h0_f26 h0_f27 h0_f28 h0_f29 h0_f30 h0_f31 h0_32 h0_33 h0_f34 h0_35 h0_36 h0_37 h0_38 h0_39 h0_40 h0_f41 h0_f42 h0_f43 h0_f44 h0_45 h0_46 h0_47 h0_48 h0_49 h0_50 h0_f51 h0_52 h0_f53 h0_5 h0_5k tN h0_5c)) hP hD hS hA [0, 1] (by decide +kernel) rfl
      have hKc := hK.sub (tys' := [(h0_5k, .byte)]) [0] rfl
      have hrv := va_recv hKc hPc (ci := 12) (q0 := 0) rfl rfl
      refine va_calli (va_runV (As := []) (rest := [.int x_77, .ref h0_24]) ⟨hx, hb, hml, hown, hts⟩ (c_X12_digit l dC dI H.size h0 h0_f0 h0_1 h0_2 h0_3 h0_4 h0_5 h0_f6 h0_f7 h0_f8 h0_f9 x_71 h0_f12 h0_f13 h0_f14 h0_15 h0_16 h0_f17 h0_18 h0_19 h0_20 h0_21 h0_22 h0_23 h0_24 h0_25 h0_f26 h0_f27 h0_f28 h0_f29 h0_f30 h0_f31 h0_32 h0_33 h0_f34 h0_35 h0_36 h0_37 h0_38 h0_39 h0_40 h0_f41 h0_f42 h0_f43 h0_f44 h0_45 h0_46 h0_47 h0_48 h0_49 h0_50 h0_f51 h0_52 h0_f53 h0_5k h0_5c tN g_h0_f6 g_h0_f7 g_h0_f8 (RG_w h_38 (by decide +kernel)) (RG_w g_72 (by decide +kernel)) g_h0_f17 g_h0_f26 g_h0_f27 g_h0_f28 g_h0_f29 g_h0_f30 g_h0_f31 g_h0_f34 g_h0_f41 g_h0_f51 g_h0_f53 htN) (cwV 0 hts gf_c_X12_readStep_7_c_X12_digit rfl rfl rfl mdV_X12_digit ⟨Nat.le_of_ble_eq_true rfl, Nat.le_of_ble_eq_true rfl⟩) ⟨fun a U g mk q => by obtain ⟨q0, q1, qP, qK, qD⟩ := q; exact ⟨q0, q1, qP, va_K.moved (u := U) (U := U.calling g mk a) (Vm.Alike.refl U.vm) qK, qD⟩, hrv, fun U hU hW => ⟨rfl, by rw [hU], by rw [hU]; exact hPc, va_K.moved hW.alike hKc, hDc.weaken (fun _ _ _ _ => trivial)⟩⟩ rfl rfl hl.1 rfl (lv_room (Nat.le_of_ble_eq_true rfl)) dX12_readStep_47 ⟨Nat.le_of_ble_eq_true rfl, Nat.le_of_ble_eq_true rfl⟩) hS (fun q _ h => hFc q h) hFc (fun r_79 u t H1 locs ht hvm hw hB hz1 hk1 hS => ?_)
      obtain ⟨x_80, x_81⟩ := u
      obtain ⟨hP1, hK1, hD1⟩ := hB
      rw [ht] at hP1
      obtain ⟨hP, hD⟩ := cl_put (w1 := (wd_c_X12_digit h0 h0_f0 h0_1 h0_2 h0_3 h0_4 h0_5 h0_f6 h0_f7 h0_f8 h0_f9 x_80 x_81 h0_f12 h0_f13 h0_f14 h0_15 h0_16 h0_f17 h0_18 h0_19 h0_20 h0_21 h0_22 h0_23 h0_24 h0_25 h0_f26 h0_f27 h0_f28 h0_f29 h0_f30 h0_f31 h0_32 h0_33 h0_f34 h0_35 h0_36 h0_37 h0_38 h0_39 h0_40 h0_f41 h0_f42 h0_f43 h0_f44 h0_45 h0_46 h0_47 h0_48 h0_49 h0_50 h0_f51 h0_52 h0_f53 h0_5 h0_5k tN h0_5c)) (nw := (wd_c_X12_readStep_7 h0 h0_f0 h0_1 h0_2 h0_3 h0_4 h0_5 h0_f6 h0_f7 h0_f8 h0_f9 x_80 x_81 h0_f12 h0_f13 h0_f14 h0_15 h0_16 h0_f17 h0_18 h0_19 h0_20 h0_21 h0_22 h0_23 h0_24 h0_25 h0_f26 h0_f27 h0_f28 h0_f29 h0_f30 h0_f31 h0_32 h0_33 h0_f34 h0_35 h0_36 h0_37 h0_38 h0_39 h0_40 h0_f41 h0_f42 h0_f43 h0_f44 h0_45 h0_46 h0_47 h0_48 h0_49 h0_50 h0_f51 h0_52 h0_f53 h0_5 h0_5k tN h0_5c h0_24 h0_24k w_74)) hP hD [0, 1] [3, 4, 2] 3 rfl hqc (by decide +kernel) rfl hk1 hFc hP1 hD1
      generalize H1 = H at hP hS ⊢
      as_aux_lemma =>
      rcases hw with ⟨h_82, h_83, h_84, h_85, h_86, h_87⟩ | ⟨h_88, h_89, h_90, h_91, h_92⟩
      · have h_87 : (r_79, x_80, x_81) = _ := h_87
        replace hEX := hEX.trans (exc3_eq h_87)
        replace hEX := hEX.trans (if_pos (show x_81 = (-1) from h_84))
        subst h_84
        have h_86 : x_71.toInt + 1 ≤ x_80.toInt := h_86
        refine va_iast hx hb hK hP hD hS 2 1 rfl rfl (RG_in g_78 (by decide +kernel)) dX12_readStep_50 (fun H locs hP hD hS => ?_)
        have hP : va_P (dC, dI) vwCl (wd_c_X12_readStep_7 h0 h0_f0 h0_1 h0_2 h0_3 h0_4 h0_5 h0_f6 h0_f7 h0_f8 h0_f9 x_80 (-1) h0_f12 h0_f13 h0_f14 h0_15 h0_16 h0_f17 h0_18 h0_19 h0_20 h0_21 h0_22 h0_23 h0_24 h0_25 h0_f26 h0_f27 h0_f28 h0_f29 h0_f30 h0_f31 h0_32 h0_33 h0_f34 h0_35 h0_36 h0_37 h0_38 h0_39 h0_40 h0_f41 h0_f42 h0_f43 h0_f44 h0_45 h0_46 h0_47 h0_48 h0_49 h0_50 h0_f51 h0_52 h0_f53 h0_5 h0_5k tN h0_5c h0_24 h0_24k (upd w_74 (x_77 : Int32).toNatClampNeg r_79)) H := hP
        have hD : va_D A (wd_c_X12_readStep_7 h0 h0_f0 h0_1 h0_2 h0_3 h0_4 h0_5 h0_f6 h0_f7 h0_f8 h0_f9 x_80 (-1) h0_f12 h0_f13 h0_f14 h0_15 h0_16 h0_f17 h0_18 h0_19 h0_20 h0_21 h0_22 h0_23 h0_24 h0_25 h0_f26 h0_f27 h0_f28 h0_f29 h0_f30 h0_f31 h0_32 h0_33 h0_f34 h0_35 h0_36 h0_37 h0_38 h0_39 h0_40 h0_f41 h0_f42 h0_f43 h0_f44 h0_45 h0_46 h0_47 h0_48 h0_49 h0_50 h0_f51 h0_52 h0_f53 h0_5 h0_5k tN h0_5c h0_24 h0_24k (upd w_74 (x_77 : Int32).toNatClampNeg r_79)) := hD
        have l_94 : (upd w_74 (x_77 : Int32).toNatClampNeg r_79) (x_77 : Int32).toNatClampNeg = r_79 := pk_us
        have a_95 : AI (upd w_74 (x_77 : Int32).toNatClampNeg r_79) (-1) 9 := AI_up a_76 h_82 (by decide +kernel)
        generalize huw_93 : (upd w_74 (x_77 : Int32).toNatClampNeg r_79) = w_93 at hP hD a_95 l_94
        replace hEX := hEX.trans (exl_eq huw_93.symm)
        have hP : va_P (dC, dI) vwCl (wd_c_X12_readStep_7 h0 h0_f0 h0_1 h0_2 h0_3 h0_4 h0_5 h0_f6 h0_f7 h0_f8 h0_f9 x_80 (-1) h0_f12 h0_f13 h0_f14 h0_15 h0_16 h0_f17 h0_18 h0_19 h0_20 h0_21 h0_22 h0_23 h0_24 h0_25 h0_f26 h0_f27 h0_f28 h0_f29 h0_f30 h0_f31 h0_32 h0_33 h0_f34 h0_35 h0_36 h0_37 h0_38 h0_39 h0_40 h0_f41 h0_f42 h0_f43 h0_f44 h0_45 h0_46 h0_47 h0_48 h0_49 h0_50 h0_f51 h0_52 h0_f53 h0_5 h0_5k tN h0_5c h0_24 h0_24k w_93) H := hP
        have hD : va_D A (wd_c_X12_readStep_7 h0 h0_f0 h0_1 h0_2 h0_3 h0_4 h0_5 h0_f6 h0_f7 h0_f8 h0_f9 x_80 (-1) h0_f12 h0_f13 h0_f14 h0_15 h0_16 h0_f17 h0_18 h0_19 h0_20 h0_21 h0_22 h0_23 h0_24 h0_25 h0_f26 h0_f27 h0_f28 h0_f29 h0_f30 h0_f31 h0_32 h0_33 h0_f34 h0_35 h0_36 h0_37 h0_38 h0_39 h0_40 h0_f41 h0_f42 h0_f43 h0_f44 h0_45 h0_46 h0_47 h0_48 h0_49 h0_50 h0_f51 h0_52 h0_f53 h0_5 h0_5k tN h0_5c h0_24 h0_24k w_93) := hD
        refine lv_aload_n hx hb dX12_readStep_51 rfl (lv_at hl 1 rfl) ?_
        as_aux_lemma =>
        refine va_get (D := (dC, dI)) (ci := 12) (v := .ref h0_24) (C := RX12) (T := TX12) (N := 54) hx hb hts iw_c_X12_readStep_7_X12 hown hK hP 0 rfl rfl 24 (by decide +kernel) (hts (.fieldLink RX12 55 "BuoyVoteModel" "plan" "[I") (List.mem_of_getElem? (i := 50) rfl)) (fun _ h9 => h9) rfl dX12_readStep_52 ?_
        refine lv_iload_n hx hb dX12_readStep_55 rfl (lv_at hl 2 rfl) ?_
        refine lv_iconst (v := 2) hx hb dX12_readStep_56 kc_iconst_2 ?_
        refine lv_iadd hx hb dX12_readStep_57 ?_
        refine lv_topi (fun x_96 ex_96 => ?_)
        replace hEX := hEX.trans (exl_eq ex_96)
        have g_97 : RG x_96 258 318 := RG_add ex_96 g_p1 (RG_k 2 2 rfl) (by decide +kernel)
        refine lv_iconst (v := (-1)) hx hb dX12_readStep_58 kc_iconst_m1 ?_
        refine va_iast hx hb hK hP hD hS 2 1 rfl rfl (RG_in g_97 (by decide +kernel)) dX12_readStep_59 (fun H locs hP hD hS => ?_)
        have hP : va_P (dC, dI) vwCl (wd_c_X12_readStep_7 h0 h0_f0 h0_1 h0_2 h0_3 h0_4 h0_5 h0_f6 h0_f7 h0_f8 h0_f9 x_80 (-1) h0_f12 h0_f13 h0_f14 h0_15 h0_16 h0_f17 h0_18 h0_19 h0_20 h0_21 h0_22 h0_23 h0_24 h0_25 h0_f26 h0_f27 h0_f28 h0_f29 h0_f30 h0_f31 h0_32 h0_33 h0_f34 h0_35 h0_36 h0_37 h0_38 h0_39 h0_40 h0_f41 h0_f42 h0_f43 h0_f44 h0_45 h0_46 h0_47 h0_48 h0_49 h0_50 h0_f51 h0_52 h0_f53 h0_5 h0_5k tN h0_5c h0_24 h0_24k (upd w_93 (x_96 : Int32).toNatClampNeg (-1))) H := hP
        have hD : va_D A (wd_c_X12_readStep_7 h0 h0_f0 h0_1 h0_2 h0_3 h0_4 h0_5 h0_f6 h0_f7 h0_f8 h0_f9 x_80 (-1) h0_f12 h0_f13 h0_f14 h0_15 h0_16 h0_f17 h0_18 h0_19 h0_20 h0_21 h0_22 h0_23 h0_24 h0_25 h0_f26 h0_f27 h0_f28 h0_f29 h0_f30 h0_f31 h0_32 h0_33 h0_f34 h0_35 h0_36 h0_37 h0_38 h0_39 h0_40 h0_f41 h0_f42 h0_f43 h0_f44 h0_45 h0_46 h0_47 h0_48 h0_49 h0_50 h0_f51 h0_52 h0_f53 h0_5 h0_5k tN h0_5c h0_24 h0_24k (upd w_93 (x_96 : Int32).toNatClampNeg (-1))) := hD
        have l_99 : (upd w_93 (x_96 : Int32).toNatClampNeg (-1)) (x_96 : Int32).toNatClampNeg = (-1) := pk_us
        have a_100 : AI (upd w_93 (x_96 : Int32).toNatClampNeg (-1)) (-1) 9 := AI_up a_95 (RG_k (-1) (-1) rfl) (by decide +kernel)
        generalize huw_98 : (upd w_93 (x_96 : Int32).toNatClampNeg (-1)) = w_98 at hP hD a_100 l_99
        replace hEX := hEX.trans (exl_eq huw_98.symm)
        have hP : va_P (dC, dI) vwCl (wd_c_X12_readStep_7 h0 h0_f0 h0_1 h0_2 h0_3 h0_4 h0_5 h0_f6 h0_f7 h0_f8 h0_f9 x_80 (-1) h0_f12 h0_f13 h0_f14 h0_15 h0_16 h0_f17 h0_18 h0_19 h0_20 h0_21 h0_22 h0_23 h0_24 h0_25 h0_f26 h0_f27 h0_f28 h0_f29 h0_f30 h0_f31 h0_32 h0_33 h0_f34 h0_35 h0_36 h0_37 h0_38 h0_39 h0_40 h0_f41 h0_f42 h0_f43 h0_f44 h0_45 h0_46 h0_47 h0_48 h0_49 h0_50 h0_f51 h0_52 h0_f53 h0_5 h0_5k tN h0_5c h0_24 h0_24k w_98) H := hP
        have hD : va_D A (wd_c_X12_readStep_7 h0 h0_f0 h0_1 h0_2 h0_3 h0_4 h0_5 h0_f6 h0_f7 h0_f8 h0_f9 x_80 (-1) h0_f12 h0_f13 h0_f14 h0_15 h0_16 h0_f17 h0_18 h0_19 h0_20 h0_21 h0_22 h0_23 h0_24 h0_25 h0_f26 h0_f27 h0_f28 h0_f29 h0_f30 h0_f31 h0_32 h0_33 h0_f34 h0_35 h0_36 h0_37 h0_38 h0_39 h0_40 h0_f41 h0_f42 h0_f43 h0_f44 h0_45 h0_46 h0_47 h0_48 h0_49 h0_50 h0_f51 h0_52 h0_f53 h0_5 h0_5k tN h0_5c h0_24 h0_24k w_98) := hD
        refine lv_aload_n hx hb dX12_readStep_60 rfl (lv_at hl 1 rfl) ?_
        as_aux_lemma =>
        refine va_get (D := (dC, dI)) (ci := 12) (v := .ref h0_24) (C := RX12) (T := TX12) (N := 54) hx hb hts iw_c_X12_readStep_7_X12 hown hK hP 0 rfl rfl 24 (by decide +kernel) (hts (.fieldLink RX12 55 "BuoyVoteModel" "plan" "[I") (List.mem_of_getElem? (i := 50) rfl)) (fun _ h9 => h9) rfl dX12_readStep_61 ?_
        refine lv_iload_n hx hb dX12_readStep_64 rfl (lv_at hl 2 rfl) ?_
        refine lv_iconst (v := 3) hx hb dX12_readStep_65 kc_iconst_3 ?_
        refine lv_iadd hx hb dX12_readStep_66 ?_
        refine lv_topi (fun x_101 ex_101 => ?_)
        replace hEX := hEX.trans (exl_eq ex_101)
        have g_102 : RG x_101 259 319 := RG_add ex_101 g_p1 (RG_k 3 3 rfl) (by decide +kernel)
        refine lv_iconst (v := (-1)) hx hb dX12_readStep_67 kc_iconst_m1 ?_
        refine va_iast hx hb hK hP hD hS 2 1 rfl rfl (RG_in g_102 (by decide +kernel)) dX12_readStep_68 (fun H locs hP hD hS => ?_)
        have hP : va_P (dC, dI) vwCl (wd_c_X12_readStep_7 h0 h0_f0 h0_1 h0_2 h0_3 h0_4 h0_5 h0_f6 h0_f7 h0_f8 h0_f9 x_80 (-1) h0_f12 h0_f13 h0_f14 h0_15 h0_16 h0_f17 h0_18 h0_19 h0_20 h0_21 h0_22 h0_23 h0_24 h0_25 h0_f26 h0_f27 h0_f28 h0_f29 h0_f30 h0_f31 h0_32 h0_33 h0_f34 h0_35 h0_36 h0_37 h0_38 h0_39 h0_40 h0_f41 h0_f42 h0_f43 h0_f44 h0_45 h0_46 h0_47 h0_48 h0_49 h0_50 h0_f51 h0_52 h0_f53 h0_5 h0_5k tN h0_5c h0_24 h0_24k (upd w_98 (x_101 : Int32).toNatClampNeg (-1))) H := hP
        have hD : va_D A (wd_c_X12_readStep_7 h0 h0_f0 h0_1 h0_2 h0_3 h0_4 h0_5 h0_f6 h0_f7 h0_f8 h0_f9 x_80 (-1) h0_f12 h0_f13 h0_f14 h0_15 h0_16 h0_f17 h0_18 h0_19 h0_20 h0_21 h0_22 h0_23 h0_24 h0_25 h0_f26 h0_f27 h0_f28 h0_f29 h0_f30 h0_f31 h0_32 h0_33 h0_f34 h0_35 h0_36 h0_37 h0_38 h0_39 h0_40 h0_f41 h0_f42 h0_f43 h0_f44 h0_45 h0_46 h0_47 h0_48 h0_49 h0_50 h0_f51 h0_52 h0_f53 h0_5 h0_5k tN h0_5c h0_24 h0_24k (upd w_98 (x_101 : Int32).toNatClampNeg (-1))) := hD
        have l_104 : (upd w_98 (x_101 : Int32).toNatClampNeg (-1)) (x_101 : Int32).toNatClampNeg = (-1) := pk_us
        have a_105 : AI (upd w_98 (x_101 : Int32).toNatClampNeg (-1)) (-1) 9 := AI_up a_100 (RG_k (-1) (-1) rfl) (by decide +kernel)
        generalize huw_103 : (upd w_98 (x_101 : Int32).toNatClampNeg (-1)) = w_103 at hP hD a_105 l_104
        replace hEX := hEX.trans (exl_eq huw_103.symm)
        have hP : va_P (dC, dI) vwCl (wd_c_X12_readStep_7 h0 h0_f0 h0_1 h0_2 h0_3 h0_4 h0_5 h0_f6 h0_f7 h0_f8 h0_f9 x_80 (-1) h0_f12 h0_f13 h0_f14 h0_15 h0_16 h0_f17 h0_18 h0_19 h0_20 h0_21 h0_22 h0_23 h0_24 h0_25 h0_f26 h0_f27 h0_f28 h0_f29 h0_f30 h0_f31 h0_32 h0_33 h0_f34 h0_35 h0_36 h0_37 h0_38 h0_39 h0_40 h0_f41 h0_f42 h0_f43 h0_f44 h0_45 h0_46 h0_47 h0_48 h0_49 h0_50 h0_f51 h0_52 h0_f53 h0_5 h0_5k tN h0_5c h0_24 h0_24k w_103) H := hP
        have hD : va_D A (wd_c_X12_readStep_7 h0 h0_f0 h0_1 h0_2 h0_3 h0_4 h0_5 h0_f6 h0_f7 h0_f8 h0_f9 x_80 (-1) h0_f12 h0_f13 h0_f14 h0_15 h0_16 h0_f17 h0_18 h0_19 h0_20 h0_21 h0_22 h0_23 h0_24 h0_25 h0_f26 h0_f27 h0_f28 h0_f29 h0_f30 h0_f31 h0_32 h0_33 h0_f34 h0_35 h0_36 h0_37 h0_38 h0_39 h0_40 h0_f41 h0_f42 h0_f43 h0_f44 h0_45 h0_46 h0_47 h0_48 h0_49 h0_50 h0_f51 h0_52 h0_f53 h0_5 h0_5k tN h0_5c h0_24 h0_24k w_103) := hD
        refine lv_aload_n hx hb dX12_readStep_69 rfl (lv_at hl 1 rfl) ?_
        as_aux_lemma =>
        refine va_get (D := (dC, dI)) (ci := 12) (v := .int (-1)) (C := RX12) (T := TX12) (N := 54) hx hb hts iw_c_X12_readStep_7_X12 hown hK hP 0 rfl rfl 11 (by decide +kernel) (hts (.fieldLink RX12 143 "BuoyVoteModel" "fault" "I") (List.mem_of_getElem? (i := 49) rfl)) (fun _ h9 => h9) rfl dX12_readStep_70 ?_
        refine lv_iconst (v := (-1)) hx hb dX12_readStep_73 kc_iconst_m1 ?_
        refine lv_icmp_ne (tgt := 94) hx hb dX12_readStep_74 rfl (fun c_106 => absurd c_106 (by decide +kernel)) (fun c_106 => ?_)
        refine lv_iload_n hx hb dX12_readStep_77 rfl (lv_at hl 0 rfl) ?_
        refine lv_iconst (v := 3) hx hb dX12_readStep_78 kc_iconst_3 ?_
        refine lv_icmp_ge (tgt := 94) hx hb dX12_readStep_79 rfl (fun c_107 => ?_) (fun c_107 => absurd c_107 (by decide +kernel))
        exact hU _ _ _ (J94 3 x_80 w_103 g_h0_f10 g_h0_f17 g_h0_f26 g_h0_f27 g_h0_f28 g_h0_f29 g_h0_f30 g_h0_f31 g_h0_f34 g_h0_f41 g_h0_f51 g_h0_f53 g_h0_f6 g_h0_f7 g_h0_f8 h_38 h_83 (RG_w (RG_k 3 3 rfl) (by decide +kernel)) g_p1 a_105 (by have := h_39; have := q_73; have := h_86; omega) hEX _ _ _ hP hD hS (lv_sub hl [0, 1, 2] rfl))
      · have h_92 : (r_79, x_80, x_81) = _ := h_92
        replace hEX := hEX.trans (exc3_eq h_92)
        replace hEX := hEX.trans (if_neg (RG_neq (x := x_81) (c := (-1)) (show RG x_81 0 240 from h_90) (by decide +kernel)))
        rw [h_88]
        have h_91 : x_71.toInt + 0 ≤ x_80.toInt := h_91
        refine va_iast hx hb hK hP hD hS 2 1 rfl rfl (RG_in g_78 (by decide +kernel)) dX12_readStep_50 (fun H locs hP hD hS => ?_)
        have hP : va_P (dC, dI) vwCl (wd_c_X12_readStep_7 h0 h0_f0 h0_1 h0_2 h0_3 h0_4 h0_5 h0_f6 h0_f7 h0_f8 h0_f9 x_80 x_81 h0_f12 h0_f13 h0_f14 h0_15 h0_16 h0_f17 h0_18 h0_19 h0_20 h0_21 h0_22 h0_23 h0_24 h0_25 h0_f26 h0_f27 h0_f28 h0_f29 h0_f30 h0_f31 h0_32 h0_33 h0_f34 h0_35 h0_36 h0_37 h0_38 h0_39 h0_40 h0_f41 h0_f42 h0_f43 h0_f44 h0_45 h0_46 h0_47 h0_48 h0_49 h0_50 h0_f51 h0_52 h0_f53 h0_5 h0_5k tN h0_5c h0_24 h0_24k (upd w_74 (x_77 : Int32).toNatClampNeg 0)) H := hP
        have hD : va_D A (wd_c_X12_readStep_7 h0 h0_f0 h0_1 h0_2 h0_3 h0_4 h0_5 h0_f6 h0_f7 h0_f8 h0_f9 x_80 x_81 h0_f12 h0_f13 h0_f14 h0_15 h0_16 h0_f17 h0_18 h0_19 h0_20 h0_21 h0_22 h0_23 h0_24 h0_25 h0_f26 h0_f27 h0_f28 h0_f29 h0_f30 h0_f31 h0_32 h0_33 h0_f34 h0_35 h0_36 h0_37 h0_38 h0_39 h0_40 h0_f41 h0_f42 h0_f43 h0_f44 h0_45 h0_46 h0_47 h0_48 h0_49 h0_50 h0_f51 h0_52 h0_f53 h0_5 h0_5k tN h0_5c h0_24 h0_24k (upd w_74 (x_77 : Int32).toNatClampNeg 0)) := hD
        have l_109 : (upd w_74 (x_77 : Int32).toNatClampNeg 0) (x_77 : Int32).toNatClampNeg = 0 := pk_us
        have a_110 : AI (upd w_74 (x_77 : Int32).toNatClampNeg 0) (-1) 9 := AI_up a_76 (RG_k 0 0 rfl) (by decide +kernel)
        generalize huw_108 : (upd w_74 (x_77 : Int32).toNatClampNeg 0) = w_108 at hP hD a_110 l_109
        replace hEX := hEX.trans (exl_eq huw_108.symm)
        have hP : va_P (dC, dI) vwCl (wd_c_X12_readStep_7 h0 h0_f0 h0_1 h0_2 h0_3 h0_4 h0_5 h0_f6 h0_f7 h0_f8 h0_f9 x_80 x_81 h0_f12 h0_f13 h0_f14 h0_15 h0_16 h0_f17 h0_18 h0_19 h0_20 h0_21 h0_22 h0_23 h0_24 h0_25 h0_f26 h0_f27 h0_f28 h0_f29 h0_f30 h0_f31 h0_32 h0_33 h0_f34 h0_35 h0_36 h0_37 h0_38 h0_39 h0_40 h0_f41 h0_f42 h0_f43 h0_f44 h0_45 h0_46 h0_47 h0_48 h0_49 h0_50 h0_f51 h0_52 h0_f53 h0_5 h0_5k tN h0_5c h0_24 h0_24k w_108) H := hP
        have hD : va_D A (wd_c_X12_readStep_7 h0 h0_f0 h0_1 h0_2 h0_3 h0_4 h0_5 h0_f6 h0_f7 h0_f8 h0_f9 x_80 x_81 h0_f12 h0_f13 h0_f14 h0_15 h0_16 h0_f17 h0_18 h0_19 h0_20 h0_21 h0_22 h0_23 h0_24 h0_25 h0_f26 h0_f27 h0_f28 h0_f29 h0_f30 h0_f31 h0_32 h0_33 h0_f34 h0_35 h0_36 h0_37 h0_38 h0_39 h0_40 h0_f41 h0_f42 h0_f43 h0_f44 h0_45 h0_46 h0_47 h0_48 h0_49 h0_50 h0_f51 h0_52 h0_f53 h0_5 h0_5k tN h0_5c h0_24 h0_24k w_108) := hD
        refine lv_aload_n hx hb dX12_readStep_51 rfl (lv_at hl 1 rfl) ?_
        as_aux_lemma =>
        refine va_get (D := (dC, dI)) (ci := 12) (v := .ref h0_24) (C := RX12) (T := TX12) (N := 54) hx hb hts iw_c_X12_readStep_7_X12 hown hK hP 0 rfl rfl 24 (by decide +kernel) (hts (.fieldLink RX12 55 "BuoyVoteModel" "plan" "[I") (List.mem_of_getElem? (i := 50) rfl)) (fun _ h9 => h9) rfl dX12_readStep_52 ?_
        refine lv_iload_n hx hb dX12_readStep_55 rfl (lv_at hl 2 rfl) ?_
        refine lv_iconst (v := 2) hx hb dX12_readStep_56 kc_iconst_2 ?_
        refine lv_iadd hx hb dX12_readStep_57 ?_
        refine lv_topi (fun x_111 ex_111 => ?_)
        replace hEX := hEX.trans (exl_eq ex_111)
        have g_112 : RG x_111 258 318 := RG_add ex_111 g_p1 (RG_k 2 2 rfl) (by decide +kernel)
        refine lv_iconst (v := (-1)) hx hb dX12_readStep_58 kc_iconst_m1 ?_
        refine va_iast hx hb hK hP hD hS 2 1 rfl rfl (RG_in g_112 (by decide +kernel)) dX12_readStep_59 (fun H locs hP hD hS => ?_)
        have hP : va_P (dC, dI) vwCl (wd_c_X12_readStep_7 h0 h0_f0 h0_1 h0_2 h0_3 h0_4 h0_5 h0_f6 h0_f7 h0_f8 h0_f9 x_80 x_81 h0_f12 h0_f13 h0_f14 h0_15 h0_16 h0_f17 h0_18 h0_19 h0_20 h0_21 h0_22 h0_23 h0_24 h0_25 h0_f26 h0_f27 h0_f28 h0_f29 h0_f30 h0_f31 h0_32 h0_33 h0_f34 h0_35 h0_36 h0_37 h0_38 h0_39 h0_40 h0_f41 h0_f42 h0_f43 h0_f44 h0_45 h0_46 h0_47 h0_48 h0_49 h0_50 h0_f51 h0_52 h0_f53 h0_5 h0_5k tN h0_5c h0_24 h0_24k (upd w_108 (x_111 : Int32).toNatClampNeg (-1))) H := hP
        have hD : va_D A (wd_c_X12_readStep_7 h0 h0_f0 h0_1 h0_2 h0_3 h0_4 h0_5 h0_f6 h0_f7 h0_f8 h0_f9 x_80 x_81 h0_f12 h0_f13 h0_f14 h0_15 h0_16 h0_f17 h0_18 h0_19 h0_20 h0_21 h0_22 h0_23 h0_24 h0_25 h0_f26 h0_f27 h0_f28 h0_f29 h0_f30 h0_f31 h0_32 h0_33 h0_f34 h0_35 h0_36 h0_37 h0_38 h0_39 h0_40 h0_f41 h0_f42 h0_f43 h0_f44 h0_45 h0_46 h0_47 h0_48 h0_49 h0_50 h0_f51 h0_52 h0_f53 h0_5 h0_5k tN h0_5c h0_24 h0_24k (upd w_108 (x_111 : Int32).toNatClampNeg (-1))) := hD
        have l_114 : (upd w_108 (x_111 : Int32).toNatClampNeg (-1)) (x_111 : Int32).toNatClampNeg = (-1) := pk_us
        have a_115 : AI (upd w_108 (x_111 : Int32).toNatClampNeg (-1)) (-1) 9 := AI_up a_110 (RG_k (-1) (-1) rfl) (by decide +kernel)
        generalize huw_113 : (upd w_108 (x_111 : Int32).toNatClampNeg (-1)) = w_113 at hP hD a_115 l_114
        replace hEX := hEX.trans (exl_eq huw_113.symm)
        have hP : va_P (dC, dI) vwCl (wd_c_X12_readStep_7 h0 h0_f0 h0_1 h0_2 h0_3 h0_4 h0_5 h0_f6 h0_f7 h0_f8 h0_f9 x_80 x_81 h0_f12 h0_f13 h0_f14 h0_15 h0_16 h0_f17 h0_18 h0_19 h0_20 h0_21 h0_22 h0_23 h0_24 h0_25 h0_f26 h0_f27 h0_f28 h0_f29 h0_f30 h0_f31 h0_32 h0_33 h0_f34 h0_35 h0_36 h0_37 h0_38 h0_39 h0_40 h0_f41 h0_f42 h0_f43 h0_f44 h0_45 h0_46 h0_47 h0_48 h0_49 h0_50 h0_f51 h0_52 h0_f53 h0_5 h0_5k tN h0_5c h0_24 h0_24k w_113) H := hP
        have hD : va_D A (wd_c_X12_readStep_7 h0 h0_f0 h0_1 h0_2 h0_3 h0_4 h0_5 h0_f6 h0_f7 h0_f8 h0_f9 x_80 x_81 h0_f12 h0_f13 h0_f14 h0_15 h0_16 h0_f17 h0_18 h0_19 h0_20 h0_21 h0_22 h0_23 h0_24 h0_25 h0_f26 h0_f27 h0_f28 h0_f29 h0_f30 h0_f31 h0_32 h0_33 h0_f34 h0_35 h0_36 h0_37 h0_38 h0_39 h0_40 h0_f41 h0_f42 h0_f43 h0_f44 h0_45 h0_46 h0_47 h0_48 h0_49 h0_50 h0_f51 h0_52 h0_f53 h0_5 h0_5k tN h0_5c h0_24 h0_24k w_113) := hD
        refine lv_aload_n hx hb dX12_readStep_60 rfl (lv_at hl 1 rfl) ?_
        as_aux_lemma =>
        refine va_get (D := (dC, dI)) (ci := 12) (v := .ref h0_24) (C := RX12) (T := TX12) (N := 54) hx hb hts iw_c_X12_readStep_7_X12 hown hK hP 0 rfl rfl 24 (by decide +kernel) (hts (.fieldLink RX12 55 "BuoyVoteModel" "plan" "[I") (List.mem_of_getElem? (i := 50) rfl)) (fun _ h9 => h9) rfl dX12_readStep_61 ?_
        refine lv_iload_n hx hb dX12_readStep_64 rfl (lv_at hl 2 rfl) ?_
        refine lv_iconst (v := 3) hx hb dX12_readStep_65 kc_iconst_3 ?_
        refine lv_iadd hx hb dX12_readStep_66 ?_
        refine lv_topi (fun x_116 ex_116 => ?_)
        replace hEX := hEX.trans (exl_eq ex_116)
        have g_117 : RG x_116 259 319 := RG_add ex_116 g_p1 (RG_k 3 3 rfl) (by decide +kernel)
        refine lv_iconst (v := (-1)) hx hb dX12_readStep_67 kc_iconst_m1 ?_
        refine va_iast hx hb hK hP hD hS 2 1 rfl rfl (RG_in g_117 (by decide +kernel)) dX12_readStep_68 (fun H locs hP hD hS => ?_)
        have hP : va_P (dC, dI) vwCl (wd_c_X12_readStep_7 h0 h0_f0 h0_1 h0_2 h0_3 h0_4 h0_5 h0_f6 h0_f7 h0_f8 h0_f9 x_80 x_81 h0_f12 h0_f13 h0_f14 h0_15 h0_16 h0_f17 h0_18 h0_19 h0_20 h0_21 h0_22 h0_23 h0_24 h0_25 h0_f26 h0_f27 h0_f28 h0_f29 h0_f30 h0_f31 h0_32 h0_33 h0_f34 h0_35 h0_36 h0_37 h0_38 h0_39 h0_40 h0_f41 h0_f42 h0_f43 h0_f44 h0_45 h0_46 h0_47 h0_48 h0_49 h0_50 h0_f51 h0_52 h0_f53 h0_5 h0_5k tN h0_5c h0_24 h0_24k (upd w_113 (x_116 : Int32).toNatClampNeg (-1))) H := hP
        have hD : va_D A (wd_c_X12_readStep_7 h0 h0_f0 h0_1 h0_2 h0_3 h0_4 h0_5 h0_f6 h0_f7 h0_f8 h0_f9 x_80 x_81 h0_f12 h0_f13 h0_f14 h0_15 h0_16 h0_f17 h0_18 h0_19 h0_20 h0_21 h0_22 h0_23 h0_24 h0_25 h0_f26 h0_f27 h0_f28 h0_f29 h0_f30 h0_f31 h0_32 h0_33 h0_f34 h0_35 h0_36 h0_37 h0_38 h0_39 h0_40 h0_f41 h0_f42 h0_f43 h0_f44 h0_45 h0_46 h0_47 h0_48 h0_49 h0_50 h0_f51 h0_52 h0_f53 h0_5 h0_5k tN h0_5c h0_24 h0_24k (upd w_113 (x_116 : Int32).toNatClampNeg (-1))) := hD
        have l_119 : (upd w_113 (x_116 : Int32).toNatClampNeg (-1)) (x_116 : Int32).toNatClampNeg = (-1) := pk_us
        have a_120 : AI (upd w_113 (x_116 : Int32).toNatClampNeg (-1)) (-1) 9 := AI_up a_115 (RG_k (-1) (-1) rfl) (by decide +kernel)
        generalize huw_118 : (upd w_113 (x_116 : Int32).toNatClampNeg (-1)) = w_118 at hP hD a_120 l_119
        replace hEX := hEX.trans (exl_eq huw_118.symm)
        have hP : va_P (dC, dI) vwCl (wd_c_X12_readStep_7 h0 h0_f0 h0_1 h0_2 h0_3 h0_4 h0_5 h0_f6 h0_f7 h0_f8 h0_f9 x_80 x_81 h0_f12 h0_f13 h0_f14 h0_15 h0_16 h0_f17 h0_18 h0_19 h0_20 h0_21 h0_22 h0_23 h0_24 h0_25 h0_f26 h0_f27 h0_f28 h0_f29 h0_f30 h0_f31 h0_32 h0_33 h0_f34 h0_35 h0_36 h0_37 h0_38 h0_39 h0_40 h0_f41 h0_f42 h0_f43 h0_f44 h0_45 h0_46 h0_47 h0_48 h0_49 h0_50 h0_f51 h0_52 h0_f53 h0_5 h0_5k tN h0_5c h0_24 h0_24k w_118) H := hP
        have hD : va_D A (wd_c_X12_readStep_7 h0 h0_f0 h0_1 h0_2 h0_3 h0_4 h0_5 h0_f6 h0_f7 h0_f8 h0_f9 x_80 x_81 h0_f12 h0_f13 h0_f14 h0_15 h0_16 h0_f17 h0_18 h0_19 h0_20 h0_21 h0_22 h0_23 h0_24 h0_25 h0_f26 h0_f27 h0_f28 h0_f29 h0_f30 h0_f31 h0_32 h0_33 h0_f34 h0_35 h0_36 h0_37 h0_38 h0_39 h0_40 h0_f41 h0_f42 h0_f43 h0_f44 h0_45 h0_46 h0_47 h0_48 h0_49 h0_50 h0_f51 h0_52 h0_f53 h0_5 h0_5k tN h0_5c h0_24 h0_24k w_118) := hD
        refine lv_aload_n hx hb dX12_readStep_69 rfl (lv_at hl 1 rfl) ?_
        as_aux_lemma =>
        refine va_get (D := (dC, dI)) (ci := 12) (v := .int x_81) (C := RX12) (T := TX12) (N := 54) hx hb hts iw_c_X12_readStep_7_X12 hown hK hP 0 rfl rfl 11 (by decide +kernel) (hts (.fieldLink RX12 143 "BuoyVoteModel" "fault" "I") (List.mem_of_getElem? (i := 49) rfl)) (fun _ h9 => h9) rfl dX12_readStep_70 ?_
        refine lv_iconst (v := (-1)) hx hb dX12_readStep_73 kc_iconst_m1 ?_
        refine lv_icmp_ne (tgt := 94) hx hb dX12_readStep_74 rfl (fun c_121 => ?_) (fun c_121 => ?_)
        · replace hEX := hEX.trans (if_neg c_121)
          exact hU _ _ _ (J94b 3 x_80 x_81 w_118 g_h0_f10 g_h0_f17 g_h0_f26 g_h0_f27 g_h0_f28 g_h0_f29 g_h0_f30 g_h0_f31 g_h0_f34 g_h0_f41 g_h0_f51 g_h0_f53 g_h0_f6 g_h0_f7 g_h0_f8 h_38 h_89 h_90 (RG_w (RG_k 3 3 rfl) (by decide +kernel)) g_p1 a_120 (by have := h_39; have := q_73; have := h_91; omega) hEX _ _ _ hP hD hS (lv_sub hl [0, 1, 2] rfl))
        · replace hEX := hEX.trans (if_pos c_121)
          exact RG_dead (RG_eq1 h_90 (RG_k (-1) (-1) rfl) c_121 (a' := 0) (b' := (-1)) (by decide +kernel)) (by decide +kernel)
    · have h_59 : r_51 = _ := h_59
      replace hEX := hEX.trans (exc1_eq h_59)
      replace hEX := hEX.trans (if_neg (fun q9 : r_51 = (-1) => absurd ((show r_51 = 2 from h_57).symm.trans q9) (by decide +kernel)))
      replace hEX := hEX.trans (if_neg (fun q9 : r_51 = 3 => absurd ((show r_51 = 2 from h_57).symm.trans q9) (by decide +kernel)))
      replace hEX := hEX.trans (if_pos (show r_51 = 2 from h_57))
      rw [h_57]
      refine lv_istore_n (lv' := [(2, .int 2), (0, .ref h0), (1, .int p1)]) hx hb dX12_readStep_10 rfl hl (Nat.le_of_ble_eq_true rfl) rfl (fun ls hl => ?_)
      as_aux_lemma =>
      refine lv_iload_n hx hb dX12_readStep_11 rfl (lv_at hl 0 rfl) ?_
      refine lv_iconst (v := (-1)) hx hb dX12_readStep_12 kc_iconst_m1 ?_
      refine lv_icmp_ne (tgt := 22) hx hb dX12_readStep_13 rfl (fun c_122 => ?_) (fun c_122 => absurd c_122 (by decide +kernel))
      refine lv_aload_n hx hb dX12_readStep_22 rfl (lv_at hl 1 rfl) ?_
      refine lv_dup hx hb dX12_readStep_23 rfl ?_
      refine va_get (D := (dC, dI)) (ci := 12) (v := .int x_29) (C := RX12) (T := TX12) (N := 54) hx hb hts iw_c_X12_readStep_7_X12 hown hK hP 0 rfl rfl 10 (by decide +kernel) (hts (.fieldLink RX12 134 "BuoyVoteModel" "at" "I") (List.mem_of_getElem? (i := 6) rfl)) (fun _ h9 => h9) rfl dX12_readStep_24 ?_
      refine lv_iconst (v := 1) hx hb dX12_readStep_27 kc_iconst_1 ?_
      refine lv_iadd hx hb dX12_readStep_28 ?_
      refine lv_topi (fun x_123 ex_123 => ?_)
      replace hEX := hEX.trans (exl_eq ex_123)
      have g_124 : RG x_123 1 240 := RG_add ex_123 h_37 (RG_k 1 1 rfl) (by decide +kernel)
      have q_125 : x_123.toInt = x_29.toInt + 1 := eq_add ex_123 h_37 (q := 1) rfl (by decide +kernel)
      refine va_put (D := (dC, dI)) (ci := 12) (v := .int x_123) (ty := .int) (C := RX12) (T := TX12) (N := 54) hx hb hts iw_c_X12_readStep_7_X12 tyX12 tyX12_ok nmX12 hown hK hP hD hS 0 rfl rfl 10 (by decide +kernel) (hts (.fieldLink RX12 134 "BuoyVoteModel" "at" "I") (List.mem_of_getElem? (i := 6) rfl)) (fun _ h9 => h9) rfl (by decide +kernel) rfl rfl (Nat.le_of_ble_eq_true rfl) dX12_readStep_29 (fun H locs hP hD hS => ?_)
      have hP : va_P (dC, dI) vwCl (wd_c_X12_readStep_7 h0 h0_f0 h0_1 h0_2 h0_3 h0_4 h0_5 h0_f6 h0_f7 h0_f8 h0_f9 x_123 (-1) h0_f12 h0_f13 h0_f14 h0_15 h0_16 h0_f17 h0_18 h0_19 h0_20 h0_21 h0_22 h0_23 h0_24 h0_25 h0_f26 h0_f27 h0_f28 h0_f29 h0_f30 h0_f31 h0_32 h0_33 h0_f34 h0_35 h0_36 h0_37 h0_38 h0_39 h0_40 h0_f41 h0_f42 h0_f43 h0_f44 h0_45 h0_46 h0_47 h0_48 h0_49 h0_50 h0_f51 h0_52 h0_f53 h0_5 h0_5k tN h0_5c h0_24 h0_24k h0_24c) H := hP
      have hD : va_D A (wd_c_X12_readStep_7 h0 h0_f0 h0_1 h0_2 h0_3 h0_4 h0_5 h0_f6 h0_f7 h0_f8 h0_f9 x_123 (-1) h0_f12 h0_f13 h0_f14 h0_15 h0_16 h0_f17 h0_18 h0_19 h0_20 h0_21 h0_22 h0_23 h0_24 h0_25 h0_f26 h0_f27 h0_f28 h0_f29 h0_f30 h0_f31 h0_32 h0_33 h0_f34 h0_35 h0_36 h0_37 h0_38 h0_39 h0_40 h0_f41 h0_f42 h0_f43 h0_f44 h0_45 h0_46 h0_47 h0_48 h0_49 h0_50 h0_f51 h0_52 h0_f53 h0_5 h0_5k tN h0_5c h0_24 h0_24k h0_24c) := hD
      refine lv_aload_n hx hb dX12_readStep_32 rfl (lv_at hl 1 rfl) ?_
      as_aux_lemma =>
      refine va_get (D := (dC, dI)) (ci := 12) (v := .ref h0_24) (C := RX12) (T := TX12) (N := 54) hx hb hts iw_c_X12_readStep_7_X12 hown hK hP 0 rfl rfl 24 (by decide +kernel) (hts (.fieldLink RX12 55 "BuoyVoteModel" "plan" "[I") (List.mem_of_getElem? (i := 50) rfl)) (fun _ h9 => h9) rfl dX12_readStep_33 ?_
      refine lv_iload_n hx hb dX12_readStep_36 rfl (lv_at hl 2 rfl) ?_
      refine lv_iload_n hx hb dX12_readStep_37 rfl (lv_at hl 0 rfl) ?_
      refine va_iast hx hb hK hP hD hS 2 1 rfl rfl (RG_in g_p1 (by decide +kernel)) dX12_readStep_38 (fun H locs hP hD hS => ?_)
      have hP : va_P (dC, dI) vwCl (wd_c_X12_readStep_7 h0 h0_f0 h0_1 h0_2 h0_3 h0_4 h0_5 h0_f6 h0_f7 h0_f8 h0_f9 x_123 (-1) h0_f12 h0_f13 h0_f14 h0_15 h0_16 h0_f17 h0_18 h0_19 h0_20 h0_21 h0_22 h0_23 h0_24 h0_25 h0_f26 h0_f27 h0_f28 h0_f29 h0_f30 h0_f31 h0_32 h0_33 h0_f34 h0_35 h0_36 h0_37 h0_38 h0_39 h0_40 h0_f41 h0_f42 h0_f43 h0_f44 h0_45 h0_46 h0_47 h0_48 h0_49 h0_50 h0_f51 h0_52 h0_f53 h0_5 h0_5k tN h0_5c h0_24 h0_24k (upd h0_24c (p1 : Int32).toNatClampNeg 2)) H := hP
      have hD : va_D A (wd_c_X12_readStep_7 h0 h0_f0 h0_1 h0_2 h0_3 h0_4 h0_5 h0_f6 h0_f7 h0_f8 h0_f9 x_123 (-1) h0_f12 h0_f13 h0_f14 h0_15 h0_16 h0_f17 h0_18 h0_19 h0_20 h0_21 h0_22 h0_23 h0_24 h0_25 h0_f26 h0_f27 h0_f28 h0_f29 h0_f30 h0_f31 h0_32 h0_33 h0_f34 h0_35 h0_36 h0_37 h0_38 h0_39 h0_40 h0_f41 h0_f42 h0_f43 h0_f44 h0_45 h0_46 h0_47 h0_48 h0_49 h0_50 h0_f51 h0_52 h0_f53 h0_5 h0_5k tN h0_5c h0_24 h0_24k (upd h0_24c (p1 : Int32).toNatClampNeg 2)) := hD
      have l_127 : (upd h0_24c (p1 : Int32).toNatClampNeg 2) (p1 : Int32).toNatClampNeg = 2 := pk_us
      have a_128 : AI (upd h0_24c (p1 : Int32).toNatClampNeg 2) (-1) 9 := AI_up a_h0_24c (RG_k 2 2 rfl) (by decide +kernel)
      generalize huw_126 : (upd h0_24c (p1 : Int32).toNatClampNeg 2) = w_126 at hP hD a_128 l_127
      replace hEX := hEX.trans (exl_eq huw_126.symm)
      have hP : va_P (dC, dI) vwCl (wd_c_X12_readStep_7 h0 h0_f0 h0_1 h0_2 h0_3 h0_4 h0_5 h0_f6 h0_f7 h0_f8 h0_f9 x_123 (-1) h0_f12 h0_f13 h0_f14 h0_15 h0_16 h0_f17 h0_18 h0_19 h0_20 h0_21 h0_22 h0_23 h0_24 h0_25 h0_f26 h0_f27 h0_f28 h0_f29 h0_f30 h0_f31 h0_32 h0_33 h0_f34 h0_35 h0_36 h0_37 h0_38 h0_39 h0_40 h0_f41 h0_f42 h0_f43 h0_f44 h0_45 h0_46 h0_47 h0_48 h0_49 h0_50 h0_f51 h0_52 h0_f53 h0_5 h0_5k tN h0_5c h0_24 h0_24k w_126) H := hP
      have hD : va_D A (wd_c_X12_readStep_7 h0 h0_f0 h0_1 h0_2 h0_3 h0_4 h0_5 h0_f6 h0_f7 h0_f8 h0_f9 x_123 (-1) h0_f12 h0_f13 h0_f14 h0_15 h0_16 h0_f17 h0_18 h0_19 h0_20 h0_21 h0_22 h0_23 h0_24 h0_25 h0_f26 h0_f27 h0_f28 h0_f29 h0_f30 h0_f31 h0_32 h0_33 h0_f34 h0_35 h0_36 h0_37 h0_38 h0_39 h0_40 h0_f41 h0_f42 h0_f43 h0_f44 h0_45 h0_46 h0_47 h0_48 h0_49 h0_50 h0_f51 h0_52 h0_f53 h0_5 h0_5k tN h0_5c h0_24 h0_24k w_126) := hD
      refine lv_aload_n hx hb dX12_readStep_39 rfl (lv_at hl 1 rfl) ?_
      refine va_get (D := (dC, dI)) (ci := 12) (v := .ref h0_24) (C := RX12) (T := TX12) (N := 54) hx hb hts iw_c_X12_readStep_7_X12 hown hK hP 0 rfl rfl 24 (by decide +kernel) (hts (.fieldLink RX12 55 "BuoyVoteModel" "plan" "[I") (List.mem_of_getElem? (i := 50) rfl)) (fun _ h9 => h9) rfl dX12_readStep_40 ?_
      as_aux_lemma =>
      refine lv_iload_n hx hb dX12_readStep_43 rfl (lv_at hl 2 rfl) ?_
      refine lv_iconst (v := 1) hx hb dX12_readStep_44 kc_iconst_1 ?_
      refine lv_iadd hx hb dX12_readStep_45 ?_
      refine lv_topi (fun x_129 ex_129 => ?_)
      replace hEX := hEX.trans (exl_eq ex_129)
      have g_130 : RG x_129 257 317 := RG_add ex_129 g_p1 (RG_k 1 1 rfl) (by decide +kernel)
      refine lv_aload_n hx hb dX12_readStep_46 rfl (lv_at hl 1 rfl) ?_
      obtain ⟨hPc, hDc, hFc, hqc⟩ := cl_cut (wc := (wd_c_X12_digit h0 h0_f0 h0_1 h0_2 h0_3 h0_4 h0_5 h0_f6 h0_f7 h0_f8 h0_f9 x_123 (-1) h0_f12 h0_f13 h0_f14 h0_15 h0_16 h0_f17 h0_18 h0_19 h0_20 h0_21 h0_22 h0_23 h0_24 h0_25 h0_f26 h0_f27 h0_f28 h0_f29 h0_f30 h0_f31 h0_32 h0_33 h0_f34 h0_35 h0_36 h0_37 h0_38 h0_39 h0_40 h0_f41 h0_f42 h0_f43 h0_f44 h0_45 h0_46 h0_47 h0_48 h0_49 h0_50 h0_f51 h0_52 h0_f53 h0_5 h0_5k tN h0_5c)) hP hD hS hA [0, 1] (by decide +kernel) rfl
      have hKc := hK.sub (tys' := [(h0_5k, .byte)]) [0] rfl
      have hrv := va_recv hKc hPc (ci := 12) (q0 := 0) rfl rfl
      refine va_calli (va_runV (As := []) (rest := [.int x_129, .ref h0_24]) ⟨hx, hb, hml, hown, hts⟩ (c_X12_digit l dC dI H.size h0 h0_f0 h0_1 h0_2 h0_3 h0_4 h0_5 h0_f6 h0_f7 h0_f8 h0_f9 x_123 h0_f12 h0_f13 h0_f14 h0_15 h0_16 h0_f17 h0_18 h0_19 h0_20 h0_21 h0_22 h0_23 h0_24 h0_25 h0_f26 h0_f27 h0_f28 h0_f29 h0_f30 h0_f31 h0_32 h0_33 h0_f34 h0_35 h0_36 h0_37 h0_38 h0_39 h0_40 h0_f41 h0_f42 h0_f43 h0_f44 h0_45 h0_46 h0_47 h0_48 h0_49 h0_50 h0_f51 h0_52 h0_f53 h0_5k h0_5c tN g_h0_f6 g_h0_f7 g_h0_f8 (RG_w h_38 (by decide +kernel)) (RG_w g_124 (by decide +kernel)) g_h0_f17 g_h0_f26 g_h0_f27 g_h0_f28 g_h0_f29 g_h0_f30 g_h0_f31 g_h0_f34 g_h0_f41 g_h0_f51 g_h0_f53 htN) (cwV 0 hts gf_c_X12_readStep_7_c_X12_digit rfl rfl rfl mdV_X12_digit ⟨Nat.le_of_ble_eq_true rfl, Nat.le_of_ble_eq_true rfl⟩) ⟨fun a U g mk q => by obtain ⟨q0, q1, qP, qK, qD⟩ := q; exact ⟨q0, q1, qP, va_K.moved (u := U) (U := U.calling g mk a) (Vm.Alike.refl U.vm) qK, qD⟩, hrv, fun U hU hW => ⟨rfl, by rw [hU], by rw [hU]; exact hPc, va_K.moved hW.alike hKc, hDc.weaken (fun _ _ _ _ => trivial)⟩⟩ rfl rfl hl.1 rfl (lv_room (Nat.le_of_ble_eq_true rfl)) dX12_readStep_47 ⟨Nat.le_of_ble_eq_true rfl, Nat.le_of_ble_eq_true rfl⟩) hS (fun q _ h => hFc q h) hFc (fun r_131 u t H1 locs ht hvm hw hB hz1 hk1 hS => ?_)
      obtain ⟨x_132, x_133⟩ := u
      obtain ⟨hP1, hK1, hD1⟩ := hB
      rw [ht] at hP1
      obtain ⟨hP, hD⟩ := cl_put (w1 := (wd_c_X12_digit h0 h0_f0 h0_1 h0_2 h0_3 h0_4 h0_5 h0_f6 h0_f7 h0_f8 h0_f9 x_132 x_133 h0_f12 h0_f13 h0_f14 h0_15 h0_16 h0_f17 h0_18 h0_19 h0_20 h0_21 h0_22 h0_23 h0_24 h0_25 h0_f26 h0_f27 h0_f28 h0_f29 h0_f30 h0_f31 h0_32 h0_33 h0_f34 h0_35 h0_36 h0_37 h0_38 h0_39 h0_40 h0_f41 h0_f42 h0_f43 h0_f44 h0_45 h0_46 h0_47 h0_48 h0_49 h0_50 h0_f51 h0_52 h0_f53 h0_5 h0_5k tN h0_5c)) (nw := (wd_c_X12_readStep_7 h0 h0_f0 h0_1 h0_2 h0_3 h0_4 h0_5 h0_f6 h0_f7 h0_f8 h0_f9 x_132 x_133 h0_f12 h0_f13 h0_f14 h0_15 h0_16 h0_f17 h0_18 h0_19 h0_20 h0_21 h0_22 h0_23 h0_24 h0_25 h0_f26 h0_f27 h0_f28 h0_f29 h0_f30 h0_f31 h0_32 h0_33 h0_f34 h0_35 h0_36 h0_37 h0_38 h0_39 h0_40 h0_f41 h0_f42 h0_f43 h0_f44 h0_45 h0_46 h0_47 h0_48 h0_49 h0_50 h0_f51 h0_52 h0_f53 h0_5 h0_5k tN h0_5c h0_24 h0_24k w_126)) hP hD [0, 1] [3, 4, 2] 3 rfl hqc (by decide +kernel) rfl hk1 hFc hP1 hD1
      generalize H1 = H at hP hS ⊢
      as_aux_lemma =>
      rcases hw with ⟨h_134, h_135, h_136, h_137, h_138, h_139⟩ | ⟨h_140, h_141, h_142, h_143, h_144⟩
      · have h_139 : (r_131, x_132, x_133) = _ := h_139
        replace hEX := hEX.trans (exc3_eq h_139)
        replace hEX := hEX.trans (if_pos (show x_133 = (-1) from h_136))
        subst h_136
        have h_138 : x_123.toInt + 1 ≤ x_132.toInt := h_138
        refine va_iast hx hb hK hP hD hS 2 1 rfl rfl (RG_in g_130 (by decide +kernel)) dX12_readStep_50 (fun H locs hP hD hS => ?_)
        have hP : va_P (dC, dI) vwCl (wd_c_X12_readStep_7 h0 h0_f0 h0_1 h0_2 h0_3 h0_4 h0_5 h0_f6 h0_f7 h0_f8 h0_f9 x_132 (-1) h0_f12 h0_f13 h0_f14 h0_15 h0_16 h0_f17 h0_18 h0_19 h0_20 h0_21 h0_22 h0_23 h0_24 h0_25 h0_f26 h0_f27 h0_f28 h0_f29 h0_f30 h0_f31 h0_32 h0_33 h0_f34 h0_35 h0_36 h0_37 h0_38 h0_39 h0_40 h0_f41 h0_f42 h0_f43 h0_f44 h0_45 h0_46 h0_47 h0_48 h0_49 h0_50 h0_f51 h0_52 h0_f53 h0_5 h0_5k tN h0_5c h0_24 h0_24k (upd w_126 (x_129 : Int32).toNatClampNeg r_131)) H := hP
        have hD : va_D A (wd_c_X12_readStep_7 h0 h0_f0 h0_1 h0_2 h0_3 h0_4 h0_5 h0_f6 h0_f7 h0_f8 h0_f9 x_132 (-1) h0_f12 h0_f13 h0_f14 h0_15 h0_16 h0_f17 h0_18 h0_19 h0_20 h0_21 h0_22 h0_23 h0_24 h0_25 h0_f26 h0_f27 h0_f28 h0_f29 h0_f30 h0_f31 h0_32 h0_33 h0_f34 h0_35 h0_36 h0_37 h0_38 h0_39 h0_40 h0_f41 h0_f42 h0_f43 h0_f44 h0_45 h0_46 h0_47 h0_48 h0_49 h0_50 h0_f51 h0_52 h0_f53 h0_5 h0_5k tN h0_5c h0_24 h0_24k (upd w_126 (x_129 : Int32).toNatClampNeg r_131)) := hD
        have l_146 : (upd w_126 (x_129 : Int32).toNatClampNeg r_131) (x_129 : Int32).toNatClampNeg = r_131 := pk_us
        have a_147 : AI (upd w_126 (x_129 : Int32).toNatClampNeg r_131) (-1) 9 := AI_up a_128 h_134 (by decide +kernel)
        generalize huw_145 : (upd w_126 (x_129 : Int32).toNatClampNeg r_131) = w_145 at hP hD a_147 l_146
        replace hEX := hEX.trans (exl_eq huw_145.symm)
        have hP : va_P (dC, dI) vwCl (wd_c_X12_readStep_7 h0 h0_f0 h0_1 h0_2 h0_3 h0_4 h0_5 h0_f6 h0_f7 h0_f8 h0_f9 x_132 (-1) h0_f12 h0_f13 h0_f14 h0_15 h0_16 h0_f17 h0_18 h0_19 h0_20 h0_21 h0_22 h0_23 h0_24 h0_25 h0_f26 h0_f27 h0_f28 h0_f29 h0_f30 h0_f31 h0_32 h0_33 h0_f34 h0_35 h0_36 h0_37 h0_38 h0_39 h0_40 h0_f41 h0_f42 h0_f43 h0_f44 h0_45 h0_46 h0_47 h0_48 h0_49 h0_50 h0_f51 h0_52 h0_f53 h0_5 h0_5k tN h0_5c h0_24 h0_24k w_145) H := hP
        have hD : va_D A (wd_c_X12_readStep_7 h0 h0_f0 h0_1 h0_2 h0_3 h0_4 h0_5 h0_f6 h0_f7 h0_f8 h0_f9 x_132 (-1) h0_f12 h0_f13 h0_f14 h0_15 h0_16 h0_f17 h0_18 h0_19 h0_20 h0_21 h0_22 h0_23 h0_24 h0_25 h0_f26 h0_f27 h0_f28 h0_f29 h0_f30 h0_f31 h0_32 h0_33 h0_f34 h0_35 h0_36 h0_37 h0_38 h0_39 h0_40 h0_f41 h0_f42 h0_f43 h0_f44 h0_45 h0_46 h0_47 h0_48 h0_49 h0_50 h0_f51 h0_52 h0_f53 h0_5 h0_5k tN h0_5c h0_24 h0_24k w_145) := hD
        refine lv_aload_n hx hb dX12_readStep_51 rfl (lv_at hl 1 rfl) ?_
        as_aux_lemma =>
        refine va_get (D := (dC, dI)) (ci := 12) (v := .ref h0_24) (C := RX12) (T := TX12) (N := 54) hx hb hts iw_c_X12_readStep_7_X12 hown hK hP 0 rfl rfl 24 (by decide +kernel) (hts (.fieldLink RX12 55 "BuoyVoteModel" "plan" "[I") (List.mem_of_getElem? (i := 50) rfl)) (fun _ h9 => h9) rfl dX12_readStep_52 ?_
        refine lv_iload_n hx hb dX12_readStep_55 rfl (lv_at hl 2 rfl) ?_
        refine lv_iconst (v := 2) hx hb dX12_readStep_56 kc_iconst_2 ?_
        refine lv_iadd hx hb dX12_readStep_57 ?_
        refine lv_topi (fun x_148 ex_148 => ?_)
        replace hEX := hEX.trans (exl_eq ex_148)
        have g_149 : RG x_148 258 318 := RG_add ex_148 g_p1 (RG_k 2 2 rfl) (by decide +kernel)
        refine lv_iconst (v := (-1)) hx hb dX12_readStep_58 kc_iconst_m1 ?_
        refine va_iast hx hb hK hP hD hS 2 1 rfl rfl (RG_in g_149 (by decide +kernel)) dX12_readStep_59 (fun H locs hP hD hS => ?_)
        have hP : va_P (dC, dI) vwCl (wd_c_X12_readStep_7 h0 h0_f0 h0_1 h0_2 h0_3 h0_4 h0_5 h0_f6 h0_f7 h0_f8 h0_f9 x_132 (-1) h0_f12 h0_f13 h0_f14 h0_15 h0_16 h0_f17 h0_18 h0_19 h0_20 h0_21 h0_22 h0_23 h0_24 h0_25 h0_f26 h0_f27 h0_f28 h0_f29 h0_f30 h0_f31 h0_32 h0_33 h0_f34 h0_35 h0_36 h0_37 h0_38 h0_39 h0_40 h0_f41 h0_f42 h0_f43 h0_f44 h0_45 h0_46 h0_47 h0_48 h0_49 h0_50 h0_f51 h0_52 h0_f53 h0_5 h0_5k tN h0_5c h0_24 h0_24k (upd w_145 (x_148 : Int32).toNatClampNeg (-1))) H := hP
        have hD : va_D A (wd_c_X12_readStep_7 h0 h0_f0 h0_1 h0_2 h0_3 h0_4 h0_5 h0_f6 h0_f7 h0_f8 h0_f9 x_132 (-1) h0_f12 h0_f13 h0_f14 h0_15 h0_16 h0_f17 h0_18 h0_19 h0_20 h0_21 h0_22 h0_23 h0_24 h0_25 h0_f26 h0_f27 h0_f28 h0_f29 h0_f30 h0_f31 h0_32 h0_33 h0_f34 h0_35 h0_36 h0_37 h0_38 h0_39 h0_40 h0_f41 h0_f42 h0_f43 h0_f44 h0_45 h0_46 h0_47 h0_48 h0_49 h0_50 h0_f51 h0_52 h0_f53 h0_5 h0_5k tN h0_5c h0_24 h0_24k (upd w_145 (x_148 : Int32).toNatClampNeg (-1))) := hD
        have l_151 : (upd w_145 (x_148 : Int32).toNatClampNeg (-1)) (x_148 : Int32).toNatClampNeg = (-1) := pk_us
        have a_152 : AI (upd w_145 (x_148 : Int32).toNatClampNeg (-1)) (-1) 9 := AI_up a_147 (RG_k (-1) (-1) rfl) (by decide +kernel)
        generalize huw_150 : (upd w_145 (x_148 : Int32).toNatClampNeg (-1)) = w_150 at hP hD a_152 l_151
        replace hEX := hEX.trans (exl_eq huw_150.symm)
        have hP : va_P (dC, dI) vwCl (wd_c_X12_readStep_7 h0 h0_f0 h0_1 h0_2 h0_3 h0_4 h0_5 h0_f6 h0_f7 h0_f8 h0_f9 x_132 (-1) h0_f12 h0_f13 h0_f14 h0_15 h0_16 h0_f17 h0_18 h0_19 h0_20 h0_21 h0_22 h0_23 h0_24 h0_25 h0_f26 h0_f27 h0_f28 h0_f29 h0_f30 h0_f31 h0_32 h0_33 h0_f34 h0_35 h0_36 h0_37 h0_38 h0_39 h0_40 h0_f41 h0_f42 h0_f43 h0_f44 h0_45 h0_46 h0_47 h0_48 h0_49 h0_50 h0_f51 h0_52 h0_f53 h0_5 h0_5k tN h0_5c h0_24 h0_24k w_150) H := hP
        have hD : va_D A (wd_c_X12_readStep_7 h0 h0_f0 h0_1 h0_2 h0_3 h0_4 h0_5 h0_f6 h0_f7 h0_f8 h0_f9 x_132 (-1) h0_f12 h0_f13 h0_f14 h0_15 h0_16 h0_f17 h0_18 h0_19 h0_20 h0_21 h0_22 h0_23 h0_24 h0_25 h0_f26 h0_f27 h0_f28 h0_f29 h0_f30 h0_f31 h0_32 h0_33 h0_f34 h0_35 h0_36 h0_37 h0_38 h0_39 h0_40 h0_f41 h0_f42 h0_f43 h0_f44 h0_45 h0_46 h0_47 h0_48 h0_49 h0_50 h0_f51 h0_52 h0_f53 h0_5 h0_5k tN h0_5c h0_24 h0_24k w_150) := hD
        refine lv_aload_n hx hb dX12_readStep_60 rfl (lv_at hl 1 rfl) ?_
        as_aux_lemma =>
        refine va_get (D := (dC, dI)) (ci := 12) (v := .ref h0_24) (C := RX12) (T := TX12) (N := 54) hx hb hts iw_c_X12_readStep_7_X12 hown hK hP 0 rfl rfl 24 (by decide +kernel) (hts (.fieldLink RX12 55 "BuoyVoteModel" "plan" "[I") (List.mem_of_getElem? (i := 50) rfl)) (fun _ h9 => h9) rfl dX12_readStep_61 ?_
        refine lv_iload_n hx hb dX12_readStep_64 rfl (lv_at hl 2 rfl) ?_
        refine lv_iconst (v := 3) hx hb dX12_readStep_65 kc_iconst_3 ?_
        refine lv_iadd hx hb dX12_readStep_66 ?_
        refine lv_topi (fun x_153 ex_153 => ?_)
        replace hEX := hEX.trans (exl_eq ex_153)
        have g_154 : RG x_153 259 319 := RG_add ex_153 g_p1 (RG_k 3 3 rfl) (by decide +kernel)
        refine lv_iconst (v := (-1)) hx hb dX12_readStep_67 kc_iconst_m1 ?_
        refine va_iast hx hb hK hP hD hS 2 1 rfl rfl (RG_in g_154 (by decide +kernel)) dX12_readStep_68 (fun H locs hP hD hS => ?_)
        have hP : va_P (dC, dI) vwCl (wd_c_X12_readStep_7 h0 h0_f0 h0_1 h0_2 h0_3 h0_4 h0_5 h0_f6 h0_f7 h0_f8 h0_f9 x_132 (-1) h0_f12 h0_f13 h0_f14 h0_15 h0_16 h0_f17 h0_18 h0_19 h0_20 h0_21 h0_22 h0_23 h0_24 h0_25 h0_f26 h0_f27 h0_f28 h0_f29 h0_f30 h0_f31 h0_32 h0_33 h0_f34 h0_35 h0_36 h0_37 h0_38 h0_39 h0_40 h0_f41 h0_f42 h0_f43 h0_f44 h0_45 h0_46 h0_47 h0_48 h0_49 h0_50 h0_f51 h0_52 h0_f53 h0_5 h0_5k tN h0_5c h0_24 h0_24k (upd w_150 (x_153 : Int32).toNatClampNeg (-1))) H := hP
        have hD : va_D A (wd_c_X12_readStep_7 h0 h0_f0 h0_1 h0_2 h0_3 h0_4 h0_5 h0_f6 h0_f7 h0_f8 h0_f9 x_132 (-1) h0_f12 h0_f13 h0_f14 h0_15 h0_16 h0_f17 h0_18 h0_19 h0_20 h0_21 h0_22 h0_23 h0_24 h0_25 h0_f26 h0_f27 h0_f28 h0_f29 h0_f30 h0_f31 h0_32 h0_33 h0_f34 h0_35 h0_36 h0_37 h0_38 h0_39 h0_40 h0_f41 h0_f42 h0_f43 h0_f44 h0_45 h0_46 h0_47 h0_48 h0_49 h0_50 h0_f51 h0_52 h0_f53 h0_5 h0_5k tN h0_5c h0_24 h0_24k (upd w_150 (x_153 : Int32).toNatClampNeg (-1))) := hD
        have l_156 : (upd w_150 (x_153 : Int32).toNatClampNeg (-1)) (x_153 : Int32).toNatClampNeg = (-1) := pk_us
        have a_157 : AI (upd w_150 (x_153 : Int32).toNatClampNeg (-1)) (-1) 9 := AI_up a_152 (RG_k (-1) (-1) rfl) (by decide +kernel)
        generalize huw_155 : (upd w_150 (x_153 : Int32).toNatClampNeg (-1)) = w_155 at hP hD a_157 l_156
        replace hEX := hEX.trans (exl_eq huw_155.symm)
        have hP : va_P (dC, dI) vwCl (wd_c_X12_readStep_7 h0 h0_f0 h0_1 h0_2 h0_3 h0_4 h0_5 h0_f6 h0_f7 h0_f8 h0_f9 x_132 (-1) h0_f12 h0_f13 h0_f14 h0_15 h0_16 h0_f17 h0_18 h0_19 h0_20 h0_21 h0_22 h0_23 h0_24 h0_25 h0_f26 h0_f27 h0_f28 h0_f29 h0_f30 h0_f31 h0_32 h0_33 h0_f34 h0_35 h0_36 h0_37 h0_38 h0_39 h0_40 h0_f41 h0_f42 h0_f43 h0_f44 h0_45 h0_46 h0_47 h0_48 h0_49 h0_50 h0_f51 h0_52 h0_f53 h0_5 h0_5k tN h0_5c h0_24 h0_24k w_155) H := hP
        have hD : va_D A (wd_c_X12_readStep_7 h0 h0_f0 h0_1 h0_2 h0_3 h0_4 h0_5 h0_f6 h0_f7 h0_f8 h0_f9 x_132 (-1) h0_f12 h0_f13 h0_f14 h0_15 h0_16 h0_f17 h0_18 h0_19 h0_20 h0_21 h0_22 h0_23 h0_24 h0_25 h0_f26 h0_f27 h0_f28 h0_f29 h0_f30 h0_f31 h0_32 h0_33 h0_f34 h0_35 h0_36 h0_37 h0_38 h0_39 h0_40 h0_f41 h0_f42 h0_f43 h0_f44 h0_45 h0_46 h0_47 h0_48 h0_49 h0_50 h0_f51 h0_52 h0_f53 h0_5 h0_5k tN h0_5c h0_24 h0_24k w_155) := hD
        refine lv_aload_n hx hb dX12_readStep_69 rfl (lv_at hl 1 rfl) ?_
        as_aux_lemma =>
        refine va_get (D := (dC, dI)) (ci := 12) (v := .int (-1)) (C := RX12) (T := TX12) (N := 54) hx hb hts iw_c_X12_readStep_7_X12 hown hK hP 0 rfl rfl 11 (by decide +kernel) (hts (.fieldLink RX12 143 "BuoyVoteModel" "fault" "I") (List.mem_of_getElem? (i := 49) rfl)) (fun _ h9 => h9) rfl dX12_readStep_70 ?_
        refine lv_iconst (v := (-1)) hx hb dX12_readStep_73 kc_iconst_m1 ?_
        refine lv_icmp_ne (tgt := 94) hx hb dX12_readStep_74 rfl (fun c_158 => absurd c_158 (by decide +kernel)) (fun c_158 => ?_)
        refine lv_iload_n hx hb dX12_readStep_77 rfl (lv_at hl 0 rfl) ?_
        refine lv_iconst (v := 3) hx hb dX12_readStep_78 kc_iconst_3 ?_
        refine lv_icmp_ge (tgt := 94) hx hb dX12_readStep_79 rfl (fun c_159 => absurd c_159 (by decide +kernel)) (fun c_159 => ?_)
        refine lv_aload_n hx hb dX12_readStep_82 rfl (lv_at hl 1 rfl) ?_
        refine va_get (D := (dC, dI)) (ci := 12) (v := .ref h0_24) (C := RX12) (T := TX12) (N := 54) hx hb hts iw_c_X12_readStep_7_X12 hown hK hP 0 rfl rfl 24 (by decide +kernel) (hts (.fieldLink RX12 55 "BuoyVoteModel" "plan" "[I") (List.mem_of_getElem? (i := 50) rfl)) (fun _ h9 => h9) rfl dX12_readStep_83 ?_
        refine lv_iload_n hx hb dX12_readStep_86 rfl (lv_at hl 2 rfl) ?_
        refine lv_iconst (v := 2) hx hb dX12_readStep_87 kc_iconst_2 ?_
        refine lv_iadd hx hb dX12_readStep_88 ?_
        refine lv_topi (fun x_160 ex_160 => ?_)
        obtain rfl : x_148 = x_160 := ex_148.trans ex_160.symm
        refine lv_aload_n hx hb dX12_readStep_89 rfl (lv_at hl 1 rfl) ?_
        as_aux_lemma =>
        obtain ⟨hPc, hDc, hFc, hqc⟩ := cl_cut (wc := (wd_c_X12_digit h0 h0_f0 h0_1 h0_2 h0_3 h0_4 h0_5 h0_f6 h0_f7 h0_f8 h0_f9 x_132 (-1) h0_f12 h0_f13 h0_f14 h0_15 h0_16 h0_f17 h0_18 h0_19 h0_20 h0_21 h0_22 h0_23 h0_24 h0_25 h0_f26 h0_f27 h0_f28 h0_f29 h0_f30 h0_f31 h0_32 h0_33 h0_f34 h0_35 h0_36 h0_37 h0_38 h0_39 h0_40 h0_f41 h0_f42 h0_f43 h0_f44 h0_45 h0_46 h0_47 h0_48 h0_49 h0_50 h0_f51 h0_52 h0_f53 h0_5 h0_5k tN h0_5c)) hP hD hS hA [0, 1] (by decide +kernel) rfl
        have hKc := hK.sub (tys' := [(h0_5k, .byte)]) [0] rfl
        have hrv := va_recv hKc hPc (ci := 12) (q0 := 0) rfl rfl
        refine va_calli (va_runV (As := []) (rest := [.int x_148, .ref h0_24]) ⟨hx, hb, hml, hown, hts⟩ (c_X12_digit l dC dI H.size h0 h0_f0 h0_1 h0_2 h0_3 h0_4 h0_5 h0_f6 h0_f7 h0_f8 h0_f9 x_132 h0_f12 h0_f13 h0_f14 h0_15 h0_16 h0_f17 h0_18 h0_19 h0_20 h0_21 h0_22 h0_23 h0_24 h0_25 h0_f26 h0_f27 h0_f28 h0_f29 h0_f30 h0_f31 h0_32 h0_33 h0_f34 h0_35 h0_36 h0_37 h0_38 h0_39 h0_40 h0_f41 h0_f42 h0_f43 h0_f44 h0_45 h0_46 h0_47 h0_48 h0_49 h0_50 h0_f51 h0_52 h0_f53 h0_5k h0_5c tN g_h0_f6 g_h0_f7 g_h0_f8 (RG_w h_38 (by decide +kernel)) (RG_w h_135 (by decide +kernel)) g_h0_f17 g_h0_f26 g_h0_f27 g_h0_f28 g_h0_f29 g_h0_f30 g_h0_f31 g_h0_f34 g_h0_f41 g_h0_f51 g_h0_f53 htN) (cwV 0 hts gf_c_X12_readStep_7_c_X12_digit rfl rfl rfl mdV_X12_digit ⟨Nat.le_of_ble_eq_true rfl, Nat.le_of_ble_eq_true rfl⟩) ⟨fun a U g mk q => by obtain ⟨q0, q1, qP, qK, qD⟩ := q; exact ⟨q0, q1, qP, va_K.moved (u := U) (U := U.calling g mk a) (Vm.Alike.refl U.vm) qK, qD⟩, hrv, fun U hU hW => ⟨rfl, by rw [hU], by rw [hU]; exact hPc, va_K.moved hW.alike hKc, hDc.weaken (fun _ _ _ _ => trivial)⟩⟩ rfl rfl hl.1 rfl (lv_room (Nat.le_of_ble_eq_true rfl)) dX12_readStep_90 ⟨Nat.le_of_ble_eq_true rfl, Nat.le_of_ble_eq_true rfl⟩) hS (fun q _ h => hFc q h) hFc (fun r_161 u t H1 locs ht hvm hw hB hz1 hk1 hS => ?_)
        obtain ⟨x_162, x_163⟩ := u
        obtain ⟨hP1, hK1, hD1⟩ := hB
        rw [ht] at hP1
        obtain ⟨hP, hD⟩ := cl_put (w1 := (wd_c_X12_digit h0 h0_f0 h0_1 h0_2 h0_3 h0_4 h0_5 h0_f6 h0_f7 h0_f8 h0_f9 x_162 x_163 h0_f12 h0_f13 h0_f14 h0_15 h0_16 h0_f17 h0_18 h0_19 h0_20 h0_21 h0_22 h0_23 h0_24 h0_25 h0_f26 h0_f27 h0_f28 h0_f29 h0_f30 h0_f31 h0_32 h0_33 h0_f34 h0_35 h0_36 h0_37 h0_38 h0_39 h0_40 h0_f41 h0_f42 h0_f43 h0_f44 h0_45 h0_46 h0_47 h0_48 h0_49 h0_50 h0_f51 h0_52 h0_f53 h0_5 h0_5k tN h0_5c)) (nw := (wd_c_X12_readStep_7 h0 h0_f0 h0_1 h0_2 h0_3 h0_4 h0_5 h0_f6 h0_f7 h0_f8 h0_f9 x_162 x_163 h0_f12 h0_f13 h0_f14 h0_15 h0_16 h0_f17 h0_18 h0_19 h0_20 h0_21 h0_22 h0_23 h0_24 h0_25 h0_f26 h0_f27 h0_f28 h0_f29 h0_f30 h0_f31 h0_32 h0_33 h0_f34 h0_35 h0_36 h0_37 h0_38 h0_39 h0_40 h0_f41 h0_f42 h0_f43 h0_f44 h0_45 h0_46 h0_47 h0_48 h0_49 h0_50 h0_f51 h0_52 h0_f53 h0_5 h0_5k tN h0_5c h0_24 h0_24k w_155)) hP hD [0, 1] [3, 4, 2] 3 rfl hqc (by decide +kernel) rfl hk1 hFc hP1 hD1
        generalize H1 = H at hP hS ⊢
        as_aux_lemma =>
        rcases hw with ⟨h_164, h_165, h_166, h_167, h_168, h_169⟩ | ⟨h_170, h_171, h_172, h_173, h_174⟩
        · have h_169 : (r_161, x_162, x_163) = _ := h_169
          replace hEX := hEX.trans (exc3_eq h_169)
          replace hEX := hEX.trans (if_pos (show x_163 = (-1) from h_166))
          subst h_166
          have h_168 : x_132.toInt + 1 ≤ x_162.toInt := h_168
          refine va_iast hx hb hK hP hD hS 2 1 rfl rfl (RG_in g_149 (by decide +kernel)) dX12_readStep_93 (fun H locs hP hD hS => ?_)
          have hP : va_P (dC, dI) vwCl (wd_c_X12_readStep_7 h0 h0_f0 h0_1 h0_2 h0_3 h0_4 h0_5 h0_f6 h0_f7 h0_f8 h0_f9 x_162 (-1) h0_f12 h0_f13 h0_f14 h0_15 h0_16 h0_f17 h0_18 h0_19 h0_20 h0_21 h0_22 h0_23 h0_24 h0_25 h0_f26 h0_f27 h0_f28 h0_f29 h0_f30 h0_f31 h0_32 h0_33 h0_f34 h0_35 h0_36 h0_37 h0_38 h0_39 h0_40 h0_f41 h0_f42 h0_f43 h0_f44 h0_45 h0_46 h0_47 h0_48 h0_49 h0_50 h0_f51 h0_52 h0_f53 h0_5 h0_5k tN h0_5c h0_24 h0_24k (upd w_155 (x_148 : Int32).toNatClampNeg r_161)) H := hP
          have hD : va_D A (wd_c_X12_readStep_7 h0 h0_f0 h0_1 h0_2 h0_3 h0_4 h0_5 h0_f6 h0_f7 h0_f8 h0_f9 x_162 (-1) h0_f12 h0_f13 h0_f14 h0_15 h0_16 h0_f17 h0_18 h0_19 h0_20 h0_21 h0_22 h0_23 h0_24 h0_25 h0_f26 h0_f27 h0_f28 h0_f29 h0_f30 h0_f31 h0_32 h0_33 h0_f34 h0_35 h0_36 h0_37 h0_38 h0_39 h0_40 h0_f41 h0_f42 h0_f43 h0_f44 h0_45 h0_46 h0_47 h0_48 h0_49 h0_50 h0_f51 h0_52 h0_f53 h0_5 h0_5k tN h0_5c h0_24 h0_24k (upd w_155 (x_148 : Int32).toNatClampNeg r_161)) := hD
          have l_176 : (upd w_155 (x_148 : Int32).toNatClampNeg r_161) (x_148 : Int32).toNatClampNeg = r_161 := pk_us
          have a_177 : AI (upd w_155 (x_148 : Int32).toNatClampNeg r_161) (-1) 9 := AI_up a_157 h_164 (by decide +kernel)
          generalize huw_175 : (upd w_155 (x_148 : Int32).toNatClampNeg r_161) = w_175 at hP hD a_177 l_176
          replace hEX := hEX.trans (exl_eq huw_175.symm)
          have hP : va_P (dC, dI) vwCl (wd_c_X12_readStep_7 h0 h0_f0 h0_1 h0_2 h0_3 h0_4 h0_5 h0_f6 h0_f7 h0_f8 h0_f9 x_162 (-1) h0_f12 h0_f13 h0_f14 h0_15 h0_16 h0_f17 h0_18 h0_19 h0_20 h0_21 h0_22 h0_23 h0_24 h0_25 h0_f26 h0_f27 h0_f28 h0_f29 h0_f30 h0_f31 h0_32 h0_33 h0_f34 h0_35 h0_36 h0_37 h0_38 h0_39 h0_40 h0_f41 h0_f42 h0_f43 h0_f44 h0_45 h0_46 h0_47 h0_48 h0_49 h0_50 h0_f51 h0_52 h0_f53 h0_5 h0_5k tN h0_5c h0_24 h0_24k w_175) H := hP
          have hD : va_D A (wd_c_X12_readStep_7 h0 h0_f0 h0_1 h0_2 h0_3 h0_4 h0_5 h0_f6 h0_f7 h0_f8 h0_f9 x_162 (-1) h0_f12 h0_f13 h0_f14 h0_15 h0_16 h0_f17 h0_18 h0_19 h0_20 h0_21 h0_22 h0_23 h0_24 h0_25 h0_f26 h0_f27 h0_f28 h0_f29 h0_f30 h0_f31 h0_32 h0_33 h0_f34 h0_35 h0_36 h0_37 h0_38 h0_39 h0_40 h0_f41 h0_f42 h0_f43 h0_f44 h0_45 h0_46 h0_47 h0_48 h0_49 h0_50 h0_f51 h0_52 h0_f53 h0_5 h0_5k tN h0_5c h0_24 h0_24k w_175) := hD
          exact hU _ _ _ (J94 2 x_162 w_175 g_h0_f10 g_h0_f17 g_h0_f26 g_h0_f27 g_h0_f28 g_h0_f29 g_h0_f30 g_h0_f31 g_h0_f34 g_h0_f41 g_h0_f51 g_h0_f53 g_h0_f6 g_h0_f7 g_h0_f8 h_38 h_165 (RG_w (RG_k 2 2 rfl) (by decide +kernel)) g_p1 a_177 (by have := h_39; have := q_125; have := h_138; have := h_168; omega) hEX _ _ _ hP hD hS (lv_sub hl [0, 1, 2] rfl))
        · have h_174 : (r_161, x_162, x_163) = _ := h_174
          replace hEX := hEX.trans (exc3_eq h_174)
          replace hEX := hEX.trans (if_neg (RG_neq (x := x_163) (c := (-1)) (show RG x_163 0 240 from h_172) (by decide +kernel)))
          rw [h_170]
          have h_173 : x_132.toInt + 0 ≤ x_162.toInt := h_173
          refine va_iast hx hb hK hP hD hS 2 1 rfl rfl (RG_in g_149 (by decide +kernel)) dX12_readStep_93 (fun H locs hP hD hS => ?_)
          as_aux_lemma =>
          have hP : va_P (dC, dI) vwCl (wd_c_X12_readStep_7 h0 h0_f0 h0_1 h0_2 h0_3 h0_4 h0_5 h0_f6 h0_f7 h0_f8 h0_f9 x_162 x_163 h0_f12 h0_f13 h0_f14 h0_15 h0_16 h0_f17 h0_18 h0_19 h0_20 h0_21 h0_22 h0_23 h0_24 h0_25 h0_f26 h0_f27 h0_f28 h0_f29 h0_f30 h0_f31 h0_32 h0_33 h0_f34 h0_35 h0_36 h0_37 h0_38 h0_39 h0_40 h0_f41 h0_f42 h0_f43 h0_f44 h0_45 h0_46 h0_47 h0_48 h0_49 h0_50 h0_f51 h0_52 h0_f53 h0_5 h0_5k tN h0_5c h0_24 h0_24k (upd w_155 (x_148 : Int32).toNatClampNeg 0)) H := hP
          have hD : va_D A (wd_c_X12_readStep_7 h0 h0_f0 h0_1 h0_2 h0_3 h0_4 h0_5 h0_f6 h0_f7 h0_f8 h0_f9 x_162 x_163 h0_f12 h0_f13 h0_f14 h0_15 h0_16 h0_f17 h0_18 h0_19 h0_20 h0_21 h0_22 h0_23 h0_24 h0_25 h0_f26 h0_f27 h0_f28 h0_f29 h0_f30 h0_f31 h0_32 h0_33 h0_f34 h0_35 h0_36 h0_37 h0_38 h0_39 h0_40 h0_f41 h0_f42 h0_f43 h0_f44 h0_45 h0_46 h0_47 h0_48 h0_49 h0_50 h0_f51 h0_52 h0_f53 h0_5 h0_5k tN h0_5c h0_24 h0_24k (upd w_155 (x_148 : Int32).toNatClampNeg 0)) := hD
          have l_179 : (upd w_155 (x_148 : Int32).toNatClampNeg 0) (x_148 : Int32).toNatClampNeg = 0 := pk_us
          have a_180 : AI (upd w_155 (x_148 : Int32).toNatClampNeg 0) (-1) 9 := AI_up a_157 (RG_k 0 0 rfl) (by decide +kernel)
          generalize huw_178 : (upd w_155 (x_148 : Int32).toNatClampNeg 0) = w_178 at hP hD a_180 l_179
          replace hEX := hEX.trans (exl_eq huw_178.symm)
          have hP : va_P (dC, dI) vwCl (wd_c_X12_readStep_7 h0 h0_f0 h0_1 h0_2 h0_3 h0_4 h0_5 h0_f6 h0_f7 h0_f8 h0_f9 x_162 x_163 h0_f12 h0_f13 h0_f14 h0_15 h0_16 h0_f17 h0_18 h0_19 h0_20 h0_21 h0_22 h0_23 h0_24 h0_25 h0_f26 h0_f27 h0_f28 h0_f29 h0_f30 h0_f31 h0_32 h0_33 h0_f34 h0_35 h0_36 h0_37 h0_38 h0_39 h0_40 h0_f41 h0_f42 h0_f43 h0_f44 h0_45 h0_46 h0_47 h0_48 h0_49 h0_50 h0_f51 h0_52 h0_f53 h0_5 h0_5k tN h0_5c h0_24 h0_24k w_178) H := hP
          have hD : va_D A (wd_c_X12_readStep_7 h0 h0_f0 h0_1 h0_2 h0_3 h0_4 h0_5 h0_f6 h0_f7 h0_f8 h0_f9 x_162 x_163 h0_f12 h0_f13 h0_f14 h0_15 h0_16 h0_f17 h0_18 h0_19 h0_20 h0_21 h0_22 h0_23 h0_24 h0_25 h0_f26 h0_f27 h0_f28 h0_f29 h0_f30 h0_f31 h0_32 h0_33 h0_f34 h0_35 h0_36 h0_37 h0_38 h0_39 h0_40 h0_f41 h0_f42 h0_f43 h0_f44 h0_45 h0_46 h0_47 h0_48 h0_49 h0_50 h0_f51 h0_52 h0_f53 h0_5 h0_5k tN h0_5c h0_24 h0_24k w_178) := hD
          exact hU _ _ _ (J94b 2 x_162 x_163 w_178 g_h0_f10 g_h0_f17 g_h0_f26 g_h0_f27 g_h0_f28 g_h0_f29 g_h0_f30 g_h0_f31 g_h0_f34 g_h0_f41 g_h0_f51 g_h0_f53 g_h0_f6 g_h0_f7 g_h0_f8 h_38 h_171 h_172 (RG_w (RG_k 2 2 rfl) (by decide +kernel)) g_p1 a_180 (by have := h_39; have := q_125; have := h_138; have := h_173; omega) hEX _ _ _ hP hD hS (lv_sub hl [0, 1, 2] rfl))
      · have h_144 : (r_131, x_132, x_133) = _ := h_144
        replace hEX := hEX.trans (exc3_eq h_144)
        replace hEX := hEX.trans (if_neg (RG_neq (x := x_133) (c := (-1)) (show RG x_133 0 240 from h_142) (by decide +kernel)))
        rw [h_140]
        have h_143 : x_123.toInt + 0 ≤ x_132.toInt := h_143
        refine va_iast hx hb hK hP hD hS 2 1 rfl rfl (RG_in g_130 (by decide +kernel)) dX12_readStep_50 (fun H locs hP hD hS => ?_)
        as_aux_lemma =>
        have hP : va_P (dC, dI) vwCl (wd_c_X12_readStep_7 h0 h0_f0 h0_1 h0_2 h0_3 h0_4 h0_5 h0_f6 h0_f7 h0_f8 h0_f9 x_132 x_133 h0_f12 h0_f13 h0_f14 h0_15 h0_16 h0_f17 h0_18 h0_19 h0_20 h0_21 h0_22 h0_23 h0_24 h0_25 h0_f26 h0_f27 h0_f28 h0_f29 h0_f30 h0_f31 h0_32 h0_33 h0_f34 h0_35 h0_36 h0_37 h0_38 h0_39 h0_40 h0_f41 h0_f42 h0_f43 h0_f44 h0_45 h0_46 h0_47 h0_48 h0_49 h0_50 h0_f51 h0_52 h0_f53 h0_5 h0_5k tN h0_5c h0_24 h0_24k (upd w_126 (x_129 : Int32).toNatClampNeg 0)) H := hP
        have hD : va_D A (wd_c_X12_readStep_7 h0 h0_f0 h0_1 h0_2 h0_3 h0_4 h0_5 h0_f6 h0_f7 h0_f8 h0_f9 x_132 x_133 h0_f12 h0_f13 h0_f14 h0_15 h0_16 h0_f17 h0_18 h0_19 h0_20 h0_21 h0_22 h0_23 h0_24 h0_25 h0_f26 h0_f27 h0_f28 h0_f29 h0_f30 h0_f31 h0_32 h0_33 h0_f34 h0_35 h0_36 h0_37 h0_38 h0_39 h0_40 h0_f41 h0_f42 h0_f43 h0_f44 h0_45 h0_46 h0_47 h0_48 h0_49 h0_50 h0_f51 h0_52 h0_f53 h0_5 h0_5k tN h0_5c h0_24 h0_24k (upd w_126 (x_129 : Int32).toNatClampNeg 0)) := hD
        have l_182 : (upd w_126 (x_129 : Int32).toNatClampNeg 0) (x_129 : Int32).toNatClampNeg = 0 := pk_us
        have a_183 : AI (upd w_126 (x_129 : Int32).toNatClampNeg 0) (-1) 9 := AI_up a_128 (RG_k 0 0 rfl) (by decide +kernel)
        generalize huw_181 : (upd w_126 (x_129 : Int32).toNatClampNeg 0) = w_181 at hP hD a_183 l_182
        replace hEX := hEX.trans (exl_eq huw_181.symm)
        have hP : va_P (dC, dI) vwCl (wd_c_X12_readStep_7 h0 h0_f0 h0_1 h0_2 h0_3 h0_4 h0_5 h0_f6 h0_f7 h0_f8 h0_f9 x_132 x_133 h0_f12 h0_f13 h0_f14 h0_15 h0_16 h0_f17 h0_18 h0_19 h0_20 h0_21 h0_22 h0_23 h0_24 h0_25 h0_f26 h0_f27 h0_f28 h0_f29 h0_f30 h0_f31 h0_32 h0_33 h0_f34 h0_35 h0_36 h0_37 h0_38 h0_39 h0_40 h0_f41 h0_f42 h0_f43 h0_f44 h0_45 h0_46 h0_47 h0_48 h0_49 h0_50 h0_f51 h0_52 h0_f53 h0_5 h0_5k tN h0_5c h0_24 h0_24k w_181) H := hP
        have hD : va_D A (wd_c_X12_readStep_7 h0 h0_f0 h0_1 h0_2 h0_3 h0_4 h0_5 h0_f6 h0_f7 h0_f8 h0_f9 x_132 x_133 h0_f12 h0_f13 h0_f14 h0_15 h0_16 h0_f17 h0_18 h0_19 h0_20 h0_21 h0_22 h0_23 h0_24 h0_25 h0_f26 h0_f27 h0_f28 h0_f29 h0_f30 h0_f31 h0_32 h0_33 h0_f34 h0_35 h0_36 h0_37 h0_38 h0_39 h0_40 h0_f41 h0_f42 h0_f43 h0_f44 h0_45 h0_46 h0_47 h0_48 h0_49 h0_50 h0_f51 h0_52 h0_f53 h0_5 h0_5k tN h0_5c h0_24 h0_24k w_181) := hD
        refine lv_aload_n hx hb dX12_readStep_51 rfl (lv_at hl 1 rfl) ?_
        refine va_get (D := (dC, dI)) (ci := 12) (v := .ref h0_24) (C := RX12) (T := TX12) (N := 54) hx hb hts iw_c_X12_readStep_7_X12 hown hK hP 0 rfl rfl 24 (by decide +kernel) (hts (.fieldLink RX12 55 "BuoyVoteModel" "plan" "[I") (List.mem_of_getElem? (i := 50) rfl)) (fun _ h9 => h9) rfl dX12_readStep_52 ?_
        refine lv_iload_n hx hb dX12_readStep_55 rfl (lv_at hl 2 rfl) ?_
        refine lv_iconst (v := 2) hx hb dX12_readStep_56 kc_iconst_2 ?_
        refine lv_iadd hx hb dX12_readStep_57 ?_
        refine lv_topi (fun x_184 ex_184 => ?_)
        as_aux_lemma =>
        replace hEX := hEX.trans (exl_eq ex_184)
        have g_185 : RG x_184 258 318 := RG_add ex_184 g_p1 (RG_k 2 2 rfl) (by decide +kernel)
        refine lv_iconst (v := (-1)) hx hb dX12_readStep_58 kc_iconst_m1 ?_
        refine va_iast hx hb hK hP hD hS 2 1 rfl rfl (RG_in g_185 (by decide +kernel)) dX12_readStep_59 (fun H locs hP hD hS => ?_)
        have hP : va_P (dC, dI) vwCl (wd_c_X12_readStep_7 h0 h0_f0 h0_1 h0_2 h0_3 h0_4 h0_5 h0_f6 h0_f7 h0_f8 h0_f9 x_132 x_133 h0_f12 h0_f13 h0_f14 h0_15 h0_16 h0_f17 h0_18 h0_19 h0_20 h0_21 h0_22 h0_23 h0_24 h0_25 h0_f26 h0_f27 h0_f28 h0_f29 h0_f30 h0_f31 h0_32 h0_33 h0_f34 h0_35 h0_36 h0_37 h0_38 h0_39 h0_40 h0_f41 h0_f42 h0_f43 h0_f44 h0_45 h0_46 h0_47 h0_48 h0_49 h0_50 h0_f51 h0_52 h0_f53 h0_5 h0_5k tN h0_5c h0_24 h0_24k (upd w_181 (x_184 : Int32).toNatClampNeg (-1))) H := hP
        have hD : va_D A (wd_c_X12_readStep_7 h0 h0_f0 h0_1 h0_2 h0_3 h0_4 h0_5 h0_f6 h0_f7 h0_f8 h0_f9 x_132 x_133 h0_f12 h0_f13 h0_f14 h0_15 h0_16 h0_f17 h0_18 h0_19 h0_20 h0_21 h0_22 h0_23 h0_24 h0_25 h0_f26 h0_f27 h0_f28 h0_f29 h0_f30 h0_f31 h0_32 h0_33 h0_f34 h0_35 h0_36 h0_37 h0_38 h0_39 h0_40 h0_f41 h0_f42 h0_f43 h0_f44 h0_45 h0_46 h0_47 h0_48 h0_49 h0_50 h0_f51 h0_52 h0_f53 h0_5 h0_5k tN h0_5c h0_24 h0_24k (upd w_181 (x_184 : Int32).toNatClampNeg (-1))) := hD
        have l_187 : (upd w_181 (x_184 : Int32).toNatClampNeg (-1)) (x_184 : Int32).toNatClampNeg = (-1) := pk_us
        have a_188 : AI (upd w_181 (x_184 : Int32).toNatClampNeg (-1)) (-1) 9 := AI_up a_183 (RG_k (-1) (-1) rfl) (by decide +kernel)
        generalize huw_186 : (upd w_181 (x_184 : Int32).toNatClampNeg (-1)) = w_186 at hP hD a_188 l_187
        replace hEX := hEX.trans (exl_eq huw_186.symm)
        have hP : va_P (dC, dI) vwCl (wd_c_X12_readStep_7 h0 h0_f0 h0_1 h0_2 h0_3 h0_4 h0_5 h0_f6 h0_f7 h0_f8 h0_f9 x_132 x_133 h0_f12 h0_f13 h0_f14 h0_15 h0_16 h0_f17 h0_18 h0_19 h0_20 h0_21 h0_22 h0_23 h0_24 h0_25 h0_f26 h0_f27 h0_f28 h0_f29 h0_f30 h0_f31 h0_32 h0_33 h0_f34 h0_35 h0_36 h0_37 h0_38 h0_39 h0_40 h0_f41 h0_f42 h0_f43 h0_f44 h0_45 h0_46 h0_47 h0_48 h0_49 h0_50 h0_f51 h0_52 h0_f53 h0_5 h0_5k tN h0_5c h0_24 h0_24k w_186) H := hP
        have hD : va_D A (wd_c_X12_readStep_7 h0 h0_f0 h0_1 h0_2 h0_3 h0_4 h0_5 h0_f6 h0_f7 h0_f8 h0_f9 x_132 x_133 h0_f12 h0_f13 h0_f14 h0_15 h0_16 h0_f17 h0_18 h0_19 h0_20 h0_21 h0_22 h0_23 h0_24 h0_25 h0_f26 h0_f27 h0_f28 h0_f29 h0_f30 h0_f31 h0_32 h0_33 h0_f34 h0_35 h0_36 h0_37 h0_38 h0_39 h0_40 h0_f41 h0_f42 h0_f43 h0_f44 h0_45 h0_46 h0_47 h0_48 h0_49 h0_50 h0_f51 h0_52 h0_f53 h0_5 h0_5k tN h0_5c h0_24 h0_24k w_186) := hD
        refine lv_aload_n hx hb dX12_readStep_60 rfl (lv_at hl 1 rfl) ?_
        refine va_get (D := (dC, dI)) (ci := 12) (v := .ref h0_24) (C := RX12) (T := TX12) (N := 54) hx hb hts iw_c_X12_readStep_7_X12 hown hK hP 0 rfl rfl 24 (by decide +kernel) (hts (.fieldLink RX12 55 "BuoyVoteModel" "plan" "[I") (List.mem_of_getElem? (i := 50) rfl)) (fun _ h9 => h9) rfl dX12_readStep_61 ?_
        as_aux_lemma =>
        refine lv_iload_n hx hb dX12_readStep_64 rfl (lv_at hl 2 rfl) ?_
        refine lv_iconst (v := 3) hx hb dX12_readStep_65 kc_iconst_3 ?_
        refine lv_iadd hx hb dX12_readStep_66 ?_
        refine lv_topi (fun x_189 ex_189 => ?_)
        replace hEX := hEX.trans (exl_eq ex_189)
        have g_190 : RG x_189 259 319 := RG_add ex_189 g_p1 (RG_k 3 3 rfl) (by decide +kernel)
        refine lv_iconst (v := (-1)) hx hb dX12_readStep_67 kc_iconst_m1 ?_
        refine va_iast hx hb hK hP hD hS 2 1 rfl rfl (RG_in g_190 (by decide +kernel)) dX12_readStep_68 (fun H locs hP hD hS => ?_)
        have hP : va_P (dC, dI) vwCl (wd_c_X12_readStep_7 h0 h0_f0 h0_1 h0_2 h0_3 h0_4 h0_5 h0_f6 h0_f7 h0_f8 h0_f9 x_132 x_133 h0_f12 h0_f13 h0_f14 h0_15 h0_16 h0_f17 h0_18 h0_19 h0_20 h0_21 h0_22 h0_23 h0_24 h0_25 h0_f26 h0_f27 h0_f28 h0_f29 h0_f30 h0_f31 h0_32 h0_33 h0_f34 h0_35 h0_36 h0_37 h0_38 h0_39 h0_40 h0_f41 h0_f42 h0_f43 h0_f44 h0_45 h0_46 h0_47 h0_48 h0_49 h0_50 h0_f51 h0_52 h0_f53 h0_5 h0_5k tN h0_5c h0_24 h0_24k (upd w_186 (x_189 : Int32).toNatClampNeg (-1))) H := hP
        have hD : va_D A (wd_c_X12_readStep_7 h0 h0_f0 h0_1 h0_2 h0_3 h0_4 h0_5 h0_f6 h0_f7 h0_f8 h0_f9 x_132 x_133 h0_f12 h0_f13 h0_f14 h0_15 h0_16 h0_f17 h0_18 h0_19 h0_20 h0_21 h0_22 h0_23 h0_24 h0_25 h0_f26 h0_f27 h0_f28 h0_f29 h0_f30 h0_f31 h0_32 h0_33 h0_f34 h0_35 h0_36 h0_37 h0_38 h0_39 h0_40 h0_f41 h0_f42 h0_f43 h0_f44 h0_45 h0_46 h0_47 h0_48 h0_49 h0_50 h0_f51 h0_52 h0_f53 h0_5 h0_5k tN h0_5c h0_24 h0_24k (upd w_186 (x_189 : Int32).toNatClampNeg (-1))) := hD
        have l_192 : (upd w_186 (x_189 : Int32).toNatClampNeg (-1)) (x_189 : Int32).toNatClampNeg = (-1) := pk_us
        have a_193 : AI (upd w_186 (x_189 : Int32).toNatClampNeg (-1)) (-1) 9 := AI_up a_188 (RG_k (-1) (-1) rfl) (by decide +kernel)
        generalize huw_191 : (upd w_186 (x_189 : Int32).toNatClampNeg (-1)) = w_191 at hP hD a_193 l_192
        replace hEX := hEX.trans (exl_eq huw_191.symm)
        have hP : va_P (dC, dI) vwCl (wd_c_X12_readStep_7 h0 h0_f0 h0_1 h0_2 h0_3 h0_4 h0_5 h0_f6 h0_f7 h0_f8 h0_f9 x_132 x_133 h0_f12 h0_f13 h0_f14 h0_15 h0_16 h0_f17 h0_18 h0_19 h0_20 h0_21 h0_22 h0_23 h0_24 h0_25 h0_f26 h0_f27 h0_f28 h0_f29 h0_f30 h0_f31 h0_32 h0_33 h0_f34 h0_35 h0_36 h0_37 h0_38 h0_39 h0_40 h0_f41 h0_f42 h0_f43 h0_f44 h0_45 h0_46 h0_47 h0_48 h0_49 h0_50 h0_f51 h0_52 h0_f53 h0_5 h0_5k tN h0_5c h0_24 h0_24k w_191) H := hP
        have hD : va_D A (wd_c_X12_readStep_7 h0 h0_f0 h0_1 h0_2 h0_3 h0_4 h0_5 h0_f6 h0_f7 h0_f8 h0_f9 x_132 x_133 h0_f12 h0_f13 h0_f14 h0_15 h0_16 h0_f17 h0_18 h0_19 h0_20 h0_21 h0_22 h0_23 h0_24 h0_25 h0_f26 h0_f27 h0_f28 h0_f29 h0_f30 h0_f31 h0_32 h0_33 h0_f34 h0_35 h0_36 h0_37 h0_38 h0_39 h0_40 h0_f41 h0_f42 h0_f43 h0_f44 h0_45 h0_46 h0_47 h0_48 h0_49 h0_50 h0_f51 h0_52 h0_f53 h0_5 h0_5k tN h0_5c h0_24 h0_24k w_191) := hD
        refine lv_aload_n hx hb dX12_readStep_69 rfl (lv_at hl 1 rfl) ?_
        as_aux_lemma =>
        refine va_get (D := (dC, dI)) (ci := 12) (v := .int x_133) (C := RX12) (T := TX12) (N := 54) hx hb hts iw_c_X12_readStep_7_X12 hown hK hP 0 rfl rfl 11 (by decide +kernel) (hts (.fieldLink RX12 143 "BuoyVoteModel" "fault" "I") (List.mem_of_getElem? (i := 49) rfl)) (fun _ h9 => h9) rfl dX12_readStep_70 ?_
        refine lv_iconst (v := (-1)) hx hb dX12_readStep_73 kc_iconst_m1 ?_
        refine lv_icmp_ne (tgt := 94) hx hb dX12_readStep_74 rfl (fun c_194 => ?_) (fun c_194 => ?_)
        · replace hEX := hEX.trans (if_neg c_194)
          exact hU _ _ _ (J94b 2 x_132 x_133 w_191 g_h0_f10 g_h0_f17 g_h0_f26 g_h0_f27 g_h0_f28 g_h0_f29 g_h0_f30 g_h0_f31 g_h0_f34 g_h0_f41 g_h0_f51 g_h0_f53 g_h0_f6 g_h0_f7 g_h0_f8 h_38 h_141 h_142 (RG_w (RG_k 2 2 rfl) (by decide +kernel)) g_p1 a_193 (by have := h_39; have := q_125; have := h_143; omega) hEX _ _ _ hP hD hS (lv_sub hl [0, 1, 2] rfl))
        · replace hEX := hEX.trans (if_pos c_194)
          exact RG_dead (RG_eq1 h_142 (RG_k (-1) (-1) rfl) c_194 (a' := 0) (b' := (-1)) (by decide +kernel)) (by decide +kernel)
    · have h_62 : r_51 = _ := h_62
      replace hEX := hEX.trans (exc1_eq h_62)
      replace hEX := hEX.trans (if_neg (fun q9 : r_51 = (-1) => absurd ((show r_51 = 1 from h_60).symm.trans q9) (by decide +kernel)))
      replace hEX := hEX.trans (if_neg (fun q9 : r_51 = 3 => absurd ((show r_51 = 1 from h_60).symm.trans q9) (by decide +kernel)))
      replace hEX := hEX.trans (if_neg (fun q9 : r_51 = 2 => absurd ((show r_51 = 1 from h_60).symm.trans q9) (by decide +kernel)))
      replace hEX := hEX.trans (if_pos (show r_51 = 1 from h_60))
      rw [h_60]
      refine lv_istore_n (lv' := [(2, .int 1), (0, .ref h0), (1, .int p1)]) hx hb dX12_readStep_10 rfl hl (Nat.le_of_ble_eq_true rfl) rfl (fun ls hl => ?_)
      as_aux_lemma =>
      refine lv_iload_n hx hb dX12_readStep_11 rfl (lv_at hl 0 rfl) ?_
      refine lv_iconst (v := (-1)) hx hb dX12_readStep_12 kc_iconst_m1 ?_
      refine lv_icmp_ne (tgt := 22) hx hb dX12_readStep_13 rfl (fun c_195 => ?_) (fun c_195 => absurd c_195 (by decide +kernel))
      refine lv_aload_n hx hb dX12_readStep_22 rfl (lv_at hl 1 rfl) ?_
      refine lv_dup hx hb dX12_readStep_23 rfl ?_
      refine va_get (D := (dC, dI)) (ci := 12) (v := .int x_29) (C := RX12) (T := TX12) (N := 54) hx hb hts iw_c_X12_readStep_7_X12 hown hK hP 0 rfl rfl 10 (by decide +kernel) (hts (.fieldLink RX12 134 "BuoyVoteModel" "at" "I") (List.mem_of_getElem? (i := 6) rfl)) (fun _ h9 => h9) rfl dX12_readStep_24 ?_
      refine lv_iconst (v := 1) hx hb dX12_readStep_27 kc_iconst_1 ?_
      refine lv_iadd hx hb dX12_readStep_28 ?_
      refine lv_topi (fun x_196 ex_196 => ?_)
      replace hEX := hEX.trans (exl_eq ex_196)
      have g_197 : RG x_196 1 240 := RG_add ex_196 h_37 (RG_k 1 1 rfl) (by decide +kernel)
      have q_198 : x_196.toInt = x_29.toInt + 1 := eq_add ex_196 h_37 (q := 1) rfl (by decide +kernel)
      refine va_put (D := (dC, dI)) (ci := 12) (v := .int x_196) (ty := .int) (C := RX12) (T := TX12) (N := 54) hx hb hts iw_c_X12_readStep_7_X12 tyX12 tyX12_ok nmX12 hown hK hP hD hS 0 rfl rfl 10 (by decide +kernel) (hts (.fieldLink RX12 134 "BuoyVoteModel" "at" "I") (List.mem_of_getElem? (i := 6) rfl)) (fun _ h9 => h9) rfl (by decide +kernel) rfl rfl (Nat.le_of_ble_eq_true rfl) dX12_readStep_29 (fun H locs hP hD hS => ?_)
      have hP : va_P (dC, dI) vwCl (wd_c_X12_readStep_7 h0 h0_f0 h0_1 h0_2 h0_3 h0_4 h0_5 h0_f6 h0_f7 h0_f8 h0_f9 x_196 (-1) h0_f12 h0_f13 h0_f14 h0_15 h0_16 h0_f17 h0_18 h0_19 h0_20 h0_21 h0_22 h0_23 h0_24 h0_25 h0_f26 h0_f27 h0_f28 h0_f29 h0_f30 h0_f31 h0_32 h0_33 h0_f34 h0_35 h0_36 h0_37 h0_38 h0_39 h0_40 h0_f41 h0_f42 h0_f43 h0_f44 h0_45 h0_46 h0_47 h0_48 h0_49 h0_50 h0_f51 h0_52 h0_f53 h0_5 h0_5k tN h0_5c h0_24 h0_24k h0_24c) H := hP
      have hD : va_D A (wd_c_X12_readStep_7 h0 h0_f0 h0_1 h0_2 h0_3 h0_4 h0_5 h0_f6 h0_f7 h0_f8 h0_f9 x_196 (-1) h0_f12 h0_f13 h0_f14 h0_15 h0_16 h0_f17 h0_18 h0_19 h0_20 h0_21 h0_22 h0_23 h0_24 h0_25 h0_f26 h0_f27 h0_f28 h0_f29 h0_f30 h0_f31 h0_32 h0_33 h0_f34 h0_35 h0_36 h0_37 h0_38 h0_39 h0_40 h0_f41 h0_f42 h0_f43 h0_f44 h0_45 h0_46 h0_47 h0_48 h0_49 h0_50 h0_f51 h0_52 h0_f53 h0_5 h0_5k tN h0_5c h0_24 h0_24k h0_24c) := hD
      refine lv_aload_n hx hb dX12_readStep_32 rfl (lv_at hl 1 rfl) ?_
      as_aux_lemma =>
      refine va_get (D := (dC, dI)) (ci := 12) (v := .ref h0_24) (C := RX12) (T := TX12) (N := 54) hx hb hts iw_c_X12_readStep_7_X12 hown hK hP 0 rfl rfl 24 (by decide +kernel) (hts (.fieldLink RX12 55 "BuoyVoteModel" "plan" "[I") (List.mem_of_getElem? (i := 50) rfl)) (fun _ h9 => h9) rfl dX12_readStep_33 ?_
      refine lv_iload_n hx hb dX12_readStep_36 rfl (lv_at hl 2 rfl) ?_
      refine lv_iload_n hx hb dX12_readStep_37 rfl (lv_at hl 0 rfl) ?_
      refine va_iast hx hb hK hP hD hS 2 1 rfl rfl (RG_in g_p1 (by decide +kernel)) dX12_readStep_38 (fun H locs hP hD hS => ?_)
      have hP : va_P (dC, dI) vwCl (wd_c_X12_readStep_7 h0 h0_f0 h0_1 h0_2 h0_3 h0_4 h0_5 h0_f6 h0_f7 h0_f8 h0_f9 x_196 (-1) h0_f12 h0_f13 h0_f14 h0_15 h0_16 h0_f17 h0_18 h0_19 h0_20 h0_21 h0_22 h0_23 h0_24 h0_25 h0_f26 h0_f27 h0_f28 h0_f29 h0_f30 h0_f31 h0_32 h0_33 h0_f34 h0_35 h0_36 h0_37 h0_38 h0_39 h0_40 h0_f41 h0_f42 h0_f43 h0_f44 h0_45 h0_46 h0_47 h0_48 h0_49 h0_50 h0_f51 h0_52 h0_f53 h0_5 h0_5k tN h0_5c h0_24 h0_24k (upd h0_24c (p1 : Int32).toNatClampNeg 1)) H := hP
      have hD : va_D A (wd_c_X12_readStep_7 h0 h0_f0 h0_1 h0_2 h0_3 h0_4 h0_5 h0_f6 h0_f7 h0_f8 h0_f9 x_196 (-1) h0_f12 h0_f13 h0_f14 h0_15 h0_16 h0_f17 h0_18 h0_19 h0_20 h0_21 h0_22 h0_23 h0_24 h0_25 h0_f26 h0_f27 h0_f28 h0_f29 h0_f30 h0_f31 h0_32 h0_33 h0_f34 h0_35 h0_36 h0_37 h0_38 h0_39 h0_40 h0_f41 h0_f42 h0_f43 h0_f44 h0_45 h0_46 h0_47 h0_48 h0_49 h0_50 h0_f51 h0_52 h0_f53 h0_5 h0_5k tN h0_5c h0_24 h0_24k (upd h0_24c (p1 : Int32).toNatClampNeg 1)) := hD
      have l_200 : (upd h0_24c (p1 : Int32).toNatClampNeg 1) (p1 : Int32).toNatClampNeg = 1 := pk_us
      have a_201 : AI (upd h0_24c (p1 : Int32).toNatClampNeg 1) (-1) 9 := AI_up a_h0_24c (RG_k 1 1 rfl) (by decide +kernel)
      generalize huw_199 : (upd h0_24c (p1 : Int32).toNatClampNeg 1) = w_199 at hP hD a_201 l_200
      replace hEX := hEX.trans (exl_eq huw_199.symm)
      have hP : va_P (dC, dI) vwCl (wd_c_X12_readStep_7 h0 h0_f0 h0_1 h0_2 h0_3 h0_4 h0_5 h0_f6 h0_f7 h0_f8 h0_f9 x_196 (-1) h0_f12 h0_f13 h0_f14 h0_15 h0_16 h0_f17 h0_18 h0_19 h0_20 h0_21 h0_22 h0_23 h0_24 h0_25 h0_f26 h0_f27 h0_f28 h0_f29 h0_f30 h0_f31 h0_32 h0_33 h0_f34 h0_35 h0_36 h0_37 h0_38 h0_39 h0_40 h0_f41 h0_f42 h0_f43 h0_f44 h0_45 h0_46 h0_47 h0_48 h0_49 h0_50 h0_f51 h0_52 h0_f53 h0_5 h0_5k tN h0_5c h0_24 h0_24k w_199) H := hP
      have hD : va_D A (wd_c_X12_readStep_7 h0 h0_f0 h0_1 h0_2 h0_3 h0_4 h0_5 h0_f6 h0_f7 h0_f8 h0_f9 x_196 (-1) h0_f12 h0_f13 h0_f14 h0_15 h0_16 h0_f17 h0_18 h0_19 h0_20 h0_21 h0_22 h0_23 h0_24 h0_25 h0_f26 h0_f27 h0_f28 h0_f29 h0_f30 h0_f31 h0_32 h0_33 h0_f34 h0_35 h0_36 h0_37 h0_38 h0_39 h0_40 h0_f41 h0_f42 h0_f43 h0_f44 h0_45 h0_46 h0_47 h0_48 h0_49 h0_50 h0_f51 h0_52 h0_f53 h0_5 h0_5k tN h0_5c h0_24 h0_24k w_199) := hD
      refine lv_aload_n hx hb dX12_readStep_39 rfl (lv_at hl 1 rfl) ?_
      refine va_get (D := (dC, dI)) (ci := 12) (v := .ref h0_24) (C := RX12) (T := TX12) (N := 54) hx hb hts iw_c_X12_readStep_7_X12 hown hK hP 0 rfl rfl 24 (by decide +kernel) (hts (.fieldLink RX12 55 "BuoyVoteModel" "plan" "[I") (List.mem_of_getElem? (i := 50) rfl)) (fun _ h9 => h9) rfl dX12_readStep_40 ?_
      as_aux_lemma =>
      refine lv_iload_n hx hb dX12_readStep_43 rfl (lv_at hl 2 rfl) ?_
      refine lv_iconst (v := 1) hx hb dX12_readStep_44 kc_iconst_1 ?_
      refine lv_iadd hx hb dX12_readStep_45 ?_
      refine lv_topi (fun x_202 ex_202 => ?_)
      replace hEX := hEX.trans (exl_eq ex_202)
      have g_203 : RG x_202 257 317 := RG_add ex_202 g_p1 (RG_k 1 1 rfl) (by decide +kernel)
      refine lv_aload_n hx hb dX12_readStep_46 rfl (lv_at hl 1 rfl) ?_
      obtain ⟨hPc, hDc, hFc, hqc⟩ := cl_cut (wc := (wd_c_X12_digit h0 h0_f0 h0_1 h0_2 h0_3 h0_4 h0_5 h0_f6 h0_f7 h0_f8 h0_f9 x_196 (-1) h0_f12 h0_f13 h0_f14 h0_15 h0_16 h0_f17 h0_18 h0_19 h0_20 h0_21 h0_22 h0_23 h0_24 h0_25 h0_f26 h0_f27 h0_f28 h0_f29 h0_f30 h0_f31 h0_32 h0_33 h0_f34 h0_35 h0_36 h0_37 h0_38 h0_39 h0_40 h0_f41 h0_f42 h0_f43 h0_f44 h0_45 h0_46 h0_47 h0_48 h0_49 h0_50 h0_f51 h0_52 h0_f53 h0_5 h0_5k tN h0_5c)) hP hD hS hA [0, 1] (by decide +kernel) rfl
      have hKc := hK.sub (tys' := [(h0_5k, .byte)]) [0] rfl
      have hrv := va_recv hKc hPc (ci := 12) (q0 := 0) rfl rfl
      refine va_calli (va_runV (As := []) (rest := [.int x_202, .ref h0_24]) ⟨hx, hb, hml, hown, hts⟩ (c_X12_digit l dC dI H.size h0 h0_f0 h0_1 h0_2 h0_3 h0_4 h0_5 h0_f6 h0_f7 h0_f8 h0_f9 x_196 h0_f12 h0_f13 h0_f14 h0_15 h0_16 h0_f17 h0_18 h0_19 h0_20 h0_21 h0_22 h0_23 h0_24 h0_25 h0_f26 h0_f27 h0_f28 h0_f29 h0_f30 h0_f31 h0_32 h0_33 h0_f34 h0_35 h0_36 h0_37 h0_38 h0_39 h0_40 h0_f41 h0_f42 h0_f43 h0_f44 h0_45 h0_46 h0_47 h0_48 h0_49 h0_50 h0_f51 h0_52 h0_f53 h0_5k h0_5c tN g_h0_f6 g_h0_f7 g_h0_f8 (RG_w h_38 (by decide +kernel)) (RG_w g_197 (by decide +kernel)) g_h0_f17 g_h0_f26 g_h0_f27 g_h0_f28 g_h0_f29 g_h0_f30 g_h0_f31 g_h0_f34 g_h0_f41 g_h0_f51 g_h0_f53 htN) (cwV 0 hts gf_c_X12_readStep_7_c_X12_digit rfl rfl rfl mdV_X12_digit ⟨Nat.le_of_ble_eq_true rfl, Nat.le_of_ble_eq_true rfl⟩) ⟨fun a U g mk q => by obtain ⟨q0, q1, qP, qK, qD⟩ := q; exact ⟨q0, q1, qP, va_K.moved (u := U) (U := U.calling g mk a) (Vm.Alike.refl U.vm) qK, qD⟩, hrv, fun U hU hW => ⟨rfl, by rw [hU], by rw [hU]; exact hPc, va_K.moved hW.alike hKc, hDc.weaken (fun _ _ _ _ => trivial)⟩⟩ rfl rfl hl.1 rfl (lv_room (Nat.le_of_ble_eq_true rfl)) dX12_readStep_47 ⟨Nat.le_of_ble_eq_true rfl, Nat.le_of_ble_eq_true rfl⟩) hS (fun q _ h => hFc q h) hFc (fun r_204 u t H1 locs ht hvm hw hB hz1 hk1 hS => ?_)
      obtain ⟨x_205, x_206⟩ := u
      obtain ⟨hP1, hK1, hD1⟩ := hB
      rw [ht] at hP1
      obtain ⟨hP, hD⟩ := cl_put (w1 := (wd_c_X12_digit h0 h0_f0 h0_1 h0_2 h0_3 h0_4 h0_5 h0_f6 h0_f7 h0_f8 h0_f9 x_205 x_206 h0_f12 h0_f13 h0_f14 h0_15 h0_16 h0_f17 h0_18 h0_19 h0_20 h0_21 h0_22 h0_23 h0_24 h0_25 h0_f26 h0_f27 h0_f28 h0_f29 h0_f30 h0_f31 h0_32 h0_33 h0_f34 h0_35 h0_36 h0_37 h0_38 h0_39 h0_40 h0_f41 h0_f42 h0_f43 h0_f44 h0_45 h0_46 h0_47 h0_48 h0_49 h0_50 h0_f51 h0_52 h0_f53 h0_5 h0_5k tN h0_5c)) (nw := (wd_c_X12_readStep_7 h0 h0_f0 h0_1 h0_2 h0_3 h0_4 h0_5 h0_f6 h0_f7 h0_f8 h0_f9 x_205 x_206 h0_f12 h0_f13 h0_f14 h0_15 h0_16 h0_f17 h0_18 h0_19 h0_20 h0_21 h0_22 h0_23 h0_24 h0_25 h0_f26 h0_f27 h0_f28 h0_f29 h0_f30 h0_f31 h0_32 h0_33 h0_f34 h0_35 h0_36 h0_37 h0_38 h0_39 h0_40 h0_f41 h0_f42 h0_f43 h0_f44 h0_45 h0_46 h0_47 h0_48 h0_49 h0_50 h0_f51 h0_52 h0_f53 h0_5 h0_5k tN h0_5c h0_24 h0_24k w_199)) hP hD [0, 1] [3, 4, 2] 3 rfl hqc (by decide +kernel) rfl hk1 hFc hP1 hD1
      generalize H1 = H at hP hS ⊢
      as_aux_lemma =>
      rcases hw with ⟨h_207, h_208, h_209, h_210, h_211, h_212⟩ | ⟨h_213, h_214, h_215, h_216, h_217⟩
      · have h_212 : (r_204, x_205, x_206) = _ := h_212
        replace hEX := hEX.trans (exc3_eq h_212)
        replace hEX := hEX.trans (if_pos (show x_206 = (-1) from h_209))
        subst h_209
        have h_211 : x_196.toInt + 1 ≤ x_205.toInt := h_211
        refine va_iast hx hb hK hP hD hS 2 1 rfl rfl (RG_in g_203 (by decide +kernel)) dX12_readStep_50 (fun H locs hP hD hS => ?_)
        have hP : va_P (dC, dI) vwCl (wd_c_X12_readStep_7 h0 h0_f0 h0_1 h0_2 h0_3 h0_4 h0_5 h0_f6 h0_f7 h0_f8 h0_f9 x_205 (-1) h0_f12 h0_f13 h0_f14 h0_15 h0_16 h0_f17 h0_18 h0_19 h0_20 h0_21 h0_22 h0_23 h0_24 h0_25 h0_f26 h0_f27 h0_f28 h0_f29 h0_f30 h0_f31 h0_32 h0_33 h0_f34 h0_35 h0_36 h0_37 h0_38 h0_39 h0_40 h0_f41 h0_f42 h0_f43 h0_f44 h0_45 h0_46 h0_47 h0_48 h0_49 h0_50 h0_f51 h0_52 h0_f53 h0_5 h0_5k tN h0_5c h0_24 h0_24k (upd w_199 (x_202 : Int32).toNatClampNeg r_204)) H := hP
        have hD : va_D A (wd_c_X12_readStep_7 h0 h0_f0 h0_1 h0_2 h0_3 h0_4 h0_5 h0_f6 h0_f7 h0_f8 h0_f9 x_205 (-1) h0_f12 h0_f13 h0_f14 h0_15 h0_16 h0_f17 h0_18 h0_19 h0_20 h0_21 h0_22 h0_23 h0_24 h0_25 h0_f26 h0_f27 h0_f28 h0_f29 h0_f30 h0_f31 h0_32 h0_33 h0_f34 h0_35 h0_36 h0_37 h0_38 h0_39 h0_40 h0_f41 h0_f42 h0_f43 h0_f44 h0_45 h0_46 h0_47 h0_48 h0_49 h0_50 h0_f51 h0_52 h0_f53 h0_5 h0_5k tN h0_5c h0_24 h0_24k (upd w_199 (x_202 : Int32).toNatClampNeg r_204)) := hD
        have l_219 : (upd w_199 (x_202 : Int32).toNatClampNeg r_204) (x_202 : Int32).toNatClampNeg = r_204 := pk_us
        have a_220 : AI (upd w_199 (x_202 : Int32).toNatClampNeg r_204) (-1) 9 := AI_up a_201 h_207 (by decide +kernel)
        generalize huw_218 : (upd w_199 (x_202 : Int32).toNatClampNeg r_204) = w_218 at hP hD a_220 l_219
        replace hEX := hEX.trans (exl_eq huw_218.symm)
        have hP : va_P (dC, dI) vwCl (wd_c_X12_readStep_7 h0 h0_f0 h0_1 h0_2 h0_3 h0_4 h0_5 h0_f6 h0_f7 h0_f8 h0_f9 x_205 (-1) h0_f12 h0_f13 h0_f14 h0_15 h0_16 h0_f17 h0_18 h0_19 h0_20 h0_21 h0_22 h0_23 h0_24 h0_25 h0_f26 h0_f27 h0_f28 h0_f29 h0_f30 h0_f31 h0_32 h0_33 h0_f34 h0_35 h0_36 h0_37 h0_38 h0_39 h0_40 h0_f41 h0_f42 h0_f43 h0_f44 h0_45 h0_46 h0_47 h0_48 h0_49 h0_50 h0_f51 h0_52 h0_f53 h0_5 h0_5k tN h0_5c h0_24 h0_24k w_218) H := hP
        have hD : va_D A (wd_c_X12_readStep_7 h0 h0_f0 h0_1 h0_2 h0_3 h0_4 h0_5 h0_f6 h0_f7 h0_f8 h0_f9 x_205 (-1) h0_f12 h0_f13 h0_f14 h0_15 h0_16 h0_f17 h0_18 h0_19 h0_20 h0_21 h0_22 h0_23 h0_24 h0_25 h0_f26 h0_f27 h0_f28 h0_f29 h0_f30 h0_f31 h0_32 h0_33 h0_f34 h0_35 h0_36 h0_37 h0_38 h0_39 h0_40 h0_f41 h0_f42 h0_f43 h0_f44 h0_45 h0_46 h0_47 h0_48 h0_49 h0_50 h0_f51 h0_52 h0_f53 h0_5 h0_5k tN h0_5c h0_24 h0_24k w_218) := hD
        refine lv_aload_n hx hb dX12_readStep_51 rfl (lv_at hl 1 rfl) ?_
        as_aux_lemma =>
        refine va_get (D := (dC, dI)) (ci := 12) (v := .ref h0_24) (C := RX12) (T := TX12) (N := 54) hx hb hts iw_c_X12_readStep_7_X12 hown hK hP 0 rfl rfl 24 (by decide +kernel) (hts (.fieldLink RX12 55 "BuoyVoteModel" "plan" "[I") (List.mem_of_getElem? (i := 50) rfl)) (fun _ h9 => h9) rfl dX12_readStep_52 ?_
        refine lv_iload_n hx hb dX12_readStep_55 rfl (lv_at hl 2 rfl) ?_
        refine lv_iconst (v := 2) hx hb dX12_readStep_56 kc_iconst_2 ?_
        refine lv_iadd hx hb dX12_readStep_57 ?_
        refine lv_topi (fun x_221 ex_221 => ?_)
        replace hEX := hEX.trans (exl_eq ex_221)
        have g_222 : RG x_221 258 318 := RG_add ex_221 g_p1 (RG_k 2 2 rfl) (by decide +kernel)
        refine lv_iconst (v := (-1)) hx hb dX12_readStep_58 kc_iconst_m1 ?_
        refine va_iast hx hb hK hP hD hS 2 1 rfl rfl (RG_in g_222 (by decide +kernel)) dX12_readStep_59 (fun H locs hP hD hS => ?_)
        have hP : va_P (dC, dI) vwCl (wd_c_X12_readStep_7 h0 h0_f0 h0_1 h0_2 h0_3 h0_4 h0_5 h0_f6 h0_f7 h0_f8 h0_f9 x_205 (-1) h0_f12 h0_f13 h0_f14 h0_15 h0_16 h0_f17 h0_18 h0_19 h0_20 h0_21 h0_22 h0_23 h0_24 h0_25 h0_f26 h0_f27 h0_f28 h0_f29 h0_f30 h0_f31 h0_32 h0_33 h0_f34 h0_35 h0_36 h0_37 h0_38 h0_39 h0_40 h0_f41 h0_f42 h0_f43 h0_f44 h0_45 h0_46 h0_47 h0_48 h0_49 h0_50 h0_f51 h0_52 h0_f53 h0_5 h0_5k tN h0_5c h0_24 h0_24k (upd w_218 (x_221 : Int32).toNatClampNeg (-1))) H := hP
        have hD : va_D A (wd_c_X12_readStep_7 h0 h0_f0 h0_1 h0_2 h0_3 h0_4 h0_5 h0_f6 h0_f7 h0_f8 h0_f9 x_205 (-1) h0_f12 h0_f13 h0_f14 h0_15 h0_16 h0_f17 h0_18 h0_19 h0_20 h0_21 h0_22 h0_23 h0_24 h0_25 h0_f26 h0_f27 h0_f28 h0_f29 h0_f30 h0_f31 h0_32 h0_33 h0_f34 h0_35 h0_36 h0_37 h0_38 h0_39 h0_40 h0_f41 h0_f42 h0_f43 h0_f44 h0_45 h0_46 h0_47 h0_48 h0_49 h0_50 h0_f51 h0_52 h0_f53 h0_5 h0_5k tN h0_5c h0_24 h0_24k (upd w_218 (x_221 : Int32).toNatClampNeg (-1))) := hD
        have l_224 : (upd w_218 (x_221 : Int32).toNatClampNeg (-1)) (x_221 : Int32).toNatClampNeg = (-1) := pk_us
        have a_225 : AI (upd w_218 (x_221 : Int32).toNatClampNeg (-1)) (-1) 9 := AI_up a_220 (RG_k (-1) (-1) rfl) (by decide +kernel)
        generalize huw_223 : (upd w_218 (x_221 : Int32).toNatClampNeg (-1)) = w_223 at hP hD a_225 l_224
        replace hEX := hEX.trans (exl_eq huw_223.symm)
        have hP : va_P (dC, dI) vwCl (wd_c_X12_readStep_7 h0 h0_f0 h0_1 h0_2 h0_3 h0_4 h0_5 h0_f6 h0_f7 h0_f8 h0_f9 x_205 (-1) h0_f12 h0_f13 h0_f14 h0_15 h0_16 h0_f17 h0_18 h0_19 h0_20 h0_21 h0_22 h0_23 h0_24 h0_25 h0_f26 h0_f27 h0_f28 h0_f29 h0_f30 h0_f31 h0_32 h0_33 h0_f34 h0_35 h0_36 h0_37 h0_38 h0_39 h0_40 h0_f41 h0_f42 h0_f43 h0_f44 h0_45 h0_46 h0_47 h0_48 h0_49 h0_50 h0_f51 h0_52 h0_f53 h0_5 h0_5k tN h0_5c h0_24 h0_24k w_223) H := hP
        have hD : va_D A (wd_c_X12_readStep_7 h0 h0_f0 h0_1 h0_2 h0_3 h0_4 h0_5 h0_f6 h0_f7 h0_f8 h0_f9 x_205 (-1) h0_f12 h0_f13 h0_f14 h0_15 h0_16 h0_f17 h0_18 h0_19 h0_20 h0_21 h0_22 h0_23 h0_24 h0_25 h0_f26 h0_f27 h0_f28 h0_f29 h0_f30 h0_f31 h0_32 h0_33 h0_f34 h0_35 h0_36 h0_37 h0_38 h0_39 h0_40 h0_f41 h0_f42 h0_f43 h0_f44 h0_45 h0_46 h0_47 h0_48 h0_49 h0_50 h0_f51 h0_52 h0_f53 h0_5 h0_5k tN h0_5c h0_24 h0_24k w_223) := hD
        refine lv_aload_n hx hb dX12_readStep_60 rfl (lv_at hl 1 rfl) ?_
        as_aux_lemma =>
        refine va_get (D := (dC, dI)) (ci := 12) (v := .ref h0_24) (C := RX12) (T := TX12) (N := 54) hx hb hts iw_c_X12_readStep_7_X12 hown hK hP 0 rfl rfl 24 (by decide +kernel) (hts (.fieldLink RX12 55 "BuoyVoteModel" "plan" "[I") (List.mem_of_getElem? (i := 50) rfl)) (fun _ h9 => h9) rfl dX12_readStep_61 ?_
        refine lv_iload_n hx hb dX12_readStep_64 rfl (lv_at hl 2 rfl) ?_
        refine lv_iconst (v := 3) hx hb dX12_readStep_65 kc_iconst_3 ?_
        refine lv_iadd hx hb dX12_readStep_66 ?_
        refine lv_topi (fun x_226 ex_226 => ?_)
        replace hEX := hEX.trans (exl_eq ex_226)
        have g_227 : RG x_226 259 319 := RG_add ex_226 g_p1 (RG_k 3 3 rfl) (by decide +kernel)
        refine lv_iconst (v := (-1)) hx hb dX12_readStep_67 kc_iconst_m1 ?_
        refine va_iast hx hb hK hP hD hS 2 1 rfl rfl (RG_in g_227 (by decide +kernel)) dX12_readStep_68 (fun H locs hP hD hS => ?_)
        have hP : va_P (dC, dI) vwCl (wd_c_X12_readStep_7 h0 h0_f0 h0_1 h0_2 h0_3 h0_4 h0_5 h0_f6 h0_f7 h0_f8 h0_f9 x_205 (-1) h0_f12 h0_f13 h0_f14 h0_15 h0_16 h0_f17 h0_18 h0_19 h0_20 h0_21 h0_22 h0_23 h0_24 h0_25 h0_f26 h0_f27 h0_f28 h0_f29 h0_f30 h0_f31 h0_32 h0_33 h0_f34 h0_35 h0_36 h0_37 h0_38 h0_39 h0_40 h0_f41 h0_f42 h0_f43 h0_f44 h0_45 h0_46 h0_47 h0_48 h0_49 h0_50 h0_f51 h0_52 h0_f53 h0_5 h0_5k tN h0_5c h0_24 h0_24k (upd w_223 (x_226 : Int32).toNatClampNeg (-1))) H := hP
        have hD : va_D A (wd_c_X12_readStep_7 h0 h0_f0 h0_1 h0_2 h0_3 h0_4 h0_5 h0_f6 h0_f7 h0_f8 h0_f9 x_205 (-1) h0_f12 h0_f13 h0_f14 h0_15 h0_16 h0_f17 h0_18 h0_19 h0_20 h0_21 h0_22 h0_23 h0_24 h0_25 h0_f26 h0_f27 h0_f28 h0_f29 h0_f30 h0_f31 h0_32 h0_33 h0_f34 h0_35 h0_36 h0_37 h0_38 h0_39 h0_40 h0_f41 h0_f42 h0_f43 h0_f44 h0_45 h0_46 h0_47 h0_48 h0_49 h0_50 h0_f51 h0_52 h0_f53 h0_5 h0_5k tN h0_5c h0_24 h0_24k (upd w_223 (x_226 : Int32).toNatClampNeg (-1))) := hD
        have l_229 : (upd w_223 (x_226 : Int32).toNatClampNeg (-1)) (x_226 : Int32).toNatClampNeg = (-1) := pk_us
        have a_230 : AI (upd w_223 (x_226 : Int32).toNatClampNeg (-1)) (-1) 9 := AI_up a_225 (RG_k (-1) (-1) rfl) (by decide +kernel)
        generalize huw_228 : (upd w_223 (x_226 : Int32).toNatClampNeg (-1)) = w_228 at hP hD a_230 l_229
        replace hEX := hEX.trans (exl_eq huw_228.symm)
        have hP : va_P (dC, dI) vwCl (wd_c_X12_readStep_7 h0 h0_f0 h0_1 h0_2 h0_3 h0_4 h0_5 h0_f6 h0_f7 h0_f8 h0_f9 x_205 (-1) h0_f12 h0_f13 h0_f14 h0_15 h0_16 h0_f17 h0_18 h0_19 h0_20 h0_21 h0_22 h0_23 h0_24 h0_25 h0_f26 h0_f27 h0_f28 h0_f29 h0_f30 h0_f31 h0_32 h0_33 h0_f34 h0_35 h0_36 h0_37 h0_38 h0_39 h0_40 h0_f41 h0_f42 h0_f43 h0_f44 h0_45 h0_46 h0_47 h0_48 h0_49 h0_50 h0_f51 h0_52 h0_f53 h0_5 h0_5k tN h0_5c h0_24 h0_24k w_228) H := hP
        have hD : va_D A (wd_c_X12_readStep_7 h0 h0_f0 h0_1 h0_2 h0_3 h0_4 h0_5 h0_f6 h0_f7 h0_f8 h0_f9 x_205 (-1) h0_f12 h0_f13 h0_f14 h0_15 h0_16 h0_f17 h0_18 h0_19 h0_20 h0_21 h0_22 h0_23 h0_24 h0_25 h0_f26 h0_f27 h0_f28 h0_f29 h0_f30 h0_f31 h0_32 h0_33 h0_f34 h0_35 h0_36 h0_37 h0_38 h0_39 h0_40 h0_f41 h0_f42 h0_f43 h0_f44 h0_45 h0_46 h0_47 h0_48 h0_49 h0_50 h0_f51 h0_52 h0_f53 h0_5 h0_5k tN h0_5c h0_24 h0_24k w_228) := hD
        refine lv_aload_n hx hb dX12_readStep_69 rfl (lv_at hl 1 rfl) ?_
        as_aux_lemma =>
        refine va_get (D := (dC, dI)) (ci := 12) (v := .int (-1)) (C := RX12) (T := TX12) (N := 54) hx hb hts iw_c_X12_readStep_7_X12 hown hK hP 0 rfl rfl 11 (by decide +kernel) (hts (.fieldLink RX12 143 "BuoyVoteModel" "fault" "I") (List.mem_of_getElem? (i := 49) rfl)) (fun _ h9 => h9) rfl dX12_readStep_70 ?_
        refine lv_iconst (v := (-1)) hx hb dX12_readStep_73 kc_iconst_m1 ?_
        refine lv_icmp_ne (tgt := 94) hx hb dX12_readStep_74 rfl (fun c_231 => absurd c_231 (by decide +kernel)) (fun c_231 => ?_)
        refine lv_iload_n hx hb dX12_readStep_77 rfl (lv_at hl 0 rfl) ?_
        refine lv_iconst (v := 3) hx hb dX12_readStep_78 kc_iconst_3 ?_
        refine lv_icmp_ge (tgt := 94) hx hb dX12_readStep_79 rfl (fun c_232 => absurd c_232 (by decide +kernel)) (fun c_232 => ?_)
        refine lv_aload_n hx hb dX12_readStep_82 rfl (lv_at hl 1 rfl) ?_
        refine va_get (D := (dC, dI)) (ci := 12) (v := .ref h0_24) (C := RX12) (T := TX12) (N := 54) hx hb hts iw_c_X12_readStep_7_X12 hown hK hP 0 rfl rfl 24 (by decide +kernel) (hts (.fieldLink RX12 55 "BuoyVoteModel" "plan" "[I") (List.mem_of_getElem? (i := 50) rfl)) (fun _ h9 => h9) rfl dX12_readStep_83 ?_
        refine lv_iload_n hx hb dX12_readStep_86 rfl (lv_at hl 2 rfl) ?_
        refine lv_iconst (v := 2) hx hb dX12_readStep_87 kc_iconst_2 ?_
        refine lv_iadd hx hb dX12_readStep_88 ?_
        refine lv_topi (fun x_233 ex_233 => ?_)
        obtain rfl : x_221 = x_233 := ex_221.trans ex_233.symm
        refine lv_aload_n hx hb dX12_readStep_89 rfl (lv_at hl 1 rfl) ?_
        as_aux_lemma =>
        obtain ⟨hPc, hDc, hFc, hqc⟩ := cl_cut (wc := (wd_c_X12_digit h0 h0_f0 h0_1 h0_2 h0_3 h0_4 h0_5 h0_f6 h0_f7 h0_f8 h0_f9 x_205 (-1) h0_f12 h0_f13 h0_f14 h0_15 h0_16 h0_f17 h0_18 h0_19 h0_20 h0_21 h0_22 h0_23 h0_24 h0_25 h0_f26 h0_f27 h0_f28 h0_f29 h0_f30 h0_f31 h0_32 h0_33 h0_f34 h0_35 h0_36 h0_37 h0_38 h0_39 h0_40 h0_f41 h0_f42 h0_f43 h0_f44 h0_45 h0_46 h0_47 h0_48 h0_49 h0_50 h0_f51 h0_52 h0_f53 h0_5 h0_5k tN h0_5c)) hP hD hS hA [0, 1] (by decide +kernel) rfl
        have hKc := hK.sub (tys' := [(h0_5k, .byte)]) [0] rfl
        have hrv := va_recv hKc hPc (ci := 12) (q0 := 0) rfl rfl
        refine va_calli (va_runV (As := []) (rest := [.int x_221, .ref h0_24]) ⟨hx, hb, hml, hown, hts⟩ (c_X12_digit l dC dI H.size h0 h0_f0 h0_1 h0_2 h0_3 h0_4 h0_5 h0_f6 h0_f7 h0_f8 h0_f9 x_205 h0_f12 h0_f13 h0_f14 h0_15 h0_16 h0_f17 h0_18 h0_19 h0_20 h0_21 h0_22 h0_23 h0_24 h0_25 h0_f26 h0_f27 h0_f28 h0_f29 h0_f30 h0_f31 h0_32 h0_33 h0_f34 h0_35 h0_36 h0_37 h0_38 h0_39 h0_40 h0_f41 h0_f42 h0_f43 h0_f44 h0_45 h0_46 h0_47 h0_48 h0_49 h0_50 h0_f51 h0_52 h0_f53 h0_5k h0_5c tN g_h0_f6 g_h0_f7 g_h0_f8 (RG_w h_38 (by decide +kernel)) (RG_w h_208 (by decide +kernel)) g_h0_f17 g_h0_f26 g_h0_f27 g_h0_f28 g_h0_f29 g_h0_f30 g_h0_f31 g_h0_f34 g_h0_f41 g_h0_f51 g_h0_f53 htN) (cwV 0 hts gf_c_X12_readStep_7_c_X12_digit rfl rfl rfl mdV_X12_digit ⟨Nat.le_of_ble_eq_true rfl, Nat.le_of_ble_eq_true rfl⟩) ⟨fun a U g mk q => by obtain ⟨q0, q1, qP, qK, qD⟩ := q; exact ⟨q0, q1, qP, va_K.moved (u := U) (U := U.calling g mk a) (Vm.Alike.refl U.vm) qK, qD⟩, hrv, fun U hU hW => ⟨rfl, by rw [hU], by rw [hU]; exact hPc, va_K.moved hW.alike hKc, hDc.weaken (fun _ _ _ _ => trivial)⟩⟩ rfl rfl hl.1 rfl (lv_room (Nat.le_of_ble_eq_true rfl)) dX12_readStep_90 ⟨Nat.le_of_ble_eq_true rfl, Nat.le_of_ble_eq_true rfl⟩) hS (fun q _ h => hFc q h) hFc (fun r_234 u t H1 locs ht hvm hw hB hz1 hk1 hS => ?_)
        obtain ⟨x_235, x_236⟩ := u
        obtain ⟨hP1, hK1, hD1⟩ := hB
        rw [ht] at hP1
        obtain ⟨hP, hD⟩ := cl_put (w1 := (wd_c_X12_digit h0 h0_f0 h0_1 h0_2 h0_3 h0_4 h0_5 h0_f6 h0_f7 h0_f8 h0_f9 x_235 x_236 h0_f12 h0_f13 h0_f14 h0_15 h0_16 h0_f17 h0_18 h0_19 h0_20 h0_21 h0_22 h0_23 h0_24 h0_25 h0_f26 h0_f27 h0_f28 h0_f29 h0_f30 h0_f31 h0_32 h0_33 h0_f34 h0_35 h0_36 h0_37 h0_38 h0_39 h0_40 h0_f41 h0_f42 h0_f43 h0_f44 h0_45 h0_46 h0_47 h0_48 h0_49 h0_50 h0_f51 h0_52 h0_f53 h0_5 h0_5k tN h0_5c)) (nw := (wd_c_X12_readStep_7 h0 h0_f0 h0_1 h0_2 h0_3 h0_4 h0_5 h0_f6 h0_f7 h0_f8 h0_f9 x_235 x_236 h0_f12 h0_f13 h0_f14 h0_15 h0_16 h0_f17 h0_18 h0_19 h0_20 h0_21 h0_22 h0_23 h0_24 h0_25 h0_f26 h0_f27 h0_f28 h0_f29 h0_f30 h0_f31 h0_32 h0_33 h0_f34 h0_35 h0_36 h0_37 h0_38 h0_39 h0_40 h0_f41 h0_f42 h0_f43 h0_f44 h0_45 h0_46 h0_47 h0_48 h0_49 h0_50 h0_f51 h0_52 h0_f53 h0_5 h0_5k tN h0_5c h0_24 h0_24k w_228)) hP hD [0, 1] [3, 4, 2] 3 rfl hqc (by decide +kernel) rfl hk1 hFc hP1 hD1
        generalize H1 = H at hP hS ⊢
        as_aux_lemma =>
        rcases hw with ⟨h_237, h_238, h_239, h_240, h_241, h_242⟩ | ⟨h_243, h_244, h_245, h_246, h_247⟩
        · have h_242 : (r_234, x_235, x_236) = _ := h_242
          replace hEX := hEX.trans (exc3_eq h_242)
          replace hEX := hEX.trans (if_pos (show x_236 = (-1) from h_239))
          subst h_239
          have h_241 : x_205.toInt + 1 ≤ x_235.toInt := h_241
          refine va_iast hx hb hK hP hD hS 2 1 rfl rfl (RG_in g_222 (by decide +kernel)) dX12_readStep_93 (fun H locs hP hD hS => ?_)
          have hP : va_P (dC, dI) vwCl (wd_c_X12_readStep_7 h0 h0_f0 h0_1 h0_2 h0_3 h0_4 h0_5 h0_f6 h0_f7 h0_f8 h0_f9 x_235 (-1) h0_f12 h0_f13 h0_f14 h0_15 h0_16 h0_f17 h0_18 h0_19 h0_20 h0_21 h0_22 h0_23 h0_24 h0_25 h0_f26 h0_f27 h0_f28 h0_f29 h0_f30 h0_f31 h0_32 h0_33 h0_f34 h0_35 h0_36 h0_37 h0_38 h0_39 h0_40 h0_f41 h0_f42 h0_f43 h0_f44 h0_45 h0_46 h0_47 h0_48 h0_49 h0_50 h0_f51 h0_52 h0_f53 h0_5 h0_5k tN h0_5c h0_24 h0_24k (upd w_228 (x_221 : Int32).toNatClampNeg r_234)) H := hP
          have hD : va_D A (wd_c_X12_readStep_7 h0 h0_f0 h0_1 h0_2 h0_3 h0_4 h0_5 h0_f6 h0_f7 h0_f8 h0_f9 x_235 (-1) h0_f12 h0_f13 h0_f14 h0_15 h0_16 h0_f17 h0_18 h0_19 h0_20 h0_21 h0_22 h0_23 h0_24 h0_25 h0_f26 h0_f27 h0_f28 h0_f29 h0_f30 h0_f31 h0_32 h0_33 h0_f34 h0_35 h0_36 h0_37 h0_38 h0_39 h0_40 h0_f41 h0_f42 h0_f43 h0_f44 h0_45 h0_46 h0_47 h0_48 h0_49 h0_50 h0_f51 h0_52 h0_f53 h0_5 h0_5k tN h0_5c h0_24 h0_24k (upd w_228 (x_221 : Int32).toNatClampNeg r_234)) := hD
          have l_249 : (upd w_228 (x_221 : Int32).toNatClampNeg r_234) (x_221 : Int32).toNatClampNeg = r_234 := pk_us
          have a_250 : AI (upd w_228 (x_221 : Int32).toNatClampNeg r_234) (-1) 9 := AI_up a_230 h_237 (by decide +kernel)
          generalize huw_248 : (upd w_228 (x_221 : Int32).toNatClampNeg r_234) = w_248 at hP hD a_250 l_249
          replace hEX := hEX.trans (exl_eq huw_248.symm)
          have hP : va_P (dC, dI) vwCl (wd_c_X12_readStep_7 h0 h0_f0 h0_1 h0_2 h0_3 h0_4 h0_5 h0_f6 h0_f7 h0_f8 h0_f9 x_235 (-1) h0_f12 h0_f13 h0_f14 h0_15 h0_16 h0_f17 h0_18 h0_19 h0_20 h0_21 h0_22 h0_23 h0_24 h0_25 h0_f26 h0_f27 h0_f28 h0_f29 h0_f30 h0_f31 h0_32 h0_33 h0_f34 h0_35 h0_36 h0_37 h0_38 h0_39 h0_40 h0_f41 h0_f42 h0_f43 h0_f44 h0_45 h0_46 h0_47 h0_48 h0_49 h0_50 h0_f51 h0_52 h0_f53 h0_5 h0_5k tN h0_5c h0_24 h0_24k w_248) H := hP
          have hD : va_D A (wd_c_X12_readStep_7 h0 h0_f0 h0_1 h0_2 h0_3 h0_4 h0_5 h0_f6 h0_f7 h0_f8 h0_f9 x_235 (-1) h0_f12 h0_f13 h0_f14 h0_15 h0_16 h0_f17 h0_18 h0_19 h0_20 h0_21 h0_22 h0_23 h0_24 h0_25 h0_f26 h0_f27 h0_f28 h0_f29 h0_f30 h0_f31 h0_32 h0_33 h0_f34 h0_35 h0_36 h0_37 h0_38 h0_39 h0_40 h0_f41 h0_f42 h0_f43 h0_f44 h0_45 h0_46 h0_47 h0_48 h0_49 h0_50 h0_f51 h0_52 h0_f53 h0_5 h0_5k tN h0_5c h0_24 h0_24k w_248) := hD
          exact hU _ _ _ (J94 1 x_235 w_248 g_h0_f10 g_h0_f17 g_h0_f26 g_h0_f27 g_h0_f28 g_h0_f29 g_h0_f30 g_h0_f31 g_h0_f34 g_h0_f41 g_h0_f51 g_h0_f53 g_h0_f6 g_h0_f7 g_h0_f8 h_38 h_238 (RG_w (RG_k 1 1 rfl) (by decide +kernel)) g_p1 a_250 (by have := h_39; have := q_198; have := h_211; have := h_241; omega) hEX _ _ _ hP hD hS (lv_sub hl [0, 1, 2] rfl))
        · have h_247 : (r_234, x_235, x_236) = _ := h_247
          replace hEX := hEX.trans (exc3_eq h_247)
          replace hEX := hEX.trans (if_neg (RG_neq (x := x_236) (c := (-1)) (show RG x_236 0 240 from h_245) (by decide +kernel)))
          rw [h_243]
          have h_246 : x_205.toInt + 0 ≤ x_235.toInt := h_246
          refine va_iast hx hb hK hP hD hS 2 1 rfl rfl (RG_in g_222 (by decide +kernel)) dX12_readStep_93 (fun H locs hP hD hS => ?_)
          as_aux_lemma =>
          have hP : va_P (dC, dI) vwCl (wd_c_X12_readStep_7 h0 h0_f0 h0_1 h0_2 h0_3 h0_4 h0_5 h0_f6 h0_f7 h0_f8 h0_f9 x_235 x_236 h0_f12 h0_f13 h0_f14 h0_15 h0_16 h0_f17 h0_18 h0_19 h0_20 h0_21 h0_22 h0_23 h0_24 h0_25 h0_f26 h0_f27 h0_f28 h0_f29 h0_f30 h0_f31 h0_32 h0_33 h0_f34 h0_35 h0_36 h0_37 h0_38 h0_39 h0_40 h0_f41 h0_f42 h0_f43 h0_f44 h0_45 h0_46 h0_47 h0_48 h0_49 h0_50 h0_f51 h0_52 h0_f53 h0_5 h0_5k tN h0_5c h0_24 h0_24k (upd w_228 (x_221 : Int32).toNatClampNeg 0)) H := hP
          have hD : va_D A (wd_c_X12_readStep_7 h0 h0_f0 h0_1 h0_2 h0_3 h0_4 h0_5 h0_f6 h0_f7 h0_f8 h0_f9 x_235 x_236 h0_f12 h0_f13 h0_f14 h0_15 h0_16 h0_f17 h0_18 h0_19 h0_20 h0_21 h0_22 h0_23 h0_24 h0_25 h0_f26 h0_f27 h0_f28 h0_f29 h0_f30 h0_f31 h0_32 h0_33 h0_f34 h0_35 h0_36 h0_37 h0_38 h0_39 h0_40 h0_f41 h0_f42 h0_f43 h0_f44 h0_45 h0_46 h0_47 h0_48 h0_49 h0_50 h0_f51 h0_52 h0_f53 h0_5 h0_5k tN h0_5c h0_24 h0_24k (upd w_228 (x_221 : Int32).toNatClampNeg 0)) := hD
          have l_252 : (upd w_228 (x_221 : Int32).toNatClampNeg 0) (x_221 : Int32).toNatClampNeg = 0 := pk_us
          have a_253 : AI (upd w_228 (x_221 : Int32).toNatClampNeg 0) (-1) 9 := AI_up a_230 (RG_k 0 0 rfl) (by decide +kernel)
          generalize huw_251 : (upd w_228 (x_221 : Int32).toNatClampNeg 0) = w_251 at hP hD a_253 l_252
          replace hEX := hEX.trans (exl_eq huw_251.symm)
          have hP : va_P (dC, dI) vwCl (wd_c_X12_readStep_7 h0 h0_f0 h0_1 h0_2 h0_3 h0_4 h0_5 h0_f6 h0_f7 h0_f8 h0_f9 x_235 x_236 h0_f12 h0_f13 h0_f14 h0_15 h0_16 h0_f17 h0_18 h0_19 h0_20 h0_21 h0_22 h0_23 h0_24 h0_25 h0_f26 h0_f27 h0_f28 h0_f29 h0_f30 h0_f31 h0_32 h0_33 h0_f34 h0_35 h0_36 h0_37 h0_38 h0_39 h0_40 h0_f41 h0_f42 h0_f43 h0_f44 h0_45 h0_46 h0_47 h0_48 h0_49 h0_50 h0_f51 h0_52 h0_f53 h0_5 h0_5k tN h0_5c h0_24 h0_24k w_251) H := hP
          have hD : va_D A (wd_c_X12_readStep_7 h0 h0_f0 h0_1 h0_2 h0_3 h0_4 h0_5 h0_f6 h0_f7 h0_f8 h0_f9 x_235 x_236 h0_f12 h0_f13 h0_f14 h0_15 h0_16 h0_f17 h0_18 h0_19 h0_20 h0_21 h0_22 h0_23 h0_24 h0_25 h0_f26 h0_f27 h0_f28 h0_f29 h0_f30 h0_f31 h0_32 h0_33 h0_f34 h0_35 h0_36 h0_37 h0_38 h0_39 h0_40 h0_f41 h0_f42 h0_f43 h0_f44 h0_45 h0_46 h0_47 h0_48 h0_49 h0_50 h0_f51 h0_52 h0_f53 h0_5 h0_5k tN h0_5c h0_24 h0_24k w_251) := hD
          exact hU _ _ _ (J94b 1 x_235 x_236 w_251 g_h0_f10 g_h0_f17 g_h0_f26 g_h0_f27 g_h0_f28 g_h0_f29 g_h0_f30 g_h0_f31 g_h0_f34 g_h0_f41 g_h0_f51 g_h0_f53 g_h0_f6 g_h0_f7 g_h0_f8 h_38 h_244 h_245 (RG_w (RG_k 1 1 rfl) (by decide +kernel)) g_p1 a_253 (by have := h_39; have := q_198; have := h_211; have := h_246; omega) hEX _ _ _ hP hD hS (lv_sub hl [0, 1, 2] rfl))
      · have h_217 : (r_204, x_205, x_206) = _ := h_217
        replace hEX := hEX.trans (exc3_eq h_217)
        replace hEX := hEX.trans (if_neg (RG_neq (x := x_206) (c := (-1)) (show RG x_206 0 240 from h_215) (by decide +kernel)))
        rw [h_213]
        have h_216 : x_196.toInt + 0 ≤ x_205.toInt := h_216
        refine va_iast hx hb hK hP hD hS 2 1 rfl rfl (RG_in g_203 (by decide +kernel)) dX12_readStep_50 (fun H locs hP hD hS => ?_)
        as_aux_lemma =>
        have hP : va_P (dC, dI) vwCl (wd_c_X12_readStep_7 h0 h0_f0 h0_1 h0_2 h0_3 h0_4 h0_5 h0_f6 h0_f7 h0_f8 h0_f9 x_205 x_206 h0_f12 h0_f13 h0_f14 h0_15 h0_16 h0_f17 h0_18 h0_19 h0_20 h0_21 h0_22 h0_23 h0_24 h0_25 h0_f26 h0_f27 h0_f28 h0_f29 h0_f30 h0_f31 h0_32 h0_33 h0_f34 h0_35 h0_36 h0_37 h0_38 h0_39 h0_40 h0_f41 h0_f42 h0_f43 h0_f44 h0_45 h0_46 h0_47 h0_48 h0_49 h0_50 h0_f51 h0_52 h0_f53 h0_5 h0_5k tN h0_5c h0_24 h0_24k (upd w_199 (x_202 : Int32).toNatClampNeg 0)) H := hP
        have hD : va_D A (wd_c_X12_readStep_7 h0 h0_f0 h0_1 h0_2 h0_3 h0_4 h0_5 h0_f6 h0_f7 h0_f8 h0_f9 x_205 x_206 h0_f12 h0_f13 h0_f14 h0_15 h0_16 h0_f17 h0_18 h0_19 h0_20 h0_21 h0_22 h0_23 h0_24 h0_25 h0_f26 h0_f27 h0_f28 h0_f29 h0_f30 h0_f31 h0_32 h0_33 h0_f34 h0_35 h0_36 h0_37 h0_38 h0_39 h0_40 h0_f41 h0_f42 h0_f43 h0_f44 h0_45 h0_46 h0_47 h0_48 h0_49 h0_50 h0_f51 h0_52 h0_f53 h0_5 h0_5k tN h0_5c h0_24 h0_24k (upd w_199 (x_202 : Int32).toNatClampNeg 0)) := hD
        have l_255 : (upd w_199 (x_202 : Int32).toNatClampNeg 0) (x_202 : Int32).toNatClampNeg = 0 := pk_us
        have a_256 : AI (upd w_199 (x_202 : Int32).toNatClampNeg 0) (-1) 9 := AI_up a_201 (RG_k 0 0 rfl) (by decide +kernel)
        generalize huw_254 : (upd w_199 (x_202 : Int32).toNatClampNeg 0) = w_254 at hP hD a_256 l_255
        replace hEX := hEX.trans (exl_eq huw_254.symm)
        have hP : va_P (dC, dI) vwCl (wd_c_X12_readStep_7 h0 h0_f0 h0_1 h0_2 h0_3 h0_4 h0_5 h0_f6 h0_f7 h0_f8 h0_f9 x_205 x_206 h0_f12 h0_f13 h0_f14 h0_15 h0_16 h0_f17 h0_18 h0_19 h0_20 h0_21 h0_22 h0_23 h0_24 h0_25 h0_f26 h0_f27 h0_f28 h0_f29 h0_f30 h0_f31 h0_32 h0_33 h0_f34 h0_35 h0_36 h0_37 h0_38 h0_39 h0_40 h0_f41 h0_f42 h0_f43 h0_f44 h0_45 h0_46 h0_47 h0_48 h0_49 h0_50 h0_f51 h0_52 h0_f53 h0_5 h0_5k tN h0_5c h0_24 h0_24k w_254) H := hP
        have hD : va_D A (wd_c_X12_readStep_7 h0 h0_f0 h0_1 h0_2 h0_3 h0_4 h0_5 h0_f6 h0_f7 h0_f8 h0_f9 x_205 x_206 h0_f12 h0_f13 h0_f14 h0_15 h0_16 h0_f17 h0_18 h0_19 h0_20 h0_21 h0_22 h0_23 h0_24 h0_25 h0_f26 h0_f27 h0_f28 h0_f29 h0_f30 h0_f31 h0_32 h0_33 h0_f34 h0_35 h0_36 h0_37 h0_38 h0_39 h0_40 h0_f41 h0_f42 h0_f43 h0_f44 h0_45 h0_46 h0_47 h0_48 h0_49 h0_50 h0_f51 h0_52 h0_f53 h0_5 h0_5k tN h0_5c h0_24 h0_24k w_254) := hD
        refine lv_aload_n hx hb dX12_readStep_51 rfl (lv_at hl 1 rfl) ?_
        refine va_get (D := (dC, dI)) (ci := 12) (v := .ref h0_24) (C := RX12) (T := TX12) (N := 54) hx hb hts iw_c_X12_readStep_7_X12 hown hK hP 0 rfl rfl 24 (by decide +kernel) (hts (.fieldLink RX12 55 "BuoyVoteModel" "plan" "[I") (List.mem_of_getElem? (i := 50) rfl)) (fun _ h9 => h9) rfl dX12_readStep_52 ?_
        refine lv_iload_n hx hb dX12_readStep_55 rfl (lv_at hl 2 rfl) ?_
        refine lv_iconst (v := 2) hx hb dX12_readStep_56 kc_iconst_2 ?_
        refine lv_iadd hx hb dX12_readStep_57 ?_
        refine lv_topi (fun x_257 ex_257 => ?_)
        as_aux_lemma =>
        replace hEX := hEX.trans (exl_eq ex_257)
        have g_258 : RG x_257 258 318 := RG_add ex_257 g_p1 (RG_k 2 2 rfl) (by decide +kernel)
        refine lv_iconst (v := (-1)) hx hb dX12_readStep_58 kc_iconst_m1 ?_
        refine va_iast hx hb hK hP hD hS 2 1 rfl rfl (RG_in g_258 (by decide +kernel)) dX12_readStep_59 (fun H locs hP hD hS => ?_)
        have hP : va_P (dC, dI) vwCl (wd_c_X12_readStep_7 h0 h0_f0 h0_1 h0_2 h0_3 h0_4 h0_5 h0_f6 h0_f7 h0_f8 h0_f9 x_205 x_206 h0_f12 h0_f13 h0_f14 h0_15 h0_16 h0_f17 h0_18 h0_19 h0_20 h0_21 h0_22 h0_23 h0_24 h0_25 h0_f26 h0_f27 h0_f28 h0_f29 h0_f30 h0_f31 h0_32 h0_33 h0_f34 h0_35 h0_36 h0_37 h0_38 h0_39 h0_40 h0_f41 h0_f42 h0_f43 h0_f44 h0_45 h0_46 h0_47 h0_48 h0_49 h0_50 h0_f51 h0_52 h0_f53 h0_5 h0_5k tN h0_5c h0_24 h0_24k (upd w_254 (x_257 : Int32).toNatClampNeg (-1))) H := hP
        have hD : va_D A (wd_c_X12_readStep_7 h0 h0_f0 h0_1 h0_2 h0_3 h0_4 h0_5 h0_f6 h0_f7 h0_f8 h0_f9 x_205 x_206 h0_f12 h0_f13 h0_f14 h0_15 h0_16 h0_f17 h0_18 h0_19 h0_20 h0_21 h0_22 h0_23 h0_24 h0_25 h0_f26 h0_f27 h0_f28 h0_f29 h0_f30 h0_f31 h0_32 h0_33 h0_f34 h0_35 h0_36 h0_37 h0_38 h0_39 h0_40 h0_f41 h0_f42 h0_f43 h0_f44 h0_45 h0_46 h0_47 h0_48 h0_49 h0_50 h0_f51 h0_52 h0_f53 h0_5 h0_5k tN h0_5c h0_24 h0_24k (upd w_254 (x_257 : Int32).toNatClampNeg (-1))) := hD
        have l_260 : (upd w_254 (x_257 : Int32).toNatClampNeg (-1)) (x_257 : Int32).toNatClampNeg = (-1) := pk_us
        have a_261 : AI (upd w_254 (x_257 : Int32).toNatClampNeg (-1)) (-1) 9 := AI_up a_256 (RG_k (-1) (-1) rfl) (by decide +kernel)
        generalize huw_259 : (upd w_254 (x_257 : Int32).toNatClampNeg (-1)) = w_259 at hP hD a_261 l_260
        replace hEX := hEX.trans (exl_eq huw_259.symm)
        have hP : va_P (dC, dI) vwCl (wd_c_X12_readStep_7 h0 h0_f0 h0_1 h0_2 h0_3 h0_4 h0_5 h0_f6 h0_f7 h0_f8 h0_f9 x_205 x_206 h0_f12 h0_f13 h0_f14 h0_15 h0_16 h0_f17 h0_18 h0_19 h0_20 h0_21 h0_22 h0_23 h0_24 h0_25 h0_f26 h0_f27 h0_f28 h0_f29 h0_f30 h0_f31 h0_32 h0_33 h0_f34 h0_35 h0_36 h0_37 h0_38 h0_39 h0_40 h0_f41 h0_f42 h0_f43 h0_f44 h0_45 h0_46 h0_47 h0_48 h0_49 h0_50 h0_f51 h0_52 h0_f53 h0_5 h0_5k tN h0_5c h0_24 h0_24k w_259) H := hP
        have hD : va_D A (wd_c_X12_readStep_7 h0 h0_f0 h0_1 h0_2 h0_3 h0_4 h0_5 h0_f6 h0_f7 h0_f8 h0_f9 x_205 x_206 h0_f12 h0_f13 h0_f14 h0_15 h0_16 h0_f17 h0_18 h0_19 h0_20 h0_21 h0_22 h0_23 h0_24 h0_25 h0_f26 h0_f27 h0_f28 h0_f29 h0_f30 h0_f31 h0_32 h0_33 h0_f34 h0_35 h0_36 h0_37 h0_38 h0_39 h0_40 h0_f41 h0_f42 h0_f43 h0_f44 h0_45 h0_46 h0_47 h0_48 h0_49 h0_50 h0_f51 h0_52 h0_f53 h0_5 h0_5k tN h0_5c h0_24 h0_24k w_259) := hD
        refine lv_aload_n hx hb dX12_readStep_60 rfl (lv_at hl 1 rfl) ?_
        refine va_get (D := (dC, dI)) (ci := 12) (v := .ref h0_24) (C := RX12) (T := TX12) (N := 54) hx hb hts iw_c_X12_readStep_7_X12 hown hK hP 0 rfl rfl 24 (by decide +kernel) (hts (.fieldLink RX12 55 "BuoyVoteModel" "plan" "[I") (List.mem_of_getElem? (i := 50) rfl)) (fun _ h9 => h9) rfl dX12_readStep_61 ?_
        as_aux_lemma =>
        refine lv_iload_n hx hb dX12_readStep_64 rfl (lv_at hl 2 rfl) ?_
        refine lv_iconst (v := 3) hx hb dX12_readStep_65 kc_iconst_3 ?_
        refine lv_iadd hx hb dX12_readStep_66 ?_
        refine lv_topi (fun x_262 ex_262 => ?_)
        replace hEX := hEX.trans (exl_eq ex_262)
        have g_263 : RG x_262 259 319 := RG_add ex_262 g_p1 (RG_k 3 3 rfl) (by decide +kernel)
        refine lv_iconst (v := (-1)) hx hb dX12_readStep_67 kc_iconst_m1 ?_
        refine va_iast hx hb hK hP hD hS 2 1 rfl rfl (RG_in g_263 (by decide +kernel)) dX12_readStep_68 (fun H locs hP hD hS => ?_)
        have hP : va_P (dC, dI) vwCl (wd_c_X12_readStep_7 h0 h0_f0 h0_1 h0_2 h0_3 h0_4 h0_5 h0_f6 h0_f7 h0_f8 h0_f9 x_205 x_206 h0_f12 h0_f13 h0_f14 h0_15 h0_16 h0_f17 h0_18 h0_19 h0_20 h0_21 h0_22 h0_23 h0_24 h0_25 h0_f26 h0_f27 h0_f28 h0_f29 h0_f30 h0_f31 h0_32 h0_33 h0_f34 h0_35 h0_36 h0_37 h0_38 h0_39 h0_40 h0_f41 h0_f42 h0_f43 h0_f44 h0_45 h0_46 h0_47 h0_48 h0_49 h0_50 h0_f51 h0_52 h0_f53 h0_5 h0_5k tN h0_5c h0_24 h0_24k (upd w_259 (x_262 : Int32).toNatClampNeg (-1))) H := hP
        have hD : va_D A (wd_c_X12_readStep_7 h0 h0_f0 h0_1 h0_2 h0_3 h0_4 h0_5 h0_f6 h0_f7 h0_f8 h0_f9 x_205 x_206 h0_f12 h0_f13 h0_f14 h0_15 h0_16 h0_f17 h0_18 h0_19 h0_20 h0_21 h0_22 h0_23 h0_24 h0_25 h0_f26 h0_f27 h0_f28 h0_f29 h0_f30 h0_f31 h0_32 h0_33 h0_f34 h0_35 h0_36 h0_37 h0_38 h0_39 h0_40 h0_f41 h0_f42 h0_f43 h0_f44 h0_45 h0_46 h0_47 h0_48 h0_49 h0_50 h0_f51 h0_52 h0_f53 h0_5 h0_5k tN h0_5c h0_24 h0_24k (upd w_259 (x_262 : Int32).toNatClampNeg (-1))) := hD
        have l_265 : (upd w_259 (x_262 : Int32).toNatClampNeg (-1)) (x_262 : Int32).toNatClampNeg = (-1) := pk_us
        have a_266 : AI (upd w_259 (x_262 : Int32).toNatClampNeg (-1)) (-1) 9 := AI_up a_261 (RG_k (-1) (-1) rfl) (by decide +kernel)
        generalize huw_264 : (upd w_259 (x_262 : Int32).toNatClampNeg (-1)) = w_264 at hP hD a_266 l_265
        replace hEX := hEX.trans (exl_eq huw_264.symm)
        have hP : va_P (dC, dI) vwCl (wd_c_X12_readStep_7 h0 h0_f0 h0_1 h0_2 h0_3 h0_4 h0_5 h0_f6 h0_f7 h0_f8 h0_f9 x_205 x_206 h0_f12 h0_f13 h0_f14 h0_15 h0_16 h0_f17 h0_18 h0_19 h0_20 h0_21 h0_22 h0_23 h0_24 h0_25 h0_f26 h0_f27 h0_f28 h0_f29 h0_f30 h0_f31 h0_32 h0_33 h0_f34 h0_35 h0_36 h0_37 h0_38 h0_39 h0_40 h0_f41 h0_f42 h0_f43 h0_f44 h0_45 h0_46 h0_47 h0_48 h0_49 h0_50 h0_f51 h0_52 h0_f53 h0_5 h0_5k tN h0_5c h0_24 h0_24k w_264) H := hP
        have hD : va_D A (wd_c_X12_readStep_7 h0 h0_f0 h0_1 h0_2 h0_3 h0_4 h0_5 h0_f6 h0_f7 h0_f8 h0_f9 x_205 x_206 h0_f12 h0_f13 h0_f14 h0_15 h0_16 h0_f17 h0_18 h0_19 h0_20 h0_21 h0_22 h0_23 h0_24 h0_25 h0_f26 h0_f27 h0_f28 h0_f29 h0_f30 h0_f31 h0_32 h0_33 h0_f34 h0_35 h0_36 h0_37 h0_38 h0_39 h0_40 h0_f41 h0_f42 h0_f43 h0_f44 h0_45 h0_46 h0_47 h0_48 h0_49 h0_50 h0_f51 h0_52 h0_f53 h0_5 h0_5k tN h0_5c h0_24 h0_24k w_264) := hD
        refine lv_aload_n hx hb dX12_readStep_69 rfl (lv_at hl 1 rfl) ?_
        as_aux_lemma =>
        refine va_get (D := (dC, dI)) (ci := 12) (v := .int x_206) (C := RX12) (T := TX12) (N := 54) hx hb hts iw_c_X12_readStep_7_X12 hown hK hP 0 rfl rfl 11 (by decide +kernel) (hts (.fieldLink RX12 143 "BuoyVoteModel" "fault" "I") (List.mem_of_getElem? (i := 49) rfl)) (fun _ h9 => h9) rfl dX12_readStep_70 ?_
        refine lv_iconst (v := (-1)) hx hb dX12_readStep_73 kc_iconst_m1 ?_
        refine lv_icmp_ne (tgt := 94) hx hb dX12_readStep_74 rfl (fun c_267 => ?_) (fun c_267 => ?_)
        · replace hEX := hEX.trans (if_neg c_267)
          exact hU _ _ _ (J94b 1 x_205 x_206 w_264 g_h0_f10 g_h0_f17 g_h0_f26 g_h0_f27 g_h0_f28 g_h0_f29 g_h0_f30 g_h0_f31 g_h0_f34 g_h0_f41 g_h0_f51 g_h0_f53 g_h0_f6 g_h0_f7 g_h0_f8 h_38 h_214 h_215 (RG_w (RG_k 1 1 rfl) (by decide +kernel)) g_p1 a_266 (by have := h_39; have := q_198; have := h_216; omega) hEX _ _ _ hP hD hS (lv_sub hl [0, 1, 2] rfl))
        · replace hEX := hEX.trans (if_pos c_267)
          exact RG_dead (RG_eq1 h_215 (RG_k (-1) (-1) rfl) c_267 (a' := 0) (b' := (-1)) (by decide +kernel)) (by decide +kernel)
    · have h_65 : r_51 = _ := h_65
      replace hEX := hEX.trans (exc1_eq h_65)
      replace hEX := hEX.trans (if_neg (fun q9 : r_51 = (-1) => absurd ((show r_51 = 0 from h_63).symm.trans q9) (by decide +kernel)))
      replace hEX := hEX.trans (if_neg (fun q9 : r_51 = 3 => absurd ((show r_51 = 0 from h_63).symm.trans q9) (by decide +kernel)))
      replace hEX := hEX.trans (if_neg (fun q9 : r_51 = 2 => absurd ((show r_51 = 0 from h_63).symm.trans q9) (by decide +kernel)))
      replace hEX := hEX.trans (if_neg (fun q9 : r_51 = 1 => absurd ((show r_51 = 0 from h_63).symm.trans q9) (by decide +kernel)))
      rw [h_63]
      refine lv_istore_n (lv' := [(2, .int 0), (0, .ref h0), (1, .int p1)]) hx hb dX12_readStep_10 rfl hl (Nat.le_of_ble_eq_true rfl) rfl (fun ls hl => ?_)
      as_aux_lemma =>
      refine lv_iload_n hx hb dX12_readStep_11 rfl (lv_at hl 0 rfl) ?_
      refine lv_iconst (v := (-1)) hx hb dX12_readStep_12 kc_iconst_m1 ?_
      refine lv_icmp_ne (tgt := 22) hx hb dX12_readStep_13 rfl (fun c_268 => ?_) (fun c_268 => absurd c_268 (by decide +kernel))
      refine lv_aload_n hx hb dX12_readStep_22 rfl (lv_at hl 1 rfl) ?_
      refine lv_dup hx hb dX12_readStep_23 rfl ?_
      refine va_get (D := (dC, dI)) (ci := 12) (v := .int x_29) (C := RX12) (T := TX12) (N := 54) hx hb hts iw_c_X12_readStep_7_X12 hown hK hP 0 rfl rfl 10 (by decide +kernel) (hts (.fieldLink RX12 134 "BuoyVoteModel" "at" "I") (List.mem_of_getElem? (i := 6) rfl)) (fun _ h9 => h9) rfl dX12_readStep_24 ?_
      refine lv_iconst (v := 1) hx hb dX12_readStep_27 kc_iconst_1 ?_
      refine lv_iadd hx hb dX12_readStep_28 ?_
      refine lv_topi (fun x_269 ex_269 => ?_)
      replace hEX := hEX.trans (exl_eq ex_269)
      have g_270 : RG x_269 1 240 := RG_add ex_269 h_37 (RG_k 1 1 rfl) (by decide +kernel)
      have q_271 : x_269.toInt = x_29.toInt + 1 := eq_add ex_269 h_37 (q := 1) rfl (by decide +kernel)
      refine va_put (D := (dC, dI)) (ci := 12) (v := .int x_269) (ty := .int) (C := RX12) (T := TX12) (N := 54) hx hb hts iw_c_X12_readStep_7_X12 tyX12 tyX12_ok nmX12 hown hK hP hD hS 0 rfl rfl 10 (by decide +kernel) (hts (.fieldLink RX12 134 "BuoyVoteModel" "at" "I") (List.mem_of_getElem? (i := 6) rfl)) (fun _ h9 => h9) rfl (by decide +kernel) rfl rfl (Nat.le_of_ble_eq_true rfl) dX12_readStep_29 (fun H locs hP hD hS => ?_)
      have hP : va_P (dC, dI) vwCl (wd_c_X12_readStep_7 h0 h0_f0 h0_1 h0_2 h0_3 h0_4 h0_5 h0_f6 h0_f7 h0_f8 h0_f9 x_269 (-1) h0_f12 h0_f13 h0_f14 h0_15 h0_16 h0_f17 h0_18 h0_19 h0_20 h0_21 h0_22 h0_23 h0_24 h0_25 h0_f26 h0_f27 h0_f28 h0_f29 h0_f30 h0_f31 h0_32 h0_33 h0_f34 h0_35 h0_36 h0_37 h0_38 h0_39 h0_40 h0_f41 h0_f42 h0_f43 h0_f44 h0_45 h0_46 h0_47 h0_48 h0_49 h0_50 h0_f51 h0_52 h0_f53 h0_5 h0_5k tN h0_5c h0_24 h0_24k h0_24c) H := hP
      have hD : va_D A (wd_c_X12_readStep_7 h0 h0_f0 h0_1 h0_2 h0_3 h0_4 h0_5 h0_f6 h0_f7 h0_f8 h0_f9 x_269 (-1) h0_f12 h0_f13 h0_f14 h0_15 h0_16 h0_f17 h0_18 h0_19 h0_20 h0_21 h0_22 h0_23 h0_24 h0_25 h0_f26 h0_f27 h0_f28 h0_f29 h0_f30 h0_f31 h0_32 h0_33 h0_f34 h0_35 h0_36 h0_37 h0_38 h0_39 h0_40 h0_f41 h0_f42 h0_f43 h0_f44 h0_45 h0_46 h0_47 h0_48 h0_49 h0_50 h0_f51 h0_52 h0_f53 h0_5 h0_5k tN h0_5c h0_24 h0_24k h0_24c) := hD
      refine lv_aload_n hx hb dX12_readStep_32 rfl (lv_at hl 1 rfl) ?_
      as_aux_lemma =>
      refine va_get (D := (dC, dI)) (ci := 12) (v := .ref h0_24) (C := RX12) (T := TX12) (N := 54) hx hb hts iw_c_X12_readStep_7_X12 hown hK hP 0 rfl rfl 24 (by decide +kernel) (hts (.fieldLink RX12 55 "BuoyVoteModel" "plan" "[I") (List.mem_of_getElem? (i := 50) rfl)) (fun _ h9 => h9) rfl dX12_readStep_33 ?_
      refine lv_iload_n hx hb dX12_readStep_36 rfl (lv_at hl 2 rfl) ?_
      refine lv_iload_n hx hb dX12_readStep_37 rfl (lv_at hl 0 rfl) ?_
      refine va_iast hx hb hK hP hD hS 2 1 rfl rfl (RG_in g_p1 (by decide +kernel)) dX12_readStep_38 (fun H locs hP hD hS => ?_)
      have hP : va_P (dC, dI) vwCl (wd_c_X12_readStep_7 h0 h0_f0 h0_1 h0_2 h0_3 h0_4 h0_5 h0_f6 h0_f7 h0_f8 h0_f9 x_269 (-1) h0_f12 h0_f13 h0_f14 h0_15 h0_16 h0_f17 h0_18 h0_19 h0_20 h0_21 h0_22 h0_23 h0_24 h0_25 h0_f26 h0_f27 h0_f28 h0_f29 h0_f30 h0_f31 h0_32 h0_33 h0_f34 h0_35 h0_36 h0_37 h0_38 h0_39 h0_40 h0_f41 h0_f42 h0_f43 h0_f44 h0_45 h0_46 h0_47 h0_48 h0_49 h0_50 h0_f51 h0_52 h0_f53 h0_5 h0_5k tN h0_5c h0_24 h0_24k (upd h0_24c (p1 : Int32).toNatClampNeg 0)) H := hP
      have hD : va_D A (wd_c_X12_readStep_7 h0 h0_f0 h0_1 h0_2 h0_3 h0_4 h0_5 h0_f6 h0_f7 h0_f8 h0_f9 x_269 (-1) h0_f12 h0_f13 h0_f14 h0_15 h0_16 h0_f17 h0_18 h0_19 h0_20 h0_21 h0_22 h0_23 h0_24 h0_25 h0_f26 h0_f27 h0_f28 h0_f29 h0_f30 h0_f31 h0_32 h0_33 h0_f34 h0_35 h0_36 h0_37 h0_38 h0_39 h0_40 h0_f41 h0_f42 h0_f43 h0_f44 h0_45 h0_46 h0_47 h0_48 h0_49 h0_50 h0_f51 h0_52 h0_f53 h0_5 h0_5k tN h0_5c h0_24 h0_24k (upd h0_24c (p1 : Int32).toNatClampNeg 0)) := hD
      have l_273 : (upd h0_24c (p1 : Int32).toNatClampNeg 0) (p1 : Int32).toNatClampNeg = 0 := pk_us
      have a_274 : AI (upd h0_24c (p1 : Int32).toNatClampNeg 0) (-1) 9 := AI_up a_h0_24c (RG_k 0 0 rfl) (by decide +kernel)
      generalize huw_272 : (upd h0_24c (p1 : Int32).toNatClampNeg 0) = w_272 at hP hD a_274 l_273
      replace hEX := hEX.trans (exl_eq huw_272.symm)
      have hP : va_P (dC, dI) vwCl (wd_c_X12_readStep_7 h0 h0_f0 h0_1 h0_2 h0_3 h0_4 h0_5 h0_f6 h0_f7 h0_f8 h0_f9 x_269 (-1) h0_f12 h0_f13 h0_f14 h0_15 h0_16 h0_f17 h0_18 h0_19 h0_20 h0_21 h0_22 h0_23 h0_24 h0_25 h0_f26 h0_f27 h0_f28 h0_f29 h0_f30 h0_f31 h0_32 h0_33 h0_f34 h0_35 h0_36 h0_37 h0_38 h0_39 h0_40 h0_f41 h0_f42 h0_f43 h0_f44 h0_45 h0_46 h0_47 h0_48 h0_49 h0_50 h0_f51 h0_52 h0_f53 h0_5 h0_5k tN h0_5c h0_24 h0_24k w_272) H := hP
      have hD : va_D A (wd_c_X12_readStep_7 h0 h0_f0 h0_1 h0_2 h0_3 h0_4 h0_5 h0_f6 h0_f7 h0_f8 h0_f9 x_269 (-1) h0_f12 h0_f13 h0_f14 h0_15 h0_16 h0_f17 h0_18 h0_19 h0_20 h0_21 h0_22 h0_23 h0_24 h0_25 h0_f26 h0_f27 h0_f28 h0_f29 h0_f30 h0_f31 h0_32 h0_33 h0_f34 h0_35 h0_36 h0_37 h0_38 h0_39 h0_40 h0_f41 h0_f42 h0_f43 h0_f44 h0_45 h0_46 h0_47 h0_48 h0_49 h0_50 h0_f51 h0_52 h0_f53 h0_5 h0_5k tN h0_5c h0_24 h0_24k w_272) := hD
      refine lv_aload_n hx hb dX12_readStep_39 rfl (lv_at hl 1 rfl) ?_
      refine va_get (D := (dC, dI)) (ci := 12) (v := .ref h0_24) (C := RX12) (T := TX12) (N := 54) hx hb hts iw_c_X12_readStep_7_X12 hown hK hP 0 rfl rfl 24 (by decide +kernel) (hts (.fieldLink RX12 55 "BuoyVoteModel" "plan" "[I") (List.mem_of_getElem? (i := 50) rfl)) (fun _ h9 => h9) rfl dX12_readStep_40 ?_
      as_aux_lemma =>
      refine lv_iload_n hx hb dX12_readStep_43 rfl (lv_at hl 2 rfl) ?_
      refine lv_iconst (v := 1) hx hb dX12_readStep_44 kc_iconst_1 ?_
      refine lv_iadd hx hb dX12_readStep_45 ?_
      refine lv_topi (fun x_275 ex_275 => ?_)
      replace hEX := hEX.trans (exl_eq ex_275)
      have g_276 : RG x_275 257 317 := RG_add ex_275 g_p1 (RG_k 1 1 rfl) (by decide +kernel)
      refine lv_aload_n hx hb dX12_readStep_46 rfl (lv_at hl 1 rfl) ?_
      obtain ⟨hPc, hDc, hFc, hqc⟩ := cl_cut (wc := (wd_c_X12_digit h0 h0_f0 h0_1 h0_2 h0_3 h0_4 h0_5 h0_f6 h0_f7 h0_f8 h0_f9 x_269 (-1) h0_f12 h0_f13 h0_f14 h0_15 h0_16 h0_f17 h0_18 h0_19 h0_20 h0_21 h0_22 h0_23 h0_24 h0_25 h0_f26 h0_f27 h0_f28 h0_f29 h0_f30 h0_f31 h0_32 h0_33 h0_f34 h0_35 h0_36 h0_37 h0_38 h0_39 h0_40 h0_f41 h0_f42 h0_f43 h0_f44 h0_45 h0_46 h0_47 h0_48 h0_49 h0_50 h0_f51 h0_52 h0_f53 h0_5 h0_5k tN h0_5c)) hP hD hS hA [0, 1] (by decide +kernel) rfl
      have hKc := hK.sub (tys' := [(h0_5k, .byte)]) [0] rfl
      have hrv := va_recv hKc hPc (ci := 12) (q0 := 0) rfl rfl
      refine va_calli (va_runV (As := []) (rest := [.int x_275, .ref h0_24]) ⟨hx, hb, hml, hown, hts⟩ (c_X12_digit l dC dI H.size h0 h0_f0 h0_1 h0_2 h0_3 h0_4 h0_5 h0_f6 h0_f7 h0_f8 h0_f9 x_269 h0_f12 h0_f13 h0_f14 h0_15 h0_16 h0_f17 h0_18 h0_19 h0_20 h0_21 h0_22 h0_23 h0_24 h0_25 h0_f26 h0_f27 h0_f28 h0_f29 h0_f30 h0_f31 h0_32 h0_33 h0_f34 h0_35 h0_36 h0_37 h0_38 h0_39 h0_40 h0_f41 h0_f42 h0_f43 h0_f44 h0_45 h0_46 h0_47 h0_48 h0_49 h0_50 h0_f51 h0_52 h0_f53 h0_5k h0_5c tN g_h0_f6 g_h0_f7 g_h0_f8 (RG_w h_38 (by decide +kernel)) (RG_w g_270 (by decide +kernel)) g_h0_f17 g_h0_f26 g_h0_f27 g_h0_f28 g_h0_f29 g_h0_f30 g_h0_f31 g_h0_f34 g_h0_f41 g_h0_f51 g_h0_f53 htN) (cwV 0 hts gf_c_X12_readStep_7_c_X12_digit rfl rfl rfl mdV_X12_digit ⟨Nat.le_of_ble_eq_true rfl, Nat.le_of_ble_eq_true rfl⟩) ⟨fun a U g mk q => by obtain ⟨q0, q1, qP, qK, qD⟩ := q; exact ⟨q0, q1, qP, va_K.moved (u := U) (U := U.calling g mk a) (Vm.Alike.refl U.vm) qK, qD⟩, hrv, fun U hU hW => ⟨rfl, by rw [hU], by rw [hU]; exact hPc, va_K.moved hW.alike hKc, hDc.weaken (fun _ _ _ _ => trivial)⟩⟩ rfl rfl hl.1 rfl (lv_room (Nat.le_of_ble_eq_true rfl)) dX12_readStep_47 ⟨Nat.le_of_ble_eq_true rfl, Nat.le_of_ble_eq_true rfl⟩) hS (fun q _ h => hFc q h) hFc (fun r_277 u t H1 locs ht hvm hw hB hz1 hk1 hS => ?_)
      obtain ⟨x_278, x_279⟩ := u
      obtain ⟨hP1, hK1, hD1⟩ := hB
      rw [ht] at hP1
      obtain ⟨hP, hD⟩ := cl_put (w1 := (wd_c_X12_digit h0 h0_f0 h0_1 h0_2 h0_3 h0_4 h0_5 h0_f6 h0_f7 h0_f8 h0_f9 x_278 x_279 h0_f12 h0_f13 h0_f14 h0_15 h0_16 h0_f17 h0_18 h0_19 h0_20 h0_21 h0_22 h0_23 h0_24 h0_25 h0_f26 h0_f27 h0_f28 h0_f29 h0_f30 h0_f31 h0_32 h0_33 h0_f34 h0_35 h0_36 h0_37 h0_38 h0_39 h0_40 h0_f41 h0_f42 h0_f43 h0_f44 h0_45 h0_46 h0_47 h0_48 h0_49 h0_50 h0_f51 h0_52 h0_f53 h0_5 h0_5k tN h0_5c)) (nw := (wd_c_X12_readStep_7 h0 h0_f0 h0_1 h0_2 h0_3 h0_4 h0_5 h0_f6 h0_f7 h0_f8 h0_f9 x_278 x_279 h0_f12 h0_f13 h0_f14 h0_15 h0_16 h0_f17 h0_18 h0_19 h0_20 h0_21 h0_22 h0_23 h0_24 h0_25 h0_f26 h0_f27 h0_f28 h0_f29 h0_f30 h0_f31 h0_32 h0_33 h0_f34 h0_35 h0_36 h0_37 h0_38 h0_39 h0_40 h0_f41 h0_f42 h0_f43 h0_f44 h0_45 h0_46 h0_47 h0_48 h0_49 h0_50 h0_f51 h0_52 h0_f53 h0_5 h0_5k tN h0_5c h0_24 h0_24k w_272)) hP hD [0, 1] [3, 4, 2] 3 rfl hqc (by decide +kernel) rfl hk1 hFc hP1 hD1
      generalize H1 = H at hP hS ⊢
      as_aux_lemma =>
      rcases hw with ⟨h_280, h_281, h_282, h_283, h_284, h_285⟩ | ⟨h_286, h_287, h_288, h_289, h_290⟩
      · have h_285 : (r_277, x_278, x_279) = _ := h_285
        replace hEX := hEX.trans (exc3_eq h_285)
        replace hEX := hEX.trans (if_pos (show x_279 = (-1) from h_282))
        subst h_282
        have h_284 : x_269.toInt + 1 ≤ x_278.toInt := h_284
        refine va_iast hx hb hK hP hD hS 2 1 rfl rfl (RG_in g_276 (by decide +kernel)) dX12_readStep_50 (fun H locs hP hD hS => ?_)
        have hP : va_P (dC, dI) vwCl (wd_c_X12_readStep_7 h0 h0_f0 h0_1 h0_2 h0_3 h0_4 h0_5 h0_f6 h0_f7 h0_f8 h0_f9 x_278 (-1) h0_f12 h0_f13 h0_f14 h0_15 h0_16 h0_f17 h0_18 h0_19 h0_20 h0_21 h0_22 h0_23 h0_24 h0_25 h0_f26 h0_f27 h0_f28 h0_f29 h0_f30 h0_f31 h0_32 h0_33 h0_f34 h0_35 h0_36 h0_37 h0_38 h0_39 h0_40 h0_f41 h0_f42 h0_f43 h0_f44 h0_45 h0_46 h0_47 h0_48 h0_49 h0_50 h0_f51 h0_52 h0_f53 h0_5 h0_5k tN h0_5c h0_24 h0_24k (upd w_272 (x_275 : Int32).toNatClampNeg r_277)) H := hP
        have hD : va_D A (wd_c_X12_readStep_7 h0 h0_f0 h0_1 h0_2 h0_3 h0_4 h0_5 h0_f6 h0_f7 h0_f8 h0_f9 x_278 (-1) h0_f12 h0_f13 h0_f14 h0_15 h0_16 h0_f17 h0_18 h0_19 h0_20 h0_21 h0_22 h0_23 h0_24 h0_25 h0_f26 h0_f27 h0_f28 h0_f29 h0_f30 h0_f31 h0_32 h0_33 h0_f34 h0_35 h0_36 h0_37 h0_38 h0_39 h0_40 h0_f41 h0_f42 h0_f43 h0_f44 h0_45 h0_46 h0_47 h0_48 h0_49 h0_50 h0_f51 h0_52 h0_f53 h0_5 h0_5k tN h0_5c h0_24 h0_24k (upd w_272 (x_275 : Int32).toNatClampNeg r_277)) := hD
        have l_292 : (upd w_272 (x_275 : Int32).toNatClampNeg r_277) (x_275 : Int32).toNatClampNeg = r_277 := pk_us
        have a_293 : AI (upd w_272 (x_275 : Int32).toNatClampNeg r_277) (-1) 9 := AI_up a_274 h_280 (by decide +kernel)
        generalize huw_291 : (upd w_272 (x_275 : Int32).toNatClampNeg r_277) = w_291 at hP hD a_293 l_292
        replace hEX := hEX.trans (exl_eq huw_291.symm)
        have hP : va_P (dC, dI) vwCl (wd_c_X12_readStep_7 h0 h0_f0 h0_1 h0_2 h0_3 h0_4 h0_5 h0_f6 h0_f7 h0_f8 h0_f9 x_278 (-1) h0_f12 h0_f13 h0_f14 h0_15 h0_16 h0_f17 h0_18 h0_19 h0_20 h0_21 h0_22 h0_23 h0_24 h0_25 h0_f26 h0_f27 h0_f28 h0_f29 h0_f30 h0_f31 h0_32 h0_33 h0_f34 h0_35 h0_36 h0_37 h0_38 h0_39 h0_40 h0_f41 h0_f42 h0_f43 h0_f44 h0_45 h0_46 h0_47 h0_48 h0_49 h0_50 h0_f51 h0_52 h0_f53 h0_5 h0_5k tN h0_5c h0_24 h0_24k w_291) H := hP
        have hD : va_D A (wd_c_X12_readStep_7 h0 h0_f0 h0_1 h0_2 h0_3 h0_4 h0_5 h0_f6 h0_f7 h0_f8 h0_f9 x_278 (-1) h0_f12 h0_f13 h0_f14 h0_15 h0_16 h0_f17 h0_18 h0_19 h0_20 h0_21 h0_22 h0_23 h0_24 h0_25 h0_f26 h0_f27 h0_f28 h0_f29 h0_f30 h0_f31 h0_32 h0_33 h0_f34 h0_35 h0_36 h0_37 h0_38 h0_39 h0_40 h0_f41 h0_f42 h0_f43 h0_f44 h0_45 h0_46 h0_47 h0_48 h0_49 h0_50 h0_f51 h0_52 h0_f53 h0_5 h0_5k tN h0_5c h0_24 h0_24k w_291) := hD
        refine lv_aload_n hx hb dX12_readStep_51 rfl (lv_at hl 1 rfl) ?_
        as_aux_lemma =>
        refine va_get (D := (dC, dI)) (ci := 12) (v := .ref h0_24) (C := RX12) (T := TX12) (N := 54) hx hb hts iw_c_X12_readStep_7_X12 hown hK hP 0 rfl rfl 24 (by decide +kernel) (hts (.fieldLink RX12 55 "BuoyVoteModel" "plan" "[I") (List.mem_of_getElem? (i := 50) rfl)) (fun _ h9 => h9) rfl dX12_readStep_52 ?_
        refine lv_iload_n hx hb dX12_readStep_55 rfl (lv_at hl 2 rfl) ?_
        refine lv_iconst (v := 2) hx hb dX12_readStep_56 kc_iconst_2 ?_
        refine lv_iadd hx hb dX12_readStep_57 ?_
        refine lv_topi (fun x_294 ex_294 => ?_)
        replace hEX := hEX.trans (exl_eq ex_294)
        have g_295 : RG x_294 258 318 := RG_add ex_294 g_p1 (RG_k 2 2 rfl) (by decide +kernel)
        refine lv_iconst (v := (-1)) hx hb dX12_readStep_58 kc_iconst_m1 ?_
        refine va_iast hx hb hK hP hD hS 2 1 rfl rfl (RG_in g_295 (by decide +kernel)) dX12_readStep_59 (fun H locs hP hD hS => ?_)
        have hP : va_P (dC, dI) vwCl (wd_c_X12_readStep_7 h0 h0_f0 h0_1 h0_2 h0_3 h0_4 h0_5 h0_f6 h0_f7 h0_f8 h0_f9 x_278 (-1) h0_f12 h0_f13 h0_f14 h0_15 h0_16 h0_f17 h0_18 h0_19 h0_20 h0_21 h0_22 h0_23 h0_24 h0_25 h0_f26 h0_f27 h0_f28 h0_f29 h0_f30 h0_f31 h0_32 h0_33 h0_f34 h0_35 h0_36 h0_37 h0_38 h0_39 h0_40 h0_f41 h0_f42 h0_f43 h0_f44 h0_45 h0_46 h0_47 h0_48 h0_49 h0_50 h0_f51 h0_52 h0_f53 h0_5 h0_5k tN h0_5c h0_24 h0_24k (upd w_291 (x_294 : Int32).toNatClampNeg (-1))) H := hP
        have hD : va_D A (wd_c_X12_readStep_7 h0 h0_f0 h0_1 h0_2 h0_3 h0_4 h0_5 h0_f6 h0_f7 h0_f8 h0_f9 x_278 (-1) h0_f12 h0_f13 h0_f14 h0_15 h0_16 h0_f17 h0_18 h0_19 h0_20 h0_21 h0_22 h0_23 h0_24 h0_25 h0_f26 h0_f27 h0_f28 h0_f29 h0_f30 h0_f31 h0_32 h0_33 h0_f34 h0_35 h0_36 h0_37 h0_38 h0_39 h0_40 h0_f41 h0_f42 h0_f43 h0_f44 h0_45 h0_46 h0_47 h0_48 h0_49 h0_50 h0_f51 h0_52 h0_f53 h0_5 h0_5k tN h0_5c h0_24 h0_24k (upd w_291 (x_294 : Int32).toNatClampNeg (-1))) := hD
        have l_297 : (upd w_291 (x_294 : Int32).toNatClampNeg (-1)) (x_294 : Int32).toNatClampNeg = (-1) := pk_us
        have a_298 : AI (upd w_291 (x_294 : Int32).toNatClampNeg (-1)) (-1) 9 := AI_up a_293 (RG_k (-1) (-1) rfl) (by decide +kernel)
        generalize huw_296 : (upd w_291 (x_294 : Int32).toNatClampNeg (-1)) = w_296 at hP hD a_298 l_297
        replace hEX := hEX.trans (exl_eq huw_296.symm)
        have hP : va_P (dC, dI) vwCl (wd_c_X12_readStep_7 h0 h0_f0 h0_1 h0_2 h0_3 h0_4 h0_5 h0_f6 h0_f7 h0_f8 h0_f9 x_278 (-1) h0_f12 h0_f13 h0_f14 h0_15 h0_16 h0_f17 h0_18 h0_19 h0_20 h0_21 h0_22 h0_23 h0_24 h0_25 h0_f26 h0_f27 h0_f28 h0_f29 h0_f30 h0_f31 h0_32 h0_33 h0_f34 h0_35 h0_36 h0_37 h0_38 h0_39 h0_40 h0_f41 h0_f42 h0_f43 h0_f44 h0_45 h0_46 h0_47 h0_48 h0_49 h0_50 h0_f51 h0_52 h0_f53 h0_5 h0_5k tN h0_5c h0_24 h0_24k w_296) H := hP
        have hD : va_D A (wd_c_X12_readStep_7 h0 h0_f0 h0_1 h0_2 h0_3 h0_4 h0_5 h0_f6 h0_f7 h0_f8 h0_f9 x_278 (-1) h0_f12 h0_f13 h0_f14 h0_15 h0_16 h0_f17 h0_18 h0_19 h0_20 h0_21 h0_22 h0_23 h0_24 h0_25 h0_f26 h0_f27 h0_f28 h0_f29 h0_f30 h0_f31 h0_32 h0_33 h0_f34 h0_35 h0_36 h0_37 h0_38 h0_39 h0_40 h0_f41 h0_f42 h0_f43 h0_f44 h0_45 h0_46 h0_47 h0_48 h0_49 h0_50 h0_f51 h0_52 h0_f53 h0_5 h0_5k tN h0_5c h0_24 h0_24k w_296) := hD
        refine lv_aload_n hx hb dX12_readStep_60 rfl (lv_at hl 1 rfl) ?_
        as_aux_lemma =>
        refine va_get (D := (dC, dI)) (ci := 12) (v := .ref h0_24) (C := RX12) (T := TX12) (N := 54) hx hb hts iw_c_X12_readStep_7_X12 hown hK hP 0 rfl rfl 24 (by decide +kernel) (hts (.fieldLink RX12 55 "BuoyVoteModel" "plan" "[I") (List.mem_of_getElem? (i := 50) rfl)) (fun _ h9 => h9) rfl dX12_readStep_61 ?_
        refine lv_iload_n hx hb dX12_readStep_64 rfl (lv_at hl 2 rfl) ?_
        refine lv_iconst (v := 3) hx hb dX12_readStep_65 kc_iconst_3 ?_
        refine lv_iadd hx hb dX12_readStep_66 ?_
        refine lv_topi (fun x_299 ex_299 => ?_)
        replace hEX := hEX.trans (exl_eq ex_299)
        have g_300 : RG x_299 259 319 := RG_add ex_299 g_p1 (RG_k 3 3 rfl) (by decide +kernel)
        refine lv_iconst (v := (-1)) hx hb dX12_readStep_67 kc_iconst_m1 ?_
        refine va_iast hx hb hK hP hD hS 2 1 rfl rfl (RG_in g_300 (by decide +kernel)) dX12_readStep_68 (fun H locs hP hD hS => ?_)
        have hP : va_P (dC, dI) vwCl (wd_c_X12_readStep_7 h0 h0_f0 h0_1 h0_2 h0_3 h0_4 h0_5 h0_f6 h0_f7 h0_f8 h0_f9 x_278 (-1) h0_f12 h0_f13 h0_f14 h0_15 h0_16 h0_f17 h0_18 h0_19 h0_20 h0_21 h0_22 h0_23 h0_24 h0_25 h0_f26 h0_f27 h0_f28 h0_f29 h0_f30 h0_f31 h0_32 h0_33 h0_f34 h0_35 h0_36 h0_37 h0_38 h0_39 h0_40 h0_f41 h0_f42 h0_f43 h0_f44 h0_45 h0_46 h0_47 h0_48 h0_49 h0_50 h0_f51 h0_52 h0_f53 h0_5 h0_5k tN h0_5c h0_24 h0_24k (upd w_296 (x_299 : Int32).toNatClampNeg (-1))) H := hP
        have hD : va_D A (wd_c_X12_readStep_7 h0 h0_f0 h0_1 h0_2 h0_3 h0_4 h0_5 h0_f6 h0_f7 h0_f8 h0_f9 x_278 (-1) h0_f12 h0_f13 h0_f14 h0_15 h0_16 h0_f17 h0_18 h0_19 h0_20 h0_21 h0_22 h0_23 h0_24 h0_25 h0_f26 h0_f27 h0_f28 h0_f29 h0_f30 h0_f31 h0_32 h0_33 h0_f34 h0_35 h0_36 h0_37 h0_38 h0_39 h0_40 h0_f41 h0_f42 h0_f43 h0_f44 h0_45 h0_46 h0_47 h0_48 h0_49 h0_50 h0_f51 h0_52 h0_f53 h0_5 h0_5k tN h0_5c h0_24 h0_24k (upd w_296 (x_299 : Int32).toNatClampNeg (-1))) := hD
        have l_302 : (upd w_296 (x_299 : Int32).toNatClampNeg (-1)) (x_299 : Int32).toNatClampNeg = (-1) := pk_us
        have a_303 : AI (upd w_296 (x_299 : Int32).toNatClampNeg (-1)) (-1) 9 := AI_up a_298 (RG_k (-1) (-1) rfl) (by decide +kernel)
        generalize huw_301 : (upd w_296 (x_299 : Int32).toNatClampNeg (-1)) = w_301 at hP hD a_303 l_302
        replace hEX := hEX.trans (exl_eq huw_301.symm)
        have hP : va_P (dC, dI) vwCl (wd_c_X12_readStep_7 h0 h0_f0 h0_1 h0_2 h0_3 h0_4 h0_5 h0_f6 h0_f7 h0_f8 h0_f9 x_278 (-1) h0_f12 h0_f13 h0_f14 h0_15 h0_16 h0_f17 h0_18 h0_19 h0_20 h0_21 h0_22 h0_23 h0_24 h0_25 h0_f26 h0_f27 h0_f28 h0_f29 h0_f30 h0_f31 h0_32 h0_33 h0_f34 h0_35 h0_36 h0_37 h0_38 h0_39 h0_40 h0_f41 h0_f42 h0_f43 h0_f44 h0_45 h0_46 h0_47 h0_48 h0_49 h0_50 h0_f51 h0_52 h0_f53 h0_5 h0_5k tN h0_5c h0_24 h0_24k w_301) H := hP
        have hD : va_D A (wd_c_X12_readStep_7 h0 h0_f0 h0_1 h0_2 h0_3 h0_4 h0_5 h0_f6 h0_f7 h0_f8 h0_f9 x_278 (-1) h0_f12 h0_f13 h0_f14 h0_15 h0_16 h0_f17 h0_18 h0_19 h0_20 h0_21 h0_22 h0_23 h0_24 h0_25 h0_f26 h0_f27 h0_f28 h0_f29 h0_f30 h0_f31 h0_32 h0_33 h0_f34 h0_35 h0_36 h0_37 h0_38 h0_39 h0_40 h0_f41 h0_f42 h0_f43 h0_f44 h0_45 h0_46 h0_47 h0_48 h0_49 h0_50 h0_f51 h0_52 h0_f53 h0_5 h0_5k tN h0_5c h0_24 h0_24k w_301) := hD
        refine lv_aload_n hx hb dX12_readStep_69 rfl (lv_at hl 1 rfl) ?_
        as_aux_lemma =>
        refine va_get (D := (dC, dI)) (ci := 12) (v := .int (-1)) (C := RX12) (T := TX12) (N := 54) hx hb hts iw_c_X12_readStep_7_X12 hown hK hP 0 rfl rfl 11 (by decide +kernel) (hts (.fieldLink RX12 143 "BuoyVoteModel" "fault" "I") (List.mem_of_getElem? (i := 49) rfl)) (fun _ h9 => h9) rfl dX12_readStep_70 ?_
        refine lv_iconst (v := (-1)) hx hb dX12_readStep_73 kc_iconst_m1 ?_
        refine lv_icmp_ne (tgt := 94) hx hb dX12_readStep_74 rfl (fun c_304 => absurd c_304 (by decide +kernel)) (fun c_304 => ?_)
        refine lv_iload_n hx hb dX12_readStep_77 rfl (lv_at hl 0 rfl) ?_
        refine lv_iconst (v := 3) hx hb dX12_readStep_78 kc_iconst_3 ?_
        refine lv_icmp_ge (tgt := 94) hx hb dX12_readStep_79 rfl (fun c_305 => absurd c_305 (by decide +kernel)) (fun c_305 => ?_)
        refine lv_aload_n hx hb dX12_readStep_82 rfl (lv_at hl 1 rfl) ?_
        refine va_get (D := (dC, dI)) (ci := 12) (v := .ref h0_24) (C := RX12) (T := TX12) (N := 54) hx hb hts iw_c_X12_readStep_7_X12 hown hK hP 0 rfl rfl 24 (by decide +kernel) (hts (.fieldLink RX12 55 "BuoyVoteModel" "plan" "[I") (List.mem_of_getElem? (i := 50) rfl)) (fun _ h9 => h9) rfl dX12_readStep_83 ?_
        refine lv_iload_n hx hb dX12_readStep_86 rfl (lv_at hl 2 rfl) ?_
        refine lv_iconst (v := 2) hx hb dX12_readStep_87 kc_iconst_2 ?_
        refine lv_iadd hx hb dX12_readStep_88 ?_
        refine lv_topi (fun x_306 ex_306 => ?_)
        obtain rfl : x_294 = x_306 := ex_294.trans ex_306.symm
        refine lv_aload_n hx hb dX12_readStep_89 rfl (lv_at hl 1 rfl) ?_
        as_aux_lemma =>
        obtain ⟨hPc, hDc, hFc, hqc⟩ := cl_cut (wc := (wd_c_X12_digit h0 h0_f0 h0_1 h0_2 h0_3 h0_4 h0_5 h0_f6 h0_f7 h0_f8 h0_f9 x_278 (-1) h0_f12 h0_f13 h0_f14 h0_15 h0_16 h0_f17 h0_18 h0_19 h0_20 h0_21 h0_22 h0_23 h0_24 h0_25 h0_f26 h0_f27 h0_f28 h0_f29 h0_f30 h0_f31 h0_32 h0_33 h0_f34 h0_35 h0_36 h0_37 h0_38 h0_39 h0_40 h0_f41 h0_f42 h0_f43 h0_f44 h0_45 h0_46 h0_47 h0_48 h0_49 h0_50 h0_f51 h0_52 h0_f53 h0_5 h0_5k tN h0_5c)) hP hD hS hA [0, 1] (by decide +kernel) rfl
        have hKc := hK.sub (tys' := [(h0_5k, .byte)]) [0] rfl
        have hrv := va_recv hKc hPc (ci := 12) (q0 := 0) rfl rfl
        refine va_calli (va_runV (As := []) (rest := [.int x_294, .ref h0_24]) ⟨hx, hb, hml, hown, hts⟩ (c_X12_digit l dC dI H.size h0 h0_f0 h0_1 h0_2 h0_3 h0_4 h0_5 h0_f6 h0_f7 h0_f8 h0_f9 x_278 h0_f12 h0_f13 h0_f14 h0_15 h0_16 h0_f17 h0_18 h0_19 h0_20 h0_21 h0_22 h0_23 h0_24 h0_25 h0_f26 h0_f27 h0_f28 h0_f29 h0_f30 h0_f31 h0_32 h0_33 h0_f34 h0_35 h0_36 h0_37 h0_38 h0_39 h0_40 h0_f41 h0_f42 h0_f43 h0_f44 h0_45 h0_46 h0_47 h0_48 h0_49 h0_50 h0_f51 h0_52 h0_f53 h0_5k h0_5c tN g_h0_f6 g_h0_f7 g_h0_f8 (RG_w h_38 (by decide +kernel)) (RG_w h_281 (by decide +kernel)) g_h0_f17 g_h0_f26 g_h0_f27 g_h0_f28 g_h0_f29 g_h0_f30 g_h0_f31 g_h0_f34 g_h0_f41 g_h0_f51 g_h0_f53 htN) (cwV 0 hts gf_c_X12_readStep_7_c_X12_digit rfl rfl rfl mdV_X12_digit ⟨Nat.le_of_ble_eq_true rfl, Nat.le_of_ble_eq_true rfl⟩) ⟨fun a U g mk q => by obtain ⟨q0, q1, qP, qK, qD⟩ := q; exact ⟨q0, q1, qP, va_K.moved (u := U) (U := U.calling g mk a) (Vm.Alike.refl U.vm) qK, qD⟩, hrv, fun U hU hW => ⟨rfl, by rw [hU], by rw [hU]; exact hPc, va_K.moved hW.alike hKc, hDc.weaken (fun _ _ _ _ => trivial)⟩⟩ rfl rfl hl.1 rfl (lv_room (Nat.le_of_ble_eq_true rfl)) dX12_readStep_90 ⟨Nat.le_of_ble_eq_true rfl, Nat.le_of_ble_eq_true rfl⟩) hS (fun q _ h => hFc q h) hFc (fun r_307 u t H1 locs ht hvm hw hB hz1 hk1 hS => ?_)
        obtain ⟨x_308, x_309⟩ := u
        obtain ⟨hP1, hK1, hD1⟩ := hB
        rw [ht] at hP1
        obtain ⟨hP, hD⟩ := cl_put (w1 := (wd_c_X12_digit h0 h0_f0 h0_1 h0_2 h0_3 h0_4 h0_5 h0_f6 h0_f7 h0_f8 h0_f9 x_308 x_309 h0_f12 h0_f13 h0_f14 h0_15 h0_16 h0_f17 h0_18 h0_19 h0_20 h0_21 h0_22 h0_23 h0_24 h0_25 h0_f26 h0_f27 h0_f28 h0_f29 h0_f30 h0_f31 h0_32 h0_33 h0_f34 h0_35 h0_36 h0_37 h0_38 h0_39 h0_40 h0_f41 h0_f42 h0_f43 h0_f44 h0_45 h0_46 h0_47 h0_48 h0_49 h0_50 h0_f51 h0_52 h0_f53 h0_5 h0_5k tN h0_5c)) (nw := (wd_c_X12_readStep_7 h0 h0_f0 h0_1 h0_2 h0_3 h0_4 h0_5 h0_f6 h0_f7 h0_f8 h0_f9 x_308 x_309 h0_f12 h0_f13 h0_f14 h0_15 h0_16 h0_f17 h0_18 h0_19 h0_20 h0_21 h0_22 h0_23 h0_24 h0_25 h0_f26 h0_f27 h0_f28 h0_f29 h0_f30 h0_f31 h0_32 h0_33 h0_f34 h0_35 h0_36 h0_37 h0_38 h0_39 h0_40 h0_f41 h0_f42 h0_f43 h0_f44 h0_45 h0_46 h0_47 h0_48 h0_49 h0_50 h0_f51 h0_52 h0_f53 h0_5 h0_5k tN h0_5c h0_24 h0_24k w_301)) hP hD [0, 1] [3, 4, 2] 3 rfl hqc (by decide +kernel) rfl hk1 hFc hP1 hD1
        generalize H1 = H at hP hS ⊢
        as_aux_lemma =>
        rcases hw with ⟨h_310, h_311, h_312, h_313, h_314, h_315⟩ | ⟨h_316, h_317, h_318, h_319, h_320⟩
        · have h_315 : (r_307, x_308, x_309) = _ := h_315
          replace hEX := hEX.trans (exc3_eq h_315)
          replace hEX := hEX.trans (if_pos (show x_309 = (-1) from h_312))
          subst h_312
          have h_314 : x_278.toInt + 1 ≤ x_308.toInt := h_314
          refine va_iast hx hb hK hP hD hS 2 1 rfl rfl (RG_in g_295 (by decide +kernel)) dX12_readStep_93 (fun H locs hP hD hS => ?_)
          have hP : va_P (dC, dI) vwCl (wd_c_X12_readStep_7 h0 h0_f0 h0_1 h0_2 h0_3 h0_4 h0_5 h0_f6 h0_f7 h0_f8 h0_f9 x_308 (-1) h0_f12 h0_f13 h0_f14 h0_15 h0_16 h0_f17 h0_18 h0_19 h0_20 h0_21 h0_22 h0_23 h0_24 h0_25 h0_f26 h0_f27 h0_f28 h0_f29 h0_f30 h0_f31 h0_32 h0_33 h0_f34 h0_35 h0_36 h0_37 h0_38 h0_39 h0_40 h0_f41 h0_f42 h0_f43 h0_f44 h0_45 h0_46 h0_47 h0_48 h0_49 h0_50 h0_f51 h0_52 h0_f53 h0_5 h0_5k tN h0_5c h0_24 h0_24k (upd w_301 (x_294 : Int32).toNatClampNeg r_307)) H := hP
          have hD : va_D A (wd_c_X12_readStep_7 h0 h0_f0 h0_1 h0_2 h0_3 h0_4 h0_5 h0_f6 h0_f7 h0_f8 h0_f9 x_308 (-1) h0_f12 h0_f13 h0_f14 h0_15 h0_16 h0_f17 h0_18 h0_19 h0_20 h0_21 h0_22 h0_23 h0_24 h0_25 h0_f26 h0_f27 h0_f28 h0_f29 h0_f30 h0_f31 h0_32 h0_33 h0_f34 h0_35 h0_36 h0_37 h0_38 h0_39 h0_40 h0_f41 h0_f42 h0_f43 h0_f44 h0_45 h0_46 h0_47 h0_48 h0_49 h0_50 h0_f51 h0_52 h0_f53 h0_5 h0_5k tN h0_5c h0_24 h0_24k (upd w_301 (x_294 : Int32).toNatClampNeg r_307)) := hD
          have l_322 : (upd w_301 (x_294 : Int32).toNatClampNeg r_307) (x_294 : Int32).toNatClampNeg = r_307 := pk_us
          have a_323 : AI (upd w_301 (x_294 : Int32).toNatClampNeg r_307) (-1) 9 := AI_up a_303 h_310 (by decide +kernel)
          generalize huw_321 : (upd w_301 (x_294 : Int32).toNatClampNeg r_307) = w_321 at hP hD a_323 l_322
          replace hEX := hEX.trans (exl_eq huw_321.symm)
          have hP : va_P (dC, dI) vwCl (wd_c_X12_readStep_7 h0 h0_f0 h0_1 h0_2 h0_3 h0_4 h0_5 h0_f6 h0_f7 h0_f8 h0_f9 x_308 (-1) h0_f12 h0_f13 h0_f14 h0_15 h0_16 h0_f17 h0_18 h0_19 h0_20 h0_21 h0_22 h0_23 h0_24 h0_25 h0_f26 h0_f27 h0_f28 h0_f29 h0_f30 h0_f31 h0_32 h0_33 h0_f34 h0_35 h0_36 h0_37 h0_38 h0_39 h0_40 h0_f41 h0_f42 h0_f43 h0_f44 h0_45 h0_46 h0_47 h0_48 h0_49 h0_50 h0_f51 h0_52 h0_f53 h0_5 h0_5k tN h0_5c h0_24 h0_24k w_321) H := hP
          have hD : va_D A (wd_c_X12_readStep_7 h0 h0_f0 h0_1 h0_2 h0_3 h0_4 h0_5 h0_f6 h0_f7 h0_f8 h0_f9 x_308 (-1) h0_f12 h0_f13 h0_f14 h0_15 h0_16 h0_f17 h0_18 h0_19 h0_20 h0_21 h0_22 h0_23 h0_24 h0_25 h0_f26 h0_f27 h0_f28 h0_f29 h0_f30 h0_f31 h0_32 h0_33 h0_f34 h0_35 h0_36 h0_37 h0_38 h0_39 h0_40 h0_f41 h0_f42 h0_f43 h0_f44 h0_45 h0_46 h0_47 h0_48 h0_49 h0_50 h0_f51 h0_52 h0_f53 h0_5 h0_5k tN h0_5c h0_24 h0_24k w_321) := hD
          exact hU _ _ _ (J94 0 x_308 w_321 g_h0_f10 g_h0_f17 g_h0_f26 g_h0_f27 g_h0_f28 g_h0_f29 g_h0_f30 g_h0_f31 g_h0_f34 g_h0_f41 g_h0_f51 g_h0_f53 g_h0_f6 g_h0_f7 g_h0_f8 h_38 h_311 (RG_w (RG_k 0 0 rfl) (by decide +kernel)) g_p1 a_323 (by have := h_39; have := q_271; have := h_284; have := h_314; omega) hEX _ _ _ hP hD hS (lv_sub hl [0, 1, 2] rfl))
        · have h_320 : (r_307, x_308, x_309) = _ := h_320
          replace hEX := hEX.trans (exc3_eq h_320)
          replace hEX := hEX.trans (if_neg (RG_neq (x := x_309) (c := (-1)) (show RG x_309 0 240 from h_318) (by decide +kernel)))
          rw [h_316]
          have h_319 : x_278.toInt + 0 ≤ x_308.toInt := h_319
          refine va_iast hx hb hK hP hD hS 2 1 rfl rfl (RG_in g_295 (by decide +kernel)) dX12_readStep_93 (fun H locs hP hD hS => ?_)
          as_aux_lemma =>
          have hP : va_P (dC, dI) vwCl (wd_c_X12_readStep_7 h0 h0_f0 h0_1 h0_2 h0_3 h0_4 h0_5 h0_f6 h0_f7 h0_f8 h0_f9 x_308 x_309 h0_f12 h0_f13 h0_f14 h0_15 h0_16 h0_f17 h0_18 h0_19 h0_20 h0_21 h0_22 h0_23 h0_24 h0_25 h0_f26 h0_f27 h0_f28 h0_f29 h0_f30 h0_f31 h0_32 h0_33 h0_f34 h0_35 h0_36 h0_37 h0_38 h0_39 h0_40 h0_f41 h0_f42 h0_f43 h0_f44 h0_45 h0_46 h0_47 h0_48 h0_49 h0_50 h0_f51 h0_52 h0_f53 h0_5 h0_5k tN h0_5c h0_24 h0_24k (upd w_301 (x_294 : Int32).toNatClampNeg 0)) H := hP
          have hD : va_D A (wd_c_X12_readStep_7 h0 h0_f0 h0_1 h0_2 h0_3 h0_4 h0_5 h0_f6 h0_f7 h0_f8 h0_f9 x_308 x_309 h0_f12 h0_f13 h0_f14 h0_15 h0_16 h0_f17 h0_18 h0_19 h0_20 h0_21 h0_22 h0_23 h0_24 h0_25 h0_f26 h0_f27 h0_f28 h0_f29 h0_f30 h0_f31 h0_32 h0_33 h0_f34 h0_35 h0_36 h0_37 h0_38 h0_39 h0_40 h0_f41 h0_f42 h0_f43 h0_f44 h0_45 h0_46 h0_47 h0_48 h0_49 h0_50 h0_f51 h0_52 h0_f53 h0_5 h0_5k tN h0_5c h0_24 h0_24k (upd w_301 (x_294 : Int32).toNatClampNeg 0)) := hD
          have l_325 : (upd w_301 (x_294 : Int32).toNatClampNeg 0) (x_294 : Int32).toNatClampNeg = 0 := pk_us
          have a_326 : AI (upd w_301 (x_294 : Int32).toNatClampNeg 0) (-1) 9 := AI_up a_303 (RG_k 0 0 rfl) (by decide +kernel)
          generalize huw_324 : (upd w_301 (x_294 : Int32).toNatClampNeg 0) = w_324 at hP hD a_326 l_325
          replace hEX := hEX.trans (exl_eq huw_324.symm)
          have hP : va_P (dC, dI) vwCl (wd_c_X12_readStep_7 h0 h0_f0 h0_1 h0_2 h0_3 h0_4 h0_5 h0_f6 h0_f7 h0_f8 h0_f9 x_308 x_309 h0_f12 h0_f13 h0_f14 h0_15 h0_16 h0_f17 h0_18 h0_19 h0_20 h0_21 h0_22 h0_23 h0_24 h0_25 h0_f26 h0_f27 h0_f28 h0_f29 h0_f30 h0_f31 h0_32 h0_33 h0_f34 h0_35 h0_36 h0_37 h0_38 h0_39 h0_40 h0_f41 h0_f42 h0_f43 h0_f44 h0_45 h0_46 h0_47 h0_48 h0_49 h0_50 h0_f51 h0_52 h0_f53 h0_5 h0_5k tN h0_5c h0_24 h0_24k w_324) H := hP
          have hD : va_D A (wd_c_X12_readStep_7 h0 h0_f0 h0_1 h0_2 h0_3 h0_4 h0_5 h0_f6 h0_f7 h0_f8 h0_f9 x_308 x_309 h0_f12 h0_f13 h0_f14 h0_15 h0_16 h0_f17 h0_18 h0_19 h0_20 h0_21 h0_22 h0_23 h0_24 h0_25 h0_f26 h0_f27 h0_f28 h0_f29 h0_f30 h0_f31 h0_32 h0_33 h0_f34 h0_35 h0_36 h0_37 h0_38 h0_39 h0_40 h0_f41 h0_f42 h0_f43 h0_f44 h0_45 h0_46 h0_47 h0_48 h0_49 h0_50 h0_f51 h0_52 h0_f53 h0_5 h0_5k tN h0_5c h0_24 h0_24k w_324) := hD
          exact hU _ _ _ (J94b 0 x_308 x_309 w_324 g_h0_f10 g_h0_f17 g_h0_f26 g_h0_f27 g_h0_f28 g_h0_f29 g_h0_f30 g_h0_f31 g_h0_f34 g_h0_f41 g_h0_f51 g_h0_f53 g_h0_f6 g_h0_f7 g_h0_f8 h_38 h_317 h_318 (RG_w (RG_k 0 0 rfl) (by decide +kernel)) g_p1 a_326 (by have := h_39; have := q_271; have := h_284; have := h_319; omega) hEX _ _ _ hP hD hS (lv_sub hl [0, 1, 2] rfl))
      · have h_290 : (r_277, x_278, x_279) = _ := h_290
        replace hEX := hEX.trans (exc3_eq h_290)
        replace hEX := hEX.trans (if_neg (RG_neq (x := x_279) (c := (-1)) (show RG x_279 0 240 from h_288) (by decide +kernel)))
        rw [h_286]
        have h_289 : x_269.toInt + 0 ≤ x_278.toInt := h_289
        refine va_iast hx hb hK hP hD hS 2 1 rfl rfl (RG_in g_276 (by decide +kernel)) dX12_readStep_50 (fun H locs hP hD hS => ?_)
        as_aux_lemma =>
        have hP : va_P (dC, dI) vwCl (wd_c_X12_readStep_7 h0 h0_f0 h0_1 h0_2 h0_3 h0_4 h0_5 h0_f6 h0_f7 h0_f8 h0_f9 x_278 x_279 h0_f12 h0_f13 h0_f14 h0_15 h0_16 h0_f17 h0_18 h0_19 h0_20 h0_21 h0_22 h0_23 h0_24 h0_25 h0_f26 h0_f27 h0_f28 h0_f29 h0_f30 h0_f31 h0_32 h0_33 h0_f34 h0_35 h0_36 h0_37 h0_38 h0_39 h0_40 h0_f41 h0_f42 h0_f43 h0_f44 h0_45 h0_46 h0_47 h0_48 h0_49 h0_50 h0_f51 h0_52 h0_f53 h0_5 h0_5k tN h0_5c h0_24 h0_24k (upd w_272 (x_275 : Int32).toNatClampNeg 0)) H := hP
        have hD : va_D A (wd_c_X12_readStep_7 h0 h0_f0 h0_1 h0_2 h0_3 h0_4 h0_5 h0_f6 h0_f7 h0_f8 h0_f9 x_278 x_279 h0_f12 h0_f13 h0_f14 h0_15 h0_16 h0_f17 h0_18 h0_19 h0_20 h0_21 h0_22 h0_23 h0_24 h0_25 h0_f26 h0_f27 h0_f28 h0_f29 h0_f30 h0_f31 h0_32 h0_33 h0_f34 h0_35 h0_36 h0_37 h0_38 h0_39 h0_40 h0_f41 h0_f42 h0_f43 h0_f44 h0_45 h0_46 h0_47 h0_48 h0_49 h0_50 h0_f51 h0_52 h0_f53 h0_5 h0_5k tN h0_5c h0_24 h0_24k (upd w_272 (x_275 : Int32).toNatClampNeg 0)) := hD
        have l_328 : (upd w_272 (x_275 : Int32).toNatClampNeg 0) (x_275 : Int32).toNatClampNeg = 0 := pk_us
        have a_329 : AI (upd w_272 (x_275 : Int32).toNatClampNeg 0) (-1) 9 := AI_up a_274 (RG_k 0 0 rfl) (by decide +kernel)
        generalize huw_327 : (upd w_272 (x_275 : Int32).toNatClampNeg 0) = w_327 at hP hD a_329 l_328
        replace hEX := hEX.trans (exl_eq huw_327.symm)
        have hP : va_P (dC, dI) vwCl (wd_c_X12_readStep_7 h0 h0_f0 h0_1 h0_2 h0_3 h0_4 h0_5 h0_f6 h0_f7 h0_f8 h0_f9 x_278 x_279 h0_f12 h0_f13 h0_f14 h0_15 h0_16 h0_f17 h0_18 h0_19 h0_20 h0_21 h0_22 h0_23 h0_24 h0_25 h0_f26 h0_f27 h0_f28 h0_f29 h0_f30 h0_f31 h0_32 h0_33 h0_f34 h0_35 h0_36 h0_37 h0_38 h0_39 h0_40 h0_f41 h0_f42 h0_f43 h0_f44 h0_45 h0_46 h0_47 h0_48 h0_49 h0_50 h0_f51 h0_52 h0_f53 h0_5 h0_5k tN h0_5c h0_24 h0_24k w_327) H := hP
        have hD : va_D A (wd_c_X12_readStep_7 h0 h0_f0 h0_1 h0_2 h0_3 h0_4 h0_5 h0_f6 h0_f7 h0_f8 h0_f9 x_278 x_279 h0_f12 h0_f13 h0_f14 h0_15 h0_16 h0_f17 h0_18 h0_19 h0_20 h0_21 h0_22 h0_23 h0_24 h0_25 h0_f26 h0_f27 h0_f28 h0_f29 h0_f30 h0_f31 h0_32 h0_33 h0_f34 h0_35 h0_36 h0_37 h0_38 h0_39 h0_40 h0_f41 h0_f42 h0_f43 h0_f44 h0_45 h0_46 h0_47 h0_48 h0_49 h0_50 h0_f51 h0_52 h0_f53 h0_5 h0_5k tN h0_5c h0_24 h0_24k w_327) := hD
        refine lv_aload_n hx hb dX12_readStep_51 rfl (lv_at hl 1 rfl) ?_
        refine va_get (D := (dC, dI)) (ci := 12) (v := .ref h0_24) (C := RX12) (T := TX12) (N := 54) hx hb hts iw_c_X12_readStep_7_X12 hown hK hP 0 rfl rfl 24 (by decide +kernel) (hts (.fieldLink RX12 55 "BuoyVoteModel" "plan" "[I") (List.mem_of_getElem? (i := 50) rfl)) (fun _ h9 => h9) rfl dX12_readStep_52 ?_
        refine lv_iload_n hx hb dX12_readStep_55 rfl (lv_at hl 2 rfl) ?_
        refine lv_iconst (v := 2) hx hb dX12_readStep_56 kc_iconst_2 ?_
        refine lv_iadd hx hb dX12_readStep_57 ?_
        refine lv_topi (fun x_330 ex_330 => ?_)
        as_aux_lemma =>
        replace hEX := hEX.trans (exl_eq ex_330)
        have g_331 : RG x_330 258 318 := RG_add ex_330 g_p1 (RG_k 2 2 rfl) (by decide +kernel)
        refine lv_iconst (v := (-1)) hx hb dX12_readStep_58 kc_iconst_m1 ?_
        refine va_iast hx hb hK hP hD hS 2 1 rfl rfl (RG_in g_331 (by decide +kernel)) dX12_readStep_59 (fun H locs hP hD hS => ?_)
        have hP : va_P (dC, dI) vwCl (wd_c_X12_readStep_7 h0 h0_f0 h0_1 h0_2 h0_3 h0_4 h0_5 h0_f6 h0_f7 h0_f8 h0_f9 x_278 x_279 h0_f12 h0_f13 h0_f14 h0_15 h0_16 h0_f17 h0_18 h0_19 h0_20 h0_21 h0_22 h0_23 h0_24 h0_25 h0_f26 h0_f27 h0_f28 h0_f29 h0_f30 h0_f31 h0_32 h0_33 h0_f34 h0_35 h0_36 h0_37 h0_38 h0_39 h0_40 h0_f41 h0_f42 h0_f43 h0_f44 h0_45 h0_46 h0_47 h0_48 h0_49 h0_50 h0_f51 h0_52 h0_f53 h0_5 h0_5k tN h0_5c h0_24 h0_24k (upd w_327 (x_330 : Int32).toNatClampNeg (-1))) H := hP
        have hD : va_D A (wd_c_X12_readStep_7 h0 h0_f0 h0_1 h0_2 h0_3 h0_4 h0_5 h0_f6 h0_f7 h0_f8 h0_f9 x_278 x_279 h0_f12 h0_f13 h0_f14 h0_15 h0_16 h0_f17 h0_18 h0_19 h0_20 h0_21 h0_22 h0_23 h0_24 h0_25 h0_f26 h0_f27 h0_f28 h0_f29 h0_f30 h0_f31 h0_32 h0_33 h0_f34 h0_35 h0_36 h0_37 h0_38 h0_39 h0_40 h0_f41 h0_f42 h0_f43 h0_f44 h0_45 h0_46 h0_47 h0_48 h0_49 h0_50 h0_f51 h0_52 h0_f53 h0_5 h0_5k tN h0_5c h0_24 h0_24k (upd w_327 (x_330 : Int32).toNatClampNeg (-1))) := hD
        have l_333 : (upd w_327 (x_330 : Int32).toNatClampNeg (-1)) (x_330 : Int32).toNatClampNeg = (-1) := pk_us
        have a_334 : AI (upd w_327 (x_330 : Int32).toNatClampNeg (-1)) (-1) 9 := AI_up a_329 (RG_k (-1) (-1) rfl) (by decide +kernel)
        generalize huw_332 : (upd w_327 (x_330 : Int32).toNatClampNeg (-1)) = w_332 at hP hD a_334 l_333
        replace hEX := hEX.trans (exl_eq huw_332.symm)
        have hP : va_P (dC, dI) vwCl (wd_c_X12_readStep_7 h0 h0_f0 h0_1 h0_2 h0_3 h0_4 h0_5 h0_f6 h0_f7 h0_f8 h0_f9 x_278 x_279 h0_f12 h0_f13 h0_f14 h0_15 h0_16 h0_f17 h0_18 h0_19 h0_20 h0_21 h0_22 h0_23 h0_24 h0_25 h0_f26 h0_f27 h0_f28 h0_f29 h0_f30 h0_f31 h0_32 h0_33 h0_f34 h0_35 h0_36 h0_37 h0_38 h0_39 h0_40 h0_f41 h0_f42 h0_f43 h0_f44 h0_45 h0_46 h0_47 h0_48 h0_49 h0_50 h0_f51 h0_52 h0_f53 h0_5 h0_5k tN h0_5c h0_24 h0_24k w_332) H := hP
        have hD : va_D A (wd_c_X12_readStep_7 h0 h0_f0 h0_1 h0_2 h0_3 h0_4 h0_5 h0_f6 h0_f7 h0_f8 h0_f9 x_278 x_279 h0_f12 h0_f13 h0_f14 h0_15 h0_16 h0_f17 h0_18 h0_19 h0_20 h0_21 h0_22 h0_23 h0_24 h0_25 h0_f26 h0_f27 h0_f28 h0_f29 h0_f30 h0_f31 h0_32 h0_33 h0_f34 h0_35 h0_36 h0_37 h0_38 h0_39 h0_40 h0_f41 h0_f42 h0_f43 h0_f44 h0_45 h0_46 h0_47 h0_48 h0_49 h0_50 h0_f51 h0_52 h0_f53 h0_5 h0_5k tN h0_5c h0_24 h0_24k w_332) := hD
        refine lv_aload_n hx hb dX12_readStep_60 rfl (lv_at hl 1 rfl) ?_
        refine va_get (D := (dC, dI)) (ci := 12) (v := .ref h0_24) (C := RX12) (T := TX12) (N := 54) hx hb hts iw_c_X12_readStep_7_X12 hown hK hP 0 rfl rfl 24 (by decide +kernel) (hts (.fieldLink RX12 55 "BuoyVoteModel" "plan" "[I") (List.mem_of_getElem? (i := 50) rfl)) (fun _ h9 => h9) rfl dX12_readStep_61 ?_
        as_aux_lemma =>
        refine lv_iload_n hx hb dX12_readStep_64 rfl (lv_at hl 2 rfl) ?_
        refine lv_iconst (v := 3) hx hb dX12_readStep_65 kc_iconst_3 ?_
        refine lv_iadd hx hb dX12_readStep_66 ?_
        refine lv_topi (fun x_335 ex_335 => ?_)
        replace hEX := hEX.trans (exl_eq ex_335)
        have g_336 : RG x_335 259 319 := RG_add ex_335 g_p1 (RG_k 3 3 rfl) (by decide +kernel)
        refine lv_iconst (v := (-1)) hx hb dX12_readStep_67 kc_iconst_m1 ?_
        refine va_iast hx hb hK hP hD hS 2 1 rfl rfl (RG_in g_336 (by decide +kernel)) dX12_readStep_68 (fun H locs hP hD hS => ?_)
        have hP : va_P (dC, dI) vwCl (wd_c_X12_readStep_7 h0 h0_f0 h0_1 h0_2 h0_3 h0_4 h0_5 h0_f6 h0_f7 h0_f8 h0_f9 x_278 x_279 h0_f12 h0_f13 h0_f14 h0_15 h0_16 h0_f17 h0_18 h0_19 h0_20 h0_21 h0_22 h0_23 h0_24 h0_25 h0_f26 h0_f27 h0_f28 h0_f29 h0_f30 h0_f31 h0_32 h0_33 h0_f34 h0_35 h0_36 h0_37 h0_38 h0_39 h0_40 h0_f41 h0_f42 h0_f43 h0_f44 h0_45 h0_46 h0_47 h0_48 h0_49 h0_50 h0_f51 h0_52 h0_f53 h0_5 h0_5k tN h0_5c h0_24 h0_24k (upd w_332 (x_335 : Int32).toNatClampNeg (-1))) H := hP
        have hD : va_D A (wd_c_X12_readStep_7 h0 h0_f0 h0_1 h0_2 h0_3 h0_4 h0_5 h0_f6 h0_f7 h0_f8 h0_f9 x_278 x_279 h0_f12 h0_f13 h0_f14 h0_15 h0_16 h0_f17 h0_18 h0_19 h0_20 h0_21 h0_22 h0_23 h0_24 h0_25 h0_f26 h0_f27 h0_f28 h0_f29 h0_f30 h0_f31 h0_32 h0_33 h0_f34 h0_35 h0_36 h0_37 h0_38 h0_39 h0_40 h0_f41 h0_f42 h0_f43 h0_f44 h0_45 h0_46 h0_47 h0_48 h0_49 h0_50 h0_f51 h0_52 h0_f53 h0_5 h0_5k tN h0_5c h0_24 h0_24k (upd w_332 (x_335 : Int32).toNatClampNeg (-1))) := hD
        have l_338 : (upd w_332 (x_335 : Int32).toNatClampNeg (-1)) (x_335 : Int32).toNatClampNeg = (-1) := pk_us
        have a_339 : AI (upd w_332 (x_335 : Int32).toNatClampNeg (-1)) (-1) 9 := AI_up a_334 (RG_k (-1) (-1) rfl) (by decide +kernel)
        generalize huw_337 : (upd w_332 (x_335 : Int32).toNatClampNeg (-1)) = w_337 at hP hD a_339 l_338
        replace hEX := hEX.trans (exl_eq huw_337.symm)
        have hP : va_P (dC, dI) vwCl (wd_c_X12_readStep_7 h0 h0_f0 h0_1 h0_2 h0_3 h0_4 h0_5 h0_f6 h0_f7 h0_f8 h0_f9 x_278 x_279 h0_f12 h0_f13 h0_f14 h0_15 h0_16 h0_f17 h0_18 h0_19 h0_20 h0_21 h0_22 h0_23 h0_24 h0_25 h0_f26 h0_f27 h0_f28 h0_f29 h0_f30 h0_f31 h0_32 h0_33 h0_f34 h0_35 h0_36 h0_37 h0_38 h0_39 h0_40 h0_f41 h0_f42 h0_f43 h0_f44 h0_45 h0_46 h0_47 h0_48 h0_49 h0_50 h0_f51 h0_52 h0_f53 h0_5 h0_5k tN h0_5c h0_24 h0_24k w_337) H := hP
        have hD : va_D A (wd_c_X12_readStep_7 h0 h0_f0 h0_1 h0_2 h0_3 h0_4 h0_5 h0_f6 h0_f7 h0_f8 h0_f9 x_278 x_279 h0_f12 h0_f13 h0_f14 h0_15 h0_16 h0_f17 h0_18 h0_19 h0_20 h0_21 h0_22 h0_23 h0_24 h0_25 h0_f26 h0_f27 h0_f28 h0_f29 h0_f30 h0_f31 h0_32 h0_33 h0_f34 h0_35 h0_36 h0_37 h0_38 h0_39 h0_40 h0_f41 h0_f42 h0_f43 h0_f44 h0_45 h0_46 h0_47 h0_48 h0_49 h0_50 h0_f51 h0_52 h0_f53 h0_5 h0_5k tN h0_5c h0_24 h0_24k w_337) := hD
        refine lv_aload_n hx hb dX12_readStep_69 rfl (lv_at hl 1 rfl) ?_
        as_aux_lemma =>
        refine va_get (D := (dC, dI)) (ci := 12) (v := .int x_279) (C := RX12) (T := TX12) (N := 54) hx hb hts iw_c_X12_readStep_7_X12 hown hK hP 0 rfl rfl 11 (by decide +kernel) (hts (.fieldLink RX12 143 "BuoyVoteModel" "fault" "I") (List.mem_of_getElem? (i := 49) rfl)) (fun _ h9 => h9) rfl dX12_readStep_70 ?_
        refine lv_iconst (v := (-1)) hx hb dX12_readStep_73 kc_iconst_m1 ?_
        refine lv_icmp_ne (tgt := 94) hx hb dX12_readStep_74 rfl (fun c_340 => ?_) (fun c_340 => ?_)
        · replace hEX := hEX.trans (if_neg c_340)
          exact hU _ _ _ (J94b 0 x_278 x_279 w_337 g_h0_f10 g_h0_f17 g_h0_f26 g_h0_f27 g_h0_f28 g_h0_f29 g_h0_f30 g_h0_f31 g_h0_f34 g_h0_f41 g_h0_f51 g_h0_f53 g_h0_f6 g_h0_f7 g_h0_f8 h_38 h_287 h_288 (RG_w (RG_k 0 0 rfl) (by decide +kernel)) g_p1 a_339 (by have := h_39; have := q_271; have := h_289; omega) hEX _ _ _ hP hD hS (lv_sub hl [0, 1, 2] rfl))
        · replace hEX := hEX.trans (if_pos c_340)
          exact RG_dead (RG_eq1 h_288 (RG_k (-1) (-1) rfl) c_340 (a' := 0) (b' := (-1)) (by decide +kernel)) (by decide +kernel)
noncomputable def wd_c_X12_readPlan (a0 : Nat) (a1 : Int32) (a2 : Nat) (a3 : Nat) (a4 : Nat) (a5 : Nat) (a6 : Nat) (a7 : Int32) (a8 : Int32) (a9 : Int32) (a10 : Int32) (a11 : Int32) (a12 : Int32) (a13 : Int32) (a14 : Int32) (a15 : Int32) (a16 : Nat) (a17 : Nat) (a18 : Int32) (a19 : Nat) (a20 : Nat) (a21 : Nat) (a22 : Nat) (a23 : Nat) (a24 : Nat) (a25 : Nat) (a26 : Nat) (a27 : Int32) (a28 : Int32) (a29 : Int32) (a30 : Int32) (a31 : Int32) (a32 : Int32) (a33 : Nat) (a34 : Nat) (a35 : Int32) (a36 : Nat) (a37 : Nat) (a38 : Nat) (a39 : Nat) (a40 : Nat) (a41 : Nat) (a42 : Int32) (a43 : Int64) (a44 : Int32) (a45 : Int32) (a46 : Nat) (a47 : Nat) (a48 : Nat) (a49 : Nat) (a50 : Nat) (a51 : Nat) (a52 : Int32) (a53 : Nat) (a54 : Int32) (a55 : Nat) (a56 : ClassId) (a57 : Nat → Int32) (a58 : Nat) (a59 : ClassId) (a60 : Nat → Int32) (a61 : Nat) (a62 : ClassId) (a63 : Nat → Int32) : va_W := [(a0, .inr (12, [.int a1, .ref a2, .ref a3, .ref a4, .ref a5, .ref a6, .int a7, .int a8, .int a9, .int a10, .int a11, .int a12, .int a13, .int a14, .int a15, .ref a16, .ref a17, .int a18, .ref a19, .ref a20, .ref a21, .ref a22, .ref a23, .ref a24, .ref a25, .ref a26, .int a27, .int a28, .int a29, .int a30, .int a31, .int a32, .ref a33, .ref a34, .int a35, .ref a36, .ref a37, .ref a38, .ref a39, .ref a40, .ref a41, .int a42, .long a43, .int a44, .int a45, .ref a46, .ref a47, .ref a48, .ref a49, .ref a50, .ref a51, .int a52, .ref a53, .int a54])), (a55, .inl (a56, 240, .inl a57)), (a58, .inl (a59, 320, .inl a60)), (a61, .inl (a62, 5, .inl a63))]
noncomputable def wf_c_X12_readPlan : List Cond := List.cons (.code yX12_readPlan cX12_readPlan 3 none) (@HAppend.hAppend (List Cond) (List Cond) (List Cond) _ [.fieldLink RX12 9 "BuoyVoteModel" "tape" "[B", .fieldLink RX12 124 "BuoyVoteModel" "length" "I", .methodLink RX12 222 yX12_starts, .instanceMethod yX12_starts, .selects RX12 yX12_starts yX12_starts, .initialized RX12, .code yX12_starts cX12_starts 4 none, .fieldLink RX12 23 "BuoyVoteModel" "text" "[B", .fieldLink RX12 140 "BuoyVoteModel" "begins" "I", .fieldLink RX12 137 "BuoyVoteModel" "ends" "I", .fieldLink RX12 134 "BuoyVoteModel" "at" "I", .fieldLink RX12 143 "BuoyVoteModel" "fault" "I", .methodLink RX12 287 yX12_readStep, .instanceMethod yX12_readStep, .selects RX12 yX12_readStep yX12_readStep, .code yX12_readStep cX12_readStep 3 none, .methodLink RX12 153 yX12_look, .instanceMethod yX12_look, .selects RX12 yX12_look yX12_look, .code yX12_look cX12_look 1 (some .int), .methodLink RX12 240 yX12_spotOf, .static yX12_spotOf, .code yX12_spotOf cX12_spotOf 3 (some .int), .methodLink RX12 114 yJ0_length_8abf5, .instanceMethod yJ0_length_8abf5, .selects RJ0 yJ0_length_8abf5 yJ0_length_8abf5, .initialized RJ0, .code yJ0_length_8abf5 cJ0_length_8abf5 1 (some .int), .fieldLink RJ0 9 "java/lang/String" "value" "[B", .methodLink RJ0 335 yJ0_coder_7d493, .instanceMethod yJ0_coder_7d493, .selects RJ0 yJ0_coder_7d493 yJ0_coder_7d493, .code yJ0_coder_7d493 cJ0_coder_7d493 1 (some .byte), .fieldLink RJ0 38 "java/lang/String" "COMPACT_STRINGS" "Z", .fieldLink RJ0 15 "java/lang/String" "coder" "B", .methodLink RX12 120 yJ0_charAt_5068e, .instanceMethod yJ0_charAt_5068e, .selects RJ0 yJ0_charAt_5068e yJ0_charAt_5068e, .code yJ0_charAt_5068e cJ0_charAt_5068e 2 (some .char), .methodLink RJ0 492 yJ0_isLatin1_aae02, .instanceMethod yJ0_isLatin1_aae02, .selects RJ0 yJ0_isLatin1_aae02 yJ0_isLatin1_aae02, .code yJ0_isLatin1_aae02 cJ0_isLatin1_aae02 1 (some .boolean), .methodLink RJ0 495 yJ1_charAt_3b067, .static yJ1_charAt_3b067, .initialized RJ1, .code yJ1_charAt_3b067 cJ1_charAt_3b067 2 (some .char), .methodLink RJ1 9 yJ0_checkIndex_df160, .static yJ0_checkIndex_df160, .code yJ0_checkIndex_df160 cJ0_checkIndex_df160 2 none, .fieldLink RJ0 1053 "jdk/internal/util/Preconditions" "SIOOBE_FORMATTER" "Ljava/util/function/BiFunction;", .methodLink RJ0 1059 yJ3_checkIndex_8e157, .static yJ3_checkIndex_8e157, .initialized RJ3, .code yJ3_checkIndex_8e157 cJ3_checkIndex_8e157 3 (some .int), .methodLink RX12 149 yX12_fails, .instanceMethod yX12_fails, .selects RX12 yX12_fails yX12_fails, .code yX12_fails cX12_fails 1 (some .boolean), .fieldLink RX12 55 "BuoyVoteModel" "plan" "[I", .methodLink RX12 284 yX12_digit, .instanceMethod yX12_digit, .selects RX12 yX12_digit yX12_digit, .code yX12_digit cX12_digit 2 (some .int), .methodLink RX12 183 yX12_isDigit, .instanceMethod yX12_isDigit, .selects RX12 yX12_isDigit yX12_isDigit, .code yX12_isDigit cX12_isDigit 1 (some .boolean), .fieldLink RX12 58 "BuoyVoteModel" "planLong" "[I"] wsX120)
theorem iw_c_X12_readPlan_X12 : ∀ w ∈ wsX120, w ∈ wf_c_X12_readPlan := fun w h => List.mem_cons_of_mem _ (List.mem_append_right _ h)
set_option maxRecDepth 20000 in
theorem gf_c_X12_readPlan_c_X12_look : GoodIn wf_c_X12_readPlan (wsV RX12 153 RX12 yX12_look wf_c_X12_look) := goodIn_app (gi_l [17, 18, 19, 6] rfl rfl) (gi_cons (j := 20) rfl rfl (goodIn_app (gi_l [11, 10, 8, 9] rfl rfl) (goodIn_sub iw_c_X12_readPlan_X12 gw_X12)))
set_option maxRecDepth 20000 in
theorem gf_c_X12_readPlan_c_X12_fails : GoodIn wf_c_X12_readPlan (wsV RX12 149 RX12 yX12_fails wf_c_X12_fails) := goodIn_app (gi_l [56, 57, 58, 6] rfl rfl) (gi_cons (j := 59) rfl rfl (goodIn_app (gi_l [12, 11] rfl rfl) (goodIn_sub iw_c_X12_readPlan_X12 gw_X12)))
set_option maxRecDepth 20000 in
theorem gf_c_X12_readPlan_c_X12_readStep_7 : GoodIn wf_c_X12_readPlan (wsV RX12 287 RX12 yX12_readStep wf_c_X12_readStep_7) := goodIn_app (gi_l [13, 14, 15, 6] rfl rfl) (gi_cons (j := 16) rfl rfl (goodIn_app (gi_l [17, 18, 19, 6, 20, 11, 10, 8, 9, 21, 22, 23, 24, 25, 26, 27, 28, 29, 30, 31, 32, 33, 34, 35, 36, 37, 38, 39, 40, 41, 42, 43, 44, 45, 46, 47, 48, 49, 50, 51, 52, 53, 54, 55, 56, 57, 58, 59, 12, 60, 61, 62, 63, 64, 65, 66, 67, 68] rfl rfl) (goodIn_sub iw_c_X12_readPlan_X12 gw_X12)))
set_option maxRecDepth 20000 in
theorem gf_c_X12_readPlan_c_X12_starts : GoodIn wf_c_X12_readPlan (wsV RX12 222 RX12 yX12_starts wf_c_X12_starts) := goodIn_app (gi_l [3, 4, 5, 6] rfl rfl) (gi_cons (j := 7) rfl rfl (goodIn_app (gi_l [8, 9, 10, 11, 12] rfl rfl) (goodIn_sub iw_c_X12_readPlan_X12 gw_X12)))
set_option maxHeartbeats 4000000 in
set_option maxRecDepth 100000 in
theorem c_X12_readPlan (l : Launch) (dC : Nat → ClassId) (dI : Nat → Nat → Nat) (sz : Nat) (h0 : Nat) (h0_f0 : Int32) (h0_1 : Nat) (h0_2 : Nat) (h0_3 : Nat) (h0_4 : Nat) (h0_5 : Nat) (h0_f6 : Int32) (h0_f7 : Int32) (h0_f8 : Int32) (h0_f9 : Int32) (h0_f10 : Int32) (h0_f11 : Int32) (h0_f12 : Int32) (h0_f13 : Int32) (h0_f14 : Int32) (h0_15 : Nat) (h0_16 : Nat) (h0_f17 : Int32) (h0_18 : Nat) (h0_19 : Nat) (h0_20 : Nat) (h0_21 : Nat) (h0_22 : Nat) (h0_23 : Nat) (h0_24 : Nat) (h0_25 : Nat) (h0_f26 : Int32) (h0_f27 : Int32) (h0_f28 : Int32) (h0_f29 : Int32) (h0_f30 : Int32) (h0_f31 : Int32) (h0_32 : Nat) (h0_33 : Nat) (h0_f34 : Int32) (h0_35 : Nat) (h0_36 : Nat) (h0_37 : Nat) (h0_38 : Nat) (h0_39 : Nat) (h0_40 : Nat) (h0_f41 : Int32) (h0_f42 : Int64) (h0_f43 : Int32) (h0_f44 : Int32) (h0_45 : Nat) (h0_46 : Nat) (h0_47 : Nat) (h0_48 : Nat) (h0_49 : Nat) (h0_50 : Nat) (h0_f51 : Int32) (h0_52 : Nat) (h0_f53 : Int32) (h0_1k : ClassId) (h0_1c : Nat → Int32) (h0_24k : ClassId) (h0_24c : Nat → Int32) (h0_25k : ClassId) (h0_25c : Nat → Int32) (ts11 : Nat) (tv11 : Nat) (g_h0_f6 : RG h0_f6 0 240) (g_h0_f7 : RG h0_f7 0 4) (g_h0_f8 : RG h0_f8 0 720) (g_h0_f9 : RG h0_f9 0 240) (g_h0_f10 : RG h0_f10 0 240) (g_h0_f11 : RG h0_f11 (-1) 240) (g_h0_f17 : RG h0_f17 0 1) (g_h0_f26 : RG h0_f26 0 8) (g_h0_f27 : RG h0_f27 0 3) (g_h0_f28 : RG h0_f28 0 8) (g_h0_f29 : RG h0_f29 0 3) (g_h0_f30 : RG h0_f30 0 4) (g_h0_f31 : RG h0_f31 0 1) (g_h0_f34 : RG h0_f34 (-1) 3) (g_h0_f41 : RG h0_f41 0 40) (g_h0_f51 : RG h0_f51 0 10) (g_h0_f53 : RG h0_f53 0 1) (a_h0_24c : AI h0_24c (-1) 9) (a_h0_25c : AI h0_25c 0 16) : Met l yX12_readPlan wf_c_X12_readPlan ({ frames := 6, cells := 0, slots := 0, locals := 129 }) (va_Pc [.ref h0] (fun U => U.heap.size = sz ∧ va_P (dC, dI) vwCl (wd_c_X12_readPlan h0 h0_f0 h0_1 h0_2 h0_3 h0_4 h0_5 h0_f6 h0_f7 h0_f8 h0_f9 h0_f10 h0_f11 h0_f12 h0_f13 h0_f14 h0_15 h0_16 h0_f17 h0_18 h0_19 h0_20 h0_21 h0_22 h0_23 h0_24 h0_25 h0_f26 h0_f27 h0_f28 h0_f29 h0_f30 h0_f31 h0_32 h0_33 h0_f34 h0_35 h0_36 h0_37 h0_38 h0_39 h0_40 h0_f41 h0_f42 h0_f43 h0_f44 h0_45 h0_46 h0_47 h0_48 h0_49 h0_50 h0_f51 h0_52 h0_f53 h0_1 h0_1k h0_1c h0_24 h0_24k h0_24c h0_25 h0_25k h0_25c) U.heap ∧ va_K (dC, dI) vwCl [(h0_1k, .byte), (h0_24k, .int), (h0_25k, .int)] U ∧ va_D (fun _ => True) (wd_c_X12_readPlan h0 h0_f0 h0_1 h0_2 h0_3 h0_4 h0_5 h0_f6 h0_f7 h0_f8 h0_f9 h0_f10 h0_f11 h0_f12 h0_f13 h0_f14 h0_15 h0_16 h0_f17 h0_18 h0_19 h0_20 h0_21 h0_22 h0_23 h0_24 h0_25 h0_f26 h0_f27 h0_f28 h0_f29 h0_f30 h0_f31 h0_32 h0_33 h0_f34 h0_35 h0_36 h0_37 h0_38 h0_39 h0_40 h0_f41 h0_f42 h0_f43 h0_f44 h0_45 h0_46 h0_47 h0_48 h0_49 h0_50 h0_f51 h0_52 h0_f53 h0_1 h0_1k h0_1c h0_24 h0_24k h0_24c h0_25 h0_25k h0_25c) ∧ vk_R RX12 282 "gsch" ts11 U ∧ va_OF "java/lang/String" "value" "[B" (.ref tv11) ts11 (va_A (wd_c_X12_readPlan h0 h0_f0 h0_1 h0_2 h0_3 h0_4 h0_5 h0_f6 h0_f7 h0_f8 h0_f9 h0_f10 h0_f11 h0_f12 h0_f13 h0_f14 h0_15 h0_16 h0_f17 h0_18 h0_19 h0_20 h0_21 h0_22 h0_23 h0_24 h0_25 h0_f26 h0_f27 h0_f28 h0_f29 h0_f30 h0_f31 h0_32 h0_33 h0_f34 h0_35 h0_36 h0_37 h0_38 h0_39 h0_40 h0_f41 h0_f42 h0_f43 h0_f44 h0_45 h0_46 h0_47 h0_48 h0_49 h0_50 h0_f51 h0_52 h0_f53 h0_1 h0_1k h0_1c h0_24 h0_24k h0_24c h0_25 h0_25k h0_25c) sz) U U.heap ∧ va_T .byte tv11 4 (fun j => .int ([103, 115, 99, 104].getD j 0)) (va_A (wd_c_X12_readPlan h0 h0_f0 h0_1 h0_2 h0_3 h0_4 h0_5 h0_f6 h0_f7 h0_f8 h0_f9 h0_f10 h0_f11 h0_f12 h0_f13 h0_f14 h0_15 h0_16 h0_f17 h0_18 h0_19 h0_20 h0_21 h0_22 h0_23 h0_24 h0_25 h0_f26 h0_f27 h0_f28 h0_f29 h0_f30 h0_f31 h0_32 h0_33 h0_f34 h0_35 h0_36 h0_37 h0_38 h0_39 h0_40 h0_f41 h0_f42 h0_f43 h0_f44 h0_45 h0_46 h0_47 h0_48 h0_49 h0_50 h0_f51 h0_52 h0_f53 h0_1 h0_1k h0_1c h0_24 h0_24k h0_24c h0_25 h0_25k h0_25c) sz) U U.heap ∧ va_Z "java/lang/String" "COMPACT_STRINGS" "Z" (.int 1) (va_A (wd_c_X12_readPlan h0 h0_f0 h0_1 h0_2 h0_3 h0_4 h0_5 h0_f6 h0_f7 h0_f8 h0_f9 h0_f10 h0_f11 h0_f12 h0_f13 h0_f14 h0_15 h0_16 h0_f17 h0_18 h0_19 h0_20 h0_21 h0_22 h0_23 h0_24 h0_25 h0_f26 h0_f27 h0_f28 h0_f29 h0_f30 h0_f31 h0_32 h0_33 h0_f34 h0_35 h0_36 h0_37 h0_38 h0_39 h0_40 h0_f41 h0_f42 h0_f43 h0_f44 h0_45 h0_46 h0_47 h0_48 h0_49 h0_50 h0_f51 h0_52 h0_f53 h0_1 h0_1k h0_1c h0_24 h0_24k h0_24c h0_25 h0_25k h0_25c) sz) U U.heap ∧ va_OF "java/lang/String" "coder" "B" (.int 0) ts11 (va_A (wd_c_X12_readPlan h0 h0_f0 h0_1 h0_2 h0_3 h0_4 h0_5 h0_f6 h0_f7 h0_f8 h0_f9 h0_f10 h0_f11 h0_f12 h0_f13 h0_f14 h0_15 h0_16 h0_f17 h0_18 h0_19 h0_20 h0_21 h0_22 h0_23 h0_24 h0_25 h0_f26 h0_f27 h0_f28 h0_f29 h0_f30 h0_f31 h0_32 h0_33 h0_f34 h0_35 h0_36 h0_37 h0_38 h0_39 h0_40 h0_f41 h0_f42 h0_f43 h0_f44 h0_45 h0_46 h0_47 h0_48 h0_49 h0_50 h0_f51 h0_52 h0_f53 h0_1 h0_1k h0_1c h0_24 h0_24k h0_24c h0_25 h0_25k h0_25c) sz) U U.heap ∧ va_O "java/lang/String" ts11 (va_A (wd_c_X12_readPlan h0 h0_f0 h0_1 h0_2 h0_3 h0_4 h0_5 h0_f6 h0_f7 h0_f8 h0_f9 h0_f10 h0_f11 h0_f12 h0_f13 h0_f14 h0_15 h0_16 h0_f17 h0_18 h0_19 h0_20 h0_21 h0_22 h0_23 h0_24 h0_25 h0_f26 h0_f27 h0_f28 h0_f29 h0_f30 h0_f31 h0_32 h0_33 h0_f34 h0_35 h0_36 h0_37 h0_38 h0_39 h0_40 h0_f41 h0_f42 h0_f43 h0_f44 h0_45 h0_46 h0_47 h0_48 h0_49 h0_50 h0_f51 h0_52 h0_f53 h0_1 h0_1k h0_1c h0_24 h0_24k h0_24c h0_25 h0_25k h0_25c) sz) U U.heap ∧ va_Zq "jdk/internal/util/Preconditions" "SIOOBE_FORMATTER" "Ljava/util/function/BiFunction;" (va_A (wd_c_X12_readPlan h0 h0_f0 h0_1 h0_2 h0_3 h0_4 h0_5 h0_f6 h0_f7 h0_f8 h0_f9 h0_f10 h0_f11 h0_f12 h0_f13 h0_f14 h0_15 h0_16 h0_f17 h0_18 h0_19 h0_20 h0_21 h0_22 h0_23 h0_24 h0_25 h0_f26 h0_f27 h0_f28 h0_f29 h0_f30 h0_f31 h0_32 h0_33 h0_f34 h0_35 h0_36 h0_37 h0_38 h0_39 h0_40 h0_f41 h0_f42 h0_f43 h0_f44 h0_45 h0_46 h0_47 h0_48 h0_49 h0_50 h0_f51 h0_52 h0_f53 h0_1 h0_1k h0_1c h0_24 h0_24k h0_24c h0_25 h0_25k h0_25c) sz) U U.heap)) (va_Qv (fun (u : (Int32) × (Int32) × (Nat → Int32) × (Nat → Int32)) => (RG u.1 0 240 ∧ u.2.1 = (-1) ∧ AI (u.2.2.1) (-1) 9 ∧ AI (u.2.2.2) 0 16 ∧ RG h0_f6 1 240 ∧ (u.1, u.2.1, u.2.2.1, u.2.2.2) = fx_c_X12_readPlan h0_f6 h0_1c h0_24c h0_25c) ∨ (RG u.1 0 240 ∧ RG u.2.1 0 240 ∧ AI (u.2.2.1) (-1) 9 ∧ AI (u.2.2.2) 0 16 ∧ (u.1, u.2.1, u.2.2.1, u.2.2.2) = fx_c_X12_readPlan h0_f6 h0_1c h0_24c h0_25c)) (fun (u : (Int32) × (Int32) × (Nat → Int32) × (Nat → Int32)) t => va_P (dC, dI) vwCl (wd_c_X12_readPlan h0 h0_f0 h0_1 h0_2 h0_3 h0_4 h0_1 h0_f6 h0_f7 0 h0_f6 (u.1) (u.2.1) h0_f12 h0_f13 h0_f14 h0_15 h0_16 h0_f17 h0_18 h0_19 h0_20 h0_21 h0_22 h0_23 h0_24 h0_25 h0_f26 h0_f27 h0_f28 h0_f29 h0_f30 h0_f31 h0_32 h0_33 h0_f34 h0_35 h0_36 h0_37 h0_38 h0_39 h0_40 h0_f41 h0_f42 h0_f43 h0_f44 h0_45 h0_46 h0_47 h0_48 h0_49 h0_50 h0_f51 h0_52 h0_f53 h0_1 h0_1k h0_1c h0_24 h0_24k (u.2.2.1) h0_25 h0_25k (u.2.2.2)) t.heap ∧ va_K (dC, dI) vwCl [] t ∧ va_D (va_A (wd_c_X12_readPlan h0 h0_f0 h0_1 h0_2 h0_3 h0_4 h0_5 h0_f6 h0_f7 h0_f8 h0_f9 h0_f10 h0_f11 h0_f12 h0_f13 h0_f14 h0_15 h0_16 h0_f17 h0_18 h0_19 h0_20 h0_21 h0_22 h0_23 h0_24 h0_25 h0_f26 h0_f27 h0_f28 h0_f29 h0_f30 h0_f31 h0_32 h0_33 h0_f34 h0_35 h0_36 h0_37 h0_38 h0_39 h0_40 h0_f41 h0_f42 h0_f43 h0_f44 h0_45 h0_46 h0_47 h0_48 h0_49 h0_50 h0_f51 h0_52 h0_f53 h0_1 h0_1k h0_1c h0_24 h0_24k h0_24c h0_25 h0_25k h0_25c) sz) (wd_c_X12_readPlan h0 h0_f0 h0_1 h0_2 h0_3 h0_4 h0_1 h0_f6 h0_f7 0 h0_f6 (u.1) (u.2.1) h0_f12 h0_f13 h0_f14 h0_15 h0_16 h0_f17 h0_18 h0_19 h0_20 h0_21 h0_22 h0_23 h0_24 h0_25 h0_f26 h0_f27 h0_f28 h0_f29 h0_f30 h0_f31 h0_32 h0_33 h0_f34 h0_35 h0_36 h0_37 h0_38 h0_39 h0_40 h0_f41 h0_f42 h0_f43 h0_f44 h0_45 h0_46 h0_47 h0_48 h0_49 h0_50 h0_f51 h0_52 h0_f53 h0_1 h0_1k h0_1c h0_24 h0_24k (u.2.2.1) h0_25 h0_25k (u.2.2.2))) (va_A (wd_c_X12_readPlan h0 h0_f0 h0_1 h0_2 h0_3 h0_4 h0_5 h0_f6 h0_f7 h0_f8 h0_f9 h0_f10 h0_f11 h0_f12 h0_f13 h0_f14 h0_15 h0_16 h0_f17 h0_18 h0_19 h0_20 h0_21 h0_22 h0_23 h0_24 h0_25 h0_f26 h0_f27 h0_f28 h0_f29 h0_f30 h0_f31 h0_32 h0_33 h0_f34 h0_35 h0_36 h0_37 h0_38 h0_39 h0_40 h0_f41 h0_f42 h0_f43 h0_f44 h0_45 h0_46 h0_47 h0_48 h0_49 h0_50 h0_f51 h0_52 h0_f53 h0_1 h0_1k h0_1c h0_24 h0_24k h0_24c h0_25 h0_25k h0_25c) sz)) 0 0 (va_A (wd_c_X12_readPlan h0 h0_f0 h0_1 h0_2 h0_3 h0_4 h0_5 h0_f6 h0_f7 h0_f8 h0_f9 h0_f10 h0_f11 h0_f12 h0_f13 h0_f14 h0_15 h0_16 h0_f17 h0_18 h0_19 h0_20 h0_21 h0_22 h0_23 h0_24 h0_25 h0_f26 h0_f27 h0_f28 h0_f29 h0_f30 h0_f31 h0_32 h0_33 h0_f34 h0_35 h0_36 h0_37 h0_38 h0_39 h0_40 h0_f41 h0_f42 h0_f43 h0_f44 h0_45 h0_46 h0_47 h0_48 h0_49 h0_50 h0_f51 h0_52 h0_f53 h0_1 h0_1k h0_1c h0_24 h0_24k h0_24c h0_25 h0_25k h0_25c) sz) := by
  refine Met.ofW (cc := cX12_readPlan) (maxL := 3) (ret := none) (by decide +kernel) rfl ?_
  intro p e s m args below meth c s₁ B hml hv
  obtain ⟨rfl, hsz, hP, hK, hD0, hE_67, hE_70, hE_71, hE_10, hE_69, hE_68, hE_11⟩ := hv
  have hx := B.exec
  have hb := B.bytes
  have hr := B.returns
  have hts := atoms_spec (ws := wf_c_X12_readPlan) B.pre
  have hown : s.vm.findClass RX12 = some m.cls := findClass_of_methodNamed B.named
  have hlocks := B.notSynchronized
  subst hsz
  have hD := hD0.self (sz := s.heap.size)
  generalize hAe : va_A (wd_c_X12_readPlan h0 h0_f0 h0_1 h0_2 h0_3 h0_4 h0_5 h0_f6 h0_f7 h0_f8 h0_f9 h0_f10 h0_f11 h0_f12 h0_f13 h0_f14 h0_15 h0_16 h0_f17 h0_18 h0_19 h0_20 h0_21 h0_22 h0_23 h0_24 h0_25 h0_f26 h0_f27 h0_f28 h0_f29 h0_f30 h0_f31 h0_32 h0_33 h0_f34 h0_35 h0_36 h0_37 h0_38 h0_39 h0_40 h0_f41 h0_f42 h0_f43 h0_f44 h0_45 h0_46 h0_47 h0_48 h0_49 h0_50 h0_f51 h0_52 h0_f53 h0_1 h0_1k h0_1c h0_24 h0_24k h0_24c h0_25 h0_25k h0_25c) s.heap.size = A at hD hE_70 hE_71 hE_10 hE_69 hE_68 hE_11 ⊢
  have hA : ∀ q : Nat, s.heap.size ≤ q → A q := fun q h => by rw [← hAe]; exact Or.inr h
  have hP : va_P (dC, dI) vwCl (wd_c_X12_readPlan h0 h0_f0 h0_1 h0_2 h0_3 h0_4 h0_5 h0_f6 h0_f7 h0_f8 h0_f9 h0_f10 h0_f11 h0_f12 h0_f13 h0_f14 h0_15 h0_16 h0_f17 h0_18 h0_19 h0_20 h0_21 h0_22 h0_23 h0_24 h0_25 h0_f26 h0_f27 h0_f28 h0_f29 h0_f30 h0_f31 h0_32 h0_33 h0_f34 h0_35 h0_36 h0_37 h0_38 h0_39 h0_40 h0_f41 h0_f42 h0_f43 h0_f44 h0_45 h0_46 h0_47 h0_48 h0_49 h0_50 h0_f51 h0_52 h0_f53 h0_1 h0_1k h0_1c h0_24 h0_24k h0_24c h0_25 h0_25k h0_25c) s.heap := hP
  have hl := lv_entry ([.ref h0]) (n := 3) (Nat.le_of_ble_eq_true rfl)
  rw [lg_entry_eq]
  generalize (lg_sl ([.ref h0]) ++ List.replicate (3 - (lg_sl ([.ref h0])).length) Slot.unset).toArray = ls at hl ⊢
  have hl : lv_has ls 3 [(0, .ref h0)] := hl
  obtain ⟨H, hHe⟩ : ∃ H : Heap, s.heap = H := ⟨_, rfl⟩
  have hS : va_S A s.heap H [] := by rw [hHe]; exact va_S.rf
  have hP : va_P (dC, dI) vwCl (wd_c_X12_readPlan h0 h0_f0 h0_1 h0_2 h0_3 h0_4 h0_5 h0_f6 h0_f7 h0_f8 h0_f9 h0_f10 h0_f11 h0_f12 h0_f13 h0_f14 h0_15 h0_16 h0_f17 h0_18 h0_19 h0_20 h0_21 h0_22 h0_23 h0_24 h0_25 h0_f26 h0_f27 h0_f28 h0_f29 h0_f30 h0_f31 h0_32 h0_33 h0_f34 h0_35 h0_36 h0_37 h0_38 h0_39 h0_40 h0_f41 h0_f42 h0_f43 h0_f44 h0_45 h0_46 h0_47 h0_48 h0_49 h0_50 h0_f51 h0_52 h0_f53 h0_1 h0_1k h0_1c h0_24 h0_24k h0_24c h0_25 h0_25k h0_25c) H := by rw [← hHe]; exact hP
  rw [hHe]
  obtain ⟨RES, hR⟩ : ∃ z, fx_c_X12_readPlan h0_f6 h0_1c h0_24c h0_25c = z := ⟨_, rfl⟩
  have hEX : RES = fx_c_X12_readPlan h0_f6 h0_1c h0_24c h0_25c := hR.symm
  refine wj (fun G hG hU => ?_)
  as_aux_lemma =>
  have J17b : ∀ (j17b_l1 : Int32) (j17b_h0_f10 : Int32) (j17b_h0_24c : Nat → Int32) (g_h0_f10 : RG h0_f10 0 240) (g_h0_f11 : RG h0_f11 (-1) 240) (g_h0_f17 : RG h0_f17 0 1) (g_h0_f26 : RG h0_f26 0 8) (g_h0_f27 : RG h0_f27 0 3) (g_h0_f28 : RG h0_f28 0 8) (g_h0_f29 : RG h0_f29 0 3) (g_h0_f30 : RG h0_f30 0 4) (g_h0_f31 : RG h0_f31 0 1) (g_h0_f34 : RG h0_f34 (-1) 3) (g_h0_f41 : RG h0_f41 0 40) (g_h0_f51 : RG h0_f51 0 10) (g_h0_f53 : RG h0_f53 0 1) (g_h0_f6 : RG h0_f6 1 240) (g_h0_f7 : RG h0_f7 0 4) (g_h0_f8 : RG h0_f8 0 720) (g_h0_f9 : RG h0_f9 0 240) (g_j17b_h0_f10 : RG j17b_h0_f10 0 240) (g_j17b_l1 : RG j17b_l1 1 16) (a_j17b_h0_24c : AI j17b_h0_24c (-1) 9) (hEX : RES = fx_c_X12_readPlan_p17b h0_f6 h0_1c h0_25c j17b_l1 j17b_h0_f10 j17b_h0_24c) (H : Heap) (locs : List Loc) (ls : Array Slot) (hP : va_P (dC, dI) vwCl (wd_c_X12_readPlan h0 h0_f0 h0_1 h0_2 h0_3 h0_4 h0_1 h0_f6 h0_f7 0 h0_f6 j17b_h0_f10 (-1) h0_f12 h0_f13 h0_f14 h0_15 h0_16 h0_f17 h0_18 h0_19 h0_20 h0_21 h0_22 h0_23 h0_24 h0_25 h0_f26 h0_f27 h0_f28 h0_f29 h0_f30 h0_f31 h0_32 h0_33 h0_f34 h0_35 h0_36 h0_37 h0_38 h0_39 h0_40 h0_f41 h0_f42 h0_f43 h0_f44 h0_45 h0_46 h0_47 h0_48 h0_49 h0_50 h0_f51 h0_52 h0_f53 h0_1 h0_1k h0_1c h0_24 h0_24k j17b_h0_24c h0_25 h0_25k h0_25c) H) (hD : va_D A (wd_c_X12_readPlan h0 h0_f0 h0_1 h0_2 h0_3 h0_4 h0_1 h0_f6 h0_f7 0 h0_f6 j17b_h0_f10 (-1) h0_f12 h0_f13 h0_f14 h0_15 h0_16 h0_f17 h0_18 h0_19 h0_20 h0_21 h0_22 h0_23 h0_24 h0_25 h0_f26 h0_f27 h0_f28 h0_f29 h0_f30 h0_f31 h0_32 h0_33 h0_f34 h0_35 h0_36 h0_37 h0_38 h0_39 h0_40 h0_f41 h0_f42 h0_f43 h0_f44 h0_45 h0_46 h0_47 h0_48 h0_49 h0_50 h0_f51 h0_52 h0_f53 h0_1 h0_1k h0_1c h0_24 h0_24k j17b_h0_24c h0_25 h0_25k h0_25c)) (hS : va_S A s.heap H locs) (hl : lv_has ls 3 [(2, .int 0), (1, .int j17b_l1), (0, .ref h0)]), G H locs (F0 m 17 ls []) := by
    as_aux_lemma =>
    intro j17b_l1 j17b_h0_f10 j17b_h0_24c g_h0_f10 g_h0_f11 g_h0_f17 g_h0_f26 g_h0_f27 g_h0_f28 g_h0_f29 g_h0_f30 g_h0_f31 g_h0_f34 g_h0_f41 g_h0_f51 g_h0_f53 g_h0_f6 g_h0_f7 g_h0_f8 g_h0_f9 g_j17b_h0_f10 g_j17b_l1 a_j17b_h0_24c hEX H locs ls hP hD hS hl
    refine hG _ _ _ ?_
    refine lv_iload_n hx hb dX12_readPlan_17 rfl (lv_at hl 0 rfl) ?_
    refine lv_if_eq (tgt := 91) hx hb dX12_readPlan_18 rfl (fun c_1 => ?_) (fun c_1 => absurd c_1 (by decide +kernel))
    refine lv_aload_n hx hb dX12_readPlan_91 rfl (lv_at hl 2 rfl) ?_
    refine va_get (D := (dC, dI)) (ci := 12) (v := .ref h0_25) (C := RX12) (T := TX12) (N := 54) hx hb hts iw_c_X12_readPlan_X12 hown hK hP 0 rfl rfl 25 (by decide +kernel) (hts (.fieldLink RX12 58 "BuoyVoteModel" "planLong" "[I") (List.mem_of_getElem? (i := 69) rfl)) (fun _ h9 => h9) rfl dX12_readPlan_92 ?_
    refine lv_iconst (v := 4) hx hb dX12_readPlan_95 kc_iconst_4 ?_
    refine lv_iload_n hx hb dX12_readPlan_96 rfl (lv_at hl 1 rfl) ?_
    refine va_iast hx hb hK hP hD hS 3 2 rfl rfl (RG_in (RG_k 4 4 rfl) (by decide +kernel)) dX12_readPlan_97 (fun H locs hP hD hS => ?_)
    have hP : va_P (dC, dI) vwCl (wd_c_X12_readPlan h0 h0_f0 h0_1 h0_2 h0_3 h0_4 h0_1 h0_f6 h0_f7 0 h0_f6 j17b_h0_f10 (-1) h0_f12 h0_f13 h0_f14 h0_15 h0_16 h0_f17 h0_18 h0_19 h0_20 h0_21 h0_22 h0_23 h0_24 h0_25 h0_f26 h0_f27 h0_f28 h0_f29 h0_f30 h0_f31 h0_32 h0_33 h0_f34 h0_35 h0_36 h0_37 h0_38 h0_39 h0_40 h0_f41 h0_f42 h0_f43 h0_f44 h0_45 h0_46 h0_47 h0_48 h0_49 h0_50 h0_f51 h0_52 h0_f53 h0_1 h0_1k h0_1c h0_24 h0_24k j17b_h0_24c h0_25 h0_25k (upd h0_25c (4 : Int32).toNatClampNeg j17b_l1)) H := hP
    have hD : va_D A (wd_c_X12_readPlan h0 h0_f0 h0_1 h0_2 h0_3 h0_4 h0_1 h0_f6 h0_f7 0 h0_f6 j17b_h0_f10 (-1) h0_f12 h0_f13 h0_f14 h0_15 h0_16 h0_f17 h0_18 h0_19 h0_20 h0_21 h0_22 h0_23 h0_24 h0_25 h0_f26 h0_f27 h0_f28 h0_f29 h0_f30 h0_f31 h0_32 h0_33 h0_f34 h0_35 h0_36 h0_37 h0_38 h0_39 h0_40 h0_f41 h0_f42 h0_f43 h0_f44 h0_45 h0_46 h0_47 h0_48 h0_49 h0_50 h0_f51 h0_52 h0_f53 h0_1 h0_1k h0_1c h0_24 h0_24k j17b_h0_24c h0_25 h0_25k (upd h0_25c (4 : Int32).toNatClampNeg j17b_l1)) := hD
    have l_3 : (upd h0_25c (4 : Int32).toNatClampNeg j17b_l1) (4 : Int32).toNatClampNeg = j17b_l1 := pk_us
    have a_4 : AI (upd h0_25c (4 : Int32).toNatClampNeg j17b_l1) 0 16 := AI_up a_h0_25c g_j17b_l1 (by decide +kernel)
    generalize huw_2 : (upd h0_25c (4 : Int32).toNatClampNeg j17b_l1) = w_2 at hP hD a_4 l_3
    replace hEX := hEX.trans (exl_eq huw_2.symm)
    have hP : va_P (dC, dI) vwCl (wd_c_X12_readPlan h0 h0_f0 h0_1 h0_2 h0_3 h0_4 h0_1 h0_f6 h0_f7 0 h0_f6 j17b_h0_f10 (-1) h0_f12 h0_f13 h0_f14 h0_15 h0_16 h0_f17 h0_18 h0_19 h0_20 h0_21 h0_22 h0_23 h0_24 h0_25 h0_f26 h0_f27 h0_f28 h0_f29 h0_f30 h0_f31 h0_32 h0_33 h0_f34 h0_35 h0_36 h0_37 h0_38 h0_39 h0_40 h0_f41 h0_f42 h0_f43 h0_f44 h0_45 h0_46 h0_47 h0_48 h0_49 h0_50 h0_f51 h0_52 h0_f53 h0_1 h0_1k h0_1c h0_24 h0_24k j17b_h0_24c h0_25 h0_25k w_2) H := hP
    have hD : va_D A (wd_c_X12_readPlan h0 h0_f0 h0_1 h0_2 h0_3 h0_4 h0_1 h0_f6 h0_f7 0 h0_f6 j17b_h0_f10 (-1) h0_f12 h0_f13 h0_f14 h0_15 h0_16 h0_f17 h0_18 h0_19 h0_20 h0_21 h0_22 h0_23 h0_24 h0_25 h0_f26 h0_f27 h0_f28 h0_f29 h0_f30 h0_f31 h0_32 h0_33 h0_f34 h0_35 h0_36 h0_37 h0_38 h0_39 h0_40 h0_f41 h0_f42 h0_f43 h0_f44 h0_45 h0_46 h0_47 h0_48 h0_49 h0_50 h0_f51 h0_52 h0_f53 h0_1 h0_1k h0_1c h0_24 h0_24k j17b_h0_24c h0_25 h0_25k w_2) := hD
    refine lv_aload_n hx hb dX12_readPlan_98 rfl (lv_at hl 2 rfl) ?_
    as_aux_lemma =>
    obtain ⟨hPc, hDc, hFc, hqc⟩ := cl_cut (wc := (wd_c_X12_look h0 h0_f0 h0_1 h0_2 h0_3 h0_4 h0_1 h0_f6 h0_f7 0 h0_f6 j17b_h0_f10 (-1) h0_f12 h0_f13 h0_f14 h0_15 h0_16 h0_f17 h0_18 h0_19 h0_20 h0_21 h0_22 h0_23 h0_24 h0_25 h0_f26 h0_f27 h0_f28 h0_f29 h0_f30 h0_f31 h0_32 h0_33 h0_f34 h0_35 h0_36 h0_37 h0_38 h0_39 h0_40 h0_f41 h0_f42 h0_f43 h0_f44 h0_45 h0_46 h0_47 h0_48 h0_49 h0_50 h0_f51 h0_52 h0_f53 h0_1 h0_1k 240 h0_1c)) hP hD hS hA [0, 1] (by decide +kernel) rfl
    have hKc := hK.sub (tys' := [(h0_1k, .byte)]) [0] rfl
    have hrv := va_recv hKc hPc (ci := 12) (q0 := 0) rfl rfl
    refine va_calli (va_runV (As := []) (rest := []) ⟨hx, hb, hml, hown, hts⟩ (c_X12_look l dC dI H.size h0 h0_f0 h0_1 h0_2 h0_3 h0_4 h0_1 h0_f6 h0_f7 0 h0_f6 j17b_h0_f10 h0_f12 h0_f13 h0_f14 h0_15 h0_16 h0_f17 h0_18 h0_19 h0_20 h0_21 h0_22 h0_23 h0_24 h0_25 h0_f26 h0_f27 h0_f28 h0_f29 h0_f30 h0_f31 h0_32 h0_33 h0_f34 h0_35 h0_36 h0_37 h0_38 h0_39 h0_40 h0_f41 h0_f42 h0_f43 h0_f44 h0_45 h0_46 h0_47 h0_48 h0_49 h0_50 h0_f51 h0_52 h0_f53 h0_1k h0_1c 240 (RG_w g_h0_f6 (by decide +kernel)) g_h0_f7 (RG_w (RG_k 0 0 rfl) (by decide +kernel)) (RG_w g_h0_f6 (by decide +kernel)) g_j17b_h0_f10 g_h0_f17 g_h0_f26 g_h0_f27 g_h0_f28 g_h0_f29 g_h0_f30 g_h0_f31 g_h0_f34 g_h0_f41 g_h0_f51 g_h0_f53 (by decide +kernel)) (cwV 0 hts gf_c_X12_readPlan_c_X12_look rfl rfl rfl mdV_X12_look ⟨Nat.le_of_ble_eq_true rfl, Nat.le_of_ble_eq_true rfl⟩) ⟨fun a U g mk q => by obtain ⟨q0, q1, qP, qK, qD⟩ := q; exact ⟨q0, q1, qP, va_K.moved (u := U) (U := U.calling g mk a) (Vm.Alike.refl U.vm) qK, qD⟩, hrv, fun U hU hW => ⟨rfl, by rw [hU], by rw [hU]; exact hPc, va_K.moved hW.alike hKc, hDc.weaken (fun _ _ _ _ => trivial)⟩⟩ rfl rfl hl.1 rfl (lv_room (Nat.le_of_ble_eq_true rfl)) dX12_readPlan_99 ⟨Nat.le_of_ble_eq_true rfl, Nat.le_of_ble_eq_true rfl⟩) hS (fun q _ h => hFc q h) hFc (fun r_5 x_6 t H1 locs ht hvm hw hB hz1 hk1 hS => ?_)
    obtain ⟨hP1, hK1, hD1⟩ := hB
    rw [ht] at hP1
    obtain ⟨hP, hD⟩ := cl_put (w1 := (wd_c_X12_look h0 h0_f0 h0_1 h0_2 h0_3 h0_4 h0_1 h0_f6 h0_f7 0 h0_f6 x_6 (-1) h0_f12 h0_f13 h0_f14 h0_15 h0_16 h0_f17 h0_18 h0_19 h0_20 h0_21 h0_22 h0_23 h0_24 h0_25 h0_f26 h0_f27 h0_f28 h0_f29 h0_f30 h0_f31 h0_32 h0_33 h0_f34 h0_35 h0_36 h0_37 h0_38 h0_39 h0_40 h0_f41 h0_f42 h0_f43 h0_f44 h0_45 h0_46 h0_47 h0_48 h0_49 h0_50 h0_f51 h0_52 h0_f53 h0_1 h0_1k 240 h0_1c)) (nw := (wd_c_X12_readPlan h0 h0_f0 h0_1 h0_2 h0_3 h0_4 h0_1 h0_f6 h0_f7 0 h0_f6 x_6 (-1) h0_f12 h0_f13 h0_f14 h0_15 h0_16 h0_f17 h0_18 h0_19 h0_20 h0_21 h0_22 h0_23 h0_24 h0_25 h0_f26 h0_f27 h0_f28 h0_f29 h0_f30 h0_f31 h0_32 h0_33 h0_f34 h0_35 h0_36 h0_37 h0_38 h0_39 h0_40 h0_f41 h0_f42 h0_f43 h0_f44 h0_45 h0_46 h0_47 h0_48 h0_49 h0_50 h0_f51 h0_52 h0_f53 h0_1 h0_1k h0_1c h0_24 h0_24k j17b_h0_24c h0_25 h0_25k w_2)) hP hD [0, 1] [4, 5, 2, 3] 4 rfl hqc (by decide +kernel) rfl hk1 hFc hP1 hD1
    generalize H1 = H at hP hS ⊢
    as_aux_lemma =>
    rcases hw with ⟨h_7, h_8, h_9, h_10, h_11, h_12⟩ | ⟨h_13, h_14, h_15, h_16, h_17, h_18, h_19⟩
    · have h_12 : (r_5, x_6) = _ := h_12
      replace hEX := hEX.trans (exc2_eq h_12)
      replace hEX := hEX.trans (if_pos (show r_5 = (-1) from h_7))
      rw [h_7]
      refine lv_iconst (v := (-1)) hx hb dX12_readPlan_102 kc_iconst_m1 ?_
      refine lv_icmp_eq (tgt := 111) hx hb dX12_readPlan_103 rfl (fun c_20 => ?_) (fun c_20 => absurd c_20 (by decide +kernel))
      have hK9 := hK.sub (tys' := []) [] rfl
      exact W.vret hx hb hr (fun t ht hW => ⟨⟨(x_6, (-1), j17b_h0_24c, w_2), rfl, (Or.inl ⟨h_8, rfl, a_j17b_h0_24c, a_4, g_h0_f6, (hR.trans hEX).symm⟩), by rw [ht]; exact hP, va_K.moved hW.alike hK9, hD⟩, hS.F ht⟩) hS.2.2 dX12_readPlan_111
    · have h_19 : (r_5, x_6) = _ := h_19
      replace hEX := hEX.trans (exc2_eq h_19)
      replace hEX := hEX.trans (if_neg (RG_neq (x := r_5) (c := (-1)) (show RG r_5 0 255 from h_13) (by decide +kernel)))
      have nb_21 := h_18.2.resolve_left (fun q => by have g9 := h_13; rw [q] at g9; exact absurd g9.1 (by decide +kernel))
      refine lv_iconst (v := (-1)) hx hb dX12_readPlan_102 kc_iconst_m1 ?_
      as_aux_lemma =>
      refine lv_icmp_eq (tgt := 111) hx hb dX12_readPlan_103 rfl (fun c_22 => ?_) (fun c_22 => ?_)
      · replace hEX := hEX.trans (if_pos c_22)
        exact RG_dead (RG_eq1 h_13 (RG_k (-1) (-1) rfl) c_22 (a' := 0) (b' := (-1)) (by decide +kernel)) (by decide +kernel)
      · replace hEX := hEX.trans (if_neg c_22)
        refine lv_aload_n hx hb dX12_readPlan_106 rfl (lv_at hl 2 rfl) ?_
        obtain ⟨hPc, hDc, hFc, hqc⟩ := cl_cut (wc := (wd_c_X12_fails h0 h0_f0 h0_1 h0_2 h0_3 h0_4 h0_1 h0_f6 h0_f7 0 h0_f6 x_6 (-1) h0_f12 h0_f13 h0_f14 h0_15 h0_16 h0_f17 h0_18 h0_19 h0_20 h0_21 h0_22 h0_23 h0_24 h0_25 h0_f26 h0_f27 h0_f28 h0_f29 h0_f30 h0_f31 h0_32 h0_33 h0_f34 h0_35 h0_36 h0_37 h0_38 h0_39 h0_40 h0_f41 h0_f42 h0_f43 h0_f44 h0_45 h0_46 h0_47 h0_48 h0_49 h0_50 h0_f51 h0_52 h0_f53)) hP hD hS hA [0] (by decide +kernel) rfl
        have hKc := hK.sub (tys' := []) [] rfl
        have hrv := va_recv hKc hPc (ci := 12) (q0 := 0) rfl rfl
        refine va_calli (va_runV (As := []) (rest := []) ⟨hx, hb, hml, hown, hts⟩ (c_X12_fails l dC dI H.size h0 h0_f0 h0_1 h0_2 h0_3 h0_4 h0_1 h0_f6 h0_f7 0 h0_f6 x_6 h0_f12 h0_f13 h0_f14 h0_15 h0_16 h0_f17 h0_18 h0_19 h0_20 h0_21 h0_22 h0_23 h0_24 h0_25 h0_f26 h0_f27 h0_f28 h0_f29 h0_f30 h0_f31 h0_32 h0_33 h0_f34 h0_35 h0_36 h0_37 h0_38 h0_39 h0_40 h0_f41 h0_f42 h0_f43 h0_f44 h0_45 h0_46 h0_47 h0_48 h0_49 h0_50 h0_f51 h0_52 h0_f53 (RG_w g_h0_f6 (by decide +kernel)) g_h0_f7 (RG_w (RG_k 0 0 rfl) (by decide +kernel)) (RG_w g_h0_f6 (by decide +kernel)) (RG_w h_14 (by decide +kernel)) g_h0_f17 g_h0_f26 g_h0_f27 g_h0_f28 g_h0_f29 g_h0_f30 g_h0_f31 g_h0_f34 g_h0_f41 g_h0_f51 g_h0_f53) (cwV 0 hts gf_c_X12_readPlan_c_X12_fails rfl rfl rfl mdV_X12_fails ⟨Nat.le_of_ble_eq_true rfl, Nat.le_of_ble_eq_true rfl⟩) ⟨fun a U g mk q => by obtain ⟨q0, q1, qP, qK, qD⟩ := q; exact ⟨q0, q1, qP, va_K.moved (u := U) (U := U.calling g mk a) (Vm.Alike.refl U.vm) qK, qD⟩, hrv, fun U hU hW => ⟨rfl, by rw [hU], by rw [hU]; exact hPc, va_K.moved hW.alike hKc, hDc.weaken (fun _ _ _ _ => trivial)⟩⟩ rfl rfl hl.1 rfl (lv_room (Nat.le_of_ble_eq_true rfl)) dX12_readPlan_107 ⟨Nat.le_of_ble_eq_true rfl, Nat.le_of_ble_eq_true rfl⟩) hS (fun q _ h => hFc q h) hFc (fun r_23 u t H1 locs ht hvm hw hB hz1 hk1 hS => ?_)
        obtain ⟨hP1, hK1, hD1⟩ := hB
        rw [ht] at hP1
        obtain ⟨hP, hD⟩ := cl_put (w1 := (wd_c_X12_fails h0 h0_f0 h0_1 h0_2 h0_3 h0_4 h0_1 h0_f6 h0_f7 0 h0_f6 x_6 x_6 h0_f12 h0_f13 h0_f14 h0_15 h0_16 h0_f17 h0_18 h0_19 h0_20 h0_21 h0_22 h0_23 h0_24 h0_25 h0_f26 h0_f27 h0_f28 h0_f29 h0_f30 h0_f31 h0_32 h0_33 h0_f34 h0_35 h0_36 h0_37 h0_38 h0_39 h0_40 h0_f41 h0_f42 h0_f43 h0_f44 h0_45 h0_46 h0_47 h0_48 h0_49 h0_50 h0_f51 h0_52 h0_f53)) (nw := (wd_c_X12_readPlan h0 h0_f0 h0_1 h0_2 h0_3 h0_4 h0_1 h0_f6 h0_f7 0 h0_f6 x_6 x_6 h0_f12 h0_f13 h0_f14 h0_15 h0_16 h0_f17 h0_18 h0_19 h0_20 h0_21 h0_22 h0_23 h0_24 h0_25 h0_f26 h0_f27 h0_f28 h0_f29 h0_f30 h0_f31 h0_32 h0_33 h0_f34 h0_35 h0_36 h0_37 h0_38 h0_39 h0_40 h0_f41 h0_f42 h0_f43 h0_f44 h0_45 h0_46 h0_47 h0_48 h0_49 h0_50 h0_f51 h0_52 h0_f53 h0_1 h0_1k h0_1c h0_24 h0_24k j17b_h0_24c h0_25 h0_25k w_2)) hP hD [0] [4, 1, 2, 3] 4 rfl hqc (by decide +kernel) rfl hk1 hFc hP1 hD1
        generalize H1 = H at hP hS ⊢
        as_aux_lemma =>
        rcases hw with ⟨h_24, h_25⟩
        have h_25 : r_23 = _ := h_25
        replace hEX := hEX.trans (exc1_eq h_25)
        rw [h_24]
        refine lv_pop hx hb dX12_readPlan_110 rfl ?_
        have hK9 := hK.sub (tys' := []) [] rfl
        exact W.vret hx hb hr (fun t ht hW => ⟨⟨(x_6, x_6, j17b_h0_24c, w_2), rfl, (Or.inr ⟨(RG_w h_14 (by decide +kernel)), (RG_w h_14 (by decide +kernel)), a_j17b_h0_24c, a_4, (hR.trans hEX).symm⟩), by rw [ht]; exact hP, va_K.moved hW.alike hK9, hD⟩, hS.F ht⟩) hS.2.2 dX12_readPlan_111
  have J74 : ∀ (j74_l1 : Int32) (j74_h0_f10 : Int32) (j74_h0_24c : Nat → Int32) (g_h0_f10 : RG h0_f10 0 240) (g_h0_f11 : RG h0_f11 (-1) 240) (g_h0_f17 : RG h0_f17 0 1) (g_h0_f26 : RG h0_f26 0 8) (g_h0_f27 : RG h0_f27 0 3) (g_h0_f28 : RG h0_f28 0 8) (g_h0_f29 : RG h0_f29 0 3) (g_h0_f30 : RG h0_f30 0 4) (g_h0_f31 : RG h0_f31 0 1) (g_h0_f34 : RG h0_f34 (-1) 3) (g_h0_f41 : RG h0_f41 0 40) (g_h0_f51 : RG h0_f51 0 10) (g_h0_f53 : RG h0_f53 0 1) (g_h0_f6 : RG h0_f6 1 240) (g_h0_f7 : RG h0_f7 0 4) (g_h0_f8 : RG h0_f8 0 720) (g_h0_f9 : RG h0_f9 0 240) (g_j74_h0_f10 : RG j74_h0_f10 0 240) (g_j74_l1 : RG j74_l1 1 16) (a_j74_h0_24c : AI j74_h0_24c (-1) 9) (hEX : RES = fx_c_X12_readPlan_p74 h0_f6 h0_1c h0_25c j74_l1 j74_h0_f10 j74_h0_24c) (H : Heap) (locs : List Loc) (ls : Array Slot) (hP : va_P (dC, dI) vwCl (wd_c_X12_readPlan h0 h0_f0 h0_1 h0_2 h0_3 h0_4 h0_1 h0_f6 h0_f7 0 h0_f6 j74_h0_f10 (-1) h0_f12 h0_f13 h0_f14 h0_15 h0_16 h0_f17 h0_18 h0_19 h0_20 h0_21 h0_22 h0_23 h0_24 h0_25 h0_f26 h0_f27 h0_f28 h0_f29 h0_f30 h0_f31 h0_32 h0_33 h0_f34 h0_35 h0_36 h0_37 h0_38 h0_39 h0_40 h0_f41 h0_f42 h0_f43 h0_f44 h0_45 h0_46 h0_47 h0_48 h0_49 h0_50 h0_f51 h0_52 h0_f53 h0_1 h0_1k h0_1c h0_24 h0_24k j74_h0_24c h0_25 h0_25k h0_25c) H) (hD : va_D A (wd_c_X12_readPlan h0 h0_f0 h0_1 h0_2 h0_3 h0_4 h0_1 h0_f6 h0_f7 0 h0_f6 j74_h0_f10 (-1) h0_f12 h0_f13 h0_f14 h0_15 h0_16 h0_f17 h0_18 h0_19 h0_20 h0_21 h0_22 h0_23 h0_24 h0_25 h0_f26 h0_f27 h0_f28 h0_f29 h0_f30 h0_f31 h0_32 h0_33 h0_f34 h0_35 h0_36 h0_37 h0_38 h0_39 h0_40 h0_f41 h0_f42 h0_f43 h0_f44 h0_45 h0_46 h0_47 h0_48 h0_49 h0_50 h0_f51 h0_52 h0_f53 h0_1 h0_1k h0_1c h0_24 h0_24k j74_h0_24c h0_25 h0_25k h0_25c)) (hS : va_S A s.heap H locs) (hl : lv_has ls 3 [(2, .int 0), (1, .int j74_l1), (0, .ref h0)]), G H locs (F0 m 74 ls []) := by
    as_aux_lemma =>
    intro j74_l1 j74_h0_f10 j74_h0_24c g_h0_f10 g_h0_f11 g_h0_f17 g_h0_f26 g_h0_f27 g_h0_f28 g_h0_f29 g_h0_f30 g_h0_f31 g_h0_f34 g_h0_f41 g_h0_f51 g_h0_f53 g_h0_f6 g_h0_f7 g_h0_f8 g_h0_f9 g_j74_h0_f10 g_j74_l1 a_j74_h0_24c hEX H locs ls hP hD hS hl
    refine hG _ _ _ ?_
    refine lv_iload_n hx hb dX12_readPlan_74 rfl (lv_at hl 0 rfl) ?_
    refine lv_if_eq (tgt := 17) hx hb dX12_readPlan_75 rfl (fun c_26 => ?_) (fun c_26 => absurd c_26 (by decide +kernel))
    exact hU _ _ _ (J17b j74_l1 j74_h0_f10 j74_h0_24c g_h0_f10 g_h0_f11 g_h0_f17 g_h0_f26 g_h0_f27 g_h0_f28 g_h0_f29 g_h0_f30 g_h0_f31 g_h0_f34 g_h0_f41 g_h0_f51 g_h0_f53 g_h0_f6 g_h0_f7 g_h0_f8 g_h0_f9 g_j74_h0_f10 g_j74_l1 a_j74_h0_24c hEX _ _ _ hP hD hS (lv_sub hl [0, 1, 2] rfl))
  have J57 : ∀ (j57_l1 : Int32) (j57_h0_f10 : Int32) (j57_h0_24c : Nat → Int32) (g_h0_f10 : RG h0_f10 0 240) (g_h0_f11 : RG h0_f11 (-1) 240) (g_h0_f17 : RG h0_f17 0 1) (g_h0_f26 : RG h0_f26 0 8) (g_h0_f27 : RG h0_f27 0 3) (g_h0_f28 : RG h0_f28 0 8) (g_h0_f29 : RG h0_f29 0 3) (g_h0_f30 : RG h0_f30 0 4) (g_h0_f31 : RG h0_f31 0 1) (g_h0_f34 : RG h0_f34 (-1) 3) (g_h0_f41 : RG h0_f41 0 40) (g_h0_f51 : RG h0_f51 0 10) (g_h0_f53 : RG h0_f53 0 1) (g_h0_f6 : RG h0_f6 1 240) (g_h0_f7 : RG h0_f7 0 4) (g_h0_f8 : RG h0_f8 0 720) (g_h0_f9 : RG h0_f9 0 240) (g_j57_h0_f10 : RG j57_h0_f10 0 240) (g_j57_l1 : RG j57_l1 1 16) (a_j57_h0_24c : AI j57_h0_24c (-1) 9) (hEX : RES = fx_c_X12_readPlan_p57 h0_f6 h0_1c h0_25c j57_l1 j57_h0_f10 j57_h0_24c) (H : Heap) (locs : List Loc) (ls : Array Slot) (hP : va_P (dC, dI) vwCl (wd_c_X12_readPlan h0 h0_f0 h0_1 h0_2 h0_3 h0_4 h0_1 h0_f6 h0_f7 0 h0_f6 j57_h0_f10 (-1) h0_f12 h0_f13 h0_f14 h0_15 h0_16 h0_f17 h0_18 h0_19 h0_20 h0_21 h0_22 h0_23 h0_24 h0_25 h0_f26 h0_f27 h0_f28 h0_f29 h0_f30 h0_f31 h0_32 h0_33 h0_f34 h0_35 h0_36 h0_37 h0_38 h0_39 h0_40 h0_f41 h0_f42 h0_f43 h0_f44 h0_45 h0_46 h0_47 h0_48 h0_49 h0_50 h0_f51 h0_52 h0_f53 h0_1 h0_1k h0_1c h0_24 h0_24k j57_h0_24c h0_25 h0_25k h0_25c) H) (hD : va_D A (wd_c_X12_readPlan h0 h0_f0 h0_1 h0_2 h0_3 h0_4 h0_1 h0_f6 h0_f7 0 h0_f6 j57_h0_f10 (-1) h0_f12 h0_f13 h0_f14 h0_15 h0_16 h0_f17 h0_18 h0_19 h0_20 h0_21 h0_22 h0_23 h0_24 h0_25 h0_f26 h0_f27 h0_f28 h0_f29 h0_f30 h0_f31 h0_32 h0_33 h0_f34 h0_35 h0_36 h0_37 h0_38 h0_39 h0_40 h0_f41 h0_f42 h0_f43 h0_f44 h0_45 h0_46 h0_47 h0_48 h0_49 h0_50 h0_f51 h0_52 h0_f53 h0_1 h0_1k h0_1c h0_24 h0_24k j57_h0_24c h0_25 h0_25k h0_25c)) (hS : va_S A s.heap H locs) (hl : lv_has ls 3 [(1, .int j57_l1), (0, .ref h0)]), G H locs (F0 m 57 ls [.int 0]) := by
    as_aux_lemma =>
    intro j57_l1 j57_h0_f10 j57_h0_24c g_h0_f10 g_h0_f11 g_h0_f17 g_h0_f26 g_h0_f27 g_h0_f28 g_h0_f29 g_h0_f30 g_h0_f31 g_h0_f34 g_h0_f41 g_h0_f51 g_h0_f53 g_h0_f6 g_h0_f7 g_h0_f8 g_h0_f9 g_j57_h0_f10 g_j57_l1 a_j57_h0_24c hEX H locs ls hP hD hS hl
    refine hG _ _ _ ?_
    refine lv_istore_n (lv' := [(2, .int 0), (1, .int j57_l1), (0, .ref h0)]) hx hb dX12_readPlan_57 rfl hl (Nat.le_of_ble_eq_true rfl) rfl (fun ls hl => ?_)
    refine lv_iload_n hx hb dX12_readPlan_58 rfl (lv_at hl 0 rfl) ?_
    refine lv_if_eq (tgt := 74) hx hb dX12_readPlan_59 rfl (fun c_27 => ?_) (fun c_27 => absurd c_27 (by decide +kernel))
    exact hU _ _ _ (J74 j57_l1 j57_h0_f10 j57_h0_24c g_h0_f10 g_h0_f11 g_h0_f17 g_h0_f26 g_h0_f27 g_h0_f28 g_h0_f29 g_h0_f30 g_h0_f31 g_h0_f34 g_h0_f41 g_h0_f51 g_h0_f53 g_h0_f6 g_h0_f7 g_h0_f8 g_h0_f9 g_j57_h0_f10 g_j57_l1 a_j57_h0_24c hEX _ _ _ hP hD hS (lv_sub hl [0, 1, 2] rfl))
  have J17 : ∀ (n17 : Nat) (j17_l1 : Int32) (j17_h0_f10 : Int32) (j17_h0_24c : Nat → Int32) (hM17 : MU j17_h0_f10 < n17) (g_h0_f10 : RG h0_f10 0 240) (g_h0_f11 : RG h0_f11 (-1) 240) (g_h0_f17 : RG h0_f17 0 1) (g_h0_f26 : RG h0_f26 0 8) (g_h0_f27 : RG h0_f27 0 3) (g_h0_f28 : RG h0_f28 0 8) (g_h0_f29 : RG h0_f29 0 3) (g_h0_f30 : RG h0_f30 0 4) (g_h0_f31 : RG h0_f31 0 1) (g_h0_f34 : RG h0_f34 (-1) 3) (g_h0_f41 : RG h0_f41 0 40) (g_h0_f51 : RG h0_f51 0 10) (g_h0_f53 : RG h0_f53 0 1) (g_h0_f6 : RG h0_f6 0 240) (g_h0_f7 : RG h0_f7 0 4) (g_h0_f8 : RG h0_f8 0 720) (g_h0_f9 : RG h0_f9 0 240) (g_j17_h0_f10 : RG j17_h0_f10 0 240) (g_j17_l1 : RG j17_l1 0 15) (a_j17_h0_24c : AI j17_h0_24c (-1) 9) (hEX : RES = fx_c_X12_readPlan_p17 h0_f6 h0_1c h0_25c n17 j17_l1 j17_h0_f10 j17_h0_24c) (H : Heap) (locs : List Loc) (ls : Array Slot) (hP : va_P (dC, dI) vwCl (wd_c_X12_readPlan h0 h0_f0 h0_1 h0_2 h0_3 h0_4 h0_1 h0_f6 h0_f7 0 h0_f6 j17_h0_f10 (-1) h0_f12 h0_f13 h0_f14 h0_15 h0_16 h0_f17 h0_18 h0_19 h0_20 h0_21 h0_22 h0_23 h0_24 h0_25 h0_f26 h0_f27 h0_f28 h0_f29 h0_f30 h0_f31 h0_32 h0_33 h0_f34 h0_35 h0_36 h0_37 h0_38 h0_39 h0_40 h0_f41 h0_f42 h0_f43 h0_f44 h0_45 h0_46 h0_47 h0_48 h0_49 h0_50 h0_f51 h0_52 h0_f53 h0_1 h0_1k h0_1c h0_24 h0_24k j17_h0_24c h0_25 h0_25k h0_25c) H) (hD : va_D A (wd_c_X12_readPlan h0 h0_f0 h0_1 h0_2 h0_3 h0_4 h0_1 h0_f6 h0_f7 0 h0_f6 j17_h0_f10 (-1) h0_f12 h0_f13 h0_f14 h0_15 h0_16 h0_f17 h0_18 h0_19 h0_20 h0_21 h0_22 h0_23 h0_24 h0_25 h0_f26 h0_f27 h0_f28 h0_f29 h0_f30 h0_f31 h0_32 h0_33 h0_f34 h0_35 h0_36 h0_37 h0_38 h0_39 h0_40 h0_f41 h0_f42 h0_f43 h0_f44 h0_45 h0_46 h0_47 h0_48 h0_49 h0_50 h0_f51 h0_52 h0_f53 h0_1 h0_1k h0_1c h0_24 h0_24k j17_h0_24c h0_25 h0_25k h0_25c)) (hS : va_S A s.heap H locs) (hl : lv_has ls 3 [(2, .int 1), (1, .int j17_l1), (0, .ref h0)]), G H locs (F0 m 17 ls []) := by
    as_aux_lemma =>
    intro n17
    induction n17 with
    | zero => intros; exact absurd (by assumption) (Nat.not_lt_zero _)
    | succ n17 ih17 =>
      intro j17_l1 j17_h0_f10 j17_h0_24c hM17 g_h0_f10 g_h0_f11 g_h0_f17 g_h0_f26 g_h0_f27 g_h0_f28 g_h0_f29 g_h0_f30 g_h0_f31 g_h0_f34 g_h0_f41 g_h0_f51 g_h0_f53 g_h0_f6 g_h0_f7 g_h0_f8 g_h0_f9 g_j17_h0_f10 g_j17_l1 a_j17_h0_24c hEX H locs ls hP hD hS hl
      have J74b : ∀ (j74b_l1 : Int32) (j74b_h0_f10 : Int32) (j74b_h0_24c : Nat → Int32) (g_h0_f10 : RG h0_f10 0 240) (g_h0_f11 : RG h0_f11 (-1) 240) (g_h0_f17 : RG h0_f17 0 1) (g_h0_f26 : RG h0_f26 0 8) (g_h0_f27 : RG h0_f27 0 3) (g_h0_f28 : RG h0_f28 0 8) (g_h0_f29 : RG h0_f29 0 3) (g_h0_f30 : RG h0_f30 0 4) (g_h0_f31 : RG h0_f31 0 1) (g_h0_f34 : RG h0_f34 (-1) 3) (g_h0_f41 : RG h0_f41 0 40) (g_h0_f51 : RG h0_f51 0 10) (g_h0_f53 : RG h0_f53 0 1) (g_h0_f6 : RG h0_f6 1 240) (g_h0_f7 : RG h0_f7 0 4) (g_h0_f8 : RG h0_f8 0 720) (g_h0_f9 : RG h0_f9 0 240) (g_j17_h0_f10 : RG j17_h0_f10 0 240) (g_j17_l1 : RG j17_l1 0 15) (g_j74b_h0_f10 : RG j74b_h0_f10 0 239) (g_j74b_l1 : RG j74b_l1 1 15) (a_j74b_h0_24c : AI j74b_h0_24c (-1) 9) (r_j17_h0_f10_j74b_h0_f10 : j17_h0_f10.toInt + 1 ≤ j74b_h0_f10.toInt) (hEX : RES = fx_c_X12_readPlan_p74b (fx_c_X12_readPlan_p17 h0_f6 h0_1c h0_25c n17) j74b_l1 j74b_h0_f10 j74b_h0_24c) (H : Heap) (locs : List Loc) (ls : Array Slot) (hP : va_P (dC, dI) vwCl (wd_c_X12_readPlan h0 h0_f0 h0_1 h0_2 h0_3 h0_4 h0_1 h0_f6 h0_f7 0 h0_f6 j74b_h0_f10 (-1) h0_f12 h0_f13 h0_f14 h0_15 h0_16 h0_f17 h0_18 h0_19 h0_20 h0_21 h0_22 h0_23 h0_24 h0_25 h0_f26 h0_f27 h0_f28 h0_f29 h0_f30 h0_f31 h0_32 h0_33 h0_f34 h0_35 h0_36 h0_37 h0_38 h0_39 h0_40 h0_f41 h0_f42 h0_f43 h0_f44 h0_45 h0_46 h0_47 h0_48 h0_49 h0_50 h0_f51 h0_52 h0_f53 h0_1 h0_1k h0_1c h0_24 h0_24k j74b_h0_24c h0_25 h0_25k h0_25c) H) (hD : va_D A (wd_c_X12_readPlan h0 h0_f0 h0_1 h0_2 h0_3 h0_4 h0_1 h0_f6 h0_f7 0 h0_f6 j74b_h0_f10 (-1) h0_f12 h0_f13 h0_f14 h0_15 h0_16 h0_f17 h0_18 h0_19 h0_20 h0_21 h0_22 h0_23 h0_24 h0_25 h0_f26 h0_f27 h0_f28 h0_f29 h0_f30 h0_f31 h0_32 h0_33 h0_f34 h0_35 h0_36 h0_37 h0_38 h0_39 h0_40 h0_f41 h0_f42 h0_f43 h0_f44 h0_45 h0_46 h0_47 h0_48 h0_49 h0_50 h0_f51 h0_52 h0_f53 h0_1 h0_1k h0_1c h0_24 h0_24k j74b_h0_24c h0_25 h0_25k h0_25c)) (hS : va_S A s.heap H locs) (hl : lv_has ls 3 [(2, .int 1), (1, .int j74b_l1), (0, .ref h0)]), G H locs (F0 m 74 ls []) := by
        as_aux_lemma =>
        intro j74b_l1 j74b_h0_f10 j74b_h0_24c g_h0_f10 g_h0_f11 g_h0_f17 g_h0_f26 g_h0_f27 g_h0_f28 g_h0_f29 g_h0_f30 g_h0_f31 g_h0_f34 g_h0_f41 g_h0_f51 g_h0_f53 g_h0_f6 g_h0_f7 g_h0_f8 g_h0_f9 g_j17_h0_f10 g_j17_l1 g_j74b_h0_f10 g_j74b_l1 a_j74b_h0_24c r_j17_h0_f10_j74b_h0_f10 hEX H locs ls hP hD hS hl
        refine hG _ _ _ ?_
        refine lv_iload_n hx hb dX12_readPlan_74 rfl (lv_at hl 0 rfl) ?_
        refine lv_if_eq (tgt := 17) hx hb dX12_readPlan_75 rfl (fun c_28 => absurd c_28 (by decide +kernel)) (fun c_28 => ?_)
        refine lv_aload_n hx hb dX12_readPlan_78 rfl (lv_at hl 2 rfl) ?_
        refine lv_dup hx hb dX12_readPlan_79 rfl ?_
        refine va_get (D := (dC, dI)) (ci := 12) (v := .int j74b_h0_f10) (C := RX12) (T := TX12) (N := 54) hx hb hts iw_c_X12_readPlan_X12 hown hK hP 0 rfl rfl 10 (by decide +kernel) (hts (.fieldLink RX12 134 "BuoyVoteModel" "at" "I") (List.mem_of_getElem? (i := 11) rfl)) (fun _ h9 => h9) rfl dX12_readPlan_80 ?_
        refine lv_iconst (v := 1) hx hb dX12_readPlan_83 kc_iconst_1 ?_
        refine lv_iadd hx hb dX12_readPlan_84 ?_
        refine lv_topi (fun x_29 ex_29 => ?_)
        replace hEX := hEX.trans (exl_eq ex_29)
        have g_30 : RG x_29 1 240 := RG_add ex_29 g_j74b_h0_f10 (RG_k 1 1 rfl) (by decide +kernel)
        have q_31 : x_29.toInt = j74b_h0_f10.toInt + 1 := eq_add ex_29 g_j74b_h0_f10 (q := 1) rfl (by decide +kernel)
        refine va_put (D := (dC, dI)) (ci := 12) (v := .int x_29) (ty := .int) (C := RX12) (T := TX12) (N := 54) hx hb hts iw_c_X12_readPlan_X12 tyX12 tyX12_ok nmX12 hown hK hP hD hS 0 rfl rfl 10 (by decide +kernel) (hts (.fieldLink RX12 134 "BuoyVoteModel" "at" "I") (List.mem_of_getElem? (i := 11) rfl)) (fun _ h9 => h9) rfl (by decide +kernel) rfl rfl (Nat.le_of_ble_eq_true rfl) dX12_readPlan_85 (fun H locs hP hD hS => ?_)
        as_aux_lemma =>
        have hP : va_P (dC, dI) vwCl (wd_c_X12_readPlan h0 h0_f0 h0_1 h0_2 h0_3 h0_4 h0_1 h0_f6 h0_f7 0 h0_f6 x_29 (-1) h0_f12 h0_f13 h0_f14 h0_15 h0_16 h0_f17 h0_18 h0_19 h0_20 h0_21 h0_22 h0_23 h0_24 h0_25 h0_f26 h0_f27 h0_f28 h0_f29 h0_f30 h0_f31 h0_32 h0_33 h0_f34 h0_35 h0_36 h0_37 h0_38 h0_39 h0_40 h0_f41 h0_f42 h0_f43 h0_f44 h0_45 h0_46 h0_47 h0_48 h0_49 h0_50 h0_f51 h0_52 h0_f53 h0_1 h0_1k h0_1c h0_24 h0_24k j74b_h0_24c h0_25 h0_25k h0_25c) H := hP
        have hD : va_D A (wd_c_X12_readPlan h0 h0_f0 h0_1 h0_2 h0_3 h0_4 h0_1 h0_f6 h0_f7 0 h0_f6 x_29 (-1) h0_f12 h0_f13 h0_f14 h0_15 h0_16 h0_f17 h0_18 h0_19 h0_20 h0_21 h0_22 h0_23 h0_24 h0_25 h0_f26 h0_f27 h0_f28 h0_f29 h0_f30 h0_f31 h0_32 h0_33 h0_f34 h0_35 h0_36 h0_37 h0_38 h0_39 h0_40 h0_f41 h0_f42 h0_f43 h0_f44 h0_45 h0_46 h0_47 h0_48 h0_49 h0_50 h0_f51 h0_52 h0_f53 h0_1 h0_1k h0_1c h0_24 h0_24k j74b_h0_24c h0_25 h0_25k h0_25c) := hD
        refine lv_goto (tgt := 17) hx hb dX12_readPlan_88 rfl ?_
        exact hU _ _ _ (ih17 j74b_l1 x_29 j74b_h0_24c (mu_s (MU_lt (by have := r_j17_h0_f10_j74b_h0_f10; have := q_31; omega)) hM17) g_h0_f10 g_h0_f11 g_h0_f17 g_h0_f26 g_h0_f27 g_h0_f28 g_h0_f29 g_h0_f30 g_h0_f31 g_h0_f34 g_h0_f41 g_h0_f51 g_h0_f53 (RG_w g_h0_f6 (by decide +kernel)) g_h0_f7 g_h0_f8 g_h0_f9 (RG_w g_30 (by decide +kernel)) (RG_w g_j74b_l1 (by decide +kernel)) a_j74b_h0_24c hEX _ _ _ hP hD hS (lv_sub hl [0, 1, 2] rfl))
      have J57b : ∀ (j57b_l1 : Int32) (j57b_h0_f10 : Int32) (j57b_h0_24c : Nat → Int32) (g_h0_f10 : RG h0_f10 0 240) (g_h0_f11 : RG h0_f11 (-1) 240) (g_h0_f17 : RG h0_f17 0 1) (g_h0_f26 : RG h0_f26 0 8) (g_h0_f27 : RG h0_f27 0 3) (g_h0_f28 : RG h0_f28 0 8) (g_h0_f29 : RG h0_f29 0 3) (g_h0_f30 : RG h0_f30 0 4) (g_h0_f31 : RG h0_f31 0 1) (g_h0_f34 : RG h0_f34 (-1) 3) (g_h0_f41 : RG h0_f41 0 40) (g_h0_f51 : RG h0_f51 0 10) (g_h0_f53 : RG h0_f53 0 1) (g_h0_f6 : RG h0_f6 1 240) (g_h0_f7 : RG h0_f7 0 4) (g_h0_f8 : RG h0_f8 0 720) (g_h0_f9 : RG h0_f9 0 240) (g_j17_h0_f10 : RG j17_h0_f10 0 240) (g_j17_l1 : RG j17_l1 0 15) (g_j57b_h0_f10 : RG j57b_h0_f10 0 239) (g_j57b_l1 : RG j57b_l1 1 16) (a_j57b_h0_24c : AI j57b_h0_24c (-1) 9) (r_j17_h0_f10_j57b_h0_f10 : j17_h0_f10.toInt + 1 ≤ j57b_h0_f10.toInt) (hEX : RES = fx_c_X12_readPlan_p57b h0_25c (fx_c_X12_readPlan_p17 h0_f6 h0_1c h0_25c n17) j57b_l1 j57b_h0_f10 j57b_h0_24c) (H : Heap) (locs : List Loc) (ls : Array Slot) (hP : va_P (dC, dI) vwCl (wd_c_X12_readPlan h0 h0_f0 h0_1 h0_2 h0_3 h0_4 h0_1 h0_f6 h0_f7 0 h0_f6 j57b_h0_f10 (-1) h0_f12 h0_f13 h0_f14 h0_15 h0_16 h0_f17 h0_18 h0_19 h0_20 h0_21 h0_22 h0_23 h0_24 h0_25 h0_f26 h0_f27 h0_f28 h0_f29 h0_f30 h0_f31 h0_32 h0_33 h0_f34 h0_35 h0_36 h0_37 h0_38 h0_39 h0_40 h0_f41 h0_f42 h0_f43 h0_f44 h0_45 h0_46 h0_47 h0_48 h0_49 h0_50 h0_f51 h0_52 h0_f53 h0_1 h0_1k h0_1c h0_24 h0_24k j57b_h0_24c h0_25 h0_25k h0_25c) H) (hD : va_D A (wd_c_X12_readPlan h0 h0_f0 h0_1 h0_2 h0_3 h0_4 h0_1 h0_f6 h0_f7 0 h0_f6 j57b_h0_f10 (-1) h0_f12 h0_f13 h0_f14 h0_15 h0_16 h0_f17 h0_18 h0_19 h0_20 h0_21 h0_22 h0_23 h0_24 h0_25 h0_f26 h0_f27 h0_f28 h0_f29 h0_f30 h0_f31 h0_32 h0_33 h0_f34 h0_35 h0_36 h0_37 h0_38 h0_39 h0_40 h0_f41 h0_f42 h0_f43 h0_f44 h0_45 h0_46 h0_47 h0_48 h0_49 h0_50 h0_f51 h0_52 h0_f53 h0_1 h0_1k h0_1c h0_24 h0_24k j57b_h0_24c h0_25 h0_25k h0_25c)) (hS : va_S A s.heap H locs) (hl : lv_has ls 3 [(1, .int j57b_l1), (0, .ref h0)]), G H locs (F0 m 57 ls [.int 1]) := by
        as_aux_lemma =>
        intro j57b_l1 j57b_h0_f10 j57b_h0_24c g_h0_f10 g_h0_f11 g_h0_f17 g_h0_f26 g_h0_f27 g_h0_f28 g_h0_f29 g_h0_f30 g_h0_f31 g_h0_f34 g_h0_f41 g_h0_f51 g_h0_f53 g_h0_f6 g_h0_f7 g_h0_f8 g_h0_f9 g_j17_h0_f10 g_j17_l1 g_j57b_h0_f10 g_j57b_l1 a_j57b_h0_24c r_j17_h0_f10_j57b_h0_f10 hEX H locs ls hP hD hS hl
        refine hG _ _ _ ?_
        refine lv_istore_n (lv' := [(2, .int 1), (1, .int j57b_l1), (0, .ref h0)]) hx hb dX12_readPlan_57 rfl hl (Nat.le_of_ble_eq_true rfl) rfl (fun ls hl => ?_)
        refine lv_iload_n hx hb dX12_readPlan_58 rfl (lv_at hl 0 rfl) ?_
        refine lv_if_eq (tgt := 74) hx hb dX12_readPlan_59 rfl (fun c_32 => absurd c_32 (by decide +kernel)) (fun c_32 => ?_)
        refine lv_iload_n hx hb dX12_readPlan_62 rfl (lv_at hl 1 rfl) ?_
        refine lv_bipush (v := 16) hx hb dX12_readPlan_63 kc_bipush_16 ?_
        refine lv_icmp_ne (tgt := 74) hx hb dX12_readPlan_65 rfl (fun c_33 => ?_) (fun c_33 => ?_)
        · replace hEX := hEX.trans (if_neg c_33)
          have g_34 : RG j57b_l1 1 15 := RG_ne1 g_j57b_l1 (q := 16) rfl c_33 (by decide +kernel)
          exact hU _ _ _ (J74b j57b_l1 j57b_h0_f10 j57b_h0_24c g_h0_f10 g_h0_f11 g_h0_f17 g_h0_f26 g_h0_f27 g_h0_f28 g_h0_f29 g_h0_f30 g_h0_f31 g_h0_f34 g_h0_f41 g_h0_f51 g_h0_f53 g_h0_f6 g_h0_f7 g_h0_f8 g_h0_f9 g_j17_h0_f10 g_j17_l1 g_j57b_h0_f10 g_34 a_j57b_h0_24c (by have := r_j17_h0_f10_j57b_h0_f10; omega) hEX _ _ _ hP hD hS (lv_sub hl [0, 1, 2] rfl))
        · replace hEX := hEX.trans (if_pos c_33)
          have g_35 : RG j57b_l1 16 16 := RG_eq1 g_j57b_l1 (RG_k 16 16 rfl) c_33 (by decide +kernel)
          refine lv_aload_n hx hb dX12_readPlan_68 rfl (lv_at hl 2 rfl) ?_
          as_aux_lemma =>
          obtain ⟨hPc, hDc, hFc, hqc⟩ := cl_cut (wc := (wd_c_X12_fails h0 h0_f0 h0_1 h0_2 h0_3 h0_4 h0_1 h0_f6 h0_f7 0 h0_f6 j57b_h0_f10 (-1) h0_f12 h0_f13 h0_f14 h0_15 h0_16 h0_f17 h0_18 h0_19 h0_20 h0_21 h0_22 h0_23 h0_24 h0_25 h0_f26 h0_f27 h0_f28 h0_f29 h0_f30 h0_f31 h0_32 h0_33 h0_f34 h0_35 h0_36 h0_37 h0_38 h0_39 h0_40 h0_f41 h0_f42 h0_f43 h0_f44 h0_45 h0_46 h0_47 h0_48 h0_49 h0_50 h0_f51 h0_52 h0_f53)) hP hD hS hA [0] (by decide +kernel) rfl
          have hKc := hK.sub (tys' := []) [] rfl
          have hrv := va_recv hKc hPc (ci := 12) (q0 := 0) rfl rfl
          refine va_calli (va_runV (As := []) (rest := []) ⟨hx, hb, hml, hown, hts⟩ (c_X12_fails l dC dI H.size h0 h0_f0 h0_1 h0_2 h0_3 h0_4 h0_1 h0_f6 h0_f7 0 h0_f6 j57b_h0_f10 h0_f12 h0_f13 h0_f14 h0_15 h0_16 h0_f17 h0_18 h0_19 h0_20 h0_21 h0_22 h0_23 h0_24 h0_25 h0_f26 h0_f27 h0_f28 h0_f29 h0_f30 h0_f31 h0_32 h0_33 h0_f34 h0_35 h0_36 h0_37 h0_38 h0_39 h0_40 h0_f41 h0_f42 h0_f43 h0_f44 h0_45 h0_46 h0_47 h0_48 h0_49 h0_50 h0_f51 h0_52 h0_f53 (RG_w g_h0_f6 (by decide +kernel)) g_h0_f7 (RG_w (RG_k 0 0 rfl) (by decide +kernel)) (RG_w g_h0_f6 (by decide +kernel)) (RG_w g_j57b_h0_f10 (by decide +kernel)) g_h0_f17 g_h0_f26 g_h0_f27 g_h0_f28 g_h0_f29 g_h0_f30 g_h0_f31 g_h0_f34 g_h0_f41 g_h0_f51 g_h0_f53) (cwV 0 hts gf_c_X12_readPlan_c_X12_fails rfl rfl rfl mdV_X12_fails ⟨Nat.le_of_ble_eq_true rfl, Nat.le_of_ble_eq_true rfl⟩) ⟨fun a U g mk q => by obtain ⟨q0, q1, qP, qK, qD⟩ := q; exact ⟨q0, q1, qP, va_K.moved (u := U) (U := U.calling g mk a) (Vm.Alike.refl U.vm) qK, qD⟩, hrv, fun U hU hW => ⟨rfl, by rw [hU], by rw [hU]; exact hPc, va_K.moved hW.alike hKc, hDc.weaken (fun _ _ _ _ => trivial)⟩⟩ rfl rfl hl.1 rfl (lv_room (Nat.le_of_ble_eq_true rfl)) dX12_readPlan_69 ⟨Nat.le_of_ble_eq_true rfl, Nat.le_of_ble_eq_true rfl⟩) hS (fun q _ h => hFc q h) hFc (fun r_36 u t H1 locs ht hvm hw hB hz1 hk1 hS => ?_)
          obtain ⟨hP1, hK1, hD1⟩ := hB
          rw [ht] at hP1
          obtain ⟨hP, hD⟩ := cl_put (w1 := (wd_c_X12_fails h0 h0_f0 h0_1 h0_2 h0_3 h0_4 h0_1 h0_f6 h0_f7 0 h0_f6 j57b_h0_f10 j57b_h0_f10 h0_f12 h0_f13 h0_f14 h0_15 h0_16 h0_f17 h0_18 h0_19 h0_20 h0_21 h0_22 h0_23 h0_24 h0_25 h0_f26 h0_f27 h0_f28 h0_f29 h0_f30 h0_f31 h0_32 h0_33 h0_f34 h0_35 h0_36 h0_37 h0_38 h0_39 h0_40 h0_f41 h0_f42 h0_f43 h0_f44 h0_45 h0_46 h0_47 h0_48 h0_49 h0_50 h0_f51 h0_52 h0_f53)) (nw := (wd_c_X12_readPlan h0 h0_f0 h0_1 h0_2 h0_3 h0_4 h0_1 h0_f6 h0_f7 0 h0_f6 j57b_h0_f10 j57b_h0_f10 h0_f12 h0_f13 h0_f14 h0_15 h0_16 h0_f17 h0_18 h0_19 h0_20 h0_21 h0_22 h0_23 h0_24 h0_25 h0_f26 h0_f27 h0_f28 h0_f29 h0_f30 h0_f31 h0_32 h0_33 h0_f34 h0_35 h0_36 h0_37 h0_38 h0_39 h0_40 h0_f41 h0_f42 h0_f43 h0_f44 h0_45 h0_46 h0_47 h0_48 h0_49 h0_50 h0_f51 h0_52 h0_f53 h0_1 h0_1k h0_1c h0_24 h0_24k j57b_h0_24c h0_25 h0_25k h0_25c)) hP hD [0] [4, 1, 2, 3] 4 rfl hqc (by decide +kernel) rfl hk1 hFc hP1 hD1
          generalize H1 = H at hP hS ⊢
          as_aux_lemma =>
          rcases hw with ⟨h_37, h_38⟩
          have h_38 : r_36 = _ := h_38
          replace hEX := hEX.trans (exc1_eq h_38)
          rw [h_37]
          refine lv_pop hx hb dX12_readPlan_72 rfl ?_
          have hK9 := hK.sub (tys' := []) [] rfl
          exact W.vret hx hb hr (fun t ht hW => ⟨⟨(j57b_h0_f10, j57b_h0_f10, j57b_h0_24c, h0_25c), rfl, (Or.inr ⟨(RG_w g_j57b_h0_f10 (by decide +kernel)), (RG_w g_j57b_h0_f10 (by decide +kernel)), a_j57b_h0_24c, a_h0_25c, (hR.trans hEX).symm⟩), by rw [ht]; exact hP, va_K.moved hW.alike hK9, hD⟩, hS.F ht⟩) hS.2.2 dX12_readPlan_73
      refine hG _ _ _ ?_
      replace hEX := hEX.trans (if_pos (rfl : j17_l1 = j17_l1))
      refine lv_iload_n hx hb dX12_readPlan_17 rfl (lv_at hl 0 rfl) ?_
      refine lv_if_eq (tgt := 91) hx hb dX12_readPlan_18 rfl (fun c_39 => absurd c_39 (by decide +kernel)) (fun c_39 => ?_)
      refine lv_aload_n hx hb dX12_readPlan_21 rfl (lv_at hl 2 rfl) ?_
      refine lv_iconst (v := 4) hx hb dX12_readPlan_22 kc_iconst_4 ?_
      refine lv_bipush (v := 64) hx hb dX12_readPlan_23 kc_bipush_64 ?_
      as_aux_lemma =>
      refine lv_iload_n hx hb dX12_readPlan_25 rfl (lv_at hl 1 rfl) ?_
      refine lv_iadd hx hb dX12_readPlan_26 ?_
      refine lv_topi (fun x_40 ex_40 => ?_)
      replace hEX := hEX.trans (exl_eq ex_40)
      have g_41 : RG x_40 64 79 := RG_add ex_40 (RG_k 64 64 rfl) g_j17_l1 (by decide +kernel)
      refine lv_imul hx hb dX12_readPlan_27 ?_
      refine lv_topi (fun x_42 ex_42 => ?_)
      replace hEX := hEX.trans (exl_eq ex_42)
      have g_43 : RG x_42 256 316 := RG_mulc (RG_com ex_42) (q := 4) rfl g_41 (by decide +kernel)
      obtain ⟨hPc, hDc, hFc, hqc⟩ := cl_cut (wc := (wd_c_X12_readStep_7 h0 h0_f0 h0_1 h0_2 h0_3 h0_4 h0_1 h0_f6 h0_f7 0 h0_f6 j17_h0_f10 (-1) h0_f12 h0_f13 h0_f14 h0_15 h0_16 h0_f17 h0_18 h0_19 h0_20 h0_21 h0_22 h0_23 h0_24 h0_25 h0_f26 h0_f27 h0_f28 h0_f29 h0_f30 h0_f31 h0_32 h0_33 h0_f34 h0_35 h0_36 h0_37 h0_38 h0_39 h0_40 h0_f41 h0_f42 h0_f43 h0_f44 h0_45 h0_46 h0_47 h0_48 h0_49 h0_50 h0_f51 h0_52 h0_f53 h0_1 h0_1k 240 h0_1c h0_24 h0_24k j17_h0_24c)) hP hD hS hA [0, 1, 2] (by decide +kernel) rfl
      have hKc := hK.sub (tys' := [(h0_1k, .byte), (h0_24k, .int)]) [0, 1] rfl
      have hrv := va_recv hKc hPc (ci := 12) (q0 := 0) rfl rfl
      refine va_callv (va_runV (As := [.int x_42]) (rest := []) ⟨hx, hb, hml, hown, hts⟩ (c_X12_readStep_7 l dC dI H.size h0 x_42 h0_f0 h0_1 h0_2 h0_3 h0_4 h0_1 h0_f6 h0_f7 0 h0_f6 j17_h0_f10 h0_f12 h0_f13 h0_f14 h0_15 h0_16 h0_f17 h0_18 h0_19 h0_20 h0_21 h0_22 h0_23 h0_24 h0_25 h0_f26 h0_f27 h0_f28 h0_f29 h0_f30 h0_f31 h0_32 h0_33 h0_f34 h0_35 h0_36 h0_37 h0_38 h0_39 h0_40 h0_f41 h0_f42 h0_f43 h0_f44 h0_45 h0_46 h0_47 h0_48 h0_49 h0_50 h0_f51 h0_52 h0_f53 h0_1k h0_1c 240 h0_24k j17_h0_24c ts11 tv11 g_43 g_h0_f6 g_h0_f7 (RG_w (RG_k 0 0 rfl) (by decide +kernel)) g_h0_f6 g_j17_h0_f10 g_h0_f17 g_h0_f26 g_h0_f27 g_h0_f28 g_h0_f29 g_h0_f30 g_h0_f31 g_h0_f34 g_h0_f41 g_h0_f51 g_h0_f53 (by decide +kernel) a_j17_h0_24c) (cwV 1 hts gf_c_X12_readPlan_c_X12_readStep_7 rfl rfl rfl mdV_X12_readStep ⟨Nat.le_of_ble_eq_true rfl, Nat.le_of_ble_eq_true rfl⟩) ⟨fun a U g mk q => by obtain ⟨q0, q1, qP, qK, qD, qE0, qE1, qE2, qE3, qE4, qE5, qE6⟩ := q; exact ⟨q0, q1, qP, va_K.moved (u := U) (U := U.calling g mk a) (Vm.Alike.refl U.vm) qK, qD, vk_R.same rfl qE0, va_OF.moved (u := U) (U := U.calling g mk a) (Vm.Alike.refl U.vm) qE1, va_T.moved (u := U) (U := U.calling g mk a) (Vm.Alike.refl U.vm) qE2, va_Z.moved (u := U) (U := U.calling g mk a) (Vm.Alike.refl U.vm) qE3, va_OF.moved (u := U) (U := U.calling g mk a) (Vm.Alike.refl U.vm) qE4, va_O.moved (u := U) (U := U.calling g mk a) (Vm.Alike.refl U.vm) qE5, va_Zq.moved (u := U) (U := U.calling g mk a) (Vm.Alike.refl U.vm) qE6⟩, hrv, fun U hU hW => ⟨rfl, by rw [hU], by rw [hU]; exact hPc, va_K.moved hW.alike hKc, hDc.weaken (fun _ _ _ _ => trivial), vk_R.warm hW hE_67, va_OF.moved hW.alike (by rw [hU]; exact (hE_70.kept hS.2.1).narrow hFc), va_T.moved hW.alike (by rw [hU]; exact (hE_71.kept hS.2.1).narrow hFc), va_Z.moved hW.alike (by rw [hU]; exact (hE_10.kept hS.2.1).narrow hFc), va_OF.moved hW.alike (by rw [hU]; exact (hE_69.kept hS.2.1).narrow hFc), va_O.moved hW.alike (by rw [hU]; exact (hE_68.kept hS.2.1).narrow hFc), va_Zq.moved hW.alike (by rw [hU]; exact (hE_11.kept hS.2.1).narrow hFc)⟩⟩ rfl rfl hl.1 rfl (lv_room (Nat.le_of_ble_eq_true rfl)) dX12_readPlan_28 ⟨Nat.le_of_ble_eq_true rfl, Nat.le_of_ble_eq_true rfl⟩) hS (fun q _ h => hFc q h) hFc (fun u t H1 locs ht hvm hw hB hz1 hk1 hS => ?_)
      obtain ⟨x_45, x_46, w_47⟩ := u
      obtain ⟨hP1, hK1, hD1⟩ := hB
      rw [ht] at hP1
      obtain ⟨hP, hD⟩ := cl_put (w1 := (wd_c_X12_readStep_7 h0 h0_f0 h0_1 h0_2 h0_3 h0_4 h0_1 h0_f6 h0_f7 0 h0_f6 x_45 x_46 h0_f12 h0_f13 h0_f14 h0_15 h0_16 h0_f17 h0_18 h0_19 h0_20 h0_21 h0_22 h0_23 h0_24 h0_25 h0_f26 h0_f27 h0_f28 h0_f29 h0_f30 h0_f31 h0_32 h0_33 h0_f34 h0_35 h0_36 h0_37 h0_38 h0_39 h0_40 h0_f41 h0_f42 h0_f43 h0_f44 h0_45 h0_46 h0_47 h0_48 h0_49 h0_50 h0_f51 h0_52 h0_f53 h0_1 h0_1k 240 h0_1c h0_24 h0_24k w_47)) (nw := (wd_c_X12_readPlan h0 h0_f0 h0_1 h0_2 h0_3 h0_4 h0_1 h0_f6 h0_f7 0 h0_f6 x_45 x_46 h0_f12 h0_f13 h0_f14 h0_15 h0_16 h0_f17 h0_18 h0_19 h0_20 h0_21 h0_22 h0_23 h0_24 h0_25 h0_f26 h0_f27 h0_f28 h0_f29 h0_f30 h0_f31 h0_32 h0_33 h0_f34 h0_35 h0_36 h0_37 h0_38 h0_39 h0_40 h0_f41 h0_f42 h0_f43 h0_f44 h0_45 h0_46 h0_47 h0_48 h0_49 h0_50 h0_f51 h0_52 h0_f53 h0_1 h0_1k h0_1c h0_24 h0_24k w_47 h0_25 h0_25k h0_25c)) hP hD [0, 1, 2] [4, 5, 6, 3] 4 rfl hqc (by decide +kernel) rfl hk1 hFc hP1 hD1
      generalize H1 = H at hP hS ⊢
      as_aux_lemma =>
      rcases hw with ⟨h_48, h_49, h_50, h_51, h_52, h_53⟩ | ⟨h_54, h_55, h_56, h_57, h_58⟩
      · have h_53 : (x_45, x_46, w_47) = _ := h_53
        replace hEX := hEX.trans (exc3_eq h_53)
        replace hEX := hEX.trans (if_pos (show x_46 = (-1) from h_49))
        subst h_49
        have h_52 : j17_h0_f10.toInt + 1 ≤ x_45.toInt := h_52
        refine lv_aload_n hx hb dX12_readPlan_31 rfl (lv_at hl 2 rfl) ?_
        refine va_get (D := (dC, dI)) (ci := 12) (v := .int (-1)) (C := RX12) (T := TX12) (N := 54) hx hb hts iw_c_X12_readPlan_X12 hown hK hP 0 rfl rfl 11 (by decide +kernel) (hts (.fieldLink RX12 143 "BuoyVoteModel" "fault" "I") (List.mem_of_getElem? (i := 12) rfl)) (fun _ h9 => h9) rfl dX12_readPlan_32 ?_
        refine lv_iconst (v := (-1)) hx hb dX12_readPlan_35 kc_iconst_m1 ?_
        refine lv_icmp_eq (tgt := 40) hx hb dX12_readPlan_36 rfl (fun c_59 => ?_) (fun c_59 => absurd c_59 (by decide +kernel))
        obtain ⟨x_60, ex_60⟩ : ∃ y : Int32, y = j17_l1 + 1 := ⟨_, rfl⟩
        have g_61 : RG x_60 1 16 := RG_add ex_60 g_j17_l1 (RG_k 1 1 rfl) (by decide +kernel)
        replace hEX := hEX.trans (exl_eq ex_60)
        refine lv_iinc (v := x_60) (lv' := [(1, .int x_60), (2, .int 1), (0, .ref h0)]) hx hb dX12_readPlan_40 hl (k := 1) rfl (by rw [ex_60]; rfl) (Nat.le_of_ble_eq_true rfl) rfl (fun ls hl => ?_)
        as_aux_lemma =>
        refine lv_aload_n hx hb dX12_readPlan_43 rfl (lv_at hl 2 rfl) ?_
        obtain ⟨hPc, hDc, hFc, hqc⟩ := cl_cut (wc := (wd_c_X12_look h0 h0_f0 h0_1 h0_2 h0_3 h0_4 h0_1 h0_f6 h0_f7 0 h0_f6 x_45 (-1) h0_f12 h0_f13 h0_f14 h0_15 h0_16 h0_f17 h0_18 h0_19 h0_20 h0_21 h0_22 h0_23 h0_24 h0_25 h0_f26 h0_f27 h0_f28 h0_f29 h0_f30 h0_f31 h0_32 h0_33 h0_f34 h0_35 h0_36 h0_37 h0_38 h0_39 h0_40 h0_f41 h0_f42 h0_f43 h0_f44 h0_45 h0_46 h0_47 h0_48 h0_49 h0_50 h0_f51 h0_52 h0_f53 h0_1 h0_1k 240 h0_1c)) hP hD hS hA [0, 1] (by decide +kernel) rfl
        have hKc := hK.sub (tys' := [(h0_1k, .byte)]) [0] rfl
        have hrv := va_recv hKc hPc (ci := 12) (q0 := 0) rfl rfl
        refine va_calli (va_runV (As := []) (rest := []) ⟨hx, hb, hml, hown, hts⟩ (c_X12_look l dC dI H.size h0 h0_f0 h0_1 h0_2 h0_3 h0_4 h0_1 h0_f6 h0_f7 0 h0_f6 x_45 h0_f12 h0_f13 h0_f14 h0_15 h0_16 h0_f17 h0_18 h0_19 h0_20 h0_21 h0_22 h0_23 h0_24 h0_25 h0_f26 h0_f27 h0_f28 h0_f29 h0_f30 h0_f31 h0_32 h0_33 h0_f34 h0_35 h0_36 h0_37 h0_38 h0_39 h0_40 h0_f41 h0_f42 h0_f43 h0_f44 h0_45 h0_46 h0_47 h0_48 h0_49 h0_50 h0_f51 h0_52 h0_f53 h0_1k h0_1c 240 (RG_w h_51 (by decide +kernel)) g_h0_f7 (RG_w (RG_k 0 0 rfl) (by decide +kernel)) (RG_w h_51 (by decide +kernel)) (RG_w h_48 (by decide +kernel)) g_h0_f17 g_h0_f26 g_h0_f27 g_h0_f28 g_h0_f29 g_h0_f30 g_h0_f31 g_h0_f34 g_h0_f41 g_h0_f51 g_h0_f53 (by decide +kernel)) (cwV 0 hts gf_c_X12_readPlan_c_X12_look rfl rfl rfl mdV_X12_look ⟨Nat.le_of_ble_eq_true rfl, Nat.le_of_ble_eq_true rfl⟩) ⟨fun a U g mk q => by obtain ⟨q0, q1, qP, qK, qD⟩ := q; exact ⟨q0, q1, qP, va_K.moved (u := U) (U := U.calling g mk a) (Vm.Alike.refl U.vm) qK, qD⟩, hrv, fun U hU hW => ⟨rfl, by rw [hU], by rw [hU]; exact hPc, va_K.moved hW.alike hKc, hDc.weaken (fun _ _ _ _ => trivial)⟩⟩ rfl rfl hl.1 rfl (lv_room (Nat.le_of_ble_eq_true rfl)) dX12_readPlan_44 ⟨Nat.le_of_ble_eq_true rfl, Nat.le_of_ble_eq_true rfl⟩) hS (fun q _ h => hFc q h) hFc (fun r_62 x_63 t H1 locs ht hvm hw hB hz1 hk1 hS => ?_)
        obtain ⟨hP1, hK1, hD1⟩ := hB
        rw [ht] at hP1
        obtain ⟨hP, hD⟩ := cl_put (w1 := (wd_c_X12_look h0 h0_f0 h0_1 h0_2 h0_3 h0_4 h0_1 h0_f6 h0_f7 0 h0_f6 x_63 (-1) h0_f12 h0_f13 h0_f14 h0_15 h0_16 h0_f17 h0_18 h0_19 h0_20 h0_21 h0_22 h0_23 h0_24 h0_25 h0_f26 h0_f27 h0_f28 h0_f29 h0_f30 h0_f31 h0_32 h0_33 h0_f34 h0_35 h0_36 h0_37 h0_38 h0_39 h0_40 h0_f41 h0_f42 h0_f43 h0_f44 h0_45 h0_46 h0_47 h0_48 h0_49 h0_50 h0_f51 h0_52 h0_f53 h0_1 h0_1k 240 h0_1c)) (nw := (wd_c_X12_readPlan h0 h0_f0 h0_1 h0_2 h0_3 h0_4 h0_1 h0_f6 h0_f7 0 h0_f6 x_63 (-1) h0_f12 h0_f13 h0_f14 h0_15 h0_16 h0_f17 h0_18 h0_19 h0_20 h0_21 h0_22 h0_23 h0_24 h0_25 h0_f26 h0_f27 h0_f28 h0_f29 h0_f30 h0_f31 h0_32 h0_33 h0_f34 h0_35 h0_36 h0_37 h0_38 h0_39 h0_40 h0_f41 h0_f42 h0_f43 h0_f44 h0_45 h0_46 h0_47 h0_48 h0_49 h0_50 h0_f51 h0_52 h0_f53 h0_1 h0_1k h0_1c h0_24 h0_24k w_47 h0_25 h0_25k h0_25c)) hP hD [0, 1] [4, 5, 2, 3] 4 rfl hqc (by decide +kernel) rfl hk1 hFc hP1 hD1
        generalize H1 = H at hP hS ⊢
        as_aux_lemma =>
        rcases hw with ⟨h_64, h_65, h_66, h_67, h_68, h_69⟩ | ⟨h_70, h_71, h_72, h_73, h_74, h_75, h_76⟩
        · have h_69 : (r_62, x_63) = _ := h_69
          replace hEX := hEX.trans (exc2_eq h_69)
          replace hEX := hEX.trans (if_pos (show r_62 = (-1) from h_64))
          rw [h_64]
          refine lv_bipush (v := 59) hx hb dX12_readPlan_47 kc_bipush_59 ?_
          refine lv_icmp_ne (tgt := 56) hx hb dX12_readPlan_49 rfl (fun c_77 => ?_) (fun c_77 => absurd c_77 (by decide +kernel))
          refine lv_iconst (v := 0) hx hb dX12_readPlan_56 kc_iconst_0 ?_
          exact hU _ _ _ (J57 x_60 x_63 w_47 g_h0_f10 g_h0_f11 g_h0_f17 g_h0_f26 g_h0_f27 g_h0_f28 g_h0_f29 g_h0_f30 g_h0_f31 g_h0_f34 g_h0_f41 g_h0_f51 g_h0_f53 h_51 g_h0_f7 g_h0_f8 g_h0_f9 h_65 g_61 h_50 hEX _ _ _ hP hD hS (lv_sub hl [0, 2] rfl))
        · have h_76 : (r_62, x_63) = _ := h_76
          replace hEX := hEX.trans (exc2_eq h_76)
          replace hEX := hEX.trans (if_neg (RG_neq (x := r_62) (c := (-1)) (show RG r_62 0 255 from h_70) (by decide +kernel)))
          have nb_78 := h_75.2.resolve_left (fun q => by have g9 := h_70; rw [q] at g9; exact absurd g9.1 (by decide +kernel))
          refine lv_bipush (v := 59) hx hb dX12_readPlan_47 kc_bipush_59 ?_
          as_aux_lemma =>
          refine lv_icmp_ne (tgt := 56) hx hb dX12_readPlan_49 rfl (fun c_79 => ?_) (fun c_79 => ?_)
          · replace hEX := hEX.trans (if_neg c_79)
            refine lv_iconst (v := 0) hx hb dX12_readPlan_56 kc_iconst_0 ?_
            exact hU _ _ _ (J57 x_60 x_63 w_47 g_h0_f10 g_h0_f11 g_h0_f17 g_h0_f26 g_h0_f27 g_h0_f28 g_h0_f29 g_h0_f30 g_h0_f31 g_h0_f34 g_h0_f41 g_h0_f51 g_h0_f53 h_51 g_h0_f7 g_h0_f8 g_h0_f9 (RG_w h_71 (by decide +kernel)) g_61 h_50 hEX _ _ _ hP hD hS (lv_sub hl [0, 2] rfl))
          · replace hEX := hEX.trans (if_pos c_79)
            have g_80 : RG r_62 59 59 := RG_eq1 h_70 (RG_k 59 59 rfl) c_79 (by decide +kernel)
            refine lv_iconst (v := 1) hx hb dX12_readPlan_52 kc_iconst_1 ?_
            refine lv_goto (tgt := 57) hx hb dX12_readPlan_53 rfl ?_
            exact hU _ _ _ (J57b x_60 x_63 w_47 g_h0_f10 g_h0_f11 g_h0_f17 g_h0_f26 g_h0_f27 g_h0_f28 g_h0_f29 g_h0_f30 g_h0_f31 g_h0_f34 g_h0_f41 g_h0_f51 g_h0_f53 h_51 g_h0_f7 g_h0_f8 g_h0_f9 g_j17_h0_f10 g_j17_l1 h_71 g_61 h_50 (by have := h_52; have := h_73; omega) hEX _ _ _ hP hD hS (lv_sub hl [0, 2] rfl))
      · have h_58 : (x_45, x_46, w_47) = _ := h_58
        replace hEX := hEX.trans (exc3_eq h_58)
        replace hEX := hEX.trans (if_neg (RG_neq (x := x_46) (c := (-1)) (show RG x_46 0 240 from h_55) (by decide +kernel)))
        have h_57 : j17_h0_f10.toInt + 0 ≤ x_45.toInt := h_57
        refine lv_aload_n hx hb dX12_readPlan_31 rfl (lv_at hl 2 rfl) ?_
        as_aux_lemma =>
        refine va_get (D := (dC, dI)) (ci := 12) (v := .int x_46) (C := RX12) (T := TX12) (N := 54) hx hb hts iw_c_X12_readPlan_X12 hown hK hP 0 rfl rfl 11 (by decide +kernel) (hts (.fieldLink RX12 143 "BuoyVoteModel" "fault" "I") (List.mem_of_getElem? (i := 12) rfl)) (fun _ h9 => h9) rfl dX12_readPlan_32 ?_
        refine lv_iconst (v := (-1)) hx hb dX12_readPlan_35 kc_iconst_m1 ?_
        refine lv_icmp_eq (tgt := 40) hx hb dX12_readPlan_36 rfl (fun c_81 => ?_) (fun c_81 => ?_)
        · replace hEX := hEX.trans (if_pos c_81)
          exact RG_dead (RG_eq1 h_55 (RG_k (-1) (-1) rfl) c_81 (a' := 0) (b' := (-1)) (by decide +kernel)) (by decide +kernel)
        · replace hEX := hEX.trans (if_neg c_81)
          have hK9 := hK.sub (tys' := []) [] rfl
          exact W.vret hx hb hr (fun t ht hW => ⟨⟨(x_45, x_46, w_47, h0_25c), rfl, (Or.inr ⟨h_54, h_55, h_56, a_h0_25c, (hR.trans hEX).symm⟩), by rw [ht]; exact hP, va_K.moved hW.alike hK9, hD⟩, hS.F ht⟩) hS.2.2 dX12_readPlan_39
  refine hG _ _ _ ?_
  refine lv_aload_n hx hb dX12_readPlan_0 rfl (lv_at hl 0 rfl) ?_
  refine lv_aload_n hx hb dX12_readPlan_1 rfl (lv_at hl 0 rfl) ?_
  refine va_get (D := (dC, dI)) (ci := 12) (v := .ref h0_1) (C := RX12) (T := TX12) (N := 54) hx hb hts iw_c_X12_readPlan_X12 hown hK hP 0 rfl rfl 1 (by decide +kernel) (hts (.fieldLink RX12 9 "BuoyVoteModel" "tape" "[B") (List.mem_of_getElem? (i := 1) rfl)) (fun _ h9 => h9) rfl dX12_readPlan_2 ?_
  refine lv_iconst (v := 0) hx hb dX12_readPlan_5 kc_iconst_0 ?_
  refine lv_aload_n hx hb dX12_readPlan_6 rfl (lv_at hl 0 rfl) ?_
  as_aux_lemma =>
  refine va_get (D := (dC, dI)) (ci := 12) (v := .int h0_f6) (C := RX12) (T := TX12) (N := 54) hx hb hts iw_c_X12_readPlan_X12 hown hK hP 0 rfl rfl 6 (by decide +kernel) (hts (.fieldLink RX12 124 "BuoyVoteModel" "length" "I") (List.mem_of_getElem? (i := 2) rfl)) (fun _ h9 => h9) rfl dX12_readPlan_7 ?_
  obtain ⟨hPc, hDc, hFc, hqc⟩ := cl_cut (wc := (wd_c_X12_starts h0 h0_f0 h0_1 h0_2 h0_3 h0_4 h0_5 h0_f6 h0_f7 h0_f8 h0_f9 h0_f10 h0_f11 h0_f12 h0_f13 h0_f14 h0_15 h0_16 h0_f17 h0_18 h0_19 h0_20 h0_21 h0_22 h0_23 h0_24 h0_25 h0_f26 h0_f27 h0_f28 h0_f29 h0_f30 h0_f31 h0_32 h0_33 h0_f34 h0_35 h0_36 h0_37 h0_38 h0_39 h0_40 h0_f41 h0_f42 h0_f43 h0_f44 h0_45 h0_46 h0_47 h0_48 h0_49 h0_50 h0_f51 h0_52 h0_f53)) hP hD hS hA [0] (by decide +kernel) rfl
  have hKc := hK.sub (tys' := []) [] rfl
  have hrv := va_recv hKc hPc (ci := 12) (q0 := 0) rfl rfl
  refine va_callv (va_runV (As := [.ref h0_1, .int 0, .int h0_f6]) (rest := []) ⟨hx, hb, hml, hown, hts⟩ (c_X12_starts l dC dI H.size h0 h0_1 h0_f6 h0_f0 h0_1 h0_2 h0_3 h0_4 h0_5 h0_f6 h0_f7 h0_f8 h0_f9 h0_f10 h0_f11 h0_f12 h0_f13 h0_f14 h0_15 h0_16 h0_f17 h0_18 h0_19 h0_20 h0_21 h0_22 h0_23 h0_24 h0_25 h0_f26 h0_f27 h0_f28 h0_f29 h0_f30 h0_f31 h0_32 h0_33 h0_f34 h0_35 h0_36 h0_37 h0_38 h0_39 h0_40 h0_f41 h0_f42 h0_f43 h0_f44 h0_45 h0_46 h0_47 h0_48 h0_49 h0_50 h0_f51 h0_52 h0_f53 g_h0_f6 g_h0_f6 g_h0_f7 g_h0_f8 g_h0_f9 g_h0_f10 g_h0_f11 g_h0_f17 g_h0_f26 g_h0_f27 g_h0_f28 g_h0_f29 g_h0_f30 g_h0_f31 g_h0_f34 g_h0_f41 g_h0_f51 g_h0_f53) (cwV 3 hts gf_c_X12_readPlan_c_X12_starts rfl rfl rfl mdV_X12_starts ⟨Nat.le_of_ble_eq_true rfl, Nat.le_of_ble_eq_true rfl⟩) ⟨fun a U g mk q => by obtain ⟨q0, q1, qP, qK, qD⟩ := q; exact ⟨q0, q1, qP, va_K.moved (u := U) (U := U.calling g mk a) (Vm.Alike.refl U.vm) qK, qD⟩, hrv, fun U hU hW => ⟨rfl, by rw [hU], by rw [hU]; exact hPc, va_K.moved hW.alike hKc, hDc.weaken (fun _ _ _ _ => trivial)⟩⟩ rfl rfl hl.1 rfl (lv_room (Nat.le_of_ble_eq_true rfl)) dX12_readPlan_10 ⟨Nat.le_of_ble_eq_true rfl, Nat.le_of_ble_eq_true rfl⟩) hS (fun q _ h => hFc q h) hFc (fun u t H1 locs ht hvm hw hB hz1 hk1 hS => ?_)
  obtain ⟨hP1, hK1, hD1⟩ := hB
  rw [ht] at hP1
  obtain ⟨hP, hD⟩ := cl_put (w1 := (wd_c_X12_starts h0 h0_f0 h0_1 h0_2 h0_3 h0_4 h0_1 h0_f6 h0_f7 0 h0_f6 0 (-1) h0_f12 h0_f13 h0_f14 h0_15 h0_16 h0_f17 h0_18 h0_19 h0_20 h0_21 h0_22 h0_23 h0_24 h0_25 h0_f26 h0_f27 h0_f28 h0_f29 h0_f30 h0_f31 h0_32 h0_33 h0_f34 h0_35 h0_36 h0_37 h0_38 h0_39 h0_40 h0_f41 h0_f42 h0_f43 h0_f44 h0_45 h0_46 h0_47 h0_48 h0_49 h0_50 h0_f51 h0_52 h0_f53)) (nw := (wd_c_X12_readPlan h0 h0_f0 h0_1 h0_2 h0_3 h0_4 h0_1 h0_f6 h0_f7 0 h0_f6 0 (-1) h0_f12 h0_f13 h0_f14 h0_15 h0_16 h0_f17 h0_18 h0_19 h0_20 h0_21 h0_22 h0_23 h0_24 h0_25 h0_f26 h0_f27 h0_f28 h0_f29 h0_f30 h0_f31 h0_32 h0_33 h0_f34 h0_35 h0_36 h0_37 h0_38 h0_39 h0_40 h0_f41 h0_f42 h0_f43 h0_f44 h0_45 h0_46 h0_47 h0_48 h0_49 h0_50 h0_f51 h0_52 h0_f53 h0_1 h0_1k h0_1c h0_24 h0_24k h0_24c h0_25 h0_25k h0_25c)) hP hD [0] [4, 1, 2, 3] 4 rfl hqc (by decide +kernel) rfl hk1 hFc hP1 hD1
  generalize H1 = H at hP hS ⊢
  as_aux_lemma =>
  have h_83 := hw
  refine lv_iconst (v := 0) hx hb dX12_readPlan_13 kc_iconst_0 ?_
  refine lv_istore_n (lv' := [(1, .int 0), (0, .ref h0)]) hx hb dX12_readPlan_14 rfl hl (Nat.le_of_ble_eq_true rfl) rfl (fun ls hl => ?_)
  refine lv_iconst (v := 1) hx hb dX12_readPlan_15 kc_iconst_1 ?_
  refine lv_istore_n (lv' := [(2, .int 1), (1, .int 0), (0, .ref h0)]) hx hb dX12_readPlan_16 rfl hl (Nat.le_of_ble_eq_true rfl) rfl (fun ls hl => ?_)
  exact hU _ _ _ (J17 exF 0 0 h0_24c MU_F g_h0_f10 g_h0_f11 g_h0_f17 g_h0_f26 g_h0_f27 g_h0_f28 g_h0_f29 g_h0_f30 g_h0_f31 g_h0_f34 g_h0_f41 g_h0_f51 g_h0_f53 g_h0_f6 g_h0_f7 g_h0_f8 g_h0_f9 (RG_w (RG_k 0 0 rfl) (by decide +kernel)) (RG_w (RG_k 0 0 rfl) (by decide +kernel)) a_h0_24c hEX _ _ _ hP hD hS (lv_sub hl [0, 1, 2] rfl))
