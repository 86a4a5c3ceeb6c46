noncomputable def wd_c_X12_atom (a0 : Nat) (a1 : Int32) (a2 : Nat) (a3 : Nat) (a4 : Nat) (a5 : Nat) (a6 : Nat) (a7 : Int32) (a8 : Int32) (a9 : Int32) (a10 : Int32) (a11 : Int32) (a12 : Int32) (a13 : Int32) (a14 : Int32) (a15 : Int32) (a16 : Nat) (a17 : Nat) (a18 : Int32) (a19 : Nat) (a20 : Nat) (a21 : Nat) (a22 : Nat) (a23 : Nat) (a24 : Nat) (a25 : Nat) (a26 : Nat) (a27 : Int32) (a28 : Int32) (a29 : Int32) (a30 : Int32) (a31 : Int32) (a32 : Int32) (a33 : Nat) (a34 : Nat) (a35 : Int32) (a36 : Nat) (a37 : Nat) (a38 : Nat) (a39 : Nat) (a40 : Nat) (a41 : Nat) (a42 : Int32) (a43 : Int64) (a44 : Int32) (a45 : Int32) (a46 : Nat) (a47 : Nat) (a48 : Nat) (a49 : Nat) (a50 : Nat) (a51 : Nat) (a52 : Int32) (a53 : Nat) (a54 : Int32) (a55 : Nat) (a56 : ClassId) (a57 : Nat) (a58 : Nat → Int32) (a59 : Nat) (a60 : ClassId) (a61 : Nat → Int32) : va_W := [(a0, .inr (12, [.int a1, .ref a2, .ref a3, .ref a4, .ref a5, .ref a6, .int a7, .int a8, .int a9, .int a10, .int a11, .int a12, .int a13, .int a14, .int a15, .ref a16, .ref a17, .int a18, .ref a19, .ref a20, .ref a21, .ref a22, .ref a23, .ref a24, .ref a25, .ref a26, .int a27, .int a28, .int a29, .int a30, .int a31, .int a32, .ref a33, .ref a34, .int a35, .ref a36, .ref a37, .ref a38, .ref a39, .ref a40, .ref a41, .int a42, .long a43, .int a44, .int a45, .ref a46, .ref a47, .ref a48, .ref a49, .ref a50, .ref a51, .int a52, .ref a53, .int a54])), (a55, .inl (a56, a57, .inl a58)), (a59, .inl (a60, 128, .inl a61))]
noncomputable def wf_c_X12_atom : List Cond := List.cons (.code yX12_atom cX12_atom 4 (some .int)) (@HAppend.hAppend (List Cond) (List Cond) (List Cond) _ [.methodLink RX12 153 yX12_look, .instanceMethod yX12_look, .selects RX12 yX12_look yX12_look, .initialized RX12, .code yX12_look cX12_look 1 (some .int), .fieldLink RX12 134 "BuoyVoteModel" "at" "I", .fieldLink RX12 137 "BuoyVoteModel" "ends" "I", .fieldLink RX12 23 "BuoyVoteModel" "text" "[B", .fieldLink RX12 140 "BuoyVoteModel" "begins" "I", .methodLink RX12 169 yX12_isAmong, .static yX12_isAmong, .code yX12_isAmong cX12_isAmong 3 (some .boolean), .methodLink RX12 114 yJ0_length_8abf5, .instanceMethod yJ0_length_8abf5, .selects RJ0 yJ0_length_8abf5 yJ0_length_8abf5, .initialized RJ0, .code yJ0_length_8abf5 cJ0_length_8abf5 1 (some .int), .fieldLink RJ0 9 "java/lang/String" "value" "[B", .methodLink RJ0 335 yJ0_coder_7d493, .instanceMethod yJ0_coder_7d493, .selects RJ0 yJ0_coder_7d493 yJ0_coder_7d493, .code yJ0_coder_7d493 cJ0_coder_7d493 1 (some .byte), .fieldLink RJ0 38 "java/lang/String" "COMPACT_STRINGS" "Z", .fieldLink RJ0 15 "java/lang/String" "coder" "B", .methodLink RX12 120 yJ0_charAt_5068e, .instanceMethod yJ0_charAt_5068e, .selects RJ0 yJ0_charAt_5068e yJ0_charAt_5068e, .code yJ0_charAt_5068e cJ0_charAt_5068e 2 (some .char), .methodLink RJ0 492 yJ0_isLatin1_aae02, .instanceMethod yJ0_isLatin1_aae02, .selects RJ0 yJ0_isLatin1_aae02 yJ0_isLatin1_aae02, .code yJ0_isLatin1_aae02 cJ0_isLatin1_aae02 1 (some .boolean), .methodLink RJ0 495 yJ1_charAt_3b067, .static yJ1_charAt_3b067, .initialized RJ1, .code yJ1_charAt_3b067 cJ1_charAt_3b067 2 (some .char), .methodLink RJ1 9 yJ0_checkIndex_df160, .static yJ0_checkIndex_df160, .code yJ0_checkIndex_df160 cJ0_checkIndex_df160 2 none, .fieldLink RJ0 1053 "jdk/internal/util/Preconditions" "SIOOBE_FORMATTER" "Ljava/util/function/BiFunction;", .methodLink RJ0 1059 yJ3_checkIndex_8e157, .static yJ3_checkIndex_8e157, .initialized RJ3, .code yJ3_checkIndex_8e157 cJ3_checkIndex_8e157 3 (some .int), .methodLink RX12 183 yX12_isDigit, .instanceMethod yX12_isDigit, .selects RX12 yX12_isDigit yX12_isDigit, .code yX12_isDigit cX12_isDigit 1 (some .boolean), .methodLink RX12 149 yX12_fails, .instanceMethod yX12_fails, .selects RX12 yX12_fails yX12_fails, .code yX12_fails cX12_fails 1 (some .boolean), .fieldLink RX12 143 "BuoyVoteModel" "fault" "I", .methodLink RX12 173 yX12_goesIn, .instanceMethod yX12_goesIn, .selects RX12 yX12_goesIn yX12_goesIn, .code yX12_goesIn cX12_goesIn 1 (some .boolean), .fieldLink RX12 146 "BuoyVoteModel" "deep" "I", .methodLink RX12 176 yX12_sum, .instanceMethod yX12_sum, .selects RX12 yX12_sum yX12_sum, .code yX12_sum cX12_sum 5 (some .int), .methodLink RX12 193 yX12_term, .instanceMethod yX12_term, .selects RX12 yX12_term yX12_term, .code yX12_term cX12_term 5 (some .int), .methodLink RX12 186 yX12_atom, .instanceMethod yX12_atom, .selects RX12 yX12_atom yX12_atom, .fieldLink RX12 20 "BuoyVoteModel" "letters" "[I", .methodLink RX12 189 yX12_within, .static yX12_within, .code yX12_within cX12_within 2 (some .int), .constantLong RX12 156 (-1000000), .constantLong RX12 158 (1000000), .methodLink RX12 160 Lib.MathLoose.min_long.x, .static Lib.MathLoose.min_long.x, .initialized "java/lang/Math", .code Lib.MathLoose.min_long.x Lib.MathLoose.min_long.code 4 (some .long), .methodLink RX12 166 Lib.MathLoose.max_long.x, .static Lib.MathLoose.max_long.x, .code Lib.MathLoose.max_long.x Lib.MathLoose.max_long.code 4 (some .long), .methodLink RX12 179 yX12_takes, .instanceMethod yX12_takes, .selects RX12 yX12_takes yX12_takes, .code yX12_takes cX12_takes 2 (some .boolean)] wsX120)
theorem iw_c_X12_atom_X12 : ∀ w ∈ wsX120, w ∈ wf_c_X12_atom := fun w h => List.mem_cons_of_mem _ (List.mem_append_right _ h)
set_option maxRecDepth 20000 in
theorem gf_c_X12_atom_c_X12_isDigit : GoodIn wf_c_X12_atom (wsV RX12 183 RX12 yX12_isDigit wf_c_X12_isDigit) := goodIn_app (gi_l [45, 46, 47, 4] rfl rfl) (gi_cons (j := 48) rfl rfl (goodIn_app (gi_l [6, 7, 8, 9] rfl rfl) (goodIn_sub iw_c_X12_atom_X12 gw_X12)))
set_option maxRecDepth 20000 in
theorem gf_c_X12_atom_c_X12_fails : GoodIn wf_c_X12_atom (wsV RX12 149 RX12 yX12_fails wf_c_X12_fails) := goodIn_app (gi_l [49, 50, 51, 4] rfl rfl) (gi_cons (j := 52) rfl rfl (goodIn_app (gi_l [53, 6] rfl rfl) (goodIn_sub iw_c_X12_atom_X12 gw_X12)))
set_option maxRecDepth 20000 in
theorem gf_c_X12_atom_c_X12_isDigit_1 : GoodIn wf_c_X12_atom (wsV RX12 183 RX12 yX12_isDigit wf_c_X12_isDigit_1) := goodIn_app (gi_l [45, 46, 47, 4] rfl rfl) (gi_cons (j := 48) rfl rfl (goodIn_app (gi_l [6, 7, 8, 9] rfl rfl) (goodIn_sub iw_c_X12_atom_X12 gw_X12)))
set_option maxRecDepth 20000 in
theorem gf_c_X12_atom_c_X12_look : GoodIn wf_c_X12_atom (wsV RX12 153 RX12 yX12_look wf_c_X12_look) := goodIn_app (gi_l [1, 2, 3, 4] rfl rfl) (gi_cons (j := 5) rfl rfl (goodIn_app (gi_l [6, 7, 8, 9] rfl rfl) (goodIn_sub iw_c_X12_atom_X12 gw_X12)))
set_option maxRecDepth 20000 in
theorem gf_c_X12_atom_c_X12_isAmong_2 : GoodIn wf_c_X12_atom (va_wsS RX12 169 yX12_isAmong wf_c_X12_isAmong_2) := goodIn_app (gi_l [10, 11, 4] rfl rfl) (gi_cons (j := 12) rfl rfl (gi_l [13, 14, 15, 16, 17, 18, 19, 20, 21, 22, 23, 24, 25, 26, 27, 28, 29, 30, 31, 32, 33, 34, 35, 36, 37, 38, 39, 40, 41, 42, 43, 44] rfl rfl))
set_option maxRecDepth 20000 in
theorem gf_c_X12_atom_c_X12_isAmong_3 : GoodIn wf_c_X12_atom (va_wsS RX12 169 yX12_isAmong wf_c_X12_isAmong_3) := goodIn_app (gi_l [10, 11, 4] rfl rfl) (gi_cons (j := 12) rfl rfl (gi_l [13, 14, 15, 16, 17, 18, 19, 20, 21, 22, 23, 24, 25, 26, 27, 28, 29, 30, 31, 32, 33, 34, 35, 36, 37, 38, 39, 40, 41, 42, 43, 44] rfl rfl))
set_option maxRecDepth 20000 in
theorem gf_c_X12_atom_c_X12_goesIn : GoodIn wf_c_X12_atom (wsV RX12 173 RX12 yX12_goesIn wf_c_X12_goesIn) := goodIn_app (gi_l [54, 55, 56, 4] rfl rfl) (gi_cons (j := 57) rfl rfl (goodIn_app (gi_l [58, 6] rfl rfl) (goodIn_sub iw_c_X12_atom_X12 gw_X12)))
set_option maxRecDepth 20000 in
theorem gf_c_X12_atom_c_X12_sum_1 : GoodIn wf_c_X12_atom (wsV RX12 176 RX12 yX12_sum wf_c_X12_sum_1) := goodIn_app (gi_l [59, 60, 61, 4] rfl rfl) (gi_cons (j := 62) rfl rfl (goodIn_app (gi_l [63, 64, 65, 4, 66, 67, 68, 69, 0, 1, 2, 3, 5, 6, 7, 8, 9, 10, 11, 12, 13, 14, 15, 16, 17, 18, 19, 20, 21, 22, 23, 24, 25, 26, 27, 28, 29, 30, 31, 32, 33, 34, 35, 36, 37, 38, 39, 40, 41, 42, 43, 44, 45, 46, 47, 48, 49, 50, 51, 52, 53, 54, 55, 56, 57, 58, 59, 60, 61, 70, 71, 72, 73, 74, 75, 76, 77, 78, 79, 80, 81, 82, 83, 84, 85, 86] rfl rfl) (goodIn_sub iw_c_X12_atom_X12 gw_X12)))
set_option maxRecDepth 20000 in
theorem gf_c_X12_atom_c_X12_takes_1 : GoodIn wf_c_X12_atom (wsV RX12 179 RX12 yX12_takes wf_c_X12_takes_1) := goodIn_app (gi_l [83, 84, 85, 4] rfl rfl) (gi_cons (j := 86) rfl rfl (goodIn_app (gi_l [53, 1, 2, 3, 4, 5, 6, 7, 8, 9, 49, 50, 51, 52] rfl rfl) (goodIn_sub iw_c_X12_atom_X12 gw_X12)))
set_option maxRecDepth 20000 in
theorem gf_c_X12_atom_c_X12_takes_2 : GoodIn wf_c_X12_atom (wsV RX12 179 RX12 yX12_takes wf_c_X12_takes_2) := goodIn_app (gi_l [83, 84, 85, 4] rfl rfl) (gi_cons (j := 86) rfl rfl (goodIn_app (gi_l [53, 49, 50, 51, 4, 52] rfl rfl) (goodIn_sub iw_c_X12_atom_X12 gw_X12)))
set_option maxHeartbeats 4000000 in
set_option maxRecDepth 100000 in
theorem c_X12_atom (l : Launch) (dC : Nat → ClassId) (dI : Nat → Nat → Nat) (sz : Nat) (h0 : Nat) (h0_f0 : Int32) (h0_1 : Nat) (h0_2 : Nat) (h0_3 : Nat) (h0_4 : Nat) (h0_5 : Nat) (h0_f6 : Int32) (h0_f7 : Int32) (h0_f8 : Int32) (h0_f9 : Int32) (h0_f10 : Int32) (h0_f13 : Int32) (h0_f14 : Int32) (h0_15 : Nat) (h0_16 : Nat) (h0_f17 : Int32) (h0_18 : Nat) (h0_19 : Nat) (h0_20 : Nat) (h0_21 : Nat) (h0_22 : Nat) (h0_23 : Nat) (h0_24 : Nat) (h0_25 : Nat) (h0_f26 : Int32) (h0_f27 : Int32) (h0_f28 : Int32) (h0_f29 : Int32) (h0_f30 : Int32) (h0_f31 : Int32) (h0_32 : Nat) (h0_33 : Nat) (h0_f34 : Int32) (h0_35 : Nat) (h0_36 : Nat) (h0_37 : Nat) (h0_38 : Nat) (h0_39 : Nat) (h0_40 : Nat) (h0_f41 : Int32) (h0_f42 : Int64) (h0_f43 : Int32) (h0_f44 : Int32) (h0_45 : Nat) (h0_46 : Nat) (h0_47 : Nat) (h0_48 : Nat) (h0_49 : Nat) (h0_50 : Nat) (h0_f51 : Int32) (h0_52 : Nat) (h0_f53 : Int32) (h0_5k : ClassId) (h0_5c : Nat → Int32) (tN : Nat) (h0_4k : ClassId) (h0_4c : Nat → Int32) (ts7 : Nat) (tv7 : Nat) (g_h0_f6 : RG h0_f6 0 240) (g_h0_f7 : RG h0_f7 0 4) (g_h0_f8 : RG h0_f8 0 720) (g_h0_f9 : RG h0_f9 0 240) (g_h0_f10 : RG h0_f10 0 240) (g_h0_f17 : RG h0_f17 0 1) (g_h0_f26 : RG h0_f26 0 8) (g_h0_f27 : RG h0_f27 0 3) (g_h0_f28 : RG h0_f28 0 8) (g_h0_f29 : RG h0_f29 0 3) (g_h0_f30 : RG h0_f30 0 4) (g_h0_f31 : RG h0_f31 0 1) (g_h0_f34 : RG h0_f34 (-1) 3) (g_h0_f41 : RG h0_f41 0 40) (g_h0_f51 : RG h0_f51 0 10) (g_h0_f53 : RG h0_f53 0 1) (htN : h0_f8.toInt + 240 ≤ (tN : Int)) (a_h0_4c : AP tLet h0_4c) : Met l yX12_atom wf_c_X12_atom ({ frames := 23, cells := 0, slots := 0, locals := 533 }) (va_Pc [.ref h0] (fun U => U.heap.size = sz ∧ va_P (dC, dI) vwCl (wd_c_X12_atom h0 h0_f0 h0_1 h0_2 h0_3 h0_4 h0_5 h0_f6 h0_f7 h0_f8 h0_f9 h0_f10 (-1) 0 h0_f13 h0_f14 h0_15 h0_16 h0_f17 h0_18 h0_19 h0_20 h0_21 h0_22 h0_23 h0_24 h0_25 h0_f26 h0_f27 h0_f28 h0_f29 h0_f30 h0_f31 h0_32 h0_33 h0_f34 h0_35 h0_36 h0_37 h0_38 h0_39 h0_40 h0_f41 h0_f42 h0_f43 h0_f44 h0_45 h0_46 h0_47 h0_48 h0_49 h0_50 h0_f51 h0_52 h0_f53 h0_5 h0_5k tN h0_5c h0_4 h0_4k h0_4c) U.heap ∧ va_K (dC, dI) vwCl [(h0_5k, .byte), (h0_4k, .int)] U ∧ va_D (fun _ => True) (wd_c_X12_atom h0 h0_f0 h0_1 h0_2 h0_3 h0_4 h0_5 h0_f6 h0_f7 h0_f8 h0_f9 h0_f10 (-1) 0 h0_f13 h0_f14 h0_15 h0_16 h0_f17 h0_18 h0_19 h0_20 h0_21 h0_22 h0_23 h0_24 h0_25 h0_f26 h0_f27 h0_f28 h0_f29 h0_f30 h0_f31 h0_32 h0_33 h0_f34 h0_35 h0_36 h0_37 h0_38 h0_39 h0_40 h0_f41 h0_f42 h0_f43 h0_f44 h0_45 h0_46 h0_47 h0_48 h0_49 h0_50 h0_f51 h0_52 h0_f53 h0_5 h0_5k tN h0_5c h0_4 h0_4k h0_4c) ∧ vk_R RX12 32 "vlrdph" ts7 U ∧ va_OF "java/lang/String" "value" "[B" (.ref tv7) ts7 (va_A (wd_c_X12_atom h0 h0_f0 h0_1 h0_2 h0_3 h0_4 h0_5 h0_f6 h0_f7 h0_f8 h0_f9 h0_f10 (-1) 0 h0_f13 h0_f14 h0_15 h0_16 h0_f17 h0_18 h0_19 h0_20 h0_21 h0_22 h0_23 h0_24 h0_25 h0_f26 h0_f27 h0_f28 h0_f29 h0_f30 h0_f31 h0_32 h0_33 h0_f34 h0_35 h0_36 h0_37 h0_38 h0_39 h0_40 h0_f41 h0_f42 h0_f43 h0_f44 h0_45 h0_46 h0_47 h0_48 h0_49 h0_50 h0_f51 h0_52 h0_f53 h0_5 h0_5k tN h0_5c h0_4 h0_4k h0_4c) sz) U U.heap ∧ va_T .byte tv7 6 (fun j => .int ([118, 108, 114, 100, 112, 104].getD j 0)) (va_A (wd_c_X12_atom h0 h0_f0 h0_1 h0_2 h0_3 h0_4 h0_5 h0_f6 h0_f7 h0_f8 h0_f9 h0_f10 (-1) 0 h0_f13 h0_f14 h0_15 h0_16 h0_f17 h0_18 h0_19 h0_20 h0_21 h0_22 h0_23 h0_24 h0_25 h0_f26 h0_f27 h0_f28 h0_f29 h0_f30 h0_f31 h0_32 h0_33 h0_f34 h0_35 h0_36 h0_37 h0_38 h0_39 h0_40 h0_f41 h0_f42 h0_f43 h0_f44 h0_45 h0_46 h0_47 h0_48 h0_49 h0_50 h0_f51 h0_52 h0_f53 h0_5 h0_5k tN h0_5c h0_4 h0_4k h0_4c) sz) U U.heap ∧ va_Z "java/lang/String" "COMPACT_STRINGS" "Z" (.int 1) (va_A (wd_c_X12_atom h0 h0_f0 h0_1 h0_2 h0_3 h0_4 h0_5 h0_f6 h0_f7 h0_f8 h0_f9 h0_f10 (-1) 0 h0_f13 h0_f14 h0_15 h0_16 h0_f17 h0_18 h0_19 h0_20 h0_21 h0_22 h0_23 h0_24 h0_25 h0_f26 h0_f27 h0_f28 h0_f29 h0_f30 h0_f31 h0_32 h0_33 h0_f34 h0_35 h0_36 h0_37 h0_38 h0_39 h0_40 h0_f41 h0_f42 h0_f43 h0_f44 h0_45 h0_46 h0_47 h0_48 h0_49 h0_50 h0_f51 h0_52 h0_f53 h0_5 h0_5k tN h0_5c h0_4 h0_4k h0_4c) sz) U U.heap ∧ va_OF "java/lang/String" "coder" "B" (.int 0) ts7 (va_A (wd_c_X12_atom h0 h0_f0 h0_1 h0_2 h0_3 h0_4 h0_5 h0_f6 h0_f7 h0_f8 h0_f9 h0_f10 (-1) 0 h0_f13 h0_f14 h0_15 h0_16 h0_f17 h0_18 h0_19 h0_20 h0_21 h0_22 h0_23 h0_24 h0_25 h0_f26 h0_f27 h0_f28 h0_f29 h0_f30 h0_f31 h0_32 h0_33 h0_f34 h0_35 h0_36 h0_37 h0_38 h0_39 h0_40 h0_f41 h0_f42 h0_f43 h0_f44 h0_45 h0_46 h0_47 h0_48 h0_49 h0_50 h0_f51 h0_52 h0_f53 h0_5 h0_5k tN h0_5c h0_4 h0_4k h0_4c) sz) U U.heap ∧ va_O "java/lang/String" ts7 (va_A (wd_c_X12_atom h0 h0_f0 h0_1 h0_2 h0_3 h0_4 h0_5 h0_f6 h0_f7 h0_f8 h0_f9 h0_f10 (-1) 0 h0_f13 h0_f14 h0_15 h0_16 h0_f17 h0_18 h0_19 h0_20 h0_21 h0_22 h0_23 h0_24 h0_25 h0_f26 h0_f27 h0_f28 h0_f29 h0_f30 h0_f31 h0_32 h0_33 h0_f34 h0_35 h0_36 h0_37 h0_38 h0_39 h0_40 h0_f41 h0_f42 h0_f43 h0_f44 h0_45 h0_46 h0_47 h0_48 h0_49 h0_50 h0_f51 h0_52 h0_f53 h0_5 h0_5k tN h0_5c h0_4 h0_4k h0_4c) sz) U U.heap ∧ va_Zq "jdk/internal/util/Preconditions" "SIOOBE_FORMATTER" "Ljava/util/function/BiFunction;" (va_A (wd_c_X12_atom h0 h0_f0 h0_1 h0_2 h0_3 h0_4 h0_5 h0_f6 h0_f7 h0_f8 h0_f9 h0_f10 (-1) 0 h0_f13 h0_f14 h0_15 h0_16 h0_f17 h0_18 h0_19 h0_20 h0_21 h0_22 h0_23 h0_24 h0_25 h0_f26 h0_f27 h0_f28 h0_f29 h0_f30 h0_f31 h0_32 h0_33 h0_f34 h0_35 h0_36 h0_37 h0_38 h0_39 h0_40 h0_f41 h0_f42 h0_f43 h0_f44 h0_45 h0_46 h0_47 h0_48 h0_49 h0_50 h0_f51 h0_52 h0_f53 h0_5 h0_5k tN h0_5c h0_4 h0_4k h0_4c) sz) U U.heap)) (va_Qi (fun (r : Int32) (u : (Int32) × (Int32) × (Int32)) => (RG r (-2147483648) 2147483647 ∧ RG u.1 0 240 ∧ u.2.1 = (-1) ∧ u.2.2 = 0 ∧ RG h0_f9 1 240 ∧ h0_f10.toInt + 0 ≤ (u.1).toInt ∧ (r, u.1, u.2.1, u.2.2) = fx_c_X12_atom h0_f8 h0_f9 h0_f10 h0_5c h0_4c) ∨ (r = 0 ∧ RG u.1 0 240 ∧ RG u.2.1 0 240 ∧ RG u.2.2 0 6 ∧ h0_f10.toInt + 0 ≤ (u.1).toInt ∧ (r, u.1, u.2.1, u.2.2) = fx_c_X12_atom h0_f8 h0_f9 h0_f10 h0_5c h0_4c)) (fun (u : (Int32) × (Int32) × (Int32)) t => va_P (dC, dI) vwCl (wd_c_X12_atom h0 h0_f0 h0_1 h0_2 h0_3 h0_4 h0_5 h0_f6 h0_f7 h0_f8 h0_f9 (u.1) (u.2.1) (u.2.2) h0_f13 h0_f14 h0_15 h0_16 h0_f17 h0_18 h0_19 h0_20 h0_21 h0_22 h0_23 h0_24 h0_25 h0_f26 h0_f27 h0_f28 h0_f29 h0_f30 h0_f31 h0_32 h0_33 h0_f34 h0_35 h0_36 h0_37 h0_38 h0_39 h0_40 h0_f41 h0_f42 h0_f43 h0_f44 h0_45 h0_46 h0_47 h0_48 h0_49 h0_50 h0_f51 h0_52 h0_f53 h0_5 h0_5k tN h0_5c h0_4 h0_4k h0_4c) t.heap ∧ va_K (dC, dI) vwCl [] t ∧ va_D (va_A (wd_c_X12_atom h0 h0_f0 h0_1 h0_2 h0_3 h0_4 h0_5 h0_f6 h0_f7 h0_f8 h0_f9 h0_f10 (-1) 0 h0_f13 h0_f14 h0_15 h0_16 h0_f17 h0_18 h0_19 h0_20 h0_21 h0_22 h0_23 h0_24 h0_25 h0_f26 h0_f27 h0_f28 h0_f29 h0_f30 h0_f31 h0_32 h0_33 h0_f34 h0_35 h0_36 h0_37 h0_38 h0_39 h0_40 h0_f41 h0_f42 h0_f43 h0_f44 h0_45 h0_46 h0_47 h0_48 h0_49 h0_50 h0_f51 h0_52 h0_f53 h0_5 h0_5k tN h0_5c h0_4 h0_4k h0_4c) sz) (wd_c_X12_atom h0 h0_f0 h0_1 h0_2 h0_3 h0_4 h0_5 h0_f6 h0_f7 h0_f8 h0_f9 (u.1) (u.2.1) (u.2.2) h0_f13 h0_f14 h0_15 h0_16 h0_f17 h0_18 h0_19 h0_20 h0_21 h0_22 h0_23 h0_24 h0_25 h0_f26 h0_f27 h0_f28 h0_f29 h0_f30 h0_f31 h0_32 h0_33 h0_f34 h0_35 h0_36 h0_37 h0_38 h0_39 h0_40 h0_f41 h0_f42 h0_f43 h0_f44 h0_45 h0_46 h0_47 h0_48 h0_49 h0_50 h0_f51 h0_52 h0_f53 h0_5 h0_5k tN h0_5c h0_4 h0_4k h0_4c)) (va_A (wd_c_X12_atom h0 h0_f0 h0_1 h0_2 h0_3 h0_4 h0_5 h0_f6 h0_f7 h0_f8 h0_f9 h0_f10 (-1) 0 h0_f13 h0_f14 h0_15 h0_16 h0_f17 h0_18 h0_19 h0_20 h0_21 h0_22 h0_23 h0_24 h0_25 h0_f26 h0_f27 h0_f28 h0_f29 h0_f30 h0_f31 h0_32 h0_33 h0_f34 h0_35 h0_36 h0_37 h0_38 h0_39 h0_40 h0_f41 h0_f42 h0_f43 h0_f44 h0_45 h0_46 h0_47 h0_48 h0_49 h0_50 h0_f51 h0_52 h0_f53 h0_5 h0_5k tN h0_5c h0_4 h0_4k h0_4c) sz)) 0 0 (va_A (wd_c_X12_atom h0 h0_f0 h0_1 h0_2 h0_3 h0_4 h0_5 h0_f6 h0_f7 h0_f8 h0_f9 h0_f10 (-1) 0 h0_f13 h0_f14 h0_15 h0_16 h0_f17 h0_18 h0_19 h0_20 h0_21 h0_22 h0_23 h0_24 h0_25 h0_f26 h0_f27 h0_f28 h0_f29 h0_f30 h0_f31 h0_32 h0_33 h0_f34 h0_35 h0_36 h0_37 h0_38 h0_39 h0_40 h0_f41 h0_f42 h0_f43 h0_f44 h0_45 h0_46 h0_47 h0_48 h0_49 h0_50 h0_f51 h0_52 h0_f53 h0_5 h0_5k tN h0_5c h0_4 h0_4k h0_4c) sz) := by
  refine Met.ofW (cc := cX12_atom) (maxL := 4) (ret := (some .int)) (by decide +kernel) rfl ?_
  intro p e s m args below meth c s₁ B hml hv
  obtain ⟨rfl, hsz, hP, hK, hD0, hE_47, hE_50, hE_51, hE_10, hE_49, hE_48, hE_11⟩ := hv
  have hx := B.exec
  have hb := B.bytes
  have hr := B.returns
  have hts := atoms_spec (ws := wf_c_X12_atom) B.pre
  have hown : s.vm.findClass RX12 = some m.cls := findClass_of_methodNamed B.named
  have hlocks := B.notSynchronized
  subst hsz
  have hD := hD0.self (sz := s.heap.size)
  generalize hAe : va_A (wd_c_X12_atom h0 h0_f0 h0_1 h0_2 h0_3 h0_4 h0_5 h0_f6 h0_f7 h0_f8 h0_f9 h0_f10 (-1) 0 h0_f13 h0_f14 h0_15 h0_16 h0_f17 h0_18 h0_19 h0_20 h0_21 h0_22 h0_23 h0_24 h0_25 h0_f26 h0_f27 h0_f28 h0_f29 h0_f30 h0_f31 h0_32 h0_33 h0_f34 h0_35 h0_36 h0_37 h0_38 h0_39 h0_40 h0_f41 h0_f42 h0_f43 h0_f44 h0_45 h0_46 h0_47 h0_48 h0_49 h0_50 h0_f51 h0_52 h0_f53 h0_5 h0_5k tN h0_5c h0_4 h0_4k h0_4c) s.heap.size = A at hD hE_50 hE_51 hE_10 hE_49 hE_48 hE_11 ⊢
  have hA : ∀ q : Nat, s.heap.size ≤ q → A q := fun q h => by rw [← hAe]; exact Or.inr h
  have hP : va_P (dC, dI) vwCl (wd_c_X12_atom h0 h0_f0 h0_1 h0_2 h0_3 h0_4 h0_5 h0_f6 h0_f7 h0_f8 h0_f9 h0_f10 (-1) 0 h0_f13 h0_f14 h0_15 h0_16 h0_f17 h0_18 h0_19 h0_20 h0_21 h0_22 h0_23 h0_24 h0_25 h0_f26 h0_f27 h0_f28 h0_f29 h0_f30 h0_f31 h0_32 h0_33 h0_f34 h0_35 h0_36 h0_37 h0_38 h0_39 h0_40 h0_f41 h0_f42 h0_f43 h0_f44 h0_45 h0_46 h0_47 h0_48 h0_49 h0_50 h0_f51 h0_52 h0_f53 h0_5 h0_5k tN h0_5c h0_4 h0_4k h0_4c) s.heap := hP
  have hl := lv_entry ([.ref h0]) (n := 4) (Nat.le_of_ble_eq_true rfl)
  rw [lg_entry_eq]
  generalize (lg_sl ([.ref h0]) ++ List.replicate (4 - (lg_sl ([.ref h0])).length) Slot.unset).toArray = ls at hl ⊢
  have hl : lv_has ls 4 [(0, .ref h0)] := hl
  obtain ⟨H, hHe⟩ : ∃ H : Heap, s.heap = H := ⟨_, rfl⟩
  have hS : va_S A s.heap H [] := by rw [hHe]; exact va_S.rf
  have hP : va_P (dC, dI) vwCl (wd_c_X12_atom h0 h0_f0 h0_1 h0_2 h0_3 h0_4 h0_5 h0_f6 h0_f7 h0_f8 h0_f9 h0_f10 (-1) 0 h0_f13 h0_f14 h0_15 h0_16 h0_f17 h0_18 h0_19 h0_20 h0_21 h0_22 h0_23 h0_24 h0_25 h0_f26 h0_f27 h0_f28 h0_f29 h0_f30 h0_f31 h0_32 h0_33 h0_f34 h0_35 h0_36 h0_37 h0_38 h0_39 h0_40 h0_f41 h0_f42 h0_f43 h0_f44 h0_45 h0_46 h0_47 h0_48 h0_49 h0_50 h0_f51 h0_52 h0_f53 h0_5 h0_5k tN h0_5c h0_4 h0_4k h0_4c) H := by rw [← hHe]; exact hP
  rw [hHe]
  obtain ⟨RES, hR⟩ : ∃ z, fx_c_X12_atom h0_f8 h0_f9 h0_f10 h0_5c h0_4c = z := ⟨_, rfl⟩
  have hEX : RES = fx_c_X12_atom h0_f8 h0_f9 h0_f10 h0_5c h0_4c := hR.symm
  refine wj (fun G hG hU => ?_)
  as_aux_lemma =>
  have J90 : ∀ (n90 : Nat) (j90_l3 : Int32) (j90_l2 : Int32) (j90_h0_f10 : Int32) (hM90 : MU j90_h0_f10 < n90) (g_h0_f10 : RG h0_f10 0 240) (g_h0_f17 : RG h0_f17 0 1) (g_h0_f26 : RG h0_f26 0 8) (g_h0_f27 : RG h0_f27 0 3) (g_h0_f28 : RG h0_f28 0 8) (g_h0_f29 : RG h0_f29 0 3) (g_h0_f30 : RG h0_f30 0 4) (g_h0_f31 : RG h0_f31 0 1) (g_h0_f34 : RG h0_f34 (-1) 3) (g_h0_f41 : RG h0_f41 0 40) (g_h0_f51 : RG h0_f51 0 10) (g_h0_f53 : RG h0_f53 0 1) (g_h0_f6 : RG h0_f6 0 240) (g_h0_f7 : RG h0_f7 0 4) (g_h0_f8 : RG h0_f8 0 720) (g_h0_f9 : RG h0_f9 1 240) (g_j90_h0_f10 : RG j90_h0_f10 0 240) (r_h0_f10_j90_h0_f10 : h0_f10.toInt + 0 ≤ j90_h0_f10.toInt) (hEX : RES = fx_c_X12_atom_p90 h0_f8 h0_f9 h0_5c n90 j90_l3 j90_l2 j90_h0_f10) (H : Heap) (locs : List Loc) (ls : Array Slot) (hP : va_P (dC, dI) vwCl (wd_c_X12_atom h0 h0_f0 h0_1 h0_2 h0_3 h0_4 h0_5 h0_f6 h0_f7 h0_f8 h0_f9 j90_h0_f10 (-1) 0 h0_f13 h0_f14 h0_15 h0_16 h0_f17 h0_18 h0_19 h0_20 h0_21 h0_22 h0_23 h0_24 h0_25 h0_f26 h0_f27 h0_f28 h0_f29 h0_f30 h0_f31 h0_32 h0_33 h0_f34 h0_35 h0_36 h0_37 h0_38 h0_39 h0_40 h0_f41 h0_f42 h0_f43 h0_f44 h0_45 h0_46 h0_47 h0_48 h0_49 h0_50 h0_f51 h0_52 h0_f53 h0_5 h0_5k tN h0_5c h0_4 h0_4k h0_4c) H) (hD : va_D A (wd_c_X12_atom h0 h0_f0 h0_1 h0_2 h0_3 h0_4 h0_5 h0_f6 h0_f7 h0_f8 h0_f9 j90_h0_f10 (-1) 0 h0_f13 h0_f14 h0_15 h0_16 h0_f17 h0_18 h0_19 h0_20 h0_21 h0_22 h0_23 h0_24 h0_25 h0_f26 h0_f27 h0_f28 h0_f29 h0_f30 h0_f31 h0_32 h0_33 h0_f34 h0_35 h0_36 h0_37 h0_38 h0_39 h0_40 h0_f41 h0_f42 h0_f43 h0_f44 h0_45 h0_46 h0_47 h0_48 h0_49 h0_50 h0_f51 h0_52 h0_f53 h0_5 h0_5k tN h0_5c h0_4 h0_4k h0_4c)) (hS : va_S A s.heap H locs) (hl : lv_has ls 4 [(3, .int j90_l3), (2, .int j90_l2), (0, .ref h0)]), G H locs (F0 m 90 ls []) := by
    as_aux_lemma =>
    intro n90
    induction n90 with
    | zero => intros; exact absurd (by assumption) (Nat.not_lt_zero _)
    | succ n90 ih90 =>
      intro j90_l3 j90_l2 j90_h0_f10 hM90 g_h0_f10 g_h0_f17 g_h0_f26 g_h0_f27 g_h0_f28 g_h0_f29 g_h0_f30 g_h0_f31 g_h0_f34 g_h0_f41 g_h0_f51 g_h0_f53 g_h0_f6 g_h0_f7 g_h0_f8 g_h0_f9 g_j90_h0_f10 r_h0_f10_j90_h0_f10 hEX H locs ls hP hD hS hl
      refine hG _ _ _ ?_
      replace hEX := hEX.trans (if_pos (rfl : j90_l3 = j90_l3))
      refine lv_aload_n hx hb dX12_atom_90 rfl (lv_at hl 2 rfl) ?_
      obtain ⟨hPc, hDc, hFc, hqc⟩ := cl_cut (wc := (wd_c_X12_isDigit h0 h0_f0 h0_1 h0_2 h0_3 h0_4 h0_5 h0_f6 h0_f7 h0_f8 h0_f9 j90_h0_f10 (-1) 0 h0_f13 h0_f14 h0_15 h0_16 h0_f17 h0_18 h0_19 h0_20 h0_21 h0_22 h0_23 h0_24 h0_25 h0_f26 h0_f27 h0_f28 h0_f29 h0_f30 h0_f31 h0_32 h0_33 h0_f34 h0_35 h0_36 h0_37 h0_38 h0_39 h0_40 h0_f41 h0_f42 h0_f43 h0_f44 h0_45 h0_46 h0_47 h0_48 h0_49 h0_50 h0_f51 h0_52 h0_f53 h0_5 h0_5k tN h0_5c)) hP hD hS hA [0, 1] (by decide +kernel) rfl
      have hKc := hK.sub (tys' := [(h0_5k, .byte)]) [0] rfl
      have hrv := va_recv hKc hPc (ci := 12) (q0 := 0) rfl rfl
      refine va_calli (va_runV (As := []) (rest := []) ⟨hx, hb, hml, hown, hts⟩ (c_X12_isDigit l dC dI H.size h0 h0_f0 h0_1 h0_2 h0_3 h0_4 h0_5 h0_f6 h0_f7 h0_f8 h0_f9 j90_h0_f10 0 h0_f13 h0_f14 h0_15 h0_16 h0_f17 h0_18 h0_19 h0_20 h0_21 h0_22 h0_23 h0_24 h0_25 h0_f26 h0_f27 h0_f28 h0_f29 h0_f30 h0_f31 h0_32 h0_33 h0_f34 h0_35 h0_36 h0_37 h0_38 h0_39 h0_40 h0_f41 h0_f42 h0_f43 h0_f44 h0_45 h0_46 h0_47 h0_48 h0_49 h0_50 h0_f51 h0_52 h0_f53 h0_5k h0_5c tN g_h0_f6 g_h0_f7 g_h0_f8 (RG_w g_h0_f9 (by decide +kernel)) g_j90_h0_f10 g_h0_f17 g_h0_f26 g_h0_f27 g_h0_f28 g_h0_f29 g_h0_f30 g_h0_f31 g_h0_f34 g_h0_f41 g_h0_f51 g_h0_f53 htN) (cwV 0 hts gf_c_X12_atom_c_X12_isDigit rfl rfl rfl mdV_X12_isDigit ⟨Nat.le_of_ble_eq_true rfl, Nat.le_of_ble_eq_true rfl⟩) ⟨fun a U g mk q => by obtain ⟨q0, q1, qP, qK, qD⟩ := q; exact ⟨q0, q1, qP, va_K.moved (u := U) (U := U.calling g mk a) (Vm.Alike.refl U.vm) qK, qD⟩, hrv, fun U hU hW => ⟨rfl, by rw [hU], by rw [hU]; exact hPc, va_K.moved hW.alike hKc, hDc.weaken (fun _ _ _ _ => trivial)⟩⟩ rfl rfl hl.1 rfl (lv_room (Nat.le_of_ble_eq_true rfl)) dX12_atom_91 ⟨Nat.le_of_ble_eq_true rfl, Nat.le_of_ble_eq_true rfl⟩) hS (fun q _ h => hFc q h) hFc (fun r_1 u t H1 locs ht hvm hw hB hz1 hk1 hS => ?_)
      obtain ⟨hP1, hK1, hD1⟩ := hB
      rw [ht] at hP1
      obtain ⟨hP, hD⟩ := cl_put (w1 := (wd_c_X12_isDigit h0 h0_f0 h0_1 h0_2 h0_3 h0_4 h0_5 h0_f6 h0_f7 h0_f8 h0_f9 j90_h0_f10 (-1) 0 h0_f13 h0_f14 h0_15 h0_16 h0_f17 h0_18 h0_19 h0_20 h0_21 h0_22 h0_23 h0_24 h0_25 h0_f26 h0_f27 h0_f28 h0_f29 h0_f30 h0_f31 h0_32 h0_33 h0_f34 h0_35 h0_36 h0_37 h0_38 h0_39 h0_40 h0_f41 h0_f42 h0_f43 h0_f44 h0_45 h0_46 h0_47 h0_48 h0_49 h0_50 h0_f51 h0_52 h0_f53 h0_5 h0_5k tN h0_5c)) (nw := (wd_c_X12_atom h0 h0_f0 h0_1 h0_2 h0_3 h0_4 h0_5 h0_f6 h0_f7 h0_f8 h0_f9 j90_h0_f10 (-1) 0 h0_f13 h0_f14 h0_15 h0_16 h0_f17 h0_18 h0_19 h0_20 h0_21 h0_22 h0_23 h0_24 h0_25 h0_f26 h0_f27 h0_f28 h0_f29 h0_f30 h0_f31 h0_32 h0_33 h0_f34 h0_35 h0_36 h0_37 h0_38 h0_39 h0_40 h0_f41 h0_f42 h0_f43 h0_f44 h0_45 h0_46 h0_47 h0_48 h0_49 h0_50 h0_f51 h0_52 h0_f53 h0_5 h0_5k tN h0_5c h0_4 h0_4k h0_4c)) hP hD [0, 1] [3, 4, 2] 3 rfl hqc (by decide +kernel) rfl hk1 hFc hP1 hD1
      generalize H1 = H at hP hS ⊢
      as_aux_lemma =>
      rcases hw with ⟨h_2, h_3, h_4⟩ | ⟨h_5, h_6, h_7, h_8, h_9, h_10⟩
      · have h_4 : r_1 = _ := h_4
        replace hEX := hEX.trans (exc1_eq h_4)
        replace hEX := hEX.trans (if_pos (show r_1 = 0 from h_2))
        rw [h_2]
        refine lv_if_eq (tgt := 156) hx hb dX12_atom_94 rfl (fun c_11 => ?_) (fun c_11 => absurd c_11 (by decide +kernel))
        refine lv_iload_n hx hb dX12_atom_156 rfl (lv_at hl 1 rfl) ?_
        have hK9 := hK.sub (tys' := []) [] rfl
        exact W.iret (v := j90_l2) hx hb hr (fun t ht hW => ⟨⟨j90_l2, (j90_h0_f10, (-1), 0), rfl, (Or.inl ⟨(RG_any j90_l2), g_j90_h0_f10, rfl, rfl, g_h0_f9, (by have := r_h0_f10_j90_h0_f10; show h0_f10.toInt + 0 ≤ j90_h0_f10.toInt; omega), (hR.trans hEX).symm⟩), by rw [ht]; exact hP, va_K.moved hW.alike hK9, hD⟩, hS.F ht⟩) hS.2.2 dX12_atom_157
      · have h_10 : r_1 = _ := h_10
        replace hEX := hEX.trans (exc1_eq h_10)
        replace hEX := hEX.trans (if_neg (fun q9 : r_1 = 0 => absurd ((show r_1 = 1 from h_5).symm.trans q9) (by decide +kernel)))
        rw [h_5]
        have g_12 := h_9 h_5
        refine lv_if_eq (tgt := 156) hx hb dX12_atom_94 rfl (fun c_13 => absurd c_13 (by decide +kernel)) (fun c_13 => ?_)
        as_aux_lemma =>
        refine lv_aload_n hx hb dX12_atom_97 rfl (lv_at hl 2 rfl) ?_
        refine va_get (D := (dC, dI)) (ci := 12) (v := .int (-1)) (C := RX12) (T := TX12) (N := 54) hx hb hts iw_c_X12_atom_X12 hown hK hP 0 rfl rfl 11 (by decide +kernel) (hts (.fieldLink RX12 143 "BuoyVoteModel" "fault" "I") (List.mem_of_getElem? (i := 53) rfl)) (fun _ h9 => h9) rfl dX12_atom_98 ?_
        refine lv_iconst (v := (-1)) hx hb dX12_atom_101 kc_iconst_m1 ?_
        refine lv_icmp_ne (tgt := 156) hx hb dX12_atom_102 rfl (fun c_14 => absurd c_14 (by decide +kernel)) (fun c_14 => ?_)
        refine lv_iload_n hx hb dX12_atom_105 rfl (lv_at hl 0 rfl) ?_
        refine lv_iconst (v := 4) hx hb dX12_atom_106 kc_iconst_4 ?_
        refine lv_icmp_ne (tgt := 117) hx hb dX12_atom_107 rfl (fun c_15 => ?_) (fun c_15 => ?_)
        · replace hEX := hEX.trans (if_neg c_15)
          refine lv_bipush (v := 10) hx hb dX12_atom_117 kc_bipush_10 ?_
          refine lv_iload_n hx hb dX12_atom_119 rfl (lv_at hl 1 rfl) ?_
          refine lv_imul hx hb dX12_atom_120 ?_
          refine lv_topi (fun x_16 ex_16 => ?_)
          replace hEX := hEX.trans (exl_eq ex_16)
          refine lv_aload_n hx hb dX12_atom_121 rfl (lv_at hl 2 rfl) ?_
          as_aux_lemma =>
          refine va_get (D := (dC, dI)) (ci := 12) (v := .ref h0_5) (C := RX12) (T := TX12) (N := 54) hx hb hts iw_c_X12_atom_X12 hown hK hP 0 rfl rfl 5 (by decide +kernel) (hts (.fieldLink RX12 23 "BuoyVoteModel" "text" "[B") (List.mem_of_getElem? (i := 8) rfl)) (fun _ h9 => h9) rfl dX12_atom_122 ?_
          refine lv_aload_n hx hb dX12_atom_125 rfl (lv_at hl 2 rfl) ?_
          refine va_get (D := (dC, dI)) (ci := 12) (v := .int h0_f8) (C := RX12) (T := TX12) (N := 54) hx hb hts iw_c_X12_atom_X12 hown hK hP 0 rfl rfl 8 (by decide +kernel) (hts (.fieldLink RX12 140 "BuoyVoteModel" "begins" "I") (List.mem_of_getElem? (i := 9) rfl)) (fun _ h9 => h9) rfl dX12_atom_126 ?_
          refine lv_aload_n hx hb dX12_atom_129 rfl (lv_at hl 2 rfl) ?_
          refine va_get (D := (dC, dI)) (ci := 12) (v := .int j90_h0_f10) (C := RX12) (T := TX12) (N := 54) hx hb hts iw_c_X12_atom_X12 hown hK hP 0 rfl rfl 10 (by decide +kernel) (hts (.fieldLink RX12 134 "BuoyVoteModel" "at" "I") (List.mem_of_getElem? (i := 6) rfl)) (fun _ h9 => h9) rfl dX12_atom_130 ?_
          refine lv_iadd hx hb dX12_atom_133 ?_
          refine lv_topi (fun x_17 ex_17 => ?_)
          replace hEX := hEX.trans (exl_eq ex_17)
          have g_18 : RG x_17 0 959 := RG_add ex_17 g_h0_f8 h_6 (by decide +kernel)
          refine va_bald hx hb hK hP 1 0 rfl rfl (vp_in_iff.mpr ⟨by have := (g_18).1; omega, by have := eq_add2 ex_17 g_h0_f8 h_6 (by decide +kernel); have := htN; have := (h_6).2; omega⟩) dX12_atom_134 ?_
          refine lv_topi (fun x_19 ex_19 => ?_)
          replace hEX := hEX.trans (exl_eq ex_19)
          refine lv_iadd hx hb dX12_atom_135 ?_
          refine lv_topi (fun x_20 ex_20 => ?_)
          as_aux_lemma =>
          replace hEX := hEX.trans (exl_eq ex_20)
          refine lv_bipush (v := 48) hx hb dX12_atom_136 kc_bipush_48 ?_
          refine lv_isub hx hb dX12_atom_138 ?_
          refine lv_topi (fun x_21 ex_21 => ?_)
          replace hEX := hEX.trans (exl_eq ex_21)
          refine lv_istore_n (lv' := [(2, .int x_21), (3, .int j90_l3), (0, .ref h0)]) hx hb dX12_atom_139 rfl hl (Nat.le_of_ble_eq_true rfl) rfl (fun ls hl => ?_)
          refine lv_aload_n hx hb dX12_atom_140 rfl (lv_at hl 2 rfl) ?_
          refine lv_dup hx hb dX12_atom_141 rfl ?_
          refine va_get (D := (dC, dI)) (ci := 12) (v := .int j90_h0_f10) (C := RX12) (T := TX12) (N := 54) hx hb hts iw_c_X12_atom_X12 hown hK hP 0 rfl rfl 10 (by decide +kernel) (hts (.fieldLink RX12 134 "BuoyVoteModel" "at" "I") (List.mem_of_getElem? (i := 6) rfl)) (fun _ h9 => h9) rfl dX12_atom_142 ?_
          refine lv_iconst (v := 1) hx hb dX12_atom_145 kc_iconst_1 ?_
          refine lv_iadd hx hb dX12_atom_146 ?_
          refine lv_topi (fun x_22 ex_22 => ?_)
          replace hEX := hEX.trans (exl_eq ex_22)
          have g_23 : RG x_22 1 240 := RG_add ex_22 h_6 (RG_k 1 1 rfl) (by decide +kernel)
          have q_24 : x_22.toInt = j90_h0_f10.toInt + 1 := eq_add ex_22 h_6 (q := 1) rfl (by decide +kernel)
          refine va_put (D := (dC, dI)) (ci := 12) (v := .int x_22) (ty := .int) (C := RX12) (T := TX12) (N := 54) hx hb hts iw_c_X12_atom_X12 tyX12 tyX12_ok nmX12 hown hK hP hD hS 0 rfl rfl 10 (by decide +kernel) (hts (.fieldLink RX12 134 "BuoyVoteModel" "at" "I") (List.mem_of_getElem? (i := 6) rfl)) (fun _ h9 => h9) rfl (by decide +kernel) rfl rfl (Nat.le_of_ble_eq_true rfl) dX12_atom_147 (fun H locs hP hD hS => ?_)
          as_aux_lemma =>
          have hP : va_P (dC, dI) vwCl (wd_c_X12_atom h0 h0_f0 h0_1 h0_2 h0_3 h0_4 h0_5 h0_f6 h0_f7 h0_f8 h0_f9 x_22 (-1) 0 h0_f13 h0_f14 h0_15 h0_16 h0_f17 h0_18 h0_19 h0_20 h0_21 h0_22 h0_23 h0_24 h0_25 h0_f26 h0_f27 h0_f28 h0_f29 h0_f30 h0_f31 h0_32 h0_33 h0_f34 h0_35 h0_36 h0_37 h0_38 h0_39 h0_40 h0_f41 h0_f42 h0_f43 h0_f44 h0_45 h0_46 h0_47 h0_48 h0_49 h0_50 h0_f51 h0_52 h0_f53 h0_5 h0_5k tN h0_5c h0_4 h0_4k h0_4c) H := hP
          have hD : va_D A (wd_c_X12_atom h0 h0_f0 h0_1 h0_2 h0_3 h0_4 h0_5 h0_f6 h0_f7 h0_f8 h0_f9 x_22 (-1) 0 h0_f13 h0_f14 h0_15 h0_16 h0_f17 h0_18 h0_19 h0_20 h0_21 h0_22 h0_23 h0_24 h0_25 h0_f26 h0_f27 h0_f28 h0_f29 h0_f30 h0_f31 h0_32 h0_33 h0_f34 h0_35 h0_36 h0_37 h0_38 h0_39 h0_40 h0_f41 h0_f42 h0_f43 h0_f44 h0_45 h0_46 h0_47 h0_48 h0_49 h0_50 h0_f51 h0_52 h0_f53 h0_5 h0_5k tN h0_5c h0_4 h0_4k h0_4c) := hD
          obtain ⟨x_25, ex_25⟩ : ∃ y : Int32, y = j90_l3 + 1 := ⟨_, rfl⟩
          replace hEX := hEX.trans (exl_eq ex_25)
          refine lv_iinc (v := x_25) (lv' := [(3, .int x_25), (2, .int x_21), (0, .ref h0)]) hx hb dX12_atom_150 hl (k := 1) rfl (by rw [ex_25]; rfl) (Nat.le_of_ble_eq_true rfl) rfl (fun ls hl => ?_)
          refine lv_goto (tgt := 90) hx hb dX12_atom_153 rfl ?_
          exact hU _ _ _ (ih90 x_25 x_21 x_22 (mu_s (MU_add ex_22 h_6 (q := 1) rfl (by decide +kernel)) hM90) g_h0_f10 g_h0_f17 g_h0_f26 g_h0_f27 g_h0_f28 g_h0_f29 g_h0_f30 g_h0_f31 g_h0_f34 g_h0_f41 g_h0_f51 g_h0_f53 g_h0_f6 g_h0_f7 g_h0_f8 g_h0_f9 (RG_w g_23 (by decide +kernel)) (by have := r_h0_f10_j90_h0_f10; have := q_24; omega) hEX _ _ _ hP hD hS (lv_sub hl [0, 1, 2] rfl))
        · replace hEX := hEX.trans (if_pos c_15)
          have g_26 : RG j90_l3 4 4 := RG_eq1 (RG_any j90_l3) (RG_k 4 4 rfl) c_15 (by decide +kernel)
          refine lv_aload_n hx hb dX12_atom_110 rfl (lv_at hl 2 rfl) ?_
          obtain ⟨hPc, hDc, hFc, hqc⟩ := cl_cut (wc := (wd_c_X12_fails h0 h0_f0 h0_1 h0_2 h0_3 h0_4 h0_5 h0_f6 h0_f7 h0_f8 h0_f9 j90_h0_f10 (-1) 0 h0_f13 h0_f14 h0_15 h0_16 h0_f17 h0_18 h0_19 h0_20 h0_21 h0_22 h0_23 h0_24 h0_25 h0_f26 h0_f27 h0_f28 h0_f29 h0_f30 h0_f31 h0_32 h0_33 h0_f34 h0_35 h0_36 h0_37 h0_38 h0_39 h0_40 h0_f41 h0_f42 h0_f43 h0_f44 h0_45 h0_46 h0_47 h0_48 h0_49 h0_50 h0_f51 h0_52 h0_f53)) hP hD hS hA [0] (by decide +kernel) rfl
          have hKc := hK.sub (tys' := []) [] rfl
          have hrv := va_recv hKc hPc (ci := 12) (q0 := 0) rfl rfl
          refine va_calli (va_runV (As := []) (rest := []) ⟨hx, hb, hml, hown, hts⟩ (c_X12_fails l dC dI H.size h0 h0_f0 h0_1 h0_2 h0_3 h0_4 h0_5 h0_f6 h0_f7 h0_f8 h0_f9 j90_h0_f10 0 h0_f13 h0_f14 h0_15 h0_16 h0_f17 h0_18 h0_19 h0_20 h0_21 h0_22 h0_23 h0_24 h0_25 h0_f26 h0_f27 h0_f28 h0_f29 h0_f30 h0_f31 h0_32 h0_33 h0_f34 h0_35 h0_36 h0_37 h0_38 h0_39 h0_40 h0_f41 h0_f42 h0_f43 h0_f44 h0_45 h0_46 h0_47 h0_48 h0_49 h0_50 h0_f51 h0_52 h0_f53 g_h0_f6 g_h0_f7 g_h0_f8 (RG_w g_h0_f9 (by decide +kernel)) (RG_w h_6 (by decide +kernel)) g_h0_f17 g_h0_f26 g_h0_f27 g_h0_f28 g_h0_f29 g_h0_f30 g_h0_f31 g_h0_f34 g_h0_f41 g_h0_f51 g_h0_f53) (cwV 0 hts gf_c_X12_atom_c_X12_fails rfl rfl rfl mdV_X12_fails ⟨Nat.le_of_ble_eq_true rfl, Nat.le_of_ble_eq_true rfl⟩) ⟨fun a U g mk q => by obtain ⟨q0, q1, qP, qK, qD⟩ := q; exact ⟨q0, q1, qP, va_K.moved (u := U) (U := U.calling g mk a) (Vm.Alike.refl U.vm) qK, qD⟩, hrv, fun U hU hW => ⟨rfl, by rw [hU], by rw [hU]; exact hPc, va_K.moved hW.alike hKc, hDc.weaken (fun _ _ _ _ => trivial)⟩⟩ rfl rfl hl.1 rfl (lv_room (Nat.le_of_ble_eq_true rfl)) dX12_atom_111 ⟨Nat.le_of_ble_eq_true rfl, Nat.le_of_ble_eq_true rfl⟩) hS (fun q _ h => hFc q h) hFc (fun r_27 u t H1 locs ht hvm hw hB hz1 hk1 hS => ?_)
          as_aux_lemma =>
          obtain ⟨hP1, hK1, hD1⟩ := hB
          rw [ht] at hP1
          obtain ⟨hP, hD⟩ := cl_put (w1 := (wd_c_X12_fails h0 h0_f0 h0_1 h0_2 h0_3 h0_4 h0_5 h0_f6 h0_f7 h0_f8 h0_f9 j90_h0_f10 j90_h0_f10 0 h0_f13 h0_f14 h0_15 h0_16 h0_f17 h0_18 h0_19 h0_20 h0_21 h0_22 h0_23 h0_24 h0_25 h0_f26 h0_f27 h0_f28 h0_f29 h0_f30 h0_f31 h0_32 h0_33 h0_f34 h0_35 h0_36 h0_37 h0_38 h0_39 h0_40 h0_f41 h0_f42 h0_f43 h0_f44 h0_45 h0_46 h0_47 h0_48 h0_49 h0_50 h0_f51 h0_52 h0_f53)) (nw := (wd_c_X12_atom h0 h0_f0 h0_1 h0_2 h0_3 h0_4 h0_5 h0_f6 h0_f7 h0_f8 h0_f9 j90_h0_f10 j90_h0_f10 0 h0_f13 h0_f14 h0_15 h0_16 h0_f17 h0_18 h0_19 h0_20 h0_21 h0_22 h0_23 h0_24 h0_25 h0_f26 h0_f27 h0_f28 h0_f29 h0_f30 h0_f31 h0_32 h0_33 h0_f34 h0_35 h0_36 h0_37 h0_38 h0_39 h0_40 h0_f41 h0_f42 h0_f43 h0_f44 h0_45 h0_46 h0_47 h0_48 h0_49 h0_50 h0_f51 h0_52 h0_f53 h0_5 h0_5k tN h0_5c h0_4 h0_4k h0_4c)) hP hD [0] [3, 1, 2] 3 rfl hqc (by decide +kernel) rfl hk1 hFc hP1 hD1
          generalize H1 = H at hP hS ⊢
          as_aux_lemma =>
          rcases hw with ⟨h_28, h_29⟩
          have h_29 : r_27 = _ := h_29
          replace hEX := hEX.trans (exc1_eq h_29)
          rw [h_28]
          refine lv_pop hx hb dX12_atom_114 rfl ?_
          refine lv_iconst (v := 0) hx hb dX12_atom_115 kc_iconst_0 ?_
          have hK9 := hK.sub (tys' := []) [] rfl
          exact W.iret (v := 0) hx hb hr (fun t ht hW => ⟨⟨0, (j90_h0_f10, j90_h0_f10, 0), rfl, (Or.inr ⟨rfl, (RG_w h_6 (by decide +kernel)), (RG_w h_6 (by decide +kernel)), (RG_w (RG_k 0 0 rfl) (by decide +kernel)), (by have := r_h0_f10_j90_h0_f10; show h0_f10.toInt + 0 ≤ j90_h0_f10.toInt; omega), (hR.trans hEX).symm⟩), by rw [ht]; exact hP, va_K.moved hW.alike hK9, hD⟩, hS.F ht⟩) hS.2.2 dX12_atom_116
  have J86b : ∀ (j86b_h0_f10 : Int32) (g_h0_f10 : RG h0_f10 0 240) (g_h0_f17 : RG h0_f17 0 1) (g_h0_f26 : RG h0_f26 0 8) (g_h0_f27 : RG h0_f27 0 3) (g_h0_f28 : RG h0_f28 0 8) (g_h0_f29 : RG h0_f29 0 3) (g_h0_f30 : RG h0_f30 0 4) (g_h0_f31 : RG h0_f31 0 1) (g_h0_f34 : RG h0_f34 (-1) 3) (g_h0_f41 : RG h0_f41 0 40) (g_h0_f51 : RG h0_f51 0 10) (g_h0_f53 : RG h0_f53 0 1) (g_h0_f6 : RG h0_f6 0 240) (g_h0_f7 : RG h0_f7 0 4) (g_h0_f8 : RG h0_f8 0 720) (g_h0_f9 : RG h0_f9 1 240) (g_j86b_h0_f10 : RG j86b_h0_f10 0 239) (r_h0_f10_j86b_h0_f10 : h0_f10.toInt + 0 ≤ j86b_h0_f10.toInt) (hEX : RES = fx_c_X12_atom_p86b h0_f8 h0_f9 h0_5c j86b_h0_f10) (H : Heap) (locs : List Loc) (ls : Array Slot) (hP : va_P (dC, dI) vwCl (wd_c_X12_atom h0 h0_f0 h0_1 h0_2 h0_3 h0_4 h0_5 h0_f6 h0_f7 h0_f8 h0_f9 j86b_h0_f10 (-1) 0 h0_f13 h0_f14 h0_15 h0_16 h0_f17 h0_18 h0_19 h0_20 h0_21 h0_22 h0_23 h0_24 h0_25 h0_f26 h0_f27 h0_f28 h0_f29 h0_f30 h0_f31 h0_32 h0_33 h0_f34 h0_35 h0_36 h0_37 h0_38 h0_39 h0_40 h0_f41 h0_f42 h0_f43 h0_f44 h0_45 h0_46 h0_47 h0_48 h0_49 h0_50 h0_f51 h0_52 h0_f53 h0_5 h0_5k tN h0_5c h0_4 h0_4k h0_4c) H) (hD : va_D A (wd_c_X12_atom h0 h0_f0 h0_1 h0_2 h0_3 h0_4 h0_5 h0_f6 h0_f7 h0_f8 h0_f9 j86b_h0_f10 (-1) 0 h0_f13 h0_f14 h0_15 h0_16 h0_f17 h0_18 h0_19 h0_20 h0_21 h0_22 h0_23 h0_24 h0_25 h0_f26 h0_f27 h0_f28 h0_f29 h0_f30 h0_f31 h0_32 h0_33 h0_f34 h0_35 h0_36 h0_37 h0_38 h0_39 h0_40 h0_f41 h0_f42 h0_f43 h0_f44 h0_45 h0_46 h0_47 h0_48 h0_49 h0_50 h0_f51 h0_52 h0_f53 h0_5 h0_5k tN h0_5c h0_4 h0_4k h0_4c)) (hS : va_S A s.heap H locs) (hl : lv_has ls 4 [(0, .ref h0)]), G H locs (F0 m 86 ls []) := by
    as_aux_lemma =>
    intro j86b_h0_f10 g_h0_f10 g_h0_f17 g_h0_f26 g_h0_f27 g_h0_f28 g_h0_f29 g_h0_f30 g_h0_f31 g_h0_f34 g_h0_f41 g_h0_f51 g_h0_f53 g_h0_f6 g_h0_f7 g_h0_f8 g_h0_f9 g_j86b_h0_f10 r_h0_f10_j86b_h0_f10 hEX H locs ls hP hD hS hl
    refine hG _ _ _ ?_
    refine lv_iconst (v := 0) hx hb dX12_atom_86 kc_iconst_0 ?_
    refine lv_istore_n (lv' := [(2, .int 0), (0, .ref h0)]) hx hb dX12_atom_87 rfl hl (Nat.le_of_ble_eq_true rfl) rfl (fun ls hl => ?_)
    refine lv_iconst (v := 0) hx hb dX12_atom_88 kc_iconst_0 ?_
    refine lv_istore_n (lv' := [(3, .int 0), (2, .int 0), (0, .ref h0)]) hx hb dX12_atom_89 rfl hl (Nat.le_of_ble_eq_true rfl) rfl (fun ls hl => ?_)
    exact hU _ _ _ (J90 exF 0 0 j86b_h0_f10 MU_F g_h0_f10 g_h0_f17 g_h0_f26 g_h0_f27 g_h0_f28 g_h0_f29 g_h0_f30 g_h0_f31 g_h0_f34 g_h0_f41 g_h0_f51 g_h0_f53 g_h0_f6 g_h0_f7 g_h0_f8 g_h0_f9 (RG_w g_j86b_h0_f10 (by decide +kernel)) (by have := r_h0_f10_j86b_h0_f10; omega) hEX _ _ _ hP hD hS (lv_sub hl [0, 1, 2] rfl))
  have J90b : ∀ (j90b_h0_f10 : Int32) (j90b_h0_f11 : Int32) (g_h0_f10 : RG h0_f10 0 240) (g_h0_f17 : RG h0_f17 0 1) (g_h0_f26 : RG h0_f26 0 8) (g_h0_f27 : RG h0_f27 0 3) (g_h0_f28 : RG h0_f28 0 8) (g_h0_f29 : RG h0_f29 0 3) (g_h0_f30 : RG h0_f30 0 4) (g_h0_f31 : RG h0_f31 0 1) (g_h0_f34 : RG h0_f34 (-1) 3) (g_h0_f41 : RG h0_f41 0 40) (g_h0_f51 : RG h0_f51 0 10) (g_h0_f53 : RG h0_f53 0 1) (g_h0_f6 : RG h0_f6 0 240) (g_h0_f7 : RG h0_f7 0 4) (g_h0_f8 : RG h0_f8 0 720) (g_h0_f9 : RG h0_f9 0 240) (g_j90b_h0_f10 : RG j90b_h0_f10 0 240) (g_j90b_h0_f11 : RG j90b_h0_f11 0 240) (r_h0_f10_j90b_h0_f10 : h0_f10.toInt + 0 ≤ j90b_h0_f10.toInt) (hEX : RES = fx_c_X12_atom_p90b h0_f8 h0_f9 h0_5c j90b_h0_f10 j90b_h0_f11) (H : Heap) (locs : List Loc) (ls : Array Slot) (hP : va_P (dC, dI) vwCl (wd_c_X12_atom h0 h0_f0 h0_1 h0_2 h0_3 h0_4 h0_5 h0_f6 h0_f7 h0_f8 h0_f9 j90b_h0_f10 j90b_h0_f11 0 h0_f13 h0_f14 h0_15 h0_16 h0_f17 h0_18 h0_19 h0_20 h0_21 h0_22 h0_23 h0_24 h0_25 h0_f26 h0_f27 h0_f28 h0_f29 h0_f30 h0_f31 h0_32 h0_33 h0_f34 h0_35 h0_36 h0_37 h0_38 h0_39 h0_40 h0_f41 h0_f42 h0_f43 h0_f44 h0_45 h0_46 h0_47 h0_48 h0_49 h0_50 h0_f51 h0_52 h0_f53 h0_5 h0_5k tN h0_5c h0_4 h0_4k h0_4c) H) (hD : va_D A (wd_c_X12_atom h0 h0_f0 h0_1 h0_2 h0_3 h0_4 h0_5 h0_f6 h0_f7 h0_f8 h0_f9 j90b_h0_f10 j90b_h0_f11 0 h0_f13 h0_f14 h0_15 h0_16 h0_f17 h0_18 h0_19 h0_20 h0_21 h0_22 h0_23 h0_24 h0_25 h0_f26 h0_f27 h0_f28 h0_f29 h0_f30 h0_f31 h0_32 h0_33 h0_f34 h0_35 h0_36 h0_37 h0_38 h0_39 h0_40 h0_f41 h0_f42 h0_f43 h0_f44 h0_45 h0_46 h0_47 h0_48 h0_49 h0_50 h0_f51 h0_52 h0_f53 h0_5 h0_5k tN h0_5c h0_4 h0_4k h0_4c)) (hS : va_S A s.heap H locs) (hl : lv_has ls 4 [(3, .int 0), (2, .int 0), (0, .ref h0)]), G H locs (F0 m 90 ls []) := by
    as_aux_lemma =>
    intro j90b_h0_f10 j90b_h0_f11 g_h0_f10 g_h0_f17 g_h0_f26 g_h0_f27 g_h0_f28 g_h0_f29 g_h0_f30 g_h0_f31 g_h0_f34 g_h0_f41 g_h0_f51 g_h0_f53 g_h0_f6 g_h0_f7 g_h0_f8 g_h0_f9 g_j90b_h0_f10 g_j90b_h0_f11 r_h0_f10_j90b_h0_f10 hEX H locs ls hP hD hS hl
    refine hG _ _ _ ?_
    refine lv_aload_n hx hb dX12_atom_90 rfl (lv_at hl 2 rfl) ?_
    obtain ⟨hPc, hDc, hFc, hqc⟩ := cl_cut (wc := (wd_c_X12_isDigit_1 h0 h0_f0 h0_1 h0_2 h0_3 h0_4 h0_5 h0_f6 h0_f7 h0_f8 h0_f9 j90b_h0_f10 j90b_h0_f11 0 h0_f13 h0_f14 h0_15 h0_16 h0_f17 h0_18 h0_19 h0_20 h0_21 h0_22 h0_23 h0_24 h0_25 h0_f26 h0_f27 h0_f28 h0_f29 h0_f30 h0_f31 h0_32 h0_33 h0_f34 h0_35 h0_36 h0_37 h0_38 h0_39 h0_40 h0_f41 h0_f42 h0_f43 h0_f44 h0_45 h0_46 h0_47 h0_48 h0_49 h0_50 h0_f51 h0_52 h0_f53 h0_5 h0_5k tN h0_5c)) hP hD hS hA [0, 1] (by decide +kernel) rfl
    have hKc := hK.sub (tys' := [(h0_5k, .byte)]) [0] rfl
    have hrv := va_recv hKc hPc (ci := 12) (q0 := 0) rfl rfl
    refine va_calli (va_runV (As := []) (rest := []) ⟨hx, hb, hml, hown, hts⟩ (c_X12_isDigit_1 l dC dI H.size h0 h0_f0 h0_1 h0_2 h0_3 h0_4 h0_5 h0_f6 h0_f7 h0_f8 h0_f9 j90b_h0_f10 j90b_h0_f11 0 h0_f13 h0_f14 h0_15 h0_16 h0_f17 h0_18 h0_19 h0_20 h0_21 h0_22 h0_23 h0_24 h0_25 h0_f26 h0_f27 h0_f28 h0_f29 h0_f30 h0_f31 h0_32 h0_33 h0_f34 h0_35 h0_36 h0_37 h0_38 h0_39 h0_40 h0_f41 h0_f42 h0_f43 h0_f44 h0_45 h0_46 h0_47 h0_48 h0_49 h0_50 h0_f51 h0_52 h0_f53 h0_5k h0_5c tN g_h0_f6 g_h0_f7 g_h0_f8 g_h0_f9 g_j90b_h0_f10 g_j90b_h0_f11 g_h0_f17 g_h0_f26 g_h0_f27 g_h0_f28 g_h0_f29 g_h0_f30 g_h0_f31 g_h0_f34 g_h0_f41 g_h0_f51 g_h0_f53 htN) (cwV 0 hts gf_c_X12_atom_c_X12_isDigit_1 rfl rfl rfl mdV_X12_isDigit ⟨Nat.le_of_ble_eq_true rfl, Nat.le_of_ble_eq_true rfl⟩) ⟨fun a U g mk q => by obtain ⟨q0, q1, qP, qK, qD⟩ := q; exact ⟨q0, q1, qP, va_K.moved (u := U) (U := U.calling g mk a) (Vm.Alike.refl U.vm) qK, qD⟩, hrv, fun U hU hW => ⟨rfl, by rw [hU], by rw [hU]; exact hPc, va_K.moved hW.alike hKc, hDc.weaken (fun _ _ _ _ => trivial)⟩⟩ rfl rfl hl.1 rfl (lv_room (Nat.le_of_ble_eq_true rfl)) dX12_atom_91 ⟨Nat.le_of_ble_eq_true rfl, Nat.le_of_ble_eq_true rfl⟩) hS (fun q _ h => hFc q h) hFc (fun r_30 u t H1 locs ht hvm hw hB hz1 hk1 hS => ?_)
    obtain ⟨hP1, hK1, hD1⟩ := hB
    rw [ht] at hP1
    obtain ⟨hP, hD⟩ := cl_put (w1 := (wd_c_X12_isDigit_1 h0 h0_f0 h0_1 h0_2 h0_3 h0_4 h0_5 h0_f6 h0_f7 h0_f8 h0_f9 j90b_h0_f10 j90b_h0_f11 0 h0_f13 h0_f14 h0_15 h0_16 h0_f17 h0_18 h0_19 h0_20 h0_21 h0_22 h0_23 h0_24 h0_25 h0_f26 h0_f27 h0_f28 h0_f29 h0_f30 h0_f31 h0_32 h0_33 h0_f34 h0_35 h0_36 h0_37 h0_38 h0_39 h0_40 h0_f41 h0_f42 h0_f43 h0_f44 h0_45 h0_46 h0_47 h0_48 h0_49 h0_50 h0_f51 h0_52 h0_f53 h0_5 h0_5k tN h0_5c)) (nw := (wd_c_X12_atom h0 h0_f0 h0_1 h0_2 h0_3 h0_4 h0_5 h0_f6 h0_f7 h0_f8 h0_f9 j90b_h0_f10 j90b_h0_f11 0 h0_f13 h0_f14 h0_15 h0_16 h0_f17 h0_18 h0_19 h0_20 h0_21 h0_22 h0_23 h0_24 h0_25 h0_f26 h0_f27 h0_f28 h0_f29 h0_f30 h0_f31 h0_32 h0_33 h0_f34 h0_35 h0_36 h0_37 h0_38 h0_39 h0_40 h0_f41 h0_f42 h0_f43 h0_f44 h0_45 h0_46 h0_47 h0_48 h0_49 h0_50 h0_f51 h0_52 h0_f53 h0_5 h0_5k tN h0_5c h0_4 h0_4k h0_4c)) hP hD [0, 1] [3, 4, 2] 3 rfl hqc (by decide +kernel) rfl hk1 hFc hP1 hD1
    generalize H1 = H at hP hS ⊢
    as_aux_lemma =>
    rcases hw with ⟨h_31, h_32, h_33⟩ | ⟨h_34, h_35, h_36, h_37, h_38, h_39⟩
    · have h_33 : r_30 = _ := h_33
      replace hEX := hEX.trans (exc1_eq h_33)
      replace hEX := hEX.trans (if_pos (show r_30 = 0 from h_31))
      rw [h_31]
      refine lv_if_eq (tgt := 156) hx hb dX12_atom_94 rfl (fun c_40 => ?_) (fun c_40 => absurd c_40 (by decide +kernel))
      refine lv_iload_n hx hb dX12_atom_156 rfl (lv_at hl 1 rfl) ?_
      have hK9 := hK.sub (tys' := []) [] rfl
      exact W.iret (v := 0) hx hb hr (fun t ht hW => ⟨⟨0, (j90b_h0_f10, j90b_h0_f11, 0), rfl, (Or.inr ⟨rfl, g_j90b_h0_f10, g_j90b_h0_f11, (RG_w (RG_k 0 0 rfl) (by decide +kernel)), (by have := r_h0_f10_j90b_h0_f10; show h0_f10.toInt + 0 ≤ j90b_h0_f10.toInt; omega), (hR.trans hEX).symm⟩), by rw [ht]; exact hP, va_K.moved hW.alike hK9, hD⟩, hS.F ht⟩) hS.2.2 dX12_atom_157
    · have h_39 : r_30 = _ := h_39
      replace hEX := hEX.trans (exc1_eq h_39)
      replace hEX := hEX.trans (if_neg (fun q9 : r_30 = 0 => absurd ((show r_30 = 1 from h_34).symm.trans q9) (by decide +kernel)))
      rw [h_34]
      have g_41 := h_38 h_34
      refine lv_if_eq (tgt := 156) hx hb dX12_atom_94 rfl (fun c_42 => absurd c_42 (by decide +kernel)) (fun c_42 => ?_)
      as_aux_lemma =>
      refine lv_aload_n hx hb dX12_atom_97 rfl (lv_at hl 2 rfl) ?_
      refine va_get (D := (dC, dI)) (ci := 12) (v := .int j90b_h0_f11) (C := RX12) (T := TX12) (N := 54) hx hb hts iw_c_X12_atom_X12 hown hK hP 0 rfl rfl 11 (by decide +kernel) (hts (.fieldLink RX12 143 "BuoyVoteModel" "fault" "I") (List.mem_of_getElem? (i := 53) rfl)) (fun _ h9 => h9) rfl dX12_atom_98 ?_
      refine lv_iconst (v := (-1)) hx hb dX12_atom_101 kc_iconst_m1 ?_
      refine lv_icmp_ne (tgt := 156) hx hb dX12_atom_102 rfl (fun c_43 => ?_) (fun c_43 => ?_)
      · replace hEX := hEX.trans (if_neg c_43)
        refine lv_iload_n hx hb dX12_atom_156 rfl (lv_at hl 1 rfl) ?_
        have hK9 := hK.sub (tys' := []) [] rfl
        exact W.iret (v := 0) hx hb hr (fun t ht hW => ⟨⟨0, (j90b_h0_f10, j90b_h0_f11, 0), rfl, (Or.inr ⟨rfl, (RG_w h_35 (by decide +kernel)), g_j90b_h0_f11, (RG_w (RG_k 0 0 rfl) (by decide +kernel)), (by have := r_h0_f10_j90b_h0_f10; show h0_f10.toInt + 0 ≤ j90b_h0_f10.toInt; omega), (hR.trans hEX).symm⟩), by rw [ht]; exact hP, va_K.moved hW.alike hK9, hD⟩, hS.F ht⟩) hS.2.2 dX12_atom_157
      · replace hEX := hEX.trans (if_pos c_43)
        exact RG_dead (RG_eq1 g_j90b_h0_f11 (RG_k (-1) (-1) rfl) c_43 (a' := 0) (b' := (-1)) (by decide +kernel)) (by decide +kernel)
  have J86 : ∀ (j86_h0_f10 : Int32) (j86_h0_f11 : Int32) (g_h0_f10 : RG h0_f10 0 240) (g_h0_f17 : RG h0_f17 0 1) (g_h0_f26 : RG h0_f26 0 8) (g_h0_f27 : RG h0_f27 0 3) (g_h0_f28 : RG h0_f28 0 8) (g_h0_f29 : RG h0_f29 0 3) (g_h0_f30 : RG h0_f30 0 4) (g_h0_f31 : RG h0_f31 0 1) (g_h0_f34 : RG h0_f34 (-1) 3) (g_h0_f41 : RG h0_f41 0 40) (g_h0_f51 : RG h0_f51 0 10) (g_h0_f53 : RG h0_f53 0 1) (g_h0_f6 : RG h0_f6 0 240) (g_h0_f7 : RG h0_f7 0 4) (g_h0_f8 : RG h0_f8 0 720) (g_h0_f9 : RG h0_f9 0 240) (g_j86_h0_f10 : RG j86_h0_f10 0 240) (g_j86_h0_f11 : RG j86_h0_f11 0 240) (r_h0_f10_j86_h0_f10 : h0_f10.toInt + 0 ≤ j86_h0_f10.toInt) (hEX : RES = fx_c_X12_atom_p86 h0_f8 h0_f9 h0_5c j86_h0_f10 j86_h0_f11) (H : Heap) (locs : List Loc) (ls : Array Slot) (hP : va_P (dC, dI) vwCl (wd_c_X12_atom h0 h0_f0 h0_1 h0_2 h0_3 h0_4 h0_5 h0_f6 h0_f7 h0_f8 h0_f9 j86_h0_f10 j86_h0_f11 0 h0_f13 h0_f14 h0_15 h0_16 h0_f17 h0_18 h0_19 h0_20 h0_21 h0_22 h0_23 h0_24 h0_25 h0_f26 h0_f27 h0_f28 h0_f29 h0_f30 h0_f31 h0_32 h0_33 h0_f34 h0_35 h0_36 h0_37 h0_38 h0_39 h0_40 h0_f41 h0_f42 h0_f43 h0_f44 h0_45 h0_46 h0_47 h0_48 h0_49 h0_50 h0_f51 h0_52 h0_f53 h0_5 h0_5k tN h0_5c h0_4 h0_4k h0_4c) H) (hD : va_D A (wd_c_X12_atom h0 h0_f0 h0_1 h0_2 h0_3 h0_4 h0_5 h0_f6 h0_f7 h0_f8 h0_f9 j86_h0_f10 j86_h0_f11 0 h0_f13 h0_f14 h0_15 h0_16 h0_f17 h0_18 h0_19 h0_20 h0_21 h0_22 h0_23 h0_24 h0_25 h0_f26 h0_f27 h0_f28 h0_f29 h0_f30 h0_f31 h0_32 h0_33 h0_f34 h0_35 h0_36 h0_37 h0_38 h0_39 h0_40 h0_f41 h0_f42 h0_f43 h0_f44 h0_45 h0_46 h0_47 h0_48 h0_49 h0_50 h0_f51 h0_52 h0_f53 h0_5 h0_5k tN h0_5c h0_4 h0_4k h0_4c)) (hS : va_S A s.heap H locs) (hl : lv_has ls 4 [(0, .ref h0)]), G H locs (F0 m 86 ls []) := by
    as_aux_lemma =>
    intro j86_h0_f10 j86_h0_f11 g_h0_f10 g_h0_f17 g_h0_f26 g_h0_f27 g_h0_f28 g_h0_f29 g_h0_f30 g_h0_f31 g_h0_f34 g_h0_f41 g_h0_f51 g_h0_f53 g_h0_f6 g_h0_f7 g_h0_f8 g_h0_f9 g_j86_h0_f10 g_j86_h0_f11 r_h0_f10_j86_h0_f10 hEX H locs ls hP hD hS hl
    refine hG _ _ _ ?_
    refine lv_iconst (v := 0) hx hb dX12_atom_86 kc_iconst_0 ?_
    refine lv_istore_n (lv' := [(2, .int 0), (0, .ref h0)]) hx hb dX12_atom_87 rfl hl (Nat.le_of_ble_eq_true rfl) rfl (fun ls hl => ?_)
    refine lv_iconst (v := 0) hx hb dX12_atom_88 kc_iconst_0 ?_
    refine lv_istore_n (lv' := [(3, .int 0), (2, .int 0), (0, .ref h0)]) hx hb dX12_atom_89 rfl hl (Nat.le_of_ble_eq_true rfl) rfl (fun ls hl => ?_)
    exact hU _ _ _ (J90b j86_h0_f10 j86_h0_f11 g_h0_f10 g_h0_f17 g_h0_f26 g_h0_f27 g_h0_f28 g_h0_f29 g_h0_f30 g_h0_f31 g_h0_f34 g_h0_f41 g_h0_f51 g_h0_f53 g_h0_f6 g_h0_f7 g_h0_f8 g_h0_f9 g_j86_h0_f10 g_j86_h0_f11 (by have := r_h0_f10_j86_h0_f10; omega) hEX _ _ _ hP hD hS (lv_sub hl [0, 1, 2] rfl))
  refine hG _ _ _ ?_
  refine lv_aload_n hx hb dX12_atom_0 rfl (lv_at hl 0 rfl) ?_
  obtain ⟨hPc, hDc, hFc, hqc⟩ := cl_cut (wc := (wd_c_X12_look h0 h0_f0 h0_1 h0_2 h0_3 h0_4 h0_5 h0_f6 h0_f7 h0_f8 h0_f9 h0_f10 (-1) 0 h0_f13 h0_f14 h0_15 h0_16 h0_f17 h0_18 h0_19 h0_20 h0_21 h0_22 h0_23 h0_24 h0_25 h0_f26 h0_f27 h0_f28 h0_f29 h0_f30 h0_f31 h0_32 h0_33 h0_f34 h0_35 h0_36 h0_37 h0_38 h0_39 h0_40 h0_f41 h0_f42 h0_f43 h0_f44 h0_45 h0_46 h0_47 h0_48 h0_49 h0_50 h0_f51 h0_52 h0_f53 h0_5 h0_5k tN h0_5c)) hP hD hS hA [0, 1] (by decide +kernel) rfl
  have hKc := hK.sub (tys' := [(h0_5k, .byte)]) [0] rfl
  have hrv := va_recv hKc hPc (ci := 12) (q0 := 0) rfl rfl
  refine va_calli (va_runV (As := []) (rest := []) ⟨hx, hb, hml, hown, hts⟩ (c_X12_look l dC dI H.size h0 h0_f0 h0_1 h0_2 h0_3 h0_4 h0_5 h0_f6 h0_f7 h0_f8 h0_f9 h0_f10 0 h0_f13 h0_f14 h0_15 h0_16 h0_f17 h0_18 h0_19 h0_20 h0_21 h0_22 h0_23 h0_24 h0_25 h0_f26 h0_f27 h0_f28 h0_f29 h0_f30 h0_f31 h0_32 h0_33 h0_f34 h0_35 h0_36 h0_37 h0_38 h0_39 h0_40 h0_f41 h0_f42 h0_f43 h0_f44 h0_45 h0_46 h0_47 h0_48 h0_49 h0_50 h0_f51 h0_52 h0_f53 h0_5k h0_5c tN g_h0_f6 g_h0_f7 g_h0_f8 g_h0_f9 g_h0_f10 g_h0_f17 g_h0_f26 g_h0_f27 g_h0_f28 g_h0_f29 g_h0_f30 g_h0_f31 g_h0_f34 g_h0_f41 g_h0_f51 g_h0_f53 htN) (cwV 0 hts gf_c_X12_atom_c_X12_look rfl rfl rfl mdV_X12_look ⟨Nat.le_of_ble_eq_true rfl, Nat.le_of_ble_eq_true rfl⟩) ⟨fun a U g mk q => by obtain ⟨q0, q1, qP, qK, qD⟩ := q; exact ⟨q0, q1, qP, va_K.moved (u := U) (U := U.calling g mk a) (Vm.Alike.refl U.vm) qK, qD⟩, hrv, fun U hU hW => ⟨rfl, by rw [hU], by rw [hU]; exact hPc, va_K.moved hW.alike hKc, hDc.weaken (fun _ _ _ _ => trivial)⟩⟩ rfl rfl hl.1 rfl (lv_room (Nat.le_of_ble_eq_true rfl)) dX12_atom_1 ⟨Nat.le_of_ble_eq_true rfl, Nat.le_of_ble_eq_true rfl⟩) hS (fun q _ h => hFc q h) hFc (fun r_44 x_45 t H1 locs ht hvm hw hB hz1 hk1 hS => ?_)
  obtain ⟨hP1, hK1, hD1⟩ := hB
  rw [ht] at hP1
  obtain ⟨hP, hD⟩ := cl_put (w1 := (wd_c_X12_look h0 h0_f0 h0_1 h0_2 h0_3 h0_4 h0_5 h0_f6 h0_f7 h0_f8 h0_f9 x_45 (-1) 0 h0_f13 h0_f14 h0_15 h0_16 h0_f17 h0_18 h0_19 h0_20 h0_21 h0_22 h0_23 h0_24 h0_25 h0_f26 h0_f27 h0_f28 h0_f29 h0_f30 h0_f31 h0_32 h0_33 h0_f34 h0_35 h0_36 h0_37 h0_38 h0_39 h0_40 h0_f41 h0_f42 h0_f43 h0_f44 h0_45 h0_46 h0_47 h0_48 h0_49 h0_50 h0_f51 h0_52 h0_f53 h0_5 h0_5k tN h0_5c)) (nw := (wd_c_X12_atom h0 h0_f0 h0_1 h0_2 h0_3 h0_4 h0_5 h0_f6 h0_f7 h0_f8 h0_f9 x_45 (-1) 0 h0_f13 h0_f14 h0_15 h0_16 h0_f17 h0_18 h0_19 h0_20 h0_21 h0_22 h0_23 h0_24 h0_25 h0_f26 h0_f27 h0_f28 h0_f29 h0_f30 h0_f31 h0_32 h0_33 h0_f34 h0_35 h0_36 h0_37 h0_38 h0_39 h0_40 h0_f41 h0_f42 h0_f43 h0_f44 h0_45 h0_46 h0_47 h0_48 h0_49 h0_50 h0_f51 h0_52 h0_f53 h0_5 h0_5k tN h0_5c h0_4 h0_4k h0_4c)) hP hD [0, 1] [3, 4, 2] 3 rfl hqc (by decide +kernel) rfl hk1 hFc hP1 hD1
  generalize H1 = H at hP hS ⊢
  as_aux_lemma =>
  rcases hw with ⟨h_46, h_47, h_48, h_49, h_50, h_51⟩ | ⟨h_52, h_53, h_54, h_55, h_56, h_57, h_58⟩
  · have h_51 : (r_44, x_45) = _ := h_51
    replace hEX := hEX.trans (exc2_eq h_51)
    replace hEX := hEX.trans (if_pos (show r_44 = (-1) from h_46))
    rw [h_46]
    refine lv_istore_n (lv' := [(1, .int (-1)), (0, .ref h0)]) hx hb dX12_atom_4 rfl hl (Nat.le_of_ble_eq_true rfl) rfl (fun ls hl => ?_)
    refine va_ldcS hx hb hown hE_47 dX12_atom_5 ?_
    refine lv_iload_n hx hb dX12_atom_7 rfl (lv_at hl 0 rfl) ?_
    obtain ⟨hPc, hDc, hFc, hqc⟩ := cl_cut (wc := []) hP hD hS hA [] (by decide +kernel) rfl
    have hKc := hK.sub (tys' := []) [] rfl
    refine va_calli (va_runS (As := [.ref ts7, .int (-1)]) (rest := []) ⟨hx, hb, hml, hown, hts⟩ (c_X12_isAmong_2 l dC dI H.size ts7 tv7) (va_cwS 2 hts gf_c_X12_atom_c_X12_isAmong_2 rfl rfl rfl md_X12_isAmong ⟨Nat.le_of_ble_eq_true rfl, Nat.le_of_ble_eq_true rfl⟩) ⟨fun a U g mk q => by obtain ⟨q0, q1, qP, qK, qD, qE0, qE1, qE2, qE3, qE4, qE5⟩ := q; exact ⟨q0, q1, qP, va_K.moved (u := U) (U := U.calling g mk a) (Vm.Alike.refl U.vm) qK, qD, va_OF.moved (u := U) (U := U.calling g mk a) (Vm.Alike.refl U.vm) qE0, va_T.moved (u := U) (U := U.calling g mk a) (Vm.Alike.refl U.vm) qE1, va_Z.moved (u := U) (U := U.calling g mk a) (Vm.Alike.refl U.vm) qE2, va_OF.moved (u := U) (U := U.calling g mk a) (Vm.Alike.refl U.vm) qE3, va_O.moved (u := U) (U := U.calling g mk a) (Vm.Alike.refl U.vm) qE4, va_Zq.moved (u := U) (U := U.calling g mk a) (Vm.Alike.refl U.vm) qE5⟩, fun U hU hW => ⟨rfl, by rw [hU], by rw [hU]; exact hPc, va_K.moved hW.alike hKc, hDc.weaken (fun _ _ _ _ => trivial), va_OF.moved hW.alike (by rw [hU]; exact (hE_50.kept hS.2.1).narrow hFc), va_T.moved hW.alike (by rw [hU]; exact (hE_51.kept hS.2.1).narrow hFc), va_Z.moved hW.alike (by rw [hU]; exact (hE_10.kept hS.2.1).narrow hFc), va_OF.moved hW.alike (by rw [hU]; exact (hE_49.kept hS.2.1).narrow hFc), va_O.moved hW.alike (by rw [hU]; exact (hE_48.kept hS.2.1).narrow hFc), va_Zq.moved hW.alike (by rw [hU]; exact (hE_11.kept hS.2.1).narrow hFc)⟩⟩ rfl rfl hl.1 rfl (lv_room (Nat.le_of_ble_eq_true rfl)) dX12_atom_8 ⟨Nat.le_of_ble_eq_true rfl, Nat.le_of_ble_eq_true rfl⟩) hS (fun q _ h => hFc q h) hFc (fun r_59 u t H1 locs ht hvm hw hB hz1 hk1 hS => ?_)
    obtain ⟨hP1, hK1, hD1⟩ := hB
    rw [ht] at hP1
    have hP := bv_still hP hk1
    generalize H1 = H at hP hS ⊢
    as_aux_lemma =>
    rcases hw with ⟨h_60, h_61⟩
    have h_61 : r_59 = _ := h_61
    replace hEX := hEX.trans (exc1_eq h_61)
    rw [h_60]
    refine lv_if_eq (tgt := 31) hx hb dX12_atom_11 rfl (fun c_62 => ?_) (fun c_62 => absurd c_62 (by decide +kernel))
    refine lv_iload_n hx hb dX12_atom_31 rfl (lv_at hl 0 rfl) ?_
    refine lv_bipush (v := 91) hx hb dX12_atom_32 kc_bipush_91 ?_
    refine lv_icmp_ne (tgt := 74) hx hb dX12_atom_34 rfl (fun c_63 => ?_) (fun c_63 => absurd c_63 (by decide +kernel))
    refine lv_aload_n hx hb dX12_atom_74 rfl (lv_at hl 1 rfl) ?_
    obtain ⟨hPc, hDc, hFc, hqc⟩ := cl_cut (wc := (wd_c_X12_isDigit h0 h0_f0 h0_1 h0_2 h0_3 h0_4 h0_5 h0_f6 h0_f7 h0_f8 h0_f9 x_45 (-1) 0 h0_f13 h0_f14 h0_15 h0_16 h0_f17 h0_18 h0_19 h0_20 h0_21 h0_22 h0_23 h0_24 h0_25 h0_f26 h0_f27 h0_f28 h0_f29 h0_f30 h0_f31 h0_32 h0_33 h0_f34 h0_35 h0_36 h0_37 h0_38 h0_39 h0_40 h0_f41 h0_f42 h0_f43 h0_f44 h0_45 h0_46 h0_47 h0_48 h0_49 h0_50 h0_f51 h0_52 h0_f53 h0_5 h0_5k tN h0_5c)) hP hD hS hA [0, 1] (by decide +kernel) rfl
    have hKc := hK.sub (tys' := [(h0_5k, .byte)]) [0] rfl
    have hrv := va_recv hKc hPc (ci := 12) (q0 := 0) rfl rfl
    refine va_calli (va_runV (As := []) (rest := []) ⟨hx, hb, hml, hown, hts⟩ (c_X12_isDigit l dC dI H.size h0 h0_f0 h0_1 h0_2 h0_3 h0_4 h0_5 h0_f6 h0_f7 h0_f8 h0_f9 x_45 0 h0_f13 h0_f14 h0_15 h0_16 h0_f17 h0_18 h0_19 h0_20 h0_21 h0_22 h0_23 h0_24 h0_25 h0_f26 h0_f27 h0_f28 h0_f29 h0_f30 h0_f31 h0_32 h0_33 h0_f34 h0_35 h0_36 h0_37 h0_38 h0_39 h0_40 h0_f41 h0_f42 h0_f43 h0_f44 h0_45 h0_46 h0_47 h0_48 h0_49 h0_50 h0_f51 h0_52 h0_f53 h0_5k h0_5c tN g_h0_f6 g_h0_f7 g_h0_f8 g_h0_f9 h_47 g_h0_f17 g_h0_f26 g_h0_f27 g_h0_f28 g_h0_f29 g_h0_f30 g_h0_f31 g_h0_f34 g_h0_f41 g_h0_f51 g_h0_f53 htN) (cwV 0 hts gf_c_X12_atom_c_X12_isDigit rfl rfl rfl mdV_X12_isDigit ⟨Nat.le_of_ble_eq_true rfl, Nat.le_of_ble_eq_true rfl⟩) ⟨fun a U g mk q => by obtain ⟨q0, q1, qP, qK, qD⟩ := q; exact ⟨q0, q1, qP, va_K.moved (u := U) (U := U.calling g mk a) (Vm.Alike.refl U.vm) qK, qD⟩, hrv, fun U hU hW => ⟨rfl, by rw [hU], by rw [hU]; exact hPc, va_K.moved hW.alike hKc, hDc.weaken (fun _ _ _ _ => trivial)⟩⟩ rfl rfl hl.1 rfl (lv_room (Nat.le_of_ble_eq_true rfl)) dX12_atom_75 ⟨Nat.le_of_ble_eq_true rfl, Nat.le_of_ble_eq_true rfl⟩) hS (fun q _ h => hFc q h) hFc (fun r_64 u t H1 locs ht hvm hw hB hz1 hk1 hS => ?_)
    obtain ⟨hP1, hK1, hD1⟩ := hB
    rw [ht] at hP1
    obtain ⟨hP, hD⟩ := cl_put (w1 := (wd_c_X12_isDigit h0 h0_f0 h0_1 h0_2 h0_3 h0_4 h0_5 h0_f6 h0_f7 h0_f8 h0_f9 x_45 (-1) 0 h0_f13 h0_f14 h0_15 h0_16 h0_f17 h0_18 h0_19 h0_20 h0_21 h0_22 h0_23 h0_24 h0_25 h0_f26 h0_f27 h0_f28 h0_f29 h0_f30 h0_f31 h0_32 h0_33 h0_f34 h0_35 h0_36 h0_37 h0_38 h0_39 h0_40 h0_f41 h0_f42 h0_f43 h0_f44 h0_45 h0_46 h0_47 h0_48 h0_49 h0_50 h0_f51 h0_52 h0_f53 h0_5 h0_5k tN h0_5c)) (nw := (wd_c_X12_atom h0 h0_f0 h0_1 h0_2 h0_3 h0_4 h0_5 h0_f6 h0_f7 h0_f8 h0_f9 x_45 (-1) 0 h0_f13 h0_f14 h0_15 h0_16 h0_f17 h0_18 h0_19 h0_20 h0_21 h0_22 h0_23 h0_24 h0_25 h0_f26 h0_f27 h0_f28 h0_f29 h0_f30 h0_f31 h0_32 h0_33 h0_f34 h0_35 h0_36 h0_37 h0_38 h0_39 h0_40 h0_f41 h0_f42 h0_f43 h0_f44 h0_45 h0_46 h0_47 h0_48 h0_49 h0_50 h0_f51 h0_52 h0_f53 h0_5 h0_5k tN h0_5c h0_4 h0_4k h0_4c)) hP hD [0, 1] [3, 4, 2] 3 rfl hqc (by decide +kernel) rfl hk1 hFc hP1 hD1
    generalize H1 = H at hP hS ⊢
    as_aux_lemma =>
    rcases hw with ⟨h_65, h_66, h_67⟩ | ⟨h_68, h_69, h_70, h_71, h_72, h_73⟩
    · have h_67 : r_64 = _ := h_67
      replace hEX := hEX.trans (exc1_eq h_67)
      replace hEX := hEX.trans (if_pos (show r_64 = 0 from h_65))
      rw [h_65]
      refine lv_if_ne (tgt := 86) hx hb dX12_atom_78 rfl (fun c_74 => absurd c_74 (by decide +kernel)) (fun c_74 => ?_)
      refine lv_aload_n hx hb dX12_atom_81 rfl (lv_at hl 1 rfl) ?_
      obtain ⟨hPc, hDc, hFc, hqc⟩ := cl_cut (wc := (wd_c_X12_fails h0 h0_f0 h0_1 h0_2 h0_3 h0_4 h0_5 h0_f6 h0_f7 h0_f8 h0_f9 x_45 (-1) 0 h0_f13 h0_f14 h0_15 h0_16 h0_f17 h0_18 h0_19 h0_20 h0_21 h0_22 h0_23 h0_24 h0_25 h0_f26 h0_f27 h0_f28 h0_f29 h0_f30 h0_f31 h0_32 h0_33 h0_f34 h0_35 h0_36 h0_37 h0_38 h0_39 h0_40 h0_f41 h0_f42 h0_f43 h0_f44 h0_45 h0_46 h0_47 h0_48 h0_49 h0_50 h0_f51 h0_52 h0_f53)) hP hD hS hA [0] (by decide +kernel) rfl
      have hKc := hK.sub (tys' := []) [] rfl
      have hrv := va_recv hKc hPc (ci := 12) (q0 := 0) rfl rfl
      refine va_calli (va_runV (As := []) (rest := []) ⟨hx, hb, hml, hown, hts⟩ (c_X12_fails l dC dI H.size h0 h0_f0 h0_1 h0_2 h0_3 h0_4 h0_5 h0_f6 h0_f7 h0_f8 h0_f9 x_45 0 h0_f13 h0_f14 h0_15 h0_16 h0_f17 h0_18 h0_19 h0_20 h0_21 h0_22 h0_23 h0_24 h0_25 h0_f26 h0_f27 h0_f28 h0_f29 h0_f30 h0_f31 h0_32 h0_33 h0_f34 h0_35 h0_36 h0_37 h0_38 h0_39 h0_40 h0_f41 h0_f42 h0_f43 h0_f44 h0_45 h0_46 h0_47 h0_48 h0_49 h0_50 h0_f51 h0_52 h0_f53 g_h0_f6 g_h0_f7 g_h0_f8 g_h0_f9 h_47 g_h0_f17 g_h0_f26 g_h0_f27 g_h0_f28 g_h0_f29 g_h0_f30 g_h0_f31 g_h0_f34 g_h0_f41 g_h0_f51 g_h0_f53) (cwV 0 hts gf_c_X12_atom_c_X12_fails rfl rfl rfl mdV_X12_fails ⟨Nat.le_of_ble_eq_true rfl, Nat.le_of_ble_eq_true rfl⟩) ⟨fun a U g mk q => by obtain ⟨q0, q1, qP, qK, qD⟩ := q; exact ⟨q0, q1, qP, va_K.moved (u := U) (U := U.calling g mk a) (Vm.Alike.refl U.vm) qK, qD⟩, hrv, fun U hU hW => ⟨rfl, by rw [hU], by rw [hU]; exact hPc, va_K.moved hW.alike hKc, hDc.weaken (fun _ _ _ _ => trivial)⟩⟩ rfl rfl hl.1 rfl (lv_room (Nat.le_of_ble_eq_true rfl)) dX12_atom_82 ⟨Nat.le_of_ble_eq_true rfl, Nat.le_of_ble_eq_true rfl⟩) hS (fun q _ h => hFc q h) hFc (fun r_75 u t H1 locs ht hvm hw hB hz1 hk1 hS => ?_)
      obtain ⟨hP1, hK1, hD1⟩ := hB
      rw [ht] at hP1
      obtain ⟨hP, hD⟩ := cl_put (w1 := (wd_c_X12_fails h0 h0_f0 h0_1 h0_2 h0_3 h0_4 h0_5 h0_f6 h0_f7 h0_f8 h0_f9 x_45 x_45 0 h0_f13 h0_f14 h0_15 h0_16 h0_f17 h0_18 h0_19 h0_20 h0_21 h0_22 h0_23 h0_24 h0_25 h0_f26 h0_f27 h0_f28 h0_f29 h0_f30 h0_f31 h0_32 h0_33 h0_f34 h0_35 h0_36 h0_37 h0_38 h0_39 h0_40 h0_f41 h0_f42 h0_f43 h0_f44 h0_45 h0_46 h0_47 h0_48 h0_49 h0_50 h0_f51 h0_52 h0_f53)) (nw := (wd_c_X12_atom h0 h0_f0 h0_1 h0_2 h0_3 h0_4 h0_5 h0_f6 h0_f7 h0_f8 h0_f9 x_45 x_45 0 h0_f13 h0_f14 h0_15 h0_16 h0_f17 h0_18 h0_19 h0_20 h0_21 h0_22 h0_23 h0_24 h0_25 h0_f26 h0_f27 h0_f28 h0_f29 h0_f30 h0_f31 h0_32 h0_33 h0_f34 h0_35 h0_36 h0_37 h0_38 h0_39 h0_40 h0_f41 h0_f42 h0_f43 h0_f44 h0_45 h0_46 h0_47 h0_48 h0_49 h0_50 h0_f51 h0_52 h0_f53 h0_5 h0_5k tN h0_5c h0_4 h0_4k h0_4c)) hP hD [0] [3, 1, 2] 3 rfl hqc (by decide +kernel) rfl hk1 hFc hP1 hD1
      generalize H1 = H at hP hS ⊢
      as_aux_lemma =>
      rcases hw with ⟨h_76, h_77⟩
      have h_77 : r_75 = _ := h_77
      replace hEX := hEX.trans (exc1_eq h_77)
      rw [h_76]
      refine lv_pop hx hb dX12_atom_85 rfl ?_
      exact hU _ _ _ (J86 x_45 x_45 g_h0_f10 g_h0_f17 g_h0_f26 g_h0_f27 g_h0_f28 g_h0_f29 g_h0_f30 g_h0_f31 g_h0_f34 g_h0_f41 g_h0_f51 g_h0_f53 g_h0_f6 g_h0_f7 g_h0_f8 g_h0_f9 h_47 h_47 (by have := h_48; omega) hEX _ _ _ hP hD hS (lv_sub hl [1] rfl))
    · have h_73 : r_64 = _ := h_73
      replace hEX := hEX.trans (exc1_eq h_73)
      replace hEX := hEX.trans (if_neg (fun q9 : r_64 = 0 => absurd ((show r_64 = 1 from h_68).symm.trans q9) (by decide +kernel)))
      rw [h_68]
      exfalso
      have := h_71
      have := h_49
      omega
  · have h_58 : (r_44, x_45) = _ := h_58
    replace hEX := hEX.trans (exc2_eq h_58)
    replace hEX := hEX.trans (if_neg (RG_neq (x := r_44) (c := (-1)) (show RG r_44 0 255 from h_52) (by decide +kernel)))
    have nb_78 := h_57.2.resolve_left (fun q => by have g9 := h_52; rw [q] at g9; exact absurd g9.1 (by decide +kernel))
    refine lv_istore_n (lv' := [(1, .int r_44), (0, .ref h0)]) hx hb dX12_atom_4 rfl hl (Nat.le_of_ble_eq_true rfl) rfl (fun ls hl => ?_)
    as_aux_lemma =>
    refine va_ldcS hx hb hown hE_47 dX12_atom_5 ?_
    refine lv_iload_n hx hb dX12_atom_7 rfl (lv_at hl 0 rfl) ?_
    obtain ⟨hPc, hDc, hFc, hqc⟩ := cl_cut (wc := []) hP hD hS hA [] (by decide +kernel) rfl
    have hKc := hK.sub (tys' := []) [] rfl
    refine va_calli (va_runS (As := [.ref ts7, .int r_44]) (rest := []) ⟨hx, hb, hml, hown, hts⟩ (c_X12_isAmong_3 l dC dI H.size ts7 r_44 tv7 h_52) (va_cwS 2 hts gf_c_X12_atom_c_X12_isAmong_3 rfl rfl rfl md_X12_isAmong ⟨Nat.le_of_ble_eq_true rfl, Nat.le_of_ble_eq_true rfl⟩) ⟨fun a U g mk q => by obtain ⟨q0, q1, qP, qK, qD, qE0, qE1, qE2, qE3, qE4, qE5⟩ := q; exact ⟨q0, q1, qP, va_K.moved (u := U) (U := U.calling g mk a) (Vm.Alike.refl U.vm) qK, qD, va_OF.moved (u := U) (U := U.calling g mk a) (Vm.Alike.refl U.vm) qE0, va_T.moved (u := U) (U := U.calling g mk a) (Vm.Alike.refl U.vm) qE1, va_Z.moved (u := U) (U := U.calling g mk a) (Vm.Alike.refl U.vm) qE2, va_OF.moved (u := U) (U := U.calling g mk a) (Vm.Alike.refl U.vm) qE3, va_O.moved (u := U) (U := U.calling g mk a) (Vm.Alike.refl U.vm) qE4, va_Zq.moved (u := U) (U := U.calling g mk a) (Vm.Alike.refl U.vm) qE5⟩, fun U hU hW => ⟨rfl, by rw [hU], by rw [hU]; exact hPc, va_K.moved hW.alike hKc, hDc.weaken (fun _ _ _ _ => trivial), va_OF.moved hW.alike (by rw [hU]; exact (hE_50.kept hS.2.1).narrow hFc), va_T.moved hW.alike (by rw [hU]; exact (hE_51.kept hS.2.1).narrow hFc), va_Z.moved hW.alike (by rw [hU]; exact (hE_10.kept hS.2.1).narrow hFc), va_OF.moved hW.alike (by rw [hU]; exact (hE_49.kept hS.2.1).narrow hFc), va_O.moved hW.alike (by rw [hU]; exact (hE_48.kept hS.2.1).narrow hFc), va_Zq.moved hW.alike (by rw [hU]; exact (hE_11.kept hS.2.1).narrow hFc)⟩⟩ rfl rfl hl.1 rfl (lv_room (Nat.le_of_ble_eq_true rfl)) dX12_atom_8 ⟨Nat.le_of_ble_eq_true rfl, Nat.le_of_ble_eq_true rfl⟩) hS (fun q _ h => hFc q h) hFc (fun r_79 u t H1 locs ht hvm hw hB hz1 hk1 hS => ?_)
    obtain ⟨hP1, hK1, hD1⟩ := hB
    rw [ht] at hP1
    have hP := bv_still hP hk1
    generalize H1 = H at hP hS ⊢
    as_aux_lemma =>
    rcases hw with ⟨h_80, h_81⟩ | ⟨h_82, h_83, h_84⟩
    · have h_81 : r_79 = _ := h_81
      replace hEX := hEX.trans (exc1_eq h_81)
      replace hEX := hEX.trans (if_pos (show r_79 = 0 from h_80))
      rw [h_80]
      refine lv_if_eq (tgt := 31) hx hb dX12_atom_11 rfl (fun c_85 => ?_) (fun c_85 => absurd c_85 (by decide +kernel))
      refine lv_iload_n hx hb dX12_atom_31 rfl (lv_at hl 0 rfl) ?_
      refine lv_bipush (v := 91) hx hb dX12_atom_32 kc_bipush_91 ?_
      refine lv_icmp_ne (tgt := 74) hx hb dX12_atom_34 rfl (fun c_86 => ?_) (fun c_86 => ?_)
      · replace hEX := hEX.trans (if_neg c_86)
        refine lv_aload_n hx hb dX12_atom_74 rfl (lv_at hl 1 rfl) ?_
        obtain ⟨hPc, hDc, hFc, hqc⟩ := cl_cut (wc := (wd_c_X12_isDigit h0 h0_f0 h0_1 h0_2 h0_3 h0_4 h0_5 h0_f6 h0_f7 h0_f8 h0_f9 x_45 (-1) 0 h0_f13 h0_f14 h0_15 h0_16 h0_f17 h0_18 h0_19 h0_20 h0_21 h0_22 h0_23 h0_24 h0_25 h0_f26 h0_f27 h0_f28 h0_f29 h0_f30 h0_f31 h0_32 h0_33 h0_f34 h0_35 h0_36 h0_37 h0_38 h0_39 h0_40 h0_f41 h0_f42 h0_f43 h0_f44 h0_45 h0_46 h0_47 h0_48 h0_49 h0_50 h0_f51 h0_52 h0_f53 h0_5 h0_5k tN h0_5c)) hP hD hS hA [0, 1] (by decide +kernel) rfl
        have hKc := hK.sub (tys' := [(h0_5k, .byte)]) [0] rfl
        have hrv := va_recv hKc hPc (ci := 12) (q0 := 0) rfl rfl
        refine va_calli (va_runV (As := []) (rest := []) ⟨hx, hb, hml, hown, hts⟩ (c_X12_isDigit l dC dI H.size h0 h0_f0 h0_1 h0_2 h0_3 h0_4 h0_5 h0_f6 h0_f7 h0_f8 h0_f9 x_45 0 h0_f13 h0_f14 h0_15 h0_16 h0_f17 h0_18 h0_19 h0_20 h0_21 h0_22 h0_23 h0_24 h0_25 h0_f26 h0_f27 h0_f28 h0_f29 h0_f30 h0_f31 h0_32 h0_33 h0_f34 h0_35 h0_36 h0_37 h0_38 h0_39 h0_40 h0_f41 h0_f42 h0_f43 h0_f44 h0_45 h0_46 h0_47 h0_48 h0_49 h0_50 h0_f51 h0_52 h0_f53 h0_5k h0_5c tN g_h0_f6 g_h0_f7 g_h0_f8 (RG_w h_54 (by decide +kernel)) (RG_w h_53 (by decide +kernel)) g_h0_f17 g_h0_f26 g_h0_f27 g_h0_f28 g_h0_f29 g_h0_f30 g_h0_f31 g_h0_f34 g_h0_f41 g_h0_f51 g_h0_f53 htN) (cwV 0 hts gf_c_X12_atom_c_X12_isDigit rfl rfl rfl mdV_X12_isDigit ⟨Nat.le_of_ble_eq_true rfl, Nat.le_of_ble_eq_true rfl⟩) ⟨fun a U g mk q => by obtain ⟨q0, q1, qP, qK, qD⟩ := q; exact ⟨q0, q1, qP, va_K.moved (u := U) (U := U.calling g mk a) (Vm.Alike.refl U.vm) qK, qD⟩, hrv, fun U hU hW => ⟨rfl, by rw [hU], by rw [hU]; exact hPc, va_K.moved hW.alike hKc, hDc.weaken (fun _ _ _ _ => trivial)⟩⟩ rfl rfl hl.1 rfl (lv_room (Nat.le_of_ble_eq_true rfl)) dX12_atom_75 ⟨Nat.le_of_ble_eq_true rfl, Nat.le_of_ble_eq_true rfl⟩) hS (fun q _ h => hFc q h) hFc (fun r_87 u t H1 locs ht hvm hw hB hz1 hk1 hS => ?_)
        as_aux_lemma =>
        obtain ⟨hP1, hK1, hD1⟩ := hB
        rw [ht] at hP1
        obtain ⟨hP, hD⟩ := cl_put (w1 := (wd_c_X12_isDigit h0 h0_f0 h0_1 h0_2 h0_3 h0_4 h0_5 h0_f6 h0_f7 h0_f8 h0_f9 x_45 (-1) 0 h0_f13 h0_f14 h0_15 h0_16 h0_f17 h0_18 h0_19 h0_20 h0_21 h0_22 h0_23 h0_24 h0_25 h0_f26 h0_f27 h0_f28 h0_f29 h0_f30 h0_f31 h0_32 h0_33 h0_f34 h0_35 h0_36 h0_37 h0_38 h0_39 h0_40 h0_f41 h0_f42 h0_f43 h0_f44 h0_45 h0_46 h0_47 h0_48 h0_49 h0_50 h0_f51 h0_52 h0_f53 h0_5 h0_5k tN h0_5c)) (nw := (wd_c_X12_atom h0 h0_f0 h0_1 h0_2 h0_3 h0_4 h0_5 h0_f6 h0_f7 h0_f8 h0_f9 x_45 (-1) 0 h0_f13 h0_f14 h0_15 h0_16 h0_f17 h0_18 h0_19 h0_20 h0_21 h0_22 h0_23 h0_24 h0_25 h0_f26 h0_f27 h0_f28 h0_f29 h0_f30 h0_f31 h0_32 h0_33 h0_f34 h0_35 h0_36 h0_37 h0_38 h0_39 h0_40 h0_f41 h0_f42 h0_f43 h0_f44 h0_45 h0_46 h0_47 h0_48 h0_49 h0_50 h0_f51 h0_52 h0_f53 h0_5 h0_5k tN h0_5c h0_4 h0_4k h0_4c)) hP hD [0, 1] [3, 4, 2] 3 rfl hqc (by decide +kernel) rfl hk1 hFc hP1 hD1
        generalize H1 = H at hP hS ⊢
        as_aux_lemma =>
        rcases hw with ⟨h_88, h_89, h_90⟩ | ⟨h_91, h_92, h_93, h_94, h_95, h_96⟩
        · have h_90 : r_87 = _ := h_90
          replace hEX := hEX.trans (exc1_eq h_90)
          replace hEX := hEX.trans (if_pos (show r_87 = 0 from h_88))
          rw [h_88]
          refine lv_if_ne (tgt := 86) hx hb dX12_atom_78 rfl (fun c_97 => absurd c_97 (by decide +kernel)) (fun c_97 => ?_)
          refine lv_aload_n hx hb dX12_atom_81 rfl (lv_at hl 1 rfl) ?_
          obtain ⟨hPc, hDc, hFc, hqc⟩ := cl_cut (wc := (wd_c_X12_fails h0 h0_f0 h0_1 h0_2 h0_3 h0_4 h0_5 h0_f6 h0_f7 h0_f8 h0_f9 x_45 (-1) 0 h0_f13 h0_f14 h0_15 h0_16 h0_f17 h0_18 h0_19 h0_20 h0_21 h0_22 h0_23 h0_24 h0_25 h0_f26 h0_f27 h0_f28 h0_f29 h0_f30 h0_f31 h0_32 h0_33 h0_f34 h0_35 h0_36 h0_37 h0_38 h0_39 h0_40 h0_f41 h0_f42 h0_f43 h0_f44 h0_45 h0_46 h0_47 h0_48 h0_49 h0_50 h0_f51 h0_52 h0_f53)) hP hD hS hA [0] (by decide +kernel) rfl
          have hKc := hK.sub (tys' := []) [] rfl
          have hrv := va_recv hKc hPc (ci := 12) (q0 := 0) rfl rfl
          refine va_calli (va_runV (As := []) (rest := []) ⟨hx, hb, hml, hown, hts⟩ (c_X12_fails l dC dI H.size h0 h0_f0 h0_1 h0_2 h0_3 h0_4 h0_5 h0_f6 h0_f7 h0_f8 h0_f9 x_45 0 h0_f13 h0_f14 h0_15 h0_16 h0_f17 h0_18 h0_19 h0_20 h0_21 h0_22 h0_23 h0_24 h0_25 h0_f26 h0_f27 h0_f28 h0_f29 h0_f30 h0_f31 h0_32 h0_33 h0_f34 h0_35 h0_36 h0_37 h0_38 h0_39 h0_40 h0_f41 h0_f42 h0_f43 h0_f44 h0_45 h0_46 h0_47 h0_48 h0_49 h0_50 h0_f51 h0_52 h0_f53 g_h0_f6 g_h0_f7 g_h0_f8 (RG_w h_54 (by decide +kernel)) (RG_w h_53 (by decide +kernel)) g_h0_f17 g_h0_f26 g_h0_f27 g_h0_f28 g_h0_f29 g_h0_f30 g_h0_f31 g_h0_f34 g_h0_f41 g_h0_f51 g_h0_f53) (cwV 0 hts gf_c_X12_atom_c_X12_fails rfl rfl rfl mdV_X12_fails ⟨Nat.le_of_ble_eq_true rfl, Nat.le_of_ble_eq_true rfl⟩) ⟨fun a U g mk q => by obtain ⟨q0, q1, qP, qK, qD⟩ := q; exact ⟨q0, q1, qP, va_K.moved (u := U) (U := U.calling g mk a) (Vm.Alike.refl U.vm) qK, qD⟩, hrv, fun U hU hW => ⟨rfl, by rw [hU], by rw [hU]; exact hPc, va_K.moved hW.alike hKc, hDc.weaken (fun _ _ _ _ => trivial)⟩⟩ rfl rfl hl.1 rfl (lv_room (Nat.le_of_ble_eq_true rfl)) dX12_atom_82 ⟨Nat.le_of_ble_eq_true rfl, Nat.le_of_ble_eq_true rfl⟩) hS (fun q _ h => hFc q h) hFc (fun r_98 u t H1 locs ht hvm hw hB hz1 hk1 hS => ?_)
          obtain ⟨hP1, hK1, hD1⟩ := hB
          rw [ht] at hP1
          obtain ⟨hP, hD⟩ := cl_put (w1 := (wd_c_X12_fails h0 h0_f0 h0_1 h0_2 h0_3 h0_4 h0_5 h0_f6 h0_f7 h0_f8 h0_f9 x_45 x_45 0 h0_f13 h0_f14 h0_15 h0_16 h0_f17 h0_18 h0_19 h0_20 h0_21 h0_22 h0_23 h0_24 h0_25 h0_f26 h0_f27 h0_f28 h0_f29 h0_f30 h0_f31 h0_32 h0_33 h0_f34 h0_35 h0_36 h0_37 h0_38 h0_39 h0_40 h0_f41 h0_f42 h0_f43 h0_f44 h0_45 h0_46 h0_47 h0_48 h0_49 h0_50 h0_f51 h0_52 h0_f53)) (nw := (wd_c_X12_atom h0 h0_f0 h0_1 h0_2 h0_3 h0_4 h0_5 h0_f6 h0_f7 h0_f8 h0_f9 x_45 x_45 0 h0_f13 h0_f14 h0_15 h0_16 h0_f17 h0_18 h0_19 h0_20 h0_21 h0_22 h0_23 h0_24 h0_25 h0_f26 h0_f27 h0_f28 h0_f29 h0_f30 h0_f31 h0_32 h0_33 h0_f34 h0_35 h0_36 h0_37 h0_38 h0_39 h0_40 h0_f41 h0_f42 h0_f43 h0_f44 h0_45 h0_46 h0_47 h0_48 h0_49 h0_50 h0_f51 h0_52 h0_f53 h0_5 h0_5k tN h0_5c h0_4 h0_4k h0_4c)) hP hD [0] [3, 1, 2] 3 rfl hqc (by decide +kernel) rfl hk1 hFc hP1 hD1
          generalize H1 = H at hP hS ⊢
          as_aux_lemma =>
          rcases hw with ⟨h_99, h_100⟩
          have h_100 : r_98 = _ := h_100
          replace hEX := hEX.trans (exc1_eq h_100)
          rw [h_99]
          refine lv_pop hx hb dX12_atom_85 rfl ?_
          exact hU _ _ _ (J86 x_45 x_45 g_h0_f10 g_h0_f17 g_h0_f26 g_h0_f27 g_h0_f28 g_h0_f29 g_h0_f30 g_h0_f31 g_h0_f34 g_h0_f41 g_h0_f51 g_h0_f53 g_h0_f6 g_h0_f7 g_h0_f8 (RG_w h_54 (by decide +kernel)) (RG_w h_53 (by decide +kernel)) (RG_w h_53 (by decide +kernel)) (by have := h_55; omega) hEX _ _ _ hP hD hS (lv_sub hl [1] rfl))
        · have h_96 : r_87 = _ := h_96
          replace hEX := hEX.trans (exc1_eq h_96)
          replace hEX := hEX.trans (if_neg (fun q9 : r_87 = 0 => absurd ((show r_87 = 1 from h_91).symm.trans q9) (by decide +kernel)))
          rw [h_91]
          have g_101 := h_95 h_91
          have g_102 : RG r_44 48 57 := RG_dig h_57.1 g_101 trivial h_52 (by decide +kernel)
          refine lv_if_ne (tgt := 86) hx hb dX12_atom_78 rfl (fun c_103 => ?_) (fun c_103 => absurd c_103 (by decide +kernel))
          exact hU _ _ _ (J86b x_45 g_h0_f10 g_h0_f17 g_h0_f26 g_h0_f27 g_h0_f28 g_h0_f29 g_h0_f30 g_h0_f31 g_h0_f34 g_h0_f41 g_h0_f51 g_h0_f53 g_h0_f6 g_h0_f7 g_h0_f8 h_54 h_53 (by have := h_55; omega) hEX _ _ _ hP hD hS (lv_sub hl [1] rfl))
      · replace hEX := hEX.trans (if_pos c_86)
        have g_104 : RG r_44 91 91 := RG_eq1 h_52 (RG_k 91 91 rfl) c_86 (by decide +kernel)
        refine lv_aload_n hx hb dX12_atom_37 rfl (lv_at hl 1 rfl) ?_
        as_aux_lemma =>
        obtain ⟨hPc, hDc, hFc, hqc⟩ := cl_cut (wc := (wd_c_X12_goesIn h0 h0_f0 h0_1 h0_2 h0_3 h0_4 h0_5 h0_f6 h0_f7 h0_f8 h0_f9 x_45 (-1) 0 h0_f13 h0_f14 h0_15 h0_16 h0_f17 h0_18 h0_19 h0_20 h0_21 h0_22 h0_23 h0_24 h0_25 h0_f26 h0_f27 h0_f28 h0_f29 h0_f30 h0_f31 h0_32 h0_33 h0_f34 h0_35 h0_36 h0_37 h0_38 h0_39 h0_40 h0_f41 h0_f42 h0_f43 h0_f44 h0_45 h0_46 h0_47 h0_48 h0_49 h0_50 h0_f51 h0_52 h0_f53)) hP hD hS hA [0] (by decide +kernel) rfl
        have hKc := hK.sub (tys' := []) [] rfl
        have hrv := va_recv hKc hPc (ci := 12) (q0 := 0) rfl rfl
        refine va_calli (va_runV (As := []) (rest := []) ⟨hx, hb, hml, hown, hts⟩ (c_X12_goesIn l dC dI H.size h0 h0_f0 h0_1 h0_2 h0_3 h0_4 h0_5 h0_f6 h0_f7 h0_f8 h0_f9 x_45 h0_f13 h0_f14 h0_15 h0_16 h0_f17 h0_18 h0_19 h0_20 h0_21 h0_22 h0_23 h0_24 h0_25 h0_f26 h0_f27 h0_f28 h0_f29 h0_f30 h0_f31 h0_32 h0_33 h0_f34 h0_35 h0_36 h0_37 h0_38 h0_39 h0_40 h0_f41 h0_f42 h0_f43 h0_f44 h0_45 h0_46 h0_47 h0_48 h0_49 h0_50 h0_f51 h0_52 h0_f53 g_h0_f6 g_h0_f7 g_h0_f8 (RG_w h_54 (by decide +kernel)) h_53 g_h0_f17 g_h0_f26 g_h0_f27 g_h0_f28 g_h0_f29 g_h0_f30 g_h0_f31 g_h0_f34 g_h0_f41 g_h0_f51 g_h0_f53) (cwV 0 hts gf_c_X12_atom_c_X12_goesIn rfl rfl rfl mdV_X12_goesIn ⟨Nat.le_of_ble_eq_true rfl, Nat.le_of_ble_eq_true rfl⟩) ⟨fun a U g mk q => by obtain ⟨q0, q1, qP, qK, qD⟩ := q; exact ⟨q0, q1, qP, va_K.moved (u := U) (U := U.calling g mk a) (Vm.Alike.refl U.vm) qK, qD⟩, hrv, fun U hU hW => ⟨rfl, by rw [hU], by rw [hU]; exact hPc, va_K.moved hW.alike hKc, hDc.weaken (fun _ _ _ _ => trivial)⟩⟩ rfl rfl hl.1 rfl (lv_room (Nat.le_of_ble_eq_true rfl)) dX12_atom_38 ⟨Nat.le_of_ble_eq_true rfl, Nat.le_of_ble_eq_true rfl⟩) hS (fun q _ h => hFc q h) hFc (fun r_105 x_106 t H1 locs ht hvm hw hB hz1 hk1 hS => ?_)
        obtain ⟨hP1, hK1, hD1⟩ := hB
        rw [ht] at hP1
        obtain ⟨hP, hD⟩ := cl_put (w1 := (wd_c_X12_goesIn h0 h0_f0 h0_1 h0_2 h0_3 h0_4 h0_5 h0_f6 h0_f7 h0_f8 h0_f9 x_106 (-1) 1 h0_f13 h0_f14 h0_15 h0_16 h0_f17 h0_18 h0_19 h0_20 h0_21 h0_22 h0_23 h0_24 h0_25 h0_f26 h0_f27 h0_f28 h0_f29 h0_f30 h0_f31 h0_32 h0_33 h0_f34 h0_35 h0_36 h0_37 h0_38 h0_39 h0_40 h0_f41 h0_f42 h0_f43 h0_f44 h0_45 h0_46 h0_47 h0_48 h0_49 h0_50 h0_f51 h0_52 h0_f53)) (nw := (wd_c_X12_atom h0 h0_f0 h0_1 h0_2 h0_3 h0_4 h0_5 h0_f6 h0_f7 h0_f8 h0_f9 x_106 (-1) 1 h0_f13 h0_f14 h0_15 h0_16 h0_f17 h0_18 h0_19 h0_20 h0_21 h0_22 h0_23 h0_24 h0_25 h0_f26 h0_f27 h0_f28 h0_f29 h0_f30 h0_f31 h0_32 h0_33 h0_f34 h0_35 h0_36 h0_37 h0_38 h0_39 h0_40 h0_f41 h0_f42 h0_f43 h0_f44 h0_45 h0_46 h0_47 h0_48 h0_49 h0_50 h0_f51 h0_52 h0_f53 h0_5 h0_5k tN h0_5c h0_4 h0_4k h0_4c)) hP hD [0] [3, 1, 2] 3 rfl hqc (by decide +kernel) rfl hk1 hFc hP1 hD1
        generalize H1 = H at hP hS ⊢
        as_aux_lemma =>
        rcases hw with ⟨h_107, h_108, h_109, h_110, h_111⟩
        have h_111 : (r_105, x_106) = _ := h_111
        replace hEX := hEX.trans (exc2_eq h_111)
        rw [h_107]
        refine lv_if_ne (tgt := 46) hx hb dX12_atom_41 rfl (fun c_112 => ?_) (fun c_112 => absurd c_112 (by decide +kernel))
        refine lv_aload_n hx hb dX12_atom_46 rfl (lv_at hl 1 rfl) ?_
        obtain ⟨hPc, hDc, hFc, hqc⟩ := cl_cut (wc := (wd_c_X12_sum_1 h0 h0_f0 h0_1 h0_2 h0_3 h0_4 h0_5 h0_f6 h0_f7 h0_f8 h0_f9 x_106 (-1) 1 h0_f13 h0_f14 h0_15 h0_16 h0_f17 h0_18 h0_19 h0_20 h0_21 h0_22 h0_23 h0_24 h0_25 h0_f26 h0_f27 h0_f28 h0_f29 h0_f30 h0_f31 h0_32 h0_33 h0_f34 h0_35 h0_36 h0_37 h0_38 h0_39 h0_40 h0_f41 h0_f42 h0_f43 h0_f44 h0_45 h0_46 h0_47 h0_48 h0_49 h0_50 h0_f51 h0_52 h0_f53 h0_5 h0_5k tN h0_5c h0_4 h0_4k h0_4c)) hP hD hS hA [0, 1, 2] (by decide +kernel) rfl
        have hKc := hK.sub (tys' := [(h0_5k, .byte), (h0_4k, .int)]) [0, 1] rfl
        have hrv := va_recv hKc hPc (ci := 12) (q0 := 0) rfl rfl
        refine va_calli (va_runV (As := []) (rest := []) ⟨hx, hb, hml, hown, hts⟩ (c_X12_sum_1 l dC dI H.size h0 h0_f0 h0_1 h0_2 h0_3 h0_4 h0_5 h0_f6 h0_f7 h0_f8 h0_f9 x_106 h0_f13 h0_f14 h0_15 h0_16 h0_f17 h0_18 h0_19 h0_20 h0_21 h0_22 h0_23 h0_24 h0_25 h0_f26 h0_f27 h0_f28 h0_f29 h0_f30 h0_f31 h0_32 h0_33 h0_f34 h0_35 h0_36 h0_37 h0_38 h0_39 h0_40 h0_f41 h0_f42 h0_f43 h0_f44 h0_45 h0_46 h0_47 h0_48 h0_49 h0_50 h0_f51 h0_52 h0_f53 h0_5k h0_5c tN h0_4k h0_4c ts7 tv7 g_h0_f6 g_h0_f7 g_h0_f8 (RG_w h_54 (by decide +kernel)) (RG_w h_108 (by decide +kernel)) g_h0_f17 g_h0_f26 g_h0_f27 g_h0_f28 g_h0_f29 g_h0_f30 g_h0_f31 g_h0_f34 g_h0_f41 g_h0_f51 g_h0_f53 htN a_h0_4c) (cwV 0 hts gf_c_X12_atom_c_X12_sum_1 rfl rfl rfl mdV_X12_sum ⟨Nat.le_of_ble_eq_true rfl, Nat.le_of_ble_eq_true rfl⟩) ⟨fun a U g mk q => by obtain ⟨q0, q1, qP, qK, qD, qE0, qE1, qE2, qE3, qE4, qE5, qE6⟩ := q; exact ⟨q0, q1, qP, va_K.moved (u := U) (U := U.calling g mk a) (Vm.Alike.refl U.vm) qK, qD, vk_R.same rfl qE0, va_OF.moved (u := U) (U := U.calling g mk a) (Vm.Alike.refl U.vm) qE1, va_T.moved (u := U) (U := U.calling g mk a) (Vm.Alike.refl U.vm) qE2, va_Z.moved (u := U) (U := U.calling g mk a) (Vm.Alike.refl U.vm) qE3, va_OF.moved (u := U) (U := U.calling g mk a) (Vm.Alike.refl U.vm) qE4, va_O.moved (u := U) (U := U.calling g mk a) (Vm.Alike.refl U.vm) qE5, va_Zq.moved (u := U) (U := U.calling g mk a) (Vm.Alike.refl U.vm) qE6⟩, hrv, fun U hU hW => ⟨rfl, by rw [hU], by rw [hU]; exact hPc, va_K.moved hW.alike hKc, hDc.weaken (fun _ _ _ _ => trivial), vk_R.warm hW hE_47, va_OF.moved hW.alike (by rw [hU]; exact (hE_50.kept hS.2.1).narrow hFc), va_T.moved hW.alike (by rw [hU]; exact (hE_51.kept hS.2.1).narrow hFc), va_Z.moved hW.alike (by rw [hU]; exact (hE_10.kept hS.2.1).narrow hFc), va_OF.moved hW.alike (by rw [hU]; exact (hE_49.kept hS.2.1).narrow hFc), va_O.moved hW.alike (by rw [hU]; exact (hE_48.kept hS.2.1).narrow hFc), va_Zq.moved hW.alike (by rw [hU]; exact (hE_11.kept hS.2.1).narrow hFc)⟩⟩ rfl rfl hl.1 rfl (lv_room (Nat.le_of_ble_eq_true rfl)) dX12_atom_47 ⟨Nat.le_of_ble_eq_true rfl, Nat.le_of_ble_eq_true rfl⟩) hS (fun q _ h => hFc q h) hFc (fun r_113 u t H1 locs ht hvm hw hB hz1 hk1 hS => ?_)
        obtain ⟨x_114, x_115, x_116⟩ := u
        obtain ⟨hP1, hK1, hD1⟩ := hB
        rw [ht] at hP1
        obtain ⟨hP, hD⟩ := cl_put (w1 := (wd_c_X12_sum_1 h0 h0_f0 h0_1 h0_2 h0_3 h0_4 h0_5 h0_f6 h0_f7 h0_f8 h0_f9 x_114 x_115 x_116 h0_f13 h0_f14 h0_15 h0_16 h0_f17 h0_18 h0_19 h0_20 h0_21 h0_22 h0_23 h0_24 h0_25 h0_f26 h0_f27 h0_f28 h0_f29 h0_f30 h0_f31 h0_32 h0_33 h0_f34 h0_35 h0_36 h0_37 h0_38 h0_39 h0_40 h0_f41 h0_f42 h0_f43 h0_f44 h0_45 h0_46 h0_47 h0_48 h0_49 h0_50 h0_f51 h0_52 h0_f53 h0_5 h0_5k tN h0_5c h0_4 h0_4k h0_4c)) (nw := (wd_c_X12_atom h0 h0_f0 h0_1 h0_2 h0_3 h0_4 h0_5 h0_f6 h0_f7 h0_f8 h0_f9 x_114 x_115 x_116 h0_f13 h0_f14 h0_15 h0_16 h0_f17 h0_18 h0_19 h0_20 h0_21 h0_22 h0_23 h0_24 h0_25 h0_f26 h0_f27 h0_f28 h0_f29 h0_f30 h0_f31 h0_32 h0_33 h0_f34 h0_35 h0_36 h0_37 h0_38 h0_39 h0_40 h0_f41 h0_f42 h0_f43 h0_f44 h0_45 h0_46 h0_47 h0_48 h0_49 h0_50 h0_f51 h0_52 h0_f53 h0_5 h0_5k tN h0_5c h0_4 h0_4k h0_4c)) hP hD [0, 1, 2] [3, 4, 5] 3 rfl hqc (by decide +kernel) rfl hk1 hFc hP1 hD1
        generalize H1 = H at hP hS ⊢
        as_aux_lemma =>
        rcases hw with ⟨h_117, h_118, h_119, h_120, h_121, h_122, h_123⟩ | ⟨h_124, h_125, h_126, h_127, h_128, h_129⟩
        · have h_123 : (r_113, x_114, x_115, x_116) = _ := h_123
          replace hEX := hEX.trans (exc4_eq h_123)
          replace hEX := hEX.trans (if_pos (show x_115 = (-1) from h_119))
          subst h_119
          subst h_120
          have h_122 : x_106.toInt + 0 ≤ x_114.toInt := h_122
          refine lv_istore_n (lv' := [(2, .int r_113), (1, .int r_44), (0, .ref h0)]) hx hb dX12_atom_50 rfl hl (Nat.le_of_ble_eq_true rfl) rfl (fun ls hl => ?_)
          refine lv_aload_n hx hb dX12_atom_51 rfl (lv_at hl 2 rfl) ?_
          refine lv_bipush (v := 93) hx hb dX12_atom_52 kc_bipush_93 ?_
          obtain ⟨hPc, hDc, hFc, hqc⟩ := cl_cut (wc := (wd_c_X12_takes_1 h0 h0_f0 h0_1 h0_2 h0_3 h0_4 h0_5 h0_f6 h0_f7 h0_f8 h0_f9 x_114 (-1) 1 h0_f13 h0_f14 h0_15 h0_16 h0_f17 h0_18 h0_19 h0_20 h0_21 h0_22 h0_23 h0_24 h0_25 h0_f26 h0_f27 h0_f28 h0_f29 h0_f30 h0_f31 h0_32 h0_33 h0_f34 h0_35 h0_36 h0_37 h0_38 h0_39 h0_40 h0_f41 h0_f42 h0_f43 h0_f44 h0_45 h0_46 h0_47 h0_48 h0_49 h0_50 h0_f51 h0_52 h0_f53 h0_5 h0_5k tN h0_5c)) hP hD hS hA [0, 1] (by decide +kernel) rfl
          have hKc := hK.sub (tys' := [(h0_5k, .byte)]) [0] rfl
          have hrv := va_recv hKc hPc (ci := 12) (q0 := 0) rfl rfl
          refine va_calli (va_runV (As := [.int 93]) (rest := []) ⟨hx, hb, hml, hown, hts⟩ (c_X12_takes_1 l dC dI H.size h0 93 h0_f0 h0_1 h0_2 h0_3 h0_4 h0_5 h0_f6 h0_f7 h0_f8 h0_f9 x_114 1 h0_f13 h0_f14 h0_15 h0_16 h0_f17 h0_18 h0_19 h0_20 h0_21 h0_22 h0_23 h0_24 h0_25 h0_f26 h0_f27 h0_f28 h0_f29 h0_f30 h0_f31 h0_32 h0_33 h0_f34 h0_35 h0_36 h0_37 h0_38 h0_39 h0_40 h0_f41 h0_f42 h0_f43 h0_f44 h0_45 h0_46 h0_47 h0_48 h0_49 h0_50 h0_f51 h0_52 h0_f53 h0_5k h0_5c tN (RG_w (RG_k 93 93 rfl) (by decide +kernel)) g_h0_f6 g_h0_f7 g_h0_f8 (RG_w h_54 (by decide +kernel)) h_118 g_h0_f17 g_h0_f26 g_h0_f27 g_h0_f28 g_h0_f29 g_h0_f30 g_h0_f31 g_h0_f34 g_h0_f41 g_h0_f51 g_h0_f53 htN) (cwV 1 hts gf_c_X12_atom_c_X12_takes_1 rfl rfl rfl mdV_X12_takes ⟨Nat.le_of_ble_eq_true rfl, Nat.le_of_ble_eq_true rfl⟩) ⟨fun a U g mk q => by obtain ⟨q0, q1, qP, qK, qD⟩ := q; exact ⟨q0, q1, qP, va_K.moved (u := U) (U := U.calling g mk a) (Vm.Alike.refl U.vm) qK, qD⟩, hrv, fun U hU hW => ⟨rfl, by rw [hU], by rw [hU]; exact hPc, va_K.moved hW.alike hKc, hDc.weaken (fun _ _ _ _ => trivial)⟩⟩ rfl rfl hl.1 rfl (lv_room (Nat.le_of_ble_eq_true rfl)) dX12_atom_54 ⟨Nat.le_of_ble_eq_true rfl, Nat.le_of_ble_eq_true rfl⟩) hS (fun q _ h => hFc q h) hFc (fun r_130 u t H1 locs ht hvm hw hB hz1 hk1 hS => ?_)
          as_aux_lemma =>
          obtain ⟨x_131, x_132⟩ := u
          obtain ⟨hP1, hK1, hD1⟩ := hB
          rw [ht] at hP1
          obtain ⟨hP, hD⟩ := cl_put (w1 := (wd_c_X12_takes_1 h0 h0_f0 h0_1 h0_2 h0_3 h0_4 h0_5 h0_f6 h0_f7 h0_f8 h0_f9 x_131 x_132 1 h0_f13 h0_f14 h0_15 h0_16 h0_f17 h0_18 h0_19 h0_20 h0_21 h0_22 h0_23 h0_24 h0_25 h0_f26 h0_f27 h0_f28 h0_f29 h0_f30 h0_f31 h0_32 h0_33 h0_f34 h0_35 h0_36 h0_37 h0_38 h0_39 h0_40 h0_f41 h0_f42 h0_f43 h0_f44 h0_45 h0_46 h0_47 h0_48 h0_49 h0_50 h0_f51 h0_52 h0_f53 h0_5 h0_5k tN h0_5c)) (nw := (wd_c_X12_atom h0 h0_f0 h0_1 h0_2 h0_3 h0_4 h0_5 h0_f6 h0_f7 h0_f8 h0_f9 x_131 x_132 1 h0_f13 h0_f14 h0_15 h0_16 h0_f17 h0_18 h0_19 h0_20 h0_21 h0_22 h0_23 h0_24 h0_25 h0_f26 h0_f27 h0_f28 h0_f29 h0_f30 h0_f31 h0_32 h0_33 h0_f34 h0_35 h0_36 h0_37 h0_38 h0_39 h0_40 h0_f41 h0_f42 h0_f43 h0_f44 h0_45 h0_46 h0_47 h0_48 h0_49 h0_50 h0_f51 h0_52 h0_f53 h0_5 h0_5k tN h0_5c h0_4 h0_4k h0_4c)) hP hD [0, 1] [3, 4, 2] 3 rfl hqc (by decide +kernel) rfl hk1 hFc hP1 hD1
          generalize H1 = H at hP hS ⊢
          as_aux_lemma =>
          rcases hw with ⟨h_133, h_134, h_135, h_136, h_137, h_138⟩ | ⟨h_139, h_140, h_141, h_142, h_143⟩
          · have h_138 : (r_130, x_131, x_132) = _ := h_138
            replace hEX := hEX.trans (exc3_eq h_138)
            replace hEX := hEX.trans (if_pos (show r_130 = 1 from h_133))
            rw [h_133]
            subst h_135
            have h_137 : x_114.toInt + 1 ≤ x_131.toInt := h_137
            refine lv_if_ne (tgt := 62) hx hb dX12_atom_57 rfl (fun c_144 => ?_) (fun c_144 => absurd c_144 (by decide +kernel))
            refine lv_aload_n hx hb dX12_atom_62 rfl (lv_at hl 2 rfl) ?_
            refine lv_dup hx hb dX12_atom_63 rfl ?_
            refine va_get (D := (dC, dI)) (ci := 12) (v := .int 1) (C := RX12) (T := TX12) (N := 54) hx hb hts iw_c_X12_atom_X12 hown hK hP 0 rfl rfl 12 (by decide +kernel) (hts (.fieldLink RX12 146 "BuoyVoteModel" "deep" "I") (List.mem_of_getElem? (i := 58) rfl)) (fun _ h9 => h9) rfl dX12_atom_64 ?_
            refine lv_iconst (v := 1) hx hb dX12_atom_67 kc_iconst_1 ?_
            refine lv_isub hx hb dX12_atom_68 ?_
            refine lv_topi (fun x_145 ex_145 => ?_)
            as_aux_lemma =>
            obtain rfl : x_145 = 0 := ex_145.trans (by decide +kernel)
            refine va_put (D := (dC, dI)) (ci := 12) (v := .int 0) (ty := .int) (C := RX12) (T := TX12) (N := 54) hx hb hts iw_c_X12_atom_X12 tyX12 tyX12_ok nmX12 hown hK hP hD hS 0 rfl rfl 12 (by decide +kernel) (hts (.fieldLink RX12 146 "BuoyVoteModel" "deep" "I") (List.mem_of_getElem? (i := 58) rfl)) (fun _ h9 => h9) rfl (by decide +kernel) rfl rfl (Nat.le_of_ble_eq_true rfl) dX12_atom_69 (fun H locs hP hD hS => ?_)
            have hP : va_P (dC, dI) vwCl (wd_c_X12_atom h0 h0_f0 h0_1 h0_2 h0_3 h0_4 h0_5 h0_f6 h0_f7 h0_f8 h0_f9 x_131 (-1) 0 h0_f13 h0_f14 h0_15 h0_16 h0_f17 h0_18 h0_19 h0_20 h0_21 h0_22 h0_23 h0_24 h0_25 h0_f26 h0_f27 h0_f28 h0_f29 h0_f30 h0_f31 h0_32 h0_33 h0_f34 h0_35 h0_36 h0_37 h0_38 h0_39 h0_40 h0_f41 h0_f42 h0_f43 h0_f44 h0_45 h0_46 h0_47 h0_48 h0_49 h0_50 h0_f51 h0_52 h0_f53 h0_5 h0_5k tN h0_5c h0_4 h0_4k h0_4c) H := hP
            have hD : va_D A (wd_c_X12_atom h0 h0_f0 h0_1 h0_2 h0_3 h0_4 h0_5 h0_f6 h0_f7 h0_f8 h0_f9 x_131 (-1) 0 h0_f13 h0_f14 h0_15 h0_16 h0_f17 h0_18 h0_19 h0_20 h0_21 h0_22 h0_23 h0_24 h0_25 h0_f26 h0_f27 h0_f28 h0_f29 h0_f30 h0_f31 h0_32 h0_33 h0_f34 h0_35 h0_36 h0_37 h0_38 h0_39 h0_40 h0_f41 h0_f42 h0_f43 h0_f44 h0_45 h0_46 h0_47 h0_48 h0_49 h0_50 h0_f51 h0_52 h0_f53 h0_5 h0_5k tN h0_5c h0_4 h0_4k h0_4c) := hD
            refine lv_iload_n hx hb dX12_atom_72 rfl (lv_at hl 0 rfl) ?_
            have hK9 := hK.sub (tys' := []) [] rfl
            exact W.iret (v := r_113) hx hb hr (fun t ht hW => ⟨⟨r_113, (x_131, (-1), 0), rfl, (Or.inl ⟨h_117, (RG_w h_134 (by decide +kernel)), rfl, rfl, h_54, (by have := h_55; have := h_110; have := h_122; have := h_137; show h0_f10.toInt + 0 ≤ x_131.toInt; omega), (hR.trans hEX).symm⟩), by rw [ht]; exact hP, va_K.moved hW.alike hK9, hD⟩, hS.F ht⟩) hS.2.2 dX12_atom_73
          · have h_143 : (r_130, x_131, x_132) = _ := h_143
            replace hEX := hEX.trans (exc3_eq h_143)
            replace hEX := hEX.trans (if_neg (fun q9 : r_130 = 1 => absurd ((show r_130 = 0 from h_139).symm.trans q9) (by decide +kernel)))
            rw [h_139]
            have h_142 : x_114.toInt + 0 ≤ x_131.toInt := h_142
            refine lv_if_ne (tgt := 62) hx hb dX12_atom_57 rfl (fun c_146 => absurd c_146 (by decide +kernel)) (fun c_146 => ?_)
            refine lv_iconst (v := 0) hx hb dX12_atom_60 kc_iconst_0 ?_
            as_aux_lemma =>
            have hK9 := hK.sub (tys' := []) [] rfl
            exact W.iret (v := 0) hx hb hr (fun t ht hW => ⟨⟨0, (x_131, x_132, 1), rfl, (Or.inr ⟨rfl, h_140, h_141, (RG_w (RG_k 1 1 rfl) (by decide +kernel)), (by have := h_55; have := h_110; have := h_122; have := h_142; show h0_f10.toInt + 0 ≤ x_131.toInt; omega), (hR.trans hEX).symm⟩), by rw [ht]; exact hP, va_K.moved hW.alike hK9, hD⟩, hS.F ht⟩) hS.2.2 dX12_atom_61
        · have h_129 : (r_113, x_114, x_115, x_116) = _ := h_129
          replace hEX := hEX.trans (exc4_eq h_129)
          replace hEX := hEX.trans (if_neg (RG_neq (x := x_115) (c := (-1)) (show RG x_115 0 240 from h_126) (by decide +kernel)))
          have h_128 : x_106.toInt + 0 ≤ x_114.toInt := h_128
          refine lv_istore_n (lv' := [(2, .int r_113), (1, .int r_44), (0, .ref h0)]) hx hb dX12_atom_50 rfl hl (Nat.le_of_ble_eq_true rfl) rfl (fun ls hl => ?_)
          refine lv_aload_n hx hb dX12_atom_51 rfl (lv_at hl 2 rfl) ?_
          refine lv_bipush (v := 93) hx hb dX12_atom_52 kc_bipush_93 ?_
          obtain ⟨hPc, hDc, hFc, hqc⟩ := cl_cut (wc := (wd_c_X12_takes_2 h0 h0_f0 h0_1 h0_2 h0_3 h0_4 h0_5 h0_f6 h0_f7 h0_f8 h0_f9 x_114 x_115 x_116 h0_f13 h0_f14 h0_15 h0_16 h0_f17 h0_18 h0_19 h0_20 h0_21 h0_22 h0_23 h0_24 h0_25 h0_f26 h0_f27 h0_f28 h0_f29 h0_f30 h0_f31 h0_32 h0_33 h0_f34 h0_35 h0_36 h0_37 h0_38 h0_39 h0_40 h0_f41 h0_f42 h0_f43 h0_f44 h0_45 h0_46 h0_47 h0_48 h0_49 h0_50 h0_f51 h0_52 h0_f53)) hP hD hS hA [0] (by decide +kernel) rfl
          have hKc := hK.sub (tys' := []) [] rfl
          have hrv := va_recv hKc hPc (ci := 12) (q0 := 0) rfl rfl
          refine va_calli (va_runV (As := [.int 93]) (rest := []) ⟨hx, hb, hml, hown, hts⟩ (c_X12_takes_2 l dC dI H.size h0 93 h0_f0 h0_1 h0_2 h0_3 h0_4 h0_5 h0_f6 h0_f7 h0_f8 h0_f9 x_114 x_115 x_116 h0_f13 h0_f14 h0_15 h0_16 h0_f17 h0_18 h0_19 h0_20 h0_21 h0_22 h0_23 h0_24 h0_25 h0_f26 h0_f27 h0_f28 h0_f29 h0_f30 h0_f31 h0_32 h0_33 h0_f34 h0_35 h0_36 h0_37 h0_38 h0_39 h0_40 h0_f41 h0_f42 h0_f43 h0_f44 h0_45 h0_46 h0_47 h0_48 h0_49 h0_50 h0_f51 h0_52 h0_f53 (RG_w (RG_k 93 93 rfl) (by decide +kernel)) g_h0_f6 g_h0_f7 g_h0_f8 (RG_w h_54 (by decide +kernel)) h_125 h_126 g_h0_f17 g_h0_f26 g_h0_f27 g_h0_f28 g_h0_f29 g_h0_f30 g_h0_f31 g_h0_f34 g_h0_f41 g_h0_f51 g_h0_f53) (cwV 1 hts gf_c_X12_atom_c_X12_takes_2 rfl rfl rfl mdV_X12_takes ⟨Nat.le_of_ble_eq_true rfl, Nat.le_of_ble_eq_true rfl⟩) ⟨fun a U g mk q => by obtain ⟨q0, q1, qP, qK, qD⟩ := q; exact ⟨q0, q1, qP, va_K.moved (u := U) (U := U.calling g mk a) (Vm.Alike.refl U.vm) qK, qD⟩, hrv, fun U hU hW => ⟨rfl, by rw [hU], by rw [hU]; exact hPc, va_K.moved hW.alike hKc, hDc.weaken (fun _ _ _ _ => trivial)⟩⟩ rfl rfl hl.1 rfl (lv_room (Nat.le_of_ble_eq_true rfl)) dX12_atom_54 ⟨Nat.le_of_ble_eq_true rfl, Nat.le_of_ble_eq_true rfl⟩) hS (fun q _ h => hFc q h) hFc (fun r_147 u t H1 locs ht hvm hw hB hz1 hk1 hS => ?_)
          obtain ⟨hP1, hK1, hD1⟩ := hB
          rw [ht] at hP1
          obtain ⟨hP, hD⟩ := cl_put (w1 := (wd_c_X12_takes_2 h0 h0_f0 h0_1 h0_2 h0_3 h0_4 h0_5 h0_f6 h0_f7 h0_f8 h0_f9 x_114 x_115 x_116 h0_f13 h0_f14 h0_15 h0_16 h0_f17 h0_18 h0_19 h0_20 h0_21 h0_22 h0_23 h0_24 h0_25 h0_f26 h0_f27 h0_f28 h0_f29 h0_f30 h0_f31 h0_32 h0_33 h0_f34 h0_35 h0_36 h0_37 h0_38 h0_39 h0_40 h0_f41 h0_f42 h0_f43 h0_f44 h0_45 h0_46 h0_47 h0_48 h0_49 h0_50 h0_f51 h0_52 h0_f53)) (nw := (wd_c_X12_atom h0 h0_f0 h0_1 h0_2 h0_3 h0_4 h0_5 h0_f6 h0_f7 h0_f8 h0_f9 x_114 x_115 x_116 h0_f13 h0_f14 h0_15 h0_16 h0_f17 h0_18 h0_19 h0_20 h0_21 h0_22 h0_23 h0_24 h0_25 h0_f26 h0_f27 h0_f28 h0_f29 h0_f30 h0_f31 h0_32 h0_33 h0_f34 h0_35 h0_36 h0_37 h0_38 h0_39 h0_40 h0_f41 h0_f42 h0_f43 h0_f44 h0_45 h0_46 h0_47 h0_48 h0_49 h0_50 h0_f51 h0_52 h0_f53 h0_5 h0_5k tN h0_5c h0_4 h0_4k h0_4c)) hP hD [0] [3, 1, 2] 3 rfl hqc (by decide +kernel) rfl hk1 hFc hP1 hD1
          generalize H1 = H at hP hS ⊢
          as_aux_lemma =>
          rcases hw with ⟨h_148, h_149⟩
          have h_149 : r_147 = _ := h_149
          replace hEX := hEX.trans (exc1_eq h_149)
          rw [h_148]
          refine lv_if_ne (tgt := 62) hx hb dX12_atom_57 rfl (fun c_150 => absurd c_150 (by decide +kernel)) (fun c_150 => ?_)
          refine lv_iconst (v := 0) hx hb dX12_atom_60 kc_iconst_0 ?_
          have hK9 := hK.sub (tys' := []) [] rfl
          exact W.iret (v := 0) hx hb hr (fun t ht hW => ⟨⟨0, (x_114, x_115, x_116), rfl, (Or.inr ⟨rfl, h_125, h_126, (RG_w h_127 (by decide +kernel)), (by have := h_55; have := h_110; have := h_128; show h0_f10.toInt + 0 ≤ x_114.toInt; omega), (hR.trans hEX).symm⟩), by rw [ht]; exact hP, va_K.moved hW.alike hK9, hD⟩, hS.F ht⟩) hS.2.2 dX12_atom_61
    · have h_84 : r_79 = _ := h_84
      replace hEX := hEX.trans (exc1_eq h_84)
      replace hEX := hEX.trans (if_neg (fun q9 : r_79 = 0 => absurd ((show r_79 = 1 from h_82).symm.trans q9) (by decide +kernel)))
      rw [h_82]
      refine lv_if_eq (tgt := 31) hx hb dX12_atom_11 rfl (fun c_151 => absurd c_151 (by decide +kernel)) (fun c_151 => ?_)
      refine lv_aload_n hx hb dX12_atom_14 rfl (lv_at hl 1 rfl) ?_
      as_aux_lemma =>
      refine lv_dup hx hb dX12_atom_15 rfl ?_
      refine va_get (D := (dC, dI)) (ci := 12) (v := .int x_45) (C := RX12) (T := TX12) (N := 54) hx hb hts iw_c_X12_atom_X12 hown hK hP 0 rfl rfl 10 (by decide +kernel) (hts (.fieldLink RX12 134 "BuoyVoteModel" "at" "I") (List.mem_of_getElem? (i := 6) rfl)) (fun _ h9 => h9) rfl dX12_atom_16 ?_
      refine lv_iconst (v := 1) hx hb dX12_atom_19 kc_iconst_1 ?_
      refine lv_iadd hx hb dX12_atom_20 ?_
      refine lv_topi (fun x_152 ex_152 => ?_)
      replace hEX := hEX.trans (exl_eq ex_152)
      have g_153 : RG x_152 1 240 := RG_add ex_152 h_53 (RG_k 1 1 rfl) (by decide +kernel)
      have q_154 : x_152.toInt = x_45.toInt + 1 := eq_add ex_152 h_53 (q := 1) rfl (by decide +kernel)
      refine va_put (D := (dC, dI)) (ci := 12) (v := .int x_152) (ty := .int) (C := RX12) (T := TX12) (N := 54) hx hb hts iw_c_X12_atom_X12 tyX12 tyX12_ok nmX12 hown hK hP hD hS 0 rfl rfl 10 (by decide +kernel) (hts (.fieldLink RX12 134 "BuoyVoteModel" "at" "I") (List.mem_of_getElem? (i := 6) rfl)) (fun _ h9 => h9) rfl (by decide +kernel) rfl rfl (Nat.le_of_ble_eq_true rfl) dX12_atom_21 (fun H locs hP hD hS => ?_)
      have hP : va_P (dC, dI) vwCl (wd_c_X12_atom h0 h0_f0 h0_1 h0_2 h0_3 h0_4 h0_5 h0_f6 h0_f7 h0_f8 h0_f9 x_152 (-1) 0 h0_f13 h0_f14 h0_15 h0_16 h0_f17 h0_18 h0_19 h0_20 h0_21 h0_22 h0_23 h0_24 h0_25 h0_f26 h0_f27 h0_f28 h0_f29 h0_f30 h0_f31 h0_32 h0_33 h0_f34 h0_35 h0_36 h0_37 h0_38 h0_39 h0_40 h0_f41 h0_f42 h0_f43 h0_f44 h0_45 h0_46 h0_47 h0_48 h0_49 h0_50 h0_f51 h0_52 h0_f53 h0_5 h0_5k tN h0_5c h0_4 h0_4k h0_4c) H := hP
      have hD : va_D A (wd_c_X12_atom h0 h0_f0 h0_1 h0_2 h0_3 h0_4 h0_5 h0_f6 h0_f7 h0_f8 h0_f9 x_152 (-1) 0 h0_f13 h0_f14 h0_15 h0_16 h0_f17 h0_18 h0_19 h0_20 h0_21 h0_22 h0_23 h0_24 h0_25 h0_f26 h0_f27 h0_f28 h0_f29 h0_f30 h0_f31 h0_32 h0_33 h0_f34 h0_35 h0_36 h0_37 h0_38 h0_39 h0_40 h0_f41 h0_f42 h0_f43 h0_f44 h0_45 h0_46 h0_47 h0_48 h0_49 h0_50 h0_f51 h0_52 h0_f53 h0_5 h0_5k tN h0_5c h0_4 h0_4k h0_4c) := hD
      refine lv_aload_n hx hb dX12_atom_24 rfl (lv_at hl 1 rfl) ?_
      refine va_get (D := (dC, dI)) (ci := 12) (v := .ref h0_4) (C := RX12) (T := TX12) (N := 54) hx hb hts iw_c_X12_atom_X12 hown hK hP 0 rfl rfl 4 (by decide +kernel) (hts (.fieldLink RX12 20 "BuoyVoteModel" "letters" "[I") (List.mem_of_getElem? (i := 70) rfl)) (fun _ h9 => h9) rfl dX12_atom_25 ?_
      refine lv_iload_n hx hb dX12_atom_28 rfl (lv_at hl 0 rfl) ?_
      as_aux_lemma =>
      refine va_iald hx hb hK hP 2 1 rfl rfl (RG_in h_83 (by decide +kernel)) dX12_atom_29 ?_
      refine lv_topi (fun x_155 ex_155 => ?_)
      replace hEX := hEX.trans (exl_eq ex_155)
      have hK9 := hK.sub (tys' := []) [] rfl
      exact W.iret (v := x_155) hx hb hr (fun t ht hW => ⟨⟨x_155, (x_152, (-1), 0), rfl, (Or.inl ⟨(RG_any x_155), (RG_w g_153 (by decide +kernel)), rfl, rfl, h_54, (by have := h_55; have := q_154; show h0_f10.toInt + 0 ≤ x_152.toInt; omega), (hR.trans hEX).symm⟩), by rw [ht]; exact hP, va_K.moved hW.alike hK9, hD⟩, hS.F ht⟩) hS.2.2 dX12_atom_30
noncomputable def wd_c_X12_term (a0 : Nat) (a1 : Int32) (a2 : Nat) (a3 : Nat) (a4 : Nat) (a5 : Nat) (a6 : Nat) (a7 : Int32) (a8 : Int32) (a9 : Int32) (a10 : Int32) (a11 : Int32) (a12 : Int32) (a13 : Int32) (a14 : Int32) (a15 : Int32) (a16 : Nat) (a17 : Nat) (a18 : Int32) (a19 : Nat) (a20 : Nat) (a21 : Nat) (a22 : Nat) (a23 : Nat) (a24 : Nat) (a25 : Nat) (a26 : Nat) (a27 : Int32) (a28 : Int32) (a29 : Int32) (a30 : Int32) (a31 : Int32) (a32 : Int32) (a33 : Nat) (a34 : Nat) (a35 : Int32) (a36 : Nat) (a37 : Nat) (a38 : Nat) (a39 : Nat) (a40 : Nat) (a41 : Nat) (a42 : Int32) (a43 : Int64) (a44 : Int32) (a45 : Int32) (a46 : Nat) (a47 : Nat) (a48 : Nat) (a49 : Nat) (a50 : Nat) (a51 : Nat) (a52 : Int32) (a53 : Nat) (a54 : Int32) (a55 : Nat) (a56 : ClassId) (a57 : Nat) (a58 : Nat → Int32) (a59 : Nat) (a60 : ClassId) (a61 : Nat → Int32) : va_W := [(a0, .inr (12, [.int a1, .ref a2, .ref a3, .ref a4, .ref a5, .ref a6, .int a7, .int a8, .int a9, .int a10, .int a11, .int a12, .int a13, .int a14, .int a15, .ref a16, .ref a17, .int a18, .ref a19, .ref a20, .ref a21, .ref a22, .ref a23, .ref a24, .ref a25, .ref a26, .int a27, .int a28, .int a29, .int a30, .int a31, .int a32, .ref a33, .ref a34, .int a35, .ref a36, .ref a37, .ref a38, .ref a39, .ref a40, .ref a41, .int a42, .long a43, .int a44, .int a45, .ref a46, .ref a47, .ref a48, .ref a49, .ref a50, .ref a51, .int a52, .ref a53, .int a54])), (a55, .inl (a56, a57, .inl a58)), (a59, .inl (a60, 128, .inl a61))]
noncomputable def wf_c_X12_term : List Cond := List.cons (.code yX12_term cX12_term 5 (some .int)) (@HAppend.hAppend (List Cond) (List Cond) (List Cond) _ [.methodLink RX12 186 yX12_atom, .instanceMethod yX12_atom, .selects RX12 yX12_atom yX12_atom, .initialized RX12, .code yX12_atom cX12_atom 4 (some .int), .methodLink RX12 153 yX12_look, .instanceMethod yX12_look, .selects RX12 yX12_look yX12_look, .code yX12_look cX12_look 1 (some .int), .fieldLink RX12 134 "BuoyVoteModel" "at" "I", .fieldLink RX12 137 "BuoyVoteModel" "ends" "I", .fieldLink RX12 23 "BuoyVoteModel" "text" "[B", .fieldLink RX12 140 "BuoyVoteModel" "begins" "I", .methodLink RX12 169 yX12_isAmong, .static yX12_isAmong, .code yX12_isAmong cX12_isAmong 3 (some .boolean), .methodLink RX12 114 yJ0_length_8abf5, .instanceMethod yJ0_length_8abf5, .selects RJ0 yJ0_length_8abf5 yJ0_length_8abf5, .initialized RJ0, .code yJ0_length_8abf5 cJ0_length_8abf5 1 (some .int), .fieldLink RJ0 9 "java/lang/String" "value" "[B", .methodLink RJ0 335 yJ0_coder_7d493, .instanceMethod yJ0_coder_7d493, .selects RJ0 yJ0_coder_7d493 yJ0_coder_7d493, .code yJ0_coder_7d493 cJ0_coder_7d493 1 (some .byte), .fieldLink RJ0 38 "java/lang/String" "COMPACT_STRINGS" "Z", .fieldLink RJ0 15 "java/lang/String" "coder" "B", .methodLink RX12 120 yJ0_charAt_5068e, .instanceMethod yJ0_charAt_5068e, .selects RJ0 yJ0_charAt_5068e yJ0_charAt_5068e, .code yJ0_charAt_5068e cJ0_charAt_5068e 2 (some .char), .methodLink RJ0 492 yJ0_isLatin1_aae02, .instanceMethod yJ0_isLatin1_aae02, .selects RJ0 yJ0_isLatin1_aae02 yJ0_isLatin1_aae02, .code yJ0_isLatin1_aae02 cJ0_isLatin1_aae02 1 (some .boolean), .methodLink RJ0 495 yJ1_charAt_3b067, .static yJ1_charAt_3b067, .initialized RJ1, .code yJ1_charAt_3b067 cJ1_charAt_3b067 2 (some .char), .methodLink RJ1 9 yJ0_checkIndex_df160, .static yJ0_checkIndex_df160, .code yJ0_checkIndex_df160 cJ0_checkIndex_df160 2 none, .fieldLink RJ0 1053 "jdk/internal/util/Preconditions" "SIOOBE_FORMATTER" "Ljava/util/function/BiFunction;", .methodLink RJ0 1059 yJ3_checkIndex_8e157, .static yJ3_checkIndex_8e157, .initialized RJ3, .code yJ3_checkIndex_8e157 cJ3_checkIndex_8e157 3 (some .int), .methodLink RX12 183 yX12_isDigit, .instanceMethod yX12_isDigit, .selects RX12 yX12_isDigit yX12_isDigit, .code yX12_isDigit cX12_isDigit 1 (some .boolean), .methodLink RX12 149 yX12_fails, .instanceMethod yX12_fails, .selects RX12 yX12_fails yX12_fails, .code yX12_fails cX12_fails 1 (some .boolean), .fieldLink RX12 143 "BuoyVoteModel" "fault" "I", .methodLink RX12 173 yX12_goesIn, .instanceMethod yX12_goesIn, .selects RX12 yX12_goesIn yX12_goesIn, .code yX12_goesIn cX12_goesIn 1 (some .boolean), .fieldLink RX12 146 "BuoyVoteModel" "deep" "I", .methodLink RX12 176 yX12_sum, .instanceMethod yX12_sum, .selects RX12 yX12_sum yX12_sum, .code yX12_sum cX12_sum 5 (some .int), .methodLink RX12 193 yX12_term, .instanceMethod yX12_term, .selects RX12 yX12_term yX12_term, .fieldLink RX12 20 "BuoyVoteModel" "letters" "[I", .methodLink RX12 189 yX12_within, .static yX12_within, .code yX12_within cX12_within 2 (some .int), .constantLong RX12 156 (-1000000), .constantLong RX12 158 (1000000), .methodLink RX12 160 Lib.MathLoose.min_long.x, .static Lib.MathLoose.min_long.x, .initialized "java/lang/Math", .code Lib.MathLoose.min_long.x Lib.MathLoose.min_long.code 4 (some .long), .methodLink RX12 166 Lib.MathLoose.max_long.x, .static Lib.MathLoose.max_long.x, .code Lib.MathLoose.max_long.x Lib.MathLoose.max_long.code 4 (some .long), .methodLink RX12 179 yX12_takes, .instanceMethod yX12_takes, .selects RX12 yX12_takes yX12_takes, .code yX12_takes cX12_takes 2 (some .boolean)] wsX120)
theorem iw_c_X12_term_X12 : ∀ w ∈ wsX120, w ∈ wf_c_X12_term := fun w h => List.mem_cons_of_mem _ (List.mem_append_right _ h)
set_option maxRecDepth 20000 in
theorem gf_c_X12_term_c_X12_within : GoodIn wf_c_X12_term (va_wsS RX12 189 yX12_within wf_c_X12_within) := goodIn_app (gi_l [71, 72, 4] rfl rfl) (gi_cons (j := 73) rfl rfl (gi_l [74, 75, 76, 77, 78, 79, 80, 81, 82] rfl rfl))
set_option maxRecDepth 20000 in
theorem gf_c_X12_term_c_X12_within_2 : GoodIn wf_c_X12_term (va_wsS RX12 189 yX12_within wf_c_X12_within_2) := goodIn_app (gi_l [71, 72, 4] rfl rfl) (gi_cons (j := 73) rfl rfl (gi_l [74, 75, 76, 77, 78, 79, 80, 81, 82] rfl rfl))
set_option maxRecDepth 20000 in
theorem gf_c_X12_term_c_X12_within_1 : GoodIn wf_c_X12_term (va_wsS RX12 189 yX12_within wf_c_X12_within_1) := goodIn_app (gi_l [71, 72, 4] rfl rfl) (gi_cons (j := 73) rfl rfl (gi_l [74, 75, 76, 77, 78, 79, 80, 81, 82] rfl rfl))
set_option maxRecDepth 20000 in
theorem gf_c_X12_term_c_X12_atom : GoodIn wf_c_X12_term (wsV RX12 186 RX12 yX12_atom wf_c_X12_atom) := goodIn_app (gi_l [1, 2, 3, 4] rfl rfl) (gi_cons (j := 5) rfl rfl (goodIn_app (gi_l [6, 7, 8, 4, 9, 10, 11, 12, 13, 14, 15, 16, 17, 18, 19, 20, 21, 22, 23, 24, 25, 26, 27, 28, 29, 30, 31, 32, 33, 34, 35, 36, 37, 38, 39, 40, 41, 42, 43, 44, 45, 46, 47, 48, 49, 50, 51, 52, 53, 54, 55, 56, 57, 58, 59, 60, 61, 62, 63, 64, 65, 66, 67, 68, 69, 0, 1, 2, 3, 70, 71, 72, 73, 74, 75, 76, 77, 78, 79, 80, 81, 82, 83, 84, 85, 86] rfl rfl) (goodIn_sub iw_c_X12_term_X12 gw_X12)))
set_option maxRecDepth 20000 in
theorem gf_c_X12_term_c_X12_look : GoodIn wf_c_X12_term (wsV RX12 153 RX12 yX12_look wf_c_X12_look) := goodIn_app (gi_l [6, 7, 8, 4] rfl rfl) (gi_cons (j := 9) rfl rfl (goodIn_app (gi_l [10, 11, 12, 13] rfl rfl) (goodIn_sub iw_c_X12_term_X12 gw_X12)))
set_option maxRecDepth 20000 in
theorem gf_c_X12_term_c_X12_look_1 : GoodIn wf_c_X12_term (wsV RX12 153 RX12 yX12_look wf_c_X12_look_1) := goodIn_app (gi_l [6, 7, 8, 4] rfl rfl) (gi_cons (j := 9) rfl rfl (goodIn_app (gi_l [10, 11, 12, 13] rfl rfl) (goodIn_sub iw_c_X12_term_X12 gw_X12)))
set_option maxHeartbeats 4000000 in
set_option maxRecDepth 100000 in
theorem c_X12_term (l : Launch) (dC : Nat → ClassId) (dI : Nat → Nat → Nat) (sz : Nat) (h0 : Nat) (h0_f0 : Int32) (h0_1 : Nat) (h0_2 : Nat) (h0_3 : Nat) (h0_4 : Nat) (h0_5 : Nat) (h0_f6 : Int32) (h0_f7 : Int32) (h0_f8 : Int32) (h0_f9 : Int32) (h0_f10 : Int32) (h0_f13 : Int32) (h0_f14 : Int32) (h0_15 : Nat) (h0_16 : Nat) (h0_f17 : Int32) (h0_18 : Nat) (h0_19 : Nat) (h0_20 : Nat) (h0_21 : Nat) (h0_22 : Nat) (h0_23 : Nat) (h0_24 : Nat) (h0_25 : Nat) (h0_f26 : Int32) (h0_f27 : Int32) (h0_f28 : Int32) (h0_f29 : Int32) (h0_f30 : Int32) (h0_f31 : Int32) (h0_32 : Nat) (h0_33 : Nat) (h0_f34 : Int32) (h0_35 : Nat) (h0_36 : Nat) (h0_37 : Nat) (h0_38 : Nat) (h0_39 : Nat) (h0_40 : Nat) (h0_f41 : Int32) (h0_f42 : Int64) (h0_f43 : Int32) (h0_f44 : Int32) (h0_45 : Nat) (h0_46 : Nat) (h0_47 : Nat) (h0_48 : Nat) (h0_49 : Nat) (h0_50 : Nat) (h0_f51 : Int32) (h0_52 : Nat) (h0_f53 : Int32) (h0_5k : ClassId) (h0_5c : Nat → Int32) (tN : Nat) (h0_4k : ClassId) (h0_4c : Nat → Int32) (ts7 : Nat) (tv7 : Nat) (g_h0_f6 : RG h0_f6 0 240) (g_h0_f7 : RG h0_f7 0 4) (g_h0_f8 : RG h0_f8 0 720) (g_h0_f9 : RG h0_f9 0 240) (g_h0_f10 : RG h0_f10 0 240) (g_h0_f17 : RG h0_f17 0 1) (g_h0_f26 : RG h0_f26 0 8) (g_h0_f27 : RG h0_f27 0 3) (g_h0_f28 : RG h0_f28 0 8) (g_h0_f29 : RG h0_f29 0 3) (g_h0_f30 : RG h0_f30 0 4) (g_h0_f31 : RG h0_f31 0 1) (g_h0_f34 : RG h0_f34 (-1) 3) (g_h0_f41 : RG h0_f41 0 40) (g_h0_f51 : RG h0_f51 0 10) (g_h0_f53 : RG h0_f53 0 1) (htN : h0_f8.toInt + 240 ≤ (tN : Int)) (a_h0_4c : AP tLet h0_4c) : Met l yX12_term wf_c_X12_term ({ frames := 24, cells := 0, slots := 0, locals := 556 }) (va_Pc [.ref h0] (fun U => U.heap.size = sz ∧ va_P (dC, dI) vwCl (wd_c_X12_term h0 h0_f0 h0_1 h0_2 h0_3 h0_4 h0_5 h0_f6 h0_f7 h0_f8 h0_f9 h0_f10 (-1) 0 h0_f13 h0_f14 h0_15 h0_16 h0_f17 h0_18 h0_19 h0_20 h0_21 h0_22 h0_23 h0_24 h0_25 h0_f26 h0_f27 h0_f28 h0_f29 h0_f30 h0_f31 h0_32 h0_33 h0_f34 h0_35 h0_36 h0_37 h0_38 h0_39 h0_40 h0_f41 h0_f42 h0_f43 h0_f44 h0_45 h0_46 h0_47 h0_48 h0_49 h0_50 h0_f51 h0_52 h0_f53 h0_5 h0_5k tN h0_5c h0_4 h0_4k h0_4c) U.heap ∧ va_K (dC, dI) vwCl [(h0_5k, .byte), (h0_4k, .int)] U ∧ va_D (fun _ => True) (wd_c_X12_term h0 h0_f0 h0_1 h0_2 h0_3 h0_4 h0_5 h0_f6 h0_f7 h0_f8 h0_f9 h0_f10 (-1) 0 h0_f13 h0_f14 h0_15 h0_16 h0_f17 h0_18 h0_19 h0_20 h0_21 h0_22 h0_23 h0_24 h0_25 h0_f26 h0_f27 h0_f28 h0_f29 h0_f30 h0_f31 h0_32 h0_33 h0_f34 h0_35 h0_36 h0_37 h0_38 h0_39 h0_40 h0_f41 h0_f42 h0_f43 h0_f44 h0_45 h0_46 h0_47 h0_48 h0_49 h0_50 h0_f51 h0_52 h0_f53 h0_5 h0_5k tN h0_5c h0_4 h0_4k h0_4c) ∧ vk_R RX12 32 "vlrdph" ts7 U ∧ va_OF "java/lang/String" "value" "[B" (.ref tv7) ts7 (va_A (wd_c_X12_term h0 h0_f0 h0_1 h0_2 h0_3 h0_4 h0_5 h0_f6 h0_f7 h0_f8 h0_f9 h0_f10 (-1) 0 h0_f13 h0_f14 h0_15 h0_16 h0_f17 h0_18 h0_19 h0_20 h0_21 h0_22 h0_23 h0_24 h0_25 h0_f26 h0_f27 h0_f28 h0_f29 h0_f30 h0_f31 h0_32 h0_33 h0_f34 h0_35 h0_36 h0_37 h0_38 h0_39 h0_40 h0_f41 h0_f42 h0_f43 h0_f44 h0_45 h0_46 h0_47 h0_48 h0_49 h0_50 h0_f51 h0_52 h0_f53 h0_5 h0_5k tN h0_5c h0_4 h0_4k h0_4c) sz) U U.heap ∧ va_T .byte tv7 6 (fun j => .int ([118, 108, 114, 100, 112, 104].getD j 0)) (va_A (wd_c_X12_term h0 h0_f0 h0_1 h0_2 h0_3 h0_4 h0_5 h0_f6 h0_f7 h0_f8 h0_f9 h0_f10 (-1) 0 h0_f13 h0_f14 h0_15 h0_16 h0_f17 h0_18 h0_19 h0_20 h0_21 h0_22 h0_23 h0_24 h0_25 h0_f26 h0_f27 h0_f28 h0_f29 h0_f30 h0_f31 h0_32 h0_33 h0_f34 h0_35 h0_36 h0_37 h0_38 h0_39 h0_40 h0_f41 h0_f42 h0_f43 h0_f44 h0_45 h0_46 h0_47 h0_48 h0_49 h0_50 h0_f51 h0_52 h0_f53 h0_5 h0_5k tN h0_5c h0_4 h0_4k h0_4c) sz) U U.heap ∧ va_Z "java/lang/String" "COMPACT_STRINGS" "Z" (.int 1) (va_A (wd_c_X12_term h0 h0_f0 h0_1 h0_2 h0_3 h0_4 h0_5 h0_f6 h0_f7 h0_f8 h0_f9 h0_f10 (-1) 0 h0_f13 h0_f14 h0_15 h0_16 h0_f17 h0_18 h0_19 h0_20 h0_21 h0_22 h0_23 h0_24 h0_25 h0_f26 h0_f27 h0_f28 h0_f29 h0_f30 h0_f31 h0_32 h0_33 h0_f34 h0_35 h0_36 h0_37 h0_38 h0_39 h0_40 h0_f41 h0_f42 h0_f43 h0_f44 h0_45 h0_46 h0_47 h0_48 h0_49 h0_50 h0_f51 h0_52 h0_f53 h0_5 h0_5k tN h0_5c h0_4 h0_4k h0_4c) sz) U U.heap ∧ va_OF "java/lang/String" "coder" "B" (.int 0) ts7 (va_A (wd_c_X12_term h0 h0_f0 h0_1 h0_2 h0_3 h0_4 h0_5 h0_f6 h0_f7 h0_f8 h0_f9 h0_f10 (-1) 0 h0_f13 h0_f14 h0_15 h0_16 h0_f17 h0_18 h0_19 h0_20 h0_21 h0_22 h0_23 h0_24 h0_25 h0_f26 h0_f27 h0_f28 h0_f29 h0_f30 h0_f31 h0_32 h0_33 h0_f34 h0_35 h0_36 h0_37 h0_38 h0_39 h0_40 h0_f41 h0_f42 h0_f43 h0_f44 h0_45 h0_46 h0_47 h0_48 h0_49 h0_50 h0_f51 h0_52 h0_f53 h0_5 h0_5k tN h0_5c h0_4 h0_4k h0_4c) sz) U U.heap ∧ va_O "java/lang/String" ts7 (va_A (wd_c_X12_term h0 h0_f0 h0_1 h0_2 h0_3 h0_4 h0_5 h0_f6 h0_f7 h0_f8 h0_f9 h0_f10 (-1) 0 h0_f13 h0_f14 h0_15 h0_16 h0_f17 h0_18 h0_19 h0_20 h0_21 h0_22 h0_23 h0_24 h0_25 h0_f26 h0_f27 h0_f28 h0_f29 h0_f30 h0_f31 h0_32 h0_33 h0_f34 h0_35 h0_36 h0_37 h0_38 h0_39 h0_40 h0_f41 h0_f42 h0_f43 h0_f44 h0_45 h0_46 h0_47 h0_48 h0_49 h0_50 h0_f51 h0_52 h0_f53 h0_5 h0_5k tN h0_5c h0_4 h0_4k h0_4c) sz) U U.heap ∧ va_Zq "jdk/internal/util/Preconditions" "SIOOBE_FORMATTER" "Ljava/util/function/BiFunction;" (va_A (wd_c_X12_term h0 h0_f0 h0_1 h0_2 h0_3 h0_4 h0_5 h0_f6 h0_f7 h0_f8 h0_f9 h0_f10 (-1) 0 h0_f13 h0_f14 h0_15 h0_16 h0_f17 h0_18 h0_19 h0_20 h0_21 h0_22 h0_23 h0_24 h0_25 h0_f26 h0_f27 h0_f28 h0_f29 h0_f30 h0_f31 h0_32 h0_33 h0_f34 h0_35 h0_36 h0_37 h0_38 h0_39 h0_40 h0_f41 h0_f42 h0_f43 h0_f44 h0_45 h0_46 h0_47 h0_48 h0_49 h0_50 h0_f51 h0_52 h0_f53 h0_5 h0_5k tN h0_5c h0_4 h0_4k h0_4c) sz) U U.heap)) (va_Qi (fun (r : Int32) (u : (Int32) × (Int32) × (Int32)) => (RG r (-2147483648) 2147483647 ∧ RG u.1 0 240 ∧ u.2.1 = (-1) ∧ u.2.2 = 0 ∧ RG h0_f9 1 240 ∧ h0_f10.toInt + 0 ≤ (u.1).toInt ∧ (r, u.1, u.2.1, u.2.2) = fx_c_X12_term h0_f8 h0_f9 h0_f10 h0_5c h0_4c) ∨ (RG r 0 0 ∧ RG u.1 0 240 ∧ RG u.2.1 0 240 ∧ RG u.2.2 0 6 ∧ h0_f10.toInt + 0 ≤ (u.1).toInt ∧ (r, u.1, u.2.1, u.2.2) = fx_c_X12_term h0_f8 h0_f9 h0_f10 h0_5c h0_4c)) (fun (u : (Int32) × (Int32) × (Int32)) t => va_P (dC, dI) vwCl (wd_c_X12_term h0 h0_f0 h0_1 h0_2 h0_3 h0_4 h0_5 h0_f6 h0_f7 h0_f8 h0_f9 (u.1) (u.2.1) (u.2.2) h0_f13 h0_f14 h0_15 h0_16 h0_f17 h0_18 h0_19 h0_20 h0_21 h0_22 h0_23 h0_24 h0_25 h0_f26 h0_f27 h0_f28 h0_f29 h0_f30 h0_f31 h0_32 h0_33 h0_f34 h0_35 h0_36 h0_37 h0_38 h0_39 h0_40 h0_f41 h0_f42 h0_f43 h0_f44 h0_45 h0_46 h0_47 h0_48 h0_49 h0_50 h0_f51 h0_52 h0_f53 h0_5 h0_5k tN h0_5c h0_4 h0_4k h0_4c) t.heap ∧ va_K (dC, dI) vwCl [] t ∧ va_D (va_A (wd_c_X12_term h0 h0_f0 h0_1 h0_2 h0_3 h0_4 h0_5 h0_f6 h0_f7 h0_f8 h0_f9 h0_f10 (-1) 0 h0_f13 h0_f14 h0_15 h0_16 h0_f17 h0_18 h0_19 h0_20 h0_21 h0_22 h0_23 h0_24 h0_25 h0_f26 h0_f27 h0_f28 h0_f29 h0_f30 h0_f31 h0_32 h0_33 h0_f34 h0_35 h0_36 h0_37 h0_38 h0_39 h0_40 h0_f41 h0_f42 h0_f43 h0_f44 h0_45 h0_46 h0_47 h0_48 h0_49 h0_50 h0_f51 h0_52 h0_f53 h0_5 h0_5k tN h0_5c h0_4 h0_4k h0_4c) sz) (wd_c_X12_term h0 h0_f0 h0_1 h0_2 h0_3 h0_4 h0_5 h0_f6 h0_f7 h0_f8 h0_f9 (u.1) (u.2.1) (u.2.2) h0_f13 h0_f14 h0_15 h0_16 h0_f17 h0_18 h0_19 h0_20 h0_21 h0_22 h0_23 h0_24 h0_25 h0_f26 h0_f27 h0_f28 h0_f29 h0_f30 h0_f31 h0_32 h0_33 h0_f34 h0_35 h0_36 h0_37 h0_38 h0_39 h0_40 h0_f41 h0_f42 h0_f43 h0_f44 h0_45 h0_46 h0_47 h0_48 h0_49 h0_50 h0_f51 h0_52 h0_f53 h0_5 h0_5k tN h0_5c h0_4 h0_4k h0_4c)) (va_A (wd_c_X12_term h0 h0_f0 h0_1 h0_2 h0_3 h0_4 h0_5 h0_f6 h0_f7 h0_f8 h0_f9 h0_f10 (-1) 0 h0_f13 h0_f14 h0_15 h0_16 h0_f17 h0_18 h0_19 h0_20 h0_21 h0_22 h0_23 h0_24 h0_25 h0_f26 h0_f27 h0_f28 h0_f29 h0_f30 h0_f31 h0_32 h0_33 h0_f34 h0_35 h0_36 h0_37 h0_38 h0_39 h0_40 h0_f41 h0_f42 h0_f43 h0_f44 h0_45 h0_46 h0_47 h0_48 h0_49 h0_50 h0_f51 h0_52 h0_f53 h0_5 h0_5k tN h0_5c h0_4 h0_4k h0_4c) sz)) 0 0 (va_A (wd_c_X12_term h0 h0_f0 h0_1 h0_2 h0_3 h0_4 h0_5 h0_f6 h0_f7 h0_f8 h0_f9 h0_f10 (-1) 0 h0_f13 h0_f14 h0_15 h0_16 h0_f17 h0_18 h0_19 h0_20 h0_21 h0_22 h0_23 h0_24 h0_25 h0_f26 h0_f27 h0_f28 h0_f29 h0_f30 h0_f31 h0_32 h0_33 h0_f34 h0_35 h0_36 h0_37 h0_38 h0_39 h0_40 h0_f41 h0_f42 h0_f43 h0_f44 h0_45 h0_46 h0_47 h0_48 h0_49 h0_50 h0_f51 h0_52 h0_f53 h0_5 h0_5k tN h0_5c h0_4 h0_4k h0_4c) sz) := by
  refine Met.ofW (cc := cX12_term) (maxL := 5) (ret := (some .int)) (by decide +kernel) rfl ?_
  intro p e s m args below meth c s₁ B hml hv
  obtain ⟨rfl, hsz, hP, hK, hD0, hE_47, hE_50, hE_51, hE_10, hE_49, hE_48, hE_11⟩ := hv
  have hx := B.exec
  have hb := B.bytes
  have hr := B.returns
  have hts := atoms_spec (ws := wf_c_X12_term) B.pre
  have hown : s.vm.findClass RX12 = some m.cls := findClass_of_methodNamed B.named
  have hlocks := B.notSynchronized
  subst hsz
  have hD := hD0.self (sz := s.heap.size)
  generalize hAe : va_A (wd_c_X12_term h0 h0_f0 h0_1 h0_2 h0_3 h0_4 h0_5 h0_f6 h0_f7 h0_f8 h0_f9 h0_f10 (-1) 0 h0_f13 h0_f14 h0_15 h0_16 h0_f17 h0_18 h0_19 h0_20 h0_21 h0_22 h0_23 h0_24 h0_25 h0_f26 h0_f27 h0_f28 h0_f29 h0_f30 h0_f31 h0_32 h0_33 h0_f34 h0_35 h0_36 h0_37 h0_38 h0_39 h0_40 h0_f41 h0_f42 h0_f43 h0_f44 h0_45 h0_46 h0_47 h0_48 h0_49 h0_50 h0_f51 h0_52 h0_f53 h0_5 h0_5k tN h0_5c h0_4 h0_4k h0_4c) s.heap.size = A at hD hE_50 hE_51 hE_10 hE_49 hE_48 hE_11 ⊢
  have hA : ∀ q : Nat, s.heap.size ≤ q → A q := fun q h => by rw [← hAe]; exact Or.inr h
  have hP : va_P (dC, dI) vwCl (wd_c_X12_term h0 h0_f0 h0_1 h0_2 h0_3 h0_4 h0_5 h0_f6 h0_f7 h0_f8 h0_f9 h0_f10 (-1) 0 h0_f13 h0_f14 h0_15 h0_16 h0_f17 h0_18 h0_19 h0_20 h0_21 h0_22 h0_23 h0_24 h0_25 h0_f26 h0_f27 h0_f28 h0_f29 h0_f30 h0_f31 h0_32 h0_33 h0_f34 h0_35 h0_36 h0_37 h0_38 h0_39 h0_40 h0_f41 h0_f42 h0_f43 h0_f44 h0_45 h0_46 h0_47 h0_48 h0_49 h0_50 h0_f51 h0_52 h0_f53 h0_5 h0_5k tN h0_5c h0_4 h0_4k h0_4c) s.heap := hP
  have hl := lv_entry ([.ref h0]) (n := 5) (Nat.le_of_ble_eq_true rfl)
  rw [lg_entry_eq]
  generalize (lg_sl ([.ref h0]) ++ List.replicate (5 - (lg_sl ([.ref h0])).length) Slot.unset).toArray = ls at hl ⊢
  have hl : lv_has ls 5 [(0, .ref h0)] := hl
  obtain ⟨H, hHe⟩ : ∃ H : Heap, s.heap = H := ⟨_, rfl⟩
  have hS : va_S A s.heap H [] := by rw [hHe]; exact va_S.rf
  have hP : va_P (dC, dI) vwCl (wd_c_X12_term h0 h0_f0 h0_1 h0_2 h0_3 h0_4 h0_5 h0_f6 h0_f7 h0_f8 h0_f9 h0_f10 (-1) 0 h0_f13 h0_f14 h0_15 h0_16 h0_f17 h0_18 h0_19 h0_20 h0_21 h0_22 h0_23 h0_24 h0_25 h0_f26 h0_f27 h0_f28 h0_f29 h0_f30 h0_f31 h0_32 h0_33 h0_f34 h0_35 h0_36 h0_37 h0_38 h0_39 h0_40 h0_f41 h0_f42 h0_f43 h0_f44 h0_45 h0_46 h0_47 h0_48 h0_49 h0_50 h0_f51 h0_52 h0_f53 h0_5 h0_5k tN h0_5c h0_4 h0_4k h0_4c) H := by rw [← hHe]; exact hP
  rw [hHe]
  obtain ⟨RES, hR⟩ : ∃ z, fx_c_X12_term h0_f8 h0_f9 h0_f10 h0_5c h0_4c = z := ⟨_, rfl⟩
  have hEX : RES = fx_c_X12_term h0_f8 h0_f9 h0_f10 h0_5c h0_4c := hR.symm
  refine wj (fun G hG hU => ?_)
  as_aux_lemma =>
  have J5b : ∀ (j5b_l1 : Int32) (j5b_h0_f10 : Int32) (j5b_h0_f11 : Int32) (j5b_h0_f12 : Int32) (g_h0_f10 : RG h0_f10 0 240) (g_h0_f17 : RG h0_f17 0 1) (g_h0_f26 : RG h0_f26 0 8) (g_h0_f27 : RG h0_f27 0 3) (g_h0_f28 : RG h0_f28 0 8) (g_h0_f29 : RG h0_f29 0 3) (g_h0_f30 : RG h0_f30 0 4) (g_h0_f31 : RG h0_f31 0 1) (g_h0_f34 : RG h0_f34 (-1) 3) (g_h0_f41 : RG h0_f41 0 40) (g_h0_f51 : RG h0_f51 0 10) (g_h0_f53 : RG h0_f53 0 1) (g_h0_f6 : RG h0_f6 0 240) (g_h0_f7 : RG h0_f7 0 4) (g_h0_f8 : RG h0_f8 0 720) (g_h0_f9 : RG h0_f9 0 240) (g_j5b_h0_f10 : RG j5b_h0_f10 0 240) (g_j5b_h0_f11 : RG j5b_h0_f11 0 240) (g_j5b_h0_f12 : RG j5b_h0_f12 0 6) (g_j5b_l1 : RG j5b_l1 0 0) (r_h0_f10_j5b_h0_f10 : h0_f10.toInt + 0 ≤ j5b_h0_f10.toInt) (hEX : RES = fx_c_X12_term_p5b j5b_l1 j5b_h0_f10 j5b_h0_f11 j5b_h0_f12) (H : Heap) (locs : List Loc) (ls : Array Slot) (hP : va_P (dC, dI) vwCl (wd_c_X12_term h0 h0_f0 h0_1 h0_2 h0_3 h0_4 h0_5 h0_f6 h0_f7 h0_f8 h0_f9 j5b_h0_f10 j5b_h0_f11 j5b_h0_f12 h0_f13 h0_f14 h0_15 h0_16 h0_f17 h0_18 h0_19 h0_20 h0_21 h0_22 h0_23 h0_24 h0_25 h0_f26 h0_f27 h0_f28 h0_f29 h0_f30 h0_f31 h0_32 h0_33 h0_f34 h0_35 h0_36 h0_37 h0_38 h0_39 h0_40 h0_f41 h0_f42 h0_f43 h0_f44 h0_45 h0_46 h0_47 h0_48 h0_49 h0_50 h0_f51 h0_52 h0_f53 h0_5 h0_5k tN h0_5c h0_4 h0_4k h0_4c) H) (hD : va_D A (wd_c_X12_term h0 h0_f0 h0_1 h0_2 h0_3 h0_4 h0_5 h0_f6 h0_f7 h0_f8 h0_f9 j5b_h0_f10 j5b_h0_f11 j5b_h0_f12 h0_f13 h0_f14 h0_15 h0_16 h0_f17 h0_18 h0_19 h0_20 h0_21 h0_22 h0_23 h0_24 h0_25 h0_f26 h0_f27 h0_f28 h0_f29 h0_f30 h0_f31 h0_32 h0_33 h0_f34 h0_35 h0_36 h0_37 h0_38 h0_39 h0_40 h0_f41 h0_f42 h0_f43 h0_f44 h0_45 h0_46 h0_47 h0_48 h0_49 h0_50 h0_f51 h0_52 h0_f53 h0_5 h0_5k tN h0_5c h0_4 h0_4k h0_4c)) (hS : va_S A s.heap H locs) (hl : lv_has ls 5 [(1, .int j5b_l1), (0, .ref h0)]), G H locs (F0 m 5 ls []) := by
    as_aux_lemma =>
    intro j5b_l1 j5b_h0_f10 j5b_h0_f11 j5b_h0_f12 g_h0_f10 g_h0_f17 g_h0_f26 g_h0_f27 g_h0_f28 g_h0_f29 g_h0_f30 g_h0_f31 g_h0_f34 g_h0_f41 g_h0_f51 g_h0_f53 g_h0_f6 g_h0_f7 g_h0_f8 g_h0_f9 g_j5b_h0_f10 g_j5b_h0_f11 g_j5b_h0_f12 g_j5b_l1 r_h0_f10_j5b_h0_f10 hEX H locs ls hP hD hS hl
    refine hG _ _ _ ?_
    refine lv_aload_n hx hb dX12_term_5 rfl (lv_at hl 1 rfl) ?_
    refine va_get (D := (dC, dI)) (ci := 12) (v := .int j5b_h0_f11) (C := RX12) (T := TX12) (N := 54) hx hb hts iw_c_X12_term_X12 hown hK hP 0 rfl rfl 11 (by decide +kernel) (hts (.fieldLink RX12 143 "BuoyVoteModel" "fault" "I") (List.mem_of_getElem? (i := 57) rfl)) (fun _ h9 => h9) rfl dX12_term_6 ?_
    refine lv_iconst (v := (-1)) hx hb dX12_term_9 kc_iconst_m1 ?_
    refine lv_icmp_ne (tgt := 94) hx hb dX12_term_10 rfl (fun c_1 => ?_) (fun c_1 => ?_)
    · replace hEX := hEX.trans (if_neg c_1)
      refine lv_iload_n hx hb dX12_term_94 rfl (lv_at hl 0 rfl) ?_
      have hK9 := hK.sub (tys' := []) [] rfl
      exact W.iret (v := j5b_l1) hx hb hr (fun t ht hW => ⟨⟨j5b_l1, (j5b_h0_f10, j5b_h0_f11, j5b_h0_f12), rfl, (Or.inr ⟨g_j5b_l1, g_j5b_h0_f10, g_j5b_h0_f11, g_j5b_h0_f12, (by have := r_h0_f10_j5b_h0_f10; show h0_f10.toInt + 0 ≤ j5b_h0_f10.toInt; omega), (hR.trans hEX).symm⟩), by rw [ht]; exact hP, va_K.moved hW.alike hK9, hD⟩, hS.F ht⟩) hS.2.2 dX12_term_95
    · replace hEX := hEX.trans (if_pos c_1)
      exact RG_dead (RG_eq1 g_j5b_h0_f11 (RG_k (-1) (-1) rfl) c_1 (a' := 0) (b' := (-1)) (by decide +kernel)) (by decide +kernel)
  have J87c : ∀ (j87c_h0_f10 : Int32) (j87c_h0_f11 : Int32) (j87c_h0_f12 : Int32) (g_h0_f10 : RG h0_f10 0 240) (g_h0_f17 : RG h0_f17 0 1) (g_h0_f26 : RG h0_f26 0 8) (g_h0_f27 : RG h0_f27 0 3) (g_h0_f28 : RG h0_f28 0 8) (g_h0_f29 : RG h0_f29 0 3) (g_h0_f30 : RG h0_f30 0 4) (g_h0_f31 : RG h0_f31 0 1) (g_h0_f34 : RG h0_f34 (-1) 3) (g_h0_f41 : RG h0_f41 0 40) (g_h0_f51 : RG h0_f51 0 10) (g_h0_f53 : RG h0_f53 0 1) (g_h0_f6 : RG h0_f6 0 240) (g_h0_f7 : RG h0_f7 0 4) (g_h0_f8 : RG h0_f8 0 720) (g_h0_f9 : RG h0_f9 1 240) (g_j87c_h0_f10 : RG j87c_h0_f10 0 240) (g_j87c_h0_f11 : RG j87c_h0_f11 0 240) (g_j87c_h0_f12 : RG j87c_h0_f12 0 6) (r_h0_f10_j87c_h0_f10 : h0_f10.toInt + 1 ≤ j87c_h0_f10.toInt) (hEX : RES = fx_c_X12_term_p87c j87c_h0_f10 j87c_h0_f11 j87c_h0_f12) (H : Heap) (locs : List Loc) (ls : Array Slot) (hP : va_P (dC, dI) vwCl (wd_c_X12_term h0 h0_f0 h0_1 h0_2 h0_3 h0_4 h0_5 h0_f6 h0_f7 h0_f8 h0_f9 j87c_h0_f10 j87c_h0_f11 j87c_h0_f12 h0_f13 h0_f14 h0_15 h0_16 h0_f17 h0_18 h0_19 h0_20 h0_21 h0_22 h0_23 h0_24 h0_25 h0_f26 h0_f27 h0_f28 h0_f29 h0_f30 h0_f31 h0_32 h0_33 h0_f34 h0_35 h0_36 h0_37 h0_38 h0_39 h0_40 h0_f41 h0_f42 h0_f43 h0_f44 h0_45 h0_46 h0_47 h0_48 h0_49 h0_50 h0_f51 h0_52 h0_f53 h0_5 h0_5k tN h0_5c h0_4 h0_4k h0_4c) H) (hD : va_D A (wd_c_X12_term h0 h0_f0 h0_1 h0_2 h0_3 h0_4 h0_5 h0_f6 h0_f7 h0_f8 h0_f9 j87c_h0_f10 j87c_h0_f11 j87c_h0_f12 h0_f13 h0_f14 h0_15 h0_16 h0_f17 h0_18 h0_19 h0_20 h0_21 h0_22 h0_23 h0_24 h0_25 h0_f26 h0_f27 h0_f28 h0_f29 h0_f30 h0_f31 h0_32 h0_33 h0_f34 h0_35 h0_36 h0_37 h0_38 h0_39 h0_40 h0_f41 h0_f42 h0_f43 h0_f44 h0_45 h0_46 h0_47 h0_48 h0_49 h0_50 h0_f51 h0_52 h0_f53 h0_5 h0_5k tN h0_5c h0_4 h0_4k h0_4c)) (hS : va_S A s.heap H locs) (hl : lv_has ls 5 [(0, .ref h0)]), G H locs (F0 m 87 ls [.long 0]) := by
    as_aux_lemma =>
    intro j87c_h0_f10 j87c_h0_f11 j87c_h0_f12 g_h0_f10 g_h0_f17 g_h0_f26 g_h0_f27 g_h0_f28 g_h0_f29 g_h0_f30 g_h0_f31 g_h0_f34 g_h0_f41 g_h0_f51 g_h0_f53 g_h0_f6 g_h0_f7 g_h0_f8 g_h0_f9 g_j87c_h0_f10 g_j87c_h0_f11 g_j87c_h0_f12 r_h0_f10_j87c_h0_f10 hEX H locs ls hP hD hS hl
    refine hG _ _ _ ?_
    obtain ⟨hPc, hDc, hFc, hqc⟩ := cl_cut (wc := []) hP hD hS hA [] (by decide +kernel) rfl
    have hKc := hK.sub (tys' := []) [] rfl
    refine va_calli (va_runS (As := [.long 0]) (rest := []) ⟨hx, hb, hml, hown, hts⟩ (c_X12_within l dC dI H.size) (va_cwS 1 hts gf_c_X12_term_c_X12_within rfl rfl rfl md_X12_within ⟨Nat.le_of_ble_eq_true rfl, Nat.le_of_ble_eq_true rfl⟩) ⟨fun a U g mk q => by obtain ⟨q0, q1, qP, qK, qD⟩ := q; exact ⟨q0, q1, qP, va_K.moved (u := U) (U := U.calling g mk a) (Vm.Alike.refl U.vm) qK, qD⟩, fun U hU hW => ⟨rfl, by rw [hU], by rw [hU]; exact hPc, va_K.moved hW.alike hKc, hDc.weaken (fun _ _ _ _ => trivial)⟩⟩ rfl rfl hl.1 rfl (lv_room (Nat.le_of_ble_eq_true rfl)) dX12_term_87 ⟨Nat.le_of_ble_eq_true rfl, Nat.le_of_ble_eq_true rfl⟩) hS (fun q _ h => hFc q h) hFc (fun r_2 u t H1 locs ht hvm hw hB hz1 hk1 hS => ?_)
    obtain ⟨hP1, hK1, hD1⟩ := hB
    rw [ht] at hP1
    have hP := bv_still hP hk1
    generalize H1 = H at hP hS ⊢
    as_aux_lemma =>
    rcases hw with ⟨h_3, h_4⟩
    have h_4 : r_2 = _ := h_4
    replace hEX := hEX.trans (exc1_eq h_4)
    refine lv_istore_n (lv' := [(1, .int r_2), (0, .ref h0)]) hx hb dX12_term_90 rfl hl (Nat.le_of_ble_eq_true rfl) rfl (fun ls hl => ?_)
    refine lv_goto (tgt := 5) hx hb dX12_term_91 rfl ?_
    exact hU _ _ _ (J5b r_2 j87c_h0_f10 j87c_h0_f11 j87c_h0_f12 g_h0_f10 g_h0_f17 g_h0_f26 g_h0_f27 g_h0_f28 g_h0_f29 g_h0_f30 g_h0_f31 g_h0_f34 g_h0_f41 g_h0_f51 g_h0_f53 g_h0_f6 g_h0_f7 g_h0_f8 (RG_w g_h0_f9 (by decide +kernel)) g_j87c_h0_f10 g_j87c_h0_f11 g_j87c_h0_f12 h_3 (by have := r_h0_f10_j87c_h0_f10; omega) hEX _ _ _ hP hD hS (lv_sub hl [0, 1] rfl))
  have J87d : ∀ (j87d_s0 : Int64) (j87d_h0_f10 : Int32) (j87d_h0_f11 : Int32) (j87d_h0_f12 : Int32) (g_h0_f10 : RG h0_f10 0 240) (g_h0_f17 : RG h0_f17 0 1) (g_h0_f26 : RG h0_f26 0 8) (g_h0_f27 : RG h0_f27 0 3) (g_h0_f28 : RG h0_f28 0 8) (g_h0_f29 : RG h0_f29 0 3) (g_h0_f30 : RG h0_f30 0 4) (g_h0_f31 : RG h0_f31 0 1) (g_h0_f34 : RG h0_f34 (-1) 3) (g_h0_f41 : RG h0_f41 0 40) (g_h0_f51 : RG h0_f51 0 10) (g_h0_f53 : RG h0_f53 0 1) (g_h0_f6 : RG h0_f6 0 240) (g_h0_f7 : RG h0_f7 0 4) (g_h0_f8 : RG h0_f8 0 720) (g_h0_f9 : RG h0_f9 1 240) (g_j87d_h0_f10 : RG j87d_h0_f10 0 240) (g_j87d_h0_f11 : RG j87d_h0_f11 0 240) (g_j87d_h0_f12 : RG j87d_h0_f12 0 6) (g_j87d_s0 : LG j87d_s0 0 0) (r_h0_f10_j87d_h0_f10 : h0_f10.toInt + 1 ≤ j87d_h0_f10.toInt) (hEX : RES = fx_c_X12_term_p87d j87d_s0 j87d_h0_f10 j87d_h0_f11 j87d_h0_f12) (H : Heap) (locs : List Loc) (ls : Array Slot) (hP : va_P (dC, dI) vwCl (wd_c_X12_term h0 h0_f0 h0_1 h0_2 h0_3 h0_4 h0_5 h0_f6 h0_f7 h0_f8 h0_f9 j87d_h0_f10 j87d_h0_f11 j87d_h0_f12 h0_f13 h0_f14 h0_15 h0_16 h0_f17 h0_18 h0_19 h0_20 h0_21 h0_22 h0_23 h0_24 h0_25 h0_f26 h0_f27 h0_f28 h0_f29 h0_f30 h0_f31 h0_32 h0_33 h0_f34 h0_35 h0_36 h0_37 h0_38 h0_39 h0_40 h0_f41 h0_f42 h0_f43 h0_f44 h0_45 h0_46 h0_47 h0_48 h0_49 h0_50 h0_f51 h0_52 h0_f53 h0_5 h0_5k tN h0_5c h0_4 h0_4k h0_4c) H) (hD : va_D A (wd_c_X12_term h0 h0_f0 h0_1 h0_2 h0_3 h0_4 h0_5 h0_f6 h0_f7 h0_f8 h0_f9 j87d_h0_f10 j87d_h0_f11 j87d_h0_f12 h0_f13 h0_f14 h0_15 h0_16 h0_f17 h0_18 h0_19 h0_20 h0_21 h0_22 h0_23 h0_24 h0_25 h0_f26 h0_f27 h0_f28 h0_f29 h0_f30 h0_f31 h0_32 h0_33 h0_f34 h0_35 h0_36 h0_37 h0_38 h0_39 h0_40 h0_f41 h0_f42 h0_f43 h0_f44 h0_45 h0_46 h0_47 h0_48 h0_49 h0_50 h0_f51 h0_52 h0_f53 h0_5 h0_5k tN h0_5c h0_4 h0_4k h0_4c)) (hS : va_S A s.heap H locs) (hl : lv_has ls 5 [(0, .ref h0)]), G H locs (F0 m 87 ls [.long j87d_s0]) := by
    as_aux_lemma =>
    intro j87d_s0 j87d_h0_f10 j87d_h0_f11 j87d_h0_f12 g_h0_f10 g_h0_f17 g_h0_f26 g_h0_f27 g_h0_f28 g_h0_f29 g_h0_f30 g_h0_f31 g_h0_f34 g_h0_f41 g_h0_f51 g_h0_f53 g_h0_f6 g_h0_f7 g_h0_f8 g_h0_f9 g_j87d_h0_f10 g_j87d_h0_f11 g_j87d_h0_f12 g_j87d_s0 r_h0_f10_j87d_h0_f10 hEX H locs ls hP hD hS hl
    refine hG _ _ _ ?_
    obtain ⟨hPc, hDc, hFc, hqc⟩ := cl_cut (wc := []) hP hD hS hA [] (by decide +kernel) rfl
    have hKc := hK.sub (tys' := []) [] rfl
    refine va_calli (va_runS (As := [.long j87d_s0]) (rest := []) ⟨hx, hb, hml, hown, hts⟩ (c_X12_within_2 l dC dI H.size j87d_s0 g_j87d_s0) (va_cwS 1 hts gf_c_X12_term_c_X12_within_2 rfl rfl rfl md_X12_within ⟨Nat.le_of_ble_eq_true rfl, Nat.le_of_ble_eq_true rfl⟩) ⟨fun a U g mk q => by obtain ⟨q0, q1, qP, qK, qD⟩ := q; exact ⟨q0, q1, qP, va_K.moved (u := U) (U := U.calling g mk a) (Vm.Alike.refl U.vm) qK, qD⟩, fun U hU hW => ⟨rfl, by rw [hU], by rw [hU]; exact hPc, va_K.moved hW.alike hKc, hDc.weaken (fun _ _ _ _ => trivial)⟩⟩ rfl rfl hl.1 rfl (lv_room (Nat.le_of_ble_eq_true rfl)) dX12_term_87 ⟨Nat.le_of_ble_eq_true rfl, Nat.le_of_ble_eq_true rfl⟩) hS (fun q _ h => hFc q h) hFc (fun r_5 u t H1 locs ht hvm hw hB hz1 hk1 hS => ?_)
    obtain ⟨hP1, hK1, hD1⟩ := hB
    rw [ht] at hP1
    have hP := bv_still hP hk1
    generalize H1 = H at hP hS ⊢
    as_aux_lemma =>
    rcases hw with ⟨h_6, h_7⟩
    have h_7 : r_5 = _ := h_7
    replace hEX := hEX.trans (exc1_eq h_7)
    refine lv_istore_n (lv' := [(1, .int r_5), (0, .ref h0)]) hx hb dX12_term_90 rfl hl (Nat.le_of_ble_eq_true rfl) rfl (fun ls hl => ?_)
    refine lv_goto (tgt := 5) hx hb dX12_term_91 rfl ?_
    exact hU _ _ _ (J5b r_5 j87d_h0_f10 j87d_h0_f11 j87d_h0_f12 g_h0_f10 g_h0_f17 g_h0_f26 g_h0_f27 g_h0_f28 g_h0_f29 g_h0_f30 g_h0_f31 g_h0_f34 g_h0_f41 g_h0_f51 g_h0_f53 g_h0_f6 g_h0_f7 g_h0_f8 (RG_w g_h0_f9 (by decide +kernel)) g_j87d_h0_f10 g_j87d_h0_f11 g_j87d_h0_f12 h_6 (by have := r_h0_f10_j87d_h0_f10; omega) hEX _ _ _ hP hD hS (lv_sub hl [0, 1] rfl))
  have J5 : ∀ (n5 : Nat) (j5_l1 : Int32) (j5_h0_f10 : Int32) (hM5 : MU j5_h0_f10 < n5) (g_h0_f10 : RG h0_f10 0 240) (g_h0_f17 : RG h0_f17 0 1) (g_h0_f26 : RG h0_f26 0 8) (g_h0_f27 : RG h0_f27 0 3) (g_h0_f28 : RG h0_f28 0 8) (g_h0_f29 : RG h0_f29 0 3) (g_h0_f30 : RG h0_f30 0 4) (g_h0_f31 : RG h0_f31 0 1) (g_h0_f34 : RG h0_f34 (-1) 3) (g_h0_f41 : RG h0_f41 0 40) (g_h0_f51 : RG h0_f51 0 10) (g_h0_f53 : RG h0_f53 0 1) (g_h0_f6 : RG h0_f6 0 240) (g_h0_f7 : RG h0_f7 0 4) (g_h0_f8 : RG h0_f8 0 720) (g_h0_f9 : RG h0_f9 1 240) (g_j5_h0_f10 : RG j5_h0_f10 0 240) (r_h0_f10_j5_h0_f10 : h0_f10.toInt + 0 ≤ j5_h0_f10.toInt) (hEX : RES = fx_c_X12_term_p5 h0_f8 h0_f9 h0_5c h0_4c n5 j5_l1 j5_h0_f10) (H : Heap) (locs : List Loc) (ls : Array Slot) (hP : va_P (dC, dI) vwCl (wd_c_X12_term h0 h0_f0 h0_1 h0_2 h0_3 h0_4 h0_5 h0_f6 h0_f7 h0_f8 h0_f9 j5_h0_f10 (-1) 0 h0_f13 h0_f14 h0_15 h0_16 h0_f17 h0_18 h0_19 h0_20 h0_21 h0_22 h0_23 h0_24 h0_25 h0_f26 h0_f27 h0_f28 h0_f29 h0_f30 h0_f31 h0_32 h0_33 h0_f34 h0_35 h0_36 h0_37 h0_38 h0_39 h0_40 h0_f41 h0_f42 h0_f43 h0_f44 h0_45 h0_46 h0_47 h0_48 h0_49 h0_50 h0_f51 h0_52 h0_f53 h0_5 h0_5k tN h0_5c h0_4 h0_4k h0_4c) H) (hD : va_D A (wd_c_X12_term h0 h0_f0 h0_1 h0_2 h0_3 h0_4 h0_5 h0_f6 h0_f7 h0_f8 h0_f9 j5_h0_f10 (-1) 0 h0_f13 h0_f14 h0_15 h0_16 h0_f17 h0_18 h0_19 h0_20 h0_21 h0_22 h0_23 h0_24 h0_25 h0_f26 h0_f27 h0_f28 h0_f29 h0_f30 h0_f31 h0_32 h0_33 h0_f34 h0_35 h0_36 h0_37 h0_38 h0_39 h0_40 h0_f41 h0_f42 h0_f43 h0_f44 h0_45 h0_46 h0_47 h0_48 h0_49 h0_50 h0_f51 h0_52 h0_f53 h0_5 h0_5k tN h0_5c h0_4 h0_4k h0_4c)) (hS : va_S A s.heap H locs) (hl : lv_has ls 5 [(1, .int j5_l1), (0, .ref h0)]), G H locs (F0 m 5 ls []) := by
    as_aux_lemma =>
    intro n5
    induction n5 with
    | zero => intros; exact absurd (by assumption) (Nat.not_lt_zero _)
    | succ n5 ih5 =>
      intro j5_l1 j5_h0_f10 hM5 g_h0_f10 g_h0_f17 g_h0_f26 g_h0_f27 g_h0_f28 g_h0_f29 g_h0_f30 g_h0_f31 g_h0_f34 g_h0_f41 g_h0_f51 g_h0_f53 g_h0_f6 g_h0_f7 g_h0_f8 g_h0_f9 g_j5_h0_f10 r_h0_f10_j5_h0_f10 hEX H locs ls hP hD hS hl
      have J87b : ∀ (j87b_h0_f10 : Int32) (g_h0_f10 : RG h0_f10 0 240) (g_h0_f17 : RG h0_f17 0 1) (g_h0_f26 : RG h0_f26 0 8) (g_h0_f27 : RG h0_f27 0 3) (g_h0_f28 : RG h0_f28 0 8) (g_h0_f29 : RG h0_f29 0 3) (g_h0_f30 : RG h0_f30 0 4) (g_h0_f31 : RG h0_f31 0 1) (g_h0_f34 : RG h0_f34 (-1) 3) (g_h0_f41 : RG h0_f41 0 40) (g_h0_f51 : RG h0_f51 0 10) (g_h0_f53 : RG h0_f53 0 1) (g_h0_f6 : RG h0_f6 0 240) (g_h0_f7 : RG h0_f7 0 4) (g_h0_f8 : RG h0_f8 0 720) (g_h0_f9 : RG h0_f9 1 240) (g_j5_h0_f10 : RG j5_h0_f10 0 240) (g_j87b_h0_f10 : RG j87b_h0_f10 0 240) (r_h0_f10_j87b_h0_f10 : h0_f10.toInt + 1 ≤ j87b_h0_f10.toInt) (r_j5_h0_f10_j87b_h0_f10 : j5_h0_f10.toInt + 1 ≤ j87b_h0_f10.toInt) (hEX : RES = fx_c_X12_term_p87b (fx_c_X12_term_p5 h0_f8 h0_f9 h0_5c h0_4c n5) j87b_h0_f10) (H : Heap) (locs : List Loc) (ls : Array Slot) (hP : va_P (dC, dI) vwCl (wd_c_X12_term h0 h0_f0 h0_1 h0_2 h0_3 h0_4 h0_5 h0_f6 h0_f7 h0_f8 h0_f9 j87b_h0_f10 (-1) 0 h0_f13 h0_f14 h0_15 h0_16 h0_f17 h0_18 h0_19 h0_20 h0_21 h0_22 h0_23 h0_24 h0_25 h0_f26 h0_f27 h0_f28 h0_f29 h0_f30 h0_f31 h0_32 h0_33 h0_f34 h0_35 h0_36 h0_37 h0_38 h0_39 h0_40 h0_f41 h0_f42 h0_f43 h0_f44 h0_45 h0_46 h0_47 h0_48 h0_49 h0_50 h0_f51 h0_52 h0_f53 h0_5 h0_5k tN h0_5c h0_4 h0_4k h0_4c) H) (hD : va_D A (wd_c_X12_term h0 h0_f0 h0_1 h0_2 h0_3 h0_4 h0_5 h0_f6 h0_f7 h0_f8 h0_f9 j87b_h0_f10 (-1) 0 h0_f13 h0_f14 h0_15 h0_16 h0_f17 h0_18 h0_19 h0_20 h0_21 h0_22 h0_23 h0_24 h0_25 h0_f26 h0_f27 h0_f28 h0_f29 h0_f30 h0_f31 h0_32 h0_33 h0_f34 h0_35 h0_36 h0_37 h0_38 h0_39 h0_40 h0_f41 h0_f42 h0_f43 h0_f44 h0_45 h0_46 h0_47 h0_48 h0_49 h0_50 h0_f51 h0_52 h0_f53 h0_5 h0_5k tN h0_5c h0_4 h0_4k h0_4c)) (hS : va_S A s.heap H locs) (hl : lv_has ls 5 [(0, .ref h0)]), G H locs (F0 m 87 ls [.long 0]) := by
        as_aux_lemma =>
        intro j87b_h0_f10 g_h0_f10 g_h0_f17 g_h0_f26 g_h0_f27 g_h0_f28 g_h0_f29 g_h0_f30 g_h0_f31 g_h0_f34 g_h0_f41 g_h0_f51 g_h0_f53 g_h0_f6 g_h0_f7 g_h0_f8 g_h0_f9 g_j5_h0_f10 g_j87b_h0_f10 r_h0_f10_j87b_h0_f10 r_j5_h0_f10_j87b_h0_f10 hEX H locs ls hP hD hS hl
        refine hG _ _ _ ?_
        obtain ⟨hPc, hDc, hFc, hqc⟩ := cl_cut (wc := []) hP hD hS hA [] (by decide +kernel) rfl
        have hKc := hK.sub (tys' := []) [] rfl
        refine va_calli (va_runS (As := [.long 0]) (rest := []) ⟨hx, hb, hml, hown, hts⟩ (c_X12_within l dC dI H.size) (va_cwS 1 hts gf_c_X12_term_c_X12_within rfl rfl rfl md_X12_within ⟨Nat.le_of_ble_eq_true rfl, Nat.le_of_ble_eq_true rfl⟩) ⟨fun a U g mk q => by obtain ⟨q0, q1, qP, qK, qD⟩ := q; exact ⟨q0, q1, qP, va_K.moved (u := U) (U := U.calling g mk a) (Vm.Alike.refl U.vm) qK, qD⟩, fun U hU hW => ⟨rfl, by rw [hU], by rw [hU]; exact hPc, va_K.moved hW.alike hKc, hDc.weaken (fun _ _ _ _ => trivial)⟩⟩ rfl rfl hl.1 rfl (lv_room (Nat.le_of_ble_eq_true rfl)) dX12_term_87 ⟨Nat.le_of_ble_eq_true rfl, Nat.le_of_ble_eq_true rfl⟩) hS (fun q _ h => hFc q h) hFc (fun r_8 u t H1 locs ht hvm hw hB hz1 hk1 hS => ?_)
        obtain ⟨hP1, hK1, hD1⟩ := hB
        rw [ht] at hP1
        have hP := bv_still hP hk1
        generalize H1 = H at hP hS ⊢
        as_aux_lemma =>
        rcases hw with ⟨h_9, h_10⟩
        have h_10 : r_8 = _ := h_10
        replace hEX := hEX.trans (exc1_eq h_10)
        refine lv_istore_n (lv' := [(1, .int r_8), (0, .ref h0)]) hx hb dX12_term_90 rfl hl (Nat.le_of_ble_eq_true rfl) rfl (fun ls hl => ?_)
        refine lv_goto (tgt := 5) hx hb dX12_term_91 rfl ?_
        exact hU _ _ _ (ih5 r_8 j87b_h0_f10 (mu_s (MU_lt (by have := r_j5_h0_f10_j87b_h0_f10; omega)) hM5) g_h0_f10 g_h0_f17 g_h0_f26 g_h0_f27 g_h0_f28 g_h0_f29 g_h0_f30 g_h0_f31 g_h0_f34 g_h0_f41 g_h0_f51 g_h0_f53 g_h0_f6 g_h0_f7 g_h0_f8 g_h0_f9 g_j87b_h0_f10 (by have := r_h0_f10_j87b_h0_f10; omega) hEX _ _ _ hP hD hS (lv_sub hl [0, 1] rfl))
      have J87 : ∀ (j87_s0 : Int64) (j87_h0_f10 : Int32) (g_h0_f10 : RG h0_f10 0 240) (g_h0_f17 : RG h0_f17 0 1) (g_h0_f26 : RG h0_f26 0 8) (g_h0_f27 : RG h0_f27 0 3) (g_h0_f28 : RG h0_f28 0 8) (g_h0_f29 : RG h0_f29 0 3) (g_h0_f30 : RG h0_f30 0 4) (g_h0_f31 : RG h0_f31 0 1) (g_h0_f34 : RG h0_f34 (-1) 3) (g_h0_f41 : RG h0_f41 0 40) (g_h0_f51 : RG h0_f51 0 10) (g_h0_f53 : RG h0_f53 0 1) (g_h0_f6 : RG h0_f6 0 240) (g_h0_f7 : RG h0_f7 0 4) (g_h0_f8 : RG h0_f8 0 720) (g_h0_f9 : RG h0_f9 1 240) (g_j5_h0_f10 : RG j5_h0_f10 0 240) (g_j87_h0_f10 : RG j87_h0_f10 0 240) (r_h0_f10_j87_h0_f10 : h0_f10.toInt + 1 ≤ j87_h0_f10.toInt) (r_j5_h0_f10_j87_h0_f10 : j5_h0_f10.toInt + 1 ≤ j87_h0_f10.toInt) (hEX : RES = fx_c_X12_term_p87 (fx_c_X12_term_p5 h0_f8 h0_f9 h0_5c h0_4c n5) j87_s0 j87_h0_f10) (H : Heap) (locs : List Loc) (ls : Array Slot) (hP : va_P (dC, dI) vwCl (wd_c_X12_term h0 h0_f0 h0_1 h0_2 h0_3 h0_4 h0_5 h0_f6 h0_f7 h0_f8 h0_f9 j87_h0_f10 (-1) 0 h0_f13 h0_f14 h0_15 h0_16 h0_f17 h0_18 h0_19 h0_20 h0_21 h0_22 h0_23 h0_24 h0_25 h0_f26 h0_f27 h0_f28 h0_f29 h0_f30 h0_f31 h0_32 h0_33 h0_f34 h0_35 h0_36 h0_37 h0_38 h0_39 h0_40 h0_f41 h0_f42 h0_f43 h0_f44 h0_45 h0_46 h0_47 h0_48 h0_49 h0_50 h0_f51 h0_52 h0_f53 h0_5 h0_5k tN h0_5c h0_4 h0_4k h0_4c) H) (hD : va_D A (wd_c_X12_term h0 h0_f0 h0_1 h0_2 h0_3 h0_4 h0_5 h0_f6 h0_f7 h0_f8 h0_f9 j87_h0_f10 (-1) 0 h0_f13 h0_f14 h0_15 h0_16 h0_f17 h0_18 h0_19 h0_20 h0_21 h0_22 h0_23 h0_24 h0_25 h0_f26 h0_f27 h0_f28 h0_f29 h0_f30 h0_f31 h0_32 h0_33 h0_f34 h0_35 h0_36 h0_37 h0_38 h0_39 h0_40 h0_f41 h0_f42 h0_f43 h0_f44 h0_45 h0_46 h0_47 h0_48 h0_49 h0_50 h0_f51 h0_52 h0_f53 h0_5 h0_5k tN h0_5c h0_4 h0_4k h0_4c)) (hS : va_S A s.heap H locs) (hl : lv_has ls 5 [(0, .ref h0)]), G H locs (F0 m 87 ls [.long j87_s0]) := by
        as_aux_lemma =>
        intro j87_s0 j87_h0_f10 g_h0_f10 g_h0_f17 g_h0_f26 g_h0_f27 g_h0_f28 g_h0_f29 g_h0_f30 g_h0_f31 g_h0_f34 g_h0_f41 g_h0_f51 g_h0_f53 g_h0_f6 g_h0_f7 g_h0_f8 g_h0_f9 g_j5_h0_f10 g_j87_h0_f10 r_h0_f10_j87_h0_f10 r_j5_h0_f10_j87_h0_f10 hEX H locs ls hP hD hS hl
        refine hG _ _ _ ?_
        obtain ⟨hPc, hDc, hFc, hqc⟩ := cl_cut (wc := []) hP hD hS hA [] (by decide +kernel) rfl
        have hKc := hK.sub (tys' := []) [] rfl
        refine va_calli (va_runS (As := [.long j87_s0]) (rest := []) ⟨hx, hb, hml, hown, hts⟩ (c_X12_within_1 l dC dI H.size j87_s0) (va_cwS 1 hts gf_c_X12_term_c_X12_within_1 rfl rfl rfl md_X12_within ⟨Nat.le_of_ble_eq_true rfl, Nat.le_of_ble_eq_true rfl⟩) ⟨fun a U g mk q => by obtain ⟨q0, q1, qP, qK, qD⟩ := q; exact ⟨q0, q1, qP, va_K.moved (u := U) (U := U.calling g mk a) (Vm.Alike.refl U.vm) qK, qD⟩, fun U hU hW => ⟨rfl, by rw [hU], by rw [hU]; exact hPc, va_K.moved hW.alike hKc, hDc.weaken (fun _ _ _ _ => trivial)⟩⟩ rfl rfl hl.1 rfl (lv_room (Nat.le_of_ble_eq_true rfl)) dX12_term_87 ⟨Nat.le_of_ble_eq_true rfl, Nat.le_of_ble_eq_true rfl⟩) hS (fun q _ h => hFc q h) hFc (fun r_11 u t H1 locs ht hvm hw hB hz1 hk1 hS => ?_)
        obtain ⟨hP1, hK1, hD1⟩ := hB
        rw [ht] at hP1
        have hP := bv_still hP hk1
        generalize H1 = H at hP hS ⊢
        as_aux_lemma =>
        rcases hw with ⟨h_12, h_13⟩
        have h_13 : r_11 = _ := h_13
        replace hEX := hEX.trans (exc1_eq h_13)
        refine lv_istore_n (lv' := [(1, .int r_11), (0, .ref h0)]) hx hb dX12_term_90 rfl hl (Nat.le_of_ble_eq_true rfl) rfl (fun ls hl => ?_)
        refine lv_goto (tgt := 5) hx hb dX12_term_91 rfl ?_
        exact hU _ _ _ (ih5 r_11 j87_h0_f10 (mu_s (MU_lt (by have := r_j5_h0_f10_j87_h0_f10; omega)) hM5) g_h0_f10 g_h0_f17 g_h0_f26 g_h0_f27 g_h0_f28 g_h0_f29 g_h0_f30 g_h0_f31 g_h0_f34 g_h0_f41 g_h0_f51 g_h0_f53 g_h0_f6 g_h0_f7 g_h0_f8 g_h0_f9 g_j87_h0_f10 (by have := r_h0_f10_j87_h0_f10; omega) hEX _ _ _ hP hD hS (lv_sub hl [0, 1] rfl))
      have J45 : ∀ (j45_h0_f10 : Int32) (g_h0_f10 : RG h0_f10 0 240) (g_h0_f17 : RG h0_f17 0 1) (g_h0_f26 : RG h0_f26 0 8) (g_h0_f27 : RG h0_f27 0 3) (g_h0_f28 : RG h0_f28 0 8) (g_h0_f29 : RG h0_f29 0 3) (g_h0_f30 : RG h0_f30 0 4) (g_h0_f31 : RG h0_f31 0 1) (g_h0_f34 : RG h0_f34 (-1) 3) (g_h0_f41 : RG h0_f41 0 40) (g_h0_f51 : RG h0_f51 0 10) (g_h0_f53 : RG h0_f53 0 1) (g_h0_f6 : RG h0_f6 0 240) (g_h0_f7 : RG h0_f7 0 4) (g_h0_f8 : RG h0_f8 0 720) (g_h0_f9 : RG h0_f9 1 240) (g_j45_h0_f10 : RG j45_h0_f10 0 239) (g_j5_h0_f10 : RG j5_h0_f10 0 240) (r_h0_f10_j45_h0_f10 : h0_f10.toInt + 0 ≤ j45_h0_f10.toInt) (r_j5_h0_f10_j45_h0_f10 : j5_h0_f10.toInt + 0 ≤ j45_h0_f10.toInt) (hEX : RES = fx_c_X12_term_p45 h0_f8 h0_f9 h0_5c h0_4c j5_l1 (fx_c_X12_term_p5 h0_f8 h0_f9 h0_5c h0_4c n5) j45_h0_f10) (H : Heap) (locs : List Loc) (ls : Array Slot) (hP : va_P (dC, dI) vwCl (wd_c_X12_term h0 h0_f0 h0_1 h0_2 h0_3 h0_4 h0_5 h0_f6 h0_f7 h0_f8 h0_f9 j45_h0_f10 (-1) 0 h0_f13 h0_f14 h0_15 h0_16 h0_f17 h0_18 h0_19 h0_20 h0_21 h0_22 h0_23 h0_24 h0_25 h0_f26 h0_f27 h0_f28 h0_f29 h0_f30 h0_f31 h0_32 h0_33 h0_f34 h0_35 h0_36 h0_37 h0_38 h0_39 h0_40 h0_f41 h0_f42 h0_f43 h0_f44 h0_45 h0_46 h0_47 h0_48 h0_49 h0_50 h0_f51 h0_52 h0_f53 h0_5 h0_5k tN h0_5c h0_4 h0_4k h0_4c) H) (hD : va_D A (wd_c_X12_term h0 h0_f0 h0_1 h0_2 h0_3 h0_4 h0_5 h0_f6 h0_f7 h0_f8 h0_f9 j45_h0_f10 (-1) 0 h0_f13 h0_f14 h0_15 h0_16 h0_f17 h0_18 h0_19 h0_20 h0_21 h0_22 h0_23 h0_24 h0_25 h0_f26 h0_f27 h0_f28 h0_f29 h0_f30 h0_f31 h0_32 h0_33 h0_f34 h0_35 h0_36 h0_37 h0_38 h0_39 h0_40 h0_f41 h0_f42 h0_f43 h0_f44 h0_45 h0_46 h0_47 h0_48 h0_49 h0_50 h0_f51 h0_52 h0_f53 h0_5 h0_5k tN h0_5c h0_4 h0_4k h0_4c)) (hS : va_S A s.heap H locs) (hl : lv_has ls 5 [(1, .int j5_l1), (0, .ref h0)]), G H locs (F0 m 45 ls [.int 0]) := by
        as_aux_lemma =>
        intro j45_h0_f10 g_h0_f10 g_h0_f17 g_h0_f26 g_h0_f27 g_h0_f28 g_h0_f29 g_h0_f30 g_h0_f31 g_h0_f34 g_h0_f41 g_h0_f51 g_h0_f53 g_h0_f6 g_h0_f7 g_h0_f8 g_h0_f9 g_j45_h0_f10 g_j5_h0_f10 r_h0_f10_j45_h0_f10 r_j5_h0_f10_j45_h0_f10 hEX H locs ls hP hD hS hl
        refine hG _ _ _ ?_
        refine lv_istore_n (lv' := [(2, .int 0), (1, .int j5_l1), (0, .ref h0)]) hx hb dX12_term_45 rfl hl (Nat.le_of_ble_eq_true rfl) rfl (fun ls hl => ?_)
        refine lv_aload_n hx hb dX12_term_46 rfl (lv_at hl 2 rfl) ?_
        refine lv_dup hx hb dX12_term_47 rfl ?_
        refine va_get (D := (dC, dI)) (ci := 12) (v := .int j45_h0_f10) (C := RX12) (T := TX12) (N := 54) hx hb hts iw_c_X12_term_X12 hown hK hP 0 rfl rfl 10 (by decide +kernel) (hts (.fieldLink RX12 134 "BuoyVoteModel" "at" "I") (List.mem_of_getElem? (i := 10) rfl)) (fun _ h9 => h9) rfl dX12_term_48 ?_
        refine lv_iconst (v := 1) hx hb dX12_term_51 kc_iconst_1 ?_
        refine lv_iadd hx hb dX12_term_52 ?_
        refine lv_topi (fun x_14 ex_14 => ?_)
        replace hEX := hEX.trans (exl_eq ex_14)
        have g_15 : RG x_14 1 240 := RG_add ex_14 g_j45_h0_f10 (RG_k 1 1 rfl) (by decide +kernel)
        have q_16 : x_14.toInt = j45_h0_f10.toInt + 1 := eq_add ex_14 g_j45_h0_f10 (q := 1) rfl (by decide +kernel)
        refine va_put (D := (dC, dI)) (ci := 12) (v := .int x_14) (ty := .int) (C := RX12) (T := TX12) (N := 54) hx hb hts iw_c_X12_term_X12 tyX12 tyX12_ok nmX12 hown hK hP hD hS 0 rfl rfl 10 (by decide +kernel) (hts (.fieldLink RX12 134 "BuoyVoteModel" "at" "I") (List.mem_of_getElem? (i := 10) rfl)) (fun _ h9 => h9) rfl (by decide +kernel) rfl rfl (Nat.le_of_ble_eq_true rfl) dX12_term_53 (fun H locs hP hD hS => ?_)
        have hP : va_P (dC, dI) vwCl (wd_c_X12_term h0 h0_f0 h0_1 h0_2 h0_3 h0_4 h0_5 h0_f6 h0_f7 h0_f8 h0_f9 x_14 (-1) 0 h0_f13 h0_f14 h0_15 h0_16 h0_f17 h0_18 h0_19 h0_20 h0_21 h0_22 h0_23 h0_24 h0_25 h0_f26 h0_f27 h0_f28 h0_f29 h0_f30 h0_f31 h0_32 h0_33 h0_f34 h0_35 h0_36 h0_37 h0_38 h0_39 h0_40 h0_f41 h0_f42 h0_f43 h0_f44 h0_45 h0_46 h0_47 h0_48 h0_49 h0_50 h0_f51 h0_52 h0_f53 h0_5 h0_5k tN h0_5c h0_4 h0_4k h0_4c) H := hP
        have hD : va_D A (wd_c_X12_term h0 h0_f0 h0_1 h0_2 h0_3 h0_4 h0_5 h0_f6 h0_f7 h0_f8 h0_f9 x_14 (-1) 0 h0_f13 h0_f14 h0_15 h0_16 h0_f17 h0_18 h0_19 h0_20 h0_21 h0_22 h0_23 h0_24 h0_25 h0_f26 h0_f27 h0_f28 h0_f29 h0_f30 h0_f31 h0_32 h0_33 h0_f34 h0_35 h0_36 h0_37 h0_38 h0_39 h0_40 h0_f41 h0_f42 h0_f43 h0_f44 h0_45 h0_46 h0_47 h0_48 h0_49 h0_50 h0_f51 h0_52 h0_f53 h0_5 h0_5k tN h0_5c h0_4 h0_4k h0_4c) := hD
        refine lv_aload_n hx hb dX12_term_56 rfl (lv_at hl 2 rfl) ?_
        as_aux_lemma =>
        obtain ⟨hPc, hDc, hFc, hqc⟩ := cl_cut (wc := (wd_c_X12_atom h0 h0_f0 h0_1 h0_2 h0_3 h0_4 h0_5 h0_f6 h0_f7 h0_f8 h0_f9 x_14 (-1) 0 h0_f13 h0_f14 h0_15 h0_16 h0_f17 h0_18 h0_19 h0_20 h0_21 h0_22 h0_23 h0_24 h0_25 h0_f26 h0_f27 h0_f28 h0_f29 h0_f30 h0_f31 h0_32 h0_33 h0_f34 h0_35 h0_36 h0_37 h0_38 h0_39 h0_40 h0_f41 h0_f42 h0_f43 h0_f44 h0_45 h0_46 h0_47 h0_48 h0_49 h0_50 h0_f51 h0_52 h0_f53 h0_5 h0_5k tN h0_5c h0_4 h0_4k h0_4c)) hP hD hS hA [0, 1, 2] (by decide +kernel) rfl
        have hKc := hK.sub (tys' := [(h0_5k, .byte), (h0_4k, .int)]) [0, 1] rfl
        have hrv := va_recv hKc hPc (ci := 12) (q0 := 0) rfl rfl
        refine va_calli (va_runV (As := []) (rest := []) ⟨hx, hb, hml, hown, hts⟩ (c_X12_atom l dC dI H.size h0 h0_f0 h0_1 h0_2 h0_3 h0_4 h0_5 h0_f6 h0_f7 h0_f8 h0_f9 x_14 h0_f13 h0_f14 h0_15 h0_16 h0_f17 h0_18 h0_19 h0_20 h0_21 h0_22 h0_23 h0_24 h0_25 h0_f26 h0_f27 h0_f28 h0_f29 h0_f30 h0_f31 h0_32 h0_33 h0_f34 h0_35 h0_36 h0_37 h0_38 h0_39 h0_40 h0_f41 h0_f42 h0_f43 h0_f44 h0_45 h0_46 h0_47 h0_48 h0_49 h0_50 h0_f51 h0_52 h0_f53 h0_5k h0_5c tN h0_4k h0_4c ts7 tv7 g_h0_f6 g_h0_f7 g_h0_f8 (RG_w g_h0_f9 (by decide +kernel)) (RG_w g_15 (by decide +kernel)) g_h0_f17 g_h0_f26 g_h0_f27 g_h0_f28 g_h0_f29 g_h0_f30 g_h0_f31 g_h0_f34 g_h0_f41 g_h0_f51 g_h0_f53 htN a_h0_4c) (cwV 0 hts gf_c_X12_term_c_X12_atom rfl rfl rfl mdV_X12_atom ⟨Nat.le_of_ble_eq_true rfl, Nat.le_of_ble_eq_true rfl⟩) ⟨fun a U g mk q => by obtain ⟨q0, q1, qP, qK, qD, qE0, qE1, qE2, qE3, qE4, qE5, qE6⟩ := q; exact ⟨q0, q1, qP, va_K.moved (u := U) (U := U.calling g mk a) (Vm.Alike.refl U.vm) qK, qD, vk_R.same rfl qE0, va_OF.moved (u := U) (U := U.calling g mk a) (Vm.Alike.refl U.vm) qE1, va_T.moved (u := U) (U := U.calling g mk a) (Vm.Alike.refl U.vm) qE2, va_Z.moved (u := U) (U := U.calling g mk a) (Vm.Alike.refl U.vm) qE3, va_OF.moved (u := U) (U := U.calling g mk a) (Vm.Alike.refl U.vm) qE4, va_O.moved (u := U) (U := U.calling g mk a) (Vm.Alike.refl U.vm) qE5, va_Zq.moved (u := U) (U := U.calling g mk a) (Vm.Alike.refl U.vm) qE6⟩, hrv, fun U hU hW => ⟨rfl, by rw [hU], by rw [hU]; exact hPc, va_K.moved hW.alike hKc, hDc.weaken (fun _ _ _ _ => trivial), vk_R.warm hW hE_47, va_OF.moved hW.alike (by rw [hU]; exact (hE_50.kept hS.2.1).narrow hFc), va_T.moved hW.alike (by rw [hU]; exact (hE_51.kept hS.2.1).narrow hFc), va_Z.moved hW.alike (by rw [hU]; exact (hE_10.kept hS.2.1).narrow hFc), va_OF.moved hW.alike (by rw [hU]; exact (hE_49.kept hS.2.1).narrow hFc), va_O.moved hW.alike (by rw [hU]; exact (hE_48.kept hS.2.1).narrow hFc), va_Zq.moved hW.alike (by rw [hU]; exact (hE_11.kept hS.2.1).narrow hFc)⟩⟩ rfl rfl hl.1 rfl (lv_room (Nat.le_of_ble_eq_true rfl)) dX12_term_57 ⟨Nat.le_of_ble_eq_true rfl, Nat.le_of_ble_eq_true rfl⟩) hS (fun q _ h => hFc q h) hFc (fun r_17 u t H1 locs ht hvm hw hB hz1 hk1 hS => ?_)
        obtain ⟨x_18, x_19, x_20⟩ := u
        obtain ⟨hP1, hK1, hD1⟩ := hB
        rw [ht] at hP1
        obtain ⟨hP, hD⟩ := cl_put (w1 := (wd_c_X12_atom h0 h0_f0 h0_1 h0_2 h0_3 h0_4 h0_5 h0_f6 h0_f7 h0_f8 h0_f9 x_18 x_19 x_20 h0_f13 h0_f14 h0_15 h0_16 h0_f17 h0_18 h0_19 h0_20 h0_21 h0_22 h0_23 h0_24 h0_25 h0_f26 h0_f27 h0_f28 h0_f29 h0_f30 h0_f31 h0_32 h0_33 h0_f34 h0_35 h0_36 h0_37 h0_38 h0_39 h0_40 h0_f41 h0_f42 h0_f43 h0_f44 h0_45 h0_46 h0_47 h0_48 h0_49 h0_50 h0_f51 h0_52 h0_f53 h0_5 h0_5k tN h0_5c h0_4 h0_4k h0_4c)) (nw := (wd_c_X12_term h0 h0_f0 h0_1 h0_2 h0_3 h0_4 h0_5 h0_f6 h0_f7 h0_f8 h0_f9 x_18 x_19 x_20 h0_f13 h0_f14 h0_15 h0_16 h0_f17 h0_18 h0_19 h0_20 h0_21 h0_22 h0_23 h0_24 h0_25 h0_f26 h0_f27 h0_f28 h0_f29 h0_f30 h0_f31 h0_32 h0_33 h0_f34 h0_35 h0_36 h0_37 h0_38 h0_39 h0_40 h0_f41 h0_f42 h0_f43 h0_f44 h0_45 h0_46 h0_47 h0_48 h0_49 h0_50 h0_f51 h0_52 h0_f53 h0_5 h0_5k tN h0_5c h0_4 h0_4k h0_4c)) hP hD [0, 1, 2] [3, 4, 5] 3 rfl hqc (by decide +kernel) rfl hk1 hFc hP1 hD1
        generalize H1 = H at hP hS ⊢
        as_aux_lemma =>
        rcases hw with ⟨h_21, h_22, h_23, h_24, h_25, h_26, h_27⟩ | ⟨h_28, h_29, h_30, h_31, h_32, h_33⟩
        · have h_27 : (r_17, x_18, x_19, x_20) = _ := h_27
          replace hEX := hEX.trans (exc4_eq h_27)
          replace hEX := hEX.trans (if_pos (show x_19 = (-1) from h_23))
          subst h_23
          subst h_24
          have h_26 : x_14.toInt + 0 ≤ x_18.toInt := h_26
          refine lv_i2l (v := r_17.toInt64) hx hb dX12_term_60 rfl ?_
          refine lv_topl (fun x_34 ex_34 => ?_)
          replace hEX := hEX.trans (exl_eq ex_34)
          have g_35 : LG x_34 (-2147483648) 2147483647 := LG_i2l ex_34 h_21
          refine lv_lstore_n (lv' := [(3, .long x_34), (2, .int 0), (1, .int j5_l1), (0, .ref h0)]) hx hb dX12_term_61 rfl hl (Nat.le_of_ble_eq_true rfl) rfl (fun ls hl => ?_)
          refine lv_iload_n hx hb dX12_term_62 rfl (lv_at hl 1 rfl) ?_
          refine lv_if_eq (tgt := 73) hx hb dX12_term_63 rfl (fun c_36 => ?_) (fun c_36 => absurd c_36 (by decide +kernel))
          refine lv_lload_n hx hb dX12_term_73 rfl (lv_at hl 0 rfl) ?_
          as_aux_lemma =>
          refine lv_lconst (v := 0) hx hb dX12_term_74 (by decide +kernel) ?_
          refine W.lcmp hx hb dX12_term_75 ?_
          refine lv_if_ne (tgt := 83) hx hb dX12_term_76 rfl (fun c_37 => ?_) (fun c_37 => ?_)
          · replace c_37 := lc_ne_t c_37
            replace hEX := hEX.trans (if_neg c_37)
            refine lv_iload_n hx hb dX12_term_83 rfl (lv_at hl 2 rfl) ?_
            refine lv_i2l (v := j5_l1.toInt64) hx hb dX12_term_84 rfl ?_
            refine lv_topl (fun x_38 ex_38 => ?_)
            replace hEX := hEX.trans (exl_eq ex_38)
            have g_39 : LG x_38 (-2147483648) 2147483647 := LG_i2l ex_38 (RG_any j5_l1)
            refine lv_lload_n hx hb dX12_term_85 rfl (lv_at hl 0 rfl) ?_
            refine lv_ldiv hx hb dX12_term_86 c_37 ?_
            refine lv_topl (fun x_40 ex_40 => ?_)
            replace hEX := hEX.trans (exl_eq ex_40)
            exact hU _ _ _ (J87 x_40 x_18 g_h0_f10 g_h0_f17 g_h0_f26 g_h0_f27 g_h0_f28 g_h0_f29 g_h0_f30 g_h0_f31 g_h0_f34 g_h0_f41 g_h0_f51 g_h0_f53 g_h0_f6 g_h0_f7 g_h0_f8 g_h0_f9 g_j5_h0_f10 h_22 (by have := r_h0_f10_j45_h0_f10; have := q_16; have := h_26; omega) (by have := r_j5_h0_f10_j45_h0_f10; have := q_16; have := h_26; omega) hEX _ _ _ hP hD hS (lv_sub hl [3] rfl))
          · replace c_37 := lc_ne_f c_37
            replace hEX := hEX.trans (if_pos c_37)
            refine lv_lconst (v := 0) hx hb dX12_term_79 (by decide +kernel) ?_
            as_aux_lemma =>
            refine lv_goto (tgt := 87) hx hb dX12_term_80 rfl ?_
            exact hU _ _ _ (J87b x_18 g_h0_f10 g_h0_f17 g_h0_f26 g_h0_f27 g_h0_f28 g_h0_f29 g_h0_f30 g_h0_f31 g_h0_f34 g_h0_f41 g_h0_f51 g_h0_f53 g_h0_f6 g_h0_f7 g_h0_f8 g_h0_f9 g_j5_h0_f10 h_22 (by have := r_h0_f10_j45_h0_f10; have := q_16; have := h_26; omega) (by have := r_j5_h0_f10_j45_h0_f10; have := q_16; have := h_26; omega) hEX _ _ _ hP hD hS (lv_sub hl [3] rfl))
        · have h_33 : (r_17, x_18, x_19, x_20) = _ := h_33
          replace hEX := hEX.trans (exc4_eq h_33)
          replace hEX := hEX.trans (if_neg (RG_neq (x := x_19) (c := (-1)) (show RG x_19 0 240 from h_30) (by decide +kernel)))
          rw [h_28]
          have h_32 : x_14.toInt + 0 ≤ x_18.toInt := h_32
          refine lv_i2l (v := 0) hx hb dX12_term_60 (by decide +kernel) ?_
          refine lv_lstore_n (lv' := [(3, .long 0), (2, .int 0), (1, .int j5_l1), (0, .ref h0)]) hx hb dX12_term_61 rfl hl (Nat.le_of_ble_eq_true rfl) rfl (fun ls hl => ?_)
          refine lv_iload_n hx hb dX12_term_62 rfl (lv_at hl 1 rfl) ?_
          refine lv_if_eq (tgt := 73) hx hb dX12_term_63 rfl (fun c_41 => ?_) (fun c_41 => absurd c_41 (by decide +kernel))
          refine lv_lload_n hx hb dX12_term_73 rfl (lv_at hl 0 rfl) ?_
          refine lv_lconst (v := 0) hx hb dX12_term_74 (by decide +kernel) ?_
          refine W.lcmp hx hb dX12_term_75 ?_
          as_aux_lemma =>
          refine lv_topi (fun x_42 ex_42 => ?_)
          obtain rfl : x_42 = 0 := ex_42.trans (by decide +kernel)
          refine lv_if_ne (tgt := 83) hx hb dX12_term_76 rfl (fun c_43 => absurd c_43 (by decide +kernel)) (fun c_43 => ?_)
          refine lv_lconst (v := 0) hx hb dX12_term_79 (by decide +kernel) ?_
          refine lv_goto (tgt := 87) hx hb dX12_term_80 rfl ?_
          exact hU _ _ _ (J87c x_18 x_19 x_20 g_h0_f10 g_h0_f17 g_h0_f26 g_h0_f27 g_h0_f28 g_h0_f29 g_h0_f30 g_h0_f31 g_h0_f34 g_h0_f41 g_h0_f51 g_h0_f53 g_h0_f6 g_h0_f7 g_h0_f8 g_h0_f9 h_29 h_30 h_31 (by have := r_h0_f10_j45_h0_f10; have := q_16; have := h_32; omega) hEX _ _ _ hP hD hS (lv_sub hl [3] rfl))
      have J45b : ∀ (j45b_h0_f10 : Int32) (g_h0_f10 : RG h0_f10 0 240) (g_h0_f17 : RG h0_f17 0 1) (g_h0_f26 : RG h0_f26 0 8) (g_h0_f27 : RG h0_f27 0 3) (g_h0_f28 : RG h0_f28 0 8) (g_h0_f29 : RG h0_f29 0 3) (g_h0_f30 : RG h0_f30 0 4) (g_h0_f31 : RG h0_f31 0 1) (g_h0_f34 : RG h0_f34 (-1) 3) (g_h0_f41 : RG h0_f41 0 40) (g_h0_f51 : RG h0_f51 0 10) (g_h0_f53 : RG h0_f53 0 1) (g_h0_f6 : RG h0_f6 0 240) (g_h0_f7 : RG h0_f7 0 4) (g_h0_f8 : RG h0_f8 0 720) (g_h0_f9 : RG h0_f9 1 240) (g_j45b_h0_f10 : RG j45b_h0_f10 0 239) (g_j5_h0_f10 : RG j5_h0_f10 0 240) (r_h0_f10_j45b_h0_f10 : h0_f10.toInt + 0 ≤ j45b_h0_f10.toInt) (r_j5_h0_f10_j45b_h0_f10 : j5_h0_f10.toInt + 0 ≤ j45b_h0_f10.toInt) (hEX : RES = fx_c_X12_term_p45b h0_f8 h0_f9 h0_5c h0_4c j5_l1 (fx_c_X12_term_p5 h0_f8 h0_f9 h0_5c h0_4c n5) j45b_h0_f10) (H : Heap) (locs : List Loc) (ls : Array Slot) (hP : va_P (dC, dI) vwCl (wd_c_X12_term h0 h0_f0 h0_1 h0_2 h0_3 h0_4 h0_5 h0_f6 h0_f7 h0_f8 h0_f9 j45b_h0_f10 (-1) 0 h0_f13 h0_f14 h0_15 h0_16 h0_f17 h0_18 h0_19 h0_20 h0_21 h0_22 h0_23 h0_24 h0_25 h0_f26 h0_f27 h0_f28 h0_f29 h0_f30 h0_f31 h0_32 h0_33 h0_f34 h0_35 h0_36 h0_37 h0_38 h0_39 h0_40 h0_f41 h0_f42 h0_f43 h0_f44 h0_45 h0_46 h0_47 h0_48 h0_49 h0_50 h0_f51 h0_52 h0_f53 h0_5 h0_5k tN h0_5c h0_4 h0_4k h0_4c) H) (hD : va_D A (wd_c_X12_term h0 h0_f0 h0_1 h0_2 h0_3 h0_4 h0_5 h0_f6 h0_f7 h0_f8 h0_f9 j45b_h0_f10 (-1) 0 h0_f13 h0_f14 h0_15 h0_16 h0_f17 h0_18 h0_19 h0_20 h0_21 h0_22 h0_23 h0_24 h0_25 h0_f26 h0_f27 h0_f28 h0_f29 h0_f30 h0_f31 h0_32 h0_33 h0_f34 h0_35 h0_36 h0_37 h0_38 h0_39 h0_40 h0_f41 h0_f42 h0_f43 h0_f44 h0_45 h0_46 h0_47 h0_48 h0_49 h0_50 h0_f51 h0_52 h0_f53 h0_5 h0_5k tN h0_5c h0_4 h0_4k h0_4c)) (hS : va_S A s.heap H locs) (hl : lv_has ls 5 [(1, .int j5_l1), (0, .ref h0)]), G H locs (F0 m 45 ls [.int 1]) := by
        as_aux_lemma =>
        intro j45b_h0_f10 g_h0_f10 g_h0_f17 g_h0_f26 g_h0_f27 g_h0_f28 g_h0_f29 g_h0_f30 g_h0_f31 g_h0_f34 g_h0_f41 g_h0_f51 g_h0_f53 g_h0_f6 g_h0_f7 g_h0_f8 g_h0_f9 g_j45b_h0_f10 g_j5_h0_f10 r_h0_f10_j45b_h0_f10 r_j5_h0_f10_j45b_h0_f10 hEX H locs ls hP hD hS hl
        refine hG _ _ _ ?_
        refine lv_istore_n (lv' := [(2, .int 1), (1, .int j5_l1), (0, .ref h0)]) hx hb dX12_term_45 rfl hl (Nat.le_of_ble_eq_true rfl) rfl (fun ls hl => ?_)
        refine lv_aload_n hx hb dX12_term_46 rfl (lv_at hl 2 rfl) ?_
        refine lv_dup hx hb dX12_term_47 rfl ?_
        refine va_get (D := (dC, dI)) (ci := 12) (v := .int j45b_h0_f10) (C := RX12) (T := TX12) (N := 54) hx hb hts iw_c_X12_term_X12 hown hK hP 0 rfl rfl 10 (by decide +kernel) (hts (.fieldLink RX12 134 "BuoyVoteModel" "at" "I") (List.mem_of_getElem? (i := 10) rfl)) (fun _ h9 => h9) rfl dX12_term_48 ?_
        refine lv_iconst (v := 1) hx hb dX12_term_51 kc_iconst_1 ?_
        refine lv_iadd hx hb dX12_term_52 ?_
        refine lv_topi (fun x_44 ex_44 => ?_)
        replace hEX := hEX.trans (exl_eq ex_44)
        have g_45 : RG x_44 1 240 := RG_add ex_44 g_j45b_h0_f10 (RG_k 1 1 rfl) (by decide +kernel)
        have q_46 : x_44.toInt = j45b_h0_f10.toInt + 1 := eq_add ex_44 g_j45b_h0_f10 (q := 1) rfl (by decide +kernel)
        refine va_put (D := (dC, dI)) (ci := 12) (v := .int x_44) (ty := .int) (C := RX12) (T := TX12) (N := 54) hx hb hts iw_c_X12_term_X12 tyX12 tyX12_ok nmX12 hown hK hP hD hS 0 rfl rfl 10 (by decide +kernel) (hts (.fieldLink RX12 134 "BuoyVoteModel" "at" "I") (List.mem_of_getElem? (i := 10) rfl)) (fun _ h9 => h9) rfl (by decide +kernel) rfl rfl (Nat.le_of_ble_eq_true rfl) dX12_term_53 (fun H locs hP hD hS => ?_)
        have hP : va_P (dC, dI) vwCl (wd_c_X12_term h0 h0_f0 h0_1 h0_2 h0_3 h0_4 h0_5 h0_f6 h0_f7 h0_f8 h0_f9 x_44 (-1) 0 h0_f13 h0_f14 h0_15 h0_16 h0_f17 h0_18 h0_19 h0_20 h0_21 h0_22 h0_23 h0_24 h0_25 h0_f26 h0_f27 h0_f28 h0_f29 h0_f30 h0_f31 h0_32 h0_33 h0_f34 h0_35 h0_36 h0_37 h0_38 h0_39 h0_40 h0_f41 h0_f42 h0_f43 h0_f44 h0_45 h0_46 h0_47 h0_48 h0_49 h0_50 h0_f51 h0_52 h0_f53 h0_5 h0_5k tN h0_5c h0_4 h0_4k h0_4c) H := hP
        have hD : va_D A (wd_c_X12_term h0 h0_f0 h0_1 h0_2 h0_3 h0_4 h0_5 h0_f6 h0_f7 h0_f8 h0_f9 x_44 (-1) 0 h0_f13 h0_f14 h0_15 h0_16 h0_f17 h0_18 h0_19 h0_20 h0_21 h0_22 h0_23 h0_24 h0_25 h0_f26 h0_f27 h0_f28 h0_f29 h0_f30 h0_f31 h0_32 h0_33 h0_f34 h0_35 h0_36 h0_37 h0_38 h0_39 h0_40 h0_f41 h0_f42 h0_f43 h0_f44 h0_45 h0_46 h0_47 h0_48 h0_49 h0_50 h0_f51 h0_52 h0_f53 h0_5 h0_5k tN h0_5c h0_4 h0_4k h0_4c) := hD
        refine lv_aload_n hx hb dX12_term_56 rfl (lv_at hl 2 rfl) ?_
        as_aux_lemma =>
        obtain ⟨hPc, hDc, hFc, hqc⟩ := cl_cut (wc := (wd_c_X12_atom h0 h0_f0 h0_1 h0_2 h0_3 h0_4 h0_5 h0_f6 h0_f7 h0_f8 h0_f9 x_44 (-1) 0 h0_f13 h0_f14 h0_15 h0_16 h0_f17 h0_18 h0_19 h0_20 h0_21 h0_22 h0_23 h0_24 h0_25 h0_f26 h0_f27 h0_f28 h0_f29 h0_f30 h0_f31 h0_32 h0_33 h0_f34 h0_35 h0_36 h0_37 h0_38 h0_39 h0_40 h0_f41 h0_f42 h0_f43 h0_f44 h0_45 h0_46 h0_47 h0_48 h0_49 h0_50 h0_f51 h0_52 h0_f53 h0_5 h0_5k tN h0_5c h0_4 h0_4k h0_4c)) hP hD hS hA [0, 1, 2] (by decide +kernel) rfl
        have hKc := hK.sub (tys' := [(h0_5k, .byte), (h0_4k, .int)]) [0, 1] rfl
        have hrv := va_recv hKc hPc (ci := 12) (q0 := 0) rfl rfl
        refine va_calli (va_runV (As := []) (rest := []) ⟨hx, hb, hml, hown, hts⟩ (c_X12_atom l dC dI H.size h0 h0_f0 h0_1 h0_2 h0_3 h0_4 h0_5 h0_f6 h0_f7 h0_f8 h0_f9 x_44 h0_f13 h0_f14 h0_15 h0_16 h0_f17 h0_18 h0_19 h0_20 h0_21 h0_22 h0_23 h0_24 h0_25 h0_f26 h0_f27 h0_f28 h0_f29 h0_f30 h0_f31 h0_32 h0_33 h0_f34 h0_35 h0_36 h0_37 h0_38 h0_39 h0_40 h0_f41 h0_f42 h0_f43 h0_f44 h0_45 h0_46 h0_47 h0_48 h0_49 h0_50 h0_f51 h0_52 h0_f53 h0_5k h0_5c tN h0_4k h0_4c ts7 tv7 g_h0_f6 g_h0_f7 g_h0_f8 (RG_w g_h0_f9 (by decide +kernel)) (RG_w g_45 (by decide +kernel)) g_h0_f17 g_h0_f26 g_h0_f27 g_h0_f28 g_h0_f29 g_h0_f30 g_h0_f31 g_h0_f34 g_h0_f41 g_h0_f51 g_h0_f53 htN a_h0_4c) (cwV 0 hts gf_c_X12_term_c_X12_atom rfl rfl rfl mdV_X12_atom ⟨Nat.le_of_ble_eq_true rfl, Nat.le_of_ble_eq_true rfl⟩) ⟨fun a U g mk q => by obtain ⟨q0, q1, qP, qK, qD, qE0, qE1, qE2, qE3, qE4, qE5, qE6⟩ := q; exact ⟨q0, q1, qP, va_K.moved (u := U) (U := U.calling g mk a) (Vm.Alike.refl U.vm) qK, qD, vk_R.same rfl qE0, va_OF.moved (u := U) (U := U.calling g mk a) (Vm.Alike.refl U.vm) qE1, va_T.moved (u := U) (U := U.calling g mk a) (Vm.Alike.refl U.vm) qE2, va_Z.moved (u := U) (U := U.calling g mk a) (Vm.Alike.refl U.vm) qE3, va_OF.moved (u := U) (U := U.calling g mk a) (Vm.Alike.refl U.vm) qE4, va_O.moved (u := U) (U := U.calling g mk a) (Vm.Alike.refl U.vm) qE5, va_Zq.moved (u := U) (U := U.calling g mk a) (Vm.Alike.refl U.vm) qE6⟩, hrv, fun U hU hW => ⟨rfl, by rw [hU], by rw [hU]; exact hPc, va_K.moved hW.alike hKc, hDc.weaken (fun _ _ _ _ => trivial), vk_R.warm hW hE_47, va_OF.moved hW.alike (by rw [hU]; exact (hE_50.kept hS.2.1).narrow hFc), va_T.moved hW.alike (by rw [hU]; exact (hE_51.kept hS.2.1).narrow hFc), va_Z.moved hW.alike (by rw [hU]; exact (hE_10.kept hS.2.1).narrow hFc), va_OF.moved hW.alike (by rw [hU]; exact (hE_49.kept hS.2.1).narrow hFc), va_O.moved hW.alike (by rw [hU]; exact (hE_48.kept hS.2.1).narrow hFc), va_Zq.moved hW.alike (by rw [hU]; exact (hE_11.kept hS.2.1).narrow hFc)⟩⟩ rfl rfl hl.1 rfl (lv_room (Nat.le_of_ble_eq_true rfl)) dX12_term_57 ⟨Nat.le_of_ble_eq_true rfl, Nat.le_of_ble_eq_true rfl⟩) hS (fun q _ h => hFc q h) hFc (fun r_47 u t H1 locs ht hvm hw hB hz1 hk1 hS => ?_)
        obtain ⟨x_48, x_49, x_50⟩ := u
        obtain ⟨hP1, hK1, hD1⟩ := hB
        rw [ht] at hP1
        obtain ⟨hP, hD⟩ := cl_put (w1 := (wd_c_X12_atom h0 h0_f0 h0_1 h0_2 h0_3 h0_4 h0_5 h0_f6 h0_f7 h0_f8 h0_f9 x_48 x_49 x_50 h0_f13 h0_f14 h0_15 h0_16 h0_f17 h0_18 h0_19 h0_20 h0_21 h0_22 h0_23 h0_24 h0_25 h0_f26 h0_f27 h0_f28 h0_f29 h0_f30 h0_f31 h0_32 h0_33 h0_f34 h0_35 h0_36 h0_37 h0_38 h0_39 h0_40 h0_f41 h0_f42 h0_f43 h0_f44 h0_45 h0_46 h0_47 h0_48 h0_49 h0_50 h0_f51 h0_52 h0_f53 h0_5 h0_5k tN h0_5c h0_4 h0_4k h0_4c)) (nw := (wd_c_X12_term h0 h0_f0 h0_1 h0_2 h0_3 h0_4 h0_5 h0_f6 h0_f7 h0_f8 h0_f9 x_48 x_49 x_50 h0_f13 h0_f14 h0_15 h0_16 h0_f17 h0_18 h0_19 h0_20 h0_21 h0_22 h0_23 h0_24 h0_25 h0_f26 h0_f27 h0_f28 h0_f29 h0_f30 h0_f31 h0_32 h0_33 h0_f34 h0_35 h0_36 h0_37 h0_38 h0_39 h0_40 h0_f41 h0_f42 h0_f43 h0_f44 h0_45 h0_46 h0_47 h0_48 h0_49 h0_50 h0_f51 h0_52 h0_f53 h0_5 h0_5k tN h0_5c h0_4 h0_4k h0_4c)) hP hD [0, 1, 2] [3, 4, 5] 3 rfl hqc (by decide +kernel) rfl hk1 hFc hP1 hD1
        generalize H1 = H at hP hS ⊢
        as_aux_lemma =>
        rcases hw with ⟨h_51, h_52, h_53, h_54, h_55, h_56, h_57⟩ | ⟨h_58, h_59, h_60, h_61, h_62, h_63⟩
        · have h_57 : (r_47, x_48, x_49, x_50) = _ := h_57
          replace hEX := hEX.trans (exc4_eq h_57)
          replace hEX := hEX.trans (if_pos (show x_49 = (-1) from h_53))
          subst h_53
          subst h_54
          have h_56 : x_44.toInt + 0 ≤ x_48.toInt := h_56
          refine lv_i2l (v := r_47.toInt64) hx hb dX12_term_60 rfl ?_
          refine lv_topl (fun x_64 ex_64 => ?_)
          replace hEX := hEX.trans (exl_eq ex_64)
          have g_65 : LG x_64 (-2147483648) 2147483647 := LG_i2l ex_64 h_51
          refine lv_lstore_n (lv' := [(3, .long x_64), (2, .int 1), (1, .int j5_l1), (0, .ref h0)]) hx hb dX12_term_61 rfl hl (Nat.le_of_ble_eq_true rfl) rfl (fun ls hl => ?_)
          refine lv_iload_n hx hb dX12_term_62 rfl (lv_at hl 1 rfl) ?_
          refine lv_if_eq (tgt := 73) hx hb dX12_term_63 rfl (fun c_66 => absurd c_66 (by decide +kernel)) (fun c_66 => ?_)
          as_aux_lemma =>
          refine lv_iload_n hx hb dX12_term_66 rfl (lv_at hl 2 rfl) ?_
          refine lv_i2l (v := j5_l1.toInt64) hx hb dX12_term_67 rfl ?_
          refine lv_topl (fun x_67 ex_67 => ?_)
          replace hEX := hEX.trans (exl_eq ex_67)
          have g_68 : LG x_67 (-2147483648) 2147483647 := LG_i2l ex_67 (RG_any j5_l1)
          refine lv_lload_n hx hb dX12_term_68 rfl (lv_at hl 0 rfl) ?_
          refine lv_lmul hx hb dX12_term_69 ?_
          refine lv_topl (fun x_69 ex_69 => ?_)
          replace hEX := hEX.trans (exl_eq ex_69)
          refine lv_goto (tgt := 87) hx hb dX12_term_70 rfl ?_
          exact hU _ _ _ (J87 x_69 x_48 g_h0_f10 g_h0_f17 g_h0_f26 g_h0_f27 g_h0_f28 g_h0_f29 g_h0_f30 g_h0_f31 g_h0_f34 g_h0_f41 g_h0_f51 g_h0_f53 g_h0_f6 g_h0_f7 g_h0_f8 g_h0_f9 g_j5_h0_f10 h_52 (by have := r_h0_f10_j45b_h0_f10; have := q_46; have := h_56; omega) (by have := r_j5_h0_f10_j45b_h0_f10; have := q_46; have := h_56; omega) hEX _ _ _ hP hD hS (lv_sub hl [3] rfl))
        · have h_63 : (r_47, x_48, x_49, x_50) = _ := h_63
          replace hEX := hEX.trans (exc4_eq h_63)
          replace hEX := hEX.trans (if_neg (RG_neq (x := x_49) (c := (-1)) (show RG x_49 0 240 from h_60) (by decide +kernel)))
          rw [h_58]
          have h_62 : x_44.toInt + 0 ≤ x_48.toInt := h_62
          refine lv_i2l (v := 0) hx hb dX12_term_60 (by decide +kernel) ?_
          as_aux_lemma =>
          refine lv_lstore_n (lv' := [(3, .long 0), (2, .int 1), (1, .int j5_l1), (0, .ref h0)]) hx hb dX12_term_61 rfl hl (Nat.le_of_ble_eq_true rfl) rfl (fun ls hl => ?_)
          refine lv_iload_n hx hb dX12_term_62 rfl (lv_at hl 1 rfl) ?_
          refine lv_if_eq (tgt := 73) hx hb dX12_term_63 rfl (fun c_70 => absurd c_70 (by decide +kernel)) (fun c_70 => ?_)
          refine lv_iload_n hx hb dX12_term_66 rfl (lv_at hl 2 rfl) ?_
          refine lv_i2l (v := j5_l1.toInt64) hx hb dX12_term_67 rfl ?_
          refine lv_topl (fun x_71 ex_71 => ?_)
          replace hEX := hEX.trans (exl_eq ex_71)
          have g_72 : LG x_71 (-2147483648) 2147483647 := LG_i2l ex_71 (RG_any j5_l1)
          refine lv_lload_n hx hb dX12_term_68 rfl (lv_at hl 0 rfl) ?_
          refine lv_lmul hx hb dX12_term_69 ?_
          refine lv_topl (fun x_73 ex_73 => ?_)
          replace hEX := hEX.trans (exl_eq ex_73)
          have g_74 : LG x_73 0 0 := LG_mulc ex_73 (q := 0) rfl g_72 (by decide +kernel)
          refine lv_goto (tgt := 87) hx hb dX12_term_70 rfl ?_
          as_aux_lemma =>
          exact hU _ _ _ (J87d x_73 x_48 x_49 x_50 g_h0_f10 g_h0_f17 g_h0_f26 g_h0_f27 g_h0_f28 g_h0_f29 g_h0_f30 g_h0_f31 g_h0_f34 g_h0_f41 g_h0_f51 g_h0_f53 g_h0_f6 g_h0_f7 g_h0_f8 g_h0_f9 h_59 h_60 h_61 g_74 (by have := r_h0_f10_j45b_h0_f10; have := q_46; have := h_62; omega) hEX _ _ _ hP hD hS (lv_sub hl [3] rfl))
      refine hG _ _ _ ?_
      replace hEX := hEX.trans (if_pos (rfl : j5_l1 = j5_l1))
      refine lv_aload_n hx hb dX12_term_5 rfl (lv_at hl 1 rfl) ?_
      refine va_get (D := (dC, dI)) (ci := 12) (v := .int (-1)) (C := RX12) (T := TX12) (N := 54) hx hb hts iw_c_X12_term_X12 hown hK hP 0 rfl rfl 11 (by decide +kernel) (hts (.fieldLink RX12 143 "BuoyVoteModel" "fault" "I") (List.mem_of_getElem? (i := 57) rfl)) (fun _ h9 => h9) rfl dX12_term_6 ?_
      refine lv_iconst (v := (-1)) hx hb dX12_term_9 kc_iconst_m1 ?_
      refine lv_icmp_ne (tgt := 94) hx hb dX12_term_10 rfl (fun c_75 => absurd c_75 (by decide +kernel)) (fun c_75 => ?_)
      refine lv_aload_n hx hb dX12_term_13 rfl (lv_at hl 1 rfl) ?_
      obtain ⟨hPc, hDc, hFc, hqc⟩ := cl_cut (wc := (wd_c_X12_look h0 h0_f0 h0_1 h0_2 h0_3 h0_4 h0_5 h0_f6 h0_f7 h0_f8 h0_f9 j5_h0_f10 (-1) 0 h0_f13 h0_f14 h0_15 h0_16 h0_f17 h0_18 h0_19 h0_20 h0_21 h0_22 h0_23 h0_24 h0_25 h0_f26 h0_f27 h0_f28 h0_f29 h0_f30 h0_f31 h0_32 h0_33 h0_f34 h0_35 h0_36 h0_37 h0_38 h0_39 h0_40 h0_f41 h0_f42 h0_f43 h0_f44 h0_45 h0_46 h0_47 h0_48 h0_49 h0_50 h0_f51 h0_52 h0_f53 h0_5 h0_5k tN h0_5c)) hP hD hS hA [0, 1] (by decide +kernel) rfl
      have hKc := hK.sub (tys' := [(h0_5k, .byte)]) [0] rfl
      have hrv := va_recv hKc hPc (ci := 12) (q0 := 0) rfl rfl
      refine va_calli (va_runV (As := []) (rest := []) ⟨hx, hb, hml, hown, hts⟩ (c_X12_look l dC dI H.size h0 h0_f0 h0_1 h0_2 h0_3 h0_4 h0_5 h0_f6 h0_f7 h0_f8 h0_f9 j5_h0_f10 0 h0_f13 h0_f14 h0_15 h0_16 h0_f17 h0_18 h0_19 h0_20 h0_21 h0_22 h0_23 h0_24 h0_25 h0_f26 h0_f27 h0_f28 h0_f29 h0_f30 h0_f31 h0_32 h0_33 h0_f34 h0_35 h0_36 h0_37 h0_38 h0_39 h0_40 h0_f41 h0_f42 h0_f43 h0_f44 h0_45 h0_46 h0_47 h0_48 h0_49 h0_50 h0_f51 h0_52 h0_f53 h0_5k h0_5c tN g_h0_f6 g_h0_f7 g_h0_f8 (RG_w g_h0_f9 (by decide +kernel)) g_j5_h0_f10 g_h0_f17 g_h0_f26 g_h0_f27 g_h0_f28 g_h0_f29 g_h0_f30 g_h0_f31 g_h0_f34 g_h0_f41 g_h0_f51 g_h0_f53 htN) (cwV 0 hts gf_c_X12_term_c_X12_look rfl rfl rfl mdV_X12_look ⟨Nat.le_of_ble_eq_true rfl, Nat.le_of_ble_eq_true rfl⟩) ⟨fun a U g mk q => by obtain ⟨q0, q1, qP, qK, qD⟩ := q; exact ⟨q0, q1, qP, va_K.moved (u := U) (U := U.calling g mk a) (Vm.Alike.refl U.vm) qK, qD⟩, hrv, fun U hU hW => ⟨rfl, by rw [hU], by rw [hU]; exact hPc, va_K.moved hW.alike hKc, hDc.weaken (fun _ _ _ _ => trivial)⟩⟩ rfl rfl hl.1 rfl (lv_room (Nat.le_of_ble_eq_true rfl)) dX12_term_14 ⟨Nat.le_of_ble_eq_true rfl, Nat.le_of_ble_eq_true rfl⟩) hS (fun q _ h => hFc q h) hFc (fun r_76 x_77 t H1 locs ht hvm hw hB hz1 hk1 hS => ?_)
      obtain ⟨hP1, hK1, hD1⟩ := hB
      rw [ht] at hP1
      obtain ⟨hP, hD⟩ := cl_put (w1 := (wd_c_X12_look h0 h0_f0 h0_1 h0_2 h0_3 h0_4 h0_5 h0_f6 h0_f7 h0_f8 h0_f9 x_77 (-1) 0 h0_f13 h0_f14 h0_15 h0_16 h0_f17 h0_18 h0_19 h0_20 h0_21 h0_22 h0_23 h0_24 h0_25 h0_f26 h0_f27 h0_f28 h0_f29 h0_f30 h0_f31 h0_32 h0_33 h0_f34 h0_35 h0_36 h0_37 h0_38 h0_39 h0_40 h0_f41 h0_f42 h0_f43 h0_f44 h0_45 h0_46 h0_47 h0_48 h0_49 h0_50 h0_f51 h0_52 h0_f53 h0_5 h0_5k tN h0_5c)) (nw := (wd_c_X12_term h0 h0_f0 h0_1 h0_2 h0_3 h0_4 h0_5 h0_f6 h0_f7 h0_f8 h0_f9 x_77 (-1) 0 h0_f13 h0_f14 h0_15 h0_16 h0_f17 h0_18 h0_19 h0_20 h0_21 h0_22 h0_23 h0_24 h0_25 h0_f26 h0_f27 h0_f28 h0_f29 h0_f30 h0_f31 h0_32 h0_33 h0_f34 h0_35 h0_36 h0_37 h0_38 h0_39 h0_40 h0_f41 h0_f42 h0_f43 h0_f44 h0_45 h0_46 h0_47 h0_48 h0_49 h0_50 h0_f51 h0_52 h0_f53 h0_5 h0_5k tN h0_5c h0_4 h0_4k h0_4c)) hP hD [0, 1] [3, 4, 2] 3 rfl hqc (by decide +kernel) rfl hk1 hFc hP1 hD1
      generalize H1 = H at hP hS ⊢
      as_aux_lemma =>
      rcases hw with ⟨h_78, h_79, h_80, h_81, h_82, h_83⟩ | ⟨h_84, h_85, h_86, h_87, h_88, h_89, h_90⟩
      · have h_83 : (r_76, x_77) = _ := h_83
        replace hEX := hEX.trans (exc2_eq h_83)
        replace hEX := hEX.trans (if_pos (show r_76 = (-1) from h_78))
        rw [h_78]
        refine lv_bipush (v := 42) hx hb dX12_term_17 kc_bipush_42 ?_
        refine lv_icmp_eq (tgt := 31) hx hb dX12_term_19 rfl (fun c_91 => absurd c_91 (by decide +kernel)) (fun c_91 => ?_)
        refine lv_aload_n hx hb dX12_term_22 rfl (lv_at hl 1 rfl) ?_
        obtain ⟨hPc, hDc, hFc, hqc⟩ := cl_cut (wc := (wd_c_X12_look h0 h0_f0 h0_1 h0_2 h0_3 h0_4 h0_5 h0_f6 h0_f7 h0_f8 h0_f9 x_77 (-1) 0 h0_f13 h0_f14 h0_15 h0_16 h0_f17 h0_18 h0_19 h0_20 h0_21 h0_22 h0_23 h0_24 h0_25 h0_f26 h0_f27 h0_f28 h0_f29 h0_f30 h0_f31 h0_32 h0_33 h0_f34 h0_35 h0_36 h0_37 h0_38 h0_39 h0_40 h0_f41 h0_f42 h0_f43 h0_f44 h0_45 h0_46 h0_47 h0_48 h0_49 h0_50 h0_f51 h0_52 h0_f53 h0_5 h0_5k tN h0_5c)) hP hD hS hA [0, 1] (by decide +kernel) rfl
        have hKc := hK.sub (tys' := [(h0_5k, .byte)]) [0] rfl
        have hrv := va_recv hKc hPc (ci := 12) (q0 := 0) rfl rfl
        refine va_calli (va_runV (As := []) (rest := []) ⟨hx, hb, hml, hown, hts⟩ (c_X12_look l dC dI H.size h0 h0_f0 h0_1 h0_2 h0_3 h0_4 h0_5 h0_f6 h0_f7 h0_f8 h0_f9 x_77 0 h0_f13 h0_f14 h0_15 h0_16 h0_f17 h0_18 h0_19 h0_20 h0_21 h0_22 h0_23 h0_24 h0_25 h0_f26 h0_f27 h0_f28 h0_f29 h0_f30 h0_f31 h0_32 h0_33 h0_f34 h0_35 h0_36 h0_37 h0_38 h0_39 h0_40 h0_f41 h0_f42 h0_f43 h0_f44 h0_45 h0_46 h0_47 h0_48 h0_49 h0_50 h0_f51 h0_52 h0_f53 h0_5k h0_5c tN g_h0_f6 g_h0_f7 g_h0_f8 (RG_w g_h0_f9 (by decide +kernel)) h_79 g_h0_f17 g_h0_f26 g_h0_f27 g_h0_f28 g_h0_f29 g_h0_f30 g_h0_f31 g_h0_f34 g_h0_f41 g_h0_f51 g_h0_f53 htN) (cwV 0 hts gf_c_X12_term_c_X12_look rfl rfl rfl mdV_X12_look ⟨Nat.le_of_ble_eq_true rfl, Nat.le_of_ble_eq_true rfl⟩) ⟨fun a U g mk q => by obtain ⟨q0, q1, qP, qK, qD⟩ := q; exact ⟨q0, q1, qP, va_K.moved (u := U) (U := U.calling g mk a) (Vm.Alike.refl U.vm) qK, qD⟩, hrv, fun U hU hW => ⟨rfl, by rw [hU], by rw [hU]; exact hPc, va_K.moved hW.alike hKc, hDc.weaken (fun _ _ _ _ => trivial)⟩⟩ rfl rfl hl.1 rfl (lv_room (Nat.le_of_ble_eq_true rfl)) dX12_term_23 ⟨Nat.le_of_ble_eq_true rfl, Nat.le_of_ble_eq_true rfl⟩) hS (fun q _ h => hFc q h) hFc (fun r_92 x_93 t H1 locs ht hvm hw hB hz1 hk1 hS => ?_)
        obtain ⟨hP1, hK1, hD1⟩ := hB
        rw [ht] at hP1
        obtain ⟨hP, hD⟩ := cl_put (w1 := (wd_c_X12_look h0 h0_f0 h0_1 h0_2 h0_3 h0_4 h0_5 h0_f6 h0_f7 h0_f8 h0_f9 x_93 (-1) 0 h0_f13 h0_f14 h0_15 h0_16 h0_f17 h0_18 h0_19 h0_20 h0_21 h0_22 h0_23 h0_24 h0_25 h0_f26 h0_f27 h0_f28 h0_f29 h0_f30 h0_f31 h0_32 h0_33 h0_f34 h0_35 h0_36 h0_37 h0_38 h0_39 h0_40 h0_f41 h0_f42 h0_f43 h0_f44 h0_45 h0_46 h0_47 h0_48 h0_49 h0_50 h0_f51 h0_52 h0_f53 h0_5 h0_5k tN h0_5c)) (nw := (wd_c_X12_term h0 h0_f0 h0_1 h0_2 h0_3 h0_4 h0_5 h0_f6 h0_f7 h0_f8 h0_f9 x_93 (-1) 0 h0_f13 h0_f14 h0_15 h0_16 h0_f17 h0_18 h0_19 h0_20 h0_21 h0_22 h0_23 h0_24 h0_25 h0_f26 h0_f27 h0_f28 h0_f29 h0_f30 h0_f31 h0_32 h0_33 h0_f34 h0_35 h0_36 h0_37 h0_38 h0_39 h0_40 h0_f41 h0_f42 h0_f43 h0_f44 h0_45 h0_46 h0_47 h0_48 h0_49 h0_50 h0_f51 h0_52 h0_f53 h0_5 h0_5k tN h0_5c h0_4 h0_4k h0_4c)) hP hD [0, 1] [3, 4, 2] 3 rfl hqc (by decide +kernel) rfl hk1 hFc hP1 hD1
        generalize H1 = H at hP hS ⊢
        as_aux_lemma =>
        rcases hw with ⟨h_94, h_95, h_96, h_97, h_98, h_99⟩ | ⟨h_100, h_101, h_102, h_103, h_104, h_105, h_106⟩
        · have h_99 : (r_92, x_93) = _ := h_99
          replace hEX := hEX.trans (exc2_eq h_99)
          replace hEX := hEX.trans (if_pos (show r_92 = (-1) from h_94))
          rw [h_94]
          refine lv_bipush (v := 47) hx hb dX12_term_26 kc_bipush_47 ?_
          refine lv_icmp_ne (tgt := 94) hx hb dX12_term_28 rfl (fun c_107 => ?_) (fun c_107 => absurd c_107 (by decide +kernel))
          refine lv_iload_n hx hb dX12_term_94 rfl (lv_at hl 0 rfl) ?_
          have hK9 := hK.sub (tys' := []) [] rfl
          exact W.iret (v := j5_l1) hx hb hr (fun t ht hW => ⟨⟨j5_l1, (x_93, (-1), 0), rfl, (Or.inl ⟨(RG_any j5_l1), h_95, rfl, rfl, g_h0_f9, (by have := r_h0_f10_j5_h0_f10; have := h_80; have := h_96; show h0_f10.toInt + 0 ≤ x_93.toInt; omega), (hR.trans hEX).symm⟩), by rw [ht]; exact hP, va_K.moved hW.alike hK9, hD⟩, hS.F ht⟩) hS.2.2 dX12_term_95
        · have h_106 : (r_92, x_93) = _ := h_106
          replace hEX := hEX.trans (exc2_eq h_106)
          replace hEX := hEX.trans (if_neg (RG_neq (x := r_92) (c := (-1)) (show RG r_92 0 255 from h_100) (by decide +kernel)))
          have nb_108 := h_105.2.resolve_left (fun q => by have g9 := h_100; rw [q] at g9; exact absurd g9.1 (by decide +kernel))
          refine lv_bipush (v := 47) hx hb dX12_term_26 kc_bipush_47 ?_
          as_aux_lemma =>
          refine lv_icmp_ne (tgt := 94) hx hb dX12_term_28 rfl (fun c_109 => ?_) (fun c_109 => ?_)
          · replace hEX := hEX.trans (if_neg c_109)
            refine lv_iload_n hx hb dX12_term_94 rfl (lv_at hl 0 rfl) ?_
            have hK9 := hK.sub (tys' := []) [] rfl
            exact W.iret (v := j5_l1) hx hb hr (fun t ht hW => ⟨⟨j5_l1, (x_93, (-1), 0), rfl, (Or.inl ⟨(RG_any j5_l1), (RG_w h_101 (by decide +kernel)), rfl, rfl, g_h0_f9, (by have := r_h0_f10_j5_h0_f10; have := h_80; have := h_103; show h0_f10.toInt + 0 ≤ x_93.toInt; omega), (hR.trans hEX).symm⟩), by rw [ht]; exact hP, va_K.moved hW.alike hK9, hD⟩, hS.F ht⟩) hS.2.2 dX12_term_95
          · replace hEX := hEX.trans (if_pos c_109)
            have g_110 : RG r_92 47 47 := RG_eq1 h_100 (RG_k 47 47 rfl) c_109 (by decide +kernel)
            refine lv_aload_n hx hb dX12_term_31 rfl (lv_at hl 1 rfl) ?_
            obtain ⟨hPc, hDc, hFc, hqc⟩ := cl_cut (wc := (wd_c_X12_look_1 h0 h0_f0 h0_1 h0_2 h0_3 h0_4 h0_5 h0_f6 h0_f7 h0_f8 h0_f9 x_93 (-1) 0 h0_f13 h0_f14 h0_15 h0_16 h0_f17 h0_18 h0_19 h0_20 h0_21 h0_22 h0_23 h0_24 h0_25 h0_f26 h0_f27 h0_f28 h0_f29 h0_f30 h0_f31 h0_32 h0_33 h0_f34 h0_35 h0_36 h0_37 h0_38 h0_39 h0_40 h0_f41 h0_f42 h0_f43 h0_f44 h0_45 h0_46 h0_47 h0_48 h0_49 h0_50 h0_f51 h0_52 h0_f53 h0_5 h0_5k tN h0_5c)) hP hD hS hA [0, 1] (by decide +kernel) rfl
            have hKc := hK.sub (tys' := [(h0_5k, .byte)]) [0] rfl
            have hrv := va_recv hKc hPc (ci := 12) (q0 := 0) rfl rfl
            refine va_calli (va_runV (As := []) (rest := []) ⟨hx, hb, hml, hown, hts⟩ (c_X12_look_1 l dC dI H.size h0 h0_f0 h0_1 h0_2 h0_3 h0_4 h0_5 h0_f6 h0_f7 h0_f8 h0_f9 x_93 0 h0_f13 h0_f14 h0_15 h0_16 h0_f17 h0_18 h0_19 h0_20 h0_21 h0_22 h0_23 h0_24 h0_25 h0_f26 h0_f27 h0_f28 h0_f29 h0_f30 h0_f31 h0_32 h0_33 h0_f34 h0_35 h0_36 h0_37 h0_38 h0_39 h0_40 h0_f41 h0_f42 h0_f43 h0_f44 h0_45 h0_46 h0_47 h0_48 h0_49 h0_50 h0_f51 h0_52 h0_f53 h0_5k h0_5c tN g_h0_f6 g_h0_f7 g_h0_f8 (RG_w g_h0_f9 (by decide +kernel)) (RG_w h_101 (by decide +kernel)) g_h0_f17 g_h0_f26 g_h0_f27 g_h0_f28 g_h0_f29 g_h0_f30 g_h0_f31 g_h0_f34 g_h0_f41 g_h0_f51 g_h0_f53 htN nb_108 h_104) (cwV 0 hts gf_c_X12_term_c_X12_look_1 rfl rfl rfl mdV_X12_look ⟨Nat.le_of_ble_eq_true rfl, Nat.le_of_ble_eq_true rfl⟩) ⟨fun a U g mk q => by obtain ⟨q0, q1, qP, qK, qD⟩ := q; exact ⟨q0, q1, qP, va_K.moved (u := U) (U := U.calling g mk a) (Vm.Alike.refl U.vm) qK, qD⟩, hrv, fun U hU hW => ⟨rfl, by rw [hU], by rw [hU]; exact hPc, va_K.moved hW.alike hKc, hDc.weaken (fun _ _ _ _ => trivial)⟩⟩ rfl rfl hl.1 rfl (lv_room (Nat.le_of_ble_eq_true rfl)) dX12_term_32 ⟨Nat.le_of_ble_eq_true rfl, Nat.le_of_ble_eq_true rfl⟩) hS (fun q _ h => hFc q h) hFc (fun r_111 u t H1 locs ht hvm hw hB hz1 hk1 hS => ?_)
            obtain ⟨hP1, hK1, hD1⟩ := hB
            rw [ht] at hP1
            obtain ⟨hP, hD⟩ := cl_put (w1 := (wd_c_X12_look_1 h0 h0_f0 h0_1 h0_2 h0_3 h0_4 h0_5 h0_f6 h0_f7 h0_f8 h0_f9 x_93 (-1) 0 h0_f13 h0_f14 h0_15 h0_16 h0_f17 h0_18 h0_19 h0_20 h0_21 h0_22 h0_23 h0_24 h0_25 h0_f26 h0_f27 h0_f28 h0_f29 h0_f30 h0_f31 h0_32 h0_33 h0_f34 h0_35 h0_36 h0_37 h0_38 h0_39 h0_40 h0_f41 h0_f42 h0_f43 h0_f44 h0_45 h0_46 h0_47 h0_48 h0_49 h0_50 h0_f51 h0_52 h0_f53 h0_5 h0_5k tN h0_5c)) (nw := (wd_c_X12_term h0 h0_f0 h0_1 h0_2 h0_3 h0_4 h0_5 h0_f6 h0_f7 h0_f8 h0_f9 x_93 (-1) 0 h0_f13 h0_f14 h0_15 h0_16 h0_f17 h0_18 h0_19 h0_20 h0_21 h0_22 h0_23 h0_24 h0_25 h0_f26 h0_f27 h0_f28 h0_f29 h0_f30 h0_f31 h0_32 h0_33 h0_f34 h0_35 h0_36 h0_37 h0_38 h0_39 h0_40 h0_f41 h0_f42 h0_f43 h0_f44 h0_45 h0_46 h0_47 h0_48 h0_49 h0_50 h0_f51 h0_52 h0_f53 h0_5 h0_5k tN h0_5c h0_4 h0_4k h0_4c)) hP hD [0, 1] [3, 4, 2] 3 rfl hqc (by decide +kernel) rfl hk1 hFc hP1 hD1
            generalize H1 = H at hP hS ⊢
            as_aux_lemma =>
            rcases hw with ⟨h_112, h_113, h_114, h_115⟩ | ⟨h_116, h_117, h_118, h_119, h_120, h_121⟩
            · have h_115 : r_111 = _ := h_115
              replace hEX := hEX.trans (exc1_eq h_115)
              replace hEX := hEX.trans (if_pos (show r_111 = (-1) from h_112))
              rw [h_112]
              exfalso
              have := h_113
              have := h_104
              omega
            · have h_121 : r_111 = _ := h_121
              replace hEX := hEX.trans (exc1_eq h_121)
              replace hEX := hEX.trans (if_neg (RG_neq (x := r_111) (c := (-1)) (show RG r_111 0 255 from h_116) (by decide +kernel)))
              have nb_122 := h_120.2.resolve_left (fun q => by have g9 := h_116; rw [q] at g9; exact absurd g9.1 (by decide +kernel))
              refine lv_bipush (v := 42) hx hb dX12_term_35 kc_bipush_42 ?_
              as_aux_lemma =>
              refine lv_icmp_ne (tgt := 44) hx hb dX12_term_37 rfl (fun c_123 => ?_) (fun c_123 => ?_)
              · replace hEX := hEX.trans (if_neg c_123)
                refine lv_iconst (v := 0) hx hb dX12_term_44 kc_iconst_0 ?_
                exact hU _ _ _ (J45 x_93 g_h0_f10 g_h0_f17 g_h0_f26 g_h0_f27 g_h0_f28 g_h0_f29 g_h0_f30 g_h0_f31 g_h0_f34 g_h0_f41 g_h0_f51 g_h0_f53 g_h0_f6 g_h0_f7 g_h0_f8 g_h0_f9 h_101 g_j5_h0_f10 (by have := r_h0_f10_j5_h0_f10; have := h_80; have := h_103; omega) (by have := h_80; have := h_103; omega) hEX _ _ _ hP hD hS (lv_sub hl [0, 1] rfl))
              · replace hEX := hEX.trans (if_pos c_123)
                have g_124 : RG r_111 42 42 := RG_eq1 h_116 (RG_k 42 42 rfl) c_123 (by decide +kernel)
                refine lv_iconst (v := 1) hx hb dX12_term_40 kc_iconst_1 ?_
                refine lv_goto (tgt := 45) hx hb dX12_term_41 rfl ?_
                exact hU _ _ _ (J45b x_93 g_h0_f10 g_h0_f17 g_h0_f26 g_h0_f27 g_h0_f28 g_h0_f29 g_h0_f30 g_h0_f31 g_h0_f34 g_h0_f41 g_h0_f51 g_h0_f53 g_h0_f6 g_h0_f7 g_h0_f8 g_h0_f9 h_101 g_j5_h0_f10 (by have := r_h0_f10_j5_h0_f10; have := h_80; have := h_103; omega) (by have := h_80; have := h_103; omega) hEX _ _ _ hP hD hS (lv_sub hl [0, 1] rfl))
      · have h_90 : (r_76, x_77) = _ := h_90
        replace hEX := hEX.trans (exc2_eq h_90)
        replace hEX := hEX.trans (if_neg (RG_neq (x := r_76) (c := (-1)) (show RG r_76 0 255 from h_84) (by decide +kernel)))
        have nb_125 := h_89.2.resolve_left (fun q => by have g9 := h_84; rw [q] at g9; exact absurd g9.1 (by decide +kernel))
        refine lv_bipush (v := 42) hx hb dX12_term_17 kc_bipush_42 ?_
        as_aux_lemma =>
        refine lv_icmp_eq (tgt := 31) hx hb dX12_term_19 rfl (fun c_126 => ?_) (fun c_126 => ?_)
        · replace hEX := hEX.trans (if_pos c_126)
          have g_127 : RG r_76 42 42 := RG_eq1 h_84 (RG_k 42 42 rfl) c_126 (by decide +kernel)
          refine lv_aload_n hx hb dX12_term_31 rfl (lv_at hl 1 rfl) ?_
          obtain ⟨hPc, hDc, hFc, hqc⟩ := cl_cut (wc := (wd_c_X12_look_1 h0 h0_f0 h0_1 h0_2 h0_3 h0_4 h0_5 h0_f6 h0_f7 h0_f8 h0_f9 x_77 (-1) 0 h0_f13 h0_f14 h0_15 h0_16 h0_f17 h0_18 h0_19 h0_20 h0_21 h0_22 h0_23 h0_24 h0_25 h0_f26 h0_f27 h0_f28 h0_f29 h0_f30 h0_f31 h0_32 h0_33 h0_f34 h0_35 h0_36 h0_37 h0_38 h0_39 h0_40 h0_f41 h0_f42 h0_f43 h0_f44 h0_45 h0_46 h0_47 h0_48 h0_49 h0_50 h0_f51 h0_52 h0_f53 h0_5 h0_5k tN h0_5c)) hP hD hS hA [0, 1] (by decide +kernel) rfl
          have hKc := hK.sub (tys' := [(h0_5k, .byte)]) [0] rfl
          have hrv := va_recv hKc hPc (ci := 12) (q0 := 0) rfl rfl
          refine va_calli (va_runV (As := []) (rest := []) ⟨hx, hb, hml, hown, hts⟩ (c_X12_look_1 l dC dI H.size h0 h0_f0 h0_1 h0_2 h0_3 h0_4 h0_5 h0_f6 h0_f7 h0_f8 h0_f9 x_77 0 h0_f13 h0_f14 h0_15 h0_16 h0_f17 h0_18 h0_19 h0_20 h0_21 h0_22 h0_23 h0_24 h0_25 h0_f26 h0_f27 h0_f28 h0_f29 h0_f30 h0_f31 h0_32 h0_33 h0_f34 h0_35 h0_36 h0_37 h0_38 h0_39 h0_40 h0_f41 h0_f42 h0_f43 h0_f44 h0_45 h0_46 h0_47 h0_48 h0_49 h0_50 h0_f51 h0_52 h0_f53 h0_5k h0_5c tN g_h0_f6 g_h0_f7 g_h0_f8 (RG_w g_h0_f9 (by decide +kernel)) (RG_w h_85 (by decide +kernel)) g_h0_f17 g_h0_f26 g_h0_f27 g_h0_f28 g_h0_f29 g_h0_f30 g_h0_f31 g_h0_f34 g_h0_f41 g_h0_f51 g_h0_f53 htN nb_125 h_88) (cwV 0 hts gf_c_X12_term_c_X12_look_1 rfl rfl rfl mdV_X12_look ⟨Nat.le_of_ble_eq_true rfl, Nat.le_of_ble_eq_true rfl⟩) ⟨fun a U g mk q => by obtain ⟨q0, q1, qP, qK, qD⟩ := q; exact ⟨q0, q1, qP, va_K.moved (u := U) (U := U.calling g mk a) (Vm.Alike.refl U.vm) qK, qD⟩, hrv, fun U hU hW => ⟨rfl, by rw [hU], by rw [hU]; exact hPc, va_K.moved hW.alike hKc, hDc.weaken (fun _ _ _ _ => trivial)⟩⟩ rfl rfl hl.1 rfl (lv_room (Nat.le_of_ble_eq_true rfl)) dX12_term_32 ⟨Nat.le_of_ble_eq_true rfl, Nat.le_of_ble_eq_true rfl⟩) hS (fun q _ h => hFc q h) hFc (fun r_128 u t H1 locs ht hvm hw hB hz1 hk1 hS => ?_)
          obtain ⟨hP1, hK1, hD1⟩ := hB
          rw [ht] at hP1
          obtain ⟨hP, hD⟩ := cl_put (w1 := (wd_c_X12_look_1 h0 h0_f0 h0_1 h0_2 h0_3 h0_4 h0_5 h0_f6 h0_f7 h0_f8 h0_f9 x_77 (-1) 0 h0_f13 h0_f14 h0_15 h0_16 h0_f17 h0_18 h0_19 h0_20 h0_21 h0_22 h0_23 h0_24 h0_25 h0_f26 h0_f27 h0_f28 h0_f29 h0_f30 h0_f31 h0_32 h0_33 h0_f34 h0_35 h0_36 h0_37 h0_38 h0_39 h0_40 h0_f41 h0_f42 h0_f43 h0_f44 h0_45 h0_46 h0_47 h0_48 h0_49 h0_50 h0_f51 h0_52 h0_f53 h0_5 h0_5k tN h0_5c)) (nw := (wd_c_X12_term h0 h0_f0 h0_1 h0_2 h0_3 h0_4 h0_5 h0_f6 h0_f7 h0_f8 h0_f9 x_77 (-1) 0 h0_f13 h0_f14 h0_15 h0_16 h0_f17 h0_18 h0_19 h0_20 h0_21 h0_22 h0_23 h0_24 h0_25 h0_f26 h0_f27 h0_f28 h0_f29 h0_f30 h0_f31 h0_32 h0_33 h0_f34 h0_35 h0_36 h0_37 h0_38 h0_39 h0_40 h0_f41 h0_f42 h0_f43 h0_f44 h0_45 h0_46 h0_47 h0_48 h0_49 h0_50 h0_f51 h0_52 h0_f53 h0_5 h0_5k tN h0_5c h0_4 h0_4k h0_4c)) hP hD [0, 1] [3, 4, 2] 3 rfl hqc (by decide +kernel) rfl hk1 hFc hP1 hD1
          generalize H1 = H at hP hS ⊢
          as_aux_lemma =>
          rcases hw with ⟨h_129, h_130, h_131, h_132⟩ | ⟨h_133, h_134, h_135, h_136, h_137, h_138⟩
          · have h_132 : r_128 = _ := h_132
            replace hEX := hEX.trans (exc1_eq h_132)
            replace hEX := hEX.trans (if_pos (show r_128 = (-1) from h_129))
            rw [h_129]
            exfalso
            have := h_130
            have := h_88
            omega
          · have h_138 : r_128 = _ := h_138
            replace hEX := hEX.trans (exc1_eq h_138)
            replace hEX := hEX.trans (if_neg (RG_neq (x := r_128) (c := (-1)) (show RG r_128 0 255 from h_133) (by decide +kernel)))
            have nb_139 := h_137.2.resolve_left (fun q => by have g9 := h_133; rw [q] at g9; exact absurd g9.1 (by decide +kernel))
            refine lv_bipush (v := 42) hx hb dX12_term_35 kc_bipush_42 ?_
            as_aux_lemma =>
            refine lv_icmp_ne (tgt := 44) hx hb dX12_term_37 rfl (fun c_140 => ?_) (fun c_140 => ?_)
            · replace hEX := hEX.trans (if_neg c_140)
              refine lv_iconst (v := 0) hx hb dX12_term_44 kc_iconst_0 ?_
              exact hU _ _ _ (J45 x_77 g_h0_f10 g_h0_f17 g_h0_f26 g_h0_f27 g_h0_f28 g_h0_f29 g_h0_f30 g_h0_f31 g_h0_f34 g_h0_f41 g_h0_f51 g_h0_f53 g_h0_f6 g_h0_f7 g_h0_f8 g_h0_f9 h_85 g_j5_h0_f10 (by have := r_h0_f10_j5_h0_f10; have := h_87; omega) (by have := h_87; omega) hEX _ _ _ hP hD hS (lv_sub hl [0, 1] rfl))
            · replace hEX := hEX.trans (if_pos c_140)
              have g_141 : RG r_128 42 42 := RG_eq1 h_133 (RG_k 42 42 rfl) c_140 (by decide +kernel)
              refine lv_iconst (v := 1) hx hb dX12_term_40 kc_iconst_1 ?_
              refine lv_goto (tgt := 45) hx hb dX12_term_41 rfl ?_
              exact hU _ _ _ (J45b x_77 g_h0_f10 g_h0_f17 g_h0_f26 g_h0_f27 g_h0_f28 g_h0_f29 g_h0_f30 g_h0_f31 g_h0_f34 g_h0_f41 g_h0_f51 g_h0_f53 g_h0_f6 g_h0_f7 g_h0_f8 g_h0_f9 h_85 g_j5_h0_f10 (by have := r_h0_f10_j5_h0_f10; have := h_87; omega) (by have := h_87; omega) hEX _ _ _ hP hD hS (lv_sub hl [0, 1] rfl))
        · replace hEX := hEX.trans (if_neg c_126)
          refine lv_aload_n hx hb dX12_term_22 rfl (lv_at hl 1 rfl) ?_
          obtain ⟨hPc, hDc, hFc, hqc⟩ := cl_cut (wc := (wd_c_X12_look_1 h0 h0_f0 h0_1 h0_2 h0_3 h0_4 h0_5 h0_f6 h0_f7 h0_f8 h0_f9 x_77 (-1) 0 h0_f13 h0_f14 h0_15 h0_16 h0_f17 h0_18 h0_19 h0_20 h0_21 h0_22 h0_23 h0_24 h0_25 h0_f26 h0_f27 h0_f28 h0_f29 h0_f30 h0_f31 h0_32 h0_33 h0_f34 h0_35 h0_36 h0_37 h0_38 h0_39 h0_40 h0_f41 h0_f42 h0_f43 h0_f44 h0_45 h0_46 h0_47 h0_48 h0_49 h0_50 h0_f51 h0_52 h0_f53 h0_5 h0_5k tN h0_5c)) hP hD hS hA [0, 1] (by decide +kernel) rfl
          have hKc := hK.sub (tys' := [(h0_5k, .byte)]) [0] rfl
          have hrv := va_recv hKc hPc (ci := 12) (q0 := 0) rfl rfl
          refine va_calli (va_runV (As := []) (rest := []) ⟨hx, hb, hml, hown, hts⟩ (c_X12_look_1 l dC dI H.size h0 h0_f0 h0_1 h0_2 h0_3 h0_4 h0_5 h0_f6 h0_f7 h0_f8 h0_f9 x_77 0 h0_f13 h0_f14 h0_15 h0_16 h0_f17 h0_18 h0_19 h0_20 h0_21 h0_22 h0_23 h0_24 h0_25 h0_f26 h0_f27 h0_f28 h0_f29 h0_f30 h0_f31 h0_32 h0_33 h0_f34 h0_35 h0_36 h0_37 h0_38 h0_39 h0_40 h0_f41 h0_f42 h0_f43 h0_f44 h0_45 h0_46 h0_47 h0_48 h0_49 h0_50 h0_f51 h0_52 h0_f53 h0_5k h0_5c tN g_h0_f6 g_h0_f7 g_h0_f8 (RG_w g_h0_f9 (by decide +kernel)) (RG_w h_85 (by decide +kernel)) g_h0_f17 g_h0_f26 g_h0_f27 g_h0_f28 g_h0_f29 g_h0_f30 g_h0_f31 g_h0_f34 g_h0_f41 g_h0_f51 g_h0_f53 htN nb_125 h_88) (cwV 0 hts gf_c_X12_term_c_X12_look_1 rfl rfl rfl mdV_X12_look ⟨Nat.le_of_ble_eq_true rfl, Nat.le_of_ble_eq_true rfl⟩) ⟨fun a U g mk q => by obtain ⟨q0, q1, qP, qK, qD⟩ := q; exact ⟨q0, q1, qP, va_K.moved (u := U) (U := U.calling g mk a) (Vm.Alike.refl U.vm) qK, qD⟩, hrv, fun U hU hW => ⟨rfl, by rw [hU], by rw [hU]; exact hPc, va_K.moved hW.alike hKc, hDc.weaken (fun _ _ _ _ => trivial)⟩⟩ rfl rfl hl.1 rfl (lv_room (Nat.le_of_ble_eq_true rfl)) dX12_term_23 ⟨Nat.le_of_ble_eq_true rfl, Nat.le_of_ble_eq_true rfl⟩) hS (fun q _ h => hFc q h) hFc (fun r_142 u t H1 locs ht hvm hw hB hz1 hk1 hS => ?_)
          as_aux_lemma =>
          obtain ⟨hP1, hK1, hD1⟩ := hB
          rw [ht] at hP1
          obtain ⟨hP, hD⟩ := cl_put (w1 := (wd_c_X12_look_1 h0 h0_f0 h0_1 h0_2 h0_3 h0_4 h0_5 h0_f6 h0_f7 h0_f8 h0_f9 x_77 (-1) 0 h0_f13 h0_f14 h0_15 h0_16 h0_f17 h0_18 h0_19 h0_20 h0_21 h0_22 h0_23 h0_24 h0_25 h0_f26 h0_f27 h0_f28 h0_f29 h0_f30 h0_f31 h0_32 h0_33 h0_f34 h0_35 h0_36 h0_37 h0_38 h0_39 h0_40 h0_f41 h0_f42 h0_f43 h0_f44 h0_45 h0_46 h0_47 h0_48 h0_49 h0_50 h0_f51 h0_52 h0_f53 h0_5 h0_5k tN h0_5c)) (nw := (wd_c_X12_term h0 h0_f0 h0_1 h0_2 h0_3 h0_4 h0_5 h0_f6 h0_f7 h0_f8 h0_f9 x_77 (-1) 0 h0_f13 h0_f14 h0_15 h0_16 h0_f17 h0_18 h0_19 h0_20 h0_21 h0_22 h0_23 h0_24 h0_25 h0_f26 h0_f27 h0_f28 h0_f29 h0_f30 h0_f31 h0_32 h0_33 h0_f34 h0_35 h0_36 h0_37 h0_38 h0_39 h0_40 h0_f41 h0_f42 h0_f43 h0_f44 h0_45 h0_46 h0_47 h0_48 h0_49 h0_50 h0_f51 h0_52 h0_f53 h0_5 h0_5k tN h0_5c h0_4 h0_4k h0_4c)) hP hD [0, 1] [3, 4, 2] 3 rfl hqc (by decide +kernel) rfl hk1 hFc hP1 hD1
          generalize H1 = H at hP hS ⊢
          as_aux_lemma =>
          rcases hw with ⟨h_143, h_144, h_145, h_146⟩ | ⟨h_147, h_148, h_149, h_150, h_151, h_152⟩
          · have h_146 : r_142 = _ := h_146
            replace hEX := hEX.trans (exc1_eq h_146)
            replace hEX := hEX.trans (if_pos (show r_142 = (-1) from h_143))
            rw [h_143]
            exfalso
            have := h_144
            have := h_88
            omega
          · have h_152 : r_142 = _ := h_152
            replace hEX := hEX.trans (exc1_eq h_152)
            replace hEX := hEX.trans (if_neg (RG_neq (x := r_142) (c := (-1)) (show RG r_142 0 255 from h_147) (by decide +kernel)))
            have nb_153 := h_151.2.resolve_left (fun q => by have g9 := h_147; rw [q] at g9; exact absurd g9.1 (by decide +kernel))
            refine lv_bipush (v := 47) hx hb dX12_term_26 kc_bipush_47 ?_
            as_aux_lemma =>
            refine lv_icmp_ne (tgt := 94) hx hb dX12_term_28 rfl (fun c_154 => ?_) (fun c_154 => ?_)
            · replace hEX := hEX.trans (if_neg c_154)
              refine lv_iload_n hx hb dX12_term_94 rfl (lv_at hl 0 rfl) ?_
              have hK9 := hK.sub (tys' := []) [] rfl
              exact W.iret (v := j5_l1) hx hb hr (fun t ht hW => ⟨⟨j5_l1, (x_77, (-1), 0), rfl, (Or.inl ⟨(RG_any j5_l1), (RG_w h_85 (by decide +kernel)), rfl, rfl, g_h0_f9, (by have := r_h0_f10_j5_h0_f10; have := h_87; show h0_f10.toInt + 0 ≤ x_77.toInt; omega), (hR.trans hEX).symm⟩), by rw [ht]; exact hP, va_K.moved hW.alike hK9, hD⟩, hS.F ht⟩) hS.2.2 dX12_term_95
            · replace hEX := hEX.trans (if_pos c_154)
              have g_155 : RG r_142 47 47 := RG_eq1 h_147 (RG_k 47 47 rfl) c_154 (by decide +kernel)
              refine lv_aload_n hx hb dX12_term_31 rfl (lv_at hl 1 rfl) ?_
              obtain ⟨hPc, hDc, hFc, hqc⟩ := cl_cut (wc := (wd_c_X12_look_1 h0 h0_f0 h0_1 h0_2 h0_3 h0_4 h0_5 h0_f6 h0_f7 h0_f8 h0_f9 x_77 (-1) 0 h0_f13 h0_f14 h0_15 h0_16 h0_f17 h0_18 h0_19 h0_20 h0_21 h0_22 h0_23 h0_24 h0_25 h0_f26 h0_f27 h0_f28 h0_f29 h0_f30 h0_f31 h0_32 h0_33 h0_f34 h0_35 h0_36 h0_37 h0_38 h0_39 h0_40 h0_f41 h0_f42 h0_f43 h0_f44 h0_45 h0_46 h0_47 h0_48 h0_49 h0_50 h0_f51 h0_52 h0_f53 h0_5 h0_5k tN h0_5c)) hP hD hS hA [0, 1] (by decide +kernel) rfl
              have hKc := hK.sub (tys' := [(h0_5k, .byte)]) [0] rfl
              have hrv := va_recv hKc hPc (ci := 12) (q0 := 0) rfl rfl
              refine va_calli (va_runV (As := []) (rest := []) ⟨hx, hb, hml, hown, hts⟩ (c_X12_look_1 l dC dI H.size h0 h0_f0 h0_1 h0_2 h0_3 h0_4 h0_5 h0_f6 h0_f7 h0_f8 h0_f9 x_77 0 h0_f13 h0_f14 h0_15 h0_16 h0_f17 h0_18 h0_19 h0_20 h0_21 h0_22 h0_23 h0_24 h0_25 h0_f26 h0_f27 h0_f28 h0_f29 h0_f30 h0_f31 h0_32 h0_33 h0_f34 h0_35 h0_36 h0_37 h0_38 h0_39 h0_40 h0_f41 h0_f42 h0_f43 h0_f44 h0_45 h0_46 h0_47 h0_48 h0_49 h0_50 h0_f51 h0_52 h0_f53 h0_5k h0_5c tN g_h0_f6 g_h0_f7 g_h0_f8 (RG_w g_h0_f9 (by decide +kernel)) (RG_w h_85 (by decide +kernel)) g_h0_f17 g_h0_f26 g_h0_f27 g_h0_f28 g_h0_f29 g_h0_f30 g_h0_f31 g_h0_f34 g_h0_f41 g_h0_f51 g_h0_f53 htN nb_153 h_150) (cwV 0 hts gf_c_X12_term_c_X12_look_1 rfl rfl rfl mdV_X12_look ⟨Nat.le_of_ble_eq_true rfl, Nat.le_of_ble_eq_true rfl⟩) ⟨fun a U g mk q => by obtain ⟨q0, q1, qP, qK, qD⟩ := q; exact ⟨q0, q1, qP, va_K.moved (u := U) (U := U.calling g mk a) (Vm.Alike.refl U.vm) qK, qD⟩, hrv, fun U hU hW => ⟨rfl, by rw [hU], by rw [hU]; exact hPc, va_K.moved hW.alike hKc, hDc.weaken (fun _ _ _ _ => trivial)⟩⟩ rfl rfl hl.1 rfl (lv_room (Nat.le_of_ble_eq_true rfl)) dX12_term_32 ⟨Nat.le_of_ble_eq_true rfl, Nat.le_of_ble_eq_true rfl⟩) hS (fun q _ h => hFc q h) hFc (fun r_156 u t H1 locs ht hvm hw hB hz1 hk1 hS => ?_)
              obtain ⟨hP1, hK1, hD1⟩ := hB
              rw [ht] at hP1
              obtain ⟨hP, hD⟩ := cl_put (w1 := (wd_c_X12_look_1 h0 h0_f0 h0_1 h0_2 h0_3 h0_4 h0_5 h0_f6 h0_f7 h0_f8 h0_f9 x_77 (-1) 0 h0_f13 h0_f14 h0_15 h0_16 h0_f17 h0_18 h0_19 h0_20 h0_21 h0_22 h0_23 h0_24 h0_25 h0_f26 h0_f27 h0_f28 h0_f29 h0_f30 h0_f31 h0_32 h0_33 h0_f34 h0_35 h0_36 h0_37 h0_38 h0_39 h0_40 h0_f41 h0_f42 h0_f43 h0_f44 h0_45 h0_46 h0_47 h0_48 h0_49 h0_50 h0_f51 h0_52 h0_f53 h0_5 h0_5k tN h0_5c)) (nw := (wd_c_X12_term h0 h0_f0 h0_1 h0_2 h0_3 h0_4 h0_5 h0_f6 h0_f7 h0_f8 h0_f9 x_77 (-1) 0 h0_f13 h0_f14 h0_15 h0_16 h0_f17 h0_18 h0_19 h0_20 h0_21 h0_22 h0_23 h0_24 h0_25 h0_f26 h0_f27 h0_f28 h0_f29 h0_f30 h0_f31 h0_32 h0_33 h0_f34 h0_35 h0_36 h0_37 h0_38 h0_39 h0_40 h0_f41 h0_f42 h0_f43 h0_f44 h0_45 h0_46 h0_47 h0_48 h0_49 h0_50 h0_f51 h0_52 h0_f53 h0_5 h0_5k tN h0_5c h0_4 h0_4k h0_4c)) hP hD [0, 1] [3, 4, 2] 3 rfl hqc (by decide +kernel) rfl hk1 hFc hP1 hD1
              generalize H1 = H at hP hS ⊢
              as_aux_lemma =>
              rcases hw with ⟨h_157, h_158, h_159, h_160⟩ | ⟨h_161, h_162, h_163, h_164, h_165, h_166⟩
              · have h_160 : r_156 = _ := h_160
                replace hEX := hEX.trans (exc1_eq h_160)
                replace hEX := hEX.trans (if_pos (show r_156 = (-1) from h_157))
                rw [h_157]
                exfalso
                have := h_158
                have := h_150
                omega
              · have h_166 : r_156 = _ := h_166
                replace hEX := hEX.trans (exc1_eq h_166)
                replace hEX := hEX.trans (if_neg (RG_neq (x := r_156) (c := (-1)) (show RG r_156 0 255 from h_161) (by decide +kernel)))
                have nb_167 := h_165.2.resolve_left (fun q => by have g9 := h_161; rw [q] at g9; exact absurd g9.1 (by decide +kernel))
                refine lv_bipush (v := 42) hx hb dX12_term_35 kc_bipush_42 ?_
                as_aux_lemma =>
                refine lv_icmp_ne (tgt := 44) hx hb dX12_term_37 rfl (fun c_168 => ?_) (fun c_168 => ?_)
                · replace hEX := hEX.trans (if_neg c_168)
                  refine lv_iconst (v := 0) hx hb dX12_term_44 kc_iconst_0 ?_
                  exact hU _ _ _ (J45 x_77 g_h0_f10 g_h0_f17 g_h0_f26 g_h0_f27 g_h0_f28 g_h0_f29 g_h0_f30 g_h0_f31 g_h0_f34 g_h0_f41 g_h0_f51 g_h0_f53 g_h0_f6 g_h0_f7 g_h0_f8 g_h0_f9 h_85 g_j5_h0_f10 (by have := r_h0_f10_j5_h0_f10; have := h_87; omega) (by have := h_87; omega) hEX _ _ _ hP hD hS (lv_sub hl [0, 1] rfl))
                · replace hEX := hEX.trans (if_pos c_168)
                  have g_169 : RG r_156 42 42 := RG_eq1 h_161 (RG_k 42 42 rfl) c_168 (by decide +kernel)
                  refine lv_iconst (v := 1) hx hb dX12_term_40 kc_iconst_1 ?_
                  refine lv_goto (tgt := 45) hx hb dX12_term_41 rfl ?_
                  exact hU _ _ _ (J45b x_77 g_h0_f10 g_h0_f17 g_h0_f26 g_h0_f27 g_h0_f28 g_h0_f29 g_h0_f30 g_h0_f31 g_h0_f34 g_h0_f41 g_h0_f51 g_h0_f53 g_h0_f6 g_h0_f7 g_h0_f8 g_h0_f9 h_85 g_j5_h0_f10 (by have := r_h0_f10_j5_h0_f10; have := h_87; omega) (by have := h_87; omega) hEX _ _ _ hP hD hS (lv_sub hl [0, 1] rfl))
  refine hG _ _ _ ?_
  refine lv_aload_n hx hb dX12_term_0 rfl (lv_at hl 0 rfl) ?_
  obtain ⟨hPc, hDc, hFc, hqc⟩ := cl_cut (wc := (wd_c_X12_atom h0 h0_f0 h0_1 h0_2 h0_3 h0_4 h0_5 h0_f6 h0_f7 h0_f8 h0_f9 h0_f10 (-1) 0 h0_f13 h0_f14 h0_15 h0_16 h0_f17 h0_18 h0_19 h0_20 h0_21 h0_22 h0_23 h0_24 h0_25 h0_f26 h0_f27 h0_f28 h0_f29 h0_f30 h0_f31 h0_32 h0_33 h0_f34 h0_35 h0_36 h0_37 h0_38 h0_39 h0_40 h0_f41 h0_f42 h0_f43 h0_f44 h0_45 h0_46 h0_47 h0_48 h0_49 h0_50 h0_f51 h0_52 h0_f53 h0_5 h0_5k tN h0_5c h0_4 h0_4k h0_4c)) hP hD hS hA [0, 1, 2] (by decide +kernel) rfl
  have hKc := hK.sub (tys' := [(h0_5k, .byte), (h0_4k, .int)]) [0, 1] rfl
  have hrv := va_recv hKc hPc (ci := 12) (q0 := 0) rfl rfl
  refine va_calli (va_runV (As := []) (rest := []) ⟨hx, hb, hml, hown, hts⟩ (c_X12_atom l dC dI H.size h0 h0_f0 h0_1 h0_2 h0_3 h0_4 h0_5 h0_f6 h0_f7 h0_f8 h0_f9 h0_f10 h0_f13 h0_f14 h0_15 h0_16 h0_f17 h0_18 h0_19 h0_20 h0_21 h0_22 h0_23 h0_24 h0_25 h0_f26 h0_f27 h0_f28 h0_f29 h0_f30 h0_f31 h0_32 h0_33 h0_f34 h0_35 h0_36 h0_37 h0_38 h0_39 h0_40 h0_f41 h0_f42 h0_f43 h0_f44 h0_45 h0_46 h0_47 h0_48 h0_49 h0_50 h0_f51 h0_52 h0_f53 h0_5k h0_5c tN h0_4k h0_4c ts7 tv7 g_h0_f6 g_h0_f7 g_h0_f8 g_h0_f9 g_h0_f10 g_h0_f17 g_h0_f26 g_h0_f27 g_h0_f28 g_h0_f29 g_h0_f30 g_h0_f31 g_h0_f34 g_h0_f41 g_h0_f51 g_h0_f53 htN a_h0_4c) (cwV 0 hts gf_c_X12_term_c_X12_atom rfl rfl rfl mdV_X12_atom ⟨Nat.le_of_ble_eq_true rfl, Nat.le_of_ble_eq_true rfl⟩) ⟨fun a U g mk q => by obtain ⟨q0, q1, qP, qK, qD, qE0, qE1, qE2, qE3, qE4, qE5, qE6⟩ := q; exact ⟨q0, q1, qP, va_K.moved (u := U) (U := U.calling g mk a) (Vm.Alike.refl U.vm) qK, qD, vk_R.same rfl qE0, va_OF.moved (u := U) (U := U.calling g mk a) (Vm.Alike.refl U.vm) qE1, va_T.moved (u := U) (U := U.calling g mk a) (Vm.Alike.refl U.vm) qE2, va_Z.moved (u := U) (U := U.calling g mk a) (Vm.Alike.refl U.vm) qE3, va_OF.moved (u := U) (U := U.calling g mk a) (Vm.Alike.refl U.vm) qE4, va_O.moved (u := U) (U := U.calling g mk a) (Vm.Alike.refl U.vm) qE5, va_Zq.moved (u := U) (U := U.calling g mk a) (Vm.Alike.refl U.vm) qE6⟩, hrv, fun U hU hW => ⟨rfl, by rw [hU], by rw [hU]; exact hPc, va_K.moved hW.alike hKc, hDc.weaken (fun _ _ _ _ => trivial), vk_R.warm hW hE_47, va_OF.moved hW.alike (by rw [hU]; exact (hE_50.kept hS.2.1).narrow hFc), va_T.moved hW.alike (by rw [hU]; exact (hE_51.kept hS.2.1).narrow hFc), va_Z.moved hW.alike (by rw [hU]; exact (hE_10.kept hS.2.1).narrow hFc), va_OF.moved hW.alike (by rw [hU]; exact (hE_49.kept hS.2.1).narrow hFc), va_O.moved hW.alike (by rw [hU]; exact (hE_48.kept hS.2.1).narrow hFc), va_Zq.moved hW.alike (by rw [hU]; exact (hE_11.kept hS.2.1).narrow hFc)⟩⟩ rfl rfl hl.1 rfl (lv_room (Nat.le_of_ble_eq_true rfl)) dX12_term_1 ⟨Nat.le_of_ble_eq_true rfl, Nat.le_of_ble_eq_true rfl⟩) hS (fun q _ h => hFc q h) hFc (fun r_170 u t H1 locs ht hvm hw hB hz1 hk1 hS => ?_)
  as_aux_lemma =>
  obtain ⟨x_171, x_172, x_173⟩ := u
  obtain ⟨hP1, hK1, hD1⟩ := hB
  rw [ht] at hP1
  obtain ⟨hP, hD⟩ := cl_put (w1 := (wd_c_X12_atom h0 h0_f0 h0_1 h0_2 h0_3 h0_4 h0_5 h0_f6 h0_f7 h0_f8 h0_f9 x_171 x_172 x_173 h0_f13 h0_f14 h0_15 h0_16 h0_f17 h0_18 h0_19 h0_20 h0_21 h0_22 h0_23 h0_24 h0_25 h0_f26 h0_f27 h0_f28 h0_f29 h0_f30 h0_f31 h0_32 h0_33 h0_f34 h0_35 h0_36 h0_37 h0_38 h0_39 h0_40 h0_f41 h0_f42 h0_f43 h0_f44 h0_45 h0_46 h0_47 h0_48 h0_49 h0_50 h0_f51 h0_52 h0_f53 h0_5 h0_5k tN h0_5c h0_4 h0_4k h0_4c)) (nw := (wd_c_X12_term h0 h0_f0 h0_1 h0_2 h0_3 h0_4 h0_5 h0_f6 h0_f7 h0_f8 h0_f9 x_171 x_172 x_173 h0_f13 h0_f14 h0_15 h0_16 h0_f17 h0_18 h0_19 h0_20 h0_21 h0_22 h0_23 h0_24 h0_25 h0_f26 h0_f27 h0_f28 h0_f29 h0_f30 h0_f31 h0_32 h0_33 h0_f34 h0_35 h0_36 h0_37 h0_38 h0_39 h0_40 h0_f41 h0_f42 h0_f43 h0_f44 h0_45 h0_46 h0_47 h0_48 h0_49 h0_50 h0_f51 h0_52 h0_f53 h0_5 h0_5k tN h0_5c h0_4 h0_4k h0_4c)) hP hD [0, 1, 2] [3, 4, 5] 3 rfl hqc (by decide +kernel) rfl hk1 hFc hP1 hD1
  generalize H1 = H at hP hS ⊢
  as_aux_lemma =>
  rcases hw with ⟨h_174, h_175, h_176, h_177, h_178, h_179, h_180⟩ | ⟨h_181, h_182, h_183, h_184, h_185, h_186⟩
  · have h_180 : (r_170, x_171, x_172, x_173) = _ := h_180
    replace hEX := hEX.trans (exc4_eq h_180)
    replace hEX := hEX.trans (if_pos (show x_172 = (-1) from h_176))
    subst h_176
    subst h_177
    have h_179 : h0_f10.toInt + 0 ≤ x_171.toInt := h_179
    refine lv_istore_n (lv' := [(1, .int r_170), (0, .ref h0)]) hx hb dX12_term_4 rfl hl (Nat.le_of_ble_eq_true rfl) rfl (fun ls hl => ?_)
    exact hU _ _ _ (J5 exF r_170 x_171 MU_F g_h0_f10 g_h0_f17 g_h0_f26 g_h0_f27 g_h0_f28 g_h0_f29 g_h0_f30 g_h0_f31 g_h0_f34 g_h0_f41 g_h0_f51 g_h0_f53 g_h0_f6 g_h0_f7 g_h0_f8 h_178 h_175 (by have := h_179; omega) hEX _ _ _ hP hD hS (lv_sub hl [0, 1] rfl))
  · have h_186 : (r_170, x_171, x_172, x_173) = _ := h_186
    replace hEX := hEX.trans (exc4_eq h_186)
    replace hEX := hEX.trans (if_neg (RG_neq (x := x_172) (c := (-1)) (show RG x_172 0 240 from h_183) (by decide +kernel)))
    rw [h_181]
    have h_185 : h0_f10.toInt + 0 ≤ x_171.toInt := h_185
    refine lv_istore_n (lv' := [(1, .int 0), (0, .ref h0)]) hx hb dX12_term_4 rfl hl (Nat.le_of_ble_eq_true rfl) rfl (fun ls hl => ?_)
    as_aux_lemma =>
    exact hU _ _ _ (J5b 0 x_171 x_172 x_173 g_h0_f10 g_h0_f17 g_h0_f26 g_h0_f27 g_h0_f28 g_h0_f29 g_h0_f30 g_h0_f31 g_h0_f34 g_h0_f41 g_h0_f51 g_h0_f53 g_h0_f6 g_h0_f7 g_h0_f8 g_h0_f9 h_182 h_183 h_184 (RG_k 0 0 rfl) (by have := h_185; omega) hEX _ _ _ hP hD hS (lv_sub hl [0, 1] rfl))
noncomputable def wd_c_X12_sum (a0 : Nat) (a1 : Int32) (a2 : Nat) (a3 : Nat) (a4 : Nat) (a5 : Nat) (a6 : Nat) (a7 : Int32) (a8 : Int32) (a9 : Int32) (a10 : Int32) (a11 : Int32) (a12 : Int32) (a13 : Int32) (a14 : Int32) (a15 : Int32) (a16 : Nat) (a17 : Nat) (a18 : Int32) (a19 : Nat) (a20 : Nat) (a21 : Nat) (a22 : Nat) (a23 : Nat) (a24 : Nat) (a25 : Nat) (a26 : Nat) (a27 : Int32) (a28 : Int32) (a29 : Int32) (a30 : Int32) (a31 : Int32) (a32 : Int32) (a33 : Nat) (a34 : Nat) (a35 : Int32) (a36 : Nat) (a37 : Nat) (a38 : Nat) (a39 : Nat) (a40 : Nat) (a41 : Nat) (a42 : Int32) (a43 : Int64) (a44 : Int32) (a45 : Int32) (a46 : Nat) (a47 : Nat) (a48 : Nat) (a49 : Nat) (a50 : Nat) (a51 : Nat) (a52 : Int32) (a53 : Nat) (a54 : Int32) (a55 : Nat) (a56 : ClassId) (a57 : Nat) (a58 : Nat → Int32) (a59 : Nat) (a60 : ClassId) (a61 : Nat → Int32) : va_W := [(a0, .inr (12, [.int a1, .ref a2, .ref a3, .ref a4, .ref a5, .ref a6, .int a7, .int a8, .int a9, .int a10, .int a11, .int a12, .int a13, .int a14, .int a15, .ref a16, .ref a17, .int a18, .ref a19, .ref a20, .ref a21, .ref a22, .ref a23, .ref a24, .ref a25, .ref a26, .int a27, .int a28, .int a29, .int a30, .int a31, .int a32, .ref a33, .ref a34, .int a35, .ref a36, .ref a37, .ref a38, .ref a39, .ref a40, .ref a41, .int a42, .long a43, .int a44, .int a45, .ref a46, .ref a47, .ref a48, .ref a49, .ref a50, .ref a51, .int a52, .ref a53, .int a54])), (a55, .inl (a56, a57, .inl a58)), (a59, .inl (a60, 128, .inl a61))]
noncomputable def wf_c_X12_sum : List Cond := List.cons (.code yX12_sum cX12_sum 5 (some .int)) (@HAppend.hAppend (List Cond) (List Cond) (List Cond) _ [.methodLink RX12 193 yX12_term, .instanceMethod yX12_term, .selects RX12 yX12_term yX12_term, .initialized RX12, .code yX12_term cX12_term 5 (some .int), .methodLink RX12 186 yX12_atom, .instanceMethod yX12_atom, .selects RX12 yX12_atom yX12_atom, .code yX12_atom cX12_atom 4 (some .int), .methodLink RX12 153 yX12_look, .instanceMethod yX12_look, .selects RX12 yX12_look yX12_look, .code yX12_look cX12_look 1 (some .int), .fieldLink RX12 134 "BuoyVoteModel" "at" "I", .fieldLink RX12 137 "BuoyVoteModel" "ends" "I", .fieldLink RX12 23 "BuoyVoteModel" "text" "[B", .fieldLink RX12 140 "BuoyVoteModel" "begins" "I", .methodLink RX12 169 yX12_isAmong, .static yX12_isAmong, .code yX12_isAmong cX12_isAmong 3 (some .boolean), .methodLink RX12 114 yJ0_length_8abf5, .instanceMethod yJ0_length_8abf5, .selects RJ0 yJ0_length_8abf5 yJ0_length_8abf5, .initialized RJ0, .code yJ0_length_8abf5 cJ0_length_8abf5 1 (some .int), .fieldLink RJ0 9 "java/lang/String" "value" "[B", .methodLink RJ0 335 yJ0_coder_7d493, .instanceMethod yJ0_coder_7d493, .selects RJ0 yJ0_coder_7d493 yJ0_coder_7d493, .code yJ0_coder_7d493 cJ0_coder_7d493 1 (some .byte), .fieldLink RJ0 38 "java/lang/String" "COMPACT_STRINGS" "Z", .fieldLink RJ0 15 "java/lang/String" "coder" "B", .methodLink RX12 120 yJ0_charAt_5068e, .instanceMethod yJ0_charAt_5068e, .selects RJ0 yJ0_charAt_5068e yJ0_charAt_5068e, .code yJ0_charAt_5068e cJ0_charAt_5068e 2 (some .char), .methodLink RJ0 492 yJ0_isLatin1_aae02, .instanceMethod yJ0_isLatin1_aae02, .selects RJ0 yJ0_isLatin1_aae02 yJ0_isLatin1_aae02, .code yJ0_isLatin1_aae02 cJ0_isLatin1_aae02 1 (some .boolean), .methodLink RJ0 495 yJ1_charAt_3b067, .static yJ1_charAt_3b067, .initialized RJ1, .code yJ1_charAt_3b067 cJ1_charAt_3b067 2 (some .char), .methodLink RJ1 9 yJ0_checkIndex_df160, .static yJ0_checkIndex_df160, .code yJ0_checkIndex_df160 cJ0_checkIndex_df160 2 none, .fieldLink RJ0 1053 "jdk/internal/util/Preconditions" "SIOOBE_FORMATTER" "Ljava/util/function/BiFunction;", .methodLink RJ0 1059 yJ3_checkIndex_8e157, .static yJ3_checkIndex_8e157, .initialized RJ3, .code yJ3_checkIndex_8e157 cJ3_checkIndex_8e157 3 (some .int), .methodLink RX12 183 yX12_isDigit, .instanceMethod yX12_isDigit, .selects RX12 yX12_isDigit yX12_isDigit, .code yX12_isDigit cX12_isDigit 1 (some .boolean), .methodLink RX12 149 yX12_fails, .instanceMethod yX12_fails, .selects RX12 yX12_fails yX12_fails, .code yX12_fails cX12_fails 1 (some .boolean), .fieldLink RX12 143 "BuoyVoteModel" "fault" "I", .methodLink RX12 173 yX12_goesIn, .instanceMethod yX12_goesIn, .selects RX12 yX12_goesIn yX12_goesIn, .code yX12_goesIn cX12_goesIn 1 (some .boolean), .fieldLink RX12 146 "BuoyVoteModel" "deep" "I", .methodLink RX12 176 yX12_sum, .instanceMethod yX12_sum, .selects RX12 yX12_sum yX12_sum, .fieldLink RX12 20 "BuoyVoteModel" "letters" "[I", .methodLink RX12 189 yX12_within, .static yX12_within, .code yX12_within cX12_within 2 (some .int), .constantLong RX12 156 (-1000000), .constantLong RX12 158 (1000000), .methodLink RX12 160 Lib.MathLoose.min_long.x, .static Lib.MathLoose.min_long.x, .initialized "java/lang/Math", .code Lib.MathLoose.min_long.x Lib.MathLoose.min_long.code 4 (some .long), .methodLink RX12 166 Lib.MathLoose.max_long.x, .static Lib.MathLoose.max_long.x, .code Lib.MathLoose.max_long.x Lib.MathLoose.max_long.code 4 (some .long), .methodLink RX12 179 yX12_takes, .instanceMethod yX12_takes, .selects RX12 yX12_takes yX12_takes, .code yX12_takes cX12_takes 2 (some .boolean)] wsX120)
theorem iw_c_X12_sum_X12 : ∀ w ∈ wsX120, w ∈ wf_c_X12_sum := fun w h => List.mem_cons_of_mem _ (List.mem_append_right _ h)
set_option maxRecDepth 20000 in
theorem gf_c_X12_sum_c_X12_within_3 : GoodIn wf_c_X12_sum (va_wsS RX12 189 yX12_within wf_c_X12_within_3) := goodIn_app (gi_l [71, 72, 4] rfl rfl) (gi_cons (j := 73) rfl rfl (gi_l [74, 75, 76, 77, 78, 79, 80, 81, 82] rfl rfl))
set_option maxRecDepth 20000 in
theorem gf_c_X12_sum_c_X12_within_1 : GoodIn wf_c_X12_sum (va_wsS RX12 189 yX12_within wf_c_X12_within_1) := goodIn_app (gi_l [71, 72, 4] rfl rfl) (gi_cons (j := 73) rfl rfl (gi_l [74, 75, 76, 77, 78, 79, 80, 81, 82] rfl rfl))
set_option maxRecDepth 20000 in
theorem gf_c_X12_sum_c_X12_term : GoodIn wf_c_X12_sum (wsV RX12 193 RX12 yX12_term wf_c_X12_term) := goodIn_app (gi_l [1, 2, 3, 4] rfl rfl) (gi_cons (j := 5) rfl rfl (goodIn_app (gi_l [6, 7, 8, 4, 9, 10, 11, 12, 13, 14, 15, 16, 17, 18, 19, 20, 21, 22, 23, 24, 25, 26, 27, 28, 29, 30, 31, 32, 33, 34, 35, 36, 37, 38, 39, 40, 41, 42, 43, 44, 45, 46, 47, 48, 49, 50, 51, 52, 53, 54, 55, 56, 57, 58, 59, 60, 61, 62, 63, 64, 65, 66, 67, 68, 69, 0, 1, 2, 3, 70, 71, 72, 73, 74, 75, 76, 77, 78, 79, 80, 81, 82, 83, 84, 85, 86] rfl rfl) (goodIn_sub iw_c_X12_sum_X12 gw_X12)))
set_option maxRecDepth 20000 in
theorem gf_c_X12_sum_c_X12_look : GoodIn wf_c_X12_sum (wsV RX12 153 RX12 yX12_look wf_c_X12_look) := goodIn_app (gi_l [10, 11, 12, 4] rfl rfl) (gi_cons (j := 13) rfl rfl (goodIn_app (gi_l [14, 15, 16, 17] rfl rfl) (goodIn_sub iw_c_X12_sum_X12 gw_X12)))
set_option maxRecDepth 20000 in
theorem gf_c_X12_sum_c_X12_look_1 : GoodIn wf_c_X12_sum (wsV RX12 153 RX12 yX12_look wf_c_X12_look_1) := goodIn_app (gi_l [10, 11, 12, 4] rfl rfl) (gi_cons (j := 13) rfl rfl (goodIn_app (gi_l [14, 15, 16, 17] rfl rfl) (goodIn_sub iw_c_X12_sum_X12 gw_X12)))
set_option maxHeartbeats 4000000 in
set_option maxRecDepth 100000 in
theorem c_X12_sum (l : Launch) (dC : Nat → ClassId) (dI : Nat → Nat → Nat) (sz : Nat) (h0 : Nat) (h0_f0 : Int32) (h0_1 : Nat) (h0_2 : Nat) (h0_3 : Nat) (h0_4 : Nat) (h0_5 : Nat) (h0_f6 : Int32) (h0_f7 : Int32) (h0_f8 : Int32) (h0_f9 : Int32) (h0_f10 : Int32) (h0_f13 : Int32) (h0_f14 : Int32) (h0_15 : Nat) (h0_16 : Nat) (h0_f17 : Int32) (h0_18 : Nat) (h0_19 : Nat) (h0_20 : Nat) (h0_21 : Nat) (h0_22 : Nat) (h0_23 : Nat) (h0_24 : Nat) (h0_25 : Nat) (h0_f26 : Int32) (h0_f27 : Int32) (h0_f28 : Int32) (h0_f29 : Int32) (h0_f30 : Int32) (h0_f31 : Int32) (h0_32 : Nat) (h0_33 : Nat) (h0_f34 : Int32) (h0_35 : Nat) (h0_36 : Nat) (h0_37 : Nat) (h0_38 : Nat) (h0_39 : Nat) (h0_40 : Nat) (h0_f41 : Int32) (h0_f42 : Int64) (h0_f43 : Int32) (h0_f44 : Int32) (h0_45 : Nat) (h0_46 : Nat) (h0_47 : Nat) (h0_48 : Nat) (h0_49 : Nat) (h0_50 : Nat) (h0_f51 : Int32) (h0_52 : Nat) (h0_f53 : Int32) (h0_5k : ClassId) (h0_5c : Nat → Int32) (tN : Nat) (h0_4k : ClassId) (h0_4c : Nat → Int32) (ts7 : Nat) (tv7 : Nat) (g_h0_f6 : RG h0_f6 0 240) (g_h0_f7 : RG h0_f7 0 4) (g_h0_f8 : RG h0_f8 0 720) (g_h0_f9 : RG h0_f9 0 240) (g_h0_f10 : RG h0_f10 0 240) (g_h0_f17 : RG h0_f17 0 1) (g_h0_f26 : RG h0_f26 0 8) (g_h0_f27 : RG h0_f27 0 3) (g_h0_f28 : RG h0_f28 0 8) (g_h0_f29 : RG h0_f29 0 3) (g_h0_f30 : RG h0_f30 0 4) (g_h0_f31 : RG h0_f31 0 1) (g_h0_f34 : RG h0_f34 (-1) 3) (g_h0_f41 : RG h0_f41 0 40) (g_h0_f51 : RG h0_f51 0 10) (g_h0_f53 : RG h0_f53 0 1) (htN : h0_f8.toInt + 240 ≤ (tN : Int)) (a_h0_4c : AP tLet h0_4c) : Met l yX12_sum wf_c_X12_sum ({ frames := 25, cells := 0, slots := 0, locals := 580 }) (va_Pc [.ref h0] (fun U => U.heap.size = sz ∧ va_P (dC, dI) vwCl (wd_c_X12_sum h0 h0_f0 h0_1 h0_2 h0_3 h0_4 h0_5 h0_f6 h0_f7 h0_f8 h0_f9 h0_f10 (-1) 0 h0_f13 h0_f14 h0_15 h0_16 h0_f17 h0_18 h0_19 h0_20 h0_21 h0_22 h0_23 h0_24 h0_25 h0_f26 h0_f27 h0_f28 h0_f29 h0_f30 h0_f31 h0_32 h0_33 h0_f34 h0_35 h0_36 h0_37 h0_38 h0_39 h0_40 h0_f41 h0_f42 h0_f43 h0_f44 h0_45 h0_46 h0_47 h0_48 h0_49 h0_50 h0_f51 h0_52 h0_f53 h0_5 h0_5k tN h0_5c h0_4 h0_4k h0_4c) U.heap ∧ va_K (dC, dI) vwCl [(h0_5k, .byte), (h0_4k, .int)] U ∧ va_D (fun _ => True) (wd_c_X12_sum h0 h0_f0 h0_1 h0_2 h0_3 h0_4 h0_5 h0_f6 h0_f7 h0_f8 h0_f9 h0_f10 (-1) 0 h0_f13 h0_f14 h0_15 h0_16 h0_f17 h0_18 h0_19 h0_20 h0_21 h0_22 h0_23 h0_24 h0_25 h0_f26 h0_f27 h0_f28 h0_f29 h0_f30 h0_f31 h0_32 h0_33 h0_f34 h0_35 h0_36 h0_37 h0_38 h0_39 h0_40 h0_f41 h0_f42 h0_f43 h0_f44 h0_45 h0_46 h0_47 h0_48 h0_49 h0_50 h0_f51 h0_52 h0_f53 h0_5 h0_5k tN h0_5c h0_4 h0_4k h0_4c) ∧ vk_R RX12 32 "vlrdph" ts7 U ∧ va_OF "java/lang/String" "value" "[B" (.ref tv7) ts7 (va_A (wd_c_X12_sum h0 h0_f0 h0_1 h0_2 h0_3 h0_4 h0_5 h0_f6 h0_f7 h0_f8 h0_f9 h0_f10 (-1) 0 h0_f13 h0_f14 h0_15 h0_16 h0_f17 h0_18 h0_19 h0_20 h0_21 h0_22 h0_23 h0_24 h0_25 h0_f26 h0_f27 h0_f28 h0_f29 h0_f30 h0_f31 h0_32 h0_33 h0_f34 h0_35 h0_36 h0_37 h0_38 h0_39 h0_40 h0_f41 h0_f42 h0_f43 h0_f44 h0_45 h0_46 h0_47 h0_48 h0_49 h0_50 h0_f51 h0_52 h0_f53 h0_5 h0_5k tN h0_5c h0_4 h0_4k h0_4c) sz) U U.heap ∧ va_T .byte tv7 6 (fun j => .int ([118, 108, 114, 100, 112, 104].getD j 0)) (va_A (wd_c_X12_sum h0 h0_f0 h0_1 h0_2 h0_3 h0_4 h0_5 h0_f6 h0_f7 h0_f8 h0_f9 h0_f10 (-1) 0 h0_f13 h0_f14 h0_15 h0_16 h0_f17 h0_18 h0_19 h0_20 h0_21 h0_22 h0_23 h0_24 h0_25 h0_f26 h0_f27 h0_f28 h0_f29 h0_f30 h0_f31 h0_32 h0_33 h0_f34 h0_35 h0_36 h0_37 h0_38 h0_39 h0_40 h0_f41 h0_f42 h0_f43 h0_f44 h0_45 h0_46 h0_47 h0_48 h0_49 h0_50 h0_f51 h0_52 h0_f53 h0_5 h0_5k tN h0_5c h0_4 h0_4k h0_4c) sz) U U.heap ∧ va_Z "java/lang/String" "COMPACT_STRINGS" "Z" (.int 1) (va_A (wd_c_X12_sum h0 h0_f0 h0_1 h0_2 h0_3 h0_4 h0_5 h0_f6 h0_f7 h0_f8 h0_f9 h0_f10 (-1) 0 h0_f13 h0_f14 h0_15 h0_16 h0_f17 h0_18 h0_19 h0_20 h0_21 h0_22 h0_23 h0_24 h0_25 h0_f26 h0_f27 h0_f28 h0_f29 h0_f30 h0_f31 h0_32 h0_33 h0_f34 h0_35 h0_36 h0_37 h0_38 h0_39 h0_40 h0_f41 h0_f42 h0_f43 h0_f44 h0_45 h0_46 h0_47 h0_48 h0_49 h0_50 h0_f51 h0_52 h0_f53 h0_5 h0_5k tN h0_5c h0_4 h0_4k h0_4c) sz) U U.heap ∧ va_OF "java/lang/String" "coder" "B" (.int 0) ts7 (va_A (wd_c_X12_sum h0 h0_f0 h0_1 h0_2 h0_3 h0_4 h0_5 h0_f6 h0_f7 h0_f8 h0_f9 h0_f10 (-1) 0 h0_f13 h0_f14 h0_15 h0_16 h0_f17 h0_18 h0_19 h0_20 h0_21 h0_22 h0_23 h0_24 h0_25 h0_f26 h0_f27 h0_f28 h0_f29 h0_f30 h0_f31 h0_32 h0_33 h0_f34 h0_35 h0_36 h0_37 h0_38 h0_39 h0_40 h0_f41 h0_f42 h0_f43 h0_f44 h0_45 h0_46 h0_47 h0_48 h0_49 h0_50 h0_f51 h0_52 h0_f53 h0_5 h0_5k tN h0_5c h0_4 h0_4k h0_4c) sz) U U.heap ∧ va_O "java/lang/String" ts7 (va_A (wd_c_X12_sum h0 h0_f0 h0_1 h0_2 h0_3 h0_4 h0_5 h0_f6 h0_f7 h0_f8 h0_f9 h0_f10 (-1) 0 h0_f13 h0_f14 h0_15 h0_16 h0_f17 h0_18 h0_19 h0_20 h0_21 h0_22 h0_23 h0_24 h0_25 h0_f26 h0_f27 h0_f28 h0_f29 h0_f30 h0_f31 h0_32 h0_33 h0_f34 h0_35 h0_36 h0_37 h0_38 h0_39 h0_40 h0_f41 h0_f42 h0_f43 h0_f44 h0_45 h0_46 h0_47 h0_48 h0_49 h0_50 h0_f51 h0_52 h0_f53 h0_5 h0_5k tN h0_5c h0_4 h0_4k h0_4c) sz) U U.heap ∧ va_Zq "jdk/internal/util/Preconditions" "SIOOBE_FORMATTER" "Ljava/util/function/BiFunction;" (va_A (wd_c_X12_sum h0 h0_f0 h0_1 h0_2 h0_3 h0_4 h0_5 h0_f6 h0_f7 h0_f8 h0_f9 h0_f10 (-1) 0 h0_f13 h0_f14 h0_15 h0_16 h0_f17 h0_18 h0_19 h0_20 h0_21 h0_22 h0_23 h0_24 h0_25 h0_f26 h0_f27 h0_f28 h0_f29 h0_f30 h0_f31 h0_32 h0_33 h0_f34 h0_35 h0_36 h0_37 h0_38 h0_39 h0_40 h0_f41 h0_f42 h0_f43 h0_f44 h0_45 h0_46 h0_47 h0_48 h0_49 h0_50 h0_f51 h0_52 h0_f53 h0_5 h0_5k tN h0_5c h0_4 h0_4k h0_4c) sz) U U.heap)) (va_Qi (fun (r : Int32) (u : (Int32) × (Int32) × (Int32)) => (RG r (-2147483648) 2147483647 ∧ RG u.1 0 240 ∧ u.2.1 = (-1) ∧ u.2.2 = 0 ∧ RG h0_f9 1 240 ∧ h0_f10.toInt + 0 ≤ (u.1).toInt ∧ (r, u.1, u.2.1, u.2.2) = fx_c_X12_sum h0_f8 h0_f9 h0_f10 h0_5c h0_4c) ∨ (RG r (-1000000) 1000000 ∧ RG u.1 0 240 ∧ RG u.2.1 0 240 ∧ RG u.2.2 0 6 ∧ h0_f10.toInt + 0 ≤ (u.1).toInt ∧ (r, u.1, u.2.1, u.2.2) = fx_c_X12_sum h0_f8 h0_f9 h0_f10 h0_5c h0_4c)) (fun (u : (Int32) × (Int32) × (Int32)) t => va_P (dC, dI) vwCl (wd_c_X12_sum h0 h0_f0 h0_1 h0_2 h0_3 h0_4 h0_5 h0_f6 h0_f7 h0_f8 h0_f9 (u.1) (u.2.1) (u.2.2) h0_f13 h0_f14 h0_15 h0_16 h0_f17 h0_18 h0_19 h0_20 h0_21 h0_22 h0_23 h0_24 h0_25 h0_f26 h0_f27 h0_f28 h0_f29 h0_f30 h0_f31 h0_32 h0_33 h0_f34 h0_35 h0_36 h0_37 h0_38 h0_39 h0_40 h0_f41 h0_f42 h0_f43 h0_f44 h0_45 h0_46 h0_47 h0_48 h0_49 h0_50 h0_f51 h0_52 h0_f53 h0_5 h0_5k tN h0_5c h0_4 h0_4k h0_4c) t.heap ∧ va_K (dC, dI) vwCl [] t ∧ va_D (va_A (wd_c_X12_sum h0 h0_f0 h0_1 h0_2 h0_3 h0_4 h0_5 h0_f6 h0_f7 h0_f8 h0_f9 h0_f10 (-1) 0 h0_f13 h0_f14 h0_15 h0_16 h0_f17 h0_18 h0_19 h0_20 h0_21 h0_22 h0_23 h0_24 h0_25 h0_f26 h0_f27 h0_f28 h0_f29 h0_f30 h0_f31 h0_32 h0_33 h0_f34 h0_35 h0_36 h0_37 h0_38 h0_39 h0_40 h0_f41 h0_f42 h0_f43 h0_f44 h0_45 h0_46 h0_47 h0_48 h0_49 h0_50 h0_f51 h0_52 h0_f53 h0_5 h0_5k tN h0_5c h0_4 h0_4k h0_4c) sz) (wd_c_X12_sum h0 h0_f0 h0_1 h0_2 h0_3 h0_4 h0_5 h0_f6 h0_f7 h0_f8 h0_f9 (u.1) (u.2.1) (u.2.2) h0_f13 h0_f14 h0_15 h0_16 h0_f17 h0_18 h0_19 h0_20 h0_21 h0_22 h0_23 h0_24 h0_25 h0_f26 h0_f27 h0_f28 h0_f29 h0_f30 h0_f31 h0_32 h0_33 h0_f34 h0_35 h0_36 h0_37 h0_38 h0_39 h0_40 h0_f41 h0_f42 h0_f43 h0_f44 h0_45 h0_46 h0_47 h0_48 h0_49 h0_50 h0_f51 h0_52 h0_f53 h0_5 h0_5k tN h0_5c h0_4 h0_4k h0_4c)) (va_A (wd_c_X12_sum h0 h0_f0 h0_1 h0_2 h0_3 h0_4 h0_5 h0_f6 h0_f7 h0_f8 h0_f9 h0_f10 (-1) 0 h0_f13 h0_f14 h0_15 h0_16 h0_f17 h0_18 h0_19 h0_20 h0_21 h0_22 h0_23 h0_24 h0_25 h0_f26 h0_f27 h0_f28 h0_f29 h0_f30 h0_f31 h0_32 h0_33 h0_f34 h0_35 h0_36 h0_37 h0_38 h0_39 h0_40 h0_f41 h0_f42 h0_f43 h0_f44 h0_45 h0_46 h0_47 h0_48 h0_49 h0_50 h0_f51 h0_52 h0_f53 h0_5 h0_5k tN h0_5c h0_4 h0_4k h0_4c) sz)) 0 0 (va_A (wd_c_X12_sum h0 h0_f0 h0_1 h0_2 h0_3 h0_4 h0_5 h0_f6 h0_f7 h0_f8 h0_f9 h0_f10 (-1) 0 h0_f13 h0_f14 h0_15 h0_16 h0_f17 h0_18 h0_19 h0_20 h0_21 h0_22 h0_23 h0_24 h0_25 h0_f26 h0_f27 h0_f28 h0_f29 h0_f30 h0_f31 h0_32 h0_33 h0_f34 h0_35 h0_36 h0_37 h0_38 h0_39 h0_40 h0_f41 h0_f42 h0_f43 h0_f44 h0_45 h0_46 h0_47 h0_48 h0_49 h0_50 h0_f51 h0_52 h0_f53 h0_5 h0_5k tN h0_5c h0_4 h0_4k h0_4c) sz) := by
  refine Met.ofW (cc := cX12_sum) (maxL := 5) (ret := (some .int)) (by decide +kernel) rfl ?_
  intro p e s m args below meth c s₁ B hml hv
  obtain ⟨rfl, hsz, hP, hK, hD0, hE_47, hE_50, hE_51, hE_10, hE_49, hE_48, hE_11⟩ := hv
  have hx := B.exec
  have hb := B.bytes
  have hr := B.returns
  have hts := atoms_spec (ws := wf_c_X12_sum) B.pre
  have hown : s.vm.findClass RX12 = some m.cls := findClass_of_methodNamed B.named
  have hlocks := B.notSynchronized
  subst hsz
  have hD := hD0.self (sz := s.heap.size)
  generalize hAe : va_A (wd_c_X12_sum h0 h0_f0 h0_1 h0_2 h0_3 h0_4 h0_5 h0_f6 h0_f7 h0_f8 h0_f9 h0_f10 (-1) 0 h0_f13 h0_f14 h0_15 h0_16 h0_f17 h0_18 h0_19 h0_20 h0_21 h0_22 h0_23 h0_24 h0_25 h0_f26 h0_f27 h0_f28 h0_f29 h0_f30 h0_f31 h0_32 h0_33 h0_f34 h0_35 h0_36 h0_37 h0_38 h0_39 h0_40 h0_f41 h0_f42 h0_f43 h0_f44 h0_45 h0_46 h0_47 h0_48 h0_49 h0_50 h0_f51 h0_52 h0_f53 h0_5 h0_5k tN h0_5c h0_4 h0_4k h0_4c) s.heap.size = A at hD hE_50 hE_51 hE_10 hE_49 hE_48 hE_11 ⊢
  have hA : ∀ q : Nat, s.heap.size ≤ q → A q := fun q h => by rw [← hAe]; exact Or.inr h
  have hP : va_P (dC, dI) vwCl (wd_c_X12_sum h0 h0_f0 h0_1 h0_2 h0_3 h0_4 h0_5 h0_f6 h0_f7 h0_f8 h0_f9 h0_f10 (-1) 0 h0_f13 h0_f14 h0_15 h0_16 h0_f17 h0_18 h0_19 h0_20 h0_21 h0_22 h0_23 h0_24 h0_25 h0_f26 h0_f27 h0_f28 h0_f29 h0_f30 h0_f31 h0_32 h0_33 h0_f34 h0_35 h0_36 h0_37 h0_38 h0_39 h0_40 h0_f41 h0_f42 h0_f43 h0_f44 h0_45 h0_46 h0_47 h0_48 h0_49 h0_50 h0_f51 h0_52 h0_f53 h0_5 h0_5k tN h0_5c h0_4 h0_4k h0_4c) s.heap := hP
  have hl := lv_entry ([.ref h0]) (n := 5) (Nat.le_of_ble_eq_true rfl)
  rw [lg_entry_eq]
  generalize (lg_sl ([.ref h0]) ++ List.replicate (5 - (lg_sl ([.ref h0])).length) Slot.unset).toArray = ls at hl ⊢
  have hl : lv_has ls 5 [(0, .ref h0)] := hl
  obtain ⟨H, hHe⟩ : ∃ H : Heap, s.heap = H := ⟨_, rfl⟩
  have hS : va_S A s.heap H [] := by rw [hHe]; exact va_S.rf
  have hP : va_P (dC, dI) vwCl (wd_c_X12_sum h0 h0_f0 h0_1 h0_2 h0_3 h0_4 h0_5 h0_f6 h0_f7 h0_f8 h0_f9 h0_f10 (-1) 0 h0_f13 h0_f14 h0_15 h0_16 h0_f17 h0_18 h0_19 h0_20 h0_21 h0_22 h0_23 h0_24 h0_25 h0_f26 h0_f27 h0_f28 h0_f29 h0_f30 h0_f31 h0_32 h0_33 h0_f34 h0_35 h0_36 h0_37 h0_38 h0_39 h0_40 h0_f41 h0_f42 h0_f43 h0_f44 h0_45 h0_46 h0_47 h0_48 h0_49 h0_50 h0_f51 h0_52 h0_f53 h0_5 h0_5k tN h0_5c h0_4 h0_4k h0_4c) H := by rw [← hHe]; exact hP
  rw [hHe]
  obtain ⟨RES, hR⟩ : ∃ z, fx_c_X12_sum h0_f8 h0_f9 h0_f10 h0_5c h0_4c = z := ⟨_, rfl⟩
  have hEX : RES = fx_c_X12_sum h0_f8 h0_f9 h0_f10 h0_5c h0_4c := hR.symm
  refine wj (fun G hG hU => ?_)
  as_aux_lemma =>
  have J5b : ∀ (j5b_l1 : Int32) (j5b_h0_f10 : Int32) (j5b_h0_f11 : Int32) (j5b_h0_f12 : Int32) (g_h0_f10 : RG h0_f10 0 240) (g_h0_f17 : RG h0_f17 0 1) (g_h0_f26 : RG h0_f26 0 8) (g_h0_f27 : RG h0_f27 0 3) (g_h0_f28 : RG h0_f28 0 8) (g_h0_f29 : RG h0_f29 0 3) (g_h0_f30 : RG h0_f30 0 4) (g_h0_f31 : RG h0_f31 0 1) (g_h0_f34 : RG h0_f34 (-1) 3) (g_h0_f41 : RG h0_f41 0 40) (g_h0_f51 : RG h0_f51 0 10) (g_h0_f53 : RG h0_f53 0 1) (g_h0_f6 : RG h0_f6 0 240) (g_h0_f7 : RG h0_f7 0 4) (g_h0_f8 : RG h0_f8 0 720) (g_h0_f9 : RG h0_f9 0 240) (g_j5b_h0_f10 : RG j5b_h0_f10 0 240) (g_j5b_h0_f11 : RG j5b_h0_f11 0 240) (g_j5b_h0_f12 : RG j5b_h0_f12 0 6) (g_j5b_l1 : RG j5b_l1 (-1000000) 1000000) (r_h0_f10_j5b_h0_f10 : h0_f10.toInt + 0 ≤ j5b_h0_f10.toInt) (hEX : RES = fx_c_X12_sum_p5b j5b_l1 j5b_h0_f10 j5b_h0_f11 j5b_h0_f12) (H : Heap) (locs : List Loc) (ls : Array Slot) (hP : va_P (dC, dI) vwCl (wd_c_X12_sum h0 h0_f0 h0_1 h0_2 h0_3 h0_4 h0_5 h0_f6 h0_f7 h0_f8 h0_f9 j5b_h0_f10 j5b_h0_f11 j5b_h0_f12 h0_f13 h0_f14 h0_15 h0_16 h0_f17 h0_18 h0_19 h0_20 h0_21 h0_22 h0_23 h0_24 h0_25 h0_f26 h0_f27 h0_f28 h0_f29 h0_f30 h0_f31 h0_32 h0_33 h0_f34 h0_35 h0_36 h0_37 h0_38 h0_39 h0_40 h0_f41 h0_f42 h0_f43 h0_f44 h0_45 h0_46 h0_47 h0_48 h0_49 h0_50 h0_f51 h0_52 h0_f53 h0_5 h0_5k tN h0_5c h0_4 h0_4k h0_4c) H) (hD : va_D A (wd_c_X12_sum h0 h0_f0 h0_1 h0_2 h0_3 h0_4 h0_5 h0_f6 h0_f7 h0_f8 h0_f9 j5b_h0_f10 j5b_h0_f11 j5b_h0_f12 h0_f13 h0_f14 h0_15 h0_16 h0_f17 h0_18 h0_19 h0_20 h0_21 h0_22 h0_23 h0_24 h0_25 h0_f26 h0_f27 h0_f28 h0_f29 h0_f30 h0_f31 h0_32 h0_33 h0_f34 h0_35 h0_36 h0_37 h0_38 h0_39 h0_40 h0_f41 h0_f42 h0_f43 h0_f44 h0_45 h0_46 h0_47 h0_48 h0_49 h0_50 h0_f51 h0_52 h0_f53 h0_5 h0_5k tN h0_5c h0_4 h0_4k h0_4c)) (hS : va_S A s.heap H locs) (hl : lv_has ls 5 [(1, .int j5b_l1), (0, .ref h0)]), G H locs (F0 m 5 ls []) := by
    as_aux_lemma =>
    intro j5b_l1 j5b_h0_f10 j5b_h0_f11 j5b_h0_f12 g_h0_f10 g_h0_f17 g_h0_f26 g_h0_f27 g_h0_f28 g_h0_f29 g_h0_f30 g_h0_f31 g_h0_f34 g_h0_f41 g_h0_f51 g_h0_f53 g_h0_f6 g_h0_f7 g_h0_f8 g_h0_f9 g_j5b_h0_f10 g_j5b_h0_f11 g_j5b_h0_f12 g_j5b_l1 r_h0_f10_j5b_h0_f10 hEX H locs ls hP hD hS hl
    refine hG _ _ _ ?_
    refine lv_aload_n hx hb dX12_sum_5 rfl (lv_at hl 1 rfl) ?_
    refine va_get (D := (dC, dI)) (ci := 12) (v := .int j5b_h0_f11) (C := RX12) (T := TX12) (N := 54) hx hb hts iw_c_X12_sum_X12 hown hK hP 0 rfl rfl 11 (by decide +kernel) (hts (.fieldLink RX12 143 "BuoyVoteModel" "fault" "I") (List.mem_of_getElem? (i := 61) rfl)) (fun _ h9 => h9) rfl dX12_sum_6 ?_
    refine lv_iconst (v := (-1)) hx hb dX12_sum_9 kc_iconst_m1 ?_
    refine lv_icmp_ne (tgt := 84) hx hb dX12_sum_10 rfl (fun c_1 => ?_) (fun c_1 => ?_)
    · replace hEX := hEX.trans (if_neg c_1)
      refine lv_iload_n hx hb dX12_sum_84 rfl (lv_at hl 0 rfl) ?_
      have hK9 := hK.sub (tys' := []) [] rfl
      exact W.iret (v := j5b_l1) hx hb hr (fun t ht hW => ⟨⟨j5b_l1, (j5b_h0_f10, j5b_h0_f11, j5b_h0_f12), rfl, (Or.inr ⟨g_j5b_l1, g_j5b_h0_f10, g_j5b_h0_f11, g_j5b_h0_f12, (by have := r_h0_f10_j5b_h0_f10; show h0_f10.toInt + 0 ≤ j5b_h0_f10.toInt; omega), (hR.trans hEX).symm⟩), by rw [ht]; exact hP, va_K.moved hW.alike hK9, hD⟩, hS.F ht⟩) hS.2.2 dX12_sum_85
    · replace hEX := hEX.trans (if_pos c_1)
      exact RG_dead (RG_eq1 g_j5b_h0_f11 (RG_k (-1) (-1) rfl) c_1 (a' := 0) (b' := (-1)) (by decide +kernel)) (by decide +kernel)
  have J77b : ∀ (j77b_s0 : Int64) (j77b_h0_f10 : Int32) (j77b_h0_f11 : Int32) (j77b_h0_f12 : Int32) (g_h0_f10 : RG h0_f10 0 240) (g_h0_f17 : RG h0_f17 0 1) (g_h0_f26 : RG h0_f26 0 8) (g_h0_f27 : RG h0_f27 0 3) (g_h0_f28 : RG h0_f28 0 8) (g_h0_f29 : RG h0_f29 0 3) (g_h0_f30 : RG h0_f30 0 4) (g_h0_f31 : RG h0_f31 0 1) (g_h0_f34 : RG h0_f34 (-1) 3) (g_h0_f41 : RG h0_f41 0 40) (g_h0_f51 : RG h0_f51 0 10) (g_h0_f53 : RG h0_f53 0 1) (g_h0_f6 : RG h0_f6 0 240) (g_h0_f7 : RG h0_f7 0 4) (g_h0_f8 : RG h0_f8 0 720) (g_h0_f9 : RG h0_f9 1 240) (g_j77b_h0_f10 : RG j77b_h0_f10 0 240) (g_j77b_h0_f11 : RG j77b_h0_f11 0 240) (g_j77b_h0_f12 : RG j77b_h0_f12 0 6) (g_j77b_s0 : LG j77b_s0 (-2147483648) 2147483647) (r_h0_f10_j77b_h0_f10 : h0_f10.toInt + 1 ≤ j77b_h0_f10.toInt) (hEX : RES = fx_c_X12_sum_p77b j77b_s0 j77b_h0_f10 j77b_h0_f11 j77b_h0_f12) (H : Heap) (locs : List Loc) (ls : Array Slot) (hP : va_P (dC, dI) vwCl (wd_c_X12_sum h0 h0_f0 h0_1 h0_2 h0_3 h0_4 h0_5 h0_f6 h0_f7 h0_f8 h0_f9 j77b_h0_f10 j77b_h0_f11 j77b_h0_f12 h0_f13 h0_f14 h0_15 h0_16 h0_f17 h0_18 h0_19 h0_20 h0_21 h0_22 h0_23 h0_24 h0_25 h0_f26 h0_f27 h0_f28 h0_f29 h0_f30 h0_f31 h0_32 h0_33 h0_f34 h0_35 h0_36 h0_37 h0_38 h0_39 h0_40 h0_f41 h0_f42 h0_f43 h0_f44 h0_45 h0_46 h0_47 h0_48 h0_49 h0_50 h0_f51 h0_52 h0_f53 h0_5 h0_5k tN h0_5c h0_4 h0_4k h0_4c) H) (hD : va_D A (wd_c_X12_sum h0 h0_f0 h0_1 h0_2 h0_3 h0_4 h0_5 h0_f6 h0_f7 h0_f8 h0_f9 j77b_h0_f10 j77b_h0_f11 j77b_h0_f12 h0_f13 h0_f14 h0_15 h0_16 h0_f17 h0_18 h0_19 h0_20 h0_21 h0_22 h0_23 h0_24 h0_25 h0_f26 h0_f27 h0_f28 h0_f29 h0_f30 h0_f31 h0_32 h0_33 h0_f34 h0_35 h0_36 h0_37 h0_38 h0_39 h0_40 h0_f41 h0_f42 h0_f43 h0_f44 h0_45 h0_46 h0_47 h0_48 h0_49 h0_50 h0_f51 h0_52 h0_f53 h0_5 h0_5k tN h0_5c h0_4 h0_4k h0_4c)) (hS : va_S A s.heap H locs) (hl : lv_has ls 5 [(0, .ref h0)]), G H locs (F0 m 77 ls [.long j77b_s0]) := by
    as_aux_lemma =>
    intro j77b_s0 j77b_h0_f10 j77b_h0_f11 j77b_h0_f12 g_h0_f10 g_h0_f17 g_h0_f26 g_h0_f27 g_h0_f28 g_h0_f29 g_h0_f30 g_h0_f31 g_h0_f34 g_h0_f41 g_h0_f51 g_h0_f53 g_h0_f6 g_h0_f7 g_h0_f8 g_h0_f9 g_j77b_h0_f10 g_j77b_h0_f11 g_j77b_h0_f12 g_j77b_s0 r_h0_f10_j77b_h0_f10 hEX H locs ls hP hD hS hl
    refine hG _ _ _ ?_
    obtain ⟨hPc, hDc, hFc, hqc⟩ := cl_cut (wc := []) hP hD hS hA [] (by decide +kernel) rfl
    have hKc := hK.sub (tys' := []) [] rfl
    refine va_calli (va_runS (As := [.long j77b_s0]) (rest := []) ⟨hx, hb, hml, hown, hts⟩ (c_X12_within_3 l dC dI H.size j77b_s0 g_j77b_s0) (va_cwS 1 hts gf_c_X12_sum_c_X12_within_3 rfl rfl rfl md_X12_within ⟨Nat.le_of_ble_eq_true rfl, Nat.le_of_ble_eq_true rfl⟩) ⟨fun a U g mk q => by obtain ⟨q0, q1, qP, qK, qD⟩ := q; exact ⟨q0, q1, qP, va_K.moved (u := U) (U := U.calling g mk a) (Vm.Alike.refl U.vm) qK, qD⟩, fun U hU hW => ⟨rfl, by rw [hU], by rw [hU]; exact hPc, va_K.moved hW.alike hKc, hDc.weaken (fun _ _ _ _ => trivial)⟩⟩ rfl rfl hl.1 rfl (lv_room (Nat.le_of_ble_eq_true rfl)) dX12_sum_77 ⟨Nat.le_of_ble_eq_true rfl, Nat.le_of_ble_eq_true rfl⟩) hS (fun q _ h => hFc q h) hFc (fun r_2 u t H1 locs ht hvm hw hB hz1 hk1 hS => ?_)
    obtain ⟨hP1, hK1, hD1⟩ := hB
    rw [ht] at hP1
    have hP := bv_still hP hk1
    generalize H1 = H at hP hS ⊢
    as_aux_lemma =>
    rcases hw with ⟨h_3, h_4⟩
    have h_4 : r_2 = _ := h_4
    replace hEX := hEX.trans (exc1_eq h_4)
    refine lv_istore_n (lv' := [(1, .int r_2), (0, .ref h0)]) hx hb dX12_sum_80 rfl hl (Nat.le_of_ble_eq_true rfl) rfl (fun ls hl => ?_)
    refine lv_goto (tgt := 5) hx hb dX12_sum_81 rfl ?_
    exact hU _ _ _ (J5b r_2 j77b_h0_f10 j77b_h0_f11 j77b_h0_f12 g_h0_f10 g_h0_f17 g_h0_f26 g_h0_f27 g_h0_f28 g_h0_f29 g_h0_f30 g_h0_f31 g_h0_f34 g_h0_f41 g_h0_f51 g_h0_f53 g_h0_f6 g_h0_f7 g_h0_f8 (RG_w g_h0_f9 (by decide +kernel)) g_j77b_h0_f10 g_j77b_h0_f11 g_j77b_h0_f12 h_3 (by have := r_h0_f10_j77b_h0_f10; omega) hEX _ _ _ hP hD hS (lv_sub hl [0, 1] rfl))
  have J5 : ∀ (n5 : Nat) (j5_l1 : Int32) (j5_h0_f10 : Int32) (hM5 : MU j5_h0_f10 < n5) (g_h0_f10 : RG h0_f10 0 240) (g_h0_f17 : RG h0_f17 0 1) (g_h0_f26 : RG h0_f26 0 8) (g_h0_f27 : RG h0_f27 0 3) (g_h0_f28 : RG h0_f28 0 8) (g_h0_f29 : RG h0_f29 0 3) (g_h0_f30 : RG h0_f30 0 4) (g_h0_f31 : RG h0_f31 0 1) (g_h0_f34 : RG h0_f34 (-1) 3) (g_h0_f41 : RG h0_f41 0 40) (g_h0_f51 : RG h0_f51 0 10) (g_h0_f53 : RG h0_f53 0 1) (g_h0_f6 : RG h0_f6 0 240) (g_h0_f7 : RG h0_f7 0 4) (g_h0_f8 : RG h0_f8 0 720) (g_h0_f9 : RG h0_f9 1 240) (g_j5_h0_f10 : RG j5_h0_f10 0 240) (r_h0_f10_j5_h0_f10 : h0_f10.toInt + 0 ≤ j5_h0_f10.toInt) (hEX : RES = fx_c_X12_sum_p5 h0_f8 h0_f9 h0_5c h0_4c n5 j5_l1 j5_h0_f10) (H : Heap) (locs : List Loc) (ls : Array Slot) (hP : va_P (dC, dI) vwCl (wd_c_X12_sum h0 h0_f0 h0_1 h0_2 h0_3 h0_4 h0_5 h0_f6 h0_f7 h0_f8 h0_f9 j5_h0_f10 (-1) 0 h0_f13 h0_f14 h0_15 h0_16 h0_f17 h0_18 h0_19 h0_20 h0_21 h0_22 h0_23 h0_24 h0_25 h0_f26 h0_f27 h0_f28 h0_f29 h0_f30 h0_f31 h0_32 h0_33 h0_f34 h0_35 h0_36 h0_37 h0_38 h0_39 h0_40 h0_f41 h0_f42 h0_f43 h0_f44 h0_45 h0_46 h0_47 h0_48 h0_49 h0_50 h0_f51 h0_52 h0_f53 h0_5 h0_5k tN h0_5c h0_4 h0_4k h0_4c) H) (hD : va_D A (wd_c_X12_sum h0 h0_f0 h0_1 h0_2 h0_3 h0_4 h0_5 h0_f6 h0_f7 h0_f8 h0_f9 j5_h0_f10 (-1) 0 h0_f13 h0_f14 h0_15 h0_16 h0_f17 h0_18 h0_19 h0_20 h0_21 h0_22 h0_23 h0_24 h0_25 h0_f26 h0_f27 h0_f28 h0_f29 h0_f30 h0_f31 h0_32 h0_33 h0_f34 h0_35 h0_36 h0_37 h0_38 h0_39 h0_40 h0_f41 h0_f42 h0_f43 h0_f44 h0_45 h0_46 h0_47 h0_48 h0_49 h0_50 h0_f51 h0_52 h0_f53 h0_5 h0_5k tN h0_5c h0_4 h0_4k h0_4c)) (hS : va_S A s.heap H locs) (hl : lv_has ls 5 [(1, .int j5_l1), (0, .ref h0)]), G H locs (F0 m 5 ls []) := by
    as_aux_lemma =>
    intro n5
    induction n5 with
    | zero => intros; exact absurd (by assumption) (Nat.not_lt_zero _)
    | succ n5 ih5 =>
      intro j5_l1 j5_h0_f10 hM5 g_h0_f10 g_h0_f17 g_h0_f26 g_h0_f27 g_h0_f28 g_h0_f29 g_h0_f30 g_h0_f31 g_h0_f34 g_h0_f41 g_h0_f51 g_h0_f53 g_h0_f6 g_h0_f7 g_h0_f8 g_h0_f9 g_j5_h0_f10 r_h0_f10_j5_h0_f10 hEX H locs ls hP hD hS hl
      have J77 : ∀ (j77_s0 : Int64) (j77_h0_f10 : Int32) (g_h0_f10 : RG h0_f10 0 240) (g_h0_f17 : RG h0_f17 0 1) (g_h0_f26 : RG h0_f26 0 8) (g_h0_f27 : RG h0_f27 0 3) (g_h0_f28 : RG h0_f28 0 8) (g_h0_f29 : RG h0_f29 0 3) (g_h0_f30 : RG h0_f30 0 4) (g_h0_f31 : RG h0_f31 0 1) (g_h0_f34 : RG h0_f34 (-1) 3) (g_h0_f41 : RG h0_f41 0 40) (g_h0_f51 : RG h0_f51 0 10) (g_h0_f53 : RG h0_f53 0 1) (g_h0_f6 : RG h0_f6 0 240) (g_h0_f7 : RG h0_f7 0 4) (g_h0_f8 : RG h0_f8 0 720) (g_h0_f9 : RG h0_f9 1 240) (g_j5_h0_f10 : RG j5_h0_f10 0 240) (g_j77_h0_f10 : RG j77_h0_f10 0 240) (g_j77_s0 : LG j77_s0 (-4294967296) 4294967295) (r_h0_f10_j77_h0_f10 : h0_f10.toInt + 1 ≤ j77_h0_f10.toInt) (r_j5_h0_f10_j77_h0_f10 : j5_h0_f10.toInt + 1 ≤ j77_h0_f10.toInt) (hEX : RES = fx_c_X12_sum_p77 (fx_c_X12_sum_p5 h0_f8 h0_f9 h0_5c h0_4c n5) j77_s0 j77_h0_f10) (H : Heap) (locs : List Loc) (ls : Array Slot) (hP : va_P (dC, dI) vwCl (wd_c_X12_sum h0 h0_f0 h0_1 h0_2 h0_3 h0_4 h0_5 h0_f6 h0_f7 h0_f8 h0_f9 j77_h0_f10 (-1) 0 h0_f13 h0_f14 h0_15 h0_16 h0_f17 h0_18 h0_19 h0_20 h0_21 h0_22 h0_23 h0_24 h0_25 h0_f26 h0_f27 h0_f28 h0_f29 h0_f30 h0_f31 h0_32 h0_33 h0_f34 h0_35 h0_36 h0_37 h0_38 h0_39 h0_40 h0_f41 h0_f42 h0_f43 h0_f44 h0_45 h0_46 h0_47 h0_48 h0_49 h0_50 h0_f51 h0_52 h0_f53 h0_5 h0_5k tN h0_5c h0_4 h0_4k h0_4c) H) (hD : va_D A (wd_c_X12_sum h0 h0_f0 h0_1 h0_2 h0_3 h0_4 h0_5 h0_f6 h0_f7 h0_f8 h0_f9 j77_h0_f10 (-1) 0 h0_f13 h0_f14 h0_15 h0_16 h0_f17 h0_18 h0_19 h0_20 h0_21 h0_22 h0_23 h0_24 h0_25 h0_f26 h0_f27 h0_f28 h0_f29 h0_f30 h0_f31 h0_32 h0_33 h0_f34 h0_35 h0_36 h0_37 h0_38 h0_39 h0_40 h0_f41 h0_f42 h0_f43 h0_f44 h0_45 h0_46 h0_47 h0_48 h0_49 h0_50 h0_f51 h0_52 h0_f53 h0_5 h0_5k tN h0_5c h0_4 h0_4k h0_4c)) (hS : va_S A s.heap H locs) (hl : lv_has ls 5 [(0, .ref h0)]), G H locs (F0 m 77 ls [.long j77_s0]) := by
        as_aux_lemma =>
        intro j77_s0 j77_h0_f10 g_h0_f10 g_h0_f17 g_h0_f26 g_h0_f27 g_h0_f28 g_h0_f29 g_h0_f30 g_h0_f31 g_h0_f34 g_h0_f41 g_h0_f51 g_h0_f53 g_h0_f6 g_h0_f7 g_h0_f8 g_h0_f9 g_j5_h0_f10 g_j77_h0_f10 g_j77_s0 r_h0_f10_j77_h0_f10 r_j5_h0_f10_j77_h0_f10 hEX H locs ls hP hD hS hl
        refine hG _ _ _ ?_
        obtain ⟨hPc, hDc, hFc, hqc⟩ := cl_cut (wc := []) hP hD hS hA [] (by decide +kernel) rfl
        have hKc := hK.sub (tys' := []) [] rfl
        refine va_calli (va_runS (As := [.long j77_s0]) (rest := []) ⟨hx, hb, hml, hown, hts⟩ (c_X12_within_1 l dC dI H.size j77_s0) (va_cwS 1 hts gf_c_X12_sum_c_X12_within_1 rfl rfl rfl md_X12_within ⟨Nat.le_of_ble_eq_true rfl, Nat.le_of_ble_eq_true rfl⟩) ⟨fun a U g mk q => by obtain ⟨q0, q1, qP, qK, qD⟩ := q; exact ⟨q0, q1, qP, va_K.moved (u := U) (U := U.calling g mk a) (Vm.Alike.refl U.vm) qK, qD⟩, fun U hU hW => ⟨rfl, by rw [hU], by rw [hU]; exact hPc, va_K.moved hW.alike hKc, hDc.weaken (fun _ _ _ _ => trivial)⟩⟩ rfl rfl hl.1 rfl (lv_room (Nat.le_of_ble_eq_true rfl)) dX12_sum_77 ⟨Nat.le_of_ble_eq_true rfl, Nat.le_of_ble_eq_true rfl⟩) hS (fun q _ h => hFc q h) hFc (fun r_5 u t H1 locs ht hvm hw hB hz1 hk1 hS => ?_)
        obtain ⟨hP1, hK1, hD1⟩ := hB
        rw [ht] at hP1
        have hP := bv_still hP hk1
        generalize H1 = H at hP hS ⊢
        as_aux_lemma =>
        rcases hw with ⟨h_6, h_7⟩
        have h_7 : r_5 = _ := h_7
        replace hEX := hEX.trans (exc1_eq h_7)
        refine lv_istore_n (lv' := [(1, .int r_5), (0, .ref h0)]) hx hb dX12_sum_80 rfl hl (Nat.le_of_ble_eq_true rfl) rfl (fun ls hl => ?_)
        refine lv_goto (tgt := 5) hx hb dX12_sum_81 rfl ?_
        exact hU _ _ _ (ih5 r_5 j77_h0_f10 (mu_s (MU_lt (by have := r_j5_h0_f10_j77_h0_f10; omega)) hM5) g_h0_f10 g_h0_f17 g_h0_f26 g_h0_f27 g_h0_f28 g_h0_f29 g_h0_f30 g_h0_f31 g_h0_f34 g_h0_f41 g_h0_f51 g_h0_f53 g_h0_f6 g_h0_f7 g_h0_f8 g_h0_f9 g_j77_h0_f10 (by have := r_h0_f10_j77_h0_f10; omega) hEX _ _ _ hP hD hS (lv_sub hl [0, 1] rfl))
      have J45 : ∀ (j45_h0_f10 : Int32) (g_h0_f10 : RG h0_f10 0 240) (g_h0_f17 : RG h0_f17 0 1) (g_h0_f26 : RG h0_f26 0 8) (g_h0_f27 : RG h0_f27 0 3) (g_h0_f28 : RG h0_f28 0 8) (g_h0_f29 : RG h0_f29 0 3) (g_h0_f30 : RG h0_f30 0 4) (g_h0_f31 : RG h0_f31 0 1) (g_h0_f34 : RG h0_f34 (-1) 3) (g_h0_f41 : RG h0_f41 0 40) (g_h0_f51 : RG h0_f51 0 10) (g_h0_f53 : RG h0_f53 0 1) (g_h0_f6 : RG h0_f6 0 240) (g_h0_f7 : RG h0_f7 0 4) (g_h0_f8 : RG h0_f8 0 720) (g_h0_f9 : RG h0_f9 1 240) (g_j45_h0_f10 : RG j45_h0_f10 0 239) (g_j5_h0_f10 : RG j5_h0_f10 0 240) (r_h0_f10_j45_h0_f10 : h0_f10.toInt + 0 ≤ j45_h0_f10.toInt) (r_j5_h0_f10_j45_h0_f10 : j5_h0_f10.toInt + 0 ≤ j45_h0_f10.toInt) (hEX : RES = fx_c_X12_sum_p45 h0_f8 h0_f9 h0_5c h0_4c j5_l1 (fx_c_X12_sum_p5 h0_f8 h0_f9 h0_5c h0_4c n5) j45_h0_f10) (H : Heap) (locs : List Loc) (ls : Array Slot) (hP : va_P (dC, dI) vwCl (wd_c_X12_sum h0 h0_f0 h0_1 h0_2 h0_3 h0_4 h0_5 h0_f6 h0_f7 h0_f8 h0_f9 j45_h0_f10 (-1) 0 h0_f13 h0_f14 h0_15 h0_16 h0_f17 h0_18 h0_19 h0_20 h0_21 h0_22 h0_23 h0_24 h0_25 h0_f26 h0_f27 h0_f28 h0_f29 h0_f30 h0_f31 h0_32 h0_33 h0_f34 h0_35 h0_36 h0_37 h0_38 h0_39 h0_40 h0_f41 h0_f42 h0_f43 h0_f44 h0_45 h0_46 h0_47 h0_48 h0_49 h0_50 h0_f51 h0_52 h0_f53 h0_5 h0_5k tN h0_5c h0_4 h0_4k h0_4c) H) (hD : va_D A (wd_c_X12_sum h0 h0_f0 h0_1 h0_2 h0_3 h0_4 h0_5 h0_f6 h0_f7 h0_f8 h0_f9 j45_h0_f10 (-1) 0 h0_f13 h0_f14 h0_15 h0_16 h0_f17 h0_18 h0_19 h0_20 h0_21 h0_22 h0_23 h0_24 h0_25 h0_f26 h0_f27 h0_f28 h0_f29 h0_f30 h0_f31 h0_32 h0_33 h0_f34 h0_35 h0_36 h0_37 h0_38 h0_39 h0_40 h0_f41 h0_f42 h0_f43 h0_f44 h0_45 h0_46 h0_47 h0_48 h0_49 h0_50 h0_f51 h0_52 h0_f53 h0_5 h0_5k tN h0_5c h0_4 h0_4k h0_4c)) (hS : va_S A s.heap H locs) (hl : lv_has ls 5 [(1, .int j5_l1), (0, .ref h0)]), G H locs (F0 m 45 ls [.int 0]) := by
        as_aux_lemma =>
        intro j45_h0_f10 g_h0_f10 g_h0_f17 g_h0_f26 g_h0_f27 g_h0_f28 g_h0_f29 g_h0_f30 g_h0_f31 g_h0_f34 g_h0_f41 g_h0_f51 g_h0_f53 g_h0_f6 g_h0_f7 g_h0_f8 g_h0_f9 g_j45_h0_f10 g_j5_h0_f10 r_h0_f10_j45_h0_f10 r_j5_h0_f10_j45_h0_f10 hEX H locs ls hP hD hS hl
        refine hG _ _ _ ?_
        refine lv_istore_n (lv' := [(2, .int 0), (1, .int j5_l1), (0, .ref h0)]) hx hb dX12_sum_45 rfl hl (Nat.le_of_ble_eq_true rfl) rfl (fun ls hl => ?_)
        refine lv_aload_n hx hb dX12_sum_46 rfl (lv_at hl 2 rfl) ?_
        refine lv_dup hx hb dX12_sum_47 rfl ?_
        refine va_get (D := (dC, dI)) (ci := 12) (v := .int j45_h0_f10) (C := RX12) (T := TX12) (N := 54) hx hb hts iw_c_X12_sum_X12 hown hK hP 0 rfl rfl 10 (by decide +kernel) (hts (.fieldLink RX12 134 "BuoyVoteModel" "at" "I") (List.mem_of_getElem? (i := 14) rfl)) (fun _ h9 => h9) rfl dX12_sum_48 ?_
        refine lv_iconst (v := 1) hx hb dX12_sum_51 kc_iconst_1 ?_
        refine lv_iadd hx hb dX12_sum_52 ?_
        refine lv_topi (fun x_8 ex_8 => ?_)
        replace hEX := hEX.trans (exl_eq ex_8)
        have g_9 : RG x_8 1 240 := RG_add ex_8 g_j45_h0_f10 (RG_k 1 1 rfl) (by decide +kernel)
        have q_10 : x_8.toInt = j45_h0_f10.toInt + 1 := eq_add ex_8 g_j45_h0_f10 (q := 1) rfl (by decide +kernel)
        refine va_put (D := (dC, dI)) (ci := 12) (v := .int x_8) (ty := .int) (C := RX12) (T := TX12) (N := 54) hx hb hts iw_c_X12_sum_X12 tyX12 tyX12_ok nmX12 hown hK hP hD hS 0 rfl rfl 10 (by decide +kernel) (hts (.fieldLink RX12 134 "BuoyVoteModel" "at" "I") (List.mem_of_getElem? (i := 14) rfl)) (fun _ h9 => h9) rfl (by decide +kernel) rfl rfl (Nat.le_of_ble_eq_true rfl) dX12_sum_53 (fun H locs hP hD hS => ?_)
        have hP : va_P (dC, dI) vwCl (wd_c_X12_sum h0 h0_f0 h0_1 h0_2 h0_3 h0_4 h0_5 h0_f6 h0_f7 h0_f8 h0_f9 x_8 (-1) 0 h0_f13 h0_f14 h0_15 h0_16 h0_f17 h0_18 h0_19 h0_20 h0_21 h0_22 h0_23 h0_24 h0_25 h0_f26 h0_f27 h0_f28 h0_f29 h0_f30 h0_f31 h0_32 h0_33 h0_f34 h0_35 h0_36 h0_37 h0_38 h0_39 h0_40 h0_f41 h0_f42 h0_f43 h0_f44 h0_45 h0_46 h0_47 h0_48 h0_49 h0_50 h0_f51 h0_52 h0_f53 h0_5 h0_5k tN h0_5c h0_4 h0_4k h0_4c) H := hP
        have hD : va_D A (wd_c_X12_sum h0 h0_f0 h0_1 h0_2 h0_3 h0_4 h0_5 h0_f6 h0_f7 h0_f8 h0_f9 x_8 (-1) 0 h0_f13 h0_f14 h0_15 h0_16 h0_f17 h0_18 h0_19 h0_20 h0_21 h0_22 h0_23 h0_24 h0_25 h0_f26 h0_f27 h0_f28 h0_f29 h0_f30 h0_f31 h0_32 h0_33 h0_f34 h0_35 h0_36 h0_37 h0_38 h0_39 h0_40 h0_f41 h0_f42 h0_f43 h0_f44 h0_45 h0_46 h0_47 h0_48 h0_49 h0_50 h0_f51 h0_52 h0_f53 h0_5 h0_5k tN h0_5c h0_4 h0_4k h0_4c) := hD
        refine lv_aload_n hx hb dX12_sum_56 rfl (lv_at hl 2 rfl) ?_
        as_aux_lemma =>
        obtain ⟨hPc, hDc, hFc, hqc⟩ := cl_cut (wc := (wd_c_X12_term h0 h0_f0 h0_1 h0_2 h0_3 h0_4 h0_5 h0_f6 h0_f7 h0_f8 h0_f9 x_8 (-1) 0 h0_f13 h0_f14 h0_15 h0_16 h0_f17 h0_18 h0_19 h0_20 h0_21 h0_22 h0_23 h0_24 h0_25 h0_f26 h0_f27 h0_f28 h0_f29 h0_f30 h0_f31 h0_32 h0_33 h0_f34 h0_35 h0_36 h0_37 h0_38 h0_39 h0_40 h0_f41 h0_f42 h0_f43 h0_f44 h0_45 h0_46 h0_47 h0_48 h0_49 h0_50 h0_f51 h0_52 h0_f53 h0_5 h0_5k tN h0_5c h0_4 h0_4k h0_4c)) hP hD hS hA [0, 1, 2] (by decide +kernel) rfl
        have hKc := hK.sub (tys' := [(h0_5k, .byte), (h0_4k, .int)]) [0, 1] rfl
        have hrv := va_recv hKc hPc (ci := 12) (q0 := 0) rfl rfl
        refine va_calli (va_runV (As := []) (rest := []) ⟨hx, hb, hml, hown, hts⟩ (c_X12_term l dC dI H.size h0 h0_f0 h0_1 h0_2 h0_3 h0_4 h0_5 h0_f6 h0_f7 h0_f8 h0_f9 x_8 h0_f13 h0_f14 h0_15 h0_16 h0_f17 h0_18 h0_19 h0_20 h0_21 h0_22 h0_23 h0_24 h0_25 h0_f26 h0_f27 h0_f28 h0_f29 h0_f30 h0_f31 h0_32 h0_33 h0_f34 h0_35 h0_36 h0_37 h0_38 h0_39 h0_40 h0_f41 h0_f42 h0_f43 h0_f44 h0_45 h0_46 h0_47 h0_48 h0_49 h0_50 h0_f51 h0_52 h0_f53 h0_5k h0_5c tN h0_4k h0_4c ts7 tv7 g_h0_f6 g_h0_f7 g_h0_f8 (RG_w g_h0_f9 (by decide +kernel)) (RG_w g_9 (by decide +kernel)) g_h0_f17 g_h0_f26 g_h0_f27 g_h0_f28 g_h0_f29 g_h0_f30 g_h0_f31 g_h0_f34 g_h0_f41 g_h0_f51 g_h0_f53 htN a_h0_4c) (cwV 0 hts gf_c_X12_sum_c_X12_term rfl rfl rfl mdV_X12_term ⟨Nat.le_of_ble_eq_true rfl, Nat.le_of_ble_eq_true rfl⟩) ⟨fun a U g mk q => by obtain ⟨q0, q1, qP, qK, qD, qE0, qE1, qE2, qE3, qE4, qE5, qE6⟩ := q; exact ⟨q0, q1, qP, va_K.moved (u := U) (U := U.calling g mk a) (Vm.Alike.refl U.vm) qK, qD, vk_R.same rfl qE0, va_OF.moved (u := U) (U := U.calling g mk a) (Vm.Alike.refl U.vm) qE1, va_T.moved (u := U) (U := U.calling g mk a) (Vm.Alike.refl U.vm) qE2, va_Z.moved (u := U) (U := U.calling g mk a) (Vm.Alike.refl U.vm) qE3, va_OF.moved (u := U) (U := U.calling g mk a) (Vm.Alike.refl U.vm) qE4, va_O.moved (u := U) (U := U.calling g mk a) (Vm.Alike.refl U.vm) qE5, va_Zq.moved (u := U) (U := U.calling g mk a) (Vm.Alike.refl U.vm) qE6⟩, hrv, fun U hU hW => ⟨rfl, by rw [hU], by rw [hU]; exact hPc, va_K.moved hW.alike hKc, hDc.weaken (fun _ _ _ _ => trivial), vk_R.warm hW hE_47, va_OF.moved hW.alike (by rw [hU]; exact (hE_50.kept hS.2.1).narrow hFc), va_T.moved hW.alike (by rw [hU]; exact (hE_51.kept hS.2.1).narrow hFc), va_Z.moved hW.alike (by rw [hU]; exact (hE_10.kept hS.2.1).narrow hFc), va_OF.moved hW.alike (by rw [hU]; exact (hE_49.kept hS.2.1).narrow hFc), va_O.moved hW.alike (by rw [hU]; exact (hE_48.kept hS.2.1).narrow hFc), va_Zq.moved hW.alike (by rw [hU]; exact (hE_11.kept hS.2.1).narrow hFc)⟩⟩ rfl rfl hl.1 rfl (lv_room (Nat.le_of_ble_eq_true rfl)) dX12_sum_57 ⟨Nat.le_of_ble_eq_true rfl, Nat.le_of_ble_eq_true rfl⟩) hS (fun q _ h => hFc q h) hFc (fun r_11 u t H1 locs ht hvm hw hB hz1 hk1 hS => ?_)
        obtain ⟨x_12, x_13, x_14⟩ := u
        obtain ⟨hP1, hK1, hD1⟩ := hB
        rw [ht] at hP1
        obtain ⟨hP, hD⟩ := cl_put (w1 := (wd_c_X12_term h0 h0_f0 h0_1 h0_2 h0_3 h0_4 h0_5 h0_f6 h0_f7 h0_f8 h0_f9 x_12 x_13 x_14 h0_f13 h0_f14 h0_15 h0_16 h0_f17 h0_18 h0_19 h0_20 h0_21 h0_22 h0_23 h0_24 h0_25 h0_f26 h0_f27 h0_f28 h0_f29 h0_f30 h0_f31 h0_32 h0_33 h0_f34 h0_35 h0_36 h0_37 h0_38 h0_39 h0_40 h0_f41 h0_f42 h0_f43 h0_f44 h0_45 h0_46 h0_47 h0_48 h0_49 h0_50 h0_f51 h0_52 h0_f53 h0_5 h0_5k tN h0_5c h0_4 h0_4k h0_4c)) (nw := (wd_c_X12_sum h0 h0_f0 h0_1 h0_2 h0_3 h0_4 h0_5 h0_f6 h0_f7 h0_f8 h0_f9 x_12 x_13 x_14 h0_f13 h0_f14 h0_15 h0_16 h0_f17 h0_18 h0_19 h0_20 h0_21 h0_22 h0_23 h0_24 h0_25 h0_f26 h0_f27 h0_f28 h0_f29 h0_f30 h0_f31 h0_32 h0_33 h0_f34 h0_35 h0_36 h0_37 h0_38 h0_39 h0_40 h0_f41 h0_f42 h0_f43 h0_f44 h0_45 h0_46 h0_47 h0_48 h0_49 h0_50 h0_f51 h0_52 h0_f53 h0_5 h0_5k tN h0_5c h0_4 h0_4k h0_4c)) hP hD [0, 1, 2] [3, 4, 5] 3 rfl hqc (by decide +kernel) rfl hk1 hFc hP1 hD1
        generalize H1 = H at hP hS ⊢
        as_aux_lemma =>
        rcases hw with ⟨h_15, h_16, h_17, h_18, h_19, h_20, h_21⟩ | ⟨h_22, h_23, h_24, h_25, h_26, h_27⟩
        · have h_21 : (r_11, x_12, x_13, x_14) = _ := h_21
          replace hEX := hEX.trans (exc4_eq h_21)
          replace hEX := hEX.trans (if_pos (show x_13 = (-1) from h_17))
          subst h_17
          subst h_18
          have h_20 : x_8.toInt + 0 ≤ x_12.toInt := h_20
          refine lv_i2l (v := r_11.toInt64) hx hb dX12_sum_60 rfl ?_
          refine lv_topl (fun x_28 ex_28 => ?_)
          replace hEX := hEX.trans (exl_eq ex_28)
          have g_29 : LG x_28 (-2147483648) 2147483647 := LG_i2l ex_28 h_15
          refine lv_lstore_n (lv' := [(3, .long x_28), (2, .int 0), (1, .int j5_l1), (0, .ref h0)]) hx hb dX12_sum_61 rfl hl (Nat.le_of_ble_eq_true rfl) rfl (fun ls hl => ?_)
          refine lv_iload_n hx hb dX12_sum_62 rfl (lv_at hl 1 rfl) ?_
          refine lv_if_eq (tgt := 73) hx hb dX12_sum_63 rfl (fun c_30 => ?_) (fun c_30 => absurd c_30 (by decide +kernel))
          refine lv_iload_n hx hb dX12_sum_73 rfl (lv_at hl 2 rfl) ?_
          as_aux_lemma =>
          refine lv_i2l (v := j5_l1.toInt64) hx hb dX12_sum_74 rfl ?_
          refine lv_topl (fun x_31 ex_31 => ?_)
          replace hEX := hEX.trans (exl_eq ex_31)
          have g_32 : LG x_31 (-2147483648) 2147483647 := LG_i2l ex_31 (RG_any j5_l1)
          refine lv_lload_n hx hb dX12_sum_75 rfl (lv_at hl 0 rfl) ?_
          refine lv_lsub hx hb dX12_sum_76 ?_
          refine lv_topl (fun x_33 ex_33 => ?_)
          replace hEX := hEX.trans (exl_eq ex_33)
          have g_34 : LG x_33 (-4294967295) 4294967295 := LG_sub ex_33 g_32 g_29 (by decide +kernel)
          exact hU _ _ _ (J77 x_33 x_12 g_h0_f10 g_h0_f17 g_h0_f26 g_h0_f27 g_h0_f28 g_h0_f29 g_h0_f30 g_h0_f31 g_h0_f34 g_h0_f41 g_h0_f51 g_h0_f53 g_h0_f6 g_h0_f7 g_h0_f8 g_h0_f9 g_j5_h0_f10 h_16 (LG_w g_34 (by decide +kernel)) (by have := r_h0_f10_j45_h0_f10; have := q_10; have := h_20; omega) (by have := r_j5_h0_f10_j45_h0_f10; have := q_10; have := h_20; omega) hEX _ _ _ hP hD hS (lv_sub hl [3] rfl))
        · have h_27 : (r_11, x_12, x_13, x_14) = _ := h_27
          replace hEX := hEX.trans (exc4_eq h_27)
          replace hEX := hEX.trans (if_neg (RG_neq (x := x_13) (c := (-1)) (show RG x_13 0 240 from h_24) (by decide +kernel)))
          have h_26 : x_8.toInt + 0 ≤ x_12.toInt := h_26
          refine lv_i2l (v := r_11.toInt64) hx hb dX12_sum_60 rfl ?_
          as_aux_lemma =>
          refine lv_topl (fun x_35 ex_35 => ?_)
          replace hEX := hEX.trans (exl_eq ex_35)
          have g_36 : LG x_35 0 0 := LG_i2l ex_35 h_22
          refine lv_lstore_n (lv' := [(3, .long x_35), (2, .int 0), (1, .int j5_l1), (0, .ref h0)]) hx hb dX12_sum_61 rfl hl (Nat.le_of_ble_eq_true rfl) rfl (fun ls hl => ?_)
          refine lv_iload_n hx hb dX12_sum_62 rfl (lv_at hl 1 rfl) ?_
          refine lv_if_eq (tgt := 73) hx hb dX12_sum_63 rfl (fun c_37 => ?_) (fun c_37 => absurd c_37 (by decide +kernel))
          refine lv_iload_n hx hb dX12_sum_73 rfl (lv_at hl 2 rfl) ?_
          refine lv_i2l (v := j5_l1.toInt64) hx hb dX12_sum_74 rfl ?_
          refine lv_topl (fun x_38 ex_38 => ?_)
          replace hEX := hEX.trans (exl_eq ex_38)
          have g_39 : LG x_38 (-2147483648) 2147483647 := LG_i2l ex_38 (RG_any j5_l1)
          refine lv_lload_n hx hb dX12_sum_75 rfl (lv_at hl 0 rfl) ?_
          refine lv_lsub hx hb dX12_sum_76 ?_
          refine lv_topl (fun x_40 ex_40 => ?_)
          as_aux_lemma =>
          replace hEX := hEX.trans (exl_eq ex_40)
          have g_41 : LG x_40 (-2147483648) 2147483647 := LG_sub ex_40 g_39 g_36 (by decide +kernel)
          exact hU _ _ _ (J77b x_40 x_12 x_13 x_14 g_h0_f10 g_h0_f17 g_h0_f26 g_h0_f27 g_h0_f28 g_h0_f29 g_h0_f30 g_h0_f31 g_h0_f34 g_h0_f41 g_h0_f51 g_h0_f53 g_h0_f6 g_h0_f7 g_h0_f8 g_h0_f9 h_23 h_24 h_25 g_41 (by have := r_h0_f10_j45_h0_f10; have := q_10; have := h_26; omega) hEX _ _ _ hP hD hS (lv_sub hl [3] rfl))
      have J45b : ∀ (j45b_h0_f10 : Int32) (g_h0_f10 : RG h0_f10 0 240) (g_h0_f17 : RG h0_f17 0 1) (g_h0_f26 : RG h0_f26 0 8) (g_h0_f27 : RG h0_f27 0 3) (g_h0_f28 : RG h0_f28 0 8) (g_h0_f29 : RG h0_f29 0 3) (g_h0_f30 : RG h0_f30 0 4) (g_h0_f31 : RG h0_f31 0 1) (g_h0_f34 : RG h0_f34 (-1) 3) (g_h0_f41 : RG h0_f41 0 40) (g_h0_f51 : RG h0_f51 0 10) (g_h0_f53 : RG h0_f53 0 1) (g_h0_f6 : RG h0_f6 0 240) (g_h0_f7 : RG h0_f7 0 4) (g_h0_f8 : RG h0_f8 0 720) (g_h0_f9 : RG h0_f9 1 240) (g_j45b_h0_f10 : RG j45b_h0_f10 0 239) (g_j5_h0_f10 : RG j5_h0_f10 0 240) (r_h0_f10_j45b_h0_f10 : h0_f10.toInt + 0 ≤ j45b_h0_f10.toInt) (r_j5_h0_f10_j45b_h0_f10 : j5_h0_f10.toInt + 0 ≤ j45b_h0_f10.toInt) (hEX : RES = fx_c_X12_sum_p45b h0_f8 h0_f9 h0_5c h0_4c j5_l1 (fx_c_X12_sum_p5 h0_f8 h0_f9 h0_5c h0_4c n5) j45b_h0_f10) (H : Heap) (locs : List Loc) (ls : Array Slot) (hP : va_P (dC, dI) vwCl (wd_c_X12_sum h0 h0_f0 h0_1 h0_2 h0_3 h0_4 h0_5 h0_f6 h0_f7 h0_f8 h0_f9 j45b_h0_f10 (-1) 0 h0_f13 h0_f14 h0_15 h0_16 h0_f17 h0_18 h0_19 h0_20 h0_21 h0_22 h0_23 h0_24 h0_25 h0_f26 h0_f27 h0_f28 h0_f29 h0_f30 h0_f31 h0_32 h0_33 h0_f34 h0_35 h0_36 h0_37 h0_38 h0_39 h0_40 h0_f41 h0_f42 h0_f43 h0_f44 h0_45 h0_46 h0_47 h0_48 h0_49 h0_50 h0_f51 h0_52 h0_f53 h0_5 h0_5k tN h0_5c h0_4 h0_4k h0_4c) H) (hD : va_D A (wd_c_X12_sum h0 h0_f0 h0_1 h0_2 h0_3 h0_4 h0_5 h0_f6 h0_f7 h0_f8 h0_f9 j45b_h0_f10 (-1) 0 h0_f13 h0_f14 h0_15 h0_16 h0_f17 h0_18 h0_19 h0_20 h0_21 h0_22 h0_23 h0_24 h0_25 h0_f26 h0_f27 h0_f28 h0_f29 h0_f30 h0_f31 h0_32 h0_33 h0_f34 h0_35 h0_36 h0_37 h0_38 h0_39 h0_40 h0_f41 h0_f42 h0_f43 h0_f44 h0_45 h0_46 h0_47 h0_48 h0_49 h0_50 h0_f51 h0_52 h0_f53 h0_5 h0_5k tN h0_5c h0_4 h0_4k h0_4c)) (hS : va_S A s.heap H locs) (hl : lv_has ls 5 [(1, .int j5_l1), (0, .ref h0)]), G H locs (F0 m 45 ls [.int 1]) := by
        as_aux_lemma =>
        intro j45b_h0_f10 g_h0_f10 g_h0_f17 g_h0_f26 g_h0_f27 g_h0_f28 g_h0_f29 g_h0_f30 g_h0_f31 g_h0_f34 g_h0_f41 g_h0_f51 g_h0_f53 g_h0_f6 g_h0_f7 g_h0_f8 g_h0_f9 g_j45b_h0_f10 g_j5_h0_f10 r_h0_f10_j45b_h0_f10 r_j5_h0_f10_j45b_h0_f10 hEX H locs ls hP hD hS hl
        refine hG _ _ _ ?_
        refine lv_istore_n (lv' := [(2, .int 1), (1, .int j5_l1), (0, .ref h0)]) hx hb dX12_sum_45 rfl hl (Nat.le_of_ble_eq_true rfl) rfl (fun ls hl => ?_)
        refine lv_aload_n hx hb dX12_sum_46 rfl (lv_at hl 2 rfl) ?_
        refine lv_dup hx hb dX12_sum_47 rfl ?_
        refine va_get (D := (dC, dI)) (ci := 12) (v := .int j45b_h0_f10) (C := RX12) (T := TX12) (N := 54) hx hb hts iw_c_X12_sum_X12 hown hK hP 0 rfl rfl 10 (by decide +kernel) (hts (.fieldLink RX12 134 "BuoyVoteModel" "at" "I") (List.mem_of_getElem? (i := 14) rfl)) (fun _ h9 => h9) rfl dX12_sum_48 ?_
        refine lv_iconst (v := 1) hx hb dX12_sum_51 kc_iconst_1 ?_
        refine lv_iadd hx hb dX12_sum_52 ?_
        refine lv_topi (fun x_42 ex_42 => ?_)
        replace hEX := hEX.trans (exl_eq ex_42)
        have g_43 : RG x_42 1 240 := RG_add ex_42 g_j45b_h0_f10 (RG_k 1 1 rfl) (by decide +kernel)
        have q_44 : x_42.toInt = j45b_h0_f10.toInt + 1 := eq_add ex_42 g_j45b_h0_f10 (q := 1) rfl (by decide +kernel)
        refine va_put (D := (dC, dI)) (ci := 12) (v := .int x_42) (ty := .int) (C := RX12) (T := TX12) (N := 54) hx hb hts iw_c_X12_sum_X12 tyX12 tyX12_ok nmX12 hown hK hP hD hS 0 rfl rfl 10 (by decide +kernel) (hts (.fieldLink RX12 134 "BuoyVoteModel" "at" "I") (List.mem_of_getElem? (i := 14) rfl)) (fun _ h9 => h9) rfl (by decide +kernel) rfl rfl (Nat.le_of_ble_eq_true rfl) dX12_sum_53 (fun H locs hP hD hS => ?_)
        have hP : va_P (dC, dI) vwCl (wd_c_X12_sum h0 h0_f0 h0_1 h0_2 h0_3 h0_4 h0_5 h0_f6 h0_f7 h0_f8 h0_f9 x_42 (-1) 0 h0_f13 h0_f14 h0_15 h0_16 h0_f17 h0_18 h0_19 h0_20 h0_21 h0_22 h0_23 h0_24 h0_25 h0_f26 h0_f27 h0_f28 h0_f29 h0_f30 h0_f31 h0_32 h0_33 h0_f34 h0_35 h0_36 h0_37 h0_38 h0_39 h0_40 h0_f41 h0_f42 h0_f43 h0_f44 h0_45 h0_46 h0_47 h0_48 h0_49 h0_50 h0_f51 h0_52 h0_f53 h0_5 h0_5k tN h0_5c h0_4 h0_4k h0_4c) H := hP
        have hD : va_D A (wd_c_X12_sum h0 h0_f0 h0_1 h0_2 h0_3 h0_4 h0_5 h0_f6 h0_f7 h0_f8 h0_f9 x_42 (-1) 0 h0_f13 h0_f14 h0_15 h0_16 h0_f17 h0_18 h0_19 h0_20 h0_21 h0_22 h0_23 h0_24 h0_25 h0_f26 h0_f27 h0_f28 h0_f29 h0_f30 h0_f31 h0_32 h0_33 h0_f34 h0_35 h0_36 h0_37 h0_38 h0_39 h0_40 h0_f41 h0_f42 h0_f43 h0_f44 h0_45 h0_46 h0_47 h0_48 h0_49 h0_50 h0_f51 h0_52 h0_f53 h0_5 h0_5k tN h0_5c h0_4 h0_4k h0_4c) := hD
        refine lv_aload_n hx hb dX12_sum_56 rfl (lv_at hl 2 rfl) ?_
        as_aux_lemma =>
        obtain ⟨hPc, hDc, hFc, hqc⟩ := cl_cut (wc := (wd_c_X12_term h0 h0_f0 h0_1 h0_2 h0_3 h0_4 h0_5 h0_f6 h0_f7 h0_f8 h0_f9 x_42 (-1) 0 h0_f13 h0_f14 h0_15 h0_16 h0_f17 h0_18 h0_19 h0_20 h0_21 h0_22 h0_23 h0_24 h0_25 h0_f26 h0_f27 h0_f28 h0_f29 h0_f30 h0_f31 h0_32 h0_33 h0_f34 h0_35 h0_36 h0_37 h0_38 h0_39 h0_40 h0_f41 h0_f42 h0_f43 h0_f44 h0_45 h0_46 h0_47 h0_48 h0_49 h0_50 h0_f51 h0_52 h0_f53 h0_5 h0_5k tN h0_5c h0_4 h0_4k h0_4c)) hP hD hS hA [0, 1, 2] (by decide +kernel) rfl
        have hKc := hK.sub (tys' := [(h0_5k, .byte), (h0_4k, .int)]) [0, 1] rfl
        have hrv := va_recv hKc hPc (ci := 12) (q0 := 0) rfl rfl
        refine va_calli (va_runV (As := []) (rest := []) ⟨hx, hb, hml, hown, hts⟩ (c_X12_term l dC dI H.size h0 h0_f0 h0_1 h0_2 h0_3 h0_4 h0_5 h0_f6 h0_f7 h0_f8 h0_f9 x_42 h0_f13 h0_f14 h0_15 h0_16 h0_f17 h0_18 h0_19 h0_20 h0_21 h0_22 h0_23 h0_24 h0_25 h0_f26 h0_f27 h0_f28 h0_f29 h0_f30 h0_f31 h0_32 h0_33 h0_f34 h0_35 h0_36 h0_37 h0_38 h0_39 h0_40 h0_f41 h0_f42 h0_f43 h0_f44 h0_45 h0_46 h0_47 h0_48 h0_49 h0_50 h0_f51 h0_52 h0_f53 h0_5k h0_5c tN h0_4k h0_4c ts7 tv7 g_h0_f6 g_h0_f7 g_h0_f8 (RG_w g_h0_f9 (by decide +kernel)) (RG_w g_43 (by decide +kernel)) g_h0_f17 g_h0_f26 g_h0_f27 g_h0_f28 g_h0_f29 g_h0_f30 g_h0_f31 g_h0_f34 g_h0_f41 g_h0_f51 g_h0_f53 htN a_h0_4c) (cwV 0 hts gf_c_X12_sum_c_X12_term rfl rfl rfl mdV_X12_term ⟨Nat.le_of_ble_eq_true rfl, Nat.le_of_ble_eq_true rfl⟩) ⟨fun a U g mk q => by obtain ⟨q0, q1, qP, qK, qD, qE0, qE1, qE2, qE3, qE4, qE5, qE6⟩ := q; exact ⟨q0, q1, qP, va_K.moved (u := U) (U := U.calling g mk a) (Vm.Alike.refl U.vm) qK, qD, vk_R.same rfl qE0, va_OF.moved (u := U) (U := U.calling g mk a) (Vm.Alike.refl U.vm) qE1, va_T.moved (u := U) (U := U.calling g mk a) (Vm.Alike.refl U.vm) qE2, va_Z.moved (u := U) (U := U.calling g mk a) (Vm.Alike.refl U.vm) qE3, va_OF.moved (u := U) (U := U.calling g mk a) (Vm.Alike.refl U.vm) qE4, va_O.moved (u := U) (U := U.calling g mk a) (Vm.Alike.refl U.vm) qE5, va_Zq.moved (u := U) (U := U.calling g mk a) (Vm.Alike.refl U.vm) qE6⟩, hrv, fun U hU hW => ⟨rfl, by rw [hU], by rw [hU]; exact hPc, va_K.moved hW.alike hKc, hDc.weaken (fun _ _ _ _ => trivial), vk_R.warm hW hE_47, va_OF.moved hW.alike (by rw [hU]; exact (hE_50.kept hS.2.1).narrow hFc), va_T.moved hW.alike (by rw [hU]; exact (hE_51.kept hS.2.1).narrow hFc), va_Z.moved hW.alike (by rw [hU]; exact (hE_10.kept hS.2.1).narrow hFc), va_OF.moved hW.alike (by rw [hU]; exact (hE_49.kept hS.2.1).narrow hFc), va_O.moved hW.alike (by rw [hU]; exact (hE_48.kept hS.2.1).narrow hFc), va_Zq.moved hW.alike (by rw [hU]; exact (hE_11.kept hS.2.1).narrow hFc)⟩⟩ rfl rfl hl.1 rfl (lv_room (Nat.le_of_ble_eq_true rfl)) dX12_sum_57 ⟨Nat.le_of_ble_eq_true rfl, Nat.le_of_ble_eq_true rfl⟩) hS (fun q _ h => hFc q h) hFc (fun r_45 u t H1 locs ht hvm hw hB hz1 hk1 hS => ?_)
        obtain ⟨x_46, x_47, x_48⟩ := u
        obtain ⟨hP1, hK1, hD1⟩ := hB
        rw [ht] at hP1
        obtain ⟨hP, hD⟩ := cl_put (w1 := (wd_c_X12_term h0 h0_f0 h0_1 h0_2 h0_3 h0_4 h0_5 h0_f6 h0_f7 h0_f8 h0_f9 x_46 x_47 x_48 h0_f13 h0_f14 h0_15 h0_16 h0_f17 h0_18 h0_19 h0_20 h0_21 h0_22 h0_23 h0_24 h0_25 h0_f26 h0_f27 h0_f28 h0_f29 h0_f30 h0_f31 h0_32 h0_33 h0_f34 h0_35 h0_36 h0_37 h0_38 h0_39 h0_40 h0_f41 h0_f42 h0_f43 h0_f44 h0_45 h0_46 h0_47 h0_48 h0_49 h0_50 h0_f51 h0_52 h0_f53 h0_5 h0_5k tN h0_5c h0_4 h0_4k h0_4c)) (nw := (wd_c_X12_sum h0 h0_f0 h0_1 h0_2 h0_3 h0_4 h0_5 h0_f6 h0_f7 h0_f8 h0_f9 x_46 x_47 x_48 h0_f13 h0_f14 h0_15 h0_16 h0_f17 h0_18 h0_19 h0_20 h0_21 h0_22 h0_23 h0_24 h0_25 h0_f26 h0_f27 h0_f28 h0_f29 h0_f30 h0_f31 h0_32 h0_33 h0_f34 h0_35 h0_36 h0_37 h0_38 h0_39 h0_40 h0_f41 h0_f42 h0_f43 h0_f44 h0_45 h0_46 h0_47 h0_48 h0_49 h0_50 h0_f51 h0_52 h0_f53 h0_5 h0_5k tN h0_5c h0_4 h0_4k h0_4c)) hP hD [0, 1, 2] [3, 4, 5] 3 rfl hqc (by decide +kernel) rfl hk1 hFc hP1 hD1
        generalize H1 = H at hP hS ⊢
        as_aux_lemma =>
        rcases hw with ⟨h_49, h_50, h_51, h_52, h_53, h_54, h_55⟩ | ⟨h_56, h_57, h_58, h_59, h_60, h_61⟩
        · have h_55 : (r_45, x_46, x_47, x_48) = _ := h_55
          replace hEX := hEX.trans (exc4_eq h_55)
          replace hEX := hEX.trans (if_pos (show x_47 = (-1) from h_51))
          subst h_51
          subst h_52
          have h_54 : x_42.toInt + 0 ≤ x_46.toInt := h_54
          refine lv_i2l (v := r_45.toInt64) hx hb dX12_sum_60 rfl ?_
          refine lv_topl (fun x_62 ex_62 => ?_)
          replace hEX := hEX.trans (exl_eq ex_62)
          have g_63 : LG x_62 (-2147483648) 2147483647 := LG_i2l ex_62 h_49
          refine lv_lstore_n (lv' := [(3, .long x_62), (2, .int 1), (1, .int j5_l1), (0, .ref h0)]) hx hb dX12_sum_61 rfl hl (Nat.le_of_ble_eq_true rfl) rfl (fun ls hl => ?_)
          refine lv_iload_n hx hb dX12_sum_62 rfl (lv_at hl 1 rfl) ?_
          refine lv_if_eq (tgt := 73) hx hb dX12_sum_63 rfl (fun c_64 => absurd c_64 (by decide +kernel)) (fun c_64 => ?_)
          as_aux_lemma =>
          refine lv_iload_n hx hb dX12_sum_66 rfl (lv_at hl 2 rfl) ?_
          refine lv_i2l (v := j5_l1.toInt64) hx hb dX12_sum_67 rfl ?_
          refine lv_topl (fun x_65 ex_65 => ?_)
          replace hEX := hEX.trans (exl_eq ex_65)
          have g_66 : LG x_65 (-2147483648) 2147483647 := LG_i2l ex_65 (RG_any j5_l1)
          refine lv_lload_n hx hb dX12_sum_68 rfl (lv_at hl 0 rfl) ?_
          refine lv_ladd hx hb dX12_sum_69 ?_
          refine lv_topl (fun x_67 ex_67 => ?_)
          replace hEX := hEX.trans (exl_eq ex_67)
          have g_68 : LG x_67 (-4294967296) 4294967294 := LG_add ex_67 g_66 g_63 (by decide +kernel)
          refine lv_goto (tgt := 77) hx hb dX12_sum_70 rfl ?_
          exact hU _ _ _ (J77 x_67 x_46 g_h0_f10 g_h0_f17 g_h0_f26 g_h0_f27 g_h0_f28 g_h0_f29 g_h0_f30 g_h0_f31 g_h0_f34 g_h0_f41 g_h0_f51 g_h0_f53 g_h0_f6 g_h0_f7 g_h0_f8 g_h0_f9 g_j5_h0_f10 h_50 (LG_w g_68 (by decide +kernel)) (by have := r_h0_f10_j45b_h0_f10; have := q_44; have := h_54; omega) (by have := r_j5_h0_f10_j45b_h0_f10; have := q_44; have := h_54; omega) hEX _ _ _ hP hD hS (lv_sub hl [3] rfl))
        · have h_61 : (r_45, x_46, x_47, x_48) = _ := h_61
          replace hEX := hEX.trans (exc4_eq h_61)
          replace hEX := hEX.trans (if_neg (RG_neq (x := x_47) (c := (-1)) (show RG x_47 0 240 from h_58) (by decide +kernel)))
          have h_60 : x_42.toInt + 0 ≤ x_46.toInt := h_60
          refine lv_i2l (v := r_45.toInt64) hx hb dX12_sum_60 rfl ?_
          as_aux_lemma =>
          refine lv_topl (fun x_69 ex_69 => ?_)
          replace hEX := hEX.trans (exl_eq ex_69)
          have g_70 : LG x_69 0 0 := LG_i2l ex_69 h_56
          refine lv_lstore_n (lv' := [(3, .long x_69), (2, .int 1), (1, .int j5_l1), (0, .ref h0)]) hx hb dX12_sum_61 rfl hl (Nat.le_of_ble_eq_true rfl) rfl (fun ls hl => ?_)
          refine lv_iload_n hx hb dX12_sum_62 rfl (lv_at hl 1 rfl) ?_
          refine lv_if_eq (tgt := 73) hx hb dX12_sum_63 rfl (fun c_71 => absurd c_71 (by decide +kernel)) (fun c_71 => ?_)
          refine lv_iload_n hx hb dX12_sum_66 rfl (lv_at hl 2 rfl) ?_
          refine lv_i2l (v := j5_l1.toInt64) hx hb dX12_sum_67 rfl ?_
          refine lv_topl (fun x_72 ex_72 => ?_)
          replace hEX := hEX.trans (exl_eq ex_72)
          have g_73 : LG x_72 (-2147483648) 2147483647 := LG_i2l ex_72 (RG_any j5_l1)
          refine lv_lload_n hx hb dX12_sum_68 rfl (lv_at hl 0 rfl) ?_
          refine lv_ladd hx hb dX12_sum_69 ?_
          refine lv_topl (fun x_74 ex_74 => ?_)
          as_aux_lemma =>
          replace hEX := hEX.trans (exl_eq ex_74)
          have g_75 : LG x_74 (-2147483648) 2147483647 := LG_add ex_74 g_73 g_70 (by decide +kernel)
          refine lv_goto (tgt := 77) hx hb dX12_sum_70 rfl ?_
          exact hU _ _ _ (J77b x_74 x_46 x_47 x_48 g_h0_f10 g_h0_f17 g_h0_f26 g_h0_f27 g_h0_f28 g_h0_f29 g_h0_f30 g_h0_f31 g_h0_f34 g_h0_f41 g_h0_f51 g_h0_f53 g_h0_f6 g_h0_f7 g_h0_f8 g_h0_f9 h_57 h_58 h_59 g_75 (by have := r_h0_f10_j45b_h0_f10; have := q_44; have := h_60; omega) hEX _ _ _ hP hD hS (lv_sub hl [3] rfl))
      refine hG _ _ _ ?_
      replace hEX := hEX.trans (if_pos (rfl : j5_l1 = j5_l1))
      refine lv_aload_n hx hb dX12_sum_5 rfl (lv_at hl 1 rfl) ?_
      refine va_get (D := (dC, dI)) (ci := 12) (v := .int (-1)) (C := RX12) (T := TX12) (N := 54) hx hb hts iw_c_X12_sum_X12 hown hK hP 0 rfl rfl 11 (by decide +kernel) (hts (.fieldLink RX12 143 "BuoyVoteModel" "fault" "I") (List.mem_of_getElem? (i := 61) rfl)) (fun _ h9 => h9) rfl dX12_sum_6 ?_
      refine lv_iconst (v := (-1)) hx hb dX12_sum_9 kc_iconst_m1 ?_
      refine lv_icmp_ne (tgt := 84) hx hb dX12_sum_10 rfl (fun c_76 => absurd c_76 (by decide +kernel)) (fun c_76 => ?_)
      refine lv_aload_n hx hb dX12_sum_13 rfl (lv_at hl 1 rfl) ?_
      obtain ⟨hPc, hDc, hFc, hqc⟩ := cl_cut (wc := (wd_c_X12_look h0 h0_f0 h0_1 h0_2 h0_3 h0_4 h0_5 h0_f6 h0_f7 h0_f8 h0_f9 j5_h0_f10 (-1) 0 h0_f13 h0_f14 h0_15 h0_16 h0_f17 h0_18 h0_19 h0_20 h0_21 h0_22 h0_23 h0_24 h0_25 h0_f26 h0_f27 h0_f28 h0_f29 h0_f30 h0_f31 h0_32 h0_33 h0_f34 h0_35 h0_36 h0_37 h0_38 h0_39 h0_40 h0_f41 h0_f42 h0_f43 h0_f44 h0_45 h0_46 h0_47 h0_48 h0_49 h0_50 h0_f51 h0_52 h0_f53 h0_5 h0_5k tN h0_5c)) hP hD hS hA [0, 1] (by decide +kernel) rfl
      have hKc := hK.sub (tys' := [(h0_5k, .byte)]) [0] rfl
      have hrv := va_recv hKc hPc (ci := 12) (q0 := 0) rfl rfl
      refine va_calli (va_runV (As := []) (rest := []) ⟨hx, hb, hml, hown, hts⟩ (c_X12_look l dC dI H.size h0 h0_f0 h0_1 h0_2 h0_3 h0_4 h0_5 h0_f6 h0_f7 h0_f8 h0_f9 j5_h0_f10 0 h0_f13 h0_f14 h0_15 h0_16 h0_f17 h0_18 h0_19 h0_20 h0_21 h0_22 h0_23 h0_24 h0_25 h0_f26 h0_f27 h0_f28 h0_f29 h0_f30 h0_f31 h0_32 h0_33 h0_f34 h0_35 h0_36 h0_37 h0_38 h0_39 h0_40 h0_f41 h0_f42 h0_f43 h0_f44 h0_45 h0_46 h0_47 h0_48 h0_49 h0_50 h0_f51 h0_52 h0_f53 h0_5k h0_5c tN g_h0_f6 g_h0_f7 g_h0_f8 (RG_w g_h0_f9 (by decide +kernel)) g_j5_h0_f10 g_h0_f17 g_h0_f26 g_h0_f27 g_h0_f28 g_h0_f29 g_h0_f30 g_h0_f31 g_h0_f34 g_h0_f41 g_h0_f51 g_h0_f53 htN) (cwV 0 hts gf_c_X12_sum_c_X12_look rfl rfl rfl mdV_X12_look ⟨Nat.le_of_ble_eq_true rfl, Nat.le_of_ble_eq_true rfl⟩) ⟨fun a U g mk q => by obtain ⟨q0, q1, qP, qK, qD⟩ := q; exact ⟨q0, q1, qP, va_K.moved (u := U) (U := U.calling g mk a) (Vm.Alike.refl U.vm) qK, qD⟩, hrv, fun U hU hW => ⟨rfl, by rw [hU], by rw [hU]; exact hPc, va_K.moved hW.alike hKc, hDc.weaken (fun _ _ _ _ => trivial)⟩⟩ rfl rfl hl.1 rfl (lv_room (Nat.le_of_ble_eq_true rfl)) dX12_sum_14 ⟨Nat.le_of_ble_eq_true rfl, Nat.le_of_ble_eq_true rfl⟩) hS (fun q _ h => hFc q h) hFc (fun r_77 x_78 t H1 locs ht hvm hw hB hz1 hk1 hS => ?_)
      as_aux_lemma =>
      obtain ⟨hP1, hK1, hD1⟩ := hB
      rw [ht] at hP1
      obtain ⟨hP, hD⟩ := cl_put (w1 := (wd_c_X12_look h0 h0_f0 h0_1 h0_2 h0_3 h0_4 h0_5 h0_f6 h0_f7 h0_f8 h0_f9 x_78 (-1) 0 h0_f13 h0_f14 h0_15 h0_16 h0_f17 h0_18 h0_19 h0_20 h0_21 h0_22 h0_23 h0_24 h0_25 h0_f26 h0_f27 h0_f28 h0_f29 h0_f30 h0_f31 h0_32 h0_33 h0_f34 h0_35 h0_36 h0_37 h0_38 h0_39 h0_40 h0_f41 h0_f42 h0_f43 h0_f44 h0_45 h0_46 h0_47 h0_48 h0_49 h0_50 h0_f51 h0_52 h0_f53 h0_5 h0_5k tN h0_5c)) (nw := (wd_c_X12_sum h0 h0_f0 h0_1 h0_2 h0_3 h0_4 h0_5 h0_f6 h0_f7 h0_f8 h0_f9 x_78 (-1) 0 h0_f13 h0_f14 h0_15 h0_16 h0_f17 h0_18 h0_19 h0_20 h0_21 h0_22 h0_23 h0_24 h0_25 h0_f26 h0_f27 h0_f28 h0_f29 h0_f30 h0_f31 h0_32 h0_33 h0_f34 h0_35 h0_36 h0_37 h0_38 h0_39 h0_40 h0_f41 h0_f42 h0_f43 h0_f44 h0_45 h0_46 h0_47 h0_48 h0_49 h0_50 h0_f51 h0_52 h0_f53 h0_5 h0_5k tN h0_5c h0_4 h0_4k h0_4c)) hP hD [0, 1] [3, 4, 2] 3 rfl hqc (by decide +kernel) rfl hk1 hFc hP1 hD1
      generalize H1 = H at hP hS ⊢
      as_aux_lemma =>
      rcases hw with ⟨h_79, h_80, h_81, h_82, h_83, h_84⟩ | ⟨h_85, h_86, h_87, h_88, h_89, h_90, h_91⟩
      · have h_84 : (r_77, x_78) = _ := h_84
        replace hEX := hEX.trans (exc2_eq h_84)
        replace hEX := hEX.trans (if_pos (show r_77 = (-1) from h_79))
        rw [h_79]
        refine lv_bipush (v := 43) hx hb dX12_sum_17 kc_bipush_43 ?_
        refine lv_icmp_eq (tgt := 31) hx hb dX12_sum_19 rfl (fun c_92 => absurd c_92 (by decide +kernel)) (fun c_92 => ?_)
        refine lv_aload_n hx hb dX12_sum_22 rfl (lv_at hl 1 rfl) ?_
        obtain ⟨hPc, hDc, hFc, hqc⟩ := cl_cut (wc := (wd_c_X12_look h0 h0_f0 h0_1 h0_2 h0_3 h0_4 h0_5 h0_f6 h0_f7 h0_f8 h0_f9 x_78 (-1) 0 h0_f13 h0_f14 h0_15 h0_16 h0_f17 h0_18 h0_19 h0_20 h0_21 h0_22 h0_23 h0_24 h0_25 h0_f26 h0_f27 h0_f28 h0_f29 h0_f30 h0_f31 h0_32 h0_33 h0_f34 h0_35 h0_36 h0_37 h0_38 h0_39 h0_40 h0_f41 h0_f42 h0_f43 h0_f44 h0_45 h0_46 h0_47 h0_48 h0_49 h0_50 h0_f51 h0_52 h0_f53 h0_5 h0_5k tN h0_5c)) hP hD hS hA [0, 1] (by decide +kernel) rfl
        have hKc := hK.sub (tys' := [(h0_5k, .byte)]) [0] rfl
        have hrv := va_recv hKc hPc (ci := 12) (q0 := 0) rfl rfl
        refine va_calli (va_runV (As := []) (rest := []) ⟨hx, hb, hml, hown, hts⟩ (c_X12_look l dC dI H.size h0 h0_f0 h0_1 h0_2 h0_3 h0_4 h0_5 h0_f6 h0_f7 h0_f8 h0_f9 x_78 0 h0_f13 h0_f14 h0_15 h0_16 h0_f17 h0_18 h0_19 h0_20 h0_21 h0_22 h0_23 h0_24 h0_25 h0_f26 h0_f27 h0_f28 h0_f29 h0_f30 h0_f31 h0_32 h0_33 h0_f34 h0_35 h0_36 h0_37 h0_38 h0_39 h0_40 h0_f41 h0_f42 h0_f43 h0_f44 h0_45 h0_46 h0_47 h0_48 h0_49 h0_50 h0_f51 h0_52 h0_f53 h0_5k h0_5c tN g_h0_f6 g_h0_f7 g_h0_f8 (RG_w g_h0_f9 (by decide +kernel)) h_80 g_h0_f17 g_h0_f26 g_h0_f27 g_h0_f28 g_h0_f29 g_h0_f30 g_h0_f31 g_h0_f34 g_h0_f41 g_h0_f51 g_h0_f53 htN) (cwV 0 hts gf_c_X12_sum_c_X12_look rfl rfl rfl mdV_X12_look ⟨Nat.le_of_ble_eq_true rfl, Nat.le_of_ble_eq_true rfl⟩) ⟨fun a U g mk q => by obtain ⟨q0, q1, qP, qK, qD⟩ := q; exact ⟨q0, q1, qP, va_K.moved (u := U) (U := U.calling g mk a) (Vm.Alike.refl U.vm) qK, qD⟩, hrv, fun U hU hW => ⟨rfl, by rw [hU], by rw [hU]; exact hPc, va_K.moved hW.alike hKc, hDc.weaken (fun _ _ _ _ => trivial)⟩⟩ rfl rfl hl.1 rfl (lv_room (Nat.le_of_ble_eq_true rfl)) dX12_sum_23 ⟨Nat.le_of_ble_eq_true rfl, Nat.le_of_ble_eq_true rfl⟩) hS (fun q _ h => hFc q h) hFc (fun r_93 x_94 t H1 locs ht hvm hw hB hz1 hk1 hS => ?_)
        obtain ⟨hP1, hK1, hD1⟩ := hB
        rw [ht] at hP1
        obtain ⟨hP, hD⟩ := cl_put (w1 := (wd_c_X12_look h0 h0_f0 h0_1 h0_2 h0_3 h0_4 h0_5 h0_f6 h0_f7 h0_f8 h0_f9 x_94 (-1) 0 h0_f13 h0_f14 h0_15 h0_16 h0_f17 h0_18 h0_19 h0_20 h0_21 h0_22 h0_23 h0_24 h0_25 h0_f26 h0_f27 h0_f28 h0_f29 h0_f30 h0_f31 h0_32 h0_33 h0_f34 h0_35 h0_36 h0_37 h0_38 h0_39 h0_40 h0_f41 h0_f42 h0_f43 h0_f44 h0_45 h0_46 h0_47 h0_48 h0_49 h0_50 h0_f51 h0_52 h0_f53 h0_5 h0_5k tN h0_5c)) (nw := (wd_c_X12_sum h0 h0_f0 h0_1 h0_2 h0_3 h0_4 h0_5 h0_f6 h0_f7 h0_f8 h0_f9 x_94 (-1) 0 h0_f13 h0_f14 h0_15 h0_16 h0_f17 h0_18 h0_19 h0_20 h0_21 h0_22 h0_23 h0_24 h0_25 h0_f26 h0_f27 h0_f28 h0_f29 h0_f30 h0_f31 h0_32 h0_33 h0_f34 h0_35 h0_36 h0_37 h0_38 h0_39 h0_40 h0_f41 h0_f42 h0_f43 h0_f44 h0_45 h0_46 h0_47 h0_48 h0_49 h0_50 h0_f51 h0_52 h0_f53 h0_5 h0_5k tN h0_5c h0_4 h0_4k h0_4c)) hP hD [0, 1] [3, 4, 2] 3 rfl hqc (by decide +kernel) rfl hk1 hFc hP1 hD1
        generalize H1 = H at hP hS ⊢
        as_aux_lemma =>
        rcases hw with ⟨h_95, h_96, h_97, h_98, h_99, h_100⟩ | ⟨h_101, h_102, h_103, h_104, h_105, h_106, h_107⟩
        · have h_100 : (r_93, x_94) = _ := h_100
          replace hEX := hEX.trans (exc2_eq h_100)
          replace hEX := hEX.trans (if_pos (show r_93 = (-1) from h_95))
          rw [h_95]
          refine lv_bipush (v := 45) hx hb dX12_sum_26 kc_bipush_45 ?_
          refine lv_icmp_ne (tgt := 84) hx hb dX12_sum_28 rfl (fun c_108 => ?_) (fun c_108 => absurd c_108 (by decide +kernel))
          refine lv_iload_n hx hb dX12_sum_84 rfl (lv_at hl 0 rfl) ?_
          have hK9 := hK.sub (tys' := []) [] rfl
          exact W.iret (v := j5_l1) hx hb hr (fun t ht hW => ⟨⟨j5_l1, (x_94, (-1), 0), rfl, (Or.inl ⟨(RG_any j5_l1), h_96, rfl, rfl, g_h0_f9, (by have := r_h0_f10_j5_h0_f10; have := h_81; have := h_97; show h0_f10.toInt + 0 ≤ x_94.toInt; omega), (hR.trans hEX).symm⟩), by rw [ht]; exact hP, va_K.moved hW.alike hK9, hD⟩, hS.F ht⟩) hS.2.2 dX12_sum_85
        · have h_107 : (r_93, x_94) = _ := h_107
          replace hEX := hEX.trans (exc2_eq h_107)
          replace hEX := hEX.trans (if_neg (RG_neq (x := r_93) (c := (-1)) (show RG r_93 0 255 from h_101) (by decide +kernel)))
          have nb_109 := h_106.2.resolve_left (fun q => by have g9 := h_101; rw [q] at g9; exact absurd g9.1 (by decide +kernel))
          refine lv_bipush (v := 45) hx hb dX12_sum_26 kc_bipush_45 ?_
          as_aux_lemma =>
          refine lv_icmp_ne (tgt := 84) hx hb dX12_sum_28 rfl (fun c_110 => ?_) (fun c_110 => ?_)
          · replace hEX := hEX.trans (if_neg c_110)
            refine lv_iload_n hx hb dX12_sum_84 rfl (lv_at hl 0 rfl) ?_
            have hK9 := hK.sub (tys' := []) [] rfl
            exact W.iret (v := j5_l1) hx hb hr (fun t ht hW => ⟨⟨j5_l1, (x_94, (-1), 0), rfl, (Or.inl ⟨(RG_any j5_l1), (RG_w h_102 (by decide +kernel)), rfl, rfl, g_h0_f9, (by have := r_h0_f10_j5_h0_f10; have := h_81; have := h_104; show h0_f10.toInt + 0 ≤ x_94.toInt; omega), (hR.trans hEX).symm⟩), by rw [ht]; exact hP, va_K.moved hW.alike hK9, hD⟩, hS.F ht⟩) hS.2.2 dX12_sum_85
          · replace hEX := hEX.trans (if_pos c_110)
            have g_111 : RG r_93 45 45 := RG_eq1 h_101 (RG_k 45 45 rfl) c_110 (by decide +kernel)
            refine lv_aload_n hx hb dX12_sum_31 rfl (lv_at hl 1 rfl) ?_
            obtain ⟨hPc, hDc, hFc, hqc⟩ := cl_cut (wc := (wd_c_X12_look_1 h0 h0_f0 h0_1 h0_2 h0_3 h0_4 h0_5 h0_f6 h0_f7 h0_f8 h0_f9 x_94 (-1) 0 h0_f13 h0_f14 h0_15 h0_16 h0_f17 h0_18 h0_19 h0_20 h0_21 h0_22 h0_23 h0_24 h0_25 h0_f26 h0_f27 h0_f28 h0_f29 h0_f30 h0_f31 h0_32 h0_33 h0_f34 h0_35 h0_36 h0_37 h0_38 h0_39 h0_40 h0_f41 h0_f42 h0_f43 h0_f44 h0_45 h0_46 h0_47 h0_48 h0_49 h0_50 h0_f51 h0_52 h0_f53 h0_5 h0_5k tN h0_5c)) hP hD hS hA [0, 1] (by decide +kernel) rfl
            have hKc := hK.sub (tys' := [(h0_5k, .byte)]) [0] rfl
            have hrv := va_recv hKc hPc (ci := 12) (q0 := 0) rfl rfl
            refine va_calli (va_runV (As := []) (rest := []) ⟨hx, hb, hml, hown, hts⟩ (c_X12_look_1 l dC dI H.size h0 h0_f0 h0_1 h0_2 h0_3 h0_4 h0_5 h0_f6 h0_f7 h0_f8 h0_f9 x_94 0 h0_f13 h0_f14 h0_15 h0_16 h0_f17 h0_18 h0_19 h0_20 h0_21 h0_22 h0_23 h0_24 h0_25 h0_f26 h0_f27 h0_f28 h0_f29 h0_f30 h0_f31 h0_32 h0_33 h0_f34 h0_35 h0_36 h0_37 h0_38 h0_39 h0_40 h0_f41 h0_f42 h0_f43 h0_f44 h0_45 h0_46 h0_47 h0_48 h0_49 h0_50 h0_f51 h0_52 h0_f53 h0_5k h0_5c tN g_h0_f6 g_h0_f7 g_h0_f8 (RG_w g_h0_f9 (by decide +kernel)) (RG_w h_102 (by decide +kernel)) g_h0_f17 g_h0_f26 g_h0_f27 g_h0_f28 g_h0_f29 g_h0_f30 g_h0_f31 g_h0_f34 g_h0_f41 g_h0_f51 g_h0_f53 htN nb_109 h_105) (cwV 0 hts gf_c_X12_sum_c_X12_look_1 rfl rfl rfl mdV_X12_look ⟨Nat.le_of_ble_eq_true rfl, Nat.le_of_ble_eq_true rfl⟩) ⟨fun a U g mk q => by obtain ⟨q0, q1, qP, qK, qD⟩ := q; exact ⟨q0, q1, qP, va_K.moved (u := U) (U := U.calling g mk a) (Vm.Alike.refl U.vm) qK, qD⟩, hrv, fun U hU hW => ⟨rfl, by rw [hU], by rw [hU]; exact hPc, va_K.moved hW.alike hKc, hDc.weaken (fun _ _ _ _ => trivial)⟩⟩ rfl rfl hl.1 rfl (lv_room (Nat.le_of_ble_eq_true rfl)) dX12_sum_32 ⟨Nat.le_of_ble_eq_true rfl, Nat.le_of_ble_eq_true rfl⟩) hS (fun q _ h => hFc q h) hFc (fun r_112 u t H1 locs ht hvm hw hB hz1 hk1 hS => ?_)
            obtain ⟨hP1, hK1, hD1⟩ := hB
            rw [ht] at hP1
            obtain ⟨hP, hD⟩ := cl_put (w1 := (wd_c_X12_look_1 h0 h0_f0 h0_1 h0_2 h0_3 h0_4 h0_5 h0_f6 h0_f7 h0_f8 h0_f9 x_94 (-1) 0 h0_f13 h0_f14 h0_15 h0_16 h0_f17 h0_18 h0_19 h0_20 h0_21 h0_22 h0_23 h0_24 h0_25 h0_f26 h0_f27 h0_f28 h0_f29 h0_f30 h0_f31 h0_32 h0_33 h0_f34 h0_35 h0_36 h0_37 h0_38 h0_39 h0_40 h0_f41 h0_f42 h0_f43 h0_f44 h0_45 h0_46 h0_47 h0_48 h0_49 h0_50 h0_f51 h0_52 h0_f53 h0_5 h0_5k tN h0_5c)) (nw := (wd_c_X12_sum h0 h0_f0 h0_1 h0_2 h0_3 h0_4 h0_5 h0_f6 h0_f7 h0_f8 h0_f9 x_94 (-1) 0 h0_f13 h0_f14 h0_15 h0_16 h0_f17 h0_18 h0_19 h0_20 h0_21 h0_22 h0_23 h0_24 h0_25 h0_f26 h0_f27 h0_f28 h0_f29 h0_f30 h0_f31 h0_32 h0_33 h0_f34 h0_35 h0_36 h0_37 h0_38 h0_39 h0_40 h0_f41 h0_f42 h0_f43 h0_f44 h0_45 h0_46 h0_47 h0_48 h0_49 h0_50 h0_f51 h0_52 h0_f53 h0_5 h0_5k tN h0_5c h0_4 h0_4k h0_4c)) hP hD [0, 1] [3, 4, 2] 3 rfl hqc (by decide +kernel) rfl hk1 hFc hP1 hD1
            generalize H1 = H at hP hS ⊢
            as_aux_lemma =>
            rcases hw with ⟨h_113, h_114, h_115, h_116⟩ | ⟨h_117, h_118, h_119, h_120, h_121, h_122⟩
            · have h_116 : r_112 = _ := h_116
              replace hEX := hEX.trans (exc1_eq h_116)
              replace hEX := hEX.trans (if_pos (show r_112 = (-1) from h_113))
              rw [h_113]
              exfalso
              have := h_114
              have := h_105
              omega
            · have h_122 : r_112 = _ := h_122
              replace hEX := hEX.trans (exc1_eq h_122)
              replace hEX := hEX.trans (if_neg (RG_neq (x := r_112) (c := (-1)) (show RG r_112 0 255 from h_117) (by decide +kernel)))
              have nb_123 := h_121.2.resolve_left (fun q => by have g9 := h_117; rw [q] at g9; exact absurd g9.1 (by decide +kernel))
              refine lv_bipush (v := 43) hx hb dX12_sum_35 kc_bipush_43 ?_
              as_aux_lemma =>
              refine lv_icmp_ne (tgt := 44) hx hb dX12_sum_37 rfl (fun c_124 => ?_) (fun c_124 => ?_)
              · replace hEX := hEX.trans (if_neg c_124)
                refine lv_iconst (v := 0) hx hb dX12_sum_44 kc_iconst_0 ?_
                exact hU _ _ _ (J45 x_94 g_h0_f10 g_h0_f17 g_h0_f26 g_h0_f27 g_h0_f28 g_h0_f29 g_h0_f30 g_h0_f31 g_h0_f34 g_h0_f41 g_h0_f51 g_h0_f53 g_h0_f6 g_h0_f7 g_h0_f8 g_h0_f9 h_102 g_j5_h0_f10 (by have := r_h0_f10_j5_h0_f10; have := h_81; have := h_104; omega) (by have := h_81; have := h_104; omega) hEX _ _ _ hP hD hS (lv_sub hl [0, 1] rfl))
              · replace hEX := hEX.trans (if_pos c_124)
                have g_125 : RG r_112 43 43 := RG_eq1 h_117 (RG_k 43 43 rfl) c_124 (by decide +kernel)
                refine lv_iconst (v := 1) hx hb dX12_sum_40 kc_iconst_1 ?_
                refine lv_goto (tgt := 45) hx hb dX12_sum_41 rfl ?_
                exact hU _ _ _ (J45b x_94 g_h0_f10 g_h0_f17 g_h0_f26 g_h0_f27 g_h0_f28 g_h0_f29 g_h0_f30 g_h0_f31 g_h0_f34 g_h0_f41 g_h0_f51 g_h0_f53 g_h0_f6 g_h0_f7 g_h0_f8 g_h0_f9 h_102 g_j5_h0_f10 (by have := r_h0_f10_j5_h0_f10; have := h_81; have := h_104; omega) (by have := h_81; have := h_104; omega) hEX _ _ _ hP hD hS (lv_sub hl [0, 1] rfl))
      · have h_91 : (r_77, x_78) = _ := h_91
        replace hEX := hEX.trans (exc2_eq h_91)
        replace hEX := hEX.trans (if_neg (RG_neq (x := r_77) (c := (-1)) (show RG r_77 0 255 from h_85) (by decide +kernel)))
        have nb_126 := h_90.2.resolve_left (fun q => by have g9 := h_85; rw [q] at g9; exact absurd g9.1 (by decide +kernel))
        refine lv_bipush (v := 43) hx hb dX12_sum_17 kc_bipush_43 ?_
        as_aux_lemma =>
        refine lv_icmp_eq (tgt := 31) hx hb dX12_sum_19 rfl (fun c_127 => ?_) (fun c_127 => ?_)
        · replace hEX := hEX.trans (if_pos c_127)
          have g_128 : RG r_77 43 43 := RG_eq1 h_85 (RG_k 43 43 rfl) c_127 (by decide +kernel)
          refine lv_aload_n hx hb dX12_sum_31 rfl (lv_at hl 1 rfl) ?_
          obtain ⟨hPc, hDc, hFc, hqc⟩ := cl_cut (wc := (wd_c_X12_look_1 h0 h0_f0 h0_1 h0_2 h0_3 h0_4 h0_5 h0_f6 h0_f7 h0_f8 h0_f9 x_78 (-1) 0 h0_f13 h0_f14 h0_15 h0_16 h0_f17 h0_18 h0_19 h0_20 h0_21 h0_22 h0_23 h0_24 h0_25 h0_f26 h0_f27 h0_f28 h0_f29 h0_f30 h0_f31 h0_32 h0_33 h0_f34 h0_35 h0_36 h0_37 h0_38 h0_39 h0_40 h0_f41 h0_f42 h0_f43 h0_f44 h0_45 h0_46 h0_47 h0_48 h0_49 h0_50 h0_f51 h0_52 h0_f53 h0_5 h0_5k tN h0_5c)) hP hD hS hA [0, 1] (by decide +kernel) rfl
          have hKc := hK.sub (tys' := [(h0_5k, .byte)]) [0] rfl
          have hrv := va_recv hKc hPc (ci := 12) (q0 := 0) rfl rfl
          refine va_calli (va_runV (As := []) (rest := []) ⟨hx, hb, hml, hown, hts⟩ (c_X12_look_1 l dC dI H.size h0 h0_f0 h0_1 h0_2 h0_3 h0_4 h0_5 h0_f6 h0_f7 h0_f8 h0_f9 x_78 0 h0_f13 h0_f14 h0_15 h0_16 h0_f17 h0_18 h0_19 h0_20 h0_21 h0_22 h0_23 h0_24 h0_25 h0_f26 h0_f27 h0_f28 h0_f29 h0_f30 h0_f31 h0_32 h0_33 h0_f34 h0_35 h0_36 h0_37 h0_38 h0_39 h0_40 h0_f41 h0_f42 h0_f43 h0_f44 h0_45 h0_46 h0_47 h0_48 h0_49 h0_50 h0_f51 h0_52 h0_f53 h0_5k h0_5c tN g_h0_f6 g_h0_f7 g_h0_f8 (RG_w g_h0_f9 (by decide +kernel)) (RG_w h_86 (by decide +kernel)) g_h0_f17 g_h0_f26 g_h0_f27 g_h0_f28 g_h0_f29 g_h0_f30 g_h0_f31 g_h0_f34 g_h0_f41 g_h0_f51 g_h0_f53 htN nb_126 h_89) (cwV 0 hts gf_c_X12_sum_c_X12_look_1 rfl rfl rfl mdV_X12_look ⟨Nat.le_of_ble_eq_true rfl, Nat.le_of_ble_eq_true rfl⟩) ⟨fun a U g mk q => by obtain ⟨q0, q1, qP, qK, qD⟩ := q; exact ⟨q0, q1, qP, va_K.moved (u := U) (U := U.calling g mk a) (Vm.Alike.refl U.vm) qK, qD⟩, hrv, fun U hU hW => ⟨rfl, by rw [hU], by rw [hU]; exact hPc, va_K.moved hW.alike hKc, hDc.weaken (fun _ _ _ _ => trivial)⟩⟩ rfl rfl hl.1 rfl (lv_room (Nat.le_of_ble_eq_true rfl)) dX12_sum_32 ⟨Nat.le_of_ble_eq_true rfl, Nat.le_of_ble_eq_true rfl⟩) hS (fun q _ h => hFc q h) hFc (fun r_129 u t H1 locs ht hvm hw hB hz1 hk1 hS => ?_)
          obtain ⟨hP1, hK1, hD1⟩ := hB
          rw [ht] at hP1
          obtain ⟨hP, hD⟩ := cl_put (w1 := (wd_c_X12_look_1 h0 h0_f0 h0_1 h0_2 h0_3 h0_4 h0_5 h0_f6 h0_f7 h0_f8 h0_f9 x_78 (-1) 0 h0_f13 h0_f14 h0_15 h0_16 h0_f17 h0_18 h0_19 h0_20 h0_21 h0_22 h0_23 h0_24 h0_25 h0_f26 h0_f27 h0_f28 h0_f29 h0_f30 h0_f31 h0_32 h0_33 h0_f34 h0_35 h0_36 h0_37 h0_38 h0_39 h0_40 h0_f41 h0_f42 h0_f43 h0_f44 h0_45 h0_46 h0_47 h0_48 h0_49 h0_50 h0_f51 h0_52 h0_f53 h0_5 h0_5k tN h0_5c)) (nw := (wd_c_X12_sum h0 h0_f0 h0_1 h0_2 h0_3 h0_4 h0_5 h0_f6 h0_f7 h0_f8 h0_f9 x_78 (-1) 0 h0_f13 h0_f14 h0_15 h0_16 h0_f17 h0_18 h0_19 h0_20 h0_21 h0_22 h0_23 h0_24 h0_25 h0_f26 h0_f27 h0_f28 h0_f29 h0_f30 h0_f31 h0_32 h0_33 h0_f34 h0_35 h0_36 h0_37 h0_38 h0_39 h0_40 h0_f41 h0_f42 h0_f43 h0_f44 h0_45 h0_46 h0_47 h0_48 h0_49 h0_50 h0_f51 h0_52 h0_f53 h0_5 h0_5k tN h0_5c h0_4 h0_4k h0_4c)) hP hD [0, 1] [3, 4, 2] 3 rfl hqc (by decide +kernel) rfl hk1 hFc hP1 hD1
          generalize H1 = H at hP hS ⊢
          as_aux_lemma =>
          rcases hw with ⟨h_130, h_131, h_132, h_133⟩ | ⟨h_134, h_135, h_136, h_137, h_138, h_139⟩
          · have h_133 : r_129 = _ := h_133
            replace hEX := hEX.trans (exc1_eq h_133)
            replace hEX := hEX.trans (if_pos (show r_129 = (-1) from h_130))
            rw [h_130]
            exfalso
            have := h_131
            have := h_89
            omega
          · have h_139 : r_129 = _ := h_139
            replace hEX := hEX.trans (exc1_eq h_139)
            replace hEX := hEX.trans (if_neg (RG_neq (x := r_129) (c := (-1)) (show RG r_129 0 255 from h_134) (by decide +kernel)))
            have nb_140 := h_138.2.resolve_left (fun q => by have g9 := h_134; rw [q] at g9; exact absurd g9.1 (by decide +kernel))
            refine lv_bipush (v := 43) hx hb dX12_sum_35 kc_bipush_43 ?_
            as_aux_lemma =>
            refine lv_icmp_ne (tgt := 44) hx hb dX12_sum_37 rfl (fun c_141 => ?_) (fun c_141 => ?_)
            · replace hEX := hEX.trans (if_neg c_141)
              refine lv_iconst (v := 0) hx hb dX12_sum_44 kc_iconst_0 ?_
              exact hU _ _ _ (J45 x_78 g_h0_f10 g_h0_f17 g_h0_f26 g_h0_f27 g_h0_f28 g_h0_f29 g_h0_f30 g_h0_f31 g_h0_f34 g_h0_f41 g_h0_f51 g_h0_f53 g_h0_f6 g_h0_f7 g_h0_f8 g_h0_f9 h_86 g_j5_h0_f10 (by have := r_h0_f10_j5_h0_f10; have := h_88; omega) (by have := h_88; omega) hEX _ _ _ hP hD hS (lv_sub hl [0, 1] rfl))
            · replace hEX := hEX.trans (if_pos c_141)
              have g_142 : RG r_129 43 43 := RG_eq1 h_134 (RG_k 43 43 rfl) c_141 (by decide +kernel)
              refine lv_iconst (v := 1) hx hb dX12_sum_40 kc_iconst_1 ?_
              refine lv_goto (tgt := 45) hx hb dX12_sum_41 rfl ?_
              exact hU _ _ _ (J45b x_78 g_h0_f10 g_h0_f17 g_h0_f26 g_h0_f27 g_h0_f28 g_h0_f29 g_h0_f30 g_h0_f31 g_h0_f34 g_h0_f41 g_h0_f51 g_h0_f53 g_h0_f6 g_h0_f7 g_h0_f8 g_h0_f9 h_86 g_j5_h0_f10 (by have := r_h0_f10_j5_h0_f10; have := h_88; omega) (by have := h_88; omega) hEX _ _ _ hP hD hS (lv_sub hl [0, 1] rfl))
        · replace hEX := hEX.trans (if_neg c_127)
          refine lv_aload_n hx hb dX12_sum_22 rfl (lv_at hl 1 rfl) ?_
          obtain ⟨hPc, hDc, hFc, hqc⟩ := cl_cut (wc := (wd_c_X12_look_1 h0 h0_f0 h0_1 h0_2 h0_3 h0_4 h0_5 h0_f6 h0_f7 h0_f8 h0_f9 x_78 (-1) 0 h0_f13 h0_f14 h0_15 h0_16 h0_f17 h0_18 h0_19 h0_20 h0_21 h0_22 h0_23 h0_24 h0_25 h0_f26 h0_f27 h0_f28 h0_f29 h0_f30 h0_f31 h0_32 h0_33 h0_f34 h0_35 h0_36 h0_37 h0_38 h0_39 h0_40 h0_f41 h0_f42 h0_f43 h0_f44 h0_45 h0_46 h0_47 h0_48 h0_49 h0_50 h0_f51 h0_52 h0_f53 h0_5 h0_5k tN h0_5c)) hP hD hS hA [0, 1] (by decide +kernel) rfl
          have hKc := hK.sub (tys' := [(h0_5k, .byte)]) [0] rfl
          have hrv := va_recv hKc hPc (ci := 12) (q0 := 0) rfl rfl
          refine va_calli (va_runV (As := []) (rest := []) ⟨hx, hb, hml, hown, hts⟩ (c_X12_look_1 l dC dI H.size h0 h0_f0 h0_1 h0_2 h0_3 h0_4 h0_5 h0_f6 h0_f7 h0_f8 h0_f9 x_78 0 h0_f13 h0_f14 h0_15 h0_16 h0_f17 h0_18 h0_19 h0_20 h0_21 h0_22 h0_23 h0_24 h0_25 h0_f26 h0_f27 h0_f28 h0_f29 h0_f30 h0_f31 h0_32 h0_33 h0_f34 h0_35 h0_36 h0_37 h0_38 h0_39 h0_40 h0_f41 h0_f42 h0_f43 h0_f44 h0_45 h0_46 h0_47 h0_48 h0_49 h0_50 h0_f51 h0_52 h0_f53 h0_5k h0_5c tN g_h0_f6 g_h0_f7 g_h0_f8 (RG_w g_h0_f9 (by decide +kernel)) (RG_w h_86 (by decide +kernel)) g_h0_f17 g_h0_f26 g_h0_f27 g_h0_f28 g_h0_f29 g_h0_f30 g_h0_f31 g_h0_f34 g_h0_f41 g_h0_f51 g_h0_f53 htN nb_126 h_89) (cwV 0 hts gf_c_X12_sum_c_X12_look_1 rfl rfl rfl mdV_X12_look ⟨Nat.le_of_ble_eq_true rfl, Nat.le_of_ble_eq_true rfl⟩) ⟨fun a U g mk q => by obtain ⟨q0, q1, qP, qK, qD⟩ := q; exact ⟨q0, q1, qP, va_K.moved (u := U) (U := U.calling g mk a) (Vm.Alike.refl U.vm) qK, qD⟩, hrv, fun U hU hW => ⟨rfl, by rw [hU], by rw [hU]; exact hPc, va_K.moved hW.alike hKc, hDc.weaken (fun _ _ _ _ => trivial)⟩⟩ rfl rfl hl.1 rfl (lv_room (Nat.le_of_ble_eq_true rfl)) dX12_sum_23 ⟨Nat.le_of_ble_eq_true rfl, Nat.le_of_ble_eq_true rfl⟩) hS (fun q _ h => hFc q h) hFc (fun r_143 u t H1 locs ht hvm hw hB hz1 hk1 hS => ?_)
          as_aux_lemma =>
          obtain ⟨hP1, hK1, hD1⟩ := hB
          rw [ht] at hP1
          obtain ⟨hP, hD⟩ := cl_put (w1 := (wd_c_X12_look_1 h0 h0_f0 h0_1 h0_2 h0_3 h0_4 h0_5 h0_f6 h0_f7 h0_f8 h0_f9 x_78 (-1) 0 h0_f13 h0_f14 h0_15 h0_16 h0_f17 h0_18 h0_19 h0_20 h0_21 h0_22 h0_23 h0_24 h0_25 h0_f26 h0_f27 h0_f28 h0_f29 h0_f30 h0_f31 h0_32 h0_33 h0_f34 h0_35 h0_36 h0_37 h0_38 h0_39 h0_40 h0_f41 h0_f42 h0_f43 h0_f44 h0_45 h0_46 h0_47 h0_48 h0_49 h0_50 h0_f51 h0_52 h0_f53 h0_5 h0_5k tN h0_5c)) (nw := (wd_c_X12_sum h0 h0_f0 h0_1 h0_2 h0_3 h0_4 h0_5 h0_f6 h0_f7 h0_f8 h0_f9 x_78 (-1) 0 h0_f13 h0_f14 h0_15 h0_16 h0_f17 h0_18 h0_19 h0_20 h0_21 h0_22 h0_23 h0_24 h0_25 h0_f26 h0_f27 h0_f28 h0_f29 h0_f30 h0_f31 h0_32 h0_33 h0_f34 h0_35 h0_36 h0_37 h0_38 h0_39 h0_40 h0_f41 h0_f42 h0_f43 h0_f44 h0_45 h0_46 h0_47 h0_48 h0_49 h0_50 h0_f51 h0_52 h0_f53 h0_5 h0_5k tN h0_5c h0_4 h0_4k h0_4c)) hP hD [0, 1] [3, 4, 2] 3 rfl hqc (by decide +kernel) rfl hk1 hFc hP1 hD1
          generalize H1 = H at hP hS ⊢
          as_aux_lemma =>
          rcases hw with ⟨h_144, h_145, h_146, h_147⟩ | ⟨h_148, h_149, h_150, h_151, h_152, h_153⟩
          · have h_147 : r_143 = _ := h_147
            replace hEX := hEX.trans (exc1_eq h_147)
            replace hEX := hEX.trans (if_pos (show r_143 = (-1) from h_144))
            rw [h_144]
            exfalso
            have := h_145
            have := h_89
            omega
          · have h_153 : r_143 = _ := h_153
            replace hEX := hEX.trans (exc1_eq h_153)
            replace hEX := hEX.trans (if_neg (RG_neq (x := r_143) (c := (-1)) (show RG r_143 0 255 from h_148) (by decide +kernel)))
            have nb_154 := h_152.2.resolve_left (fun q => by have g9 := h_148; rw [q] at g9; exact absurd g9.1 (by decide +kernel))
            refine lv_bipush (v := 45) hx hb dX12_sum_26 kc_bipush_45 ?_
            as_aux_lemma =>
            refine lv_icmp_ne (tgt := 84) hx hb dX12_sum_28 rfl (fun c_155 => ?_) (fun c_155 => ?_)
            · replace hEX := hEX.trans (if_neg c_155)
              refine lv_iload_n hx hb dX12_sum_84 rfl (lv_at hl 0 rfl) ?_
              have hK9 := hK.sub (tys' := []) [] rfl
              exact W.iret (v := j5_l1) hx hb hr (fun t ht hW => ⟨⟨j5_l1, (x_78, (-1), 0), rfl, (Or.inl ⟨(RG_any j5_l1), (RG_w h_86 (by decide +kernel)), rfl, rfl, g_h0_f9, (by have := r_h0_f10_j5_h0_f10; have := h_88; show h0_f10.toInt + 0 ≤ x_78.toInt; omega), (hR.trans hEX).symm⟩), by rw [ht]; exact hP, va_K.moved hW.alike hK9, hD⟩, hS.F ht⟩) hS.2.2 dX12_sum_85
            · replace hEX := hEX.trans (if_pos c_155)
              have g_156 : RG r_143 45 45 := RG_eq1 h_148 (RG_k 45 45 rfl) c_155 (by decide +kernel)
              refine lv_aload_n hx hb dX12_sum_31 rfl (lv_at hl 1 rfl) ?_
              obtain ⟨hPc, hDc, hFc, hqc⟩ := cl_cut (wc := (wd_c_X12_look_1 h0 h0_f0 h0_1 h0_2 h0_3 h0_4 h0_5 h0_f6 h0_f7 h0_f8 h0_f9 x_78 (-1) 0 h0_f13 h0_f14 h0_15 h0_16 h0_f17 h0_18 h0_19 h0_20 h0_21 h0_22 h0_23 h0_24 h0_25 h0_f26 h0_f27 h0_f28 h0_f29 h0_f30 h0_f31 h0_32 h0_33 h0_f34 h0_35 h0_36 h0_37 h0_38 h0_39 h0_40 h0_f41 h0_f42 h0_f43 h0_f44 h0_45 h0_46 h0_47 h0_48 h0_49 h0_50 h0_f51 h0_52 h0_f53 h0_5 h0_5k tN h0_5c)) hP hD hS hA [0, 1] (by decide +kernel) rfl
              have hKc := hK.sub (tys' := [(h0_5k, .byte)]) [0] rfl
              have hrv := va_recv hKc hPc (ci := 12) (q0 := 0) rfl rfl
              refine va_calli (va_runV (As := []) (rest := []) ⟨hx, hb, hml, hown, hts⟩ (c_X12_look_1 l dC dI H.size h0 h0_f0 h0_1 h0_2 h0_3 h0_4 h0_5 h0_f6 h0_f7 h0_f8 h0_f9 x_78 0 h0_f13 h0_f14 h0_15 h0_16 h0_f17 h0_18 h0_19 h0_20 h0_21 h0_22 h0_23 h0_24 h0_25 h0_f26 h0_f27 h0_f28 h0_f29 h0_f30 h0_f31 h0_32 h0_33 h0_f34 h0_35 h0_36 h0_37 h0_38 h0_39 h0_40 h0_f41 h0_f42 h0_f43 h0_f44 h0_45 h0_46 h0_47 h0_48 h0_49 h0_50 h0_f51 h0_52 h0_f53 h0_5k h0_5c tN g_h0_f6 g_h0_f7 g_h0_f8 (RG_w g_h0_f9 (by decide +kernel)) (RG_w h_86 (by decide +kernel)) g_h0_f17 g_h0_f26 g_h0_f27 g_h0_f28 g_h0_f29 g_h0_f30 g_h0_f31 g_h0_f34 g_h0_f41 g_h0_f51 g_h0_f53 htN nb_154 h_151) (cwV 0 hts gf_c_X12_sum_c_X12_look_1 rfl rfl rfl mdV_X12_look ⟨Nat.le_of_ble_eq_true rfl, Nat.le_of_ble_eq_true rfl⟩) ⟨fun a U g mk q => by obtain ⟨q0, q1, qP, qK, qD⟩ := q; exact ⟨q0, q1, qP, va_K.moved (u := U) (U := U.calling g mk a) (Vm.Alike.refl U.vm) qK, qD⟩, hrv, fun U hU hW => ⟨rfl, by rw [hU], by rw [hU]; exact hPc, va_K.moved hW.alike hKc, hDc.weaken (fun _ _ _ _ => trivial)⟩⟩ rfl rfl hl.1 rfl (lv_room (Nat.le_of_ble_eq_true rfl)) dX12_sum_32 ⟨Nat.le_of_ble_eq_true rfl, Nat.le_of_ble_eq_true rfl⟩) hS (fun q _ h => hFc q h) hFc (fun r_157 u t H1 locs ht hvm hw hB hz1 hk1 hS => ?_)
              obtain ⟨hP1, hK1, hD1⟩ := hB
              rw [ht] at hP1
              obtain ⟨hP, hD⟩ := cl_put (w1 := (wd_c_X12_look_1 h0 h0_f0 h0_1 h0_2 h0_3 h0_4 h0_5 h0_f6 h0_f7 h0_f8 h0_f9 x_78 (-1) 0 h0_f13 h0_f14 h0_15 h0_16 h0_f17 h0_18 h0_19 h0_20 h0_21 h0_22 h0_23 h0_24 h0_25 h0_f26 h0_f27 h0_f28 h0_f29 h0_f30 h0_f31 h0_32 h0_33 h0_f34 h0_35 h0_36 h0_37 h0_38 h0_39 h0_40 h0_f41 h0_f42 h0_f43 h0_f44 h0_45 h0_46 h0_47 h0_48 h0_49 h0_50 h0_f51 h0_52 h0_f53 h0_5 h0_5k tN h0_5c)) (nw := (wd_c_X12_sum h0 h0_f0 h0_1 h0_2 h0_3 h0_4 h0_5 h0_f6 h0_f7 h0_f8 h0_f9 x_78 (-1) 0 h0_f13 h0_f14 h0_15 h0_16 h0_f17 h0_18 h0_19 h0_20 h0_21 h0_22 h0_23 h0_24 h0_25 h0_f26 h0_f27 h0_f28 h0_f29 h0_f30 h0_f31 h0_32 h0_33 h0_f34 h0_35 h0_36 h0_37 h0_38 h0_39 h0_40 h0_f41 h0_f42 h0_f43 h0_f44 h0_45 h0_46 h0_47 h0_48 h0_49 h0_50 h0_f51 h0_52 h0_f53 h0_5 h0_5k tN h0_5c h0_4 h0_4k h0_4c)) hP hD [0, 1] [3, 4, 2] 3 rfl hqc (by decide +kernel) rfl hk1 hFc hP1 hD1
              generalize H1 = H at hP hS ⊢
              as_aux_lemma =>
              rcases hw with ⟨h_158, h_159, h_160, h_161⟩ | ⟨h_162, h_163, h_164, h_165, h_166, h_167⟩
              · have h_161 : r_157 = _ := h_161
                replace hEX := hEX.trans (exc1_eq h_161)
                replace hEX := hEX.trans (if_pos (show r_157 = (-1) from h_158))
                rw [h_158]
                exfalso
                have := h_159
                have := h_151
                omega
              · have h_167 : r_157 = _ := h_167
                replace hEX := hEX.trans (exc1_eq h_167)
                replace hEX := hEX.trans (if_neg (RG_neq (x := r_157) (c := (-1)) (show RG r_157 0 255 from h_162) (by decide +kernel)))
                have nb_168 := h_166.2.resolve_left (fun q => by have g9 := h_162; rw [q] at g9; exact absurd g9.1 (by decide +kernel))
                refine lv_bipush (v := 43) hx hb dX12_sum_35 kc_bipush_43 ?_
                as_aux_lemma =>
                refine lv_icmp_ne (tgt := 44) hx hb dX12_sum_37 rfl (fun c_169 => ?_) (fun c_169 => ?_)
                · replace hEX := hEX.trans (if_neg c_169)
                  refine lv_iconst (v := 0) hx hb dX12_sum_44 kc_iconst_0 ?_
                  exact hU _ _ _ (J45 x_78 g_h0_f10 g_h0_f17 g_h0_f26 g_h0_f27 g_h0_f28 g_h0_f29 g_h0_f30 g_h0_f31 g_h0_f34 g_h0_f41 g_h0_f51 g_h0_f53 g_h0_f6 g_h0_f7 g_h0_f8 g_h0_f9 h_86 g_j5_h0_f10 (by have := r_h0_f10_j5_h0_f10; have := h_88; omega) (by have := h_88; omega) hEX _ _ _ hP hD hS (lv_sub hl [0, 1] rfl))
                · replace hEX := hEX.trans (if_pos c_169)
                  have g_170 : RG r_157 43 43 := RG_eq1 h_162 (RG_k 43 43 rfl) c_169 (by decide +kernel)
                  refine lv_iconst (v := 1) hx hb dX12_sum_40 kc_iconst_1 ?_
                  refine lv_goto (tgt := 45) hx hb dX12_sum_41 rfl ?_
                  exact hU _ _ _ (J45b x_78 g_h0_f10 g_h0_f17 g_h0_f26 g_h0_f27 g_h0_f28 g_h0_f29 g_h0_f30 g_h0_f31 g_h0_f34 g_h0_f41 g_h0_f51 g_h0_f53 g_h0_f6 g_h0_f7 g_h0_f8 g_h0_f9 h_86 g_j5_h0_f10 (by have := r_h0_f10_j5_h0_f10; have := h_88; omega) (by have := h_88; omega) hEX _ _ _ hP hD hS (lv_sub hl [0, 1] rfl))
  refine hG _ _ _ ?_
  refine lv_aload_n hx hb dX12_sum_0 rfl (lv_at hl 0 rfl) ?_
  obtain ⟨hPc, hDc, hFc, hqc⟩ := cl_cut (wc := (wd_c_X12_term h0 h0_f0 h0_1 h0_2 h0_3 h0_4 h0_5 h0_f6 h0_f7 h0_f8 h0_f9 h0_f10 (-1) 0 h0_f13 h0_f14 h0_15 h0_16 h0_f17 h0_18 h0_19 h0_20 h0_21 h0_22 h0_23 h0_24 h0_25 h0_f26 h0_f27 h0_f28 h0_f29 h0_f30 h0_f31 h0_32 h0_33 h0_f34 h0_35 h0_36 h0_37 h0_38 h0_39 h0_40 h0_f41 h0_f42 h0_f43 h0_f44 h0_45 h0_46 h0_47 h0_48 h0_49 h0_50 h0_f51 h0_52 h0_f53 h0_5 h0_5k tN h0_5c h0_4 h0_4k h0_4c)) hP hD hS hA [0, 1, 2] (by decide +kernel) rfl
  have hKc := hK.sub (tys' := [(h0_5k, .byte), (h0_4k, .int)]) [0, 1] rfl
  have hrv := va_recv hKc hPc (ci := 12) (q0 := 0) rfl rfl
  refine va_calli (va_runV (As := []) (rest := []) ⟨hx, hb, hml, hown, hts⟩ (c_X12_term l dC dI H.size h0 h0_f0 h0_1 h0_2 h0_3 h0_4 h0_5 h0_f6 h0_f7 h0_f8 h0_f9 h0_f10 h0_f13 h0_f14 h0_15 h0_16 h0_f17 h0_18 h0_19 h0_20 h0_21 h0_22 h0_23 h0_24 h0_25 h0_f26 h0_f27 h0_f28 h0_f29 h0_f30 h0_f31 h0_32 h0_33 h0_f34 h0_35 h0_36 h0_37 h0_38 h0_39 h0_40 h0_f41 h0_f42 h0_f43 h0_f44 h0_45 h0_46 h0_47 h0_48 h0_49 h0_50 h0_f51 h0_52 h0_f53 h0_5k h0_5c tN h0_4k h0_4c ts7 tv7 g_h0_f6 g_h0_f7 g_h0_f8 g_h0_f9 g_h0_f10 g_h0_f17 g_h0_f26 g_h0_f27 g_h0_f28 g_h0_f29 g_h0_f30 g_h0_f31 g_h0_f34 g_h0_f41 g_h0_f51 g_h0_f53 htN a_h0_4c) (cwV 0 hts gf_c_X12_sum_c_X12_term rfl rfl rfl mdV_X12_term ⟨Nat.le_of_ble_eq_true rfl, Nat.le_of_ble_eq_true rfl⟩) ⟨fun a U g mk q => by obtain ⟨q0, q1, qP, qK, qD, qE0, qE1, qE2, qE3, qE4, qE5, qE6⟩ := q; exact ⟨q0, q1, qP, va_K.moved (u := U) (U := U.calling g mk a) (Vm.Alike.refl U.vm) qK, qD, vk_R.same rfl qE0, va_OF.moved (u := U) (U := U.calling g mk a) (Vm.Alike.refl U.vm) qE1, va_T.moved (u := U) (U := U.calling g mk a) (Vm.Alike.refl U.vm) qE2, va_Z.moved (u := U) (U := U.calling g mk a) (Vm.Alike.refl U.vm) qE3, va_OF.moved (u := U) (U := U.calling g mk a) (Vm.Alike.refl U.vm) qE4, va_O.moved (u := U) (U := U.calling g mk a) (Vm.Alike.refl U.vm) qE5, va_Zq.moved (u := U) (U := U.calling g mk a) (Vm.Alike.refl U.vm) qE6⟩, hrv, fun U hU hW => ⟨rfl, by rw [hU], by rw [hU]; exact hPc, va_K.moved hW.alike hKc, hDc.weaken (fun _ _ _ _ => trivial), vk_R.warm hW hE_47, va_OF.moved hW.alike (by rw [hU]; exact (hE_50.kept hS.2.1).narrow hFc), va_T.moved hW.alike (by rw [hU]; exact (hE_51.kept hS.2.1).narrow hFc), va_Z.moved hW.alike (by rw [hU]; exact (hE_10.kept hS.2.1).narrow hFc), va_OF.moved hW.alike (by rw [hU]; exact (hE_49.kept hS.2.1).narrow hFc), va_O.moved hW.alike (by rw [hU]; exact (hE_48.kept hS.2.1).narrow hFc), va_Zq.moved hW.alike (by rw [hU]; exact (hE_11.kept hS.2.1).narrow hFc)⟩⟩ rfl rfl hl.1 rfl (lv_room (Nat.le_of_ble_eq_true rfl)) dX12_sum_1 ⟨Nat.le_of_ble_eq_true rfl, Nat.le_of_ble_eq_true rfl⟩) hS (fun q _ h => hFc q h) hFc (fun r_171 u t H1 locs ht hvm hw hB hz1 hk1 hS => ?_)
  as_aux_lemma =>
  obtain ⟨x_172, x_173, x_174⟩ := u
  obtain ⟨hP1, hK1, hD1⟩ := hB
  rw [ht] at hP1
  obtain ⟨hP, hD⟩ := cl_put (w1 := (wd_c_X12_term h0 h0_f0 h0_1 h0_2 h0_3 h0_4 h0_5 h0_f6 h0_f7 h0_f8 h0_f9 x_172 x_173 x_174 h0_f13 h0_f14 h0_15 h0_16 h0_f17 h0_18 h0_19 h0_20 h0_21 h0_22 h0_23 h0_24 h0_25 h0_f26 h0_f27 h0_f28 h0_f29 h0_f30 h0_f31 h0_32 h0_33 h0_f34 h0_35 h0_36 h0_37 h0_38 h0_39 h0_40 h0_f41 h0_f42 h0_f43 h0_f44 h0_45 h0_46 h0_47 h0_48 h0_49 h0_50 h0_f51 h0_52 h0_f53 h0_5 h0_5k tN h0_5c h0_4 h0_4k h0_4c)) (nw := (wd_c_X12_sum h0 h0_f0 h0_1 h0_2 h0_3 h0_4 h0_5 h0_f6 h0_f7 h0_f8 h0_f9 x_172 x_173 x_174 h0_f13 h0_f14 h0_15 h0_16 h0_f17 h0_18 h0_19 h0_20 h0_21 h0_22 h0_23 h0_24 h0_25 h0_f26 h0_f27 h0_f28 h0_f29 h0_f30 h0_f31 h0_32 h0_33 h0_f34 h0_35 h0_36 h0_37 h0_38 h0_39 h0_40 h0_f41 h0_f42 h0_f43 h0_f44 h0_45 h0_46 h0_47 h0_48 h0_49 h0_50 h0_f51 h0_52 h0_f53 h0_5 h0_5k tN h0_5c h0_4 h0_4k h0_4c)) hP hD [0, 1, 2] [3, 4, 5] 3 rfl hqc (by decide +kernel) rfl hk1 hFc hP1 hD1
  generalize H1 = H at hP hS ⊢
  as_aux_lemma =>
  rcases hw with ⟨h_175, h_176, h_177, h_178, h_179, h_180, h_181⟩ | ⟨h_182, h_183, h_184, h_185, h_186, h_187⟩
  · have h_181 : (r_171, x_172, x_173, x_174) = _ := h_181
    replace hEX := hEX.trans (exc4_eq h_181)
    replace hEX := hEX.trans (if_pos (show x_173 = (-1) from h_177))
    subst h_177
    subst h_178
    have h_180 : h0_f10.toInt + 0 ≤ x_172.toInt := h_180
    refine lv_istore_n (lv' := [(1, .int r_171), (0, .ref h0)]) hx hb dX12_sum_4 rfl hl (Nat.le_of_ble_eq_true rfl) rfl (fun ls hl => ?_)
    exact hU _ _ _ (J5 exF r_171 x_172 MU_F g_h0_f10 g_h0_f17 g_h0_f26 g_h0_f27 g_h0_f28 g_h0_f29 g_h0_f30 g_h0_f31 g_h0_f34 g_h0_f41 g_h0_f51 g_h0_f53 g_h0_f6 g_h0_f7 g_h0_f8 h_179 h_176 (by have := h_180; omega) hEX _ _ _ hP hD hS (lv_sub hl [0, 1] rfl))
  · have h_187 : (r_171, x_172, x_173, x_174) = _ := h_187
    replace hEX := hEX.trans (exc4_eq h_187)
    replace hEX := hEX.trans (if_neg (RG_neq (x := x_173) (c := (-1)) (show RG x_173 0 240 from h_184) (by decide +kernel)))
    have h_186 : h0_f10.toInt + 0 ≤ x_172.toInt := h_186
    refine lv_istore_n (lv' := [(1, .int r_171), (0, .ref h0)]) hx hb dX12_sum_4 rfl hl (Nat.le_of_ble_eq_true rfl) rfl (fun ls hl => ?_)
    as_aux_lemma =>
    exact hU _ _ _ (J5b r_171 x_172 x_173 x_174 g_h0_f10 g_h0_f17 g_h0_f26 g_h0_f27 g_h0_f28 g_h0_f29 g_h0_f30 g_h0_f31 g_h0_f34 g_h0_f41 g_h0_f51 g_h0_f53 g_h0_f6 g_h0_f7 g_h0_f8 g_h0_f9 h_183 h_184 h_185 (RG_w h_182 (by decide +kernel)) (by have := h_186; omega) hEX _ _ _ hP hD hS (lv_sub hl [0, 1] rfl))
noncomputable def wf_c_X12_isSign : List Cond := .code yX12_isSign cX12_isSign 1 (some .boolean) :: ([])
set_option maxHeartbeats 4000000 in
set_option maxRecDepth 100000 in
theorem c_X12_isSign (l : Launch) (dC : Nat → ClassId) (dI : Nat → Nat → Nat) (sz : Nat) (p0 : Int32) (g_p0 : RG p0 (-1) (-1)) : Met l yX12_isSign wf_c_X12_isSign ({ frames := 0, cells := 0, slots := 0, locals := 0 }) (va_Pc [.int p0] (fun U => U.heap.size = sz ∧ va_P (dC, dI) vwCl [] U.heap ∧ va_K (dC, dI) vwCl [] U ∧ va_D (fun _ => True) [])) (va_Qi (fun (r : Int32) (u : Unit) => (r = 0 ∧ r = fx_c_X12_isSign p0)) (fun (u : Unit) t => va_P (dC, dI) vwCl [] t.heap ∧ va_K (dC, dI) vwCl [] t ∧ va_D (va_A [] sz) []) (va_A [] sz)) 0 0 (va_A [] sz) := by
  refine Met.ofW (cc := cX12_isSign) (maxL := 1) (ret := (some .boolean)) (by decide +kernel) rfl ?_
  intro p e s m args below meth c s₁ B hml hv
  obtain ⟨rfl, hsz, hP, hK, hD0⟩ := hv
  have hx := B.exec
  have hb := B.bytes
  have hr := B.returns
  have hts := atoms_spec (ws := wf_c_X12_isSign) B.pre
  have hown : s.vm.findClass RX12 = some m.cls := findClass_of_methodNamed B.named
  have hlocks := B.notSynchronized
  subst hsz
  have hD := hD0.self (sz := s.heap.size)
  generalize hAe : va_A [] s.heap.size = A at hD ⊢
  have hA : ∀ q : Nat, s.heap.size ≤ q → A q := fun q h => by rw [← hAe]; exact Or.inr h
  have hP : va_P (dC, dI) vwCl [] s.heap := hP
  have hl := lv_entry ([.int p0]) (n := 1) (Nat.le_of_ble_eq_true rfl)
  rw [lg_entry_eq]
  generalize (lg_sl ([.int p0]) ++ List.replicate (1 - (lg_sl ([.int p0])).length) Slot.unset).toArray = ls at hl ⊢
  have hl : lv_has ls 1 [(0, .int p0)] := hl
  obtain ⟨H, hHe⟩ : ∃ H : Heap, s.heap = H := ⟨_, rfl⟩
  have hS : va_S A s.heap H [] := by rw [hHe]; exact va_S.rf
  have hP : va_P (dC, dI) vwCl [] H := by rw [← hHe]; exact hP
  rw [hHe]
  obtain ⟨RES, hR⟩ : ∃ z, fx_c_X12_isSign p0 = z := ⟨_, rfl⟩
  have hEX : RES = fx_c_X12_isSign p0 := hR.symm
  refine lv_iload_n hx hb dX12_isSign_0 rfl (lv_at hl 0 rfl) ?_
  as_aux_lemma =>
  refine lv_bipush (v := 61) hx hb dX12_isSign_1 kc_bipush_61 ?_
  refine lv_icmp_eq (tgt := 18) hx hb dX12_isSign_3 rfl (fun c_1 => ?_) (fun c_1 => ?_)
  · replace hEX := hEX.trans (if_pos c_1)
    exact RG_dead (RG_eq1 g_p0 (RG_k 61 61 rfl) c_1 (a' := 61) (b' := (-1)) (by decide +kernel)) (by decide +kernel)
  · replace hEX := hEX.trans (if_neg c_1)
    refine lv_iload_n hx hb dX12_isSign_6 rfl (lv_at hl 0 rfl) ?_
    refine lv_bipush (v := 60) hx hb dX12_isSign_7 kc_bipush_60 ?_
    refine lv_icmp_eq (tgt := 18) hx hb dX12_isSign_9 rfl (fun c_2 => ?_) (fun c_2 => ?_)
    · replace hEX := hEX.trans (if_pos c_2)
      exact RG_dead (RG_eq1 g_p0 (RG_k 60 60 rfl) c_2 (a' := 60) (b' := (-1)) (by decide +kernel)) (by decide +kernel)
    · replace hEX := hEX.trans (if_neg c_2)
      refine lv_iload_n hx hb dX12_isSign_12 rfl (lv_at hl 0 rfl) ?_
      refine lv_bipush (v := 62) hx hb dX12_isSign_13 kc_bipush_62 ?_
      refine lv_icmp_ne (tgt := 22) hx hb dX12_isSign_15 rfl (fun c_3 => ?_) (fun c_3 => ?_)
      · replace hEX := hEX.trans (if_neg c_3)
        refine lv_iconst (v := 0) hx hb dX12_isSign_22 kc_iconst_0 ?_
        as_aux_lemma =>
        have hK9 := hK.sub (tys' := []) [] rfl
        exact W.zret (v := 0) hx hb hr rfl (fun t ht hW => ⟨⟨0, (), rfl, ⟨rfl, (hR.trans hEX).symm⟩, by rw [ht]; exact hP, va_K.moved hW.alike hK9, hD⟩, hS.F ht⟩) hS.2.2 dX12_isSign_23
      · replace hEX := hEX.trans (if_pos c_3)
        exact RG_dead (RG_eq1 g_p0 (RG_k 62 62 rfl) c_3 (a' := 62) (b' := (-1)) (by decide +kernel)) (by decide +kernel)
noncomputable def wf_c_X12_isSign_1 : List Cond := .code yX12_isSign cX12_isSign 1 (some .boolean) :: ([])
set_option maxHeartbeats 4000000 in
set_option maxRecDepth 100000 in
theorem c_X12_isSign_1 (l : Launch) (dC : Nat → ClassId) (dI : Nat → Nat → Nat) (sz : Nat) (p0 : Int32) (g_p0 : RG p0 0 255) : Met l yX12_isSign wf_c_X12_isSign_1 ({ frames := 0, cells := 0, slots := 0, locals := 0 }) (va_Pc [.int p0] (fun U => U.heap.size = sz ∧ va_P (dC, dI) vwCl [] U.heap ∧ va_K (dC, dI) vwCl [] U ∧ va_D (fun _ => True) [])) (va_Qi (fun (r : Int32) (u : Unit) => (r = 0 ∧ r = fx_c_X12_isSign_1 p0) ∨ (r = 1 ∧ RG p0 60 62 ∧ r = fx_c_X12_isSign_1 p0)) (fun (u : Unit) t => va_P (dC, dI) vwCl [] t.heap ∧ va_K (dC, dI) vwCl [] t ∧ va_D (va_A [] sz) []) (va_A [] sz)) 0 0 (va_A [] sz) := by
  refine Met.ofW (cc := cX12_isSign) (maxL := 1) (ret := (some .boolean)) (by decide +kernel) rfl ?_
  intro p e s m args below meth c s₁ B hml hv
  obtain ⟨rfl, hsz, hP, hK, hD0⟩ := hv
  have hx := B.exec
  have hb := B.bytes
  have hr := B.returns
  have hts := atoms_spec (ws := wf_c_X12_isSign_1) B.pre
  have hown : s.vm.findClass RX12 = some m.cls := findClass_of_methodNamed B.named
  have hlocks := B.notSynchronized
  subst hsz
  have hD := hD0.self (sz := s.heap.size)
  generalize hAe : va_A [] s.heap.size = A at hD ⊢
  have hA : ∀ q : Nat, s.heap.size ≤ q → A q := fun q h => by rw [← hAe]; exact Or.inr h
  have hP : va_P (dC, dI) vwCl [] s.heap := hP
  have hl := lv_entry ([.int p0]) (n := 1) (Nat.le_of_ble_eq_true rfl)
  rw [lg_entry_eq]
  generalize (lg_sl ([.int p0]) ++ List.replicate (1 - (lg_sl ([.int p0])).length) Slot.unset).toArray = ls at hl ⊢
  have hl : lv_has ls 1 [(0, .int p0)] := hl
  obtain ⟨H, hHe⟩ : ∃ H : Heap, s.heap = H := ⟨_, rfl⟩
  have hS : va_S A s.heap H [] := by rw [hHe]; exact va_S.rf
  have hP : va_P (dC, dI) vwCl [] H := by rw [← hHe]; exact hP
  rw [hHe]
  obtain ⟨RES, hR⟩ : ∃ z, fx_c_X12_isSign_1 p0 = z := ⟨_, rfl⟩
  have hEX : RES = fx_c_X12_isSign_1 p0 := hR.symm
  refine wj (fun G hG hU => ?_)
  as_aux_lemma =>
  have J18 : ∀ (g_p0 : RG p0 60 62) (hEX : RES = fx_c_X12_isSign_1_p18) (H : Heap) (locs : List Loc) (ls : Array Slot) (hP : va_P (dC, dI) vwCl [] H) (hD : va_D A []) (hS : va_S A s.heap H locs) (hl : lv_has ls 1 []), G H locs (F0 m 18 ls []) := by
    as_aux_lemma =>
    intro g_p0 hEX H locs ls hP hD hS hl
    refine hG _ _ _ ?_
    refine lv_iconst (v := 1) hx hb dX12_isSign_18 kc_iconst_1 ?_
    refine lv_goto (tgt := 23) hx hb dX12_isSign_19 rfl ?_
    have hK9 := hK.sub (tys' := []) [] rfl
    exact W.zret (v := 1) hx hb hr rfl (fun t ht hW => ⟨⟨1, (), rfl, (Or.inr ⟨rfl, g_p0, (hR.trans hEX).symm⟩), by rw [ht]; exact hP, va_K.moved hW.alike hK9, hD⟩, hS.F ht⟩) hS.2.2 dX12_isSign_23
  refine hG _ _ _ ?_
  refine lv_iload_n hx hb dX12_isSign_0 rfl (lv_at hl 0 rfl) ?_
  refine lv_bipush (v := 61) hx hb dX12_isSign_1 kc_bipush_61 ?_
  refine lv_icmp_eq (tgt := 18) hx hb dX12_isSign_3 rfl (fun c_1 => ?_) (fun c_1 => ?_)
  · replace hEX := hEX.trans (if_pos c_1)
    have g_2 : RG p0 61 61 := RG_eq1 g_p0 (RG_k 61 61 rfl) c_1 (by decide +kernel)
    exact hU _ _ _ (J18 (RG_w g_2 (by decide +kernel)) hEX _ _ _ hP hD hS (lv_sub hl [] rfl))
  · replace hEX := hEX.trans (if_neg c_1)
    refine lv_iload_n hx hb dX12_isSign_6 rfl (lv_at hl 0 rfl) ?_
    as_aux_lemma =>
    refine lv_bipush (v := 60) hx hb dX12_isSign_7 kc_bipush_60 ?_
    refine lv_icmp_eq (tgt := 18) hx hb dX12_isSign_9 rfl (fun c_3 => ?_) (fun c_3 => ?_)
    · replace hEX := hEX.trans (if_pos c_3)
      have g_4 : RG p0 60 60 := RG_eq1 g_p0 (RG_k 60 60 rfl) c_3 (by decide +kernel)
      exact hU _ _ _ (J18 (RG_w g_4 (by decide +kernel)) hEX _ _ _ hP hD hS (lv_sub hl [] rfl))
    · replace hEX := hEX.trans (if_neg c_3)
      refine lv_iload_n hx hb dX12_isSign_12 rfl (lv_at hl 0 rfl) ?_
      refine lv_bipush (v := 62) hx hb dX12_isSign_13 kc_bipush_62 ?_
      refine lv_icmp_ne (tgt := 22) hx hb dX12_isSign_15 rfl (fun c_5 => ?_) (fun c_5 => ?_)
      · replace hEX := hEX.trans (if_neg c_5)
        refine lv_iconst (v := 0) hx hb dX12_isSign_22 kc_iconst_0 ?_
        have hK9 := hK.sub (tys' := []) [] rfl
        exact W.zret (v := 0) hx hb hr rfl (fun t ht hW => ⟨⟨0, (), rfl, (Or.inl ⟨rfl, (hR.trans hEX).symm⟩), by rw [ht]; exact hP, va_K.moved hW.alike hK9, hD⟩, hS.F ht⟩) hS.2.2 dX12_isSign_23
      · replace hEX := hEX.trans (if_pos c_5)
        have g_6 : RG p0 62 62 := RG_eq1 g_p0 (RG_k 62 62 rfl) c_5 (by decide +kernel)
        exact hU _ _ _ (J18 (RG_w g_6 (by decide +kernel)) hEX _ _ _ hP hD hS (lv_sub hl [] rfl))
noncomputable def wd_c_X12_compares (a0 : Nat) (a1 : Int32) (a2 : Nat) (a3 : Nat) (a4 : Nat) (a5 : Nat) (a6 : Nat) (a7 : Int32) (a8 : Int32) (a9 : Int32) (a10 : Int32) (a11 : Int32) (a12 : Int32) (a13 : Int32) (a14 : Int32) (a15 : Int32) (a16 : Nat) (a17 : Nat) (a18 : Int32) (a19 : Nat) (a20 : Nat) (a21 : Nat) (a22 : Nat) (a23 : Nat) (a24 : Nat) (a25 : Nat) (a26 : Nat) (a27 : Int32) (a28 : Int32) (a29 : Int32) (a30 : Int32) (a31 : Int32) (a32 : Int32) (a33 : Nat) (a34 : Nat) (a35 : Int32) (a36 : Nat) (a37 : Nat) (a38 : Nat) (a39 : Nat) (a40 : Nat) (a41 : Nat) (a42 : Int32) (a43 : Int64) (a44 : Int32) (a45 : Int32) (a46 : Nat) (a47 : Nat) (a48 : Nat) (a49 : Nat) (a50 : Nat) (a51 : Nat) (a52 : Int32) (a53 : Nat) (a54 : Int32) (a55 : Nat) (a56 : ClassId) (a57 : Nat) (a58 : Nat → Int32) (a59 : Nat) (a60 : ClassId) (a61 : Nat → Int32) : va_W := [(a0, .inr (12, [.int a1, .ref a2, .ref a3, .ref a4, .ref a5, .ref a6, .int a7, .int a8, .int a9, .int a10, .int a11, .int a12, .int a13, .int a14, .int a15, .ref a16, .ref a17, .int a18, .ref a19, .ref a20, .ref a21, .ref a22, .ref a23, .ref a24, .ref a25, .ref a26, .int a27, .int a28, .int a29, .int a30, .int a31, .int a32, .ref a33, .ref a34, .int a35, .ref a36, .ref a37, .ref a38, .ref a39, .ref a40, .ref a41, .int a42, .long a43, .int a44, .int a45, .ref a46, .ref a47, .ref a48, .ref a49, .ref a50, .ref a51, .int a52, .ref a53, .int a54])), (a55, .inl (a56, a57, .inl a58)), (a59, .inl (a60, 128, .inl a61))]
noncomputable def wf_c_X12_compares : List Cond := List.cons (.code yX12_compares cX12_compares 6 (some .boolean)) (@HAppend.hAppend (List Cond) (List Cond) (List Cond) _ [.methodLink RX12 176 yX12_sum, .instanceMethod yX12_sum, .selects RX12 yX12_sum yX12_sum, .initialized RX12, .code yX12_sum cX12_sum 5 (some .int), .methodLink RX12 193 yX12_term, .instanceMethod yX12_term, .selects RX12 yX12_term yX12_term, .code yX12_term cX12_term 5 (some .int), .methodLink RX12 186 yX12_atom, .instanceMethod yX12_atom, .selects RX12 yX12_atom yX12_atom, .code yX12_atom cX12_atom 4 (some .int), .methodLink RX12 153 yX12_look, .instanceMethod yX12_look, .selects RX12 yX12_look yX12_look, .code yX12_look cX12_look 1 (some .int), .fieldLink RX12 134 "BuoyVoteModel" "at" "I", .fieldLink RX12 137 "BuoyVoteModel" "ends" "I", .fieldLink RX12 23 "BuoyVoteModel" "text" "[B", .fieldLink RX12 140 "BuoyVoteModel" "begins" "I", .methodLink RX12 169 yX12_isAmong, .static yX12_isAmong, .code yX12_isAmong cX12_isAmong 3 (some .boolean), .methodLink RX12 114 yJ0_length_8abf5, .instanceMethod yJ0_length_8abf5, .selects RJ0 yJ0_length_8abf5 yJ0_length_8abf5, .initialized RJ0, .code yJ0_length_8abf5 cJ0_length_8abf5 1 (some .int), .fieldLink RJ0 9 "java/lang/String" "value" "[B", .methodLink RJ0 335 yJ0_coder_7d493, .instanceMethod yJ0_coder_7d493, .selects RJ0 yJ0_coder_7d493 yJ0_coder_7d493, .code yJ0_coder_7d493 cJ0_coder_7d493 1 (some .byte), .fieldLink RJ0 38 "java/lang/String" "COMPACT_STRINGS" "Z", .fieldLink RJ0 15 "java/lang/String" "coder" "B", .methodLink RX12 120 yJ0_charAt_5068e, .instanceMethod yJ0_charAt_5068e, .selects RJ0 yJ0_charAt_5068e yJ0_charAt_5068e, .code yJ0_charAt_5068e cJ0_charAt_5068e 2 (some .char), .methodLink RJ0 492 yJ0_isLatin1_aae02, .instanceMethod yJ0_isLatin1_aae02, .selects RJ0 yJ0_isLatin1_aae02 yJ0_isLatin1_aae02, .code yJ0_isLatin1_aae02 cJ0_isLatin1_aae02 1 (some .boolean), .methodLink RJ0 495 yJ1_charAt_3b067, .static yJ1_charAt_3b067, .initialized RJ1, .code yJ1_charAt_3b067 cJ1_charAt_3b067 2 (some .char), .methodLink RJ1 9 yJ0_checkIndex_df160, .static yJ0_checkIndex_df160, .code yJ0_checkIndex_df160 cJ0_checkIndex_df160 2 none, .fieldLink RJ0 1053 "jdk/internal/util/Preconditions" "SIOOBE_FORMATTER" "Ljava/util/function/BiFunction;", .methodLink RJ0 1059 yJ3_checkIndex_8e157, .static yJ3_checkIndex_8e157, .initialized RJ3, .code yJ3_checkIndex_8e157 cJ3_checkIndex_8e157 3 (some .int), .methodLink RX12 183 yX12_isDigit, .instanceMethod yX12_isDigit, .selects RX12 yX12_isDigit yX12_isDigit, .code yX12_isDigit cX12_isDigit 1 (some .boolean), .methodLink RX12 149 yX12_fails, .instanceMethod yX12_fails, .selects RX12 yX12_fails yX12_fails, .code yX12_fails cX12_fails 1 (some .boolean), .fieldLink RX12 143 "BuoyVoteModel" "fault" "I", .methodLink RX12 173 yX12_goesIn, .instanceMethod yX12_goesIn, .selects RX12 yX12_goesIn yX12_goesIn, .code yX12_goesIn cX12_goesIn 1 (some .boolean), .fieldLink RX12 146 "BuoyVoteModel" "deep" "I", .fieldLink RX12 20 "BuoyVoteModel" "letters" "[I", .methodLink RX12 189 yX12_within, .static yX12_within, .code yX12_within cX12_within 2 (some .int), .constantLong RX12 156 (-1000000), .constantLong RX12 158 (1000000), .methodLink RX12 160 Lib.MathLoose.min_long.x, .static Lib.MathLoose.min_long.x, .initialized "java/lang/Math", .code Lib.MathLoose.min_long.x Lib.MathLoose.min_long.code 4 (some .long), .methodLink RX12 166 Lib.MathLoose.max_long.x, .static Lib.MathLoose.max_long.x, .code Lib.MathLoose.max_long.x Lib.MathLoose.max_long.code 4 (some .long), .methodLink RX12 179 yX12_takes, .instanceMethod yX12_takes, .selects RX12 yX12_takes yX12_takes, .code yX12_takes cX12_takes 2 (some .boolean), .methodLink RX12 196 yX12_isSign, .static yX12_isSign, .code yX12_isSign cX12_isSign 1 (some .boolean)] wsX120)
theorem iw_c_X12_compares_X12 : ∀ w ∈ wsX120, w ∈ wf_c_X12_compares := fun w h => List.mem_cons_of_mem _ (List.mem_append_right _ h)
set_option maxRecDepth 20000 in
theorem gf_c_X12_compares_c_X12_look : GoodIn wf_c_X12_compares (wsV RX12 153 RX12 yX12_look wf_c_X12_look) := goodIn_app (gi_l [14, 15, 16, 4] rfl rfl) (gi_cons (j := 17) rfl rfl (goodIn_app (gi_l [18, 19, 20, 21] rfl rfl) (goodIn_sub iw_c_X12_compares_X12 gw_X12)))
set_option maxRecDepth 20000 in
theorem gf_c_X12_compares_c_X12_isSign : GoodIn wf_c_X12_compares (va_wsS RX12 196 yX12_isSign wf_c_X12_isSign) := goodIn_app (gi_l [88, 89, 4] rfl rfl) (gi_cons (j := 90) rfl rfl gi_nil)
set_option maxRecDepth 20000 in
theorem gf_c_X12_compares_c_X12_fails : GoodIn wf_c_X12_compares (wsV RX12 149 RX12 yX12_fails wf_c_X12_fails) := goodIn_app (gi_l [61, 62, 63, 4] rfl rfl) (gi_cons (j := 64) rfl rfl (goodIn_app (gi_l [65, 18] rfl rfl) (goodIn_sub iw_c_X12_compares_X12 gw_X12)))
set_option maxRecDepth 20000 in
theorem gf_c_X12_compares_c_X12_isSign_1 : GoodIn wf_c_X12_compares (va_wsS RX12 196 yX12_isSign wf_c_X12_isSign_1) := goodIn_app (gi_l [88, 89, 4] rfl rfl) (gi_cons (j := 90) rfl rfl gi_nil)
set_option maxRecDepth 20000 in
theorem gf_c_X12_compares_c_X12_sum : GoodIn wf_c_X12_compares (wsV RX12 176 RX12 yX12_sum wf_c_X12_sum) := goodIn_app (gi_l [1, 2, 3, 4] rfl rfl) (gi_cons (j := 5) rfl rfl (goodIn_app (gi_l [6, 7, 8, 4, 9, 10, 11, 12, 13, 14, 15, 16, 17, 18, 19, 20, 21, 22, 23, 24, 25, 26, 27, 28, 29, 30, 31, 32, 33, 34, 35, 36, 37, 38, 39, 40, 41, 42, 43, 44, 45, 46, 47, 48, 49, 50, 51, 52, 53, 54, 55, 56, 57, 58, 59, 60, 61, 62, 63, 64, 65, 66, 67, 68, 69, 70, 1, 2, 3, 71, 72, 73, 74, 75, 76, 77, 78, 79, 80, 81, 82, 83, 84, 85, 86, 87] rfl rfl) (goodIn_sub iw_c_X12_compares_X12 gw_X12)))
set_option maxHeartbeats 4000000 in
set_option maxRecDepth 100000 in
theorem c_X12_compares (l : Launch) (dC : Nat → ClassId) (dI : Nat → Nat → Nat) (sz : Nat) (h0 : Nat) (p1 : Int32) (p2 : Int32) (h0_f0 : Int32) (h0_1 : Nat) (h0_2 : Nat) (h0_3 : Nat) (h0_4 : Nat) (h0_5 : Nat) (h0_f6 : Int32) (h0_f7 : Int32) (h0_f8 : Int32) (h0_f9 : Int32) (h0_f10 : Int32) (h0_f13 : Int32) (h0_f14 : Int32) (h0_15 : Nat) (h0_16 : Nat) (h0_f17 : Int32) (h0_18 : Nat) (h0_19 : Nat) (h0_20 : Nat) (h0_21 : Nat) (h0_22 : Nat) (h0_23 : Nat) (h0_24 : Nat) (h0_25 : Nat) (h0_f26 : Int32) (h0_f27 : Int32) (h0_f28 : Int32) (h0_f29 : Int32) (h0_f30 : Int32) (h0_f31 : Int32) (h0_32 : Nat) (h0_33 : Nat) (h0_f34 : Int32) (h0_35 : Nat) (h0_36 : Nat) (h0_37 : Nat) (h0_38 : Nat) (h0_39 : Nat) (h0_40 : Nat) (h0_f41 : Int32) (h0_f42 : Int64) (h0_f43 : Int32) (h0_f44 : Int32) (h0_45 : Nat) (h0_46 : Nat) (h0_47 : Nat) (h0_48 : Nat) (h0_49 : Nat) (h0_50 : Nat) (h0_f51 : Int32) (h0_52 : Nat) (h0_f53 : Int32) (h0_5k : ClassId) (h0_5c : Nat → Int32) (tN : Nat) (h0_4k : ClassId) (h0_4c : Nat → Int32) (ts7 : Nat) (tv7 : Nat) (g_p1 : RG p1 0 0) (g_p2 : RG p2 0 0) (g_h0_f6 : RG h0_f6 0 240) (g_h0_f7 : RG h0_f7 0 4) (g_h0_f8 : RG h0_f8 0 720) (g_h0_f9 : RG h0_f9 0 240) (g_h0_f10 : RG h0_f10 0 240) (g_h0_f17 : RG h0_f17 0 1) (g_h0_f26 : RG h0_f26 0 8) (g_h0_f27 : RG h0_f27 0 3) (g_h0_f28 : RG h0_f28 0 8) (g_h0_f29 : RG h0_f29 0 3) (g_h0_f30 : RG h0_f30 0 4) (g_h0_f31 : RG h0_f31 0 1) (g_h0_f34 : RG h0_f34 (-1) 3) (g_h0_f41 : RG h0_f41 0 40) (g_h0_f51 : RG h0_f51 0 10) (g_h0_f53 : RG h0_f53 0 1) (htN : h0_f8.toInt + 240 ≤ (tN : Int)) (a_h0_4c : AP tLet h0_4c) : Met l yX12_compares wf_c_X12_compares ({ frames := 26, cells := 0, slots := 0, locals := 604 }) (va_Pc [.ref h0, .int p1, .int p2] (fun U => U.heap.size = sz ∧ va_P (dC, dI) vwCl (wd_c_X12_compares h0 h0_f0 h0_1 h0_2 h0_3 h0_4 h0_5 h0_f6 h0_f7 h0_f8 h0_f9 h0_f10 (-1) 0 h0_f13 h0_f14 h0_15 h0_16 h0_f17 h0_18 h0_19 h0_20 h0_21 h0_22 h0_23 h0_24 h0_25 h0_f26 h0_f27 h0_f28 h0_f29 h0_f30 h0_f31 h0_32 h0_33 h0_f34 h0_35 h0_36 h0_37 h0_38 h0_39 h0_40 h0_f41 h0_f42 h0_f43 h0_f44 h0_45 h0_46 h0_47 h0_48 h0_49 h0_50 h0_f51 h0_52 h0_f53 h0_5 h0_5k tN h0_5c h0_4 h0_4k h0_4c) U.heap ∧ va_K (dC, dI) vwCl [(h0_5k, .byte), (h0_4k, .int)] U ∧ va_D (fun _ => True) (wd_c_X12_compares h0 h0_f0 h0_1 h0_2 h0_3 h0_4 h0_5 h0_f6 h0_f7 h0_f8 h0_f9 h0_f10 (-1) 0 h0_f13 h0_f14 h0_15 h0_16 h0_f17 h0_18 h0_19 h0_20 h0_21 h0_22 h0_23 h0_24 h0_25 h0_f26 h0_f27 h0_f28 h0_f29 h0_f30 h0_f31 h0_32 h0_33 h0_f34 h0_35 h0_36 h0_37 h0_38 h0_39 h0_40 h0_f41 h0_f42 h0_f43 h0_f44 h0_45 h0_46 h0_47 h0_48 h0_49 h0_50 h0_f51 h0_52 h0_f53 h0_5 h0_5k tN h0_5c h0_4 h0_4k h0_4c) ∧ vk_R RX12 32 "vlrdph" ts7 U ∧ va_OF "java/lang/String" "value" "[B" (.ref tv7) ts7 (va_A (wd_c_X12_compares h0 h0_f0 h0_1 h0_2 h0_3 h0_4 h0_5 h0_f6 h0_f7 h0_f8 h0_f9 h0_f10 (-1) 0 h0_f13 h0_f14 h0_15 h0_16 h0_f17 h0_18 h0_19 h0_20 h0_21 h0_22 h0_23 h0_24 h0_25 h0_f26 h0_f27 h0_f28 h0_f29 h0_f30 h0_f31 h0_32 h0_33 h0_f34 h0_35 h0_36 h0_37 h0_38 h0_39 h0_40 h0_f41 h0_f42 h0_f43 h0_f44 h0_45 h0_46 h0_47 h0_48 h0_49 h0_50 h0_f51 h0_52 h0_f53 h0_5 h0_5k tN h0_5c h0_4 h0_4k h0_4c) sz) U U.heap ∧ va_T .byte tv7 6 (fun j => .int ([118, 108, 114, 100, 112, 104].getD j 0)) (va_A (wd_c_X12_compares h0 h0_f0 h0_1 h0_2 h0_3 h0_4 h0_5 h0_f6 h0_f7 h0_f8 h0_f9 h0_f10 (-1) 0 h0_f13 h0_f14 h0_15 h0_16 h0_f17 h0_18 h0_19 h0_20 h0_21 h0_22 h0_23 h0_24 h0_25 h0_f26 h0_f27 h0_f28 h0_f29 h0_f30 h0_f31 h0_32 h0_33 h0_f34 h0_35 h0_36 h0_37 h0_38 h0_39 h0_40 h0_f41 h0_f42 h0_f43 h0_f44 h0_45 h0_46 h0_47 h0_48 h0_49 h0_50 h0_f51 h0_52 h0_f53 h0_5 h0_5k tN h0_5c h0_4 h0_4k h0_4c) sz) U U.heap ∧ va_Z "java/lang/String" "COMPACT_STRINGS" "Z" (.int 1) (va_A (wd_c_X12_compares h0 h0_f0 h0_1 h0_2 h0_3 h0_4 h0_5 h0_f6 h0_f7 h0_f8 h0_f9 h0_f10 (-1) 0 h0_f13 h0_f14 h0_15 h0_16 h0_f17 h0_18 h0_19 h0_20 h0_21 h0_22 h0_23 h0_24 h0_25 h0_f26 h0_f27 h0_f28 h0_f29 h0_f30 h0_f31 h0_32 h0_33 h0_f34 h0_35 h0_36 h0_37 h0_38 h0_39 h0_40 h0_f41 h0_f42 h0_f43 h0_f44 h0_45 h0_46 h0_47 h0_48 h0_49 h0_50 h0_f51 h0_52 h0_f53 h0_5 h0_5k tN h0_5c h0_4 h0_4k h0_4c) sz) U U.heap ∧ va_OF "java/lang/String" "coder" "B" (.int 0) ts7 (va_A (wd_c_X12_compares h0 h0_f0 h0_1 h0_2 h0_3 h0_4 h0_5 h0_f6 h0_f7 h0_f8 h0_f9 h0_f10 (-1) 0 h0_f13 h0_f14 h0_15 h0_16 h0_f17 h0_18 h0_19 h0_20 h0_21 h0_22 h0_23 h0_24 h0_25 h0_f26 h0_f27 h0_f28 h0_f29 h0_f30 h0_f31 h0_32 h0_33 h0_f34 h0_35 h0_36 h0_37 h0_38 h0_39 h0_40 h0_f41 h0_f42 h0_f43 h0_f44 h0_45 h0_46 h0_47 h0_48 h0_49 h0_50 h0_f51 h0_52 h0_f53 h0_5 h0_5k tN h0_5c h0_4 h0_4k h0_4c) sz) U U.heap ∧ va_O "java/lang/String" ts7 (va_A (wd_c_X12_compares h0 h0_f0 h0_1 h0_2 h0_3 h0_4 h0_5 h0_f6 h0_f7 h0_f8 h0_f9 h0_f10 (-1) 0 h0_f13 h0_f14 h0_15 h0_16 h0_f17 h0_18 h0_19 h0_20 h0_21 h0_22 h0_23 h0_24 h0_25 h0_f26 h0_f27 h0_f28 h0_f29 h0_f30 h0_f31 h0_32 h0_33 h0_f34 h0_35 h0_36 h0_37 h0_38 h0_39 h0_40 h0_f41 h0_f42 h0_f43 h0_f44 h0_45 h0_46 h0_47 h0_48 h0_49 h0_50 h0_f51 h0_52 h0_f53 h0_5 h0_5k tN h0_5c h0_4 h0_4k h0_4c) sz) U U.heap ∧ va_Zq "jdk/internal/util/Preconditions" "SIOOBE_FORMATTER" "Ljava/util/function/BiFunction;" (va_A (wd_c_X12_compares h0 h0_f0 h0_1 h0_2 h0_3 h0_4 h0_5 h0_f6 h0_f7 h0_f8 h0_f9 h0_f10 (-1) 0 h0_f13 h0_f14 h0_15 h0_16 h0_f17 h0_18 h0_19 h0_20 h0_21 h0_22 h0_23 h0_24 h0_25 h0_f26 h0_f27 h0_f28 h0_f29 h0_f30 h0_f31 h0_32 h0_33 h0_f34 h0_35 h0_36 h0_37 h0_38 h0_39 h0_40 h0_f41 h0_f42 h0_f43 h0_f44 h0_45 h0_46 h0_47 h0_48 h0_49 h0_50 h0_f51 h0_52 h0_f53 h0_5 h0_5k tN h0_5c h0_4 h0_4k h0_4c) sz) U U.heap)) (va_Qi (fun (r : Int32) (u : (Int32) × (Int32) × (Int32)) => (RG r 0 1 ∧ RG u.1 0 240 ∧ u.2.1 = (-1) ∧ u.2.2 = 0 ∧ RG h0_f9 1 240 ∧ h0_f10.toInt + 1 ≤ (u.1).toInt ∧ (r, u.1, u.2.1, u.2.2) = fx_c_X12_compares p1 h0_f8 h0_f9 h0_f10 h0_5c h0_4c) ∨ (RG r 0 1 ∧ RG u.1 0 240 ∧ RG u.2.1 0 240 ∧ RG u.2.2 0 6 ∧ h0_f10.toInt + 0 ≤ (u.1).toInt ∧ (r, u.1, u.2.1, u.2.2) = fx_c_X12_compares p1 h0_f8 h0_f9 h0_f10 h0_5c h0_4c)) (fun (u : (Int32) × (Int32) × (Int32)) t => va_P (dC, dI) vwCl (wd_c_X12_compares h0 h0_f0 h0_1 h0_2 h0_3 h0_4 h0_5 h0_f6 h0_f7 h0_f8 h0_f9 (u.1) (u.2.1) (u.2.2) h0_f13 h0_f14 h0_15 h0_16 h0_f17 h0_18 h0_19 h0_20 h0_21 h0_22 h0_23 h0_24 h0_25 h0_f26 h0_f27 h0_f28 h0_f29 h0_f30 h0_f31 h0_32 h0_33 h0_f34 h0_35 h0_36 h0_37 h0_38 h0_39 h0_40 h0_f41 h0_f42 h0_f43 h0_f44 h0_45 h0_46 h0_47 h0_48 h0_49 h0_50 h0_f51 h0_52 h0_f53 h0_5 h0_5k tN h0_5c h0_4 h0_4k h0_4c) t.heap ∧ va_K (dC, dI) vwCl [] t ∧ va_D (va_A (wd_c_X12_compares h0 h0_f0 h0_1 h0_2 h0_3 h0_4 h0_5 h0_f6 h0_f7 h0_f8 h0_f9 h0_f10 (-1) 0 h0_f13 h0_f14 h0_15 h0_16 h0_f17 h0_18 h0_19 h0_20 h0_21 h0_22 h0_23 h0_24 h0_25 h0_f26 h0_f27 h0_f28 h0_f29 h0_f30 h0_f31 h0_32 h0_33 h0_f34 h0_35 h0_36 h0_37 h0_38 h0_39 h0_40 h0_f41 h0_f42 h0_f43 h0_f44 h0_45 h0_46 h0_47 h0_48 h0_49 h0_50 h0_f51 h0_52 h0_f53 h0_5 h0_5k tN h0_5c h0_4 h0_4k h0_4c) sz) (wd_c_X12_compares h0 h0_f0 h0_1 h0_2 h0_3 h0_4 h0_5 h0_f6 h0_f7 h0_f8 h0_f9 (u.1) (u.2.1) (u.2.2) h0_f13 h0_f14 h0_15 h0_16 h0_f17 h0_18 h0_19 h0_20 h0_21 h0_22 h0_23 h0_24 h0_25 h0_f26 h0_f27 h0_f28 h0_f29 h0_f30 h0_f31 h0_32 h0_33 h0_f34 h0_35 h0_36 h0_37 h0_38 h0_39 h0_40 h0_f41 h0_f42 h0_f43 h0_f44 h0_45 h0_46 h0_47 h0_48 h0_49 h0_50 h0_f51 h0_52 h0_f53 h0_5 h0_5k tN h0_5c h0_4 h0_4k h0_4c)) (va_A (wd_c_X12_compares h0 h0_f0 h0_1 h0_2 h0_3 h0_4 h0_5 h0_f6 h0_f7 h0_f8 h0_f9 h0_f10 (-1) 0 h0_f13 h0_f14 h0_15 h0_16 h0_f17 h0_18 h0_19 h0_20 h0_21 h0_22 h0_23 h0_24 h0_25 h0_f26 h0_f27 h0_f28 h0_f29 h0_f30 h0_f31 h0_32 h0_33 h0_f34 h0_35 h0_36 h0_37 h0_38 h0_39 h0_40 h0_f41 h0_f42 h0_f43 h0_f44 h0_45 h0_46 h0_47 h0_48 h0_49 h0_50 h0_f51 h0_52 h0_f53 h0_5 h0_5k tN h0_5c h0_4 h0_4k h0_4c) sz)) 0 0 (va_A (wd_c_X12_compares h0 h0_f0 h0_1 h0_2 h0_3 h0_4 h0_5 h0_f6 h0_f7 h0_f8 h0_f9 h0_f10 (-1) 0 h0_f13 h0_f14 h0_15 h0_16 h0_f17 h0_18 h0_19 h0_20 h0_21 h0_22 h0_23 h0_24 h0_25 h0_f26 h0_f27 h0_f28 h0_f29 h0_f30 h0_f31 h0_32 h0_33 h0_f34 h0_35 h0_36 h0_37 h0_38 h0_39 h0_40 h0_f41 h0_f42 h0_f43 h0_f44 h0_45 h0_46 h0_47 h0_48 h0_49 h0_50 h0_f51 h0_52 h0_f53 h0_5 h0_5k tN h0_5c h0_4 h0_4k h0_4c) sz) := by
  refine Met.ofW (cc := cX12_compares) (maxL := 6) (ret := (some .boolean)) (by decide +kernel) rfl ?_
  intro p e s m args below meth c s₁ B hml hv
  obtain ⟨rfl, hsz, hP, hK, hD0, hE_47, hE_50, hE_51, hE_10, hE_49, hE_48, hE_11⟩ := hv
  have hx := B.exec
  have hb := B.bytes
  have hr := B.returns
  have hts := atoms_spec (ws := wf_c_X12_compares) B.pre
  have hown : s.vm.findClass RX12 = some m.cls := findClass_of_methodNamed B.named
  have hlocks := B.notSynchronized
  subst hsz
  have hD := hD0.self (sz := s.heap.size)
  generalize hAe : va_A (wd_c_X12_compares h0 h0_f0 h0_1 h0_2 h0_3 h0_4 h0_5 h0_f6 h0_f7 h0_f8 h0_f9 h0_f10 (-1) 0 h0_f13 h0_f14 h0_15 h0_16 h0_f17 h0_18 h0_19 h0_20 h0_21 h0_22 h0_23 h0_24 h0_25 h0_f26 h0_f27 h0_f28 h0_f29 h0_f30 h0_f31 h0_32 h0_33 h0_f34 h0_35 h0_36 h0_37 h0_38 h0_39 h0_40 h0_f41 h0_f42 h0_f43 h0_f44 h0_45 h0_46 h0_47 h0_48 h0_49 h0_50 h0_f51 h0_52 h0_f53 h0_5 h0_5k tN h0_5c h0_4 h0_4k h0_4c) s.heap.size = A at hD hE_50 hE_51 hE_10 hE_49 hE_48 hE_11 ⊢
  have hA : ∀ q : Nat, s.heap.size ≤ q → A q := fun q h => by rw [← hAe]; exact Or.inr h
  have hP : va_P (dC, dI) vwCl (wd_c_X12_compares h0 h0_f0 h0_1 h0_2 h0_3 h0_4 h0_5 h0_f6 h0_f7 h0_f8 h0_f9 h0_f10 (-1) 0 h0_f13 h0_f14 h0_15 h0_16 h0_f17 h0_18 h0_19 h0_20 h0_21 h0_22 h0_23 h0_24 h0_25 h0_f26 h0_f27 h0_f28 h0_f29 h0_f30 h0_f31 h0_32 h0_33 h0_f34 h0_35 h0_36 h0_37 h0_38 h0_39 h0_40 h0_f41 h0_f42 h0_f43 h0_f44 h0_45 h0_46 h0_47 h0_48 h0_49 h0_50 h0_f51 h0_52 h0_f53 h0_5 h0_5k tN h0_5c h0_4 h0_4k h0_4c) s.heap := hP
  have hl := lv_entry ([.ref h0, .int p1, .int p2]) (n := 6) (Nat.le_of_ble_eq_true rfl)
  rw [lg_entry_eq]
  generalize (lg_sl ([.ref h0, .int p1, .int p2]) ++ List.replicate (6 - (lg_sl ([.ref h0, .int p1, .int p2])).length) Slot.unset).toArray = ls at hl ⊢
  have hl : lv_has ls 6 [(0, .ref h0), (1, .int p1), (2, .int p2)] := hl
  obtain ⟨H, hHe⟩ : ∃ H : Heap, s.heap = H := ⟨_, rfl⟩
  have hS : va_S A s.heap H [] := by rw [hHe]; exact va_S.rf
  have hP : va_P (dC, dI) vwCl (wd_c_X12_compares h0 h0_f0 h0_1 h0_2 h0_3 h0_4 h0_5 h0_f6 h0_f7 h0_f8 h0_f9 h0_f10 (-1) 0 h0_f13 h0_f14 h0_15 h0_16 h0_f17 h0_18 h0_19 h0_20 h0_21 h0_22 h0_23 h0_24 h0_25 h0_f26 h0_f27 h0_f28 h0_f29 h0_f30 h0_f31 h0_32 h0_33 h0_f34 h0_35 h0_36 h0_37 h0_38 h0_39 h0_40 h0_f41 h0_f42 h0_f43 h0_f44 h0_45 h0_46 h0_47 h0_48 h0_49 h0_50 h0_f51 h0_52 h0_f53 h0_5 h0_5k tN h0_5c h0_4 h0_4k h0_4c) H := by rw [← hHe]; exact hP
  rw [hHe]
  obtain ⟨RES, hR⟩ : ∃ z, fx_c_X12_compares p1 h0_f8 h0_f9 h0_f10 h0_5c h0_4c = z := ⟨_, rfl⟩
  have hEX : RES = fx_c_X12_compares p1 h0_f8 h0_f9 h0_f10 h0_5c h0_4c := hR.symm
  refine wj (fun G hG hU => ?_)
  as_aux_lemma =>
  have J12 : ∀ (j12_s0 : Int32) (j12_h0_f10 : Int32) (g_h0_f10 : RG h0_f10 0 240) (g_h0_f17 : RG h0_f17 0 1) (g_h0_f26 : RG h0_f26 0 8) (g_h0_f27 : RG h0_f27 0 3) (g_h0_f28 : RG h0_f28 0 8) (g_h0_f29 : RG h0_f29 0 3) (g_h0_f30 : RG h0_f30 0 4) (g_h0_f31 : RG h0_f31 0 1) (g_h0_f34 : RG h0_f34 (-1) 3) (g_h0_f41 : RG h0_f41 0 40) (g_h0_f51 : RG h0_f51 0 10) (g_h0_f53 : RG h0_f53 0 1) (g_h0_f6 : RG h0_f6 0 240) (g_h0_f7 : RG h0_f7 0 4) (g_h0_f8 : RG h0_f8 0 720) (g_h0_f9 : RG h0_f9 1 240) (g_j12_h0_f10 : RG j12_h0_f10 0 240) (g_p1 : RG p1 0 0) (g_p2 : RG p2 0 0) (r_h0_f10_j12_h0_f10 : h0_f10.toInt + 0 ≤ j12_h0_f10.toInt) (hEX : RES = fx_c_X12_compares_p12 h0_f8 h0_f9 h0_5c h0_4c j12_s0 j12_h0_f10) (H : Heap) (locs : List Loc) (ls : Array Slot) (hP : va_P (dC, dI) vwCl (wd_c_X12_compares h0 h0_f0 h0_1 h0_2 h0_3 h0_4 h0_5 h0_f6 h0_f7 h0_f8 h0_f9 j12_h0_f10 (-1) 0 h0_f13 h0_f14 h0_15 h0_16 h0_f17 h0_18 h0_19 h0_20 h0_21 h0_22 h0_23 h0_24 h0_25 h0_f26 h0_f27 h0_f28 h0_f29 h0_f30 h0_f31 h0_32 h0_33 h0_f34 h0_35 h0_36 h0_37 h0_38 h0_39 h0_40 h0_f41 h0_f42 h0_f43 h0_f44 h0_45 h0_46 h0_47 h0_48 h0_49 h0_50 h0_f51 h0_52 h0_f53 h0_5 h0_5k tN h0_5c h0_4 h0_4k h0_4c) H) (hD : va_D A (wd_c_X12_compares h0 h0_f0 h0_1 h0_2 h0_3 h0_4 h0_5 h0_f6 h0_f7 h0_f8 h0_f9 j12_h0_f10 (-1) 0 h0_f13 h0_f14 h0_15 h0_16 h0_f17 h0_18 h0_19 h0_20 h0_21 h0_22 h0_23 h0_24 h0_25 h0_f26 h0_f27 h0_f28 h0_f29 h0_f30 h0_f31 h0_32 h0_33 h0_f34 h0_35 h0_36 h0_37 h0_38 h0_39 h0_40 h0_f41 h0_f42 h0_f43 h0_f44 h0_45 h0_46 h0_47 h0_48 h0_49 h0_50 h0_f51 h0_52 h0_f53 h0_5 h0_5k tN h0_5c h0_4 h0_4k h0_4c)) (hS : va_S A s.heap H locs) (hl : lv_has ls 6 [(0, .ref h0)]), G H locs (F0 m 12 ls [.int j12_s0]) := by
    as_aux_lemma =>
    intro j12_s0 j12_h0_f10 g_h0_f10 g_h0_f17 g_h0_f26 g_h0_f27 g_h0_f28 g_h0_f29 g_h0_f30 g_h0_f31 g_h0_f34 g_h0_f41 g_h0_f51 g_h0_f53 g_h0_f6 g_h0_f7 g_h0_f8 g_h0_f9 g_j12_h0_f10 g_p1 g_p2 r_h0_f10_j12_h0_f10 hEX H locs ls hP hD hS hl
    refine hG _ _ _ ?_
    refine lv_istore_n (lv' := [(3, .int j12_s0), (0, .ref h0)]) hx hb dX12_compares_12 rfl hl (Nat.le_of_ble_eq_true rfl) rfl (fun ls hl => ?_)
    refine lv_aload_n hx hb dX12_compares_13 rfl (lv_at hl 1 rfl) ?_
    refine va_get (D := (dC, dI)) (ci := 12) (v := .int (-1)) (C := RX12) (T := TX12) (N := 54) hx hb hts iw_c_X12_compares_X12 hown hK hP 0 rfl rfl 11 (by decide +kernel) (hts (.fieldLink RX12 143 "BuoyVoteModel" "fault" "I") (List.mem_of_getElem? (i := 65) rfl)) (fun _ h9 => h9) rfl dX12_compares_14 ?_
    refine lv_iconst (v := (-1)) hx hb dX12_compares_17 kc_iconst_m1 ?_
    refine lv_icmp_eq (tgt := 23) hx hb dX12_compares_18 rfl (fun c_1 => ?_) (fun c_1 => absurd c_1 (by decide +kernel))
    refine lv_aload_n hx hb dX12_compares_23 rfl (lv_at hl 1 rfl) ?_
    obtain ⟨hPc, hDc, hFc, hqc⟩ := cl_cut (wc := (wd_c_X12_look h0 h0_f0 h0_1 h0_2 h0_3 h0_4 h0_5 h0_f6 h0_f7 h0_f8 h0_f9 j12_h0_f10 (-1) 0 h0_f13 h0_f14 h0_15 h0_16 h0_f17 h0_18 h0_19 h0_20 h0_21 h0_22 h0_23 h0_24 h0_25 h0_f26 h0_f27 h0_f28 h0_f29 h0_f30 h0_f31 h0_32 h0_33 h0_f34 h0_35 h0_36 h0_37 h0_38 h0_39 h0_40 h0_f41 h0_f42 h0_f43 h0_f44 h0_45 h0_46 h0_47 h0_48 h0_49 h0_50 h0_f51 h0_52 h0_f53 h0_5 h0_5k tN h0_5c)) hP hD hS hA [0, 1] (by decide +kernel) rfl
    have hKc := hK.sub (tys' := [(h0_5k, .byte)]) [0] rfl
    have hrv := va_recv hKc hPc (ci := 12) (q0 := 0) rfl rfl
    refine va_calli (va_runV (As := []) (rest := []) ⟨hx, hb, hml, hown, hts⟩ (c_X12_look l dC dI H.size h0 h0_f0 h0_1 h0_2 h0_3 h0_4 h0_5 h0_f6 h0_f7 h0_f8 h0_f9 j12_h0_f10 0 h0_f13 h0_f14 h0_15 h0_16 h0_f17 h0_18 h0_19 h0_20 h0_21 h0_22 h0_23 h0_24 h0_25 h0_f26 h0_f27 h0_f28 h0_f29 h0_f30 h0_f31 h0_32 h0_33 h0_f34 h0_35 h0_36 h0_37 h0_38 h0_39 h0_40 h0_f41 h0_f42 h0_f43 h0_f44 h0_45 h0_46 h0_47 h0_48 h0_49 h0_50 h0_f51 h0_52 h0_f53 h0_5k h0_5c tN g_h0_f6 g_h0_f7 g_h0_f8 (RG_w g_h0_f9 (by decide +kernel)) g_j12_h0_f10 g_h0_f17 g_h0_f26 g_h0_f27 g_h0_f28 g_h0_f29 g_h0_f30 g_h0_f31 g_h0_f34 g_h0_f41 g_h0_f51 g_h0_f53 htN) (cwV 0 hts gf_c_X12_compares_c_X12_look rfl rfl rfl mdV_X12_look ⟨Nat.le_of_ble_eq_true rfl, Nat.le_of_ble_eq_true rfl⟩) ⟨fun a U g mk q => by obtain ⟨q0, q1, qP, qK, qD⟩ := q; exact ⟨q0, q1, qP, va_K.moved (u := U) (U := U.calling g mk a) (Vm.Alike.refl U.vm) qK, qD⟩, hrv, fun U hU hW => ⟨rfl, by rw [hU], by rw [hU]; exact hPc, va_K.moved hW.alike hKc, hDc.weaken (fun _ _ _ _ => trivial)⟩⟩ rfl rfl hl.1 rfl (lv_room (Nat.le_of_ble_eq_true rfl)) dX12_compares_24 ⟨Nat.le_of_ble_eq_true rfl, Nat.le_of_ble_eq_true rfl⟩) hS (fun q _ h => hFc q h) hFc (fun r_2 x_3 t H1 locs ht hvm hw hB hz1 hk1 hS => ?_)
    obtain ⟨hP1, hK1, hD1⟩ := hB
    rw [ht] at hP1
    obtain ⟨hP, hD⟩ := cl_put (w1 := (wd_c_X12_look h0 h0_f0 h0_1 h0_2 h0_3 h0_4 h0_5 h0_f6 h0_f7 h0_f8 h0_f9 x_3 (-1) 0 h0_f13 h0_f14 h0_15 h0_16 h0_f17 h0_18 h0_19 h0_20 h0_21 h0_22 h0_23 h0_24 h0_25 h0_f26 h0_f27 h0_f28 h0_f29 h0_f30 h0_f31 h0_32 h0_33 h0_f34 h0_35 h0_36 h0_37 h0_38 h0_39 h0_40 h0_f41 h0_f42 h0_f43 h0_f44 h0_45 h0_46 h0_47 h0_48 h0_49 h0_50 h0_f51 h0_52 h0_f53 h0_5 h0_5k tN h0_5c)) (nw := (wd_c_X12_compares h0 h0_f0 h0_1 h0_2 h0_3 h0_4 h0_5 h0_f6 h0_f7 h0_f8 h0_f9 x_3 (-1) 0 h0_f13 h0_f14 h0_15 h0_16 h0_f17 h0_18 h0_19 h0_20 h0_21 h0_22 h0_23 h0_24 h0_25 h0_f26 h0_f27 h0_f28 h0_f29 h0_f30 h0_f31 h0_32 h0_33 h0_f34 h0_35 h0_36 h0_37 h0_38 h0_39 h0_40 h0_f41 h0_f42 h0_f43 h0_f44 h0_45 h0_46 h0_47 h0_48 h0_49 h0_50 h0_f51 h0_52 h0_f53 h0_5 h0_5k tN h0_5c h0_4 h0_4k h0_4c)) hP hD [0, 1] [3, 4, 2] 3 rfl hqc (by decide +kernel) rfl hk1 hFc hP1 hD1
    generalize H1 = H at hP hS ⊢
    as_aux_lemma =>
    rcases hw with ⟨h_4, h_5, h_6, h_7, h_8, h_9⟩ | ⟨h_10, h_11, h_12, h_13, h_14, h_15, h_16⟩
    · have h_9 : (r_2, x_3) = _ := h_9
      replace hEX := hEX.trans (exc2_eq h_9)
      replace hEX := hEX.trans (if_pos (show r_2 = (-1) from h_4))
      rw [h_4]
      refine lv_istore (lv' := [(4, .int (-1)), (3, .int j12_s0), (0, .ref h0)]) hx hb dX12_compares_27 hl (Nat.le_of_ble_eq_true rfl) rfl (fun ls hl => ?_)
      refine lv_iload hx hb dX12_compares_29 (lv_at hl 0 rfl) ?_
      obtain ⟨hPc, hDc, hFc, hqc⟩ := cl_cut (wc := []) hP hD hS hA [] (by decide +kernel) rfl
      have hKc := hK.sub (tys' := []) [] rfl
      refine va_calli (va_runS (As := [.int (-1)]) (rest := []) ⟨hx, hb, hml, hown, hts⟩ (c_X12_isSign l dC dI H.size (-1) (RG_k (-1) (-1) rfl)) (va_cwS 1 hts gf_c_X12_compares_c_X12_isSign rfl rfl rfl md_X12_isSign ⟨Nat.le_of_ble_eq_true rfl, Nat.le_of_ble_eq_true rfl⟩) ⟨fun a U g mk q => by obtain ⟨q0, q1, qP, qK, qD⟩ := q; exact ⟨q0, q1, qP, va_K.moved (u := U) (U := U.calling g mk a) (Vm.Alike.refl U.vm) qK, qD⟩, fun U hU hW => ⟨rfl, by rw [hU], by rw [hU]; exact hPc, va_K.moved hW.alike hKc, hDc.weaken (fun _ _ _ _ => trivial)⟩⟩ rfl rfl hl.1 rfl (lv_room (Nat.le_of_ble_eq_true rfl)) dX12_compares_31 ⟨Nat.le_of_ble_eq_true rfl, Nat.le_of_ble_eq_true rfl⟩) hS (fun q _ h => hFc q h) hFc (fun r_17 u t H1 locs ht hvm hw hB hz1 hk1 hS => ?_)
      obtain ⟨hP1, hK1, hD1⟩ := hB
      rw [ht] at hP1
      have hP := bv_still hP hk1
      generalize H1 = H at hP hS ⊢
      as_aux_lemma =>
      rcases hw with ⟨h_18, h_19⟩
      have h_19 : r_17 = _ := h_19
      replace hEX := hEX.trans (exc1_eq h_19)
      rw [h_18]
      refine lv_if_ne (tgt := 42) hx hb dX12_compares_34 rfl (fun c_20 => absurd c_20 (by decide +kernel)) (fun c_20 => ?_)
      refine lv_aload_n hx hb dX12_compares_37 rfl (lv_at hl 2 rfl) ?_
      obtain ⟨hPc, hDc, hFc, hqc⟩ := cl_cut (wc := (wd_c_X12_fails h0 h0_f0 h0_1 h0_2 h0_3 h0_4 h0_5 h0_f6 h0_f7 h0_f8 h0_f9 x_3 (-1) 0 h0_f13 h0_f14 h0_15 h0_16 h0_f17 h0_18 h0_19 h0_20 h0_21 h0_22 h0_23 h0_24 h0_25 h0_f26 h0_f27 h0_f28 h0_f29 h0_f30 h0_f31 h0_32 h0_33 h0_f34 h0_35 h0_36 h0_37 h0_38 h0_39 h0_40 h0_f41 h0_f42 h0_f43 h0_f44 h0_45 h0_46 h0_47 h0_48 h0_49 h0_50 h0_f51 h0_52 h0_f53)) hP hD hS hA [0] (by decide +kernel) rfl
      have hKc := hK.sub (tys' := []) [] rfl
      have hrv := va_recv hKc hPc (ci := 12) (q0 := 0) rfl rfl
      refine va_calli (va_runV (As := []) (rest := []) ⟨hx, hb, hml, hown, hts⟩ (c_X12_fails l dC dI H.size h0 h0_f0 h0_1 h0_2 h0_3 h0_4 h0_5 h0_f6 h0_f7 h0_f8 h0_f9 x_3 0 h0_f13 h0_f14 h0_15 h0_16 h0_f17 h0_18 h0_19 h0_20 h0_21 h0_22 h0_23 h0_24 h0_25 h0_f26 h0_f27 h0_f28 h0_f29 h0_f30 h0_f31 h0_32 h0_33 h0_f34 h0_35 h0_36 h0_37 h0_38 h0_39 h0_40 h0_f41 h0_f42 h0_f43 h0_f44 h0_45 h0_46 h0_47 h0_48 h0_49 h0_50 h0_f51 h0_52 h0_f53 g_h0_f6 g_h0_f7 g_h0_f8 (RG_w g_h0_f9 (by decide +kernel)) h_5 g_h0_f17 g_h0_f26 g_h0_f27 g_h0_f28 g_h0_f29 g_h0_f30 g_h0_f31 g_h0_f34 g_h0_f41 g_h0_f51 g_h0_f53) (cwV 0 hts gf_c_X12_compares_c_X12_fails rfl rfl rfl mdV_X12_fails ⟨Nat.le_of_ble_eq_true rfl, Nat.le_of_ble_eq_true rfl⟩) ⟨fun a U g mk q => by obtain ⟨q0, q1, qP, qK, qD⟩ := q; exact ⟨q0, q1, qP, va_K.moved (u := U) (U := U.calling g mk a) (Vm.Alike.refl U.vm) qK, qD⟩, hrv, fun U hU hW => ⟨rfl, by rw [hU], by rw [hU]; exact hPc, va_K.moved hW.alike hKc, hDc.weaken (fun _ _ _ _ => trivial)⟩⟩ rfl rfl hl.1 rfl (lv_room (Nat.le_of_ble_eq_true rfl)) dX12_compares_38 ⟨Nat.le_of_ble_eq_true rfl, Nat.le_of_ble_eq_true rfl⟩) hS (fun q _ h => hFc q h) hFc (fun r_21 u t H1 locs ht hvm hw hB hz1 hk1 hS => ?_)
      obtain ⟨hP1, hK1, hD1⟩ := hB
      rw [ht] at hP1
      obtain ⟨hP, hD⟩ := cl_put (w1 := (wd_c_X12_fails h0 h0_f0 h0_1 h0_2 h0_3 h0_4 h0_5 h0_f6 h0_f7 h0_f8 h0_f9 x_3 x_3 0 h0_f13 h0_f14 h0_15 h0_16 h0_f17 h0_18 h0_19 h0_20 h0_21 h0_22 h0_23 h0_24 h0_25 h0_f26 h0_f27 h0_f28 h0_f29 h0_f30 h0_f31 h0_32 h0_33 h0_f34 h0_35 h0_36 h0_37 h0_38 h0_39 h0_40 h0_f41 h0_f42 h0_f43 h0_f44 h0_45 h0_46 h0_47 h0_48 h0_49 h0_50 h0_f51 h0_52 h0_f53)) (nw := (wd_c_X12_compares h0 h0_f0 h0_1 h0_2 h0_3 h0_4 h0_5 h0_f6 h0_f7 h0_f8 h0_f9 x_3 x_3 0 h0_f13 h0_f14 h0_15 h0_16 h0_f17 h0_18 h0_19 h0_20 h0_21 h0_22 h0_23 h0_24 h0_25 h0_f26 h0_f27 h0_f28 h0_f29 h0_f30 h0_f31 h0_32 h0_33 h0_f34 h0_35 h0_36 h0_37 h0_38 h0_39 h0_40 h0_f41 h0_f42 h0_f43 h0_f44 h0_45 h0_46 h0_47 h0_48 h0_49 h0_50 h0_f51 h0_52 h0_f53 h0_5 h0_5k tN h0_5c h0_4 h0_4k h0_4c)) hP hD [0] [3, 1, 2] 3 rfl hqc (by decide +kernel) rfl hk1 hFc hP1 hD1
      generalize H1 = H at hP hS ⊢
      as_aux_lemma =>
      rcases hw with ⟨h_22, h_23⟩
      have h_23 : r_21 = _ := h_23
      replace hEX := hEX.trans (exc1_eq h_23)
      rw [h_22]
      have hK9 := hK.sub (tys' := []) [] rfl
      exact W.zret (v := 0) hx hb hr rfl (fun t ht hW => ⟨⟨0, (x_3, x_3, 0), rfl, (Or.inr ⟨(RG_w (RG_k 0 0 rfl) (by decide +kernel)), h_5, h_5, (RG_w (RG_k 0 0 rfl) (by decide +kernel)), (by have := r_h0_f10_j12_h0_f10; have := h_6; show h0_f10.toInt + 0 ≤ x_3.toInt; omega), (hR.trans hEX).symm⟩), by rw [ht]; exact hP, va_K.moved hW.alike hK9, hD⟩, hS.F ht⟩) hS.2.2 dX12_compares_41
    · have h_16 : (r_2, x_3) = _ := h_16
      replace hEX := hEX.trans (exc2_eq h_16)
      replace hEX := hEX.trans (if_neg (RG_neq (x := r_2) (c := (-1)) (show RG r_2 0 255 from h_10) (by decide +kernel)))
      have nb_24 := h_15.2.resolve_left (fun q => by have g9 := h_10; rw [q] at g9; exact absurd g9.1 (by decide +kernel))
      refine lv_istore (lv' := [(4, .int r_2), (3, .int j12_s0), (0, .ref h0)]) hx hb dX12_compares_27 hl (Nat.le_of_ble_eq_true rfl) rfl (fun ls hl => ?_)
      refine lv_iload hx hb dX12_compares_29 (lv_at hl 0 rfl) ?_
      obtain ⟨hPc, hDc, hFc, hqc⟩ := cl_cut (wc := []) hP hD hS hA [] (by decide +kernel) rfl
      have hKc := hK.sub (tys' := []) [] rfl
      refine va_calli (va_runS (As := [.int r_2]) (rest := []) ⟨hx, hb, hml, hown, hts⟩ (c_X12_isSign_1 l dC dI H.size r_2 h_10) (va_cwS 1 hts gf_c_X12_compares_c_X12_isSign_1 rfl rfl rfl md_X12_isSign ⟨Nat.le_of_ble_eq_true rfl, Nat.le_of_ble_eq_true rfl⟩) ⟨fun a U g mk q => by obtain ⟨q0, q1, qP, qK, qD⟩ := q; exact ⟨q0, q1, qP, va_K.moved (u := U) (U := U.calling g mk a) (Vm.Alike.refl U.vm) qK, qD⟩, fun U hU hW => ⟨rfl, by rw [hU], by rw [hU]; exact hPc, va_K.moved hW.alike hKc, hDc.weaken (fun _ _ _ _ => trivial)⟩⟩ rfl rfl hl.1 rfl (lv_room (Nat.le_of_ble_eq_true rfl)) dX12_compares_31 ⟨Nat.le_of_ble_eq_true rfl, Nat.le_of_ble_eq_true rfl⟩) hS (fun q _ h => hFc q h) hFc (fun r_25 u t H1 locs ht hvm hw hB hz1 hk1 hS => ?_)
      as_aux_lemma =>
      obtain ⟨hP1, hK1, hD1⟩ := hB
      rw [ht] at hP1
      have hP := bv_still hP hk1
      generalize H1 = H at hP hS ⊢
      as_aux_lemma =>
      rcases hw with ⟨h_26, h_27⟩ | ⟨h_28, h_29, h_30⟩
      · have h_27 : r_25 = _ := h_27
        replace hEX := hEX.trans (exc1_eq h_27)
        replace hEX := hEX.trans (if_pos (show r_25 = 0 from h_26))
        rw [h_26]
        refine lv_if_ne (tgt := 42) hx hb dX12_compares_34 rfl (fun c_31 => absurd c_31 (by decide +kernel)) (fun c_31 => ?_)
        refine lv_aload_n hx hb dX12_compares_37 rfl (lv_at hl 2 rfl) ?_
        obtain ⟨hPc, hDc, hFc, hqc⟩ := cl_cut (wc := (wd_c_X12_fails h0 h0_f0 h0_1 h0_2 h0_3 h0_4 h0_5 h0_f6 h0_f7 h0_f8 h0_f9 x_3 (-1) 0 h0_f13 h0_f14 h0_15 h0_16 h0_f17 h0_18 h0_19 h0_20 h0_21 h0_22 h0_23 h0_24 h0_25 h0_f26 h0_f27 h0_f28 h0_f29 h0_f30 h0_f31 h0_32 h0_33 h0_f34 h0_35 h0_36 h0_37 h0_38 h0_39 h0_40 h0_f41 h0_f42 h0_f43 h0_f44 h0_45 h0_46 h0_47 h0_48 h0_49 h0_50 h0_f51 h0_52 h0_f53)) hP hD hS hA [0] (by decide +kernel) rfl
        have hKc := hK.sub (tys' := []) [] rfl
        have hrv := va_recv hKc hPc (ci := 12) (q0 := 0) rfl rfl
        refine va_calli (va_runV (As := []) (rest := []) ⟨hx, hb, hml, hown, hts⟩ (c_X12_fails l dC dI H.size h0 h0_f0 h0_1 h0_2 h0_3 h0_4 h0_5 h0_f6 h0_f7 h0_f8 h0_f9 x_3 0 h0_f13 h0_f14 h0_15 h0_16 h0_f17 h0_18 h0_19 h0_20 h0_21 h0_22 h0_23 h0_24 h0_25 h0_f26 h0_f27 h0_f28 h0_f29 h0_f30 h0_f31 h0_32 h0_33 h0_f34 h0_35 h0_36 h0_37 h0_38 h0_39 h0_40 h0_f41 h0_f42 h0_f43 h0_f44 h0_45 h0_46 h0_47 h0_48 h0_49 h0_50 h0_f51 h0_52 h0_f53 g_h0_f6 g_h0_f7 g_h0_f8 (RG_w g_h0_f9 (by decide +kernel)) (RG_w h_11 (by decide +kernel)) g_h0_f17 g_h0_f26 g_h0_f27 g_h0_f28 g_h0_f29 g_h0_f30 g_h0_f31 g_h0_f34 g_h0_f41 g_h0_f51 g_h0_f53) (cwV 0 hts gf_c_X12_compares_c_X12_fails rfl rfl rfl mdV_X12_fails ⟨Nat.le_of_ble_eq_true rfl, Nat.le_of_ble_eq_true rfl⟩) ⟨fun a U g mk q => by obtain ⟨q0, q1, qP, qK, qD⟩ := q; exact ⟨q0, q1, qP, va_K.moved (u := U) (U := U.calling g mk a) (Vm.Alike.refl U.vm) qK, qD⟩, hrv, fun U hU hW => ⟨rfl, by rw [hU], by rw [hU]; exact hPc, va_K.moved hW.alike hKc, hDc.weaken (fun _ _ _ _ => trivial)⟩⟩ rfl rfl hl.1 rfl (lv_room (Nat.le_of_ble_eq_true rfl)) dX12_compares_38 ⟨Nat.le_of_ble_eq_true rfl, Nat.le_of_ble_eq_true rfl⟩) hS (fun q _ h => hFc q h) hFc (fun r_32 u t H1 locs ht hvm hw hB hz1 hk1 hS => ?_)
        obtain ⟨hP1, hK1, hD1⟩ := hB
        rw [ht] at hP1
        obtain ⟨hP, hD⟩ := cl_put (w1 := (wd_c_X12_fails h0 h0_f0 h0_1 h0_2 h0_3 h0_4 h0_5 h0_f6 h0_f7 h0_f8 h0_f9 x_3 x_3 0 h0_f13 h0_f14 h0_15 h0_16 h0_f17 h0_18 h0_19 h0_20 h0_21 h0_22 h0_23 h0_24 h0_25 h0_f26 h0_f27 h0_f28 h0_f29 h0_f30 h0_f31 h0_32 h0_33 h0_f34 h0_35 h0_36 h0_37 h0_38 h0_39 h0_40 h0_f41 h0_f42 h0_f43 h0_f44 h0_45 h0_46 h0_47 h0_48 h0_49 h0_50 h0_f51 h0_52 h0_f53)) (nw := (wd_c_X12_compares h0 h0_f0 h0_1 h0_2 h0_3 h0_4 h0_5 h0_f6 h0_f7 h0_f8 h0_f9 x_3 x_3 0 h0_f13 h0_f14 h0_15 h0_16 h0_f17 h0_18 h0_19 h0_20 h0_21 h0_22 h0_23 h0_24 h0_25 h0_f26 h0_f27 h0_f28 h0_f29 h0_f30 h0_f31 h0_32 h0_33 h0_f34 h0_35 h0_36 h0_37 h0_38 h0_39 h0_40 h0_f41 h0_f42 h0_f43 h0_f44 h0_45 h0_46 h0_47 h0_48 h0_49 h0_50 h0_f51 h0_52 h0_f53 h0_5 h0_5k tN h0_5c h0_4 h0_4k h0_4c)) hP hD [0] [3, 1, 2] 3 rfl hqc (by decide +kernel) rfl hk1 hFc hP1 hD1
        generalize H1 = H at hP hS ⊢
        as_aux_lemma =>
        rcases hw with ⟨h_33, h_34⟩
        have h_34 : r_32 = _ := h_34
        replace hEX := hEX.trans (exc1_eq h_34)
        rw [h_33]
        have hK9 := hK.sub (tys' := []) [] rfl
        exact W.zret (v := 0) hx hb hr rfl (fun t ht hW => ⟨⟨0, (x_3, x_3, 0), rfl, (Or.inr ⟨(RG_w (RG_k 0 0 rfl) (by decide +kernel)), (RG_w h_11 (by decide +kernel)), (RG_w h_11 (by decide +kernel)), (RG_w (RG_k 0 0 rfl) (by decide +kernel)), (by have := r_h0_f10_j12_h0_f10; have := h_13; show h0_f10.toInt + 0 ≤ x_3.toInt; omega), (hR.trans hEX).symm⟩), by rw [ht]; exact hP, va_K.moved hW.alike hK9, hD⟩, hS.F ht⟩) hS.2.2 dX12_compares_41
      · have h_30 : r_25 = _ := h_30
        replace hEX := hEX.trans (exc1_eq h_30)
        replace hEX := hEX.trans (if_neg (fun q9 : r_25 = 0 => absurd ((show r_25 = 1 from h_28).symm.trans q9) (by decide +kernel)))
        rw [h_28]
        refine lv_if_ne (tgt := 42) hx hb dX12_compares_34 rfl (fun c_35 => ?_) (fun c_35 => absurd c_35 (by decide +kernel))
        refine lv_aload_n hx hb dX12_compares_42 rfl (lv_at hl 2 rfl) ?_
        refine lv_dup hx hb dX12_compares_43 rfl ?_
        refine va_get (D := (dC, dI)) (ci := 12) (v := .int x_3) (C := RX12) (T := TX12) (N := 54) hx hb hts iw_c_X12_compares_X12 hown hK hP 0 rfl rfl 10 (by decide +kernel) (hts (.fieldLink RX12 134 "BuoyVoteModel" "at" "I") (List.mem_of_getElem? (i := 18) rfl)) (fun _ h9 => h9) rfl dX12_compares_44 ?_
        as_aux_lemma =>
        refine lv_iconst (v := 1) hx hb dX12_compares_47 kc_iconst_1 ?_
        refine lv_iadd hx hb dX12_compares_48 ?_
        refine lv_topi (fun x_36 ex_36 => ?_)
        replace hEX := hEX.trans (exl_eq ex_36)
        have g_37 : RG x_36 1 240 := RG_add ex_36 h_11 (RG_k 1 1 rfl) (by decide +kernel)
        have q_38 : x_36.toInt = x_3.toInt + 1 := eq_add ex_36 h_11 (q := 1) rfl (by decide +kernel)
        refine va_put (D := (dC, dI)) (ci := 12) (v := .int x_36) (ty := .int) (C := RX12) (T := TX12) (N := 54) hx hb hts iw_c_X12_compares_X12 tyX12 tyX12_ok nmX12 hown hK hP hD hS 0 rfl rfl 10 (by decide +kernel) (hts (.fieldLink RX12 134 "BuoyVoteModel" "at" "I") (List.mem_of_getElem? (i := 18) rfl)) (fun _ h9 => h9) rfl (by decide +kernel) rfl rfl (Nat.le_of_ble_eq_true rfl) dX12_compares_49 (fun H locs hP hD hS => ?_)
        have hP : va_P (dC, dI) vwCl (wd_c_X12_compares h0 h0_f0 h0_1 h0_2 h0_3 h0_4 h0_5 h0_f6 h0_f7 h0_f8 h0_f9 x_36 (-1) 0 h0_f13 h0_f14 h0_15 h0_16 h0_f17 h0_18 h0_19 h0_20 h0_21 h0_22 h0_23 h0_24 h0_25 h0_f26 h0_f27 h0_f28 h0_f29 h0_f30 h0_f31 h0_32 h0_33 h0_f34 h0_35 h0_36 h0_37 h0_38 h0_39 h0_40 h0_f41 h0_f42 h0_f43 h0_f44 h0_45 h0_46 h0_47 h0_48 h0_49 h0_50 h0_f51 h0_52 h0_f53 h0_5 h0_5k tN h0_5c h0_4 h0_4k h0_4c) H := hP
        have hD : va_D A (wd_c_X12_compares h0 h0_f0 h0_1 h0_2 h0_3 h0_4 h0_5 h0_f6 h0_f7 h0_f8 h0_f9 x_36 (-1) 0 h0_f13 h0_f14 h0_15 h0_16 h0_f17 h0_18 h0_19 h0_20 h0_21 h0_22 h0_23 h0_24 h0_25 h0_f26 h0_f27 h0_f28 h0_f29 h0_f30 h0_f31 h0_32 h0_33 h0_f34 h0_35 h0_36 h0_37 h0_38 h0_39 h0_40 h0_f41 h0_f42 h0_f43 h0_f44 h0_45 h0_46 h0_47 h0_48 h0_49 h0_50 h0_f51 h0_52 h0_f53 h0_5 h0_5k tN h0_5c h0_4 h0_4k h0_4c) := hD
        refine lv_aload_n hx hb dX12_compares_52 rfl (lv_at hl 2 rfl) ?_
        obtain ⟨hPc, hDc, hFc, hqc⟩ := cl_cut (wc := (wd_c_X12_sum h0 h0_f0 h0_1 h0_2 h0_3 h0_4 h0_5 h0_f6 h0_f7 h0_f8 h0_f9 x_36 (-1) 0 h0_f13 h0_f14 h0_15 h0_16 h0_f17 h0_18 h0_19 h0_20 h0_21 h0_22 h0_23 h0_24 h0_25 h0_f26 h0_f27 h0_f28 h0_f29 h0_f30 h0_f31 h0_32 h0_33 h0_f34 h0_35 h0_36 h0_37 h0_38 h0_39 h0_40 h0_f41 h0_f42 h0_f43 h0_f44 h0_45 h0_46 h0_47 h0_48 h0_49 h0_50 h0_f51 h0_52 h0_f53 h0_5 h0_5k tN h0_5c h0_4 h0_4k h0_4c)) hP hD hS hA [0, 1, 2] (by decide +kernel) rfl
        have hKc := hK.sub (tys' := [(h0_5k, .byte), (h0_4k, .int)]) [0, 1] rfl
        have hrv := va_recv hKc hPc (ci := 12) (q0 := 0) rfl rfl
        refine va_calli (va_runV (As := []) (rest := []) ⟨hx, hb, hml, hown, hts⟩ (c_X12_sum l dC dI H.size h0 h0_f0 h0_1 h0_2 h0_3 h0_4 h0_5 h0_f6 h0_f7 h0_f8 h0_f9 x_36 h0_f13 h0_f14 h0_15 h0_16 h0_f17 h0_18 h0_19 h0_20 h0_21 h0_22 h0_23 h0_24 h0_25 h0_f26 h0_f27 h0_f28 h0_f29 h0_f30 h0_f31 h0_32 h0_33 h0_f34 h0_35 h0_36 h0_37 h0_38 h0_39 h0_40 h0_f41 h0_f42 h0_f43 h0_f44 h0_45 h0_46 h0_47 h0_48 h0_49 h0_50 h0_f51 h0_52 h0_f53 h0_5k h0_5c tN h0_4k h0_4c ts7 tv7 g_h0_f6 g_h0_f7 g_h0_f8 (RG_w g_h0_f9 (by decide +kernel)) (RG_w g_37 (by decide +kernel)) g_h0_f17 g_h0_f26 g_h0_f27 g_h0_f28 g_h0_f29 g_h0_f30 g_h0_f31 g_h0_f34 g_h0_f41 g_h0_f51 g_h0_f53 htN a_h0_4c) (cwV 0 hts gf_c_X12_compares_c_X12_sum rfl rfl rfl mdV_X12_sum ⟨Nat.le_of_ble_eq_true rfl, Nat.le_of_ble_eq_true rfl⟩) ⟨fun a U g mk q => by obtain ⟨q0, q1, qP, qK, qD, qE0, qE1, qE2, qE3, qE4, qE5, qE6⟩ := q; exact ⟨q0, q1, qP, va_K.moved (u := U) (U := U.calling g mk a) (Vm.Alike.refl U.vm) qK, qD, vk_R.same rfl qE0, va_OF.moved (u := U) (U := U.calling g mk a) (Vm.Alike.refl U.vm) qE1, va_T.moved (u := U) (U := U.calling g mk a) (Vm.Alike.refl U.vm) qE2, va_Z.moved (u := U) (U := U.calling g mk a) (Vm.Alike.refl U.vm) qE3, va_OF.moved (u := U) (U := U.calling g mk a) (Vm.Alike.refl U.vm) qE4, va_O.moved (u := U) (U := U.calling g mk a) (Vm.Alike.refl U.vm) qE5, va_Zq.moved (u := U) (U := U.calling g mk a) (Vm.Alike.refl U.vm) qE6⟩, hrv, fun U hU hW => ⟨rfl, by rw [hU], by rw [hU]; exact hPc, va_K.moved hW.alike hKc, hDc.weaken (fun _ _ _ _ => trivial), vk_R.warm hW hE_47, va_OF.moved hW.alike (by rw [hU]; exact (hE_50.kept hS.2.1).narrow hFc), va_T.moved hW.alike (by rw [hU]; exact (hE_51.kept hS.2.1).narrow hFc), va_Z.moved hW.alike (by rw [hU]; exact (hE_10.kept hS.2.1).narrow hFc), va_OF.moved hW.alike (by rw [hU]; exact (hE_49.kept hS.2.1).narrow hFc), va_O.moved hW.alike (by rw [hU]; exact (hE_48.kept hS.2.1).narrow hFc), va_Zq.moved hW.alike (by rw [hU]; exact (hE_11.kept hS.2.1).narrow hFc)⟩⟩ rfl rfl hl.1 rfl (lv_room (Nat.le_of_ble_eq_true rfl)) dX12_compares_53 ⟨Nat.le_of_ble_eq_true rfl, Nat.le_of_ble_eq_true rfl⟩) hS (fun q _ h => hFc q h) hFc (fun r_39 u t H1 locs ht hvm hw hB hz1 hk1 hS => ?_)
        as_aux_lemma =>
        obtain ⟨x_40, x_41, x_42⟩ := u
        obtain ⟨hP1, hK1, hD1⟩ := hB
        rw [ht] at hP1
        obtain ⟨hP, hD⟩ := cl_put (w1 := (wd_c_X12_sum h0 h0_f0 h0_1 h0_2 h0_3 h0_4 h0_5 h0_f6 h0_f7 h0_f8 h0_f9 x_40 x_41 x_42 h0_f13 h0_f14 h0_15 h0_16 h0_f17 h0_18 h0_19 h0_20 h0_21 h0_22 h0_23 h0_24 h0_25 h0_f26 h0_f27 h0_f28 h0_f29 h0_f30 h0_f31 h0_32 h0_33 h0_f34 h0_35 h0_36 h0_37 h0_38 h0_39 h0_40 h0_f41 h0_f42 h0_f43 h0_f44 h0_45 h0_46 h0_47 h0_48 h0_49 h0_50 h0_f51 h0_52 h0_f53 h0_5 h0_5k tN h0_5c h0_4 h0_4k h0_4c)) (nw := (wd_c_X12_compares h0 h0_f0 h0_1 h0_2 h0_3 h0_4 h0_5 h0_f6 h0_f7 h0_f8 h0_f9 x_40 x_41 x_42 h0_f13 h0_f14 h0_15 h0_16 h0_f17 h0_18 h0_19 h0_20 h0_21 h0_22 h0_23 h0_24 h0_25 h0_f26 h0_f27 h0_f28 h0_f29 h0_f30 h0_f31 h0_32 h0_33 h0_f34 h0_35 h0_36 h0_37 h0_38 h0_39 h0_40 h0_f41 h0_f42 h0_f43 h0_f44 h0_45 h0_46 h0_47 h0_48 h0_49 h0_50 h0_f51 h0_52 h0_f53 h0_5 h0_5k tN h0_5c h0_4 h0_4k h0_4c)) hP hD [0, 1, 2] [3, 4, 5] 3 rfl hqc (by decide +kernel) rfl hk1 hFc hP1 hD1
        generalize H1 = H at hP hS ⊢
        as_aux_lemma =>
        rcases hw with ⟨h_43, h_44, h_45, h_46, h_47, h_48, h_49⟩ | ⟨h_50, h_51, h_52, h_53, h_54, h_55⟩
        · have h_49 : (r_39, x_40, x_41, x_42) = _ := h_49
          replace hEX := hEX.trans (exc4_eq h_49)
          replace hEX := hEX.trans (if_pos (show x_41 = (-1) from h_45))
          subst h_45
          subst h_46
          have h_48 : x_36.toInt + 0 ≤ x_40.toInt := h_48
          refine lv_istore (lv' := [(5, .int r_39), (4, .int r_2), (3, .int j12_s0), (0, .ref h0)]) hx hb dX12_compares_56 hl (Nat.le_of_ble_eq_true rfl) rfl (fun ls hl => ?_)
          refine lv_iload hx hb dX12_compares_58 (lv_at hl 1 rfl) ?_
          refine lv_bipush (v := 61) hx hb dX12_compares_60 kc_bipush_61 ?_
          refine lv_icmp_ne (tgt := 79) hx hb dX12_compares_62 rfl (fun c_56 => ?_) (fun c_56 => ?_)
          · replace hEX := hEX.trans (if_neg c_56)
            refine lv_iload hx hb dX12_compares_79 (lv_at hl 1 rfl) ?_
            refine lv_bipush (v := 60) hx hb dX12_compares_81 kc_bipush_60 ?_
            as_aux_lemma =>
            refine lv_icmp_ne (tgt := 100) hx hb dX12_compares_83 rfl (fun c_57 => ?_) (fun c_57 => ?_)
            · replace hEX := hEX.trans (if_neg c_57)
              have g_58 : RG r_2 61 62 := RG_ne1 h_29 (q := 60) rfl c_57 (by decide +kernel)
              refine lv_iload_n hx hb dX12_compares_100 rfl (lv_at hl 2 rfl) ?_
              refine lv_iload hx hb dX12_compares_101 (lv_at hl 0 rfl) ?_
              refine lv_icmp_le (tgt := 110) hx hb dX12_compares_103 rfl (fun c_59 => ?_) (fun c_59 => ?_)
              · replace hEX := hEX.trans (if_pos c_59)
                refine lv_iconst (v := 0) hx hb dX12_compares_110 kc_iconst_0 ?_
                have hK9 := hK.sub (tys' := []) [] rfl
                exact W.zret (v := 0) hx hb hr rfl (fun t ht hW => ⟨⟨0, (x_40, (-1), 0), rfl, (Or.inl ⟨(RG_w (RG_k 0 0 rfl) (by decide +kernel)), h_44, rfl, rfl, g_h0_f9, (by have := r_h0_f10_j12_h0_f10; have := h_13; have := q_38; have := h_48; show h0_f10.toInt + 1 ≤ x_40.toInt; omega), (hR.trans hEX).symm⟩), by rw [ht]; exact hP, va_K.moved hW.alike hK9, hD⟩, hS.F ht⟩) hS.2.2 dX12_compares_111
              · replace hEX := hEX.trans (if_neg c_59)
                have d_60 := Int32.not_le.mp c_59
                have g_61 : RG r_39 (-2147483648) 2147483646 := RG_lt1 h_43 (RG_any j12_s0) d_60 (by decide +kernel)
                have g_62 : RG j12_s0 (-2147483647) 2147483647 := RG_lt2 h_43 (RG_any j12_s0) d_60 (by decide +kernel)
                refine lv_iconst (v := 1) hx hb dX12_compares_106 kc_iconst_1 ?_
                as_aux_lemma =>
                refine lv_goto (tgt := 111) hx hb dX12_compares_107 rfl ?_
                have hK9 := hK.sub (tys' := []) [] rfl
                exact W.zret (v := 1) hx hb hr rfl (fun t ht hW => ⟨⟨1, (x_40, (-1), 0), rfl, (Or.inl ⟨(RG_w (RG_k 1 1 rfl) (by decide +kernel)), h_44, rfl, rfl, g_h0_f9, (by have := r_h0_f10_j12_h0_f10; have := h_13; have := q_38; have := h_48; show h0_f10.toInt + 1 ≤ x_40.toInt; omega), (hR.trans hEX).symm⟩), by rw [ht]; exact hP, va_K.moved hW.alike hK9, hD⟩, hS.F ht⟩) hS.2.2 dX12_compares_111
            · replace hEX := hEX.trans (if_pos c_57)
              have g_63 : RG r_2 60 60 := RG_eq1 h_29 (RG_k 60 60 rfl) c_57 (by decide +kernel)
              refine lv_iload_n hx hb dX12_compares_86 rfl (lv_at hl 2 rfl) ?_
              refine lv_iload hx hb dX12_compares_87 (lv_at hl 0 rfl) ?_
              refine lv_icmp_ge (tgt := 96) hx hb dX12_compares_89 rfl (fun c_64 => ?_) (fun c_64 => ?_)
              · replace hEX := hEX.trans (if_pos c_64)
                refine lv_iconst (v := 0) hx hb dX12_compares_96 kc_iconst_0 ?_
                refine lv_goto (tgt := 111) hx hb dX12_compares_97 rfl ?_
                have hK9 := hK.sub (tys' := []) [] rfl
                exact W.zret (v := 0) hx hb hr rfl (fun t ht hW => ⟨⟨0, (x_40, (-1), 0), rfl, (Or.inl ⟨(RG_w (RG_k 0 0 rfl) (by decide +kernel)), h_44, rfl, rfl, g_h0_f9, (by have := r_h0_f10_j12_h0_f10; have := h_13; have := q_38; have := h_48; show h0_f10.toInt + 1 ≤ x_40.toInt; omega), (hR.trans hEX).symm⟩), by rw [ht]; exact hP, va_K.moved hW.alike hK9, hD⟩, hS.F ht⟩) hS.2.2 dX12_compares_111
              · replace hEX := hEX.trans (if_neg c_64)
                have d_65 := Int32.not_le.mp c_64
                have g_66 : RG j12_s0 (-2147483648) 2147483646 := RG_lt1 (RG_any j12_s0) h_43 d_65 (by decide +kernel)
                have g_67 : RG r_39 (-2147483647) 2147483647 := RG_lt2 (RG_any j12_s0) h_43 d_65 (by decide +kernel)
                refine lv_iconst (v := 1) hx hb dX12_compares_92 kc_iconst_1 ?_
                as_aux_lemma =>
                refine lv_goto (tgt := 111) hx hb dX12_compares_93 rfl ?_
                have hK9 := hK.sub (tys' := []) [] rfl
                exact W.zret (v := 1) hx hb hr rfl (fun t ht hW => ⟨⟨1, (x_40, (-1), 0), rfl, (Or.inl ⟨(RG_w (RG_k 1 1 rfl) (by decide +kernel)), h_44, rfl, rfl, g_h0_f9, (by have := r_h0_f10_j12_h0_f10; have := h_13; have := q_38; have := h_48; show h0_f10.toInt + 1 ≤ x_40.toInt; omega), (hR.trans hEX).symm⟩), by rw [ht]; exact hP, va_K.moved hW.alike hK9, hD⟩, hS.F ht⟩) hS.2.2 dX12_compares_111
          · replace hEX := hEX.trans (if_pos c_56)
            have g_68 : RG r_2 61 61 := RG_eq1 h_29 (RG_k 61 61 rfl) c_56 (by decide +kernel)
            refine lv_iload_n hx hb dX12_compares_65 rfl (lv_at hl 2 rfl) ?_
            refine lv_iload hx hb dX12_compares_66 (lv_at hl 0 rfl) ?_
            refine lv_icmp_ne (tgt := 75) hx hb dX12_compares_68 rfl (fun c_69 => ?_) (fun c_69 => ?_)
            · replace hEX := hEX.trans (if_neg c_69)
              refine lv_iconst (v := 0) hx hb dX12_compares_75 kc_iconst_0 ?_
              refine lv_goto (tgt := 111) hx hb dX12_compares_76 rfl ?_
              have hK9 := hK.sub (tys' := []) [] rfl
              exact W.zret (v := 0) hx hb hr rfl (fun t ht hW => ⟨⟨0, (x_40, (-1), 0), rfl, (Or.inl ⟨(RG_w (RG_k 0 0 rfl) (by decide +kernel)), h_44, rfl, rfl, g_h0_f9, (by have := r_h0_f10_j12_h0_f10; have := h_13; have := q_38; have := h_48; show h0_f10.toInt + 1 ≤ x_40.toInt; omega), (hR.trans hEX).symm⟩), by rw [ht]; exact hP, va_K.moved hW.alike hK9, hD⟩, hS.F ht⟩) hS.2.2 dX12_compares_111
            · replace hEX := hEX.trans (if_pos c_69)
              refine lv_iconst (v := 1) hx hb dX12_compares_71 kc_iconst_1 ?_
              as_aux_lemma =>
              refine lv_goto (tgt := 111) hx hb dX12_compares_72 rfl ?_
              have hK9 := hK.sub (tys' := []) [] rfl
              exact W.zret (v := 1) hx hb hr rfl (fun t ht hW => ⟨⟨1, (x_40, (-1), 0), rfl, (Or.inl ⟨(RG_w (RG_k 1 1 rfl) (by decide +kernel)), h_44, rfl, rfl, g_h0_f9, (by have := r_h0_f10_j12_h0_f10; have := h_13; have := q_38; have := h_48; show h0_f10.toInt + 1 ≤ x_40.toInt; omega), (hR.trans hEX).symm⟩), by rw [ht]; exact hP, va_K.moved hW.alike hK9, hD⟩, hS.F ht⟩) hS.2.2 dX12_compares_111
        · have h_55 : (r_39, x_40, x_41, x_42) = _ := h_55
          replace hEX := hEX.trans (exc4_eq h_55)
          replace hEX := hEX.trans (if_neg (RG_neq (x := x_41) (c := (-1)) (show RG x_41 0 240 from h_52) (by decide +kernel)))
          have h_54 : x_36.toInt + 0 ≤ x_40.toInt := h_54
          refine lv_istore (lv' := [(5, .int r_39), (4, .int r_2), (3, .int j12_s0), (0, .ref h0)]) hx hb dX12_compares_56 hl (Nat.le_of_ble_eq_true rfl) rfl (fun ls hl => ?_)
          refine lv_iload hx hb dX12_compares_58 (lv_at hl 1 rfl) ?_
          refine lv_bipush (v := 61) hx hb dX12_compares_60 kc_bipush_61 ?_
          refine lv_icmp_ne (tgt := 79) hx hb dX12_compares_62 rfl (fun c_70 => ?_) (fun c_70 => ?_)
          · replace hEX := hEX.trans (if_neg c_70)
            refine lv_iload hx hb dX12_compares_79 (lv_at hl 1 rfl) ?_
            refine lv_bipush (v := 60) hx hb dX12_compares_81 kc_bipush_60 ?_
            as_aux_lemma =>
            refine lv_icmp_ne (tgt := 100) hx hb dX12_compares_83 rfl (fun c_71 => ?_) (fun c_71 => ?_)
            · replace hEX := hEX.trans (if_neg c_71)
              have g_72 : RG r_2 61 62 := RG_ne1 h_29 (q := 60) rfl c_71 (by decide +kernel)
              refine lv_iload_n hx hb dX12_compares_100 rfl (lv_at hl 2 rfl) ?_
              refine lv_iload hx hb dX12_compares_101 (lv_at hl 0 rfl) ?_
              refine lv_icmp_le (tgt := 110) hx hb dX12_compares_103 rfl (fun c_73 => ?_) (fun c_73 => ?_)
              · replace hEX := hEX.trans (if_pos c_73)
                have g_74 : RG j12_s0 (-2147483648) 1000000 := RG_le1 (RG_any j12_s0) h_50 c_73 (by decide +kernel)
                refine lv_iconst (v := 0) hx hb dX12_compares_110 kc_iconst_0 ?_
                have hK9 := hK.sub (tys' := []) [] rfl
                exact W.zret (v := 0) hx hb hr rfl (fun t ht hW => ⟨⟨0, (x_40, x_41, x_42), rfl, (Or.inr ⟨(RG_w (RG_k 0 0 rfl) (by decide +kernel)), h_51, h_52, h_53, (by have := r_h0_f10_j12_h0_f10; have := h_13; have := q_38; have := h_54; show h0_f10.toInt + 0 ≤ x_40.toInt; omega), (hR.trans hEX).symm⟩), by rw [ht]; exact hP, va_K.moved hW.alike hK9, hD⟩, hS.F ht⟩) hS.2.2 dX12_compares_111
              · replace hEX := hEX.trans (if_neg c_73)
                have d_75 := Int32.not_le.mp c_73
                have g_76 : RG j12_s0 (-999999) 2147483647 := RG_lt2 h_50 (RG_any j12_s0) d_75 (by decide +kernel)
                refine lv_iconst (v := 1) hx hb dX12_compares_106 kc_iconst_1 ?_
                as_aux_lemma =>
                refine lv_goto (tgt := 111) hx hb dX12_compares_107 rfl ?_
                have hK9 := hK.sub (tys' := []) [] rfl
                exact W.zret (v := 1) hx hb hr rfl (fun t ht hW => ⟨⟨1, (x_40, x_41, x_42), rfl, (Or.inr ⟨(RG_w (RG_k 1 1 rfl) (by decide +kernel)), h_51, h_52, h_53, (by have := r_h0_f10_j12_h0_f10; have := h_13; have := q_38; have := h_54; show h0_f10.toInt + 0 ≤ x_40.toInt; omega), (hR.trans hEX).symm⟩), by rw [ht]; exact hP, va_K.moved hW.alike hK9, hD⟩, hS.F ht⟩) hS.2.2 dX12_compares_111
            · replace hEX := hEX.trans (if_pos c_71)
              have g_77 : RG r_2 60 60 := RG_eq1 h_29 (RG_k 60 60 rfl) c_71 (by decide +kernel)
              refine lv_iload_n hx hb dX12_compares_86 rfl (lv_at hl 2 rfl) ?_
              refine lv_iload hx hb dX12_compares_87 (lv_at hl 0 rfl) ?_
              refine lv_icmp_ge (tgt := 96) hx hb dX12_compares_89 rfl (fun c_78 => ?_) (fun c_78 => ?_)
              · replace hEX := hEX.trans (if_pos c_78)
                have g_79 : RG j12_s0 (-1000000) 2147483647 := RG_le2 h_50 (RG_any j12_s0) c_78 (by decide +kernel)
                refine lv_iconst (v := 0) hx hb dX12_compares_96 kc_iconst_0 ?_
                refine lv_goto (tgt := 111) hx hb dX12_compares_97 rfl ?_
                have hK9 := hK.sub (tys' := []) [] rfl
                exact W.zret (v := 0) hx hb hr rfl (fun t ht hW => ⟨⟨0, (x_40, x_41, x_42), rfl, (Or.inr ⟨(RG_w (RG_k 0 0 rfl) (by decide +kernel)), h_51, h_52, h_53, (by have := r_h0_f10_j12_h0_f10; have := h_13; have := q_38; have := h_54; show h0_f10.toInt + 0 ≤ x_40.toInt; omega), (hR.trans hEX).symm⟩), by rw [ht]; exact hP, va_K.moved hW.alike hK9, hD⟩, hS.F ht⟩) hS.2.2 dX12_compares_111
              · replace hEX := hEX.trans (if_neg c_78)
                have d_80 := Int32.not_le.mp c_78
                have g_81 : RG j12_s0 (-2147483648) 999999 := RG_lt1 (RG_any j12_s0) h_50 d_80 (by decide +kernel)
                refine lv_iconst (v := 1) hx hb dX12_compares_92 kc_iconst_1 ?_
                as_aux_lemma =>
                refine lv_goto (tgt := 111) hx hb dX12_compares_93 rfl ?_
                have hK9 := hK.sub (tys' := []) [] rfl
                exact W.zret (v := 1) hx hb hr rfl (fun t ht hW => ⟨⟨1, (x_40, x_41, x_42), rfl, (Or.inr ⟨(RG_w (RG_k 1 1 rfl) (by decide +kernel)), h_51, h_52, h_53, (by have := r_h0_f10_j12_h0_f10; have := h_13; have := q_38; have := h_54; show h0_f10.toInt + 0 ≤ x_40.toInt; omega), (hR.trans hEX).symm⟩), by rw [ht]; exact hP, va_K.moved hW.alike hK9, hD⟩, hS.F ht⟩) hS.2.2 dX12_compares_111
          · replace hEX := hEX.trans (if_pos c_70)
            have g_82 : RG r_2 61 61 := RG_eq1 h_29 (RG_k 61 61 rfl) c_70 (by decide +kernel)
            refine lv_iload_n hx hb dX12_compares_65 rfl (lv_at hl 2 rfl) ?_
            refine lv_iload hx hb dX12_compares_66 (lv_at hl 0 rfl) ?_
            refine lv_icmp_ne (tgt := 75) hx hb dX12_compares_68 rfl (fun c_83 => ?_) (fun c_83 => ?_)
            · replace hEX := hEX.trans (if_neg c_83)
              refine lv_iconst (v := 0) hx hb dX12_compares_75 kc_iconst_0 ?_
              refine lv_goto (tgt := 111) hx hb dX12_compares_76 rfl ?_
              have hK9 := hK.sub (tys' := []) [] rfl
              exact W.zret (v := 0) hx hb hr rfl (fun t ht hW => ⟨⟨0, (x_40, x_41, x_42), rfl, (Or.inr ⟨(RG_w (RG_k 0 0 rfl) (by decide +kernel)), h_51, h_52, h_53, (by have := r_h0_f10_j12_h0_f10; have := h_13; have := q_38; have := h_54; show h0_f10.toInt + 0 ≤ x_40.toInt; omega), (hR.trans hEX).symm⟩), by rw [ht]; exact hP, va_K.moved hW.alike hK9, hD⟩, hS.F ht⟩) hS.2.2 dX12_compares_111
            · replace hEX := hEX.trans (if_pos c_83)
              have g_84 : RG j12_s0 (-1000000) 1000000 := RG_eq1 (RG_any j12_s0) h_50 c_83 (by decide +kernel)
              refine lv_iconst (v := 1) hx hb dX12_compares_71 kc_iconst_1 ?_
              as_aux_lemma =>
              refine lv_goto (tgt := 111) hx hb dX12_compares_72 rfl ?_
              have hK9 := hK.sub (tys' := []) [] rfl
              exact W.zret (v := 1) hx hb hr rfl (fun t ht hW => ⟨⟨1, (x_40, x_41, x_42), rfl, (Or.inr ⟨(RG_w (RG_k 1 1 rfl) (by decide +kernel)), h_51, h_52, h_53, (by have := r_h0_f10_j12_h0_f10; have := h_13; have := q_38; have := h_54; show h0_f10.toInt + 0 ≤ x_40.toInt; omega), (hR.trans hEX).symm⟩), by rw [ht]; exact hP, va_K.moved hW.alike hK9, hD⟩, hS.F ht⟩) hS.2.2 dX12_compares_111
  have J12b : ∀ (j12b_s0 : Int32) (j12b_h0_f10 : Int32) (j12b_h0_f11 : Int32) (j12b_h0_f12 : Int32) (g_h0_f10 : RG h0_f10 0 240) (g_h0_f17 : RG h0_f17 0 1) (g_h0_f26 : RG h0_f26 0 8) (g_h0_f27 : RG h0_f27 0 3) (g_h0_f28 : RG h0_f28 0 8) (g_h0_f29 : RG h0_f29 0 3) (g_h0_f30 : RG h0_f30 0 4) (g_h0_f31 : RG h0_f31 0 1) (g_h0_f34 : RG h0_f34 (-1) 3) (g_h0_f41 : RG h0_f41 0 40) (g_h0_f51 : RG h0_f51 0 10) (g_h0_f53 : RG h0_f53 0 1) (g_h0_f6 : RG h0_f6 0 240) (g_h0_f7 : RG h0_f7 0 4) (g_h0_f8 : RG h0_f8 0 720) (g_h0_f9 : RG h0_f9 0 240) (g_j12b_h0_f10 : RG j12b_h0_f10 0 240) (g_j12b_h0_f11 : RG j12b_h0_f11 0 240) (g_j12b_h0_f12 : RG j12b_h0_f12 0 6) (g_j12b_s0 : RG j12b_s0 (-1000000) 1000000) (g_p1 : RG p1 0 0) (g_p2 : RG p2 0 0) (r_h0_f10_j12b_h0_f10 : h0_f10.toInt + 0 ≤ j12b_h0_f10.toInt) (hEX : RES = fx_c_X12_compares_p12b j12b_h0_f10 j12b_h0_f11 j12b_h0_f12) (H : Heap) (locs : List Loc) (ls : Array Slot) (hP : va_P (dC, dI) vwCl (wd_c_X12_compares h0 h0_f0 h0_1 h0_2 h0_3 h0_4 h0_5 h0_f6 h0_f7 h0_f8 h0_f9 j12b_h0_f10 j12b_h0_f11 j12b_h0_f12 h0_f13 h0_f14 h0_15 h0_16 h0_f17 h0_18 h0_19 h0_20 h0_21 h0_22 h0_23 h0_24 h0_25 h0_f26 h0_f27 h0_f28 h0_f29 h0_f30 h0_f31 h0_32 h0_33 h0_f34 h0_35 h0_36 h0_37 h0_38 h0_39 h0_40 h0_f41 h0_f42 h0_f43 h0_f44 h0_45 h0_46 h0_47 h0_48 h0_49 h0_50 h0_f51 h0_52 h0_f53 h0_5 h0_5k tN h0_5c h0_4 h0_4k h0_4c) H) (hD : va_D A (wd_c_X12_compares h0 h0_f0 h0_1 h0_2 h0_3 h0_4 h0_5 h0_f6 h0_f7 h0_f8 h0_f9 j12b_h0_f10 j12b_h0_f11 j12b_h0_f12 h0_f13 h0_f14 h0_15 h0_16 h0_f17 h0_18 h0_19 h0_20 h0_21 h0_22 h0_23 h0_24 h0_25 h0_f26 h0_f27 h0_f28 h0_f29 h0_f30 h0_f31 h0_32 h0_33 h0_f34 h0_35 h0_36 h0_37 h0_38 h0_39 h0_40 h0_f41 h0_f42 h0_f43 h0_f44 h0_45 h0_46 h0_47 h0_48 h0_49 h0_50 h0_f51 h0_52 h0_f53 h0_5 h0_5k tN h0_5c h0_4 h0_4k h0_4c)) (hS : va_S A s.heap H locs) (hl : lv_has ls 6 [(0, .ref h0)]), G H locs (F0 m 12 ls [.int j12b_s0]) := by
    as_aux_lemma =>
    intro j12b_s0 j12b_h0_f10 j12b_h0_f11 j12b_h0_f12 g_h0_f10 g_h0_f17 g_h0_f26 g_h0_f27 g_h0_f28 g_h0_f29 g_h0_f30 g_h0_f31 g_h0_f34 g_h0_f41 g_h0_f51 g_h0_f53 g_h0_f6 g_h0_f7 g_h0_f8 g_h0_f9 g_j12b_h0_f10 g_j12b_h0_f11 g_j12b_h0_f12 g_j12b_s0 g_p1 g_p2 r_h0_f10_j12b_h0_f10 hEX H locs ls hP hD hS hl
    refine hG _ _ _ ?_
    refine lv_istore_n (lv' := [(3, .int j12b_s0), (0, .ref h0)]) hx hb dX12_compares_12 rfl hl (Nat.le_of_ble_eq_true rfl) rfl (fun ls hl => ?_)
    refine lv_aload_n hx hb dX12_compares_13 rfl (lv_at hl 1 rfl) ?_
    refine va_get (D := (dC, dI)) (ci := 12) (v := .int j12b_h0_f11) (C := RX12) (T := TX12) (N := 54) hx hb hts iw_c_X12_compares_X12 hown hK hP 0 rfl rfl 11 (by decide +kernel) (hts (.fieldLink RX12 143 "BuoyVoteModel" "fault" "I") (List.mem_of_getElem? (i := 65) rfl)) (fun _ h9 => h9) rfl dX12_compares_14 ?_
    refine lv_iconst (v := (-1)) hx hb dX12_compares_17 kc_iconst_m1 ?_
    refine lv_icmp_eq (tgt := 23) hx hb dX12_compares_18 rfl (fun c_85 => ?_) (fun c_85 => ?_)
    · replace hEX := hEX.trans (if_pos c_85)
      exact RG_dead (RG_eq1 g_j12b_h0_f11 (RG_k (-1) (-1) rfl) c_85 (a' := 0) (b' := (-1)) (by decide +kernel)) (by decide +kernel)
    · replace hEX := hEX.trans (if_neg c_85)
      refine lv_iconst (v := 0) hx hb dX12_compares_21 kc_iconst_0 ?_
      have hK9 := hK.sub (tys' := []) [] rfl
      exact W.zret (v := 0) hx hb hr rfl (fun t ht hW => ⟨⟨0, (j12b_h0_f10, j12b_h0_f11, j12b_h0_f12), rfl, (Or.inr ⟨(RG_w (RG_k 0 0 rfl) (by decide +kernel)), g_j12b_h0_f10, g_j12b_h0_f11, g_j12b_h0_f12, (by have := r_h0_f10_j12b_h0_f10; show h0_f10.toInt + 0 ≤ j12b_h0_f10.toInt; omega), (hR.trans hEX).symm⟩), by rw [ht]; exact hP, va_K.moved hW.alike hK9, hD⟩, hS.F ht⟩) hS.2.2 dX12_compares_22
  refine hG _ _ _ ?_
  as_aux_lemma =>
  refine lv_iload_n hx hb dX12_compares_0 rfl (lv_at hl 1 rfl) ?_
  refine lv_if_eq (tgt := 8) hx hb dX12_compares_1 rfl (fun c_86 => ?_) (fun c_86 => ?_)
  · replace hEX := hEX.trans (if_pos c_86)
    refine lv_aload_n hx hb dX12_compares_8 rfl (lv_at hl 0 rfl) ?_
    obtain ⟨hPc, hDc, hFc, hqc⟩ := cl_cut (wc := (wd_c_X12_sum h0 h0_f0 h0_1 h0_2 h0_3 h0_4 h0_5 h0_f6 h0_f7 h0_f8 h0_f9 h0_f10 (-1) 0 h0_f13 h0_f14 h0_15 h0_16 h0_f17 h0_18 h0_19 h0_20 h0_21 h0_22 h0_23 h0_24 h0_25 h0_f26 h0_f27 h0_f28 h0_f29 h0_f30 h0_f31 h0_32 h0_33 h0_f34 h0_35 h0_36 h0_37 h0_38 h0_39 h0_40 h0_f41 h0_f42 h0_f43 h0_f44 h0_45 h0_46 h0_47 h0_48 h0_49 h0_50 h0_f51 h0_52 h0_f53 h0_5 h0_5k tN h0_5c h0_4 h0_4k h0_4c)) hP hD hS hA [0, 1, 2] (by decide +kernel) rfl
    have hKc := hK.sub (tys' := [(h0_5k, .byte), (h0_4k, .int)]) [0, 1] rfl
    have hrv := va_recv hKc hPc (ci := 12) (q0 := 0) rfl rfl
    refine va_calli (va_runV (As := []) (rest := []) ⟨hx, hb, hml, hown, hts⟩ (c_X12_sum l dC dI H.size h0 h0_f0 h0_1 h0_2 h0_3 h0_4 h0_5 h0_f6 h0_f7 h0_f8 h0_f9 h0_f10 h0_f13 h0_f14 h0_15 h0_16 h0_f17 h0_18 h0_19 h0_20 h0_21 h0_22 h0_23 h0_24 h0_25 h0_f26 h0_f27 h0_f28 h0_f29 h0_f30 h0_f31 h0_32 h0_33 h0_f34 h0_35 h0_36 h0_37 h0_38 h0_39 h0_40 h0_f41 h0_f42 h0_f43 h0_f44 h0_45 h0_46 h0_47 h0_48 h0_49 h0_50 h0_f51 h0_52 h0_f53 h0_5k h0_5c tN h0_4k h0_4c ts7 tv7 g_h0_f6 g_h0_f7 g_h0_f8 g_h0_f9 g_h0_f10 g_h0_f17 g_h0_f26 g_h0_f27 g_h0_f28 g_h0_f29 g_h0_f30 g_h0_f31 g_h0_f34 g_h0_f41 g_h0_f51 g_h0_f53 htN a_h0_4c) (cwV 0 hts gf_c_X12_compares_c_X12_sum rfl rfl rfl mdV_X12_sum ⟨Nat.le_of_ble_eq_true rfl, Nat.le_of_ble_eq_true rfl⟩) ⟨fun a U g mk q => by obtain ⟨q0, q1, qP, qK, qD, qE0, qE1, qE2, qE3, qE4, qE5, qE6⟩ := q; exact ⟨q0, q1, qP, va_K.moved (u := U) (U := U.calling g mk a) (Vm.Alike.refl U.vm) qK, qD, vk_R.same rfl qE0, va_OF.moved (u := U) (U := U.calling g mk a) (Vm.Alike.refl U.vm) qE1, va_T.moved (u := U) (U := U.calling g mk a) (Vm.Alike.refl U.vm) qE2, va_Z.moved (u := U) (U := U.calling g mk a) (Vm.Alike.refl U.vm) qE3, va_OF.moved (u := U) (U := U.calling g mk a) (Vm.Alike.refl U.vm) qE4, va_O.moved (u := U) (U := U.calling g mk a) (Vm.Alike.refl U.vm) qE5, va_Zq.moved (u := U) (U := U.calling g mk a) (Vm.Alike.refl U.vm) qE6⟩, hrv, fun U hU hW => ⟨rfl, by rw [hU], by rw [hU]; exact hPc, va_K.moved hW.alike hKc, hDc.weaken (fun _ _ _ _ => trivial), vk_R.warm hW hE_47, va_OF.moved hW.alike (by rw [hU]; exact (hE_50.kept hS.2.1).narrow hFc), va_T.moved hW.alike (by rw [hU]; exact (hE_51.kept hS.2.1).narrow hFc), va_Z.moved hW.alike (by rw [hU]; exact (hE_10.kept hS.2.1).narrow hFc), va_OF.moved hW.alike (by rw [hU]; exact (hE_49.kept hS.2.1).narrow hFc), va_O.moved hW.alike (by rw [hU]; exact (hE_48.kept hS.2.1).narrow hFc), va_Zq.moved hW.alike (by rw [hU]; exact (hE_11.kept hS.2.1).narrow hFc)⟩⟩ rfl rfl hl.1 rfl (lv_room (Nat.le_of_ble_eq_true rfl)) dX12_compares_9 ⟨Nat.le_of_ble_eq_true rfl, Nat.le_of_ble_eq_true rfl⟩) hS (fun q _ h => hFc q h) hFc (fun r_87 u t H1 locs ht hvm hw hB hz1 hk1 hS => ?_)
    obtain ⟨x_88, x_89, x_90⟩ := u
    obtain ⟨hP1, hK1, hD1⟩ := hB
    rw [ht] at hP1
    obtain ⟨hP, hD⟩ := cl_put (w1 := (wd_c_X12_sum h0 h0_f0 h0_1 h0_2 h0_3 h0_4 h0_5 h0_f6 h0_f7 h0_f8 h0_f9 x_88 x_89 x_90 h0_f13 h0_f14 h0_15 h0_16 h0_f17 h0_18 h0_19 h0_20 h0_21 h0_22 h0_23 h0_24 h0_25 h0_f26 h0_f27 h0_f28 h0_f29 h0_f30 h0_f31 h0_32 h0_33 h0_f34 h0_35 h0_36 h0_37 h0_38 h0_39 h0_40 h0_f41 h0_f42 h0_f43 h0_f44 h0_45 h0_46 h0_47 h0_48 h0_49 h0_50 h0_f51 h0_52 h0_f53 h0_5 h0_5k tN h0_5c h0_4 h0_4k h0_4c)) (nw := (wd_c_X12_compares h0 h0_f0 h0_1 h0_2 h0_3 h0_4 h0_5 h0_f6 h0_f7 h0_f8 h0_f9 x_88 x_89 x_90 h0_f13 h0_f14 h0_15 h0_16 h0_f17 h0_18 h0_19 h0_20 h0_21 h0_22 h0_23 h0_24 h0_25 h0_f26 h0_f27 h0_f28 h0_f29 h0_f30 h0_f31 h0_32 h0_33 h0_f34 h0_35 h0_36 h0_37 h0_38 h0_39 h0_40 h0_f41 h0_f42 h0_f43 h0_f44 h0_45 h0_46 h0_47 h0_48 h0_49 h0_50 h0_f51 h0_52 h0_f53 h0_5 h0_5k tN h0_5c h0_4 h0_4k h0_4c)) hP hD [0, 1, 2] [3, 4, 5] 3 rfl hqc (by decide +kernel) rfl hk1 hFc hP1 hD1
    generalize H1 = H at hP hS ⊢
    as_aux_lemma =>
    rcases hw with ⟨h_91, h_92, h_93, h_94, h_95, h_96, h_97⟩ | ⟨h_98, h_99, h_100, h_101, h_102, h_103⟩
    · have h_97 : (r_87, x_88, x_89, x_90) = _ := h_97
      replace hEX := hEX.trans (exc4_eq h_97)
      replace hEX := hEX.trans (if_pos (show x_89 = (-1) from h_93))
      subst h_93
      subst h_94
      have h_96 : h0_f10.toInt + 0 ≤ x_88.toInt := h_96
      exact hU _ _ _ (J12 r_87 x_88 g_h0_f10 g_h0_f17 g_h0_f26 g_h0_f27 g_h0_f28 g_h0_f29 g_h0_f30 g_h0_f31 g_h0_f34 g_h0_f41 g_h0_f51 g_h0_f53 g_h0_f6 g_h0_f7 g_h0_f8 h_95 h_92 g_p1 g_p2 (by have := h_96; omega) hEX _ _ _ hP hD hS (lv_sub hl [0] rfl))
    · have h_103 : (r_87, x_88, x_89, x_90) = _ := h_103
      replace hEX := hEX.trans (exc4_eq h_103)
      replace hEX := hEX.trans (if_neg (RG_neq (x := x_89) (c := (-1)) (show RG x_89 0 240 from h_100) (by decide +kernel)))
      have h_102 : h0_f10.toInt + 0 ≤ x_88.toInt := h_102
      exact hU _ _ _ (J12b r_87 x_88 x_89 x_90 g_h0_f10 g_h0_f17 g_h0_f26 g_h0_f27 g_h0_f28 g_h0_f29 g_h0_f30 g_h0_f31 g_h0_f34 g_h0_f41 g_h0_f51 g_h0_f53 g_h0_f6 g_h0_f7 g_h0_f8 g_h0_f9 h_99 h_100 h_101 h_98 g_p1 g_p2 (by have := h_102; omega) hEX _ _ _ hP hD hS (lv_sub hl [0] rfl))
  · replace hEX := hEX.trans (if_neg c_86)
    exact RG_dead (RG_ne1 g_p1 (q := 0) rfl c_86 (a' := 1) (b' := 0) (by decide +kernel)) (by decide +kernel)
noncomputable def wd_c_X12_compares_1 (a0 : Nat) (a1 : Int32) (a2 : Nat) (a3 : Nat) (a4 : Nat) (a5 : Nat) (a6 : Nat) (a7 : Int32) (a8 : Int32) (a9 : Int32) (a10 : Int32) (a11 : Int32) (a12 : Int32) (a13 : Int32) (a14 : Int32) (a15 : Int32) (a16 : Nat) (a17 : Nat) (a18 : Int32) (a19 : Nat) (a20 : Nat) (a21 : Nat) (a22 : Nat) (a23 : Nat) (a24 : Nat) (a25 : Nat) (a26 : Nat) (a27 : Int32) (a28 : Int32) (a29 : Int32) (a30 : Int32) (a31 : Int32) (a32 : Int32) (a33 : Nat) (a34 : Nat) (a35 : Int32) (a36 : Nat) (a37 : Nat) (a38 : Nat) (a39 : Nat) (a40 : Nat) (a41 : Nat) (a42 : Int32) (a43 : Int64) (a44 : Int32) (a45 : Int32) (a46 : Nat) (a47 : Nat) (a48 : Nat) (a49 : Nat) (a50 : Nat) (a51 : Nat) (a52 : Int32) (a53 : Nat) (a54 : Int32) (a55 : Nat) (a56 : ClassId) (a57 : Nat) (a58 : Nat → Int32) (a59 : Nat) (a60 : ClassId) (a61 : Nat → Int32) : va_W := [(a0, .inr (12, [.int a1, .ref a2, .ref a3, .ref a4, .ref a5, .ref a6, .int a7, .int a8, .int a9, .int a10, .int a11, .int a12, .int a13, .int a14, .int a15, .ref a16, .ref a17, .int a18, .ref a19, .ref a20, .ref a21, .ref a22, .ref a23, .ref a24, .ref a25, .ref a26, .int a27, .int a28, .int a29, .int a30, .int a31, .int a32, .ref a33, .ref a34, .int a35, .ref a36, .ref a37, .ref a38, .ref a39, .ref a40, .ref a41, .int a42, .long a43, .int a44, .int a45, .ref a46, .ref a47, .ref a48, .ref a49, .ref a50, .ref a51, .int a52, .ref a53, .int a54])), (a55, .inl (a56, a57, .inl a58)), (a59, .inl (a60, 128, .inl a61))]
noncomputable def wf_c_X12_compares_1 : List Cond := List.cons (.code yX12_compares cX12_compares 6 (some .boolean)) (@HAppend.hAppend (List Cond) (List Cond) (List Cond) _ [.methodLink RX12 176 yX12_sum, .instanceMethod yX12_sum, .selects RX12 yX12_sum yX12_sum, .initialized RX12, .code yX12_sum cX12_sum 5 (some .int), .methodLink RX12 193 yX12_term, .instanceMethod yX12_term, .selects RX12 yX12_term yX12_term, .code yX12_term cX12_term 5 (some .int), .methodLink RX12 186 yX12_atom, .instanceMethod yX12_atom, .selects RX12 yX12_atom yX12_atom, .code yX12_atom cX12_atom 4 (some .int), .methodLink RX12 153 yX12_look, .instanceMethod yX12_look, .selects RX12 yX12_look yX12_look, .code yX12_look cX12_look 1 (some .int), .fieldLink RX12 134 "BuoyVoteModel" "at" "I", .fieldLink RX12 137 "BuoyVoteModel" "ends" "I", .fieldLink RX12 23 "BuoyVoteModel" "text" "[B", .fieldLink RX12 140 "BuoyVoteModel" "begins" "I", .methodLink RX12 169 yX12_isAmong, .static yX12_isAmong, .code yX12_isAmong cX12_isAmong 3 (some .boolean), .methodLink RX12 114 yJ0_length_8abf5, .instanceMethod yJ0_length_8abf5, .selects RJ0 yJ0_length_8abf5 yJ0_length_8abf5, .initialized RJ0, .code yJ0_length_8abf5 cJ0_length_8abf5 1 (some .int), .fieldLink RJ0 9 "java/lang/String" "value" "[B", .methodLink RJ0 335 yJ0_coder_7d493, .instanceMethod yJ0_coder_7d493, .selects RJ0 yJ0_coder_7d493 yJ0_coder_7d493, .code yJ0_coder_7d493 cJ0_coder_7d493 1 (some .byte), .fieldLink RJ0 38 "java/lang/String" "COMPACT_STRINGS" "Z", .fieldLink RJ0 15 "java/lang/String" "coder" "B", .methodLink RX12 120 yJ0_charAt_5068e, .instanceMethod yJ0_charAt_5068e, .selects RJ0 yJ0_charAt_5068e yJ0_charAt_5068e, .code yJ0_charAt_5068e cJ0_charAt_5068e 2 (some .char), .methodLink RJ0 492 yJ0_isLatin1_aae02, .instanceMethod yJ0_isLatin1_aae02, .selects RJ0 yJ0_isLatin1_aae02 yJ0_isLatin1_aae02, .code yJ0_isLatin1_aae02 cJ0_isLatin1_aae02 1 (some .boolean), .methodLink RJ0 495 yJ1_charAt_3b067, .static yJ1_charAt_3b067, .initialized RJ1, .code yJ1_charAt_3b067 cJ1_charAt_3b067 2 (some .char), .methodLink RJ1 9 yJ0_checkIndex_df160, .static yJ0_checkIndex_df160, .code yJ0_checkIndex_df160 cJ0_checkIndex_df160 2 none, .fieldLink RJ0 1053 "jdk/internal/util/Preconditions" "SIOOBE_FORMATTER" "Ljava/util/function/BiFunction;", .methodLink RJ0 1059 yJ3_checkIndex_8e157, .static yJ3_checkIndex_8e157, .initialized RJ3, .code yJ3_checkIndex_8e157 cJ3_checkIndex_8e157 3 (some .int), .methodLink RX12 183 yX12_isDigit, .instanceMethod yX12_isDigit, .selects RX12 yX12_isDigit yX12_isDigit, .code yX12_isDigit cX12_isDigit 1 (some .boolean), .methodLink RX12 149 yX12_fails, .instanceMethod yX12_fails, .selects RX12 yX12_fails yX12_fails, .code yX12_fails cX12_fails 1 (some .boolean), .fieldLink RX12 143 "BuoyVoteModel" "fault" "I", .methodLink RX12 173 yX12_goesIn, .instanceMethod yX12_goesIn, .selects RX12 yX12_goesIn yX12_goesIn, .code yX12_goesIn cX12_goesIn 1 (some .boolean), .fieldLink RX12 146 "BuoyVoteModel" "deep" "I", .fieldLink RX12 20 "BuoyVoteModel" "letters" "[I", .methodLink RX12 189 yX12_within, .static yX12_within, .code yX12_within cX12_within 2 (some .int), .constantLong RX12 156 (-1000000), .constantLong RX12 158 (1000000), .methodLink RX12 160 Lib.MathLoose.min_long.x, .static Lib.MathLoose.min_long.x, .initialized "java/lang/Math", .code Lib.MathLoose.min_long.x Lib.MathLoose.min_long.code 4 (some .long), .methodLink RX12 166 Lib.MathLoose.max_long.x, .static Lib.MathLoose.max_long.x, .code Lib.MathLoose.max_long.x Lib.MathLoose.max_long.code 4 (some .long), .methodLink RX12 179 yX12_takes, .instanceMethod yX12_takes, .selects RX12 yX12_takes yX12_takes, .code yX12_takes cX12_takes 2 (some .boolean), .methodLink RX12 196 yX12_isSign, .static yX12_isSign, .code yX12_isSign cX12_isSign 1 (some .boolean)] wsX120)
theorem iw_c_X12_compares_1_X12 : ∀ w ∈ wsX120, w ∈ wf_c_X12_compares_1 := fun w h => List.mem_cons_of_mem _ (List.mem_append_right _ h)
set_option maxRecDepth 20000 in
theorem gf_c_X12_compares_1_c_X12_look : GoodIn wf_c_X12_compares_1 (wsV RX12 153 RX12 yX12_look wf_c_X12_look) := goodIn_app (gi_l [14, 15, 16, 4] rfl rfl) (gi_cons (j := 17) rfl rfl (goodIn_app (gi_l [18, 19, 20, 21] rfl rfl) (goodIn_sub iw_c_X12_compares_1_X12 gw_X12)))
set_option maxRecDepth 20000 in
theorem gf_c_X12_compares_1_c_X12_isSign : GoodIn wf_c_X12_compares_1 (va_wsS RX12 196 yX12_isSign wf_c_X12_isSign) := goodIn_app (gi_l [88, 89, 4] rfl rfl) (gi_cons (j := 90) rfl rfl gi_nil)
set_option maxRecDepth 20000 in
theorem gf_c_X12_compares_1_c_X12_fails : GoodIn wf_c_X12_compares_1 (wsV RX12 149 RX12 yX12_fails wf_c_X12_fails) := goodIn_app (gi_l [61, 62, 63, 4] rfl rfl) (gi_cons (j := 64) rfl rfl (goodIn_app (gi_l [65, 18] rfl rfl) (goodIn_sub iw_c_X12_compares_1_X12 gw_X12)))
set_option maxRecDepth 20000 in
theorem gf_c_X12_compares_1_c_X12_isSign_1 : GoodIn wf_c_X12_compares_1 (va_wsS RX12 196 yX12_isSign wf_c_X12_isSign_1) := goodIn_app (gi_l [88, 89, 4] rfl rfl) (gi_cons (j := 90) rfl rfl gi_nil)
set_option maxRecDepth 20000 in
theorem gf_c_X12_compares_1_c_X12_sum_1 : GoodIn wf_c_X12_compares_1 (wsV RX12 176 RX12 yX12_sum wf_c_X12_sum_1) := goodIn_app (gi_l [1, 2, 3, 4] rfl rfl) (gi_cons (j := 5) rfl rfl (goodIn_app (gi_l [6, 7, 8, 4, 9, 10, 11, 12, 13, 14, 15, 16, 17, 18, 19, 20, 21, 22, 23, 24, 25, 26, 27, 28, 29, 30, 31, 32, 33, 34, 35, 36, 37, 38, 39, 40, 41, 42, 43, 44, 45, 46, 47, 48, 49, 50, 51, 52, 53, 54, 55, 56, 57, 58, 59, 60, 61, 62, 63, 64, 65, 66, 67, 68, 69, 70, 1, 2, 3, 71, 72, 73, 74, 75, 76, 77, 78, 79, 80, 81, 82, 83, 84, 85, 86, 87] rfl rfl) (goodIn_sub iw_c_X12_compares_1_X12 gw_X12)))
set_option maxHeartbeats 4000000 in
set_option maxRecDepth 100000 in
theorem c_X12_compares_1 (l : Launch) (dC : Nat → ClassId) (dI : Nat → Nat → Nat) (sz : Nat) (h0 : Nat) (p1 : Int32) (p2 : Int32) (h0_f0 : Int32) (h0_1 : Nat) (h0_2 : Nat) (h0_3 : Nat) (h0_4 : Nat) (h0_5 : Nat) (h0_f6 : Int32) (h0_f7 : Int32) (h0_f8 : Int32) (h0_f9 : Int32) (h0_f10 : Int32) (h0_f13 : Int32) (h0_f14 : Int32) (h0_15 : Nat) (h0_16 : Nat) (h0_f17 : Int32) (h0_18 : Nat) (h0_19 : Nat) (h0_20 : Nat) (h0_21 : Nat) (h0_22 : Nat) (h0_23 : Nat) (h0_24 : Nat) (h0_25 : Nat) (h0_f26 : Int32) (h0_f27 : Int32) (h0_f28 : Int32) (h0_f29 : Int32) (h0_f30 : Int32) (h0_f31 : Int32) (h0_32 : Nat) (h0_33 : Nat) (h0_f34 : Int32) (h0_35 : Nat) (h0_36 : Nat) (h0_37 : Nat) (h0_38 : Nat) (h0_39 : Nat) (h0_40 : Nat) (h0_f41 : Int32) (h0_f42 : Int64) (h0_f43 : Int32) (h0_f44 : Int32) (h0_45 : Nat) (h0_46 : Nat) (h0_47 : Nat) (h0_48 : Nat) (h0_49 : Nat) (h0_50 : Nat) (h0_f51 : Int32) (h0_52 : Nat) (h0_f53 : Int32) (h0_5k : ClassId) (h0_5c : Nat → Int32) (tN : Nat) (h0_4k : ClassId) (h0_4c : Nat → Int32) (ts7 : Nat) (tv7 : Nat) (g_p1 : RG p1 0 0) (g_p2 : RG p2 0 0) (g_h0_f6 : RG h0_f6 0 240) (g_h0_f7 : RG h0_f7 0 4) (g_h0_f8 : RG h0_f8 0 720) (g_h0_f9 : RG h0_f9 0 240) (g_h0_f10 : RG h0_f10 0 240) (g_h0_f17 : RG h0_f17 0 1) (g_h0_f26 : RG h0_f26 0 8) (g_h0_f27 : RG h0_f27 0 3) (g_h0_f28 : RG h0_f28 0 8) (g_h0_f29 : RG h0_f29 0 3) (g_h0_f30 : RG h0_f30 0 4) (g_h0_f31 : RG h0_f31 0 1) (g_h0_f34 : RG h0_f34 (-1) 3) (g_h0_f41 : RG h0_f41 0 40) (g_h0_f51 : RG h0_f51 0 10) (g_h0_f53 : RG h0_f53 0 1) (htN : h0_f8.toInt + 240 ≤ (tN : Int)) (a_h0_4c : AP tLet h0_4c) : Met l yX12_compares wf_c_X12_compares_1 ({ frames := 23, cells := 0, slots := 0, locals := 533 }) (va_Pc [.ref h0, .int p1, .int p2] (fun U => U.heap.size = sz ∧ va_P (dC, dI) vwCl (wd_c_X12_compares_1 h0 h0_f0 h0_1 h0_2 h0_3 h0_4 h0_5 h0_f6 h0_f7 h0_f8 h0_f9 h0_f10 (-1) 1 h0_f13 h0_f14 h0_15 h0_16 h0_f17 h0_18 h0_19 h0_20 h0_21 h0_22 h0_23 h0_24 h0_25 h0_f26 h0_f27 h0_f28 h0_f29 h0_f30 h0_f31 h0_32 h0_33 h0_f34 h0_35 h0_36 h0_37 h0_38 h0_39 h0_40 h0_f41 h0_f42 h0_f43 h0_f44 h0_45 h0_46 h0_47 h0_48 h0_49 h0_50 h0_f51 h0_52 h0_f53 h0_5 h0_5k tN h0_5c h0_4 h0_4k h0_4c) U.heap ∧ va_K (dC, dI) vwCl [(h0_5k, .byte), (h0_4k, .int)] U ∧ va_D (fun _ => True) (wd_c_X12_compares_1 h0 h0_f0 h0_1 h0_2 h0_3 h0_4 h0_5 h0_f6 h0_f7 h0_f8 h0_f9 h0_f10 (-1) 1 h0_f13 h0_f14 h0_15 h0_16 h0_f17 h0_18 h0_19 h0_20 h0_21 h0_22 h0_23 h0_24 h0_25 h0_f26 h0_f27 h0_f28 h0_f29 h0_f30 h0_f31 h0_32 h0_33 h0_f34 h0_35 h0_36 h0_37 h0_38 h0_39 h0_40 h0_f41 h0_f42 h0_f43 h0_f44 h0_45 h0_46 h0_47 h0_48 h0_49 h0_50 h0_f51 h0_52 h0_f53 h0_5 h0_5k tN h0_5c h0_4 h0_4k h0_4c) ∧ vk_R RX12 32 "vlrdph" ts7 U ∧ va_OF "java/lang/String" "value" "[B" (.ref tv7) ts7 (va_A (wd_c_X12_compares_1 h0 h0_f0 h0_1 h0_2 h0_3 h0_4 h0_5 h0_f6 h0_f7 h0_f8 h0_f9 h0_f10 (-1) 1 h0_f13 h0_f14 h0_15 h0_16 h0_f17 h0_18 h0_19 h0_20 h0_21 h0_22 h0_23 h0_24 h0_25 h0_f26 h0_f27 h0_f28 h0_f29 h0_f30 h0_f31 h0_32 h0_33 h0_f34 h0_35 h0_36 h0_37 h0_38 h0_39 h0_40 h0_f41 h0_f42 h0_f43 h0_f44 h0_45 h0_46 h0_47 h0_48 h0_49 h0_50 h0_f51 h0_52 h0_f53 h0_5 h0_5k tN h0_5c h0_4 h0_4k h0_4c) sz) U U.heap ∧ va_T .byte tv7 6 (fun j => .int ([118, 108, 114, 100, 112, 104].getD j 0)) (va_A (wd_c_X12_compares_1 h0 h0_f0 h0_1 h0_2 h0_3 h0_4 h0_5 h0_f6 h0_f7 h0_f8 h0_f9 h0_f10 (-1) 1 h0_f13 h0_f14 h0_15 h0_16 h0_f17 h0_18 h0_19 h0_20 h0_21 h0_22 h0_23 h0_24 h0_25 h0_f26 h0_f27 h0_f28 h0_f29 h0_f30 h0_f31 h0_32 h0_33 h0_f34 h0_35 h0_36 h0_37 h0_38 h0_39 h0_40 h0_f41 h0_f42 h0_f43 h0_f44 h0_45 h0_46 h0_47 h0_48 h0_49 h0_50 h0_f51 h0_52 h0_f53 h0_5 h0_5k tN h0_5c h0_4 h0_4k h0_4c) sz) U U.heap ∧ va_Z "java/lang/String" "COMPACT_STRINGS" "Z" (.int 1) (va_A (wd_c_X12_compares_1 h0 h0_f0 h0_1 h0_2 h0_3 h0_4 h0_5 h0_f6 h0_f7 h0_f8 h0_f9 h0_f10 (-1) 1 h0_f13 h0_f14 h0_15 h0_16 h0_f17 h0_18 h0_19 h0_20 h0_21 h0_22 h0_23 h0_24 h0_25 h0_f26 h0_f27 h0_f28 h0_f29 h0_f30 h0_f31 h0_32 h0_33 h0_f34 h0_35 h0_36 h0_37 h0_38 h0_39 h0_40 h0_f41 h0_f42 h0_f43 h0_f44 h0_45 h0_46 h0_47 h0_48 h0_49 h0_50 h0_f51 h0_52 h0_f53 h0_5 h0_5k tN h0_5c h0_4 h0_4k h0_4c) sz) U U.heap ∧ va_OF "java/lang/String" "coder" "B" (.int 0) ts7 (va_A (wd_c_X12_compares_1 h0 h0_f0 h0_1 h0_2 h0_3 h0_4 h0_5 h0_f6 h0_f7 h0_f8 h0_f9 h0_f10 (-1) 1 h0_f13 h0_f14 h0_15 h0_16 h0_f17 h0_18 h0_19 h0_20 h0_21 h0_22 h0_23 h0_24 h0_25 h0_f26 h0_f27 h0_f28 h0_f29 h0_f30 h0_f31 h0_32 h0_33 h0_f34 h0_35 h0_36 h0_37 h0_38 h0_39 h0_40 h0_f41 h0_f42 h0_f43 h0_f44 h0_45 h0_46 h0_47 h0_48 h0_49 h0_50 h0_f51 h0_52 h0_f53 h0_5 h0_5k tN h0_5c h0_4 h0_4k h0_4c) sz) U U.heap ∧ va_O "java/lang/String" ts7 (va_A (wd_c_X12_compares_1 h0 h0_f0 h0_1 h0_2 h0_3 h0_4 h0_5 h0_f6 h0_f7 h0_f8 h0_f9 h0_f10 (-1) 1 h0_f13 h0_f14 h0_15 h0_16 h0_f17 h0_18 h0_19 h0_20 h0_21 h0_22 h0_23 h0_24 h0_25 h0_f26 h0_f27 h0_f28 h0_f29 h0_f30 h0_f31 h0_32 h0_33 h0_f34 h0_35 h0_36 h0_37 h0_38 h0_39 h0_40 h0_f41 h0_f42 h0_f43 h0_f44 h0_45 h0_46 h0_47 h0_48 h0_49 h0_50 h0_f51 h0_52 h0_f53 h0_5 h0_5k tN h0_5c h0_4 h0_4k h0_4c) sz) U U.heap ∧ va_Zq "jdk/internal/util/Preconditions" "SIOOBE_FORMATTER" "Ljava/util/function/BiFunction;" (va_A (wd_c_X12_compares_1 h0 h0_f0 h0_1 h0_2 h0_3 h0_4 h0_5 h0_f6 h0_f7 h0_f8 h0_f9 h0_f10 (-1) 1 h0_f13 h0_f14 h0_15 h0_16 h0_f17 h0_18 h0_19 h0_20 h0_21 h0_22 h0_23 h0_24 h0_25 h0_f26 h0_f27 h0_f28 h0_f29 h0_f30 h0_f31 h0_32 h0_33 h0_f34 h0_35 h0_36 h0_37 h0_38 h0_39 h0_40 h0_f41 h0_f42 h0_f43 h0_f44 h0_45 h0_46 h0_47 h0_48 h0_49 h0_50 h0_f51 h0_52 h0_f53 h0_5 h0_5k tN h0_5c h0_4 h0_4k h0_4c) sz) U U.heap)) (va_Qi (fun (r : Int32) (u : (Int32) × (Int32) × (Int32)) => (RG r 0 1 ∧ RG u.1 0 240 ∧ u.2.1 = (-1) ∧ u.2.2 = 1 ∧ RG h0_f9 1 240 ∧ h0_f10.toInt + 1 ≤ (u.1).toInt ∧ (r, u.1, u.2.1, u.2.2) = fx_c_X12_compares_1 p1 h0_f8 h0_f9 h0_f10 h0_5c h0_4c) ∨ (RG r 0 1 ∧ RG u.1 0 240 ∧ RG u.2.1 0 240 ∧ RG u.2.2 1 6 ∧ h0_f10.toInt + 0 ≤ (u.1).toInt ∧ (r, u.1, u.2.1, u.2.2) = fx_c_X12_compares_1 p1 h0_f8 h0_f9 h0_f10 h0_5c h0_4c)) (fun (u : (Int32) × (Int32) × (Int32)) t => va_P (dC, dI) vwCl (wd_c_X12_compares_1 h0 h0_f0 h0_1 h0_2 h0_3 h0_4 h0_5 h0_f6 h0_f7 h0_f8 h0_f9 (u.1) (u.2.1) (u.2.2) h0_f13 h0_f14 h0_15 h0_16 h0_f17 h0_18 h0_19 h0_20 h0_21 h0_22 h0_23 h0_24 h0_25 h0_f26 h0_f27 h0_f28 h0_f29 h0_f30 h0_f31 h0_32 h0_33 h0_f34 h0_35 h0_36 h0_37 h0_38 h0_39 h0_40 h0_f41 h0_f42 h0_f43 h0_f44 h0_45 h0_46 h0_47 h0_48 h0_49 h0_50 h0_f51 h0_52 h0_f53 h0_5 h0_5k tN h0_5c h0_4 h0_4k h0_4c) t.heap ∧ va_K (dC, dI) vwCl [] t ∧ va_D (va_A (wd_c_X12_compares_1 h0 h0_f0 h0_1 h0_2 h0_3 h0_4 h0_5 h0_f6 h0_f7 h0_f8 h0_f9 h0_f10 (-1) 1 h0_f13 h0_f14 h0_15 h0_16 h0_f17 h0_18 h0_19 h0_20 h0_21 h0_22 h0_23 h0_24 h0_25 h0_f26 h0_f27 h0_f28 h0_f29 h0_f30 h0_f31 h0_32 h0_33 h0_f34 h0_35 h0_36 h0_37 h0_38 h0_39 h0_40 h0_f41 h0_f42 h0_f43 h0_f44 h0_45 h0_46 h0_47 h0_48 h0_49 h0_50 h0_f51 h0_52 h0_f53 h0_5 h0_5k tN h0_5c h0_4 h0_4k h0_4c) sz) (wd_c_X12_compares_1 h0 h0_f0 h0_1 h0_2 h0_3 h0_4 h0_5 h0_f6 h0_f7 h0_f8 h0_f9 (u.1) (u.2.1) (u.2.2) h0_f13 h0_f14 h0_15 h0_16 h0_f17 h0_18 h0_19 h0_20 h0_21 h0_22 h0_23 h0_24 h0_25 h0_f26 h0_f27 h0_f28 h0_f29 h0_f30 h0_f31 h0_32 h0_33 h0_f34 h0_35 h0_36 h0_37 h0_38 h0_39 h0_40 h0_f41 h0_f42 h0_f43 h0_f44 h0_45 h0_46 h0_47 h0_48 h0_49 h0_50 h0_f51 h0_52 h0_f53 h0_5 h0_5k tN h0_5c h0_4 h0_4k h0_4c)) (va_A (wd_c_X12_compares_1 h0 h0_f0 h0_1 h0_2 h0_3 h0_4 h0_5 h0_f6 h0_f7 h0_f8 h0_f9 h0_f10 (-1) 1 h0_f13 h0_f14 h0_15 h0_16 h0_f17 h0_18 h0_19 h0_20 h0_21 h0_22 h0_23 h0_24 h0_25 h0_f26 h0_f27 h0_f28 h0_f29 h0_f30 h0_f31 h0_32 h0_33 h0_f34 h0_35 h0_36 h0_37 h0_38 h0_39 h0_40 h0_f41 h0_f42 h0_f43 h0_f44 h0_45 h0_46 h0_47 h0_48 h0_49 h0_50 h0_f51 h0_52 h0_f53 h0_5 h0_5k tN h0_5c h0_4 h0_4k h0_4c) sz)) 0 0 (va_A (wd_c_X12_compares_1 h0 h0_f0 h0_1 h0_2 h0_3 h0_4 h0_5 h0_f6 h0_f7 h0_f8 h0_f9 h0_f10 (-1) 1 h0_f13 h0_f14 h0_15 h0_16 h0_f17 h0_18 h0_19 h0_20 h0_21 h0_22 h0_23 h0_24 h0_25 h0_f26 h0_f27 h0_f28 h0_f29 h0_f30 h0_f31 h0_32 h0_33 h0_f34 h0_35 h0_36 h0_37 h0_38 h0_39 h0_40 h0_f41 h0_f42 h0_f43 h0_f44 h0_45 h0_46 h0_47 h0_48 h0_49 h0_50 h0_f51 h0_52 h0_f53 h0_5 h0_5k tN h0_5c h0_4 h0_4k h0_4c) sz) := by
  refine Met.ofW (cc := cX12_compares) (maxL := 6) (ret := (some .boolean)) (by decide +kernel) rfl ?_
  intro p e s m args below meth c s₁ B hml hv
  obtain ⟨rfl, hsz, hP, hK, hD0, hE_47, hE_50, hE_51, hE_10, hE_49, hE_48, hE_11⟩ := hv
  have hx := B.exec
  have hb := B.bytes
  have hr := B.returns
  have hts := atoms_spec (ws := wf_c_X12_compares_1) B.pre
  have hown : s.vm.findClass RX12 = some m.cls := findClass_of_methodNamed B.named
  have hlocks := B.notSynchronized
  subst hsz
  have hD := hD0.self (sz := s.heap.size)
  generalize hAe : va_A (wd_c_X12_compares_1 h0 h0_f0 h0_1 h0_2 h0_3 h0_4 h0_5 h0_f6 h0_f7 h0_f8 h0_f9 h0_f10 (-1) 1 h0_f13 h0_f14 h0_15 h0_16 h0_f17 h0_18 h0_19 h0_20 h0_21 h0_22 h0_23 h0_24 h0_25 h0_f26 h0_f27 h0_f28 h0_f29 h0_f30 h0_f31 h0_32 h0_33 h0_f34 h0_35 h0_36 h0_37 h0_38 h0_39 h0_40 h0_f41 h0_f42 h0_f43 h0_f44 h0_45 h0_46 h0_47 h0_48 h0_49 h0_50 h0_f51 h0_52 h0_f53 h0_5 h0_5k tN h0_5c h0_4 h0_4k h0_4c) s.heap.size = A at hD hE_50 hE_51 hE_10 hE_49 hE_48 hE_11 ⊢
  have hA : ∀ q : Nat, s.heap.size ≤ q → A q := fun q h => by rw [← hAe]; exact Or.inr h
  have hP : va_P (dC, dI) vwCl (wd_c_X12_compares_1 h0 h0_f0 h0_1 h0_2 h0_3 h0_4 h0_5 h0_f6 h0_f7 h0_f8 h0_f9 h0_f10 (-1) 1 h0_f13 h0_f14 h0_15 h0_16 h0_f17 h0_18 h0_19 h0_20 h0_21 h0_22 h0_23 h0_24 h0_25 h0_f26 h0_f27 h0_f28 h0_f29 h0_f30 h0_f31 h0_32 h0_33 h0_f34 h0_35 h0_36 h0_37 h0_38 h0_39 h0_40 h0_f41 h0_f42 h0_f43 h0_f44 h0_45 h0_46 h0_47 h0_48 h0_49 h0_50 h0_f51 h0_52 h0_f53 h0_5 h0_5k tN h0_5c h0_4 h0_4k h0_4c) s.heap := hP
  have hl := lv_entry ([.ref h0, .int p1, .int p2]) (n := 6) (Nat.le_of_ble_eq_true rfl)
  rw [lg_entry_eq]
  generalize (lg_sl ([.ref h0, .int p1, .int p2]) ++ List.replicate (6 - (lg_sl ([.ref h0, .int p1, .int p2])).length) Slot.unset).toArray = ls at hl ⊢
  have hl : lv_has ls 6 [(0, .ref h0), (1, .int p1), (2, .int p2)] := hl
  obtain ⟨H, hHe⟩ : ∃ H : Heap, s.heap = H := ⟨_, rfl⟩
  have hS : va_S A s.heap H [] := by rw [hHe]; exact va_S.rf
  have hP : va_P (dC, dI) vwCl (wd_c_X12_compares_1 h0 h0_f0 h0_1 h0_2 h0_3 h0_4 h0_5 h0_f6 h0_f7 h0_f8 h0_f9 h0_f10 (-1) 1 h0_f13 h0_f14 h0_15 h0_16 h0_f17 h0_18 h0_19 h0_20 h0_21 h0_22 h0_23 h0_24 h0_25 h0_f26 h0_f27 h0_f28 h0_f29 h0_f30 h0_f31 h0_32 h0_33 h0_f34 h0_35 h0_36 h0_37 h0_38 h0_39 h0_40 h0_f41 h0_f42 h0_f43 h0_f44 h0_45 h0_46 h0_47 h0_48 h0_49 h0_50 h0_f51 h0_52 h0_f53 h0_5 h0_5k tN h0_5c h0_4 h0_4k h0_4c) H := by rw [← hHe]; exact hP
  rw [hHe]
  obtain ⟨RES, hR⟩ : ∃ z, fx_c_X12_compares_1 p1 h0_f8 h0_f9 h0_f10 h0_5c h0_4c = z := ⟨_, rfl⟩
  have hEX : RES = fx_c_X12_compares_1 p1 h0_f8 h0_f9 h0_f10 h0_5c h0_4c := hR.symm
  refine wj (fun G hG hU => ?_)
  as_aux_lemma =>
  have J12 : ∀ (j12_s0 : Int32) (j12_h0_f10 : Int32) (g_h0_f10 : RG h0_f10 0 240) (g_h0_f17 : RG h0_f17 0 1) (g_h0_f26 : RG h0_f26 0 8) (g_h0_f27 : RG h0_f27 0 3) (g_h0_f28 : RG h0_f28 0 8) (g_h0_f29 : RG h0_f29 0 3) (g_h0_f30 : RG h0_f30 0 4) (g_h0_f31 : RG h0_f31 0 1) (g_h0_f34 : RG h0_f34 (-1) 3) (g_h0_f41 : RG h0_f41 0 40) (g_h0_f51 : RG h0_f51 0 10) (g_h0_f53 : RG h0_f53 0 1) (g_h0_f6 : RG h0_f6 0 240) (g_h0_f7 : RG h0_f7 0 4) (g_h0_f8 : RG h0_f8 0 720) (g_h0_f9 : RG h0_f9 1 240) (g_j12_h0_f10 : RG j12_h0_f10 0 240) (g_p1 : RG p1 0 0) (g_p2 : RG p2 0 0) (r_h0_f10_j12_h0_f10 : h0_f10.toInt + 0 ≤ j12_h0_f10.toInt) (hEX : RES = fx_c_X12_compares_1_p12 h0_f8 h0_f9 h0_5c h0_4c j12_s0 j12_h0_f10) (H : Heap) (locs : List Loc) (ls : Array Slot) (hP : va_P (dC, dI) vwCl (wd_c_X12_compares_1 h0 h0_f0 h0_1 h0_2 h0_3 h0_4 h0_5 h0_f6 h0_f7 h0_f8 h0_f9 j12_h0_f10 (-1) 1 h0_f13 h0_f14 h0_15 h0_16 h0_f17 h0_18 h0_19 h0_20 h0_21 h0_22 h0_23 h0_24 h0_25 h0_f26 h0_f27 h0_f28 h0_f29 h0_f30 h0_f31 h0_32 h0_33 h0_f34 h0_35 h0_36 h0_37 h0_38 h0_39 h0_40 h0_f41 h0_f42 h0_f43 h0_f44 h0_45 h0_46 h0_47 h0_48 h0_49 h0_50 h0_f51 h0_52 h0_f53 h0_5 h0_5k tN h0_5c h0_4 h0_4k h0_4c) H) (hD : va_D A (wd_c_X12_compares_1 h0 h0_f0 h0_1 h0_2 h0_3 h0_4 h0_5 h0_f6 h0_f7 h0_f8 h0_f9 j12_h0_f10 (-1) 1 h0_f13 h0_f14 h0_15 h0_16 h0_f17 h0_18 h0_19 h0_20 h0_21 h0_22 h0_23 h0_24 h0_25 h0_f26 h0_f27 h0_f28 h0_f29 h0_f30 h0_f31 h0_32 h0_33 h0_f34 h0_35 h0_36 h0_37 h0_38 h0_39 h0_40 h0_f41 h0_f42 h0_f43 h0_f44 h0_45 h0_46 h0_47 h0_48 h0_49 h0_50 h0_f51 h0_52 h0_f53 h0_5 h0_5k tN h0_5c h0_4 h0_4k h0_4c)) (hS : va_S A s.heap H locs) (hl : lv_has ls 6 [(0, .ref h0)]), G H locs (F0 m 12 ls [.int j12_s0]) := by
    as_aux_lemma =>
    intro j12_s0 j12_h0_f10 g_h0_f10 g_h0_f17 g_h0_f26 g_h0_f27 g_h0_f28 g_h0_f29 g_h0_f30 g_h0_f31 g_h0_f34 g_h0_f41 g_h0_f51 g_h0_f53 g_h0_f6 g_h0_f7 g_h0_f8 g_h0_f9 g_j12_h0_f10 g_p1 g_p2 r_h0_f10_j12_h0_f10 hEX H locs ls hP hD hS hl
    refine hG _ _ _ ?_
    refine lv_istore_n (lv' := [(3, .int j12_s0), (0, .ref h0)]) hx hb dX12_compares_12 rfl hl (Nat.le_of_ble_eq_true rfl) rfl (fun ls hl => ?_)
    refine lv_aload_n hx hb dX12_compares_13 rfl (lv_at hl 1 rfl) ?_
    refine va_get (D := (dC, dI)) (ci := 12) (v := .int (-1)) (C := RX12) (T := TX12) (N := 54) hx hb hts iw_c_X12_compares_1_X12 hown hK hP 0 rfl rfl 11 (by decide +kernel) (hts (.fieldLink RX12 143 "BuoyVoteModel" "fault" "I") (List.mem_of_getElem? (i := 65) rfl)) (fun _ h9 => h9) rfl dX12_compares_14 ?_
    refine lv_iconst (v := (-1)) hx hb dX12_compares_17 kc_iconst_m1 ?_
    refine lv_icmp_eq (tgt := 23) hx hb dX12_compares_18 rfl (fun c_1 => ?_) (fun c_1 => absurd c_1 (by decide +kernel))
    refine lv_aload_n hx hb dX12_compares_23 rfl (lv_at hl 1 rfl) ?_
    obtain ⟨hPc, hDc, hFc, hqc⟩ := cl_cut (wc := (wd_c_X12_look h0 h0_f0 h0_1 h0_2 h0_3 h0_4 h0_5 h0_f6 h0_f7 h0_f8 h0_f9 j12_h0_f10 (-1) 1 h0_f13 h0_f14 h0_15 h0_16 h0_f17 h0_18 h0_19 h0_20 h0_21 h0_22 h0_23 h0_24 h0_25 h0_f26 h0_f27 h0_f28 h0_f29 h0_f30 h0_f31 h0_32 h0_33 h0_f34 h0_35 h0_36 h0_37 h0_38 h0_39 h0_40 h0_f41 h0_f42 h0_f43 h0_f44 h0_45 h0_46 h0_47 h0_48 h0_49 h0_50 h0_f51 h0_52 h0_f53 h0_5 h0_5k tN h0_5c)) hP hD hS hA [0, 1] (by decide +kernel) rfl
    have hKc := hK.sub (tys' := [(h0_5k, .byte)]) [0] rfl
    have hrv := va_recv hKc hPc (ci := 12) (q0 := 0) rfl rfl
    refine va_calli (va_runV (As := []) (rest := []) ⟨hx, hb, hml, hown, hts⟩ (c_X12_look l dC dI H.size h0 h0_f0 h0_1 h0_2 h0_3 h0_4 h0_5 h0_f6 h0_f7 h0_f8 h0_f9 j12_h0_f10 1 h0_f13 h0_f14 h0_15 h0_16 h0_f17 h0_18 h0_19 h0_20 h0_21 h0_22 h0_23 h0_24 h0_25 h0_f26 h0_f27 h0_f28 h0_f29 h0_f30 h0_f31 h0_32 h0_33 h0_f34 h0_35 h0_36 h0_37 h0_38 h0_39 h0_40 h0_f41 h0_f42 h0_f43 h0_f44 h0_45 h0_46 h0_47 h0_48 h0_49 h0_50 h0_f51 h0_52 h0_f53 h0_5k h0_5c tN g_h0_f6 g_h0_f7 g_h0_f8 (RG_w g_h0_f9 (by decide +kernel)) g_j12_h0_f10 g_h0_f17 g_h0_f26 g_h0_f27 g_h0_f28 g_h0_f29 g_h0_f30 g_h0_f31 g_h0_f34 g_h0_f41 g_h0_f51 g_h0_f53 htN) (cwV 0 hts gf_c_X12_compares_1_c_X12_look rfl rfl rfl mdV_X12_look ⟨Nat.le_of_ble_eq_true rfl, Nat.le_of_ble_eq_true rfl⟩) ⟨fun a U g mk q => by obtain ⟨q0, q1, qP, qK, qD⟩ := q; exact ⟨q0, q1, qP, va_K.moved (u := U) (U := U.calling g mk a) (Vm.Alike.refl U.vm) qK, qD⟩, hrv, fun U hU hW => ⟨rfl, by rw [hU], by rw [hU]; exact hPc, va_K.moved hW.alike hKc, hDc.weaken (fun _ _ _ _ => trivial)⟩⟩ rfl rfl hl.1 rfl (lv_room (Nat.le_of_ble_eq_true rfl)) dX12_compares_24 ⟨Nat.le_of_ble_eq_true rfl, Nat.le_of_ble_eq_true rfl⟩) hS (fun q _ h => hFc q h) hFc (fun r_2 x_3 t H1 locs ht hvm hw hB hz1 hk1 hS => ?_)
    obtain ⟨hP1, hK1, hD1⟩ := hB
    rw [ht] at hP1
    obtain ⟨hP, hD⟩ := cl_put (w1 := (wd_c_X12_look h0 h0_f0 h0_1 h0_2 h0_3 h0_4 h0_5 h0_f6 h0_f7 h0_f8 h0_f9 x_3 (-1) 1 h0_f13 h0_f14 h0_15 h0_16 h0_f17 h0_18 h0_19 h0_20 h0_21 h0_22 h0_23 h0_24 h0_25 h0_f26 h0_f27 h0_f28 h0_f29 h0_f30 h0_f31 h0_32 h0_33 h0_f34 h0_35 h0_36 h0_37 h0_38 h0_39 h0_40 h0_f41 h0_f42 h0_f43 h0_f44 h0_45 h0_46 h0_47 h0_48 h0_49 h0_50 h0_f51 h0_52 h0_f53 h0_5 h0_5k tN h0_5c)) (nw := (wd_c_X12_compares_1 h0 h0_f0 h0_1 h0_2 h0_3 h0_4 h0_5 h0_f6 h0_f7 h0_f8 h0_f9 x_3 (-1) 1 h0_f13 h0_f14 h0_15 h0_16 h0_f17 h0_18 h0_19 h0_20 h0_21 h0_22 h0_23 h0_24 h0_25 h0_f26 h0_f27 h0_f28 h0_f29 h0_f30 h0_f31 h0_32 h0_33 h0_f34 h0_35 h0_36 h0_37 h0_38 h0_39 h0_40 h0_f41 h0_f42 h0_f43 h0_f44 h0_45 h0_46 h0_47 h0_48 h0_49 h0_50 h0_f51 h0_52 h0_f53 h0_5 h0_5k tN h0_5c h0_4 h0_4k h0_4c)) hP hD [0, 1] [3, 4, 2] 3 rfl hqc (by decide +kernel) rfl hk1 hFc hP1 hD1
    generalize H1 = H at hP hS ⊢
    as_aux_lemma =>
    rcases hw with ⟨h_4, h_5, h_6, h_7, h_8, h_9⟩ | ⟨h_10, h_11, h_12, h_13, h_14, h_15, h_16⟩
    · have h_9 : (r_2, x_3) = _ := h_9
      replace hEX := hEX.trans (exc2_eq h_9)
      replace hEX := hEX.trans (if_pos (show r_2 = (-1) from h_4))
      rw [h_4]
      refine lv_istore (lv' := [(4, .int (-1)), (3, .int j12_s0), (0, .ref h0)]) hx hb dX12_compares_27 hl (Nat.le_of_ble_eq_true rfl) rfl (fun ls hl => ?_)
      refine lv_iload hx hb dX12_compares_29 (lv_at hl 0 rfl) ?_
      obtain ⟨hPc, hDc, hFc, hqc⟩ := cl_cut (wc := []) hP hD hS hA [] (by decide +kernel) rfl
      have hKc := hK.sub (tys' := []) [] rfl
      refine va_calli (va_runS (As := [.int (-1)]) (rest := []) ⟨hx, hb, hml, hown, hts⟩ (c_X12_isSign l dC dI H.size (-1) (RG_k (-1) (-1) rfl)) (va_cwS 1 hts gf_c_X12_compares_1_c_X12_isSign rfl rfl rfl md_X12_isSign ⟨Nat.le_of_ble_eq_true rfl, Nat.le_of_ble_eq_true rfl⟩) ⟨fun a U g mk q => by obtain ⟨q0, q1, qP, qK, qD⟩ := q; exact ⟨q0, q1, qP, va_K.moved (u := U) (U := U.calling g mk a) (Vm.Alike.refl U.vm) qK, qD⟩, fun U hU hW => ⟨rfl, by rw [hU], by rw [hU]; exact hPc, va_K.moved hW.alike hKc, hDc.weaken (fun _ _ _ _ => trivial)⟩⟩ rfl rfl hl.1 rfl (lv_room (Nat.le_of_ble_eq_true rfl)) dX12_compares_31 ⟨Nat.le_of_ble_eq_true rfl, Nat.le_of_ble_eq_true rfl⟩) hS (fun q _ h => hFc q h) hFc (fun r_17 u t H1 locs ht hvm hw hB hz1 hk1 hS => ?_)
      obtain ⟨hP1, hK1, hD1⟩ := hB
      rw [ht] at hP1
      have hP := bv_still hP hk1
      generalize H1 = H at hP hS ⊢
      as_aux_lemma =>
      rcases hw with ⟨h_18, h_19⟩
      have h_19 : r_17 = _ := h_19
      replace hEX := hEX.trans (exc1_eq h_19)
      rw [h_18]
      refine lv_if_ne (tgt := 42) hx hb dX12_compares_34 rfl (fun c_20 => absurd c_20 (by decide +kernel)) (fun c_20 => ?_)
      refine lv_aload_n hx hb dX12_compares_37 rfl (lv_at hl 2 rfl) ?_
      obtain ⟨hPc, hDc, hFc, hqc⟩ := cl_cut (wc := (wd_c_X12_fails h0 h0_f0 h0_1 h0_2 h0_3 h0_4 h0_5 h0_f6 h0_f7 h0_f8 h0_f9 x_3 (-1) 1 h0_f13 h0_f14 h0_15 h0_16 h0_f17 h0_18 h0_19 h0_20 h0_21 h0_22 h0_23 h0_24 h0_25 h0_f26 h0_f27 h0_f28 h0_f29 h0_f30 h0_f31 h0_32 h0_33 h0_f34 h0_35 h0_36 h0_37 h0_38 h0_39 h0_40 h0_f41 h0_f42 h0_f43 h0_f44 h0_45 h0_46 h0_47 h0_48 h0_49 h0_50 h0_f51 h0_52 h0_f53)) hP hD hS hA [0] (by decide +kernel) rfl
      have hKc := hK.sub (tys' := []) [] rfl
      have hrv := va_recv hKc hPc (ci := 12) (q0 := 0) rfl rfl
      refine va_calli (va_runV (As := []) (rest := []) ⟨hx, hb, hml, hown, hts⟩ (c_X12_fails l dC dI H.size h0 h0_f0 h0_1 h0_2 h0_3 h0_4 h0_5 h0_f6 h0_f7 h0_f8 h0_f9 x_3 1 h0_f13 h0_f14 h0_15 h0_16 h0_f17 h0_18 h0_19 h0_20 h0_21 h0_22 h0_23 h0_24 h0_25 h0_f26 h0_f27 h0_f28 h0_f29 h0_f30 h0_f31 h0_32 h0_33 h0_f34 h0_35 h0_36 h0_37 h0_38 h0_39 h0_40 h0_f41 h0_f42 h0_f43 h0_f44 h0_45 h0_46 h0_47 h0_48 h0_49 h0_50 h0_f51 h0_52 h0_f53 g_h0_f6 g_h0_f7 g_h0_f8 (RG_w g_h0_f9 (by decide +kernel)) h_5 g_h0_f17 g_h0_f26 g_h0_f27 g_h0_f28 g_h0_f29 g_h0_f30 g_h0_f31 g_h0_f34 g_h0_f41 g_h0_f51 g_h0_f53) (cwV 0 hts gf_c_X12_compares_1_c_X12_fails rfl rfl rfl mdV_X12_fails ⟨Nat.le_of_ble_eq_true rfl, Nat.le_of_ble_eq_true rfl⟩) ⟨fun a U g mk q => by obtain ⟨q0, q1, qP, qK, qD⟩ := q; exact ⟨q0, q1, qP, va_K.moved (u := U) (U := U.calling g mk a) (Vm.Alike.refl U.vm) qK, qD⟩, hrv, fun U hU hW => ⟨rfl, by rw [hU], by rw [hU]; exact hPc, va_K.moved hW.alike hKc, hDc.weaken (fun _ _ _ _ => trivial)⟩⟩ rfl rfl hl.1 rfl (lv_room (Nat.le_of_ble_eq_true rfl)) dX12_compares_38 ⟨Nat.le_of_ble_eq_true rfl, Nat.le_of_ble_eq_true rfl⟩) hS (fun q _ h => hFc q h) hFc (fun r_21 u t H1 locs ht hvm hw hB hz1 hk1 hS => ?_)
      obtain ⟨hP1, hK1, hD1⟩ := hB
      rw [ht] at hP1
      obtain ⟨hP, hD⟩ := cl_put (w1 := (wd_c_X12_fails h0 h0_f0 h0_1 h0_2 h0_3 h0_4 h0_5 h0_f6 h0_f7 h0_f8 h0_f9 x_3 x_3 1 h0_f13 h0_f14 h0_15 h0_16 h0_f17 h0_18 h0_19 h0_20 h0_21 h0_22 h0_23 h0_24 h0_25 h0_f26 h0_f27 h0_f28 h0_f29 h0_f30 h0_f31 h0_32 h0_33 h0_f34 h0_35 h0_36 h0_37 h0_38 h0_39 h0_40 h0_f41 h0_f42 h0_f43 h0_f44 h0_45 h0_46 h0_47 h0_48 h0_49 h0_50 h0_f51 h0_52 h0_f53)) (nw := (wd_c_X12_compares_1 h0 h0_f0 h0_1 h0_2 h0_3 h0_4 h0_5 h0_f6 h0_f7 h0_f8 h0_f9 x_3 x_3 1 h0_f13 h0_f14 h0_15 h0_16 h0_f17 h0_18 h0_19 h0_20 h0_21 h0_22 h0_23 h0_24 h0_25 h0_f26 h0_f27 h0_f28 h0_f29 h0_f30 h0_f31 h0_32 h0_33 h0_f34 h0_35 h0_36 h0_37 h0_38 h0_39 h0_40 h0_f41 h0_f42 h0_f43 h0_f44 h0_45 h0_46 h0_47 h0_48 h0_49 h0_50 h0_f51 h0_52 h0_f53 h0_5 h0_5k tN h0_5c h0_4 h0_4k h0_4c)) hP hD [0] [3, 1, 2] 3 rfl hqc (by decide +kernel) rfl hk1 hFc hP1 hD1
      generalize H1 = H at hP hS ⊢
      as_aux_lemma =>
      rcases hw with ⟨h_22, h_23⟩
      have h_23 : r_21 = _ := h_23
      replace hEX := hEX.trans (exc1_eq h_23)
      rw [h_22]
      have hK9 := hK.sub (tys' := []) [] rfl
      exact W.zret (v := 0) hx hb hr rfl (fun t ht hW => ⟨⟨0, (x_3, x_3, 1), rfl, (Or.inr ⟨(RG_w (RG_k 0 0 rfl) (by decide +kernel)), h_5, h_5, (RG_w (RG_k 1 1 rfl) (by decide +kernel)), (by have := r_h0_f10_j12_h0_f10; have := h_6; show h0_f10.toInt + 0 ≤ x_3.toInt; omega), (hR.trans hEX).symm⟩), by rw [ht]; exact hP, va_K.moved hW.alike hK9, hD⟩, hS.F ht⟩) hS.2.2 dX12_compares_41
    · have h_16 : (r_2, x_3) = _ := h_16
      replace hEX := hEX.trans (exc2_eq h_16)
      replace hEX := hEX.trans (if_neg (RG_neq (x := r_2) (c := (-1)) (show RG r_2 0 255 from h_10) (by decide +kernel)))
      have nb_24 := h_15.2.resolve_left (fun q => by have g9 := h_10; rw [q] at g9; exact absurd g9.1 (by decide +kernel))
      refine lv_istore (lv' := [(4, .int r_2), (3, .int j12_s0), (0, .ref h0)]) hx hb dX12_compares_27 hl (Nat.le_of_ble_eq_true rfl) rfl (fun ls hl => ?_)
      refine lv_iload hx hb dX12_compares_29 (lv_at hl 0 rfl) ?_
      obtain ⟨hPc, hDc, hFc, hqc⟩ := cl_cut (wc := []) hP hD hS hA [] (by decide +kernel) rfl
      have hKc := hK.sub (tys' := []) [] rfl
      refine va_calli (va_runS (As := [.int r_2]) (rest := []) ⟨hx, hb, hml, hown, hts⟩ (c_X12_isSign_1 l dC dI H.size r_2 h_10) (va_cwS 1 hts gf_c_X12_compares_1_c_X12_isSign_1 rfl rfl rfl md_X12_isSign ⟨Nat.le_of_ble_eq_true rfl, Nat.le_of_ble_eq_true rfl⟩) ⟨fun a U g mk q => by obtain ⟨q0, q1, qP, qK, qD⟩ := q; exact ⟨q0, q1, qP, va_K.moved (u := U) (U := U.calling g mk a) (Vm.Alike.refl U.vm) qK, qD⟩, fun U hU hW => ⟨rfl, by rw [hU], by rw [hU]; exact hPc, va_K.moved hW.alike hKc, hDc.weaken (fun _ _ _ _ => trivial)⟩⟩ rfl rfl hl.1 rfl (lv_room (Nat.le_of_ble_eq_true rfl)) dX12_compares_31 ⟨Nat.le_of_ble_eq_true rfl, Nat.le_of_ble_eq_true rfl⟩) hS (fun q _ h => hFc q h) hFc (fun r_25 u t H1 locs ht hvm hw hB hz1 hk1 hS => ?_)
      as_aux_lemma =>
      obtain ⟨hP1, hK1, hD1⟩ := hB
      rw [ht] at hP1
      have hP := bv_still hP hk1
      generalize H1 = H at hP hS ⊢
      as_aux_lemma =>
      rcases hw with ⟨h_26, h_27⟩ | ⟨h_28, h_29, h_30⟩
      · have h_27 : r_25 = _ := h_27
        replace hEX := hEX.trans (exc1_eq h_27)
        replace hEX := hEX.trans (if_pos (show r_25 = 0 from h_26))
        rw [h_26]
        refine lv_if_ne (tgt := 42) hx hb dX12_compares_34 rfl (fun c_31 => absurd c_31 (by decide +kernel)) (fun c_31 => ?_)
        refine lv_aload_n hx hb dX12_compares_37 rfl (lv_at hl 2 rfl) ?_
        obtain ⟨hPc, hDc, hFc, hqc⟩ := cl_cut (wc := (wd_c_X12_fails h0 h0_f0 h0_1 h0_2 h0_3 h0_4 h0_5 h0_f6 h0_f7 h0_f8 h0_f9 x_3 (-1) 1 h0_f13 h0_f14 h0_15 h0_16 h0_f17 h0_18 h0_19 h0_20 h0_21 h0_22 h0_23 h0_24 h0_25 h0_f26 h0_f27 h0_f28 h0_f29 h0_f30 h0_f31 h0_32 h0_33 h0_f34 h0_35 h0_36 h0_37 h0_38 h0_39 h0_40 h0_f41 h0_f42 h0_f43 h0_f44 h0_45 h0_46 h0_47 h0_48 h0_49 h0_50 h0_f51 h0_52 h0_f53)) hP hD hS hA [0] (by decide +kernel) rfl
        have hKc := hK.sub (tys' := []) [] rfl
        have hrv := va_recv hKc hPc (ci := 12) (q0 := 0) rfl rfl
        refine va_calli (va_runV (As := []) (rest := []) ⟨hx, hb, hml, hown, hts⟩ (c_X12_fails l dC dI H.size h0 h0_f0 h0_1 h0_2 h0_3 h0_4 h0_5 h0_f6 h0_f7 h0_f8 h0_f9 x_3 1 h0_f13 h0_f14 h0_15 h0_16 h0_f17 h0_18 h0_19 h0_20 h0_21 h0_22 h0_23 h0_24 h0_25 h0_f26 h0_f27 h0_f28 h0_f29 h0_f30 h0_f31 h0_32 h0_33 h0_f34 h0_35 h0_36 h0_37 h0_38 h0_39 h0_40 h0_f41 h0_f42 h0_f43 h0_f44 h0_45 h0_46 h0_47 h0_48 h0_49 h0_50 h0_f51 h0_52 h0_f53 g_h0_f6 g_h0_f7 g_h0_f8 (RG_w g_h0_f9 (by decide +kernel)) (RG_w h_11 (by decide +kernel)) g_h0_f17 g_h0_f26 g_h0_f27 g_h0_f28 g_h0_f29 g_h0_f30 g_h0_f31 g_h0_f34 g_h0_f41 g_h0_f51 g_h0_f53) (cwV 0 hts gf_c_X12_compares_1_c_X12_fails rfl rfl rfl mdV_X12_fails ⟨Nat.le_of_ble_eq_true rfl, Nat.le_of_ble_eq_true rfl⟩) ⟨fun a U g mk q => by obtain ⟨q0, q1, qP, qK, qD⟩ := q; exact ⟨q0, q1, qP, va_K.moved (u := U) (U := U.calling g mk a) (Vm.Alike.refl U.vm) qK, qD⟩, hrv, fun U hU hW => ⟨rfl, by rw [hU], by rw [hU]; exact hPc, va_K.moved hW.alike hKc, hDc.weaken (fun _ _ _ _ => trivial)⟩⟩ rfl rfl hl.1 rfl (lv_room (Nat.le_of_ble_eq_true rfl)) dX12_compares_38 ⟨Nat.le_of_ble_eq_true rfl, Nat.le_of_ble_eq_true rfl⟩) hS (fun q _ h => hFc q h) hFc (fun r_32 u t H1 locs ht hvm hw hB hz1 hk1 hS => ?_)
        obtain ⟨hP1, hK1, hD1⟩ := hB
        rw [ht] at hP1
        obtain ⟨hP, hD⟩ := cl_put (w1 := (wd_c_X12_fails h0 h0_f0 h0_1 h0_2 h0_3 h0_4 h0_5 h0_f6 h0_f7 h0_f8 h0_f9 x_3 x_3 1 h0_f13 h0_f14 h0_15 h0_16 h0_f17 h0_18 h0_19 h0_20 h0_21 h0_22 h0_23 h0_24 h0_25 h0_f26 h0_f27 h0_f28 h0_f29 h0_f30 h0_f31 h0_32 h0_33 h0_f34 h0_35 h0_36 h0_37 h0_38 h0_39 h0_40 h0_f41 h0_f42 h0_f43 h0_f44 h0_45 h0_46 h0_47 h0_48 h0_49 h0_50 h0_f51 h0_52 h0_f53)) (nw := (wd_c_X12_compares_1 h0 h0_f0 h0_1 h0_2 h0_3 h0_4 h0_5 h0_f6 h0_f7 h0_f8 h0_f9 x_3 x_3 1 h0_f13 h0_f14 h0_15 h0_16 h0_f17 h0_18 h0_19 h0_20 h0_21 h0_22 h0_23 h0_24 h0_25 h0_f26 h0_f27 h0_f28 h0_f29 h0_f30 h0_f31 h0_32 h0_33 h0_f34 h0_35 h0_36 h0_37 h0_38 h0_39 h0_40 h0_f41 h0_f42 h0_f43 h0_f44 h0_45 h0_46 h0_47 h0_48 h0_49 h0_50 h0_f51 h0_52 h0_f53 h0_5 h0_5k tN h0_5c h0_4 h0_4k h0_4c)) hP hD [0] [3, 1, 2] 3 rfl hqc (by decide +kernel) rfl hk1 hFc hP1 hD1
        generalize H1 = H at hP hS ⊢
        as_aux_lemma =>
        rcases hw with ⟨h_33, h_34⟩
        have h_34 : r_32 = _ := h_34
        replace hEX := hEX.trans (exc1_eq h_34)
        rw [h_33]
        have hK9 := hK.sub (tys' := []) [] rfl
        exact W.zret (v := 0) hx hb hr rfl (fun t ht hW => ⟨⟨0, (x_3, x_3, 1), rfl, (Or.inr ⟨(RG_w (RG_k 0 0 rfl) (by decide +kernel)), (RG_w h_11 (by decide +kernel)), (RG_w h_11 (by decide +kernel)), (RG_w (RG_k 1 1 rfl) (by decide +kernel)), (by have := r_h0_f10_j12_h0_f10; have := h_13; show h0_f10.toInt + 0 ≤ x_3.toInt; omega), (hR.trans hEX).symm⟩), by rw [ht]; exact hP, va_K.moved hW.alike hK9, hD⟩, hS.F ht⟩) hS.2.2 dX12_compares_41
      · have h_30 : r_25 = _ := h_30
        replace hEX := hEX.trans (exc1_eq h_30)
        replace hEX := hEX.trans (if_neg (fun q9 : r_25 = 0 => absurd ((show r_25 = 1 from h_28).symm.trans q9) (by decide +kernel)))
        rw [h_28]
        refine lv_if_ne (tgt := 42) hx hb dX12_compares_34 rfl (fun c_35 => ?_) (fun c_35 => absurd c_35 (by decide +kernel))
        refine lv_aload_n hx hb dX12_compares_42 rfl (lv_at hl 2 rfl) ?_
        refine lv_dup hx hb dX12_compares_43 rfl ?_
        refine va_get (D := (dC, dI)) (ci := 12) (v := .int x_3) (C := RX12) (T := TX12) (N := 54) hx hb hts iw_c_X12_compares_1_X12 hown hK hP 0 rfl rfl 10 (by decide +kernel) (hts (.fieldLink RX12 134 "BuoyVoteModel" "at" "I") (List.mem_of_getElem? (i := 18) rfl)) (fun _ h9 => h9) rfl dX12_compares_44 ?_
        as_aux_lemma =>
        refine lv_iconst (v := 1) hx hb dX12_compares_47 kc_iconst_1 ?_
        refine lv_iadd hx hb dX12_compares_48 ?_
        refine lv_topi (fun x_36 ex_36 => ?_)
        replace hEX := hEX.trans (exl_eq ex_36)
        have g_37 : RG x_36 1 240 := RG_add ex_36 h_11 (RG_k 1 1 rfl) (by decide +kernel)
        have q_38 : x_36.toInt = x_3.toInt + 1 := eq_add ex_36 h_11 (q := 1) rfl (by decide +kernel)
        refine va_put (D := (dC, dI)) (ci := 12) (v := .int x_36) (ty := .int) (C := RX12) (T := TX12) (N := 54) hx hb hts iw_c_X12_compares_1_X12 tyX12 tyX12_ok nmX12 hown hK hP hD hS 0 rfl rfl 10 (by decide +kernel) (hts (.fieldLink RX12 134 "BuoyVoteModel" "at" "I") (List.mem_of_getElem? (i := 18) rfl)) (fun _ h9 => h9) rfl (by decide +kernel) rfl rfl (Nat.le_of_ble_eq_true rfl) dX12_compares_49 (fun H locs hP hD hS => ?_)
        have hP : va_P (dC, dI) vwCl (wd_c_X12_compares_1 h0 h0_f0 h0_1 h0_2 h0_3 h0_4 h0_5 h0_f6 h0_f7 h0_f8 h0_f9 x_36 (-1) 1 h0_f13 h0_f14 h0_15 h0_16 h0_f17 h0_18 h0_19 h0_20 h0_21 h0_22 h0_23 h0_24 h0_25 h0_f26 h0_f27 h0_f28 h0_f29 h0_f30 h0_f31 h0_32 h0_33 h0_f34 h0_35 h0_36 h0_37 h0_38 h0_39 h0_40 h0_f41 h0_f42 h0_f43 h0_f44 h0_45 h0_46 h0_47 h0_48 h0_49 h0_50 h0_f51 h0_52 h0_f53 h0_5 h0_5k tN h0_5c h0_4 h0_4k h0_4c) H := hP
        have hD : va_D A (wd_c_X12_compares_1 h0 h0_f0 h0_1 h0_2 h0_3 h0_4 h0_5 h0_f6 h0_f7 h0_f8 h0_f9 x_36 (-1) 1 h0_f13 h0_f14 h0_15 h0_16 h0_f17 h0_18 h0_19 h0_20 h0_21 h0_22 h0_23 h0_24 h0_25 h0_f26 h0_f27 h0_f28 h0_f29 h0_f30 h0_f31 h0_32 h0_33 h0_f34 h0_35 h0_36 h0_37 h0_38 h0_39 h0_40 h0_f41 h0_f42 h0_f43 h0_f44 h0_45 h0_46 h0_47 h0_48 h0_49 h0_50 h0_f51 h0_52 h0_f53 h0_5 h0_5k tN h0_5c h0_4 h0_4k h0_4c) := hD
        refine lv_aload_n hx hb dX12_compares_52 rfl (lv_at hl 2 rfl) ?_
        obtain ⟨hPc, hDc, hFc, hqc⟩ := cl_cut (wc := (wd_c_X12_sum_1 h0 h0_f0 h0_1 h0_2 h0_3 h0_4 h0_5 h0_f6 h0_f7 h0_f8 h0_f9 x_36 (-1) 1 h0_f13 h0_f14 h0_15 h0_16 h0_f17 h0_18 h0_19 h0_20 h0_21 h0_22 h0_23 h0_24 h0_25 h0_f26 h0_f27 h0_f28 h0_f29 h0_f30 h0_f31 h0_32 h0_33 h0_f34 h0_35 h0_36 h0_37 h0_38 h0_39 h0_40 h0_f41 h0_f42 h0_f43 h0_f44 h0_45 h0_46 h0_47 h0_48 h0_49 h0_50 h0_f51 h0_52 h0_f53 h0_5 h0_5k tN h0_5c h0_4 h0_4k h0_4c)) hP hD hS hA [0, 1, 2] (by decide +kernel) rfl
        have hKc := hK.sub (tys' := [(h0_5k, .byte), (h0_4k, .int)]) [0, 1] rfl
        have hrv := va_recv hKc hPc (ci := 12) (q0 := 0) rfl rfl
        refine va_calli (va_runV (As := []) (rest := []) ⟨hx, hb, hml, hown, hts⟩ (c_X12_sum_1 l dC dI H.size h0 h0_f0 h0_1 h0_2 h0_3 h0_4 h0_5 h0_f6 h0_f7 h0_f8 h0_f9 x_36 h0_f13 h0_f14 h0_15 h0_16 h0_f17 h0_18 h0_19 h0_20 h0_21 h0_22 h0_23 h0_24 h0_25 h0_f26 h0_f27 h0_f28 h0_f29 h0_f30 h0_f31 h0_32 h0_33 h0_f34 h0_35 h0_36 h0_37 h0_38 h0_39 h0_40 h0_f41 h0_f42 h0_f43 h0_f44 h0_45 h0_46 h0_47 h0_48 h0_49 h0_50 h0_f51 h0_52 h0_f53 h0_5k h0_5c tN h0_4k h0_4c ts7 tv7 g_h0_f6 g_h0_f7 g_h0_f8 (RG_w g_h0_f9 (by decide +kernel)) (RG_w g_37 (by decide +kernel)) g_h0_f17 g_h0_f26 g_h0_f27 g_h0_f28 g_h0_f29 g_h0_f30 g_h0_f31 g_h0_f34 g_h0_f41 g_h0_f51 g_h0_f53 htN a_h0_4c) (cwV 0 hts gf_c_X12_compares_1_c_X12_sum_1 rfl rfl rfl mdV_X12_sum ⟨Nat.le_of_ble_eq_true rfl, Nat.le_of_ble_eq_true rfl⟩) ⟨fun a U g mk q => by obtain ⟨q0, q1, qP, qK, qD, qE0, qE1, qE2, qE3, qE4, qE5, qE6⟩ := q; exact ⟨q0, q1, qP, va_K.moved (u := U) (U := U.calling g mk a) (Vm.Alike.refl U.vm) qK, qD, vk_R.same rfl qE0, va_OF.moved (u := U) (U := U.calling g mk a) (Vm.Alike.refl U.vm) qE1, va_T.moved (u := U) (U := U.calling g mk a) (Vm.Alike.refl U.vm) qE2, va_Z.moved (u := U) (U := U.calling g mk a) (Vm.Alike.refl U.vm) qE3, va_OF.moved (u := U) (U := U.calling g mk a) (Vm.Alike.refl U.vm) qE4, va_O.moved (u := U) (U := U.calling g mk a) (Vm.Alike.refl U.vm) qE5, va_Zq.moved (u := U) (U := U.calling g mk a) (Vm.Alike.refl U.vm) qE6⟩, hrv, fun U hU hW => ⟨rfl, by rw [hU], by rw [hU]; exact hPc, va_K.moved hW.alike hKc, hDc.weaken (fun _ _ _ _ => trivial), vk_R.warm hW hE_47, va_OF.moved hW.alike (by rw [hU]; exact (hE_50.kept hS.2.1).narrow hFc), va_T.moved hW.alike (by rw [hU]; exact (hE_51.kept hS.2.1).narrow hFc), va_Z.moved hW.alike (by rw [hU]; exact (hE_10.kept hS.2.1).narrow hFc), va_OF.moved hW.alike (by rw [hU]; exact (hE_49.kept hS.2.1).narrow hFc), va_O.moved hW.alike (by rw [hU]; exact (hE_48.kept hS.2.1).narrow hFc), va_Zq.moved hW.alike (by rw [hU]; exact (hE_11.kept hS.2.1).narrow hFc)⟩⟩ rfl rfl hl.1 rfl (lv_room (Nat.le_of_ble_eq_true rfl)) dX12_compares_53 ⟨Nat.le_of_ble_eq_true rfl, Nat.le_of_ble_eq_true rfl⟩) hS (fun q _ h => hFc q h) hFc (fun r_39 u t H1 locs ht hvm hw hB hz1 hk1 hS => ?_)
        as_aux_lemma =>
        obtain ⟨x_40, x_41, x_42⟩ := u
        obtain ⟨hP1, hK1, hD1⟩ := hB
        rw [ht] at hP1
        obtain ⟨hP, hD⟩ := cl_put (w1 := (wd_c_X12_sum_1 h0 h0_f0 h0_1 h0_2 h0_3 h0_4 h0_5 h0_f6 h0_f7 h0_f8 h0_f9 x_40 x_41 x_42 h0_f13 h0_f14 h0_15 h0_16 h0_f17 h0_18 h0_19 h0_20 h0_21 h0_22 h0_23 h0_24 h0_25 h0_f26 h0_f27 h0_f28 h0_f29 h0_f30 h0_f31 h0_32 h0_33 h0_f34 h0_35 h0_36 h0_37 h0_38 h0_39 h0_40 h0_f41 h0_f42 h0_f43 h0_f44 h0_45 h0_46 h0_47 h0_48 h0_49 h0_50 h0_f51 h0_52 h0_f53 h0_5 h0_5k tN h0_5c h0_4 h0_4k h0_4c)) (nw := (wd_c_X12_compares_1 h0 h0_f0 h0_1 h0_2 h0_3 h0_4 h0_5 h0_f6 h0_f7 h0_f8 h0_f9 x_40 x_41 x_42 h0_f13 h0_f14 h0_15 h0_16 h0_f17 h0_18 h0_19 h0_20 h0_21 h0_22 h0_23 h0_24 h0_25 h0_f26 h0_f27 h0_f28 h0_f29 h0_f30 h0_f31 h0_32 h0_33 h0_f34 h0_35 h0_36 h0_37 h0_38 h0_39 h0_40 h0_f41 h0_f42 h0_f43 h0_f44 h0_45 h0_46 h0_47 h0_48 h0_49 h0_50 h0_f51 h0_52 h0_f53 h0_5 h0_5k tN h0_5c h0_4 h0_4k h0_4c)) hP hD [0, 1, 2] [3, 4, 5] 3 rfl hqc (by decide +kernel) rfl hk1 hFc hP1 hD1
        generalize H1 = H at hP hS ⊢
        as_aux_lemma =>
        rcases hw with ⟨h_43, h_44, h_45, h_46, h_47, h_48, h_49⟩ | ⟨h_50, h_51, h_52, h_53, h_54, h_55⟩
        · have h_49 : (r_39, x_40, x_41, x_42) = _ := h_49
          replace hEX := hEX.trans (exc4_eq h_49)
          replace hEX := hEX.trans (if_pos (show x_41 = (-1) from h_45))
          subst h_45
          subst h_46
          have h_48 : x_36.toInt + 0 ≤ x_40.toInt := h_48
          refine lv_istore (lv' := [(5, .int r_39), (4, .int r_2), (3, .int j12_s0), (0, .ref h0)]) hx hb dX12_compares_56 hl (Nat.le_of_ble_eq_true rfl) rfl (fun ls hl => ?_)
          refine lv_iload hx hb dX12_compares_58 (lv_at hl 1 rfl) ?_
          refine lv_bipush (v := 61) hx hb dX12_compares_60 kc_bipush_61 ?_
          refine lv_icmp_ne (tgt := 79) hx hb dX12_compares_62 rfl (fun c_56 => ?_) (fun c_56 => ?_)
          · replace hEX := hEX.trans (if_neg c_56)
            refine lv_iload hx hb dX12_compares_79 (lv_at hl 1 rfl) ?_
            refine lv_bipush (v := 60) hx hb dX12_compares_81 kc_bipush_60 ?_
            as_aux_lemma =>
            refine lv_icmp_ne (tgt := 100) hx hb dX12_compares_83 rfl (fun c_57 => ?_) (fun c_57 => ?_)
            · replace hEX := hEX.trans (if_neg c_57)
              have g_58 : RG r_2 61 62 := RG_ne1 h_29 (q := 60) rfl c_57 (by decide +kernel)
              refine lv_iload_n hx hb dX12_compares_100 rfl (lv_at hl 2 rfl) ?_
              refine lv_iload hx hb dX12_compares_101 (lv_at hl 0 rfl) ?_
              refine lv_icmp_le (tgt := 110) hx hb dX12_compares_103 rfl (fun c_59 => ?_) (fun c_59 => ?_)
              · replace hEX := hEX.trans (if_pos c_59)
                refine lv_iconst (v := 0) hx hb dX12_compares_110 kc_iconst_0 ?_
                have hK9 := hK.sub (tys' := []) [] rfl
                exact W.zret (v := 0) hx hb hr rfl (fun t ht hW => ⟨⟨0, (x_40, (-1), 1), rfl, (Or.inl ⟨(RG_w (RG_k 0 0 rfl) (by decide +kernel)), h_44, rfl, rfl, g_h0_f9, (by have := r_h0_f10_j12_h0_f10; have := h_13; have := q_38; have := h_48; show h0_f10.toInt + 1 ≤ x_40.toInt; omega), (hR.trans hEX).symm⟩), by rw [ht]; exact hP, va_K.moved hW.alike hK9, hD⟩, hS.F ht⟩) hS.2.2 dX12_compares_111
              · replace hEX := hEX.trans (if_neg c_59)
                have d_60 := Int32.not_le.mp c_59
                have g_61 : RG r_39 (-2147483648) 2147483646 := RG_lt1 h_43 (RG_any j12_s0) d_60 (by decide +kernel)
                have g_62 : RG j12_s0 (-2147483647) 2147483647 := RG_lt2 h_43 (RG_any j12_s0) d_60 (by decide +kernel)
                refine lv_iconst (v := 1) hx hb dX12_compares_106 kc_iconst_1 ?_
                as_aux_lemma =>
                refine lv_goto (tgt := 111) hx hb dX12_compares_107 rfl ?_
                have hK9 := hK.sub (tys' := []) [] rfl
                exact W.zret (v := 1) hx hb hr rfl (fun t ht hW => ⟨⟨1, (x_40, (-1), 1), rfl, (Or.inl ⟨(RG_w (RG_k 1 1 rfl) (by decide +kernel)), h_44, rfl, rfl, g_h0_f9, (by have := r_h0_f10_j12_h0_f10; have := h_13; have := q_38; have := h_48; show h0_f10.toInt + 1 ≤ x_40.toInt; omega), (hR.trans hEX).symm⟩), by rw [ht]; exact hP, va_K.moved hW.alike hK9, hD⟩, hS.F ht⟩) hS.2.2 dX12_compares_111
            · replace hEX := hEX.trans (if_pos c_57)
              have g_63 : RG r_2 60 60 := RG_eq1 h_29 (RG_k 60 60 rfl) c_57 (by decide +kernel)
              refine lv_iload_n hx hb dX12_compares_86 rfl (lv_at hl 2 rfl) ?_
              refine lv_iload hx hb dX12_compares_87 (lv_at hl 0 rfl) ?_
              refine lv_icmp_ge (tgt := 96) hx hb dX12_compares_89 rfl (fun c_64 => ?_) (fun c_64 => ?_)
              · replace hEX := hEX.trans (if_pos c_64)
                refine lv_iconst (v := 0) hx hb dX12_compares_96 kc_iconst_0 ?_
                refine lv_goto (tgt := 111) hx hb dX12_compares_97 rfl ?_
                have hK9 := hK.sub (tys' := []) [] rfl
                exact W.zret (v := 0) hx hb hr rfl (fun t ht hW => ⟨⟨0, (x_40, (-1), 1), rfl, (Or.inl ⟨(RG_w (RG_k 0 0 rfl) (by decide +kernel)), h_44, rfl, rfl, g_h0_f9, (by have := r_h0_f10_j12_h0_f10; have := h_13; have := q_38; have := h_48; show h0_f10.toInt + 1 ≤ x_40.toInt; omega), (hR.trans hEX).symm⟩), by rw [ht]; exact hP, va_K.moved hW.alike hK9, hD⟩, hS.F ht⟩) hS.2.2 dX12_compares_111
              · replace hEX := hEX.trans (if_neg c_64)
                have d_65 := Int32.not_le.mp c_64
                have g_66 : RG j12_s0 (-2147483648) 2147483646 := RG_lt1 (RG_any j12_s0) h_43 d_65 (by decide +kernel)
                have g_67 : RG r_39 (-2147483647) 2147483647 := RG_lt2 (RG_any j12_s0) h_43 d_65 (by decide +kernel)
                refine lv_iconst (v := 1) hx hb dX12_compares_92 kc_iconst_1 ?_
                as_aux_lemma =>
                refine lv_goto (tgt := 111) hx hb dX12_compares_93 rfl ?_
                have hK9 := hK.sub (tys' := []) [] rfl
                exact W.zret (v := 1) hx hb hr rfl (fun t ht hW => ⟨⟨1, (x_40, (-1), 1), rfl, (Or.inl ⟨(RG_w (RG_k 1 1 rfl) (by decide +kernel)), h_44, rfl, rfl, g_h0_f9, (by have := r_h0_f10_j12_h0_f10; have := h_13; have := q_38; have := h_48; show h0_f10.toInt + 1 ≤ x_40.toInt; omega), (hR.trans hEX).symm⟩), by rw [ht]; exact hP, va_K.moved hW.alike hK9, hD⟩, hS.F ht⟩) hS.2.2 dX12_compares_111
          · replace hEX := hEX.trans (if_pos c_56)
            have g_68 : RG r_2 61 61 := RG_eq1 h_29 (RG_k 61 61 rfl) c_56 (by decide +kernel)
            refine lv_iload_n hx hb dX12_compares_65 rfl (lv_at hl 2 rfl) ?_
            refine lv_iload hx hb dX12_compares_66 (lv_at hl 0 rfl) ?_
            refine lv_icmp_ne (tgt := 75) hx hb dX12_compares_68 rfl (fun c_69 => ?_) (fun c_69 => ?_)
            · replace hEX := hEX.trans (if_neg c_69)
              refine lv_iconst (v := 0) hx hb dX12_compares_75 kc_iconst_0 ?_
              refine lv_goto (tgt := 111) hx hb dX12_compares_76 rfl ?_
              have hK9 := hK.sub (tys' := []) [] rfl
              exact W.zret (v := 0) hx hb hr rfl (fun t ht hW => ⟨⟨0, (x_40, (-1), 1), rfl, (Or.inl ⟨(RG_w (RG_k 0 0 rfl) (by decide +kernel)), h_44, rfl, rfl, g_h0_f9, (by have := r_h0_f10_j12_h0_f10; have := h_13; have := q_38; have := h_48; show h0_f10.toInt + 1 ≤ x_40.toInt; omega), (hR.trans hEX).symm⟩), by rw [ht]; exact hP, va_K.moved hW.alike hK9, hD⟩, hS.F ht⟩) hS.2.2 dX12_compares_111
            · replace hEX := hEX.trans (if_pos c_69)
              refine lv_iconst (v := 1) hx hb dX12_compares_71 kc_iconst_1 ?_
              as_aux_lemma =>
              refine lv_goto (tgt := 111) hx hb dX12_compares_72 rfl ?_
              have hK9 := hK.sub (tys' := []) [] rfl
              exact W.zret (v := 1) hx hb hr rfl (fun t ht hW => ⟨⟨1, (x_40, (-1), 1), rfl, (Or.inl ⟨(RG_w (RG_k 1 1 rfl) (by decide +kernel)), h_44, rfl, rfl, g_h0_f9, (by have := r_h0_f10_j12_h0_f10; have := h_13; have := q_38; have := h_48; show h0_f10.toInt + 1 ≤ x_40.toInt; omega), (hR.trans hEX).symm⟩), by rw [ht]; exact hP, va_K.moved hW.alike hK9, hD⟩, hS.F ht⟩) hS.2.2 dX12_compares_111
        · have h_55 : (r_39, x_40, x_41, x_42) = _ := h_55
          replace hEX := hEX.trans (exc4_eq h_55)
          replace hEX := hEX.trans (if_neg (RG_neq (x := x_41) (c := (-1)) (show RG x_41 0 240 from h_52) (by decide +kernel)))
          have h_54 : x_36.toInt + 0 ≤ x_40.toInt := h_54
          refine lv_istore (lv' := [(5, .int r_39), (4, .int r_2), (3, .int j12_s0), (0, .ref h0)]) hx hb dX12_compares_56 hl (Nat.le_of_ble_eq_true rfl) rfl (fun ls hl => ?_)
          refine lv_iload hx hb dX12_compares_58 (lv_at hl 1 rfl) ?_
          refine lv_bipush (v := 61) hx hb dX12_compares_60 kc_bipush_61 ?_
          refine lv_icmp_ne (tgt := 79) hx hb dX12_compares_62 rfl (fun c_70 => ?_) (fun c_70 => ?_)
          · replace hEX := hEX.trans (if_neg c_70)
            refine lv_iload hx hb dX12_compares_79 (lv_at hl 1 rfl) ?_
            refine lv_bipush (v := 60) hx hb dX12_compares_81 kc_bipush_60 ?_
            as_aux_lemma =>
            refine lv_icmp_ne (tgt := 100) hx hb dX12_compares_83 rfl (fun c_71 => ?_) (fun c_71 => ?_)
            · replace hEX := hEX.trans (if_neg c_71)
              have g_72 : RG r_2 61 62 := RG_ne1 h_29 (q := 60) rfl c_71 (by decide +kernel)
              refine lv_iload_n hx hb dX12_compares_100 rfl (lv_at hl 2 rfl) ?_
              refine lv_iload hx hb dX12_compares_101 (lv_at hl 0 rfl) ?_
              refine lv_icmp_le (tgt := 110) hx hb dX12_compares_103 rfl (fun c_73 => ?_) (fun c_73 => ?_)
              · replace hEX := hEX.trans (if_pos c_73)
                have g_74 : RG j12_s0 (-2147483648) 1000000 := RG_le1 (RG_any j12_s0) h_50 c_73 (by decide +kernel)
                refine lv_iconst (v := 0) hx hb dX12_compares_110 kc_iconst_0 ?_
                have hK9 := hK.sub (tys' := []) [] rfl
                exact W.zret (v := 0) hx hb hr rfl (fun t ht hW => ⟨⟨0, (x_40, x_41, x_42), rfl, (Or.inr ⟨(RG_w (RG_k 0 0 rfl) (by decide +kernel)), h_51, h_52, h_53, (by have := r_h0_f10_j12_h0_f10; have := h_13; have := q_38; have := h_54; show h0_f10.toInt + 0 ≤ x_40.toInt; omega), (hR.trans hEX).symm⟩), by rw [ht]; exact hP, va_K.moved hW.alike hK9, hD⟩, hS.F ht⟩) hS.2.2 dX12_compares_111
              · replace hEX := hEX.trans (if_neg c_73)
                have d_75 := Int32.not_le.mp c_73
                have g_76 : RG j12_s0 (-999999) 2147483647 := RG_lt2 h_50 (RG_any j12_s0) d_75 (by decide +kernel)
                refine lv_iconst (v := 1) hx hb dX12_compares_106 kc_iconst_1 ?_
                as_aux_lemma =>
                refine lv_goto (tgt := 111) hx hb dX12_compares_107 rfl ?_
                have hK9 := hK.sub (tys' := []) [] rfl
                exact W.zret (v := 1) hx hb hr rfl (fun t ht hW => ⟨⟨1, (x_40, x_41, x_42), rfl, (Or.inr ⟨(RG_w (RG_k 1 1 rfl) (by decide +kernel)), h_51, h_52, h_53, (by have := r_h0_f10_j12_h0_f10; have := h_13; have := q_38; have := h_54; show h0_f10.toInt + 0 ≤ x_40.toInt; omega), (hR.trans hEX).symm⟩), by rw [ht]; exact hP, va_K.moved hW.alike hK9, hD⟩, hS.F ht⟩) hS.2.2 dX12_compares_111
            · replace hEX := hEX.trans (if_pos c_71)
              have g_77 : RG r_2 60 60 := RG_eq1 h_29 (RG_k 60 60 rfl) c_71 (by decide +kernel)
              refine lv_iload_n hx hb dX12_compares_86 rfl (lv_at hl 2 rfl) ?_
              refine lv_iload hx hb dX12_compares_87 (lv_at hl 0 rfl) ?_
              refine lv_icmp_ge (tgt := 96) hx hb dX12_compares_89 rfl (fun c_78 => ?_) (fun c_78 => ?_)
              · replace hEX := hEX.trans (if_pos c_78)
                have g_79 : RG j12_s0 (-1000000) 2147483647 := RG_le2 h_50 (RG_any j12_s0) c_78 (by decide +kernel)
                refine lv_iconst (v := 0) hx hb dX12_compares_96 kc_iconst_0 ?_
                refine lv_goto (tgt := 111) hx hb dX12_compares_97 rfl ?_
                have hK9 := hK.sub (tys' := []) [] rfl
                exact W.zret (v := 0) hx hb hr rfl (fun t ht hW => ⟨⟨0, (x_40, x_41, x_42), rfl, (Or.inr ⟨(RG_w (RG_k 0 0 rfl) (by decide +kernel)), h_51, h_52, h_53, (by have := r_h0_f10_j12_h0_f10; have := h_13; have := q_38; have := h_54; show h0_f10.toInt + 0 ≤ x_40.toInt; omega), (hR.trans hEX).symm⟩), by rw [ht]; exact hP, va_K.moved hW.alike hK9, hD⟩, hS.F ht⟩) hS.2.2 dX12_compares_111
              · replace hEX := hEX.trans (if_neg c_78)
                have d_80 := Int32.not_le.mp c_78
                have g_81 : RG j12_s0 (-2147483648) 999999 := RG_lt1 (RG_any j12_s0) h_50 d_80 (by decide +kernel)
                refine lv_iconst (v := 1) hx hb dX12_compares_92 kc_iconst_1 ?_
                as_aux_lemma =>
                refine lv_goto (tgt := 111) hx hb dX12_compares_93 rfl ?_
                have hK9 := hK.sub (tys' := []) [] rfl
                exact W.zret (v := 1) hx hb hr rfl (fun t ht hW => ⟨⟨1, (x_40, x_41, x_42), rfl, (Or.inr ⟨(RG_w (RG_k 1 1 rfl) (by decide +kernel)), h_51, h_52, h_53, (by have := r_h0_f10_j12_h0_f10; have := h_13; have := q_38; have := h_54; show h0_f10.toInt + 0 ≤ x_40.toInt; omega), (hR.trans hEX).symm⟩), by rw [ht]; exact hP, va_K.moved hW.alike hK9, hD⟩, hS.F ht⟩) hS.2.2 dX12_compares_111
          · replace hEX := hEX.trans (if_pos c_70)
            have g_82 : RG r_2 61 61 := RG_eq1 h_29 (RG_k 61 61 rfl) c_70 (by decide +kernel)
            refine lv_iload_n hx hb dX12_compares_65 rfl (lv_at hl 2 rfl) ?_
            refine lv_iload hx hb dX12_compares_66 (lv_at hl 0 rfl) ?_
            refine lv_icmp_ne (tgt := 75) hx hb dX12_compares_68 rfl (fun c_83 => ?_) (fun c_83 => ?_)
            · replace hEX := hEX.trans (if_neg c_83)
              refine lv_iconst (v := 0) hx hb dX12_compares_75 kc_iconst_0 ?_
              refine lv_goto (tgt := 111) hx hb dX12_compares_76 rfl ?_
              have hK9 := hK.sub (tys' := []) [] rfl
              exact W.zret (v := 0) hx hb hr rfl (fun t ht hW => ⟨⟨0, (x_40, x_41, x_42), rfl, (Or.inr ⟨(RG_w (RG_k 0 0 rfl) (by decide +kernel)), h_51, h_52, h_53, (by have := r_h0_f10_j12_h0_f10; have := h_13; have := q_38; have := h_54; show h0_f10.toInt + 0 ≤ x_40.toInt; omega), (hR.trans hEX).symm⟩), by rw [ht]; exact hP, va_K.moved hW.alike hK9, hD⟩, hS.F ht⟩) hS.2.2 dX12_compares_111
            · replace hEX := hEX.trans (if_pos c_83)
              have g_84 : RG j12_s0 (-1000000) 1000000 := RG_eq1 (RG_any j12_s0) h_50 c_83 (by decide +kernel)
              refine lv_iconst (v := 1) hx hb dX12_compares_71 kc_iconst_1 ?_
              as_aux_lemma =>
              refine lv_goto (tgt := 111) hx hb dX12_compares_72 rfl ?_
              have hK9 := hK.sub (tys' := []) [] rfl
              exact W.zret (v := 1) hx hb hr rfl (fun t ht hW => ⟨⟨1, (x_40, x_41, x_42), rfl, (Or.inr ⟨(RG_w (RG_k 1 1 rfl) (by decide +kernel)), h_51, h_52, h_53, (by have := r_h0_f10_j12_h0_f10; have := h_13; have := q_38; have := h_54; show h0_f10.toInt + 0 ≤ x_40.toInt; omega), (hR.trans hEX).symm⟩), by rw [ht]; exact hP, va_K.moved hW.alike hK9, hD⟩, hS.F ht⟩) hS.2.2 dX12_compares_111
  have J12b : ∀ (j12b_s0 : Int32) (j12b_h0_f10 : Int32) (j12b_h0_f11 : Int32) (j12b_h0_f12 : Int32) (g_h0_f10 : RG h0_f10 0 240) (g_h0_f17 : RG h0_f17 0 1) (g_h0_f26 : RG h0_f26 0 8) (g_h0_f27 : RG h0_f27 0 3) (g_h0_f28 : RG h0_f28 0 8) (g_h0_f29 : RG h0_f29 0 3) (g_h0_f30 : RG h0_f30 0 4) (g_h0_f31 : RG h0_f31 0 1) (g_h0_f34 : RG h0_f34 (-1) 3) (g_h0_f41 : RG h0_f41 0 40) (g_h0_f51 : RG h0_f51 0 10) (g_h0_f53 : RG h0_f53 0 1) (g_h0_f6 : RG h0_f6 0 240) (g_h0_f7 : RG h0_f7 0 4) (g_h0_f8 : RG h0_f8 0 720) (g_h0_f9 : RG h0_f9 0 240) (g_j12b_h0_f10 : RG j12b_h0_f10 0 240) (g_j12b_h0_f11 : RG j12b_h0_f11 0 240) (g_j12b_h0_f12 : RG j12b_h0_f12 1 6) (g_j12b_s0 : RG j12b_s0 (-1000000) 1000000) (g_p1 : RG p1 0 0) (g_p2 : RG p2 0 0) (r_h0_f10_j12b_h0_f10 : h0_f10.toInt + 0 ≤ j12b_h0_f10.toInt) (hEX : RES = fx_c_X12_compares_1_p12b j12b_h0_f10 j12b_h0_f11 j12b_h0_f12) (H : Heap) (locs : List Loc) (ls : Array Slot) (hP : va_P (dC, dI) vwCl (wd_c_X12_compares_1 h0 h0_f0 h0_1 h0_2 h0_3 h0_4 h0_5 h0_f6 h0_f7 h0_f8 h0_f9 j12b_h0_f10 j12b_h0_f11 j12b_h0_f12 h0_f13 h0_f14 h0_15 h0_16 h0_f17 h0_18 h0_19 h0_20 h0_21 h0_22 h0_23 h0_24 h0_25 h0_f26 h0_f27 h0_f28 h0_f29 h0_f30 h0_f31 h0_32 h0_33 h0_f34 h0_35 h0_36 h0_37 h0_38 h0_39 h0_40 h0_f41 h0_f42 h0_f43 h0_f44 h0_45 h0_46 h0_47 h0_48 h0_49 h0_50 h0_f51 h0_52 h0_f53 h0_5 h0_5k tN h0_5c h0_4 h0_4k h0_4c) H) (hD : va_D A (wd_c_X12_compares_1 h0 h0_f0 h0_1 h0_2 h0_3 h0_4 h0_5 h0_f6 h0_f7 h0_f8 h0_f9 j12b_h0_f10 j12b_h0_f11 j12b_h0_f12 h0_f13 h0_f14 h0_15 h0_16 h0_f17 h0_18 h0_19 h0_20 h0_21 h0_22 h0_23 h0_24 h0_25 h0_f26 h0_f27 h0_f28 h0_f29 h0_f30 h0_f31 h0_32 h0_33 h0_f34 h0_35 h0_36 h0_37 h0_38 h0_39 h0_40 h0_f41 h0_f42 h0_f43 h0_f44 h0_45 h0_46 h0_47 h0_48 h0_49 h0_50 h0_f51 h0_52 h0_f53 h0_5 h0_5k tN h0_5c h0_4 h0_4k h0_4c)) (hS : va_S A s.heap H locs) (hl : lv_has ls 6 [(0, .ref h0)]), G H locs (F0 m 12 ls [.int j12b_s0]) := by
    as_aux_lemma =>
    intro j12b_s0 j12b_h0_f10 j12b_h0_f11 j12b_h0_f12 g_h0_f10 g_h0_f17 g_h0_f26 g_h0_f27 g_h0_f28 g_h0_f29 g_h0_f30 g_h0_f31 g_h0_f34 g_h0_f41 g_h0_f51 g_h0_f53 g_h0_f6 g_h0_f7 g_h0_f8 g_h0_f9 g_j12b_h0_f10 g_j12b_h0_f11 g_j12b_h0_f12 g_j12b_s0 g_p1 g_p2 r_h0_f10_j12b_h0_f10 hEX H locs ls hP hD hS hl
    refine hG _ _ _ ?_
    refine lv_istore_n (lv' := [(3, .int j12b_s0), (0, .ref h0)]) hx hb dX12_compares_12 rfl hl (Nat.le_of_ble_eq_true rfl) rfl (fun ls hl => ?_)
    refine lv_aload_n hx hb dX12_compares_13 rfl (lv_at hl 1 rfl) ?_
    refine va_get (D := (dC, dI)) (ci := 12) (v := .int j12b_h0_f11) (C := RX12) (T := TX12) (N := 54) hx hb hts iw_c_X12_compares_1_X12 hown hK hP 0 rfl rfl 11 (by decide +kernel) (hts (.fieldLink RX12 143 "BuoyVoteModel" "fault" "I") (List.mem_of_getElem? (i := 65) rfl)) (fun _ h9 => h9) rfl dX12_compares_14 ?_
    refine lv_iconst (v := (-1)) hx hb dX12_compares_17 kc_iconst_m1 ?_
    refine lv_icmp_eq (tgt := 23) hx hb dX12_compares_18 rfl (fun c_85 => ?_) (fun c_85 => ?_)
    · replace hEX := hEX.trans (if_pos c_85)
      exact RG_dead (RG_eq1 g_j12b_h0_f11 (RG_k (-1) (-1) rfl) c_85 (a' := 0) (b' := (-1)) (by decide +kernel)) (by decide +kernel)
    · replace hEX := hEX.trans (if_neg c_85)
      refine lv_iconst (v := 0) hx hb dX12_compares_21 kc_iconst_0 ?_
      have hK9 := hK.sub (tys' := []) [] rfl
      exact W.zret (v := 0) hx hb hr rfl (fun t ht hW => ⟨⟨0, (j12b_h0_f10, j12b_h0_f11, j12b_h0_f12), rfl, (Or.inr ⟨(RG_w (RG_k 0 0 rfl) (by decide +kernel)), g_j12b_h0_f10, g_j12b_h0_f11, g_j12b_h0_f12, (by have := r_h0_f10_j12b_h0_f10; show h0_f10.toInt + 0 ≤ j12b_h0_f10.toInt; omega), (hR.trans hEX).symm⟩), by rw [ht]; exact hP, va_K.moved hW.alike hK9, hD⟩, hS.F ht⟩) hS.2.2 dX12_compares_22
  refine hG _ _ _ ?_
  as_aux_lemma =>
  refine lv_iload_n hx hb dX12_compares_0 rfl (lv_at hl 1 rfl) ?_
  refine lv_if_eq (tgt := 8) hx hb dX12_compares_1 rfl (fun c_86 => ?_) (fun c_86 => ?_)
  · replace hEX := hEX.trans (if_pos c_86)
    refine lv_aload_n hx hb dX12_compares_8 rfl (lv_at hl 0 rfl) ?_
    obtain ⟨hPc, hDc, hFc, hqc⟩ := cl_cut (wc := (wd_c_X12_sum_1 h0 h0_f0 h0_1 h0_2 h0_3 h0_4 h0_5 h0_f6 h0_f7 h0_f8 h0_f9 h0_f10 (-1) 1 h0_f13 h0_f14 h0_15 h0_16 h0_f17 h0_18 h0_19 h0_20 h0_21 h0_22 h0_23 h0_24 h0_25 h0_f26 h0_f27 h0_f28 h0_f29 h0_f30 h0_f31 h0_32 h0_33 h0_f34 h0_35 h0_36 h0_37 h0_38 h0_39 h0_40 h0_f41 h0_f42 h0_f43 h0_f44 h0_45 h0_46 h0_47 h0_48 h0_49 h0_50 h0_f51 h0_52 h0_f53 h0_5 h0_5k tN h0_5c h0_4 h0_4k h0_4c)) hP hD hS hA [0, 1, 2] (by decide +kernel) rfl
    have hKc := hK.sub (tys' := [(h0_5k, .byte), (h0_4k, .int)]) [0, 1] rfl
    have hrv := va_recv hKc hPc (ci := 12) (q0 := 0) rfl rfl
    refine va_calli (va_runV (As := []) (rest := []) ⟨hx, hb, hml, hown, hts⟩ (c_X12_sum_1 l dC dI H.size h0 h0_f0 h0_1 h0_2 h0_3 h0_4 h0_5 h0_f6 h0_f7 h0_f8 h0_f9 h0_f10 h0_f13 h0_f14 h0_15 h0_16 h0_f17 h0_18 h0_19 h0_20 h0_21 h0_22 h0_23 h0_24 h0_25 h0_f26 h0_f27 h0_f28 h0_f29 h0_f30 h0_f31 h0_32 h0_33 h0_f34 h0_35 h0_36 h0_37 h0_38 h0_39 h0_40 h0_f41 h0_f42 h0_f43 h0_f44 h0_45 h0_46 h0_47 h0_48 h0_49 h0_50 h0_f51 h0_52 h0_f53 h0_5k h0_5c tN h0_4k h0_4c ts7 tv7 g_h0_f6 g_h0_f7 g_h0_f8 g_h0_f9 g_h0_f10 g_h0_f17 g_h0_f26 g_h0_f27 g_h0_f28 g_h0_f29 g_h0_f30 g_h0_f31 g_h0_f34 g_h0_f41 g_h0_f51 g_h0_f53 htN a_h0_4c) (cwV 0 hts gf_c_X12_compares_1_c_X12_sum_1 rfl rfl rfl mdV_X12_sum ⟨Nat.le_of_ble_eq_true rfl, Nat.le_of_ble_eq_true rfl⟩) ⟨fun a U g mk q => by obtain ⟨q0, q1, qP, qK, qD, qE0, qE1, qE2, qE3, qE4, qE5, qE6⟩ := q; exact ⟨q0, q1, qP, va_K.moved (u := U) (U := U.calling g mk a) (Vm.Alike.refl U.vm) qK, qD, vk_R.same rfl qE0, va_OF.moved (u := U) (U := U.calling g mk a) (Vm.Alike.refl U.vm) qE1, va_T.moved (u := U) (U := U.calling g mk a) (Vm.Alike.refl U.vm) qE2, va_Z.moved (u := U) (U := U.calling g mk a) (Vm.Alike.refl U.vm) qE3, va_OF.moved (u := U) (U := U.calling g mk a) (Vm.Alike.refl U.vm) qE4, va_O.moved (u := U) (U := U.calling g mk a) (Vm.Alike.refl U.vm) qE5, va_Zq.moved (u := U) (U := U.calling g mk a) (Vm.Alike.refl U.vm) qE6⟩, hrv, fun U hU hW => ⟨rfl, by rw [hU], by rw [hU]; exact hPc, va_K.moved hW.alike hKc, hDc.weaken (fun _ _ _ _ => trivial), vk_R.warm hW hE_47, va_OF.moved hW.alike (by rw [hU]; exact (hE_50.kept hS.2.1).narrow hFc), va_T.moved hW.alike (by rw [hU]; exact (hE_51.kept hS.2.1).narrow hFc), va_Z.moved hW.alike (by rw [hU]; exact (hE_10.kept hS.2.1).narrow hFc), va_OF.moved hW.alike (by rw [hU]; exact (hE_49.kept hS.2.1).narrow hFc), va_O.moved hW.alike (by rw [hU]; exact (hE_48.kept hS.2.1).narrow hFc), va_Zq.moved hW.alike (by rw [hU]; exact (hE_11.kept hS.2.1).narrow hFc)⟩⟩ rfl rfl hl.1 rfl (lv_room (Nat.le_of_ble_eq_true rfl)) dX12_compares_9 ⟨Nat.le_of_ble_eq_true rfl, Nat.le_of_ble_eq_true rfl⟩) hS (fun q _ h => hFc q h) hFc (fun r_87 u t H1 locs ht hvm hw hB hz1 hk1 hS => ?_)
    obtain ⟨x_88, x_89, x_90⟩ := u
    obtain ⟨hP1, hK1, hD1⟩ := hB
    rw [ht] at hP1
    obtain ⟨hP, hD⟩ := cl_put (w1 := (wd_c_X12_sum_1 h0 h0_f0 h0_1 h0_2 h0_3 h0_4 h0_5 h0_f6 h0_f7 h0_f8 h0_f9 x_88 x_89 x_90 h0_f13 h0_f14 h0_15 h0_16 h0_f17 h0_18 h0_19 h0_20 h0_21 h0_22 h0_23 h0_24 h0_25 h0_f26 h0_f27 h0_f28 h0_f29 h0_f30 h0_f31 h0_32 h0_33 h0_f34 h0_35 h0_36 h0_37 h0_38 h0_39 h0_40 h0_f41 h0_f42 h0_f43 h0_f44 h0_45 h0_46 h0_47 h0_48 h0_49 h0_50 h0_f51 h0_52 h0_f53 h0_5 h0_5k tN h0_5c h0_4 h0_4k h0_4c)) (nw := (wd_c_X12_compares_1 h0 h0_f0 h0_1 h0_2 h0_3 h0_4 h0_5 h0_f6 h0_f7 h0_f8 h0_f9 x_88 x_89 x_90 h0_f13 h0_f14 h0_15 h0_16 h0_f17 h0_18 h0_19 h0_20 h0_21 h0_22 h0_23 h0_24 h0_25 h0_f26 h0_f27 h0_f28 h0_f29 h0_f30 h0_f31 h0_32 h0_33 h0_f34 h0_35 h0_36 h0_37 h0_38 h0_39 h0_40 h0_f41 h0_f42 h0_f43 h0_f44 h0_45 h0_46 h0_47 h0_48 h0_49 h0_50 h0_f51 h0_52 h0_f53 h0_5 h0_5k tN h0_5c h0_4 h0_4k h0_4c)) hP hD [0, 1, 2] [3, 4, 5] 3 rfl hqc (by decide +kernel) rfl hk1 hFc hP1 hD1
    generalize H1 = H at hP hS ⊢
    as_aux_lemma =>
    rcases hw with ⟨h_91, h_92, h_93, h_94, h_95, h_96, h_97⟩ | ⟨h_98, h_99, h_100, h_101, h_102, h_103⟩
    · have h_97 : (r_87, x_88, x_89, x_90) = _ := h_97
      replace hEX := hEX.trans (exc4_eq h_97)
      replace hEX := hEX.trans (if_pos (show x_89 = (-1) from h_93))
      subst h_93
      subst h_94
      have h_96 : h0_f10.toInt + 0 ≤ x_88.toInt := h_96
      exact hU _ _ _ (J12 r_87 x_88 g_h0_f10 g_h0_f17 g_h0_f26 g_h0_f27 g_h0_f28 g_h0_f29 g_h0_f30 g_h0_f31 g_h0_f34 g_h0_f41 g_h0_f51 g_h0_f53 g_h0_f6 g_h0_f7 g_h0_f8 h_95 h_92 g_p1 g_p2 (by have := h_96; omega) hEX _ _ _ hP hD hS (lv_sub hl [0] rfl))
    · have h_103 : (r_87, x_88, x_89, x_90) = _ := h_103
      replace hEX := hEX.trans (exc4_eq h_103)
      replace hEX := hEX.trans (if_neg (RG_neq (x := x_89) (c := (-1)) (show RG x_89 0 240 from h_100) (by decide +kernel)))
      have h_102 : h0_f10.toInt + 0 ≤ x_88.toInt := h_102
      exact hU _ _ _ (J12b r_87 x_88 x_89 x_90 g_h0_f10 g_h0_f17 g_h0_f26 g_h0_f27 g_h0_f28 g_h0_f29 g_h0_f30 g_h0_f31 g_h0_f34 g_h0_f41 g_h0_f51 g_h0_f53 g_h0_f6 g_h0_f7 g_h0_f8 g_h0_f9 h_99 h_100 h_101 h_98 g_p1 g_p2 (by have := h_102; omega) hEX _ _ _ hP hD hS (lv_sub hl [0] rfl))
  · replace hEX := hEX.trans (if_neg c_86)
    exact RG_dead (RG_ne1 g_p1 (q := 0) rfl c_86 (a' := 1) (b' := 0) (by decide +kernel)) (by decide +kernel)
noncomputable def wd_c_X12_compares_2 (a0 : Nat) (a1 : Int32) (a2 : Nat) (a3 : Nat) (a4 : Nat) (a5 : Nat) (a6 : Nat) (a7 : Int32) (a8 : Int32) (a9 : Int32) (a10 : Int32) (a11 : Int32) (a12 : Int32) (a13 : Int32) (a14 : Int32) (a15 : Int32) (a16 : Nat) (a17 : Nat) (a18 : Int32) (a19 : Nat) (a20 : Nat) (a21 : Nat) (a22 : Nat) (a23 : Nat) (a24 : Nat) (a25 : Nat) (a26 : Nat) (a27 : Int32) (a28 : Int32) (a29 : Int32) (a30 : Int32) (a31 : Int32) (a32 : Int32) (a33 : Nat) (a34 : Nat) (a35 : Int32) (a36 : Nat) (a37 : Nat) (a38 : Nat) (a39 : Nat) (a40 : Nat) (a41 : Nat) (a42 : Int32) (a43 : Int64) (a44 : Int32) (a45 : Int32) (a46 : Nat) (a47 : Nat) (a48 : Nat) (a49 : Nat) (a50 : Nat) (a51 : Nat) (a52 : Int32) (a53 : Nat) (a54 : Int32) (a55 : Nat) (a56 : ClassId) (a57 : Nat) (a58 : Nat → Int32) (a59 : Nat) (a60 : ClassId) (a61 : Nat → Int32) : va_W := [(a0, .inr (12, [.int a1, .ref a2, .ref a3, .ref a4, .ref a5, .ref a6, .int a7, .int a8, .int a9, .int a10, .int a11, .int a12, .int a13, .int a14, .int a15, .ref a16, .ref a17, .int a18, .ref a19, .ref a20, .ref a21, .ref a22, .ref a23, .ref a24, .ref a25, .ref a26, .int a27, .int a28, .int a29, .int a30, .int a31, .int a32, .ref a33, .ref a34, .int a35, .ref a36, .ref a37, .ref a38, .ref a39, .ref a40, .ref a41, .int a42, .long a43, .int a44, .int a45, .ref a46, .ref a47, .ref a48, .ref a49, .ref a50, .ref a51, .int a52, .ref a53, .int a54])), (a55, .inl (a56, a57, .inl a58)), (a59, .inl (a60, 128, .inl a61))]
noncomputable def wf_c_X12_compares_2 : List Cond := List.cons (.code yX12_compares cX12_compares 6 (some .boolean)) (@HAppend.hAppend (List Cond) (List Cond) (List Cond) _ [.methodLink RX12 176 yX12_sum, .instanceMethod yX12_sum, .selects RX12 yX12_sum yX12_sum, .initialized RX12, .code yX12_sum cX12_sum 5 (some .int), .methodLink RX12 193 yX12_term, .instanceMethod yX12_term, .selects RX12 yX12_term yX12_term, .code yX12_term cX12_term 5 (some .int), .methodLink RX12 186 yX12_atom, .instanceMethod yX12_atom, .selects RX12 yX12_atom yX12_atom, .code yX12_atom cX12_atom 4 (some .int), .methodLink RX12 153 yX12_look, .instanceMethod yX12_look, .selects RX12 yX12_look yX12_look, .code yX12_look cX12_look 1 (some .int), .fieldLink RX12 134 "BuoyVoteModel" "at" "I", .fieldLink RX12 137 "BuoyVoteModel" "ends" "I", .fieldLink RX12 23 "BuoyVoteModel" "text" "[B", .fieldLink RX12 140 "BuoyVoteModel" "begins" "I", .methodLink RX12 169 yX12_isAmong, .static yX12_isAmong, .code yX12_isAmong cX12_isAmong 3 (some .boolean), .methodLink RX12 114 yJ0_length_8abf5, .instanceMethod yJ0_length_8abf5, .selects RJ0 yJ0_length_8abf5 yJ0_length_8abf5, .initialized RJ0, .code yJ0_length_8abf5 cJ0_length_8abf5 1 (some .int), .fieldLink RJ0 9 "java/lang/String" "value" "[B", .methodLink RJ0 335 yJ0_coder_7d493, .instanceMethod yJ0_coder_7d493, .selects RJ0 yJ0_coder_7d493 yJ0_coder_7d493, .code yJ0_coder_7d493 cJ0_coder_7d493 1 (some .byte), .fieldLink RJ0 38 "java/lang/String" "COMPACT_STRINGS" "Z", .fieldLink RJ0 15 "java/lang/String" "coder" "B", .methodLink RX12 120 yJ0_charAt_5068e, .instanceMethod yJ0_charAt_5068e, .selects RJ0 yJ0_charAt_5068e yJ0_charAt_5068e, .code yJ0_charAt_5068e cJ0_charAt_5068e 2 (some .char), .methodLink RJ0 492 yJ0_isLatin1_aae02, .instanceMethod yJ0_isLatin1_aae02, .selects RJ0 yJ0_isLatin1_aae02 yJ0_isLatin1_aae02, .code yJ0_isLatin1_aae02 cJ0_isLatin1_aae02 1 (some .boolean), .methodLink RJ0 495 yJ1_charAt_3b067, .static yJ1_charAt_3b067, .initialized RJ1, .code yJ1_charAt_3b067 cJ1_charAt_3b067 2 (some .char), .methodLink RJ1 9 yJ0_checkIndex_df160, .static yJ0_checkIndex_df160, .code yJ0_checkIndex_df160 cJ0_checkIndex_df160 2 none, .fieldLink RJ0 1053 "jdk/internal/util/Preconditions" "SIOOBE_FORMATTER" "Ljava/util/function/BiFunction;", .methodLink RJ0 1059 yJ3_checkIndex_8e157, .static yJ3_checkIndex_8e157, .initialized RJ3, .code yJ3_checkIndex_8e157 cJ3_checkIndex_8e157 3 (some .int), .methodLink RX12 183 yX12_isDigit, .instanceMethod yX12_isDigit, .selects RX12 yX12_isDigit yX12_isDigit, .code yX12_isDigit cX12_isDigit 1 (some .boolean), .methodLink RX12 149 yX12_fails, .instanceMethod yX12_fails, .selects RX12 yX12_fails yX12_fails, .code yX12_fails cX12_fails 1 (some .boolean), .fieldLink RX12 143 "BuoyVoteModel" "fault" "I", .methodLink RX12 173 yX12_goesIn, .instanceMethod yX12_goesIn, .selects RX12 yX12_goesIn yX12_goesIn, .code yX12_goesIn cX12_goesIn 1 (some .boolean), .fieldLink RX12 146 "BuoyVoteModel" "deep" "I", .fieldLink RX12 20 "BuoyVoteModel" "letters" "[I", .methodLink RX12 189 yX12_within, .static yX12_within, .code yX12_within cX12_within 2 (some .int), .constantLong RX12 156 (-1000000), .constantLong RX12 158 (1000000), .methodLink RX12 160 Lib.MathLoose.min_long.x, .static Lib.MathLoose.min_long.x, .initialized "java/lang/Math", .code Lib.MathLoose.min_long.x Lib.MathLoose.min_long.code 4 (some .long), .methodLink RX12 166 Lib.MathLoose.max_long.x, .static Lib.MathLoose.max_long.x, .code Lib.MathLoose.max_long.x Lib.MathLoose.max_long.code 4 (some .long), .methodLink RX12 179 yX12_takes, .instanceMethod yX12_takes, .selects RX12 yX12_takes yX12_takes, .code yX12_takes cX12_takes 2 (some .boolean), .methodLink RX12 196 yX12_isSign, .static yX12_isSign, .code yX12_isSign cX12_isSign 1 (some .boolean)] wsX120)
theorem iw_c_X12_compares_2_X12 : ∀ w ∈ wsX120, w ∈ wf_c_X12_compares_2 := fun w h => List.mem_cons_of_mem _ (List.mem_append_right _ h)
set_option maxRecDepth 20000 in
theorem gf_c_X12_compares_2_c_X12_look : GoodIn wf_c_X12_compares_2 (wsV RX12 153 RX12 yX12_look wf_c_X12_look) := goodIn_app (gi_l [14, 15, 16, 4] rfl rfl) (gi_cons (j := 17) rfl rfl (goodIn_app (gi_l [18, 19, 20, 21] rfl rfl) (goodIn_sub iw_c_X12_compares_2_X12 gw_X12)))
set_option maxRecDepth 20000 in
theorem gf_c_X12_compares_2_c_X12_isSign : GoodIn wf_c_X12_compares_2 (va_wsS RX12 196 yX12_isSign wf_c_X12_isSign) := goodIn_app (gi_l [88, 89, 4] rfl rfl) (gi_cons (j := 90) rfl rfl gi_nil)
set_option maxRecDepth 20000 in
theorem gf_c_X12_compares_2_c_X12_fails : GoodIn wf_c_X12_compares_2 (wsV RX12 149 RX12 yX12_fails wf_c_X12_fails) := goodIn_app (gi_l [61, 62, 63, 4] rfl rfl) (gi_cons (j := 64) rfl rfl (goodIn_app (gi_l [65, 18] rfl rfl) (goodIn_sub iw_c_X12_compares_2_X12 gw_X12)))
set_option maxRecDepth 20000 in
theorem gf_c_X12_compares_2_c_X12_isSign_1 : GoodIn wf_c_X12_compares_2 (va_wsS RX12 196 yX12_isSign wf_c_X12_isSign_1) := goodIn_app (gi_l [88, 89, 4] rfl rfl) (gi_cons (j := 90) rfl rfl gi_nil)
set_option maxRecDepth 20000 in
theorem gf_c_X12_compares_2_c_X12_sum_2 : GoodIn wf_c_X12_compares_2 (wsV RX12 176 RX12 yX12_sum wf_c_X12_sum_2) := goodIn_app (gi_l [1, 2, 3, 4] rfl rfl) (gi_cons (j := 5) rfl rfl (goodIn_app (gi_l [6, 7, 8, 4, 9, 10, 11, 12, 13, 14, 15, 16, 17, 18, 19, 20, 21, 22, 23, 24, 25, 26, 27, 28, 29, 30, 31, 32, 33, 34, 35, 36, 37, 38, 39, 40, 41, 42, 43, 44, 45, 46, 47, 48, 49, 50, 51, 52, 53, 54, 55, 56, 57, 58, 59, 60, 61, 62, 63, 64, 65, 66, 67, 68, 69, 70, 1, 2, 3, 71, 72, 73, 74, 75, 76, 77, 78, 79, 80, 81, 82, 83, 84, 85, 86, 87] rfl rfl) (goodIn_sub iw_c_X12_compares_2_X12 gw_X12)))
set_option maxHeartbeats 4000000 in
set_option maxRecDepth 100000 in
theorem c_X12_compares_2 (l : Launch) (dC : Nat → ClassId) (dI : Nat → Nat → Nat) (sz : Nat) (h0 : Nat) (p1 : Int32) (p2 : Int32) (h0_f0 : Int32) (h0_1 : Nat) (h0_2 : Nat) (h0_3 : Nat) (h0_4 : Nat) (h0_5 : Nat) (h0_f6 : Int32) (h0_f7 : Int32) (h0_f8 : Int32) (h0_f9 : Int32) (h0_f10 : Int32) (h0_f13 : Int32) (h0_f14 : Int32) (h0_15 : Nat) (h0_16 : Nat) (h0_f17 : Int32) (h0_18 : Nat) (h0_19 : Nat) (h0_20 : Nat) (h0_21 : Nat) (h0_22 : Nat) (h0_23 : Nat) (h0_24 : Nat) (h0_25 : Nat) (h0_f26 : Int32) (h0_f27 : Int32) (h0_f28 : Int32) (h0_f29 : Int32) (h0_f30 : Int32) (h0_f31 : Int32) (h0_32 : Nat) (h0_33 : Nat) (h0_f34 : Int32) (h0_35 : Nat) (h0_36 : Nat) (h0_37 : Nat) (h0_38 : Nat) (h0_39 : Nat) (h0_40 : Nat) (h0_f41 : Int32) (h0_f42 : Int64) (h0_f43 : Int32) (h0_f44 : Int32) (h0_45 : Nat) (h0_46 : Nat) (h0_47 : Nat) (h0_48 : Nat) (h0_49 : Nat) (h0_50 : Nat) (h0_f51 : Int32) (h0_52 : Nat) (h0_f53 : Int32) (h0_5k : ClassId) (h0_5c : Nat → Int32) (tN : Nat) (h0_4k : ClassId) (h0_4c : Nat → Int32) (ts7 : Nat) (tv7 : Nat) (g_p1 : RG p1 0 0) (g_p2 : RG p2 0 0) (g_h0_f6 : RG h0_f6 0 240) (g_h0_f7 : RG h0_f7 0 4) (g_h0_f8 : RG h0_f8 0 720) (g_h0_f9 : RG h0_f9 0 240) (g_h0_f10 : RG h0_f10 0 240) (g_h0_f17 : RG h0_f17 0 1) (g_h0_f26 : RG h0_f26 0 8) (g_h0_f27 : RG h0_f27 0 3) (g_h0_f28 : RG h0_f28 0 8) (g_h0_f29 : RG h0_f29 0 3) (g_h0_f30 : RG h0_f30 0 4) (g_h0_f31 : RG h0_f31 0 1) (g_h0_f34 : RG h0_f34 (-1) 3) (g_h0_f41 : RG h0_f41 0 40) (g_h0_f51 : RG h0_f51 0 10) (g_h0_f53 : RG h0_f53 0 1) (htN : h0_f8.toInt + 240 ≤ (tN : Int)) (a_h0_4c : AP tLet h0_4c) : Met l yX12_compares wf_c_X12_compares_2 ({ frames := 20, cells := 0, slots := 0, locals := 462 }) (va_Pc [.ref h0, .int p1, .int p2] (fun U => U.heap.size = sz ∧ va_P (dC, dI) vwCl (wd_c_X12_compares_2 h0 h0_f0 h0_1 h0_2 h0_3 h0_4 h0_5 h0_f6 h0_f7 h0_f8 h0_f9 h0_f10 (-1) 2 h0_f13 h0_f14 h0_15 h0_16 h0_f17 h0_18 h0_19 h0_20 h0_21 h0_22 h0_23 h0_24 h0_25 h0_f26 h0_f27 h0_f28 h0_f29 h0_f30 h0_f31 h0_32 h0_33 h0_f34 h0_35 h0_36 h0_37 h0_38 h0_39 h0_40 h0_f41 h0_f42 h0_f43 h0_f44 h0_45 h0_46 h0_47 h0_48 h0_49 h0_50 h0_f51 h0_52 h0_f53 h0_5 h0_5k tN h0_5c h0_4 h0_4k h0_4c) U.heap ∧ va_K (dC, dI) vwCl [(h0_5k, .byte), (h0_4k, .int)] U ∧ va_D (fun _ => True) (wd_c_X12_compares_2 h0 h0_f0 h0_1 h0_2 h0_3 h0_4 h0_5 h0_f6 h0_f7 h0_f8 h0_f9 h0_f10 (-1) 2 h0_f13 h0_f14 h0_15 h0_16 h0_f17 h0_18 h0_19 h0_20 h0_21 h0_22 h0_23 h0_24 h0_25 h0_f26 h0_f27 h0_f28 h0_f29 h0_f30 h0_f31 h0_32 h0_33 h0_f34 h0_35 h0_36 h0_37 h0_38 h0_39 h0_40 h0_f41 h0_f42 h0_f43 h0_f44 h0_45 h0_46 h0_47 h0_48 h0_49 h0_50 h0_f51 h0_52 h0_f53 h0_5 h0_5k tN h0_5c h0_4 h0_4k h0_4c) ∧ vk_R RX12 32 "vlrdph" ts7 U ∧ va_OF "java/lang/String" "value" "[B" (.ref tv7) ts7 (va_A (wd_c_X12_compares_2 h0 h0_f0 h0_1 h0_2 h0_3 h0_4 h0_5 h0_f6 h0_f7 h0_f8 h0_f9 h0_f10 (-1) 2 h0_f13 h0_f14 h0_15 h0_16 h0_f17 h0_18 h0_19 h0_20 h0_21 h0_22 h0_23 h0_24 h0_25 h0_f26 h0_f27 h0_f28 h0_f29 h0_f30 h0_f31 h0_32 h0_33 h0_f34 h0_35 h0_36 h0_37 h0_38 h0_39 h0_40 h0_f41 h0_f42 h0_f43 h0_f44 h0_45 h0_46 h0_47 h0_48 h0_49 h0_50 h0_f51 h0_52 h0_f53 h0_5 h0_5k tN h0_5c h0_4 h0_4k h0_4c) sz) U U.heap ∧ va_T .byte tv7 6 (fun j => .int ([118, 108, 114, 100, 112, 104].getD j 0)) (va_A (wd_c_X12_compares_2 h0 h0_f0 h0_1 h0_2 h0_3 h0_4 h0_5 h0_f6 h0_f7 h0_f8 h0_f9 h0_f10 (-1) 2 h0_f13 h0_f14 h0_15 h0_16 h0_f17 h0_18 h0_19 h0_20 h0_21 h0_22 h0_23 h0_24 h0_25 h0_f26 h0_f27 h0_f28 h0_f29 h0_f30 h0_f31 h0_32 h0_33 h0_f34 h0_35 h0_36 h0_37 h0_38 h0_39 h0_40 h0_f41 h0_f42 h0_f43 h0_f44 h0_45 h0_46 h0_47 h0_48 h0_49 h0_50 h0_f51 h0_52 h0_f53 h0_5 h0_5k tN h0_5c h0_4 h0_4k h0_4c) sz) U U.heap ∧ va_Z "java/lang/String" "COMPACT_STRINGS" "Z" (.int 1) (va_A (wd_c_X12_compares_2 h0 h0_f0 h0_1 h0_2 h0_3 h0_4 h0_5 h0_f6 h0_f7 h0_f8 h0_f9 h0_f10 (-1) 2 h0_f13 h0_f14 h0_15 h0_16 h0_f17 h0_18 h0_19 h0_20 h0_21 h0_22 h0_23 h0_24 h0_25 h0_f26 h0_f27 h0_f28 h0_f29 h0_f30 h0_f31 h0_32 h0_33 h0_f34 h0_35 h0_36 h0_37 h0_38 h0_39 h0_40 h0_f41 h0_f42 h0_f43 h0_f44 h0_45 h0_46 h0_47 h0_48 h0_49 h0_50 h0_f51 h0_52 h0_f53 h0_5 h0_5k tN h0_5c h0_4 h0_4k h0_4c) sz) U U.heap ∧ va_OF "java/lang/String" "coder" "B" (.int 0) ts7 (va_A (wd_c_X12_compares_2 h0 h0_f0 h0_1 h0_2 h0_3 h0_4 h0_5 h0_f6 h0_f7 h0_f8 h0_f9 h0_f10 (-1) 2 h0_f13 h0_f14 h0_15 h0_16 h0_f17 h0_18 h0_19 h0_20 h0_21 h0_22 h0_23 h0_24 h0_25 h0_f26 h0_f27 h0_f28 h0_f29 h0_f30 h0_f31 h0_32 h0_33 h0_f34 h0_35 h0_36 h0_37 h0_38 h0_39 h0_40 h0_f41 h0_f42 h0_f43 h0_f44 h0_45 h0_46 h0_47 h0_48 h0_49 h0_50 h0_f51 h0_52 h0_f53 h0_5 h0_5k tN h0_5c h0_4 h0_4k h0_4c) sz) U U.heap ∧ va_O "java/lang/String" ts7 (va_A (wd_c_X12_compares_2 h0 h0_f0 h0_1 h0_2 h0_3 h0_4 h0_5 h0_f6 h0_f7 h0_f8 h0_f9 h0_f10 (-1) 2 h0_f13 h0_f14 h0_15 h0_16 h0_f17 h0_18 h0_19 h0_20 h0_21 h0_22 h0_23 h0_24 h0_25 h0_f26 h0_f27 h0_f28 h0_f29 h0_f30 h0_f31 h0_32 h0_33 h0_f34 h0_35 h0_36 h0_37 h0_38 h0_39 h0_40 h0_f41 h0_f42 h0_f43 h0_f44 h0_45 h0_46 h0_47 h0_48 h0_49 h0_50 h0_f51 h0_52 h0_f53 h0_5 h0_5k tN h0_5c h0_4 h0_4k h0_4c) sz) U U.heap ∧ va_Zq "jdk/internal/util/Preconditions" "SIOOBE_FORMATTER" "Ljava/util/function/BiFunction;" (va_A (wd_c_X12_compares_2 h0 h0_f0 h0_1 h0_2 h0_3 h0_4 h0_5 h0_f6 h0_f7 h0_f8 h0_f9 h0_f10 (-1) 2 h0_f13 h0_f14 h0_15 h0_16 h0_f17 h0_18 h0_19 h0_20 h0_21 h0_22 h0_23 h0_24 h0_25 h0_f26 h0_f27 h0_f28 h0_f29 h0_f30 h0_f31 h0_32 h0_33 h0_f34 h0_35 h0_36 h0_37 h0_38 h0_39 h0_40 h0_f41 h0_f42 h0_f43 h0_f44 h0_45 h0_46 h0_47 h0_48 h0_49 h0_50 h0_f51 h0_52 h0_f53 h0_5 h0_5k tN h0_5c h0_4 h0_4k h0_4c) sz) U U.heap)) (va_Qi (fun (r : Int32) (u : (Int32) × (Int32) × (Int32)) => (RG r 0 1 ∧ RG u.1 0 240 ∧ u.2.1 = (-1) ∧ u.2.2 = 2 ∧ RG h0_f9 1 240 ∧ h0_f10.toInt + 1 ≤ (u.1).toInt ∧ (r, u.1, u.2.1, u.2.2) = fx_c_X12_compares_2 p1 h0_f8 h0_f9 h0_f10 h0_5c h0_4c) ∨ (RG r 0 1 ∧ RG u.1 0 240 ∧ RG u.2.1 0 240 ∧ RG u.2.2 2 6 ∧ h0_f10.toInt + 0 ≤ (u.1).toInt ∧ (r, u.1, u.2.1, u.2.2) = fx_c_X12_compares_2 p1 h0_f8 h0_f9 h0_f10 h0_5c h0_4c)) (fun (u : (Int32) × (Int32) × (Int32)) t => va_P (dC, dI) vwCl (wd_c_X12_compares_2 h0 h0_f0 h0_1 h0_2 h0_3 h0_4 h0_5 h0_f6 h0_f7 h0_f8 h0_f9 (u.1) (u.2.1) (u.2.2) h0_f13 h0_f14 h0_15 h0_16 h0_f17 h0_18 h0_19 h0_20 h0_21 h0_22 h0_23 h0_24 h0_25 h0_f26 h0_f27 h0_f28 h0_f29 h0_f30 h0_f31 h0_32 h0_33 h0_f34 h0_35 h0_36 h0_37 h0_38 h0_39 h0_40 h0_f41 h0_f42 h0_f43 h0_f44 h0_45 h0_46 h0_47 h0_48 h0_49 h0_50 h0_f51 h0_52 h0_f53 h0_5 h0_5k tN h0_5c h0_4 h0_4k h0_4c) t.heap ∧ va_K (dC, dI) vwCl [] t ∧ va_D (va_A (wd_c_X12_compares_2 h0 h0_f0 h0_1 h0_2 h0_3 h0_4 h0_5 h0_f6 h0_f7 h0_f8 h0_f9 h0_f10 (-1) 2 h0_f13 h0_f14 h0_15 h0_16 h0_f17 h0_18 h0_19 h0_20 h0_21 h0_22 h0_23 h0_24 h0_25 h0_f26 h0_f27 h0_f28 h0_f29 h0_f30 h0_f31 h0_32 h0_33 h0_f34 h0_35 h0_36 h0_37 h0_38 h0_39 h0_40 h0_f41 h0_f42 h0_f43 h0_f44 h0_45 h0_46 h0_47 h0_48 h0_49 h0_50 h0_f51 h0_52 h0_f53 h0_5 h0_5k tN h0_5c h0_4 h0_4k h0_4c) sz) (wd_c_X12_compares_2 h0 h0_f0 h0_1 h0_2 h0_3 h0_4 h0_5 h0_f6 h0_f7 h0_f8 h0_f9 (u.1) (u.2.1) (u.2.2) h0_f13 h0_f14 h0_15 h0_16 h0_f17 h0_18 h0_19 h0_20 h0_21 h0_22 h0_23 h0_24 h0_25 h0_f26 h0_f27 h0_f28 h0_f29 h0_f30 h0_f31 h0_32 h0_33 h0_f34 h0_35 h0_36 h0_37 h0_38 h0_39 h0_40 h0_f41 h0_f42 h0_f43 h0_f44 h0_45 h0_46 h0_47 h0_48 h0_49 h0_50 h0_f51 h0_52 h0_f53 h0_5 h0_5k tN h0_5c h0_4 h0_4k h0_4c)) (va_A (wd_c_X12_compares_2 h0 h0_f0 h0_1 h0_2 h0_3 h0_4 h0_5 h0_f6 h0_f7 h0_f8 h0_f9 h0_f10 (-1) 2 h0_f13 h0_f14 h0_15 h0_16 h0_f17 h0_18 h0_19 h0_20 h0_21 h0_22 h0_23 h0_24 h0_25 h0_f26 h0_f27 h0_f28 h0_f29 h0_f30 h0_f31 h0_32 h0_33 h0_f34 h0_35 h0_36 h0_37 h0_38 h0_39 h0_40 h0_f41 h0_f42 h0_f43 h0_f44 h0_45 h0_46 h0_47 h0_48 h0_49 h0_50 h0_f51 h0_52 h0_f53 h0_5 h0_5k tN h0_5c h0_4 h0_4k h0_4c) sz)) 0 0 (va_A (wd_c_X12_compares_2 h0 h0_f0 h0_1 h0_2 h0_3 h0_4 h0_5 h0_f6 h0_f7 h0_f8 h0_f9 h0_f10 (-1) 2 h0_f13 h0_f14 h0_15 h0_16 h0_f17 h0_18 h0_19 h0_20 h0_21 h0_22 h0_23 h0_24 h0_25 h0_f26 h0_f27 h0_f28 h0_f29 h0_f30 h0_f31 h0_32 h0_33 h0_f34 h0_35 h0_36 h0_37 h0_38 h0_39 h0_40 h0_f41 h0_f42 h0_f43 h0_f44 h0_45 h0_46 h0_47 h0_48 h0_49 h0_50 h0_f51 h0_52 h0_f53 h0_5 h0_5k tN h0_5c h0_4 h0_4k h0_4c) sz) := by
  refine Met.ofW (cc := cX12_compares) (maxL := 6) (ret := (some .boolean)) (by decide +kernel) rfl ?_
  intro p e s m args below meth c s₁ B hml hv
  obtain ⟨rfl, hsz, hP, hK, hD0, hE_47, hE_50, hE_51, hE_10, hE_49, hE_48, hE_11⟩ := hv
  have hx := B.exec
  have hb := B.bytes
  have hr := B.returns
  have hts := atoms_spec (ws := wf_c_X12_compares_2) B.pre
  have hown : s.vm.findClass RX12 = some m.cls := findClass_of_methodNamed B.named
  have hlocks := B.notSynchronized
  subst hsz
  have hD := hD0.self (sz := s.heap.size)
  generalize hAe : va_A (wd_c_X12_compares_2 h0 h0_f0 h0_1 h0_2 h0_3 h0_4 h0_5 h0_f6 h0_f7 h0_f8 h0_f9 h0_f10 (-1) 2 h0_f13 h0_f14 h0_15 h0_16 h0_f17 h0_18 h0_19 h0_20 h0_21 h0_22 h0_23 h0_24 h0_25 h0_f26 h0_f27 h0_f28 h0_f29 h0_f30 h0_f31 h0_32 h0_33 h0_f34 h0_35 h0_36 h0_37 h0_38 h0_39 h0_40 h0_f41 h0_f42 h0_f43 h0_f44 h0_45 h0_46 h0_47 h0_48 h0_49 h0_50 h0_f51 h0_52 h0_f53 h0_5 h0_5k tN h0_5c h0_4 h0_4k h0_4c) s.heap.size = A at hD hE_50 hE_51 hE_10 hE_49 hE_48 hE_11 ⊢
  have hA : ∀ q : Nat, s.heap.size ≤ q → A q := fun q h => by rw [← hAe]; exact Or.inr h
  have hP : va_P (dC, dI) vwCl (wd_c_X12_compares_2 h0 h0_f0 h0_1 h0_2 h0_3 h0_4 h0_5 h0_f6 h0_f7 h0_f8 h0_f9 h0_f10 (-1) 2 h0_f13 h0_f14 h0_15 h0_16 h0_f17 h0_18 h0_19 h0_20 h0_21 h0_22 h0_23 h0_24 h0_25 h0_f26 h0_f27 h0_f28 h0_f29 h0_f30 h0_f31 h0_32 h0_33 h0_f34 h0_35 h0_36 h0_37 h0_38 h0_39 h0_40 h0_f41 h0_f42 h0_f43 h0_f44 h0_45 h0_46 h0_47 h0_48 h0_49 h0_50 h0_f51 h0_52 h0_f53 h0_5 h0_5k tN h0_5c h0_4 h0_4k h0_4c) s.heap := hP
  have hl := lv_entry ([.ref h0, .int p1, .int p2]) (n := 6) (Nat.le_of_ble_eq_true rfl)
  rw [lg_entry_eq]
  generalize (lg_sl ([.ref h0, .int p1, .int p2]) ++ List.replicate (6 - (lg_sl ([.ref h0, .int p1, .int p2])).length) Slot.unset).toArray = ls at hl ⊢
  have hl : lv_has ls 6 [(0, .ref h0), (1, .int p1), (2, .int p2)] := hl
  obtain ⟨H, hHe⟩ : ∃ H : Heap, s.heap = H := ⟨_, rfl⟩
  have hS : va_S A s.heap H [] := by rw [hHe]; exact va_S.rf
  have hP : va_P (dC, dI) vwCl (wd_c_X12_compares_2 h0 h0_f0 h0_1 h0_2 h0_3 h0_4 h0_5 h0_f6 h0_f7 h0_f8 h0_f9 h0_f10 (-1) 2 h0_f13 h0_f14 h0_15 h0_16 h0_f17 h0_18 h0_19 h0_20 h0_21 h0_22 h0_23 h0_24 h0_25 h0_f26 h0_f27 h0_f28 h0_f29 h0_f30 h0_f31 h0_32 h0_33 h0_f34 h0_35 h0_36 h0_37 h0_38 h0_39 h0_40 h0_f41 h0_f42 h0_f43 h0_f44 h0_45 h0_46 h0_47 h0_48 h0_49 h0_50 h0_f51 h0_52 h0_f53 h0_5 h0_5k tN h0_5c h0_4 h0_4k h0_4c) H := by rw [← hHe]; exact hP
  rw [hHe]
  obtain ⟨RES, hR⟩ : ∃ z, fx_c_X12_compares_2 p1 h0_f8 h0_f9 h0_f10 h0_5c h0_4c = z := ⟨_, rfl⟩
  have hEX : RES = fx_c_X12_compares_2 p1 h0_f8 h0_f9 h0_f10 h0_5c h0_4c := hR.symm
  refine wj (fun G hG hU => ?_)
  as_aux_lemma =>
  have J12 : ∀ (j12_s0 : Int32) (j12_h0_f10 : Int32) (g_h0_f10 : RG h0_f10 0 240) (g_h0_f17 : RG h0_f17 0 1) (g_h0_f26 : RG h0_f26 0 8) (g_h0_f27 : RG h0_f27 0 3) (g_h0_f28 : RG h0_f28 0 8) (g_h0_f29 : RG h0_f29 0 3) (g_h0_f30 : RG h0_f30 0 4) (g_h0_f31 : RG h0_f31 0 1) (g_h0_f34 : RG h0_f34 (-1) 3) (g_h0_f41 : RG h0_f41 0 40) (g_h0_f51 : RG h0_f51 0 10) (g_h0_f53 : RG h0_f53 0 1) (g_h0_f6 : RG h0_f6 0 240) (g_h0_f7 : RG h0_f7 0 4) (g_h0_f8 : RG h0_f8 0 720) (g_h0_f9 : RG h0_f9 1 240) (g_j12_h0_f10 : RG j12_h0_f10 0 240) (g_p1 : RG p1 0 0) (g_p2 : RG p2 0 0) (r_h0_f10_j12_h0_f10 : h0_f10.toInt + 0 ≤ j12_h0_f10.toInt) (hEX : RES = fx_c_X12_compares_2_p12 h0_f8 h0_f9 h0_5c h0_4c j12_s0 j12_h0_f10) (H : Heap) (locs : List Loc) (ls : Array Slot) (hP : va_P (dC, dI) vwCl (wd_c_X12_compares_2 h0 h0_f0 h0_1 h0_2 h0_3 h0_4 h0_5 h0_f6 h0_f7 h0_f8 h0_f9 j12_h0_f10 (-1) 2 h0_f13 h0_f14 h0_15 h0_16 h0_f17 h0_18 h0_19 h0_20 h0_21 h0_22 h0_23 h0_24 h0_25 h0_f26 h0_f27 h0_f28 h0_f29 h0_f30 h0_f31 h0_32 h0_33 h0_f34 h0_35 h0_36 h0_37 h0_38 h0_39 h0_40 h0_f41 h0_f42 h0_f43 h0_f44 h0_45 h0_46 h0_47 h0_48 h0_49 h0_50 h0_f51 h0_52 h0_f53 h0_5 h0_5k tN h0_5c h0_4 h0_4k h0_4c) H) (hD : va_D A (wd_c_X12_compares_2 h0 h0_f0 h0_1 h0_2 h0_3 h0_4 h0_5 h0_f6 h0_f7 h0_f8 h0_f9 j12_h0_f10 (-1) 2 h0_f13 h0_f14 h0_15 h0_16 h0_f17 h0_18 h0_19 h0_20 h0_21 h0_22 h0_23 h0_24 h0_25 h0_f26 h0_f27 h0_f28 h0_f29 h0_f30 h0_f31 h0_32 h0_33 h0_f34 h0_35 h0_36 h0_37 h0_38 h0_39 h0_40 h0_f41 h0_f42 h0_f43 h0_f44 h0_45 h0_46 h0_47 h0_48 h0_49 h0_50 h0_f51 h0_52 h0_f53 h0_5 h0_5k tN h0_5c h0_4 h0_4k h0_4c)) (hS : va_S A s.heap H locs) (hl : lv_has ls 6 [(0, .ref h0)]), G H locs (F0 m 12 ls [.int j12_s0]) := by
    as_aux_lemma =>
    intro j12_s0 j12_h0_f10 g_h0_f10 g_h0_f17 g_h0_f26 g_h0_f27 g_h0_f28 g_h0_f29 g_h0_f30 g_h0_f31 g_h0_f34 g_h0_f41 g_h0_f51 g_h0_f53 g_h0_f6 g_h0_f7 g_h0_f8 g_h0_f9 g_j12_h0_f10 g_p1 g_p2 r_h0_f10_j12_h0_f10 hEX H locs ls hP hD hS hl
    refine hG _ _ _ ?_
    refine lv_istore_n (lv' := [(3, .int j12_s0), (0, .ref h0)]) hx hb dX12_compares_12 rfl hl (Nat.le_of_ble_eq_true rfl) rfl (fun ls hl => ?_)
    refine lv_aload_n hx hb dX12_compares_13 rfl (lv_at hl 1 rfl) ?_
    refine va_get (D := (dC, dI)) (ci := 12) (v := .int (-1)) (C := RX12) (T := TX12) (N := 54) hx hb hts iw_c_X12_compares_2_X12 hown hK hP 0 rfl rfl 11 (by decide +kernel) (hts (.fieldLink RX12 143 "BuoyVoteModel" "fault" "I") (List.mem_of_getElem? (i := 65) rfl)) (fun _ h9 => h9) rfl dX12_compares_14 ?_
    refine lv_iconst (v := (-1)) hx hb dX12_compares_17 kc_iconst_m1 ?_
    refine lv_icmp_eq (tgt := 23) hx hb dX12_compares_18 rfl (fun c_1 => ?_) (fun c_1 => absurd c_1 (by decide +kernel))
    refine lv_aload_n hx hb dX12_compares_23 rfl (lv_at hl 1 rfl) ?_
    obtain ⟨hPc, hDc, hFc, hqc⟩ := cl_cut (wc := (wd_c_X12_look h0 h0_f0 h0_1 h0_2 h0_3 h0_4 h0_5 h0_f6 h0_f7 h0_f8 h0_f9 j12_h0_f10 (-1) 2 h0_f13 h0_f14 h0_15 h0_16 h0_f17 h0_18 h0_19 h0_20 h0_21 h0_22 h0_23 h0_24 h0_25 h0_f26 h0_f27 h0_f28 h0_f29 h0_f30 h0_f31 h0_32 h0_33 h0_f34 h0_35 h0_36 h0_37 h0_38 h0_39 h0_40 h0_f41 h0_f42 h0_f43 h0_f44 h0_45 h0_46 h0_47 h0_48 h0_49 h0_50 h0_f51 h0_52 h0_f53 h0_5 h0_5k tN h0_5c)) hP hD hS hA [0, 1] (by decide +kernel) rfl
    have hKc := hK.sub (tys' := [(h0_5k, .byte)]) [0] rfl
    have hrv := va_recv hKc hPc (ci := 12) (q0 := 0) rfl rfl
    refine va_calli (va_runV (As := []) (rest := []) ⟨hx, hb, hml, hown, hts⟩ (c_X12_look l dC dI H.size h0 h0_f0 h0_1 h0_2 h0_3 h0_4 h0_5 h0_f6 h0_f7 h0_f8 h0_f9 j12_h0_f10 2 h0_f13 h0_f14 h0_15 h0_16 h0_f17 h0_18 h0_19 h0_20 h0_21 h0_22 h0_23 h0_24 h0_25 h0_f26 h0_f27 h0_f28 h0_f29 h0_f30 h0_f31 h0_32 h0_33 h0_f34 h0_35 h0_36 h0_37 h0_38 h0_39 h0_40 h0_f41 h0_f42 h0_f43 h0_f44 h0_45 h0_46 h0_47 h0_48 h0_49 h0_50 h0_f51 h0_52 h0_f53 h0_5k h0_5c tN g_h0_f6 g_h0_f7 g_h0_f8 (RG_w g_h0_f9 (by decide +kernel)) g_j12_h0_f10 g_h0_f17 g_h0_f26 g_h0_f27 g_h0_f28 g_h0_f29 g_h0_f30 g_h0_f31 g_h0_f34 g_h0_f41 g_h0_f51 g_h0_f53 htN) (cwV 0 hts gf_c_X12_compares_2_c_X12_look rfl rfl rfl mdV_X12_look ⟨Nat.le_of_ble_eq_true rfl, Nat.le_of_ble_eq_true rfl⟩) ⟨fun a U g mk q => by obtain ⟨q0, q1, qP, qK, qD⟩ := q; exact ⟨q0, q1, qP, va_K.moved (u := U) (U := U.calling g mk a) (Vm.Alike.refl U.vm) qK, qD⟩, hrv, fun U hU hW => ⟨rfl, by rw [hU], by rw [hU]; exact hPc, va_K.moved hW.alike hKc, hDc.weaken (fun _ _ _ _ => trivial)⟩⟩ rfl rfl hl.1 rfl (lv_room (Nat.le_of_ble_eq_true rfl)) dX12_compares_24 ⟨Nat.le_of_ble_eq_true rfl, Nat.le_of_ble_eq_true rfl⟩) hS (fun q _ h => hFc q h) hFc (fun r_2 x_3 t H1 locs ht hvm hw hB hz1 hk1 hS => ?_)
    obtain ⟨hP1, hK1, hD1⟩ := hB
    rw [ht] at hP1
    obtain ⟨hP, hD⟩ := cl_put (w1 := (wd_c_X12_look h0 h0_f0 h0_1 h0_2 h0_3 h0_4 h0_5 h0_f6 h0_f7 h0_f8 h0_f9 x_3 (-1) 2 h0_f13 h0_f14 h0_15 h0_16 h0_f17 h0_18 h0_19 h0_20 h0_21 h0_22 h0_23 h0_24 h0_25 h0_f26 h0_f27 h0_f28 h0_f29 h0_f30 h0_f31 h0_32 h0_33 h0_f34 h0_35 h0_36 h0_37 h0_38 h0_39 h0_40 h0_f41 h0_f42 h0_f43 h0_f44 h0_45 h0_46 h0_47 h0_48 h0_49 h0_50 h0_f51 h0_52 h0_f53 h0_5 h0_5k tN h0_5c)) (nw := (wd_c_X12_compares_2 h0 h0_f0 h0_1 h0_2 h0_3 h0_4 h0_5 h0_f6 h0_f7 h0_f8 h0_f9 x_3 (-1) 2 h0_f13 h0_f14 h0_15 h0_16 h0_f17 h0_18 h0_19 h0_20 h0_21 h0_22 h0_23 h0_24 h0_25 h0_f26 h0_f27 h0_f28 h0_f29 h0_f30 h0_f31 h0_32 h0_33 h0_f34 h0_35 h0_36 h0_37 h0_38 h0_39 h0_40 h0_f41 h0_f42 h0_f43 h0_f44 h0_45 h0_46 h0_47 h0_48 h0_49 h0_50 h0_f51 h0_52 h0_f53 h0_5 h0_5k tN h0_5c h0_4 h0_4k h0_4c)) hP hD [0, 1] [3, 4, 2] 3 rfl hqc (by decide +kernel) rfl hk1 hFc hP1 hD1
    generalize H1 = H at hP hS ⊢
    as_aux_lemma =>
    rcases hw with ⟨h_4, h_5, h_6, h_7, h_8, h_9⟩ | ⟨h_10, h_11, h_12, h_13, h_14, h_15, h_16⟩
    · have h_9 : (r_2, x_3) = _ := h_9
      replace hEX := hEX.trans (exc2_eq h_9)
      replace hEX := hEX.trans (if_pos (show r_2 = (-1) from h_4))
      rw [h_4]
      refine lv_istore (lv' := [(4, .int (-1)), (3, .int j12_s0), (0, .ref h0)]) hx hb dX12_compares_27 hl (Nat.le_of_ble_eq_true rfl) rfl (fun ls hl => ?_)
      refine lv_iload hx hb dX12_compares_29 (lv_at hl 0 rfl) ?_
      obtain ⟨hPc, hDc, hFc, hqc⟩ := cl_cut (wc := []) hP hD hS hA [] (by decide +kernel) rfl
      have hKc := hK.sub (tys' := []) [] rfl
      refine va_calli (va_runS (As := [.int (-1)]) (rest := []) ⟨hx, hb, hml, hown, hts⟩ (c_X12_isSign l dC dI H.size (-1) (RG_k (-1) (-1) rfl)) (va_cwS 1 hts gf_c_X12_compares_2_c_X12_isSign rfl rfl rfl md_X12_isSign ⟨Nat.le_of_ble_eq_true rfl, Nat.le_of_ble_eq_true rfl⟩) ⟨fun a U g mk q => by obtain ⟨q0, q1, qP, qK, qD⟩ := q; exact ⟨q0, q1, qP, va_K.moved (u := U) (U := U.calling g mk a) (Vm.Alike.refl U.vm) qK, qD⟩, fun U hU hW => ⟨rfl, by rw [hU], by rw [hU]; exact hPc, va_K.moved hW.alike hKc, hDc.weaken (fun _ _ _ _ => trivial)⟩⟩ rfl rfl hl.1 rfl (lv_room (Nat.le_of_ble_eq_true rfl)) dX12_compares_31 ⟨Nat.le_of_ble_eq_true rfl, Nat.le_of_ble_eq_true rfl⟩) hS (fun q _ h => hFc q h) hFc (fun r_17 u t H1 locs ht hvm hw hB hz1 hk1 hS => ?_)
      obtain ⟨hP1, hK1, hD1⟩ := hB
      rw [ht] at hP1
      have hP := bv_still hP hk1
      generalize H1 = H at hP hS ⊢
      as_aux_lemma =>
      rcases hw with ⟨h_18, h_19⟩
      have h_19 : r_17 = _ := h_19
      replace hEX := hEX.trans (exc1_eq h_19)
      rw [h_18]
      refine lv_if_ne (tgt := 42) hx hb dX12_compares_34 rfl (fun c_20 => absurd c_20 (by decide +kernel)) (fun c_20 => ?_)
      refine lv_aload_n hx hb dX12_compares_37 rfl (lv_at hl 2 rfl) ?_
      obtain ⟨hPc, hDc, hFc, hqc⟩ := cl_cut (wc := (wd_c_X12_fails h0 h0_f0 h0_1 h0_2 h0_3 h0_4 h0_5 h0_f6 h0_f7 h0_f8 h0_f9 x_3 (-1) 2 h0_f13 h0_f14 h0_15 h0_16 h0_f17 h0_18 h0_19 h0_20 h0_21 h0_22 h0_23 h0_24 h0_25 h0_f26 h0_f27 h0_f28 h0_f29 h0_f30 h0_f31 h0_32 h0_33 h0_f34 h0_35 h0_36 h0_37 h0_38 h0_39 h0_40 h0_f41 h0_f42 h0_f43 h0_f44 h0_45 h0_46 h0_47 h0_48 h0_49 h0_50 h0_f51 h0_52 h0_f53)) hP hD hS hA [0] (by decide +kernel) rfl
      have hKc := hK.sub (tys' := []) [] rfl
      have hrv := va_recv hKc hPc (ci := 12) (q0 := 0) rfl rfl
      refine va_calli (va_runV (As := []) (rest := []) ⟨hx, hb, hml, hown, hts⟩ (c_X12_fails l dC dI H.size h0 h0_f0 h0_1 h0_2 h0_3 h0_4 h0_5 h0_f6 h0_f7 h0_f8 h0_f9 x_3 2 h0_f13 h0_f14 h0_15 h0_16 h0_f17 h0_18 h0_19 h0_20 h0_21 h0_22 h0_23 h0_24 h0_25 h0_f26 h0_f27 h0_f28 h0_f29 h0_f30 h0_f31 h0_32 h0_33 h0_f34 h0_35 h0_36 h0_37 h0_38 h0_39 h0_40 h0_f41 h0_f42 h0_f43 h0_f44 h0_45 h0_46 h0_47 h0_48 h0_49 h0_50 h0_f51 h0_52 h0_f53 g_h0_f6 g_h0_f7 g_h0_f8 (RG_w g_h0_f9 (by decide +kernel)) h_5 g_h0_f17 g_h0_f26 g_h0_f27 g_h0_f28 g_h0_f29 g_h0_f30 g_h0_f31 g_h0_f34 g_h0_f41 g_h0_f51 g_h0_f53) (cwV 0 hts gf_c_X12_compares_2_c_X12_fails rfl rfl rfl mdV_X12_fails ⟨Nat.le_of_ble_eq_true rfl, Nat.le_of_ble_eq_true rfl⟩) ⟨fun a U g mk q => by obtain ⟨q0, q1, qP, qK, qD⟩ := q; exact ⟨q0, q1, qP, va_K.moved (u := U) (U := U.calling g mk a) (Vm.Alike.refl U.vm) qK, qD⟩, hrv, fun U hU hW => ⟨rfl, by rw [hU], by rw [hU]; exact hPc, va_K.moved hW.alike hKc, hDc.weaken (fun _ _ _ _ => trivial)⟩⟩ rfl rfl hl.1 rfl (lv_room (Nat.le_of_ble_eq_true rfl)) dX12_compares_38 ⟨Nat.le_of_ble_eq_true rfl, Nat.le_of_ble_eq_true rfl⟩) hS (fun q _ h => hFc q h) hFc (fun r_21 u t H1 locs ht hvm hw hB hz1 hk1 hS => ?_)
      obtain ⟨hP1, hK1, hD1⟩ := hB
      rw [ht] at hP1
      obtain ⟨hP, hD⟩ := cl_put (w1 := (wd_c_X12_fails h0 h0_f0 h0_1 h0_2 h0_3 h0_4 h0_5 h0_f6 h0_f7 h0_f8 h0_f9 x_3 x_3 2 h0_f13 h0_f14 h0_15 h0_16 h0_f17 h0_18 h0_19 h0_20 h0_21 h0_22 h0_23 h0_24 h0_25 h0_f26 h0_f27 h0_f28 h0_f29 h0_f30 h0_f31 h0_32 h0_33 h0_f34 h0_35 h0_36 h0_37 h0_38 h0_39 h0_40 h0_f41 h0_f42 h0_f43 h0_f44 h0_45 h0_46 h0_47 h0_48 h0_49 h0_50 h0_f51 h0_52 h0_f53)) (nw := (wd_c_X12_compares_2 h0 h0_f0 h0_1 h0_2 h0_3 h0_4 h0_5 h0_f6 h0_f7 h0_f8 h0_f9 x_3 x_3 2 h0_f13 h0_f14 h0_15 h0_16 h0_f17 h0_18 h0_19 h0_20 h0_21 h0_22 h0_23 h0_24 h0_25 h0_f26 h0_f27 h0_f28 h0_f29 h0_f30 h0_f31 h0_32 h0_33 h0_f34 h0_35 h0_36 h0_37 h0_38 h0_39 h0_40 h0_f41 h0_f42 h0_f43 h0_f44 h0_45 h0_46 h0_47 h0_48 h0_49 h0_50 h0_f51 h0_52 h0_f53 h0_5 h0_5k tN h0_5c h0_4 h0_4k h0_4c)) hP hD [0] [3, 1, 2] 3 rfl hqc (by decide +kernel) rfl hk1 hFc hP1 hD1
      generalize H1 = H at hP hS ⊢
      as_aux_lemma =>
      rcases hw with ⟨h_22, h_23⟩
      have h_23 : r_21 = _ := h_23
      replace hEX := hEX.trans (exc1_eq h_23)
      rw [h_22]
      have hK9 := hK.sub (tys' := []) [] rfl
      exact W.zret (v := 0) hx hb hr rfl (fun t ht hW => ⟨⟨0, (x_3, x_3, 2), rfl, (Or.inr ⟨(RG_w (RG_k 0 0 rfl) (by decide +kernel)), h_5, h_5, (RG_w (RG_k 2 2 rfl) (by decide +kernel)), (by have := r_h0_f10_j12_h0_f10; have := h_6; show h0_f10.toInt + 0 ≤ x_3.toInt; omega), (hR.trans hEX).symm⟩), by rw [ht]; exact hP, va_K.moved hW.alike hK9, hD⟩, hS.F ht⟩) hS.2.2 dX12_compares_41
    · have h_16 : (r_2, x_3) = _ := h_16
      replace hEX := hEX.trans (exc2_eq h_16)
      replace hEX := hEX.trans (if_neg (RG_neq (x := r_2) (c := (-1)) (show RG r_2 0 255 from h_10) (by decide +kernel)))
      have nb_24 := h_15.2.resolve_left (fun q => by have g9 := h_10; rw [q] at g9; exact absurd g9.1 (by decide +kernel))
      refine lv_istore (lv' := [(4, .int r_2), (3, .int j12_s0), (0, .ref h0)]) hx hb dX12_compares_27 hl (Nat.le_of_ble_eq_true rfl) rfl (fun ls hl => ?_)
      refine lv_iload hx hb dX12_compares_29 (lv_at hl 0 rfl) ?_
      obtain ⟨hPc, hDc, hFc, hqc⟩ := cl_cut (wc := []) hP hD hS hA [] (by decide +kernel) rfl
      have hKc := hK.sub (tys' := []) [] rfl
      refine va_calli (va_runS (As := [.int r_2]) (rest := []) ⟨hx, hb, hml, hown, hts⟩ (c_X12_isSign_1 l dC dI H.size r_2 h_10) (va_cwS 1 hts gf_c_X12_compares_2_c_X12_isSign_1 rfl rfl rfl md_X12_isSign ⟨Nat.le_of_ble_eq_true rfl, Nat.le_of_ble_eq_true rfl⟩) ⟨fun a U g mk q => by obtain ⟨q0, q1, qP, qK, qD⟩ := q; exact ⟨q0, q1, qP, va_K.moved (u := U) (U := U.calling g mk a) (Vm.Alike.refl U.vm) qK, qD⟩, fun U hU hW => ⟨rfl, by rw [hU], by rw [hU]; exact hPc, va_K.moved hW.alike hKc, hDc.weaken (fun _ _ _ _ => trivial)⟩⟩ rfl rfl hl.1 rfl (lv_room (Nat.le_of_ble_eq_true rfl)) dX12_compares_31 ⟨Nat.le_of_ble_eq_true rfl, Nat.le_of_ble_eq_true rfl⟩) hS (fun q _ h => hFc q h) hFc (fun r_25 u t H1 locs ht hvm hw hB hz1 hk1 hS => ?_)
      as_aux_lemma =>
      obtain ⟨hP1, hK1, hD1⟩ := hB
      rw [ht] at hP1
      have hP := bv_still hP hk1
      generalize H1 = H at hP hS ⊢
      as_aux_lemma =>
      rcases hw with ⟨h_26, h_27⟩ | ⟨h_28, h_29, h_30⟩
      · have h_27 : r_25 = _ := h_27
        replace hEX := hEX.trans (exc1_eq h_27)
        replace hEX := hEX.trans (if_pos (show r_25 = 0 from h_26))
        rw [h_26]
        refine lv_if_ne (tgt := 42) hx hb dX12_compares_34 rfl (fun c_31 => absurd c_31 (by decide +kernel)) (fun c_31 => ?_)
        refine lv_aload_n hx hb dX12_compares_37 rfl (lv_at hl 2 rfl) ?_
        obtain ⟨hPc, hDc, hFc, hqc⟩ := cl_cut (wc := (wd_c_X12_fails h0 h0_f0 h0_1 h0_2 h0_3 h0_4 h0_5 h0_f6 h0_f7 h0_f8 h0_f9 x_3 (-1) 2 h0_f13 h0_f14 h0_15 h0_16 h0_f17 h0_18 h0_19 h0_20 h0_21 h0_22 h0_23 h0_24 h0_25 h0_f26 h0_f27 h0_f28 h0_f29 h0_f30 h0_f31 h0_32 h0_33 h0_f34 h0_35 h0_36 h0_37 h0_38 h0_39 h0_40 h0_f41 h0_f42 h0_f43 h0_f44 h0_45 h0_46 h0_47 h0_48 h0_49 h0_50 h0_f51 h0_52 h0_f53)) hP hD hS hA [0] (by decide +kernel) rfl
        have hKc := hK.sub (tys' := []) [] rfl
        have hrv := va_recv hKc hPc (ci := 12) (q0 := 0) rfl rfl
        refine va_calli (va_runV (As := []) (rest := []) ⟨hx, hb, hml, hown, hts⟩ (c_X12_fails l dC dI H.size h0 h0_f0 h0_1 h0_2 h0_3 h0_4 h0_5 h0_f6 h0_f7 h0_f8 h0_f9 x_3 2 h0_f13 h0_f14 h0_15 h0_16 h0_f17 h0_18 h0_19 h0_20 h0_21 h0_22 h0_23 h0_24 h0_25 h0_f26 h0_f27 h0_f28 h0_f29 h0_f30 h0_f31 h0_32 h0_33 h0_f34 h0_35 h0_36 h0_37 h0_38 h0_39 h0_40 h0_f41 h0_f42 h0_f43 h0_f44 h0_45 h0_46 h0_47 h0_48 h0_49 h0_50 h0_f51 h0_52 h0_f53 g_h0_f6 g_h0_f7 g_h0_f8 (RG_w g_h0_f9 (by decide +kernel)) (RG_w h_11 (by decide +kernel)) g_h0_f17 g_h0_f26 g_h0_f27 g_h0_f28 g_h0_f29 g_h0_f30 g_h0_f31 g_h0_f34 g_h0_f41 g_h0_f51 g_h0_f53) (cwV 0 hts gf_c_X12_compares_2_c_X12_fails rfl rfl rfl mdV_X12_fails ⟨Nat.le_of_ble_eq_true rfl, Nat.le_of_ble_eq_true rfl⟩) ⟨fun a U g mk q => by obtain ⟨q0, q1, qP, qK, qD⟩ := q; exact ⟨q0, q1, qP, va_K.moved (u := U) (U := U.calling g mk a) (Vm.Alike.refl U.vm) qK, qD⟩, hrv, fun U hU hW => ⟨rfl, by rw [hU], by rw [hU]; exact hPc, va_K.moved hW.alike hKc, hDc.weaken (fun _ _ _ _ => trivial)⟩⟩ rfl rfl hl.1 rfl (lv_room (Nat.le_of_ble_eq_true rfl)) dX12_compares_38 ⟨Nat.le_of_ble_eq_true rfl, Nat.le_of_ble_eq_true rfl⟩) hS (fun q _ h => hFc q h) hFc (fun r_32 u t H1 locs ht hvm hw hB hz1 hk1 hS => ?_)
        obtain ⟨hP1, hK1, hD1⟩ := hB
        rw [ht] at hP1
        obtain ⟨hP, hD⟩ := cl_put (w1 := (wd_c_X12_fails h0 h0_f0 h0_1 h0_2 h0_3 h0_4 h0_5 h0_f6 h0_f7 h0_f8 h0_f9 x_3 x_3 2 h0_f13 h0_f14 h0_15 h0_16 h0_f17 h0_18 h0_19 h0_20 h0_21 h0_22 h0_23 h0_24 h0_25 h0_f26 h0_f27 h0_f28 h0_f29 h0_f30 h0_f31 h0_32 h0_33 h0_f34 h0_35 h0_36 h0_37 h0_38 h0_39 h0_40 h0_f41 h0_f42 h0_f43 h0_f44 h0_45 h0_46 h0_47 h0_48 h0_49 h0_50 h0_f51 h0_52 h0_f53)) (nw := (wd_c_X12_compares_2 h0 h0_f0 h0_1 h0_2 h0_3 h0_4 h0_5 h0_f6 h0_f7 h0_f8 h0_f9 x_3 x_3 2 h0_f13 h0_f14 h0_15 h0_16 h0_f17 h0_18 h0_19 h0_20 h0_21 h0_22 h0_23 h0_24 h0_25 h0_f26 h0_f27 h0_f28 h0_f29 h0_f30 h0_f31 h0_32 h0_33 h0_f34 h0_35 h0_36 h0_37 h0_38 h0_39 h0_40 h0_f41 h0_f42 h0_f43 h0_f44 h0_45 h0_46 h0_47 h0_48 h0_49 h0_50 h0_f51 h0_52 h0_f53 h0_5 h0_5k tN h0_5c h0_4 h0_4k h0_4c)) hP hD [0] [3, 1, 2] 3 rfl hqc (by decide +kernel) rfl hk1 hFc hP1 hD1
        generalize H1 = H at hP hS ⊢
        as_aux_lemma =>
        rcases hw with ⟨h_33, h_34⟩
        have h_34 : r_32 = _ := h_34
        replace hEX := hEX.trans (exc1_eq h_34)
        rw [h_33]
        have hK9 := hK.sub (tys' := []) [] rfl
        exact W.zret (v := 0) hx hb hr rfl (fun t ht hW => ⟨⟨0, (x_3, x_3, 2), rfl, (Or.inr ⟨(RG_w (RG_k 0 0 rfl) (by decide +kernel)), (RG_w h_11 (by decide +kernel)), (RG_w h_11 (by decide +kernel)), (RG_w (RG_k 2 2 rfl) (by decide +kernel)), (by have := r_h0_f10_j12_h0_f10; have := h_13; show h0_f10.toInt + 0 ≤ x_3.toInt; omega), (hR.trans hEX).symm⟩), by rw [ht]; exact hP, va_K.moved hW.alike hK9, hD⟩, hS.F ht⟩) hS.2.2 dX12_compares_41
      · have h_30 : r_25 = _ := h_30
        replace hEX := hEX.trans (exc1_eq h_30)
        replace hEX := hEX.trans (if_neg (fun q9 : r_25 = 0 => absurd ((show r_25 = 1 from h_28).symm.trans q9) (by decide +kernel)))
        rw [h_28]
        refine lv_if_ne (tgt := 42) hx hb dX12_compares_34 rfl (fun c_35 => ?_) (fun c_35 => absurd c_35 (by decide +kernel))
        refine lv_aload_n hx hb dX12_compares_42 rfl (lv_at hl 2 rfl) ?_
        refine lv_dup hx hb dX12_compares_43 rfl ?_
        refine va_get (D := (dC, dI)) (ci := 12) (v := .int x_3) (C := RX12) (T := TX12) (N := 54) hx hb hts iw_c_X12_compares_2_X12 hown hK hP 0 rfl rfl 10 (by decide +kernel) (hts (.fieldLink RX12 134 "BuoyVoteModel" "at" "I") (List.mem_of_getElem? (i := 18) rfl)) (fun _ h9 => h9) rfl dX12_compares_44 ?_
        as_aux_lemma =>
        refine lv_iconst (v := 1) hx hb dX12_compares_47 kc_iconst_1 ?_
        refine lv_iadd hx hb dX12_compares_48 ?_
        refine lv_topi (fun x_36 ex_36 => ?_)
        replace hEX := hEX.trans (exl_eq ex_36)
        have g_37 : RG x_36 1 240 := RG_add ex_36 h_11 (RG_k 1 1 rfl) (by decide +kernel)
        have q_38 : x_36.toInt = x_3.toInt + 1 := eq_add ex_36 h_11 (q := 1) rfl (by decide +kernel)
        refine va_put (D := (dC, dI)) (ci := 12) (v := .int x_36) (ty := .int) (C := RX12) (T := TX12) (N := 54) hx hb hts iw_c_X12_compares_2_X12 tyX12 tyX12_ok nmX12 hown hK hP hD hS 0 rfl rfl 10 (by decide +kernel) (hts (.fieldLink RX12 134 "BuoyVoteModel" "at" "I") (List.mem_of_getElem? (i := 18) rfl)) (fun _ h9 => h9) rfl (by decide +kernel) rfl rfl (Nat.le_of_ble_eq_true rfl) dX12_compares_49 (fun H locs hP hD hS => ?_)
        have hP : va_P (dC, dI) vwCl (wd_c_X12_compares_2 h0 h0_f0 h0_1 h0_2 h0_3 h0_4 h0_5 h0_f6 h0_f7 h0_f8 h0_f9 x_36 (-1) 2 h0_f13 h0_f14 h0_15 h0_16 h0_f17 h0_18 h0_19 h0_20 h0_21 h0_22 h0_23 h0_24 h0_25 h0_f26 h0_f27 h0_f28 h0_f29 h0_f30 h0_f31 h0_32 h0_33 h0_f34 h0_35 h0_36 h0_37 h0_38 h0_39 h0_40 h0_f41 h0_f42 h0_f43 h0_f44 h0_45 h0_46 h0_47 h0_48 h0_49 h0_50 h0_f51 h0_52 h0_f53 h0_5 h0_5k tN h0_5c h0_4 h0_4k h0_4c) H := hP
        have hD : va_D A (wd_c_X12_compares_2 h0 h0_f0 h0_1 h0_2 h0_3 h0_4 h0_5 h0_f6 h0_f7 h0_f8 h0_f9 x_36 (-1) 2 h0_f13 h0_f14 h0_15 h0_16 h0_f17 h0_18 h0_19 h0_20 h0_21 h0_22 h0_23 h0_24 h0_25 h0_f26 h0_f27 h0_f28 h0_f29 h0_f30 h0_f31 h0_32 h0_33 h0_f34 h0_35 h0_36 h0_37 h0_38 h0_39 h0_40 h0_f41 h0_f42 h0_f43 h0_f44 h0_45 h0_46 h0_47 h0_48 h0_49 h0_50 h0_f51 h0_52 h0_f53 h0_5 h0_5k tN h0_5c h0_4 h0_4k h0_4c) := hD
        refine lv_aload_n hx hb dX12_compares_52 rfl (lv_at hl 2 rfl) ?_
        obtain ⟨hPc, hDc, hFc, hqc⟩ := cl_cut (wc := (wd_c_X12_sum_2 h0 h0_f0 h0_1 h0_2 h0_3 h0_4 h0_5 h0_f6 h0_f7 h0_f8 h0_f9 x_36 (-1) 2 h0_f13 h0_f14 h0_15 h0_16 h0_f17 h0_18 h0_19 h0_20 h0_21 h0_22 h0_23 h0_24 h0_25 h0_f26 h0_f27 h0_f28 h0_f29 h0_f30 h0_f31 h0_32 h0_33 h0_f34 h0_35 h0_36 h0_37 h0_38 h0_39 h0_40 h0_f41 h0_f42 h0_f43 h0_f44 h0_45 h0_46 h0_47 h0_48 h0_49 h0_50 h0_f51 h0_52 h0_f53 h0_5 h0_5k tN h0_5c h0_4 h0_4k h0_4c)) hP hD hS hA [0, 1, 2] (by decide +kernel) rfl
        have hKc := hK.sub (tys' := [(h0_5k, .byte), (h0_4k, .int)]) [0, 1] rfl
        have hrv := va_recv hKc hPc (ci := 12) (q0 := 0) rfl rfl
        refine va_calli (va_runV (As := []) (rest := []) ⟨hx, hb, hml, hown, hts⟩ (c_X12_sum_2 l dC dI H.size h0 h0_f0 h0_1 h0_2 h0_3 h0_4 h0_5 h0_f6 h0_f7 h0_f8 h0_f9 x_36 h0_f13 h0_f14 h0_15 h0_16 h0_f17 h0_18 h0_19 h0_20 h0_21 h0_22 h0_23 h0_24 h0_25 h0_f26 h0_f27 h0_f28 h0_f29 h0_f30 h0_f31 h0_32 h0_33 h0_f34 h0_35 h0_36 h0_37 h0_38 h0_39 h0_40 h0_f41 h0_f42 h0_f43 h0_f44 h0_45 h0_46 h0_47 h0_48 h0_49 h0_50 h0_f51 h0_52 h0_f53 h0_5k h0_5c tN h0_4k h0_4c ts7 tv7 g_h0_f6 g_h0_f7 g_h0_f8 (RG_w g_h0_f9 (by decide +kernel)) (RG_w g_37 (by decide +kernel)) g_h0_f17 g_h0_f26 g_h0_f27 g_h0_f28 g_h0_f29 g_h0_f30 g_h0_f31 g_h0_f34 g_h0_f41 g_h0_f51 g_h0_f53 htN a_h0_4c) (cwV 0 hts gf_c_X12_compares_2_c_X12_sum_2 rfl rfl rfl mdV_X12_sum ⟨Nat.le_of_ble_eq_true rfl, Nat.le_of_ble_eq_true rfl⟩) ⟨fun a U g mk q => by obtain ⟨q0, q1, qP, qK, qD, qE0, qE1, qE2, qE3, qE4, qE5, qE6⟩ := q; exact ⟨q0, q1, qP, va_K.moved (u := U) (U := U.calling g mk a) (Vm.Alike.refl U.vm) qK, qD, vk_R.same rfl qE0, va_OF.moved (u := U) (U := U.calling g mk a) (Vm.Alike.refl U.vm) qE1, va_T.moved (u := U) (U := U.calling g mk a) (Vm.Alike.refl U.vm) qE2, va_Z.moved (u := U) (U := U.calling g mk a) (Vm.Alike.refl U.vm) qE3, va_OF.moved (u := U) (U := U.calling g mk a) (Vm.Alike.refl U.vm) qE4, va_O.moved (u := U) (U := U.calling g mk a) (Vm.Alike.refl U.vm) qE5, va_Zq.moved (u := U) (U := U.calling g mk a) (Vm.Alike.refl U.vm) qE6⟩, hrv, fun U hU hW => ⟨rfl, by rw [hU], by rw [hU]; exact hPc, va_K.moved hW.alike hKc, hDc.weaken (fun _ _ _ _ => trivial), vk_R.warm hW hE_47, va_OF.moved hW.alike (by rw [hU]; exact (hE_50.kept hS.2.1).narrow hFc), va_T.moved hW.alike (by rw [hU]; exact (hE_51.kept hS.2.1).narrow hFc), va_Z.moved hW.alike (by rw [hU]; exact (hE_10.kept hS.2.1).narrow hFc), va_OF.moved hW.alike (by rw [hU]; exact (hE_49.kept hS.2.1).narrow hFc), va_O.moved hW.alike (by rw [hU]; exact (hE_48.kept hS.2.1).narrow hFc), va_Zq.moved hW.alike (by rw [hU]; exact (hE_11.kept hS.2.1).narrow hFc)⟩⟩ rfl rfl hl.1 rfl (lv_room (Nat.le_of_ble_eq_true rfl)) dX12_compares_53 ⟨Nat.le_of_ble_eq_true rfl, Nat.le_of_ble_eq_true rfl⟩) hS (fun q _ h => hFc q h) hFc (fun r_39 u t H1 locs ht hvm hw hB hz1 hk1 hS => ?_)
        as_aux_lemma =>
        obtain ⟨x_40, x_41, x_42⟩ := u
        obtain ⟨hP1, hK1, hD1⟩ := hB
        rw [ht] at hP1
        obtain ⟨hP, hD⟩ := cl_put (w1 := (wd_c_X12_sum_2 h0 h0_f0 h0_1 h0_2 h0_3 h0_4 h0_5 h0_f6 h0_f7 h0_f8 h0_f9 x_40 x_41 x_42 h0_f13 h0_f14 h0_15 h0_16 h0_f17 h0_18 h0_19 h0_20 h0_21 h0_22 h0_23 h0_24 h0_25 h0_f26 h0_f27 h0_f28 h0_f29 h0_f30 h0_f31 h0_32 h0_33 h0_f34 h0_35 h0_36 h0_37 h0_38 h0_39 h0_40 h0_f41 h0_f42 h0_f43 h0_f44 h0_45 h0_46 h0_47 h0_48 h0_49 h0_50 h0_f51 h0_52 h0_f53 h0_5 h0_5k tN h0_5c h0_4 h0_4k h0_4c)) (nw := (wd_c_X12_compares_2 h0 h0_f0 h0_1 h0_2 h0_3 h0_4 h0_5 h0_f6 h0_f7 h0_f8 h0_f9 x_40 x_41 x_42 h0_f13 h0_f14 h0_15 h0_16 h0_f17 h0_18 h0_19 h0_20 h0_21 h0_22 h0_23 h0_24 h0_25 h0_f26 h0_f27 h0_f28 h0_f29 h0_f30 h0_f31 h0_32 h0_33 h0_f34 h0_35 h0_36 h0_37 h0_38 h0_39 h0_40 h0_f41 h0_f42 h0_f43 h0_f44 h0_45 h0_46 h0_47 h0_48 h0_49 h0_50 h0_f51 h0_52 h0_f53 h0_5 h0_5k tN h0_5c h0_4 h0_4k h0_4c)) hP hD [0, 1, 2] [3, 4, 5] 3 rfl hqc (by decide +kernel) rfl hk1 hFc hP1 hD1
        generalize H1 = H at hP hS ⊢
        as_aux_lemma =>
        rcases hw with ⟨h_43, h_44, h_45, h_46, h_47, h_48, h_49⟩ | ⟨h_50, h_51, h_52, h_53, h_54, h_55⟩
        · have h_49 : (r_39, x_40, x_41, x_42) = _ := h_49
          replace hEX := hEX.trans (exc4_eq h_49)
          replace hEX := hEX.trans (if_pos (show x_41 = (-1) from h_45))
          subst h_45
          subst h_46
          have h_48 : x_36.toInt + 0 ≤ x_40.toInt := h_48
          refine lv_istore (lv' := [(5, .int r_39), (4, .int r_2), (3, .int j12_s0), (0, .ref h0)]) hx hb dX12_compares_56 hl (Nat.le_of_ble_eq_true rfl) rfl (fun ls hl => ?_)
          refine lv_iload hx hb dX12_compares_58 (lv_at hl 1 rfl) ?_
          refine lv_bipush (v := 61) hx hb dX12_compares_60 kc_bipush_61 ?_
          refine lv_icmp_ne (tgt := 79) hx hb dX12_compares_62 rfl (fun c_56 => ?_) (fun c_56 => ?_)
          · replace hEX := hEX.trans (if_neg c_56)
            refine lv_iload hx hb dX12_compares_79 (lv_at hl 1 rfl) ?_
            refine lv_bipush (v := 60) hx hb dX12_compares_81 kc_bipush_60 ?_
            as_aux_lemma =>
            refine lv_icmp_ne (tgt := 100) hx hb dX12_compares_83 rfl (fun c_57 => ?_) (fun c_57 => ?_)
            · replace hEX := hEX.trans (if_neg c_57)
              have g_58 : RG r_2 61 62 := RG_ne1 h_29 (q := 60) rfl c_57 (by decide +kernel)
              refine lv_iload_n hx hb dX12_compares_100 rfl (lv_at hl 2 rfl) ?_
              refine lv_iload hx hb dX12_compares_101 (lv_at hl 0 rfl) ?_
              refine lv_icmp_le (tgt := 110) hx hb dX12_compares_103 rfl (fun c_59 => ?_) (fun c_59 => ?_)
              · replace hEX := hEX.trans (if_pos c_59)
                refine lv_iconst (v := 0) hx hb dX12_compares_110 kc_iconst_0 ?_
                have hK9 := hK.sub (tys' := []) [] rfl
                exact W.zret (v := 0) hx hb hr rfl (fun t ht hW => ⟨⟨0, (x_40, (-1), 2), rfl, (Or.inl ⟨(RG_w (RG_k 0 0 rfl) (by decide +kernel)), h_44, rfl, rfl, g_h0_f9, (by have := r_h0_f10_j12_h0_f10; have := h_13; have := q_38; have := h_48; show h0_f10.toInt + 1 ≤ x_40.toInt; omega), (hR.trans hEX).symm⟩), by rw [ht]; exact hP, va_K.moved hW.alike hK9, hD⟩, hS.F ht⟩) hS.2.2 dX12_compares_111
              · replace hEX := hEX.trans (if_neg c_59)
                have d_60 := Int32.not_le.mp c_59
                have g_61 : RG r_39 (-2147483648) 2147483646 := RG_lt1 h_43 (RG_any j12_s0) d_60 (by decide +kernel)
                have g_62 : RG j12_s0 (-2147483647) 2147483647 := RG_lt2 h_43 (RG_any j12_s0) d_60 (by decide +kernel)
                refine lv_iconst (v := 1) hx hb dX12_compares_106 kc_iconst_1 ?_
                as_aux_lemma =>
                refine lv_goto (tgt := 111) hx hb dX12_compares_107 rfl ?_
                have hK9 := hK.sub (tys' := []) [] rfl
                exact W.zret (v := 1) hx hb hr rfl (fun t ht hW => ⟨⟨1, (x_40, (-1), 2), rfl, (Or.inl ⟨(RG_w (RG_k 1 1 rfl) (by decide +kernel)), h_44, rfl, rfl, g_h0_f9, (by have := r_h0_f10_j12_h0_f10; have := h_13; have := q_38; have := h_48; show h0_f10.toInt + 1 ≤ x_40.toInt; omega), (hR.trans hEX).symm⟩), by rw [ht]; exact hP, va_K.moved hW.alike hK9, hD⟩, hS.F ht⟩) hS.2.2 dX12_compares_111
            · replace hEX := hEX.trans (if_pos c_57)
              have g_63 : RG r_2 60 60 := RG_eq1 h_29 (RG_k 60 60 rfl) c_57 (by decide +kernel)
              refine lv_iload_n hx hb dX12_compares_86 rfl (lv_at hl 2 rfl) ?_
              refine lv_iload hx hb dX12_compares_87 (lv_at hl 0 rfl) ?_
              refine lv_icmp_ge (tgt := 96) hx hb dX12_compares_89 rfl (fun c_64 => ?_) (fun c_64 => ?_)
              · replace hEX := hEX.trans (if_pos c_64)
                refine lv_iconst (v := 0) hx hb dX12_compares_96 kc_iconst_0 ?_
                refine lv_goto (tgt := 111) hx hb dX12_compares_97 rfl ?_
                have hK9 := hK.sub (tys' := []) [] rfl
                exact W.zret (v := 0) hx hb hr rfl (fun t ht hW => ⟨⟨0, (x_40, (-1), 2), rfl, (Or.inl ⟨(RG_w (RG_k 0 0 rfl) (by decide +kernel)), h_44, rfl, rfl, g_h0_f9, (by have := r_h0_f10_j12_h0_f10; have := h_13; have := q_38; have := h_48; show h0_f10.toInt + 1 ≤ x_40.toInt; omega), (hR.trans hEX).symm⟩), by rw [ht]; exact hP, va_K.moved hW.alike hK9, hD⟩, hS.F ht⟩) hS.2.2 dX12_compares_111
              · replace hEX := hEX.trans (if_neg c_64)
                have d_65 := Int32.not_le.mp c_64
                have g_66 : RG j12_s0 (-2147483648) 2147483646 := RG_lt1 (RG_any j12_s0) h_43 d_65 (by decide +kernel)
                have g_67 : RG r_39 (-2147483647) 2147483647 := RG_lt2 (RG_any j12_s0) h_43 d_65 (by decide +kernel)
                refine lv_iconst (v := 1) hx hb dX12_compares_92 kc_iconst_1 ?_
                as_aux_lemma =>
                refine lv_goto (tgt := 111) hx hb dX12_compares_93 rfl ?_
                have hK9 := hK.sub (tys' := []) [] rfl
                exact W.zret (v := 1) hx hb hr rfl (fun t ht hW => ⟨⟨1, (x_40, (-1), 2), rfl, (Or.inl ⟨(RG_w (RG_k 1 1 rfl) (by decide +kernel)), h_44, rfl, rfl, g_h0_f9, (by have := r_h0_f10_j12_h0_f10; have := h_13; have := q_38; have := h_48; show h0_f10.toInt + 1 ≤ x_40.toInt; omega), (hR.trans hEX).symm⟩), by rw [ht]; exact hP, va_K.moved hW.alike hK9, hD⟩, hS.F ht⟩) hS.2.2 dX12_compares_111
          · replace hEX := hEX.trans (if_pos c_56)
            have g_68 : RG r_2 61 61 := RG_eq1 h_29 (RG_k 61 61 rfl) c_56 (by decide +kernel)
            refine lv_iload_n hx hb dX12_compares_65 rfl (lv_at hl 2 rfl) ?_
            refine lv_iload hx hb dX12_compares_66 (lv_at hl 0 rfl) ?_
            refine lv_icmp_ne (tgt := 75) hx hb dX12_compares_68 rfl (fun c_69 => ?_) (fun c_69 => ?_)
            · replace hEX := hEX.trans (if_neg c_69)
              refine lv_iconst (v := 0) hx hb dX12_compares_75 kc_iconst_0 ?_
              refine lv_goto (tgt := 111) hx hb dX12_compares_76 rfl ?_
              have hK9 := hK.sub (tys' := []) [] rfl
              exact W.zret (v := 0) hx hb hr rfl (fun t ht hW => ⟨⟨0, (x_40, (-1), 2), rfl, (Or.inl ⟨(RG_w (RG_k 0 0 rfl) (by decide +kernel)), h_44, rfl, rfl, g_h0_f9, (by have := r_h0_f10_j12_h0_f10; have := h_13; have := q_38; have := h_48; show h0_f10.toInt + 1 ≤ x_40.toInt; omega), (hR.trans hEX).symm⟩), by rw [ht]; exact hP, va_K.moved hW.alike hK9, hD⟩, hS.F ht⟩) hS.2.2 dX12_compares_111
            · replace hEX := hEX.trans (if_pos c_69)
              refine lv_iconst (v := 1) hx hb dX12_compares_71 kc_iconst_1 ?_
              as_aux_lemma =>
              refine lv_goto (tgt := 111) hx hb dX12_compares_72 rfl ?_
              have hK9 := hK.sub (tys' := []) [] rfl
              exact W.zret (v := 1) hx hb hr rfl (fun t ht hW => ⟨⟨1, (x_40, (-1), 2), rfl, (Or.inl ⟨(RG_w (RG_k 1 1 rfl) (by decide +kernel)), h_44, rfl, rfl, g_h0_f9, (by have := r_h0_f10_j12_h0_f10; have := h_13; have := q_38; have := h_48; show h0_f10.toInt + 1 ≤ x_40.toInt; omega), (hR.trans hEX).symm⟩), by rw [ht]; exact hP, va_K.moved hW.alike hK9, hD⟩, hS.F ht⟩) hS.2.2 dX12_compares_111
        · have h_55 : (r_39, x_40, x_41, x_42) = _ := h_55
          replace hEX := hEX.trans (exc4_eq h_55)
          replace hEX := hEX.trans (if_neg (RG_neq (x := x_41) (c := (-1)) (show RG x_41 0 240 from h_52) (by decide +kernel)))
          have h_54 : x_36.toInt + 0 ≤ x_40.toInt := h_54
          refine lv_istore (lv' := [(5, .int r_39), (4, .int r_2), (3, .int j12_s0), (0, .ref h0)]) hx hb dX12_compares_56 hl (Nat.le_of_ble_eq_true rfl) rfl (fun ls hl => ?_)
          refine lv_iload hx hb dX12_compares_58 (lv_at hl 1 rfl) ?_
          refine lv_bipush (v := 61) hx hb dX12_compares_60 kc_bipush_61 ?_
          refine lv_icmp_ne (tgt := 79) hx hb dX12_compares_62 rfl (fun c_70 => ?_) (fun c_70 => ?_)
          · replace hEX := hEX.trans (if_neg c_70)
            refine lv_iload hx hb dX12_compares_79 (lv_at hl 1 rfl) ?_
            refine lv_bipush (v := 60) hx hb dX12_compares_81 kc_bipush_60 ?_
            as_aux_lemma =>
            refine lv_icmp_ne (tgt := 100) hx hb dX12_compares_83 rfl (fun c_71 => ?_) (fun c_71 => ?_)
            · replace hEX := hEX.trans (if_neg c_71)
              have g_72 : RG r_2 61 62 := RG_ne1 h_29 (q := 60) rfl c_71 (by decide +kernel)
              refine lv_iload_n hx hb dX12_compares_100 rfl (lv_at hl 2 rfl) ?_
              refine lv_iload hx hb dX12_compares_101 (lv_at hl 0 rfl) ?_
              refine lv_icmp_le (tgt := 110) hx hb dX12_compares_103 rfl (fun c_73 => ?_) (fun c_73 => ?_)
              · replace hEX := hEX.trans (if_pos c_73)
                have g_74 : RG j12_s0 (-2147483648) 1000000 := RG_le1 (RG_any j12_s0) h_50 c_73 (by decide +kernel)
                refine lv_iconst (v := 0) hx hb dX12_compares_110 kc_iconst_0 ?_
                have hK9 := hK.sub (tys' := []) [] rfl
                exact W.zret (v := 0) hx hb hr rfl (fun t ht hW => ⟨⟨0, (x_40, x_41, x_42), rfl, (Or.inr ⟨(RG_w (RG_k 0 0 rfl) (by decide +kernel)), h_51, h_52, h_53, (by have := r_h0_f10_j12_h0_f10; have := h_13; have := q_38; have := h_54; show h0_f10.toInt + 0 ≤ x_40.toInt; omega), (hR.trans hEX).symm⟩), by rw [ht]; exact hP, va_K.moved hW.alike hK9, hD⟩, hS.F ht⟩) hS.2.2 dX12_compares_111
              · replace hEX := hEX.trans (if_neg c_73)
                have d_75 := Int32.not_le.mp c_73
                have g_76 : RG j12_s0 (-999999) 2147483647 := RG_lt2 h_50 (RG_any j12_s0) d_75 (by decide +kernel)
                refine lv_iconst (v := 1) hx hb dX12_compares_106 kc_iconst_1 ?_
                as_aux_lemma =>
                refine lv_goto (tgt := 111) hx hb dX12_compares_107 rfl ?_
                have hK9 := hK.sub (tys' := []) [] rfl
                exact W.zret (v := 1) hx hb hr rfl (fun t ht hW => ⟨⟨1, (x_40, x_41, x_42), rfl, (Or.inr ⟨(RG_w (RG_k 1 1 rfl) (by decide +kernel)), h_51, h_52, h_53, (by have := r_h0_f10_j12_h0_f10; have := h_13; have := q_38; have := h_54; show h0_f10.toInt + 0 ≤ x_40.toInt; omega), (hR.trans hEX).symm⟩), by rw [ht]; exact hP, va_K.moved hW.alike hK9, hD⟩, hS.F ht⟩) hS.2.2 dX12_compares_111
            · replace hEX := hEX.trans (if_pos c_71)
              have g_77 : RG r_2 60 60 := RG_eq1 h_29 (RG_k 60 60 rfl) c_71 (by decide +kernel)
              refine lv_iload_n hx hb dX12_compares_86 rfl (lv_at hl 2 rfl) ?_
              refine lv_iload hx hb dX12_compares_87 (lv_at hl 0 rfl) ?_
              refine lv_icmp_ge (tgt := 96) hx hb dX12_compares_89 rfl (fun c_78 => ?_) (fun c_78 => ?_)
              · replace hEX := hEX.trans (if_pos c_78)
                have g_79 : RG j12_s0 (-1000000) 2147483647 := RG_le2 h_50 (RG_any j12_s0) c_78 (by decide +kernel)
                refine lv_iconst (v := 0) hx hb dX12_compares_96 kc_iconst_0 ?_
                refine lv_goto (tgt := 111) hx hb dX12_compares_97 rfl ?_
                have hK9 := hK.sub (tys' := []) [] rfl
                exact W.zret (v := 0) hx hb hr rfl (fun t ht hW => ⟨⟨0, (x_40, x_41, x_42), rfl, (Or.inr ⟨(RG_w (RG_k 0 0 rfl) (by decide +kernel)), h_51, h_52, h_53, (by have := r_h0_f10_j12_h0_f10; have := h_13; have := q_38; have := h_54; show h0_f10.toInt + 0 ≤ x_40.toInt; omega), (hR.trans hEX).symm⟩), by rw [ht]; exact hP, va_K.moved hW.alike hK9, hD⟩, hS.F ht⟩) hS.2.2 dX12_compares_111
              · replace hEX := hEX.trans (if_neg c_78)
                have d_80 := Int32.not_le.mp c_78
                have g_81 : RG j12_s0 (-2147483648) 999999 := RG_lt1 (RG_any j12_s0) h_50 d_80 (by decide +kernel)
                refine lv_iconst (v := 1) hx hb dX12_compares_92 kc_iconst_1 ?_
                as_aux_lemma =>
                refine lv_goto (tgt := 111) hx hb dX12_compares_93 rfl ?_
                have hK9 := hK.sub (tys' := []) [] rfl
                exact W.zret (v := 1) hx hb hr rfl (fun t ht hW => ⟨⟨1, (x_40, x_41, x_42), rfl, (Or.inr ⟨(RG_w (RG_k 1 1 rfl) (by decide +kernel)), h_51, h_52, h_53, (by have := r_h0_f10_j12_h0_f10; have := h_13; have := q_38; have := h_54; show h0_f10.toInt + 0 ≤ x_40.toInt; omega), (hR.trans hEX).symm⟩), by rw [ht]; exact hP, va_K.moved hW.alike hK9, hD⟩, hS.F ht⟩) hS.2.2 dX12_compares_111
          · replace hEX := hEX.trans (if_pos c_70)
            have g_82 : RG r_2 61 61 := RG_eq1 h_29 (RG_k 61 61 rfl) c_70 (by decide +kernel)
            refine lv_iload_n hx hb dX12_compares_65 rfl (lv_at hl 2 rfl) ?_
            refine lv_iload hx hb dX12_compares_66 (lv_at hl 0 rfl) ?_
            refine lv_icmp_ne (tgt := 75) hx hb dX12_compares_68 rfl (fun c_83 => ?_) (fun c_83 => ?_)
            · replace hEX := hEX.trans (if_neg c_83)
              refine lv_iconst (v := 0) hx hb dX12_compares_75 kc_iconst_0 ?_
              refine lv_goto (tgt := 111) hx hb dX12_compares_76 rfl ?_
              have hK9 := hK.sub (tys' := []) [] rfl
              exact W.zret (v := 0) hx hb hr rfl (fun t ht hW => ⟨⟨0, (x_40, x_41, x_42), rfl, (Or.inr ⟨(RG_w (RG_k 0 0 rfl) (by decide +kernel)), h_51, h_52, h_53, (by have := r_h0_f10_j12_h0_f10; have := h_13; have := q_38; have := h_54; show h0_f10.toInt + 0 ≤ x_40.toInt; omega), (hR.trans hEX).symm⟩), by rw [ht]; exact hP, va_K.moved hW.alike hK9, hD⟩, hS.F ht⟩) hS.2.2 dX12_compares_111
            · replace hEX := hEX.trans (if_pos c_83)
              have g_84 : RG j12_s0 (-1000000) 1000000 := RG_eq1 (RG_any j12_s0) h_50 c_83 (by decide +kernel)
              refine lv_iconst (v := 1) hx hb dX12_compares_71 kc_iconst_1 ?_
              as_aux_lemma =>
              refine lv_goto (tgt := 111) hx hb dX12_compares_72 rfl ?_
              have hK9 := hK.sub (tys' := []) [] rfl
              exact W.zret (v := 1) hx hb hr rfl (fun t ht hW => ⟨⟨1, (x_40, x_41, x_42), rfl, (Or.inr ⟨(RG_w (RG_k 1 1 rfl) (by decide +kernel)), h_51, h_52, h_53, (by have := r_h0_f10_j12_h0_f10; have := h_13; have := q_38; have := h_54; show h0_f10.toInt + 0 ≤ x_40.toInt; omega), (hR.trans hEX).symm⟩), by rw [ht]; exact hP, va_K.moved hW.alike hK9, hD⟩, hS.F ht⟩) hS.2.2 dX12_compares_111
  have J12b : ∀ (j12b_s0 : Int32) (j12b_h0_f10 : Int32) (j12b_h0_f11 : Int32) (j12b_h0_f12 : Int32) (g_h0_f10 : RG h0_f10 0 240) (g_h0_f17 : RG h0_f17 0 1) (g_h0_f26 : RG h0_f26 0 8) (g_h0_f27 : RG h0_f27 0 3) (g_h0_f28 : RG h0_f28 0 8) (g_h0_f29 : RG h0_f29 0 3) (g_h0_f30 : RG h0_f30 0 4) (g_h0_f31 : RG h0_f31 0 1) (g_h0_f34 : RG h0_f34 (-1) 3) (g_h0_f41 : RG h0_f41 0 40) (g_h0_f51 : RG h0_f51 0 10) (g_h0_f53 : RG h0_f53 0 1) (g_h0_f6 : RG h0_f6 0 240) (g_h0_f7 : RG h0_f7 0 4) (g_h0_f8 : RG h0_f8 0 720) (g_h0_f9 : RG h0_f9 0 240) (g_j12b_h0_f10 : RG j12b_h0_f10 0 240) (g_j12b_h0_f11 : RG j12b_h0_f11 0 240) (g_j12b_h0_f12 : RG j12b_h0_f12 2 6) (g_j12b_s0 : RG j12b_s0 (-1000000) 1000000) (g_p1 : RG p1 0 0) (g_p2 : RG p2 0 0) (r_h0_f10_j12b_h0_f10 : h0_f10.toInt + 0 ≤ j12b_h0_f10.toInt) (hEX : RES = fx_c_X12_compares_2_p12b j12b_h0_f10 j12b_h0_f11 j12b_h0_f12) (H : Heap) (locs : List Loc) (ls : Array Slot) (hP : va_P (dC, dI) vwCl (wd_c_X12_compares_2 h0 h0_f0 h0_1 h0_2 h0_3 h0_4 h0_5 h0_f6 h0_f7 h0_f8 h0_f9 j12b_h0_f10 j12b_h0_f11 j12b_h0_f12 h0_f13 h0_f14 h0_15 h0_16 h0_f17 h0_18 h0_19 h0_20 h0_21 h0_22 h0_23 h0_24 h0_25 h0_f26 h0_f27 h0_f28 h0_f29 h0_f30 h0_f31 h0_32 h0_33 h0_f34 h0_35 h0_36 h0_37 h0_38 h0_39 h0_40 h0_f41 h0_f42 h0_f43 h0_f44 h0_45 h0_46 h0_47 h0_48 h0_49 h0_50 h0_f51 h0_52 h0_f53 h0_5 h0_5k tN h0_5c h0_4 h0_4k h0_4c) H) (hD : va_D A (wd_c_X12_compares_2 h0 h0_f0 h0_1 h0_2 h0_3 h0_4 h0_5 h0_f6 h0_f7 h0_f8 h0_f9 j12b_h0_f10 j12b_h0_f11 j12b_h0_f12 h0_f13 h0_f14 h0_15 h0_16 h0_f17 h0_18 h0_19 h0_20 h0_21 h0_22 h0_23 h0_24 h0_25 h0_f26 h0_f27 h0_f28 h0_f29 h0_f30 h0_f31 h0_32 h0_33 h0_f34 h0_35 h0_36 h0_37 h0_38 h0_39 h0_40 h0_f41 h0_f42 h0_f43 h0_f44 h0_45 h0_46 h0_47 h0_48 h0_49 h0_50 h0_f51 h0_52 h0_f53 h0_5 h0_5k tN h0_5c h0_4 h0_4k h0_4c)) (hS : va_S A s.heap H locs) (hl : lv_has ls 6 [(0, .ref h0)]), G H locs (F0 m 12 ls [.int j12b_s0]) := by
    as_aux_lemma =>
    intro j12b_s0 j12b_h0_f10 j12b_h0_f11 j12b_h0_f12 g_h0_f10 g_h0_f17 g_h0_f26 g_h0_f27 g_h0_f28 g_h0_f29 g_h0_f30 g_h0_f31 g_h0_f34 g_h0_f41 g_h0_f51 g_h0_f53 g_h0_f6 g_h0_f7 g_h0_f8 g_h0_f9 g_j12b_h0_f10 g_j12b_h0_f11 g_j12b_h0_f12 g_j12b_s0 g_p1 g_p2 r_h0_f10_j12b_h0_f10 hEX H locs ls hP hD hS hl
    refine hG _ _ _ ?_
    refine lv_istore_n (lv' := [(3, .int j12b_s0), (0, .ref h0)]) hx hb dX12_compares_12 rfl hl (Nat.le_of_ble_eq_true rfl) rfl (fun ls hl => ?_)
    refine lv_aload_n hx hb dX12_compares_13 rfl (lv_at hl 1 rfl) ?_
    refine va_get (D := (dC, dI)) (ci := 12) (v := .int j12b_h0_f11) (C := RX12) (T := TX12) (N := 54) hx hb hts iw_c_X12_compares_2_X12 hown hK hP 0 rfl rfl 11 (by decide +kernel) (hts (.fieldLink RX12 143 "BuoyVoteModel" "fault" "I") (List.mem_of_getElem? (i := 65) rfl)) (fun _ h9 => h9) rfl dX12_compares_14 ?_
    refine lv_iconst (v := (-1)) hx hb dX12_compares_17 kc_iconst_m1 ?_
    refine lv_icmp_eq (tgt := 23) hx hb dX12_compares_18 rfl (fun c_85 => ?_) (fun c_85 => ?_)
    · replace hEX := hEX.trans (if_pos c_85)
      exact RG_dead (RG_eq1 g_j12b_h0_f11 (RG_k (-1) (-1) rfl) c_85 (a' := 0) (b' := (-1)) (by decide +kernel)) (by decide +kernel)
    · replace hEX := hEX.trans (if_neg c_85)
      refine lv_iconst (v := 0) hx hb dX12_compares_21 kc_iconst_0 ?_
      have hK9 := hK.sub (tys' := []) [] rfl
      exact W.zret (v := 0) hx hb hr rfl (fun t ht hW => ⟨⟨0, (j12b_h0_f10, j12b_h0_f11, j12b_h0_f12), rfl, (Or.inr ⟨(RG_w (RG_k 0 0 rfl) (by decide +kernel)), g_j12b_h0_f10, g_j12b_h0_f11, g_j12b_h0_f12, (by have := r_h0_f10_j12b_h0_f10; show h0_f10.toInt + 0 ≤ j12b_h0_f10.toInt; omega), (hR.trans hEX).symm⟩), by rw [ht]; exact hP, va_K.moved hW.alike hK9, hD⟩, hS.F ht⟩) hS.2.2 dX12_compares_22
  refine hG _ _ _ ?_
  as_aux_lemma =>
  refine lv_iload_n hx hb dX12_compares_0 rfl (lv_at hl 1 rfl) ?_
  refine lv_if_eq (tgt := 8) hx hb dX12_compares_1 rfl (fun c_86 => ?_) (fun c_86 => ?_)
  · replace hEX := hEX.trans (if_pos c_86)
    refine lv_aload_n hx hb dX12_compares_8 rfl (lv_at hl 0 rfl) ?_
    obtain ⟨hPc, hDc, hFc, hqc⟩ := cl_cut (wc := (wd_c_X12_sum_2 h0 h0_f0 h0_1 h0_2 h0_3 h0_4 h0_5 h0_f6 h0_f7 h0_f8 h0_f9 h0_f10 (-1) 2 h0_f13 h0_f14 h0_15 h0_16 h0_f17 h0_18 h0_19 h0_20 h0_21 h0_22 h0_23 h0_24 h0_25 h0_f26 h0_f27 h0_f28 h0_f29 h0_f30 h0_f31 h0_32 h0_33 h0_f34 h0_35 h0_36 h0_37 h0_38 h0_39 h0_40 h0_f41 h0_f42 h0_f43 h0_f44 h0_45 h0_46 h0_47 h0_48 h0_49 h0_50 h0_f51 h0_52 h0_f53 h0_5 h0_5k tN h0_5c h0_4 h0_4k h0_4c)) hP hD hS hA [0, 1, 2] (by decide +kernel) rfl
    have hKc := hK.sub (tys' := [(h0_5k, .byte), (h0_4k, .int)]) [0, 1] rfl
    have hrv := va_recv hKc hPc (ci := 12) (q0 := 0) rfl rfl
    refine va_calli (va_runV (As := []) (rest := []) ⟨hx, hb, hml, hown, hts⟩ (c_X12_sum_2 l dC dI H.size h0 h0_f0 h0_1 h0_2 h0_3 h0_4 h0_5 h0_f6 h0_f7 h0_f8 h0_f9 h0_f10 h0_f13 h0_f14 h0_15 h0_16 h0_f17 h0_18 h0_19 h0_20 h0_21 h0_22 h0_23 h0_24 h0_25 h0_f26 h0_f27 h0_f28 h0_f29 h0_f30 h0_f31 h0_32 h0_33 h0_f34 h0_35 h0_36 h0_37 h0_38 h0_39 h0_40 h0_f41 h0_f42 h0_f43 h0_f44 h0_45 h0_46 h0_47 h0_48 h0_49 h0_50 h0_f51 h0_52 h0_f53 h0_5k h0_5c tN h0_4k h0_4c ts7 tv7 g_h0_f6 g_h0_f7 g_h0_f8 g_h0_f9 g_h0_f10 g_h0_f17 g_h0_f26 g_h0_f27 g_h0_f28 g_h0_f29 g_h0_f30 g_h0_f31 g_h0_f34 g_h0_f41 g_h0_f51 g_h0_f53 htN a_h0_4c) (cwV 0 hts gf_c_X12_compares_2_c_X12_sum_2 rfl rfl rfl mdV_X12_sum ⟨Nat.le_of_ble_eq_true rfl, Nat.le_of_ble_eq_true rfl⟩) ⟨fun a U g mk q => by obtain ⟨q0, q1, qP, qK, qD, qE0, qE1, qE2, qE3, qE4, qE5, qE6⟩ := q; exact ⟨q0, q1, qP, va_K.moved (u := U) (U := U.calling g mk a) (Vm.Alike.refl U.vm) qK, qD, vk_R.same rfl qE0, va_OF.moved (u := U) (U := U.calling g mk a) (Vm.Alike.refl U.vm) qE1, va_T.moved (u := U) (U := U.calling g mk a) (Vm.Alike.refl U.vm) qE2, va_Z.moved (u := U) (U := U.calling g mk a) (Vm.Alike.refl U.vm) qE3, va_OF.moved (u := U) (U := U.calling g mk a) (Vm.Alike.refl U.vm) qE4, va_O.moved (u := U) (U := U.calling g mk a) (Vm.Alike.refl U.vm) qE5, va_Zq.moved (u := U) (U := U.calling g mk a) (Vm.Alike.refl U.vm) qE6⟩, hrv, fun U hU hW => ⟨rfl, by rw [hU], by rw [hU]; exact hPc, va_K.moved hW.alike hKc, hDc.weaken (fun _ _ _ _ => trivial), vk_R.warm hW hE_47, va_OF.moved hW.alike (by rw [hU]; exact (hE_50.kept hS.2.1).narrow hFc), va_T.moved hW.alike (by rw [hU]; exact (hE_51.kept hS.2.1).narrow hFc), va_Z.moved hW.alike (by rw [hU]; exact (hE_10.kept hS.2.1).narrow hFc), va_OF.moved hW.alike (by rw [hU]; exact (hE_49.kept hS.2.1).narrow hFc), va_O.moved hW.alike (by rw [hU]; exact (hE_48.kept hS.2.1).narrow hFc), va_Zq.moved hW.alike (by rw [hU]; exact (hE_11.kept hS.2.1).narrow hFc)⟩⟩ rfl rfl hl.1 rfl (lv_room (Nat.le_of_ble_eq_true rfl)) dX12_compares_9 ⟨Nat.le_of_ble_eq_true rfl, Nat.le_of_ble_eq_true rfl⟩) hS (fun q _ h => hFc q h) hFc (fun r_87 u t H1 locs ht hvm hw hB hz1 hk1 hS => ?_)
    obtain ⟨x_88, x_89, x_90⟩ := u
    obtain ⟨hP1, hK1, hD1⟩ := hB
    rw [ht] at hP1
    obtain ⟨hP, hD⟩ := cl_put (w1 := (wd_c_X12_sum_2 h0 h0_f0 h0_1 h0_2 h0_3 h0_4 h0_5 h0_f6 h0_f7 h0_f8 h0_f9 x_88 x_89 x_90 h0_f13 h0_f14 h0_15 h0_16 h0_f17 h0_18 h0_19 h0_20 h0_21 h0_22 h0_23 h0_24 h0_25 h0_f26 h0_f27 h0_f28 h0_f29 h0_f30 h0_f31 h0_32 h0_33 h0_f34 h0_35 h0_36 h0_37 h0_38 h0_39 h0_40 h0_f41 h0_f42 h0_f43 h0_f44 h0_45 h0_46 h0_47 h0_48 h0_49 h0_50 h0_f51 h0_52 h0_f53 h0_5 h0_5k tN h0_5c h0_4 h0_4k h0_4c)) (nw := (wd_c_X12_compares_2 h0 h0_f0 h0_1 h0_2 h0_3 h0_4 h0_5 h0_f6 h0_f7 h0_f8 h0_f9 x_88 x_89 x_90 h0_f13 h0_f14 h0_15 h0_16 h0_f17 h0_18 h0_19 h0_20 h0_21 h0_22 h0_23 h0_24 h0_25 h0_f26 h0_f27 h0_f28 h0_f29 h0_f30 h0_f31 h0_32 h0_33 h0_f34 h0_35 h0_36 h0_37 h0_38 h0_39 h0_40 h0_f41 h0_f42 h0_f43 h0_f44 h0_45 h0_46 h0_47 h0_48 h0_49 h0_50 h0_f51 h0_52 h0_f53 h0_5 h0_5k tN h0_5c h0_4 h0_4k h0_4c)) hP hD [0, 1, 2] [3, 4, 5] 3 rfl hqc (by decide +kernel) rfl hk1 hFc hP1 hD1
    generalize H1 = H at hP hS ⊢
    as_aux_lemma =>
    rcases hw with ⟨h_91, h_92, h_93, h_94, h_95, h_96, h_97⟩ | ⟨h_98, h_99, h_100, h_101, h_102, h_103⟩
    · have h_97 : (r_87, x_88, x_89, x_90) = _ := h_97
      replace hEX := hEX.trans (exc4_eq h_97)
      replace hEX := hEX.trans (if_pos (show x_89 = (-1) from h_93))
      subst h_93
      subst h_94
      have h_96 : h0_f10.toInt + 0 ≤ x_88.toInt := h_96
      exact hU _ _ _ (J12 r_87 x_88 g_h0_f10 g_h0_f17 g_h0_f26 g_h0_f27 g_h0_f28 g_h0_f29 g_h0_f30 g_h0_f31 g_h0_f34 g_h0_f41 g_h0_f51 g_h0_f53 g_h0_f6 g_h0_f7 g_h0_f8 h_95 h_92 g_p1 g_p2 (by have := h_96; omega) hEX _ _ _ hP hD hS (lv_sub hl [0] rfl))
    · have h_103 : (r_87, x_88, x_89, x_90) = _ := h_103
      replace hEX := hEX.trans (exc4_eq h_103)
      replace hEX := hEX.trans (if_neg (RG_neq (x := x_89) (c := (-1)) (show RG x_89 0 240 from h_100) (by decide +kernel)))
      have h_102 : h0_f10.toInt + 0 ≤ x_88.toInt := h_102
      exact hU _ _ _ (J12b r_87 x_88 x_89 x_90 g_h0_f10 g_h0_f17 g_h0_f26 g_h0_f27 g_h0_f28 g_h0_f29 g_h0_f30 g_h0_f31 g_h0_f34 g_h0_f41 g_h0_f51 g_h0_f53 g_h0_f6 g_h0_f7 g_h0_f8 g_h0_f9 h_99 h_100 h_101 h_98 g_p1 g_p2 (by have := h_102; omega) hEX _ _ _ hP hD hS (lv_sub hl [0] rfl))
  · replace hEX := hEX.trans (if_neg c_86)
    exact RG_dead (RG_ne1 g_p1 (q := 0) rfl c_86 (a' := 1) (b' := 0) (by decide +kernel)) (by decide +kernel)
