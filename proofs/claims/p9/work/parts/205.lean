noncomputable def wd_c_X4_readUnit_1 (a0 : Nat) (a1 : Nat) (a2 : Int32) (a3 : Int32) (a4 : Int32) (a5 : Nat) (a6 : ClassId) (a7 : Nat → Int32) (a8 : Nat) (a9 : Nat) (a10 : Int32) (a11 : Nat) (a12 : Nat) (a13 : ClassId) (a14 : Nat → Int32) : va_W := [(a0, .inr (9, [.ref a1, .int a2, .int a3, .int a4])), (a5, .inl (a6, 240, .inl a7)), (a8, .inr (4, [.ref a9, .int a10, .ref a11])), (a12, .inl (a13, 240, .inl a14))]
noncomputable def wf_c_X4_readUnit_1 : List Cond := List.cons (.code yX4_readUnit cX4_readUnit 5 none) (@HAppend.hAppend (List Cond) (List Cond) (List Cond) _ (@HAppend.hAppend (List Cond) (List Cond) (List Cond) _ [.methodLink RX4 41 yX9_peek, .instanceMethod yX9_peek, .selects RX9 yX9_peek yX9_peek, .initialized RX9, .code yX9_peek cX9_peek 1 (some .int), .fieldLink RX9 22 "BuoyVote$Tape" "at" "I", .fieldLink RX9 19 "BuoyVote$Tape" "length" "I", .fieldLink RX9 11 "BuoyVote$Tape" "bytes" "[I", .methodLink RX4 45 yX4_startsUnit, .static yX4_startsUnit, .initialized RX4, .code yX4_startsUnit cX4_startsUnit 1 (some .boolean), .methodLink RX4 63 yX9_take, .instanceMethod yX9_take, .selects RX9 yX9_take yX9_take, .code yX9_take cX9_take 2 (some .boolean), .fieldLink RX9 15 "BuoyVote$Tape" "wrong" "I", .methodLink RX9 29 yX9_peek, .methodLink RX4 37 yX9_expect, .instanceMethod yX9_expect, .selects RX9 yX9_expect yX9_expect, .code yX9_expect cX9_expect 2 none, .methodLink RX9 25 yX9_refuse, .instanceMethod yX9_refuse, .selects RX9 yX9_refuse yX9_refuse, .code yX9_refuse cX9_refuse 2 none, .methodLink RX4 56 yX4_readCondition, .instanceMethod yX4_readCondition, .selects RX4 yX4_readCondition yX4_readCondition, .code yX4_readCondition cX4_readCondition 7 none, .methodLink RX4 72 yX9_isRight, .instanceMethod yX9_isRight, .selects RX9 yX9_isRight yX9_isRight, .code yX9_isRight cX9_isRight 1 (some .boolean), .methodLink RX4 76 yX4_readUnit, .instanceMethod yX4_readUnit, .selects RX4 yX4_readUnit yX4_readUnit, .methodLink RX4 82 yX9_refuseHere, .instanceMethod yX9_refuseHere, .selects RX9 yX9_refuseHere yX9_refuseHere, .code yX9_refuseHere cX9_refuseHere 1 none, .methodLink RX4 49 yX4_readSum, .instanceMethod yX4_readSum, .selects RX4 yX4_readSum yX4_readSum, .code yX4_readSum cX4_readSum 6 none, .methodLink RX4 85 yX4_readAtom, .instanceMethod yX4_readAtom, .selects RX4 yX4_readAtom yX4_readAtom, .code yX4_readAtom cX4_readAtom 6 none, .methodLink RX4 93 yJ0_indexOf_0f7a4, .instanceMethod yJ0_indexOf_0f7a4, .selects RJ0 yJ0_indexOf_0f7a4 yJ0_indexOf_0f7a4, .initialized RJ0, .code yJ0_indexOf_0f7a4 cJ0_indexOf_0f7a4 2 (some .int), .methodLink RJ0 633 yJ0_indexOf_7cf53, .instanceMethod yJ0_indexOf_7cf53, .selects RJ0 yJ0_indexOf_7cf53 yJ0_indexOf_7cf53, .code yJ0_indexOf_7cf53 cJ0_indexOf_7cf53 3 (some .int), .methodLink RJ0 492 yJ0_isLatin1_aae02, .instanceMethod yJ0_isLatin1_aae02, .selects RJ0 yJ0_isLatin1_aae02 yJ0_isLatin1_aae02, .code yJ0_isLatin1_aae02 cJ0_isLatin1_aae02 1 (some .boolean), .fieldLink RJ0 38 "java/lang/String" "COMPACT_STRINGS" "Z", .fieldLink RJ0 15 "java/lang/String" "coder" "B", .fieldLink RJ0 9 "java/lang/String" "value" "[B", .methodLink RJ0 505 yJ0_length_8abf5, .instanceMethod yJ0_length_8abf5, .selects RJ0 yJ0_length_8abf5 yJ0_length_8abf5, .code yJ0_length_8abf5 cJ0_length_8abf5 1 (some .int), .methodLink RJ0 335 yJ0_coder_7d493, .instanceMethod yJ0_coder_7d493, .selects RJ0 yJ0_coder_7d493 yJ0_coder_7d493, .code yJ0_coder_7d493 cJ0_coder_7d493 1 (some .byte), .methodLink RJ0 637 yJ1_indexOf_4cfef, .static yJ1_indexOf_4cfef, .initialized RJ1, .code yJ1_indexOf_4cfef cJ1_indexOf_4cfef 4 (some .int), .methodLink RJ1 88 yJ1_canEncode_9a6ad, .static yJ1_canEncode_9a6ad, .code yJ1_canEncode_9a6ad cJ1_canEncode_9a6ad 1 (some .boolean), .methodLink RJ1 92 Lib.Math.max.name, .static Lib.Math.max.name, .initialized "java/lang/Math", .code Lib.Math.max.name Lib.Math.max.code 2 (some .int), .methodLink RJ1 38 Lib.Math.min.name, .static Lib.Math.min.name, .code Lib.Math.min.name Lib.Math.min.code 2 (some .int), .methodLink RJ1 95 yJ1_indexOfChar_4cfef, .static yJ1_indexOfChar_4cfef, .code yJ1_indexOfChar_4cfef cJ1_indexOfChar_4cfef 6 (some .int), .methodLink RX4 99 yX9_number, .instanceMethod yX9_number, .selects RX9 yX9_number yX9_number, .code yX9_number cX9_number 4 (some .int), .methodLink RX4 79 yX9_skip, .instanceMethod yX9_skip, .selects RX9 yX9_skip yX9_skip, .code yX9_skip cX9_skip 1 none, .methodLink RX4 60 yX4_emit, .instanceMethod yX4_emit, .selects RX4 yX4_emit yX4_emit, .code yX4_emit cX4_emit 2 none, .fieldLink RX4 20 "BuoyVote$Law" "length" "I", .fieldLink RX4 11 "BuoyVote$Law" "code" "[I", .methodLink RX4 88 yX9_takeEither, .instanceMethod yX9_takeEither, .selects RX9 yX9_takeEither yX9_takeEither, .code yX9_takeEither cX9_takeEither 4 (some .int), .methodLink RX4 53 yX4_isComparison, .static yX4_isComparison, .code yX4_isComparison cX4_isComparison 1 (some .boolean)] wsX90) wsX40)
theorem iw_c_X4_readUnit_1_X9 : ∀ w ∈ wsX90, w ∈ wf_c_X4_readUnit_1 := fun w h => List.mem_cons_of_mem _ (List.mem_append_left _ (List.mem_append_right _ h))
theorem iw_c_X4_readUnit_1_X4 : ∀ w ∈ wsX40, w ∈ wf_c_X4_readUnit_1 := fun w h => List.mem_cons_of_mem _ (List.mem_append_right _ h)
set_option maxRecDepth 20000 in
theorem gf_c_X4_readUnit_1_c_X9_peek : GoodIn wf_c_X4_readUnit_1 (wsV RX4 41 RX9 yX9_peek wf_c_X9_peek) := goodIn_app (gi_l [1, 2, 3, 4] rfl rfl) (gi_cons (j := 5) rfl rfl (goodIn_app (gi_l [6, 7, 8] rfl rfl) (goodIn_sub iw_c_X4_readUnit_1_X9 gw_X9)))
set_option maxRecDepth 20000 in
theorem gf_c_X4_readUnit_1_c_X4_isComparison : GoodIn wf_c_X4_readUnit_1 (va_wsS RX4 53 yX4_isComparison wf_c_X4_isComparison) := goodIn_app (gi_l [109, 110, 11] rfl rfl) (gi_cons (j := 111) rfl rfl gi_nil)
set_option maxRecDepth 20000 in
theorem gf_c_X4_readUnit_1_c_X9_refuseHere : GoodIn wf_c_X4_readUnit_1 (wsV RX4 82 RX9 yX9_refuseHere wf_c_X9_refuseHere) := goodIn_app (gi_l [38, 39, 40, 4] rfl rfl) (gi_cons (j := 41) rfl rfl (goodIn_app (gi_l [6, 23, 24, 25, 4, 26, 17] rfl rfl) (goodIn_sub iw_c_X4_readUnit_1_X9 gw_X9)))
set_option maxRecDepth 20000 in
theorem gf_c_X4_readUnit_1_c_X4_isComparison_1 : GoodIn wf_c_X4_readUnit_1 (va_wsS RX4 53 yX4_isComparison wf_c_X4_isComparison_1) := goodIn_app (gi_l [109, 110, 11] rfl rfl) (gi_cons (j := 111) rfl rfl gi_nil)
set_option maxRecDepth 20000 in
theorem gf_c_X4_readUnit_1_c_X9_skip : GoodIn wf_c_X4_readUnit_1 (wsV RX4 79 RX9 yX9_skip wf_c_X9_skip) := goodIn_app (gi_l [95, 96, 97, 4] rfl rfl) (gi_cons (j := 98) rfl rfl (goodIn_app (gi_l [6] rfl rfl) (goodIn_sub iw_c_X4_readUnit_1_X9 gw_X9)))
set_option maxRecDepth 20000 in
theorem gf_c_X4_readUnit_1_c_X4_readSum : GoodIn wf_c_X4_readUnit_1 (wsV RX4 49 RX4 yX4_readSum wf_c_X4_readSum) := goodIn_app (gi_l [42, 43, 44, 11] rfl rfl) (gi_cons (j := 45) rfl rfl (goodIn_app (goodIn_app (gi_l [31, 32, 33, 4, 34, 17, 46, 47, 48, 11, 49, 1, 2, 3, 5, 6, 7, 8, 50, 51, 52, 53, 54, 55, 56, 57, 58, 59, 60, 61, 62, 63, 64, 65, 66, 67, 68, 69, 70, 71, 72, 73, 74, 75, 76, 77, 78, 79, 80, 81, 82, 83, 84, 85, 86, 87, 88, 89, 90, 91, 92, 93, 94, 38, 39, 40, 41, 23, 24, 25, 26, 95, 96, 97, 98, 42, 43, 44, 99, 100, 101, 102, 103, 104, 105, 106, 107, 108, 18, 19, 20, 21, 22] rfl rfl) (goodIn_sub iw_c_X4_readUnit_1_X9 gw_X9)) (goodIn_sub iw_c_X4_readUnit_1_X4 gw_X4)))
set_option maxRecDepth 20000 in
theorem gf_c_X4_readUnit_1_c_X4_emit : GoodIn wf_c_X4_readUnit_1 (wsV RX4 60 RX4 yX4_emit wf_c_X4_emit) := goodIn_app (gi_l [99, 100, 101, 11] rfl rfl) (gi_cons (j := 102) rfl rfl (goodIn_app (gi_l [103, 104] rfl rfl) (goodIn_sub iw_c_X4_readUnit_1_X4 gw_X4)))
set_option maxRecDepth 20000 in
theorem gf_c_X4_readUnit_1_c_X4_startsUnit : GoodIn wf_c_X4_readUnit_1 (va_wsS RX4 45 yX4_startsUnit wf_c_X4_startsUnit) := goodIn_app (gi_l [9, 10, 11] rfl rfl) (gi_cons (j := 12) rfl rfl gi_nil)
set_option maxRecDepth 20000 in
theorem gf_c_X4_readUnit_1_c_X4_startsUnit_1 : GoodIn wf_c_X4_readUnit_1 (va_wsS RX4 45 yX4_startsUnit wf_c_X4_startsUnit_1) := goodIn_app (gi_l [9, 10, 11] rfl rfl) (gi_cons (j := 12) rfl rfl gi_nil)
set_option maxRecDepth 20000 in
theorem gf_c_X4_readUnit_1_c_X9_take : GoodIn wf_c_X4_readUnit_1 (wsV RX4 63 RX9 yX9_take wf_c_X9_take) := goodIn_app (gi_l [13, 14, 15, 4] rfl rfl) (gi_cons (j := 16) rfl rfl (goodIn_app (gi_l [17, 18, 2, 3, 4, 5, 6, 7, 8] rfl rfl) (goodIn_sub iw_c_X4_readUnit_1_X9 gw_X9)))
set_option maxRecDepth 20000 in
theorem gf_c_X4_readUnit_1_c_X9_expect_1 : GoodIn wf_c_X4_readUnit_1 (wsV RX4 37 RX9 yX9_expect wf_c_X9_expect_1) := goodIn_app (gi_l [19, 20, 21, 4] rfl rfl) (gi_cons (j := 22) rfl rfl (goodIn_app (gi_l [17, 18, 2, 3, 4, 5, 6, 7, 8, 23, 24, 25, 26] rfl rfl) (goodIn_sub iw_c_X4_readUnit_1_X9 gw_X9)))
set_option maxRecDepth 20000 in
theorem gf_c_X4_readUnit_1_c_X4_readCondition_1 : GoodIn wf_c_X4_readUnit_1 (wsV RX4 56 RX4 yX4_readCondition wf_c_X4_readCondition_1) := goodIn_app (gi_l [27, 28, 29, 11] rfl rfl) (gi_cons (j := 30) rfl rfl (goodIn_app (goodIn_app (gi_l [31, 32, 33, 4, 34, 17, 35, 36, 37, 11, 0, 1, 2, 3, 5, 6, 7, 8, 9, 10, 12, 13, 14, 15, 16, 18, 19, 20, 21, 22, 23, 24, 25, 26, 27, 28, 29, 38, 39, 40, 41, 42, 43, 44, 45, 46, 47, 48, 49, 50, 51, 52, 53, 54, 55, 56, 57, 58, 59, 60, 61, 62, 63, 64, 65, 66, 67, 68, 69, 70, 71, 72, 73, 74, 75, 76, 77, 78, 79, 80, 81, 82, 83, 84, 85, 86, 87, 88, 89, 90, 91, 92, 93, 94, 95, 96, 97, 98, 99, 100, 101, 102, 103, 104, 105, 106, 107, 108, 109, 110, 111] rfl rfl) (goodIn_sub iw_c_X4_readUnit_1_X9 gw_X9)) (goodIn_sub iw_c_X4_readUnit_1_X4 gw_X4)))
set_option maxRecDepth 20000 in
theorem gf_c_X4_readUnit_1_c_X4_readUnit_2 : GoodIn wf_c_X4_readUnit_1 (wsV RX4 76 RX4 yX4_readUnit wf_c_X4_readUnit_2) := goodIn_app (gi_l [35, 36, 37, 11] rfl rfl) (gi_cons (j := 0) rfl rfl (goodIn_app (goodIn_app (gi_l [1, 2, 3, 4, 5, 6, 7, 8, 9, 10, 11, 12, 13, 14, 15, 16, 17, 18, 19, 20, 21, 22, 23, 24, 25, 26, 27, 28, 29, 30, 31, 32, 33, 34, 35, 36, 37, 38, 39, 40, 41, 42, 43, 44, 45, 46, 47, 48, 49, 50, 51, 52, 53, 54, 55, 56, 57, 58, 59, 60, 61, 62, 63, 64, 65, 66, 67, 68, 69, 70, 71, 72, 73, 74, 75, 76, 77, 78, 79, 80, 81, 82, 83, 84, 85, 86, 87, 88, 89, 90, 91, 92, 93, 94, 95, 96, 97, 98, 99, 100, 101, 102, 103, 104, 105, 106, 107, 108, 109, 110, 111] rfl rfl) (goodIn_sub iw_c_X4_readUnit_1_X9 gw_X9)) (goodIn_sub iw_c_X4_readUnit_1_X4 gw_X4)))
set_option maxHeartbeats 4000000 in
set_option maxRecDepth 100000 in
theorem c_X4_readUnit_1 (l : Launch) (dC : Nat → ClassId) (dI : Nat → Nat → Nat) (sz : Nat) (h0 : Nat) (h1 : Nat) (h1_0 : Nat) (h1_f1 : Int32) (h1_f2 : Int32) (h1_f3 : Int32) (h1_0k : ClassId) (h1_0c : Nat → Int32) (h0_0 : Nat) (h0_f1 : Int32) (h0_2 : Nat) (h0_0k : ClassId) (h0_0c : Nat → Int32) (ts4 : Nat) (tv4 : Nat) (g_h1_f1 : RG h1_f1 0 240) (g_h1_f2 : RG h1_f2 0 240) (g_h1_f3 : RG h1_f3 (-1) 240) (a_h1_0c : AI h1_0c 0 255) (g_h0_f1 : RG h0_f1 0 240) : Met l yX4_readUnit wf_c_X4_readUnit_1 ({ frames := 18, cells := 0, slots := 0, locals := 441 }) (va_Pc [.ref h0, .ref h1, .int 0, .int 0] (fun U => U.heap.size = sz ∧ va_P (dC, dI) vwCl (wd_c_X4_readUnit_1 h1 h1_0 h1_f1 h1_f2 h1_f3 h1_0 h1_0k h1_0c h0 h0_0 h0_f1 h0_2 h0_0 h0_0k h0_0c) U.heap ∧ va_K (dC, dI) vwCl [(h1_0k, .int), (h0_0k, .int)] U ∧ va_D (fun _ => True) (wd_c_X4_readUnit_1 h1 h1_0 h1_f1 h1_f2 h1_f3 h1_0 h1_0k h1_0c h0 h0_0 h0_f1 h0_2 h0_0 h0_0k h0_0c) ∧ vk_R RX4 91 "vlrdph" ts4 U ∧ va_Z "java/lang/String" "COMPACT_STRINGS" "Z" (.int 1) (va_A (wd_c_X4_readUnit_1 h1 h1_0 h1_f1 h1_f2 h1_f3 h1_0 h1_0k h1_0c h0 h0_0 h0_f1 h0_2 h0_0 h0_0k h0_0c) sz) U U.heap ∧ va_OF "java/lang/String" "coder" "B" (.int 0) ts4 (va_A (wd_c_X4_readUnit_1 h1 h1_0 h1_f1 h1_f2 h1_f3 h1_0 h1_0k h1_0c h0 h0_0 h0_f1 h0_2 h0_0 h0_0k h0_0c) sz) U U.heap ∧ va_O "java/lang/String" ts4 (va_A (wd_c_X4_readUnit_1 h1 h1_0 h1_f1 h1_f2 h1_f3 h1_0 h1_0k h1_0c h0 h0_0 h0_f1 h0_2 h0_0 h0_0k h0_0c) sz) U U.heap ∧ va_OF "java/lang/String" "value" "[B" (.ref tv4) ts4 (va_A (wd_c_X4_readUnit_1 h1 h1_0 h1_f1 h1_f2 h1_f3 h1_0 h1_0k h1_0c h0 h0_0 h0_f1 h0_2 h0_0 h0_0k h0_0c) sz) U U.heap ∧ va_T .byte tv4 6 (fun j => .int ([118, 108, 114, 100, 112, 104].getD j 0)) (va_A (wd_c_X4_readUnit_1 h1 h1_0 h1_f1 h1_f2 h1_f3 h1_0 h1_0k h1_0c h0 h0_0 h0_f1 h0_2 h0_0 h0_0k h0_0c) sz) U U.heap)) (va_Qv (fun (u : (Int32) × (Int32) × (Int32) × (Nat → Int32)) => (RG u.1 0 240 ∧ RG u.2.1 (-1) 240 ∧ RG u.2.2.1 0 240 ∧ (u.1, u.2.1, u.2.2.1, u.2.2.2) = fx_c_X4_readUnit_1 h1_f1 h1_f2 h1_f3 h1_0c h0_f1 h0_0c)) (fun (u : (Int32) × (Int32) × (Int32) × (Nat → Int32)) t => va_P (dC, dI) vwCl (wd_c_X4_readUnit_1 h1 h1_0 h1_f1 (u.1) (u.2.1) h1_0 h1_0k h1_0c h0 h0_0 (u.2.2.1) h0_2 h0_0 h0_0k (u.2.2.2)) t.heap ∧ va_K (dC, dI) vwCl [] t ∧ va_D (va_A (wd_c_X4_readUnit_1 h1 h1_0 h1_f1 h1_f2 h1_f3 h1_0 h1_0k h1_0c h0 h0_0 h0_f1 h0_2 h0_0 h0_0k h0_0c) sz) (wd_c_X4_readUnit_1 h1 h1_0 h1_f1 (u.1) (u.2.1) h1_0 h1_0k h1_0c h0 h0_0 (u.2.2.1) h0_2 h0_0 h0_0k (u.2.2.2))) (va_A (wd_c_X4_readUnit_1 h1 h1_0 h1_f1 h1_f2 h1_f3 h1_0 h1_0k h1_0c h0 h0_0 h0_f1 h0_2 h0_0 h0_0k h0_0c) sz)) 0 0 (va_A (wd_c_X4_readUnit_1 h1 h1_0 h1_f1 h1_f2 h1_f3 h1_0 h1_0k h1_0c h0 h0_0 h0_f1 h0_2 h0_0 h0_0k h0_0c) sz) := by
  refine Met.ofW (cc := cX4_readUnit) (maxL := 5) (ret := none) (by decide +kernel) rfl ?_
  intro p e s m args below meth c s₁ B hml hv
  obtain ⟨rfl, hsz, hP, hK, hD0, hE_32, hE_10, hE_34, hE_33, hE_35, hE_36⟩ := hv
  have hx := B.exec
  have hb := B.bytes
  have hr := B.returns
  have hts := atoms_spec (ws := wf_c_X4_readUnit_1) B.pre
  have hown : s.vm.findClass RX4 = some m.cls := findClass_of_methodNamed B.named
  have hlocks := B.notSynchronized
  subst hsz
  have hD := hD0.self (sz := s.heap.size)
  generalize hAe : va_A (wd_c_X4_readUnit_1 h1 h1_0 h1_f1 h1_f2 h1_f3 h1_0 h1_0k h1_0c h0 h0_0 h0_f1 h0_2 h0_0 h0_0k h0_0c) s.heap.size = A at hD hE_10 hE_34 hE_33 hE_35 hE_36 ⊢
  have hA : ∀ q : Nat, s.heap.size ≤ q → A q := fun q h => by rw [← hAe]; exact Or.inr h
  have hP : va_P (dC, dI) vwCl (wd_c_X4_readUnit_1 h1 h1_0 h1_f1 h1_f2 h1_f3 h1_0 h1_0k h1_0c h0 h0_0 h0_f1 h0_2 h0_0 h0_0k h0_0c) s.heap := hP
  have hl := lv_entry ([.ref h0, .ref h1, .int 0, .int 0]) (n := 5) (Nat.le_of_ble_eq_true rfl)
  rw [lg_entry_eq]
  generalize (lg_sl ([.ref h0, .ref h1, .int 0, .int 0]) ++ List.replicate (5 - (lg_sl ([.ref h0, .ref h1, .int 0, .int 0])).length) Slot.unset).toArray = ls at hl ⊢
  have hl : lv_has ls 5 [(0, .ref h0), (1, .ref h1), (2, .int 0), (3, .int 0)] := hl
  obtain ⟨H, hHe⟩ : ∃ H : Heap, s.heap = H := ⟨_, rfl⟩
  have hS : va_S A s.heap H [] := by rw [hHe]; exact va_S.rf
  have hP : va_P (dC, dI) vwCl (wd_c_X4_readUnit_1 h1 h1_0 h1_f1 h1_f2 h1_f3 h1_0 h1_0k h1_0c h0 h0_0 h0_f1 h0_2 h0_0 h0_0k h0_0c) H := by rw [← hHe]; exact hP
  rw [hHe]
  obtain ⟨RES, hR⟩ : ∃ z, fx_c_X4_readUnit_1 h1_f1 h1_f2 h1_f3 h1_0c h0_f1 h0_0c = z := ⟨_, rfl⟩
  have hEX : RES = fx_c_X4_readUnit_1 h1_f1 h1_f2 h1_f3 h1_0c h0_f1 h0_0c := hR.symm
  refine wj (fun G hG hU => ?_)
  as_aux_lemma =>
  have J62 : ∀ (j62_h1_f2 : Int32) (j62_h1_f3 : Int32) (j62_h0_f1 : Int32) (j62_h0_0c : Nat → Int32) (g_h0_f1 : RG h0_f1 0 240) (g_h1_f1 : RG h1_f1 0 240) (g_h1_f2 : RG h1_f2 0 240) (g_h1_f3 : RG h1_f3 (-1) 240) (g_j62_h0_f1 : RG j62_h0_f1 0 240) (g_j62_h1_f2 : RG j62_h1_f2 0 240) (g_j62_h1_f3 : RG j62_h1_f3 (-1) 240) (hEX : RES = fx_c_X4_readUnit_1_p62 j62_h1_f2 j62_h1_f3 j62_h0_f1 j62_h0_0c) (H : Heap) (locs : List Loc) (ls : Array Slot) (hP : va_P (dC, dI) vwCl (wd_c_X4_readUnit_1 h1 h1_0 h1_f1 j62_h1_f2 j62_h1_f3 h1_0 h1_0k h1_0c h0 h0_0 j62_h0_f1 h0_2 h0_0 h0_0k j62_h0_0c) H) (hD : va_D A (wd_c_X4_readUnit_1 h1 h1_0 h1_f1 j62_h1_f2 j62_h1_f3 h1_0 h1_0k h1_0c h0 h0_0 j62_h0_f1 h0_2 h0_0 h0_0k j62_h0_0c)) (hS : va_S A s.heap H locs) (hl : lv_has ls 5 []), G H locs (F0 m 62 ls []) := by
    as_aux_lemma =>
    intro j62_h1_f2 j62_h1_f3 j62_h0_f1 j62_h0_0c g_h0_f1 g_h1_f1 g_h1_f2 g_h1_f3 g_j62_h0_f1 g_j62_h1_f2 g_j62_h1_f3 hEX H locs ls hP hD hS hl
    refine hG _ _ _ ?_
    refine lv_goto (tgt := 126) hx hb dX4_readUnit_62 rfl ?_
    have hK9 := hK.sub (tys' := []) [] rfl
    exact W.vret hx hb hr (fun t ht hW => ⟨⟨(j62_h1_f2, j62_h1_f3, j62_h0_f1, j62_h0_0c), rfl, ⟨g_j62_h1_f2, g_j62_h1_f3, g_j62_h0_f1, (hR.trans hEX).symm⟩, by rw [ht]; exact hP, va_K.moved hW.alike hK9, hD⟩, hS.F ht⟩) hS.2.2 dX4_readUnit_126
  have J24 : ∀ (j24_h1_f2 : Int32) (j24_h1_f3 : Int32) (j24_h0_f1 : Int32) (j24_h0_0c : Nat → Int32) (g_h0_f1 : RG h0_f1 0 240) (g_h1_f1 : RG h1_f1 0 240) (g_h1_f2 : RG h1_f2 0 240) (g_h1_f3 : RG h1_f3 (-1) 240) (g_j24_h0_f1 : RG j24_h0_f1 0 240) (g_j24_h1_f2 : RG j24_h1_f2 0 240) (g_j24_h1_f3 : RG j24_h1_f3 (-1) 240) (hEX : RES = fx_c_X4_readUnit_1_p24 h1_f1 h1_0c j24_h1_f2 j24_h1_f3 j24_h0_f1 j24_h0_0c) (H : Heap) (locs : List Loc) (ls : Array Slot) (hP : va_P (dC, dI) vwCl (wd_c_X4_readUnit_1 h1 h1_0 h1_f1 j24_h1_f2 j24_h1_f3 h1_0 h1_0k h1_0c h0 h0_0 j24_h0_f1 h0_2 h0_0 h0_0k j24_h0_0c) H) (hD : va_D A (wd_c_X4_readUnit_1 h1 h1_0 h1_f1 j24_h1_f2 j24_h1_f3 h1_0 h1_0k h1_0c h0 h0_0 j24_h0_f1 h0_2 h0_0 h0_0k j24_h0_0c)) (hS : va_S A s.heap H locs) (hl : lv_has ls 5 [(0, .ref h0), (1, .ref h1), (2, .int 0)]), G H locs (F0 m 24 ls []) := by
    as_aux_lemma =>
    intro j24_h1_f2 j24_h1_f3 j24_h0_f1 j24_h0_0c g_h0_f1 g_h1_f1 g_h1_f2 g_h1_f3 g_j24_h0_f1 g_j24_h1_f2 g_j24_h1_f3 hEX H locs ls hP hD hS hl
    refine hG _ _ _ ?_
    refine lv_aload_n hx hb dX4_readUnit_24 rfl (lv_at hl 1 rfl) ?_
    obtain ⟨hPc, hDc, hFc, hqc⟩ := cl_cut (wc := (wd_c_X9_peek h1 h1_0 h1_f1 j24_h1_f2 j24_h1_f3 h1_0 h1_0k h1_0c)) hP hD hS hA [0, 1] (by decide +kernel) rfl
    have hKc := hK.sub (tys' := [(h1_0k, .int)]) [0] rfl
    have hrv := va_recv hKc hPc (ci := 9) (q0 := 0) rfl rfl
    refine va_calli (va_runV (As := []) (rest := []) ⟨hx, hb, hml, hown, hts⟩ (c_X9_peek l dC dI H.size h1 h1_0 h1_f1 j24_h1_f2 j24_h1_f3 h1_0k h1_0c g_h1_f1 g_j24_h1_f2 g_j24_h1_f3 a_h1_0c) (cwV 0 hts gf_c_X4_readUnit_1_c_X9_peek rfl rfl rfl mdV_X9_peek ⟨Nat.le_of_ble_eq_true rfl, Nat.le_of_ble_eq_true rfl⟩) ⟨fun a U g mk q => by obtain ⟨q0, q1, qP, qK, qD⟩ := q; exact ⟨q0, q1, qP, va_K.moved (u := U) (U := U.calling g mk a) (Vm.Alike.refl U.vm) qK, qD⟩, hrv, fun U hU hW => ⟨rfl, by rw [hU], by rw [hU]; exact hPc, va_K.moved hW.alike hKc, hDc.weaken (fun _ _ _ _ => trivial)⟩⟩ rfl rfl hl.1 rfl (lv_room (Nat.le_of_ble_eq_true rfl)) dX4_readUnit_25 ⟨Nat.le_of_ble_eq_true rfl, Nat.le_of_ble_eq_true rfl⟩) hS (fun q _ h => hFc q h) hFc (fun r_1 x_2 t H1 locs ht hvm hw hB hz1 hk1 hS => ?_)
    obtain ⟨hP1, hK1, hD1⟩ := hB
    rw [ht] at hP1
    obtain ⟨hP, hD⟩ := cl_put (w1 := (wd_c_X9_peek h1 h1_0 h1_f1 x_2 j24_h1_f3 h1_0 h1_0k h1_0c)) (nw := (wd_c_X4_readUnit_1 h1 h1_0 h1_f1 x_2 j24_h1_f3 h1_0 h1_0k h1_0c h0 h0_0 j24_h0_f1 h0_2 h0_0 h0_0k j24_h0_0c)) hP hD [0, 1] [4, 5, 2, 3] 4 rfl hqc (by decide +kernel) rfl hk1 hFc hP1 hD1
    generalize H1 = H at hP hS ⊢
    as_aux_lemma =>
    rcases hw with ⟨h_3, h_4, h_5, h_6⟩ | ⟨h_7, h_8, h_9, h_10, h_11⟩
    · have h_6 : (r_1, x_2) = _ := h_6
      replace hEX := hEX.trans (exc2_eq h_6)
      replace hEX := hEX.trans (if_pos (show r_1 = (-1) from h_3))
      rw [h_3]
      refine lv_istore (lv' := [(4, .int (-1)), (0, .ref h0), (1, .ref h1), (2, .int 0)]) hx hb dX4_readUnit_28 hl (Nat.le_of_ble_eq_true rfl) rfl (fun ls hl => ?_)
      refine lv_iload hx hb dX4_readUnit_30 (lv_at hl 0 rfl) ?_
      obtain ⟨hPc, hDc, hFc, hqc⟩ := cl_cut (wc := []) hP hD hS hA [] (by decide +kernel) rfl
      have hKc := hK.sub (tys' := []) [] rfl
      refine va_calli (va_runS (As := [.int (-1)]) (rest := []) ⟨hx, hb, hml, hown, hts⟩ (c_X4_isComparison l dC dI H.size (-1) (RG_k (-1) (-1) rfl)) (va_cwS 1 hts gf_c_X4_readUnit_1_c_X4_isComparison rfl rfl rfl md_X4_isComparison ⟨Nat.le_of_ble_eq_true rfl, Nat.le_of_ble_eq_true rfl⟩) ⟨fun a U g mk q => by obtain ⟨q0, q1, qP, qK, qD⟩ := q; exact ⟨q0, q1, qP, va_K.moved (u := U) (U := U.calling g mk a) (Vm.Alike.refl U.vm) qK, qD⟩, fun U hU hW => ⟨rfl, by rw [hU], by rw [hU]; exact hPc, va_K.moved hW.alike hKc, hDc.weaken (fun _ _ _ _ => trivial)⟩⟩ rfl rfl hl.1 rfl (lv_room (Nat.le_of_ble_eq_true rfl)) dX4_readUnit_32 ⟨Nat.le_of_ble_eq_true rfl, Nat.le_of_ble_eq_true rfl⟩) hS (fun q _ h => hFc q h) hFc (fun r_12 u t H1 locs ht hvm hw hB hz1 hk1 hS => ?_)
      obtain ⟨hP1, hK1, hD1⟩ := hB
      rw [ht] at hP1
      have hP := bv_still hP hk1
      generalize H1 = H at hP hS ⊢
      as_aux_lemma =>
      rcases hw with ⟨h_13, h_14⟩
      have h_14 : r_12 = _ := h_14
      replace hEX := hEX.trans (exc1_eq h_14)
      rw [h_13]
      refine lv_if_eq (tgt := 58) hx hb dX4_readUnit_35 rfl (fun c_15 => ?_) (fun c_15 => absurd c_15 (by decide +kernel))
      refine lv_aload_n hx hb dX4_readUnit_58 rfl (lv_at hl 2 rfl) ?_
      obtain ⟨hPc, hDc, hFc, hqc⟩ := cl_cut (wc := (wd_c_X9_refuseHere h1 h1_0 h1_f1 x_2 j24_h1_f3)) hP hD hS hA [0] (by decide +kernel) rfl
      have hKc := hK.sub (tys' := []) [] rfl
      have hrv := va_recv hKc hPc (ci := 9) (q0 := 0) rfl rfl
      refine va_callv (va_runV (As := []) (rest := []) ⟨hx, hb, hml, hown, hts⟩ (c_X9_refuseHere l dC dI H.size h1 h1_0 h1_f1 x_2 j24_h1_f3 g_h1_f1 h_4 g_j24_h1_f3) (cwV 0 hts gf_c_X4_readUnit_1_c_X9_refuseHere rfl rfl rfl mdV_X9_refuseHere ⟨Nat.le_of_ble_eq_true rfl, Nat.le_of_ble_eq_true rfl⟩) ⟨fun a U g mk q => by obtain ⟨q0, q1, qP, qK, qD⟩ := q; exact ⟨q0, q1, qP, va_K.moved (u := U) (U := U.calling g mk a) (Vm.Alike.refl U.vm) qK, qD⟩, hrv, fun U hU hW => ⟨rfl, by rw [hU], by rw [hU]; exact hPc, va_K.moved hW.alike hKc, hDc.weaken (fun _ _ _ _ => trivial)⟩⟩ rfl rfl hl.1 rfl (lv_room (Nat.le_of_ble_eq_true rfl)) dX4_readUnit_59 ⟨Nat.le_of_ble_eq_true rfl, Nat.le_of_ble_eq_true rfl⟩) hS (fun q _ h => hFc q h) hFc (fun x_17 t H1 locs ht hvm hw hB hz1 hk1 hS => ?_)
      obtain ⟨hP1, hK1, hD1⟩ := hB
      rw [ht] at hP1
      obtain ⟨hP, hD⟩ := cl_put (w1 := (wd_c_X9_refuseHere h1 h1_0 h1_f1 x_2 x_17)) (nw := (wd_c_X4_readUnit_1 h1 h1_0 h1_f1 x_2 x_17 h1_0 h1_0k h1_0c h0 h0_0 j24_h0_f1 h0_2 h0_0 h0_0k j24_h0_0c)) hP hD [0] [4, 1, 2, 3] 4 rfl hqc (by decide +kernel) rfl hk1 hFc hP1 hD1
      generalize H1 = H at hP hS ⊢
      as_aux_lemma =>
      rcases hw with ⟨h_18, h_19⟩
      have h_19 : x_17 = _ := h_19
      replace hEX := hEX.trans (exc1_eq h_19)
      exact hU _ _ _ (J62 x_2 x_17 j24_h0_f1 j24_h0_0c g_h0_f1 g_h1_f1 g_h1_f2 g_h1_f3 g_j24_h0_f1 h_4 (RG_w h_18 (by decide +kernel)) hEX _ _ _ hP hD hS (lv_sub hl [] rfl))
    · have h_11 : (r_1, x_2) = _ := h_11
      replace hEX := hEX.trans (exc2_eq h_11)
      replace hEX := hEX.trans (if_neg (RG_neq (x := r_1) (c := (-1)) (show RG r_1 0 255 from h_7) (by decide +kernel)))
      refine lv_istore (lv' := [(4, .int r_1), (0, .ref h0), (1, .ref h1), (2, .int 0)]) hx hb dX4_readUnit_28 hl (Nat.le_of_ble_eq_true rfl) rfl (fun ls hl => ?_)
      refine lv_iload hx hb dX4_readUnit_30 (lv_at hl 0 rfl) ?_
      obtain ⟨hPc, hDc, hFc, hqc⟩ := cl_cut (wc := []) hP hD hS hA [] (by decide +kernel) rfl
      have hKc := hK.sub (tys' := []) [] rfl
      refine va_calli (va_runS (As := [.int r_1]) (rest := []) ⟨hx, hb, hml, hown, hts⟩ (c_X4_isComparison_1 l dC dI H.size r_1 h_7) (va_cwS 1 hts gf_c_X4_readUnit_1_c_X4_isComparison_1 rfl rfl rfl md_X4_isComparison ⟨Nat.le_of_ble_eq_true rfl, Nat.le_of_ble_eq_true rfl⟩) ⟨fun a U g mk q => by obtain ⟨q0, q1, qP, qK, qD⟩ := q; exact ⟨q0, q1, qP, va_K.moved (u := U) (U := U.calling g mk a) (Vm.Alike.refl U.vm) qK, qD⟩, fun U hU hW => ⟨rfl, by rw [hU], by rw [hU]; exact hPc, va_K.moved hW.alike hKc, hDc.weaken (fun _ _ _ _ => trivial)⟩⟩ rfl rfl hl.1 rfl (lv_room (Nat.le_of_ble_eq_true rfl)) dX4_readUnit_32 ⟨Nat.le_of_ble_eq_true rfl, Nat.le_of_ble_eq_true rfl⟩) hS (fun q _ h => hFc q h) hFc (fun r_20 u t H1 locs ht hvm hw hB hz1 hk1 hS => ?_)
      obtain ⟨hP1, hK1, hD1⟩ := hB
      rw [ht] at hP1
      have hP := bv_still hP hk1
      generalize H1 = H at hP hS ⊢
      as_aux_lemma =>
      rcases hw with ⟨h_21, h_22⟩ | ⟨h_23, h_24, h_25⟩
      · have h_22 : r_20 = _ := h_22
        replace hEX := hEX.trans (exc1_eq h_22)
        replace hEX := hEX.trans (if_pos (show r_20 = 0 from h_21))
        rw [h_21]
        refine lv_if_eq (tgt := 58) hx hb dX4_readUnit_35 rfl (fun c_26 => ?_) (fun c_26 => absurd c_26 (by decide +kernel))
        refine lv_aload_n hx hb dX4_readUnit_58 rfl (lv_at hl 2 rfl) ?_
        obtain ⟨hPc, hDc, hFc, hqc⟩ := cl_cut (wc := (wd_c_X9_refuseHere h1 h1_0 h1_f1 x_2 j24_h1_f3)) hP hD hS hA [0] (by decide +kernel) rfl
        have hKc := hK.sub (tys' := []) [] rfl
        have hrv := va_recv hKc hPc (ci := 9) (q0 := 0) rfl rfl
        refine va_callv (va_runV (As := []) (rest := []) ⟨hx, hb, hml, hown, hts⟩ (c_X9_refuseHere l dC dI H.size h1 h1_0 h1_f1 x_2 j24_h1_f3 (RG_w h_9 (by decide +kernel)) (RG_w h_8 (by decide +kernel)) g_j24_h1_f3) (cwV 0 hts gf_c_X4_readUnit_1_c_X9_refuseHere rfl rfl rfl mdV_X9_refuseHere ⟨Nat.le_of_ble_eq_true rfl, Nat.le_of_ble_eq_true rfl⟩) ⟨fun a U g mk q => by obtain ⟨q0, q1, qP, qK, qD⟩ := q; exact ⟨q0, q1, qP, va_K.moved (u := U) (U := U.calling g mk a) (Vm.Alike.refl U.vm) qK, qD⟩, hrv, fun U hU hW => ⟨rfl, by rw [hU], by rw [hU]; exact hPc, va_K.moved hW.alike hKc, hDc.weaken (fun _ _ _ _ => trivial)⟩⟩ rfl rfl hl.1 rfl (lv_room (Nat.le_of_ble_eq_true rfl)) dX4_readUnit_59 ⟨Nat.le_of_ble_eq_true rfl, Nat.le_of_ble_eq_true rfl⟩) hS (fun q _ h => hFc q h) hFc (fun x_28 t H1 locs ht hvm hw hB hz1 hk1 hS => ?_)
        obtain ⟨hP1, hK1, hD1⟩ := hB
        rw [ht] at hP1
        obtain ⟨hP, hD⟩ := cl_put (w1 := (wd_c_X9_refuseHere h1 h1_0 h1_f1 x_2 x_28)) (nw := (wd_c_X4_readUnit_1 h1 h1_0 h1_f1 x_2 x_28 h1_0 h1_0k h1_0c h0 h0_0 j24_h0_f1 h0_2 h0_0 h0_0k j24_h0_0c)) hP hD [0] [4, 1, 2, 3] 4 rfl hqc (by decide +kernel) rfl hk1 hFc hP1 hD1
        generalize H1 = H at hP hS ⊢
        as_aux_lemma =>
        rcases hw with ⟨h_29, h_30⟩
        have h_30 : x_28 = _ := h_30
        replace hEX := hEX.trans (exc1_eq h_30)
        exact hU _ _ _ (J62 x_2 x_28 j24_h0_f1 j24_h0_0c g_h0_f1 (RG_w h_9 (by decide +kernel)) g_h1_f2 g_h1_f3 g_j24_h0_f1 (RG_w h_8 (by decide +kernel)) (RG_w h_29 (by decide +kernel)) hEX _ _ _ hP hD hS (lv_sub hl [] rfl))
      · have h_25 : r_20 = _ := h_25
        replace hEX := hEX.trans (exc1_eq h_25)
        replace hEX := hEX.trans (if_neg (fun q9 : r_20 = 0 => absurd ((show r_20 = 1 from h_23).symm.trans q9) (by decide +kernel)))
        rw [h_23]
        refine lv_if_eq (tgt := 58) hx hb dX4_readUnit_35 rfl (fun c_31 => absurd c_31 (by decide +kernel)) (fun c_31 => ?_)
        refine lv_aload_n hx hb dX4_readUnit_38 rfl (lv_at hl 2 rfl) ?_
        obtain ⟨hPc, hDc, hFc, hqc⟩ := cl_cut (wc := (wd_c_X9_skip h1 h1_0 h1_f1 x_2 j24_h1_f3)) hP hD hS hA [0] (by decide +kernel) rfl
        have hKc := hK.sub (tys' := []) [] rfl
        have hrv := va_recv hKc hPc (ci := 9) (q0 := 0) rfl rfl
        refine va_callv (va_runV (As := []) (rest := []) ⟨hx, hb, hml, hown, hts⟩ (c_X9_skip l dC dI H.size h1 h1_0 h1_f1 x_2 j24_h1_f3 (RG_w h_9 (by decide +kernel)) h_8 g_j24_h1_f3) (cwV 0 hts gf_c_X4_readUnit_1_c_X9_skip rfl rfl rfl mdV_X9_skip ⟨Nat.le_of_ble_eq_true rfl, Nat.le_of_ble_eq_true rfl⟩) ⟨fun a U g mk q => by obtain ⟨q0, q1, qP, qK, qD⟩ := q; exact ⟨q0, q1, qP, va_K.moved (u := U) (U := U.calling g mk a) (Vm.Alike.refl U.vm) qK, qD⟩, hrv, fun U hU hW => ⟨rfl, by rw [hU], by rw [hU]; exact hPc, va_K.moved hW.alike hKc, hDc.weaken (fun _ _ _ _ => trivial)⟩⟩ rfl rfl hl.1 rfl (lv_room (Nat.le_of_ble_eq_true rfl)) dX4_readUnit_39 ⟨Nat.le_of_ble_eq_true rfl, Nat.le_of_ble_eq_true rfl⟩) hS (fun q _ h => hFc q h) hFc (fun x_33 t H1 locs ht hvm hw hB hz1 hk1 hS => ?_)
        as_aux_lemma =>
        obtain ⟨hP1, hK1, hD1⟩ := hB
        rw [ht] at hP1
        obtain ⟨hP, hD⟩ := cl_put (w1 := (wd_c_X9_skip h1 h1_0 h1_f1 x_33 j24_h1_f3)) (nw := (wd_c_X4_readUnit_1 h1 h1_0 h1_f1 x_33 j24_h1_f3 h1_0 h1_0k h1_0c h0 h0_0 j24_h0_f1 h0_2 h0_0 h0_0k j24_h0_0c)) hP hD [0] [4, 1, 2, 3] 4 rfl hqc (by decide +kernel) rfl hk1 hFc hP1 hD1
        generalize H1 = H at hP hS ⊢
        as_aux_lemma =>
        rcases hw with ⟨h_34, h_35, h_36, h_37⟩
        have h_37 : x_33 = _ := h_37
        replace hEX := hEX.trans (exc1_eq h_37)
        refine lv_aload_n hx hb dX4_readUnit_42 rfl (lv_at hl 1 rfl) ?_
        refine lv_aload_n hx hb dX4_readUnit_43 rfl (lv_at hl 2 rfl) ?_
        refine lv_iload_n hx hb dX4_readUnit_44 rfl (lv_at hl 3 rfl) ?_
        obtain ⟨hPc, hDc, hFc, hqc⟩ := cl_cut (wc := (wd_c_X4_readSum h1 h1_0 h1_f1 x_33 j24_h1_f3 h1_0 h1_0k h1_0c h0 h0_0 j24_h0_f1 h0_2 h0_0 h0_0k j24_h0_0c)) hP hD hS hA [0, 1, 2, 3] (by decide +kernel) rfl
        have hKc := hK.sub (tys' := [(h1_0k, .int), (h0_0k, .int)]) [0, 1] rfl
        have hrv := va_recv hKc hPc (ci := 4) (q0 := 2) rfl rfl
        refine va_callv (va_runV (As := [.ref h1, .int 0]) (rest := []) ⟨hx, hb, hml, hown, hts⟩ (c_X4_readSum l dC dI H.size h0 h1 h1_0 h1_f1 x_33 j24_h1_f3 h1_0k h1_0c h0_0 j24_h0_f1 h0_2 h0_0k j24_h0_0c ts4 tv4 (RG_w h_9 (by decide +kernel)) (RG_w h_34 (by decide +kernel)) g_j24_h1_f3 a_h1_0c g_j24_h0_f1) (cwV 2 hts gf_c_X4_readUnit_1_c_X4_readSum rfl rfl rfl mdV_X4_readSum ⟨Nat.le_of_ble_eq_true rfl, Nat.le_of_ble_eq_true rfl⟩) ⟨fun a U g mk q => by obtain ⟨q0, q1, qP, qK, qD, qE0, qE1, qE2, qE3, qE4, qE5⟩ := q; exact ⟨q0, q1, qP, va_K.moved (u := U) (U := U.calling g mk a) (Vm.Alike.refl U.vm) qK, qD, vk_R.same rfl qE0, va_Z.moved (u := U) (U := U.calling g mk a) (Vm.Alike.refl U.vm) qE1, va_OF.moved (u := U) (U := U.calling g mk a) (Vm.Alike.refl U.vm) qE2, va_O.moved (u := U) (U := U.calling g mk a) (Vm.Alike.refl U.vm) qE3, va_OF.moved (u := U) (U := U.calling g mk a) (Vm.Alike.refl U.vm) qE4, va_T.moved (u := U) (U := U.calling g mk a) (Vm.Alike.refl U.vm) qE5⟩, hrv, fun U hU hW => ⟨rfl, by rw [hU], by rw [hU]; exact hPc, va_K.moved hW.alike hKc, hDc.weaken (fun _ _ _ _ => trivial), vk_R.warm hW hE_32, va_Z.moved hW.alike (by rw [hU]; exact (hE_10.kept hS.2.1).narrow hFc), va_OF.moved hW.alike (by rw [hU]; exact (hE_34.kept hS.2.1).narrow hFc), va_O.moved hW.alike (by rw [hU]; exact (hE_33.kept hS.2.1).narrow hFc), va_OF.moved hW.alike (by rw [hU]; exact (hE_35.kept hS.2.1).narrow hFc), va_T.moved hW.alike (by rw [hU]; exact (hE_36.kept hS.2.1).narrow hFc)⟩⟩ rfl rfl hl.1 rfl (lv_room (Nat.le_of_ble_eq_true rfl)) dX4_readUnit_45 ⟨Nat.le_of_ble_eq_true rfl, Nat.le_of_ble_eq_true rfl⟩) hS (fun q _ h => hFc q h) hFc (fun u t H1 locs ht hvm hw hB hz1 hk1 hS => ?_)
        obtain ⟨x_39, x_40, x_41, w_42⟩ := u
        obtain ⟨hP1, hK1, hD1⟩ := hB
        rw [ht] at hP1
        obtain ⟨hP, hD⟩ := cl_put (w1 := (wd_c_X4_readSum h1 h1_0 h1_f1 x_39 x_40 h1_0 h1_0k h1_0c h0 h0_0 x_41 h0_2 h0_0 h0_0k w_42)) (nw := (wd_c_X4_readUnit_1 h1 h1_0 h1_f1 x_39 x_40 h1_0 h1_0k h1_0c h0 h0_0 x_41 h0_2 h0_0 h0_0k w_42)) hP hD [0, 1, 2, 3] [4, 5, 6, 7] 4 rfl hqc (by decide +kernel) rfl hk1 hFc hP1 hD1
        generalize H1 = H at hP hS ⊢
        as_aux_lemma =>
        rcases hw with ⟨h_43, h_44, h_45, h_46⟩
        have h_46 : (x_39, x_40, x_41, w_42) = _ := h_46
        replace hEX := hEX.trans (exc4_eq h_46)
        refine lv_aload_n hx hb dX4_readUnit_48 rfl (lv_at hl 1 rfl) ?_
        refine lv_iload hx hb dX4_readUnit_49 (lv_at hl 0 rfl) ?_
        refine lv_ineg hx hb dX4_readUnit_51 ?_
        refine lv_topi (fun x_47 ex_47 => ?_)
        replace hEX := hEX.trans (exl_eq ex_47)
        have g_48 : RG x_47 (-62) (-60) := RG_neg ex_47 h_24 (by decide +kernel)
        obtain ⟨hPc, hDc, hFc, hqc⟩ := cl_cut (wc := (wd_c_X4_emit h0 h0_0 x_41 h0_2 h0_0 h0_0k w_42)) hP hD hS hA [2, 3] (by decide +kernel) rfl
        have hKc := hK.sub (tys' := [(h0_0k, .int)]) [1] rfl
        have hrv := va_recv hKc hPc (ci := 4) (q0 := 0) rfl rfl
        refine va_callv (va_runV (As := [.int x_47]) (rest := []) ⟨hx, hb, hml, hown, hts⟩ (c_X4_emit l dC dI H.size h0 x_47 h0_0 x_41 h0_2 h0_0k w_42 h_45) (cwV 1 hts gf_c_X4_readUnit_1_c_X4_emit rfl rfl rfl mdV_X4_emit ⟨Nat.le_of_ble_eq_true rfl, Nat.le_of_ble_eq_true rfl⟩) ⟨fun a U g mk q => by obtain ⟨q0, q1, qP, qK, qD⟩ := q; exact ⟨q0, q1, qP, va_K.moved (u := U) (U := U.calling g mk a) (Vm.Alike.refl U.vm) qK, qD⟩, hrv, fun U hU hW => ⟨rfl, by rw [hU], by rw [hU]; exact hPc, va_K.moved hW.alike hKc, hDc.weaken (fun _ _ _ _ => trivial)⟩⟩ rfl rfl hl.1 rfl (lv_room (Nat.le_of_ble_eq_true rfl)) dX4_readUnit_52 ⟨Nat.le_of_ble_eq_true rfl, Nat.le_of_ble_eq_true rfl⟩) hS (fun q _ h => hFc q h) hFc (fun u t H1 locs ht hvm hw hB hz1 hk1 hS => ?_)
        obtain ⟨x_50, w_51⟩ := u
        obtain ⟨hP1, hK1, hD1⟩ := hB
        rw [ht] at hP1
        obtain ⟨hP, hD⟩ := cl_put (w1 := (wd_c_X4_emit h0 h0_0 x_50 h0_2 h0_0 h0_0k w_51)) (nw := (wd_c_X4_readUnit_1 h1 h1_0 h1_f1 x_39 x_40 h1_0 h1_0k h1_0c h0 h0_0 x_50 h0_2 h0_0 h0_0k w_51)) hP hD [2, 3] [0, 1, 4, 5] 4 rfl hqc (by decide +kernel) rfl hk1 hFc hP1 hD1
        generalize H1 = H at hP hS ⊢
        as_aux_lemma =>
        rcases hw with ⟨h_52, h_53⟩
        have h_53 : (x_50, w_51) = _ := h_53
        replace hEX := hEX.trans (exc2_eq h_53)
        refine lv_goto (tgt := 62) hx hb dX4_readUnit_55 rfl ?_
        exact hU _ _ _ (J62 x_39 x_40 x_50 w_51 g_h0_f1 (RG_w h_9 (by decide +kernel)) g_h1_f2 g_h1_f3 (RG_w h_52 (by decide +kernel)) h_43 h_44 hEX _ _ _ hP hD hS (lv_sub hl [] rfl))
  have J14 : ∀ (j14_h1_f2 : Int32) (g_h0_f1 : RG h0_f1 0 240) (g_h1_f1 : RG h1_f1 0 240) (g_h1_f2 : RG h1_f2 0 240) (g_h1_f3 : RG h1_f3 (-1) 240) (g_j14_h1_f2 : RG j14_h1_f2 0 240) (hEX : RES = fx_c_X4_readUnit_1_p14 h1_f1 h1_f3 h1_0c h0_f1 h0_0c j14_h1_f2) (H : Heap) (locs : List Loc) (ls : Array Slot) (hP : va_P (dC, dI) vwCl (wd_c_X4_readUnit_1 h1 h1_0 h1_f1 j14_h1_f2 h1_f3 h1_0 h1_0k h1_0c h0 h0_0 h0_f1 h0_2 h0_0 h0_0k h0_0c) H) (hD : va_D A (wd_c_X4_readUnit_1 h1 h1_0 h1_f1 j14_h1_f2 h1_f3 h1_0 h1_0k h1_0c h0 h0_0 h0_f1 h0_2 h0_0 h0_0k h0_0c)) (hS : va_S A s.heap H locs) (hl : lv_has ls 5 [(0, .ref h0), (1, .ref h1), (2, .int 0), (3, .int 0)]), G H locs (F0 m 14 ls []) := by
    as_aux_lemma =>
    intro j14_h1_f2 g_h0_f1 g_h1_f1 g_h1_f2 g_h1_f3 g_j14_h1_f2 hEX H locs ls hP hD hS hl
    refine hG _ _ _ ?_
    refine lv_iload_n hx hb dX4_readUnit_14 rfl (lv_at hl 3 rfl) ?_
    refine lv_if_ne (tgt := 24) hx hb dX4_readUnit_15 rfl (fun c_54 => absurd c_54 (by decide +kernel)) (fun c_54 => ?_)
    refine lv_aload_n hx hb dX4_readUnit_18 rfl (lv_at hl 0 rfl) ?_
    refine lv_aload_n hx hb dX4_readUnit_19 rfl (lv_at hl 1 rfl) ?_
    refine lv_iload_n hx hb dX4_readUnit_20 rfl (lv_at hl 2 rfl) ?_
    obtain ⟨hPc, hDc, hFc, hqc⟩ := cl_cut (wc := (wd_c_X4_readSum h1 h1_0 h1_f1 j14_h1_f2 h1_f3 h1_0 h1_0k h1_0c h0 h0_0 h0_f1 h0_2 h0_0 h0_0k h0_0c)) hP hD hS hA [0, 1, 2, 3] (by decide +kernel) rfl
    have hKc := hK.sub (tys' := [(h1_0k, .int), (h0_0k, .int)]) [0, 1] rfl
    have hrv := va_recv hKc hPc (ci := 4) (q0 := 2) rfl rfl
    refine va_callv (va_runV (As := [.ref h1, .int 0]) (rest := []) ⟨hx, hb, hml, hown, hts⟩ (c_X4_readSum l dC dI H.size h0 h1 h1_0 h1_f1 j14_h1_f2 h1_f3 h1_0k h1_0c h0_0 h0_f1 h0_2 h0_0k h0_0c ts4 tv4 g_h1_f1 g_j14_h1_f2 g_h1_f3 a_h1_0c g_h0_f1) (cwV 2 hts gf_c_X4_readUnit_1_c_X4_readSum rfl rfl rfl mdV_X4_readSum ⟨Nat.le_of_ble_eq_true rfl, Nat.le_of_ble_eq_true rfl⟩) ⟨fun a U g mk q => by obtain ⟨q0, q1, qP, qK, qD, qE0, qE1, qE2, qE3, qE4, qE5⟩ := q; exact ⟨q0, q1, qP, va_K.moved (u := U) (U := U.calling g mk a) (Vm.Alike.refl U.vm) qK, qD, vk_R.same rfl qE0, va_Z.moved (u := U) (U := U.calling g mk a) (Vm.Alike.refl U.vm) qE1, va_OF.moved (u := U) (U := U.calling g mk a) (Vm.Alike.refl U.vm) qE2, va_O.moved (u := U) (U := U.calling g mk a) (Vm.Alike.refl U.vm) qE3, va_OF.moved (u := U) (U := U.calling g mk a) (Vm.Alike.refl U.vm) qE4, va_T.moved (u := U) (U := U.calling g mk a) (Vm.Alike.refl U.vm) qE5⟩, hrv, fun U hU hW => ⟨rfl, by rw [hU], by rw [hU]; exact hPc, va_K.moved hW.alike hKc, hDc.weaken (fun _ _ _ _ => trivial), vk_R.warm hW hE_32, va_Z.moved hW.alike (by rw [hU]; exact (hE_10.kept hS.2.1).narrow hFc), va_OF.moved hW.alike (by rw [hU]; exact (hE_34.kept hS.2.1).narrow hFc), va_O.moved hW.alike (by rw [hU]; exact (hE_33.kept hS.2.1).narrow hFc), va_OF.moved hW.alike (by rw [hU]; exact (hE_35.kept hS.2.1).narrow hFc), va_T.moved hW.alike (by rw [hU]; exact (hE_36.kept hS.2.1).narrow hFc)⟩⟩ rfl rfl hl.1 rfl (lv_room (Nat.le_of_ble_eq_true rfl)) dX4_readUnit_21 ⟨Nat.le_of_ble_eq_true rfl, Nat.le_of_ble_eq_true rfl⟩) hS (fun q _ h => hFc q h) hFc (fun u t H1 locs ht hvm hw hB hz1 hk1 hS => ?_)
    obtain ⟨x_56, x_57, x_58, w_59⟩ := u
    obtain ⟨hP1, hK1, hD1⟩ := hB
    rw [ht] at hP1
    obtain ⟨hP, hD⟩ := cl_put (w1 := (wd_c_X4_readSum h1 h1_0 h1_f1 x_56 x_57 h1_0 h1_0k h1_0c h0 h0_0 x_58 h0_2 h0_0 h0_0k w_59)) (nw := (wd_c_X4_readUnit_1 h1 h1_0 h1_f1 x_56 x_57 h1_0 h1_0k h1_0c h0 h0_0 x_58 h0_2 h0_0 h0_0k w_59)) hP hD [0, 1, 2, 3] [4, 5, 6, 7] 4 rfl hqc (by decide +kernel) rfl hk1 hFc hP1 hD1
    generalize H1 = H at hP hS ⊢
    as_aux_lemma =>
    rcases hw with ⟨h_60, h_61, h_62, h_63⟩
    have h_63 : (x_56, x_57, x_58, w_59) = _ := h_63
    replace hEX := hEX.trans (exc4_eq h_63)
    exact hU _ _ _ (J24 x_56 x_57 x_58 w_59 g_h0_f1 g_h1_f1 g_h1_f2 g_h1_f3 h_62 h_60 h_61 hEX _ _ _ hP hD hS (lv_sub hl [0, 1, 2] rfl))
  refine hG _ _ _ ?_
  refine lv_iload_n hx hb dX4_readUnit_0 rfl (lv_at hl 3 rfl) ?_
  refine lv_if_ne (tgt := 14) hx hb dX4_readUnit_1 rfl (fun c_64 => absurd c_64 (by decide +kernel)) (fun c_64 => ?_)
  refine lv_aload_n hx hb dX4_readUnit_4 rfl (lv_at hl 1 rfl) ?_
  obtain ⟨hPc, hDc, hFc, hqc⟩ := cl_cut (wc := (wd_c_X9_peek h1 h1_0 h1_f1 h1_f2 h1_f3 h1_0 h1_0k h1_0c)) hP hD hS hA [0, 1] (by decide +kernel) rfl
  have hKc := hK.sub (tys' := [(h1_0k, .int)]) [0] rfl
  have hrv := va_recv hKc hPc (ci := 9) (q0 := 0) rfl rfl
  refine va_calli (va_runV (As := []) (rest := []) ⟨hx, hb, hml, hown, hts⟩ (c_X9_peek l dC dI H.size h1 h1_0 h1_f1 h1_f2 h1_f3 h1_0k h1_0c g_h1_f1 g_h1_f2 g_h1_f3 a_h1_0c) (cwV 0 hts gf_c_X4_readUnit_1_c_X9_peek rfl rfl rfl mdV_X9_peek ⟨Nat.le_of_ble_eq_true rfl, Nat.le_of_ble_eq_true rfl⟩) ⟨fun a U g mk q => by obtain ⟨q0, q1, qP, qK, qD⟩ := q; exact ⟨q0, q1, qP, va_K.moved (u := U) (U := U.calling g mk a) (Vm.Alike.refl U.vm) qK, qD⟩, hrv, fun U hU hW => ⟨rfl, by rw [hU], by rw [hU]; exact hPc, va_K.moved hW.alike hKc, hDc.weaken (fun _ _ _ _ => trivial)⟩⟩ rfl rfl hl.1 rfl (lv_room (Nat.le_of_ble_eq_true rfl)) dX4_readUnit_5 ⟨Nat.le_of_ble_eq_true rfl, Nat.le_of_ble_eq_true rfl⟩) hS (fun q _ h => hFc q h) hFc (fun r_65 x_66 t H1 locs ht hvm hw hB hz1 hk1 hS => ?_)
  obtain ⟨hP1, hK1, hD1⟩ := hB
  rw [ht] at hP1
  obtain ⟨hP, hD⟩ := cl_put (w1 := (wd_c_X9_peek h1 h1_0 h1_f1 x_66 h1_f3 h1_0 h1_0k h1_0c)) (nw := (wd_c_X4_readUnit_1 h1 h1_0 h1_f1 x_66 h1_f3 h1_0 h1_0k h1_0c h0 h0_0 h0_f1 h0_2 h0_0 h0_0k h0_0c)) hP hD [0, 1] [4, 5, 2, 3] 4 rfl hqc (by decide +kernel) rfl hk1 hFc hP1 hD1
  generalize H1 = H at hP hS ⊢
  as_aux_lemma =>
  rcases hw with ⟨h_67, h_68, h_69, h_70⟩ | ⟨h_71, h_72, h_73, h_74, h_75⟩
  · have h_70 : (r_65, x_66) = _ := h_70
    replace hEX := hEX.trans (exc2_eq h_70)
    replace hEX := hEX.trans (if_pos (show r_65 = (-1) from h_67))
    rw [h_67]
    obtain ⟨hPc, hDc, hFc, hqc⟩ := cl_cut (wc := []) hP hD hS hA [] (by decide +kernel) rfl
    have hKc := hK.sub (tys' := []) [] rfl
    refine va_calli (va_runS (As := [.int (-1)]) (rest := []) ⟨hx, hb, hml, hown, hts⟩ (c_X4_startsUnit l dC dI H.size (-1) (RG_k (-1) (-1) rfl)) (va_cwS 1 hts gf_c_X4_readUnit_1_c_X4_startsUnit rfl rfl rfl md_X4_startsUnit ⟨Nat.le_of_ble_eq_true rfl, Nat.le_of_ble_eq_true rfl⟩) ⟨fun a U g mk q => by obtain ⟨q0, q1, qP, qK, qD⟩ := q; exact ⟨q0, q1, qP, va_K.moved (u := U) (U := U.calling g mk a) (Vm.Alike.refl U.vm) qK, qD⟩, fun U hU hW => ⟨rfl, by rw [hU], by rw [hU]; exact hPc, va_K.moved hW.alike hKc, hDc.weaken (fun _ _ _ _ => trivial)⟩⟩ rfl rfl hl.1 rfl (lv_room (Nat.le_of_ble_eq_true rfl)) dX4_readUnit_8 ⟨Nat.le_of_ble_eq_true rfl, Nat.le_of_ble_eq_true rfl⟩) hS (fun q _ h => hFc q h) hFc (fun r_76 u t H1 locs ht hvm hw hB hz1 hk1 hS => ?_)
    obtain ⟨hP1, hK1, hD1⟩ := hB
    rw [ht] at hP1
    have hP := bv_still hP hk1
    generalize H1 = H at hP hS ⊢
    as_aux_lemma =>
    rcases hw with ⟨h_77, h_78⟩
    have h_78 : r_76 = _ := h_78
    replace hEX := hEX.trans (exc1_eq h_78)
    rw [h_77]
    refine lv_if_ne (tgt := 65) hx hb dX4_readUnit_11 rfl (fun c_79 => absurd c_79 (by decide +kernel)) (fun c_79 => ?_)
    exact hU _ _ _ (J14 x_66 g_h0_f1 g_h1_f1 g_h1_f2 g_h1_f3 h_68 hEX _ _ _ hP hD hS (lv_sub hl [0, 1, 2, 3] rfl))
  · have h_75 : (r_65, x_66) = _ := h_75
    replace hEX := hEX.trans (exc2_eq h_75)
    replace hEX := hEX.trans (if_neg (RG_neq (x := r_65) (c := (-1)) (show RG r_65 0 255 from h_71) (by decide +kernel)))
    obtain ⟨hPc, hDc, hFc, hqc⟩ := cl_cut (wc := []) hP hD hS hA [] (by decide +kernel) rfl
    have hKc := hK.sub (tys' := []) [] rfl
    refine va_calli (va_runS (As := [.int r_65]) (rest := []) ⟨hx, hb, hml, hown, hts⟩ (c_X4_startsUnit_1 l dC dI H.size r_65 h_71) (va_cwS 1 hts gf_c_X4_readUnit_1_c_X4_startsUnit_1 rfl rfl rfl md_X4_startsUnit ⟨Nat.le_of_ble_eq_true rfl, Nat.le_of_ble_eq_true rfl⟩) ⟨fun a U g mk q => by obtain ⟨q0, q1, qP, qK, qD⟩ := q; exact ⟨q0, q1, qP, va_K.moved (u := U) (U := U.calling g mk a) (Vm.Alike.refl U.vm) qK, qD⟩, fun U hU hW => ⟨rfl, by rw [hU], by rw [hU]; exact hPc, va_K.moved hW.alike hKc, hDc.weaken (fun _ _ _ _ => trivial)⟩⟩ rfl rfl hl.1 rfl (lv_room (Nat.le_of_ble_eq_true rfl)) dX4_readUnit_8 ⟨Nat.le_of_ble_eq_true rfl, Nat.le_of_ble_eq_true rfl⟩) hS (fun q _ h => hFc q h) hFc (fun r_80 u t H1 locs ht hvm hw hB hz1 hk1 hS => ?_)
    obtain ⟨hP1, hK1, hD1⟩ := hB
    rw [ht] at hP1
    have hP := bv_still hP hk1
    generalize H1 = H at hP hS ⊢
    as_aux_lemma =>
    rcases hw with ⟨h_81, h_82⟩ | ⟨h_83, h_84, h_85⟩
    · have h_82 : r_80 = _ := h_82
      replace hEX := hEX.trans (exc1_eq h_82)
      replace hEX := hEX.trans (if_pos (show r_80 = 0 from h_81))
      rw [h_81]
      refine lv_if_ne (tgt := 65) hx hb dX4_readUnit_11 rfl (fun c_86 => absurd c_86 (by decide +kernel)) (fun c_86 => ?_)
      exact hU _ _ _ (J14 x_66 g_h0_f1 (RG_w h_73 (by decide +kernel)) g_h1_f2 g_h1_f3 (RG_w h_72 (by decide +kernel)) hEX _ _ _ hP hD hS (lv_sub hl [0, 1, 2, 3] rfl))
    · have h_85 : r_80 = _ := h_85
      replace hEX := hEX.trans (exc1_eq h_85)
      replace hEX := hEX.trans (if_neg (fun q9 : r_80 = 0 => absurd ((show r_80 = 1 from h_83).symm.trans q9) (by decide +kernel)))
      rw [h_83]
      refine lv_if_ne (tgt := 65) hx hb dX4_readUnit_11 rfl (fun c_87 => ?_) (fun c_87 => absurd c_87 (by decide +kernel))
      refine lv_iload_n hx hb dX4_readUnit_65 rfl (lv_at hl 2 rfl) ?_
      refine lv_bipush (v := 6) hx hb dX4_readUnit_66 kc_bipush_6 ?_
      as_aux_lemma =>
      refine lv_icmp_lt (tgt := 78) hx hb dX4_readUnit_68 rfl (fun c_88 => ?_) (fun c_88 => absurd c_88 (by decide +kernel))
      refine lv_aload_n hx hb dX4_readUnit_78 rfl (lv_at hl 1 rfl) ?_
      refine lv_bipush (v := 33) hx hb dX4_readUnit_79 kc_bipush_33 ?_
      obtain ⟨hPc, hDc, hFc, hqc⟩ := cl_cut (wc := (wd_c_X9_take h1 h1_0 h1_f1 x_66 h1_f3 h1_0 h1_0k h1_0c)) hP hD hS hA [0, 1] (by decide +kernel) rfl
      have hKc := hK.sub (tys' := [(h1_0k, .int)]) [0] rfl
      have hrv := va_recv hKc hPc (ci := 9) (q0 := 0) rfl rfl
      refine va_calli (va_runV (As := [.int 33]) (rest := []) ⟨hx, hb, hml, hown, hts⟩ (c_X9_take l dC dI H.size h1 33 h1_0 h1_f1 x_66 h1_f3 h1_0k h1_0c (RG_w (RG_k 33 33 rfl) (by decide +kernel)) (RG_w h_73 (by decide +kernel)) (RG_w h_72 (by decide +kernel)) g_h1_f3 a_h1_0c) (cwV 1 hts gf_c_X4_readUnit_1_c_X9_take rfl rfl rfl mdV_X9_take ⟨Nat.le_of_ble_eq_true rfl, Nat.le_of_ble_eq_true rfl⟩) ⟨fun a U g mk q => by obtain ⟨q0, q1, qP, qK, qD⟩ := q; exact ⟨q0, q1, qP, va_K.moved (u := U) (U := U.calling g mk a) (Vm.Alike.refl U.vm) qK, qD⟩, hrv, fun U hU hW => ⟨rfl, by rw [hU], by rw [hU]; exact hPc, va_K.moved hW.alike hKc, hDc.weaken (fun _ _ _ _ => trivial)⟩⟩ rfl rfl hl.1 rfl (lv_room (Nat.le_of_ble_eq_true rfl)) dX4_readUnit_81 ⟨Nat.le_of_ble_eq_true rfl, Nat.le_of_ble_eq_true rfl⟩) hS (fun q _ h => hFc q h) hFc (fun r_89 x_90 t H1 locs ht hvm hw hB hz1 hk1 hS => ?_)
      obtain ⟨hP1, hK1, hD1⟩ := hB
      rw [ht] at hP1
      obtain ⟨hP, hD⟩ := cl_put (w1 := (wd_c_X9_take h1 h1_0 h1_f1 x_90 h1_f3 h1_0 h1_0k h1_0c)) (nw := (wd_c_X4_readUnit_1 h1 h1_0 h1_f1 x_90 h1_f3 h1_0 h1_0k h1_0c h0 h0_0 h0_f1 h0_2 h0_0 h0_0k h0_0c)) hP hD [0, 1] [4, 5, 2, 3] 4 rfl hqc (by decide +kernel) rfl hk1 hFc hP1 hD1
      generalize H1 = H at hP hS ⊢
      as_aux_lemma =>
      rcases hw with ⟨h_91, h_92, h_93, h_94⟩ | ⟨h_95, h_96, h_97, h_98, h_99, h_100⟩
      · have h_94 : (r_89, x_90) = _ := h_94
        replace hEX := hEX.trans (exc2_eq h_94)
        replace hEX := hEX.trans (if_pos (show r_89 = 0 from h_91))
        rw [h_91]
        refine lv_if_eq (tgt := 105) hx hb dX4_readUnit_84 rfl (fun c_101 => ?_) (fun c_101 => absurd c_101 (by decide +kernel))
        refine lv_aload_n hx hb dX4_readUnit_105 rfl (lv_at hl 1 rfl) ?_
        refine lv_bipush (v := 40) hx hb dX4_readUnit_106 kc_bipush_40 ?_
        obtain ⟨hPc, hDc, hFc, hqc⟩ := cl_cut (wc := (wd_c_X9_expect_1 h1 h1_0 h1_f1 x_90 h1_f3 h1_0 h1_0k h1_0c)) hP hD hS hA [0, 1] (by decide +kernel) rfl
        have hKc := hK.sub (tys' := [(h1_0k, .int)]) [0] rfl
        have hrv := va_recv hKc hPc (ci := 9) (q0 := 0) rfl rfl
        refine va_callv (va_runV (As := [.int 40]) (rest := []) ⟨hx, hb, hml, hown, hts⟩ (c_X9_expect_1 l dC dI H.size h1 40 h1_0 h1_f1 x_90 h1_f3 h1_0k h1_0c (RG_w (RG_k 40 40 rfl) (by decide +kernel)) (RG_w h_73 (by decide +kernel)) h_92 g_h1_f3 a_h1_0c) (cwV 1 hts gf_c_X4_readUnit_1_c_X9_expect_1 rfl rfl rfl mdV_X9_expect ⟨Nat.le_of_ble_eq_true rfl, Nat.le_of_ble_eq_true rfl⟩) ⟨fun a U g mk q => by obtain ⟨q0, q1, qP, qK, qD⟩ := q; exact ⟨q0, q1, qP, va_K.moved (u := U) (U := U.calling g mk a) (Vm.Alike.refl U.vm) qK, qD⟩, hrv, fun U hU hW => ⟨rfl, by rw [hU], by rw [hU]; exact hPc, va_K.moved hW.alike hKc, hDc.weaken (fun _ _ _ _ => trivial)⟩⟩ rfl rfl hl.1 rfl (lv_room (Nat.le_of_ble_eq_true rfl)) dX4_readUnit_108 ⟨Nat.le_of_ble_eq_true rfl, Nat.le_of_ble_eq_true rfl⟩) hS (fun q _ h => hFc q h) hFc (fun u t H1 locs ht hvm hw hB hz1 hk1 hS => ?_)
        obtain ⟨x_103, x_104⟩ := u
        obtain ⟨hP1, hK1, hD1⟩ := hB
        rw [ht] at hP1
        obtain ⟨hP, hD⟩ := cl_put (w1 := (wd_c_X9_expect_1 h1 h1_0 h1_f1 x_103 x_104 h1_0 h1_0k h1_0c)) (nw := (wd_c_X4_readUnit_1 h1 h1_0 h1_f1 x_103 x_104 h1_0 h1_0k h1_0c h0 h0_0 h0_f1 h0_2 h0_0 h0_0k h0_0c)) hP hD [0, 1] [4, 5, 2, 3] 4 rfl hqc (by decide +kernel) rfl hk1 hFc hP1 hD1
        generalize H1 = H at hP hS ⊢
        as_aux_lemma =>
        rcases hw with ⟨h_105, h_106, h_107, h_108⟩
        have h_108 : (x_103, x_104) = _ := h_108
        replace hEX := hEX.trans (exc2_eq h_108)
        refine lv_aload_n hx hb dX4_readUnit_111 rfl (lv_at hl 0 rfl) ?_
        refine lv_aload_n hx hb dX4_readUnit_112 rfl (lv_at hl 1 rfl) ?_
        refine lv_iload_n hx hb dX4_readUnit_113 rfl (lv_at hl 2 rfl) ?_
        refine lv_iconst (v := 1) hx hb dX4_readUnit_114 kc_iconst_1 ?_
        refine lv_iadd hx hb dX4_readUnit_115 ?_
        refine lv_topi (fun x_109 ex_109 => ?_)
        obtain rfl : x_109 = 1 := ex_109.trans (by decide +kernel)
        refine lv_iconst (v := 0) hx hb dX4_readUnit_116 kc_iconst_0 ?_
        obtain ⟨hPc, hDc, hFc, hqc⟩ := cl_cut (wc := (wd_c_X4_readCondition_1 h1 h1_0 h1_f1 x_103 x_104 h1_0 h1_0k h1_0c h0 h0_0 h0_f1 h0_2 h0_0 h0_0k h0_0c)) hP hD hS hA [0, 1, 2, 3] (by decide +kernel) rfl
        have hKc := hK.sub (tys' := [(h1_0k, .int), (h0_0k, .int)]) [0, 1] rfl
        have hrv := va_recv hKc hPc (ci := 4) (q0 := 2) rfl rfl
        refine va_callv (va_runV (As := [.ref h1, .int 1, .int 0]) (rest := []) ⟨hx, hb, hml, hown, hts⟩ (c_X4_readCondition_1 l dC dI H.size h0 h1 h1_0 h1_f1 x_103 x_104 h1_0k h1_0c h0_0 h0_f1 h0_2 h0_0k h0_0c ts4 tv4 (RG_w h_73 (by decide +kernel)) h_105 h_106 a_h1_0c g_h0_f1) (cwV 3 hts gf_c_X4_readUnit_1_c_X4_readCondition_1 rfl rfl rfl mdV_X4_readCondition ⟨Nat.le_of_ble_eq_true rfl, Nat.le_of_ble_eq_true rfl⟩) ⟨fun a U g mk q => by obtain ⟨q0, q1, qP, qK, qD, qE0, qE1, qE2, qE3, qE4, qE5⟩ := q; exact ⟨q0, q1, qP, va_K.moved (u := U) (U := U.calling g mk a) (Vm.Alike.refl U.vm) qK, qD, vk_R.same rfl qE0, va_Z.moved (u := U) (U := U.calling g mk a) (Vm.Alike.refl U.vm) qE1, va_OF.moved (u := U) (U := U.calling g mk a) (Vm.Alike.refl U.vm) qE2, va_O.moved (u := U) (U := U.calling g mk a) (Vm.Alike.refl U.vm) qE3, va_OF.moved (u := U) (U := U.calling g mk a) (Vm.Alike.refl U.vm) qE4, va_T.moved (u := U) (U := U.calling g mk a) (Vm.Alike.refl U.vm) qE5⟩, hrv, fun U hU hW => ⟨rfl, by rw [hU], by rw [hU]; exact hPc, va_K.moved hW.alike hKc, hDc.weaken (fun _ _ _ _ => trivial), vk_R.warm hW hE_32, va_Z.moved hW.alike (by rw [hU]; exact (hE_10.kept hS.2.1).narrow hFc), va_OF.moved hW.alike (by rw [hU]; exact (hE_34.kept hS.2.1).narrow hFc), va_O.moved hW.alike (by rw [hU]; exact (hE_33.kept hS.2.1).narrow hFc), va_OF.moved hW.alike (by rw [hU]; exact (hE_35.kept hS.2.1).narrow hFc), va_T.moved hW.alike (by rw [hU]; exact (hE_36.kept hS.2.1).narrow hFc)⟩⟩ rfl rfl hl.1 rfl (lv_room (Nat.le_of_ble_eq_true rfl)) dX4_readUnit_117 ⟨Nat.le_of_ble_eq_true rfl, Nat.le_of_ble_eq_true rfl⟩) hS (fun q _ h => hFc q h) hFc (fun u t H1 locs ht hvm hw hB hz1 hk1 hS => ?_)
        as_aux_lemma =>
        obtain ⟨x_111, x_112, x_113, w_114⟩ := u
        obtain ⟨hP1, hK1, hD1⟩ := hB
        rw [ht] at hP1
        obtain ⟨hP, hD⟩ := cl_put (w1 := (wd_c_X4_readCondition_1 h1 h1_0 h1_f1 x_111 x_112 h1_0 h1_0k h1_0c h0 h0_0 x_113 h0_2 h0_0 h0_0k w_114)) (nw := (wd_c_X4_readUnit_1 h1 h1_0 h1_f1 x_111 x_112 h1_0 h1_0k h1_0c h0 h0_0 x_113 h0_2 h0_0 h0_0k w_114)) hP hD [0, 1, 2, 3] [4, 5, 6, 7] 4 rfl hqc (by decide +kernel) rfl hk1 hFc hP1 hD1
        generalize H1 = H at hP hS ⊢
        as_aux_lemma =>
        rcases hw with ⟨h_115, h_116, h_117, h_118⟩
        have h_118 : (x_111, x_112, x_113, w_114) = _ := h_118
        replace hEX := hEX.trans (exc4_eq h_118)
        refine lv_aload_n hx hb dX4_readUnit_120 rfl (lv_at hl 1 rfl) ?_
        refine lv_bipush (v := 41) hx hb dX4_readUnit_121 kc_bipush_41 ?_
        obtain ⟨hPc, hDc, hFc, hqc⟩ := cl_cut (wc := (wd_c_X9_expect_1 h1 h1_0 h1_f1 x_111 x_112 h1_0 h1_0k h1_0c)) hP hD hS hA [0, 1] (by decide +kernel) rfl
        have hKc := hK.sub (tys' := [(h1_0k, .int)]) [0] rfl
        have hrv := va_recv hKc hPc (ci := 9) (q0 := 0) rfl rfl
        refine va_callv (va_runV (As := [.int 41]) (rest := []) ⟨hx, hb, hml, hown, hts⟩ (c_X9_expect_1 l dC dI H.size h1 41 h1_0 h1_f1 x_111 x_112 h1_0k h1_0c (RG_w (RG_k 41 41 rfl) (by decide +kernel)) (RG_w h_73 (by decide +kernel)) h_115 h_116 a_h1_0c) (cwV 1 hts gf_c_X4_readUnit_1_c_X9_expect_1 rfl rfl rfl mdV_X9_expect ⟨Nat.le_of_ble_eq_true rfl, Nat.le_of_ble_eq_true rfl⟩) ⟨fun a U g mk q => by obtain ⟨q0, q1, qP, qK, qD⟩ := q; exact ⟨q0, q1, qP, va_K.moved (u := U) (U := U.calling g mk a) (Vm.Alike.refl U.vm) qK, qD⟩, hrv, fun U hU hW => ⟨rfl, by rw [hU], by rw [hU]; exact hPc, va_K.moved hW.alike hKc, hDc.weaken (fun _ _ _ _ => trivial)⟩⟩ rfl rfl hl.1 rfl (lv_room (Nat.le_of_ble_eq_true rfl)) dX4_readUnit_123 ⟨Nat.le_of_ble_eq_true rfl, Nat.le_of_ble_eq_true rfl⟩) hS (fun q _ h => hFc q h) hFc (fun u t H1 locs ht hvm hw hB hz1 hk1 hS => ?_)
        obtain ⟨x_120, x_121⟩ := u
        obtain ⟨hP1, hK1, hD1⟩ := hB
        rw [ht] at hP1
        obtain ⟨hP, hD⟩ := cl_put (w1 := (wd_c_X9_expect_1 h1 h1_0 h1_f1 x_120 x_121 h1_0 h1_0k h1_0c)) (nw := (wd_c_X4_readUnit_1 h1 h1_0 h1_f1 x_120 x_121 h1_0 h1_0k h1_0c h0 h0_0 x_113 h0_2 h0_0 h0_0k w_114)) hP hD [0, 1] [4, 5, 2, 3] 4 rfl hqc (by decide +kernel) rfl hk1 hFc hP1 hD1
        generalize H1 = H at hP hS ⊢
        as_aux_lemma =>
        rcases hw with ⟨h_122, h_123, h_124, h_125⟩
        have h_125 : (x_120, x_121) = _ := h_125
        replace hEX := hEX.trans (exc2_eq h_125)
        have hK9 := hK.sub (tys' := []) [] rfl
        exact W.vret hx hb hr (fun t ht hW => ⟨⟨(x_120, x_121, x_113, w_114), rfl, ⟨h_122, h_123, h_117, (hR.trans hEX).symm⟩, by rw [ht]; exact hP, va_K.moved hW.alike hK9, hD⟩, hS.F ht⟩) hS.2.2 dX4_readUnit_126
      · have h_100 : (r_89, x_90) = _ := h_100
        replace hEX := hEX.trans (exc2_eq h_100)
        replace hEX := hEX.trans (if_neg (fun q9 : r_89 = 0 => absurd ((show r_89 = 1 from h_95).symm.trans q9) (by decide +kernel)))
        rw [h_95]
        refine lv_if_eq (tgt := 105) hx hb dX4_readUnit_84 rfl (fun c_126 => absurd c_126 (by decide +kernel)) (fun c_126 => ?_)
        refine lv_aload_n hx hb dX4_readUnit_87 rfl (lv_at hl 0 rfl) ?_
        refine lv_aload_n hx hb dX4_readUnit_88 rfl (lv_at hl 1 rfl) ?_
        refine lv_iload_n hx hb dX4_readUnit_89 rfl (lv_at hl 2 rfl) ?_
        refine lv_iconst (v := 1) hx hb dX4_readUnit_90 kc_iconst_1 ?_
        as_aux_lemma =>
        refine lv_iadd hx hb dX4_readUnit_91 ?_
        refine lv_topi (fun x_127 ex_127 => ?_)
        obtain rfl : x_127 = 1 := ex_127.trans (by decide +kernel)
        refine lv_iconst (v := 0) hx hb dX4_readUnit_92 kc_iconst_0 ?_
        obtain ⟨hPc, hDc, hFc, hqc⟩ := cl_cut (wc := (wd_c_X4_readUnit_2 h1 h1_0 h1_f1 x_90 h1_f3 h1_0 h1_0k h1_0c h0 h0_0 h0_f1 h0_2 h0_0 h0_0k h0_0c)) hP hD hS hA [0, 1, 2, 3] (by decide +kernel) rfl
        have hKc := hK.sub (tys' := [(h1_0k, .int), (h0_0k, .int)]) [0, 1] rfl
        have hrv := va_recv hKc hPc (ci := 4) (q0 := 2) rfl rfl
        refine va_callv (va_runV (As := [.ref h1, .int 1, .int 0]) (rest := []) ⟨hx, hb, hml, hown, hts⟩ (c_X4_readUnit_2 l dC dI H.size h0 h1 h1_0 h1_f1 x_90 h1_f3 h1_0k h1_0c h0_0 h0_f1 h0_2 h0_0k h0_0c ts4 tv4 (RG_w h_73 (by decide +kernel)) (RG_w h_96 (by decide +kernel)) (RG_w h_98 (by decide +kernel)) a_h1_0c g_h0_f1) (cwV 3 hts gf_c_X4_readUnit_1_c_X4_readUnit_2 rfl rfl rfl mdV_X4_readUnit ⟨Nat.le_of_ble_eq_true rfl, Nat.le_of_ble_eq_true rfl⟩) ⟨fun a U g mk q => by obtain ⟨q0, q1, qP, qK, qD, qE0, qE1, qE2, qE3, qE4, qE5⟩ := q; exact ⟨q0, q1, qP, va_K.moved (u := U) (U := U.calling g mk a) (Vm.Alike.refl U.vm) qK, qD, vk_R.same rfl qE0, va_Z.moved (u := U) (U := U.calling g mk a) (Vm.Alike.refl U.vm) qE1, va_OF.moved (u := U) (U := U.calling g mk a) (Vm.Alike.refl U.vm) qE2, va_O.moved (u := U) (U := U.calling g mk a) (Vm.Alike.refl U.vm) qE3, va_OF.moved (u := U) (U := U.calling g mk a) (Vm.Alike.refl U.vm) qE4, va_T.moved (u := U) (U := U.calling g mk a) (Vm.Alike.refl U.vm) qE5⟩, hrv, fun U hU hW => ⟨rfl, by rw [hU], by rw [hU]; exact hPc, va_K.moved hW.alike hKc, hDc.weaken (fun _ _ _ _ => trivial), vk_R.warm hW hE_32, va_Z.moved hW.alike (by rw [hU]; exact (hE_10.kept hS.2.1).narrow hFc), va_OF.moved hW.alike (by rw [hU]; exact (hE_34.kept hS.2.1).narrow hFc), va_O.moved hW.alike (by rw [hU]; exact (hE_33.kept hS.2.1).narrow hFc), va_OF.moved hW.alike (by rw [hU]; exact (hE_35.kept hS.2.1).narrow hFc), va_T.moved hW.alike (by rw [hU]; exact (hE_36.kept hS.2.1).narrow hFc)⟩⟩ rfl rfl hl.1 rfl (lv_room (Nat.le_of_ble_eq_true rfl)) dX4_readUnit_93 ⟨Nat.le_of_ble_eq_true rfl, Nat.le_of_ble_eq_true rfl⟩) hS (fun q _ h => hFc q h) hFc (fun u t H1 locs ht hvm hw hB hz1 hk1 hS => ?_)
        obtain ⟨x_129, x_130, x_131, w_132⟩ := u
        obtain ⟨hP1, hK1, hD1⟩ := hB
        rw [ht] at hP1
        obtain ⟨hP, hD⟩ := cl_put (w1 := (wd_c_X4_readUnit_2 h1 h1_0 h1_f1 x_129 x_130 h1_0 h1_0k h1_0c h0 h0_0 x_131 h0_2 h0_0 h0_0k w_132)) (nw := (wd_c_X4_readUnit_1 h1 h1_0 h1_f1 x_129 x_130 h1_0 h1_0k h1_0c h0 h0_0 x_131 h0_2 h0_0 h0_0k w_132)) hP hD [0, 1, 2, 3] [4, 5, 6, 7] 4 rfl hqc (by decide +kernel) rfl hk1 hFc hP1 hD1
        generalize H1 = H at hP hS ⊢
        as_aux_lemma =>
        rcases hw with ⟨h_133, h_134, h_135, h_136⟩
        have h_136 : (x_129, x_130, x_131, w_132) = _ := h_136
        replace hEX := hEX.trans (exc4_eq h_136)
        refine lv_aload_n hx hb dX4_readUnit_96 rfl (lv_at hl 0 rfl) ?_
        refine lv_bipush (v := (-33)) hx hb dX4_readUnit_97 kc_bipush_m33 ?_
        obtain ⟨hPc, hDc, hFc, hqc⟩ := cl_cut (wc := (wd_c_X4_emit h0 h0_0 x_131 h0_2 h0_0 h0_0k w_132)) hP hD hS hA [2, 3] (by decide +kernel) rfl
        have hKc := hK.sub (tys' := [(h0_0k, .int)]) [1] rfl
        have hrv := va_recv hKc hPc (ci := 4) (q0 := 0) rfl rfl
        refine va_callv (va_runV (As := [.int (-33)]) (rest := []) ⟨hx, hb, hml, hown, hts⟩ (c_X4_emit l dC dI H.size h0 (-33) h0_0 x_131 h0_2 h0_0k w_132 h_135) (cwV 1 hts gf_c_X4_readUnit_1_c_X4_emit rfl rfl rfl mdV_X4_emit ⟨Nat.le_of_ble_eq_true rfl, Nat.le_of_ble_eq_true rfl⟩) ⟨fun a U g mk q => by obtain ⟨q0, q1, qP, qK, qD⟩ := q; exact ⟨q0, q1, qP, va_K.moved (u := U) (U := U.calling g mk a) (Vm.Alike.refl U.vm) qK, qD⟩, hrv, fun U hU hW => ⟨rfl, by rw [hU], by rw [hU]; exact hPc, va_K.moved hW.alike hKc, hDc.weaken (fun _ _ _ _ => trivial)⟩⟩ rfl rfl hl.1 rfl (lv_room (Nat.le_of_ble_eq_true rfl)) dX4_readUnit_99 ⟨Nat.le_of_ble_eq_true rfl, Nat.le_of_ble_eq_true rfl⟩) hS (fun q _ h => hFc q h) hFc (fun u t H1 locs ht hvm hw hB hz1 hk1 hS => ?_)
        obtain ⟨x_138, w_139⟩ := u
        obtain ⟨hP1, hK1, hD1⟩ := hB
        rw [ht] at hP1
        obtain ⟨hP, hD⟩ := cl_put (w1 := (wd_c_X4_emit h0 h0_0 x_138 h0_2 h0_0 h0_0k w_139)) (nw := (wd_c_X4_readUnit_1 h1 h1_0 h1_f1 x_129 x_130 h1_0 h1_0k h1_0c h0 h0_0 x_138 h0_2 h0_0 h0_0k w_139)) hP hD [2, 3] [0, 1, 4, 5] 4 rfl hqc (by decide +kernel) rfl hk1 hFc hP1 hD1
        generalize H1 = H at hP hS ⊢
        as_aux_lemma =>
        rcases hw with ⟨h_140, h_141⟩
        have h_141 : (x_138, w_139) = _ := h_141
        replace hEX := hEX.trans (exc2_eq h_141)
        refine lv_goto (tgt := 126) hx hb dX4_readUnit_102 rfl ?_
        have hK9 := hK.sub (tys' := []) [] rfl
        exact W.vret hx hb hr (fun t ht hW => ⟨⟨(x_129, x_130, x_138, w_139), rfl, ⟨h_133, h_134, (RG_w h_140 (by decide +kernel)), (hR.trans hEX).symm⟩, by rw [ht]; exact hP, va_K.moved hW.alike hK9, hD⟩, hS.F ht⟩) hS.2.2 dX4_readUnit_126
noncomputable def wd_c_X4_readCondition (a0 : Nat) (a1 : Nat) (a2 : Int32) (a3 : Int32) (a4 : Int32) (a5 : Nat) (a6 : ClassId) (a7 : Nat → Int32) (a8 : Nat) (a9 : Nat) (a10 : Int32) (a11 : Nat) (a12 : Nat) (a13 : ClassId) (a14 : Nat → Int32) : va_W := [(a0, .inr (9, [.ref a1, .int a2, .int a3, .int a4])), (a5, .inl (a6, 240, .inl a7)), (a8, .inr (4, [.ref a9, .int a10, .ref a11])), (a12, .inl (a13, 240, .inl a14))]
noncomputable def wf_c_X4_readCondition : List Cond := List.cons (.code yX4_readCondition cX4_readCondition 7 none) (@HAppend.hAppend (List Cond) (List Cond) (List Cond) _ (@HAppend.hAppend (List Cond) (List Cond) (List Cond) _ [.methodLink RX4 72 yX9_isRight, .instanceMethod yX9_isRight, .selects RX9 yX9_isRight yX9_isRight, .initialized RX9, .code yX9_isRight cX9_isRight 1 (some .boolean), .fieldLink RX9 15 "BuoyVote$Tape" "wrong" "I", .methodLink RX4 76 yX4_readUnit, .instanceMethod yX4_readUnit, .selects RX4 yX4_readUnit yX4_readUnit, .initialized RX4, .code yX4_readUnit cX4_readUnit 5 none, .methodLink RX4 41 yX9_peek, .instanceMethod yX9_peek, .selects RX9 yX9_peek yX9_peek, .code yX9_peek cX9_peek 1 (some .int), .fieldLink RX9 22 "BuoyVote$Tape" "at" "I", .fieldLink RX9 19 "BuoyVote$Tape" "length" "I", .fieldLink RX9 11 "BuoyVote$Tape" "bytes" "[I", .methodLink RX4 53 yX4_isComparison, .static yX4_isComparison, .code yX4_isComparison cX4_isComparison 1 (some .boolean), .methodLink RX4 82 yX9_refuseHere, .instanceMethod yX9_refuseHere, .selects RX9 yX9_refuseHere yX9_refuseHere, .code yX9_refuseHere cX9_refuseHere 1 none, .methodLink RX9 25 yX9_refuse, .instanceMethod yX9_refuse, .selects RX9 yX9_refuse yX9_refuse, .code yX9_refuse cX9_refuse 2 none, .methodLink RX4 79 yX9_skip, .instanceMethod yX9_skip, .selects RX9 yX9_skip yX9_skip, .code yX9_skip cX9_skip 1 none, .methodLink RX4 49 yX4_readSum, .instanceMethod yX4_readSum, .selects RX4 yX4_readSum yX4_readSum, .code yX4_readSum cX4_readSum 6 none, .methodLink RX4 85 yX4_readAtom, .instanceMethod yX4_readAtom, .selects RX4 yX4_readAtom yX4_readAtom, .code yX4_readAtom cX4_readAtom 6 none, .methodLink RX4 93 yJ0_indexOf_0f7a4, .instanceMethod yJ0_indexOf_0f7a4, .selects RJ0 yJ0_indexOf_0f7a4 yJ0_indexOf_0f7a4, .initialized RJ0, .code yJ0_indexOf_0f7a4 cJ0_indexOf_0f7a4 2 (some .int), .methodLink RJ0 633 yJ0_indexOf_7cf53, .instanceMethod yJ0_indexOf_7cf53, .selects RJ0 yJ0_indexOf_7cf53 yJ0_indexOf_7cf53, .code yJ0_indexOf_7cf53 cJ0_indexOf_7cf53 3 (some .int), .methodLink RJ0 492 yJ0_isLatin1_aae02, .instanceMethod yJ0_isLatin1_aae02, .selects RJ0 yJ0_isLatin1_aae02 yJ0_isLatin1_aae02, .code yJ0_isLatin1_aae02 cJ0_isLatin1_aae02 1 (some .boolean), .fieldLink RJ0 38 "java/lang/String" "COMPACT_STRINGS" "Z", .fieldLink RJ0 15 "java/lang/String" "coder" "B", .fieldLink RJ0 9 "java/lang/String" "value" "[B", .methodLink RJ0 505 yJ0_length_8abf5, .instanceMethod yJ0_length_8abf5, .selects RJ0 yJ0_length_8abf5 yJ0_length_8abf5, .code yJ0_length_8abf5 cJ0_length_8abf5 1 (some .int), .methodLink RJ0 335 yJ0_coder_7d493, .instanceMethod yJ0_coder_7d493, .selects RJ0 yJ0_coder_7d493 yJ0_coder_7d493, .code yJ0_coder_7d493 cJ0_coder_7d493 1 (some .byte), .methodLink RJ0 637 yJ1_indexOf_4cfef, .static yJ1_indexOf_4cfef, .initialized RJ1, .code yJ1_indexOf_4cfef cJ1_indexOf_4cfef 4 (some .int), .methodLink RJ1 88 yJ1_canEncode_9a6ad, .static yJ1_canEncode_9a6ad, .code yJ1_canEncode_9a6ad cJ1_canEncode_9a6ad 1 (some .boolean), .methodLink RJ1 92 Lib.Math.max.name, .static Lib.Math.max.name, .initialized "java/lang/Math", .code Lib.Math.max.name Lib.Math.max.code 2 (some .int), .methodLink RJ1 38 Lib.Math.min.name, .static Lib.Math.min.name, .code Lib.Math.min.name Lib.Math.min.code 2 (some .int), .methodLink RJ1 95 yJ1_indexOfChar_4cfef, .static yJ1_indexOfChar_4cfef, .code yJ1_indexOfChar_4cfef cJ1_indexOfChar_4cfef 6 (some .int), .methodLink RX4 99 yX9_number, .instanceMethod yX9_number, .selects RX9 yX9_number yX9_number, .code yX9_number cX9_number 4 (some .int), .methodLink RX4 60 yX4_emit, .instanceMethod yX4_emit, .selects RX4 yX4_emit yX4_emit, .code yX4_emit cX4_emit 2 none, .fieldLink RX4 20 "BuoyVote$Law" "length" "I", .fieldLink RX4 11 "BuoyVote$Law" "code" "[I", .methodLink RX4 88 yX9_takeEither, .instanceMethod yX9_takeEither, .selects RX9 yX9_takeEither yX9_takeEither, .code yX9_takeEither cX9_takeEither 4 (some .int), .methodLink RX9 29 yX9_peek, .methodLink RX4 37 yX9_expect, .instanceMethod yX9_expect, .selects RX9 yX9_expect yX9_expect, .code yX9_expect cX9_expect 2 none, .methodLink RX4 45 yX4_startsUnit, .static yX4_startsUnit, .code yX4_startsUnit cX4_startsUnit 1 (some .boolean), .methodLink RX4 63 yX9_take, .instanceMethod yX9_take, .selects RX9 yX9_take yX9_take, .code yX9_take cX9_take 2 (some .boolean), .methodLink RX4 56 yX4_readCondition, .instanceMethod yX4_readCondition, .selects RX4 yX4_readCondition yX4_readCondition] wsX90) wsX40)
theorem iw_c_X4_readCondition_X9 : ∀ w ∈ wsX90, w ∈ wf_c_X4_readCondition := fun w h => List.mem_cons_of_mem _ (List.mem_append_left _ (List.mem_append_right _ h))
theorem iw_c_X4_readCondition_X4 : ∀ w ∈ wsX40, w ∈ wf_c_X4_readCondition := fun w h => List.mem_cons_of_mem _ (List.mem_append_right _ h)
set_option maxRecDepth 20000 in
theorem gf_c_X4_readCondition_c_X9_take_1 : GoodIn wf_c_X4_readCondition (wsV RX4 63 RX9 yX9_take wf_c_X9_take_1) := goodIn_app (gi_l [105, 106, 107, 4] rfl rfl) (gi_cons (j := 108) rfl rfl (goodIn_app (gi_l [6, 97, 13, 14, 4, 15, 16, 17, 18] rfl rfl) (goodIn_sub iw_c_X4_readCondition_X9 gw_X9)))
set_option maxRecDepth 20000 in
theorem gf_c_X4_readCondition_c_X9_take : GoodIn wf_c_X4_readCondition (wsV RX4 63 RX9 yX9_take wf_c_X9_take) := goodIn_app (gi_l [105, 106, 107, 4] rfl rfl) (gi_cons (j := 108) rfl rfl (goodIn_app (gi_l [6, 97, 13, 14, 4, 15, 16, 17, 18] rfl rfl) (goodIn_sub iw_c_X4_readCondition_X9 gw_X9)))
set_option maxRecDepth 20000 in
theorem gf_c_X4_readCondition_c_X4_emit : GoodIn wf_c_X4_readCondition (wsV RX4 60 RX4 yX4_emit wf_c_X4_emit) := goodIn_app (gi_l [87, 88, 89, 10] rfl rfl) (gi_cons (j := 90) rfl rfl (goodIn_app (gi_l [91, 92] rfl rfl) (goodIn_sub iw_c_X4_readCondition_X4 gw_X4)))
set_option maxRecDepth 20000 in
theorem gf_c_X4_readCondition_c_X4_readUnit_1 : GoodIn wf_c_X4_readCondition (wsV RX4 76 RX4 yX4_readUnit wf_c_X4_readUnit_1) := goodIn_app (gi_l [7, 8, 9, 10] rfl rfl) (gi_cons (j := 11) rfl rfl (goodIn_app (goodIn_app (gi_l [12, 13, 14, 4, 15, 16, 17, 18, 102, 103, 10, 104, 105, 106, 107, 108, 6, 97, 98, 99, 100, 101, 26, 27, 28, 29, 109, 110, 111, 0, 1, 2, 3, 5, 7, 8, 9, 22, 23, 24, 25, 34, 35, 36, 37, 38, 39, 40, 41, 42, 43, 44, 45, 46, 47, 48, 49, 50, 51, 52, 53, 54, 55, 56, 57, 58, 59, 60, 61, 62, 63, 64, 65, 66, 67, 68, 69, 70, 71, 72, 73, 74, 75, 76, 77, 78, 79, 80, 81, 82, 83, 84, 85, 86, 30, 31, 32, 33, 87, 88, 89, 90, 91, 92, 93, 94, 95, 96, 19, 20, 21] rfl rfl) (goodIn_sub iw_c_X4_readCondition_X9 gw_X9)) (goodIn_sub iw_c_X4_readCondition_X4 gw_X4)))
set_option maxRecDepth 20000 in
theorem gf_c_X4_readCondition_c_X4_readUnit : GoodIn wf_c_X4_readCondition (wsV RX4 76 RX4 yX4_readUnit wf_c_X4_readUnit) := goodIn_app (gi_l [7, 8, 9, 10] rfl rfl) (gi_cons (j := 11) rfl rfl (goodIn_app (goodIn_app (gi_l [12, 13, 14, 4, 15, 16, 17, 18, 19, 20, 10, 21, 22, 23, 24, 25, 26, 27, 28, 29, 6, 30, 31, 32, 33, 34, 35, 36, 37, 1, 2, 3, 5, 38, 39, 40, 41, 42, 43, 44, 45, 46, 47, 48, 49, 50, 51, 52, 53, 54, 55, 56, 57, 58, 59, 60, 61, 62, 63, 64, 65, 66, 67, 68, 69, 70, 71, 72, 73, 74, 75, 76, 77, 78, 79, 80, 81, 82, 83, 84, 85, 86, 87, 88, 89, 90, 91, 92, 93, 94, 95, 96, 97, 98, 99, 100, 101] rfl rfl) (goodIn_sub iw_c_X4_readCondition_X9 gw_X9)) (goodIn_sub iw_c_X4_readCondition_X4 gw_X4)))
set_option maxRecDepth 20000 in
theorem gf_c_X4_readCondition_c_X9_isRight : GoodIn wf_c_X4_readCondition (wsV RX4 72 RX9 yX9_isRight wf_c_X9_isRight) := goodIn_app (gi_l [1, 2, 3, 4] rfl rfl) (gi_cons (j := 5) rfl rfl (goodIn_app (gi_l [6] rfl rfl) (goodIn_sub iw_c_X4_readCondition_X9 gw_X9)))
set_option maxHeartbeats 4000000 in
set_option maxRecDepth 100000 in
theorem c_X4_readCondition (l : Launch) (dC : Nat → ClassId) (dI : Nat → Nat → Nat) (sz : Nat) (h0 : Nat) (h1 : Nat) (p3 : Int32) (h1_0 : Nat) (h1_f1 : Int32) (h1_f2 : Int32) (h1_f3 : Int32) (h1_0k : ClassId) (h1_0c : Nat → Int32) (h0_0 : Nat) (h0_f1 : Int32) (h0_2 : Nat) (h0_0k : ClassId) (h0_0c : Nat → Int32) (ts4 : Nat) (tv4 : Nat) (g_p3 : RG p3 0 1) (g_h1_f1 : RG h1_f1 0 240) (g_h1_f2 : RG h1_f2 0 240) (g_h1_f3 : RG h1_f3 (-1) 240) (a_h1_0c : AI h1_0c 0 255) (g_h0_f1 : RG h0_f1 0 240) : Met l yX4_readCondition wf_c_X4_readCondition ({ frames := 19, cells := 0, slots := 0, locals := 465 }) (va_Pc [.ref h0, .ref h1, .int 0, .int p3] (fun U => U.heap.size = sz ∧ va_P (dC, dI) vwCl (wd_c_X4_readCondition h1 h1_0 h1_f1 h1_f2 h1_f3 h1_0 h1_0k h1_0c h0 h0_0 h0_f1 h0_2 h0_0 h0_0k h0_0c) U.heap ∧ va_K (dC, dI) vwCl [(h1_0k, .int), (h0_0k, .int)] U ∧ va_D (fun _ => True) (wd_c_X4_readCondition h1 h1_0 h1_f1 h1_f2 h1_f3 h1_0 h1_0k h1_0c h0 h0_0 h0_f1 h0_2 h0_0 h0_0k h0_0c) ∧ vk_R RX4 91 "vlrdph" ts4 U ∧ va_Z "java/lang/String" "COMPACT_STRINGS" "Z" (.int 1) (va_A (wd_c_X4_readCondition h1 h1_0 h1_f1 h1_f2 h1_f3 h1_0 h1_0k h1_0c h0 h0_0 h0_f1 h0_2 h0_0 h0_0k h0_0c) sz) U U.heap ∧ va_OF "java/lang/String" "coder" "B" (.int 0) ts4 (va_A (wd_c_X4_readCondition h1 h1_0 h1_f1 h1_f2 h1_f3 h1_0 h1_0k h1_0c h0 h0_0 h0_f1 h0_2 h0_0 h0_0k h0_0c) sz) U U.heap ∧ va_O "java/lang/String" ts4 (va_A (wd_c_X4_readCondition h1 h1_0 h1_f1 h1_f2 h1_f3 h1_0 h1_0k h1_0c h0 h0_0 h0_f1 h0_2 h0_0 h0_0k h0_0c) sz) U U.heap ∧ va_OF "java/lang/String" "value" "[B" (.ref tv4) ts4 (va_A (wd_c_X4_readCondition h1 h1_0 h1_f1 h1_f2 h1_f3 h1_0 h1_0k h1_0c h0 h0_0 h0_f1 h0_2 h0_0 h0_0k h0_0c) sz) U U.heap ∧ va_T .byte tv4 6 (fun j => .int ([118, 108, 114, 100, 112, 104].getD j 0)) (va_A (wd_c_X4_readCondition h1 h1_0 h1_f1 h1_f2 h1_f3 h1_0 h1_0k h1_0c h0 h0_0 h0_f1 h0_2 h0_0 h0_0k h0_0c) sz) U U.heap)) (va_Qv (fun (u : (Int32) × (Int32) × (Int32) × (Nat → Int32)) => (RG u.1 0 240 ∧ RG u.2.1 (-1) 240 ∧ RG u.2.2.1 0 240 ∧ (u.1, u.2.1, u.2.2.1, u.2.2.2) = fx_c_X4_readCondition p3 h1_f1 h1_f2 h1_f3 h1_0c h0_f1 h0_0c)) (fun (u : (Int32) × (Int32) × (Int32) × (Nat → Int32)) t => va_P (dC, dI) vwCl (wd_c_X4_readCondition h1 h1_0 h1_f1 (u.1) (u.2.1) h1_0 h1_0k h1_0c h0 h0_0 (u.2.2.1) h0_2 h0_0 h0_0k (u.2.2.2)) t.heap ∧ va_K (dC, dI) vwCl [] t ∧ va_D (va_A (wd_c_X4_readCondition h1 h1_0 h1_f1 h1_f2 h1_f3 h1_0 h1_0k h1_0c h0 h0_0 h0_f1 h0_2 h0_0 h0_0k h0_0c) sz) (wd_c_X4_readCondition h1 h1_0 h1_f1 (u.1) (u.2.1) h1_0 h1_0k h1_0c h0 h0_0 (u.2.2.1) h0_2 h0_0 h0_0k (u.2.2.2))) (va_A (wd_c_X4_readCondition h1 h1_0 h1_f1 h1_f2 h1_f3 h1_0 h1_0k h1_0c h0 h0_0 h0_f1 h0_2 h0_0 h0_0k h0_0c) sz)) 0 0 (va_A (wd_c_X4_readCondition h1 h1_0 h1_f1 h1_f2 h1_f3 h1_0 h1_0k h1_0c h0 h0_0 h0_f1 h0_2 h0_0 h0_0k h0_0c) sz) := by
  refine Met.ofW (cc := cX4_readCondition) (maxL := 7) (ret := none) (by decide +kernel) rfl ?_
  intro p e s m args below meth c s₁ B hml hv
  obtain ⟨rfl, hsz, hP, hK, hD0, hE_32, hE_10, hE_34, hE_33, hE_35, hE_36⟩ := hv
  have hx := B.exec
  have hb := B.bytes
  have hr := B.returns
  have hts := atoms_spec (ws := wf_c_X4_readCondition) B.pre
  have hown : s.vm.findClass RX4 = some m.cls := findClass_of_methodNamed B.named
  have hlocks := B.notSynchronized
  subst hsz
  have hD := hD0.self (sz := s.heap.size)
  generalize hAe : va_A (wd_c_X4_readCondition h1 h1_0 h1_f1 h1_f2 h1_f3 h1_0 h1_0k h1_0c h0 h0_0 h0_f1 h0_2 h0_0 h0_0k h0_0c) s.heap.size = A at hD hE_10 hE_34 hE_33 hE_35 hE_36 ⊢
  have hA : ∀ q : Nat, s.heap.size ≤ q → A q := fun q h => by rw [← hAe]; exact Or.inr h
  have hP : va_P (dC, dI) vwCl (wd_c_X4_readCondition h1 h1_0 h1_f1 h1_f2 h1_f3 h1_0 h1_0k h1_0c h0 h0_0 h0_f1 h0_2 h0_0 h0_0k h0_0c) s.heap := hP
  have hl := lv_entry ([.ref h0, .ref h1, .int 0, .int p3]) (n := 7) (Nat.le_of_ble_eq_true rfl)
  rw [lg_entry_eq]
  generalize (lg_sl ([.ref h0, .ref h1, .int 0, .int p3]) ++ List.replicate (7 - (lg_sl ([.ref h0, .ref h1, .int 0, .int p3])).length) Slot.unset).toArray = ls at hl ⊢
  have hl : lv_has ls 7 [(0, .ref h0), (1, .ref h1), (2, .int 0), (3, .int p3)] := hl
  obtain ⟨H, hHe⟩ : ∃ H : Heap, s.heap = H := ⟨_, rfl⟩
  have hS : va_S A s.heap H [] := by rw [hHe]; exact va_S.rf
  have hP : va_P (dC, dI) vwCl (wd_c_X4_readCondition h1 h1_0 h1_f1 h1_f2 h1_f3 h1_0 h1_0k h1_0c h0 h0_0 h0_f1 h0_2 h0_0 h0_0k h0_0c) H := by rw [← hHe]; exact hP
  rw [hHe]
  obtain ⟨RES, hR⟩ : ∃ z, fx_c_X4_readCondition p3 h1_f1 h1_f2 h1_f3 h1_0c h0_f1 h0_0c = z := ⟨_, rfl⟩
  have hEX : RES = fx_c_X4_readCondition p3 h1_f1 h1_f2 h1_f3 h1_0c h0_f1 h0_0c := hR.symm
  refine wj (fun G hG hU => ?_)
  as_aux_lemma =>
  have J9 : ∀ (n9 : Nat) (j9_l6 : Int32) (j9_l5 : Int32) (j9_l4 : Int32) (j9_h1_f2 : Int32) (j9_h1_f3 : Int32) (j9_h0_f1 : Int32) (j9_h0_0c : Nat → Int32) (hM9 : MU j9_l6 < n9) (g_h0_f1 : RG h0_f1 0 240) (g_h1_f1 : RG h1_f1 0 240) (g_h1_f2 : RG h1_f2 0 240) (g_h1_f3 : RG h1_f3 (-1) 240) (g_j9_h0_f1 : RG j9_h0_f1 0 240) (g_j9_h1_f2 : RG j9_h1_f2 0 240) (g_j9_h1_f3 : RG j9_h1_f3 (-1) 240) (g_j9_l4 : RG j9_l4 0 1) (g_j9_l5 : RG j9_l5 0 1) (g_j9_l6 : RG j9_l6 0 240) (g_p3 : RG p3 0 1) (hEX : RES = fx_c_X4_readCondition_p9 p3 h1_f1 h1_0c n9 j9_l6 j9_l5 j9_l4 j9_h1_f2 j9_h1_f3 j9_h0_f1 j9_h0_0c) (H : Heap) (locs : List Loc) (ls : Array Slot) (hP : va_P (dC, dI) vwCl (wd_c_X4_readCondition h1 h1_0 h1_f1 j9_h1_f2 j9_h1_f3 h1_0 h1_0k h1_0c h0 h0_0 j9_h0_f1 h0_2 h0_0 h0_0k j9_h0_0c) H) (hD : va_D A (wd_c_X4_readCondition h1 h1_0 h1_f1 j9_h1_f2 j9_h1_f3 h1_0 h1_0k h1_0c h0 h0_0 j9_h0_f1 h0_2 h0_0 h0_0k j9_h0_0c)) (hS : va_S A s.heap H locs) (hl : lv_has ls 7 [(6, .int j9_l6), (5, .int j9_l5), (4, .int j9_l4), (0, .ref h0), (1, .ref h1), (2, .int 0), (3, .int p3)]), G H locs (F0 m 9 ls []) := by
    as_aux_lemma =>
    intro n9
    induction n9 with
    | zero => intros; exact absurd (by assumption) (Nat.not_lt_zero _)
    | succ n9 ih9 =>
      intro j9_l6 j9_l5 j9_l4 j9_h1_f2 j9_h1_f3 j9_h0_f1 j9_h0_0c hM9 g_h0_f1 g_h1_f1 g_h1_f2 g_h1_f3 g_j9_h0_f1 g_j9_h1_f2 g_j9_h1_f3 g_j9_l4 g_j9_l5 g_j9_l6 g_p3 hEX H locs ls hP hD hS hl
      have J93 : ∀ (j93_l4 : Int32) (j93_l5 : Int32) (j93_h1_f2 : Int32) (j93_h1_f3 : Int32) (j93_h0_f1 : Int32) (j93_h0_0c : Nat → Int32) (g_h0_f1 : RG h0_f1 0 240) (g_h1_f1 : RG h1_f1 1 240) (g_h1_f2 : RG h1_f2 0 240) (g_h1_f3 : RG h1_f3 (-1) 240) (g_j93_h0_f1 : RG j93_h0_f1 0 240) (g_j93_h1_f2 : RG j93_h1_f2 1 240) (g_j93_h1_f3 : RG j93_h1_f3 (-1) (-1)) (g_j93_l4 : RG j93_l4 0 1) (g_j93_l5 : RG j93_l5 0 1) (g_j9_h0_f1 : RG j9_h0_f1 0 240) (g_j9_h1_f2 : RG j9_h1_f2 0 240) (g_j9_h1_f3 : RG j9_h1_f3 (-1) (-1)) (g_j9_l4 : RG j9_l4 0 1) (g_j9_l5 : RG j9_l5 0 1) (g_j9_l6 : RG j9_l6 0 239) (g_p3 : RG p3 0 1) (hEX : RES = fx_c_X4_readCondition_p93 j9_l6 (fx_c_X4_readCondition_p9 p3 h1_f1 h1_0c n9) j93_l4 j93_l5 j93_h1_f2 j93_h1_f3 j93_h0_f1 j93_h0_0c) (H : Heap) (locs : List Loc) (ls : Array Slot) (hP : va_P (dC, dI) vwCl (wd_c_X4_readCondition h1 h1_0 h1_f1 j93_h1_f2 j93_h1_f3 h1_0 h1_0k h1_0c h0 h0_0 j93_h0_f1 h0_2 h0_0 h0_0k j93_h0_0c) H) (hD : va_D A (wd_c_X4_readCondition h1 h1_0 h1_f1 j93_h1_f2 j93_h1_f3 h1_0 h1_0k h1_0c h0 h0_0 j93_h0_f1 h0_2 h0_0 h0_0k j93_h0_0c)) (hS : va_S A s.heap H locs) (hl : lv_has ls 7 [(4, .int j93_l4), (6, .int j9_l6), (5, .int j93_l5), (0, .ref h0), (1, .ref h1), (2, .int 0), (3, .int p3)]), G H locs (F0 m 93 ls []) := by
        as_aux_lemma =>
        intro j93_l4 j93_l5 j93_h1_f2 j93_h1_f3 j93_h0_f1 j93_h0_0c g_h0_f1 g_h1_f1 g_h1_f2 g_h1_f3 g_j93_h0_f1 g_j93_h1_f2 g_j93_h1_f3 g_j93_l4 g_j93_l5 g_j9_h0_f1 g_j9_h1_f2 g_j9_h1_f3 g_j9_l4 g_j9_l5 g_j9_l6 g_p3 hEX H locs ls hP hD hS hl
        refine hG _ _ _ ?_
        obtain ⟨x_1, ex_1⟩ : ∃ y : Int32, y = j9_l6 + 1 := ⟨_, rfl⟩
        have g_2 : RG x_1 1 240 := RG_add ex_1 g_j9_l6 (RG_k 1 1 rfl) (by decide +kernel)
        replace hEX := hEX.trans (exl_eq ex_1)
        refine lv_iinc (v := x_1) (lv' := [(6, .int x_1), (4, .int j93_l4), (5, .int j93_l5), (0, .ref h0), (1, .ref h1), (2, .int 0), (3, .int p3)]) hx hb dX4_readCondition_93 hl (k := 1) rfl (by rw [ex_1]; rfl) (Nat.le_of_ble_eq_true rfl) rfl (fun ls hl => ?_)
        refine lv_goto (tgt := 9) hx hb dX4_readCondition_96 rfl ?_
        exact hU _ _ _ (ih9 x_1 j93_l5 j93_l4 j93_h1_f2 j93_h1_f3 j93_h0_f1 j93_h0_0c (mu_s (MU_add ex_1 g_j9_l6 (q := 1) rfl (by decide +kernel)) hM9) g_h0_f1 (RG_w g_h1_f1 (by decide +kernel)) g_h1_f2 g_h1_f3 g_j93_h0_f1 (RG_w g_j93_h1_f2 (by decide +kernel)) (RG_w g_j93_h1_f3 (by decide +kernel)) g_j93_l4 g_j93_l5 (RG_w g_2 (by decide +kernel)) g_p3 hEX _ _ _ hP hD hS (lv_sub hl [0, 2, 1, 3, 4, 5, 6] rfl))
      have J79 : ∀ (j79_h1_f2 : Int32) (j79_h1_f3 : Int32) (j79_h0_f1 : Int32) (j79_h0_0c : Nat → Int32) (g_h0_f1 : RG h0_f1 0 240) (g_h1_f1 : RG h1_f1 0 240) (g_h1_f2 : RG h1_f2 0 240) (g_h1_f3 : RG h1_f3 (-1) 240) (g_j79_h0_f1 : RG j79_h0_f1 0 240) (g_j79_h1_f2 : RG j79_h1_f2 0 240) (g_j79_h1_f3 : RG j79_h1_f3 (-1) 240) (g_j9_h0_f1 : RG j9_h0_f1 0 240) (g_j9_h1_f2 : RG j9_h1_f2 0 240) (g_j9_h1_f3 : RG j9_h1_f3 (-1) (-1)) (g_j9_l4 : RG j9_l4 0 1) (g_j9_l5 : RG j9_l5 0 1) (g_j9_l6 : RG j9_l6 0 239) (g_p3 : RG p3 0 1) (hEX : RES = fx_c_X4_readCondition_p79 h1_f1 h1_0c j9_l6 (fx_c_X4_readCondition_p9 p3 h1_f1 h1_0c n9) j79_h1_f2 j79_h1_f3 j79_h0_f1 j79_h0_0c) (H : Heap) (locs : List Loc) (ls : Array Slot) (hP : va_P (dC, dI) vwCl (wd_c_X4_readCondition h1 h1_0 h1_f1 j79_h1_f2 j79_h1_f3 h1_0 h1_0k h1_0c h0 h0_0 j79_h0_f1 h0_2 h0_0 h0_0k j79_h0_0c) H) (hD : va_D A (wd_c_X4_readCondition h1 h1_0 h1_f1 j79_h1_f2 j79_h1_f3 h1_0 h1_0k h1_0c h0 h0_0 j79_h0_f1 h0_2 h0_0 h0_0k j79_h0_0c)) (hS : va_S A s.heap H locs) (hl : lv_has ls 7 [(4, .int 0), (6, .int j9_l6), (0, .ref h0), (1, .ref h1), (2, .int 0), (3, .int p3)]), G H locs (F0 m 79 ls []) := by
        as_aux_lemma =>
        intro j79_h1_f2 j79_h1_f3 j79_h0_f1 j79_h0_0c g_h0_f1 g_h1_f1 g_h1_f2 g_h1_f3 g_j79_h0_f1 g_j79_h1_f2 g_j79_h1_f3 g_j9_h0_f1 g_j9_h1_f2 g_j9_h1_f3 g_j9_l4 g_j9_l5 g_j9_l6 g_p3 hEX H locs ls hP hD hS hl
        refine hG _ _ _ ?_
        refine lv_aload_n hx hb dX4_readCondition_79 rfl (lv_at hl 3 rfl) ?_
        refine lv_bipush (v := 124) hx hb dX4_readCondition_80 kc_bipush_124 ?_
        obtain ⟨hPc, hDc, hFc, hqc⟩ := cl_cut (wc := (wd_c_X9_take_1 h1 h1_0 h1_f1 j79_h1_f2 j79_h1_f3 h1_0 h1_0k h1_0c)) hP hD hS hA [0, 1] (by decide +kernel) rfl
        have hKc := hK.sub (tys' := [(h1_0k, .int)]) [0] rfl
        have hrv := va_recv hKc hPc (ci := 9) (q0 := 0) rfl rfl
        refine va_calli (va_runV (As := [.int 124]) (rest := []) ⟨hx, hb, hml, hown, hts⟩ (c_X9_take_1 l dC dI H.size h1 124 h1_0 h1_f1 j79_h1_f2 j79_h1_f3 h1_0k h1_0c (RG_w (RG_k 124 124 rfl) (by decide +kernel)) g_h1_f1 g_j79_h1_f2 g_j79_h1_f3 a_h1_0c) (cwV 1 hts gf_c_X4_readCondition_c_X9_take_1 rfl rfl rfl mdV_X9_take ⟨Nat.le_of_ble_eq_true rfl, Nat.le_of_ble_eq_true rfl⟩) ⟨fun a U g mk q => by obtain ⟨q0, q1, qP, qK, qD⟩ := q; exact ⟨q0, q1, qP, va_K.moved (u := U) (U := U.calling g mk a) (Vm.Alike.refl U.vm) qK, qD⟩, hrv, fun U hU hW => ⟨rfl, by rw [hU], by rw [hU]; exact hPc, va_K.moved hW.alike hKc, hDc.weaken (fun _ _ _ _ => trivial)⟩⟩ rfl rfl hl.1 rfl (lv_room (Nat.le_of_ble_eq_true rfl)) dX4_readCondition_82 ⟨Nat.le_of_ble_eq_true rfl, Nat.le_of_ble_eq_true rfl⟩) hS (fun q _ h => hFc q h) hFc (fun r_3 x_4 t H1 locs ht hvm hw hB hz1 hk1 hS => ?_)
        obtain ⟨hP1, hK1, hD1⟩ := hB
        rw [ht] at hP1
        obtain ⟨hP, hD⟩ := cl_put (w1 := (wd_c_X9_take_1 h1 h1_0 h1_f1 x_4 j79_h1_f3 h1_0 h1_0k h1_0c)) (nw := (wd_c_X4_readCondition h1 h1_0 h1_f1 x_4 j79_h1_f3 h1_0 h1_0k h1_0c h0 h0_0 j79_h0_f1 h0_2 h0_0 h0_0k j79_h0_0c)) hP hD [0, 1] [4, 5, 2, 3] 4 rfl hqc (by decide +kernel) rfl hk1 hFc hP1 hD1
        generalize H1 = H at hP hS ⊢
        as_aux_lemma =>
        rcases hw with ⟨h_5, h_6, h_7, h_8⟩ | ⟨h_9, h_10, h_11, h_12, h_13, h_14⟩
        · have h_8 : (r_3, x_4) = _ := h_8
          replace hEX := hEX.trans (exc2_eq h_8)
          replace hEX := hEX.trans (if_pos (show r_3 = 0 from h_5))
          rw [h_5]
          refine lv_istore (lv' := [(5, .int 0), (4, .int 0), (6, .int j9_l6), (0, .ref h0), (1, .ref h1), (2, .int 0), (3, .int p3)]) hx hb dX4_readCondition_85 hl (Nat.le_of_ble_eq_true rfl) rfl (fun ls hl => ?_)
          refine lv_iload hx hb dX4_readCondition_87 (lv_at hl 0 rfl) ?_
          refine lv_if_ne (tgt := 93) hx hb dX4_readCondition_89 rfl (fun c_15 => absurd c_15 (by decide +kernel)) (fun c_15 => ?_)
          have hK9 := hK.sub (tys' := []) [] rfl
          exact W.vret hx hb hr (fun t ht hW => ⟨⟨(x_4, j79_h1_f3, j79_h0_f1, j79_h0_0c), rfl, ⟨h_6, g_j79_h1_f3, g_j79_h0_f1, (hR.trans hEX).symm⟩, by rw [ht]; exact hP, va_K.moved hW.alike hK9, hD⟩, hS.F ht⟩) hS.2.2 dX4_readCondition_92
        · have h_14 : (r_3, x_4) = _ := h_14
          replace hEX := hEX.trans (exc2_eq h_14)
          replace hEX := hEX.trans (if_neg (fun q9 : r_3 = 0 => absurd ((show r_3 = 1 from h_9).symm.trans q9) (by decide +kernel)))
          rw [h_9]
          refine lv_istore (lv' := [(5, .int 1), (4, .int 0), (6, .int j9_l6), (0, .ref h0), (1, .ref h1), (2, .int 0), (3, .int p3)]) hx hb dX4_readCondition_85 hl (Nat.le_of_ble_eq_true rfl) rfl (fun ls hl => ?_)
          as_aux_lemma =>
          refine lv_iload hx hb dX4_readCondition_87 (lv_at hl 0 rfl) ?_
          refine lv_if_ne (tgt := 93) hx hb dX4_readCondition_89 rfl (fun c_16 => ?_) (fun c_16 => absurd c_16 (by decide +kernel))
          exact hU _ _ _ (J93 0 1 x_4 j79_h1_f3 j79_h0_f1 j79_h0_0c g_h0_f1 h_11 g_h1_f2 g_h1_f3 g_j79_h0_f1 h_10 h_12 (RG_w (RG_k 0 0 rfl) (by decide +kernel)) (RG_w (RG_k 1 1 rfl) (by decide +kernel)) g_j9_h0_f1 g_j9_h1_f2 g_j9_h1_f3 g_j9_l4 g_j9_l5 g_j9_l6 g_p3 hEX _ _ _ hP hD hS (lv_sub hl [1, 2, 0, 3, 4, 5, 6] rfl))
      have J55 : ∀ (j55_h1_f2 : Int32) (j55_h1_f3 : Int32) (j55_h0_f1 : Int32) (j55_h0_0c : Nat → Int32) (g_h0_f1 : RG h0_f1 0 240) (g_h1_f1 : RG h1_f1 0 240) (g_h1_f2 : RG h1_f2 0 240) (g_h1_f3 : RG h1_f3 (-1) 240) (g_j55_h0_f1 : RG j55_h0_f1 0 240) (g_j55_h1_f2 : RG j55_h1_f2 0 240) (g_j55_h1_f3 : RG j55_h1_f3 (-1) 240) (g_j9_h0_f1 : RG j9_h0_f1 0 240) (g_j9_h1_f2 : RG j9_h1_f2 0 240) (g_j9_h1_f3 : RG j9_h1_f3 (-1) (-1)) (g_j9_l4 : RG j9_l4 0 1) (g_j9_l5 : RG j9_l5 0 1) (g_j9_l6 : RG j9_l6 0 239) (g_p3 : RG p3 0 1) (hEX : RES = fx_c_X4_readCondition_p55 h1_f1 h1_0c j9_l6 j9_l5 (fx_c_X4_readCondition_p9 p3 h1_f1 h1_0c n9) j55_h1_f2 j55_h1_f3 j55_h0_f1 j55_h0_0c) (H : Heap) (locs : List Loc) (ls : Array Slot) (hP : va_P (dC, dI) vwCl (wd_c_X4_readCondition h1 h1_0 h1_f1 j55_h1_f2 j55_h1_f3 h1_0 h1_0k h1_0c h0 h0_0 j55_h0_f1 h0_2 h0_0 h0_0k j55_h0_0c) H) (hD : va_D A (wd_c_X4_readCondition h1 h1_0 h1_f1 j55_h1_f2 j55_h1_f3 h1_0 h1_0k h1_0c h0 h0_0 j55_h0_f1 h0_2 h0_0 h0_0k j55_h0_0c)) (hS : va_S A s.heap H locs) (hl : lv_has ls 7 [(6, .int j9_l6), (5, .int j9_l5), (0, .ref h0), (1, .ref h1), (2, .int 0), (3, .int p3)]), G H locs (F0 m 55 ls []) := by
        as_aux_lemma =>
        intro j55_h1_f2 j55_h1_f3 j55_h0_f1 j55_h0_0c g_h0_f1 g_h1_f1 g_h1_f2 g_h1_f3 g_j55_h0_f1 g_j55_h1_f2 g_j55_h1_f3 g_j9_h0_f1 g_j9_h1_f2 g_j9_h1_f3 g_j9_l4 g_j9_l5 g_j9_l6 g_p3 hEX H locs ls hP hD hS hl
        refine hG _ _ _ ?_
        refine lv_aload_n hx hb dX4_readCondition_55 rfl (lv_at hl 3 rfl) ?_
        refine lv_bipush (v := 38) hx hb dX4_readCondition_56 kc_bipush_38 ?_
        obtain ⟨hPc, hDc, hFc, hqc⟩ := cl_cut (wc := (wd_c_X9_take h1 h1_0 h1_f1 j55_h1_f2 j55_h1_f3 h1_0 h1_0k h1_0c)) hP hD hS hA [0, 1] (by decide +kernel) rfl
        have hKc := hK.sub (tys' := [(h1_0k, .int)]) [0] rfl
        have hrv := va_recv hKc hPc (ci := 9) (q0 := 0) rfl rfl
        refine va_calli (va_runV (As := [.int 38]) (rest := []) ⟨hx, hb, hml, hown, hts⟩ (c_X9_take l dC dI H.size h1 38 h1_0 h1_f1 j55_h1_f2 j55_h1_f3 h1_0k h1_0c (RG_w (RG_k 38 38 rfl) (by decide +kernel)) g_h1_f1 g_j55_h1_f2 g_j55_h1_f3 a_h1_0c) (cwV 1 hts gf_c_X4_readCondition_c_X9_take rfl rfl rfl mdV_X9_take ⟨Nat.le_of_ble_eq_true rfl, Nat.le_of_ble_eq_true rfl⟩) ⟨fun a U g mk q => by obtain ⟨q0, q1, qP, qK, qD⟩ := q; exact ⟨q0, q1, qP, va_K.moved (u := U) (U := U.calling g mk a) (Vm.Alike.refl U.vm) qK, qD⟩, hrv, fun U hU hW => ⟨rfl, by rw [hU], by rw [hU]; exact hPc, va_K.moved hW.alike hKc, hDc.weaken (fun _ _ _ _ => trivial)⟩⟩ rfl rfl hl.1 rfl (lv_room (Nat.le_of_ble_eq_true rfl)) dX4_readCondition_58 ⟨Nat.le_of_ble_eq_true rfl, Nat.le_of_ble_eq_true rfl⟩) hS (fun q _ h => hFc q h) hFc (fun r_17 x_18 t H1 locs ht hvm hw hB hz1 hk1 hS => ?_)
        obtain ⟨hP1, hK1, hD1⟩ := hB
        rw [ht] at hP1
        obtain ⟨hP, hD⟩ := cl_put (w1 := (wd_c_X9_take h1 h1_0 h1_f1 x_18 j55_h1_f3 h1_0 h1_0k h1_0c)) (nw := (wd_c_X4_readCondition h1 h1_0 h1_f1 x_18 j55_h1_f3 h1_0 h1_0k h1_0c h0 h0_0 j55_h0_f1 h0_2 h0_0 h0_0k j55_h0_0c)) hP hD [0, 1] [4, 5, 2, 3] 4 rfl hqc (by decide +kernel) rfl hk1 hFc hP1 hD1
        generalize H1 = H at hP hS ⊢
        as_aux_lemma =>
        rcases hw with ⟨h_19, h_20, h_21, h_22⟩ | ⟨h_23, h_24, h_25, h_26, h_27, h_28⟩
        · have h_22 : (r_17, x_18) = _ := h_22
          replace hEX := hEX.trans (exc2_eq h_22)
          replace hEX := hEX.trans (if_pos (show r_17 = 0 from h_19))
          rw [h_19]
          refine lv_istore (lv' := [(4, .int 0), (6, .int j9_l6), (5, .int j9_l5), (0, .ref h0), (1, .ref h1), (2, .int 0), (3, .int p3)]) hx hb dX4_readCondition_61 hl (Nat.le_of_ble_eq_true rfl) rfl (fun ls hl => ?_)
          refine lv_iload hx hb dX4_readCondition_63 (lv_at hl 0 rfl) ?_
          refine lv_if_ne (tgt := 93) hx hb dX4_readCondition_65 rfl (fun c_29 => absurd c_29 (by decide +kernel)) (fun c_29 => ?_)
          refine lv_iload hx hb dX4_readCondition_68 (lv_at hl 2 rfl) ?_
          refine lv_if_eq (tgt := 79) hx hb dX4_readCondition_70 rfl (fun c_30 => ?_) (fun c_30 => ?_)
          · replace hEX := hEX.trans (if_pos c_30)
            have g_31 : RG j9_l5 0 0 := RG_eq1 g_j9_l5 (RG_k 0 0 rfl) c_30 (by decide +kernel)
            exact hU _ _ _ (J79 x_18 j55_h1_f3 j55_h0_f1 j55_h0_0c g_h0_f1 g_h1_f1 g_h1_f2 g_h1_f3 g_j55_h0_f1 h_20 g_j55_h1_f3 g_j9_h0_f1 g_j9_h1_f2 g_j9_h1_f3 g_j9_l4 (RG_w g_31 (by decide +kernel)) g_j9_l6 g_p3 hEX _ _ _ hP hD hS (lv_sub hl [0, 1, 3, 4, 5, 6] rfl))
          · replace hEX := hEX.trans (if_neg c_30)
            have g_32 : RG j9_l5 1 1 := RG_ne1 g_j9_l5 (q := 0) rfl c_30 (by decide +kernel)
            refine lv_aload_n hx hb dX4_readCondition_73 rfl (lv_at hl 3 rfl) ?_
            as_aux_lemma =>
            refine lv_bipush (v := (-124)) hx hb dX4_readCondition_74 kc_bipush_m124 ?_
            obtain ⟨hPc, hDc, hFc, hqc⟩ := cl_cut (wc := (wd_c_X4_emit h0 h0_0 j55_h0_f1 h0_2 h0_0 h0_0k j55_h0_0c)) hP hD hS hA [2, 3] (by decide +kernel) rfl
            have hKc := hK.sub (tys' := [(h0_0k, .int)]) [1] rfl
            have hrv := va_recv hKc hPc (ci := 4) (q0 := 0) rfl rfl
            refine va_callv (va_runV (As := [.int (-124)]) (rest := []) ⟨hx, hb, hml, hown, hts⟩ (c_X4_emit l dC dI H.size h0 (-124) h0_0 j55_h0_f1 h0_2 h0_0k j55_h0_0c g_j55_h0_f1) (cwV 1 hts gf_c_X4_readCondition_c_X4_emit rfl rfl rfl mdV_X4_emit ⟨Nat.le_of_ble_eq_true rfl, Nat.le_of_ble_eq_true rfl⟩) ⟨fun a U g mk q => by obtain ⟨q0, q1, qP, qK, qD⟩ := q; exact ⟨q0, q1, qP, va_K.moved (u := U) (U := U.calling g mk a) (Vm.Alike.refl U.vm) qK, qD⟩, hrv, fun U hU hW => ⟨rfl, by rw [hU], by rw [hU]; exact hPc, va_K.moved hW.alike hKc, hDc.weaken (fun _ _ _ _ => trivial)⟩⟩ rfl rfl hl.1 rfl (lv_room (Nat.le_of_ble_eq_true rfl)) dX4_readCondition_76 ⟨Nat.le_of_ble_eq_true rfl, Nat.le_of_ble_eq_true rfl⟩) hS (fun q _ h => hFc q h) hFc (fun u t H1 locs ht hvm hw hB hz1 hk1 hS => ?_)
            obtain ⟨x_34, w_35⟩ := u
            obtain ⟨hP1, hK1, hD1⟩ := hB
            rw [ht] at hP1
            obtain ⟨hP, hD⟩ := cl_put (w1 := (wd_c_X4_emit h0 h0_0 x_34 h0_2 h0_0 h0_0k w_35)) (nw := (wd_c_X4_readCondition h1 h1_0 h1_f1 x_18 j55_h1_f3 h1_0 h1_0k h1_0c h0 h0_0 x_34 h0_2 h0_0 h0_0k w_35)) hP hD [2, 3] [0, 1, 4, 5] 4 rfl hqc (by decide +kernel) rfl hk1 hFc hP1 hD1
            generalize H1 = H at hP hS ⊢
            as_aux_lemma =>
            rcases hw with ⟨h_36, h_37⟩
            have h_37 : (x_34, w_35) = _ := h_37
            replace hEX := hEX.trans (exc2_eq h_37)
            exact hU _ _ _ (J79 x_18 j55_h1_f3 x_34 w_35 g_h0_f1 g_h1_f1 g_h1_f2 g_h1_f3 (RG_w h_36 (by decide +kernel)) h_20 g_j55_h1_f3 g_j9_h0_f1 g_j9_h1_f2 g_j9_h1_f3 g_j9_l4 (RG_w g_32 (by decide +kernel)) g_j9_l6 g_p3 hEX _ _ _ hP hD hS (lv_sub hl [0, 1, 3, 4, 5, 6] rfl))
        · have h_28 : (r_17, x_18) = _ := h_28
          replace hEX := hEX.trans (exc2_eq h_28)
          replace hEX := hEX.trans (if_neg (fun q9 : r_17 = 0 => absurd ((show r_17 = 1 from h_23).symm.trans q9) (by decide +kernel)))
          rw [h_23]
          refine lv_istore (lv' := [(4, .int 1), (6, .int j9_l6), (5, .int j9_l5), (0, .ref h0), (1, .ref h1), (2, .int 0), (3, .int p3)]) hx hb dX4_readCondition_61 hl (Nat.le_of_ble_eq_true rfl) rfl (fun ls hl => ?_)
          refine lv_iload hx hb dX4_readCondition_63 (lv_at hl 0 rfl) ?_
          refine lv_if_ne (tgt := 93) hx hb dX4_readCondition_65 rfl (fun c_38 => ?_) (fun c_38 => absurd c_38 (by decide +kernel))
          exact hU _ _ _ (J93 1 j9_l5 x_18 j55_h1_f3 j55_h0_f1 j55_h0_0c g_h0_f1 h_25 g_h1_f2 g_h1_f3 g_j55_h0_f1 h_24 h_26 (RG_w (RG_k 1 1 rfl) (by decide +kernel)) g_j9_l5 g_j9_h0_f1 g_j9_h1_f2 g_j9_h1_f3 g_j9_l4 g_j9_l5 g_j9_l6 g_p3 hEX _ _ _ hP hD hS (lv_sub hl [0, 1, 2, 3, 4, 5, 6] rfl))
      have J41b : ∀ (g_h0_f1 : RG h0_f1 0 240) (g_h1_f1 : RG h1_f1 0 240) (g_h1_f2 : RG h1_f2 0 240) (g_h1_f3 : RG h1_f3 (-1) 240) (g_j9_h0_f1 : RG j9_h0_f1 0 240) (g_j9_h1_f2 : RG j9_h1_f2 0 240) (g_j9_h1_f3 : RG j9_h1_f3 (-1) (-1)) (g_j9_l4 : RG j9_l4 0 1) (g_j9_l5 : RG j9_l5 0 1) (g_j9_l6 : RG j9_l6 0 239) (g_p3 : RG p3 0 1) (hEX : RES = fx_c_X4_readCondition_p41b h1_f1 h1_0c j9_l6 j9_l5 j9_l4 j9_h1_f2 j9_h1_f3 j9_h0_f1 j9_h0_0c (fx_c_X4_readCondition_p9 p3 h1_f1 h1_0c n9)) (H : Heap) (locs : List Loc) (ls : Array Slot) (hP : va_P (dC, dI) vwCl (wd_c_X4_readCondition h1 h1_0 h1_f1 j9_h1_f2 j9_h1_f3 h1_0 h1_0k h1_0c h0 h0_0 j9_h0_f1 h0_2 h0_0 h0_0k j9_h0_0c) H) (hD : va_D A (wd_c_X4_readCondition h1 h1_0 h1_f1 j9_h1_f2 j9_h1_f3 h1_0 h1_0k h1_0c h0 h0_0 j9_h0_f1 h0_2 h0_0 h0_0k j9_h0_0c)) (hS : va_S A s.heap H locs) (hl : lv_has ls 7 [(6, .int j9_l6), (5, .int j9_l5), (4, .int j9_l4), (0, .ref h0), (1, .ref h1), (2, .int 0), (3, .int p3)]), G H locs (F0 m 41 ls [.int 0, .int 0, .ref h1, .ref h0]) := by
        as_aux_lemma =>
        intro g_h0_f1 g_h1_f1 g_h1_f2 g_h1_f3 g_j9_h0_f1 g_j9_h1_f2 g_j9_h1_f3 g_j9_l4 g_j9_l5 g_j9_l6 g_p3 hEX H locs ls hP hD hS hl
        refine hG _ _ _ ?_
        obtain ⟨hPc, hDc, hFc, hqc⟩ := cl_cut (wc := (wd_c_X4_readUnit_1 h1 h1_0 h1_f1 j9_h1_f2 j9_h1_f3 h1_0 h1_0k h1_0c h0 h0_0 j9_h0_f1 h0_2 h0_0 h0_0k j9_h0_0c)) hP hD hS hA [0, 1, 2, 3] (by decide +kernel) rfl
        have hKc := hK.sub (tys' := [(h1_0k, .int), (h0_0k, .int)]) [0, 1] rfl
        have hrv := va_recv hKc hPc (ci := 4) (q0 := 2) rfl rfl
        refine va_callv (va_runV (As := [.ref h1, .int 0, .int 0]) (rest := []) ⟨hx, hb, hml, hown, hts⟩ (c_X4_readUnit_1 l dC dI H.size h0 h1 h1_0 h1_f1 j9_h1_f2 j9_h1_f3 h1_0k h1_0c h0_0 j9_h0_f1 h0_2 h0_0k j9_h0_0c ts4 tv4 g_h1_f1 g_j9_h1_f2 (RG_w g_j9_h1_f3 (by decide +kernel)) a_h1_0c g_j9_h0_f1) (cwV 3 hts gf_c_X4_readCondition_c_X4_readUnit_1 rfl rfl rfl mdV_X4_readUnit ⟨Nat.le_of_ble_eq_true rfl, Nat.le_of_ble_eq_true rfl⟩) ⟨fun a U g mk q => by obtain ⟨q0, q1, qP, qK, qD, qE0, qE1, qE2, qE3, qE4, qE5⟩ := q; exact ⟨q0, q1, qP, va_K.moved (u := U) (U := U.calling g mk a) (Vm.Alike.refl U.vm) qK, qD, vk_R.same rfl qE0, va_Z.moved (u := U) (U := U.calling g mk a) (Vm.Alike.refl U.vm) qE1, va_OF.moved (u := U) (U := U.calling g mk a) (Vm.Alike.refl U.vm) qE2, va_O.moved (u := U) (U := U.calling g mk a) (Vm.Alike.refl U.vm) qE3, va_OF.moved (u := U) (U := U.calling g mk a) (Vm.Alike.refl U.vm) qE4, va_T.moved (u := U) (U := U.calling g mk a) (Vm.Alike.refl U.vm) qE5⟩, hrv, fun U hU hW => ⟨rfl, by rw [hU], by rw [hU]; exact hPc, va_K.moved hW.alike hKc, hDc.weaken (fun _ _ _ _ => trivial), vk_R.warm hW hE_32, va_Z.moved hW.alike (by rw [hU]; exact (hE_10.kept hS.2.1).narrow hFc), va_OF.moved hW.alike (by rw [hU]; exact (hE_34.kept hS.2.1).narrow hFc), va_O.moved hW.alike (by rw [hU]; exact (hE_33.kept hS.2.1).narrow hFc), va_OF.moved hW.alike (by rw [hU]; exact (hE_35.kept hS.2.1).narrow hFc), va_T.moved hW.alike (by rw [hU]; exact (hE_36.kept hS.2.1).narrow hFc)⟩⟩ rfl rfl hl.1 rfl (lv_room (Nat.le_of_ble_eq_true rfl)) dX4_readCondition_41 ⟨Nat.le_of_ble_eq_true rfl, Nat.le_of_ble_eq_true rfl⟩) hS (fun q _ h => hFc q h) hFc (fun u t H1 locs ht hvm hw hB hz1 hk1 hS => ?_)
        obtain ⟨x_40, x_41, x_42, w_43⟩ := u
        obtain ⟨hP1, hK1, hD1⟩ := hB
        rw [ht] at hP1
        obtain ⟨hP, hD⟩ := cl_put (w1 := (wd_c_X4_readUnit_1 h1 h1_0 h1_f1 x_40 x_41 h1_0 h1_0k h1_0c h0 h0_0 x_42 h0_2 h0_0 h0_0k w_43)) (nw := (wd_c_X4_readCondition h1 h1_0 h1_f1 x_40 x_41 h1_0 h1_0k h1_0c h0 h0_0 x_42 h0_2 h0_0 h0_0k w_43)) hP hD [0, 1, 2, 3] [4, 5, 6, 7] 4 rfl hqc (by decide +kernel) rfl hk1 hFc hP1 hD1
        generalize H1 = H at hP hS ⊢
        as_aux_lemma =>
        rcases hw with ⟨h_44, h_45, h_46, h_47⟩
        have h_47 : (x_40, x_41, x_42, w_43) = _ := h_47
        replace hEX := hEX.trans (exc4_eq h_47)
        refine lv_iload hx hb dX4_readCondition_44 (lv_at hl 2 rfl) ?_
        refine lv_if_eq (tgt := 55) hx hb dX4_readCondition_46 rfl (fun c_48 => ?_) (fun c_48 => ?_)
        · replace hEX := hEX.trans (if_pos c_48)
          have g_49 : RG j9_l4 0 0 := RG_eq1 g_j9_l4 (RG_k 0 0 rfl) c_48 (by decide +kernel)
          exact hU _ _ _ (J55 x_40 x_41 x_42 w_43 g_h0_f1 g_h1_f1 g_h1_f2 g_h1_f3 h_46 h_44 h_45 g_j9_h0_f1 g_j9_h1_f2 g_j9_h1_f3 (RG_w g_49 (by decide +kernel)) g_j9_l5 g_j9_l6 g_p3 hEX _ _ _ hP hD hS (lv_sub hl [0, 1, 3, 4, 5, 6] rfl))
        · replace hEX := hEX.trans (if_neg c_48)
          have g_50 : RG j9_l4 1 1 := RG_ne1 g_j9_l4 (q := 0) rfl c_48 (by decide +kernel)
          refine lv_aload_n hx hb dX4_readCondition_49 rfl (lv_at hl 3 rfl) ?_
          refine lv_bipush (v := (-38)) hx hb dX4_readCondition_50 kc_bipush_m38 ?_
          obtain ⟨hPc, hDc, hFc, hqc⟩ := cl_cut (wc := (wd_c_X4_emit h0 h0_0 x_42 h0_2 h0_0 h0_0k w_43)) hP hD hS hA [2, 3] (by decide +kernel) rfl
          have hKc := hK.sub (tys' := [(h0_0k, .int)]) [1] rfl
          have hrv := va_recv hKc hPc (ci := 4) (q0 := 0) rfl rfl
          refine va_callv (va_runV (As := [.int (-38)]) (rest := []) ⟨hx, hb, hml, hown, hts⟩ (c_X4_emit l dC dI H.size h0 (-38) h0_0 x_42 h0_2 h0_0k w_43 h_46) (cwV 1 hts gf_c_X4_readCondition_c_X4_emit rfl rfl rfl mdV_X4_emit ⟨Nat.le_of_ble_eq_true rfl, Nat.le_of_ble_eq_true rfl⟩) ⟨fun a U g mk q => by obtain ⟨q0, q1, qP, qK, qD⟩ := q; exact ⟨q0, q1, qP, va_K.moved (u := U) (U := U.calling g mk a) (Vm.Alike.refl U.vm) qK, qD⟩, hrv, fun U hU hW => ⟨rfl, by rw [hU], by rw [hU]; exact hPc, va_K.moved hW.alike hKc, hDc.weaken (fun _ _ _ _ => trivial)⟩⟩ rfl rfl hl.1 rfl (lv_room (Nat.le_of_ble_eq_true rfl)) dX4_readCondition_52 ⟨Nat.le_of_ble_eq_true rfl, Nat.le_of_ble_eq_true rfl⟩) hS (fun q _ h => hFc q h) hFc (fun u t H1 locs ht hvm hw hB hz1 hk1 hS => ?_)
          as_aux_lemma =>
          obtain ⟨x_52, w_53⟩ := u
          obtain ⟨hP1, hK1, hD1⟩ := hB
          rw [ht] at hP1
          obtain ⟨hP, hD⟩ := cl_put (w1 := (wd_c_X4_emit h0 h0_0 x_52 h0_2 h0_0 h0_0k w_53)) (nw := (wd_c_X4_readCondition h1 h1_0 h1_f1 x_40 x_41 h1_0 h1_0k h1_0c h0 h0_0 x_52 h0_2 h0_0 h0_0k w_53)) hP hD [2, 3] [0, 1, 4, 5] 4 rfl hqc (by decide +kernel) rfl hk1 hFc hP1 hD1
          generalize H1 = H at hP hS ⊢
          as_aux_lemma =>
          rcases hw with ⟨h_54, h_55⟩
          have h_55 : (x_52, w_53) = _ := h_55
          replace hEX := hEX.trans (exc2_eq h_55)
          exact hU _ _ _ (J55 x_40 x_41 x_52 w_53 g_h0_f1 g_h1_f1 g_h1_f2 g_h1_f3 (RG_w h_54 (by decide +kernel)) h_44 h_45 g_j9_h0_f1 g_j9_h1_f2 g_j9_h1_f3 (RG_w g_50 (by decide +kernel)) g_j9_l5 g_j9_l6 g_p3 hEX _ _ _ hP hD hS (lv_sub hl [0, 1, 3, 4, 5, 6] rfl))
      have J40 : ∀ (g_h0_f1 : RG h0_f1 0 240) (g_h1_f1 : RG h1_f1 0 240) (g_h1_f2 : RG h1_f2 0 240) (g_h1_f3 : RG h1_f3 (-1) 240) (g_j9_h0_f1 : RG j9_h0_f1 0 240) (g_j9_h1_f2 : RG j9_h1_f2 0 240) (g_j9_h1_f3 : RG j9_h1_f3 (-1) (-1)) (g_j9_l4 : RG j9_l4 0 1) (g_j9_l5 : RG j9_l5 0 1) (g_j9_l6 : RG j9_l6 0 239) (g_p3 : RG p3 0 1) (hEX : RES = fx_c_X4_readCondition_p40 h1_f1 h1_0c j9_l6 j9_l5 j9_l4 j9_h1_f2 j9_h1_f3 j9_h0_f1 j9_h0_0c (fx_c_X4_readCondition_p9 p3 h1_f1 h1_0c n9)) (H : Heap) (locs : List Loc) (ls : Array Slot) (hP : va_P (dC, dI) vwCl (wd_c_X4_readCondition h1 h1_0 h1_f1 j9_h1_f2 j9_h1_f3 h1_0 h1_0k h1_0c h0 h0_0 j9_h0_f1 h0_2 h0_0 h0_0k j9_h0_0c) H) (hD : va_D A (wd_c_X4_readCondition h1 h1_0 h1_f1 j9_h1_f2 j9_h1_f3 h1_0 h1_0k h1_0c h0 h0_0 j9_h0_f1 h0_2 h0_0 h0_0k j9_h0_0c)) (hS : va_S A s.heap H locs) (hl : lv_has ls 7 [(6, .int j9_l6), (5, .int j9_l5), (4, .int j9_l4), (0, .ref h0), (1, .ref h1), (2, .int 0), (3, .int p3)]), G H locs (F0 m 40 ls [.int 0, .ref h1, .ref h0]) := by
        as_aux_lemma =>
        intro g_h0_f1 g_h1_f1 g_h1_f2 g_h1_f3 g_j9_h0_f1 g_j9_h1_f2 g_j9_h1_f3 g_j9_l4 g_j9_l5 g_j9_l6 g_p3 hEX H locs ls hP hD hS hl
        refine hG _ _ _ ?_
        refine lv_iconst (v := 0) hx hb dX4_readCondition_40 kc_iconst_0 ?_
        exact hU _ _ _ (J41b g_h0_f1 g_h1_f1 g_h1_f2 g_h1_f3 g_j9_h0_f1 g_j9_h1_f2 g_j9_h1_f3 g_j9_l4 g_j9_l5 g_j9_l6 g_p3 hEX _ _ _ hP hD hS (lv_sub hl [0, 1, 2, 3, 4, 5, 6] rfl))
      have J41 : ∀ (g_h0_f1 : RG h0_f1 0 240) (g_h1_f1 : RG h1_f1 0 240) (g_h1_f2 : RG h1_f2 0 240) (g_h1_f3 : RG h1_f3 (-1) 240) (g_j9_h0_f1 : RG j9_h0_f1 0 240) (g_j9_h1_f2 : RG j9_h1_f2 0 240) (g_j9_h1_f3 : RG j9_h1_f3 (-1) (-1)) (g_j9_l4 : RG j9_l4 0 1) (g_j9_l5 : RG j9_l5 0 1) (g_j9_l6 : RG j9_l6 0 0) (g_p3 : RG p3 1 1) (hEX : RES = fx_c_X4_readCondition_p41 h1_f1 h1_0c j9_l6 j9_l5 j9_l4 j9_h1_f2 j9_h1_f3 j9_h0_f1 j9_h0_0c (fx_c_X4_readCondition_p9 p3 h1_f1 h1_0c n9)) (H : Heap) (locs : List Loc) (ls : Array Slot) (hP : va_P (dC, dI) vwCl (wd_c_X4_readCondition h1 h1_0 h1_f1 j9_h1_f2 j9_h1_f3 h1_0 h1_0k h1_0c h0 h0_0 j9_h0_f1 h0_2 h0_0 h0_0k j9_h0_0c) H) (hD : va_D A (wd_c_X4_readCondition h1 h1_0 h1_f1 j9_h1_f2 j9_h1_f3 h1_0 h1_0k h1_0c h0 h0_0 j9_h0_f1 h0_2 h0_0 h0_0k j9_h0_0c)) (hS : va_S A s.heap H locs) (hl : lv_has ls 7 [(6, .int j9_l6), (5, .int j9_l5), (4, .int j9_l4), (0, .ref h0), (1, .ref h1), (2, .int 0), (3, .int p3)]), G H locs (F0 m 41 ls [.int 1, .int 0, .ref h1, .ref h0]) := by
        as_aux_lemma =>
        intro g_h0_f1 g_h1_f1 g_h1_f2 g_h1_f3 g_j9_h0_f1 g_j9_h1_f2 g_j9_h1_f3 g_j9_l4 g_j9_l5 g_j9_l6 g_p3 hEX H locs ls hP hD hS hl
        refine hG _ _ _ ?_
        obtain ⟨hPc, hDc, hFc, hqc⟩ := cl_cut (wc := (wd_c_X4_readUnit h1 h1_0 h1_f1 j9_h1_f2 j9_h1_f3 h1_0 h1_0k h1_0c h0 h0_0 j9_h0_f1 h0_2 h0_0 h0_0k j9_h0_0c)) hP hD hS hA [0, 1, 2, 3] (by decide +kernel) rfl
        have hKc := hK.sub (tys' := [(h1_0k, .int), (h0_0k, .int)]) [0, 1] rfl
        have hrv := va_recv hKc hPc (ci := 4) (q0 := 2) rfl rfl
        refine va_callv (va_runV (As := [.ref h1, .int 0, .int 1]) (rest := []) ⟨hx, hb, hml, hown, hts⟩ (c_X4_readUnit l dC dI H.size h0 h1 h1_0 h1_f1 j9_h1_f2 j9_h1_f3 h1_0k h1_0c h0_0 j9_h0_f1 h0_2 h0_0k j9_h0_0c ts4 tv4 g_h1_f1 g_j9_h1_f2 (RG_w g_j9_h1_f3 (by decide +kernel)) a_h1_0c g_j9_h0_f1) (cwV 3 hts gf_c_X4_readCondition_c_X4_readUnit rfl rfl rfl mdV_X4_readUnit ⟨Nat.le_of_ble_eq_true rfl, Nat.le_of_ble_eq_true rfl⟩) ⟨fun a U g mk q => by obtain ⟨q0, q1, qP, qK, qD, qE0, qE1, qE2, qE3, qE4, qE5⟩ := q; exact ⟨q0, q1, qP, va_K.moved (u := U) (U := U.calling g mk a) (Vm.Alike.refl U.vm) qK, qD, vk_R.same rfl qE0, va_Z.moved (u := U) (U := U.calling g mk a) (Vm.Alike.refl U.vm) qE1, va_OF.moved (u := U) (U := U.calling g mk a) (Vm.Alike.refl U.vm) qE2, va_O.moved (u := U) (U := U.calling g mk a) (Vm.Alike.refl U.vm) qE3, va_OF.moved (u := U) (U := U.calling g mk a) (Vm.Alike.refl U.vm) qE4, va_T.moved (u := U) (U := U.calling g mk a) (Vm.Alike.refl U.vm) qE5⟩, hrv, fun U hU hW => ⟨rfl, by rw [hU], by rw [hU]; exact hPc, va_K.moved hW.alike hKc, hDc.weaken (fun _ _ _ _ => trivial), vk_R.warm hW hE_32, va_Z.moved hW.alike (by rw [hU]; exact (hE_10.kept hS.2.1).narrow hFc), va_OF.moved hW.alike (by rw [hU]; exact (hE_34.kept hS.2.1).narrow hFc), va_O.moved hW.alike (by rw [hU]; exact (hE_33.kept hS.2.1).narrow hFc), va_OF.moved hW.alike (by rw [hU]; exact (hE_35.kept hS.2.1).narrow hFc), va_T.moved hW.alike (by rw [hU]; exact (hE_36.kept hS.2.1).narrow hFc)⟩⟩ rfl rfl hl.1 rfl (lv_room (Nat.le_of_ble_eq_true rfl)) dX4_readCondition_41 ⟨Nat.le_of_ble_eq_true rfl, Nat.le_of_ble_eq_true rfl⟩) hS (fun q _ h => hFc q h) hFc (fun u t H1 locs ht hvm hw hB hz1 hk1 hS => ?_)
        obtain ⟨x_57, x_58, x_59, w_60⟩ := u
        obtain ⟨hP1, hK1, hD1⟩ := hB
        rw [ht] at hP1
        obtain ⟨hP, hD⟩ := cl_put (w1 := (wd_c_X4_readUnit h1 h1_0 h1_f1 x_57 x_58 h1_0 h1_0k h1_0c h0 h0_0 x_59 h0_2 h0_0 h0_0k w_60)) (nw := (wd_c_X4_readCondition h1 h1_0 h1_f1 x_57 x_58 h1_0 h1_0k h1_0c h0 h0_0 x_59 h0_2 h0_0 h0_0k w_60)) hP hD [0, 1, 2, 3] [4, 5, 6, 7] 4 rfl hqc (by decide +kernel) rfl hk1 hFc hP1 hD1
        generalize H1 = H at hP hS ⊢
        as_aux_lemma =>
        rcases hw with ⟨h_61, h_62, h_63, h_64⟩
        have h_64 : (x_57, x_58, x_59, w_60) = _ := h_64
        replace hEX := hEX.trans (exc4_eq h_64)
        refine lv_iload hx hb dX4_readCondition_44 (lv_at hl 2 rfl) ?_
        refine lv_if_eq (tgt := 55) hx hb dX4_readCondition_46 rfl (fun c_65 => ?_) (fun c_65 => ?_)
        · replace hEX := hEX.trans (if_pos c_65)
          have g_66 : RG j9_l4 0 0 := RG_eq1 g_j9_l4 (RG_k 0 0 rfl) c_65 (by decide +kernel)
          exact hU _ _ _ (J55 x_57 x_58 x_59 w_60 g_h0_f1 g_h1_f1 g_h1_f2 g_h1_f3 h_63 h_61 h_62 g_j9_h0_f1 g_j9_h1_f2 g_j9_h1_f3 (RG_w g_66 (by decide +kernel)) g_j9_l5 (RG_w g_j9_l6 (by decide +kernel)) (RG_w g_p3 (by decide +kernel)) hEX _ _ _ hP hD hS (lv_sub hl [0, 1, 3, 4, 5, 6] rfl))
        · replace hEX := hEX.trans (if_neg c_65)
          have g_67 : RG j9_l4 1 1 := RG_ne1 g_j9_l4 (q := 0) rfl c_65 (by decide +kernel)
          refine lv_aload_n hx hb dX4_readCondition_49 rfl (lv_at hl 3 rfl) ?_
          refine lv_bipush (v := (-38)) hx hb dX4_readCondition_50 kc_bipush_m38 ?_
          obtain ⟨hPc, hDc, hFc, hqc⟩ := cl_cut (wc := (wd_c_X4_emit h0 h0_0 x_59 h0_2 h0_0 h0_0k w_60)) hP hD hS hA [2, 3] (by decide +kernel) rfl
          have hKc := hK.sub (tys' := [(h0_0k, .int)]) [1] rfl
          have hrv := va_recv hKc hPc (ci := 4) (q0 := 0) rfl rfl
          refine va_callv (va_runV (As := [.int (-38)]) (rest := []) ⟨hx, hb, hml, hown, hts⟩ (c_X4_emit l dC dI H.size h0 (-38) h0_0 x_59 h0_2 h0_0k w_60 h_63) (cwV 1 hts gf_c_X4_readCondition_c_X4_emit rfl rfl rfl mdV_X4_emit ⟨Nat.le_of_ble_eq_true rfl, Nat.le_of_ble_eq_true rfl⟩) ⟨fun a U g mk q => by obtain ⟨q0, q1, qP, qK, qD⟩ := q; exact ⟨q0, q1, qP, va_K.moved (u := U) (U := U.calling g mk a) (Vm.Alike.refl U.vm) qK, qD⟩, hrv, fun U hU hW => ⟨rfl, by rw [hU], by rw [hU]; exact hPc, va_K.moved hW.alike hKc, hDc.weaken (fun _ _ _ _ => trivial)⟩⟩ rfl rfl hl.1 rfl (lv_room (Nat.le_of_ble_eq_true rfl)) dX4_readCondition_52 ⟨Nat.le_of_ble_eq_true rfl, Nat.le_of_ble_eq_true rfl⟩) hS (fun q _ h => hFc q h) hFc (fun u t H1 locs ht hvm hw hB hz1 hk1 hS => ?_)
          as_aux_lemma =>
          obtain ⟨x_69, w_70⟩ := u
          obtain ⟨hP1, hK1, hD1⟩ := hB
          rw [ht] at hP1
          obtain ⟨hP, hD⟩ := cl_put (w1 := (wd_c_X4_emit h0 h0_0 x_69 h0_2 h0_0 h0_0k w_70)) (nw := (wd_c_X4_readCondition h1 h1_0 h1_f1 x_57 x_58 h1_0 h1_0k h1_0c h0 h0_0 x_69 h0_2 h0_0 h0_0k w_70)) hP hD [2, 3] [0, 1, 4, 5] 4 rfl hqc (by decide +kernel) rfl hk1 hFc hP1 hD1
          generalize H1 = H at hP hS ⊢
          as_aux_lemma =>
          rcases hw with ⟨h_71, h_72⟩
          have h_72 : (x_69, w_70) = _ := h_72
          replace hEX := hEX.trans (exc2_eq h_72)
          exact hU _ _ _ (J55 x_57 x_58 x_69 w_70 g_h0_f1 g_h1_f1 g_h1_f2 g_h1_f3 (RG_w h_71 (by decide +kernel)) h_61 h_62 g_j9_h0_f1 g_j9_h1_f2 g_j9_h1_f3 (RG_w g_67 (by decide +kernel)) g_j9_l5 (RG_w g_j9_l6 (by decide +kernel)) (RG_w g_p3 (by decide +kernel)) hEX _ _ _ hP hD hS (lv_sub hl [0, 1, 3, 4, 5, 6] rfl))
      refine hG _ _ _ ?_
      replace hEX := hEX.trans (if_pos (rfl : j9_l6 = j9_l6))
      refine lv_iload hx hb dX4_readCondition_9 (lv_at hl 0 rfl) ?_
      refine lv_sipush (v := 240) hx hb dX4_readCondition_11 kc_sipush_240 ?_
      refine lv_icmp_ge (tgt := 99) hx hb dX4_readCondition_14 rfl (fun c_73 => ?_) (fun c_73 => ?_)
      · replace hEX := hEX.trans (if_pos c_73)
        have g_74 : RG j9_l6 240 240 := RG_le2 (RG_k 240 240 rfl) g_j9_l6 c_73 (by decide +kernel)
        have hK9 := hK.sub (tys' := []) [] rfl
        exact W.vret hx hb hr (fun t ht hW => ⟨⟨(j9_h1_f2, j9_h1_f3, j9_h0_f1, j9_h0_0c), rfl, ⟨g_j9_h1_f2, g_j9_h1_f3, g_j9_h0_f1, (hR.trans hEX).symm⟩, by rw [ht]; exact hP, va_K.moved hW.alike hK9, hD⟩, hS.F ht⟩) hS.2.2 dX4_readCondition_99
      · replace hEX := hEX.trans (if_neg c_73)
        have d_75 := Int32.not_le.mp c_73
        have g_76 : RG j9_l6 0 239 := RG_lt1 g_j9_l6 (RG_k 240 240 rfl) d_75 (by decide +kernel)
        refine lv_aload_n hx hb dX4_readCondition_17 rfl (lv_at hl 4 rfl) ?_
        as_aux_lemma =>
        obtain ⟨hPc, hDc, hFc, hqc⟩ := cl_cut (wc := (wd_c_X9_isRight h1 h1_0 h1_f1 j9_h1_f2 j9_h1_f3)) hP hD hS hA [0] (by decide +kernel) rfl
        have hKc := hK.sub (tys' := []) [] rfl
        have hrv := va_recv hKc hPc (ci := 9) (q0 := 0) rfl rfl
        refine va_calli (va_runV (As := []) (rest := []) ⟨hx, hb, hml, hown, hts⟩ (c_X9_isRight l dC dI H.size h1 h1_0 h1_f1 j9_h1_f2 j9_h1_f3 g_h1_f1 g_j9_h1_f2 g_j9_h1_f3) (cwV 0 hts gf_c_X4_readCondition_c_X9_isRight rfl rfl rfl mdV_X9_isRight ⟨Nat.le_of_ble_eq_true rfl, Nat.le_of_ble_eq_true rfl⟩) ⟨fun a U g mk q => by obtain ⟨q0, q1, qP, qK, qD⟩ := q; exact ⟨q0, q1, qP, va_K.moved (u := U) (U := U.calling g mk a) (Vm.Alike.refl U.vm) qK, qD⟩, hrv, fun U hU hW => ⟨rfl, by rw [hU], by rw [hU]; exact hPc, va_K.moved hW.alike hKc, hDc.weaken (fun _ _ _ _ => trivial)⟩⟩ rfl rfl hl.1 rfl (lv_room (Nat.le_of_ble_eq_true rfl)) dX4_readCondition_18 ⟨Nat.le_of_ble_eq_true rfl, Nat.le_of_ble_eq_true rfl⟩) hS (fun q _ h => hFc q h) hFc (fun r_77 u t H1 locs ht hvm hw hB hz1 hk1 hS => ?_)
        obtain ⟨hP1, hK1, hD1⟩ := hB
        rw [ht] at hP1
        obtain ⟨hP, hD⟩ := cl_put (w1 := (wd_c_X9_isRight h1 h1_0 h1_f1 j9_h1_f2 j9_h1_f3)) (nw := (wd_c_X4_readCondition h1 h1_0 h1_f1 j9_h1_f2 j9_h1_f3 h1_0 h1_0k h1_0c h0 h0_0 j9_h0_f1 h0_2 h0_0 h0_0k j9_h0_0c)) hP hD [0] [4, 1, 2, 3] 4 rfl hqc (by decide +kernel) rfl hk1 hFc hP1 hD1
        generalize H1 = H at hP hS ⊢
        as_aux_lemma =>
        rcases hw with ⟨h_78, h_79, h_80⟩ | ⟨h_81, h_82, h_83⟩
        · have h_80 : r_77 = _ := h_80
          replace hEX := hEX.trans (exc1_eq h_80)
          replace hEX := hEX.trans (if_pos (show r_77 = 0 from h_78))
          rw [h_78]
          refine lv_if_eq (tgt := 99) hx hb dX4_readCondition_21 rfl (fun c_84 => ?_) (fun c_84 => absurd c_84 (by decide +kernel))
          have hK9 := hK.sub (tys' := []) [] rfl
          exact W.vret hx hb hr (fun t ht hW => ⟨⟨(j9_h1_f2, j9_h1_f3, j9_h0_f1, j9_h0_0c), rfl, ⟨g_j9_h1_f2, (RG_w h_79 (by decide +kernel)), g_j9_h0_f1, (hR.trans hEX).symm⟩, by rw [ht]; exact hP, va_K.moved hW.alike hK9, hD⟩, hS.F ht⟩) hS.2.2 dX4_readCondition_99
        · have h_83 : r_77 = _ := h_83
          replace hEX := hEX.trans (exc1_eq h_83)
          replace hEX := hEX.trans (if_neg (fun q9 : r_77 = 0 => absurd ((show r_77 = 1 from h_81).symm.trans q9) (by decide +kernel)))
          rw [h_81]
          refine lv_if_eq (tgt := 99) hx hb dX4_readCondition_21 rfl (fun c_85 => absurd c_85 (by decide +kernel)) (fun c_85 => ?_)
          refine lv_aload_n hx hb dX4_readCondition_24 rfl (lv_at hl 3 rfl) ?_
          as_aux_lemma =>
          refine lv_aload_n hx hb dX4_readCondition_25 rfl (lv_at hl 4 rfl) ?_
          refine lv_iload_n hx hb dX4_readCondition_26 rfl (lv_at hl 5 rfl) ?_
          refine lv_iload_n hx hb dX4_readCondition_27 rfl (lv_at hl 6 rfl) ?_
          refine lv_if_eq (tgt := 40) hx hb dX4_readCondition_28 rfl (fun c_86 => ?_) (fun c_86 => ?_)
          · replace hEX := hEX.trans (if_pos c_86)
            have g_87 : RG p3 0 0 := RG_eq1 g_p3 (RG_k 0 0 rfl) c_86 (by decide +kernel)
            exact hU _ _ _ (J40 g_h0_f1 g_h1_f1 g_h1_f2 g_h1_f3 g_j9_h0_f1 g_j9_h1_f2 h_82 g_j9_l4 g_j9_l5 g_76 (RG_w g_87 (by decide +kernel)) hEX _ _ _ hP hD hS (lv_sub hl [0, 1, 2, 3, 4, 5, 6] rfl))
          · replace hEX := hEX.trans (if_neg c_86)
            have g_88 : RG p3 1 1 := RG_ne1 g_p3 (q := 0) rfl c_86 (by decide +kernel)
            refine lv_iload hx hb dX4_readCondition_31 (lv_at hl 0 rfl) ?_
            refine lv_if_ne (tgt := 40) hx hb dX4_readCondition_33 rfl (fun c_89 => ?_) (fun c_89 => ?_)
            · replace hEX := hEX.trans (if_neg c_89)
              have g_90 : RG j9_l6 1 239 := RG_ne1 g_76 (q := 0) rfl c_89 (by decide +kernel)
              exact hU _ _ _ (J40 g_h0_f1 g_h1_f1 g_h1_f2 g_h1_f3 g_j9_h0_f1 g_j9_h1_f2 h_82 g_j9_l4 g_j9_l5 (RG_w g_90 (by decide +kernel)) (RG_w g_88 (by decide +kernel)) hEX _ _ _ hP hD hS (lv_sub hl [0, 1, 2, 3, 4, 5, 6] rfl))
            · replace hEX := hEX.trans (if_pos c_89)
              have g_91 : RG j9_l6 0 0 := RG_eq1 g_76 (RG_k 0 0 rfl) c_89 (by decide +kernel)
              refine lv_iconst (v := 1) hx hb dX4_readCondition_36 kc_iconst_1 ?_
              as_aux_lemma =>
              refine lv_goto (tgt := 41) hx hb dX4_readCondition_37 rfl ?_
              exact hU _ _ _ (J41 g_h0_f1 g_h1_f1 g_h1_f2 g_h1_f3 g_j9_h0_f1 g_j9_h1_f2 h_82 g_j9_l4 g_j9_l5 g_91 g_88 hEX _ _ _ hP hD hS (lv_sub hl [0, 1, 2, 3, 4, 5, 6] rfl))
  refine hG _ _ _ ?_
  refine lv_iconst (v := 0) hx hb dX4_readCondition_0 kc_iconst_0 ?_
  refine lv_istore (lv' := [(4, .int 0), (0, .ref h0), (1, .ref h1), (2, .int 0), (3, .int p3)]) hx hb dX4_readCondition_1 hl (Nat.le_of_ble_eq_true rfl) rfl (fun ls hl => ?_)
  refine lv_iconst (v := 0) hx hb dX4_readCondition_3 kc_iconst_0 ?_
  refine lv_istore (lv' := [(5, .int 0), (4, .int 0), (0, .ref h0), (1, .ref h1), (2, .int 0), (3, .int p3)]) hx hb dX4_readCondition_4 hl (Nat.le_of_ble_eq_true rfl) rfl (fun ls hl => ?_)
  refine lv_iconst (v := 0) hx hb dX4_readCondition_6 kc_iconst_0 ?_
  refine lv_istore (lv' := [(6, .int 0), (5, .int 0), (4, .int 0), (0, .ref h0), (1, .ref h1), (2, .int 0), (3, .int p3)]) hx hb dX4_readCondition_7 hl (Nat.le_of_ble_eq_true rfl) rfl (fun ls hl => ?_)
  exact hU _ _ _ (J9 exF 0 0 0 h1_f2 h1_f3 h0_f1 h0_0c MU_F g_h0_f1 g_h1_f1 g_h1_f2 g_h1_f3 g_h0_f1 g_h1_f2 g_h1_f3 (RG_w (RG_k 0 0 rfl) (by decide +kernel)) (RG_w (RG_k 0 0 rfl) (by decide +kernel)) (RG_w (RG_k 0 0 rfl) (by decide +kernel)) g_p3 hEX _ _ _ hP hD hS (lv_sub hl [0, 1, 2, 3, 4, 5, 6] rfl))
noncomputable def wd_c_X9_expect_3 (a0 : Nat) (a1 : Nat) (a2 : Int32) (a3 : Int32) (a4 : Int32) (a5 : Nat) (a6 : ClassId) (a7 : Nat → Int32) : va_W := [(a0, .inr (9, [.ref a1, .int a2, .int a3, .int a4])), (a5, .inl (a6, 240, .inl a7))]
noncomputable def wf_c_X9_expect_3 : List Cond := List.cons (.code yX9_expect cX9_expect 2 none) (@HAppend.hAppend (List Cond) (List Cond) (List Cond) _ [.fieldLink RX9 15 "BuoyVote$Tape" "wrong" "I", .methodLink RX9 29 yX9_peek, .instanceMethod yX9_peek, .selects RX9 yX9_peek yX9_peek, .initialized RX9, .code yX9_peek cX9_peek 1 (some .int), .fieldLink RX9 22 "BuoyVote$Tape" "at" "I", .fieldLink RX9 19 "BuoyVote$Tape" "length" "I", .fieldLink RX9 11 "BuoyVote$Tape" "bytes" "[I", .methodLink RX9 25 yX9_refuse, .instanceMethod yX9_refuse, .selects RX9 yX9_refuse yX9_refuse, .code yX9_refuse cX9_refuse 2 none] wsX90)
theorem iw_c_X9_expect_3_X9 : ∀ w ∈ wsX90, w ∈ wf_c_X9_expect_3 := fun w h => List.mem_cons_of_mem _ (List.mem_append_right _ h)
set_option maxRecDepth 20000 in
theorem gf_c_X9_expect_3_c_X9_refuse : GoodIn wf_c_X9_expect_3 (wsV RX9 25 RX9 yX9_refuse wf_c_X9_refuse) := goodIn_app (gi_l [10, 11, 12, 5] rfl rfl) (gi_cons (j := 13) rfl rfl (goodIn_app (gi_l [1] rfl rfl) (goodIn_sub iw_c_X9_expect_3_X9 gw_X9)))
set_option maxRecDepth 20000 in
theorem gf_c_X9_expect_3_c_X9_peek : GoodIn wf_c_X9_expect_3 (wsV RX9 29 RX9 yX9_peek wf_c_X9_peek) := goodIn_app (gi_l [2, 3, 4, 5] rfl rfl) (gi_cons (j := 6) rfl rfl (goodIn_app (gi_l [7, 8, 9] rfl rfl) (goodIn_sub iw_c_X9_expect_3_X9 gw_X9)))
set_option maxHeartbeats 4000000 in
set_option maxRecDepth 100000 in
theorem c_X9_expect_3 (l : Launch) (dC : Nat → ClassId) (dI : Nat → Nat → Nat) (sz : Nat) (h0 : Nat) (p1 : Int32) (h0_0 : Nat) (h0_f1 : Int32) (h0_f2 : Int32) (h0_f3 : Int32) (h0_0k : ClassId) (h0_0c : Nat → Int32) (g_p1 : RG p1 0 63) (g_h0_f1 : RG h0_f1 0 240) (g_h0_f2 : RG h0_f2 0 240) (g_h0_f3 : RG h0_f3 (-1) 240) (a_h0_0c : AI h0_0c 0 255) : Met l yX9_expect wf_c_X9_expect_3 ({ frames := 1, cells := 0, slots := 0, locals := 21 }) (va_Pc [.ref h0, .int p1] (fun U => U.heap.size = sz ∧ va_P (dC, dI) vwCl (wd_c_X9_expect_3 h0 h0_0 h0_f1 h0_f2 h0_f3 h0_0 h0_0k h0_0c) U.heap ∧ va_K (dC, dI) vwCl [(h0_0k, .int)] U ∧ va_D (fun _ => True) (wd_c_X9_expect_3 h0 h0_0 h0_f1 h0_f2 h0_f3 h0_0 h0_0k h0_0c))) (va_Qv (fun (u : (Int32) × (Int32)) => (RG u.1 0 240 ∧ RG u.2 (-1) 240 ∧ h0_f2.toInt + 0 ≤ (u.1).toInt ∧ (u.1, u.2) = fx_c_X9_expect_3 p1 h0_f1 h0_f2 h0_f3 h0_0c)) (fun (u : (Int32) × (Int32)) t => va_P (dC, dI) vwCl (wd_c_X9_expect_3 h0 h0_0 h0_f1 (u.1) (u.2) h0_0 h0_0k h0_0c) t.heap ∧ va_K (dC, dI) vwCl [] t ∧ va_D (va_A (wd_c_X9_expect_3 h0 h0_0 h0_f1 h0_f2 h0_f3 h0_0 h0_0k h0_0c) sz) (wd_c_X9_expect_3 h0 h0_0 h0_f1 (u.1) (u.2) h0_0 h0_0k h0_0c)) (va_A (wd_c_X9_expect_3 h0 h0_0 h0_f1 h0_f2 h0_f3 h0_0 h0_0k h0_0c) sz)) 0 0 (va_A (wd_c_X9_expect_3 h0 h0_0 h0_f1 h0_f2 h0_f3 h0_0 h0_0k h0_0c) sz) := by
  refine Met.ofW (cc := cX9_expect) (maxL := 2) (ret := none) (by decide +kernel) rfl ?_
  intro p e s m args below meth c s₁ B hml hv
  obtain ⟨rfl, hsz, hP, hK, hD0⟩ := hv
  have hx := B.exec
  have hb := B.bytes
  have hr := B.returns
  have hts := atoms_spec (ws := wf_c_X9_expect_3) B.pre
  have hown : s.vm.findClass RX9 = some m.cls := findClass_of_methodNamed B.named
  have hlocks := B.notSynchronized
  subst hsz
  have hD := hD0.self (sz := s.heap.size)
  generalize hAe : va_A (wd_c_X9_expect_3 h0 h0_0 h0_f1 h0_f2 h0_f3 h0_0 h0_0k h0_0c) s.heap.size = A at hD ⊢
  have hA : ∀ q : Nat, s.heap.size ≤ q → A q := fun q h => by rw [← hAe]; exact Or.inr h
  have hP : va_P (dC, dI) vwCl (wd_c_X9_expect_3 h0 h0_0 h0_f1 h0_f2 h0_f3 h0_0 h0_0k h0_0c) s.heap := hP
  have hl := lv_entry ([.ref h0, .int p1]) (n := 2) (Nat.le_of_ble_eq_true rfl)
  rw [lg_entry_eq]
  generalize (lg_sl ([.ref h0, .int p1]) ++ List.replicate (2 - (lg_sl ([.ref h0, .int p1])).length) Slot.unset).toArray = ls at hl ⊢
  have hl : lv_has ls 2 [(0, .ref h0), (1, .int p1)] := hl
  obtain ⟨H, hHe⟩ : ∃ H : Heap, s.heap = H := ⟨_, rfl⟩
  have hS : va_S A s.heap H [] := by rw [hHe]; exact va_S.rf
  have hP : va_P (dC, dI) vwCl (wd_c_X9_expect_3 h0 h0_0 h0_f1 h0_f2 h0_f3 h0_0 h0_0k h0_0c) H := by rw [← hHe]; exact hP
  rw [hHe]
  obtain ⟨RES, hR⟩ : ∃ z, fx_c_X9_expect_3 p1 h0_f1 h0_f2 h0_f3 h0_0c = z := ⟨_, rfl⟩
  have hEX : RES = fx_c_X9_expect_3 p1 h0_f1 h0_f2 h0_f3 h0_0c := hR.symm
  refine wj (fun G hG hU => ?_)
  as_aux_lemma =>
  have J29 : ∀ (j29_h0_f2 : Int32) (g_h0_f1 : RG h0_f1 0 240) (g_h0_f2 : RG h0_f2 0 240) (g_h0_f3 : RG h0_f3 (-1) 240) (g_j29_h0_f2 : RG j29_h0_f2 0 240) (g_p1 : RG p1 0 63) (r_h0_f2_j29_h0_f2 : h0_f2.toInt + 0 ≤ j29_h0_f2.toInt) (hEX : RES = fx_c_X9_expect_3_p29 h0_f3 j29_h0_f2) (H : Heap) (locs : List Loc) (ls : Array Slot) (hP : va_P (dC, dI) vwCl (wd_c_X9_expect_3 h0 h0_0 h0_f1 j29_h0_f2 h0_f3 h0_0 h0_0k h0_0c) H) (hD : va_D A (wd_c_X9_expect_3 h0 h0_0 h0_f1 j29_h0_f2 h0_f3 h0_0 h0_0k h0_0c)) (hS : va_S A s.heap H locs) (hl : lv_has ls 2 [(0, .ref h0)]), G H locs (F0 m 29 ls []) := by
    as_aux_lemma =>
    intro j29_h0_f2 g_h0_f1 g_h0_f2 g_h0_f3 g_j29_h0_f2 g_p1 r_h0_f2_j29_h0_f2 hEX H locs ls hP hD hS hl
    refine hG _ _ _ ?_
    refine lv_aload_n hx hb dX9_expect_29 rfl (lv_at hl 0 rfl) ?_
    refine lv_aload_n hx hb dX9_expect_30 rfl (lv_at hl 0 rfl) ?_
    refine va_get (D := (dC, dI)) (ci := 9) (v := .int j29_h0_f2) (C := RX9) (T := TX9) (N := 4) hx hb hts iw_c_X9_expect_3_X9 hown hK hP 0 rfl rfl 2 (by decide +kernel) (hts (.fieldLink RX9 22 "BuoyVote$Tape" "at" "I") (List.mem_of_getElem? (i := 7) rfl)) (fun _ h9 => h9) rfl dX9_expect_31 ?_
    obtain ⟨hPc, hDc, hFc, hqc⟩ := cl_cut (wc := (wd_c_X9_refuse h0 h0_0 h0_f1 j29_h0_f2 h0_f3)) hP hD hS hA [0] (by decide +kernel) rfl
    have hKc := hK.sub (tys' := []) [] rfl
    have hrv := va_recv hKc hPc (ci := 9) (q0 := 0) rfl rfl
    refine va_callv (va_runV (As := [.int j29_h0_f2]) (rest := []) ⟨hx, hb, hml, hown, hts⟩ (c_X9_refuse l dC dI H.size h0 j29_h0_f2 h0_0 h0_f1 j29_h0_f2 h0_f3 g_j29_h0_f2 g_h0_f1 g_j29_h0_f2 g_h0_f3) (cwV 1 hts gf_c_X9_expect_3_c_X9_refuse rfl rfl rfl mdV_X9_refuse ⟨Nat.le_of_ble_eq_true rfl, Nat.le_of_ble_eq_true rfl⟩) ⟨fun a U g mk q => by obtain ⟨q0, q1, qP, qK, qD⟩ := q; exact ⟨q0, q1, qP, va_K.moved (u := U) (U := U.calling g mk a) (Vm.Alike.refl U.vm) qK, qD⟩, hrv, fun U hU hW => ⟨rfl, by rw [hU], by rw [hU]; exact hPc, va_K.moved hW.alike hKc, hDc.weaken (fun _ _ _ _ => trivial)⟩⟩ rfl rfl hl.1 rfl (lv_room (Nat.le_of_ble_eq_true rfl)) dX9_expect_34 ⟨Nat.le_of_ble_eq_true rfl, Nat.le_of_ble_eq_true rfl⟩) hS (fun q _ h => hFc q h) hFc (fun x_2 t H1 locs ht hvm hw hB hz1 hk1 hS => ?_)
    obtain ⟨hP1, hK1, hD1⟩ := hB
    rw [ht] at hP1
    obtain ⟨hP, hD⟩ := cl_put (w1 := (wd_c_X9_refuse h0 h0_0 h0_f1 j29_h0_f2 x_2)) (nw := (wd_c_X9_expect_3 h0 h0_0 h0_f1 j29_h0_f2 x_2 h0_0 h0_0k h0_0c)) hP hD [0] [2, 1] 2 rfl hqc (by decide +kernel) rfl hk1 hFc hP1 hD1
    generalize H1 = H at hP hS ⊢
    as_aux_lemma =>
    rcases hw with ⟨h_3, h_4⟩
    have h_4 : x_2 = _ := h_4
    replace hEX := hEX.trans (exc1_eq h_4)
    have hK9 := hK.sub (tys' := []) [] rfl
    exact W.vret hx hb hr (fun t ht hW => ⟨⟨(j29_h0_f2, x_2), rfl, ⟨g_j29_h0_f2, (RG_w h_3 (by decide +kernel)), (by have := r_h0_f2_j29_h0_f2; show h0_f2.toInt + 0 ≤ j29_h0_f2.toInt; omega), (hR.trans hEX).symm⟩, by rw [ht]; exact hP, va_K.moved hW.alike hK9, hD⟩, hS.F ht⟩) hS.2.2 dX9_expect_37
  refine hG _ _ _ ?_
  refine lv_aload_n hx hb dX9_expect_0 rfl (lv_at hl 0 rfl) ?_
  refine va_get (D := (dC, dI)) (ci := 9) (v := .int h0_f3) (C := RX9) (T := TX9) (N := 4) hx hb hts iw_c_X9_expect_3_X9 hown hK hP 0 rfl rfl 3 (by decide +kernel) (hts (.fieldLink RX9 15 "BuoyVote$Tape" "wrong" "I") (List.mem_of_getElem? (i := 1) rfl)) (fun _ h9 => h9) rfl dX9_expect_1 ?_
  refine lv_iconst (v := (-1)) hx hb dX9_expect_4 kc_iconst_m1 ?_
  refine lv_icmp_ne (tgt := 29) hx hb dX9_expect_5 rfl (fun c_5 => ?_) (fun c_5 => ?_)
  · replace hEX := hEX.trans (if_neg c_5)
    have g_6 : RG h0_f3 0 240 := RG_ne1 g_h0_f3 (q := (-1)) rfl c_5 (by decide +kernel)
    exact hU _ _ _ (J29 h0_f2 g_h0_f1 g_h0_f2 (RG_w g_6 (by decide +kernel)) g_h0_f2 g_p1 (by omega) hEX _ _ _ hP hD hS (lv_sub hl [0] rfl))
  · replace hEX := hEX.trans (if_pos c_5)
    have g_7 : RG h0_f3 (-1) (-1) := RG_eq1 g_h0_f3 (RG_k (-1) (-1) rfl) c_5 (by decide +kernel)
    refine lv_aload_n hx hb dX9_expect_8 rfl (lv_at hl 0 rfl) ?_
    as_aux_lemma =>
    obtain ⟨hPc, hDc, hFc, hqc⟩ := cl_cut (wc := (wd_c_X9_peek h0 h0_0 h0_f1 h0_f2 h0_f3 h0_0 h0_0k h0_0c)) hP hD hS hA [0, 1] (by decide +kernel) rfl
    have hKc := hK.sub (tys' := [(h0_0k, .int)]) [0] rfl
    have hrv := va_recv hKc hPc (ci := 9) (q0 := 0) rfl rfl
    refine va_calli (va_runV (As := []) (rest := []) ⟨hx, hb, hml, hown, hts⟩ (c_X9_peek l dC dI H.size h0 h0_0 h0_f1 h0_f2 h0_f3 h0_0k h0_0c g_h0_f1 g_h0_f2 (RG_w g_7 (by decide +kernel)) a_h0_0c) (cwV 0 hts gf_c_X9_expect_3_c_X9_peek rfl rfl rfl mdV_X9_peek ⟨Nat.le_of_ble_eq_true rfl, Nat.le_of_ble_eq_true rfl⟩) ⟨fun a U g mk q => by obtain ⟨q0, q1, qP, qK, qD⟩ := q; exact ⟨q0, q1, qP, va_K.moved (u := U) (U := U.calling g mk a) (Vm.Alike.refl U.vm) qK, qD⟩, hrv, fun U hU hW => ⟨rfl, by rw [hU], by rw [hU]; exact hPc, va_K.moved hW.alike hKc, hDc.weaken (fun _ _ _ _ => trivial)⟩⟩ rfl rfl hl.1 rfl (lv_room (Nat.le_of_ble_eq_true rfl)) dX9_expect_9 ⟨Nat.le_of_ble_eq_true rfl, Nat.le_of_ble_eq_true rfl⟩) hS (fun q _ h => hFc q h) hFc (fun r_8 x_9 t H1 locs ht hvm hw hB hz1 hk1 hS => ?_)
    obtain ⟨hP1, hK1, hD1⟩ := hB
    rw [ht] at hP1
    obtain ⟨hP, hD⟩ := cl_put (w1 := (wd_c_X9_peek h0 h0_0 h0_f1 x_9 h0_f3 h0_0 h0_0k h0_0c)) (nw := (wd_c_X9_expect_3 h0 h0_0 h0_f1 x_9 h0_f3 h0_0 h0_0k h0_0c)) hP hD [0, 1] [2, 3] 2 rfl hqc (by decide +kernel) rfl hk1 hFc hP1 hD1
    generalize H1 = H at hP hS ⊢
    as_aux_lemma =>
    rcases hw with ⟨h_10, h_11, h_12, h_13⟩ | ⟨h_14, h_15, h_16, h_17, h_18⟩
    · have h_13 : (r_8, x_9) = _ := h_13
      replace hEX := hEX.trans (exc2_eq h_13)
      replace hEX := hEX.trans (if_pos (show r_8 = (-1) from h_10))
      rw [h_10]
      refine lv_iload_n hx hb dX9_expect_12 rfl (lv_at hl 1 rfl) ?_
      refine lv_icmp_ne (tgt := 29) hx hb dX9_expect_13 rfl (fun c_19 => ?_) (fun c_19 => ?_)
      · replace hEX := hEX.trans (if_neg c_19)
        exact hU _ _ _ (J29 x_9 g_h0_f1 g_h0_f2 (RG_w g_7 (by decide +kernel)) h_11 g_p1 (by have := h_12; omega) hEX _ _ _ hP hD hS (lv_sub hl [0] rfl))
      · replace hEX := hEX.trans (if_pos c_19)
        exact RG_dead (RG_eq1 (RG_k (-1) (-1) rfl) g_p1 c_19 (a' := 0) (b' := (-1)) (by decide +kernel)) (by decide +kernel)
    · have h_18 : (r_8, x_9) = _ := h_18
      replace hEX := hEX.trans (exc2_eq h_18)
      replace hEX := hEX.trans (if_neg (RG_neq (x := r_8) (c := (-1)) (show RG r_8 0 255 from h_14) (by decide +kernel)))
      refine lv_iload_n hx hb dX9_expect_12 rfl (lv_at hl 1 rfl) ?_
      as_aux_lemma =>
      refine lv_icmp_ne (tgt := 29) hx hb dX9_expect_13 rfl (fun c_20 => ?_) (fun c_20 => ?_)
      · replace hEX := hEX.trans (if_neg c_20)
        exact hU _ _ _ (J29 x_9 (RG_w h_16 (by decide +kernel)) g_h0_f2 (RG_w g_7 (by decide +kernel)) (RG_w h_15 (by decide +kernel)) g_p1 (by have := h_17; omega) hEX _ _ _ hP hD hS (lv_sub hl [0] rfl))
      · replace hEX := hEX.trans (if_pos c_20)
        have g_21 : RG r_8 0 63 := RG_eq1 h_14 g_p1 c_20 (by decide +kernel)
        refine lv_aload_n hx hb dX9_expect_16 rfl (lv_at hl 0 rfl) ?_
        refine lv_dup hx hb dX9_expect_17 rfl ?_
        refine va_get (D := (dC, dI)) (ci := 9) (v := .int x_9) (C := RX9) (T := TX9) (N := 4) hx hb hts iw_c_X9_expect_3_X9 hown hK hP 0 rfl rfl 2 (by decide +kernel) (hts (.fieldLink RX9 22 "BuoyVote$Tape" "at" "I") (List.mem_of_getElem? (i := 7) rfl)) (fun _ h9 => h9) rfl dX9_expect_18 ?_
        refine lv_iconst (v := 1) hx hb dX9_expect_21 kc_iconst_1 ?_
        refine lv_iadd hx hb dX9_expect_22 ?_
        refine lv_topi (fun x_22 ex_22 => ?_)
        replace hEX := hEX.trans (exl_eq ex_22)
        have g_23 : RG x_22 1 240 := RG_add ex_22 h_15 (RG_k 1 1 rfl) (by decide +kernel)
        have q_24 : x_22.toInt = x_9.toInt + 1 := eq_add ex_22 h_15 (q := 1) rfl (by decide +kernel)
        refine va_put (D := (dC, dI)) (ci := 9) (v := .int x_22) (ty := .int) (C := RX9) (T := TX9) (N := 4) hx hb hts iw_c_X9_expect_3_X9 tyX9 tyX9_ok nmX9 hown hK hP hD hS 0 rfl rfl 2 (by decide +kernel) (hts (.fieldLink RX9 22 "BuoyVote$Tape" "at" "I") (List.mem_of_getElem? (i := 7) rfl)) (fun _ h9 => h9) rfl (by decide +kernel) rfl rfl (Nat.le_of_ble_eq_true rfl) dX9_expect_23 (fun H locs hP hD hS => ?_)
        as_aux_lemma =>
        have hP : va_P (dC, dI) vwCl (wd_c_X9_expect_3 h0 h0_0 h0_f1 x_22 h0_f3 h0_0 h0_0k h0_0c) H := hP
        have hD : va_D A (wd_c_X9_expect_3 h0 h0_0 h0_f1 x_22 h0_f3 h0_0 h0_0k h0_0c) := hD
        refine lv_goto (tgt := 37) hx hb dX9_expect_26 rfl ?_
        have hK9 := hK.sub (tys' := []) [] rfl
        exact W.vret hx hb hr (fun t ht hW => ⟨⟨(x_22, h0_f3), rfl, ⟨(RG_w g_23 (by decide +kernel)), (RG_w g_7 (by decide +kernel)), (by have := h_17; have := q_24; show h0_f2.toInt + 0 ≤ x_22.toInt; omega), (hR.trans hEX).symm⟩, by rw [ht]; exact hP, va_K.moved hW.alike hK9, hD⟩, hS.F ht⟩) hS.2.2 dX9_expect_37
noncomputable def wd_c_X4_faultOf (a0 : Nat) (a1 : Nat) (a2 : Int32) (a3 : Nat) (a4 : Nat) (a5 : Nat) (a6 : Int32) (a7 : Int32) (a8 : Int32) (a9 : Nat) (a10 : ClassId) (a11 : Nat → Int32) (a12 : Nat) (a13 : ClassId) (a14 : Nat → Int32) : va_W := [(a0, .inr (4, [.ref a1, .int a2, .ref a3])), (a4, .inr (9, [.ref a5, .int a6, .int a7, .int a8])), (a9, .inl (a10, 240, .inl a11)), (a12, .inl (a13, 240, .inl a14))]
noncomputable def wf_c_X4_faultOf : List Cond := List.cons (.code yX4_faultOf cX4_faultOf 4 (some .int)) (@HAppend.hAppend (List Cond) (List Cond) (List Cond) _ (@HAppend.hAppend (List Cond) (List Cond) (List Cond) _ [.fieldLink RX4 20 "BuoyVote$Law" "length" "I", .methodLink RX4 34 yX9_rewind, .instanceMethod yX9_rewind, .selects RX9 yX9_rewind yX9_rewind, .initialized RX9, .code yX9_rewind cX9_rewind 1 none, .fieldLink RX9 22 "BuoyVote$Tape" "at" "I", .fieldLink RX9 15 "BuoyVote$Tape" "wrong" "I", .methodLink RX4 37 yX9_expect, .instanceMethod yX9_expect, .selects RX9 yX9_expect yX9_expect, .code yX9_expect cX9_expect 2 none, .methodLink RX9 29 yX9_peek, .instanceMethod yX9_peek, .selects RX9 yX9_peek yX9_peek, .code yX9_peek cX9_peek 1 (some .int), .fieldLink RX9 19 "BuoyVote$Tape" "length" "I", .fieldLink RX9 11 "BuoyVote$Tape" "bytes" "[I", .methodLink RX9 25 yX9_refuse, .instanceMethod yX9_refuse, .selects RX9 yX9_refuse yX9_refuse, .code yX9_refuse cX9_refuse 2 none, .methodLink RX4 41 yX9_peek, .methodLink RX4 45 yX4_startsUnit, .static yX4_startsUnit, .initialized RX4, .code yX4_startsUnit cX4_startsUnit 1 (some .boolean), .methodLink RX4 49 yX4_readSum, .instanceMethod yX4_readSum, .selects RX4 yX4_readSum yX4_readSum, .code yX4_readSum cX4_readSum 6 none, .methodLink RX4 72 yX9_isRight, .instanceMethod yX9_isRight, .selects RX9 yX9_isRight yX9_isRight, .code yX9_isRight cX9_isRight 1 (some .boolean), .methodLink RX4 85 yX4_readAtom, .instanceMethod yX4_readAtom, .selects RX4 yX4_readAtom yX4_readAtom, .code yX4_readAtom cX4_readAtom 6 none, .methodLink RX4 93 yJ0_indexOf_0f7a4, .instanceMethod yJ0_indexOf_0f7a4, .selects RJ0 yJ0_indexOf_0f7a4 yJ0_indexOf_0f7a4, .initialized RJ0, .code yJ0_indexOf_0f7a4 cJ0_indexOf_0f7a4 2 (some .int), .methodLink RJ0 633 yJ0_indexOf_7cf53, .instanceMethod yJ0_indexOf_7cf53, .selects RJ0 yJ0_indexOf_7cf53 yJ0_indexOf_7cf53, .code yJ0_indexOf_7cf53 cJ0_indexOf_7cf53 3 (some .int), .methodLink RJ0 492 yJ0_isLatin1_aae02, .instanceMethod yJ0_isLatin1_aae02, .selects RJ0 yJ0_isLatin1_aae02 yJ0_isLatin1_aae02, .code yJ0_isLatin1_aae02 cJ0_isLatin1_aae02 1 (some .boolean), .fieldLink RJ0 38 "java/lang/String" "COMPACT_STRINGS" "Z", .fieldLink RJ0 15 "java/lang/String" "coder" "B", .fieldLink RJ0 9 "java/lang/String" "value" "[B", .methodLink RJ0 505 yJ0_length_8abf5, .instanceMethod yJ0_length_8abf5, .selects RJ0 yJ0_length_8abf5 yJ0_length_8abf5, .code yJ0_length_8abf5 cJ0_length_8abf5 1 (some .int), .methodLink RJ0 335 yJ0_coder_7d493, .instanceMethod yJ0_coder_7d493, .selects RJ0 yJ0_coder_7d493 yJ0_coder_7d493, .code yJ0_coder_7d493 cJ0_coder_7d493 1 (some .byte), .methodLink RJ0 637 yJ1_indexOf_4cfef, .static yJ1_indexOf_4cfef, .initialized RJ1, .code yJ1_indexOf_4cfef cJ1_indexOf_4cfef 4 (some .int), .methodLink RJ1 88 yJ1_canEncode_9a6ad, .static yJ1_canEncode_9a6ad, .code yJ1_canEncode_9a6ad cJ1_canEncode_9a6ad 1 (some .boolean), .methodLink RJ1 92 Lib.Math.max.name, .static Lib.Math.max.name, .initialized "java/lang/Math", .code Lib.Math.max.name Lib.Math.max.code 2 (some .int), .methodLink RJ1 38 Lib.Math.min.name, .static Lib.Math.min.name, .code Lib.Math.min.name Lib.Math.min.code 2 (some .int), .methodLink RJ1 95 yJ1_indexOfChar_4cfef, .static yJ1_indexOfChar_4cfef, .code yJ1_indexOfChar_4cfef cJ1_indexOfChar_4cfef 6 (some .int), .methodLink RX4 99 yX9_number, .instanceMethod yX9_number, .selects RX9 yX9_number yX9_number, .code yX9_number cX9_number 4 (some .int), .methodLink RX4 82 yX9_refuseHere, .instanceMethod yX9_refuseHere, .selects RX9 yX9_refuseHere yX9_refuseHere, .code yX9_refuseHere cX9_refuseHere 1 none, .methodLink RX4 79 yX9_skip, .instanceMethod yX9_skip, .selects RX9 yX9_skip yX9_skip, .code yX9_skip cX9_skip 1 none, .methodLink RX4 60 yX4_emit, .instanceMethod yX4_emit, .selects RX4 yX4_emit yX4_emit, .code yX4_emit cX4_emit 2 none, .fieldLink RX4 11 "BuoyVote$Law" "code" "[I", .methodLink RX4 88 yX9_takeEither, .instanceMethod yX9_takeEither, .selects RX9 yX9_takeEither yX9_takeEither, .code yX9_takeEither cX9_takeEither 4 (some .int), .methodLink RX4 53 yX4_isComparison, .static yX4_isComparison, .code yX4_isComparison cX4_isComparison 1 (some .boolean), .methodLink RX4 56 yX4_readCondition, .instanceMethod yX4_readCondition, .selects RX4 yX4_readCondition yX4_readCondition, .code yX4_readCondition cX4_readCondition 7 none, .methodLink RX4 76 yX4_readUnit, .instanceMethod yX4_readUnit, .selects RX4 yX4_readUnit yX4_readUnit, .code yX4_readUnit cX4_readUnit 5 none, .methodLink RX4 63 yX9_take, .instanceMethod yX9_take, .selects RX9 yX9_take yX9_take, .code yX9_take cX9_take 2 (some .boolean), .methodLink RX4 66 yX9_expectEnd, .instanceMethod yX9_expectEnd, .selects RX9 yX9_expectEnd yX9_expectEnd, .code yX9_expectEnd cX9_expectEnd 1 none, .methodLink RX4 69 yX9_wrongAt, .instanceMethod yX9_wrongAt, .selects RX9 yX9_wrongAt yX9_wrongAt, .code yX9_wrongAt cX9_wrongAt 1 (some .int)] wsX40) wsX90)
theorem iw_c_X4_faultOf_X4 : ∀ w ∈ wsX40, w ∈ wf_c_X4_faultOf := fun w h => List.mem_cons_of_mem _ (List.mem_append_left _ (List.mem_append_right _ h))
theorem iw_c_X4_faultOf_X9 : ∀ w ∈ wsX90, w ∈ wf_c_X4_faultOf := fun w h => List.mem_cons_of_mem _ (List.mem_append_right _ h)
set_option maxRecDepth 20000 in
theorem gf_c_X4_faultOf_c_X9_expectEnd : GoodIn wf_c_X4_faultOf (wsV RX4 66 RX9 yX9_expectEnd wf_c_X9_expectEnd) := goodIn_app (gi_l [117, 118, 119, 5] rfl rfl) (gi_cons (j := 120) rfl rfl (goodIn_app (gi_l [13, 14, 15, 5, 16, 7, 17, 18, 19, 20, 21, 22, 8] rfl rfl) (goodIn_sub iw_c_X4_faultOf_X9 gw_X9)))
set_option maxRecDepth 20000 in
theorem gf_c_X4_faultOf_c_X9_wrongAt : GoodIn wf_c_X4_faultOf (wsV RX4 69 RX9 yX9_wrongAt wf_c_X9_wrongAt) := goodIn_app (gi_l [121, 122, 123, 5] rfl rfl) (gi_cons (j := 124) rfl rfl (goodIn_app (gi_l [8] rfl rfl) (goodIn_sub iw_c_X4_faultOf_X9 gw_X9)))
set_option maxRecDepth 20000 in
theorem gf_c_X4_faultOf_c_X4_emit : GoodIn wf_c_X4_faultOf (wsV RX4 60 RX4 yX4_emit wf_c_X4_emit) := goodIn_app (gi_l [93, 94, 95, 26] rfl rfl) (gi_cons (j := 96) rfl rfl (goodIn_app (gi_l [1, 97] rfl rfl) (goodIn_sub iw_c_X4_faultOf_X4 gw_X4)))
set_option maxRecDepth 20000 in
theorem gf_c_X4_faultOf_c_X9_take : GoodIn wf_c_X4_faultOf (wsV RX4 63 RX9 yX9_take wf_c_X9_take) := goodIn_app (gi_l [113, 114, 115, 5] rfl rfl) (gi_cons (j := 116) rfl rfl (goodIn_app (gi_l [8, 13, 14, 15, 5, 16, 7, 17, 18] rfl rfl) (goodIn_sub iw_c_X4_faultOf_X9 gw_X9)))
set_option maxRecDepth 20000 in
theorem gf_c_X4_faultOf_c_X4_readCondition : GoodIn wf_c_X4_faultOf (wsV RX4 56 RX4 yX4_readCondition wf_c_X4_readCondition) := goodIn_app (gi_l [105, 106, 107, 26] rfl rfl) (gi_cons (j := 108) rfl rfl (goodIn_app (goodIn_app (gi_l [32, 33, 34, 5, 35, 8, 109, 110, 111, 26, 112, 23, 14, 15, 16, 7, 17, 18, 102, 103, 104, 85, 86, 87, 88, 19, 20, 21, 22, 89, 90, 91, 92, 28, 29, 30, 31, 36, 37, 38, 39, 40, 41, 42, 43, 44, 45, 46, 47, 48, 49, 50, 51, 52, 53, 54, 55, 56, 57, 58, 59, 60, 61, 62, 63, 64, 65, 66, 67, 68, 69, 70, 71, 72, 73, 74, 75, 76, 77, 78, 79, 80, 81, 82, 83, 84, 93, 94, 95, 96, 1, 97, 98, 99, 100, 101, 13, 9, 10, 11, 12, 24, 25, 27, 113, 114, 115, 116, 105, 106, 107] rfl rfl) (goodIn_sub iw_c_X4_faultOf_X9 gw_X9)) (goodIn_sub iw_c_X4_faultOf_X4 gw_X4)))
set_option maxRecDepth 20000 in
theorem gf_c_X4_faultOf_c_X9_expect_3 : GoodIn wf_c_X4_faultOf (wsV RX4 37 RX9 yX9_expect wf_c_X9_expect_3) := goodIn_app (gi_l [9, 10, 11, 5] rfl rfl) (gi_cons (j := 12) rfl rfl (goodIn_app (gi_l [8, 13, 14, 15, 5, 16, 7, 17, 18, 19, 20, 21, 22] rfl rfl) (goodIn_sub iw_c_X4_faultOf_X9 gw_X9)))
set_option maxRecDepth 20000 in
theorem gf_c_X4_faultOf_c_X4_readSum : GoodIn wf_c_X4_faultOf (wsV RX4 49 RX4 yX4_readSum wf_c_X4_readSum) := goodIn_app (gi_l [28, 29, 30, 26] rfl rfl) (gi_cons (j := 31) rfl rfl (goodIn_app (goodIn_app (gi_l [32, 33, 34, 5, 35, 8, 36, 37, 38, 26, 39, 23, 14, 15, 16, 7, 17, 18, 40, 41, 42, 43, 44, 45, 46, 47, 48, 49, 50, 51, 52, 53, 54, 55, 56, 57, 58, 59, 60, 61, 62, 63, 64, 65, 66, 67, 68, 69, 70, 71, 72, 73, 74, 75, 76, 77, 78, 79, 80, 81, 82, 83, 84, 85, 86, 87, 88, 19, 20, 21, 22, 89, 90, 91, 92, 28, 29, 30, 93, 94, 95, 96, 1, 97, 98, 99, 100, 101, 13, 9, 10, 11, 12] rfl rfl) (goodIn_sub iw_c_X4_faultOf_X9 gw_X9)) (goodIn_sub iw_c_X4_faultOf_X4 gw_X4)))
set_option maxRecDepth 20000 in
theorem gf_c_X4_faultOf_c_X9_peek : GoodIn wf_c_X4_faultOf (wsV RX4 41 RX9 yX9_peek wf_c_X9_peek) := goodIn_app (gi_l [23, 14, 15, 5] rfl rfl) (gi_cons (j := 16) rfl rfl (goodIn_app (gi_l [7, 17, 18] rfl rfl) (goodIn_sub iw_c_X4_faultOf_X9 gw_X9)))
set_option maxRecDepth 20000 in
theorem gf_c_X4_faultOf_c_X4_isComparison : GoodIn wf_c_X4_faultOf (va_wsS RX4 53 yX4_isComparison wf_c_X4_isComparison) := goodIn_app (gi_l [102, 103, 26] rfl rfl) (gi_cons (j := 104) rfl rfl gi_nil)
set_option maxRecDepth 20000 in
theorem gf_c_X4_faultOf_c_X4_isComparison_1 : GoodIn wf_c_X4_faultOf (va_wsS RX4 53 yX4_isComparison wf_c_X4_isComparison_1) := goodIn_app (gi_l [102, 103, 26] rfl rfl) (gi_cons (j := 104) rfl rfl gi_nil)
set_option maxRecDepth 20000 in
theorem gf_c_X4_faultOf_c_X9_expect : GoodIn wf_c_X4_faultOf (wsV RX4 37 RX9 yX9_expect wf_c_X9_expect) := goodIn_app (gi_l [9, 10, 11, 5] rfl rfl) (gi_cons (j := 12) rfl rfl (goodIn_app (gi_l [8, 13, 14, 15, 5, 16, 7, 17, 18, 19, 20, 21, 22] rfl rfl) (goodIn_sub iw_c_X4_faultOf_X9 gw_X9)))
set_option maxRecDepth 20000 in
theorem gf_c_X4_faultOf_c_X9_expect_1 : GoodIn wf_c_X4_faultOf (wsV RX4 37 RX9 yX9_expect wf_c_X9_expect_1) := goodIn_app (gi_l [9, 10, 11, 5] rfl rfl) (gi_cons (j := 12) rfl rfl (goodIn_app (gi_l [8, 13, 14, 15, 5, 16, 7, 17, 18, 19, 20, 21, 22] rfl rfl) (goodIn_sub iw_c_X4_faultOf_X9 gw_X9)))
set_option maxRecDepth 20000 in
theorem gf_c_X4_faultOf_c_X4_startsUnit : GoodIn wf_c_X4_faultOf (va_wsS RX4 45 yX4_startsUnit wf_c_X4_startsUnit) := goodIn_app (gi_l [24, 25, 26] rfl rfl) (gi_cons (j := 27) rfl rfl gi_nil)
set_option maxRecDepth 20000 in
theorem gf_c_X4_faultOf_c_X4_startsUnit_1 : GoodIn wf_c_X4_faultOf (va_wsS RX4 45 yX4_startsUnit wf_c_X4_startsUnit_1) := goodIn_app (gi_l [24, 25, 26] rfl rfl) (gi_cons (j := 27) rfl rfl gi_nil)
set_option maxRecDepth 20000 in
theorem gf_c_X4_faultOf_c_X9_rewind : GoodIn wf_c_X4_faultOf (wsV RX4 34 RX9 yX9_rewind wf_c_X9_rewind) := goodIn_app (gi_l [2, 3, 4, 5] rfl rfl) (gi_cons (j := 6) rfl rfl (goodIn_app (gi_l [7, 8] rfl rfl) (goodIn_sub iw_c_X4_faultOf_X9 gw_X9)))
set_option maxHeartbeats 4000000 in
set_option maxRecDepth 100000 in
theorem c_X4_faultOf (l : Launch) (dC : Nat → ClassId) (dI : Nat → Nat → Nat) (sz : Nat) (h0 : Nat) (h1 : Nat) (h0_0 : Nat) (h0_f1 : Int32) (h0_2 : Nat) (h1_0 : Nat) (h1_f1 : Int32) (h1_f2 : Int32) (h1_f3 : Int32) (h1_0k : ClassId) (h1_0c : Nat → Int32) (h0_0k : ClassId) (h0_0c : Nat → Int32) (ts4 : Nat) (tv4 : Nat) (g_h0_f1 : RG h0_f1 0 240) (g_h1_f1 : RG h1_f1 0 240) (g_h1_f2 : RG h1_f2 0 240) (g_h1_f3 : RG h1_f3 (-1) 240) (a_h1_0c : AI h1_0c 0 255) : Met l yX4_faultOf wf_c_X4_faultOf ({ frames := 20, cells := 0, slots := 0, locals := 491 }) (va_Pc [.ref h0, .ref h1] (fun U => U.heap.size = sz ∧ va_P (dC, dI) vwCl (wd_c_X4_faultOf h0 h0_0 h0_f1 h0_2 h1 h1_0 h1_f1 h1_f2 h1_f3 h1_0 h1_0k h1_0c h0_0 h0_0k h0_0c) U.heap ∧ va_K (dC, dI) vwCl [(h1_0k, .int), (h0_0k, .int)] U ∧ va_D (fun _ => True) (wd_c_X4_faultOf h0 h0_0 h0_f1 h0_2 h1 h1_0 h1_f1 h1_f2 h1_f3 h1_0 h1_0k h1_0c h0_0 h0_0k h0_0c) ∧ vk_R RX4 91 "vlrdph" ts4 U ∧ va_Z "java/lang/String" "COMPACT_STRINGS" "Z" (.int 1) (va_A (wd_c_X4_faultOf h0 h0_0 h0_f1 h0_2 h1 h1_0 h1_f1 h1_f2 h1_f3 h1_0 h1_0k h1_0c h0_0 h0_0k h0_0c) sz) U U.heap ∧ va_OF "java/lang/String" "coder" "B" (.int 0) ts4 (va_A (wd_c_X4_faultOf h0 h0_0 h0_f1 h0_2 h1 h1_0 h1_f1 h1_f2 h1_f3 h1_0 h1_0k h1_0c h0_0 h0_0k h0_0c) sz) U U.heap ∧ va_O "java/lang/String" ts4 (va_A (wd_c_X4_faultOf h0 h0_0 h0_f1 h0_2 h1 h1_0 h1_f1 h1_f2 h1_f3 h1_0 h1_0k h1_0c h0_0 h0_0k h0_0c) sz) U U.heap ∧ va_OF "java/lang/String" "value" "[B" (.ref tv4) ts4 (va_A (wd_c_X4_faultOf h0 h0_0 h0_f1 h0_2 h1 h1_0 h1_f1 h1_f2 h1_f3 h1_0 h1_0k h1_0c h0_0 h0_0k h0_0c) sz) U U.heap ∧ va_T .byte tv4 6 (fun j => .int ([118, 108, 114, 100, 112, 104].getD j 0)) (va_A (wd_c_X4_faultOf h0 h0_0 h0_f1 h0_2 h1 h1_0 h1_f1 h1_f2 h1_f3 h1_0 h1_0k h1_0c h0_0 h0_0k h0_0c) sz) U U.heap)) (va_Qi (fun (r : Int32) (u : (Int32) × (Int32) × (Int32) × (Nat → Int32)) => (RG r (-1) 240 ∧ RG u.1 0 240 ∧ RG u.2.1 0 240 ∧ RG u.2.2.1 (-1) 240 ∧ (r, u.1, u.2.1, u.2.2.1, u.2.2.2) = fx_c_X4_faultOf h1_f1 h1_0c h0_0c)) (fun (u : (Int32) × (Int32) × (Int32) × (Nat → Int32)) t => va_P (dC, dI) vwCl (wd_c_X4_faultOf h0 h0_0 (u.1) h0_2 h1 h1_0 h1_f1 (u.2.1) (u.2.2.1) h1_0 h1_0k h1_0c h0_0 h0_0k (u.2.2.2)) t.heap ∧ va_K (dC, dI) vwCl [] t ∧ va_D (va_A (wd_c_X4_faultOf h0 h0_0 h0_f1 h0_2 h1 h1_0 h1_f1 h1_f2 h1_f3 h1_0 h1_0k h1_0c h0_0 h0_0k h0_0c) sz) (wd_c_X4_faultOf h0 h0_0 (u.1) h0_2 h1 h1_0 h1_f1 (u.2.1) (u.2.2.1) h1_0 h1_0k h1_0c h0_0 h0_0k (u.2.2.2))) (va_A (wd_c_X4_faultOf h0 h0_0 h0_f1 h0_2 h1 h1_0 h1_f1 h1_f2 h1_f3 h1_0 h1_0k h1_0c h0_0 h0_0k h0_0c) sz)) 0 0 (va_A (wd_c_X4_faultOf h0 h0_0 h0_f1 h0_2 h1 h1_0 h1_f1 h1_f2 h1_f3 h1_0 h1_0k h1_0c h0_0 h0_0k h0_0c) sz) := by
  refine Met.ofW (cc := cX4_faultOf) (maxL := 4) (ret := (some .int)) (by decide +kernel) rfl ?_
  intro p e s m args below meth c s₁ B hml hv
  obtain ⟨rfl, hsz, hP, hK, hD0, hE_32, hE_10, hE_34, hE_33, hE_35, hE_36⟩ := hv
  have hx := B.exec
  have hb := B.bytes
  have hr := B.returns
  have hts := atoms_spec (ws := wf_c_X4_faultOf) B.pre
  have hown : s.vm.findClass RX4 = some m.cls := findClass_of_methodNamed B.named
  have hlocks := B.notSynchronized
  subst hsz
  have hD := hD0.self (sz := s.heap.size)
  generalize hAe : va_A (wd_c_X4_faultOf h0 h0_0 h0_f1 h0_2 h1 h1_0 h1_f1 h1_f2 h1_f3 h1_0 h1_0k h1_0c h0_0 h0_0k h0_0c) s.heap.size = A at hD hE_10 hE_34 hE_33 hE_35 hE_36 ⊢
  have hA : ∀ q : Nat, s.heap.size ≤ q → A q := fun q h => by rw [← hAe]; exact Or.inr h
  have hP : va_P (dC, dI) vwCl (wd_c_X4_faultOf h0 h0_0 h0_f1 h0_2 h1 h1_0 h1_f1 h1_f2 h1_f3 h1_0 h1_0k h1_0c h0_0 h0_0k h0_0c) s.heap := hP
  have hl := lv_entry ([.ref h0, .ref h1]) (n := 4) (Nat.le_of_ble_eq_true rfl)
  rw [lg_entry_eq]
  generalize (lg_sl ([.ref h0, .ref h1]) ++ List.replicate (4 - (lg_sl ([.ref h0, .ref h1])).length) Slot.unset).toArray = ls at hl ⊢
  have hl : lv_has ls 4 [(0, .ref h0), (1, .ref h1)] := hl
  obtain ⟨H, hHe⟩ : ∃ H : Heap, s.heap = H := ⟨_, rfl⟩
  have hS : va_S A s.heap H [] := by rw [hHe]; exact va_S.rf
  have hP : va_P (dC, dI) vwCl (wd_c_X4_faultOf h0 h0_0 h0_f1 h0_2 h1 h1_0 h1_f1 h1_f2 h1_f3 h1_0 h1_0k h1_0c h0_0 h0_0k h0_0c) H := by rw [← hHe]; exact hP
  rw [hHe]
  obtain ⟨RES, hR⟩ : ∃ z, fx_c_X4_faultOf h1_f1 h1_0c h0_0c = z := ⟨_, rfl⟩
  have hEX : RES = fx_c_X4_faultOf h1_f1 h1_0c h0_0c := hR.symm
  refine wj (fun G hG hU => ?_)
  as_aux_lemma =>
  have J119 : ∀ (j119_h0_f1 : Int32) (j119_h1_f2 : Int32) (j119_h1_f3 : Int32) (j119_h0_0c : Nat → Int32) (g_h0_f1 : RG h0_f1 0 240) (g_h1_f1 : RG h1_f1 0 240) (g_h1_f2 : RG h1_f2 0 240) (g_h1_f3 : RG h1_f3 (-1) 240) (g_j119_h0_f1 : RG j119_h0_f1 0 240) (g_j119_h1_f2 : RG j119_h1_f2 0 240) (g_j119_h1_f3 : RG j119_h1_f3 (-1) 240) (hEX : RES = fx_c_X4_faultOf_p119 h1_f1 h1_0c j119_h0_f1 j119_h1_f2 j119_h1_f3 j119_h0_0c) (H : Heap) (locs : List Loc) (ls : Array Slot) (hP : va_P (dC, dI) vwCl (wd_c_X4_faultOf h0 h0_0 j119_h0_f1 h0_2 h1 h1_0 h1_f1 j119_h1_f2 j119_h1_f3 h1_0 h1_0k h1_0c h0_0 h0_0k j119_h0_0c) H) (hD : va_D A (wd_c_X4_faultOf h0 h0_0 j119_h0_f1 h0_2 h1 h1_0 h1_f1 j119_h1_f2 j119_h1_f3 h1_0 h1_0k h1_0c h0_0 h0_0k j119_h0_0c)) (hS : va_S A s.heap H locs) (hl : lv_has ls 4 [(1, .ref h1)]), G H locs (F0 m 119 ls []) := by
    as_aux_lemma =>
    intro j119_h0_f1 j119_h1_f2 j119_h1_f3 j119_h0_0c g_h0_f1 g_h1_f1 g_h1_f2 g_h1_f3 g_j119_h0_f1 g_j119_h1_f2 g_j119_h1_f3 hEX H locs ls hP hD hS hl
    refine hG _ _ _ ?_
    refine lv_aload_n hx hb dX4_faultOf_119 rfl (lv_at hl 0 rfl) ?_
    obtain ⟨hPc, hDc, hFc, hqc⟩ := cl_cut (wc := (wd_c_X9_expectEnd h1 h1_0 h1_f1 j119_h1_f2 j119_h1_f3 h1_0 h1_0k h1_0c)) hP hD hS hA [1, 2] (by decide +kernel) rfl
    have hKc := hK.sub (tys' := [(h1_0k, .int)]) [0] rfl
    have hrv := va_recv hKc hPc (ci := 9) (q0 := 0) rfl rfl
    refine va_callv (va_runV (As := []) (rest := []) ⟨hx, hb, hml, hown, hts⟩ (c_X9_expectEnd l dC dI H.size h1 h1_0 h1_f1 j119_h1_f2 j119_h1_f3 h1_0k h1_0c g_h1_f1 g_j119_h1_f2 g_j119_h1_f3 a_h1_0c) (cwV 0 hts gf_c_X4_faultOf_c_X9_expectEnd rfl rfl rfl mdV_X9_expectEnd ⟨Nat.le_of_ble_eq_true rfl, Nat.le_of_ble_eq_true rfl⟩) ⟨fun a U g mk q => by obtain ⟨q0, q1, qP, qK, qD⟩ := q; exact ⟨q0, q1, qP, va_K.moved (u := U) (U := U.calling g mk a) (Vm.Alike.refl U.vm) qK, qD⟩, hrv, fun U hU hW => ⟨rfl, by rw [hU], by rw [hU]; exact hPc, va_K.moved hW.alike hKc, hDc.weaken (fun _ _ _ _ => trivial)⟩⟩ rfl rfl hl.1 rfl (lv_room (Nat.le_of_ble_eq_true rfl)) dX4_faultOf_120 ⟨Nat.le_of_ble_eq_true rfl, Nat.le_of_ble_eq_true rfl⟩) hS (fun q _ h => hFc q h) hFc (fun u t H1 locs ht hvm hw hB hz1 hk1 hS => ?_)
    obtain ⟨x_2, x_3⟩ := u
    obtain ⟨hP1, hK1, hD1⟩ := hB
    rw [ht] at hP1
    obtain ⟨hP, hD⟩ := cl_put (w1 := (wd_c_X9_expectEnd h1 h1_0 h1_f1 x_2 x_3 h1_0 h1_0k h1_0c)) (nw := (wd_c_X4_faultOf h0 h0_0 j119_h0_f1 h0_2 h1 h1_0 h1_f1 x_2 x_3 h1_0 h1_0k h1_0c h0_0 h0_0k j119_h0_0c)) hP hD [1, 2] [0, 4, 5, 3] 4 rfl hqc (by decide +kernel) rfl hk1 hFc hP1 hD1
    generalize H1 = H at hP hS ⊢
    as_aux_lemma =>
    rcases hw with ⟨h_4, h_5, h_6, h_7⟩
    have h_7 : (x_2, x_3) = _ := h_7
    replace hEX := hEX.trans (exc2_eq h_7)
    refine lv_aload_n hx hb dX4_faultOf_123 rfl (lv_at hl 0 rfl) ?_
    obtain ⟨hPc, hDc, hFc, hqc⟩ := cl_cut (wc := (wd_c_X9_wrongAt h1 h1_0 h1_f1 x_2 x_3)) hP hD hS hA [1] (by decide +kernel) rfl
    have hKc := hK.sub (tys' := []) [] rfl
    have hrv := va_recv hKc hPc (ci := 9) (q0 := 0) rfl rfl
    refine va_calli (va_runV (As := []) (rest := []) ⟨hx, hb, hml, hown, hts⟩ (c_X9_wrongAt l dC dI H.size h1 h1_0 h1_f1 x_2 x_3 g_h1_f1 h_4 h_5) (cwV 0 hts gf_c_X4_faultOf_c_X9_wrongAt rfl rfl rfl mdV_X9_wrongAt ⟨Nat.le_of_ble_eq_true rfl, Nat.le_of_ble_eq_true rfl⟩) ⟨fun a U g mk q => by obtain ⟨q0, q1, qP, qK, qD⟩ := q; exact ⟨q0, q1, qP, va_K.moved (u := U) (U := U.calling g mk a) (Vm.Alike.refl U.vm) qK, qD⟩, hrv, fun U hU hW => ⟨rfl, by rw [hU], by rw [hU]; exact hPc, va_K.moved hW.alike hKc, hDc.weaken (fun _ _ _ _ => trivial)⟩⟩ rfl rfl hl.1 rfl (lv_room (Nat.le_of_ble_eq_true rfl)) dX4_faultOf_124 ⟨Nat.le_of_ble_eq_true rfl, Nat.le_of_ble_eq_true rfl⟩) hS (fun q _ h => hFc q h) hFc (fun r_8 u t H1 locs ht hvm hw hB hz1 hk1 hS => ?_)
    obtain ⟨hP1, hK1, hD1⟩ := hB
    rw [ht] at hP1
    obtain ⟨hP, hD⟩ := cl_put (w1 := (wd_c_X9_wrongAt h1 h1_0 h1_f1 x_2 x_3)) (nw := (wd_c_X4_faultOf h0 h0_0 j119_h0_f1 h0_2 h1 h1_0 h1_f1 x_2 x_3 h1_0 h1_0k h1_0c h0_0 h0_0k j119_h0_0c)) hP hD [1] [0, 4, 2, 3] 4 rfl hqc (by decide +kernel) rfl hk1 hFc hP1 hD1
    generalize H1 = H at hP hS ⊢
    as_aux_lemma =>
    rcases hw with ⟨h_9, h_10⟩
    have h_10 : r_8 = _ := h_10
    replace hEX := hEX.trans (exc1_eq h_10)
    have hK9 := hK.sub (tys' := []) [] rfl
    exact W.iret (v := r_8) hx hb hr (fun t ht hW => ⟨⟨r_8, (j119_h0_f1, x_2, x_3, j119_h0_0c), rfl, ⟨h_9, g_j119_h0_f1, h_4, h_5, (hR.trans hEX).symm⟩, by rw [ht]; exact hP, va_K.moved hW.alike hK9, hD⟩, hS.F ht⟩) hS.2.2 dX4_faultOf_127
  have J11 : ∀ (n11 : Nat) (j11_l2 : Int32) (j11_h0_f1 : Int32) (j11_h1_f2 : Int32) (j11_h1_f3 : Int32) (j11_h0_0c : Nat → Int32) (hM11 : MU j11_l2 < n11) (g_h0_f1 : RG h0_f1 0 240) (g_h1_f1 : RG h1_f1 0 240) (g_h1_f2 : RG h1_f2 0 240) (g_h1_f3 : RG h1_f3 (-1) 240) (g_j11_h0_f1 : RG j11_h0_f1 0 240) (g_j11_h1_f2 : RG j11_h1_f2 0 240) (g_j11_h1_f3 : RG j11_h1_f3 (-1) (-1)) (g_j11_l2 : RG j11_l2 0 240) (hEX : RES = fx_c_X4_faultOf_p11 h1_f1 h1_0c n11 j11_l2 j11_h0_f1 j11_h1_f2 j11_h1_f3 j11_h0_0c) (H : Heap) (locs : List Loc) (ls : Array Slot) (hP : va_P (dC, dI) vwCl (wd_c_X4_faultOf h0 h0_0 j11_h0_f1 h0_2 h1 h1_0 h1_f1 j11_h1_f2 j11_h1_f3 h1_0 h1_0k h1_0c h0_0 h0_0k j11_h0_0c) H) (hD : va_D A (wd_c_X4_faultOf h0 h0_0 j11_h0_f1 h0_2 h1 h1_0 h1_f1 j11_h1_f2 j11_h1_f3 h1_0 h1_0k h1_0c h0_0 h0_0k j11_h0_0c)) (hS : va_S A s.heap H locs) (hl : lv_has ls 4 [(2, .int j11_l2), (0, .ref h0), (1, .ref h1)]), G H locs (F0 m 11 ls []) := by
    as_aux_lemma =>
    intro n11
    induction n11 with
    | zero => intros; exact absurd (by assumption) (Nat.not_lt_zero _)
    | succ n11 ih11 =>
      intro j11_l2 j11_h0_f1 j11_h1_f2 j11_h1_f3 j11_h0_0c hM11 g_h0_f1 g_h1_f1 g_h1_f2 g_h1_f3 g_j11_h0_f1 g_j11_h1_f2 g_j11_h1_f3 g_j11_l2 hEX H locs ls hP hD hS hl
      have J95 : ∀ (j95_h0_f1 : Int32) (j95_h1_f2 : Int32) (j95_h1_f3 : Int32) (j95_h0_0c : Nat → Int32) (g_h0_f1 : RG h0_f1 0 240) (g_h1_f1 : RG h1_f1 0 240) (g_h1_f2 : RG h1_f2 0 240) (g_h1_f3 : RG h1_f3 (-1) 240) (g_j11_h0_f1 : RG j11_h0_f1 0 240) (g_j11_h1_f2 : RG j11_h1_f2 0 240) (g_j11_h1_f3 : RG j11_h1_f3 (-1) (-1)) (g_j11_l2 : RG j11_l2 0 239) (g_j95_h0_f1 : RG j95_h0_f1 0 240) (g_j95_h1_f2 : RG j95_h1_f2 0 240) (g_j95_h1_f3 : RG j95_h1_f3 (-1) 240) (hEX : RES = fx_c_X4_faultOf_p95 h1_f1 h1_0c j11_l2 (fx_c_X4_faultOf_p11 h1_f1 h1_0c n11) j95_h0_f1 j95_h1_f2 j95_h1_f3 j95_h0_0c) (H : Heap) (locs : List Loc) (ls : Array Slot) (hP : va_P (dC, dI) vwCl (wd_c_X4_faultOf h0 h0_0 j95_h0_f1 h0_2 h1 h1_0 h1_f1 j95_h1_f2 j95_h1_f3 h1_0 h1_0k h1_0c h0_0 h0_0k j95_h0_0c) H) (hD : va_D A (wd_c_X4_faultOf h0 h0_0 j95_h0_f1 h0_2 h1 h1_0 h1_f1 j95_h1_f2 j95_h1_f3 h1_0 h1_0k h1_0c h0_0 h0_0k j95_h0_0c)) (hS : va_S A s.heap H locs) (hl : lv_has ls 4 [(2, .int j11_l2), (0, .ref h0), (1, .ref h1)]), G H locs (F0 m 95 ls []) := by
        as_aux_lemma =>
        intro j95_h0_f1 j95_h1_f2 j95_h1_f3 j95_h0_0c g_h0_f1 g_h1_f1 g_h1_f2 g_h1_f3 g_j11_h0_f1 g_j11_h1_f2 g_j11_h1_f3 g_j11_l2 g_j95_h0_f1 g_j95_h1_f2 g_j95_h1_f3 hEX H locs ls hP hD hS hl
        refine hG _ _ _ ?_
        refine lv_aload_n hx hb dX4_faultOf_95 rfl (lv_at hl 1 rfl) ?_
        refine lv_bipush (v := (-59)) hx hb dX4_faultOf_96 kc_bipush_m59 ?_
        obtain ⟨hPc, hDc, hFc, hqc⟩ := cl_cut (wc := (wd_c_X4_emit h0 h0_0 j95_h0_f1 h0_2 h0_0 h0_0k j95_h0_0c)) hP hD hS hA [0, 3] (by decide +kernel) rfl
        have hKc := hK.sub (tys' := [(h0_0k, .int)]) [1] rfl
        have hrv := va_recv hKc hPc (ci := 4) (q0 := 0) rfl rfl
        refine va_callv (va_runV (As := [.int (-59)]) (rest := []) ⟨hx, hb, hml, hown, hts⟩ (c_X4_emit l dC dI H.size h0 (-59) h0_0 j95_h0_f1 h0_2 h0_0k j95_h0_0c g_j95_h0_f1) (cwV 1 hts gf_c_X4_faultOf_c_X4_emit rfl rfl rfl mdV_X4_emit ⟨Nat.le_of_ble_eq_true rfl, Nat.le_of_ble_eq_true rfl⟩) ⟨fun a U g mk q => by obtain ⟨q0, q1, qP, qK, qD⟩ := q; exact ⟨q0, q1, qP, va_K.moved (u := U) (U := U.calling g mk a) (Vm.Alike.refl U.vm) qK, qD⟩, hrv, fun U hU hW => ⟨rfl, by rw [hU], by rw [hU]; exact hPc, va_K.moved hW.alike hKc, hDc.weaken (fun _ _ _ _ => trivial)⟩⟩ rfl rfl hl.1 rfl (lv_room (Nat.le_of_ble_eq_true rfl)) dX4_faultOf_98 ⟨Nat.le_of_ble_eq_true rfl, Nat.le_of_ble_eq_true rfl⟩) hS (fun q _ h => hFc q h) hFc (fun u t H1 locs ht hvm hw hB hz1 hk1 hS => ?_)
        obtain ⟨x_12, w_13⟩ := u
        obtain ⟨hP1, hK1, hD1⟩ := hB
        rw [ht] at hP1
        obtain ⟨hP, hD⟩ := cl_put (w1 := (wd_c_X4_emit h0 h0_0 x_12 h0_2 h0_0 h0_0k w_13)) (nw := (wd_c_X4_faultOf h0 h0_0 x_12 h0_2 h1 h1_0 h1_f1 j95_h1_f2 j95_h1_f3 h1_0 h1_0k h1_0c h0_0 h0_0k w_13)) hP hD [0, 3] [4, 1, 2, 5] 4 rfl hqc (by decide +kernel) rfl hk1 hFc hP1 hD1
        generalize H1 = H at hP hS ⊢
        as_aux_lemma =>
        rcases hw with ⟨h_14, h_15⟩
        have h_15 : (x_12, w_13) = _ := h_15
        replace hEX := hEX.trans (exc2_eq h_15)
        refine lv_aload_n hx hb dX4_faultOf_101 rfl (lv_at hl 2 rfl) ?_
        refine lv_bipush (v := 59) hx hb dX4_faultOf_102 kc_bipush_59 ?_
        obtain ⟨hPc, hDc, hFc, hqc⟩ := cl_cut (wc := (wd_c_X9_take h1 h1_0 h1_f1 j95_h1_f2 j95_h1_f3 h1_0 h1_0k h1_0c)) hP hD hS hA [1, 2] (by decide +kernel) rfl
        have hKc := hK.sub (tys' := [(h1_0k, .int)]) [0] rfl
        have hrv := va_recv hKc hPc (ci := 9) (q0 := 0) rfl rfl
        refine va_calli (va_runV (As := [.int 59]) (rest := []) ⟨hx, hb, hml, hown, hts⟩ (c_X9_take l dC dI H.size h1 59 h1_0 h1_f1 j95_h1_f2 j95_h1_f3 h1_0k h1_0c (RG_w (RG_k 59 59 rfl) (by decide +kernel)) g_h1_f1 g_j95_h1_f2 g_j95_h1_f3 a_h1_0c) (cwV 1 hts gf_c_X4_faultOf_c_X9_take rfl rfl rfl mdV_X9_take ⟨Nat.le_of_ble_eq_true rfl, Nat.le_of_ble_eq_true rfl⟩) ⟨fun a U g mk q => by obtain ⟨q0, q1, qP, qK, qD⟩ := q; exact ⟨q0, q1, qP, va_K.moved (u := U) (U := U.calling g mk a) (Vm.Alike.refl U.vm) qK, qD⟩, hrv, fun U hU hW => ⟨rfl, by rw [hU], by rw [hU]; exact hPc, va_K.moved hW.alike hKc, hDc.weaken (fun _ _ _ _ => trivial)⟩⟩ rfl rfl hl.1 rfl (lv_room (Nat.le_of_ble_eq_true rfl)) dX4_faultOf_104 ⟨Nat.le_of_ble_eq_true rfl, Nat.le_of_ble_eq_true rfl⟩) hS (fun q _ h => hFc q h) hFc (fun r_16 x_17 t H1 locs ht hvm hw hB hz1 hk1 hS => ?_)
        obtain ⟨hP1, hK1, hD1⟩ := hB
        rw [ht] at hP1
        obtain ⟨hP, hD⟩ := cl_put (w1 := (wd_c_X9_take h1 h1_0 h1_f1 x_17 j95_h1_f3 h1_0 h1_0k h1_0c)) (nw := (wd_c_X4_faultOf h0 h0_0 x_12 h0_2 h1 h1_0 h1_f1 x_17 j95_h1_f3 h1_0 h1_0k h1_0c h0_0 h0_0k w_13)) hP hD [1, 2] [0, 4, 5, 3] 4 rfl hqc (by decide +kernel) rfl hk1 hFc hP1 hD1
        generalize H1 = H at hP hS ⊢
        as_aux_lemma =>
        rcases hw with ⟨h_18, h_19, h_20, h_21⟩ | ⟨h_22, h_23, h_24, h_25, h_26, h_27⟩
        · have h_21 : (r_16, x_17) = _ := h_21
          replace hEX := hEX.trans (exc2_eq h_21)
          replace hEX := hEX.trans (if_pos (show r_16 = 0 from h_18))
          rw [h_18]
          refine lv_if_ne (tgt := 113) hx hb dX4_faultOf_107 rfl (fun c_28 => absurd c_28 (by decide +kernel)) (fun c_28 => ?_)
          refine lv_goto (tgt := 119) hx hb dX4_faultOf_110 rfl ?_
          exact hU _ _ _ (J119 x_12 x_17 j95_h1_f3 w_13 g_h0_f1 g_h1_f1 g_h1_f2 g_h1_f3 (RG_w h_14 (by decide +kernel)) h_19 g_j95_h1_f3 hEX _ _ _ hP hD hS (lv_sub hl [2] rfl))
        · have h_27 : (r_16, x_17) = _ := h_27
          replace hEX := hEX.trans (exc2_eq h_27)
          replace hEX := hEX.trans (if_neg (fun q9 : r_16 = 0 => absurd ((show r_16 = 1 from h_22).symm.trans q9) (by decide +kernel)))
          rw [h_22]
          refine lv_if_ne (tgt := 113) hx hb dX4_faultOf_107 rfl (fun c_29 => ?_) (fun c_29 => absurd c_29 (by decide +kernel))
          obtain ⟨x_30, ex_30⟩ : ∃ y : Int32, y = j11_l2 + 1 := ⟨_, rfl⟩
          have g_31 : RG x_30 1 240 := RG_add ex_30 g_j11_l2 (RG_k 1 1 rfl) (by decide +kernel)
          replace hEX := hEX.trans (exl_eq ex_30)
          refine lv_iinc (v := x_30) (lv' := [(2, .int x_30), (0, .ref h0), (1, .ref h1)]) hx hb dX4_faultOf_113 hl (k := 0) rfl (by rw [ex_30]; rfl) (Nat.le_of_ble_eq_true rfl) rfl (fun ls hl => ?_)
          as_aux_lemma =>
          refine lv_goto (tgt := 11) hx hb dX4_faultOf_116 rfl ?_
          exact hU _ _ _ (ih11 x_30 x_12 x_17 j95_h1_f3 w_13 (mu_s (MU_add ex_30 g_j11_l2 (q := 1) rfl (by decide +kernel)) hM11) g_h0_f1 (RG_w h_24 (by decide +kernel)) g_h1_f2 g_h1_f3 (RG_w h_14 (by decide +kernel)) (RG_w h_23 (by decide +kernel)) h_25 (RG_w g_31 (by decide +kernel)) hEX _ _ _ hP hD hS (lv_sub hl [0, 1, 2] rfl))
      have J70 : ∀ (j70_l3 : Int32) (j70_h0_f1 : Int32) (j70_h1_f2 : Int32) (j70_h1_f3 : Int32) (j70_h0_0c : Nat → Int32) (g_h0_f1 : RG h0_f1 0 240) (g_h1_f1 : RG h1_f1 0 240) (g_h1_f2 : RG h1_f2 0 240) (g_h1_f3 : RG h1_f3 (-1) 240) (g_j11_h0_f1 : RG j11_h0_f1 0 240) (g_j11_h1_f2 : RG j11_h1_f2 0 240) (g_j11_h1_f3 : RG j11_h1_f3 (-1) (-1)) (g_j11_l2 : RG j11_l2 0 239) (g_j70_h0_f1 : RG j70_h0_f1 0 240) (g_j70_h1_f2 : RG j70_h1_f2 0 240) (g_j70_h1_f3 : RG j70_h1_f3 (-1) 240) (g_j70_l3 : RG j70_l3 0 1) (hEX : RES = fx_c_X4_faultOf_p70 h1_f1 h1_0c j11_l2 (fx_c_X4_faultOf_p11 h1_f1 h1_0c n11) j70_l3 j70_h0_f1 j70_h1_f2 j70_h1_f3 j70_h0_0c) (H : Heap) (locs : List Loc) (ls : Array Slot) (hP : va_P (dC, dI) vwCl (wd_c_X4_faultOf h0 h0_0 j70_h0_f1 h0_2 h1 h1_0 h1_f1 j70_h1_f2 j70_h1_f3 h1_0 h1_0k h1_0c h0_0 h0_0k j70_h0_0c) H) (hD : va_D A (wd_c_X4_faultOf h0 h0_0 j70_h0_f1 h0_2 h1 h1_0 h1_f1 j70_h1_f2 j70_h1_f3 h1_0 h1_0k h1_0c h0_0 h0_0k j70_h0_0c)) (hS : va_S A s.heap H locs) (hl : lv_has ls 4 [(3, .int j70_l3), (2, .int j11_l2), (0, .ref h0), (1, .ref h1)]), G H locs (F0 m 70 ls []) := by
        as_aux_lemma =>
        intro j70_l3 j70_h0_f1 j70_h1_f2 j70_h1_f3 j70_h0_0c g_h0_f1 g_h1_f1 g_h1_f2 g_h1_f3 g_j11_h0_f1 g_j11_h1_f2 g_j11_h1_f3 g_j11_l2 g_j70_h0_f1 g_j70_h1_f2 g_j70_h1_f3 g_j70_l3 hEX H locs ls hP hD hS hl
        refine hG _ _ _ ?_
        refine lv_aload_n hx hb dX4_faultOf_70 rfl (lv_at hl 2 rfl) ?_
        refine lv_aload_n hx hb dX4_faultOf_71 rfl (lv_at hl 3 rfl) ?_
        refine lv_iconst (v := 0) hx hb dX4_faultOf_72 kc_iconst_0 ?_
        refine lv_iload_n hx hb dX4_faultOf_73 rfl (lv_at hl 0 rfl) ?_
        obtain ⟨hPc, hDc, hFc, hqc⟩ := cl_cut (wc := (wd_c_X4_readCondition h1 h1_0 h1_f1 j70_h1_f2 j70_h1_f3 h1_0 h1_0k h1_0c h0 h0_0 j70_h0_f1 h0_2 h0_0 h0_0k j70_h0_0c)) hP hD hS hA [1, 2, 0, 3] (by decide +kernel) rfl
        have hKc := hK.sub (tys' := [(h1_0k, .int), (h0_0k, .int)]) [0, 1] rfl
        have hrv := va_recv hKc hPc (ci := 4) (q0 := 2) rfl rfl
        refine va_callv (va_runV (As := [.ref h1, .int 0, .int j70_l3]) (rest := []) ⟨hx, hb, hml, hown, hts⟩ (c_X4_readCondition l dC dI H.size h0 h1 j70_l3 h1_0 h1_f1 j70_h1_f2 j70_h1_f3 h1_0k h1_0c h0_0 j70_h0_f1 h0_2 h0_0k j70_h0_0c ts4 tv4 g_j70_l3 g_h1_f1 g_j70_h1_f2 g_j70_h1_f3 a_h1_0c g_j70_h0_f1) (cwV 3 hts gf_c_X4_faultOf_c_X4_readCondition rfl rfl rfl mdV_X4_readCondition ⟨Nat.le_of_ble_eq_true rfl, Nat.le_of_ble_eq_true rfl⟩) ⟨fun a U g mk q => by obtain ⟨q0, q1, qP, qK, qD, qE0, qE1, qE2, qE3, qE4, qE5⟩ := q; exact ⟨q0, q1, qP, va_K.moved (u := U) (U := U.calling g mk a) (Vm.Alike.refl U.vm) qK, qD, vk_R.same rfl qE0, va_Z.moved (u := U) (U := U.calling g mk a) (Vm.Alike.refl U.vm) qE1, va_OF.moved (u := U) (U := U.calling g mk a) (Vm.Alike.refl U.vm) qE2, va_O.moved (u := U) (U := U.calling g mk a) (Vm.Alike.refl U.vm) qE3, va_OF.moved (u := U) (U := U.calling g mk a) (Vm.Alike.refl U.vm) qE4, va_T.moved (u := U) (U := U.calling g mk a) (Vm.Alike.refl U.vm) qE5⟩, hrv, fun U hU hW => ⟨rfl, by rw [hU], by rw [hU]; exact hPc, va_K.moved hW.alike hKc, hDc.weaken (fun _ _ _ _ => trivial), vk_R.warm hW hE_32, va_Z.moved hW.alike (by rw [hU]; exact (hE_10.kept hS.2.1).narrow hFc), va_OF.moved hW.alike (by rw [hU]; exact (hE_34.kept hS.2.1).narrow hFc), va_O.moved hW.alike (by rw [hU]; exact (hE_33.kept hS.2.1).narrow hFc), va_OF.moved hW.alike (by rw [hU]; exact (hE_35.kept hS.2.1).narrow hFc), va_T.moved hW.alike (by rw [hU]; exact (hE_36.kept hS.2.1).narrow hFc)⟩⟩ rfl rfl hl.1 rfl (lv_room (Nat.le_of_ble_eq_true rfl)) dX4_faultOf_74 ⟨Nat.le_of_ble_eq_true rfl, Nat.le_of_ble_eq_true rfl⟩) hS (fun q _ h => hFc q h) hFc (fun u t H1 locs ht hvm hw hB hz1 hk1 hS => ?_)
        obtain ⟨x_33, x_34, x_35, w_36⟩ := u
        obtain ⟨hP1, hK1, hD1⟩ := hB
        rw [ht] at hP1
        obtain ⟨hP, hD⟩ := cl_put (w1 := (wd_c_X4_readCondition h1 h1_0 h1_f1 x_33 x_34 h1_0 h1_0k h1_0c h0 h0_0 x_35 h0_2 h0_0 h0_0k w_36)) (nw := (wd_c_X4_faultOf h0 h0_0 x_35 h0_2 h1 h1_0 h1_f1 x_33 x_34 h1_0 h1_0k h1_0c h0_0 h0_0k w_36)) hP hD [1, 2, 0, 3] [6, 4, 5, 7] 4 rfl hqc (by decide +kernel) rfl hk1 hFc hP1 hD1
        generalize H1 = H at hP hS ⊢
        as_aux_lemma =>
        rcases hw with ⟨h_37, h_38, h_39, h_40⟩
        have h_40 : (x_33, x_34, x_35, w_36) = _ := h_40
        replace hEX := hEX.trans (exc4_eq h_40)
        refine lv_aload_n hx hb dX4_faultOf_77 rfl (lv_at hl 3 rfl) ?_
        refine lv_bipush (v := 63) hx hb dX4_faultOf_78 kc_bipush_63 ?_
        obtain ⟨hPc, hDc, hFc, hqc⟩ := cl_cut (wc := (wd_c_X9_expect_3 h1 h1_0 h1_f1 x_33 x_34 h1_0 h1_0k h1_0c)) hP hD hS hA [1, 2] (by decide +kernel) rfl
        have hKc := hK.sub (tys' := [(h1_0k, .int)]) [0] rfl
        have hrv := va_recv hKc hPc (ci := 9) (q0 := 0) rfl rfl
        refine va_callv (va_runV (As := [.int 63]) (rest := []) ⟨hx, hb, hml, hown, hts⟩ (c_X9_expect_3 l dC dI H.size h1 63 h1_0 h1_f1 x_33 x_34 h1_0k h1_0c (RG_w (RG_k 63 63 rfl) (by decide +kernel)) g_h1_f1 h_37 h_38 a_h1_0c) (cwV 1 hts gf_c_X4_faultOf_c_X9_expect_3 rfl rfl rfl mdV_X9_expect ⟨Nat.le_of_ble_eq_true rfl, Nat.le_of_ble_eq_true rfl⟩) ⟨fun a U g mk q => by obtain ⟨q0, q1, qP, qK, qD⟩ := q; exact ⟨q0, q1, qP, va_K.moved (u := U) (U := U.calling g mk a) (Vm.Alike.refl U.vm) qK, qD⟩, hrv, fun U hU hW => ⟨rfl, by rw [hU], by rw [hU]; exact hPc, va_K.moved hW.alike hKc, hDc.weaken (fun _ _ _ _ => trivial)⟩⟩ rfl rfl hl.1 rfl (lv_room (Nat.le_of_ble_eq_true rfl)) dX4_faultOf_80 ⟨Nat.le_of_ble_eq_true rfl, Nat.le_of_ble_eq_true rfl⟩) hS (fun q _ h => hFc q h) hFc (fun u t H1 locs ht hvm hw hB hz1 hk1 hS => ?_)
        obtain ⟨x_42, x_43⟩ := u
        obtain ⟨hP1, hK1, hD1⟩ := hB
        rw [ht] at hP1
        obtain ⟨hP, hD⟩ := cl_put (w1 := (wd_c_X9_expect_3 h1 h1_0 h1_f1 x_42 x_43 h1_0 h1_0k h1_0c)) (nw := (wd_c_X4_faultOf h0 h0_0 x_35 h0_2 h1 h1_0 h1_f1 x_42 x_43 h1_0 h1_0k h1_0c h0_0 h0_0k w_36)) hP hD [1, 2] [0, 4, 5, 3] 4 rfl hqc (by decide +kernel) rfl hk1 hFc hP1 hD1
        generalize H1 = H at hP hS ⊢
        as_aux_lemma =>
        rcases hw with ⟨h_44, h_45, h_46, h_47⟩
        have h_47 : (x_42, x_43) = _ := h_47
        replace hEX := hEX.trans (exc2_eq h_47)
        refine lv_aload_n hx hb dX4_faultOf_83 rfl (lv_at hl 2 rfl) ?_
        refine lv_bipush (v := (-63)) hx hb dX4_faultOf_84 kc_bipush_m63 ?_
        obtain ⟨hPc, hDc, hFc, hqc⟩ := cl_cut (wc := (wd_c_X4_emit h0 h0_0 x_35 h0_2 h0_0 h0_0k w_36)) hP hD hS hA [0, 3] (by decide +kernel) rfl
        have hKc := hK.sub (tys' := [(h0_0k, .int)]) [1] rfl
        have hrv := va_recv hKc hPc (ci := 4) (q0 := 0) rfl rfl
        refine va_callv (va_runV (As := [.int (-63)]) (rest := []) ⟨hx, hb, hml, hown, hts⟩ (c_X4_emit l dC dI H.size h0 (-63) h0_0 x_35 h0_2 h0_0k w_36 h_39) (cwV 1 hts gf_c_X4_faultOf_c_X4_emit rfl rfl rfl mdV_X4_emit ⟨Nat.le_of_ble_eq_true rfl, Nat.le_of_ble_eq_true rfl⟩) ⟨fun a U g mk q => by obtain ⟨q0, q1, qP, qK, qD⟩ := q; exact ⟨q0, q1, qP, va_K.moved (u := U) (U := U.calling g mk a) (Vm.Alike.refl U.vm) qK, qD⟩, hrv, fun U hU hW => ⟨rfl, by rw [hU], by rw [hU]; exact hPc, va_K.moved hW.alike hKc, hDc.weaken (fun _ _ _ _ => trivial)⟩⟩ rfl rfl hl.1 rfl (lv_room (Nat.le_of_ble_eq_true rfl)) dX4_faultOf_86 ⟨Nat.le_of_ble_eq_true rfl, Nat.le_of_ble_eq_true rfl⟩) hS (fun q _ h => hFc q h) hFc (fun u t H1 locs ht hvm hw hB hz1 hk1 hS => ?_)
        obtain ⟨x_49, w_50⟩ := u
        obtain ⟨hP1, hK1, hD1⟩ := hB
        rw [ht] at hP1
        obtain ⟨hP, hD⟩ := cl_put (w1 := (wd_c_X4_emit h0 h0_0 x_49 h0_2 h0_0 h0_0k w_50)) (nw := (wd_c_X4_faultOf h0 h0_0 x_49 h0_2 h1 h1_0 h1_f1 x_42 x_43 h1_0 h1_0k h1_0c h0_0 h0_0k w_50)) hP hD [0, 3] [4, 1, 2, 5] 4 rfl hqc (by decide +kernel) rfl hk1 hFc hP1 hD1
        generalize H1 = H at hP hS ⊢
        as_aux_lemma =>
        rcases hw with ⟨h_51, h_52⟩
        have h_52 : (x_49, w_50) = _ := h_52
        replace hEX := hEX.trans (exc2_eq h_52)
        refine lv_aload_n hx hb dX4_faultOf_89 rfl (lv_at hl 2 rfl) ?_
        refine lv_aload_n hx hb dX4_faultOf_90 rfl (lv_at hl 3 rfl) ?_
        refine lv_iconst (v := 0) hx hb dX4_faultOf_91 kc_iconst_0 ?_
        obtain ⟨hPc, hDc, hFc, hqc⟩ := cl_cut (wc := (wd_c_X4_readSum h1 h1_0 h1_f1 x_42 x_43 h1_0 h1_0k h1_0c h0 h0_0 x_49 h0_2 h0_0 h0_0k w_50)) hP hD hS hA [1, 2, 0, 3] (by decide +kernel) rfl
        have hKc := hK.sub (tys' := [(h1_0k, .int), (h0_0k, .int)]) [0, 1] rfl
        have hrv := va_recv hKc hPc (ci := 4) (q0 := 2) rfl rfl
        refine va_callv (va_runV (As := [.ref h1, .int 0]) (rest := []) ⟨hx, hb, hml, hown, hts⟩ (c_X4_readSum l dC dI H.size h0 h1 h1_0 h1_f1 x_42 x_43 h1_0k h1_0c h0_0 x_49 h0_2 h0_0k w_50 ts4 tv4 g_h1_f1 h_44 h_45 a_h1_0c (RG_w h_51 (by decide +kernel))) (cwV 2 hts gf_c_X4_faultOf_c_X4_readSum rfl rfl rfl mdV_X4_readSum ⟨Nat.le_of_ble_eq_true rfl, Nat.le_of_ble_eq_true rfl⟩) ⟨fun a U g mk q => by obtain ⟨q0, q1, qP, qK, qD, qE0, qE1, qE2, qE3, qE4, qE5⟩ := q; exact ⟨q0, q1, qP, va_K.moved (u := U) (U := U.calling g mk a) (Vm.Alike.refl U.vm) qK, qD, vk_R.same rfl qE0, va_Z.moved (u := U) (U := U.calling g mk a) (Vm.Alike.refl U.vm) qE1, va_OF.moved (u := U) (U := U.calling g mk a) (Vm.Alike.refl U.vm) qE2, va_O.moved (u := U) (U := U.calling g mk a) (Vm.Alike.refl U.vm) qE3, va_OF.moved (u := U) (U := U.calling g mk a) (Vm.Alike.refl U.vm) qE4, va_T.moved (u := U) (U := U.calling g mk a) (Vm.Alike.refl U.vm) qE5⟩, hrv, fun U hU hW => ⟨rfl, by rw [hU], by rw [hU]; exact hPc, va_K.moved hW.alike hKc, hDc.weaken (fun _ _ _ _ => trivial), vk_R.warm hW hE_32, va_Z.moved hW.alike (by rw [hU]; exact (hE_10.kept hS.2.1).narrow hFc), va_OF.moved hW.alike (by rw [hU]; exact (hE_34.kept hS.2.1).narrow hFc), va_O.moved hW.alike (by rw [hU]; exact (hE_33.kept hS.2.1).narrow hFc), va_OF.moved hW.alike (by rw [hU]; exact (hE_35.kept hS.2.1).narrow hFc), va_T.moved hW.alike (by rw [hU]; exact (hE_36.kept hS.2.1).narrow hFc)⟩⟩ rfl rfl hl.1 rfl (lv_room (Nat.le_of_ble_eq_true rfl)) dX4_faultOf_92 ⟨Nat.le_of_ble_eq_true rfl, Nat.le_of_ble_eq_true rfl⟩) hS (fun q _ h => hFc q h) hFc (fun u t H1 locs ht hvm hw hB hz1 hk1 hS => ?_)
        obtain ⟨x_54, x_55, x_56, w_57⟩ := u
        obtain ⟨hP1, hK1, hD1⟩ := hB
        rw [ht] at hP1
        obtain ⟨hP, hD⟩ := cl_put (w1 := (wd_c_X4_readSum h1 h1_0 h1_f1 x_54 x_55 h1_0 h1_0k h1_0c h0 h0_0 x_56 h0_2 h0_0 h0_0k w_57)) (nw := (wd_c_X4_faultOf h0 h0_0 x_56 h0_2 h1 h1_0 h1_f1 x_54 x_55 h1_0 h1_0k h1_0c h0_0 h0_0k w_57)) hP hD [1, 2, 0, 3] [6, 4, 5, 7] 4 rfl hqc (by decide +kernel) rfl hk1 hFc hP1 hD1
        generalize H1 = H at hP hS ⊢
        as_aux_lemma =>
        rcases hw with ⟨h_58, h_59, h_60, h_61⟩
        have h_61 : (x_54, x_55, x_56, w_57) = _ := h_61
        replace hEX := hEX.trans (exc4_eq h_61)
        exact hU _ _ _ (J95 x_56 x_54 x_55 w_57 g_h0_f1 g_h1_f1 g_h1_f2 g_h1_f3 g_j11_h0_f1 g_j11_h1_f2 g_j11_h1_f3 g_j11_l2 h_60 h_58 h_59 hEX _ _ _ hP hD hS (lv_sub hl [1, 2, 3] rfl))
      have J56 : ∀ (j56_l3 : Int32) (j56_h0_f1 : Int32) (j56_h1_f2 : Int32) (j56_h1_f3 : Int32) (j56_h0_0c : Nat → Int32) (g_h0_f1 : RG h0_f1 0 240) (g_h1_f1 : RG h1_f1 0 240) (g_h1_f2 : RG h1_f2 0 240) (g_h1_f3 : RG h1_f3 (-1) 240) (g_j11_h0_f1 : RG j11_h0_f1 0 240) (g_j11_h1_f2 : RG j11_h1_f2 0 240) (g_j11_h1_f3 : RG j11_h1_f3 (-1) (-1)) (g_j11_l2 : RG j11_l2 0 239) (g_j56_h0_f1 : RG j56_h0_f1 0 240) (g_j56_h1_f2 : RG j56_h1_f2 0 240) (g_j56_h1_f3 : RG j56_h1_f3 (-1) 240) (g_j56_l3 : RG j56_l3 0 1) (hEX : RES = fx_c_X4_faultOf_p56 h1_f1 h1_0c j11_l2 (fx_c_X4_faultOf_p11 h1_f1 h1_0c n11) j56_l3 j56_h0_f1 j56_h1_f2 j56_h1_f3 j56_h0_0c) (H : Heap) (locs : List Loc) (ls : Array Slot) (hP : va_P (dC, dI) vwCl (wd_c_X4_faultOf h0 h0_0 j56_h0_f1 h0_2 h1 h1_0 h1_f1 j56_h1_f2 j56_h1_f3 h1_0 h1_0k h1_0c h0_0 h0_0k j56_h0_0c) H) (hD : va_D A (wd_c_X4_faultOf h0 h0_0 j56_h0_f1 h0_2 h1 h1_0 h1_f1 j56_h1_f2 j56_h1_f3 h1_0 h1_0k h1_0c h0_0 h0_0k j56_h0_0c)) (hS : va_S A s.heap H locs) (hl : lv_has ls 4 [(3, .int j56_l3), (2, .int j11_l2), (0, .ref h0), (1, .ref h1)]), G H locs (F0 m 56 ls []) := by
        as_aux_lemma =>
        intro j56_l3 j56_h0_f1 j56_h1_f2 j56_h1_f3 j56_h0_0c g_h0_f1 g_h1_f1 g_h1_f2 g_h1_f3 g_j11_h0_f1 g_j11_h1_f2 g_j11_h1_f3 g_j11_l2 g_j56_h0_f1 g_j56_h1_f2 g_j56_h1_f3 g_j56_l3 hEX H locs ls hP hD hS hl
        refine hG _ _ _ ?_
        refine lv_iload_n hx hb dX4_faultOf_56 rfl (lv_at hl 0 rfl) ?_
        refine lv_if_eq (tgt := 70) hx hb dX4_faultOf_57 rfl (fun c_62 => ?_) (fun c_62 => ?_)
        · replace hEX := hEX.trans (if_pos c_62)
          have g_63 : RG j56_l3 0 0 := RG_eq1 g_j56_l3 (RG_k 0 0 rfl) c_62 (by decide +kernel)
          exact hU _ _ _ (J70 j56_l3 j56_h0_f1 j56_h1_f2 j56_h1_f3 j56_h0_0c g_h0_f1 g_h1_f1 g_h1_f2 g_h1_f3 g_j11_h0_f1 g_j11_h1_f2 g_j11_h1_f3 g_j11_l2 g_j56_h0_f1 g_j56_h1_f2 g_j56_h1_f3 (RG_w g_63 (by decide +kernel)) hEX _ _ _ hP hD hS (lv_sub hl [0, 1, 2, 3] rfl))
        · replace hEX := hEX.trans (if_neg c_62)
          have g_64 : RG j56_l3 1 1 := RG_ne1 g_j56_l3 (q := 0) rfl c_62 (by decide +kernel)
          refine lv_aload_n hx hb dX4_faultOf_60 rfl (lv_at hl 3 rfl) ?_
          obtain ⟨hPc, hDc, hFc, hqc⟩ := cl_cut (wc := (wd_c_X9_peek h1 h1_0 h1_f1 j56_h1_f2 j56_h1_f3 h1_0 h1_0k h1_0c)) hP hD hS hA [1, 2] (by decide +kernel) rfl
          have hKc := hK.sub (tys' := [(h1_0k, .int)]) [0] rfl
          have hrv := va_recv hKc hPc (ci := 9) (q0 := 0) rfl rfl
          refine va_calli (va_runV (As := []) (rest := []) ⟨hx, hb, hml, hown, hts⟩ (c_X9_peek l dC dI H.size h1 h1_0 h1_f1 j56_h1_f2 j56_h1_f3 h1_0k h1_0c g_h1_f1 g_j56_h1_f2 g_j56_h1_f3 a_h1_0c) (cwV 0 hts gf_c_X4_faultOf_c_X9_peek rfl rfl rfl mdV_X9_peek ⟨Nat.le_of_ble_eq_true rfl, Nat.le_of_ble_eq_true rfl⟩) ⟨fun a U g mk q => by obtain ⟨q0, q1, qP, qK, qD⟩ := q; exact ⟨q0, q1, qP, va_K.moved (u := U) (U := U.calling g mk a) (Vm.Alike.refl U.vm) qK, qD⟩, hrv, fun U hU hW => ⟨rfl, by rw [hU], by rw [hU]; exact hPc, va_K.moved hW.alike hKc, hDc.weaken (fun _ _ _ _ => trivial)⟩⟩ rfl rfl hl.1 rfl (lv_room (Nat.le_of_ble_eq_true rfl)) dX4_faultOf_61 ⟨Nat.le_of_ble_eq_true rfl, Nat.le_of_ble_eq_true rfl⟩) hS (fun q _ h => hFc q h) hFc (fun r_65 x_66 t H1 locs ht hvm hw hB hz1 hk1 hS => ?_)
          as_aux_lemma =>
          obtain ⟨hP1, hK1, hD1⟩ := hB
          rw [ht] at hP1
          obtain ⟨hP, hD⟩ := cl_put (w1 := (wd_c_X9_peek h1 h1_0 h1_f1 x_66 j56_h1_f3 h1_0 h1_0k h1_0c)) (nw := (wd_c_X4_faultOf h0 h0_0 j56_h0_f1 h0_2 h1 h1_0 h1_f1 x_66 j56_h1_f3 h1_0 h1_0k h1_0c h0_0 h0_0k j56_h0_0c)) hP hD [1, 2] [0, 4, 5, 3] 4 rfl hqc (by decide +kernel) rfl hk1 hFc hP1 hD1
          generalize H1 = H at hP hS ⊢
          as_aux_lemma =>
          rcases hw with ⟨h_67, h_68, h_69, h_70⟩ | ⟨h_71, h_72, h_73, h_74, h_75⟩
          · have h_70 : (r_65, x_66) = _ := h_70
            replace hEX := hEX.trans (exc2_eq h_70)
            replace hEX := hEX.trans (if_pos (show r_65 = (-1) from h_67))
            rw [h_67]
            obtain ⟨hPc, hDc, hFc, hqc⟩ := cl_cut (wc := []) hP hD hS hA [] (by decide +kernel) rfl
            have hKc := hK.sub (tys' := []) [] rfl
            refine va_calli (va_runS (As := [.int (-1)]) (rest := []) ⟨hx, hb, hml, hown, hts⟩ (c_X4_isComparison l dC dI H.size (-1) (RG_k (-1) (-1) rfl)) (va_cwS 1 hts gf_c_X4_faultOf_c_X4_isComparison rfl rfl rfl md_X4_isComparison ⟨Nat.le_of_ble_eq_true rfl, Nat.le_of_ble_eq_true rfl⟩) ⟨fun a U g mk q => by obtain ⟨q0, q1, qP, qK, qD⟩ := q; exact ⟨q0, q1, qP, va_K.moved (u := U) (U := U.calling g mk a) (Vm.Alike.refl U.vm) qK, qD⟩, fun U hU hW => ⟨rfl, by rw [hU], by rw [hU]; exact hPc, va_K.moved hW.alike hKc, hDc.weaken (fun _ _ _ _ => trivial)⟩⟩ rfl rfl hl.1 rfl (lv_room (Nat.le_of_ble_eq_true rfl)) dX4_faultOf_64 ⟨Nat.le_of_ble_eq_true rfl, Nat.le_of_ble_eq_true rfl⟩) hS (fun q _ h => hFc q h) hFc (fun r_76 u t H1 locs ht hvm hw hB hz1 hk1 hS => ?_)
            obtain ⟨hP1, hK1, hD1⟩ := hB
            rw [ht] at hP1
            have hP := bv_still hP hk1
            generalize H1 = H at hP hS ⊢
            as_aux_lemma =>
            rcases hw with ⟨h_77, h_78⟩
            have h_78 : r_76 = _ := h_78
            replace hEX := hEX.trans (exc1_eq h_78)
            rw [h_77]
            refine lv_if_eq (tgt := 95) hx hb dX4_faultOf_67 rfl (fun c_79 => ?_) (fun c_79 => absurd c_79 (by decide +kernel))
            exact hU _ _ _ (J95 j56_h0_f1 x_66 j56_h1_f3 j56_h0_0c g_h0_f1 g_h1_f1 g_h1_f2 g_h1_f3 g_j11_h0_f1 g_j11_h1_f2 g_j11_h1_f3 g_j11_l2 g_j56_h0_f1 h_68 g_j56_h1_f3 hEX _ _ _ hP hD hS (lv_sub hl [1, 2, 3] rfl))
          · have h_75 : (r_65, x_66) = _ := h_75
            replace hEX := hEX.trans (exc2_eq h_75)
            replace hEX := hEX.trans (if_neg (RG_neq (x := r_65) (c := (-1)) (show RG r_65 0 255 from h_71) (by decide +kernel)))
            obtain ⟨hPc, hDc, hFc, hqc⟩ := cl_cut (wc := []) hP hD hS hA [] (by decide +kernel) rfl
            have hKc := hK.sub (tys' := []) [] rfl
            refine va_calli (va_runS (As := [.int r_65]) (rest := []) ⟨hx, hb, hml, hown, hts⟩ (c_X4_isComparison_1 l dC dI H.size r_65 h_71) (va_cwS 1 hts gf_c_X4_faultOf_c_X4_isComparison_1 rfl rfl rfl md_X4_isComparison ⟨Nat.le_of_ble_eq_true rfl, Nat.le_of_ble_eq_true rfl⟩) ⟨fun a U g mk q => by obtain ⟨q0, q1, qP, qK, qD⟩ := q; exact ⟨q0, q1, qP, va_K.moved (u := U) (U := U.calling g mk a) (Vm.Alike.refl U.vm) qK, qD⟩, fun U hU hW => ⟨rfl, by rw [hU], by rw [hU]; exact hPc, va_K.moved hW.alike hKc, hDc.weaken (fun _ _ _ _ => trivial)⟩⟩ rfl rfl hl.1 rfl (lv_room (Nat.le_of_ble_eq_true rfl)) dX4_faultOf_64 ⟨Nat.le_of_ble_eq_true rfl, Nat.le_of_ble_eq_true rfl⟩) hS (fun q _ h => hFc q h) hFc (fun r_80 u t H1 locs ht hvm hw hB hz1 hk1 hS => ?_)
            obtain ⟨hP1, hK1, hD1⟩ := hB
            rw [ht] at hP1
            have hP := bv_still hP hk1
            generalize H1 = H at hP hS ⊢
            as_aux_lemma =>
            rcases hw with ⟨h_81, h_82⟩ | ⟨h_83, h_84, h_85⟩
            · have h_82 : r_80 = _ := h_82
              replace hEX := hEX.trans (exc1_eq h_82)
              replace hEX := hEX.trans (if_pos (show r_80 = 0 from h_81))
              rw [h_81]
              refine lv_if_eq (tgt := 95) hx hb dX4_faultOf_67 rfl (fun c_86 => ?_) (fun c_86 => absurd c_86 (by decide +kernel))
              exact hU _ _ _ (J95 j56_h0_f1 x_66 j56_h1_f3 j56_h0_0c g_h0_f1 (RG_w h_73 (by decide +kernel)) g_h1_f2 g_h1_f3 g_j11_h0_f1 g_j11_h1_f2 g_j11_h1_f3 g_j11_l2 g_j56_h0_f1 (RG_w h_72 (by decide +kernel)) g_j56_h1_f3 hEX _ _ _ hP hD hS (lv_sub hl [1, 2, 3] rfl))
            · have h_85 : r_80 = _ := h_85
              replace hEX := hEX.trans (exc1_eq h_85)
              replace hEX := hEX.trans (if_neg (fun q9 : r_80 = 0 => absurd ((show r_80 = 1 from h_83).symm.trans q9) (by decide +kernel)))
              rw [h_83]
              refine lv_if_eq (tgt := 95) hx hb dX4_faultOf_67 rfl (fun c_87 => absurd c_87 (by decide +kernel)) (fun c_87 => ?_)
              exact hU _ _ _ (J70 j56_l3 j56_h0_f1 x_66 j56_h1_f3 j56_h0_0c g_h0_f1 (RG_w h_73 (by decide +kernel)) g_h1_f2 g_h1_f3 g_j11_h0_f1 g_j11_h1_f2 g_j11_h1_f3 g_j11_l2 g_j56_h0_f1 (RG_w h_72 (by decide +kernel)) g_j56_h1_f3 (RG_w g_64 (by decide +kernel)) hEX _ _ _ hP hD hS (lv_sub hl [0, 1, 2, 3] rfl))
      have J45b : ∀ (j45b_h1_f2 : Int32) (j45b_h1_f3 : Int32) (g_h0_f1 : RG h0_f1 0 240) (g_h1_f1 : RG h1_f1 1 240) (g_h1_f2 : RG h1_f2 0 240) (g_h1_f3 : RG h1_f3 (-1) 240) (g_j11_h0_f1 : RG j11_h0_f1 0 240) (g_j11_h1_f2 : RG j11_h1_f2 0 240) (g_j11_h1_f3 : RG j11_h1_f3 (-1) (-1)) (g_j11_l2 : RG j11_l2 0 239) (g_j45b_h1_f2 : RG j45b_h1_f2 0 239) (g_j45b_h1_f3 : RG j45b_h1_f3 (-1) 240) (hEX : RES = fx_c_X4_faultOf_p45b h1_f1 h1_0c j11_l2 j11_h0_f1 j11_h0_0c (fx_c_X4_faultOf_p11 h1_f1 h1_0c n11) j45b_h1_f2 j45b_h1_f3) (H : Heap) (locs : List Loc) (ls : Array Slot) (hP : va_P (dC, dI) vwCl (wd_c_X4_faultOf h0 h0_0 j11_h0_f1 h0_2 h1 h1_0 h1_f1 j45b_h1_f2 j45b_h1_f3 h1_0 h1_0k h1_0c h0_0 h0_0k j11_h0_0c) H) (hD : va_D A (wd_c_X4_faultOf h0 h0_0 j11_h0_f1 h0_2 h1 h1_0 h1_f1 j45b_h1_f2 j45b_h1_f3 h1_0 h1_0k h1_0c h0_0 h0_0k j11_h0_0c)) (hS : va_S A s.heap H locs) (hl : lv_has ls 4 [(2, .int j11_l2), (0, .ref h0), (1, .ref h1)]), G H locs (F0 m 45 ls [.int 0]) := by
        as_aux_lemma =>
        intro j45b_h1_f2 j45b_h1_f3 g_h0_f1 g_h1_f1 g_h1_f2 g_h1_f3 g_j11_h0_f1 g_j11_h1_f2 g_j11_h1_f3 g_j11_l2 g_j45b_h1_f2 g_j45b_h1_f3 hEX H locs ls hP hD hS hl
        refine hG _ _ _ ?_
        refine lv_istore_n (lv' := [(3, .int 0), (2, .int j11_l2), (0, .ref h0), (1, .ref h1)]) hx hb dX4_faultOf_45 rfl hl (Nat.le_of_ble_eq_true rfl) rfl (fun ls hl => ?_)
        refine lv_iload_n hx hb dX4_faultOf_46 rfl (lv_at hl 0 rfl) ?_
        refine lv_if_eq (tgt := 56) hx hb dX4_faultOf_47 rfl (fun c_88 => ?_) (fun c_88 => absurd c_88 (by decide +kernel))
        exact hU _ _ _ (J56 0 j11_h0_f1 j45b_h1_f2 j45b_h1_f3 j11_h0_0c g_h0_f1 (RG_w g_h1_f1 (by decide +kernel)) g_h1_f2 g_h1_f3 g_j11_h0_f1 g_j11_h1_f2 g_j11_h1_f3 g_j11_l2 g_j11_h0_f1 (RG_w g_j45b_h1_f2 (by decide +kernel)) g_j45b_h1_f3 (RG_w (RG_k 0 0 rfl) (by decide +kernel)) hEX _ _ _ hP hD hS (lv_sub hl [0, 1, 2, 3] rfl))
      have J45 : ∀ (j45_h1_f2 : Int32) (j45_h1_f3 : Int32) (g_h0_f1 : RG h0_f1 0 240) (g_h1_f1 : RG h1_f1 0 240) (g_h1_f2 : RG h1_f2 0 240) (g_h1_f3 : RG h1_f3 (-1) 240) (g_j11_h0_f1 : RG j11_h0_f1 0 240) (g_j11_h1_f2 : RG j11_h1_f2 0 240) (g_j11_h1_f3 : RG j11_h1_f3 (-1) (-1)) (g_j11_l2 : RG j11_l2 0 239) (g_j45_h1_f2 : RG j45_h1_f2 0 240) (g_j45_h1_f3 : RG j45_h1_f3 (-1) 240) (hEX : RES = fx_c_X4_faultOf_p45 h1_f1 h1_0c j11_l2 j11_h0_f1 j11_h0_0c (fx_c_X4_faultOf_p11 h1_f1 h1_0c n11) j45_h1_f2 j45_h1_f3) (H : Heap) (locs : List Loc) (ls : Array Slot) (hP : va_P (dC, dI) vwCl (wd_c_X4_faultOf h0 h0_0 j11_h0_f1 h0_2 h1 h1_0 h1_f1 j45_h1_f2 j45_h1_f3 h1_0 h1_0k h1_0c h0_0 h0_0k j11_h0_0c) H) (hD : va_D A (wd_c_X4_faultOf h0 h0_0 j11_h0_f1 h0_2 h1 h1_0 h1_f1 j45_h1_f2 j45_h1_f3 h1_0 h1_0k h1_0c h0_0 h0_0k j11_h0_0c)) (hS : va_S A s.heap H locs) (hl : lv_has ls 4 [(2, .int j11_l2), (0, .ref h0), (1, .ref h1)]), G H locs (F0 m 45 ls [.int 1]) := by
        as_aux_lemma =>
        intro j45_h1_f2 j45_h1_f3 g_h0_f1 g_h1_f1 g_h1_f2 g_h1_f3 g_j11_h0_f1 g_j11_h1_f2 g_j11_h1_f3 g_j11_l2 g_j45_h1_f2 g_j45_h1_f3 hEX H locs ls hP hD hS hl
        refine hG _ _ _ ?_
        refine lv_istore_n (lv' := [(3, .int 1), (2, .int j11_l2), (0, .ref h0), (1, .ref h1)]) hx hb dX4_faultOf_45 rfl hl (Nat.le_of_ble_eq_true rfl) rfl (fun ls hl => ?_)
        refine lv_iload_n hx hb dX4_faultOf_46 rfl (lv_at hl 0 rfl) ?_
        refine lv_if_eq (tgt := 56) hx hb dX4_faultOf_47 rfl (fun c_89 => absurd c_89 (by decide +kernel)) (fun c_89 => ?_)
        refine lv_aload_n hx hb dX4_faultOf_50 rfl (lv_at hl 2 rfl) ?_
        refine lv_aload_n hx hb dX4_faultOf_51 rfl (lv_at hl 3 rfl) ?_
        refine lv_iconst (v := 0) hx hb dX4_faultOf_52 kc_iconst_0 ?_
        obtain ⟨hPc, hDc, hFc, hqc⟩ := cl_cut (wc := (wd_c_X4_readSum h1 h1_0 h1_f1 j45_h1_f2 j45_h1_f3 h1_0 h1_0k h1_0c h0 h0_0 j11_h0_f1 h0_2 h0_0 h0_0k j11_h0_0c)) hP hD hS hA [1, 2, 0, 3] (by decide +kernel) rfl
        have hKc := hK.sub (tys' := [(h1_0k, .int), (h0_0k, .int)]) [0, 1] rfl
        have hrv := va_recv hKc hPc (ci := 4) (q0 := 2) rfl rfl
        refine va_callv (va_runV (As := [.ref h1, .int 0]) (rest := []) ⟨hx, hb, hml, hown, hts⟩ (c_X4_readSum l dC dI H.size h0 h1 h1_0 h1_f1 j45_h1_f2 j45_h1_f3 h1_0k h1_0c h0_0 j11_h0_f1 h0_2 h0_0k j11_h0_0c ts4 tv4 g_h1_f1 g_j45_h1_f2 g_j45_h1_f3 a_h1_0c g_j11_h0_f1) (cwV 2 hts gf_c_X4_faultOf_c_X4_readSum rfl rfl rfl mdV_X4_readSum ⟨Nat.le_of_ble_eq_true rfl, Nat.le_of_ble_eq_true rfl⟩) ⟨fun a U g mk q => by obtain ⟨q0, q1, qP, qK, qD, qE0, qE1, qE2, qE3, qE4, qE5⟩ := q; exact ⟨q0, q1, qP, va_K.moved (u := U) (U := U.calling g mk a) (Vm.Alike.refl U.vm) qK, qD, vk_R.same rfl qE0, va_Z.moved (u := U) (U := U.calling g mk a) (Vm.Alike.refl U.vm) qE1, va_OF.moved (u := U) (U := U.calling g mk a) (Vm.Alike.refl U.vm) qE2, va_O.moved (u := U) (U := U.calling g mk a) (Vm.Alike.refl U.vm) qE3, va_OF.moved (u := U) (U := U.calling g mk a) (Vm.Alike.refl U.vm) qE4, va_T.moved (u := U) (U := U.calling g mk a) (Vm.Alike.refl U.vm) qE5⟩, hrv, fun U hU hW => ⟨rfl, by rw [hU], by rw [hU]; exact hPc, va_K.moved hW.alike hKc, hDc.weaken (fun _ _ _ _ => trivial), vk_R.warm hW hE_32, va_Z.moved hW.alike (by rw [hU]; exact (hE_10.kept hS.2.1).narrow hFc), va_OF.moved hW.alike (by rw [hU]; exact (hE_34.kept hS.2.1).narrow hFc), va_O.moved hW.alike (by rw [hU]; exact (hE_33.kept hS.2.1).narrow hFc), va_OF.moved hW.alike (by rw [hU]; exact (hE_35.kept hS.2.1).narrow hFc), va_T.moved hW.alike (by rw [hU]; exact (hE_36.kept hS.2.1).narrow hFc)⟩⟩ rfl rfl hl.1 rfl (lv_room (Nat.le_of_ble_eq_true rfl)) dX4_faultOf_53 ⟨Nat.le_of_ble_eq_true rfl, Nat.le_of_ble_eq_true rfl⟩) hS (fun q _ h => hFc q h) hFc (fun u t H1 locs ht hvm hw hB hz1 hk1 hS => ?_)
        obtain ⟨x_91, x_92, x_93, w_94⟩ := u
        obtain ⟨hP1, hK1, hD1⟩ := hB
        rw [ht] at hP1
        obtain ⟨hP, hD⟩ := cl_put (w1 := (wd_c_X4_readSum h1 h1_0 h1_f1 x_91 x_92 h1_0 h1_0k h1_0c h0 h0_0 x_93 h0_2 h0_0 h0_0k w_94)) (nw := (wd_c_X4_faultOf h0 h0_0 x_93 h0_2 h1 h1_0 h1_f1 x_91 x_92 h1_0 h1_0k h1_0c h0_0 h0_0k w_94)) hP hD [1, 2, 0, 3] [6, 4, 5, 7] 4 rfl hqc (by decide +kernel) rfl hk1 hFc hP1 hD1
        generalize H1 = H at hP hS ⊢
        as_aux_lemma =>
        rcases hw with ⟨h_95, h_96, h_97, h_98⟩
        have h_98 : (x_91, x_92, x_93, w_94) = _ := h_98
        replace hEX := hEX.trans (exc4_eq h_98)
        exact hU _ _ _ (J56 1 x_93 x_91 x_92 w_94 g_h0_f1 g_h1_f1 g_h1_f2 g_h1_f3 g_j11_h0_f1 g_j11_h1_f2 g_j11_h1_f3 g_j11_l2 h_97 h_95 h_96 (RG_w (RG_k 1 1 rfl) (by decide +kernel)) hEX _ _ _ hP hD hS (lv_sub hl [0, 1, 2, 3] rfl))
      refine hG _ _ _ ?_
      replace hEX := hEX.trans (if_pos (rfl : j11_l2 = j11_l2))
      refine lv_iload_n hx hb dX4_faultOf_11 rfl (lv_at hl 0 rfl) ?_
      refine lv_sipush (v := 240) hx hb dX4_faultOf_12 kc_sipush_240 ?_
      refine lv_icmp_ge (tgt := 119) hx hb dX4_faultOf_15 rfl (fun c_99 => ?_) (fun c_99 => ?_)
      · replace hEX := hEX.trans (if_pos c_99)
        have g_100 : RG j11_l2 240 240 := RG_le2 (RG_k 240 240 rfl) g_j11_l2 c_99 (by decide +kernel)
        exact hU _ _ _ (J119 j11_h0_f1 j11_h1_f2 j11_h1_f3 j11_h0_0c g_h0_f1 g_h1_f1 g_h1_f2 g_h1_f3 g_j11_h0_f1 g_j11_h1_f2 (RG_w g_j11_h1_f3 (by decide +kernel)) hEX _ _ _ hP hD hS (lv_sub hl [2] rfl))
      · replace hEX := hEX.trans (if_neg c_99)
        have d_101 := Int32.not_le.mp c_99
        have g_102 : RG j11_l2 0 239 := RG_lt1 g_j11_l2 (RG_k 240 240 rfl) d_101 (by decide +kernel)
        refine lv_aload_n hx hb dX4_faultOf_18 rfl (lv_at hl 2 rfl) ?_
        as_aux_lemma =>
        refine lv_bipush (v := 121) hx hb dX4_faultOf_19 kc_bipush_121 ?_
        obtain ⟨hPc, hDc, hFc, hqc⟩ := cl_cut (wc := (wd_c_X9_expect h1 h1_0 h1_f1 j11_h1_f2 j11_h1_f3 h1_0 h1_0k h1_0c)) hP hD hS hA [1, 2] (by decide +kernel) rfl
        have hKc := hK.sub (tys' := [(h1_0k, .int)]) [0] rfl
        have hrv := va_recv hKc hPc (ci := 9) (q0 := 0) rfl rfl
        refine va_callv (va_runV (As := [.int 121]) (rest := []) ⟨hx, hb, hml, hown, hts⟩ (c_X9_expect l dC dI H.size h1 121 h1_0 h1_f1 j11_h1_f2 j11_h1_f3 h1_0k h1_0c (RG_w (RG_k 121 121 rfl) (by decide +kernel)) g_h1_f1 g_j11_h1_f2 (RG_w g_j11_h1_f3 (by decide +kernel)) a_h1_0c) (cwV 1 hts gf_c_X4_faultOf_c_X9_expect rfl rfl rfl mdV_X9_expect ⟨Nat.le_of_ble_eq_true rfl, Nat.le_of_ble_eq_true rfl⟩) ⟨fun a U g mk q => by obtain ⟨q0, q1, qP, qK, qD⟩ := q; exact ⟨q0, q1, qP, va_K.moved (u := U) (U := U.calling g mk a) (Vm.Alike.refl U.vm) qK, qD⟩, hrv, fun U hU hW => ⟨rfl, by rw [hU], by rw [hU]; exact hPc, va_K.moved hW.alike hKc, hDc.weaken (fun _ _ _ _ => trivial)⟩⟩ rfl rfl hl.1 rfl (lv_room (Nat.le_of_ble_eq_true rfl)) dX4_faultOf_21 ⟨Nat.le_of_ble_eq_true rfl, Nat.le_of_ble_eq_true rfl⟩) hS (fun q _ h => hFc q h) hFc (fun u t H1 locs ht hvm hw hB hz1 hk1 hS => ?_)
        obtain ⟨x_104, x_105⟩ := u
        obtain ⟨hP1, hK1, hD1⟩ := hB
        rw [ht] at hP1
        obtain ⟨hP, hD⟩ := cl_put (w1 := (wd_c_X9_expect h1 h1_0 h1_f1 x_104 x_105 h1_0 h1_0k h1_0c)) (nw := (wd_c_X4_faultOf h0 h0_0 j11_h0_f1 h0_2 h1 h1_0 h1_f1 x_104 x_105 h1_0 h1_0k h1_0c h0_0 h0_0k j11_h0_0c)) hP hD [1, 2] [0, 4, 5, 3] 4 rfl hqc (by decide +kernel) rfl hk1 hFc hP1 hD1
        generalize H1 = H at hP hS ⊢
        as_aux_lemma =>
        rcases hw with ⟨h_106, h_107, h_108, h_109⟩
        have h_109 : (x_104, x_105) = _ := h_109
        replace hEX := hEX.trans (exc2_eq h_109)
        refine lv_aload_n hx hb dX4_faultOf_24 rfl (lv_at hl 2 rfl) ?_
        refine lv_bipush (v := 58) hx hb dX4_faultOf_25 kc_bipush_58 ?_
        obtain ⟨hPc, hDc, hFc, hqc⟩ := cl_cut (wc := (wd_c_X9_expect_1 h1 h1_0 h1_f1 x_104 x_105 h1_0 h1_0k h1_0c)) hP hD hS hA [1, 2] (by decide +kernel) rfl
        have hKc := hK.sub (tys' := [(h1_0k, .int)]) [0] rfl
        have hrv := va_recv hKc hPc (ci := 9) (q0 := 0) rfl rfl
        refine va_callv (va_runV (As := [.int 58]) (rest := []) ⟨hx, hb, hml, hown, hts⟩ (c_X9_expect_1 l dC dI H.size h1 58 h1_0 h1_f1 x_104 x_105 h1_0k h1_0c (RG_w (RG_k 58 58 rfl) (by decide +kernel)) g_h1_f1 h_106 h_107 a_h1_0c) (cwV 1 hts gf_c_X4_faultOf_c_X9_expect_1 rfl rfl rfl mdV_X9_expect ⟨Nat.le_of_ble_eq_true rfl, Nat.le_of_ble_eq_true rfl⟩) ⟨fun a U g mk q => by obtain ⟨q0, q1, qP, qK, qD⟩ := q; exact ⟨q0, q1, qP, va_K.moved (u := U) (U := U.calling g mk a) (Vm.Alike.refl U.vm) qK, qD⟩, hrv, fun U hU hW => ⟨rfl, by rw [hU], by rw [hU]; exact hPc, va_K.moved hW.alike hKc, hDc.weaken (fun _ _ _ _ => trivial)⟩⟩ rfl rfl hl.1 rfl (lv_room (Nat.le_of_ble_eq_true rfl)) dX4_faultOf_27 ⟨Nat.le_of_ble_eq_true rfl, Nat.le_of_ble_eq_true rfl⟩) hS (fun q _ h => hFc q h) hFc (fun u t H1 locs ht hvm hw hB hz1 hk1 hS => ?_)
        obtain ⟨x_111, x_112⟩ := u
        obtain ⟨hP1, hK1, hD1⟩ := hB
        rw [ht] at hP1
        obtain ⟨hP, hD⟩ := cl_put (w1 := (wd_c_X9_expect_1 h1 h1_0 h1_f1 x_111 x_112 h1_0 h1_0k h1_0c)) (nw := (wd_c_X4_faultOf h0 h0_0 j11_h0_f1 h0_2 h1 h1_0 h1_f1 x_111 x_112 h1_0 h1_0k h1_0c h0_0 h0_0k j11_h0_0c)) hP hD [1, 2] [0, 4, 5, 3] 4 rfl hqc (by decide +kernel) rfl hk1 hFc hP1 hD1
        generalize H1 = H at hP hS ⊢
        as_aux_lemma =>
        rcases hw with ⟨h_113, h_114, h_115, h_116⟩
        have h_116 : (x_111, x_112) = _ := h_116
        replace hEX := hEX.trans (exc2_eq h_116)
        refine lv_aload_n hx hb dX4_faultOf_30 rfl (lv_at hl 2 rfl) ?_
        obtain ⟨hPc, hDc, hFc, hqc⟩ := cl_cut (wc := (wd_c_X9_peek h1 h1_0 h1_f1 x_111 x_112 h1_0 h1_0k h1_0c)) hP hD hS hA [1, 2] (by decide +kernel) rfl
        have hKc := hK.sub (tys' := [(h1_0k, .int)]) [0] rfl
        have hrv := va_recv hKc hPc (ci := 9) (q0 := 0) rfl rfl
        refine va_calli (va_runV (As := []) (rest := []) ⟨hx, hb, hml, hown, hts⟩ (c_X9_peek l dC dI H.size h1 h1_0 h1_f1 x_111 x_112 h1_0k h1_0c g_h1_f1 h_113 h_114 a_h1_0c) (cwV 0 hts gf_c_X4_faultOf_c_X9_peek rfl rfl rfl mdV_X9_peek ⟨Nat.le_of_ble_eq_true rfl, Nat.le_of_ble_eq_true rfl⟩) ⟨fun a U g mk q => by obtain ⟨q0, q1, qP, qK, qD⟩ := q; exact ⟨q0, q1, qP, va_K.moved (u := U) (U := U.calling g mk a) (Vm.Alike.refl U.vm) qK, qD⟩, hrv, fun U hU hW => ⟨rfl, by rw [hU], by rw [hU]; exact hPc, va_K.moved hW.alike hKc, hDc.weaken (fun _ _ _ _ => trivial)⟩⟩ rfl rfl hl.1 rfl (lv_room (Nat.le_of_ble_eq_true rfl)) dX4_faultOf_31 ⟨Nat.le_of_ble_eq_true rfl, Nat.le_of_ble_eq_true rfl⟩) hS (fun q _ h => hFc q h) hFc (fun r_117 x_118 t H1 locs ht hvm hw hB hz1 hk1 hS => ?_)
        obtain ⟨hP1, hK1, hD1⟩ := hB
        rw [ht] at hP1
        obtain ⟨hP, hD⟩ := cl_put (w1 := (wd_c_X9_peek h1 h1_0 h1_f1 x_118 x_112 h1_0 h1_0k h1_0c)) (nw := (wd_c_X4_faultOf h0 h0_0 j11_h0_f1 h0_2 h1 h1_0 h1_f1 x_118 x_112 h1_0 h1_0k h1_0c h0_0 h0_0k j11_h0_0c)) hP hD [1, 2] [0, 4, 5, 3] 4 rfl hqc (by decide +kernel) rfl hk1 hFc hP1 hD1
        generalize H1 = H at hP hS ⊢
        as_aux_lemma =>
        rcases hw with ⟨h_119, h_120, h_121, h_122⟩ | ⟨h_123, h_124, h_125, h_126, h_127⟩
        · have h_122 : (r_117, x_118) = _ := h_122
          replace hEX := hEX.trans (exc2_eq h_122)
          replace hEX := hEX.trans (if_pos (show r_117 = (-1) from h_119))
          rw [h_119]
          obtain ⟨hPc, hDc, hFc, hqc⟩ := cl_cut (wc := []) hP hD hS hA [] (by decide +kernel) rfl
          have hKc := hK.sub (tys' := []) [] rfl
          refine va_calli (va_runS (As := [.int (-1)]) (rest := []) ⟨hx, hb, hml, hown, hts⟩ (c_X4_startsUnit l dC dI H.size (-1) (RG_k (-1) (-1) rfl)) (va_cwS 1 hts gf_c_X4_faultOf_c_X4_startsUnit rfl rfl rfl md_X4_startsUnit ⟨Nat.le_of_ble_eq_true rfl, Nat.le_of_ble_eq_true rfl⟩) ⟨fun a U g mk q => by obtain ⟨q0, q1, qP, qK, qD⟩ := q; exact ⟨q0, q1, qP, va_K.moved (u := U) (U := U.calling g mk a) (Vm.Alike.refl U.vm) qK, qD⟩, fun U hU hW => ⟨rfl, by rw [hU], by rw [hU]; exact hPc, va_K.moved hW.alike hKc, hDc.weaken (fun _ _ _ _ => trivial)⟩⟩ rfl rfl hl.1 rfl (lv_room (Nat.le_of_ble_eq_true rfl)) dX4_faultOf_34 ⟨Nat.le_of_ble_eq_true rfl, Nat.le_of_ble_eq_true rfl⟩) hS (fun q _ h => hFc q h) hFc (fun r_128 u t H1 locs ht hvm hw hB hz1 hk1 hS => ?_)
          obtain ⟨hP1, hK1, hD1⟩ := hB
          rw [ht] at hP1
          have hP := bv_still hP hk1
          generalize H1 = H at hP hS ⊢
          as_aux_lemma =>
          rcases hw with ⟨h_129, h_130⟩
          have h_130 : r_128 = _ := h_130
          replace hEX := hEX.trans (exc1_eq h_130)
          rw [h_129]
          refine lv_if_ne (tgt := 44) hx hb dX4_faultOf_37 rfl (fun c_131 => absurd c_131 (by decide +kernel)) (fun c_131 => ?_)
          refine lv_iconst (v := 1) hx hb dX4_faultOf_40 kc_iconst_1 ?_
          refine lv_goto (tgt := 45) hx hb dX4_faultOf_41 rfl ?_
          exact hU _ _ _ (J45 x_118 x_112 g_h0_f1 g_h1_f1 g_h1_f2 g_h1_f3 g_j11_h0_f1 g_j11_h1_f2 g_j11_h1_f3 g_102 h_120 h_114 hEX _ _ _ hP hD hS (lv_sub hl [0, 1, 2] rfl))
        · have h_127 : (r_117, x_118) = _ := h_127
          replace hEX := hEX.trans (exc2_eq h_127)
          replace hEX := hEX.trans (if_neg (RG_neq (x := r_117) (c := (-1)) (show RG r_117 0 255 from h_123) (by decide +kernel)))
          obtain ⟨hPc, hDc, hFc, hqc⟩ := cl_cut (wc := []) hP hD hS hA [] (by decide +kernel) rfl
          have hKc := hK.sub (tys' := []) [] rfl
          refine va_calli (va_runS (As := [.int r_117]) (rest := []) ⟨hx, hb, hml, hown, hts⟩ (c_X4_startsUnit_1 l dC dI H.size r_117 h_123) (va_cwS 1 hts gf_c_X4_faultOf_c_X4_startsUnit_1 rfl rfl rfl md_X4_startsUnit ⟨Nat.le_of_ble_eq_true rfl, Nat.le_of_ble_eq_true rfl⟩) ⟨fun a U g mk q => by obtain ⟨q0, q1, qP, qK, qD⟩ := q; exact ⟨q0, q1, qP, va_K.moved (u := U) (U := U.calling g mk a) (Vm.Alike.refl U.vm) qK, qD⟩, fun U hU hW => ⟨rfl, by rw [hU], by rw [hU]; exact hPc, va_K.moved hW.alike hKc, hDc.weaken (fun _ _ _ _ => trivial)⟩⟩ rfl rfl hl.1 rfl (lv_room (Nat.le_of_ble_eq_true rfl)) dX4_faultOf_34 ⟨Nat.le_of_ble_eq_true rfl, Nat.le_of_ble_eq_true rfl⟩) hS (fun q _ h => hFc q h) hFc (fun r_132 u t H1 locs ht hvm hw hB hz1 hk1 hS => ?_)
          as_aux_lemma =>
          obtain ⟨hP1, hK1, hD1⟩ := hB
          rw [ht] at hP1
          have hP := bv_still hP hk1
          generalize H1 = H at hP hS ⊢
          as_aux_lemma =>
          rcases hw with ⟨h_133, h_134⟩ | ⟨h_135, h_136, h_137⟩
          · have h_134 : r_132 = _ := h_134
            replace hEX := hEX.trans (exc1_eq h_134)
            replace hEX := hEX.trans (if_pos (show r_132 = 0 from h_133))
            rw [h_133]
            refine lv_if_ne (tgt := 44) hx hb dX4_faultOf_37 rfl (fun c_138 => absurd c_138 (by decide +kernel)) (fun c_138 => ?_)
            refine lv_iconst (v := 1) hx hb dX4_faultOf_40 kc_iconst_1 ?_
            refine lv_goto (tgt := 45) hx hb dX4_faultOf_41 rfl ?_
            exact hU _ _ _ (J45 x_118 x_112 g_h0_f1 (RG_w h_125 (by decide +kernel)) g_h1_f2 g_h1_f3 g_j11_h0_f1 g_j11_h1_f2 g_j11_h1_f3 g_102 (RG_w h_124 (by decide +kernel)) h_114 hEX _ _ _ hP hD hS (lv_sub hl [0, 1, 2] rfl))
          · have h_137 : r_132 = _ := h_137
            replace hEX := hEX.trans (exc1_eq h_137)
            replace hEX := hEX.trans (if_neg (fun q9 : r_132 = 0 => absurd ((show r_132 = 1 from h_135).symm.trans q9) (by decide +kernel)))
            rw [h_135]
            refine lv_if_ne (tgt := 44) hx hb dX4_faultOf_37 rfl (fun c_139 => ?_) (fun c_139 => absurd c_139 (by decide +kernel))
            refine lv_iconst (v := 0) hx hb dX4_faultOf_44 kc_iconst_0 ?_
            as_aux_lemma =>
            exact hU _ _ _ (J45b x_118 x_112 g_h0_f1 h_125 g_h1_f2 g_h1_f3 g_j11_h0_f1 g_j11_h1_f2 g_j11_h1_f3 g_102 h_124 h_114 hEX _ _ _ hP hD hS (lv_sub hl [0, 1, 2] rfl))
  refine hG _ _ _ ?_
  refine lv_aload_n hx hb dX4_faultOf_0 rfl (lv_at hl 0 rfl) ?_
  refine lv_iconst (v := 0) hx hb dX4_faultOf_1 kc_iconst_0 ?_
  refine va_put (D := (dC, dI)) (ci := 4) (v := .int 0) (ty := .int) (C := RX4) (T := TX4) (N := 3) hx hb hts iw_c_X4_faultOf_X4 tyX4 tyX4_ok nmX4 hown hK hP hD hS 0 rfl rfl 1 (by decide +kernel) (hts (.fieldLink RX4 20 "BuoyVote$Law" "length" "I") (List.mem_of_getElem? (i := 1) rfl)) (fun _ h9 => h9) rfl (by decide +kernel) rfl rfl (Nat.le_of_ble_eq_true rfl) dX4_faultOf_2 (fun H locs hP hD hS => ?_)
  have hP : va_P (dC, dI) vwCl (wd_c_X4_faultOf h0 h0_0 0 h0_2 h1 h1_0 h1_f1 h1_f2 h1_f3 h1_0 h1_0k h1_0c h0_0 h0_0k h0_0c) H := hP
  have hD : va_D A (wd_c_X4_faultOf h0 h0_0 0 h0_2 h1 h1_0 h1_f1 h1_f2 h1_f3 h1_0 h1_0k h1_0c h0_0 h0_0k h0_0c) := hD
  refine lv_aload_n hx hb dX4_faultOf_5 rfl (lv_at hl 1 rfl) ?_
  obtain ⟨hPc, hDc, hFc, hqc⟩ := cl_cut (wc := (wd_c_X9_rewind h1 h1_0 h1_f1 h1_f2 h1_f3)) hP hD hS hA [1] (by decide +kernel) rfl
  have hKc := hK.sub (tys' := []) [] rfl
  have hrv := va_recv hKc hPc (ci := 9) (q0 := 0) rfl rfl
  refine va_callv (va_runV (As := []) (rest := []) ⟨hx, hb, hml, hown, hts⟩ (c_X9_rewind l dC dI H.size h1 h1_0 h1_f1 h1_f2 h1_f3 g_h1_f1 g_h1_f2 g_h1_f3) (cwV 0 hts gf_c_X4_faultOf_c_X9_rewind rfl rfl rfl mdV_X9_rewind ⟨Nat.le_of_ble_eq_true rfl, Nat.le_of_ble_eq_true rfl⟩) ⟨fun a U g mk q => by obtain ⟨q0, q1, qP, qK, qD⟩ := q; exact ⟨q0, q1, qP, va_K.moved (u := U) (U := U.calling g mk a) (Vm.Alike.refl U.vm) qK, qD⟩, hrv, fun U hU hW => ⟨rfl, by rw [hU], by rw [hU]; exact hPc, va_K.moved hW.alike hKc, hDc.weaken (fun _ _ _ _ => trivial)⟩⟩ rfl rfl hl.1 rfl (lv_room (Nat.le_of_ble_eq_true rfl)) dX4_faultOf_6 ⟨Nat.le_of_ble_eq_true rfl, Nat.le_of_ble_eq_true rfl⟩) hS (fun q _ h => hFc q h) hFc (fun u t H1 locs ht hvm hw hB hz1 hk1 hS => ?_)
  obtain ⟨hP1, hK1, hD1⟩ := hB
  rw [ht] at hP1
  obtain ⟨hP, hD⟩ := cl_put (w1 := (wd_c_X9_rewind h1 h1_0 h1_f1 0 (-1))) (nw := (wd_c_X4_faultOf h0 h0_0 0 h0_2 h1 h1_0 h1_f1 0 (-1) h1_0 h1_0k h1_0c h0_0 h0_0k h0_0c)) hP hD [1] [0, 4, 2, 3] 4 rfl hqc (by decide +kernel) rfl hk1 hFc hP1 hD1
  generalize H1 = H at hP hS ⊢
  as_aux_lemma =>
  have h_141 := hw
  refine lv_iconst (v := 0) hx hb dX4_faultOf_9 kc_iconst_0 ?_
  refine lv_istore_n (lv' := [(2, .int 0), (0, .ref h0), (1, .ref h1)]) hx hb dX4_faultOf_10 rfl hl (Nat.le_of_ble_eq_true rfl) rfl (fun ls hl => ?_)
  exact hU _ _ _ (J11 exF 0 0 0 (-1) h0_0c MU_F g_h0_f1 g_h1_f1 g_h1_f2 g_h1_f3 (RG_w (RG_k 0 0 rfl) (by decide +kernel)) (RG_w (RG_k 0 0 rfl) (by decide +kernel)) (RG_k (-1) (-1) rfl) (RG_w (RG_k 0 0 rfl) (by decide +kernel)) hEX _ _ _ hP hD hS (lv_sub hl [0, 1, 2] rfl))
noncomputable def wf_c_J0_isLatin1_aae02_5 : List Cond := .code yJ0_isLatin1_aae02 cJ0_isLatin1_aae02 1 (some .boolean) :: ([.fieldLink RJ0 38 "java/lang/String" "COMPACT_STRINGS" "Z", .fieldLink RJ0 15 "java/lang/String" "coder" "B"])
set_option maxHeartbeats 4000000 in
set_option maxRecDepth 100000 in
theorem c_J0_isLatin1_aae02_5 (l : Launch) (dC : Nat → ClassId) (dI : Nat → Nat → Nat) (sz : Nat) (ts5 : Nat) : Met l yJ0_isLatin1_aae02 wf_c_J0_isLatin1_aae02_5 ({ frames := 0, cells := 0, slots := 0, locals := 0 }) (va_Pc [.ref ts5] (fun U => U.heap.size = sz ∧ va_P (dC, dI) vwCl [] U.heap ∧ va_K (dC, dI) vwCl [] U ∧ va_D (fun _ => True) [] ∧ va_Z "java/lang/String" "COMPACT_STRINGS" "Z" (.int 1) (va_A [] sz) U U.heap ∧ va_OF "java/lang/String" "coder" "B" (.int 0) ts5 (va_A [] sz) U U.heap)) (va_Qi (fun (r : Int32) (u : Unit) => (r = 1 ∧ r = fx_c_J0_isLatin1_aae02_5)) (fun (u : Unit) t => va_P (dC, dI) vwCl [] t.heap ∧ va_K (dC, dI) vwCl [] t ∧ va_D (va_A [] sz) []) (va_A [] sz)) 0 0 (va_A [] sz) := by
  refine Met.ofW (cc := cJ0_isLatin1_aae02) (maxL := 1) (ret := (some .boolean)) (by decide +kernel) rfl ?_
  intro p e s m args below meth c s₁ B hml hv
  obtain ⟨rfl, hsz, hP, hK, hD0, hE_10, hE_39⟩ := hv
  have hx := B.exec
  have hb := B.bytes
  have hr := B.returns
  have hts := atoms_spec (ws := wf_c_J0_isLatin1_aae02_5) B.pre
  have hown : s.vm.findClass RJ0 = some m.cls := findClass_of_methodNamed B.named
  have hlocks := B.notSynchronized
  subst hsz
  have hD := hD0.self (sz := s.heap.size)
  generalize hAe : va_A [] s.heap.size = A at hD hE_10 hE_39 ⊢
  have hA : ∀ q : Nat, s.heap.size ≤ q → A q := fun q h => by rw [← hAe]; exact Or.inr h
  have hP : va_P (dC, dI) vwCl [] s.heap := hP
  have hl := lv_entry ([.ref ts5]) (n := 1) (Nat.le_of_ble_eq_true rfl)
  rw [lg_entry_eq]
  generalize (lg_sl ([.ref ts5]) ++ List.replicate (1 - (lg_sl ([.ref ts5])).length) Slot.unset).toArray = ls at hl ⊢
  have hl : lv_has ls 1 [(0, .ref ts5)] := hl
  obtain ⟨H, hHe⟩ : ∃ H : Heap, s.heap = H := ⟨_, rfl⟩
  have hS : va_S A s.heap H [] := by rw [hHe]; exact va_S.rf
  have hP : va_P (dC, dI) vwCl [] H := by rw [← hHe]; exact hP
  rw [hHe]
  obtain ⟨RES, hR⟩ : ∃ z, fx_c_J0_isLatin1_aae02_5 = z := ⟨_, rfl⟩
  have hEX : RES = fx_c_J0_isLatin1_aae02_5 := hR.symm
  refine va_gets hx hb hE_10 hS hown (hts (.fieldLink RJ0 38 "java/lang/String" "COMPACT_STRINGS" "Z") (List.mem_of_getElem? (i := 1) rfl)) (fun _ h9 => h9) dJ0_isLatin1_aae02_0 ?_
  as_aux_lemma =>
  refine lv_if_eq (tgt := 17) hx hb dJ0_isLatin1_aae02_3 rfl (fun c_1 => absurd c_1 (by decide +kernel)) (fun c_1 => ?_)
  refine lv_aload_n hx hb dJ0_isLatin1_aae02_6 rfl (lv_at hl 0 rfl) ?_
  refine vk_getf hx hb hE_39 hS hown (hts (.fieldLink RJ0 15 "java/lang/String" "coder" "B") (List.mem_of_getElem? (i := 2) rfl)) (fun _ h9 => h9) dJ0_isLatin1_aae02_7 ?_
  refine lv_if_ne (tgt := 17) hx hb dJ0_isLatin1_aae02_10 rfl (fun c_2 => absurd c_2 (by decide +kernel)) (fun c_2 => ?_)
  refine lv_iconst (v := 1) hx hb dJ0_isLatin1_aae02_13 kc_iconst_1 ?_
  refine lv_goto (tgt := 18) hx hb dJ0_isLatin1_aae02_14 rfl ?_
  have hK9 := hK.sub (tys' := []) [] rfl
  exact W.zret (v := 1) hx hb hr rfl (fun t ht hW => ⟨⟨1, (), rfl, ⟨rfl, (hR.trans hEX).symm⟩, by rw [ht]; exact hP, va_K.moved hW.alike hK9, hD⟩, hS.F ht⟩) hS.2.2 dJ0_isLatin1_aae02_18
noncomputable def wf_c_J0_coder_7d493_5 : List Cond := .code yJ0_coder_7d493 cJ0_coder_7d493 1 (some .byte) :: ([.fieldLink RJ0 38 "java/lang/String" "COMPACT_STRINGS" "Z", .fieldLink RJ0 15 "java/lang/String" "coder" "B"])
set_option maxHeartbeats 4000000 in
set_option maxRecDepth 100000 in
theorem c_J0_coder_7d493_5 (l : Launch) (dC : Nat → ClassId) (dI : Nat → Nat → Nat) (sz : Nat) (ts5 : Nat) : Met l yJ0_coder_7d493 wf_c_J0_coder_7d493_5 ({ frames := 0, cells := 0, slots := 0, locals := 0 }) (va_Pc [.ref ts5] (fun U => U.heap.size = sz ∧ va_P (dC, dI) vwCl [] U.heap ∧ va_K (dC, dI) vwCl [] U ∧ va_D (fun _ => True) [] ∧ va_Z "java/lang/String" "COMPACT_STRINGS" "Z" (.int 1) (va_A [] sz) U U.heap ∧ va_OF "java/lang/String" "coder" "B" (.int 0) ts5 (va_A [] sz) U U.heap)) (va_Qi (fun (r : Int32) (u : Unit) => (r = 0 ∧ r = fx_c_J0_coder_7d493_5)) (fun (u : Unit) t => va_P (dC, dI) vwCl [] t.heap ∧ va_K (dC, dI) vwCl [] t ∧ va_D (va_A [] sz) []) (va_A [] sz)) 0 0 (va_A [] sz) := by
  refine Met.ofW (cc := cJ0_coder_7d493) (maxL := 1) (ret := (some .byte)) (by decide +kernel) rfl ?_
  intro p e s m args below meth c s₁ B hml hv
  obtain ⟨rfl, hsz, hP, hK, hD0, hE_10, hE_39⟩ := hv
  have hx := B.exec
  have hb := B.bytes
  have hr := B.returns
  have hts := atoms_spec (ws := wf_c_J0_coder_7d493_5) B.pre
  have hown : s.vm.findClass RJ0 = some m.cls := findClass_of_methodNamed B.named
  have hlocks := B.notSynchronized
  subst hsz
  have hD := hD0.self (sz := s.heap.size)
  generalize hAe : va_A [] s.heap.size = A at hD hE_10 hE_39 ⊢
  have hA : ∀ q : Nat, s.heap.size ≤ q → A q := fun q h => by rw [← hAe]; exact Or.inr h
  have hP : va_P (dC, dI) vwCl [] s.heap := hP
  have hl := lv_entry ([.ref ts5]) (n := 1) (Nat.le_of_ble_eq_true rfl)
  rw [lg_entry_eq]
  generalize (lg_sl ([.ref ts5]) ++ List.replicate (1 - (lg_sl ([.ref ts5])).length) Slot.unset).toArray = ls at hl ⊢
  have hl : lv_has ls 1 [(0, .ref ts5)] := hl
  obtain ⟨H, hHe⟩ : ∃ H : Heap, s.heap = H := ⟨_, rfl⟩
  have hS : va_S A s.heap H [] := by rw [hHe]; exact va_S.rf
  have hP : va_P (dC, dI) vwCl [] H := by rw [← hHe]; exact hP
  rw [hHe]
  obtain ⟨RES, hR⟩ : ∃ z, fx_c_J0_coder_7d493_5 = z := ⟨_, rfl⟩
  have hEX : RES = fx_c_J0_coder_7d493_5 := hR.symm
  refine va_gets hx hb hE_10 hS hown (hts (.fieldLink RJ0 38 "java/lang/String" "COMPACT_STRINGS" "Z") (List.mem_of_getElem? (i := 1) rfl)) (fun _ h9 => h9) dJ0_coder_7d493_0 ?_
  as_aux_lemma =>
  refine lv_if_eq (tgt := 13) hx hb dJ0_coder_7d493_3 rfl (fun c_1 => absurd c_1 (by decide +kernel)) (fun c_1 => ?_)
  refine lv_aload_n hx hb dJ0_coder_7d493_6 rfl (lv_at hl 0 rfl) ?_
  refine vk_getf hx hb hE_39 hS hown (hts (.fieldLink RJ0 15 "java/lang/String" "coder" "B") (List.mem_of_getElem? (i := 2) rfl)) (fun _ h9 => h9) dJ0_coder_7d493_7 ?_
  refine lv_goto (tgt := 14) hx hb dJ0_coder_7d493_10 rfl ?_
  have hK9 := hK.sub (tys' := []) [] rfl
  exact W.zret (v := 0) hx hb hr rfl (fun t ht hW => ⟨⟨0, (), rfl, ⟨rfl, (hR.trans hEX).symm⟩, by rw [ht]; exact hP, va_K.moved hW.alike hK9, hD⟩, hS.F ht⟩) hS.2.2 dJ0_coder_7d493_14
noncomputable def wf_c_J0_length_8abf5_5 : List Cond := .code yJ0_length_8abf5 cJ0_length_8abf5 1 (some .int) :: ([.fieldLink RJ0 9 "java/lang/String" "value" "[B", .methodLink RJ0 335 yJ0_coder_7d493, .instanceMethod yJ0_coder_7d493, .selects RJ0 yJ0_coder_7d493 yJ0_coder_7d493, .initialized RJ0, .code yJ0_coder_7d493 cJ0_coder_7d493 1 (some .byte), .fieldLink RJ0 38 "java/lang/String" "COMPACT_STRINGS" "Z", .fieldLink RJ0 15 "java/lang/String" "coder" "B"])
set_option maxRecDepth 20000 in
theorem gf_c_J0_length_8abf5_5_c_J0_coder_7d493_5 : GoodIn wf_c_J0_length_8abf5_5 (wsV RJ0 335 RJ0 yJ0_coder_7d493 wf_c_J0_coder_7d493_5) := goodIn_app (gi_l [2, 3, 4, 5] rfl rfl) (gi_cons (j := 6) rfl rfl (gi_l [7, 8] rfl rfl))
set_option maxHeartbeats 4000000 in
set_option maxRecDepth 100000 in
theorem c_J0_length_8abf5_5 (l : Launch) (dC : Nat → ClassId) (dI : Nat → Nat → Nat) (sz : Nat) (ts5 : Nat) (tv5 : Nat) : Met l yJ0_length_8abf5 wf_c_J0_length_8abf5_5 ({ frames := 1, cells := 0, slots := 0, locals := 20 }) (va_Pc [.ref ts5] (fun U => U.heap.size = sz ∧ va_P (dC, dI) vwCl [] U.heap ∧ va_K (dC, dI) vwCl [] U ∧ va_D (fun _ => True) [] ∧ va_OF "java/lang/String" "value" "[B" (.ref tv5) ts5 (va_A [] sz) U U.heap ∧ va_T .byte tv5 4 (fun j => .int ([103, 115, 99, 104].getD j 0)) (va_A [] sz) U U.heap ∧ va_Z "java/lang/String" "COMPACT_STRINGS" "Z" (.int 1) (va_A [] sz) U U.heap ∧ va_OF "java/lang/String" "coder" "B" (.int 0) ts5 (va_A [] sz) U U.heap ∧ va_O "java/lang/String" ts5 (va_A [] sz) U U.heap)) (va_Qi (fun (r : Int32) (u : Unit) => (r = 4 ∧ r = fx_c_J0_length_8abf5_5)) (fun (u : Unit) t => va_P (dC, dI) vwCl [] t.heap ∧ va_K (dC, dI) vwCl [] t ∧ va_D (va_A [] sz) []) (va_A [] sz)) 0 0 (va_A [] sz) := by
  refine Met.ofW (cc := cJ0_length_8abf5) (maxL := 1) (ret := (some .int)) (by decide +kernel) rfl ?_
  intro p e s m args below meth c s₁ B hml hv
  obtain ⟨rfl, hsz, hP, hK, hD0, hE_40, hE_41, hE_10, hE_39, hE_38⟩ := hv
  have hx := B.exec
  have hb := B.bytes
  have hr := B.returns
  have hts := atoms_spec (ws := wf_c_J0_length_8abf5_5) B.pre
  have hown : s.vm.findClass RJ0 = some m.cls := findClass_of_methodNamed B.named
  have hlocks := B.notSynchronized
  subst hsz
  have hD := hD0.self (sz := s.heap.size)
  generalize hAe : va_A [] s.heap.size = A at hD hE_40 hE_41 hE_10 hE_39 hE_38 ⊢
  have hA : ∀ q : Nat, s.heap.size ≤ q → A q := fun q h => by rw [← hAe]; exact Or.inr h
  have hP : va_P (dC, dI) vwCl [] s.heap := hP
  have hl := lv_entry ([.ref ts5]) (n := 1) (Nat.le_of_ble_eq_true rfl)
  rw [lg_entry_eq]
  generalize (lg_sl ([.ref ts5]) ++ List.replicate (1 - (lg_sl ([.ref ts5])).length) Slot.unset).toArray = ls at hl ⊢
  have hl : lv_has ls 1 [(0, .ref ts5)] := hl
  obtain ⟨H, hHe⟩ : ∃ H : Heap, s.heap = H := ⟨_, rfl⟩
  have hS : va_S A s.heap H [] := by rw [hHe]; exact va_S.rf
  have hP : va_P (dC, dI) vwCl [] H := by rw [← hHe]; exact hP
  rw [hHe]
  obtain ⟨RES, hR⟩ : ∃ z, fx_c_J0_length_8abf5_5 = z := ⟨_, rfl⟩
  have hEX : RES = fx_c_J0_length_8abf5_5 := hR.symm
  refine lv_aload_n hx hb dJ0_length_8abf5_0 rfl (lv_at hl 0 rfl) ?_
  as_aux_lemma =>
  refine vk_getf hx hb hE_40 hS hown (hts (.fieldLink RJ0 9 "java/lang/String" "value" "[B") (List.mem_of_getElem? (i := 1) rfl)) (fun _ h9 => h9) dJ0_length_8abf5_1 ?_
  refine va_tlen (v := 4) hx hb hE_41 hS rfl dJ0_length_8abf5_4 ?_
  refine lv_aload_n hx hb dJ0_length_8abf5_5 rfl (lv_at hl 0 rfl) ?_
  obtain ⟨hPc, hDc, hFc, hqc⟩ := cl_cut (wc := []) hP hD hS hA [] (by decide +kernel) rfl
  have hKc := hK.sub (tys' := []) [] rfl
  have hrv := bv_Orecv hE_38 hS
  refine va_calli (va_runV (As := []) (rest := [.int 4]) ⟨hx, hb, hml, hown, hts⟩ (c_J0_coder_7d493_5 l dC dI H.size ts5) (cwV 0 hts gf_c_J0_length_8abf5_5_c_J0_coder_7d493_5 rfl rfl rfl mdV_J0_coder_7d493 ⟨Nat.le_of_ble_eq_true rfl, Nat.le_of_ble_eq_true rfl⟩) ⟨fun a U g mk q => by obtain ⟨q0, q1, qP, qK, qD, qE0, qE1⟩ := q; exact ⟨q0, q1, qP, va_K.moved (u := U) (U := U.calling g mk a) (Vm.Alike.refl U.vm) qK, qD, va_Z.moved (u := U) (U := U.calling g mk a) (Vm.Alike.refl U.vm) qE0, va_OF.moved (u := U) (U := U.calling g mk a) (Vm.Alike.refl U.vm) qE1⟩, hrv, fun U hU hW => ⟨rfl, by rw [hU], by rw [hU]; exact hPc, va_K.moved hW.alike hKc, hDc.weaken (fun _ _ _ _ => trivial), va_Z.moved hW.alike (by rw [hU]; exact (hE_10.kept hS.2.1).narrow hFc), va_OF.moved hW.alike (by rw [hU]; exact (hE_39.kept hS.2.1).narrow hFc)⟩⟩ rfl rfl hl.1 rfl (lv_room (Nat.le_of_ble_eq_true rfl)) dJ0_length_8abf5_6 ⟨Nat.le_of_ble_eq_true rfl, Nat.le_of_ble_eq_true rfl⟩) hS (fun q _ h => hFc q h) hFc (fun r_1 u t H1 locs ht hvm hw hB hz1 hk1 hS => ?_)
  obtain ⟨hP1, hK1, hD1⟩ := hB
  rw [ht] at hP1
  have hP := bv_still hP hk1
  generalize H1 = H at hP hS ⊢
  as_aux_lemma =>
  rcases hw with ⟨h_2, h_3⟩
  have h_3 : r_1 = _ := h_3
  replace hEX := hEX.trans (exc1_eq h_3)
  rw [h_2]
  refine lv_ishr hx hb dJ0_length_8abf5_9 ?_
  refine lv_topi (fun x_4 ex_4 => ?_)
  obtain rfl : x_4 = 4 := ex_4.trans (by decide +kernel)
  have hK9 := hK.sub (tys' := []) [] rfl
  exact W.iret (v := 4) hx hb hr (fun t ht hW => ⟨⟨4, (), rfl, ⟨rfl, (hR.trans hEX).symm⟩, by rw [ht]; exact hP, va_K.moved hW.alike hK9, hD⟩, hS.F ht⟩) hS.2.2 dJ0_length_8abf5_10
noncomputable def wf_c_J1_indexOfChar_4cfef_5 : List Cond := .code yJ1_indexOfChar_4cfef cJ1_indexOfChar_4cfef 6 (some .int) :: ([])
set_option maxHeartbeats 4000000 in
set_option maxRecDepth 100000 in
theorem c_J1_indexOfChar_4cfef_5 (l : Launch) (dC : Nat → ClassId) (dI : Nat → Nat → Nat) (sz : Nat) (tv5 : Nat) (p1 : Int32) (p2 : Int32) (p3 : Int32) (g_p1 : RG p1 0 255) (g_p2 : RG p2 0 0) (g_p3 : RG p3 4 4) : Met l yJ1_indexOfChar_4cfef wf_c_J1_indexOfChar_4cfef_5 ({ frames := 0, cells := 0, slots := 0, locals := 0 }) (va_Pc [.ref tv5, .int p1, .int p2, .int p3] (fun U => U.heap.size = sz ∧ va_P (dC, dI) vwCl [] U.heap ∧ va_K (dC, dI) vwCl [] U ∧ va_D (fun _ => True) [] ∧ va_T .byte tv5 4 (fun j => .int ([103, 115, 99, 104].getD j 0)) (va_A [] sz) U U.heap)) (va_Qi (fun (r : Int32) (u : Unit) => (r = (-1) ∧ r = fx_c_J1_indexOfChar_4cfef_5 p1 p2 p3) ∨ (RG r 0 3 ∧ r = fx_c_J1_indexOfChar_4cfef_5 p1 p2 p3)) (fun (u : Unit) t => va_P (dC, dI) vwCl [] t.heap ∧ va_K (dC, dI) vwCl [] t ∧ va_D (va_A [] sz) []) (va_A [] sz)) 0 0 (va_A [] sz) := by
  refine Met.ofW (cc := cJ1_indexOfChar_4cfef) (maxL := 6) (ret := (some .int)) (by decide +kernel) rfl ?_
  intro p e s m args below meth c s₁ B hml hv
  obtain ⟨rfl, hsz, hP, hK, hD0, hE_41⟩ := hv
  have hx := B.exec
  have hb := B.bytes
  have hr := B.returns
  have hts := atoms_spec (ws := wf_c_J1_indexOfChar_4cfef_5) B.pre
  have hown : s.vm.findClass RJ1 = some m.cls := findClass_of_methodNamed B.named
  have hlocks := B.notSynchronized
  subst hsz
  have hD := hD0.self (sz := s.heap.size)
  generalize hAe : va_A [] s.heap.size = A at hD hE_41 ⊢
  have hA : ∀ q : Nat, s.heap.size ≤ q → A q := fun q h => by rw [← hAe]; exact Or.inr h
  have hP : va_P (dC, dI) vwCl [] s.heap := hP
  have hl := lv_entry ([.ref tv5, .int p1, .int p2, .int p3]) (n := 6) (Nat.le_of_ble_eq_true rfl)
  rw [lg_entry_eq]
  generalize (lg_sl ([.ref tv5, .int p1, .int p2, .int p3]) ++ List.replicate (6 - (lg_sl ([.ref tv5, .int p1, .int p2, .int p3])).length) Slot.unset).toArray = ls at hl ⊢
  have hl : lv_has ls 6 [(0, .ref tv5), (1, .int p1), (2, .int p2), (3, .int p3)] := hl
  obtain ⟨H, hHe⟩ : ∃ H : Heap, s.heap = H := ⟨_, rfl⟩
  have hS : va_S A s.heap H [] := by rw [hHe]; exact va_S.rf
  have hP : va_P (dC, dI) vwCl [] H := by rw [← hHe]; exact hP
  rw [hHe]
  obtain ⟨RES, hR⟩ : ∃ z, fx_c_J1_indexOfChar_4cfef_5 p1 p2 p3 = z := ⟨_, rfl⟩
  have hEX : RES = fx_c_J1_indexOfChar_4cfef_5 p1 p2 p3 := hR.symm
  refine lv_iload_n hx hb dJ1_indexOfChar_4cfef_0 rfl (lv_at hl 1 rfl) ?_
  as_aux_lemma =>
  refine lv_i2b hx hb dJ1_indexOfChar_4cfef_1 rfl ?_
  refine lv_topi (fun x_1 ex_1 => ?_)
  replace hEX := hEX.trans (exl_eq ex_1)
  refine lv_istore (lv' := [(4, .int x_1), (0, .ref tv5), (1, .int p1), (2, .int p2), (3, .int p3)]) hx hb dJ1_indexOfChar_4cfef_2 hl (Nat.le_of_ble_eq_true rfl) rfl (fun ls hl => ?_)
  refine lv_iload_n hx hb dJ1_indexOfChar_4cfef_4 rfl (lv_at hl 3 rfl) ?_
  refine lv_istore (lv' := [(5, .int p2), (4, .int x_1), (0, .ref tv5), (1, .int p1), (2, .int p2), (3, .int p3)]) hx hb dJ1_indexOfChar_4cfef_5 hl (Nat.le_of_ble_eq_true rfl) rfl (fun ls hl => ?_)
  refine lv_iload hx hb dJ1_indexOfChar_4cfef_7 (lv_at hl 0 rfl) ?_
  refine lv_iload_n hx hb dJ1_indexOfChar_4cfef_9 rfl (lv_at hl 5 rfl) ?_
  refine lv_icmp_ge (tgt := 31) hx hb dJ1_indexOfChar_4cfef_10 rfl (fun c_2 => ?_) (fun c_2 => ?_)
  · replace hEX := hEX.trans (if_pos c_2)
    have g_3 : RG p3 4 0 := RG_le1 g_p3 g_p2 c_2 (by decide +kernel)
    exact RG_dead (RG_le1 g_p3 g_p2 c_2 (b' := 0) (by decide +kernel)) (by decide +kernel)
  · replace hEX := hEX.trans (if_neg c_2)
    have d_4 := Int32.not_le.mp c_2
    refine lv_aload_n hx hb dJ1_indexOfChar_4cfef_13 rfl (lv_at hl 2 rfl) ?_
    as_aux_lemma =>
    refine lv_iload hx hb dJ1_indexOfChar_4cfef_14 (lv_at hl 0 rfl) ?_
    refine va_tb hx hb hE_41 hS (RG_in g_p2 (by decide +kernel)) rfl dJ1_indexOfChar_4cfef_16 ?_
    refine lv_topi (fun x_5 ex_5 => ?_)
    replace hEX := hEX.trans (exl_eq ex_5)
    have g_6 : RG x_5 0 115 := RG_tab ex_5 (by decide +kernel)
    refine lv_iload hx hb dJ1_indexOfChar_4cfef_17 (lv_at hl 1 rfl) ?_
    refine lv_icmp_ne (tgt := 25) hx hb dJ1_indexOfChar_4cfef_19 rfl (fun c_7 => ?_) (fun c_7 => ?_)
    · replace hEX := hEX.trans (if_neg c_7)
      obtain ⟨x_8, ex_8⟩ : ∃ y : Int32, y = p2 + 1 := ⟨_, rfl⟩
      have g_9 : RG x_8 1 1 := RG_add ex_8 g_p2 (RG_k 1 1 rfl) (by decide +kernel)
      replace hEX := hEX.trans (exl_eq ex_8)
      refine lv_iinc (v := x_8) (lv' := [(5, .int x_8), (4, .int x_1), (0, .ref tv5), (1, .int p1), (2, .int p2), (3, .int p3)]) hx hb dJ1_indexOfChar_4cfef_25 hl (k := 0) rfl (by rw [ex_8]; rfl) (Nat.le_of_ble_eq_true rfl) rfl (fun ls hl => ?_)
      refine lv_goto (tgt := 7) hx hb dJ1_indexOfChar_4cfef_28 rfl ?_
      refine lv_iload hx hb dJ1_indexOfChar_4cfef_7 (lv_at hl 0 rfl) ?_
      as_aux_lemma =>
      refine lv_iload_n hx hb dJ1_indexOfChar_4cfef_9 rfl (lv_at hl 5 rfl) ?_
      refine lv_icmp_ge (tgt := 31) hx hb dJ1_indexOfChar_4cfef_10 rfl (fun c_10 => ?_) (fun c_10 => ?_)
      · replace hEX := hEX.trans (if_pos c_10)
        have g_11 : RG p3 4 1 := RG_le1 g_p3 g_9 c_10 (by decide +kernel)
        exact RG_dead (RG_le1 g_p3 g_9 c_10 (b' := 1) (by decide +kernel)) (by decide +kernel)
      · replace hEX := hEX.trans (if_neg c_10)
        have d_12 := Int32.not_le.mp c_10
        refine lv_aload_n hx hb dJ1_indexOfChar_4cfef_13 rfl (lv_at hl 2 rfl) ?_
        refine lv_iload hx hb dJ1_indexOfChar_4cfef_14 (lv_at hl 0 rfl) ?_
        refine va_tb hx hb hE_41 hS (RG_in g_9 (by decide +kernel)) rfl dJ1_indexOfChar_4cfef_16 ?_
        refine lv_topi (fun x_13 ex_13 => ?_)
        replace hEX := hEX.trans (exl_eq ex_13)
        have g_14 : RG x_13 0 115 := RG_tab ex_13 (by decide +kernel)
        refine lv_iload hx hb dJ1_indexOfChar_4cfef_17 (lv_at hl 1 rfl) ?_
        as_aux_lemma =>
        refine lv_icmp_ne (tgt := 25) hx hb dJ1_indexOfChar_4cfef_19 rfl (fun c_15 => ?_) (fun c_15 => ?_)
        · replace hEX := hEX.trans (if_neg c_15)
          obtain ⟨x_16, ex_16⟩ : ∃ y : Int32, y = x_8 + 1 := ⟨_, rfl⟩
          have g_17 : RG x_16 2 2 := RG_add ex_16 g_9 (RG_k 1 1 rfl) (by decide +kernel)
          replace hEX := hEX.trans (exl_eq ex_16)
          refine lv_iinc (v := x_16) (lv' := [(5, .int x_16), (4, .int x_1), (0, .ref tv5), (1, .int p1), (2, .int p2), (3, .int p3)]) hx hb dJ1_indexOfChar_4cfef_25 hl (k := 0) rfl (by rw [ex_16]; rfl) (Nat.le_of_ble_eq_true rfl) rfl (fun ls hl => ?_)
          refine lv_goto (tgt := 7) hx hb dJ1_indexOfChar_4cfef_28 rfl ?_
          refine lv_iload hx hb dJ1_indexOfChar_4cfef_7 (lv_at hl 0 rfl) ?_
          refine lv_iload_n hx hb dJ1_indexOfChar_4cfef_9 rfl (lv_at hl 5 rfl) ?_
          refine lv_icmp_ge (tgt := 31) hx hb dJ1_indexOfChar_4cfef_10 rfl (fun c_18 => ?_) (fun c_18 => ?_)
          · replace hEX := hEX.trans (if_pos c_18)
            have g_19 : RG p3 4 2 := RG_le1 g_p3 g_17 c_18 (by decide +kernel)
            exact RG_dead (RG_le1 g_p3 g_17 c_18 (b' := 2) (by decide +kernel)) (by decide +kernel)
          · replace hEX := hEX.trans (if_neg c_18)
            have d_20 := Int32.not_le.mp c_18
            refine lv_aload_n hx hb dJ1_indexOfChar_4cfef_13 rfl (lv_at hl 2 rfl) ?_
            as_aux_lemma =>
            refine lv_iload hx hb dJ1_indexOfChar_4cfef_14 (lv_at hl 0 rfl) ?_
            refine va_tb hx hb hE_41 hS (RG_in g_17 (by decide +kernel)) rfl dJ1_indexOfChar_4cfef_16 ?_
            refine lv_topi (fun x_21 ex_21 => ?_)
            replace hEX := hEX.trans (exl_eq ex_21)
            have g_22 : RG x_21 0 115 := RG_tab ex_21 (by decide +kernel)
            refine lv_iload hx hb dJ1_indexOfChar_4cfef_17 (lv_at hl 1 rfl) ?_
            refine lv_icmp_ne (tgt := 25) hx hb dJ1_indexOfChar_4cfef_19 rfl (fun c_23 => ?_) (fun c_23 => ?_)
            · replace hEX := hEX.trans (if_neg c_23)
              obtain ⟨x_24, ex_24⟩ : ∃ y : Int32, y = x_16 + 1 := ⟨_, rfl⟩
              have g_25 : RG x_24 3 3 := RG_add ex_24 g_17 (RG_k 1 1 rfl) (by decide +kernel)
              replace hEX := hEX.trans (exl_eq ex_24)
              refine lv_iinc (v := x_24) (lv' := [(5, .int x_24), (4, .int x_1), (0, .ref tv5), (1, .int p1), (2, .int p2), (3, .int p3)]) hx hb dJ1_indexOfChar_4cfef_25 hl (k := 0) rfl (by rw [ex_24]; rfl) (Nat.le_of_ble_eq_true rfl) rfl (fun ls hl => ?_)
              refine lv_goto (tgt := 7) hx hb dJ1_indexOfChar_4cfef_28 rfl ?_
              refine lv_iload hx hb dJ1_indexOfChar_4cfef_7 (lv_at hl 0 rfl) ?_
              as_aux_lemma =>
              refine lv_iload_n hx hb dJ1_indexOfChar_4cfef_9 rfl (lv_at hl 5 rfl) ?_
              refine lv_icmp_ge (tgt := 31) hx hb dJ1_indexOfChar_4cfef_10 rfl (fun c_26 => ?_) (fun c_26 => ?_)
              · replace hEX := hEX.trans (if_pos c_26)
                have g_27 : RG p3 4 3 := RG_le1 g_p3 g_25 c_26 (by decide +kernel)
                exact RG_dead (RG_le1 g_p3 g_25 c_26 (b' := 3) (by decide +kernel)) (by decide +kernel)
              · replace hEX := hEX.trans (if_neg c_26)
                have d_28 := Int32.not_le.mp c_26
                refine lv_aload_n hx hb dJ1_indexOfChar_4cfef_13 rfl (lv_at hl 2 rfl) ?_
                refine lv_iload hx hb dJ1_indexOfChar_4cfef_14 (lv_at hl 0 rfl) ?_
                refine va_tb hx hb hE_41 hS (RG_in g_25 (by decide +kernel)) rfl dJ1_indexOfChar_4cfef_16 ?_
                refine lv_topi (fun x_29 ex_29 => ?_)
                replace hEX := hEX.trans (exl_eq ex_29)
                have g_30 : RG x_29 0 115 := RG_tab ex_29 (by decide +kernel)
                refine lv_iload hx hb dJ1_indexOfChar_4cfef_17 (lv_at hl 1 rfl) ?_
                as_aux_lemma =>
                refine lv_icmp_ne (tgt := 25) hx hb dJ1_indexOfChar_4cfef_19 rfl (fun c_31 => ?_) (fun c_31 => ?_)
                · replace hEX := hEX.trans (if_neg c_31)
                  obtain ⟨x_32, ex_32⟩ : ∃ y : Int32, y = x_24 + 1 := ⟨_, rfl⟩
                  have g_33 : RG x_32 4 4 := RG_add ex_32 g_25 (RG_k 1 1 rfl) (by decide +kernel)
                  replace hEX := hEX.trans (exl_eq ex_32)
                  refine lv_iinc (v := x_32) (lv' := [(5, .int x_32), (4, .int x_1), (0, .ref tv5), (1, .int p1), (2, .int p2), (3, .int p3)]) hx hb dJ1_indexOfChar_4cfef_25 hl (k := 0) rfl (by rw [ex_32]; rfl) (Nat.le_of_ble_eq_true rfl) rfl (fun ls hl => ?_)
                  refine lv_goto (tgt := 7) hx hb dJ1_indexOfChar_4cfef_28 rfl ?_
                  refine lv_iload hx hb dJ1_indexOfChar_4cfef_7 (lv_at hl 0 rfl) ?_
                  refine lv_iload_n hx hb dJ1_indexOfChar_4cfef_9 rfl (lv_at hl 5 rfl) ?_
                  refine lv_icmp_ge (tgt := 31) hx hb dJ1_indexOfChar_4cfef_10 rfl (fun c_34 => ?_) (fun c_34 => ?_)
                  · replace hEX := hEX.trans (if_pos c_34)
                    refine lv_iconst (v := (-1)) hx hb dJ1_indexOfChar_4cfef_31 kc_iconst_m1 ?_
                    have hK9 := hK.sub (tys' := []) [] rfl
                    exact W.iret (v := (-1)) hx hb hr (fun t ht hW => ⟨⟨(-1), (), rfl, (Or.inl ⟨rfl, (hR.trans hEX).symm⟩), by rw [ht]; exact hP, va_K.moved hW.alike hK9, hD⟩, hS.F ht⟩) hS.2.2 dJ1_indexOfChar_4cfef_32
                  · replace hEX := hEX.trans (if_neg c_34)
                    have d_35 := Int32.not_le.mp c_34
                    have g_36 : RG x_32 4 3 := RG_lt1 g_33 g_p3 d_35 (by decide +kernel)
                    exact RG_dead (RG_lt1 g_33 g_p3 d_35 (b' := 3) (by decide +kernel)) (by decide +kernel)
                · replace hEX := hEX.trans (if_pos c_31)
                  have g_37 : RG x_1 0 115 := RG_eq1 (RG_any x_1) g_30 c_31.symm (by decide +kernel)
                  refine lv_iload hx hb dJ1_indexOfChar_4cfef_22 (lv_at hl 0 rfl) ?_
                  as_aux_lemma =>
                  have hK9 := hK.sub (tys' := []) [] rfl
                  exact W.iret (v := x_24) hx hb hr (fun t ht hW => ⟨⟨x_24, (), rfl, (Or.inr ⟨(RG_w g_25 (by decide +kernel)), (hR.trans hEX).symm⟩), by rw [ht]; exact hP, va_K.moved hW.alike hK9, hD⟩, hS.F ht⟩) hS.2.2 dJ1_indexOfChar_4cfef_24
            · replace hEX := hEX.trans (if_pos c_23)
              have g_38 : RG x_1 0 115 := RG_eq1 (RG_any x_1) g_22 c_23.symm (by decide +kernel)
              refine lv_iload hx hb dJ1_indexOfChar_4cfef_22 (lv_at hl 0 rfl) ?_
              have hK9 := hK.sub (tys' := []) [] rfl
              exact W.iret (v := x_16) hx hb hr (fun t ht hW => ⟨⟨x_16, (), rfl, (Or.inr ⟨(RG_w g_17 (by decide +kernel)), (hR.trans hEX).symm⟩), by rw [ht]; exact hP, va_K.moved hW.alike hK9, hD⟩, hS.F ht⟩) hS.2.2 dJ1_indexOfChar_4cfef_24
        · replace hEX := hEX.trans (if_pos c_15)
          have g_39 : RG x_1 0 115 := RG_eq1 (RG_any x_1) g_14 c_15.symm (by decide +kernel)
          refine lv_iload hx hb dJ1_indexOfChar_4cfef_22 (lv_at hl 0 rfl) ?_
          have hK9 := hK.sub (tys' := []) [] rfl
          exact W.iret (v := x_8) hx hb hr (fun t ht hW => ⟨⟨x_8, (), rfl, (Or.inr ⟨(RG_w g_9 (by decide +kernel)), (hR.trans hEX).symm⟩), by rw [ht]; exact hP, va_K.moved hW.alike hK9, hD⟩, hS.F ht⟩) hS.2.2 dJ1_indexOfChar_4cfef_24
    · replace hEX := hEX.trans (if_pos c_7)
      have g_40 : RG x_1 0 115 := RG_eq1 (RG_any x_1) g_6 c_7.symm (by decide +kernel)
      refine lv_iload hx hb dJ1_indexOfChar_4cfef_22 (lv_at hl 0 rfl) ?_
      as_aux_lemma =>
      have hK9 := hK.sub (tys' := []) [] rfl
      exact W.iret (v := p2) hx hb hr (fun t ht hW => ⟨⟨p2, (), rfl, (Or.inr ⟨(RG_w g_p2 (by decide +kernel)), (hR.trans hEX).symm⟩), by rw [ht]; exact hP, va_K.moved hW.alike hK9, hD⟩, hS.F ht⟩) hS.2.2 dJ1_indexOfChar_4cfef_24
noncomputable def wf_c_J1_indexOf_4cfef_5 : List Cond := .code yJ1_indexOf_4cfef cJ1_indexOf_4cfef 4 (some .int) :: ([.methodLink RJ1 88 yJ1_canEncode_9a6ad, .static yJ1_canEncode_9a6ad, .initialized RJ1, .code yJ1_canEncode_9a6ad cJ1_canEncode_9a6ad 1 (some .boolean), .methodLink RJ1 92 Lib.Math.max.name, .static Lib.Math.max.name, .initialized "java/lang/Math", .code Lib.Math.max.name Lib.Math.max.code 2 (some .int), .methodLink RJ1 38 Lib.Math.min.name, .static Lib.Math.min.name, .code Lib.Math.min.name Lib.Math.min.code 2 (some .int), .methodLink RJ1 95 yJ1_indexOfChar_4cfef, .static yJ1_indexOfChar_4cfef, .code yJ1_indexOfChar_4cfef cJ1_indexOfChar_4cfef 6 (some .int)])
set_option maxRecDepth 20000 in
theorem gf_c_J1_indexOf_4cfef_5_c_J1_canEncode_9a6ad : GoodIn wf_c_J1_indexOf_4cfef_5 (va_wsS RJ1 88 yJ1_canEncode_9a6ad wf_c_J1_canEncode_9a6ad) := goodIn_app (gi_l [1, 2, 3] rfl rfl) (gi_cons (j := 4) rfl rfl gi_nil)
set_option maxRecDepth 20000 in
theorem gf_c_J1_indexOf_4cfef_5_c_J1_indexOfChar_4cfef_5 : GoodIn wf_c_J1_indexOf_4cfef_5 (va_wsS RJ1 95 yJ1_indexOfChar_4cfef wf_c_J1_indexOfChar_4cfef_5) := goodIn_app (gi_l [12, 13, 3] rfl rfl) (gi_cons (j := 14) rfl rfl gi_nil)
set_option maxHeartbeats 4000000 in
set_option maxRecDepth 100000 in
theorem c_J1_indexOf_4cfef_5 (l : Launch) (dC : Nat → ClassId) (dI : Nat → Nat → Nat) (sz : Nat) (tv5 : Nat) (p1 : Int32) (g_p1 : RG p1 0 65535) : Met l yJ1_indexOf_4cfef wf_c_J1_indexOf_4cfef_5 ({ frames := 1, cells := 0, slots := 0, locals := 25 }) (va_Pc [.ref tv5, .int p1, .int 0, .int 4] (fun U => U.heap.size = sz ∧ va_P (dC, dI) vwCl [] U.heap ∧ va_K (dC, dI) vwCl [] U ∧ va_D (fun _ => True) [] ∧ va_T .byte tv5 4 (fun j => .int ([103, 115, 99, 104].getD j 0)) (va_A [] sz) U U.heap)) (va_Qi (fun (r : Int32) (u : Unit) => (r = (-1) ∧ r = fx_c_J1_indexOf_4cfef_5 p1) ∨ (RG r 0 3 ∧ RG p1 0 255 ∧ r = fx_c_J1_indexOf_4cfef_5 p1)) (fun (u : Unit) t => va_P (dC, dI) vwCl [] t.heap ∧ va_K (dC, dI) vwCl [] t ∧ va_D (va_A [] sz) []) (va_A [] sz)) 0 0 (va_A [] sz) := by
  refine Met.ofW (cc := cJ1_indexOf_4cfef) (maxL := 4) (ret := (some .int)) (by decide +kernel) rfl ?_
  intro p e s m args below meth c s₁ B hml hv
  obtain ⟨rfl, hsz, hP, hK, hD0, hE_41⟩ := hv
  have hx := B.exec
  have hb := B.bytes
  have hr := B.returns
  have hts := atoms_spec (ws := wf_c_J1_indexOf_4cfef_5) B.pre
  have hown : s.vm.findClass RJ1 = some m.cls := findClass_of_methodNamed B.named
  have hlocks := B.notSynchronized
  subst hsz
  have hD := hD0.self (sz := s.heap.size)
  generalize hAe : va_A [] s.heap.size = A at hD hE_41 ⊢
  have hA : ∀ q : Nat, s.heap.size ≤ q → A q := fun q h => by rw [← hAe]; exact Or.inr h
  have hP : va_P (dC, dI) vwCl [] s.heap := hP
  have hl := lv_entry ([.ref tv5, .int p1, .int 0, .int 4]) (n := 4) (Nat.le_of_ble_eq_true rfl)
  rw [lg_entry_eq]
  generalize (lg_sl ([.ref tv5, .int p1, .int 0, .int 4]) ++ List.replicate (4 - (lg_sl ([.ref tv5, .int p1, .int 0, .int 4])).length) Slot.unset).toArray = ls at hl ⊢
  have hl : lv_has ls 4 [(0, .ref tv5), (1, .int p1), (2, .int 0), (3, .int 4)] := hl
  obtain ⟨H, hHe⟩ : ∃ H : Heap, s.heap = H := ⟨_, rfl⟩
  have hS : va_S A s.heap H [] := by rw [hHe]; exact va_S.rf
  have hP : va_P (dC, dI) vwCl [] H := by rw [← hHe]; exact hP
  rw [hHe]
  obtain ⟨RES, hR⟩ : ∃ z, fx_c_J1_indexOf_4cfef_5 p1 = z := ⟨_, rfl⟩
  have hEX : RES = fx_c_J1_indexOf_4cfef_5 p1 := hR.symm
  refine lv_iload_n hx hb dJ1_indexOf_4cfef_0 rfl (lv_at hl 1 rfl) ?_
  as_aux_lemma =>
  obtain ⟨hPc, hDc, hFc, hqc⟩ := cl_cut (wc := []) hP hD hS hA [] (by decide +kernel) rfl
  have hKc := hK.sub (tys' := []) [] rfl
  refine va_calli (va_runS (As := [.int p1]) (rest := []) ⟨hx, hb, hml, hown, hts⟩ (c_J1_canEncode_9a6ad l dC dI H.size p1 g_p1) (va_cwS 1 hts gf_c_J1_indexOf_4cfef_5_c_J1_canEncode_9a6ad rfl rfl rfl md_J1_canEncode_9a6ad ⟨Nat.le_of_ble_eq_true rfl, Nat.le_of_ble_eq_true rfl⟩) ⟨fun a U g mk q => by obtain ⟨q0, q1, qP, qK, qD⟩ := q; exact ⟨q0, q1, qP, va_K.moved (u := U) (U := U.calling g mk a) (Vm.Alike.refl U.vm) qK, qD⟩, fun U hU hW => ⟨rfl, by rw [hU], by rw [hU]; exact hPc, va_K.moved hW.alike hKc, hDc.weaken (fun _ _ _ _ => trivial)⟩⟩ rfl rfl hl.1 rfl (lv_room (Nat.le_of_ble_eq_true rfl)) dJ1_indexOf_4cfef_1 ⟨Nat.le_of_ble_eq_true rfl, Nat.le_of_ble_eq_true rfl⟩) hS (fun q _ h => hFc q h) hFc (fun r_1 u t H1 locs ht hvm hw hB hz1 hk1 hS => ?_)
  obtain ⟨hP1, hK1, hD1⟩ := hB
  rw [ht] at hP1
  have hP := bv_still hP hk1
  generalize H1 = H at hP hS ⊢
  as_aux_lemma =>
  rcases hw with ⟨h_2, h_3, h_4⟩ | ⟨h_5, h_6, h_7⟩
  · have h_4 : r_1 = _ := h_4
    replace hEX := hEX.trans (exc1_eq h_4)
    replace hEX := hEX.trans (if_pos (show r_1 = 0 from h_2))
    rw [h_2]
    refine lv_if_ne (tgt := 9) hx hb dJ1_indexOf_4cfef_4 rfl (fun c_8 => absurd c_8 (by decide +kernel)) (fun c_8 => ?_)
    refine lv_iconst (v := (-1)) hx hb dJ1_indexOf_4cfef_7 kc_iconst_m1 ?_
    have hK9 := hK.sub (tys' := []) [] rfl
    exact W.iret (v := (-1)) hx hb hr (fun t ht hW => ⟨⟨(-1), (), rfl, (Or.inl ⟨rfl, (hR.trans hEX).symm⟩), by rw [ht]; exact hP, va_K.moved hW.alike hK9, hD⟩, hS.F ht⟩) hS.2.2 dJ1_indexOf_4cfef_8
  · have h_7 : r_1 = _ := h_7
    replace hEX := hEX.trans (exc1_eq h_7)
    replace hEX := hEX.trans (if_neg (fun q9 : r_1 = 0 => absurd ((show r_1 = 1 from h_5).symm.trans q9) (by decide +kernel)))
    rw [h_5]
    refine lv_if_ne (tgt := 9) hx hb dJ1_indexOf_4cfef_4 rfl (fun c_9 => ?_) (fun c_9 => absurd c_9 (by decide +kernel))
    refine lv_iload_n hx hb dJ1_indexOf_4cfef_9 rfl (lv_at hl 2 rfl) ?_
    as_aux_lemma =>
    refine lv_iconst (v := 0) hx hb dJ1_indexOf_4cfef_10 kc_iconst_0 ?_
    refine va_mmax hx hb (by rw [hml]; exact hl.1.symm) hown (hts (.methodLink RJ1 92 Lib.Math.max.name) (List.mem_of_getElem? (i := 5) rfl)) (hts (.static Lib.Math.max.name) (List.mem_of_getElem? (i := 6) rfl)) (hts (.initialized "java/lang/Math") (List.mem_of_getElem? (i := 7) rfl)) (hts (.code Lib.Math.max.name Lib.Math.max.code 2 (some .int)) (List.mem_of_getElem? (i := 8) rfl)) (Nat.le_of_ble_eq_true rfl) (Nat.le_of_ble_eq_true rfl) (Nat.le_of_ble_eq_true rfl) (Nat.le_of_ble_eq_true rfl) dJ1_indexOf_4cfef_11 ?_
    refine lv_topi (fun x_10 ex_10 => ?_)
    replace hEX := hEX.trans (exl_eq ex_10)
    have g_11 : RG x_10 0 0 := RG_max ex_10 (RG_k 0 0 rfl) (RG_k 0 0 rfl) (by decide +kernel)
    refine lv_istore_n (lv' := [(2, .int x_10), (0, .ref tv5), (1, .int p1), (3, .int 4)]) hx hb dJ1_indexOf_4cfef_14 rfl hl (Nat.le_of_ble_eq_true rfl) rfl (fun ls hl => ?_)
    refine lv_iload_n hx hb dJ1_indexOf_4cfef_15 rfl (lv_at hl 3 rfl) ?_
    refine lv_aload_n hx hb dJ1_indexOf_4cfef_16 rfl (lv_at hl 1 rfl) ?_
    refine va_tlen (v := 4) hx hb hE_41 hS rfl dJ1_indexOf_4cfef_17 ?_
    refine va_mmin hx hb (by rw [hml]; exact hl.1.symm) hown (hts (.methodLink RJ1 38 Lib.Math.min.name) (List.mem_of_getElem? (i := 9) rfl)) (hts (.static Lib.Math.min.name) (List.mem_of_getElem? (i := 10) rfl)) (hts (.initialized "java/lang/Math") (List.mem_of_getElem? (i := 7) rfl)) (hts (.code Lib.Math.min.name Lib.Math.min.code 2 (some .int)) (List.mem_of_getElem? (i := 11) rfl)) (Nat.le_of_ble_eq_true rfl) (Nat.le_of_ble_eq_true rfl) (Nat.le_of_ble_eq_true rfl) (Nat.le_of_ble_eq_true rfl) dJ1_indexOf_4cfef_18 ?_
    refine lv_topi (fun x_12 ex_12 => ?_)
    replace hEX := hEX.trans (exl_eq ex_12)
    have g_13 : RG x_12 4 4 := RG_min ex_12 (RG_k 4 4 rfl) (RG_k 4 4 rfl) (by decide +kernel)
    refine lv_istore_n (lv' := [(3, .int x_12), (2, .int x_10), (0, .ref tv5), (1, .int p1)]) hx hb dJ1_indexOf_4cfef_21 rfl hl (Nat.le_of_ble_eq_true rfl) rfl (fun ls hl => ?_)
    as_aux_lemma =>
    refine lv_iload_n hx hb dJ1_indexOf_4cfef_22 rfl (lv_at hl 1 rfl) ?_
    refine lv_iload_n hx hb dJ1_indexOf_4cfef_23 rfl (lv_at hl 0 rfl) ?_
    refine lv_icmp_lt (tgt := 29) hx hb dJ1_indexOf_4cfef_24 rfl (fun c_14 => ?_) (fun c_14 => ?_)
    · replace hEX := hEX.trans (if_pos c_14)
      refine lv_aload_n hx hb dJ1_indexOf_4cfef_29 rfl (lv_at hl 2 rfl) ?_
      refine lv_iload_n hx hb dJ1_indexOf_4cfef_30 rfl (lv_at hl 3 rfl) ?_
      refine lv_iload_n hx hb dJ1_indexOf_4cfef_31 rfl (lv_at hl 1 rfl) ?_
      refine lv_iload_n hx hb dJ1_indexOf_4cfef_32 rfl (lv_at hl 0 rfl) ?_
      obtain ⟨hPc, hDc, hFc, hqc⟩ := cl_cut (wc := []) hP hD hS hA [] (by decide +kernel) rfl
      have hKc := hK.sub (tys' := []) [] rfl
      refine va_calli (va_runS (As := [.ref tv5, .int p1, .int x_10, .int x_12]) (rest := []) ⟨hx, hb, hml, hown, hts⟩ (c_J1_indexOfChar_4cfef_5 l dC dI H.size tv5 p1 x_10 x_12 h_6 g_11 g_13) (va_cwS 4 hts gf_c_J1_indexOf_4cfef_5_c_J1_indexOfChar_4cfef_5 rfl rfl rfl md_J1_indexOfChar_4cfef ⟨Nat.le_of_ble_eq_true rfl, Nat.le_of_ble_eq_true rfl⟩) ⟨fun a U g mk q => by obtain ⟨q0, q1, qP, qK, qD, qE0⟩ := q; exact ⟨q0, q1, qP, va_K.moved (u := U) (U := U.calling g mk a) (Vm.Alike.refl U.vm) qK, qD, va_T.moved (u := U) (U := U.calling g mk a) (Vm.Alike.refl U.vm) qE0⟩, fun U hU hW => ⟨rfl, by rw [hU], by rw [hU]; exact hPc, va_K.moved hW.alike hKc, hDc.weaken (fun _ _ _ _ => trivial), va_T.moved hW.alike (by rw [hU]; exact (hE_41.kept hS.2.1).narrow hFc)⟩⟩ rfl rfl hl.1 rfl (lv_room (Nat.le_of_ble_eq_true rfl)) dJ1_indexOf_4cfef_33 ⟨Nat.le_of_ble_eq_true rfl, Nat.le_of_ble_eq_true rfl⟩) hS (fun q _ h => hFc q h) hFc (fun r_15 u t H1 locs ht hvm hw hB hz1 hk1 hS => ?_)
      obtain ⟨hP1, hK1, hD1⟩ := hB
      rw [ht] at hP1
      have hP := bv_still hP hk1
      generalize H1 = H at hP hS ⊢
      as_aux_lemma =>
      rcases hw with ⟨h_16, h_17⟩ | ⟨h_18, h_19⟩
      · have h_17 : r_15 = _ := h_17
        replace hEX := hEX.trans (exc1_eq h_17)
        replace hEX := hEX.trans (if_pos (show r_15 = (-1) from h_16))
        rw [h_16]
        have hK9 := hK.sub (tys' := []) [] rfl
        exact W.iret (v := (-1)) hx hb hr (fun t ht hW => ⟨⟨(-1), (), rfl, (Or.inl ⟨rfl, (hR.trans hEX).symm⟩), by rw [ht]; exact hP, va_K.moved hW.alike hK9, hD⟩, hS.F ht⟩) hS.2.2 dJ1_indexOf_4cfef_36
      · have h_19 : r_15 = _ := h_19
        replace hEX := hEX.trans (exc1_eq h_19)
        replace hEX := hEX.trans (if_neg (RG_neq (x := r_15) (c := (-1)) (show RG r_15 0 3 from h_18) (by decide +kernel)))
        have hK9 := hK.sub (tys' := []) [] rfl
        exact W.iret (v := r_15) hx hb hr (fun t ht hW => ⟨⟨r_15, (), rfl, (Or.inr ⟨h_18, h_6, (hR.trans hEX).symm⟩), by rw [ht]; exact hP, va_K.moved hW.alike hK9, hD⟩, hS.F ht⟩) hS.2.2 dJ1_indexOf_4cfef_36
    · replace hEX := hEX.trans (if_neg c_14)
      have d_20 := Int32.not_lt.mp c_14
      have g_21 : RG x_12 4 0 := RG_le1 g_13 g_11 d_20 (by decide +kernel)
      exact RG_dead (RG_le1 g_13 g_11 d_20 (b' := 0) (by decide +kernel)) (by decide +kernel)
noncomputable def wf_c_J0_indexOf_7cf53_5 : List Cond := .code yJ0_indexOf_7cf53 cJ0_indexOf_7cf53 3 (some .int) :: ([.methodLink RJ0 492 yJ0_isLatin1_aae02, .instanceMethod yJ0_isLatin1_aae02, .selects RJ0 yJ0_isLatin1_aae02 yJ0_isLatin1_aae02, .initialized RJ0, .code yJ0_isLatin1_aae02 cJ0_isLatin1_aae02 1 (some .boolean), .fieldLink RJ0 38 "java/lang/String" "COMPACT_STRINGS" "Z", .fieldLink RJ0 15 "java/lang/String" "coder" "B", .fieldLink RJ0 9 "java/lang/String" "value" "[B", .methodLink RJ0 505 yJ0_length_8abf5, .instanceMethod yJ0_length_8abf5, .selects RJ0 yJ0_length_8abf5 yJ0_length_8abf5, .code yJ0_length_8abf5 cJ0_length_8abf5 1 (some .int), .methodLink RJ0 335 yJ0_coder_7d493, .instanceMethod yJ0_coder_7d493, .selects RJ0 yJ0_coder_7d493 yJ0_coder_7d493, .code yJ0_coder_7d493 cJ0_coder_7d493 1 (some .byte), .methodLink RJ0 637 yJ1_indexOf_4cfef, .static yJ1_indexOf_4cfef, .initialized RJ1, .code yJ1_indexOf_4cfef cJ1_indexOf_4cfef 4 (some .int), .methodLink RJ1 88 yJ1_canEncode_9a6ad, .static yJ1_canEncode_9a6ad, .code yJ1_canEncode_9a6ad cJ1_canEncode_9a6ad 1 (some .boolean), .methodLink RJ1 92 Lib.Math.max.name, .static Lib.Math.max.name, .initialized "java/lang/Math", .code Lib.Math.max.name Lib.Math.max.code 2 (some .int), .methodLink RJ1 38 Lib.Math.min.name, .static Lib.Math.min.name, .code Lib.Math.min.name Lib.Math.min.code 2 (some .int), .methodLink RJ1 95 yJ1_indexOfChar_4cfef, .static yJ1_indexOfChar_4cfef, .code yJ1_indexOfChar_4cfef cJ1_indexOfChar_4cfef 6 (some .int)])
set_option maxRecDepth 20000 in
theorem gf_c_J0_indexOf_7cf53_5_c_J0_isLatin1_aae02_5 : GoodIn wf_c_J0_indexOf_7cf53_5 (wsV RJ0 492 RJ0 yJ0_isLatin1_aae02 wf_c_J0_isLatin1_aae02_5) := goodIn_app (gi_l [1, 2, 3, 4] rfl rfl) (gi_cons (j := 5) rfl rfl (gi_l [6, 7] rfl rfl))
set_option maxRecDepth 20000 in
theorem gf_c_J0_indexOf_7cf53_5_c_J0_length_8abf5_5 : GoodIn wf_c_J0_indexOf_7cf53_5 (wsV RJ0 505 RJ0 yJ0_length_8abf5 wf_c_J0_length_8abf5_5) := goodIn_app (gi_l [9, 10, 11, 4] rfl rfl) (gi_cons (j := 12) rfl rfl (gi_l [8, 13, 14, 15, 4, 16, 6, 7] rfl rfl))
set_option maxRecDepth 20000 in
theorem gf_c_J0_indexOf_7cf53_5_c_J1_indexOf_4cfef_5 : GoodIn wf_c_J0_indexOf_7cf53_5 (va_wsS RJ0 637 yJ1_indexOf_4cfef wf_c_J1_indexOf_4cfef_5) := goodIn_app (gi_l [17, 18, 19] rfl rfl) (gi_cons (j := 20) rfl rfl (gi_l [21, 22, 19, 23, 24, 25, 26, 27, 28, 29, 30, 31, 32, 33] rfl rfl))
set_option maxHeartbeats 4000000 in
set_option maxRecDepth 100000 in
theorem c_J0_indexOf_7cf53_5 (l : Launch) (dC : Nat → ClassId) (dI : Nat → Nat → Nat) (sz : Nat) (ts5 : Nat) (p1 : Int32) (tv5 : Nat) (g_p1 : RG p1 0 65535) : Met l yJ0_indexOf_7cf53 wf_c_J0_indexOf_7cf53_5 ({ frames := 2, cells := 0, slots := 0, locals := 48 }) (va_Pc [.ref ts5, .int p1, .int 0] (fun U => U.heap.size = sz ∧ va_P (dC, dI) vwCl [] U.heap ∧ va_K (dC, dI) vwCl [] U ∧ va_D (fun _ => True) [] ∧ va_Z "java/lang/String" "COMPACT_STRINGS" "Z" (.int 1) (va_A [] sz) U U.heap ∧ va_OF "java/lang/String" "coder" "B" (.int 0) ts5 (va_A [] sz) U U.heap ∧ va_O "java/lang/String" ts5 (va_A [] sz) U U.heap ∧ va_OF "java/lang/String" "value" "[B" (.ref tv5) ts5 (va_A [] sz) U U.heap ∧ va_T .byte tv5 4 (fun j => .int ([103, 115, 99, 104].getD j 0)) (va_A [] sz) U U.heap)) (va_Qi (fun (r : Int32) (u : Unit) => (r = (-1) ∧ r = fx_c_J0_indexOf_7cf53_5 p1) ∨ (RG r 0 3 ∧ RG p1 0 255 ∧ r = fx_c_J0_indexOf_7cf53_5 p1)) (fun (u : Unit) t => va_P (dC, dI) vwCl [] t.heap ∧ va_K (dC, dI) vwCl [] t ∧ va_D (va_A [] sz) []) (va_A [] sz)) 0 0 (va_A [] sz) := by
  refine Met.ofW (cc := cJ0_indexOf_7cf53) (maxL := 3) (ret := (some .int)) (by decide +kernel) rfl ?_
  intro p e s m args below meth c s₁ B hml hv
  obtain ⟨rfl, hsz, hP, hK, hD0, hE_10, hE_39, hE_38, hE_40, hE_41⟩ := hv
  have hx := B.exec
  have hb := B.bytes
  have hr := B.returns
  have hts := atoms_spec (ws := wf_c_J0_indexOf_7cf53_5) B.pre
  have hown : s.vm.findClass RJ0 = some m.cls := findClass_of_methodNamed B.named
  have hlocks := B.notSynchronized
  subst hsz
  have hD := hD0.self (sz := s.heap.size)
  generalize hAe : va_A [] s.heap.size = A at hD hE_10 hE_39 hE_38 hE_40 hE_41 ⊢
  have hA : ∀ q : Nat, s.heap.size ≤ q → A q := fun q h => by rw [← hAe]; exact Or.inr h
  have hP : va_P (dC, dI) vwCl [] s.heap := hP
  have hl := lv_entry ([.ref ts5, .int p1, .int 0]) (n := 3) (Nat.le_of_ble_eq_true rfl)
  rw [lg_entry_eq]
  generalize (lg_sl ([.ref ts5, .int p1, .int 0]) ++ List.replicate (3 - (lg_sl ([.ref ts5, .int p1, .int 0])).length) Slot.unset).toArray = ls at hl ⊢
  have hl : lv_has ls 3 [(0, .ref ts5), (1, .int p1), (2, .int 0)] := hl
  obtain ⟨H, hHe⟩ : ∃ H : Heap, s.heap = H := ⟨_, rfl⟩
  have hS : va_S A s.heap H [] := by rw [hHe]; exact va_S.rf
  have hP : va_P (dC, dI) vwCl [] H := by rw [← hHe]; exact hP
  rw [hHe]
  obtain ⟨RES, hR⟩ : ∃ z, fx_c_J0_indexOf_7cf53_5 p1 = z := ⟨_, rfl⟩
  have hEX : RES = fx_c_J0_indexOf_7cf53_5 p1 := hR.symm
  refine lv_aload_n hx hb dJ0_indexOf_7cf53_0 rfl (lv_at hl 0 rfl) ?_
  as_aux_lemma =>
  obtain ⟨hPc, hDc, hFc, hqc⟩ := cl_cut (wc := []) hP hD hS hA [] (by decide +kernel) rfl
  have hKc := hK.sub (tys' := []) [] rfl
  have hrv := bv_Orecv hE_38 hS
  refine va_calli (va_runV (As := []) (rest := []) ⟨hx, hb, hml, hown, hts⟩ (c_J0_isLatin1_aae02_5 l dC dI H.size ts5) (cwV 0 hts gf_c_J0_indexOf_7cf53_5_c_J0_isLatin1_aae02_5 rfl rfl rfl mdV_J0_isLatin1_aae02 ⟨Nat.le_of_ble_eq_true rfl, Nat.le_of_ble_eq_true rfl⟩) ⟨fun a U g mk q => by obtain ⟨q0, q1, qP, qK, qD, qE0, qE1⟩ := q; exact ⟨q0, q1, qP, va_K.moved (u := U) (U := U.calling g mk a) (Vm.Alike.refl U.vm) qK, qD, va_Z.moved (u := U) (U := U.calling g mk a) (Vm.Alike.refl U.vm) qE0, va_OF.moved (u := U) (U := U.calling g mk a) (Vm.Alike.refl U.vm) qE1⟩, hrv, fun U hU hW => ⟨rfl, by rw [hU], by rw [hU]; exact hPc, va_K.moved hW.alike hKc, hDc.weaken (fun _ _ _ _ => trivial), va_Z.moved hW.alike (by rw [hU]; exact (hE_10.kept hS.2.1).narrow hFc), va_OF.moved hW.alike (by rw [hU]; exact (hE_39.kept hS.2.1).narrow hFc)⟩⟩ rfl rfl hl.1 rfl (lv_room (Nat.le_of_ble_eq_true rfl)) dJ0_indexOf_7cf53_1 ⟨Nat.le_of_ble_eq_true rfl, Nat.le_of_ble_eq_true rfl⟩) hS (fun q _ h => hFc q h) hFc (fun r_1 u t H1 locs ht hvm hw hB hz1 hk1 hS => ?_)
  obtain ⟨hP1, hK1, hD1⟩ := hB
  rw [ht] at hP1
  have hP := bv_still hP hk1
  generalize H1 = H at hP hS ⊢
  as_aux_lemma =>
  rcases hw with ⟨h_2, h_3⟩
  have h_3 : r_1 = _ := h_3
  replace hEX := hEX.trans (exc1_eq h_3)
  rw [h_2]
  refine lv_if_eq (tgt := 23) hx hb dJ0_indexOf_7cf53_4 rfl (fun c_4 => absurd c_4 (by decide +kernel)) (fun c_4 => ?_)
  refine lv_aload_n hx hb dJ0_indexOf_7cf53_7 rfl (lv_at hl 0 rfl) ?_
  refine vk_getf hx hb hE_40 hS hown (hts (.fieldLink RJ0 9 "java/lang/String" "value" "[B") (List.mem_of_getElem? (i := 8) rfl)) (fun _ h9 => h9) dJ0_indexOf_7cf53_8 ?_
  refine lv_iload_n hx hb dJ0_indexOf_7cf53_11 rfl (lv_at hl 1 rfl) ?_
  refine lv_iload_n hx hb dJ0_indexOf_7cf53_12 rfl (lv_at hl 2 rfl) ?_
  refine lv_aload_n hx hb dJ0_indexOf_7cf53_13 rfl (lv_at hl 0 rfl) ?_
  obtain ⟨hPc, hDc, hFc, hqc⟩ := cl_cut (wc := []) hP hD hS hA [] (by decide +kernel) rfl
  have hKc := hK.sub (tys' := []) [] rfl
  have hrv := bv_Orecv hE_38 hS
  refine va_calli (va_runV (As := []) (rest := [.int 0, .int p1, .ref tv5]) ⟨hx, hb, hml, hown, hts⟩ (c_J0_length_8abf5_5 l dC dI H.size ts5 tv5) (cwV 0 hts gf_c_J0_indexOf_7cf53_5_c_J0_length_8abf5_5 rfl rfl rfl mdV_J0_length_8abf5 ⟨Nat.le_of_ble_eq_true rfl, Nat.le_of_ble_eq_true rfl⟩) ⟨fun a U g mk q => by obtain ⟨q0, q1, qP, qK, qD, qE0, qE1, qE2, qE3, qE4⟩ := q; exact ⟨q0, q1, qP, va_K.moved (u := U) (U := U.calling g mk a) (Vm.Alike.refl U.vm) qK, qD, va_OF.moved (u := U) (U := U.calling g mk a) (Vm.Alike.refl U.vm) qE0, va_T.moved (u := U) (U := U.calling g mk a) (Vm.Alike.refl U.vm) qE1, va_Z.moved (u := U) (U := U.calling g mk a) (Vm.Alike.refl U.vm) qE2, va_OF.moved (u := U) (U := U.calling g mk a) (Vm.Alike.refl U.vm) qE3, va_O.moved (u := U) (U := U.calling g mk a) (Vm.Alike.refl U.vm) qE4⟩, hrv, fun U hU hW => ⟨rfl, by rw [hU], by rw [hU]; exact hPc, va_K.moved hW.alike hKc, hDc.weaken (fun _ _ _ _ => trivial), va_OF.moved hW.alike (by rw [hU]; exact (hE_40.kept hS.2.1).narrow hFc), va_T.moved hW.alike (by rw [hU]; exact (hE_41.kept hS.2.1).narrow hFc), va_Z.moved hW.alike (by rw [hU]; exact (hE_10.kept hS.2.1).narrow hFc), va_OF.moved hW.alike (by rw [hU]; exact (hE_39.kept hS.2.1).narrow hFc), va_O.moved hW.alike (by rw [hU]; exact (hE_38.kept hS.2.1).narrow hFc)⟩⟩ rfl rfl hl.1 rfl (lv_room (Nat.le_of_ble_eq_true rfl)) dJ0_indexOf_7cf53_14 ⟨Nat.le_of_ble_eq_true rfl, Nat.le_of_ble_eq_true rfl⟩) hS (fun q _ h => hFc q h) hFc (fun r_5 u t H1 locs ht hvm hw hB hz1 hk1 hS => ?_)
  as_aux_lemma =>
  obtain ⟨hP1, hK1, hD1⟩ := hB
  rw [ht] at hP1
  have hP := bv_still hP hk1
  generalize H1 = H at hP hS ⊢
  as_aux_lemma =>
  rcases hw with ⟨h_6, h_7⟩
  have h_7 : r_5 = _ := h_7
  replace hEX := hEX.trans (exc1_eq h_7)
  rw [h_6]
  obtain ⟨hPc, hDc, hFc, hqc⟩ := cl_cut (wc := []) hP hD hS hA [] (by decide +kernel) rfl
  have hKc := hK.sub (tys' := []) [] rfl
  refine va_calli (va_runS (As := [.ref tv5, .int p1, .int 0, .int 4]) (rest := []) ⟨hx, hb, hml, hown, hts⟩ (c_J1_indexOf_4cfef_5 l dC dI H.size tv5 p1 g_p1) (va_cwS 4 hts gf_c_J0_indexOf_7cf53_5_c_J1_indexOf_4cfef_5 rfl rfl rfl md_J1_indexOf_4cfef ⟨Nat.le_of_ble_eq_true rfl, Nat.le_of_ble_eq_true rfl⟩) ⟨fun a U g mk q => by obtain ⟨q0, q1, qP, qK, qD, qE0⟩ := q; exact ⟨q0, q1, qP, va_K.moved (u := U) (U := U.calling g mk a) (Vm.Alike.refl U.vm) qK, qD, va_T.moved (u := U) (U := U.calling g mk a) (Vm.Alike.refl U.vm) qE0⟩, fun U hU hW => ⟨rfl, by rw [hU], by rw [hU]; exact hPc, va_K.moved hW.alike hKc, hDc.weaken (fun _ _ _ _ => trivial), va_T.moved hW.alike (by rw [hU]; exact (hE_41.kept hS.2.1).narrow hFc)⟩⟩ rfl rfl hl.1 rfl (lv_room (Nat.le_of_ble_eq_true rfl)) dJ0_indexOf_7cf53_17 ⟨Nat.le_of_ble_eq_true rfl, Nat.le_of_ble_eq_true rfl⟩) hS (fun q _ h => hFc q h) hFc (fun r_8 u t H1 locs ht hvm hw hB hz1 hk1 hS => ?_)
  obtain ⟨hP1, hK1, hD1⟩ := hB
  rw [ht] at hP1
  have hP := bv_still hP hk1
  generalize H1 = H at hP hS ⊢
  as_aux_lemma =>
  rcases hw with ⟨h_9, h_10⟩ | ⟨h_11, h_12, h_13⟩
  · have h_10 : r_8 = _ := h_10
    replace hEX := hEX.trans (exc1_eq h_10)
    replace hEX := hEX.trans (if_pos (show r_8 = (-1) from h_9))
    rw [h_9]
    refine lv_goto (tgt := 36) hx hb dJ0_indexOf_7cf53_20 rfl ?_
    have hK9 := hK.sub (tys' := []) [] rfl
    exact W.iret (v := (-1)) hx hb hr (fun t ht hW => ⟨⟨(-1), (), rfl, (Or.inl ⟨rfl, (hR.trans hEX).symm⟩), by rw [ht]; exact hP, va_K.moved hW.alike hK9, hD⟩, hS.F ht⟩) hS.2.2 dJ0_indexOf_7cf53_36
  · have h_13 : r_8 = _ := h_13
    replace hEX := hEX.trans (exc1_eq h_13)
    replace hEX := hEX.trans (if_neg (RG_neq (x := r_8) (c := (-1)) (show RG r_8 0 3 from h_11) (by decide +kernel)))
    refine lv_goto (tgt := 36) hx hb dJ0_indexOf_7cf53_20 rfl ?_
    have hK9 := hK.sub (tys' := []) [] rfl
    exact W.iret (v := r_8) hx hb hr (fun t ht hW => ⟨⟨r_8, (), rfl, (Or.inr ⟨h_11, h_12, (hR.trans hEX).symm⟩), by rw [ht]; exact hP, va_K.moved hW.alike hK9, hD⟩, hS.F ht⟩) hS.2.2 dJ0_indexOf_7cf53_36
noncomputable def wf_c_J0_indexOf_0f7a4_5 : List Cond := .code yJ0_indexOf_0f7a4 cJ0_indexOf_0f7a4 2 (some .int) :: ([.methodLink RJ0 633 yJ0_indexOf_7cf53, .instanceMethod yJ0_indexOf_7cf53, .selects RJ0 yJ0_indexOf_7cf53 yJ0_indexOf_7cf53, .initialized RJ0, .code yJ0_indexOf_7cf53 cJ0_indexOf_7cf53 3 (some .int), .methodLink RJ0 492 yJ0_isLatin1_aae02, .instanceMethod yJ0_isLatin1_aae02, .selects RJ0 yJ0_isLatin1_aae02 yJ0_isLatin1_aae02, .code yJ0_isLatin1_aae02 cJ0_isLatin1_aae02 1 (some .boolean), .fieldLink RJ0 38 "java/lang/String" "COMPACT_STRINGS" "Z", .fieldLink RJ0 15 "java/lang/String" "coder" "B", .fieldLink RJ0 9 "java/lang/String" "value" "[B", .methodLink RJ0 505 yJ0_length_8abf5, .instanceMethod yJ0_length_8abf5, .selects RJ0 yJ0_length_8abf5 yJ0_length_8abf5, .code yJ0_length_8abf5 cJ0_length_8abf5 1 (some .int), .methodLink RJ0 335 yJ0_coder_7d493, .instanceMethod yJ0_coder_7d493, .selects RJ0 yJ0_coder_7d493 yJ0_coder_7d493, .code yJ0_coder_7d493 cJ0_coder_7d493 1 (some .byte), .methodLink RJ0 637 yJ1_indexOf_4cfef, .static yJ1_indexOf_4cfef, .initialized RJ1, .code yJ1_indexOf_4cfef cJ1_indexOf_4cfef 4 (some .int), .methodLink RJ1 88 yJ1_canEncode_9a6ad, .static yJ1_canEncode_9a6ad, .code yJ1_canEncode_9a6ad cJ1_canEncode_9a6ad 1 (some .boolean), .methodLink RJ1 92 Lib.Math.max.name, .static Lib.Math.max.name, .initialized "java/lang/Math", .code Lib.Math.max.name Lib.Math.max.code 2 (some .int), .methodLink RJ1 38 Lib.Math.min.name, .static Lib.Math.min.name, .code Lib.Math.min.name Lib.Math.min.code 2 (some .int), .methodLink RJ1 95 yJ1_indexOfChar_4cfef, .static yJ1_indexOfChar_4cfef, .code yJ1_indexOfChar_4cfef cJ1_indexOfChar_4cfef 6 (some .int)])
set_option maxRecDepth 20000 in
theorem gf_c_J0_indexOf_0f7a4_5_c_J0_indexOf_7cf53_5 : GoodIn wf_c_J0_indexOf_0f7a4_5 (wsV RJ0 633 RJ0 yJ0_indexOf_7cf53 wf_c_J0_indexOf_7cf53_5) := goodIn_app (gi_l [1, 2, 3, 4] rfl rfl) (gi_cons (j := 5) rfl rfl (gi_l [6, 7, 8, 4, 9, 10, 11, 12, 13, 14, 15, 16, 17, 18, 19, 20, 21, 22, 23, 24, 25, 26, 27, 28, 29, 30, 31, 32, 33, 34, 35, 36, 37] rfl rfl))
set_option maxHeartbeats 4000000 in
set_option maxRecDepth 100000 in
theorem c_J0_indexOf_0f7a4_5 (l : Launch) (dC : Nat → ClassId) (dI : Nat → Nat → Nat) (sz : Nat) (ts5 : Nat) (p1 : Int32) (tv5 : Nat) (g_p1 : RG p1 0 65535) : Met l yJ0_indexOf_0f7a4 wf_c_J0_indexOf_0f7a4_5 ({ frames := 3, cells := 0, slots := 0, locals := 70 }) (va_Pc [.ref ts5, .int p1] (fun U => U.heap.size = sz ∧ va_P (dC, dI) vwCl [] U.heap ∧ va_K (dC, dI) vwCl [] U ∧ va_D (fun _ => True) [] ∧ va_Z "java/lang/String" "COMPACT_STRINGS" "Z" (.int 1) (va_A [] sz) U U.heap ∧ va_OF "java/lang/String" "coder" "B" (.int 0) ts5 (va_A [] sz) U U.heap ∧ va_O "java/lang/String" ts5 (va_A [] sz) U U.heap ∧ va_OF "java/lang/String" "value" "[B" (.ref tv5) ts5 (va_A [] sz) U U.heap ∧ va_T .byte tv5 4 (fun j => .int ([103, 115, 99, 104].getD j 0)) (va_A [] sz) U U.heap)) (va_Qi (fun (r : Int32) (u : Unit) => (r = (-1) ∧ r = fx_c_J0_indexOf_0f7a4_5 p1) ∨ (RG r 0 3 ∧ RG p1 0 255 ∧ r = fx_c_J0_indexOf_0f7a4_5 p1)) (fun (u : Unit) t => va_P (dC, dI) vwCl [] t.heap ∧ va_K (dC, dI) vwCl [] t ∧ va_D (va_A [] sz) []) (va_A [] sz)) 0 0 (va_A [] sz) := by
  refine Met.ofW (cc := cJ0_indexOf_0f7a4) (maxL := 2) (ret := (some .int)) (by decide +kernel) rfl ?_
  intro p e s m args below meth c s₁ B hml hv
  obtain ⟨rfl, hsz, hP, hK, hD0, hE_10, hE_39, hE_38, hE_40, hE_41⟩ := hv
  have hx := B.exec
  have hb := B.bytes
  have hr := B.returns
  have hts := atoms_spec (ws := wf_c_J0_indexOf_0f7a4_5) B.pre
  have hown : s.vm.findClass RJ0 = some m.cls := findClass_of_methodNamed B.named
  have hlocks := B.notSynchronized
  subst hsz
  have hD := hD0.self (sz := s.heap.size)
  generalize hAe : va_A [] s.heap.size = A at hD hE_10 hE_39 hE_38 hE_40 hE_41 ⊢
  have hA : ∀ q : Nat, s.heap.size ≤ q → A q := fun q h => by rw [← hAe]; exact Or.inr h
  have hP : va_P (dC, dI) vwCl [] s.heap := hP
  have hl := lv_entry ([.ref ts5, .int p1]) (n := 2) (Nat.le_of_ble_eq_true rfl)
  rw [lg_entry_eq]
  generalize (lg_sl ([.ref ts5, .int p1]) ++ List.replicate (2 - (lg_sl ([.ref ts5, .int p1])).length) Slot.unset).toArray = ls at hl ⊢
  have hl : lv_has ls 2 [(0, .ref ts5), (1, .int p1)] := hl
  obtain ⟨H, hHe⟩ : ∃ H : Heap, s.heap = H := ⟨_, rfl⟩
  have hS : va_S A s.heap H [] := by rw [hHe]; exact va_S.rf
  have hP : va_P (dC, dI) vwCl [] H := by rw [← hHe]; exact hP
  rw [hHe]
  obtain ⟨RES, hR⟩ : ∃ z, fx_c_J0_indexOf_0f7a4_5 p1 = z := ⟨_, rfl⟩
  have hEX : RES = fx_c_J0_indexOf_0f7a4_5 p1 := hR.symm
  refine lv_aload_n hx hb dJ0_indexOf_0f7a4_0 rfl (lv_at hl 0 rfl) ?_
  as_aux_lemma =>
  refine lv_iload_n hx hb dJ0_indexOf_0f7a4_1 rfl (lv_at hl 1 rfl) ?_
  refine lv_iconst (v := 0) hx hb dJ0_indexOf_0f7a4_2 kc_iconst_0 ?_
  obtain ⟨hPc, hDc, hFc, hqc⟩ := cl_cut (wc := []) hP hD hS hA [] (by decide +kernel) rfl
  have hKc := hK.sub (tys' := []) [] rfl
  have hrv := bv_Orecv hE_38 hS
  refine va_calli (va_runV (As := [.int p1, .int 0]) (rest := []) ⟨hx, hb, hml, hown, hts⟩ (c_J0_indexOf_7cf53_5 l dC dI H.size ts5 p1 tv5 g_p1) (cwV 2 hts gf_c_J0_indexOf_0f7a4_5_c_J0_indexOf_7cf53_5 rfl rfl rfl mdV_J0_indexOf_7cf53 ⟨Nat.le_of_ble_eq_true rfl, Nat.le_of_ble_eq_true rfl⟩) ⟨fun a U g mk q => by obtain ⟨q0, q1, qP, qK, qD, qE0, qE1, qE2, qE3, qE4⟩ := q; exact ⟨q0, q1, qP, va_K.moved (u := U) (U := U.calling g mk a) (Vm.Alike.refl U.vm) qK, qD, va_Z.moved (u := U) (U := U.calling g mk a) (Vm.Alike.refl U.vm) qE0, va_OF.moved (u := U) (U := U.calling g mk a) (Vm.Alike.refl U.vm) qE1, va_O.moved (u := U) (U := U.calling g mk a) (Vm.Alike.refl U.vm) qE2, va_OF.moved (u := U) (U := U.calling g mk a) (Vm.Alike.refl U.vm) qE3, va_T.moved (u := U) (U := U.calling g mk a) (Vm.Alike.refl U.vm) qE4⟩, hrv, fun U hU hW => ⟨rfl, by rw [hU], by rw [hU]; exact hPc, va_K.moved hW.alike hKc, hDc.weaken (fun _ _ _ _ => trivial), va_Z.moved hW.alike (by rw [hU]; exact (hE_10.kept hS.2.1).narrow hFc), va_OF.moved hW.alike (by rw [hU]; exact (hE_39.kept hS.2.1).narrow hFc), va_O.moved hW.alike (by rw [hU]; exact (hE_38.kept hS.2.1).narrow hFc), va_OF.moved hW.alike (by rw [hU]; exact (hE_40.kept hS.2.1).narrow hFc), va_T.moved hW.alike (by rw [hU]; exact (hE_41.kept hS.2.1).narrow hFc)⟩⟩ rfl rfl hl.1 rfl (lv_room (Nat.le_of_ble_eq_true rfl)) dJ0_indexOf_0f7a4_3 ⟨Nat.le_of_ble_eq_true rfl, Nat.le_of_ble_eq_true rfl⟩) hS (fun q _ h => hFc q h) hFc (fun r_1 u t H1 locs ht hvm hw hB hz1 hk1 hS => ?_)
  obtain ⟨hP1, hK1, hD1⟩ := hB
  rw [ht] at hP1
  have hP := bv_still hP hk1
  generalize H1 = H at hP hS ⊢
  as_aux_lemma =>
  rcases hw with ⟨h_2, h_3⟩ | ⟨h_4, h_5, h_6⟩
  · have h_3 : r_1 = _ := h_3
    replace hEX := hEX.trans (exc1_eq h_3)
    replace hEX := hEX.trans (if_pos (show r_1 = (-1) from h_2))
    rw [h_2]
    have hK9 := hK.sub (tys' := []) [] rfl
    exact W.iret (v := (-1)) hx hb hr (fun t ht hW => ⟨⟨(-1), (), rfl, (Or.inl ⟨rfl, (hR.trans hEX).symm⟩), by rw [ht]; exact hP, va_K.moved hW.alike hK9, hD⟩, hS.F ht⟩) hS.2.2 dJ0_indexOf_0f7a4_6
  · have h_6 : r_1 = _ := h_6
    replace hEX := hEX.trans (exc1_eq h_6)
    replace hEX := hEX.trans (if_neg (RG_neq (x := r_1) (c := (-1)) (show RG r_1 0 3 from h_4) (by decide +kernel)))
    have hK9 := hK.sub (tys' := []) [] rfl
    exact W.iret (v := r_1) hx hb hr (fun t ht hW => ⟨⟨r_1, (), rfl, (Or.inr ⟨h_4, h_5, (hR.trans hEX).symm⟩), by rw [ht]; exact hP, va_K.moved hW.alike hK9, hD⟩, hS.F ht⟩) hS.2.2 dJ0_indexOf_0f7a4_6
noncomputable def wd_c_X9_digit (a0 : Nat) (a1 : Nat) (a2 : Int32) (a3 : Int32) (a4 : Int32) (a5 : Nat) (a6 : ClassId) (a7 : Nat → Int32) : va_W := [(a0, .inr (9, [.ref a1, .int a2, .int a3, .int a4])), (a5, .inl (a6, 240, .inl a7))]
noncomputable def wf_c_X9_digit : List Cond := List.cons (.code yX9_digit cX9_digit 2 (some .int)) (@HAppend.hAppend (List Cond) (List Cond) (List Cond) _ [.methodLink RX9 29 yX9_peek, .instanceMethod yX9_peek, .selects RX9 yX9_peek yX9_peek, .initialized RX9, .code yX9_peek cX9_peek 1 (some .int), .fieldLink RX9 22 "BuoyVote$Tape" "at" "I", .fieldLink RX9 19 "BuoyVote$Tape" "length" "I", .fieldLink RX9 11 "BuoyVote$Tape" "bytes" "[I", .methodLink RX9 25 yX9_refuse, .instanceMethod yX9_refuse, .selects RX9 yX9_refuse yX9_refuse, .code yX9_refuse cX9_refuse 2 none, .fieldLink RX9 15 "BuoyVote$Tape" "wrong" "I"] wsX90)
theorem iw_c_X9_digit_X9 : ∀ w ∈ wsX90, w ∈ wf_c_X9_digit := fun w h => List.mem_cons_of_mem _ (List.mem_append_right _ h)
set_option maxRecDepth 20000 in
theorem gf_c_X9_digit_c_X9_refuse : GoodIn wf_c_X9_digit (wsV RX9 25 RX9 yX9_refuse wf_c_X9_refuse) := goodIn_app (gi_l [9, 10, 11, 4] rfl rfl) (gi_cons (j := 12) rfl rfl (goodIn_app (gi_l [13] rfl rfl) (goodIn_sub iw_c_X9_digit_X9 gw_X9)))
set_option maxRecDepth 20000 in
theorem gf_c_X9_digit_c_X9_peek : GoodIn wf_c_X9_digit (wsV RX9 29 RX9 yX9_peek wf_c_X9_peek) := goodIn_app (gi_l [1, 2, 3, 4] rfl rfl) (gi_cons (j := 5) rfl rfl (goodIn_app (gi_l [6, 7, 8] rfl rfl) (goodIn_sub iw_c_X9_digit_X9 gw_X9)))
set_option maxHeartbeats 4000000 in
set_option maxRecDepth 100000 in
theorem c_X9_digit (l : Launch) (dC : Nat → ClassId) (dI : Nat → Nat → Nat) (sz : Nat) (h0 : Nat) (h0_0 : Nat) (h0_f1 : Int32) (h0_f2 : Int32) (h0_f3 : Int32) (h0_0k : ClassId) (h0_0c : Nat → Int32) (g_h0_f1 : RG h0_f1 0 240) (g_h0_f2 : RG h0_f2 0 240) (g_h0_f3 : RG h0_f3 (-1) 240) (a_h0_0c : AI h0_0c 0 255) : Met l yX9_digit wf_c_X9_digit ({ frames := 1, cells := 0, slots := 0, locals := 21 }) (va_Pc [.ref h0] (fun U => U.heap.size = sz ∧ va_P (dC, dI) vwCl (wd_c_X9_digit h0 h0_0 h0_f1 h0_f2 h0_f3 h0_0 h0_0k h0_0c) U.heap ∧ va_K (dC, dI) vwCl [(h0_0k, .int)] U ∧ va_D (fun _ => True) (wd_c_X9_digit h0 h0_0 h0_f1 h0_f2 h0_f3 h0_0 h0_0k h0_0c))) (va_Qi (fun (r : Int32) (u : (Int32) × (Int32)) => (RG r 0 9 ∧ RG u.1 0 240 ∧ RG u.2 (-1) 240 ∧ h0_f2.toInt + 0 ≤ (u.1).toInt ∧ (r, u.1, u.2) = fx_c_X9_digit h0_f1 h0_f2 h0_f3 h0_0c)) (fun (u : (Int32) × (Int32)) t => va_P (dC, dI) vwCl (wd_c_X9_digit h0 h0_0 h0_f1 (u.1) (u.2) h0_0 h0_0k h0_0c) t.heap ∧ va_K (dC, dI) vwCl [] t ∧ va_D (va_A (wd_c_X9_digit h0 h0_0 h0_f1 h0_f2 h0_f3 h0_0 h0_0k h0_0c) sz) (wd_c_X9_digit h0 h0_0 h0_f1 (u.1) (u.2) h0_0 h0_0k h0_0c)) (va_A (wd_c_X9_digit h0 h0_0 h0_f1 h0_f2 h0_f3 h0_0 h0_0k h0_0c) sz)) 0 0 (va_A (wd_c_X9_digit h0 h0_0 h0_f1 h0_f2 h0_f3 h0_0 h0_0k h0_0c) sz) := by
  refine Met.ofW (cc := cX9_digit) (maxL := 2) (ret := (some .int)) (by decide +kernel) rfl ?_
  intro p e s m args below meth c s₁ B hml hv
  obtain ⟨rfl, hsz, hP, hK, hD0⟩ := hv
  have hx := B.exec
  have hb := B.bytes
  have hr := B.returns
  have hts := atoms_spec (ws := wf_c_X9_digit) B.pre
  have hown : s.vm.findClass RX9 = some m.cls := findClass_of_methodNamed B.named
  have hlocks := B.notSynchronized
  subst hsz
  have hD := hD0.self (sz := s.heap.size)
  generalize hAe : va_A (wd_c_X9_digit h0 h0_0 h0_f1 h0_f2 h0_f3 h0_0 h0_0k h0_0c) s.heap.size = A at hD ⊢
  have hA : ∀ q : Nat, s.heap.size ≤ q → A q := fun q h => by rw [← hAe]; exact Or.inr h
  have hP : va_P (dC, dI) vwCl (wd_c_X9_digit h0 h0_0 h0_f1 h0_f2 h0_f3 h0_0 h0_0k h0_0c) s.heap := hP
  have hl := lv_entry ([.ref h0]) (n := 2) (Nat.le_of_ble_eq_true rfl)
  rw [lg_entry_eq]
  generalize (lg_sl ([.ref h0]) ++ List.replicate (2 - (lg_sl ([.ref h0])).length) Slot.unset).toArray = ls at hl ⊢
  have hl : lv_has ls 2 [(0, .ref h0)] := hl
  obtain ⟨H, hHe⟩ : ∃ H : Heap, s.heap = H := ⟨_, rfl⟩
  have hS : va_S A s.heap H [] := by rw [hHe]; exact va_S.rf
  have hP : va_P (dC, dI) vwCl (wd_c_X9_digit h0 h0_0 h0_f1 h0_f2 h0_f3 h0_0 h0_0k h0_0c) H := by rw [← hHe]; exact hP
  rw [hHe]
  obtain ⟨RES, hR⟩ : ∃ z, fx_c_X9_digit h0_f1 h0_f2 h0_f3 h0_0c = z := ⟨_, rfl⟩
  have hEX : RES = fx_c_X9_digit h0_f1 h0_f2 h0_f3 h0_0c := hR.symm
  refine wj (fun G hG hU => ?_)
  as_aux_lemma =>
  have J17 : ∀ (j17_h0_f2 : Int32) (g_h0_f1 : RG h0_f1 0 240) (g_h0_f2 : RG h0_f2 0 240) (g_h0_f3 : RG h0_f3 (-1) 240) (g_j17_h0_f2 : RG j17_h0_f2 0 240) (r_h0_f2_j17_h0_f2 : h0_f2.toInt + 0 ≤ j17_h0_f2.toInt) (hEX : RES = fx_c_X9_digit_p17 h0_f3 j17_h0_f2) (H : Heap) (locs : List Loc) (ls : Array Slot) (hP : va_P (dC, dI) vwCl (wd_c_X9_digit h0 h0_0 h0_f1 j17_h0_f2 h0_f3 h0_0 h0_0k h0_0c) H) (hD : va_D A (wd_c_X9_digit h0 h0_0 h0_f1 j17_h0_f2 h0_f3 h0_0 h0_0k h0_0c)) (hS : va_S A s.heap H locs) (hl : lv_has ls 2 [(0, .ref h0)]), G H locs (F0 m 17 ls []) := by
    as_aux_lemma =>
    intro j17_h0_f2 g_h0_f1 g_h0_f2 g_h0_f3 g_j17_h0_f2 r_h0_f2_j17_h0_f2 hEX H locs ls hP hD hS hl
    refine hG _ _ _ ?_
    refine lv_aload_n hx hb dX9_digit_17 rfl (lv_at hl 0 rfl) ?_
    refine lv_aload_n hx hb dX9_digit_18 rfl (lv_at hl 0 rfl) ?_
    refine va_get (D := (dC, dI)) (ci := 9) (v := .int j17_h0_f2) (C := RX9) (T := TX9) (N := 4) hx hb hts iw_c_X9_digit_X9 hown hK hP 0 rfl rfl 2 (by decide +kernel) (hts (.fieldLink RX9 22 "BuoyVote$Tape" "at" "I") (List.mem_of_getElem? (i := 6) rfl)) (fun _ h9 => h9) rfl dX9_digit_19 ?_
    obtain ⟨hPc, hDc, hFc, hqc⟩ := cl_cut (wc := (wd_c_X9_refuse h0 h0_0 h0_f1 j17_h0_f2 h0_f3)) hP hD hS hA [0] (by decide +kernel) rfl
    have hKc := hK.sub (tys' := []) [] rfl
    have hrv := va_recv hKc hPc (ci := 9) (q0 := 0) rfl rfl
    refine va_callv (va_runV (As := [.int j17_h0_f2]) (rest := []) ⟨hx, hb, hml, hown, hts⟩ (c_X9_refuse l dC dI H.size h0 j17_h0_f2 h0_0 h0_f1 j17_h0_f2 h0_f3 g_j17_h0_f2 g_h0_f1 g_j17_h0_f2 g_h0_f3) (cwV 1 hts gf_c_X9_digit_c_X9_refuse rfl rfl rfl mdV_X9_refuse ⟨Nat.le_of_ble_eq_true rfl, Nat.le_of_ble_eq_true rfl⟩) ⟨fun a U g mk q => by obtain ⟨q0, q1, qP, qK, qD⟩ := q; exact ⟨q0, q1, qP, va_K.moved (u := U) (U := U.calling g mk a) (Vm.Alike.refl U.vm) qK, qD⟩, hrv, fun U hU hW => ⟨rfl, by rw [hU], by rw [hU]; exact hPc, va_K.moved hW.alike hKc, hDc.weaken (fun _ _ _ _ => trivial)⟩⟩ rfl rfl hl.1 rfl (lv_room (Nat.le_of_ble_eq_true rfl)) dX9_digit_22 ⟨Nat.le_of_ble_eq_true rfl, Nat.le_of_ble_eq_true rfl⟩) hS (fun q _ h => hFc q h) hFc (fun x_2 t H1 locs ht hvm hw hB hz1 hk1 hS => ?_)
    obtain ⟨hP1, hK1, hD1⟩ := hB
    rw [ht] at hP1
    obtain ⟨hP, hD⟩ := cl_put (w1 := (wd_c_X9_refuse h0 h0_0 h0_f1 j17_h0_f2 x_2)) (nw := (wd_c_X9_digit h0 h0_0 h0_f1 j17_h0_f2 x_2 h0_0 h0_0k h0_0c)) hP hD [0] [2, 1] 2 rfl hqc (by decide +kernel) rfl hk1 hFc hP1 hD1
    generalize H1 = H at hP hS ⊢
    as_aux_lemma =>
    rcases hw with ⟨h_3, h_4⟩
    have h_4 : x_2 = _ := h_4
    replace hEX := hEX.trans (exc1_eq h_4)
    refine lv_iconst (v := 0) hx hb dX9_digit_25 kc_iconst_0 ?_
    have hK9 := hK.sub (tys' := []) [] rfl
    exact W.iret (v := 0) hx hb hr (fun t ht hW => ⟨⟨0, (j17_h0_f2, x_2), rfl, ⟨(RG_w (RG_k 0 0 rfl) (by decide +kernel)), g_j17_h0_f2, (RG_w h_3 (by decide +kernel)), (by have := r_h0_f2_j17_h0_f2; show h0_f2.toInt + 0 ≤ j17_h0_f2.toInt; omega), (hR.trans hEX).symm⟩, by rw [ht]; exact hP, va_K.moved hW.alike hK9, hD⟩, hS.F ht⟩) hS.2.2 dX9_digit_26
  refine hG _ _ _ ?_
  refine lv_aload_n hx hb dX9_digit_0 rfl (lv_at hl 0 rfl) ?_
  obtain ⟨hPc, hDc, hFc, hqc⟩ := cl_cut (wc := (wd_c_X9_peek h0 h0_0 h0_f1 h0_f2 h0_f3 h0_0 h0_0k h0_0c)) hP hD hS hA [0, 1] (by decide +kernel) rfl
  have hKc := hK.sub (tys' := [(h0_0k, .int)]) [0] rfl
  have hrv := va_recv hKc hPc (ci := 9) (q0 := 0) rfl rfl
  refine va_calli (va_runV (As := []) (rest := []) ⟨hx, hb, hml, hown, hts⟩ (c_X9_peek l dC dI H.size h0 h0_0 h0_f1 h0_f2 h0_f3 h0_0k h0_0c g_h0_f1 g_h0_f2 g_h0_f3 a_h0_0c) (cwV 0 hts gf_c_X9_digit_c_X9_peek rfl rfl rfl mdV_X9_peek ⟨Nat.le_of_ble_eq_true rfl, Nat.le_of_ble_eq_true rfl⟩) ⟨fun a U g mk q => by obtain ⟨q0, q1, qP, qK, qD⟩ := q; exact ⟨q0, q1, qP, va_K.moved (u := U) (U := U.calling g mk a) (Vm.Alike.refl U.vm) qK, qD⟩, hrv, fun U hU hW => ⟨rfl, by rw [hU], by rw [hU]; exact hPc, va_K.moved hW.alike hKc, hDc.weaken (fun _ _ _ _ => trivial)⟩⟩ rfl rfl hl.1 rfl (lv_room (Nat.le_of_ble_eq_true rfl)) dX9_digit_1 ⟨Nat.le_of_ble_eq_true rfl, Nat.le_of_ble_eq_true rfl⟩) hS (fun q _ h => hFc q h) hFc (fun r_5 x_6 t H1 locs ht hvm hw hB hz1 hk1 hS => ?_)
  obtain ⟨hP1, hK1, hD1⟩ := hB
  rw [ht] at hP1
  obtain ⟨hP, hD⟩ := cl_put (w1 := (wd_c_X9_peek h0 h0_0 h0_f1 x_6 h0_f3 h0_0 h0_0k h0_0c)) (nw := (wd_c_X9_digit h0 h0_0 h0_f1 x_6 h0_f3 h0_0 h0_0k h0_0c)) hP hD [0, 1] [2, 3] 2 rfl hqc (by decide +kernel) rfl hk1 hFc hP1 hD1
  generalize H1 = H at hP hS ⊢
  as_aux_lemma =>
  rcases hw with ⟨h_7, h_8, h_9, h_10⟩ | ⟨h_11, h_12, h_13, h_14, h_15⟩
  · have h_10 : (r_5, x_6) = _ := h_10
    replace hEX := hEX.trans (exc2_eq h_10)
    replace hEX := hEX.trans (if_pos (show r_5 = (-1) from h_7))
    rw [h_7]
    refine lv_istore_n (lv' := [(1, .int (-1)), (0, .ref h0)]) hx hb dX9_digit_4 rfl hl (Nat.le_of_ble_eq_true rfl) rfl (fun ls hl => ?_)
    refine lv_iload_n hx hb dX9_digit_5 rfl (lv_at hl 0 rfl) ?_
    refine lv_bipush (v := 48) hx hb dX9_digit_6 kc_bipush_48 ?_
    refine lv_icmp_lt (tgt := 17) hx hb dX9_digit_8 rfl (fun c_16 => ?_) (fun c_16 => absurd c_16 (by decide +kernel))
    exact hU _ _ _ (J17 x_6 g_h0_f1 g_h0_f2 g_h0_f3 h_8 (by have := h_9; omega) hEX _ _ _ hP hD hS (lv_sub hl [1] rfl))
  · have h_15 : (r_5, x_6) = _ := h_15
    replace hEX := hEX.trans (exc2_eq h_15)
    replace hEX := hEX.trans (if_neg (RG_neq (x := r_5) (c := (-1)) (show RG r_5 0 255 from h_11) (by decide +kernel)))
    refine lv_istore_n (lv' := [(1, .int r_5), (0, .ref h0)]) hx hb dX9_digit_4 rfl hl (Nat.le_of_ble_eq_true rfl) rfl (fun ls hl => ?_)
    as_aux_lemma =>
    refine lv_iload_n hx hb dX9_digit_5 rfl (lv_at hl 0 rfl) ?_
    refine lv_bipush (v := 48) hx hb dX9_digit_6 kc_bipush_48 ?_
    refine lv_icmp_lt (tgt := 17) hx hb dX9_digit_8 rfl (fun c_17 => ?_) (fun c_17 => ?_)
    · replace hEX := hEX.trans (if_pos c_17)
      have g_18 : RG r_5 0 47 := RG_lt1 h_11 (RG_k 48 48 rfl) c_17 (by decide +kernel)
      exact hU _ _ _ (J17 x_6 (RG_w h_13 (by decide +kernel)) g_h0_f2 g_h0_f3 (RG_w h_12 (by decide +kernel)) (by have := h_14; omega) hEX _ _ _ hP hD hS (lv_sub hl [1] rfl))
    · replace hEX := hEX.trans (if_neg c_17)
      have d_19 := Int32.not_lt.mp c_17
      have g_20 : RG r_5 48 255 := RG_le2 (RG_k 48 48 rfl) h_11 d_19 (by decide +kernel)
      refine lv_iload_n hx hb dX9_digit_11 rfl (lv_at hl 0 rfl) ?_
      refine lv_bipush (v := 57) hx hb dX9_digit_12 kc_bipush_57 ?_
      refine lv_icmp_le (tgt := 27) hx hb dX9_digit_14 rfl (fun c_21 => ?_) (fun c_21 => ?_)
      · replace hEX := hEX.trans (if_pos c_21)
        have g_22 : RG r_5 48 57 := RG_le1 g_20 (RG_k 57 57 rfl) c_21 (by decide +kernel)
        refine lv_aload_n hx hb dX9_digit_27 rfl (lv_at hl 1 rfl) ?_
        as_aux_lemma =>
        refine lv_dup hx hb dX9_digit_28 rfl ?_
        refine va_get (D := (dC, dI)) (ci := 9) (v := .int x_6) (C := RX9) (T := TX9) (N := 4) hx hb hts iw_c_X9_digit_X9 hown hK hP 0 rfl rfl 2 (by decide +kernel) (hts (.fieldLink RX9 22 "BuoyVote$Tape" "at" "I") (List.mem_of_getElem? (i := 6) rfl)) (fun _ h9 => h9) rfl dX9_digit_29 ?_
        refine lv_iconst (v := 1) hx hb dX9_digit_32 kc_iconst_1 ?_
        refine lv_iadd hx hb dX9_digit_33 ?_
        refine lv_topi (fun x_23 ex_23 => ?_)
        replace hEX := hEX.trans (exl_eq ex_23)
        have g_24 : RG x_23 1 240 := RG_add ex_23 h_12 (RG_k 1 1 rfl) (by decide +kernel)
        have q_25 : x_23.toInt = x_6.toInt + 1 := eq_add ex_23 h_12 (q := 1) rfl (by decide +kernel)
        refine va_put (D := (dC, dI)) (ci := 9) (v := .int x_23) (ty := .int) (C := RX9) (T := TX9) (N := 4) hx hb hts iw_c_X9_digit_X9 tyX9 tyX9_ok nmX9 hown hK hP hD hS 0 rfl rfl 2 (by decide +kernel) (hts (.fieldLink RX9 22 "BuoyVote$Tape" "at" "I") (List.mem_of_getElem? (i := 6) rfl)) (fun _ h9 => h9) rfl (by decide +kernel) rfl rfl (Nat.le_of_ble_eq_true rfl) dX9_digit_34 (fun H locs hP hD hS => ?_)
        have hP : va_P (dC, dI) vwCl (wd_c_X9_digit h0 h0_0 h0_f1 x_23 h0_f3 h0_0 h0_0k h0_0c) H := hP
        have hD : va_D A (wd_c_X9_digit h0 h0_0 h0_f1 x_23 h0_f3 h0_0 h0_0k h0_0c) := hD
        refine lv_iload_n hx hb dX9_digit_37 rfl (lv_at hl 0 rfl) ?_
        refine lv_bipush (v := 48) hx hb dX9_digit_38 kc_bipush_48 ?_
        refine lv_isub hx hb dX9_digit_40 ?_
        as_aux_lemma =>
        refine lv_topi (fun x_26 ex_26 => ?_)
        replace hEX := hEX.trans (exl_eq ex_26)
        have g_27 : RG x_26 0 9 := RG_sub ex_26 g_22 (RG_k 48 48 rfl) (by decide +kernel)
        have hK9 := hK.sub (tys' := []) [] rfl
        exact W.iret (v := x_26) hx hb hr (fun t ht hW => ⟨⟨x_26, (x_23, h0_f3), rfl, ⟨g_27, (RG_w g_24 (by decide +kernel)), g_h0_f3, (by have := h_14; have := q_25; show h0_f2.toInt + 0 ≤ x_23.toInt; omega), (hR.trans hEX).symm⟩, by rw [ht]; exact hP, va_K.moved hW.alike hK9, hD⟩, hS.F ht⟩) hS.2.2 dX9_digit_41
      · replace hEX := hEX.trans (if_neg c_21)
        have d_28 := Int32.not_le.mp c_21
        have g_29 : RG r_5 58 255 := RG_lt2 (RG_k 57 57 rfl) g_20 d_28 (by decide +kernel)
        exact hU _ _ _ (J17 x_6 (RG_w h_13 (by decide +kernel)) g_h0_f2 g_h0_f3 (RG_w h_12 (by decide +kernel)) (by have := h_14; omega) hEX _ _ _ hP hD hS (lv_sub hl [1] rfl))
noncomputable def wd_c_X6_readStep (a0 : Nat) (a1 : Nat) (a2 : Int32) (a3 : Int32) (a4 : Int32) (a5 : Nat) (a6 : ClassId) (a7 : Nat → Int32) (a8 : Nat) (a9 : Nat) (a10 : Int32) (a11 : Nat) (a12 : ClassId) (a13 : Nat → Int32) : va_W := [(a0, .inr (9, [.ref a1, .int a2, .int a3, .int a4])), (a5, .inl (a6, 240, .inl a7)), (a8, .inr (6, [.ref a9, .int a10])), (a11, .inl (a12, 64, .inl a13))]
noncomputable def wf_c_X6_readStep : List Cond := List.cons (.code yX6_readStep cX6_readStep 6 none) (@HAppend.hAppend (List Cond) (List Cond) (List Cond) _ (@HAppend.hAppend (List Cond) (List Cond) (List Cond) _ [.methodLink RX6 39 yX9_peek, .instanceMethod yX9_peek, .selects RX9 yX9_peek yX9_peek, .initialized RX9, .code yX9_peek cX9_peek 1 (some .int), .fieldLink RX9 22 "BuoyVote$Tape" "at" "I", .fieldLink RX9 19 "BuoyVote$Tape" "length" "I", .fieldLink RX9 11 "BuoyVote$Tape" "bytes" "[I", .methodLink RX6 44 yJ0_indexOf_0f7a4, .instanceMethod yJ0_indexOf_0f7a4, .selects RJ0 yJ0_indexOf_0f7a4 yJ0_indexOf_0f7a4, .initialized RJ0, .code yJ0_indexOf_0f7a4 cJ0_indexOf_0f7a4 2 (some .int), .methodLink RJ0 633 yJ0_indexOf_7cf53, .instanceMethod yJ0_indexOf_7cf53, .selects RJ0 yJ0_indexOf_7cf53 yJ0_indexOf_7cf53, .code yJ0_indexOf_7cf53 cJ0_indexOf_7cf53 3 (some .int), .methodLink RJ0 492 yJ0_isLatin1_aae02, .instanceMethod yJ0_isLatin1_aae02, .selects RJ0 yJ0_isLatin1_aae02 yJ0_isLatin1_aae02, .code yJ0_isLatin1_aae02 cJ0_isLatin1_aae02 1 (some .boolean), .fieldLink RJ0 38 "java/lang/String" "COMPACT_STRINGS" "Z", .fieldLink RJ0 15 "java/lang/String" "coder" "B", .fieldLink RJ0 9 "java/lang/String" "value" "[B", .methodLink RJ0 505 yJ0_length_8abf5, .instanceMethod yJ0_length_8abf5, .selects RJ0 yJ0_length_8abf5 yJ0_length_8abf5, .code yJ0_length_8abf5 cJ0_length_8abf5 1 (some .int), .methodLink RJ0 335 yJ0_coder_7d493, .instanceMethod yJ0_coder_7d493, .selects RJ0 yJ0_coder_7d493 yJ0_coder_7d493, .code yJ0_coder_7d493 cJ0_coder_7d493 1 (some .byte), .methodLink RJ0 637 yJ1_indexOf_4cfef, .static yJ1_indexOf_4cfef, .initialized RJ1, .code yJ1_indexOf_4cfef cJ1_indexOf_4cfef 4 (some .int), .methodLink RJ1 88 yJ1_canEncode_9a6ad, .static yJ1_canEncode_9a6ad, .code yJ1_canEncode_9a6ad cJ1_canEncode_9a6ad 1 (some .boolean), .methodLink RJ1 92 Lib.Math.max.name, .static Lib.Math.max.name, .initialized "java/lang/Math", .code Lib.Math.max.name Lib.Math.max.code 2 (some .int), .methodLink RJ1 38 Lib.Math.min.name, .static Lib.Math.min.name, .code Lib.Math.min.name Lib.Math.min.code 2 (some .int), .methodLink RJ1 95 yJ1_indexOfChar_4cfef, .static yJ1_indexOfChar_4cfef, .code yJ1_indexOfChar_4cfef cJ1_indexOfChar_4cfef 6 (some .int), .methodLink RX6 50 yX9_refuseHere, .instanceMethod yX9_refuseHere, .selects RX9 yX9_refuseHere yX9_refuseHere, .code yX9_refuseHere cX9_refuseHere 1 none, .methodLink RX9 25 yX9_refuse, .instanceMethod yX9_refuse, .selects RX9 yX9_refuse yX9_refuse, .code yX9_refuse cX9_refuse 2 none, .fieldLink RX9 15 "BuoyVote$Tape" "wrong" "I", .methodLink RX6 53 yX9_skip, .instanceMethod yX9_skip, .selects RX9 yX9_skip yX9_skip, .code yX9_skip cX9_skip 1 none, .fieldLink RX6 11 "BuoyVote$Plan" "cells" "[I", .fieldLink RX6 56 "BuoyVote$Plan" "DIGITS" "[I", .methodLink RX6 59 yX9_isRight, .instanceMethod yX9_isRight, .selects RX9 yX9_isRight yX9_isRight, .code yX9_isRight cX9_isRight 1 (some .boolean), .methodLink RX6 63 yX9_digit, .instanceMethod yX9_digit, .selects RX9 yX9_digit yX9_digit, .code yX9_digit cX9_digit 2 (some .int), .methodLink RX9 29 yX9_peek, .fieldLink RX6 15 "BuoyVote$Plan" "steps" "I"] wsX90) wsX60)
theorem iw_c_X6_readStep_X9 : ∀ w ∈ wsX90, w ∈ wf_c_X6_readStep := fun w h => List.mem_cons_of_mem _ (List.mem_append_left _ (List.mem_append_right _ h))
theorem iw_c_X6_readStep_X6 : ∀ w ∈ wsX60, w ∈ wf_c_X6_readStep := fun w h => List.mem_cons_of_mem _ (List.mem_append_right _ h)
set_option maxRecDepth 20000 in
theorem gf_c_X6_readStep_c_X9_refuseHere : GoodIn wf_c_X6_readStep (wsV RX6 50 RX9 yX9_refuseHere wf_c_X9_refuseHere) := goodIn_app (gi_l [50, 51, 52, 4] rfl rfl) (gi_cons (j := 53) rfl rfl (goodIn_app (gi_l [6, 54, 55, 56, 4, 57, 58] rfl rfl) (goodIn_sub iw_c_X6_readStep_X9 gw_X9)))
set_option maxRecDepth 20000 in
theorem gf_c_X6_readStep_c_X9_isRight : GoodIn wf_c_X6_readStep (wsV RX6 59 RX9 yX9_isRight wf_c_X9_isRight) := goodIn_app (gi_l [65, 66, 67, 4] rfl rfl) (gi_cons (j := 68) rfl rfl (goodIn_app (gi_l [58] rfl rfl) (goodIn_sub iw_c_X6_readStep_X9 gw_X9)))
set_option maxRecDepth 20000 in
theorem gf_c_X6_readStep_c_X9_digit : GoodIn wf_c_X6_readStep (wsV RX6 63 RX9 yX9_digit wf_c_X9_digit) := goodIn_app (gi_l [69, 70, 71, 4] rfl rfl) (gi_cons (j := 72) rfl rfl (goodIn_app (gi_l [73, 2, 3, 4, 5, 6, 7, 8, 54, 55, 56, 57, 58] rfl rfl) (goodIn_sub iw_c_X6_readStep_X9 gw_X9)))
set_option maxRecDepth 20000 in
theorem gf_c_X6_readStep_c_X9_skip : GoodIn wf_c_X6_readStep (wsV RX6 53 RX9 yX9_skip wf_c_X9_skip) := goodIn_app (gi_l [59, 60, 61, 4] rfl rfl) (gi_cons (j := 62) rfl rfl (goodIn_app (gi_l [6] rfl rfl) (goodIn_sub iw_c_X6_readStep_X9 gw_X9)))
set_option maxRecDepth 20000 in
theorem gf_c_X6_readStep_c_X9_peek : GoodIn wf_c_X6_readStep (wsV RX6 39 RX9 yX9_peek wf_c_X9_peek) := goodIn_app (gi_l [1, 2, 3, 4] rfl rfl) (gi_cons (j := 5) rfl rfl (goodIn_app (gi_l [6, 7, 8] rfl rfl) (goodIn_sub iw_c_X6_readStep_X9 gw_X9)))
set_option maxRecDepth 20000 in
theorem gf_c_X6_readStep_c_J0_indexOf_0f7a4_5 : GoodIn wf_c_X6_readStep (wsV RX6 44 RJ0 yJ0_indexOf_0f7a4 wf_c_J0_indexOf_0f7a4_5) := goodIn_app (gi_l [9, 10, 11, 12] rfl rfl) (gi_cons (j := 13) rfl rfl (gi_l [14, 15, 16, 12, 17, 18, 19, 20, 21, 22, 23, 24, 25, 26, 27, 28, 29, 30, 31, 32, 33, 34, 35, 36, 37, 38, 39, 40, 41, 42, 43, 44, 45, 46, 47, 48, 49] rfl rfl))
set_option maxHeartbeats 4000000 in
set_option maxRecDepth 100000 in
theorem c_X6_readStep (l : Launch) (dC : Nat → ClassId) (dI : Nat → Nat → Nat) (sz : Nat) (h0 : Nat) (h1 : Nat) (p2 : Int32) (h1_0 : Nat) (h1_f1 : Int32) (h1_f2 : Int32) (h1_f3 : Int32) (h1_0k : ClassId) (h1_0c : Nat → Int32) (h0_0 : Nat) (h0_f1 : Int32) (h0_0k : ClassId) (h0_0c : Nat → Int32) (ts5 : Nat) (tv5 : Nat) (ta4 : Nat) (g_p2 : RG p2 0 15) (g_h1_f1 : RG h1_f1 0 240) (g_h1_f2 : RG h1_f2 0 240) (g_h1_f3 : RG h1_f3 (-1) 240) (a_h1_0c : AI h1_0c 0 255) (g_h0_f1 : RG h0_f1 0 16) (a_h0_0c : AI h0_0c (-1) 9) : Met l yX6_readStep wf_c_X6_readStep ({ frames := 4, cells := 0, slots := 0, locals := 91 }) (va_Pc [.ref h0, .ref h1, .int p2] (fun U => U.heap.size = sz ∧ va_P (dC, dI) vwCl (wd_c_X6_readStep h1 h1_0 h1_f1 h1_f2 h1_f3 h1_0 h1_0k h1_0c h0 h0_0 h0_f1 h0_0 h0_0k h0_0c) U.heap ∧ va_K (dC, dI) vwCl [(h1_0k, .int), (h0_0k, .int)] U ∧ va_D (fun _ => True) (wd_c_X6_readStep h1 h1_0 h1_f1 h1_f2 h1_f3 h1_0 h1_0k h1_0c h0 h0_0 h0_f1 h0_0 h0_0k h0_0c) ∧ vk_R RX6 42 "gsch" ts5 U ∧ va_Z "java/lang/String" "COMPACT_STRINGS" "Z" (.int 1) (va_A (wd_c_X6_readStep h1 h1_0 h1_f1 h1_f2 h1_f3 h1_0 h1_0k h1_0c h0 h0_0 h0_f1 h0_0 h0_0k h0_0c) sz) U U.heap ∧ va_OF "java/lang/String" "coder" "B" (.int 0) ts5 (va_A (wd_c_X6_readStep h1 h1_0 h1_f1 h1_f2 h1_f3 h1_0 h1_0k h1_0c h0 h0_0 h0_f1 h0_0 h0_0k h0_0c) sz) U U.heap ∧ va_O "java/lang/String" ts5 (va_A (wd_c_X6_readStep h1 h1_0 h1_f1 h1_f2 h1_f3 h1_0 h1_0k h1_0c h0 h0_0 h0_f1 h0_0 h0_0k h0_0c) sz) U U.heap ∧ va_OF "java/lang/String" "value" "[B" (.ref tv5) ts5 (va_A (wd_c_X6_readStep h1 h1_0 h1_f1 h1_f2 h1_f3 h1_0 h1_0k h1_0c h0 h0_0 h0_f1 h0_0 h0_0k h0_0c) sz) U U.heap ∧ va_T .byte tv5 4 (fun j => .int ([103, 115, 99, 104].getD j 0)) (va_A (wd_c_X6_readStep h1 h1_0 h1_f1 h1_f2 h1_f3 h1_0 h1_0k h1_0c h0 h0_0 h0_f1 h0_0 h0_0k h0_0c) sz) U U.heap ∧ va_Z "BuoyVote$Plan" "DIGITS" "[I" (.ref ta4) (va_A (wd_c_X6_readStep h1 h1_0 h1_f1 h1_f2 h1_f3 h1_0 h1_0k h1_0c h0 h0_0 h0_f1 h0_0 h0_0k h0_0c) sz) U U.heap ∧ va_T .int ta4 4 (fun j => .int ([3, 2, 2, 1].getD j 0)) (va_A (wd_c_X6_readStep h1 h1_0 h1_f1 h1_f2 h1_f3 h1_0 h1_0k h1_0c h0 h0_0 h0_f1 h0_0 h0_0k h0_0c) sz) U U.heap)) (va_Qv (fun (u : (Int32) × (Int32) × (Int32) × (Nat → Int32)) => (RG u.1 0 240 ∧ RG u.2.1 (-1) 240 ∧ RG u.2.2.1 0 16 ∧ AI (u.2.2.2) (-1) 9 ∧ (u.1, u.2.1, u.2.2.1, u.2.2.2) = fx_c_X6_readStep p2 h1_f1 h1_f2 h1_f3 h1_0c h0_f1 h0_0c)) (fun (u : (Int32) × (Int32) × (Int32) × (Nat → Int32)) t => va_P (dC, dI) vwCl (wd_c_X6_readStep h1 h1_0 h1_f1 (u.1) (u.2.1) h1_0 h1_0k h1_0c h0 h0_0 (u.2.2.1) h0_0 h0_0k (u.2.2.2)) t.heap ∧ va_K (dC, dI) vwCl [] t ∧ va_D (va_A (wd_c_X6_readStep h1 h1_0 h1_f1 h1_f2 h1_f3 h1_0 h1_0k h1_0c h0 h0_0 h0_f1 h0_0 h0_0k h0_0c) sz) (wd_c_X6_readStep h1 h1_0 h1_f1 (u.1) (u.2.1) h1_0 h1_0k h1_0c h0 h0_0 (u.2.2.1) h0_0 h0_0k (u.2.2.2))) (va_A (wd_c_X6_readStep h1 h1_0 h1_f1 h1_f2 h1_f3 h1_0 h1_0k h1_0c h0 h0_0 h0_f1 h0_0 h0_0k h0_0c) sz)) 0 0 (va_A (wd_c_X6_readStep h1 h1_0 h1_f1 h1_f2 h1_f3 h1_0 h1_0k h1_0c h0 h0_0 h0_f1 h0_0 h0_0k h0_0c) sz) := by
  refine Met.ofW (cc := cX6_readStep) (maxL := 6) (ret := none) (by decide +kernel) rfl ?_
  intro p e s m args below meth c s₁ B hml hv
  obtain ⟨rfl, hsz, hP, hK, hD0, hE_37, hE_10, hE_39, hE_38, hE_40, hE_41, hE_8, hE_9⟩ := hv
  have hx := B.exec
  have hb := B.bytes
  have hr := B.returns
  have hts := atoms_spec (ws := wf_c_X6_readStep) B.pre
  have hown : s.vm.findClass RX6 = some m.cls := findClass_of_methodNamed B.named
  have hlocks := B.notSynchronized
  subst hsz
  have hD := hD0.self (sz := s.heap.size)
  generalize hAe : va_A (wd_c_X6_readStep h1 h1_0 h1_f1 h1_f2 h1_f3 h1_0 h1_0k h1_0c h0 h0_0 h0_f1 h0_0 h0_0k h0_0c) s.heap.size = A at hD hE_10 hE_39 hE_38 hE_40 hE_41 hE_8 hE_9 ⊢
  have hA : ∀ q : Nat, s.heap.size ≤ q → A q := fun q h => by rw [← hAe]; exact Or.inr h
  have hP : va_P (dC, dI) vwCl (wd_c_X6_readStep h1 h1_0 h1_f1 h1_f2 h1_f3 h1_0 h1_0k h1_0c h0 h0_0 h0_f1 h0_0 h0_0k h0_0c) s.heap := hP
  have hl := lv_entry ([.ref h0, .ref h1, .int p2]) (n := 6) (Nat.le_of_ble_eq_true rfl)
  rw [lg_entry_eq]
  generalize (lg_sl ([.ref h0, .ref h1, .int p2]) ++ List.replicate (6 - (lg_sl ([.ref h0, .ref h1, .int p2])).length) Slot.unset).toArray = ls at hl ⊢
  have hl : lv_has ls 6 [(0, .ref h0), (1, .ref h1), (2, .int p2)] := hl
  obtain ⟨H, hHe⟩ : ∃ H : Heap, s.heap = H := ⟨_, rfl⟩
  have hS : va_S A s.heap H [] := by rw [hHe]; exact va_S.rf
  have hP : va_P (dC, dI) vwCl (wd_c_X6_readStep h1 h1_0 h1_f1 h1_f2 h1_f3 h1_0 h1_0k h1_0c h0 h0_0 h0_f1 h0_0 h0_0k h0_0c) H := by rw [← hHe]; exact hP
  rw [hHe]
  obtain ⟨RES, hR⟩ : ∃ z, fx_c_X6_readStep p2 h1_f1 h1_f2 h1_f3 h1_0c h0_f1 h0_0c = z := ⟨_, rfl⟩
  have hEX : RES = fx_c_X6_readStep p2 h1_f1 h1_f2 h1_f3 h1_0c h0_f1 h0_0c := hR.symm
  refine wj (fun G hG hU => ?_)
  as_aux_lemma =>
  have J20 : ∀ (j20_h1_f2 : Int32) (g_h0_f1 : RG h0_f1 0 16) (g_h1_f1 : RG h1_f1 0 240) (g_h1_f2 : RG h1_f2 0 240) (g_h1_f3 : RG h1_f3 (-1) 240) (g_j20_h1_f2 : RG j20_h1_f2 0 240) (g_p2 : RG p2 0 15) (hEX : RES = fx_c_X6_readStep_p20 h1_f3 h0_f1 h0_0c j20_h1_f2) (H : Heap) (locs : List Loc) (ls : Array Slot) (hP : va_P (dC, dI) vwCl (wd_c_X6_readStep h1 h1_0 h1_f1 j20_h1_f2 h1_f3 h1_0 h1_0k h1_0c h0 h0_0 h0_f1 h0_0 h0_0k h0_0c) H) (hD : va_D A (wd_c_X6_readStep h1 h1_0 h1_f1 j20_h1_f2 h1_f3 h1_0 h1_0k h1_0c h0 h0_0 h0_f1 h0_0 h0_0k h0_0c)) (hS : va_S A s.heap H locs) (hl : lv_has ls 6 [(0, .ref h0), (1, .ref h1), (2, .int p2)]), G H locs (F0 m 20 ls [.int (-1)]) := by
    as_aux_lemma =>
    intro j20_h1_f2 g_h0_f1 g_h1_f1 g_h1_f2 g_h1_f3 g_j20_h1_f2 g_p2 hEX H locs ls hP hD hS hl
    refine hG _ _ _ ?_
    refine lv_istore (lv' := [(4, .int (-1)), (0, .ref h0), (1, .ref h1), (2, .int p2)]) hx hb dX6_readStep_20 hl (Nat.le_of_ble_eq_true rfl) rfl (fun ls hl => ?_)
    refine lv_iload hx hb dX6_readStep_22 (lv_at hl 0 rfl) ?_
    refine lv_if_ge (tgt := 32) hx hb dX6_readStep_24 rfl (fun c_1 => absurd c_1 (by decide +kernel)) (fun c_1 => ?_)
    refine lv_aload_n hx hb dX6_readStep_27 rfl (lv_at hl 2 rfl) ?_
    obtain ⟨hPc, hDc, hFc, hqc⟩ := cl_cut (wc := (wd_c_X9_refuseHere h1 h1_0 h1_f1 j20_h1_f2 h1_f3)) hP hD hS hA [0] (by decide +kernel) rfl
    have hKc := hK.sub (tys' := []) [] rfl
    have hrv := va_recv hKc hPc (ci := 9) (q0 := 0) rfl rfl
    refine va_callv (va_runV (As := []) (rest := []) ⟨hx, hb, hml, hown, hts⟩ (c_X9_refuseHere l dC dI H.size h1 h1_0 h1_f1 j20_h1_f2 h1_f3 g_h1_f1 g_j20_h1_f2 g_h1_f3) (cwV 0 hts gf_c_X6_readStep_c_X9_refuseHere rfl rfl rfl mdV_X9_refuseHere ⟨Nat.le_of_ble_eq_true rfl, Nat.le_of_ble_eq_true rfl⟩) ⟨fun a U g mk q => by obtain ⟨q0, q1, qP, qK, qD⟩ := q; exact ⟨q0, q1, qP, va_K.moved (u := U) (U := U.calling g mk a) (Vm.Alike.refl U.vm) qK, qD⟩, hrv, fun U hU hW => ⟨rfl, by rw [hU], by rw [hU]; exact hPc, va_K.moved hW.alike hKc, hDc.weaken (fun _ _ _ _ => trivial)⟩⟩ rfl rfl hl.1 rfl (lv_room (Nat.le_of_ble_eq_true rfl)) dX6_readStep_28 ⟨Nat.le_of_ble_eq_true rfl, Nat.le_of_ble_eq_true rfl⟩) hS (fun q _ h => hFc q h) hFc (fun x_3 t H1 locs ht hvm hw hB hz1 hk1 hS => ?_)
    obtain ⟨hP1, hK1, hD1⟩ := hB
    rw [ht] at hP1
    obtain ⟨hP, hD⟩ := cl_put (w1 := (wd_c_X9_refuseHere h1 h1_0 h1_f1 j20_h1_f2 x_3)) (nw := (wd_c_X6_readStep h1 h1_0 h1_f1 j20_h1_f2 x_3 h1_0 h1_0k h1_0c h0 h0_0 h0_f1 h0_0 h0_0k h0_0c)) hP hD [0] [4, 1, 2, 3] 4 rfl hqc (by decide +kernel) rfl hk1 hFc hP1 hD1
    generalize H1 = H at hP hS ⊢
    as_aux_lemma =>
    rcases hw with ⟨h_4, h_5⟩
    have h_5 : x_3 = _ := h_5
    replace hEX := hEX.trans (exc1_eq h_5)
    have hK9 := hK.sub (tys' := []) [] rfl
    exact W.vret hx hb hr (fun t ht hW => ⟨⟨(j20_h1_f2, x_3, h0_f1, h0_0c), rfl, ⟨g_j20_h1_f2, (RG_w h_4 (by decide +kernel)), g_h0_f1, a_h0_0c, (hR.trans hEX).symm⟩, by rw [ht]; exact hP, va_K.moved hW.alike hK9, hD⟩, hS.F ht⟩) hS.2.2 dX6_readStep_31
  have J20b : ∀ (j20b_h1_f2 : Int32) (g_h0_f1 : RG h0_f1 0 16) (g_h1_f1 : RG h1_f1 1 240) (g_h1_f2 : RG h1_f2 0 240) (g_h1_f3 : RG h1_f3 (-1) 240) (g_j20b_h1_f2 : RG j20b_h1_f2 0 239) (g_p2 : RG p2 0 15) (hEX : RES = fx_c_X6_readStep_p20b h1_f3 h0_f1 h0_0c j20b_h1_f2) (H : Heap) (locs : List Loc) (ls : Array Slot) (hP : va_P (dC, dI) vwCl (wd_c_X6_readStep h1 h1_0 h1_f1 j20b_h1_f2 h1_f3 h1_0 h1_0k h1_0c h0 h0_0 h0_f1 h0_0 h0_0k h0_0c) H) (hD : va_D A (wd_c_X6_readStep h1 h1_0 h1_f1 j20b_h1_f2 h1_f3 h1_0 h1_0k h1_0c h0 h0_0 h0_f1 h0_0 h0_0k h0_0c)) (hS : va_S A s.heap H locs) (hl : lv_has ls 6 [(0, .ref h0), (1, .ref h1), (2, .int p2)]), G H locs (F0 m 20 ls [.int (-1)]) := by
    as_aux_lemma =>
    intro j20b_h1_f2 g_h0_f1 g_h1_f1 g_h1_f2 g_h1_f3 g_j20b_h1_f2 g_p2 hEX H locs ls hP hD hS hl
    refine hG _ _ _ ?_
    refine lv_istore (lv' := [(4, .int (-1)), (0, .ref h0), (1, .ref h1), (2, .int p2)]) hx hb dX6_readStep_20 hl (Nat.le_of_ble_eq_true rfl) rfl (fun ls hl => ?_)
    refine lv_iload hx hb dX6_readStep_22 (lv_at hl 0 rfl) ?_
    refine lv_if_ge (tgt := 32) hx hb dX6_readStep_24 rfl (fun c_6 => absurd c_6 (by decide +kernel)) (fun c_6 => ?_)
    refine lv_aload_n hx hb dX6_readStep_27 rfl (lv_at hl 2 rfl) ?_
    obtain ⟨hPc, hDc, hFc, hqc⟩ := cl_cut (wc := (wd_c_X9_refuseHere h1 h1_0 h1_f1 j20b_h1_f2 h1_f3)) hP hD hS hA [0] (by decide +kernel) rfl
    have hKc := hK.sub (tys' := []) [] rfl
    have hrv := va_recv hKc hPc (ci := 9) (q0 := 0) rfl rfl
    refine va_callv (va_runV (As := []) (rest := []) ⟨hx, hb, hml, hown, hts⟩ (c_X9_refuseHere l dC dI H.size h1 h1_0 h1_f1 j20b_h1_f2 h1_f3 (RG_w g_h1_f1 (by decide +kernel)) (RG_w g_j20b_h1_f2 (by decide +kernel)) g_h1_f3) (cwV 0 hts gf_c_X6_readStep_c_X9_refuseHere rfl rfl rfl mdV_X9_refuseHere ⟨Nat.le_of_ble_eq_true rfl, Nat.le_of_ble_eq_true rfl⟩) ⟨fun a U g mk q => by obtain ⟨q0, q1, qP, qK, qD⟩ := q; exact ⟨q0, q1, qP, va_K.moved (u := U) (U := U.calling g mk a) (Vm.Alike.refl U.vm) qK, qD⟩, hrv, fun U hU hW => ⟨rfl, by rw [hU], by rw [hU]; exact hPc, va_K.moved hW.alike hKc, hDc.weaken (fun _ _ _ _ => trivial)⟩⟩ rfl rfl hl.1 rfl (lv_room (Nat.le_of_ble_eq_true rfl)) dX6_readStep_28 ⟨Nat.le_of_ble_eq_true rfl, Nat.le_of_ble_eq_true rfl⟩) hS (fun q _ h => hFc q h) hFc (fun x_8 t H1 locs ht hvm hw hB hz1 hk1 hS => ?_)
    obtain ⟨hP1, hK1, hD1⟩ := hB
    rw [ht] at hP1
    obtain ⟨hP, hD⟩ := cl_put (w1 := (wd_c_X9_refuseHere h1 h1_0 h1_f1 j20b_h1_f2 x_8)) (nw := (wd_c_X6_readStep h1 h1_0 h1_f1 j20b_h1_f2 x_8 h1_0 h1_0k h1_0c h0 h0_0 h0_f1 h0_0 h0_0k h0_0c)) hP hD [0] [4, 1, 2, 3] 4 rfl hqc (by decide +kernel) rfl hk1 hFc hP1 hD1
    generalize H1 = H at hP hS ⊢
    as_aux_lemma =>
    rcases hw with ⟨h_9, h_10⟩
    have h_10 : x_8 = _ := h_10
    replace hEX := hEX.trans (exc1_eq h_10)
    have hK9 := hK.sub (tys' := []) [] rfl
    exact W.vret hx hb hr (fun t ht hW => ⟨⟨(j20b_h1_f2, x_8, h0_f1, h0_0c), rfl, ⟨(RG_w g_j20b_h1_f2 (by decide +kernel)), (RG_w h_9 (by decide +kernel)), g_h0_f1, a_h0_0c, (hR.trans hEX).symm⟩, by rw [ht]; exact hP, va_K.moved hW.alike hK9, hD⟩, hS.F ht⟩) hS.2.2 dX6_readStep_31
  have J49 : ∀ (n49 : Nat) (j49_l5 : Int32) (j49_l4 : Int32) (j49_h1_f2 : Int32) (j49_h1_f3 : Int32) (j49_h0_0c : Nat → Int32) (hM49 : MU j49_l5 < n49) (g_h0_f1 : RG h0_f1 0 16) (g_h1_f1 : RG h1_f1 1 240) (g_h1_f2 : RG h1_f2 0 240) (g_h1_f3 : RG h1_f3 (-1) 240) (g_j49_h1_f2 : RG j49_h1_f2 0 240) (g_j49_h1_f3 : RG j49_h1_f3 (-1) 240) (g_j49_l4 : RG j49_l4 0 3) (g_j49_l5 : RG j49_l5 1 4) (g_p2 : RG p2 0 15) (a_j49_h0_0c : AI j49_h0_0c (-1) 9) (hEX : RES = fx_c_X6_readStep_p49 p2 h1_f1 h1_0c n49 j49_l5 j49_l4 j49_h1_f2 j49_h1_f3 j49_h0_0c) (H : Heap) (locs : List Loc) (ls : Array Slot) (hP : va_P (dC, dI) vwCl (wd_c_X6_readStep h1 h1_0 h1_f1 j49_h1_f2 j49_h1_f3 h1_0 h1_0k h1_0c h0 h0_0 h0_f1 h0_0 h0_0k j49_h0_0c) H) (hD : va_D A (wd_c_X6_readStep h1 h1_0 h1_f1 j49_h1_f2 j49_h1_f3 h1_0 h1_0k h1_0c h0 h0_0 h0_f1 h0_0 h0_0k j49_h0_0c)) (hS : va_S A s.heap H locs) (hl : lv_has ls 6 [(5, .int j49_l5), (4, .int j49_l4), (0, .ref h0), (1, .ref h1), (2, .int p2)]), G H locs (F0 m 49 ls []) := by
    as_aux_lemma =>
    intro n49
    induction n49 with
    | zero => intros; exact absurd (by assumption) (Nat.not_lt_zero _)
    | succ n49 ih49 =>
      intro j49_l5 j49_l4 j49_h1_f2 j49_h1_f3 j49_h0_0c hM49 g_h0_f1 g_h1_f1 g_h1_f2 g_h1_f3 g_j49_h1_f2 g_j49_h1_f3 g_j49_l4 g_j49_l5 g_p2 a_j49_h0_0c hEX H locs ls hP hD hS hl
      have J91b : ∀ (j91b_s1 : Int32) (g_h0_f1 : RG h0_f1 0 16) (g_h1_f1 : RG h1_f1 1 240) (g_h1_f2 : RG h1_f2 0 240) (g_h1_f3 : RG h1_f3 (-1) 240) (g_j49_h1_f2 : RG j49_h1_f2 0 240) (g_j49_h1_f3 : RG j49_h1_f3 (-1) 240) (g_j49_l4 : RG j49_l4 0 3) (g_j49_l5 : RG j49_l5 1 3) (g_j91b_s1 : RG j91b_s1 1 63) (g_p2 : RG p2 0 15) (hEX : RES = fx_c_X6_readStep_p91b j49_l5 j49_l4 j49_h1_f2 j49_h1_f3 j49_h0_0c (fx_c_X6_readStep_p49 p2 h1_f1 h1_0c n49) j91b_s1) (H : Heap) (locs : List Loc) (ls : Array Slot) (hP : va_P (dC, dI) vwCl (wd_c_X6_readStep h1 h1_0 h1_f1 j49_h1_f2 j49_h1_f3 h1_0 h1_0k h1_0c h0 h0_0 h0_f1 h0_0 h0_0k j49_h0_0c) H) (hD : va_D A (wd_c_X6_readStep h1 h1_0 h1_f1 j49_h1_f2 j49_h1_f3 h1_0 h1_0k h1_0c h0 h0_0 h0_f1 h0_0 h0_0k j49_h0_0c)) (hS : va_S A s.heap H locs) (hl : lv_has ls 6 [(5, .int j49_l5), (4, .int j49_l4), (0, .ref h0), (1, .ref h1), (2, .int p2)]), G H locs (F0 m 91 ls [.int (-1), .int j91b_s1, .ref h0_0]) := by
        as_aux_lemma =>
        intro j91b_s1 g_h0_f1 g_h1_f1 g_h1_f2 g_h1_f3 g_j49_h1_f2 g_j49_h1_f3 g_j49_l4 g_j49_l5 g_j91b_s1 g_p2 hEX H locs ls hP hD hS hl
        refine hG _ _ _ ?_
        refine va_iast hx hb hK hP hD hS 3 1 rfl rfl (RG_in g_j91b_s1 (by decide +kernel)) dX6_readStep_91 (fun H locs hP hD hS => ?_)
        have hP : va_P (dC, dI) vwCl (wd_c_X6_readStep h1 h1_0 h1_f1 j49_h1_f2 j49_h1_f3 h1_0 h1_0k h1_0c h0 h0_0 h0_f1 h0_0 h0_0k (upd j49_h0_0c (j91b_s1 : Int32).toNatClampNeg (-1))) H := hP
        have hD : va_D A (wd_c_X6_readStep h1 h1_0 h1_f1 j49_h1_f2 j49_h1_f3 h1_0 h1_0k h1_0c h0 h0_0 h0_f1 h0_0 h0_0k (upd j49_h0_0c (j91b_s1 : Int32).toNatClampNeg (-1))) := hD
        have l_12 : (upd j49_h0_0c (j91b_s1 : Int32).toNatClampNeg (-1)) (j91b_s1 : Int32).toNatClampNeg = (-1) := pk_us
        have a_13 : AI (upd j49_h0_0c (j91b_s1 : Int32).toNatClampNeg (-1)) (-1) 9 := AI_up a_j49_h0_0c (RG_k (-1) (-1) rfl) (by decide +kernel)
        generalize huw_11 : (upd j49_h0_0c (j91b_s1 : Int32).toNatClampNeg (-1)) = w_11 at hP hD a_13 l_12
        replace hEX := hEX.trans (exl_eq huw_11.symm)
        have hP : va_P (dC, dI) vwCl (wd_c_X6_readStep h1 h1_0 h1_f1 j49_h1_f2 j49_h1_f3 h1_0 h1_0k h1_0c h0 h0_0 h0_f1 h0_0 h0_0k w_11) H := hP
        have hD : va_D A (wd_c_X6_readStep h1 h1_0 h1_f1 j49_h1_f2 j49_h1_f3 h1_0 h1_0k h1_0c h0 h0_0 h0_f1 h0_0 h0_0k w_11) := hD
        obtain ⟨x_14, ex_14⟩ : ∃ y : Int32, y = j49_l5 + 1 := ⟨_, rfl⟩
        have g_15 : RG x_14 2 4 := RG_add ex_14 g_j49_l5 (RG_k 1 1 rfl) (by decide +kernel)
        replace hEX := hEX.trans (exl_eq ex_14)
        refine lv_iinc (v := x_14) (lv' := [(5, .int x_14), (4, .int j49_l4), (0, .ref h0), (1, .ref h1), (2, .int p2)]) hx hb dX6_readStep_92 hl (k := 0) rfl (by rw [ex_14]; rfl) (Nat.le_of_ble_eq_true rfl) rfl (fun ls hl => ?_)
        as_aux_lemma =>
        refine lv_goto (tgt := 49) hx hb dX6_readStep_95 rfl ?_
        exact hU _ _ _ (ih49 x_14 j49_l4 j49_h1_f2 j49_h1_f3 w_11 (mu_s (MU_add ex_14 g_j49_l5 (q := 1) rfl (by decide +kernel)) hM49) g_h0_f1 g_h1_f1 g_h1_f2 g_h1_f3 g_j49_h1_f2 g_j49_h1_f3 g_j49_l4 (RG_w g_15 (by decide +kernel)) g_p2 a_13 hEX _ _ _ hP hD hS (lv_sub hl [0, 1, 2, 3, 4] rfl))
      have J90 : ∀ (j90_s1 : Int32) (g_h0_f1 : RG h0_f1 0 16) (g_h1_f1 : RG h1_f1 1 240) (g_h1_f2 : RG h1_f2 0 240) (g_h1_f3 : RG h1_f3 (-1) 240) (g_j49_h1_f2 : RG j49_h1_f2 0 240) (g_j49_h1_f3 : RG j49_h1_f3 (-1) 240) (g_j49_l4 : RG j49_l4 0 3) (g_j49_l5 : RG j49_l5 1 3) (g_j90_s1 : RG j90_s1 1 63) (g_p2 : RG p2 0 15) (hEX : RES = fx_c_X6_readStep_p90 j49_l5 j49_l4 j49_h1_f2 j49_h1_f3 j49_h0_0c (fx_c_X6_readStep_p49 p2 h1_f1 h1_0c n49) j90_s1) (H : Heap) (locs : List Loc) (ls : Array Slot) (hP : va_P (dC, dI) vwCl (wd_c_X6_readStep h1 h1_0 h1_f1 j49_h1_f2 j49_h1_f3 h1_0 h1_0k h1_0c h0 h0_0 h0_f1 h0_0 h0_0k j49_h0_0c) H) (hD : va_D A (wd_c_X6_readStep h1 h1_0 h1_f1 j49_h1_f2 j49_h1_f3 h1_0 h1_0k h1_0c h0 h0_0 h0_f1 h0_0 h0_0k j49_h0_0c)) (hS : va_S A s.heap H locs) (hl : lv_has ls 6 [(5, .int j49_l5), (4, .int j49_l4), (0, .ref h0), (1, .ref h1), (2, .int p2)]), G H locs (F0 m 90 ls [.int j90_s1, .ref h0_0]) := by
        as_aux_lemma =>
        intro j90_s1 g_h0_f1 g_h1_f1 g_h1_f2 g_h1_f3 g_j49_h1_f2 g_j49_h1_f3 g_j49_l4 g_j49_l5 g_j90_s1 g_p2 hEX H locs ls hP hD hS hl
        refine hG _ _ _ ?_
        refine lv_iconst (v := (-1)) hx hb dX6_readStep_90 kc_iconst_m1 ?_
        exact hU _ _ _ (J91b j90_s1 g_h0_f1 g_h1_f1 g_h1_f2 g_h1_f3 g_j49_h1_f2 g_j49_h1_f3 g_j49_l4 g_j49_l5 g_j90_s1 g_p2 hEX _ _ _ hP hD hS (lv_sub hl [0, 1, 2, 3, 4] rfl))
      have J91 : ∀ (j91_s1 : Int32) (j91_s2 : Int32) (j91_h1_f2 : Int32) (j91_h1_f3 : Int32) (g_h0_f1 : RG h0_f1 0 16) (g_h1_f1 : RG h1_f1 1 240) (g_h1_f2 : RG h1_f2 0 240) (g_h1_f3 : RG h1_f3 (-1) 240) (g_j49_h1_f2 : RG j49_h1_f2 0 240) (g_j49_h1_f3 : RG j49_h1_f3 (-1) (-1)) (g_j49_l4 : RG j49_l4 0 3) (g_j49_l5 : RG j49_l5 1 3) (g_j91_h1_f2 : RG j91_h1_f2 0 240) (g_j91_h1_f3 : RG j91_h1_f3 (-1) 240) (g_j91_s1 : RG j91_s1 1 63) (g_j91_s2 : RG j91_s2 0 9) (g_p2 : RG p2 0 15) (hEX : RES = fx_c_X6_readStep_p91 j49_l5 j49_l4 j49_h0_0c (fx_c_X6_readStep_p49 p2 h1_f1 h1_0c n49) j91_s1 j91_s2 j91_h1_f2 j91_h1_f3) (H : Heap) (locs : List Loc) (ls : Array Slot) (hP : va_P (dC, dI) vwCl (wd_c_X6_readStep h1 h1_0 h1_f1 j91_h1_f2 j91_h1_f3 h1_0 h1_0k h1_0c h0 h0_0 h0_f1 h0_0 h0_0k j49_h0_0c) H) (hD : va_D A (wd_c_X6_readStep h1 h1_0 h1_f1 j91_h1_f2 j91_h1_f3 h1_0 h1_0k h1_0c h0 h0_0 h0_f1 h0_0 h0_0k j49_h0_0c)) (hS : va_S A s.heap H locs) (hl : lv_has ls 6 [(5, .int j49_l5), (4, .int j49_l4), (0, .ref h0), (1, .ref h1), (2, .int p2)]), G H locs (F0 m 91 ls [.int j91_s2, .int j91_s1, .ref h0_0]) := by
        as_aux_lemma =>
        intro j91_s1 j91_s2 j91_h1_f2 j91_h1_f3 g_h0_f1 g_h1_f1 g_h1_f2 g_h1_f3 g_j49_h1_f2 g_j49_h1_f3 g_j49_l4 g_j49_l5 g_j91_h1_f2 g_j91_h1_f3 g_j91_s1 g_j91_s2 g_p2 hEX H locs ls hP hD hS hl
        refine hG _ _ _ ?_
        refine va_iast hx hb hK hP hD hS 3 1 rfl rfl (RG_in g_j91_s1 (by decide +kernel)) dX6_readStep_91 (fun H locs hP hD hS => ?_)
        have hP : va_P (dC, dI) vwCl (wd_c_X6_readStep h1 h1_0 h1_f1 j91_h1_f2 j91_h1_f3 h1_0 h1_0k h1_0c h0 h0_0 h0_f1 h0_0 h0_0k (upd j49_h0_0c (j91_s1 : Int32).toNatClampNeg j91_s2)) H := hP
        have hD : va_D A (wd_c_X6_readStep h1 h1_0 h1_f1 j91_h1_f2 j91_h1_f3 h1_0 h1_0k h1_0c h0 h0_0 h0_f1 h0_0 h0_0k (upd j49_h0_0c (j91_s1 : Int32).toNatClampNeg j91_s2)) := hD
        have l_17 : (upd j49_h0_0c (j91_s1 : Int32).toNatClampNeg j91_s2) (j91_s1 : Int32).toNatClampNeg = j91_s2 := pk_us
        have a_18 : AI (upd j49_h0_0c (j91_s1 : Int32).toNatClampNeg j91_s2) (-1) 9 := AI_up a_j49_h0_0c g_j91_s2 (by decide +kernel)
        generalize huw_16 : (upd j49_h0_0c (j91_s1 : Int32).toNatClampNeg j91_s2) = w_16 at hP hD a_18 l_17
        replace hEX := hEX.trans (exl_eq huw_16.symm)
        have hP : va_P (dC, dI) vwCl (wd_c_X6_readStep h1 h1_0 h1_f1 j91_h1_f2 j91_h1_f3 h1_0 h1_0k h1_0c h0 h0_0 h0_f1 h0_0 h0_0k w_16) H := hP
        have hD : va_D A (wd_c_X6_readStep h1 h1_0 h1_f1 j91_h1_f2 j91_h1_f3 h1_0 h1_0k h1_0c h0 h0_0 h0_f1 h0_0 h0_0k w_16) := hD
        obtain ⟨x_19, ex_19⟩ : ∃ y : Int32, y = j49_l5 + 1 := ⟨_, rfl⟩
        have g_20 : RG x_19 2 4 := RG_add ex_19 g_j49_l5 (RG_k 1 1 rfl) (by decide +kernel)
        replace hEX := hEX.trans (exl_eq ex_19)
        refine lv_iinc (v := x_19) (lv' := [(5, .int x_19), (4, .int j49_l4), (0, .ref h0), (1, .ref h1), (2, .int p2)]) hx hb dX6_readStep_92 hl (k := 0) rfl (by rw [ex_19]; rfl) (Nat.le_of_ble_eq_true rfl) rfl (fun ls hl => ?_)
        as_aux_lemma =>
        refine lv_goto (tgt := 49) hx hb dX6_readStep_95 rfl ?_
        exact hU _ _ _ (ih49 x_19 j49_l4 j91_h1_f2 j91_h1_f3 w_16 (mu_s (MU_add ex_19 g_j49_l5 (q := 1) rfl (by decide +kernel)) hM49) g_h0_f1 g_h1_f1 g_h1_f2 g_h1_f3 g_j91_h1_f2 g_j91_h1_f3 g_j49_l4 (RG_w g_20 (by decide +kernel)) g_p2 a_18 hEX _ _ _ hP hD hS (lv_sub hl [0, 1, 2, 3, 4] rfl))
      refine hG _ _ _ ?_
      replace hEX := hEX.trans (if_pos (rfl : j49_l5 = j49_l5))
      refine lv_iload hx hb dX6_readStep_49 (lv_at hl 0 rfl) ?_
      refine lv_iconst (v := 4) hx hb dX6_readStep_51 kc_iconst_4 ?_
      refine lv_icmp_ge (tgt := 98) hx hb dX6_readStep_52 rfl (fun c_21 => ?_) (fun c_21 => ?_)
      · replace hEX := hEX.trans (if_pos c_21)
        have g_22 : RG j49_l5 4 4 := RG_le2 (RG_k 4 4 rfl) g_j49_l5 c_21 (by decide +kernel)
        refine lv_aload_n hx hb dX6_readStep_98 rfl (lv_at hl 2 rfl) ?_
        refine lv_iload_n hx hb dX6_readStep_99 rfl (lv_at hl 4 rfl) ?_
        refine lv_iconst (v := 1) hx hb dX6_readStep_100 kc_iconst_1 ?_
        refine lv_iadd hx hb dX6_readStep_101 ?_
        refine lv_topi (fun x_23 ex_23 => ?_)
        as_aux_lemma =>
        replace hEX := hEX.trans (exl_eq ex_23)
        have g_24 : RG x_23 1 16 := RG_add ex_23 g_p2 (RG_k 1 1 rfl) (by decide +kernel)
        refine va_put (D := (dC, dI)) (ci := 6) (v := .int x_23) (ty := .int) (C := RX6) (T := TX6) (N := 2) hx hb hts iw_c_X6_readStep_X6 tyX6 tyX6_ok nmX6 hown hK hP hD hS 2 rfl rfl 1 (by decide +kernel) (hts (.fieldLink RX6 15 "BuoyVote$Plan" "steps" "I") (List.mem_of_getElem? (i := 74) rfl)) (fun _ h9 => h9) rfl (by decide +kernel) rfl rfl (Nat.le_of_ble_eq_true rfl) dX6_readStep_102 (fun H locs hP hD hS => ?_)
        have hP : va_P (dC, dI) vwCl (wd_c_X6_readStep h1 h1_0 h1_f1 j49_h1_f2 j49_h1_f3 h1_0 h1_0k h1_0c h0 h0_0 x_23 h0_0 h0_0k j49_h0_0c) H := hP
        have hD : va_D A (wd_c_X6_readStep h1 h1_0 h1_f1 j49_h1_f2 j49_h1_f3 h1_0 h1_0k h1_0c h0 h0_0 x_23 h0_0 h0_0k j49_h0_0c) := hD
        have hK9 := hK.sub (tys' := []) [] rfl
        exact W.vret hx hb hr (fun t ht hW => ⟨⟨(j49_h1_f2, j49_h1_f3, x_23, j49_h0_0c), rfl, ⟨g_j49_h1_f2, g_j49_h1_f3, (RG_w g_24 (by decide +kernel)), a_j49_h0_0c, (hR.trans hEX).symm⟩, by rw [ht]; exact hP, va_K.moved hW.alike hK9, hD⟩, hS.F ht⟩) hS.2.2 dX6_readStep_105
      · replace hEX := hEX.trans (if_neg c_21)
        have d_25 := Int32.not_le.mp c_21
        have g_26 : RG j49_l5 1 3 := RG_lt1 g_j49_l5 (RG_k 4 4 rfl) d_25 (by decide +kernel)
        refine lv_aload_n hx hb dX6_readStep_55 rfl (lv_at hl 2 rfl) ?_
        refine va_get (D := (dC, dI)) (ci := 6) (v := .ref h0_0) (C := RX6) (T := TX6) (N := 2) hx hb hts iw_c_X6_readStep_X6 hown hK hP 2 rfl rfl 0 (by decide +kernel) (hts (.fieldLink RX6 11 "BuoyVote$Plan" "cells" "[I") (List.mem_of_getElem? (i := 63) rfl)) (fun _ h9 => h9) rfl dX6_readStep_56 ?_
        refine lv_iload_n hx hb dX6_readStep_59 rfl (lv_at hl 4 rfl) ?_
        refine lv_iconst (v := 4) hx hb dX6_readStep_60 kc_iconst_4 ?_
        as_aux_lemma =>
        refine lv_imul hx hb dX6_readStep_61 ?_
        refine lv_topi (fun x_27 ex_27 => ?_)
        replace hEX := hEX.trans (exl_eq ex_27)
        have g_28 : RG x_27 0 60 := RG_mulc ex_27 (q := 4) rfl g_p2 (by decide +kernel)
        refine lv_iload hx hb dX6_readStep_62 (lv_at hl 0 rfl) ?_
        refine lv_iadd hx hb dX6_readStep_64 ?_
        refine lv_topi (fun x_29 ex_29 => ?_)
        replace hEX := hEX.trans (exl_eq ex_29)
        have g_30 : RG x_29 1 63 := RG_add ex_29 g_28 g_26 (by decide +kernel)
        refine lv_iload hx hb dX6_readStep_65 (lv_at hl 0 rfl) ?_
        refine va_gets hx hb hE_8 hS hown (hts (.fieldLink RX6 56 "BuoyVote$Plan" "DIGITS" "[I") (List.mem_of_getElem? (i := 64) rfl)) (fun _ h9 => h9) dX6_readStep_67 ?_
        refine lv_iload hx hb dX6_readStep_70 (lv_at hl 1 rfl) ?_
        refine va_ti hx hb hE_9 hS (RG_in g_j49_l4 (by decide +kernel)) rfl dX6_readStep_72 ?_
        refine lv_topi (fun x_31 ex_31 => ?_)
        as_aux_lemma =>
        replace hEX := hEX.trans (exl_eq ex_31)
        have g_32 : RG x_31 0 3 := RG_tab ex_31 (by decide +kernel)
        refine lv_icmp_gt (tgt := 90) hx hb dX6_readStep_73 rfl (fun c_33 => ?_) (fun c_33 => ?_)
        · replace hEX := hEX.trans (if_pos c_33)
          have g_34 : RG x_31 0 2 := RG_lt1 g_32 g_26 c_33 (by decide +kernel)
          exact hU _ _ _ (J90 x_29 g_h0_f1 g_h1_f1 g_h1_f2 g_h1_f3 g_j49_h1_f2 g_j49_h1_f3 g_j49_l4 g_26 g_30 g_p2 hEX _ _ _ hP hD hS (lv_sub hl [0, 1, 2, 3, 4] rfl))
        · replace hEX := hEX.trans (if_neg c_33)
          have d_35 := Int32.not_lt.mp c_33
          have g_36 : RG x_31 1 3 := RG_le2 g_26 g_32 d_35 (by decide +kernel)
          refine lv_aload_n hx hb dX6_readStep_76 rfl (lv_at hl 3 rfl) ?_
          obtain ⟨hPc, hDc, hFc, hqc⟩ := cl_cut (wc := (wd_c_X9_isRight h1 h1_0 h1_f1 j49_h1_f2 j49_h1_f3)) hP hD hS hA [0] (by decide +kernel) rfl
          have hKc := hK.sub (tys' := []) [] rfl
          have hrv := va_recv hKc hPc (ci := 9) (q0 := 0) rfl rfl
          refine va_calli (va_runV (As := []) (rest := [.int x_29, .ref h0_0]) ⟨hx, hb, hml, hown, hts⟩ (c_X9_isRight l dC dI H.size h1 h1_0 h1_f1 j49_h1_f2 j49_h1_f3 (RG_w g_h1_f1 (by decide +kernel)) g_j49_h1_f2 g_j49_h1_f3) (cwV 0 hts gf_c_X6_readStep_c_X9_isRight rfl rfl rfl mdV_X9_isRight ⟨Nat.le_of_ble_eq_true rfl, Nat.le_of_ble_eq_true rfl⟩) ⟨fun a U g mk q => by obtain ⟨q0, q1, qP, qK, qD⟩ := q; exact ⟨q0, q1, qP, va_K.moved (u := U) (U := U.calling g mk a) (Vm.Alike.refl U.vm) qK, qD⟩, hrv, fun U hU hW => ⟨rfl, by rw [hU], by rw [hU]; exact hPc, va_K.moved hW.alike hKc, hDc.weaken (fun _ _ _ _ => trivial)⟩⟩ rfl rfl hl.1 rfl (lv_room (Nat.le_of_ble_eq_true rfl)) dX6_readStep_77 ⟨Nat.le_of_ble_eq_true rfl, Nat.le_of_ble_eq_true rfl⟩) hS (fun q _ h => hFc q h) hFc (fun r_37 u t H1 locs ht hvm hw hB hz1 hk1 hS => ?_)
          as_aux_lemma =>
          obtain ⟨hP1, hK1, hD1⟩ := hB
          rw [ht] at hP1
          obtain ⟨hP, hD⟩ := cl_put (w1 := (wd_c_X9_isRight h1 h1_0 h1_f1 j49_h1_f2 j49_h1_f3)) (nw := (wd_c_X6_readStep h1 h1_0 h1_f1 j49_h1_f2 j49_h1_f3 h1_0 h1_0k h1_0c h0 h0_0 h0_f1 h0_0 h0_0k j49_h0_0c)) hP hD [0] [4, 1, 2, 3] 4 rfl hqc (by decide +kernel) rfl hk1 hFc hP1 hD1
          generalize H1 = H at hP hS ⊢
          as_aux_lemma =>
          rcases hw with ⟨h_38, h_39, h_40⟩ | ⟨h_41, h_42, h_43⟩
          · have h_40 : r_37 = _ := h_40
            replace hEX := hEX.trans (exc1_eq h_40)
            replace hEX := hEX.trans (if_pos (show r_37 = 0 from h_38))
            rw [h_38]
            refine lv_if_eq (tgt := 90) hx hb dX6_readStep_80 rfl (fun c_44 => ?_) (fun c_44 => absurd c_44 (by decide +kernel))
            exact hU _ _ _ (J90 x_29 g_h0_f1 g_h1_f1 g_h1_f2 g_h1_f3 g_j49_h1_f2 (RG_w h_39 (by decide +kernel)) g_j49_l4 g_26 g_30 g_p2 hEX _ _ _ hP hD hS (lv_sub hl [0, 1, 2, 3, 4] rfl))
          · have h_43 : r_37 = _ := h_43
            replace hEX := hEX.trans (exc1_eq h_43)
            replace hEX := hEX.trans (if_neg (fun q9 : r_37 = 0 => absurd ((show r_37 = 1 from h_41).symm.trans q9) (by decide +kernel)))
            rw [h_41]
            refine lv_if_eq (tgt := 90) hx hb dX6_readStep_80 rfl (fun c_45 => absurd c_45 (by decide +kernel)) (fun c_45 => ?_)
            refine lv_aload_n hx hb dX6_readStep_83 rfl (lv_at hl 3 rfl) ?_
            obtain ⟨hPc, hDc, hFc, hqc⟩ := cl_cut (wc := (wd_c_X9_digit h1 h1_0 h1_f1 j49_h1_f2 j49_h1_f3 h1_0 h1_0k h1_0c)) hP hD hS hA [0, 1] (by decide +kernel) rfl
            have hKc := hK.sub (tys' := [(h1_0k, .int)]) [0] rfl
            have hrv := va_recv hKc hPc (ci := 9) (q0 := 0) rfl rfl
            refine va_calli (va_runV (As := []) (rest := [.int x_29, .ref h0_0]) ⟨hx, hb, hml, hown, hts⟩ (c_X9_digit l dC dI H.size h1 h1_0 h1_f1 j49_h1_f2 j49_h1_f3 h1_0k h1_0c (RG_w g_h1_f1 (by decide +kernel)) g_j49_h1_f2 (RG_w h_42 (by decide +kernel)) a_h1_0c) (cwV 0 hts gf_c_X6_readStep_c_X9_digit rfl rfl rfl mdV_X9_digit ⟨Nat.le_of_ble_eq_true rfl, Nat.le_of_ble_eq_true rfl⟩) ⟨fun a U g mk q => by obtain ⟨q0, q1, qP, qK, qD⟩ := q; exact ⟨q0, q1, qP, va_K.moved (u := U) (U := U.calling g mk a) (Vm.Alike.refl U.vm) qK, qD⟩, hrv, fun U hU hW => ⟨rfl, by rw [hU], by rw [hU]; exact hPc, va_K.moved hW.alike hKc, hDc.weaken (fun _ _ _ _ => trivial)⟩⟩ rfl rfl hl.1 rfl (lv_room (Nat.le_of_ble_eq_true rfl)) dX6_readStep_84 ⟨Nat.le_of_ble_eq_true rfl, Nat.le_of_ble_eq_true rfl⟩) hS (fun q _ h => hFc q h) hFc (fun r_46 u t H1 locs ht hvm hw hB hz1 hk1 hS => ?_)
            as_aux_lemma =>
            obtain ⟨x_47, x_48⟩ := u
            obtain ⟨hP1, hK1, hD1⟩ := hB
            rw [ht] at hP1
            obtain ⟨hP, hD⟩ := cl_put (w1 := (wd_c_X9_digit h1 h1_0 h1_f1 x_47 x_48 h1_0 h1_0k h1_0c)) (nw := (wd_c_X6_readStep h1 h1_0 h1_f1 x_47 x_48 h1_0 h1_0k h1_0c h0 h0_0 h0_f1 h0_0 h0_0k j49_h0_0c)) hP hD [0, 1] [4, 5, 2, 3] 4 rfl hqc (by decide +kernel) rfl hk1 hFc hP1 hD1
            generalize H1 = H at hP hS ⊢
            as_aux_lemma =>
            rcases hw with ⟨h_49, h_50, h_51, h_52, h_53⟩
            have h_53 : (r_46, x_47, x_48) = _ := h_53
            replace hEX := hEX.trans (exc3_eq h_53)
            refine lv_goto (tgt := 91) hx hb dX6_readStep_87 rfl ?_
            exact hU _ _ _ (J91 x_29 r_46 x_47 x_48 g_h0_f1 g_h1_f1 g_h1_f2 g_h1_f3 g_j49_h1_f2 h_42 g_j49_l4 g_26 h_50 h_51 g_30 h_49 g_p2 hEX _ _ _ hP hD hS (lv_sub hl [0, 1, 2, 3, 4] rfl))
  have J20c : ∀ (j20c_s0 : Int32) (j20c_h1_f2 : Int32) (g_h0_f1 : RG h0_f1 0 16) (g_h1_f1 : RG h1_f1 1 240) (g_h1_f2 : RG h1_f2 0 240) (g_h1_f3 : RG h1_f3 (-1) 240) (g_j20c_h1_f2 : RG j20c_h1_f2 0 239) (g_j20c_s0 : RG j20c_s0 0 3) (g_p2 : RG p2 0 15) (hEX : RES = fx_c_X6_readStep_p20c p2 h1_f1 h1_f3 h1_0c h0_0c j20c_s0 j20c_h1_f2) (H : Heap) (locs : List Loc) (ls : Array Slot) (hP : va_P (dC, dI) vwCl (wd_c_X6_readStep h1 h1_0 h1_f1 j20c_h1_f2 h1_f3 h1_0 h1_0k h1_0c h0 h0_0 h0_f1 h0_0 h0_0k h0_0c) H) (hD : va_D A (wd_c_X6_readStep h1 h1_0 h1_f1 j20c_h1_f2 h1_f3 h1_0 h1_0k h1_0c h0 h0_0 h0_f1 h0_0 h0_0k h0_0c)) (hS : va_S A s.heap H locs) (hl : lv_has ls 6 [(0, .ref h0), (1, .ref h1), (2, .int p2)]), G H locs (F0 m 20 ls [.int j20c_s0]) := by
    as_aux_lemma =>
    intro j20c_s0 j20c_h1_f2 g_h0_f1 g_h1_f1 g_h1_f2 g_h1_f3 g_j20c_h1_f2 g_j20c_s0 g_p2 hEX H locs ls hP hD hS hl
    refine hG _ _ _ ?_
    refine lv_istore (lv' := [(4, .int j20c_s0), (0, .ref h0), (1, .ref h1), (2, .int p2)]) hx hb dX6_readStep_20 hl (Nat.le_of_ble_eq_true rfl) rfl (fun ls hl => ?_)
    refine lv_iload hx hb dX6_readStep_22 (lv_at hl 0 rfl) ?_
    refine lv_if_ge (tgt := 32) hx hb dX6_readStep_24 rfl (fun c_54 => ?_) (fun c_54 => ?_)
    · replace hEX := hEX.trans (if_pos c_54)
      refine lv_aload_n hx hb dX6_readStep_32 rfl (lv_at hl 2 rfl) ?_
      obtain ⟨hPc, hDc, hFc, hqc⟩ := cl_cut (wc := (wd_c_X9_skip h1 h1_0 h1_f1 j20c_h1_f2 h1_f3)) hP hD hS hA [0] (by decide +kernel) rfl
      have hKc := hK.sub (tys' := []) [] rfl
      have hrv := va_recv hKc hPc (ci := 9) (q0 := 0) rfl rfl
      refine va_callv (va_runV (As := []) (rest := []) ⟨hx, hb, hml, hown, hts⟩ (c_X9_skip l dC dI H.size h1 h1_0 h1_f1 j20c_h1_f2 h1_f3 (RG_w g_h1_f1 (by decide +kernel)) g_j20c_h1_f2 g_h1_f3) (cwV 0 hts gf_c_X6_readStep_c_X9_skip rfl rfl rfl mdV_X9_skip ⟨Nat.le_of_ble_eq_true rfl, Nat.le_of_ble_eq_true rfl⟩) ⟨fun a U g mk q => by obtain ⟨q0, q1, qP, qK, qD⟩ := q; exact ⟨q0, q1, qP, va_K.moved (u := U) (U := U.calling g mk a) (Vm.Alike.refl U.vm) qK, qD⟩, hrv, fun U hU hW => ⟨rfl, by rw [hU], by rw [hU]; exact hPc, va_K.moved hW.alike hKc, hDc.weaken (fun _ _ _ _ => trivial)⟩⟩ rfl rfl hl.1 rfl (lv_room (Nat.le_of_ble_eq_true rfl)) dX6_readStep_33 ⟨Nat.le_of_ble_eq_true rfl, Nat.le_of_ble_eq_true rfl⟩) hS (fun q _ h => hFc q h) hFc (fun x_56 t H1 locs ht hvm hw hB hz1 hk1 hS => ?_)
      obtain ⟨hP1, hK1, hD1⟩ := hB
      rw [ht] at hP1
      obtain ⟨hP, hD⟩ := cl_put (w1 := (wd_c_X9_skip h1 h1_0 h1_f1 x_56 h1_f3)) (nw := (wd_c_X6_readStep h1 h1_0 h1_f1 x_56 h1_f3 h1_0 h1_0k h1_0c h0 h0_0 h0_f1 h0_0 h0_0k h0_0c)) hP hD [0] [4, 1, 2, 3] 4 rfl hqc (by decide +kernel) rfl hk1 hFc hP1 hD1
      generalize H1 = H at hP hS ⊢
      as_aux_lemma =>
      rcases hw with ⟨h_57, h_58, h_59, h_60⟩
      have h_60 : x_56 = _ := h_60
      replace hEX := hEX.trans (exc1_eq h_60)
      refine lv_aload_n hx hb dX6_readStep_36 rfl (lv_at hl 1 rfl) ?_
      refine va_get (D := (dC, dI)) (ci := 6) (v := .ref h0_0) (C := RX6) (T := TX6) (N := 2) hx hb hts iw_c_X6_readStep_X6 hown hK hP 2 rfl rfl 0 (by decide +kernel) (hts (.fieldLink RX6 11 "BuoyVote$Plan" "cells" "[I") (List.mem_of_getElem? (i := 63) rfl)) (fun _ h9 => h9) rfl dX6_readStep_37 ?_
      refine lv_iload_n hx hb dX6_readStep_40 rfl (lv_at hl 3 rfl) ?_
      refine lv_iconst (v := 4) hx hb dX6_readStep_41 kc_iconst_4 ?_
      refine lv_imul hx hb dX6_readStep_42 ?_
      refine lv_topi (fun x_61 ex_61 => ?_)
      replace hEX := hEX.trans (exl_eq ex_61)
      have g_62 : RG x_61 0 60 := RG_mulc ex_61 (q := 4) rfl g_p2 (by decide +kernel)
      refine lv_iload hx hb dX6_readStep_43 (lv_at hl 0 rfl) ?_
      refine va_iast hx hb hK hP hD hS 3 1 rfl rfl (RG_in g_62 (by decide +kernel)) dX6_readStep_45 (fun H locs hP hD hS => ?_)
      have hP : va_P (dC, dI) vwCl (wd_c_X6_readStep h1 h1_0 h1_f1 x_56 h1_f3 h1_0 h1_0k h1_0c h0 h0_0 h0_f1 h0_0 h0_0k (upd h0_0c (x_61 : Int32).toNatClampNeg j20c_s0)) H := hP
      have hD : va_D A (wd_c_X6_readStep h1 h1_0 h1_f1 x_56 h1_f3 h1_0 h1_0k h1_0c h0 h0_0 h0_f1 h0_0 h0_0k (upd h0_0c (x_61 : Int32).toNatClampNeg j20c_s0)) := hD
      have l_64 : (upd h0_0c (x_61 : Int32).toNatClampNeg j20c_s0) (x_61 : Int32).toNatClampNeg = j20c_s0 := pk_us
      have a_65 : AI (upd h0_0c (x_61 : Int32).toNatClampNeg j20c_s0) (-1) 9 := AI_up a_h0_0c g_j20c_s0 (by decide +kernel)
      generalize huw_63 : (upd h0_0c (x_61 : Int32).toNatClampNeg j20c_s0) = w_63 at hP hD a_65 l_64
      replace hEX := hEX.trans (exl_eq huw_63.symm)
      have hP : va_P (dC, dI) vwCl (wd_c_X6_readStep h1 h1_0 h1_f1 x_56 h1_f3 h1_0 h1_0k h1_0c h0 h0_0 h0_f1 h0_0 h0_0k w_63) H := hP
      have hD : va_D A (wd_c_X6_readStep h1 h1_0 h1_f1 x_56 h1_f3 h1_0 h1_0k h1_0c h0 h0_0 h0_f1 h0_0 h0_0k w_63) := hD
      refine lv_iconst (v := 1) hx hb dX6_readStep_46 kc_iconst_1 ?_
      as_aux_lemma =>
      refine lv_istore (lv' := [(5, .int 1), (4, .int j20c_s0), (0, .ref h0), (1, .ref h1), (2, .int p2)]) hx hb dX6_readStep_47 hl (Nat.le_of_ble_eq_true rfl) rfl (fun ls hl => ?_)
      exact hU _ _ _ (J49 exF 1 j20c_s0 x_56 h1_f3 w_63 MU_F g_h0_f1 g_h1_f1 g_h1_f2 g_h1_f3 (RG_w h_57 (by decide +kernel)) g_h1_f3 g_j20c_s0 (RG_w (RG_k 1 1 rfl) (by decide +kernel)) g_p2 a_65 hEX _ _ _ hP hD hS (lv_sub hl [0, 1, 2, 3, 4] rfl))
    · replace hEX := hEX.trans (if_neg c_54)
      have d_66 := Int32.not_le.mp c_54
      have g_67 : RG j20c_s0 0 (-1) := RG_lt1 g_j20c_s0 (RG_k 0 0 rfl) d_66 (by decide +kernel)
      exact RG_dead (RG_lt1 g_j20c_s0 (RG_k 0 0 rfl) d_66 (b' := (-1)) (by decide +kernel)) (by decide +kernel)
  refine hG _ _ _ ?_
  refine lv_aload_n hx hb dX6_readStep_0 rfl (lv_at hl 1 rfl) ?_
  obtain ⟨hPc, hDc, hFc, hqc⟩ := cl_cut (wc := (wd_c_X9_peek h1 h1_0 h1_f1 h1_f2 h1_f3 h1_0 h1_0k h1_0c)) hP hD hS hA [0, 1] (by decide +kernel) rfl
  have hKc := hK.sub (tys' := [(h1_0k, .int)]) [0] rfl
  have hrv := va_recv hKc hPc (ci := 9) (q0 := 0) rfl rfl
  refine va_calli (va_runV (As := []) (rest := []) ⟨hx, hb, hml, hown, hts⟩ (c_X9_peek l dC dI H.size h1 h1_0 h1_f1 h1_f2 h1_f3 h1_0k h1_0c g_h1_f1 g_h1_f2 g_h1_f3 a_h1_0c) (cwV 0 hts gf_c_X6_readStep_c_X9_peek rfl rfl rfl mdV_X9_peek ⟨Nat.le_of_ble_eq_true rfl, Nat.le_of_ble_eq_true rfl⟩) ⟨fun a U g mk q => by obtain ⟨q0, q1, qP, qK, qD⟩ := q; exact ⟨q0, q1, qP, va_K.moved (u := U) (U := U.calling g mk a) (Vm.Alike.refl U.vm) qK, qD⟩, hrv, fun U hU hW => ⟨rfl, by rw [hU], by rw [hU]; exact hPc, va_K.moved hW.alike hKc, hDc.weaken (fun _ _ _ _ => trivial)⟩⟩ rfl rfl hl.1 rfl (lv_room (Nat.le_of_ble_eq_true rfl)) dX6_readStep_1 ⟨Nat.le_of_ble_eq_true rfl, Nat.le_of_ble_eq_true rfl⟩) hS (fun q _ h => hFc q h) hFc (fun r_68 x_69 t H1 locs ht hvm hw hB hz1 hk1 hS => ?_)
  obtain ⟨hP1, hK1, hD1⟩ := hB
  rw [ht] at hP1
  obtain ⟨hP, hD⟩ := cl_put (w1 := (wd_c_X9_peek h1 h1_0 h1_f1 x_69 h1_f3 h1_0 h1_0k h1_0c)) (nw := (wd_c_X6_readStep h1 h1_0 h1_f1 x_69 h1_f3 h1_0 h1_0k h1_0c h0 h0_0 h0_f1 h0_0 h0_0k h0_0c)) hP hD [0, 1] [4, 5, 2, 3] 4 rfl hqc (by decide +kernel) rfl hk1 hFc hP1 hD1
  generalize H1 = H at hP hS ⊢
  as_aux_lemma =>
  rcases hw with ⟨h_70, h_71, h_72, h_73⟩ | ⟨h_74, h_75, h_76, h_77, h_78⟩
  · have h_73 : (r_68, x_69) = _ := h_73
    replace hEX := hEX.trans (exc2_eq h_73)
    replace hEX := hEX.trans (if_pos (show r_68 = (-1) from h_70))
    rw [h_70]
    refine lv_istore_n (lv' := [(3, .int (-1)), (0, .ref h0), (1, .ref h1), (2, .int p2)]) hx hb dX6_readStep_4 rfl hl (Nat.le_of_ble_eq_true rfl) rfl (fun ls hl => ?_)
    refine lv_iload_n hx hb dX6_readStep_5 rfl (lv_at hl 0 rfl) ?_
    refine lv_if_ge (tgt := 13) hx hb dX6_readStep_6 rfl (fun c_79 => absurd c_79 (by decide +kernel)) (fun c_79 => ?_)
    refine lv_iconst (v := (-1)) hx hb dX6_readStep_9 kc_iconst_m1 ?_
    refine lv_goto (tgt := 20) hx hb dX6_readStep_10 rfl ?_
    exact hU _ _ _ (J20 x_69 g_h0_f1 g_h1_f1 g_h1_f2 g_h1_f3 h_71 g_p2 hEX _ _ _ hP hD hS (lv_sub hl [1, 2, 3] rfl))
  · have h_78 : (r_68, x_69) = _ := h_78
    replace hEX := hEX.trans (exc2_eq h_78)
    replace hEX := hEX.trans (if_neg (RG_neq (x := r_68) (c := (-1)) (show RG r_68 0 255 from h_74) (by decide +kernel)))
    refine lv_istore_n (lv' := [(3, .int r_68), (0, .ref h0), (1, .ref h1), (2, .int p2)]) hx hb dX6_readStep_4 rfl hl (Nat.le_of_ble_eq_true rfl) rfl (fun ls hl => ?_)
    as_aux_lemma =>
    refine lv_iload_n hx hb dX6_readStep_5 rfl (lv_at hl 0 rfl) ?_
    refine lv_if_ge (tgt := 13) hx hb dX6_readStep_6 rfl (fun c_80 => ?_) (fun c_80 => ?_)
    · replace hEX := hEX.trans (if_pos c_80)
      refine va_ldcS hx hb hown hE_37 dX6_readStep_13 ?_
      refine lv_iload_n hx hb dX6_readStep_15 rfl (lv_at hl 0 rfl) ?_
      refine lv_i2c hx hb dX6_readStep_16 rfl ?_
      refine lv_topi (fun x_81 ex_81 => ?_)
      replace hEX := hEX.trans (exl_eq ex_81)
      have g_82 : RG x_81 0 65535 := RG_i2c ex_81
      obtain ⟨hPc, hDc, hFc, hqc⟩ := cl_cut (wc := []) hP hD hS hA [] (by decide +kernel) rfl
      have hKc := hK.sub (tys' := []) [] rfl
      have hrv := bv_Orecv hE_38 hS
      refine va_calli (va_runV (As := [.int x_81]) (rest := []) ⟨hx, hb, hml, hown, hts⟩ (c_J0_indexOf_0f7a4_5 l dC dI H.size ts5 x_81 tv5 g_82) (cwV 1 hts gf_c_X6_readStep_c_J0_indexOf_0f7a4_5 rfl rfl rfl mdV_J0_indexOf_0f7a4 ⟨Nat.le_of_ble_eq_true rfl, Nat.le_of_ble_eq_true rfl⟩) ⟨fun a U g mk q => by obtain ⟨q0, q1, qP, qK, qD, qE0, qE1, qE2, qE3, qE4⟩ := q; exact ⟨q0, q1, qP, va_K.moved (u := U) (U := U.calling g mk a) (Vm.Alike.refl U.vm) qK, qD, va_Z.moved (u := U) (U := U.calling g mk a) (Vm.Alike.refl U.vm) qE0, va_OF.moved (u := U) (U := U.calling g mk a) (Vm.Alike.refl U.vm) qE1, va_O.moved (u := U) (U := U.calling g mk a) (Vm.Alike.refl U.vm) qE2, va_OF.moved (u := U) (U := U.calling g mk a) (Vm.Alike.refl U.vm) qE3, va_T.moved (u := U) (U := U.calling g mk a) (Vm.Alike.refl U.vm) qE4⟩, hrv, fun U hU hW => ⟨rfl, by rw [hU], by rw [hU]; exact hPc, va_K.moved hW.alike hKc, hDc.weaken (fun _ _ _ _ => trivial), va_Z.moved hW.alike (by rw [hU]; exact (hE_10.kept hS.2.1).narrow hFc), va_OF.moved hW.alike (by rw [hU]; exact (hE_39.kept hS.2.1).narrow hFc), va_O.moved hW.alike (by rw [hU]; exact (hE_38.kept hS.2.1).narrow hFc), va_OF.moved hW.alike (by rw [hU]; exact (hE_40.kept hS.2.1).narrow hFc), va_T.moved hW.alike (by rw [hU]; exact (hE_41.kept hS.2.1).narrow hFc)⟩⟩ rfl rfl hl.1 rfl (lv_room (Nat.le_of_ble_eq_true rfl)) dX6_readStep_17 ⟨Nat.le_of_ble_eq_true rfl, Nat.le_of_ble_eq_true rfl⟩) hS (fun q _ h => hFc q h) hFc (fun r_83 u t H1 locs ht hvm hw hB hz1 hk1 hS => ?_)
      obtain ⟨hP1, hK1, hD1⟩ := hB
      rw [ht] at hP1
      have hP := bv_still hP hk1
      generalize H1 = H at hP hS ⊢
      as_aux_lemma =>
      rcases hw with ⟨h_84, h_85⟩ | ⟨h_86, h_87, h_88⟩
      · have h_85 : r_83 = _ := h_85
        replace hEX := hEX.trans (exc1_eq h_85)
        replace hEX := hEX.trans (if_pos (show r_83 = (-1) from h_84))
        rw [h_84]
        exact hU _ _ _ (J20b x_69 g_h0_f1 h_76 g_h1_f2 g_h1_f3 h_75 g_p2 hEX _ _ _ hP hD hS (lv_sub hl [1, 2, 3] rfl))
      · have h_88 : r_83 = _ := h_88
        replace hEX := hEX.trans (exc1_eq h_88)
        replace hEX := hEX.trans (if_neg (RG_neq (x := r_83) (c := (-1)) (show RG r_83 0 3 from h_86) (by decide +kernel)))
        exact hU _ _ _ (J20c r_83 x_69 g_h0_f1 h_76 g_h1_f2 g_h1_f3 h_75 h_86 g_p2 hEX _ _ _ hP hD hS (lv_sub hl [1, 2, 3] rfl))
    · replace hEX := hEX.trans (if_neg c_80)
      have d_89 := Int32.not_le.mp c_80
      have g_90 : RG r_68 0 (-1) := RG_lt1 h_74 (RG_k 0 0 rfl) d_89 (by decide +kernel)
      exact RG_dead (RG_lt1 h_74 (RG_k 0 0 rfl) d_89 (b' := (-1)) (by decide +kernel)) (by decide +kernel)
noncomputable def wd_c_X6_faultOf (a0 : Nat) (a1 : Nat) (a2 : Int32) (a3 : Nat) (a4 : Nat) (a5 : Int32) (a6 : Int32) (a7 : Int32) (a8 : Nat) (a9 : ClassId) (a10 : Nat → Int32) (a11 : Nat) (a12 : ClassId) (a13 : Nat → Int32) : va_W := [(a0, .inr (6, [.ref a1, .int a2])), (a3, .inr (9, [.ref a4, .int a5, .int a6, .int a7])), (a8, .inl (a9, 240, .inl a10)), (a11, .inl (a12, 64, .inl a13))]
noncomputable def wf_c_X6_faultOf : List Cond := List.cons (.code yX6_faultOf cX6_faultOf 3 (some .int)) (@HAppend.hAppend (List Cond) (List Cond) (List Cond) _ (@HAppend.hAppend (List Cond) (List Cond) (List Cond) _ [.fieldLink RX6 15 "BuoyVote$Plan" "steps" "I", .methodLink RX6 19 yX9_rewind, .instanceMethod yX9_rewind, .selects RX9 yX9_rewind yX9_rewind, .initialized RX9, .code yX9_rewind cX9_rewind 1 none, .fieldLink RX9 22 "BuoyVote$Tape" "at" "I", .fieldLink RX9 15 "BuoyVote$Tape" "wrong" "I", .methodLink RX6 24 yX6_readStep, .instanceMethod yX6_readStep, .selects RX6 yX6_readStep yX6_readStep, .initialized RX6, .code yX6_readStep cX6_readStep 6 none, .methodLink RX6 39 yX9_peek, .instanceMethod yX9_peek, .selects RX9 yX9_peek yX9_peek, .code yX9_peek cX9_peek 1 (some .int), .fieldLink RX9 19 "BuoyVote$Tape" "length" "I", .fieldLink RX9 11 "BuoyVote$Tape" "bytes" "[I", .methodLink RX6 44 yJ0_indexOf_0f7a4, .instanceMethod yJ0_indexOf_0f7a4, .selects RJ0 yJ0_indexOf_0f7a4 yJ0_indexOf_0f7a4, .initialized RJ0, .code yJ0_indexOf_0f7a4 cJ0_indexOf_0f7a4 2 (some .int), .methodLink RJ0 633 yJ0_indexOf_7cf53, .instanceMethod yJ0_indexOf_7cf53, .selects RJ0 yJ0_indexOf_7cf53 yJ0_indexOf_7cf53, .code yJ0_indexOf_7cf53 cJ0_indexOf_7cf53 3 (some .int), .methodLink RJ0 492 yJ0_isLatin1_aae02, .instanceMethod yJ0_isLatin1_aae02, .selects RJ0 yJ0_isLatin1_aae02 yJ0_isLatin1_aae02, .code yJ0_isLatin1_aae02 cJ0_isLatin1_aae02 1 (some .boolean), .fieldLink RJ0 38 "java/lang/String" "COMPACT_STRINGS" "Z", .fieldLink RJ0 15 "java/lang/String" "coder" "B", .fieldLink RJ0 9 "java/lang/String" "value" "[B", .methodLink RJ0 505 yJ0_length_8abf5, .instanceMethod yJ0_length_8abf5, .selects RJ0 yJ0_length_8abf5 yJ0_length_8abf5, .code yJ0_length_8abf5 cJ0_length_8abf5 1 (some .int), .methodLink RJ0 335 yJ0_coder_7d493, .instanceMethod yJ0_coder_7d493, .selects RJ0 yJ0_coder_7d493 yJ0_coder_7d493, .code yJ0_coder_7d493 cJ0_coder_7d493 1 (some .byte), .methodLink RJ0 637 yJ1_indexOf_4cfef, .static yJ1_indexOf_4cfef, .initialized RJ1, .code yJ1_indexOf_4cfef cJ1_indexOf_4cfef 4 (some .int), .methodLink RJ1 88 yJ1_canEncode_9a6ad, .static yJ1_canEncode_9a6ad, .code yJ1_canEncode_9a6ad cJ1_canEncode_9a6ad 1 (some .boolean), .methodLink RJ1 92 Lib.Math.max.name, .static Lib.Math.max.name, .initialized "java/lang/Math", .code Lib.Math.max.name Lib.Math.max.code 2 (some .int), .methodLink RJ1 38 Lib.Math.min.name, .static Lib.Math.min.name, .code Lib.Math.min.name Lib.Math.min.code 2 (some .int), .methodLink RJ1 95 yJ1_indexOfChar_4cfef, .static yJ1_indexOfChar_4cfef, .code yJ1_indexOfChar_4cfef cJ1_indexOfChar_4cfef 6 (some .int), .methodLink RX6 50 yX9_refuseHere, .instanceMethod yX9_refuseHere, .selects RX9 yX9_refuseHere yX9_refuseHere, .code yX9_refuseHere cX9_refuseHere 1 none, .methodLink RX9 25 yX9_refuse, .instanceMethod yX9_refuse, .selects RX9 yX9_refuse yX9_refuse, .code yX9_refuse cX9_refuse 2 none, .methodLink RX6 53 yX9_skip, .instanceMethod yX9_skip, .selects RX9 yX9_skip yX9_skip, .code yX9_skip cX9_skip 1 none, .fieldLink RX6 11 "BuoyVote$Plan" "cells" "[I", .fieldLink RX6 56 "BuoyVote$Plan" "DIGITS" "[I", .methodLink RX6 59 yX9_isRight, .instanceMethod yX9_isRight, .selects RX9 yX9_isRight yX9_isRight, .code yX9_isRight cX9_isRight 1 (some .boolean), .methodLink RX6 63 yX9_digit, .instanceMethod yX9_digit, .selects RX9 yX9_digit yX9_digit, .code yX9_digit cX9_digit 2 (some .int), .methodLink RX9 29 yX9_peek, .methodLink RX6 28 yX9_take, .instanceMethod yX9_take, .selects RX9 yX9_take yX9_take, .code yX9_take cX9_take 2 (some .boolean), .methodLink RX6 32 yX9_expectEnd, .instanceMethod yX9_expectEnd, .selects RX9 yX9_expectEnd yX9_expectEnd, .code yX9_expectEnd cX9_expectEnd 1 none, .methodLink RX6 35 yX9_wrongAt, .instanceMethod yX9_wrongAt, .selects RX9 yX9_wrongAt yX9_wrongAt, .code yX9_wrongAt cX9_wrongAt 1 (some .int)] wsX60) wsX90)
theorem iw_c_X6_faultOf_X6 : ∀ w ∈ wsX60, w ∈ wf_c_X6_faultOf := fun w h => List.mem_cons_of_mem _ (List.mem_append_left _ (List.mem_append_right _ h))
theorem iw_c_X6_faultOf_X9 : ∀ w ∈ wsX90, w ∈ wf_c_X6_faultOf := fun w h => List.mem_cons_of_mem _ (List.mem_append_right _ h)
set_option maxRecDepth 20000 in
theorem gf_c_X6_faultOf_c_X9_expectEnd : GoodIn wf_c_X6_faultOf (wsV RX6 32 RX9 yX9_expectEnd wf_c_X9_expectEnd) := goodIn_app (gi_l [88, 89, 90, 5] rfl rfl) (gi_cons (j := 91) rfl rfl (goodIn_app (gi_l [83, 15, 16, 5, 17, 7, 18, 19, 65, 66, 67, 68, 8] rfl rfl) (goodIn_sub iw_c_X6_faultOf_X9 gw_X9)))
set_option maxRecDepth 20000 in
theorem gf_c_X6_faultOf_c_X9_wrongAt : GoodIn wf_c_X6_faultOf (wsV RX6 35 RX9 yX9_wrongAt wf_c_X9_wrongAt) := goodIn_app (gi_l [92, 93, 94, 5] rfl rfl) (gi_cons (j := 95) rfl rfl (goodIn_app (gi_l [8] rfl rfl) (goodIn_sub iw_c_X6_faultOf_X9 gw_X9)))
set_option maxRecDepth 20000 in
theorem gf_c_X6_faultOf_c_X6_readStep : GoodIn wf_c_X6_faultOf (wsV RX6 24 RX6 yX6_readStep wf_c_X6_readStep) := goodIn_app (gi_l [9, 10, 11, 12] rfl rfl) (gi_cons (j := 13) rfl rfl (goodIn_app (goodIn_app (gi_l [14, 15, 16, 5, 17, 7, 18, 19, 20, 21, 22, 23, 24, 25, 26, 27, 28, 29, 30, 31, 32, 33, 34, 35, 36, 37, 38, 39, 40, 41, 42, 43, 44, 45, 46, 47, 48, 49, 50, 51, 52, 53, 54, 55, 56, 57, 58, 59, 60, 61, 62, 63, 64, 65, 66, 67, 68, 8, 69, 70, 71, 72, 73, 74, 75, 76, 77, 78, 79, 80, 81, 82, 83, 1] rfl rfl) (goodIn_sub iw_c_X6_faultOf_X9 gw_X9)) (goodIn_sub iw_c_X6_faultOf_X6 gw_X6)))
set_option maxRecDepth 20000 in
theorem gf_c_X6_faultOf_c_X9_take : GoodIn wf_c_X6_faultOf (wsV RX6 28 RX9 yX9_take wf_c_X9_take) := goodIn_app (gi_l [84, 85, 86, 5] rfl rfl) (gi_cons (j := 87) rfl rfl (goodIn_app (gi_l [8, 83, 15, 16, 5, 17, 7, 18, 19] rfl rfl) (goodIn_sub iw_c_X6_faultOf_X9 gw_X9)))
set_option maxRecDepth 20000 in
theorem gf_c_X6_faultOf_c_X9_rewind : GoodIn wf_c_X6_faultOf (wsV RX6 19 RX9 yX9_rewind wf_c_X9_rewind) := goodIn_app (gi_l [2, 3, 4, 5] rfl rfl) (gi_cons (j := 6) rfl rfl (goodIn_app (gi_l [7, 8] rfl rfl) (goodIn_sub iw_c_X6_faultOf_X9 gw_X9)))
set_option maxHeartbeats 4000000 in
set_option maxRecDepth 100000 in
theorem c_X6_faultOf (l : Launch) (dC : Nat → ClassId) (dI : Nat → Nat → Nat) (sz : Nat) (h0 : Nat) (h1 : Nat) (h0_0 : Nat) (h0_f1 : Int32) (h1_0 : Nat) (h1_f1 : Int32) (h1_f2 : Int32) (h1_f3 : Int32) (h1_0k : ClassId) (h1_0c : Nat → Int32) (h0_0k : ClassId) (h0_0c : Nat → Int32) (ts5 : Nat) (tv5 : Nat) (ta4 : Nat) (g_h0_f1 : RG h0_f1 0 16) (g_h1_f1 : RG h1_f1 0 240) (g_h1_f2 : RG h1_f2 0 240) (g_h1_f3 : RG h1_f3 (-1) 240) (a_h1_0c : AI h1_0c 0 255) (a_h0_0c : AI h0_0c (-1) 9) : Met l yX6_faultOf wf_c_X6_faultOf ({ frames := 5, cells := 0, slots := 0, locals := 116 }) (va_Pc [.ref h0, .ref h1] (fun U => U.heap.size = sz ∧ va_P (dC, dI) vwCl (wd_c_X6_faultOf h0 h0_0 h0_f1 h1 h1_0 h1_f1 h1_f2 h1_f3 h1_0 h1_0k h1_0c h0_0 h0_0k h0_0c) U.heap ∧ va_K (dC, dI) vwCl [(h1_0k, .int), (h0_0k, .int)] U ∧ va_D (fun _ => True) (wd_c_X6_faultOf h0 h0_0 h0_f1 h1 h1_0 h1_f1 h1_f2 h1_f3 h1_0 h1_0k h1_0c h0_0 h0_0k h0_0c) ∧ vk_R RX6 42 "gsch" ts5 U ∧ va_Z "java/lang/String" "COMPACT_STRINGS" "Z" (.int 1) (va_A (wd_c_X6_faultOf h0 h0_0 h0_f1 h1 h1_0 h1_f1 h1_f2 h1_f3 h1_0 h1_0k h1_0c h0_0 h0_0k h0_0c) sz) U U.heap ∧ va_OF "java/lang/String" "coder" "B" (.int 0) ts5 (va_A (wd_c_X6_faultOf h0 h0_0 h0_f1 h1 h1_0 h1_f1 h1_f2 h1_f3 h1_0 h1_0k h1_0c h0_0 h0_0k h0_0c) sz) U U.heap ∧ va_O "java/lang/String" ts5 (va_A (wd_c_X6_faultOf h0 h0_0 h0_f1 h1 h1_0 h1_f1 h1_f2 h1_f3 h1_0 h1_0k h1_0c h0_0 h0_0k h0_0c) sz) U U.heap ∧ va_OF "java/lang/String" "value" "[B" (.ref tv5) ts5 (va_A (wd_c_X6_faultOf h0 h0_0 h0_f1 h1 h1_0 h1_f1 h1_f2 h1_f3 h1_0 h1_0k h1_0c h0_0 h0_0k h0_0c) sz) U U.heap ∧ va_T .byte tv5 4 (fun j => .int ([103, 115, 99, 104].getD j 0)) (va_A (wd_c_X6_faultOf h0 h0_0 h0_f1 h1 h1_0 h1_f1 h1_f2 h1_f3 h1_0 h1_0k h1_0c h0_0 h0_0k h0_0c) sz) U U.heap ∧ va_Z "BuoyVote$Plan" "DIGITS" "[I" (.ref ta4) (va_A (wd_c_X6_faultOf h0 h0_0 h0_f1 h1 h1_0 h1_f1 h1_f2 h1_f3 h1_0 h1_0k h1_0c h0_0 h0_0k h0_0c) sz) U U.heap ∧ va_T .int ta4 4 (fun j => .int ([3, 2, 2, 1].getD j 0)) (va_A (wd_c_X6_faultOf h0 h0_0 h0_f1 h1 h1_0 h1_f1 h1_f2 h1_f3 h1_0 h1_0k h1_0c h0_0 h0_0k h0_0c) sz) U U.heap)) (va_Qi (fun (r : Int32) (u : (Int32) × (Int32) × (Int32) × (Nat → Int32)) => (RG r (-1) 240 ∧ RG u.1 0 16 ∧ RG u.2.1 0 240 ∧ RG u.2.2.1 (-1) 240 ∧ AI (u.2.2.2) (-1) 9 ∧ (r, u.1, u.2.1, u.2.2.1, u.2.2.2) = fx_c_X6_faultOf h1_f1 h1_0c h0_0c)) (fun (u : (Int32) × (Int32) × (Int32) × (Nat → Int32)) t => va_P (dC, dI) vwCl (wd_c_X6_faultOf h0 h0_0 (u.1) h1 h1_0 h1_f1 (u.2.1) (u.2.2.1) h1_0 h1_0k h1_0c h0_0 h0_0k (u.2.2.2)) t.heap ∧ va_K (dC, dI) vwCl [] t ∧ va_D (va_A (wd_c_X6_faultOf h0 h0_0 h0_f1 h1 h1_0 h1_f1 h1_f2 h1_f3 h1_0 h1_0k h1_0c h0_0 h0_0k h0_0c) sz) (wd_c_X6_faultOf h0 h0_0 (u.1) h1 h1_0 h1_f1 (u.2.1) (u.2.2.1) h1_0 h1_0k h1_0c h0_0 h0_0k (u.2.2.2))) (va_A (wd_c_X6_faultOf h0 h0_0 h0_f1 h1 h1_0 h1_f1 h1_f2 h1_f3 h1_0 h1_0k h1_0c h0_0 h0_0k h0_0c) sz)) 0 0 (va_A (wd_c_X6_faultOf h0 h0_0 h0_f1 h1 h1_0 h1_f1 h1_f2 h1_f3 h1_0 h1_0k h1_0c h0_0 h0_0k h0_0c) sz) := by
  refine Met.ofW (cc := cX6_faultOf) (maxL := 3) (ret := (some .int)) (by decide +kernel) rfl ?_
  intro p e s m args below meth c s₁ B hml hv
  obtain ⟨rfl, hsz, hP, hK, hD0, hE_37, hE_10, hE_39, hE_38, hE_40, hE_41, hE_8, hE_9⟩ := hv
  have hx := B.exec
  have hb := B.bytes
  have hr := B.returns
  have hts := atoms_spec (ws := wf_c_X6_faultOf) B.pre
  have hown : s.vm.findClass RX6 = some m.cls := findClass_of_methodNamed B.named
  have hlocks := B.notSynchronized
  subst hsz
  have hD := hD0.self (sz := s.heap.size)
  generalize hAe : va_A (wd_c_X6_faultOf h0 h0_0 h0_f1 h1 h1_0 h1_f1 h1_f2 h1_f3 h1_0 h1_0k h1_0c h0_0 h0_0k h0_0c) s.heap.size = A at hD hE_10 hE_39 hE_38 hE_40 hE_41 hE_8 hE_9 ⊢
  have hA : ∀ q : Nat, s.heap.size ≤ q → A q := fun q h => by rw [← hAe]; exact Or.inr h
  have hP : va_P (dC, dI) vwCl (wd_c_X6_faultOf h0 h0_0 h0_f1 h1 h1_0 h1_f1 h1_f2 h1_f3 h1_0 h1_0k h1_0c h0_0 h0_0k h0_0c) s.heap := hP
  have hl := lv_entry ([.ref h0, .ref h1]) (n := 3) (Nat.le_of_ble_eq_true rfl)
  rw [lg_entry_eq]
  generalize (lg_sl ([.ref h0, .ref h1]) ++ List.replicate (3 - (lg_sl ([.ref h0, .ref h1])).length) Slot.unset).toArray = ls at hl ⊢
  have hl : lv_has ls 3 [(0, .ref h0), (1, .ref h1)] := hl
  obtain ⟨H, hHe⟩ : ∃ H : Heap, s.heap = H := ⟨_, rfl⟩
  have hS : va_S A s.heap H [] := by rw [hHe]; exact va_S.rf
  have hP : va_P (dC, dI) vwCl (wd_c_X6_faultOf h0 h0_0 h0_f1 h1 h1_0 h1_f1 h1_f2 h1_f3 h1_0 h1_0k h1_0c h0_0 h0_0k h0_0c) H := by rw [← hHe]; exact hP
  rw [hHe]
  obtain ⟨RES, hR⟩ : ∃ z, fx_c_X6_faultOf h1_f1 h1_0c h0_0c = z := ⟨_, rfl⟩
  have hEX : RES = fx_c_X6_faultOf h1_f1 h1_0c h0_0c := hR.symm
  refine wj (fun G hG hU => ?_)
  as_aux_lemma =>
  have J47 : ∀ (j47_h0_f1 : Int32) (j47_h1_f2 : Int32) (j47_h1_f3 : Int32) (j47_h0_0c : Nat → Int32) (g_h0_f1 : RG h0_f1 0 16) (g_h1_f1 : RG h1_f1 0 240) (g_h1_f2 : RG h1_f2 0 240) (g_h1_f3 : RG h1_f3 (-1) 240) (g_j47_h0_f1 : RG j47_h0_f1 0 16) (g_j47_h1_f2 : RG j47_h1_f2 0 240) (g_j47_h1_f3 : RG j47_h1_f3 (-1) 240) (a_j47_h0_0c : AI j47_h0_0c (-1) 9) (hEX : RES = fx_c_X6_faultOf_p47 h1_f1 h1_0c j47_h0_f1 j47_h1_f2 j47_h1_f3 j47_h0_0c) (H : Heap) (locs : List Loc) (ls : Array Slot) (hP : va_P (dC, dI) vwCl (wd_c_X6_faultOf h0 h0_0 j47_h0_f1 h1 h1_0 h1_f1 j47_h1_f2 j47_h1_f3 h1_0 h1_0k h1_0c h0_0 h0_0k j47_h0_0c) H) (hD : va_D A (wd_c_X6_faultOf h0 h0_0 j47_h0_f1 h1 h1_0 h1_f1 j47_h1_f2 j47_h1_f3 h1_0 h1_0k h1_0c h0_0 h0_0k j47_h0_0c)) (hS : va_S A s.heap H locs) (hl : lv_has ls 3 [(1, .ref h1)]), G H locs (F0 m 47 ls []) := by
    as_aux_lemma =>
    intro j47_h0_f1 j47_h1_f2 j47_h1_f3 j47_h0_0c g_h0_f1 g_h1_f1 g_h1_f2 g_h1_f3 g_j47_h0_f1 g_j47_h1_f2 g_j47_h1_f3 a_j47_h0_0c hEX H locs ls hP hD hS hl
    refine hG _ _ _ ?_
    refine lv_aload_n hx hb dX6_faultOf_47 rfl (lv_at hl 0 rfl) ?_
    obtain ⟨hPc, hDc, hFc, hqc⟩ := cl_cut (wc := (wd_c_X9_expectEnd h1 h1_0 h1_f1 j47_h1_f2 j47_h1_f3 h1_0 h1_0k h1_0c)) hP hD hS hA [1, 2] (by decide +kernel) rfl
    have hKc := hK.sub (tys' := [(h1_0k, .int)]) [0] rfl
    have hrv := va_recv hKc hPc (ci := 9) (q0 := 0) rfl rfl
    refine va_callv (va_runV (As := []) (rest := []) ⟨hx, hb, hml, hown, hts⟩ (c_X9_expectEnd l dC dI H.size h1 h1_0 h1_f1 j47_h1_f2 j47_h1_f3 h1_0k h1_0c g_h1_f1 g_j47_h1_f2 g_j47_h1_f3 a_h1_0c) (cwV 0 hts gf_c_X6_faultOf_c_X9_expectEnd rfl rfl rfl mdV_X9_expectEnd ⟨Nat.le_of_ble_eq_true rfl, Nat.le_of_ble_eq_true rfl⟩) ⟨fun a U g mk q => by obtain ⟨q0, q1, qP, qK, qD⟩ := q; exact ⟨q0, q1, qP, va_K.moved (u := U) (U := U.calling g mk a) (Vm.Alike.refl U.vm) qK, qD⟩, hrv, fun U hU hW => ⟨rfl, by rw [hU], by rw [hU]; exact hPc, va_K.moved hW.alike hKc, hDc.weaken (fun _ _ _ _ => trivial)⟩⟩ rfl rfl hl.1 rfl (lv_room (Nat.le_of_ble_eq_true rfl)) dX6_faultOf_48 ⟨Nat.le_of_ble_eq_true rfl, Nat.le_of_ble_eq_true rfl⟩) hS (fun q _ h => hFc q h) hFc (fun u t H1 locs ht hvm hw hB hz1 hk1 hS => ?_)
    obtain ⟨x_2, x_3⟩ := u
    obtain ⟨hP1, hK1, hD1⟩ := hB
    rw [ht] at hP1
    obtain ⟨hP, hD⟩ := cl_put (w1 := (wd_c_X9_expectEnd h1 h1_0 h1_f1 x_2 x_3 h1_0 h1_0k h1_0c)) (nw := (wd_c_X6_faultOf h0 h0_0 j47_h0_f1 h1 h1_0 h1_f1 x_2 x_3 h1_0 h1_0k h1_0c h0_0 h0_0k j47_h0_0c)) hP hD [1, 2] [0, 4, 5, 3] 4 rfl hqc (by decide +kernel) rfl hk1 hFc hP1 hD1
    generalize H1 = H at hP hS ⊢
    as_aux_lemma =>
    rcases hw with ⟨h_4, h_5, h_6, h_7⟩
    have h_7 : (x_2, x_3) = _ := h_7
    replace hEX := hEX.trans (exc2_eq h_7)
    refine lv_aload_n hx hb dX6_faultOf_51 rfl (lv_at hl 0 rfl) ?_
    obtain ⟨hPc, hDc, hFc, hqc⟩ := cl_cut (wc := (wd_c_X9_wrongAt h1 h1_0 h1_f1 x_2 x_3)) hP hD hS hA [1] (by decide +kernel) rfl
    have hKc := hK.sub (tys' := []) [] rfl
    have hrv := va_recv hKc hPc (ci := 9) (q0 := 0) rfl rfl
    refine va_calli (va_runV (As := []) (rest := []) ⟨hx, hb, hml, hown, hts⟩ (c_X9_wrongAt l dC dI H.size h1 h1_0 h1_f1 x_2 x_3 g_h1_f1 h_4 h_5) (cwV 0 hts gf_c_X6_faultOf_c_X9_wrongAt rfl rfl rfl mdV_X9_wrongAt ⟨Nat.le_of_ble_eq_true rfl, Nat.le_of_ble_eq_true rfl⟩) ⟨fun a U g mk q => by obtain ⟨q0, q1, qP, qK, qD⟩ := q; exact ⟨q0, q1, qP, va_K.moved (u := U) (U := U.calling g mk a) (Vm.Alike.refl U.vm) qK, qD⟩, hrv, fun U hU hW => ⟨rfl, by rw [hU], by rw [hU]; exact hPc, va_K.moved hW.alike hKc, hDc.weaken (fun _ _ _ _ => trivial)⟩⟩ rfl rfl hl.1 rfl (lv_room (Nat.le_of_ble_eq_true rfl)) dX6_faultOf_52 ⟨Nat.le_of_ble_eq_true rfl, Nat.le_of_ble_eq_true rfl⟩) hS (fun q _ h => hFc q h) hFc (fun r_8 u t H1 locs ht hvm hw hB hz1 hk1 hS => ?_)
    obtain ⟨hP1, hK1, hD1⟩ := hB
    rw [ht] at hP1
    obtain ⟨hP, hD⟩ := cl_put (w1 := (wd_c_X9_wrongAt h1 h1_0 h1_f1 x_2 x_3)) (nw := (wd_c_X6_faultOf h0 h0_0 j47_h0_f1 h1 h1_0 h1_f1 x_2 x_3 h1_0 h1_0k h1_0c h0_0 h0_0k j47_h0_0c)) hP hD [1] [0, 4, 2, 3] 4 rfl hqc (by decide +kernel) rfl hk1 hFc hP1 hD1
    generalize H1 = H at hP hS ⊢
    as_aux_lemma =>
    rcases hw with ⟨h_9, h_10⟩
    have h_10 : r_8 = _ := h_10
    replace hEX := hEX.trans (exc1_eq h_10)
    have hK9 := hK.sub (tys' := []) [] rfl
    exact W.iret (v := r_8) hx hb hr (fun t ht hW => ⟨⟨r_8, (j47_h0_f1, x_2, x_3, j47_h0_0c), rfl, ⟨h_9, g_j47_h0_f1, h_4, h_5, a_j47_h0_0c, (hR.trans hEX).symm⟩, by rw [ht]; exact hP, va_K.moved hW.alike hK9, hD⟩, hS.F ht⟩) hS.2.2 dX6_faultOf_55
  have J11 : ∀ (n11 : Nat) (j11_l2 : Int32) (j11_h0_f1 : Int32) (j11_h1_f2 : Int32) (j11_h1_f3 : Int32) (j11_h0_0c : Nat → Int32) (hM11 : MU j11_l2 < n11) (g_h0_f1 : RG h0_f1 0 16) (g_h1_f1 : RG h1_f1 0 240) (g_h1_f2 : RG h1_f2 0 240) (g_h1_f3 : RG h1_f3 (-1) 240) (g_j11_h0_f1 : RG j11_h0_f1 0 16) (g_j11_h1_f2 : RG j11_h1_f2 0 240) (g_j11_h1_f3 : RG j11_h1_f3 (-1) (-1)) (g_j11_l2 : RG j11_l2 0 15) (a_j11_h0_0c : AI j11_h0_0c (-1) 9) (hEX : RES = fx_c_X6_faultOf_p11 h1_f1 h1_0c n11 j11_l2 j11_h0_f1 j11_h1_f2 j11_h1_f3 j11_h0_0c) (H : Heap) (locs : List Loc) (ls : Array Slot) (hP : va_P (dC, dI) vwCl (wd_c_X6_faultOf h0 h0_0 j11_h0_f1 h1 h1_0 h1_f1 j11_h1_f2 j11_h1_f3 h1_0 h1_0k h1_0c h0_0 h0_0k j11_h0_0c) H) (hD : va_D A (wd_c_X6_faultOf h0 h0_0 j11_h0_f1 h1 h1_0 h1_f1 j11_h1_f2 j11_h1_f3 h1_0 h1_0k h1_0c h0_0 h0_0k j11_h0_0c)) (hS : va_S A s.heap H locs) (hl : lv_has ls 3 [(2, .int j11_l2), (0, .ref h0), (1, .ref h1)]), G H locs (F0 m 11 ls []) := by
    as_aux_lemma =>
    intro n11
    induction n11 with
    | zero => intros; exact absurd (by assumption) (Nat.not_lt_zero _)
    | succ n11 ih11 =>
      intro j11_l2 j11_h0_f1 j11_h1_f2 j11_h1_f3 j11_h0_0c hM11 g_h0_f1 g_h1_f1 g_h1_f2 g_h1_f3 g_j11_h0_f1 g_j11_h1_f2 g_j11_h1_f3 g_j11_l2 a_j11_h0_0c hEX H locs ls hP hD hS hl
      refine hG _ _ _ ?_
      replace hEX := hEX.trans (if_pos (rfl : j11_l2 = j11_l2))
      refine lv_iload_n hx hb dX6_faultOf_11 rfl (lv_at hl 0 rfl) ?_
      refine lv_bipush (v := 16) hx hb dX6_faultOf_12 kc_bipush_16 ?_
      refine lv_icmp_ge (tgt := 47) hx hb dX6_faultOf_14 rfl (fun c_11 => ?_) (fun c_11 => ?_)
      · replace hEX := hEX.trans (if_pos c_11)
        exact RG_dead (RG_le1 (RG_k 16 16 rfl) g_j11_l2 c_11 (b' := 15) (by decide +kernel)) (by decide +kernel)
      · replace hEX := hEX.trans (if_neg c_11)
        have d_12 := Int32.not_le.mp c_11
        refine lv_aload_n hx hb dX6_faultOf_17 rfl (lv_at hl 1 rfl) ?_
        as_aux_lemma =>
        refine lv_aload_n hx hb dX6_faultOf_18 rfl (lv_at hl 2 rfl) ?_
        refine lv_iload_n hx hb dX6_faultOf_19 rfl (lv_at hl 0 rfl) ?_
        obtain ⟨hPc, hDc, hFc, hqc⟩ := cl_cut (wc := (wd_c_X6_readStep h1 h1_0 h1_f1 j11_h1_f2 j11_h1_f3 h1_0 h1_0k h1_0c h0 h0_0 j11_h0_f1 h0_0 h0_0k j11_h0_0c)) hP hD hS hA [1, 2, 0, 3] (by decide +kernel) rfl
        have hKc := hK.sub (tys' := [(h1_0k, .int), (h0_0k, .int)]) [0, 1] rfl
        have hrv := va_recv hKc hPc (ci := 6) (q0 := 2) rfl rfl
        refine va_callv (va_runV (As := [.ref h1, .int j11_l2]) (rest := []) ⟨hx, hb, hml, hown, hts⟩ (c_X6_readStep l dC dI H.size h0 h1 j11_l2 h1_0 h1_f1 j11_h1_f2 j11_h1_f3 h1_0k h1_0c h0_0 j11_h0_f1 h0_0k j11_h0_0c ts5 tv5 ta4 g_j11_l2 g_h1_f1 g_j11_h1_f2 (RG_w g_j11_h1_f3 (by decide +kernel)) a_h1_0c g_j11_h0_f1 a_j11_h0_0c) (cwV 2 hts gf_c_X6_faultOf_c_X6_readStep rfl rfl rfl mdV_X6_readStep ⟨Nat.le_of_ble_eq_true rfl, Nat.le_of_ble_eq_true rfl⟩) ⟨fun a U g mk q => by obtain ⟨q0, q1, qP, qK, qD, qE0, qE1, qE2, qE3, qE4, qE5, qE6, qE7⟩ := q; exact ⟨q0, q1, qP, va_K.moved (u := U) (U := U.calling g mk a) (Vm.Alike.refl U.vm) qK, qD, vk_R.same rfl qE0, va_Z.moved (u := U) (U := U.calling g mk a) (Vm.Alike.refl U.vm) qE1, va_OF.moved (u := U) (U := U.calling g mk a) (Vm.Alike.refl U.vm) qE2, va_O.moved (u := U) (U := U.calling g mk a) (Vm.Alike.refl U.vm) qE3, va_OF.moved (u := U) (U := U.calling g mk a) (Vm.Alike.refl U.vm) qE4, va_T.moved (u := U) (U := U.calling g mk a) (Vm.Alike.refl U.vm) qE5, va_Z.moved (u := U) (U := U.calling g mk a) (Vm.Alike.refl U.vm) qE6, va_T.moved (u := U) (U := U.calling g mk a) (Vm.Alike.refl U.vm) qE7⟩, hrv, fun U hU hW => ⟨rfl, by rw [hU], by rw [hU]; exact hPc, va_K.moved hW.alike hKc, hDc.weaken (fun _ _ _ _ => trivial), vk_R.warm hW hE_37, va_Z.moved hW.alike (by rw [hU]; exact (hE_10.kept hS.2.1).narrow hFc), va_OF.moved hW.alike (by rw [hU]; exact (hE_39.kept hS.2.1).narrow hFc), va_O.moved hW.alike (by rw [hU]; exact (hE_38.kept hS.2.1).narrow hFc), va_OF.moved hW.alike (by rw [hU]; exact (hE_40.kept hS.2.1).narrow hFc), va_T.moved hW.alike (by rw [hU]; exact (hE_41.kept hS.2.1).narrow hFc), va_Z.moved hW.alike (by rw [hU]; exact (hE_8.kept hS.2.1).narrow hFc), va_T.moved hW.alike (by rw [hU]; exact (hE_9.kept hS.2.1).narrow hFc)⟩⟩ rfl rfl hl.1 rfl (lv_room (Nat.le_of_ble_eq_true rfl)) dX6_faultOf_20 ⟨Nat.le_of_ble_eq_true rfl, Nat.le_of_ble_eq_true rfl⟩) hS (fun q _ h => hFc q h) hFc (fun u t H1 locs ht hvm hw hB hz1 hk1 hS => ?_)
        obtain ⟨x_14, x_15, x_16, w_17⟩ := u
        obtain ⟨hP1, hK1, hD1⟩ := hB
        rw [ht] at hP1
        obtain ⟨hP, hD⟩ := cl_put (w1 := (wd_c_X6_readStep h1 h1_0 h1_f1 x_14 x_15 h1_0 h1_0k h1_0c h0 h0_0 x_16 h0_0 h0_0k w_17)) (nw := (wd_c_X6_faultOf h0 h0_0 x_16 h1 h1_0 h1_f1 x_14 x_15 h1_0 h1_0k h1_0c h0_0 h0_0k w_17)) hP hD [1, 2, 0, 3] [6, 4, 5, 7] 4 rfl hqc (by decide +kernel) rfl hk1 hFc hP1 hD1
        generalize H1 = H at hP hS ⊢
        as_aux_lemma =>
        rcases hw with ⟨h_18, h_19, h_20, h_21, h_22⟩
        have h_22 : (x_14, x_15, x_16, w_17) = _ := h_22
        replace hEX := hEX.trans (exc4_eq h_22)
        refine lv_iload_n hx hb dX6_faultOf_23 rfl (lv_at hl 0 rfl) ?_
        refine lv_bipush (v := 15) hx hb dX6_faultOf_24 kc_bipush_15 ?_
        refine lv_icmp_eq (tgt := 47) hx hb dX6_faultOf_26 rfl (fun c_23 => ?_) (fun c_23 => ?_)
        · replace hEX := hEX.trans (if_pos c_23)
          have g_24 : RG j11_l2 15 15 := RG_eq1 g_j11_l2 (RG_k 15 15 rfl) c_23 (by decide +kernel)
          exact hU _ _ _ (J47 x_16 x_14 x_15 w_17 g_h0_f1 g_h1_f1 g_h1_f2 g_h1_f3 h_20 h_18 h_19 h_21 hEX _ _ _ hP hD hS (lv_sub hl [2] rfl))
        · replace hEX := hEX.trans (if_neg c_23)
          have g_25 : RG j11_l2 0 14 := RG_ne1 g_j11_l2 (q := 15) rfl c_23 (by decide +kernel)
          refine lv_aload_n hx hb dX6_faultOf_29 rfl (lv_at hl 2 rfl) ?_
          refine lv_bipush (v := 59) hx hb dX6_faultOf_30 kc_bipush_59 ?_
          obtain ⟨hPc, hDc, hFc, hqc⟩ := cl_cut (wc := (wd_c_X9_take h1 h1_0 h1_f1 x_14 x_15 h1_0 h1_0k h1_0c)) hP hD hS hA [1, 2] (by decide +kernel) rfl
          have hKc := hK.sub (tys' := [(h1_0k, .int)]) [0] rfl
          have hrv := va_recv hKc hPc (ci := 9) (q0 := 0) rfl rfl
          refine va_calli (va_runV (As := [.int 59]) (rest := []) ⟨hx, hb, hml, hown, hts⟩ (c_X9_take l dC dI H.size h1 59 h1_0 h1_f1 x_14 x_15 h1_0k h1_0c (RG_w (RG_k 59 59 rfl) (by decide +kernel)) g_h1_f1 h_18 h_19 a_h1_0c) (cwV 1 hts gf_c_X6_faultOf_c_X9_take rfl rfl rfl mdV_X9_take ⟨Nat.le_of_ble_eq_true rfl, Nat.le_of_ble_eq_true rfl⟩) ⟨fun a U g mk q => by obtain ⟨q0, q1, qP, qK, qD⟩ := q; exact ⟨q0, q1, qP, va_K.moved (u := U) (U := U.calling g mk a) (Vm.Alike.refl U.vm) qK, qD⟩, hrv, fun U hU hW => ⟨rfl, by rw [hU], by rw [hU]; exact hPc, va_K.moved hW.alike hKc, hDc.weaken (fun _ _ _ _ => trivial)⟩⟩ rfl rfl hl.1 rfl (lv_room (Nat.le_of_ble_eq_true rfl)) dX6_faultOf_32 ⟨Nat.le_of_ble_eq_true rfl, Nat.le_of_ble_eq_true rfl⟩) hS (fun q _ h => hFc q h) hFc (fun r_26 x_27 t H1 locs ht hvm hw hB hz1 hk1 hS => ?_)
          as_aux_lemma =>
          obtain ⟨hP1, hK1, hD1⟩ := hB
          rw [ht] at hP1
          obtain ⟨hP, hD⟩ := cl_put (w1 := (wd_c_X9_take h1 h1_0 h1_f1 x_27 x_15 h1_0 h1_0k h1_0c)) (nw := (wd_c_X6_faultOf h0 h0_0 x_16 h1 h1_0 h1_f1 x_27 x_15 h1_0 h1_0k h1_0c h0_0 h0_0k w_17)) hP hD [1, 2] [0, 4, 5, 3] 4 rfl hqc (by decide +kernel) rfl hk1 hFc hP1 hD1
          generalize H1 = H at hP hS ⊢
          as_aux_lemma =>
          rcases hw with ⟨h_28, h_29, h_30, h_31⟩ | ⟨h_32, h_33, h_34, h_35, h_36, h_37⟩
          · have h_31 : (r_26, x_27) = _ := h_31
            replace hEX := hEX.trans (exc2_eq h_31)
            replace hEX := hEX.trans (if_pos (show r_26 = 0 from h_28))
            rw [h_28]
            refine lv_if_ne (tgt := 41) hx hb dX6_faultOf_35 rfl (fun c_38 => absurd c_38 (by decide +kernel)) (fun c_38 => ?_)
            refine lv_goto (tgt := 47) hx hb dX6_faultOf_38 rfl ?_
            exact hU _ _ _ (J47 x_16 x_27 x_15 w_17 g_h0_f1 g_h1_f1 g_h1_f2 g_h1_f3 h_20 h_29 h_19 h_21 hEX _ _ _ hP hD hS (lv_sub hl [2] rfl))
          · have h_37 : (r_26, x_27) = _ := h_37
            replace hEX := hEX.trans (exc2_eq h_37)
            replace hEX := hEX.trans (if_neg (fun q9 : r_26 = 0 => absurd ((show r_26 = 1 from h_32).symm.trans q9) (by decide +kernel)))
            rw [h_32]
            refine lv_if_ne (tgt := 41) hx hb dX6_faultOf_35 rfl (fun c_39 => ?_) (fun c_39 => absurd c_39 (by decide +kernel))
            obtain ⟨x_40, ex_40⟩ : ∃ y : Int32, y = j11_l2 + 1 := ⟨_, rfl⟩
            have g_41 : RG x_40 1 15 := RG_add ex_40 g_25 (RG_k 1 1 rfl) (by decide +kernel)
            replace hEX := hEX.trans (exl_eq ex_40)
            refine lv_iinc (v := x_40) (lv' := [(2, .int x_40), (0, .ref h0), (1, .ref h1)]) hx hb dX6_faultOf_41 hl (k := 0) rfl (by rw [ex_40]; rfl) (Nat.le_of_ble_eq_true rfl) rfl (fun ls hl => ?_)
            as_aux_lemma =>
            refine lv_goto (tgt := 11) hx hb dX6_faultOf_44 rfl ?_
            exact hU _ _ _ (ih11 x_40 x_16 x_27 x_15 w_17 (mu_s (MU_add ex_40 g_25 (q := 1) rfl (by decide +kernel)) hM11) g_h0_f1 (RG_w h_34 (by decide +kernel)) g_h1_f2 g_h1_f3 h_20 (RG_w h_33 (by decide +kernel)) h_35 (RG_w g_41 (by decide +kernel)) h_21 hEX _ _ _ hP hD hS (lv_sub hl [0, 1, 2] rfl))
  refine hG _ _ _ ?_
  refine lv_aload_n hx hb dX6_faultOf_0 rfl (lv_at hl 0 rfl) ?_
  refine lv_iconst (v := 0) hx hb dX6_faultOf_1 kc_iconst_0 ?_
  refine va_put (D := (dC, dI)) (ci := 6) (v := .int 0) (ty := .int) (C := RX6) (T := TX6) (N := 2) hx hb hts iw_c_X6_faultOf_X6 tyX6 tyX6_ok nmX6 hown hK hP hD hS 0 rfl rfl 1 (by decide +kernel) (hts (.fieldLink RX6 15 "BuoyVote$Plan" "steps" "I") (List.mem_of_getElem? (i := 1) rfl)) (fun _ h9 => h9) rfl (by decide +kernel) rfl rfl (Nat.le_of_ble_eq_true rfl) dX6_faultOf_2 (fun H locs hP hD hS => ?_)
  have hP : va_P (dC, dI) vwCl (wd_c_X6_faultOf h0 h0_0 0 h1 h1_0 h1_f1 h1_f2 h1_f3 h1_0 h1_0k h1_0c h0_0 h0_0k h0_0c) H := hP
  have hD : va_D A (wd_c_X6_faultOf h0 h0_0 0 h1 h1_0 h1_f1 h1_f2 h1_f3 h1_0 h1_0k h1_0c h0_0 h0_0k h0_0c) := hD
  refine lv_aload_n hx hb dX6_faultOf_5 rfl (lv_at hl 1 rfl) ?_
  obtain ⟨hPc, hDc, hFc, hqc⟩ := cl_cut (wc := (wd_c_X9_rewind h1 h1_0 h1_f1 h1_f2 h1_f3)) hP hD hS hA [1] (by decide +kernel) rfl
  have hKc := hK.sub (tys' := []) [] rfl
  have hrv := va_recv hKc hPc (ci := 9) (q0 := 0) rfl rfl
  refine va_callv (va_runV (As := []) (rest := []) ⟨hx, hb, hml, hown, hts⟩ (c_X9_rewind l dC dI H.size h1 h1_0 h1_f1 h1_f2 h1_f3 g_h1_f1 g_h1_f2 g_h1_f3) (cwV 0 hts gf_c_X6_faultOf_c_X9_rewind rfl rfl rfl mdV_X9_rewind ⟨Nat.le_of_ble_eq_true rfl, Nat.le_of_ble_eq_true rfl⟩) ⟨fun a U g mk q => by obtain ⟨q0, q1, qP, qK, qD⟩ := q; exact ⟨q0, q1, qP, va_K.moved (u := U) (U := U.calling g mk a) (Vm.Alike.refl U.vm) qK, qD⟩, hrv, fun U hU hW => ⟨rfl, by rw [hU], by rw [hU]; exact hPc, va_K.moved hW.alike hKc, hDc.weaken (fun _ _ _ _ => trivial)⟩⟩ rfl rfl hl.1 rfl (lv_room (Nat.le_of_ble_eq_true rfl)) dX6_faultOf_6 ⟨Nat.le_of_ble_eq_true rfl, Nat.le_of_ble_eq_true rfl⟩) hS (fun q _ h => hFc q h) hFc (fun u t H1 locs ht hvm hw hB hz1 hk1 hS => ?_)
  obtain ⟨hP1, hK1, hD1⟩ := hB
  rw [ht] at hP1
  obtain ⟨hP, hD⟩ := cl_put (w1 := (wd_c_X9_rewind h1 h1_0 h1_f1 0 (-1))) (nw := (wd_c_X6_faultOf h0 h0_0 0 h1 h1_0 h1_f1 0 (-1) h1_0 h1_0k h1_0c h0_0 h0_0k h0_0c)) hP hD [1] [0, 4, 2, 3] 4 rfl hqc (by decide +kernel) rfl hk1 hFc hP1 hD1
  generalize H1 = H at hP hS ⊢
  as_aux_lemma =>
  have h_43 := hw
  refine lv_iconst (v := 0) hx hb dX6_faultOf_9 kc_iconst_0 ?_
  refine lv_istore_n (lv' := [(2, .int 0), (0, .ref h0), (1, .ref h1)]) hx hb dX6_faultOf_10 rfl hl (Nat.le_of_ble_eq_true rfl) rfl (fun ls hl => ?_)
  exact hU _ _ _ (J11 exF 0 0 0 (-1) h0_0c MU_F g_h0_f1 g_h1_f1 g_h1_f2 g_h1_f3 (RG_w (RG_k 0 0 rfl) (by decide +kernel)) (RG_w (RG_k 0 0 rfl) (by decide +kernel)) (RG_k (-1) (-1) rfl) (RG_w (RG_k 0 0 rfl) (by decide +kernel)) a_h0_0c hEX _ _ _ hP hD hS (lv_sub hl [0, 1, 2] rfl))
noncomputable def wd_c_X11_fault (a0 : Nat) (a1 : Nat) (a2 : Nat) (a3 : Nat) (a4 : Nat) (a5 : Nat) (a6 : Int32) (a7 : Nat) (a8 : Nat) (a9 : Nat) (a10 : Nat) (a11 : Nat) (a12 : Nat) (a13 : Nat) (a14 : Nat) (a15 : Nat) (a16 : Int64) (a17 : Nat) (a18 : Nat) (a19 : Int32) (a20 : Int32) (a21 : Int32) (a22 : Nat) (a23 : ClassId) (a24 : Nat → Int32) (a25 : Nat) (a26 : Nat) (a27 : Int32) (a28 : Int32) (a29 : Int32) (a30 : Nat) (a31 : ClassId) (a32 : Nat → Int32) (a33 : Nat) (a34 : Nat) (a35 : Int32) (a36 : Int32) (a37 : Nat) (a38 : Nat) (a39 : ClassId) (a40 : Nat → Option Nat) (a41 : Nat) (a42 : Nat) (a43 : Int32) (a44 : Nat) (a45 : Nat) (a46 : ClassId) (a47 : Nat → Int32) (a48 : Nat) (a49 : Nat) (a50 : Int32) (a51 : Nat) (a52 : Nat) (a53 : ClassId) (a54 : Nat → Int32) (a55 : Nat) (a56 : Nat) (a57 : Int32) (a58 : Nat) (a59 : Nat) (a60 : ClassId) (a61 : Nat → Int32) (a62 : Nat) (a63 : Nat) (a64 : Int32) (a65 : Nat) (a66 : Nat) (a67 : ClassId) (a68 : Nat → Int32) (a69 : Nat) (a70 : Nat) (a71 : Int32) (a72 : Nat) (a73 : Nat) (a74 : ClassId) (a75 : Nat → Int32) (a76 : Nat) (a77 : ClassId) (a78 : Nat → Option Nat) (a79 : Nat) (a80 : Nat) (a81 : Int32) (a82 : Nat) (a83 : ClassId) (a84 : Nat → Int32) (a85 : Nat) (a86 : Nat) (a87 : Int32) (a88 : Nat) (a89 : ClassId) (a90 : Nat → Int32) (a91 : Nat) (a92 : Nat) (a93 : Int32) (a94 : Nat) (a95 : ClassId) (a96 : Nat → Int32) (a97 : Nat) (a98 : Nat) (a99 : Int32) (a100 : Nat) (a101 : ClassId) (a102 : Nat → Int32) (a103 : Nat) (a104 : Nat) (a105 : Int32) (a106 : Nat) (a107 : ClassId) (a108 : Nat → Int32) : va_W := [(a0, .inr (11, [.ref a1, .ref a2, .ref a3, .ref a4, .ref a5, .int a6, .ref a7, .ref a8, .ref a9, .ref a10, .ref a11, .ref a12, .ref a13, .ref a14, .ref a15, .long a16])), (a17, .inr (0, [.ref a18, .int a19, .int a20, .int a21])), (a22, .inl (a23, 80, .inl a24)), (a25, .inr (9, [.ref a26, .int a27, .int a28, .int a29])), (a30, .inl (a31, 240, .inl a32)), (a33, .inr (5, [.ref a34, .int a35, .int a36, .ref a37])), (a38, .inl (a39, 5, .inr (.inr (.inr (.inr a40))))), (a41, .inr (4, [.ref a42, .int a43, .ref a44])), (a45, .inl (a46, 240, .inl a47)), (a48, .inr (4, [.ref a49, .int a50, .ref a51])), (a52, .inl (a53, 240, .inl a54)), (a55, .inr (4, [.ref a56, .int a57, .ref a58])), (a59, .inl (a60, 240, .inl a61)), (a62, .inr (4, [.ref a63, .int a64, .ref a65])), (a66, .inl (a67, 240, .inl a68)), (a69, .inr (4, [.ref a70, .int a71, .ref a72])), (a73, .inl (a74, 240, .inl a75)), (a76, .inl (a77, 5, .inr (.inr (.inr (.inr a78))))), (a79, .inr (6, [.ref a80, .int a81])), (a82, .inl (a83, 64, .inl a84)), (a85, .inr (6, [.ref a86, .int a87])), (a88, .inl (a89, 64, .inl a90)), (a91, .inr (6, [.ref a92, .int a93])), (a94, .inl (a95, 64, .inl a96)), (a97, .inr (6, [.ref a98, .int a99])), (a100, .inl (a101, 64, .inl a102)), (a103, .inr (6, [.ref a104, .int a105])), (a106, .inl (a107, 64, .inl a108))]
noncomputable def wf_c_X11_fault : List Cond := List.cons (.code yX11_fault cX11_fault 2 (some .int)) (@HAppend.hAppend (List Cond) (List Cond) (List Cond) _ (@HAppend.hAppend (List Cond) (List Cond) (List Cond) _ (@HAppend.hAppend (List Cond) (List Cond) (List Cond) _ (@HAppend.hAppend (List Cond) (List Cond) (List Cond) _ (@HAppend.hAppend (List Cond) (List Cond) (List Cond) _ (@HAppend.hAppend (List Cond) (List Cond) (List Cond) _ [.fieldLink RX11 23 "BuoyVote" "draft" "LBuoyVote$Borough;", .fieldLink RX11 10 "BuoyVote" "tape" "LBuoyVote$Tape;", .methodLink RX11 115 yX0_faultOf, .instanceMethod yX0_faultOf, .selects RX0 yX0_faultOf yX0_faultOf, .initialized RX0, .code yX0_faultOf cX0_faultOf 3 (some .int), .fieldLink RX0 21 "BuoyVote$Borough" "buoys" "I", .fieldLink RX0 25 "BuoyVote$Borough" "boats" "I", .fieldLink RX0 28 "BuoyVote$Borough" "ruled" "Z", .methodLink RX0 32 yX0_setUsual, .instanceMethod yX0_setUsual, .selects RX0 yX0_setUsual yX0_setUsual, .code yX0_setUsual cX0_setUsual 5 none, .methodLink RX0 92 yX0_lettersOf, .static yX0_lettersOf, .code yX0_lettersOf cX0_lettersOf 1 (some (.object "java/lang/String")), .methodLink RX0 96 yJ0_length_8abf5, .instanceMethod yJ0_length_8abf5, .selects RJ0 yJ0_length_8abf5 yJ0_length_8abf5, .initialized RJ0, .code yJ0_length_8abf5 cJ0_length_8abf5 1 (some .int), .fieldLink RJ0 9 "java/lang/String" "value" "[B", .methodLink RJ0 335 yJ0_coder_7d493, .instanceMethod yJ0_coder_7d493, .selects RJ0 yJ0_coder_7d493 yJ0_coder_7d493, .code yJ0_coder_7d493 cJ0_coder_7d493 1 (some .byte), .fieldLink RJ0 38 "java/lang/String" "COMPACT_STRINGS" "Z", .fieldLink RJ0 15 "java/lang/String" "coder" "B", .fieldLink RX0 11 "BuoyVote$Borough" "values" "[I", .fieldLink RX0 113 "BuoyVote$Borough" "USUAL" "[I", .fieldLink RX0 103 "BuoyVote$Borough" "FIRST" "[I", .methodLink RX0 36 yX9_rewind, .instanceMethod yX9_rewind, .selects RX9 yX9_rewind yX9_rewind, .initialized RX9, .code yX9_rewind cX9_rewind 1 none, .fieldLink RX9 22 "BuoyVote$Tape" "at" "I", .fieldLink RX9 15 "BuoyVote$Tape" "wrong" "I", .methodLink RX0 41 yX0_readClause, .instanceMethod yX0_readClause, .selects RX0 yX0_readClause yX0_readClause, .code yX0_readClause cX0_readClause 8 none, .methodLink RX0 72 yX9_peek, .instanceMethod yX9_peek, .selects RX9 yX9_peek yX9_peek, .code yX9_peek cX9_peek 1 (some .int), .fieldLink RX9 19 "BuoyVote$Tape" "length" "I", .fieldLink RX9 11 "BuoyVote$Tape" "bytes" "[I", .methodLink RX0 75 yX0_placeIn, .static yX0_placeIn, .code yX0_placeIn cX0_placeIn 2 (some .int), .methodLink RX0 128 yJ0_indexOf_0f7a4, .instanceMethod yJ0_indexOf_0f7a4, .selects RJ0 yJ0_indexOf_0f7a4 yJ0_indexOf_0f7a4, .code yJ0_indexOf_0f7a4 cJ0_indexOf_0f7a4 2 (some .int), .methodLink RJ0 633 yJ0_indexOf_7cf53, .instanceMethod yJ0_indexOf_7cf53, .selects RJ0 yJ0_indexOf_7cf53 yJ0_indexOf_7cf53, .code yJ0_indexOf_7cf53 cJ0_indexOf_7cf53 3 (some .int), .methodLink RJ0 492 yJ0_isLatin1_aae02, .instanceMethod yJ0_isLatin1_aae02, .selects RJ0 yJ0_isLatin1_aae02 yJ0_isLatin1_aae02, .code yJ0_isLatin1_aae02 cJ0_isLatin1_aae02 1 (some .boolean), .methodLink RJ0 505 yJ0_length_8abf5, .methodLink RJ0 637 yJ1_indexOf_4cfef, .static yJ1_indexOf_4cfef, .initialized RJ1, .code yJ1_indexOf_4cfef cJ1_indexOf_4cfef 4 (some .int), .methodLink RJ1 88 yJ1_canEncode_9a6ad, .static yJ1_canEncode_9a6ad, .code yJ1_canEncode_9a6ad cJ1_canEncode_9a6ad 1 (some .boolean), .methodLink RJ1 92 Lib.Math.max.name, .static Lib.Math.max.name, .initialized "java/lang/Math", .code Lib.Math.max.name Lib.Math.max.code 2 (some .int), .methodLink RJ1 38 Lib.Math.min.name, .static Lib.Math.min.name, .code Lib.Math.min.name Lib.Math.min.code 2 (some .int), .methodLink RJ1 95 yJ1_indexOfChar_4cfef, .static yJ1_indexOfChar_4cfef, .code yJ1_indexOfChar_4cfef cJ1_indexOfChar_4cfef 6 (some .int), .methodLink RX0 79 yX0_hasRoomFor, .instanceMethod yX0_hasRoomFor, .selects RX0 yX0_hasRoomFor yX0_hasRoomFor, .code yX0_hasRoomFor cX0_hasRoomFor 2 (some .boolean), .methodLink RX0 85 yX9_skip, .instanceMethod yX9_skip, .selects RX9 yX9_skip yX9_skip, .code yX9_skip cX9_skip 1 none, .methodLink RX0 88 yX0_beginClause, .instanceMethod yX0_beginClause, .selects RX0 yX0_beginClause yX0_beginClause, .code yX0_beginClause cX0_beginClause 3 (some .int), .methodLink RX0 82 yX9_refuseHere, .instanceMethod yX9_refuseHere, .selects RX9 yX9_refuseHere yX9_refuseHere, .code yX9_refuseHere cX9_refuseHere 1 none, .methodLink RX9 25 yX9_refuse, .instanceMethod yX9_refuse, .selects RX9 yX9_refuse yX9_refuse, .code yX9_refuse cX9_refuse 2 none, .methodLink RX0 52 yX9_isRight, .instanceMethod yX9_isRight, .selects RX9 yX9_isRight yX9_isRight, .code yX9_isRight cX9_isRight 1 (some .boolean), .fieldLink RX0 100 "BuoyVote$Borough" "LOW" "[I", .fieldLink RX0 106 "BuoyVote$Borough" "HIGH" "[I", .methodLink RX0 109 yX9_numberWithin, .instanceMethod yX9_numberWithin, .selects RX9 yX9_numberWithin yX9_numberWithin, .code yX9_numberWithin cX9_numberWithin 4 (some .int), .methodLink RX9 29 yX9_peek, .methodLink RX9 33 yX9_number, .instanceMethod yX9_number, .selects RX9 yX9_number yX9_number, .code yX9_number cX9_number 4 (some .int), .methodLink RX0 45 yX9_take, .instanceMethod yX9_take, .selects RX9 yX9_take yX9_take, .code yX9_take cX9_take 2 (some .boolean), .methodLink RX0 49 yX9_expectEnd, .instanceMethod yX9_expectEnd, .selects RX9 yX9_expectEnd yX9_expectEnd, .code yX9_expectEnd cX9_expectEnd 1 none, .methodLink RX0 56 yX0_isWhole, .instanceMethod yX0_isWhole, .selects RX0 yX0_isWhole yX0_isWhole, .code yX0_isWhole cX0_isWhole 3 (some .boolean), .methodLink RX0 116 yX0_buoyX, .instanceMethod yX0_buoyX, .selects RX0 yX0_buoyX yX0_buoyX, .code yX0_buoyX cX0_buoyX 2 (some .int), .methodLink RX0 119 yX0_buoyY, .instanceMethod yX0_buoyY, .selects RX0 yX0_buoyY yX0_buoyY, .code yX0_buoyY cX0_buoyY 2 (some .int), .fieldLink RX0 59 "BuoyVote$Tape" "length" "I", .methodLink RX0 62 yX9_refuse, .methodLink RX0 66 yX9_wrongAt, .instanceMethod yX9_wrongAt, .selects RX9 yX9_wrongAt yX9_wrongAt, .code yX9_wrongAt cX9_wrongAt 1 (some .int), .fieldLink RX11 29 "BuoyVote" "laws" "LBuoyVote$LawBook;", .methodLink RX11 119 yX5_spare, .instanceMethod yX5_spare, .selects RX5 yX5_spare yX5_spare, .initialized RX5, .code yX5_spare cX5_spare 1 (some (.object "BuoyVote$Law")), .fieldLink RX5 11 "BuoyVote$LawBook" "laws" "[LBuoyVote$Law;", .fieldLink RX5 26 "BuoyVote$LawBook" "size" "I", .methodLink RX11 123 yX4_faultOf, .instanceMethod yX4_faultOf, .selects RX4 yX4_faultOf yX4_faultOf, .initialized RX4, .code yX4_faultOf cX4_faultOf 4 (some .int), .fieldLink RX4 20 "BuoyVote$Law" "length" "I", .methodLink RX4 34 yX9_rewind, .methodLink RX4 37 yX9_expect, .instanceMethod yX9_expect, .selects RX9 yX9_expect yX9_expect, .code yX9_expect cX9_expect 2 none, .methodLink RX4 41 yX9_peek, .methodLink RX4 45 yX4_startsUnit, .static yX4_startsUnit, .code yX4_startsUnit cX4_startsUnit 1 (some .boolean), .methodLink RX4 49 yX4_readSum, .instanceMethod yX4_readSum, .selects RX4 yX4_readSum yX4_readSum, .code yX4_readSum cX4_readSum 6 none, .methodLink RX4 72 yX9_isRight, .methodLink RX4 85 yX4_readAtom, .instanceMethod yX4_readAtom, .selects RX4 yX4_readAtom yX4_readAtom, .code yX4_readAtom cX4_readAtom 6 none, .methodLink RX4 93 yJ0_indexOf_0f7a4, .methodLink RX4 99 yX9_number, .methodLink RX4 82 yX9_refuseHere, .methodLink RX4 79 yX9_skip, .methodLink RX4 60 yX4_emit, .instanceMethod yX4_emit, .selects RX4 yX4_emit yX4_emit, .code yX4_emit cX4_emit 2 none, .fieldLink RX4 11 "BuoyVote$Law" "code" "[I", .methodLink RX4 88 yX9_takeEither, .instanceMethod yX9_takeEither, .selects RX9 yX9_takeEither yX9_takeEither, .code yX9_takeEither cX9_takeEither 4 (some .int), .methodLink RX4 53 yX4_isComparison, .static yX4_isComparison, .code yX4_isComparison cX4_isComparison 1 (some .boolean), .methodLink RX4 56 yX4_readCondition, .instanceMethod yX4_readCondition, .selects RX4 yX4_readCondition yX4_readCondition, .code yX4_readCondition cX4_readCondition 7 none, .methodLink RX4 76 yX4_readUnit, .instanceMethod yX4_readUnit, .selects RX4 yX4_readUnit yX4_readUnit, .code yX4_readUnit cX4_readUnit 5 none, .methodLink RX4 63 yX9_take, .methodLink RX4 66 yX9_expectEnd, .methodLink RX4 69 yX9_wrongAt, .fieldLink RX11 35 "BuoyVote" "plans" "[LBuoyVote$Plan;", .fieldLink RX11 126 "BuoyVote" "planCount" "I", .methodLink RX11 129 yX6_faultOf, .instanceMethod yX6_faultOf, .selects RX6 yX6_faultOf yX6_faultOf, .initialized RX6, .code yX6_faultOf cX6_faultOf 3 (some .int), .fieldLink RX6 15 "BuoyVote$Plan" "steps" "I", .methodLink RX6 19 yX9_rewind, .methodLink RX6 24 yX6_readStep, .instanceMethod yX6_readStep, .selects RX6 yX6_readStep yX6_readStep, .code yX6_readStep cX6_readStep 6 none, .methodLink RX6 39 yX9_peek, .methodLink RX6 44 yJ0_indexOf_0f7a4, .methodLink RX6 50 yX9_refuseHere, .methodLink RX6 53 yX9_skip, .fieldLink RX6 11 "BuoyVote$Plan" "cells" "[I", .fieldLink RX6 56 "BuoyVote$Plan" "DIGITS" "[I", .methodLink RX6 59 yX9_isRight, .methodLink RX6 63 yX9_digit, .instanceMethod yX9_digit, .selects RX9 yX9_digit yX9_digit, .code yX9_digit cX9_digit 2 (some .int), .methodLink RX6 28 yX9_take, .methodLink RX6 32 yX9_expectEnd, .methodLink RX6 35 yX9_wrongAt] wsX110) wsX00) wsX90) wsX50) wsX40) wsX60)
theorem iw_c_X11_fault_X11 : ∀ w ∈ wsX110, w ∈ wf_c_X11_fault := fun w h => List.mem_cons_of_mem _ (List.mem_append_left _ (List.mem_append_left _ (List.mem_append_left _ (List.mem_append_left _ (List.mem_append_left _ (List.mem_append_right _ h))))))
theorem iw_c_X11_fault_X0 : ∀ w ∈ wsX00, w ∈ wf_c_X11_fault := fun w h => List.mem_cons_of_mem _ (List.mem_append_left _ (List.mem_append_left _ (List.mem_append_left _ (List.mem_append_left _ (List.mem_append_right _ h)))))
theorem iw_c_X11_fault_X9 : ∀ w ∈ wsX90, w ∈ wf_c_X11_fault := fun w h => List.mem_cons_of_mem _ (List.mem_append_left _ (List.mem_append_left _ (List.mem_append_left _ (List.mem_append_right _ h))))
theorem iw_c_X11_fault_X5 : ∀ w ∈ wsX50, w ∈ wf_c_X11_fault := fun w h => List.mem_cons_of_mem _ (List.mem_append_left _ (List.mem_append_left _ (List.mem_append_right _ h)))
theorem iw_c_X11_fault_X4 : ∀ w ∈ wsX40, w ∈ wf_c_X11_fault := fun w h => List.mem_cons_of_mem _ (List.mem_append_left _ (List.mem_append_right _ h))
theorem iw_c_X11_fault_X6 : ∀ w ∈ wsX60, w ∈ wf_c_X11_fault := fun w h => List.mem_cons_of_mem _ (List.mem_append_right _ h)
set_option maxRecDepth 20000 in
theorem gf_c_X11_fault_c_X0_faultOf : GoodIn wf_c_X11_fault (wsV RX11 115 RX0 yX0_faultOf wf_c_X0_faultOf) := goodIn_app (gi_l [3, 4, 5, 6] rfl rfl) (gi_cons (j := 7) rfl rfl (goodIn_app (goodIn_app (gi_l [8, 9, 10, 11, 12, 13, 6, 14, 15, 16, 17, 18, 19, 20, 21, 22, 23, 24, 25, 26, 27, 28, 29, 30, 31, 32, 33, 34, 35, 36, 37, 38, 39, 40, 41, 42, 43, 44, 45, 46, 47, 48, 49, 50, 51, 52, 53, 54, 55, 56, 57, 58, 59, 60, 61, 62, 63, 64, 65, 66, 67, 68, 69, 70, 71, 72, 73, 74, 75, 76, 77, 78, 79, 80, 81, 82, 83, 84, 85, 86, 87, 88, 89, 90, 91, 92, 93, 94, 95, 96, 97, 98, 99, 100, 101, 102, 103, 104, 105, 106, 107, 108, 109, 110, 111, 112, 113, 114, 115, 116, 117, 118, 119, 120, 121, 122, 123, 124, 125, 126, 127, 128, 129, 130, 131, 132, 133, 134, 135, 136, 137, 138, 139, 140, 141, 142, 143] rfl rfl) (goodIn_sub iw_c_X11_fault_X0 gw_X0)) (goodIn_sub iw_c_X11_fault_X9 gw_X9)))
set_option maxRecDepth 20000 in
theorem gf_c_X11_fault_c_X5_spare : GoodIn wf_c_X11_fault (wsV RX11 119 RX5 yX5_spare wf_c_X5_spare) := goodIn_app (gi_l [145, 146, 147, 148] rfl rfl) (gi_cons (j := 149) rfl rfl (goodIn_app (gi_l [150, 151] rfl rfl) (goodIn_sub iw_c_X11_fault_X5 gw_X5)))
set_option maxRecDepth 20000 in
theorem gf_c_X11_fault_c_X4_faultOf : GoodIn wf_c_X11_fault (wsV RX11 123 RX4 yX4_faultOf wf_c_X4_faultOf) := goodIn_app (gi_l [152, 153, 154, 155] rfl rfl) (gi_cons (j := 156) rfl rfl (goodIn_app (goodIn_app (gi_l [157, 158, 34, 35, 36, 37, 38, 39, 159, 160, 161, 162, 113, 45, 46, 47, 48, 49, 99, 100, 101, 102, 163, 164, 165, 155, 166, 167, 168, 169, 170, 171, 104, 105, 106, 172, 173, 174, 175, 176, 54, 55, 21, 56, 57, 58, 59, 60, 61, 62, 63, 64, 28, 29, 23, 65, 19, 20, 22, 24, 25, 26, 27, 66, 67, 68, 69, 70, 71, 72, 73, 74, 75, 76, 77, 78, 79, 80, 81, 82, 177, 115, 116, 117, 178, 96, 97, 98, 179, 88, 89, 90, 180, 181, 182, 183, 184, 185, 186, 187, 188, 189, 190, 191, 192, 193, 194, 195, 196, 197, 198, 199, 200, 119, 120, 121, 201, 123, 124, 125, 202, 141, 142, 143] rfl rfl) (goodIn_sub iw_c_X11_fault_X4 gw_X4)) (goodIn_sub iw_c_X11_fault_X9 gw_X9)))
set_option maxRecDepth 20000 in
theorem gf_c_X11_fault_c_X6_faultOf : GoodIn wf_c_X11_fault (wsV RX11 129 RX6 yX6_faultOf wf_c_X6_faultOf) := goodIn_app (gi_l [205, 206, 207, 208] rfl rfl) (gi_cons (j := 209) rfl rfl (goodIn_app (goodIn_app (gi_l [210, 211, 34, 35, 36, 37, 38, 39, 212, 213, 214, 208, 215, 216, 45, 46, 47, 48, 49, 217, 54, 55, 21, 56, 57, 58, 59, 60, 61, 62, 63, 64, 28, 29, 23, 65, 19, 20, 22, 24, 25, 26, 27, 66, 67, 68, 69, 70, 71, 72, 73, 74, 75, 76, 77, 78, 79, 80, 81, 82, 218, 96, 97, 98, 99, 100, 101, 102, 219, 88, 89, 90, 220, 221, 222, 104, 105, 106, 223, 224, 225, 226, 113, 227, 119, 120, 121, 228, 123, 124, 125, 229, 141, 142, 143] rfl rfl) (goodIn_sub iw_c_X11_fault_X6 gw_X6)) (goodIn_sub iw_c_X11_fault_X9 gw_X9)))
set_option maxHeartbeats 4000000 in
set_option maxRecDepth 100000 in
theorem c_X11_fault (l : Launch) (dC : Nat → ClassId) (dI : Nat → Nat → Nat) (sz : Nat) (h0 : Nat) (p1 : Int32) (h0_0 : Nat) (h0_1 : Nat) (h0_2 : Nat) (h0_3 : Nat) (h0_4 : Nat) (h0_f5 : Int32) (h0_6 : Nat) (h0_7 : Nat) (h0_8 : Nat) (h0_9 : Nat) (h0_10 : Nat) (h0_11 : Nat) (h0_12 : Nat) (h0_13 : Nat) (h0_14 : Nat) (h0_f15 : Int64) (h0_2_0 : Nat) (h0_2_f1 : Int32) (h0_2_f2 : Int32) (h0_2_f3 : Int32) (h0_2_0k : ClassId) (h0_2_0c : Nat → Int32) (h0_0_0 : Nat) (h0_0_f1 : Int32) (h0_0_f2 : Int32) (h0_0_f3 : Int32) (h0_0_0k : ClassId) (h0_0_0c : Nat → Int32) (h0_3_0 : Nat) (h0_3_f1 : Int32) (h0_3_f2 : Int32) (h0_3_3 : Nat) (h0_3_0k : ClassId) (h0_3_0c : Nat → Option Nat) (h0_3_0_e0 : Nat) (h0_3_0_e1 : Nat) (h0_3_0_e2 : Nat) (h0_3_0_e3 : Nat) (h0_3_0_e4 : Nat) (h0_3_0_e0_0 : Nat) (h0_3_0_e0_f1 : Int32) (h0_3_0_e0_2 : Nat) (h0_3_0_e0_0k : ClassId) (h0_3_0_e0_0c : Nat → Int32) (h0_3_0_e1_0 : Nat) (h0_3_0_e1_f1 : Int32) (h0_3_0_e1_2 : Nat) (h0_3_0_e1_0k : ClassId) (h0_3_0_e1_0c : Nat → Int32) (h0_3_0_e2_0 : Nat) (h0_3_0_e2_f1 : Int32) (h0_3_0_e2_2 : Nat) (h0_3_0_e2_0k : ClassId) (h0_3_0_e2_0c : Nat → Int32) (h0_3_0_e3_0 : Nat) (h0_3_0_e3_f1 : Int32) (h0_3_0_e3_2 : Nat) (h0_3_0_e3_0k : ClassId) (h0_3_0_e3_0c : Nat → Int32) (h0_3_0_e4_0 : Nat) (h0_3_0_e4_f1 : Int32) (h0_3_0_e4_2 : Nat) (h0_3_0_e4_0k : ClassId) (h0_3_0_e4_0c : Nat → Int32) (h0_4k : ClassId) (h0_4c : Nat → Option Nat) (h0_4_e0 : Nat) (h0_4_e1 : Nat) (h0_4_e2 : Nat) (h0_4_e3 : Nat) (h0_4_e4 : Nat) (h0_4_e0_0 : Nat) (h0_4_e0_f1 : Int32) (h0_4_e0_0k : ClassId) (h0_4_e0_0c : Nat → Int32) (h0_4_e1_0 : Nat) (h0_4_e1_f1 : Int32) (h0_4_e1_0k : ClassId) (h0_4_e1_0c : Nat → Int32) (h0_4_e2_0 : Nat) (h0_4_e2_f1 : Int32) (h0_4_e2_0k : ClassId) (h0_4_e2_0c : Nat → Int32) (h0_4_e3_0 : Nat) (h0_4_e3_f1 : Int32) (h0_4_e3_0k : ClassId) (h0_4_e3_0c : Nat → Int32) (h0_4_e4_0 : Nat) (h0_4_e4_f1 : Int32) (h0_4_e4_0k : ClassId) (h0_4_e4_0c : Nat → Int32) (ts1 : Nat) (tv1 : Nat) (ta3 : Nat) (ta0 : Nat) (ts0 : Nat) (tv0 : Nat) (ts2 : Nat) (tv2 : Nat) (ts3 : Nat) (tv3 : Nat) (ta1 : Nat) (ta2 : Nat) (ts4 : Nat) (tv4 : Nat) (ts5 : Nat) (tv5 : Nat) (ta4 : Nat) (g_h0_f5 : RG h0_f5 0 4) (g_h0_2_f1 : RG h0_2_f1 0 8) (g_h0_2_f2 : RG h0_2_f2 0 3) (g_h0_2_f3 : RG h0_2_f3 0 1) (a_h0_2_0c : AI h0_2_0c (-1) 99) (g_h0_0_f1 : RG h0_0_f1 0 240) (g_h0_0_f2 : RG h0_0_f2 0 240) (g_h0_0_f3 : RG h0_0_f3 (-1) 240) (a_h0_0_0c : AI h0_0_0c 0 255) (g_h0_3_f1 : RG h0_3_f1 0 4) (e_h0_3_0_e0 : h0_3_0c 0 = some h0_3_0_e0) (e_h0_3_0_e1 : h0_3_0c 1 = some h0_3_0_e1) (e_h0_3_0_e2 : h0_3_0c 2 = some h0_3_0_e2) (e_h0_3_0_e3 : h0_3_0c 3 = some h0_3_0_e3) (e_h0_3_0_e4 : h0_3_0c 4 = some h0_3_0_e4) (g_h0_3_0_e0_f1 : RG h0_3_0_e0_f1 0 240) (g_h0_3_0_e1_f1 : RG h0_3_0_e1_f1 0 240) (g_h0_3_0_e2_f1 : RG h0_3_0_e2_f1 0 240) (g_h0_3_0_e3_f1 : RG h0_3_0_e3_f1 0 240) (g_h0_3_0_e4_f1 : RG h0_3_0_e4_f1 0 240) (e_h0_4_e0 : h0_4c 0 = some h0_4_e0) (e_h0_4_e1 : h0_4c 1 = some h0_4_e1) (e_h0_4_e2 : h0_4c 2 = some h0_4_e2) (e_h0_4_e3 : h0_4c 3 = some h0_4_e3) (e_h0_4_e4 : h0_4c 4 = some h0_4_e4) (g_h0_4_e0_f1 : RG h0_4_e0_f1 0 16) (a_h0_4_e0_0c : AI h0_4_e0_0c (-1) 9) (g_h0_4_e1_f1 : RG h0_4_e1_f1 0 16) (a_h0_4_e1_0c : AI h0_4_e1_0c (-1) 9) (g_h0_4_e2_f1 : RG h0_4_e2_f1 0 16) (a_h0_4_e2_0c : AI h0_4_e2_0c (-1) 9) (g_h0_4_e3_f1 : RG h0_4_e3_f1 0 16) (a_h0_4_e3_0c : AI h0_4_e3_0c (-1) 9) (g_h0_4_e4_f1 : RG h0_4_e4_f1 0 16) (a_h0_4_e4_0c : AI h0_4_e4_0c (-1) 9) : Met l yX11_fault wf_c_X11_fault ({ frames := 21, cells := 0, slots := 0, locals := 514 }) (va_Pc [.ref h0, .int p1] (fun U => U.heap.size = sz ∧ va_P (dC, dI) vwCl (wd_c_X11_fault h0 h0_0 h0_1 h0_2 h0_3 h0_4 h0_f5 h0_6 h0_7 h0_8 h0_9 h0_10 h0_11 h0_12 h0_13 h0_14 h0_f15 h0_2 h0_2_0 h0_2_f1 h0_2_f2 h0_2_f3 h0_2_0 h0_2_0k h0_2_0c h0_0 h0_0_0 h0_0_f1 h0_0_f2 h0_0_f3 h0_0_0 h0_0_0k h0_0_0c h0_3 h0_3_0 h0_3_f1 h0_3_f2 h0_3_3 h0_3_0 h0_3_0k h0_3_0c h0_3_0_e0 h0_3_0_e0_0 h0_3_0_e0_f1 h0_3_0_e0_2 h0_3_0_e0_0 h0_3_0_e0_0k h0_3_0_e0_0c h0_3_0_e1 h0_3_0_e1_0 h0_3_0_e1_f1 h0_3_0_e1_2 h0_3_0_e1_0 h0_3_0_e1_0k h0_3_0_e1_0c h0_3_0_e2 h0_3_0_e2_0 h0_3_0_e2_f1 h0_3_0_e2_2 h0_3_0_e2_0 h0_3_0_e2_0k h0_3_0_e2_0c h0_3_0_e3 h0_3_0_e3_0 h0_3_0_e3_f1 h0_3_0_e3_2 h0_3_0_e3_0 h0_3_0_e3_0k h0_3_0_e3_0c h0_3_0_e4 h0_3_0_e4_0 h0_3_0_e4_f1 h0_3_0_e4_2 h0_3_0_e4_0 h0_3_0_e4_0k h0_3_0_e4_0c h0_4 h0_4k h0_4c h0_4_e0 h0_4_e0_0 h0_4_e0_f1 h0_4_e0_0 h0_4_e0_0k h0_4_e0_0c h0_4_e1 h0_4_e1_0 h0_4_e1_f1 h0_4_e1_0 h0_4_e1_0k h0_4_e1_0c h0_4_e2 h0_4_e2_0 h0_4_e2_f1 h0_4_e2_0 h0_4_e2_0k h0_4_e2_0c h0_4_e3 h0_4_e3_0 h0_4_e3_f1 h0_4_e3_0 h0_4_e3_0k h0_4_e3_0c h0_4_e4 h0_4_e4_0 h0_4_e4_f1 h0_4_e4_0 h0_4_e4_0k h0_4_e4_0c) U.heap ∧ va_K (dC, dI) vwCl [(h0_2_0k, .int), (h0_0_0k, .int), (h0_3_0k, .object RX4), (h0_3_0_e0_0k, .int), (h0_3_0_e1_0k, .int), (h0_3_0_e2_0k, .int), (h0_3_0_e3_0k, .int), (h0_3_0_e4_0k, .int), (h0_4k, .object RX6), (h0_4_e0_0k, .int), (h0_4_e1_0k, .int), (h0_4_e2_0k, .int), (h0_4_e3_0k, .int), (h0_4_e4_0k, .int)] U ∧ va_D (fun _ => True) (wd_c_X11_fault h0 h0_0 h0_1 h0_2 h0_3 h0_4 h0_f5 h0_6 h0_7 h0_8 h0_9 h0_10 h0_11 h0_12 h0_13 h0_14 h0_f15 h0_2 h0_2_0 h0_2_f1 h0_2_f2 h0_2_f3 h0_2_0 h0_2_0k h0_2_0c h0_0 h0_0_0 h0_0_f1 h0_0_f2 h0_0_f3 h0_0_0 h0_0_0k h0_0_0c h0_3 h0_3_0 h0_3_f1 h0_3_f2 h0_3_3 h0_3_0 h0_3_0k h0_3_0c h0_3_0_e0 h0_3_0_e0_0 h0_3_0_e0_f1 h0_3_0_e0_2 h0_3_0_e0_0 h0_3_0_e0_0k h0_3_0_e0_0c h0_3_0_e1 h0_3_0_e1_0 h0_3_0_e1_f1 h0_3_0_e1_2 h0_3_0_e1_0 h0_3_0_e1_0k h0_3_0_e1_0c h0_3_0_e2 h0_3_0_e2_0 h0_3_0_e2_f1 h0_3_0_e2_2 h0_3_0_e2_0 h0_3_0_e2_0k h0_3_0_e2_0c h0_3_0_e3 h0_3_0_e3_0 h0_3_0_e3_f1 h0_3_0_e3_2 h0_3_0_e3_0 h0_3_0_e3_0k h0_3_0_e3_0c h0_3_0_e4 h0_3_0_e4_0 h0_3_0_e4_f1 h0_3_0_e4_2 h0_3_0_e4_0 h0_3_0_e4_0k h0_3_0_e4_0c h0_4 h0_4k h0_4c h0_4_e0 h0_4_e0_0 h0_4_e0_f1 h0_4_e0_0 h0_4_e0_0k h0_4_e0_0c h0_4_e1 h0_4_e1_0 h0_4_e1_f1 h0_4_e1_0 h0_4_e1_0k h0_4_e1_0c h0_4_e2 h0_4_e2_0 h0_4_e2_f1 h0_4_e2_0 h0_4_e2_0k h0_4_e2_0c h0_4_e3 h0_4_e3_0 h0_4_e3_f1 h0_4_e3_0 h0_4_e3_0k h0_4_e3_0c h0_4_e4 h0_4_e4_0 h0_4_e4_f1 h0_4_e4_0 h0_4_e4_0k h0_4_e4_0c) ∧ vk_R RX0 122 "wdth" ts1 U ∧ va_OF "java/lang/String" "value" "[B" (.ref tv1) ts1 (va_A (wd_c_X11_fault h0 h0_0 h0_1 h0_2 h0_3 h0_4 h0_f5 h0_6 h0_7 h0_8 h0_9 h0_10 h0_11 h0_12 h0_13 h0_14 h0_f15 h0_2 h0_2_0 h0_2_f1 h0_2_f2 h0_2_f3 h0_2_0 h0_2_0k h0_2_0c h0_0 h0_0_0 h0_0_f1 h0_0_f2 h0_0_f3 h0_0_0 h0_0_0k h0_0_0c h0_3 h0_3_0 h0_3_f1 h0_3_f2 h0_3_3 h0_3_0 h0_3_0k h0_3_0c h0_3_0_e0 h0_3_0_e0_0 h0_3_0_e0_f1 h0_3_0_e0_2 h0_3_0_e0_0 h0_3_0_e0_0k h0_3_0_e0_0c h0_3_0_e1 h0_3_0_e1_0 h0_3_0_e1_f1 h0_3_0_e1_2 h0_3_0_e1_0 h0_3_0_e1_0k h0_3_0_e1_0c h0_3_0_e2 h0_3_0_e2_0 h0_3_0_e2_f1 h0_3_0_e2_2 h0_3_0_e2_0 h0_3_0_e2_0k h0_3_0_e2_0c h0_3_0_e3 h0_3_0_e3_0 h0_3_0_e3_f1 h0_3_0_e3_2 h0_3_0_e3_0 h0_3_0_e3_0k h0_3_0_e3_0c h0_3_0_e4 h0_3_0_e4_0 h0_3_0_e4_f1 h0_3_0_e4_2 h0_3_0_e4_0 h0_3_0_e4_0k h0_3_0_e4_0c h0_4 h0_4k h0_4c h0_4_e0 h0_4_e0_0 h0_4_e0_f1 h0_4_e0_0 h0_4_e0_0k h0_4_e0_0c h0_4_e1 h0_4_e1_0 h0_4_e1_f1 h0_4_e1_0 h0_4_e1_0k h0_4_e1_0c h0_4_e2 h0_4_e2_0 h0_4_e2_f1 h0_4_e2_0 h0_4_e2_0k h0_4_e2_0c h0_4_e3 h0_4_e3_0 h0_4_e3_f1 h0_4_e3_0 h0_4_e3_0k h0_4_e3_0c h0_4_e4 h0_4_e4_0 h0_4_e4_f1 h0_4_e4_0 h0_4_e4_0k h0_4_e4_0c) sz) U U.heap ∧ va_T .byte tv1 4 (fun j => .int ([119, 100, 116, 104].getD j 0)) (va_A (wd_c_X11_fault h0 h0_0 h0_1 h0_2 h0_3 h0_4 h0_f5 h0_6 h0_7 h0_8 h0_9 h0_10 h0_11 h0_12 h0_13 h0_14 h0_f15 h0_2 h0_2_0 h0_2_f1 h0_2_f2 h0_2_f3 h0_2_0 h0_2_0k h0_2_0c h0_0 h0_0_0 h0_0_f1 h0_0_f2 h0_0_f3 h0_0_0 h0_0_0k h0_0_0c h0_3 h0_3_0 h0_3_f1 h0_3_f2 h0_3_3 h0_3_0 h0_3_0k h0_3_0c h0_3_0_e0 h0_3_0_e0_0 h0_3_0_e0_f1 h0_3_0_e0_2 h0_3_0_e0_0 h0_3_0_e0_0k h0_3_0_e0_0c h0_3_0_e1 h0_3_0_e1_0 h0_3_0_e1_f1 h0_3_0_e1_2 h0_3_0_e1_0 h0_3_0_e1_0k h0_3_0_e1_0c h0_3_0_e2 h0_3_0_e2_0 h0_3_0_e2_f1 h0_3_0_e2_2 h0_3_0_e2_0 h0_3_0_e2_0k h0_3_0_e2_0c h0_3_0_e3 h0_3_0_e3_0 h0_3_0_e3_f1 h0_3_0_e3_2 h0_3_0_e3_0 h0_3_0_e3_0k h0_3_0_e3_0c h0_3_0_e4 h0_3_0_e4_0 h0_3_0_e4_f1 h0_3_0_e4_2 h0_3_0_e4_0 h0_3_0_e4_0k h0_3_0_e4_0c h0_4 h0_4k h0_4c h0_4_e0 h0_4_e0_0 h0_4_e0_f1 h0_4_e0_0 h0_4_e0_0k h0_4_e0_0c h0_4_e1 h0_4_e1_0 h0_4_e1_f1 h0_4_e1_0 h0_4_e1_0k h0_4_e1_0c h0_4_e2 h0_4_e2_0 h0_4_e2_f1 h0_4_e2_0 h0_4_e2_0k h0_4_e2_0c h0_4_e3 h0_4_e3_0 h0_4_e3_f1 h0_4_e3_0 h0_4_e3_0k h0_4_e3_0c h0_4_e4 h0_4_e4_0 h0_4_e4_f1 h0_4_e4_0 h0_4_e4_0k h0_4_e4_0c) sz) U U.heap ∧ va_Z "java/lang/String" "COMPACT_STRINGS" "Z" (.int 1) (va_A (wd_c_X11_fault h0 h0_0 h0_1 h0_2 h0_3 h0_4 h0_f5 h0_6 h0_7 h0_8 h0_9 h0_10 h0_11 h0_12 h0_13 h0_14 h0_f15 h0_2 h0_2_0 h0_2_f1 h0_2_f2 h0_2_f3 h0_2_0 h0_2_0k h0_2_0c h0_0 h0_0_0 h0_0_f1 h0_0_f2 h0_0_f3 h0_0_0 h0_0_0k h0_0_0c h0_3 h0_3_0 h0_3_f1 h0_3_f2 h0_3_3 h0_3_0 h0_3_0k h0_3_0c h0_3_0_e0 h0_3_0_e0_0 h0_3_0_e0_f1 h0_3_0_e0_2 h0_3_0_e0_0 h0_3_0_e0_0k h0_3_0_e0_0c h0_3_0_e1 h0_3_0_e1_0 h0_3_0_e1_f1 h0_3_0_e1_2 h0_3_0_e1_0 h0_3_0_e1_0k h0_3_0_e1_0c h0_3_0_e2 h0_3_0_e2_0 h0_3_0_e2_f1 h0_3_0_e2_2 h0_3_0_e2_0 h0_3_0_e2_0k h0_3_0_e2_0c h0_3_0_e3 h0_3_0_e3_0 h0_3_0_e3_f1 h0_3_0_e3_2 h0_3_0_e3_0 h0_3_0_e3_0k h0_3_0_e3_0c h0_3_0_e4 h0_3_0_e4_0 h0_3_0_e4_f1 h0_3_0_e4_2 h0_3_0_e4_0 h0_3_0_e4_0k h0_3_0_e4_0c h0_4 h0_4k h0_4c h0_4_e0 h0_4_e0_0 h0_4_e0_f1 h0_4_e0_0 h0_4_e0_0k h0_4_e0_0c h0_4_e1 h0_4_e1_0 h0_4_e1_f1 h0_4_e1_0 h0_4_e1_0k h0_4_e1_0c h0_4_e2 h0_4_e2_0 h0_4_e2_f1 h0_4_e2_0 h0_4_e2_0k h0_4_e2_0c h0_4_e3 h0_4_e3_0 h0_4_e3_f1 h0_4_e3_0 h0_4_e3_0k h0_4_e3_0c h0_4_e4 h0_4_e4_0 h0_4_e4_f1 h0_4_e4_0 h0_4_e4_0k h0_4_e4_0c) sz) U U.heap ∧ va_OF "java/lang/String" "coder" "B" (.int 0) ts1 (va_A (wd_c_X11_fault h0 h0_0 h0_1 h0_2 h0_3 h0_4 h0_f5 h0_6 h0_7 h0_8 h0_9 h0_10 h0_11 h0_12 h0_13 h0_14 h0_f15 h0_2 h0_2_0 h0_2_f1 h0_2_f2 h0_2_f3 h0_2_0 h0_2_0k h0_2_0c h0_0 h0_0_0 h0_0_f1 h0_0_f2 h0_0_f3 h0_0_0 h0_0_0k h0_0_0c h0_3 h0_3_0 h0_3_f1 h0_3_f2 h0_3_3 h0_3_0 h0_3_0k h0_3_0c h0_3_0_e0 h0_3_0_e0_0 h0_3_0_e0_f1 h0_3_0_e0_2 h0_3_0_e0_0 h0_3_0_e0_0k h0_3_0_e0_0c h0_3_0_e1 h0_3_0_e1_0 h0_3_0_e1_f1 h0_3_0_e1_2 h0_3_0_e1_0 h0_3_0_e1_0k h0_3_0_e1_0c h0_3_0_e2 h0_3_0_e2_0 h0_3_0_e2_f1 h0_3_0_e2_2 h0_3_0_e2_0 h0_3_0_e2_0k h0_3_0_e2_0c h0_3_0_e3 h0_3_0_e3_0 h0_3_0_e3_f1 h0_3_0_e3_2 h0_3_0_e3_0 h0_3_0_e3_0k h0_3_0_e3_0c h0_3_0_e4 h0_3_0_e4_0 h0_3_0_e4_f1 h0_3_0_e4_2 h0_3_0_e4_0 h0_3_0_e4_0k h0_3_0_e4_0c h0_4 h0_4k h0_4c h0_4_e0 h0_4_e0_0 h0_4_e0_f1 h0_4_e0_0 h0_4_e0_0k h0_4_e0_0c h0_4_e1 h0_4_e1_0 h0_4_e1_f1 h0_4_e1_0 h0_4_e1_0k h0_4_e1_0c h0_4_e2 h0_4_e2_0 h0_4_e2_f1 h0_4_e2_0 h0_4_e2_0k h0_4_e2_0c h0_4_e3 h0_4_e3_0 h0_4_e3_f1 h0_4_e3_0 h0_4_e3_0k h0_4_e3_0c h0_4_e4 h0_4_e4_0 h0_4_e4_f1 h0_4_e4_0 h0_4_e4_0k h0_4_e4_0c) sz) U U.heap ∧ va_O "java/lang/String" ts1 (va_A (wd_c_X11_fault h0 h0_0 h0_1 h0_2 h0_3 h0_4 h0_f5 h0_6 h0_7 h0_8 h0_9 h0_10 h0_11 h0_12 h0_13 h0_14 h0_f15 h0_2 h0_2_0 h0_2_f1 h0_2_f2 h0_2_f3 h0_2_0 h0_2_0k h0_2_0c h0_0 h0_0_0 h0_0_f1 h0_0_f2 h0_0_f3 h0_0_0 h0_0_0k h0_0_0c h0_3 h0_3_0 h0_3_f1 h0_3_f2 h0_3_3 h0_3_0 h0_3_0k h0_3_0c h0_3_0_e0 h0_3_0_e0_0 h0_3_0_e0_f1 h0_3_0_e0_2 h0_3_0_e0_0 h0_3_0_e0_0k h0_3_0_e0_0c h0_3_0_e1 h0_3_0_e1_0 h0_3_0_e1_f1 h0_3_0_e1_2 h0_3_0_e1_0 h0_3_0_e1_0k h0_3_0_e1_0c h0_3_0_e2 h0_3_0_e2_0 h0_3_0_e2_f1 h0_3_0_e2_2 h0_3_0_e2_0 h0_3_0_e2_0k h0_3_0_e2_0c h0_3_0_e3 h0_3_0_e3_0 h0_3_0_e3_f1 h0_3_0_e3_2 h0_3_0_e3_0 h0_3_0_e3_0k h0_3_0_e3_0c h0_3_0_e4 h0_3_0_e4_0 h0_3_0_e4_f1 h0_3_0_e4_2 h0_3_0_e4_0 h0_3_0_e4_0k h0_3_0_e4_0c h0_4 h0_4k h0_4c h0_4_e0 h0_4_e0_0 h0_4_e0_f1 h0_4_e0_0 h0_4_e0_0k h0_4_e0_0c h0_4_e1 h0_4_e1_0 h0_4_e1_f1 h0_4_e1_0 h0_4_e1_0k h0_4_e1_0c h0_4_e2 h0_4_e2_0 h0_4_e2_f1 h0_4_e2_0 h0_4_e2_0k h0_4_e2_0c h0_4_e3 h0_4_e3_0 h0_4_e3_f1 h0_4_e3_0 h0_4_e3_0k h0_4_e3_0c h0_4_e4 h0_4_e4_0 h0_4_e4_f1 h0_4_e4_0 h0_4_e4_0k h0_4_e4_0c) sz) U U.heap ∧ va_Z "BuoyVote$Borough" "USUAL" "[I" (.ref ta3) (va_A (wd_c_X11_fault h0 h0_0 h0_1 h0_2 h0_3 h0_4 h0_f5 h0_6 h0_7 h0_8 h0_9 h0_10 h0_11 h0_12 h0_13 h0_14 h0_f15 h0_2 h0_2_0 h0_2_f1 h0_2_f2 h0_2_f3 h0_2_0 h0_2_0k h0_2_0c h0_0 h0_0_0 h0_0_f1 h0_0_f2 h0_0_f3 h0_0_0 h0_0_0k h0_0_0c h0_3 h0_3_0 h0_3_f1 h0_3_f2 h0_3_3 h0_3_0 h0_3_0k h0_3_0c h0_3_0_e0 h0_3_0_e0_0 h0_3_0_e0_f1 h0_3_0_e0_2 h0_3_0_e0_0 h0_3_0_e0_0k h0_3_0_e0_0c h0_3_0_e1 h0_3_0_e1_0 h0_3_0_e1_f1 h0_3_0_e1_2 h0_3_0_e1_0 h0_3_0_e1_0k h0_3_0_e1_0c h0_3_0_e2 h0_3_0_e2_0 h0_3_0_e2_f1 h0_3_0_e2_2 h0_3_0_e2_0 h0_3_0_e2_0k h0_3_0_e2_0c h0_3_0_e3 h0_3_0_e3_0 h0_3_0_e3_f1 h0_3_0_e3_2 h0_3_0_e3_0 h0_3_0_e3_0k h0_3_0_e3_0c h0_3_0_e4 h0_3_0_e4_0 h0_3_0_e4_f1 h0_3_0_e4_2 h0_3_0_e4_0 h0_3_0_e4_0k h0_3_0_e4_0c h0_4 h0_4k h0_4c h0_4_e0 h0_4_e0_0 h0_4_e0_f1 h0_4_e0_0 h0_4_e0_0k h0_4_e0_0c h0_4_e1 h0_4_e1_0 h0_4_e1_f1 h0_4_e1_0 h0_4_e1_0k h0_4_e1_0c h0_4_e2 h0_4_e2_0 h0_4_e2_f1 h0_4_e2_0 h0_4_e2_0k h0_4_e2_0c h0_4_e3 h0_4_e3_0 h0_4_e3_f1 h0_4_e3_0 h0_4_e3_0k h0_4_e3_0c h0_4_e4 h0_4_e4_0 h0_4_e4_f1 h0_4_e4_0 h0_4_e4_0k h0_4_e4_0c) sz) U U.heap ∧ va_Z "BuoyVote$Borough" "FIRST" "[I" (.ref ta0) (va_A (wd_c_X11_fault h0 h0_0 h0_1 h0_2 h0_3 h0_4 h0_f5 h0_6 h0_7 h0_8 h0_9 h0_10 h0_11 h0_12 h0_13 h0_14 h0_f15 h0_2 h0_2_0 h0_2_f1 h0_2_f2 h0_2_f3 h0_2_0 h0_2_0k h0_2_0c h0_0 h0_0_0 h0_0_f1 h0_0_f2 h0_0_f3 h0_0_0 h0_0_0k h0_0_0c h0_3 h0_3_0 h0_3_f1 h0_3_f2 h0_3_3 h0_3_0 h0_3_0k h0_3_0c h0_3_0_e0 h0_3_0_e0_0 h0_3_0_e0_f1 h0_3_0_e0_2 h0_3_0_e0_0 h0_3_0_e0_0k h0_3_0_e0_0c h0_3_0_e1 h0_3_0_e1_0 h0_3_0_e1_f1 h0_3_0_e1_2 h0_3_0_e1_0 h0_3_0_e1_0k h0_3_0_e1_0c h0_3_0_e2 h0_3_0_e2_0 h0_3_0_e2_f1 h0_3_0_e2_2 h0_3_0_e2_0 h0_3_0_e2_0k h0_3_0_e2_0c h0_3_0_e3 h0_3_0_e3_0 h0_3_0_e3_f1 h0_3_0_e3_2 h0_3_0_e3_0 h0_3_0_e3_0k h0_3_0_e3_0c h0_3_0_e4 h0_3_0_e4_0 h0_3_0_e4_f1 h0_3_0_e4_2 h0_3_0_e4_0 h0_3_0_e4_0k h0_3_0_e4_0c h0_4 h0_4k h0_4c h0_4_e0 h0_4_e0_0 h0_4_e0_f1 h0_4_e0_0 h0_4_e0_0k h0_4_e0_0c h0_4_e1 h0_4_e1_0 h0_4_e1_f1 h0_4_e1_0 h0_4_e1_0k h0_4_e1_0c h0_4_e2 h0_4_e2_0 h0_4_e2_f1 h0_4_e2_0 h0_4_e2_0k h0_4_e2_0c h0_4_e3 h0_4_e3_0 h0_4_e3_f1 h0_4_e3_0 h0_4_e3_0k h0_4_e3_0c h0_4_e4 h0_4_e4_0 h0_4_e4_f1 h0_4_e4_0 h0_4_e4_0k h0_4_e4_0c) sz) U U.heap ∧ va_T .int ta0 3 (fun j => .int ([0, 4, 12].getD j 0)) (va_A (wd_c_X11_fault h0 h0_0 h0_1 h0_2 h0_3 h0_4 h0_f5 h0_6 h0_7 h0_8 h0_9 h0_10 h0_11 h0_12 h0_13 h0_14 h0_f15 h0_2 h0_2_0 h0_2_f1 h0_2_f2 h0_2_f3 h0_2_0 h0_2_0k h0_2_0c h0_0 h0_0_0 h0_0_f1 h0_0_f2 h0_0_f3 h0_0_0 h0_0_0k h0_0_0c h0_3 h0_3_0 h0_3_f1 h0_3_f2 h0_3_3 h0_3_0 h0_3_0k h0_3_0c h0_3_0_e0 h0_3_0_e0_0 h0_3_0_e0_f1 h0_3_0_e0_2 h0_3_0_e0_0 h0_3_0_e0_0k h0_3_0_e0_0c h0_3_0_e1 h0_3_0_e1_0 h0_3_0_e1_f1 h0_3_0_e1_2 h0_3_0_e1_0 h0_3_0_e1_0k h0_3_0_e1_0c h0_3_0_e2 h0_3_0_e2_0 h0_3_0_e2_f1 h0_3_0_e2_2 h0_3_0_e2_0 h0_3_0_e2_0k h0_3_0_e2_0c h0_3_0_e3 h0_3_0_e3_0 h0_3_0_e3_f1 h0_3_0_e3_2 h0_3_0_e3_0 h0_3_0_e3_0k h0_3_0_e3_0c h0_3_0_e4 h0_3_0_e4_0 h0_3_0_e4_f1 h0_3_0_e4_2 h0_3_0_e4_0 h0_3_0_e4_0k h0_3_0_e4_0c h0_4 h0_4k h0_4c h0_4_e0 h0_4_e0_0 h0_4_e0_f1 h0_4_e0_0 h0_4_e0_0k h0_4_e0_0c h0_4_e1 h0_4_e1_0 h0_4_e1_f1 h0_4_e1_0 h0_4_e1_0k h0_4_e1_0c h0_4_e2 h0_4_e2_0 h0_4_e2_f1 h0_4_e2_0 h0_4_e2_0k h0_4_e2_0c h0_4_e3 h0_4_e3_0 h0_4_e3_f1 h0_4_e3_0 h0_4_e3_0k h0_4_e3_0c h0_4_e4 h0_4_e4_0 h0_4_e4_f1 h0_4_e4_0 h0_4_e4_0k h0_4_e4_0c) sz) U U.heap ∧ va_T .int ta3 16 (fun j => .int ([2, 0, 6, 8, 0, 0, 3, 0, 0, 0, 3, 2, 0, 0, 2, 3].getD j 0)) (va_A (wd_c_X11_fault h0 h0_0 h0_1 h0_2 h0_3 h0_4 h0_f5 h0_6 h0_7 h0_8 h0_9 h0_10 h0_11 h0_12 h0_13 h0_14 h0_f15 h0_2 h0_2_0 h0_2_f1 h0_2_f2 h0_2_f3 h0_2_0 h0_2_0k h0_2_0c h0_0 h0_0_0 h0_0_f1 h0_0_f2 h0_0_f3 h0_0_0 h0_0_0k h0_0_0c h0_3 h0_3_0 h0_3_f1 h0_3_f2 h0_3_3 h0_3_0 h0_3_0k h0_3_0c h0_3_0_e0 h0_3_0_e0_0 h0_3_0_e0_f1 h0_3_0_e0_2 h0_3_0_e0_0 h0_3_0_e0_0k h0_3_0_e0_0c h0_3_0_e1 h0_3_0_e1_0 h0_3_0_e1_f1 h0_3_0_e1_2 h0_3_0_e1_0 h0_3_0_e1_0k h0_3_0_e1_0c h0_3_0_e2 h0_3_0_e2_0 h0_3_0_e2_f1 h0_3_0_e2_2 h0_3_0_e2_0 h0_3_0_e2_0k h0_3_0_e2_0c h0_3_0_e3 h0_3_0_e3_0 h0_3_0_e3_f1 h0_3_0_e3_2 h0_3_0_e3_0 h0_3_0_e3_0k h0_3_0_e3_0c h0_3_0_e4 h0_3_0_e4_0 h0_3_0_e4_f1 h0_3_0_e4_2 h0_3_0_e4_0 h0_3_0_e4_0k h0_3_0_e4_0c h0_4 h0_4k h0_4c h0_4_e0 h0_4_e0_0 h0_4_e0_f1 h0_4_e0_0 h0_4_e0_0k h0_4_e0_0c h0_4_e1 h0_4_e1_0 h0_4_e1_f1 h0_4_e1_0 h0_4_e1_0k h0_4_e1_0c h0_4_e2 h0_4_e2_0 h0_4_e2_f1 h0_4_e2_0 h0_4_e2_0k h0_4_e2_0c h0_4_e3 h0_4_e3_0 h0_4_e3_f1 h0_4_e3_0 h0_4_e3_0k h0_4_e3_0c h0_4_e4 h0_4_e4_0 h0_4_e4_f1 h0_4_e4_0 h0_4_e4_0k h0_4_e4_0c) sz) U U.heap ∧ vk_R RX0 70 "sbc" ts0 U ∧ va_OF "java/lang/String" "coder" "B" (.int 0) ts0 (va_A (wd_c_X11_fault h0 h0_0 h0_1 h0_2 h0_3 h0_4 h0_f5 h0_6 h0_7 h0_8 h0_9 h0_10 h0_11 h0_12 h0_13 h0_14 h0_f15 h0_2 h0_2_0 h0_2_f1 h0_2_f2 h0_2_f3 h0_2_0 h0_2_0k h0_2_0c h0_0 h0_0_0 h0_0_f1 h0_0_f2 h0_0_f3 h0_0_0 h0_0_0k h0_0_0c h0_3 h0_3_0 h0_3_f1 h0_3_f2 h0_3_3 h0_3_0 h0_3_0k h0_3_0c h0_3_0_e0 h0_3_0_e0_0 h0_3_0_e0_f1 h0_3_0_e0_2 h0_3_0_e0_0 h0_3_0_e0_0k h0_3_0_e0_0c h0_3_0_e1 h0_3_0_e1_0 h0_3_0_e1_f1 h0_3_0_e1_2 h0_3_0_e1_0 h0_3_0_e1_0k h0_3_0_e1_0c h0_3_0_e2 h0_3_0_e2_0 h0_3_0_e2_f1 h0_3_0_e2_2 h0_3_0_e2_0 h0_3_0_e2_0k h0_3_0_e2_0c h0_3_0_e3 h0_3_0_e3_0 h0_3_0_e3_f1 h0_3_0_e3_2 h0_3_0_e3_0 h0_3_0_e3_0k h0_3_0_e3_0c h0_3_0_e4 h0_3_0_e4_0 h0_3_0_e4_f1 h0_3_0_e4_2 h0_3_0_e4_0 h0_3_0_e4_0k h0_3_0_e4_0c h0_4 h0_4k h0_4c h0_4_e0 h0_4_e0_0 h0_4_e0_f1 h0_4_e0_0 h0_4_e0_0k h0_4_e0_0c h0_4_e1 h0_4_e1_0 h0_4_e1_f1 h0_4_e1_0 h0_4_e1_0k h0_4_e1_0c h0_4_e2 h0_4_e2_0 h0_4_e2_f1 h0_4_e2_0 h0_4_e2_0k h0_4_e2_0c h0_4_e3 h0_4_e3_0 h0_4_e3_f1 h0_4_e3_0 h0_4_e3_0k h0_4_e3_0c h0_4_e4 h0_4_e4_0 h0_4_e4_f1 h0_4_e4_0 h0_4_e4_0k h0_4_e4_0c) sz) U U.heap ∧ va_O "java/lang/String" ts0 (va_A (wd_c_X11_fault h0 h0_0 h0_1 h0_2 h0_3 h0_4 h0_f5 h0_6 h0_7 h0_8 h0_9 h0_10 h0_11 h0_12 h0_13 h0_14 h0_f15 h0_2 h0_2_0 h0_2_f1 h0_2_f2 h0_2_f3 h0_2_0 h0_2_0k h0_2_0c h0_0 h0_0_0 h0_0_f1 h0_0_f2 h0_0_f3 h0_0_0 h0_0_0k h0_0_0c h0_3 h0_3_0 h0_3_f1 h0_3_f2 h0_3_3 h0_3_0 h0_3_0k h0_3_0c h0_3_0_e0 h0_3_0_e0_0 h0_3_0_e0_f1 h0_3_0_e0_2 h0_3_0_e0_0 h0_3_0_e0_0k h0_3_0_e0_0c h0_3_0_e1 h0_3_0_e1_0 h0_3_0_e1_f1 h0_3_0_e1_2 h0_3_0_e1_0 h0_3_0_e1_0k h0_3_0_e1_0c h0_3_0_e2 h0_3_0_e2_0 h0_3_0_e2_f1 h0_3_0_e2_2 h0_3_0_e2_0 h0_3_0_e2_0k h0_3_0_e2_0c h0_3_0_e3 h0_3_0_e3_0 h0_3_0_e3_f1 h0_3_0_e3_2 h0_3_0_e3_0 h0_3_0_e3_0k h0_3_0_e3_0c h0_3_0_e4 h0_3_0_e4_0 h0_3_0_e4_f1 h0_3_0_e4_2 h0_3_0_e4_0 h0_3_0_e4_0k h0_3_0_e4_0c h0_4 h0_4k h0_4c h0_4_e0 h0_4_e0_0 h0_4_e0_f1 h0_4_e0_0 h0_4_e0_0k h0_4_e0_0c h0_4_e1 h0_4_e1_0 h0_4_e1_f1 h0_4_e1_0 h0_4_e1_0k h0_4_e1_0c h0_4_e2 h0_4_e2_0 h0_4_e2_f1 h0_4_e2_0 h0_4_e2_0k h0_4_e2_0c h0_4_e3 h0_4_e3_0 h0_4_e3_f1 h0_4_e3_0 h0_4_e3_0k h0_4_e3_0c h0_4_e4 h0_4_e4_0 h0_4_e4_f1 h0_4_e4_0 h0_4_e4_0k h0_4_e4_0c) sz) U U.heap ∧ va_OF "java/lang/String" "value" "[B" (.ref tv0) ts0 (va_A (wd_c_X11_fault h0 h0_0 h0_1 h0_2 h0_3 h0_4 h0_f5 h0_6 h0_7 h0_8 h0_9 h0_10 h0_11 h0_12 h0_13 h0_14 h0_f15 h0_2 h0_2_0 h0_2_f1 h0_2_f2 h0_2_f3 h0_2_0 h0_2_0k h0_2_0c h0_0 h0_0_0 h0_0_f1 h0_0_f2 h0_0_f3 h0_0_0 h0_0_0k h0_0_0c h0_3 h0_3_0 h0_3_f1 h0_3_f2 h0_3_3 h0_3_0 h0_3_0k h0_3_0c h0_3_0_e0 h0_3_0_e0_0 h0_3_0_e0_f1 h0_3_0_e0_2 h0_3_0_e0_0 h0_3_0_e0_0k h0_3_0_e0_0c h0_3_0_e1 h0_3_0_e1_0 h0_3_0_e1_f1 h0_3_0_e1_2 h0_3_0_e1_0 h0_3_0_e1_0k h0_3_0_e1_0c h0_3_0_e2 h0_3_0_e2_0 h0_3_0_e2_f1 h0_3_0_e2_2 h0_3_0_e2_0 h0_3_0_e2_0k h0_3_0_e2_0c h0_3_0_e3 h0_3_0_e3_0 h0_3_0_e3_f1 h0_3_0_e3_2 h0_3_0_e3_0 h0_3_0_e3_0k h0_3_0_e3_0c h0_3_0_e4 h0_3_0_e4_0 h0_3_0_e4_f1 h0_3_0_e4_2 h0_3_0_e4_0 h0_3_0_e4_0k h0_3_0_e4_0c h0_4 h0_4k h0_4c h0_4_e0 h0_4_e0_0 h0_4_e0_f1 h0_4_e0_0 h0_4_e0_0k h0_4_e0_0c h0_4_e1 h0_4_e1_0 h0_4_e1_f1 h0_4_e1_0 h0_4_e1_0k h0_4_e1_0c h0_4_e2 h0_4_e2_0 h0_4_e2_f1 h0_4_e2_0 h0_4_e2_0k h0_4_e2_0c h0_4_e3 h0_4_e3_0 h0_4_e3_f1 h0_4_e3_0 h0_4_e3_0k h0_4_e3_0c h0_4_e4 h0_4_e4_0 h0_4_e4_f1 h0_4_e4_0 h0_4_e4_0k h0_4_e4_0c) sz) U U.heap ∧ va_T .byte tv0 3 (fun j => .int ([115, 98, 99].getD j 0)) (va_A (wd_c_X11_fault h0 h0_0 h0_1 h0_2 h0_3 h0_4 h0_f5 h0_6 h0_7 h0_8 h0_9 h0_10 h0_11 h0_12 h0_13 h0_14 h0_f15 h0_2 h0_2_0 h0_2_f1 h0_2_f2 h0_2_f3 h0_2_0 h0_2_0k h0_2_0c h0_0 h0_0_0 h0_0_f1 h0_0_f2 h0_0_f3 h0_0_0 h0_0_0k h0_0_0c h0_3 h0_3_0 h0_3_f1 h0_3_f2 h0_3_3 h0_3_0 h0_3_0k h0_3_0c h0_3_0_e0 h0_3_0_e0_0 h0_3_0_e0_f1 h0_3_0_e0_2 h0_3_0_e0_0 h0_3_0_e0_0k h0_3_0_e0_0c h0_3_0_e1 h0_3_0_e1_0 h0_3_0_e1_f1 h0_3_0_e1_2 h0_3_0_e1_0 h0_3_0_e1_0k h0_3_0_e1_0c h0_3_0_e2 h0_3_0_e2_0 h0_3_0_e2_f1 h0_3_0_e2_2 h0_3_0_e2_0 h0_3_0_e2_0k h0_3_0_e2_0c h0_3_0_e3 h0_3_0_e3_0 h0_3_0_e3_f1 h0_3_0_e3_2 h0_3_0_e3_0 h0_3_0_e3_0k h0_3_0_e3_0c h0_3_0_e4 h0_3_0_e4_0 h0_3_0_e4_f1 h0_3_0_e4_2 h0_3_0_e4_0 h0_3_0_e4_0k h0_3_0_e4_0c h0_4 h0_4k h0_4c h0_4_e0 h0_4_e0_0 h0_4_e0_f1 h0_4_e0_0 h0_4_e0_0k h0_4_e0_0c h0_4_e1 h0_4_e1_0 h0_4_e1_f1 h0_4_e1_0 h0_4_e1_0k h0_4_e1_0c h0_4_e2 h0_4_e2_0 h0_4_e2_f1 h0_4_e2_0 h0_4_e2_0k h0_4_e2_0c h0_4_e3 h0_4_e3_0 h0_4_e3_f1 h0_4_e3_0 h0_4_e3_0k h0_4_e3_0c h0_4_e4 h0_4_e4_0 h0_4_e4_f1 h0_4_e4_0 h0_4_e4_0k h0_4_e4_0c) sz) U U.heap ∧ vk_R RX0 124 "xycaefor" ts2 U ∧ va_OF "java/lang/String" "value" "[B" (.ref tv2) ts2 (va_A (wd_c_X11_fault h0 h0_0 h0_1 h0_2 h0_3 h0_4 h0_f5 h0_6 h0_7 h0_8 h0_9 h0_10 h0_11 h0_12 h0_13 h0_14 h0_f15 h0_2 h0_2_0 h0_2_f1 h0_2_f2 h0_2_f3 h0_2_0 h0_2_0k h0_2_0c h0_0 h0_0_0 h0_0_f1 h0_0_f2 h0_0_f3 h0_0_0 h0_0_0k h0_0_0c h0_3 h0_3_0 h0_3_f1 h0_3_f2 h0_3_3 h0_3_0 h0_3_0k h0_3_0c h0_3_0_e0 h0_3_0_e0_0 h0_3_0_e0_f1 h0_3_0_e0_2 h0_3_0_e0_0 h0_3_0_e0_0k h0_3_0_e0_0c h0_3_0_e1 h0_3_0_e1_0 h0_3_0_e1_f1 h0_3_0_e1_2 h0_3_0_e1_0 h0_3_0_e1_0k h0_3_0_e1_0c h0_3_0_e2 h0_3_0_e2_0 h0_3_0_e2_f1 h0_3_0_e2_2 h0_3_0_e2_0 h0_3_0_e2_0k h0_3_0_e2_0c h0_3_0_e3 h0_3_0_e3_0 h0_3_0_e3_f1 h0_3_0_e3_2 h0_3_0_e3_0 h0_3_0_e3_0k h0_3_0_e3_0c h0_3_0_e4 h0_3_0_e4_0 h0_3_0_e4_f1 h0_3_0_e4_2 h0_3_0_e4_0 h0_3_0_e4_0k h0_3_0_e4_0c h0_4 h0_4k h0_4c h0_4_e0 h0_4_e0_0 h0_4_e0_f1 h0_4_e0_0 h0_4_e0_0k h0_4_e0_0c h0_4_e1 h0_4_e1_0 h0_4_e1_f1 h0_4_e1_0 h0_4_e1_0k h0_4_e1_0c h0_4_e2 h0_4_e2_0 h0_4_e2_f1 h0_4_e2_0 h0_4_e2_0k h0_4_e2_0c h0_4_e3 h0_4_e3_0 h0_4_e3_f1 h0_4_e3_0 h0_4_e3_0k h0_4_e3_0c h0_4_e4 h0_4_e4_0 h0_4_e4_f1 h0_4_e4_0 h0_4_e4_0k h0_4_e4_0c) sz) U U.heap ∧ va_T .byte tv2 8 (fun j => .int ([120, 121, 99, 97, 101, 102, 111, 114].getD j 0)) (va_A (wd_c_X11_fault h0 h0_0 h0_1 h0_2 h0_3 h0_4 h0_f5 h0_6 h0_7 h0_8 h0_9 h0_10 h0_11 h0_12 h0_13 h0_14 h0_f15 h0_2 h0_2_0 h0_2_f1 h0_2_f2 h0_2_f3 h0_2_0 h0_2_0k h0_2_0c h0_0 h0_0_0 h0_0_f1 h0_0_f2 h0_0_f3 h0_0_0 h0_0_0k h0_0_0c h0_3 h0_3_0 h0_3_f1 h0_3_f2 h0_3_3 h0_3_0 h0_3_0k h0_3_0c h0_3_0_e0 h0_3_0_e0_0 h0_3_0_e0_f1 h0_3_0_e0_2 h0_3_0_e0_0 h0_3_0_e0_0k h0_3_0_e0_0c h0_3_0_e1 h0_3_0_e1_0 h0_3_0_e1_f1 h0_3_0_e1_2 h0_3_0_e1_0 h0_3_0_e1_0k h0_3_0_e1_0c h0_3_0_e2 h0_3_0_e2_0 h0_3_0_e2_f1 h0_3_0_e2_2 h0_3_0_e2_0 h0_3_0_e2_0k h0_3_0_e2_0c h0_3_0_e3 h0_3_0_e3_0 h0_3_0_e3_f1 h0_3_0_e3_2 h0_3_0_e3_0 h0_3_0_e3_0k h0_3_0_e3_0c h0_3_0_e4 h0_3_0_e4_0 h0_3_0_e4_f1 h0_3_0_e4_2 h0_3_0_e4_0 h0_3_0_e4_0k h0_3_0_e4_0c h0_4 h0_4k h0_4c h0_4_e0 h0_4_e0_0 h0_4_e0_f1 h0_4_e0_0 h0_4_e0_0k h0_4_e0_0c h0_4_e1 h0_4_e1_0 h0_4_e1_f1 h0_4_e1_0 h0_4_e1_0k h0_4_e1_0c h0_4_e2 h0_4_e2_0 h0_4_e2_f1 h0_4_e2_0 h0_4_e2_0k h0_4_e2_0c h0_4_e3 h0_4_e3_0 h0_4_e3_f1 h0_4_e3_0 h0_4_e3_0k h0_4_e3_0c h0_4_e4 h0_4_e4_0 h0_4_e4_f1 h0_4_e4_0 h0_4_e4_0k h0_4_e4_0c) sz) U U.heap ∧ va_OF "java/lang/String" "coder" "B" (.int 0) ts2 (va_A (wd_c_X11_fault h0 h0_0 h0_1 h0_2 h0_3 h0_4 h0_f5 h0_6 h0_7 h0_8 h0_9 h0_10 h0_11 h0_12 h0_13 h0_14 h0_f15 h0_2 h0_2_0 h0_2_f1 h0_2_f2 h0_2_f3 h0_2_0 h0_2_0k h0_2_0c h0_0 h0_0_0 h0_0_f1 h0_0_f2 h0_0_f3 h0_0_0 h0_0_0k h0_0_0c h0_3 h0_3_0 h0_3_f1 h0_3_f2 h0_3_3 h0_3_0 h0_3_0k h0_3_0c h0_3_0_e0 h0_3_0_e0_0 h0_3_0_e0_f1 h0_3_0_e0_2 h0_3_0_e0_0 h0_3_0_e0_0k h0_3_0_e0_0c h0_3_0_e1 h0_3_0_e1_0 h0_3_0_e1_f1 h0_3_0_e1_2 h0_3_0_e1_0 h0_3_0_e1_0k h0_3_0_e1_0c h0_3_0_e2 h0_3_0_e2_0 h0_3_0_e2_f1 h0_3_0_e2_2 h0_3_0_e2_0 h0_3_0_e2_0k h0_3_0_e2_0c h0_3_0_e3 h0_3_0_e3_0 h0_3_0_e3_f1 h0_3_0_e3_2 h0_3_0_e3_0 h0_3_0_e3_0k h0_3_0_e3_0c h0_3_0_e4 h0_3_0_e4_0 h0_3_0_e4_f1 h0_3_0_e4_2 h0_3_0_e4_0 h0_3_0_e4_0k h0_3_0_e4_0c h0_4 h0_4k h0_4c h0_4_e0 h0_4_e0_0 h0_4_e0_f1 h0_4_e0_0 h0_4_e0_0k h0_4_e0_0c h0_4_e1 h0_4_e1_0 h0_4_e1_f1 h0_4_e1_0 h0_4_e1_0k h0_4_e1_0c h0_4_e2 h0_4_e2_0 h0_4_e2_f1 h0_4_e2_0 h0_4_e2_0k h0_4_e2_0c h0_4_e3 h0_4_e3_0 h0_4_e3_f1 h0_4_e3_0 h0_4_e3_0k h0_4_e3_0c h0_4_e4 h0_4_e4_0 h0_4_e4_f1 h0_4_e4_0 h0_4_e4_0k h0_4_e4_0c) sz) U U.heap ∧ va_O "java/lang/String" ts2 (va_A (wd_c_X11_fault h0 h0_0 h0_1 h0_2 h0_3 h0_4 h0_f5 h0_6 h0_7 h0_8 h0_9 h0_10 h0_11 h0_12 h0_13 h0_14 h0_f15 h0_2 h0_2_0 h0_2_f1 h0_2_f2 h0_2_f3 h0_2_0 h0_2_0k h0_2_0c h0_0 h0_0_0 h0_0_f1 h0_0_f2 h0_0_f3 h0_0_0 h0_0_0k h0_0_0c h0_3 h0_3_0 h0_3_f1 h0_3_f2 h0_3_3 h0_3_0 h0_3_0k h0_3_0c h0_3_0_e0 h0_3_0_e0_0 h0_3_0_e0_f1 h0_3_0_e0_2 h0_3_0_e0_0 h0_3_0_e0_0k h0_3_0_e0_0c h0_3_0_e1 h0_3_0_e1_0 h0_3_0_e1_f1 h0_3_0_e1_2 h0_3_0_e1_0 h0_3_0_e1_0k h0_3_0_e1_0c h0_3_0_e2 h0_3_0_e2_0 h0_3_0_e2_f1 h0_3_0_e2_2 h0_3_0_e2_0 h0_3_0_e2_0k h0_3_0_e2_0c h0_3_0_e3 h0_3_0_e3_0 h0_3_0_e3_f1 h0_3_0_e3_2 h0_3_0_e3_0 h0_3_0_e3_0k h0_3_0_e3_0c h0_3_0_e4 h0_3_0_e4_0 h0_3_0_e4_f1 h0_3_0_e4_2 h0_3_0_e4_0 h0_3_0_e4_0k h0_3_0_e4_0c h0_4 h0_4k h0_4c h0_4_e0 h0_4_e0_0 h0_4_e0_f1 h0_4_e0_0 h0_4_e0_0k h0_4_e0_0c h0_4_e1 h0_4_e1_0 h0_4_e1_f1 h0_4_e1_0 h0_4_e1_0k h0_4_e1_0c h0_4_e2 h0_4_e2_0 h0_4_e2_f1 h0_4_e2_0 h0_4_e2_0k h0_4_e2_0c h0_4_e3 h0_4_e3_0 h0_4_e3_f1 h0_4_e3_0 h0_4_e3_0k h0_4_e3_0c h0_4_e4 h0_4_e4_0 h0_4_e4_f1 h0_4_e4_0 h0_4_e4_0k h0_4_e4_0c) sz) U U.heap ∧ vk_R RX0 126 "xysv" ts3 U ∧ va_OF "java/lang/String" "value" "[B" (.ref tv3) ts3 (va_A (wd_c_X11_fault h0 h0_0 h0_1 h0_2 h0_3 h0_4 h0_f5 h0_6 h0_7 h0_8 h0_9 h0_10 h0_11 h0_12 h0_13 h0_14 h0_f15 h0_2 h0_2_0 h0_2_f1 h0_2_f2 h0_2_f3 h0_2_0 h0_2_0k h0_2_0c h0_0 h0_0_0 h0_0_f1 h0_0_f2 h0_0_f3 h0_0_0 h0_0_0k h0_0_0c h0_3 h0_3_0 h0_3_f1 h0_3_f2 h0_3_3 h0_3_0 h0_3_0k h0_3_0c h0_3_0_e0 h0_3_0_e0_0 h0_3_0_e0_f1 h0_3_0_e0_2 h0_3_0_e0_0 h0_3_0_e0_0k h0_3_0_e0_0c h0_3_0_e1 h0_3_0_e1_0 h0_3_0_e1_f1 h0_3_0_e1_2 h0_3_0_e1_0 h0_3_0_e1_0k h0_3_0_e1_0c h0_3_0_e2 h0_3_0_e2_0 h0_3_0_e2_f1 h0_3_0_e2_2 h0_3_0_e2_0 h0_3_0_e2_0k h0_3_0_e2_0c h0_3_0_e3 h0_3_0_e3_0 h0_3_0_e3_f1 h0_3_0_e3_2 h0_3_0_e3_0 h0_3_0_e3_0k h0_3_0_e3_0c h0_3_0_e4 h0_3_0_e4_0 h0_3_0_e4_f1 h0_3_0_e4_2 h0_3_0_e4_0 h0_3_0_e4_0k h0_3_0_e4_0c h0_4 h0_4k h0_4c h0_4_e0 h0_4_e0_0 h0_4_e0_f1 h0_4_e0_0 h0_4_e0_0k h0_4_e0_0c h0_4_e1 h0_4_e1_0 h0_4_e1_f1 h0_4_e1_0 h0_4_e1_0k h0_4_e1_0c h0_4_e2 h0_4_e2_0 h0_4_e2_f1 h0_4_e2_0 h0_4_e2_0k h0_4_e2_0c h0_4_e3 h0_4_e3_0 h0_4_e3_f1 h0_4_e3_0 h0_4_e3_0k h0_4_e3_0c h0_4_e4 h0_4_e4_0 h0_4_e4_f1 h0_4_e4_0 h0_4_e4_0k h0_4_e4_0c) sz) U U.heap ∧ va_T .byte tv3 4 (fun j => .int ([120, 121, 115, 118].getD j 0)) (va_A (wd_c_X11_fault h0 h0_0 h0_1 h0_2 h0_3 h0_4 h0_f5 h0_6 h0_7 h0_8 h0_9 h0_10 h0_11 h0_12 h0_13 h0_14 h0_f15 h0_2 h0_2_0 h0_2_f1 h0_2_f2 h0_2_f3 h0_2_0 h0_2_0k h0_2_0c h0_0 h0_0_0 h0_0_f1 h0_0_f2 h0_0_f3 h0_0_0 h0_0_0k h0_0_0c h0_3 h0_3_0 h0_3_f1 h0_3_f2 h0_3_3 h0_3_0 h0_3_0k h0_3_0c h0_3_0_e0 h0_3_0_e0_0 h0_3_0_e0_f1 h0_3_0_e0_2 h0_3_0_e0_0 h0_3_0_e0_0k h0_3_0_e0_0c h0_3_0_e1 h0_3_0_e1_0 h0_3_0_e1_f1 h0_3_0_e1_2 h0_3_0_e1_0 h0_3_0_e1_0k h0_3_0_e1_0c h0_3_0_e2 h0_3_0_e2_0 h0_3_0_e2_f1 h0_3_0_e2_2 h0_3_0_e2_0 h0_3_0_e2_0k h0_3_0_e2_0c h0_3_0_e3 h0_3_0_e3_0 h0_3_0_e3_f1 h0_3_0_e3_2 h0_3_0_e3_0 h0_3_0_e3_0k h0_3_0_e3_0c h0_3_0_e4 h0_3_0_e4_0 h0_3_0_e4_f1 h0_3_0_e4_2 h0_3_0_e4_0 h0_3_0_e4_0k h0_3_0_e4_0c h0_4 h0_4k h0_4c h0_4_e0 h0_4_e0_0 h0_4_e0_f1 h0_4_e0_0 h0_4_e0_0k h0_4_e0_0c h0_4_e1 h0_4_e1_0 h0_4_e1_f1 h0_4_e1_0 h0_4_e1_0k h0_4_e1_0c h0_4_e2 h0_4_e2_0 h0_4_e2_f1 h0_4_e2_0 h0_4_e2_0k h0_4_e2_0c h0_4_e3 h0_4_e3_0 h0_4_e3_f1 h0_4_e3_0 h0_4_e3_0k h0_4_e3_0c h0_4_e4 h0_4_e4_0 h0_4_e4_f1 h0_4_e4_0 h0_4_e4_0k h0_4_e4_0c) sz) U U.heap ∧ va_OF "java/lang/String" "coder" "B" (.int 0) ts3 (va_A (wd_c_X11_fault h0 h0_0 h0_1 h0_2 h0_3 h0_4 h0_f5 h0_6 h0_7 h0_8 h0_9 h0_10 h0_11 h0_12 h0_13 h0_14 h0_f15 h0_2 h0_2_0 h0_2_f1 h0_2_f2 h0_2_f3 h0_2_0 h0_2_0k h0_2_0c h0_0 h0_0_0 h0_0_f1 h0_0_f2 h0_0_f3 h0_0_0 h0_0_0k h0_0_0c h0_3 h0_3_0 h0_3_f1 h0_3_f2 h0_3_3 h0_3_0 h0_3_0k h0_3_0c h0_3_0_e0 h0_3_0_e0_0 h0_3_0_e0_f1 h0_3_0_e0_2 h0_3_0_e0_0 h0_3_0_e0_0k h0_3_0_e0_0c h0_3_0_e1 h0_3_0_e1_0 h0_3_0_e1_f1 h0_3_0_e1_2 h0_3_0_e1_0 h0_3_0_e1_0k h0_3_0_e1_0c h0_3_0_e2 h0_3_0_e2_0 h0_3_0_e2_f1 h0_3_0_e2_2 h0_3_0_e2_0 h0_3_0_e2_0k h0_3_0_e2_0c h0_3_0_e3 h0_3_0_e3_0 h0_3_0_e3_f1 h0_3_0_e3_2 h0_3_0_e3_0 h0_3_0_e3_0k h0_3_0_e3_0c h0_3_0_e4 h0_3_0_e4_0 h0_3_0_e4_f1 h0_3_0_e4_2 h0_3_0_e4_0 h0_3_0_e4_0k h0_3_0_e4_0c h0_4 h0_4k h0_4c h0_4_e0 h0_4_e0_0 h0_4_e0_f1 h0_4_e0_0 h0_4_e0_0k h0_4_e0_0c h0_4_e1 h0_4_e1_0 h0_4_e1_f1 h0_4_e1_0 h0_4_e1_0k h0_4_e1_0c h0_4_e2 h0_4_e2_0 h0_4_e2_f1 h0_4_e2_0 h0_4_e2_0k h0_4_e2_0c h0_4_e3 h0_4_e3_0 h0_4_e3_f1 h0_4_e3_0 h0_4_e3_0k h0_4_e3_0c h0_4_e4 h0_4_e4_0 h0_4_e4_f1 h0_4_e4_0 h0_4_e4_0k h0_4_e4_0c) sz) U U.heap ∧ va_O "java/lang/String" ts3 (va_A (wd_c_X11_fault h0 h0_0 h0_1 h0_2 h0_3 h0_4 h0_f5 h0_6 h0_7 h0_8 h0_9 h0_10 h0_11 h0_12 h0_13 h0_14 h0_f15 h0_2 h0_2_0 h0_2_f1 h0_2_f2 h0_2_f3 h0_2_0 h0_2_0k h0_2_0c h0_0 h0_0_0 h0_0_f1 h0_0_f2 h0_0_f3 h0_0_0 h0_0_0k h0_0_0c h0_3 h0_3_0 h0_3_f1 h0_3_f2 h0_3_3 h0_3_0 h0_3_0k h0_3_0c h0_3_0_e0 h0_3_0_e0_0 h0_3_0_e0_f1 h0_3_0_e0_2 h0_3_0_e0_0 h0_3_0_e0_0k h0_3_0_e0_0c h0_3_0_e1 h0_3_0_e1_0 h0_3_0_e1_f1 h0_3_0_e1_2 h0_3_0_e1_0 h0_3_0_e1_0k h0_3_0_e1_0c h0_3_0_e2 h0_3_0_e2_0 h0_3_0_e2_f1 h0_3_0_e2_2 h0_3_0_e2_0 h0_3_0_e2_0k h0_3_0_e2_0c h0_3_0_e3 h0_3_0_e3_0 h0_3_0_e3_f1 h0_3_0_e3_2 h0_3_0_e3_0 h0_3_0_e3_0k h0_3_0_e3_0c h0_3_0_e4 h0_3_0_e4_0 h0_3_0_e4_f1 h0_3_0_e4_2 h0_3_0_e4_0 h0_3_0_e4_0k h0_3_0_e4_0c h0_4 h0_4k h0_4c h0_4_e0 h0_4_e0_0 h0_4_e0_f1 h0_4_e0_0 h0_4_e0_0k h0_4_e0_0c h0_4_e1 h0_4_e1_0 h0_4_e1_f1 h0_4_e1_0 h0_4_e1_0k h0_4_e1_0c h0_4_e2 h0_4_e2_0 h0_4_e2_f1 h0_4_e2_0 h0_4_e2_0k h0_4_e2_0c h0_4_e3 h0_4_e3_0 h0_4_e3_f1 h0_4_e3_0 h0_4_e3_0k h0_4_e3_0c h0_4_e4 h0_4_e4_0 h0_4_e4_f1 h0_4_e4_0 h0_4_e4_0k h0_4_e4_0c) sz) U U.heap ∧ va_Z "BuoyVote$Borough" "LOW" "[I" (.ref ta1) (va_A (wd_c_X11_fault h0 h0_0 h0_1 h0_2 h0_3 h0_4 h0_f5 h0_6 h0_7 h0_8 h0_9 h0_10 h0_11 h0_12 h0_13 h0_14 h0_f15 h0_2 h0_2_0 h0_2_f1 h0_2_f2 h0_2_f3 h0_2_0 h0_2_0k h0_2_0c h0_0 h0_0_0 h0_0_f1 h0_0_f2 h0_0_f3 h0_0_0 h0_0_0k h0_0_0c h0_3 h0_3_0 h0_3_f1 h0_3_f2 h0_3_3 h0_3_0 h0_3_0k h0_3_0c h0_3_0_e0 h0_3_0_e0_0 h0_3_0_e0_f1 h0_3_0_e0_2 h0_3_0_e0_0 h0_3_0_e0_0k h0_3_0_e0_0c h0_3_0_e1 h0_3_0_e1_0 h0_3_0_e1_f1 h0_3_0_e1_2 h0_3_0_e1_0 h0_3_0_e1_0k h0_3_0_e1_0c h0_3_0_e2 h0_3_0_e2_0 h0_3_0_e2_f1 h0_3_0_e2_2 h0_3_0_e2_0 h0_3_0_e2_0k h0_3_0_e2_0c h0_3_0_e3 h0_3_0_e3_0 h0_3_0_e3_f1 h0_3_0_e3_2 h0_3_0_e3_0 h0_3_0_e3_0k h0_3_0_e3_0c h0_3_0_e4 h0_3_0_e4_0 h0_3_0_e4_f1 h0_3_0_e4_2 h0_3_0_e4_0 h0_3_0_e4_0k h0_3_0_e4_0c h0_4 h0_4k h0_4c h0_4_e0 h0_4_e0_0 h0_4_e0_f1 h0_4_e0_0 h0_4_e0_0k h0_4_e0_0c h0_4_e1 h0_4_e1_0 h0_4_e1_f1 h0_4_e1_0 h0_4_e1_0k h0_4_e1_0c h0_4_e2 h0_4_e2_0 h0_4_e2_f1 h0_4_e2_0 h0_4_e2_0k h0_4_e2_0c h0_4_e3 h0_4_e3_0 h0_4_e3_f1 h0_4_e3_0 h0_4_e3_0k h0_4_e3_0c h0_4_e4 h0_4_e4_0 h0_4_e4_f1 h0_4_e4_0 h0_4_e4_0k h0_4_e4_0c) sz) U U.heap ∧ va_T .int ta1 16 (fun j => .int ([0, 0, 1, 1, 0, 0, 0, 0, 0, 0, 0, 0, 0, 0, 1, 0].getD j 0)) (va_A (wd_c_X11_fault h0 h0_0 h0_1 h0_2 h0_3 h0_4 h0_f5 h0_6 h0_7 h0_8 h0_9 h0_10 h0_11 h0_12 h0_13 h0_14 h0_f15 h0_2 h0_2_0 h0_2_f1 h0_2_f2 h0_2_f3 h0_2_0 h0_2_0k h0_2_0c h0_0 h0_0_0 h0_0_f1 h0_0_f2 h0_0_f3 h0_0_0 h0_0_0k h0_0_0c h0_3 h0_3_0 h0_3_f1 h0_3_f2 h0_3_3 h0_3_0 h0_3_0k h0_3_0c h0_3_0_e0 h0_3_0_e0_0 h0_3_0_e0_f1 h0_3_0_e0_2 h0_3_0_e0_0 h0_3_0_e0_0k h0_3_0_e0_0c h0_3_0_e1 h0_3_0_e1_0 h0_3_0_e1_f1 h0_3_0_e1_2 h0_3_0_e1_0 h0_3_0_e1_0k h0_3_0_e1_0c h0_3_0_e2 h0_3_0_e2_0 h0_3_0_e2_f1 h0_3_0_e2_2 h0_3_0_e2_0 h0_3_0_e2_0k h0_3_0_e2_0c h0_3_0_e3 h0_3_0_e3_0 h0_3_0_e3_f1 h0_3_0_e3_2 h0_3_0_e3_0 h0_3_0_e3_0k h0_3_0_e3_0c h0_3_0_e4 h0_3_0_e4_0 h0_3_0_e4_f1 h0_3_0_e4_2 h0_3_0_e4_0 h0_3_0_e4_0k h0_3_0_e4_0c h0_4 h0_4k h0_4c h0_4_e0 h0_4_e0_0 h0_4_e0_f1 h0_4_e0_0 h0_4_e0_0k h0_4_e0_0c h0_4_e1 h0_4_e1_0 h0_4_e1_f1 h0_4_e1_0 h0_4_e1_0k h0_4_e1_0c h0_4_e2 h0_4_e2_0 h0_4_e2_f1 h0_4_e2_0 h0_4_e2_0k h0_4_e2_0c h0_4_e3 h0_4_e3_0 h0_4_e3_f1 h0_4_e3_0 h0_4_e3_0k h0_4_e3_0c h0_4_e4 h0_4_e4_0 h0_4_e4_f1 h0_4_e4_0 h0_4_e4_0k h0_4_e4_0c) sz) U U.heap ∧ va_Z "BuoyVote$Borough" "HIGH" "[I" (.ref ta2) (va_A (wd_c_X11_fault h0 h0_0 h0_1 h0_2 h0_3 h0_4 h0_f5 h0_6 h0_7 h0_8 h0_9 h0_10 h0_11 h0_12 h0_13 h0_14 h0_f15 h0_2 h0_2_0 h0_2_f1 h0_2_f2 h0_2_f3 h0_2_0 h0_2_0k h0_2_0c h0_0 h0_0_0 h0_0_f1 h0_0_f2 h0_0_f3 h0_0_0 h0_0_0k h0_0_0c h0_3 h0_3_0 h0_3_f1 h0_3_f2 h0_3_3 h0_3_0 h0_3_0k h0_3_0c h0_3_0_e0 h0_3_0_e0_0 h0_3_0_e0_f1 h0_3_0_e0_2 h0_3_0_e0_0 h0_3_0_e0_0k h0_3_0_e0_0c h0_3_0_e1 h0_3_0_e1_0 h0_3_0_e1_f1 h0_3_0_e1_2 h0_3_0_e1_0 h0_3_0_e1_0k h0_3_0_e1_0c h0_3_0_e2 h0_3_0_e2_0 h0_3_0_e2_f1 h0_3_0_e2_2 h0_3_0_e2_0 h0_3_0_e2_0k h0_3_0_e2_0c h0_3_0_e3 h0_3_0_e3_0 h0_3_0_e3_f1 h0_3_0_e3_2 h0_3_0_e3_0 h0_3_0_e3_0k h0_3_0_e3_0c h0_3_0_e4 h0_3_0_e4_0 h0_3_0_e4_f1 h0_3_0_e4_2 h0_3_0_e4_0 h0_3_0_e4_0k h0_3_0_e4_0c h0_4 h0_4k h0_4c h0_4_e0 h0_4_e0_0 h0_4_e0_f1 h0_4_e0_0 h0_4_e0_0k h0_4_e0_0c h0_4_e1 h0_4_e1_0 h0_4_e1_f1 h0_4_e1_0 h0_4_e1_0k h0_4_e1_0c h0_4_e2 h0_4_e2_0 h0_4_e2_f1 h0_4_e2_0 h0_4_e2_0k h0_4_e2_0c h0_4_e3 h0_4_e3_0 h0_4_e3_f1 h0_4_e3_0 h0_4_e3_0k h0_4_e3_0c h0_4_e4 h0_4_e4_0 h0_4_e4_f1 h0_4_e4_0 h0_4_e4_0k h0_4_e4_0c) sz) U U.heap ∧ va_T .int ta2 16 (fun j => .int ([9, 3, 12, 20, 9, 9, 9, 9, 9, 9, 3, 9, 9, 9, 4, 9].getD j 0)) (va_A (wd_c_X11_fault h0 h0_0 h0_1 h0_2 h0_3 h0_4 h0_f5 h0_6 h0_7 h0_8 h0_9 h0_10 h0_11 h0_12 h0_13 h0_14 h0_f15 h0_2 h0_2_0 h0_2_f1 h0_2_f2 h0_2_f3 h0_2_0 h0_2_0k h0_2_0c h0_0 h0_0_0 h0_0_f1 h0_0_f2 h0_0_f3 h0_0_0 h0_0_0k h0_0_0c h0_3 h0_3_0 h0_3_f1 h0_3_f2 h0_3_3 h0_3_0 h0_3_0k h0_3_0c h0_3_0_e0 h0_3_0_e0_0 h0_3_0_e0_f1 h0_3_0_e0_2 h0_3_0_e0_0 h0_3_0_e0_0k h0_3_0_e0_0c h0_3_0_e1 h0_3_0_e1_0 h0_3_0_e1_f1 h0_3_0_e1_2 h0_3_0_e1_0 h0_3_0_e1_0k h0_3_0_e1_0c h0_3_0_e2 h0_3_0_e2_0 h0_3_0_e2_f1 h0_3_0_e2_2 h0_3_0_e2_0 h0_3_0_e2_0k h0_3_0_e2_0c h0_3_0_e3 h0_3_0_e3_0 h0_3_0_e3_f1 h0_3_0_e3_2 h0_3_0_e3_0 h0_3_0_e3_0k h0_3_0_e3_0c h0_3_0_e4 h0_3_0_e4_0 h0_3_0_e4_f1 h0_3_0_e4_2 h0_3_0_e4_0 h0_3_0_e4_0k h0_3_0_e4_0c h0_4 h0_4k h0_4c h0_4_e0 h0_4_e0_0 h0_4_e0_f1 h0_4_e0_0 h0_4_e0_0k h0_4_e0_0c h0_4_e1 h0_4_e1_0 h0_4_e1_f1 h0_4_e1_0 h0_4_e1_0k h0_4_e1_0c h0_4_e2 h0_4_e2_0 h0_4_e2_f1 h0_4_e2_0 h0_4_e2_0k h0_4_e2_0c h0_4_e3 h0_4_e3_0 h0_4_e3_f1 h0_4_e3_0 h0_4_e3_0k h0_4_e3_0c h0_4_e4 h0_4_e4_0 h0_4_e4_f1 h0_4_e4_0 h0_4_e4_0k h0_4_e4_0c) sz) U U.heap ∧ vk_R RX4 91 "vlrdph" ts4 U ∧ va_OF "java/lang/String" "coder" "B" (.int 0) ts4 (va_A (wd_c_X11_fault h0 h0_0 h0_1 h0_2 h0_3 h0_4 h0_f5 h0_6 h0_7 h0_8 h0_9 h0_10 h0_11 h0_12 h0_13 h0_14 h0_f15 h0_2 h0_2_0 h0_2_f1 h0_2_f2 h0_2_f3 h0_2_0 h0_2_0k h0_2_0c h0_0 h0_0_0 h0_0_f1 h0_0_f2 h0_0_f3 h0_0_0 h0_0_0k h0_0_0c h0_3 h0_3_0 h0_3_f1 h0_3_f2 h0_3_3 h0_3_0 h0_3_0k h0_3_0c h0_3_0_e0 h0_3_0_e0_0 h0_3_0_e0_f1 h0_3_0_e0_2 h0_3_0_e0_0 h0_3_0_e0_0k h0_3_0_e0_0c h0_3_0_e1 h0_3_0_e1_0 h0_3_0_e1_f1 h0_3_0_e1_2 h0_3_0_e1_0 h0_3_0_e1_0k h0_3_0_e1_0c h0_3_0_e2 h0_3_0_e2_0 h0_3_0_e2_f1 h0_3_0_e2_2 h0_3_0_e2_0 h0_3_0_e2_0k h0_3_0_e2_0c h0_3_0_e3 h0_3_0_e3_0 h0_3_0_e3_f1 h0_3_0_e3_2 h0_3_0_e3_0 h0_3_0_e3_0k h0_3_0_e3_0c h0_3_0_e4 h0_3_0_e4_0 h0_3_0_e4_f1 h0_3_0_e4_2 h0_3_0_e4_0 h0_3_0_e4_0k h0_3_0_e4_0c h0_4 h0_4k h0_4c h0_4_e0 h0_4_e0_0 h0_4_e0_f1 h0_4_e0_0 h0_4_e0_0k h0_4_e0_0c h0_4_e1 h0_4_e1_0 h0_4_e1_f1 h0_4_e1_0 h0_4_e1_0k h0_4_e1_0c h0_4_e2 h0_4_e2_0 h0_4_e2_f1 h0_4_e2_0 h0_4_e2_0k h0_4_e2_0c h0_4_e3 h0_4_e3_0 h0_4_e3_f1 h0_4_e3_0 h0_4_e3_0k h0_4_e3_0c h0_4_e4 h0_4_e4_0 h0_4_e4_f1 h0_4_e4_0 h0_4_e4_0k h0_4_e4_0c) sz) U U.heap ∧ va_O "java/lang/String" ts4 (va_A (wd_c_X11_fault h0 h0_0 h0_1 h0_2 h0_3 h0_4 h0_f5 h0_6 h0_7 h0_8 h0_9 h0_10 h0_11 h0_12 h0_13 h0_14 h0_f15 h0_2 h0_2_0 h0_2_f1 h0_2_f2 h0_2_f3 h0_2_0 h0_2_0k h0_2_0c h0_0 h0_0_0 h0_0_f1 h0_0_f2 h0_0_f3 h0_0_0 h0_0_0k h0_0_0c h0_3 h0_3_0 h0_3_f1 h0_3_f2 h0_3_3 h0_3_0 h0_3_0k h0_3_0c h0_3_0_e0 h0_3_0_e0_0 h0_3_0_e0_f1 h0_3_0_e0_2 h0_3_0_e0_0 h0_3_0_e0_0k h0_3_0_e0_0c h0_3_0_e1 h0_3_0_e1_0 h0_3_0_e1_f1 h0_3_0_e1_2 h0_3_0_e1_0 h0_3_0_e1_0k h0_3_0_e1_0c h0_3_0_e2 h0_3_0_e2_0 h0_3_0_e2_f1 h0_3_0_e2_2 h0_3_0_e2_0 h0_3_0_e2_0k h0_3_0_e2_0c h0_3_0_e3 h0_3_0_e3_0 h0_3_0_e3_f1 h0_3_0_e3_2 h0_3_0_e3_0 h0_3_0_e3_0k h0_3_0_e3_0c h0_3_0_e4 h0_3_0_e4_0 h0_3_0_e4_f1 h0_3_0_e4_2 h0_3_0_e4_0 h0_3_0_e4_0k h0_3_0_e4_0c h0_4 h0_4k h0_4c h0_4_e0 h0_4_e0_0 h0_4_e0_f1 h0_4_e0_0 h0_4_e0_0k h0_4_e0_0c h0_4_e1 h0_4_e1_0 h0_4_e1_f1 h0_4_e1_0 h0_4_e1_0k h0_4_e1_0c h0_4_e2 h0_4_e2_0 h0_4_e2_f1 h0_4_e2_0 h0_4_e2_0k h0_4_e2_0c h0_4_e3 h0_4_e3_0 h0_4_e3_f1 h0_4_e3_0 h0_4_e3_0k h0_4_e3_0c h0_4_e4 h0_4_e4_0 h0_4_e4_f1 h0_4_e4_0 h0_4_e4_0k h0_4_e4_0c) sz) U U.heap ∧ va_OF "java/lang/String" "value" "[B" (.ref tv4) ts4 (va_A (wd_c_X11_fault h0 h0_0 h0_1 h0_2 h0_3 h0_4 h0_f5 h0_6 h0_7 h0_8 h0_9 h0_10 h0_11 h0_12 h0_13 h0_14 h0_f15 h0_2 h0_2_0 h0_2_f1 h0_2_f2 h0_2_f3 h0_2_0 h0_2_0k h0_2_0c h0_0 h0_0_0 h0_0_f1 h0_0_f2 h0_0_f3 h0_0_0 h0_0_0k h0_0_0c h0_3 h0_3_0 h0_3_f1 h0_3_f2 h0_3_3 h0_3_0 h0_3_0k h0_3_0c h0_3_0_e0 h0_3_0_e0_0 h0_3_0_e0_f1 h0_3_0_e0_2 h0_3_0_e0_0 h0_3_0_e0_0k h0_3_0_e0_0c h0_3_0_e1 h0_3_0_e1_0 h0_3_0_e1_f1 h0_3_0_e1_2 h0_3_0_e1_0 h0_3_0_e1_0k h0_3_0_e1_0c h0_3_0_e2 h0_3_0_e2_0 h0_3_0_e2_f1 h0_3_0_e2_2 h0_3_0_e2_0 h0_3_0_e2_0k h0_3_0_e2_0c h0_3_0_e3 h0_3_0_e3_0 h0_3_0_e3_f1 h0_3_0_e3_2 h0_3_0_e3_0 h0_3_0_e3_0k h0_3_0_e3_0c h0_3_0_e4 h0_3_0_e4_0 h0_3_0_e4_f1 h0_3_0_e4_2 h0_3_0_e4_0 h0_3_0_e4_0k h0_3_0_e4_0c h0_4 h0_4k h0_4c h0_4_e0 h0_4_e0_0 h0_4_e0_f1 h0_4_e0_0 h0_4_e0_0k h0_4_e0_0c h0_4_e1 h0_4_e1_0 h0_4_e1_f1 h0_4_e1_0 h0_4_e1_0k h0_4_e1_0c h0_4_e2 h0_4_e2_0 h0_4_e2_f1 h0_4_e2_0 h0_4_e2_0k h0_4_e2_0c h0_4_e3 h0_4_e3_0 h0_4_e3_f1 h0_4_e3_0 h0_4_e3_0k h0_4_e3_0c h0_4_e4 h0_4_e4_0 h0_4_e4_f1 h0_4_e4_0 h0_4_e4_0k h0_4_e4_0c) sz) U U.heap ∧ va_T .byte tv4 6 (fun j => .int ([118, 108, 114, 100, 112, 104].getD j 0)) (va_A (wd_c_X11_fault h0 h0_0 h0_1 h0_2 h0_3 h0_4 h0_f5 h0_6 h0_7 h0_8 h0_9 h0_10 h0_11 h0_12 h0_13 h0_14 h0_f15 h0_2 h0_2_0 h0_2_f1 h0_2_f2 h0_2_f3 h0_2_0 h0_2_0k h0_2_0c h0_0 h0_0_0 h0_0_f1 h0_0_f2 h0_0_f3 h0_0_0 h0_0_0k h0_0_0c h0_3 h0_3_0 h0_3_f1 h0_3_f2 h0_3_3 h0_3_0 h0_3_0k h0_3_0c h0_3_0_e0 h0_3_0_e0_0 h0_3_0_e0_f1 h0_3_0_e0_2 h0_3_0_e0_0 h0_3_0_e0_0k h0_3_0_e0_0c h0_3_0_e1 h0_3_0_e1_0 h0_3_0_e1_f1 h0_3_0_e1_2 h0_3_0_e1_0 h0_3_0_e1_0k h0_3_0_e1_0c h0_3_0_e2 h0_3_0_e2_0 h0_3_0_e2_f1 h0_3_0_e2_2 h0_3_0_e2_0 h0_3_0_e2_0k h0_3_0_e2_0c h0_3_0_e3 h0_3_0_e3_0 h0_3_0_e3_f1 h0_3_0_e3_2 h0_3_0_e3_0 h0_3_0_e3_0k h0_3_0_e3_0c h0_3_0_e4 h0_3_0_e4_0 h0_3_0_e4_f1 h0_3_0_e4_2 h0_3_0_e4_0 h0_3_0_e4_0k h0_3_0_e4_0c h0_4 h0_4k h0_4c h0_4_e0 h0_4_e0_0 h0_4_e0_f1 h0_4_e0_0 h0_4_e0_0k h0_4_e0_0c h0_4_e1 h0_4_e1_0 h0_4_e1_f1 h0_4_e1_0 h0_4_e1_0k h0_4_e1_0c h0_4_e2 h0_4_e2_0 h0_4_e2_f1 h0_4_e2_0 h0_4_e2_0k h0_4_e2_0c h0_4_e3 h0_4_e3_0 h0_4_e3_f1 h0_4_e3_0 h0_4_e3_0k h0_4_e3_0c h0_4_e4 h0_4_e4_0 h0_4_e4_f1 h0_4_e4_0 h0_4_e4_0k h0_4_e4_0c) sz) U U.heap ∧ vk_R RX6 42 "gsch" ts5 U ∧ va_OF "java/lang/String" "coder" "B" (.int 0) ts5 (va_A (wd_c_X11_fault h0 h0_0 h0_1 h0_2 h0_3 h0_4 h0_f5 h0_6 h0_7 h0_8 h0_9 h0_10 h0_11 h0_12 h0_13 h0_14 h0_f15 h0_2 h0_2_0 h0_2_f1 h0_2_f2 h0_2_f3 h0_2_0 h0_2_0k h0_2_0c h0_0 h0_0_0 h0_0_f1 h0_0_f2 h0_0_f3 h0_0_0 h0_0_0k h0_0_0c h0_3 h0_3_0 h0_3_f1 h0_3_f2 h0_3_3 h0_3_0 h0_3_0k h0_3_0c h0_3_0_e0 h0_3_0_e0_0 h0_3_0_e0_f1 h0_3_0_e0_2 h0_3_0_e0_0 h0_3_0_e0_0k h0_3_0_e0_0c h0_3_0_e1 h0_3_0_e1_0 h0_3_0_e1_f1 h0_3_0_e1_2 h0_3_0_e1_0 h0_3_0_e1_0k h0_3_0_e1_0c h0_3_0_e2 h0_3_0_e2_0 h0_3_0_e2_f1 h0_3_0_e2_2 h0_3_0_e2_0 h0_3_0_e2_0k h0_3_0_e2_0c h0_3_0_e3 h0_3_0_e3_0 h0_3_0_e3_f1 h0_3_0_e3_2 h0_3_0_e3_0 h0_3_0_e3_0k h0_3_0_e3_0c h0_3_0_e4 h0_3_0_e4_0 h0_3_0_e4_f1 h0_3_0_e4_2 h0_3_0_e4_0 h0_3_0_e4_0k h0_3_0_e4_0c h0_4 h0_4k h0_4c h0_4_e0 h0_4_e0_0 h0_4_e0_f1 h0_4_e0_0 h0_4_e0_0k h0_4_e0_0c h0_4_e1 h0_4_e1_0 h0_4_e1_f1 h0_4_e1_0 h0_4_e1_0k h0_4_e1_0c h0_4_e2 h0_4_e2_0 h0_4_e2_f1 h0_4_e2_0 h0_4_e2_0k h0_4_e2_0c h0_4_e3 h0_4_e3_0 h0_4_e3_f1 h0_4_e3_0 h0_4_e3_0k h0_4_e3_0c h0_4_e4 h0_4_e4_0 h0_4_e4_f1 h0_4_e4_0 h0_4_e4_0k h0_4_e4_0c) sz) U U.heap ∧ va_O "java/lang/String" ts5 (va_A (wd_c_X11_fault h0 h0_0 h0_1 h0_2 h0_3 h0_4 h0_f5 h0_6 h0_7 h0_8 h0_9 h0_10 h0_11 h0_12 h0_13 h0_14 h0_f15 h0_2 h0_2_0 h0_2_f1 h0_2_f2 h0_2_f3 h0_2_0 h0_2_0k h0_2_0c h0_0 h0_0_0 h0_0_f1 h0_0_f2 h0_0_f3 h0_0_0 h0_0_0k h0_0_0c h0_3 h0_3_0 h0_3_f1 h0_3_f2 h0_3_3 h0_3_0 h0_3_0k h0_3_0c h0_3_0_e0 h0_3_0_e0_0 h0_3_0_e0_f1 h0_3_0_e0_2 h0_3_0_e0_0 h0_3_0_e0_0k h0_3_0_e0_0c h0_3_0_e1 h0_3_0_e1_0 h0_3_0_e1_f1 h0_3_0_e1_2 h0_3_0_e1_0 h0_3_0_e1_0k h0_3_0_e1_0c h0_3_0_e2 h0_3_0_e2_0 h0_3_0_e2_f1 h0_3_0_e2_2 h0_3_0_e2_0 h0_3_0_e2_0k h0_3_0_e2_0c h0_3_0_e3 h0_3_0_e3_0 h0_3_0_e3_f1 h0_3_0_e3_2 h0_3_0_e3_0 h0_3_0_e3_0k h0_3_0_e3_0c h0_3_0_e4 h0_3_0_e4_0 h0_3_0_e4_f1 h0_3_0_e4_2 h0_3_0_e4_0 h0_3_0_e4_0k h0_3_0_e4_0c h0_4 h0_4k h0_4c h0_4_e0 h0_4_e0_0 h0_4_e0_f1 h0_4_e0_0 h0_4_e0_0k h0_4_e0_0c h0_4_e1 h0_4_e1_0 h0_4_e1_f1 h0_4_e1_0 h0_4_e1_0k h0_4_e1_0c h0_4_e2 h0_4_e2_0 h0_4_e2_f1 h0_4_e2_0 h0_4_e2_0k h0_4_e2_0c h0_4_e3 h0_4_e3_0 h0_4_e3_f1 h0_4_e3_0 h0_4_e3_0k h0_4_e3_0c h0_4_e4 h0_4_e4_0 h0_4_e4_f1 h0_4_e4_0 h0_4_e4_0k h0_4_e4_0c) sz) U U.heap ∧ va_OF "java/lang/String" "value" "[B" (.ref tv5) ts5 (va_A (wd_c_X11_fault h0 h0_0 h0_1 h0_2 h0_3 h0_4 h0_f5 h0_6 h0_7 h0_8 h0_9 h0_10 h0_11 h0_12 h0_13 h0_14 h0_f15 h0_2 h0_2_0 h0_2_f1 h0_2_f2 h0_2_f3 h0_2_0 h0_2_0k h0_2_0c h0_0 h0_0_0 h0_0_f1 h0_0_f2 h0_0_f3 h0_0_0 h0_0_0k h0_0_0c h0_3 h0_3_0 h0_3_f1 h0_3_f2 h0_3_3 h0_3_0 h0_3_0k h0_3_0c h0_3_0_e0 h0_3_0_e0_0 h0_3_0_e0_f1 h0_3_0_e0_2 h0_3_0_e0_0 h0_3_0_e0_0k h0_3_0_e0_0c h0_3_0_e1 h0_3_0_e1_0 h0_3_0_e1_f1 h0_3_0_e1_2 h0_3_0_e1_0 h0_3_0_e1_0k h0_3_0_e1_0c h0_3_0_e2 h0_3_0_e2_0 h0_3_0_e2_f1 h0_3_0_e2_2 h0_3_0_e2_0 h0_3_0_e2_0k h0_3_0_e2_0c h0_3_0_e3 h0_3_0_e3_0 h0_3_0_e3_f1 h0_3_0_e3_2 h0_3_0_e3_0 h0_3_0_e3_0k h0_3_0_e3_0c h0_3_0_e4 h0_3_0_e4_0 h0_3_0_e4_f1 h0_3_0_e4_2 h0_3_0_e4_0 h0_3_0_e4_0k h0_3_0_e4_0c h0_4 h0_4k h0_4c h0_4_e0 h0_4_e0_0 h0_4_e0_f1 h0_4_e0_0 h0_4_e0_0k h0_4_e0_0c h0_4_e1 h0_4_e1_0 h0_4_e1_f1 h0_4_e1_0 h0_4_e1_0k h0_4_e1_0c h0_4_e2 h0_4_e2_0 h0_4_e2_f1 h0_4_e2_0 h0_4_e2_0k h0_4_e2_0c h0_4_e3 h0_4_e3_0 h0_4_e3_f1 h0_4_e3_0 h0_4_e3_0k h0_4_e3_0c h0_4_e4 h0_4_e4_0 h0_4_e4_f1 h0_4_e4_0 h0_4_e4_0k h0_4_e4_0c) sz) U U.heap ∧ va_T .byte tv5 4 (fun j => .int ([103, 115, 99, 104].getD j 0)) (va_A (wd_c_X11_fault h0 h0_0 h0_1 h0_2 h0_3 h0_4 h0_f5 h0_6 h0_7 h0_8 h0_9 h0_10 h0_11 h0_12 h0_13 h0_14 h0_f15 h0_2 h0_2_0 h0_2_f1 h0_2_f2 h0_2_f3 h0_2_0 h0_2_0k h0_2_0c h0_0 h0_0_0 h0_0_f1 h0_0_f2 h0_0_f3 h0_0_0 h0_0_0k h0_0_0c h0_3 h0_3_0 h0_3_f1 h0_3_f2 h0_3_3 h0_3_0 h0_3_0k h0_3_0c h0_3_0_e0 h0_3_0_e0_0 h0_3_0_e0_f1 h0_3_0_e0_2 h0_3_0_e0_0 h0_3_0_e0_0k h0_3_0_e0_0c h0_3_0_e1 h0_3_0_e1_0 h0_3_0_e1_f1 h0_3_0_e1_2 h0_3_0_e1_0 h0_3_0_e1_0k h0_3_0_e1_0c h0_3_0_e2 h0_3_0_e2_0 h0_3_0_e2_f1 h0_3_0_e2_2 h0_3_0_e2_0 h0_3_0_e2_0k h0_3_0_e2_0c h0_3_0_e3 h0_3_0_e3_0 h0_3_0_e3_f1 h0_3_0_e3_2 h0_3_0_e3_0 h0_3_0_e3_0k h0_3_0_e3_0c h0_3_0_e4 h0_3_0_e4_0 h0_3_0_e4_f1 h0_3_0_e4_2 h0_3_0_e4_0 h0_3_0_e4_0k h0_3_0_e4_0c h0_4 h0_4k h0_4c h0_4_e0 h0_4_e0_0 h0_4_e0_f1 h0_4_e0_0 h0_4_e0_0k h0_4_e0_0c h0_4_e1 h0_4_e1_0 h0_4_e1_f1 h0_4_e1_0 h0_4_e1_0k h0_4_e1_0c h0_4_e2 h0_4_e2_0 h0_4_e2_f1 h0_4_e2_0 h0_4_e2_0k h0_4_e2_0c h0_4_e3 h0_4_e3_0 h0_4_e3_f1 h0_4_e3_0 h0_4_e3_0k h0_4_e3_0c h0_4_e4 h0_4_e4_0 h0_4_e4_f1 h0_4_e4_0 h0_4_e4_0k h0_4_e4_0c) sz) U U.heap ∧ va_Z "BuoyVote$Plan" "DIGITS" "[I" (.ref ta4) (va_A (wd_c_X11_fault h0 h0_0 h0_1 h0_2 h0_3 h0_4 h0_f5 h0_6 h0_7 h0_8 h0_9 h0_10 h0_11 h0_12 h0_13 h0_14 h0_f15 h0_2 h0_2_0 h0_2_f1 h0_2_f2 h0_2_f3 h0_2_0 h0_2_0k h0_2_0c h0_0 h0_0_0 h0_0_f1 h0_0_f2 h0_0_f3 h0_0_0 h0_0_0k h0_0_0c h0_3 h0_3_0 h0_3_f1 h0_3_f2 h0_3_3 h0_3_0 h0_3_0k h0_3_0c h0_3_0_e0 h0_3_0_e0_0 h0_3_0_e0_f1 h0_3_0_e0_2 h0_3_0_e0_0 h0_3_0_e0_0k h0_3_0_e0_0c h0_3_0_e1 h0_3_0_e1_0 h0_3_0_e1_f1 h0_3_0_e1_2 h0_3_0_e1_0 h0_3_0_e1_0k h0_3_0_e1_0c h0_3_0_e2 h0_3_0_e2_0 h0_3_0_e2_f1 h0_3_0_e2_2 h0_3_0_e2_0 h0_3_0_e2_0k h0_3_0_e2_0c h0_3_0_e3 h0_3_0_e3_0 h0_3_0_e3_f1 h0_3_0_e3_2 h0_3_0_e3_0 h0_3_0_e3_0k h0_3_0_e3_0c h0_3_0_e4 h0_3_0_e4_0 h0_3_0_e4_f1 h0_3_0_e4_2 h0_3_0_e4_0 h0_3_0_e4_0k h0_3_0_e4_0c h0_4 h0_4k h0_4c h0_4_e0 h0_4_e0_0 h0_4_e0_f1 h0_4_e0_0 h0_4_e0_0k h0_4_e0_0c h0_4_e1 h0_4_e1_0 h0_4_e1_f1 h0_4_e1_0 h0_4_e1_0k h0_4_e1_0c h0_4_e2 h0_4_e2_0 h0_4_e2_f1 h0_4_e2_0 h0_4_e2_0k h0_4_e2_0c h0_4_e3 h0_4_e3_0 h0_4_e3_f1 h0_4_e3_0 h0_4_e3_0k h0_4_e3_0c h0_4_e4 h0_4_e4_0 h0_4_e4_f1 h0_4_e4_0 h0_4_e4_0k h0_4_e4_0c) sz) U U.heap ∧ va_T .int ta4 4 (fun j => .int ([3, 2, 2, 1].getD j 0)) (va_A (wd_c_X11_fault h0 h0_0 h0_1 h0_2 h0_3 h0_4 h0_f5 h0_6 h0_7 h0_8 h0_9 h0_10 h0_11 h0_12 h0_13 h0_14 h0_f15 h0_2 h0_2_0 h0_2_f1 h0_2_f2 h0_2_f3 h0_2_0 h0_2_0k h0_2_0c h0_0 h0_0_0 h0_0_f1 h0_0_f2 h0_0_f3 h0_0_0 h0_0_0k h0_0_0c h0_3 h0_3_0 h0_3_f1 h0_3_f2 h0_3_3 h0_3_0 h0_3_0k h0_3_0c h0_3_0_e0 h0_3_0_e0_0 h0_3_0_e0_f1 h0_3_0_e0_2 h0_3_0_e0_0 h0_3_0_e0_0k h0_3_0_e0_0c h0_3_0_e1 h0_3_0_e1_0 h0_3_0_e1_f1 h0_3_0_e1_2 h0_3_0_e1_0 h0_3_0_e1_0k h0_3_0_e1_0c h0_3_0_e2 h0_3_0_e2_0 h0_3_0_e2_f1 h0_3_0_e2_2 h0_3_0_e2_0 h0_3_0_e2_0k h0_3_0_e2_0c h0_3_0_e3 h0_3_0_e3_0 h0_3_0_e3_f1 h0_3_0_e3_2 h0_3_0_e3_0 h0_3_0_e3_0k h0_3_0_e3_0c h0_3_0_e4 h0_3_0_e4_0 h0_3_0_e4_f1 h0_3_0_e4_2 h0_3_0_e4_0 h0_3_0_e4_0k h0_3_0_e4_0c h0_4 h0_4k h0_4c h0_4_e0 h0_4_e0_0 h0_4_e0_f1 h0_4_e0_0 h0_4_e0_0k h0_4_e0_0c h0_4_e1 h0_4_e1_0 h0_4_e1_f1 h0_4_e1_0 h0_4_e1_0k h0_4_e1_0c h0_4_e2 h0_4_e2_0 h0_4_e2_f1 h0_4_e2_0 h0_4_e2_0k h0_4_e2_0c h0_4_e3 h0_4_e3_0 h0_4_e3_f1 h0_4_e3_0 h0_4_e3_0k h0_4_e3_0c h0_4_e4 h0_4_e4_0 h0_4_e4_f1 h0_4_e4_0 h0_4_e4_0k h0_4_e4_0c) sz) U U.heap)) (va_Qi (fun (r : Int32) (u : (Int32) × (Int32) × (Int32) × (Nat → Int32) × (Int32) × (Int32) × (Int32) × (Nat → Int32) × (Int32) × (Nat → Int32) × (Int32) × (Nat → Int32) × (Int32) × (Nat → Int32) × (Int32) × (Nat → Int32) × (Int32) × (Nat → Int32) × (Int32) × (Nat → Int32) × (Int32) × (Nat → Int32) × (Int32) × (Nat → Int32) × (Int32) × (Nat → Int32)) => (r = (-2) ∧ RG u.1 0 8 ∧ RG u.2.1 0 3 ∧ RG u.2.2.1 0 1 ∧ AI (u.2.2.2.1) (-1) 99 ∧ RG u.2.2.2.2.1 0 240 ∧ RG u.2.2.2.2.2.1 (-1) 240 ∧ RG u.2.2.2.2.2.2.1 0 240 ∧ RG u.2.2.2.2.2.2.2.2.1 0 240 ∧ RG u.2.2.2.2.2.2.2.2.2.2.1 0 240 ∧ RG u.2.2.2.2.2.2.2.2.2.2.2.2.1 0 240 ∧ RG u.2.2.2.2.2.2.2.2.2.2.2.2.2.2.1 0 240 ∧ RG u.2.2.2.2.2.2.2.2.2.2.2.2.2.2.2.2.1 0 16 ∧ AI (u.2.2.2.2.2.2.2.2.2.2.2.2.2.2.2.2.2.1) (-1) 9 ∧ RG u.2.2.2.2.2.2.2.2.2.2.2.2.2.2.2.2.2.2.1 0 16 ∧ AI (u.2.2.2.2.2.2.2.2.2.2.2.2.2.2.2.2.2.2.2.1) (-1) 9 ∧ RG u.2.2.2.2.2.2.2.2.2.2.2.2.2.2.2.2.2.2.2.2.1 0 16 ∧ AI (u.2.2.2.2.2.2.2.2.2.2.2.2.2.2.2.2.2.2.2.2.2.1) (-1) 9 ∧ RG u.2.2.2.2.2.2.2.2.2.2.2.2.2.2.2.2.2.2.2.2.2.2.1 0 16 ∧ AI (u.2.2.2.2.2.2.2.2.2.2.2.2.2.2.2.2.2.2.2.2.2.2.2.1) (-1) 9 ∧ RG u.2.2.2.2.2.2.2.2.2.2.2.2.2.2.2.2.2.2.2.2.2.2.2.2.1 0 16 ∧ AI (u.2.2.2.2.2.2.2.2.2.2.2.2.2.2.2.2.2.2.2.2.2.2.2.2.2) (-1) 9 ∧ r = fx_c_X11_fault p1 h0_f5 h0_2_0c h0_0_f1 h0_0_0c h0_3_f1 h0_3_0_e0_0c h0_3_0_e1_0c h0_3_0_e2_0c h0_3_0_e3_0c h0_3_0_e4_0c h0_4_e0_0c h0_4_e1_0c h0_4_e2_0c h0_4_e3_0c h0_4_e4_0c) ∨ (RG r (-1) 240 ∧ RG u.1 0 8 ∧ RG u.2.1 0 3 ∧ RG u.2.2.1 0 1 ∧ AI (u.2.2.2.1) (-1) 99 ∧ RG u.2.2.2.2.1 0 240 ∧ RG u.2.2.2.2.2.1 (-1) 240 ∧ RG u.2.2.2.2.2.2.1 0 240 ∧ RG u.2.2.2.2.2.2.2.2.1 0 240 ∧ RG u.2.2.2.2.2.2.2.2.2.2.1 0 240 ∧ RG u.2.2.2.2.2.2.2.2.2.2.2.2.1 0 240 ∧ RG u.2.2.2.2.2.2.2.2.2.2.2.2.2.2.1 0 240 ∧ RG u.2.2.2.2.2.2.2.2.2.2.2.2.2.2.2.2.1 0 16 ∧ AI (u.2.2.2.2.2.2.2.2.2.2.2.2.2.2.2.2.2.1) (-1) 9 ∧ RG u.2.2.2.2.2.2.2.2.2.2.2.2.2.2.2.2.2.2.1 0 16 ∧ AI (u.2.2.2.2.2.2.2.2.2.2.2.2.2.2.2.2.2.2.2.1) (-1) 9 ∧ RG u.2.2.2.2.2.2.2.2.2.2.2.2.2.2.2.2.2.2.2.2.1 0 16 ∧ AI (u.2.2.2.2.2.2.2.2.2.2.2.2.2.2.2.2.2.2.2.2.2.1) (-1) 9 ∧ RG u.2.2.2.2.2.2.2.2.2.2.2.2.2.2.2.2.2.2.2.2.2.2.1 0 16 ∧ AI (u.2.2.2.2.2.2.2.2.2.2.2.2.2.2.2.2.2.2.2.2.2.2.2.1) (-1) 9 ∧ RG u.2.2.2.2.2.2.2.2.2.2.2.2.2.2.2.2.2.2.2.2.2.2.2.2.1 0 16 ∧ AI (u.2.2.2.2.2.2.2.2.2.2.2.2.2.2.2.2.2.2.2.2.2.2.2.2.2) (-1) 9 ∧ RG p1 0 2 ∧ r = fx_c_X11_fault p1 h0_f5 h0_2_0c h0_0_f1 h0_0_0c h0_3_f1 h0_3_0_e0_0c h0_3_0_e1_0c h0_3_0_e2_0c h0_3_0_e3_0c h0_3_0_e4_0c h0_4_e0_0c h0_4_e1_0c h0_4_e2_0c h0_4_e3_0c h0_4_e4_0c)) (fun (u : (Int32) × (Int32) × (Int32) × (Nat → Int32) × (Int32) × (Int32) × (Int32) × (Nat → Int32) × (Int32) × (Nat → Int32) × (Int32) × (Nat → Int32) × (Int32) × (Nat → Int32) × (Int32) × (Nat → Int32) × (Int32) × (Nat → Int32) × (Int32) × (Nat → Int32) × (Int32) × (Nat → Int32) × (Int32) × (Nat → Int32) × (Int32) × (Nat → Int32)) t => va_P (dC, dI) vwCl (wd_c_X11_fault h0 h0_0 h0_1 h0_2 h0_3 h0_4 h0_f5 h0_6 h0_7 h0_8 h0_9 h0_10 h0_11 h0_12 h0_13 h0_14 h0_f15 h0_2 h0_2_0 (u.1) (u.2.1) (u.2.2.1) h0_2_0 h0_2_0k (u.2.2.2.1) h0_0 h0_0_0 h0_0_f1 (u.2.2.2.2.1) (u.2.2.2.2.2.1) h0_0_0 h0_0_0k h0_0_0c h0_3 h0_3_0 h0_3_f1 h0_3_f2 h0_3_3 h0_3_0 h0_3_0k h0_3_0c h0_3_0_e0 h0_3_0_e0_0 (u.2.2.2.2.2.2.1) h0_3_0_e0_2 h0_3_0_e0_0 h0_3_0_e0_0k (u.2.2.2.2.2.2.2.1) h0_3_0_e1 h0_3_0_e1_0 (u.2.2.2.2.2.2.2.2.1) h0_3_0_e1_2 h0_3_0_e1_0 h0_3_0_e1_0k (u.2.2.2.2.2.2.2.2.2.1) h0_3_0_e2 h0_3_0_e2_0 (u.2.2.2.2.2.2.2.2.2.2.1) h0_3_0_e2_2 h0_3_0_e2_0 h0_3_0_e2_0k (u.2.2.2.2.2.2.2.2.2.2.2.1) h0_3_0_e3 h0_3_0_e3_0 (u.2.2.2.2.2.2.2.2.2.2.2.2.1) h0_3_0_e3_2 h0_3_0_e3_0 h0_3_0_e3_0k (u.2.2.2.2.2.2.2.2.2.2.2.2.2.1) h0_3_0_e4 h0_3_0_e4_0 (u.2.2.2.2.2.2.2.2.2.2.2.2.2.2.1) h0_3_0_e4_2 h0_3_0_e4_0 h0_3_0_e4_0k (u.2.2.2.2.2.2.2.2.2.2.2.2.2.2.2.1) h0_4 h0_4k h0_4c h0_4_e0 h0_4_e0_0 (u.2.2.2.2.2.2.2.2.2.2.2.2.2.2.2.2.1) h0_4_e0_0 h0_4_e0_0k (u.2.2.2.2.2.2.2.2.2.2.2.2.2.2.2.2.2.1) h0_4_e1 h0_4_e1_0 (u.2.2.2.2.2.2.2.2.2.2.2.2.2.2.2.2.2.2.1) h0_4_e1_0 h0_4_e1_0k (u.2.2.2.2.2.2.2.2.2.2.2.2.2.2.2.2.2.2.2.1) h0_4_e2 h0_4_e2_0 (u.2.2.2.2.2.2.2.2.2.2.2.2.2.2.2.2.2.2.2.2.1) h0_4_e2_0 h0_4_e2_0k (u.2.2.2.2.2.2.2.2.2.2.2.2.2.2.2.2.2.2.2.2.2.1) h0_4_e3 h0_4_e3_0 (u.2.2.2.2.2.2.2.2.2.2.2.2.2.2.2.2.2.2.2.2.2.2.1) h0_4_e3_0 h0_4_e3_0k (u.2.2.2.2.2.2.2.2.2.2.2.2.2.2.2.2.2.2.2.2.2.2.2.1) h0_4_e4 h0_4_e4_0 (u.2.2.2.2.2.2.2.2.2.2.2.2.2.2.2.2.2.2.2.2.2.2.2.2.1) h0_4_e4_0 h0_4_e4_0k (u.2.2.2.2.2.2.2.2.2.2.2.2.2.2.2.2.2.2.2.2.2.2.2.2.2)) t.heap ∧ va_K (dC, dI) vwCl [] t ∧ va_D (va_A (wd_c_X11_fault h0 h0_0 h0_1 h0_2 h0_3 h0_4 h0_f5 h0_6 h0_7 h0_8 h0_9 h0_10 h0_11 h0_12 h0_13 h0_14 h0_f15 h0_2 h0_2_0 h0_2_f1 h0_2_f2 h0_2_f3 h0_2_0 h0_2_0k h0_2_0c h0_0 h0_0_0 h0_0_f1 h0_0_f2 h0_0_f3 h0_0_0 h0_0_0k h0_0_0c h0_3 h0_3_0 h0_3_f1 h0_3_f2 h0_3_3 h0_3_0 h0_3_0k h0_3_0c h0_3_0_e0 h0_3_0_e0_0 h0_3_0_e0_f1 h0_3_0_e0_2 h0_3_0_e0_0 h0_3_0_e0_0k h0_3_0_e0_0c h0_3_0_e1 h0_3_0_e1_0 h0_3_0_e1_f1 h0_3_0_e1_2 h0_3_0_e1_0 h0_3_0_e1_0k h0_3_0_e1_0c h0_3_0_e2 h0_3_0_e2_0 h0_3_0_e2_f1 h0_3_0_e2_2 h0_3_0_e2_0 h0_3_0_e2_0k h0_3_0_e2_0c h0_3_0_e3 h0_3_0_e3_0 h0_3_0_e3_f1 h0_3_0_e3_2 h0_3_0_e3_0 h0_3_0_e3_0k h0_3_0_e3_0c h0_3_0_e4 h0_3_0_e4_0 h0_3_0_e4_f1 h0_3_0_e4_2 h0_3_0_e4_0 h0_3_0_e4_0k h0_3_0_e4_0c h0_4 h0_4k h0_4c h0_4_e0 h0_4_e0_0 h0_4_e0_f1 h0_4_e0_0 h0_4_e0_0k h0_4_e0_0c h0_4_e1 h0_4_e1_0 h0_4_e1_f1 h0_4_e1_0 h0_4_e1_0k h0_4_e1_0c h0_4_e2 h0_4_e2_0 h0_4_e2_f1 h0_4_e2_0 h0_4_e2_0k h0_4_e2_0c h0_4_e3 h0_4_e3_0 h0_4_e3_f1 h0_4_e3_0 h0_4_e3_0k h0_4_e3_0c h0_4_e4 h0_4_e4_0 h0_4_e4_f1 h0_4_e4_0 h0_4_e4_0k h0_4_e4_0c) sz) (wd_c_X11_fault h0 h0_0 h0_1 h0_2 h0_3 h0_4 h0_f5 h0_6 h0_7 h0_8 h0_9 h0_10 h0_11 h0_12 h0_13 h0_14 h0_f15 h0_2 h0_2_0 (u.1) (u.2.1) (u.2.2.1) h0_2_0 h0_2_0k (u.2.2.2.1) h0_0 h0_0_0 h0_0_f1 (u.2.2.2.2.1) (u.2.2.2.2.2.1) h0_0_0 h0_0_0k h0_0_0c h0_3 h0_3_0 h0_3_f1 h0_3_f2 h0_3_3 h0_3_0 h0_3_0k h0_3_0c h0_3_0_e0 h0_3_0_e0_0 (u.2.2.2.2.2.2.1) h0_3_0_e0_2 h0_3_0_e0_0 h0_3_0_e0_0k (u.2.2.2.2.2.2.2.1) h0_3_0_e1 h0_3_0_e1_0 (u.2.2.2.2.2.2.2.2.1) h0_3_0_e1_2 h0_3_0_e1_0 h0_3_0_e1_0k (u.2.2.2.2.2.2.2.2.2.1) h0_3_0_e2 h0_3_0_e2_0 (u.2.2.2.2.2.2.2.2.2.2.1) h0_3_0_e2_2 h0_3_0_e2_0 h0_3_0_e2_0k (u.2.2.2.2.2.2.2.2.2.2.2.1) h0_3_0_e3 h0_3_0_e3_0 (u.2.2.2.2.2.2.2.2.2.2.2.2.1) h0_3_0_e3_2 h0_3_0_e3_0 h0_3_0_e3_0k (u.2.2.2.2.2.2.2.2.2.2.2.2.2.1) h0_3_0_e4 h0_3_0_e4_0 (u.2.2.2.2.2.2.2.2.2.2.2.2.2.2.1) h0_3_0_e4_2 h0_3_0_e4_0 h0_3_0_e4_0k (u.2.2.2.2.2.2.2.2.2.2.2.2.2.2.2.1) h0_4 h0_4k h0_4c h0_4_e0 h0_4_e0_0 (u.2.2.2.2.2.2.2.2.2.2.2.2.2.2.2.2.1) h0_4_e0_0 h0_4_e0_0k (u.2.2.2.2.2.2.2.2.2.2.2.2.2.2.2.2.2.1) h0_4_e1 h0_4_e1_0 (u.2.2.2.2.2.2.2.2.2.2.2.2.2.2.2.2.2.2.1) h0_4_e1_0 h0_4_e1_0k (u.2.2.2.2.2.2.2.2.2.2.2.2.2.2.2.2.2.2.2.1) h0_4_e2 h0_4_e2_0 (u.2.2.2.2.2.2.2.2.2.2.2.2.2.2.2.2.2.2.2.2.1) h0_4_e2_0 h0_4_e2_0k (u.2.2.2.2.2.2.2.2.2.2.2.2.2.2.2.2.2.2.2.2.2.1) h0_4_e3 h0_4_e3_0 (u.2.2.2.2.2.2.2.2.2.2.2.2.2.2.2.2.2.2.2.2.2.2.1) h0_4_e3_0 h0_4_e3_0k (u.2.2.2.2.2.2.2.2.2.2.2.2.2.2.2.2.2.2.2.2.2.2.2.1) h0_4_e4 h0_4_e4_0 (u.2.2.2.2.2.2.2.2.2.2.2.2.2.2.2.2.2.2.2.2.2.2.2.2.1) h0_4_e4_0 h0_4_e4_0k (u.2.2.2.2.2.2.2.2.2.2.2.2.2.2.2.2.2.2.2.2.2.2.2.2.2))) (va_A (wd_c_X11_fault h0 h0_0 h0_1 h0_2 h0_3 h0_4 h0_f5 h0_6 h0_7 h0_8 h0_9 h0_10 h0_11 h0_12 h0_13 h0_14 h0_f15 h0_2 h0_2_0 h0_2_f1 h0_2_f2 h0_2_f3 h0_2_0 h0_2_0k h0_2_0c h0_0 h0_0_0 h0_0_f1 h0_0_f2 h0_0_f3 h0_0_0 h0_0_0k h0_0_0c h0_3 h0_3_0 h0_3_f1 h0_3_f2 h0_3_3 h0_3_0 h0_3_0k h0_3_0c h0_3_0_e0 h0_3_0_e0_0 h0_3_0_e0_f1 h0_3_0_e0_2 h0_3_0_e0_0 h0_3_0_e0_0k h0_3_0_e0_0c h0_3_0_e1 h0_3_0_e1_0 h0_3_0_e1_f1 h0_3_0_e1_2 h0_3_0_e1_0 h0_3_0_e1_0k h0_3_0_e1_0c h0_3_0_e2 h0_3_0_e2_0 h0_3_0_e2_f1 h0_3_0_e2_2 h0_3_0_e2_0 h0_3_0_e2_0k h0_3_0_e2_0c h0_3_0_e3 h0_3_0_e3_0 h0_3_0_e3_f1 h0_3_0_e3_2 h0_3_0_e3_0 h0_3_0_e3_0k h0_3_0_e3_0c h0_3_0_e4 h0_3_0_e4_0 h0_3_0_e4_f1 h0_3_0_e4_2 h0_3_0_e4_0 h0_3_0_e4_0k h0_3_0_e4_0c h0_4 h0_4k h0_4c h0_4_e0 h0_4_e0_0 h0_4_e0_f1 h0_4_e0_0 h0_4_e0_0k h0_4_e0_0c h0_4_e1 h0_4_e1_0 h0_4_e1_f1 h0_4_e1_0 h0_4_e1_0k h0_4_e1_0c h0_4_e2 h0_4_e2_0 h0_4_e2_f1 h0_4_e2_0 h0_4_e2_0k h0_4_e2_0c h0_4_e3 h0_4_e3_0 h0_4_e3_f1 h0_4_e3_0 h0_4_e3_0k h0_4_e3_0c h0_4_e4 h0_4_e4_0 h0_4_e4_f1 h0_4_e4_0 h0_4_e4_0k h0_4_e4_0c) sz)) 0 0 (va_A (wd_c_X11_fault h0 h0_0 h0_1 h0_2 h0_3 h0_4 h0_f5 h0_6 h0_7 h0_8 h0_9 h0_10 h0_11 h0_12 h0_13 h0_14 h0_f15 h0_2 h0_2_0 h0_2_f1 h0_2_f2 h0_2_f3 h0_2_0 h0_2_0k h0_2_0c h0_0 h0_0_0 h0_0_f1 h0_0_f2 h0_0_f3 h0_0_0 h0_0_0k h0_0_0c h0_3 h0_3_0 h0_3_f1 h0_3_f2 h0_3_3 h0_3_0 h0_3_0k h0_3_0c h0_3_0_e0 h0_3_0_e0_0 h0_3_0_e0_f1 h0_3_0_e0_2 h0_3_0_e0_0 h0_3_0_e0_0k h0_3_0_e0_0c h0_3_0_e1 h0_3_0_e1_0 h0_3_0_e1_f1 h0_3_0_e1_2 h0_3_0_e1_0 h0_3_0_e1_0k h0_3_0_e1_0c h0_3_0_e2 h0_3_0_e2_0 h0_3_0_e2_f1 h0_3_0_e2_2 h0_3_0_e2_0 h0_3_0_e2_0k h0_3_0_e2_0c h0_3_0_e3 h0_3_0_e3_0 h0_3_0_e3_f1 h0_3_0_e3_2 h0_3_0_e3_0 h0_3_0_e3_0k h0_3_0_e3_0c h0_3_0_e4 h0_3_0_e4_0 h0_3_0_e4_f1 h0_3_0_e4_2 h0_3_0_e4_0 h0_3_0_e4_0k h0_3_0_e4_0c h0_4 h0_4k h0_4c h0_4_e0 h0_4_e0_0 h0_4_e0_f1 h0_4_e0_0 h0_4_e0_0k h0_4_e0_0c h0_4_e1 h0_4_e1_0 h0_4_e1_f1 h0_4_e1_0 h0_4_e1_0k h0_4_e1_0c h0_4_e2 h0_4_e2_0 h0_4_e2_f1 h0_4_e2_0 h0_4_e2_0k h0_4_e2_0c h0_4_e3 h0_4_e3_0 h0_4_e3_f1 h0_4_e3_0 h0_4_e3_0k h0_4_e3_0c h0_4_e4 h0_4_e4_0 h0_4_e4_f1 h0_4_e4_0 h0_4_e4_0k h0_4_e4_0c) sz) := by
  refine Met.ofW (cc := cX11_fault) (maxL := 2) (ret := (some .int)) (by decide +kernel) rfl ?_
  intro p e s m args below meth c s₁ B hml hv
  obtain ⟨rfl, hsz, hP, hK, hD0, hE_17, hE_20, hE_21, hE_10, hE_19, hE_18, hE_6, hE_0, hE_1, hE_7, hE_12, hE_14, hE_13, hE_15, hE_16, hE_22, hE_25, hE_26, hE_24, hE_23, hE_27, hE_30, hE_31, hE_29, hE_28, hE_2, hE_3, hE_4, hE_5, hE_32, hE_34, hE_33, hE_35, hE_36, hE_37, hE_39, hE_38, hE_40, hE_41, hE_8, hE_9⟩ := hv
  have hx := B.exec
  have hb := B.bytes
  have hr := B.returns
  have hts := atoms_spec (ws := wf_c_X11_fault) B.pre
  have hown : s.vm.findClass RX11 = some m.cls := findClass_of_methodNamed B.named
  have hlocks := B.notSynchronized
  subst hsz
  have hD := hD0.self (sz := s.heap.size)
  generalize hAe : va_A (wd_c_X11_fault h0 h0_0 h0_1 h0_2 h0_3 h0_4 h0_f5 h0_6 h0_7 h0_8 h0_9 h0_10 h0_11 h0_12 h0_13 h0_14 h0_f15 h0_2 h0_2_0 h0_2_f1 h0_2_f2 h0_2_f3 h0_2_0 h0_2_0k h0_2_0c h0_0 h0_0_0 h0_0_f1 h0_0_f2 h0_0_f3 h0_0_0 h0_0_0k h0_0_0c h0_3 h0_3_0 h0_3_f1 h0_3_f2 h0_3_3 h0_3_0 h0_3_0k h0_3_0c h0_3_0_e0 h0_3_0_e0_0 h0_3_0_e0_f1 h0_3_0_e0_2 h0_3_0_e0_0 h0_3_0_e0_0k h0_3_0_e0_0c h0_3_0_e1 h0_3_0_e1_0 h0_3_0_e1_f1 h0_3_0_e1_2 h0_3_0_e1_0 h0_3_0_e1_0k h0_3_0_e1_0c h0_3_0_e2 h0_3_0_e2_0 h0_3_0_e2_f1 h0_3_0_e2_2 h0_3_0_e2_0 h0_3_0_e2_0k h0_3_0_e2_0c h0_3_0_e3 h0_3_0_e3_0 h0_3_0_e3_f1 h0_3_0_e3_2 h0_3_0_e3_0 h0_3_0_e3_0k h0_3_0_e3_0c h0_3_0_e4 h0_3_0_e4_0 h0_3_0_e4_f1 h0_3_0_e4_2 h0_3_0_e4_0 h0_3_0_e4_0k h0_3_0_e4_0c h0_4 h0_4k h0_4c h0_4_e0 h0_4_e0_0 h0_4_e0_f1 h0_4_e0_0 h0_4_e0_0k h0_4_e0_0c h0_4_e1 h0_4_e1_0 h0_4_e1_f1 h0_4_e1_0 h0_4_e1_0k h0_4_e1_0c h0_4_e2 h0_4_e2_0 h0_4_e2_f1 h0_4_e2_0 h0_4_e2_0k h0_4_e2_0c h0_4_e3 h0_4_e3_0 h0_4_e3_f1 h0_4_e3_0 h0_4_e3_0k h0_4_e3_0c h0_4_e4 h0_4_e4_0 h0_4_e4_f1 h0_4_e4_0 h0_4_e4_0k h0_4_e4_0c) s.heap.size = A at hD hE_20 hE_21 hE_10 hE_19 hE_18 hE_6 hE_0 hE_1 hE_7 hE_14 hE_13 hE_15 hE_16 hE_25 hE_26 hE_24 hE_23 hE_30 hE_31 hE_29 hE_28 hE_2 hE_3 hE_4 hE_5 hE_34 hE_33 hE_35 hE_36 hE_39 hE_38 hE_40 hE_41 hE_8 hE_9 ⊢
  have hA : ∀ q : Nat, s.heap.size ≤ q → A q := fun q h => by rw [← hAe]; exact Or.inr h
  have hP : va_P (dC, dI) vwCl (wd_c_X11_fault h0 h0_0 h0_1 h0_2 h0_3 h0_4 h0_f5 h0_6 h0_7 h0_8 h0_9 h0_10 h0_11 h0_12 h0_13 h0_14 h0_f15 h0_2 h0_2_0 h0_2_f1 h0_2_f2 h0_2_f3 h0_2_0 h0_2_0k h0_2_0c h0_0 h0_0_0 h0_0_f1 h0_0_f2 h0_0_f3 h0_0_0 h0_0_0k h0_0_0c h0_3 h0_3_0 h0_3_f1 h0_3_f2 h0_3_3 h0_3_0 h0_3_0k h0_3_0c h0_3_0_e0 h0_3_0_e0_0 h0_3_0_e0_f1 h0_3_0_e0_2 h0_3_0_e0_0 h0_3_0_e0_0k h0_3_0_e0_0c h0_3_0_e1 h0_3_0_e1_0 h0_3_0_e1_f1 h0_3_0_e1_2 h0_3_0_e1_0 h0_3_0_e1_0k h0_3_0_e1_0c h0_3_0_e2 h0_3_0_e2_0 h0_3_0_e2_f1 h0_3_0_e2_2 h0_3_0_e2_0 h0_3_0_e2_0k h0_3_0_e2_0c h0_3_0_e3 h0_3_0_e3_0 h0_3_0_e3_f1 h0_3_0_e3_2 h0_3_0_e3_0 h0_3_0_e3_0k h0_3_0_e3_0c h0_3_0_e4 h0_3_0_e4_0 h0_3_0_e4_f1 h0_3_0_e4_2 h0_3_0_e4_0 h0_3_0_e4_0k h0_3_0_e4_0c h0_4 h0_4k h0_4c h0_4_e0 h0_4_e0_0 h0_4_e0_f1 h0_4_e0_0 h0_4_e0_0k h0_4_e0_0c h0_4_e1 h0_4_e1_0 h0_4_e1_f1 h0_4_e1_0 h0_4_e1_0k h0_4_e1_0c h0_4_e2 h0_4_e2_0 h0_4_e2_f1 h0_4_e2_0 h0_4_e2_0k h0_4_e2_0c h0_4_e3 h0_4_e3_0 h0_4_e3_f1 h0_4_e3_0 h0_4_e3_0k h0_4_e3_0c h0_4_e4 h0_4_e4_0 h0_4_e4_f1 h0_4_e4_0 h0_4_e4_0k h0_4_e4_0c) s.heap := hP
  have hl := lv_entry ([.ref h0, .int p1]) (n := 2) (Nat.le_of_ble_eq_true rfl)
  rw [lg_entry_eq]
  generalize (lg_sl ([.ref h0, .int p1]) ++ List.replicate (2 - (lg_sl ([.ref h0, .int p1])).length) Slot.unset).toArray = ls at hl ⊢
  have hl : lv_has ls 2 [(0, .ref h0), (1, .int p1)] := hl
  obtain ⟨H, hHe⟩ : ∃ H : Heap, s.heap = H := ⟨_, rfl⟩
  have hS : va_S A s.heap H [] := by rw [hHe]; exact va_S.rf
  have hP : va_P (dC, dI) vwCl (wd_c_X11_fault h0 h0_0 h0_1 h0_2 h0_3 h0_4 h0_f5 h0_6 h0_7 h0_8 h0_9 h0_10 h0_11 h0_12 h0_13 h0_14 h0_f15 h0_2 h0_2_0 h0_2_f1 h0_2_f2 h0_2_f3 h0_2_0 h0_2_0k h0_2_0c h0_0 h0_0_0 h0_0_f1 h0_0_f2 h0_0_f3 h0_0_0 h0_0_0k h0_0_0c h0_3 h0_3_0 h0_3_f1 h0_3_f2 h0_3_3 h0_3_0 h0_3_0k h0_3_0c h0_3_0_e0 h0_3_0_e0_0 h0_3_0_e0_f1 h0_3_0_e0_2 h0_3_0_e0_0 h0_3_0_e0_0k h0_3_0_e0_0c h0_3_0_e1 h0_3_0_e1_0 h0_3_0_e1_f1 h0_3_0_e1_2 h0_3_0_e1_0 h0_3_0_e1_0k h0_3_0_e1_0c h0_3_0_e2 h0_3_0_e2_0 h0_3_0_e2_f1 h0_3_0_e2_2 h0_3_0_e2_0 h0_3_0_e2_0k h0_3_0_e2_0c h0_3_0_e3 h0_3_0_e3_0 h0_3_0_e3_f1 h0_3_0_e3_2 h0_3_0_e3_0 h0_3_0_e3_0k h0_3_0_e3_0c h0_3_0_e4 h0_3_0_e4_0 h0_3_0_e4_f1 h0_3_0_e4_2 h0_3_0_e4_0 h0_3_0_e4_0k h0_3_0_e4_0c h0_4 h0_4k h0_4c h0_4_e0 h0_4_e0_0 h0_4_e0_f1 h0_4_e0_0 h0_4_e0_0k h0_4_e0_0c h0_4_e1 h0_4_e1_0 h0_4_e1_f1 h0_4_e1_0 h0_4_e1_0k h0_4_e1_0c h0_4_e2 h0_4_e2_0 h0_4_e2_f1 h0_4_e2_0 h0_4_e2_0k h0_4_e2_0c h0_4_e3 h0_4_e3_0 h0_4_e3_f1 h0_4_e3_0 h0_4_e3_0k h0_4_e3_0c h0_4_e4 h0_4_e4_0 h0_4_e4_f1 h0_4_e4_0 h0_4_e4_0k h0_4_e4_0c) H := by rw [← hHe]; exact hP
  rw [hHe]
  obtain ⟨RES, hR⟩ : ∃ z, fx_c_X11_fault p1 h0_f5 h0_2_0c h0_0_f1 h0_0_0c h0_3_f1 h0_3_0_e0_0c h0_3_0_e1_0c h0_3_0_e2_0c h0_3_0_e3_0c h0_3_0_e4_0c h0_4_e0_0c h0_4_e1_0c h0_4_e2_0c h0_4_e3_0c h0_4_e4_0c = z := ⟨_, rfl⟩
  have hEX : RES = fx_c_X11_fault p1 h0_f5 h0_2_0c h0_0_f1 h0_0_0c h0_3_f1 h0_3_0_e0_0c h0_3_0_e1_0c h0_3_0_e2_0c h0_3_0_e3_0c h0_3_0_e4_0c h0_4_e0_0c h0_4_e1_0c h0_4_e2_0c h0_4_e3_0c h0_4_e4_0c := hR.symm
  refine lv_iload_n hx hb dX11_fault_0 rfl (lv_at hl 1 rfl) ?_
  as_aux_lemma =>
  by_cases c_1 : p1 = 0
  · have hsw : p1.toInt = 0 := by rw [c_1]; rfl
    refine lv_tableIn (off := 27) (tgt := 28) hx hb dX11_fault_1 (by rw [hsw]; decide) (by rw [hsw]; decide) (by rw [hsw]; decide) (by decide +kernel) ?_
    replace hEX := hEX.trans (if_pos c_1)
    have g_2 : RG p1 0 0 := RG_k _ _ hsw
    refine lv_aload_n hx hb dX11_fault_28 rfl (lv_at hl 0 rfl) ?_
    refine va_get (D := (dC, dI)) (ci := 11) (v := .ref h0_2) (C := RX11) (T := TX11) (N := 16) hx hb hts iw_c_X11_fault_X11 hown hK hP 0 rfl rfl 2 (by decide +kernel) (hts (.fieldLink RX11 23 "BuoyVote" "draft" "LBuoyVote$Borough;") (List.mem_of_getElem? (i := 1) rfl)) (fun _ h9 => h9) rfl dX11_fault_29 ?_
    refine lv_aload_n hx hb dX11_fault_32 rfl (lv_at hl 0 rfl) ?_
    refine va_get (D := (dC, dI)) (ci := 11) (v := .ref h0_0) (C := RX11) (T := TX11) (N := 16) hx hb hts iw_c_X11_fault_X11 hown hK hP 0 rfl rfl 0 (by decide +kernel) (hts (.fieldLink RX11 10 "BuoyVote" "tape" "LBuoyVote$Tape;") (List.mem_of_getElem? (i := 2) rfl)) (fun _ h9 => h9) rfl dX11_fault_33 ?_
    obtain ⟨hPc, hDc, hFc, hqc⟩ := cl_cut (wc := (wd_c_X0_faultOf h0_2 h0_2_0 h0_2_f1 h0_2_f2 h0_2_f3 h0_2_0 h0_2_0k h0_2_0c h0_0 h0_0_0 h0_0_f1 h0_0_f2 h0_0_f3 h0_0_0 h0_0_0k h0_0_0c)) hP hD hS hA [1, 2, 3, 4] (by decide +kernel) rfl
    have hKc := hK.sub (tys' := [(h0_2_0k, .int), (h0_0_0k, .int)]) [0, 1] rfl
    have hrv := va_recv hKc hPc (ci := 0) (q0 := 0) rfl rfl
    refine va_calli (va_runV (As := [.ref h0_0]) (rest := []) ⟨hx, hb, hml, hown, hts⟩ (c_X0_faultOf l dC dI H.size h0_2 h0_0 h0_2_0 h0_2_f1 h0_2_f2 h0_2_f3 h0_2_0k h0_2_0c h0_0_0 h0_0_f1 h0_0_f2 h0_0_f3 h0_0_0k h0_0_0c ts1 tv1 ta3 ta0 ts0 tv0 ts2 tv2 ts3 tv3 ta1 ta2 g_h0_2_f1 g_h0_2_f2 g_h0_2_f3 a_h0_2_0c g_h0_0_f1 g_h0_0_f2 g_h0_0_f3 a_h0_0_0c) (cwV 1 hts gf_c_X11_fault_c_X0_faultOf rfl rfl rfl mdV_X0_faultOf ⟨Nat.le_of_ble_eq_true rfl, Nat.le_of_ble_eq_true rfl⟩) ⟨fun a U g mk q => by obtain ⟨q0, q1, qP, qK, qD, qE0, qE1, qE2, qE3, qE4, qE5, qE6, qE7, qE8, qE9, qE10, qE11, qE12, qE13, qE14, qE15, qE16, qE17, qE18, qE19, qE20, qE21, qE22, qE23, qE24, qE25, qE26, qE27, qE28⟩ := q; exact ⟨q0, q1, qP, va_K.moved (u := U) (U := U.calling g mk a) (Vm.Alike.refl U.vm) qK, qD, vk_R.same rfl qE0, va_OF.moved (u := U) (U := U.calling g mk a) (Vm.Alike.refl U.vm) qE1, va_T.moved (u := U) (U := U.calling g mk a) (Vm.Alike.refl U.vm) qE2, va_Z.moved (u := U) (U := U.calling g mk a) (Vm.Alike.refl U.vm) qE3, va_OF.moved (u := U) (U := U.calling g mk a) (Vm.Alike.refl U.vm) qE4, va_O.moved (u := U) (U := U.calling g mk a) (Vm.Alike.refl U.vm) qE5, va_Z.moved (u := U) (U := U.calling g mk a) (Vm.Alike.refl U.vm) qE6, va_Z.moved (u := U) (U := U.calling g mk a) (Vm.Alike.refl U.vm) qE7, va_T.moved (u := U) (U := U.calling g mk a) (Vm.Alike.refl U.vm) qE8, va_T.moved (u := U) (U := U.calling g mk a) (Vm.Alike.refl U.vm) qE9, vk_R.same rfl qE10, va_OF.moved (u := U) (U := U.calling g mk a) (Vm.Alike.refl U.vm) qE11, va_O.moved (u := U) (U := U.calling g mk a) (Vm.Alike.refl U.vm) qE12, va_OF.moved (u := U) (U := U.calling g mk a) (Vm.Alike.refl U.vm) qE13, va_T.moved (u := U) (U := U.calling g mk a) (Vm.Alike.refl U.vm) qE14, vk_R.same rfl qE15, va_OF.moved (u := U) (U := U.calling g mk a) (Vm.Alike.refl U.vm) qE16, va_T.moved (u := U) (U := U.calling g mk a) (Vm.Alike.refl U.vm) qE17, va_OF.moved (u := U) (U := U.calling g mk a) (Vm.Alike.refl U.vm) qE18, va_O.moved (u := U) (U := U.calling g mk a) (Vm.Alike.refl U.vm) qE19, vk_R.same rfl qE20, va_OF.moved (u := U) (U := U.calling g mk a) (Vm.Alike.refl U.vm) qE21, va_T.moved (u := U) (U := U.calling g mk a) (Vm.Alike.refl U.vm) qE22, va_OF.moved (u := U) (U := U.calling g mk a) (Vm.Alike.refl U.vm) qE23, va_O.moved (u := U) (U := U.calling g mk a) (Vm.Alike.refl U.vm) qE24, va_Z.moved (u := U) (U := U.calling g mk a) (Vm.Alike.refl U.vm) qE25, va_T.moved (u := U) (U := U.calling g mk a) (Vm.Alike.refl U.vm) qE26, va_Z.moved (u := U) (U := U.calling g mk a) (Vm.Alike.refl U.vm) qE27, va_T.moved (u := U) (U := U.calling g mk a) (Vm.Alike.refl U.vm) qE28⟩, hrv, fun U hU hW => ⟨rfl, by rw [hU], by rw [hU]; exact hPc, va_K.moved hW.alike hKc, hDc.weaken (fun _ _ _ _ => trivial), vk_R.warm hW hE_17, va_OF.moved hW.alike (by rw [hU]; exact (hE_20.kept hS.2.1).narrow hFc), va_T.moved hW.alike (by rw [hU]; exact (hE_21.kept hS.2.1).narrow hFc), va_Z.moved hW.alike (by rw [hU]; exact (hE_10.kept hS.2.1).narrow hFc), va_OF.moved hW.alike (by rw [hU]; exact (hE_19.kept hS.2.1).narrow hFc), va_O.moved hW.alike (by rw [hU]; exact (hE_18.kept hS.2.1).narrow hFc), va_Z.moved hW.alike (by rw [hU]; exact (hE_6.kept hS.2.1).narrow hFc), va_Z.moved hW.alike (by rw [hU]; exact (hE_0.kept hS.2.1).narrow hFc), va_T.moved hW.alike (by rw [hU]; exact (hE_1.kept hS.2.1).narrow hFc), va_T.moved hW.alike (by rw [hU]; exact (hE_7.kept hS.2.1).narrow hFc), vk_R.warm hW hE_12, va_OF.moved hW.alike (by rw [hU]; exact (hE_14.kept hS.2.1).narrow hFc), va_O.moved hW.alike (by rw [hU]; exact (hE_13.kept hS.2.1).narrow hFc), va_OF.moved hW.alike (by rw [hU]; exact (hE_15.kept hS.2.1).narrow hFc), va_T.moved hW.alike (by rw [hU]; exact (hE_16.kept hS.2.1).narrow hFc), vk_R.warm hW hE_22, va_OF.moved hW.alike (by rw [hU]; exact (hE_25.kept hS.2.1).narrow hFc), va_T.moved hW.alike (by rw [hU]; exact (hE_26.kept hS.2.1).narrow hFc), va_OF.moved hW.alike (by rw [hU]; exact (hE_24.kept hS.2.1).narrow hFc), va_O.moved hW.alike (by rw [hU]; exact (hE_23.kept hS.2.1).narrow hFc), vk_R.warm hW hE_27, va_OF.moved hW.alike (by rw [hU]; exact (hE_30.kept hS.2.1).narrow hFc), va_T.moved hW.alike (by rw [hU]; exact (hE_31.kept hS.2.1).narrow hFc), va_OF.moved hW.alike (by rw [hU]; exact (hE_29.kept hS.2.1).narrow hFc), va_O.moved hW.alike (by rw [hU]; exact (hE_28.kept hS.2.1).narrow hFc), va_Z.moved hW.alike (by rw [hU]; exact (hE_2.kept hS.2.1).narrow hFc), va_T.moved hW.alike (by rw [hU]; exact (hE_3.kept hS.2.1).narrow hFc), va_Z.moved hW.alike (by rw [hU]; exact (hE_4.kept hS.2.1).narrow hFc), va_T.moved hW.alike (by rw [hU]; exact (hE_5.kept hS.2.1).narrow hFc)⟩⟩ rfl rfl hl.1 rfl (lv_room (Nat.le_of_ble_eq_true rfl)) dX11_fault_36 ⟨Nat.le_of_ble_eq_true rfl, Nat.le_of_ble_eq_true rfl⟩) hS (fun q _ h => hFc q h) hFc (fun r_3 u t H1 locs ht hvm hw hB hz1 hk1 hS => ?_)
    obtain ⟨x_4, x_5, x_6, w_7, x_8, x_9⟩ := u
    obtain ⟨hP1, hK1, hD1⟩ := hB
    rw [ht] at hP1
    obtain ⟨hP, hD⟩ := cl_put (w1 := (wd_c_X0_faultOf h0_2 h0_2_0 x_4 x_5 x_6 h0_2_0 h0_2_0k w_7 h0_0 h0_0_0 h0_0_f1 x_8 x_9 h0_0_0 h0_0_0k h0_0_0c)) (nw := (wd_c_X11_fault h0 h0_0 h0_1 h0_2 h0_3 h0_4 h0_f5 h0_6 h0_7 h0_8 h0_9 h0_10 h0_11 h0_12 h0_13 h0_14 h0_f15 h0_2 h0_2_0 x_4 x_5 x_6 h0_2_0 h0_2_0k w_7 h0_0 h0_0_0 h0_0_f1 x_8 x_9 h0_0_0 h0_0_0k h0_0_0c h0_3 h0_3_0 h0_3_f1 h0_3_f2 h0_3_3 h0_3_0 h0_3_0k h0_3_0c h0_3_0_e0 h0_3_0_e0_0 h0_3_0_e0_f1 h0_3_0_e0_2 h0_3_0_e0_0 h0_3_0_e0_0k h0_3_0_e0_0c h0_3_0_e1 h0_3_0_e1_0 h0_3_0_e1_f1 h0_3_0_e1_2 h0_3_0_e1_0 h0_3_0_e1_0k h0_3_0_e1_0c h0_3_0_e2 h0_3_0_e2_0 h0_3_0_e2_f1 h0_3_0_e2_2 h0_3_0_e2_0 h0_3_0_e2_0k h0_3_0_e2_0c h0_3_0_e3 h0_3_0_e3_0 h0_3_0_e3_f1 h0_3_0_e3_2 h0_3_0_e3_0 h0_3_0_e3_0k h0_3_0_e3_0c h0_3_0_e4 h0_3_0_e4_0 h0_3_0_e4_f1 h0_3_0_e4_2 h0_3_0_e4_0 h0_3_0_e4_0k h0_3_0_e4_0c h0_4 h0_4k h0_4c h0_4_e0 h0_4_e0_0 h0_4_e0_f1 h0_4_e0_0 h0_4_e0_0k h0_4_e0_0c h0_4_e1 h0_4_e1_0 h0_4_e1_f1 h0_4_e1_0 h0_4_e1_0k h0_4_e1_0c h0_4_e2 h0_4_e2_0 h0_4_e2_f1 h0_4_e2_0 h0_4_e2_0k h0_4_e2_0c h0_4_e3 h0_4_e3_0 h0_4_e3_f1 h0_4_e3_0 h0_4_e3_0k h0_4_e3_0c h0_4_e4 h0_4_e4_0 h0_4_e4_f1 h0_4_e4_0 h0_4_e4_0k h0_4_e4_0c)) hP hD [1, 2, 3, 4] [0, 28, 29, 30, 31, 5, 6, 7, 8, 9, 10, 11, 12, 13, 14, 15, 16, 17, 18, 19, 20, 21, 22, 23, 24, 25, 26, 27] 28 rfl hqc (by decide +kernel) rfl hk1 hFc hP1 hD1
    generalize H1 = H at hP hS ⊢
    as_aux_lemma =>
    rcases hw with ⟨h_10, h_11, h_12, h_13, h_14, h_15, h_16, h_17⟩
    have h_17 : (r_3, x_4, x_5, x_6, w_7, x_8, x_9) = _ := h_17
    replace hEX := hEX.trans (exc7_eq h_17)
    have hK9 := hK.sub (tys' := []) [] rfl
    exact W.iret (v := r_3) hx hb hr (fun t ht hW => ⟨⟨r_3, (x_4, x_5, x_6, w_7, x_8, x_9, h0_3_0_e0_f1, h0_3_0_e0_0c, h0_3_0_e1_f1, h0_3_0_e1_0c, h0_3_0_e2_f1, h0_3_0_e2_0c, h0_3_0_e3_f1, h0_3_0_e3_0c, h0_3_0_e4_f1, h0_3_0_e4_0c, h0_4_e0_f1, h0_4_e0_0c, h0_4_e1_f1, h0_4_e1_0c, h0_4_e2_f1, h0_4_e2_0c, h0_4_e3_f1, h0_4_e3_0c, h0_4_e4_f1, h0_4_e4_0c), rfl, (Or.inr ⟨h_10, h_11, h_12, h_13, h_14, h_15, h_16, g_h0_3_0_e0_f1, g_h0_3_0_e1_f1, g_h0_3_0_e2_f1, g_h0_3_0_e3_f1, g_h0_3_0_e4_f1, g_h0_4_e0_f1, a_h0_4_e0_0c, g_h0_4_e1_f1, a_h0_4_e1_0c, g_h0_4_e2_f1, a_h0_4_e2_0c, g_h0_4_e3_f1, a_h0_4_e3_0c, g_h0_4_e4_f1, a_h0_4_e4_0c, (RG_w g_2 (by decide +kernel)), (hR.trans hEX).symm⟩), by rw [ht]; exact hP, va_K.moved hW.alike hK9, hD⟩, hS.F ht⟩) hS.2.2 dX11_fault_39
  replace hEX := hEX.trans (if_neg c_1)
  by_cases c_18 : p1 = 1
  · have hsw : p1.toInt = 1 := by rw [c_18]; rfl
    refine lv_tableIn (off := 39) (tgt := 40) hx hb dX11_fault_1 (by rw [hsw]; decide) (by rw [hsw]; decide) (by rw [hsw]; decide) (by decide +kernel) ?_
    replace hEX := hEX.trans (if_pos c_18)
    have g_19 : RG p1 1 1 := RG_k _ _ hsw
    refine lv_aload_n hx hb dX11_fault_40 rfl (lv_at hl 0 rfl) ?_
    refine va_get (D := (dC, dI)) (ci := 11) (v := .ref h0_3) (C := RX11) (T := TX11) (N := 16) hx hb hts iw_c_X11_fault_X11 hown hK hP 0 rfl rfl 3 (by decide +kernel) (hts (.fieldLink RX11 29 "BuoyVote" "laws" "LBuoyVote$LawBook;") (List.mem_of_getElem? (i := 144) rfl)) (fun _ h9 => h9) rfl dX11_fault_41 ?_
    obtain ⟨hPc, hDc, hFc, hqc⟩ := cl_cut (wc := (wd_c_X5_spare h0_3 h0_3_0 h0_3_f1 h0_3_f2 h0_3_3 h0_3_0 h0_3_0k h0_3_0c)) hP hD hS hA [5, 6] (by decide +kernel) rfl
    have hKc := hK.sub (tys' := [(h0_3_0k, .object RX4)]) [2] rfl
    have hrv := va_recv hKc hPc (ci := 5) (q0 := 0) rfl rfl
    refine va_callr (va_runV (As := []) (rest := []) ⟨hx, hb, hml, hown, hts⟩ (c_X5_spare l dC dI H.size h0_3 h0_3_0 h0_3_f1 h0_3_f2 h0_3_3 h0_3_0k h0_3_0c h0_3_0_e0 h0_3_0_e1 h0_3_0_e2 h0_3_0_e3 h0_3_0_e4 g_h0_3_f1 e_h0_3_0_e0 e_h0_3_0_e1 e_h0_3_0_e2 e_h0_3_0_e3 e_h0_3_0_e4) (cwV 0 hts gf_c_X11_fault_c_X5_spare rfl rfl rfl mdV_X5_spare ⟨Nat.le_of_ble_eq_true rfl, Nat.le_of_ble_eq_true rfl⟩) ⟨fun a U g mk q => by obtain ⟨q0, q1, qP, qK, qD⟩ := q; exact ⟨q0, q1, qP, va_K.moved (u := U) (U := U.calling g mk a) (Vm.Alike.refl U.vm) qK, qD⟩, hrv, fun U hU hW => ⟨rfl, by rw [hU], by rw [hU]; exact hPc, va_K.moved hW.alike hKc, hDc.weaken (fun _ _ _ _ => trivial)⟩⟩ rfl rfl hl.1 rfl (lv_room (Nat.le_of_ble_eq_true rfl)) dX11_fault_44 ⟨Nat.le_of_ble_eq_true rfl, Nat.le_of_ble_eq_true rfl⟩) hS (fun q _ h => hFc q h) hFc (fun x_21 r_20 t H1 locs ht hvm hw hB hz1 hk1 hS => ?_)
    as_aux_lemma =>
    obtain ⟨hra, hP1, hK1, hD1⟩ := hB
    rw [ht] at hP1
    obtain ⟨hP, hD⟩ := cl_put (w1 := (wd_c_X5_spare h0_3 h0_3_0 h0_3_f1 h0_3_f2 h0_3_3 h0_3_0 h0_3_0k h0_3_0c)) (nw := (wd_c_X11_fault h0 h0_0 h0_1 h0_2 h0_3 h0_4 h0_f5 h0_6 h0_7 h0_8 h0_9 h0_10 h0_11 h0_12 h0_13 h0_14 h0_f15 h0_2 h0_2_0 h0_2_f1 h0_2_f2 h0_2_f3 h0_2_0 h0_2_0k h0_2_0c h0_0 h0_0_0 h0_0_f1 h0_0_f2 h0_0_f3 h0_0_0 h0_0_0k h0_0_0c h0_3 h0_3_0 h0_3_f1 h0_3_f2 h0_3_3 h0_3_0 h0_3_0k h0_3_0c h0_3_0_e0 h0_3_0_e0_0 h0_3_0_e0_f1 h0_3_0_e0_2 h0_3_0_e0_0 h0_3_0_e0_0k h0_3_0_e0_0c h0_3_0_e1 h0_3_0_e1_0 h0_3_0_e1_f1 h0_3_0_e1_2 h0_3_0_e1_0 h0_3_0_e1_0k h0_3_0_e1_0c h0_3_0_e2 h0_3_0_e2_0 h0_3_0_e2_f1 h0_3_0_e2_2 h0_3_0_e2_0 h0_3_0_e2_0k h0_3_0_e2_0c h0_3_0_e3 h0_3_0_e3_0 h0_3_0_e3_f1 h0_3_0_e3_2 h0_3_0_e3_0 h0_3_0_e3_0k h0_3_0_e3_0c h0_3_0_e4 h0_3_0_e4_0 h0_3_0_e4_f1 h0_3_0_e4_2 h0_3_0_e4_0 h0_3_0_e4_0k h0_3_0_e4_0c h0_4 h0_4k h0_4c h0_4_e0 h0_4_e0_0 h0_4_e0_f1 h0_4_e0_0 h0_4_e0_0k h0_4_e0_0c h0_4_e1 h0_4_e1_0 h0_4_e1_f1 h0_4_e1_0 h0_4_e1_0k h0_4_e1_0c h0_4_e2 h0_4_e2_0 h0_4_e2_f1 h0_4_e2_0 h0_4_e2_0k h0_4_e2_0c h0_4_e3 h0_4_e3_0 h0_4_e3_f1 h0_4_e3_0 h0_4_e3_0k h0_4_e3_0c h0_4_e4 h0_4_e4_0 h0_4_e4_f1 h0_4_e4_0 h0_4_e4_0k h0_4_e4_0c)) hP hD [5, 6] [0, 1, 2, 3, 4, 28, 29, 7, 8, 9, 10, 11, 12, 13, 14, 15, 16, 17, 18, 19, 20, 21, 22, 23, 24, 25, 26, 27] 28 rfl hqc (by decide +kernel) rfl hk1 hFc hP1 hD1
    generalize H1 = H at hP hS ⊢
    as_aux_lemma =>
    rcases hw with ⟨h_22, h_23⟩ | ⟨h_24, h_25⟩ | ⟨h_26, h_27⟩ | ⟨h_28, h_29⟩ | ⟨h_30, h_31⟩
    · replace hEX := hEX.trans (if_pos (RG_eqk (x := h0_3_f1) (c := 0) h_23 rfl))
      rw [hra, show x_21 = h0_3_0_e0 from h_22]
      refine lv_aload_n hx hb dX11_fault_47 rfl (lv_at hl 0 rfl) ?_
      refine va_get (D := (dC, dI)) (ci := 11) (v := .ref h0_0) (C := RX11) (T := TX11) (N := 16) hx hb hts iw_c_X11_fault_X11 hown hK hP 0 rfl rfl 0 (by decide +kernel) (hts (.fieldLink RX11 10 "BuoyVote" "tape" "LBuoyVote$Tape;") (List.mem_of_getElem? (i := 2) rfl)) (fun _ h9 => h9) rfl dX11_fault_48 ?_
      obtain ⟨hPc, hDc, hFc, hqc⟩ := cl_cut (wc := (wd_c_X4_faultOf h0_3_0_e0 h0_3_0_e0_0 h0_3_0_e0_f1 h0_3_0_e0_2 h0_0 h0_0_0 h0_0_f1 h0_0_f2 h0_0_f3 h0_0_0 h0_0_0k h0_0_0c h0_3_0_e0_0 h0_3_0_e0_0k h0_3_0_e0_0c)) hP hD hS hA [7, 3, 4, 8] (by decide +kernel) rfl
      have hKc := hK.sub (tys' := [(h0_0_0k, .int), (h0_3_0_e0_0k, .int)]) [1, 3] rfl
      have hrv := va_recv hKc hPc (ci := 4) (q0 := 0) rfl rfl
      refine va_calli (va_runV (As := [.ref h0_0]) (rest := []) ⟨hx, hb, hml, hown, hts⟩ (c_X4_faultOf l dC dI H.size h0_3_0_e0 h0_0 h0_3_0_e0_0 h0_3_0_e0_f1 h0_3_0_e0_2 h0_0_0 h0_0_f1 h0_0_f2 h0_0_f3 h0_0_0k h0_0_0c h0_3_0_e0_0k h0_3_0_e0_0c ts4 tv4 g_h0_3_0_e0_f1 g_h0_0_f1 g_h0_0_f2 g_h0_0_f3 a_h0_0_0c) (cwV 1 hts gf_c_X11_fault_c_X4_faultOf rfl rfl rfl mdV_X4_faultOf ⟨Nat.le_of_ble_eq_true rfl, Nat.le_of_ble_eq_true rfl⟩) ⟨fun a U g mk q => by obtain ⟨q0, q1, qP, qK, qD, qE0, qE1, qE2, qE3, qE4, qE5⟩ := q; exact ⟨q0, q1, qP, va_K.moved (u := U) (U := U.calling g mk a) (Vm.Alike.refl U.vm) qK, qD, vk_R.same rfl qE0, va_Z.moved (u := U) (U := U.calling g mk a) (Vm.Alike.refl U.vm) qE1, va_OF.moved (u := U) (U := U.calling g mk a) (Vm.Alike.refl U.vm) qE2, va_O.moved (u := U) (U := U.calling g mk a) (Vm.Alike.refl U.vm) qE3, va_OF.moved (u := U) (U := U.calling g mk a) (Vm.Alike.refl U.vm) qE4, va_T.moved (u := U) (U := U.calling g mk a) (Vm.Alike.refl U.vm) qE5⟩, hrv, fun U hU hW => ⟨rfl, by rw [hU], by rw [hU]; exact hPc, va_K.moved hW.alike hKc, hDc.weaken (fun _ _ _ _ => trivial), vk_R.warm hW hE_32, va_Z.moved hW.alike (by rw [hU]; exact (hE_10.kept hS.2.1).narrow hFc), va_OF.moved hW.alike (by rw [hU]; exact (hE_34.kept hS.2.1).narrow hFc), va_O.moved hW.alike (by rw [hU]; exact (hE_33.kept hS.2.1).narrow hFc), va_OF.moved hW.alike (by rw [hU]; exact (hE_35.kept hS.2.1).narrow hFc), va_T.moved hW.alike (by rw [hU]; exact (hE_36.kept hS.2.1).narrow hFc)⟩⟩ rfl rfl hl.1 rfl (lv_room (Nat.le_of_ble_eq_true rfl)) dX11_fault_51 ⟨Nat.le_of_ble_eq_true rfl, Nat.le_of_ble_eq_true rfl⟩) hS (fun q _ h => hFc q h) hFc (fun r_32 u t H1 locs ht hvm hw hB hz1 hk1 hS => ?_)
      obtain ⟨x_33, x_34, x_35, w_36⟩ := u
      obtain ⟨hP1, hK1, hD1⟩ := hB
      rw [ht] at hP1
      obtain ⟨hP, hD⟩ := cl_put (w1 := (wd_c_X4_faultOf h0_3_0_e0 h0_3_0_e0_0 x_33 h0_3_0_e0_2 h0_0 h0_0_0 h0_0_f1 x_34 x_35 h0_0_0 h0_0_0k h0_0_0c h0_3_0_e0_0 h0_3_0_e0_0k w_36)) (nw := (wd_c_X11_fault h0 h0_0 h0_1 h0_2 h0_3 h0_4 h0_f5 h0_6 h0_7 h0_8 h0_9 h0_10 h0_11 h0_12 h0_13 h0_14 h0_f15 h0_2 h0_2_0 h0_2_f1 h0_2_f2 h0_2_f3 h0_2_0 h0_2_0k h0_2_0c h0_0 h0_0_0 h0_0_f1 x_34 x_35 h0_0_0 h0_0_0k h0_0_0c h0_3 h0_3_0 h0_3_f1 h0_3_f2 h0_3_3 h0_3_0 h0_3_0k h0_3_0c h0_3_0_e0 h0_3_0_e0_0 x_33 h0_3_0_e0_2 h0_3_0_e0_0 h0_3_0_e0_0k w_36 h0_3_0_e1 h0_3_0_e1_0 h0_3_0_e1_f1 h0_3_0_e1_2 h0_3_0_e1_0 h0_3_0_e1_0k h0_3_0_e1_0c h0_3_0_e2 h0_3_0_e2_0 h0_3_0_e2_f1 h0_3_0_e2_2 h0_3_0_e2_0 h0_3_0_e2_0k h0_3_0_e2_0c h0_3_0_e3 h0_3_0_e3_0 h0_3_0_e3_f1 h0_3_0_e3_2 h0_3_0_e3_0 h0_3_0_e3_0k h0_3_0_e3_0c h0_3_0_e4 h0_3_0_e4_0 h0_3_0_e4_f1 h0_3_0_e4_2 h0_3_0_e4_0 h0_3_0_e4_0k h0_3_0_e4_0c h0_4 h0_4k h0_4c h0_4_e0 h0_4_e0_0 h0_4_e0_f1 h0_4_e0_0 h0_4_e0_0k h0_4_e0_0c h0_4_e1 h0_4_e1_0 h0_4_e1_f1 h0_4_e1_0 h0_4_e1_0k h0_4_e1_0c h0_4_e2 h0_4_e2_0 h0_4_e2_f1 h0_4_e2_0 h0_4_e2_0k h0_4_e2_0c h0_4_e3 h0_4_e3_0 h0_4_e3_f1 h0_4_e3_0 h0_4_e3_0k h0_4_e3_0c h0_4_e4 h0_4_e4_0 h0_4_e4_f1 h0_4_e4_0 h0_4_e4_0k h0_4_e4_0c)) hP hD [7, 3, 4, 8] [0, 1, 2, 29, 30, 5, 6, 28, 31, 9, 10, 11, 12, 13, 14, 15, 16, 17, 18, 19, 20, 21, 22, 23, 24, 25, 26, 27] 28 rfl hqc (by decide +kernel) rfl hk1 hFc hP1 hD1
      generalize H1 = H at hP hS ⊢
      as_aux_lemma =>
      rcases hw with ⟨h_37, h_38, h_39, h_40, h_41⟩
      have h_41 : (r_32, x_33, x_34, x_35, w_36) = _ := h_41
      replace hEX := hEX.trans (exc5_eq h_41)
      have hK9 := hK.sub (tys' := []) [] rfl
      exact W.iret (v := r_32) hx hb hr (fun t ht hW => ⟨⟨r_32, (h0_2_f1, h0_2_f2, h0_2_f3, h0_2_0c, x_34, x_35, x_33, w_36, h0_3_0_e1_f1, h0_3_0_e1_0c, h0_3_0_e2_f1, h0_3_0_e2_0c, h0_3_0_e3_f1, h0_3_0_e3_0c, h0_3_0_e4_f1, h0_3_0_e4_0c, h0_4_e0_f1, h0_4_e0_0c, h0_4_e1_f1, h0_4_e1_0c, h0_4_e2_f1, h0_4_e2_0c, h0_4_e3_f1, h0_4_e3_0c, h0_4_e4_f1, h0_4_e4_0c), rfl, (Or.inr ⟨h_37, g_h0_2_f1, g_h0_2_f2, g_h0_2_f3, a_h0_2_0c, h_39, h_40, h_38, g_h0_3_0_e1_f1, g_h0_3_0_e2_f1, g_h0_3_0_e3_f1, g_h0_3_0_e4_f1, g_h0_4_e0_f1, a_h0_4_e0_0c, g_h0_4_e1_f1, a_h0_4_e1_0c, g_h0_4_e2_f1, a_h0_4_e2_0c, g_h0_4_e3_f1, a_h0_4_e3_0c, g_h0_4_e4_f1, a_h0_4_e4_0c, (RG_w g_19 (by decide +kernel)), (hR.trans hEX).symm⟩), by rw [ht]; exact hP, va_K.moved hW.alike hK9, hD⟩, hS.F ht⟩) hS.2.2 dX11_fault_54
    · replace hEX := hEX.trans (if_neg (fun q9 : h0_3_f1 = 0 => absurd ((RG_eqk (x := h0_3_f1) (c := 1) h_25 rfl).symm.trans q9) (by decide +kernel)))
      replace hEX := hEX.trans (if_pos (RG_eqk (x := h0_3_f1) (c := 1) h_25 rfl))
      rw [hra, show x_21 = h0_3_0_e1 from h_24]
      refine lv_aload_n hx hb dX11_fault_47 rfl (lv_at hl 0 rfl) ?_
      refine va_get (D := (dC, dI)) (ci := 11) (v := .ref h0_0) (C := RX11) (T := TX11) (N := 16) hx hb hts iw_c_X11_fault_X11 hown hK hP 0 rfl rfl 0 (by decide +kernel) (hts (.fieldLink RX11 10 "BuoyVote" "tape" "LBuoyVote$Tape;") (List.mem_of_getElem? (i := 2) rfl)) (fun _ h9 => h9) rfl dX11_fault_48 ?_
      obtain ⟨hPc, hDc, hFc, hqc⟩ := cl_cut (wc := (wd_c_X4_faultOf h0_3_0_e1 h0_3_0_e1_0 h0_3_0_e1_f1 h0_3_0_e1_2 h0_0 h0_0_0 h0_0_f1 h0_0_f2 h0_0_f3 h0_0_0 h0_0_0k h0_0_0c h0_3_0_e1_0 h0_3_0_e1_0k h0_3_0_e1_0c)) hP hD hS hA [9, 3, 4, 10] (by decide +kernel) rfl
      have hKc := hK.sub (tys' := [(h0_0_0k, .int), (h0_3_0_e1_0k, .int)]) [1, 4] rfl
      have hrv := va_recv hKc hPc (ci := 4) (q0 := 0) rfl rfl
      refine va_calli (va_runV (As := [.ref h0_0]) (rest := []) ⟨hx, hb, hml, hown, hts⟩ (c_X4_faultOf l dC dI H.size h0_3_0_e1 h0_0 h0_3_0_e1_0 h0_3_0_e1_f1 h0_3_0_e1_2 h0_0_0 h0_0_f1 h0_0_f2 h0_0_f3 h0_0_0k h0_0_0c h0_3_0_e1_0k h0_3_0_e1_0c ts4 tv4 g_h0_3_0_e1_f1 g_h0_0_f1 g_h0_0_f2 g_h0_0_f3 a_h0_0_0c) (cwV 1 hts gf_c_X11_fault_c_X4_faultOf rfl rfl rfl mdV_X4_faultOf ⟨Nat.le_of_ble_eq_true rfl, Nat.le_of_ble_eq_true rfl⟩) ⟨fun a U g mk q => by obtain ⟨q0, q1, qP, qK, qD, qE0, qE1, qE2, qE3, qE4, qE5⟩ := q; exact ⟨q0, q1, qP, va_K.moved (u := U) (U := U.calling g mk a) (Vm.Alike.refl U.vm) qK, qD, vk_R.same rfl qE0, va_Z.moved (u := U) (U := U.calling g mk a) (Vm.Alike.refl U.vm) qE1, va_OF.moved (u := U) (U := U.calling g mk a) (Vm.Alike.refl U.vm) qE2, va_O.moved (u := U) (U := U.calling g mk a) (Vm.Alike.refl U.vm) qE3, va_OF.moved (u := U) (U := U.calling g mk a) (Vm.Alike.refl U.vm) qE4, va_T.moved (u := U) (U := U.calling g mk a) (Vm.Alike.refl U.vm) qE5⟩, hrv, fun U hU hW => ⟨rfl, by rw [hU], by rw [hU]; exact hPc, va_K.moved hW.alike hKc, hDc.weaken (fun _ _ _ _ => trivial), vk_R.warm hW hE_32, va_Z.moved hW.alike (by rw [hU]; exact (hE_10.kept hS.2.1).narrow hFc), va_OF.moved hW.alike (by rw [hU]; exact (hE_34.kept hS.2.1).narrow hFc), va_O.moved hW.alike (by rw [hU]; exact (hE_33.kept hS.2.1).narrow hFc), va_OF.moved hW.alike (by rw [hU]; exact (hE_35.kept hS.2.1).narrow hFc), va_T.moved hW.alike (by rw [hU]; exact (hE_36.kept hS.2.1).narrow hFc)⟩⟩ rfl rfl hl.1 rfl (lv_room (Nat.le_of_ble_eq_true rfl)) dX11_fault_51 ⟨Nat.le_of_ble_eq_true rfl, Nat.le_of_ble_eq_true rfl⟩) hS (fun q _ h => hFc q h) hFc (fun r_42 u t H1 locs ht hvm hw hB hz1 hk1 hS => ?_)
      as_aux_lemma =>
      obtain ⟨x_43, x_44, x_45, w_46⟩ := u
      obtain ⟨hP1, hK1, hD1⟩ := hB
      rw [ht] at hP1
      obtain ⟨hP, hD⟩ := cl_put (w1 := (wd_c_X4_faultOf h0_3_0_e1 h0_3_0_e1_0 x_43 h0_3_0_e1_2 h0_0 h0_0_0 h0_0_f1 x_44 x_45 h0_0_0 h0_0_0k h0_0_0c h0_3_0_e1_0 h0_3_0_e1_0k w_46)) (nw := (wd_c_X11_fault h0 h0_0 h0_1 h0_2 h0_3 h0_4 h0_f5 h0_6 h0_7 h0_8 h0_9 h0_10 h0_11 h0_12 h0_13 h0_14 h0_f15 h0_2 h0_2_0 h0_2_f1 h0_2_f2 h0_2_f3 h0_2_0 h0_2_0k h0_2_0c h0_0 h0_0_0 h0_0_f1 x_44 x_45 h0_0_0 h0_0_0k h0_0_0c h0_3 h0_3_0 h0_3_f1 h0_3_f2 h0_3_3 h0_3_0 h0_3_0k h0_3_0c h0_3_0_e0 h0_3_0_e0_0 h0_3_0_e0_f1 h0_3_0_e0_2 h0_3_0_e0_0 h0_3_0_e0_0k h0_3_0_e0_0c h0_3_0_e1 h0_3_0_e1_0 x_43 h0_3_0_e1_2 h0_3_0_e1_0 h0_3_0_e1_0k w_46 h0_3_0_e2 h0_3_0_e2_0 h0_3_0_e2_f1 h0_3_0_e2_2 h0_3_0_e2_0 h0_3_0_e2_0k h0_3_0_e2_0c h0_3_0_e3 h0_3_0_e3_0 h0_3_0_e3_f1 h0_3_0_e3_2 h0_3_0_e3_0 h0_3_0_e3_0k h0_3_0_e3_0c h0_3_0_e4 h0_3_0_e4_0 h0_3_0_e4_f1 h0_3_0_e4_2 h0_3_0_e4_0 h0_3_0_e4_0k h0_3_0_e4_0c h0_4 h0_4k h0_4c h0_4_e0 h0_4_e0_0 h0_4_e0_f1 h0_4_e0_0 h0_4_e0_0k h0_4_e0_0c h0_4_e1 h0_4_e1_0 h0_4_e1_f1 h0_4_e1_0 h0_4_e1_0k h0_4_e1_0c h0_4_e2 h0_4_e2_0 h0_4_e2_f1 h0_4_e2_0 h0_4_e2_0k h0_4_e2_0c h0_4_e3 h0_4_e3_0 h0_4_e3_f1 h0_4_e3_0 h0_4_e3_0k h0_4_e3_0c h0_4_e4 h0_4_e4_0 h0_4_e4_f1 h0_4_e4_0 h0_4_e4_0k h0_4_e4_0c)) hP hD [9, 3, 4, 10] [0, 1, 2, 29, 30, 5, 6, 7, 8, 28, 31, 11, 12, 13, 14, 15, 16, 17, 18, 19, 20, 21, 22, 23, 24, 25, 26, 27] 28 rfl hqc (by decide +kernel) rfl hk1 hFc hP1 hD1
      generalize H1 = H at hP hS ⊢
      as_aux_lemma =>
      rcases hw with ⟨h_47, h_48, h_49, h_50, h_51⟩
      have h_51 : (r_42, x_43, x_44, x_45, w_46) = _ := h_51
      replace hEX := hEX.trans (exc5_eq h_51)
      have hK9 := hK.sub (tys' := []) [] rfl
      exact W.iret (v := r_42) hx hb hr (fun t ht hW => ⟨⟨r_42, (h0_2_f1, h0_2_f2, h0_2_f3, h0_2_0c, x_44, x_45, h0_3_0_e0_f1, h0_3_0_e0_0c, x_43, w_46, h0_3_0_e2_f1, h0_3_0_e2_0c, h0_3_0_e3_f1, h0_3_0_e3_0c, h0_3_0_e4_f1, h0_3_0_e4_0c, h0_4_e0_f1, h0_4_e0_0c, h0_4_e1_f1, h0_4_e1_0c, h0_4_e2_f1, h0_4_e2_0c, h0_4_e3_f1, h0_4_e3_0c, h0_4_e4_f1, h0_4_e4_0c), rfl, (Or.inr ⟨h_47, g_h0_2_f1, g_h0_2_f2, g_h0_2_f3, a_h0_2_0c, h_49, h_50, g_h0_3_0_e0_f1, h_48, g_h0_3_0_e2_f1, g_h0_3_0_e3_f1, g_h0_3_0_e4_f1, g_h0_4_e0_f1, a_h0_4_e0_0c, g_h0_4_e1_f1, a_h0_4_e1_0c, g_h0_4_e2_f1, a_h0_4_e2_0c, g_h0_4_e3_f1, a_h0_4_e3_0c, g_h0_4_e4_f1, a_h0_4_e4_0c, (RG_w g_19 (by decide +kernel)), (hR.trans hEX).symm⟩), by rw [ht]; exact hP, va_K.moved hW.alike hK9, hD⟩, hS.F ht⟩) hS.2.2 dX11_fault_54
    · replace hEX := hEX.trans (if_neg (fun q9 : h0_3_f1 = 0 => absurd ((RG_eqk (x := h0_3_f1) (c := 2) h_27 rfl).symm.trans q9) (by decide +kernel)))
      replace hEX := hEX.trans (if_neg (fun q9 : h0_3_f1 = 1 => absurd ((RG_eqk (x := h0_3_f1) (c := 2) h_27 rfl).symm.trans q9) (by decide +kernel)))
      replace hEX := hEX.trans (if_pos (RG_eqk (x := h0_3_f1) (c := 2) h_27 rfl))
      rw [hra, show x_21 = h0_3_0_e2 from h_26]
      refine lv_aload_n hx hb dX11_fault_47 rfl (lv_at hl 0 rfl) ?_
      refine va_get (D := (dC, dI)) (ci := 11) (v := .ref h0_0) (C := RX11) (T := TX11) (N := 16) hx hb hts iw_c_X11_fault_X11 hown hK hP 0 rfl rfl 0 (by decide +kernel) (hts (.fieldLink RX11 10 "BuoyVote" "tape" "LBuoyVote$Tape;") (List.mem_of_getElem? (i := 2) rfl)) (fun _ h9 => h9) rfl dX11_fault_48 ?_
      obtain ⟨hPc, hDc, hFc, hqc⟩ := cl_cut (wc := (wd_c_X4_faultOf h0_3_0_e2 h0_3_0_e2_0 h0_3_0_e2_f1 h0_3_0_e2_2 h0_0 h0_0_0 h0_0_f1 h0_0_f2 h0_0_f3 h0_0_0 h0_0_0k h0_0_0c h0_3_0_e2_0 h0_3_0_e2_0k h0_3_0_e2_0c)) hP hD hS hA [11, 3, 4, 12] (by decide +kernel) rfl
      have hKc := hK.sub (tys' := [(h0_0_0k, .int), (h0_3_0_e2_0k, .int)]) [1, 5] rfl
      have hrv := va_recv hKc hPc (ci := 4) (q0 := 0) rfl rfl
      refine va_calli (va_runV (As := [.ref h0_0]) (rest := []) ⟨hx, hb, hml, hown, hts⟩ (c_X4_faultOf l dC dI H.size h0_3_0_e2 h0_0 h0_3_0_e2_0 h0_3_0_e2_f1 h0_3_0_e2_2 h0_0_0 h0_0_f1 h0_0_f2 h0_0_f3 h0_0_0k h0_0_0c h0_3_0_e2_0k h0_3_0_e2_0c ts4 tv4 g_h0_3_0_e2_f1 g_h0_0_f1 g_h0_0_f2 g_h0_0_f3 a_h0_0_0c) (cwV 1 hts gf_c_X11_fault_c_X4_faultOf rfl rfl rfl mdV_X4_faultOf ⟨Nat.le_of_ble_eq_true rfl, Nat.le_of_ble_eq_true rfl⟩) ⟨fun a U g mk q => by obtain ⟨q0, q1, qP, qK, qD, qE0, qE1, qE2, qE3, qE4, qE5⟩ := q; exact ⟨q0, q1, qP, va_K.moved (u := U) (U := U.calling g mk a) (Vm.Alike.refl U.vm) qK, qD, vk_R.same rfl qE0, va_Z.moved (u := U) (U := U.calling g mk a) (Vm.Alike.refl U.vm) qE1, va_OF.moved (u := U) (U := U.calling g mk a) (Vm.Alike.refl U.vm) qE2, va_O.moved (u := U) (U := U.calling g mk a) (Vm.Alike.refl U.vm) qE3, va_OF.moved (u := U) (U := U.calling g mk a) (Vm.Alike.refl U.vm) qE4, va_T.moved (u := U) (U := U.calling g mk a) (Vm.Alike.refl U.vm) qE5⟩, hrv, fun U hU hW => ⟨rfl, by rw [hU], by rw [hU]; exact hPc, va_K.moved hW.alike hKc, hDc.weaken (fun _ _ _ _ => trivial), vk_R.warm hW hE_32, va_Z.moved hW.alike (by rw [hU]; exact (hE_10.kept hS.2.1).narrow hFc), va_OF.moved hW.alike (by rw [hU]; exact (hE_34.kept hS.2.1).narrow hFc), va_O.moved hW.alike (by rw [hU]; exact (hE_33.kept hS.2.1).narrow hFc), va_OF.moved hW.alike (by rw [hU]; exact (hE_35.kept hS.2.1).narrow hFc), va_T.moved hW.alike (by rw [hU]; exact (hE_36.kept hS.2.1).narrow hFc)⟩⟩ rfl rfl hl.1 rfl (lv_room (Nat.le_of_ble_eq_true rfl)) dX11_fault_51 ⟨Nat.le_of_ble_eq_true rfl, Nat.le_of_ble_eq_true rfl⟩) hS (fun q _ h => hFc q h) hFc (fun r_52 u t H1 locs ht hvm hw hB hz1 hk1 hS => ?_)
      as_aux_lemma =>
      obtain ⟨x_53, x_54, x_55, w_56⟩ := u
      obtain ⟨hP1, hK1, hD1⟩ := hB
      rw [ht] at hP1
      obtain ⟨hP, hD⟩ := cl_put (w1 := (wd_c_X4_faultOf h0_3_0_e2 h0_3_0_e2_0 x_53 h0_3_0_e2_2 h0_0 h0_0_0 h0_0_f1 x_54 x_55 h0_0_0 h0_0_0k h0_0_0c h0_3_0_e2_0 h0_3_0_e2_0k w_56)) (nw := (wd_c_X11_fault h0 h0_0 h0_1 h0_2 h0_3 h0_4 h0_f5 h0_6 h0_7 h0_8 h0_9 h0_10 h0_11 h0_12 h0_13 h0_14 h0_f15 h0_2 h0_2_0 h0_2_f1 h0_2_f2 h0_2_f3 h0_2_0 h0_2_0k h0_2_0c h0_0 h0_0_0 h0_0_f1 x_54 x_55 h0_0_0 h0_0_0k h0_0_0c h0_3 h0_3_0 h0_3_f1 h0_3_f2 h0_3_3 h0_3_0 h0_3_0k h0_3_0c h0_3_0_e0 h0_3_0_e0_0 h0_3_0_e0_f1 h0_3_0_e0_2 h0_3_0_e0_0 h0_3_0_e0_0k h0_3_0_e0_0c h0_3_0_e1 h0_3_0_e1_0 h0_3_0_e1_f1 h0_3_0_e1_2 h0_3_0_e1_0 h0_3_0_e1_0k h0_3_0_e1_0c h0_3_0_e2 h0_3_0_e2_0 x_53 h0_3_0_e2_2 h0_3_0_e2_0 h0_3_0_e2_0k w_56 h0_3_0_e3 h0_3_0_e3_0 h0_3_0_e3_f1 h0_3_0_e3_2 h0_3_0_e3_0 h0_3_0_e3_0k h0_3_0_e3_0c h0_3_0_e4 h0_3_0_e4_0 h0_3_0_e4_f1 h0_3_0_e4_2 h0_3_0_e4_0 h0_3_0_e4_0k h0_3_0_e4_0c h0_4 h0_4k h0_4c h0_4_e0 h0_4_e0_0 h0_4_e0_f1 h0_4_e0_0 h0_4_e0_0k h0_4_e0_0c h0_4_e1 h0_4_e1_0 h0_4_e1_f1 h0_4_e1_0 h0_4_e1_0k h0_4_e1_0c h0_4_e2 h0_4_e2_0 h0_4_e2_f1 h0_4_e2_0 h0_4_e2_0k h0_4_e2_0c h0_4_e3 h0_4_e3_0 h0_4_e3_f1 h0_4_e3_0 h0_4_e3_0k h0_4_e3_0c h0_4_e4 h0_4_e4_0 h0_4_e4_f1 h0_4_e4_0 h0_4_e4_0k h0_4_e4_0c)) hP hD [11, 3, 4, 12] [0, 1, 2, 29, 30, 5, 6, 7, 8, 9, 10, 28, 31, 13, 14, 15, 16, 17, 18, 19, 20, 21, 22, 23, 24, 25, 26, 27] 28 rfl hqc (by decide +kernel) rfl hk1 hFc hP1 hD1
      generalize H1 = H at hP hS ⊢
      as_aux_lemma =>
      rcases hw with ⟨h_57, h_58, h_59, h_60, h_61⟩
      have h_61 : (r_52, x_53, x_54, x_55, w_56) = _ := h_61
      replace hEX := hEX.trans (exc5_eq h_61)
      have hK9 := hK.sub (tys' := []) [] rfl
      exact W.iret (v := r_52) hx hb hr (fun t ht hW => ⟨⟨r_52, (h0_2_f1, h0_2_f2, h0_2_f3, h0_2_0c, x_54, x_55, h0_3_0_e0_f1, h0_3_0_e0_0c, h0_3_0_e1_f1, h0_3_0_e1_0c, x_53, w_56, h0_3_0_e3_f1, h0_3_0_e3_0c, h0_3_0_e4_f1, h0_3_0_e4_0c, h0_4_e0_f1, h0_4_e0_0c, h0_4_e1_f1, h0_4_e1_0c, h0_4_e2_f1, h0_4_e2_0c, h0_4_e3_f1, h0_4_e3_0c, h0_4_e4_f1, h0_4_e4_0c), rfl, (Or.inr ⟨h_57, g_h0_2_f1, g_h0_2_f2, g_h0_2_f3, a_h0_2_0c, h_59, h_60, g_h0_3_0_e0_f1, g_h0_3_0_e1_f1, h_58, g_h0_3_0_e3_f1, g_h0_3_0_e4_f1, g_h0_4_e0_f1, a_h0_4_e0_0c, g_h0_4_e1_f1, a_h0_4_e1_0c, g_h0_4_e2_f1, a_h0_4_e2_0c, g_h0_4_e3_f1, a_h0_4_e3_0c, g_h0_4_e4_f1, a_h0_4_e4_0c, (RG_w g_19 (by decide +kernel)), (hR.trans hEX).symm⟩), by rw [ht]; exact hP, va_K.moved hW.alike hK9, hD⟩, hS.F ht⟩) hS.2.2 dX11_fault_54
    · replace hEX := hEX.trans (if_neg (fun q9 : h0_3_f1 = 0 => absurd ((RG_eqk (x := h0_3_f1) (c := 3) h_29 rfl).symm.trans q9) (by decide +kernel)))
      replace hEX := hEX.trans (if_neg (fun q9 : h0_3_f1 = 1 => absurd ((RG_eqk (x := h0_3_f1) (c := 3) h_29 rfl).symm.trans q9) (by decide +kernel)))
      replace hEX := hEX.trans (if_neg (fun q9 : h0_3_f1 = 2 => absurd ((RG_eqk (x := h0_3_f1) (c := 3) h_29 rfl).symm.trans q9) (by decide +kernel)))
      replace hEX := hEX.trans (if_pos (RG_eqk (x := h0_3_f1) (c := 3) h_29 rfl))
      rw [hra, show x_21 = h0_3_0_e3 from h_28]
      refine lv_aload_n hx hb dX11_fault_47 rfl (lv_at hl 0 rfl) ?_
      refine va_get (D := (dC, dI)) (ci := 11) (v := .ref h0_0) (C := RX11) (T := TX11) (N := 16) hx hb hts iw_c_X11_fault_X11 hown hK hP 0 rfl rfl 0 (by decide +kernel) (hts (.fieldLink RX11 10 "BuoyVote" "tape" "LBuoyVote$Tape;") (List.mem_of_getElem? (i := 2) rfl)) (fun _ h9 => h9) rfl dX11_fault_48 ?_
      obtain ⟨hPc, hDc, hFc, hqc⟩ := cl_cut (wc := (wd_c_X4_faultOf h0_3_0_e3 h0_3_0_e3_0 h0_3_0_e3_f1 h0_3_0_e3_2 h0_0 h0_0_0 h0_0_f1 h0_0_f2 h0_0_f3 h0_0_0 h0_0_0k h0_0_0c h0_3_0_e3_0 h0_3_0_e3_0k h0_3_0_e3_0c)) hP hD hS hA [13, 3, 4, 14] (by decide +kernel) rfl
      have hKc := hK.sub (tys' := [(h0_0_0k, .int), (h0_3_0_e3_0k, .int)]) [1, 6] rfl
      have hrv := va_recv hKc hPc (ci := 4) (q0 := 0) rfl rfl
      refine va_calli (va_runV (As := [.ref h0_0]) (rest := []) ⟨hx, hb, hml, hown, hts⟩ (c_X4_faultOf l dC dI H.size h0_3_0_e3 h0_0 h0_3_0_e3_0 h0_3_0_e3_f1 h0_3_0_e3_2 h0_0_0 h0_0_f1 h0_0_f2 h0_0_f3 h0_0_0k h0_0_0c h0_3_0_e3_0k h0_3_0_e3_0c ts4 tv4 g_h0_3_0_e3_f1 g_h0_0_f1 g_h0_0_f2 g_h0_0_f3 a_h0_0_0c) (cwV 1 hts gf_c_X11_fault_c_X4_faultOf rfl rfl rfl mdV_X4_faultOf ⟨Nat.le_of_ble_eq_true rfl, Nat.le_of_ble_eq_true rfl⟩) ⟨fun a U g mk q => by obtain ⟨q0, q1, qP, qK, qD, qE0, qE1, qE2, qE3, qE4, qE5⟩ := q; exact ⟨q0, q1, qP, va_K.moved (u := U) (U := U.calling g mk a) (Vm.Alike.refl U.vm) qK, qD, vk_R.same rfl qE0, va_Z.moved (u := U) (U := U.calling g mk a) (Vm.Alike.refl U.vm) qE1, va_OF.moved (u := U) (U := U.calling g mk a) (Vm.Alike.refl U.vm) qE2, va_O.moved (u := U) (U := U.calling g mk a) (Vm.Alike.refl U.vm) qE3, va_OF.moved (u := U) (U := U.calling g mk a) (Vm.Alike.refl U.vm) qE4, va_T.moved (u := U) (U := U.calling g mk a) (Vm.Alike.refl U.vm) qE5⟩, hrv, fun U hU hW => ⟨rfl, by rw [hU], by rw [hU]; exact hPc, va_K.moved hW.alike hKc, hDc.weaken (fun _ _ _ _ => trivial), vk_R.warm hW hE_32, va_Z.moved hW.alike (by rw [hU]; exact (hE_10.kept hS.2.1).narrow hFc), va_OF.moved hW.alike (by rw [hU]; exact (hE_34.kept hS.2.1).narrow hFc), va_O.moved hW.alike (by rw [hU]; exact (hE_33.kept hS.2.1).narrow hFc), va_OF.moved hW.alike (by rw [hU]; exact (hE_35.kept hS.2.1).narrow hFc), va_T.moved hW.alike (by rw [hU]; exact (hE_36.kept hS.2.1).narrow hFc)⟩⟩ rfl rfl hl.1 rfl (lv_room (Nat.le_of_ble_eq_true rfl)) dX11_fault_51 ⟨Nat.le_of_ble_eq_true rfl, Nat.le_of_ble_eq_true rfl⟩) hS (fun q _ h => hFc q h) hFc (fun r_62 u t H1 locs ht hvm hw hB hz1 hk1 hS => ?_)
      as_aux_lemma =>
      obtain ⟨x_63, x_64, x_65, w_66⟩ := u
      obtain ⟨hP1, hK1, hD1⟩ := hB
      rw [ht] at hP1
      obtain ⟨hP, hD⟩ := cl_put (w1 := (wd_c_X4_faultOf h0_3_0_e3 h0_3_0_e3_0 x_63 h0_3_0_e3_2 h0_0 h0_0_0 h0_0_f1 x_64 x_65 h0_0_0 h0_0_0k h0_0_0c h0_3_0_e3_0 h0_3_0_e3_0k w_66)) (nw := (wd_c_X11_fault h0 h0_0 h0_1 h0_2 h0_3 h0_4 h0_f5 h0_6 h0_7 h0_8 h0_9 h0_10 h0_11 h0_12 h0_13 h0_14 h0_f15 h0_2 h0_2_0 h0_2_f1 h0_2_f2 h0_2_f3 h0_2_0 h0_2_0k h0_2_0c h0_0 h0_0_0 h0_0_f1 x_64 x_65 h0_0_0 h0_0_0k h0_0_0c h0_3 h0_3_0 h0_3_f1 h0_3_f2 h0_3_3 h0_3_0 h0_3_0k h0_3_0c h0_3_0_e0 h0_3_0_e0_0 h0_3_0_e0_f1 h0_3_0_e0_2 h0_3_0_e0_0 h0_3_0_e0_0k h0_3_0_e0_0c h0_3_0_e1 h0_3_0_e1_0 h0_3_0_e1_f1 h0_3_0_e1_2 h0_3_0_e1_0 h0_3_0_e1_0k h0_3_0_e1_0c h0_3_0_e2 h0_3_0_e2_0 h0_3_0_e2_f1 h0_3_0_e2_2 h0_3_0_e2_0 h0_3_0_e2_0k h0_3_0_e2_0c h0_3_0_e3 h0_3_0_e3_0 x_63 h0_3_0_e3_2 h0_3_0_e3_0 h0_3_0_e3_0k w_66 h0_3_0_e4 h0_3_0_e4_0 h0_3_0_e4_f1 h0_3_0_e4_2 h0_3_0_e4_0 h0_3_0_e4_0k h0_3_0_e4_0c h0_4 h0_4k h0_4c h0_4_e0 h0_4_e0_0 h0_4_e0_f1 h0_4_e0_0 h0_4_e0_0k h0_4_e0_0c h0_4_e1 h0_4_e1_0 h0_4_e1_f1 h0_4_e1_0 h0_4_e1_0k h0_4_e1_0c h0_4_e2 h0_4_e2_0 h0_4_e2_f1 h0_4_e2_0 h0_4_e2_0k h0_4_e2_0c h0_4_e3 h0_4_e3_0 h0_4_e3_f1 h0_4_e3_0 h0_4_e3_0k h0_4_e3_0c h0_4_e4 h0_4_e4_0 h0_4_e4_f1 h0_4_e4_0 h0_4_e4_0k h0_4_e4_0c)) hP hD [13, 3, 4, 14] [0, 1, 2, 29, 30, 5, 6, 7, 8, 9, 10, 11, 12, 28, 31, 15, 16, 17, 18, 19, 20, 21, 22, 23, 24, 25, 26, 27] 28 rfl hqc (by decide +kernel) rfl hk1 hFc hP1 hD1
      generalize H1 = H at hP hS ⊢
      as_aux_lemma =>
      rcases hw with ⟨h_67, h_68, h_69, h_70, h_71⟩
      have h_71 : (r_62, x_63, x_64, x_65, w_66) = _ := h_71
      replace hEX := hEX.trans (exc5_eq h_71)
      have hK9 := hK.sub (tys' := []) [] rfl
      exact W.iret (v := r_62) hx hb hr (fun t ht hW => ⟨⟨r_62, (h0_2_f1, h0_2_f2, h0_2_f3, h0_2_0c, x_64, x_65, h0_3_0_e0_f1, h0_3_0_e0_0c, h0_3_0_e1_f1, h0_3_0_e1_0c, h0_3_0_e2_f1, h0_3_0_e2_0c, x_63, w_66, h0_3_0_e4_f1, h0_3_0_e4_0c, h0_4_e0_f1, h0_4_e0_0c, h0_4_e1_f1, h0_4_e1_0c, h0_4_e2_f1, h0_4_e2_0c, h0_4_e3_f1, h0_4_e3_0c, h0_4_e4_f1, h0_4_e4_0c), rfl, (Or.inr ⟨h_67, g_h0_2_f1, g_h0_2_f2, g_h0_2_f3, a_h0_2_0c, h_69, h_70, g_h0_3_0_e0_f1, g_h0_3_0_e1_f1, g_h0_3_0_e2_f1, h_68, g_h0_3_0_e4_f1, g_h0_4_e0_f1, a_h0_4_e0_0c, g_h0_4_e1_f1, a_h0_4_e1_0c, g_h0_4_e2_f1, a_h0_4_e2_0c, g_h0_4_e3_f1, a_h0_4_e3_0c, g_h0_4_e4_f1, a_h0_4_e4_0c, (RG_w g_19 (by decide +kernel)), (hR.trans hEX).symm⟩), by rw [ht]; exact hP, va_K.moved hW.alike hK9, hD⟩, hS.F ht⟩) hS.2.2 dX11_fault_54
    · replace hEX := hEX.trans (if_neg (fun q9 : h0_3_f1 = 0 => absurd ((RG_eqk (x := h0_3_f1) (c := 4) h_31 rfl).symm.trans q9) (by decide +kernel)))
      replace hEX := hEX.trans (if_neg (fun q9 : h0_3_f1 = 1 => absurd ((RG_eqk (x := h0_3_f1) (c := 4) h_31 rfl).symm.trans q9) (by decide +kernel)))
      replace hEX := hEX.trans (if_neg (fun q9 : h0_3_f1 = 2 => absurd ((RG_eqk (x := h0_3_f1) (c := 4) h_31 rfl).symm.trans q9) (by decide +kernel)))
      replace hEX := hEX.trans (if_neg (fun q9 : h0_3_f1 = 3 => absurd ((RG_eqk (x := h0_3_f1) (c := 4) h_31 rfl).symm.trans q9) (by decide +kernel)))
      rw [hra, show x_21 = h0_3_0_e4 from h_30]
      refine lv_aload_n hx hb dX11_fault_47 rfl (lv_at hl 0 rfl) ?_
      refine va_get (D := (dC, dI)) (ci := 11) (v := .ref h0_0) (C := RX11) (T := TX11) (N := 16) hx hb hts iw_c_X11_fault_X11 hown hK hP 0 rfl rfl 0 (by decide +kernel) (hts (.fieldLink RX11 10 "BuoyVote" "tape" "LBuoyVote$Tape;") (List.mem_of_getElem? (i := 2) rfl)) (fun _ h9 => h9) rfl dX11_fault_48 ?_
      obtain ⟨hPc, hDc, hFc, hqc⟩ := cl_cut (wc := (wd_c_X4_faultOf h0_3_0_e4 h0_3_0_e4_0 h0_3_0_e4_f1 h0_3_0_e4_2 h0_0 h0_0_0 h0_0_f1 h0_0_f2 h0_0_f3 h0_0_0 h0_0_0k h0_0_0c h0_3_0_e4_0 h0_3_0_e4_0k h0_3_0_e4_0c)) hP hD hS hA [15, 3, 4, 16] (by decide +kernel) rfl
      have hKc := hK.sub (tys' := [(h0_0_0k, .int), (h0_3_0_e4_0k, .int)]) [1, 7] rfl
      have hrv := va_recv hKc hPc (ci := 4) (q0 := 0) rfl rfl
      refine va_calli (va_runV (As := [.ref h0_0]) (rest := []) ⟨hx, hb, hml, hown, hts⟩ (c_X4_faultOf l dC dI H.size h0_3_0_e4 h0_0 h0_3_0_e4_0 h0_3_0_e4_f1 h0_3_0_e4_2 h0_0_0 h0_0_f1 h0_0_f2 h0_0_f3 h0_0_0k h0_0_0c h0_3_0_e4_0k h0_3_0_e4_0c ts4 tv4 g_h0_3_0_e4_f1 g_h0_0_f1 g_h0_0_f2 g_h0_0_f3 a_h0_0_0c) (cwV 1 hts gf_c_X11_fault_c_X4_faultOf rfl rfl rfl mdV_X4_faultOf ⟨Nat.le_of_ble_eq_true rfl, Nat.le_of_ble_eq_true rfl⟩) ⟨fun a U g mk q => by obtain ⟨q0, q1, qP, qK, qD, qE0, qE1, qE2, qE3, qE4, qE5⟩ := q; exact ⟨q0, q1, qP, va_K.moved (u := U) (U := U.calling g mk a) (Vm.Alike.refl U.vm) qK, qD, vk_R.same rfl qE0, va_Z.moved (u := U) (U := U.calling g mk a) (Vm.Alike.refl U.vm) qE1, va_OF.moved (u := U) (U := U.calling g mk a) (Vm.Alike.refl U.vm) qE2, va_O.moved (u := U) (U := U.calling g mk a) (Vm.Alike.refl U.vm) qE3, va_OF.moved (u := U) (U := U.calling g mk a) (Vm.Alike.refl U.vm) qE4, va_T.moved (u := U) (U := U.calling g mk a) (Vm.Alike.refl U.vm) qE5⟩, hrv, fun U hU hW => ⟨rfl, by rw [hU], by rw [hU]; exact hPc, va_K.moved hW.alike hKc, hDc.weaken (fun _ _ _ _ => trivial), vk_R.warm hW hE_32, va_Z.moved hW.alike (by rw [hU]; exact (hE_10.kept hS.2.1).narrow hFc), va_OF.moved hW.alike (by rw [hU]; exact (hE_34.kept hS.2.1).narrow hFc), va_O.moved hW.alike (by rw [hU]; exact (hE_33.kept hS.2.1).narrow hFc), va_OF.moved hW.alike (by rw [hU]; exact (hE_35.kept hS.2.1).narrow hFc), va_T.moved hW.alike (by rw [hU]; exact (hE_36.kept hS.2.1).narrow hFc)⟩⟩ rfl rfl hl.1 rfl (lv_room (Nat.le_of_ble_eq_true rfl)) dX11_fault_51 ⟨Nat.le_of_ble_eq_true rfl, Nat.le_of_ble_eq_true rfl⟩) hS (fun q _ h => hFc q h) hFc (fun r_72 u t H1 locs ht hvm hw hB hz1 hk1 hS => ?_)
      as_aux_lemma =>
      obtain ⟨x_73, x_74, x_75, w_76⟩ := u
      obtain ⟨hP1, hK1, hD1⟩ := hB
      rw [ht] at hP1
      obtain ⟨hP, hD⟩ := cl_put (w1 := (wd_c_X4_faultOf h0_3_0_e4 h0_3_0_e4_0 x_73 h0_3_0_e4_2 h0_0 h0_0_0 h0_0_f1 x_74 x_75 h0_0_0 h0_0_0k h0_0_0c h0_3_0_e4_0 h0_3_0_e4_0k w_76)) (nw := (wd_c_X11_fault h0 h0_0 h0_1 h0_2 h0_3 h0_4 h0_f5 h0_6 h0_7 h0_8 h0_9 h0_10 h0_11 h0_12 h0_13 h0_14 h0_f15 h0_2 h0_2_0 h0_2_f1 h0_2_f2 h0_2_f3 h0_2_0 h0_2_0k h0_2_0c h0_0 h0_0_0 h0_0_f1 x_74 x_75 h0_0_0 h0_0_0k h0_0_0c h0_3 h0_3_0 h0_3_f1 h0_3_f2 h0_3_3 h0_3_0 h0_3_0k h0_3_0c h0_3_0_e0 h0_3_0_e0_0 h0_3_0_e0_f1 h0_3_0_e0_2 h0_3_0_e0_0 h0_3_0_e0_0k h0_3_0_e0_0c h0_3_0_e1 h0_3_0_e1_0 h0_3_0_e1_f1 h0_3_0_e1_2 h0_3_0_e1_0 h0_3_0_e1_0k h0_3_0_e1_0c h0_3_0_e2 h0_3_0_e2_0 h0_3_0_e2_f1 h0_3_0_e2_2 h0_3_0_e2_0 h0_3_0_e2_0k h0_3_0_e2_0c h0_3_0_e3 h0_3_0_e3_0 h0_3_0_e3_f1 h0_3_0_e3_2 h0_3_0_e3_0 h0_3_0_e3_0k h0_3_0_e3_0c h0_3_0_e4 h0_3_0_e4_0 x_73 h0_3_0_e4_2 h0_3_0_e4_0 h0_3_0_e4_0k w_76 h0_4 h0_4k h0_4c h0_4_e0 h0_4_e0_0 h0_4_e0_f1 h0_4_e0_0 h0_4_e0_0k h0_4_e0_0c h0_4_e1 h0_4_e1_0 h0_4_e1_f1 h0_4_e1_0 h0_4_e1_0k h0_4_e1_0c h0_4_e2 h0_4_e2_0 h0_4_e2_f1 h0_4_e2_0 h0_4_e2_0k h0_4_e2_0c h0_4_e3 h0_4_e3_0 h0_4_e3_f1 h0_4_e3_0 h0_4_e3_0k h0_4_e3_0c h0_4_e4 h0_4_e4_0 h0_4_e4_f1 h0_4_e4_0 h0_4_e4_0k h0_4_e4_0c)) hP hD [15, 3, 4, 16] [0, 1, 2, 29, 30, 5, 6, 7, 8, 9, 10, 11, 12, 13, 14, 28, 31, 17, 18, 19, 20, 21, 22, 23, 24, 25, 26, 27] 28 rfl hqc (by decide +kernel) rfl hk1 hFc hP1 hD1
      generalize H1 = H at hP hS ⊢
      as_aux_lemma =>
      rcases hw with ⟨h_77, h_78, h_79, h_80, h_81⟩
      have h_81 : (r_72, x_73, x_74, x_75, w_76) = _ := h_81
      replace hEX := hEX.trans (exc5_eq h_81)
      have hK9 := hK.sub (tys' := []) [] rfl
      exact W.iret (v := r_72) hx hb hr (fun t ht hW => ⟨⟨r_72, (h0_2_f1, h0_2_f2, h0_2_f3, h0_2_0c, x_74, x_75, h0_3_0_e0_f1, h0_3_0_e0_0c, h0_3_0_e1_f1, h0_3_0_e1_0c, h0_3_0_e2_f1, h0_3_0_e2_0c, h0_3_0_e3_f1, h0_3_0_e3_0c, x_73, w_76, h0_4_e0_f1, h0_4_e0_0c, h0_4_e1_f1, h0_4_e1_0c, h0_4_e2_f1, h0_4_e2_0c, h0_4_e3_f1, h0_4_e3_0c, h0_4_e4_f1, h0_4_e4_0c), rfl, (Or.inr ⟨h_77, g_h0_2_f1, g_h0_2_f2, g_h0_2_f3, a_h0_2_0c, h_79, h_80, g_h0_3_0_e0_f1, g_h0_3_0_e1_f1, g_h0_3_0_e2_f1, g_h0_3_0_e3_f1, h_78, g_h0_4_e0_f1, a_h0_4_e0_0c, g_h0_4_e1_f1, a_h0_4_e1_0c, g_h0_4_e2_f1, a_h0_4_e2_0c, g_h0_4_e3_f1, a_h0_4_e3_0c, g_h0_4_e4_f1, a_h0_4_e4_0c, (RG_w g_19 (by decide +kernel)), (hR.trans hEX).symm⟩), by rw [ht]; exact hP, va_K.moved hW.alike hK9, hD⟩, hS.F ht⟩) hS.2.2 dX11_fault_54
  replace hEX := hEX.trans (if_neg c_18)
  by_cases c_82 : p1 = 2
  · have hsw : p1.toInt = 2 := by rw [c_82]; rfl
    refine lv_tableIn (off := 54) (tgt := 55) hx hb dX11_fault_1 (by rw [hsw]; decide) (by rw [hsw]; decide) (by rw [hsw]; decide) (by decide +kernel) ?_
    replace hEX := hEX.trans (if_pos c_82)
    have g_83 : RG p1 2 2 := RG_k _ _ hsw
    refine lv_aload_n hx hb dX11_fault_55 rfl (lv_at hl 0 rfl) ?_
    refine va_get (D := (dC, dI)) (ci := 11) (v := .ref h0_4) (C := RX11) (T := TX11) (N := 16) hx hb hts iw_c_X11_fault_X11 hown hK hP 0 rfl rfl 4 (by decide +kernel) (hts (.fieldLink RX11 35 "BuoyVote" "plans" "[LBuoyVote$Plan;") (List.mem_of_getElem? (i := 203) rfl)) (fun _ h9 => h9) rfl dX11_fault_56 ?_
    refine lv_aload_n hx hb dX11_fault_59 rfl (lv_at hl 0 rfl) ?_
    as_aux_lemma =>
    refine va_get (D := (dC, dI)) (ci := 11) (v := .int h0_f5) (C := RX11) (T := TX11) (N := 16) hx hb hts iw_c_X11_fault_X11 hown hK hP 0 rfl rfl 5 (by decide +kernel) (hts (.fieldLink RX11 126 "BuoyVote" "planCount" "I") (List.mem_of_getElem? (i := 204) rfl)) (fun _ h9 => h9) rfl dX11_fault_60 ?_
    by_cases c_84 : h0_f5 = 0
    · refine W.eq (g2 := F0 m 63 ls [.int 0, .ref h0_4]) (by rw [c_84]) ?_
      replace hEX := hEX.trans (if_pos c_84)
      have g_85 : RG h0_f5 0 0 := RG_k _ _ (by rw [c_84]; rfl)
      refine va_aldq hx hb hK hP 17 8 rfl rfl (by unfold vp_in; decide) dX11_fault_63 ?_
      rw [show h0_4c (0 : Int32).toNatClampNeg = some h0_4_e0 from e_h0_4_e0]
      refine W.eq (g2 := F0 m 64 ls [.ref h0_4_e0]) rfl ?_
      refine lv_aload_n hx hb dX11_fault_64 rfl (lv_at hl 0 rfl) ?_
      refine va_get (D := (dC, dI)) (ci := 11) (v := .ref h0_0) (C := RX11) (T := TX11) (N := 16) hx hb hts iw_c_X11_fault_X11 hown hK hP 0 rfl rfl 0 (by decide +kernel) (hts (.fieldLink RX11 10 "BuoyVote" "tape" "LBuoyVote$Tape;") (List.mem_of_getElem? (i := 2) rfl)) (fun _ h9 => h9) rfl dX11_fault_65 ?_
      obtain ⟨hPc, hDc, hFc, hqc⟩ := cl_cut (wc := (wd_c_X6_faultOf h0_4_e0 h0_4_e0_0 h0_4_e0_f1 h0_0 h0_0_0 h0_0_f1 h0_0_f2 h0_0_f3 h0_0_0 h0_0_0k h0_0_0c h0_4_e0_0 h0_4_e0_0k h0_4_e0_0c)) hP hD hS hA [18, 3, 4, 19] (by decide +kernel) rfl
      have hKc := hK.sub (tys' := [(h0_0_0k, .int), (h0_4_e0_0k, .int)]) [1, 9] rfl
      have hrv := va_recv hKc hPc (ci := 6) (q0 := 0) rfl rfl
      refine va_calli (va_runV (As := [.ref h0_0]) (rest := []) ⟨hx, hb, hml, hown, hts⟩ (c_X6_faultOf l dC dI H.size h0_4_e0 h0_0 h0_4_e0_0 h0_4_e0_f1 h0_0_0 h0_0_f1 h0_0_f2 h0_0_f3 h0_0_0k h0_0_0c h0_4_e0_0k h0_4_e0_0c ts5 tv5 ta4 g_h0_4_e0_f1 g_h0_0_f1 g_h0_0_f2 g_h0_0_f3 a_h0_0_0c a_h0_4_e0_0c) (cwV 1 hts gf_c_X11_fault_c_X6_faultOf rfl rfl rfl mdV_X6_faultOf ⟨Nat.le_of_ble_eq_true rfl, Nat.le_of_ble_eq_true rfl⟩) ⟨fun a U g mk q => by obtain ⟨q0, q1, qP, qK, qD, qE0, qE1, qE2, qE3, qE4, qE5, qE6, qE7⟩ := q; exact ⟨q0, q1, qP, va_K.moved (u := U) (U := U.calling g mk a) (Vm.Alike.refl U.vm) qK, qD, vk_R.same rfl qE0, va_Z.moved (u := U) (U := U.calling g mk a) (Vm.Alike.refl U.vm) qE1, va_OF.moved (u := U) (U := U.calling g mk a) (Vm.Alike.refl U.vm) qE2, va_O.moved (u := U) (U := U.calling g mk a) (Vm.Alike.refl U.vm) qE3, va_OF.moved (u := U) (U := U.calling g mk a) (Vm.Alike.refl U.vm) qE4, va_T.moved (u := U) (U := U.calling g mk a) (Vm.Alike.refl U.vm) qE5, va_Z.moved (u := U) (U := U.calling g mk a) (Vm.Alike.refl U.vm) qE6, va_T.moved (u := U) (U := U.calling g mk a) (Vm.Alike.refl U.vm) qE7⟩, hrv, fun U hU hW => ⟨rfl, by rw [hU], by rw [hU]; exact hPc, va_K.moved hW.alike hKc, hDc.weaken (fun _ _ _ _ => trivial), vk_R.warm hW hE_37, va_Z.moved hW.alike (by rw [hU]; exact (hE_10.kept hS.2.1).narrow hFc), va_OF.moved hW.alike (by rw [hU]; exact (hE_39.kept hS.2.1).narrow hFc), va_O.moved hW.alike (by rw [hU]; exact (hE_38.kept hS.2.1).narrow hFc), va_OF.moved hW.alike (by rw [hU]; exact (hE_40.kept hS.2.1).narrow hFc), va_T.moved hW.alike (by rw [hU]; exact (hE_41.kept hS.2.1).narrow hFc), va_Z.moved hW.alike (by rw [hU]; exact (hE_8.kept hS.2.1).narrow hFc), va_T.moved hW.alike (by rw [hU]; exact (hE_9.kept hS.2.1).narrow hFc)⟩⟩ rfl rfl hl.1 rfl (lv_room (Nat.le_of_ble_eq_true rfl)) dX11_fault_68 ⟨Nat.le_of_ble_eq_true rfl, Nat.le_of_ble_eq_true rfl⟩) hS (fun q _ h => hFc q h) hFc (fun r_86 u t H1 locs ht hvm hw hB hz1 hk1 hS => ?_)
      as_aux_lemma =>
      obtain ⟨x_87, x_88, x_89, w_90⟩ := u
      obtain ⟨hP1, hK1, hD1⟩ := hB
      rw [ht] at hP1
      obtain ⟨hP, hD⟩ := cl_put (w1 := (wd_c_X6_faultOf h0_4_e0 h0_4_e0_0 x_87 h0_0 h0_0_0 h0_0_f1 x_88 x_89 h0_0_0 h0_0_0k h0_0_0c h0_4_e0_0 h0_4_e0_0k w_90)) (nw := (wd_c_X11_fault h0 h0_0 h0_1 h0_2 h0_3 h0_4 h0_f5 h0_6 h0_7 h0_8 h0_9 h0_10 h0_11 h0_12 h0_13 h0_14 h0_f15 h0_2 h0_2_0 h0_2_f1 h0_2_f2 h0_2_f3 h0_2_0 h0_2_0k h0_2_0c h0_0 h0_0_0 h0_0_f1 x_88 x_89 h0_0_0 h0_0_0k h0_0_0c h0_3 h0_3_0 h0_3_f1 h0_3_f2 h0_3_3 h0_3_0 h0_3_0k h0_3_0c h0_3_0_e0 h0_3_0_e0_0 h0_3_0_e0_f1 h0_3_0_e0_2 h0_3_0_e0_0 h0_3_0_e0_0k h0_3_0_e0_0c h0_3_0_e1 h0_3_0_e1_0 h0_3_0_e1_f1 h0_3_0_e1_2 h0_3_0_e1_0 h0_3_0_e1_0k h0_3_0_e1_0c h0_3_0_e2 h0_3_0_e2_0 h0_3_0_e2_f1 h0_3_0_e2_2 h0_3_0_e2_0 h0_3_0_e2_0k h0_3_0_e2_0c h0_3_0_e3 h0_3_0_e3_0 h0_3_0_e3_f1 h0_3_0_e3_2 h0_3_0_e3_0 h0_3_0_e3_0k h0_3_0_e3_0c h0_3_0_e4 h0_3_0_e4_0 h0_3_0_e4_f1 h0_3_0_e4_2 h0_3_0_e4_0 h0_3_0_e4_0k h0_3_0_e4_0c h0_4 h0_4k h0_4c h0_4_e0 h0_4_e0_0 x_87 h0_4_e0_0 h0_4_e0_0k w_90 h0_4_e1 h0_4_e1_0 h0_4_e1_f1 h0_4_e1_0 h0_4_e1_0k h0_4_e1_0c h0_4_e2 h0_4_e2_0 h0_4_e2_f1 h0_4_e2_0 h0_4_e2_0k h0_4_e2_0c h0_4_e3 h0_4_e3_0 h0_4_e3_f1 h0_4_e3_0 h0_4_e3_0k h0_4_e3_0c h0_4_e4 h0_4_e4_0 h0_4_e4_f1 h0_4_e4_0 h0_4_e4_0k h0_4_e4_0c)) hP hD [18, 3, 4, 19] [0, 1, 2, 29, 30, 5, 6, 7, 8, 9, 10, 11, 12, 13, 14, 15, 16, 17, 28, 31, 20, 21, 22, 23, 24, 25, 26, 27] 28 rfl hqc (by decide +kernel) rfl hk1 hFc hP1 hD1
      generalize H1 = H at hP hS ⊢
      as_aux_lemma =>
      rcases hw with ⟨h_91, h_92, h_93, h_94, h_95, h_96⟩
      have h_96 : (r_86, x_87, x_88, x_89, w_90) = _ := h_96
      replace hEX := hEX.trans (exc5_eq h_96)
      have hK9 := hK.sub (tys' := []) [] rfl
      exact W.iret (v := r_86) hx hb hr (fun t ht hW => ⟨⟨r_86, (h0_2_f1, h0_2_f2, h0_2_f3, h0_2_0c, x_88, x_89, h0_3_0_e0_f1, h0_3_0_e0_0c, h0_3_0_e1_f1, h0_3_0_e1_0c, h0_3_0_e2_f1, h0_3_0_e2_0c, h0_3_0_e3_f1, h0_3_0_e3_0c, h0_3_0_e4_f1, h0_3_0_e4_0c, x_87, w_90, h0_4_e1_f1, h0_4_e1_0c, h0_4_e2_f1, h0_4_e2_0c, h0_4_e3_f1, h0_4_e3_0c, h0_4_e4_f1, h0_4_e4_0c), rfl, (Or.inr ⟨h_91, g_h0_2_f1, g_h0_2_f2, g_h0_2_f3, a_h0_2_0c, h_93, h_94, g_h0_3_0_e0_f1, g_h0_3_0_e1_f1, g_h0_3_0_e2_f1, g_h0_3_0_e3_f1, g_h0_3_0_e4_f1, h_92, h_95, g_h0_4_e1_f1, a_h0_4_e1_0c, g_h0_4_e2_f1, a_h0_4_e2_0c, g_h0_4_e3_f1, a_h0_4_e3_0c, g_h0_4_e4_f1, a_h0_4_e4_0c, (RG_w g_83 (by decide +kernel)), (hR.trans hEX).symm⟩), by rw [ht]; exact hP, va_K.moved hW.alike hK9, hD⟩, hS.F ht⟩) hS.2.2 dX11_fault_71
    replace hEX := hEX.trans (if_neg c_84)
    by_cases c_97 : h0_f5 = 1
    · refine W.eq (g2 := F0 m 63 ls [.int 1, .ref h0_4]) (by rw [c_97]) ?_
      replace hEX := hEX.trans (if_pos c_97)
      have g_98 : RG h0_f5 1 1 := RG_k _ _ (by rw [c_97]; rfl)
      refine va_aldq hx hb hK hP 17 8 rfl rfl (by unfold vp_in; decide) dX11_fault_63 ?_
      rw [show h0_4c (1 : Int32).toNatClampNeg = some h0_4_e1 from e_h0_4_e1]
      refine W.eq (g2 := F0 m 64 ls [.ref h0_4_e1]) rfl ?_
      refine lv_aload_n hx hb dX11_fault_64 rfl (lv_at hl 0 rfl) ?_
      as_aux_lemma =>
      refine va_get (D := (dC, dI)) (ci := 11) (v := .ref h0_0) (C := RX11) (T := TX11) (N := 16) hx hb hts iw_c_X11_fault_X11 hown hK hP 0 rfl rfl 0 (by decide +kernel) (hts (.fieldLink RX11 10 "BuoyVote" "tape" "LBuoyVote$Tape;") (List.mem_of_getElem? (i := 2) rfl)) (fun _ h9 => h9) rfl dX11_fault_65 ?_
      obtain ⟨hPc, hDc, hFc, hqc⟩ := cl_cut (wc := (wd_c_X6_faultOf h0_4_e1 h0_4_e1_0 h0_4_e1_f1 h0_0 h0_0_0 h0_0_f1 h0_0_f2 h0_0_f3 h0_0_0 h0_0_0k h0_0_0c h0_4_e1_0 h0_4_e1_0k h0_4_e1_0c)) hP hD hS hA [20, 3, 4, 21] (by decide +kernel) rfl
      have hKc := hK.sub (tys' := [(h0_0_0k, .int), (h0_4_e1_0k, .int)]) [1, 10] rfl
      have hrv := va_recv hKc hPc (ci := 6) (q0 := 0) rfl rfl
      refine va_calli (va_runV (As := [.ref h0_0]) (rest := []) ⟨hx, hb, hml, hown, hts⟩ (c_X6_faultOf l dC dI H.size h0_4_e1 h0_0 h0_4_e1_0 h0_4_e1_f1 h0_0_0 h0_0_f1 h0_0_f2 h0_0_f3 h0_0_0k h0_0_0c h0_4_e1_0k h0_4_e1_0c ts5 tv5 ta4 g_h0_4_e1_f1 g_h0_0_f1 g_h0_0_f2 g_h0_0_f3 a_h0_0_0c a_h0_4_e1_0c) (cwV 1 hts gf_c_X11_fault_c_X6_faultOf rfl rfl rfl mdV_X6_faultOf ⟨Nat.le_of_ble_eq_true rfl, Nat.le_of_ble_eq_true rfl⟩) ⟨fun a U g mk q => by obtain ⟨q0, q1, qP, qK, qD, qE0, qE1, qE2, qE3, qE4, qE5, qE6, qE7⟩ := q; exact ⟨q0, q1, qP, va_K.moved (u := U) (U := U.calling g mk a) (Vm.Alike.refl U.vm) qK, qD, vk_R.same rfl qE0, va_Z.moved (u := U) (U := U.calling g mk a) (Vm.Alike.refl U.vm) qE1, va_OF.moved (u := U) (U := U.calling g mk a) (Vm.Alike.refl U.vm) qE2, va_O.moved (u := U) (U := U.calling g mk a) (Vm.Alike.refl U.vm) qE3, va_OF.moved (u := U) (U := U.calling g mk a) (Vm.Alike.refl U.vm) qE4, va_T.moved (u := U) (U := U.calling g mk a) (Vm.Alike.refl U.vm) qE5, va_Z.moved (u := U) (U := U.calling g mk a) (Vm.Alike.refl U.vm) qE6, va_T.moved (u := U) (U := U.calling g mk a) (Vm.Alike.refl U.vm) qE7⟩, hrv, fun U hU hW => ⟨rfl, by rw [hU], by rw [hU]; exact hPc, va_K.moved hW.alike hKc, hDc.weaken (fun _ _ _ _ => trivial), vk_R.warm hW hE_37, va_Z.moved hW.alike (by rw [hU]; exact (hE_10.kept hS.2.1).narrow hFc), va_OF.moved hW.alike (by rw [hU]; exact (hE_39.kept hS.2.1).narrow hFc), va_O.moved hW.alike (by rw [hU]; exact (hE_38.kept hS.2.1).narrow hFc), va_OF.moved hW.alike (by rw [hU]; exact (hE_40.kept hS.2.1).narrow hFc), va_T.moved hW.alike (by rw [hU]; exact (hE_41.kept hS.2.1).narrow hFc), va_Z.moved hW.alike (by rw [hU]; exact (hE_8.kept hS.2.1).narrow hFc), va_T.moved hW.alike (by rw [hU]; exact (hE_9.kept hS.2.1).narrow hFc)⟩⟩ rfl rfl hl.1 rfl (lv_room (Nat.le_of_ble_eq_true rfl)) dX11_fault_68 ⟨Nat.le_of_ble_eq_true rfl, Nat.le_of_ble_eq_true rfl⟩) hS (fun q _ h => hFc q h) hFc (fun r_99 u t H1 locs ht hvm hw hB hz1 hk1 hS => ?_)
      obtain ⟨x_100, x_101, x_102, w_103⟩ := u
      obtain ⟨hP1, hK1, hD1⟩ := hB
      rw [ht] at hP1
      obtain ⟨hP, hD⟩ := cl_put (w1 := (wd_c_X6_faultOf h0_4_e1 h0_4_e1_0 x_100 h0_0 h0_0_0 h0_0_f1 x_101 x_102 h0_0_0 h0_0_0k h0_0_0c h0_4_e1_0 h0_4_e1_0k w_103)) (nw := (wd_c_X11_fault h0 h0_0 h0_1 h0_2 h0_3 h0_4 h0_f5 h0_6 h0_7 h0_8 h0_9 h0_10 h0_11 h0_12 h0_13 h0_14 h0_f15 h0_2 h0_2_0 h0_2_f1 h0_2_f2 h0_2_f3 h0_2_0 h0_2_0k h0_2_0c h0_0 h0_0_0 h0_0_f1 x_101 x_102 h0_0_0 h0_0_0k h0_0_0c h0_3 h0_3_0 h0_3_f1 h0_3_f2 h0_3_3 h0_3_0 h0_3_0k h0_3_0c h0_3_0_e0 h0_3_0_e0_0 h0_3_0_e0_f1 h0_3_0_e0_2 h0_3_0_e0_0 h0_3_0_e0_0k h0_3_0_e0_0c h0_3_0_e1 h0_3_0_e1_0 h0_3_0_e1_f1 h0_3_0_e1_2 h0_3_0_e1_0 h0_3_0_e1_0k h0_3_0_e1_0c h0_3_0_e2 h0_3_0_e2_0 h0_3_0_e2_f1 h0_3_0_e2_2 h0_3_0_e2_0 h0_3_0_e2_0k h0_3_0_e2_0c h0_3_0_e3 h0_3_0_e3_0 h0_3_0_e3_f1 h0_3_0_e3_2 h0_3_0_e3_0 h0_3_0_e3_0k h0_3_0_e3_0c h0_3_0_e4 h0_3_0_e4_0 h0_3_0_e4_f1 h0_3_0_e4_2 h0_3_0_e4_0 h0_3_0_e4_0k h0_3_0_e4_0c h0_4 h0_4k h0_4c h0_4_e0 h0_4_e0_0 h0_4_e0_f1 h0_4_e0_0 h0_4_e0_0k h0_4_e0_0c h0_4_e1 h0_4_e1_0 x_100 h0_4_e1_0 h0_4_e1_0k w_103 h0_4_e2 h0_4_e2_0 h0_4_e2_f1 h0_4_e2_0 h0_4_e2_0k h0_4_e2_0c h0_4_e3 h0_4_e3_0 h0_4_e3_f1 h0_4_e3_0 h0_4_e3_0k h0_4_e3_0c h0_4_e4 h0_4_e4_0 h0_4_e4_f1 h0_4_e4_0 h0_4_e4_0k h0_4_e4_0c)) hP hD [20, 3, 4, 21] [0, 1, 2, 29, 30, 5, 6, 7, 8, 9, 10, 11, 12, 13, 14, 15, 16, 17, 18, 19, 28, 31, 22, 23, 24, 25, 26, 27] 28 rfl hqc (by decide +kernel) rfl hk1 hFc hP1 hD1
      generalize H1 = H at hP hS ⊢
      as_aux_lemma =>
      rcases hw with ⟨h_104, h_105, h_106, h_107, h_108, h_109⟩
      have h_109 : (r_99, x_100, x_101, x_102, w_103) = _ := h_109
      replace hEX := hEX.trans (exc5_eq h_109)
      have hK9 := hK.sub (tys' := []) [] rfl
      exact W.iret (v := r_99) hx hb hr (fun t ht hW => ⟨⟨r_99, (h0_2_f1, h0_2_f2, h0_2_f3, h0_2_0c, x_101, x_102, h0_3_0_e0_f1, h0_3_0_e0_0c, h0_3_0_e1_f1, h0_3_0_e1_0c, h0_3_0_e2_f1, h0_3_0_e2_0c, h0_3_0_e3_f1, h0_3_0_e3_0c, h0_3_0_e4_f1, h0_3_0_e4_0c, h0_4_e0_f1, h0_4_e0_0c, x_100, w_103, h0_4_e2_f1, h0_4_e2_0c, h0_4_e3_f1, h0_4_e3_0c, h0_4_e4_f1, h0_4_e4_0c), rfl, (Or.inr ⟨h_104, g_h0_2_f1, g_h0_2_f2, g_h0_2_f3, a_h0_2_0c, h_106, h_107, g_h0_3_0_e0_f1, g_h0_3_0_e1_f1, g_h0_3_0_e2_f1, g_h0_3_0_e3_f1, g_h0_3_0_e4_f1, g_h0_4_e0_f1, a_h0_4_e0_0c, h_105, h_108, g_h0_4_e2_f1, a_h0_4_e2_0c, g_h0_4_e3_f1, a_h0_4_e3_0c, g_h0_4_e4_f1, a_h0_4_e4_0c, (RG_w g_83 (by decide +kernel)), (hR.trans hEX).symm⟩), by rw [ht]; exact hP, va_K.moved hW.alike hK9, hD⟩, hS.F ht⟩) hS.2.2 dX11_fault_71
    replace hEX := hEX.trans (if_neg c_97)
    by_cases c_110 : h0_f5 = 2
    · refine W.eq (g2 := F0 m 63 ls [.int 2, .ref h0_4]) (by rw [c_110]) ?_
      replace hEX := hEX.trans (if_pos c_110)
      have g_111 : RG h0_f5 2 2 := RG_k _ _ (by rw [c_110]; rfl)
      refine va_aldq hx hb hK hP 17 8 rfl rfl (by unfold vp_in; decide) dX11_fault_63 ?_
      rw [show h0_4c (2 : Int32).toNatClampNeg = some h0_4_e2 from e_h0_4_e2]
      refine W.eq (g2 := F0 m 64 ls [.ref h0_4_e2]) rfl ?_
      refine lv_aload_n hx hb dX11_fault_64 rfl (lv_at hl 0 rfl) ?_
      as_aux_lemma =>
      refine va_get (D := (dC, dI)) (ci := 11) (v := .ref h0_0) (C := RX11) (T := TX11) (N := 16) hx hb hts iw_c_X11_fault_X11 hown hK hP 0 rfl rfl 0 (by decide +kernel) (hts (.fieldLink RX11 10 "BuoyVote" "tape" "LBuoyVote$Tape;") (List.mem_of_getElem? (i := 2) rfl)) (fun _ h9 => h9) rfl dX11_fault_65 ?_
      obtain ⟨hPc, hDc, hFc, hqc⟩ := cl_cut (wc := (wd_c_X6_faultOf h0_4_e2 h0_4_e2_0 h0_4_e2_f1 h0_0 h0_0_0 h0_0_f1 h0_0_f2 h0_0_f3 h0_0_0 h0_0_0k h0_0_0c h0_4_e2_0 h0_4_e2_0k h0_4_e2_0c)) hP hD hS hA [22, 3, 4, 23] (by decide +kernel) rfl
      have hKc := hK.sub (tys' := [(h0_0_0k, .int), (h0_4_e2_0k, .int)]) [1, 11] rfl
      have hrv := va_recv hKc hPc (ci := 6) (q0 := 0) rfl rfl
      refine va_calli (va_runV (As := [.ref h0_0]) (rest := []) ⟨hx, hb, hml, hown, hts⟩ (c_X6_faultOf l dC dI H.size h0_4_e2 h0_0 h0_4_e2_0 h0_4_e2_f1 h0_0_0 h0_0_f1 h0_0_f2 h0_0_f3 h0_0_0k h0_0_0c h0_4_e2_0k h0_4_e2_0c ts5 tv5 ta4 g_h0_4_e2_f1 g_h0_0_f1 g_h0_0_f2 g_h0_0_f3 a_h0_0_0c a_h0_4_e2_0c) (cwV 1 hts gf_c_X11_fault_c_X6_faultOf rfl rfl rfl mdV_X6_faultOf ⟨Nat.le_of_ble_eq_true rfl, Nat.le_of_ble_eq_true rfl⟩) ⟨fun a U g mk q => by obtain ⟨q0, q1, qP, qK, qD, qE0, qE1, qE2, qE3, qE4, qE5, qE6, qE7⟩ := q; exact ⟨q0, q1, qP, va_K.moved (u := U) (U := U.calling g mk a) (Vm.Alike.refl U.vm) qK, qD, vk_R.same rfl qE0, va_Z.moved (u := U) (U := U.calling g mk a) (Vm.Alike.refl U.vm) qE1, va_OF.moved (u := U) (U := U.calling g mk a) (Vm.Alike.refl U.vm) qE2, va_O.moved (u := U) (U := U.calling g mk a) (Vm.Alike.refl U.vm) qE3, va_OF.moved (u := U) (U := U.calling g mk a) (Vm.Alike.refl U.vm) qE4, va_T.moved (u := U) (U := U.calling g mk a) (Vm.Alike.refl U.vm) qE5, va_Z.moved (u := U) (U := U.calling g mk a) (Vm.Alike.refl U.vm) qE6, va_T.moved (u := U) (U := U.calling g mk a) (Vm.Alike.refl U.vm) qE7⟩, hrv, fun U hU hW => ⟨rfl, by rw [hU], by rw [hU]; exact hPc, va_K.moved hW.alike hKc, hDc.weaken (fun _ _ _ _ => trivial), vk_R.warm hW hE_37, va_Z.moved hW.alike (by rw [hU]; exact (hE_10.kept hS.2.1).narrow hFc), va_OF.moved hW.alike (by rw [hU]; exact (hE_39.kept hS.2.1).narrow hFc), va_O.moved hW.alike (by rw [hU]; exact (hE_38.kept hS.2.1).narrow hFc), va_OF.moved hW.alike (by rw [hU]; exact (hE_40.kept hS.2.1).narrow hFc), va_T.moved hW.alike (by rw [hU]; exact (hE_41.kept hS.2.1).narrow hFc), va_Z.moved hW.alike (by rw [hU]; exact (hE_8.kept hS.2.1).narrow hFc), va_T.moved hW.alike (by rw [hU]; exact (hE_9.kept hS.2.1).narrow hFc)⟩⟩ rfl rfl hl.1 rfl (lv_room (Nat.le_of_ble_eq_true rfl)) dX11_fault_68 ⟨Nat.le_of_ble_eq_true rfl, Nat.le_of_ble_eq_true rfl⟩) hS (fun q _ h => hFc q h) hFc (fun r_112 u t H1 locs ht hvm hw hB hz1 hk1 hS => ?_)
      obtain ⟨x_113, x_114, x_115, w_116⟩ := u
      obtain ⟨hP1, hK1, hD1⟩ := hB
      rw [ht] at hP1
      obtain ⟨hP, hD⟩ := cl_put (w1 := (wd_c_X6_faultOf h0_4_e2 h0_4_e2_0 x_113 h0_0 h0_0_0 h0_0_f1 x_114 x_115 h0_0_0 h0_0_0k h0_0_0c h0_4_e2_0 h0_4_e2_0k w_116)) (nw := (wd_c_X11_fault h0 h0_0 h0_1 h0_2 h0_3 h0_4 h0_f5 h0_6 h0_7 h0_8 h0_9 h0_10 h0_11 h0_12 h0_13 h0_14 h0_f15 h0_2 h0_2_0 h0_2_f1 h0_2_f2 h0_2_f3 h0_2_0 h0_2_0k h0_2_0c h0_0 h0_0_0 h0_0_f1 x_114 x_115 h0_0_0 h0_0_0k h0_0_0c h0_3 h0_3_0 h0_3_f1 h0_3_f2 h0_3_3 h0_3_0 h0_3_0k h0_3_0c h0_3_0_e0 h0_3_0_e0_0 h0_3_0_e0_f1 h0_3_0_e0_2 h0_3_0_e0_0 h0_3_0_e0_0k h0_3_0_e0_0c h0_3_0_e1 h0_3_0_e1_0 h0_3_0_e1_f1 h0_3_0_e1_2 h0_3_0_e1_0 h0_3_0_e1_0k h0_3_0_e1_0c h0_3_0_e2 h0_3_0_e2_0 h0_3_0_e2_f1 h0_3_0_e2_2 h0_3_0_e2_0 h0_3_0_e2_0k h0_3_0_e2_0c h0_3_0_e3 h0_3_0_e3_0 h0_3_0_e3_f1 h0_3_0_e3_2 h0_3_0_e3_0 h0_3_0_e3_0k h0_3_0_e3_0c h0_3_0_e4 h0_3_0_e4_0 h0_3_0_e4_f1 h0_3_0_e4_2 h0_3_0_e4_0 h0_3_0_e4_0k h0_3_0_e4_0c h0_4 h0_4k h0_4c h0_4_e0 h0_4_e0_0 h0_4_e0_f1 h0_4_e0_0 h0_4_e0_0k h0_4_e0_0c h0_4_e1 h0_4_e1_0 h0_4_e1_f1 h0_4_e1_0 h0_4_e1_0k h0_4_e1_0c h0_4_e2 h0_4_e2_0 x_113 h0_4_e2_0 h0_4_e2_0k w_116 h0_4_e3 h0_4_e3_0 h0_4_e3_f1 h0_4_e3_0 h0_4_e3_0k h0_4_e3_0c h0_4_e4 h0_4_e4_0 h0_4_e4_f1 h0_4_e4_0 h0_4_e4_0k h0_4_e4_0c)) hP hD [22, 3, 4, 23] [0, 1, 2, 29, 30, 5, 6, 7, 8, 9, 10, 11, 12, 13, 14, 15, 16, 17, 18, 19, 20, 21, 28, 31, 24, 25, 26, 27] 28 rfl hqc (by decide +kernel) rfl hk1 hFc hP1 hD1
      generalize H1 = H at hP hS ⊢
      as_aux_lemma =>
      rcases hw with ⟨h_117, h_118, h_119, h_120, h_121, h_122⟩
      have h_122 : (r_112, x_113, x_114, x_115, w_116) = _ := h_122
      replace hEX := hEX.trans (exc5_eq h_122)
      have hK9 := hK.sub (tys' := []) [] rfl
      exact W.iret (v := r_112) hx hb hr (fun t ht hW => ⟨⟨r_112, (h0_2_f1, h0_2_f2, h0_2_f3, h0_2_0c, x_114, x_115, h0_3_0_e0_f1, h0_3_0_e0_0c, h0_3_0_e1_f1, h0_3_0_e1_0c, h0_3_0_e2_f1, h0_3_0_e2_0c, h0_3_0_e3_f1, h0_3_0_e3_0c, h0_3_0_e4_f1, h0_3_0_e4_0c, h0_4_e0_f1, h0_4_e0_0c, h0_4_e1_f1, h0_4_e1_0c, x_113, w_116, h0_4_e3_f1, h0_4_e3_0c, h0_4_e4_f1, h0_4_e4_0c), rfl, (Or.inr ⟨h_117, g_h0_2_f1, g_h0_2_f2, g_h0_2_f3, a_h0_2_0c, h_119, h_120, g_h0_3_0_e0_f1, g_h0_3_0_e1_f1, g_h0_3_0_e2_f1, g_h0_3_0_e3_f1, g_h0_3_0_e4_f1, g_h0_4_e0_f1, a_h0_4_e0_0c, g_h0_4_e1_f1, a_h0_4_e1_0c, h_118, h_121, g_h0_4_e3_f1, a_h0_4_e3_0c, g_h0_4_e4_f1, a_h0_4_e4_0c, (RG_w g_83 (by decide +kernel)), (hR.trans hEX).symm⟩), by rw [ht]; exact hP, va_K.moved hW.alike hK9, hD⟩, hS.F ht⟩) hS.2.2 dX11_fault_71
    replace hEX := hEX.trans (if_neg c_110)
    by_cases c_123 : h0_f5 = 3
    · refine W.eq (g2 := F0 m 63 ls [.int 3, .ref h0_4]) (by rw [c_123]) ?_
      replace hEX := hEX.trans (if_pos c_123)
      have g_124 : RG h0_f5 3 3 := RG_k _ _ (by rw [c_123]; rfl)
      refine va_aldq hx hb hK hP 17 8 rfl rfl (by unfold vp_in; decide) dX11_fault_63 ?_
      rw [show h0_4c (3 : Int32).toNatClampNeg = some h0_4_e3 from e_h0_4_e3]
      refine W.eq (g2 := F0 m 64 ls [.ref h0_4_e3]) rfl ?_
      refine lv_aload_n hx hb dX11_fault_64 rfl (lv_at hl 0 rfl) ?_
      as_aux_lemma =>
      refine va_get (D := (dC, dI)) (ci := 11) (v := .ref h0_0) (C := RX11) (T := TX11) (N := 16) hx hb hts iw_c_X11_fault_X11 hown hK hP 0 rfl rfl 0 (by decide +kernel) (hts (.fieldLink RX11 10 "BuoyVote" "tape" "LBuoyVote$Tape;") (List.mem_of_getElem? (i := 2) rfl)) (fun _ h9 => h9) rfl dX11_fault_65 ?_
      obtain ⟨hPc, hDc, hFc, hqc⟩ := cl_cut (wc := (wd_c_X6_faultOf h0_4_e3 h0_4_e3_0 h0_4_e3_f1 h0_0 h0_0_0 h0_0_f1 h0_0_f2 h0_0_f3 h0_0_0 h0_0_0k h0_0_0c h0_4_e3_0 h0_4_e3_0k h0_4_e3_0c)) hP hD hS hA [24, 3, 4, 25] (by decide +kernel) rfl
      have hKc := hK.sub (tys' := [(h0_0_0k, .int), (h0_4_e3_0k, .int)]) [1, 12] rfl
      have hrv := va_recv hKc hPc (ci := 6) (q0 := 0) rfl rfl
      refine va_calli (va_runV (As := [.ref h0_0]) (rest := []) ⟨hx, hb, hml, hown, hts⟩ (c_X6_faultOf l dC dI H.size h0_4_e3 h0_0 h0_4_e3_0 h0_4_e3_f1 h0_0_0 h0_0_f1 h0_0_f2 h0_0_f3 h0_0_0k h0_0_0c h0_4_e3_0k h0_4_e3_0c ts5 tv5 ta4 g_h0_4_e3_f1 g_h0_0_f1 g_h0_0_f2 g_h0_0_f3 a_h0_0_0c a_h0_4_e3_0c) (cwV 1 hts gf_c_X11_fault_c_X6_faultOf rfl rfl rfl mdV_X6_faultOf ⟨Nat.le_of_ble_eq_true rfl, Nat.le_of_ble_eq_true rfl⟩) ⟨fun a U g mk q => by obtain ⟨q0, q1, qP, qK, qD, qE0, qE1, qE2, qE3, qE4, qE5, qE6, qE7⟩ := q; exact ⟨q0, q1, qP, va_K.moved (u := U) (U := U.calling g mk a) (Vm.Alike.refl U.vm) qK, qD, vk_R.same rfl qE0, va_Z.moved (u := U) (U := U.calling g mk a) (Vm.Alike.refl U.vm) qE1, va_OF.moved (u := U) (U := U.calling g mk a) (Vm.Alike.refl U.vm) qE2, va_O.moved (u := U) (U := U.calling g mk a) (Vm.Alike.refl U.vm) qE3, va_OF.moved (u := U) (U := U.calling g mk a) (Vm.Alike.refl U.vm) qE4, va_T.moved (u := U) (U := U.calling g mk a) (Vm.Alike.refl U.vm) qE5, va_Z.moved (u := U) (U := U.calling g mk a) (Vm.Alike.refl U.vm) qE6, va_T.moved (u := U) (U := U.calling g mk a) (Vm.Alike.refl U.vm) qE7⟩, hrv, fun U hU hW => ⟨rfl, by rw [hU], by rw [hU]; exact hPc, va_K.moved hW.alike hKc, hDc.weaken (fun _ _ _ _ => trivial), vk_R.warm hW hE_37, va_Z.moved hW.alike (by rw [hU]; exact (hE_10.kept hS.2.1).narrow hFc), va_OF.moved hW.alike (by rw [hU]; exact (hE_39.kept hS.2.1).narrow hFc), va_O.moved hW.alike (by rw [hU]; exact (hE_38.kept hS.2.1).narrow hFc), va_OF.moved hW.alike (by rw [hU]; exact (hE_40.kept hS.2.1).narrow hFc), va_T.moved hW.alike (by rw [hU]; exact (hE_41.kept hS.2.1).narrow hFc), va_Z.moved hW.alike (by rw [hU]; exact (hE_8.kept hS.2.1).narrow hFc), va_T.moved hW.alike (by rw [hU]; exact (hE_9.kept hS.2.1).narrow hFc)⟩⟩ rfl rfl hl.1 rfl (lv_room (Nat.le_of_ble_eq_true rfl)) dX11_fault_68 ⟨Nat.le_of_ble_eq_true rfl, Nat.le_of_ble_eq_true rfl⟩) hS (fun q _ h => hFc q h) hFc (fun r_125 u t H1 locs ht hvm hw hB hz1 hk1 hS => ?_)
      obtain ⟨x_126, x_127, x_128, w_129⟩ := u
      obtain ⟨hP1, hK1, hD1⟩ := hB
      rw [ht] at hP1
      obtain ⟨hP, hD⟩ := cl_put (w1 := (wd_c_X6_faultOf h0_4_e3 h0_4_e3_0 x_126 h0_0 h0_0_0 h0_0_f1 x_127 x_128 h0_0_0 h0_0_0k h0_0_0c h0_4_e3_0 h0_4_e3_0k w_129)) (nw := (wd_c_X11_fault h0 h0_0 h0_1 h0_2 h0_3 h0_4 h0_f5 h0_6 h0_7 h0_8 h0_9 h0_10 h0_11 h0_12 h0_13 h0_14 h0_f15 h0_2 h0_2_0 h0_2_f1 h0_2_f2 h0_2_f3 h0_2_0 h0_2_0k h0_2_0c h0_0 h0_0_0 h0_0_f1 x_127 x_128 h0_0_0 h0_0_0k h0_0_0c h0_3 h0_3_0 h0_3_f1 h0_3_f2 h0_3_3 h0_3_0 h0_3_0k h0_3_0c h0_3_0_e0 h0_3_0_e0_0 h0_3_0_e0_f1 h0_3_0_e0_2 h0_3_0_e0_0 h0_3_0_e0_0k h0_3_0_e0_0c h0_3_0_e1 h0_3_0_e1_0 h0_3_0_e1_f1 h0_3_0_e1_2 h0_3_0_e1_0 h0_3_0_e1_0k h0_3_0_e1_0c h0_3_0_e2 h0_3_0_e2_0 h0_3_0_e2_f1 h0_3_0_e2_2 h0_3_0_e2_0 h0_3_0_e2_0k h0_3_0_e2_0c h0_3_0_e3 h0_3_0_e3_0 h0_3_0_e3_f1 h0_3_0_e3_2 h0_3_0_e3_0 h0_3_0_e3_0k h0_3_0_e3_0c h0_3_0_e4 h0_3_0_e4_0 h0_3_0_e4_f1 h0_3_0_e4_2 h0_3_0_e4_0 h0_3_0_e4_0k h0_3_0_e4_0c h0_4 h0_4k h0_4c h0_4_e0 h0_4_e0_0 h0_4_e0_f1 h0_4_e0_0 h0_4_e0_0k h0_4_e0_0c h0_4_e1 h0_4_e1_0 h0_4_e1_f1 h0_4_e1_0 h0_4_e1_0k h0_4_e1_0c h0_4_e2 h0_4_e2_0 h0_4_e2_f1 h0_4_e2_0 h0_4_e2_0k h0_4_e2_0c h0_4_e3 h0_4_e3_0 x_126 h0_4_e3_0 h0_4_e3_0k w_129 h0_4_e4 h0_4_e4_0 h0_4_e4_f1 h0_4_e4_0 h0_4_e4_0k h0_4_e4_0c)) hP hD [24, 3, 4, 25] [0, 1, 2, 29, 30, 5, 6, 7, 8, 9, 10, 11, 12, 13, 14, 15, 16, 17, 18, 19, 20, 21, 22, 23, 28, 31, 26, 27] 28 rfl hqc (by decide +kernel) rfl hk1 hFc hP1 hD1
      generalize H1 = H at hP hS ⊢
      as_aux_lemma =>
      rcases hw with ⟨h_130, h_131, h_132, h_133, h_134, h_135⟩
      have h_135 : (r_125, x_126, x_127, x_128, w_129) = _ := h_135
      replace hEX := hEX.trans (exc5_eq h_135)
      have hK9 := hK.sub (tys' := []) [] rfl
      exact W.iret (v := r_125) hx hb hr (fun t ht hW => ⟨⟨r_125, (h0_2_f1, h0_2_f2, h0_2_f3, h0_2_0c, x_127, x_128, h0_3_0_e0_f1, h0_3_0_e0_0c, h0_3_0_e1_f1, h0_3_0_e1_0c, h0_3_0_e2_f1, h0_3_0_e2_0c, h0_3_0_e3_f1, h0_3_0_e3_0c, h0_3_0_e4_f1, h0_3_0_e4_0c, h0_4_e0_f1, h0_4_e0_0c, h0_4_e1_f1, h0_4_e1_0c, h0_4_e2_f1, h0_4_e2_0c, x_126, w_129, h0_4_e4_f1, h0_4_e4_0c), rfl, (Or.inr ⟨h_130, g_h0_2_f1, g_h0_2_f2, g_h0_2_f3, a_h0_2_0c, h_132, h_133, g_h0_3_0_e0_f1, g_h0_3_0_e1_f1, g_h0_3_0_e2_f1, g_h0_3_0_e3_f1, g_h0_3_0_e4_f1, g_h0_4_e0_f1, a_h0_4_e0_0c, g_h0_4_e1_f1, a_h0_4_e1_0c, g_h0_4_e2_f1, a_h0_4_e2_0c, h_131, h_134, g_h0_4_e4_f1, a_h0_4_e4_0c, (RG_w g_83 (by decide +kernel)), (hR.trans hEX).symm⟩), by rw [ht]; exact hP, va_K.moved hW.alike hK9, hD⟩, hS.F ht⟩) hS.2.2 dX11_fault_71
    replace hEX := hEX.trans (if_neg c_123)
    by_cases c_136 : h0_f5 = 4
    · refine W.eq (g2 := F0 m 63 ls [.int 4, .ref h0_4]) (by rw [c_136]) ?_
      replace hEX := hEX.trans (if_pos c_136)
      have g_137 : RG h0_f5 4 4 := RG_k _ _ (by rw [c_136]; rfl)
      refine va_aldq hx hb hK hP 17 8 rfl rfl (by unfold vp_in; decide) dX11_fault_63 ?_
      rw [show h0_4c (4 : Int32).toNatClampNeg = some h0_4_e4 from e_h0_4_e4]
      refine W.eq (g2 := F0 m 64 ls [.ref h0_4_e4]) rfl ?_
      refine lv_aload_n hx hb dX11_fault_64 rfl (lv_at hl 0 rfl) ?_
      as_aux_lemma =>
      refine va_get (D := (dC, dI)) (ci := 11) (v := .ref h0_0) (C := RX11) (T := TX11) (N := 16) hx hb hts iw_c_X11_fault_X11 hown hK hP 0 rfl rfl 0 (by decide +kernel) (hts (.fieldLink RX11 10 "BuoyVote" "tape" "LBuoyVote$Tape;") (List.mem_of_getElem? (i := 2) rfl)) (fun _ h9 => h9) rfl dX11_fault_65 ?_
      obtain ⟨hPc, hDc, hFc, hqc⟩ := cl_cut (wc := (wd_c_X6_faultOf h0_4_e4 h0_4_e4_0 h0_4_e4_f1 h0_0 h0_0_0 h0_0_f1 h0_0_f2 h0_0_f3 h0_0_0 h0_0_0k h0_0_0c h0_4_e4_0 h0_4_e4_0k h0_4_e4_0c)) hP hD hS hA [26, 3, 4, 27] (by decide +kernel) rfl
      have hKc := hK.sub (tys' := [(h0_0_0k, .int), (h0_4_e4_0k, .int)]) [1, 13] rfl
      have hrv := va_recv hKc hPc (ci := 6) (q0 := 0) rfl rfl
      refine va_calli (va_runV (As := [.ref h0_0]) (rest := []) ⟨hx, hb, hml, hown, hts⟩ (c_X6_faultOf l dC dI H.size h0_4_e4 h0_0 h0_4_e4_0 h0_4_e4_f1 h0_0_0 h0_0_f1 h0_0_f2 h0_0_f3 h0_0_0k h0_0_0c h0_4_e4_0k h0_4_e4_0c ts5 tv5 ta4 g_h0_4_e4_f1 g_h0_0_f1 g_h0_0_f2 g_h0_0_f3 a_h0_0_0c a_h0_4_e4_0c) (cwV 1 hts gf_c_X11_fault_c_X6_faultOf rfl rfl rfl mdV_X6_faultOf ⟨Nat.le_of_ble_eq_true rfl, Nat.le_of_ble_eq_true rfl⟩) ⟨fun a U g mk q => by obtain ⟨q0, q1, qP, qK, qD, qE0, qE1, qE2, qE3, qE4, qE5, qE6, qE7⟩ := q; exact ⟨q0, q1, qP, va_K.moved (u := U) (U := U.calling g mk a) (Vm.Alike.refl U.vm) qK, qD, vk_R.same rfl qE0, va_Z.moved (u := U) (U := U.calling g mk a) (Vm.Alike.refl U.vm) qE1, va_OF.moved (u := U) (U := U.calling g mk a) (Vm.Alike.refl U.vm) qE2, va_O.moved (u := U) (U := U.calling g mk a) (Vm.Alike.refl U.vm) qE3, va_OF.moved (u := U) (U := U.calling g mk a) (Vm.Alike.refl U.vm) qE4, va_T.moved (u := U) (U := U.calling g mk a) (Vm.Alike.refl U.vm) qE5, va_Z.moved (u := U) (U := U.calling g mk a) (Vm.Alike.refl U.vm) qE6, va_T.moved (u := U) (U := U.calling g mk a) (Vm.Alike.refl U.vm) qE7⟩, hrv, fun U hU hW => ⟨rfl, by rw [hU], by rw [hU]; exact hPc, va_K.moved hW.alike hKc, hDc.weaken (fun _ _ _ _ => trivial), vk_R.warm hW hE_37, va_Z.moved hW.alike (by rw [hU]; exact (hE_10.kept hS.2.1).narrow hFc), va_OF.moved hW.alike (by rw [hU]; exact (hE_39.kept hS.2.1).narrow hFc), va_O.moved hW.alike (by rw [hU]; exact (hE_38.kept hS.2.1).narrow hFc), va_OF.moved hW.alike (by rw [hU]; exact (hE_40.kept hS.2.1).narrow hFc), va_T.moved hW.alike (by rw [hU]; exact (hE_41.kept hS.2.1).narrow hFc), va_Z.moved hW.alike (by rw [hU]; exact (hE_8.kept hS.2.1).narrow hFc), va_T.moved hW.alike (by rw [hU]; exact (hE_9.kept hS.2.1).narrow hFc)⟩⟩ rfl rfl hl.1 rfl (lv_room (Nat.le_of_ble_eq_true rfl)) dX11_fault_68 ⟨Nat.le_of_ble_eq_true rfl, Nat.le_of_ble_eq_true rfl⟩) hS (fun q _ h => hFc q h) hFc (fun r_138 u t H1 locs ht hvm hw hB hz1 hk1 hS => ?_)
      obtain ⟨x_139, x_140, x_141, w_142⟩ := u
      obtain ⟨hP1, hK1, hD1⟩ := hB
      rw [ht] at hP1
      obtain ⟨hP, hD⟩ := cl_put (w1 := (wd_c_X6_faultOf h0_4_e4 h0_4_e4_0 x_139 h0_0 h0_0_0 h0_0_f1 x_140 x_141 h0_0_0 h0_0_0k h0_0_0c h0_4_e4_0 h0_4_e4_0k w_142)) (nw := (wd_c_X11_fault h0 h0_0 h0_1 h0_2 h0_3 h0_4 h0_f5 h0_6 h0_7 h0_8 h0_9 h0_10 h0_11 h0_12 h0_13 h0_14 h0_f15 h0_2 h0_2_0 h0_2_f1 h0_2_f2 h0_2_f3 h0_2_0 h0_2_0k h0_2_0c h0_0 h0_0_0 h0_0_f1 x_140 x_141 h0_0_0 h0_0_0k h0_0_0c h0_3 h0_3_0 h0_3_f1 h0_3_f2 h0_3_3 h0_3_0 h0_3_0k h0_3_0c h0_3_0_e0 h0_3_0_e0_0 h0_3_0_e0_f1 h0_3_0_e0_2 h0_3_0_e0_0 h0_3_0_e0_0k h0_3_0_e0_0c h0_3_0_e1 h0_3_0_e1_0 h0_3_0_e1_f1 h0_3_0_e1_2 h0_3_0_e1_0 h0_3_0_e1_0k h0_3_0_e1_0c h0_3_0_e2 h0_3_0_e2_0 h0_3_0_e2_f1 h0_3_0_e2_2 h0_3_0_e2_0 h0_3_0_e2_0k h0_3_0_e2_0c h0_3_0_e3 h0_3_0_e3_0 h0_3_0_e3_f1 h0_3_0_e3_2 h0_3_0_e3_0 h0_3_0_e3_0k h0_3_0_e3_0c h0_3_0_e4 h0_3_0_e4_0 h0_3_0_e4_f1 h0_3_0_e4_2 h0_3_0_e4_0 h0_3_0_e4_0k h0_3_0_e4_0c h0_4 h0_4k h0_4c h0_4_e0 h0_4_e0_0 h0_4_e0_f1 h0_4_e0_0 h0_4_e0_0k h0_4_e0_0c h0_4_e1 h0_4_e1_0 h0_4_e1_f1 h0_4_e1_0 h0_4_e1_0k h0_4_e1_0c h0_4_e2 h0_4_e2_0 h0_4_e2_f1 h0_4_e2_0 h0_4_e2_0k h0_4_e2_0c h0_4_e3 h0_4_e3_0 h0_4_e3_f1 h0_4_e3_0 h0_4_e3_0k h0_4_e3_0c h0_4_e4 h0_4_e4_0 x_139 h0_4_e4_0 h0_4_e4_0k w_142)) hP hD [26, 3, 4, 27] [0, 1, 2, 29, 30, 5, 6, 7, 8, 9, 10, 11, 12, 13, 14, 15, 16, 17, 18, 19, 20, 21, 22, 23, 24, 25, 28, 31] 28 rfl hqc (by decide +kernel) rfl hk1 hFc hP1 hD1
      generalize H1 = H at hP hS ⊢
      as_aux_lemma =>
      rcases hw with ⟨h_143, h_144, h_145, h_146, h_147, h_148⟩
      have h_148 : (r_138, x_139, x_140, x_141, w_142) = _ := h_148
      replace hEX := hEX.trans (exc5_eq h_148)
      have hK9 := hK.sub (tys' := []) [] rfl
      exact W.iret (v := r_138) hx hb hr (fun t ht hW => ⟨⟨r_138, (h0_2_f1, h0_2_f2, h0_2_f3, h0_2_0c, x_140, x_141, h0_3_0_e0_f1, h0_3_0_e0_0c, h0_3_0_e1_f1, h0_3_0_e1_0c, h0_3_0_e2_f1, h0_3_0_e2_0c, h0_3_0_e3_f1, h0_3_0_e3_0c, h0_3_0_e4_f1, h0_3_0_e4_0c, h0_4_e0_f1, h0_4_e0_0c, h0_4_e1_f1, h0_4_e1_0c, h0_4_e2_f1, h0_4_e2_0c, h0_4_e3_f1, h0_4_e3_0c, x_139, w_142), rfl, (Or.inr ⟨h_143, g_h0_2_f1, g_h0_2_f2, g_h0_2_f3, a_h0_2_0c, h_145, h_146, g_h0_3_0_e0_f1, g_h0_3_0_e1_f1, g_h0_3_0_e2_f1, g_h0_3_0_e3_f1, g_h0_3_0_e4_f1, g_h0_4_e0_f1, a_h0_4_e0_0c, g_h0_4_e1_f1, a_h0_4_e1_0c, g_h0_4_e2_f1, a_h0_4_e2_0c, g_h0_4_e3_f1, a_h0_4_e3_0c, h_144, h_147, (RG_w g_83 (by decide +kernel)), (hR.trans hEX).symm⟩), by rw [ht]; exact hP, va_K.moved hW.alike hK9, hD⟩, hS.F ht⟩) hS.2.2 dX11_fault_71
    replace hEX := hEX.trans (if_neg c_136)
    exfalso
    have zc_84 := lv_neT c_84 (a := 0) (by decide +kernel)
    have zc_97 := lv_neT c_97 (a := 1) (by decide +kernel)
    have zc_110 := lv_neT c_110 (a := 2) (by decide +kernel)
    have zc_123 := lv_neT c_123 (a := 3) (by decide +kernel)
    have zc_136 := lv_neT c_136 (a := 4) (by decide +kernel)
    have zg1 := (g_h0_f5).1
    have zg2 := (g_h0_f5).2
    omega
  replace hEX := hEX.trans (if_neg c_82)
  have hsw : p1.toInt < 0 ∨ 2 < p1.toInt := by
    have zc_1 := lv_neT c_1 (a := 0) (by decide +kernel)
    have zc_18 := lv_neT c_18 (a := 1) (by decide +kernel)
    have zc_82 := lv_neT c_82 (a := 2) (by decide +kernel)
    have zg1 := ((RG_any p1)).1
    have zg2 := ((RG_any p1)).2
    omega
  refine lv_tableOut (tgt := 72) hx hb dX11_fault_1 hsw (by decide +kernel) ?_
  as_aux_lemma =>
  refine lv_bipush (v := (-2)) hx hb dX11_fault_72 kc_bipush_m2 ?_
  have hK9 := hK.sub (tys' := []) [] rfl
  exact W.iret (v := (-2)) hx hb hr (fun t ht hW => ⟨⟨(-2), (h0_2_f1, h0_2_f2, h0_2_f3, h0_2_0c, h0_0_f2, h0_0_f3, h0_3_0_e0_f1, h0_3_0_e0_0c, h0_3_0_e1_f1, h0_3_0_e1_0c, h0_3_0_e2_f1, h0_3_0_e2_0c, h0_3_0_e3_f1, h0_3_0_e3_0c, h0_3_0_e4_f1, h0_3_0_e4_0c, h0_4_e0_f1, h0_4_e0_0c, h0_4_e1_f1, h0_4_e1_0c, h0_4_e2_f1, h0_4_e2_0c, h0_4_e3_f1, h0_4_e3_0c, h0_4_e4_f1, h0_4_e4_0c), rfl, (Or.inl ⟨rfl, g_h0_2_f1, g_h0_2_f2, g_h0_2_f3, a_h0_2_0c, g_h0_0_f2, g_h0_0_f3, g_h0_3_0_e0_f1, g_h0_3_0_e1_f1, g_h0_3_0_e2_f1, g_h0_3_0_e3_f1, g_h0_3_0_e4_f1, g_h0_4_e0_f1, a_h0_4_e0_0c, g_h0_4_e1_f1, a_h0_4_e1_0c, g_h0_4_e2_f1, a_h0_4_e2_0c, g_h0_4_e3_f1, a_h0_4_e3_0c, g_h0_4_e4_f1, a_h0_4_e4_0c, (hR.trans hEX).symm⟩), by rw [ht]; exact hP, va_K.moved hW.alike hK9, hD⟩, hS.F ht⟩) hS.2.2 dX11_fault_74
