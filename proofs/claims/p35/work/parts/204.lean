noncomputable def wd_c_X4_readUnit_3 (a0 : Nat) (a1 : Nat) (a2 : Int32) (a3 : Int32) (a4 : Int32) (a5 : Nat) (a6 : ClassId) (a7 : Nat → Int32) (a8 : Nat) (a9 : Nat) (a10 : Int32) (a11 : Nat) (a12 : Nat) (a13 : ClassId) (a14 : Nat → Int32) : va_W := [(a0, .inr (9, [.ref a1, .int a2, .int a3, .int a4])), (a5, .inl (a6, 240, .inl a7)), (a8, .inr (4, [.ref a9, .int a10, .ref a11])), (a12, .inl (a13, 240, .inl a14))]
noncomputable def wf_c_X4_readUnit_3 : List Cond := List.cons (.code yX4_readUnit cX4_readUnit 5 none) (@HAppend.hAppend (List Cond) (List Cond) (List Cond) _ (@HAppend.hAppend (List Cond) (List Cond) (List Cond) _ [.methodLink RX4 41 yX9_peek, .instanceMethod yX9_peek, .selects RX9 yX9_peek yX9_peek, .initialized RX9, .code yX9_peek cX9_peek 1 (some .int), .fieldLink RX9 22 "BuoyVote$Tape" "at" "I", .fieldLink RX9 19 "BuoyVote$Tape" "length" "I", .fieldLink RX9 11 "BuoyVote$Tape" "bytes" "[I", .methodLink RX4 45 yX4_startsUnit, .static yX4_startsUnit, .initialized RX4, .code yX4_startsUnit cX4_startsUnit 1 (some .boolean), .methodLink RX4 63 yX9_take, .instanceMethod yX9_take, .selects RX9 yX9_take yX9_take, .code yX9_take cX9_take 2 (some .boolean), .fieldLink RX9 15 "BuoyVote$Tape" "wrong" "I", .methodLink RX9 29 yX9_peek, .methodLink RX4 37 yX9_expect, .instanceMethod yX9_expect, .selects RX9 yX9_expect yX9_expect, .code yX9_expect cX9_expect 2 none, .methodLink RX9 25 yX9_refuse, .instanceMethod yX9_refuse, .selects RX9 yX9_refuse yX9_refuse, .code yX9_refuse cX9_refuse 2 none, .methodLink RX4 56 yX4_readCondition, .instanceMethod yX4_readCondition, .selects RX4 yX4_readCondition yX4_readCondition, .code yX4_readCondition cX4_readCondition 7 none, .methodLink RX4 72 yX9_isRight, .instanceMethod yX9_isRight, .selects RX9 yX9_isRight yX9_isRight, .code yX9_isRight cX9_isRight 1 (some .boolean), .methodLink RX4 76 yX4_readUnit, .instanceMethod yX4_readUnit, .selects RX4 yX4_readUnit yX4_readUnit, .methodLink RX4 82 yX9_refuseHere, .instanceMethod yX9_refuseHere, .selects RX9 yX9_refuseHere yX9_refuseHere, .code yX9_refuseHere cX9_refuseHere 1 none, .methodLink RX4 49 yX4_readSum, .instanceMethod yX4_readSum, .selects RX4 yX4_readSum yX4_readSum, .code yX4_readSum cX4_readSum 6 none, .methodLink RX4 85 yX4_readAtom, .instanceMethod yX4_readAtom, .selects RX4 yX4_readAtom yX4_readAtom, .code yX4_readAtom cX4_readAtom 6 none, .methodLink RX4 93 yJ0_indexOf_0f7a4, .instanceMethod yJ0_indexOf_0f7a4, .selects RJ0 yJ0_indexOf_0f7a4 yJ0_indexOf_0f7a4, .initialized RJ0, .code yJ0_indexOf_0f7a4 cJ0_indexOf_0f7a4 2 (some .int), .methodLink RJ0 633 yJ0_indexOf_7cf53, .instanceMethod yJ0_indexOf_7cf53, .selects RJ0 yJ0_indexOf_7cf53 yJ0_indexOf_7cf53, .code yJ0_indexOf_7cf53 cJ0_indexOf_7cf53 3 (some .int), .methodLink RJ0 492 yJ0_isLatin1_aae02, .instanceMethod yJ0_isLatin1_aae02, .selects RJ0 yJ0_isLatin1_aae02 yJ0_isLatin1_aae02, .code yJ0_isLatin1_aae02 cJ0_isLatin1_aae02 1 (some .boolean), .fieldLink RJ0 38 "java/lang/String" "COMPACT_STRINGS" "Z", .fieldLink RJ0 15 "java/lang/String" "coder" "B", .fieldLink RJ0 9 "java/lang/String" "value" "[B", .methodLink RJ0 505 yJ0_length_8abf5, .instanceMethod yJ0_length_8abf5, .selects RJ0 yJ0_length_8abf5 yJ0_length_8abf5, .code yJ0_length_8abf5 cJ0_length_8abf5 1 (some .int), .methodLink RJ0 335 yJ0_coder_7d493, .instanceMethod yJ0_coder_7d493, .selects RJ0 yJ0_coder_7d493 yJ0_coder_7d493, .code yJ0_coder_7d493 cJ0_coder_7d493 1 (some .byte), .methodLink RJ0 637 yJ1_indexOf_4cfef, .static yJ1_indexOf_4cfef, .initialized RJ1, .code yJ1_indexOf_4cfef cJ1_indexOf_4cfef 4 (some .int), .methodLink RJ1 88 yJ1_canEncode_9a6ad, .static yJ1_canEncode_9a6ad, .code yJ1_canEncode_9a6ad cJ1_canEncode_9a6ad 1 (some .boolean), .methodLink RJ1 92 Lib.Math.max.name, .static Lib.Math.max.name, .initialized "java/lang/Math", .code Lib.Math.max.name Lib.Math.max.code 2 (some .int), .methodLink RJ1 38 Lib.Math.min.name, .static Lib.Math.min.name, .code Lib.Math.min.name Lib.Math.min.code 2 (some .int), .methodLink RJ1 95 yJ1_indexOfChar_4cfef, .static yJ1_indexOfChar_4cfef, .code yJ1_indexOfChar_4cfef cJ1_indexOfChar_4cfef 6 (some .int), .methodLink RX4 99 yX9_number, .instanceMethod yX9_number, .selects RX9 yX9_number yX9_number, .code yX9_number cX9_number 4 (some .int), .methodLink RX4 79 yX9_skip, .instanceMethod yX9_skip, .selects RX9 yX9_skip yX9_skip, .code yX9_skip cX9_skip 1 none, .methodLink RX4 60 yX4_emit, .instanceMethod yX4_emit, .selects RX4 yX4_emit yX4_emit, .code yX4_emit cX4_emit 2 none, .fieldLink RX4 20 "BuoyVote$Law" "length" "I", .fieldLink RX4 11 "BuoyVote$Law" "code" "[I", .methodLink RX4 88 yX9_takeEither, .instanceMethod yX9_takeEither, .selects RX9 yX9_takeEither yX9_takeEither, .code yX9_takeEither cX9_takeEither 4 (some .int), .methodLink RX4 53 yX4_isComparison, .static yX4_isComparison, .code yX4_isComparison cX4_isComparison 1 (some .boolean)] wsX90) wsX40)
theorem iw_c_X4_readUnit_3_X9 : ∀ w ∈ wsX90, w ∈ wf_c_X4_readUnit_3 := fun w h => List.mem_cons_of_mem _ (List.mem_append_left _ (List.mem_append_right _ h))
theorem iw_c_X4_readUnit_3_X4 : ∀ w ∈ wsX40, w ∈ wf_c_X4_readUnit_3 := fun w h => List.mem_cons_of_mem _ (List.mem_append_right _ h)
set_option maxRecDepth 20000 in
theorem gf_c_X4_readUnit_3_c_X9_peek : GoodIn wf_c_X4_readUnit_3 (wsV RX4 41 RX9 yX9_peek wf_c_X9_peek) := goodIn_app (gi_l [1, 2, 3, 4] rfl rfl) (gi_cons (j := 5) rfl rfl (goodIn_app (gi_l [6, 7, 8] rfl rfl) (goodIn_sub iw_c_X4_readUnit_3_X9 gw_X9)))
set_option maxRecDepth 20000 in
theorem gf_c_X4_readUnit_3_c_X4_isComparison : GoodIn wf_c_X4_readUnit_3 (va_wsS RX4 53 yX4_isComparison wf_c_X4_isComparison) := goodIn_app (gi_l [109, 110, 11] rfl rfl) (gi_cons (j := 111) rfl rfl gi_nil)
set_option maxRecDepth 20000 in
theorem gf_c_X4_readUnit_3_c_X9_refuseHere : GoodIn wf_c_X4_readUnit_3 (wsV RX4 82 RX9 yX9_refuseHere wf_c_X9_refuseHere) := goodIn_app (gi_l [38, 39, 40, 4] rfl rfl) (gi_cons (j := 41) rfl rfl (goodIn_app (gi_l [6, 23, 24, 25, 4, 26, 17] rfl rfl) (goodIn_sub iw_c_X4_readUnit_3_X9 gw_X9)))
set_option maxRecDepth 20000 in
theorem gf_c_X4_readUnit_3_c_X4_isComparison_1 : GoodIn wf_c_X4_readUnit_3 (va_wsS RX4 53 yX4_isComparison wf_c_X4_isComparison_1) := goodIn_app (gi_l [109, 110, 11] rfl rfl) (gi_cons (j := 111) rfl rfl gi_nil)
set_option maxRecDepth 20000 in
theorem gf_c_X4_readUnit_3_c_X9_skip : GoodIn wf_c_X4_readUnit_3 (wsV RX4 79 RX9 yX9_skip wf_c_X9_skip) := goodIn_app (gi_l [95, 96, 97, 4] rfl rfl) (gi_cons (j := 98) rfl rfl (goodIn_app (gi_l [6] rfl rfl) (goodIn_sub iw_c_X4_readUnit_3_X9 gw_X9)))
set_option maxRecDepth 20000 in
theorem gf_c_X4_readUnit_3_c_X4_readSum_2 : GoodIn wf_c_X4_readUnit_3 (wsV RX4 49 RX4 yX4_readSum wf_c_X4_readSum_2) := goodIn_app (gi_l [42, 43, 44, 11] rfl rfl) (gi_cons (j := 45) rfl rfl (goodIn_app (goodIn_app (gi_l [31, 32, 33, 4, 34, 17, 46, 47, 48, 11, 49, 1, 2, 3, 5, 6, 7, 8, 50, 51, 52, 53, 54, 55, 56, 57, 58, 59, 60, 61, 62, 63, 64, 65, 66, 67, 68, 69, 70, 71, 72, 73, 74, 75, 76, 77, 78, 79, 80, 81, 82, 83, 84, 85, 86, 87, 88, 89, 90, 91, 92, 93, 94, 38, 39, 40, 41, 23, 24, 25, 26, 95, 96, 97, 98, 42, 43, 44, 99, 100, 101, 102, 103, 104, 105, 106, 107, 108, 18, 19, 20, 21, 22] rfl rfl) (goodIn_sub iw_c_X4_readUnit_3_X9 gw_X9)) (goodIn_sub iw_c_X4_readUnit_3_X4 gw_X4)))
set_option maxRecDepth 20000 in
theorem gf_c_X4_readUnit_3_c_X4_emit : GoodIn wf_c_X4_readUnit_3 (wsV RX4 60 RX4 yX4_emit wf_c_X4_emit) := goodIn_app (gi_l [99, 100, 101, 11] rfl rfl) (gi_cons (j := 102) rfl rfl (goodIn_app (gi_l [103, 104] rfl rfl) (goodIn_sub iw_c_X4_readUnit_3_X4 gw_X4)))
set_option maxRecDepth 20000 in
theorem gf_c_X4_readUnit_3_c_X4_startsUnit : GoodIn wf_c_X4_readUnit_3 (va_wsS RX4 45 yX4_startsUnit wf_c_X4_startsUnit) := goodIn_app (gi_l [9, 10, 11] rfl rfl) (gi_cons (j := 12) rfl rfl gi_nil)
set_option maxRecDepth 20000 in
theorem gf_c_X4_readUnit_3_c_X4_startsUnit_1 : GoodIn wf_c_X4_readUnit_3 (va_wsS RX4 45 yX4_startsUnit wf_c_X4_startsUnit_1) := goodIn_app (gi_l [9, 10, 11] rfl rfl) (gi_cons (j := 12) rfl rfl gi_nil)
set_option maxRecDepth 20000 in
theorem gf_c_X4_readUnit_3_c_X9_take : GoodIn wf_c_X4_readUnit_3 (wsV RX4 63 RX9 yX9_take wf_c_X9_take) := goodIn_app (gi_l [13, 14, 15, 4] rfl rfl) (gi_cons (j := 16) rfl rfl (goodIn_app (gi_l [17, 18, 2, 3, 4, 5, 6, 7, 8] rfl rfl) (goodIn_sub iw_c_X4_readUnit_3_X9 gw_X9)))
set_option maxRecDepth 20000 in
theorem gf_c_X4_readUnit_3_c_X9_expect_1 : GoodIn wf_c_X4_readUnit_3 (wsV RX4 37 RX9 yX9_expect wf_c_X9_expect_1) := goodIn_app (gi_l [19, 20, 21, 4] rfl rfl) (gi_cons (j := 22) rfl rfl (goodIn_app (gi_l [17, 18, 2, 3, 4, 5, 6, 7, 8, 23, 24, 25, 26] rfl rfl) (goodIn_sub iw_c_X4_readUnit_3_X9 gw_X9)))
set_option maxRecDepth 20000 in
theorem gf_c_X4_readUnit_3_c_X4_readCondition_3 : GoodIn wf_c_X4_readUnit_3 (wsV RX4 56 RX4 yX4_readCondition wf_c_X4_readCondition_3) := goodIn_app (gi_l [27, 28, 29, 11] rfl rfl) (gi_cons (j := 30) rfl rfl (goodIn_app (goodIn_app (gi_l [31, 32, 33, 4, 34, 17, 35, 36, 37, 11, 0, 1, 2, 3, 5, 6, 7, 8, 9, 10, 12, 13, 14, 15, 16, 18, 19, 20, 21, 22, 23, 24, 25, 26, 27, 28, 29, 38, 39, 40, 41, 42, 43, 44, 45, 46, 47, 48, 49, 50, 51, 52, 53, 54, 55, 56, 57, 58, 59, 60, 61, 62, 63, 64, 65, 66, 67, 68, 69, 70, 71, 72, 73, 74, 75, 76, 77, 78, 79, 80, 81, 82, 83, 84, 85, 86, 87, 88, 89, 90, 91, 92, 93, 94, 95, 96, 97, 98, 99, 100, 101, 102, 103, 104, 105, 106, 107, 108, 109, 110, 111] rfl rfl) (goodIn_sub iw_c_X4_readUnit_3_X9 gw_X9)) (goodIn_sub iw_c_X4_readUnit_3_X4 gw_X4)))
set_option maxRecDepth 20000 in
theorem gf_c_X4_readUnit_3_c_X4_readUnit_4 : GoodIn wf_c_X4_readUnit_3 (wsV RX4 76 RX4 yX4_readUnit wf_c_X4_readUnit_4) := goodIn_app (gi_l [35, 36, 37, 11] rfl rfl) (gi_cons (j := 0) rfl rfl (goodIn_app (goodIn_app (gi_l [1, 2, 3, 4, 5, 6, 7, 8, 9, 10, 11, 12, 13, 14, 15, 16, 17, 18, 19, 20, 21, 22, 23, 24, 25, 26, 27, 28, 29, 30, 31, 32, 33, 34, 35, 36, 37, 38, 39, 40, 41, 42, 43, 44, 45, 46, 47, 48, 49, 50, 51, 52, 53, 54, 55, 56, 57, 58, 59, 60, 61, 62, 63, 64, 65, 66, 67, 68, 69, 70, 71, 72, 73, 74, 75, 76, 77, 78, 79, 80, 81, 82, 83, 84, 85, 86, 87, 88, 89, 90, 91, 92, 93, 94, 95, 96, 97, 98, 99, 100, 101, 102, 103, 104, 105, 106, 107, 108, 109, 110, 111] rfl rfl) (goodIn_sub iw_c_X4_readUnit_3_X9 gw_X9)) (goodIn_sub iw_c_X4_readUnit_3_X4 gw_X4)))
set_option maxHeartbeats 4000000 in
set_option maxRecDepth 100000 in
theorem c_X4_readUnit_3 (l : Launch) (dC : Nat → ClassId) (dI : Nat → Nat → Nat) (sz : Nat) (h0 : Nat) (h1 : Nat) (h1_0 : Nat) (h1_f1 : Int32) (h1_f2 : Int32) (h1_f3 : Int32) (h1_0k : ClassId) (h1_0c : Nat → Int32) (h0_0 : Nat) (h0_f1 : Int32) (h0_2 : Nat) (h0_0k : ClassId) (h0_0c : Nat → Int32) (ts4 : Nat) (tv4 : Nat) (g_h1_f1 : RG h1_f1 0 240) (g_h1_f2 : RG h1_f2 0 240) (g_h1_f3 : RG h1_f3 (-1) 240) (a_h1_0c : AI h1_0c 0 255) (g_h0_f1 : RG h0_f1 0 240) : Met l yX4_readUnit wf_c_X4_readUnit_3 ({ frames := 14, cells := 0, slots := 0, locals := 341 }) (va_Pc [.ref h0, .ref h1, .int 2, .int 0] (fun U => U.heap.size = sz ∧ va_P (dC, dI) vwCl (wd_c_X4_readUnit_3 h1 h1_0 h1_f1 h1_f2 h1_f3 h1_0 h1_0k h1_0c h0 h0_0 h0_f1 h0_2 h0_0 h0_0k h0_0c) U.heap ∧ va_K (dC, dI) vwCl [(h1_0k, .int), (h0_0k, .int)] U ∧ va_D (fun _ => True) (wd_c_X4_readUnit_3 h1 h1_0 h1_f1 h1_f2 h1_f3 h1_0 h1_0k h1_0c h0 h0_0 h0_f1 h0_2 h0_0 h0_0k h0_0c) ∧ vk_R RX4 91 "vlrdph" ts4 U ∧ va_Z "java/lang/String" "COMPACT_STRINGS" "Z" (.int 1) (va_A (wd_c_X4_readUnit_3 h1 h1_0 h1_f1 h1_f2 h1_f3 h1_0 h1_0k h1_0c h0 h0_0 h0_f1 h0_2 h0_0 h0_0k h0_0c) sz) U U.heap ∧ va_OF "java/lang/String" "coder" "B" (.int 0) ts4 (va_A (wd_c_X4_readUnit_3 h1 h1_0 h1_f1 h1_f2 h1_f3 h1_0 h1_0k h1_0c h0 h0_0 h0_f1 h0_2 h0_0 h0_0k h0_0c) sz) U U.heap ∧ va_O "java/lang/String" ts4 (va_A (wd_c_X4_readUnit_3 h1 h1_0 h1_f1 h1_f2 h1_f3 h1_0 h1_0k h1_0c h0 h0_0 h0_f1 h0_2 h0_0 h0_0k h0_0c) sz) U U.heap ∧ va_OF "java/lang/String" "value" "[B" (.ref tv4) ts4 (va_A (wd_c_X4_readUnit_3 h1 h1_0 h1_f1 h1_f2 h1_f3 h1_0 h1_0k h1_0c h0 h0_0 h0_f1 h0_2 h0_0 h0_0k h0_0c) sz) U U.heap ∧ va_T .byte tv4 6 (fun j => .int ([118, 108, 114, 100, 112, 104].getD j 0)) (va_A (wd_c_X4_readUnit_3 h1 h1_0 h1_f1 h1_f2 h1_f3 h1_0 h1_0k h1_0c h0 h0_0 h0_f1 h0_2 h0_0 h0_0k h0_0c) sz) U U.heap)) (va_Qv (fun (u : (Int32) × (Int32) × (Int32) × (Nat → Int32)) => (RG u.1 0 240 ∧ RG u.2.1 (-1) 240 ∧ RG u.2.2.1 0 240)) (fun (u : (Int32) × (Int32) × (Int32) × (Nat → Int32)) t => va_P (dC, dI) vwCl (wd_c_X4_readUnit_3 h1 h1_0 h1_f1 (u.1) (u.2.1) h1_0 h1_0k h1_0c h0 h0_0 (u.2.2.1) h0_2 h0_0 h0_0k (u.2.2.2)) t.heap ∧ va_K (dC, dI) vwCl [] t ∧ va_D (va_A (wd_c_X4_readUnit_3 h1 h1_0 h1_f1 h1_f2 h1_f3 h1_0 h1_0k h1_0c h0 h0_0 h0_f1 h0_2 h0_0 h0_0k h0_0c) sz) (wd_c_X4_readUnit_3 h1 h1_0 h1_f1 (u.1) (u.2.1) h1_0 h1_0k h1_0c h0 h0_0 (u.2.2.1) h0_2 h0_0 h0_0k (u.2.2.2))) (va_A (wd_c_X4_readUnit_3 h1 h1_0 h1_f1 h1_f2 h1_f3 h1_0 h1_0k h1_0c h0 h0_0 h0_f1 h0_2 h0_0 h0_0k h0_0c) sz)) 0 0 (va_A (wd_c_X4_readUnit_3 h1 h1_0 h1_f1 h1_f2 h1_f3 h1_0 h1_0k h1_0c h0 h0_0 h0_f1 h0_2 h0_0 h0_0k h0_0c) sz) := by
  refine Met.ofW (cc := cX4_readUnit) (maxL := 5) (ret := none) (by decide +kernel) rfl ?_
  intro p e s m args below meth c s₁ B hml hv
  obtain ⟨rfl, hsz, hP, hK, hD0, hE_32, hE_10, hE_34, hE_33, hE_35, hE_36⟩ := hv
  have hx := B.exec
  have hb := B.bytes
  have hr := B.returns
  have hts := atoms_spec (ws := wf_c_X4_readUnit_3) B.pre
  have hown : s.vm.findClass RX4 = some m.cls := findClass_of_methodNamed B.named
  have hlocks := B.notSynchronized
  subst hsz
  have hD := hD0.self (sz := s.heap.size)
  generalize hAe : va_A (wd_c_X4_readUnit_3 h1 h1_0 h1_f1 h1_f2 h1_f3 h1_0 h1_0k h1_0c h0 h0_0 h0_f1 h0_2 h0_0 h0_0k h0_0c) s.heap.size = A at hD hE_10 hE_34 hE_33 hE_35 hE_36 ⊢
  have hA : ∀ q : Nat, s.heap.size ≤ q → A q := fun q h => by rw [← hAe]; exact Or.inr h
  have hP : va_P (dC, dI) vwCl (wd_c_X4_readUnit_3 h1 h1_0 h1_f1 h1_f2 h1_f3 h1_0 h1_0k h1_0c h0 h0_0 h0_f1 h0_2 h0_0 h0_0k h0_0c) s.heap := hP
  have hl := lv_entry ([.ref h0, .ref h1, .int 2, .int 0]) (n := 5) (Nat.le_of_ble_eq_true rfl)
  rw [lg_entry_eq]
  generalize (lg_sl ([.ref h0, .ref h1, .int 2, .int 0]) ++ List.replicate (5 - (lg_sl ([.ref h0, .ref h1, .int 2, .int 0])).length) Slot.unset).toArray = ls at hl ⊢
  have hl : lv_has ls 5 [(0, .ref h0), (1, .ref h1), (2, .int 2), (3, .int 0)] := hl
  obtain ⟨H, hHe⟩ : ∃ H : Heap, s.heap = H := ⟨_, rfl⟩
  have hS : va_S A s.heap H [] := by rw [hHe]; exact va_S.rf
  have hP : va_P (dC, dI) vwCl (wd_c_X4_readUnit_3 h1 h1_0 h1_f1 h1_f2 h1_f3 h1_0 h1_0k h1_0c h0 h0_0 h0_f1 h0_2 h0_0 h0_0k h0_0c) H := by rw [← hHe]; exact hP
  rw [hHe]
  refine wj (fun G hG hU => ?_)
  as_aux_lemma =>
  have J62 : ∀ (j62_h1_f2 : Int32) (j62_h1_f3 : Int32) (j62_h0_f1 : Int32) (j62_h0_0c : Nat → Int32) (g_h0_f1 : RG h0_f1 0 240) (g_h1_f1 : RG h1_f1 0 240) (g_h1_f2 : RG h1_f2 0 240) (g_h1_f3 : RG h1_f3 (-1) 240) (g_j62_h0_f1 : RG j62_h0_f1 0 240) (g_j62_h1_f2 : RG j62_h1_f2 0 240) (g_j62_h1_f3 : RG j62_h1_f3 (-1) 240) (H : Heap) (locs : List Loc) (ls : Array Slot) (hP : va_P (dC, dI) vwCl (wd_c_X4_readUnit_3 h1 h1_0 h1_f1 j62_h1_f2 j62_h1_f3 h1_0 h1_0k h1_0c h0 h0_0 j62_h0_f1 h0_2 h0_0 h0_0k j62_h0_0c) H) (hD : va_D A (wd_c_X4_readUnit_3 h1 h1_0 h1_f1 j62_h1_f2 j62_h1_f3 h1_0 h1_0k h1_0c h0 h0_0 j62_h0_f1 h0_2 h0_0 h0_0k j62_h0_0c)) (hS : va_S A s.heap H locs) (hl : lv_has ls 5 []), G H locs (F0 m 62 ls []) := by
    as_aux_lemma =>
    intro j62_h1_f2 j62_h1_f3 j62_h0_f1 j62_h0_0c g_h0_f1 g_h1_f1 g_h1_f2 g_h1_f3 g_j62_h0_f1 g_j62_h1_f2 g_j62_h1_f3 H locs ls hP hD hS hl
    refine hG _ _ _ ?_
    refine lv_goto (tgt := 126) hx hb dX4_readUnit_62 rfl ?_
    have hK9 := hK.sub (tys' := []) [] rfl
    exact W.vret hx hb hr (fun t ht hW => ⟨⟨(j62_h1_f2, j62_h1_f3, j62_h0_f1, j62_h0_0c), rfl, ⟨g_j62_h1_f2, g_j62_h1_f3, g_j62_h0_f1⟩, by rw [ht]; exact hP, va_K.moved hW.alike hK9, hD⟩, hS.F ht⟩) hS.2.2 dX4_readUnit_126
  have J24 : ∀ (j24_h1_f2 : Int32) (j24_h1_f3 : Int32) (j24_h0_f1 : Int32) (j24_h0_0c : Nat → Int32) (g_h0_f1 : RG h0_f1 0 240) (g_h1_f1 : RG h1_f1 0 240) (g_h1_f2 : RG h1_f2 0 240) (g_h1_f3 : RG h1_f3 (-1) 240) (g_j24_h0_f1 : RG j24_h0_f1 0 240) (g_j24_h1_f2 : RG j24_h1_f2 0 240) (g_j24_h1_f3 : RG j24_h1_f3 (-1) 240) (H : Heap) (locs : List Loc) (ls : Array Slot) (hP : va_P (dC, dI) vwCl (wd_c_X4_readUnit_3 h1 h1_0 h1_f1 j24_h1_f2 j24_h1_f3 h1_0 h1_0k h1_0c h0 h0_0 j24_h0_f1 h0_2 h0_0 h0_0k j24_h0_0c) H) (hD : va_D A (wd_c_X4_readUnit_3 h1 h1_0 h1_f1 j24_h1_f2 j24_h1_f3 h1_0 h1_0k h1_0c h0 h0_0 j24_h0_f1 h0_2 h0_0 h0_0k j24_h0_0c)) (hS : va_S A s.heap H locs) (hl : lv_has ls 5 [(0, .ref h0), (1, .ref h1), (2, .int 2)]), G H locs (F0 m 24 ls []) := by
    as_aux_lemma =>
    intro j24_h1_f2 j24_h1_f3 j24_h0_f1 j24_h0_0c g_h0_f1 g_h1_f1 g_h1_f2 g_h1_f3 g_j24_h0_f1 g_j24_h1_f2 g_j24_h1_f3 H locs ls hP hD hS hl
    refine hG _ _ _ ?_
    refine lv_aload_n hx hb dX4_readUnit_24 rfl (lv_at hl 1 rfl) ?_
    obtain ⟨hPc, hDc, hFc, hqc⟩ := cl_cut (wc := (wd_c_X9_peek h1 h1_0 h1_f1 j24_h1_f2 j24_h1_f3 h1_0 h1_0k h1_0c)) hP hD hS hA [0, 1] (by decide +kernel) rfl
    have hKc := hK.sub (tys' := [(h1_0k, .int)]) [0] rfl
    have hrv := va_recv hKc hPc (ci := 9) (q0 := 0) rfl rfl
    refine va_calli (va_runV (As := []) (rest := []) ⟨hx, hb, hml, hown, hts⟩ (c_X9_peek l dC dI H.size h1 h1_0 h1_f1 j24_h1_f2 j24_h1_f3 h1_0k h1_0c g_h1_f1 g_j24_h1_f2 g_j24_h1_f3 a_h1_0c) (cwV 0 hts gf_c_X4_readUnit_3_c_X9_peek rfl rfl rfl mdV_X9_peek ⟨Nat.le_of_ble_eq_true rfl, Nat.le_of_ble_eq_true rfl⟩) ⟨fun a U g mk q => by obtain ⟨q0, q1, qP, qK, qD⟩ := q; exact ⟨q0, q1, qP, va_K.moved (u := U) (U := U.calling g mk a) (Vm.Alike.refl U.vm) qK, qD⟩, hrv, fun U hU hW => ⟨rfl, by rw [hU], by rw [hU]; exact hPc, va_K.moved hW.alike hKc, hDc.weaken (fun _ _ _ _ => trivial)⟩⟩ rfl rfl hl.1 rfl (lv_room (Nat.le_of_ble_eq_true rfl)) dX4_readUnit_25 ⟨Nat.le_of_ble_eq_true rfl, Nat.le_of_ble_eq_true rfl⟩) hS (fun q _ h => hFc q h) hFc (fun r_1 x_2 t H1 locs ht hvm hw hB hz1 hk1 hS => ?_)
    obtain ⟨hP1, hK1, hD1⟩ := hB
    rw [ht] at hP1
    obtain ⟨hP, hD⟩ := cl_put (w1 := (wd_c_X9_peek h1 h1_0 h1_f1 x_2 j24_h1_f3 h1_0 h1_0k h1_0c)) (nw := (wd_c_X4_readUnit_3 h1 h1_0 h1_f1 x_2 j24_h1_f3 h1_0 h1_0k h1_0c h0 h0_0 j24_h0_f1 h0_2 h0_0 h0_0k j24_h0_0c)) hP hD [0, 1] [4, 5, 2, 3] 4 rfl hqc (by decide +kernel) rfl hk1 hFc hP1 hD1
    generalize H1 = H at hP hS ⊢
    as_aux_lemma =>
    rcases hw with ⟨h_3, h_4, h_5⟩ | ⟨h_6, h_7, h_8, h_9⟩
    · rw [h_3]
      refine lv_istore (lv' := [(4, .int (-1)), (0, .ref h0), (1, .ref h1), (2, .int 2)]) hx hb dX4_readUnit_28 hl (Nat.le_of_ble_eq_true rfl) rfl (fun ls hl => ?_)
      refine lv_iload hx hb dX4_readUnit_30 (lv_at hl 0 rfl) ?_
      obtain ⟨hPc, hDc, hFc, hqc⟩ := cl_cut (wc := []) hP hD hS hA [] (by decide +kernel) rfl
      have hKc := hK.sub (tys' := []) [] rfl
      refine va_calli (va_runS (As := [.int (-1)]) (rest := []) ⟨hx, hb, hml, hown, hts⟩ (c_X4_isComparison l dC dI H.size (-1) (RG_k (-1) (-1) rfl)) (va_cwS 1 hts gf_c_X4_readUnit_3_c_X4_isComparison rfl rfl rfl md_X4_isComparison ⟨Nat.le_of_ble_eq_true rfl, Nat.le_of_ble_eq_true rfl⟩) ⟨fun a U g mk q => by obtain ⟨q0, q1, qP, qK, qD⟩ := q; exact ⟨q0, q1, qP, va_K.moved (u := U) (U := U.calling g mk a) (Vm.Alike.refl U.vm) qK, qD⟩, fun U hU hW => ⟨rfl, by rw [hU], by rw [hU]; exact hPc, va_K.moved hW.alike hKc, hDc.weaken (fun _ _ _ _ => trivial)⟩⟩ rfl rfl hl.1 rfl (lv_room (Nat.le_of_ble_eq_true rfl)) dX4_readUnit_32 ⟨Nat.le_of_ble_eq_true rfl, Nat.le_of_ble_eq_true rfl⟩) hS (fun q _ h => hFc q h) hFc (fun r_10 u t H1 locs ht hvm hw hB hz1 hk1 hS => ?_)
      obtain ⟨hP1, hK1, hD1⟩ := hB
      rw [ht] at hP1
      have hP := bv_still hP hk1
      generalize H1 = H at hP hS ⊢
      as_aux_lemma =>
      have h_11 := hw
      rw [h_11]
      refine lv_if_eq (tgt := 58) hx hb dX4_readUnit_35 rfl (fun c_12 => ?_) (fun c_12 => absurd c_12 (by decide +kernel))
      refine lv_aload_n hx hb dX4_readUnit_58 rfl (lv_at hl 2 rfl) ?_
      obtain ⟨hPc, hDc, hFc, hqc⟩ := cl_cut (wc := (wd_c_X9_refuseHere h1 h1_0 h1_f1 x_2 j24_h1_f3)) hP hD hS hA [0] (by decide +kernel) rfl
      have hKc := hK.sub (tys' := []) [] rfl
      have hrv := va_recv hKc hPc (ci := 9) (q0 := 0) rfl rfl
      refine va_callv (va_runV (As := []) (rest := []) ⟨hx, hb, hml, hown, hts⟩ (c_X9_refuseHere l dC dI H.size h1 h1_0 h1_f1 x_2 j24_h1_f3 g_h1_f1 h_4 g_j24_h1_f3) (cwV 0 hts gf_c_X4_readUnit_3_c_X9_refuseHere rfl rfl rfl mdV_X9_refuseHere ⟨Nat.le_of_ble_eq_true rfl, Nat.le_of_ble_eq_true rfl⟩) ⟨fun a U g mk q => by obtain ⟨q0, q1, qP, qK, qD⟩ := q; exact ⟨q0, q1, qP, va_K.moved (u := U) (U := U.calling g mk a) (Vm.Alike.refl U.vm) qK, qD⟩, hrv, fun U hU hW => ⟨rfl, by rw [hU], by rw [hU]; exact hPc, va_K.moved hW.alike hKc, hDc.weaken (fun _ _ _ _ => trivial)⟩⟩ rfl rfl hl.1 rfl (lv_room (Nat.le_of_ble_eq_true rfl)) dX4_readUnit_59 ⟨Nat.le_of_ble_eq_true rfl, Nat.le_of_ble_eq_true rfl⟩) hS (fun q _ h => hFc q h) hFc (fun x_14 t H1 locs ht hvm hw hB hz1 hk1 hS => ?_)
      obtain ⟨hP1, hK1, hD1⟩ := hB
      rw [ht] at hP1
      obtain ⟨hP, hD⟩ := cl_put (w1 := (wd_c_X9_refuseHere h1 h1_0 h1_f1 x_2 x_14)) (nw := (wd_c_X4_readUnit_3 h1 h1_0 h1_f1 x_2 x_14 h1_0 h1_0k h1_0c h0 h0_0 j24_h0_f1 h0_2 h0_0 h0_0k j24_h0_0c)) hP hD [0] [4, 1, 2, 3] 4 rfl hqc (by decide +kernel) rfl hk1 hFc hP1 hD1
      generalize H1 = H at hP hS ⊢
      as_aux_lemma =>
      have h_15 := hw
      exact hU _ _ _ (J62 x_2 x_14 j24_h0_f1 j24_h0_0c g_h0_f1 g_h1_f1 g_h1_f2 g_h1_f3 g_j24_h0_f1 h_4 (RG_w h_15 (by decide +kernel)) _ _ _ hP hD hS (lv_sub hl [] rfl))
    · refine lv_istore (lv' := [(4, .int r_1), (0, .ref h0), (1, .ref h1), (2, .int 2)]) hx hb dX4_readUnit_28 hl (Nat.le_of_ble_eq_true rfl) rfl (fun ls hl => ?_)
      refine lv_iload hx hb dX4_readUnit_30 (lv_at hl 0 rfl) ?_
      obtain ⟨hPc, hDc, hFc, hqc⟩ := cl_cut (wc := []) hP hD hS hA [] (by decide +kernel) rfl
      have hKc := hK.sub (tys' := []) [] rfl
      refine va_calli (va_runS (As := [.int r_1]) (rest := []) ⟨hx, hb, hml, hown, hts⟩ (c_X4_isComparison_1 l dC dI H.size r_1 h_6) (va_cwS 1 hts gf_c_X4_readUnit_3_c_X4_isComparison_1 rfl rfl rfl md_X4_isComparison ⟨Nat.le_of_ble_eq_true rfl, Nat.le_of_ble_eq_true rfl⟩) ⟨fun a U g mk q => by obtain ⟨q0, q1, qP, qK, qD⟩ := q; exact ⟨q0, q1, qP, va_K.moved (u := U) (U := U.calling g mk a) (Vm.Alike.refl U.vm) qK, qD⟩, fun U hU hW => ⟨rfl, by rw [hU], by rw [hU]; exact hPc, va_K.moved hW.alike hKc, hDc.weaken (fun _ _ _ _ => trivial)⟩⟩ rfl rfl hl.1 rfl (lv_room (Nat.le_of_ble_eq_true rfl)) dX4_readUnit_32 ⟨Nat.le_of_ble_eq_true rfl, Nat.le_of_ble_eq_true rfl⟩) hS (fun q _ h => hFc q h) hFc (fun r_16 u t H1 locs ht hvm hw hB hz1 hk1 hS => ?_)
      obtain ⟨hP1, hK1, hD1⟩ := hB
      rw [ht] at hP1
      have hP := bv_still hP hk1
      generalize H1 = H at hP hS ⊢
      as_aux_lemma =>
      rcases hw with h_17 | ⟨h_18, h_19⟩
      · rw [h_17]
        refine lv_if_eq (tgt := 58) hx hb dX4_readUnit_35 rfl (fun c_20 => ?_) (fun c_20 => absurd c_20 (by decide +kernel))
        refine lv_aload_n hx hb dX4_readUnit_58 rfl (lv_at hl 2 rfl) ?_
        obtain ⟨hPc, hDc, hFc, hqc⟩ := cl_cut (wc := (wd_c_X9_refuseHere h1 h1_0 h1_f1 x_2 j24_h1_f3)) hP hD hS hA [0] (by decide +kernel) rfl
        have hKc := hK.sub (tys' := []) [] rfl
        have hrv := va_recv hKc hPc (ci := 9) (q0 := 0) rfl rfl
        refine va_callv (va_runV (As := []) (rest := []) ⟨hx, hb, hml, hown, hts⟩ (c_X9_refuseHere l dC dI H.size h1 h1_0 h1_f1 x_2 j24_h1_f3 (RG_w h_8 (by decide +kernel)) (RG_w h_7 (by decide +kernel)) g_j24_h1_f3) (cwV 0 hts gf_c_X4_readUnit_3_c_X9_refuseHere rfl rfl rfl mdV_X9_refuseHere ⟨Nat.le_of_ble_eq_true rfl, Nat.le_of_ble_eq_true rfl⟩) ⟨fun a U g mk q => by obtain ⟨q0, q1, qP, qK, qD⟩ := q; exact ⟨q0, q1, qP, va_K.moved (u := U) (U := U.calling g mk a) (Vm.Alike.refl U.vm) qK, qD⟩, hrv, fun U hU hW => ⟨rfl, by rw [hU], by rw [hU]; exact hPc, va_K.moved hW.alike hKc, hDc.weaken (fun _ _ _ _ => trivial)⟩⟩ rfl rfl hl.1 rfl (lv_room (Nat.le_of_ble_eq_true rfl)) dX4_readUnit_59 ⟨Nat.le_of_ble_eq_true rfl, Nat.le_of_ble_eq_true rfl⟩) hS (fun q _ h => hFc q h) hFc (fun x_22 t H1 locs ht hvm hw hB hz1 hk1 hS => ?_)
        obtain ⟨hP1, hK1, hD1⟩ := hB
        rw [ht] at hP1
        obtain ⟨hP, hD⟩ := cl_put (w1 := (wd_c_X9_refuseHere h1 h1_0 h1_f1 x_2 x_22)) (nw := (wd_c_X4_readUnit_3 h1 h1_0 h1_f1 x_2 x_22 h1_0 h1_0k h1_0c h0 h0_0 j24_h0_f1 h0_2 h0_0 h0_0k j24_h0_0c)) hP hD [0] [4, 1, 2, 3] 4 rfl hqc (by decide +kernel) rfl hk1 hFc hP1 hD1
        generalize H1 = H at hP hS ⊢
        as_aux_lemma =>
        have h_23 := hw
        exact hU _ _ _ (J62 x_2 x_22 j24_h0_f1 j24_h0_0c g_h0_f1 (RG_w h_8 (by decide +kernel)) g_h1_f2 g_h1_f3 g_j24_h0_f1 (RG_w h_7 (by decide +kernel)) (RG_w h_23 (by decide +kernel)) _ _ _ hP hD hS (lv_sub hl [] rfl))
      · rw [h_18]
        refine lv_if_eq (tgt := 58) hx hb dX4_readUnit_35 rfl (fun c_24 => absurd c_24 (by decide +kernel)) (fun c_24 => ?_)
        refine lv_aload_n hx hb dX4_readUnit_38 rfl (lv_at hl 2 rfl) ?_
        obtain ⟨hPc, hDc, hFc, hqc⟩ := cl_cut (wc := (wd_c_X9_skip h1 h1_0 h1_f1 x_2 j24_h1_f3)) hP hD hS hA [0] (by decide +kernel) rfl
        have hKc := hK.sub (tys' := []) [] rfl
        have hrv := va_recv hKc hPc (ci := 9) (q0 := 0) rfl rfl
        refine va_callv (va_runV (As := []) (rest := []) ⟨hx, hb, hml, hown, hts⟩ (c_X9_skip l dC dI H.size h1 h1_0 h1_f1 x_2 j24_h1_f3 (RG_w h_8 (by decide +kernel)) h_7 g_j24_h1_f3) (cwV 0 hts gf_c_X4_readUnit_3_c_X9_skip rfl rfl rfl mdV_X9_skip ⟨Nat.le_of_ble_eq_true rfl, Nat.le_of_ble_eq_true rfl⟩) ⟨fun a U g mk q => by obtain ⟨q0, q1, qP, qK, qD⟩ := q; exact ⟨q0, q1, qP, va_K.moved (u := U) (U := U.calling g mk a) (Vm.Alike.refl U.vm) qK, qD⟩, hrv, fun U hU hW => ⟨rfl, by rw [hU], by rw [hU]; exact hPc, va_K.moved hW.alike hKc, hDc.weaken (fun _ _ _ _ => trivial)⟩⟩ rfl rfl hl.1 rfl (lv_room (Nat.le_of_ble_eq_true rfl)) dX4_readUnit_39 ⟨Nat.le_of_ble_eq_true rfl, Nat.le_of_ble_eq_true rfl⟩) hS (fun q _ h => hFc q h) hFc (fun x_26 t H1 locs ht hvm hw hB hz1 hk1 hS => ?_)
        obtain ⟨hP1, hK1, hD1⟩ := hB
        rw [ht] at hP1
        obtain ⟨hP, hD⟩ := cl_put (w1 := (wd_c_X9_skip h1 h1_0 h1_f1 x_26 j24_h1_f3)) (nw := (wd_c_X4_readUnit_3 h1 h1_0 h1_f1 x_26 j24_h1_f3 h1_0 h1_0k h1_0c h0 h0_0 j24_h0_f1 h0_2 h0_0 h0_0k j24_h0_0c)) hP hD [0] [4, 1, 2, 3] 4 rfl hqc (by decide +kernel) rfl hk1 hFc hP1 hD1
        generalize H1 = H at hP hS ⊢
        as_aux_lemma =>
        rcases hw with ⟨h_27, h_28, h_29⟩
        refine lv_aload_n hx hb dX4_readUnit_42 rfl (lv_at hl 1 rfl) ?_
        refine lv_aload_n hx hb dX4_readUnit_43 rfl (lv_at hl 2 rfl) ?_
        refine lv_iload_n hx hb dX4_readUnit_44 rfl (lv_at hl 3 rfl) ?_
        obtain ⟨hPc, hDc, hFc, hqc⟩ := cl_cut (wc := (wd_c_X4_readSum_2 h1 h1_0 h1_f1 x_26 j24_h1_f3 h1_0 h1_0k h1_0c h0 h0_0 j24_h0_f1 h0_2 h0_0 h0_0k j24_h0_0c)) hP hD hS hA [0, 1, 2, 3] (by decide +kernel) rfl
        have hKc := hK.sub (tys' := [(h1_0k, .int), (h0_0k, .int)]) [0, 1] rfl
        have hrv := va_recv hKc hPc (ci := 4) (q0 := 2) rfl rfl
        refine va_callv (va_runV (As := [.ref h1, .int 2]) (rest := []) ⟨hx, hb, hml, hown, hts⟩ (c_X4_readSum_2 l dC dI H.size h0 h1 h1_0 h1_f1 x_26 j24_h1_f3 h1_0k h1_0c h0_0 j24_h0_f1 h0_2 h0_0k j24_h0_0c ts4 tv4 (RG_w h_8 (by decide +kernel)) (RG_w h_27 (by decide +kernel)) g_j24_h1_f3 a_h1_0c g_j24_h0_f1) (cwV 2 hts gf_c_X4_readUnit_3_c_X4_readSum_2 rfl rfl rfl mdV_X4_readSum ⟨Nat.le_of_ble_eq_true rfl, Nat.le_of_ble_eq_true rfl⟩) ⟨fun a U g mk q => by obtain ⟨q0, q1, qP, qK, qD, qE0, qE1, qE2, qE3, qE4, qE5⟩ := q; exact ⟨q0, q1, qP, va_K.moved (u := U) (U := U.calling g mk a) (Vm.Alike.refl U.vm) qK, qD, vk_R.same rfl qE0, va_Z.moved (u := U) (U := U.calling g mk a) (Vm.Alike.refl U.vm) qE1, va_OF.moved (u := U) (U := U.calling g mk a) (Vm.Alike.refl U.vm) qE2, va_O.moved (u := U) (U := U.calling g mk a) (Vm.Alike.refl U.vm) qE3, va_OF.moved (u := U) (U := U.calling g mk a) (Vm.Alike.refl U.vm) qE4, va_T.moved (u := U) (U := U.calling g mk a) (Vm.Alike.refl U.vm) qE5⟩, hrv, fun U hU hW => ⟨rfl, by rw [hU], by rw [hU]; exact hPc, va_K.moved hW.alike hKc, hDc.weaken (fun _ _ _ _ => trivial), vk_R.warm hW hE_32, va_Z.moved hW.alike (by rw [hU]; exact (hE_10.kept hS.2.1).narrow hFc), va_OF.moved hW.alike (by rw [hU]; exact (hE_34.kept hS.2.1).narrow hFc), va_O.moved hW.alike (by rw [hU]; exact (hE_33.kept hS.2.1).narrow hFc), va_OF.moved hW.alike (by rw [hU]; exact (hE_35.kept hS.2.1).narrow hFc), va_T.moved hW.alike (by rw [hU]; exact (hE_36.kept hS.2.1).narrow hFc)⟩⟩ rfl rfl hl.1 rfl (lv_room (Nat.le_of_ble_eq_true rfl)) dX4_readUnit_45 ⟨Nat.le_of_ble_eq_true rfl, Nat.le_of_ble_eq_true rfl⟩) hS (fun q _ h => hFc q h) hFc (fun u t H1 locs ht hvm hw hB hz1 hk1 hS => ?_)
        obtain ⟨x_31, x_32, x_33, w_34⟩ := u
        obtain ⟨hP1, hK1, hD1⟩ := hB
        rw [ht] at hP1
        obtain ⟨hP, hD⟩ := cl_put (w1 := (wd_c_X4_readSum_2 h1 h1_0 h1_f1 x_31 x_32 h1_0 h1_0k h1_0c h0 h0_0 x_33 h0_2 h0_0 h0_0k w_34)) (nw := (wd_c_X4_readUnit_3 h1 h1_0 h1_f1 x_31 x_32 h1_0 h1_0k h1_0c h0 h0_0 x_33 h0_2 h0_0 h0_0k w_34)) hP hD [0, 1, 2, 3] [4, 5, 6, 7] 4 rfl hqc (by decide +kernel) rfl hk1 hFc hP1 hD1
        generalize H1 = H at hP hS ⊢
        as_aux_lemma =>
        rcases hw with ⟨h_35, h_36, h_37⟩
        refine lv_aload_n hx hb dX4_readUnit_48 rfl (lv_at hl 1 rfl) ?_
        refine lv_iload hx hb dX4_readUnit_49 (lv_at hl 0 rfl) ?_
        refine lv_ineg hx hb dX4_readUnit_51 ?_
        refine lv_topi (fun x_38 ex_38 => ?_)
        have g_39 : RG x_38 (-62) (-60) := RG_neg ex_38 h_19 (by decide +kernel)
        obtain ⟨hPc, hDc, hFc, hqc⟩ := cl_cut (wc := (wd_c_X4_emit h0 h0_0 x_33 h0_2 h0_0 h0_0k w_34)) hP hD hS hA [2, 3] (by decide +kernel) rfl
        have hKc := hK.sub (tys' := [(h0_0k, .int)]) [1] rfl
        have hrv := va_recv hKc hPc (ci := 4) (q0 := 0) rfl rfl
        refine va_callv (va_runV (As := [.int x_38]) (rest := []) ⟨hx, hb, hml, hown, hts⟩ (c_X4_emit l dC dI H.size h0 x_38 h0_0 x_33 h0_2 h0_0k w_34 h_37) (cwV 1 hts gf_c_X4_readUnit_3_c_X4_emit rfl rfl rfl mdV_X4_emit ⟨Nat.le_of_ble_eq_true rfl, Nat.le_of_ble_eq_true rfl⟩) ⟨fun a U g mk q => by obtain ⟨q0, q1, qP, qK, qD⟩ := q; exact ⟨q0, q1, qP, va_K.moved (u := U) (U := U.calling g mk a) (Vm.Alike.refl U.vm) qK, qD⟩, hrv, fun U hU hW => ⟨rfl, by rw [hU], by rw [hU]; exact hPc, va_K.moved hW.alike hKc, hDc.weaken (fun _ _ _ _ => trivial)⟩⟩ rfl rfl hl.1 rfl (lv_room (Nat.le_of_ble_eq_true rfl)) dX4_readUnit_52 ⟨Nat.le_of_ble_eq_true rfl, Nat.le_of_ble_eq_true rfl⟩) hS (fun q _ h => hFc q h) hFc (fun u t H1 locs ht hvm hw hB hz1 hk1 hS => ?_)
        obtain ⟨x_41, w_42⟩ := u
        obtain ⟨hP1, hK1, hD1⟩ := hB
        rw [ht] at hP1
        obtain ⟨hP, hD⟩ := cl_put (w1 := (wd_c_X4_emit h0 h0_0 x_41 h0_2 h0_0 h0_0k w_42)) (nw := (wd_c_X4_readUnit_3 h1 h1_0 h1_f1 x_31 x_32 h1_0 h1_0k h1_0c h0 h0_0 x_41 h0_2 h0_0 h0_0k w_42)) hP hD [2, 3] [0, 1, 4, 5] 4 rfl hqc (by decide +kernel) rfl hk1 hFc hP1 hD1
        generalize H1 = H at hP hS ⊢
        as_aux_lemma =>
        have h_43 := hw
        refine lv_goto (tgt := 62) hx hb dX4_readUnit_55 rfl ?_
        exact hU _ _ _ (J62 x_31 x_32 x_41 w_42 g_h0_f1 (RG_w h_8 (by decide +kernel)) g_h1_f2 g_h1_f3 (RG_w h_43 (by decide +kernel)) h_35 h_36 _ _ _ hP hD hS (lv_sub hl [] rfl))
  have J14 : ∀ (j14_h1_f2 : Int32) (g_h0_f1 : RG h0_f1 0 240) (g_h1_f1 : RG h1_f1 0 240) (g_h1_f2 : RG h1_f2 0 240) (g_h1_f3 : RG h1_f3 (-1) 240) (g_j14_h1_f2 : RG j14_h1_f2 0 240) (H : Heap) (locs : List Loc) (ls : Array Slot) (hP : va_P (dC, dI) vwCl (wd_c_X4_readUnit_3 h1 h1_0 h1_f1 j14_h1_f2 h1_f3 h1_0 h1_0k h1_0c h0 h0_0 h0_f1 h0_2 h0_0 h0_0k h0_0c) H) (hD : va_D A (wd_c_X4_readUnit_3 h1 h1_0 h1_f1 j14_h1_f2 h1_f3 h1_0 h1_0k h1_0c h0 h0_0 h0_f1 h0_2 h0_0 h0_0k h0_0c)) (hS : va_S A s.heap H locs) (hl : lv_has ls 5 [(0, .ref h0), (1, .ref h1), (2, .int 2), (3, .int 0)]), G H locs (F0 m 14 ls []) := by
    as_aux_lemma =>
    intro j14_h1_f2 g_h0_f1 g_h1_f1 g_h1_f2 g_h1_f3 g_j14_h1_f2 H locs ls hP hD hS hl
    refine hG _ _ _ ?_
    refine lv_iload_n hx hb dX4_readUnit_14 rfl (lv_at hl 3 rfl) ?_
    refine lv_if_ne (tgt := 24) hx hb dX4_readUnit_15 rfl (fun c_44 => absurd c_44 (by decide +kernel)) (fun c_44 => ?_)
    refine lv_aload_n hx hb dX4_readUnit_18 rfl (lv_at hl 0 rfl) ?_
    refine lv_aload_n hx hb dX4_readUnit_19 rfl (lv_at hl 1 rfl) ?_
    refine lv_iload_n hx hb dX4_readUnit_20 rfl (lv_at hl 2 rfl) ?_
    obtain ⟨hPc, hDc, hFc, hqc⟩ := cl_cut (wc := (wd_c_X4_readSum_2 h1 h1_0 h1_f1 j14_h1_f2 h1_f3 h1_0 h1_0k h1_0c h0 h0_0 h0_f1 h0_2 h0_0 h0_0k h0_0c)) hP hD hS hA [0, 1, 2, 3] (by decide +kernel) rfl
    have hKc := hK.sub (tys' := [(h1_0k, .int), (h0_0k, .int)]) [0, 1] rfl
    have hrv := va_recv hKc hPc (ci := 4) (q0 := 2) rfl rfl
    refine va_callv (va_runV (As := [.ref h1, .int 2]) (rest := []) ⟨hx, hb, hml, hown, hts⟩ (c_X4_readSum_2 l dC dI H.size h0 h1 h1_0 h1_f1 j14_h1_f2 h1_f3 h1_0k h1_0c h0_0 h0_f1 h0_2 h0_0k h0_0c ts4 tv4 g_h1_f1 g_j14_h1_f2 g_h1_f3 a_h1_0c g_h0_f1) (cwV 2 hts gf_c_X4_readUnit_3_c_X4_readSum_2 rfl rfl rfl mdV_X4_readSum ⟨Nat.le_of_ble_eq_true rfl, Nat.le_of_ble_eq_true rfl⟩) ⟨fun a U g mk q => by obtain ⟨q0, q1, qP, qK, qD, qE0, qE1, qE2, qE3, qE4, qE5⟩ := q; exact ⟨q0, q1, qP, va_K.moved (u := U) (U := U.calling g mk a) (Vm.Alike.refl U.vm) qK, qD, vk_R.same rfl qE0, va_Z.moved (u := U) (U := U.calling g mk a) (Vm.Alike.refl U.vm) qE1, va_OF.moved (u := U) (U := U.calling g mk a) (Vm.Alike.refl U.vm) qE2, va_O.moved (u := U) (U := U.calling g mk a) (Vm.Alike.refl U.vm) qE3, va_OF.moved (u := U) (U := U.calling g mk a) (Vm.Alike.refl U.vm) qE4, va_T.moved (u := U) (U := U.calling g mk a) (Vm.Alike.refl U.vm) qE5⟩, hrv, fun U hU hW => ⟨rfl, by rw [hU], by rw [hU]; exact hPc, va_K.moved hW.alike hKc, hDc.weaken (fun _ _ _ _ => trivial), vk_R.warm hW hE_32, va_Z.moved hW.alike (by rw [hU]; exact (hE_10.kept hS.2.1).narrow hFc), va_OF.moved hW.alike (by rw [hU]; exact (hE_34.kept hS.2.1).narrow hFc), va_O.moved hW.alike (by rw [hU]; exact (hE_33.kept hS.2.1).narrow hFc), va_OF.moved hW.alike (by rw [hU]; exact (hE_35.kept hS.2.1).narrow hFc), va_T.moved hW.alike (by rw [hU]; exact (hE_36.kept hS.2.1).narrow hFc)⟩⟩ rfl rfl hl.1 rfl (lv_room (Nat.le_of_ble_eq_true rfl)) dX4_readUnit_21 ⟨Nat.le_of_ble_eq_true rfl, Nat.le_of_ble_eq_true rfl⟩) hS (fun q _ h => hFc q h) hFc (fun u t H1 locs ht hvm hw hB hz1 hk1 hS => ?_)
    obtain ⟨x_46, x_47, x_48, w_49⟩ := u
    obtain ⟨hP1, hK1, hD1⟩ := hB
    rw [ht] at hP1
    obtain ⟨hP, hD⟩ := cl_put (w1 := (wd_c_X4_readSum_2 h1 h1_0 h1_f1 x_46 x_47 h1_0 h1_0k h1_0c h0 h0_0 x_48 h0_2 h0_0 h0_0k w_49)) (nw := (wd_c_X4_readUnit_3 h1 h1_0 h1_f1 x_46 x_47 h1_0 h1_0k h1_0c h0 h0_0 x_48 h0_2 h0_0 h0_0k w_49)) hP hD [0, 1, 2, 3] [4, 5, 6, 7] 4 rfl hqc (by decide +kernel) rfl hk1 hFc hP1 hD1
    generalize H1 = H at hP hS ⊢
    as_aux_lemma =>
    rcases hw with ⟨h_50, h_51, h_52⟩
    exact hU _ _ _ (J24 x_46 x_47 x_48 w_49 g_h0_f1 g_h1_f1 g_h1_f2 g_h1_f3 h_52 h_50 h_51 _ _ _ hP hD hS (lv_sub hl [0, 1, 2] rfl))
  refine hG _ _ _ ?_
  refine lv_iload_n hx hb dX4_readUnit_0 rfl (lv_at hl 3 rfl) ?_
  refine lv_if_ne (tgt := 14) hx hb dX4_readUnit_1 rfl (fun c_53 => absurd c_53 (by decide +kernel)) (fun c_53 => ?_)
  refine lv_aload_n hx hb dX4_readUnit_4 rfl (lv_at hl 1 rfl) ?_
  obtain ⟨hPc, hDc, hFc, hqc⟩ := cl_cut (wc := (wd_c_X9_peek h1 h1_0 h1_f1 h1_f2 h1_f3 h1_0 h1_0k h1_0c)) hP hD hS hA [0, 1] (by decide +kernel) rfl
  have hKc := hK.sub (tys' := [(h1_0k, .int)]) [0] rfl
  have hrv := va_recv hKc hPc (ci := 9) (q0 := 0) rfl rfl
  refine va_calli (va_runV (As := []) (rest := []) ⟨hx, hb, hml, hown, hts⟩ (c_X9_peek l dC dI H.size h1 h1_0 h1_f1 h1_f2 h1_f3 h1_0k h1_0c g_h1_f1 g_h1_f2 g_h1_f3 a_h1_0c) (cwV 0 hts gf_c_X4_readUnit_3_c_X9_peek rfl rfl rfl mdV_X9_peek ⟨Nat.le_of_ble_eq_true rfl, Nat.le_of_ble_eq_true rfl⟩) ⟨fun a U g mk q => by obtain ⟨q0, q1, qP, qK, qD⟩ := q; exact ⟨q0, q1, qP, va_K.moved (u := U) (U := U.calling g mk a) (Vm.Alike.refl U.vm) qK, qD⟩, hrv, fun U hU hW => ⟨rfl, by rw [hU], by rw [hU]; exact hPc, va_K.moved hW.alike hKc, hDc.weaken (fun _ _ _ _ => trivial)⟩⟩ rfl rfl hl.1 rfl (lv_room (Nat.le_of_ble_eq_true rfl)) dX4_readUnit_5 ⟨Nat.le_of_ble_eq_true rfl, Nat.le_of_ble_eq_true rfl⟩) hS (fun q _ h => hFc q h) hFc (fun r_54 x_55 t H1 locs ht hvm hw hB hz1 hk1 hS => ?_)
  obtain ⟨hP1, hK1, hD1⟩ := hB
  rw [ht] at hP1
  obtain ⟨hP, hD⟩ := cl_put (w1 := (wd_c_X9_peek h1 h1_0 h1_f1 x_55 h1_f3 h1_0 h1_0k h1_0c)) (nw := (wd_c_X4_readUnit_3 h1 h1_0 h1_f1 x_55 h1_f3 h1_0 h1_0k h1_0c h0 h0_0 h0_f1 h0_2 h0_0 h0_0k h0_0c)) hP hD [0, 1] [4, 5, 2, 3] 4 rfl hqc (by decide +kernel) rfl hk1 hFc hP1 hD1
  generalize H1 = H at hP hS ⊢
  as_aux_lemma =>
  rcases hw with ⟨h_56, h_57, h_58⟩ | ⟨h_59, h_60, h_61, h_62⟩
  · rw [h_56]
    obtain ⟨hPc, hDc, hFc, hqc⟩ := cl_cut (wc := []) hP hD hS hA [] (by decide +kernel) rfl
    have hKc := hK.sub (tys' := []) [] rfl
    refine va_calli (va_runS (As := [.int (-1)]) (rest := []) ⟨hx, hb, hml, hown, hts⟩ (c_X4_startsUnit l dC dI H.size (-1) (RG_k (-1) (-1) rfl)) (va_cwS 1 hts gf_c_X4_readUnit_3_c_X4_startsUnit rfl rfl rfl md_X4_startsUnit ⟨Nat.le_of_ble_eq_true rfl, Nat.le_of_ble_eq_true rfl⟩) ⟨fun a U g mk q => by obtain ⟨q0, q1, qP, qK, qD⟩ := q; exact ⟨q0, q1, qP, va_K.moved (u := U) (U := U.calling g mk a) (Vm.Alike.refl U.vm) qK, qD⟩, fun U hU hW => ⟨rfl, by rw [hU], by rw [hU]; exact hPc, va_K.moved hW.alike hKc, hDc.weaken (fun _ _ _ _ => trivial)⟩⟩ rfl rfl hl.1 rfl (lv_room (Nat.le_of_ble_eq_true rfl)) dX4_readUnit_8 ⟨Nat.le_of_ble_eq_true rfl, Nat.le_of_ble_eq_true rfl⟩) hS (fun q _ h => hFc q h) hFc (fun r_63 u t H1 locs ht hvm hw hB hz1 hk1 hS => ?_)
    obtain ⟨hP1, hK1, hD1⟩ := hB
    rw [ht] at hP1
    have hP := bv_still hP hk1
    generalize H1 = H at hP hS ⊢
    as_aux_lemma =>
    have h_64 := hw
    rw [h_64]
    refine lv_if_ne (tgt := 65) hx hb dX4_readUnit_11 rfl (fun c_65 => absurd c_65 (by decide +kernel)) (fun c_65 => ?_)
    exact hU _ _ _ (J14 x_55 g_h0_f1 g_h1_f1 g_h1_f2 g_h1_f3 h_57 _ _ _ hP hD hS (lv_sub hl [0, 1, 2, 3] rfl))
  · obtain ⟨hPc, hDc, hFc, hqc⟩ := cl_cut (wc := []) hP hD hS hA [] (by decide +kernel) rfl
    have hKc := hK.sub (tys' := []) [] rfl
    refine va_calli (va_runS (As := [.int r_54]) (rest := []) ⟨hx, hb, hml, hown, hts⟩ (c_X4_startsUnit_1 l dC dI H.size r_54 h_59) (va_cwS 1 hts gf_c_X4_readUnit_3_c_X4_startsUnit_1 rfl rfl rfl md_X4_startsUnit ⟨Nat.le_of_ble_eq_true rfl, Nat.le_of_ble_eq_true rfl⟩) ⟨fun a U g mk q => by obtain ⟨q0, q1, qP, qK, qD⟩ := q; exact ⟨q0, q1, qP, va_K.moved (u := U) (U := U.calling g mk a) (Vm.Alike.refl U.vm) qK, qD⟩, fun U hU hW => ⟨rfl, by rw [hU], by rw [hU]; exact hPc, va_K.moved hW.alike hKc, hDc.weaken (fun _ _ _ _ => trivial)⟩⟩ rfl rfl hl.1 rfl (lv_room (Nat.le_of_ble_eq_true rfl)) dX4_readUnit_8 ⟨Nat.le_of_ble_eq_true rfl, Nat.le_of_ble_eq_true rfl⟩) hS (fun q _ h => hFc q h) hFc (fun r_66 u t H1 locs ht hvm hw hB hz1 hk1 hS => ?_)
    obtain ⟨hP1, hK1, hD1⟩ := hB
    rw [ht] at hP1
    have hP := bv_still hP hk1
    generalize H1 = H at hP hS ⊢
    as_aux_lemma =>
    rcases hw with h_67 | ⟨h_68, h_69⟩
    · rw [h_67]
      refine lv_if_ne (tgt := 65) hx hb dX4_readUnit_11 rfl (fun c_70 => absurd c_70 (by decide +kernel)) (fun c_70 => ?_)
      exact hU _ _ _ (J14 x_55 g_h0_f1 (RG_w h_61 (by decide +kernel)) g_h1_f2 g_h1_f3 (RG_w h_60 (by decide +kernel)) _ _ _ hP hD hS (lv_sub hl [0, 1, 2, 3] rfl))
    · rw [h_68]
      refine lv_if_ne (tgt := 65) hx hb dX4_readUnit_11 rfl (fun c_71 => ?_) (fun c_71 => absurd c_71 (by decide +kernel))
      refine lv_iload_n hx hb dX4_readUnit_65 rfl (lv_at hl 2 rfl) ?_
      refine lv_bipush (v := 6) hx hb dX4_readUnit_66 kc_bipush_6 ?_
      refine lv_icmp_lt (tgt := 78) hx hb dX4_readUnit_68 rfl (fun c_72 => ?_) (fun c_72 => absurd c_72 (by decide +kernel))
      refine lv_aload_n hx hb dX4_readUnit_78 rfl (lv_at hl 1 rfl) ?_
      refine lv_bipush (v := 33) hx hb dX4_readUnit_79 kc_bipush_33 ?_
      obtain ⟨hPc, hDc, hFc, hqc⟩ := cl_cut (wc := (wd_c_X9_take h1 h1_0 h1_f1 x_55 h1_f3 h1_0 h1_0k h1_0c)) hP hD hS hA [0, 1] (by decide +kernel) rfl
      have hKc := hK.sub (tys' := [(h1_0k, .int)]) [0] rfl
      have hrv := va_recv hKc hPc (ci := 9) (q0 := 0) rfl rfl
      refine va_calli (va_runV (As := [.int 33]) (rest := []) ⟨hx, hb, hml, hown, hts⟩ (c_X9_take l dC dI H.size h1 33 h1_0 h1_f1 x_55 h1_f3 h1_0k h1_0c (RG_w (RG_k 33 33 rfl) (by decide +kernel)) (RG_w h_61 (by decide +kernel)) (RG_w h_60 (by decide +kernel)) g_h1_f3 a_h1_0c) (cwV 1 hts gf_c_X4_readUnit_3_c_X9_take rfl rfl rfl mdV_X9_take ⟨Nat.le_of_ble_eq_true rfl, Nat.le_of_ble_eq_true rfl⟩) ⟨fun a U g mk q => by obtain ⟨q0, q1, qP, qK, qD⟩ := q; exact ⟨q0, q1, qP, va_K.moved (u := U) (U := U.calling g mk a) (Vm.Alike.refl U.vm) qK, qD⟩, hrv, fun U hU hW => ⟨rfl, by rw [hU], by rw [hU]; exact hPc, va_K.moved hW.alike hKc, hDc.weaken (fun _ _ _ _ => trivial)⟩⟩ rfl rfl hl.1 rfl (lv_room (Nat.le_of_ble_eq_true rfl)) dX4_readUnit_81 ⟨Nat.le_of_ble_eq_true rfl, Nat.le_of_ble_eq_true rfl⟩) hS (fun q _ h => hFc q h) hFc (fun r_73 x_74 t H1 locs ht hvm hw hB hz1 hk1 hS => ?_)
      as_aux_lemma =>
      obtain ⟨hP1, hK1, hD1⟩ := hB
      rw [ht] at hP1
      obtain ⟨hP, hD⟩ := cl_put (w1 := (wd_c_X9_take h1 h1_0 h1_f1 x_74 h1_f3 h1_0 h1_0k h1_0c)) (nw := (wd_c_X4_readUnit_3 h1 h1_0 h1_f1 x_74 h1_f3 h1_0 h1_0k h1_0c h0 h0_0 h0_f1 h0_2 h0_0 h0_0k h0_0c)) hP hD [0, 1] [4, 5, 2, 3] 4 rfl hqc (by decide +kernel) rfl hk1 hFc hP1 hD1
      generalize H1 = H at hP hS ⊢
      as_aux_lemma =>
      rcases hw with ⟨h_75, h_76, h_77⟩ | ⟨h_78, h_79, h_80, h_81, h_82⟩
      · rw [h_75]
        refine lv_if_eq (tgt := 105) hx hb dX4_readUnit_84 rfl (fun c_83 => ?_) (fun c_83 => absurd c_83 (by decide +kernel))
        refine lv_aload_n hx hb dX4_readUnit_105 rfl (lv_at hl 1 rfl) ?_
        refine lv_bipush (v := 40) hx hb dX4_readUnit_106 kc_bipush_40 ?_
        obtain ⟨hPc, hDc, hFc, hqc⟩ := cl_cut (wc := (wd_c_X9_expect_1 h1 h1_0 h1_f1 x_74 h1_f3 h1_0 h1_0k h1_0c)) hP hD hS hA [0, 1] (by decide +kernel) rfl
        have hKc := hK.sub (tys' := [(h1_0k, .int)]) [0] rfl
        have hrv := va_recv hKc hPc (ci := 9) (q0 := 0) rfl rfl
        refine va_callv (va_runV (As := [.int 40]) (rest := []) ⟨hx, hb, hml, hown, hts⟩ (c_X9_expect_1 l dC dI H.size h1 40 h1_0 h1_f1 x_74 h1_f3 h1_0k h1_0c (RG_w (RG_k 40 40 rfl) (by decide +kernel)) (RG_w h_61 (by decide +kernel)) h_76 g_h1_f3 a_h1_0c) (cwV 1 hts gf_c_X4_readUnit_3_c_X9_expect_1 rfl rfl rfl mdV_X9_expect ⟨Nat.le_of_ble_eq_true rfl, Nat.le_of_ble_eq_true rfl⟩) ⟨fun a U g mk q => by obtain ⟨q0, q1, qP, qK, qD⟩ := q; exact ⟨q0, q1, qP, va_K.moved (u := U) (U := U.calling g mk a) (Vm.Alike.refl U.vm) qK, qD⟩, hrv, fun U hU hW => ⟨rfl, by rw [hU], by rw [hU]; exact hPc, va_K.moved hW.alike hKc, hDc.weaken (fun _ _ _ _ => trivial)⟩⟩ rfl rfl hl.1 rfl (lv_room (Nat.le_of_ble_eq_true rfl)) dX4_readUnit_108 ⟨Nat.le_of_ble_eq_true rfl, Nat.le_of_ble_eq_true rfl⟩) hS (fun q _ h => hFc q h) hFc (fun u t H1 locs ht hvm hw hB hz1 hk1 hS => ?_)
        obtain ⟨x_85, x_86⟩ := u
        obtain ⟨hP1, hK1, hD1⟩ := hB
        rw [ht] at hP1
        obtain ⟨hP, hD⟩ := cl_put (w1 := (wd_c_X9_expect_1 h1 h1_0 h1_f1 x_85 x_86 h1_0 h1_0k h1_0c)) (nw := (wd_c_X4_readUnit_3 h1 h1_0 h1_f1 x_85 x_86 h1_0 h1_0k h1_0c h0 h0_0 h0_f1 h0_2 h0_0 h0_0k h0_0c)) hP hD [0, 1] [4, 5, 2, 3] 4 rfl hqc (by decide +kernel) rfl hk1 hFc hP1 hD1
        generalize H1 = H at hP hS ⊢
        as_aux_lemma =>
        rcases hw with ⟨h_87, h_88, h_89⟩
        refine lv_aload_n hx hb dX4_readUnit_111 rfl (lv_at hl 0 rfl) ?_
        refine lv_aload_n hx hb dX4_readUnit_112 rfl (lv_at hl 1 rfl) ?_
        refine lv_iload_n hx hb dX4_readUnit_113 rfl (lv_at hl 2 rfl) ?_
        refine lv_iconst (v := 1) hx hb dX4_readUnit_114 kc_iconst_1 ?_
        refine lv_iadd hx hb dX4_readUnit_115 ?_
        refine lv_topi (fun x_90 ex_90 => ?_)
        obtain rfl : x_90 = 3 := ex_90.trans (by decide +kernel)
        refine lv_iconst (v := 0) hx hb dX4_readUnit_116 kc_iconst_0 ?_
        obtain ⟨hPc, hDc, hFc, hqc⟩ := cl_cut (wc := (wd_c_X4_readCondition_3 h1 h1_0 h1_f1 x_85 x_86 h1_0 h1_0k h1_0c h0 h0_0 h0_f1 h0_2 h0_0 h0_0k h0_0c)) hP hD hS hA [0, 1, 2, 3] (by decide +kernel) rfl
        have hKc := hK.sub (tys' := [(h1_0k, .int), (h0_0k, .int)]) [0, 1] rfl
        have hrv := va_recv hKc hPc (ci := 4) (q0 := 2) rfl rfl
        refine va_callv (va_runV (As := [.ref h1, .int 3, .int 0]) (rest := []) ⟨hx, hb, hml, hown, hts⟩ (c_X4_readCondition_3 l dC dI H.size h0 h1 h1_0 h1_f1 x_85 x_86 h1_0k h1_0c h0_0 h0_f1 h0_2 h0_0k h0_0c ts4 tv4 (RG_w h_61 (by decide +kernel)) h_87 h_88 a_h1_0c g_h0_f1) (cwV 3 hts gf_c_X4_readUnit_3_c_X4_readCondition_3 rfl rfl rfl mdV_X4_readCondition ⟨Nat.le_of_ble_eq_true rfl, Nat.le_of_ble_eq_true rfl⟩) ⟨fun a U g mk q => by obtain ⟨q0, q1, qP, qK, qD, qE0, qE1, qE2, qE3, qE4, qE5⟩ := q; exact ⟨q0, q1, qP, va_K.moved (u := U) (U := U.calling g mk a) (Vm.Alike.refl U.vm) qK, qD, vk_R.same rfl qE0, va_Z.moved (u := U) (U := U.calling g mk a) (Vm.Alike.refl U.vm) qE1, va_OF.moved (u := U) (U := U.calling g mk a) (Vm.Alike.refl U.vm) qE2, va_O.moved (u := U) (U := U.calling g mk a) (Vm.Alike.refl U.vm) qE3, va_OF.moved (u := U) (U := U.calling g mk a) (Vm.Alike.refl U.vm) qE4, va_T.moved (u := U) (U := U.calling g mk a) (Vm.Alike.refl U.vm) qE5⟩, hrv, fun U hU hW => ⟨rfl, by rw [hU], by rw [hU]; exact hPc, va_K.moved hW.alike hKc, hDc.weaken (fun _ _ _ _ => trivial), vk_R.warm hW hE_32, va_Z.moved hW.alike (by rw [hU]; exact (hE_10.kept hS.2.1).narrow hFc), va_OF.moved hW.alike (by rw [hU]; exact (hE_34.kept hS.2.1).narrow hFc), va_O.moved hW.alike (by rw [hU]; exact (hE_33.kept hS.2.1).narrow hFc), va_OF.moved hW.alike (by rw [hU]; exact (hE_35.kept hS.2.1).narrow hFc), va_T.moved hW.alike (by rw [hU]; exact (hE_36.kept hS.2.1).narrow hFc)⟩⟩ rfl rfl hl.1 rfl (lv_room (Nat.le_of_ble_eq_true rfl)) dX4_readUnit_117 ⟨Nat.le_of_ble_eq_true rfl, Nat.le_of_ble_eq_true rfl⟩) hS (fun q _ h => hFc q h) hFc (fun u t H1 locs ht hvm hw hB hz1 hk1 hS => ?_)
        obtain ⟨x_92, x_93, x_94, w_95⟩ := u
        obtain ⟨hP1, hK1, hD1⟩ := hB
        rw [ht] at hP1
        obtain ⟨hP, hD⟩ := cl_put (w1 := (wd_c_X4_readCondition_3 h1 h1_0 h1_f1 x_92 x_93 h1_0 h1_0k h1_0c h0 h0_0 x_94 h0_2 h0_0 h0_0k w_95)) (nw := (wd_c_X4_readUnit_3 h1 h1_0 h1_f1 x_92 x_93 h1_0 h1_0k h1_0c h0 h0_0 x_94 h0_2 h0_0 h0_0k w_95)) hP hD [0, 1, 2, 3] [4, 5, 6, 7] 4 rfl hqc (by decide +kernel) rfl hk1 hFc hP1 hD1
        generalize H1 = H at hP hS ⊢
        as_aux_lemma =>
        rcases hw with ⟨h_96, h_97, h_98⟩
        refine lv_aload_n hx hb dX4_readUnit_120 rfl (lv_at hl 1 rfl) ?_
        refine lv_bipush (v := 41) hx hb dX4_readUnit_121 kc_bipush_41 ?_
        obtain ⟨hPc, hDc, hFc, hqc⟩ := cl_cut (wc := (wd_c_X9_expect_1 h1 h1_0 h1_f1 x_92 x_93 h1_0 h1_0k h1_0c)) hP hD hS hA [0, 1] (by decide +kernel) rfl
        have hKc := hK.sub (tys' := [(h1_0k, .int)]) [0] rfl
        have hrv := va_recv hKc hPc (ci := 9) (q0 := 0) rfl rfl
        refine va_callv (va_runV (As := [.int 41]) (rest := []) ⟨hx, hb, hml, hown, hts⟩ (c_X9_expect_1 l dC dI H.size h1 41 h1_0 h1_f1 x_92 x_93 h1_0k h1_0c (RG_w (RG_k 41 41 rfl) (by decide +kernel)) (RG_w h_61 (by decide +kernel)) h_96 h_97 a_h1_0c) (cwV 1 hts gf_c_X4_readUnit_3_c_X9_expect_1 rfl rfl rfl mdV_X9_expect ⟨Nat.le_of_ble_eq_true rfl, Nat.le_of_ble_eq_true rfl⟩) ⟨fun a U g mk q => by obtain ⟨q0, q1, qP, qK, qD⟩ := q; exact ⟨q0, q1, qP, va_K.moved (u := U) (U := U.calling g mk a) (Vm.Alike.refl U.vm) qK, qD⟩, hrv, fun U hU hW => ⟨rfl, by rw [hU], by rw [hU]; exact hPc, va_K.moved hW.alike hKc, hDc.weaken (fun _ _ _ _ => trivial)⟩⟩ rfl rfl hl.1 rfl (lv_room (Nat.le_of_ble_eq_true rfl)) dX4_readUnit_123 ⟨Nat.le_of_ble_eq_true rfl, Nat.le_of_ble_eq_true rfl⟩) hS (fun q _ h => hFc q h) hFc (fun u t H1 locs ht hvm hw hB hz1 hk1 hS => ?_)
        obtain ⟨x_100, x_101⟩ := u
        obtain ⟨hP1, hK1, hD1⟩ := hB
        rw [ht] at hP1
        obtain ⟨hP, hD⟩ := cl_put (w1 := (wd_c_X9_expect_1 h1 h1_0 h1_f1 x_100 x_101 h1_0 h1_0k h1_0c)) (nw := (wd_c_X4_readUnit_3 h1 h1_0 h1_f1 x_100 x_101 h1_0 h1_0k h1_0c h0 h0_0 x_94 h0_2 h0_0 h0_0k w_95)) hP hD [0, 1] [4, 5, 2, 3] 4 rfl hqc (by decide +kernel) rfl hk1 hFc hP1 hD1
        generalize H1 = H at hP hS ⊢
        as_aux_lemma =>
        rcases hw with ⟨h_102, h_103, h_104⟩
        have hK9 := hK.sub (tys' := []) [] rfl
        exact W.vret hx hb hr (fun t ht hW => ⟨⟨(x_100, x_101, x_94, w_95), rfl, ⟨h_102, h_103, h_98⟩, by rw [ht]; exact hP, va_K.moved hW.alike hK9, hD⟩, hS.F ht⟩) hS.2.2 dX4_readUnit_126
      · rw [h_78]
        refine lv_if_eq (tgt := 105) hx hb dX4_readUnit_84 rfl (fun c_105 => absurd c_105 (by decide +kernel)) (fun c_105 => ?_)
        refine lv_aload_n hx hb dX4_readUnit_87 rfl (lv_at hl 0 rfl) ?_
        refine lv_aload_n hx hb dX4_readUnit_88 rfl (lv_at hl 1 rfl) ?_
        refine lv_iload_n hx hb dX4_readUnit_89 rfl (lv_at hl 2 rfl) ?_
        refine lv_iconst (v := 1) hx hb dX4_readUnit_90 kc_iconst_1 ?_
        refine lv_iadd hx hb dX4_readUnit_91 ?_
        refine lv_topi (fun x_106 ex_106 => ?_)
        obtain rfl : x_106 = 3 := ex_106.trans (by decide +kernel)
        refine lv_iconst (v := 0) hx hb dX4_readUnit_92 kc_iconst_0 ?_
        obtain ⟨hPc, hDc, hFc, hqc⟩ := cl_cut (wc := (wd_c_X4_readUnit_4 h1 h1_0 h1_f1 x_74 h1_f3 h1_0 h1_0k h1_0c h0 h0_0 h0_f1 h0_2 h0_0 h0_0k h0_0c)) hP hD hS hA [0, 1, 2, 3] (by decide +kernel) rfl
        have hKc := hK.sub (tys' := [(h1_0k, .int), (h0_0k, .int)]) [0, 1] rfl
        have hrv := va_recv hKc hPc (ci := 4) (q0 := 2) rfl rfl
        refine va_callv (va_runV (As := [.ref h1, .int 3, .int 0]) (rest := []) ⟨hx, hb, hml, hown, hts⟩ (c_X4_readUnit_4 l dC dI H.size h0 h1 h1_0 h1_f1 x_74 h1_f3 h1_0k h1_0c h0_0 h0_f1 h0_2 h0_0k h0_0c ts4 tv4 (RG_w h_61 (by decide +kernel)) (RG_w h_79 (by decide +kernel)) (RG_w h_81 (by decide +kernel)) a_h1_0c g_h0_f1) (cwV 3 hts gf_c_X4_readUnit_3_c_X4_readUnit_4 rfl rfl rfl mdV_X4_readUnit ⟨Nat.le_of_ble_eq_true rfl, Nat.le_of_ble_eq_true rfl⟩) ⟨fun a U g mk q => by obtain ⟨q0, q1, qP, qK, qD, qE0, qE1, qE2, qE3, qE4, qE5⟩ := q; exact ⟨q0, q1, qP, va_K.moved (u := U) (U := U.calling g mk a) (Vm.Alike.refl U.vm) qK, qD, vk_R.same rfl qE0, va_Z.moved (u := U) (U := U.calling g mk a) (Vm.Alike.refl U.vm) qE1, va_OF.moved (u := U) (U := U.calling g mk a) (Vm.Alike.refl U.vm) qE2, va_O.moved (u := U) (U := U.calling g mk a) (Vm.Alike.refl U.vm) qE3, va_OF.moved (u := U) (U := U.calling g mk a) (Vm.Alike.refl U.vm) qE4, va_T.moved (u := U) (U := U.calling g mk a) (Vm.Alike.refl U.vm) qE5⟩, hrv, fun U hU hW => ⟨rfl, by rw [hU], by rw [hU]; exact hPc, va_K.moved hW.alike hKc, hDc.weaken (fun _ _ _ _ => trivial), vk_R.warm hW hE_32, va_Z.moved hW.alike (by rw [hU]; exact (hE_10.kept hS.2.1).narrow hFc), va_OF.moved hW.alike (by rw [hU]; exact (hE_34.kept hS.2.1).narrow hFc), va_O.moved hW.alike (by rw [hU]; exact (hE_33.kept hS.2.1).narrow hFc), va_OF.moved hW.alike (by rw [hU]; exact (hE_35.kept hS.2.1).narrow hFc), va_T.moved hW.alike (by rw [hU]; exact (hE_36.kept hS.2.1).narrow hFc)⟩⟩ rfl rfl hl.1 rfl (lv_room (Nat.le_of_ble_eq_true rfl)) dX4_readUnit_93 ⟨Nat.le_of_ble_eq_true rfl, Nat.le_of_ble_eq_true rfl⟩) hS (fun q _ h => hFc q h) hFc (fun u t H1 locs ht hvm hw hB hz1 hk1 hS => ?_)
        as_aux_lemma =>
        obtain ⟨x_108, x_109, x_110, w_111⟩ := u
        obtain ⟨hP1, hK1, hD1⟩ := hB
        rw [ht] at hP1
        obtain ⟨hP, hD⟩ := cl_put (w1 := (wd_c_X4_readUnit_4 h1 h1_0 h1_f1 x_108 x_109 h1_0 h1_0k h1_0c h0 h0_0 x_110 h0_2 h0_0 h0_0k w_111)) (nw := (wd_c_X4_readUnit_3 h1 h1_0 h1_f1 x_108 x_109 h1_0 h1_0k h1_0c h0 h0_0 x_110 h0_2 h0_0 h0_0k w_111)) hP hD [0, 1, 2, 3] [4, 5, 6, 7] 4 rfl hqc (by decide +kernel) rfl hk1 hFc hP1 hD1
        generalize H1 = H at hP hS ⊢
        as_aux_lemma =>
        rcases hw with ⟨h_112, h_113, h_114⟩
        refine lv_aload_n hx hb dX4_readUnit_96 rfl (lv_at hl 0 rfl) ?_
        refine lv_bipush (v := (-33)) hx hb dX4_readUnit_97 kc_bipush_m33 ?_
        obtain ⟨hPc, hDc, hFc, hqc⟩ := cl_cut (wc := (wd_c_X4_emit h0 h0_0 x_110 h0_2 h0_0 h0_0k w_111)) hP hD hS hA [2, 3] (by decide +kernel) rfl
        have hKc := hK.sub (tys' := [(h0_0k, .int)]) [1] rfl
        have hrv := va_recv hKc hPc (ci := 4) (q0 := 0) rfl rfl
        refine va_callv (va_runV (As := [.int (-33)]) (rest := []) ⟨hx, hb, hml, hown, hts⟩ (c_X4_emit l dC dI H.size h0 (-33) h0_0 x_110 h0_2 h0_0k w_111 h_114) (cwV 1 hts gf_c_X4_readUnit_3_c_X4_emit rfl rfl rfl mdV_X4_emit ⟨Nat.le_of_ble_eq_true rfl, Nat.le_of_ble_eq_true rfl⟩) ⟨fun a U g mk q => by obtain ⟨q0, q1, qP, qK, qD⟩ := q; exact ⟨q0, q1, qP, va_K.moved (u := U) (U := U.calling g mk a) (Vm.Alike.refl U.vm) qK, qD⟩, hrv, fun U hU hW => ⟨rfl, by rw [hU], by rw [hU]; exact hPc, va_K.moved hW.alike hKc, hDc.weaken (fun _ _ _ _ => trivial)⟩⟩ rfl rfl hl.1 rfl (lv_room (Nat.le_of_ble_eq_true rfl)) dX4_readUnit_99 ⟨Nat.le_of_ble_eq_true rfl, Nat.le_of_ble_eq_true rfl⟩) hS (fun q _ h => hFc q h) hFc (fun u t H1 locs ht hvm hw hB hz1 hk1 hS => ?_)
        obtain ⟨x_116, w_117⟩ := u
        obtain ⟨hP1, hK1, hD1⟩ := hB
        rw [ht] at hP1
        obtain ⟨hP, hD⟩ := cl_put (w1 := (wd_c_X4_emit h0 h0_0 x_116 h0_2 h0_0 h0_0k w_117)) (nw := (wd_c_X4_readUnit_3 h1 h1_0 h1_f1 x_108 x_109 h1_0 h1_0k h1_0c h0 h0_0 x_116 h0_2 h0_0 h0_0k w_117)) hP hD [2, 3] [0, 1, 4, 5] 4 rfl hqc (by decide +kernel) rfl hk1 hFc hP1 hD1
        generalize H1 = H at hP hS ⊢
        as_aux_lemma =>
        have h_118 := hw
        refine lv_goto (tgt := 126) hx hb dX4_readUnit_102 rfl ?_
        have hK9 := hK.sub (tys' := []) [] rfl
        exact W.vret hx hb hr (fun t ht hW => ⟨⟨(x_108, x_109, x_116, w_117), rfl, ⟨h_112, h_113, (RG_w h_118 (by decide +kernel))⟩, by rw [ht]; exact hP, va_K.moved hW.alike hK9, hD⟩, hS.F ht⟩) hS.2.2 dX4_readUnit_126
noncomputable def wd_c_X4_readCondition_2 (a0 : Nat) (a1 : Nat) (a2 : Int32) (a3 : Int32) (a4 : Int32) (a5 : Nat) (a6 : ClassId) (a7 : Nat → Int32) (a8 : Nat) (a9 : Nat) (a10 : Int32) (a11 : Nat) (a12 : Nat) (a13 : ClassId) (a14 : Nat → Int32) : va_W := [(a0, .inr (9, [.ref a1, .int a2, .int a3, .int a4])), (a5, .inl (a6, 240, .inl a7)), (a8, .inr (4, [.ref a9, .int a10, .ref a11])), (a12, .inl (a13, 240, .inl a14))]
noncomputable def wf_c_X4_readCondition_2 : List Cond := List.cons (.code yX4_readCondition cX4_readCondition 7 none) (@HAppend.hAppend (List Cond) (List Cond) (List Cond) _ (@HAppend.hAppend (List Cond) (List Cond) (List Cond) _ [.methodLink RX4 72 yX9_isRight, .instanceMethod yX9_isRight, .selects RX9 yX9_isRight yX9_isRight, .initialized RX9, .code yX9_isRight cX9_isRight 1 (some .boolean), .fieldLink RX9 15 "BuoyVote$Tape" "wrong" "I", .methodLink RX4 76 yX4_readUnit, .instanceMethod yX4_readUnit, .selects RX4 yX4_readUnit yX4_readUnit, .initialized RX4, .code yX4_readUnit cX4_readUnit 5 none, .methodLink RX4 41 yX9_peek, .instanceMethod yX9_peek, .selects RX9 yX9_peek yX9_peek, .code yX9_peek cX9_peek 1 (some .int), .fieldLink RX9 22 "BuoyVote$Tape" "at" "I", .fieldLink RX9 19 "BuoyVote$Tape" "length" "I", .fieldLink RX9 11 "BuoyVote$Tape" "bytes" "[I", .methodLink RX4 45 yX4_startsUnit, .static yX4_startsUnit, .code yX4_startsUnit cX4_startsUnit 1 (some .boolean), .methodLink RX4 63 yX9_take, .instanceMethod yX9_take, .selects RX9 yX9_take yX9_take, .code yX9_take cX9_take 2 (some .boolean), .methodLink RX9 29 yX9_peek, .methodLink RX4 37 yX9_expect, .instanceMethod yX9_expect, .selects RX9 yX9_expect yX9_expect, .code yX9_expect cX9_expect 2 none, .methodLink RX9 25 yX9_refuse, .instanceMethod yX9_refuse, .selects RX9 yX9_refuse yX9_refuse, .code yX9_refuse cX9_refuse 2 none, .methodLink RX4 56 yX4_readCondition, .instanceMethod yX4_readCondition, .selects RX4 yX4_readCondition yX4_readCondition, .methodLink RX4 82 yX9_refuseHere, .instanceMethod yX9_refuseHere, .selects RX9 yX9_refuseHere yX9_refuseHere, .code yX9_refuseHere cX9_refuseHere 1 none, .methodLink RX4 49 yX4_readSum, .instanceMethod yX4_readSum, .selects RX4 yX4_readSum yX4_readSum, .code yX4_readSum cX4_readSum 6 none, .methodLink RX4 85 yX4_readAtom, .instanceMethod yX4_readAtom, .selects RX4 yX4_readAtom yX4_readAtom, .code yX4_readAtom cX4_readAtom 6 none, .methodLink RX4 93 yJ0_indexOf_0f7a4, .instanceMethod yJ0_indexOf_0f7a4, .selects RJ0 yJ0_indexOf_0f7a4 yJ0_indexOf_0f7a4, .initialized RJ0, .code yJ0_indexOf_0f7a4 cJ0_indexOf_0f7a4 2 (some .int), .methodLink RJ0 633 yJ0_indexOf_7cf53, .instanceMethod yJ0_indexOf_7cf53, .selects RJ0 yJ0_indexOf_7cf53 yJ0_indexOf_7cf53, .code yJ0_indexOf_7cf53 cJ0_indexOf_7cf53 3 (some .int), .methodLink RJ0 492 yJ0_isLatin1_aae02, .instanceMethod yJ0_isLatin1_aae02, .selects RJ0 yJ0_isLatin1_aae02 yJ0_isLatin1_aae02, .code yJ0_isLatin1_aae02 cJ0_isLatin1_aae02 1 (some .boolean), .fieldLink RJ0 38 "java/lang/String" "COMPACT_STRINGS" "Z", .fieldLink RJ0 15 "java/lang/String" "coder" "B", .fieldLink RJ0 9 "java/lang/String" "value" "[B", .methodLink RJ0 505 yJ0_length_8abf5, .instanceMethod yJ0_length_8abf5, .selects RJ0 yJ0_length_8abf5 yJ0_length_8abf5, .code yJ0_length_8abf5 cJ0_length_8abf5 1 (some .int), .methodLink RJ0 335 yJ0_coder_7d493, .instanceMethod yJ0_coder_7d493, .selects RJ0 yJ0_coder_7d493 yJ0_coder_7d493, .code yJ0_coder_7d493 cJ0_coder_7d493 1 (some .byte), .methodLink RJ0 637 yJ1_indexOf_4cfef, .static yJ1_indexOf_4cfef, .initialized RJ1, .code yJ1_indexOf_4cfef cJ1_indexOf_4cfef 4 (some .int), .methodLink RJ1 88 yJ1_canEncode_9a6ad, .static yJ1_canEncode_9a6ad, .code yJ1_canEncode_9a6ad cJ1_canEncode_9a6ad 1 (some .boolean), .methodLink RJ1 92 Lib.Math.max.name, .static Lib.Math.max.name, .initialized "java/lang/Math", .code Lib.Math.max.name Lib.Math.max.code 2 (some .int), .methodLink RJ1 38 Lib.Math.min.name, .static Lib.Math.min.name, .code Lib.Math.min.name Lib.Math.min.code 2 (some .int), .methodLink RJ1 95 yJ1_indexOfChar_4cfef, .static yJ1_indexOfChar_4cfef, .code yJ1_indexOfChar_4cfef cJ1_indexOfChar_4cfef 6 (some .int), .methodLink RX4 99 yX9_number, .instanceMethod yX9_number, .selects RX9 yX9_number yX9_number, .code yX9_number cX9_number 4 (some .int), .methodLink RX4 79 yX9_skip, .instanceMethod yX9_skip, .selects RX9 yX9_skip yX9_skip, .code yX9_skip cX9_skip 1 none, .methodLink RX4 60 yX4_emit, .instanceMethod yX4_emit, .selects RX4 yX4_emit yX4_emit, .code yX4_emit cX4_emit 2 none, .fieldLink RX4 20 "BuoyVote$Law" "length" "I", .fieldLink RX4 11 "BuoyVote$Law" "code" "[I", .methodLink RX4 88 yX9_takeEither, .instanceMethod yX9_takeEither, .selects RX9 yX9_takeEither yX9_takeEither, .code yX9_takeEither cX9_takeEither 4 (some .int), .methodLink RX4 53 yX4_isComparison, .static yX4_isComparison, .code yX4_isComparison cX4_isComparison 1 (some .boolean)] wsX90) wsX40)
theorem iw_c_X4_readCondition_2_X9 : ∀ w ∈ wsX90, w ∈ wf_c_X4_readCondition_2 := fun w h => List.mem_cons_of_mem _ (List.mem_append_left _ (List.mem_append_right _ h))
theorem iw_c_X4_readCondition_2_X4 : ∀ w ∈ wsX40, w ∈ wf_c_X4_readCondition_2 := fun w h => List.mem_cons_of_mem _ (List.mem_append_right _ h)
set_option maxRecDepth 20000 in
theorem gf_c_X4_readCondition_2_c_X9_take_1 : GoodIn wf_c_X4_readCondition_2 (wsV RX4 63 RX9 yX9_take wf_c_X9_take_1) := goodIn_app (gi_l [22, 23, 24, 4] rfl rfl) (gi_cons (j := 25) rfl rfl (goodIn_app (gi_l [6, 26, 13, 14, 4, 15, 16, 17, 18] rfl rfl) (goodIn_sub iw_c_X4_readCondition_2_X9 gw_X9)))
set_option maxRecDepth 20000 in
theorem gf_c_X4_readCondition_2_c_X9_take : GoodIn wf_c_X4_readCondition_2 (wsV RX4 63 RX9 yX9_take wf_c_X9_take) := goodIn_app (gi_l [22, 23, 24, 4] rfl rfl) (gi_cons (j := 25) rfl rfl (goodIn_app (gi_l [6, 26, 13, 14, 4, 15, 16, 17, 18] rfl rfl) (goodIn_sub iw_c_X4_readCondition_2_X9 gw_X9)))
set_option maxRecDepth 20000 in
theorem gf_c_X4_readCondition_2_c_X4_emit : GoodIn wf_c_X4_readCondition_2 (wsV RX4 60 RX4 yX4_emit wf_c_X4_emit) := goodIn_app (gi_l [99, 100, 101, 10] rfl rfl) (gi_cons (j := 102) rfl rfl (goodIn_app (gi_l [103, 104] rfl rfl) (goodIn_sub iw_c_X4_readCondition_2_X4 gw_X4)))
set_option maxRecDepth 20000 in
theorem gf_c_X4_readCondition_2_c_X4_readUnit_3 : GoodIn wf_c_X4_readCondition_2 (wsV RX4 76 RX4 yX4_readUnit wf_c_X4_readUnit_3) := goodIn_app (gi_l [7, 8, 9, 10] rfl rfl) (gi_cons (j := 11) rfl rfl (goodIn_app (goodIn_app (gi_l [12, 13, 14, 4, 15, 16, 17, 18, 19, 20, 10, 21, 22, 23, 24, 25, 6, 26, 27, 28, 29, 30, 31, 32, 33, 34, 35, 36, 37, 0, 1, 2, 3, 5, 7, 8, 9, 38, 39, 40, 41, 42, 43, 44, 45, 46, 47, 48, 49, 50, 51, 52, 53, 54, 55, 56, 57, 58, 59, 60, 61, 62, 63, 64, 65, 66, 67, 68, 69, 70, 71, 72, 73, 74, 75, 76, 77, 78, 79, 80, 81, 82, 83, 84, 85, 86, 87, 88, 89, 90, 91, 92, 93, 94, 95, 96, 97, 98, 99, 100, 101, 102, 103, 104, 105, 106, 107, 108, 109, 110, 111] rfl rfl) (goodIn_sub iw_c_X4_readCondition_2_X9 gw_X9)) (goodIn_sub iw_c_X4_readCondition_2_X4 gw_X4)))
set_option maxRecDepth 20000 in
theorem gf_c_X4_readCondition_2_c_X9_isRight : GoodIn wf_c_X4_readCondition_2 (wsV RX4 72 RX9 yX9_isRight wf_c_X9_isRight) := goodIn_app (gi_l [1, 2, 3, 4] rfl rfl) (gi_cons (j := 5) rfl rfl (goodIn_app (gi_l [6] rfl rfl) (goodIn_sub iw_c_X4_readCondition_2_X9 gw_X9)))
set_option maxHeartbeats 4000000 in
set_option maxRecDepth 100000 in
theorem c_X4_readCondition_2 (l : Launch) (dC : Nat → ClassId) (dI : Nat → Nat → Nat) (sz : Nat) (h0 : Nat) (h1 : Nat) (h1_0 : Nat) (h1_f1 : Int32) (h1_f2 : Int32) (h1_f3 : Int32) (h1_0k : ClassId) (h1_0c : Nat → Int32) (h0_0 : Nat) (h0_f1 : Int32) (h0_2 : Nat) (h0_0k : ClassId) (h0_0c : Nat → Int32) (ts4 : Nat) (tv4 : Nat) (g_h1_f1 : RG h1_f1 0 240) (g_h1_f2 : RG h1_f2 0 240) (g_h1_f3 : RG h1_f3 (-1) 240) (a_h1_0c : AI h1_0c 0 255) (g_h0_f1 : RG h0_f1 0 240) : Met l yX4_readCondition wf_c_X4_readCondition_2 ({ frames := 15, cells := 0, slots := 0, locals := 365 }) (va_Pc [.ref h0, .ref h1, .int 2, .int 0] (fun U => U.heap.size = sz ∧ va_P (dC, dI) vwCl (wd_c_X4_readCondition_2 h1 h1_0 h1_f1 h1_f2 h1_f3 h1_0 h1_0k h1_0c h0 h0_0 h0_f1 h0_2 h0_0 h0_0k h0_0c) U.heap ∧ va_K (dC, dI) vwCl [(h1_0k, .int), (h0_0k, .int)] U ∧ va_D (fun _ => True) (wd_c_X4_readCondition_2 h1 h1_0 h1_f1 h1_f2 h1_f3 h1_0 h1_0k h1_0c h0 h0_0 h0_f1 h0_2 h0_0 h0_0k h0_0c) ∧ vk_R RX4 91 "vlrdph" ts4 U ∧ va_Z "java/lang/String" "COMPACT_STRINGS" "Z" (.int 1) (va_A (wd_c_X4_readCondition_2 h1 h1_0 h1_f1 h1_f2 h1_f3 h1_0 h1_0k h1_0c h0 h0_0 h0_f1 h0_2 h0_0 h0_0k h0_0c) sz) U U.heap ∧ va_OF "java/lang/String" "coder" "B" (.int 0) ts4 (va_A (wd_c_X4_readCondition_2 h1 h1_0 h1_f1 h1_f2 h1_f3 h1_0 h1_0k h1_0c h0 h0_0 h0_f1 h0_2 h0_0 h0_0k h0_0c) sz) U U.heap ∧ va_O "java/lang/String" ts4 (va_A (wd_c_X4_readCondition_2 h1 h1_0 h1_f1 h1_f2 h1_f3 h1_0 h1_0k h1_0c h0 h0_0 h0_f1 h0_2 h0_0 h0_0k h0_0c) sz) U U.heap ∧ va_OF "java/lang/String" "value" "[B" (.ref tv4) ts4 (va_A (wd_c_X4_readCondition_2 h1 h1_0 h1_f1 h1_f2 h1_f3 h1_0 h1_0k h1_0c h0 h0_0 h0_f1 h0_2 h0_0 h0_0k h0_0c) sz) U U.heap ∧ va_T .byte tv4 6 (fun j => .int ([118, 108, 114, 100, 112, 104].getD j 0)) (va_A (wd_c_X4_readCondition_2 h1 h1_0 h1_f1 h1_f2 h1_f3 h1_0 h1_0k h1_0c h0 h0_0 h0_f1 h0_2 h0_0 h0_0k h0_0c) sz) U U.heap)) (va_Qv (fun (u : (Int32) × (Int32) × (Int32) × (Nat → Int32)) => (RG u.1 0 240 ∧ RG u.2.1 (-1) 240 ∧ RG u.2.2.1 0 240)) (fun (u : (Int32) × (Int32) × (Int32) × (Nat → Int32)) t => va_P (dC, dI) vwCl (wd_c_X4_readCondition_2 h1 h1_0 h1_f1 (u.1) (u.2.1) h1_0 h1_0k h1_0c h0 h0_0 (u.2.2.1) h0_2 h0_0 h0_0k (u.2.2.2)) t.heap ∧ va_K (dC, dI) vwCl [] t ∧ va_D (va_A (wd_c_X4_readCondition_2 h1 h1_0 h1_f1 h1_f2 h1_f3 h1_0 h1_0k h1_0c h0 h0_0 h0_f1 h0_2 h0_0 h0_0k h0_0c) sz) (wd_c_X4_readCondition_2 h1 h1_0 h1_f1 (u.1) (u.2.1) h1_0 h1_0k h1_0c h0 h0_0 (u.2.2.1) h0_2 h0_0 h0_0k (u.2.2.2))) (va_A (wd_c_X4_readCondition_2 h1 h1_0 h1_f1 h1_f2 h1_f3 h1_0 h1_0k h1_0c h0 h0_0 h0_f1 h0_2 h0_0 h0_0k h0_0c) sz)) 0 0 (va_A (wd_c_X4_readCondition_2 h1 h1_0 h1_f1 h1_f2 h1_f3 h1_0 h1_0k h1_0c h0 h0_0 h0_f1 h0_2 h0_0 h0_0k h0_0c) sz) := by
  refine Met.ofW (cc := cX4_readCondition) (maxL := 7) (ret := none) (by decide +kernel) rfl ?_
  intro p e s m args below meth c s₁ B hml hv
  obtain ⟨rfl, hsz, hP, hK, hD0, hE_32, hE_10, hE_34, hE_33, hE_35, hE_36⟩ := hv
  have hx := B.exec
  have hb := B.bytes
  have hr := B.returns
  have hts := atoms_spec (ws := wf_c_X4_readCondition_2) B.pre
  have hown : s.vm.findClass RX4 = some m.cls := findClass_of_methodNamed B.named
  have hlocks := B.notSynchronized
  subst hsz
  have hD := hD0.self (sz := s.heap.size)
  generalize hAe : va_A (wd_c_X4_readCondition_2 h1 h1_0 h1_f1 h1_f2 h1_f3 h1_0 h1_0k h1_0c h0 h0_0 h0_f1 h0_2 h0_0 h0_0k h0_0c) s.heap.size = A at hD hE_10 hE_34 hE_33 hE_35 hE_36 ⊢
  have hA : ∀ q : Nat, s.heap.size ≤ q → A q := fun q h => by rw [← hAe]; exact Or.inr h
  have hP : va_P (dC, dI) vwCl (wd_c_X4_readCondition_2 h1 h1_0 h1_f1 h1_f2 h1_f3 h1_0 h1_0k h1_0c h0 h0_0 h0_f1 h0_2 h0_0 h0_0k h0_0c) s.heap := hP
  have hl := lv_entry ([.ref h0, .ref h1, .int 2, .int 0]) (n := 7) (Nat.le_of_ble_eq_true rfl)
  rw [lg_entry_eq]
  generalize (lg_sl ([.ref h0, .ref h1, .int 2, .int 0]) ++ List.replicate (7 - (lg_sl ([.ref h0, .ref h1, .int 2, .int 0])).length) Slot.unset).toArray = ls at hl ⊢
  have hl : lv_has ls 7 [(0, .ref h0), (1, .ref h1), (2, .int 2), (3, .int 0)] := hl
  obtain ⟨H, hHe⟩ : ∃ H : Heap, s.heap = H := ⟨_, rfl⟩
  have hS : va_S A s.heap H [] := by rw [hHe]; exact va_S.rf
  have hP : va_P (dC, dI) vwCl (wd_c_X4_readCondition_2 h1 h1_0 h1_f1 h1_f2 h1_f3 h1_0 h1_0k h1_0c h0 h0_0 h0_f1 h0_2 h0_0 h0_0k h0_0c) H := by rw [← hHe]; exact hP
  rw [hHe]
  refine wj (fun G hG hU => ?_)
  as_aux_lemma =>
  have J9 : ∀ (n9 : Nat) (j9_l6 : Int32) (j9_l5 : Int32) (j9_l4 : Int32) (j9_h1_f2 : Int32) (j9_h1_f3 : Int32) (j9_h0_f1 : Int32) (j9_h0_0c : Nat → Int32) (hM9 : MU j9_l6 < n9) (g_h0_f1 : RG h0_f1 0 240) (g_h1_f1 : RG h1_f1 0 240) (g_h1_f2 : RG h1_f2 0 240) (g_h1_f3 : RG h1_f3 (-1) 240) (g_j9_h0_f1 : RG j9_h0_f1 0 240) (g_j9_h1_f2 : RG j9_h1_f2 0 240) (g_j9_h1_f3 : RG j9_h1_f3 (-1) 240) (g_j9_l4 : RG j9_l4 0 1) (g_j9_l5 : RG j9_l5 0 1) (g_j9_l6 : RG j9_l6 0 240) (H : Heap) (locs : List Loc) (ls : Array Slot) (hP : va_P (dC, dI) vwCl (wd_c_X4_readCondition_2 h1 h1_0 h1_f1 j9_h1_f2 j9_h1_f3 h1_0 h1_0k h1_0c h0 h0_0 j9_h0_f1 h0_2 h0_0 h0_0k j9_h0_0c) H) (hD : va_D A (wd_c_X4_readCondition_2 h1 h1_0 h1_f1 j9_h1_f2 j9_h1_f3 h1_0 h1_0k h1_0c h0 h0_0 j9_h0_f1 h0_2 h0_0 h0_0k j9_h0_0c)) (hS : va_S A s.heap H locs) (hl : lv_has ls 7 [(6, .int j9_l6), (5, .int j9_l5), (4, .int j9_l4), (0, .ref h0), (1, .ref h1), (2, .int 2), (3, .int 0)]), G H locs (F0 m 9 ls []) := by
    as_aux_lemma =>
    intro n9
    induction n9 with
    | zero => intros; exact absurd (by assumption) (Nat.not_lt_zero _)
    | succ n9 ih9 =>
      intro j9_l6 j9_l5 j9_l4 j9_h1_f2 j9_h1_f3 j9_h0_f1 j9_h0_0c hM9 g_h0_f1 g_h1_f1 g_h1_f2 g_h1_f3 g_j9_h0_f1 g_j9_h1_f2 g_j9_h1_f3 g_j9_l4 g_j9_l5 g_j9_l6 H locs ls hP hD hS hl
      have J93 : ∀ (j93_l4 : Int32) (j93_l5 : Int32) (j93_h1_f2 : Int32) (j93_h1_f3 : Int32) (j93_h0_f1 : Int32) (j93_h0_0c : Nat → Int32) (g_h0_f1 : RG h0_f1 0 240) (g_h1_f1 : RG h1_f1 1 240) (g_h1_f2 : RG h1_f2 0 240) (g_h1_f3 : RG h1_f3 (-1) 240) (g_j93_h0_f1 : RG j93_h0_f1 0 240) (g_j93_h1_f2 : RG j93_h1_f2 1 240) (g_j93_h1_f3 : RG j93_h1_f3 (-1) (-1)) (g_j93_l4 : RG j93_l4 0 1) (g_j93_l5 : RG j93_l5 0 1) (g_j9_h0_f1 : RG j9_h0_f1 0 240) (g_j9_h1_f2 : RG j9_h1_f2 0 240) (g_j9_h1_f3 : RG j9_h1_f3 (-1) (-1)) (g_j9_l4 : RG j9_l4 0 1) (g_j9_l5 : RG j9_l5 0 1) (g_j9_l6 : RG j9_l6 0 239) (H : Heap) (locs : List Loc) (ls : Array Slot) (hP : va_P (dC, dI) vwCl (wd_c_X4_readCondition_2 h1 h1_0 h1_f1 j93_h1_f2 j93_h1_f3 h1_0 h1_0k h1_0c h0 h0_0 j93_h0_f1 h0_2 h0_0 h0_0k j93_h0_0c) H) (hD : va_D A (wd_c_X4_readCondition_2 h1 h1_0 h1_f1 j93_h1_f2 j93_h1_f3 h1_0 h1_0k h1_0c h0 h0_0 j93_h0_f1 h0_2 h0_0 h0_0k j93_h0_0c)) (hS : va_S A s.heap H locs) (hl : lv_has ls 7 [(4, .int j93_l4), (6, .int j9_l6), (5, .int j93_l5), (0, .ref h0), (1, .ref h1), (2, .int 2), (3, .int 0)]), G H locs (F0 m 93 ls []) := by
        as_aux_lemma =>
        intro j93_l4 j93_l5 j93_h1_f2 j93_h1_f3 j93_h0_f1 j93_h0_0c g_h0_f1 g_h1_f1 g_h1_f2 g_h1_f3 g_j93_h0_f1 g_j93_h1_f2 g_j93_h1_f3 g_j93_l4 g_j93_l5 g_j9_h0_f1 g_j9_h1_f2 g_j9_h1_f3 g_j9_l4 g_j9_l5 g_j9_l6 H locs ls hP hD hS hl
        refine hG _ _ _ ?_
        obtain ⟨x_1, ex_1⟩ : ∃ y : Int32, y = j9_l6 + 1 := ⟨_, rfl⟩
        have g_2 : RG x_1 1 240 := RG_add ex_1 g_j9_l6 (RG_k 1 1 rfl) (by decide +kernel)
        refine lv_iinc (v := x_1) (lv' := [(6, .int x_1), (4, .int j93_l4), (5, .int j93_l5), (0, .ref h0), (1, .ref h1), (2, .int 2), (3, .int 0)]) hx hb dX4_readCondition_93 hl (k := 1) rfl (by rw [ex_1]; rfl) (Nat.le_of_ble_eq_true rfl) rfl (fun ls hl => ?_)
        refine lv_goto (tgt := 9) hx hb dX4_readCondition_96 rfl ?_
        exact hU _ _ _ (ih9 x_1 j93_l5 j93_l4 j93_h1_f2 j93_h1_f3 j93_h0_f1 j93_h0_0c (mu_s (MU_add ex_1 g_j9_l6 (q := 1) rfl (by decide +kernel)) hM9) g_h0_f1 (RG_w g_h1_f1 (by decide +kernel)) g_h1_f2 g_h1_f3 g_j93_h0_f1 (RG_w g_j93_h1_f2 (by decide +kernel)) (RG_w g_j93_h1_f3 (by decide +kernel)) g_j93_l4 g_j93_l5 (RG_w g_2 (by decide +kernel)) _ _ _ hP hD hS (lv_sub hl [0, 2, 1, 3, 4, 5, 6] rfl))
      have J79 : ∀ (j79_h1_f2 : Int32) (j79_h1_f3 : Int32) (j79_h0_f1 : Int32) (j79_h0_0c : Nat → Int32) (g_h0_f1 : RG h0_f1 0 240) (g_h1_f1 : RG h1_f1 0 240) (g_h1_f2 : RG h1_f2 0 240) (g_h1_f3 : RG h1_f3 (-1) 240) (g_j79_h0_f1 : RG j79_h0_f1 0 240) (g_j79_h1_f2 : RG j79_h1_f2 0 240) (g_j79_h1_f3 : RG j79_h1_f3 (-1) 240) (g_j9_h0_f1 : RG j9_h0_f1 0 240) (g_j9_h1_f2 : RG j9_h1_f2 0 240) (g_j9_h1_f3 : RG j9_h1_f3 (-1) (-1)) (g_j9_l4 : RG j9_l4 0 1) (g_j9_l5 : RG j9_l5 0 1) (g_j9_l6 : RG j9_l6 0 239) (H : Heap) (locs : List Loc) (ls : Array Slot) (hP : va_P (dC, dI) vwCl (wd_c_X4_readCondition_2 h1 h1_0 h1_f1 j79_h1_f2 j79_h1_f3 h1_0 h1_0k h1_0c h0 h0_0 j79_h0_f1 h0_2 h0_0 h0_0k j79_h0_0c) H) (hD : va_D A (wd_c_X4_readCondition_2 h1 h1_0 h1_f1 j79_h1_f2 j79_h1_f3 h1_0 h1_0k h1_0c h0 h0_0 j79_h0_f1 h0_2 h0_0 h0_0k j79_h0_0c)) (hS : va_S A s.heap H locs) (hl : lv_has ls 7 [(4, .int 0), (6, .int j9_l6), (0, .ref h0), (1, .ref h1), (2, .int 2), (3, .int 0)]), G H locs (F0 m 79 ls []) := by
        as_aux_lemma =>
        intro j79_h1_f2 j79_h1_f3 j79_h0_f1 j79_h0_0c g_h0_f1 g_h1_f1 g_h1_f2 g_h1_f3 g_j79_h0_f1 g_j79_h1_f2 g_j79_h1_f3 g_j9_h0_f1 g_j9_h1_f2 g_j9_h1_f3 g_j9_l4 g_j9_l5 g_j9_l6 H locs ls hP hD hS hl
        refine hG _ _ _ ?_
        refine lv_aload_n hx hb dX4_readCondition_79 rfl (lv_at hl 3 rfl) ?_
        refine lv_bipush (v := 124) hx hb dX4_readCondition_80 kc_bipush_124 ?_
        obtain ⟨hPc, hDc, hFc, hqc⟩ := cl_cut (wc := (wd_c_X9_take_1 h1 h1_0 h1_f1 j79_h1_f2 j79_h1_f3 h1_0 h1_0k h1_0c)) hP hD hS hA [0, 1] (by decide +kernel) rfl
        have hKc := hK.sub (tys' := [(h1_0k, .int)]) [0] rfl
        have hrv := va_recv hKc hPc (ci := 9) (q0 := 0) rfl rfl
        refine va_calli (va_runV (As := [.int 124]) (rest := []) ⟨hx, hb, hml, hown, hts⟩ (c_X9_take_1 l dC dI H.size h1 124 h1_0 h1_f1 j79_h1_f2 j79_h1_f3 h1_0k h1_0c (RG_w (RG_k 124 124 rfl) (by decide +kernel)) g_h1_f1 g_j79_h1_f2 g_j79_h1_f3 a_h1_0c) (cwV 1 hts gf_c_X4_readCondition_2_c_X9_take_1 rfl rfl rfl mdV_X9_take ⟨Nat.le_of_ble_eq_true rfl, Nat.le_of_ble_eq_true rfl⟩) ⟨fun a U g mk q => by obtain ⟨q0, q1, qP, qK, qD⟩ := q; exact ⟨q0, q1, qP, va_K.moved (u := U) (U := U.calling g mk a) (Vm.Alike.refl U.vm) qK, qD⟩, hrv, fun U hU hW => ⟨rfl, by rw [hU], by rw [hU]; exact hPc, va_K.moved hW.alike hKc, hDc.weaken (fun _ _ _ _ => trivial)⟩⟩ rfl rfl hl.1 rfl (lv_room (Nat.le_of_ble_eq_true rfl)) dX4_readCondition_82 ⟨Nat.le_of_ble_eq_true rfl, Nat.le_of_ble_eq_true rfl⟩) hS (fun q _ h => hFc q h) hFc (fun r_3 x_4 t H1 locs ht hvm hw hB hz1 hk1 hS => ?_)
        obtain ⟨hP1, hK1, hD1⟩ := hB
        rw [ht] at hP1
        obtain ⟨hP, hD⟩ := cl_put (w1 := (wd_c_X9_take_1 h1 h1_0 h1_f1 x_4 j79_h1_f3 h1_0 h1_0k h1_0c)) (nw := (wd_c_X4_readCondition_2 h1 h1_0 h1_f1 x_4 j79_h1_f3 h1_0 h1_0k h1_0c h0 h0_0 j79_h0_f1 h0_2 h0_0 h0_0k j79_h0_0c)) hP hD [0, 1] [4, 5, 2, 3] 4 rfl hqc (by decide +kernel) rfl hk1 hFc hP1 hD1
        generalize H1 = H at hP hS ⊢
        as_aux_lemma =>
        rcases hw with ⟨h_5, h_6, h_7⟩ | ⟨h_8, h_9, h_10, h_11, h_12⟩
        · rw [h_5]
          refine lv_istore (lv' := [(5, .int 0), (4, .int 0), (6, .int j9_l6), (0, .ref h0), (1, .ref h1), (2, .int 2), (3, .int 0)]) hx hb dX4_readCondition_85 hl (Nat.le_of_ble_eq_true rfl) rfl (fun ls hl => ?_)
          refine lv_iload hx hb dX4_readCondition_87 (lv_at hl 0 rfl) ?_
          refine lv_if_ne (tgt := 93) hx hb dX4_readCondition_89 rfl (fun c_13 => absurd c_13 (by decide +kernel)) (fun c_13 => ?_)
          have hK9 := hK.sub (tys' := []) [] rfl
          exact W.vret hx hb hr (fun t ht hW => ⟨⟨(x_4, j79_h1_f3, j79_h0_f1, j79_h0_0c), rfl, ⟨h_6, g_j79_h1_f3, g_j79_h0_f1⟩, by rw [ht]; exact hP, va_K.moved hW.alike hK9, hD⟩, hS.F ht⟩) hS.2.2 dX4_readCondition_92
        · rw [h_8]
          refine lv_istore (lv' := [(5, .int 1), (4, .int 0), (6, .int j9_l6), (0, .ref h0), (1, .ref h1), (2, .int 2), (3, .int 0)]) hx hb dX4_readCondition_85 hl (Nat.le_of_ble_eq_true rfl) rfl (fun ls hl => ?_)
          refine lv_iload hx hb dX4_readCondition_87 (lv_at hl 0 rfl) ?_
          refine lv_if_ne (tgt := 93) hx hb dX4_readCondition_89 rfl (fun c_14 => ?_) (fun c_14 => absurd c_14 (by decide +kernel))
          exact hU _ _ _ (J93 0 1 x_4 j79_h1_f3 j79_h0_f1 j79_h0_0c g_h0_f1 h_10 g_h1_f2 g_h1_f3 g_j79_h0_f1 h_9 h_11 (RG_w (RG_k 0 0 rfl) (by decide +kernel)) (RG_w (RG_k 1 1 rfl) (by decide +kernel)) g_j9_h0_f1 g_j9_h1_f2 g_j9_h1_f3 g_j9_l4 g_j9_l5 g_j9_l6 _ _ _ hP hD hS (lv_sub hl [1, 2, 0, 3, 4, 5, 6] rfl))
      have J55 : ∀ (j55_h1_f2 : Int32) (j55_h1_f3 : Int32) (j55_h0_f1 : Int32) (j55_h0_0c : Nat → Int32) (g_h0_f1 : RG h0_f1 0 240) (g_h1_f1 : RG h1_f1 0 240) (g_h1_f2 : RG h1_f2 0 240) (g_h1_f3 : RG h1_f3 (-1) 240) (g_j55_h0_f1 : RG j55_h0_f1 0 240) (g_j55_h1_f2 : RG j55_h1_f2 0 240) (g_j55_h1_f3 : RG j55_h1_f3 (-1) 240) (g_j9_h0_f1 : RG j9_h0_f1 0 240) (g_j9_h1_f2 : RG j9_h1_f2 0 240) (g_j9_h1_f3 : RG j9_h1_f3 (-1) (-1)) (g_j9_l4 : RG j9_l4 0 1) (g_j9_l5 : RG j9_l5 0 1) (g_j9_l6 : RG j9_l6 0 239) (H : Heap) (locs : List Loc) (ls : Array Slot) (hP : va_P (dC, dI) vwCl (wd_c_X4_readCondition_2 h1 h1_0 h1_f1 j55_h1_f2 j55_h1_f3 h1_0 h1_0k h1_0c h0 h0_0 j55_h0_f1 h0_2 h0_0 h0_0k j55_h0_0c) H) (hD : va_D A (wd_c_X4_readCondition_2 h1 h1_0 h1_f1 j55_h1_f2 j55_h1_f3 h1_0 h1_0k h1_0c h0 h0_0 j55_h0_f1 h0_2 h0_0 h0_0k j55_h0_0c)) (hS : va_S A s.heap H locs) (hl : lv_has ls 7 [(6, .int j9_l6), (5, .int j9_l5), (0, .ref h0), (1, .ref h1), (2, .int 2), (3, .int 0)]), G H locs (F0 m 55 ls []) := by
        as_aux_lemma =>
        intro j55_h1_f2 j55_h1_f3 j55_h0_f1 j55_h0_0c g_h0_f1 g_h1_f1 g_h1_f2 g_h1_f3 g_j55_h0_f1 g_j55_h1_f2 g_j55_h1_f3 g_j9_h0_f1 g_j9_h1_f2 g_j9_h1_f3 g_j9_l4 g_j9_l5 g_j9_l6 H locs ls hP hD hS hl
        refine hG _ _ _ ?_
        refine lv_aload_n hx hb dX4_readCondition_55 rfl (lv_at hl 3 rfl) ?_
        refine lv_bipush (v := 38) hx hb dX4_readCondition_56 kc_bipush_38 ?_
        obtain ⟨hPc, hDc, hFc, hqc⟩ := cl_cut (wc := (wd_c_X9_take h1 h1_0 h1_f1 j55_h1_f2 j55_h1_f3 h1_0 h1_0k h1_0c)) hP hD hS hA [0, 1] (by decide +kernel) rfl
        have hKc := hK.sub (tys' := [(h1_0k, .int)]) [0] rfl
        have hrv := va_recv hKc hPc (ci := 9) (q0 := 0) rfl rfl
        refine va_calli (va_runV (As := [.int 38]) (rest := []) ⟨hx, hb, hml, hown, hts⟩ (c_X9_take l dC dI H.size h1 38 h1_0 h1_f1 j55_h1_f2 j55_h1_f3 h1_0k h1_0c (RG_w (RG_k 38 38 rfl) (by decide +kernel)) g_h1_f1 g_j55_h1_f2 g_j55_h1_f3 a_h1_0c) (cwV 1 hts gf_c_X4_readCondition_2_c_X9_take rfl rfl rfl mdV_X9_take ⟨Nat.le_of_ble_eq_true rfl, Nat.le_of_ble_eq_true rfl⟩) ⟨fun a U g mk q => by obtain ⟨q0, q1, qP, qK, qD⟩ := q; exact ⟨q0, q1, qP, va_K.moved (u := U) (U := U.calling g mk a) (Vm.Alike.refl U.vm) qK, qD⟩, hrv, fun U hU hW => ⟨rfl, by rw [hU], by rw [hU]; exact hPc, va_K.moved hW.alike hKc, hDc.weaken (fun _ _ _ _ => trivial)⟩⟩ rfl rfl hl.1 rfl (lv_room (Nat.le_of_ble_eq_true rfl)) dX4_readCondition_58 ⟨Nat.le_of_ble_eq_true rfl, Nat.le_of_ble_eq_true rfl⟩) hS (fun q _ h => hFc q h) hFc (fun r_15 x_16 t H1 locs ht hvm hw hB hz1 hk1 hS => ?_)
        obtain ⟨hP1, hK1, hD1⟩ := hB
        rw [ht] at hP1
        obtain ⟨hP, hD⟩ := cl_put (w1 := (wd_c_X9_take h1 h1_0 h1_f1 x_16 j55_h1_f3 h1_0 h1_0k h1_0c)) (nw := (wd_c_X4_readCondition_2 h1 h1_0 h1_f1 x_16 j55_h1_f3 h1_0 h1_0k h1_0c h0 h0_0 j55_h0_f1 h0_2 h0_0 h0_0k j55_h0_0c)) hP hD [0, 1] [4, 5, 2, 3] 4 rfl hqc (by decide +kernel) rfl hk1 hFc hP1 hD1
        generalize H1 = H at hP hS ⊢
        as_aux_lemma =>
        rcases hw with ⟨h_17, h_18, h_19⟩ | ⟨h_20, h_21, h_22, h_23, h_24⟩
        · rw [h_17]
          refine lv_istore (lv' := [(4, .int 0), (6, .int j9_l6), (5, .int j9_l5), (0, .ref h0), (1, .ref h1), (2, .int 2), (3, .int 0)]) hx hb dX4_readCondition_61 hl (Nat.le_of_ble_eq_true rfl) rfl (fun ls hl => ?_)
          refine lv_iload hx hb dX4_readCondition_63 (lv_at hl 0 rfl) ?_
          refine lv_if_ne (tgt := 93) hx hb dX4_readCondition_65 rfl (fun c_25 => absurd c_25 (by decide +kernel)) (fun c_25 => ?_)
          refine lv_iload hx hb dX4_readCondition_68 (lv_at hl 2 rfl) ?_
          refine lv_if_eq (tgt := 79) hx hb dX4_readCondition_70 rfl (fun c_26 => ?_) (fun c_26 => ?_)
          · have g_27 : RG j9_l5 0 0 := RG_eq1 g_j9_l5 (RG_k 0 0 rfl) c_26 (by decide +kernel)
            exact hU _ _ _ (J79 x_16 j55_h1_f3 j55_h0_f1 j55_h0_0c g_h0_f1 g_h1_f1 g_h1_f2 g_h1_f3 g_j55_h0_f1 h_18 g_j55_h1_f3 g_j9_h0_f1 g_j9_h1_f2 g_j9_h1_f3 g_j9_l4 (RG_w g_27 (by decide +kernel)) g_j9_l6 _ _ _ hP hD hS (lv_sub hl [0, 1, 3, 4, 5, 6] rfl))
          · have g_28 : RG j9_l5 1 1 := RG_ne1 g_j9_l5 (q := 0) rfl c_26 (by decide +kernel)
            refine lv_aload_n hx hb dX4_readCondition_73 rfl (lv_at hl 3 rfl) ?_
            refine lv_bipush (v := (-124)) hx hb dX4_readCondition_74 kc_bipush_m124 ?_
            obtain ⟨hPc, hDc, hFc, hqc⟩ := cl_cut (wc := (wd_c_X4_emit h0 h0_0 j55_h0_f1 h0_2 h0_0 h0_0k j55_h0_0c)) hP hD hS hA [2, 3] (by decide +kernel) rfl
            have hKc := hK.sub (tys' := [(h0_0k, .int)]) [1] rfl
            have hrv := va_recv hKc hPc (ci := 4) (q0 := 0) rfl rfl
            refine va_callv (va_runV (As := [.int (-124)]) (rest := []) ⟨hx, hb, hml, hown, hts⟩ (c_X4_emit l dC dI H.size h0 (-124) h0_0 j55_h0_f1 h0_2 h0_0k j55_h0_0c g_j55_h0_f1) (cwV 1 hts gf_c_X4_readCondition_2_c_X4_emit rfl rfl rfl mdV_X4_emit ⟨Nat.le_of_ble_eq_true rfl, Nat.le_of_ble_eq_true rfl⟩) ⟨fun a U g mk q => by obtain ⟨q0, q1, qP, qK, qD⟩ := q; exact ⟨q0, q1, qP, va_K.moved (u := U) (U := U.calling g mk a) (Vm.Alike.refl U.vm) qK, qD⟩, hrv, fun U hU hW => ⟨rfl, by rw [hU], by rw [hU]; exact hPc, va_K.moved hW.alike hKc, hDc.weaken (fun _ _ _ _ => trivial)⟩⟩ rfl rfl hl.1 rfl (lv_room (Nat.le_of_ble_eq_true rfl)) dX4_readCondition_76 ⟨Nat.le_of_ble_eq_true rfl, Nat.le_of_ble_eq_true rfl⟩) hS (fun q _ h => hFc q h) hFc (fun u t H1 locs ht hvm hw hB hz1 hk1 hS => ?_)
            as_aux_lemma =>
            obtain ⟨x_30, w_31⟩ := u
            obtain ⟨hP1, hK1, hD1⟩ := hB
            rw [ht] at hP1
            obtain ⟨hP, hD⟩ := cl_put (w1 := (wd_c_X4_emit h0 h0_0 x_30 h0_2 h0_0 h0_0k w_31)) (nw := (wd_c_X4_readCondition_2 h1 h1_0 h1_f1 x_16 j55_h1_f3 h1_0 h1_0k h1_0c h0 h0_0 x_30 h0_2 h0_0 h0_0k w_31)) hP hD [2, 3] [0, 1, 4, 5] 4 rfl hqc (by decide +kernel) rfl hk1 hFc hP1 hD1
            generalize H1 = H at hP hS ⊢
            as_aux_lemma =>
            have h_32 := hw
            exact hU _ _ _ (J79 x_16 j55_h1_f3 x_30 w_31 g_h0_f1 g_h1_f1 g_h1_f2 g_h1_f3 (RG_w h_32 (by decide +kernel)) h_18 g_j55_h1_f3 g_j9_h0_f1 g_j9_h1_f2 g_j9_h1_f3 g_j9_l4 (RG_w g_28 (by decide +kernel)) g_j9_l6 _ _ _ hP hD hS (lv_sub hl [0, 1, 3, 4, 5, 6] rfl))
        · rw [h_20]
          refine lv_istore (lv' := [(4, .int 1), (6, .int j9_l6), (5, .int j9_l5), (0, .ref h0), (1, .ref h1), (2, .int 2), (3, .int 0)]) hx hb dX4_readCondition_61 hl (Nat.le_of_ble_eq_true rfl) rfl (fun ls hl => ?_)
          refine lv_iload hx hb dX4_readCondition_63 (lv_at hl 0 rfl) ?_
          refine lv_if_ne (tgt := 93) hx hb dX4_readCondition_65 rfl (fun c_33 => ?_) (fun c_33 => absurd c_33 (by decide +kernel))
          exact hU _ _ _ (J93 1 j9_l5 x_16 j55_h1_f3 j55_h0_f1 j55_h0_0c g_h0_f1 h_22 g_h1_f2 g_h1_f3 g_j55_h0_f1 h_21 h_23 (RG_w (RG_k 1 1 rfl) (by decide +kernel)) g_j9_l5 g_j9_h0_f1 g_j9_h1_f2 g_j9_h1_f3 g_j9_l4 g_j9_l5 g_j9_l6 _ _ _ hP hD hS (lv_sub hl [0, 1, 2, 3, 4, 5, 6] rfl))
      have J41 : ∀ (g_h0_f1 : RG h0_f1 0 240) (g_h1_f1 : RG h1_f1 0 240) (g_h1_f2 : RG h1_f2 0 240) (g_h1_f3 : RG h1_f3 (-1) 240) (g_j9_h0_f1 : RG j9_h0_f1 0 240) (g_j9_h1_f2 : RG j9_h1_f2 0 240) (g_j9_h1_f3 : RG j9_h1_f3 (-1) (-1)) (g_j9_l4 : RG j9_l4 0 1) (g_j9_l5 : RG j9_l5 0 1) (g_j9_l6 : RG j9_l6 0 239) (H : Heap) (locs : List Loc) (ls : Array Slot) (hP : va_P (dC, dI) vwCl (wd_c_X4_readCondition_2 h1 h1_0 h1_f1 j9_h1_f2 j9_h1_f3 h1_0 h1_0k h1_0c h0 h0_0 j9_h0_f1 h0_2 h0_0 h0_0k j9_h0_0c) H) (hD : va_D A (wd_c_X4_readCondition_2 h1 h1_0 h1_f1 j9_h1_f2 j9_h1_f3 h1_0 h1_0k h1_0c h0 h0_0 j9_h0_f1 h0_2 h0_0 h0_0k j9_h0_0c)) (hS : va_S A s.heap H locs) (hl : lv_has ls 7 [(6, .int j9_l6), (5, .int j9_l5), (4, .int j9_l4), (0, .ref h0), (1, .ref h1), (2, .int 2), (3, .int 0)]), G H locs (F0 m 41 ls [.int 0, .int 2, .ref h1, .ref h0]) := by
        as_aux_lemma =>
        intro g_h0_f1 g_h1_f1 g_h1_f2 g_h1_f3 g_j9_h0_f1 g_j9_h1_f2 g_j9_h1_f3 g_j9_l4 g_j9_l5 g_j9_l6 H locs ls hP hD hS hl
        refine hG _ _ _ ?_
        obtain ⟨hPc, hDc, hFc, hqc⟩ := cl_cut (wc := (wd_c_X4_readUnit_3 h1 h1_0 h1_f1 j9_h1_f2 j9_h1_f3 h1_0 h1_0k h1_0c h0 h0_0 j9_h0_f1 h0_2 h0_0 h0_0k j9_h0_0c)) hP hD hS hA [0, 1, 2, 3] (by decide +kernel) rfl
        have hKc := hK.sub (tys' := [(h1_0k, .int), (h0_0k, .int)]) [0, 1] rfl
        have hrv := va_recv hKc hPc (ci := 4) (q0 := 2) rfl rfl
        refine va_callv (va_runV (As := [.ref h1, .int 2, .int 0]) (rest := []) ⟨hx, hb, hml, hown, hts⟩ (c_X4_readUnit_3 l dC dI H.size h0 h1 h1_0 h1_f1 j9_h1_f2 j9_h1_f3 h1_0k h1_0c h0_0 j9_h0_f1 h0_2 h0_0k j9_h0_0c ts4 tv4 g_h1_f1 g_j9_h1_f2 (RG_w g_j9_h1_f3 (by decide +kernel)) a_h1_0c g_j9_h0_f1) (cwV 3 hts gf_c_X4_readCondition_2_c_X4_readUnit_3 rfl rfl rfl mdV_X4_readUnit ⟨Nat.le_of_ble_eq_true rfl, Nat.le_of_ble_eq_true rfl⟩) ⟨fun a U g mk q => by obtain ⟨q0, q1, qP, qK, qD, qE0, qE1, qE2, qE3, qE4, qE5⟩ := q; exact ⟨q0, q1, qP, va_K.moved (u := U) (U := U.calling g mk a) (Vm.Alike.refl U.vm) qK, qD, vk_R.same rfl qE0, va_Z.moved (u := U) (U := U.calling g mk a) (Vm.Alike.refl U.vm) qE1, va_OF.moved (u := U) (U := U.calling g mk a) (Vm.Alike.refl U.vm) qE2, va_O.moved (u := U) (U := U.calling g mk a) (Vm.Alike.refl U.vm) qE3, va_OF.moved (u := U) (U := U.calling g mk a) (Vm.Alike.refl U.vm) qE4, va_T.moved (u := U) (U := U.calling g mk a) (Vm.Alike.refl U.vm) qE5⟩, hrv, fun U hU hW => ⟨rfl, by rw [hU], by rw [hU]; exact hPc, va_K.moved hW.alike hKc, hDc.weaken (fun _ _ _ _ => trivial), vk_R.warm hW hE_32, va_Z.moved hW.alike (by rw [hU]; exact (hE_10.kept hS.2.1).narrow hFc), va_OF.moved hW.alike (by rw [hU]; exact (hE_34.kept hS.2.1).narrow hFc), va_O.moved hW.alike (by rw [hU]; exact (hE_33.kept hS.2.1).narrow hFc), va_OF.moved hW.alike (by rw [hU]; exact (hE_35.kept hS.2.1).narrow hFc), va_T.moved hW.alike (by rw [hU]; exact (hE_36.kept hS.2.1).narrow hFc)⟩⟩ rfl rfl hl.1 rfl (lv_room (Nat.le_of_ble_eq_true rfl)) dX4_readCondition_41 ⟨Nat.le_of_ble_eq_true rfl, Nat.le_of_ble_eq_true rfl⟩) hS (fun q _ h => hFc q h) hFc (fun u t H1 locs ht hvm hw hB hz1 hk1 hS => ?_)
        obtain ⟨x_35, x_36, x_37, w_38⟩ := u
        obtain ⟨hP1, hK1, hD1⟩ := hB
        rw [ht] at hP1
        obtain ⟨hP, hD⟩ := cl_put (w1 := (wd_c_X4_readUnit_3 h1 h1_0 h1_f1 x_35 x_36 h1_0 h1_0k h1_0c h0 h0_0 x_37 h0_2 h0_0 h0_0k w_38)) (nw := (wd_c_X4_readCondition_2 h1 h1_0 h1_f1 x_35 x_36 h1_0 h1_0k h1_0c h0 h0_0 x_37 h0_2 h0_0 h0_0k w_38)) hP hD [0, 1, 2, 3] [4, 5, 6, 7] 4 rfl hqc (by decide +kernel) rfl hk1 hFc hP1 hD1
        generalize H1 = H at hP hS ⊢
        as_aux_lemma =>
        rcases hw with ⟨h_39, h_40, h_41⟩
        refine lv_iload hx hb dX4_readCondition_44 (lv_at hl 2 rfl) ?_
        refine lv_if_eq (tgt := 55) hx hb dX4_readCondition_46 rfl (fun c_42 => ?_) (fun c_42 => ?_)
        · have g_43 : RG j9_l4 0 0 := RG_eq1 g_j9_l4 (RG_k 0 0 rfl) c_42 (by decide +kernel)
          exact hU _ _ _ (J55 x_35 x_36 x_37 w_38 g_h0_f1 g_h1_f1 g_h1_f2 g_h1_f3 h_41 h_39 h_40 g_j9_h0_f1 g_j9_h1_f2 g_j9_h1_f3 (RG_w g_43 (by decide +kernel)) g_j9_l5 g_j9_l6 _ _ _ hP hD hS (lv_sub hl [0, 1, 3, 4, 5, 6] rfl))
        · have g_44 : RG j9_l4 1 1 := RG_ne1 g_j9_l4 (q := 0) rfl c_42 (by decide +kernel)
          refine lv_aload_n hx hb dX4_readCondition_49 rfl (lv_at hl 3 rfl) ?_
          refine lv_bipush (v := (-38)) hx hb dX4_readCondition_50 kc_bipush_m38 ?_
          obtain ⟨hPc, hDc, hFc, hqc⟩ := cl_cut (wc := (wd_c_X4_emit h0 h0_0 x_37 h0_2 h0_0 h0_0k w_38)) hP hD hS hA [2, 3] (by decide +kernel) rfl
          have hKc := hK.sub (tys' := [(h0_0k, .int)]) [1] rfl
          have hrv := va_recv hKc hPc (ci := 4) (q0 := 0) rfl rfl
          refine va_callv (va_runV (As := [.int (-38)]) (rest := []) ⟨hx, hb, hml, hown, hts⟩ (c_X4_emit l dC dI H.size h0 (-38) h0_0 x_37 h0_2 h0_0k w_38 h_41) (cwV 1 hts gf_c_X4_readCondition_2_c_X4_emit rfl rfl rfl mdV_X4_emit ⟨Nat.le_of_ble_eq_true rfl, Nat.le_of_ble_eq_true rfl⟩) ⟨fun a U g mk q => by obtain ⟨q0, q1, qP, qK, qD⟩ := q; exact ⟨q0, q1, qP, va_K.moved (u := U) (U := U.calling g mk a) (Vm.Alike.refl U.vm) qK, qD⟩, hrv, fun U hU hW => ⟨rfl, by rw [hU], by rw [hU]; exact hPc, va_K.moved hW.alike hKc, hDc.weaken (fun _ _ _ _ => trivial)⟩⟩ rfl rfl hl.1 rfl (lv_room (Nat.le_of_ble_eq_true rfl)) dX4_readCondition_52 ⟨Nat.le_of_ble_eq_true rfl, Nat.le_of_ble_eq_true rfl⟩) hS (fun q _ h => hFc q h) hFc (fun u t H1 locs ht hvm hw hB hz1 hk1 hS => ?_)
          obtain ⟨x_46, w_47⟩ := u
          obtain ⟨hP1, hK1, hD1⟩ := hB
          rw [ht] at hP1
          obtain ⟨hP, hD⟩ := cl_put (w1 := (wd_c_X4_emit h0 h0_0 x_46 h0_2 h0_0 h0_0k w_47)) (nw := (wd_c_X4_readCondition_2 h1 h1_0 h1_f1 x_35 x_36 h1_0 h1_0k h1_0c h0 h0_0 x_46 h0_2 h0_0 h0_0k w_47)) hP hD [2, 3] [0, 1, 4, 5] 4 rfl hqc (by decide +kernel) rfl hk1 hFc hP1 hD1
          generalize H1 = H at hP hS ⊢
          as_aux_lemma =>
          have h_48 := hw
          exact hU _ _ _ (J55 x_35 x_36 x_46 w_47 g_h0_f1 g_h1_f1 g_h1_f2 g_h1_f3 (RG_w h_48 (by decide +kernel)) h_39 h_40 g_j9_h0_f1 g_j9_h1_f2 g_j9_h1_f3 (RG_w g_44 (by decide +kernel)) g_j9_l5 g_j9_l6 _ _ _ hP hD hS (lv_sub hl [0, 1, 3, 4, 5, 6] rfl))
      have J40 : ∀ (g_h0_f1 : RG h0_f1 0 240) (g_h1_f1 : RG h1_f1 0 240) (g_h1_f2 : RG h1_f2 0 240) (g_h1_f3 : RG h1_f3 (-1) 240) (g_j9_h0_f1 : RG j9_h0_f1 0 240) (g_j9_h1_f2 : RG j9_h1_f2 0 240) (g_j9_h1_f3 : RG j9_h1_f3 (-1) (-1)) (g_j9_l4 : RG j9_l4 0 1) (g_j9_l5 : RG j9_l5 0 1) (g_j9_l6 : RG j9_l6 0 239) (H : Heap) (locs : List Loc) (ls : Array Slot) (hP : va_P (dC, dI) vwCl (wd_c_X4_readCondition_2 h1 h1_0 h1_f1 j9_h1_f2 j9_h1_f3 h1_0 h1_0k h1_0c h0 h0_0 j9_h0_f1 h0_2 h0_0 h0_0k j9_h0_0c) H) (hD : va_D A (wd_c_X4_readCondition_2 h1 h1_0 h1_f1 j9_h1_f2 j9_h1_f3 h1_0 h1_0k h1_0c h0 h0_0 j9_h0_f1 h0_2 h0_0 h0_0k j9_h0_0c)) (hS : va_S A s.heap H locs) (hl : lv_has ls 7 [(6, .int j9_l6), (5, .int j9_l5), (4, .int j9_l4), (0, .ref h0), (1, .ref h1), (2, .int 2), (3, .int 0)]), G H locs (F0 m 40 ls [.int 2, .ref h1, .ref h0]) := by
        as_aux_lemma =>
        intro g_h0_f1 g_h1_f1 g_h1_f2 g_h1_f3 g_j9_h0_f1 g_j9_h1_f2 g_j9_h1_f3 g_j9_l4 g_j9_l5 g_j9_l6 H locs ls hP hD hS hl
        refine hG _ _ _ ?_
        refine lv_iconst (v := 0) hx hb dX4_readCondition_40 kc_iconst_0 ?_
        exact hU _ _ _ (J41 g_h0_f1 g_h1_f1 g_h1_f2 g_h1_f3 g_j9_h0_f1 g_j9_h1_f2 g_j9_h1_f3 g_j9_l4 g_j9_l5 g_j9_l6 _ _ _ hP hD hS (lv_sub hl [0, 1, 2, 3, 4, 5, 6] rfl))
      refine hG _ _ _ ?_
      refine lv_iload hx hb dX4_readCondition_9 (lv_at hl 0 rfl) ?_
      refine lv_sipush (v := 240) hx hb dX4_readCondition_11 kc_sipush_240 ?_
      refine lv_icmp_ge (tgt := 99) hx hb dX4_readCondition_14 rfl (fun c_49 => ?_) (fun c_49 => ?_)
      · have g_50 : RG j9_l6 240 240 := RG_le2 (RG_k 240 240 rfl) g_j9_l6 c_49 (by decide +kernel)
        have hK9 := hK.sub (tys' := []) [] rfl
        exact W.vret hx hb hr (fun t ht hW => ⟨⟨(j9_h1_f2, j9_h1_f3, j9_h0_f1, j9_h0_0c), rfl, ⟨g_j9_h1_f2, g_j9_h1_f3, g_j9_h0_f1⟩, by rw [ht]; exact hP, va_K.moved hW.alike hK9, hD⟩, hS.F ht⟩) hS.2.2 dX4_readCondition_99
      · have d_51 := Int32.not_le.mp c_49
        have g_52 : RG j9_l6 0 239 := RG_lt1 g_j9_l6 (RG_k 240 240 rfl) d_51 (by decide +kernel)
        refine lv_aload_n hx hb dX4_readCondition_17 rfl (lv_at hl 4 rfl) ?_
        as_aux_lemma =>
        obtain ⟨hPc, hDc, hFc, hqc⟩ := cl_cut (wc := (wd_c_X9_isRight h1 h1_0 h1_f1 j9_h1_f2 j9_h1_f3)) hP hD hS hA [0] (by decide +kernel) rfl
        have hKc := hK.sub (tys' := []) [] rfl
        have hrv := va_recv hKc hPc (ci := 9) (q0 := 0) rfl rfl
        refine va_calli (va_runV (As := []) (rest := []) ⟨hx, hb, hml, hown, hts⟩ (c_X9_isRight l dC dI H.size h1 h1_0 h1_f1 j9_h1_f2 j9_h1_f3 g_h1_f1 g_j9_h1_f2 g_j9_h1_f3) (cwV 0 hts gf_c_X4_readCondition_2_c_X9_isRight rfl rfl rfl mdV_X9_isRight ⟨Nat.le_of_ble_eq_true rfl, Nat.le_of_ble_eq_true rfl⟩) ⟨fun a U g mk q => by obtain ⟨q0, q1, qP, qK, qD⟩ := q; exact ⟨q0, q1, qP, va_K.moved (u := U) (U := U.calling g mk a) (Vm.Alike.refl U.vm) qK, qD⟩, hrv, fun U hU hW => ⟨rfl, by rw [hU], by rw [hU]; exact hPc, va_K.moved hW.alike hKc, hDc.weaken (fun _ _ _ _ => trivial)⟩⟩ rfl rfl hl.1 rfl (lv_room (Nat.le_of_ble_eq_true rfl)) dX4_readCondition_18 ⟨Nat.le_of_ble_eq_true rfl, Nat.le_of_ble_eq_true rfl⟩) hS (fun q _ h => hFc q h) hFc (fun r_53 u t H1 locs ht hvm hw hB hz1 hk1 hS => ?_)
        obtain ⟨hP1, hK1, hD1⟩ := hB
        rw [ht] at hP1
        obtain ⟨hP, hD⟩ := cl_put (w1 := (wd_c_X9_isRight h1 h1_0 h1_f1 j9_h1_f2 j9_h1_f3)) (nw := (wd_c_X4_readCondition_2 h1 h1_0 h1_f1 j9_h1_f2 j9_h1_f3 h1_0 h1_0k h1_0c h0 h0_0 j9_h0_f1 h0_2 h0_0 h0_0k j9_h0_0c)) hP hD [0] [4, 1, 2, 3] 4 rfl hqc (by decide +kernel) rfl hk1 hFc hP1 hD1
        generalize H1 = H at hP hS ⊢
        as_aux_lemma =>
        rcases hw with ⟨h_54, h_55⟩ | ⟨h_56, h_57⟩
        · rw [h_54]
          refine lv_if_eq (tgt := 99) hx hb dX4_readCondition_21 rfl (fun c_58 => ?_) (fun c_58 => absurd c_58 (by decide +kernel))
          have hK9 := hK.sub (tys' := []) [] rfl
          exact W.vret hx hb hr (fun t ht hW => ⟨⟨(j9_h1_f2, j9_h1_f3, j9_h0_f1, j9_h0_0c), rfl, ⟨g_j9_h1_f2, (RG_w h_55 (by decide +kernel)), g_j9_h0_f1⟩, by rw [ht]; exact hP, va_K.moved hW.alike hK9, hD⟩, hS.F ht⟩) hS.2.2 dX4_readCondition_99
        · rw [h_56]
          refine lv_if_eq (tgt := 99) hx hb dX4_readCondition_21 rfl (fun c_59 => absurd c_59 (by decide +kernel)) (fun c_59 => ?_)
          refine lv_aload_n hx hb dX4_readCondition_24 rfl (lv_at hl 3 rfl) ?_
          refine lv_aload_n hx hb dX4_readCondition_25 rfl (lv_at hl 4 rfl) ?_
          refine lv_iload_n hx hb dX4_readCondition_26 rfl (lv_at hl 5 rfl) ?_
          refine lv_iload_n hx hb dX4_readCondition_27 rfl (lv_at hl 6 rfl) ?_
          refine lv_if_eq (tgt := 40) hx hb dX4_readCondition_28 rfl (fun c_60 => ?_) (fun c_60 => absurd c_60 (by decide +kernel))
          exact hU _ _ _ (J40 g_h0_f1 g_h1_f1 g_h1_f2 g_h1_f3 g_j9_h0_f1 g_j9_h1_f2 h_57 g_j9_l4 g_j9_l5 g_52 _ _ _ hP hD hS (lv_sub hl [0, 1, 2, 3, 4, 5, 6] rfl))
  refine hG _ _ _ ?_
  as_aux_lemma =>
  refine lv_iconst (v := 0) hx hb dX4_readCondition_0 kc_iconst_0 ?_
  refine lv_istore (lv' := [(4, .int 0), (0, .ref h0), (1, .ref h1), (2, .int 2), (3, .int 0)]) hx hb dX4_readCondition_1 hl (Nat.le_of_ble_eq_true rfl) rfl (fun ls hl => ?_)
  refine lv_iconst (v := 0) hx hb dX4_readCondition_3 kc_iconst_0 ?_
  refine lv_istore (lv' := [(5, .int 0), (4, .int 0), (0, .ref h0), (1, .ref h1), (2, .int 2), (3, .int 0)]) hx hb dX4_readCondition_4 hl (Nat.le_of_ble_eq_true rfl) rfl (fun ls hl => ?_)
  refine lv_iconst (v := 0) hx hb dX4_readCondition_6 kc_iconst_0 ?_
  refine lv_istore (lv' := [(6, .int 0), (5, .int 0), (4, .int 0), (0, .ref h0), (1, .ref h1), (2, .int 2), (3, .int 0)]) hx hb dX4_readCondition_7 hl (Nat.le_of_ble_eq_true rfl) rfl (fun ls hl => ?_)
  exact hU _ _ _ (J9 _ 0 0 0 h1_f2 h1_f3 h0_f1 h0_0c (Nat.lt_succ_self _) g_h0_f1 g_h1_f1 g_h1_f2 g_h1_f3 g_h0_f1 g_h1_f2 g_h1_f3 (RG_w (RG_k 0 0 rfl) (by decide +kernel)) (RG_w (RG_k 0 0 rfl) (by decide +kernel)) (RG_w (RG_k 0 0 rfl) (by decide +kernel)) _ _ _ hP hD hS (lv_sub hl [0, 1, 2, 3, 4, 5, 6] rfl))
noncomputable def wd_c_X4_readUnit_2 (a0 : Nat) (a1 : Nat) (a2 : Int32) (a3 : Int32) (a4 : Int32) (a5 : Nat) (a6 : ClassId) (a7 : Nat → Int32) (a8 : Nat) (a9 : Nat) (a10 : Int32) (a11 : Nat) (a12 : Nat) (a13 : ClassId) (a14 : Nat → Int32) : va_W := [(a0, .inr (9, [.ref a1, .int a2, .int a3, .int a4])), (a5, .inl (a6, 240, .inl a7)), (a8, .inr (4, [.ref a9, .int a10, .ref a11])), (a12, .inl (a13, 240, .inl a14))]
noncomputable def wf_c_X4_readUnit_2 : List Cond := List.cons (.code yX4_readUnit cX4_readUnit 5 none) (@HAppend.hAppend (List Cond) (List Cond) (List Cond) _ (@HAppend.hAppend (List Cond) (List Cond) (List Cond) _ [.methodLink RX4 41 yX9_peek, .instanceMethod yX9_peek, .selects RX9 yX9_peek yX9_peek, .initialized RX9, .code yX9_peek cX9_peek 1 (some .int), .fieldLink RX9 22 "BuoyVote$Tape" "at" "I", .fieldLink RX9 19 "BuoyVote$Tape" "length" "I", .fieldLink RX9 11 "BuoyVote$Tape" "bytes" "[I", .methodLink RX4 45 yX4_startsUnit, .static yX4_startsUnit, .initialized RX4, .code yX4_startsUnit cX4_startsUnit 1 (some .boolean), .methodLink RX4 63 yX9_take, .instanceMethod yX9_take, .selects RX9 yX9_take yX9_take, .code yX9_take cX9_take 2 (some .boolean), .fieldLink RX9 15 "BuoyVote$Tape" "wrong" "I", .methodLink RX9 29 yX9_peek, .methodLink RX4 37 yX9_expect, .instanceMethod yX9_expect, .selects RX9 yX9_expect yX9_expect, .code yX9_expect cX9_expect 2 none, .methodLink RX9 25 yX9_refuse, .instanceMethod yX9_refuse, .selects RX9 yX9_refuse yX9_refuse, .code yX9_refuse cX9_refuse 2 none, .methodLink RX4 56 yX4_readCondition, .instanceMethod yX4_readCondition, .selects RX4 yX4_readCondition yX4_readCondition, .code yX4_readCondition cX4_readCondition 7 none, .methodLink RX4 72 yX9_isRight, .instanceMethod yX9_isRight, .selects RX9 yX9_isRight yX9_isRight, .code yX9_isRight cX9_isRight 1 (some .boolean), .methodLink RX4 76 yX4_readUnit, .instanceMethod yX4_readUnit, .selects RX4 yX4_readUnit yX4_readUnit, .methodLink RX4 82 yX9_refuseHere, .instanceMethod yX9_refuseHere, .selects RX9 yX9_refuseHere yX9_refuseHere, .code yX9_refuseHere cX9_refuseHere 1 none, .methodLink RX4 49 yX4_readSum, .instanceMethod yX4_readSum, .selects RX4 yX4_readSum yX4_readSum, .code yX4_readSum cX4_readSum 6 none, .methodLink RX4 85 yX4_readAtom, .instanceMethod yX4_readAtom, .selects RX4 yX4_readAtom yX4_readAtom, .code yX4_readAtom cX4_readAtom 6 none, .methodLink RX4 93 yJ0_indexOf_0f7a4, .instanceMethod yJ0_indexOf_0f7a4, .selects RJ0 yJ0_indexOf_0f7a4 yJ0_indexOf_0f7a4, .initialized RJ0, .code yJ0_indexOf_0f7a4 cJ0_indexOf_0f7a4 2 (some .int), .methodLink RJ0 633 yJ0_indexOf_7cf53, .instanceMethod yJ0_indexOf_7cf53, .selects RJ0 yJ0_indexOf_7cf53 yJ0_indexOf_7cf53, .code yJ0_indexOf_7cf53 cJ0_indexOf_7cf53 3 (some .int), .methodLink RJ0 492 yJ0_isLatin1_aae02, .instanceMethod yJ0_isLatin1_aae02, .selects RJ0 yJ0_isLatin1_aae02 yJ0_isLatin1_aae02, .code yJ0_isLatin1_aae02 cJ0_isLatin1_aae02 1 (some .boolean), .fieldLink RJ0 38 "java/lang/String" "COMPACT_STRINGS" "Z", .fieldLink RJ0 15 "java/lang/String" "coder" "B", .fieldLink RJ0 9 "java/lang/String" "value" "[B", .methodLink RJ0 505 yJ0_length_8abf5, .instanceMethod yJ0_length_8abf5, .selects RJ0 yJ0_length_8abf5 yJ0_length_8abf5, .code yJ0_length_8abf5 cJ0_length_8abf5 1 (some .int), .methodLink RJ0 335 yJ0_coder_7d493, .instanceMethod yJ0_coder_7d493, .selects RJ0 yJ0_coder_7d493 yJ0_coder_7d493, .code yJ0_coder_7d493 cJ0_coder_7d493 1 (some .byte), .methodLink RJ0 637 yJ1_indexOf_4cfef, .static yJ1_indexOf_4cfef, .initialized RJ1, .code yJ1_indexOf_4cfef cJ1_indexOf_4cfef 4 (some .int), .methodLink RJ1 88 yJ1_canEncode_9a6ad, .static yJ1_canEncode_9a6ad, .code yJ1_canEncode_9a6ad cJ1_canEncode_9a6ad 1 (some .boolean), .methodLink RJ1 92 Lib.Math.max.name, .static Lib.Math.max.name, .initialized "java/lang/Math", .code Lib.Math.max.name Lib.Math.max.code 2 (some .int), .methodLink RJ1 38 Lib.Math.min.name, .static Lib.Math.min.name, .code Lib.Math.min.name Lib.Math.min.code 2 (some .int), .methodLink RJ1 95 yJ1_indexOfChar_4cfef, .static yJ1_indexOfChar_4cfef, .code yJ1_indexOfChar_4cfef cJ1_indexOfChar_4cfef 6 (some .int), .methodLink RX4 99 yX9_number, .instanceMethod yX9_number, .selects RX9 yX9_number yX9_number, .code yX9_number cX9_number 4 (some .int), .methodLink RX4 79 yX9_skip, .instanceMethod yX9_skip, .selects RX9 yX9_skip yX9_skip, .code yX9_skip cX9_skip 1 none, .methodLink RX4 60 yX4_emit, .instanceMethod yX4_emit, .selects RX4 yX4_emit yX4_emit, .code yX4_emit cX4_emit 2 none, .fieldLink RX4 20 "BuoyVote$Law" "length" "I", .fieldLink RX4 11 "BuoyVote$Law" "code" "[I", .methodLink RX4 88 yX9_takeEither, .instanceMethod yX9_takeEither, .selects RX9 yX9_takeEither yX9_takeEither, .code yX9_takeEither cX9_takeEither 4 (some .int), .methodLink RX4 53 yX4_isComparison, .static yX4_isComparison, .code yX4_isComparison cX4_isComparison 1 (some .boolean)] wsX90) wsX40)
theorem iw_c_X4_readUnit_2_X9 : ∀ w ∈ wsX90, w ∈ wf_c_X4_readUnit_2 := fun w h => List.mem_cons_of_mem _ (List.mem_append_left _ (List.mem_append_right _ h))
theorem iw_c_X4_readUnit_2_X4 : ∀ w ∈ wsX40, w ∈ wf_c_X4_readUnit_2 := fun w h => List.mem_cons_of_mem _ (List.mem_append_right _ h)
set_option maxRecDepth 20000 in
theorem gf_c_X4_readUnit_2_c_X9_peek : GoodIn wf_c_X4_readUnit_2 (wsV RX4 41 RX9 yX9_peek wf_c_X9_peek) := goodIn_app (gi_l [1, 2, 3, 4] rfl rfl) (gi_cons (j := 5) rfl rfl (goodIn_app (gi_l [6, 7, 8] rfl rfl) (goodIn_sub iw_c_X4_readUnit_2_X9 gw_X9)))
set_option maxRecDepth 20000 in
theorem gf_c_X4_readUnit_2_c_X4_isComparison : GoodIn wf_c_X4_readUnit_2 (va_wsS RX4 53 yX4_isComparison wf_c_X4_isComparison) := goodIn_app (gi_l [109, 110, 11] rfl rfl) (gi_cons (j := 111) rfl rfl gi_nil)
set_option maxRecDepth 20000 in
theorem gf_c_X4_readUnit_2_c_X9_refuseHere : GoodIn wf_c_X4_readUnit_2 (wsV RX4 82 RX9 yX9_refuseHere wf_c_X9_refuseHere) := goodIn_app (gi_l [38, 39, 40, 4] rfl rfl) (gi_cons (j := 41) rfl rfl (goodIn_app (gi_l [6, 23, 24, 25, 4, 26, 17] rfl rfl) (goodIn_sub iw_c_X4_readUnit_2_X9 gw_X9)))
set_option maxRecDepth 20000 in
theorem gf_c_X4_readUnit_2_c_X4_isComparison_1 : GoodIn wf_c_X4_readUnit_2 (va_wsS RX4 53 yX4_isComparison wf_c_X4_isComparison_1) := goodIn_app (gi_l [109, 110, 11] rfl rfl) (gi_cons (j := 111) rfl rfl gi_nil)
set_option maxRecDepth 20000 in
theorem gf_c_X4_readUnit_2_c_X9_skip : GoodIn wf_c_X4_readUnit_2 (wsV RX4 79 RX9 yX9_skip wf_c_X9_skip) := goodIn_app (gi_l [95, 96, 97, 4] rfl rfl) (gi_cons (j := 98) rfl rfl (goodIn_app (gi_l [6] rfl rfl) (goodIn_sub iw_c_X4_readUnit_2_X9 gw_X9)))
set_option maxRecDepth 20000 in
theorem gf_c_X4_readUnit_2_c_X4_readSum_1 : GoodIn wf_c_X4_readUnit_2 (wsV RX4 49 RX4 yX4_readSum wf_c_X4_readSum_1) := goodIn_app (gi_l [42, 43, 44, 11] rfl rfl) (gi_cons (j := 45) rfl rfl (goodIn_app (goodIn_app (gi_l [31, 32, 33, 4, 34, 17, 46, 47, 48, 11, 49, 1, 2, 3, 5, 6, 7, 8, 50, 51, 52, 53, 54, 55, 56, 57, 58, 59, 60, 61, 62, 63, 64, 65, 66, 67, 68, 69, 70, 71, 72, 73, 74, 75, 76, 77, 78, 79, 80, 81, 82, 83, 84, 85, 86, 87, 88, 89, 90, 91, 92, 93, 94, 38, 39, 40, 41, 23, 24, 25, 26, 95, 96, 97, 98, 42, 43, 44, 99, 100, 101, 102, 103, 104, 105, 106, 107, 108, 18, 19, 20, 21, 22] rfl rfl) (goodIn_sub iw_c_X4_readUnit_2_X9 gw_X9)) (goodIn_sub iw_c_X4_readUnit_2_X4 gw_X4)))
set_option maxRecDepth 20000 in
theorem gf_c_X4_readUnit_2_c_X4_emit : GoodIn wf_c_X4_readUnit_2 (wsV RX4 60 RX4 yX4_emit wf_c_X4_emit) := goodIn_app (gi_l [99, 100, 101, 11] rfl rfl) (gi_cons (j := 102) rfl rfl (goodIn_app (gi_l [103, 104] rfl rfl) (goodIn_sub iw_c_X4_readUnit_2_X4 gw_X4)))
set_option maxRecDepth 20000 in
theorem gf_c_X4_readUnit_2_c_X4_startsUnit : GoodIn wf_c_X4_readUnit_2 (va_wsS RX4 45 yX4_startsUnit wf_c_X4_startsUnit) := goodIn_app (gi_l [9, 10, 11] rfl rfl) (gi_cons (j := 12) rfl rfl gi_nil)
set_option maxRecDepth 20000 in
theorem gf_c_X4_readUnit_2_c_X4_startsUnit_1 : GoodIn wf_c_X4_readUnit_2 (va_wsS RX4 45 yX4_startsUnit wf_c_X4_startsUnit_1) := goodIn_app (gi_l [9, 10, 11] rfl rfl) (gi_cons (j := 12) rfl rfl gi_nil)
set_option maxRecDepth 20000 in
theorem gf_c_X4_readUnit_2_c_X9_take : GoodIn wf_c_X4_readUnit_2 (wsV RX4 63 RX9 yX9_take wf_c_X9_take) := goodIn_app (gi_l [13, 14, 15, 4] rfl rfl) (gi_cons (j := 16) rfl rfl (goodIn_app (gi_l [17, 18, 2, 3, 4, 5, 6, 7, 8] rfl rfl) (goodIn_sub iw_c_X4_readUnit_2_X9 gw_X9)))
set_option maxRecDepth 20000 in
theorem gf_c_X4_readUnit_2_c_X9_expect_1 : GoodIn wf_c_X4_readUnit_2 (wsV RX4 37 RX9 yX9_expect wf_c_X9_expect_1) := goodIn_app (gi_l [19, 20, 21, 4] rfl rfl) (gi_cons (j := 22) rfl rfl (goodIn_app (gi_l [17, 18, 2, 3, 4, 5, 6, 7, 8, 23, 24, 25, 26] rfl rfl) (goodIn_sub iw_c_X4_readUnit_2_X9 gw_X9)))
set_option maxRecDepth 20000 in
theorem gf_c_X4_readUnit_2_c_X4_readCondition_2 : GoodIn wf_c_X4_readUnit_2 (wsV RX4 56 RX4 yX4_readCondition wf_c_X4_readCondition_2) := goodIn_app (gi_l [27, 28, 29, 11] rfl rfl) (gi_cons (j := 30) rfl rfl (goodIn_app (goodIn_app (gi_l [31, 32, 33, 4, 34, 17, 35, 36, 37, 11, 0, 1, 2, 3, 5, 6, 7, 8, 9, 10, 12, 13, 14, 15, 16, 18, 19, 20, 21, 22, 23, 24, 25, 26, 27, 28, 29, 38, 39, 40, 41, 42, 43, 44, 45, 46, 47, 48, 49, 50, 51, 52, 53, 54, 55, 56, 57, 58, 59, 60, 61, 62, 63, 64, 65, 66, 67, 68, 69, 70, 71, 72, 73, 74, 75, 76, 77, 78, 79, 80, 81, 82, 83, 84, 85, 86, 87, 88, 89, 90, 91, 92, 93, 94, 95, 96, 97, 98, 99, 100, 101, 102, 103, 104, 105, 106, 107, 108, 109, 110, 111] rfl rfl) (goodIn_sub iw_c_X4_readUnit_2_X9 gw_X9)) (goodIn_sub iw_c_X4_readUnit_2_X4 gw_X4)))
set_option maxRecDepth 20000 in
theorem gf_c_X4_readUnit_2_c_X4_readUnit_3 : GoodIn wf_c_X4_readUnit_2 (wsV RX4 76 RX4 yX4_readUnit wf_c_X4_readUnit_3) := goodIn_app (gi_l [35, 36, 37, 11] rfl rfl) (gi_cons (j := 0) rfl rfl (goodIn_app (goodIn_app (gi_l [1, 2, 3, 4, 5, 6, 7, 8, 9, 10, 11, 12, 13, 14, 15, 16, 17, 18, 19, 20, 21, 22, 23, 24, 25, 26, 27, 28, 29, 30, 31, 32, 33, 34, 35, 36, 37, 38, 39, 40, 41, 42, 43, 44, 45, 46, 47, 48, 49, 50, 51, 52, 53, 54, 55, 56, 57, 58, 59, 60, 61, 62, 63, 64, 65, 66, 67, 68, 69, 70, 71, 72, 73, 74, 75, 76, 77, 78, 79, 80, 81, 82, 83, 84, 85, 86, 87, 88, 89, 90, 91, 92, 93, 94, 95, 96, 97, 98, 99, 100, 101, 102, 103, 104, 105, 106, 107, 108, 109, 110, 111] rfl rfl) (goodIn_sub iw_c_X4_readUnit_2_X9 gw_X9)) (goodIn_sub iw_c_X4_readUnit_2_X4 gw_X4)))
set_option maxHeartbeats 4000000 in
set_option maxRecDepth 100000 in
theorem c_X4_readUnit_2 (l : Launch) (dC : Nat → ClassId) (dI : Nat → Nat → Nat) (sz : Nat) (h0 : Nat) (h1 : Nat) (h1_0 : Nat) (h1_f1 : Int32) (h1_f2 : Int32) (h1_f3 : Int32) (h1_0k : ClassId) (h1_0c : Nat → Int32) (h0_0 : Nat) (h0_f1 : Int32) (h0_2 : Nat) (h0_0k : ClassId) (h0_0c : Nat → Int32) (ts4 : Nat) (tv4 : Nat) (g_h1_f1 : RG h1_f1 0 240) (g_h1_f2 : RG h1_f2 0 240) (g_h1_f3 : RG h1_f3 (-1) 240) (a_h1_0c : AI h1_0c 0 255) (g_h0_f1 : RG h0_f1 0 240) : Met l yX4_readUnit wf_c_X4_readUnit_2 ({ frames := 16, cells := 0, slots := 0, locals := 391 }) (va_Pc [.ref h0, .ref h1, .int 1, .int 0] (fun U => U.heap.size = sz ∧ va_P (dC, dI) vwCl (wd_c_X4_readUnit_2 h1 h1_0 h1_f1 h1_f2 h1_f3 h1_0 h1_0k h1_0c h0 h0_0 h0_f1 h0_2 h0_0 h0_0k h0_0c) U.heap ∧ va_K (dC, dI) vwCl [(h1_0k, .int), (h0_0k, .int)] U ∧ va_D (fun _ => True) (wd_c_X4_readUnit_2 h1 h1_0 h1_f1 h1_f2 h1_f3 h1_0 h1_0k h1_0c h0 h0_0 h0_f1 h0_2 h0_0 h0_0k h0_0c) ∧ vk_R RX4 91 "vlrdph" ts4 U ∧ va_Z "java/lang/String" "COMPACT_STRINGS" "Z" (.int 1) (va_A (wd_c_X4_readUnit_2 h1 h1_0 h1_f1 h1_f2 h1_f3 h1_0 h1_0k h1_0c h0 h0_0 h0_f1 h0_2 h0_0 h0_0k h0_0c) sz) U U.heap ∧ va_OF "java/lang/String" "coder" "B" (.int 0) ts4 (va_A (wd_c_X4_readUnit_2 h1 h1_0 h1_f1 h1_f2 h1_f3 h1_0 h1_0k h1_0c h0 h0_0 h0_f1 h0_2 h0_0 h0_0k h0_0c) sz) U U.heap ∧ va_O "java/lang/String" ts4 (va_A (wd_c_X4_readUnit_2 h1 h1_0 h1_f1 h1_f2 h1_f3 h1_0 h1_0k h1_0c h0 h0_0 h0_f1 h0_2 h0_0 h0_0k h0_0c) sz) U U.heap ∧ va_OF "java/lang/String" "value" "[B" (.ref tv4) ts4 (va_A (wd_c_X4_readUnit_2 h1 h1_0 h1_f1 h1_f2 h1_f3 h1_0 h1_0k h1_0c h0 h0_0 h0_f1 h0_2 h0_0 h0_0k h0_0c) sz) U U.heap ∧ va_T .byte tv4 6 (fun j => .int ([118, 108, 114, 100, 112, 104].getD j 0)) (va_A (wd_c_X4_readUnit_2 h1 h1_0 h1_f1 h1_f2 h1_f3 h1_0 h1_0k h1_0c h0 h0_0 h0_f1 h0_2 h0_0 h0_0k h0_0c) sz) U U.heap)) (va_Qv (fun (u : (Int32) × (Int32) × (Int32) × (Nat → Int32)) => (RG u.1 0 240 ∧ RG u.2.1 (-1) 240 ∧ RG u.2.2.1 0 240)) (fun (u : (Int32) × (Int32) × (Int32) × (Nat → Int32)) t => va_P (dC, dI) vwCl (wd_c_X4_readUnit_2 h1 h1_0 h1_f1 (u.1) (u.2.1) h1_0 h1_0k h1_0c h0 h0_0 (u.2.2.1) h0_2 h0_0 h0_0k (u.2.2.2)) t.heap ∧ va_K (dC, dI) vwCl [] t ∧ va_D (va_A (wd_c_X4_readUnit_2 h1 h1_0 h1_f1 h1_f2 h1_f3 h1_0 h1_0k h1_0c h0 h0_0 h0_f1 h0_2 h0_0 h0_0k h0_0c) sz) (wd_c_X4_readUnit_2 h1 h1_0 h1_f1 (u.1) (u.2.1) h1_0 h1_0k h1_0c h0 h0_0 (u.2.2.1) h0_2 h0_0 h0_0k (u.2.2.2))) (va_A (wd_c_X4_readUnit_2 h1 h1_0 h1_f1 h1_f2 h1_f3 h1_0 h1_0k h1_0c h0 h0_0 h0_f1 h0_2 h0_0 h0_0k h0_0c) sz)) 0 0 (va_A (wd_c_X4_readUnit_2 h1 h1_0 h1_f1 h1_f2 h1_f3 h1_0 h1_0k h1_0c h0 h0_0 h0_f1 h0_2 h0_0 h0_0k h0_0c) sz) := by
  refine Met.ofW (cc := cX4_readUnit) (maxL := 5) (ret := none) (by decide +kernel) rfl ?_
  intro p e s m args below meth c s₁ B hml hv
  obtain ⟨rfl, hsz, hP, hK, hD0, hE_32, hE_10, hE_34, hE_33, hE_35, hE_36⟩ := hv
  have hx := B.exec
  have hb := B.bytes
  have hr := B.returns
  have hts := atoms_spec (ws := wf_c_X4_readUnit_2) B.pre
  have hown : s.vm.findClass RX4 = some m.cls := findClass_of_methodNamed B.named
  have hlocks := B.notSynchronized
  subst hsz
  have hD := hD0.self (sz := s.heap.size)
  generalize hAe : va_A (wd_c_X4_readUnit_2 h1 h1_0 h1_f1 h1_f2 h1_f3 h1_0 h1_0k h1_0c h0 h0_0 h0_f1 h0_2 h0_0 h0_0k h0_0c) s.heap.size = A at hD hE_10 hE_34 hE_33 hE_35 hE_36 ⊢
  have hA : ∀ q : Nat, s.heap.size ≤ q → A q := fun q h => by rw [← hAe]; exact Or.inr h
  have hP : va_P (dC, dI) vwCl (wd_c_X4_readUnit_2 h1 h1_0 h1_f1 h1_f2 h1_f3 h1_0 h1_0k h1_0c h0 h0_0 h0_f1 h0_2 h0_0 h0_0k h0_0c) s.heap := hP
  have hl := lv_entry ([.ref h0, .ref h1, .int 1, .int 0]) (n := 5) (Nat.le_of_ble_eq_true rfl)
  rw [lg_entry_eq]
  generalize (lg_sl ([.ref h0, .ref h1, .int 1, .int 0]) ++ List.replicate (5 - (lg_sl ([.ref h0, .ref h1, .int 1, .int 0])).length) Slot.unset).toArray = ls at hl ⊢
  have hl : lv_has ls 5 [(0, .ref h0), (1, .ref h1), (2, .int 1), (3, .int 0)] := hl
  obtain ⟨H, hHe⟩ : ∃ H : Heap, s.heap = H := ⟨_, rfl⟩
  have hS : va_S A s.heap H [] := by rw [hHe]; exact va_S.rf
  have hP : va_P (dC, dI) vwCl (wd_c_X4_readUnit_2 h1 h1_0 h1_f1 h1_f2 h1_f3 h1_0 h1_0k h1_0c h0 h0_0 h0_f1 h0_2 h0_0 h0_0k h0_0c) H := by rw [← hHe]; exact hP
  rw [hHe]
  refine wj (fun G hG hU => ?_)
  as_aux_lemma =>
  have J62 : ∀ (j62_h1_f2 : Int32) (j62_h1_f3 : Int32) (j62_h0_f1 : Int32) (j62_h0_0c : Nat → Int32) (g_h0_f1 : RG h0_f1 0 240) (g_h1_f1 : RG h1_f1 0 240) (g_h1_f2 : RG h1_f2 0 240) (g_h1_f3 : RG h1_f3 (-1) 240) (g_j62_h0_f1 : RG j62_h0_f1 0 240) (g_j62_h1_f2 : RG j62_h1_f2 0 240) (g_j62_h1_f3 : RG j62_h1_f3 (-1) 240) (H : Heap) (locs : List Loc) (ls : Array Slot) (hP : va_P (dC, dI) vwCl (wd_c_X4_readUnit_2 h1 h1_0 h1_f1 j62_h1_f2 j62_h1_f3 h1_0 h1_0k h1_0c h0 h0_0 j62_h0_f1 h0_2 h0_0 h0_0k j62_h0_0c) H) (hD : va_D A (wd_c_X4_readUnit_2 h1 h1_0 h1_f1 j62_h1_f2 j62_h1_f3 h1_0 h1_0k h1_0c h0 h0_0 j62_h0_f1 h0_2 h0_0 h0_0k j62_h0_0c)) (hS : va_S A s.heap H locs) (hl : lv_has ls 5 []), G H locs (F0 m 62 ls []) := by
    as_aux_lemma =>
    intro j62_h1_f2 j62_h1_f3 j62_h0_f1 j62_h0_0c g_h0_f1 g_h1_f1 g_h1_f2 g_h1_f3 g_j62_h0_f1 g_j62_h1_f2 g_j62_h1_f3 H locs ls hP hD hS hl
    refine hG _ _ _ ?_
    refine lv_goto (tgt := 126) hx hb dX4_readUnit_62 rfl ?_
    have hK9 := hK.sub (tys' := []) [] rfl
    exact W.vret hx hb hr (fun t ht hW => ⟨⟨(j62_h1_f2, j62_h1_f3, j62_h0_f1, j62_h0_0c), rfl, ⟨g_j62_h1_f2, g_j62_h1_f3, g_j62_h0_f1⟩, by rw [ht]; exact hP, va_K.moved hW.alike hK9, hD⟩, hS.F ht⟩) hS.2.2 dX4_readUnit_126
  have J24 : ∀ (j24_h1_f2 : Int32) (j24_h1_f3 : Int32) (j24_h0_f1 : Int32) (j24_h0_0c : Nat → Int32) (g_h0_f1 : RG h0_f1 0 240) (g_h1_f1 : RG h1_f1 0 240) (g_h1_f2 : RG h1_f2 0 240) (g_h1_f3 : RG h1_f3 (-1) 240) (g_j24_h0_f1 : RG j24_h0_f1 0 240) (g_j24_h1_f2 : RG j24_h1_f2 0 240) (g_j24_h1_f3 : RG j24_h1_f3 (-1) 240) (H : Heap) (locs : List Loc) (ls : Array Slot) (hP : va_P (dC, dI) vwCl (wd_c_X4_readUnit_2 h1 h1_0 h1_f1 j24_h1_f2 j24_h1_f3 h1_0 h1_0k h1_0c h0 h0_0 j24_h0_f1 h0_2 h0_0 h0_0k j24_h0_0c) H) (hD : va_D A (wd_c_X4_readUnit_2 h1 h1_0 h1_f1 j24_h1_f2 j24_h1_f3 h1_0 h1_0k h1_0c h0 h0_0 j24_h0_f1 h0_2 h0_0 h0_0k j24_h0_0c)) (hS : va_S A s.heap H locs) (hl : lv_has ls 5 [(0, .ref h0), (1, .ref h1), (2, .int 1)]), G H locs (F0 m 24 ls []) := by
    as_aux_lemma =>
    intro j24_h1_f2 j24_h1_f3 j24_h0_f1 j24_h0_0c g_h0_f1 g_h1_f1 g_h1_f2 g_h1_f3 g_j24_h0_f1 g_j24_h1_f2 g_j24_h1_f3 H locs ls hP hD hS hl
    refine hG _ _ _ ?_
    refine lv_aload_n hx hb dX4_readUnit_24 rfl (lv_at hl 1 rfl) ?_
    obtain ⟨hPc, hDc, hFc, hqc⟩ := cl_cut (wc := (wd_c_X9_peek h1 h1_0 h1_f1 j24_h1_f2 j24_h1_f3 h1_0 h1_0k h1_0c)) hP hD hS hA [0, 1] (by decide +kernel) rfl
    have hKc := hK.sub (tys' := [(h1_0k, .int)]) [0] rfl
    have hrv := va_recv hKc hPc (ci := 9) (q0 := 0) rfl rfl
    refine va_calli (va_runV (As := []) (rest := []) ⟨hx, hb, hml, hown, hts⟩ (c_X9_peek l dC dI H.size h1 h1_0 h1_f1 j24_h1_f2 j24_h1_f3 h1_0k h1_0c g_h1_f1 g_j24_h1_f2 g_j24_h1_f3 a_h1_0c) (cwV 0 hts gf_c_X4_readUnit_2_c_X9_peek rfl rfl rfl mdV_X9_peek ⟨Nat.le_of_ble_eq_true rfl, Nat.le_of_ble_eq_true rfl⟩) ⟨fun a U g mk q => by obtain ⟨q0, q1, qP, qK, qD⟩ := q; exact ⟨q0, q1, qP, va_K.moved (u := U) (U := U.calling g mk a) (Vm.Alike.refl U.vm) qK, qD⟩, hrv, fun U hU hW => ⟨rfl, by rw [hU], by rw [hU]; exact hPc, va_K.moved hW.alike hKc, hDc.weaken (fun _ _ _ _ => trivial)⟩⟩ rfl rfl hl.1 rfl (lv_room (Nat.le_of_ble_eq_true rfl)) dX4_readUnit_25 ⟨Nat.le_of_ble_eq_true rfl, Nat.le_of_ble_eq_true rfl⟩) hS (fun q _ h => hFc q h) hFc (fun r_1 x_2 t H1 locs ht hvm hw hB hz1 hk1 hS => ?_)
    obtain ⟨hP1, hK1, hD1⟩ := hB
    rw [ht] at hP1
    obtain ⟨hP, hD⟩ := cl_put (w1 := (wd_c_X9_peek h1 h1_0 h1_f1 x_2 j24_h1_f3 h1_0 h1_0k h1_0c)) (nw := (wd_c_X4_readUnit_2 h1 h1_0 h1_f1 x_2 j24_h1_f3 h1_0 h1_0k h1_0c h0 h0_0 j24_h0_f1 h0_2 h0_0 h0_0k j24_h0_0c)) hP hD [0, 1] [4, 5, 2, 3] 4 rfl hqc (by decide +kernel) rfl hk1 hFc hP1 hD1
    generalize H1 = H at hP hS ⊢
    as_aux_lemma =>
    rcases hw with ⟨h_3, h_4, h_5⟩ | ⟨h_6, h_7, h_8, h_9⟩
    · rw [h_3]
      refine lv_istore (lv' := [(4, .int (-1)), (0, .ref h0), (1, .ref h1), (2, .int 1)]) hx hb dX4_readUnit_28 hl (Nat.le_of_ble_eq_true rfl) rfl (fun ls hl => ?_)
      refine lv_iload hx hb dX4_readUnit_30 (lv_at hl 0 rfl) ?_
      obtain ⟨hPc, hDc, hFc, hqc⟩ := cl_cut (wc := []) hP hD hS hA [] (by decide +kernel) rfl
      have hKc := hK.sub (tys' := []) [] rfl
      refine va_calli (va_runS (As := [.int (-1)]) (rest := []) ⟨hx, hb, hml, hown, hts⟩ (c_X4_isComparison l dC dI H.size (-1) (RG_k (-1) (-1) rfl)) (va_cwS 1 hts gf_c_X4_readUnit_2_c_X4_isComparison rfl rfl rfl md_X4_isComparison ⟨Nat.le_of_ble_eq_true rfl, Nat.le_of_ble_eq_true rfl⟩) ⟨fun a U g mk q => by obtain ⟨q0, q1, qP, qK, qD⟩ := q; exact ⟨q0, q1, qP, va_K.moved (u := U) (U := U.calling g mk a) (Vm.Alike.refl U.vm) qK, qD⟩, fun U hU hW => ⟨rfl, by rw [hU], by rw [hU]; exact hPc, va_K.moved hW.alike hKc, hDc.weaken (fun _ _ _ _ => trivial)⟩⟩ rfl rfl hl.1 rfl (lv_room (Nat.le_of_ble_eq_true rfl)) dX4_readUnit_32 ⟨Nat.le_of_ble_eq_true rfl, Nat.le_of_ble_eq_true rfl⟩) hS (fun q _ h => hFc q h) hFc (fun r_10 u t H1 locs ht hvm hw hB hz1 hk1 hS => ?_)
      obtain ⟨hP1, hK1, hD1⟩ := hB
      rw [ht] at hP1
      have hP := bv_still hP hk1
      generalize H1 = H at hP hS ⊢
      as_aux_lemma =>
      have h_11 := hw
      rw [h_11]
      refine lv_if_eq (tgt := 58) hx hb dX4_readUnit_35 rfl (fun c_12 => ?_) (fun c_12 => absurd c_12 (by decide +kernel))
      refine lv_aload_n hx hb dX4_readUnit_58 rfl (lv_at hl 2 rfl) ?_
      obtain ⟨hPc, hDc, hFc, hqc⟩ := cl_cut (wc := (wd_c_X9_refuseHere h1 h1_0 h1_f1 x_2 j24_h1_f3)) hP hD hS hA [0] (by decide +kernel) rfl
      have hKc := hK.sub (tys' := []) [] rfl
      have hrv := va_recv hKc hPc (ci := 9) (q0 := 0) rfl rfl
      refine va_callv (va_runV (As := []) (rest := []) ⟨hx, hb, hml, hown, hts⟩ (c_X9_refuseHere l dC dI H.size h1 h1_0 h1_f1 x_2 j24_h1_f3 g_h1_f1 h_4 g_j24_h1_f3) (cwV 0 hts gf_c_X4_readUnit_2_c_X9_refuseHere rfl rfl rfl mdV_X9_refuseHere ⟨Nat.le_of_ble_eq_true rfl, Nat.le_of_ble_eq_true rfl⟩) ⟨fun a U g mk q => by obtain ⟨q0, q1, qP, qK, qD⟩ := q; exact ⟨q0, q1, qP, va_K.moved (u := U) (U := U.calling g mk a) (Vm.Alike.refl U.vm) qK, qD⟩, hrv, fun U hU hW => ⟨rfl, by rw [hU], by rw [hU]; exact hPc, va_K.moved hW.alike hKc, hDc.weaken (fun _ _ _ _ => trivial)⟩⟩ rfl rfl hl.1 rfl (lv_room (Nat.le_of_ble_eq_true rfl)) dX4_readUnit_59 ⟨Nat.le_of_ble_eq_true rfl, Nat.le_of_ble_eq_true rfl⟩) hS (fun q _ h => hFc q h) hFc (fun x_14 t H1 locs ht hvm hw hB hz1 hk1 hS => ?_)
      obtain ⟨hP1, hK1, hD1⟩ := hB
      rw [ht] at hP1
      obtain ⟨hP, hD⟩ := cl_put (w1 := (wd_c_X9_refuseHere h1 h1_0 h1_f1 x_2 x_14)) (nw := (wd_c_X4_readUnit_2 h1 h1_0 h1_f1 x_2 x_14 h1_0 h1_0k h1_0c h0 h0_0 j24_h0_f1 h0_2 h0_0 h0_0k j24_h0_0c)) hP hD [0] [4, 1, 2, 3] 4 rfl hqc (by decide +kernel) rfl hk1 hFc hP1 hD1
      generalize H1 = H at hP hS ⊢
      as_aux_lemma =>
      have h_15 := hw
      exact hU _ _ _ (J62 x_2 x_14 j24_h0_f1 j24_h0_0c g_h0_f1 g_h1_f1 g_h1_f2 g_h1_f3 g_j24_h0_f1 h_4 (RG_w h_15 (by decide +kernel)) _ _ _ hP hD hS (lv_sub hl [] rfl))
    · refine lv_istore (lv' := [(4, .int r_1), (0, .ref h0), (1, .ref h1), (2, .int 1)]) hx hb dX4_readUnit_28 hl (Nat.le_of_ble_eq_true rfl) rfl (fun ls hl => ?_)
      refine lv_iload hx hb dX4_readUnit_30 (lv_at hl 0 rfl) ?_
      obtain ⟨hPc, hDc, hFc, hqc⟩ := cl_cut (wc := []) hP hD hS hA [] (by decide +kernel) rfl
      have hKc := hK.sub (tys' := []) [] rfl
      refine va_calli (va_runS (As := [.int r_1]) (rest := []) ⟨hx, hb, hml, hown, hts⟩ (c_X4_isComparison_1 l dC dI H.size r_1 h_6) (va_cwS 1 hts gf_c_X4_readUnit_2_c_X4_isComparison_1 rfl rfl rfl md_X4_isComparison ⟨Nat.le_of_ble_eq_true rfl, Nat.le_of_ble_eq_true rfl⟩) ⟨fun a U g mk q => by obtain ⟨q0, q1, qP, qK, qD⟩ := q; exact ⟨q0, q1, qP, va_K.moved (u := U) (U := U.calling g mk a) (Vm.Alike.refl U.vm) qK, qD⟩, fun U hU hW => ⟨rfl, by rw [hU], by rw [hU]; exact hPc, va_K.moved hW.alike hKc, hDc.weaken (fun _ _ _ _ => trivial)⟩⟩ rfl rfl hl.1 rfl (lv_room (Nat.le_of_ble_eq_true rfl)) dX4_readUnit_32 ⟨Nat.le_of_ble_eq_true rfl, Nat.le_of_ble_eq_true rfl⟩) hS (fun q _ h => hFc q h) hFc (fun r_16 u t H1 locs ht hvm hw hB hz1 hk1 hS => ?_)
      obtain ⟨hP1, hK1, hD1⟩ := hB
      rw [ht] at hP1
      have hP := bv_still hP hk1
      generalize H1 = H at hP hS ⊢
      as_aux_lemma =>
      rcases hw with h_17 | ⟨h_18, h_19⟩
      · rw [h_17]
        refine lv_if_eq (tgt := 58) hx hb dX4_readUnit_35 rfl (fun c_20 => ?_) (fun c_20 => absurd c_20 (by decide +kernel))
        refine lv_aload_n hx hb dX4_readUnit_58 rfl (lv_at hl 2 rfl) ?_
        obtain ⟨hPc, hDc, hFc, hqc⟩ := cl_cut (wc := (wd_c_X9_refuseHere h1 h1_0 h1_f1 x_2 j24_h1_f3)) hP hD hS hA [0] (by decide +kernel) rfl
        have hKc := hK.sub (tys' := []) [] rfl
        have hrv := va_recv hKc hPc (ci := 9) (q0 := 0) rfl rfl
        refine va_callv (va_runV (As := []) (rest := []) ⟨hx, hb, hml, hown, hts⟩ (c_X9_refuseHere l dC dI H.size h1 h1_0 h1_f1 x_2 j24_h1_f3 (RG_w h_8 (by decide +kernel)) (RG_w h_7 (by decide +kernel)) g_j24_h1_f3) (cwV 0 hts gf_c_X4_readUnit_2_c_X9_refuseHere rfl rfl rfl mdV_X9_refuseHere ⟨Nat.le_of_ble_eq_true rfl, Nat.le_of_ble_eq_true rfl⟩) ⟨fun a U g mk q => by obtain ⟨q0, q1, qP, qK, qD⟩ := q; exact ⟨q0, q1, qP, va_K.moved (u := U) (U := U.calling g mk a) (Vm.Alike.refl U.vm) qK, qD⟩, hrv, fun U hU hW => ⟨rfl, by rw [hU], by rw [hU]; exact hPc, va_K.moved hW.alike hKc, hDc.weaken (fun _ _ _ _ => trivial)⟩⟩ rfl rfl hl.1 rfl (lv_room (Nat.le_of_ble_eq_true rfl)) dX4_readUnit_59 ⟨Nat.le_of_ble_eq_true rfl, Nat.le_of_ble_eq_true rfl⟩) hS (fun q _ h => hFc q h) hFc (fun x_22 t H1 locs ht hvm hw hB hz1 hk1 hS => ?_)
        obtain ⟨hP1, hK1, hD1⟩ := hB
        rw [ht] at hP1
        obtain ⟨hP, hD⟩ := cl_put (w1 := (wd_c_X9_refuseHere h1 h1_0 h1_f1 x_2 x_22)) (nw := (wd_c_X4_readUnit_2 h1 h1_0 h1_f1 x_2 x_22 h1_0 h1_0k h1_0c h0 h0_0 j24_h0_f1 h0_2 h0_0 h0_0k j24_h0_0c)) hP hD [0] [4, 1, 2, 3] 4 rfl hqc (by decide +kernel) rfl hk1 hFc hP1 hD1
        generalize H1 = H at hP hS ⊢
        as_aux_lemma =>
        have h_23 := hw
        exact hU _ _ _ (J62 x_2 x_22 j24_h0_f1 j24_h0_0c g_h0_f1 (RG_w h_8 (by decide +kernel)) g_h1_f2 g_h1_f3 g_j24_h0_f1 (RG_w h_7 (by decide +kernel)) (RG_w h_23 (by decide +kernel)) _ _ _ hP hD hS (lv_sub hl [] rfl))
      · rw [h_18]
        refine lv_if_eq (tgt := 58) hx hb dX4_readUnit_35 rfl (fun c_24 => absurd c_24 (by decide +kernel)) (fun c_24 => ?_)
        refine lv_aload_n hx hb dX4_readUnit_38 rfl (lv_at hl 2 rfl) ?_
        obtain ⟨hPc, hDc, hFc, hqc⟩ := cl_cut (wc := (wd_c_X9_skip h1 h1_0 h1_f1 x_2 j24_h1_f3)) hP hD hS hA [0] (by decide +kernel) rfl
        have hKc := hK.sub (tys' := []) [] rfl
        have hrv := va_recv hKc hPc (ci := 9) (q0 := 0) rfl rfl
        refine va_callv (va_runV (As := []) (rest := []) ⟨hx, hb, hml, hown, hts⟩ (c_X9_skip l dC dI H.size h1 h1_0 h1_f1 x_2 j24_h1_f3 (RG_w h_8 (by decide +kernel)) h_7 g_j24_h1_f3) (cwV 0 hts gf_c_X4_readUnit_2_c_X9_skip rfl rfl rfl mdV_X9_skip ⟨Nat.le_of_ble_eq_true rfl, Nat.le_of_ble_eq_true rfl⟩) ⟨fun a U g mk q => by obtain ⟨q0, q1, qP, qK, qD⟩ := q; exact ⟨q0, q1, qP, va_K.moved (u := U) (U := U.calling g mk a) (Vm.Alike.refl U.vm) qK, qD⟩, hrv, fun U hU hW => ⟨rfl, by rw [hU], by rw [hU]; exact hPc, va_K.moved hW.alike hKc, hDc.weaken (fun _ _ _ _ => trivial)⟩⟩ rfl rfl hl.1 rfl (lv_room (Nat.le_of_ble_eq_true rfl)) dX4_readUnit_39 ⟨Nat.le_of_ble_eq_true rfl, Nat.le_of_ble_eq_true rfl⟩) hS (fun q _ h => hFc q h) hFc (fun x_26 t H1 locs ht hvm hw hB hz1 hk1 hS => ?_)
        obtain ⟨hP1, hK1, hD1⟩ := hB
        rw [ht] at hP1
        obtain ⟨hP, hD⟩ := cl_put (w1 := (wd_c_X9_skip h1 h1_0 h1_f1 x_26 j24_h1_f3)) (nw := (wd_c_X4_readUnit_2 h1 h1_0 h1_f1 x_26 j24_h1_f3 h1_0 h1_0k h1_0c h0 h0_0 j24_h0_f1 h0_2 h0_0 h0_0k j24_h0_0c)) hP hD [0] [4, 1, 2, 3] 4 rfl hqc (by decide +kernel) rfl hk1 hFc hP1 hD1
        generalize H1 = H at hP hS ⊢
        as_aux_lemma =>
        rcases hw with ⟨h_27, h_28, h_29⟩
        refine lv_aload_n hx hb dX4_readUnit_42 rfl (lv_at hl 1 rfl) ?_
        refine lv_aload_n hx hb dX4_readUnit_43 rfl (lv_at hl 2 rfl) ?_
        refine lv_iload_n hx hb dX4_readUnit_44 rfl (lv_at hl 3 rfl) ?_
        obtain ⟨hPc, hDc, hFc, hqc⟩ := cl_cut (wc := (wd_c_X4_readSum_1 h1 h1_0 h1_f1 x_26 j24_h1_f3 h1_0 h1_0k h1_0c h0 h0_0 j24_h0_f1 h0_2 h0_0 h0_0k j24_h0_0c)) hP hD hS hA [0, 1, 2, 3] (by decide +kernel) rfl
        have hKc := hK.sub (tys' := [(h1_0k, .int), (h0_0k, .int)]) [0, 1] rfl
        have hrv := va_recv hKc hPc (ci := 4) (q0 := 2) rfl rfl
        refine va_callv (va_runV (As := [.ref h1, .int 1]) (rest := []) ⟨hx, hb, hml, hown, hts⟩ (c_X4_readSum_1 l dC dI H.size h0 h1 h1_0 h1_f1 x_26 j24_h1_f3 h1_0k h1_0c h0_0 j24_h0_f1 h0_2 h0_0k j24_h0_0c ts4 tv4 (RG_w h_8 (by decide +kernel)) (RG_w h_27 (by decide +kernel)) g_j24_h1_f3 a_h1_0c g_j24_h0_f1) (cwV 2 hts gf_c_X4_readUnit_2_c_X4_readSum_1 rfl rfl rfl mdV_X4_readSum ⟨Nat.le_of_ble_eq_true rfl, Nat.le_of_ble_eq_true rfl⟩) ⟨fun a U g mk q => by obtain ⟨q0, q1, qP, qK, qD, qE0, qE1, qE2, qE3, qE4, qE5⟩ := q; exact ⟨q0, q1, qP, va_K.moved (u := U) (U := U.calling g mk a) (Vm.Alike.refl U.vm) qK, qD, vk_R.same rfl qE0, va_Z.moved (u := U) (U := U.calling g mk a) (Vm.Alike.refl U.vm) qE1, va_OF.moved (u := U) (U := U.calling g mk a) (Vm.Alike.refl U.vm) qE2, va_O.moved (u := U) (U := U.calling g mk a) (Vm.Alike.refl U.vm) qE3, va_OF.moved (u := U) (U := U.calling g mk a) (Vm.Alike.refl U.vm) qE4, va_T.moved (u := U) (U := U.calling g mk a) (Vm.Alike.refl U.vm) qE5⟩, hrv, fun U hU hW => ⟨rfl, by rw [hU], by rw [hU]; exact hPc, va_K.moved hW.alike hKc, hDc.weaken (fun _ _ _ _ => trivial), vk_R.warm hW hE_32, va_Z.moved hW.alike (by rw [hU]; exact (hE_10.kept hS.2.1).narrow hFc), va_OF.moved hW.alike (by rw [hU]; exact (hE_34.kept hS.2.1).narrow hFc), va_O.moved hW.alike (by rw [hU]; exact (hE_33.kept hS.2.1).narrow hFc), va_OF.moved hW.alike (by rw [hU]; exact (hE_35.kept hS.2.1).narrow hFc), va_T.moved hW.alike (by rw [hU]; exact (hE_36.kept hS.2.1).narrow hFc)⟩⟩ rfl rfl hl.1 rfl (lv_room (Nat.le_of_ble_eq_true rfl)) dX4_readUnit_45 ⟨Nat.le_of_ble_eq_true rfl, Nat.le_of_ble_eq_true rfl⟩) hS (fun q _ h => hFc q h) hFc (fun u t H1 locs ht hvm hw hB hz1 hk1 hS => ?_)
        obtain ⟨x_31, x_32, x_33, w_34⟩ := u
        obtain ⟨hP1, hK1, hD1⟩ := hB
        rw [ht] at hP1
        obtain ⟨hP, hD⟩ := cl_put (w1 := (wd_c_X4_readSum_1 h1 h1_0 h1_f1 x_31 x_32 h1_0 h1_0k h1_0c h0 h0_0 x_33 h0_2 h0_0 h0_0k w_34)) (nw := (wd_c_X4_readUnit_2 h1 h1_0 h1_f1 x_31 x_32 h1_0 h1_0k h1_0c h0 h0_0 x_33 h0_2 h0_0 h0_0k w_34)) hP hD [0, 1, 2, 3] [4, 5, 6, 7] 4 rfl hqc (by decide +kernel) rfl hk1 hFc hP1 hD1
        generalize H1 = H at hP hS ⊢
        as_aux_lemma =>
        rcases hw with ⟨h_35, h_36, h_37⟩
        refine lv_aload_n hx hb dX4_readUnit_48 rfl (lv_at hl 1 rfl) ?_
        refine lv_iload hx hb dX4_readUnit_49 (lv_at hl 0 rfl) ?_
        refine lv_ineg hx hb dX4_readUnit_51 ?_
        refine lv_topi (fun x_38 ex_38 => ?_)
        have g_39 : RG x_38 (-62) (-60) := RG_neg ex_38 h_19 (by decide +kernel)
        obtain ⟨hPc, hDc, hFc, hqc⟩ := cl_cut (wc := (wd_c_X4_emit h0 h0_0 x_33 h0_2 h0_0 h0_0k w_34)) hP hD hS hA [2, 3] (by decide +kernel) rfl
        have hKc := hK.sub (tys' := [(h0_0k, .int)]) [1] rfl
        have hrv := va_recv hKc hPc (ci := 4) (q0 := 0) rfl rfl
        refine va_callv (va_runV (As := [.int x_38]) (rest := []) ⟨hx, hb, hml, hown, hts⟩ (c_X4_emit l dC dI H.size h0 x_38 h0_0 x_33 h0_2 h0_0k w_34 h_37) (cwV 1 hts gf_c_X4_readUnit_2_c_X4_emit rfl rfl rfl mdV_X4_emit ⟨Nat.le_of_ble_eq_true rfl, Nat.le_of_ble_eq_true rfl⟩) ⟨fun a U g mk q => by obtain ⟨q0, q1, qP, qK, qD⟩ := q; exact ⟨q0, q1, qP, va_K.moved (u := U) (U := U.calling g mk a) (Vm.Alike.refl U.vm) qK, qD⟩, hrv, fun U hU hW => ⟨rfl, by rw [hU], by rw [hU]; exact hPc, va_K.moved hW.alike hKc, hDc.weaken (fun _ _ _ _ => trivial)⟩⟩ rfl rfl hl.1 rfl (lv_room (Nat.le_of_ble_eq_true rfl)) dX4_readUnit_52 ⟨Nat.le_of_ble_eq_true rfl, Nat.le_of_ble_eq_true rfl⟩) hS (fun q _ h => hFc q h) hFc (fun u t H1 locs ht hvm hw hB hz1 hk1 hS => ?_)
        obtain ⟨x_41, w_42⟩ := u
        obtain ⟨hP1, hK1, hD1⟩ := hB
        rw [ht] at hP1
        obtain ⟨hP, hD⟩ := cl_put (w1 := (wd_c_X4_emit h0 h0_0 x_41 h0_2 h0_0 h0_0k w_42)) (nw := (wd_c_X4_readUnit_2 h1 h1_0 h1_f1 x_31 x_32 h1_0 h1_0k h1_0c h0 h0_0 x_41 h0_2 h0_0 h0_0k w_42)) hP hD [2, 3] [0, 1, 4, 5] 4 rfl hqc (by decide +kernel) rfl hk1 hFc hP1 hD1
        generalize H1 = H at hP hS ⊢
        as_aux_lemma =>
        have h_43 := hw
        refine lv_goto (tgt := 62) hx hb dX4_readUnit_55 rfl ?_
        exact hU _ _ _ (J62 x_31 x_32 x_41 w_42 g_h0_f1 (RG_w h_8 (by decide +kernel)) g_h1_f2 g_h1_f3 (RG_w h_43 (by decide +kernel)) h_35 h_36 _ _ _ hP hD hS (lv_sub hl [] rfl))
  have J14 : ∀ (j14_h1_f2 : Int32) (g_h0_f1 : RG h0_f1 0 240) (g_h1_f1 : RG h1_f1 0 240) (g_h1_f2 : RG h1_f2 0 240) (g_h1_f3 : RG h1_f3 (-1) 240) (g_j14_h1_f2 : RG j14_h1_f2 0 240) (H : Heap) (locs : List Loc) (ls : Array Slot) (hP : va_P (dC, dI) vwCl (wd_c_X4_readUnit_2 h1 h1_0 h1_f1 j14_h1_f2 h1_f3 h1_0 h1_0k h1_0c h0 h0_0 h0_f1 h0_2 h0_0 h0_0k h0_0c) H) (hD : va_D A (wd_c_X4_readUnit_2 h1 h1_0 h1_f1 j14_h1_f2 h1_f3 h1_0 h1_0k h1_0c h0 h0_0 h0_f1 h0_2 h0_0 h0_0k h0_0c)) (hS : va_S A s.heap H locs) (hl : lv_has ls 5 [(0, .ref h0), (1, .ref h1), (2, .int 1), (3, .int 0)]), G H locs (F0 m 14 ls []) := by
    as_aux_lemma =>
    intro j14_h1_f2 g_h0_f1 g_h1_f1 g_h1_f2 g_h1_f3 g_j14_h1_f2 H locs ls hP hD hS hl
    refine hG _ _ _ ?_
    refine lv_iload_n hx hb dX4_readUnit_14 rfl (lv_at hl 3 rfl) ?_
    refine lv_if_ne (tgt := 24) hx hb dX4_readUnit_15 rfl (fun c_44 => absurd c_44 (by decide +kernel)) (fun c_44 => ?_)
    refine lv_aload_n hx hb dX4_readUnit_18 rfl (lv_at hl 0 rfl) ?_
    refine lv_aload_n hx hb dX4_readUnit_19 rfl (lv_at hl 1 rfl) ?_
    refine lv_iload_n hx hb dX4_readUnit_20 rfl (lv_at hl 2 rfl) ?_
    obtain ⟨hPc, hDc, hFc, hqc⟩ := cl_cut (wc := (wd_c_X4_readSum_1 h1 h1_0 h1_f1 j14_h1_f2 h1_f3 h1_0 h1_0k h1_0c h0 h0_0 h0_f1 h0_2 h0_0 h0_0k h0_0c)) hP hD hS hA [0, 1, 2, 3] (by decide +kernel) rfl
    have hKc := hK.sub (tys' := [(h1_0k, .int), (h0_0k, .int)]) [0, 1] rfl
    have hrv := va_recv hKc hPc (ci := 4) (q0 := 2) rfl rfl
    refine va_callv (va_runV (As := [.ref h1, .int 1]) (rest := []) ⟨hx, hb, hml, hown, hts⟩ (c_X4_readSum_1 l dC dI H.size h0 h1 h1_0 h1_f1 j14_h1_f2 h1_f3 h1_0k h1_0c h0_0 h0_f1 h0_2 h0_0k h0_0c ts4 tv4 g_h1_f1 g_j14_h1_f2 g_h1_f3 a_h1_0c g_h0_f1) (cwV 2 hts gf_c_X4_readUnit_2_c_X4_readSum_1 rfl rfl rfl mdV_X4_readSum ⟨Nat.le_of_ble_eq_true rfl, Nat.le_of_ble_eq_true rfl⟩) ⟨fun a U g mk q => by obtain ⟨q0, q1, qP, qK, qD, qE0, qE1, qE2, qE3, qE4, qE5⟩ := q; exact ⟨q0, q1, qP, va_K.moved (u := U) (U := U.calling g mk a) (Vm.Alike.refl U.vm) qK, qD, vk_R.same rfl qE0, va_Z.moved (u := U) (U := U.calling g mk a) (Vm.Alike.refl U.vm) qE1, va_OF.moved (u := U) (U := U.calling g mk a) (Vm.Alike.refl U.vm) qE2, va_O.moved (u := U) (U := U.calling g mk a) (Vm.Alike.refl U.vm) qE3, va_OF.moved (u := U) (U := U.calling g mk a) (Vm.Alike.refl U.vm) qE4, va_T.moved (u := U) (U := U.calling g mk a) (Vm.Alike.refl U.vm) qE5⟩, hrv, fun U hU hW => ⟨rfl, by rw [hU], by rw [hU]; exact hPc, va_K.moved hW.alike hKc, hDc.weaken (fun _ _ _ _ => trivial), vk_R.warm hW hE_32, va_Z.moved hW.alike (by rw [hU]; exact (hE_10.kept hS.2.1).narrow hFc), va_OF.moved hW.alike (by rw [hU]; exact (hE_34.kept hS.2.1).narrow hFc), va_O.moved hW.alike (by rw [hU]; exact (hE_33.kept hS.2.1).narrow hFc), va_OF.moved hW.alike (by rw [hU]; exact (hE_35.kept hS.2.1).narrow hFc), va_T.moved hW.alike (by rw [hU]; exact (hE_36.kept hS.2.1).narrow hFc)⟩⟩ rfl rfl hl.1 rfl (lv_room (Nat.le_of_ble_eq_true rfl)) dX4_readUnit_21 ⟨Nat.le_of_ble_eq_true rfl, Nat.le_of_ble_eq_true rfl⟩) hS (fun q _ h => hFc q h) hFc (fun u t H1 locs ht hvm hw hB hz1 hk1 hS => ?_)
    obtain ⟨x_46, x_47, x_48, w_49⟩ := u
    obtain ⟨hP1, hK1, hD1⟩ := hB
    rw [ht] at hP1
    obtain ⟨hP, hD⟩ := cl_put (w1 := (wd_c_X4_readSum_1 h1 h1_0 h1_f1 x_46 x_47 h1_0 h1_0k h1_0c h0 h0_0 x_48 h0_2 h0_0 h0_0k w_49)) (nw := (wd_c_X4_readUnit_2 h1 h1_0 h1_f1 x_46 x_47 h1_0 h1_0k h1_0c h0 h0_0 x_48 h0_2 h0_0 h0_0k w_49)) hP hD [0, 1, 2, 3] [4, 5, 6, 7] 4 rfl hqc (by decide +kernel) rfl hk1 hFc hP1 hD1
    generalize H1 = H at hP hS ⊢
    as_aux_lemma =>
    rcases hw with ⟨h_50, h_51, h_52⟩
    exact hU _ _ _ (J24 x_46 x_47 x_48 w_49 g_h0_f1 g_h1_f1 g_h1_f2 g_h1_f3 h_52 h_50 h_51 _ _ _ hP hD hS (lv_sub hl [0, 1, 2] rfl))
  refine hG _ _ _ ?_
  refine lv_iload_n hx hb dX4_readUnit_0 rfl (lv_at hl 3 rfl) ?_
  refine lv_if_ne (tgt := 14) hx hb dX4_readUnit_1 rfl (fun c_53 => absurd c_53 (by decide +kernel)) (fun c_53 => ?_)
  refine lv_aload_n hx hb dX4_readUnit_4 rfl (lv_at hl 1 rfl) ?_
  obtain ⟨hPc, hDc, hFc, hqc⟩ := cl_cut (wc := (wd_c_X9_peek h1 h1_0 h1_f1 h1_f2 h1_f3 h1_0 h1_0k h1_0c)) hP hD hS hA [0, 1] (by decide +kernel) rfl
  have hKc := hK.sub (tys' := [(h1_0k, .int)]) [0] rfl
  have hrv := va_recv hKc hPc (ci := 9) (q0 := 0) rfl rfl
  refine va_calli (va_runV (As := []) (rest := []) ⟨hx, hb, hml, hown, hts⟩ (c_X9_peek l dC dI H.size h1 h1_0 h1_f1 h1_f2 h1_f3 h1_0k h1_0c g_h1_f1 g_h1_f2 g_h1_f3 a_h1_0c) (cwV 0 hts gf_c_X4_readUnit_2_c_X9_peek rfl rfl rfl mdV_X9_peek ⟨Nat.le_of_ble_eq_true rfl, Nat.le_of_ble_eq_true rfl⟩) ⟨fun a U g mk q => by obtain ⟨q0, q1, qP, qK, qD⟩ := q; exact ⟨q0, q1, qP, va_K.moved (u := U) (U := U.calling g mk a) (Vm.Alike.refl U.vm) qK, qD⟩, hrv, fun U hU hW => ⟨rfl, by rw [hU], by rw [hU]; exact hPc, va_K.moved hW.alike hKc, hDc.weaken (fun _ _ _ _ => trivial)⟩⟩ rfl rfl hl.1 rfl (lv_room (Nat.le_of_ble_eq_true rfl)) dX4_readUnit_5 ⟨Nat.le_of_ble_eq_true rfl, Nat.le_of_ble_eq_true rfl⟩) hS (fun q _ h => hFc q h) hFc (fun r_54 x_55 t H1 locs ht hvm hw hB hz1 hk1 hS => ?_)
  obtain ⟨hP1, hK1, hD1⟩ := hB
  rw [ht] at hP1
  obtain ⟨hP, hD⟩ := cl_put (w1 := (wd_c_X9_peek h1 h1_0 h1_f1 x_55 h1_f3 h1_0 h1_0k h1_0c)) (nw := (wd_c_X4_readUnit_2 h1 h1_0 h1_f1 x_55 h1_f3 h1_0 h1_0k h1_0c h0 h0_0 h0_f1 h0_2 h0_0 h0_0k h0_0c)) hP hD [0, 1] [4, 5, 2, 3] 4 rfl hqc (by decide +kernel) rfl hk1 hFc hP1 hD1
  generalize H1 = H at hP hS ⊢
  as_aux_lemma =>
  rcases hw with ⟨h_56, h_57, h_58⟩ | ⟨h_59, h_60, h_61, h_62⟩
  · rw [h_56]
    obtain ⟨hPc, hDc, hFc, hqc⟩ := cl_cut (wc := []) hP hD hS hA [] (by decide +kernel) rfl
    have hKc := hK.sub (tys' := []) [] rfl
    refine va_calli (va_runS (As := [.int (-1)]) (rest := []) ⟨hx, hb, hml, hown, hts⟩ (c_X4_startsUnit l dC dI H.size (-1) (RG_k (-1) (-1) rfl)) (va_cwS 1 hts gf_c_X4_readUnit_2_c_X4_startsUnit rfl rfl rfl md_X4_startsUnit ⟨Nat.le_of_ble_eq_true rfl, Nat.le_of_ble_eq_true rfl⟩) ⟨fun a U g mk q => by obtain ⟨q0, q1, qP, qK, qD⟩ := q; exact ⟨q0, q1, qP, va_K.moved (u := U) (U := U.calling g mk a) (Vm.Alike.refl U.vm) qK, qD⟩, fun U hU hW => ⟨rfl, by rw [hU], by rw [hU]; exact hPc, va_K.moved hW.alike hKc, hDc.weaken (fun _ _ _ _ => trivial)⟩⟩ rfl rfl hl.1 rfl (lv_room (Nat.le_of_ble_eq_true rfl)) dX4_readUnit_8 ⟨Nat.le_of_ble_eq_true rfl, Nat.le_of_ble_eq_true rfl⟩) hS (fun q _ h => hFc q h) hFc (fun r_63 u t H1 locs ht hvm hw hB hz1 hk1 hS => ?_)
    obtain ⟨hP1, hK1, hD1⟩ := hB
    rw [ht] at hP1
    have hP := bv_still hP hk1
    generalize H1 = H at hP hS ⊢
    as_aux_lemma =>
    have h_64 := hw
    rw [h_64]
    refine lv_if_ne (tgt := 65) hx hb dX4_readUnit_11 rfl (fun c_65 => absurd c_65 (by decide +kernel)) (fun c_65 => ?_)
    exact hU _ _ _ (J14 x_55 g_h0_f1 g_h1_f1 g_h1_f2 g_h1_f3 h_57 _ _ _ hP hD hS (lv_sub hl [0, 1, 2, 3] rfl))
  · obtain ⟨hPc, hDc, hFc, hqc⟩ := cl_cut (wc := []) hP hD hS hA [] (by decide +kernel) rfl
    have hKc := hK.sub (tys' := []) [] rfl
    refine va_calli (va_runS (As := [.int r_54]) (rest := []) ⟨hx, hb, hml, hown, hts⟩ (c_X4_startsUnit_1 l dC dI H.size r_54 h_59) (va_cwS 1 hts gf_c_X4_readUnit_2_c_X4_startsUnit_1 rfl rfl rfl md_X4_startsUnit ⟨Nat.le_of_ble_eq_true rfl, Nat.le_of_ble_eq_true rfl⟩) ⟨fun a U g mk q => by obtain ⟨q0, q1, qP, qK, qD⟩ := q; exact ⟨q0, q1, qP, va_K.moved (u := U) (U := U.calling g mk a) (Vm.Alike.refl U.vm) qK, qD⟩, fun U hU hW => ⟨rfl, by rw [hU], by rw [hU]; exact hPc, va_K.moved hW.alike hKc, hDc.weaken (fun _ _ _ _ => trivial)⟩⟩ rfl rfl hl.1 rfl (lv_room (Nat.le_of_ble_eq_true rfl)) dX4_readUnit_8 ⟨Nat.le_of_ble_eq_true rfl, Nat.le_of_ble_eq_true rfl⟩) hS (fun q _ h => hFc q h) hFc (fun r_66 u t H1 locs ht hvm hw hB hz1 hk1 hS => ?_)
    obtain ⟨hP1, hK1, hD1⟩ := hB
    rw [ht] at hP1
    have hP := bv_still hP hk1
    generalize H1 = H at hP hS ⊢
    as_aux_lemma =>
    rcases hw with h_67 | ⟨h_68, h_69⟩
    · rw [h_67]
      refine lv_if_ne (tgt := 65) hx hb dX4_readUnit_11 rfl (fun c_70 => absurd c_70 (by decide +kernel)) (fun c_70 => ?_)
      exact hU _ _ _ (J14 x_55 g_h0_f1 (RG_w h_61 (by decide +kernel)) g_h1_f2 g_h1_f3 (RG_w h_60 (by decide +kernel)) _ _ _ hP hD hS (lv_sub hl [0, 1, 2, 3] rfl))
    · rw [h_68]
      refine lv_if_ne (tgt := 65) hx hb dX4_readUnit_11 rfl (fun c_71 => ?_) (fun c_71 => absurd c_71 (by decide +kernel))
      refine lv_iload_n hx hb dX4_readUnit_65 rfl (lv_at hl 2 rfl) ?_
      refine lv_bipush (v := 6) hx hb dX4_readUnit_66 kc_bipush_6 ?_
      refine lv_icmp_lt (tgt := 78) hx hb dX4_readUnit_68 rfl (fun c_72 => ?_) (fun c_72 => absurd c_72 (by decide +kernel))
      refine lv_aload_n hx hb dX4_readUnit_78 rfl (lv_at hl 1 rfl) ?_
      refine lv_bipush (v := 33) hx hb dX4_readUnit_79 kc_bipush_33 ?_
      obtain ⟨hPc, hDc, hFc, hqc⟩ := cl_cut (wc := (wd_c_X9_take h1 h1_0 h1_f1 x_55 h1_f3 h1_0 h1_0k h1_0c)) hP hD hS hA [0, 1] (by decide +kernel) rfl
      have hKc := hK.sub (tys' := [(h1_0k, .int)]) [0] rfl
      have hrv := va_recv hKc hPc (ci := 9) (q0 := 0) rfl rfl
      refine va_calli (va_runV (As := [.int 33]) (rest := []) ⟨hx, hb, hml, hown, hts⟩ (c_X9_take l dC dI H.size h1 33 h1_0 h1_f1 x_55 h1_f3 h1_0k h1_0c (RG_w (RG_k 33 33 rfl) (by decide +kernel)) (RG_w h_61 (by decide +kernel)) (RG_w h_60 (by decide +kernel)) g_h1_f3 a_h1_0c) (cwV 1 hts gf_c_X4_readUnit_2_c_X9_take rfl rfl rfl mdV_X9_take ⟨Nat.le_of_ble_eq_true rfl, Nat.le_of_ble_eq_true rfl⟩) ⟨fun a U g mk q => by obtain ⟨q0, q1, qP, qK, qD⟩ := q; exact ⟨q0, q1, qP, va_K.moved (u := U) (U := U.calling g mk a) (Vm.Alike.refl U.vm) qK, qD⟩, hrv, fun U hU hW => ⟨rfl, by rw [hU], by rw [hU]; exact hPc, va_K.moved hW.alike hKc, hDc.weaken (fun _ _ _ _ => trivial)⟩⟩ rfl rfl hl.1 rfl (lv_room (Nat.le_of_ble_eq_true rfl)) dX4_readUnit_81 ⟨Nat.le_of_ble_eq_true rfl, Nat.le_of_ble_eq_true rfl⟩) hS (fun q _ h => hFc q h) hFc (fun r_73 x_74 t H1 locs ht hvm hw hB hz1 hk1 hS => ?_)
      as_aux_lemma =>
      obtain ⟨hP1, hK1, hD1⟩ := hB
      rw [ht] at hP1
      obtain ⟨hP, hD⟩ := cl_put (w1 := (wd_c_X9_take h1 h1_0 h1_f1 x_74 h1_f3 h1_0 h1_0k h1_0c)) (nw := (wd_c_X4_readUnit_2 h1 h1_0 h1_f1 x_74 h1_f3 h1_0 h1_0k h1_0c h0 h0_0 h0_f1 h0_2 h0_0 h0_0k h0_0c)) hP hD [0, 1] [4, 5, 2, 3] 4 rfl hqc (by decide +kernel) rfl hk1 hFc hP1 hD1
      generalize H1 = H at hP hS ⊢
      as_aux_lemma =>
      rcases hw with ⟨h_75, h_76, h_77⟩ | ⟨h_78, h_79, h_80, h_81, h_82⟩
      · rw [h_75]
        refine lv_if_eq (tgt := 105) hx hb dX4_readUnit_84 rfl (fun c_83 => ?_) (fun c_83 => absurd c_83 (by decide +kernel))
        refine lv_aload_n hx hb dX4_readUnit_105 rfl (lv_at hl 1 rfl) ?_
        refine lv_bipush (v := 40) hx hb dX4_readUnit_106 kc_bipush_40 ?_
        obtain ⟨hPc, hDc, hFc, hqc⟩ := cl_cut (wc := (wd_c_X9_expect_1 h1 h1_0 h1_f1 x_74 h1_f3 h1_0 h1_0k h1_0c)) hP hD hS hA [0, 1] (by decide +kernel) rfl
        have hKc := hK.sub (tys' := [(h1_0k, .int)]) [0] rfl
        have hrv := va_recv hKc hPc (ci := 9) (q0 := 0) rfl rfl
        refine va_callv (va_runV (As := [.int 40]) (rest := []) ⟨hx, hb, hml, hown, hts⟩ (c_X9_expect_1 l dC dI H.size h1 40 h1_0 h1_f1 x_74 h1_f3 h1_0k h1_0c (RG_w (RG_k 40 40 rfl) (by decide +kernel)) (RG_w h_61 (by decide +kernel)) h_76 g_h1_f3 a_h1_0c) (cwV 1 hts gf_c_X4_readUnit_2_c_X9_expect_1 rfl rfl rfl mdV_X9_expect ⟨Nat.le_of_ble_eq_true rfl, Nat.le_of_ble_eq_true rfl⟩) ⟨fun a U g mk q => by obtain ⟨q0, q1, qP, qK, qD⟩ := q; exact ⟨q0, q1, qP, va_K.moved (u := U) (U := U.calling g mk a) (Vm.Alike.refl U.vm) qK, qD⟩, hrv, fun U hU hW => ⟨rfl, by rw [hU], by rw [hU]; exact hPc, va_K.moved hW.alike hKc, hDc.weaken (fun _ _ _ _ => trivial)⟩⟩ rfl rfl hl.1 rfl (lv_room (Nat.le_of_ble_eq_true rfl)) dX4_readUnit_108 ⟨Nat.le_of_ble_eq_true rfl, Nat.le_of_ble_eq_true rfl⟩) hS (fun q _ h => hFc q h) hFc (fun u t H1 locs ht hvm hw hB hz1 hk1 hS => ?_)
        obtain ⟨x_85, x_86⟩ := u
        obtain ⟨hP1, hK1, hD1⟩ := hB
        rw [ht] at hP1
        obtain ⟨hP, hD⟩ := cl_put (w1 := (wd_c_X9_expect_1 h1 h1_0 h1_f1 x_85 x_86 h1_0 h1_0k h1_0c)) (nw := (wd_c_X4_readUnit_2 h1 h1_0 h1_f1 x_85 x_86 h1_0 h1_0k h1_0c h0 h0_0 h0_f1 h0_2 h0_0 h0_0k h0_0c)) hP hD [0, 1] [4, 5, 2, 3] 4 rfl hqc (by decide +kernel) rfl hk1 hFc hP1 hD1
        generalize H1 = H at hP hS ⊢
        as_aux_lemma =>
        rcases hw with ⟨h_87, h_88, h_89⟩
        refine lv_aload_n hx hb dX4_readUnit_111 rfl (lv_at hl 0 rfl) ?_
        refine lv_aload_n hx hb dX4_readUnit_112 rfl (lv_at hl 1 rfl) ?_
        refine lv_iload_n hx hb dX4_readUnit_113 rfl (lv_at hl 2 rfl) ?_
        refine lv_iconst (v := 1) hx hb dX4_readUnit_114 kc_iconst_1 ?_
        refine lv_iadd hx hb dX4_readUnit_115 ?_
        refine lv_topi (fun x_90 ex_90 => ?_)
        obtain rfl : x_90 = 2 := ex_90.trans (by decide +kernel)
        refine lv_iconst (v := 0) hx hb dX4_readUnit_116 kc_iconst_0 ?_
        obtain ⟨hPc, hDc, hFc, hqc⟩ := cl_cut (wc := (wd_c_X4_readCondition_2 h1 h1_0 h1_f1 x_85 x_86 h1_0 h1_0k h1_0c h0 h0_0 h0_f1 h0_2 h0_0 h0_0k h0_0c)) hP hD hS hA [0, 1, 2, 3] (by decide +kernel) rfl
        have hKc := hK.sub (tys' := [(h1_0k, .int), (h0_0k, .int)]) [0, 1] rfl
        have hrv := va_recv hKc hPc (ci := 4) (q0 := 2) rfl rfl
        refine va_callv (va_runV (As := [.ref h1, .int 2, .int 0]) (rest := []) ⟨hx, hb, hml, hown, hts⟩ (c_X4_readCondition_2 l dC dI H.size h0 h1 h1_0 h1_f1 x_85 x_86 h1_0k h1_0c h0_0 h0_f1 h0_2 h0_0k h0_0c ts4 tv4 (RG_w h_61 (by decide +kernel)) h_87 h_88 a_h1_0c g_h0_f1) (cwV 3 hts gf_c_X4_readUnit_2_c_X4_readCondition_2 rfl rfl rfl mdV_X4_readCondition ⟨Nat.le_of_ble_eq_true rfl, Nat.le_of_ble_eq_true rfl⟩) ⟨fun a U g mk q => by obtain ⟨q0, q1, qP, qK, qD, qE0, qE1, qE2, qE3, qE4, qE5⟩ := q; exact ⟨q0, q1, qP, va_K.moved (u := U) (U := U.calling g mk a) (Vm.Alike.refl U.vm) qK, qD, vk_R.same rfl qE0, va_Z.moved (u := U) (U := U.calling g mk a) (Vm.Alike.refl U.vm) qE1, va_OF.moved (u := U) (U := U.calling g mk a) (Vm.Alike.refl U.vm) qE2, va_O.moved (u := U) (U := U.calling g mk a) (Vm.Alike.refl U.vm) qE3, va_OF.moved (u := U) (U := U.calling g mk a) (Vm.Alike.refl U.vm) qE4, va_T.moved (u := U) (U := U.calling g mk a) (Vm.Alike.refl U.vm) qE5⟩, hrv, fun U hU hW => ⟨rfl, by rw [hU], by rw [hU]; exact hPc, va_K.moved hW.alike hKc, hDc.weaken (fun _ _ _ _ => trivial), vk_R.warm hW hE_32, va_Z.moved hW.alike (by rw [hU]; exact (hE_10.kept hS.2.1).narrow hFc), va_OF.moved hW.alike (by rw [hU]; exact (hE_34.kept hS.2.1).narrow hFc), va_O.moved hW.alike (by rw [hU]; exact (hE_33.kept hS.2.1).narrow hFc), va_OF.moved hW.alike (by rw [hU]; exact (hE_35.kept hS.2.1).narrow hFc), va_T.moved hW.alike (by rw [hU]; exact (hE_36.kept hS.2.1).narrow hFc)⟩⟩ rfl rfl hl.1 rfl (lv_room (Nat.le_of_ble_eq_true rfl)) dX4_readUnit_117 ⟨Nat.le_of_ble_eq_true rfl, Nat.le_of_ble_eq_true rfl⟩) hS (fun q _ h => hFc q h) hFc (fun u t H1 locs ht hvm hw hB hz1 hk1 hS => ?_)
        obtain ⟨x_92, x_93, x_94, w_95⟩ := u
        obtain ⟨hP1, hK1, hD1⟩ := hB
        rw [ht] at hP1
        obtain ⟨hP, hD⟩ := cl_put (w1 := (wd_c_X4_readCondition_2 h1 h1_0 h1_f1 x_92 x_93 h1_0 h1_0k h1_0c h0 h0_0 x_94 h0_2 h0_0 h0_0k w_95)) (nw := (wd_c_X4_readUnit_2 h1 h1_0 h1_f1 x_92 x_93 h1_0 h1_0k h1_0c h0 h0_0 x_94 h0_2 h0_0 h0_0k w_95)) hP hD [0, 1, 2, 3] [4, 5, 6, 7] 4 rfl hqc (by decide +kernel) rfl hk1 hFc hP1 hD1
        generalize H1 = H at hP hS ⊢
        as_aux_lemma =>
        rcases hw with ⟨h_96, h_97, h_98⟩
        refine lv_aload_n hx hb dX4_readUnit_120 rfl (lv_at hl 1 rfl) ?_
        refine lv_bipush (v := 41) hx hb dX4_readUnit_121 kc_bipush_41 ?_
        obtain ⟨hPc, hDc, hFc, hqc⟩ := cl_cut (wc := (wd_c_X9_expect_1 h1 h1_0 h1_f1 x_92 x_93 h1_0 h1_0k h1_0c)) hP hD hS hA [0, 1] (by decide +kernel) rfl
        have hKc := hK.sub (tys' := [(h1_0k, .int)]) [0] rfl
        have hrv := va_recv hKc hPc (ci := 9) (q0 := 0) rfl rfl
        refine va_callv (va_runV (As := [.int 41]) (rest := []) ⟨hx, hb, hml, hown, hts⟩ (c_X9_expect_1 l dC dI H.size h1 41 h1_0 h1_f1 x_92 x_93 h1_0k h1_0c (RG_w (RG_k 41 41 rfl) (by decide +kernel)) (RG_w h_61 (by decide +kernel)) h_96 h_97 a_h1_0c) (cwV 1 hts gf_c_X4_readUnit_2_c_X9_expect_1 rfl rfl rfl mdV_X9_expect ⟨Nat.le_of_ble_eq_true rfl, Nat.le_of_ble_eq_true rfl⟩) ⟨fun a U g mk q => by obtain ⟨q0, q1, qP, qK, qD⟩ := q; exact ⟨q0, q1, qP, va_K.moved (u := U) (U := U.calling g mk a) (Vm.Alike.refl U.vm) qK, qD⟩, hrv, fun U hU hW => ⟨rfl, by rw [hU], by rw [hU]; exact hPc, va_K.moved hW.alike hKc, hDc.weaken (fun _ _ _ _ => trivial)⟩⟩ rfl rfl hl.1 rfl (lv_room (Nat.le_of_ble_eq_true rfl)) dX4_readUnit_123 ⟨Nat.le_of_ble_eq_true rfl, Nat.le_of_ble_eq_true rfl⟩) hS (fun q _ h => hFc q h) hFc (fun u t H1 locs ht hvm hw hB hz1 hk1 hS => ?_)
        obtain ⟨x_100, x_101⟩ := u
        obtain ⟨hP1, hK1, hD1⟩ := hB
        rw [ht] at hP1
        obtain ⟨hP, hD⟩ := cl_put (w1 := (wd_c_X9_expect_1 h1 h1_0 h1_f1 x_100 x_101 h1_0 h1_0k h1_0c)) (nw := (wd_c_X4_readUnit_2 h1 h1_0 h1_f1 x_100 x_101 h1_0 h1_0k h1_0c h0 h0_0 x_94 h0_2 h0_0 h0_0k w_95)) hP hD [0, 1] [4, 5, 2, 3] 4 rfl hqc (by decide +kernel) rfl hk1 hFc hP1 hD1
        generalize H1 = H at hP hS ⊢
        as_aux_lemma =>
        rcases hw with ⟨h_102, h_103, h_104⟩
        have hK9 := hK.sub (tys' := []) [] rfl
        exact W.vret hx hb hr (fun t ht hW => ⟨⟨(x_100, x_101, x_94, w_95), rfl, ⟨h_102, h_103, h_98⟩, by rw [ht]; exact hP, va_K.moved hW.alike hK9, hD⟩, hS.F ht⟩) hS.2.2 dX4_readUnit_126
      · rw [h_78]
        refine lv_if_eq (tgt := 105) hx hb dX4_readUnit_84 rfl (fun c_105 => absurd c_105 (by decide +kernel)) (fun c_105 => ?_)
        refine lv_aload_n hx hb dX4_readUnit_87 rfl (lv_at hl 0 rfl) ?_
        refine lv_aload_n hx hb dX4_readUnit_88 rfl (lv_at hl 1 rfl) ?_
        refine lv_iload_n hx hb dX4_readUnit_89 rfl (lv_at hl 2 rfl) ?_
        refine lv_iconst (v := 1) hx hb dX4_readUnit_90 kc_iconst_1 ?_
        refine lv_iadd hx hb dX4_readUnit_91 ?_
        refine lv_topi (fun x_106 ex_106 => ?_)
        obtain rfl : x_106 = 2 := ex_106.trans (by decide +kernel)
        refine lv_iconst (v := 0) hx hb dX4_readUnit_92 kc_iconst_0 ?_
        obtain ⟨hPc, hDc, hFc, hqc⟩ := cl_cut (wc := (wd_c_X4_readUnit_3 h1 h1_0 h1_f1 x_74 h1_f3 h1_0 h1_0k h1_0c h0 h0_0 h0_f1 h0_2 h0_0 h0_0k h0_0c)) hP hD hS hA [0, 1, 2, 3] (by decide +kernel) rfl
        have hKc := hK.sub (tys' := [(h1_0k, .int), (h0_0k, .int)]) [0, 1] rfl
        have hrv := va_recv hKc hPc (ci := 4) (q0 := 2) rfl rfl
        refine va_callv (va_runV (As := [.ref h1, .int 2, .int 0]) (rest := []) ⟨hx, hb, hml, hown, hts⟩ (c_X4_readUnit_3 l dC dI H.size h0 h1 h1_0 h1_f1 x_74 h1_f3 h1_0k h1_0c h0_0 h0_f1 h0_2 h0_0k h0_0c ts4 tv4 (RG_w h_61 (by decide +kernel)) (RG_w h_79 (by decide +kernel)) (RG_w h_81 (by decide +kernel)) a_h1_0c g_h0_f1) (cwV 3 hts gf_c_X4_readUnit_2_c_X4_readUnit_3 rfl rfl rfl mdV_X4_readUnit ⟨Nat.le_of_ble_eq_true rfl, Nat.le_of_ble_eq_true rfl⟩) ⟨fun a U g mk q => by obtain ⟨q0, q1, qP, qK, qD, qE0, qE1, qE2, qE3, qE4, qE5⟩ := q; exact ⟨q0, q1, qP, va_K.moved (u := U) (U := U.calling g mk a) (Vm.Alike.refl U.vm) qK, qD, vk_R.same rfl qE0, va_Z.moved (u := U) (U := U.calling g mk a) (Vm.Alike.refl U.vm) qE1, va_OF.moved (u := U) (U := U.calling g mk a) (Vm.Alike.refl U.vm) qE2, va_O.moved (u := U) (U := U.calling g mk a) (Vm.Alike.refl U.vm) qE3, va_OF.moved (u := U) (U := U.calling g mk a) (Vm.Alike.refl U.vm) qE4, va_T.moved (u := U) (U := U.calling g mk a) (Vm.Alike.refl U.vm) qE5⟩, hrv, fun U hU hW => ⟨rfl, by rw [hU], by rw [hU]; exact hPc, va_K.moved hW.alike hKc, hDc.weaken (fun _ _ _ _ => trivial), vk_R.warm hW hE_32, va_Z.moved hW.alike (by rw [hU]; exact (hE_10.kept hS.2.1).narrow hFc), va_OF.moved hW.alike (by rw [hU]; exact (hE_34.kept hS.2.1).narrow hFc), va_O.moved hW.alike (by rw [hU]; exact (hE_33.kept hS.2.1).narrow hFc), va_OF.moved hW.alike (by rw [hU]; exact (hE_35.kept hS.2.1).narrow hFc), va_T.moved hW.alike (by rw [hU]; exact (hE_36.kept hS.2.1).narrow hFc)⟩⟩ rfl rfl hl.1 rfl (lv_room (Nat.le_of_ble_eq_true rfl)) dX4_readUnit_93 ⟨Nat.le_of_ble_eq_true rfl, Nat.le_of_ble_eq_true rfl⟩) hS (fun q _ h => hFc q h) hFc (fun u t H1 locs ht hvm hw hB hz1 hk1 hS => ?_)
        as_aux_lemma =>
        obtain ⟨x_108, x_109, x_110, w_111⟩ := u
        obtain ⟨hP1, hK1, hD1⟩ := hB
        rw [ht] at hP1
        obtain ⟨hP, hD⟩ := cl_put (w1 := (wd_c_X4_readUnit_3 h1 h1_0 h1_f1 x_108 x_109 h1_0 h1_0k h1_0c h0 h0_0 x_110 h0_2 h0_0 h0_0k w_111)) (nw := (wd_c_X4_readUnit_2 h1 h1_0 h1_f1 x_108 x_109 h1_0 h1_0k h1_0c h0 h0_0 x_110 h0_2 h0_0 h0_0k w_111)) hP hD [0, 1, 2, 3] [4, 5, 6, 7] 4 rfl hqc (by decide +kernel) rfl hk1 hFc hP1 hD1
        generalize H1 = H at hP hS ⊢
        as_aux_lemma =>
        rcases hw with ⟨h_112, h_113, h_114⟩
        refine lv_aload_n hx hb dX4_readUnit_96 rfl (lv_at hl 0 rfl) ?_
        refine lv_bipush (v := (-33)) hx hb dX4_readUnit_97 kc_bipush_m33 ?_
        obtain ⟨hPc, hDc, hFc, hqc⟩ := cl_cut (wc := (wd_c_X4_emit h0 h0_0 x_110 h0_2 h0_0 h0_0k w_111)) hP hD hS hA [2, 3] (by decide +kernel) rfl
        have hKc := hK.sub (tys' := [(h0_0k, .int)]) [1] rfl
        have hrv := va_recv hKc hPc (ci := 4) (q0 := 0) rfl rfl
        refine va_callv (va_runV (As := [.int (-33)]) (rest := []) ⟨hx, hb, hml, hown, hts⟩ (c_X4_emit l dC dI H.size h0 (-33) h0_0 x_110 h0_2 h0_0k w_111 h_114) (cwV 1 hts gf_c_X4_readUnit_2_c_X4_emit rfl rfl rfl mdV_X4_emit ⟨Nat.le_of_ble_eq_true rfl, Nat.le_of_ble_eq_true rfl⟩) ⟨fun a U g mk q => by obtain ⟨q0, q1, qP, qK, qD⟩ := q; exact ⟨q0, q1, qP, va_K.moved (u := U) (U := U.calling g mk a) (Vm.Alike.refl U.vm) qK, qD⟩, hrv, fun U hU hW => ⟨rfl, by rw [hU], by rw [hU]; exact hPc, va_K.moved hW.alike hKc, hDc.weaken (fun _ _ _ _ => trivial)⟩⟩ rfl rfl hl.1 rfl (lv_room (Nat.le_of_ble_eq_true rfl)) dX4_readUnit_99 ⟨Nat.le_of_ble_eq_true rfl, Nat.le_of_ble_eq_true rfl⟩) hS (fun q _ h => hFc q h) hFc (fun u t H1 locs ht hvm hw hB hz1 hk1 hS => ?_)
        obtain ⟨x_116, w_117⟩ := u
        obtain ⟨hP1, hK1, hD1⟩ := hB
        rw [ht] at hP1
        obtain ⟨hP, hD⟩ := cl_put (w1 := (wd_c_X4_emit h0 h0_0 x_116 h0_2 h0_0 h0_0k w_117)) (nw := (wd_c_X4_readUnit_2 h1 h1_0 h1_f1 x_108 x_109 h1_0 h1_0k h1_0c h0 h0_0 x_116 h0_2 h0_0 h0_0k w_117)) hP hD [2, 3] [0, 1, 4, 5] 4 rfl hqc (by decide +kernel) rfl hk1 hFc hP1 hD1
        generalize H1 = H at hP hS ⊢
        as_aux_lemma =>
        have h_118 := hw
        refine lv_goto (tgt := 126) hx hb dX4_readUnit_102 rfl ?_
        have hK9 := hK.sub (tys' := []) [] rfl
        exact W.vret hx hb hr (fun t ht hW => ⟨⟨(x_108, x_109, x_116, w_117), rfl, ⟨h_112, h_113, (RG_w h_118 (by decide +kernel))⟩, by rw [ht]; exact hP, va_K.moved hW.alike hK9, hD⟩, hS.F ht⟩) hS.2.2 dX4_readUnit_126
noncomputable def wd_c_X4_readCondition_1 (a0 : Nat) (a1 : Nat) (a2 : Int32) (a3 : Int32) (a4 : Int32) (a5 : Nat) (a6 : ClassId) (a7 : Nat → Int32) (a8 : Nat) (a9 : Nat) (a10 : Int32) (a11 : Nat) (a12 : Nat) (a13 : ClassId) (a14 : Nat → Int32) : va_W := [(a0, .inr (9, [.ref a1, .int a2, .int a3, .int a4])), (a5, .inl (a6, 240, .inl a7)), (a8, .inr (4, [.ref a9, .int a10, .ref a11])), (a12, .inl (a13, 240, .inl a14))]
noncomputable def wf_c_X4_readCondition_1 : List Cond := List.cons (.code yX4_readCondition cX4_readCondition 7 none) (@HAppend.hAppend (List Cond) (List Cond) (List Cond) _ (@HAppend.hAppend (List Cond) (List Cond) (List Cond) _ [.methodLink RX4 72 yX9_isRight, .instanceMethod yX9_isRight, .selects RX9 yX9_isRight yX9_isRight, .initialized RX9, .code yX9_isRight cX9_isRight 1 (some .boolean), .fieldLink RX9 15 "BuoyVote$Tape" "wrong" "I", .methodLink RX4 76 yX4_readUnit, .instanceMethod yX4_readUnit, .selects RX4 yX4_readUnit yX4_readUnit, .initialized RX4, .code yX4_readUnit cX4_readUnit 5 none, .methodLink RX4 41 yX9_peek, .instanceMethod yX9_peek, .selects RX9 yX9_peek yX9_peek, .code yX9_peek cX9_peek 1 (some .int), .fieldLink RX9 22 "BuoyVote$Tape" "at" "I", .fieldLink RX9 19 "BuoyVote$Tape" "length" "I", .fieldLink RX9 11 "BuoyVote$Tape" "bytes" "[I", .methodLink RX4 45 yX4_startsUnit, .static yX4_startsUnit, .code yX4_startsUnit cX4_startsUnit 1 (some .boolean), .methodLink RX4 63 yX9_take, .instanceMethod yX9_take, .selects RX9 yX9_take yX9_take, .code yX9_take cX9_take 2 (some .boolean), .methodLink RX9 29 yX9_peek, .methodLink RX4 37 yX9_expect, .instanceMethod yX9_expect, .selects RX9 yX9_expect yX9_expect, .code yX9_expect cX9_expect 2 none, .methodLink RX9 25 yX9_refuse, .instanceMethod yX9_refuse, .selects RX9 yX9_refuse yX9_refuse, .code yX9_refuse cX9_refuse 2 none, .methodLink RX4 56 yX4_readCondition, .instanceMethod yX4_readCondition, .selects RX4 yX4_readCondition yX4_readCondition, .methodLink RX4 82 yX9_refuseHere, .instanceMethod yX9_refuseHere, .selects RX9 yX9_refuseHere yX9_refuseHere, .code yX9_refuseHere cX9_refuseHere 1 none, .methodLink RX4 49 yX4_readSum, .instanceMethod yX4_readSum, .selects RX4 yX4_readSum yX4_readSum, .code yX4_readSum cX4_readSum 6 none, .methodLink RX4 85 yX4_readAtom, .instanceMethod yX4_readAtom, .selects RX4 yX4_readAtom yX4_readAtom, .code yX4_readAtom cX4_readAtom 6 none, .methodLink RX4 93 yJ0_indexOf_0f7a4, .instanceMethod yJ0_indexOf_0f7a4, .selects RJ0 yJ0_indexOf_0f7a4 yJ0_indexOf_0f7a4, .initialized RJ0, .code yJ0_indexOf_0f7a4 cJ0_indexOf_0f7a4 2 (some .int), .methodLink RJ0 633 yJ0_indexOf_7cf53, .instanceMethod yJ0_indexOf_7cf53, .selects RJ0 yJ0_indexOf_7cf53 yJ0_indexOf_7cf53, .code yJ0_indexOf_7cf53 cJ0_indexOf_7cf53 3 (some .int), .methodLink RJ0 492 yJ0_isLatin1_aae02, .instanceMethod yJ0_isLatin1_aae02, .selects RJ0 yJ0_isLatin1_aae02 yJ0_isLatin1_aae02, .code yJ0_isLatin1_aae02 cJ0_isLatin1_aae02 1 (some .boolean), .fieldLink RJ0 38 "java/lang/String" "COMPACT_STRINGS" "Z", .fieldLink RJ0 15 "java/lang/String" "coder" "B", .fieldLink RJ0 9 "java/lang/String" "value" "[B", .methodLink RJ0 505 yJ0_length_8abf5, .instanceMethod yJ0_length_8abf5, .selects RJ0 yJ0_length_8abf5 yJ0_length_8abf5, .code yJ0_length_8abf5 cJ0_length_8abf5 1 (some .int), .methodLink RJ0 335 yJ0_coder_7d493, .instanceMethod yJ0_coder_7d493, .selects RJ0 yJ0_coder_7d493 yJ0_coder_7d493, .code yJ0_coder_7d493 cJ0_coder_7d493 1 (some .byte), .methodLink RJ0 637 yJ1_indexOf_4cfef, .static yJ1_indexOf_4cfef, .initialized RJ1, .code yJ1_indexOf_4cfef cJ1_indexOf_4cfef 4 (some .int), .methodLink RJ1 88 yJ1_canEncode_9a6ad, .static yJ1_canEncode_9a6ad, .code yJ1_canEncode_9a6ad cJ1_canEncode_9a6ad 1 (some .boolean), .methodLink RJ1 92 Lib.Math.max.name, .static Lib.Math.max.name, .initialized "java/lang/Math", .code Lib.Math.max.name Lib.Math.max.code 2 (some .int), .methodLink RJ1 38 Lib.Math.min.name, .static Lib.Math.min.name, .code Lib.Math.min.name Lib.Math.min.code 2 (some .int), .methodLink RJ1 95 yJ1_indexOfChar_4cfef, .static yJ1_indexOfChar_4cfef, .code yJ1_indexOfChar_4cfef cJ1_indexOfChar_4cfef 6 (some .int), .methodLink RX4 99 yX9_number, .instanceMethod yX9_number, .selects RX9 yX9_number yX9_number, .code yX9_number cX9_number 4 (some .int), .methodLink RX4 79 yX9_skip, .instanceMethod yX9_skip, .selects RX9 yX9_skip yX9_skip, .code yX9_skip cX9_skip 1 none, .methodLink RX4 60 yX4_emit, .instanceMethod yX4_emit, .selects RX4 yX4_emit yX4_emit, .code yX4_emit cX4_emit 2 none, .fieldLink RX4 20 "BuoyVote$Law" "length" "I", .fieldLink RX4 11 "BuoyVote$Law" "code" "[I", .methodLink RX4 88 yX9_takeEither, .instanceMethod yX9_takeEither, .selects RX9 yX9_takeEither yX9_takeEither, .code yX9_takeEither cX9_takeEither 4 (some .int), .methodLink RX4 53 yX4_isComparison, .static yX4_isComparison, .code yX4_isComparison cX4_isComparison 1 (some .boolean)] wsX90) wsX40)
theorem iw_c_X4_readCondition_1_X9 : ∀ w ∈ wsX90, w ∈ wf_c_X4_readCondition_1 := fun w h => List.mem_cons_of_mem _ (List.mem_append_left _ (List.mem_append_right _ h))
theorem iw_c_X4_readCondition_1_X4 : ∀ w ∈ wsX40, w ∈ wf_c_X4_readCondition_1 := fun w h => List.mem_cons_of_mem _ (List.mem_append_right _ h)
set_option maxRecDepth 20000 in
theorem gf_c_X4_readCondition_1_c_X9_take_1 : GoodIn wf_c_X4_readCondition_1 (wsV RX4 63 RX9 yX9_take wf_c_X9_take_1) := goodIn_app (gi_l [22, 23, 24, 4] rfl rfl) (gi_cons (j := 25) rfl rfl (goodIn_app (gi_l [6, 26, 13, 14, 4, 15, 16, 17, 18] rfl rfl) (goodIn_sub iw_c_X4_readCondition_1_X9 gw_X9)))
set_option maxRecDepth 20000 in
theorem gf_c_X4_readCondition_1_c_X9_take : GoodIn wf_c_X4_readCondition_1 (wsV RX4 63 RX9 yX9_take wf_c_X9_take) := goodIn_app (gi_l [22, 23, 24, 4] rfl rfl) (gi_cons (j := 25) rfl rfl (goodIn_app (gi_l [6, 26, 13, 14, 4, 15, 16, 17, 18] rfl rfl) (goodIn_sub iw_c_X4_readCondition_1_X9 gw_X9)))
set_option maxRecDepth 20000 in
theorem gf_c_X4_readCondition_1_c_X4_emit : GoodIn wf_c_X4_readCondition_1 (wsV RX4 60 RX4 yX4_emit wf_c_X4_emit) := goodIn_app (gi_l [99, 100, 101, 10] rfl rfl) (gi_cons (j := 102) rfl rfl (goodIn_app (gi_l [103, 104] rfl rfl) (goodIn_sub iw_c_X4_readCondition_1_X4 gw_X4)))
set_option maxRecDepth 20000 in
theorem gf_c_X4_readCondition_1_c_X4_readUnit_2 : GoodIn wf_c_X4_readCondition_1 (wsV RX4 76 RX4 yX4_readUnit wf_c_X4_readUnit_2) := goodIn_app (gi_l [7, 8, 9, 10] rfl rfl) (gi_cons (j := 11) rfl rfl (goodIn_app (goodIn_app (gi_l [12, 13, 14, 4, 15, 16, 17, 18, 19, 20, 10, 21, 22, 23, 24, 25, 6, 26, 27, 28, 29, 30, 31, 32, 33, 34, 35, 36, 37, 0, 1, 2, 3, 5, 7, 8, 9, 38, 39, 40, 41, 42, 43, 44, 45, 46, 47, 48, 49, 50, 51, 52, 53, 54, 55, 56, 57, 58, 59, 60, 61, 62, 63, 64, 65, 66, 67, 68, 69, 70, 71, 72, 73, 74, 75, 76, 77, 78, 79, 80, 81, 82, 83, 84, 85, 86, 87, 88, 89, 90, 91, 92, 93, 94, 95, 96, 97, 98, 99, 100, 101, 102, 103, 104, 105, 106, 107, 108, 109, 110, 111] rfl rfl) (goodIn_sub iw_c_X4_readCondition_1_X9 gw_X9)) (goodIn_sub iw_c_X4_readCondition_1_X4 gw_X4)))
set_option maxRecDepth 20000 in
theorem gf_c_X4_readCondition_1_c_X9_isRight : GoodIn wf_c_X4_readCondition_1 (wsV RX4 72 RX9 yX9_isRight wf_c_X9_isRight) := goodIn_app (gi_l [1, 2, 3, 4] rfl rfl) (gi_cons (j := 5) rfl rfl (goodIn_app (gi_l [6] rfl rfl) (goodIn_sub iw_c_X4_readCondition_1_X9 gw_X9)))
set_option maxHeartbeats 4000000 in
set_option maxRecDepth 100000 in
theorem c_X4_readCondition_1 (l : Launch) (dC : Nat → ClassId) (dI : Nat → Nat → Nat) (sz : Nat) (h0 : Nat) (h1 : Nat) (h1_0 : Nat) (h1_f1 : Int32) (h1_f2 : Int32) (h1_f3 : Int32) (h1_0k : ClassId) (h1_0c : Nat → Int32) (h0_0 : Nat) (h0_f1 : Int32) (h0_2 : Nat) (h0_0k : ClassId) (h0_0c : Nat → Int32) (ts4 : Nat) (tv4 : Nat) (g_h1_f1 : RG h1_f1 0 240) (g_h1_f2 : RG h1_f2 0 240) (g_h1_f3 : RG h1_f3 (-1) 240) (a_h1_0c : AI h1_0c 0 255) (g_h0_f1 : RG h0_f1 0 240) : Met l yX4_readCondition wf_c_X4_readCondition_1 ({ frames := 17, cells := 0, slots := 0, locals := 415 }) (va_Pc [.ref h0, .ref h1, .int 1, .int 0] (fun U => U.heap.size = sz ∧ va_P (dC, dI) vwCl (wd_c_X4_readCondition_1 h1 h1_0 h1_f1 h1_f2 h1_f3 h1_0 h1_0k h1_0c h0 h0_0 h0_f1 h0_2 h0_0 h0_0k h0_0c) U.heap ∧ va_K (dC, dI) vwCl [(h1_0k, .int), (h0_0k, .int)] U ∧ va_D (fun _ => True) (wd_c_X4_readCondition_1 h1 h1_0 h1_f1 h1_f2 h1_f3 h1_0 h1_0k h1_0c h0 h0_0 h0_f1 h0_2 h0_0 h0_0k h0_0c) ∧ vk_R RX4 91 "vlrdph" ts4 U ∧ va_Z "java/lang/String" "COMPACT_STRINGS" "Z" (.int 1) (va_A (wd_c_X4_readCondition_1 h1 h1_0 h1_f1 h1_f2 h1_f3 h1_0 h1_0k h1_0c h0 h0_0 h0_f1 h0_2 h0_0 h0_0k h0_0c) sz) U U.heap ∧ va_OF "java/lang/String" "coder" "B" (.int 0) ts4 (va_A (wd_c_X4_readCondition_1 h1 h1_0 h1_f1 h1_f2 h1_f3 h1_0 h1_0k h1_0c h0 h0_0 h0_f1 h0_2 h0_0 h0_0k h0_0c) sz) U U.heap ∧ va_O "java/lang/String" ts4 (va_A (wd_c_X4_readCondition_1 h1 h1_0 h1_f1 h1_f2 h1_f3 h1_0 h1_0k h1_0c h0 h0_0 h0_f1 h0_2 h0_0 h0_0k h0_0c) sz) U U.heap ∧ va_OF "java/lang/String" "value" "[B" (.ref tv4) ts4 (va_A (wd_c_X4_readCondition_1 h1 h1_0 h1_f1 h1_f2 h1_f3 h1_0 h1_0k h1_0c h0 h0_0 h0_f1 h0_2 h0_0 h0_0k h0_0c) sz) U U.heap ∧ va_T .byte tv4 6 (fun j => .int ([118, 108, 114, 100, 112, 104].getD j 0)) (va_A (wd_c_X4_readCondition_1 h1 h1_0 h1_f1 h1_f2 h1_f3 h1_0 h1_0k h1_0c h0 h0_0 h0_f1 h0_2 h0_0 h0_0k h0_0c) sz) U U.heap)) (va_Qv (fun (u : (Int32) × (Int32) × (Int32) × (Nat → Int32)) => (RG u.1 0 240 ∧ RG u.2.1 (-1) 240 ∧ RG u.2.2.1 0 240)) (fun (u : (Int32) × (Int32) × (Int32) × (Nat → Int32)) t => va_P (dC, dI) vwCl (wd_c_X4_readCondition_1 h1 h1_0 h1_f1 (u.1) (u.2.1) h1_0 h1_0k h1_0c h0 h0_0 (u.2.2.1) h0_2 h0_0 h0_0k (u.2.2.2)) t.heap ∧ va_K (dC, dI) vwCl [] t ∧ va_D (va_A (wd_c_X4_readCondition_1 h1 h1_0 h1_f1 h1_f2 h1_f3 h1_0 h1_0k h1_0c h0 h0_0 h0_f1 h0_2 h0_0 h0_0k h0_0c) sz) (wd_c_X4_readCondition_1 h1 h1_0 h1_f1 (u.1) (u.2.1) h1_0 h1_0k h1_0c h0 h0_0 (u.2.2.1) h0_2 h0_0 h0_0k (u.2.2.2))) (va_A (wd_c_X4_readCondition_1 h1 h1_0 h1_f1 h1_f2 h1_f3 h1_0 h1_0k h1_0c h0 h0_0 h0_f1 h0_2 h0_0 h0_0k h0_0c) sz)) 0 0 (va_A (wd_c_X4_readCondition_1 h1 h1_0 h1_f1 h1_f2 h1_f3 h1_0 h1_0k h1_0c h0 h0_0 h0_f1 h0_2 h0_0 h0_0k h0_0c) sz) := by
  refine Met.ofW (cc := cX4_readCondition) (maxL := 7) (ret := none) (by decide +kernel) rfl ?_
  intro p e s m args below meth c s₁ B hml hv
  obtain ⟨rfl, hsz, hP, hK, hD0, hE_32, hE_10, hE_34, hE_33, hE_35, hE_36⟩ := hv
  have hx := B.exec
  have hb := B.bytes
  have hr := B.returns
  have hts := atoms_spec (ws := wf_c_X4_readCondition_1) B.pre
  have hown : s.vm.findClass RX4 = some m.cls := findClass_of_methodNamed B.named
  have hlocks := B.notSynchronized
  subst hsz
  have hD := hD0.self (sz := s.heap.size)
  generalize hAe : va_A (wd_c_X4_readCondition_1 h1 h1_0 h1_f1 h1_f2 h1_f3 h1_0 h1_0k h1_0c h0 h0_0 h0_f1 h0_2 h0_0 h0_0k h0_0c) s.heap.size = A at hD hE_10 hE_34 hE_33 hE_35 hE_36 ⊢
  have hA : ∀ q : Nat, s.heap.size ≤ q → A q := fun q h => by rw [← hAe]; exact Or.inr h
  have hP : va_P (dC, dI) vwCl (wd_c_X4_readCondition_1 h1 h1_0 h1_f1 h1_f2 h1_f3 h1_0 h1_0k h1_0c h0 h0_0 h0_f1 h0_2 h0_0 h0_0k h0_0c) s.heap := hP
  have hl := lv_entry ([.ref h0, .ref h1, .int 1, .int 0]) (n := 7) (Nat.le_of_ble_eq_true rfl)
  rw [lg_entry_eq]
  generalize (lg_sl ([.ref h0, .ref h1, .int 1, .int 0]) ++ List.replicate (7 - (lg_sl ([.ref h0, .ref h1, .int 1, .int 0])).length) Slot.unset).toArray = ls at hl ⊢
  have hl : lv_has ls 7 [(0, .ref h0), (1, .ref h1), (2, .int 1), (3, .int 0)] := hl
  obtain ⟨H, hHe⟩ : ∃ H : Heap, s.heap = H := ⟨_, rfl⟩
  have hS : va_S A s.heap H [] := by rw [hHe]; exact va_S.rf
  have hP : va_P (dC, dI) vwCl (wd_c_X4_readCondition_1 h1 h1_0 h1_f1 h1_f2 h1_f3 h1_0 h1_0k h1_0c h0 h0_0 h0_f1 h0_2 h0_0 h0_0k h0_0c) H := by rw [← hHe]; exact hP
  rw [hHe]
  refine wj (fun G hG hU => ?_)
  as_aux_lemma =>
  have J9 : ∀ (n9 : Nat) (j9_l6 : Int32) (j9_l5 : Int32) (j9_l4 : Int32) (j9_h1_f2 : Int32) (j9_h1_f3 : Int32) (j9_h0_f1 : Int32) (j9_h0_0c : Nat → Int32) (hM9 : MU j9_l6 < n9) (g_h0_f1 : RG h0_f1 0 240) (g_h1_f1 : RG h1_f1 0 240) (g_h1_f2 : RG h1_f2 0 240) (g_h1_f3 : RG h1_f3 (-1) 240) (g_j9_h0_f1 : RG j9_h0_f1 0 240) (g_j9_h1_f2 : RG j9_h1_f2 0 240) (g_j9_h1_f3 : RG j9_h1_f3 (-1) 240) (g_j9_l4 : RG j9_l4 0 1) (g_j9_l5 : RG j9_l5 0 1) (g_j9_l6 : RG j9_l6 0 240) (H : Heap) (locs : List Loc) (ls : Array Slot) (hP : va_P (dC, dI) vwCl (wd_c_X4_readCondition_1 h1 h1_0 h1_f1 j9_h1_f2 j9_h1_f3 h1_0 h1_0k h1_0c h0 h0_0 j9_h0_f1 h0_2 h0_0 h0_0k j9_h0_0c) H) (hD : va_D A (wd_c_X4_readCondition_1 h1 h1_0 h1_f1 j9_h1_f2 j9_h1_f3 h1_0 h1_0k h1_0c h0 h0_0 j9_h0_f1 h0_2 h0_0 h0_0k j9_h0_0c)) (hS : va_S A s.heap H locs) (hl : lv_has ls 7 [(6, .int j9_l6), (5, .int j9_l5), (4, .int j9_l4), (0, .ref h0), (1, .ref h1), (2, .int 1), (3, .int 0)]), G H locs (F0 m 9 ls []) := by
    as_aux_lemma =>
    intro n9
    induction n9 with
    | zero => intros; exact absurd (by assumption) (Nat.not_lt_zero _)
    | succ n9 ih9 =>
      intro j9_l6 j9_l5 j9_l4 j9_h1_f2 j9_h1_f3 j9_h0_f1 j9_h0_0c hM9 g_h0_f1 g_h1_f1 g_h1_f2 g_h1_f3 g_j9_h0_f1 g_j9_h1_f2 g_j9_h1_f3 g_j9_l4 g_j9_l5 g_j9_l6 H locs ls hP hD hS hl
      have J93 : ∀ (j93_l4 : Int32) (j93_l5 : Int32) (j93_h1_f2 : Int32) (j93_h1_f3 : Int32) (j93_h0_f1 : Int32) (j93_h0_0c : Nat → Int32) (g_h0_f1 : RG h0_f1 0 240) (g_h1_f1 : RG h1_f1 1 240) (g_h1_f2 : RG h1_f2 0 240) (g_h1_f3 : RG h1_f3 (-1) 240) (g_j93_h0_f1 : RG j93_h0_f1 0 240) (g_j93_h1_f2 : RG j93_h1_f2 1 240) (g_j93_h1_f3 : RG j93_h1_f3 (-1) (-1)) (g_j93_l4 : RG j93_l4 0 1) (g_j93_l5 : RG j93_l5 0 1) (g_j9_h0_f1 : RG j9_h0_f1 0 240) (g_j9_h1_f2 : RG j9_h1_f2 0 240) (g_j9_h1_f3 : RG j9_h1_f3 (-1) (-1)) (g_j9_l4 : RG j9_l4 0 1) (g_j9_l5 : RG j9_l5 0 1) (g_j9_l6 : RG j9_l6 0 239) (H : Heap) (locs : List Loc) (ls : Array Slot) (hP : va_P (dC, dI) vwCl (wd_c_X4_readCondition_1 h1 h1_0 h1_f1 j93_h1_f2 j93_h1_f3 h1_0 h1_0k h1_0c h0 h0_0 j93_h0_f1 h0_2 h0_0 h0_0k j93_h0_0c) H) (hD : va_D A (wd_c_X4_readCondition_1 h1 h1_0 h1_f1 j93_h1_f2 j93_h1_f3 h1_0 h1_0k h1_0c h0 h0_0 j93_h0_f1 h0_2 h0_0 h0_0k j93_h0_0c)) (hS : va_S A s.heap H locs) (hl : lv_has ls 7 [(4, .int j93_l4), (6, .int j9_l6), (5, .int j93_l5), (0, .ref h0), (1, .ref h1), (2, .int 1), (3, .int 0)]), G H locs (F0 m 93 ls []) := by
        as_aux_lemma =>
        intro j93_l4 j93_l5 j93_h1_f2 j93_h1_f3 j93_h0_f1 j93_h0_0c g_h0_f1 g_h1_f1 g_h1_f2 g_h1_f3 g_j93_h0_f1 g_j93_h1_f2 g_j93_h1_f3 g_j93_l4 g_j93_l5 g_j9_h0_f1 g_j9_h1_f2 g_j9_h1_f3 g_j9_l4 g_j9_l5 g_j9_l6 H locs ls hP hD hS hl
        refine hG _ _ _ ?_
        obtain ⟨x_1, ex_1⟩ : ∃ y : Int32, y = j9_l6 + 1 := ⟨_, rfl⟩
        have g_2 : RG x_1 1 240 := RG_add ex_1 g_j9_l6 (RG_k 1 1 rfl) (by decide +kernel)
        refine lv_iinc (v := x_1) (lv' := [(6, .int x_1), (4, .int j93_l4), (5, .int j93_l5), (0, .ref h0), (1, .ref h1), (2, .int 1), (3, .int 0)]) hx hb dX4_readCondition_93 hl (k := 1) rfl (by rw [ex_1]; rfl) (Nat.le_of_ble_eq_true rfl) rfl (fun ls hl => ?_)
        refine lv_goto (tgt := 9) hx hb dX4_readCondition_96 rfl ?_
        exact hU _ _ _ (ih9 x_1 j93_l5 j93_l4 j93_h1_f2 j93_h1_f3 j93_h0_f1 j93_h0_0c (mu_s (MU_add ex_1 g_j9_l6 (q := 1) rfl (by decide +kernel)) hM9) g_h0_f1 (RG_w g_h1_f1 (by decide +kernel)) g_h1_f2 g_h1_f3 g_j93_h0_f1 (RG_w g_j93_h1_f2 (by decide +kernel)) (RG_w g_j93_h1_f3 (by decide +kernel)) g_j93_l4 g_j93_l5 (RG_w g_2 (by decide +kernel)) _ _ _ hP hD hS (lv_sub hl [0, 2, 1, 3, 4, 5, 6] rfl))
      have J79 : ∀ (j79_h1_f2 : Int32) (j79_h1_f3 : Int32) (j79_h0_f1 : Int32) (j79_h0_0c : Nat → Int32) (g_h0_f1 : RG h0_f1 0 240) (g_h1_f1 : RG h1_f1 0 240) (g_h1_f2 : RG h1_f2 0 240) (g_h1_f3 : RG h1_f3 (-1) 240) (g_j79_h0_f1 : RG j79_h0_f1 0 240) (g_j79_h1_f2 : RG j79_h1_f2 0 240) (g_j79_h1_f3 : RG j79_h1_f3 (-1) 240) (g_j9_h0_f1 : RG j9_h0_f1 0 240) (g_j9_h1_f2 : RG j9_h1_f2 0 240) (g_j9_h1_f3 : RG j9_h1_f3 (-1) (-1)) (g_j9_l4 : RG j9_l4 0 1) (g_j9_l5 : RG j9_l5 0 1) (g_j9_l6 : RG j9_l6 0 239) (H : Heap) (locs : List Loc) (ls : Array Slot) (hP : va_P (dC, dI) vwCl (wd_c_X4_readCondition_1 h1 h1_0 h1_f1 j79_h1_f2 j79_h1_f3 h1_0 h1_0k h1_0c h0 h0_0 j79_h0_f1 h0_2 h0_0 h0_0k j79_h0_0c) H) (hD : va_D A (wd_c_X4_readCondition_1 h1 h1_0 h1_f1 j79_h1_f2 j79_h1_f3 h1_0 h1_0k h1_0c h0 h0_0 j79_h0_f1 h0_2 h0_0 h0_0k j79_h0_0c)) (hS : va_S A s.heap H locs) (hl : lv_has ls 7 [(4, .int 0), (6, .int j9_l6), (0, .ref h0), (1, .ref h1), (2, .int 1), (3, .int 0)]), G H locs (F0 m 79 ls []) := by
        as_aux_lemma =>
        intro j79_h1_f2 j79_h1_f3 j79_h0_f1 j79_h0_0c g_h0_f1 g_h1_f1 g_h1_f2 g_h1_f3 g_j79_h0_f1 g_j79_h1_f2 g_j79_h1_f3 g_j9_h0_f1 g_j9_h1_f2 g_j9_h1_f3 g_j9_l4 g_j9_l5 g_j9_l6 H locs ls hP hD hS hl
        refine hG _ _ _ ?_
        refine lv_aload_n hx hb dX4_readCondition_79 rfl (lv_at hl 3 rfl) ?_
        refine lv_bipush (v := 124) hx hb dX4_readCondition_80 kc_bipush_124 ?_
        obtain ⟨hPc, hDc, hFc, hqc⟩ := cl_cut (wc := (wd_c_X9_take_1 h1 h1_0 h1_f1 j79_h1_f2 j79_h1_f3 h1_0 h1_0k h1_0c)) hP hD hS hA [0, 1] (by decide +kernel) rfl
        have hKc := hK.sub (tys' := [(h1_0k, .int)]) [0] rfl
        have hrv := va_recv hKc hPc (ci := 9) (q0 := 0) rfl rfl
        refine va_calli (va_runV (As := [.int 124]) (rest := []) ⟨hx, hb, hml, hown, hts⟩ (c_X9_take_1 l dC dI H.size h1 124 h1_0 h1_f1 j79_h1_f2 j79_h1_f3 h1_0k h1_0c (RG_w (RG_k 124 124 rfl) (by decide +kernel)) g_h1_f1 g_j79_h1_f2 g_j79_h1_f3 a_h1_0c) (cwV 1 hts gf_c_X4_readCondition_1_c_X9_take_1 rfl rfl rfl mdV_X9_take ⟨Nat.le_of_ble_eq_true rfl, Nat.le_of_ble_eq_true rfl⟩) ⟨fun a U g mk q => by obtain ⟨q0, q1, qP, qK, qD⟩ := q; exact ⟨q0, q1, qP, va_K.moved (u := U) (U := U.calling g mk a) (Vm.Alike.refl U.vm) qK, qD⟩, hrv, fun U hU hW => ⟨rfl, by rw [hU], by rw [hU]; exact hPc, va_K.moved hW.alike hKc, hDc.weaken (fun _ _ _ _ => trivial)⟩⟩ rfl rfl hl.1 rfl (lv_room (Nat.le_of_ble_eq_true rfl)) dX4_readCondition_82 ⟨Nat.le_of_ble_eq_true rfl, Nat.le_of_ble_eq_true rfl⟩) hS (fun q _ h => hFc q h) hFc (fun r_3 x_4 t H1 locs ht hvm hw hB hz1 hk1 hS => ?_)
        obtain ⟨hP1, hK1, hD1⟩ := hB
        rw [ht] at hP1
        obtain ⟨hP, hD⟩ := cl_put (w1 := (wd_c_X9_take_1 h1 h1_0 h1_f1 x_4 j79_h1_f3 h1_0 h1_0k h1_0c)) (nw := (wd_c_X4_readCondition_1 h1 h1_0 h1_f1 x_4 j79_h1_f3 h1_0 h1_0k h1_0c h0 h0_0 j79_h0_f1 h0_2 h0_0 h0_0k j79_h0_0c)) hP hD [0, 1] [4, 5, 2, 3] 4 rfl hqc (by decide +kernel) rfl hk1 hFc hP1 hD1
        generalize H1 = H at hP hS ⊢
        as_aux_lemma =>
        rcases hw with ⟨h_5, h_6, h_7⟩ | ⟨h_8, h_9, h_10, h_11, h_12⟩
        · rw [h_5]
          refine lv_istore (lv' := [(5, .int 0), (4, .int 0), (6, .int j9_l6), (0, .ref h0), (1, .ref h1), (2, .int 1), (3, .int 0)]) hx hb dX4_readCondition_85 hl (Nat.le_of_ble_eq_true rfl) rfl (fun ls hl => ?_)
          refine lv_iload hx hb dX4_readCondition_87 (lv_at hl 0 rfl) ?_
          refine lv_if_ne (tgt := 93) hx hb dX4_readCondition_89 rfl (fun c_13 => absurd c_13 (by decide +kernel)) (fun c_13 => ?_)
          have hK9 := hK.sub (tys' := []) [] rfl
          exact W.vret hx hb hr (fun t ht hW => ⟨⟨(x_4, j79_h1_f3, j79_h0_f1, j79_h0_0c), rfl, ⟨h_6, g_j79_h1_f3, g_j79_h0_f1⟩, by rw [ht]; exact hP, va_K.moved hW.alike hK9, hD⟩, hS.F ht⟩) hS.2.2 dX4_readCondition_92
        · rw [h_8]
          refine lv_istore (lv' := [(5, .int 1), (4, .int 0), (6, .int j9_l6), (0, .ref h0), (1, .ref h1), (2, .int 1), (3, .int 0)]) hx hb dX4_readCondition_85 hl (Nat.le_of_ble_eq_true rfl) rfl (fun ls hl => ?_)
          refine lv_iload hx hb dX4_readCondition_87 (lv_at hl 0 rfl) ?_
          refine lv_if_ne (tgt := 93) hx hb dX4_readCondition_89 rfl (fun c_14 => ?_) (fun c_14 => absurd c_14 (by decide +kernel))
          exact hU _ _ _ (J93 0 1 x_4 j79_h1_f3 j79_h0_f1 j79_h0_0c g_h0_f1 h_10 g_h1_f2 g_h1_f3 g_j79_h0_f1 h_9 h_11 (RG_w (RG_k 0 0 rfl) (by decide +kernel)) (RG_w (RG_k 1 1 rfl) (by decide +kernel)) g_j9_h0_f1 g_j9_h1_f2 g_j9_h1_f3 g_j9_l4 g_j9_l5 g_j9_l6 _ _ _ hP hD hS (lv_sub hl [1, 2, 0, 3, 4, 5, 6] rfl))
      have J55 : ∀ (j55_h1_f2 : Int32) (j55_h1_f3 : Int32) (j55_h0_f1 : Int32) (j55_h0_0c : Nat → Int32) (g_h0_f1 : RG h0_f1 0 240) (g_h1_f1 : RG h1_f1 0 240) (g_h1_f2 : RG h1_f2 0 240) (g_h1_f3 : RG h1_f3 (-1) 240) (g_j55_h0_f1 : RG j55_h0_f1 0 240) (g_j55_h1_f2 : RG j55_h1_f2 0 240) (g_j55_h1_f3 : RG j55_h1_f3 (-1) 240) (g_j9_h0_f1 : RG j9_h0_f1 0 240) (g_j9_h1_f2 : RG j9_h1_f2 0 240) (g_j9_h1_f3 : RG j9_h1_f3 (-1) (-1)) (g_j9_l4 : RG j9_l4 0 1) (g_j9_l5 : RG j9_l5 0 1) (g_j9_l6 : RG j9_l6 0 239) (H : Heap) (locs : List Loc) (ls : Array Slot) (hP : va_P (dC, dI) vwCl (wd_c_X4_readCondition_1 h1 h1_0 h1_f1 j55_h1_f2 j55_h1_f3 h1_0 h1_0k h1_0c h0 h0_0 j55_h0_f1 h0_2 h0_0 h0_0k j55_h0_0c) H) (hD : va_D A (wd_c_X4_readCondition_1 h1 h1_0 h1_f1 j55_h1_f2 j55_h1_f3 h1_0 h1_0k h1_0c h0 h0_0 j55_h0_f1 h0_2 h0_0 h0_0k j55_h0_0c)) (hS : va_S A s.heap H locs) (hl : lv_has ls 7 [(6, .int j9_l6), (5, .int j9_l5), (0, .ref h0), (1, .ref h1), (2, .int 1), (3, .int 0)]), G H locs (F0 m 55 ls []) := by
        as_aux_lemma =>
        intro j55_h1_f2 j55_h1_f3 j55_h0_f1 j55_h0_0c g_h0_f1 g_h1_f1 g_h1_f2 g_h1_f3 g_j55_h0_f1 g_j55_h1_f2 g_j55_h1_f3 g_j9_h0_f1 g_j9_h1_f2 g_j9_h1_f3 g_j9_l4 g_j9_l5 g_j9_l6 H locs ls hP hD hS hl
        refine hG _ _ _ ?_
        refine lv_aload_n hx hb dX4_readCondition_55 rfl (lv_at hl 3 rfl) ?_
        refine lv_bipush (v := 38) hx hb dX4_readCondition_56 kc_bipush_38 ?_
        obtain ⟨hPc, hDc, hFc, hqc⟩ := cl_cut (wc := (wd_c_X9_take h1 h1_0 h1_f1 j55_h1_f2 j55_h1_f3 h1_0 h1_0k h1_0c)) hP hD hS hA [0, 1] (by decide +kernel) rfl
        have hKc := hK.sub (tys' := [(h1_0k, .int)]) [0] rfl
        have hrv := va_recv hKc hPc (ci := 9) (q0 := 0) rfl rfl
        refine va_calli (va_runV (As := [.int 38]) (rest := []) ⟨hx, hb, hml, hown, hts⟩ (c_X9_take l dC dI H.size h1 38 h1_0 h1_f1 j55_h1_f2 j55_h1_f3 h1_0k h1_0c (RG_w (RG_k 38 38 rfl) (by decide +kernel)) g_h1_f1 g_j55_h1_f2 g_j55_h1_f3 a_h1_0c) (cwV 1 hts gf_c_X4_readCondition_1_c_X9_take rfl rfl rfl mdV_X9_take ⟨Nat.le_of_ble_eq_true rfl, Nat.le_of_ble_eq_true rfl⟩) ⟨fun a U g mk q => by obtain ⟨q0, q1, qP, qK, qD⟩ := q; exact ⟨q0, q1, qP, va_K.moved (u := U) (U := U.calling g mk a) (Vm.Alike.refl U.vm) qK, qD⟩, hrv, fun U hU hW => ⟨rfl, by rw [hU], by rw [hU]; exact hPc, va_K.moved hW.alike hKc, hDc.weaken (fun _ _ _ _ => trivial)⟩⟩ rfl rfl hl.1 rfl (lv_room (Nat.le_of_ble_eq_true rfl)) dX4_readCondition_58 ⟨Nat.le_of_ble_eq_true rfl, Nat.le_of_ble_eq_true rfl⟩) hS (fun q _ h => hFc q h) hFc (fun r_15 x_16 t H1 locs ht hvm hw hB hz1 hk1 hS => ?_)
        obtain ⟨hP1, hK1, hD1⟩ := hB
        rw [ht] at hP1
        obtain ⟨hP, hD⟩ := cl_put (w1 := (wd_c_X9_take h1 h1_0 h1_f1 x_16 j55_h1_f3 h1_0 h1_0k h1_0c)) (nw := (wd_c_X4_readCondition_1 h1 h1_0 h1_f1 x_16 j55_h1_f3 h1_0 h1_0k h1_0c h0 h0_0 j55_h0_f1 h0_2 h0_0 h0_0k j55_h0_0c)) hP hD [0, 1] [4, 5, 2, 3] 4 rfl hqc (by decide +kernel) rfl hk1 hFc hP1 hD1
        generalize H1 = H at hP hS ⊢
        as_aux_lemma =>
        rcases hw with ⟨h_17, h_18, h_19⟩ | ⟨h_20, h_21, h_22, h_23, h_24⟩
        · rw [h_17]
          refine lv_istore (lv' := [(4, .int 0), (6, .int j9_l6), (5, .int j9_l5), (0, .ref h0), (1, .ref h1), (2, .int 1), (3, .int 0)]) hx hb dX4_readCondition_61 hl (Nat.le_of_ble_eq_true rfl) rfl (fun ls hl => ?_)
          refine lv_iload hx hb dX4_readCondition_63 (lv_at hl 0 rfl) ?_
          refine lv_if_ne (tgt := 93) hx hb dX4_readCondition_65 rfl (fun c_25 => absurd c_25 (by decide +kernel)) (fun c_25 => ?_)
          refine lv_iload hx hb dX4_readCondition_68 (lv_at hl 2 rfl) ?_
          refine lv_if_eq (tgt := 79) hx hb dX4_readCondition_70 rfl (fun c_26 => ?_) (fun c_26 => ?_)
          · have g_27 : RG j9_l5 0 0 := RG_eq1 g_j9_l5 (RG_k 0 0 rfl) c_26 (by decide +kernel)
            exact hU _ _ _ (J79 x_16 j55_h1_f3 j55_h0_f1 j55_h0_0c g_h0_f1 g_h1_f1 g_h1_f2 g_h1_f3 g_j55_h0_f1 h_18 g_j55_h1_f3 g_j9_h0_f1 g_j9_h1_f2 g_j9_h1_f3 g_j9_l4 (RG_w g_27 (by decide +kernel)) g_j9_l6 _ _ _ hP hD hS (lv_sub hl [0, 1, 3, 4, 5, 6] rfl))
          · have g_28 : RG j9_l5 1 1 := RG_ne1 g_j9_l5 (q := 0) rfl c_26 (by decide +kernel)
            refine lv_aload_n hx hb dX4_readCondition_73 rfl (lv_at hl 3 rfl) ?_
            refine lv_bipush (v := (-124)) hx hb dX4_readCondition_74 kc_bipush_m124 ?_
            obtain ⟨hPc, hDc, hFc, hqc⟩ := cl_cut (wc := (wd_c_X4_emit h0 h0_0 j55_h0_f1 h0_2 h0_0 h0_0k j55_h0_0c)) hP hD hS hA [2, 3] (by decide +kernel) rfl
            have hKc := hK.sub (tys' := [(h0_0k, .int)]) [1] rfl
            have hrv := va_recv hKc hPc (ci := 4) (q0 := 0) rfl rfl
            refine va_callv (va_runV (As := [.int (-124)]) (rest := []) ⟨hx, hb, hml, hown, hts⟩ (c_X4_emit l dC dI H.size h0 (-124) h0_0 j55_h0_f1 h0_2 h0_0k j55_h0_0c g_j55_h0_f1) (cwV 1 hts gf_c_X4_readCondition_1_c_X4_emit rfl rfl rfl mdV_X4_emit ⟨Nat.le_of_ble_eq_true rfl, Nat.le_of_ble_eq_true rfl⟩) ⟨fun a U g mk q => by obtain ⟨q0, q1, qP, qK, qD⟩ := q; exact ⟨q0, q1, qP, va_K.moved (u := U) (U := U.calling g mk a) (Vm.Alike.refl U.vm) qK, qD⟩, hrv, fun U hU hW => ⟨rfl, by rw [hU], by rw [hU]; exact hPc, va_K.moved hW.alike hKc, hDc.weaken (fun _ _ _ _ => trivial)⟩⟩ rfl rfl hl.1 rfl (lv_room (Nat.le_of_ble_eq_true rfl)) dX4_readCondition_76 ⟨Nat.le_of_ble_eq_true rfl, Nat.le_of_ble_eq_true rfl⟩) hS (fun q _ h => hFc q h) hFc (fun u t H1 locs ht hvm hw hB hz1 hk1 hS => ?_)
            as_aux_lemma =>
            obtain ⟨x_30, w_31⟩ := u
            obtain ⟨hP1, hK1, hD1⟩ := hB
            rw [ht] at hP1
            obtain ⟨hP, hD⟩ := cl_put (w1 := (wd_c_X4_emit h0 h0_0 x_30 h0_2 h0_0 h0_0k w_31)) (nw := (wd_c_X4_readCondition_1 h1 h1_0 h1_f1 x_16 j55_h1_f3 h1_0 h1_0k h1_0c h0 h0_0 x_30 h0_2 h0_0 h0_0k w_31)) hP hD [2, 3] [0, 1, 4, 5] 4 rfl hqc (by decide +kernel) rfl hk1 hFc hP1 hD1
            generalize H1 = H at hP hS ⊢
            as_aux_lemma =>
            have h_32 := hw
            exact hU _ _ _ (J79 x_16 j55_h1_f3 x_30 w_31 g_h0_f1 g_h1_f1 g_h1_f2 g_h1_f3 (RG_w h_32 (by decide +kernel)) h_18 g_j55_h1_f3 g_j9_h0_f1 g_j9_h1_f2 g_j9_h1_f3 g_j9_l4 (RG_w g_28 (by decide +kernel)) g_j9_l6 _ _ _ hP hD hS (lv_sub hl [0, 1, 3, 4, 5, 6] rfl))
        · rw [h_20]
          refine lv_istore (lv' := [(4, .int 1), (6, .int j9_l6), (5, .int j9_l5), (0, .ref h0), (1, .ref h1), (2, .int 1), (3, .int 0)]) hx hb dX4_readCondition_61 hl (Nat.le_of_ble_eq_true rfl) rfl (fun ls hl => ?_)
          refine lv_iload hx hb dX4_readCondition_63 (lv_at hl 0 rfl) ?_
          refine lv_if_ne (tgt := 93) hx hb dX4_readCondition_65 rfl (fun c_33 => ?_) (fun c_33 => absurd c_33 (by decide +kernel))
          exact hU _ _ _ (J93 1 j9_l5 x_16 j55_h1_f3 j55_h0_f1 j55_h0_0c g_h0_f1 h_22 g_h1_f2 g_h1_f3 g_j55_h0_f1 h_21 h_23 (RG_w (RG_k 1 1 rfl) (by decide +kernel)) g_j9_l5 g_j9_h0_f1 g_j9_h1_f2 g_j9_h1_f3 g_j9_l4 g_j9_l5 g_j9_l6 _ _ _ hP hD hS (lv_sub hl [0, 1, 2, 3, 4, 5, 6] rfl))
      have J41 : ∀ (g_h0_f1 : RG h0_f1 0 240) (g_h1_f1 : RG h1_f1 0 240) (g_h1_f2 : RG h1_f2 0 240) (g_h1_f3 : RG h1_f3 (-1) 240) (g_j9_h0_f1 : RG j9_h0_f1 0 240) (g_j9_h1_f2 : RG j9_h1_f2 0 240) (g_j9_h1_f3 : RG j9_h1_f3 (-1) (-1)) (g_j9_l4 : RG j9_l4 0 1) (g_j9_l5 : RG j9_l5 0 1) (g_j9_l6 : RG j9_l6 0 239) (H : Heap) (locs : List Loc) (ls : Array Slot) (hP : va_P (dC, dI) vwCl (wd_c_X4_readCondition_1 h1 h1_0 h1_f1 j9_h1_f2 j9_h1_f3 h1_0 h1_0k h1_0c h0 h0_0 j9_h0_f1 h0_2 h0_0 h0_0k j9_h0_0c) H) (hD : va_D A (wd_c_X4_readCondition_1 h1 h1_0 h1_f1 j9_h1_f2 j9_h1_f3 h1_0 h1_0k h1_0c h0 h0_0 j9_h0_f1 h0_2 h0_0 h0_0k j9_h0_0c)) (hS : va_S A s.heap H locs) (hl : lv_has ls 7 [(6, .int j9_l6), (5, .int j9_l5), (4, .int j9_l4), (0, .ref h0), (1, .ref h1), (2, .int 1), (3, .int 0)]), G H locs (F0 m 41 ls [.int 0, .int 1, .ref h1, .ref h0]) := by
        as_aux_lemma =>
        intro g_h0_f1 g_h1_f1 g_h1_f2 g_h1_f3 g_j9_h0_f1 g_j9_h1_f2 g_j9_h1_f3 g_j9_l4 g_j9_l5 g_j9_l6 H locs ls hP hD hS hl
        refine hG _ _ _ ?_
        obtain ⟨hPc, hDc, hFc, hqc⟩ := cl_cut (wc := (wd_c_X4_readUnit_2 h1 h1_0 h1_f1 j9_h1_f2 j9_h1_f3 h1_0 h1_0k h1_0c h0 h0_0 j9_h0_f1 h0_2 h0_0 h0_0k j9_h0_0c)) hP hD hS hA [0, 1, 2, 3] (by decide +kernel) rfl
        have hKc := hK.sub (tys' := [(h1_0k, .int), (h0_0k, .int)]) [0, 1] rfl
        have hrv := va_recv hKc hPc (ci := 4) (q0 := 2) rfl rfl
        refine va_callv (va_runV (As := [.ref h1, .int 1, .int 0]) (rest := []) ⟨hx, hb, hml, hown, hts⟩ (c_X4_readUnit_2 l dC dI H.size h0 h1 h1_0 h1_f1 j9_h1_f2 j9_h1_f3 h1_0k h1_0c h0_0 j9_h0_f1 h0_2 h0_0k j9_h0_0c ts4 tv4 g_h1_f1 g_j9_h1_f2 (RG_w g_j9_h1_f3 (by decide +kernel)) a_h1_0c g_j9_h0_f1) (cwV 3 hts gf_c_X4_readCondition_1_c_X4_readUnit_2 rfl rfl rfl mdV_X4_readUnit ⟨Nat.le_of_ble_eq_true rfl, Nat.le_of_ble_eq_true rfl⟩) ⟨fun a U g mk q => by obtain ⟨q0, q1, qP, qK, qD, qE0, qE1, qE2, qE3, qE4, qE5⟩ := q; exact ⟨q0, q1, qP, va_K.moved (u := U) (U := U.calling g mk a) (Vm.Alike.refl U.vm) qK, qD, vk_R.same rfl qE0, va_Z.moved (u := U) (U := U.calling g mk a) (Vm.Alike.refl U.vm) qE1, va_OF.moved (u := U) (U := U.calling g mk a) (Vm.Alike.refl U.vm) qE2, va_O.moved (u := U) (U := U.calling g mk a) (Vm.Alike.refl U.vm) qE3, va_OF.moved (u := U) (U := U.calling g mk a) (Vm.Alike.refl U.vm) qE4, va_T.moved (u := U) (U := U.calling g mk a) (Vm.Alike.refl U.vm) qE5⟩, hrv, fun U hU hW => ⟨rfl, by rw [hU], by rw [hU]; exact hPc, va_K.moved hW.alike hKc, hDc.weaken (fun _ _ _ _ => trivial), vk_R.warm hW hE_32, va_Z.moved hW.alike (by rw [hU]; exact (hE_10.kept hS.2.1).narrow hFc), va_OF.moved hW.alike (by rw [hU]; exact (hE_34.kept hS.2.1).narrow hFc), va_O.moved hW.alike (by rw [hU]; exact (hE_33.kept hS.2.1).narrow hFc), va_OF.moved hW.alike (by rw [hU]; exact (hE_35.kept hS.2.1).narrow hFc), va_T.moved hW.alike (by rw [hU]; exact (hE_36.kept hS.2.1).narrow hFc)⟩⟩ rfl rfl hl.1 rfl (lv_room (Nat.le_of_ble_eq_true rfl)) dX4_readCondition_41 ⟨Nat.le_of_ble_eq_true rfl, Nat.le_of_ble_eq_true rfl⟩) hS (fun q _ h => hFc q h) hFc (fun u t H1 locs ht hvm hw hB hz1 hk1 hS => ?_)
        obtain ⟨x_35, x_36, x_37, w_38⟩ := u
        obtain ⟨hP1, hK1, hD1⟩ := hB
        rw [ht] at hP1
        obtain ⟨hP, hD⟩ := cl_put (w1 := (wd_c_X4_readUnit_2 h1 h1_0 h1_f1 x_35 x_36 h1_0 h1_0k h1_0c h0 h0_0 x_37 h0_2 h0_0 h0_0k w_38)) (nw := (wd_c_X4_readCondition_1 h1 h1_0 h1_f1 x_35 x_36 h1_0 h1_0k h1_0c h0 h0_0 x_37 h0_2 h0_0 h0_0k w_38)) hP hD [0, 1, 2, 3] [4, 5, 6, 7] 4 rfl hqc (by decide +kernel) rfl hk1 hFc hP1 hD1
        generalize H1 = H at hP hS ⊢
        as_aux_lemma =>
        rcases hw with ⟨h_39, h_40, h_41⟩
        refine lv_iload hx hb dX4_readCondition_44 (lv_at hl 2 rfl) ?_
        refine lv_if_eq (tgt := 55) hx hb dX4_readCondition_46 rfl (fun c_42 => ?_) (fun c_42 => ?_)
        · have g_43 : RG j9_l4 0 0 := RG_eq1 g_j9_l4 (RG_k 0 0 rfl) c_42 (by decide +kernel)
          exact hU _ _ _ (J55 x_35 x_36 x_37 w_38 g_h0_f1 g_h1_f1 g_h1_f2 g_h1_f3 h_41 h_39 h_40 g_j9_h0_f1 g_j9_h1_f2 g_j9_h1_f3 (RG_w g_43 (by decide +kernel)) g_j9_l5 g_j9_l6 _ _ _ hP hD hS (lv_sub hl [0, 1, 3, 4, 5, 6] rfl))
        · have g_44 : RG j9_l4 1 1 := RG_ne1 g_j9_l4 (q := 0) rfl c_42 (by decide +kernel)
          refine lv_aload_n hx hb dX4_readCondition_49 rfl (lv_at hl 3 rfl) ?_
          refine lv_bipush (v := (-38)) hx hb dX4_readCondition_50 kc_bipush_m38 ?_
          obtain ⟨hPc, hDc, hFc, hqc⟩ := cl_cut (wc := (wd_c_X4_emit h0 h0_0 x_37 h0_2 h0_0 h0_0k w_38)) hP hD hS hA [2, 3] (by decide +kernel) rfl
          have hKc := hK.sub (tys' := [(h0_0k, .int)]) [1] rfl
          have hrv := va_recv hKc hPc (ci := 4) (q0 := 0) rfl rfl
          refine va_callv (va_runV (As := [.int (-38)]) (rest := []) ⟨hx, hb, hml, hown, hts⟩ (c_X4_emit l dC dI H.size h0 (-38) h0_0 x_37 h0_2 h0_0k w_38 h_41) (cwV 1 hts gf_c_X4_readCondition_1_c_X4_emit rfl rfl rfl mdV_X4_emit ⟨Nat.le_of_ble_eq_true rfl, Nat.le_of_ble_eq_true rfl⟩) ⟨fun a U g mk q => by obtain ⟨q0, q1, qP, qK, qD⟩ := q; exact ⟨q0, q1, qP, va_K.moved (u := U) (U := U.calling g mk a) (Vm.Alike.refl U.vm) qK, qD⟩, hrv, fun U hU hW => ⟨rfl, by rw [hU], by rw [hU]; exact hPc, va_K.moved hW.alike hKc, hDc.weaken (fun _ _ _ _ => trivial)⟩⟩ rfl rfl hl.1 rfl (lv_room (Nat.le_of_ble_eq_true rfl)) dX4_readCondition_52 ⟨Nat.le_of_ble_eq_true rfl, Nat.le_of_ble_eq_true rfl⟩) hS (fun q _ h => hFc q h) hFc (fun u t H1 locs ht hvm hw hB hz1 hk1 hS => ?_)
          obtain ⟨x_46, w_47⟩ := u
          obtain ⟨hP1, hK1, hD1⟩ := hB
          rw [ht] at hP1
          obtain ⟨hP, hD⟩ := cl_put (w1 := (wd_c_X4_emit h0 h0_0 x_46 h0_2 h0_0 h0_0k w_47)) (nw := (wd_c_X4_readCondition_1 h1 h1_0 h1_f1 x_35 x_36 h1_0 h1_0k h1_0c h0 h0_0 x_46 h0_2 h0_0 h0_0k w_47)) hP hD [2, 3] [0, 1, 4, 5] 4 rfl hqc (by decide +kernel) rfl hk1 hFc hP1 hD1
          generalize H1 = H at hP hS ⊢
          as_aux_lemma =>
          have h_48 := hw
          exact hU _ _ _ (J55 x_35 x_36 x_46 w_47 g_h0_f1 g_h1_f1 g_h1_f2 g_h1_f3 (RG_w h_48 (by decide +kernel)) h_39 h_40 g_j9_h0_f1 g_j9_h1_f2 g_j9_h1_f3 (RG_w g_44 (by decide +kernel)) g_j9_l5 g_j9_l6 _ _ _ hP hD hS (lv_sub hl [0, 1, 3, 4, 5, 6] rfl))
      have J40 : ∀ (g_h0_f1 : RG h0_f1 0 240) (g_h1_f1 : RG h1_f1 0 240) (g_h1_f2 : RG h1_f2 0 240) (g_h1_f3 : RG h1_f3 (-1) 240) (g_j9_h0_f1 : RG j9_h0_f1 0 240) (g_j9_h1_f2 : RG j9_h1_f2 0 240) (g_j9_h1_f3 : RG j9_h1_f3 (-1) (-1)) (g_j9_l4 : RG j9_l4 0 1) (g_j9_l5 : RG j9_l5 0 1) (g_j9_l6 : RG j9_l6 0 239) (H : Heap) (locs : List Loc) (ls : Array Slot) (hP : va_P (dC, dI) vwCl (wd_c_X4_readCondition_1 h1 h1_0 h1_f1 j9_h1_f2 j9_h1_f3 h1_0 h1_0k h1_0c h0 h0_0 j9_h0_f1 h0_2 h0_0 h0_0k j9_h0_0c) H) (hD : va_D A (wd_c_X4_readCondition_1 h1 h1_0 h1_f1 j9_h1_f2 j9_h1_f3 h1_0 h1_0k h1_0c h0 h0_0 j9_h0_f1 h0_2 h0_0 h0_0k j9_h0_0c)) (hS : va_S A s.heap H locs) (hl : lv_has ls 7 [(6, .int j9_l6), (5, .int j9_l5), (4, .int j9_l4), (0, .ref h0), (1, .ref h1), (2, .int 1), (3, .int 0)]), G H locs (F0 m 40 ls [.int 1, .ref h1, .ref h0]) := by
        as_aux_lemma =>
        intro g_h0_f1 g_h1_f1 g_h1_f2 g_h1_f3 g_j9_h0_f1 g_j9_h1_f2 g_j9_h1_f3 g_j9_l4 g_j9_l5 g_j9_l6 H locs ls hP hD hS hl
        refine hG _ _ _ ?_
        refine lv_iconst (v := 0) hx hb dX4_readCondition_40 kc_iconst_0 ?_
        exact hU _ _ _ (J41 g_h0_f1 g_h1_f1 g_h1_f2 g_h1_f3 g_j9_h0_f1 g_j9_h1_f2 g_j9_h1_f3 g_j9_l4 g_j9_l5 g_j9_l6 _ _ _ hP hD hS (lv_sub hl [0, 1, 2, 3, 4, 5, 6] rfl))
      refine hG _ _ _ ?_
      refine lv_iload hx hb dX4_readCondition_9 (lv_at hl 0 rfl) ?_
      refine lv_sipush (v := 240) hx hb dX4_readCondition_11 kc_sipush_240 ?_
      refine lv_icmp_ge (tgt := 99) hx hb dX4_readCondition_14 rfl (fun c_49 => ?_) (fun c_49 => ?_)
      · have g_50 : RG j9_l6 240 240 := RG_le2 (RG_k 240 240 rfl) g_j9_l6 c_49 (by decide +kernel)
        have hK9 := hK.sub (tys' := []) [] rfl
        exact W.vret hx hb hr (fun t ht hW => ⟨⟨(j9_h1_f2, j9_h1_f3, j9_h0_f1, j9_h0_0c), rfl, ⟨g_j9_h1_f2, g_j9_h1_f3, g_j9_h0_f1⟩, by rw [ht]; exact hP, va_K.moved hW.alike hK9, hD⟩, hS.F ht⟩) hS.2.2 dX4_readCondition_99
      · have d_51 := Int32.not_le.mp c_49
        have g_52 : RG j9_l6 0 239 := RG_lt1 g_j9_l6 (RG_k 240 240 rfl) d_51 (by decide +kernel)
        refine lv_aload_n hx hb dX4_readCondition_17 rfl (lv_at hl 4 rfl) ?_
        as_aux_lemma =>
        obtain ⟨hPc, hDc, hFc, hqc⟩ := cl_cut (wc := (wd_c_X9_isRight h1 h1_0 h1_f1 j9_h1_f2 j9_h1_f3)) hP hD hS hA [0] (by decide +kernel) rfl
        have hKc := hK.sub (tys' := []) [] rfl
        have hrv := va_recv hKc hPc (ci := 9) (q0 := 0) rfl rfl
        refine va_calli (va_runV (As := []) (rest := []) ⟨hx, hb, hml, hown, hts⟩ (c_X9_isRight l dC dI H.size h1 h1_0 h1_f1 j9_h1_f2 j9_h1_f3 g_h1_f1 g_j9_h1_f2 g_j9_h1_f3) (cwV 0 hts gf_c_X4_readCondition_1_c_X9_isRight rfl rfl rfl mdV_X9_isRight ⟨Nat.le_of_ble_eq_true rfl, Nat.le_of_ble_eq_true rfl⟩) ⟨fun a U g mk q => by obtain ⟨q0, q1, qP, qK, qD⟩ := q; exact ⟨q0, q1, qP, va_K.moved (u := U) (U := U.calling g mk a) (Vm.Alike.refl U.vm) qK, qD⟩, hrv, fun U hU hW => ⟨rfl, by rw [hU], by rw [hU]; exact hPc, va_K.moved hW.alike hKc, hDc.weaken (fun _ _ _ _ => trivial)⟩⟩ rfl rfl hl.1 rfl (lv_room (Nat.le_of_ble_eq_true rfl)) dX4_readCondition_18 ⟨Nat.le_of_ble_eq_true rfl, Nat.le_of_ble_eq_true rfl⟩) hS (fun q _ h => hFc q h) hFc (fun r_53 u t H1 locs ht hvm hw hB hz1 hk1 hS => ?_)
        obtain ⟨hP1, hK1, hD1⟩ := hB
        rw [ht] at hP1
        obtain ⟨hP, hD⟩ := cl_put (w1 := (wd_c_X9_isRight h1 h1_0 h1_f1 j9_h1_f2 j9_h1_f3)) (nw := (wd_c_X4_readCondition_1 h1 h1_0 h1_f1 j9_h1_f2 j9_h1_f3 h1_0 h1_0k h1_0c h0 h0_0 j9_h0_f1 h0_2 h0_0 h0_0k j9_h0_0c)) hP hD [0] [4, 1, 2, 3] 4 rfl hqc (by decide +kernel) rfl hk1 hFc hP1 hD1
        generalize H1 = H at hP hS ⊢
        as_aux_lemma =>
        rcases hw with ⟨h_54, h_55⟩ | ⟨h_56, h_57⟩
        · rw [h_54]
          refine lv_if_eq (tgt := 99) hx hb dX4_readCondition_21 rfl (fun c_58 => ?_) (fun c_58 => absurd c_58 (by decide +kernel))
          have hK9 := hK.sub (tys' := []) [] rfl
          exact W.vret hx hb hr (fun t ht hW => ⟨⟨(j9_h1_f2, j9_h1_f3, j9_h0_f1, j9_h0_0c), rfl, ⟨g_j9_h1_f2, (RG_w h_55 (by decide +kernel)), g_j9_h0_f1⟩, by rw [ht]; exact hP, va_K.moved hW.alike hK9, hD⟩, hS.F ht⟩) hS.2.2 dX4_readCondition_99
        · rw [h_56]
          refine lv_if_eq (tgt := 99) hx hb dX4_readCondition_21 rfl (fun c_59 => absurd c_59 (by decide +kernel)) (fun c_59 => ?_)
          refine lv_aload_n hx hb dX4_readCondition_24 rfl (lv_at hl 3 rfl) ?_
          refine lv_aload_n hx hb dX4_readCondition_25 rfl (lv_at hl 4 rfl) ?_
          refine lv_iload_n hx hb dX4_readCondition_26 rfl (lv_at hl 5 rfl) ?_
          refine lv_iload_n hx hb dX4_readCondition_27 rfl (lv_at hl 6 rfl) ?_
          refine lv_if_eq (tgt := 40) hx hb dX4_readCondition_28 rfl (fun c_60 => ?_) (fun c_60 => absurd c_60 (by decide +kernel))
          exact hU _ _ _ (J40 g_h0_f1 g_h1_f1 g_h1_f2 g_h1_f3 g_j9_h0_f1 g_j9_h1_f2 h_57 g_j9_l4 g_j9_l5 g_52 _ _ _ hP hD hS (lv_sub hl [0, 1, 2, 3, 4, 5, 6] rfl))
  refine hG _ _ _ ?_
  as_aux_lemma =>
  refine lv_iconst (v := 0) hx hb dX4_readCondition_0 kc_iconst_0 ?_
  refine lv_istore (lv' := [(4, .int 0), (0, .ref h0), (1, .ref h1), (2, .int 1), (3, .int 0)]) hx hb dX4_readCondition_1 hl (Nat.le_of_ble_eq_true rfl) rfl (fun ls hl => ?_)
  refine lv_iconst (v := 0) hx hb dX4_readCondition_3 kc_iconst_0 ?_
  refine lv_istore (lv' := [(5, .int 0), (4, .int 0), (0, .ref h0), (1, .ref h1), (2, .int 1), (3, .int 0)]) hx hb dX4_readCondition_4 hl (Nat.le_of_ble_eq_true rfl) rfl (fun ls hl => ?_)
  refine lv_iconst (v := 0) hx hb dX4_readCondition_6 kc_iconst_0 ?_
  refine lv_istore (lv' := [(6, .int 0), (5, .int 0), (4, .int 0), (0, .ref h0), (1, .ref h1), (2, .int 1), (3, .int 0)]) hx hb dX4_readCondition_7 hl (Nat.le_of_ble_eq_true rfl) rfl (fun ls hl => ?_)
  exact hU _ _ _ (J9 _ 0 0 0 h1_f2 h1_f3 h0_f1 h0_0c (Nat.lt_succ_self _) g_h0_f1 g_h1_f1 g_h1_f2 g_h1_f3 g_h0_f1 g_h1_f2 g_h1_f3 (RG_w (RG_k 0 0 rfl) (by decide +kernel)) (RG_w (RG_k 0 0 rfl) (by decide +kernel)) (RG_w (RG_k 0 0 rfl) (by decide +kernel)) _ _ _ hP hD hS (lv_sub hl [0, 1, 2, 3, 4, 5, 6] rfl))
noncomputable def wd_c_X4_readUnit_1 (a0 : Nat) (a1 : Nat) (a2 : Int32) (a3 : Int32) (a4 : Int32) (a5 : Nat) (a6 : ClassId) (a7 : Nat → Int32) (a8 : Nat) (a9 : Nat) (a10 : Int32) (a11 : Nat) (a12 : Nat) (a13 : ClassId) (a14 : Nat → Int32) : va_W := [(a0, .inr (9, [.ref a1, .int a2, .int a3, .int a4])), (a5, .inl (a6, 240, .inl a7)), (a8, .inr (4, [.ref a9, .int a10, .ref a11])), (a12, .inl (a13, 240, .inl a14))]
noncomputable def wf_c_X4_readUnit_1 : List Cond := List.cons (.code yX4_readUnit cX4_readUnit 5 none) (@HAppend.hAppend (List Cond) (List Cond) (List Cond) _ (@HAppend.hAppend (List Cond) (List Cond) (List Cond) _ [.methodLink RX4 41 yX9_peek, .instanceMethod yX9_peek, .selects RX9 yX9_peek yX9_peek, .initialized RX9, .code yX9_peek cX9_peek 1 (some .int), .fieldLink RX9 22 "BuoyVote$Tape" "at" "I", .fieldLink RX9 19 "BuoyVote$Tape" "length" "I", .fieldLink RX9 11 "BuoyVote$Tape" "bytes" "[I", .methodLink RX4 45 yX4_startsUnit, .static yX4_startsUnit, .initialized RX4, .code yX4_startsUnit cX4_startsUnit 1 (some .boolean), .methodLink RX4 63 yX9_take, .instanceMethod yX9_take, .selects RX9 yX9_take yX9_take, .code yX9_take cX9_take 2 (some .boolean), .fieldLink RX9 15 "BuoyVote$Tape" "wrong" "I", .methodLink RX9 29 yX9_peek, .methodLink RX4 37 yX9_expect, .instanceMethod yX9_expect, .selects RX9 yX9_expect yX9_expect, .code yX9_expect cX9_expect 2 none, .methodLink RX9 25 yX9_refuse, .instanceMethod yX9_refuse, .selects RX9 yX9_refuse yX9_refuse, .code yX9_refuse cX9_refuse 2 none, .methodLink RX4 56 yX4_readCondition, .instanceMethod yX4_readCondition, .selects RX4 yX4_readCondition yX4_readCondition, .code yX4_readCondition cX4_readCondition 7 none, .methodLink RX4 72 yX9_isRight, .instanceMethod yX9_isRight, .selects RX9 yX9_isRight yX9_isRight, .code yX9_isRight cX9_isRight 1 (some .boolean), .methodLink RX4 76 yX4_readUnit, .instanceMethod yX4_readUnit, .selects RX4 yX4_readUnit yX4_readUnit, .methodLink RX4 82 yX9_refuseHere, .instanceMethod yX9_refuseHere, .selects RX9 yX9_refuseHere yX9_refuseHere, .code yX9_refuseHere cX9_refuseHere 1 none, .methodLink RX4 49 yX4_readSum, .instanceMethod yX4_readSum, .selects RX4 yX4_readSum yX4_readSum, .code yX4_readSum cX4_readSum 6 none, .methodLink RX4 85 yX4_readAtom, .instanceMethod yX4_readAtom, .selects RX4 yX4_readAtom yX4_readAtom, .code yX4_readAtom cX4_readAtom 6 none, .methodLink RX4 93 yJ0_indexOf_0f7a4, .instanceMethod yJ0_indexOf_0f7a4, .selects RJ0 yJ0_indexOf_0f7a4 yJ0_indexOf_0f7a4, .initialized RJ0, .code yJ0_indexOf_0f7a4 cJ0_indexOf_0f7a4 2 (some .int), .methodLink RJ0 633 yJ0_indexOf_7cf53, .instanceMethod yJ0_indexOf_7cf53, .selects RJ0 yJ0_indexOf_7cf53 yJ0_indexOf_7cf53, .code yJ0_indexOf_7cf53 cJ0_indexOf_7cf53 3 (some .int), .methodLink RJ0 492 yJ0_isLatin1_aae02, .instanceMethod yJ0_isLatin1_aae02, .selects RJ0 yJ0_isLatin1_aae02 yJ0_isLatin1_aae02, .code yJ0_isLatin1_aae02 cJ0_isLatin1_aae02 1 (some .boolean), .fieldLink RJ0 38 "java/lang/String" "COMPACT_STRINGS" "Z", .fieldLink RJ0 15 "java/lang/String" "coder" "B", .fieldLink RJ0 9 "java/lang/String" "value" "[B", .methodLink RJ0 505 yJ0_length_8abf5, .instanceMethod yJ0_length_8abf5, .selects RJ0 yJ0_length_8abf5 yJ0_length_8abf5, .code yJ0_length_8abf5 cJ0_length_8abf5 1 (some .int), .methodLink RJ0 335 yJ0_coder_7d493, .instanceMethod yJ0_coder_7d493, .selects RJ0 yJ0_coder_7d493 yJ0_coder_7d493, .code yJ0_coder_7d493 cJ0_coder_7d493 1 (some .byte), .methodLink RJ0 637 yJ1_indexOf_4cfef, .static yJ1_indexOf_4cfef, .initialized RJ1, .code yJ1_indexOf_4cfef cJ1_indexOf_4cfef 4 (some .int), .methodLink RJ1 88 yJ1_canEncode_9a6ad, .static yJ1_canEncode_9a6ad, .code yJ1_canEncode_9a6ad cJ1_canEncode_9a6ad 1 (some .boolean), .methodLink RJ1 92 Lib.Math.max.name, .static Lib.Math.max.name, .initialized "java/lang/Math", .code Lib.Math.max.name Lib.Math.max.code 2 (some .int), .methodLink RJ1 38 Lib.Math.min.name, .static Lib.Math.min.name, .code Lib.Math.min.name Lib.Math.min.code 2 (some .int), .methodLink RJ1 95 yJ1_indexOfChar_4cfef, .static yJ1_indexOfChar_4cfef, .code yJ1_indexOfChar_4cfef cJ1_indexOfChar_4cfef 6 (some .int), .methodLink RX4 99 yX9_number, .instanceMethod yX9_number, .selects RX9 yX9_number yX9_number, .code yX9_number cX9_number 4 (some .int), .methodLink RX4 79 yX9_skip, .instanceMethod yX9_skip, .selects RX9 yX9_skip yX9_skip, .code yX9_skip cX9_skip 1 none, .methodLink RX4 60 yX4_emit, .instanceMethod yX4_emit, .selects RX4 yX4_emit yX4_emit, .code yX4_emit cX4_emit 2 none, .fieldLink RX4 20 "BuoyVote$Law" "length" "I", .fieldLink RX4 11 "BuoyVote$Law" "code" "[I", .methodLink RX4 88 yX9_takeEither, .instanceMethod yX9_takeEither, .selects RX9 yX9_takeEither yX9_takeEither, .code yX9_takeEither cX9_takeEither 4 (some .int), .methodLink RX4 53 yX4_isComparison, .static yX4_isComparison, .code yX4_isComparison cX4_isComparison 1 (some .boolean)] wsX90) wsX40)
theorem iw_c_X4_readUnit_1_X9 : ∀ w ∈ wsX90, w ∈ wf_c_X4_readUnit_1 := fun w h => List.mem_cons_of_mem _ (List.mem_append_left _ (List.mem_append_right _ h))
theorem iw_c_X4_readUnit_1_X4 : ∀ w ∈ wsX40, w ∈ wf_c_X4_readUnit_1 := fun w h => List.mem_cons_of_mem _ (List.mem_append_right _ h)
set_option maxRecDepth 20000 in
theorem gf_c_X4_readUnit_1_c_X9_peek : GoodIn wf_c_X4_readUnit_1 (wsV RX4 41 RX9 yX9_peek wf_c_X9_peek) := goodIn_app (gi_l [1, 2, 3, 4] rfl rfl) (gi_cons (j := 5) rfl rfl (goodIn_app (gi_l [6, 7, 8] rfl rfl) (goodIn_sub iw_c_X4_readUnit_1_X9 gw_X9)))
set_option maxRecDepth 20000 in
theorem gf_c_X4_readUnit_1_c_X4_isComparison : GoodIn wf_c_X4_readUnit_1 (va_wsS RX4 53 yX4_isComparison wf_c_X4_isComparison) := goodIn_app (gi_l [109, 110, 11] rfl rfl) (gi_cons (j := 111) rfl rfl gi_nil)
set_option maxRecDepth 20000 in
theorem gf_c_X4_readUnit_1_c_X9_refuseHere : GoodIn wf_c_X4_readUnit_1 (wsV RX4 82 RX9 yX9_refuseHere wf_c_X9_refuseHere) := goodIn_app (gi_l [38, 39, 40, 4] rfl rfl) (gi_cons (j := 41) rfl rfl (goodIn_app (gi_l [6, 23, 24, 25, 4, 26, 17] rfl rfl) (goodIn_sub iw_c_X4_readUnit_1_X9 gw_X9)))
set_option maxRecDepth 20000 in
theorem gf_c_X4_readUnit_1_c_X4_isComparison_1 : GoodIn wf_c_X4_readUnit_1 (va_wsS RX4 53 yX4_isComparison wf_c_X4_isComparison_1) := goodIn_app (gi_l [109, 110, 11] rfl rfl) (gi_cons (j := 111) rfl rfl gi_nil)
set_option maxRecDepth 20000 in
theorem gf_c_X4_readUnit_1_c_X9_skip : GoodIn wf_c_X4_readUnit_1 (wsV RX4 79 RX9 yX9_skip wf_c_X9_skip) := goodIn_app (gi_l [95, 96, 97, 4] rfl rfl) (gi_cons (j := 98) rfl rfl (goodIn_app (gi_l [6] rfl rfl) (goodIn_sub iw_c_X4_readUnit_1_X9 gw_X9)))
set_option maxRecDepth 20000 in
theorem gf_c_X4_readUnit_1_c_X4_readSum : GoodIn wf_c_X4_readUnit_1 (wsV RX4 49 RX4 yX4_readSum wf_c_X4_readSum) := goodIn_app (gi_l [42, 43, 44, 11] rfl rfl) (gi_cons (j := 45) rfl rfl (goodIn_app (goodIn_app (gi_l [31, 32, 33, 4, 34, 17, 46, 47, 48, 11, 49, 1, 2, 3, 5, 6, 7, 8, 50, 51, 52, 53, 54, 55, 56, 57, 58, 59, 60, 61, 62, 63, 64, 65, 66, 67, 68, 69, 70, 71, 72, 73, 74, 75, 76, 77, 78, 79, 80, 81, 82, 83, 84, 85, 86, 87, 88, 89, 90, 91, 92, 93, 94, 38, 39, 40, 41, 23, 24, 25, 26, 95, 96, 97, 98, 42, 43, 44, 99, 100, 101, 102, 103, 104, 105, 106, 107, 108, 18, 19, 20, 21, 22] rfl rfl) (goodIn_sub iw_c_X4_readUnit_1_X9 gw_X9)) (goodIn_sub iw_c_X4_readUnit_1_X4 gw_X4)))
set_option maxRecDepth 20000 in
theorem gf_c_X4_readUnit_1_c_X4_emit : GoodIn wf_c_X4_readUnit_1 (wsV RX4 60 RX4 yX4_emit wf_c_X4_emit) := goodIn_app (gi_l [99, 100, 101, 11] rfl rfl) (gi_cons (j := 102) rfl rfl (goodIn_app (gi_l [103, 104] rfl rfl) (goodIn_sub iw_c_X4_readUnit_1_X4 gw_X4)))
set_option maxRecDepth 20000 in
theorem gf_c_X4_readUnit_1_c_X4_startsUnit : GoodIn wf_c_X4_readUnit_1 (va_wsS RX4 45 yX4_startsUnit wf_c_X4_startsUnit) := goodIn_app (gi_l [9, 10, 11] rfl rfl) (gi_cons (j := 12) rfl rfl gi_nil)
set_option maxRecDepth 20000 in
theorem gf_c_X4_readUnit_1_c_X4_startsUnit_1 : GoodIn wf_c_X4_readUnit_1 (va_wsS RX4 45 yX4_startsUnit wf_c_X4_startsUnit_1) := goodIn_app (gi_l [9, 10, 11] rfl rfl) (gi_cons (j := 12) rfl rfl gi_nil)
set_option maxRecDepth 20000 in
theorem gf_c_X4_readUnit_1_c_X9_take : GoodIn wf_c_X4_readUnit_1 (wsV RX4 63 RX9 yX9_take wf_c_X9_take) := goodIn_app (gi_l [13, 14, 15, 4] rfl rfl) (gi_cons (j := 16) rfl rfl (goodIn_app (gi_l [17, 18, 2, 3, 4, 5, 6, 7, 8] rfl rfl) (goodIn_sub iw_c_X4_readUnit_1_X9 gw_X9)))
set_option maxRecDepth 20000 in
theorem gf_c_X4_readUnit_1_c_X9_expect_1 : GoodIn wf_c_X4_readUnit_1 (wsV RX4 37 RX9 yX9_expect wf_c_X9_expect_1) := goodIn_app (gi_l [19, 20, 21, 4] rfl rfl) (gi_cons (j := 22) rfl rfl (goodIn_app (gi_l [17, 18, 2, 3, 4, 5, 6, 7, 8, 23, 24, 25, 26] rfl rfl) (goodIn_sub iw_c_X4_readUnit_1_X9 gw_X9)))
set_option maxRecDepth 20000 in
theorem gf_c_X4_readUnit_1_c_X4_readCondition_1 : GoodIn wf_c_X4_readUnit_1 (wsV RX4 56 RX4 yX4_readCondition wf_c_X4_readCondition_1) := goodIn_app (gi_l [27, 28, 29, 11] rfl rfl) (gi_cons (j := 30) rfl rfl (goodIn_app (goodIn_app (gi_l [31, 32, 33, 4, 34, 17, 35, 36, 37, 11, 0, 1, 2, 3, 5, 6, 7, 8, 9, 10, 12, 13, 14, 15, 16, 18, 19, 20, 21, 22, 23, 24, 25, 26, 27, 28, 29, 38, 39, 40, 41, 42, 43, 44, 45, 46, 47, 48, 49, 50, 51, 52, 53, 54, 55, 56, 57, 58, 59, 60, 61, 62, 63, 64, 65, 66, 67, 68, 69, 70, 71, 72, 73, 74, 75, 76, 77, 78, 79, 80, 81, 82, 83, 84, 85, 86, 87, 88, 89, 90, 91, 92, 93, 94, 95, 96, 97, 98, 99, 100, 101, 102, 103, 104, 105, 106, 107, 108, 109, 110, 111] rfl rfl) (goodIn_sub iw_c_X4_readUnit_1_X9 gw_X9)) (goodIn_sub iw_c_X4_readUnit_1_X4 gw_X4)))
set_option maxRecDepth 20000 in
theorem gf_c_X4_readUnit_1_c_X4_readUnit_2 : GoodIn wf_c_X4_readUnit_1 (wsV RX4 76 RX4 yX4_readUnit wf_c_X4_readUnit_2) := goodIn_app (gi_l [35, 36, 37, 11] rfl rfl) (gi_cons (j := 0) rfl rfl (goodIn_app (goodIn_app (gi_l [1, 2, 3, 4, 5, 6, 7, 8, 9, 10, 11, 12, 13, 14, 15, 16, 17, 18, 19, 20, 21, 22, 23, 24, 25, 26, 27, 28, 29, 30, 31, 32, 33, 34, 35, 36, 37, 38, 39, 40, 41, 42, 43, 44, 45, 46, 47, 48, 49, 50, 51, 52, 53, 54, 55, 56, 57, 58, 59, 60, 61, 62, 63, 64, 65, 66, 67, 68, 69, 70, 71, 72, 73, 74, 75, 76, 77, 78, 79, 80, 81, 82, 83, 84, 85, 86, 87, 88, 89, 90, 91, 92, 93, 94, 95, 96, 97, 98, 99, 100, 101, 102, 103, 104, 105, 106, 107, 108, 109, 110, 111] rfl rfl) (goodIn_sub iw_c_X4_readUnit_1_X9 gw_X9)) (goodIn_sub iw_c_X4_readUnit_1_X4 gw_X4)))
set_option maxHeartbeats 4000000 in
set_option maxRecDepth 100000 in
theorem c_X4_readUnit_1 (l : Launch) (dC : Nat → ClassId) (dI : Nat → Nat → Nat) (sz : Nat) (h0 : Nat) (h1 : Nat) (h1_0 : Nat) (h1_f1 : Int32) (h1_f2 : Int32) (h1_f3 : Int32) (h1_0k : ClassId) (h1_0c : Nat → Int32) (h0_0 : Nat) (h0_f1 : Int32) (h0_2 : Nat) (h0_0k : ClassId) (h0_0c : Nat → Int32) (ts4 : Nat) (tv4 : Nat) (g_h1_f1 : RG h1_f1 0 240) (g_h1_f2 : RG h1_f2 0 240) (g_h1_f3 : RG h1_f3 (-1) 240) (a_h1_0c : AI h1_0c 0 255) (g_h0_f1 : RG h0_f1 0 240) : Met l yX4_readUnit wf_c_X4_readUnit_1 ({ frames := 18, cells := 0, slots := 0, locals := 441 }) (va_Pc [.ref h0, .ref h1, .int 0, .int 0] (fun U => U.heap.size = sz ∧ va_P (dC, dI) vwCl (wd_c_X4_readUnit_1 h1 h1_0 h1_f1 h1_f2 h1_f3 h1_0 h1_0k h1_0c h0 h0_0 h0_f1 h0_2 h0_0 h0_0k h0_0c) U.heap ∧ va_K (dC, dI) vwCl [(h1_0k, .int), (h0_0k, .int)] U ∧ va_D (fun _ => True) (wd_c_X4_readUnit_1 h1 h1_0 h1_f1 h1_f2 h1_f3 h1_0 h1_0k h1_0c h0 h0_0 h0_f1 h0_2 h0_0 h0_0k h0_0c) ∧ vk_R RX4 91 "vlrdph" ts4 U ∧ va_Z "java/lang/String" "COMPACT_STRINGS" "Z" (.int 1) (va_A (wd_c_X4_readUnit_1 h1 h1_0 h1_f1 h1_f2 h1_f3 h1_0 h1_0k h1_0c h0 h0_0 h0_f1 h0_2 h0_0 h0_0k h0_0c) sz) U U.heap ∧ va_OF "java/lang/String" "coder" "B" (.int 0) ts4 (va_A (wd_c_X4_readUnit_1 h1 h1_0 h1_f1 h1_f2 h1_f3 h1_0 h1_0k h1_0c h0 h0_0 h0_f1 h0_2 h0_0 h0_0k h0_0c) sz) U U.heap ∧ va_O "java/lang/String" ts4 (va_A (wd_c_X4_readUnit_1 h1 h1_0 h1_f1 h1_f2 h1_f3 h1_0 h1_0k h1_0c h0 h0_0 h0_f1 h0_2 h0_0 h0_0k h0_0c) sz) U U.heap ∧ va_OF "java/lang/String" "value" "[B" (.ref tv4) ts4 (va_A (wd_c_X4_readUnit_1 h1 h1_0 h1_f1 h1_f2 h1_f3 h1_0 h1_0k h1_0c h0 h0_0 h0_f1 h0_2 h0_0 h0_0k h0_0c) sz) U U.heap ∧ va_T .byte tv4 6 (fun j => .int ([118, 108, 114, 100, 112, 104].getD j 0)) (va_A (wd_c_X4_readUnit_1 h1 h1_0 h1_f1 h1_f2 h1_f3 h1_0 h1_0k h1_0c h0 h0_0 h0_f1 h0_2 h0_0 h0_0k h0_0c) sz) U U.heap)) (va_Qv (fun (u : (Int32) × (Int32) × (Int32) × (Nat → Int32)) => (RG u.1 0 240 ∧ RG u.2.1 (-1) 240 ∧ RG u.2.2.1 0 240)) (fun (u : (Int32) × (Int32) × (Int32) × (Nat → Int32)) t => va_P (dC, dI) vwCl (wd_c_X4_readUnit_1 h1 h1_0 h1_f1 (u.1) (u.2.1) h1_0 h1_0k h1_0c h0 h0_0 (u.2.2.1) h0_2 h0_0 h0_0k (u.2.2.2)) t.heap ∧ va_K (dC, dI) vwCl [] t ∧ va_D (va_A (wd_c_X4_readUnit_1 h1 h1_0 h1_f1 h1_f2 h1_f3 h1_0 h1_0k h1_0c h0 h0_0 h0_f1 h0_2 h0_0 h0_0k h0_0c) sz) (wd_c_X4_readUnit_1 h1 h1_0 h1_f1 (u.1) (u.2.1) h1_0 h1_0k h1_0c h0 h0_0 (u.2.2.1) h0_2 h0_0 h0_0k (u.2.2.2))) (va_A (wd_c_X4_readUnit_1 h1 h1_0 h1_f1 h1_f2 h1_f3 h1_0 h1_0k h1_0c h0 h0_0 h0_f1 h0_2 h0_0 h0_0k h0_0c) sz)) 0 0 (va_A (wd_c_X4_readUnit_1 h1 h1_0 h1_f1 h1_f2 h1_f3 h1_0 h1_0k h1_0c h0 h0_0 h0_f1 h0_2 h0_0 h0_0k h0_0c) sz) := by
  refine Met.ofW (cc := cX4_readUnit) (maxL := 5) (ret := none) (by decide +kernel) rfl ?_
  intro p e s m args below meth c s₁ B hml hv
  obtain ⟨rfl, hsz, hP, hK, hD0, hE_32, hE_10, hE_34, hE_33, hE_35, hE_36⟩ := hv
  have hx := B.exec
  have hb := B.bytes
  have hr := B.returns
  have hts := atoms_spec (ws := wf_c_X4_readUnit_1) B.pre
  have hown : s.vm.findClass RX4 = some m.cls := findClass_of_methodNamed B.named
  have hlocks := B.notSynchronized
  subst hsz
  have hD := hD0.self (sz := s.heap.size)
  generalize hAe : va_A (wd_c_X4_readUnit_1 h1 h1_0 h1_f1 h1_f2 h1_f3 h1_0 h1_0k h1_0c h0 h0_0 h0_f1 h0_2 h0_0 h0_0k h0_0c) s.heap.size = A at hD hE_10 hE_34 hE_33 hE_35 hE_36 ⊢
  have hA : ∀ q : Nat, s.heap.size ≤ q → A q := fun q h => by rw [← hAe]; exact Or.inr h
  have hP : va_P (dC, dI) vwCl (wd_c_X4_readUnit_1 h1 h1_0 h1_f1 h1_f2 h1_f3 h1_0 h1_0k h1_0c h0 h0_0 h0_f1 h0_2 h0_0 h0_0k h0_0c) s.heap := hP
  have hl := lv_entry ([.ref h0, .ref h1, .int 0, .int 0]) (n := 5) (Nat.le_of_ble_eq_true rfl)
  rw [lg_entry_eq]
  generalize (lg_sl ([.ref h0, .ref h1, .int 0, .int 0]) ++ List.replicate (5 - (lg_sl ([.ref h0, .ref h1, .int 0, .int 0])).length) Slot.unset).toArray = ls at hl ⊢
  have hl : lv_has ls 5 [(0, .ref h0), (1, .ref h1), (2, .int 0), (3, .int 0)] := hl
  obtain ⟨H, hHe⟩ : ∃ H : Heap, s.heap = H := ⟨_, rfl⟩
  have hS : va_S A s.heap H [] := by rw [hHe]; exact va_S.rf
  have hP : va_P (dC, dI) vwCl (wd_c_X4_readUnit_1 h1 h1_0 h1_f1 h1_f2 h1_f3 h1_0 h1_0k h1_0c h0 h0_0 h0_f1 h0_2 h0_0 h0_0k h0_0c) H := by rw [← hHe]; exact hP
  rw [hHe]
  refine wj (fun G hG hU => ?_)
  as_aux_lemma =>
  have J62 : ∀ (j62_h1_f2 : Int32) (j62_h1_f3 : Int32) (j62_h0_f1 : Int32) (j62_h0_0c : Nat → Int32) (g_h0_f1 : RG h0_f1 0 240) (g_h1_f1 : RG h1_f1 0 240) (g_h1_f2 : RG h1_f2 0 240) (g_h1_f3 : RG h1_f3 (-1) 240) (g_j62_h0_f1 : RG j62_h0_f1 0 240) (g_j62_h1_f2 : RG j62_h1_f2 0 240) (g_j62_h1_f3 : RG j62_h1_f3 (-1) 240) (H : Heap) (locs : List Loc) (ls : Array Slot) (hP : va_P (dC, dI) vwCl (wd_c_X4_readUnit_1 h1 h1_0 h1_f1 j62_h1_f2 j62_h1_f3 h1_0 h1_0k h1_0c h0 h0_0 j62_h0_f1 h0_2 h0_0 h0_0k j62_h0_0c) H) (hD : va_D A (wd_c_X4_readUnit_1 h1 h1_0 h1_f1 j62_h1_f2 j62_h1_f3 h1_0 h1_0k h1_0c h0 h0_0 j62_h0_f1 h0_2 h0_0 h0_0k j62_h0_0c)) (hS : va_S A s.heap H locs) (hl : lv_has ls 5 []), G H locs (F0 m 62 ls []) := by
    as_aux_lemma =>
    intro j62_h1_f2 j62_h1_f3 j62_h0_f1 j62_h0_0c g_h0_f1 g_h1_f1 g_h1_f2 g_h1_f3 g_j62_h0_f1 g_j62_h1_f2 g_j62_h1_f3 H locs ls hP hD hS hl
    refine hG _ _ _ ?_
    refine lv_goto (tgt := 126) hx hb dX4_readUnit_62 rfl ?_
    have hK9 := hK.sub (tys' := []) [] rfl
    exact W.vret hx hb hr (fun t ht hW => ⟨⟨(j62_h1_f2, j62_h1_f3, j62_h0_f1, j62_h0_0c), rfl, ⟨g_j62_h1_f2, g_j62_h1_f3, g_j62_h0_f1⟩, by rw [ht]; exact hP, va_K.moved hW.alike hK9, hD⟩, hS.F ht⟩) hS.2.2 dX4_readUnit_126
  have J24 : ∀ (j24_h1_f2 : Int32) (j24_h1_f3 : Int32) (j24_h0_f1 : Int32) (j24_h0_0c : Nat → Int32) (g_h0_f1 : RG h0_f1 0 240) (g_h1_f1 : RG h1_f1 0 240) (g_h1_f2 : RG h1_f2 0 240) (g_h1_f3 : RG h1_f3 (-1) 240) (g_j24_h0_f1 : RG j24_h0_f1 0 240) (g_j24_h1_f2 : RG j24_h1_f2 0 240) (g_j24_h1_f3 : RG j24_h1_f3 (-1) 240) (H : Heap) (locs : List Loc) (ls : Array Slot) (hP : va_P (dC, dI) vwCl (wd_c_X4_readUnit_1 h1 h1_0 h1_f1 j24_h1_f2 j24_h1_f3 h1_0 h1_0k h1_0c h0 h0_0 j24_h0_f1 h0_2 h0_0 h0_0k j24_h0_0c) H) (hD : va_D A (wd_c_X4_readUnit_1 h1 h1_0 h1_f1 j24_h1_f2 j24_h1_f3 h1_0 h1_0k h1_0c h0 h0_0 j24_h0_f1 h0_2 h0_0 h0_0k j24_h0_0c)) (hS : va_S A s.heap H locs) (hl : lv_has ls 5 [(0, .ref h0), (1, .ref h1), (2, .int 0)]), G H locs (F0 m 24 ls []) := by
    as_aux_lemma =>
    intro j24_h1_f2 j24_h1_f3 j24_h0_f1 j24_h0_0c g_h0_f1 g_h1_f1 g_h1_f2 g_h1_f3 g_j24_h0_f1 g_j24_h1_f2 g_j24_h1_f3 H locs ls hP hD hS hl
    refine hG _ _ _ ?_
    refine lv_aload_n hx hb dX4_readUnit_24 rfl (lv_at hl 1 rfl) ?_
    obtain ⟨hPc, hDc, hFc, hqc⟩ := cl_cut (wc := (wd_c_X9_peek h1 h1_0 h1_f1 j24_h1_f2 j24_h1_f3 h1_0 h1_0k h1_0c)) hP hD hS hA [0, 1] (by decide +kernel) rfl
    have hKc := hK.sub (tys' := [(h1_0k, .int)]) [0] rfl
    have hrv := va_recv hKc hPc (ci := 9) (q0 := 0) rfl rfl
    refine va_calli (va_runV (As := []) (rest := []) ⟨hx, hb, hml, hown, hts⟩ (c_X9_peek l dC dI H.size h1 h1_0 h1_f1 j24_h1_f2 j24_h1_f3 h1_0k h1_0c g_h1_f1 g_j24_h1_f2 g_j24_h1_f3 a_h1_0c) (cwV 0 hts gf_c_X4_readUnit_1_c_X9_peek rfl rfl rfl mdV_X9_peek ⟨Nat.le_of_ble_eq_true rfl, Nat.le_of_ble_eq_true rfl⟩) ⟨fun a U g mk q => by obtain ⟨q0, q1, qP, qK, qD⟩ := q; exact ⟨q0, q1, qP, va_K.moved (u := U) (U := U.calling g mk a) (Vm.Alike.refl U.vm) qK, qD⟩, hrv, fun U hU hW => ⟨rfl, by rw [hU], by rw [hU]; exact hPc, va_K.moved hW.alike hKc, hDc.weaken (fun _ _ _ _ => trivial)⟩⟩ rfl rfl hl.1 rfl (lv_room (Nat.le_of_ble_eq_true rfl)) dX4_readUnit_25 ⟨Nat.le_of_ble_eq_true rfl, Nat.le_of_ble_eq_true rfl⟩) hS (fun q _ h => hFc q h) hFc (fun r_1 x_2 t H1 locs ht hvm hw hB hz1 hk1 hS => ?_)
    obtain ⟨hP1, hK1, hD1⟩ := hB
    rw [ht] at hP1
    obtain ⟨hP, hD⟩ := cl_put (w1 := (wd_c_X9_peek h1 h1_0 h1_f1 x_2 j24_h1_f3 h1_0 h1_0k h1_0c)) (nw := (wd_c_X4_readUnit_1 h1 h1_0 h1_f1 x_2 j24_h1_f3 h1_0 h1_0k h1_0c h0 h0_0 j24_h0_f1 h0_2 h0_0 h0_0k j24_h0_0c)) hP hD [0, 1] [4, 5, 2, 3] 4 rfl hqc (by decide +kernel) rfl hk1 hFc hP1 hD1
    generalize H1 = H at hP hS ⊢
    as_aux_lemma =>
    rcases hw with ⟨h_3, h_4, h_5⟩ | ⟨h_6, h_7, h_8, h_9⟩
    · rw [h_3]
      refine lv_istore (lv' := [(4, .int (-1)), (0, .ref h0), (1, .ref h1), (2, .int 0)]) hx hb dX4_readUnit_28 hl (Nat.le_of_ble_eq_true rfl) rfl (fun ls hl => ?_)
      refine lv_iload hx hb dX4_readUnit_30 (lv_at hl 0 rfl) ?_
      obtain ⟨hPc, hDc, hFc, hqc⟩ := cl_cut (wc := []) hP hD hS hA [] (by decide +kernel) rfl
      have hKc := hK.sub (tys' := []) [] rfl
      refine va_calli (va_runS (As := [.int (-1)]) (rest := []) ⟨hx, hb, hml, hown, hts⟩ (c_X4_isComparison l dC dI H.size (-1) (RG_k (-1) (-1) rfl)) (va_cwS 1 hts gf_c_X4_readUnit_1_c_X4_isComparison rfl rfl rfl md_X4_isComparison ⟨Nat.le_of_ble_eq_true rfl, Nat.le_of_ble_eq_true rfl⟩) ⟨fun a U g mk q => by obtain ⟨q0, q1, qP, qK, qD⟩ := q; exact ⟨q0, q1, qP, va_K.moved (u := U) (U := U.calling g mk a) (Vm.Alike.refl U.vm) qK, qD⟩, fun U hU hW => ⟨rfl, by rw [hU], by rw [hU]; exact hPc, va_K.moved hW.alike hKc, hDc.weaken (fun _ _ _ _ => trivial)⟩⟩ rfl rfl hl.1 rfl (lv_room (Nat.le_of_ble_eq_true rfl)) dX4_readUnit_32 ⟨Nat.le_of_ble_eq_true rfl, Nat.le_of_ble_eq_true rfl⟩) hS (fun q _ h => hFc q h) hFc (fun r_10 u t H1 locs ht hvm hw hB hz1 hk1 hS => ?_)
      obtain ⟨hP1, hK1, hD1⟩ := hB
      rw [ht] at hP1
      have hP := bv_still hP hk1
      generalize H1 = H at hP hS ⊢
      as_aux_lemma =>
      have h_11 := hw
      rw [h_11]
      refine lv_if_eq (tgt := 58) hx hb dX4_readUnit_35 rfl (fun c_12 => ?_) (fun c_12 => absurd c_12 (by decide +kernel))
      refine lv_aload_n hx hb dX4_readUnit_58 rfl (lv_at hl 2 rfl) ?_
      obtain ⟨hPc, hDc, hFc, hqc⟩ := cl_cut (wc := (wd_c_X9_refuseHere h1 h1_0 h1_f1 x_2 j24_h1_f3)) hP hD hS hA [0] (by decide +kernel) rfl
      have hKc := hK.sub (tys' := []) [] rfl
      have hrv := va_recv hKc hPc (ci := 9) (q0 := 0) rfl rfl
      refine va_callv (va_runV (As := []) (rest := []) ⟨hx, hb, hml, hown, hts⟩ (c_X9_refuseHere l dC dI H.size h1 h1_0 h1_f1 x_2 j24_h1_f3 g_h1_f1 h_4 g_j24_h1_f3) (cwV 0 hts gf_c_X4_readUnit_1_c_X9_refuseHere rfl rfl rfl mdV_X9_refuseHere ⟨Nat.le_of_ble_eq_true rfl, Nat.le_of_ble_eq_true rfl⟩) ⟨fun a U g mk q => by obtain ⟨q0, q1, qP, qK, qD⟩ := q; exact ⟨q0, q1, qP, va_K.moved (u := U) (U := U.calling g mk a) (Vm.Alike.refl U.vm) qK, qD⟩, hrv, fun U hU hW => ⟨rfl, by rw [hU], by rw [hU]; exact hPc, va_K.moved hW.alike hKc, hDc.weaken (fun _ _ _ _ => trivial)⟩⟩ rfl rfl hl.1 rfl (lv_room (Nat.le_of_ble_eq_true rfl)) dX4_readUnit_59 ⟨Nat.le_of_ble_eq_true rfl, Nat.le_of_ble_eq_true rfl⟩) hS (fun q _ h => hFc q h) hFc (fun x_14 t H1 locs ht hvm hw hB hz1 hk1 hS => ?_)
      obtain ⟨hP1, hK1, hD1⟩ := hB
      rw [ht] at hP1
      obtain ⟨hP, hD⟩ := cl_put (w1 := (wd_c_X9_refuseHere h1 h1_0 h1_f1 x_2 x_14)) (nw := (wd_c_X4_readUnit_1 h1 h1_0 h1_f1 x_2 x_14 h1_0 h1_0k h1_0c h0 h0_0 j24_h0_f1 h0_2 h0_0 h0_0k j24_h0_0c)) hP hD [0] [4, 1, 2, 3] 4 rfl hqc (by decide +kernel) rfl hk1 hFc hP1 hD1
      generalize H1 = H at hP hS ⊢
      as_aux_lemma =>
      have h_15 := hw
      exact hU _ _ _ (J62 x_2 x_14 j24_h0_f1 j24_h0_0c g_h0_f1 g_h1_f1 g_h1_f2 g_h1_f3 g_j24_h0_f1 h_4 (RG_w h_15 (by decide +kernel)) _ _ _ hP hD hS (lv_sub hl [] rfl))
    · refine lv_istore (lv' := [(4, .int r_1), (0, .ref h0), (1, .ref h1), (2, .int 0)]) hx hb dX4_readUnit_28 hl (Nat.le_of_ble_eq_true rfl) rfl (fun ls hl => ?_)
      refine lv_iload hx hb dX4_readUnit_30 (lv_at hl 0 rfl) ?_
      obtain ⟨hPc, hDc, hFc, hqc⟩ := cl_cut (wc := []) hP hD hS hA [] (by decide +kernel) rfl
      have hKc := hK.sub (tys' := []) [] rfl
      refine va_calli (va_runS (As := [.int r_1]) (rest := []) ⟨hx, hb, hml, hown, hts⟩ (c_X4_isComparison_1 l dC dI H.size r_1 h_6) (va_cwS 1 hts gf_c_X4_readUnit_1_c_X4_isComparison_1 rfl rfl rfl md_X4_isComparison ⟨Nat.le_of_ble_eq_true rfl, Nat.le_of_ble_eq_true rfl⟩) ⟨fun a U g mk q => by obtain ⟨q0, q1, qP, qK, qD⟩ := q; exact ⟨q0, q1, qP, va_K.moved (u := U) (U := U.calling g mk a) (Vm.Alike.refl U.vm) qK, qD⟩, fun U hU hW => ⟨rfl, by rw [hU], by rw [hU]; exact hPc, va_K.moved hW.alike hKc, hDc.weaken (fun _ _ _ _ => trivial)⟩⟩ rfl rfl hl.1 rfl (lv_room (Nat.le_of_ble_eq_true rfl)) dX4_readUnit_32 ⟨Nat.le_of_ble_eq_true rfl, Nat.le_of_ble_eq_true rfl⟩) hS (fun q _ h => hFc q h) hFc (fun r_16 u t H1 locs ht hvm hw hB hz1 hk1 hS => ?_)
      obtain ⟨hP1, hK1, hD1⟩ := hB
      rw [ht] at hP1
      have hP := bv_still hP hk1
      generalize H1 = H at hP hS ⊢
      as_aux_lemma =>
      rcases hw with h_17 | ⟨h_18, h_19⟩
      · rw [h_17]
        refine lv_if_eq (tgt := 58) hx hb dX4_readUnit_35 rfl (fun c_20 => ?_) (fun c_20 => absurd c_20 (by decide +kernel))
        refine lv_aload_n hx hb dX4_readUnit_58 rfl (lv_at hl 2 rfl) ?_
        obtain ⟨hPc, hDc, hFc, hqc⟩ := cl_cut (wc := (wd_c_X9_refuseHere h1 h1_0 h1_f1 x_2 j24_h1_f3)) hP hD hS hA [0] (by decide +kernel) rfl
        have hKc := hK.sub (tys' := []) [] rfl
        have hrv := va_recv hKc hPc (ci := 9) (q0 := 0) rfl rfl
        refine va_callv (va_runV (As := []) (rest := []) ⟨hx, hb, hml, hown, hts⟩ (c_X9_refuseHere l dC dI H.size h1 h1_0 h1_f1 x_2 j24_h1_f3 (RG_w h_8 (by decide +kernel)) (RG_w h_7 (by decide +kernel)) g_j24_h1_f3) (cwV 0 hts gf_c_X4_readUnit_1_c_X9_refuseHere rfl rfl rfl mdV_X9_refuseHere ⟨Nat.le_of_ble_eq_true rfl, Nat.le_of_ble_eq_true rfl⟩) ⟨fun a U g mk q => by obtain ⟨q0, q1, qP, qK, qD⟩ := q; exact ⟨q0, q1, qP, va_K.moved (u := U) (U := U.calling g mk a) (Vm.Alike.refl U.vm) qK, qD⟩, hrv, fun U hU hW => ⟨rfl, by rw [hU], by rw [hU]; exact hPc, va_K.moved hW.alike hKc, hDc.weaken (fun _ _ _ _ => trivial)⟩⟩ rfl rfl hl.1 rfl (lv_room (Nat.le_of_ble_eq_true rfl)) dX4_readUnit_59 ⟨Nat.le_of_ble_eq_true rfl, Nat.le_of_ble_eq_true rfl⟩) hS (fun q _ h => hFc q h) hFc (fun x_22 t H1 locs ht hvm hw hB hz1 hk1 hS => ?_)
        obtain ⟨hP1, hK1, hD1⟩ := hB
        rw [ht] at hP1
        obtain ⟨hP, hD⟩ := cl_put (w1 := (wd_c_X9_refuseHere h1 h1_0 h1_f1 x_2 x_22)) (nw := (wd_c_X4_readUnit_1 h1 h1_0 h1_f1 x_2 x_22 h1_0 h1_0k h1_0c h0 h0_0 j24_h0_f1 h0_2 h0_0 h0_0k j24_h0_0c)) hP hD [0] [4, 1, 2, 3] 4 rfl hqc (by decide +kernel) rfl hk1 hFc hP1 hD1
        generalize H1 = H at hP hS ⊢
        as_aux_lemma =>
        have h_23 := hw
        exact hU _ _ _ (J62 x_2 x_22 j24_h0_f1 j24_h0_0c g_h0_f1 (RG_w h_8 (by decide +kernel)) g_h1_f2 g_h1_f3 g_j24_h0_f1 (RG_w h_7 (by decide +kernel)) (RG_w h_23 (by decide +kernel)) _ _ _ hP hD hS (lv_sub hl [] rfl))
      · rw [h_18]
        refine lv_if_eq (tgt := 58) hx hb dX4_readUnit_35 rfl (fun c_24 => absurd c_24 (by decide +kernel)) (fun c_24 => ?_)
        refine lv_aload_n hx hb dX4_readUnit_38 rfl (lv_at hl 2 rfl) ?_
        obtain ⟨hPc, hDc, hFc, hqc⟩ := cl_cut (wc := (wd_c_X9_skip h1 h1_0 h1_f1 x_2 j24_h1_f3)) hP hD hS hA [0] (by decide +kernel) rfl
        have hKc := hK.sub (tys' := []) [] rfl
        have hrv := va_recv hKc hPc (ci := 9) (q0 := 0) rfl rfl
        refine va_callv (va_runV (As := []) (rest := []) ⟨hx, hb, hml, hown, hts⟩ (c_X9_skip l dC dI H.size h1 h1_0 h1_f1 x_2 j24_h1_f3 (RG_w h_8 (by decide +kernel)) h_7 g_j24_h1_f3) (cwV 0 hts gf_c_X4_readUnit_1_c_X9_skip rfl rfl rfl mdV_X9_skip ⟨Nat.le_of_ble_eq_true rfl, Nat.le_of_ble_eq_true rfl⟩) ⟨fun a U g mk q => by obtain ⟨q0, q1, qP, qK, qD⟩ := q; exact ⟨q0, q1, qP, va_K.moved (u := U) (U := U.calling g mk a) (Vm.Alike.refl U.vm) qK, qD⟩, hrv, fun U hU hW => ⟨rfl, by rw [hU], by rw [hU]; exact hPc, va_K.moved hW.alike hKc, hDc.weaken (fun _ _ _ _ => trivial)⟩⟩ rfl rfl hl.1 rfl (lv_room (Nat.le_of_ble_eq_true rfl)) dX4_readUnit_39 ⟨Nat.le_of_ble_eq_true rfl, Nat.le_of_ble_eq_true rfl⟩) hS (fun q _ h => hFc q h) hFc (fun x_26 t H1 locs ht hvm hw hB hz1 hk1 hS => ?_)
        obtain ⟨hP1, hK1, hD1⟩ := hB
        rw [ht] at hP1
        obtain ⟨hP, hD⟩ := cl_put (w1 := (wd_c_X9_skip h1 h1_0 h1_f1 x_26 j24_h1_f3)) (nw := (wd_c_X4_readUnit_1 h1 h1_0 h1_f1 x_26 j24_h1_f3 h1_0 h1_0k h1_0c h0 h0_0 j24_h0_f1 h0_2 h0_0 h0_0k j24_h0_0c)) hP hD [0] [4, 1, 2, 3] 4 rfl hqc (by decide +kernel) rfl hk1 hFc hP1 hD1
        generalize H1 = H at hP hS ⊢
        as_aux_lemma =>
        rcases hw with ⟨h_27, h_28, h_29⟩
        refine lv_aload_n hx hb dX4_readUnit_42 rfl (lv_at hl 1 rfl) ?_
        refine lv_aload_n hx hb dX4_readUnit_43 rfl (lv_at hl 2 rfl) ?_
        refine lv_iload_n hx hb dX4_readUnit_44 rfl (lv_at hl 3 rfl) ?_
        obtain ⟨hPc, hDc, hFc, hqc⟩ := cl_cut (wc := (wd_c_X4_readSum h1 h1_0 h1_f1 x_26 j24_h1_f3 h1_0 h1_0k h1_0c h0 h0_0 j24_h0_f1 h0_2 h0_0 h0_0k j24_h0_0c)) hP hD hS hA [0, 1, 2, 3] (by decide +kernel) rfl
        have hKc := hK.sub (tys' := [(h1_0k, .int), (h0_0k, .int)]) [0, 1] rfl
        have hrv := va_recv hKc hPc (ci := 4) (q0 := 2) rfl rfl
        refine va_callv (va_runV (As := [.ref h1, .int 0]) (rest := []) ⟨hx, hb, hml, hown, hts⟩ (c_X4_readSum l dC dI H.size h0 h1 h1_0 h1_f1 x_26 j24_h1_f3 h1_0k h1_0c h0_0 j24_h0_f1 h0_2 h0_0k j24_h0_0c ts4 tv4 (RG_w h_8 (by decide +kernel)) (RG_w h_27 (by decide +kernel)) g_j24_h1_f3 a_h1_0c g_j24_h0_f1) (cwV 2 hts gf_c_X4_readUnit_1_c_X4_readSum rfl rfl rfl mdV_X4_readSum ⟨Nat.le_of_ble_eq_true rfl, Nat.le_of_ble_eq_true rfl⟩) ⟨fun a U g mk q => by obtain ⟨q0, q1, qP, qK, qD, qE0, qE1, qE2, qE3, qE4, qE5⟩ := q; exact ⟨q0, q1, qP, va_K.moved (u := U) (U := U.calling g mk a) (Vm.Alike.refl U.vm) qK, qD, vk_R.same rfl qE0, va_Z.moved (u := U) (U := U.calling g mk a) (Vm.Alike.refl U.vm) qE1, va_OF.moved (u := U) (U := U.calling g mk a) (Vm.Alike.refl U.vm) qE2, va_O.moved (u := U) (U := U.calling g mk a) (Vm.Alike.refl U.vm) qE3, va_OF.moved (u := U) (U := U.calling g mk a) (Vm.Alike.refl U.vm) qE4, va_T.moved (u := U) (U := U.calling g mk a) (Vm.Alike.refl U.vm) qE5⟩, hrv, fun U hU hW => ⟨rfl, by rw [hU], by rw [hU]; exact hPc, va_K.moved hW.alike hKc, hDc.weaken (fun _ _ _ _ => trivial), vk_R.warm hW hE_32, va_Z.moved hW.alike (by rw [hU]; exact (hE_10.kept hS.2.1).narrow hFc), va_OF.moved hW.alike (by rw [hU]; exact (hE_34.kept hS.2.1).narrow hFc), va_O.moved hW.alike (by rw [hU]; exact (hE_33.kept hS.2.1).narrow hFc), va_OF.moved hW.alike (by rw [hU]; exact (hE_35.kept hS.2.1).narrow hFc), va_T.moved hW.alike (by rw [hU]; exact (hE_36.kept hS.2.1).narrow hFc)⟩⟩ rfl rfl hl.1 rfl (lv_room (Nat.le_of_ble_eq_true rfl)) dX4_readUnit_45 ⟨Nat.le_of_ble_eq_true rfl, Nat.le_of_ble_eq_true rfl⟩) hS (fun q _ h => hFc q h) hFc (fun u t H1 locs ht hvm hw hB hz1 hk1 hS => ?_)
        obtain ⟨x_31, x_32, x_33, w_34⟩ := u
        obtain ⟨hP1, hK1, hD1⟩ := hB
        rw [ht] at hP1
        obtain ⟨hP, hD⟩ := cl_put (w1 := (wd_c_X4_readSum h1 h1_0 h1_f1 x_31 x_32 h1_0 h1_0k h1_0c h0 h0_0 x_33 h0_2 h0_0 h0_0k w_34)) (nw := (wd_c_X4_readUnit_1 h1 h1_0 h1_f1 x_31 x_32 h1_0 h1_0k h1_0c h0 h0_0 x_33 h0_2 h0_0 h0_0k w_34)) hP hD [0, 1, 2, 3] [4, 5, 6, 7] 4 rfl hqc (by decide +kernel) rfl hk1 hFc hP1 hD1
        generalize H1 = H at hP hS ⊢
        as_aux_lemma =>
        rcases hw with ⟨h_35, h_36, h_37⟩
        refine lv_aload_n hx hb dX4_readUnit_48 rfl (lv_at hl 1 rfl) ?_
        refine lv_iload hx hb dX4_readUnit_49 (lv_at hl 0 rfl) ?_
        refine lv_ineg hx hb dX4_readUnit_51 ?_
        refine lv_topi (fun x_38 ex_38 => ?_)
        have g_39 : RG x_38 (-62) (-60) := RG_neg ex_38 h_19 (by decide +kernel)
        obtain ⟨hPc, hDc, hFc, hqc⟩ := cl_cut (wc := (wd_c_X4_emit h0 h0_0 x_33 h0_2 h0_0 h0_0k w_34)) hP hD hS hA [2, 3] (by decide +kernel) rfl
        have hKc := hK.sub (tys' := [(h0_0k, .int)]) [1] rfl
        have hrv := va_recv hKc hPc (ci := 4) (q0 := 0) rfl rfl
        refine va_callv (va_runV (As := [.int x_38]) (rest := []) ⟨hx, hb, hml, hown, hts⟩ (c_X4_emit l dC dI H.size h0 x_38 h0_0 x_33 h0_2 h0_0k w_34 h_37) (cwV 1 hts gf_c_X4_readUnit_1_c_X4_emit rfl rfl rfl mdV_X4_emit ⟨Nat.le_of_ble_eq_true rfl, Nat.le_of_ble_eq_true rfl⟩) ⟨fun a U g mk q => by obtain ⟨q0, q1, qP, qK, qD⟩ := q; exact ⟨q0, q1, qP, va_K.moved (u := U) (U := U.calling g mk a) (Vm.Alike.refl U.vm) qK, qD⟩, hrv, fun U hU hW => ⟨rfl, by rw [hU], by rw [hU]; exact hPc, va_K.moved hW.alike hKc, hDc.weaken (fun _ _ _ _ => trivial)⟩⟩ rfl rfl hl.1 rfl (lv_room (Nat.le_of_ble_eq_true rfl)) dX4_readUnit_52 ⟨Nat.le_of_ble_eq_true rfl, Nat.le_of_ble_eq_true rfl⟩) hS (fun q _ h => hFc q h) hFc (fun u t H1 locs ht hvm hw hB hz1 hk1 hS => ?_)
        obtain ⟨x_41, w_42⟩ := u
        obtain ⟨hP1, hK1, hD1⟩ := hB
        rw [ht] at hP1
        obtain ⟨hP, hD⟩ := cl_put (w1 := (wd_c_X4_emit h0 h0_0 x_41 h0_2 h0_0 h0_0k w_42)) (nw := (wd_c_X4_readUnit_1 h1 h1_0 h1_f1 x_31 x_32 h1_0 h1_0k h1_0c h0 h0_0 x_41 h0_2 h0_0 h0_0k w_42)) hP hD [2, 3] [0, 1, 4, 5] 4 rfl hqc (by decide +kernel) rfl hk1 hFc hP1 hD1
        generalize H1 = H at hP hS ⊢
        as_aux_lemma =>
        have h_43 := hw
        refine lv_goto (tgt := 62) hx hb dX4_readUnit_55 rfl ?_
        exact hU _ _ _ (J62 x_31 x_32 x_41 w_42 g_h0_f1 (RG_w h_8 (by decide +kernel)) g_h1_f2 g_h1_f3 (RG_w h_43 (by decide +kernel)) h_35 h_36 _ _ _ hP hD hS (lv_sub hl [] rfl))
  have J14 : ∀ (j14_h1_f2 : Int32) (g_h0_f1 : RG h0_f1 0 240) (g_h1_f1 : RG h1_f1 0 240) (g_h1_f2 : RG h1_f2 0 240) (g_h1_f3 : RG h1_f3 (-1) 240) (g_j14_h1_f2 : RG j14_h1_f2 0 240) (H : Heap) (locs : List Loc) (ls : Array Slot) (hP : va_P (dC, dI) vwCl (wd_c_X4_readUnit_1 h1 h1_0 h1_f1 j14_h1_f2 h1_f3 h1_0 h1_0k h1_0c h0 h0_0 h0_f1 h0_2 h0_0 h0_0k h0_0c) H) (hD : va_D A (wd_c_X4_readUnit_1 h1 h1_0 h1_f1 j14_h1_f2 h1_f3 h1_0 h1_0k h1_0c h0 h0_0 h0_f1 h0_2 h0_0 h0_0k h0_0c)) (hS : va_S A s.heap H locs) (hl : lv_has ls 5 [(0, .ref h0), (1, .ref h1), (2, .int 0), (3, .int 0)]), G H locs (F0 m 14 ls []) := by
    as_aux_lemma =>
    intro j14_h1_f2 g_h0_f1 g_h1_f1 g_h1_f2 g_h1_f3 g_j14_h1_f2 H locs ls hP hD hS hl
    refine hG _ _ _ ?_
    refine lv_iload_n hx hb dX4_readUnit_14 rfl (lv_at hl 3 rfl) ?_
    refine lv_if_ne (tgt := 24) hx hb dX4_readUnit_15 rfl (fun c_44 => absurd c_44 (by decide +kernel)) (fun c_44 => ?_)
    refine lv_aload_n hx hb dX4_readUnit_18 rfl (lv_at hl 0 rfl) ?_
    refine lv_aload_n hx hb dX4_readUnit_19 rfl (lv_at hl 1 rfl) ?_
    refine lv_iload_n hx hb dX4_readUnit_20 rfl (lv_at hl 2 rfl) ?_
    obtain ⟨hPc, hDc, hFc, hqc⟩ := cl_cut (wc := (wd_c_X4_readSum h1 h1_0 h1_f1 j14_h1_f2 h1_f3 h1_0 h1_0k h1_0c h0 h0_0 h0_f1 h0_2 h0_0 h0_0k h0_0c)) hP hD hS hA [0, 1, 2, 3] (by decide +kernel) rfl
    have hKc := hK.sub (tys' := [(h1_0k, .int), (h0_0k, .int)]) [0, 1] rfl
    have hrv := va_recv hKc hPc (ci := 4) (q0 := 2) rfl rfl
    refine va_callv (va_runV (As := [.ref h1, .int 0]) (rest := []) ⟨hx, hb, hml, hown, hts⟩ (c_X4_readSum l dC dI H.size h0 h1 h1_0 h1_f1 j14_h1_f2 h1_f3 h1_0k h1_0c h0_0 h0_f1 h0_2 h0_0k h0_0c ts4 tv4 g_h1_f1 g_j14_h1_f2 g_h1_f3 a_h1_0c g_h0_f1) (cwV 2 hts gf_c_X4_readUnit_1_c_X4_readSum rfl rfl rfl mdV_X4_readSum ⟨Nat.le_of_ble_eq_true rfl, Nat.le_of_ble_eq_true rfl⟩) ⟨fun a U g mk q => by obtain ⟨q0, q1, qP, qK, qD, qE0, qE1, qE2, qE3, qE4, qE5⟩ := q; exact ⟨q0, q1, qP, va_K.moved (u := U) (U := U.calling g mk a) (Vm.Alike.refl U.vm) qK, qD, vk_R.same rfl qE0, va_Z.moved (u := U) (U := U.calling g mk a) (Vm.Alike.refl U.vm) qE1, va_OF.moved (u := U) (U := U.calling g mk a) (Vm.Alike.refl U.vm) qE2, va_O.moved (u := U) (U := U.calling g mk a) (Vm.Alike.refl U.vm) qE3, va_OF.moved (u := U) (U := U.calling g mk a) (Vm.Alike.refl U.vm) qE4, va_T.moved (u := U) (U := U.calling g mk a) (Vm.Alike.refl U.vm) qE5⟩, hrv, fun U hU hW => ⟨rfl, by rw [hU], by rw [hU]; exact hPc, va_K.moved hW.alike hKc, hDc.weaken (fun _ _ _ _ => trivial), vk_R.warm hW hE_32, va_Z.moved hW.alike (by rw [hU]; exact (hE_10.kept hS.2.1).narrow hFc), va_OF.moved hW.alike (by rw [hU]; exact (hE_34.kept hS.2.1).narrow hFc), va_O.moved hW.alike (by rw [hU]; exact (hE_33.kept hS.2.1).narrow hFc), va_OF.moved hW.alike (by rw [hU]; exact (hE_35.kept hS.2.1).narrow hFc), va_T.moved hW.alike (by rw [hU]; exact (hE_36.kept hS.2.1).narrow hFc)⟩⟩ rfl rfl hl.1 rfl (lv_room (Nat.le_of_ble_eq_true rfl)) dX4_readUnit_21 ⟨Nat.le_of_ble_eq_true rfl, Nat.le_of_ble_eq_true rfl⟩) hS (fun q _ h => hFc q h) hFc (fun u t H1 locs ht hvm hw hB hz1 hk1 hS => ?_)
    obtain ⟨x_46, x_47, x_48, w_49⟩ := u
    obtain ⟨hP1, hK1, hD1⟩ := hB
    rw [ht] at hP1
    obtain ⟨hP, hD⟩ := cl_put (w1 := (wd_c_X4_readSum h1 h1_0 h1_f1 x_46 x_47 h1_0 h1_0k h1_0c h0 h0_0 x_48 h0_2 h0_0 h0_0k w_49)) (nw := (wd_c_X4_readUnit_1 h1 h1_0 h1_f1 x_46 x_47 h1_0 h1_0k h1_0c h0 h0_0 x_48 h0_2 h0_0 h0_0k w_49)) hP hD [0, 1, 2, 3] [4, 5, 6, 7] 4 rfl hqc (by decide +kernel) rfl hk1 hFc hP1 hD1
    generalize H1 = H at hP hS ⊢
    as_aux_lemma =>
    rcases hw with ⟨h_50, h_51, h_52⟩
    exact hU _ _ _ (J24 x_46 x_47 x_48 w_49 g_h0_f1 g_h1_f1 g_h1_f2 g_h1_f3 h_52 h_50 h_51 _ _ _ hP hD hS (lv_sub hl [0, 1, 2] rfl))
  refine hG _ _ _ ?_
  refine lv_iload_n hx hb dX4_readUnit_0 rfl (lv_at hl 3 rfl) ?_
  refine lv_if_ne (tgt := 14) hx hb dX4_readUnit_1 rfl (fun c_53 => absurd c_53 (by decide +kernel)) (fun c_53 => ?_)
  refine lv_aload_n hx hb dX4_readUnit_4 rfl (lv_at hl 1 rfl) ?_
  obtain ⟨hPc, hDc, hFc, hqc⟩ := cl_cut (wc := (wd_c_X9_peek h1 h1_0 h1_f1 h1_f2 h1_f3 h1_0 h1_0k h1_0c)) hP hD hS hA [0, 1] (by decide +kernel) rfl
  have hKc := hK.sub (tys' := [(h1_0k, .int)]) [0] rfl
  have hrv := va_recv hKc hPc (ci := 9) (q0 := 0) rfl rfl
  refine va_calli (va_runV (As := []) (rest := []) ⟨hx, hb, hml, hown, hts⟩ (c_X9_peek l dC dI H.size h1 h1_0 h1_f1 h1_f2 h1_f3 h1_0k h1_0c g_h1_f1 g_h1_f2 g_h1_f3 a_h1_0c) (cwV 0 hts gf_c_X4_readUnit_1_c_X9_peek rfl rfl rfl mdV_X9_peek ⟨Nat.le_of_ble_eq_true rfl, Nat.le_of_ble_eq_true rfl⟩) ⟨fun a U g mk q => by obtain ⟨q0, q1, qP, qK, qD⟩ := q; exact ⟨q0, q1, qP, va_K.moved (u := U) (U := U.calling g mk a) (Vm.Alike.refl U.vm) qK, qD⟩, hrv, fun U hU hW => ⟨rfl, by rw [hU], by rw [hU]; exact hPc, va_K.moved hW.alike hKc, hDc.weaken (fun _ _ _ _ => trivial)⟩⟩ rfl rfl hl.1 rfl (lv_room (Nat.le_of_ble_eq_true rfl)) dX4_readUnit_5 ⟨Nat.le_of_ble_eq_true rfl, Nat.le_of_ble_eq_true rfl⟩) hS (fun q _ h => hFc q h) hFc (fun r_54 x_55 t H1 locs ht hvm hw hB hz1 hk1 hS => ?_)
  obtain ⟨hP1, hK1, hD1⟩ := hB
  rw [ht] at hP1
  obtain ⟨hP, hD⟩ := cl_put (w1 := (wd_c_X9_peek h1 h1_0 h1_f1 x_55 h1_f3 h1_0 h1_0k h1_0c)) (nw := (wd_c_X4_readUnit_1 h1 h1_0 h1_f1 x_55 h1_f3 h1_0 h1_0k h1_0c h0 h0_0 h0_f1 h0_2 h0_0 h0_0k h0_0c)) hP hD [0, 1] [4, 5, 2, 3] 4 rfl hqc (by decide +kernel) rfl hk1 hFc hP1 hD1
  generalize H1 = H at hP hS ⊢
  as_aux_lemma =>
  rcases hw with ⟨h_56, h_57, h_58⟩ | ⟨h_59, h_60, h_61, h_62⟩
  · rw [h_56]
    obtain ⟨hPc, hDc, hFc, hqc⟩ := cl_cut (wc := []) hP hD hS hA [] (by decide +kernel) rfl
    have hKc := hK.sub (tys' := []) [] rfl
    refine va_calli (va_runS (As := [.int (-1)]) (rest := []) ⟨hx, hb, hml, hown, hts⟩ (c_X4_startsUnit l dC dI H.size (-1) (RG_k (-1) (-1) rfl)) (va_cwS 1 hts gf_c_X4_readUnit_1_c_X4_startsUnit rfl rfl rfl md_X4_startsUnit ⟨Nat.le_of_ble_eq_true rfl, Nat.le_of_ble_eq_true rfl⟩) ⟨fun a U g mk q => by obtain ⟨q0, q1, qP, qK, qD⟩ := q; exact ⟨q0, q1, qP, va_K.moved (u := U) (U := U.calling g mk a) (Vm.Alike.refl U.vm) qK, qD⟩, fun U hU hW => ⟨rfl, by rw [hU], by rw [hU]; exact hPc, va_K.moved hW.alike hKc, hDc.weaken (fun _ _ _ _ => trivial)⟩⟩ rfl rfl hl.1 rfl (lv_room (Nat.le_of_ble_eq_true rfl)) dX4_readUnit_8 ⟨Nat.le_of_ble_eq_true rfl, Nat.le_of_ble_eq_true rfl⟩) hS (fun q _ h => hFc q h) hFc (fun r_63 u t H1 locs ht hvm hw hB hz1 hk1 hS => ?_)
    obtain ⟨hP1, hK1, hD1⟩ := hB
    rw [ht] at hP1
    have hP := bv_still hP hk1
    generalize H1 = H at hP hS ⊢
    as_aux_lemma =>
    have h_64 := hw
    rw [h_64]
    refine lv_if_ne (tgt := 65) hx hb dX4_readUnit_11 rfl (fun c_65 => absurd c_65 (by decide +kernel)) (fun c_65 => ?_)
    exact hU _ _ _ (J14 x_55 g_h0_f1 g_h1_f1 g_h1_f2 g_h1_f3 h_57 _ _ _ hP hD hS (lv_sub hl [0, 1, 2, 3] rfl))
  · obtain ⟨hPc, hDc, hFc, hqc⟩ := cl_cut (wc := []) hP hD hS hA [] (by decide +kernel) rfl
    have hKc := hK.sub (tys' := []) [] rfl
    refine va_calli (va_runS (As := [.int r_54]) (rest := []) ⟨hx, hb, hml, hown, hts⟩ (c_X4_startsUnit_1 l dC dI H.size r_54 h_59) (va_cwS 1 hts gf_c_X4_readUnit_1_c_X4_startsUnit_1 rfl rfl rfl md_X4_startsUnit ⟨Nat.le_of_ble_eq_true rfl, Nat.le_of_ble_eq_true rfl⟩) ⟨fun a U g mk q => by obtain ⟨q0, q1, qP, qK, qD⟩ := q; exact ⟨q0, q1, qP, va_K.moved (u := U) (U := U.calling g mk a) (Vm.Alike.refl U.vm) qK, qD⟩, fun U hU hW => ⟨rfl, by rw [hU], by rw [hU]; exact hPc, va_K.moved hW.alike hKc, hDc.weaken (fun _ _ _ _ => trivial)⟩⟩ rfl rfl hl.1 rfl (lv_room (Nat.le_of_ble_eq_true rfl)) dX4_readUnit_8 ⟨Nat.le_of_ble_eq_true rfl, Nat.le_of_ble_eq_true rfl⟩) hS (fun q _ h => hFc q h) hFc (fun r_66 u t H1 locs ht hvm hw hB hz1 hk1 hS => ?_)
    obtain ⟨hP1, hK1, hD1⟩ := hB
    rw [ht] at hP1
    have hP := bv_still hP hk1
    generalize H1 = H at hP hS ⊢
    as_aux_lemma =>
    rcases hw with h_67 | ⟨h_68, h_69⟩
    · rw [h_67]
      refine lv_if_ne (tgt := 65) hx hb dX4_readUnit_11 rfl (fun c_70 => absurd c_70 (by decide +kernel)) (fun c_70 => ?_)
      exact hU _ _ _ (J14 x_55 g_h0_f1 (RG_w h_61 (by decide +kernel)) g_h1_f2 g_h1_f3 (RG_w h_60 (by decide +kernel)) _ _ _ hP hD hS (lv_sub hl [0, 1, 2, 3] rfl))
    · rw [h_68]
      refine lv_if_ne (tgt := 65) hx hb dX4_readUnit_11 rfl (fun c_71 => ?_) (fun c_71 => absurd c_71 (by decide +kernel))
      refine lv_iload_n hx hb dX4_readUnit_65 rfl (lv_at hl 2 rfl) ?_
      refine lv_bipush (v := 6) hx hb dX4_readUnit_66 kc_bipush_6 ?_
      refine lv_icmp_lt (tgt := 78) hx hb dX4_readUnit_68 rfl (fun c_72 => ?_) (fun c_72 => absurd c_72 (by decide +kernel))
      refine lv_aload_n hx hb dX4_readUnit_78 rfl (lv_at hl 1 rfl) ?_
      refine lv_bipush (v := 33) hx hb dX4_readUnit_79 kc_bipush_33 ?_
      obtain ⟨hPc, hDc, hFc, hqc⟩ := cl_cut (wc := (wd_c_X9_take h1 h1_0 h1_f1 x_55 h1_f3 h1_0 h1_0k h1_0c)) hP hD hS hA [0, 1] (by decide +kernel) rfl
      have hKc := hK.sub (tys' := [(h1_0k, .int)]) [0] rfl
      have hrv := va_recv hKc hPc (ci := 9) (q0 := 0) rfl rfl
      refine va_calli (va_runV (As := [.int 33]) (rest := []) ⟨hx, hb, hml, hown, hts⟩ (c_X9_take l dC dI H.size h1 33 h1_0 h1_f1 x_55 h1_f3 h1_0k h1_0c (RG_w (RG_k 33 33 rfl) (by decide +kernel)) (RG_w h_61 (by decide +kernel)) (RG_w h_60 (by decide +kernel)) g_h1_f3 a_h1_0c) (cwV 1 hts gf_c_X4_readUnit_1_c_X9_take rfl rfl rfl mdV_X9_take ⟨Nat.le_of_ble_eq_true rfl, Nat.le_of_ble_eq_true rfl⟩) ⟨fun a U g mk q => by obtain ⟨q0, q1, qP, qK, qD⟩ := q; exact ⟨q0, q1, qP, va_K.moved (u := U) (U := U.calling g mk a) (Vm.Alike.refl U.vm) qK, qD⟩, hrv, fun U hU hW => ⟨rfl, by rw [hU], by rw [hU]; exact hPc, va_K.moved hW.alike hKc, hDc.weaken (fun _ _ _ _ => trivial)⟩⟩ rfl rfl hl.1 rfl (lv_room (Nat.le_of_ble_eq_true rfl)) dX4_readUnit_81 ⟨Nat.le_of_ble_eq_true rfl, Nat.le_of_ble_eq_true rfl⟩) hS (fun q _ h => hFc q h) hFc (fun r_73 x_74 t H1 locs ht hvm hw hB hz1 hk1 hS => ?_)
      as_aux_lemma =>
      obtain ⟨hP1, hK1, hD1⟩ := hB
      rw [ht] at hP1
      obtain ⟨hP, hD⟩ := cl_put (w1 := (wd_c_X9_take h1 h1_0 h1_f1 x_74 h1_f3 h1_0 h1_0k h1_0c)) (nw := (wd_c_X4_readUnit_1 h1 h1_0 h1_f1 x_74 h1_f3 h1_0 h1_0k h1_0c h0 h0_0 h0_f1 h0_2 h0_0 h0_0k h0_0c)) hP hD [0, 1] [4, 5, 2, 3] 4 rfl hqc (by decide +kernel) rfl hk1 hFc hP1 hD1
      generalize H1 = H at hP hS ⊢
      as_aux_lemma =>
      rcases hw with ⟨h_75, h_76, h_77⟩ | ⟨h_78, h_79, h_80, h_81, h_82⟩
      · rw [h_75]
        refine lv_if_eq (tgt := 105) hx hb dX4_readUnit_84 rfl (fun c_83 => ?_) (fun c_83 => absurd c_83 (by decide +kernel))
        refine lv_aload_n hx hb dX4_readUnit_105 rfl (lv_at hl 1 rfl) ?_
        refine lv_bipush (v := 40) hx hb dX4_readUnit_106 kc_bipush_40 ?_
        obtain ⟨hPc, hDc, hFc, hqc⟩ := cl_cut (wc := (wd_c_X9_expect_1 h1 h1_0 h1_f1 x_74 h1_f3 h1_0 h1_0k h1_0c)) hP hD hS hA [0, 1] (by decide +kernel) rfl
        have hKc := hK.sub (tys' := [(h1_0k, .int)]) [0] rfl
        have hrv := va_recv hKc hPc (ci := 9) (q0 := 0) rfl rfl
        refine va_callv (va_runV (As := [.int 40]) (rest := []) ⟨hx, hb, hml, hown, hts⟩ (c_X9_expect_1 l dC dI H.size h1 40 h1_0 h1_f1 x_74 h1_f3 h1_0k h1_0c (RG_w (RG_k 40 40 rfl) (by decide +kernel)) (RG_w h_61 (by decide +kernel)) h_76 g_h1_f3 a_h1_0c) (cwV 1 hts gf_c_X4_readUnit_1_c_X9_expect_1 rfl rfl rfl mdV_X9_expect ⟨Nat.le_of_ble_eq_true rfl, Nat.le_of_ble_eq_true rfl⟩) ⟨fun a U g mk q => by obtain ⟨q0, q1, qP, qK, qD⟩ := q; exact ⟨q0, q1, qP, va_K.moved (u := U) (U := U.calling g mk a) (Vm.Alike.refl U.vm) qK, qD⟩, hrv, fun U hU hW => ⟨rfl, by rw [hU], by rw [hU]; exact hPc, va_K.moved hW.alike hKc, hDc.weaken (fun _ _ _ _ => trivial)⟩⟩ rfl rfl hl.1 rfl (lv_room (Nat.le_of_ble_eq_true rfl)) dX4_readUnit_108 ⟨Nat.le_of_ble_eq_true rfl, Nat.le_of_ble_eq_true rfl⟩) hS (fun q _ h => hFc q h) hFc (fun u t H1 locs ht hvm hw hB hz1 hk1 hS => ?_)
        obtain ⟨x_85, x_86⟩ := u
        obtain ⟨hP1, hK1, hD1⟩ := hB
        rw [ht] at hP1
        obtain ⟨hP, hD⟩ := cl_put (w1 := (wd_c_X9_expect_1 h1 h1_0 h1_f1 x_85 x_86 h1_0 h1_0k h1_0c)) (nw := (wd_c_X4_readUnit_1 h1 h1_0 h1_f1 x_85 x_86 h1_0 h1_0k h1_0c h0 h0_0 h0_f1 h0_2 h0_0 h0_0k h0_0c)) hP hD [0, 1] [4, 5, 2, 3] 4 rfl hqc (by decide +kernel) rfl hk1 hFc hP1 hD1
        generalize H1 = H at hP hS ⊢
        as_aux_lemma =>
        rcases hw with ⟨h_87, h_88, h_89⟩
        refine lv_aload_n hx hb dX4_readUnit_111 rfl (lv_at hl 0 rfl) ?_
        refine lv_aload_n hx hb dX4_readUnit_112 rfl (lv_at hl 1 rfl) ?_
        refine lv_iload_n hx hb dX4_readUnit_113 rfl (lv_at hl 2 rfl) ?_
        refine lv_iconst (v := 1) hx hb dX4_readUnit_114 kc_iconst_1 ?_
        refine lv_iadd hx hb dX4_readUnit_115 ?_
        refine lv_topi (fun x_90 ex_90 => ?_)
        obtain rfl : x_90 = 1 := ex_90.trans (by decide +kernel)
        refine lv_iconst (v := 0) hx hb dX4_readUnit_116 kc_iconst_0 ?_
        obtain ⟨hPc, hDc, hFc, hqc⟩ := cl_cut (wc := (wd_c_X4_readCondition_1 h1 h1_0 h1_f1 x_85 x_86 h1_0 h1_0k h1_0c h0 h0_0 h0_f1 h0_2 h0_0 h0_0k h0_0c)) hP hD hS hA [0, 1, 2, 3] (by decide +kernel) rfl
        have hKc := hK.sub (tys' := [(h1_0k, .int), (h0_0k, .int)]) [0, 1] rfl
        have hrv := va_recv hKc hPc (ci := 4) (q0 := 2) rfl rfl
        refine va_callv (va_runV (As := [.ref h1, .int 1, .int 0]) (rest := []) ⟨hx, hb, hml, hown, hts⟩ (c_X4_readCondition_1 l dC dI H.size h0 h1 h1_0 h1_f1 x_85 x_86 h1_0k h1_0c h0_0 h0_f1 h0_2 h0_0k h0_0c ts4 tv4 (RG_w h_61 (by decide +kernel)) h_87 h_88 a_h1_0c g_h0_f1) (cwV 3 hts gf_c_X4_readUnit_1_c_X4_readCondition_1 rfl rfl rfl mdV_X4_readCondition ⟨Nat.le_of_ble_eq_true rfl, Nat.le_of_ble_eq_true rfl⟩) ⟨fun a U g mk q => by obtain ⟨q0, q1, qP, qK, qD, qE0, qE1, qE2, qE3, qE4, qE5⟩ := q; exact ⟨q0, q1, qP, va_K.moved (u := U) (U := U.calling g mk a) (Vm.Alike.refl U.vm) qK, qD, vk_R.same rfl qE0, va_Z.moved (u := U) (U := U.calling g mk a) (Vm.Alike.refl U.vm) qE1, va_OF.moved (u := U) (U := U.calling g mk a) (Vm.Alike.refl U.vm) qE2, va_O.moved (u := U) (U := U.calling g mk a) (Vm.Alike.refl U.vm) qE3, va_OF.moved (u := U) (U := U.calling g mk a) (Vm.Alike.refl U.vm) qE4, va_T.moved (u := U) (U := U.calling g mk a) (Vm.Alike.refl U.vm) qE5⟩, hrv, fun U hU hW => ⟨rfl, by rw [hU], by rw [hU]; exact hPc, va_K.moved hW.alike hKc, hDc.weaken (fun _ _ _ _ => trivial), vk_R.warm hW hE_32, va_Z.moved hW.alike (by rw [hU]; exact (hE_10.kept hS.2.1).narrow hFc), va_OF.moved hW.alike (by rw [hU]; exact (hE_34.kept hS.2.1).narrow hFc), va_O.moved hW.alike (by rw [hU]; exact (hE_33.kept hS.2.1).narrow hFc), va_OF.moved hW.alike (by rw [hU]; exact (hE_35.kept hS.2.1).narrow hFc), va_T.moved hW.alike (by rw [hU]; exact (hE_36.kept hS.2.1).narrow hFc)⟩⟩ rfl rfl hl.1 rfl (lv_room (Nat.le_of_ble_eq_true rfl)) dX4_readUnit_117 ⟨Nat.le_of_ble_eq_true rfl, Nat.le_of_ble_eq_true rfl⟩) hS (fun q _ h => hFc q h) hFc (fun u t H1 locs ht hvm hw hB hz1 hk1 hS => ?_)
        obtain ⟨x_92, x_93, x_94, w_95⟩ := u
        obtain ⟨hP1, hK1, hD1⟩ := hB
        rw [ht] at hP1
        obtain ⟨hP, hD⟩ := cl_put (w1 := (wd_c_X4_readCondition_1 h1 h1_0 h1_f1 x_92 x_93 h1_0 h1_0k h1_0c h0 h0_0 x_94 h0_2 h0_0 h0_0k w_95)) (nw := (wd_c_X4_readUnit_1 h1 h1_0 h1_f1 x_92 x_93 h1_0 h1_0k h1_0c h0 h0_0 x_94 h0_2 h0_0 h0_0k w_95)) hP hD [0, 1, 2, 3] [4, 5, 6, 7] 4 rfl hqc (by decide +kernel) rfl hk1 hFc hP1 hD1
        generalize H1 = H at hP hS ⊢
        as_aux_lemma =>
        rcases hw with ⟨h_96, h_97, h_98⟩
        refine lv_aload_n hx hb dX4_readUnit_120 rfl (lv_at hl 1 rfl) ?_
        refine lv_bipush (v := 41) hx hb dX4_readUnit_121 kc_bipush_41 ?_
        obtain ⟨hPc, hDc, hFc, hqc⟩ := cl_cut (wc := (wd_c_X9_expect_1 h1 h1_0 h1_f1 x_92 x_93 h1_0 h1_0k h1_0c)) hP hD hS hA [0, 1] (by decide +kernel) rfl
        have hKc := hK.sub (tys' := [(h1_0k, .int)]) [0] rfl
        have hrv := va_recv hKc hPc (ci := 9) (q0 := 0) rfl rfl
        refine va_callv (va_runV (As := [.int 41]) (rest := []) ⟨hx, hb, hml, hown, hts⟩ (c_X9_expect_1 l dC dI H.size h1 41 h1_0 h1_f1 x_92 x_93 h1_0k h1_0c (RG_w (RG_k 41 41 rfl) (by decide +kernel)) (RG_w h_61 (by decide +kernel)) h_96 h_97 a_h1_0c) (cwV 1 hts gf_c_X4_readUnit_1_c_X9_expect_1 rfl rfl rfl mdV_X9_expect ⟨Nat.le_of_ble_eq_true rfl, Nat.le_of_ble_eq_true rfl⟩) ⟨fun a U g mk q => by obtain ⟨q0, q1, qP, qK, qD⟩ := q; exact ⟨q0, q1, qP, va_K.moved (u := U) (U := U.calling g mk a) (Vm.Alike.refl U.vm) qK, qD⟩, hrv, fun U hU hW => ⟨rfl, by rw [hU], by rw [hU]; exact hPc, va_K.moved hW.alike hKc, hDc.weaken (fun _ _ _ _ => trivial)⟩⟩ rfl rfl hl.1 rfl (lv_room (Nat.le_of_ble_eq_true rfl)) dX4_readUnit_123 ⟨Nat.le_of_ble_eq_true rfl, Nat.le_of_ble_eq_true rfl⟩) hS (fun q _ h => hFc q h) hFc (fun u t H1 locs ht hvm hw hB hz1 hk1 hS => ?_)
        obtain ⟨x_100, x_101⟩ := u
        obtain ⟨hP1, hK1, hD1⟩ := hB
        rw [ht] at hP1
        obtain ⟨hP, hD⟩ := cl_put (w1 := (wd_c_X9_expect_1 h1 h1_0 h1_f1 x_100 x_101 h1_0 h1_0k h1_0c)) (nw := (wd_c_X4_readUnit_1 h1 h1_0 h1_f1 x_100 x_101 h1_0 h1_0k h1_0c h0 h0_0 x_94 h0_2 h0_0 h0_0k w_95)) hP hD [0, 1] [4, 5, 2, 3] 4 rfl hqc (by decide +kernel) rfl hk1 hFc hP1 hD1
        generalize H1 = H at hP hS ⊢
        as_aux_lemma =>
        rcases hw with ⟨h_102, h_103, h_104⟩
        have hK9 := hK.sub (tys' := []) [] rfl
        exact W.vret hx hb hr (fun t ht hW => ⟨⟨(x_100, x_101, x_94, w_95), rfl, ⟨h_102, h_103, h_98⟩, by rw [ht]; exact hP, va_K.moved hW.alike hK9, hD⟩, hS.F ht⟩) hS.2.2 dX4_readUnit_126
      · rw [h_78]
        refine lv_if_eq (tgt := 105) hx hb dX4_readUnit_84 rfl (fun c_105 => absurd c_105 (by decide +kernel)) (fun c_105 => ?_)
        refine lv_aload_n hx hb dX4_readUnit_87 rfl (lv_at hl 0 rfl) ?_
        refine lv_aload_n hx hb dX4_readUnit_88 rfl (lv_at hl 1 rfl) ?_
        refine lv_iload_n hx hb dX4_readUnit_89 rfl (lv_at hl 2 rfl) ?_
        refine lv_iconst (v := 1) hx hb dX4_readUnit_90 kc_iconst_1 ?_
        refine lv_iadd hx hb dX4_readUnit_91 ?_
        refine lv_topi (fun x_106 ex_106 => ?_)
        obtain rfl : x_106 = 1 := ex_106.trans (by decide +kernel)
        refine lv_iconst (v := 0) hx hb dX4_readUnit_92 kc_iconst_0 ?_
        obtain ⟨hPc, hDc, hFc, hqc⟩ := cl_cut (wc := (wd_c_X4_readUnit_2 h1 h1_0 h1_f1 x_74 h1_f3 h1_0 h1_0k h1_0c h0 h0_0 h0_f1 h0_2 h0_0 h0_0k h0_0c)) hP hD hS hA [0, 1, 2, 3] (by decide +kernel) rfl
        have hKc := hK.sub (tys' := [(h1_0k, .int), (h0_0k, .int)]) [0, 1] rfl
        have hrv := va_recv hKc hPc (ci := 4) (q0 := 2) rfl rfl
        refine va_callv (va_runV (As := [.ref h1, .int 1, .int 0]) (rest := []) ⟨hx, hb, hml, hown, hts⟩ (c_X4_readUnit_2 l dC dI H.size h0 h1 h1_0 h1_f1 x_74 h1_f3 h1_0k h1_0c h0_0 h0_f1 h0_2 h0_0k h0_0c ts4 tv4 (RG_w h_61 (by decide +kernel)) (RG_w h_79 (by decide +kernel)) (RG_w h_81 (by decide +kernel)) a_h1_0c g_h0_f1) (cwV 3 hts gf_c_X4_readUnit_1_c_X4_readUnit_2 rfl rfl rfl mdV_X4_readUnit ⟨Nat.le_of_ble_eq_true rfl, Nat.le_of_ble_eq_true rfl⟩) ⟨fun a U g mk q => by obtain ⟨q0, q1, qP, qK, qD, qE0, qE1, qE2, qE3, qE4, qE5⟩ := q; exact ⟨q0, q1, qP, va_K.moved (u := U) (U := U.calling g mk a) (Vm.Alike.refl U.vm) qK, qD, vk_R.same rfl qE0, va_Z.moved (u := U) (U := U.calling g mk a) (Vm.Alike.refl U.vm) qE1, va_OF.moved (u := U) (U := U.calling g mk a) (Vm.Alike.refl U.vm) qE2, va_O.moved (u := U) (U := U.calling g mk a) (Vm.Alike.refl U.vm) qE3, va_OF.moved (u := U) (U := U.calling g mk a) (Vm.Alike.refl U.vm) qE4, va_T.moved (u := U) (U := U.calling g mk a) (Vm.Alike.refl U.vm) qE5⟩, hrv, fun U hU hW => ⟨rfl, by rw [hU], by rw [hU]; exact hPc, va_K.moved hW.alike hKc, hDc.weaken (fun _ _ _ _ => trivial), vk_R.warm hW hE_32, va_Z.moved hW.alike (by rw [hU]; exact (hE_10.kept hS.2.1).narrow hFc), va_OF.moved hW.alike (by rw [hU]; exact (hE_34.kept hS.2.1).narrow hFc), va_O.moved hW.alike (by rw [hU]; exact (hE_33.kept hS.2.1).narrow hFc), va_OF.moved hW.alike (by rw [hU]; exact (hE_35.kept hS.2.1).narrow hFc), va_T.moved hW.alike (by rw [hU]; exact (hE_36.kept hS.2.1).narrow hFc)⟩⟩ rfl rfl hl.1 rfl (lv_room (Nat.le_of_ble_eq_true rfl)) dX4_readUnit_93 ⟨Nat.le_of_ble_eq_true rfl, Nat.le_of_ble_eq_true rfl⟩) hS (fun q _ h => hFc q h) hFc (fun u t H1 locs ht hvm hw hB hz1 hk1 hS => ?_)
        as_aux_lemma =>
        obtain ⟨x_108, x_109, x_110, w_111⟩ := u
        obtain ⟨hP1, hK1, hD1⟩ := hB
        rw [ht] at hP1
        obtain ⟨hP, hD⟩ := cl_put (w1 := (wd_c_X4_readUnit_2 h1 h1_0 h1_f1 x_108 x_109 h1_0 h1_0k h1_0c h0 h0_0 x_110 h0_2 h0_0 h0_0k w_111)) (nw := (wd_c_X4_readUnit_1 h1 h1_0 h1_f1 x_108 x_109 h1_0 h1_0k h1_0c h0 h0_0 x_110 h0_2 h0_0 h0_0k w_111)) hP hD [0, 1, 2, 3] [4, 5, 6, 7] 4 rfl hqc (by decide +kernel) rfl hk1 hFc hP1 hD1
        generalize H1 = H at hP hS ⊢
        as_aux_lemma =>
        rcases hw with ⟨h_112, h_113, h_114⟩
        refine lv_aload_n hx hb dX4_readUnit_96 rfl (lv_at hl 0 rfl) ?_
        refine lv_bipush (v := (-33)) hx hb dX4_readUnit_97 kc_bipush_m33 ?_
        obtain ⟨hPc, hDc, hFc, hqc⟩ := cl_cut (wc := (wd_c_X4_emit h0 h0_0 x_110 h0_2 h0_0 h0_0k w_111)) hP hD hS hA [2, 3] (by decide +kernel) rfl
        have hKc := hK.sub (tys' := [(h0_0k, .int)]) [1] rfl
        have hrv := va_recv hKc hPc (ci := 4) (q0 := 0) rfl rfl
        refine va_callv (va_runV (As := [.int (-33)]) (rest := []) ⟨hx, hb, hml, hown, hts⟩ (c_X4_emit l dC dI H.size h0 (-33) h0_0 x_110 h0_2 h0_0k w_111 h_114) (cwV 1 hts gf_c_X4_readUnit_1_c_X4_emit rfl rfl rfl mdV_X4_emit ⟨Nat.le_of_ble_eq_true rfl, Nat.le_of_ble_eq_true rfl⟩) ⟨fun a U g mk q => by obtain ⟨q0, q1, qP, qK, qD⟩ := q; exact ⟨q0, q1, qP, va_K.moved (u := U) (U := U.calling g mk a) (Vm.Alike.refl U.vm) qK, qD⟩, hrv, fun U hU hW => ⟨rfl, by rw [hU], by rw [hU]; exact hPc, va_K.moved hW.alike hKc, hDc.weaken (fun _ _ _ _ => trivial)⟩⟩ rfl rfl hl.1 rfl (lv_room (Nat.le_of_ble_eq_true rfl)) dX4_readUnit_99 ⟨Nat.le_of_ble_eq_true rfl, Nat.le_of_ble_eq_true rfl⟩) hS (fun q _ h => hFc q h) hFc (fun u t H1 locs ht hvm hw hB hz1 hk1 hS => ?_)
        obtain ⟨x_116, w_117⟩ := u
        obtain ⟨hP1, hK1, hD1⟩ := hB
        rw [ht] at hP1
        obtain ⟨hP, hD⟩ := cl_put (w1 := (wd_c_X4_emit h0 h0_0 x_116 h0_2 h0_0 h0_0k w_117)) (nw := (wd_c_X4_readUnit_1 h1 h1_0 h1_f1 x_108 x_109 h1_0 h1_0k h1_0c h0 h0_0 x_116 h0_2 h0_0 h0_0k w_117)) hP hD [2, 3] [0, 1, 4, 5] 4 rfl hqc (by decide +kernel) rfl hk1 hFc hP1 hD1
        generalize H1 = H at hP hS ⊢
        as_aux_lemma =>
        have h_118 := hw
        refine lv_goto (tgt := 126) hx hb dX4_readUnit_102 rfl ?_
        have hK9 := hK.sub (tys' := []) [] rfl
        exact W.vret hx hb hr (fun t ht hW => ⟨⟨(x_108, x_109, x_116, w_117), rfl, ⟨h_112, h_113, (RG_w h_118 (by decide +kernel))⟩, by rw [ht]; exact hP, va_K.moved hW.alike hK9, hD⟩, hS.F ht⟩) hS.2.2 dX4_readUnit_126
noncomputable def wd_c_X4_readCondition (a0 : Nat) (a1 : Nat) (a2 : Int32) (a3 : Int32) (a4 : Int32) (a5 : Nat) (a6 : ClassId) (a7 : Nat → Int32) (a8 : Nat) (a9 : Nat) (a10 : Int32) (a11 : Nat) (a12 : Nat) (a13 : ClassId) (a14 : Nat → Int32) : va_W := [(a0, .inr (9, [.ref a1, .int a2, .int a3, .int a4])), (a5, .inl (a6, 240, .inl a7)), (a8, .inr (4, [.ref a9, .int a10, .ref a11])), (a12, .inl (a13, 240, .inl a14))]
noncomputable def wf_c_X4_readCondition : List Cond := List.cons (.code yX4_readCondition cX4_readCondition 7 none) (@HAppend.hAppend (List Cond) (List Cond) (List Cond) _ (@HAppend.hAppend (List Cond) (List Cond) (List Cond) _ [.methodLink RX4 72 yX9_isRight, .instanceMethod yX9_isRight, .selects RX9 yX9_isRight yX9_isRight, .initialized RX9, .code yX9_isRight cX9_isRight 1 (some .boolean), .fieldLink RX9 15 "BuoyVote$Tape" "wrong" "I", .methodLink RX4 76 yX4_readUnit, .instanceMethod yX4_readUnit, .selects RX4 yX4_readUnit yX4_readUnit, .initialized RX4, .code yX4_readUnit cX4_readUnit 5 none, .methodLink RX4 41 yX9_peek, .instanceMethod yX9_peek, .selects RX9 yX9_peek yX9_peek, .code yX9_peek cX9_peek 1 (some .int), .fieldLink RX9 22 "BuoyVote$Tape" "at" "I", .fieldLink RX9 19 "BuoyVote$Tape" "length" "I", .fieldLink RX9 11 "BuoyVote$Tape" "bytes" "[I", .methodLink RX4 53 yX4_isComparison, .static yX4_isComparison, .code yX4_isComparison cX4_isComparison 1 (some .boolean), .methodLink RX4 82 yX9_refuseHere, .instanceMethod yX9_refuseHere, .selects RX9 yX9_refuseHere yX9_refuseHere, .code yX9_refuseHere cX9_refuseHere 1 none, .methodLink RX9 25 yX9_refuse, .instanceMethod yX9_refuse, .selects RX9 yX9_refuse yX9_refuse, .code yX9_refuse cX9_refuse 2 none, .methodLink RX4 79 yX9_skip, .instanceMethod yX9_skip, .selects RX9 yX9_skip yX9_skip, .code yX9_skip cX9_skip 1 none, .methodLink RX4 49 yX4_readSum, .instanceMethod yX4_readSum, .selects RX4 yX4_readSum yX4_readSum, .code yX4_readSum cX4_readSum 6 none, .methodLink RX4 85 yX4_readAtom, .instanceMethod yX4_readAtom, .selects RX4 yX4_readAtom yX4_readAtom, .code yX4_readAtom cX4_readAtom 6 none, .methodLink RX4 93 yJ0_indexOf_0f7a4, .instanceMethod yJ0_indexOf_0f7a4, .selects RJ0 yJ0_indexOf_0f7a4 yJ0_indexOf_0f7a4, .initialized RJ0, .code yJ0_indexOf_0f7a4 cJ0_indexOf_0f7a4 2 (some .int), .methodLink RJ0 633 yJ0_indexOf_7cf53, .instanceMethod yJ0_indexOf_7cf53, .selects RJ0 yJ0_indexOf_7cf53 yJ0_indexOf_7cf53, .code yJ0_indexOf_7cf53 cJ0_indexOf_7cf53 3 (some .int), .methodLink RJ0 492 yJ0_isLatin1_aae02, .instanceMethod yJ0_isLatin1_aae02, .selects RJ0 yJ0_isLatin1_aae02 yJ0_isLatin1_aae02, .code yJ0_isLatin1_aae02 cJ0_isLatin1_aae02 1 (some .boolean), .fieldLink RJ0 38 "java/lang/String" "COMPACT_STRINGS" "Z", .fieldLink RJ0 15 "java/lang/String" "coder" "B", .fieldLink RJ0 9 "java/lang/String" "value" "[B", .methodLink RJ0 505 yJ0_length_8abf5, .instanceMethod yJ0_length_8abf5, .selects RJ0 yJ0_length_8abf5 yJ0_length_8abf5, .code yJ0_length_8abf5 cJ0_length_8abf5 1 (some .int), .methodLink RJ0 335 yJ0_coder_7d493, .instanceMethod yJ0_coder_7d493, .selects RJ0 yJ0_coder_7d493 yJ0_coder_7d493, .code yJ0_coder_7d493 cJ0_coder_7d493 1 (some .byte), .methodLink RJ0 637 yJ1_indexOf_4cfef, .static yJ1_indexOf_4cfef, .initialized RJ1, .code yJ1_indexOf_4cfef cJ1_indexOf_4cfef 4 (some .int), .methodLink RJ1 88 yJ1_canEncode_9a6ad, .static yJ1_canEncode_9a6ad, .code yJ1_canEncode_9a6ad cJ1_canEncode_9a6ad 1 (some .boolean), .methodLink RJ1 92 Lib.Math.max.name, .static Lib.Math.max.name, .initialized "java/lang/Math", .code Lib.Math.max.name Lib.Math.max.code 2 (some .int), .methodLink RJ1 38 Lib.Math.min.name, .static Lib.Math.min.name, .code Lib.Math.min.name Lib.Math.min.code 2 (some .int), .methodLink RJ1 95 yJ1_indexOfChar_4cfef, .static yJ1_indexOfChar_4cfef, .code yJ1_indexOfChar_4cfef cJ1_indexOfChar_4cfef 6 (some .int), .methodLink RX4 99 yX9_number, .instanceMethod yX9_number, .selects RX9 yX9_number yX9_number, .code yX9_number cX9_number 4 (some .int), .methodLink RX4 60 yX4_emit, .instanceMethod yX4_emit, .selects RX4 yX4_emit yX4_emit, .code yX4_emit cX4_emit 2 none, .fieldLink RX4 20 "BuoyVote$Law" "length" "I", .fieldLink RX4 11 "BuoyVote$Law" "code" "[I", .methodLink RX4 88 yX9_takeEither, .instanceMethod yX9_takeEither, .selects RX9 yX9_takeEither yX9_takeEither, .code yX9_takeEither cX9_takeEither 4 (some .int), .methodLink RX9 29 yX9_peek, .methodLink RX4 37 yX9_expect, .instanceMethod yX9_expect, .selects RX9 yX9_expect yX9_expect, .code yX9_expect cX9_expect 2 none, .methodLink RX4 45 yX4_startsUnit, .static yX4_startsUnit, .code yX4_startsUnit cX4_startsUnit 1 (some .boolean), .methodLink RX4 63 yX9_take, .instanceMethod yX9_take, .selects RX9 yX9_take yX9_take, .code yX9_take cX9_take 2 (some .boolean), .methodLink RX4 56 yX4_readCondition, .instanceMethod yX4_readCondition, .selects RX4 yX4_readCondition yX4_readCondition] wsX90) wsX40)
theorem iw_c_X4_readCondition_X9 : ∀ w ∈ wsX90, w ∈ wf_c_X4_readCondition := fun w h => List.mem_cons_of_mem _ (List.mem_append_left _ (List.mem_append_right _ h))
theorem iw_c_X4_readCondition_X4 : ∀ w ∈ wsX40, w ∈ wf_c_X4_readCondition := fun w h => List.mem_cons_of_mem _ (List.mem_append_right _ h)
set_option maxRecDepth 20000 in
theorem gf_c_X4_readCondition_c_X9_take_1 : GoodIn wf_c_X4_readCondition (wsV RX4 63 RX9 yX9_take wf_c_X9_take_1) := goodIn_app (gi_l [105, 106, 107, 4] rfl rfl) (gi_cons (j := 108) rfl rfl (goodIn_app (gi_l [6, 97, 13, 14, 4, 15, 16, 17, 18] rfl rfl) (goodIn_sub iw_c_X4_readCondition_X9 gw_X9)))
set_option maxRecDepth 20000 in
theorem gf_c_X4_readCondition_c_X9_take : GoodIn wf_c_X4_readCondition (wsV RX4 63 RX9 yX9_take wf_c_X9_take) := goodIn_app (gi_l [105, 106, 107, 4] rfl rfl) (gi_cons (j := 108) rfl rfl (goodIn_app (gi_l [6, 97, 13, 14, 4, 15, 16, 17, 18] rfl rfl) (goodIn_sub iw_c_X4_readCondition_X9 gw_X9)))
set_option maxRecDepth 20000 in
theorem gf_c_X4_readCondition_c_X4_emit : GoodIn wf_c_X4_readCondition (wsV RX4 60 RX4 yX4_emit wf_c_X4_emit) := goodIn_app (gi_l [87, 88, 89, 10] rfl rfl) (gi_cons (j := 90) rfl rfl (goodIn_app (gi_l [91, 92] rfl rfl) (goodIn_sub iw_c_X4_readCondition_X4 gw_X4)))
set_option maxRecDepth 20000 in
theorem gf_c_X4_readCondition_c_X4_readUnit_1 : GoodIn wf_c_X4_readCondition (wsV RX4 76 RX4 yX4_readUnit wf_c_X4_readUnit_1) := goodIn_app (gi_l [7, 8, 9, 10] rfl rfl) (gi_cons (j := 11) rfl rfl (goodIn_app (goodIn_app (gi_l [12, 13, 14, 4, 15, 16, 17, 18, 102, 103, 10, 104, 105, 106, 107, 108, 6, 97, 98, 99, 100, 101, 26, 27, 28, 29, 109, 110, 111, 0, 1, 2, 3, 5, 7, 8, 9, 22, 23, 24, 25, 34, 35, 36, 37, 38, 39, 40, 41, 42, 43, 44, 45, 46, 47, 48, 49, 50, 51, 52, 53, 54, 55, 56, 57, 58, 59, 60, 61, 62, 63, 64, 65, 66, 67, 68, 69, 70, 71, 72, 73, 74, 75, 76, 77, 78, 79, 80, 81, 82, 83, 84, 85, 86, 30, 31, 32, 33, 87, 88, 89, 90, 91, 92, 93, 94, 95, 96, 19, 20, 21] rfl rfl) (goodIn_sub iw_c_X4_readCondition_X9 gw_X9)) (goodIn_sub iw_c_X4_readCondition_X4 gw_X4)))
set_option maxRecDepth 20000 in
theorem gf_c_X4_readCondition_c_X4_readUnit : GoodIn wf_c_X4_readCondition (wsV RX4 76 RX4 yX4_readUnit wf_c_X4_readUnit) := goodIn_app (gi_l [7, 8, 9, 10] rfl rfl) (gi_cons (j := 11) rfl rfl (goodIn_app (goodIn_app (gi_l [12, 13, 14, 4, 15, 16, 17, 18, 19, 20, 10, 21, 22, 23, 24, 25, 26, 27, 28, 29, 6, 30, 31, 32, 33, 34, 35, 36, 37, 1, 2, 3, 5, 38, 39, 40, 41, 42, 43, 44, 45, 46, 47, 48, 49, 50, 51, 52, 53, 54, 55, 56, 57, 58, 59, 60, 61, 62, 63, 64, 65, 66, 67, 68, 69, 70, 71, 72, 73, 74, 75, 76, 77, 78, 79, 80, 81, 82, 83, 84, 85, 86, 87, 88, 89, 90, 91, 92, 93, 94, 95, 96, 97, 98, 99, 100, 101] rfl rfl) (goodIn_sub iw_c_X4_readCondition_X9 gw_X9)) (goodIn_sub iw_c_X4_readCondition_X4 gw_X4)))
set_option maxRecDepth 20000 in
theorem gf_c_X4_readCondition_c_X9_isRight : GoodIn wf_c_X4_readCondition (wsV RX4 72 RX9 yX9_isRight wf_c_X9_isRight) := goodIn_app (gi_l [1, 2, 3, 4] rfl rfl) (gi_cons (j := 5) rfl rfl (goodIn_app (gi_l [6] rfl rfl) (goodIn_sub iw_c_X4_readCondition_X9 gw_X9)))
set_option maxHeartbeats 4000000 in
set_option maxRecDepth 100000 in
theorem c_X4_readCondition (l : Launch) (dC : Nat → ClassId) (dI : Nat → Nat → Nat) (sz : Nat) (h0 : Nat) (h1 : Nat) (p3 : Int32) (h1_0 : Nat) (h1_f1 : Int32) (h1_f2 : Int32) (h1_f3 : Int32) (h1_0k : ClassId) (h1_0c : Nat → Int32) (h0_0 : Nat) (h0_f1 : Int32) (h0_2 : Nat) (h0_0k : ClassId) (h0_0c : Nat → Int32) (ts4 : Nat) (tv4 : Nat) (g_p3 : RG p3 0 1) (g_h1_f1 : RG h1_f1 0 240) (g_h1_f2 : RG h1_f2 0 240) (g_h1_f3 : RG h1_f3 (-1) 240) (a_h1_0c : AI h1_0c 0 255) (g_h0_f1 : RG h0_f1 0 240) : Met l yX4_readCondition wf_c_X4_readCondition ({ frames := 19, cells := 0, slots := 0, locals := 465 }) (va_Pc [.ref h0, .ref h1, .int 0, .int p3] (fun U => U.heap.size = sz ∧ va_P (dC, dI) vwCl (wd_c_X4_readCondition h1 h1_0 h1_f1 h1_f2 h1_f3 h1_0 h1_0k h1_0c h0 h0_0 h0_f1 h0_2 h0_0 h0_0k h0_0c) U.heap ∧ va_K (dC, dI) vwCl [(h1_0k, .int), (h0_0k, .int)] U ∧ va_D (fun _ => True) (wd_c_X4_readCondition h1 h1_0 h1_f1 h1_f2 h1_f3 h1_0 h1_0k h1_0c h0 h0_0 h0_f1 h0_2 h0_0 h0_0k h0_0c) ∧ vk_R RX4 91 "vlrdph" ts4 U ∧ va_Z "java/lang/String" "COMPACT_STRINGS" "Z" (.int 1) (va_A (wd_c_X4_readCondition h1 h1_0 h1_f1 h1_f2 h1_f3 h1_0 h1_0k h1_0c h0 h0_0 h0_f1 h0_2 h0_0 h0_0k h0_0c) sz) U U.heap ∧ va_OF "java/lang/String" "coder" "B" (.int 0) ts4 (va_A (wd_c_X4_readCondition h1 h1_0 h1_f1 h1_f2 h1_f3 h1_0 h1_0k h1_0c h0 h0_0 h0_f1 h0_2 h0_0 h0_0k h0_0c) sz) U U.heap ∧ va_O "java/lang/String" ts4 (va_A (wd_c_X4_readCondition h1 h1_0 h1_f1 h1_f2 h1_f3 h1_0 h1_0k h1_0c h0 h0_0 h0_f1 h0_2 h0_0 h0_0k h0_0c) sz) U U.heap ∧ va_OF "java/lang/String" "value" "[B" (.ref tv4) ts4 (va_A (wd_c_X4_readCondition h1 h1_0 h1_f1 h1_f2 h1_f3 h1_0 h1_0k h1_0c h0 h0_0 h0_f1 h0_2 h0_0 h0_0k h0_0c) sz) U U.heap ∧ va_T .byte tv4 6 (fun j => .int ([118, 108, 114, 100, 112, 104].getD j 0)) (va_A (wd_c_X4_readCondition h1 h1_0 h1_f1 h1_f2 h1_f3 h1_0 h1_0k h1_0c h0 h0_0 h0_f1 h0_2 h0_0 h0_0k h0_0c) sz) U U.heap)) (va_Qv (fun (u : (Int32) × (Int32) × (Int32) × (Nat → Int32)) => (RG u.1 0 240 ∧ RG u.2.1 (-1) 240 ∧ RG u.2.2.1 0 240)) (fun (u : (Int32) × (Int32) × (Int32) × (Nat → Int32)) t => va_P (dC, dI) vwCl (wd_c_X4_readCondition h1 h1_0 h1_f1 (u.1) (u.2.1) h1_0 h1_0k h1_0c h0 h0_0 (u.2.2.1) h0_2 h0_0 h0_0k (u.2.2.2)) t.heap ∧ va_K (dC, dI) vwCl [] t ∧ va_D (va_A (wd_c_X4_readCondition h1 h1_0 h1_f1 h1_f2 h1_f3 h1_0 h1_0k h1_0c h0 h0_0 h0_f1 h0_2 h0_0 h0_0k h0_0c) sz) (wd_c_X4_readCondition h1 h1_0 h1_f1 (u.1) (u.2.1) h1_0 h1_0k h1_0c h0 h0_0 (u.2.2.1) h0_2 h0_0 h0_0k (u.2.2.2))) (va_A (wd_c_X4_readCondition h1 h1_0 h1_f1 h1_f2 h1_f3 h1_0 h1_0k h1_0c h0 h0_0 h0_f1 h0_2 h0_0 h0_0k h0_0c) sz)) 0 0 (va_A (wd_c_X4_readCondition h1 h1_0 h1_f1 h1_f2 h1_f3 h1_0 h1_0k h1_0c h0 h0_0 h0_f1 h0_2 h0_0 h0_0k h0_0c) sz) := by
  refine Met.ofW (cc := cX4_readCondition) (maxL := 7) (ret := none) (by decide +kernel) rfl ?_
  intro p e s m args below meth c s₁ B hml hv
  obtain ⟨rfl, hsz, hP, hK, hD0, hE_32, hE_10, hE_34, hE_33, hE_35, hE_36⟩ := hv
  have hx := B.exec
  have hb := B.bytes
  have hr := B.returns
  have hts := atoms_spec (ws := wf_c_X4_readCondition) B.pre
  have hown : s.vm.findClass RX4 = some m.cls := findClass_of_methodNamed B.named
  have hlocks := B.notSynchronized
  subst hsz
  have hD := hD0.self (sz := s.heap.size)
  generalize hAe : va_A (wd_c_X4_readCondition h1 h1_0 h1_f1 h1_f2 h1_f3 h1_0 h1_0k h1_0c h0 h0_0 h0_f1 h0_2 h0_0 h0_0k h0_0c) s.heap.size = A at hD hE_10 hE_34 hE_33 hE_35 hE_36 ⊢
  have hA : ∀ q : Nat, s.heap.size ≤ q → A q := fun q h => by rw [← hAe]; exact Or.inr h
  have hP : va_P (dC, dI) vwCl (wd_c_X4_readCondition h1 h1_0 h1_f1 h1_f2 h1_f3 h1_0 h1_0k h1_0c h0 h0_0 h0_f1 h0_2 h0_0 h0_0k h0_0c) s.heap := hP
  have hl := lv_entry ([.ref h0, .ref h1, .int 0, .int p3]) (n := 7) (Nat.le_of_ble_eq_true rfl)
  rw [lg_entry_eq]
  generalize (lg_sl ([.ref h0, .ref h1, .int 0, .int p3]) ++ List.replicate (7 - (lg_sl ([.ref h0, .ref h1, .int 0, .int p3])).length) Slot.unset).toArray = ls at hl ⊢
  have hl : lv_has ls 7 [(0, .ref h0), (1, .ref h1), (2, .int 0), (3, .int p3)] := hl
  obtain ⟨H, hHe⟩ : ∃ H : Heap, s.heap = H := ⟨_, rfl⟩
  have hS : va_S A s.heap H [] := by rw [hHe]; exact va_S.rf
  have hP : va_P (dC, dI) vwCl (wd_c_X4_readCondition h1 h1_0 h1_f1 h1_f2 h1_f3 h1_0 h1_0k h1_0c h0 h0_0 h0_f1 h0_2 h0_0 h0_0k h0_0c) H := by rw [← hHe]; exact hP
  rw [hHe]
  refine wj (fun G hG hU => ?_)
  as_aux_lemma =>
  have J9 : ∀ (n9 : Nat) (j9_l6 : Int32) (j9_l5 : Int32) (j9_l4 : Int32) (j9_h1_f2 : Int32) (j9_h1_f3 : Int32) (j9_h0_f1 : Int32) (j9_h0_0c : Nat → Int32) (hM9 : MU j9_l6 < n9) (g_h0_f1 : RG h0_f1 0 240) (g_h1_f1 : RG h1_f1 0 240) (g_h1_f2 : RG h1_f2 0 240) (g_h1_f3 : RG h1_f3 (-1) 240) (g_j9_h0_f1 : RG j9_h0_f1 0 240) (g_j9_h1_f2 : RG j9_h1_f2 0 240) (g_j9_h1_f3 : RG j9_h1_f3 (-1) 240) (g_j9_l4 : RG j9_l4 0 1) (g_j9_l5 : RG j9_l5 0 1) (g_j9_l6 : RG j9_l6 0 240) (g_p3 : RG p3 0 1) (H : Heap) (locs : List Loc) (ls : Array Slot) (hP : va_P (dC, dI) vwCl (wd_c_X4_readCondition h1 h1_0 h1_f1 j9_h1_f2 j9_h1_f3 h1_0 h1_0k h1_0c h0 h0_0 j9_h0_f1 h0_2 h0_0 h0_0k j9_h0_0c) H) (hD : va_D A (wd_c_X4_readCondition h1 h1_0 h1_f1 j9_h1_f2 j9_h1_f3 h1_0 h1_0k h1_0c h0 h0_0 j9_h0_f1 h0_2 h0_0 h0_0k j9_h0_0c)) (hS : va_S A s.heap H locs) (hl : lv_has ls 7 [(6, .int j9_l6), (5, .int j9_l5), (4, .int j9_l4), (0, .ref h0), (1, .ref h1), (2, .int 0), (3, .int p3)]), G H locs (F0 m 9 ls []) := by
    as_aux_lemma =>
    intro n9
    induction n9 with
    | zero => intros; exact absurd (by assumption) (Nat.not_lt_zero _)
    | succ n9 ih9 =>
      intro j9_l6 j9_l5 j9_l4 j9_h1_f2 j9_h1_f3 j9_h0_f1 j9_h0_0c hM9 g_h0_f1 g_h1_f1 g_h1_f2 g_h1_f3 g_j9_h0_f1 g_j9_h1_f2 g_j9_h1_f3 g_j9_l4 g_j9_l5 g_j9_l6 g_p3 H locs ls hP hD hS hl
      have J93 : ∀ (j93_l4 : Int32) (j93_l5 : Int32) (j93_h1_f2 : Int32) (j93_h1_f3 : Int32) (j93_h0_f1 : Int32) (j93_h0_0c : Nat → Int32) (g_h0_f1 : RG h0_f1 0 240) (g_h1_f1 : RG h1_f1 1 240) (g_h1_f2 : RG h1_f2 0 240) (g_h1_f3 : RG h1_f3 (-1) 240) (g_j93_h0_f1 : RG j93_h0_f1 0 240) (g_j93_h1_f2 : RG j93_h1_f2 1 240) (g_j93_h1_f3 : RG j93_h1_f3 (-1) (-1)) (g_j93_l4 : RG j93_l4 0 1) (g_j93_l5 : RG j93_l5 0 1) (g_j9_h0_f1 : RG j9_h0_f1 0 240) (g_j9_h1_f2 : RG j9_h1_f2 0 240) (g_j9_h1_f3 : RG j9_h1_f3 (-1) (-1)) (g_j9_l4 : RG j9_l4 0 1) (g_j9_l5 : RG j9_l5 0 1) (g_j9_l6 : RG j9_l6 0 239) (g_p3 : RG p3 0 1) (H : Heap) (locs : List Loc) (ls : Array Slot) (hP : va_P (dC, dI) vwCl (wd_c_X4_readCondition h1 h1_0 h1_f1 j93_h1_f2 j93_h1_f3 h1_0 h1_0k h1_0c h0 h0_0 j93_h0_f1 h0_2 h0_0 h0_0k j93_h0_0c) H) (hD : va_D A (wd_c_X4_readCondition h1 h1_0 h1_f1 j93_h1_f2 j93_h1_f3 h1_0 h1_0k h1_0c h0 h0_0 j93_h0_f1 h0_2 h0_0 h0_0k j93_h0_0c)) (hS : va_S A s.heap H locs) (hl : lv_has ls 7 [(4, .int j93_l4), (6, .int j9_l6), (5, .int j93_l5), (0, .ref h0), (1, .ref h1), (2, .int 0), (3, .int p3)]), G H locs (F0 m 93 ls []) := by
        as_aux_lemma =>
        intro j93_l4 j93_l5 j93_h1_f2 j93_h1_f3 j93_h0_f1 j93_h0_0c g_h0_f1 g_h1_f1 g_h1_f2 g_h1_f3 g_j93_h0_f1 g_j93_h1_f2 g_j93_h1_f3 g_j93_l4 g_j93_l5 g_j9_h0_f1 g_j9_h1_f2 g_j9_h1_f3 g_j9_l4 g_j9_l5 g_j9_l6 g_p3 H locs ls hP hD hS hl
        refine hG _ _ _ ?_
        obtain ⟨x_1, ex_1⟩ : ∃ y : Int32, y = j9_l6 + 1 := ⟨_, rfl⟩
        have g_2 : RG x_1 1 240 := RG_add ex_1 g_j9_l6 (RG_k 1 1 rfl) (by decide +kernel)
        refine lv_iinc (v := x_1) (lv' := [(6, .int x_1), (4, .int j93_l4), (5, .int j93_l5), (0, .ref h0), (1, .ref h1), (2, .int 0), (3, .int p3)]) hx hb dX4_readCondition_93 hl (k := 1) rfl (by rw [ex_1]; rfl) (Nat.le_of_ble_eq_true rfl) rfl (fun ls hl => ?_)
        refine lv_goto (tgt := 9) hx hb dX4_readCondition_96 rfl ?_
        exact hU _ _ _ (ih9 x_1 j93_l5 j93_l4 j93_h1_f2 j93_h1_f3 j93_h0_f1 j93_h0_0c (mu_s (MU_add ex_1 g_j9_l6 (q := 1) rfl (by decide +kernel)) hM9) g_h0_f1 (RG_w g_h1_f1 (by decide +kernel)) g_h1_f2 g_h1_f3 g_j93_h0_f1 (RG_w g_j93_h1_f2 (by decide +kernel)) (RG_w g_j93_h1_f3 (by decide +kernel)) g_j93_l4 g_j93_l5 (RG_w g_2 (by decide +kernel)) g_p3 _ _ _ hP hD hS (lv_sub hl [0, 2, 1, 3, 4, 5, 6] rfl))
      have J79 : ∀ (j79_h1_f2 : Int32) (j79_h1_f3 : Int32) (j79_h0_f1 : Int32) (j79_h0_0c : Nat → Int32) (g_h0_f1 : RG h0_f1 0 240) (g_h1_f1 : RG h1_f1 0 240) (g_h1_f2 : RG h1_f2 0 240) (g_h1_f3 : RG h1_f3 (-1) 240) (g_j79_h0_f1 : RG j79_h0_f1 0 240) (g_j79_h1_f2 : RG j79_h1_f2 0 240) (g_j79_h1_f3 : RG j79_h1_f3 (-1) 240) (g_j9_h0_f1 : RG j9_h0_f1 0 240) (g_j9_h1_f2 : RG j9_h1_f2 0 240) (g_j9_h1_f3 : RG j9_h1_f3 (-1) (-1)) (g_j9_l4 : RG j9_l4 0 1) (g_j9_l5 : RG j9_l5 0 1) (g_j9_l6 : RG j9_l6 0 239) (g_p3 : RG p3 0 1) (H : Heap) (locs : List Loc) (ls : Array Slot) (hP : va_P (dC, dI) vwCl (wd_c_X4_readCondition h1 h1_0 h1_f1 j79_h1_f2 j79_h1_f3 h1_0 h1_0k h1_0c h0 h0_0 j79_h0_f1 h0_2 h0_0 h0_0k j79_h0_0c) H) (hD : va_D A (wd_c_X4_readCondition h1 h1_0 h1_f1 j79_h1_f2 j79_h1_f3 h1_0 h1_0k h1_0c h0 h0_0 j79_h0_f1 h0_2 h0_0 h0_0k j79_h0_0c)) (hS : va_S A s.heap H locs) (hl : lv_has ls 7 [(4, .int 0), (6, .int j9_l6), (0, .ref h0), (1, .ref h1), (2, .int 0), (3, .int p3)]), G H locs (F0 m 79 ls []) := by
        as_aux_lemma =>
        intro j79_h1_f2 j79_h1_f3 j79_h0_f1 j79_h0_0c g_h0_f1 g_h1_f1 g_h1_f2 g_h1_f3 g_j79_h0_f1 g_j79_h1_f2 g_j79_h1_f3 g_j9_h0_f1 g_j9_h1_f2 g_j9_h1_f3 g_j9_l4 g_j9_l5 g_j9_l6 g_p3 H locs ls hP hD hS hl
        refine hG _ _ _ ?_
        refine lv_aload_n hx hb dX4_readCondition_79 rfl (lv_at hl 3 rfl) ?_
        refine lv_bipush (v := 124) hx hb dX4_readCondition_80 kc_bipush_124 ?_
        obtain ⟨hPc, hDc, hFc, hqc⟩ := cl_cut (wc := (wd_c_X9_take_1 h1 h1_0 h1_f1 j79_h1_f2 j79_h1_f3 h1_0 h1_0k h1_0c)) hP hD hS hA [0, 1] (by decide +kernel) rfl
        have hKc := hK.sub (tys' := [(h1_0k, .int)]) [0] rfl
        have hrv := va_recv hKc hPc (ci := 9) (q0 := 0) rfl rfl
        refine va_calli (va_runV (As := [.int 124]) (rest := []) ⟨hx, hb, hml, hown, hts⟩ (c_X9_take_1 l dC dI H.size h1 124 h1_0 h1_f1 j79_h1_f2 j79_h1_f3 h1_0k h1_0c (RG_w (RG_k 124 124 rfl) (by decide +kernel)) g_h1_f1 g_j79_h1_f2 g_j79_h1_f3 a_h1_0c) (cwV 1 hts gf_c_X4_readCondition_c_X9_take_1 rfl rfl rfl mdV_X9_take ⟨Nat.le_of_ble_eq_true rfl, Nat.le_of_ble_eq_true rfl⟩) ⟨fun a U g mk q => by obtain ⟨q0, q1, qP, qK, qD⟩ := q; exact ⟨q0, q1, qP, va_K.moved (u := U) (U := U.calling g mk a) (Vm.Alike.refl U.vm) qK, qD⟩, hrv, fun U hU hW => ⟨rfl, by rw [hU], by rw [hU]; exact hPc, va_K.moved hW.alike hKc, hDc.weaken (fun _ _ _ _ => trivial)⟩⟩ rfl rfl hl.1 rfl (lv_room (Nat.le_of_ble_eq_true rfl)) dX4_readCondition_82 ⟨Nat.le_of_ble_eq_true rfl, Nat.le_of_ble_eq_true rfl⟩) hS (fun q _ h => hFc q h) hFc (fun r_3 x_4 t H1 locs ht hvm hw hB hz1 hk1 hS => ?_)
        obtain ⟨hP1, hK1, hD1⟩ := hB
        rw [ht] at hP1
        obtain ⟨hP, hD⟩ := cl_put (w1 := (wd_c_X9_take_1 h1 h1_0 h1_f1 x_4 j79_h1_f3 h1_0 h1_0k h1_0c)) (nw := (wd_c_X4_readCondition h1 h1_0 h1_f1 x_4 j79_h1_f3 h1_0 h1_0k h1_0c h0 h0_0 j79_h0_f1 h0_2 h0_0 h0_0k j79_h0_0c)) hP hD [0, 1] [4, 5, 2, 3] 4 rfl hqc (by decide +kernel) rfl hk1 hFc hP1 hD1
        generalize H1 = H at hP hS ⊢
        as_aux_lemma =>
        rcases hw with ⟨h_5, h_6, h_7⟩ | ⟨h_8, h_9, h_10, h_11, h_12⟩
        · rw [h_5]
          refine lv_istore (lv' := [(5, .int 0), (4, .int 0), (6, .int j9_l6), (0, .ref h0), (1, .ref h1), (2, .int 0), (3, .int p3)]) hx hb dX4_readCondition_85 hl (Nat.le_of_ble_eq_true rfl) rfl (fun ls hl => ?_)
          refine lv_iload hx hb dX4_readCondition_87 (lv_at hl 0 rfl) ?_
          refine lv_if_ne (tgt := 93) hx hb dX4_readCondition_89 rfl (fun c_13 => absurd c_13 (by decide +kernel)) (fun c_13 => ?_)
          have hK9 := hK.sub (tys' := []) [] rfl
          exact W.vret hx hb hr (fun t ht hW => ⟨⟨(x_4, j79_h1_f3, j79_h0_f1, j79_h0_0c), rfl, ⟨h_6, g_j79_h1_f3, g_j79_h0_f1⟩, by rw [ht]; exact hP, va_K.moved hW.alike hK9, hD⟩, hS.F ht⟩) hS.2.2 dX4_readCondition_92
        · rw [h_8]
          refine lv_istore (lv' := [(5, .int 1), (4, .int 0), (6, .int j9_l6), (0, .ref h0), (1, .ref h1), (2, .int 0), (3, .int p3)]) hx hb dX4_readCondition_85 hl (Nat.le_of_ble_eq_true rfl) rfl (fun ls hl => ?_)
          refine lv_iload hx hb dX4_readCondition_87 (lv_at hl 0 rfl) ?_
          refine lv_if_ne (tgt := 93) hx hb dX4_readCondition_89 rfl (fun c_14 => ?_) (fun c_14 => absurd c_14 (by decide +kernel))
          exact hU _ _ _ (J93 0 1 x_4 j79_h1_f3 j79_h0_f1 j79_h0_0c g_h0_f1 h_10 g_h1_f2 g_h1_f3 g_j79_h0_f1 h_9 h_11 (RG_w (RG_k 0 0 rfl) (by decide +kernel)) (RG_w (RG_k 1 1 rfl) (by decide +kernel)) g_j9_h0_f1 g_j9_h1_f2 g_j9_h1_f3 g_j9_l4 g_j9_l5 g_j9_l6 g_p3 _ _ _ hP hD hS (lv_sub hl [1, 2, 0, 3, 4, 5, 6] rfl))
      have J55 : ∀ (j55_h1_f2 : Int32) (j55_h1_f3 : Int32) (j55_h0_f1 : Int32) (j55_h0_0c : Nat → Int32) (g_h0_f1 : RG h0_f1 0 240) (g_h1_f1 : RG h1_f1 0 240) (g_h1_f2 : RG h1_f2 0 240) (g_h1_f3 : RG h1_f3 (-1) 240) (g_j55_h0_f1 : RG j55_h0_f1 0 240) (g_j55_h1_f2 : RG j55_h1_f2 0 240) (g_j55_h1_f3 : RG j55_h1_f3 (-1) 240) (g_j9_h0_f1 : RG j9_h0_f1 0 240) (g_j9_h1_f2 : RG j9_h1_f2 0 240) (g_j9_h1_f3 : RG j9_h1_f3 (-1) (-1)) (g_j9_l4 : RG j9_l4 0 1) (g_j9_l5 : RG j9_l5 0 1) (g_j9_l6 : RG j9_l6 0 239) (g_p3 : RG p3 0 1) (H : Heap) (locs : List Loc) (ls : Array Slot) (hP : va_P (dC, dI) vwCl (wd_c_X4_readCondition h1 h1_0 h1_f1 j55_h1_f2 j55_h1_f3 h1_0 h1_0k h1_0c h0 h0_0 j55_h0_f1 h0_2 h0_0 h0_0k j55_h0_0c) H) (hD : va_D A (wd_c_X4_readCondition h1 h1_0 h1_f1 j55_h1_f2 j55_h1_f3 h1_0 h1_0k h1_0c h0 h0_0 j55_h0_f1 h0_2 h0_0 h0_0k j55_h0_0c)) (hS : va_S A s.heap H locs) (hl : lv_has ls 7 [(6, .int j9_l6), (5, .int j9_l5), (0, .ref h0), (1, .ref h1), (2, .int 0), (3, .int p3)]), G H locs (F0 m 55 ls []) := by
        as_aux_lemma =>
        intro j55_h1_f2 j55_h1_f3 j55_h0_f1 j55_h0_0c g_h0_f1 g_h1_f1 g_h1_f2 g_h1_f3 g_j55_h0_f1 g_j55_h1_f2 g_j55_h1_f3 g_j9_h0_f1 g_j9_h1_f2 g_j9_h1_f3 g_j9_l4 g_j9_l5 g_j9_l6 g_p3 H locs ls hP hD hS hl
        refine hG _ _ _ ?_
        refine lv_aload_n hx hb dX4_readCondition_55 rfl (lv_at hl 3 rfl) ?_
        refine lv_bipush (v := 38) hx hb dX4_readCondition_56 kc_bipush_38 ?_
        obtain ⟨hPc, hDc, hFc, hqc⟩ := cl_cut (wc := (wd_c_X9_take h1 h1_0 h1_f1 j55_h1_f2 j55_h1_f3 h1_0 h1_0k h1_0c)) hP hD hS hA [0, 1] (by decide +kernel) rfl
        have hKc := hK.sub (tys' := [(h1_0k, .int)]) [0] rfl
        have hrv := va_recv hKc hPc (ci := 9) (q0 := 0) rfl rfl
        refine va_calli (va_runV (As := [.int 38]) (rest := []) ⟨hx, hb, hml, hown, hts⟩ (c_X9_take l dC dI H.size h1 38 h1_0 h1_f1 j55_h1_f2 j55_h1_f3 h1_0k h1_0c (RG_w (RG_k 38 38 rfl) (by decide +kernel)) g_h1_f1 g_j55_h1_f2 g_j55_h1_f3 a_h1_0c) (cwV 1 hts gf_c_X4_readCondition_c_X9_take rfl rfl rfl mdV_X9_take ⟨Nat.le_of_ble_eq_true rfl, Nat.le_of_ble_eq_true rfl⟩) ⟨fun a U g mk q => by obtain ⟨q0, q1, qP, qK, qD⟩ := q; exact ⟨q0, q1, qP, va_K.moved (u := U) (U := U.calling g mk a) (Vm.Alike.refl U.vm) qK, qD⟩, hrv, fun U hU hW => ⟨rfl, by rw [hU], by rw [hU]; exact hPc, va_K.moved hW.alike hKc, hDc.weaken (fun _ _ _ _ => trivial)⟩⟩ rfl rfl hl.1 rfl (lv_room (Nat.le_of_ble_eq_true rfl)) dX4_readCondition_58 ⟨Nat.le_of_ble_eq_true rfl, Nat.le_of_ble_eq_true rfl⟩) hS (fun q _ h => hFc q h) hFc (fun r_15 x_16 t H1 locs ht hvm hw hB hz1 hk1 hS => ?_)
        obtain ⟨hP1, hK1, hD1⟩ := hB
        rw [ht] at hP1
        obtain ⟨hP, hD⟩ := cl_put (w1 := (wd_c_X9_take h1 h1_0 h1_f1 x_16 j55_h1_f3 h1_0 h1_0k h1_0c)) (nw := (wd_c_X4_readCondition h1 h1_0 h1_f1 x_16 j55_h1_f3 h1_0 h1_0k h1_0c h0 h0_0 j55_h0_f1 h0_2 h0_0 h0_0k j55_h0_0c)) hP hD [0, 1] [4, 5, 2, 3] 4 rfl hqc (by decide +kernel) rfl hk1 hFc hP1 hD1
        generalize H1 = H at hP hS ⊢
        as_aux_lemma =>
        rcases hw with ⟨h_17, h_18, h_19⟩ | ⟨h_20, h_21, h_22, h_23, h_24⟩
        · rw [h_17]
          refine lv_istore (lv' := [(4, .int 0), (6, .int j9_l6), (5, .int j9_l5), (0, .ref h0), (1, .ref h1), (2, .int 0), (3, .int p3)]) hx hb dX4_readCondition_61 hl (Nat.le_of_ble_eq_true rfl) rfl (fun ls hl => ?_)
          refine lv_iload hx hb dX4_readCondition_63 (lv_at hl 0 rfl) ?_
          refine lv_if_ne (tgt := 93) hx hb dX4_readCondition_65 rfl (fun c_25 => absurd c_25 (by decide +kernel)) (fun c_25 => ?_)
          refine lv_iload hx hb dX4_readCondition_68 (lv_at hl 2 rfl) ?_
          refine lv_if_eq (tgt := 79) hx hb dX4_readCondition_70 rfl (fun c_26 => ?_) (fun c_26 => ?_)
          · have g_27 : RG j9_l5 0 0 := RG_eq1 g_j9_l5 (RG_k 0 0 rfl) c_26 (by decide +kernel)
            exact hU _ _ _ (J79 x_16 j55_h1_f3 j55_h0_f1 j55_h0_0c g_h0_f1 g_h1_f1 g_h1_f2 g_h1_f3 g_j55_h0_f1 h_18 g_j55_h1_f3 g_j9_h0_f1 g_j9_h1_f2 g_j9_h1_f3 g_j9_l4 (RG_w g_27 (by decide +kernel)) g_j9_l6 g_p3 _ _ _ hP hD hS (lv_sub hl [0, 1, 3, 4, 5, 6] rfl))
          · have g_28 : RG j9_l5 1 1 := RG_ne1 g_j9_l5 (q := 0) rfl c_26 (by decide +kernel)
            refine lv_aload_n hx hb dX4_readCondition_73 rfl (lv_at hl 3 rfl) ?_
            refine lv_bipush (v := (-124)) hx hb dX4_readCondition_74 kc_bipush_m124 ?_
            obtain ⟨hPc, hDc, hFc, hqc⟩ := cl_cut (wc := (wd_c_X4_emit h0 h0_0 j55_h0_f1 h0_2 h0_0 h0_0k j55_h0_0c)) hP hD hS hA [2, 3] (by decide +kernel) rfl
            have hKc := hK.sub (tys' := [(h0_0k, .int)]) [1] rfl
            have hrv := va_recv hKc hPc (ci := 4) (q0 := 0) rfl rfl
            refine va_callv (va_runV (As := [.int (-124)]) (rest := []) ⟨hx, hb, hml, hown, hts⟩ (c_X4_emit l dC dI H.size h0 (-124) h0_0 j55_h0_f1 h0_2 h0_0k j55_h0_0c g_j55_h0_f1) (cwV 1 hts gf_c_X4_readCondition_c_X4_emit rfl rfl rfl mdV_X4_emit ⟨Nat.le_of_ble_eq_true rfl, Nat.le_of_ble_eq_true rfl⟩) ⟨fun a U g mk q => by obtain ⟨q0, q1, qP, qK, qD⟩ := q; exact ⟨q0, q1, qP, va_K.moved (u := U) (U := U.calling g mk a) (Vm.Alike.refl U.vm) qK, qD⟩, hrv, fun U hU hW => ⟨rfl, by rw [hU], by rw [hU]; exact hPc, va_K.moved hW.alike hKc, hDc.weaken (fun _ _ _ _ => trivial)⟩⟩ rfl rfl hl.1 rfl (lv_room (Nat.le_of_ble_eq_true rfl)) dX4_readCondition_76 ⟨Nat.le_of_ble_eq_true rfl, Nat.le_of_ble_eq_true rfl⟩) hS (fun q _ h => hFc q h) hFc (fun u t H1 locs ht hvm hw hB hz1 hk1 hS => ?_)
            as_aux_lemma =>
            obtain ⟨x_30, w_31⟩ := u
            obtain ⟨hP1, hK1, hD1⟩ := hB
            rw [ht] at hP1
            obtain ⟨hP, hD⟩ := cl_put (w1 := (wd_c_X4_emit h0 h0_0 x_30 h0_2 h0_0 h0_0k w_31)) (nw := (wd_c_X4_readCondition h1 h1_0 h1_f1 x_16 j55_h1_f3 h1_0 h1_0k h1_0c h0 h0_0 x_30 h0_2 h0_0 h0_0k w_31)) hP hD [2, 3] [0, 1, 4, 5] 4 rfl hqc (by decide +kernel) rfl hk1 hFc hP1 hD1
            generalize H1 = H at hP hS ⊢
            as_aux_lemma =>
            have h_32 := hw
            exact hU _ _ _ (J79 x_16 j55_h1_f3 x_30 w_31 g_h0_f1 g_h1_f1 g_h1_f2 g_h1_f3 (RG_w h_32 (by decide +kernel)) h_18 g_j55_h1_f3 g_j9_h0_f1 g_j9_h1_f2 g_j9_h1_f3 g_j9_l4 (RG_w g_28 (by decide +kernel)) g_j9_l6 g_p3 _ _ _ hP hD hS (lv_sub hl [0, 1, 3, 4, 5, 6] rfl))
        · rw [h_20]
          refine lv_istore (lv' := [(4, .int 1), (6, .int j9_l6), (5, .int j9_l5), (0, .ref h0), (1, .ref h1), (2, .int 0), (3, .int p3)]) hx hb dX4_readCondition_61 hl (Nat.le_of_ble_eq_true rfl) rfl (fun ls hl => ?_)
          refine lv_iload hx hb dX4_readCondition_63 (lv_at hl 0 rfl) ?_
          refine lv_if_ne (tgt := 93) hx hb dX4_readCondition_65 rfl (fun c_33 => ?_) (fun c_33 => absurd c_33 (by decide +kernel))
          exact hU _ _ _ (J93 1 j9_l5 x_16 j55_h1_f3 j55_h0_f1 j55_h0_0c g_h0_f1 h_22 g_h1_f2 g_h1_f3 g_j55_h0_f1 h_21 h_23 (RG_w (RG_k 1 1 rfl) (by decide +kernel)) g_j9_l5 g_j9_h0_f1 g_j9_h1_f2 g_j9_h1_f3 g_j9_l4 g_j9_l5 g_j9_l6 g_p3 _ _ _ hP hD hS (lv_sub hl [0, 1, 2, 3, 4, 5, 6] rfl))
      have J41b : ∀ (g_h0_f1 : RG h0_f1 0 240) (g_h1_f1 : RG h1_f1 0 240) (g_h1_f2 : RG h1_f2 0 240) (g_h1_f3 : RG h1_f3 (-1) 240) (g_j9_h0_f1 : RG j9_h0_f1 0 240) (g_j9_h1_f2 : RG j9_h1_f2 0 240) (g_j9_h1_f3 : RG j9_h1_f3 (-1) (-1)) (g_j9_l4 : RG j9_l4 0 1) (g_j9_l5 : RG j9_l5 0 1) (g_j9_l6 : RG j9_l6 0 239) (g_p3 : RG p3 0 1) (H : Heap) (locs : List Loc) (ls : Array Slot) (hP : va_P (dC, dI) vwCl (wd_c_X4_readCondition h1 h1_0 h1_f1 j9_h1_f2 j9_h1_f3 h1_0 h1_0k h1_0c h0 h0_0 j9_h0_f1 h0_2 h0_0 h0_0k j9_h0_0c) H) (hD : va_D A (wd_c_X4_readCondition h1 h1_0 h1_f1 j9_h1_f2 j9_h1_f3 h1_0 h1_0k h1_0c h0 h0_0 j9_h0_f1 h0_2 h0_0 h0_0k j9_h0_0c)) (hS : va_S A s.heap H locs) (hl : lv_has ls 7 [(6, .int j9_l6), (5, .int j9_l5), (4, .int j9_l4), (0, .ref h0), (1, .ref h1), (2, .int 0), (3, .int p3)]), G H locs (F0 m 41 ls [.int 0, .int 0, .ref h1, .ref h0]) := by
        as_aux_lemma =>
        intro g_h0_f1 g_h1_f1 g_h1_f2 g_h1_f3 g_j9_h0_f1 g_j9_h1_f2 g_j9_h1_f3 g_j9_l4 g_j9_l5 g_j9_l6 g_p3 H locs ls hP hD hS hl
        refine hG _ _ _ ?_
        obtain ⟨hPc, hDc, hFc, hqc⟩ := cl_cut (wc := (wd_c_X4_readUnit_1 h1 h1_0 h1_f1 j9_h1_f2 j9_h1_f3 h1_0 h1_0k h1_0c h0 h0_0 j9_h0_f1 h0_2 h0_0 h0_0k j9_h0_0c)) hP hD hS hA [0, 1, 2, 3] (by decide +kernel) rfl
        have hKc := hK.sub (tys' := [(h1_0k, .int), (h0_0k, .int)]) [0, 1] rfl
        have hrv := va_recv hKc hPc (ci := 4) (q0 := 2) rfl rfl
        refine va_callv (va_runV (As := [.ref h1, .int 0, .int 0]) (rest := []) ⟨hx, hb, hml, hown, hts⟩ (c_X4_readUnit_1 l dC dI H.size h0 h1 h1_0 h1_f1 j9_h1_f2 j9_h1_f3 h1_0k h1_0c h0_0 j9_h0_f1 h0_2 h0_0k j9_h0_0c ts4 tv4 g_h1_f1 g_j9_h1_f2 (RG_w g_j9_h1_f3 (by decide +kernel)) a_h1_0c g_j9_h0_f1) (cwV 3 hts gf_c_X4_readCondition_c_X4_readUnit_1 rfl rfl rfl mdV_X4_readUnit ⟨Nat.le_of_ble_eq_true rfl, Nat.le_of_ble_eq_true rfl⟩) ⟨fun a U g mk q => by obtain ⟨q0, q1, qP, qK, qD, qE0, qE1, qE2, qE3, qE4, qE5⟩ := q; exact ⟨q0, q1, qP, va_K.moved (u := U) (U := U.calling g mk a) (Vm.Alike.refl U.vm) qK, qD, vk_R.same rfl qE0, va_Z.moved (u := U) (U := U.calling g mk a) (Vm.Alike.refl U.vm) qE1, va_OF.moved (u := U) (U := U.calling g mk a) (Vm.Alike.refl U.vm) qE2, va_O.moved (u := U) (U := U.calling g mk a) (Vm.Alike.refl U.vm) qE3, va_OF.moved (u := U) (U := U.calling g mk a) (Vm.Alike.refl U.vm) qE4, va_T.moved (u := U) (U := U.calling g mk a) (Vm.Alike.refl U.vm) qE5⟩, hrv, fun U hU hW => ⟨rfl, by rw [hU], by rw [hU]; exact hPc, va_K.moved hW.alike hKc, hDc.weaken (fun _ _ _ _ => trivial), vk_R.warm hW hE_32, va_Z.moved hW.alike (by rw [hU]; exact (hE_10.kept hS.2.1).narrow hFc), va_OF.moved hW.alike (by rw [hU]; exact (hE_34.kept hS.2.1).narrow hFc), va_O.moved hW.alike (by rw [hU]; exact (hE_33.kept hS.2.1).narrow hFc), va_OF.moved hW.alike (by rw [hU]; exact (hE_35.kept hS.2.1).narrow hFc), va_T.moved hW.alike (by rw [hU]; exact (hE_36.kept hS.2.1).narrow hFc)⟩⟩ rfl rfl hl.1 rfl (lv_room (Nat.le_of_ble_eq_true rfl)) dX4_readCondition_41 ⟨Nat.le_of_ble_eq_true rfl, Nat.le_of_ble_eq_true rfl⟩) hS (fun q _ h => hFc q h) hFc (fun u t H1 locs ht hvm hw hB hz1 hk1 hS => ?_)
        obtain ⟨x_35, x_36, x_37, w_38⟩ := u
        obtain ⟨hP1, hK1, hD1⟩ := hB
        rw [ht] at hP1
        obtain ⟨hP, hD⟩ := cl_put (w1 := (wd_c_X4_readUnit_1 h1 h1_0 h1_f1 x_35 x_36 h1_0 h1_0k h1_0c h0 h0_0 x_37 h0_2 h0_0 h0_0k w_38)) (nw := (wd_c_X4_readCondition h1 h1_0 h1_f1 x_35 x_36 h1_0 h1_0k h1_0c h0 h0_0 x_37 h0_2 h0_0 h0_0k w_38)) hP hD [0, 1, 2, 3] [4, 5, 6, 7] 4 rfl hqc (by decide +kernel) rfl hk1 hFc hP1 hD1
        generalize H1 = H at hP hS ⊢
        as_aux_lemma =>
        rcases hw with ⟨h_39, h_40, h_41⟩
        refine lv_iload hx hb dX4_readCondition_44 (lv_at hl 2 rfl) ?_
        refine lv_if_eq (tgt := 55) hx hb dX4_readCondition_46 rfl (fun c_42 => ?_) (fun c_42 => ?_)
        · have g_43 : RG j9_l4 0 0 := RG_eq1 g_j9_l4 (RG_k 0 0 rfl) c_42 (by decide +kernel)
          exact hU _ _ _ (J55 x_35 x_36 x_37 w_38 g_h0_f1 g_h1_f1 g_h1_f2 g_h1_f3 h_41 h_39 h_40 g_j9_h0_f1 g_j9_h1_f2 g_j9_h1_f3 (RG_w g_43 (by decide +kernel)) g_j9_l5 g_j9_l6 g_p3 _ _ _ hP hD hS (lv_sub hl [0, 1, 3, 4, 5, 6] rfl))
        · have g_44 : RG j9_l4 1 1 := RG_ne1 g_j9_l4 (q := 0) rfl c_42 (by decide +kernel)
          refine lv_aload_n hx hb dX4_readCondition_49 rfl (lv_at hl 3 rfl) ?_
          refine lv_bipush (v := (-38)) hx hb dX4_readCondition_50 kc_bipush_m38 ?_
          obtain ⟨hPc, hDc, hFc, hqc⟩ := cl_cut (wc := (wd_c_X4_emit h0 h0_0 x_37 h0_2 h0_0 h0_0k w_38)) hP hD hS hA [2, 3] (by decide +kernel) rfl
          have hKc := hK.sub (tys' := [(h0_0k, .int)]) [1] rfl
          have hrv := va_recv hKc hPc (ci := 4) (q0 := 0) rfl rfl
          refine va_callv (va_runV (As := [.int (-38)]) (rest := []) ⟨hx, hb, hml, hown, hts⟩ (c_X4_emit l dC dI H.size h0 (-38) h0_0 x_37 h0_2 h0_0k w_38 h_41) (cwV 1 hts gf_c_X4_readCondition_c_X4_emit rfl rfl rfl mdV_X4_emit ⟨Nat.le_of_ble_eq_true rfl, Nat.le_of_ble_eq_true rfl⟩) ⟨fun a U g mk q => by obtain ⟨q0, q1, qP, qK, qD⟩ := q; exact ⟨q0, q1, qP, va_K.moved (u := U) (U := U.calling g mk a) (Vm.Alike.refl U.vm) qK, qD⟩, hrv, fun U hU hW => ⟨rfl, by rw [hU], by rw [hU]; exact hPc, va_K.moved hW.alike hKc, hDc.weaken (fun _ _ _ _ => trivial)⟩⟩ rfl rfl hl.1 rfl (lv_room (Nat.le_of_ble_eq_true rfl)) dX4_readCondition_52 ⟨Nat.le_of_ble_eq_true rfl, Nat.le_of_ble_eq_true rfl⟩) hS (fun q _ h => hFc q h) hFc (fun u t H1 locs ht hvm hw hB hz1 hk1 hS => ?_)
          obtain ⟨x_46, w_47⟩ := u
          obtain ⟨hP1, hK1, hD1⟩ := hB
          rw [ht] at hP1
          obtain ⟨hP, hD⟩ := cl_put (w1 := (wd_c_X4_emit h0 h0_0 x_46 h0_2 h0_0 h0_0k w_47)) (nw := (wd_c_X4_readCondition h1 h1_0 h1_f1 x_35 x_36 h1_0 h1_0k h1_0c h0 h0_0 x_46 h0_2 h0_0 h0_0k w_47)) hP hD [2, 3] [0, 1, 4, 5] 4 rfl hqc (by decide +kernel) rfl hk1 hFc hP1 hD1
          generalize H1 = H at hP hS ⊢
          as_aux_lemma =>
          have h_48 := hw
          exact hU _ _ _ (J55 x_35 x_36 x_46 w_47 g_h0_f1 g_h1_f1 g_h1_f2 g_h1_f3 (RG_w h_48 (by decide +kernel)) h_39 h_40 g_j9_h0_f1 g_j9_h1_f2 g_j9_h1_f3 (RG_w g_44 (by decide +kernel)) g_j9_l5 g_j9_l6 g_p3 _ _ _ hP hD hS (lv_sub hl [0, 1, 3, 4, 5, 6] rfl))
      have J40 : ∀ (g_h0_f1 : RG h0_f1 0 240) (g_h1_f1 : RG h1_f1 0 240) (g_h1_f2 : RG h1_f2 0 240) (g_h1_f3 : RG h1_f3 (-1) 240) (g_j9_h0_f1 : RG j9_h0_f1 0 240) (g_j9_h1_f2 : RG j9_h1_f2 0 240) (g_j9_h1_f3 : RG j9_h1_f3 (-1) (-1)) (g_j9_l4 : RG j9_l4 0 1) (g_j9_l5 : RG j9_l5 0 1) (g_j9_l6 : RG j9_l6 0 239) (g_p3 : RG p3 0 1) (H : Heap) (locs : List Loc) (ls : Array Slot) (hP : va_P (dC, dI) vwCl (wd_c_X4_readCondition h1 h1_0 h1_f1 j9_h1_f2 j9_h1_f3 h1_0 h1_0k h1_0c h0 h0_0 j9_h0_f1 h0_2 h0_0 h0_0k j9_h0_0c) H) (hD : va_D A (wd_c_X4_readCondition h1 h1_0 h1_f1 j9_h1_f2 j9_h1_f3 h1_0 h1_0k h1_0c h0 h0_0 j9_h0_f1 h0_2 h0_0 h0_0k j9_h0_0c)) (hS : va_S A s.heap H locs) (hl : lv_has ls 7 [(6, .int j9_l6), (5, .int j9_l5), (4, .int j9_l4), (0, .ref h0), (1, .ref h1), (2, .int 0), (3, .int p3)]), G H locs (F0 m 40 ls [.int 0, .ref h1, .ref h0]) := by
        as_aux_lemma =>
        intro g_h0_f1 g_h1_f1 g_h1_f2 g_h1_f3 g_j9_h0_f1 g_j9_h1_f2 g_j9_h1_f3 g_j9_l4 g_j9_l5 g_j9_l6 g_p3 H locs ls hP hD hS hl
        refine hG _ _ _ ?_
        refine lv_iconst (v := 0) hx hb dX4_readCondition_40 kc_iconst_0 ?_
        exact hU _ _ _ (J41b g_h0_f1 g_h1_f1 g_h1_f2 g_h1_f3 g_j9_h0_f1 g_j9_h1_f2 g_j9_h1_f3 g_j9_l4 g_j9_l5 g_j9_l6 g_p3 _ _ _ hP hD hS (lv_sub hl [0, 1, 2, 3, 4, 5, 6] rfl))
      have J41 : ∀ (g_h0_f1 : RG h0_f1 0 240) (g_h1_f1 : RG h1_f1 0 240) (g_h1_f2 : RG h1_f2 0 240) (g_h1_f3 : RG h1_f3 (-1) 240) (g_j9_h0_f1 : RG j9_h0_f1 0 240) (g_j9_h1_f2 : RG j9_h1_f2 0 240) (g_j9_h1_f3 : RG j9_h1_f3 (-1) (-1)) (g_j9_l4 : RG j9_l4 0 1) (g_j9_l5 : RG j9_l5 0 1) (g_j9_l6 : RG j9_l6 0 0) (g_p3 : RG p3 1 1) (H : Heap) (locs : List Loc) (ls : Array Slot) (hP : va_P (dC, dI) vwCl (wd_c_X4_readCondition h1 h1_0 h1_f1 j9_h1_f2 j9_h1_f3 h1_0 h1_0k h1_0c h0 h0_0 j9_h0_f1 h0_2 h0_0 h0_0k j9_h0_0c) H) (hD : va_D A (wd_c_X4_readCondition h1 h1_0 h1_f1 j9_h1_f2 j9_h1_f3 h1_0 h1_0k h1_0c h0 h0_0 j9_h0_f1 h0_2 h0_0 h0_0k j9_h0_0c)) (hS : va_S A s.heap H locs) (hl : lv_has ls 7 [(6, .int j9_l6), (5, .int j9_l5), (4, .int j9_l4), (0, .ref h0), (1, .ref h1), (2, .int 0), (3, .int p3)]), G H locs (F0 m 41 ls [.int 1, .int 0, .ref h1, .ref h0]) := by
        as_aux_lemma =>
        intro g_h0_f1 g_h1_f1 g_h1_f2 g_h1_f3 g_j9_h0_f1 g_j9_h1_f2 g_j9_h1_f3 g_j9_l4 g_j9_l5 g_j9_l6 g_p3 H locs ls hP hD hS hl
        refine hG _ _ _ ?_
        obtain ⟨hPc, hDc, hFc, hqc⟩ := cl_cut (wc := (wd_c_X4_readUnit h1 h1_0 h1_f1 j9_h1_f2 j9_h1_f3 h1_0 h1_0k h1_0c h0 h0_0 j9_h0_f1 h0_2 h0_0 h0_0k j9_h0_0c)) hP hD hS hA [0, 1, 2, 3] (by decide +kernel) rfl
        have hKc := hK.sub (tys' := [(h1_0k, .int), (h0_0k, .int)]) [0, 1] rfl
        have hrv := va_recv hKc hPc (ci := 4) (q0 := 2) rfl rfl
        refine va_callv (va_runV (As := [.ref h1, .int 0, .int 1]) (rest := []) ⟨hx, hb, hml, hown, hts⟩ (c_X4_readUnit l dC dI H.size h0 h1 h1_0 h1_f1 j9_h1_f2 j9_h1_f3 h1_0k h1_0c h0_0 j9_h0_f1 h0_2 h0_0k j9_h0_0c ts4 tv4 g_h1_f1 g_j9_h1_f2 (RG_w g_j9_h1_f3 (by decide +kernel)) a_h1_0c g_j9_h0_f1) (cwV 3 hts gf_c_X4_readCondition_c_X4_readUnit rfl rfl rfl mdV_X4_readUnit ⟨Nat.le_of_ble_eq_true rfl, Nat.le_of_ble_eq_true rfl⟩) ⟨fun a U g mk q => by obtain ⟨q0, q1, qP, qK, qD, qE0, qE1, qE2, qE3, qE4, qE5⟩ := q; exact ⟨q0, q1, qP, va_K.moved (u := U) (U := U.calling g mk a) (Vm.Alike.refl U.vm) qK, qD, vk_R.same rfl qE0, va_Z.moved (u := U) (U := U.calling g mk a) (Vm.Alike.refl U.vm) qE1, va_OF.moved (u := U) (U := U.calling g mk a) (Vm.Alike.refl U.vm) qE2, va_O.moved (u := U) (U := U.calling g mk a) (Vm.Alike.refl U.vm) qE3, va_OF.moved (u := U) (U := U.calling g mk a) (Vm.Alike.refl U.vm) qE4, va_T.moved (u := U) (U := U.calling g mk a) (Vm.Alike.refl U.vm) qE5⟩, hrv, fun U hU hW => ⟨rfl, by rw [hU], by rw [hU]; exact hPc, va_K.moved hW.alike hKc, hDc.weaken (fun _ _ _ _ => trivial), vk_R.warm hW hE_32, va_Z.moved hW.alike (by rw [hU]; exact (hE_10.kept hS.2.1).narrow hFc), va_OF.moved hW.alike (by rw [hU]; exact (hE_34.kept hS.2.1).narrow hFc), va_O.moved hW.alike (by rw [hU]; exact (hE_33.kept hS.2.1).narrow hFc), va_OF.moved hW.alike (by rw [hU]; exact (hE_35.kept hS.2.1).narrow hFc), va_T.moved hW.alike (by rw [hU]; exact (hE_36.kept hS.2.1).narrow hFc)⟩⟩ rfl rfl hl.1 rfl (lv_room (Nat.le_of_ble_eq_true rfl)) dX4_readCondition_41 ⟨Nat.le_of_ble_eq_true rfl, Nat.le_of_ble_eq_true rfl⟩) hS (fun q _ h => hFc q h) hFc (fun u t H1 locs ht hvm hw hB hz1 hk1 hS => ?_)
        obtain ⟨x_50, x_51, x_52, w_53⟩ := u
        obtain ⟨hP1, hK1, hD1⟩ := hB
        rw [ht] at hP1
        obtain ⟨hP, hD⟩ := cl_put (w1 := (wd_c_X4_readUnit h1 h1_0 h1_f1 x_50 x_51 h1_0 h1_0k h1_0c h0 h0_0 x_52 h0_2 h0_0 h0_0k w_53)) (nw := (wd_c_X4_readCondition h1 h1_0 h1_f1 x_50 x_51 h1_0 h1_0k h1_0c h0 h0_0 x_52 h0_2 h0_0 h0_0k w_53)) hP hD [0, 1, 2, 3] [4, 5, 6, 7] 4 rfl hqc (by decide +kernel) rfl hk1 hFc hP1 hD1
        generalize H1 = H at hP hS ⊢
        as_aux_lemma =>
        rcases hw with ⟨h_54, h_55, h_56⟩
        refine lv_iload hx hb dX4_readCondition_44 (lv_at hl 2 rfl) ?_
        refine lv_if_eq (tgt := 55) hx hb dX4_readCondition_46 rfl (fun c_57 => ?_) (fun c_57 => ?_)
        · have g_58 : RG j9_l4 0 0 := RG_eq1 g_j9_l4 (RG_k 0 0 rfl) c_57 (by decide +kernel)
          exact hU _ _ _ (J55 x_50 x_51 x_52 w_53 g_h0_f1 g_h1_f1 g_h1_f2 g_h1_f3 h_56 h_54 h_55 g_j9_h0_f1 g_j9_h1_f2 g_j9_h1_f3 (RG_w g_58 (by decide +kernel)) g_j9_l5 (RG_w g_j9_l6 (by decide +kernel)) (RG_w g_p3 (by decide +kernel)) _ _ _ hP hD hS (lv_sub hl [0, 1, 3, 4, 5, 6] rfl))
        · have g_59 : RG j9_l4 1 1 := RG_ne1 g_j9_l4 (q := 0) rfl c_57 (by decide +kernel)
          refine lv_aload_n hx hb dX4_readCondition_49 rfl (lv_at hl 3 rfl) ?_
          refine lv_bipush (v := (-38)) hx hb dX4_readCondition_50 kc_bipush_m38 ?_
          obtain ⟨hPc, hDc, hFc, hqc⟩ := cl_cut (wc := (wd_c_X4_emit h0 h0_0 x_52 h0_2 h0_0 h0_0k w_53)) hP hD hS hA [2, 3] (by decide +kernel) rfl
          have hKc := hK.sub (tys' := [(h0_0k, .int)]) [1] rfl
          have hrv := va_recv hKc hPc (ci := 4) (q0 := 0) rfl rfl
          refine va_callv (va_runV (As := [.int (-38)]) (rest := []) ⟨hx, hb, hml, hown, hts⟩ (c_X4_emit l dC dI H.size h0 (-38) h0_0 x_52 h0_2 h0_0k w_53 h_56) (cwV 1 hts gf_c_X4_readCondition_c_X4_emit rfl rfl rfl mdV_X4_emit ⟨Nat.le_of_ble_eq_true rfl, Nat.le_of_ble_eq_true rfl⟩) ⟨fun a U g mk q => by obtain ⟨q0, q1, qP, qK, qD⟩ := q; exact ⟨q0, q1, qP, va_K.moved (u := U) (U := U.calling g mk a) (Vm.Alike.refl U.vm) qK, qD⟩, hrv, fun U hU hW => ⟨rfl, by rw [hU], by rw [hU]; exact hPc, va_K.moved hW.alike hKc, hDc.weaken (fun _ _ _ _ => trivial)⟩⟩ rfl rfl hl.1 rfl (lv_room (Nat.le_of_ble_eq_true rfl)) dX4_readCondition_52 ⟨Nat.le_of_ble_eq_true rfl, Nat.le_of_ble_eq_true rfl⟩) hS (fun q _ h => hFc q h) hFc (fun u t H1 locs ht hvm hw hB hz1 hk1 hS => ?_)
          obtain ⟨x_61, w_62⟩ := u
          obtain ⟨hP1, hK1, hD1⟩ := hB
          rw [ht] at hP1
          obtain ⟨hP, hD⟩ := cl_put (w1 := (wd_c_X4_emit h0 h0_0 x_61 h0_2 h0_0 h0_0k w_62)) (nw := (wd_c_X4_readCondition h1 h1_0 h1_f1 x_50 x_51 h1_0 h1_0k h1_0c h0 h0_0 x_61 h0_2 h0_0 h0_0k w_62)) hP hD [2, 3] [0, 1, 4, 5] 4 rfl hqc (by decide +kernel) rfl hk1 hFc hP1 hD1
          generalize H1 = H at hP hS ⊢
          as_aux_lemma =>
          have h_63 := hw
          exact hU _ _ _ (J55 x_50 x_51 x_61 w_62 g_h0_f1 g_h1_f1 g_h1_f2 g_h1_f3 (RG_w h_63 (by decide +kernel)) h_54 h_55 g_j9_h0_f1 g_j9_h1_f2 g_j9_h1_f3 (RG_w g_59 (by decide +kernel)) g_j9_l5 (RG_w g_j9_l6 (by decide +kernel)) (RG_w g_p3 (by decide +kernel)) _ _ _ hP hD hS (lv_sub hl [0, 1, 3, 4, 5, 6] rfl))
      refine hG _ _ _ ?_
      refine lv_iload hx hb dX4_readCondition_9 (lv_at hl 0 rfl) ?_
      refine lv_sipush (v := 240) hx hb dX4_readCondition_11 kc_sipush_240 ?_
      refine lv_icmp_ge (tgt := 99) hx hb dX4_readCondition_14 rfl (fun c_64 => ?_) (fun c_64 => ?_)
      · have g_65 : RG j9_l6 240 240 := RG_le2 (RG_k 240 240 rfl) g_j9_l6 c_64 (by decide +kernel)
        have hK9 := hK.sub (tys' := []) [] rfl
        exact W.vret hx hb hr (fun t ht hW => ⟨⟨(j9_h1_f2, j9_h1_f3, j9_h0_f1, j9_h0_0c), rfl, ⟨g_j9_h1_f2, g_j9_h1_f3, g_j9_h0_f1⟩, by rw [ht]; exact hP, va_K.moved hW.alike hK9, hD⟩, hS.F ht⟩) hS.2.2 dX4_readCondition_99
      · have d_66 := Int32.not_le.mp c_64
        have g_67 : RG j9_l6 0 239 := RG_lt1 g_j9_l6 (RG_k 240 240 rfl) d_66 (by decide +kernel)
        refine lv_aload_n hx hb dX4_readCondition_17 rfl (lv_at hl 4 rfl) ?_
        obtain ⟨hPc, hDc, hFc, hqc⟩ := cl_cut (wc := (wd_c_X9_isRight h1 h1_0 h1_f1 j9_h1_f2 j9_h1_f3)) hP hD hS hA [0] (by decide +kernel) rfl
        have hKc := hK.sub (tys' := []) [] rfl
        have hrv := va_recv hKc hPc (ci := 9) (q0 := 0) rfl rfl
        refine va_calli (va_runV (As := []) (rest := []) ⟨hx, hb, hml, hown, hts⟩ (c_X9_isRight l dC dI H.size h1 h1_0 h1_f1 j9_h1_f2 j9_h1_f3 g_h1_f1 g_j9_h1_f2 g_j9_h1_f3) (cwV 0 hts gf_c_X4_readCondition_c_X9_isRight rfl rfl rfl mdV_X9_isRight ⟨Nat.le_of_ble_eq_true rfl, Nat.le_of_ble_eq_true rfl⟩) ⟨fun a U g mk q => by obtain ⟨q0, q1, qP, qK, qD⟩ := q; exact ⟨q0, q1, qP, va_K.moved (u := U) (U := U.calling g mk a) (Vm.Alike.refl U.vm) qK, qD⟩, hrv, fun U hU hW => ⟨rfl, by rw [hU], by rw [hU]; exact hPc, va_K.moved hW.alike hKc, hDc.weaken (fun _ _ _ _ => trivial)⟩⟩ rfl rfl hl.1 rfl (lv_room (Nat.le_of_ble_eq_true rfl)) dX4_readCondition_18 ⟨Nat.le_of_ble_eq_true rfl, Nat.le_of_ble_eq_true rfl⟩) hS (fun q _ h => hFc q h) hFc (fun r_68 u t H1 locs ht hvm hw hB hz1 hk1 hS => ?_)
        as_aux_lemma =>
        obtain ⟨hP1, hK1, hD1⟩ := hB
        rw [ht] at hP1
        obtain ⟨hP, hD⟩ := cl_put (w1 := (wd_c_X9_isRight h1 h1_0 h1_f1 j9_h1_f2 j9_h1_f3)) (nw := (wd_c_X4_readCondition h1 h1_0 h1_f1 j9_h1_f2 j9_h1_f3 h1_0 h1_0k h1_0c h0 h0_0 j9_h0_f1 h0_2 h0_0 h0_0k j9_h0_0c)) hP hD [0] [4, 1, 2, 3] 4 rfl hqc (by decide +kernel) rfl hk1 hFc hP1 hD1
        generalize H1 = H at hP hS ⊢
        as_aux_lemma =>
        rcases hw with ⟨h_69, h_70⟩ | ⟨h_71, h_72⟩
        · rw [h_69]
          refine lv_if_eq (tgt := 99) hx hb dX4_readCondition_21 rfl (fun c_73 => ?_) (fun c_73 => absurd c_73 (by decide +kernel))
          have hK9 := hK.sub (tys' := []) [] rfl
          exact W.vret hx hb hr (fun t ht hW => ⟨⟨(j9_h1_f2, j9_h1_f3, j9_h0_f1, j9_h0_0c), rfl, ⟨g_j9_h1_f2, (RG_w h_70 (by decide +kernel)), g_j9_h0_f1⟩, by rw [ht]; exact hP, va_K.moved hW.alike hK9, hD⟩, hS.F ht⟩) hS.2.2 dX4_readCondition_99
        · rw [h_71]
          refine lv_if_eq (tgt := 99) hx hb dX4_readCondition_21 rfl (fun c_74 => absurd c_74 (by decide +kernel)) (fun c_74 => ?_)
          refine lv_aload_n hx hb dX4_readCondition_24 rfl (lv_at hl 3 rfl) ?_
          refine lv_aload_n hx hb dX4_readCondition_25 rfl (lv_at hl 4 rfl) ?_
          refine lv_iload_n hx hb dX4_readCondition_26 rfl (lv_at hl 5 rfl) ?_
          refine lv_iload_n hx hb dX4_readCondition_27 rfl (lv_at hl 6 rfl) ?_
          refine lv_if_eq (tgt := 40) hx hb dX4_readCondition_28 rfl (fun c_75 => ?_) (fun c_75 => ?_)
          · have g_76 : RG p3 0 0 := RG_eq1 g_p3 (RG_k 0 0 rfl) c_75 (by decide +kernel)
            exact hU _ _ _ (J40 g_h0_f1 g_h1_f1 g_h1_f2 g_h1_f3 g_j9_h0_f1 g_j9_h1_f2 h_72 g_j9_l4 g_j9_l5 g_67 (RG_w g_76 (by decide +kernel)) _ _ _ hP hD hS (lv_sub hl [0, 1, 2, 3, 4, 5, 6] rfl))
          · have g_77 : RG p3 1 1 := RG_ne1 g_p3 (q := 0) rfl c_75 (by decide +kernel)
            refine lv_iload hx hb dX4_readCondition_31 (lv_at hl 0 rfl) ?_
            as_aux_lemma =>
            refine lv_if_ne (tgt := 40) hx hb dX4_readCondition_33 rfl (fun c_78 => ?_) (fun c_78 => ?_)
            · have g_79 : RG j9_l6 1 239 := RG_ne1 g_67 (q := 0) rfl c_78 (by decide +kernel)
              exact hU _ _ _ (J40 g_h0_f1 g_h1_f1 g_h1_f2 g_h1_f3 g_j9_h0_f1 g_j9_h1_f2 h_72 g_j9_l4 g_j9_l5 (RG_w g_79 (by decide +kernel)) (RG_w g_77 (by decide +kernel)) _ _ _ hP hD hS (lv_sub hl [0, 1, 2, 3, 4, 5, 6] rfl))
            · have g_80 : RG j9_l6 0 0 := RG_eq1 g_67 (RG_k 0 0 rfl) c_78 (by decide +kernel)
              refine lv_iconst (v := 1) hx hb dX4_readCondition_36 kc_iconst_1 ?_
              refine lv_goto (tgt := 41) hx hb dX4_readCondition_37 rfl ?_
              exact hU _ _ _ (J41 g_h0_f1 g_h1_f1 g_h1_f2 g_h1_f3 g_j9_h0_f1 g_j9_h1_f2 h_72 g_j9_l4 g_j9_l5 g_80 g_77 _ _ _ hP hD hS (lv_sub hl [0, 1, 2, 3, 4, 5, 6] rfl))
  refine hG _ _ _ ?_
  refine lv_iconst (v := 0) hx hb dX4_readCondition_0 kc_iconst_0 ?_
  refine lv_istore (lv' := [(4, .int 0), (0, .ref h0), (1, .ref h1), (2, .int 0), (3, .int p3)]) hx hb dX4_readCondition_1 hl (Nat.le_of_ble_eq_true rfl) rfl (fun ls hl => ?_)
  refine lv_iconst (v := 0) hx hb dX4_readCondition_3 kc_iconst_0 ?_
  refine lv_istore (lv' := [(5, .int 0), (4, .int 0), (0, .ref h0), (1, .ref h1), (2, .int 0), (3, .int p3)]) hx hb dX4_readCondition_4 hl (Nat.le_of_ble_eq_true rfl) rfl (fun ls hl => ?_)
  refine lv_iconst (v := 0) hx hb dX4_readCondition_6 kc_iconst_0 ?_
  refine lv_istore (lv' := [(6, .int 0), (5, .int 0), (4, .int 0), (0, .ref h0), (1, .ref h1), (2, .int 0), (3, .int p3)]) hx hb dX4_readCondition_7 hl (Nat.le_of_ble_eq_true rfl) rfl (fun ls hl => ?_)
  as_aux_lemma =>
  exact hU _ _ _ (J9 _ 0 0 0 h1_f2 h1_f3 h0_f1 h0_0c (Nat.lt_succ_self _) g_h0_f1 g_h1_f1 g_h1_f2 g_h1_f3 g_h0_f1 g_h1_f2 g_h1_f3 (RG_w (RG_k 0 0 rfl) (by decide +kernel)) (RG_w (RG_k 0 0 rfl) (by decide +kernel)) (RG_w (RG_k 0 0 rfl) (by decide +kernel)) g_p3 _ _ _ hP hD hS (lv_sub hl [0, 1, 2, 3, 4, 5, 6] rfl))
noncomputable def wd_c_X9_expect_3 (a0 : Nat) (a1 : Nat) (a2 : Int32) (a3 : Int32) (a4 : Int32) (a5 : Nat) (a6 : ClassId) (a7 : Nat → Int32) : va_W := [(a0, .inr (9, [.ref a1, .int a2, .int a3, .int a4])), (a5, .inl (a6, 240, .inl a7))]
noncomputable def wf_c_X9_expect_3 : List Cond := List.cons (.code yX9_expect cX9_expect 2 none) (@HAppend.hAppend (List Cond) (List Cond) (List Cond) _ [.fieldLink RX9 15 "BuoyVote$Tape" "wrong" "I", .methodLink RX9 29 yX9_peek, .instanceMethod yX9_peek, .selects RX9 yX9_peek yX9_peek, .initialized RX9, .code yX9_peek cX9_peek 1 (some .int), .fieldLink RX9 22 "BuoyVote$Tape" "at" "I", .fieldLink RX9 19 "BuoyVote$Tape" "length" "I", .fieldLink RX9 11 "BuoyVote$Tape" "bytes" "[I", .methodLink RX9 25 yX9_refuse, .instanceMethod yX9_refuse, .selects RX9 yX9_refuse yX9_refuse, .code yX9_refuse cX9_refuse 2 none] wsX90)
theorem iw_c_X9_expect_3_X9 : ∀ w ∈ wsX90, w ∈ wf_c_X9_expect_3 := fun w h => List.mem_cons_of_mem _ (List.mem_append_right _ h)
set_option maxRecDepth 20000 in
theorem gf_c_X9_expect_3_c_X9_refuse : GoodIn wf_c_X9_expect_3 (wsV RX9 25 RX9 yX9_refuse wf_c_X9_refuse) := goodIn_app (gi_l [10, 11, 12, 5] rfl rfl) (gi_cons (j := 13) rfl rfl (goodIn_app (gi_l [1] rfl rfl) (goodIn_sub iw_c_X9_expect_3_X9 gw_X9)))
set_option maxRecDepth 20000 in
theorem gf_c_X9_expect_3_c_X9_peek : GoodIn wf_c_X9_expect_3 (wsV RX9 29 RX9 yX9_peek wf_c_X9_peek) := goodIn_app (gi_l [2, 3, 4, 5] rfl rfl) (gi_cons (j := 6) rfl rfl (goodIn_app (gi_l [7, 8, 9] rfl rfl) (goodIn_sub iw_c_X9_expect_3_X9 gw_X9)))
set_option maxHeartbeats 4000000 in
set_option maxRecDepth 100000 in
theorem c_X9_expect_3 (l : Launch) (dC : Nat → ClassId) (dI : Nat → Nat → Nat) (sz : Nat) (h0 : Nat) (p1 : Int32) (h0_0 : Nat) (h0_f1 : Int32) (h0_f2 : Int32) (h0_f3 : Int32) (h0_0k : ClassId) (h0_0c : Nat → Int32) (g_p1 : RG p1 0 63) (g_h0_f1 : RG h0_f1 0 240) (g_h0_f2 : RG h0_f2 0 240) (g_h0_f3 : RG h0_f3 (-1) 240) (a_h0_0c : AI h0_0c 0 255) : Met l yX9_expect wf_c_X9_expect_3 ({ frames := 1, cells := 0, slots := 0, locals := 21 }) (va_Pc [.ref h0, .int p1] (fun U => U.heap.size = sz ∧ va_P (dC, dI) vwCl (wd_c_X9_expect_3 h0 h0_0 h0_f1 h0_f2 h0_f3 h0_0 h0_0k h0_0c) U.heap ∧ va_K (dC, dI) vwCl [(h0_0k, .int)] U ∧ va_D (fun _ => True) (wd_c_X9_expect_3 h0 h0_0 h0_f1 h0_f2 h0_f3 h0_0 h0_0k h0_0c))) (va_Qv (fun (u : (Int32) × (Int32)) => (RG u.1 0 240 ∧ RG u.2 (-1) 240 ∧ h0_f2.toInt + 0 ≤ (u.1).toInt)) (fun (u : (Int32) × (Int32)) t => va_P (dC, dI) vwCl (wd_c_X9_expect_3 h0 h0_0 h0_f1 (u.1) (u.2) h0_0 h0_0k h0_0c) t.heap ∧ va_K (dC, dI) vwCl [] t ∧ va_D (va_A (wd_c_X9_expect_3 h0 h0_0 h0_f1 h0_f2 h0_f3 h0_0 h0_0k h0_0c) sz) (wd_c_X9_expect_3 h0 h0_0 h0_f1 (u.1) (u.2) h0_0 h0_0k h0_0c)) (va_A (wd_c_X9_expect_3 h0 h0_0 h0_f1 h0_f2 h0_f3 h0_0 h0_0k h0_0c) sz)) 0 0 (va_A (wd_c_X9_expect_3 h0 h0_0 h0_f1 h0_f2 h0_f3 h0_0 h0_0k h0_0c) sz) := by
  refine Met.ofW (cc := cX9_expect) (maxL := 2) (ret := none) (by decide +kernel) rfl ?_
  intro p e s m args below meth c s₁ B hml hv
  obtain ⟨rfl, hsz, hP, hK, hD0⟩ := hv
  have hx := B.exec
  have hb := B.bytes
  have hr := B.returns
  have hts := atoms_spec (ws := wf_c_X9_expect_3) B.pre
  have hown : s.vm.findClass RX9 = some m.cls := findClass_of_methodNamed B.named
  have hlocks := B.notSynchronized
  subst hsz
  have hD := hD0.self (sz := s.heap.size)
  generalize hAe : va_A (wd_c_X9_expect_3 h0 h0_0 h0_f1 h0_f2 h0_f3 h0_0 h0_0k h0_0c) s.heap.size = A at hD ⊢
  have hA : ∀ q : Nat, s.heap.size ≤ q → A q := fun q h => by rw [← hAe]; exact Or.inr h
  have hP : va_P (dC, dI) vwCl (wd_c_X9_expect_3 h0 h0_0 h0_f1 h0_f2 h0_f3 h0_0 h0_0k h0_0c) s.heap := hP
  have hl := lv_entry ([.ref h0, .int p1]) (n := 2) (Nat.le_of_ble_eq_true rfl)
  rw [lg_entry_eq]
  generalize (lg_sl ([.ref h0, .int p1]) ++ List.replicate (2 - (lg_sl ([.ref h0, .int p1])).length) Slot.unset).toArray = ls at hl ⊢
  have hl : lv_has ls 2 [(0, .ref h0), (1, .int p1)] := hl
  obtain ⟨H, hHe⟩ : ∃ H : Heap, s.heap = H := ⟨_, rfl⟩
  have hS : va_S A s.heap H [] := by rw [hHe]; exact va_S.rf
  have hP : va_P (dC, dI) vwCl (wd_c_X9_expect_3 h0 h0_0 h0_f1 h0_f2 h0_f3 h0_0 h0_0k h0_0c) H := by rw [← hHe]; exact hP
  rw [hHe]
  refine wj (fun G hG hU => ?_)
  as_aux_lemma =>
  have J29 : ∀ (j29_h0_f2 : Int32) (g_h0_f1 : RG h0_f1 0 240) (g_h0_f2 : RG h0_f2 0 240) (g_h0_f3 : RG h0_f3 (-1) 240) (g_j29_h0_f2 : RG j29_h0_f2 0 240) (g_p1 : RG p1 0 63) (r_h0_f2_j29_h0_f2 : h0_f2.toInt + 0 ≤ j29_h0_f2.toInt) (H : Heap) (locs : List Loc) (ls : Array Slot) (hP : va_P (dC, dI) vwCl (wd_c_X9_expect_3 h0 h0_0 h0_f1 j29_h0_f2 h0_f3 h0_0 h0_0k h0_0c) H) (hD : va_D A (wd_c_X9_expect_3 h0 h0_0 h0_f1 j29_h0_f2 h0_f3 h0_0 h0_0k h0_0c)) (hS : va_S A s.heap H locs) (hl : lv_has ls 2 [(0, .ref h0)]), G H locs (F0 m 29 ls []) := by
    as_aux_lemma =>
    intro j29_h0_f2 g_h0_f1 g_h0_f2 g_h0_f3 g_j29_h0_f2 g_p1 r_h0_f2_j29_h0_f2 H locs ls hP hD hS hl
    refine hG _ _ _ ?_
    refine lv_aload_n hx hb dX9_expect_29 rfl (lv_at hl 0 rfl) ?_
    refine lv_aload_n hx hb dX9_expect_30 rfl (lv_at hl 0 rfl) ?_
    refine va_get (D := (dC, dI)) (ci := 9) (v := .int j29_h0_f2) (C := RX9) (T := TX9) (N := 4) hx hb hts iw_c_X9_expect_3_X9 hown hK hP 0 rfl rfl 2 (by decide +kernel) (hts (.fieldLink RX9 22 "BuoyVote$Tape" "at" "I") (List.mem_of_getElem? (i := 7) rfl)) (fun _ h9 => h9) rfl dX9_expect_31 ?_
    obtain ⟨hPc, hDc, hFc, hqc⟩ := cl_cut (wc := (wd_c_X9_refuse h0 h0_0 h0_f1 j29_h0_f2 h0_f3)) hP hD hS hA [0] (by decide +kernel) rfl
    have hKc := hK.sub (tys' := []) [] rfl
    have hrv := va_recv hKc hPc (ci := 9) (q0 := 0) rfl rfl
    refine va_callv (va_runV (As := [.int j29_h0_f2]) (rest := []) ⟨hx, hb, hml, hown, hts⟩ (c_X9_refuse l dC dI H.size h0 j29_h0_f2 h0_0 h0_f1 j29_h0_f2 h0_f3 g_j29_h0_f2 g_h0_f1 g_j29_h0_f2 g_h0_f3) (cwV 1 hts gf_c_X9_expect_3_c_X9_refuse rfl rfl rfl mdV_X9_refuse ⟨Nat.le_of_ble_eq_true rfl, Nat.le_of_ble_eq_true rfl⟩) ⟨fun a U g mk q => by obtain ⟨q0, q1, qP, qK, qD⟩ := q; exact ⟨q0, q1, qP, va_K.moved (u := U) (U := U.calling g mk a) (Vm.Alike.refl U.vm) qK, qD⟩, hrv, fun U hU hW => ⟨rfl, by rw [hU], by rw [hU]; exact hPc, va_K.moved hW.alike hKc, hDc.weaken (fun _ _ _ _ => trivial)⟩⟩ rfl rfl hl.1 rfl (lv_room (Nat.le_of_ble_eq_true rfl)) dX9_expect_34 ⟨Nat.le_of_ble_eq_true rfl, Nat.le_of_ble_eq_true rfl⟩) hS (fun q _ h => hFc q h) hFc (fun x_2 t H1 locs ht hvm hw hB hz1 hk1 hS => ?_)
    obtain ⟨hP1, hK1, hD1⟩ := hB
    rw [ht] at hP1
    obtain ⟨hP, hD⟩ := cl_put (w1 := (wd_c_X9_refuse h0 h0_0 h0_f1 j29_h0_f2 x_2)) (nw := (wd_c_X9_expect_3 h0 h0_0 h0_f1 j29_h0_f2 x_2 h0_0 h0_0k h0_0c)) hP hD [0] [2, 1] 2 rfl hqc (by decide +kernel) rfl hk1 hFc hP1 hD1
    generalize H1 = H at hP hS ⊢
    as_aux_lemma =>
    have h_3 := hw
    have hK9 := hK.sub (tys' := []) [] rfl
    exact W.vret hx hb hr (fun t ht hW => ⟨⟨(j29_h0_f2, x_2), rfl, ⟨g_j29_h0_f2, (RG_w h_3 (by decide +kernel)), (by have := r_h0_f2_j29_h0_f2; show h0_f2.toInt + 0 ≤ j29_h0_f2.toInt; omega)⟩, by rw [ht]; exact hP, va_K.moved hW.alike hK9, hD⟩, hS.F ht⟩) hS.2.2 dX9_expect_37
  refine hG _ _ _ ?_
  refine lv_aload_n hx hb dX9_expect_0 rfl (lv_at hl 0 rfl) ?_
  refine va_get (D := (dC, dI)) (ci := 9) (v := .int h0_f3) (C := RX9) (T := TX9) (N := 4) hx hb hts iw_c_X9_expect_3_X9 hown hK hP 0 rfl rfl 3 (by decide +kernel) (hts (.fieldLink RX9 15 "BuoyVote$Tape" "wrong" "I") (List.mem_of_getElem? (i := 1) rfl)) (fun _ h9 => h9) rfl dX9_expect_1 ?_
  refine lv_iconst (v := (-1)) hx hb dX9_expect_4 kc_iconst_m1 ?_
  refine lv_icmp_ne (tgt := 29) hx hb dX9_expect_5 rfl (fun c_4 => ?_) (fun c_4 => ?_)
  · have g_5 : RG h0_f3 0 240 := RG_ne1 g_h0_f3 (q := (-1)) rfl c_4 (by decide +kernel)
    exact hU _ _ _ (J29 h0_f2 g_h0_f1 g_h0_f2 (RG_w g_5 (by decide +kernel)) g_h0_f2 g_p1 (by omega) _ _ _ hP hD hS (lv_sub hl [0] rfl))
  · have g_6 : RG h0_f3 (-1) (-1) := RG_eq1 g_h0_f3 (RG_k (-1) (-1) rfl) c_4 (by decide +kernel)
    refine lv_aload_n hx hb dX9_expect_8 rfl (lv_at hl 0 rfl) ?_
    obtain ⟨hPc, hDc, hFc, hqc⟩ := cl_cut (wc := (wd_c_X9_peek h0 h0_0 h0_f1 h0_f2 h0_f3 h0_0 h0_0k h0_0c)) hP hD hS hA [0, 1] (by decide +kernel) rfl
    have hKc := hK.sub (tys' := [(h0_0k, .int)]) [0] rfl
    have hrv := va_recv hKc hPc (ci := 9) (q0 := 0) rfl rfl
    refine va_calli (va_runV (As := []) (rest := []) ⟨hx, hb, hml, hown, hts⟩ (c_X9_peek l dC dI H.size h0 h0_0 h0_f1 h0_f2 h0_f3 h0_0k h0_0c g_h0_f1 g_h0_f2 (RG_w g_6 (by decide +kernel)) a_h0_0c) (cwV 0 hts gf_c_X9_expect_3_c_X9_peek rfl rfl rfl mdV_X9_peek ⟨Nat.le_of_ble_eq_true rfl, Nat.le_of_ble_eq_true rfl⟩) ⟨fun a U g mk q => by obtain ⟨q0, q1, qP, qK, qD⟩ := q; exact ⟨q0, q1, qP, va_K.moved (u := U) (U := U.calling g mk a) (Vm.Alike.refl U.vm) qK, qD⟩, hrv, fun U hU hW => ⟨rfl, by rw [hU], by rw [hU]; exact hPc, va_K.moved hW.alike hKc, hDc.weaken (fun _ _ _ _ => trivial)⟩⟩ rfl rfl hl.1 rfl (lv_room (Nat.le_of_ble_eq_true rfl)) dX9_expect_9 ⟨Nat.le_of_ble_eq_true rfl, Nat.le_of_ble_eq_true rfl⟩) hS (fun q _ h => hFc q h) hFc (fun r_7 x_8 t H1 locs ht hvm hw hB hz1 hk1 hS => ?_)
    as_aux_lemma =>
    obtain ⟨hP1, hK1, hD1⟩ := hB
    rw [ht] at hP1
    obtain ⟨hP, hD⟩ := cl_put (w1 := (wd_c_X9_peek h0 h0_0 h0_f1 x_8 h0_f3 h0_0 h0_0k h0_0c)) (nw := (wd_c_X9_expect_3 h0 h0_0 h0_f1 x_8 h0_f3 h0_0 h0_0k h0_0c)) hP hD [0, 1] [2, 3] 2 rfl hqc (by decide +kernel) rfl hk1 hFc hP1 hD1
    generalize H1 = H at hP hS ⊢
    as_aux_lemma =>
    rcases hw with ⟨h_9, h_10, h_11⟩ | ⟨h_12, h_13, h_14, h_15⟩
    · rw [h_9]
      refine lv_iload_n hx hb dX9_expect_12 rfl (lv_at hl 1 rfl) ?_
      refine lv_icmp_ne (tgt := 29) hx hb dX9_expect_13 rfl (fun c_16 => ?_) (fun c_16 => ?_)
      · exact hU _ _ _ (J29 x_8 g_h0_f1 g_h0_f2 (RG_w g_6 (by decide +kernel)) h_10 g_p1 (by have := h_11; omega) _ _ _ hP hD hS (lv_sub hl [0] rfl))
      · exact RG_dead (RG_eq1 (RG_k (-1) (-1) rfl) g_p1 c_16 (a' := 0) (b' := (-1)) (by decide +kernel)) (by decide +kernel)
    · refine lv_iload_n hx hb dX9_expect_12 rfl (lv_at hl 1 rfl) ?_
      refine lv_icmp_ne (tgt := 29) hx hb dX9_expect_13 rfl (fun c_17 => ?_) (fun c_17 => ?_)
      · exact hU _ _ _ (J29 x_8 (RG_w h_14 (by decide +kernel)) g_h0_f2 (RG_w g_6 (by decide +kernel)) (RG_w h_13 (by decide +kernel)) g_p1 (by have := h_15; omega) _ _ _ hP hD hS (lv_sub hl [0] rfl))
      · have g_18 : RG r_7 0 63 := RG_eq1 h_12 g_p1 c_17 (by decide +kernel)
        refine lv_aload_n hx hb dX9_expect_16 rfl (lv_at hl 0 rfl) ?_
        refine lv_dup hx hb dX9_expect_17 rfl ?_
        refine va_get (D := (dC, dI)) (ci := 9) (v := .int x_8) (C := RX9) (T := TX9) (N := 4) hx hb hts iw_c_X9_expect_3_X9 hown hK hP 0 rfl rfl 2 (by decide +kernel) (hts (.fieldLink RX9 22 "BuoyVote$Tape" "at" "I") (List.mem_of_getElem? (i := 7) rfl)) (fun _ h9 => h9) rfl dX9_expect_18 ?_
        refine lv_iconst (v := 1) hx hb dX9_expect_21 kc_iconst_1 ?_
        as_aux_lemma =>
        refine lv_iadd hx hb dX9_expect_22 ?_
        refine lv_topi (fun x_19 ex_19 => ?_)
        have g_20 : RG x_19 1 240 := RG_add ex_19 h_13 (RG_k 1 1 rfl) (by decide +kernel)
        have q_21 : x_19.toInt = x_8.toInt + 1 := eq_add ex_19 h_13 (q := 1) rfl (by decide +kernel)
        refine va_put (D := (dC, dI)) (ci := 9) (v := .int x_19) (ty := .int) (C := RX9) (T := TX9) (N := 4) hx hb hts iw_c_X9_expect_3_X9 tyX9 tyX9_ok nmX9 hown hK hP hD hS 0 rfl rfl 2 (by decide +kernel) (hts (.fieldLink RX9 22 "BuoyVote$Tape" "at" "I") (List.mem_of_getElem? (i := 7) rfl)) (fun _ h9 => h9) rfl (by decide +kernel) rfl rfl (Nat.le_of_ble_eq_true rfl) dX9_expect_23 (fun H locs hP hD hS => ?_)
        have hP : va_P (dC, dI) vwCl (wd_c_X9_expect_3 h0 h0_0 h0_f1 x_19 h0_f3 h0_0 h0_0k h0_0c) H := hP
        have hD : va_D A (wd_c_X9_expect_3 h0 h0_0 h0_f1 x_19 h0_f3 h0_0 h0_0k h0_0c) := hD
        refine lv_goto (tgt := 37) hx hb dX9_expect_26 rfl ?_
        have hK9 := hK.sub (tys' := []) [] rfl
        exact W.vret hx hb hr (fun t ht hW => ⟨⟨(x_19, h0_f3), rfl, ⟨(RG_w g_20 (by decide +kernel)), (RG_w g_6 (by decide +kernel)), (by have := h_15; have := q_21; show h0_f2.toInt + 0 ≤ x_19.toInt; omega)⟩, by rw [ht]; exact hP, va_K.moved hW.alike hK9, hD⟩, hS.F ht⟩) hS.2.2 dX9_expect_37
noncomputable def wd_c_X4_faultOf (a0 : Nat) (a1 : Nat) (a2 : Int32) (a3 : Nat) (a4 : Nat) (a5 : Nat) (a6 : Int32) (a7 : Int32) (a8 : Int32) (a9 : Nat) (a10 : ClassId) (a11 : Nat → Int32) (a12 : Nat) (a13 : ClassId) (a14 : Nat → Int32) : va_W := [(a0, .inr (4, [.ref a1, .int a2, .ref a3])), (a4, .inr (9, [.ref a5, .int a6, .int a7, .int a8])), (a9, .inl (a10, 240, .inl a11)), (a12, .inl (a13, 240, .inl a14))]
noncomputable def wf_c_X4_faultOf : List Cond := List.cons (.code yX4_faultOf cX4_faultOf 4 (some .int)) (@HAppend.hAppend (List Cond) (List Cond) (List Cond) _ (@HAppend.hAppend (List Cond) (List Cond) (List Cond) _ [.fieldLink RX4 20 "BuoyVote$Law" "length" "I", .methodLink RX4 34 yX9_rewind, .instanceMethod yX9_rewind, .selects RX9 yX9_rewind yX9_rewind, .initialized RX9, .code yX9_rewind cX9_rewind 1 none, .fieldLink RX9 22 "BuoyVote$Tape" "at" "I", .fieldLink RX9 15 "BuoyVote$Tape" "wrong" "I", .methodLink RX4 37 yX9_expect, .instanceMethod yX9_expect, .selects RX9 yX9_expect yX9_expect, .code yX9_expect cX9_expect 2 none, .methodLink RX9 29 yX9_peek, .instanceMethod yX9_peek, .selects RX9 yX9_peek yX9_peek, .code yX9_peek cX9_peek 1 (some .int), .fieldLink RX9 19 "BuoyVote$Tape" "length" "I", .fieldLink RX9 11 "BuoyVote$Tape" "bytes" "[I", .methodLink RX9 25 yX9_refuse, .instanceMethod yX9_refuse, .selects RX9 yX9_refuse yX9_refuse, .code yX9_refuse cX9_refuse 2 none, .methodLink RX4 41 yX9_peek, .methodLink RX4 45 yX4_startsUnit, .static yX4_startsUnit, .initialized RX4, .code yX4_startsUnit cX4_startsUnit 1 (some .boolean), .methodLink RX4 49 yX4_readSum, .instanceMethod yX4_readSum, .selects RX4 yX4_readSum yX4_readSum, .code yX4_readSum cX4_readSum 6 none, .methodLink RX4 72 yX9_isRight, .instanceMethod yX9_isRight, .selects RX9 yX9_isRight yX9_isRight, .code yX9_isRight cX9_isRight 1 (some .boolean), .methodLink RX4 85 yX4_readAtom, .instanceMethod yX4_readAtom, .selects RX4 yX4_readAtom yX4_readAtom, .code yX4_readAtom cX4_readAtom 6 none, .methodLink RX4 93 yJ0_indexOf_0f7a4, .instanceMethod yJ0_indexOf_0f7a4, .selects RJ0 yJ0_indexOf_0f7a4 yJ0_indexOf_0f7a4, .initialized RJ0, .code yJ0_indexOf_0f7a4 cJ0_indexOf_0f7a4 2 (some .int), .methodLink RJ0 633 yJ0_indexOf_7cf53, .instanceMethod yJ0_indexOf_7cf53, .selects RJ0 yJ0_indexOf_7cf53 yJ0_indexOf_7cf53, .code yJ0_indexOf_7cf53 cJ0_indexOf_7cf53 3 (some .int), .methodLink RJ0 492 yJ0_isLatin1_aae02, .instanceMethod yJ0_isLatin1_aae02, .selects RJ0 yJ0_isLatin1_aae02 yJ0_isLatin1_aae02, .code yJ0_isLatin1_aae02 cJ0_isLatin1_aae02 1 (some .boolean), .fieldLink RJ0 38 "java/lang/String" "COMPACT_STRINGS" "Z", .fieldLink RJ0 15 "java/lang/String" "coder" "B", .fieldLink RJ0 9 "java/lang/String" "value" "[B", .methodLink RJ0 505 yJ0_length_8abf5, .instanceMethod yJ0_length_8abf5, .selects RJ0 yJ0_length_8abf5 yJ0_length_8abf5, .code yJ0_length_8abf5 cJ0_length_8abf5 1 (some .int), .methodLink RJ0 335 yJ0_coder_7d493, .instanceMethod yJ0_coder_7d493, .selects RJ0 yJ0_coder_7d493 yJ0_coder_7d493, .code yJ0_coder_7d493 cJ0_coder_7d493 1 (some .byte), .methodLink RJ0 637 yJ1_indexOf_4cfef, .static yJ1_indexOf_4cfef, .initialized RJ1, .code yJ1_indexOf_4cfef cJ1_indexOf_4cfef 4 (some .int), .methodLink RJ1 88 yJ1_canEncode_9a6ad, .static yJ1_canEncode_9a6ad, .code yJ1_canEncode_9a6ad cJ1_canEncode_9a6ad 1 (some .boolean), .methodLink RJ1 92 Lib.Math.max.name, .static Lib.Math.max.name, .initialized "java/lang/Math", .code Lib.Math.max.name Lib.Math.max.code 2 (some .int), .methodLink RJ1 38 Lib.Math.min.name, .static Lib.Math.min.name, .code Lib.Math.min.name Lib.Math.min.code 2 (some .int), .methodLink RJ1 95 yJ1_indexOfChar_4cfef, .static yJ1_indexOfChar_4cfef, .code yJ1_indexOfChar_4cfef cJ1_indexOfChar_4cfef 6 (some .int), .methodLink RX4 99 yX9_number, .instanceMethod yX9_number, .selects RX9 yX9_number yX9_number, .code yX9_number cX9_number 4 (some .int), .methodLink RX4 82 yX9_refuseHere, .instanceMethod yX9_refuseHere, .selects RX9 yX9_refuseHere yX9_refuseHere, .code yX9_refuseHere cX9_refuseHere 1 none, .methodLink RX4 79 yX9_skip, .instanceMethod yX9_skip, .selects RX9 yX9_skip yX9_skip, .code yX9_skip cX9_skip 1 none, .methodLink RX4 60 yX4_emit, .instanceMethod yX4_emit, .selects RX4 yX4_emit yX4_emit, .code yX4_emit cX4_emit 2 none, .fieldLink RX4 11 "BuoyVote$Law" "code" "[I", .methodLink RX4 88 yX9_takeEither, .instanceMethod yX9_takeEither, .selects RX9 yX9_takeEither yX9_takeEither, .code yX9_takeEither cX9_takeEither 4 (some .int), .methodLink RX4 53 yX4_isComparison, .static yX4_isComparison, .code yX4_isComparison cX4_isComparison 1 (some .boolean), .methodLink RX4 56 yX4_readCondition, .instanceMethod yX4_readCondition, .selects RX4 yX4_readCondition yX4_readCondition, .code yX4_readCondition cX4_readCondition 7 none, .methodLink RX4 76 yX4_readUnit, .instanceMethod yX4_readUnit, .selects RX4 yX4_readUnit yX4_readUnit, .code yX4_readUnit cX4_readUnit 5 none, .methodLink RX4 63 yX9_take, .instanceMethod yX9_take, .selects RX9 yX9_take yX9_take, .code yX9_take cX9_take 2 (some .boolean), .methodLink RX4 66 yX9_expectEnd, .instanceMethod yX9_expectEnd, .selects RX9 yX9_expectEnd yX9_expectEnd, .code yX9_expectEnd cX9_expectEnd 1 none, .methodLink RX4 69 yX9_wrongAt, .instanceMethod yX9_wrongAt, .selects RX9 yX9_wrongAt yX9_wrongAt, .code yX9_wrongAt cX9_wrongAt 1 (some .int)] wsX40) wsX90)
theorem iw_c_X4_faultOf_X4 : ∀ w ∈ wsX40, w ∈ wf_c_X4_faultOf := fun w h => List.mem_cons_of_mem _ (List.mem_append_left _ (List.mem_append_right _ h))
theorem iw_c_X4_faultOf_X9 : ∀ w ∈ wsX90, w ∈ wf_c_X4_faultOf := fun w h => List.mem_cons_of_mem _ (List.mem_append_right _ h)
set_option maxRecDepth 20000 in
theorem gf_c_X4_faultOf_c_X9_expectEnd : GoodIn wf_c_X4_faultOf (wsV RX4 66 RX9 yX9_expectEnd wf_c_X9_expectEnd) := goodIn_app (gi_l [117, 118, 119, 5] rfl rfl) (gi_cons (j := 120) rfl rfl (goodIn_app (gi_l [13, 14, 15, 5, 16, 7, 17, 18, 19, 20, 21, 22, 8] rfl rfl) (goodIn_sub iw_c_X4_faultOf_X9 gw_X9)))
set_option maxRecDepth 20000 in
theorem gf_c_X4_faultOf_c_X9_wrongAt : GoodIn wf_c_X4_faultOf (wsV RX4 69 RX9 yX9_wrongAt wf_c_X9_wrongAt) := goodIn_app (gi_l [121, 122, 123, 5] rfl rfl) (gi_cons (j := 124) rfl rfl (goodIn_app (gi_l [8] rfl rfl) (goodIn_sub iw_c_X4_faultOf_X9 gw_X9)))
set_option maxRecDepth 20000 in
theorem gf_c_X4_faultOf_c_X4_emit : GoodIn wf_c_X4_faultOf (wsV RX4 60 RX4 yX4_emit wf_c_X4_emit) := goodIn_app (gi_l [93, 94, 95, 26] rfl rfl) (gi_cons (j := 96) rfl rfl (goodIn_app (gi_l [1, 97] rfl rfl) (goodIn_sub iw_c_X4_faultOf_X4 gw_X4)))
set_option maxRecDepth 20000 in
theorem gf_c_X4_faultOf_c_X9_take : GoodIn wf_c_X4_faultOf (wsV RX4 63 RX9 yX9_take wf_c_X9_take) := goodIn_app (gi_l [113, 114, 115, 5] rfl rfl) (gi_cons (j := 116) rfl rfl (goodIn_app (gi_l [8, 13, 14, 15, 5, 16, 7, 17, 18] rfl rfl) (goodIn_sub iw_c_X4_faultOf_X9 gw_X9)))
set_option maxRecDepth 20000 in
theorem gf_c_X4_faultOf_c_X4_readCondition : GoodIn wf_c_X4_faultOf (wsV RX4 56 RX4 yX4_readCondition wf_c_X4_readCondition) := goodIn_app (gi_l [105, 106, 107, 26] rfl rfl) (gi_cons (j := 108) rfl rfl (goodIn_app (goodIn_app (gi_l [32, 33, 34, 5, 35, 8, 109, 110, 111, 26, 112, 23, 14, 15, 16, 7, 17, 18, 102, 103, 104, 85, 86, 87, 88, 19, 20, 21, 22, 89, 90, 91, 92, 28, 29, 30, 31, 36, 37, 38, 39, 40, 41, 42, 43, 44, 45, 46, 47, 48, 49, 50, 51, 52, 53, 54, 55, 56, 57, 58, 59, 60, 61, 62, 63, 64, 65, 66, 67, 68, 69, 70, 71, 72, 73, 74, 75, 76, 77, 78, 79, 80, 81, 82, 83, 84, 93, 94, 95, 96, 1, 97, 98, 99, 100, 101, 13, 9, 10, 11, 12, 24, 25, 27, 113, 114, 115, 116, 105, 106, 107] rfl rfl) (goodIn_sub iw_c_X4_faultOf_X9 gw_X9)) (goodIn_sub iw_c_X4_faultOf_X4 gw_X4)))
set_option maxRecDepth 20000 in
theorem gf_c_X4_faultOf_c_X9_expect_3 : GoodIn wf_c_X4_faultOf (wsV RX4 37 RX9 yX9_expect wf_c_X9_expect_3) := goodIn_app (gi_l [9, 10, 11, 5] rfl rfl) (gi_cons (j := 12) rfl rfl (goodIn_app (gi_l [8, 13, 14, 15, 5, 16, 7, 17, 18, 19, 20, 21, 22] rfl rfl) (goodIn_sub iw_c_X4_faultOf_X9 gw_X9)))
set_option maxRecDepth 20000 in
theorem gf_c_X4_faultOf_c_X4_readSum : GoodIn wf_c_X4_faultOf (wsV RX4 49 RX4 yX4_readSum wf_c_X4_readSum) := goodIn_app (gi_l [28, 29, 30, 26] rfl rfl) (gi_cons (j := 31) rfl rfl (goodIn_app (goodIn_app (gi_l [32, 33, 34, 5, 35, 8, 36, 37, 38, 26, 39, 23, 14, 15, 16, 7, 17, 18, 40, 41, 42, 43, 44, 45, 46, 47, 48, 49, 50, 51, 52, 53, 54, 55, 56, 57, 58, 59, 60, 61, 62, 63, 64, 65, 66, 67, 68, 69, 70, 71, 72, 73, 74, 75, 76, 77, 78, 79, 80, 81, 82, 83, 84, 85, 86, 87, 88, 19, 20, 21, 22, 89, 90, 91, 92, 28, 29, 30, 93, 94, 95, 96, 1, 97, 98, 99, 100, 101, 13, 9, 10, 11, 12] rfl rfl) (goodIn_sub iw_c_X4_faultOf_X9 gw_X9)) (goodIn_sub iw_c_X4_faultOf_X4 gw_X4)))
set_option maxRecDepth 20000 in
theorem gf_c_X4_faultOf_c_X9_peek : GoodIn wf_c_X4_faultOf (wsV RX4 41 RX9 yX9_peek wf_c_X9_peek) := goodIn_app (gi_l [23, 14, 15, 5] rfl rfl) (gi_cons (j := 16) rfl rfl (goodIn_app (gi_l [7, 17, 18] rfl rfl) (goodIn_sub iw_c_X4_faultOf_X9 gw_X9)))
set_option maxRecDepth 20000 in
theorem gf_c_X4_faultOf_c_X4_isComparison : GoodIn wf_c_X4_faultOf (va_wsS RX4 53 yX4_isComparison wf_c_X4_isComparison) := goodIn_app (gi_l [102, 103, 26] rfl rfl) (gi_cons (j := 104) rfl rfl gi_nil)
set_option maxRecDepth 20000 in
theorem gf_c_X4_faultOf_c_X4_isComparison_1 : GoodIn wf_c_X4_faultOf (va_wsS RX4 53 yX4_isComparison wf_c_X4_isComparison_1) := goodIn_app (gi_l [102, 103, 26] rfl rfl) (gi_cons (j := 104) rfl rfl gi_nil)
set_option maxRecDepth 20000 in
theorem gf_c_X4_faultOf_c_X9_expect : GoodIn wf_c_X4_faultOf (wsV RX4 37 RX9 yX9_expect wf_c_X9_expect) := goodIn_app (gi_l [9, 10, 11, 5] rfl rfl) (gi_cons (j := 12) rfl rfl (goodIn_app (gi_l [8, 13, 14, 15, 5, 16, 7, 17, 18, 19, 20, 21, 22] rfl rfl) (goodIn_sub iw_c_X4_faultOf_X9 gw_X9)))
set_option maxRecDepth 20000 in
theorem gf_c_X4_faultOf_c_X9_expect_1 : GoodIn wf_c_X4_faultOf (wsV RX4 37 RX9 yX9_expect wf_c_X9_expect_1) := goodIn_app (gi_l [9, 10, 11, 5] rfl rfl) (gi_cons (j := 12) rfl rfl (goodIn_app (gi_l [8, 13, 14, 15, 5, 16, 7, 17, 18, 19, 20, 21, 22] rfl rfl) (goodIn_sub iw_c_X4_faultOf_X9 gw_X9)))
set_option maxRecDepth 20000 in
theorem gf_c_X4_faultOf_c_X4_startsUnit : GoodIn wf_c_X4_faultOf (va_wsS RX4 45 yX4_startsUnit wf_c_X4_startsUnit) := goodIn_app (gi_l [24, 25, 26] rfl rfl) (gi_cons (j := 27) rfl rfl gi_nil)
set_option maxRecDepth 20000 in
theorem gf_c_X4_faultOf_c_X4_startsUnit_1 : GoodIn wf_c_X4_faultOf (va_wsS RX4 45 yX4_startsUnit wf_c_X4_startsUnit_1) := goodIn_app (gi_l [24, 25, 26] rfl rfl) (gi_cons (j := 27) rfl rfl gi_nil)
set_option maxRecDepth 20000 in
theorem gf_c_X4_faultOf_c_X9_rewind : GoodIn wf_c_X4_faultOf (wsV RX4 34 RX9 yX9_rewind wf_c_X9_rewind) := goodIn_app (gi_l [2, 3, 4, 5] rfl rfl) (gi_cons (j := 6) rfl rfl (goodIn_app (gi_l [7, 8] rfl rfl) (goodIn_sub iw_c_X4_faultOf_X9 gw_X9)))
set_option maxHeartbeats 4000000 in
set_option maxRecDepth 100000 in
theorem c_X4_faultOf (l : Launch) (dC : Nat → ClassId) (dI : Nat → Nat → Nat) (sz : Nat) (h0 : Nat) (h1 : Nat) (h0_0 : Nat) (h0_f1 : Int32) (h0_2 : Nat) (h1_0 : Nat) (h1_f1 : Int32) (h1_f2 : Int32) (h1_f3 : Int32) (h1_0k : ClassId) (h1_0c : Nat → Int32) (h0_0k : ClassId) (h0_0c : Nat → Int32) (ts4 : Nat) (tv4 : Nat) (g_h0_f1 : RG h0_f1 0 240) (g_h1_f1 : RG h1_f1 0 240) (g_h1_f2 : RG h1_f2 0 240) (g_h1_f3 : RG h1_f3 (-1) 240) (a_h1_0c : AI h1_0c 0 255) : Met l yX4_faultOf wf_c_X4_faultOf ({ frames := 20, cells := 0, slots := 0, locals := 491 }) (va_Pc [.ref h0, .ref h1] (fun U => U.heap.size = sz ∧ va_P (dC, dI) vwCl (wd_c_X4_faultOf h0 h0_0 h0_f1 h0_2 h1 h1_0 h1_f1 h1_f2 h1_f3 h1_0 h1_0k h1_0c h0_0 h0_0k h0_0c) U.heap ∧ va_K (dC, dI) vwCl [(h1_0k, .int), (h0_0k, .int)] U ∧ va_D (fun _ => True) (wd_c_X4_faultOf h0 h0_0 h0_f1 h0_2 h1 h1_0 h1_f1 h1_f2 h1_f3 h1_0 h1_0k h1_0c h0_0 h0_0k h0_0c) ∧ vk_R RX4 91 "vlrdph" ts4 U ∧ va_Z "java/lang/String" "COMPACT_STRINGS" "Z" (.int 1) (va_A (wd_c_X4_faultOf h0 h0_0 h0_f1 h0_2 h1 h1_0 h1_f1 h1_f2 h1_f3 h1_0 h1_0k h1_0c h0_0 h0_0k h0_0c) sz) U U.heap ∧ va_OF "java/lang/String" "coder" "B" (.int 0) ts4 (va_A (wd_c_X4_faultOf h0 h0_0 h0_f1 h0_2 h1 h1_0 h1_f1 h1_f2 h1_f3 h1_0 h1_0k h1_0c h0_0 h0_0k h0_0c) sz) U U.heap ∧ va_O "java/lang/String" ts4 (va_A (wd_c_X4_faultOf h0 h0_0 h0_f1 h0_2 h1 h1_0 h1_f1 h1_f2 h1_f3 h1_0 h1_0k h1_0c h0_0 h0_0k h0_0c) sz) U U.heap ∧ va_OF "java/lang/String" "value" "[B" (.ref tv4) ts4 (va_A (wd_c_X4_faultOf h0 h0_0 h0_f1 h0_2 h1 h1_0 h1_f1 h1_f2 h1_f3 h1_0 h1_0k h1_0c h0_0 h0_0k h0_0c) sz) U U.heap ∧ va_T .byte tv4 6 (fun j => .int ([118, 108, 114, 100, 112, 104].getD j 0)) (va_A (wd_c_X4_faultOf h0 h0_0 h0_f1 h0_2 h1 h1_0 h1_f1 h1_f2 h1_f3 h1_0 h1_0k h1_0c h0_0 h0_0k h0_0c) sz) U U.heap)) (va_Qi (fun (r : Int32) (u : (Int32) × (Int32) × (Int32) × (Nat → Int32)) => (RG r (-1) 240 ∧ RG u.1 0 240 ∧ RG u.2.1 0 240 ∧ RG u.2.2.1 (-1) 240)) (fun (u : (Int32) × (Int32) × (Int32) × (Nat → Int32)) t => va_P (dC, dI) vwCl (wd_c_X4_faultOf h0 h0_0 (u.1) h0_2 h1 h1_0 h1_f1 (u.2.1) (u.2.2.1) h1_0 h1_0k h1_0c h0_0 h0_0k (u.2.2.2)) t.heap ∧ va_K (dC, dI) vwCl [] t ∧ va_D (va_A (wd_c_X4_faultOf h0 h0_0 h0_f1 h0_2 h1 h1_0 h1_f1 h1_f2 h1_f3 h1_0 h1_0k h1_0c h0_0 h0_0k h0_0c) sz) (wd_c_X4_faultOf h0 h0_0 (u.1) h0_2 h1 h1_0 h1_f1 (u.2.1) (u.2.2.1) h1_0 h1_0k h1_0c h0_0 h0_0k (u.2.2.2))) (va_A (wd_c_X4_faultOf h0 h0_0 h0_f1 h0_2 h1 h1_0 h1_f1 h1_f2 h1_f3 h1_0 h1_0k h1_0c h0_0 h0_0k h0_0c) sz)) 0 0 (va_A (wd_c_X4_faultOf h0 h0_0 h0_f1 h0_2 h1 h1_0 h1_f1 h1_f2 h1_f3 h1_0 h1_0k h1_0c h0_0 h0_0k h0_0c) sz) := by
  refine Met.ofW (cc := cX4_faultOf) (maxL := 4) (ret := (some .int)) (by decide +kernel) rfl ?_
  intro p e s m args below meth c s₁ B hml hv
  obtain ⟨rfl, hsz, hP, hK, hD0, hE_32, hE_10, hE_34, hE_33, hE_35, hE_36⟩ := hv
  have hx := B.exec
  have hb := B.bytes
  have hr := B.returns
  have hts := atoms_spec (ws := wf_c_X4_faultOf) B.pre
  have hown : s.vm.findClass RX4 = some m.cls := findClass_of_methodNamed B.named
  have hlocks := B.notSynchronized
  subst hsz
  have hD := hD0.self (sz := s.heap.size)
  generalize hAe : va_A (wd_c_X4_faultOf h0 h0_0 h0_f1 h0_2 h1 h1_0 h1_f1 h1_f2 h1_f3 h1_0 h1_0k h1_0c h0_0 h0_0k h0_0c) s.heap.size = A at hD hE_10 hE_34 hE_33 hE_35 hE_36 ⊢
  have hA : ∀ q : Nat, s.heap.size ≤ q → A q := fun q h => by rw [← hAe]; exact Or.inr h
  have hP : va_P (dC, dI) vwCl (wd_c_X4_faultOf h0 h0_0 h0_f1 h0_2 h1 h1_0 h1_f1 h1_f2 h1_f3 h1_0 h1_0k h1_0c h0_0 h0_0k h0_0c) s.heap := hP
  have hl := lv_entry ([.ref h0, .ref h1]) (n := 4) (Nat.le_of_ble_eq_true rfl)
  rw [lg_entry_eq]
  generalize (lg_sl ([.ref h0, .ref h1]) ++ List.replicate (4 - (lg_sl ([.ref h0, .ref h1])).length) Slot.unset).toArray = ls at hl ⊢
  have hl : lv_has ls 4 [(0, .ref h0), (1, .ref h1)] := hl
  obtain ⟨H, hHe⟩ : ∃ H : Heap, s.heap = H := ⟨_, rfl⟩
  have hS : va_S A s.heap H [] := by rw [hHe]; exact va_S.rf
  have hP : va_P (dC, dI) vwCl (wd_c_X4_faultOf h0 h0_0 h0_f1 h0_2 h1 h1_0 h1_f1 h1_f2 h1_f3 h1_0 h1_0k h1_0c h0_0 h0_0k h0_0c) H := by rw [← hHe]; exact hP
  rw [hHe]
  refine wj (fun G hG hU => ?_)
  as_aux_lemma =>
  have J119 : ∀ (j119_h0_f1 : Int32) (j119_h1_f2 : Int32) (j119_h1_f3 : Int32) (j119_h0_0c : Nat → Int32) (g_h0_f1 : RG h0_f1 0 240) (g_h1_f1 : RG h1_f1 0 240) (g_h1_f2 : RG h1_f2 0 240) (g_h1_f3 : RG h1_f3 (-1) 240) (g_j119_h0_f1 : RG j119_h0_f1 0 240) (g_j119_h1_f2 : RG j119_h1_f2 0 240) (g_j119_h1_f3 : RG j119_h1_f3 (-1) 240) (H : Heap) (locs : List Loc) (ls : Array Slot) (hP : va_P (dC, dI) vwCl (wd_c_X4_faultOf h0 h0_0 j119_h0_f1 h0_2 h1 h1_0 h1_f1 j119_h1_f2 j119_h1_f3 h1_0 h1_0k h1_0c h0_0 h0_0k j119_h0_0c) H) (hD : va_D A (wd_c_X4_faultOf h0 h0_0 j119_h0_f1 h0_2 h1 h1_0 h1_f1 j119_h1_f2 j119_h1_f3 h1_0 h1_0k h1_0c h0_0 h0_0k j119_h0_0c)) (hS : va_S A s.heap H locs) (hl : lv_has ls 4 [(1, .ref h1)]), G H locs (F0 m 119 ls []) := by
    as_aux_lemma =>
    intro j119_h0_f1 j119_h1_f2 j119_h1_f3 j119_h0_0c g_h0_f1 g_h1_f1 g_h1_f2 g_h1_f3 g_j119_h0_f1 g_j119_h1_f2 g_j119_h1_f3 H locs ls hP hD hS hl
    refine hG _ _ _ ?_
    refine lv_aload_n hx hb dX4_faultOf_119 rfl (lv_at hl 0 rfl) ?_
    obtain ⟨hPc, hDc, hFc, hqc⟩ := cl_cut (wc := (wd_c_X9_expectEnd h1 h1_0 h1_f1 j119_h1_f2 j119_h1_f3 h1_0 h1_0k h1_0c)) hP hD hS hA [1, 2] (by decide +kernel) rfl
    have hKc := hK.sub (tys' := [(h1_0k, .int)]) [0] rfl
    have hrv := va_recv hKc hPc (ci := 9) (q0 := 0) rfl rfl
    refine va_callv (va_runV (As := []) (rest := []) ⟨hx, hb, hml, hown, hts⟩ (c_X9_expectEnd l dC dI H.size h1 h1_0 h1_f1 j119_h1_f2 j119_h1_f3 h1_0k h1_0c g_h1_f1 g_j119_h1_f2 g_j119_h1_f3 a_h1_0c) (cwV 0 hts gf_c_X4_faultOf_c_X9_expectEnd rfl rfl rfl mdV_X9_expectEnd ⟨Nat.le_of_ble_eq_true rfl, Nat.le_of_ble_eq_true rfl⟩) ⟨fun a U g mk q => by obtain ⟨q0, q1, qP, qK, qD⟩ := q; exact ⟨q0, q1, qP, va_K.moved (u := U) (U := U.calling g mk a) (Vm.Alike.refl U.vm) qK, qD⟩, hrv, fun U hU hW => ⟨rfl, by rw [hU], by rw [hU]; exact hPc, va_K.moved hW.alike hKc, hDc.weaken (fun _ _ _ _ => trivial)⟩⟩ rfl rfl hl.1 rfl (lv_room (Nat.le_of_ble_eq_true rfl)) dX4_faultOf_120 ⟨Nat.le_of_ble_eq_true rfl, Nat.le_of_ble_eq_true rfl⟩) hS (fun q _ h => hFc q h) hFc (fun u t H1 locs ht hvm hw hB hz1 hk1 hS => ?_)
    obtain ⟨x_2, x_3⟩ := u
    obtain ⟨hP1, hK1, hD1⟩ := hB
    rw [ht] at hP1
    obtain ⟨hP, hD⟩ := cl_put (w1 := (wd_c_X9_expectEnd h1 h1_0 h1_f1 x_2 x_3 h1_0 h1_0k h1_0c)) (nw := (wd_c_X4_faultOf h0 h0_0 j119_h0_f1 h0_2 h1 h1_0 h1_f1 x_2 x_3 h1_0 h1_0k h1_0c h0_0 h0_0k j119_h0_0c)) hP hD [1, 2] [0, 4, 5, 3] 4 rfl hqc (by decide +kernel) rfl hk1 hFc hP1 hD1
    generalize H1 = H at hP hS ⊢
    as_aux_lemma =>
    rcases hw with ⟨h_4, h_5, h_6⟩
    refine lv_aload_n hx hb dX4_faultOf_123 rfl (lv_at hl 0 rfl) ?_
    obtain ⟨hPc, hDc, hFc, hqc⟩ := cl_cut (wc := (wd_c_X9_wrongAt h1 h1_0 h1_f1 x_2 x_3)) hP hD hS hA [1] (by decide +kernel) rfl
    have hKc := hK.sub (tys' := []) [] rfl
    have hrv := va_recv hKc hPc (ci := 9) (q0 := 0) rfl rfl
    refine va_calli (va_runV (As := []) (rest := []) ⟨hx, hb, hml, hown, hts⟩ (c_X9_wrongAt l dC dI H.size h1 h1_0 h1_f1 x_2 x_3 g_h1_f1 h_4 h_5) (cwV 0 hts gf_c_X4_faultOf_c_X9_wrongAt rfl rfl rfl mdV_X9_wrongAt ⟨Nat.le_of_ble_eq_true rfl, Nat.le_of_ble_eq_true rfl⟩) ⟨fun a U g mk q => by obtain ⟨q0, q1, qP, qK, qD⟩ := q; exact ⟨q0, q1, qP, va_K.moved (u := U) (U := U.calling g mk a) (Vm.Alike.refl U.vm) qK, qD⟩, hrv, fun U hU hW => ⟨rfl, by rw [hU], by rw [hU]; exact hPc, va_K.moved hW.alike hKc, hDc.weaken (fun _ _ _ _ => trivial)⟩⟩ rfl rfl hl.1 rfl (lv_room (Nat.le_of_ble_eq_true rfl)) dX4_faultOf_124 ⟨Nat.le_of_ble_eq_true rfl, Nat.le_of_ble_eq_true rfl⟩) hS (fun q _ h => hFc q h) hFc (fun r_7 u t H1 locs ht hvm hw hB hz1 hk1 hS => ?_)
    obtain ⟨hP1, hK1, hD1⟩ := hB
    rw [ht] at hP1
    obtain ⟨hP, hD⟩ := cl_put (w1 := (wd_c_X9_wrongAt h1 h1_0 h1_f1 x_2 x_3)) (nw := (wd_c_X4_faultOf h0 h0_0 j119_h0_f1 h0_2 h1 h1_0 h1_f1 x_2 x_3 h1_0 h1_0k h1_0c h0_0 h0_0k j119_h0_0c)) hP hD [1] [0, 4, 2, 3] 4 rfl hqc (by decide +kernel) rfl hk1 hFc hP1 hD1
    generalize H1 = H at hP hS ⊢
    as_aux_lemma =>
    have h_8 := hw
    have hK9 := hK.sub (tys' := []) [] rfl
    exact W.iret (v := r_7) hx hb hr (fun t ht hW => ⟨⟨r_7, (j119_h0_f1, x_2, x_3, j119_h0_0c), rfl, ⟨h_8, g_j119_h0_f1, h_4, h_5⟩, by rw [ht]; exact hP, va_K.moved hW.alike hK9, hD⟩, hS.F ht⟩) hS.2.2 dX4_faultOf_127
  have J11 : ∀ (n11 : Nat) (j11_l2 : Int32) (j11_h0_f1 : Int32) (j11_h1_f2 : Int32) (j11_h1_f3 : Int32) (j11_h0_0c : Nat → Int32) (hM11 : MU j11_l2 < n11) (g_h0_f1 : RG h0_f1 0 240) (g_h1_f1 : RG h1_f1 0 240) (g_h1_f2 : RG h1_f2 0 240) (g_h1_f3 : RG h1_f3 (-1) 240) (g_j11_h0_f1 : RG j11_h0_f1 0 240) (g_j11_h1_f2 : RG j11_h1_f2 0 240) (g_j11_h1_f3 : RG j11_h1_f3 (-1) (-1)) (g_j11_l2 : RG j11_l2 0 240) (H : Heap) (locs : List Loc) (ls : Array Slot) (hP : va_P (dC, dI) vwCl (wd_c_X4_faultOf h0 h0_0 j11_h0_f1 h0_2 h1 h1_0 h1_f1 j11_h1_f2 j11_h1_f3 h1_0 h1_0k h1_0c h0_0 h0_0k j11_h0_0c) H) (hD : va_D A (wd_c_X4_faultOf h0 h0_0 j11_h0_f1 h0_2 h1 h1_0 h1_f1 j11_h1_f2 j11_h1_f3 h1_0 h1_0k h1_0c h0_0 h0_0k j11_h0_0c)) (hS : va_S A s.heap H locs) (hl : lv_has ls 4 [(2, .int j11_l2), (0, .ref h0), (1, .ref h1)]), G H locs (F0 m 11 ls []) := by
    as_aux_lemma =>
    intro n11
    induction n11 with
    | zero => intros; exact absurd (by assumption) (Nat.not_lt_zero _)
    | succ n11 ih11 =>
      intro j11_l2 j11_h0_f1 j11_h1_f2 j11_h1_f3 j11_h0_0c hM11 g_h0_f1 g_h1_f1 g_h1_f2 g_h1_f3 g_j11_h0_f1 g_j11_h1_f2 g_j11_h1_f3 g_j11_l2 H locs ls hP hD hS hl
      have J95 : ∀ (j95_h0_f1 : Int32) (j95_h1_f2 : Int32) (j95_h1_f3 : Int32) (j95_h0_0c : Nat → Int32) (g_h0_f1 : RG h0_f1 0 240) (g_h1_f1 : RG h1_f1 0 240) (g_h1_f2 : RG h1_f2 0 240) (g_h1_f3 : RG h1_f3 (-1) 240) (g_j11_h0_f1 : RG j11_h0_f1 0 240) (g_j11_h1_f2 : RG j11_h1_f2 0 240) (g_j11_h1_f3 : RG j11_h1_f3 (-1) (-1)) (g_j11_l2 : RG j11_l2 0 239) (g_j95_h0_f1 : RG j95_h0_f1 0 240) (g_j95_h1_f2 : RG j95_h1_f2 0 240) (g_j95_h1_f3 : RG j95_h1_f3 (-1) 240) (H : Heap) (locs : List Loc) (ls : Array Slot) (hP : va_P (dC, dI) vwCl (wd_c_X4_faultOf h0 h0_0 j95_h0_f1 h0_2 h1 h1_0 h1_f1 j95_h1_f2 j95_h1_f3 h1_0 h1_0k h1_0c h0_0 h0_0k j95_h0_0c) H) (hD : va_D A (wd_c_X4_faultOf h0 h0_0 j95_h0_f1 h0_2 h1 h1_0 h1_f1 j95_h1_f2 j95_h1_f3 h1_0 h1_0k h1_0c h0_0 h0_0k j95_h0_0c)) (hS : va_S A s.heap H locs) (hl : lv_has ls 4 [(2, .int j11_l2), (0, .ref h0), (1, .ref h1)]), G H locs (F0 m 95 ls []) := by
        as_aux_lemma =>
        intro j95_h0_f1 j95_h1_f2 j95_h1_f3 j95_h0_0c g_h0_f1 g_h1_f1 g_h1_f2 g_h1_f3 g_j11_h0_f1 g_j11_h1_f2 g_j11_h1_f3 g_j11_l2 g_j95_h0_f1 g_j95_h1_f2 g_j95_h1_f3 H locs ls hP hD hS hl
        refine hG _ _ _ ?_
        refine lv_aload_n hx hb dX4_faultOf_95 rfl (lv_at hl 1 rfl) ?_
        refine lv_bipush (v := (-59)) hx hb dX4_faultOf_96 kc_bipush_m59 ?_
        obtain ⟨hPc, hDc, hFc, hqc⟩ := cl_cut (wc := (wd_c_X4_emit h0 h0_0 j95_h0_f1 h0_2 h0_0 h0_0k j95_h0_0c)) hP hD hS hA [0, 3] (by decide +kernel) rfl
        have hKc := hK.sub (tys' := [(h0_0k, .int)]) [1] rfl
        have hrv := va_recv hKc hPc (ci := 4) (q0 := 0) rfl rfl
        refine va_callv (va_runV (As := [.int (-59)]) (rest := []) ⟨hx, hb, hml, hown, hts⟩ (c_X4_emit l dC dI H.size h0 (-59) h0_0 j95_h0_f1 h0_2 h0_0k j95_h0_0c g_j95_h0_f1) (cwV 1 hts gf_c_X4_faultOf_c_X4_emit rfl rfl rfl mdV_X4_emit ⟨Nat.le_of_ble_eq_true rfl, Nat.le_of_ble_eq_true rfl⟩) ⟨fun a U g mk q => by obtain ⟨q0, q1, qP, qK, qD⟩ := q; exact ⟨q0, q1, qP, va_K.moved (u := U) (U := U.calling g mk a) (Vm.Alike.refl U.vm) qK, qD⟩, hrv, fun U hU hW => ⟨rfl, by rw [hU], by rw [hU]; exact hPc, va_K.moved hW.alike hKc, hDc.weaken (fun _ _ _ _ => trivial)⟩⟩ rfl rfl hl.1 rfl (lv_room (Nat.le_of_ble_eq_true rfl)) dX4_faultOf_98 ⟨Nat.le_of_ble_eq_true rfl, Nat.le_of_ble_eq_true rfl⟩) hS (fun q _ h => hFc q h) hFc (fun u t H1 locs ht hvm hw hB hz1 hk1 hS => ?_)
        obtain ⟨x_10, w_11⟩ := u
        obtain ⟨hP1, hK1, hD1⟩ := hB
        rw [ht] at hP1
        obtain ⟨hP, hD⟩ := cl_put (w1 := (wd_c_X4_emit h0 h0_0 x_10 h0_2 h0_0 h0_0k w_11)) (nw := (wd_c_X4_faultOf h0 h0_0 x_10 h0_2 h1 h1_0 h1_f1 j95_h1_f2 j95_h1_f3 h1_0 h1_0k h1_0c h0_0 h0_0k w_11)) hP hD [0, 3] [4, 1, 2, 5] 4 rfl hqc (by decide +kernel) rfl hk1 hFc hP1 hD1
        generalize H1 = H at hP hS ⊢
        as_aux_lemma =>
        have h_12 := hw
        refine lv_aload_n hx hb dX4_faultOf_101 rfl (lv_at hl 2 rfl) ?_
        refine lv_bipush (v := 59) hx hb dX4_faultOf_102 kc_bipush_59 ?_
        obtain ⟨hPc, hDc, hFc, hqc⟩ := cl_cut (wc := (wd_c_X9_take h1 h1_0 h1_f1 j95_h1_f2 j95_h1_f3 h1_0 h1_0k h1_0c)) hP hD hS hA [1, 2] (by decide +kernel) rfl
        have hKc := hK.sub (tys' := [(h1_0k, .int)]) [0] rfl
        have hrv := va_recv hKc hPc (ci := 9) (q0 := 0) rfl rfl
        refine va_calli (va_runV (As := [.int 59]) (rest := []) ⟨hx, hb, hml, hown, hts⟩ (c_X9_take l dC dI H.size h1 59 h1_0 h1_f1 j95_h1_f2 j95_h1_f3 h1_0k h1_0c (RG_w (RG_k 59 59 rfl) (by decide +kernel)) g_h1_f1 g_j95_h1_f2 g_j95_h1_f3 a_h1_0c) (cwV 1 hts gf_c_X4_faultOf_c_X9_take rfl rfl rfl mdV_X9_take ⟨Nat.le_of_ble_eq_true rfl, Nat.le_of_ble_eq_true rfl⟩) ⟨fun a U g mk q => by obtain ⟨q0, q1, qP, qK, qD⟩ := q; exact ⟨q0, q1, qP, va_K.moved (u := U) (U := U.calling g mk a) (Vm.Alike.refl U.vm) qK, qD⟩, hrv, fun U hU hW => ⟨rfl, by rw [hU], by rw [hU]; exact hPc, va_K.moved hW.alike hKc, hDc.weaken (fun _ _ _ _ => trivial)⟩⟩ rfl rfl hl.1 rfl (lv_room (Nat.le_of_ble_eq_true rfl)) dX4_faultOf_104 ⟨Nat.le_of_ble_eq_true rfl, Nat.le_of_ble_eq_true rfl⟩) hS (fun q _ h => hFc q h) hFc (fun r_13 x_14 t H1 locs ht hvm hw hB hz1 hk1 hS => ?_)
        obtain ⟨hP1, hK1, hD1⟩ := hB
        rw [ht] at hP1
        obtain ⟨hP, hD⟩ := cl_put (w1 := (wd_c_X9_take h1 h1_0 h1_f1 x_14 j95_h1_f3 h1_0 h1_0k h1_0c)) (nw := (wd_c_X4_faultOf h0 h0_0 x_10 h0_2 h1 h1_0 h1_f1 x_14 j95_h1_f3 h1_0 h1_0k h1_0c h0_0 h0_0k w_11)) hP hD [1, 2] [0, 4, 5, 3] 4 rfl hqc (by decide +kernel) rfl hk1 hFc hP1 hD1
        generalize H1 = H at hP hS ⊢
        as_aux_lemma =>
        rcases hw with ⟨h_15, h_16, h_17⟩ | ⟨h_18, h_19, h_20, h_21, h_22⟩
        · rw [h_15]
          refine lv_if_ne (tgt := 113) hx hb dX4_faultOf_107 rfl (fun c_23 => absurd c_23 (by decide +kernel)) (fun c_23 => ?_)
          refine lv_goto (tgt := 119) hx hb dX4_faultOf_110 rfl ?_
          exact hU _ _ _ (J119 x_10 x_14 j95_h1_f3 w_11 g_h0_f1 g_h1_f1 g_h1_f2 g_h1_f3 (RG_w h_12 (by decide +kernel)) h_16 g_j95_h1_f3 _ _ _ hP hD hS (lv_sub hl [2] rfl))
        · rw [h_18]
          refine lv_if_ne (tgt := 113) hx hb dX4_faultOf_107 rfl (fun c_24 => ?_) (fun c_24 => absurd c_24 (by decide +kernel))
          obtain ⟨x_25, ex_25⟩ : ∃ y : Int32, y = j11_l2 + 1 := ⟨_, rfl⟩
          have g_26 : RG x_25 1 240 := RG_add ex_25 g_j11_l2 (RG_k 1 1 rfl) (by decide +kernel)
          refine lv_iinc (v := x_25) (lv' := [(2, .int x_25), (0, .ref h0), (1, .ref h1)]) hx hb dX4_faultOf_113 hl (k := 0) rfl (by rw [ex_25]; rfl) (Nat.le_of_ble_eq_true rfl) rfl (fun ls hl => ?_)
          refine lv_goto (tgt := 11) hx hb dX4_faultOf_116 rfl ?_
          exact hU _ _ _ (ih11 x_25 x_10 x_14 j95_h1_f3 w_11 (mu_s (MU_add ex_25 g_j11_l2 (q := 1) rfl (by decide +kernel)) hM11) g_h0_f1 (RG_w h_20 (by decide +kernel)) g_h1_f2 g_h1_f3 (RG_w h_12 (by decide +kernel)) (RG_w h_19 (by decide +kernel)) h_21 (RG_w g_26 (by decide +kernel)) _ _ _ hP hD hS (lv_sub hl [0, 1, 2] rfl))
      have J70 : ∀ (j70_l3 : Int32) (j70_h0_f1 : Int32) (j70_h1_f2 : Int32) (j70_h1_f3 : Int32) (j70_h0_0c : Nat → Int32) (g_h0_f1 : RG h0_f1 0 240) (g_h1_f1 : RG h1_f1 0 240) (g_h1_f2 : RG h1_f2 0 240) (g_h1_f3 : RG h1_f3 (-1) 240) (g_j11_h0_f1 : RG j11_h0_f1 0 240) (g_j11_h1_f2 : RG j11_h1_f2 0 240) (g_j11_h1_f3 : RG j11_h1_f3 (-1) (-1)) (g_j11_l2 : RG j11_l2 0 239) (g_j70_h0_f1 : RG j70_h0_f1 0 240) (g_j70_h1_f2 : RG j70_h1_f2 0 240) (g_j70_h1_f3 : RG j70_h1_f3 (-1) 240) (g_j70_l3 : RG j70_l3 0 1) (H : Heap) (locs : List Loc) (ls : Array Slot) (hP : va_P (dC, dI) vwCl (wd_c_X4_faultOf h0 h0_0 j70_h0_f1 h0_2 h1 h1_0 h1_f1 j70_h1_f2 j70_h1_f3 h1_0 h1_0k h1_0c h0_0 h0_0k j70_h0_0c) H) (hD : va_D A (wd_c_X4_faultOf h0 h0_0 j70_h0_f1 h0_2 h1 h1_0 h1_f1 j70_h1_f2 j70_h1_f3 h1_0 h1_0k h1_0c h0_0 h0_0k j70_h0_0c)) (hS : va_S A s.heap H locs) (hl : lv_has ls 4 [(3, .int j70_l3), (2, .int j11_l2), (0, .ref h0), (1, .ref h1)]), G H locs (F0 m 70 ls []) := by
        as_aux_lemma =>
        intro j70_l3 j70_h0_f1 j70_h1_f2 j70_h1_f3 j70_h0_0c g_h0_f1 g_h1_f1 g_h1_f2 g_h1_f3 g_j11_h0_f1 g_j11_h1_f2 g_j11_h1_f3 g_j11_l2 g_j70_h0_f1 g_j70_h1_f2 g_j70_h1_f3 g_j70_l3 H locs ls hP hD hS hl
        refine hG _ _ _ ?_
        refine lv_aload_n hx hb dX4_faultOf_70 rfl (lv_at hl 2 rfl) ?_
        refine lv_aload_n hx hb dX4_faultOf_71 rfl (lv_at hl 3 rfl) ?_
        refine lv_iconst (v := 0) hx hb dX4_faultOf_72 kc_iconst_0 ?_
        refine lv_iload_n hx hb dX4_faultOf_73 rfl (lv_at hl 0 rfl) ?_
        obtain ⟨hPc, hDc, hFc, hqc⟩ := cl_cut (wc := (wd_c_X4_readCondition h1 h1_0 h1_f1 j70_h1_f2 j70_h1_f3 h1_0 h1_0k h1_0c h0 h0_0 j70_h0_f1 h0_2 h0_0 h0_0k j70_h0_0c)) hP hD hS hA [1, 2, 0, 3] (by decide +kernel) rfl
        have hKc := hK.sub (tys' := [(h1_0k, .int), (h0_0k, .int)]) [0, 1] rfl
        have hrv := va_recv hKc hPc (ci := 4) (q0 := 2) rfl rfl
        refine va_callv (va_runV (As := [.ref h1, .int 0, .int j70_l3]) (rest := []) ⟨hx, hb, hml, hown, hts⟩ (c_X4_readCondition l dC dI H.size h0 h1 j70_l3 h1_0 h1_f1 j70_h1_f2 j70_h1_f3 h1_0k h1_0c h0_0 j70_h0_f1 h0_2 h0_0k j70_h0_0c ts4 tv4 g_j70_l3 g_h1_f1 g_j70_h1_f2 g_j70_h1_f3 a_h1_0c g_j70_h0_f1) (cwV 3 hts gf_c_X4_faultOf_c_X4_readCondition rfl rfl rfl mdV_X4_readCondition ⟨Nat.le_of_ble_eq_true rfl, Nat.le_of_ble_eq_true rfl⟩) ⟨fun a U g mk q => by obtain ⟨q0, q1, qP, qK, qD, qE0, qE1, qE2, qE3, qE4, qE5⟩ := q; exact ⟨q0, q1, qP, va_K.moved (u := U) (U := U.calling g mk a) (Vm.Alike.refl U.vm) qK, qD, vk_R.same rfl qE0, va_Z.moved (u := U) (U := U.calling g mk a) (Vm.Alike.refl U.vm) qE1, va_OF.moved (u := U) (U := U.calling g mk a) (Vm.Alike.refl U.vm) qE2, va_O.moved (u := U) (U := U.calling g mk a) (Vm.Alike.refl U.vm) qE3, va_OF.moved (u := U) (U := U.calling g mk a) (Vm.Alike.refl U.vm) qE4, va_T.moved (u := U) (U := U.calling g mk a) (Vm.Alike.refl U.vm) qE5⟩, hrv, fun U hU hW => ⟨rfl, by rw [hU], by rw [hU]; exact hPc, va_K.moved hW.alike hKc, hDc.weaken (fun _ _ _ _ => trivial), vk_R.warm hW hE_32, va_Z.moved hW.alike (by rw [hU]; exact (hE_10.kept hS.2.1).narrow hFc), va_OF.moved hW.alike (by rw [hU]; exact (hE_34.kept hS.2.1).narrow hFc), va_O.moved hW.alike (by rw [hU]; exact (hE_33.kept hS.2.1).narrow hFc), va_OF.moved hW.alike (by rw [hU]; exact (hE_35.kept hS.2.1).narrow hFc), va_T.moved hW.alike (by rw [hU]; exact (hE_36.kept hS.2.1).narrow hFc)⟩⟩ rfl rfl hl.1 rfl (lv_room (Nat.le_of_ble_eq_true rfl)) dX4_faultOf_74 ⟨Nat.le_of_ble_eq_true rfl, Nat.le_of_ble_eq_true rfl⟩) hS (fun q _ h => hFc q h) hFc (fun u t H1 locs ht hvm hw hB hz1 hk1 hS => ?_)
        obtain ⟨x_28, x_29, x_30, w_31⟩ := u
        obtain ⟨hP1, hK1, hD1⟩ := hB
        rw [ht] at hP1
        obtain ⟨hP, hD⟩ := cl_put (w1 := (wd_c_X4_readCondition h1 h1_0 h1_f1 x_28 x_29 h1_0 h1_0k h1_0c h0 h0_0 x_30 h0_2 h0_0 h0_0k w_31)) (nw := (wd_c_X4_faultOf h0 h0_0 x_30 h0_2 h1 h1_0 h1_f1 x_28 x_29 h1_0 h1_0k h1_0c h0_0 h0_0k w_31)) hP hD [1, 2, 0, 3] [6, 4, 5, 7] 4 rfl hqc (by decide +kernel) rfl hk1 hFc hP1 hD1
        generalize H1 = H at hP hS ⊢
        as_aux_lemma =>
        rcases hw with ⟨h_32, h_33, h_34⟩
        refine lv_aload_n hx hb dX4_faultOf_77 rfl (lv_at hl 3 rfl) ?_
        refine lv_bipush (v := 63) hx hb dX4_faultOf_78 kc_bipush_63 ?_
        obtain ⟨hPc, hDc, hFc, hqc⟩ := cl_cut (wc := (wd_c_X9_expect_3 h1 h1_0 h1_f1 x_28 x_29 h1_0 h1_0k h1_0c)) hP hD hS hA [1, 2] (by decide +kernel) rfl
        have hKc := hK.sub (tys' := [(h1_0k, .int)]) [0] rfl
        have hrv := va_recv hKc hPc (ci := 9) (q0 := 0) rfl rfl
        refine va_callv (va_runV (As := [.int 63]) (rest := []) ⟨hx, hb, hml, hown, hts⟩ (c_X9_expect_3 l dC dI H.size h1 63 h1_0 h1_f1 x_28 x_29 h1_0k h1_0c (RG_w (RG_k 63 63 rfl) (by decide +kernel)) g_h1_f1 h_32 h_33 a_h1_0c) (cwV 1 hts gf_c_X4_faultOf_c_X9_expect_3 rfl rfl rfl mdV_X9_expect ⟨Nat.le_of_ble_eq_true rfl, Nat.le_of_ble_eq_true rfl⟩) ⟨fun a U g mk q => by obtain ⟨q0, q1, qP, qK, qD⟩ := q; exact ⟨q0, q1, qP, va_K.moved (u := U) (U := U.calling g mk a) (Vm.Alike.refl U.vm) qK, qD⟩, hrv, fun U hU hW => ⟨rfl, by rw [hU], by rw [hU]; exact hPc, va_K.moved hW.alike hKc, hDc.weaken (fun _ _ _ _ => trivial)⟩⟩ rfl rfl hl.1 rfl (lv_room (Nat.le_of_ble_eq_true rfl)) dX4_faultOf_80 ⟨Nat.le_of_ble_eq_true rfl, Nat.le_of_ble_eq_true rfl⟩) hS (fun q _ h => hFc q h) hFc (fun u t H1 locs ht hvm hw hB hz1 hk1 hS => ?_)
        obtain ⟨x_36, x_37⟩ := u
        obtain ⟨hP1, hK1, hD1⟩ := hB
        rw [ht] at hP1
        obtain ⟨hP, hD⟩ := cl_put (w1 := (wd_c_X9_expect_3 h1 h1_0 h1_f1 x_36 x_37 h1_0 h1_0k h1_0c)) (nw := (wd_c_X4_faultOf h0 h0_0 x_30 h0_2 h1 h1_0 h1_f1 x_36 x_37 h1_0 h1_0k h1_0c h0_0 h0_0k w_31)) hP hD [1, 2] [0, 4, 5, 3] 4 rfl hqc (by decide +kernel) rfl hk1 hFc hP1 hD1
        generalize H1 = H at hP hS ⊢
        as_aux_lemma =>
        rcases hw with ⟨h_38, h_39, h_40⟩
        refine lv_aload_n hx hb dX4_faultOf_83 rfl (lv_at hl 2 rfl) ?_
        refine lv_bipush (v := (-63)) hx hb dX4_faultOf_84 kc_bipush_m63 ?_
        obtain ⟨hPc, hDc, hFc, hqc⟩ := cl_cut (wc := (wd_c_X4_emit h0 h0_0 x_30 h0_2 h0_0 h0_0k w_31)) hP hD hS hA [0, 3] (by decide +kernel) rfl
        have hKc := hK.sub (tys' := [(h0_0k, .int)]) [1] rfl
        have hrv := va_recv hKc hPc (ci := 4) (q0 := 0) rfl rfl
        refine va_callv (va_runV (As := [.int (-63)]) (rest := []) ⟨hx, hb, hml, hown, hts⟩ (c_X4_emit l dC dI H.size h0 (-63) h0_0 x_30 h0_2 h0_0k w_31 h_34) (cwV 1 hts gf_c_X4_faultOf_c_X4_emit rfl rfl rfl mdV_X4_emit ⟨Nat.le_of_ble_eq_true rfl, Nat.le_of_ble_eq_true rfl⟩) ⟨fun a U g mk q => by obtain ⟨q0, q1, qP, qK, qD⟩ := q; exact ⟨q0, q1, qP, va_K.moved (u := U) (U := U.calling g mk a) (Vm.Alike.refl U.vm) qK, qD⟩, hrv, fun U hU hW => ⟨rfl, by rw [hU], by rw [hU]; exact hPc, va_K.moved hW.alike hKc, hDc.weaken (fun _ _ _ _ => trivial)⟩⟩ rfl rfl hl.1 rfl (lv_room (Nat.le_of_ble_eq_true rfl)) dX4_faultOf_86 ⟨Nat.le_of_ble_eq_true rfl, Nat.le_of_ble_eq_true rfl⟩) hS (fun q _ h => hFc q h) hFc (fun u t H1 locs ht hvm hw hB hz1 hk1 hS => ?_)
        obtain ⟨x_42, w_43⟩ := u
        obtain ⟨hP1, hK1, hD1⟩ := hB
        rw [ht] at hP1
        obtain ⟨hP, hD⟩ := cl_put (w1 := (wd_c_X4_emit h0 h0_0 x_42 h0_2 h0_0 h0_0k w_43)) (nw := (wd_c_X4_faultOf h0 h0_0 x_42 h0_2 h1 h1_0 h1_f1 x_36 x_37 h1_0 h1_0k h1_0c h0_0 h0_0k w_43)) hP hD [0, 3] [4, 1, 2, 5] 4 rfl hqc (by decide +kernel) rfl hk1 hFc hP1 hD1
        generalize H1 = H at hP hS ⊢
        as_aux_lemma =>
        have h_44 := hw
        refine lv_aload_n hx hb dX4_faultOf_89 rfl (lv_at hl 2 rfl) ?_
        refine lv_aload_n hx hb dX4_faultOf_90 rfl (lv_at hl 3 rfl) ?_
        refine lv_iconst (v := 0) hx hb dX4_faultOf_91 kc_iconst_0 ?_
        obtain ⟨hPc, hDc, hFc, hqc⟩ := cl_cut (wc := (wd_c_X4_readSum h1 h1_0 h1_f1 x_36 x_37 h1_0 h1_0k h1_0c h0 h0_0 x_42 h0_2 h0_0 h0_0k w_43)) hP hD hS hA [1, 2, 0, 3] (by decide +kernel) rfl
        have hKc := hK.sub (tys' := [(h1_0k, .int), (h0_0k, .int)]) [0, 1] rfl
        have hrv := va_recv hKc hPc (ci := 4) (q0 := 2) rfl rfl
        refine va_callv (va_runV (As := [.ref h1, .int 0]) (rest := []) ⟨hx, hb, hml, hown, hts⟩ (c_X4_readSum l dC dI H.size h0 h1 h1_0 h1_f1 x_36 x_37 h1_0k h1_0c h0_0 x_42 h0_2 h0_0k w_43 ts4 tv4 g_h1_f1 h_38 h_39 a_h1_0c (RG_w h_44 (by decide +kernel))) (cwV 2 hts gf_c_X4_faultOf_c_X4_readSum rfl rfl rfl mdV_X4_readSum ⟨Nat.le_of_ble_eq_true rfl, Nat.le_of_ble_eq_true rfl⟩) ⟨fun a U g mk q => by obtain ⟨q0, q1, qP, qK, qD, qE0, qE1, qE2, qE3, qE4, qE5⟩ := q; exact ⟨q0, q1, qP, va_K.moved (u := U) (U := U.calling g mk a) (Vm.Alike.refl U.vm) qK, qD, vk_R.same rfl qE0, va_Z.moved (u := U) (U := U.calling g mk a) (Vm.Alike.refl U.vm) qE1, va_OF.moved (u := U) (U := U.calling g mk a) (Vm.Alike.refl U.vm) qE2, va_O.moved (u := U) (U := U.calling g mk a) (Vm.Alike.refl U.vm) qE3, va_OF.moved (u := U) (U := U.calling g mk a) (Vm.Alike.refl U.vm) qE4, va_T.moved (u := U) (U := U.calling g mk a) (Vm.Alike.refl U.vm) qE5⟩, hrv, fun U hU hW => ⟨rfl, by rw [hU], by rw [hU]; exact hPc, va_K.moved hW.alike hKc, hDc.weaken (fun _ _ _ _ => trivial), vk_R.warm hW hE_32, va_Z.moved hW.alike (by rw [hU]; exact (hE_10.kept hS.2.1).narrow hFc), va_OF.moved hW.alike (by rw [hU]; exact (hE_34.kept hS.2.1).narrow hFc), va_O.moved hW.alike (by rw [hU]; exact (hE_33.kept hS.2.1).narrow hFc), va_OF.moved hW.alike (by rw [hU]; exact (hE_35.kept hS.2.1).narrow hFc), va_T.moved hW.alike (by rw [hU]; exact (hE_36.kept hS.2.1).narrow hFc)⟩⟩ rfl rfl hl.1 rfl (lv_room (Nat.le_of_ble_eq_true rfl)) dX4_faultOf_92 ⟨Nat.le_of_ble_eq_true rfl, Nat.le_of_ble_eq_true rfl⟩) hS (fun q _ h => hFc q h) hFc (fun u t H1 locs ht hvm hw hB hz1 hk1 hS => ?_)
        obtain ⟨x_46, x_47, x_48, w_49⟩ := u
        obtain ⟨hP1, hK1, hD1⟩ := hB
        rw [ht] at hP1
        obtain ⟨hP, hD⟩ := cl_put (w1 := (wd_c_X4_readSum h1 h1_0 h1_f1 x_46 x_47 h1_0 h1_0k h1_0c h0 h0_0 x_48 h0_2 h0_0 h0_0k w_49)) (nw := (wd_c_X4_faultOf h0 h0_0 x_48 h0_2 h1 h1_0 h1_f1 x_46 x_47 h1_0 h1_0k h1_0c h0_0 h0_0k w_49)) hP hD [1, 2, 0, 3] [6, 4, 5, 7] 4 rfl hqc (by decide +kernel) rfl hk1 hFc hP1 hD1
        generalize H1 = H at hP hS ⊢
        as_aux_lemma =>
        rcases hw with ⟨h_50, h_51, h_52⟩
        exact hU _ _ _ (J95 x_48 x_46 x_47 w_49 g_h0_f1 g_h1_f1 g_h1_f2 g_h1_f3 g_j11_h0_f1 g_j11_h1_f2 g_j11_h1_f3 g_j11_l2 h_52 h_50 h_51 _ _ _ hP hD hS (lv_sub hl [1, 2, 3] rfl))
      have J56 : ∀ (j56_l3 : Int32) (j56_h0_f1 : Int32) (j56_h1_f2 : Int32) (j56_h1_f3 : Int32) (j56_h0_0c : Nat → Int32) (g_h0_f1 : RG h0_f1 0 240) (g_h1_f1 : RG h1_f1 0 240) (g_h1_f2 : RG h1_f2 0 240) (g_h1_f3 : RG h1_f3 (-1) 240) (g_j11_h0_f1 : RG j11_h0_f1 0 240) (g_j11_h1_f2 : RG j11_h1_f2 0 240) (g_j11_h1_f3 : RG j11_h1_f3 (-1) (-1)) (g_j11_l2 : RG j11_l2 0 239) (g_j56_h0_f1 : RG j56_h0_f1 0 240) (g_j56_h1_f2 : RG j56_h1_f2 0 240) (g_j56_h1_f3 : RG j56_h1_f3 (-1) 240) (g_j56_l3 : RG j56_l3 0 1) (H : Heap) (locs : List Loc) (ls : Array Slot) (hP : va_P (dC, dI) vwCl (wd_c_X4_faultOf h0 h0_0 j56_h0_f1 h0_2 h1 h1_0 h1_f1 j56_h1_f2 j56_h1_f3 h1_0 h1_0k h1_0c h0_0 h0_0k j56_h0_0c) H) (hD : va_D A (wd_c_X4_faultOf h0 h0_0 j56_h0_f1 h0_2 h1 h1_0 h1_f1 j56_h1_f2 j56_h1_f3 h1_0 h1_0k h1_0c h0_0 h0_0k j56_h0_0c)) (hS : va_S A s.heap H locs) (hl : lv_has ls 4 [(3, .int j56_l3), (2, .int j11_l2), (0, .ref h0), (1, .ref h1)]), G H locs (F0 m 56 ls []) := by
        as_aux_lemma =>
        intro j56_l3 j56_h0_f1 j56_h1_f2 j56_h1_f3 j56_h0_0c g_h0_f1 g_h1_f1 g_h1_f2 g_h1_f3 g_j11_h0_f1 g_j11_h1_f2 g_j11_h1_f3 g_j11_l2 g_j56_h0_f1 g_j56_h1_f2 g_j56_h1_f3 g_j56_l3 H locs ls hP hD hS hl
        refine hG _ _ _ ?_
        refine lv_iload_n hx hb dX4_faultOf_56 rfl (lv_at hl 0 rfl) ?_
        refine lv_if_eq (tgt := 70) hx hb dX4_faultOf_57 rfl (fun c_53 => ?_) (fun c_53 => ?_)
        · have g_54 : RG j56_l3 0 0 := RG_eq1 g_j56_l3 (RG_k 0 0 rfl) c_53 (by decide +kernel)
          exact hU _ _ _ (J70 j56_l3 j56_h0_f1 j56_h1_f2 j56_h1_f3 j56_h0_0c g_h0_f1 g_h1_f1 g_h1_f2 g_h1_f3 g_j11_h0_f1 g_j11_h1_f2 g_j11_h1_f3 g_j11_l2 g_j56_h0_f1 g_j56_h1_f2 g_j56_h1_f3 (RG_w g_54 (by decide +kernel)) _ _ _ hP hD hS (lv_sub hl [0, 1, 2, 3] rfl))
        · have g_55 : RG j56_l3 1 1 := RG_ne1 g_j56_l3 (q := 0) rfl c_53 (by decide +kernel)
          refine lv_aload_n hx hb dX4_faultOf_60 rfl (lv_at hl 3 rfl) ?_
          obtain ⟨hPc, hDc, hFc, hqc⟩ := cl_cut (wc := (wd_c_X9_peek h1 h1_0 h1_f1 j56_h1_f2 j56_h1_f3 h1_0 h1_0k h1_0c)) hP hD hS hA [1, 2] (by decide +kernel) rfl
          have hKc := hK.sub (tys' := [(h1_0k, .int)]) [0] rfl
          have hrv := va_recv hKc hPc (ci := 9) (q0 := 0) rfl rfl
          refine va_calli (va_runV (As := []) (rest := []) ⟨hx, hb, hml, hown, hts⟩ (c_X9_peek l dC dI H.size h1 h1_0 h1_f1 j56_h1_f2 j56_h1_f3 h1_0k h1_0c g_h1_f1 g_j56_h1_f2 g_j56_h1_f3 a_h1_0c) (cwV 0 hts gf_c_X4_faultOf_c_X9_peek rfl rfl rfl mdV_X9_peek ⟨Nat.le_of_ble_eq_true rfl, Nat.le_of_ble_eq_true rfl⟩) ⟨fun a U g mk q => by obtain ⟨q0, q1, qP, qK, qD⟩ := q; exact ⟨q0, q1, qP, va_K.moved (u := U) (U := U.calling g mk a) (Vm.Alike.refl U.vm) qK, qD⟩, hrv, fun U hU hW => ⟨rfl, by rw [hU], by rw [hU]; exact hPc, va_K.moved hW.alike hKc, hDc.weaken (fun _ _ _ _ => trivial)⟩⟩ rfl rfl hl.1 rfl (lv_room (Nat.le_of_ble_eq_true rfl)) dX4_faultOf_61 ⟨Nat.le_of_ble_eq_true rfl, Nat.le_of_ble_eq_true rfl⟩) hS (fun q _ h => hFc q h) hFc (fun r_56 x_57 t H1 locs ht hvm hw hB hz1 hk1 hS => ?_)
          obtain ⟨hP1, hK1, hD1⟩ := hB
          rw [ht] at hP1
          obtain ⟨hP, hD⟩ := cl_put (w1 := (wd_c_X9_peek h1 h1_0 h1_f1 x_57 j56_h1_f3 h1_0 h1_0k h1_0c)) (nw := (wd_c_X4_faultOf h0 h0_0 j56_h0_f1 h0_2 h1 h1_0 h1_f1 x_57 j56_h1_f3 h1_0 h1_0k h1_0c h0_0 h0_0k j56_h0_0c)) hP hD [1, 2] [0, 4, 5, 3] 4 rfl hqc (by decide +kernel) rfl hk1 hFc hP1 hD1
          generalize H1 = H at hP hS ⊢
          as_aux_lemma =>
          rcases hw with ⟨h_58, h_59, h_60⟩ | ⟨h_61, h_62, h_63, h_64⟩
          · rw [h_58]
            obtain ⟨hPc, hDc, hFc, hqc⟩ := cl_cut (wc := []) hP hD hS hA [] (by decide +kernel) rfl
            have hKc := hK.sub (tys' := []) [] rfl
            refine va_calli (va_runS (As := [.int (-1)]) (rest := []) ⟨hx, hb, hml, hown, hts⟩ (c_X4_isComparison l dC dI H.size (-1) (RG_k (-1) (-1) rfl)) (va_cwS 1 hts gf_c_X4_faultOf_c_X4_isComparison rfl rfl rfl md_X4_isComparison ⟨Nat.le_of_ble_eq_true rfl, Nat.le_of_ble_eq_true rfl⟩) ⟨fun a U g mk q => by obtain ⟨q0, q1, qP, qK, qD⟩ := q; exact ⟨q0, q1, qP, va_K.moved (u := U) (U := U.calling g mk a) (Vm.Alike.refl U.vm) qK, qD⟩, fun U hU hW => ⟨rfl, by rw [hU], by rw [hU]; exact hPc, va_K.moved hW.alike hKc, hDc.weaken (fun _ _ _ _ => trivial)⟩⟩ rfl rfl hl.1 rfl (lv_room (Nat.le_of_ble_eq_true rfl)) dX4_faultOf_64 ⟨Nat.le_of_ble_eq_true rfl, Nat.le_of_ble_eq_true rfl⟩) hS (fun q _ h => hFc q h) hFc (fun r_65 u t H1 locs ht hvm hw hB hz1 hk1 hS => ?_)
            obtain ⟨hP1, hK1, hD1⟩ := hB
            rw [ht] at hP1
            have hP := bv_still hP hk1
            generalize H1 = H at hP hS ⊢
            as_aux_lemma =>
            have h_66 := hw
            rw [h_66]
            refine lv_if_eq (tgt := 95) hx hb dX4_faultOf_67 rfl (fun c_67 => ?_) (fun c_67 => absurd c_67 (by decide +kernel))
            exact hU _ _ _ (J95 j56_h0_f1 x_57 j56_h1_f3 j56_h0_0c g_h0_f1 g_h1_f1 g_h1_f2 g_h1_f3 g_j11_h0_f1 g_j11_h1_f2 g_j11_h1_f3 g_j11_l2 g_j56_h0_f1 h_59 g_j56_h1_f3 _ _ _ hP hD hS (lv_sub hl [1, 2, 3] rfl))
          · obtain ⟨hPc, hDc, hFc, hqc⟩ := cl_cut (wc := []) hP hD hS hA [] (by decide +kernel) rfl
            have hKc := hK.sub (tys' := []) [] rfl
            refine va_calli (va_runS (As := [.int r_56]) (rest := []) ⟨hx, hb, hml, hown, hts⟩ (c_X4_isComparison_1 l dC dI H.size r_56 h_61) (va_cwS 1 hts gf_c_X4_faultOf_c_X4_isComparison_1 rfl rfl rfl md_X4_isComparison ⟨Nat.le_of_ble_eq_true rfl, Nat.le_of_ble_eq_true rfl⟩) ⟨fun a U g mk q => by obtain ⟨q0, q1, qP, qK, qD⟩ := q; exact ⟨q0, q1, qP, va_K.moved (u := U) (U := U.calling g mk a) (Vm.Alike.refl U.vm) qK, qD⟩, fun U hU hW => ⟨rfl, by rw [hU], by rw [hU]; exact hPc, va_K.moved hW.alike hKc, hDc.weaken (fun _ _ _ _ => trivial)⟩⟩ rfl rfl hl.1 rfl (lv_room (Nat.le_of_ble_eq_true rfl)) dX4_faultOf_64 ⟨Nat.le_of_ble_eq_true rfl, Nat.le_of_ble_eq_true rfl⟩) hS (fun q _ h => hFc q h) hFc (fun r_68 u t H1 locs ht hvm hw hB hz1 hk1 hS => ?_)
            obtain ⟨hP1, hK1, hD1⟩ := hB
            rw [ht] at hP1
            have hP := bv_still hP hk1
            generalize H1 = H at hP hS ⊢
            as_aux_lemma =>
            rcases hw with h_69 | ⟨h_70, h_71⟩
            · rw [h_69]
              refine lv_if_eq (tgt := 95) hx hb dX4_faultOf_67 rfl (fun c_72 => ?_) (fun c_72 => absurd c_72 (by decide +kernel))
              exact hU _ _ _ (J95 j56_h0_f1 x_57 j56_h1_f3 j56_h0_0c g_h0_f1 (RG_w h_63 (by decide +kernel)) g_h1_f2 g_h1_f3 g_j11_h0_f1 g_j11_h1_f2 g_j11_h1_f3 g_j11_l2 g_j56_h0_f1 (RG_w h_62 (by decide +kernel)) g_j56_h1_f3 _ _ _ hP hD hS (lv_sub hl [1, 2, 3] rfl))
            · rw [h_70]
              refine lv_if_eq (tgt := 95) hx hb dX4_faultOf_67 rfl (fun c_73 => absurd c_73 (by decide +kernel)) (fun c_73 => ?_)
              exact hU _ _ _ (J70 j56_l3 j56_h0_f1 x_57 j56_h1_f3 j56_h0_0c g_h0_f1 (RG_w h_63 (by decide +kernel)) g_h1_f2 g_h1_f3 g_j11_h0_f1 g_j11_h1_f2 g_j11_h1_f3 g_j11_l2 g_j56_h0_f1 (RG_w h_62 (by decide +kernel)) g_j56_h1_f3 (RG_w g_55 (by decide +kernel)) _ _ _ hP hD hS (lv_sub hl [0, 1, 2, 3] rfl))
      have J45b : ∀ (j45b_h1_f2 : Int32) (j45b_h1_f3 : Int32) (g_h0_f1 : RG h0_f1 0 240) (g_h1_f1 : RG h1_f1 1 240) (g_h1_f2 : RG h1_f2 0 240) (g_h1_f3 : RG h1_f3 (-1) 240) (g_j11_h0_f1 : RG j11_h0_f1 0 240) (g_j11_h1_f2 : RG j11_h1_f2 0 240) (g_j11_h1_f3 : RG j11_h1_f3 (-1) (-1)) (g_j11_l2 : RG j11_l2 0 239) (g_j45b_h1_f2 : RG j45b_h1_f2 0 239) (g_j45b_h1_f3 : RG j45b_h1_f3 (-1) 240) (H : Heap) (locs : List Loc) (ls : Array Slot) (hP : va_P (dC, dI) vwCl (wd_c_X4_faultOf h0 h0_0 j11_h0_f1 h0_2 h1 h1_0 h1_f1 j45b_h1_f2 j45b_h1_f3 h1_0 h1_0k h1_0c h0_0 h0_0k j11_h0_0c) H) (hD : va_D A (wd_c_X4_faultOf h0 h0_0 j11_h0_f1 h0_2 h1 h1_0 h1_f1 j45b_h1_f2 j45b_h1_f3 h1_0 h1_0k h1_0c h0_0 h0_0k j11_h0_0c)) (hS : va_S A s.heap H locs) (hl : lv_has ls 4 [(2, .int j11_l2), (0, .ref h0), (1, .ref h1)]), G H locs (F0 m 45 ls [.int 0]) := by
        as_aux_lemma =>
        intro j45b_h1_f2 j45b_h1_f3 g_h0_f1 g_h1_f1 g_h1_f2 g_h1_f3 g_j11_h0_f1 g_j11_h1_f2 g_j11_h1_f3 g_j11_l2 g_j45b_h1_f2 g_j45b_h1_f3 H locs ls hP hD hS hl
        refine hG _ _ _ ?_
        refine lv_istore_n (lv' := [(3, .int 0), (2, .int j11_l2), (0, .ref h0), (1, .ref h1)]) hx hb dX4_faultOf_45 rfl hl (Nat.le_of_ble_eq_true rfl) rfl (fun ls hl => ?_)
        refine lv_iload_n hx hb dX4_faultOf_46 rfl (lv_at hl 0 rfl) ?_
        refine lv_if_eq (tgt := 56) hx hb dX4_faultOf_47 rfl (fun c_74 => ?_) (fun c_74 => absurd c_74 (by decide +kernel))
        exact hU _ _ _ (J56 0 j11_h0_f1 j45b_h1_f2 j45b_h1_f3 j11_h0_0c g_h0_f1 (RG_w g_h1_f1 (by decide +kernel)) g_h1_f2 g_h1_f3 g_j11_h0_f1 g_j11_h1_f2 g_j11_h1_f3 g_j11_l2 g_j11_h0_f1 (RG_w g_j45b_h1_f2 (by decide +kernel)) g_j45b_h1_f3 (RG_w (RG_k 0 0 rfl) (by decide +kernel)) _ _ _ hP hD hS (lv_sub hl [0, 1, 2, 3] rfl))
      have J45 : ∀ (j45_h1_f2 : Int32) (j45_h1_f3 : Int32) (g_h0_f1 : RG h0_f1 0 240) (g_h1_f1 : RG h1_f1 0 240) (g_h1_f2 : RG h1_f2 0 240) (g_h1_f3 : RG h1_f3 (-1) 240) (g_j11_h0_f1 : RG j11_h0_f1 0 240) (g_j11_h1_f2 : RG j11_h1_f2 0 240) (g_j11_h1_f3 : RG j11_h1_f3 (-1) (-1)) (g_j11_l2 : RG j11_l2 0 239) (g_j45_h1_f2 : RG j45_h1_f2 0 240) (g_j45_h1_f3 : RG j45_h1_f3 (-1) 240) (H : Heap) (locs : List Loc) (ls : Array Slot) (hP : va_P (dC, dI) vwCl (wd_c_X4_faultOf h0 h0_0 j11_h0_f1 h0_2 h1 h1_0 h1_f1 j45_h1_f2 j45_h1_f3 h1_0 h1_0k h1_0c h0_0 h0_0k j11_h0_0c) H) (hD : va_D A (wd_c_X4_faultOf h0 h0_0 j11_h0_f1 h0_2 h1 h1_0 h1_f1 j45_h1_f2 j45_h1_f3 h1_0 h1_0k h1_0c h0_0 h0_0k j11_h0_0c)) (hS : va_S A s.heap H locs) (hl : lv_has ls 4 [(2, .int j11_l2), (0, .ref h0), (1, .ref h1)]), G H locs (F0 m 45 ls [.int 1]) := by
        as_aux_lemma =>
        intro j45_h1_f2 j45_h1_f3 g_h0_f1 g_h1_f1 g_h1_f2 g_h1_f3 g_j11_h0_f1 g_j11_h1_f2 g_j11_h1_f3 g_j11_l2 g_j45_h1_f2 g_j45_h1_f3 H locs ls hP hD hS hl
        refine hG _ _ _ ?_
        refine lv_istore_n (lv' := [(3, .int 1), (2, .int j11_l2), (0, .ref h0), (1, .ref h1)]) hx hb dX4_faultOf_45 rfl hl (Nat.le_of_ble_eq_true rfl) rfl (fun ls hl => ?_)
        refine lv_iload_n hx hb dX4_faultOf_46 rfl (lv_at hl 0 rfl) ?_
        refine lv_if_eq (tgt := 56) hx hb dX4_faultOf_47 rfl (fun c_75 => absurd c_75 (by decide +kernel)) (fun c_75 => ?_)
        refine lv_aload_n hx hb dX4_faultOf_50 rfl (lv_at hl 2 rfl) ?_
        refine lv_aload_n hx hb dX4_faultOf_51 rfl (lv_at hl 3 rfl) ?_
        refine lv_iconst (v := 0) hx hb dX4_faultOf_52 kc_iconst_0 ?_
        obtain ⟨hPc, hDc, hFc, hqc⟩ := cl_cut (wc := (wd_c_X4_readSum h1 h1_0 h1_f1 j45_h1_f2 j45_h1_f3 h1_0 h1_0k h1_0c h0 h0_0 j11_h0_f1 h0_2 h0_0 h0_0k j11_h0_0c)) hP hD hS hA [1, 2, 0, 3] (by decide +kernel) rfl
        have hKc := hK.sub (tys' := [(h1_0k, .int), (h0_0k, .int)]) [0, 1] rfl
        have hrv := va_recv hKc hPc (ci := 4) (q0 := 2) rfl rfl
        refine va_callv (va_runV (As := [.ref h1, .int 0]) (rest := []) ⟨hx, hb, hml, hown, hts⟩ (c_X4_readSum l dC dI H.size h0 h1 h1_0 h1_f1 j45_h1_f2 j45_h1_f3 h1_0k h1_0c h0_0 j11_h0_f1 h0_2 h0_0k j11_h0_0c ts4 tv4 g_h1_f1 g_j45_h1_f2 g_j45_h1_f3 a_h1_0c g_j11_h0_f1) (cwV 2 hts gf_c_X4_faultOf_c_X4_readSum rfl rfl rfl mdV_X4_readSum ⟨Nat.le_of_ble_eq_true rfl, Nat.le_of_ble_eq_true rfl⟩) ⟨fun a U g mk q => by obtain ⟨q0, q1, qP, qK, qD, qE0, qE1, qE2, qE3, qE4, qE5⟩ := q; exact ⟨q0, q1, qP, va_K.moved (u := U) (U := U.calling g mk a) (Vm.Alike.refl U.vm) qK, qD, vk_R.same rfl qE0, va_Z.moved (u := U) (U := U.calling g mk a) (Vm.Alike.refl U.vm) qE1, va_OF.moved (u := U) (U := U.calling g mk a) (Vm.Alike.refl U.vm) qE2, va_O.moved (u := U) (U := U.calling g mk a) (Vm.Alike.refl U.vm) qE3, va_OF.moved (u := U) (U := U.calling g mk a) (Vm.Alike.refl U.vm) qE4, va_T.moved (u := U) (U := U.calling g mk a) (Vm.Alike.refl U.vm) qE5⟩, hrv, fun U hU hW => ⟨rfl, by rw [hU], by rw [hU]; exact hPc, va_K.moved hW.alike hKc, hDc.weaken (fun _ _ _ _ => trivial), vk_R.warm hW hE_32, va_Z.moved hW.alike (by rw [hU]; exact (hE_10.kept hS.2.1).narrow hFc), va_OF.moved hW.alike (by rw [hU]; exact (hE_34.kept hS.2.1).narrow hFc), va_O.moved hW.alike (by rw [hU]; exact (hE_33.kept hS.2.1).narrow hFc), va_OF.moved hW.alike (by rw [hU]; exact (hE_35.kept hS.2.1).narrow hFc), va_T.moved hW.alike (by rw [hU]; exact (hE_36.kept hS.2.1).narrow hFc)⟩⟩ rfl rfl hl.1 rfl (lv_room (Nat.le_of_ble_eq_true rfl)) dX4_faultOf_53 ⟨Nat.le_of_ble_eq_true rfl, Nat.le_of_ble_eq_true rfl⟩) hS (fun q _ h => hFc q h) hFc (fun u t H1 locs ht hvm hw hB hz1 hk1 hS => ?_)
        obtain ⟨x_77, x_78, x_79, w_80⟩ := u
        obtain ⟨hP1, hK1, hD1⟩ := hB
        rw [ht] at hP1
        obtain ⟨hP, hD⟩ := cl_put (w1 := (wd_c_X4_readSum h1 h1_0 h1_f1 x_77 x_78 h1_0 h1_0k h1_0c h0 h0_0 x_79 h0_2 h0_0 h0_0k w_80)) (nw := (wd_c_X4_faultOf h0 h0_0 x_79 h0_2 h1 h1_0 h1_f1 x_77 x_78 h1_0 h1_0k h1_0c h0_0 h0_0k w_80)) hP hD [1, 2, 0, 3] [6, 4, 5, 7] 4 rfl hqc (by decide +kernel) rfl hk1 hFc hP1 hD1
        generalize H1 = H at hP hS ⊢
        as_aux_lemma =>
        rcases hw with ⟨h_81, h_82, h_83⟩
        exact hU _ _ _ (J56 1 x_79 x_77 x_78 w_80 g_h0_f1 g_h1_f1 g_h1_f2 g_h1_f3 g_j11_h0_f1 g_j11_h1_f2 g_j11_h1_f3 g_j11_l2 h_83 h_81 h_82 (RG_w (RG_k 1 1 rfl) (by decide +kernel)) _ _ _ hP hD hS (lv_sub hl [0, 1, 2, 3] rfl))
      refine hG _ _ _ ?_
      refine lv_iload_n hx hb dX4_faultOf_11 rfl (lv_at hl 0 rfl) ?_
      refine lv_sipush (v := 240) hx hb dX4_faultOf_12 kc_sipush_240 ?_
      refine lv_icmp_ge (tgt := 119) hx hb dX4_faultOf_15 rfl (fun c_84 => ?_) (fun c_84 => ?_)
      · have g_85 : RG j11_l2 240 240 := RG_le2 (RG_k 240 240 rfl) g_j11_l2 c_84 (by decide +kernel)
        exact hU _ _ _ (J119 j11_h0_f1 j11_h1_f2 j11_h1_f3 j11_h0_0c g_h0_f1 g_h1_f1 g_h1_f2 g_h1_f3 g_j11_h0_f1 g_j11_h1_f2 (RG_w g_j11_h1_f3 (by decide +kernel)) _ _ _ hP hD hS (lv_sub hl [2] rfl))
      · have d_86 := Int32.not_le.mp c_84
        have g_87 : RG j11_l2 0 239 := RG_lt1 g_j11_l2 (RG_k 240 240 rfl) d_86 (by decide +kernel)
        refine lv_aload_n hx hb dX4_faultOf_18 rfl (lv_at hl 2 rfl) ?_
        refine lv_bipush (v := 121) hx hb dX4_faultOf_19 kc_bipush_121 ?_
        obtain ⟨hPc, hDc, hFc, hqc⟩ := cl_cut (wc := (wd_c_X9_expect h1 h1_0 h1_f1 j11_h1_f2 j11_h1_f3 h1_0 h1_0k h1_0c)) hP hD hS hA [1, 2] (by decide +kernel) rfl
        have hKc := hK.sub (tys' := [(h1_0k, .int)]) [0] rfl
        have hrv := va_recv hKc hPc (ci := 9) (q0 := 0) rfl rfl
        refine va_callv (va_runV (As := [.int 121]) (rest := []) ⟨hx, hb, hml, hown, hts⟩ (c_X9_expect l dC dI H.size h1 121 h1_0 h1_f1 j11_h1_f2 j11_h1_f3 h1_0k h1_0c (RG_w (RG_k 121 121 rfl) (by decide +kernel)) g_h1_f1 g_j11_h1_f2 (RG_w g_j11_h1_f3 (by decide +kernel)) a_h1_0c) (cwV 1 hts gf_c_X4_faultOf_c_X9_expect rfl rfl rfl mdV_X9_expect ⟨Nat.le_of_ble_eq_true rfl, Nat.le_of_ble_eq_true rfl⟩) ⟨fun a U g mk q => by obtain ⟨q0, q1, qP, qK, qD⟩ := q; exact ⟨q0, q1, qP, va_K.moved (u := U) (U := U.calling g mk a) (Vm.Alike.refl U.vm) qK, qD⟩, hrv, fun U hU hW => ⟨rfl, by rw [hU], by rw [hU]; exact hPc, va_K.moved hW.alike hKc, hDc.weaken (fun _ _ _ _ => trivial)⟩⟩ rfl rfl hl.1 rfl (lv_room (Nat.le_of_ble_eq_true rfl)) dX4_faultOf_21 ⟨Nat.le_of_ble_eq_true rfl, Nat.le_of_ble_eq_true rfl⟩) hS (fun q _ h => hFc q h) hFc (fun u t H1 locs ht hvm hw hB hz1 hk1 hS => ?_)
        as_aux_lemma =>
        obtain ⟨x_89, x_90⟩ := u
        obtain ⟨hP1, hK1, hD1⟩ := hB
        rw [ht] at hP1
        obtain ⟨hP, hD⟩ := cl_put (w1 := (wd_c_X9_expect h1 h1_0 h1_f1 x_89 x_90 h1_0 h1_0k h1_0c)) (nw := (wd_c_X4_faultOf h0 h0_0 j11_h0_f1 h0_2 h1 h1_0 h1_f1 x_89 x_90 h1_0 h1_0k h1_0c h0_0 h0_0k j11_h0_0c)) hP hD [1, 2] [0, 4, 5, 3] 4 rfl hqc (by decide +kernel) rfl hk1 hFc hP1 hD1
        generalize H1 = H at hP hS ⊢
        as_aux_lemma =>
        rcases hw with ⟨h_91, h_92, h_93⟩
        refine lv_aload_n hx hb dX4_faultOf_24 rfl (lv_at hl 2 rfl) ?_
        refine lv_bipush (v := 58) hx hb dX4_faultOf_25 kc_bipush_58 ?_
        obtain ⟨hPc, hDc, hFc, hqc⟩ := cl_cut (wc := (wd_c_X9_expect_1 h1 h1_0 h1_f1 x_89 x_90 h1_0 h1_0k h1_0c)) hP hD hS hA [1, 2] (by decide +kernel) rfl
        have hKc := hK.sub (tys' := [(h1_0k, .int)]) [0] rfl
        have hrv := va_recv hKc hPc (ci := 9) (q0 := 0) rfl rfl
        refine va_callv (va_runV (As := [.int 58]) (rest := []) ⟨hx, hb, hml, hown, hts⟩ (c_X9_expect_1 l dC dI H.size h1 58 h1_0 h1_f1 x_89 x_90 h1_0k h1_0c (RG_w (RG_k 58 58 rfl) (by decide +kernel)) g_h1_f1 h_91 h_92 a_h1_0c) (cwV 1 hts gf_c_X4_faultOf_c_X9_expect_1 rfl rfl rfl mdV_X9_expect ⟨Nat.le_of_ble_eq_true rfl, Nat.le_of_ble_eq_true rfl⟩) ⟨fun a U g mk q => by obtain ⟨q0, q1, qP, qK, qD⟩ := q; exact ⟨q0, q1, qP, va_K.moved (u := U) (U := U.calling g mk a) (Vm.Alike.refl U.vm) qK, qD⟩, hrv, fun U hU hW => ⟨rfl, by rw [hU], by rw [hU]; exact hPc, va_K.moved hW.alike hKc, hDc.weaken (fun _ _ _ _ => trivial)⟩⟩ rfl rfl hl.1 rfl (lv_room (Nat.le_of_ble_eq_true rfl)) dX4_faultOf_27 ⟨Nat.le_of_ble_eq_true rfl, Nat.le_of_ble_eq_true rfl⟩) hS (fun q _ h => hFc q h) hFc (fun u t H1 locs ht hvm hw hB hz1 hk1 hS => ?_)
        obtain ⟨x_95, x_96⟩ := u
        obtain ⟨hP1, hK1, hD1⟩ := hB
        rw [ht] at hP1
        obtain ⟨hP, hD⟩ := cl_put (w1 := (wd_c_X9_expect_1 h1 h1_0 h1_f1 x_95 x_96 h1_0 h1_0k h1_0c)) (nw := (wd_c_X4_faultOf h0 h0_0 j11_h0_f1 h0_2 h1 h1_0 h1_f1 x_95 x_96 h1_0 h1_0k h1_0c h0_0 h0_0k j11_h0_0c)) hP hD [1, 2] [0, 4, 5, 3] 4 rfl hqc (by decide +kernel) rfl hk1 hFc hP1 hD1
        generalize H1 = H at hP hS ⊢
        as_aux_lemma =>
        rcases hw with ⟨h_97, h_98, h_99⟩
        refine lv_aload_n hx hb dX4_faultOf_30 rfl (lv_at hl 2 rfl) ?_
        obtain ⟨hPc, hDc, hFc, hqc⟩ := cl_cut (wc := (wd_c_X9_peek h1 h1_0 h1_f1 x_95 x_96 h1_0 h1_0k h1_0c)) hP hD hS hA [1, 2] (by decide +kernel) rfl
        have hKc := hK.sub (tys' := [(h1_0k, .int)]) [0] rfl
        have hrv := va_recv hKc hPc (ci := 9) (q0 := 0) rfl rfl
        refine va_calli (va_runV (As := []) (rest := []) ⟨hx, hb, hml, hown, hts⟩ (c_X9_peek l dC dI H.size h1 h1_0 h1_f1 x_95 x_96 h1_0k h1_0c g_h1_f1 h_97 h_98 a_h1_0c) (cwV 0 hts gf_c_X4_faultOf_c_X9_peek rfl rfl rfl mdV_X9_peek ⟨Nat.le_of_ble_eq_true rfl, Nat.le_of_ble_eq_true rfl⟩) ⟨fun a U g mk q => by obtain ⟨q0, q1, qP, qK, qD⟩ := q; exact ⟨q0, q1, qP, va_K.moved (u := U) (U := U.calling g mk a) (Vm.Alike.refl U.vm) qK, qD⟩, hrv, fun U hU hW => ⟨rfl, by rw [hU], by rw [hU]; exact hPc, va_K.moved hW.alike hKc, hDc.weaken (fun _ _ _ _ => trivial)⟩⟩ rfl rfl hl.1 rfl (lv_room (Nat.le_of_ble_eq_true rfl)) dX4_faultOf_31 ⟨Nat.le_of_ble_eq_true rfl, Nat.le_of_ble_eq_true rfl⟩) hS (fun q _ h => hFc q h) hFc (fun r_100 x_101 t H1 locs ht hvm hw hB hz1 hk1 hS => ?_)
        obtain ⟨hP1, hK1, hD1⟩ := hB
        rw [ht] at hP1
        obtain ⟨hP, hD⟩ := cl_put (w1 := (wd_c_X9_peek h1 h1_0 h1_f1 x_101 x_96 h1_0 h1_0k h1_0c)) (nw := (wd_c_X4_faultOf h0 h0_0 j11_h0_f1 h0_2 h1 h1_0 h1_f1 x_101 x_96 h1_0 h1_0k h1_0c h0_0 h0_0k j11_h0_0c)) hP hD [1, 2] [0, 4, 5, 3] 4 rfl hqc (by decide +kernel) rfl hk1 hFc hP1 hD1
        generalize H1 = H at hP hS ⊢
        as_aux_lemma =>
        rcases hw with ⟨h_102, h_103, h_104⟩ | ⟨h_105, h_106, h_107, h_108⟩
        · rw [h_102]
          obtain ⟨hPc, hDc, hFc, hqc⟩ := cl_cut (wc := []) hP hD hS hA [] (by decide +kernel) rfl
          have hKc := hK.sub (tys' := []) [] rfl
          refine va_calli (va_runS (As := [.int (-1)]) (rest := []) ⟨hx, hb, hml, hown, hts⟩ (c_X4_startsUnit l dC dI H.size (-1) (RG_k (-1) (-1) rfl)) (va_cwS 1 hts gf_c_X4_faultOf_c_X4_startsUnit rfl rfl rfl md_X4_startsUnit ⟨Nat.le_of_ble_eq_true rfl, Nat.le_of_ble_eq_true rfl⟩) ⟨fun a U g mk q => by obtain ⟨q0, q1, qP, qK, qD⟩ := q; exact ⟨q0, q1, qP, va_K.moved (u := U) (U := U.calling g mk a) (Vm.Alike.refl U.vm) qK, qD⟩, fun U hU hW => ⟨rfl, by rw [hU], by rw [hU]; exact hPc, va_K.moved hW.alike hKc, hDc.weaken (fun _ _ _ _ => trivial)⟩⟩ rfl rfl hl.1 rfl (lv_room (Nat.le_of_ble_eq_true rfl)) dX4_faultOf_34 ⟨Nat.le_of_ble_eq_true rfl, Nat.le_of_ble_eq_true rfl⟩) hS (fun q _ h => hFc q h) hFc (fun r_109 u t H1 locs ht hvm hw hB hz1 hk1 hS => ?_)
          obtain ⟨hP1, hK1, hD1⟩ := hB
          rw [ht] at hP1
          have hP := bv_still hP hk1
          generalize H1 = H at hP hS ⊢
          as_aux_lemma =>
          have h_110 := hw
          rw [h_110]
          refine lv_if_ne (tgt := 44) hx hb dX4_faultOf_37 rfl (fun c_111 => absurd c_111 (by decide +kernel)) (fun c_111 => ?_)
          refine lv_iconst (v := 1) hx hb dX4_faultOf_40 kc_iconst_1 ?_
          refine lv_goto (tgt := 45) hx hb dX4_faultOf_41 rfl ?_
          exact hU _ _ _ (J45 x_101 x_96 g_h0_f1 g_h1_f1 g_h1_f2 g_h1_f3 g_j11_h0_f1 g_j11_h1_f2 g_j11_h1_f3 g_87 h_103 h_98 _ _ _ hP hD hS (lv_sub hl [0, 1, 2] rfl))
        · obtain ⟨hPc, hDc, hFc, hqc⟩ := cl_cut (wc := []) hP hD hS hA [] (by decide +kernel) rfl
          have hKc := hK.sub (tys' := []) [] rfl
          refine va_calli (va_runS (As := [.int r_100]) (rest := []) ⟨hx, hb, hml, hown, hts⟩ (c_X4_startsUnit_1 l dC dI H.size r_100 h_105) (va_cwS 1 hts gf_c_X4_faultOf_c_X4_startsUnit_1 rfl rfl rfl md_X4_startsUnit ⟨Nat.le_of_ble_eq_true rfl, Nat.le_of_ble_eq_true rfl⟩) ⟨fun a U g mk q => by obtain ⟨q0, q1, qP, qK, qD⟩ := q; exact ⟨q0, q1, qP, va_K.moved (u := U) (U := U.calling g mk a) (Vm.Alike.refl U.vm) qK, qD⟩, fun U hU hW => ⟨rfl, by rw [hU], by rw [hU]; exact hPc, va_K.moved hW.alike hKc, hDc.weaken (fun _ _ _ _ => trivial)⟩⟩ rfl rfl hl.1 rfl (lv_room (Nat.le_of_ble_eq_true rfl)) dX4_faultOf_34 ⟨Nat.le_of_ble_eq_true rfl, Nat.le_of_ble_eq_true rfl⟩) hS (fun q _ h => hFc q h) hFc (fun r_112 u t H1 locs ht hvm hw hB hz1 hk1 hS => ?_)
          obtain ⟨hP1, hK1, hD1⟩ := hB
          rw [ht] at hP1
          have hP := bv_still hP hk1
          generalize H1 = H at hP hS ⊢
          as_aux_lemma =>
          rcases hw with h_113 | ⟨h_114, h_115⟩
          · rw [h_113]
            refine lv_if_ne (tgt := 44) hx hb dX4_faultOf_37 rfl (fun c_116 => absurd c_116 (by decide +kernel)) (fun c_116 => ?_)
            refine lv_iconst (v := 1) hx hb dX4_faultOf_40 kc_iconst_1 ?_
            refine lv_goto (tgt := 45) hx hb dX4_faultOf_41 rfl ?_
            exact hU _ _ _ (J45 x_101 x_96 g_h0_f1 (RG_w h_107 (by decide +kernel)) g_h1_f2 g_h1_f3 g_j11_h0_f1 g_j11_h1_f2 g_j11_h1_f3 g_87 (RG_w h_106 (by decide +kernel)) h_98 _ _ _ hP hD hS (lv_sub hl [0, 1, 2] rfl))
          · rw [h_114]
            refine lv_if_ne (tgt := 44) hx hb dX4_faultOf_37 rfl (fun c_117 => ?_) (fun c_117 => absurd c_117 (by decide +kernel))
            refine lv_iconst (v := 0) hx hb dX4_faultOf_44 kc_iconst_0 ?_
            exact hU _ _ _ (J45b x_101 x_96 g_h0_f1 h_107 g_h1_f2 g_h1_f3 g_j11_h0_f1 g_j11_h1_f2 g_j11_h1_f3 g_87 h_106 h_98 _ _ _ hP hD hS (lv_sub hl [0, 1, 2] rfl))
  refine hG _ _ _ ?_
  refine lv_aload_n hx hb dX4_faultOf_0 rfl (lv_at hl 0 rfl) ?_
  refine lv_iconst (v := 0) hx hb dX4_faultOf_1 kc_iconst_0 ?_
  refine va_put (D := (dC, dI)) (ci := 4) (v := .int 0) (ty := .int) (C := RX4) (T := TX4) (N := 3) hx hb hts iw_c_X4_faultOf_X4 tyX4 tyX4_ok nmX4 hown hK hP hD hS 0 rfl rfl 1 (by decide +kernel) (hts (.fieldLink RX4 20 "BuoyVote$Law" "length" "I") (List.mem_of_getElem? (i := 1) rfl)) (fun _ h9 => h9) rfl (by decide +kernel) rfl rfl (Nat.le_of_ble_eq_true rfl) dX4_faultOf_2 (fun H locs hP hD hS => ?_)
  as_aux_lemma =>
  have hP : va_P (dC, dI) vwCl (wd_c_X4_faultOf h0 h0_0 0 h0_2 h1 h1_0 h1_f1 h1_f2 h1_f3 h1_0 h1_0k h1_0c h0_0 h0_0k h0_0c) H := hP
  have hD : va_D A (wd_c_X4_faultOf h0 h0_0 0 h0_2 h1 h1_0 h1_f1 h1_f2 h1_f3 h1_0 h1_0k h1_0c h0_0 h0_0k h0_0c) := hD
  refine lv_aload_n hx hb dX4_faultOf_5 rfl (lv_at hl 1 rfl) ?_
  obtain ⟨hPc, hDc, hFc, hqc⟩ := cl_cut (wc := (wd_c_X9_rewind h1 h1_0 h1_f1 h1_f2 h1_f3)) hP hD hS hA [1] (by decide +kernel) rfl
  have hKc := hK.sub (tys' := []) [] rfl
  have hrv := va_recv hKc hPc (ci := 9) (q0 := 0) rfl rfl
  refine va_callv (va_runV (As := []) (rest := []) ⟨hx, hb, hml, hown, hts⟩ (c_X9_rewind l dC dI H.size h1 h1_0 h1_f1 h1_f2 h1_f3 g_h1_f1 g_h1_f2 g_h1_f3) (cwV 0 hts gf_c_X4_faultOf_c_X9_rewind rfl rfl rfl mdV_X9_rewind ⟨Nat.le_of_ble_eq_true rfl, Nat.le_of_ble_eq_true rfl⟩) ⟨fun a U g mk q => by obtain ⟨q0, q1, qP, qK, qD⟩ := q; exact ⟨q0, q1, qP, va_K.moved (u := U) (U := U.calling g mk a) (Vm.Alike.refl U.vm) qK, qD⟩, hrv, fun U hU hW => ⟨rfl, by rw [hU], by rw [hU]; exact hPc, va_K.moved hW.alike hKc, hDc.weaken (fun _ _ _ _ => trivial)⟩⟩ rfl rfl hl.1 rfl (lv_room (Nat.le_of_ble_eq_true rfl)) dX4_faultOf_6 ⟨Nat.le_of_ble_eq_true rfl, Nat.le_of_ble_eq_true rfl⟩) hS (fun q _ h => hFc q h) hFc (fun u t H1 locs ht hvm hw hB hz1 hk1 hS => ?_)
  obtain ⟨hP1, hK1, hD1⟩ := hB
  rw [ht] at hP1
  obtain ⟨hP, hD⟩ := cl_put (w1 := (wd_c_X9_rewind h1 h1_0 h1_f1 0 (-1))) (nw := (wd_c_X4_faultOf h0 h0_0 0 h0_2 h1 h1_0 h1_f1 0 (-1) h1_0 h1_0k h1_0c h0_0 h0_0k h0_0c)) hP hD [1] [0, 4, 2, 3] 4 rfl hqc (by decide +kernel) rfl hk1 hFc hP1 hD1
  generalize H1 = H at hP hS ⊢
  as_aux_lemma =>
  have h_119 := hw
  refine lv_iconst (v := 0) hx hb dX4_faultOf_9 kc_iconst_0 ?_
  refine lv_istore_n (lv' := [(2, .int 0), (0, .ref h0), (1, .ref h1)]) hx hb dX4_faultOf_10 rfl hl (Nat.le_of_ble_eq_true rfl) rfl (fun ls hl => ?_)
  exact hU _ _ _ (J11 _ 0 0 0 (-1) h0_0c (Nat.lt_succ_self _) g_h0_f1 g_h1_f1 g_h1_f2 g_h1_f3 (RG_w (RG_k 0 0 rfl) (by decide +kernel)) (RG_w (RG_k 0 0 rfl) (by decide +kernel)) (RG_k (-1) (-1) rfl) (RG_w (RG_k 0 0 rfl) (by decide +kernel)) _ _ _ hP hD hS (lv_sub hl [0, 1, 2] rfl))
noncomputable def wf_c_J0_isLatin1_aae02_5 : List Cond := .code yJ0_isLatin1_aae02 cJ0_isLatin1_aae02 1 (some .boolean) :: ([.fieldLink RJ0 38 "java/lang/String" "COMPACT_STRINGS" "Z", .fieldLink RJ0 15 "java/lang/String" "coder" "B"])
set_option maxHeartbeats 4000000 in
set_option maxRecDepth 100000 in
theorem c_J0_isLatin1_aae02_5 (l : Launch) (dC : Nat → ClassId) (dI : Nat → Nat → Nat) (sz : Nat) (ts5 : Nat) : Met l yJ0_isLatin1_aae02 wf_c_J0_isLatin1_aae02_5 ({ frames := 0, cells := 0, slots := 0, locals := 0 }) (va_Pc [.ref ts5] (fun U => U.heap.size = sz ∧ va_P (dC, dI) vwCl [] U.heap ∧ va_K (dC, dI) vwCl [] U ∧ va_D (fun _ => True) [] ∧ va_Z "java/lang/String" "COMPACT_STRINGS" "Z" (.int 1) (va_A [] sz) U U.heap ∧ va_OF "java/lang/String" "coder" "B" (.int 0) ts5 (va_A [] sz) U U.heap)) (va_Qi (fun (r : Int32) (u : Unit) => (r = 1)) (fun (u : Unit) t => va_P (dC, dI) vwCl [] t.heap ∧ va_K (dC, dI) vwCl [] t ∧ va_D (va_A [] sz) []) (va_A [] sz)) 0 0 (va_A [] sz) := by
  refine Met.ofW (cc := cJ0_isLatin1_aae02) (maxL := 1) (ret := (some .boolean)) (by decide +kernel) rfl ?_
  intro p e s m args below meth c s₁ B hml hv
  obtain ⟨rfl, hsz, hP, hK, hD0, hE_10, hE_39⟩ := hv
  have hx := B.exec
  have hb := B.bytes
  have hr := B.returns
  have hts := atoms_spec (ws := wf_c_J0_isLatin1_aae02_5) B.pre
  have hown : s.vm.findClass RJ0 = some m.cls := findClass_of_methodNamed B.named
  have hlocks := B.notSynchronized
  subst hsz
  have hD := hD0.self (sz := s.heap.size)
  generalize hAe : va_A [] s.heap.size = A at hD hE_10 hE_39 ⊢
  have hA : ∀ q : Nat, s.heap.size ≤ q → A q := fun q h => by rw [← hAe]; exact Or.inr h
  have hP : va_P (dC, dI) vwCl [] s.heap := hP
  have hl := lv_entry ([.ref ts5]) (n := 1) (Nat.le_of_ble_eq_true rfl)
  rw [lg_entry_eq]
  generalize (lg_sl ([.ref ts5]) ++ List.replicate (1 - (lg_sl ([.ref ts5])).length) Slot.unset).toArray = ls at hl ⊢
  have hl : lv_has ls 1 [(0, .ref ts5)] := hl
  obtain ⟨H, hHe⟩ : ∃ H : Heap, s.heap = H := ⟨_, rfl⟩
  have hS : va_S A s.heap H [] := by rw [hHe]; exact va_S.rf
  have hP : va_P (dC, dI) vwCl [] H := by rw [← hHe]; exact hP
  rw [hHe]
  refine va_gets hx hb hE_10 hS hown (hts (.fieldLink RJ0 38 "java/lang/String" "COMPACT_STRINGS" "Z") (List.mem_of_getElem? (i := 1) rfl)) (fun _ h9 => h9) dJ0_isLatin1_aae02_0 ?_
  as_aux_lemma =>
  refine lv_if_eq (tgt := 17) hx hb dJ0_isLatin1_aae02_3 rfl (fun c_1 => absurd c_1 (by decide +kernel)) (fun c_1 => ?_)
  refine lv_aload_n hx hb dJ0_isLatin1_aae02_6 rfl (lv_at hl 0 rfl) ?_
  refine vk_getf hx hb hE_39 hS hown (hts (.fieldLink RJ0 15 "java/lang/String" "coder" "B") (List.mem_of_getElem? (i := 2) rfl)) (fun _ h9 => h9) dJ0_isLatin1_aae02_7 ?_
  refine lv_if_ne (tgt := 17) hx hb dJ0_isLatin1_aae02_10 rfl (fun c_2 => absurd c_2 (by decide +kernel)) (fun c_2 => ?_)
  refine lv_iconst (v := 1) hx hb dJ0_isLatin1_aae02_13 kc_iconst_1 ?_
  refine lv_goto (tgt := 18) hx hb dJ0_isLatin1_aae02_14 rfl ?_
  have hK9 := hK.sub (tys' := []) [] rfl
  exact W.zret (v := 1) hx hb hr rfl (fun t ht hW => ⟨⟨1, (), rfl, rfl, by rw [ht]; exact hP, va_K.moved hW.alike hK9, hD⟩, hS.F ht⟩) hS.2.2 dJ0_isLatin1_aae02_18
noncomputable def wf_c_J0_coder_7d493_5 : List Cond := .code yJ0_coder_7d493 cJ0_coder_7d493 1 (some .byte) :: ([.fieldLink RJ0 38 "java/lang/String" "COMPACT_STRINGS" "Z", .fieldLink RJ0 15 "java/lang/String" "coder" "B"])
set_option maxHeartbeats 4000000 in
set_option maxRecDepth 100000 in
theorem c_J0_coder_7d493_5 (l : Launch) (dC : Nat → ClassId) (dI : Nat → Nat → Nat) (sz : Nat) (ts5 : Nat) : Met l yJ0_coder_7d493 wf_c_J0_coder_7d493_5 ({ frames := 0, cells := 0, slots := 0, locals := 0 }) (va_Pc [.ref ts5] (fun U => U.heap.size = sz ∧ va_P (dC, dI) vwCl [] U.heap ∧ va_K (dC, dI) vwCl [] U ∧ va_D (fun _ => True) [] ∧ va_Z "java/lang/String" "COMPACT_STRINGS" "Z" (.int 1) (va_A [] sz) U U.heap ∧ va_OF "java/lang/String" "coder" "B" (.int 0) ts5 (va_A [] sz) U U.heap)) (va_Qi (fun (r : Int32) (u : Unit) => (r = 0)) (fun (u : Unit) t => va_P (dC, dI) vwCl [] t.heap ∧ va_K (dC, dI) vwCl [] t ∧ va_D (va_A [] sz) []) (va_A [] sz)) 0 0 (va_A [] sz) := by
  refine Met.ofW (cc := cJ0_coder_7d493) (maxL := 1) (ret := (some .byte)) (by decide +kernel) rfl ?_
  intro p e s m args below meth c s₁ B hml hv
  obtain ⟨rfl, hsz, hP, hK, hD0, hE_10, hE_39⟩ := hv
  have hx := B.exec
  have hb := B.bytes
  have hr := B.returns
  have hts := atoms_spec (ws := wf_c_J0_coder_7d493_5) B.pre
  have hown : s.vm.findClass RJ0 = some m.cls := findClass_of_methodNamed B.named
  have hlocks := B.notSynchronized
  subst hsz
  have hD := hD0.self (sz := s.heap.size)
  generalize hAe : va_A [] s.heap.size = A at hD hE_10 hE_39 ⊢
  have hA : ∀ q : Nat, s.heap.size ≤ q → A q := fun q h => by rw [← hAe]; exact Or.inr h
  have hP : va_P (dC, dI) vwCl [] s.heap := hP
  have hl := lv_entry ([.ref ts5]) (n := 1) (Nat.le_of_ble_eq_true rfl)
  rw [lg_entry_eq]
  generalize (lg_sl ([.ref ts5]) ++ List.replicate (1 - (lg_sl ([.ref ts5])).length) Slot.unset).toArray = ls at hl ⊢
  have hl : lv_has ls 1 [(0, .ref ts5)] := hl
  obtain ⟨H, hHe⟩ : ∃ H : Heap, s.heap = H := ⟨_, rfl⟩
  have hS : va_S A s.heap H [] := by rw [hHe]; exact va_S.rf
  have hP : va_P (dC, dI) vwCl [] H := by rw [← hHe]; exact hP
  rw [hHe]
  refine va_gets hx hb hE_10 hS hown (hts (.fieldLink RJ0 38 "java/lang/String" "COMPACT_STRINGS" "Z") (List.mem_of_getElem? (i := 1) rfl)) (fun _ h9 => h9) dJ0_coder_7d493_0 ?_
  as_aux_lemma =>
  refine lv_if_eq (tgt := 13) hx hb dJ0_coder_7d493_3 rfl (fun c_1 => absurd c_1 (by decide +kernel)) (fun c_1 => ?_)
  refine lv_aload_n hx hb dJ0_coder_7d493_6 rfl (lv_at hl 0 rfl) ?_
  refine vk_getf hx hb hE_39 hS hown (hts (.fieldLink RJ0 15 "java/lang/String" "coder" "B") (List.mem_of_getElem? (i := 2) rfl)) (fun _ h9 => h9) dJ0_coder_7d493_7 ?_
  refine lv_goto (tgt := 14) hx hb dJ0_coder_7d493_10 rfl ?_
  have hK9 := hK.sub (tys' := []) [] rfl
  exact W.zret (v := 0) hx hb hr rfl (fun t ht hW => ⟨⟨0, (), rfl, rfl, by rw [ht]; exact hP, va_K.moved hW.alike hK9, hD⟩, hS.F ht⟩) hS.2.2 dJ0_coder_7d493_14
noncomputable def wf_c_J0_length_8abf5_5 : List Cond := .code yJ0_length_8abf5 cJ0_length_8abf5 1 (some .int) :: ([.fieldLink RJ0 9 "java/lang/String" "value" "[B", .methodLink RJ0 335 yJ0_coder_7d493, .instanceMethod yJ0_coder_7d493, .selects RJ0 yJ0_coder_7d493 yJ0_coder_7d493, .initialized RJ0, .code yJ0_coder_7d493 cJ0_coder_7d493 1 (some .byte), .fieldLink RJ0 38 "java/lang/String" "COMPACT_STRINGS" "Z", .fieldLink RJ0 15 "java/lang/String" "coder" "B"])
set_option maxRecDepth 20000 in
theorem gf_c_J0_length_8abf5_5_c_J0_coder_7d493_5 : GoodIn wf_c_J0_length_8abf5_5 (wsV RJ0 335 RJ0 yJ0_coder_7d493 wf_c_J0_coder_7d493_5) := goodIn_app (gi_l [2, 3, 4, 5] rfl rfl) (gi_cons (j := 6) rfl rfl (gi_l [7, 8] rfl rfl))
set_option maxHeartbeats 4000000 in
set_option maxRecDepth 100000 in
theorem c_J0_length_8abf5_5 (l : Launch) (dC : Nat → ClassId) (dI : Nat → Nat → Nat) (sz : Nat) (ts5 : Nat) (tv5 : Nat) : Met l yJ0_length_8abf5 wf_c_J0_length_8abf5_5 ({ frames := 1, cells := 0, slots := 0, locals := 20 }) (va_Pc [.ref ts5] (fun U => U.heap.size = sz ∧ va_P (dC, dI) vwCl [] U.heap ∧ va_K (dC, dI) vwCl [] U ∧ va_D (fun _ => True) [] ∧ va_OF "java/lang/String" "value" "[B" (.ref tv5) ts5 (va_A [] sz) U U.heap ∧ va_T .byte tv5 4 (fun j => .int ([103, 115, 99, 104].getD j 0)) (va_A [] sz) U U.heap ∧ va_Z "java/lang/String" "COMPACT_STRINGS" "Z" (.int 1) (va_A [] sz) U U.heap ∧ va_OF "java/lang/String" "coder" "B" (.int 0) ts5 (va_A [] sz) U U.heap ∧ va_O "java/lang/String" ts5 (va_A [] sz) U U.heap)) (va_Qi (fun (r : Int32) (u : Unit) => (r = 4)) (fun (u : Unit) t => va_P (dC, dI) vwCl [] t.heap ∧ va_K (dC, dI) vwCl [] t ∧ va_D (va_A [] sz) []) (va_A [] sz)) 0 0 (va_A [] sz) := by
  refine Met.ofW (cc := cJ0_length_8abf5) (maxL := 1) (ret := (some .int)) (by decide +kernel) rfl ?_
  intro p e s m args below meth c s₁ B hml hv
  obtain ⟨rfl, hsz, hP, hK, hD0, hE_40, hE_41, hE_10, hE_39, hE_38⟩ := hv
  have hx := B.exec
  have hb := B.bytes
  have hr := B.returns
  have hts := atoms_spec (ws := wf_c_J0_length_8abf5_5) B.pre
  have hown : s.vm.findClass RJ0 = some m.cls := findClass_of_methodNamed B.named
  have hlocks := B.notSynchronized
  subst hsz
  have hD := hD0.self (sz := s.heap.size)
  generalize hAe : va_A [] s.heap.size = A at hD hE_40 hE_41 hE_10 hE_39 hE_38 ⊢
  have hA : ∀ q : Nat, s.heap.size ≤ q → A q := fun q h => by rw [← hAe]; exact Or.inr h
  have hP : va_P (dC, dI) vwCl [] s.heap := hP
  have hl := lv_entry ([.ref ts5]) (n := 1) (Nat.le_of_ble_eq_true rfl)
  rw [lg_entry_eq]
  generalize (lg_sl ([.ref ts5]) ++ List.replicate (1 - (lg_sl ([.ref ts5])).length) Slot.unset).toArray = ls at hl ⊢
  have hl : lv_has ls 1 [(0, .ref ts5)] := hl
  obtain ⟨H, hHe⟩ : ∃ H : Heap, s.heap = H := ⟨_, rfl⟩
  have hS : va_S A s.heap H [] := by rw [hHe]; exact va_S.rf
  have hP : va_P (dC, dI) vwCl [] H := by rw [← hHe]; exact hP
  rw [hHe]
  refine lv_aload_n hx hb dJ0_length_8abf5_0 rfl (lv_at hl 0 rfl) ?_
  as_aux_lemma =>
  refine vk_getf hx hb hE_40 hS hown (hts (.fieldLink RJ0 9 "java/lang/String" "value" "[B") (List.mem_of_getElem? (i := 1) rfl)) (fun _ h9 => h9) dJ0_length_8abf5_1 ?_
  refine va_tlen (v := 4) hx hb hE_41 hS rfl dJ0_length_8abf5_4 ?_
  refine lv_aload_n hx hb dJ0_length_8abf5_5 rfl (lv_at hl 0 rfl) ?_
  obtain ⟨hPc, hDc, hFc, hqc⟩ := cl_cut (wc := []) hP hD hS hA [] (by decide +kernel) rfl
  have hKc := hK.sub (tys' := []) [] rfl
  have hrv := bv_Orecv hE_38 hS
  refine va_calli (va_runV (As := []) (rest := [.int 4]) ⟨hx, hb, hml, hown, hts⟩ (c_J0_coder_7d493_5 l dC dI H.size ts5) (cwV 0 hts gf_c_J0_length_8abf5_5_c_J0_coder_7d493_5 rfl rfl rfl mdV_J0_coder_7d493 ⟨Nat.le_of_ble_eq_true rfl, Nat.le_of_ble_eq_true rfl⟩) ⟨fun a U g mk q => by obtain ⟨q0, q1, qP, qK, qD, qE0, qE1⟩ := q; exact ⟨q0, q1, qP, va_K.moved (u := U) (U := U.calling g mk a) (Vm.Alike.refl U.vm) qK, qD, va_Z.moved (u := U) (U := U.calling g mk a) (Vm.Alike.refl U.vm) qE0, va_OF.moved (u := U) (U := U.calling g mk a) (Vm.Alike.refl U.vm) qE1⟩, hrv, fun U hU hW => ⟨rfl, by rw [hU], by rw [hU]; exact hPc, va_K.moved hW.alike hKc, hDc.weaken (fun _ _ _ _ => trivial), va_Z.moved hW.alike (by rw [hU]; exact (hE_10.kept hS.2.1).narrow hFc), va_OF.moved hW.alike (by rw [hU]; exact (hE_39.kept hS.2.1).narrow hFc)⟩⟩ rfl rfl hl.1 rfl (lv_room (Nat.le_of_ble_eq_true rfl)) dJ0_length_8abf5_6 ⟨Nat.le_of_ble_eq_true rfl, Nat.le_of_ble_eq_true rfl⟩) hS (fun q _ h => hFc q h) hFc (fun r_1 u t H1 locs ht hvm hw hB hz1 hk1 hS => ?_)
  obtain ⟨hP1, hK1, hD1⟩ := hB
  rw [ht] at hP1
  have hP := bv_still hP hk1
  generalize H1 = H at hP hS ⊢
  as_aux_lemma =>
  have h_2 := hw
  rw [h_2]
  refine lv_ishr hx hb dJ0_length_8abf5_9 ?_
  refine lv_topi (fun x_3 ex_3 => ?_)
  obtain rfl : x_3 = 4 := ex_3.trans (by decide +kernel)
  have hK9 := hK.sub (tys' := []) [] rfl
  exact W.iret (v := 4) hx hb hr (fun t ht hW => ⟨⟨4, (), rfl, rfl, by rw [ht]; exact hP, va_K.moved hW.alike hK9, hD⟩, hS.F ht⟩) hS.2.2 dJ0_length_8abf5_10
noncomputable def wf_c_J1_indexOfChar_4cfef_5 : List Cond := .code yJ1_indexOfChar_4cfef cJ1_indexOfChar_4cfef 6 (some .int) :: ([])
set_option maxHeartbeats 4000000 in
set_option maxRecDepth 100000 in
theorem c_J1_indexOfChar_4cfef_5 (l : Launch) (dC : Nat → ClassId) (dI : Nat → Nat → Nat) (sz : Nat) (tv5 : Nat) (p1 : Int32) (p2 : Int32) (p3 : Int32) (g_p1 : RG p1 0 255) (g_p2 : RG p2 0 0) (g_p3 : RG p3 4 4) : Met l yJ1_indexOfChar_4cfef wf_c_J1_indexOfChar_4cfef_5 ({ frames := 0, cells := 0, slots := 0, locals := 0 }) (va_Pc [.ref tv5, .int p1, .int p2, .int p3] (fun U => U.heap.size = sz ∧ va_P (dC, dI) vwCl [] U.heap ∧ va_K (dC, dI) vwCl [] U ∧ va_D (fun _ => True) [] ∧ va_T .byte tv5 4 (fun j => .int ([103, 115, 99, 104].getD j 0)) (va_A [] sz) U U.heap)) (va_Qi (fun (r : Int32) (u : Unit) => (r = (-1)) ∨ (RG r 0 3)) (fun (u : Unit) t => va_P (dC, dI) vwCl [] t.heap ∧ va_K (dC, dI) vwCl [] t ∧ va_D (va_A [] sz) []) (va_A [] sz)) 0 0 (va_A [] sz) := by
  refine Met.ofW (cc := cJ1_indexOfChar_4cfef) (maxL := 6) (ret := (some .int)) (by decide +kernel) rfl ?_
  intro p e s m args below meth c s₁ B hml hv
  obtain ⟨rfl, hsz, hP, hK, hD0, hE_41⟩ := hv
  have hx := B.exec
  have hb := B.bytes
  have hr := B.returns
  have hts := atoms_spec (ws := wf_c_J1_indexOfChar_4cfef_5) B.pre
  have hown : s.vm.findClass RJ1 = some m.cls := findClass_of_methodNamed B.named
  have hlocks := B.notSynchronized
  subst hsz
  have hD := hD0.self (sz := s.heap.size)
  generalize hAe : va_A [] s.heap.size = A at hD hE_41 ⊢
  have hA : ∀ q : Nat, s.heap.size ≤ q → A q := fun q h => by rw [← hAe]; exact Or.inr h
  have hP : va_P (dC, dI) vwCl [] s.heap := hP
  have hl := lv_entry ([.ref tv5, .int p1, .int p2, .int p3]) (n := 6) (Nat.le_of_ble_eq_true rfl)
  rw [lg_entry_eq]
  generalize (lg_sl ([.ref tv5, .int p1, .int p2, .int p3]) ++ List.replicate (6 - (lg_sl ([.ref tv5, .int p1, .int p2, .int p3])).length) Slot.unset).toArray = ls at hl ⊢
  have hl : lv_has ls 6 [(0, .ref tv5), (1, .int p1), (2, .int p2), (3, .int p3)] := hl
  obtain ⟨H, hHe⟩ : ∃ H : Heap, s.heap = H := ⟨_, rfl⟩
  have hS : va_S A s.heap H [] := by rw [hHe]; exact va_S.rf
  have hP : va_P (dC, dI) vwCl [] H := by rw [← hHe]; exact hP
  rw [hHe]
  refine lv_iload_n hx hb dJ1_indexOfChar_4cfef_0 rfl (lv_at hl 1 rfl) ?_
  as_aux_lemma =>
  refine lv_i2b hx hb dJ1_indexOfChar_4cfef_1 rfl ?_
  refine lv_topi (fun x_1 ex_1 => ?_)
  refine lv_istore (lv' := [(4, .int x_1), (0, .ref tv5), (1, .int p1), (2, .int p2), (3, .int p3)]) hx hb dJ1_indexOfChar_4cfef_2 hl (Nat.le_of_ble_eq_true rfl) rfl (fun ls hl => ?_)
  refine lv_iload_n hx hb dJ1_indexOfChar_4cfef_4 rfl (lv_at hl 3 rfl) ?_
  refine lv_istore (lv' := [(5, .int p2), (4, .int x_1), (0, .ref tv5), (1, .int p1), (2, .int p2), (3, .int p3)]) hx hb dJ1_indexOfChar_4cfef_5 hl (Nat.le_of_ble_eq_true rfl) rfl (fun ls hl => ?_)
  refine lv_iload hx hb dJ1_indexOfChar_4cfef_7 (lv_at hl 0 rfl) ?_
  refine lv_iload_n hx hb dJ1_indexOfChar_4cfef_9 rfl (lv_at hl 5 rfl) ?_
  refine lv_icmp_ge (tgt := 31) hx hb dJ1_indexOfChar_4cfef_10 rfl (fun c_2 => ?_) (fun c_2 => ?_)
  · have g_3 : RG p3 4 0 := RG_le1 g_p3 g_p2 c_2 (by decide +kernel)
    exact RG_dead (RG_le1 g_p3 g_p2 c_2 (b' := 0) (by decide +kernel)) (by decide +kernel)
  · have d_4 := Int32.not_le.mp c_2
    refine lv_aload_n hx hb dJ1_indexOfChar_4cfef_13 rfl (lv_at hl 2 rfl) ?_
    refine lv_iload hx hb dJ1_indexOfChar_4cfef_14 (lv_at hl 0 rfl) ?_
    refine va_tb hx hb hE_41 hS (RG_in g_p2 (by decide +kernel)) rfl dJ1_indexOfChar_4cfef_16 ?_
    as_aux_lemma =>
    refine lv_topi (fun x_5 ex_5 => ?_)
    have g_6 : RG x_5 0 115 := RG_tab ex_5 (by decide +kernel)
    refine lv_iload hx hb dJ1_indexOfChar_4cfef_17 (lv_at hl 1 rfl) ?_
    refine lv_icmp_ne (tgt := 25) hx hb dJ1_indexOfChar_4cfef_19 rfl (fun c_7 => ?_) (fun c_7 => ?_)
    · obtain ⟨x_8, ex_8⟩ : ∃ y : Int32, y = p2 + 1 := ⟨_, rfl⟩
      have g_9 : RG x_8 1 1 := RG_add ex_8 g_p2 (RG_k 1 1 rfl) (by decide +kernel)
      refine lv_iinc (v := x_8) (lv' := [(5, .int x_8), (4, .int x_1), (0, .ref tv5), (1, .int p1), (2, .int p2), (3, .int p3)]) hx hb dJ1_indexOfChar_4cfef_25 hl (k := 0) rfl (by rw [ex_8]; rfl) (Nat.le_of_ble_eq_true rfl) rfl (fun ls hl => ?_)
      refine lv_goto (tgt := 7) hx hb dJ1_indexOfChar_4cfef_28 rfl ?_
      refine lv_iload hx hb dJ1_indexOfChar_4cfef_7 (lv_at hl 0 rfl) ?_
      refine lv_iload_n hx hb dJ1_indexOfChar_4cfef_9 rfl (lv_at hl 5 rfl) ?_
      refine lv_icmp_ge (tgt := 31) hx hb dJ1_indexOfChar_4cfef_10 rfl (fun c_10 => ?_) (fun c_10 => ?_)
      · have g_11 : RG p3 4 1 := RG_le1 g_p3 g_9 c_10 (by decide +kernel)
        exact RG_dead (RG_le1 g_p3 g_9 c_10 (b' := 1) (by decide +kernel)) (by decide +kernel)
      · have d_12 := Int32.not_le.mp c_10
        refine lv_aload_n hx hb dJ1_indexOfChar_4cfef_13 rfl (lv_at hl 2 rfl) ?_
        as_aux_lemma =>
        refine lv_iload hx hb dJ1_indexOfChar_4cfef_14 (lv_at hl 0 rfl) ?_
        refine va_tb hx hb hE_41 hS (RG_in g_9 (by decide +kernel)) rfl dJ1_indexOfChar_4cfef_16 ?_
        refine lv_topi (fun x_13 ex_13 => ?_)
        have g_14 : RG x_13 0 115 := RG_tab ex_13 (by decide +kernel)
        refine lv_iload hx hb dJ1_indexOfChar_4cfef_17 (lv_at hl 1 rfl) ?_
        refine lv_icmp_ne (tgt := 25) hx hb dJ1_indexOfChar_4cfef_19 rfl (fun c_15 => ?_) (fun c_15 => ?_)
        · obtain ⟨x_16, ex_16⟩ : ∃ y : Int32, y = x_8 + 1 := ⟨_, rfl⟩
          have g_17 : RG x_16 2 2 := RG_add ex_16 g_9 (RG_k 1 1 rfl) (by decide +kernel)
          refine lv_iinc (v := x_16) (lv' := [(5, .int x_16), (4, .int x_1), (0, .ref tv5), (1, .int p1), (2, .int p2), (3, .int p3)]) hx hb dJ1_indexOfChar_4cfef_25 hl (k := 0) rfl (by rw [ex_16]; rfl) (Nat.le_of_ble_eq_true rfl) rfl (fun ls hl => ?_)
          refine lv_goto (tgt := 7) hx hb dJ1_indexOfChar_4cfef_28 rfl ?_
          refine lv_iload hx hb dJ1_indexOfChar_4cfef_7 (lv_at hl 0 rfl) ?_
          refine lv_iload_n hx hb dJ1_indexOfChar_4cfef_9 rfl (lv_at hl 5 rfl) ?_
          refine lv_icmp_ge (tgt := 31) hx hb dJ1_indexOfChar_4cfef_10 rfl (fun c_18 => ?_) (fun c_18 => ?_)
          · have g_19 : RG p3 4 2 := RG_le1 g_p3 g_17 c_18 (by decide +kernel)
            exact RG_dead (RG_le1 g_p3 g_17 c_18 (b' := 2) (by decide +kernel)) (by decide +kernel)
          · have d_20 := Int32.not_le.mp c_18
            refine lv_aload_n hx hb dJ1_indexOfChar_4cfef_13 rfl (lv_at hl 2 rfl) ?_
            as_aux_lemma =>
            refine lv_iload hx hb dJ1_indexOfChar_4cfef_14 (lv_at hl 0 rfl) ?_
            refine va_tb hx hb hE_41 hS (RG_in g_17 (by decide +kernel)) rfl dJ1_indexOfChar_4cfef_16 ?_
            refine lv_topi (fun x_21 ex_21 => ?_)
            have g_22 : RG x_21 0 115 := RG_tab ex_21 (by decide +kernel)
            refine lv_iload hx hb dJ1_indexOfChar_4cfef_17 (lv_at hl 1 rfl) ?_
            refine lv_icmp_ne (tgt := 25) hx hb dJ1_indexOfChar_4cfef_19 rfl (fun c_23 => ?_) (fun c_23 => ?_)
            · obtain ⟨x_24, ex_24⟩ : ∃ y : Int32, y = x_16 + 1 := ⟨_, rfl⟩
              have g_25 : RG x_24 3 3 := RG_add ex_24 g_17 (RG_k 1 1 rfl) (by decide +kernel)
              refine lv_iinc (v := x_24) (lv' := [(5, .int x_24), (4, .int x_1), (0, .ref tv5), (1, .int p1), (2, .int p2), (3, .int p3)]) hx hb dJ1_indexOfChar_4cfef_25 hl (k := 0) rfl (by rw [ex_24]; rfl) (Nat.le_of_ble_eq_true rfl) rfl (fun ls hl => ?_)
              refine lv_goto (tgt := 7) hx hb dJ1_indexOfChar_4cfef_28 rfl ?_
              refine lv_iload hx hb dJ1_indexOfChar_4cfef_7 (lv_at hl 0 rfl) ?_
              refine lv_iload_n hx hb dJ1_indexOfChar_4cfef_9 rfl (lv_at hl 5 rfl) ?_
              refine lv_icmp_ge (tgt := 31) hx hb dJ1_indexOfChar_4cfef_10 rfl (fun c_26 => ?_) (fun c_26 => ?_)
              · have g_27 : RG p3 4 3 := RG_le1 g_p3 g_25 c_26 (by decide +kernel)
                exact RG_dead (RG_le1 g_p3 g_25 c_26 (b' := 3) (by decide +kernel)) (by decide +kernel)
              · have d_28 := Int32.not_le.mp c_26
                refine lv_aload_n hx hb dJ1_indexOfChar_4cfef_13 rfl (lv_at hl 2 rfl) ?_
                as_aux_lemma =>
                refine lv_iload hx hb dJ1_indexOfChar_4cfef_14 (lv_at hl 0 rfl) ?_
                refine va_tb hx hb hE_41 hS (RG_in g_25 (by decide +kernel)) rfl dJ1_indexOfChar_4cfef_16 ?_
                refine lv_topi (fun x_29 ex_29 => ?_)
                have g_30 : RG x_29 0 115 := RG_tab ex_29 (by decide +kernel)
                refine lv_iload hx hb dJ1_indexOfChar_4cfef_17 (lv_at hl 1 rfl) ?_
                refine lv_icmp_ne (tgt := 25) hx hb dJ1_indexOfChar_4cfef_19 rfl (fun c_31 => ?_) (fun c_31 => ?_)
                · obtain ⟨x_32, ex_32⟩ : ∃ y : Int32, y = x_24 + 1 := ⟨_, rfl⟩
                  have g_33 : RG x_32 4 4 := RG_add ex_32 g_25 (RG_k 1 1 rfl) (by decide +kernel)
                  refine lv_iinc (v := x_32) (lv' := [(5, .int x_32), (4, .int x_1), (0, .ref tv5), (1, .int p1), (2, .int p2), (3, .int p3)]) hx hb dJ1_indexOfChar_4cfef_25 hl (k := 0) rfl (by rw [ex_32]; rfl) (Nat.le_of_ble_eq_true rfl) rfl (fun ls hl => ?_)
                  refine lv_goto (tgt := 7) hx hb dJ1_indexOfChar_4cfef_28 rfl ?_
                  refine lv_iload hx hb dJ1_indexOfChar_4cfef_7 (lv_at hl 0 rfl) ?_
                  refine lv_iload_n hx hb dJ1_indexOfChar_4cfef_9 rfl (lv_at hl 5 rfl) ?_
                  refine lv_icmp_ge (tgt := 31) hx hb dJ1_indexOfChar_4cfef_10 rfl (fun c_34 => ?_) (fun c_34 => ?_)
                  · refine lv_iconst (v := (-1)) hx hb dJ1_indexOfChar_4cfef_31 kc_iconst_m1 ?_
                    have hK9 := hK.sub (tys' := []) [] rfl
                    exact W.iret (v := (-1)) hx hb hr (fun t ht hW => ⟨⟨(-1), (), rfl, (Or.inl rfl), by rw [ht]; exact hP, va_K.moved hW.alike hK9, hD⟩, hS.F ht⟩) hS.2.2 dJ1_indexOfChar_4cfef_32
                  · have d_35 := Int32.not_le.mp c_34
                    have g_36 : RG x_32 4 3 := RG_lt1 g_33 g_p3 d_35 (by decide +kernel)
                    exact RG_dead (RG_lt1 g_33 g_p3 d_35 (b' := 3) (by decide +kernel)) (by decide +kernel)
                · have g_37 : RG x_1 0 115 := RG_eq1 (RG_any x_1) g_30 c_31.symm (by decide +kernel)
                  refine lv_iload hx hb dJ1_indexOfChar_4cfef_22 (lv_at hl 0 rfl) ?_
                  as_aux_lemma =>
                  have hK9 := hK.sub (tys' := []) [] rfl
                  exact W.iret (v := x_24) hx hb hr (fun t ht hW => ⟨⟨x_24, (), rfl, (Or.inr (RG_w g_25 (by decide +kernel))), by rw [ht]; exact hP, va_K.moved hW.alike hK9, hD⟩, hS.F ht⟩) hS.2.2 dJ1_indexOfChar_4cfef_24
            · have g_38 : RG x_1 0 115 := RG_eq1 (RG_any x_1) g_22 c_23.symm (by decide +kernel)
              refine lv_iload hx hb dJ1_indexOfChar_4cfef_22 (lv_at hl 0 rfl) ?_
              have hK9 := hK.sub (tys' := []) [] rfl
              exact W.iret (v := x_16) hx hb hr (fun t ht hW => ⟨⟨x_16, (), rfl, (Or.inr (RG_w g_17 (by decide +kernel))), by rw [ht]; exact hP, va_K.moved hW.alike hK9, hD⟩, hS.F ht⟩) hS.2.2 dJ1_indexOfChar_4cfef_24
        · have g_39 : RG x_1 0 115 := RG_eq1 (RG_any x_1) g_14 c_15.symm (by decide +kernel)
          refine lv_iload hx hb dJ1_indexOfChar_4cfef_22 (lv_at hl 0 rfl) ?_
          have hK9 := hK.sub (tys' := []) [] rfl
          exact W.iret (v := x_8) hx hb hr (fun t ht hW => ⟨⟨x_8, (), rfl, (Or.inr (RG_w g_9 (by decide +kernel))), by rw [ht]; exact hP, va_K.moved hW.alike hK9, hD⟩, hS.F ht⟩) hS.2.2 dJ1_indexOfChar_4cfef_24
    · have g_40 : RG x_1 0 115 := RG_eq1 (RG_any x_1) g_6 c_7.symm (by decide +kernel)
      refine lv_iload hx hb dJ1_indexOfChar_4cfef_22 (lv_at hl 0 rfl) ?_
      have hK9 := hK.sub (tys' := []) [] rfl
      exact W.iret (v := p2) hx hb hr (fun t ht hW => ⟨⟨p2, (), rfl, (Or.inr (RG_w g_p2 (by decide +kernel))), by rw [ht]; exact hP, va_K.moved hW.alike hK9, hD⟩, hS.F ht⟩) hS.2.2 dJ1_indexOfChar_4cfef_24
noncomputable def wf_c_J1_indexOf_4cfef_5 : List Cond := .code yJ1_indexOf_4cfef cJ1_indexOf_4cfef 4 (some .int) :: ([.methodLink RJ1 88 yJ1_canEncode_9a6ad, .static yJ1_canEncode_9a6ad, .initialized RJ1, .code yJ1_canEncode_9a6ad cJ1_canEncode_9a6ad 1 (some .boolean), .methodLink RJ1 92 Lib.Math.max.name, .static Lib.Math.max.name, .initialized "java/lang/Math", .code Lib.Math.max.name Lib.Math.max.code 2 (some .int), .methodLink RJ1 38 Lib.Math.min.name, .static Lib.Math.min.name, .code Lib.Math.min.name Lib.Math.min.code 2 (some .int), .methodLink RJ1 95 yJ1_indexOfChar_4cfef, .static yJ1_indexOfChar_4cfef, .code yJ1_indexOfChar_4cfef cJ1_indexOfChar_4cfef 6 (some .int)])
set_option maxRecDepth 20000 in
theorem gf_c_J1_indexOf_4cfef_5_c_J1_canEncode_9a6ad : GoodIn wf_c_J1_indexOf_4cfef_5 (va_wsS RJ1 88 yJ1_canEncode_9a6ad wf_c_J1_canEncode_9a6ad) := goodIn_app (gi_l [1, 2, 3] rfl rfl) (gi_cons (j := 4) rfl rfl gi_nil)
set_option maxRecDepth 20000 in
theorem gf_c_J1_indexOf_4cfef_5_c_J1_indexOfChar_4cfef_5 : GoodIn wf_c_J1_indexOf_4cfef_5 (va_wsS RJ1 95 yJ1_indexOfChar_4cfef wf_c_J1_indexOfChar_4cfef_5) := goodIn_app (gi_l [12, 13, 3] rfl rfl) (gi_cons (j := 14) rfl rfl gi_nil)
set_option maxHeartbeats 4000000 in
set_option maxRecDepth 100000 in
theorem c_J1_indexOf_4cfef_5 (l : Launch) (dC : Nat → ClassId) (dI : Nat → Nat → Nat) (sz : Nat) (tv5 : Nat) (p1 : Int32) (g_p1 : RG p1 0 65535) : Met l yJ1_indexOf_4cfef wf_c_J1_indexOf_4cfef_5 ({ frames := 1, cells := 0, slots := 0, locals := 25 }) (va_Pc [.ref tv5, .int p1, .int 0, .int 4] (fun U => U.heap.size = sz ∧ va_P (dC, dI) vwCl [] U.heap ∧ va_K (dC, dI) vwCl [] U ∧ va_D (fun _ => True) [] ∧ va_T .byte tv5 4 (fun j => .int ([103, 115, 99, 104].getD j 0)) (va_A [] sz) U U.heap)) (va_Qi (fun (r : Int32) (u : Unit) => (r = (-1)) ∨ (RG r 0 3 ∧ RG p1 0 255)) (fun (u : Unit) t => va_P (dC, dI) vwCl [] t.heap ∧ va_K (dC, dI) vwCl [] t ∧ va_D (va_A [] sz) []) (va_A [] sz)) 0 0 (va_A [] sz) := by
  refine Met.ofW (cc := cJ1_indexOf_4cfef) (maxL := 4) (ret := (some .int)) (by decide +kernel) rfl ?_
  intro p e s m args below meth c s₁ B hml hv
  obtain ⟨rfl, hsz, hP, hK, hD0, hE_41⟩ := hv
  have hx := B.exec
  have hb := B.bytes
  have hr := B.returns
  have hts := atoms_spec (ws := wf_c_J1_indexOf_4cfef_5) B.pre
  have hown : s.vm.findClass RJ1 = some m.cls := findClass_of_methodNamed B.named
  have hlocks := B.notSynchronized
  subst hsz
  have hD := hD0.self (sz := s.heap.size)
  generalize hAe : va_A [] s.heap.size = A at hD hE_41 ⊢
  have hA : ∀ q : Nat, s.heap.size ≤ q → A q := fun q h => by rw [← hAe]; exact Or.inr h
  have hP : va_P (dC, dI) vwCl [] s.heap := hP
  have hl := lv_entry ([.ref tv5, .int p1, .int 0, .int 4]) (n := 4) (Nat.le_of_ble_eq_true rfl)
  rw [lg_entry_eq]
  generalize (lg_sl ([.ref tv5, .int p1, .int 0, .int 4]) ++ List.replicate (4 - (lg_sl ([.ref tv5, .int p1, .int 0, .int 4])).length) Slot.unset).toArray = ls at hl ⊢
  have hl : lv_has ls 4 [(0, .ref tv5), (1, .int p1), (2, .int 0), (3, .int 4)] := hl
  obtain ⟨H, hHe⟩ : ∃ H : Heap, s.heap = H := ⟨_, rfl⟩
  have hS : va_S A s.heap H [] := by rw [hHe]; exact va_S.rf
  have hP : va_P (dC, dI) vwCl [] H := by rw [← hHe]; exact hP
  rw [hHe]
  refine lv_iload_n hx hb dJ1_indexOf_4cfef_0 rfl (lv_at hl 1 rfl) ?_
  as_aux_lemma =>
  obtain ⟨hPc, hDc, hFc, hqc⟩ := cl_cut (wc := []) hP hD hS hA [] (by decide +kernel) rfl
  have hKc := hK.sub (tys' := []) [] rfl
  refine va_calli (va_runS (As := [.int p1]) (rest := []) ⟨hx, hb, hml, hown, hts⟩ (c_J1_canEncode_9a6ad l dC dI H.size p1 g_p1) (va_cwS 1 hts gf_c_J1_indexOf_4cfef_5_c_J1_canEncode_9a6ad rfl rfl rfl md_J1_canEncode_9a6ad ⟨Nat.le_of_ble_eq_true rfl, Nat.le_of_ble_eq_true rfl⟩) ⟨fun a U g mk q => by obtain ⟨q0, q1, qP, qK, qD⟩ := q; exact ⟨q0, q1, qP, va_K.moved (u := U) (U := U.calling g mk a) (Vm.Alike.refl U.vm) qK, qD⟩, fun U hU hW => ⟨rfl, by rw [hU], by rw [hU]; exact hPc, va_K.moved hW.alike hKc, hDc.weaken (fun _ _ _ _ => trivial)⟩⟩ rfl rfl hl.1 rfl (lv_room (Nat.le_of_ble_eq_true rfl)) dJ1_indexOf_4cfef_1 ⟨Nat.le_of_ble_eq_true rfl, Nat.le_of_ble_eq_true rfl⟩) hS (fun q _ h => hFc q h) hFc (fun r_1 u t H1 locs ht hvm hw hB hz1 hk1 hS => ?_)
  obtain ⟨hP1, hK1, hD1⟩ := hB
  rw [ht] at hP1
  have hP := bv_still hP hk1
  generalize H1 = H at hP hS ⊢
  as_aux_lemma =>
  rcases hw with ⟨h_2, h_3⟩ | ⟨h_4, h_5⟩
  · rw [h_2]
    refine lv_if_ne (tgt := 9) hx hb dJ1_indexOf_4cfef_4 rfl (fun c_6 => absurd c_6 (by decide +kernel)) (fun c_6 => ?_)
    refine lv_iconst (v := (-1)) hx hb dJ1_indexOf_4cfef_7 kc_iconst_m1 ?_
    have hK9 := hK.sub (tys' := []) [] rfl
    exact W.iret (v := (-1)) hx hb hr (fun t ht hW => ⟨⟨(-1), (), rfl, (Or.inl rfl), by rw [ht]; exact hP, va_K.moved hW.alike hK9, hD⟩, hS.F ht⟩) hS.2.2 dJ1_indexOf_4cfef_8
  · rw [h_4]
    refine lv_if_ne (tgt := 9) hx hb dJ1_indexOf_4cfef_4 rfl (fun c_7 => ?_) (fun c_7 => absurd c_7 (by decide +kernel))
    refine lv_iload_n hx hb dJ1_indexOf_4cfef_9 rfl (lv_at hl 2 rfl) ?_
    refine lv_iconst (v := 0) hx hb dJ1_indexOf_4cfef_10 kc_iconst_0 ?_
    refine va_mmax hx hb (by rw [hml]; exact hl.1.symm) hown (hts (.methodLink RJ1 92 Lib.Math.max.name) (List.mem_of_getElem? (i := 5) rfl)) (hts (.static Lib.Math.max.name) (List.mem_of_getElem? (i := 6) rfl)) (hts (.initialized "java/lang/Math") (List.mem_of_getElem? (i := 7) rfl)) (hts (.code Lib.Math.max.name Lib.Math.max.code 2 (some .int)) (List.mem_of_getElem? (i := 8) rfl)) (Nat.le_of_ble_eq_true rfl) (Nat.le_of_ble_eq_true rfl) (Nat.le_of_ble_eq_true rfl) (Nat.le_of_ble_eq_true rfl) dJ1_indexOf_4cfef_11 ?_
    refine lv_topi (fun x_8 ex_8 => ?_)
    have g_9 : RG x_8 0 0 := RG_max ex_8 (RG_k 0 0 rfl) (RG_k 0 0 rfl) (by decide +kernel)
    refine lv_istore_n (lv' := [(2, .int x_8), (0, .ref tv5), (1, .int p1), (3, .int 4)]) hx hb dJ1_indexOf_4cfef_14 rfl hl (Nat.le_of_ble_eq_true rfl) rfl (fun ls hl => ?_)
    as_aux_lemma =>
    refine lv_iload_n hx hb dJ1_indexOf_4cfef_15 rfl (lv_at hl 3 rfl) ?_
    refine lv_aload_n hx hb dJ1_indexOf_4cfef_16 rfl (lv_at hl 1 rfl) ?_
    refine va_tlen (v := 4) hx hb hE_41 hS rfl dJ1_indexOf_4cfef_17 ?_
    refine va_mmin hx hb (by rw [hml]; exact hl.1.symm) hown (hts (.methodLink RJ1 38 Lib.Math.min.name) (List.mem_of_getElem? (i := 9) rfl)) (hts (.static Lib.Math.min.name) (List.mem_of_getElem? (i := 10) rfl)) (hts (.initialized "java/lang/Math") (List.mem_of_getElem? (i := 7) rfl)) (hts (.code Lib.Math.min.name Lib.Math.min.code 2 (some .int)) (List.mem_of_getElem? (i := 11) rfl)) (Nat.le_of_ble_eq_true rfl) (Nat.le_of_ble_eq_true rfl) (Nat.le_of_ble_eq_true rfl) (Nat.le_of_ble_eq_true rfl) dJ1_indexOf_4cfef_18 ?_
    refine lv_topi (fun x_10 ex_10 => ?_)
    have g_11 : RG x_10 4 4 := RG_min ex_10 (RG_k 4 4 rfl) (RG_k 4 4 rfl) (by decide +kernel)
    refine lv_istore_n (lv' := [(3, .int x_10), (2, .int x_8), (0, .ref tv5), (1, .int p1)]) hx hb dJ1_indexOf_4cfef_21 rfl hl (Nat.le_of_ble_eq_true rfl) rfl (fun ls hl => ?_)
    refine lv_iload_n hx hb dJ1_indexOf_4cfef_22 rfl (lv_at hl 1 rfl) ?_
    refine lv_iload_n hx hb dJ1_indexOf_4cfef_23 rfl (lv_at hl 0 rfl) ?_
    refine lv_icmp_lt (tgt := 29) hx hb dJ1_indexOf_4cfef_24 rfl (fun c_12 => ?_) (fun c_12 => ?_)
    · refine lv_aload_n hx hb dJ1_indexOf_4cfef_29 rfl (lv_at hl 2 rfl) ?_
      refine lv_iload_n hx hb dJ1_indexOf_4cfef_30 rfl (lv_at hl 3 rfl) ?_
      refine lv_iload_n hx hb dJ1_indexOf_4cfef_31 rfl (lv_at hl 1 rfl) ?_
      refine lv_iload_n hx hb dJ1_indexOf_4cfef_32 rfl (lv_at hl 0 rfl) ?_
      as_aux_lemma =>
      obtain ⟨hPc, hDc, hFc, hqc⟩ := cl_cut (wc := []) hP hD hS hA [] (by decide +kernel) rfl
      have hKc := hK.sub (tys' := []) [] rfl
      refine va_calli (va_runS (As := [.ref tv5, .int p1, .int x_8, .int x_10]) (rest := []) ⟨hx, hb, hml, hown, hts⟩ (c_J1_indexOfChar_4cfef_5 l dC dI H.size tv5 p1 x_8 x_10 h_5 g_9 g_11) (va_cwS 4 hts gf_c_J1_indexOf_4cfef_5_c_J1_indexOfChar_4cfef_5 rfl rfl rfl md_J1_indexOfChar_4cfef ⟨Nat.le_of_ble_eq_true rfl, Nat.le_of_ble_eq_true rfl⟩) ⟨fun a U g mk q => by obtain ⟨q0, q1, qP, qK, qD, qE0⟩ := q; exact ⟨q0, q1, qP, va_K.moved (u := U) (U := U.calling g mk a) (Vm.Alike.refl U.vm) qK, qD, va_T.moved (u := U) (U := U.calling g mk a) (Vm.Alike.refl U.vm) qE0⟩, fun U hU hW => ⟨rfl, by rw [hU], by rw [hU]; exact hPc, va_K.moved hW.alike hKc, hDc.weaken (fun _ _ _ _ => trivial), va_T.moved hW.alike (by rw [hU]; exact (hE_41.kept hS.2.1).narrow hFc)⟩⟩ rfl rfl hl.1 rfl (lv_room (Nat.le_of_ble_eq_true rfl)) dJ1_indexOf_4cfef_33 ⟨Nat.le_of_ble_eq_true rfl, Nat.le_of_ble_eq_true rfl⟩) hS (fun q _ h => hFc q h) hFc (fun r_13 u t H1 locs ht hvm hw hB hz1 hk1 hS => ?_)
      obtain ⟨hP1, hK1, hD1⟩ := hB
      rw [ht] at hP1
      have hP := bv_still hP hk1
      generalize H1 = H at hP hS ⊢
      as_aux_lemma =>
      rcases hw with h_14 | h_15
      · rw [h_14]
        have hK9 := hK.sub (tys' := []) [] rfl
        exact W.iret (v := (-1)) hx hb hr (fun t ht hW => ⟨⟨(-1), (), rfl, (Or.inl rfl), by rw [ht]; exact hP, va_K.moved hW.alike hK9, hD⟩, hS.F ht⟩) hS.2.2 dJ1_indexOf_4cfef_36
      · have hK9 := hK.sub (tys' := []) [] rfl
        exact W.iret (v := r_13) hx hb hr (fun t ht hW => ⟨⟨r_13, (), rfl, (Or.inr ⟨h_15, h_5⟩), by rw [ht]; exact hP, va_K.moved hW.alike hK9, hD⟩, hS.F ht⟩) hS.2.2 dJ1_indexOf_4cfef_36
    · have d_16 := Int32.not_lt.mp c_12
      have g_17 : RG x_10 4 0 := RG_le1 g_11 g_9 d_16 (by decide +kernel)
      exact RG_dead (RG_le1 g_11 g_9 d_16 (b' := 0) (by decide +kernel)) (by decide +kernel)
noncomputable def wf_c_J0_indexOf_7cf53_5 : List Cond := .code yJ0_indexOf_7cf53 cJ0_indexOf_7cf53 3 (some .int) :: ([.methodLink RJ0 492 yJ0_isLatin1_aae02, .instanceMethod yJ0_isLatin1_aae02, .selects RJ0 yJ0_isLatin1_aae02 yJ0_isLatin1_aae02, .initialized RJ0, .code yJ0_isLatin1_aae02 cJ0_isLatin1_aae02 1 (some .boolean), .fieldLink RJ0 38 "java/lang/String" "COMPACT_STRINGS" "Z", .fieldLink RJ0 15 "java/lang/String" "coder" "B", .fieldLink RJ0 9 "java/lang/String" "value" "[B", .methodLink RJ0 505 yJ0_length_8abf5, .instanceMethod yJ0_length_8abf5, .selects RJ0 yJ0_length_8abf5 yJ0_length_8abf5, .code yJ0_length_8abf5 cJ0_length_8abf5 1 (some .int), .methodLink RJ0 335 yJ0_coder_7d493, .instanceMethod yJ0_coder_7d493, .selects RJ0 yJ0_coder_7d493 yJ0_coder_7d493, .code yJ0_coder_7d493 cJ0_coder_7d493 1 (some .byte), .methodLink RJ0 637 yJ1_indexOf_4cfef, .static yJ1_indexOf_4cfef, .initialized RJ1, .code yJ1_indexOf_4cfef cJ1_indexOf_4cfef 4 (some .int), .methodLink RJ1 88 yJ1_canEncode_9a6ad, .static yJ1_canEncode_9a6ad, .code yJ1_canEncode_9a6ad cJ1_canEncode_9a6ad 1 (some .boolean), .methodLink RJ1 92 Lib.Math.max.name, .static Lib.Math.max.name, .initialized "java/lang/Math", .code Lib.Math.max.name Lib.Math.max.code 2 (some .int), .methodLink RJ1 38 Lib.Math.min.name, .static Lib.Math.min.name, .code Lib.Math.min.name Lib.Math.min.code 2 (some .int), .methodLink RJ1 95 yJ1_indexOfChar_4cfef, .static yJ1_indexOfChar_4cfef, .code yJ1_indexOfChar_4cfef cJ1_indexOfChar_4cfef 6 (some .int)])
set_option maxRecDepth 20000 in
theorem gf_c_J0_indexOf_7cf53_5_c_J0_isLatin1_aae02_5 : GoodIn wf_c_J0_indexOf_7cf53_5 (wsV RJ0 492 RJ0 yJ0_isLatin1_aae02 wf_c_J0_isLatin1_aae02_5) := goodIn_app (gi_l [1, 2, 3, 4] rfl rfl) (gi_cons (j := 5) rfl rfl (gi_l [6, 7] rfl rfl))
set_option maxRecDepth 20000 in
theorem gf_c_J0_indexOf_7cf53_5_c_J0_length_8abf5_5 : GoodIn wf_c_J0_indexOf_7cf53_5 (wsV RJ0 505 RJ0 yJ0_length_8abf5 wf_c_J0_length_8abf5_5) := goodIn_app (gi_l [9, 10, 11, 4] rfl rfl) (gi_cons (j := 12) rfl rfl (gi_l [8, 13, 14, 15, 4, 16, 6, 7] rfl rfl))
set_option maxRecDepth 20000 in
theorem gf_c_J0_indexOf_7cf53_5_c_J1_indexOf_4cfef_5 : GoodIn wf_c_J0_indexOf_7cf53_5 (va_wsS RJ0 637 yJ1_indexOf_4cfef wf_c_J1_indexOf_4cfef_5) := goodIn_app (gi_l [17, 18, 19] rfl rfl) (gi_cons (j := 20) rfl rfl (gi_l [21, 22, 19, 23, 24, 25, 26, 27, 28, 29, 30, 31, 32, 33] rfl rfl))
set_option maxHeartbeats 4000000 in
set_option maxRecDepth 100000 in
theorem c_J0_indexOf_7cf53_5 (l : Launch) (dC : Nat → ClassId) (dI : Nat → Nat → Nat) (sz : Nat) (ts5 : Nat) (p1 : Int32) (tv5 : Nat) (g_p1 : RG p1 0 65535) : Met l yJ0_indexOf_7cf53 wf_c_J0_indexOf_7cf53_5 ({ frames := 2, cells := 0, slots := 0, locals := 48 }) (va_Pc [.ref ts5, .int p1, .int 0] (fun U => U.heap.size = sz ∧ va_P (dC, dI) vwCl [] U.heap ∧ va_K (dC, dI) vwCl [] U ∧ va_D (fun _ => True) [] ∧ va_Z "java/lang/String" "COMPACT_STRINGS" "Z" (.int 1) (va_A [] sz) U U.heap ∧ va_OF "java/lang/String" "coder" "B" (.int 0) ts5 (va_A [] sz) U U.heap ∧ va_O "java/lang/String" ts5 (va_A [] sz) U U.heap ∧ va_OF "java/lang/String" "value" "[B" (.ref tv5) ts5 (va_A [] sz) U U.heap ∧ va_T .byte tv5 4 (fun j => .int ([103, 115, 99, 104].getD j 0)) (va_A [] sz) U U.heap)) (va_Qi (fun (r : Int32) (u : Unit) => (r = (-1)) ∨ (RG r 0 3 ∧ RG p1 0 255)) (fun (u : Unit) t => va_P (dC, dI) vwCl [] t.heap ∧ va_K (dC, dI) vwCl [] t ∧ va_D (va_A [] sz) []) (va_A [] sz)) 0 0 (va_A [] sz) := by
  refine Met.ofW (cc := cJ0_indexOf_7cf53) (maxL := 3) (ret := (some .int)) (by decide +kernel) rfl ?_
  intro p e s m args below meth c s₁ B hml hv
  obtain ⟨rfl, hsz, hP, hK, hD0, hE_10, hE_39, hE_38, hE_40, hE_41⟩ := hv
  have hx := B.exec
  have hb := B.bytes
  have hr := B.returns
  have hts := atoms_spec (ws := wf_c_J0_indexOf_7cf53_5) B.pre
  have hown : s.vm.findClass RJ0 = some m.cls := findClass_of_methodNamed B.named
  have hlocks := B.notSynchronized
  subst hsz
  have hD := hD0.self (sz := s.heap.size)
  generalize hAe : va_A [] s.heap.size = A at hD hE_10 hE_39 hE_38 hE_40 hE_41 ⊢
  have hA : ∀ q : Nat, s.heap.size ≤ q → A q := fun q h => by rw [← hAe]; exact Or.inr h
  have hP : va_P (dC, dI) vwCl [] s.heap := hP
  have hl := lv_entry ([.ref ts5, .int p1, .int 0]) (n := 3) (Nat.le_of_ble_eq_true rfl)
  rw [lg_entry_eq]
  generalize (lg_sl ([.ref ts5, .int p1, .int 0]) ++ List.replicate (3 - (lg_sl ([.ref ts5, .int p1, .int 0])).length) Slot.unset).toArray = ls at hl ⊢
  have hl : lv_has ls 3 [(0, .ref ts5), (1, .int p1), (2, .int 0)] := hl
  obtain ⟨H, hHe⟩ : ∃ H : Heap, s.heap = H := ⟨_, rfl⟩
  have hS : va_S A s.heap H [] := by rw [hHe]; exact va_S.rf
  have hP : va_P (dC, dI) vwCl [] H := by rw [← hHe]; exact hP
  rw [hHe]
  refine lv_aload_n hx hb dJ0_indexOf_7cf53_0 rfl (lv_at hl 0 rfl) ?_
  as_aux_lemma =>
  obtain ⟨hPc, hDc, hFc, hqc⟩ := cl_cut (wc := []) hP hD hS hA [] (by decide +kernel) rfl
  have hKc := hK.sub (tys' := []) [] rfl
  have hrv := bv_Orecv hE_38 hS
  refine va_calli (va_runV (As := []) (rest := []) ⟨hx, hb, hml, hown, hts⟩ (c_J0_isLatin1_aae02_5 l dC dI H.size ts5) (cwV 0 hts gf_c_J0_indexOf_7cf53_5_c_J0_isLatin1_aae02_5 rfl rfl rfl mdV_J0_isLatin1_aae02 ⟨Nat.le_of_ble_eq_true rfl, Nat.le_of_ble_eq_true rfl⟩) ⟨fun a U g mk q => by obtain ⟨q0, q1, qP, qK, qD, qE0, qE1⟩ := q; exact ⟨q0, q1, qP, va_K.moved (u := U) (U := U.calling g mk a) (Vm.Alike.refl U.vm) qK, qD, va_Z.moved (u := U) (U := U.calling g mk a) (Vm.Alike.refl U.vm) qE0, va_OF.moved (u := U) (U := U.calling g mk a) (Vm.Alike.refl U.vm) qE1⟩, hrv, fun U hU hW => ⟨rfl, by rw [hU], by rw [hU]; exact hPc, va_K.moved hW.alike hKc, hDc.weaken (fun _ _ _ _ => trivial), va_Z.moved hW.alike (by rw [hU]; exact (hE_10.kept hS.2.1).narrow hFc), va_OF.moved hW.alike (by rw [hU]; exact (hE_39.kept hS.2.1).narrow hFc)⟩⟩ rfl rfl hl.1 rfl (lv_room (Nat.le_of_ble_eq_true rfl)) dJ0_indexOf_7cf53_1 ⟨Nat.le_of_ble_eq_true rfl, Nat.le_of_ble_eq_true rfl⟩) hS (fun q _ h => hFc q h) hFc (fun r_1 u t H1 locs ht hvm hw hB hz1 hk1 hS => ?_)
  obtain ⟨hP1, hK1, hD1⟩ := hB
  rw [ht] at hP1
  have hP := bv_still hP hk1
  generalize H1 = H at hP hS ⊢
  as_aux_lemma =>
  have h_2 := hw
  rw [h_2]
  refine lv_if_eq (tgt := 23) hx hb dJ0_indexOf_7cf53_4 rfl (fun c_3 => absurd c_3 (by decide +kernel)) (fun c_3 => ?_)
  refine lv_aload_n hx hb dJ0_indexOf_7cf53_7 rfl (lv_at hl 0 rfl) ?_
  refine vk_getf hx hb hE_40 hS hown (hts (.fieldLink RJ0 9 "java/lang/String" "value" "[B") (List.mem_of_getElem? (i := 8) rfl)) (fun _ h9 => h9) dJ0_indexOf_7cf53_8 ?_
  refine lv_iload_n hx hb dJ0_indexOf_7cf53_11 rfl (lv_at hl 1 rfl) ?_
  refine lv_iload_n hx hb dJ0_indexOf_7cf53_12 rfl (lv_at hl 2 rfl) ?_
  refine lv_aload_n hx hb dJ0_indexOf_7cf53_13 rfl (lv_at hl 0 rfl) ?_
  obtain ⟨hPc, hDc, hFc, hqc⟩ := cl_cut (wc := []) hP hD hS hA [] (by decide +kernel) rfl
  have hKc := hK.sub (tys' := []) [] rfl
  have hrv := bv_Orecv hE_38 hS
  refine va_calli (va_runV (As := []) (rest := [.int 0, .int p1, .ref tv5]) ⟨hx, hb, hml, hown, hts⟩ (c_J0_length_8abf5_5 l dC dI H.size ts5 tv5) (cwV 0 hts gf_c_J0_indexOf_7cf53_5_c_J0_length_8abf5_5 rfl rfl rfl mdV_J0_length_8abf5 ⟨Nat.le_of_ble_eq_true rfl, Nat.le_of_ble_eq_true rfl⟩) ⟨fun a U g mk q => by obtain ⟨q0, q1, qP, qK, qD, qE0, qE1, qE2, qE3, qE4⟩ := q; exact ⟨q0, q1, qP, va_K.moved (u := U) (U := U.calling g mk a) (Vm.Alike.refl U.vm) qK, qD, va_OF.moved (u := U) (U := U.calling g mk a) (Vm.Alike.refl U.vm) qE0, va_T.moved (u := U) (U := U.calling g mk a) (Vm.Alike.refl U.vm) qE1, va_Z.moved (u := U) (U := U.calling g mk a) (Vm.Alike.refl U.vm) qE2, va_OF.moved (u := U) (U := U.calling g mk a) (Vm.Alike.refl U.vm) qE3, va_O.moved (u := U) (U := U.calling g mk a) (Vm.Alike.refl U.vm) qE4⟩, hrv, fun U hU hW => ⟨rfl, by rw [hU], by rw [hU]; exact hPc, va_K.moved hW.alike hKc, hDc.weaken (fun _ _ _ _ => trivial), va_OF.moved hW.alike (by rw [hU]; exact (hE_40.kept hS.2.1).narrow hFc), va_T.moved hW.alike (by rw [hU]; exact (hE_41.kept hS.2.1).narrow hFc), va_Z.moved hW.alike (by rw [hU]; exact (hE_10.kept hS.2.1).narrow hFc), va_OF.moved hW.alike (by rw [hU]; exact (hE_39.kept hS.2.1).narrow hFc), va_O.moved hW.alike (by rw [hU]; exact (hE_38.kept hS.2.1).narrow hFc)⟩⟩ rfl rfl hl.1 rfl (lv_room (Nat.le_of_ble_eq_true rfl)) dJ0_indexOf_7cf53_14 ⟨Nat.le_of_ble_eq_true rfl, Nat.le_of_ble_eq_true rfl⟩) hS (fun q _ h => hFc q h) hFc (fun r_4 u t H1 locs ht hvm hw hB hz1 hk1 hS => ?_)
  obtain ⟨hP1, hK1, hD1⟩ := hB
  rw [ht] at hP1
  have hP := bv_still hP hk1
  generalize H1 = H at hP hS ⊢
  as_aux_lemma =>
  have h_5 := hw
  rw [h_5]
  obtain ⟨hPc, hDc, hFc, hqc⟩ := cl_cut (wc := []) hP hD hS hA [] (by decide +kernel) rfl
  have hKc := hK.sub (tys' := []) [] rfl
  refine va_calli (va_runS (As := [.ref tv5, .int p1, .int 0, .int 4]) (rest := []) ⟨hx, hb, hml, hown, hts⟩ (c_J1_indexOf_4cfef_5 l dC dI H.size tv5 p1 g_p1) (va_cwS 4 hts gf_c_J0_indexOf_7cf53_5_c_J1_indexOf_4cfef_5 rfl rfl rfl md_J1_indexOf_4cfef ⟨Nat.le_of_ble_eq_true rfl, Nat.le_of_ble_eq_true rfl⟩) ⟨fun a U g mk q => by obtain ⟨q0, q1, qP, qK, qD, qE0⟩ := q; exact ⟨q0, q1, qP, va_K.moved (u := U) (U := U.calling g mk a) (Vm.Alike.refl U.vm) qK, qD, va_T.moved (u := U) (U := U.calling g mk a) (Vm.Alike.refl U.vm) qE0⟩, fun U hU hW => ⟨rfl, by rw [hU], by rw [hU]; exact hPc, va_K.moved hW.alike hKc, hDc.weaken (fun _ _ _ _ => trivial), va_T.moved hW.alike (by rw [hU]; exact (hE_41.kept hS.2.1).narrow hFc)⟩⟩ rfl rfl hl.1 rfl (lv_room (Nat.le_of_ble_eq_true rfl)) dJ0_indexOf_7cf53_17 ⟨Nat.le_of_ble_eq_true rfl, Nat.le_of_ble_eq_true rfl⟩) hS (fun q _ h => hFc q h) hFc (fun r_6 u t H1 locs ht hvm hw hB hz1 hk1 hS => ?_)
  obtain ⟨hP1, hK1, hD1⟩ := hB
  rw [ht] at hP1
  have hP := bv_still hP hk1
  generalize H1 = H at hP hS ⊢
  as_aux_lemma =>
  rcases hw with h_7 | ⟨h_8, h_9⟩
  · rw [h_7]
    refine lv_goto (tgt := 36) hx hb dJ0_indexOf_7cf53_20 rfl ?_
    have hK9 := hK.sub (tys' := []) [] rfl
    exact W.iret (v := (-1)) hx hb hr (fun t ht hW => ⟨⟨(-1), (), rfl, (Or.inl rfl), by rw [ht]; exact hP, va_K.moved hW.alike hK9, hD⟩, hS.F ht⟩) hS.2.2 dJ0_indexOf_7cf53_36
  · refine lv_goto (tgt := 36) hx hb dJ0_indexOf_7cf53_20 rfl ?_
    have hK9 := hK.sub (tys' := []) [] rfl
    exact W.iret (v := r_6) hx hb hr (fun t ht hW => ⟨⟨r_6, (), rfl, (Or.inr ⟨h_8, h_9⟩), by rw [ht]; exact hP, va_K.moved hW.alike hK9, hD⟩, hS.F ht⟩) hS.2.2 dJ0_indexOf_7cf53_36
noncomputable def wf_c_J0_indexOf_0f7a4_5 : List Cond := .code yJ0_indexOf_0f7a4 cJ0_indexOf_0f7a4 2 (some .int) :: ([.methodLink RJ0 633 yJ0_indexOf_7cf53, .instanceMethod yJ0_indexOf_7cf53, .selects RJ0 yJ0_indexOf_7cf53 yJ0_indexOf_7cf53, .initialized RJ0, .code yJ0_indexOf_7cf53 cJ0_indexOf_7cf53 3 (some .int), .methodLink RJ0 492 yJ0_isLatin1_aae02, .instanceMethod yJ0_isLatin1_aae02, .selects RJ0 yJ0_isLatin1_aae02 yJ0_isLatin1_aae02, .code yJ0_isLatin1_aae02 cJ0_isLatin1_aae02 1 (some .boolean), .fieldLink RJ0 38 "java/lang/String" "COMPACT_STRINGS" "Z", .fieldLink RJ0 15 "java/lang/String" "coder" "B", .fieldLink RJ0 9 "java/lang/String" "value" "[B", .methodLink RJ0 505 yJ0_length_8abf5, .instanceMethod yJ0_length_8abf5, .selects RJ0 yJ0_length_8abf5 yJ0_length_8abf5, .code yJ0_length_8abf5 cJ0_length_8abf5 1 (some .int), .methodLink RJ0 335 yJ0_coder_7d493, .instanceMethod yJ0_coder_7d493, .selects RJ0 yJ0_coder_7d493 yJ0_coder_7d493, .code yJ0_coder_7d493 cJ0_coder_7d493 1 (some .byte), .methodLink RJ0 637 yJ1_indexOf_4cfef, .static yJ1_indexOf_4cfef, .initialized RJ1, .code yJ1_indexOf_4cfef cJ1_indexOf_4cfef 4 (some .int), .methodLink RJ1 88 yJ1_canEncode_9a6ad, .static yJ1_canEncode_9a6ad, .code yJ1_canEncode_9a6ad cJ1_canEncode_9a6ad 1 (some .boolean), .methodLink RJ1 92 Lib.Math.max.name, .static Lib.Math.max.name, .initialized "java/lang/Math", .code Lib.Math.max.name Lib.Math.max.code 2 (some .int), .methodLink RJ1 38 Lib.Math.min.name, .static Lib.Math.min.name, .code Lib.Math.min.name Lib.Math.min.code 2 (some .int), .methodLink RJ1 95 yJ1_indexOfChar_4cfef, .static yJ1_indexOfChar_4cfef, .code yJ1_indexOfChar_4cfef cJ1_indexOfChar_4cfef 6 (some .int)])
set_option maxRecDepth 20000 in
theorem gf_c_J0_indexOf_0f7a4_5_c_J0_indexOf_7cf53_5 : GoodIn wf_c_J0_indexOf_0f7a4_5 (wsV RJ0 633 RJ0 yJ0_indexOf_7cf53 wf_c_J0_indexOf_7cf53_5) := goodIn_app (gi_l [1, 2, 3, 4] rfl rfl) (gi_cons (j := 5) rfl rfl (gi_l [6, 7, 8, 4, 9, 10, 11, 12, 13, 14, 15, 16, 17, 18, 19, 20, 21, 22, 23, 24, 25, 26, 27, 28, 29, 30, 31, 32, 33, 34, 35, 36, 37] rfl rfl))
set_option maxHeartbeats 4000000 in
set_option maxRecDepth 100000 in
theorem c_J0_indexOf_0f7a4_5 (l : Launch) (dC : Nat → ClassId) (dI : Nat → Nat → Nat) (sz : Nat) (ts5 : Nat) (p1 : Int32) (tv5 : Nat) (g_p1 : RG p1 0 65535) : Met l yJ0_indexOf_0f7a4 wf_c_J0_indexOf_0f7a4_5 ({ frames := 3, cells := 0, slots := 0, locals := 70 }) (va_Pc [.ref ts5, .int p1] (fun U => U.heap.size = sz ∧ va_P (dC, dI) vwCl [] U.heap ∧ va_K (dC, dI) vwCl [] U ∧ va_D (fun _ => True) [] ∧ va_Z "java/lang/String" "COMPACT_STRINGS" "Z" (.int 1) (va_A [] sz) U U.heap ∧ va_OF "java/lang/String" "coder" "B" (.int 0) ts5 (va_A [] sz) U U.heap ∧ va_O "java/lang/String" ts5 (va_A [] sz) U U.heap ∧ va_OF "java/lang/String" "value" "[B" (.ref tv5) ts5 (va_A [] sz) U U.heap ∧ va_T .byte tv5 4 (fun j => .int ([103, 115, 99, 104].getD j 0)) (va_A [] sz) U U.heap)) (va_Qi (fun (r : Int32) (u : Unit) => (r = (-1)) ∨ (RG r 0 3 ∧ RG p1 0 255)) (fun (u : Unit) t => va_P (dC, dI) vwCl [] t.heap ∧ va_K (dC, dI) vwCl [] t ∧ va_D (va_A [] sz) []) (va_A [] sz)) 0 0 (va_A [] sz) := by
  refine Met.ofW (cc := cJ0_indexOf_0f7a4) (maxL := 2) (ret := (some .int)) (by decide +kernel) rfl ?_
  intro p e s m args below meth c s₁ B hml hv
  obtain ⟨rfl, hsz, hP, hK, hD0, hE_10, hE_39, hE_38, hE_40, hE_41⟩ := hv
  have hx := B.exec
  have hb := B.bytes
  have hr := B.returns
  have hts := atoms_spec (ws := wf_c_J0_indexOf_0f7a4_5) B.pre
  have hown : s.vm.findClass RJ0 = some m.cls := findClass_of_methodNamed B.named
  have hlocks := B.notSynchronized
  subst hsz
  have hD := hD0.self (sz := s.heap.size)
  generalize hAe : va_A [] s.heap.size = A at hD hE_10 hE_39 hE_38 hE_40 hE_41 ⊢
  have hA : ∀ q : Nat, s.heap.size ≤ q → A q := fun q h => by rw [← hAe]; exact Or.inr h
  have hP : va_P (dC, dI) vwCl [] s.heap := hP
  have hl := lv_entry ([.ref ts5, .int p1]) (n := 2) (Nat.le_of_ble_eq_true rfl)
  rw [lg_entry_eq]
  generalize (lg_sl ([.ref ts5, .int p1]) ++ List.replicate (2 - (lg_sl ([.ref ts5, .int p1])).length) Slot.unset).toArray = ls at hl ⊢
  have hl : lv_has ls 2 [(0, .ref ts5), (1, .int p1)] := hl
  obtain ⟨H, hHe⟩ : ∃ H : Heap, s.heap = H := ⟨_, rfl⟩
  have hS : va_S A s.heap H [] := by rw [hHe]; exact va_S.rf
  have hP : va_P (dC, dI) vwCl [] H := by rw [← hHe]; exact hP
  rw [hHe]
  refine lv_aload_n hx hb dJ0_indexOf_0f7a4_0 rfl (lv_at hl 0 rfl) ?_
  as_aux_lemma =>
  refine lv_iload_n hx hb dJ0_indexOf_0f7a4_1 rfl (lv_at hl 1 rfl) ?_
  refine lv_iconst (v := 0) hx hb dJ0_indexOf_0f7a4_2 kc_iconst_0 ?_
  obtain ⟨hPc, hDc, hFc, hqc⟩ := cl_cut (wc := []) hP hD hS hA [] (by decide +kernel) rfl
  have hKc := hK.sub (tys' := []) [] rfl
  have hrv := bv_Orecv hE_38 hS
  refine va_calli (va_runV (As := [.int p1, .int 0]) (rest := []) ⟨hx, hb, hml, hown, hts⟩ (c_J0_indexOf_7cf53_5 l dC dI H.size ts5 p1 tv5 g_p1) (cwV 2 hts gf_c_J0_indexOf_0f7a4_5_c_J0_indexOf_7cf53_5 rfl rfl rfl mdV_J0_indexOf_7cf53 ⟨Nat.le_of_ble_eq_true rfl, Nat.le_of_ble_eq_true rfl⟩) ⟨fun a U g mk q => by obtain ⟨q0, q1, qP, qK, qD, qE0, qE1, qE2, qE3, qE4⟩ := q; exact ⟨q0, q1, qP, va_K.moved (u := U) (U := U.calling g mk a) (Vm.Alike.refl U.vm) qK, qD, va_Z.moved (u := U) (U := U.calling g mk a) (Vm.Alike.refl U.vm) qE0, va_OF.moved (u := U) (U := U.calling g mk a) (Vm.Alike.refl U.vm) qE1, va_O.moved (u := U) (U := U.calling g mk a) (Vm.Alike.refl U.vm) qE2, va_OF.moved (u := U) (U := U.calling g mk a) (Vm.Alike.refl U.vm) qE3, va_T.moved (u := U) (U := U.calling g mk a) (Vm.Alike.refl U.vm) qE4⟩, hrv, fun U hU hW => ⟨rfl, by rw [hU], by rw [hU]; exact hPc, va_K.moved hW.alike hKc, hDc.weaken (fun _ _ _ _ => trivial), va_Z.moved hW.alike (by rw [hU]; exact (hE_10.kept hS.2.1).narrow hFc), va_OF.moved hW.alike (by rw [hU]; exact (hE_39.kept hS.2.1).narrow hFc), va_O.moved hW.alike (by rw [hU]; exact (hE_38.kept hS.2.1).narrow hFc), va_OF.moved hW.alike (by rw [hU]; exact (hE_40.kept hS.2.1).narrow hFc), va_T.moved hW.alike (by rw [hU]; exact (hE_41.kept hS.2.1).narrow hFc)⟩⟩ rfl rfl hl.1 rfl (lv_room (Nat.le_of_ble_eq_true rfl)) dJ0_indexOf_0f7a4_3 ⟨Nat.le_of_ble_eq_true rfl, Nat.le_of_ble_eq_true rfl⟩) hS (fun q _ h => hFc q h) hFc (fun r_1 u t H1 locs ht hvm hw hB hz1 hk1 hS => ?_)
  obtain ⟨hP1, hK1, hD1⟩ := hB
  rw [ht] at hP1
  have hP := bv_still hP hk1
  generalize H1 = H at hP hS ⊢
  as_aux_lemma =>
  rcases hw with h_2 | ⟨h_3, h_4⟩
  · rw [h_2]
    have hK9 := hK.sub (tys' := []) [] rfl
    exact W.iret (v := (-1)) hx hb hr (fun t ht hW => ⟨⟨(-1), (), rfl, (Or.inl rfl), by rw [ht]; exact hP, va_K.moved hW.alike hK9, hD⟩, hS.F ht⟩) hS.2.2 dJ0_indexOf_0f7a4_6
  · have hK9 := hK.sub (tys' := []) [] rfl
    exact W.iret (v := r_1) hx hb hr (fun t ht hW => ⟨⟨r_1, (), rfl, (Or.inr ⟨h_3, h_4⟩), by rw [ht]; exact hP, va_K.moved hW.alike hK9, hD⟩, hS.F ht⟩) hS.2.2 dJ0_indexOf_0f7a4_6
noncomputable def wd_c_X9_digit (a0 : Nat) (a1 : Nat) (a2 : Int32) (a3 : Int32) (a4 : Int32) (a5 : Nat) (a6 : ClassId) (a7 : Nat → Int32) : va_W := [(a0, .inr (9, [.ref a1, .int a2, .int a3, .int a4])), (a5, .inl (a6, 240, .inl a7))]
noncomputable def wf_c_X9_digit : List Cond := List.cons (.code yX9_digit cX9_digit 2 (some .int)) (@HAppend.hAppend (List Cond) (List Cond) (List Cond) _ [.methodLink RX9 29 yX9_peek, .instanceMethod yX9_peek, .selects RX9 yX9_peek yX9_peek, .initialized RX9, .code yX9_peek cX9_peek 1 (some .int), .fieldLink RX9 22 "BuoyVote$Tape" "at" "I", .fieldLink RX9 19 "BuoyVote$Tape" "length" "I", .fieldLink RX9 11 "BuoyVote$Tape" "bytes" "[I", .methodLink RX9 25 yX9_refuse, .instanceMethod yX9_refuse, .selects RX9 yX9_refuse yX9_refuse, .code yX9_refuse cX9_refuse 2 none, .fieldLink RX9 15 "BuoyVote$Tape" "wrong" "I"] wsX90)
theorem iw_c_X9_digit_X9 : ∀ w ∈ wsX90, w ∈ wf_c_X9_digit := fun w h => List.mem_cons_of_mem _ (List.mem_append_right _ h)
set_option maxRecDepth 20000 in
theorem gf_c_X9_digit_c_X9_refuse : GoodIn wf_c_X9_digit (wsV RX9 25 RX9 yX9_refuse wf_c_X9_refuse) := goodIn_app (gi_l [9, 10, 11, 4] rfl rfl) (gi_cons (j := 12) rfl rfl (goodIn_app (gi_l [13] rfl rfl) (goodIn_sub iw_c_X9_digit_X9 gw_X9)))
set_option maxRecDepth 20000 in
theorem gf_c_X9_digit_c_X9_peek : GoodIn wf_c_X9_digit (wsV RX9 29 RX9 yX9_peek wf_c_X9_peek) := goodIn_app (gi_l [1, 2, 3, 4] rfl rfl) (gi_cons (j := 5) rfl rfl (goodIn_app (gi_l [6, 7, 8] rfl rfl) (goodIn_sub iw_c_X9_digit_X9 gw_X9)))
set_option maxHeartbeats 4000000 in
set_option maxRecDepth 100000 in
theorem c_X9_digit (l : Launch) (dC : Nat → ClassId) (dI : Nat → Nat → Nat) (sz : Nat) (h0 : Nat) (h0_0 : Nat) (h0_f1 : Int32) (h0_f2 : Int32) (h0_f3 : Int32) (h0_0k : ClassId) (h0_0c : Nat → Int32) (g_h0_f1 : RG h0_f1 0 240) (g_h0_f2 : RG h0_f2 0 240) (g_h0_f3 : RG h0_f3 (-1) 240) (a_h0_0c : AI h0_0c 0 255) : Met l yX9_digit wf_c_X9_digit ({ frames := 1, cells := 0, slots := 0, locals := 21 }) (va_Pc [.ref h0] (fun U => U.heap.size = sz ∧ va_P (dC, dI) vwCl (wd_c_X9_digit h0 h0_0 h0_f1 h0_f2 h0_f3 h0_0 h0_0k h0_0c) U.heap ∧ va_K (dC, dI) vwCl [(h0_0k, .int)] U ∧ va_D (fun _ => True) (wd_c_X9_digit h0 h0_0 h0_f1 h0_f2 h0_f3 h0_0 h0_0k h0_0c))) (va_Qi (fun (r : Int32) (u : (Int32) × (Int32)) => (RG r 0 9 ∧ RG u.1 1 240 ∧ RG u.2 (-1) 240 ∧ RG h0_f1 1 240 ∧ h0_f2.toInt + 1 ≤ (u.1).toInt) ∨ (r = 0 ∧ RG u.1 0 240 ∧ RG u.2 0 240 ∧ h0_f2.toInt + 0 ≤ (u.1).toInt)) (fun (u : (Int32) × (Int32)) t => va_P (dC, dI) vwCl (wd_c_X9_digit h0 h0_0 h0_f1 (u.1) (u.2) h0_0 h0_0k h0_0c) t.heap ∧ va_K (dC, dI) vwCl [] t ∧ va_D (va_A (wd_c_X9_digit h0 h0_0 h0_f1 h0_f2 h0_f3 h0_0 h0_0k h0_0c) sz) (wd_c_X9_digit h0 h0_0 h0_f1 (u.1) (u.2) h0_0 h0_0k h0_0c)) (va_A (wd_c_X9_digit h0 h0_0 h0_f1 h0_f2 h0_f3 h0_0 h0_0k h0_0c) sz)) 0 0 (va_A (wd_c_X9_digit h0 h0_0 h0_f1 h0_f2 h0_f3 h0_0 h0_0k h0_0c) sz) := by
  refine Met.ofW (cc := cX9_digit) (maxL := 2) (ret := (some .int)) (by decide +kernel) rfl ?_
  intro p e s m args below meth c s₁ B hml hv
  obtain ⟨rfl, hsz, hP, hK, hD0⟩ := hv
  have hx := B.exec
  have hb := B.bytes
  have hr := B.returns
  have hts := atoms_spec (ws := wf_c_X9_digit) B.pre
  have hown : s.vm.findClass RX9 = some m.cls := findClass_of_methodNamed B.named
  have hlocks := B.notSynchronized
  subst hsz
  have hD := hD0.self (sz := s.heap.size)
  generalize hAe : va_A (wd_c_X9_digit h0 h0_0 h0_f1 h0_f2 h0_f3 h0_0 h0_0k h0_0c) s.heap.size = A at hD ⊢
  have hA : ∀ q : Nat, s.heap.size ≤ q → A q := fun q h => by rw [← hAe]; exact Or.inr h
  have hP : va_P (dC, dI) vwCl (wd_c_X9_digit h0 h0_0 h0_f1 h0_f2 h0_f3 h0_0 h0_0k h0_0c) s.heap := hP
  have hl := lv_entry ([.ref h0]) (n := 2) (Nat.le_of_ble_eq_true rfl)
  rw [lg_entry_eq]
  generalize (lg_sl ([.ref h0]) ++ List.replicate (2 - (lg_sl ([.ref h0])).length) Slot.unset).toArray = ls at hl ⊢
  have hl : lv_has ls 2 [(0, .ref h0)] := hl
  obtain ⟨H, hHe⟩ : ∃ H : Heap, s.heap = H := ⟨_, rfl⟩
  have hS : va_S A s.heap H [] := by rw [hHe]; exact va_S.rf
  have hP : va_P (dC, dI) vwCl (wd_c_X9_digit h0 h0_0 h0_f1 h0_f2 h0_f3 h0_0 h0_0k h0_0c) H := by rw [← hHe]; exact hP
  rw [hHe]
  refine wj (fun G hG hU => ?_)
  as_aux_lemma =>
  have J17 : ∀ (j17_h0_f2 : Int32) (g_h0_f1 : RG h0_f1 0 240) (g_h0_f2 : RG h0_f2 0 240) (g_h0_f3 : RG h0_f3 (-1) 240) (g_j17_h0_f2 : RG j17_h0_f2 0 240) (r_h0_f2_j17_h0_f2 : h0_f2.toInt + 0 ≤ j17_h0_f2.toInt) (H : Heap) (locs : List Loc) (ls : Array Slot) (hP : va_P (dC, dI) vwCl (wd_c_X9_digit h0 h0_0 h0_f1 j17_h0_f2 h0_f3 h0_0 h0_0k h0_0c) H) (hD : va_D A (wd_c_X9_digit h0 h0_0 h0_f1 j17_h0_f2 h0_f3 h0_0 h0_0k h0_0c)) (hS : va_S A s.heap H locs) (hl : lv_has ls 2 [(0, .ref h0)]), G H locs (F0 m 17 ls []) := by
    as_aux_lemma =>
    intro j17_h0_f2 g_h0_f1 g_h0_f2 g_h0_f3 g_j17_h0_f2 r_h0_f2_j17_h0_f2 H locs ls hP hD hS hl
    refine hG _ _ _ ?_
    refine lv_aload_n hx hb dX9_digit_17 rfl (lv_at hl 0 rfl) ?_
    refine lv_aload_n hx hb dX9_digit_18 rfl (lv_at hl 0 rfl) ?_
    refine va_get (D := (dC, dI)) (ci := 9) (v := .int j17_h0_f2) (C := RX9) (T := TX9) (N := 4) hx hb hts iw_c_X9_digit_X9 hown hK hP 0 rfl rfl 2 (by decide +kernel) (hts (.fieldLink RX9 22 "BuoyVote$Tape" "at" "I") (List.mem_of_getElem? (i := 6) rfl)) (fun _ h9 => h9) rfl dX9_digit_19 ?_
    obtain ⟨hPc, hDc, hFc, hqc⟩ := cl_cut (wc := (wd_c_X9_refuse h0 h0_0 h0_f1 j17_h0_f2 h0_f3)) hP hD hS hA [0] (by decide +kernel) rfl
    have hKc := hK.sub (tys' := []) [] rfl
    have hrv := va_recv hKc hPc (ci := 9) (q0 := 0) rfl rfl
    refine va_callv (va_runV (As := [.int j17_h0_f2]) (rest := []) ⟨hx, hb, hml, hown, hts⟩ (c_X9_refuse l dC dI H.size h0 j17_h0_f2 h0_0 h0_f1 j17_h0_f2 h0_f3 g_j17_h0_f2 g_h0_f1 g_j17_h0_f2 g_h0_f3) (cwV 1 hts gf_c_X9_digit_c_X9_refuse rfl rfl rfl mdV_X9_refuse ⟨Nat.le_of_ble_eq_true rfl, Nat.le_of_ble_eq_true rfl⟩) ⟨fun a U g mk q => by obtain ⟨q0, q1, qP, qK, qD⟩ := q; exact ⟨q0, q1, qP, va_K.moved (u := U) (U := U.calling g mk a) (Vm.Alike.refl U.vm) qK, qD⟩, hrv, fun U hU hW => ⟨rfl, by rw [hU], by rw [hU]; exact hPc, va_K.moved hW.alike hKc, hDc.weaken (fun _ _ _ _ => trivial)⟩⟩ rfl rfl hl.1 rfl (lv_room (Nat.le_of_ble_eq_true rfl)) dX9_digit_22 ⟨Nat.le_of_ble_eq_true rfl, Nat.le_of_ble_eq_true rfl⟩) hS (fun q _ h => hFc q h) hFc (fun x_2 t H1 locs ht hvm hw hB hz1 hk1 hS => ?_)
    obtain ⟨hP1, hK1, hD1⟩ := hB
    rw [ht] at hP1
    obtain ⟨hP, hD⟩ := cl_put (w1 := (wd_c_X9_refuse h0 h0_0 h0_f1 j17_h0_f2 x_2)) (nw := (wd_c_X9_digit h0 h0_0 h0_f1 j17_h0_f2 x_2 h0_0 h0_0k h0_0c)) hP hD [0] [2, 1] 2 rfl hqc (by decide +kernel) rfl hk1 hFc hP1 hD1
    generalize H1 = H at hP hS ⊢
    as_aux_lemma =>
    have h_3 := hw
    refine lv_iconst (v := 0) hx hb dX9_digit_25 kc_iconst_0 ?_
    have hK9 := hK.sub (tys' := []) [] rfl
    exact W.iret (v := 0) hx hb hr (fun t ht hW => ⟨⟨0, (j17_h0_f2, x_2), rfl, (Or.inr ⟨rfl, g_j17_h0_f2, h_3, (by have := r_h0_f2_j17_h0_f2; show h0_f2.toInt + 0 ≤ j17_h0_f2.toInt; omega)⟩), by rw [ht]; exact hP, va_K.moved hW.alike hK9, hD⟩, hS.F ht⟩) hS.2.2 dX9_digit_26
  refine hG _ _ _ ?_
  refine lv_aload_n hx hb dX9_digit_0 rfl (lv_at hl 0 rfl) ?_
  obtain ⟨hPc, hDc, hFc, hqc⟩ := cl_cut (wc := (wd_c_X9_peek h0 h0_0 h0_f1 h0_f2 h0_f3 h0_0 h0_0k h0_0c)) hP hD hS hA [0, 1] (by decide +kernel) rfl
  have hKc := hK.sub (tys' := [(h0_0k, .int)]) [0] rfl
  have hrv := va_recv hKc hPc (ci := 9) (q0 := 0) rfl rfl
  refine va_calli (va_runV (As := []) (rest := []) ⟨hx, hb, hml, hown, hts⟩ (c_X9_peek l dC dI H.size h0 h0_0 h0_f1 h0_f2 h0_f3 h0_0k h0_0c g_h0_f1 g_h0_f2 g_h0_f3 a_h0_0c) (cwV 0 hts gf_c_X9_digit_c_X9_peek rfl rfl rfl mdV_X9_peek ⟨Nat.le_of_ble_eq_true rfl, Nat.le_of_ble_eq_true rfl⟩) ⟨fun a U g mk q => by obtain ⟨q0, q1, qP, qK, qD⟩ := q; exact ⟨q0, q1, qP, va_K.moved (u := U) (U := U.calling g mk a) (Vm.Alike.refl U.vm) qK, qD⟩, hrv, fun U hU hW => ⟨rfl, by rw [hU], by rw [hU]; exact hPc, va_K.moved hW.alike hKc, hDc.weaken (fun _ _ _ _ => trivial)⟩⟩ rfl rfl hl.1 rfl (lv_room (Nat.le_of_ble_eq_true rfl)) dX9_digit_1 ⟨Nat.le_of_ble_eq_true rfl, Nat.le_of_ble_eq_true rfl⟩) hS (fun q _ h => hFc q h) hFc (fun r_4 x_5 t H1 locs ht hvm hw hB hz1 hk1 hS => ?_)
  obtain ⟨hP1, hK1, hD1⟩ := hB
  rw [ht] at hP1
  obtain ⟨hP, hD⟩ := cl_put (w1 := (wd_c_X9_peek h0 h0_0 h0_f1 x_5 h0_f3 h0_0 h0_0k h0_0c)) (nw := (wd_c_X9_digit h0 h0_0 h0_f1 x_5 h0_f3 h0_0 h0_0k h0_0c)) hP hD [0, 1] [2, 3] 2 rfl hqc (by decide +kernel) rfl hk1 hFc hP1 hD1
  generalize H1 = H at hP hS ⊢
  as_aux_lemma =>
  rcases hw with ⟨h_6, h_7, h_8⟩ | ⟨h_9, h_10, h_11, h_12⟩
  · rw [h_6]
    refine lv_istore_n (lv' := [(1, .int (-1)), (0, .ref h0)]) hx hb dX9_digit_4 rfl hl (Nat.le_of_ble_eq_true rfl) rfl (fun ls hl => ?_)
    refine lv_iload_n hx hb dX9_digit_5 rfl (lv_at hl 0 rfl) ?_
    refine lv_bipush (v := 48) hx hb dX9_digit_6 kc_bipush_48 ?_
    refine lv_icmp_lt (tgt := 17) hx hb dX9_digit_8 rfl (fun c_13 => ?_) (fun c_13 => absurd c_13 (by decide +kernel))
    exact hU _ _ _ (J17 x_5 g_h0_f1 g_h0_f2 g_h0_f3 h_7 (by have := h_8; omega) _ _ _ hP hD hS (lv_sub hl [1] rfl))
  · refine lv_istore_n (lv' := [(1, .int r_4), (0, .ref h0)]) hx hb dX9_digit_4 rfl hl (Nat.le_of_ble_eq_true rfl) rfl (fun ls hl => ?_)
    refine lv_iload_n hx hb dX9_digit_5 rfl (lv_at hl 0 rfl) ?_
    refine lv_bipush (v := 48) hx hb dX9_digit_6 kc_bipush_48 ?_
    refine lv_icmp_lt (tgt := 17) hx hb dX9_digit_8 rfl (fun c_14 => ?_) (fun c_14 => ?_)
    · have g_15 : RG r_4 0 47 := RG_lt1 h_9 (RG_k 48 48 rfl) c_14 (by decide +kernel)
      exact hU _ _ _ (J17 x_5 (RG_w h_11 (by decide +kernel)) g_h0_f2 g_h0_f3 (RG_w h_10 (by decide +kernel)) (by have := h_12; omega) _ _ _ hP hD hS (lv_sub hl [1] rfl))
    · have d_16 := Int32.not_lt.mp c_14
      have g_17 : RG r_4 48 255 := RG_le2 (RG_k 48 48 rfl) h_9 d_16 (by decide +kernel)
      refine lv_iload_n hx hb dX9_digit_11 rfl (lv_at hl 0 rfl) ?_
      as_aux_lemma =>
      refine lv_bipush (v := 57) hx hb dX9_digit_12 kc_bipush_57 ?_
      refine lv_icmp_le (tgt := 27) hx hb dX9_digit_14 rfl (fun c_18 => ?_) (fun c_18 => ?_)
      · have g_19 : RG r_4 48 57 := RG_le1 g_17 (RG_k 57 57 rfl) c_18 (by decide +kernel)
        refine lv_aload_n hx hb dX9_digit_27 rfl (lv_at hl 1 rfl) ?_
        refine lv_dup hx hb dX9_digit_28 rfl ?_
        refine va_get (D := (dC, dI)) (ci := 9) (v := .int x_5) (C := RX9) (T := TX9) (N := 4) hx hb hts iw_c_X9_digit_X9 hown hK hP 0 rfl rfl 2 (by decide +kernel) (hts (.fieldLink RX9 22 "BuoyVote$Tape" "at" "I") (List.mem_of_getElem? (i := 6) rfl)) (fun _ h9 => h9) rfl dX9_digit_29 ?_
        refine lv_iconst (v := 1) hx hb dX9_digit_32 kc_iconst_1 ?_
        refine lv_iadd hx hb dX9_digit_33 ?_
        refine lv_topi (fun x_20 ex_20 => ?_)
        have g_21 : RG x_20 1 240 := RG_add ex_20 h_10 (RG_k 1 1 rfl) (by decide +kernel)
        have q_22 : x_20.toInt = x_5.toInt + 1 := eq_add ex_20 h_10 (q := 1) rfl (by decide +kernel)
        refine va_put (D := (dC, dI)) (ci := 9) (v := .int x_20) (ty := .int) (C := RX9) (T := TX9) (N := 4) hx hb hts iw_c_X9_digit_X9 tyX9 tyX9_ok nmX9 hown hK hP hD hS 0 rfl rfl 2 (by decide +kernel) (hts (.fieldLink RX9 22 "BuoyVote$Tape" "at" "I") (List.mem_of_getElem? (i := 6) rfl)) (fun _ h9 => h9) rfl (by decide +kernel) rfl rfl (Nat.le_of_ble_eq_true rfl) dX9_digit_34 (fun H locs hP hD hS => ?_)
        have hP : va_P (dC, dI) vwCl (wd_c_X9_digit h0 h0_0 h0_f1 x_20 h0_f3 h0_0 h0_0k h0_0c) H := hP
        have hD : va_D A (wd_c_X9_digit h0 h0_0 h0_f1 x_20 h0_f3 h0_0 h0_0k h0_0c) := hD
        refine lv_iload_n hx hb dX9_digit_37 rfl (lv_at hl 0 rfl) ?_
        as_aux_lemma =>
        refine lv_bipush (v := 48) hx hb dX9_digit_38 kc_bipush_48 ?_
        refine lv_isub hx hb dX9_digit_40 ?_
        refine lv_topi (fun x_23 ex_23 => ?_)
        have g_24 : RG x_23 0 9 := RG_sub ex_23 g_19 (RG_k 48 48 rfl) (by decide +kernel)
        have hK9 := hK.sub (tys' := []) [] rfl
        exact W.iret (v := x_23) hx hb hr (fun t ht hW => ⟨⟨x_23, (x_20, h0_f3), rfl, (Or.inl ⟨g_24, g_21, g_h0_f3, h_11, (by have := h_12; have := q_22; show h0_f2.toInt + 1 ≤ x_20.toInt; omega)⟩), by rw [ht]; exact hP, va_K.moved hW.alike hK9, hD⟩, hS.F ht⟩) hS.2.2 dX9_digit_41
      · have d_25 := Int32.not_le.mp c_18
        have g_26 : RG r_4 58 255 := RG_lt2 (RG_k 57 57 rfl) g_17 d_25 (by decide +kernel)
        exact hU _ _ _ (J17 x_5 (RG_w h_11 (by decide +kernel)) g_h0_f2 g_h0_f3 (RG_w h_10 (by decide +kernel)) (by have := h_12; omega) _ _ _ hP hD hS (lv_sub hl [1] rfl))
noncomputable def wd_c_X6_readStep (a0 : Nat) (a1 : Nat) (a2 : Int32) (a3 : Int32) (a4 : Int32) (a5 : Nat) (a6 : ClassId) (a7 : Nat → Int32) (a8 : Nat) (a9 : Nat) (a10 : Int32) (a11 : Nat) (a12 : ClassId) (a13 : Nat → Int32) : va_W := [(a0, .inr (9, [.ref a1, .int a2, .int a3, .int a4])), (a5, .inl (a6, 240, .inl a7)), (a8, .inr (6, [.ref a9, .int a10])), (a11, .inl (a12, 64, .inl a13))]
noncomputable def wf_c_X6_readStep : List Cond := List.cons (.code yX6_readStep cX6_readStep 6 none) (@HAppend.hAppend (List Cond) (List Cond) (List Cond) _ (@HAppend.hAppend (List Cond) (List Cond) (List Cond) _ [.methodLink RX6 39 yX9_peek, .instanceMethod yX9_peek, .selects RX9 yX9_peek yX9_peek, .initialized RX9, .code yX9_peek cX9_peek 1 (some .int), .fieldLink RX9 22 "BuoyVote$Tape" "at" "I", .fieldLink RX9 19 "BuoyVote$Tape" "length" "I", .fieldLink RX9 11 "BuoyVote$Tape" "bytes" "[I", .methodLink RX6 44 yJ0_indexOf_0f7a4, .instanceMethod yJ0_indexOf_0f7a4, .selects RJ0 yJ0_indexOf_0f7a4 yJ0_indexOf_0f7a4, .initialized RJ0, .code yJ0_indexOf_0f7a4 cJ0_indexOf_0f7a4 2 (some .int), .methodLink RJ0 633 yJ0_indexOf_7cf53, .instanceMethod yJ0_indexOf_7cf53, .selects RJ0 yJ0_indexOf_7cf53 yJ0_indexOf_7cf53, .code yJ0_indexOf_7cf53 cJ0_indexOf_7cf53 3 (some .int), .methodLink RJ0 492 yJ0_isLatin1_aae02, .instanceMethod yJ0_isLatin1_aae02, .selects RJ0 yJ0_isLatin1_aae02 yJ0_isLatin1_aae02, .code yJ0_isLatin1_aae02 cJ0_isLatin1_aae02 1 (some .boolean), .fieldLink RJ0 38 "java/lang/String" "COMPACT_STRINGS" "Z", .fieldLink RJ0 15 "java/lang/String" "coder" "B", .fieldLink RJ0 9 "java/lang/String" "value" "[B", .methodLink RJ0 505 yJ0_length_8abf5, .instanceMethod yJ0_length_8abf5, .selects RJ0 yJ0_length_8abf5 yJ0_length_8abf5, .code yJ0_length_8abf5 cJ0_length_8abf5 1 (some .int), .methodLink RJ0 335 yJ0_coder_7d493, .instanceMethod yJ0_coder_7d493, .selects RJ0 yJ0_coder_7d493 yJ0_coder_7d493, .code yJ0_coder_7d493 cJ0_coder_7d493 1 (some .byte), .methodLink RJ0 637 yJ1_indexOf_4cfef, .static yJ1_indexOf_4cfef, .initialized RJ1, .code yJ1_indexOf_4cfef cJ1_indexOf_4cfef 4 (some .int), .methodLink RJ1 88 yJ1_canEncode_9a6ad, .static yJ1_canEncode_9a6ad, .code yJ1_canEncode_9a6ad cJ1_canEncode_9a6ad 1 (some .boolean), .methodLink RJ1 92 Lib.Math.max.name, .static Lib.Math.max.name, .initialized "java/lang/Math", .code Lib.Math.max.name Lib.Math.max.code 2 (some .int), .methodLink RJ1 38 Lib.Math.min.name, .static Lib.Math.min.name, .code Lib.Math.min.name Lib.Math.min.code 2 (some .int), .methodLink RJ1 95 yJ1_indexOfChar_4cfef, .static yJ1_indexOfChar_4cfef, .code yJ1_indexOfChar_4cfef cJ1_indexOfChar_4cfef 6 (some .int), .methodLink RX6 50 yX9_refuseHere, .instanceMethod yX9_refuseHere, .selects RX9 yX9_refuseHere yX9_refuseHere, .code yX9_refuseHere cX9_refuseHere 1 none, .methodLink RX9 25 yX9_refuse, .instanceMethod yX9_refuse, .selects RX9 yX9_refuse yX9_refuse, .code yX9_refuse cX9_refuse 2 none, .fieldLink RX9 15 "BuoyVote$Tape" "wrong" "I", .methodLink RX6 53 yX9_skip, .instanceMethod yX9_skip, .selects RX9 yX9_skip yX9_skip, .code yX9_skip cX9_skip 1 none, .fieldLink RX6 11 "BuoyVote$Plan" "cells" "[I", .fieldLink RX6 56 "BuoyVote$Plan" "DIGITS" "[I", .methodLink RX6 59 yX9_isRight, .instanceMethod yX9_isRight, .selects RX9 yX9_isRight yX9_isRight, .code yX9_isRight cX9_isRight 1 (some .boolean), .methodLink RX6 63 yX9_digit, .instanceMethod yX9_digit, .selects RX9 yX9_digit yX9_digit, .code yX9_digit cX9_digit 2 (some .int), .methodLink RX9 29 yX9_peek, .fieldLink RX6 15 "BuoyVote$Plan" "steps" "I"] wsX90) wsX60)
theorem iw_c_X6_readStep_X9 : ∀ w ∈ wsX90, w ∈ wf_c_X6_readStep := fun w h => List.mem_cons_of_mem _ (List.mem_append_left _ (List.mem_append_right _ h))
theorem iw_c_X6_readStep_X6 : ∀ w ∈ wsX60, w ∈ wf_c_X6_readStep := fun w h => List.mem_cons_of_mem _ (List.mem_append_right _ h)
set_option maxRecDepth 20000 in
theorem gf_c_X6_readStep_c_X9_refuseHere : GoodIn wf_c_X6_readStep (wsV RX6 50 RX9 yX9_refuseHere wf_c_X9_refuseHere) := goodIn_app (gi_l [50, 51, 52, 4] rfl rfl) (gi_cons (j := 53) rfl rfl (goodIn_app (gi_l [6, 54, 55, 56, 4, 57, 58] rfl rfl) (goodIn_sub iw_c_X6_readStep_X9 gw_X9)))
set_option maxRecDepth 20000 in
theorem gf_c_X6_readStep_c_X9_isRight : GoodIn wf_c_X6_readStep (wsV RX6 59 RX9 yX9_isRight wf_c_X9_isRight) := goodIn_app (gi_l [65, 66, 67, 4] rfl rfl) (gi_cons (j := 68) rfl rfl (goodIn_app (gi_l [58] rfl rfl) (goodIn_sub iw_c_X6_readStep_X9 gw_X9)))
set_option maxRecDepth 20000 in
theorem gf_c_X6_readStep_c_X9_digit : GoodIn wf_c_X6_readStep (wsV RX6 63 RX9 yX9_digit wf_c_X9_digit) := goodIn_app (gi_l [69, 70, 71, 4] rfl rfl) (gi_cons (j := 72) rfl rfl (goodIn_app (gi_l [73, 2, 3, 4, 5, 6, 7, 8, 54, 55, 56, 57, 58] rfl rfl) (goodIn_sub iw_c_X6_readStep_X9 gw_X9)))
set_option maxRecDepth 20000 in
theorem gf_c_X6_readStep_c_X9_skip : GoodIn wf_c_X6_readStep (wsV RX6 53 RX9 yX9_skip wf_c_X9_skip) := goodIn_app (gi_l [59, 60, 61, 4] rfl rfl) (gi_cons (j := 62) rfl rfl (goodIn_app (gi_l [6] rfl rfl) (goodIn_sub iw_c_X6_readStep_X9 gw_X9)))
set_option maxRecDepth 20000 in
theorem gf_c_X6_readStep_c_X9_peek : GoodIn wf_c_X6_readStep (wsV RX6 39 RX9 yX9_peek wf_c_X9_peek) := goodIn_app (gi_l [1, 2, 3, 4] rfl rfl) (gi_cons (j := 5) rfl rfl (goodIn_app (gi_l [6, 7, 8] rfl rfl) (goodIn_sub iw_c_X6_readStep_X9 gw_X9)))
set_option maxRecDepth 20000 in
theorem gf_c_X6_readStep_c_J0_indexOf_0f7a4_5 : GoodIn wf_c_X6_readStep (wsV RX6 44 RJ0 yJ0_indexOf_0f7a4 wf_c_J0_indexOf_0f7a4_5) := goodIn_app (gi_l [9, 10, 11, 12] rfl rfl) (gi_cons (j := 13) rfl rfl (gi_l [14, 15, 16, 12, 17, 18, 19, 20, 21, 22, 23, 24, 25, 26, 27, 28, 29, 30, 31, 32, 33, 34, 35, 36, 37, 38, 39, 40, 41, 42, 43, 44, 45, 46, 47, 48, 49] rfl rfl))
set_option maxHeartbeats 4000000 in
set_option maxRecDepth 100000 in
theorem c_X6_readStep (l : Launch) (dC : Nat → ClassId) (dI : Nat → Nat → Nat) (sz : Nat) (h0 : Nat) (h1 : Nat) (p2 : Int32) (h1_0 : Nat) (h1_f1 : Int32) (h1_f2 : Int32) (h1_f3 : Int32) (h1_0k : ClassId) (h1_0c : Nat → Int32) (h0_0 : Nat) (h0_f1 : Int32) (h0_0k : ClassId) (h0_0c : Nat → Int32) (ts5 : Nat) (tv5 : Nat) (ta4 : Nat) (g_p2 : RG p2 0 15) (g_h1_f1 : RG h1_f1 0 240) (g_h1_f2 : RG h1_f2 0 240) (g_h1_f3 : RG h1_f3 (-1) 240) (a_h1_0c : AI h1_0c 0 255) (g_h0_f1 : RG h0_f1 0 16) (a_h0_0c : AI h0_0c (-1) 9) : Met l yX6_readStep wf_c_X6_readStep ({ frames := 4, cells := 0, slots := 0, locals := 91 }) (va_Pc [.ref h0, .ref h1, .int p2] (fun U => U.heap.size = sz ∧ va_P (dC, dI) vwCl (wd_c_X6_readStep h1 h1_0 h1_f1 h1_f2 h1_f3 h1_0 h1_0k h1_0c h0 h0_0 h0_f1 h0_0 h0_0k h0_0c) U.heap ∧ va_K (dC, dI) vwCl [(h1_0k, .int), (h0_0k, .int)] U ∧ va_D (fun _ => True) (wd_c_X6_readStep h1 h1_0 h1_f1 h1_f2 h1_f3 h1_0 h1_0k h1_0c h0 h0_0 h0_f1 h0_0 h0_0k h0_0c) ∧ vk_R RX6 42 "gsch" ts5 U ∧ va_Z "java/lang/String" "COMPACT_STRINGS" "Z" (.int 1) (va_A (wd_c_X6_readStep h1 h1_0 h1_f1 h1_f2 h1_f3 h1_0 h1_0k h1_0c h0 h0_0 h0_f1 h0_0 h0_0k h0_0c) sz) U U.heap ∧ va_OF "java/lang/String" "coder" "B" (.int 0) ts5 (va_A (wd_c_X6_readStep h1 h1_0 h1_f1 h1_f2 h1_f3 h1_0 h1_0k h1_0c h0 h0_0 h0_f1 h0_0 h0_0k h0_0c) sz) U U.heap ∧ va_O "java/lang/String" ts5 (va_A (wd_c_X6_readStep h1 h1_0 h1_f1 h1_f2 h1_f3 h1_0 h1_0k h1_0c h0 h0_0 h0_f1 h0_0 h0_0k h0_0c) sz) U U.heap ∧ va_OF "java/lang/String" "value" "[B" (.ref tv5) ts5 (va_A (wd_c_X6_readStep h1 h1_0 h1_f1 h1_f2 h1_f3 h1_0 h1_0k h1_0c h0 h0_0 h0_f1 h0_0 h0_0k h0_0c) sz) U U.heap ∧ va_T .byte tv5 4 (fun j => .int ([103, 115, 99, 104].getD j 0)) (va_A (wd_c_X6_readStep h1 h1_0 h1_f1 h1_f2 h1_f3 h1_0 h1_0k h1_0c h0 h0_0 h0_f1 h0_0 h0_0k h0_0c) sz) U U.heap ∧ va_Z "BuoyVote$Plan" "DIGITS" "[I" (.ref ta4) (va_A (wd_c_X6_readStep h1 h1_0 h1_f1 h1_f2 h1_f3 h1_0 h1_0k h1_0c h0 h0_0 h0_f1 h0_0 h0_0k h0_0c) sz) U U.heap ∧ va_T .int ta4 4 (fun j => .int ([3, 2, 2, 1].getD j 0)) (va_A (wd_c_X6_readStep h1 h1_0 h1_f1 h1_f2 h1_f3 h1_0 h1_0k h1_0c h0 h0_0 h0_f1 h0_0 h0_0k h0_0c) sz) U U.heap)) (va_Qv (fun (u : (Int32) × (Int32) × (Int32) × (Nat → Int32)) => (RG u.1 0 240 ∧ RG u.2.1 (-1) 240 ∧ RG u.2.2.1 0 16 ∧ AI (u.2.2.2) (-1) 9)) (fun (u : (Int32) × (Int32) × (Int32) × (Nat → Int32)) t => va_P (dC, dI) vwCl (wd_c_X6_readStep h1 h1_0 h1_f1 (u.1) (u.2.1) h1_0 h1_0k h1_0c h0 h0_0 (u.2.2.1) h0_0 h0_0k (u.2.2.2)) t.heap ∧ va_K (dC, dI) vwCl [] t ∧ va_D (va_A (wd_c_X6_readStep h1 h1_0 h1_f1 h1_f2 h1_f3 h1_0 h1_0k h1_0c h0 h0_0 h0_f1 h0_0 h0_0k h0_0c) sz) (wd_c_X6_readStep h1 h1_0 h1_f1 (u.1) (u.2.1) h1_0 h1_0k h1_0c h0 h0_0 (u.2.2.1) h0_0 h0_0k (u.2.2.2))) (va_A (wd_c_X6_readStep h1 h1_0 h1_f1 h1_f2 h1_f3 h1_0 h1_0k h1_0c h0 h0_0 h0_f1 h0_0 h0_0k h0_0c) sz)) 0 0 (va_A (wd_c_X6_readStep h1 h1_0 h1_f1 h1_f2 h1_f3 h1_0 h1_0k h1_0c h0 h0_0 h0_f1 h0_0 h0_0k h0_0c) sz) := by
  refine Met.ofW (cc := cX6_readStep) (maxL := 6) (ret := none) (by decide +kernel) rfl ?_
  intro p e s m args below meth c s₁ B hml hv
  obtain ⟨rfl, hsz, hP, hK, hD0, hE_37, hE_10, hE_39, hE_38, hE_40, hE_41, hE_8, hE_9⟩ := hv
  have hx := B.exec
  have hb := B.bytes
  have hr := B.returns
  have hts := atoms_spec (ws := wf_c_X6_readStep) B.pre
  have hown : s.vm.findClass RX6 = some m.cls := findClass_of_methodNamed B.named
  have hlocks := B.notSynchronized
  subst hsz
  have hD := hD0.self (sz := s.heap.size)
  generalize hAe : va_A (wd_c_X6_readStep h1 h1_0 h1_f1 h1_f2 h1_f3 h1_0 h1_0k h1_0c h0 h0_0 h0_f1 h0_0 h0_0k h0_0c) s.heap.size = A at hD hE_10 hE_39 hE_38 hE_40 hE_41 hE_8 hE_9 ⊢
  have hA : ∀ q : Nat, s.heap.size ≤ q → A q := fun q h => by rw [← hAe]; exact Or.inr h
  have hP : va_P (dC, dI) vwCl (wd_c_X6_readStep h1 h1_0 h1_f1 h1_f2 h1_f3 h1_0 h1_0k h1_0c h0 h0_0 h0_f1 h0_0 h0_0k h0_0c) s.heap := hP
  have hl := lv_entry ([.ref h0, .ref h1, .int p2]) (n := 6) (Nat.le_of_ble_eq_true rfl)
  rw [lg_entry_eq]
  generalize (lg_sl ([.ref h0, .ref h1, .int p2]) ++ List.replicate (6 - (lg_sl ([.ref h0, .ref h1, .int p2])).length) Slot.unset).toArray = ls at hl ⊢
  have hl : lv_has ls 6 [(0, .ref h0), (1, .ref h1), (2, .int p2)] := hl
  obtain ⟨H, hHe⟩ : ∃ H : Heap, s.heap = H := ⟨_, rfl⟩
  have hS : va_S A s.heap H [] := by rw [hHe]; exact va_S.rf
  have hP : va_P (dC, dI) vwCl (wd_c_X6_readStep h1 h1_0 h1_f1 h1_f2 h1_f3 h1_0 h1_0k h1_0c h0 h0_0 h0_f1 h0_0 h0_0k h0_0c) H := by rw [← hHe]; exact hP
  rw [hHe]
  refine wj (fun G hG hU => ?_)
  as_aux_lemma =>
  have J20 : ∀ (j20_h1_f2 : Int32) (g_h0_f1 : RG h0_f1 0 16) (g_h1_f1 : RG h1_f1 0 240) (g_h1_f2 : RG h1_f2 0 240) (g_h1_f3 : RG h1_f3 (-1) 240) (g_j20_h1_f2 : RG j20_h1_f2 0 240) (g_p2 : RG p2 0 15) (H : Heap) (locs : List Loc) (ls : Array Slot) (hP : va_P (dC, dI) vwCl (wd_c_X6_readStep h1 h1_0 h1_f1 j20_h1_f2 h1_f3 h1_0 h1_0k h1_0c h0 h0_0 h0_f1 h0_0 h0_0k h0_0c) H) (hD : va_D A (wd_c_X6_readStep h1 h1_0 h1_f1 j20_h1_f2 h1_f3 h1_0 h1_0k h1_0c h0 h0_0 h0_f1 h0_0 h0_0k h0_0c)) (hS : va_S A s.heap H locs) (hl : lv_has ls 6 [(0, .ref h0), (1, .ref h1), (2, .int p2)]), G H locs (F0 m 20 ls [.int (-1)]) := by
    as_aux_lemma =>
    intro j20_h1_f2 g_h0_f1 g_h1_f1 g_h1_f2 g_h1_f3 g_j20_h1_f2 g_p2 H locs ls hP hD hS hl
    refine hG _ _ _ ?_
    refine lv_istore (lv' := [(4, .int (-1)), (0, .ref h0), (1, .ref h1), (2, .int p2)]) hx hb dX6_readStep_20 hl (Nat.le_of_ble_eq_true rfl) rfl (fun ls hl => ?_)
    refine lv_iload hx hb dX6_readStep_22 (lv_at hl 0 rfl) ?_
    refine lv_if_ge (tgt := 32) hx hb dX6_readStep_24 rfl (fun c_1 => absurd c_1 (by decide +kernel)) (fun c_1 => ?_)
    refine lv_aload_n hx hb dX6_readStep_27 rfl (lv_at hl 2 rfl) ?_
    obtain ⟨hPc, hDc, hFc, hqc⟩ := cl_cut (wc := (wd_c_X9_refuseHere h1 h1_0 h1_f1 j20_h1_f2 h1_f3)) hP hD hS hA [0] (by decide +kernel) rfl
    have hKc := hK.sub (tys' := []) [] rfl
    have hrv := va_recv hKc hPc (ci := 9) (q0 := 0) rfl rfl
    refine va_callv (va_runV (As := []) (rest := []) ⟨hx, hb, hml, hown, hts⟩ (c_X9_refuseHere l dC dI H.size h1 h1_0 h1_f1 j20_h1_f2 h1_f3 g_h1_f1 g_j20_h1_f2 g_h1_f3) (cwV 0 hts gf_c_X6_readStep_c_X9_refuseHere rfl rfl rfl mdV_X9_refuseHere ⟨Nat.le_of_ble_eq_true rfl, Nat.le_of_ble_eq_true rfl⟩) ⟨fun a U g mk q => by obtain ⟨q0, q1, qP, qK, qD⟩ := q; exact ⟨q0, q1, qP, va_K.moved (u := U) (U := U.calling g mk a) (Vm.Alike.refl U.vm) qK, qD⟩, hrv, fun U hU hW => ⟨rfl, by rw [hU], by rw [hU]; exact hPc, va_K.moved hW.alike hKc, hDc.weaken (fun _ _ _ _ => trivial)⟩⟩ rfl rfl hl.1 rfl (lv_room (Nat.le_of_ble_eq_true rfl)) dX6_readStep_28 ⟨Nat.le_of_ble_eq_true rfl, Nat.le_of_ble_eq_true rfl⟩) hS (fun q _ h => hFc q h) hFc (fun x_3 t H1 locs ht hvm hw hB hz1 hk1 hS => ?_)
    obtain ⟨hP1, hK1, hD1⟩ := hB
    rw [ht] at hP1
    obtain ⟨hP, hD⟩ := cl_put (w1 := (wd_c_X9_refuseHere h1 h1_0 h1_f1 j20_h1_f2 x_3)) (nw := (wd_c_X6_readStep h1 h1_0 h1_f1 j20_h1_f2 x_3 h1_0 h1_0k h1_0c h0 h0_0 h0_f1 h0_0 h0_0k h0_0c)) hP hD [0] [4, 1, 2, 3] 4 rfl hqc (by decide +kernel) rfl hk1 hFc hP1 hD1
    generalize H1 = H at hP hS ⊢
    as_aux_lemma =>
    have h_4 := hw
    have hK9 := hK.sub (tys' := []) [] rfl
    exact W.vret hx hb hr (fun t ht hW => ⟨⟨(j20_h1_f2, x_3, h0_f1, h0_0c), rfl, ⟨g_j20_h1_f2, (RG_w h_4 (by decide +kernel)), g_h0_f1, a_h0_0c⟩, by rw [ht]; exact hP, va_K.moved hW.alike hK9, hD⟩, hS.F ht⟩) hS.2.2 dX6_readStep_31
  have J20b : ∀ (j20b_h1_f2 : Int32) (g_h0_f1 : RG h0_f1 0 16) (g_h1_f1 : RG h1_f1 1 240) (g_h1_f2 : RG h1_f2 0 240) (g_h1_f3 : RG h1_f3 (-1) 240) (g_j20b_h1_f2 : RG j20b_h1_f2 0 239) (g_p2 : RG p2 0 15) (H : Heap) (locs : List Loc) (ls : Array Slot) (hP : va_P (dC, dI) vwCl (wd_c_X6_readStep h1 h1_0 h1_f1 j20b_h1_f2 h1_f3 h1_0 h1_0k h1_0c h0 h0_0 h0_f1 h0_0 h0_0k h0_0c) H) (hD : va_D A (wd_c_X6_readStep h1 h1_0 h1_f1 j20b_h1_f2 h1_f3 h1_0 h1_0k h1_0c h0 h0_0 h0_f1 h0_0 h0_0k h0_0c)) (hS : va_S A s.heap H locs) (hl : lv_has ls 6 [(0, .ref h0), (1, .ref h1), (2, .int p2)]), G H locs (F0 m 20 ls [.int (-1)]) := by
    as_aux_lemma =>
    intro j20b_h1_f2 g_h0_f1 g_h1_f1 g_h1_f2 g_h1_f3 g_j20b_h1_f2 g_p2 H locs ls hP hD hS hl
    refine hG _ _ _ ?_
    refine lv_istore (lv' := [(4, .int (-1)), (0, .ref h0), (1, .ref h1), (2, .int p2)]) hx hb dX6_readStep_20 hl (Nat.le_of_ble_eq_true rfl) rfl (fun ls hl => ?_)
    refine lv_iload hx hb dX6_readStep_22 (lv_at hl 0 rfl) ?_
    refine lv_if_ge (tgt := 32) hx hb dX6_readStep_24 rfl (fun c_5 => absurd c_5 (by decide +kernel)) (fun c_5 => ?_)
    refine lv_aload_n hx hb dX6_readStep_27 rfl (lv_at hl 2 rfl) ?_
    obtain ⟨hPc, hDc, hFc, hqc⟩ := cl_cut (wc := (wd_c_X9_refuseHere h1 h1_0 h1_f1 j20b_h1_f2 h1_f3)) hP hD hS hA [0] (by decide +kernel) rfl
    have hKc := hK.sub (tys' := []) [] rfl
    have hrv := va_recv hKc hPc (ci := 9) (q0 := 0) rfl rfl
    refine va_callv (va_runV (As := []) (rest := []) ⟨hx, hb, hml, hown, hts⟩ (c_X9_refuseHere l dC dI H.size h1 h1_0 h1_f1 j20b_h1_f2 h1_f3 (RG_w g_h1_f1 (by decide +kernel)) (RG_w g_j20b_h1_f2 (by decide +kernel)) g_h1_f3) (cwV 0 hts gf_c_X6_readStep_c_X9_refuseHere rfl rfl rfl mdV_X9_refuseHere ⟨Nat.le_of_ble_eq_true rfl, Nat.le_of_ble_eq_true rfl⟩) ⟨fun a U g mk q => by obtain ⟨q0, q1, qP, qK, qD⟩ := q; exact ⟨q0, q1, qP, va_K.moved (u := U) (U := U.calling g mk a) (Vm.Alike.refl U.vm) qK, qD⟩, hrv, fun U hU hW => ⟨rfl, by rw [hU], by rw [hU]; exact hPc, va_K.moved hW.alike hKc, hDc.weaken (fun _ _ _ _ => trivial)⟩⟩ rfl rfl hl.1 rfl (lv_room (Nat.le_of_ble_eq_true rfl)) dX6_readStep_28 ⟨Nat.le_of_ble_eq_true rfl, Nat.le_of_ble_eq_true rfl⟩) hS (fun q _ h => hFc q h) hFc (fun x_7 t H1 locs ht hvm hw hB hz1 hk1 hS => ?_)
    obtain ⟨hP1, hK1, hD1⟩ := hB
    rw [ht] at hP1
    obtain ⟨hP, hD⟩ := cl_put (w1 := (wd_c_X9_refuseHere h1 h1_0 h1_f1 j20b_h1_f2 x_7)) (nw := (wd_c_X6_readStep h1 h1_0 h1_f1 j20b_h1_f2 x_7 h1_0 h1_0k h1_0c h0 h0_0 h0_f1 h0_0 h0_0k h0_0c)) hP hD [0] [4, 1, 2, 3] 4 rfl hqc (by decide +kernel) rfl hk1 hFc hP1 hD1
    generalize H1 = H at hP hS ⊢
    as_aux_lemma =>
    have h_8 := hw
    have hK9 := hK.sub (tys' := []) [] rfl
    exact W.vret hx hb hr (fun t ht hW => ⟨⟨(j20b_h1_f2, x_7, h0_f1, h0_0c), rfl, ⟨(RG_w g_j20b_h1_f2 (by decide +kernel)), (RG_w h_8 (by decide +kernel)), g_h0_f1, a_h0_0c⟩, by rw [ht]; exact hP, va_K.moved hW.alike hK9, hD⟩, hS.F ht⟩) hS.2.2 dX6_readStep_31
  have J49 : ∀ (n49 : Nat) (j49_l5 : Int32) (j49_l4 : Int32) (j49_h1_f2 : Int32) (j49_h1_f3 : Int32) (j49_h0_0c : Nat → Int32) (hM49 : MU j49_l5 < n49) (g_h0_f1 : RG h0_f1 0 16) (g_h1_f1 : RG h1_f1 1 240) (g_h1_f2 : RG h1_f2 0 240) (g_h1_f3 : RG h1_f3 (-1) 240) (g_j49_h1_f2 : RG j49_h1_f2 0 240) (g_j49_h1_f3 : RG j49_h1_f3 (-1) 240) (g_j49_l4 : RG j49_l4 0 3) (g_j49_l5 : RG j49_l5 1 4) (g_p2 : RG p2 0 15) (a_j49_h0_0c : AI j49_h0_0c (-1) 9) (H : Heap) (locs : List Loc) (ls : Array Slot) (hP : va_P (dC, dI) vwCl (wd_c_X6_readStep h1 h1_0 h1_f1 j49_h1_f2 j49_h1_f3 h1_0 h1_0k h1_0c h0 h0_0 h0_f1 h0_0 h0_0k j49_h0_0c) H) (hD : va_D A (wd_c_X6_readStep h1 h1_0 h1_f1 j49_h1_f2 j49_h1_f3 h1_0 h1_0k h1_0c h0 h0_0 h0_f1 h0_0 h0_0k j49_h0_0c)) (hS : va_S A s.heap H locs) (hl : lv_has ls 6 [(5, .int j49_l5), (4, .int j49_l4), (0, .ref h0), (1, .ref h1), (2, .int p2)]), G H locs (F0 m 49 ls []) := by
    as_aux_lemma =>
    intro n49
    induction n49 with
    | zero => intros; exact absurd (by assumption) (Nat.not_lt_zero _)
    | succ n49 ih49 =>
      intro j49_l5 j49_l4 j49_h1_f2 j49_h1_f3 j49_h0_0c hM49 g_h0_f1 g_h1_f1 g_h1_f2 g_h1_f3 g_j49_h1_f2 g_j49_h1_f3 g_j49_l4 g_j49_l5 g_p2 a_j49_h0_0c H locs ls hP hD hS hl
      have J91c : ∀ (j91c_s1 : Int32) (g_h0_f1 : RG h0_f1 0 16) (g_h1_f1 : RG h1_f1 1 240) (g_h1_f2 : RG h1_f2 0 240) (g_h1_f3 : RG h1_f3 (-1) 240) (g_j49_h1_f2 : RG j49_h1_f2 0 240) (g_j49_h1_f3 : RG j49_h1_f3 (-1) 240) (g_j49_l4 : RG j49_l4 0 3) (g_j49_l5 : RG j49_l5 1 3) (g_j91c_s1 : RG j91c_s1 1 63) (g_p2 : RG p2 0 15) (H : Heap) (locs : List Loc) (ls : Array Slot) (hP : va_P (dC, dI) vwCl (wd_c_X6_readStep h1 h1_0 h1_f1 j49_h1_f2 j49_h1_f3 h1_0 h1_0k h1_0c h0 h0_0 h0_f1 h0_0 h0_0k j49_h0_0c) H) (hD : va_D A (wd_c_X6_readStep h1 h1_0 h1_f1 j49_h1_f2 j49_h1_f3 h1_0 h1_0k h1_0c h0 h0_0 h0_f1 h0_0 h0_0k j49_h0_0c)) (hS : va_S A s.heap H locs) (hl : lv_has ls 6 [(5, .int j49_l5), (4, .int j49_l4), (0, .ref h0), (1, .ref h1), (2, .int p2)]), G H locs (F0 m 91 ls [.int (-1), .int j91c_s1, .ref h0_0]) := by
        as_aux_lemma =>
        intro j91c_s1 g_h0_f1 g_h1_f1 g_h1_f2 g_h1_f3 g_j49_h1_f2 g_j49_h1_f3 g_j49_l4 g_j49_l5 g_j91c_s1 g_p2 H locs ls hP hD hS hl
        refine hG _ _ _ ?_
        refine va_iast hx hb hK hP hD hS 3 1 rfl rfl (RG_in g_j91c_s1 (by decide +kernel)) dX6_readStep_91 (fun H locs hP hD hS => ?_)
        have hP : va_P (dC, dI) vwCl (wd_c_X6_readStep h1 h1_0 h1_f1 j49_h1_f2 j49_h1_f3 h1_0 h1_0k h1_0c h0 h0_0 h0_f1 h0_0 h0_0k (upd j49_h0_0c (j91c_s1 : Int32).toNatClampNeg (-1))) H := hP
        have hD : va_D A (wd_c_X6_readStep h1 h1_0 h1_f1 j49_h1_f2 j49_h1_f3 h1_0 h1_0k h1_0c h0 h0_0 h0_f1 h0_0 h0_0k (upd j49_h0_0c (j91c_s1 : Int32).toNatClampNeg (-1))) := hD
        have l_10 : (upd j49_h0_0c (j91c_s1 : Int32).toNatClampNeg (-1)) (j91c_s1 : Int32).toNatClampNeg = (-1) := pk_us
        have a_11 : AI (upd j49_h0_0c (j91c_s1 : Int32).toNatClampNeg (-1)) (-1) 9 := AI_up a_j49_h0_0c (RG_k (-1) (-1) rfl) (by decide +kernel)
        generalize (upd j49_h0_0c (j91c_s1 : Int32).toNatClampNeg (-1)) = w_9 at hP hD a_11 l_10
        have hP : va_P (dC, dI) vwCl (wd_c_X6_readStep h1 h1_0 h1_f1 j49_h1_f2 j49_h1_f3 h1_0 h1_0k h1_0c h0 h0_0 h0_f1 h0_0 h0_0k w_9) H := hP
        have hD : va_D A (wd_c_X6_readStep h1 h1_0 h1_f1 j49_h1_f2 j49_h1_f3 h1_0 h1_0k h1_0c h0 h0_0 h0_f1 h0_0 h0_0k w_9) := hD
        obtain ⟨x_12, ex_12⟩ : ∃ y : Int32, y = j49_l5 + 1 := ⟨_, rfl⟩
        have g_13 : RG x_12 2 4 := RG_add ex_12 g_j49_l5 (RG_k 1 1 rfl) (by decide +kernel)
        refine lv_iinc (v := x_12) (lv' := [(5, .int x_12), (4, .int j49_l4), (0, .ref h0), (1, .ref h1), (2, .int p2)]) hx hb dX6_readStep_92 hl (k := 0) rfl (by rw [ex_12]; rfl) (Nat.le_of_ble_eq_true rfl) rfl (fun ls hl => ?_)
        refine lv_goto (tgt := 49) hx hb dX6_readStep_95 rfl ?_
        as_aux_lemma =>
        exact hU _ _ _ (ih49 x_12 j49_l4 j49_h1_f2 j49_h1_f3 w_9 (mu_s (MU_add ex_12 g_j49_l5 (q := 1) rfl (by decide +kernel)) hM49) g_h0_f1 g_h1_f1 g_h1_f2 g_h1_f3 g_j49_h1_f2 g_j49_h1_f3 g_j49_l4 (RG_w g_13 (by decide +kernel)) g_p2 a_11 _ _ _ hP hD hS (lv_sub hl [0, 1, 2, 3, 4] rfl))
      have J90 : ∀ (j90_s1 : Int32) (g_h0_f1 : RG h0_f1 0 16) (g_h1_f1 : RG h1_f1 1 240) (g_h1_f2 : RG h1_f2 0 240) (g_h1_f3 : RG h1_f3 (-1) 240) (g_j49_h1_f2 : RG j49_h1_f2 0 240) (g_j49_h1_f3 : RG j49_h1_f3 (-1) 240) (g_j49_l4 : RG j49_l4 0 3) (g_j49_l5 : RG j49_l5 1 3) (g_j90_s1 : RG j90_s1 1 63) (g_p2 : RG p2 0 15) (H : Heap) (locs : List Loc) (ls : Array Slot) (hP : va_P (dC, dI) vwCl (wd_c_X6_readStep h1 h1_0 h1_f1 j49_h1_f2 j49_h1_f3 h1_0 h1_0k h1_0c h0 h0_0 h0_f1 h0_0 h0_0k j49_h0_0c) H) (hD : va_D A (wd_c_X6_readStep h1 h1_0 h1_f1 j49_h1_f2 j49_h1_f3 h1_0 h1_0k h1_0c h0 h0_0 h0_f1 h0_0 h0_0k j49_h0_0c)) (hS : va_S A s.heap H locs) (hl : lv_has ls 6 [(5, .int j49_l5), (4, .int j49_l4), (0, .ref h0), (1, .ref h1), (2, .int p2)]), G H locs (F0 m 90 ls [.int j90_s1, .ref h0_0]) := by
        as_aux_lemma =>
        intro j90_s1 g_h0_f1 g_h1_f1 g_h1_f2 g_h1_f3 g_j49_h1_f2 g_j49_h1_f3 g_j49_l4 g_j49_l5 g_j90_s1 g_p2 H locs ls hP hD hS hl
        refine hG _ _ _ ?_
        refine lv_iconst (v := (-1)) hx hb dX6_readStep_90 kc_iconst_m1 ?_
        exact hU _ _ _ (J91c j90_s1 g_h0_f1 g_h1_f1 g_h1_f2 g_h1_f3 g_j49_h1_f2 g_j49_h1_f3 g_j49_l4 g_j49_l5 g_j90_s1 g_p2 _ _ _ hP hD hS (lv_sub hl [0, 1, 2, 3, 4] rfl))
      have J91b : ∀ (j91b_s1 : Int32) (j91b_h1_f2 : Int32) (j91b_h1_f3 : Int32) (g_h0_f1 : RG h0_f1 0 16) (g_h1_f1 : RG h1_f1 1 240) (g_h1_f2 : RG h1_f2 0 240) (g_h1_f3 : RG h1_f3 (-1) 240) (g_j49_h1_f2 : RG j49_h1_f2 0 240) (g_j49_h1_f3 : RG j49_h1_f3 (-1) (-1)) (g_j49_l4 : RG j49_l4 0 3) (g_j49_l5 : RG j49_l5 1 3) (g_j91b_h1_f2 : RG j91b_h1_f2 0 240) (g_j91b_h1_f3 : RG j91b_h1_f3 0 240) (g_j91b_s1 : RG j91b_s1 1 63) (g_p2 : RG p2 0 15) (H : Heap) (locs : List Loc) (ls : Array Slot) (hP : va_P (dC, dI) vwCl (wd_c_X6_readStep h1 h1_0 h1_f1 j91b_h1_f2 j91b_h1_f3 h1_0 h1_0k h1_0c h0 h0_0 h0_f1 h0_0 h0_0k j49_h0_0c) H) (hD : va_D A (wd_c_X6_readStep h1 h1_0 h1_f1 j91b_h1_f2 j91b_h1_f3 h1_0 h1_0k h1_0c h0 h0_0 h0_f1 h0_0 h0_0k j49_h0_0c)) (hS : va_S A s.heap H locs) (hl : lv_has ls 6 [(5, .int j49_l5), (4, .int j49_l4), (0, .ref h0), (1, .ref h1), (2, .int p2)]), G H locs (F0 m 91 ls [.int 0, .int j91b_s1, .ref h0_0]) := by
        as_aux_lemma =>
        intro j91b_s1 j91b_h1_f2 j91b_h1_f3 g_h0_f1 g_h1_f1 g_h1_f2 g_h1_f3 g_j49_h1_f2 g_j49_h1_f3 g_j49_l4 g_j49_l5 g_j91b_h1_f2 g_j91b_h1_f3 g_j91b_s1 g_p2 H locs ls hP hD hS hl
        refine hG _ _ _ ?_
        refine va_iast hx hb hK hP hD hS 3 1 rfl rfl (RG_in g_j91b_s1 (by decide +kernel)) dX6_readStep_91 (fun H locs hP hD hS => ?_)
        have hP : va_P (dC, dI) vwCl (wd_c_X6_readStep h1 h1_0 h1_f1 j91b_h1_f2 j91b_h1_f3 h1_0 h1_0k h1_0c h0 h0_0 h0_f1 h0_0 h0_0k (upd j49_h0_0c (j91b_s1 : Int32).toNatClampNeg 0)) H := hP
        have hD : va_D A (wd_c_X6_readStep h1 h1_0 h1_f1 j91b_h1_f2 j91b_h1_f3 h1_0 h1_0k h1_0c h0 h0_0 h0_f1 h0_0 h0_0k (upd j49_h0_0c (j91b_s1 : Int32).toNatClampNeg 0)) := hD
        have l_15 : (upd j49_h0_0c (j91b_s1 : Int32).toNatClampNeg 0) (j91b_s1 : Int32).toNatClampNeg = 0 := pk_us
        have a_16 : AI (upd j49_h0_0c (j91b_s1 : Int32).toNatClampNeg 0) (-1) 9 := AI_up a_j49_h0_0c (RG_k 0 0 rfl) (by decide +kernel)
        generalize (upd j49_h0_0c (j91b_s1 : Int32).toNatClampNeg 0) = w_14 at hP hD a_16 l_15
        have hP : va_P (dC, dI) vwCl (wd_c_X6_readStep h1 h1_0 h1_f1 j91b_h1_f2 j91b_h1_f3 h1_0 h1_0k h1_0c h0 h0_0 h0_f1 h0_0 h0_0k w_14) H := hP
        have hD : va_D A (wd_c_X6_readStep h1 h1_0 h1_f1 j91b_h1_f2 j91b_h1_f3 h1_0 h1_0k h1_0c h0 h0_0 h0_f1 h0_0 h0_0k w_14) := hD
        obtain ⟨x_17, ex_17⟩ : ∃ y : Int32, y = j49_l5 + 1 := ⟨_, rfl⟩
        have g_18 : RG x_17 2 4 := RG_add ex_17 g_j49_l5 (RG_k 1 1 rfl) (by decide +kernel)
        refine lv_iinc (v := x_17) (lv' := [(5, .int x_17), (4, .int j49_l4), (0, .ref h0), (1, .ref h1), (2, .int p2)]) hx hb dX6_readStep_92 hl (k := 0) rfl (by rw [ex_17]; rfl) (Nat.le_of_ble_eq_true rfl) rfl (fun ls hl => ?_)
        refine lv_goto (tgt := 49) hx hb dX6_readStep_95 rfl ?_
        as_aux_lemma =>
        exact hU _ _ _ (ih49 x_17 j49_l4 j91b_h1_f2 j91b_h1_f3 w_14 (mu_s (MU_add ex_17 g_j49_l5 (q := 1) rfl (by decide +kernel)) hM49) g_h0_f1 g_h1_f1 g_h1_f2 g_h1_f3 g_j91b_h1_f2 (RG_w g_j91b_h1_f3 (by decide +kernel)) g_j49_l4 (RG_w g_18 (by decide +kernel)) g_p2 a_16 _ _ _ hP hD hS (lv_sub hl [0, 1, 2, 3, 4] rfl))
      have J91 : ∀ (j91_s1 : Int32) (j91_s2 : Int32) (j91_h1_f2 : Int32) (j91_h1_f3 : Int32) (g_h0_f1 : RG h0_f1 0 16) (g_h1_f1 : RG h1_f1 1 240) (g_h1_f2 : RG h1_f2 0 240) (g_h1_f3 : RG h1_f3 (-1) 240) (g_j49_h1_f2 : RG j49_h1_f2 0 240) (g_j49_h1_f3 : RG j49_h1_f3 (-1) (-1)) (g_j49_l4 : RG j49_l4 0 3) (g_j49_l5 : RG j49_l5 1 3) (g_j91_h1_f2 : RG j91_h1_f2 1 240) (g_j91_h1_f3 : RG j91_h1_f3 (-1) 240) (g_j91_s1 : RG j91_s1 1 63) (g_j91_s2 : RG j91_s2 0 9) (g_p2 : RG p2 0 15) (H : Heap) (locs : List Loc) (ls : Array Slot) (hP : va_P (dC, dI) vwCl (wd_c_X6_readStep h1 h1_0 h1_f1 j91_h1_f2 j91_h1_f3 h1_0 h1_0k h1_0c h0 h0_0 h0_f1 h0_0 h0_0k j49_h0_0c) H) (hD : va_D A (wd_c_X6_readStep h1 h1_0 h1_f1 j91_h1_f2 j91_h1_f3 h1_0 h1_0k h1_0c h0 h0_0 h0_f1 h0_0 h0_0k j49_h0_0c)) (hS : va_S A s.heap H locs) (hl : lv_has ls 6 [(5, .int j49_l5), (4, .int j49_l4), (0, .ref h0), (1, .ref h1), (2, .int p2)]), G H locs (F0 m 91 ls [.int j91_s2, .int j91_s1, .ref h0_0]) := by
        as_aux_lemma =>
        intro j91_s1 j91_s2 j91_h1_f2 j91_h1_f3 g_h0_f1 g_h1_f1 g_h1_f2 g_h1_f3 g_j49_h1_f2 g_j49_h1_f3 g_j49_l4 g_j49_l5 g_j91_h1_f2 g_j91_h1_f3 g_j91_s1 g_j91_s2 g_p2 H locs ls hP hD hS hl
        refine hG _ _ _ ?_
        refine va_iast hx hb hK hP hD hS 3 1 rfl rfl (RG_in g_j91_s1 (by decide +kernel)) dX6_readStep_91 (fun H locs hP hD hS => ?_)
        have hP : va_P (dC, dI) vwCl (wd_c_X6_readStep h1 h1_0 h1_f1 j91_h1_f2 j91_h1_f3 h1_0 h1_0k h1_0c h0 h0_0 h0_f1 h0_0 h0_0k (upd j49_h0_0c (j91_s1 : Int32).toNatClampNeg j91_s2)) H := hP
        have hD : va_D A (wd_c_X6_readStep h1 h1_0 h1_f1 j91_h1_f2 j91_h1_f3 h1_0 h1_0k h1_0c h0 h0_0 h0_f1 h0_0 h0_0k (upd j49_h0_0c (j91_s1 : Int32).toNatClampNeg j91_s2)) := hD
        have l_20 : (upd j49_h0_0c (j91_s1 : Int32).toNatClampNeg j91_s2) (j91_s1 : Int32).toNatClampNeg = j91_s2 := pk_us
        have a_21 : AI (upd j49_h0_0c (j91_s1 : Int32).toNatClampNeg j91_s2) (-1) 9 := AI_up a_j49_h0_0c g_j91_s2 (by decide +kernel)
        generalize (upd j49_h0_0c (j91_s1 : Int32).toNatClampNeg j91_s2) = w_19 at hP hD a_21 l_20
        have hP : va_P (dC, dI) vwCl (wd_c_X6_readStep h1 h1_0 h1_f1 j91_h1_f2 j91_h1_f3 h1_0 h1_0k h1_0c h0 h0_0 h0_f1 h0_0 h0_0k w_19) H := hP
        have hD : va_D A (wd_c_X6_readStep h1 h1_0 h1_f1 j91_h1_f2 j91_h1_f3 h1_0 h1_0k h1_0c h0 h0_0 h0_f1 h0_0 h0_0k w_19) := hD
        obtain ⟨x_22, ex_22⟩ : ∃ y : Int32, y = j49_l5 + 1 := ⟨_, rfl⟩
        have g_23 : RG x_22 2 4 := RG_add ex_22 g_j49_l5 (RG_k 1 1 rfl) (by decide +kernel)
        refine lv_iinc (v := x_22) (lv' := [(5, .int x_22), (4, .int j49_l4), (0, .ref h0), (1, .ref h1), (2, .int p2)]) hx hb dX6_readStep_92 hl (k := 0) rfl (by rw [ex_22]; rfl) (Nat.le_of_ble_eq_true rfl) rfl (fun ls hl => ?_)
        refine lv_goto (tgt := 49) hx hb dX6_readStep_95 rfl ?_
        as_aux_lemma =>
        exact hU _ _ _ (ih49 x_22 j49_l4 j91_h1_f2 j91_h1_f3 w_19 (mu_s (MU_add ex_22 g_j49_l5 (q := 1) rfl (by decide +kernel)) hM49) g_h0_f1 g_h1_f1 g_h1_f2 g_h1_f3 (RG_w g_j91_h1_f2 (by decide +kernel)) g_j91_h1_f3 g_j49_l4 (RG_w g_23 (by decide +kernel)) g_p2 a_21 _ _ _ hP hD hS (lv_sub hl [0, 1, 2, 3, 4] rfl))
      refine hG _ _ _ ?_
      refine lv_iload hx hb dX6_readStep_49 (lv_at hl 0 rfl) ?_
      refine lv_iconst (v := 4) hx hb dX6_readStep_51 kc_iconst_4 ?_
      refine lv_icmp_ge (tgt := 98) hx hb dX6_readStep_52 rfl (fun c_24 => ?_) (fun c_24 => ?_)
      · have g_25 : RG j49_l5 4 4 := RG_le2 (RG_k 4 4 rfl) g_j49_l5 c_24 (by decide +kernel)
        refine lv_aload_n hx hb dX6_readStep_98 rfl (lv_at hl 2 rfl) ?_
        refine lv_iload_n hx hb dX6_readStep_99 rfl (lv_at hl 4 rfl) ?_
        refine lv_iconst (v := 1) hx hb dX6_readStep_100 kc_iconst_1 ?_
        refine lv_iadd hx hb dX6_readStep_101 ?_
        refine lv_topi (fun x_26 ex_26 => ?_)
        have g_27 : RG x_26 1 16 := RG_add ex_26 g_p2 (RG_k 1 1 rfl) (by decide +kernel)
        refine va_put (D := (dC, dI)) (ci := 6) (v := .int x_26) (ty := .int) (C := RX6) (T := TX6) (N := 2) hx hb hts iw_c_X6_readStep_X6 tyX6 tyX6_ok nmX6 hown hK hP hD hS 2 rfl rfl 1 (by decide +kernel) (hts (.fieldLink RX6 15 "BuoyVote$Plan" "steps" "I") (List.mem_of_getElem? (i := 74) rfl)) (fun _ h9 => h9) rfl (by decide +kernel) rfl rfl (Nat.le_of_ble_eq_true rfl) dX6_readStep_102 (fun H locs hP hD hS => ?_)
        have hP : va_P (dC, dI) vwCl (wd_c_X6_readStep h1 h1_0 h1_f1 j49_h1_f2 j49_h1_f3 h1_0 h1_0k h1_0c h0 h0_0 x_26 h0_0 h0_0k j49_h0_0c) H := hP
        have hD : va_D A (wd_c_X6_readStep h1 h1_0 h1_f1 j49_h1_f2 j49_h1_f3 h1_0 h1_0k h1_0c h0 h0_0 x_26 h0_0 h0_0k j49_h0_0c) := hD
        have hK9 := hK.sub (tys' := []) [] rfl
        exact W.vret hx hb hr (fun t ht hW => ⟨⟨(j49_h1_f2, j49_h1_f3, x_26, j49_h0_0c), rfl, ⟨g_j49_h1_f2, g_j49_h1_f3, (RG_w g_27 (by decide +kernel)), a_j49_h0_0c⟩, by rw [ht]; exact hP, va_K.moved hW.alike hK9, hD⟩, hS.F ht⟩) hS.2.2 dX6_readStep_105
      · have d_28 := Int32.not_le.mp c_24
        have g_29 : RG j49_l5 1 3 := RG_lt1 g_j49_l5 (RG_k 4 4 rfl) d_28 (by decide +kernel)
        refine lv_aload_n hx hb dX6_readStep_55 rfl (lv_at hl 2 rfl) ?_
        as_aux_lemma =>
        refine va_get (D := (dC, dI)) (ci := 6) (v := .ref h0_0) (C := RX6) (T := TX6) (N := 2) hx hb hts iw_c_X6_readStep_X6 hown hK hP 2 rfl rfl 0 (by decide +kernel) (hts (.fieldLink RX6 11 "BuoyVote$Plan" "cells" "[I") (List.mem_of_getElem? (i := 63) rfl)) (fun _ h9 => h9) rfl dX6_readStep_56 ?_
        refine lv_iload_n hx hb dX6_readStep_59 rfl (lv_at hl 4 rfl) ?_
        refine lv_iconst (v := 4) hx hb dX6_readStep_60 kc_iconst_4 ?_
        refine lv_imul hx hb dX6_readStep_61 ?_
        refine lv_topi (fun x_30 ex_30 => ?_)
        have g_31 : RG x_30 0 60 := RG_mulc ex_30 (q := 4) rfl g_p2 (by decide +kernel)
        refine lv_iload hx hb dX6_readStep_62 (lv_at hl 0 rfl) ?_
        refine lv_iadd hx hb dX6_readStep_64 ?_
        refine lv_topi (fun x_32 ex_32 => ?_)
        have g_33 : RG x_32 1 63 := RG_add ex_32 g_31 g_29 (by decide +kernel)
        refine lv_iload hx hb dX6_readStep_65 (lv_at hl 0 rfl) ?_
        refine va_gets hx hb hE_8 hS hown (hts (.fieldLink RX6 56 "BuoyVote$Plan" "DIGITS" "[I") (List.mem_of_getElem? (i := 64) rfl)) (fun _ h9 => h9) dX6_readStep_67 ?_
        refine lv_iload hx hb dX6_readStep_70 (lv_at hl 1 rfl) ?_
        refine va_ti hx hb hE_9 hS (RG_in g_j49_l4 (by decide +kernel)) rfl dX6_readStep_72 ?_
        as_aux_lemma =>
        refine lv_topi (fun x_34 ex_34 => ?_)
        have g_35 : RG x_34 0 3 := RG_tab ex_34 (by decide +kernel)
        refine lv_icmp_gt (tgt := 90) hx hb dX6_readStep_73 rfl (fun c_36 => ?_) (fun c_36 => ?_)
        · have g_37 : RG x_34 0 2 := RG_lt1 g_35 g_29 c_36 (by decide +kernel)
          exact hU _ _ _ (J90 x_32 g_h0_f1 g_h1_f1 g_h1_f2 g_h1_f3 g_j49_h1_f2 g_j49_h1_f3 g_j49_l4 g_29 g_33 g_p2 _ _ _ hP hD hS (lv_sub hl [0, 1, 2, 3, 4] rfl))
        · have d_38 := Int32.not_lt.mp c_36
          have g_39 : RG x_34 1 3 := RG_le2 g_29 g_35 d_38 (by decide +kernel)
          refine lv_aload_n hx hb dX6_readStep_76 rfl (lv_at hl 3 rfl) ?_
          obtain ⟨hPc, hDc, hFc, hqc⟩ := cl_cut (wc := (wd_c_X9_isRight h1 h1_0 h1_f1 j49_h1_f2 j49_h1_f3)) hP hD hS hA [0] (by decide +kernel) rfl
          have hKc := hK.sub (tys' := []) [] rfl
          have hrv := va_recv hKc hPc (ci := 9) (q0 := 0) rfl rfl
          refine va_calli (va_runV (As := []) (rest := [.int x_32, .ref h0_0]) ⟨hx, hb, hml, hown, hts⟩ (c_X9_isRight l dC dI H.size h1 h1_0 h1_f1 j49_h1_f2 j49_h1_f3 (RG_w g_h1_f1 (by decide +kernel)) g_j49_h1_f2 g_j49_h1_f3) (cwV 0 hts gf_c_X6_readStep_c_X9_isRight rfl rfl rfl mdV_X9_isRight ⟨Nat.le_of_ble_eq_true rfl, Nat.le_of_ble_eq_true rfl⟩) ⟨fun a U g mk q => by obtain ⟨q0, q1, qP, qK, qD⟩ := q; exact ⟨q0, q1, qP, va_K.moved (u := U) (U := U.calling g mk a) (Vm.Alike.refl U.vm) qK, qD⟩, hrv, fun U hU hW => ⟨rfl, by rw [hU], by rw [hU]; exact hPc, va_K.moved hW.alike hKc, hDc.weaken (fun _ _ _ _ => trivial)⟩⟩ rfl rfl hl.1 rfl (lv_room (Nat.le_of_ble_eq_true rfl)) dX6_readStep_77 ⟨Nat.le_of_ble_eq_true rfl, Nat.le_of_ble_eq_true rfl⟩) hS (fun q _ h => hFc q h) hFc (fun r_40 u t H1 locs ht hvm hw hB hz1 hk1 hS => ?_)
          obtain ⟨hP1, hK1, hD1⟩ := hB
          rw [ht] at hP1
          obtain ⟨hP, hD⟩ := cl_put (w1 := (wd_c_X9_isRight h1 h1_0 h1_f1 j49_h1_f2 j49_h1_f3)) (nw := (wd_c_X6_readStep h1 h1_0 h1_f1 j49_h1_f2 j49_h1_f3 h1_0 h1_0k h1_0c h0 h0_0 h0_f1 h0_0 h0_0k j49_h0_0c)) hP hD [0] [4, 1, 2, 3] 4 rfl hqc (by decide +kernel) rfl hk1 hFc hP1 hD1
          generalize H1 = H at hP hS ⊢
          as_aux_lemma =>
          rcases hw with ⟨h_41, h_42⟩ | ⟨h_43, h_44⟩
          · rw [h_41]
            refine lv_if_eq (tgt := 90) hx hb dX6_readStep_80 rfl (fun c_45 => ?_) (fun c_45 => absurd c_45 (by decide +kernel))
            exact hU _ _ _ (J90 x_32 g_h0_f1 g_h1_f1 g_h1_f2 g_h1_f3 g_j49_h1_f2 (RG_w h_42 (by decide +kernel)) g_j49_l4 g_29 g_33 g_p2 _ _ _ hP hD hS (lv_sub hl [0, 1, 2, 3, 4] rfl))
          · rw [h_43]
            refine lv_if_eq (tgt := 90) hx hb dX6_readStep_80 rfl (fun c_46 => absurd c_46 (by decide +kernel)) (fun c_46 => ?_)
            refine lv_aload_n hx hb dX6_readStep_83 rfl (lv_at hl 3 rfl) ?_
            obtain ⟨hPc, hDc, hFc, hqc⟩ := cl_cut (wc := (wd_c_X9_digit h1 h1_0 h1_f1 j49_h1_f2 j49_h1_f3 h1_0 h1_0k h1_0c)) hP hD hS hA [0, 1] (by decide +kernel) rfl
            have hKc := hK.sub (tys' := [(h1_0k, .int)]) [0] rfl
            have hrv := va_recv hKc hPc (ci := 9) (q0 := 0) rfl rfl
            refine va_calli (va_runV (As := []) (rest := [.int x_32, .ref h0_0]) ⟨hx, hb, hml, hown, hts⟩ (c_X9_digit l dC dI H.size h1 h1_0 h1_f1 j49_h1_f2 j49_h1_f3 h1_0k h1_0c (RG_w g_h1_f1 (by decide +kernel)) g_j49_h1_f2 (RG_w h_44 (by decide +kernel)) a_h1_0c) (cwV 0 hts gf_c_X6_readStep_c_X9_digit rfl rfl rfl mdV_X9_digit ⟨Nat.le_of_ble_eq_true rfl, Nat.le_of_ble_eq_true rfl⟩) ⟨fun a U g mk q => by obtain ⟨q0, q1, qP, qK, qD⟩ := q; exact ⟨q0, q1, qP, va_K.moved (u := U) (U := U.calling g mk a) (Vm.Alike.refl U.vm) qK, qD⟩, hrv, fun U hU hW => ⟨rfl, by rw [hU], by rw [hU]; exact hPc, va_K.moved hW.alike hKc, hDc.weaken (fun _ _ _ _ => trivial)⟩⟩ rfl rfl hl.1 rfl (lv_room (Nat.le_of_ble_eq_true rfl)) dX6_readStep_84 ⟨Nat.le_of_ble_eq_true rfl, Nat.le_of_ble_eq_true rfl⟩) hS (fun q _ h => hFc q h) hFc (fun r_47 u t H1 locs ht hvm hw hB hz1 hk1 hS => ?_)
            obtain ⟨x_48, x_49⟩ := u
            obtain ⟨hP1, hK1, hD1⟩ := hB
            rw [ht] at hP1
            obtain ⟨hP, hD⟩ := cl_put (w1 := (wd_c_X9_digit h1 h1_0 h1_f1 x_48 x_49 h1_0 h1_0k h1_0c)) (nw := (wd_c_X6_readStep h1 h1_0 h1_f1 x_48 x_49 h1_0 h1_0k h1_0c h0 h0_0 h0_f1 h0_0 h0_0k j49_h0_0c)) hP hD [0, 1] [4, 5, 2, 3] 4 rfl hqc (by decide +kernel) rfl hk1 hFc hP1 hD1
            generalize H1 = H at hP hS ⊢
            as_aux_lemma =>
            rcases hw with ⟨h_50, h_51, h_52, h_53, h_54⟩ | ⟨h_55, h_56, h_57, h_58⟩
            · refine lv_goto (tgt := 91) hx hb dX6_readStep_87 rfl ?_
              exact hU _ _ _ (J91 x_32 r_47 x_48 x_49 g_h0_f1 g_h1_f1 g_h1_f2 g_h1_f3 g_j49_h1_f2 h_44 g_j49_l4 g_29 h_51 h_52 g_33 h_50 g_p2 _ _ _ hP hD hS (lv_sub hl [0, 1, 2, 3, 4] rfl))
            · rw [h_55]
              refine lv_goto (tgt := 91) hx hb dX6_readStep_87 rfl ?_
              exact hU _ _ _ (J91b x_32 x_48 x_49 g_h0_f1 g_h1_f1 g_h1_f2 g_h1_f3 g_j49_h1_f2 h_44 g_j49_l4 g_29 h_56 h_57 g_33 g_p2 _ _ _ hP hD hS (lv_sub hl [0, 1, 2, 3, 4] rfl))
  have J20c : ∀ (j20c_s0 : Int32) (j20c_h1_f2 : Int32) (g_h0_f1 : RG h0_f1 0 16) (g_h1_f1 : RG h1_f1 1 240) (g_h1_f2 : RG h1_f2 0 240) (g_h1_f3 : RG h1_f3 (-1) 240) (g_j20c_h1_f2 : RG j20c_h1_f2 0 239) (g_j20c_s0 : RG j20c_s0 0 3) (g_p2 : RG p2 0 15) (H : Heap) (locs : List Loc) (ls : Array Slot) (hP : va_P (dC, dI) vwCl (wd_c_X6_readStep h1 h1_0 h1_f1 j20c_h1_f2 h1_f3 h1_0 h1_0k h1_0c h0 h0_0 h0_f1 h0_0 h0_0k h0_0c) H) (hD : va_D A (wd_c_X6_readStep h1 h1_0 h1_f1 j20c_h1_f2 h1_f3 h1_0 h1_0k h1_0c h0 h0_0 h0_f1 h0_0 h0_0k h0_0c)) (hS : va_S A s.heap H locs) (hl : lv_has ls 6 [(0, .ref h0), (1, .ref h1), (2, .int p2)]), G H locs (F0 m 20 ls [.int j20c_s0]) := by
    as_aux_lemma =>
    intro j20c_s0 j20c_h1_f2 g_h0_f1 g_h1_f1 g_h1_f2 g_h1_f3 g_j20c_h1_f2 g_j20c_s0 g_p2 H locs ls hP hD hS hl
    refine hG _ _ _ ?_
    refine lv_istore (lv' := [(4, .int j20c_s0), (0, .ref h0), (1, .ref h1), (2, .int p2)]) hx hb dX6_readStep_20 hl (Nat.le_of_ble_eq_true rfl) rfl (fun ls hl => ?_)
    refine lv_iload hx hb dX6_readStep_22 (lv_at hl 0 rfl) ?_
    refine lv_if_ge (tgt := 32) hx hb dX6_readStep_24 rfl (fun c_59 => ?_) (fun c_59 => ?_)
    · refine lv_aload_n hx hb dX6_readStep_32 rfl (lv_at hl 2 rfl) ?_
      obtain ⟨hPc, hDc, hFc, hqc⟩ := cl_cut (wc := (wd_c_X9_skip h1 h1_0 h1_f1 j20c_h1_f2 h1_f3)) hP hD hS hA [0] (by decide +kernel) rfl
      have hKc := hK.sub (tys' := []) [] rfl
      have hrv := va_recv hKc hPc (ci := 9) (q0 := 0) rfl rfl
      refine va_callv (va_runV (As := []) (rest := []) ⟨hx, hb, hml, hown, hts⟩ (c_X9_skip l dC dI H.size h1 h1_0 h1_f1 j20c_h1_f2 h1_f3 (RG_w g_h1_f1 (by decide +kernel)) g_j20c_h1_f2 g_h1_f3) (cwV 0 hts gf_c_X6_readStep_c_X9_skip rfl rfl rfl mdV_X9_skip ⟨Nat.le_of_ble_eq_true rfl, Nat.le_of_ble_eq_true rfl⟩) ⟨fun a U g mk q => by obtain ⟨q0, q1, qP, qK, qD⟩ := q; exact ⟨q0, q1, qP, va_K.moved (u := U) (U := U.calling g mk a) (Vm.Alike.refl U.vm) qK, qD⟩, hrv, fun U hU hW => ⟨rfl, by rw [hU], by rw [hU]; exact hPc, va_K.moved hW.alike hKc, hDc.weaken (fun _ _ _ _ => trivial)⟩⟩ rfl rfl hl.1 rfl (lv_room (Nat.le_of_ble_eq_true rfl)) dX6_readStep_33 ⟨Nat.le_of_ble_eq_true rfl, Nat.le_of_ble_eq_true rfl⟩) hS (fun q _ h => hFc q h) hFc (fun x_61 t H1 locs ht hvm hw hB hz1 hk1 hS => ?_)
      obtain ⟨hP1, hK1, hD1⟩ := hB
      rw [ht] at hP1
      obtain ⟨hP, hD⟩ := cl_put (w1 := (wd_c_X9_skip h1 h1_0 h1_f1 x_61 h1_f3)) (nw := (wd_c_X6_readStep h1 h1_0 h1_f1 x_61 h1_f3 h1_0 h1_0k h1_0c h0 h0_0 h0_f1 h0_0 h0_0k h0_0c)) hP hD [0] [4, 1, 2, 3] 4 rfl hqc (by decide +kernel) rfl hk1 hFc hP1 hD1
      generalize H1 = H at hP hS ⊢
      as_aux_lemma =>
      rcases hw with ⟨h_62, h_63, h_64⟩
      refine lv_aload_n hx hb dX6_readStep_36 rfl (lv_at hl 1 rfl) ?_
      refine va_get (D := (dC, dI)) (ci := 6) (v := .ref h0_0) (C := RX6) (T := TX6) (N := 2) hx hb hts iw_c_X6_readStep_X6 hown hK hP 2 rfl rfl 0 (by decide +kernel) (hts (.fieldLink RX6 11 "BuoyVote$Plan" "cells" "[I") (List.mem_of_getElem? (i := 63) rfl)) (fun _ h9 => h9) rfl dX6_readStep_37 ?_
      refine lv_iload_n hx hb dX6_readStep_40 rfl (lv_at hl 3 rfl) ?_
      refine lv_iconst (v := 4) hx hb dX6_readStep_41 kc_iconst_4 ?_
      refine lv_imul hx hb dX6_readStep_42 ?_
      refine lv_topi (fun x_65 ex_65 => ?_)
      have g_66 : RG x_65 0 60 := RG_mulc ex_65 (q := 4) rfl g_p2 (by decide +kernel)
      refine lv_iload hx hb dX6_readStep_43 (lv_at hl 0 rfl) ?_
      refine va_iast hx hb hK hP hD hS 3 1 rfl rfl (RG_in g_66 (by decide +kernel)) dX6_readStep_45 (fun H locs hP hD hS => ?_)
      have hP : va_P (dC, dI) vwCl (wd_c_X6_readStep h1 h1_0 h1_f1 x_61 h1_f3 h1_0 h1_0k h1_0c h0 h0_0 h0_f1 h0_0 h0_0k (upd h0_0c (x_65 : Int32).toNatClampNeg j20c_s0)) H := hP
      have hD : va_D A (wd_c_X6_readStep h1 h1_0 h1_f1 x_61 h1_f3 h1_0 h1_0k h1_0c h0 h0_0 h0_f1 h0_0 h0_0k (upd h0_0c (x_65 : Int32).toNatClampNeg j20c_s0)) := hD
      have l_68 : (upd h0_0c (x_65 : Int32).toNatClampNeg j20c_s0) (x_65 : Int32).toNatClampNeg = j20c_s0 := pk_us
      have a_69 : AI (upd h0_0c (x_65 : Int32).toNatClampNeg j20c_s0) (-1) 9 := AI_up a_h0_0c g_j20c_s0 (by decide +kernel)
      generalize (upd h0_0c (x_65 : Int32).toNatClampNeg j20c_s0) = w_67 at hP hD a_69 l_68
      have hP : va_P (dC, dI) vwCl (wd_c_X6_readStep h1 h1_0 h1_f1 x_61 h1_f3 h1_0 h1_0k h1_0c h0 h0_0 h0_f1 h0_0 h0_0k w_67) H := hP
      have hD : va_D A (wd_c_X6_readStep h1 h1_0 h1_f1 x_61 h1_f3 h1_0 h1_0k h1_0c h0 h0_0 h0_f1 h0_0 h0_0k w_67) := hD
      refine lv_iconst (v := 1) hx hb dX6_readStep_46 kc_iconst_1 ?_
      as_aux_lemma =>
      refine lv_istore (lv' := [(5, .int 1), (4, .int j20c_s0), (0, .ref h0), (1, .ref h1), (2, .int p2)]) hx hb dX6_readStep_47 hl (Nat.le_of_ble_eq_true rfl) rfl (fun ls hl => ?_)
      exact hU _ _ _ (J49 _ 1 j20c_s0 x_61 h1_f3 w_67 (Nat.lt_succ_self _) g_h0_f1 g_h1_f1 g_h1_f2 g_h1_f3 (RG_w h_62 (by decide +kernel)) g_h1_f3 g_j20c_s0 (RG_w (RG_k 1 1 rfl) (by decide +kernel)) g_p2 a_69 _ _ _ hP hD hS (lv_sub hl [0, 1, 2, 3, 4] rfl))
    · have d_70 := Int32.not_le.mp c_59
      have g_71 : RG j20c_s0 0 (-1) := RG_lt1 g_j20c_s0 (RG_k 0 0 rfl) d_70 (by decide +kernel)
      exact RG_dead (RG_lt1 g_j20c_s0 (RG_k 0 0 rfl) d_70 (b' := (-1)) (by decide +kernel)) (by decide +kernel)
  refine hG _ _ _ ?_
  refine lv_aload_n hx hb dX6_readStep_0 rfl (lv_at hl 1 rfl) ?_
  obtain ⟨hPc, hDc, hFc, hqc⟩ := cl_cut (wc := (wd_c_X9_peek h1 h1_0 h1_f1 h1_f2 h1_f3 h1_0 h1_0k h1_0c)) hP hD hS hA [0, 1] (by decide +kernel) rfl
  have hKc := hK.sub (tys' := [(h1_0k, .int)]) [0] rfl
  have hrv := va_recv hKc hPc (ci := 9) (q0 := 0) rfl rfl
  refine va_calli (va_runV (As := []) (rest := []) ⟨hx, hb, hml, hown, hts⟩ (c_X9_peek l dC dI H.size h1 h1_0 h1_f1 h1_f2 h1_f3 h1_0k h1_0c g_h1_f1 g_h1_f2 g_h1_f3 a_h1_0c) (cwV 0 hts gf_c_X6_readStep_c_X9_peek rfl rfl rfl mdV_X9_peek ⟨Nat.le_of_ble_eq_true rfl, Nat.le_of_ble_eq_true rfl⟩) ⟨fun a U g mk q => by obtain ⟨q0, q1, qP, qK, qD⟩ := q; exact ⟨q0, q1, qP, va_K.moved (u := U) (U := U.calling g mk a) (Vm.Alike.refl U.vm) qK, qD⟩, hrv, fun U hU hW => ⟨rfl, by rw [hU], by rw [hU]; exact hPc, va_K.moved hW.alike hKc, hDc.weaken (fun _ _ _ _ => trivial)⟩⟩ rfl rfl hl.1 rfl (lv_room (Nat.le_of_ble_eq_true rfl)) dX6_readStep_1 ⟨Nat.le_of_ble_eq_true rfl, Nat.le_of_ble_eq_true rfl⟩) hS (fun q _ h => hFc q h) hFc (fun r_72 x_73 t H1 locs ht hvm hw hB hz1 hk1 hS => ?_)
  obtain ⟨hP1, hK1, hD1⟩ := hB
  rw [ht] at hP1
  obtain ⟨hP, hD⟩ := cl_put (w1 := (wd_c_X9_peek h1 h1_0 h1_f1 x_73 h1_f3 h1_0 h1_0k h1_0c)) (nw := (wd_c_X6_readStep h1 h1_0 h1_f1 x_73 h1_f3 h1_0 h1_0k h1_0c h0 h0_0 h0_f1 h0_0 h0_0k h0_0c)) hP hD [0, 1] [4, 5, 2, 3] 4 rfl hqc (by decide +kernel) rfl hk1 hFc hP1 hD1
  generalize H1 = H at hP hS ⊢
  as_aux_lemma =>
  rcases hw with ⟨h_74, h_75, h_76⟩ | ⟨h_77, h_78, h_79, h_80⟩
  · rw [h_74]
    refine lv_istore_n (lv' := [(3, .int (-1)), (0, .ref h0), (1, .ref h1), (2, .int p2)]) hx hb dX6_readStep_4 rfl hl (Nat.le_of_ble_eq_true rfl) rfl (fun ls hl => ?_)
    refine lv_iload_n hx hb dX6_readStep_5 rfl (lv_at hl 0 rfl) ?_
    refine lv_if_ge (tgt := 13) hx hb dX6_readStep_6 rfl (fun c_81 => absurd c_81 (by decide +kernel)) (fun c_81 => ?_)
    refine lv_iconst (v := (-1)) hx hb dX6_readStep_9 kc_iconst_m1 ?_
    refine lv_goto (tgt := 20) hx hb dX6_readStep_10 rfl ?_
    exact hU _ _ _ (J20 x_73 g_h0_f1 g_h1_f1 g_h1_f2 g_h1_f3 h_75 g_p2 _ _ _ hP hD hS (lv_sub hl [1, 2, 3] rfl))
  · refine lv_istore_n (lv' := [(3, .int r_72), (0, .ref h0), (1, .ref h1), (2, .int p2)]) hx hb dX6_readStep_4 rfl hl (Nat.le_of_ble_eq_true rfl) rfl (fun ls hl => ?_)
    refine lv_iload_n hx hb dX6_readStep_5 rfl (lv_at hl 0 rfl) ?_
    refine lv_if_ge (tgt := 13) hx hb dX6_readStep_6 rfl (fun c_82 => ?_) (fun c_82 => ?_)
    · refine va_ldcS hx hb hown hE_37 dX6_readStep_13 ?_
      refine lv_iload_n hx hb dX6_readStep_15 rfl (lv_at hl 0 rfl) ?_
      refine lv_i2c hx hb dX6_readStep_16 rfl ?_
      as_aux_lemma =>
      refine lv_topi (fun x_83 ex_83 => ?_)
      have g_84 : RG x_83 0 65535 := RG_i2c ex_83
      obtain ⟨hPc, hDc, hFc, hqc⟩ := cl_cut (wc := []) hP hD hS hA [] (by decide +kernel) rfl
      have hKc := hK.sub (tys' := []) [] rfl
      have hrv := bv_Orecv hE_38 hS
      refine va_calli (va_runV (As := [.int x_83]) (rest := []) ⟨hx, hb, hml, hown, hts⟩ (c_J0_indexOf_0f7a4_5 l dC dI H.size ts5 x_83 tv5 g_84) (cwV 1 hts gf_c_X6_readStep_c_J0_indexOf_0f7a4_5 rfl rfl rfl mdV_J0_indexOf_0f7a4 ⟨Nat.le_of_ble_eq_true rfl, Nat.le_of_ble_eq_true rfl⟩) ⟨fun a U g mk q => by obtain ⟨q0, q1, qP, qK, qD, qE0, qE1, qE2, qE3, qE4⟩ := q; exact ⟨q0, q1, qP, va_K.moved (u := U) (U := U.calling g mk a) (Vm.Alike.refl U.vm) qK, qD, va_Z.moved (u := U) (U := U.calling g mk a) (Vm.Alike.refl U.vm) qE0, va_OF.moved (u := U) (U := U.calling g mk a) (Vm.Alike.refl U.vm) qE1, va_O.moved (u := U) (U := U.calling g mk a) (Vm.Alike.refl U.vm) qE2, va_OF.moved (u := U) (U := U.calling g mk a) (Vm.Alike.refl U.vm) qE3, va_T.moved (u := U) (U := U.calling g mk a) (Vm.Alike.refl U.vm) qE4⟩, hrv, fun U hU hW => ⟨rfl, by rw [hU], by rw [hU]; exact hPc, va_K.moved hW.alike hKc, hDc.weaken (fun _ _ _ _ => trivial), va_Z.moved hW.alike (by rw [hU]; exact (hE_10.kept hS.2.1).narrow hFc), va_OF.moved hW.alike (by rw [hU]; exact (hE_39.kept hS.2.1).narrow hFc), va_O.moved hW.alike (by rw [hU]; exact (hE_38.kept hS.2.1).narrow hFc), va_OF.moved hW.alike (by rw [hU]; exact (hE_40.kept hS.2.1).narrow hFc), va_T.moved hW.alike (by rw [hU]; exact (hE_41.kept hS.2.1).narrow hFc)⟩⟩ rfl rfl hl.1 rfl (lv_room (Nat.le_of_ble_eq_true rfl)) dX6_readStep_17 ⟨Nat.le_of_ble_eq_true rfl, Nat.le_of_ble_eq_true rfl⟩) hS (fun q _ h => hFc q h) hFc (fun r_85 u t H1 locs ht hvm hw hB hz1 hk1 hS => ?_)
      obtain ⟨hP1, hK1, hD1⟩ := hB
      rw [ht] at hP1
      have hP := bv_still hP hk1
      generalize H1 = H at hP hS ⊢
      as_aux_lemma =>
      rcases hw with h_86 | ⟨h_87, h_88⟩
      · rw [h_86]
        exact hU _ _ _ (J20b x_73 g_h0_f1 h_79 g_h1_f2 g_h1_f3 h_78 g_p2 _ _ _ hP hD hS (lv_sub hl [1, 2, 3] rfl))
      · exact hU _ _ _ (J20c r_85 x_73 g_h0_f1 h_79 g_h1_f2 g_h1_f3 h_78 h_87 g_p2 _ _ _ hP hD hS (lv_sub hl [1, 2, 3] rfl))
    · have d_89 := Int32.not_le.mp c_82
      have g_90 : RG r_72 0 (-1) := RG_lt1 h_77 (RG_k 0 0 rfl) d_89 (by decide +kernel)
      exact RG_dead (RG_lt1 h_77 (RG_k 0 0 rfl) d_89 (b' := (-1)) (by decide +kernel)) (by decide +kernel)
