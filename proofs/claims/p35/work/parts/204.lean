def wd_c_X4_readCondition_5 (a0 : Nat) (a1 : Nat) (a2 : Int32) (a3 : Int32) (a4 : Int32) (a5 : Nat) (a6 : ClassId) (a7 : Nat → Int32) (a8 : Nat) (a9 : Nat) (a10 : Int32) (a11 : Nat) (a12 : Nat) (a13 : ClassId) (a14 : Nat → Int32) : va_W := [(a0, .inr (9, [.ref a1, .int a2, .int a3, .int a4])), (a5, .inl (a6, 240, .inl a7)), (a8, .inr (4, [.ref a9, .int a10, .ref a11])), (a12, .inl (a13, 240, .inl a14))]
def wf_c_X4_readCondition_5 : List Cond := .code yX4_readCondition cX4_readCondition 7 none :: ([.methodLink RX4 72 yX9_isRight, .instanceMethod yX9_isRight, .selects RX9 yX9_isRight yX9_isRight, .initialized RX9, .code yX9_isRight cX9_isRight 1 (some .boolean), .fieldLink RX9 15 "BuoyVote$Tape" "wrong" "I", .methodLink RX4 76 yX4_readUnit, .instanceMethod yX4_readUnit, .selects RX4 yX4_readUnit yX4_readUnit, .initialized RX4, .code yX4_readUnit cX4_readUnit 5 none, .methodLink RX4 41 yX9_peek, .instanceMethod yX9_peek, .selects RX9 yX9_peek yX9_peek, .code yX9_peek cX9_peek 1 (some .int), .fieldLink RX9 22 "BuoyVote$Tape" "at" "I", .fieldLink RX9 19 "BuoyVote$Tape" "length" "I", .fieldLink RX9 11 "BuoyVote$Tape" "bytes" "[I", .methodLink RX4 45 yX4_startsUnit, .static yX4_startsUnit, .code yX4_startsUnit cX4_startsUnit 1 (some .boolean), .methodLink RX4 63 yX9_take, .instanceMethod yX9_take, .selects RX9 yX9_take yX9_take, .code yX9_take cX9_take 2 (some .boolean), .methodLink RX9 29 yX9_peek, .methodLink RX4 37 yX9_expect, .instanceMethod yX9_expect, .selects RX9 yX9_expect yX9_expect, .code yX9_expect cX9_expect 2 none, .methodLink RX9 25 yX9_refuse, .instanceMethod yX9_refuse, .selects RX9 yX9_refuse yX9_refuse, .code yX9_refuse cX9_refuse 2 none, .methodLink RX4 56 yX4_readCondition, .instanceMethod yX4_readCondition, .selects RX4 yX4_readCondition yX4_readCondition, .methodLink RX4 82 yX9_refuseHere, .instanceMethod yX9_refuseHere, .selects RX9 yX9_refuseHere yX9_refuseHere, .code yX9_refuseHere cX9_refuseHere 1 none, .methodLink RX4 49 yX4_readSum, .instanceMethod yX4_readSum, .selects RX4 yX4_readSum yX4_readSum, .code yX4_readSum cX4_readSum 6 none, .methodLink RX4 85 yX4_readAtom, .instanceMethod yX4_readAtom, .selects RX4 yX4_readAtom yX4_readAtom, .code yX4_readAtom cX4_readAtom 6 none, .methodLink RX4 93 yJ0_indexOf_0f7a4, .instanceMethod yJ0_indexOf_0f7a4, .selects RJ0 yJ0_indexOf_0f7a4 yJ0_indexOf_0f7a4, .initialized RJ0, .code yJ0_indexOf_0f7a4 cJ0_indexOf_0f7a4 2 (some .int), .methodLink RJ0 633 yJ0_indexOf_7cf53, .instanceMethod yJ0_indexOf_7cf53, .selects RJ0 yJ0_indexOf_7cf53 yJ0_indexOf_7cf53, .code yJ0_indexOf_7cf53 cJ0_indexOf_7cf53 3 (some .int), .methodLink RJ0 492 yJ0_isLatin1_aae02, .instanceMethod yJ0_isLatin1_aae02, .selects RJ0 yJ0_isLatin1_aae02 yJ0_isLatin1_aae02, .code yJ0_isLatin1_aae02 cJ0_isLatin1_aae02 1 (some .boolean), .fieldLink RJ0 38 "java/lang/String" "COMPACT_STRINGS" "Z", .fieldLink RJ0 15 "java/lang/String" "coder" "B", .fieldLink RJ0 9 "java/lang/String" "value" "[B", .methodLink RJ0 505 yJ0_length_8abf5, .instanceMethod yJ0_length_8abf5, .selects RJ0 yJ0_length_8abf5 yJ0_length_8abf5, .code yJ0_length_8abf5 cJ0_length_8abf5 1 (some .int), .methodLink RJ0 335 yJ0_coder_7d493, .instanceMethod yJ0_coder_7d493, .selects RJ0 yJ0_coder_7d493 yJ0_coder_7d493, .code yJ0_coder_7d493 cJ0_coder_7d493 1 (some .byte), .methodLink RJ0 637 yJ1_indexOf_4cfef, .static yJ1_indexOf_4cfef, .initialized RJ1, .code yJ1_indexOf_4cfef cJ1_indexOf_4cfef 4 (some .int), .methodLink RJ1 88 yJ1_canEncode_9a6ad, .static yJ1_canEncode_9a6ad, .code yJ1_canEncode_9a6ad cJ1_canEncode_9a6ad 1 (some .boolean), .methodLink RJ1 92 Lib.Math.max.name, .static Lib.Math.max.name, .initialized "java/lang/Math", .code Lib.Math.max.name Lib.Math.max.code 2 (some .int), .methodLink RJ1 38 Lib.Math.min.name, .static Lib.Math.min.name, .code Lib.Math.min.name Lib.Math.min.code 2 (some .int), .methodLink RJ1 95 yJ1_indexOfChar_4cfef, .static yJ1_indexOfChar_4cfef, .code yJ1_indexOfChar_4cfef cJ1_indexOfChar_4cfef 6 (some .int), .methodLink RX4 99 yX9_number, .instanceMethod yX9_number, .selects RX9 yX9_number yX9_number, .code yX9_number cX9_number 4 (some .int), .methodLink RX4 79 yX9_skip, .instanceMethod yX9_skip, .selects RX9 yX9_skip yX9_skip, .code yX9_skip cX9_skip 1 none, .methodLink RX4 60 yX4_emit, .instanceMethod yX4_emit, .selects RX4 yX4_emit yX4_emit, .code yX4_emit cX4_emit 2 none, .fieldLink RX4 20 "BuoyVote$Law" "length" "I", .fieldLink RX4 11 "BuoyVote$Law" "code" "[I", .methodLink RX4 88 yX9_takeEither, .instanceMethod yX9_takeEither, .selects RX9 yX9_takeEither yX9_takeEither, .code yX9_takeEither cX9_takeEither 4 (some .int), .methodLink RX4 53 yX4_isComparison, .static yX4_isComparison, .code yX4_isComparison cX4_isComparison 1 (some .boolean)] ++ wsX90 ++ wsX40)
theorem iw_c_X4_readCondition_5_X9 : ∀ w ∈ wsX90, w ∈ wf_c_X4_readCondition_5 := fun w h => List.mem_cons_of_mem _ (List.mem_append_left _ (List.mem_append_right _ h))
theorem iw_c_X4_readCondition_5_X4 : ∀ w ∈ wsX40, w ∈ wf_c_X4_readCondition_5 := fun w h => List.mem_cons_of_mem _ (List.mem_append_right _ h)
set_option maxRecDepth 20000 in
theorem gf_c_X4_readCondition_5_c_X9_take_1 : GoodIn wf_c_X4_readCondition_5 (wsV RX4 63 RX9 yX9_take wf_c_X9_take_1) := goodIn_app (gi_cons (j := 22) rfl rfl (gi_cons (j := 23) rfl rfl (gi_cons (j := 24) rfl rfl (gi_cons (j := 4) rfl rfl (gi_nil))))) (gi_cons (j := 25) rfl rfl (goodIn_app (gi_cons (j := 6) rfl rfl (gi_cons (j := 26) rfl rfl (gi_cons (j := 13) rfl rfl (gi_cons (j := 14) rfl rfl (gi_cons (j := 4) rfl rfl (gi_cons (j := 15) rfl rfl (gi_cons (j := 16) rfl rfl (gi_cons (j := 17) rfl rfl (gi_cons (j := 18) rfl rfl (gi_nil)))))))))) (goodIn_sub iw_c_X4_readCondition_5_X9 gw_X9)))
set_option maxRecDepth 20000 in
theorem gf_c_X4_readCondition_5_c_X9_take : GoodIn wf_c_X4_readCondition_5 (wsV RX4 63 RX9 yX9_take wf_c_X9_take) := goodIn_app (gi_cons (j := 22) rfl rfl (gi_cons (j := 23) rfl rfl (gi_cons (j := 24) rfl rfl (gi_cons (j := 4) rfl rfl (gi_nil))))) (gi_cons (j := 25) rfl rfl (goodIn_app (gi_cons (j := 6) rfl rfl (gi_cons (j := 26) rfl rfl (gi_cons (j := 13) rfl rfl (gi_cons (j := 14) rfl rfl (gi_cons (j := 4) rfl rfl (gi_cons (j := 15) rfl rfl (gi_cons (j := 16) rfl rfl (gi_cons (j := 17) rfl rfl (gi_cons (j := 18) rfl rfl (gi_nil)))))))))) (goodIn_sub iw_c_X4_readCondition_5_X9 gw_X9)))
set_option maxRecDepth 20000 in
theorem gf_c_X4_readCondition_5_c_X4_emit : GoodIn wf_c_X4_readCondition_5 (wsV RX4 60 RX4 yX4_emit wf_c_X4_emit) := goodIn_app (gi_cons (j := 99) rfl rfl (gi_cons (j := 100) rfl rfl (gi_cons (j := 101) rfl rfl (gi_cons (j := 10) rfl rfl (gi_nil))))) (gi_cons (j := 102) rfl rfl (goodIn_app (gi_cons (j := 103) rfl rfl (gi_cons (j := 104) rfl rfl (gi_nil))) (goodIn_sub iw_c_X4_readCondition_5_X4 gw_X4)))
set_option maxRecDepth 20000 in
theorem gf_c_X4_readCondition_5_c_X4_readUnit_6 : GoodIn wf_c_X4_readCondition_5 (wsV RX4 76 RX4 yX4_readUnit wf_c_X4_readUnit_6) := goodIn_app (gi_cons (j := 7) rfl rfl (gi_cons (j := 8) rfl rfl (gi_cons (j := 9) rfl rfl (gi_cons (j := 10) rfl rfl (gi_nil))))) (gi_cons (j := 11) rfl rfl (goodIn_app (goodIn_app (gi_cons (j := 12) rfl rfl (gi_cons (j := 13) rfl rfl (gi_cons (j := 14) rfl rfl (gi_cons (j := 4) rfl rfl (gi_cons (j := 15) rfl rfl (gi_cons (j := 16) rfl rfl (gi_cons (j := 17) rfl rfl (gi_cons (j := 18) rfl rfl (gi_cons (j := 19) rfl rfl (gi_cons (j := 20) rfl rfl (gi_cons (j := 10) rfl rfl (gi_cons (j := 21) rfl rfl (gi_cons (j := 22) rfl rfl (gi_cons (j := 23) rfl rfl (gi_cons (j := 24) rfl rfl (gi_cons (j := 25) rfl rfl (gi_cons (j := 6) rfl rfl (gi_cons (j := 26) rfl rfl (gi_cons (j := 27) rfl rfl (gi_cons (j := 28) rfl rfl (gi_cons (j := 29) rfl rfl (gi_cons (j := 30) rfl rfl (gi_cons (j := 31) rfl rfl (gi_cons (j := 32) rfl rfl (gi_cons (j := 33) rfl rfl (gi_cons (j := 34) rfl rfl (gi_cons (j := 35) rfl rfl (gi_cons (j := 36) rfl rfl (gi_cons (j := 37) rfl rfl (gi_cons (j := 0) rfl rfl (gi_cons (j := 1) rfl rfl (gi_cons (j := 2) rfl rfl (gi_cons (j := 3) rfl rfl (gi_cons (j := 5) rfl rfl (gi_cons (j := 7) rfl rfl (gi_cons (j := 8) rfl rfl (gi_cons (j := 9) rfl rfl (gi_cons (j := 38) rfl rfl (gi_cons (j := 39) rfl rfl (gi_cons (j := 40) rfl rfl (gi_cons (j := 41) rfl rfl (gi_cons (j := 42) rfl rfl (gi_cons (j := 43) rfl rfl (gi_cons (j := 44) rfl rfl (gi_cons (j := 45) rfl rfl (gi_cons (j := 46) rfl rfl (gi_cons (j := 47) rfl rfl (gi_cons (j := 48) rfl rfl (gi_cons (j := 49) rfl rfl (gi_cons (j := 50) rfl rfl (gi_cons (j := 51) rfl rfl (gi_cons (j := 52) rfl rfl (gi_cons (j := 53) rfl rfl (gi_cons (j := 54) rfl rfl (gi_cons (j := 55) rfl rfl (gi_cons (j := 56) rfl rfl (gi_cons (j := 57) rfl rfl (gi_cons (j := 58) rfl rfl (gi_cons (j := 59) rfl rfl (gi_cons (j := 60) rfl rfl (gi_cons (j := 61) rfl rfl (gi_cons (j := 62) rfl rfl (gi_cons (j := 63) rfl rfl (gi_cons (j := 64) rfl rfl (gi_cons (j := 65) rfl rfl (gi_cons (j := 66) rfl rfl (gi_cons (j := 67) rfl rfl (gi_cons (j := 68) rfl rfl (gi_cons (j := 69) rfl rfl (gi_cons (j := 70) rfl rfl (gi_cons (j := 71) rfl rfl (gi_cons (j := 72) rfl rfl (gi_cons (j := 73) rfl rfl (gi_cons (j := 74) rfl rfl (gi_cons (j := 75) rfl rfl (gi_cons (j := 76) rfl rfl (gi_cons (j := 77) rfl rfl (gi_cons (j := 78) rfl rfl (gi_cons (j := 79) rfl rfl (gi_cons (j := 80) rfl rfl (gi_cons (j := 81) rfl rfl (gi_cons (j := 82) rfl rfl (gi_cons (j := 83) rfl rfl (gi_cons (j := 84) rfl rfl (gi_cons (j := 85) rfl rfl (gi_cons (j := 86) rfl rfl (gi_cons (j := 87) rfl rfl (gi_cons (j := 88) rfl rfl (gi_cons (j := 89) rfl rfl (gi_cons (j := 90) rfl rfl (gi_cons (j := 91) rfl rfl (gi_cons (j := 92) rfl rfl (gi_cons (j := 93) rfl rfl (gi_cons (j := 94) rfl rfl (gi_cons (j := 95) rfl rfl (gi_cons (j := 96) rfl rfl (gi_cons (j := 97) rfl rfl (gi_cons (j := 98) rfl rfl (gi_cons (j := 99) rfl rfl (gi_cons (j := 100) rfl rfl (gi_cons (j := 101) rfl rfl (gi_cons (j := 102) rfl rfl (gi_cons (j := 103) rfl rfl (gi_cons (j := 104) rfl rfl (gi_cons (j := 105) rfl rfl (gi_cons (j := 106) rfl rfl (gi_cons (j := 107) rfl rfl (gi_cons (j := 108) rfl rfl (gi_cons (j := 109) rfl rfl (gi_cons (j := 110) rfl rfl (gi_cons (j := 111) rfl rfl (gi_nil)))))))))))))))))))))))))))))))))))))))))))))))))))))))))))))))))))))))))))))))))))))))))))))))))))))))))))))))) (goodIn_sub iw_c_X4_readCondition_5_X9 gw_X9)) (goodIn_sub iw_c_X4_readCondition_5_X4 gw_X4)))
set_option maxRecDepth 20000 in
theorem gf_c_X4_readCondition_5_c_X9_isRight : GoodIn wf_c_X4_readCondition_5 (wsV RX4 72 RX9 yX9_isRight wf_c_X9_isRight) := goodIn_app (gi_cons (j := 1) rfl rfl (gi_cons (j := 2) rfl rfl (gi_cons (j := 3) rfl rfl (gi_cons (j := 4) rfl rfl (gi_nil))))) (gi_cons (j := 5) rfl rfl (goodIn_app (gi_cons (j := 6) rfl rfl (gi_nil)) (goodIn_sub iw_c_X4_readCondition_5_X9 gw_X9)))
set_option maxHeartbeats 4000000 in
set_option maxRecDepth 100000 in
theorem c_X4_readCondition_5 (l : Launch) (dC : Nat → ClassId) (dI : Nat → Nat → Nat) (sz : Nat) (h0 : Nat) (h1 : Nat) (h1_0 : Nat) (h1_f1 : Int32) (h1_f2 : Int32) (h1_f3 : Int32) (h1_0k : ClassId) (h1_0c : Nat → Int32) (h0_0 : Nat) (h0_f1 : Int32) (h0_2 : Nat) (h0_0k : ClassId) (h0_0c : Nat → Int32) (ts4 : Nat) (tv4 : Nat) (g_h1_f1 : RG h1_f1 0 240) (g_h1_f2 : RG h1_f2 0 240) (g_h1_f3 : RG h1_f3 (-1) 240) (a_h1_0c : AI h1_0c 0 255) (g_h0_f1 : RG h0_f1 0 240) : Met l yX4_readCondition wf_c_X4_readCondition_5 ({ frames := 9, cells := 0, slots := 0, locals := 215 }) (va_Pc [.ref h0, .ref h1, .int 5, .int 0] (fun U => U.heap.size = sz ∧ va_P (dC, dI) vwCl (wd_c_X4_readCondition_5 h1 h1_0 h1_f1 h1_f2 h1_f3 h1_0 h1_0k h1_0c h0 h0_0 h0_f1 h0_2 h0_0 h0_0k h0_0c) U.heap ∧ va_K (dC, dI) vwCl [(h1_0k, .int), (h0_0k, .int)] U ∧ va_D (fun _ => True) (wd_c_X4_readCondition_5 h1 h1_0 h1_f1 h1_f2 h1_f3 h1_0 h1_0k h1_0c h0 h0_0 h0_f1 h0_2 h0_0 h0_0k h0_0c) ∧ vk_R RX4 91 "vlrdph" ts4 U ∧ va_Z "java/lang/String" "COMPACT_STRINGS" "Z" (.int 1) (va_A (wd_c_X4_readCondition_5 h1 h1_0 h1_f1 h1_f2 h1_f3 h1_0 h1_0k h1_0c h0 h0_0 h0_f1 h0_2 h0_0 h0_0k h0_0c) sz) U U.heap ∧ va_OF "java/lang/String" "coder" "B" (.int 0) ts4 (va_A (wd_c_X4_readCondition_5 h1 h1_0 h1_f1 h1_f2 h1_f3 h1_0 h1_0k h1_0c h0 h0_0 h0_f1 h0_2 h0_0 h0_0k h0_0c) sz) U U.heap ∧ va_O "java/lang/String" ts4 (va_A (wd_c_X4_readCondition_5 h1 h1_0 h1_f1 h1_f2 h1_f3 h1_0 h1_0k h1_0c h0 h0_0 h0_f1 h0_2 h0_0 h0_0k h0_0c) sz) U U.heap ∧ va_OF "java/lang/String" "value" "[B" (.ref tv4) ts4 (va_A (wd_c_X4_readCondition_5 h1 h1_0 h1_f1 h1_f2 h1_f3 h1_0 h1_0k h1_0c h0 h0_0 h0_f1 h0_2 h0_0 h0_0k h0_0c) sz) U U.heap ∧ va_T .byte tv4 6 (fun j => .int ([118, 108, 114, 100, 112, 104].getD j 0)) (va_A (wd_c_X4_readCondition_5 h1 h1_0 h1_f1 h1_f2 h1_f3 h1_0 h1_0k h1_0c h0 h0_0 h0_f1 h0_2 h0_0 h0_0k h0_0c) sz) U U.heap)) (va_Qv (fun (u : (Int32) × (Int32) × (Int32) × (Nat → Int32)) => (RG u.1 0 240 ∧ RG u.2.1 (-1) 240 ∧ RG u.2.2.1 0 240)) (fun (u : (Int32) × (Int32) × (Int32) × (Nat → Int32)) t => va_P (dC, dI) vwCl (wd_c_X4_readCondition_5 h1 h1_0 h1_f1 (u.1) (u.2.1) h1_0 h1_0k h1_0c h0 h0_0 (u.2.2.1) h0_2 h0_0 h0_0k (u.2.2.2)) t.heap ∧ va_K (dC, dI) vwCl [] t ∧ va_D (va_A (wd_c_X4_readCondition_5 h1 h1_0 h1_f1 h1_f2 h1_f3 h1_0 h1_0k h1_0c h0 h0_0 h0_f1 h0_2 h0_0 h0_0k h0_0c) sz) (wd_c_X4_readCondition_5 h1 h1_0 h1_f1 (u.1) (u.2.1) h1_0 h1_0k h1_0c h0 h0_0 (u.2.2.1) h0_2 h0_0 h0_0k (u.2.2.2))) (va_A (wd_c_X4_readCondition_5 h1 h1_0 h1_f1 h1_f2 h1_f3 h1_0 h1_0k h1_0c h0 h0_0 h0_f1 h0_2 h0_0 h0_0k h0_0c) sz)) 0 0 (va_A (wd_c_X4_readCondition_5 h1 h1_0 h1_f1 h1_f2 h1_f3 h1_0 h1_0k h1_0c h0 h0_0 h0_f1 h0_2 h0_0 h0_0k h0_0c) sz) := by
  refine Met.ofW (cc := cX4_readCondition) (maxL := 7) (ret := none) (by decide) rfl ?_
  intro p e s m args below meth c s₁ B hml hv
  obtain ⟨rfl, hsz, hP, hK, hD0, hE_32, hE_10, hE_34, hE_33, hE_35, hE_36⟩ := hv
  have hx := B.exec
  have hb := B.bytes
  have hr := B.returns
  have hts := atoms_spec (ws := wf_c_X4_readCondition_5) B.pre
  have hown : s.vm.findClass RX4 = some m.cls := findClass_of_methodNamed B.named
  have hlocks := B.notSynchronized
  subst hsz
  have hD := hD0.self (sz := s.heap.size)
  generalize hAe : va_A (wd_c_X4_readCondition_5 h1 h1_0 h1_f1 h1_f2 h1_f3 h1_0 h1_0k h1_0c h0 h0_0 h0_f1 h0_2 h0_0 h0_0k h0_0c) s.heap.size = A at hD hE_10 hE_34 hE_33 hE_35 hE_36 ⊢
  have hA : ∀ q : Nat, s.heap.size ≤ q → A q := fun q h => by rw [← hAe]; exact Or.inr h
  have hP : va_P (dC, dI) vwCl (wd_c_X4_readCondition_5 h1 h1_0 h1_f1 h1_f2 h1_f3 h1_0 h1_0k h1_0c h0 h0_0 h0_f1 h0_2 h0_0 h0_0k h0_0c) s.heap := hP
  have hl := lv_entry ([.ref h0, .ref h1, .int 5, .int 0]) (n := 7) (Nat.le_of_ble_eq_true rfl)
  rw [lg_entry_eq]
  generalize (lg_sl ([.ref h0, .ref h1, .int 5, .int 0]) ++ List.replicate (7 - (lg_sl ([.ref h0, .ref h1, .int 5, .int 0])).length) Slot.unset).toArray = ls at hl ⊢
  have hl : lv_has ls 7 [(0, .ref h0), (1, .ref h1), (2, .int 5), (3, .int 0)] := hl
  obtain ⟨H, hHe⟩ : ∃ H : Heap, s.heap = H := ⟨_, rfl⟩
  have hS : va_S A s.heap H [] := by rw [hHe]; exact va_S.rf
  have hP : va_P (dC, dI) vwCl (wd_c_X4_readCondition_5 h1 h1_0 h1_f1 h1_f2 h1_f3 h1_0 h1_0k h1_0c h0 h0_0 h0_f1 h0_2 h0_0 h0_0k h0_0c) H := by rw [← hHe]; exact hP
  rw [hHe]
  refine wj (fun G hG hU => ?_)
  have J9 : ∀ (n9 : Nat) (j9_l6 : Int32) (j9_l5 : Int32) (j9_l4 : Int32) (j9_h1_f2 : Int32) (j9_h1_f3 : Int32) (j9_h0_f1 : Int32) (j9_h0_0c : Nat → Int32) (hM9 : MU j9_l6 < n9) (g_h0_f1 : RG h0_f1 0 240) (g_h1_f1 : RG h1_f1 0 240) (g_h1_f2 : RG h1_f2 0 240) (g_h1_f3 : RG h1_f3 (-1) 240) (g_j9_h0_f1 : RG j9_h0_f1 0 240) (g_j9_h1_f2 : RG j9_h1_f2 0 240) (g_j9_h1_f3 : RG j9_h1_f3 (-1) 240) (g_j9_l4 : RG j9_l4 0 1) (g_j9_l5 : RG j9_l5 0 1) (g_j9_l6 : RG j9_l6 0 240) (H : Heap) (locs : List Loc) (ls : Array Slot) (hP : va_P (dC, dI) vwCl (wd_c_X4_readCondition_5 h1 h1_0 h1_f1 j9_h1_f2 j9_h1_f3 h1_0 h1_0k h1_0c h0 h0_0 j9_h0_f1 h0_2 h0_0 h0_0k j9_h0_0c) H) (hD : va_D A (wd_c_X4_readCondition_5 h1 h1_0 h1_f1 j9_h1_f2 j9_h1_f3 h1_0 h1_0k h1_0c h0 h0_0 j9_h0_f1 h0_2 h0_0 h0_0k j9_h0_0c)) (hS : va_S A s.heap H locs) (hl : lv_has ls 7 [(6, .int j9_l6), (5, .int j9_l5), (4, .int j9_l4), (0, .ref h0), (1, .ref h1), (2, .int 5), (3, .int 0)]), G H locs (F0 m 9 ls []) := by
    intro n9
    induction n9 with
    | zero => intros; exact absurd (by assumption) (Nat.not_lt_zero _)
    | succ n9 ih9 =>
      intro j9_l6 j9_l5 j9_l4 j9_h1_f2 j9_h1_f3 j9_h0_f1 j9_h0_0c hM9 g_h0_f1 g_h1_f1 g_h1_f2 g_h1_f3 g_j9_h0_f1 g_j9_h1_f2 g_j9_h1_f3 g_j9_l4 g_j9_l5 g_j9_l6 H locs ls hP hD hS hl
      have J93 : ∀ (j93_l4 : Int32) (j93_l5 : Int32) (j93_h1_f2 : Int32) (j93_h1_f3 : Int32) (j93_h0_f1 : Int32) (j93_h0_0c : Nat → Int32) (g_h0_f1 : RG h0_f1 0 240) (g_h1_f1 : RG h1_f1 1 240) (g_h1_f2 : RG h1_f2 0 240) (g_h1_f3 : RG h1_f3 (-1) 240) (g_j93_h0_f1 : RG j93_h0_f1 0 240) (g_j93_h1_f2 : RG j93_h1_f2 1 240) (g_j93_h1_f3 : RG j93_h1_f3 (-1) (-1)) (g_j93_l4 : RG j93_l4 0 1) (g_j93_l5 : RG j93_l5 0 1) (g_j9_h0_f1 : RG j9_h0_f1 0 240) (g_j9_h1_f2 : RG j9_h1_f2 0 240) (g_j9_h1_f3 : RG j9_h1_f3 (-1) (-1)) (g_j9_l4 : RG j9_l4 0 1) (g_j9_l5 : RG j9_l5 0 1) (g_j9_l6 : RG j9_l6 0 239) (H : Heap) (locs : List Loc) (ls : Array Slot) (hP : va_P (dC, dI) vwCl (wd_c_X4_readCondition_5 h1 h1_0 h1_f1 j93_h1_f2 j93_h1_f3 h1_0 h1_0k h1_0c h0 h0_0 j93_h0_f1 h0_2 h0_0 h0_0k j93_h0_0c) H) (hD : va_D A (wd_c_X4_readCondition_5 h1 h1_0 h1_f1 j93_h1_f2 j93_h1_f3 h1_0 h1_0k h1_0c h0 h0_0 j93_h0_f1 h0_2 h0_0 h0_0k j93_h0_0c)) (hS : va_S A s.heap H locs) (hl : lv_has ls 7 [(4, .int j93_l4), (6, .int j9_l6), (5, .int j93_l5), (0, .ref h0), (1, .ref h1), (2, .int 5), (3, .int 0)]), G H locs (F0 m 93 ls []) := by
        intro j93_l4 j93_l5 j93_h1_f2 j93_h1_f3 j93_h0_f1 j93_h0_0c g_h0_f1 g_h1_f1 g_h1_f2 g_h1_f3 g_j93_h0_f1 g_j93_h1_f2 g_j93_h1_f3 g_j93_l4 g_j93_l5 g_j9_h0_f1 g_j9_h1_f2 g_j9_h1_f3 g_j9_l4 g_j9_l5 g_j9_l6 H locs ls hP hD hS hl
        refine hG _ _ _ ?_
        obtain ⟨x_1, ex_1⟩ : ∃ y : Int32, y = j9_l6 + 1 := ⟨_, rfl⟩
        have g_2 : RG x_1 1 240 := RG_add ex_1 g_j9_l6 (RG_k 1 1 rfl) (by decide)
        refine lv_iinc (v := x_1) (lv' := [(6, .int x_1), (4, .int j93_l4), (5, .int j93_l5), (0, .ref h0), (1, .ref h1), (2, .int 5), (3, .int 0)]) hx hb dX4_readCondition_93 hl (k := 1) rfl (by rw [ex_1]; rfl) (Nat.le_of_ble_eq_true rfl) rfl (fun ls hl => ?_)
        refine lv_goto (tgt := 9) hx hb dX4_readCondition_96 rfl ?_
        exact hU _ _ _ (ih9 x_1 j93_l5 j93_l4 j93_h1_f2 j93_h1_f3 j93_h0_f1 j93_h0_0c (mu_s (MU_add ex_1 g_j9_l6 (q := 1) rfl (by decide)) hM9) g_h0_f1 (RG_w g_h1_f1 (by decide)) g_h1_f2 g_h1_f3 g_j93_h0_f1 (RG_w g_j93_h1_f2 (by decide)) (RG_w g_j93_h1_f3 (by decide)) g_j93_l4 g_j93_l5 (RG_w g_2 (by decide)) _ _ _ hP hD hS (lv_sub hl [0, 2, 1, 3, 4, 5, 6] rfl))
      have J79 : ∀ (j79_h1_f2 : Int32) (j79_h1_f3 : Int32) (j79_h0_f1 : Int32) (j79_h0_0c : Nat → Int32) (g_h0_f1 : RG h0_f1 0 240) (g_h1_f1 : RG h1_f1 0 240) (g_h1_f2 : RG h1_f2 0 240) (g_h1_f3 : RG h1_f3 (-1) 240) (g_j79_h0_f1 : RG j79_h0_f1 0 240) (g_j79_h1_f2 : RG j79_h1_f2 0 240) (g_j79_h1_f3 : RG j79_h1_f3 (-1) 240) (g_j9_h0_f1 : RG j9_h0_f1 0 240) (g_j9_h1_f2 : RG j9_h1_f2 0 240) (g_j9_h1_f3 : RG j9_h1_f3 (-1) (-1)) (g_j9_l4 : RG j9_l4 0 1) (g_j9_l5 : RG j9_l5 0 1) (g_j9_l6 : RG j9_l6 0 239) (H : Heap) (locs : List Loc) (ls : Array Slot) (hP : va_P (dC, dI) vwCl (wd_c_X4_readCondition_5 h1 h1_0 h1_f1 j79_h1_f2 j79_h1_f3 h1_0 h1_0k h1_0c h0 h0_0 j79_h0_f1 h0_2 h0_0 h0_0k j79_h0_0c) H) (hD : va_D A (wd_c_X4_readCondition_5 h1 h1_0 h1_f1 j79_h1_f2 j79_h1_f3 h1_0 h1_0k h1_0c h0 h0_0 j79_h0_f1 h0_2 h0_0 h0_0k j79_h0_0c)) (hS : va_S A s.heap H locs) (hl : lv_has ls 7 [(4, .int 0), (6, .int j9_l6), (0, .ref h0), (1, .ref h1), (2, .int 5), (3, .int 0)]), G H locs (F0 m 79 ls []) := by
        intro j79_h1_f2 j79_h1_f3 j79_h0_f1 j79_h0_0c g_h0_f1 g_h1_f1 g_h1_f2 g_h1_f3 g_j79_h0_f1 g_j79_h1_f2 g_j79_h1_f3 g_j9_h0_f1 g_j9_h1_f2 g_j9_h1_f3 g_j9_l4 g_j9_l5 g_j9_l6 H locs ls hP hD hS hl
        refine hG _ _ _ ?_
        refine lv_aload_n hx hb dX4_readCondition_79 rfl (lv_at hl 3 rfl) ?_
        refine lv_bipush (v := 124) hx hb dX4_readCondition_80 kc_bipush_124 ?_
        have hPc := hP.sub (ws' := (wd_c_X9_take_1 h1 h1_0 h1_f1 j79_h1_f2 j79_h1_f3 h1_0 h1_0k h1_0c)) [0, 1] rfl
        have hDc := hD.sub (ws' := (wd_c_X9_take_1 h1 h1_0 h1_f1 j79_h1_f2 j79_h1_f3 h1_0 h1_0k h1_0c)) [0, 1] (by decide) rfl
        have hKc := hK.sub (tys' := [(h1_0k, .int)]) [0] rfl
        have hFc := va_free (wc := (wd_c_X9_take_1 h1 h1_0 h1_f1 j79_h1_f2 j79_h1_f3 h1_0 h1_0k h1_0c)) hD hS hA [0, 1] rfl
        refine va_calli (va_runV (As := [.int 124]) (rest := []) ⟨hx, hb, hml, hown, hts⟩ (c_X9_take_1 l dC dI H.size h1 124 h1_0 h1_f1 j79_h1_f2 j79_h1_f3 h1_0k h1_0c (RG_w (RG_k 124 124 rfl) (by decide)) g_h1_f1 g_j79_h1_f2 g_j79_h1_f3 a_h1_0c) (cwV 1 hts gf_c_X4_readCondition_5_c_X9_take_1 rfl rfl rfl (by decide +kernel) ⟨Nat.le_of_ble_eq_true rfl, Nat.le_of_ble_eq_true rfl⟩) ⟨fun a U g mk q => by obtain ⟨q0, q1, qP, qK, qD⟩ := q; exact ⟨q0, q1, qP, va_K.moved (u := U) (U := U.calling g mk a) (Vm.Alike.refl U.vm) qK, qD⟩, va_recv hKc hPc (ci := 9) (q0 := 0) rfl rfl, fun U hU hW => ⟨rfl, by rw [hU], by rw [hU]; exact hPc, va_K.moved hW.alike hKc, hDc.weaken (fun _ _ _ _ => trivial)⟩⟩ rfl rfl hl.1 rfl (lv_room (Nat.le_of_ble_eq_true rfl)) dX4_readCondition_82 ⟨Nat.le_of_ble_eq_true rfl, Nat.le_of_ble_eq_true rfl⟩) hS (fun q _ h => hFc q h) hFc (fun r_3 x_4 t H1 locs ht hvm hw hB hz1 hk1 hS => ?_)
        obtain ⟨hP1, hK1, hD1⟩ := hB
        rw [ht] at hP1
        obtain ⟨hP, hD⟩ := va_join (wr := [(h0, .inr (4, [.ref h0_0, .int j79_h0_f1, .ref h0_2])), (h0_0, .inl (h0_0k, 240, .inl j79_h0_0c))]) (w1 := (wd_c_X9_take_1 h1 h1_0 h1_f1 x_4 j79_h1_f3 h1_0 h1_0k h1_0c)) hP hD [0, 1] [2, 3] rfl rfl (by decide) (by decide) hk1 hFc hP1 hD1
        have hP := hP.sub (ws' := (wd_c_X4_readCondition_5 h1 h1_0 h1_f1 x_4 j79_h1_f3 h1_0 h1_0k h1_0c h0 h0_0 j79_h0_f1 h0_2 h0_0 h0_0k j79_h0_0c)) [2, 3, 0, 1] rfl
        have hD := hD.sub (ws' := (wd_c_X4_readCondition_5 h1 h1_0 h1_f1 x_4 j79_h1_f3 h1_0 h1_0k h1_0c h0 h0_0 j79_h0_f1 h0_2 h0_0 h0_0k j79_h0_0c)) [2, 3, 0, 1] (by decide) rfl
        generalize H1 = H at hP hS ⊢
        rcases hw with ⟨h_5, h_6, h_7⟩ | ⟨h_8, h_9, h_10, h_11, h_12⟩
        · rw [h_5]
          refine lv_istore (lv' := [(5, .int 0), (4, .int 0), (6, .int j9_l6), (0, .ref h0), (1, .ref h1), (2, .int 5), (3, .int 0)]) hx hb dX4_readCondition_85 hl (Nat.le_of_ble_eq_true rfl) rfl (fun ls hl => ?_)
          refine lv_iload hx hb dX4_readCondition_87 (lv_at hl 0 rfl) ?_
          refine lv_if_ne (tgt := 93) hx hb dX4_readCondition_89 rfl (fun c_13 => absurd c_13 (by decide)) (fun c_13 => ?_)
          have hK9 := hK.sub (tys' := []) [] rfl
          exact W.vret hx hb hr (fun t ht hW => ⟨⟨(x_4, j79_h1_f3, j79_h0_f1, j79_h0_0c), rfl, ⟨h_6, g_j79_h1_f3, g_j79_h0_f1⟩, by rw [ht]; exact hP, va_K.moved hW.alike hK9, hD⟩, hS.F ht⟩) hS.2.2 dX4_readCondition_92
        · rw [h_8]
          refine lv_istore (lv' := [(5, .int 1), (4, .int 0), (6, .int j9_l6), (0, .ref h0), (1, .ref h1), (2, .int 5), (3, .int 0)]) hx hb dX4_readCondition_85 hl (Nat.le_of_ble_eq_true rfl) rfl (fun ls hl => ?_)
          refine lv_iload hx hb dX4_readCondition_87 (lv_at hl 0 rfl) ?_
          refine lv_if_ne (tgt := 93) hx hb dX4_readCondition_89 rfl (fun c_14 => ?_) (fun c_14 => absurd c_14 (by decide))
          exact hU _ _ _ (J93 0 1 x_4 j79_h1_f3 j79_h0_f1 j79_h0_0c g_h0_f1 h_10 g_h1_f2 g_h1_f3 g_j79_h0_f1 h_9 h_11 (RG_w (RG_k 0 0 rfl) (by decide)) (RG_w (RG_k 1 1 rfl) (by decide)) g_j9_h0_f1 g_j9_h1_f2 g_j9_h1_f3 g_j9_l4 g_j9_l5 g_j9_l6 _ _ _ hP hD hS (lv_sub hl [1, 2, 0, 3, 4, 5, 6] rfl))
      have J55 : ∀ (j55_h1_f2 : Int32) (j55_h1_f3 : Int32) (j55_h0_f1 : Int32) (j55_h0_0c : Nat → Int32) (g_h0_f1 : RG h0_f1 0 240) (g_h1_f1 : RG h1_f1 0 240) (g_h1_f2 : RG h1_f2 0 240) (g_h1_f3 : RG h1_f3 (-1) 240) (g_j55_h0_f1 : RG j55_h0_f1 0 240) (g_j55_h1_f2 : RG j55_h1_f2 0 240) (g_j55_h1_f3 : RG j55_h1_f3 (-1) 240) (g_j9_h0_f1 : RG j9_h0_f1 0 240) (g_j9_h1_f2 : RG j9_h1_f2 0 240) (g_j9_h1_f3 : RG j9_h1_f3 (-1) (-1)) (g_j9_l4 : RG j9_l4 0 1) (g_j9_l5 : RG j9_l5 0 1) (g_j9_l6 : RG j9_l6 0 239) (H : Heap) (locs : List Loc) (ls : Array Slot) (hP : va_P (dC, dI) vwCl (wd_c_X4_readCondition_5 h1 h1_0 h1_f1 j55_h1_f2 j55_h1_f3 h1_0 h1_0k h1_0c h0 h0_0 j55_h0_f1 h0_2 h0_0 h0_0k j55_h0_0c) H) (hD : va_D A (wd_c_X4_readCondition_5 h1 h1_0 h1_f1 j55_h1_f2 j55_h1_f3 h1_0 h1_0k h1_0c h0 h0_0 j55_h0_f1 h0_2 h0_0 h0_0k j55_h0_0c)) (hS : va_S A s.heap H locs) (hl : lv_has ls 7 [(6, .int j9_l6), (5, .int j9_l5), (0, .ref h0), (1, .ref h1), (2, .int 5), (3, .int 0)]), G H locs (F0 m 55 ls []) := by
        intro j55_h1_f2 j55_h1_f3 j55_h0_f1 j55_h0_0c g_h0_f1 g_h1_f1 g_h1_f2 g_h1_f3 g_j55_h0_f1 g_j55_h1_f2 g_j55_h1_f3 g_j9_h0_f1 g_j9_h1_f2 g_j9_h1_f3 g_j9_l4 g_j9_l5 g_j9_l6 H locs ls hP hD hS hl
        refine hG _ _ _ ?_
        refine lv_aload_n hx hb dX4_readCondition_55 rfl (lv_at hl 3 rfl) ?_
        refine lv_bipush (v := 38) hx hb dX4_readCondition_56 kc_bipush_38 ?_
        have hPc := hP.sub (ws' := (wd_c_X9_take h1 h1_0 h1_f1 j55_h1_f2 j55_h1_f3 h1_0 h1_0k h1_0c)) [0, 1] rfl
        have hDc := hD.sub (ws' := (wd_c_X9_take h1 h1_0 h1_f1 j55_h1_f2 j55_h1_f3 h1_0 h1_0k h1_0c)) [0, 1] (by decide) rfl
        have hKc := hK.sub (tys' := [(h1_0k, .int)]) [0] rfl
        have hFc := va_free (wc := (wd_c_X9_take h1 h1_0 h1_f1 j55_h1_f2 j55_h1_f3 h1_0 h1_0k h1_0c)) hD hS hA [0, 1] rfl
        refine va_calli (va_runV (As := [.int 38]) (rest := []) ⟨hx, hb, hml, hown, hts⟩ (c_X9_take l dC dI H.size h1 38 h1_0 h1_f1 j55_h1_f2 j55_h1_f3 h1_0k h1_0c (RG_w (RG_k 38 38 rfl) (by decide)) g_h1_f1 g_j55_h1_f2 g_j55_h1_f3 a_h1_0c) (cwV 1 hts gf_c_X4_readCondition_5_c_X9_take rfl rfl rfl (by decide +kernel) ⟨Nat.le_of_ble_eq_true rfl, Nat.le_of_ble_eq_true rfl⟩) ⟨fun a U g mk q => by obtain ⟨q0, q1, qP, qK, qD⟩ := q; exact ⟨q0, q1, qP, va_K.moved (u := U) (U := U.calling g mk a) (Vm.Alike.refl U.vm) qK, qD⟩, va_recv hKc hPc (ci := 9) (q0 := 0) rfl rfl, fun U hU hW => ⟨rfl, by rw [hU], by rw [hU]; exact hPc, va_K.moved hW.alike hKc, hDc.weaken (fun _ _ _ _ => trivial)⟩⟩ rfl rfl hl.1 rfl (lv_room (Nat.le_of_ble_eq_true rfl)) dX4_readCondition_58 ⟨Nat.le_of_ble_eq_true rfl, Nat.le_of_ble_eq_true rfl⟩) hS (fun q _ h => hFc q h) hFc (fun r_15 x_16 t H1 locs ht hvm hw hB hz1 hk1 hS => ?_)
        obtain ⟨hP1, hK1, hD1⟩ := hB
        rw [ht] at hP1
        obtain ⟨hP, hD⟩ := va_join (wr := [(h0, .inr (4, [.ref h0_0, .int j55_h0_f1, .ref h0_2])), (h0_0, .inl (h0_0k, 240, .inl j55_h0_0c))]) (w1 := (wd_c_X9_take h1 h1_0 h1_f1 x_16 j55_h1_f3 h1_0 h1_0k h1_0c)) hP hD [0, 1] [2, 3] rfl rfl (by decide) (by decide) hk1 hFc hP1 hD1
        have hP := hP.sub (ws' := (wd_c_X4_readCondition_5 h1 h1_0 h1_f1 x_16 j55_h1_f3 h1_0 h1_0k h1_0c h0 h0_0 j55_h0_f1 h0_2 h0_0 h0_0k j55_h0_0c)) [2, 3, 0, 1] rfl
        have hD := hD.sub (ws' := (wd_c_X4_readCondition_5 h1 h1_0 h1_f1 x_16 j55_h1_f3 h1_0 h1_0k h1_0c h0 h0_0 j55_h0_f1 h0_2 h0_0 h0_0k j55_h0_0c)) [2, 3, 0, 1] (by decide) rfl
        generalize H1 = H at hP hS ⊢
        rcases hw with ⟨h_17, h_18, h_19⟩ | ⟨h_20, h_21, h_22, h_23, h_24⟩
        · rw [h_17]
          refine lv_istore (lv' := [(4, .int 0), (6, .int j9_l6), (5, .int j9_l5), (0, .ref h0), (1, .ref h1), (2, .int 5), (3, .int 0)]) hx hb dX4_readCondition_61 hl (Nat.le_of_ble_eq_true rfl) rfl (fun ls hl => ?_)
          refine lv_iload hx hb dX4_readCondition_63 (lv_at hl 0 rfl) ?_
          refine lv_if_ne (tgt := 93) hx hb dX4_readCondition_65 rfl (fun c_25 => absurd c_25 (by decide)) (fun c_25 => ?_)
          refine lv_iload hx hb dX4_readCondition_68 (lv_at hl 2 rfl) ?_
          refine lv_if_eq (tgt := 79) hx hb dX4_readCondition_70 rfl (fun c_26 => ?_) (fun c_26 => ?_)
          · have g_27 : RG j9_l5 0 0 := RG_eq1 g_j9_l5 (RG_k 0 0 rfl) c_26 (by decide)
            exact hU _ _ _ (J79 x_16 j55_h1_f3 j55_h0_f1 j55_h0_0c g_h0_f1 g_h1_f1 g_h1_f2 g_h1_f3 g_j55_h0_f1 h_18 g_j55_h1_f3 g_j9_h0_f1 g_j9_h1_f2 g_j9_h1_f3 g_j9_l4 (RG_w g_27 (by decide)) g_j9_l6 _ _ _ hP hD hS (lv_sub hl [0, 1, 3, 4, 5, 6] rfl))
          · have g_28 : RG j9_l5 1 1 := RG_ne1 g_j9_l5 (q := 0) rfl c_26 (by decide)
            refine lv_aload_n hx hb dX4_readCondition_73 rfl (lv_at hl 3 rfl) ?_
            refine lv_bipush (v := (-124)) hx hb dX4_readCondition_74 kc_bipush_m124 ?_
            have hPc := hP.sub (ws' := (wd_c_X4_emit h0 h0_0 j55_h0_f1 h0_2 h0_0 h0_0k j55_h0_0c)) [2, 3] rfl
            have hDc := hD.sub (ws' := (wd_c_X4_emit h0 h0_0 j55_h0_f1 h0_2 h0_0 h0_0k j55_h0_0c)) [2, 3] (by decide) rfl
            have hKc := hK.sub (tys' := [(h0_0k, .int)]) [1] rfl
            have hFc := va_free (wc := (wd_c_X4_emit h0 h0_0 j55_h0_f1 h0_2 h0_0 h0_0k j55_h0_0c)) hD hS hA [2, 3] rfl
            refine va_callv (va_runV (As := [.int (-124)]) (rest := []) ⟨hx, hb, hml, hown, hts⟩ (c_X4_emit l dC dI H.size h0 (-124) h0_0 j55_h0_f1 h0_2 h0_0k j55_h0_0c g_j55_h0_f1) (cwV 1 hts gf_c_X4_readCondition_5_c_X4_emit rfl rfl rfl (by decide +kernel) ⟨Nat.le_of_ble_eq_true rfl, Nat.le_of_ble_eq_true rfl⟩) ⟨fun a U g mk q => by obtain ⟨q0, q1, qP, qK, qD⟩ := q; exact ⟨q0, q1, qP, va_K.moved (u := U) (U := U.calling g mk a) (Vm.Alike.refl U.vm) qK, qD⟩, va_recv hKc hPc (ci := 4) (q0 := 0) rfl rfl, fun U hU hW => ⟨rfl, by rw [hU], by rw [hU]; exact hPc, va_K.moved hW.alike hKc, hDc.weaken (fun _ _ _ _ => trivial)⟩⟩ rfl rfl hl.1 rfl (lv_room (Nat.le_of_ble_eq_true rfl)) dX4_readCondition_76 ⟨Nat.le_of_ble_eq_true rfl, Nat.le_of_ble_eq_true rfl⟩) hS (fun q _ h => hFc q h) hFc (fun u t H1 locs ht hvm hw hB hz1 hk1 hS => ?_)
            obtain ⟨x_30, w_31⟩ := u
            obtain ⟨hP1, hK1, hD1⟩ := hB
            rw [ht] at hP1
            obtain ⟨hP, hD⟩ := va_join (wr := [(h1, .inr (9, [.ref h1_0, .int h1_f1, .int x_16, .int j55_h1_f3])), (h1_0, .inl (h1_0k, 240, .inl h1_0c))]) (w1 := (wd_c_X4_emit h0 h0_0 x_30 h0_2 h0_0 h0_0k w_31)) hP hD [2, 3] [0, 1] rfl rfl (by decide) (by decide) hk1 hFc hP1 hD1
            have hP := hP.sub (ws' := (wd_c_X4_readCondition_5 h1 h1_0 h1_f1 x_16 j55_h1_f3 h1_0 h1_0k h1_0c h0 h0_0 x_30 h0_2 h0_0 h0_0k w_31)) [0, 1, 2, 3] rfl
            have hD := hD.sub (ws' := (wd_c_X4_readCondition_5 h1 h1_0 h1_f1 x_16 j55_h1_f3 h1_0 h1_0k h1_0c h0 h0_0 x_30 h0_2 h0_0 h0_0k w_31)) [0, 1, 2, 3] (by decide) rfl
            generalize H1 = H at hP hS ⊢
            have h_32 := hw
            exact hU _ _ _ (J79 x_16 j55_h1_f3 x_30 w_31 g_h0_f1 g_h1_f1 g_h1_f2 g_h1_f3 (RG_w h_32 (by decide)) h_18 g_j55_h1_f3 g_j9_h0_f1 g_j9_h1_f2 g_j9_h1_f3 g_j9_l4 (RG_w g_28 (by decide)) g_j9_l6 _ _ _ hP hD hS (lv_sub hl [0, 1, 3, 4, 5, 6] rfl))
        · rw [h_20]
          refine lv_istore (lv' := [(4, .int 1), (6, .int j9_l6), (5, .int j9_l5), (0, .ref h0), (1, .ref h1), (2, .int 5), (3, .int 0)]) hx hb dX4_readCondition_61 hl (Nat.le_of_ble_eq_true rfl) rfl (fun ls hl => ?_)
          refine lv_iload hx hb dX4_readCondition_63 (lv_at hl 0 rfl) ?_
          refine lv_if_ne (tgt := 93) hx hb dX4_readCondition_65 rfl (fun c_33 => ?_) (fun c_33 => absurd c_33 (by decide))
          exact hU _ _ _ (J93 1 j9_l5 x_16 j55_h1_f3 j55_h0_f1 j55_h0_0c g_h0_f1 h_22 g_h1_f2 g_h1_f3 g_j55_h0_f1 h_21 h_23 (RG_w (RG_k 1 1 rfl) (by decide)) g_j9_l5 g_j9_h0_f1 g_j9_h1_f2 g_j9_h1_f3 g_j9_l4 g_j9_l5 g_j9_l6 _ _ _ hP hD hS (lv_sub hl [0, 1, 2, 3, 4, 5, 6] rfl))
      have J41 : ∀ (g_h0_f1 : RG h0_f1 0 240) (g_h1_f1 : RG h1_f1 0 240) (g_h1_f2 : RG h1_f2 0 240) (g_h1_f3 : RG h1_f3 (-1) 240) (g_j9_h0_f1 : RG j9_h0_f1 0 240) (g_j9_h1_f2 : RG j9_h1_f2 0 240) (g_j9_h1_f3 : RG j9_h1_f3 (-1) (-1)) (g_j9_l4 : RG j9_l4 0 1) (g_j9_l5 : RG j9_l5 0 1) (g_j9_l6 : RG j9_l6 0 239) (H : Heap) (locs : List Loc) (ls : Array Slot) (hP : va_P (dC, dI) vwCl (wd_c_X4_readCondition_5 h1 h1_0 h1_f1 j9_h1_f2 j9_h1_f3 h1_0 h1_0k h1_0c h0 h0_0 j9_h0_f1 h0_2 h0_0 h0_0k j9_h0_0c) H) (hD : va_D A (wd_c_X4_readCondition_5 h1 h1_0 h1_f1 j9_h1_f2 j9_h1_f3 h1_0 h1_0k h1_0c h0 h0_0 j9_h0_f1 h0_2 h0_0 h0_0k j9_h0_0c)) (hS : va_S A s.heap H locs) (hl : lv_has ls 7 [(6, .int j9_l6), (5, .int j9_l5), (4, .int j9_l4), (0, .ref h0), (1, .ref h1), (2, .int 5), (3, .int 0)]), G H locs (F0 m 41 ls [.int 0, .int 5, .ref h1, .ref h0]) := by
        intro g_h0_f1 g_h1_f1 g_h1_f2 g_h1_f3 g_j9_h0_f1 g_j9_h1_f2 g_j9_h1_f3 g_j9_l4 g_j9_l5 g_j9_l6 H locs ls hP hD hS hl
        refine hG _ _ _ ?_
        have hPc := hP.sub (ws' := (wd_c_X4_readUnit_6 h1 h1_0 h1_f1 j9_h1_f2 j9_h1_f3 h1_0 h1_0k h1_0c h0 h0_0 j9_h0_f1 h0_2 h0_0 h0_0k j9_h0_0c)) [0, 1, 2, 3] rfl
        have hDc := hD.sub (ws' := (wd_c_X4_readUnit_6 h1 h1_0 h1_f1 j9_h1_f2 j9_h1_f3 h1_0 h1_0k h1_0c h0 h0_0 j9_h0_f1 h0_2 h0_0 h0_0k j9_h0_0c)) [0, 1, 2, 3] (by decide) rfl
        have hKc := hK.sub (tys' := [(h1_0k, .int), (h0_0k, .int)]) [0, 1] rfl
        have hFc := va_free (wc := (wd_c_X4_readUnit_6 h1 h1_0 h1_f1 j9_h1_f2 j9_h1_f3 h1_0 h1_0k h1_0c h0 h0_0 j9_h0_f1 h0_2 h0_0 h0_0k j9_h0_0c)) hD hS hA [0, 1, 2, 3] rfl
        refine va_callv (va_runV (As := [.ref h1, .int 5, .int 0]) (rest := []) ⟨hx, hb, hml, hown, hts⟩ (c_X4_readUnit_6 l dC dI H.size h0 h1 h1_0 h1_f1 j9_h1_f2 j9_h1_f3 h1_0k h1_0c h0_0 j9_h0_f1 h0_2 h0_0k j9_h0_0c ts4 tv4 g_h1_f1 g_j9_h1_f2 (RG_w g_j9_h1_f3 (by decide)) a_h1_0c g_j9_h0_f1) (cwV 3 hts gf_c_X4_readCondition_5_c_X4_readUnit_6 rfl rfl rfl (by decide +kernel) ⟨Nat.le_of_ble_eq_true rfl, Nat.le_of_ble_eq_true rfl⟩) ⟨fun a U g mk q => by obtain ⟨q0, q1, qP, qK, qD, qE0, qE1, qE2, qE3, qE4, qE5⟩ := q; exact ⟨q0, q1, qP, va_K.moved (u := U) (U := U.calling g mk a) (Vm.Alike.refl U.vm) qK, qD, vk_R.same rfl qE0, va_Z.moved (u := U) (U := U.calling g mk a) (Vm.Alike.refl U.vm) qE1, va_OF.moved (u := U) (U := U.calling g mk a) (Vm.Alike.refl U.vm) qE2, va_O.moved (u := U) (U := U.calling g mk a) (Vm.Alike.refl U.vm) qE3, va_OF.moved (u := U) (U := U.calling g mk a) (Vm.Alike.refl U.vm) qE4, va_T.moved (u := U) (U := U.calling g mk a) (Vm.Alike.refl U.vm) qE5⟩, va_recv hKc hPc (ci := 4) (q0 := 2) rfl rfl, fun U hU hW => ⟨rfl, by rw [hU], by rw [hU]; exact hPc, va_K.moved hW.alike hKc, hDc.weaken (fun _ _ _ _ => trivial), vk_R.warm hW hE_32, va_Z.moved hW.alike (by rw [hU]; exact (hE_10.kept hS.2.1).narrow hFc), va_OF.moved hW.alike (by rw [hU]; exact (hE_34.kept hS.2.1).narrow hFc), va_O.moved hW.alike (by rw [hU]; exact (hE_33.kept hS.2.1).narrow hFc), va_OF.moved hW.alike (by rw [hU]; exact (hE_35.kept hS.2.1).narrow hFc), va_T.moved hW.alike (by rw [hU]; exact (hE_36.kept hS.2.1).narrow hFc)⟩⟩ rfl rfl hl.1 rfl (lv_room (Nat.le_of_ble_eq_true rfl)) dX4_readCondition_41 ⟨Nat.le_of_ble_eq_true rfl, Nat.le_of_ble_eq_true rfl⟩) hS (fun q _ h => hFc q h) hFc (fun u t H1 locs ht hvm hw hB hz1 hk1 hS => ?_)
        obtain ⟨x_35, x_36, x_37, w_38⟩ := u
        obtain ⟨hP1, hK1, hD1⟩ := hB
        rw [ht] at hP1
        obtain ⟨hP, hD⟩ := va_join (wr := []) (w1 := (wd_c_X4_readUnit_6 h1 h1_0 h1_f1 x_35 x_36 h1_0 h1_0k h1_0c h0 h0_0 x_37 h0_2 h0_0 h0_0k w_38)) hP hD [0, 1, 2, 3] [] rfl rfl (by decide) (by decide) hk1 hFc hP1 hD1
        have hP := hP.sub (ws' := (wd_c_X4_readCondition_5 h1 h1_0 h1_f1 x_35 x_36 h1_0 h1_0k h1_0c h0 h0_0 x_37 h0_2 h0_0 h0_0k w_38)) [0, 1, 2, 3] rfl
        have hD := hD.sub (ws' := (wd_c_X4_readCondition_5 h1 h1_0 h1_f1 x_35 x_36 h1_0 h1_0k h1_0c h0 h0_0 x_37 h0_2 h0_0 h0_0k w_38)) [0, 1, 2, 3] (by decide) rfl
        generalize H1 = H at hP hS ⊢
        rcases hw with ⟨h_39, h_40, h_41⟩
        refine lv_iload hx hb dX4_readCondition_44 (lv_at hl 2 rfl) ?_
        refine lv_if_eq (tgt := 55) hx hb dX4_readCondition_46 rfl (fun c_42 => ?_) (fun c_42 => ?_)
        · have g_43 : RG j9_l4 0 0 := RG_eq1 g_j9_l4 (RG_k 0 0 rfl) c_42 (by decide)
          exact hU _ _ _ (J55 x_35 x_36 x_37 w_38 g_h0_f1 g_h1_f1 g_h1_f2 g_h1_f3 h_41 h_39 h_40 g_j9_h0_f1 g_j9_h1_f2 g_j9_h1_f3 (RG_w g_43 (by decide)) g_j9_l5 g_j9_l6 _ _ _ hP hD hS (lv_sub hl [0, 1, 3, 4, 5, 6] rfl))
        · have g_44 : RG j9_l4 1 1 := RG_ne1 g_j9_l4 (q := 0) rfl c_42 (by decide)
          refine lv_aload_n hx hb dX4_readCondition_49 rfl (lv_at hl 3 rfl) ?_
          refine lv_bipush (v := (-38)) hx hb dX4_readCondition_50 kc_bipush_m38 ?_
          have hPc := hP.sub (ws' := (wd_c_X4_emit h0 h0_0 x_37 h0_2 h0_0 h0_0k w_38)) [2, 3] rfl
          have hDc := hD.sub (ws' := (wd_c_X4_emit h0 h0_0 x_37 h0_2 h0_0 h0_0k w_38)) [2, 3] (by decide) rfl
          have hKc := hK.sub (tys' := [(h0_0k, .int)]) [1] rfl
          have hFc := va_free (wc := (wd_c_X4_emit h0 h0_0 x_37 h0_2 h0_0 h0_0k w_38)) hD hS hA [2, 3] rfl
          refine va_callv (va_runV (As := [.int (-38)]) (rest := []) ⟨hx, hb, hml, hown, hts⟩ (c_X4_emit l dC dI H.size h0 (-38) h0_0 x_37 h0_2 h0_0k w_38 h_41) (cwV 1 hts gf_c_X4_readCondition_5_c_X4_emit rfl rfl rfl (by decide +kernel) ⟨Nat.le_of_ble_eq_true rfl, Nat.le_of_ble_eq_true rfl⟩) ⟨fun a U g mk q => by obtain ⟨q0, q1, qP, qK, qD⟩ := q; exact ⟨q0, q1, qP, va_K.moved (u := U) (U := U.calling g mk a) (Vm.Alike.refl U.vm) qK, qD⟩, va_recv hKc hPc (ci := 4) (q0 := 0) rfl rfl, fun U hU hW => ⟨rfl, by rw [hU], by rw [hU]; exact hPc, va_K.moved hW.alike hKc, hDc.weaken (fun _ _ _ _ => trivial)⟩⟩ rfl rfl hl.1 rfl (lv_room (Nat.le_of_ble_eq_true rfl)) dX4_readCondition_52 ⟨Nat.le_of_ble_eq_true rfl, Nat.le_of_ble_eq_true rfl⟩) hS (fun q _ h => hFc q h) hFc (fun u t H1 locs ht hvm hw hB hz1 hk1 hS => ?_)
          obtain ⟨x_46, w_47⟩ := u
          obtain ⟨hP1, hK1, hD1⟩ := hB
          rw [ht] at hP1
          obtain ⟨hP, hD⟩ := va_join (wr := [(h1, .inr (9, [.ref h1_0, .int h1_f1, .int x_35, .int x_36])), (h1_0, .inl (h1_0k, 240, .inl h1_0c))]) (w1 := (wd_c_X4_emit h0 h0_0 x_46 h0_2 h0_0 h0_0k w_47)) hP hD [2, 3] [0, 1] rfl rfl (by decide) (by decide) hk1 hFc hP1 hD1
          have hP := hP.sub (ws' := (wd_c_X4_readCondition_5 h1 h1_0 h1_f1 x_35 x_36 h1_0 h1_0k h1_0c h0 h0_0 x_46 h0_2 h0_0 h0_0k w_47)) [0, 1, 2, 3] rfl
          have hD := hD.sub (ws' := (wd_c_X4_readCondition_5 h1 h1_0 h1_f1 x_35 x_36 h1_0 h1_0k h1_0c h0 h0_0 x_46 h0_2 h0_0 h0_0k w_47)) [0, 1, 2, 3] (by decide) rfl
          generalize H1 = H at hP hS ⊢
          have h_48 := hw
          exact hU _ _ _ (J55 x_35 x_36 x_46 w_47 g_h0_f1 g_h1_f1 g_h1_f2 g_h1_f3 (RG_w h_48 (by decide)) h_39 h_40 g_j9_h0_f1 g_j9_h1_f2 g_j9_h1_f3 (RG_w g_44 (by decide)) g_j9_l5 g_j9_l6 _ _ _ hP hD hS (lv_sub hl [0, 1, 3, 4, 5, 6] rfl))
      have J40 : ∀ (g_h0_f1 : RG h0_f1 0 240) (g_h1_f1 : RG h1_f1 0 240) (g_h1_f2 : RG h1_f2 0 240) (g_h1_f3 : RG h1_f3 (-1) 240) (g_j9_h0_f1 : RG j9_h0_f1 0 240) (g_j9_h1_f2 : RG j9_h1_f2 0 240) (g_j9_h1_f3 : RG j9_h1_f3 (-1) (-1)) (g_j9_l4 : RG j9_l4 0 1) (g_j9_l5 : RG j9_l5 0 1) (g_j9_l6 : RG j9_l6 0 239) (H : Heap) (locs : List Loc) (ls : Array Slot) (hP : va_P (dC, dI) vwCl (wd_c_X4_readCondition_5 h1 h1_0 h1_f1 j9_h1_f2 j9_h1_f3 h1_0 h1_0k h1_0c h0 h0_0 j9_h0_f1 h0_2 h0_0 h0_0k j9_h0_0c) H) (hD : va_D A (wd_c_X4_readCondition_5 h1 h1_0 h1_f1 j9_h1_f2 j9_h1_f3 h1_0 h1_0k h1_0c h0 h0_0 j9_h0_f1 h0_2 h0_0 h0_0k j9_h0_0c)) (hS : va_S A s.heap H locs) (hl : lv_has ls 7 [(6, .int j9_l6), (5, .int j9_l5), (4, .int j9_l4), (0, .ref h0), (1, .ref h1), (2, .int 5), (3, .int 0)]), G H locs (F0 m 40 ls [.int 5, .ref h1, .ref h0]) := by
        intro g_h0_f1 g_h1_f1 g_h1_f2 g_h1_f3 g_j9_h0_f1 g_j9_h1_f2 g_j9_h1_f3 g_j9_l4 g_j9_l5 g_j9_l6 H locs ls hP hD hS hl
        refine hG _ _ _ ?_
        refine lv_iconst (v := 0) hx hb dX4_readCondition_40 kc_iconst_0 ?_
        exact hU _ _ _ (J41 g_h0_f1 g_h1_f1 g_h1_f2 g_h1_f3 g_j9_h0_f1 g_j9_h1_f2 g_j9_h1_f3 g_j9_l4 g_j9_l5 g_j9_l6 _ _ _ hP hD hS (lv_sub hl [0, 1, 2, 3, 4, 5, 6] rfl))
      refine hG _ _ _ ?_
      refine lv_iload hx hb dX4_readCondition_9 (lv_at hl 0 rfl) ?_
      refine lv_sipush (v := 240) hx hb dX4_readCondition_11 kc_sipush_240 ?_
      refine lv_icmp_ge (tgt := 99) hx hb dX4_readCondition_14 rfl (fun c_49 => ?_) (fun c_49 => ?_)
      · have g_50 : RG j9_l6 240 240 := RG_le2 (RG_k 240 240 rfl) g_j9_l6 c_49 (by decide)
        have hK9 := hK.sub (tys' := []) [] rfl
        exact W.vret hx hb hr (fun t ht hW => ⟨⟨(j9_h1_f2, j9_h1_f3, j9_h0_f1, j9_h0_0c), rfl, ⟨g_j9_h1_f2, g_j9_h1_f3, g_j9_h0_f1⟩, by rw [ht]; exact hP, va_K.moved hW.alike hK9, hD⟩, hS.F ht⟩) hS.2.2 dX4_readCondition_99
      · have d_51 := Int32.not_le.mp c_49
        have g_52 : RG j9_l6 0 239 := RG_lt1 g_j9_l6 (RG_k 240 240 rfl) d_51 (by decide)
        refine lv_aload_n hx hb dX4_readCondition_17 rfl (lv_at hl 4 rfl) ?_
        have hPc := hP.sub (ws' := (wd_c_X9_isRight h1 h1_0 h1_f1 j9_h1_f2 j9_h1_f3)) [0] rfl
        have hDc := hD.sub (ws' := (wd_c_X9_isRight h1 h1_0 h1_f1 j9_h1_f2 j9_h1_f3)) [0] (by decide) rfl
        have hKc := hK.sub (tys' := []) [] rfl
        have hFc := va_free (wc := (wd_c_X9_isRight h1 h1_0 h1_f1 j9_h1_f2 j9_h1_f3)) hD hS hA [0] rfl
        refine va_calli (va_runV (As := []) (rest := []) ⟨hx, hb, hml, hown, hts⟩ (c_X9_isRight l dC dI H.size h1 h1_0 h1_f1 j9_h1_f2 j9_h1_f3 g_h1_f1 g_j9_h1_f2 g_j9_h1_f3) (cwV 0 hts gf_c_X4_readCondition_5_c_X9_isRight rfl rfl rfl (by decide +kernel) ⟨Nat.le_of_ble_eq_true rfl, Nat.le_of_ble_eq_true rfl⟩) ⟨fun a U g mk q => by obtain ⟨q0, q1, qP, qK, qD⟩ := q; exact ⟨q0, q1, qP, va_K.moved (u := U) (U := U.calling g mk a) (Vm.Alike.refl U.vm) qK, qD⟩, va_recv hKc hPc (ci := 9) (q0 := 0) rfl rfl, fun U hU hW => ⟨rfl, by rw [hU], by rw [hU]; exact hPc, va_K.moved hW.alike hKc, hDc.weaken (fun _ _ _ _ => trivial)⟩⟩ rfl rfl hl.1 rfl (lv_room (Nat.le_of_ble_eq_true rfl)) dX4_readCondition_18 ⟨Nat.le_of_ble_eq_true rfl, Nat.le_of_ble_eq_true rfl⟩) hS (fun q _ h => hFc q h) hFc (fun r_53 u t H1 locs ht hvm hw hB hz1 hk1 hS => ?_)
        obtain ⟨hP1, hK1, hD1⟩ := hB
        rw [ht] at hP1
        obtain ⟨hP, hD⟩ := va_join (wr := [(h1_0, .inl (h1_0k, 240, .inl h1_0c)), (h0, .inr (4, [.ref h0_0, .int j9_h0_f1, .ref h0_2])), (h0_0, .inl (h0_0k, 240, .inl j9_h0_0c))]) (w1 := (wd_c_X9_isRight h1 h1_0 h1_f1 j9_h1_f2 j9_h1_f3)) hP hD [0] [1, 2, 3] rfl rfl (by decide) (by decide) hk1 hFc hP1 hD1
        have hP := hP.sub (ws' := (wd_c_X4_readCondition_5 h1 h1_0 h1_f1 j9_h1_f2 j9_h1_f3 h1_0 h1_0k h1_0c h0 h0_0 j9_h0_f1 h0_2 h0_0 h0_0k j9_h0_0c)) [3, 0, 1, 2] rfl
        have hD := hD.sub (ws' := (wd_c_X4_readCondition_5 h1 h1_0 h1_f1 j9_h1_f2 j9_h1_f3 h1_0 h1_0k h1_0c h0 h0_0 j9_h0_f1 h0_2 h0_0 h0_0k j9_h0_0c)) [3, 0, 1, 2] (by decide) rfl
        generalize H1 = H at hP hS ⊢
        rcases hw with ⟨h_54, h_55⟩ | ⟨h_56, h_57⟩
        · rw [h_54]
          refine lv_if_eq (tgt := 99) hx hb dX4_readCondition_21 rfl (fun c_58 => ?_) (fun c_58 => absurd c_58 (by decide))
          have hK9 := hK.sub (tys' := []) [] rfl
          exact W.vret hx hb hr (fun t ht hW => ⟨⟨(j9_h1_f2, j9_h1_f3, j9_h0_f1, j9_h0_0c), rfl, ⟨g_j9_h1_f2, (RG_w h_55 (by decide)), g_j9_h0_f1⟩, by rw [ht]; exact hP, va_K.moved hW.alike hK9, hD⟩, hS.F ht⟩) hS.2.2 dX4_readCondition_99
        · rw [h_56]
          refine lv_if_eq (tgt := 99) hx hb dX4_readCondition_21 rfl (fun c_59 => absurd c_59 (by decide)) (fun c_59 => ?_)
          refine lv_aload_n hx hb dX4_readCondition_24 rfl (lv_at hl 3 rfl) ?_
          refine lv_aload_n hx hb dX4_readCondition_25 rfl (lv_at hl 4 rfl) ?_
          refine lv_iload_n hx hb dX4_readCondition_26 rfl (lv_at hl 5 rfl) ?_
          refine lv_iload_n hx hb dX4_readCondition_27 rfl (lv_at hl 6 rfl) ?_
          refine lv_if_eq (tgt := 40) hx hb dX4_readCondition_28 rfl (fun c_60 => ?_) (fun c_60 => absurd c_60 (by decide))
          exact hU _ _ _ (J40 g_h0_f1 g_h1_f1 g_h1_f2 g_h1_f3 g_j9_h0_f1 g_j9_h1_f2 h_57 g_j9_l4 g_j9_l5 g_52 _ _ _ hP hD hS (lv_sub hl [0, 1, 2, 3, 4, 5, 6] rfl))
  refine hG _ _ _ ?_
  refine lv_iconst (v := 0) hx hb dX4_readCondition_0 kc_iconst_0 ?_
  refine lv_istore (lv' := [(4, .int 0), (0, .ref h0), (1, .ref h1), (2, .int 5), (3, .int 0)]) hx hb dX4_readCondition_1 hl (Nat.le_of_ble_eq_true rfl) rfl (fun ls hl => ?_)
  refine lv_iconst (v := 0) hx hb dX4_readCondition_3 kc_iconst_0 ?_
  refine lv_istore (lv' := [(5, .int 0), (4, .int 0), (0, .ref h0), (1, .ref h1), (2, .int 5), (3, .int 0)]) hx hb dX4_readCondition_4 hl (Nat.le_of_ble_eq_true rfl) rfl (fun ls hl => ?_)
  refine lv_iconst (v := 0) hx hb dX4_readCondition_6 kc_iconst_0 ?_
  refine lv_istore (lv' := [(6, .int 0), (5, .int 0), (4, .int 0), (0, .ref h0), (1, .ref h1), (2, .int 5), (3, .int 0)]) hx hb dX4_readCondition_7 hl (Nat.le_of_ble_eq_true rfl) rfl (fun ls hl => ?_)
  exact hU _ _ _ (J9 _ 0 0 0 h1_f2 h1_f3 h0_f1 h0_0c (Nat.lt_succ_self _) g_h0_f1 g_h1_f1 g_h1_f2 g_h1_f3 g_h0_f1 g_h1_f2 g_h1_f3 (RG_w (RG_k 0 0 rfl) (by decide)) (RG_w (RG_k 0 0 rfl) (by decide)) (RG_w (RG_k 0 0 rfl) (by decide)) _ _ _ hP hD hS (lv_sub hl [0, 1, 2, 3, 4, 5, 6] rfl))
def wd_c_X4_readUnit_5 (a0 : Nat) (a1 : Nat) (a2 : Int32) (a3 : Int32) (a4 : Int32) (a5 : Nat) (a6 : ClassId) (a7 : Nat → Int32) (a8 : Nat) (a9 : Nat) (a10 : Int32) (a11 : Nat) (a12 : Nat) (a13 : ClassId) (a14 : Nat → Int32) : va_W := [(a0, .inr (9, [.ref a1, .int a2, .int a3, .int a4])), (a5, .inl (a6, 240, .inl a7)), (a8, .inr (4, [.ref a9, .int a10, .ref a11])), (a12, .inl (a13, 240, .inl a14))]
def wf_c_X4_readUnit_5 : List Cond := .code yX4_readUnit cX4_readUnit 5 none :: ([.methodLink RX4 41 yX9_peek, .instanceMethod yX9_peek, .selects RX9 yX9_peek yX9_peek, .initialized RX9, .code yX9_peek cX9_peek 1 (some .int), .fieldLink RX9 22 "BuoyVote$Tape" "at" "I", .fieldLink RX9 19 "BuoyVote$Tape" "length" "I", .fieldLink RX9 11 "BuoyVote$Tape" "bytes" "[I", .methodLink RX4 45 yX4_startsUnit, .static yX4_startsUnit, .initialized RX4, .code yX4_startsUnit cX4_startsUnit 1 (some .boolean), .methodLink RX4 63 yX9_take, .instanceMethod yX9_take, .selects RX9 yX9_take yX9_take, .code yX9_take cX9_take 2 (some .boolean), .fieldLink RX9 15 "BuoyVote$Tape" "wrong" "I", .methodLink RX9 29 yX9_peek, .methodLink RX4 37 yX9_expect, .instanceMethod yX9_expect, .selects RX9 yX9_expect yX9_expect, .code yX9_expect cX9_expect 2 none, .methodLink RX9 25 yX9_refuse, .instanceMethod yX9_refuse, .selects RX9 yX9_refuse yX9_refuse, .code yX9_refuse cX9_refuse 2 none, .methodLink RX4 56 yX4_readCondition, .instanceMethod yX4_readCondition, .selects RX4 yX4_readCondition yX4_readCondition, .code yX4_readCondition cX4_readCondition 7 none, .methodLink RX4 72 yX9_isRight, .instanceMethod yX9_isRight, .selects RX9 yX9_isRight yX9_isRight, .code yX9_isRight cX9_isRight 1 (some .boolean), .methodLink RX4 76 yX4_readUnit, .instanceMethod yX4_readUnit, .selects RX4 yX4_readUnit yX4_readUnit, .methodLink RX4 82 yX9_refuseHere, .instanceMethod yX9_refuseHere, .selects RX9 yX9_refuseHere yX9_refuseHere, .code yX9_refuseHere cX9_refuseHere 1 none, .methodLink RX4 49 yX4_readSum, .instanceMethod yX4_readSum, .selects RX4 yX4_readSum yX4_readSum, .code yX4_readSum cX4_readSum 6 none, .methodLink RX4 85 yX4_readAtom, .instanceMethod yX4_readAtom, .selects RX4 yX4_readAtom yX4_readAtom, .code yX4_readAtom cX4_readAtom 6 none, .methodLink RX4 93 yJ0_indexOf_0f7a4, .instanceMethod yJ0_indexOf_0f7a4, .selects RJ0 yJ0_indexOf_0f7a4 yJ0_indexOf_0f7a4, .initialized RJ0, .code yJ0_indexOf_0f7a4 cJ0_indexOf_0f7a4 2 (some .int), .methodLink RJ0 633 yJ0_indexOf_7cf53, .instanceMethod yJ0_indexOf_7cf53, .selects RJ0 yJ0_indexOf_7cf53 yJ0_indexOf_7cf53, .code yJ0_indexOf_7cf53 cJ0_indexOf_7cf53 3 (some .int), .methodLink RJ0 492 yJ0_isLatin1_aae02, .instanceMethod yJ0_isLatin1_aae02, .selects RJ0 yJ0_isLatin1_aae02 yJ0_isLatin1_aae02, .code yJ0_isLatin1_aae02 cJ0_isLatin1_aae02 1 (some .boolean), .fieldLink RJ0 38 "java/lang/String" "COMPACT_STRINGS" "Z", .fieldLink RJ0 15 "java/lang/String" "coder" "B", .fieldLink RJ0 9 "java/lang/String" "value" "[B", .methodLink RJ0 505 yJ0_length_8abf5, .instanceMethod yJ0_length_8abf5, .selects RJ0 yJ0_length_8abf5 yJ0_length_8abf5, .code yJ0_length_8abf5 cJ0_length_8abf5 1 (some .int), .methodLink RJ0 335 yJ0_coder_7d493, .instanceMethod yJ0_coder_7d493, .selects RJ0 yJ0_coder_7d493 yJ0_coder_7d493, .code yJ0_coder_7d493 cJ0_coder_7d493 1 (some .byte), .methodLink RJ0 637 yJ1_indexOf_4cfef, .static yJ1_indexOf_4cfef, .initialized RJ1, .code yJ1_indexOf_4cfef cJ1_indexOf_4cfef 4 (some .int), .methodLink RJ1 88 yJ1_canEncode_9a6ad, .static yJ1_canEncode_9a6ad, .code yJ1_canEncode_9a6ad cJ1_canEncode_9a6ad 1 (some .boolean), .methodLink RJ1 92 Lib.Math.max.name, .static Lib.Math.max.name, .initialized "java/lang/Math", .code Lib.Math.max.name Lib.Math.max.code 2 (some .int), .methodLink RJ1 38 Lib.Math.min.name, .static Lib.Math.min.name, .code Lib.Math.min.name Lib.Math.min.code 2 (some .int), .methodLink RJ1 95 yJ1_indexOfChar_4cfef, .static yJ1_indexOfChar_4cfef, .code yJ1_indexOfChar_4cfef cJ1_indexOfChar_4cfef 6 (some .int), .methodLink RX4 99 yX9_number, .instanceMethod yX9_number, .selects RX9 yX9_number yX9_number, .code yX9_number cX9_number 4 (some .int), .methodLink RX4 79 yX9_skip, .instanceMethod yX9_skip, .selects RX9 yX9_skip yX9_skip, .code yX9_skip cX9_skip 1 none, .methodLink RX4 60 yX4_emit, .instanceMethod yX4_emit, .selects RX4 yX4_emit yX4_emit, .code yX4_emit cX4_emit 2 none, .fieldLink RX4 20 "BuoyVote$Law" "length" "I", .fieldLink RX4 11 "BuoyVote$Law" "code" "[I", .methodLink RX4 88 yX9_takeEither, .instanceMethod yX9_takeEither, .selects RX9 yX9_takeEither yX9_takeEither, .code yX9_takeEither cX9_takeEither 4 (some .int), .methodLink RX4 53 yX4_isComparison, .static yX4_isComparison, .code yX4_isComparison cX4_isComparison 1 (some .boolean)] ++ wsX90 ++ wsX40)
theorem iw_c_X4_readUnit_5_X9 : ∀ w ∈ wsX90, w ∈ wf_c_X4_readUnit_5 := fun w h => List.mem_cons_of_mem _ (List.mem_append_left _ (List.mem_append_right _ h))
theorem iw_c_X4_readUnit_5_X4 : ∀ w ∈ wsX40, w ∈ wf_c_X4_readUnit_5 := fun w h => List.mem_cons_of_mem _ (List.mem_append_right _ h)
set_option maxRecDepth 20000 in
theorem gf_c_X4_readUnit_5_c_X9_peek : GoodIn wf_c_X4_readUnit_5 (wsV RX4 41 RX9 yX9_peek wf_c_X9_peek) := goodIn_app (gi_cons (j := 1) rfl rfl (gi_cons (j := 2) rfl rfl (gi_cons (j := 3) rfl rfl (gi_cons (j := 4) rfl rfl (gi_nil))))) (gi_cons (j := 5) rfl rfl (goodIn_app (gi_cons (j := 6) rfl rfl (gi_cons (j := 7) rfl rfl (gi_cons (j := 8) rfl rfl (gi_nil)))) (goodIn_sub iw_c_X4_readUnit_5_X9 gw_X9)))
set_option maxRecDepth 20000 in
theorem gf_c_X4_readUnit_5_c_X4_isComparison : GoodIn wf_c_X4_readUnit_5 (va_wsS RX4 53 yX4_isComparison wf_c_X4_isComparison) := goodIn_app (gi_cons (j := 109) rfl rfl (gi_cons (j := 110) rfl rfl (gi_cons (j := 11) rfl rfl (gi_nil)))) (gi_cons (j := 111) rfl rfl (gi_nil))
set_option maxRecDepth 20000 in
theorem gf_c_X4_readUnit_5_c_X9_refuseHere : GoodIn wf_c_X4_readUnit_5 (wsV RX4 82 RX9 yX9_refuseHere wf_c_X9_refuseHere) := goodIn_app (gi_cons (j := 38) rfl rfl (gi_cons (j := 39) rfl rfl (gi_cons (j := 40) rfl rfl (gi_cons (j := 4) rfl rfl (gi_nil))))) (gi_cons (j := 41) rfl rfl (goodIn_app (gi_cons (j := 6) rfl rfl (gi_cons (j := 23) rfl rfl (gi_cons (j := 24) rfl rfl (gi_cons (j := 25) rfl rfl (gi_cons (j := 4) rfl rfl (gi_cons (j := 26) rfl rfl (gi_cons (j := 17) rfl rfl (gi_nil)))))))) (goodIn_sub iw_c_X4_readUnit_5_X9 gw_X9)))
set_option maxRecDepth 20000 in
theorem gf_c_X4_readUnit_5_c_X4_isComparison_1 : GoodIn wf_c_X4_readUnit_5 (va_wsS RX4 53 yX4_isComparison wf_c_X4_isComparison_1) := goodIn_app (gi_cons (j := 109) rfl rfl (gi_cons (j := 110) rfl rfl (gi_cons (j := 11) rfl rfl (gi_nil)))) (gi_cons (j := 111) rfl rfl (gi_nil))
set_option maxRecDepth 20000 in
theorem gf_c_X4_readUnit_5_c_X9_skip : GoodIn wf_c_X4_readUnit_5 (wsV RX4 79 RX9 yX9_skip wf_c_X9_skip) := goodIn_app (gi_cons (j := 95) rfl rfl (gi_cons (j := 96) rfl rfl (gi_cons (j := 97) rfl rfl (gi_cons (j := 4) rfl rfl (gi_nil))))) (gi_cons (j := 98) rfl rfl (goodIn_app (gi_cons (j := 6) rfl rfl (gi_nil)) (goodIn_sub iw_c_X4_readUnit_5_X9 gw_X9)))
set_option maxRecDepth 20000 in
theorem gf_c_X4_readUnit_5_c_X4_readSum_4 : GoodIn wf_c_X4_readUnit_5 (wsV RX4 49 RX4 yX4_readSum wf_c_X4_readSum_4) := goodIn_app (gi_cons (j := 42) rfl rfl (gi_cons (j := 43) rfl rfl (gi_cons (j := 44) rfl rfl (gi_cons (j := 11) rfl rfl (gi_nil))))) (gi_cons (j := 45) rfl rfl (goodIn_app (goodIn_app (gi_cons (j := 31) rfl rfl (gi_cons (j := 32) rfl rfl (gi_cons (j := 33) rfl rfl (gi_cons (j := 4) rfl rfl (gi_cons (j := 34) rfl rfl (gi_cons (j := 17) rfl rfl (gi_cons (j := 46) rfl rfl (gi_cons (j := 47) rfl rfl (gi_cons (j := 48) rfl rfl (gi_cons (j := 11) rfl rfl (gi_cons (j := 49) rfl rfl (gi_cons (j := 1) rfl rfl (gi_cons (j := 2) rfl rfl (gi_cons (j := 3) rfl rfl (gi_cons (j := 5) rfl rfl (gi_cons (j := 6) rfl rfl (gi_cons (j := 7) rfl rfl (gi_cons (j := 8) rfl rfl (gi_cons (j := 50) rfl rfl (gi_cons (j := 51) rfl rfl (gi_cons (j := 52) rfl rfl (gi_cons (j := 53) rfl rfl (gi_cons (j := 54) rfl rfl (gi_cons (j := 55) rfl rfl (gi_cons (j := 56) rfl rfl (gi_cons (j := 57) rfl rfl (gi_cons (j := 58) rfl rfl (gi_cons (j := 59) rfl rfl (gi_cons (j := 60) rfl rfl (gi_cons (j := 61) rfl rfl (gi_cons (j := 62) rfl rfl (gi_cons (j := 63) rfl rfl (gi_cons (j := 64) rfl rfl (gi_cons (j := 65) rfl rfl (gi_cons (j := 66) rfl rfl (gi_cons (j := 67) rfl rfl (gi_cons (j := 68) rfl rfl (gi_cons (j := 69) rfl rfl (gi_cons (j := 70) rfl rfl (gi_cons (j := 71) rfl rfl (gi_cons (j := 72) rfl rfl (gi_cons (j := 73) rfl rfl (gi_cons (j := 74) rfl rfl (gi_cons (j := 75) rfl rfl (gi_cons (j := 76) rfl rfl (gi_cons (j := 77) rfl rfl (gi_cons (j := 78) rfl rfl (gi_cons (j := 79) rfl rfl (gi_cons (j := 80) rfl rfl (gi_cons (j := 81) rfl rfl (gi_cons (j := 82) rfl rfl (gi_cons (j := 83) rfl rfl (gi_cons (j := 84) rfl rfl (gi_cons (j := 85) rfl rfl (gi_cons (j := 86) rfl rfl (gi_cons (j := 87) rfl rfl (gi_cons (j := 88) rfl rfl (gi_cons (j := 89) rfl rfl (gi_cons (j := 90) rfl rfl (gi_cons (j := 91) rfl rfl (gi_cons (j := 92) rfl rfl (gi_cons (j := 93) rfl rfl (gi_cons (j := 94) rfl rfl (gi_cons (j := 38) rfl rfl (gi_cons (j := 39) rfl rfl (gi_cons (j := 40) rfl rfl (gi_cons (j := 41) rfl rfl (gi_cons (j := 23) rfl rfl (gi_cons (j := 24) rfl rfl (gi_cons (j := 25) rfl rfl (gi_cons (j := 26) rfl rfl (gi_cons (j := 95) rfl rfl (gi_cons (j := 96) rfl rfl (gi_cons (j := 97) rfl rfl (gi_cons (j := 98) rfl rfl (gi_cons (j := 42) rfl rfl (gi_cons (j := 43) rfl rfl (gi_cons (j := 44) rfl rfl (gi_cons (j := 99) rfl rfl (gi_cons (j := 100) rfl rfl (gi_cons (j := 101) rfl rfl (gi_cons (j := 102) rfl rfl (gi_cons (j := 103) rfl rfl (gi_cons (j := 104) rfl rfl (gi_cons (j := 105) rfl rfl (gi_cons (j := 106) rfl rfl (gi_cons (j := 107) rfl rfl (gi_cons (j := 108) rfl rfl (gi_cons (j := 18) rfl rfl (gi_cons (j := 19) rfl rfl (gi_cons (j := 20) rfl rfl (gi_cons (j := 21) rfl rfl (gi_cons (j := 22) rfl rfl (gi_nil)))))))))))))))))))))))))))))))))))))))))))))))))))))))))))))))))))))))))))))))))))))))))))))) (goodIn_sub iw_c_X4_readUnit_5_X9 gw_X9)) (goodIn_sub iw_c_X4_readUnit_5_X4 gw_X4)))
set_option maxRecDepth 20000 in
theorem gf_c_X4_readUnit_5_c_X4_emit : GoodIn wf_c_X4_readUnit_5 (wsV RX4 60 RX4 yX4_emit wf_c_X4_emit) := goodIn_app (gi_cons (j := 99) rfl rfl (gi_cons (j := 100) rfl rfl (gi_cons (j := 101) rfl rfl (gi_cons (j := 11) rfl rfl (gi_nil))))) (gi_cons (j := 102) rfl rfl (goodIn_app (gi_cons (j := 103) rfl rfl (gi_cons (j := 104) rfl rfl (gi_nil))) (goodIn_sub iw_c_X4_readUnit_5_X4 gw_X4)))
set_option maxRecDepth 20000 in
theorem gf_c_X4_readUnit_5_c_X4_startsUnit : GoodIn wf_c_X4_readUnit_5 (va_wsS RX4 45 yX4_startsUnit wf_c_X4_startsUnit) := goodIn_app (gi_cons (j := 9) rfl rfl (gi_cons (j := 10) rfl rfl (gi_cons (j := 11) rfl rfl (gi_nil)))) (gi_cons (j := 12) rfl rfl (gi_nil))
set_option maxRecDepth 20000 in
theorem gf_c_X4_readUnit_5_c_X4_startsUnit_1 : GoodIn wf_c_X4_readUnit_5 (va_wsS RX4 45 yX4_startsUnit wf_c_X4_startsUnit_1) := goodIn_app (gi_cons (j := 9) rfl rfl (gi_cons (j := 10) rfl rfl (gi_cons (j := 11) rfl rfl (gi_nil)))) (gi_cons (j := 12) rfl rfl (gi_nil))
set_option maxRecDepth 20000 in
theorem gf_c_X4_readUnit_5_c_X9_take : GoodIn wf_c_X4_readUnit_5 (wsV RX4 63 RX9 yX9_take wf_c_X9_take) := goodIn_app (gi_cons (j := 13) rfl rfl (gi_cons (j := 14) rfl rfl (gi_cons (j := 15) rfl rfl (gi_cons (j := 4) rfl rfl (gi_nil))))) (gi_cons (j := 16) rfl rfl (goodIn_app (gi_cons (j := 17) rfl rfl (gi_cons (j := 18) rfl rfl (gi_cons (j := 2) rfl rfl (gi_cons (j := 3) rfl rfl (gi_cons (j := 4) rfl rfl (gi_cons (j := 5) rfl rfl (gi_cons (j := 6) rfl rfl (gi_cons (j := 7) rfl rfl (gi_cons (j := 8) rfl rfl (gi_nil)))))))))) (goodIn_sub iw_c_X4_readUnit_5_X9 gw_X9)))
set_option maxRecDepth 20000 in
theorem gf_c_X4_readUnit_5_c_X9_expect_1 : GoodIn wf_c_X4_readUnit_5 (wsV RX4 37 RX9 yX9_expect wf_c_X9_expect_1) := goodIn_app (gi_cons (j := 19) rfl rfl (gi_cons (j := 20) rfl rfl (gi_cons (j := 21) rfl rfl (gi_cons (j := 4) rfl rfl (gi_nil))))) (gi_cons (j := 22) rfl rfl (goodIn_app (gi_cons (j := 17) rfl rfl (gi_cons (j := 18) rfl rfl (gi_cons (j := 2) rfl rfl (gi_cons (j := 3) rfl rfl (gi_cons (j := 4) rfl rfl (gi_cons (j := 5) rfl rfl (gi_cons (j := 6) rfl rfl (gi_cons (j := 7) rfl rfl (gi_cons (j := 8) rfl rfl (gi_cons (j := 23) rfl rfl (gi_cons (j := 24) rfl rfl (gi_cons (j := 25) rfl rfl (gi_cons (j := 26) rfl rfl (gi_nil)))))))))))))) (goodIn_sub iw_c_X4_readUnit_5_X9 gw_X9)))
set_option maxRecDepth 20000 in
theorem gf_c_X4_readUnit_5_c_X4_readCondition_5 : GoodIn wf_c_X4_readUnit_5 (wsV RX4 56 RX4 yX4_readCondition wf_c_X4_readCondition_5) := goodIn_app (gi_cons (j := 27) rfl rfl (gi_cons (j := 28) rfl rfl (gi_cons (j := 29) rfl rfl (gi_cons (j := 11) rfl rfl (gi_nil))))) (gi_cons (j := 30) rfl rfl (goodIn_app (goodIn_app (gi_cons (j := 31) rfl rfl (gi_cons (j := 32) rfl rfl (gi_cons (j := 33) rfl rfl (gi_cons (j := 4) rfl rfl (gi_cons (j := 34) rfl rfl (gi_cons (j := 17) rfl rfl (gi_cons (j := 35) rfl rfl (gi_cons (j := 36) rfl rfl (gi_cons (j := 37) rfl rfl (gi_cons (j := 11) rfl rfl (gi_cons (j := 0) rfl rfl (gi_cons (j := 1) rfl rfl (gi_cons (j := 2) rfl rfl (gi_cons (j := 3) rfl rfl (gi_cons (j := 5) rfl rfl (gi_cons (j := 6) rfl rfl (gi_cons (j := 7) rfl rfl (gi_cons (j := 8) rfl rfl (gi_cons (j := 9) rfl rfl (gi_cons (j := 10) rfl rfl (gi_cons (j := 12) rfl rfl (gi_cons (j := 13) rfl rfl (gi_cons (j := 14) rfl rfl (gi_cons (j := 15) rfl rfl (gi_cons (j := 16) rfl rfl (gi_cons (j := 18) rfl rfl (gi_cons (j := 19) rfl rfl (gi_cons (j := 20) rfl rfl (gi_cons (j := 21) rfl rfl (gi_cons (j := 22) rfl rfl (gi_cons (j := 23) rfl rfl (gi_cons (j := 24) rfl rfl (gi_cons (j := 25) rfl rfl (gi_cons (j := 26) rfl rfl (gi_cons (j := 27) rfl rfl (gi_cons (j := 28) rfl rfl (gi_cons (j := 29) rfl rfl (gi_cons (j := 38) rfl rfl (gi_cons (j := 39) rfl rfl (gi_cons (j := 40) rfl rfl (gi_cons (j := 41) rfl rfl (gi_cons (j := 42) rfl rfl (gi_cons (j := 43) rfl rfl (gi_cons (j := 44) rfl rfl (gi_cons (j := 45) rfl rfl (gi_cons (j := 46) rfl rfl (gi_cons (j := 47) rfl rfl (gi_cons (j := 48) rfl rfl (gi_cons (j := 49) rfl rfl (gi_cons (j := 50) rfl rfl (gi_cons (j := 51) rfl rfl (gi_cons (j := 52) rfl rfl (gi_cons (j := 53) rfl rfl (gi_cons (j := 54) rfl rfl (gi_cons (j := 55) rfl rfl (gi_cons (j := 56) rfl rfl (gi_cons (j := 57) rfl rfl (gi_cons (j := 58) rfl rfl (gi_cons (j := 59) rfl rfl (gi_cons (j := 60) rfl rfl (gi_cons (j := 61) rfl rfl (gi_cons (j := 62) rfl rfl (gi_cons (j := 63) rfl rfl (gi_cons (j := 64) rfl rfl (gi_cons (j := 65) rfl rfl (gi_cons (j := 66) rfl rfl (gi_cons (j := 67) rfl rfl (gi_cons (j := 68) rfl rfl (gi_cons (j := 69) rfl rfl (gi_cons (j := 70) rfl rfl (gi_cons (j := 71) rfl rfl (gi_cons (j := 72) rfl rfl (gi_cons (j := 73) rfl rfl (gi_cons (j := 74) rfl rfl (gi_cons (j := 75) rfl rfl (gi_cons (j := 76) rfl rfl (gi_cons (j := 77) rfl rfl (gi_cons (j := 78) rfl rfl (gi_cons (j := 79) rfl rfl (gi_cons (j := 80) rfl rfl (gi_cons (j := 81) rfl rfl (gi_cons (j := 82) rfl rfl (gi_cons (j := 83) rfl rfl (gi_cons (j := 84) rfl rfl (gi_cons (j := 85) rfl rfl (gi_cons (j := 86) rfl rfl (gi_cons (j := 87) rfl rfl (gi_cons (j := 88) rfl rfl (gi_cons (j := 89) rfl rfl (gi_cons (j := 90) rfl rfl (gi_cons (j := 91) rfl rfl (gi_cons (j := 92) rfl rfl (gi_cons (j := 93) rfl rfl (gi_cons (j := 94) rfl rfl (gi_cons (j := 95) rfl rfl (gi_cons (j := 96) rfl rfl (gi_cons (j := 97) rfl rfl (gi_cons (j := 98) rfl rfl (gi_cons (j := 99) rfl rfl (gi_cons (j := 100) rfl rfl (gi_cons (j := 101) rfl rfl (gi_cons (j := 102) rfl rfl (gi_cons (j := 103) rfl rfl (gi_cons (j := 104) rfl rfl (gi_cons (j := 105) rfl rfl (gi_cons (j := 106) rfl rfl (gi_cons (j := 107) rfl rfl (gi_cons (j := 108) rfl rfl (gi_cons (j := 109) rfl rfl (gi_cons (j := 110) rfl rfl (gi_cons (j := 111) rfl rfl (gi_nil)))))))))))))))))))))))))))))))))))))))))))))))))))))))))))))))))))))))))))))))))))))))))))))))))))))))))))))))) (goodIn_sub iw_c_X4_readUnit_5_X9 gw_X9)) (goodIn_sub iw_c_X4_readUnit_5_X4 gw_X4)))
set_option maxRecDepth 20000 in
theorem gf_c_X4_readUnit_5_c_X4_readUnit_6 : GoodIn wf_c_X4_readUnit_5 (wsV RX4 76 RX4 yX4_readUnit wf_c_X4_readUnit_6) := goodIn_app (gi_cons (j := 35) rfl rfl (gi_cons (j := 36) rfl rfl (gi_cons (j := 37) rfl rfl (gi_cons (j := 11) rfl rfl (gi_nil))))) (gi_cons (j := 0) rfl rfl (goodIn_app (goodIn_app (gi_cons (j := 1) rfl rfl (gi_cons (j := 2) rfl rfl (gi_cons (j := 3) rfl rfl (gi_cons (j := 4) rfl rfl (gi_cons (j := 5) rfl rfl (gi_cons (j := 6) rfl rfl (gi_cons (j := 7) rfl rfl (gi_cons (j := 8) rfl rfl (gi_cons (j := 9) rfl rfl (gi_cons (j := 10) rfl rfl (gi_cons (j := 11) rfl rfl (gi_cons (j := 12) rfl rfl (gi_cons (j := 13) rfl rfl (gi_cons (j := 14) rfl rfl (gi_cons (j := 15) rfl rfl (gi_cons (j := 16) rfl rfl (gi_cons (j := 17) rfl rfl (gi_cons (j := 18) rfl rfl (gi_cons (j := 19) rfl rfl (gi_cons (j := 20) rfl rfl (gi_cons (j := 21) rfl rfl (gi_cons (j := 22) rfl rfl (gi_cons (j := 23) rfl rfl (gi_cons (j := 24) rfl rfl (gi_cons (j := 25) rfl rfl (gi_cons (j := 26) rfl rfl (gi_cons (j := 27) rfl rfl (gi_cons (j := 28) rfl rfl (gi_cons (j := 29) rfl rfl (gi_cons (j := 30) rfl rfl (gi_cons (j := 31) rfl rfl (gi_cons (j := 32) rfl rfl (gi_cons (j := 33) rfl rfl (gi_cons (j := 34) rfl rfl (gi_cons (j := 35) rfl rfl (gi_cons (j := 36) rfl rfl (gi_cons (j := 37) rfl rfl (gi_cons (j := 38) rfl rfl (gi_cons (j := 39) rfl rfl (gi_cons (j := 40) rfl rfl (gi_cons (j := 41) rfl rfl (gi_cons (j := 42) rfl rfl (gi_cons (j := 43) rfl rfl (gi_cons (j := 44) rfl rfl (gi_cons (j := 45) rfl rfl (gi_cons (j := 46) rfl rfl (gi_cons (j := 47) rfl rfl (gi_cons (j := 48) rfl rfl (gi_cons (j := 49) rfl rfl (gi_cons (j := 50) rfl rfl (gi_cons (j := 51) rfl rfl (gi_cons (j := 52) rfl rfl (gi_cons (j := 53) rfl rfl (gi_cons (j := 54) rfl rfl (gi_cons (j := 55) rfl rfl (gi_cons (j := 56) rfl rfl (gi_cons (j := 57) rfl rfl (gi_cons (j := 58) rfl rfl (gi_cons (j := 59) rfl rfl (gi_cons (j := 60) rfl rfl (gi_cons (j := 61) rfl rfl (gi_cons (j := 62) rfl rfl (gi_cons (j := 63) rfl rfl (gi_cons (j := 64) rfl rfl (gi_cons (j := 65) rfl rfl (gi_cons (j := 66) rfl rfl (gi_cons (j := 67) rfl rfl (gi_cons (j := 68) rfl rfl (gi_cons (j := 69) rfl rfl (gi_cons (j := 70) rfl rfl (gi_cons (j := 71) rfl rfl (gi_cons (j := 72) rfl rfl (gi_cons (j := 73) rfl rfl (gi_cons (j := 74) rfl rfl (gi_cons (j := 75) rfl rfl (gi_cons (j := 76) rfl rfl (gi_cons (j := 77) rfl rfl (gi_cons (j := 78) rfl rfl (gi_cons (j := 79) rfl rfl (gi_cons (j := 80) rfl rfl (gi_cons (j := 81) rfl rfl (gi_cons (j := 82) rfl rfl (gi_cons (j := 83) rfl rfl (gi_cons (j := 84) rfl rfl (gi_cons (j := 85) rfl rfl (gi_cons (j := 86) rfl rfl (gi_cons (j := 87) rfl rfl (gi_cons (j := 88) rfl rfl (gi_cons (j := 89) rfl rfl (gi_cons (j := 90) rfl rfl (gi_cons (j := 91) rfl rfl (gi_cons (j := 92) rfl rfl (gi_cons (j := 93) rfl rfl (gi_cons (j := 94) rfl rfl (gi_cons (j := 95) rfl rfl (gi_cons (j := 96) rfl rfl (gi_cons (j := 97) rfl rfl (gi_cons (j := 98) rfl rfl (gi_cons (j := 99) rfl rfl (gi_cons (j := 100) rfl rfl (gi_cons (j := 101) rfl rfl (gi_cons (j := 102) rfl rfl (gi_cons (j := 103) rfl rfl (gi_cons (j := 104) rfl rfl (gi_cons (j := 105) rfl rfl (gi_cons (j := 106) rfl rfl (gi_cons (j := 107) rfl rfl (gi_cons (j := 108) rfl rfl (gi_cons (j := 109) rfl rfl (gi_cons (j := 110) rfl rfl (gi_cons (j := 111) rfl rfl (gi_nil)))))))))))))))))))))))))))))))))))))))))))))))))))))))))))))))))))))))))))))))))))))))))))))))))))))))))))))))) (goodIn_sub iw_c_X4_readUnit_5_X9 gw_X9)) (goodIn_sub iw_c_X4_readUnit_5_X4 gw_X4)))
set_option maxHeartbeats 4000000 in
set_option maxRecDepth 100000 in
theorem c_X4_readUnit_5 (l : Launch) (dC : Nat → ClassId) (dI : Nat → Nat → Nat) (sz : Nat) (h0 : Nat) (h1 : Nat) (h1_0 : Nat) (h1_f1 : Int32) (h1_f2 : Int32) (h1_f3 : Int32) (h1_0k : ClassId) (h1_0c : Nat → Int32) (h0_0 : Nat) (h0_f1 : Int32) (h0_2 : Nat) (h0_0k : ClassId) (h0_0c : Nat → Int32) (ts4 : Nat) (tv4 : Nat) (g_h1_f1 : RG h1_f1 0 240) (g_h1_f2 : RG h1_f2 0 240) (g_h1_f3 : RG h1_f3 (-1) 240) (a_h1_0c : AI h1_0c 0 255) (g_h0_f1 : RG h0_f1 0 240) : Met l yX4_readUnit wf_c_X4_readUnit_5 ({ frames := 10, cells := 0, slots := 0, locals := 241 }) (va_Pc [.ref h0, .ref h1, .int 4, .int 0] (fun U => U.heap.size = sz ∧ va_P (dC, dI) vwCl (wd_c_X4_readUnit_5 h1 h1_0 h1_f1 h1_f2 h1_f3 h1_0 h1_0k h1_0c h0 h0_0 h0_f1 h0_2 h0_0 h0_0k h0_0c) U.heap ∧ va_K (dC, dI) vwCl [(h1_0k, .int), (h0_0k, .int)] U ∧ va_D (fun _ => True) (wd_c_X4_readUnit_5 h1 h1_0 h1_f1 h1_f2 h1_f3 h1_0 h1_0k h1_0c h0 h0_0 h0_f1 h0_2 h0_0 h0_0k h0_0c) ∧ vk_R RX4 91 "vlrdph" ts4 U ∧ va_Z "java/lang/String" "COMPACT_STRINGS" "Z" (.int 1) (va_A (wd_c_X4_readUnit_5 h1 h1_0 h1_f1 h1_f2 h1_f3 h1_0 h1_0k h1_0c h0 h0_0 h0_f1 h0_2 h0_0 h0_0k h0_0c) sz) U U.heap ∧ va_OF "java/lang/String" "coder" "B" (.int 0) ts4 (va_A (wd_c_X4_readUnit_5 h1 h1_0 h1_f1 h1_f2 h1_f3 h1_0 h1_0k h1_0c h0 h0_0 h0_f1 h0_2 h0_0 h0_0k h0_0c) sz) U U.heap ∧ va_O "java/lang/String" ts4 (va_A (wd_c_X4_readUnit_5 h1 h1_0 h1_f1 h1_f2 h1_f3 h1_0 h1_0k h1_0c h0 h0_0 h0_f1 h0_2 h0_0 h0_0k h0_0c) sz) U U.heap ∧ va_OF "java/lang/String" "value" "[B" (.ref tv4) ts4 (va_A (wd_c_X4_readUnit_5 h1 h1_0 h1_f1 h1_f2 h1_f3 h1_0 h1_0k h1_0c h0 h0_0 h0_f1 h0_2 h0_0 h0_0k h0_0c) sz) U U.heap ∧ va_T .byte tv4 6 (fun j => .int ([118, 108, 114, 100, 112, 104].getD j 0)) (va_A (wd_c_X4_readUnit_5 h1 h1_0 h1_f1 h1_f2 h1_f3 h1_0 h1_0k h1_0c h0 h0_0 h0_f1 h0_2 h0_0 h0_0k h0_0c) sz) U U.heap)) (va_Qv (fun (u : (Int32) × (Int32) × (Int32) × (Nat → Int32)) => (RG u.1 0 240 ∧ RG u.2.1 (-1) 240 ∧ RG u.2.2.1 0 240)) (fun (u : (Int32) × (Int32) × (Int32) × (Nat → Int32)) t => va_P (dC, dI) vwCl (wd_c_X4_readUnit_5 h1 h1_0 h1_f1 (u.1) (u.2.1) h1_0 h1_0k h1_0c h0 h0_0 (u.2.2.1) h0_2 h0_0 h0_0k (u.2.2.2)) t.heap ∧ va_K (dC, dI) vwCl [] t ∧ va_D (va_A (wd_c_X4_readUnit_5 h1 h1_0 h1_f1 h1_f2 h1_f3 h1_0 h1_0k h1_0c h0 h0_0 h0_f1 h0_2 h0_0 h0_0k h0_0c) sz) (wd_c_X4_readUnit_5 h1 h1_0 h1_f1 (u.1) (u.2.1) h1_0 h1_0k h1_0c h0 h0_0 (u.2.2.1) h0_2 h0_0 h0_0k (u.2.2.2))) (va_A (wd_c_X4_readUnit_5 h1 h1_0 h1_f1 h1_f2 h1_f3 h1_0 h1_0k h1_0c h0 h0_0 h0_f1 h0_2 h0_0 h0_0k h0_0c) sz)) 0 0 (va_A (wd_c_X4_readUnit_5 h1 h1_0 h1_f1 h1_f2 h1_f3 h1_0 h1_0k h1_0c h0 h0_0 h0_f1 h0_2 h0_0 h0_0k h0_0c) sz) := by
  refine Met.ofW (cc := cX4_readUnit) (maxL := 5) (ret := none) (by decide) rfl ?_
  intro p e s m args below meth c s₁ B hml hv
  obtain ⟨rfl, hsz, hP, hK, hD0, hE_32, hE_10, hE_34, hE_33, hE_35, hE_36⟩ := hv
  have hx := B.exec
  have hb := B.bytes
  have hr := B.returns
  have hts := atoms_spec (ws := wf_c_X4_readUnit_5) B.pre
  have hown : s.vm.findClass RX4 = some m.cls := findClass_of_methodNamed B.named
  have hlocks := B.notSynchronized
  subst hsz
  have hD := hD0.self (sz := s.heap.size)
  generalize hAe : va_A (wd_c_X4_readUnit_5 h1 h1_0 h1_f1 h1_f2 h1_f3 h1_0 h1_0k h1_0c h0 h0_0 h0_f1 h0_2 h0_0 h0_0k h0_0c) s.heap.size = A at hD hE_10 hE_34 hE_33 hE_35 hE_36 ⊢
  have hA : ∀ q : Nat, s.heap.size ≤ q → A q := fun q h => by rw [← hAe]; exact Or.inr h
  have hP : va_P (dC, dI) vwCl (wd_c_X4_readUnit_5 h1 h1_0 h1_f1 h1_f2 h1_f3 h1_0 h1_0k h1_0c h0 h0_0 h0_f1 h0_2 h0_0 h0_0k h0_0c) s.heap := hP
  have hl := lv_entry ([.ref h0, .ref h1, .int 4, .int 0]) (n := 5) (Nat.le_of_ble_eq_true rfl)
  rw [lg_entry_eq]
  generalize (lg_sl ([.ref h0, .ref h1, .int 4, .int 0]) ++ List.replicate (5 - (lg_sl ([.ref h0, .ref h1, .int 4, .int 0])).length) Slot.unset).toArray = ls at hl ⊢
  have hl : lv_has ls 5 [(0, .ref h0), (1, .ref h1), (2, .int 4), (3, .int 0)] := hl
  obtain ⟨H, hHe⟩ : ∃ H : Heap, s.heap = H := ⟨_, rfl⟩
  have hS : va_S A s.heap H [] := by rw [hHe]; exact va_S.rf
  have hP : va_P (dC, dI) vwCl (wd_c_X4_readUnit_5 h1 h1_0 h1_f1 h1_f2 h1_f3 h1_0 h1_0k h1_0c h0 h0_0 h0_f1 h0_2 h0_0 h0_0k h0_0c) H := by rw [← hHe]; exact hP
  rw [hHe]
  refine wj (fun G hG hU => ?_)
  have J62 : ∀ (j62_h1_f2 : Int32) (j62_h1_f3 : Int32) (j62_h0_f1 : Int32) (j62_h0_0c : Nat → Int32) (g_h0_f1 : RG h0_f1 0 240) (g_h1_f1 : RG h1_f1 0 240) (g_h1_f2 : RG h1_f2 0 240) (g_h1_f3 : RG h1_f3 (-1) 240) (g_j62_h0_f1 : RG j62_h0_f1 0 240) (g_j62_h1_f2 : RG j62_h1_f2 0 240) (g_j62_h1_f3 : RG j62_h1_f3 (-1) 240) (H : Heap) (locs : List Loc) (ls : Array Slot) (hP : va_P (dC, dI) vwCl (wd_c_X4_readUnit_5 h1 h1_0 h1_f1 j62_h1_f2 j62_h1_f3 h1_0 h1_0k h1_0c h0 h0_0 j62_h0_f1 h0_2 h0_0 h0_0k j62_h0_0c) H) (hD : va_D A (wd_c_X4_readUnit_5 h1 h1_0 h1_f1 j62_h1_f2 j62_h1_f3 h1_0 h1_0k h1_0c h0 h0_0 j62_h0_f1 h0_2 h0_0 h0_0k j62_h0_0c)) (hS : va_S A s.heap H locs) (hl : lv_has ls 5 []), G H locs (F0 m 62 ls []) := by
    intro j62_h1_f2 j62_h1_f3 j62_h0_f1 j62_h0_0c g_h0_f1 g_h1_f1 g_h1_f2 g_h1_f3 g_j62_h0_f1 g_j62_h1_f2 g_j62_h1_f3 H locs ls hP hD hS hl
    refine hG _ _ _ ?_
    refine lv_goto (tgt := 126) hx hb dX4_readUnit_62 rfl ?_
    have hK9 := hK.sub (tys' := []) [] rfl
    exact W.vret hx hb hr (fun t ht hW => ⟨⟨(j62_h1_f2, j62_h1_f3, j62_h0_f1, j62_h0_0c), rfl, ⟨g_j62_h1_f2, g_j62_h1_f3, g_j62_h0_f1⟩, by rw [ht]; exact hP, va_K.moved hW.alike hK9, hD⟩, hS.F ht⟩) hS.2.2 dX4_readUnit_126
  have J24 : ∀ (j24_h1_f2 : Int32) (j24_h1_f3 : Int32) (j24_h0_f1 : Int32) (j24_h0_0c : Nat → Int32) (g_h0_f1 : RG h0_f1 0 240) (g_h1_f1 : RG h1_f1 0 240) (g_h1_f2 : RG h1_f2 0 240) (g_h1_f3 : RG h1_f3 (-1) 240) (g_j24_h0_f1 : RG j24_h0_f1 0 240) (g_j24_h1_f2 : RG j24_h1_f2 0 240) (g_j24_h1_f3 : RG j24_h1_f3 (-1) 240) (H : Heap) (locs : List Loc) (ls : Array Slot) (hP : va_P (dC, dI) vwCl (wd_c_X4_readUnit_5 h1 h1_0 h1_f1 j24_h1_f2 j24_h1_f3 h1_0 h1_0k h1_0c h0 h0_0 j24_h0_f1 h0_2 h0_0 h0_0k j24_h0_0c) H) (hD : va_D A (wd_c_X4_readUnit_5 h1 h1_0 h1_f1 j24_h1_f2 j24_h1_f3 h1_0 h1_0k h1_0c h0 h0_0 j24_h0_f1 h0_2 h0_0 h0_0k j24_h0_0c)) (hS : va_S A s.heap H locs) (hl : lv_has ls 5 [(0, .ref h0), (1, .ref h1), (2, .int 4)]), G H locs (F0 m 24 ls []) := by
    intro j24_h1_f2 j24_h1_f3 j24_h0_f1 j24_h0_0c g_h0_f1 g_h1_f1 g_h1_f2 g_h1_f3 g_j24_h0_f1 g_j24_h1_f2 g_j24_h1_f3 H locs ls hP hD hS hl
    refine hG _ _ _ ?_
    refine lv_aload_n hx hb dX4_readUnit_24 rfl (lv_at hl 1 rfl) ?_
    have hPc := hP.sub (ws' := (wd_c_X9_peek h1 h1_0 h1_f1 j24_h1_f2 j24_h1_f3 h1_0 h1_0k h1_0c)) [0, 1] rfl
    have hDc := hD.sub (ws' := (wd_c_X9_peek h1 h1_0 h1_f1 j24_h1_f2 j24_h1_f3 h1_0 h1_0k h1_0c)) [0, 1] (by decide) rfl
    have hKc := hK.sub (tys' := [(h1_0k, .int)]) [0] rfl
    have hFc := va_free (wc := (wd_c_X9_peek h1 h1_0 h1_f1 j24_h1_f2 j24_h1_f3 h1_0 h1_0k h1_0c)) hD hS hA [0, 1] rfl
    refine va_calli (va_runV (As := []) (rest := []) ⟨hx, hb, hml, hown, hts⟩ (c_X9_peek l dC dI H.size h1 h1_0 h1_f1 j24_h1_f2 j24_h1_f3 h1_0k h1_0c g_h1_f1 g_j24_h1_f2 g_j24_h1_f3 a_h1_0c) (cwV 0 hts gf_c_X4_readUnit_5_c_X9_peek rfl rfl rfl (by decide +kernel) ⟨Nat.le_of_ble_eq_true rfl, Nat.le_of_ble_eq_true rfl⟩) ⟨fun a U g mk q => by obtain ⟨q0, q1, qP, qK, qD⟩ := q; exact ⟨q0, q1, qP, va_K.moved (u := U) (U := U.calling g mk a) (Vm.Alike.refl U.vm) qK, qD⟩, va_recv hKc hPc (ci := 9) (q0 := 0) rfl rfl, fun U hU hW => ⟨rfl, by rw [hU], by rw [hU]; exact hPc, va_K.moved hW.alike hKc, hDc.weaken (fun _ _ _ _ => trivial)⟩⟩ rfl rfl hl.1 rfl (lv_room (Nat.le_of_ble_eq_true rfl)) dX4_readUnit_25 ⟨Nat.le_of_ble_eq_true rfl, Nat.le_of_ble_eq_true rfl⟩) hS (fun q _ h => hFc q h) hFc (fun r_1 x_2 t H1 locs ht hvm hw hB hz1 hk1 hS => ?_)
    obtain ⟨hP1, hK1, hD1⟩ := hB
    rw [ht] at hP1
    obtain ⟨hP, hD⟩ := va_join (wr := [(h0, .inr (4, [.ref h0_0, .int j24_h0_f1, .ref h0_2])), (h0_0, .inl (h0_0k, 240, .inl j24_h0_0c))]) (w1 := (wd_c_X9_peek h1 h1_0 h1_f1 x_2 j24_h1_f3 h1_0 h1_0k h1_0c)) hP hD [0, 1] [2, 3] rfl rfl (by decide) (by decide) hk1 hFc hP1 hD1
    have hP := hP.sub (ws' := (wd_c_X4_readUnit_5 h1 h1_0 h1_f1 x_2 j24_h1_f3 h1_0 h1_0k h1_0c h0 h0_0 j24_h0_f1 h0_2 h0_0 h0_0k j24_h0_0c)) [2, 3, 0, 1] rfl
    have hD := hD.sub (ws' := (wd_c_X4_readUnit_5 h1 h1_0 h1_f1 x_2 j24_h1_f3 h1_0 h1_0k h1_0c h0 h0_0 j24_h0_f1 h0_2 h0_0 h0_0k j24_h0_0c)) [2, 3, 0, 1] (by decide) rfl
    generalize H1 = H at hP hS ⊢
    rcases hw with ⟨h_3, h_4, h_5⟩ | ⟨h_6, h_7, h_8, h_9⟩
    · rw [h_3]
      refine lv_istore (lv' := [(4, .int (-1)), (0, .ref h0), (1, .ref h1), (2, .int 4)]) hx hb dX4_readUnit_28 hl (Nat.le_of_ble_eq_true rfl) rfl (fun ls hl => ?_)
      refine lv_iload hx hb dX4_readUnit_30 (lv_at hl 0 rfl) ?_
      have hPc := hP.sub (ws' := []) [] rfl
      have hDc := hD.sub (ws' := []) [] (by decide) rfl
      have hKc := hK.sub (tys' := []) [] rfl
      have hFc := va_free (wc := []) hD hS hA [] rfl
      refine va_calli (va_runS (As := [.int (-1)]) (rest := []) ⟨hx, hb, hml, hown, hts⟩ (c_X4_isComparison l dC dI H.size (-1) (RG_k (-1) (-1) rfl)) (va_cwS 1 hts gf_c_X4_readUnit_5_c_X4_isComparison rfl rfl rfl (by decide +kernel) ⟨Nat.le_of_ble_eq_true rfl, Nat.le_of_ble_eq_true rfl⟩) ⟨fun a U g mk q => by obtain ⟨q0, q1, qP, qK, qD⟩ := q; exact ⟨q0, q1, qP, va_K.moved (u := U) (U := U.calling g mk a) (Vm.Alike.refl U.vm) qK, qD⟩, fun U hU hW => ⟨rfl, by rw [hU], by rw [hU]; exact hPc, va_K.moved hW.alike hKc, hDc.weaken (fun _ _ _ _ => trivial)⟩⟩ rfl rfl hl.1 rfl (lv_room (Nat.le_of_ble_eq_true rfl)) dX4_readUnit_32 ⟨Nat.le_of_ble_eq_true rfl, Nat.le_of_ble_eq_true rfl⟩) hS (fun q _ h => hFc q h) hFc (fun r_10 u t H1 locs ht hvm hw hB hz1 hk1 hS => ?_)
      obtain ⟨hP1, hK1, hD1⟩ := hB
      rw [ht] at hP1
      have hP := bv_still hP hk1
      generalize H1 = H at hP hS ⊢
      have h_11 := hw
      rw [h_11]
      refine lv_if_eq (tgt := 58) hx hb dX4_readUnit_35 rfl (fun c_12 => ?_) (fun c_12 => absurd c_12 (by decide))
      refine lv_aload_n hx hb dX4_readUnit_58 rfl (lv_at hl 2 rfl) ?_
      have hPc := hP.sub (ws' := (wd_c_X9_refuseHere h1 h1_0 h1_f1 x_2 j24_h1_f3)) [0] rfl
      have hDc := hD.sub (ws' := (wd_c_X9_refuseHere h1 h1_0 h1_f1 x_2 j24_h1_f3)) [0] (by decide) rfl
      have hKc := hK.sub (tys' := []) [] rfl
      have hFc := va_free (wc := (wd_c_X9_refuseHere h1 h1_0 h1_f1 x_2 j24_h1_f3)) hD hS hA [0] rfl
      refine va_callv (va_runV (As := []) (rest := []) ⟨hx, hb, hml, hown, hts⟩ (c_X9_refuseHere l dC dI H.size h1 h1_0 h1_f1 x_2 j24_h1_f3 g_h1_f1 h_4 g_j24_h1_f3) (cwV 0 hts gf_c_X4_readUnit_5_c_X9_refuseHere rfl rfl rfl (by decide +kernel) ⟨Nat.le_of_ble_eq_true rfl, Nat.le_of_ble_eq_true rfl⟩) ⟨fun a U g mk q => by obtain ⟨q0, q1, qP, qK, qD⟩ := q; exact ⟨q0, q1, qP, va_K.moved (u := U) (U := U.calling g mk a) (Vm.Alike.refl U.vm) qK, qD⟩, va_recv hKc hPc (ci := 9) (q0 := 0) rfl rfl, fun U hU hW => ⟨rfl, by rw [hU], by rw [hU]; exact hPc, va_K.moved hW.alike hKc, hDc.weaken (fun _ _ _ _ => trivial)⟩⟩ rfl rfl hl.1 rfl (lv_room (Nat.le_of_ble_eq_true rfl)) dX4_readUnit_59 ⟨Nat.le_of_ble_eq_true rfl, Nat.le_of_ble_eq_true rfl⟩) hS (fun q _ h => hFc q h) hFc (fun x_14 t H1 locs ht hvm hw hB hz1 hk1 hS => ?_)
      obtain ⟨hP1, hK1, hD1⟩ := hB
      rw [ht] at hP1
      obtain ⟨hP, hD⟩ := va_join (wr := [(h1_0, .inl (h1_0k, 240, .inl h1_0c)), (h0, .inr (4, [.ref h0_0, .int j24_h0_f1, .ref h0_2])), (h0_0, .inl (h0_0k, 240, .inl j24_h0_0c))]) (w1 := (wd_c_X9_refuseHere h1 h1_0 h1_f1 x_2 x_14)) hP hD [0] [1, 2, 3] rfl rfl (by decide) (by decide) hk1 hFc hP1 hD1
      have hP := hP.sub (ws' := (wd_c_X4_readUnit_5 h1 h1_0 h1_f1 x_2 x_14 h1_0 h1_0k h1_0c h0 h0_0 j24_h0_f1 h0_2 h0_0 h0_0k j24_h0_0c)) [3, 0, 1, 2] rfl
      have hD := hD.sub (ws' := (wd_c_X4_readUnit_5 h1 h1_0 h1_f1 x_2 x_14 h1_0 h1_0k h1_0c h0 h0_0 j24_h0_f1 h0_2 h0_0 h0_0k j24_h0_0c)) [3, 0, 1, 2] (by decide) rfl
      generalize H1 = H at hP hS ⊢
      have h_15 := hw
      exact hU _ _ _ (J62 x_2 x_14 j24_h0_f1 j24_h0_0c g_h0_f1 g_h1_f1 g_h1_f2 g_h1_f3 g_j24_h0_f1 h_4 (RG_w h_15 (by decide)) _ _ _ hP hD hS (lv_sub hl [] rfl))
    · refine lv_istore (lv' := [(4, .int r_1), (0, .ref h0), (1, .ref h1), (2, .int 4)]) hx hb dX4_readUnit_28 hl (Nat.le_of_ble_eq_true rfl) rfl (fun ls hl => ?_)
      refine lv_iload hx hb dX4_readUnit_30 (lv_at hl 0 rfl) ?_
      have hPc := hP.sub (ws' := []) [] rfl
      have hDc := hD.sub (ws' := []) [] (by decide) rfl
      have hKc := hK.sub (tys' := []) [] rfl
      have hFc := va_free (wc := []) hD hS hA [] rfl
      refine va_calli (va_runS (As := [.int r_1]) (rest := []) ⟨hx, hb, hml, hown, hts⟩ (c_X4_isComparison_1 l dC dI H.size r_1 h_6) (va_cwS 1 hts gf_c_X4_readUnit_5_c_X4_isComparison_1 rfl rfl rfl (by decide +kernel) ⟨Nat.le_of_ble_eq_true rfl, Nat.le_of_ble_eq_true rfl⟩) ⟨fun a U g mk q => by obtain ⟨q0, q1, qP, qK, qD⟩ := q; exact ⟨q0, q1, qP, va_K.moved (u := U) (U := U.calling g mk a) (Vm.Alike.refl U.vm) qK, qD⟩, fun U hU hW => ⟨rfl, by rw [hU], by rw [hU]; exact hPc, va_K.moved hW.alike hKc, hDc.weaken (fun _ _ _ _ => trivial)⟩⟩ rfl rfl hl.1 rfl (lv_room (Nat.le_of_ble_eq_true rfl)) dX4_readUnit_32 ⟨Nat.le_of_ble_eq_true rfl, Nat.le_of_ble_eq_true rfl⟩) hS (fun q _ h => hFc q h) hFc (fun r_16 u t H1 locs ht hvm hw hB hz1 hk1 hS => ?_)
      obtain ⟨hP1, hK1, hD1⟩ := hB
      rw [ht] at hP1
      have hP := bv_still hP hk1
      generalize H1 = H at hP hS ⊢
      rcases hw with h_17 | ⟨h_18, h_19⟩
      · rw [h_17]
        refine lv_if_eq (tgt := 58) hx hb dX4_readUnit_35 rfl (fun c_20 => ?_) (fun c_20 => absurd c_20 (by decide))
        refine lv_aload_n hx hb dX4_readUnit_58 rfl (lv_at hl 2 rfl) ?_
        have hPc := hP.sub (ws' := (wd_c_X9_refuseHere h1 h1_0 h1_f1 x_2 j24_h1_f3)) [0] rfl
        have hDc := hD.sub (ws' := (wd_c_X9_refuseHere h1 h1_0 h1_f1 x_2 j24_h1_f3)) [0] (by decide) rfl
        have hKc := hK.sub (tys' := []) [] rfl
        have hFc := va_free (wc := (wd_c_X9_refuseHere h1 h1_0 h1_f1 x_2 j24_h1_f3)) hD hS hA [0] rfl
        refine va_callv (va_runV (As := []) (rest := []) ⟨hx, hb, hml, hown, hts⟩ (c_X9_refuseHere l dC dI H.size h1 h1_0 h1_f1 x_2 j24_h1_f3 (RG_w h_8 (by decide)) (RG_w h_7 (by decide)) g_j24_h1_f3) (cwV 0 hts gf_c_X4_readUnit_5_c_X9_refuseHere rfl rfl rfl (by decide +kernel) ⟨Nat.le_of_ble_eq_true rfl, Nat.le_of_ble_eq_true rfl⟩) ⟨fun a U g mk q => by obtain ⟨q0, q1, qP, qK, qD⟩ := q; exact ⟨q0, q1, qP, va_K.moved (u := U) (U := U.calling g mk a) (Vm.Alike.refl U.vm) qK, qD⟩, va_recv hKc hPc (ci := 9) (q0 := 0) rfl rfl, fun U hU hW => ⟨rfl, by rw [hU], by rw [hU]; exact hPc, va_K.moved hW.alike hKc, hDc.weaken (fun _ _ _ _ => trivial)⟩⟩ rfl rfl hl.1 rfl (lv_room (Nat.le_of_ble_eq_true rfl)) dX4_readUnit_59 ⟨Nat.le_of_ble_eq_true rfl, Nat.le_of_ble_eq_true rfl⟩) hS (fun q _ h => hFc q h) hFc (fun x_22 t H1 locs ht hvm hw hB hz1 hk1 hS => ?_)
        obtain ⟨hP1, hK1, hD1⟩ := hB
        rw [ht] at hP1
        obtain ⟨hP, hD⟩ := va_join (wr := [(h1_0, .inl (h1_0k, 240, .inl h1_0c)), (h0, .inr (4, [.ref h0_0, .int j24_h0_f1, .ref h0_2])), (h0_0, .inl (h0_0k, 240, .inl j24_h0_0c))]) (w1 := (wd_c_X9_refuseHere h1 h1_0 h1_f1 x_2 x_22)) hP hD [0] [1, 2, 3] rfl rfl (by decide) (by decide) hk1 hFc hP1 hD1
        have hP := hP.sub (ws' := (wd_c_X4_readUnit_5 h1 h1_0 h1_f1 x_2 x_22 h1_0 h1_0k h1_0c h0 h0_0 j24_h0_f1 h0_2 h0_0 h0_0k j24_h0_0c)) [3, 0, 1, 2] rfl
        have hD := hD.sub (ws' := (wd_c_X4_readUnit_5 h1 h1_0 h1_f1 x_2 x_22 h1_0 h1_0k h1_0c h0 h0_0 j24_h0_f1 h0_2 h0_0 h0_0k j24_h0_0c)) [3, 0, 1, 2] (by decide) rfl
        generalize H1 = H at hP hS ⊢
        have h_23 := hw
        exact hU _ _ _ (J62 x_2 x_22 j24_h0_f1 j24_h0_0c g_h0_f1 (RG_w h_8 (by decide)) g_h1_f2 g_h1_f3 g_j24_h0_f1 (RG_w h_7 (by decide)) (RG_w h_23 (by decide)) _ _ _ hP hD hS (lv_sub hl [] rfl))
      · rw [h_18]
        refine lv_if_eq (tgt := 58) hx hb dX4_readUnit_35 rfl (fun c_24 => absurd c_24 (by decide)) (fun c_24 => ?_)
        refine lv_aload_n hx hb dX4_readUnit_38 rfl (lv_at hl 2 rfl) ?_
        have hPc := hP.sub (ws' := (wd_c_X9_skip h1 h1_0 h1_f1 x_2 j24_h1_f3)) [0] rfl
        have hDc := hD.sub (ws' := (wd_c_X9_skip h1 h1_0 h1_f1 x_2 j24_h1_f3)) [0] (by decide) rfl
        have hKc := hK.sub (tys' := []) [] rfl
        have hFc := va_free (wc := (wd_c_X9_skip h1 h1_0 h1_f1 x_2 j24_h1_f3)) hD hS hA [0] rfl
        refine va_callv (va_runV (As := []) (rest := []) ⟨hx, hb, hml, hown, hts⟩ (c_X9_skip l dC dI H.size h1 h1_0 h1_f1 x_2 j24_h1_f3 (RG_w h_8 (by decide)) h_7 g_j24_h1_f3) (cwV 0 hts gf_c_X4_readUnit_5_c_X9_skip rfl rfl rfl (by decide +kernel) ⟨Nat.le_of_ble_eq_true rfl, Nat.le_of_ble_eq_true rfl⟩) ⟨fun a U g mk q => by obtain ⟨q0, q1, qP, qK, qD⟩ := q; exact ⟨q0, q1, qP, va_K.moved (u := U) (U := U.calling g mk a) (Vm.Alike.refl U.vm) qK, qD⟩, va_recv hKc hPc (ci := 9) (q0 := 0) rfl rfl, fun U hU hW => ⟨rfl, by rw [hU], by rw [hU]; exact hPc, va_K.moved hW.alike hKc, hDc.weaken (fun _ _ _ _ => trivial)⟩⟩ rfl rfl hl.1 rfl (lv_room (Nat.le_of_ble_eq_true rfl)) dX4_readUnit_39 ⟨Nat.le_of_ble_eq_true rfl, Nat.le_of_ble_eq_true rfl⟩) hS (fun q _ h => hFc q h) hFc (fun x_26 t H1 locs ht hvm hw hB hz1 hk1 hS => ?_)
        obtain ⟨hP1, hK1, hD1⟩ := hB
        rw [ht] at hP1
        obtain ⟨hP, hD⟩ := va_join (wr := [(h1_0, .inl (h1_0k, 240, .inl h1_0c)), (h0, .inr (4, [.ref h0_0, .int j24_h0_f1, .ref h0_2])), (h0_0, .inl (h0_0k, 240, .inl j24_h0_0c))]) (w1 := (wd_c_X9_skip h1 h1_0 h1_f1 x_26 j24_h1_f3)) hP hD [0] [1, 2, 3] rfl rfl (by decide) (by decide) hk1 hFc hP1 hD1
        have hP := hP.sub (ws' := (wd_c_X4_readUnit_5 h1 h1_0 h1_f1 x_26 j24_h1_f3 h1_0 h1_0k h1_0c h0 h0_0 j24_h0_f1 h0_2 h0_0 h0_0k j24_h0_0c)) [3, 0, 1, 2] rfl
        have hD := hD.sub (ws' := (wd_c_X4_readUnit_5 h1 h1_0 h1_f1 x_26 j24_h1_f3 h1_0 h1_0k h1_0c h0 h0_0 j24_h0_f1 h0_2 h0_0 h0_0k j24_h0_0c)) [3, 0, 1, 2] (by decide) rfl
        generalize H1 = H at hP hS ⊢
        rcases hw with ⟨h_27, h_28, h_29⟩
        refine lv_aload_n hx hb dX4_readUnit_42 rfl (lv_at hl 1 rfl) ?_
        refine lv_aload_n hx hb dX4_readUnit_43 rfl (lv_at hl 2 rfl) ?_
        refine lv_iload_n hx hb dX4_readUnit_44 rfl (lv_at hl 3 rfl) ?_
        have hPc := hP.sub (ws' := (wd_c_X4_readSum_4 h1 h1_0 h1_f1 x_26 j24_h1_f3 h1_0 h1_0k h1_0c h0 h0_0 j24_h0_f1 h0_2 h0_0 h0_0k j24_h0_0c)) [0, 1, 2, 3] rfl
        have hDc := hD.sub (ws' := (wd_c_X4_readSum_4 h1 h1_0 h1_f1 x_26 j24_h1_f3 h1_0 h1_0k h1_0c h0 h0_0 j24_h0_f1 h0_2 h0_0 h0_0k j24_h0_0c)) [0, 1, 2, 3] (by decide) rfl
        have hKc := hK.sub (tys' := [(h1_0k, .int), (h0_0k, .int)]) [0, 1] rfl
        have hFc := va_free (wc := (wd_c_X4_readSum_4 h1 h1_0 h1_f1 x_26 j24_h1_f3 h1_0 h1_0k h1_0c h0 h0_0 j24_h0_f1 h0_2 h0_0 h0_0k j24_h0_0c)) hD hS hA [0, 1, 2, 3] rfl
        refine va_callv (va_runV (As := [.ref h1, .int 4]) (rest := []) ⟨hx, hb, hml, hown, hts⟩ (c_X4_readSum_4 l dC dI H.size h0 h1 h1_0 h1_f1 x_26 j24_h1_f3 h1_0k h1_0c h0_0 j24_h0_f1 h0_2 h0_0k j24_h0_0c ts4 tv4 (RG_w h_8 (by decide)) (RG_w h_27 (by decide)) g_j24_h1_f3 a_h1_0c g_j24_h0_f1) (cwV 2 hts gf_c_X4_readUnit_5_c_X4_readSum_4 rfl rfl rfl (by decide +kernel) ⟨Nat.le_of_ble_eq_true rfl, Nat.le_of_ble_eq_true rfl⟩) ⟨fun a U g mk q => by obtain ⟨q0, q1, qP, qK, qD, qE0, qE1, qE2, qE3, qE4, qE5⟩ := q; exact ⟨q0, q1, qP, va_K.moved (u := U) (U := U.calling g mk a) (Vm.Alike.refl U.vm) qK, qD, vk_R.same rfl qE0, va_Z.moved (u := U) (U := U.calling g mk a) (Vm.Alike.refl U.vm) qE1, va_OF.moved (u := U) (U := U.calling g mk a) (Vm.Alike.refl U.vm) qE2, va_O.moved (u := U) (U := U.calling g mk a) (Vm.Alike.refl U.vm) qE3, va_OF.moved (u := U) (U := U.calling g mk a) (Vm.Alike.refl U.vm) qE4, va_T.moved (u := U) (U := U.calling g mk a) (Vm.Alike.refl U.vm) qE5⟩, va_recv hKc hPc (ci := 4) (q0 := 2) rfl rfl, fun U hU hW => ⟨rfl, by rw [hU], by rw [hU]; exact hPc, va_K.moved hW.alike hKc, hDc.weaken (fun _ _ _ _ => trivial), vk_R.warm hW hE_32, va_Z.moved hW.alike (by rw [hU]; exact (hE_10.kept hS.2.1).narrow hFc), va_OF.moved hW.alike (by rw [hU]; exact (hE_34.kept hS.2.1).narrow hFc), va_O.moved hW.alike (by rw [hU]; exact (hE_33.kept hS.2.1).narrow hFc), va_OF.moved hW.alike (by rw [hU]; exact (hE_35.kept hS.2.1).narrow hFc), va_T.moved hW.alike (by rw [hU]; exact (hE_36.kept hS.2.1).narrow hFc)⟩⟩ rfl rfl hl.1 rfl (lv_room (Nat.le_of_ble_eq_true rfl)) dX4_readUnit_45 ⟨Nat.le_of_ble_eq_true rfl, Nat.le_of_ble_eq_true rfl⟩) hS (fun q _ h => hFc q h) hFc (fun u t H1 locs ht hvm hw hB hz1 hk1 hS => ?_)
        obtain ⟨x_31, x_32, x_33, w_34⟩ := u
        obtain ⟨hP1, hK1, hD1⟩ := hB
        rw [ht] at hP1
        obtain ⟨hP, hD⟩ := va_join (wr := []) (w1 := (wd_c_X4_readSum_4 h1 h1_0 h1_f1 x_31 x_32 h1_0 h1_0k h1_0c h0 h0_0 x_33 h0_2 h0_0 h0_0k w_34)) hP hD [0, 1, 2, 3] [] rfl rfl (by decide) (by decide) hk1 hFc hP1 hD1
        have hP := hP.sub (ws' := (wd_c_X4_readUnit_5 h1 h1_0 h1_f1 x_31 x_32 h1_0 h1_0k h1_0c h0 h0_0 x_33 h0_2 h0_0 h0_0k w_34)) [0, 1, 2, 3] rfl
        have hD := hD.sub (ws' := (wd_c_X4_readUnit_5 h1 h1_0 h1_f1 x_31 x_32 h1_0 h1_0k h1_0c h0 h0_0 x_33 h0_2 h0_0 h0_0k w_34)) [0, 1, 2, 3] (by decide) rfl
        generalize H1 = H at hP hS ⊢
        rcases hw with ⟨h_35, h_36, h_37⟩
        refine lv_aload_n hx hb dX4_readUnit_48 rfl (lv_at hl 1 rfl) ?_
        refine lv_iload hx hb dX4_readUnit_49 (lv_at hl 0 rfl) ?_
        refine lv_ineg hx hb dX4_readUnit_51 ?_
        refine lv_topi (fun x_38 ex_38 => ?_)
        have g_39 : RG x_38 (-62) (-60) := RG_neg ex_38 h_19 (by decide)
        have hPc := hP.sub (ws' := (wd_c_X4_emit h0 h0_0 x_33 h0_2 h0_0 h0_0k w_34)) [2, 3] rfl
        have hDc := hD.sub (ws' := (wd_c_X4_emit h0 h0_0 x_33 h0_2 h0_0 h0_0k w_34)) [2, 3] (by decide) rfl
        have hKc := hK.sub (tys' := [(h0_0k, .int)]) [1] rfl
        have hFc := va_free (wc := (wd_c_X4_emit h0 h0_0 x_33 h0_2 h0_0 h0_0k w_34)) hD hS hA [2, 3] rfl
        refine va_callv (va_runV (As := [.int x_38]) (rest := []) ⟨hx, hb, hml, hown, hts⟩ (c_X4_emit l dC dI H.size h0 x_38 h0_0 x_33 h0_2 h0_0k w_34 h_37) (cwV 1 hts gf_c_X4_readUnit_5_c_X4_emit rfl rfl rfl (by decide +kernel) ⟨Nat.le_of_ble_eq_true rfl, Nat.le_of_ble_eq_true rfl⟩) ⟨fun a U g mk q => by obtain ⟨q0, q1, qP, qK, qD⟩ := q; exact ⟨q0, q1, qP, va_K.moved (u := U) (U := U.calling g mk a) (Vm.Alike.refl U.vm) qK, qD⟩, va_recv hKc hPc (ci := 4) (q0 := 0) rfl rfl, fun U hU hW => ⟨rfl, by rw [hU], by rw [hU]; exact hPc, va_K.moved hW.alike hKc, hDc.weaken (fun _ _ _ _ => trivial)⟩⟩ rfl rfl hl.1 rfl (lv_room (Nat.le_of_ble_eq_true rfl)) dX4_readUnit_52 ⟨Nat.le_of_ble_eq_true rfl, Nat.le_of_ble_eq_true rfl⟩) hS (fun q _ h => hFc q h) hFc (fun u t H1 locs ht hvm hw hB hz1 hk1 hS => ?_)
        obtain ⟨x_41, w_42⟩ := u
        obtain ⟨hP1, hK1, hD1⟩ := hB
        rw [ht] at hP1
        obtain ⟨hP, hD⟩ := va_join (wr := [(h1, .inr (9, [.ref h1_0, .int h1_f1, .int x_31, .int x_32])), (h1_0, .inl (h1_0k, 240, .inl h1_0c))]) (w1 := (wd_c_X4_emit h0 h0_0 x_41 h0_2 h0_0 h0_0k w_42)) hP hD [2, 3] [0, 1] rfl rfl (by decide) (by decide) hk1 hFc hP1 hD1
        have hP := hP.sub (ws' := (wd_c_X4_readUnit_5 h1 h1_0 h1_f1 x_31 x_32 h1_0 h1_0k h1_0c h0 h0_0 x_41 h0_2 h0_0 h0_0k w_42)) [0, 1, 2, 3] rfl
        have hD := hD.sub (ws' := (wd_c_X4_readUnit_5 h1 h1_0 h1_f1 x_31 x_32 h1_0 h1_0k h1_0c h0 h0_0 x_41 h0_2 h0_0 h0_0k w_42)) [0, 1, 2, 3] (by decide) rfl
        generalize H1 = H at hP hS ⊢
        have h_43 := hw
        refine lv_goto (tgt := 62) hx hb dX4_readUnit_55 rfl ?_
        exact hU _ _ _ (J62 x_31 x_32 x_41 w_42 g_h0_f1 (RG_w h_8 (by decide)) g_h1_f2 g_h1_f3 (RG_w h_43 (by decide)) h_35 h_36 _ _ _ hP hD hS (lv_sub hl [] rfl))
  have J14 : ∀ (j14_h1_f2 : Int32) (g_h0_f1 : RG h0_f1 0 240) (g_h1_f1 : RG h1_f1 0 240) (g_h1_f2 : RG h1_f2 0 240) (g_h1_f3 : RG h1_f3 (-1) 240) (g_j14_h1_f2 : RG j14_h1_f2 0 240) (H : Heap) (locs : List Loc) (ls : Array Slot) (hP : va_P (dC, dI) vwCl (wd_c_X4_readUnit_5 h1 h1_0 h1_f1 j14_h1_f2 h1_f3 h1_0 h1_0k h1_0c h0 h0_0 h0_f1 h0_2 h0_0 h0_0k h0_0c) H) (hD : va_D A (wd_c_X4_readUnit_5 h1 h1_0 h1_f1 j14_h1_f2 h1_f3 h1_0 h1_0k h1_0c h0 h0_0 h0_f1 h0_2 h0_0 h0_0k h0_0c)) (hS : va_S A s.heap H locs) (hl : lv_has ls 5 [(0, .ref h0), (1, .ref h1), (2, .int 4), (3, .int 0)]), G H locs (F0 m 14 ls []) := by
    intro j14_h1_f2 g_h0_f1 g_h1_f1 g_h1_f2 g_h1_f3 g_j14_h1_f2 H locs ls hP hD hS hl
    refine hG _ _ _ ?_
    refine lv_iload_n hx hb dX4_readUnit_14 rfl (lv_at hl 3 rfl) ?_
    refine lv_if_ne (tgt := 24) hx hb dX4_readUnit_15 rfl (fun c_44 => absurd c_44 (by decide)) (fun c_44 => ?_)
    refine lv_aload_n hx hb dX4_readUnit_18 rfl (lv_at hl 0 rfl) ?_
    refine lv_aload_n hx hb dX4_readUnit_19 rfl (lv_at hl 1 rfl) ?_
    refine lv_iload_n hx hb dX4_readUnit_20 rfl (lv_at hl 2 rfl) ?_
    have hPc := hP.sub (ws' := (wd_c_X4_readSum_4 h1 h1_0 h1_f1 j14_h1_f2 h1_f3 h1_0 h1_0k h1_0c h0 h0_0 h0_f1 h0_2 h0_0 h0_0k h0_0c)) [0, 1, 2, 3] rfl
    have hDc := hD.sub (ws' := (wd_c_X4_readSum_4 h1 h1_0 h1_f1 j14_h1_f2 h1_f3 h1_0 h1_0k h1_0c h0 h0_0 h0_f1 h0_2 h0_0 h0_0k h0_0c)) [0, 1, 2, 3] (by decide) rfl
    have hKc := hK.sub (tys' := [(h1_0k, .int), (h0_0k, .int)]) [0, 1] rfl
    have hFc := va_free (wc := (wd_c_X4_readSum_4 h1 h1_0 h1_f1 j14_h1_f2 h1_f3 h1_0 h1_0k h1_0c h0 h0_0 h0_f1 h0_2 h0_0 h0_0k h0_0c)) hD hS hA [0, 1, 2, 3] rfl
    refine va_callv (va_runV (As := [.ref h1, .int 4]) (rest := []) ⟨hx, hb, hml, hown, hts⟩ (c_X4_readSum_4 l dC dI H.size h0 h1 h1_0 h1_f1 j14_h1_f2 h1_f3 h1_0k h1_0c h0_0 h0_f1 h0_2 h0_0k h0_0c ts4 tv4 g_h1_f1 g_j14_h1_f2 g_h1_f3 a_h1_0c g_h0_f1) (cwV 2 hts gf_c_X4_readUnit_5_c_X4_readSum_4 rfl rfl rfl (by decide +kernel) ⟨Nat.le_of_ble_eq_true rfl, Nat.le_of_ble_eq_true rfl⟩) ⟨fun a U g mk q => by obtain ⟨q0, q1, qP, qK, qD, qE0, qE1, qE2, qE3, qE4, qE5⟩ := q; exact ⟨q0, q1, qP, va_K.moved (u := U) (U := U.calling g mk a) (Vm.Alike.refl U.vm) qK, qD, vk_R.same rfl qE0, va_Z.moved (u := U) (U := U.calling g mk a) (Vm.Alike.refl U.vm) qE1, va_OF.moved (u := U) (U := U.calling g mk a) (Vm.Alike.refl U.vm) qE2, va_O.moved (u := U) (U := U.calling g mk a) (Vm.Alike.refl U.vm) qE3, va_OF.moved (u := U) (U := U.calling g mk a) (Vm.Alike.refl U.vm) qE4, va_T.moved (u := U) (U := U.calling g mk a) (Vm.Alike.refl U.vm) qE5⟩, va_recv hKc hPc (ci := 4) (q0 := 2) rfl rfl, fun U hU hW => ⟨rfl, by rw [hU], by rw [hU]; exact hPc, va_K.moved hW.alike hKc, hDc.weaken (fun _ _ _ _ => trivial), vk_R.warm hW hE_32, va_Z.moved hW.alike (by rw [hU]; exact (hE_10.kept hS.2.1).narrow hFc), va_OF.moved hW.alike (by rw [hU]; exact (hE_34.kept hS.2.1).narrow hFc), va_O.moved hW.alike (by rw [hU]; exact (hE_33.kept hS.2.1).narrow hFc), va_OF.moved hW.alike (by rw [hU]; exact (hE_35.kept hS.2.1).narrow hFc), va_T.moved hW.alike (by rw [hU]; exact (hE_36.kept hS.2.1).narrow hFc)⟩⟩ rfl rfl hl.1 rfl (lv_room (Nat.le_of_ble_eq_true rfl)) dX4_readUnit_21 ⟨Nat.le_of_ble_eq_true rfl, Nat.le_of_ble_eq_true rfl⟩) hS (fun q _ h => hFc q h) hFc (fun u t H1 locs ht hvm hw hB hz1 hk1 hS => ?_)
    obtain ⟨x_46, x_47, x_48, w_49⟩ := u
    obtain ⟨hP1, hK1, hD1⟩ := hB
    rw [ht] at hP1
    obtain ⟨hP, hD⟩ := va_join (wr := []) (w1 := (wd_c_X4_readSum_4 h1 h1_0 h1_f1 x_46 x_47 h1_0 h1_0k h1_0c h0 h0_0 x_48 h0_2 h0_0 h0_0k w_49)) hP hD [0, 1, 2, 3] [] rfl rfl (by decide) (by decide) hk1 hFc hP1 hD1
    have hP := hP.sub (ws' := (wd_c_X4_readUnit_5 h1 h1_0 h1_f1 x_46 x_47 h1_0 h1_0k h1_0c h0 h0_0 x_48 h0_2 h0_0 h0_0k w_49)) [0, 1, 2, 3] rfl
    have hD := hD.sub (ws' := (wd_c_X4_readUnit_5 h1 h1_0 h1_f1 x_46 x_47 h1_0 h1_0k h1_0c h0 h0_0 x_48 h0_2 h0_0 h0_0k w_49)) [0, 1, 2, 3] (by decide) rfl
    generalize H1 = H at hP hS ⊢
    rcases hw with ⟨h_50, h_51, h_52⟩
    exact hU _ _ _ (J24 x_46 x_47 x_48 w_49 g_h0_f1 g_h1_f1 g_h1_f2 g_h1_f3 h_52 h_50 h_51 _ _ _ hP hD hS (lv_sub hl [0, 1, 2] rfl))
  refine hG _ _ _ ?_
  refine lv_iload_n hx hb dX4_readUnit_0 rfl (lv_at hl 3 rfl) ?_
  refine lv_if_ne (tgt := 14) hx hb dX4_readUnit_1 rfl (fun c_53 => absurd c_53 (by decide)) (fun c_53 => ?_)
  refine lv_aload_n hx hb dX4_readUnit_4 rfl (lv_at hl 1 rfl) ?_
  have hPc := hP.sub (ws' := (wd_c_X9_peek h1 h1_0 h1_f1 h1_f2 h1_f3 h1_0 h1_0k h1_0c)) [0, 1] rfl
  have hDc := hD.sub (ws' := (wd_c_X9_peek h1 h1_0 h1_f1 h1_f2 h1_f3 h1_0 h1_0k h1_0c)) [0, 1] (by decide) rfl
  have hKc := hK.sub (tys' := [(h1_0k, .int)]) [0] rfl
  have hFc := va_free (wc := (wd_c_X9_peek h1 h1_0 h1_f1 h1_f2 h1_f3 h1_0 h1_0k h1_0c)) hD hS hA [0, 1] rfl
  refine va_calli (va_runV (As := []) (rest := []) ⟨hx, hb, hml, hown, hts⟩ (c_X9_peek l dC dI H.size h1 h1_0 h1_f1 h1_f2 h1_f3 h1_0k h1_0c g_h1_f1 g_h1_f2 g_h1_f3 a_h1_0c) (cwV 0 hts gf_c_X4_readUnit_5_c_X9_peek rfl rfl rfl (by decide +kernel) ⟨Nat.le_of_ble_eq_true rfl, Nat.le_of_ble_eq_true rfl⟩) ⟨fun a U g mk q => by obtain ⟨q0, q1, qP, qK, qD⟩ := q; exact ⟨q0, q1, qP, va_K.moved (u := U) (U := U.calling g mk a) (Vm.Alike.refl U.vm) qK, qD⟩, va_recv hKc hPc (ci := 9) (q0 := 0) rfl rfl, fun U hU hW => ⟨rfl, by rw [hU], by rw [hU]; exact hPc, va_K.moved hW.alike hKc, hDc.weaken (fun _ _ _ _ => trivial)⟩⟩ rfl rfl hl.1 rfl (lv_room (Nat.le_of_ble_eq_true rfl)) dX4_readUnit_5 ⟨Nat.le_of_ble_eq_true rfl, Nat.le_of_ble_eq_true rfl⟩) hS (fun q _ h => hFc q h) hFc (fun r_54 x_55 t H1 locs ht hvm hw hB hz1 hk1 hS => ?_)
  obtain ⟨hP1, hK1, hD1⟩ := hB
  rw [ht] at hP1
  obtain ⟨hP, hD⟩ := va_join (wr := [(h0, .inr (4, [.ref h0_0, .int h0_f1, .ref h0_2])), (h0_0, .inl (h0_0k, 240, .inl h0_0c))]) (w1 := (wd_c_X9_peek h1 h1_0 h1_f1 x_55 h1_f3 h1_0 h1_0k h1_0c)) hP hD [0, 1] [2, 3] rfl rfl (by decide) (by decide) hk1 hFc hP1 hD1
  have hP := hP.sub (ws' := (wd_c_X4_readUnit_5 h1 h1_0 h1_f1 x_55 h1_f3 h1_0 h1_0k h1_0c h0 h0_0 h0_f1 h0_2 h0_0 h0_0k h0_0c)) [2, 3, 0, 1] rfl
  have hD := hD.sub (ws' := (wd_c_X4_readUnit_5 h1 h1_0 h1_f1 x_55 h1_f3 h1_0 h1_0k h1_0c h0 h0_0 h0_f1 h0_2 h0_0 h0_0k h0_0c)) [2, 3, 0, 1] (by decide) rfl
  generalize H1 = H at hP hS ⊢
  rcases hw with ⟨h_56, h_57, h_58⟩ | ⟨h_59, h_60, h_61, h_62⟩
  · rw [h_56]
    have hPc := hP.sub (ws' := []) [] rfl
    have hDc := hD.sub (ws' := []) [] (by decide) rfl
    have hKc := hK.sub (tys' := []) [] rfl
    have hFc := va_free (wc := []) hD hS hA [] rfl
    refine va_calli (va_runS (As := [.int (-1)]) (rest := []) ⟨hx, hb, hml, hown, hts⟩ (c_X4_startsUnit l dC dI H.size (-1) (RG_k (-1) (-1) rfl)) (va_cwS 1 hts gf_c_X4_readUnit_5_c_X4_startsUnit rfl rfl rfl (by decide +kernel) ⟨Nat.le_of_ble_eq_true rfl, Nat.le_of_ble_eq_true rfl⟩) ⟨fun a U g mk q => by obtain ⟨q0, q1, qP, qK, qD⟩ := q; exact ⟨q0, q1, qP, va_K.moved (u := U) (U := U.calling g mk a) (Vm.Alike.refl U.vm) qK, qD⟩, fun U hU hW => ⟨rfl, by rw [hU], by rw [hU]; exact hPc, va_K.moved hW.alike hKc, hDc.weaken (fun _ _ _ _ => trivial)⟩⟩ rfl rfl hl.1 rfl (lv_room (Nat.le_of_ble_eq_true rfl)) dX4_readUnit_8 ⟨Nat.le_of_ble_eq_true rfl, Nat.le_of_ble_eq_true rfl⟩) hS (fun q _ h => hFc q h) hFc (fun r_63 u t H1 locs ht hvm hw hB hz1 hk1 hS => ?_)
    obtain ⟨hP1, hK1, hD1⟩ := hB
    rw [ht] at hP1
    have hP := bv_still hP hk1
    generalize H1 = H at hP hS ⊢
    have h_64 := hw
    rw [h_64]
    refine lv_if_ne (tgt := 65) hx hb dX4_readUnit_11 rfl (fun c_65 => absurd c_65 (by decide)) (fun c_65 => ?_)
    exact hU _ _ _ (J14 x_55 g_h0_f1 g_h1_f1 g_h1_f2 g_h1_f3 h_57 _ _ _ hP hD hS (lv_sub hl [0, 1, 2, 3] rfl))
  · have hPc := hP.sub (ws' := []) [] rfl
    have hDc := hD.sub (ws' := []) [] (by decide) rfl
    have hKc := hK.sub (tys' := []) [] rfl
    have hFc := va_free (wc := []) hD hS hA [] rfl
    refine va_calli (va_runS (As := [.int r_54]) (rest := []) ⟨hx, hb, hml, hown, hts⟩ (c_X4_startsUnit_1 l dC dI H.size r_54 h_59) (va_cwS 1 hts gf_c_X4_readUnit_5_c_X4_startsUnit_1 rfl rfl rfl (by decide +kernel) ⟨Nat.le_of_ble_eq_true rfl, Nat.le_of_ble_eq_true rfl⟩) ⟨fun a U g mk q => by obtain ⟨q0, q1, qP, qK, qD⟩ := q; exact ⟨q0, q1, qP, va_K.moved (u := U) (U := U.calling g mk a) (Vm.Alike.refl U.vm) qK, qD⟩, fun U hU hW => ⟨rfl, by rw [hU], by rw [hU]; exact hPc, va_K.moved hW.alike hKc, hDc.weaken (fun _ _ _ _ => trivial)⟩⟩ rfl rfl hl.1 rfl (lv_room (Nat.le_of_ble_eq_true rfl)) dX4_readUnit_8 ⟨Nat.le_of_ble_eq_true rfl, Nat.le_of_ble_eq_true rfl⟩) hS (fun q _ h => hFc q h) hFc (fun r_66 u t H1 locs ht hvm hw hB hz1 hk1 hS => ?_)
    obtain ⟨hP1, hK1, hD1⟩ := hB
    rw [ht] at hP1
    have hP := bv_still hP hk1
    generalize H1 = H at hP hS ⊢
    rcases hw with h_67 | ⟨h_68, h_69⟩
    · rw [h_67]
      refine lv_if_ne (tgt := 65) hx hb dX4_readUnit_11 rfl (fun c_70 => absurd c_70 (by decide)) (fun c_70 => ?_)
      exact hU _ _ _ (J14 x_55 g_h0_f1 (RG_w h_61 (by decide)) g_h1_f2 g_h1_f3 (RG_w h_60 (by decide)) _ _ _ hP hD hS (lv_sub hl [0, 1, 2, 3] rfl))
    · rw [h_68]
      refine lv_if_ne (tgt := 65) hx hb dX4_readUnit_11 rfl (fun c_71 => ?_) (fun c_71 => absurd c_71 (by decide))
      refine lv_iload_n hx hb dX4_readUnit_65 rfl (lv_at hl 2 rfl) ?_
      refine lv_bipush (v := 6) hx hb dX4_readUnit_66 kc_bipush_6 ?_
      refine lv_icmp_lt (tgt := 78) hx hb dX4_readUnit_68 rfl (fun c_72 => ?_) (fun c_72 => absurd c_72 (by decide))
      refine lv_aload_n hx hb dX4_readUnit_78 rfl (lv_at hl 1 rfl) ?_
      refine lv_bipush (v := 33) hx hb dX4_readUnit_79 kc_bipush_33 ?_
      have hPc := hP.sub (ws' := (wd_c_X9_take h1 h1_0 h1_f1 x_55 h1_f3 h1_0 h1_0k h1_0c)) [0, 1] rfl
      have hDc := hD.sub (ws' := (wd_c_X9_take h1 h1_0 h1_f1 x_55 h1_f3 h1_0 h1_0k h1_0c)) [0, 1] (by decide) rfl
      have hKc := hK.sub (tys' := [(h1_0k, .int)]) [0] rfl
      have hFc := va_free (wc := (wd_c_X9_take h1 h1_0 h1_f1 x_55 h1_f3 h1_0 h1_0k h1_0c)) hD hS hA [0, 1] rfl
      refine va_calli (va_runV (As := [.int 33]) (rest := []) ⟨hx, hb, hml, hown, hts⟩ (c_X9_take l dC dI H.size h1 33 h1_0 h1_f1 x_55 h1_f3 h1_0k h1_0c (RG_w (RG_k 33 33 rfl) (by decide)) (RG_w h_61 (by decide)) (RG_w h_60 (by decide)) g_h1_f3 a_h1_0c) (cwV 1 hts gf_c_X4_readUnit_5_c_X9_take rfl rfl rfl (by decide +kernel) ⟨Nat.le_of_ble_eq_true rfl, Nat.le_of_ble_eq_true rfl⟩) ⟨fun a U g mk q => by obtain ⟨q0, q1, qP, qK, qD⟩ := q; exact ⟨q0, q1, qP, va_K.moved (u := U) (U := U.calling g mk a) (Vm.Alike.refl U.vm) qK, qD⟩, va_recv hKc hPc (ci := 9) (q0 := 0) rfl rfl, fun U hU hW => ⟨rfl, by rw [hU], by rw [hU]; exact hPc, va_K.moved hW.alike hKc, hDc.weaken (fun _ _ _ _ => trivial)⟩⟩ rfl rfl hl.1 rfl (lv_room (Nat.le_of_ble_eq_true rfl)) dX4_readUnit_81 ⟨Nat.le_of_ble_eq_true rfl, Nat.le_of_ble_eq_true rfl⟩) hS (fun q _ h => hFc q h) hFc (fun r_73 x_74 t H1 locs ht hvm hw hB hz1 hk1 hS => ?_)
      obtain ⟨hP1, hK1, hD1⟩ := hB
      rw [ht] at hP1
      obtain ⟨hP, hD⟩ := va_join (wr := [(h0, .inr (4, [.ref h0_0, .int h0_f1, .ref h0_2])), (h0_0, .inl (h0_0k, 240, .inl h0_0c))]) (w1 := (wd_c_X9_take h1 h1_0 h1_f1 x_74 h1_f3 h1_0 h1_0k h1_0c)) hP hD [0, 1] [2, 3] rfl rfl (by decide) (by decide) hk1 hFc hP1 hD1
      have hP := hP.sub (ws' := (wd_c_X4_readUnit_5 h1 h1_0 h1_f1 x_74 h1_f3 h1_0 h1_0k h1_0c h0 h0_0 h0_f1 h0_2 h0_0 h0_0k h0_0c)) [2, 3, 0, 1] rfl
      have hD := hD.sub (ws' := (wd_c_X4_readUnit_5 h1 h1_0 h1_f1 x_74 h1_f3 h1_0 h1_0k h1_0c h0 h0_0 h0_f1 h0_2 h0_0 h0_0k h0_0c)) [2, 3, 0, 1] (by decide) rfl
      generalize H1 = H at hP hS ⊢
      rcases hw with ⟨h_75, h_76, h_77⟩ | ⟨h_78, h_79, h_80, h_81, h_82⟩
      · rw [h_75]
        refine lv_if_eq (tgt := 105) hx hb dX4_readUnit_84 rfl (fun c_83 => ?_) (fun c_83 => absurd c_83 (by decide))
        refine lv_aload_n hx hb dX4_readUnit_105 rfl (lv_at hl 1 rfl) ?_
        refine lv_bipush (v := 40) hx hb dX4_readUnit_106 kc_bipush_40 ?_
        have hPc := hP.sub (ws' := (wd_c_X9_expect_1 h1 h1_0 h1_f1 x_74 h1_f3 h1_0 h1_0k h1_0c)) [0, 1] rfl
        have hDc := hD.sub (ws' := (wd_c_X9_expect_1 h1 h1_0 h1_f1 x_74 h1_f3 h1_0 h1_0k h1_0c)) [0, 1] (by decide) rfl
        have hKc := hK.sub (tys' := [(h1_0k, .int)]) [0] rfl
        have hFc := va_free (wc := (wd_c_X9_expect_1 h1 h1_0 h1_f1 x_74 h1_f3 h1_0 h1_0k h1_0c)) hD hS hA [0, 1] rfl
        refine va_callv (va_runV (As := [.int 40]) (rest := []) ⟨hx, hb, hml, hown, hts⟩ (c_X9_expect_1 l dC dI H.size h1 40 h1_0 h1_f1 x_74 h1_f3 h1_0k h1_0c (RG_w (RG_k 40 40 rfl) (by decide)) (RG_w h_61 (by decide)) h_76 g_h1_f3 a_h1_0c) (cwV 1 hts gf_c_X4_readUnit_5_c_X9_expect_1 rfl rfl rfl (by decide +kernel) ⟨Nat.le_of_ble_eq_true rfl, Nat.le_of_ble_eq_true rfl⟩) ⟨fun a U g mk q => by obtain ⟨q0, q1, qP, qK, qD⟩ := q; exact ⟨q0, q1, qP, va_K.moved (u := U) (U := U.calling g mk a) (Vm.Alike.refl U.vm) qK, qD⟩, va_recv hKc hPc (ci := 9) (q0 := 0) rfl rfl, fun U hU hW => ⟨rfl, by rw [hU], by rw [hU]; exact hPc, va_K.moved hW.alike hKc, hDc.weaken (fun _ _ _ _ => trivial)⟩⟩ rfl rfl hl.1 rfl (lv_room (Nat.le_of_ble_eq_true rfl)) dX4_readUnit_108 ⟨Nat.le_of_ble_eq_true rfl, Nat.le_of_ble_eq_true rfl⟩) hS (fun q _ h => hFc q h) hFc (fun u t H1 locs ht hvm hw hB hz1 hk1 hS => ?_)
        obtain ⟨x_85, x_86⟩ := u
        obtain ⟨hP1, hK1, hD1⟩ := hB
        rw [ht] at hP1
        obtain ⟨hP, hD⟩ := va_join (wr := [(h0, .inr (4, [.ref h0_0, .int h0_f1, .ref h0_2])), (h0_0, .inl (h0_0k, 240, .inl h0_0c))]) (w1 := (wd_c_X9_expect_1 h1 h1_0 h1_f1 x_85 x_86 h1_0 h1_0k h1_0c)) hP hD [0, 1] [2, 3] rfl rfl (by decide) (by decide) hk1 hFc hP1 hD1
        have hP := hP.sub (ws' := (wd_c_X4_readUnit_5 h1 h1_0 h1_f1 x_85 x_86 h1_0 h1_0k h1_0c h0 h0_0 h0_f1 h0_2 h0_0 h0_0k h0_0c)) [2, 3, 0, 1] rfl
        have hD := hD.sub (ws' := (wd_c_X4_readUnit_5 h1 h1_0 h1_f1 x_85 x_86 h1_0 h1_0k h1_0c h0 h0_0 h0_f1 h0_2 h0_0 h0_0k h0_0c)) [2, 3, 0, 1] (by decide) rfl
        generalize H1 = H at hP hS ⊢
        rcases hw with ⟨h_87, h_88, h_89⟩
        refine lv_aload_n hx hb dX4_readUnit_111 rfl (lv_at hl 0 rfl) ?_
        refine lv_aload_n hx hb dX4_readUnit_112 rfl (lv_at hl 1 rfl) ?_
        refine lv_iload_n hx hb dX4_readUnit_113 rfl (lv_at hl 2 rfl) ?_
        refine lv_iconst (v := 1) hx hb dX4_readUnit_114 kc_iconst_1 ?_
        refine lv_iadd hx hb dX4_readUnit_115 ?_
        refine lv_topi (fun x_90 ex_90 => ?_)
        obtain rfl : x_90 = 5 := ex_90.trans (by decide)
        refine lv_iconst (v := 0) hx hb dX4_readUnit_116 kc_iconst_0 ?_
        have hPc := hP.sub (ws' := (wd_c_X4_readCondition_5 h1 h1_0 h1_f1 x_85 x_86 h1_0 h1_0k h1_0c h0 h0_0 h0_f1 h0_2 h0_0 h0_0k h0_0c)) [0, 1, 2, 3] rfl
        have hDc := hD.sub (ws' := (wd_c_X4_readCondition_5 h1 h1_0 h1_f1 x_85 x_86 h1_0 h1_0k h1_0c h0 h0_0 h0_f1 h0_2 h0_0 h0_0k h0_0c)) [0, 1, 2, 3] (by decide) rfl
        have hKc := hK.sub (tys' := [(h1_0k, .int), (h0_0k, .int)]) [0, 1] rfl
        have hFc := va_free (wc := (wd_c_X4_readCondition_5 h1 h1_0 h1_f1 x_85 x_86 h1_0 h1_0k h1_0c h0 h0_0 h0_f1 h0_2 h0_0 h0_0k h0_0c)) hD hS hA [0, 1, 2, 3] rfl
        refine va_callv (va_runV (As := [.ref h1, .int 5, .int 0]) (rest := []) ⟨hx, hb, hml, hown, hts⟩ (c_X4_readCondition_5 l dC dI H.size h0 h1 h1_0 h1_f1 x_85 x_86 h1_0k h1_0c h0_0 h0_f1 h0_2 h0_0k h0_0c ts4 tv4 (RG_w h_61 (by decide)) h_87 h_88 a_h1_0c g_h0_f1) (cwV 3 hts gf_c_X4_readUnit_5_c_X4_readCondition_5 rfl rfl rfl (by decide +kernel) ⟨Nat.le_of_ble_eq_true rfl, Nat.le_of_ble_eq_true rfl⟩) ⟨fun a U g mk q => by obtain ⟨q0, q1, qP, qK, qD, qE0, qE1, qE2, qE3, qE4, qE5⟩ := q; exact ⟨q0, q1, qP, va_K.moved (u := U) (U := U.calling g mk a) (Vm.Alike.refl U.vm) qK, qD, vk_R.same rfl qE0, va_Z.moved (u := U) (U := U.calling g mk a) (Vm.Alike.refl U.vm) qE1, va_OF.moved (u := U) (U := U.calling g mk a) (Vm.Alike.refl U.vm) qE2, va_O.moved (u := U) (U := U.calling g mk a) (Vm.Alike.refl U.vm) qE3, va_OF.moved (u := U) (U := U.calling g mk a) (Vm.Alike.refl U.vm) qE4, va_T.moved (u := U) (U := U.calling g mk a) (Vm.Alike.refl U.vm) qE5⟩, va_recv hKc hPc (ci := 4) (q0 := 2) rfl rfl, fun U hU hW => ⟨rfl, by rw [hU], by rw [hU]; exact hPc, va_K.moved hW.alike hKc, hDc.weaken (fun _ _ _ _ => trivial), vk_R.warm hW hE_32, va_Z.moved hW.alike (by rw [hU]; exact (hE_10.kept hS.2.1).narrow hFc), va_OF.moved hW.alike (by rw [hU]; exact (hE_34.kept hS.2.1).narrow hFc), va_O.moved hW.alike (by rw [hU]; exact (hE_33.kept hS.2.1).narrow hFc), va_OF.moved hW.alike (by rw [hU]; exact (hE_35.kept hS.2.1).narrow hFc), va_T.moved hW.alike (by rw [hU]; exact (hE_36.kept hS.2.1).narrow hFc)⟩⟩ rfl rfl hl.1 rfl (lv_room (Nat.le_of_ble_eq_true rfl)) dX4_readUnit_117 ⟨Nat.le_of_ble_eq_true rfl, Nat.le_of_ble_eq_true rfl⟩) hS (fun q _ h => hFc q h) hFc (fun u t H1 locs ht hvm hw hB hz1 hk1 hS => ?_)
        obtain ⟨x_92, x_93, x_94, w_95⟩ := u
        obtain ⟨hP1, hK1, hD1⟩ := hB
        rw [ht] at hP1
        obtain ⟨hP, hD⟩ := va_join (wr := []) (w1 := (wd_c_X4_readCondition_5 h1 h1_0 h1_f1 x_92 x_93 h1_0 h1_0k h1_0c h0 h0_0 x_94 h0_2 h0_0 h0_0k w_95)) hP hD [0, 1, 2, 3] [] rfl rfl (by decide) (by decide) hk1 hFc hP1 hD1
        have hP := hP.sub (ws' := (wd_c_X4_readUnit_5 h1 h1_0 h1_f1 x_92 x_93 h1_0 h1_0k h1_0c h0 h0_0 x_94 h0_2 h0_0 h0_0k w_95)) [0, 1, 2, 3] rfl
        have hD := hD.sub (ws' := (wd_c_X4_readUnit_5 h1 h1_0 h1_f1 x_92 x_93 h1_0 h1_0k h1_0c h0 h0_0 x_94 h0_2 h0_0 h0_0k w_95)) [0, 1, 2, 3] (by decide) rfl
        generalize H1 = H at hP hS ⊢
        rcases hw with ⟨h_96, h_97, h_98⟩
        refine lv_aload_n hx hb dX4_readUnit_120 rfl (lv_at hl 1 rfl) ?_
        refine lv_bipush (v := 41) hx hb dX4_readUnit_121 kc_bipush_41 ?_
        have hPc := hP.sub (ws' := (wd_c_X9_expect_1 h1 h1_0 h1_f1 x_92 x_93 h1_0 h1_0k h1_0c)) [0, 1] rfl
        have hDc := hD.sub (ws' := (wd_c_X9_expect_1 h1 h1_0 h1_f1 x_92 x_93 h1_0 h1_0k h1_0c)) [0, 1] (by decide) rfl
        have hKc := hK.sub (tys' := [(h1_0k, .int)]) [0] rfl
        have hFc := va_free (wc := (wd_c_X9_expect_1 h1 h1_0 h1_f1 x_92 x_93 h1_0 h1_0k h1_0c)) hD hS hA [0, 1] rfl
        refine va_callv (va_runV (As := [.int 41]) (rest := []) ⟨hx, hb, hml, hown, hts⟩ (c_X9_expect_1 l dC dI H.size h1 41 h1_0 h1_f1 x_92 x_93 h1_0k h1_0c (RG_w (RG_k 41 41 rfl) (by decide)) (RG_w h_61 (by decide)) h_96 h_97 a_h1_0c) (cwV 1 hts gf_c_X4_readUnit_5_c_X9_expect_1 rfl rfl rfl (by decide +kernel) ⟨Nat.le_of_ble_eq_true rfl, Nat.le_of_ble_eq_true rfl⟩) ⟨fun a U g mk q => by obtain ⟨q0, q1, qP, qK, qD⟩ := q; exact ⟨q0, q1, qP, va_K.moved (u := U) (U := U.calling g mk a) (Vm.Alike.refl U.vm) qK, qD⟩, va_recv hKc hPc (ci := 9) (q0 := 0) rfl rfl, fun U hU hW => ⟨rfl, by rw [hU], by rw [hU]; exact hPc, va_K.moved hW.alike hKc, hDc.weaken (fun _ _ _ _ => trivial)⟩⟩ rfl rfl hl.1 rfl (lv_room (Nat.le_of_ble_eq_true rfl)) dX4_readUnit_123 ⟨Nat.le_of_ble_eq_true rfl, Nat.le_of_ble_eq_true rfl⟩) hS (fun q _ h => hFc q h) hFc (fun u t H1 locs ht hvm hw hB hz1 hk1 hS => ?_)
        obtain ⟨x_100, x_101⟩ := u
        obtain ⟨hP1, hK1, hD1⟩ := hB
        rw [ht] at hP1
        obtain ⟨hP, hD⟩ := va_join (wr := [(h0, .inr (4, [.ref h0_0, .int x_94, .ref h0_2])), (h0_0, .inl (h0_0k, 240, .inl w_95))]) (w1 := (wd_c_X9_expect_1 h1 h1_0 h1_f1 x_100 x_101 h1_0 h1_0k h1_0c)) hP hD [0, 1] [2, 3] rfl rfl (by decide) (by decide) hk1 hFc hP1 hD1
        have hP := hP.sub (ws' := (wd_c_X4_readUnit_5 h1 h1_0 h1_f1 x_100 x_101 h1_0 h1_0k h1_0c h0 h0_0 x_94 h0_2 h0_0 h0_0k w_95)) [2, 3, 0, 1] rfl
        have hD := hD.sub (ws' := (wd_c_X4_readUnit_5 h1 h1_0 h1_f1 x_100 x_101 h1_0 h1_0k h1_0c h0 h0_0 x_94 h0_2 h0_0 h0_0k w_95)) [2, 3, 0, 1] (by decide) rfl
        generalize H1 = H at hP hS ⊢
        rcases hw with ⟨h_102, h_103, h_104⟩
        have hK9 := hK.sub (tys' := []) [] rfl
        exact W.vret hx hb hr (fun t ht hW => ⟨⟨(x_100, x_101, x_94, w_95), rfl, ⟨h_102, h_103, h_98⟩, by rw [ht]; exact hP, va_K.moved hW.alike hK9, hD⟩, hS.F ht⟩) hS.2.2 dX4_readUnit_126
      · rw [h_78]
        refine lv_if_eq (tgt := 105) hx hb dX4_readUnit_84 rfl (fun c_105 => absurd c_105 (by decide)) (fun c_105 => ?_)
        refine lv_aload_n hx hb dX4_readUnit_87 rfl (lv_at hl 0 rfl) ?_
        refine lv_aload_n hx hb dX4_readUnit_88 rfl (lv_at hl 1 rfl) ?_
        refine lv_iload_n hx hb dX4_readUnit_89 rfl (lv_at hl 2 rfl) ?_
        refine lv_iconst (v := 1) hx hb dX4_readUnit_90 kc_iconst_1 ?_
        refine lv_iadd hx hb dX4_readUnit_91 ?_
        refine lv_topi (fun x_106 ex_106 => ?_)
        obtain rfl : x_106 = 5 := ex_106.trans (by decide)
        refine lv_iconst (v := 0) hx hb dX4_readUnit_92 kc_iconst_0 ?_
        have hPc := hP.sub (ws' := (wd_c_X4_readUnit_6 h1 h1_0 h1_f1 x_74 h1_f3 h1_0 h1_0k h1_0c h0 h0_0 h0_f1 h0_2 h0_0 h0_0k h0_0c)) [0, 1, 2, 3] rfl
        have hDc := hD.sub (ws' := (wd_c_X4_readUnit_6 h1 h1_0 h1_f1 x_74 h1_f3 h1_0 h1_0k h1_0c h0 h0_0 h0_f1 h0_2 h0_0 h0_0k h0_0c)) [0, 1, 2, 3] (by decide) rfl
        have hKc := hK.sub (tys' := [(h1_0k, .int), (h0_0k, .int)]) [0, 1] rfl
        have hFc := va_free (wc := (wd_c_X4_readUnit_6 h1 h1_0 h1_f1 x_74 h1_f3 h1_0 h1_0k h1_0c h0 h0_0 h0_f1 h0_2 h0_0 h0_0k h0_0c)) hD hS hA [0, 1, 2, 3] rfl
        refine va_callv (va_runV (As := [.ref h1, .int 5, .int 0]) (rest := []) ⟨hx, hb, hml, hown, hts⟩ (c_X4_readUnit_6 l dC dI H.size h0 h1 h1_0 h1_f1 x_74 h1_f3 h1_0k h1_0c h0_0 h0_f1 h0_2 h0_0k h0_0c ts4 tv4 (RG_w h_61 (by decide)) (RG_w h_79 (by decide)) (RG_w h_81 (by decide)) a_h1_0c g_h0_f1) (cwV 3 hts gf_c_X4_readUnit_5_c_X4_readUnit_6 rfl rfl rfl (by decide +kernel) ⟨Nat.le_of_ble_eq_true rfl, Nat.le_of_ble_eq_true rfl⟩) ⟨fun a U g mk q => by obtain ⟨q0, q1, qP, qK, qD, qE0, qE1, qE2, qE3, qE4, qE5⟩ := q; exact ⟨q0, q1, qP, va_K.moved (u := U) (U := U.calling g mk a) (Vm.Alike.refl U.vm) qK, qD, vk_R.same rfl qE0, va_Z.moved (u := U) (U := U.calling g mk a) (Vm.Alike.refl U.vm) qE1, va_OF.moved (u := U) (U := U.calling g mk a) (Vm.Alike.refl U.vm) qE2, va_O.moved (u := U) (U := U.calling g mk a) (Vm.Alike.refl U.vm) qE3, va_OF.moved (u := U) (U := U.calling g mk a) (Vm.Alike.refl U.vm) qE4, va_T.moved (u := U) (U := U.calling g mk a) (Vm.Alike.refl U.vm) qE5⟩, va_recv hKc hPc (ci := 4) (q0 := 2) rfl rfl, fun U hU hW => ⟨rfl, by rw [hU], by rw [hU]; exact hPc, va_K.moved hW.alike hKc, hDc.weaken (fun _ _ _ _ => trivial), vk_R.warm hW hE_32, va_Z.moved hW.alike (by rw [hU]; exact (hE_10.kept hS.2.1).narrow hFc), va_OF.moved hW.alike (by rw [hU]; exact (hE_34.kept hS.2.1).narrow hFc), va_O.moved hW.alike (by rw [hU]; exact (hE_33.kept hS.2.1).narrow hFc), va_OF.moved hW.alike (by rw [hU]; exact (hE_35.kept hS.2.1).narrow hFc), va_T.moved hW.alike (by rw [hU]; exact (hE_36.kept hS.2.1).narrow hFc)⟩⟩ rfl rfl hl.1 rfl (lv_room (Nat.le_of_ble_eq_true rfl)) dX4_readUnit_93 ⟨Nat.le_of_ble_eq_true rfl, Nat.le_of_ble_eq_true rfl⟩) hS (fun q _ h => hFc q h) hFc (fun u t H1 locs ht hvm hw hB hz1 hk1 hS => ?_)
        obtain ⟨x_108, x_109, x_110, w_111⟩ := u
        obtain ⟨hP1, hK1, hD1⟩ := hB
        rw [ht] at hP1
        obtain ⟨hP, hD⟩ := va_join (wr := []) (w1 := (wd_c_X4_readUnit_6 h1 h1_0 h1_f1 x_108 x_109 h1_0 h1_0k h1_0c h0 h0_0 x_110 h0_2 h0_0 h0_0k w_111)) hP hD [0, 1, 2, 3] [] rfl rfl (by decide) (by decide) hk1 hFc hP1 hD1
        have hP := hP.sub (ws' := (wd_c_X4_readUnit_5 h1 h1_0 h1_f1 x_108 x_109 h1_0 h1_0k h1_0c h0 h0_0 x_110 h0_2 h0_0 h0_0k w_111)) [0, 1, 2, 3] rfl
        have hD := hD.sub (ws' := (wd_c_X4_readUnit_5 h1 h1_0 h1_f1 x_108 x_109 h1_0 h1_0k h1_0c h0 h0_0 x_110 h0_2 h0_0 h0_0k w_111)) [0, 1, 2, 3] (by decide) rfl
        generalize H1 = H at hP hS ⊢
        rcases hw with ⟨h_112, h_113, h_114⟩
        refine lv_aload_n hx hb dX4_readUnit_96 rfl (lv_at hl 0 rfl) ?_
        refine lv_bipush (v := (-33)) hx hb dX4_readUnit_97 kc_bipush_m33 ?_
        have hPc := hP.sub (ws' := (wd_c_X4_emit h0 h0_0 x_110 h0_2 h0_0 h0_0k w_111)) [2, 3] rfl
        have hDc := hD.sub (ws' := (wd_c_X4_emit h0 h0_0 x_110 h0_2 h0_0 h0_0k w_111)) [2, 3] (by decide) rfl
        have hKc := hK.sub (tys' := [(h0_0k, .int)]) [1] rfl
        have hFc := va_free (wc := (wd_c_X4_emit h0 h0_0 x_110 h0_2 h0_0 h0_0k w_111)) hD hS hA [2, 3] rfl
        refine va_callv (va_runV (As := [.int (-33)]) (rest := []) ⟨hx, hb, hml, hown, hts⟩ (c_X4_emit l dC dI H.size h0 (-33) h0_0 x_110 h0_2 h0_0k w_111 h_114) (cwV 1 hts gf_c_X4_readUnit_5_c_X4_emit rfl rfl rfl (by decide +kernel) ⟨Nat.le_of_ble_eq_true rfl, Nat.le_of_ble_eq_true rfl⟩) ⟨fun a U g mk q => by obtain ⟨q0, q1, qP, qK, qD⟩ := q; exact ⟨q0, q1, qP, va_K.moved (u := U) (U := U.calling g mk a) (Vm.Alike.refl U.vm) qK, qD⟩, va_recv hKc hPc (ci := 4) (q0 := 0) rfl rfl, fun U hU hW => ⟨rfl, by rw [hU], by rw [hU]; exact hPc, va_K.moved hW.alike hKc, hDc.weaken (fun _ _ _ _ => trivial)⟩⟩ rfl rfl hl.1 rfl (lv_room (Nat.le_of_ble_eq_true rfl)) dX4_readUnit_99 ⟨Nat.le_of_ble_eq_true rfl, Nat.le_of_ble_eq_true rfl⟩) hS (fun q _ h => hFc q h) hFc (fun u t H1 locs ht hvm hw hB hz1 hk1 hS => ?_)
        obtain ⟨x_116, w_117⟩ := u
        obtain ⟨hP1, hK1, hD1⟩ := hB
        rw [ht] at hP1
        obtain ⟨hP, hD⟩ := va_join (wr := [(h1, .inr (9, [.ref h1_0, .int h1_f1, .int x_108, .int x_109])), (h1_0, .inl (h1_0k, 240, .inl h1_0c))]) (w1 := (wd_c_X4_emit h0 h0_0 x_116 h0_2 h0_0 h0_0k w_117)) hP hD [2, 3] [0, 1] rfl rfl (by decide) (by decide) hk1 hFc hP1 hD1
        have hP := hP.sub (ws' := (wd_c_X4_readUnit_5 h1 h1_0 h1_f1 x_108 x_109 h1_0 h1_0k h1_0c h0 h0_0 x_116 h0_2 h0_0 h0_0k w_117)) [0, 1, 2, 3] rfl
        have hD := hD.sub (ws' := (wd_c_X4_readUnit_5 h1 h1_0 h1_f1 x_108 x_109 h1_0 h1_0k h1_0c h0 h0_0 x_116 h0_2 h0_0 h0_0k w_117)) [0, 1, 2, 3] (by decide) rfl
        generalize H1 = H at hP hS ⊢
        have h_118 := hw
        refine lv_goto (tgt := 126) hx hb dX4_readUnit_102 rfl ?_
        have hK9 := hK.sub (tys' := []) [] rfl
        exact W.vret hx hb hr (fun t ht hW => ⟨⟨(x_108, x_109, x_116, w_117), rfl, ⟨h_112, h_113, (RG_w h_118 (by decide))⟩, by rw [ht]; exact hP, va_K.moved hW.alike hK9, hD⟩, hS.F ht⟩) hS.2.2 dX4_readUnit_126
def wd_c_X4_readCondition_4 (a0 : Nat) (a1 : Nat) (a2 : Int32) (a3 : Int32) (a4 : Int32) (a5 : Nat) (a6 : ClassId) (a7 : Nat → Int32) (a8 : Nat) (a9 : Nat) (a10 : Int32) (a11 : Nat) (a12 : Nat) (a13 : ClassId) (a14 : Nat → Int32) : va_W := [(a0, .inr (9, [.ref a1, .int a2, .int a3, .int a4])), (a5, .inl (a6, 240, .inl a7)), (a8, .inr (4, [.ref a9, .int a10, .ref a11])), (a12, .inl (a13, 240, .inl a14))]
def wf_c_X4_readCondition_4 : List Cond := .code yX4_readCondition cX4_readCondition 7 none :: ([.methodLink RX4 72 yX9_isRight, .instanceMethod yX9_isRight, .selects RX9 yX9_isRight yX9_isRight, .initialized RX9, .code yX9_isRight cX9_isRight 1 (some .boolean), .fieldLink RX9 15 "BuoyVote$Tape" "wrong" "I", .methodLink RX4 76 yX4_readUnit, .instanceMethod yX4_readUnit, .selects RX4 yX4_readUnit yX4_readUnit, .initialized RX4, .code yX4_readUnit cX4_readUnit 5 none, .methodLink RX4 41 yX9_peek, .instanceMethod yX9_peek, .selects RX9 yX9_peek yX9_peek, .code yX9_peek cX9_peek 1 (some .int), .fieldLink RX9 22 "BuoyVote$Tape" "at" "I", .fieldLink RX9 19 "BuoyVote$Tape" "length" "I", .fieldLink RX9 11 "BuoyVote$Tape" "bytes" "[I", .methodLink RX4 45 yX4_startsUnit, .static yX4_startsUnit, .code yX4_startsUnit cX4_startsUnit 1 (some .boolean), .methodLink RX4 63 yX9_take, .instanceMethod yX9_take, .selects RX9 yX9_take yX9_take, .code yX9_take cX9_take 2 (some .boolean), .methodLink RX9 29 yX9_peek, .methodLink RX4 37 yX9_expect, .instanceMethod yX9_expect, .selects RX9 yX9_expect yX9_expect, .code yX9_expect cX9_expect 2 none, .methodLink RX9 25 yX9_refuse, .instanceMethod yX9_refuse, .selects RX9 yX9_refuse yX9_refuse, .code yX9_refuse cX9_refuse 2 none, .methodLink RX4 56 yX4_readCondition, .instanceMethod yX4_readCondition, .selects RX4 yX4_readCondition yX4_readCondition, .methodLink RX4 82 yX9_refuseHere, .instanceMethod yX9_refuseHere, .selects RX9 yX9_refuseHere yX9_refuseHere, .code yX9_refuseHere cX9_refuseHere 1 none, .methodLink RX4 49 yX4_readSum, .instanceMethod yX4_readSum, .selects RX4 yX4_readSum yX4_readSum, .code yX4_readSum cX4_readSum 6 none, .methodLink RX4 85 yX4_readAtom, .instanceMethod yX4_readAtom, .selects RX4 yX4_readAtom yX4_readAtom, .code yX4_readAtom cX4_readAtom 6 none, .methodLink RX4 93 yJ0_indexOf_0f7a4, .instanceMethod yJ0_indexOf_0f7a4, .selects RJ0 yJ0_indexOf_0f7a4 yJ0_indexOf_0f7a4, .initialized RJ0, .code yJ0_indexOf_0f7a4 cJ0_indexOf_0f7a4 2 (some .int), .methodLink RJ0 633 yJ0_indexOf_7cf53, .instanceMethod yJ0_indexOf_7cf53, .selects RJ0 yJ0_indexOf_7cf53 yJ0_indexOf_7cf53, .code yJ0_indexOf_7cf53 cJ0_indexOf_7cf53 3 (some .int), .methodLink RJ0 492 yJ0_isLatin1_aae02, .instanceMethod yJ0_isLatin1_aae02, .selects RJ0 yJ0_isLatin1_aae02 yJ0_isLatin1_aae02, .code yJ0_isLatin1_aae02 cJ0_isLatin1_aae02 1 (some .boolean), .fieldLink RJ0 38 "java/lang/String" "COMPACT_STRINGS" "Z", .fieldLink RJ0 15 "java/lang/String" "coder" "B", .fieldLink RJ0 9 "java/lang/String" "value" "[B", .methodLink RJ0 505 yJ0_length_8abf5, .instanceMethod yJ0_length_8abf5, .selects RJ0 yJ0_length_8abf5 yJ0_length_8abf5, .code yJ0_length_8abf5 cJ0_length_8abf5 1 (some .int), .methodLink RJ0 335 yJ0_coder_7d493, .instanceMethod yJ0_coder_7d493, .selects RJ0 yJ0_coder_7d493 yJ0_coder_7d493, .code yJ0_coder_7d493 cJ0_coder_7d493 1 (some .byte), .methodLink RJ0 637 yJ1_indexOf_4cfef, .static yJ1_indexOf_4cfef, .initialized RJ1, .code yJ1_indexOf_4cfef cJ1_indexOf_4cfef 4 (some .int), .methodLink RJ1 88 yJ1_canEncode_9a6ad, .static yJ1_canEncode_9a6ad, .code yJ1_canEncode_9a6ad cJ1_canEncode_9a6ad 1 (some .boolean), .methodLink RJ1 92 Lib.Math.max.name, .static Lib.Math.max.name, .initialized "java/lang/Math", .code Lib.Math.max.name Lib.Math.max.code 2 (some .int), .methodLink RJ1 38 Lib.Math.min.name, .static Lib.Math.min.name, .code Lib.Math.min.name Lib.Math.min.code 2 (some .int), .methodLink RJ1 95 yJ1_indexOfChar_4cfef, .static yJ1_indexOfChar_4cfef, .code yJ1_indexOfChar_4cfef cJ1_indexOfChar_4cfef 6 (some .int), .methodLink RX4 99 yX9_number, .instanceMethod yX9_number, .selects RX9 yX9_number yX9_number, .code yX9_number cX9_number 4 (some .int), .methodLink RX4 79 yX9_skip, .instanceMethod yX9_skip, .selects RX9 yX9_skip yX9_skip, .code yX9_skip cX9_skip 1 none, .methodLink RX4 60 yX4_emit, .instanceMethod yX4_emit, .selects RX4 yX4_emit yX4_emit, .code yX4_emit cX4_emit 2 none, .fieldLink RX4 20 "BuoyVote$Law" "length" "I", .fieldLink RX4 11 "BuoyVote$Law" "code" "[I", .methodLink RX4 88 yX9_takeEither, .instanceMethod yX9_takeEither, .selects RX9 yX9_takeEither yX9_takeEither, .code yX9_takeEither cX9_takeEither 4 (some .int), .methodLink RX4 53 yX4_isComparison, .static yX4_isComparison, .code yX4_isComparison cX4_isComparison 1 (some .boolean)] ++ wsX90 ++ wsX40)
theorem iw_c_X4_readCondition_4_X9 : ∀ w ∈ wsX90, w ∈ wf_c_X4_readCondition_4 := fun w h => List.mem_cons_of_mem _ (List.mem_append_left _ (List.mem_append_right _ h))
theorem iw_c_X4_readCondition_4_X4 : ∀ w ∈ wsX40, w ∈ wf_c_X4_readCondition_4 := fun w h => List.mem_cons_of_mem _ (List.mem_append_right _ h)
set_option maxRecDepth 20000 in
theorem gf_c_X4_readCondition_4_c_X9_take_1 : GoodIn wf_c_X4_readCondition_4 (wsV RX4 63 RX9 yX9_take wf_c_X9_take_1) := goodIn_app (gi_cons (j := 22) rfl rfl (gi_cons (j := 23) rfl rfl (gi_cons (j := 24) rfl rfl (gi_cons (j := 4) rfl rfl (gi_nil))))) (gi_cons (j := 25) rfl rfl (goodIn_app (gi_cons (j := 6) rfl rfl (gi_cons (j := 26) rfl rfl (gi_cons (j := 13) rfl rfl (gi_cons (j := 14) rfl rfl (gi_cons (j := 4) rfl rfl (gi_cons (j := 15) rfl rfl (gi_cons (j := 16) rfl rfl (gi_cons (j := 17) rfl rfl (gi_cons (j := 18) rfl rfl (gi_nil)))))))))) (goodIn_sub iw_c_X4_readCondition_4_X9 gw_X9)))
set_option maxRecDepth 20000 in
theorem gf_c_X4_readCondition_4_c_X9_take : GoodIn wf_c_X4_readCondition_4 (wsV RX4 63 RX9 yX9_take wf_c_X9_take) := goodIn_app (gi_cons (j := 22) rfl rfl (gi_cons (j := 23) rfl rfl (gi_cons (j := 24) rfl rfl (gi_cons (j := 4) rfl rfl (gi_nil))))) (gi_cons (j := 25) rfl rfl (goodIn_app (gi_cons (j := 6) rfl rfl (gi_cons (j := 26) rfl rfl (gi_cons (j := 13) rfl rfl (gi_cons (j := 14) rfl rfl (gi_cons (j := 4) rfl rfl (gi_cons (j := 15) rfl rfl (gi_cons (j := 16) rfl rfl (gi_cons (j := 17) rfl rfl (gi_cons (j := 18) rfl rfl (gi_nil)))))))))) (goodIn_sub iw_c_X4_readCondition_4_X9 gw_X9)))
set_option maxRecDepth 20000 in
theorem gf_c_X4_readCondition_4_c_X4_emit : GoodIn wf_c_X4_readCondition_4 (wsV RX4 60 RX4 yX4_emit wf_c_X4_emit) := goodIn_app (gi_cons (j := 99) rfl rfl (gi_cons (j := 100) rfl rfl (gi_cons (j := 101) rfl rfl (gi_cons (j := 10) rfl rfl (gi_nil))))) (gi_cons (j := 102) rfl rfl (goodIn_app (gi_cons (j := 103) rfl rfl (gi_cons (j := 104) rfl rfl (gi_nil))) (goodIn_sub iw_c_X4_readCondition_4_X4 gw_X4)))
set_option maxRecDepth 20000 in
theorem gf_c_X4_readCondition_4_c_X4_readUnit_5 : GoodIn wf_c_X4_readCondition_4 (wsV RX4 76 RX4 yX4_readUnit wf_c_X4_readUnit_5) := goodIn_app (gi_cons (j := 7) rfl rfl (gi_cons (j := 8) rfl rfl (gi_cons (j := 9) rfl rfl (gi_cons (j := 10) rfl rfl (gi_nil))))) (gi_cons (j := 11) rfl rfl (goodIn_app (goodIn_app (gi_cons (j := 12) rfl rfl (gi_cons (j := 13) rfl rfl (gi_cons (j := 14) rfl rfl (gi_cons (j := 4) rfl rfl (gi_cons (j := 15) rfl rfl (gi_cons (j := 16) rfl rfl (gi_cons (j := 17) rfl rfl (gi_cons (j := 18) rfl rfl (gi_cons (j := 19) rfl rfl (gi_cons (j := 20) rfl rfl (gi_cons (j := 10) rfl rfl (gi_cons (j := 21) rfl rfl (gi_cons (j := 22) rfl rfl (gi_cons (j := 23) rfl rfl (gi_cons (j := 24) rfl rfl (gi_cons (j := 25) rfl rfl (gi_cons (j := 6) rfl rfl (gi_cons (j := 26) rfl rfl (gi_cons (j := 27) rfl rfl (gi_cons (j := 28) rfl rfl (gi_cons (j := 29) rfl rfl (gi_cons (j := 30) rfl rfl (gi_cons (j := 31) rfl rfl (gi_cons (j := 32) rfl rfl (gi_cons (j := 33) rfl rfl (gi_cons (j := 34) rfl rfl (gi_cons (j := 35) rfl rfl (gi_cons (j := 36) rfl rfl (gi_cons (j := 37) rfl rfl (gi_cons (j := 0) rfl rfl (gi_cons (j := 1) rfl rfl (gi_cons (j := 2) rfl rfl (gi_cons (j := 3) rfl rfl (gi_cons (j := 5) rfl rfl (gi_cons (j := 7) rfl rfl (gi_cons (j := 8) rfl rfl (gi_cons (j := 9) rfl rfl (gi_cons (j := 38) rfl rfl (gi_cons (j := 39) rfl rfl (gi_cons (j := 40) rfl rfl (gi_cons (j := 41) rfl rfl (gi_cons (j := 42) rfl rfl (gi_cons (j := 43) rfl rfl (gi_cons (j := 44) rfl rfl (gi_cons (j := 45) rfl rfl (gi_cons (j := 46) rfl rfl (gi_cons (j := 47) rfl rfl (gi_cons (j := 48) rfl rfl (gi_cons (j := 49) rfl rfl (gi_cons (j := 50) rfl rfl (gi_cons (j := 51) rfl rfl (gi_cons (j := 52) rfl rfl (gi_cons (j := 53) rfl rfl (gi_cons (j := 54) rfl rfl (gi_cons (j := 55) rfl rfl (gi_cons (j := 56) rfl rfl (gi_cons (j := 57) rfl rfl (gi_cons (j := 58) rfl rfl (gi_cons (j := 59) rfl rfl (gi_cons (j := 60) rfl rfl (gi_cons (j := 61) rfl rfl (gi_cons (j := 62) rfl rfl (gi_cons (j := 63) rfl rfl (gi_cons (j := 64) rfl rfl (gi_cons (j := 65) rfl rfl (gi_cons (j := 66) rfl rfl (gi_cons (j := 67) rfl rfl (gi_cons (j := 68) rfl rfl (gi_cons (j := 69) rfl rfl (gi_cons (j := 70) rfl rfl (gi_cons (j := 71) rfl rfl (gi_cons (j := 72) rfl rfl (gi_cons (j := 73) rfl rfl (gi_cons (j := 74) rfl rfl (gi_cons (j := 75) rfl rfl (gi_cons (j := 76) rfl rfl (gi_cons (j := 77) rfl rfl (gi_cons (j := 78) rfl rfl (gi_cons (j := 79) rfl rfl (gi_cons (j := 80) rfl rfl (gi_cons (j := 81) rfl rfl (gi_cons (j := 82) rfl rfl (gi_cons (j := 83) rfl rfl (gi_cons (j := 84) rfl rfl (gi_cons (j := 85) rfl rfl (gi_cons (j := 86) rfl rfl (gi_cons (j := 87) rfl rfl (gi_cons (j := 88) rfl rfl (gi_cons (j := 89) rfl rfl (gi_cons (j := 90) rfl rfl (gi_cons (j := 91) rfl rfl (gi_cons (j := 92) rfl rfl (gi_cons (j := 93) rfl rfl (gi_cons (j := 94) rfl rfl (gi_cons (j := 95) rfl rfl (gi_cons (j := 96) rfl rfl (gi_cons (j := 97) rfl rfl (gi_cons (j := 98) rfl rfl (gi_cons (j := 99) rfl rfl (gi_cons (j := 100) rfl rfl (gi_cons (j := 101) rfl rfl (gi_cons (j := 102) rfl rfl (gi_cons (j := 103) rfl rfl (gi_cons (j := 104) rfl rfl (gi_cons (j := 105) rfl rfl (gi_cons (j := 106) rfl rfl (gi_cons (j := 107) rfl rfl (gi_cons (j := 108) rfl rfl (gi_cons (j := 109) rfl rfl (gi_cons (j := 110) rfl rfl (gi_cons (j := 111) rfl rfl (gi_nil)))))))))))))))))))))))))))))))))))))))))))))))))))))))))))))))))))))))))))))))))))))))))))))))))))))))))))))))) (goodIn_sub iw_c_X4_readCondition_4_X9 gw_X9)) (goodIn_sub iw_c_X4_readCondition_4_X4 gw_X4)))
set_option maxRecDepth 20000 in
theorem gf_c_X4_readCondition_4_c_X9_isRight : GoodIn wf_c_X4_readCondition_4 (wsV RX4 72 RX9 yX9_isRight wf_c_X9_isRight) := goodIn_app (gi_cons (j := 1) rfl rfl (gi_cons (j := 2) rfl rfl (gi_cons (j := 3) rfl rfl (gi_cons (j := 4) rfl rfl (gi_nil))))) (gi_cons (j := 5) rfl rfl (goodIn_app (gi_cons (j := 6) rfl rfl (gi_nil)) (goodIn_sub iw_c_X4_readCondition_4_X9 gw_X9)))
set_option maxHeartbeats 4000000 in
set_option maxRecDepth 100000 in
theorem c_X4_readCondition_4 (l : Launch) (dC : Nat → ClassId) (dI : Nat → Nat → Nat) (sz : Nat) (h0 : Nat) (h1 : Nat) (h1_0 : Nat) (h1_f1 : Int32) (h1_f2 : Int32) (h1_f3 : Int32) (h1_0k : ClassId) (h1_0c : Nat → Int32) (h0_0 : Nat) (h0_f1 : Int32) (h0_2 : Nat) (h0_0k : ClassId) (h0_0c : Nat → Int32) (ts4 : Nat) (tv4 : Nat) (g_h1_f1 : RG h1_f1 0 240) (g_h1_f2 : RG h1_f2 0 240) (g_h1_f3 : RG h1_f3 (-1) 240) (a_h1_0c : AI h1_0c 0 255) (g_h0_f1 : RG h0_f1 0 240) : Met l yX4_readCondition wf_c_X4_readCondition_4 ({ frames := 11, cells := 0, slots := 0, locals := 265 }) (va_Pc [.ref h0, .ref h1, .int 4, .int 0] (fun U => U.heap.size = sz ∧ va_P (dC, dI) vwCl (wd_c_X4_readCondition_4 h1 h1_0 h1_f1 h1_f2 h1_f3 h1_0 h1_0k h1_0c h0 h0_0 h0_f1 h0_2 h0_0 h0_0k h0_0c) U.heap ∧ va_K (dC, dI) vwCl [(h1_0k, .int), (h0_0k, .int)] U ∧ va_D (fun _ => True) (wd_c_X4_readCondition_4 h1 h1_0 h1_f1 h1_f2 h1_f3 h1_0 h1_0k h1_0c h0 h0_0 h0_f1 h0_2 h0_0 h0_0k h0_0c) ∧ vk_R RX4 91 "vlrdph" ts4 U ∧ va_Z "java/lang/String" "COMPACT_STRINGS" "Z" (.int 1) (va_A (wd_c_X4_readCondition_4 h1 h1_0 h1_f1 h1_f2 h1_f3 h1_0 h1_0k h1_0c h0 h0_0 h0_f1 h0_2 h0_0 h0_0k h0_0c) sz) U U.heap ∧ va_OF "java/lang/String" "coder" "B" (.int 0) ts4 (va_A (wd_c_X4_readCondition_4 h1 h1_0 h1_f1 h1_f2 h1_f3 h1_0 h1_0k h1_0c h0 h0_0 h0_f1 h0_2 h0_0 h0_0k h0_0c) sz) U U.heap ∧ va_O "java/lang/String" ts4 (va_A (wd_c_X4_readCondition_4 h1 h1_0 h1_f1 h1_f2 h1_f3 h1_0 h1_0k h1_0c h0 h0_0 h0_f1 h0_2 h0_0 h0_0k h0_0c) sz) U U.heap ∧ va_OF "java/lang/String" "value" "[B" (.ref tv4) ts4 (va_A (wd_c_X4_readCondition_4 h1 h1_0 h1_f1 h1_f2 h1_f3 h1_0 h1_0k h1_0c h0 h0_0 h0_f1 h0_2 h0_0 h0_0k h0_0c) sz) U U.heap ∧ va_T .byte tv4 6 (fun j => .int ([118, 108, 114, 100, 112, 104].getD j 0)) (va_A (wd_c_X4_readCondition_4 h1 h1_0 h1_f1 h1_f2 h1_f3 h1_0 h1_0k h1_0c h0 h0_0 h0_f1 h0_2 h0_0 h0_0k h0_0c) sz) U U.heap)) (va_Qv (fun (u : (Int32) × (Int32) × (Int32) × (Nat → Int32)) => (RG u.1 0 240 ∧ RG u.2.1 (-1) 240 ∧ RG u.2.2.1 0 240)) (fun (u : (Int32) × (Int32) × (Int32) × (Nat → Int32)) t => va_P (dC, dI) vwCl (wd_c_X4_readCondition_4 h1 h1_0 h1_f1 (u.1) (u.2.1) h1_0 h1_0k h1_0c h0 h0_0 (u.2.2.1) h0_2 h0_0 h0_0k (u.2.2.2)) t.heap ∧ va_K (dC, dI) vwCl [] t ∧ va_D (va_A (wd_c_X4_readCondition_4 h1 h1_0 h1_f1 h1_f2 h1_f3 h1_0 h1_0k h1_0c h0 h0_0 h0_f1 h0_2 h0_0 h0_0k h0_0c) sz) (wd_c_X4_readCondition_4 h1 h1_0 h1_f1 (u.1) (u.2.1) h1_0 h1_0k h1_0c h0 h0_0 (u.2.2.1) h0_2 h0_0 h0_0k (u.2.2.2))) (va_A (wd_c_X4_readCondition_4 h1 h1_0 h1_f1 h1_f2 h1_f3 h1_0 h1_0k h1_0c h0 h0_0 h0_f1 h0_2 h0_0 h0_0k h0_0c) sz)) 0 0 (va_A (wd_c_X4_readCondition_4 h1 h1_0 h1_f1 h1_f2 h1_f3 h1_0 h1_0k h1_0c h0 h0_0 h0_f1 h0_2 h0_0 h0_0k h0_0c) sz) := by
  refine Met.ofW (cc := cX4_readCondition) (maxL := 7) (ret := none) (by decide) rfl ?_
  intro p e s m args below meth c s₁ B hml hv
  obtain ⟨rfl, hsz, hP, hK, hD0, hE_32, hE_10, hE_34, hE_33, hE_35, hE_36⟩ := hv
  have hx := B.exec
  have hb := B.bytes
  have hr := B.returns
  have hts := atoms_spec (ws := wf_c_X4_readCondition_4) B.pre
  have hown : s.vm.findClass RX4 = some m.cls := findClass_of_methodNamed B.named
  have hlocks := B.notSynchronized
  subst hsz
  have hD := hD0.self (sz := s.heap.size)
  generalize hAe : va_A (wd_c_X4_readCondition_4 h1 h1_0 h1_f1 h1_f2 h1_f3 h1_0 h1_0k h1_0c h0 h0_0 h0_f1 h0_2 h0_0 h0_0k h0_0c) s.heap.size = A at hD hE_10 hE_34 hE_33 hE_35 hE_36 ⊢
  have hA : ∀ q : Nat, s.heap.size ≤ q → A q := fun q h => by rw [← hAe]; exact Or.inr h
  have hP : va_P (dC, dI) vwCl (wd_c_X4_readCondition_4 h1 h1_0 h1_f1 h1_f2 h1_f3 h1_0 h1_0k h1_0c h0 h0_0 h0_f1 h0_2 h0_0 h0_0k h0_0c) s.heap := hP
  have hl := lv_entry ([.ref h0, .ref h1, .int 4, .int 0]) (n := 7) (Nat.le_of_ble_eq_true rfl)
  rw [lg_entry_eq]
  generalize (lg_sl ([.ref h0, .ref h1, .int 4, .int 0]) ++ List.replicate (7 - (lg_sl ([.ref h0, .ref h1, .int 4, .int 0])).length) Slot.unset).toArray = ls at hl ⊢
  have hl : lv_has ls 7 [(0, .ref h0), (1, .ref h1), (2, .int 4), (3, .int 0)] := hl
  obtain ⟨H, hHe⟩ : ∃ H : Heap, s.heap = H := ⟨_, rfl⟩
  have hS : va_S A s.heap H [] := by rw [hHe]; exact va_S.rf
  have hP : va_P (dC, dI) vwCl (wd_c_X4_readCondition_4 h1 h1_0 h1_f1 h1_f2 h1_f3 h1_0 h1_0k h1_0c h0 h0_0 h0_f1 h0_2 h0_0 h0_0k h0_0c) H := by rw [← hHe]; exact hP
  rw [hHe]
  refine wj (fun G hG hU => ?_)
  have J9 : ∀ (n9 : Nat) (j9_l6 : Int32) (j9_l5 : Int32) (j9_l4 : Int32) (j9_h1_f2 : Int32) (j9_h1_f3 : Int32) (j9_h0_f1 : Int32) (j9_h0_0c : Nat → Int32) (hM9 : MU j9_l6 < n9) (g_h0_f1 : RG h0_f1 0 240) (g_h1_f1 : RG h1_f1 0 240) (g_h1_f2 : RG h1_f2 0 240) (g_h1_f3 : RG h1_f3 (-1) 240) (g_j9_h0_f1 : RG j9_h0_f1 0 240) (g_j9_h1_f2 : RG j9_h1_f2 0 240) (g_j9_h1_f3 : RG j9_h1_f3 (-1) 240) (g_j9_l4 : RG j9_l4 0 1) (g_j9_l5 : RG j9_l5 0 1) (g_j9_l6 : RG j9_l6 0 240) (H : Heap) (locs : List Loc) (ls : Array Slot) (hP : va_P (dC, dI) vwCl (wd_c_X4_readCondition_4 h1 h1_0 h1_f1 j9_h1_f2 j9_h1_f3 h1_0 h1_0k h1_0c h0 h0_0 j9_h0_f1 h0_2 h0_0 h0_0k j9_h0_0c) H) (hD : va_D A (wd_c_X4_readCondition_4 h1 h1_0 h1_f1 j9_h1_f2 j9_h1_f3 h1_0 h1_0k h1_0c h0 h0_0 j9_h0_f1 h0_2 h0_0 h0_0k j9_h0_0c)) (hS : va_S A s.heap H locs) (hl : lv_has ls 7 [(6, .int j9_l6), (5, .int j9_l5), (4, .int j9_l4), (0, .ref h0), (1, .ref h1), (2, .int 4), (3, .int 0)]), G H locs (F0 m 9 ls []) := by
    intro n9
    induction n9 with
    | zero => intros; exact absurd (by assumption) (Nat.not_lt_zero _)
    | succ n9 ih9 =>
      intro j9_l6 j9_l5 j9_l4 j9_h1_f2 j9_h1_f3 j9_h0_f1 j9_h0_0c hM9 g_h0_f1 g_h1_f1 g_h1_f2 g_h1_f3 g_j9_h0_f1 g_j9_h1_f2 g_j9_h1_f3 g_j9_l4 g_j9_l5 g_j9_l6 H locs ls hP hD hS hl
      have J93 : ∀ (j93_l4 : Int32) (j93_l5 : Int32) (j93_h1_f2 : Int32) (j93_h1_f3 : Int32) (j93_h0_f1 : Int32) (j93_h0_0c : Nat → Int32) (g_h0_f1 : RG h0_f1 0 240) (g_h1_f1 : RG h1_f1 1 240) (g_h1_f2 : RG h1_f2 0 240) (g_h1_f3 : RG h1_f3 (-1) 240) (g_j93_h0_f1 : RG j93_h0_f1 0 240) (g_j93_h1_f2 : RG j93_h1_f2 1 240) (g_j93_h1_f3 : RG j93_h1_f3 (-1) (-1)) (g_j93_l4 : RG j93_l4 0 1) (g_j93_l5 : RG j93_l5 0 1) (g_j9_h0_f1 : RG j9_h0_f1 0 240) (g_j9_h1_f2 : RG j9_h1_f2 0 240) (g_j9_h1_f3 : RG j9_h1_f3 (-1) (-1)) (g_j9_l4 : RG j9_l4 0 1) (g_j9_l5 : RG j9_l5 0 1) (g_j9_l6 : RG j9_l6 0 239) (H : Heap) (locs : List Loc) (ls : Array Slot) (hP : va_P (dC, dI) vwCl (wd_c_X4_readCondition_4 h1 h1_0 h1_f1 j93_h1_f2 j93_h1_f3 h1_0 h1_0k h1_0c h0 h0_0 j93_h0_f1 h0_2 h0_0 h0_0k j93_h0_0c) H) (hD : va_D A (wd_c_X4_readCondition_4 h1 h1_0 h1_f1 j93_h1_f2 j93_h1_f3 h1_0 h1_0k h1_0c h0 h0_0 j93_h0_f1 h0_2 h0_0 h0_0k j93_h0_0c)) (hS : va_S A s.heap H locs) (hl : lv_has ls 7 [(4, .int j93_l4), (6, .int j9_l6), (5, .int j93_l5), (0, .ref h0), (1, .ref h1), (2, .int 4), (3, .int 0)]), G H locs (F0 m 93 ls []) := by
        intro j93_l4 j93_l5 j93_h1_f2 j93_h1_f3 j93_h0_f1 j93_h0_0c g_h0_f1 g_h1_f1 g_h1_f2 g_h1_f3 g_j93_h0_f1 g_j93_h1_f2 g_j93_h1_f3 g_j93_l4 g_j93_l5 g_j9_h0_f1 g_j9_h1_f2 g_j9_h1_f3 g_j9_l4 g_j9_l5 g_j9_l6 H locs ls hP hD hS hl
        refine hG _ _ _ ?_
        obtain ⟨x_1, ex_1⟩ : ∃ y : Int32, y = j9_l6 + 1 := ⟨_, rfl⟩
        have g_2 : RG x_1 1 240 := RG_add ex_1 g_j9_l6 (RG_k 1 1 rfl) (by decide)
        refine lv_iinc (v := x_1) (lv' := [(6, .int x_1), (4, .int j93_l4), (5, .int j93_l5), (0, .ref h0), (1, .ref h1), (2, .int 4), (3, .int 0)]) hx hb dX4_readCondition_93 hl (k := 1) rfl (by rw [ex_1]; rfl) (Nat.le_of_ble_eq_true rfl) rfl (fun ls hl => ?_)
        refine lv_goto (tgt := 9) hx hb dX4_readCondition_96 rfl ?_
        exact hU _ _ _ (ih9 x_1 j93_l5 j93_l4 j93_h1_f2 j93_h1_f3 j93_h0_f1 j93_h0_0c (mu_s (MU_add ex_1 g_j9_l6 (q := 1) rfl (by decide)) hM9) g_h0_f1 (RG_w g_h1_f1 (by decide)) g_h1_f2 g_h1_f3 g_j93_h0_f1 (RG_w g_j93_h1_f2 (by decide)) (RG_w g_j93_h1_f3 (by decide)) g_j93_l4 g_j93_l5 (RG_w g_2 (by decide)) _ _ _ hP hD hS (lv_sub hl [0, 2, 1, 3, 4, 5, 6] rfl))
      have J79 : ∀ (j79_h1_f2 : Int32) (j79_h1_f3 : Int32) (j79_h0_f1 : Int32) (j79_h0_0c : Nat → Int32) (g_h0_f1 : RG h0_f1 0 240) (g_h1_f1 : RG h1_f1 0 240) (g_h1_f2 : RG h1_f2 0 240) (g_h1_f3 : RG h1_f3 (-1) 240) (g_j79_h0_f1 : RG j79_h0_f1 0 240) (g_j79_h1_f2 : RG j79_h1_f2 0 240) (g_j79_h1_f3 : RG j79_h1_f3 (-1) 240) (g_j9_h0_f1 : RG j9_h0_f1 0 240) (g_j9_h1_f2 : RG j9_h1_f2 0 240) (g_j9_h1_f3 : RG j9_h1_f3 (-1) (-1)) (g_j9_l4 : RG j9_l4 0 1) (g_j9_l5 : RG j9_l5 0 1) (g_j9_l6 : RG j9_l6 0 239) (H : Heap) (locs : List Loc) (ls : Array Slot) (hP : va_P (dC, dI) vwCl (wd_c_X4_readCondition_4 h1 h1_0 h1_f1 j79_h1_f2 j79_h1_f3 h1_0 h1_0k h1_0c h0 h0_0 j79_h0_f1 h0_2 h0_0 h0_0k j79_h0_0c) H) (hD : va_D A (wd_c_X4_readCondition_4 h1 h1_0 h1_f1 j79_h1_f2 j79_h1_f3 h1_0 h1_0k h1_0c h0 h0_0 j79_h0_f1 h0_2 h0_0 h0_0k j79_h0_0c)) (hS : va_S A s.heap H locs) (hl : lv_has ls 7 [(4, .int 0), (6, .int j9_l6), (0, .ref h0), (1, .ref h1), (2, .int 4), (3, .int 0)]), G H locs (F0 m 79 ls []) := by
        intro j79_h1_f2 j79_h1_f3 j79_h0_f1 j79_h0_0c g_h0_f1 g_h1_f1 g_h1_f2 g_h1_f3 g_j79_h0_f1 g_j79_h1_f2 g_j79_h1_f3 g_j9_h0_f1 g_j9_h1_f2 g_j9_h1_f3 g_j9_l4 g_j9_l5 g_j9_l6 H locs ls hP hD hS hl
        refine hG _ _ _ ?_
        refine lv_aload_n hx hb dX4_readCondition_79 rfl (lv_at hl 3 rfl) ?_
        refine lv_bipush (v := 124) hx hb dX4_readCondition_80 kc_bipush_124 ?_
        have hPc := hP.sub (ws' := (wd_c_X9_take_1 h1 h1_0 h1_f1 j79_h1_f2 j79_h1_f3 h1_0 h1_0k h1_0c)) [0, 1] rfl
        have hDc := hD.sub (ws' := (wd_c_X9_take_1 h1 h1_0 h1_f1 j79_h1_f2 j79_h1_f3 h1_0 h1_0k h1_0c)) [0, 1] (by decide) rfl
        have hKc := hK.sub (tys' := [(h1_0k, .int)]) [0] rfl
        have hFc := va_free (wc := (wd_c_X9_take_1 h1 h1_0 h1_f1 j79_h1_f2 j79_h1_f3 h1_0 h1_0k h1_0c)) hD hS hA [0, 1] rfl
        refine va_calli (va_runV (As := [.int 124]) (rest := []) ⟨hx, hb, hml, hown, hts⟩ (c_X9_take_1 l dC dI H.size h1 124 h1_0 h1_f1 j79_h1_f2 j79_h1_f3 h1_0k h1_0c (RG_w (RG_k 124 124 rfl) (by decide)) g_h1_f1 g_j79_h1_f2 g_j79_h1_f3 a_h1_0c) (cwV 1 hts gf_c_X4_readCondition_4_c_X9_take_1 rfl rfl rfl (by decide +kernel) ⟨Nat.le_of_ble_eq_true rfl, Nat.le_of_ble_eq_true rfl⟩) ⟨fun a U g mk q => by obtain ⟨q0, q1, qP, qK, qD⟩ := q; exact ⟨q0, q1, qP, va_K.moved (u := U) (U := U.calling g mk a) (Vm.Alike.refl U.vm) qK, qD⟩, va_recv hKc hPc (ci := 9) (q0 := 0) rfl rfl, fun U hU hW => ⟨rfl, by rw [hU], by rw [hU]; exact hPc, va_K.moved hW.alike hKc, hDc.weaken (fun _ _ _ _ => trivial)⟩⟩ rfl rfl hl.1 rfl (lv_room (Nat.le_of_ble_eq_true rfl)) dX4_readCondition_82 ⟨Nat.le_of_ble_eq_true rfl, Nat.le_of_ble_eq_true rfl⟩) hS (fun q _ h => hFc q h) hFc (fun r_3 x_4 t H1 locs ht hvm hw hB hz1 hk1 hS => ?_)
        obtain ⟨hP1, hK1, hD1⟩ := hB
        rw [ht] at hP1
        obtain ⟨hP, hD⟩ := va_join (wr := [(h0, .inr (4, [.ref h0_0, .int j79_h0_f1, .ref h0_2])), (h0_0, .inl (h0_0k, 240, .inl j79_h0_0c))]) (w1 := (wd_c_X9_take_1 h1 h1_0 h1_f1 x_4 j79_h1_f3 h1_0 h1_0k h1_0c)) hP hD [0, 1] [2, 3] rfl rfl (by decide) (by decide) hk1 hFc hP1 hD1
        have hP := hP.sub (ws' := (wd_c_X4_readCondition_4 h1 h1_0 h1_f1 x_4 j79_h1_f3 h1_0 h1_0k h1_0c h0 h0_0 j79_h0_f1 h0_2 h0_0 h0_0k j79_h0_0c)) [2, 3, 0, 1] rfl
        have hD := hD.sub (ws' := (wd_c_X4_readCondition_4 h1 h1_0 h1_f1 x_4 j79_h1_f3 h1_0 h1_0k h1_0c h0 h0_0 j79_h0_f1 h0_2 h0_0 h0_0k j79_h0_0c)) [2, 3, 0, 1] (by decide) rfl
        generalize H1 = H at hP hS ⊢
        rcases hw with ⟨h_5, h_6, h_7⟩ | ⟨h_8, h_9, h_10, h_11, h_12⟩
        · rw [h_5]
          refine lv_istore (lv' := [(5, .int 0), (4, .int 0), (6, .int j9_l6), (0, .ref h0), (1, .ref h1), (2, .int 4), (3, .int 0)]) hx hb dX4_readCondition_85 hl (Nat.le_of_ble_eq_true rfl) rfl (fun ls hl => ?_)
          refine lv_iload hx hb dX4_readCondition_87 (lv_at hl 0 rfl) ?_
          refine lv_if_ne (tgt := 93) hx hb dX4_readCondition_89 rfl (fun c_13 => absurd c_13 (by decide)) (fun c_13 => ?_)
          have hK9 := hK.sub (tys' := []) [] rfl
          exact W.vret hx hb hr (fun t ht hW => ⟨⟨(x_4, j79_h1_f3, j79_h0_f1, j79_h0_0c), rfl, ⟨h_6, g_j79_h1_f3, g_j79_h0_f1⟩, by rw [ht]; exact hP, va_K.moved hW.alike hK9, hD⟩, hS.F ht⟩) hS.2.2 dX4_readCondition_92
        · rw [h_8]
          refine lv_istore (lv' := [(5, .int 1), (4, .int 0), (6, .int j9_l6), (0, .ref h0), (1, .ref h1), (2, .int 4), (3, .int 0)]) hx hb dX4_readCondition_85 hl (Nat.le_of_ble_eq_true rfl) rfl (fun ls hl => ?_)
          refine lv_iload hx hb dX4_readCondition_87 (lv_at hl 0 rfl) ?_
          refine lv_if_ne (tgt := 93) hx hb dX4_readCondition_89 rfl (fun c_14 => ?_) (fun c_14 => absurd c_14 (by decide))
          exact hU _ _ _ (J93 0 1 x_4 j79_h1_f3 j79_h0_f1 j79_h0_0c g_h0_f1 h_10 g_h1_f2 g_h1_f3 g_j79_h0_f1 h_9 h_11 (RG_w (RG_k 0 0 rfl) (by decide)) (RG_w (RG_k 1 1 rfl) (by decide)) g_j9_h0_f1 g_j9_h1_f2 g_j9_h1_f3 g_j9_l4 g_j9_l5 g_j9_l6 _ _ _ hP hD hS (lv_sub hl [1, 2, 0, 3, 4, 5, 6] rfl))
      have J55 : ∀ (j55_h1_f2 : Int32) (j55_h1_f3 : Int32) (j55_h0_f1 : Int32) (j55_h0_0c : Nat → Int32) (g_h0_f1 : RG h0_f1 0 240) (g_h1_f1 : RG h1_f1 0 240) (g_h1_f2 : RG h1_f2 0 240) (g_h1_f3 : RG h1_f3 (-1) 240) (g_j55_h0_f1 : RG j55_h0_f1 0 240) (g_j55_h1_f2 : RG j55_h1_f2 0 240) (g_j55_h1_f3 : RG j55_h1_f3 (-1) 240) (g_j9_h0_f1 : RG j9_h0_f1 0 240) (g_j9_h1_f2 : RG j9_h1_f2 0 240) (g_j9_h1_f3 : RG j9_h1_f3 (-1) (-1)) (g_j9_l4 : RG j9_l4 0 1) (g_j9_l5 : RG j9_l5 0 1) (g_j9_l6 : RG j9_l6 0 239) (H : Heap) (locs : List Loc) (ls : Array Slot) (hP : va_P (dC, dI) vwCl (wd_c_X4_readCondition_4 h1 h1_0 h1_f1 j55_h1_f2 j55_h1_f3 h1_0 h1_0k h1_0c h0 h0_0 j55_h0_f1 h0_2 h0_0 h0_0k j55_h0_0c) H) (hD : va_D A (wd_c_X4_readCondition_4 h1 h1_0 h1_f1 j55_h1_f2 j55_h1_f3 h1_0 h1_0k h1_0c h0 h0_0 j55_h0_f1 h0_2 h0_0 h0_0k j55_h0_0c)) (hS : va_S A s.heap H locs) (hl : lv_has ls 7 [(6, .int j9_l6), (5, .int j9_l5), (0, .ref h0), (1, .ref h1), (2, .int 4), (3, .int 0)]), G H locs (F0 m 55 ls []) := by
        intro j55_h1_f2 j55_h1_f3 j55_h0_f1 j55_h0_0c g_h0_f1 g_h1_f1 g_h1_f2 g_h1_f3 g_j55_h0_f1 g_j55_h1_f2 g_j55_h1_f3 g_j9_h0_f1 g_j9_h1_f2 g_j9_h1_f3 g_j9_l4 g_j9_l5 g_j9_l6 H locs ls hP hD hS hl
        refine hG _ _ _ ?_
        refine lv_aload_n hx hb dX4_readCondition_55 rfl (lv_at hl 3 rfl) ?_
        refine lv_bipush (v := 38) hx hb dX4_readCondition_56 kc_bipush_38 ?_
        have hPc := hP.sub (ws' := (wd_c_X9_take h1 h1_0 h1_f1 j55_h1_f2 j55_h1_f3 h1_0 h1_0k h1_0c)) [0, 1] rfl
        have hDc := hD.sub (ws' := (wd_c_X9_take h1 h1_0 h1_f1 j55_h1_f2 j55_h1_f3 h1_0 h1_0k h1_0c)) [0, 1] (by decide) rfl
        have hKc := hK.sub (tys' := [(h1_0k, .int)]) [0] rfl
        have hFc := va_free (wc := (wd_c_X9_take h1 h1_0 h1_f1 j55_h1_f2 j55_h1_f3 h1_0 h1_0k h1_0c)) hD hS hA [0, 1] rfl
        refine va_calli (va_runV (As := [.int 38]) (rest := []) ⟨hx, hb, hml, hown, hts⟩ (c_X9_take l dC dI H.size h1 38 h1_0 h1_f1 j55_h1_f2 j55_h1_f3 h1_0k h1_0c (RG_w (RG_k 38 38 rfl) (by decide)) g_h1_f1 g_j55_h1_f2 g_j55_h1_f3 a_h1_0c) (cwV 1 hts gf_c_X4_readCondition_4_c_X9_take rfl rfl rfl (by decide +kernel) ⟨Nat.le_of_ble_eq_true rfl, Nat.le_of_ble_eq_true rfl⟩) ⟨fun a U g mk q => by obtain ⟨q0, q1, qP, qK, qD⟩ := q; exact ⟨q0, q1, qP, va_K.moved (u := U) (U := U.calling g mk a) (Vm.Alike.refl U.vm) qK, qD⟩, va_recv hKc hPc (ci := 9) (q0 := 0) rfl rfl, fun U hU hW => ⟨rfl, by rw [hU], by rw [hU]; exact hPc, va_K.moved hW.alike hKc, hDc.weaken (fun _ _ _ _ => trivial)⟩⟩ rfl rfl hl.1 rfl (lv_room (Nat.le_of_ble_eq_true rfl)) dX4_readCondition_58 ⟨Nat.le_of_ble_eq_true rfl, Nat.le_of_ble_eq_true rfl⟩) hS (fun q _ h => hFc q h) hFc (fun r_15 x_16 t H1 locs ht hvm hw hB hz1 hk1 hS => ?_)
        obtain ⟨hP1, hK1, hD1⟩ := hB
        rw [ht] at hP1
        obtain ⟨hP, hD⟩ := va_join (wr := [(h0, .inr (4, [.ref h0_0, .int j55_h0_f1, .ref h0_2])), (h0_0, .inl (h0_0k, 240, .inl j55_h0_0c))]) (w1 := (wd_c_X9_take h1 h1_0 h1_f1 x_16 j55_h1_f3 h1_0 h1_0k h1_0c)) hP hD [0, 1] [2, 3] rfl rfl (by decide) (by decide) hk1 hFc hP1 hD1
        have hP := hP.sub (ws' := (wd_c_X4_readCondition_4 h1 h1_0 h1_f1 x_16 j55_h1_f3 h1_0 h1_0k h1_0c h0 h0_0 j55_h0_f1 h0_2 h0_0 h0_0k j55_h0_0c)) [2, 3, 0, 1] rfl
        have hD := hD.sub (ws' := (wd_c_X4_readCondition_4 h1 h1_0 h1_f1 x_16 j55_h1_f3 h1_0 h1_0k h1_0c h0 h0_0 j55_h0_f1 h0_2 h0_0 h0_0k j55_h0_0c)) [2, 3, 0, 1] (by decide) rfl
        generalize H1 = H at hP hS ⊢
        rcases hw with ⟨h_17, h_18, h_19⟩ | ⟨h_20, h_21, h_22, h_23, h_24⟩
        · rw [h_17]
          refine lv_istore (lv' := [(4, .int 0), (6, .int j9_l6), (5, .int j9_l5), (0, .ref h0), (1, .ref h1), (2, .int 4), (3, .int 0)]) hx hb dX4_readCondition_61 hl (Nat.le_of_ble_eq_true rfl) rfl (fun ls hl => ?_)
          refine lv_iload hx hb dX4_readCondition_63 (lv_at hl 0 rfl) ?_
          refine lv_if_ne (tgt := 93) hx hb dX4_readCondition_65 rfl (fun c_25 => absurd c_25 (by decide)) (fun c_25 => ?_)
          refine lv_iload hx hb dX4_readCondition_68 (lv_at hl 2 rfl) ?_
          refine lv_if_eq (tgt := 79) hx hb dX4_readCondition_70 rfl (fun c_26 => ?_) (fun c_26 => ?_)
          · have g_27 : RG j9_l5 0 0 := RG_eq1 g_j9_l5 (RG_k 0 0 rfl) c_26 (by decide)
            exact hU _ _ _ (J79 x_16 j55_h1_f3 j55_h0_f1 j55_h0_0c g_h0_f1 g_h1_f1 g_h1_f2 g_h1_f3 g_j55_h0_f1 h_18 g_j55_h1_f3 g_j9_h0_f1 g_j9_h1_f2 g_j9_h1_f3 g_j9_l4 (RG_w g_27 (by decide)) g_j9_l6 _ _ _ hP hD hS (lv_sub hl [0, 1, 3, 4, 5, 6] rfl))
          · have g_28 : RG j9_l5 1 1 := RG_ne1 g_j9_l5 (q := 0) rfl c_26 (by decide)
            refine lv_aload_n hx hb dX4_readCondition_73 rfl (lv_at hl 3 rfl) ?_
            refine lv_bipush (v := (-124)) hx hb dX4_readCondition_74 kc_bipush_m124 ?_
            have hPc := hP.sub (ws' := (wd_c_X4_emit h0 h0_0 j55_h0_f1 h0_2 h0_0 h0_0k j55_h0_0c)) [2, 3] rfl
            have hDc := hD.sub (ws' := (wd_c_X4_emit h0 h0_0 j55_h0_f1 h0_2 h0_0 h0_0k j55_h0_0c)) [2, 3] (by decide) rfl
            have hKc := hK.sub (tys' := [(h0_0k, .int)]) [1] rfl
            have hFc := va_free (wc := (wd_c_X4_emit h0 h0_0 j55_h0_f1 h0_2 h0_0 h0_0k j55_h0_0c)) hD hS hA [2, 3] rfl
            refine va_callv (va_runV (As := [.int (-124)]) (rest := []) ⟨hx, hb, hml, hown, hts⟩ (c_X4_emit l dC dI H.size h0 (-124) h0_0 j55_h0_f1 h0_2 h0_0k j55_h0_0c g_j55_h0_f1) (cwV 1 hts gf_c_X4_readCondition_4_c_X4_emit rfl rfl rfl (by decide +kernel) ⟨Nat.le_of_ble_eq_true rfl, Nat.le_of_ble_eq_true rfl⟩) ⟨fun a U g mk q => by obtain ⟨q0, q1, qP, qK, qD⟩ := q; exact ⟨q0, q1, qP, va_K.moved (u := U) (U := U.calling g mk a) (Vm.Alike.refl U.vm) qK, qD⟩, va_recv hKc hPc (ci := 4) (q0 := 0) rfl rfl, fun U hU hW => ⟨rfl, by rw [hU], by rw [hU]; exact hPc, va_K.moved hW.alike hKc, hDc.weaken (fun _ _ _ _ => trivial)⟩⟩ rfl rfl hl.1 rfl (lv_room (Nat.le_of_ble_eq_true rfl)) dX4_readCondition_76 ⟨Nat.le_of_ble_eq_true rfl, Nat.le_of_ble_eq_true rfl⟩) hS (fun q _ h => hFc q h) hFc (fun u t H1 locs ht hvm hw hB hz1 hk1 hS => ?_)
            obtain ⟨x_30, w_31⟩ := u
            obtain ⟨hP1, hK1, hD1⟩ := hB
            rw [ht] at hP1
            obtain ⟨hP, hD⟩ := va_join (wr := [(h1, .inr (9, [.ref h1_0, .int h1_f1, .int x_16, .int j55_h1_f3])), (h1_0, .inl (h1_0k, 240, .inl h1_0c))]) (w1 := (wd_c_X4_emit h0 h0_0 x_30 h0_2 h0_0 h0_0k w_31)) hP hD [2, 3] [0, 1] rfl rfl (by decide) (by decide) hk1 hFc hP1 hD1
            have hP := hP.sub (ws' := (wd_c_X4_readCondition_4 h1 h1_0 h1_f1 x_16 j55_h1_f3 h1_0 h1_0k h1_0c h0 h0_0 x_30 h0_2 h0_0 h0_0k w_31)) [0, 1, 2, 3] rfl
            have hD := hD.sub (ws' := (wd_c_X4_readCondition_4 h1 h1_0 h1_f1 x_16 j55_h1_f3 h1_0 h1_0k h1_0c h0 h0_0 x_30 h0_2 h0_0 h0_0k w_31)) [0, 1, 2, 3] (by decide) rfl
            generalize H1 = H at hP hS ⊢
            have h_32 := hw
            exact hU _ _ _ (J79 x_16 j55_h1_f3 x_30 w_31 g_h0_f1 g_h1_f1 g_h1_f2 g_h1_f3 (RG_w h_32 (by decide)) h_18 g_j55_h1_f3 g_j9_h0_f1 g_j9_h1_f2 g_j9_h1_f3 g_j9_l4 (RG_w g_28 (by decide)) g_j9_l6 _ _ _ hP hD hS (lv_sub hl [0, 1, 3, 4, 5, 6] rfl))
        · rw [h_20]
          refine lv_istore (lv' := [(4, .int 1), (6, .int j9_l6), (5, .int j9_l5), (0, .ref h0), (1, .ref h1), (2, .int 4), (3, .int 0)]) hx hb dX4_readCondition_61 hl (Nat.le_of_ble_eq_true rfl) rfl (fun ls hl => ?_)
          refine lv_iload hx hb dX4_readCondition_63 (lv_at hl 0 rfl) ?_
          refine lv_if_ne (tgt := 93) hx hb dX4_readCondition_65 rfl (fun c_33 => ?_) (fun c_33 => absurd c_33 (by decide))
          exact hU _ _ _ (J93 1 j9_l5 x_16 j55_h1_f3 j55_h0_f1 j55_h0_0c g_h0_f1 h_22 g_h1_f2 g_h1_f3 g_j55_h0_f1 h_21 h_23 (RG_w (RG_k 1 1 rfl) (by decide)) g_j9_l5 g_j9_h0_f1 g_j9_h1_f2 g_j9_h1_f3 g_j9_l4 g_j9_l5 g_j9_l6 _ _ _ hP hD hS (lv_sub hl [0, 1, 2, 3, 4, 5, 6] rfl))
      have J41 : ∀ (g_h0_f1 : RG h0_f1 0 240) (g_h1_f1 : RG h1_f1 0 240) (g_h1_f2 : RG h1_f2 0 240) (g_h1_f3 : RG h1_f3 (-1) 240) (g_j9_h0_f1 : RG j9_h0_f1 0 240) (g_j9_h1_f2 : RG j9_h1_f2 0 240) (g_j9_h1_f3 : RG j9_h1_f3 (-1) (-1)) (g_j9_l4 : RG j9_l4 0 1) (g_j9_l5 : RG j9_l5 0 1) (g_j9_l6 : RG j9_l6 0 239) (H : Heap) (locs : List Loc) (ls : Array Slot) (hP : va_P (dC, dI) vwCl (wd_c_X4_readCondition_4 h1 h1_0 h1_f1 j9_h1_f2 j9_h1_f3 h1_0 h1_0k h1_0c h0 h0_0 j9_h0_f1 h0_2 h0_0 h0_0k j9_h0_0c) H) (hD : va_D A (wd_c_X4_readCondition_4 h1 h1_0 h1_f1 j9_h1_f2 j9_h1_f3 h1_0 h1_0k h1_0c h0 h0_0 j9_h0_f1 h0_2 h0_0 h0_0k j9_h0_0c)) (hS : va_S A s.heap H locs) (hl : lv_has ls 7 [(6, .int j9_l6), (5, .int j9_l5), (4, .int j9_l4), (0, .ref h0), (1, .ref h1), (2, .int 4), (3, .int 0)]), G H locs (F0 m 41 ls [.int 0, .int 4, .ref h1, .ref h0]) := by
        intro g_h0_f1 g_h1_f1 g_h1_f2 g_h1_f3 g_j9_h0_f1 g_j9_h1_f2 g_j9_h1_f3 g_j9_l4 g_j9_l5 g_j9_l6 H locs ls hP hD hS hl
        refine hG _ _ _ ?_
        have hPc := hP.sub (ws' := (wd_c_X4_readUnit_5 h1 h1_0 h1_f1 j9_h1_f2 j9_h1_f3 h1_0 h1_0k h1_0c h0 h0_0 j9_h0_f1 h0_2 h0_0 h0_0k j9_h0_0c)) [0, 1, 2, 3] rfl
        have hDc := hD.sub (ws' := (wd_c_X4_readUnit_5 h1 h1_0 h1_f1 j9_h1_f2 j9_h1_f3 h1_0 h1_0k h1_0c h0 h0_0 j9_h0_f1 h0_2 h0_0 h0_0k j9_h0_0c)) [0, 1, 2, 3] (by decide) rfl
        have hKc := hK.sub (tys' := [(h1_0k, .int), (h0_0k, .int)]) [0, 1] rfl
        have hFc := va_free (wc := (wd_c_X4_readUnit_5 h1 h1_0 h1_f1 j9_h1_f2 j9_h1_f3 h1_0 h1_0k h1_0c h0 h0_0 j9_h0_f1 h0_2 h0_0 h0_0k j9_h0_0c)) hD hS hA [0, 1, 2, 3] rfl
        refine va_callv (va_runV (As := [.ref h1, .int 4, .int 0]) (rest := []) ⟨hx, hb, hml, hown, hts⟩ (c_X4_readUnit_5 l dC dI H.size h0 h1 h1_0 h1_f1 j9_h1_f2 j9_h1_f3 h1_0k h1_0c h0_0 j9_h0_f1 h0_2 h0_0k j9_h0_0c ts4 tv4 g_h1_f1 g_j9_h1_f2 (RG_w g_j9_h1_f3 (by decide)) a_h1_0c g_j9_h0_f1) (cwV 3 hts gf_c_X4_readCondition_4_c_X4_readUnit_5 rfl rfl rfl (by decide +kernel) ⟨Nat.le_of_ble_eq_true rfl, Nat.le_of_ble_eq_true rfl⟩) ⟨fun a U g mk q => by obtain ⟨q0, q1, qP, qK, qD, qE0, qE1, qE2, qE3, qE4, qE5⟩ := q; exact ⟨q0, q1, qP, va_K.moved (u := U) (U := U.calling g mk a) (Vm.Alike.refl U.vm) qK, qD, vk_R.same rfl qE0, va_Z.moved (u := U) (U := U.calling g mk a) (Vm.Alike.refl U.vm) qE1, va_OF.moved (u := U) (U := U.calling g mk a) (Vm.Alike.refl U.vm) qE2, va_O.moved (u := U) (U := U.calling g mk a) (Vm.Alike.refl U.vm) qE3, va_OF.moved (u := U) (U := U.calling g mk a) (Vm.Alike.refl U.vm) qE4, va_T.moved (u := U) (U := U.calling g mk a) (Vm.Alike.refl U.vm) qE5⟩, va_recv hKc hPc (ci := 4) (q0 := 2) rfl rfl, fun U hU hW => ⟨rfl, by rw [hU], by rw [hU]; exact hPc, va_K.moved hW.alike hKc, hDc.weaken (fun _ _ _ _ => trivial), vk_R.warm hW hE_32, va_Z.moved hW.alike (by rw [hU]; exact (hE_10.kept hS.2.1).narrow hFc), va_OF.moved hW.alike (by rw [hU]; exact (hE_34.kept hS.2.1).narrow hFc), va_O.moved hW.alike (by rw [hU]; exact (hE_33.kept hS.2.1).narrow hFc), va_OF.moved hW.alike (by rw [hU]; exact (hE_35.kept hS.2.1).narrow hFc), va_T.moved hW.alike (by rw [hU]; exact (hE_36.kept hS.2.1).narrow hFc)⟩⟩ rfl rfl hl.1 rfl (lv_room (Nat.le_of_ble_eq_true rfl)) dX4_readCondition_41 ⟨Nat.le_of_ble_eq_true rfl, Nat.le_of_ble_eq_true rfl⟩) hS (fun q _ h => hFc q h) hFc (fun u t H1 locs ht hvm hw hB hz1 hk1 hS => ?_)
        obtain ⟨x_35, x_36, x_37, w_38⟩ := u
        obtain ⟨hP1, hK1, hD1⟩ := hB
        rw [ht] at hP1
        obtain ⟨hP, hD⟩ := va_join (wr := []) (w1 := (wd_c_X4_readUnit_5 h1 h1_0 h1_f1 x_35 x_36 h1_0 h1_0k h1_0c h0 h0_0 x_37 h0_2 h0_0 h0_0k w_38)) hP hD [0, 1, 2, 3] [] rfl rfl (by decide) (by decide) hk1 hFc hP1 hD1
        have hP := hP.sub (ws' := (wd_c_X4_readCondition_4 h1 h1_0 h1_f1 x_35 x_36 h1_0 h1_0k h1_0c h0 h0_0 x_37 h0_2 h0_0 h0_0k w_38)) [0, 1, 2, 3] rfl
        have hD := hD.sub (ws' := (wd_c_X4_readCondition_4 h1 h1_0 h1_f1 x_35 x_36 h1_0 h1_0k h1_0c h0 h0_0 x_37 h0_2 h0_0 h0_0k w_38)) [0, 1, 2, 3] (by decide) rfl
        generalize H1 = H at hP hS ⊢
        rcases hw with ⟨h_39, h_40, h_41⟩
        refine lv_iload hx hb dX4_readCondition_44 (lv_at hl 2 rfl) ?_
        refine lv_if_eq (tgt := 55) hx hb dX4_readCondition_46 rfl (fun c_42 => ?_) (fun c_42 => ?_)
        · have g_43 : RG j9_l4 0 0 := RG_eq1 g_j9_l4 (RG_k 0 0 rfl) c_42 (by decide)
          exact hU _ _ _ (J55 x_35 x_36 x_37 w_38 g_h0_f1 g_h1_f1 g_h1_f2 g_h1_f3 h_41 h_39 h_40 g_j9_h0_f1 g_j9_h1_f2 g_j9_h1_f3 (RG_w g_43 (by decide)) g_j9_l5 g_j9_l6 _ _ _ hP hD hS (lv_sub hl [0, 1, 3, 4, 5, 6] rfl))
        · have g_44 : RG j9_l4 1 1 := RG_ne1 g_j9_l4 (q := 0) rfl c_42 (by decide)
          refine lv_aload_n hx hb dX4_readCondition_49 rfl (lv_at hl 3 rfl) ?_
          refine lv_bipush (v := (-38)) hx hb dX4_readCondition_50 kc_bipush_m38 ?_
          have hPc := hP.sub (ws' := (wd_c_X4_emit h0 h0_0 x_37 h0_2 h0_0 h0_0k w_38)) [2, 3] rfl
          have hDc := hD.sub (ws' := (wd_c_X4_emit h0 h0_0 x_37 h0_2 h0_0 h0_0k w_38)) [2, 3] (by decide) rfl
          have hKc := hK.sub (tys' := [(h0_0k, .int)]) [1] rfl
          have hFc := va_free (wc := (wd_c_X4_emit h0 h0_0 x_37 h0_2 h0_0 h0_0k w_38)) hD hS hA [2, 3] rfl
          refine va_callv (va_runV (As := [.int (-38)]) (rest := []) ⟨hx, hb, hml, hown, hts⟩ (c_X4_emit l dC dI H.size h0 (-38) h0_0 x_37 h0_2 h0_0k w_38 h_41) (cwV 1 hts gf_c_X4_readCondition_4_c_X4_emit rfl rfl rfl (by decide +kernel) ⟨Nat.le_of_ble_eq_true rfl, Nat.le_of_ble_eq_true rfl⟩) ⟨fun a U g mk q => by obtain ⟨q0, q1, qP, qK, qD⟩ := q; exact ⟨q0, q1, qP, va_K.moved (u := U) (U := U.calling g mk a) (Vm.Alike.refl U.vm) qK, qD⟩, va_recv hKc hPc (ci := 4) (q0 := 0) rfl rfl, fun U hU hW => ⟨rfl, by rw [hU], by rw [hU]; exact hPc, va_K.moved hW.alike hKc, hDc.weaken (fun _ _ _ _ => trivial)⟩⟩ rfl rfl hl.1 rfl (lv_room (Nat.le_of_ble_eq_true rfl)) dX4_readCondition_52 ⟨Nat.le_of_ble_eq_true rfl, Nat.le_of_ble_eq_true rfl⟩) hS (fun q _ h => hFc q h) hFc (fun u t H1 locs ht hvm hw hB hz1 hk1 hS => ?_)
          obtain ⟨x_46, w_47⟩ := u
          obtain ⟨hP1, hK1, hD1⟩ := hB
          rw [ht] at hP1
          obtain ⟨hP, hD⟩ := va_join (wr := [(h1, .inr (9, [.ref h1_0, .int h1_f1, .int x_35, .int x_36])), (h1_0, .inl (h1_0k, 240, .inl h1_0c))]) (w1 := (wd_c_X4_emit h0 h0_0 x_46 h0_2 h0_0 h0_0k w_47)) hP hD [2, 3] [0, 1] rfl rfl (by decide) (by decide) hk1 hFc hP1 hD1
          have hP := hP.sub (ws' := (wd_c_X4_readCondition_4 h1 h1_0 h1_f1 x_35 x_36 h1_0 h1_0k h1_0c h0 h0_0 x_46 h0_2 h0_0 h0_0k w_47)) [0, 1, 2, 3] rfl
          have hD := hD.sub (ws' := (wd_c_X4_readCondition_4 h1 h1_0 h1_f1 x_35 x_36 h1_0 h1_0k h1_0c h0 h0_0 x_46 h0_2 h0_0 h0_0k w_47)) [0, 1, 2, 3] (by decide) rfl
          generalize H1 = H at hP hS ⊢
          have h_48 := hw
          exact hU _ _ _ (J55 x_35 x_36 x_46 w_47 g_h0_f1 g_h1_f1 g_h1_f2 g_h1_f3 (RG_w h_48 (by decide)) h_39 h_40 g_j9_h0_f1 g_j9_h1_f2 g_j9_h1_f3 (RG_w g_44 (by decide)) g_j9_l5 g_j9_l6 _ _ _ hP hD hS (lv_sub hl [0, 1, 3, 4, 5, 6] rfl))
      have J40 : ∀ (g_h0_f1 : RG h0_f1 0 240) (g_h1_f1 : RG h1_f1 0 240) (g_h1_f2 : RG h1_f2 0 240) (g_h1_f3 : RG h1_f3 (-1) 240) (g_j9_h0_f1 : RG j9_h0_f1 0 240) (g_j9_h1_f2 : RG j9_h1_f2 0 240) (g_j9_h1_f3 : RG j9_h1_f3 (-1) (-1)) (g_j9_l4 : RG j9_l4 0 1) (g_j9_l5 : RG j9_l5 0 1) (g_j9_l6 : RG j9_l6 0 239) (H : Heap) (locs : List Loc) (ls : Array Slot) (hP : va_P (dC, dI) vwCl (wd_c_X4_readCondition_4 h1 h1_0 h1_f1 j9_h1_f2 j9_h1_f3 h1_0 h1_0k h1_0c h0 h0_0 j9_h0_f1 h0_2 h0_0 h0_0k j9_h0_0c) H) (hD : va_D A (wd_c_X4_readCondition_4 h1 h1_0 h1_f1 j9_h1_f2 j9_h1_f3 h1_0 h1_0k h1_0c h0 h0_0 j9_h0_f1 h0_2 h0_0 h0_0k j9_h0_0c)) (hS : va_S A s.heap H locs) (hl : lv_has ls 7 [(6, .int j9_l6), (5, .int j9_l5), (4, .int j9_l4), (0, .ref h0), (1, .ref h1), (2, .int 4), (3, .int 0)]), G H locs (F0 m 40 ls [.int 4, .ref h1, .ref h0]) := by
        intro g_h0_f1 g_h1_f1 g_h1_f2 g_h1_f3 g_j9_h0_f1 g_j9_h1_f2 g_j9_h1_f3 g_j9_l4 g_j9_l5 g_j9_l6 H locs ls hP hD hS hl
        refine hG _ _ _ ?_
        refine lv_iconst (v := 0) hx hb dX4_readCondition_40 kc_iconst_0 ?_
        exact hU _ _ _ (J41 g_h0_f1 g_h1_f1 g_h1_f2 g_h1_f3 g_j9_h0_f1 g_j9_h1_f2 g_j9_h1_f3 g_j9_l4 g_j9_l5 g_j9_l6 _ _ _ hP hD hS (lv_sub hl [0, 1, 2, 3, 4, 5, 6] rfl))
      refine hG _ _ _ ?_
      refine lv_iload hx hb dX4_readCondition_9 (lv_at hl 0 rfl) ?_
      refine lv_sipush (v := 240) hx hb dX4_readCondition_11 kc_sipush_240 ?_
      refine lv_icmp_ge (tgt := 99) hx hb dX4_readCondition_14 rfl (fun c_49 => ?_) (fun c_49 => ?_)
      · have g_50 : RG j9_l6 240 240 := RG_le2 (RG_k 240 240 rfl) g_j9_l6 c_49 (by decide)
        have hK9 := hK.sub (tys' := []) [] rfl
        exact W.vret hx hb hr (fun t ht hW => ⟨⟨(j9_h1_f2, j9_h1_f3, j9_h0_f1, j9_h0_0c), rfl, ⟨g_j9_h1_f2, g_j9_h1_f3, g_j9_h0_f1⟩, by rw [ht]; exact hP, va_K.moved hW.alike hK9, hD⟩, hS.F ht⟩) hS.2.2 dX4_readCondition_99
      · have d_51 := Int32.not_le.mp c_49
        have g_52 : RG j9_l6 0 239 := RG_lt1 g_j9_l6 (RG_k 240 240 rfl) d_51 (by decide)
        refine lv_aload_n hx hb dX4_readCondition_17 rfl (lv_at hl 4 rfl) ?_
        have hPc := hP.sub (ws' := (wd_c_X9_isRight h1 h1_0 h1_f1 j9_h1_f2 j9_h1_f3)) [0] rfl
        have hDc := hD.sub (ws' := (wd_c_X9_isRight h1 h1_0 h1_f1 j9_h1_f2 j9_h1_f3)) [0] (by decide) rfl
        have hKc := hK.sub (tys' := []) [] rfl
        have hFc := va_free (wc := (wd_c_X9_isRight h1 h1_0 h1_f1 j9_h1_f2 j9_h1_f3)) hD hS hA [0] rfl
        refine va_calli (va_runV (As := []) (rest := []) ⟨hx, hb, hml, hown, hts⟩ (c_X9_isRight l dC dI H.size h1 h1_0 h1_f1 j9_h1_f2 j9_h1_f3 g_h1_f1 g_j9_h1_f2 g_j9_h1_f3) (cwV 0 hts gf_c_X4_readCondition_4_c_X9_isRight rfl rfl rfl (by decide +kernel) ⟨Nat.le_of_ble_eq_true rfl, Nat.le_of_ble_eq_true rfl⟩) ⟨fun a U g mk q => by obtain ⟨q0, q1, qP, qK, qD⟩ := q; exact ⟨q0, q1, qP, va_K.moved (u := U) (U := U.calling g mk a) (Vm.Alike.refl U.vm) qK, qD⟩, va_recv hKc hPc (ci := 9) (q0 := 0) rfl rfl, fun U hU hW => ⟨rfl, by rw [hU], by rw [hU]; exact hPc, va_K.moved hW.alike hKc, hDc.weaken (fun _ _ _ _ => trivial)⟩⟩ rfl rfl hl.1 rfl (lv_room (Nat.le_of_ble_eq_true rfl)) dX4_readCondition_18 ⟨Nat.le_of_ble_eq_true rfl, Nat.le_of_ble_eq_true rfl⟩) hS (fun q _ h => hFc q h) hFc (fun r_53 u t H1 locs ht hvm hw hB hz1 hk1 hS => ?_)
        obtain ⟨hP1, hK1, hD1⟩ := hB
        rw [ht] at hP1
        obtain ⟨hP, hD⟩ := va_join (wr := [(h1_0, .inl (h1_0k, 240, .inl h1_0c)), (h0, .inr (4, [.ref h0_0, .int j9_h0_f1, .ref h0_2])), (h0_0, .inl (h0_0k, 240, .inl j9_h0_0c))]) (w1 := (wd_c_X9_isRight h1 h1_0 h1_f1 j9_h1_f2 j9_h1_f3)) hP hD [0] [1, 2, 3] rfl rfl (by decide) (by decide) hk1 hFc hP1 hD1
        have hP := hP.sub (ws' := (wd_c_X4_readCondition_4 h1 h1_0 h1_f1 j9_h1_f2 j9_h1_f3 h1_0 h1_0k h1_0c h0 h0_0 j9_h0_f1 h0_2 h0_0 h0_0k j9_h0_0c)) [3, 0, 1, 2] rfl
        have hD := hD.sub (ws' := (wd_c_X4_readCondition_4 h1 h1_0 h1_f1 j9_h1_f2 j9_h1_f3 h1_0 h1_0k h1_0c h0 h0_0 j9_h0_f1 h0_2 h0_0 h0_0k j9_h0_0c)) [3, 0, 1, 2] (by decide) rfl
        generalize H1 = H at hP hS ⊢
        rcases hw with ⟨h_54, h_55⟩ | ⟨h_56, h_57⟩
        · rw [h_54]
          refine lv_if_eq (tgt := 99) hx hb dX4_readCondition_21 rfl (fun c_58 => ?_) (fun c_58 => absurd c_58 (by decide))
          have hK9 := hK.sub (tys' := []) [] rfl
          exact W.vret hx hb hr (fun t ht hW => ⟨⟨(j9_h1_f2, j9_h1_f3, j9_h0_f1, j9_h0_0c), rfl, ⟨g_j9_h1_f2, (RG_w h_55 (by decide)), g_j9_h0_f1⟩, by rw [ht]; exact hP, va_K.moved hW.alike hK9, hD⟩, hS.F ht⟩) hS.2.2 dX4_readCondition_99
        · rw [h_56]
          refine lv_if_eq (tgt := 99) hx hb dX4_readCondition_21 rfl (fun c_59 => absurd c_59 (by decide)) (fun c_59 => ?_)
          refine lv_aload_n hx hb dX4_readCondition_24 rfl (lv_at hl 3 rfl) ?_
          refine lv_aload_n hx hb dX4_readCondition_25 rfl (lv_at hl 4 rfl) ?_
          refine lv_iload_n hx hb dX4_readCondition_26 rfl (lv_at hl 5 rfl) ?_
          refine lv_iload_n hx hb dX4_readCondition_27 rfl (lv_at hl 6 rfl) ?_
          refine lv_if_eq (tgt := 40) hx hb dX4_readCondition_28 rfl (fun c_60 => ?_) (fun c_60 => absurd c_60 (by decide))
          exact hU _ _ _ (J40 g_h0_f1 g_h1_f1 g_h1_f2 g_h1_f3 g_j9_h0_f1 g_j9_h1_f2 h_57 g_j9_l4 g_j9_l5 g_52 _ _ _ hP hD hS (lv_sub hl [0, 1, 2, 3, 4, 5, 6] rfl))
  refine hG _ _ _ ?_
  refine lv_iconst (v := 0) hx hb dX4_readCondition_0 kc_iconst_0 ?_
  refine lv_istore (lv' := [(4, .int 0), (0, .ref h0), (1, .ref h1), (2, .int 4), (3, .int 0)]) hx hb dX4_readCondition_1 hl (Nat.le_of_ble_eq_true rfl) rfl (fun ls hl => ?_)
  refine lv_iconst (v := 0) hx hb dX4_readCondition_3 kc_iconst_0 ?_
  refine lv_istore (lv' := [(5, .int 0), (4, .int 0), (0, .ref h0), (1, .ref h1), (2, .int 4), (3, .int 0)]) hx hb dX4_readCondition_4 hl (Nat.le_of_ble_eq_true rfl) rfl (fun ls hl => ?_)
  refine lv_iconst (v := 0) hx hb dX4_readCondition_6 kc_iconst_0 ?_
  refine lv_istore (lv' := [(6, .int 0), (5, .int 0), (4, .int 0), (0, .ref h0), (1, .ref h1), (2, .int 4), (3, .int 0)]) hx hb dX4_readCondition_7 hl (Nat.le_of_ble_eq_true rfl) rfl (fun ls hl => ?_)
  exact hU _ _ _ (J9 _ 0 0 0 h1_f2 h1_f3 h0_f1 h0_0c (Nat.lt_succ_self _) g_h0_f1 g_h1_f1 g_h1_f2 g_h1_f3 g_h0_f1 g_h1_f2 g_h1_f3 (RG_w (RG_k 0 0 rfl) (by decide)) (RG_w (RG_k 0 0 rfl) (by decide)) (RG_w (RG_k 0 0 rfl) (by decide)) _ _ _ hP hD hS (lv_sub hl [0, 1, 2, 3, 4, 5, 6] rfl))
def wd_c_X4_readUnit_4 (a0 : Nat) (a1 : Nat) (a2 : Int32) (a3 : Int32) (a4 : Int32) (a5 : Nat) (a6 : ClassId) (a7 : Nat → Int32) (a8 : Nat) (a9 : Nat) (a10 : Int32) (a11 : Nat) (a12 : Nat) (a13 : ClassId) (a14 : Nat → Int32) : va_W := [(a0, .inr (9, [.ref a1, .int a2, .int a3, .int a4])), (a5, .inl (a6, 240, .inl a7)), (a8, .inr (4, [.ref a9, .int a10, .ref a11])), (a12, .inl (a13, 240, .inl a14))]
def wf_c_X4_readUnit_4 : List Cond := .code yX4_readUnit cX4_readUnit 5 none :: ([.methodLink RX4 41 yX9_peek, .instanceMethod yX9_peek, .selects RX9 yX9_peek yX9_peek, .initialized RX9, .code yX9_peek cX9_peek 1 (some .int), .fieldLink RX9 22 "BuoyVote$Tape" "at" "I", .fieldLink RX9 19 "BuoyVote$Tape" "length" "I", .fieldLink RX9 11 "BuoyVote$Tape" "bytes" "[I", .methodLink RX4 45 yX4_startsUnit, .static yX4_startsUnit, .initialized RX4, .code yX4_startsUnit cX4_startsUnit 1 (some .boolean), .methodLink RX4 63 yX9_take, .instanceMethod yX9_take, .selects RX9 yX9_take yX9_take, .code yX9_take cX9_take 2 (some .boolean), .fieldLink RX9 15 "BuoyVote$Tape" "wrong" "I", .methodLink RX9 29 yX9_peek, .methodLink RX4 37 yX9_expect, .instanceMethod yX9_expect, .selects RX9 yX9_expect yX9_expect, .code yX9_expect cX9_expect 2 none, .methodLink RX9 25 yX9_refuse, .instanceMethod yX9_refuse, .selects RX9 yX9_refuse yX9_refuse, .code yX9_refuse cX9_refuse 2 none, .methodLink RX4 56 yX4_readCondition, .instanceMethod yX4_readCondition, .selects RX4 yX4_readCondition yX4_readCondition, .code yX4_readCondition cX4_readCondition 7 none, .methodLink RX4 72 yX9_isRight, .instanceMethod yX9_isRight, .selects RX9 yX9_isRight yX9_isRight, .code yX9_isRight cX9_isRight 1 (some .boolean), .methodLink RX4 76 yX4_readUnit, .instanceMethod yX4_readUnit, .selects RX4 yX4_readUnit yX4_readUnit, .methodLink RX4 82 yX9_refuseHere, .instanceMethod yX9_refuseHere, .selects RX9 yX9_refuseHere yX9_refuseHere, .code yX9_refuseHere cX9_refuseHere 1 none, .methodLink RX4 49 yX4_readSum, .instanceMethod yX4_readSum, .selects RX4 yX4_readSum yX4_readSum, .code yX4_readSum cX4_readSum 6 none, .methodLink RX4 85 yX4_readAtom, .instanceMethod yX4_readAtom, .selects RX4 yX4_readAtom yX4_readAtom, .code yX4_readAtom cX4_readAtom 6 none, .methodLink RX4 93 yJ0_indexOf_0f7a4, .instanceMethod yJ0_indexOf_0f7a4, .selects RJ0 yJ0_indexOf_0f7a4 yJ0_indexOf_0f7a4, .initialized RJ0, .code yJ0_indexOf_0f7a4 cJ0_indexOf_0f7a4 2 (some .int), .methodLink RJ0 633 yJ0_indexOf_7cf53, .instanceMethod yJ0_indexOf_7cf53, .selects RJ0 yJ0_indexOf_7cf53 yJ0_indexOf_7cf53, .code yJ0_indexOf_7cf53 cJ0_indexOf_7cf53 3 (some .int), .methodLink RJ0 492 yJ0_isLatin1_aae02, .instanceMethod yJ0_isLatin1_aae02, .selects RJ0 yJ0_isLatin1_aae02 yJ0_isLatin1_aae02, .code yJ0_isLatin1_aae02 cJ0_isLatin1_aae02 1 (some .boolean), .fieldLink RJ0 38 "java/lang/String" "COMPACT_STRINGS" "Z", .fieldLink RJ0 15 "java/lang/String" "coder" "B", .fieldLink RJ0 9 "java/lang/String" "value" "[B", .methodLink RJ0 505 yJ0_length_8abf5, .instanceMethod yJ0_length_8abf5, .selects RJ0 yJ0_length_8abf5 yJ0_length_8abf5, .code yJ0_length_8abf5 cJ0_length_8abf5 1 (some .int), .methodLink RJ0 335 yJ0_coder_7d493, .instanceMethod yJ0_coder_7d493, .selects RJ0 yJ0_coder_7d493 yJ0_coder_7d493, .code yJ0_coder_7d493 cJ0_coder_7d493 1 (some .byte), .methodLink RJ0 637 yJ1_indexOf_4cfef, .static yJ1_indexOf_4cfef, .initialized RJ1, .code yJ1_indexOf_4cfef cJ1_indexOf_4cfef 4 (some .int), .methodLink RJ1 88 yJ1_canEncode_9a6ad, .static yJ1_canEncode_9a6ad, .code yJ1_canEncode_9a6ad cJ1_canEncode_9a6ad 1 (some .boolean), .methodLink RJ1 92 Lib.Math.max.name, .static Lib.Math.max.name, .initialized "java/lang/Math", .code Lib.Math.max.name Lib.Math.max.code 2 (some .int), .methodLink RJ1 38 Lib.Math.min.name, .static Lib.Math.min.name, .code Lib.Math.min.name Lib.Math.min.code 2 (some .int), .methodLink RJ1 95 yJ1_indexOfChar_4cfef, .static yJ1_indexOfChar_4cfef, .code yJ1_indexOfChar_4cfef cJ1_indexOfChar_4cfef 6 (some .int), .methodLink RX4 99 yX9_number, .instanceMethod yX9_number, .selects RX9 yX9_number yX9_number, .code yX9_number cX9_number 4 (some .int), .methodLink RX4 79 yX9_skip, .instanceMethod yX9_skip, .selects RX9 yX9_skip yX9_skip, .code yX9_skip cX9_skip 1 none, .methodLink RX4 60 yX4_emit, .instanceMethod yX4_emit, .selects RX4 yX4_emit yX4_emit, .code yX4_emit cX4_emit 2 none, .fieldLink RX4 20 "BuoyVote$Law" "length" "I", .fieldLink RX4 11 "BuoyVote$Law" "code" "[I", .methodLink RX4 88 yX9_takeEither, .instanceMethod yX9_takeEither, .selects RX9 yX9_takeEither yX9_takeEither, .code yX9_takeEither cX9_takeEither 4 (some .int), .methodLink RX4 53 yX4_isComparison, .static yX4_isComparison, .code yX4_isComparison cX4_isComparison 1 (some .boolean)] ++ wsX90 ++ wsX40)
theorem iw_c_X4_readUnit_4_X9 : ∀ w ∈ wsX90, w ∈ wf_c_X4_readUnit_4 := fun w h => List.mem_cons_of_mem _ (List.mem_append_left _ (List.mem_append_right _ h))
theorem iw_c_X4_readUnit_4_X4 : ∀ w ∈ wsX40, w ∈ wf_c_X4_readUnit_4 := fun w h => List.mem_cons_of_mem _ (List.mem_append_right _ h)
set_option maxRecDepth 20000 in
theorem gf_c_X4_readUnit_4_c_X9_peek : GoodIn wf_c_X4_readUnit_4 (wsV RX4 41 RX9 yX9_peek wf_c_X9_peek) := goodIn_app (gi_cons (j := 1) rfl rfl (gi_cons (j := 2) rfl rfl (gi_cons (j := 3) rfl rfl (gi_cons (j := 4) rfl rfl (gi_nil))))) (gi_cons (j := 5) rfl rfl (goodIn_app (gi_cons (j := 6) rfl rfl (gi_cons (j := 7) rfl rfl (gi_cons (j := 8) rfl rfl (gi_nil)))) (goodIn_sub iw_c_X4_readUnit_4_X9 gw_X9)))
set_option maxRecDepth 20000 in
theorem gf_c_X4_readUnit_4_c_X4_isComparison : GoodIn wf_c_X4_readUnit_4 (va_wsS RX4 53 yX4_isComparison wf_c_X4_isComparison) := goodIn_app (gi_cons (j := 109) rfl rfl (gi_cons (j := 110) rfl rfl (gi_cons (j := 11) rfl rfl (gi_nil)))) (gi_cons (j := 111) rfl rfl (gi_nil))
set_option maxRecDepth 20000 in
theorem gf_c_X4_readUnit_4_c_X9_refuseHere : GoodIn wf_c_X4_readUnit_4 (wsV RX4 82 RX9 yX9_refuseHere wf_c_X9_refuseHere) := goodIn_app (gi_cons (j := 38) rfl rfl (gi_cons (j := 39) rfl rfl (gi_cons (j := 40) rfl rfl (gi_cons (j := 4) rfl rfl (gi_nil))))) (gi_cons (j := 41) rfl rfl (goodIn_app (gi_cons (j := 6) rfl rfl (gi_cons (j := 23) rfl rfl (gi_cons (j := 24) rfl rfl (gi_cons (j := 25) rfl rfl (gi_cons (j := 4) rfl rfl (gi_cons (j := 26) rfl rfl (gi_cons (j := 17) rfl rfl (gi_nil)))))))) (goodIn_sub iw_c_X4_readUnit_4_X9 gw_X9)))
set_option maxRecDepth 20000 in
theorem gf_c_X4_readUnit_4_c_X4_isComparison_1 : GoodIn wf_c_X4_readUnit_4 (va_wsS RX4 53 yX4_isComparison wf_c_X4_isComparison_1) := goodIn_app (gi_cons (j := 109) rfl rfl (gi_cons (j := 110) rfl rfl (gi_cons (j := 11) rfl rfl (gi_nil)))) (gi_cons (j := 111) rfl rfl (gi_nil))
set_option maxRecDepth 20000 in
theorem gf_c_X4_readUnit_4_c_X9_skip : GoodIn wf_c_X4_readUnit_4 (wsV RX4 79 RX9 yX9_skip wf_c_X9_skip) := goodIn_app (gi_cons (j := 95) rfl rfl (gi_cons (j := 96) rfl rfl (gi_cons (j := 97) rfl rfl (gi_cons (j := 4) rfl rfl (gi_nil))))) (gi_cons (j := 98) rfl rfl (goodIn_app (gi_cons (j := 6) rfl rfl (gi_nil)) (goodIn_sub iw_c_X4_readUnit_4_X9 gw_X9)))
set_option maxRecDepth 20000 in
theorem gf_c_X4_readUnit_4_c_X4_readSum_3 : GoodIn wf_c_X4_readUnit_4 (wsV RX4 49 RX4 yX4_readSum wf_c_X4_readSum_3) := goodIn_app (gi_cons (j := 42) rfl rfl (gi_cons (j := 43) rfl rfl (gi_cons (j := 44) rfl rfl (gi_cons (j := 11) rfl rfl (gi_nil))))) (gi_cons (j := 45) rfl rfl (goodIn_app (goodIn_app (gi_cons (j := 31) rfl rfl (gi_cons (j := 32) rfl rfl (gi_cons (j := 33) rfl rfl (gi_cons (j := 4) rfl rfl (gi_cons (j := 34) rfl rfl (gi_cons (j := 17) rfl rfl (gi_cons (j := 46) rfl rfl (gi_cons (j := 47) rfl rfl (gi_cons (j := 48) rfl rfl (gi_cons (j := 11) rfl rfl (gi_cons (j := 49) rfl rfl (gi_cons (j := 1) rfl rfl (gi_cons (j := 2) rfl rfl (gi_cons (j := 3) rfl rfl (gi_cons (j := 5) rfl rfl (gi_cons (j := 6) rfl rfl (gi_cons (j := 7) rfl rfl (gi_cons (j := 8) rfl rfl (gi_cons (j := 50) rfl rfl (gi_cons (j := 51) rfl rfl (gi_cons (j := 52) rfl rfl (gi_cons (j := 53) rfl rfl (gi_cons (j := 54) rfl rfl (gi_cons (j := 55) rfl rfl (gi_cons (j := 56) rfl rfl (gi_cons (j := 57) rfl rfl (gi_cons (j := 58) rfl rfl (gi_cons (j := 59) rfl rfl (gi_cons (j := 60) rfl rfl (gi_cons (j := 61) rfl rfl (gi_cons (j := 62) rfl rfl (gi_cons (j := 63) rfl rfl (gi_cons (j := 64) rfl rfl (gi_cons (j := 65) rfl rfl (gi_cons (j := 66) rfl rfl (gi_cons (j := 67) rfl rfl (gi_cons (j := 68) rfl rfl (gi_cons (j := 69) rfl rfl (gi_cons (j := 70) rfl rfl (gi_cons (j := 71) rfl rfl (gi_cons (j := 72) rfl rfl (gi_cons (j := 73) rfl rfl (gi_cons (j := 74) rfl rfl (gi_cons (j := 75) rfl rfl (gi_cons (j := 76) rfl rfl (gi_cons (j := 77) rfl rfl (gi_cons (j := 78) rfl rfl (gi_cons (j := 79) rfl rfl (gi_cons (j := 80) rfl rfl (gi_cons (j := 81) rfl rfl (gi_cons (j := 82) rfl rfl (gi_cons (j := 83) rfl rfl (gi_cons (j := 84) rfl rfl (gi_cons (j := 85) rfl rfl (gi_cons (j := 86) rfl rfl (gi_cons (j := 87) rfl rfl (gi_cons (j := 88) rfl rfl (gi_cons (j := 89) rfl rfl (gi_cons (j := 90) rfl rfl (gi_cons (j := 91) rfl rfl (gi_cons (j := 92) rfl rfl (gi_cons (j := 93) rfl rfl (gi_cons (j := 94) rfl rfl (gi_cons (j := 38) rfl rfl (gi_cons (j := 39) rfl rfl (gi_cons (j := 40) rfl rfl (gi_cons (j := 41) rfl rfl (gi_cons (j := 23) rfl rfl (gi_cons (j := 24) rfl rfl (gi_cons (j := 25) rfl rfl (gi_cons (j := 26) rfl rfl (gi_cons (j := 95) rfl rfl (gi_cons (j := 96) rfl rfl (gi_cons (j := 97) rfl rfl (gi_cons (j := 98) rfl rfl (gi_cons (j := 42) rfl rfl (gi_cons (j := 43) rfl rfl (gi_cons (j := 44) rfl rfl (gi_cons (j := 99) rfl rfl (gi_cons (j := 100) rfl rfl (gi_cons (j := 101) rfl rfl (gi_cons (j := 102) rfl rfl (gi_cons (j := 103) rfl rfl (gi_cons (j := 104) rfl rfl (gi_cons (j := 105) rfl rfl (gi_cons (j := 106) rfl rfl (gi_cons (j := 107) rfl rfl (gi_cons (j := 108) rfl rfl (gi_cons (j := 18) rfl rfl (gi_cons (j := 19) rfl rfl (gi_cons (j := 20) rfl rfl (gi_cons (j := 21) rfl rfl (gi_cons (j := 22) rfl rfl (gi_nil)))))))))))))))))))))))))))))))))))))))))))))))))))))))))))))))))))))))))))))))))))))))))))))) (goodIn_sub iw_c_X4_readUnit_4_X9 gw_X9)) (goodIn_sub iw_c_X4_readUnit_4_X4 gw_X4)))
set_option maxRecDepth 20000 in
theorem gf_c_X4_readUnit_4_c_X4_emit : GoodIn wf_c_X4_readUnit_4 (wsV RX4 60 RX4 yX4_emit wf_c_X4_emit) := goodIn_app (gi_cons (j := 99) rfl rfl (gi_cons (j := 100) rfl rfl (gi_cons (j := 101) rfl rfl (gi_cons (j := 11) rfl rfl (gi_nil))))) (gi_cons (j := 102) rfl rfl (goodIn_app (gi_cons (j := 103) rfl rfl (gi_cons (j := 104) rfl rfl (gi_nil))) (goodIn_sub iw_c_X4_readUnit_4_X4 gw_X4)))
set_option maxRecDepth 20000 in
theorem gf_c_X4_readUnit_4_c_X4_startsUnit : GoodIn wf_c_X4_readUnit_4 (va_wsS RX4 45 yX4_startsUnit wf_c_X4_startsUnit) := goodIn_app (gi_cons (j := 9) rfl rfl (gi_cons (j := 10) rfl rfl (gi_cons (j := 11) rfl rfl (gi_nil)))) (gi_cons (j := 12) rfl rfl (gi_nil))
set_option maxRecDepth 20000 in
theorem gf_c_X4_readUnit_4_c_X4_startsUnit_1 : GoodIn wf_c_X4_readUnit_4 (va_wsS RX4 45 yX4_startsUnit wf_c_X4_startsUnit_1) := goodIn_app (gi_cons (j := 9) rfl rfl (gi_cons (j := 10) rfl rfl (gi_cons (j := 11) rfl rfl (gi_nil)))) (gi_cons (j := 12) rfl rfl (gi_nil))
set_option maxRecDepth 20000 in
theorem gf_c_X4_readUnit_4_c_X9_take : GoodIn wf_c_X4_readUnit_4 (wsV RX4 63 RX9 yX9_take wf_c_X9_take) := goodIn_app (gi_cons (j := 13) rfl rfl (gi_cons (j := 14) rfl rfl (gi_cons (j := 15) rfl rfl (gi_cons (j := 4) rfl rfl (gi_nil))))) (gi_cons (j := 16) rfl rfl (goodIn_app (gi_cons (j := 17) rfl rfl (gi_cons (j := 18) rfl rfl (gi_cons (j := 2) rfl rfl (gi_cons (j := 3) rfl rfl (gi_cons (j := 4) rfl rfl (gi_cons (j := 5) rfl rfl (gi_cons (j := 6) rfl rfl (gi_cons (j := 7) rfl rfl (gi_cons (j := 8) rfl rfl (gi_nil)))))))))) (goodIn_sub iw_c_X4_readUnit_4_X9 gw_X9)))
set_option maxRecDepth 20000 in
theorem gf_c_X4_readUnit_4_c_X9_expect_1 : GoodIn wf_c_X4_readUnit_4 (wsV RX4 37 RX9 yX9_expect wf_c_X9_expect_1) := goodIn_app (gi_cons (j := 19) rfl rfl (gi_cons (j := 20) rfl rfl (gi_cons (j := 21) rfl rfl (gi_cons (j := 4) rfl rfl (gi_nil))))) (gi_cons (j := 22) rfl rfl (goodIn_app (gi_cons (j := 17) rfl rfl (gi_cons (j := 18) rfl rfl (gi_cons (j := 2) rfl rfl (gi_cons (j := 3) rfl rfl (gi_cons (j := 4) rfl rfl (gi_cons (j := 5) rfl rfl (gi_cons (j := 6) rfl rfl (gi_cons (j := 7) rfl rfl (gi_cons (j := 8) rfl rfl (gi_cons (j := 23) rfl rfl (gi_cons (j := 24) rfl rfl (gi_cons (j := 25) rfl rfl (gi_cons (j := 26) rfl rfl (gi_nil)))))))))))))) (goodIn_sub iw_c_X4_readUnit_4_X9 gw_X9)))
set_option maxRecDepth 20000 in
theorem gf_c_X4_readUnit_4_c_X4_readCondition_4 : GoodIn wf_c_X4_readUnit_4 (wsV RX4 56 RX4 yX4_readCondition wf_c_X4_readCondition_4) := goodIn_app (gi_cons (j := 27) rfl rfl (gi_cons (j := 28) rfl rfl (gi_cons (j := 29) rfl rfl (gi_cons (j := 11) rfl rfl (gi_nil))))) (gi_cons (j := 30) rfl rfl (goodIn_app (goodIn_app (gi_cons (j := 31) rfl rfl (gi_cons (j := 32) rfl rfl (gi_cons (j := 33) rfl rfl (gi_cons (j := 4) rfl rfl (gi_cons (j := 34) rfl rfl (gi_cons (j := 17) rfl rfl (gi_cons (j := 35) rfl rfl (gi_cons (j := 36) rfl rfl (gi_cons (j := 37) rfl rfl (gi_cons (j := 11) rfl rfl (gi_cons (j := 0) rfl rfl (gi_cons (j := 1) rfl rfl (gi_cons (j := 2) rfl rfl (gi_cons (j := 3) rfl rfl (gi_cons (j := 5) rfl rfl (gi_cons (j := 6) rfl rfl (gi_cons (j := 7) rfl rfl (gi_cons (j := 8) rfl rfl (gi_cons (j := 9) rfl rfl (gi_cons (j := 10) rfl rfl (gi_cons (j := 12) rfl rfl (gi_cons (j := 13) rfl rfl (gi_cons (j := 14) rfl rfl (gi_cons (j := 15) rfl rfl (gi_cons (j := 16) rfl rfl (gi_cons (j := 18) rfl rfl (gi_cons (j := 19) rfl rfl (gi_cons (j := 20) rfl rfl (gi_cons (j := 21) rfl rfl (gi_cons (j := 22) rfl rfl (gi_cons (j := 23) rfl rfl (gi_cons (j := 24) rfl rfl (gi_cons (j := 25) rfl rfl (gi_cons (j := 26) rfl rfl (gi_cons (j := 27) rfl rfl (gi_cons (j := 28) rfl rfl (gi_cons (j := 29) rfl rfl (gi_cons (j := 38) rfl rfl (gi_cons (j := 39) rfl rfl (gi_cons (j := 40) rfl rfl (gi_cons (j := 41) rfl rfl (gi_cons (j := 42) rfl rfl (gi_cons (j := 43) rfl rfl (gi_cons (j := 44) rfl rfl (gi_cons (j := 45) rfl rfl (gi_cons (j := 46) rfl rfl (gi_cons (j := 47) rfl rfl (gi_cons (j := 48) rfl rfl (gi_cons (j := 49) rfl rfl (gi_cons (j := 50) rfl rfl (gi_cons (j := 51) rfl rfl (gi_cons (j := 52) rfl rfl (gi_cons (j := 53) rfl rfl (gi_cons (j := 54) rfl rfl (gi_cons (j := 55) rfl rfl (gi_cons (j := 56) rfl rfl (gi_cons (j := 57) rfl rfl (gi_cons (j := 58) rfl rfl (gi_cons (j := 59) rfl rfl (gi_cons (j := 60) rfl rfl (gi_cons (j := 61) rfl rfl (gi_cons (j := 62) rfl rfl (gi_cons (j := 63) rfl rfl (gi_cons (j := 64) rfl rfl (gi_cons (j := 65) rfl rfl (gi_cons (j := 66) rfl rfl (gi_cons (j := 67) rfl rfl (gi_cons (j := 68) rfl rfl (gi_cons (j := 69) rfl rfl (gi_cons (j := 70) rfl rfl (gi_cons (j := 71) rfl rfl (gi_cons (j := 72) rfl rfl (gi_cons (j := 73) rfl rfl (gi_cons (j := 74) rfl rfl (gi_cons (j := 75) rfl rfl (gi_cons (j := 76) rfl rfl (gi_cons (j := 77) rfl rfl (gi_cons (j := 78) rfl rfl (gi_cons (j := 79) rfl rfl (gi_cons (j := 80) rfl rfl (gi_cons (j := 81) rfl rfl (gi_cons (j := 82) rfl rfl (gi_cons (j := 83) rfl rfl (gi_cons (j := 84) rfl rfl (gi_cons (j := 85) rfl rfl (gi_cons (j := 86) rfl rfl (gi_cons (j := 87) rfl rfl (gi_cons (j := 88) rfl rfl (gi_cons (j := 89) rfl rfl (gi_cons (j := 90) rfl rfl (gi_cons (j := 91) rfl rfl (gi_cons (j := 92) rfl rfl (gi_cons (j := 93) rfl rfl (gi_cons (j := 94) rfl rfl (gi_cons (j := 95) rfl rfl (gi_cons (j := 96) rfl rfl (gi_cons (j := 97) rfl rfl (gi_cons (j := 98) rfl rfl (gi_cons (j := 99) rfl rfl (gi_cons (j := 100) rfl rfl (gi_cons (j := 101) rfl rfl (gi_cons (j := 102) rfl rfl (gi_cons (j := 103) rfl rfl (gi_cons (j := 104) rfl rfl (gi_cons (j := 105) rfl rfl (gi_cons (j := 106) rfl rfl (gi_cons (j := 107) rfl rfl (gi_cons (j := 108) rfl rfl (gi_cons (j := 109) rfl rfl (gi_cons (j := 110) rfl rfl (gi_cons (j := 111) rfl rfl (gi_nil)))))))))))))))))))))))))))))))))))))))))))))))))))))))))))))))))))))))))))))))))))))))))))))))))))))))))))))))) (goodIn_sub iw_c_X4_readUnit_4_X9 gw_X9)) (goodIn_sub iw_c_X4_readUnit_4_X4 gw_X4)))
set_option maxRecDepth 20000 in
theorem gf_c_X4_readUnit_4_c_X4_readUnit_5 : GoodIn wf_c_X4_readUnit_4 (wsV RX4 76 RX4 yX4_readUnit wf_c_X4_readUnit_5) := goodIn_app (gi_cons (j := 35) rfl rfl (gi_cons (j := 36) rfl rfl (gi_cons (j := 37) rfl rfl (gi_cons (j := 11) rfl rfl (gi_nil))))) (gi_cons (j := 0) rfl rfl (goodIn_app (goodIn_app (gi_cons (j := 1) rfl rfl (gi_cons (j := 2) rfl rfl (gi_cons (j := 3) rfl rfl (gi_cons (j := 4) rfl rfl (gi_cons (j := 5) rfl rfl (gi_cons (j := 6) rfl rfl (gi_cons (j := 7) rfl rfl (gi_cons (j := 8) rfl rfl (gi_cons (j := 9) rfl rfl (gi_cons (j := 10) rfl rfl (gi_cons (j := 11) rfl rfl (gi_cons (j := 12) rfl rfl (gi_cons (j := 13) rfl rfl (gi_cons (j := 14) rfl rfl (gi_cons (j := 15) rfl rfl (gi_cons (j := 16) rfl rfl (gi_cons (j := 17) rfl rfl (gi_cons (j := 18) rfl rfl (gi_cons (j := 19) rfl rfl (gi_cons (j := 20) rfl rfl (gi_cons (j := 21) rfl rfl (gi_cons (j := 22) rfl rfl (gi_cons (j := 23) rfl rfl (gi_cons (j := 24) rfl rfl (gi_cons (j := 25) rfl rfl (gi_cons (j := 26) rfl rfl (gi_cons (j := 27) rfl rfl (gi_cons (j := 28) rfl rfl (gi_cons (j := 29) rfl rfl (gi_cons (j := 30) rfl rfl (gi_cons (j := 31) rfl rfl (gi_cons (j := 32) rfl rfl (gi_cons (j := 33) rfl rfl (gi_cons (j := 34) rfl rfl (gi_cons (j := 35) rfl rfl (gi_cons (j := 36) rfl rfl (gi_cons (j := 37) rfl rfl (gi_cons (j := 38) rfl rfl (gi_cons (j := 39) rfl rfl (gi_cons (j := 40) rfl rfl (gi_cons (j := 41) rfl rfl (gi_cons (j := 42) rfl rfl (gi_cons (j := 43) rfl rfl (gi_cons (j := 44) rfl rfl (gi_cons (j := 45) rfl rfl (gi_cons (j := 46) rfl rfl (gi_cons (j := 47) rfl rfl (gi_cons (j := 48) rfl rfl (gi_cons (j := 49) rfl rfl (gi_cons (j := 50) rfl rfl (gi_cons (j := 51) rfl rfl (gi_cons (j := 52) rfl rfl (gi_cons (j := 53) rfl rfl (gi_cons (j := 54) rfl rfl (gi_cons (j := 55) rfl rfl (gi_cons (j := 56) rfl rfl (gi_cons (j := 57) rfl rfl (gi_cons (j := 58) rfl rfl (gi_cons (j := 59) rfl rfl (gi_cons (j := 60) rfl rfl (gi_cons (j := 61) rfl rfl (gi_cons (j := 62) rfl rfl (gi_cons (j := 63) rfl rfl (gi_cons (j := 64) rfl rfl (gi_cons (j := 65) rfl rfl (gi_cons (j := 66) rfl rfl (gi_cons (j := 67) rfl rfl (gi_cons (j := 68) rfl rfl (gi_cons (j := 69) rfl rfl (gi_cons (j := 70) rfl rfl (gi_cons (j := 71) rfl rfl (gi_cons (j := 72) rfl rfl (gi_cons (j := 73) rfl rfl (gi_cons (j := 74) rfl rfl (gi_cons (j := 75) rfl rfl (gi_cons (j := 76) rfl rfl (gi_cons (j := 77) rfl rfl (gi_cons (j := 78) rfl rfl (gi_cons (j := 79) rfl rfl (gi_cons (j := 80) rfl rfl (gi_cons (j := 81) rfl rfl (gi_cons (j := 82) rfl rfl (gi_cons (j := 83) rfl rfl (gi_cons (j := 84) rfl rfl (gi_cons (j := 85) rfl rfl (gi_cons (j := 86) rfl rfl (gi_cons (j := 87) rfl rfl (gi_cons (j := 88) rfl rfl (gi_cons (j := 89) rfl rfl (gi_cons (j := 90) rfl rfl (gi_cons (j := 91) rfl rfl (gi_cons (j := 92) rfl rfl (gi_cons (j := 93) rfl rfl (gi_cons (j := 94) rfl rfl (gi_cons (j := 95) rfl rfl (gi_cons (j := 96) rfl rfl (gi_cons (j := 97) rfl rfl (gi_cons (j := 98) rfl rfl (gi_cons (j := 99) rfl rfl (gi_cons (j := 100) rfl rfl (gi_cons (j := 101) rfl rfl (gi_cons (j := 102) rfl rfl (gi_cons (j := 103) rfl rfl (gi_cons (j := 104) rfl rfl (gi_cons (j := 105) rfl rfl (gi_cons (j := 106) rfl rfl (gi_cons (j := 107) rfl rfl (gi_cons (j := 108) rfl rfl (gi_cons (j := 109) rfl rfl (gi_cons (j := 110) rfl rfl (gi_cons (j := 111) rfl rfl (gi_nil)))))))))))))))))))))))))))))))))))))))))))))))))))))))))))))))))))))))))))))))))))))))))))))))))))))))))))))))) (goodIn_sub iw_c_X4_readUnit_4_X9 gw_X9)) (goodIn_sub iw_c_X4_readUnit_4_X4 gw_X4)))
set_option maxHeartbeats 4000000 in
set_option maxRecDepth 100000 in
theorem c_X4_readUnit_4 (l : Launch) (dC : Nat → ClassId) (dI : Nat → Nat → Nat) (sz : Nat) (h0 : Nat) (h1 : Nat) (h1_0 : Nat) (h1_f1 : Int32) (h1_f2 : Int32) (h1_f3 : Int32) (h1_0k : ClassId) (h1_0c : Nat → Int32) (h0_0 : Nat) (h0_f1 : Int32) (h0_2 : Nat) (h0_0k : ClassId) (h0_0c : Nat → Int32) (ts4 : Nat) (tv4 : Nat) (g_h1_f1 : RG h1_f1 0 240) (g_h1_f2 : RG h1_f2 0 240) (g_h1_f3 : RG h1_f3 (-1) 240) (a_h1_0c : AI h1_0c 0 255) (g_h0_f1 : RG h0_f1 0 240) : Met l yX4_readUnit wf_c_X4_readUnit_4 ({ frames := 12, cells := 0, slots := 0, locals := 291 }) (va_Pc [.ref h0, .ref h1, .int 3, .int 0] (fun U => U.heap.size = sz ∧ va_P (dC, dI) vwCl (wd_c_X4_readUnit_4 h1 h1_0 h1_f1 h1_f2 h1_f3 h1_0 h1_0k h1_0c h0 h0_0 h0_f1 h0_2 h0_0 h0_0k h0_0c) U.heap ∧ va_K (dC, dI) vwCl [(h1_0k, .int), (h0_0k, .int)] U ∧ va_D (fun _ => True) (wd_c_X4_readUnit_4 h1 h1_0 h1_f1 h1_f2 h1_f3 h1_0 h1_0k h1_0c h0 h0_0 h0_f1 h0_2 h0_0 h0_0k h0_0c) ∧ vk_R RX4 91 "vlrdph" ts4 U ∧ va_Z "java/lang/String" "COMPACT_STRINGS" "Z" (.int 1) (va_A (wd_c_X4_readUnit_4 h1 h1_0 h1_f1 h1_f2 h1_f3 h1_0 h1_0k h1_0c h0 h0_0 h0_f1 h0_2 h0_0 h0_0k h0_0c) sz) U U.heap ∧ va_OF "java/lang/String" "coder" "B" (.int 0) ts4 (va_A (wd_c_X4_readUnit_4 h1 h1_0 h1_f1 h1_f2 h1_f3 h1_0 h1_0k h1_0c h0 h0_0 h0_f1 h0_2 h0_0 h0_0k h0_0c) sz) U U.heap ∧ va_O "java/lang/String" ts4 (va_A (wd_c_X4_readUnit_4 h1 h1_0 h1_f1 h1_f2 h1_f3 h1_0 h1_0k h1_0c h0 h0_0 h0_f1 h0_2 h0_0 h0_0k h0_0c) sz) U U.heap ∧ va_OF "java/lang/String" "value" "[B" (.ref tv4) ts4 (va_A (wd_c_X4_readUnit_4 h1 h1_0 h1_f1 h1_f2 h1_f3 h1_0 h1_0k h1_0c h0 h0_0 h0_f1 h0_2 h0_0 h0_0k h0_0c) sz) U U.heap ∧ va_T .byte tv4 6 (fun j => .int ([118, 108, 114, 100, 112, 104].getD j 0)) (va_A (wd_c_X4_readUnit_4 h1 h1_0 h1_f1 h1_f2 h1_f3 h1_0 h1_0k h1_0c h0 h0_0 h0_f1 h0_2 h0_0 h0_0k h0_0c) sz) U U.heap)) (va_Qv (fun (u : (Int32) × (Int32) × (Int32) × (Nat → Int32)) => (RG u.1 0 240 ∧ RG u.2.1 (-1) 240 ∧ RG u.2.2.1 0 240)) (fun (u : (Int32) × (Int32) × (Int32) × (Nat → Int32)) t => va_P (dC, dI) vwCl (wd_c_X4_readUnit_4 h1 h1_0 h1_f1 (u.1) (u.2.1) h1_0 h1_0k h1_0c h0 h0_0 (u.2.2.1) h0_2 h0_0 h0_0k (u.2.2.2)) t.heap ∧ va_K (dC, dI) vwCl [] t ∧ va_D (va_A (wd_c_X4_readUnit_4 h1 h1_0 h1_f1 h1_f2 h1_f3 h1_0 h1_0k h1_0c h0 h0_0 h0_f1 h0_2 h0_0 h0_0k h0_0c) sz) (wd_c_X4_readUnit_4 h1 h1_0 h1_f1 (u.1) (u.2.1) h1_0 h1_0k h1_0c h0 h0_0 (u.2.2.1) h0_2 h0_0 h0_0k (u.2.2.2))) (va_A (wd_c_X4_readUnit_4 h1 h1_0 h1_f1 h1_f2 h1_f3 h1_0 h1_0k h1_0c h0 h0_0 h0_f1 h0_2 h0_0 h0_0k h0_0c) sz)) 0 0 (va_A (wd_c_X4_readUnit_4 h1 h1_0 h1_f1 h1_f2 h1_f3 h1_0 h1_0k h1_0c h0 h0_0 h0_f1 h0_2 h0_0 h0_0k h0_0c) sz) := by
  refine Met.ofW (cc := cX4_readUnit) (maxL := 5) (ret := none) (by decide) rfl ?_
  intro p e s m args below meth c s₁ B hml hv
  obtain ⟨rfl, hsz, hP, hK, hD0, hE_32, hE_10, hE_34, hE_33, hE_35, hE_36⟩ := hv
  have hx := B.exec
  have hb := B.bytes
  have hr := B.returns
  have hts := atoms_spec (ws := wf_c_X4_readUnit_4) B.pre
  have hown : s.vm.findClass RX4 = some m.cls := findClass_of_methodNamed B.named
  have hlocks := B.notSynchronized
  subst hsz
  have hD := hD0.self (sz := s.heap.size)
  generalize hAe : va_A (wd_c_X4_readUnit_4 h1 h1_0 h1_f1 h1_f2 h1_f3 h1_0 h1_0k h1_0c h0 h0_0 h0_f1 h0_2 h0_0 h0_0k h0_0c) s.heap.size = A at hD hE_10 hE_34 hE_33 hE_35 hE_36 ⊢
  have hA : ∀ q : Nat, s.heap.size ≤ q → A q := fun q h => by rw [← hAe]; exact Or.inr h
  have hP : va_P (dC, dI) vwCl (wd_c_X4_readUnit_4 h1 h1_0 h1_f1 h1_f2 h1_f3 h1_0 h1_0k h1_0c h0 h0_0 h0_f1 h0_2 h0_0 h0_0k h0_0c) s.heap := hP
  have hl := lv_entry ([.ref h0, .ref h1, .int 3, .int 0]) (n := 5) (Nat.le_of_ble_eq_true rfl)
  rw [lg_entry_eq]
  generalize (lg_sl ([.ref h0, .ref h1, .int 3, .int 0]) ++ List.replicate (5 - (lg_sl ([.ref h0, .ref h1, .int 3, .int 0])).length) Slot.unset).toArray = ls at hl ⊢
  have hl : lv_has ls 5 [(0, .ref h0), (1, .ref h1), (2, .int 3), (3, .int 0)] := hl
  obtain ⟨H, hHe⟩ : ∃ H : Heap, s.heap = H := ⟨_, rfl⟩
  have hS : va_S A s.heap H [] := by rw [hHe]; exact va_S.rf
  have hP : va_P (dC, dI) vwCl (wd_c_X4_readUnit_4 h1 h1_0 h1_f1 h1_f2 h1_f3 h1_0 h1_0k h1_0c h0 h0_0 h0_f1 h0_2 h0_0 h0_0k h0_0c) H := by rw [← hHe]; exact hP
  rw [hHe]
  refine wj (fun G hG hU => ?_)
  have J62 : ∀ (j62_h1_f2 : Int32) (j62_h1_f3 : Int32) (j62_h0_f1 : Int32) (j62_h0_0c : Nat → Int32) (g_h0_f1 : RG h0_f1 0 240) (g_h1_f1 : RG h1_f1 0 240) (g_h1_f2 : RG h1_f2 0 240) (g_h1_f3 : RG h1_f3 (-1) 240) (g_j62_h0_f1 : RG j62_h0_f1 0 240) (g_j62_h1_f2 : RG j62_h1_f2 0 240) (g_j62_h1_f3 : RG j62_h1_f3 (-1) 240) (H : Heap) (locs : List Loc) (ls : Array Slot) (hP : va_P (dC, dI) vwCl (wd_c_X4_readUnit_4 h1 h1_0 h1_f1 j62_h1_f2 j62_h1_f3 h1_0 h1_0k h1_0c h0 h0_0 j62_h0_f1 h0_2 h0_0 h0_0k j62_h0_0c) H) (hD : va_D A (wd_c_X4_readUnit_4 h1 h1_0 h1_f1 j62_h1_f2 j62_h1_f3 h1_0 h1_0k h1_0c h0 h0_0 j62_h0_f1 h0_2 h0_0 h0_0k j62_h0_0c)) (hS : va_S A s.heap H locs) (hl : lv_has ls 5 []), G H locs (F0 m 62 ls []) := by
    intro j62_h1_f2 j62_h1_f3 j62_h0_f1 j62_h0_0c g_h0_f1 g_h1_f1 g_h1_f2 g_h1_f3 g_j62_h0_f1 g_j62_h1_f2 g_j62_h1_f3 H locs ls hP hD hS hl
    refine hG _ _ _ ?_
    refine lv_goto (tgt := 126) hx hb dX4_readUnit_62 rfl ?_
    have hK9 := hK.sub (tys' := []) [] rfl
    exact W.vret hx hb hr (fun t ht hW => ⟨⟨(j62_h1_f2, j62_h1_f3, j62_h0_f1, j62_h0_0c), rfl, ⟨g_j62_h1_f2, g_j62_h1_f3, g_j62_h0_f1⟩, by rw [ht]; exact hP, va_K.moved hW.alike hK9, hD⟩, hS.F ht⟩) hS.2.2 dX4_readUnit_126
  have J24 : ∀ (j24_h1_f2 : Int32) (j24_h1_f3 : Int32) (j24_h0_f1 : Int32) (j24_h0_0c : Nat → Int32) (g_h0_f1 : RG h0_f1 0 240) (g_h1_f1 : RG h1_f1 0 240) (g_h1_f2 : RG h1_f2 0 240) (g_h1_f3 : RG h1_f3 (-1) 240) (g_j24_h0_f1 : RG j24_h0_f1 0 240) (g_j24_h1_f2 : RG j24_h1_f2 0 240) (g_j24_h1_f3 : RG j24_h1_f3 (-1) 240) (H : Heap) (locs : List Loc) (ls : Array Slot) (hP : va_P (dC, dI) vwCl (wd_c_X4_readUnit_4 h1 h1_0 h1_f1 j24_h1_f2 j24_h1_f3 h1_0 h1_0k h1_0c h0 h0_0 j24_h0_f1 h0_2 h0_0 h0_0k j24_h0_0c) H) (hD : va_D A (wd_c_X4_readUnit_4 h1 h1_0 h1_f1 j24_h1_f2 j24_h1_f3 h1_0 h1_0k h1_0c h0 h0_0 j24_h0_f1 h0_2 h0_0 h0_0k j24_h0_0c)) (hS : va_S A s.heap H locs) (hl : lv_has ls 5 [(0, .ref h0), (1, .ref h1), (2, .int 3)]), G H locs (F0 m 24 ls []) := by
    intro j24_h1_f2 j24_h1_f3 j24_h0_f1 j24_h0_0c g_h0_f1 g_h1_f1 g_h1_f2 g_h1_f3 g_j24_h0_f1 g_j24_h1_f2 g_j24_h1_f3 H locs ls hP hD hS hl
    refine hG _ _ _ ?_
    refine lv_aload_n hx hb dX4_readUnit_24 rfl (lv_at hl 1 rfl) ?_
    have hPc := hP.sub (ws' := (wd_c_X9_peek h1 h1_0 h1_f1 j24_h1_f2 j24_h1_f3 h1_0 h1_0k h1_0c)) [0, 1] rfl
    have hDc := hD.sub (ws' := (wd_c_X9_peek h1 h1_0 h1_f1 j24_h1_f2 j24_h1_f3 h1_0 h1_0k h1_0c)) [0, 1] (by decide) rfl
    have hKc := hK.sub (tys' := [(h1_0k, .int)]) [0] rfl
    have hFc := va_free (wc := (wd_c_X9_peek h1 h1_0 h1_f1 j24_h1_f2 j24_h1_f3 h1_0 h1_0k h1_0c)) hD hS hA [0, 1] rfl
    refine va_calli (va_runV (As := []) (rest := []) ⟨hx, hb, hml, hown, hts⟩ (c_X9_peek l dC dI H.size h1 h1_0 h1_f1 j24_h1_f2 j24_h1_f3 h1_0k h1_0c g_h1_f1 g_j24_h1_f2 g_j24_h1_f3 a_h1_0c) (cwV 0 hts gf_c_X4_readUnit_4_c_X9_peek rfl rfl rfl (by decide +kernel) ⟨Nat.le_of_ble_eq_true rfl, Nat.le_of_ble_eq_true rfl⟩) ⟨fun a U g mk q => by obtain ⟨q0, q1, qP, qK, qD⟩ := q; exact ⟨q0, q1, qP, va_K.moved (u := U) (U := U.calling g mk a) (Vm.Alike.refl U.vm) qK, qD⟩, va_recv hKc hPc (ci := 9) (q0 := 0) rfl rfl, fun U hU hW => ⟨rfl, by rw [hU], by rw [hU]; exact hPc, va_K.moved hW.alike hKc, hDc.weaken (fun _ _ _ _ => trivial)⟩⟩ rfl rfl hl.1 rfl (lv_room (Nat.le_of_ble_eq_true rfl)) dX4_readUnit_25 ⟨Nat.le_of_ble_eq_true rfl, Nat.le_of_ble_eq_true rfl⟩) hS (fun q _ h => hFc q h) hFc (fun r_1 x_2 t H1 locs ht hvm hw hB hz1 hk1 hS => ?_)
    obtain ⟨hP1, hK1, hD1⟩ := hB
    rw [ht] at hP1
    obtain ⟨hP, hD⟩ := va_join (wr := [(h0, .inr (4, [.ref h0_0, .int j24_h0_f1, .ref h0_2])), (h0_0, .inl (h0_0k, 240, .inl j24_h0_0c))]) (w1 := (wd_c_X9_peek h1 h1_0 h1_f1 x_2 j24_h1_f3 h1_0 h1_0k h1_0c)) hP hD [0, 1] [2, 3] rfl rfl (by decide) (by decide) hk1 hFc hP1 hD1
    have hP := hP.sub (ws' := (wd_c_X4_readUnit_4 h1 h1_0 h1_f1 x_2 j24_h1_f3 h1_0 h1_0k h1_0c h0 h0_0 j24_h0_f1 h0_2 h0_0 h0_0k j24_h0_0c)) [2, 3, 0, 1] rfl
    have hD := hD.sub (ws' := (wd_c_X4_readUnit_4 h1 h1_0 h1_f1 x_2 j24_h1_f3 h1_0 h1_0k h1_0c h0 h0_0 j24_h0_f1 h0_2 h0_0 h0_0k j24_h0_0c)) [2, 3, 0, 1] (by decide) rfl
    generalize H1 = H at hP hS ⊢
    rcases hw with ⟨h_3, h_4, h_5⟩ | ⟨h_6, h_7, h_8, h_9⟩
    · rw [h_3]
      refine lv_istore (lv' := [(4, .int (-1)), (0, .ref h0), (1, .ref h1), (2, .int 3)]) hx hb dX4_readUnit_28 hl (Nat.le_of_ble_eq_true rfl) rfl (fun ls hl => ?_)
      refine lv_iload hx hb dX4_readUnit_30 (lv_at hl 0 rfl) ?_
      have hPc := hP.sub (ws' := []) [] rfl
      have hDc := hD.sub (ws' := []) [] (by decide) rfl
      have hKc := hK.sub (tys' := []) [] rfl
      have hFc := va_free (wc := []) hD hS hA [] rfl
      refine va_calli (va_runS (As := [.int (-1)]) (rest := []) ⟨hx, hb, hml, hown, hts⟩ (c_X4_isComparison l dC dI H.size (-1) (RG_k (-1) (-1) rfl)) (va_cwS 1 hts gf_c_X4_readUnit_4_c_X4_isComparison rfl rfl rfl (by decide +kernel) ⟨Nat.le_of_ble_eq_true rfl, Nat.le_of_ble_eq_true rfl⟩) ⟨fun a U g mk q => by obtain ⟨q0, q1, qP, qK, qD⟩ := q; exact ⟨q0, q1, qP, va_K.moved (u := U) (U := U.calling g mk a) (Vm.Alike.refl U.vm) qK, qD⟩, fun U hU hW => ⟨rfl, by rw [hU], by rw [hU]; exact hPc, va_K.moved hW.alike hKc, hDc.weaken (fun _ _ _ _ => trivial)⟩⟩ rfl rfl hl.1 rfl (lv_room (Nat.le_of_ble_eq_true rfl)) dX4_readUnit_32 ⟨Nat.le_of_ble_eq_true rfl, Nat.le_of_ble_eq_true rfl⟩) hS (fun q _ h => hFc q h) hFc (fun r_10 u t H1 locs ht hvm hw hB hz1 hk1 hS => ?_)
      obtain ⟨hP1, hK1, hD1⟩ := hB
      rw [ht] at hP1
      have hP := bv_still hP hk1
      generalize H1 = H at hP hS ⊢
      have h_11 := hw
      rw [h_11]
      refine lv_if_eq (tgt := 58) hx hb dX4_readUnit_35 rfl (fun c_12 => ?_) (fun c_12 => absurd c_12 (by decide))
      refine lv_aload_n hx hb dX4_readUnit_58 rfl (lv_at hl 2 rfl) ?_
      have hPc := hP.sub (ws' := (wd_c_X9_refuseHere h1 h1_0 h1_f1 x_2 j24_h1_f3)) [0] rfl
      have hDc := hD.sub (ws' := (wd_c_X9_refuseHere h1 h1_0 h1_f1 x_2 j24_h1_f3)) [0] (by decide) rfl
      have hKc := hK.sub (tys' := []) [] rfl
      have hFc := va_free (wc := (wd_c_X9_refuseHere h1 h1_0 h1_f1 x_2 j24_h1_f3)) hD hS hA [0] rfl
      refine va_callv (va_runV (As := []) (rest := []) ⟨hx, hb, hml, hown, hts⟩ (c_X9_refuseHere l dC dI H.size h1 h1_0 h1_f1 x_2 j24_h1_f3 g_h1_f1 h_4 g_j24_h1_f3) (cwV 0 hts gf_c_X4_readUnit_4_c_X9_refuseHere rfl rfl rfl (by decide +kernel) ⟨Nat.le_of_ble_eq_true rfl, Nat.le_of_ble_eq_true rfl⟩) ⟨fun a U g mk q => by obtain ⟨q0, q1, qP, qK, qD⟩ := q; exact ⟨q0, q1, qP, va_K.moved (u := U) (U := U.calling g mk a) (Vm.Alike.refl U.vm) qK, qD⟩, va_recv hKc hPc (ci := 9) (q0 := 0) rfl rfl, fun U hU hW => ⟨rfl, by rw [hU], by rw [hU]; exact hPc, va_K.moved hW.alike hKc, hDc.weaken (fun _ _ _ _ => trivial)⟩⟩ rfl rfl hl.1 rfl (lv_room (Nat.le_of_ble_eq_true rfl)) dX4_readUnit_59 ⟨Nat.le_of_ble_eq_true rfl, Nat.le_of_ble_eq_true rfl⟩) hS (fun q _ h => hFc q h) hFc (fun x_14 t H1 locs ht hvm hw hB hz1 hk1 hS => ?_)
      obtain ⟨hP1, hK1, hD1⟩ := hB
      rw [ht] at hP1
      obtain ⟨hP, hD⟩ := va_join (wr := [(h1_0, .inl (h1_0k, 240, .inl h1_0c)), (h0, .inr (4, [.ref h0_0, .int j24_h0_f1, .ref h0_2])), (h0_0, .inl (h0_0k, 240, .inl j24_h0_0c))]) (w1 := (wd_c_X9_refuseHere h1 h1_0 h1_f1 x_2 x_14)) hP hD [0] [1, 2, 3] rfl rfl (by decide) (by decide) hk1 hFc hP1 hD1
      have hP := hP.sub (ws' := (wd_c_X4_readUnit_4 h1 h1_0 h1_f1 x_2 x_14 h1_0 h1_0k h1_0c h0 h0_0 j24_h0_f1 h0_2 h0_0 h0_0k j24_h0_0c)) [3, 0, 1, 2] rfl
      have hD := hD.sub (ws' := (wd_c_X4_readUnit_4 h1 h1_0 h1_f1 x_2 x_14 h1_0 h1_0k h1_0c h0 h0_0 j24_h0_f1 h0_2 h0_0 h0_0k j24_h0_0c)) [3, 0, 1, 2] (by decide) rfl
      generalize H1 = H at hP hS ⊢
      have h_15 := hw
      exact hU _ _ _ (J62 x_2 x_14 j24_h0_f1 j24_h0_0c g_h0_f1 g_h1_f1 g_h1_f2 g_h1_f3 g_j24_h0_f1 h_4 (RG_w h_15 (by decide)) _ _ _ hP hD hS (lv_sub hl [] rfl))
    · refine lv_istore (lv' := [(4, .int r_1), (0, .ref h0), (1, .ref h1), (2, .int 3)]) hx hb dX4_readUnit_28 hl (Nat.le_of_ble_eq_true rfl) rfl (fun ls hl => ?_)
      refine lv_iload hx hb dX4_readUnit_30 (lv_at hl 0 rfl) ?_
      have hPc := hP.sub (ws' := []) [] rfl
      have hDc := hD.sub (ws' := []) [] (by decide) rfl
      have hKc := hK.sub (tys' := []) [] rfl
      have hFc := va_free (wc := []) hD hS hA [] rfl
      refine va_calli (va_runS (As := [.int r_1]) (rest := []) ⟨hx, hb, hml, hown, hts⟩ (c_X4_isComparison_1 l dC dI H.size r_1 h_6) (va_cwS 1 hts gf_c_X4_readUnit_4_c_X4_isComparison_1 rfl rfl rfl (by decide +kernel) ⟨Nat.le_of_ble_eq_true rfl, Nat.le_of_ble_eq_true rfl⟩) ⟨fun a U g mk q => by obtain ⟨q0, q1, qP, qK, qD⟩ := q; exact ⟨q0, q1, qP, va_K.moved (u := U) (U := U.calling g mk a) (Vm.Alike.refl U.vm) qK, qD⟩, fun U hU hW => ⟨rfl, by rw [hU], by rw [hU]; exact hPc, va_K.moved hW.alike hKc, hDc.weaken (fun _ _ _ _ => trivial)⟩⟩ rfl rfl hl.1 rfl (lv_room (Nat.le_of_ble_eq_true rfl)) dX4_readUnit_32 ⟨Nat.le_of_ble_eq_true rfl, Nat.le_of_ble_eq_true rfl⟩) hS (fun q _ h => hFc q h) hFc (fun r_16 u t H1 locs ht hvm hw hB hz1 hk1 hS => ?_)
      obtain ⟨hP1, hK1, hD1⟩ := hB
      rw [ht] at hP1
      have hP := bv_still hP hk1
      generalize H1 = H at hP hS ⊢
      rcases hw with h_17 | ⟨h_18, h_19⟩
      · rw [h_17]
        refine lv_if_eq (tgt := 58) hx hb dX4_readUnit_35 rfl (fun c_20 => ?_) (fun c_20 => absurd c_20 (by decide))
        refine lv_aload_n hx hb dX4_readUnit_58 rfl (lv_at hl 2 rfl) ?_
        have hPc := hP.sub (ws' := (wd_c_X9_refuseHere h1 h1_0 h1_f1 x_2 j24_h1_f3)) [0] rfl
        have hDc := hD.sub (ws' := (wd_c_X9_refuseHere h1 h1_0 h1_f1 x_2 j24_h1_f3)) [0] (by decide) rfl
        have hKc := hK.sub (tys' := []) [] rfl
        have hFc := va_free (wc := (wd_c_X9_refuseHere h1 h1_0 h1_f1 x_2 j24_h1_f3)) hD hS hA [0] rfl
        refine va_callv (va_runV (As := []) (rest := []) ⟨hx, hb, hml, hown, hts⟩ (c_X9_refuseHere l dC dI H.size h1 h1_0 h1_f1 x_2 j24_h1_f3 (RG_w h_8 (by decide)) (RG_w h_7 (by decide)) g_j24_h1_f3) (cwV 0 hts gf_c_X4_readUnit_4_c_X9_refuseHere rfl rfl rfl (by decide +kernel) ⟨Nat.le_of_ble_eq_true rfl, Nat.le_of_ble_eq_true rfl⟩) ⟨fun a U g mk q => by obtain ⟨q0, q1, qP, qK, qD⟩ := q; exact ⟨q0, q1, qP, va_K.moved (u := U) (U := U.calling g mk a) (Vm.Alike.refl U.vm) qK, qD⟩, va_recv hKc hPc (ci := 9) (q0 := 0) rfl rfl, fun U hU hW => ⟨rfl, by rw [hU], by rw [hU]; exact hPc, va_K.moved hW.alike hKc, hDc.weaken (fun _ _ _ _ => trivial)⟩⟩ rfl rfl hl.1 rfl (lv_room (Nat.le_of_ble_eq_true rfl)) dX4_readUnit_59 ⟨Nat.le_of_ble_eq_true rfl, Nat.le_of_ble_eq_true rfl⟩) hS (fun q _ h => hFc q h) hFc (fun x_22 t H1 locs ht hvm hw hB hz1 hk1 hS => ?_)
        obtain ⟨hP1, hK1, hD1⟩ := hB
        rw [ht] at hP1
        obtain ⟨hP, hD⟩ := va_join (wr := [(h1_0, .inl (h1_0k, 240, .inl h1_0c)), (h0, .inr (4, [.ref h0_0, .int j24_h0_f1, .ref h0_2])), (h0_0, .inl (h0_0k, 240, .inl j24_h0_0c))]) (w1 := (wd_c_X9_refuseHere h1 h1_0 h1_f1 x_2 x_22)) hP hD [0] [1, 2, 3] rfl rfl (by decide) (by decide) hk1 hFc hP1 hD1
        have hP := hP.sub (ws' := (wd_c_X4_readUnit_4 h1 h1_0 h1_f1 x_2 x_22 h1_0 h1_0k h1_0c h0 h0_0 j24_h0_f1 h0_2 h0_0 h0_0k j24_h0_0c)) [3, 0, 1, 2] rfl
        have hD := hD.sub (ws' := (wd_c_X4_readUnit_4 h1 h1_0 h1_f1 x_2 x_22 h1_0 h1_0k h1_0c h0 h0_0 j24_h0_f1 h0_2 h0_0 h0_0k j24_h0_0c)) [3, 0, 1, 2] (by decide) rfl
        generalize H1 = H at hP hS ⊢
        have h_23 := hw
        exact hU _ _ _ (J62 x_2 x_22 j24_h0_f1 j24_h0_0c g_h0_f1 (RG_w h_8 (by decide)) g_h1_f2 g_h1_f3 g_j24_h0_f1 (RG_w h_7 (by decide)) (RG_w h_23 (by decide)) _ _ _ hP hD hS (lv_sub hl [] rfl))
      · rw [h_18]
        refine lv_if_eq (tgt := 58) hx hb dX4_readUnit_35 rfl (fun c_24 => absurd c_24 (by decide)) (fun c_24 => ?_)
        refine lv_aload_n hx hb dX4_readUnit_38 rfl (lv_at hl 2 rfl) ?_
        have hPc := hP.sub (ws' := (wd_c_X9_skip h1 h1_0 h1_f1 x_2 j24_h1_f3)) [0] rfl
        have hDc := hD.sub (ws' := (wd_c_X9_skip h1 h1_0 h1_f1 x_2 j24_h1_f3)) [0] (by decide) rfl
        have hKc := hK.sub (tys' := []) [] rfl
        have hFc := va_free (wc := (wd_c_X9_skip h1 h1_0 h1_f1 x_2 j24_h1_f3)) hD hS hA [0] rfl
        refine va_callv (va_runV (As := []) (rest := []) ⟨hx, hb, hml, hown, hts⟩ (c_X9_skip l dC dI H.size h1 h1_0 h1_f1 x_2 j24_h1_f3 (RG_w h_8 (by decide)) h_7 g_j24_h1_f3) (cwV 0 hts gf_c_X4_readUnit_4_c_X9_skip rfl rfl rfl (by decide +kernel) ⟨Nat.le_of_ble_eq_true rfl, Nat.le_of_ble_eq_true rfl⟩) ⟨fun a U g mk q => by obtain ⟨q0, q1, qP, qK, qD⟩ := q; exact ⟨q0, q1, qP, va_K.moved (u := U) (U := U.calling g mk a) (Vm.Alike.refl U.vm) qK, qD⟩, va_recv hKc hPc (ci := 9) (q0 := 0) rfl rfl, fun U hU hW => ⟨rfl, by rw [hU], by rw [hU]; exact hPc, va_K.moved hW.alike hKc, hDc.weaken (fun _ _ _ _ => trivial)⟩⟩ rfl rfl hl.1 rfl (lv_room (Nat.le_of_ble_eq_true rfl)) dX4_readUnit_39 ⟨Nat.le_of_ble_eq_true rfl, Nat.le_of_ble_eq_true rfl⟩) hS (fun q _ h => hFc q h) hFc (fun x_26 t H1 locs ht hvm hw hB hz1 hk1 hS => ?_)
        obtain ⟨hP1, hK1, hD1⟩ := hB
        rw [ht] at hP1
        obtain ⟨hP, hD⟩ := va_join (wr := [(h1_0, .inl (h1_0k, 240, .inl h1_0c)), (h0, .inr (4, [.ref h0_0, .int j24_h0_f1, .ref h0_2])), (h0_0, .inl (h0_0k, 240, .inl j24_h0_0c))]) (w1 := (wd_c_X9_skip h1 h1_0 h1_f1 x_26 j24_h1_f3)) hP hD [0] [1, 2, 3] rfl rfl (by decide) (by decide) hk1 hFc hP1 hD1
        have hP := hP.sub (ws' := (wd_c_X4_readUnit_4 h1 h1_0 h1_f1 x_26 j24_h1_f3 h1_0 h1_0k h1_0c h0 h0_0 j24_h0_f1 h0_2 h0_0 h0_0k j24_h0_0c)) [3, 0, 1, 2] rfl
        have hD := hD.sub (ws' := (wd_c_X4_readUnit_4 h1 h1_0 h1_f1 x_26 j24_h1_f3 h1_0 h1_0k h1_0c h0 h0_0 j24_h0_f1 h0_2 h0_0 h0_0k j24_h0_0c)) [3, 0, 1, 2] (by decide) rfl
        generalize H1 = H at hP hS ⊢
        rcases hw with ⟨h_27, h_28, h_29⟩
        refine lv_aload_n hx hb dX4_readUnit_42 rfl (lv_at hl 1 rfl) ?_
        refine lv_aload_n hx hb dX4_readUnit_43 rfl (lv_at hl 2 rfl) ?_
        refine lv_iload_n hx hb dX4_readUnit_44 rfl (lv_at hl 3 rfl) ?_
        have hPc := hP.sub (ws' := (wd_c_X4_readSum_3 h1 h1_0 h1_f1 x_26 j24_h1_f3 h1_0 h1_0k h1_0c h0 h0_0 j24_h0_f1 h0_2 h0_0 h0_0k j24_h0_0c)) [0, 1, 2, 3] rfl
        have hDc := hD.sub (ws' := (wd_c_X4_readSum_3 h1 h1_0 h1_f1 x_26 j24_h1_f3 h1_0 h1_0k h1_0c h0 h0_0 j24_h0_f1 h0_2 h0_0 h0_0k j24_h0_0c)) [0, 1, 2, 3] (by decide) rfl
        have hKc := hK.sub (tys' := [(h1_0k, .int), (h0_0k, .int)]) [0, 1] rfl
        have hFc := va_free (wc := (wd_c_X4_readSum_3 h1 h1_0 h1_f1 x_26 j24_h1_f3 h1_0 h1_0k h1_0c h0 h0_0 j24_h0_f1 h0_2 h0_0 h0_0k j24_h0_0c)) hD hS hA [0, 1, 2, 3] rfl
        refine va_callv (va_runV (As := [.ref h1, .int 3]) (rest := []) ⟨hx, hb, hml, hown, hts⟩ (c_X4_readSum_3 l dC dI H.size h0 h1 h1_0 h1_f1 x_26 j24_h1_f3 h1_0k h1_0c h0_0 j24_h0_f1 h0_2 h0_0k j24_h0_0c ts4 tv4 (RG_w h_8 (by decide)) (RG_w h_27 (by decide)) g_j24_h1_f3 a_h1_0c g_j24_h0_f1) (cwV 2 hts gf_c_X4_readUnit_4_c_X4_readSum_3 rfl rfl rfl (by decide +kernel) ⟨Nat.le_of_ble_eq_true rfl, Nat.le_of_ble_eq_true rfl⟩) ⟨fun a U g mk q => by obtain ⟨q0, q1, qP, qK, qD, qE0, qE1, qE2, qE3, qE4, qE5⟩ := q; exact ⟨q0, q1, qP, va_K.moved (u := U) (U := U.calling g mk a) (Vm.Alike.refl U.vm) qK, qD, vk_R.same rfl qE0, va_Z.moved (u := U) (U := U.calling g mk a) (Vm.Alike.refl U.vm) qE1, va_OF.moved (u := U) (U := U.calling g mk a) (Vm.Alike.refl U.vm) qE2, va_O.moved (u := U) (U := U.calling g mk a) (Vm.Alike.refl U.vm) qE3, va_OF.moved (u := U) (U := U.calling g mk a) (Vm.Alike.refl U.vm) qE4, va_T.moved (u := U) (U := U.calling g mk a) (Vm.Alike.refl U.vm) qE5⟩, va_recv hKc hPc (ci := 4) (q0 := 2) rfl rfl, fun U hU hW => ⟨rfl, by rw [hU], by rw [hU]; exact hPc, va_K.moved hW.alike hKc, hDc.weaken (fun _ _ _ _ => trivial), vk_R.warm hW hE_32, va_Z.moved hW.alike (by rw [hU]; exact (hE_10.kept hS.2.1).narrow hFc), va_OF.moved hW.alike (by rw [hU]; exact (hE_34.kept hS.2.1).narrow hFc), va_O.moved hW.alike (by rw [hU]; exact (hE_33.kept hS.2.1).narrow hFc), va_OF.moved hW.alike (by rw [hU]; exact (hE_35.kept hS.2.1).narrow hFc), va_T.moved hW.alike (by rw [hU]; exact (hE_36.kept hS.2.1).narrow hFc)⟩⟩ rfl rfl hl.1 rfl (lv_room (Nat.le_of_ble_eq_true rfl)) dX4_readUnit_45 ⟨Nat.le_of_ble_eq_true rfl, Nat.le_of_ble_eq_true rfl⟩) hS (fun q _ h => hFc q h) hFc (fun u t H1 locs ht hvm hw hB hz1 hk1 hS => ?_)
        obtain ⟨x_31, x_32, x_33, w_34⟩ := u
        obtain ⟨hP1, hK1, hD1⟩ := hB
        rw [ht] at hP1
        obtain ⟨hP, hD⟩ := va_join (wr := []) (w1 := (wd_c_X4_readSum_3 h1 h1_0 h1_f1 x_31 x_32 h1_0 h1_0k h1_0c h0 h0_0 x_33 h0_2 h0_0 h0_0k w_34)) hP hD [0, 1, 2, 3] [] rfl rfl (by decide) (by decide) hk1 hFc hP1 hD1
        have hP := hP.sub (ws' := (wd_c_X4_readUnit_4 h1 h1_0 h1_f1 x_31 x_32 h1_0 h1_0k h1_0c h0 h0_0 x_33 h0_2 h0_0 h0_0k w_34)) [0, 1, 2, 3] rfl
        have hD := hD.sub (ws' := (wd_c_X4_readUnit_4 h1 h1_0 h1_f1 x_31 x_32 h1_0 h1_0k h1_0c h0 h0_0 x_33 h0_2 h0_0 h0_0k w_34)) [0, 1, 2, 3] (by decide) rfl
        generalize H1 = H at hP hS ⊢
        rcases hw with ⟨h_35, h_36, h_37⟩
        refine lv_aload_n hx hb dX4_readUnit_48 rfl (lv_at hl 1 rfl) ?_
        refine lv_iload hx hb dX4_readUnit_49 (lv_at hl 0 rfl) ?_
        refine lv_ineg hx hb dX4_readUnit_51 ?_
        refine lv_topi (fun x_38 ex_38 => ?_)
        have g_39 : RG x_38 (-62) (-60) := RG_neg ex_38 h_19 (by decide)
        have hPc := hP.sub (ws' := (wd_c_X4_emit h0 h0_0 x_33 h0_2 h0_0 h0_0k w_34)) [2, 3] rfl
        have hDc := hD.sub (ws' := (wd_c_X4_emit h0 h0_0 x_33 h0_2 h0_0 h0_0k w_34)) [2, 3] (by decide) rfl
        have hKc := hK.sub (tys' := [(h0_0k, .int)]) [1] rfl
        have hFc := va_free (wc := (wd_c_X4_emit h0 h0_0 x_33 h0_2 h0_0 h0_0k w_34)) hD hS hA [2, 3] rfl
        refine va_callv (va_runV (As := [.int x_38]) (rest := []) ⟨hx, hb, hml, hown, hts⟩ (c_X4_emit l dC dI H.size h0 x_38 h0_0 x_33 h0_2 h0_0k w_34 h_37) (cwV 1 hts gf_c_X4_readUnit_4_c_X4_emit rfl rfl rfl (by decide +kernel) ⟨Nat.le_of_ble_eq_true rfl, Nat.le_of_ble_eq_true rfl⟩) ⟨fun a U g mk q => by obtain ⟨q0, q1, qP, qK, qD⟩ := q; exact ⟨q0, q1, qP, va_K.moved (u := U) (U := U.calling g mk a) (Vm.Alike.refl U.vm) qK, qD⟩, va_recv hKc hPc (ci := 4) (q0 := 0) rfl rfl, fun U hU hW => ⟨rfl, by rw [hU], by rw [hU]; exact hPc, va_K.moved hW.alike hKc, hDc.weaken (fun _ _ _ _ => trivial)⟩⟩ rfl rfl hl.1 rfl (lv_room (Nat.le_of_ble_eq_true rfl)) dX4_readUnit_52 ⟨Nat.le_of_ble_eq_true rfl, Nat.le_of_ble_eq_true rfl⟩) hS (fun q _ h => hFc q h) hFc (fun u t H1 locs ht hvm hw hB hz1 hk1 hS => ?_)
        obtain ⟨x_41, w_42⟩ := u
        obtain ⟨hP1, hK1, hD1⟩ := hB
        rw [ht] at hP1
        obtain ⟨hP, hD⟩ := va_join (wr := [(h1, .inr (9, [.ref h1_0, .int h1_f1, .int x_31, .int x_32])), (h1_0, .inl (h1_0k, 240, .inl h1_0c))]) (w1 := (wd_c_X4_emit h0 h0_0 x_41 h0_2 h0_0 h0_0k w_42)) hP hD [2, 3] [0, 1] rfl rfl (by decide) (by decide) hk1 hFc hP1 hD1
        have hP := hP.sub (ws' := (wd_c_X4_readUnit_4 h1 h1_0 h1_f1 x_31 x_32 h1_0 h1_0k h1_0c h0 h0_0 x_41 h0_2 h0_0 h0_0k w_42)) [0, 1, 2, 3] rfl
        have hD := hD.sub (ws' := (wd_c_X4_readUnit_4 h1 h1_0 h1_f1 x_31 x_32 h1_0 h1_0k h1_0c h0 h0_0 x_41 h0_2 h0_0 h0_0k w_42)) [0, 1, 2, 3] (by decide) rfl
        generalize H1 = H at hP hS ⊢
        have h_43 := hw
        refine lv_goto (tgt := 62) hx hb dX4_readUnit_55 rfl ?_
        exact hU _ _ _ (J62 x_31 x_32 x_41 w_42 g_h0_f1 (RG_w h_8 (by decide)) g_h1_f2 g_h1_f3 (RG_w h_43 (by decide)) h_35 h_36 _ _ _ hP hD hS (lv_sub hl [] rfl))
  have J14 : ∀ (j14_h1_f2 : Int32) (g_h0_f1 : RG h0_f1 0 240) (g_h1_f1 : RG h1_f1 0 240) (g_h1_f2 : RG h1_f2 0 240) (g_h1_f3 : RG h1_f3 (-1) 240) (g_j14_h1_f2 : RG j14_h1_f2 0 240) (H : Heap) (locs : List Loc) (ls : Array Slot) (hP : va_P (dC, dI) vwCl (wd_c_X4_readUnit_4 h1 h1_0 h1_f1 j14_h1_f2 h1_f3 h1_0 h1_0k h1_0c h0 h0_0 h0_f1 h0_2 h0_0 h0_0k h0_0c) H) (hD : va_D A (wd_c_X4_readUnit_4 h1 h1_0 h1_f1 j14_h1_f2 h1_f3 h1_0 h1_0k h1_0c h0 h0_0 h0_f1 h0_2 h0_0 h0_0k h0_0c)) (hS : va_S A s.heap H locs) (hl : lv_has ls 5 [(0, .ref h0), (1, .ref h1), (2, .int 3), (3, .int 0)]), G H locs (F0 m 14 ls []) := by
    intro j14_h1_f2 g_h0_f1 g_h1_f1 g_h1_f2 g_h1_f3 g_j14_h1_f2 H locs ls hP hD hS hl
    refine hG _ _ _ ?_
    refine lv_iload_n hx hb dX4_readUnit_14 rfl (lv_at hl 3 rfl) ?_
    refine lv_if_ne (tgt := 24) hx hb dX4_readUnit_15 rfl (fun c_44 => absurd c_44 (by decide)) (fun c_44 => ?_)
    refine lv_aload_n hx hb dX4_readUnit_18 rfl (lv_at hl 0 rfl) ?_
    refine lv_aload_n hx hb dX4_readUnit_19 rfl (lv_at hl 1 rfl) ?_
    refine lv_iload_n hx hb dX4_readUnit_20 rfl (lv_at hl 2 rfl) ?_
    have hPc := hP.sub (ws' := (wd_c_X4_readSum_3 h1 h1_0 h1_f1 j14_h1_f2 h1_f3 h1_0 h1_0k h1_0c h0 h0_0 h0_f1 h0_2 h0_0 h0_0k h0_0c)) [0, 1, 2, 3] rfl
    have hDc := hD.sub (ws' := (wd_c_X4_readSum_3 h1 h1_0 h1_f1 j14_h1_f2 h1_f3 h1_0 h1_0k h1_0c h0 h0_0 h0_f1 h0_2 h0_0 h0_0k h0_0c)) [0, 1, 2, 3] (by decide) rfl
    have hKc := hK.sub (tys' := [(h1_0k, .int), (h0_0k, .int)]) [0, 1] rfl
    have hFc := va_free (wc := (wd_c_X4_readSum_3 h1 h1_0 h1_f1 j14_h1_f2 h1_f3 h1_0 h1_0k h1_0c h0 h0_0 h0_f1 h0_2 h0_0 h0_0k h0_0c)) hD hS hA [0, 1, 2, 3] rfl
    refine va_callv (va_runV (As := [.ref h1, .int 3]) (rest := []) ⟨hx, hb, hml, hown, hts⟩ (c_X4_readSum_3 l dC dI H.size h0 h1 h1_0 h1_f1 j14_h1_f2 h1_f3 h1_0k h1_0c h0_0 h0_f1 h0_2 h0_0k h0_0c ts4 tv4 g_h1_f1 g_j14_h1_f2 g_h1_f3 a_h1_0c g_h0_f1) (cwV 2 hts gf_c_X4_readUnit_4_c_X4_readSum_3 rfl rfl rfl (by decide +kernel) ⟨Nat.le_of_ble_eq_true rfl, Nat.le_of_ble_eq_true rfl⟩) ⟨fun a U g mk q => by obtain ⟨q0, q1, qP, qK, qD, qE0, qE1, qE2, qE3, qE4, qE5⟩ := q; exact ⟨q0, q1, qP, va_K.moved (u := U) (U := U.calling g mk a) (Vm.Alike.refl U.vm) qK, qD, vk_R.same rfl qE0, va_Z.moved (u := U) (U := U.calling g mk a) (Vm.Alike.refl U.vm) qE1, va_OF.moved (u := U) (U := U.calling g mk a) (Vm.Alike.refl U.vm) qE2, va_O.moved (u := U) (U := U.calling g mk a) (Vm.Alike.refl U.vm) qE3, va_OF.moved (u := U) (U := U.calling g mk a) (Vm.Alike.refl U.vm) qE4, va_T.moved (u := U) (U := U.calling g mk a) (Vm.Alike.refl U.vm) qE5⟩, va_recv hKc hPc (ci := 4) (q0 := 2) rfl rfl, fun U hU hW => ⟨rfl, by rw [hU], by rw [hU]; exact hPc, va_K.moved hW.alike hKc, hDc.weaken (fun _ _ _ _ => trivial), vk_R.warm hW hE_32, va_Z.moved hW.alike (by rw [hU]; exact (hE_10.kept hS.2.1).narrow hFc), va_OF.moved hW.alike (by rw [hU]; exact (hE_34.kept hS.2.1).narrow hFc), va_O.moved hW.alike (by rw [hU]; exact (hE_33.kept hS.2.1).narrow hFc), va_OF.moved hW.alike (by rw [hU]; exact (hE_35.kept hS.2.1).narrow hFc), va_T.moved hW.alike (by rw [hU]; exact (hE_36.kept hS.2.1).narrow hFc)⟩⟩ rfl rfl hl.1 rfl (lv_room (Nat.le_of_ble_eq_true rfl)) dX4_readUnit_21 ⟨Nat.le_of_ble_eq_true rfl, Nat.le_of_ble_eq_true rfl⟩) hS (fun q _ h => hFc q h) hFc (fun u t H1 locs ht hvm hw hB hz1 hk1 hS => ?_)
    obtain ⟨x_46, x_47, x_48, w_49⟩ := u
    obtain ⟨hP1, hK1, hD1⟩ := hB
    rw [ht] at hP1
    obtain ⟨hP, hD⟩ := va_join (wr := []) (w1 := (wd_c_X4_readSum_3 h1 h1_0 h1_f1 x_46 x_47 h1_0 h1_0k h1_0c h0 h0_0 x_48 h0_2 h0_0 h0_0k w_49)) hP hD [0, 1, 2, 3] [] rfl rfl (by decide) (by decide) hk1 hFc hP1 hD1
    have hP := hP.sub (ws' := (wd_c_X4_readUnit_4 h1 h1_0 h1_f1 x_46 x_47 h1_0 h1_0k h1_0c h0 h0_0 x_48 h0_2 h0_0 h0_0k w_49)) [0, 1, 2, 3] rfl
    have hD := hD.sub (ws' := (wd_c_X4_readUnit_4 h1 h1_0 h1_f1 x_46 x_47 h1_0 h1_0k h1_0c h0 h0_0 x_48 h0_2 h0_0 h0_0k w_49)) [0, 1, 2, 3] (by decide) rfl
    generalize H1 = H at hP hS ⊢
    rcases hw with ⟨h_50, h_51, h_52⟩
    exact hU _ _ _ (J24 x_46 x_47 x_48 w_49 g_h0_f1 g_h1_f1 g_h1_f2 g_h1_f3 h_52 h_50 h_51 _ _ _ hP hD hS (lv_sub hl [0, 1, 2] rfl))
  refine hG _ _ _ ?_
  refine lv_iload_n hx hb dX4_readUnit_0 rfl (lv_at hl 3 rfl) ?_
  refine lv_if_ne (tgt := 14) hx hb dX4_readUnit_1 rfl (fun c_53 => absurd c_53 (by decide)) (fun c_53 => ?_)
  refine lv_aload_n hx hb dX4_readUnit_4 rfl (lv_at hl 1 rfl) ?_
  have hPc := hP.sub (ws' := (wd_c_X9_peek h1 h1_0 h1_f1 h1_f2 h1_f3 h1_0 h1_0k h1_0c)) [0, 1] rfl
  have hDc := hD.sub (ws' := (wd_c_X9_peek h1 h1_0 h1_f1 h1_f2 h1_f3 h1_0 h1_0k h1_0c)) [0, 1] (by decide) rfl
  have hKc := hK.sub (tys' := [(h1_0k, .int)]) [0] rfl
  have hFc := va_free (wc := (wd_c_X9_peek h1 h1_0 h1_f1 h1_f2 h1_f3 h1_0 h1_0k h1_0c)) hD hS hA [0, 1] rfl
  refine va_calli (va_runV (As := []) (rest := []) ⟨hx, hb, hml, hown, hts⟩ (c_X9_peek l dC dI H.size h1 h1_0 h1_f1 h1_f2 h1_f3 h1_0k h1_0c g_h1_f1 g_h1_f2 g_h1_f3 a_h1_0c) (cwV 0 hts gf_c_X4_readUnit_4_c_X9_peek rfl rfl rfl (by decide +kernel) ⟨Nat.le_of_ble_eq_true rfl, Nat.le_of_ble_eq_true rfl⟩) ⟨fun a U g mk q => by obtain ⟨q0, q1, qP, qK, qD⟩ := q; exact ⟨q0, q1, qP, va_K.moved (u := U) (U := U.calling g mk a) (Vm.Alike.refl U.vm) qK, qD⟩, va_recv hKc hPc (ci := 9) (q0 := 0) rfl rfl, fun U hU hW => ⟨rfl, by rw [hU], by rw [hU]; exact hPc, va_K.moved hW.alike hKc, hDc.weaken (fun _ _ _ _ => trivial)⟩⟩ rfl rfl hl.1 rfl (lv_room (Nat.le_of_ble_eq_true rfl)) dX4_readUnit_5 ⟨Nat.le_of_ble_eq_true rfl, Nat.le_of_ble_eq_true rfl⟩) hS (fun q _ h => hFc q h) hFc (fun r_54 x_55 t H1 locs ht hvm hw hB hz1 hk1 hS => ?_)
  obtain ⟨hP1, hK1, hD1⟩ := hB
  rw [ht] at hP1
  obtain ⟨hP, hD⟩ := va_join (wr := [(h0, .inr (4, [.ref h0_0, .int h0_f1, .ref h0_2])), (h0_0, .inl (h0_0k, 240, .inl h0_0c))]) (w1 := (wd_c_X9_peek h1 h1_0 h1_f1 x_55 h1_f3 h1_0 h1_0k h1_0c)) hP hD [0, 1] [2, 3] rfl rfl (by decide) (by decide) hk1 hFc hP1 hD1
  have hP := hP.sub (ws' := (wd_c_X4_readUnit_4 h1 h1_0 h1_f1 x_55 h1_f3 h1_0 h1_0k h1_0c h0 h0_0 h0_f1 h0_2 h0_0 h0_0k h0_0c)) [2, 3, 0, 1] rfl
  have hD := hD.sub (ws' := (wd_c_X4_readUnit_4 h1 h1_0 h1_f1 x_55 h1_f3 h1_0 h1_0k h1_0c h0 h0_0 h0_f1 h0_2 h0_0 h0_0k h0_0c)) [2, 3, 0, 1] (by decide) rfl
  generalize H1 = H at hP hS ⊢
  rcases hw with ⟨h_56, h_57, h_58⟩ | ⟨h_59, h_60, h_61, h_62⟩
  · rw [h_56]
    have hPc := hP.sub (ws' := []) [] rfl
    have hDc := hD.sub (ws' := []) [] (by decide) rfl
    have hKc := hK.sub (tys' := []) [] rfl
    have hFc := va_free (wc := []) hD hS hA [] rfl
    refine va_calli (va_runS (As := [.int (-1)]) (rest := []) ⟨hx, hb, hml, hown, hts⟩ (c_X4_startsUnit l dC dI H.size (-1) (RG_k (-1) (-1) rfl)) (va_cwS 1 hts gf_c_X4_readUnit_4_c_X4_startsUnit rfl rfl rfl (by decide +kernel) ⟨Nat.le_of_ble_eq_true rfl, Nat.le_of_ble_eq_true rfl⟩) ⟨fun a U g mk q => by obtain ⟨q0, q1, qP, qK, qD⟩ := q; exact ⟨q0, q1, qP, va_K.moved (u := U) (U := U.calling g mk a) (Vm.Alike.refl U.vm) qK, qD⟩, fun U hU hW => ⟨rfl, by rw [hU], by rw [hU]; exact hPc, va_K.moved hW.alike hKc, hDc.weaken (fun _ _ _ _ => trivial)⟩⟩ rfl rfl hl.1 rfl (lv_room (Nat.le_of_ble_eq_true rfl)) dX4_readUnit_8 ⟨Nat.le_of_ble_eq_true rfl, Nat.le_of_ble_eq_true rfl⟩) hS (fun q _ h => hFc q h) hFc (fun r_63 u t H1 locs ht hvm hw hB hz1 hk1 hS => ?_)
    obtain ⟨hP1, hK1, hD1⟩ := hB
    rw [ht] at hP1
    have hP := bv_still hP hk1
    generalize H1 = H at hP hS ⊢
    have h_64 := hw
    rw [h_64]
    refine lv_if_ne (tgt := 65) hx hb dX4_readUnit_11 rfl (fun c_65 => absurd c_65 (by decide)) (fun c_65 => ?_)
    exact hU _ _ _ (J14 x_55 g_h0_f1 g_h1_f1 g_h1_f2 g_h1_f3 h_57 _ _ _ hP hD hS (lv_sub hl [0, 1, 2, 3] rfl))
  · have hPc := hP.sub (ws' := []) [] rfl
    have hDc := hD.sub (ws' := []) [] (by decide) rfl
    have hKc := hK.sub (tys' := []) [] rfl
    have hFc := va_free (wc := []) hD hS hA [] rfl
    refine va_calli (va_runS (As := [.int r_54]) (rest := []) ⟨hx, hb, hml, hown, hts⟩ (c_X4_startsUnit_1 l dC dI H.size r_54 h_59) (va_cwS 1 hts gf_c_X4_readUnit_4_c_X4_startsUnit_1 rfl rfl rfl (by decide +kernel) ⟨Nat.le_of_ble_eq_true rfl, Nat.le_of_ble_eq_true rfl⟩) ⟨fun a U g mk q => by obtain ⟨q0, q1, qP, qK, qD⟩ := q; exact ⟨q0, q1, qP, va_K.moved (u := U) (U := U.calling g mk a) (Vm.Alike.refl U.vm) qK, qD⟩, fun U hU hW => ⟨rfl, by rw [hU], by rw [hU]; exact hPc, va_K.moved hW.alike hKc, hDc.weaken (fun _ _ _ _ => trivial)⟩⟩ rfl rfl hl.1 rfl (lv_room (Nat.le_of_ble_eq_true rfl)) dX4_readUnit_8 ⟨Nat.le_of_ble_eq_true rfl, Nat.le_of_ble_eq_true rfl⟩) hS (fun q _ h => hFc q h) hFc (fun r_66 u t H1 locs ht hvm hw hB hz1 hk1 hS => ?_)
    obtain ⟨hP1, hK1, hD1⟩ := hB
    rw [ht] at hP1
    have hP := bv_still hP hk1
    generalize H1 = H at hP hS ⊢
    rcases hw with h_67 | ⟨h_68, h_69⟩
    · rw [h_67]
      refine lv_if_ne (tgt := 65) hx hb dX4_readUnit_11 rfl (fun c_70 => absurd c_70 (by decide)) (fun c_70 => ?_)
      exact hU _ _ _ (J14 x_55 g_h0_f1 (RG_w h_61 (by decide)) g_h1_f2 g_h1_f3 (RG_w h_60 (by decide)) _ _ _ hP hD hS (lv_sub hl [0, 1, 2, 3] rfl))
    · rw [h_68]
      refine lv_if_ne (tgt := 65) hx hb dX4_readUnit_11 rfl (fun c_71 => ?_) (fun c_71 => absurd c_71 (by decide))
      refine lv_iload_n hx hb dX4_readUnit_65 rfl (lv_at hl 2 rfl) ?_
      refine lv_bipush (v := 6) hx hb dX4_readUnit_66 kc_bipush_6 ?_
      refine lv_icmp_lt (tgt := 78) hx hb dX4_readUnit_68 rfl (fun c_72 => ?_) (fun c_72 => absurd c_72 (by decide))
      refine lv_aload_n hx hb dX4_readUnit_78 rfl (lv_at hl 1 rfl) ?_
      refine lv_bipush (v := 33) hx hb dX4_readUnit_79 kc_bipush_33 ?_
      have hPc := hP.sub (ws' := (wd_c_X9_take h1 h1_0 h1_f1 x_55 h1_f3 h1_0 h1_0k h1_0c)) [0, 1] rfl
      have hDc := hD.sub (ws' := (wd_c_X9_take h1 h1_0 h1_f1 x_55 h1_f3 h1_0 h1_0k h1_0c)) [0, 1] (by decide) rfl
      have hKc := hK.sub (tys' := [(h1_0k, .int)]) [0] rfl
      have hFc := va_free (wc := (wd_c_X9_take h1 h1_0 h1_f1 x_55 h1_f3 h1_0 h1_0k h1_0c)) hD hS hA [0, 1] rfl
      refine va_calli (va_runV (As := [.int 33]) (rest := []) ⟨hx, hb, hml, hown, hts⟩ (c_X9_take l dC dI H.size h1 33 h1_0 h1_f1 x_55 h1_f3 h1_0k h1_0c (RG_w (RG_k 33 33 rfl) (by decide)) (RG_w h_61 (by decide)) (RG_w h_60 (by decide)) g_h1_f3 a_h1_0c) (cwV 1 hts gf_c_X4_readUnit_4_c_X9_take rfl rfl rfl (by decide +kernel) ⟨Nat.le_of_ble_eq_true rfl, Nat.le_of_ble_eq_true rfl⟩) ⟨fun a U g mk q => by obtain ⟨q0, q1, qP, qK, qD⟩ := q; exact ⟨q0, q1, qP, va_K.moved (u := U) (U := U.calling g mk a) (Vm.Alike.refl U.vm) qK, qD⟩, va_recv hKc hPc (ci := 9) (q0 := 0) rfl rfl, fun U hU hW => ⟨rfl, by rw [hU], by rw [hU]; exact hPc, va_K.moved hW.alike hKc, hDc.weaken (fun _ _ _ _ => trivial)⟩⟩ rfl rfl hl.1 rfl (lv_room (Nat.le_of_ble_eq_true rfl)) dX4_readUnit_81 ⟨Nat.le_of_ble_eq_true rfl, Nat.le_of_ble_eq_true rfl⟩) hS (fun q _ h => hFc q h) hFc (fun r_73 x_74 t H1 locs ht hvm hw hB hz1 hk1 hS => ?_)
      obtain ⟨hP1, hK1, hD1⟩ := hB
      rw [ht] at hP1
      obtain ⟨hP, hD⟩ := va_join (wr := [(h0, .inr (4, [.ref h0_0, .int h0_f1, .ref h0_2])), (h0_0, .inl (h0_0k, 240, .inl h0_0c))]) (w1 := (wd_c_X9_take h1 h1_0 h1_f1 x_74 h1_f3 h1_0 h1_0k h1_0c)) hP hD [0, 1] [2, 3] rfl rfl (by decide) (by decide) hk1 hFc hP1 hD1
      have hP := hP.sub (ws' := (wd_c_X4_readUnit_4 h1 h1_0 h1_f1 x_74 h1_f3 h1_0 h1_0k h1_0c h0 h0_0 h0_f1 h0_2 h0_0 h0_0k h0_0c)) [2, 3, 0, 1] rfl
      have hD := hD.sub (ws' := (wd_c_X4_readUnit_4 h1 h1_0 h1_f1 x_74 h1_f3 h1_0 h1_0k h1_0c h0 h0_0 h0_f1 h0_2 h0_0 h0_0k h0_0c)) [2, 3, 0, 1] (by decide) rfl
      generalize H1 = H at hP hS ⊢
      rcases hw with ⟨h_75, h_76, h_77⟩ | ⟨h_78, h_79, h_80, h_81, h_82⟩
      · rw [h_75]
        refine lv_if_eq (tgt := 105) hx hb dX4_readUnit_84 rfl (fun c_83 => ?_) (fun c_83 => absurd c_83 (by decide))
        refine lv_aload_n hx hb dX4_readUnit_105 rfl (lv_at hl 1 rfl) ?_
        refine lv_bipush (v := 40) hx hb dX4_readUnit_106 kc_bipush_40 ?_
        have hPc := hP.sub (ws' := (wd_c_X9_expect_1 h1 h1_0 h1_f1 x_74 h1_f3 h1_0 h1_0k h1_0c)) [0, 1] rfl
        have hDc := hD.sub (ws' := (wd_c_X9_expect_1 h1 h1_0 h1_f1 x_74 h1_f3 h1_0 h1_0k h1_0c)) [0, 1] (by decide) rfl
        have hKc := hK.sub (tys' := [(h1_0k, .int)]) [0] rfl
        have hFc := va_free (wc := (wd_c_X9_expect_1 h1 h1_0 h1_f1 x_74 h1_f3 h1_0 h1_0k h1_0c)) hD hS hA [0, 1] rfl
        refine va_callv (va_runV (As := [.int 40]) (rest := []) ⟨hx, hb, hml, hown, hts⟩ (c_X9_expect_1 l dC dI H.size h1 40 h1_0 h1_f1 x_74 h1_f3 h1_0k h1_0c (RG_w (RG_k 40 40 rfl) (by decide)) (RG_w h_61 (by decide)) h_76 g_h1_f3 a_h1_0c) (cwV 1 hts gf_c_X4_readUnit_4_c_X9_expect_1 rfl rfl rfl (by decide +kernel) ⟨Nat.le_of_ble_eq_true rfl, Nat.le_of_ble_eq_true rfl⟩) ⟨fun a U g mk q => by obtain ⟨q0, q1, qP, qK, qD⟩ := q; exact ⟨q0, q1, qP, va_K.moved (u := U) (U := U.calling g mk a) (Vm.Alike.refl U.vm) qK, qD⟩, va_recv hKc hPc (ci := 9) (q0 := 0) rfl rfl, fun U hU hW => ⟨rfl, by rw [hU], by rw [hU]; exact hPc, va_K.moved hW.alike hKc, hDc.weaken (fun _ _ _ _ => trivial)⟩⟩ rfl rfl hl.1 rfl (lv_room (Nat.le_of_ble_eq_true rfl)) dX4_readUnit_108 ⟨Nat.le_of_ble_eq_true rfl, Nat.le_of_ble_eq_true rfl⟩) hS (fun q _ h => hFc q h) hFc (fun u t H1 locs ht hvm hw hB hz1 hk1 hS => ?_)
        obtain ⟨x_85, x_86⟩ := u
        obtain ⟨hP1, hK1, hD1⟩ := hB
        rw [ht] at hP1
        obtain ⟨hP, hD⟩ := va_join (wr := [(h0, .inr (4, [.ref h0_0, .int h0_f1, .ref h0_2])), (h0_0, .inl (h0_0k, 240, .inl h0_0c))]) (w1 := (wd_c_X9_expect_1 h1 h1_0 h1_f1 x_85 x_86 h1_0 h1_0k h1_0c)) hP hD [0, 1] [2, 3] rfl rfl (by decide) (by decide) hk1 hFc hP1 hD1
        have hP := hP.sub (ws' := (wd_c_X4_readUnit_4 h1 h1_0 h1_f1 x_85 x_86 h1_0 h1_0k h1_0c h0 h0_0 h0_f1 h0_2 h0_0 h0_0k h0_0c)) [2, 3, 0, 1] rfl
        have hD := hD.sub (ws' := (wd_c_X4_readUnit_4 h1 h1_0 h1_f1 x_85 x_86 h1_0 h1_0k h1_0c h0 h0_0 h0_f1 h0_2 h0_0 h0_0k h0_0c)) [2, 3, 0, 1] (by decide) rfl
        generalize H1 = H at hP hS ⊢
        rcases hw with ⟨h_87, h_88, h_89⟩
        refine lv_aload_n hx hb dX4_readUnit_111 rfl (lv_at hl 0 rfl) ?_
        refine lv_aload_n hx hb dX4_readUnit_112 rfl (lv_at hl 1 rfl) ?_
        refine lv_iload_n hx hb dX4_readUnit_113 rfl (lv_at hl 2 rfl) ?_
        refine lv_iconst (v := 1) hx hb dX4_readUnit_114 kc_iconst_1 ?_
        refine lv_iadd hx hb dX4_readUnit_115 ?_
        refine lv_topi (fun x_90 ex_90 => ?_)
        obtain rfl : x_90 = 4 := ex_90.trans (by decide)
        refine lv_iconst (v := 0) hx hb dX4_readUnit_116 kc_iconst_0 ?_
        have hPc := hP.sub (ws' := (wd_c_X4_readCondition_4 h1 h1_0 h1_f1 x_85 x_86 h1_0 h1_0k h1_0c h0 h0_0 h0_f1 h0_2 h0_0 h0_0k h0_0c)) [0, 1, 2, 3] rfl
        have hDc := hD.sub (ws' := (wd_c_X4_readCondition_4 h1 h1_0 h1_f1 x_85 x_86 h1_0 h1_0k h1_0c h0 h0_0 h0_f1 h0_2 h0_0 h0_0k h0_0c)) [0, 1, 2, 3] (by decide) rfl
        have hKc := hK.sub (tys' := [(h1_0k, .int), (h0_0k, .int)]) [0, 1] rfl
        have hFc := va_free (wc := (wd_c_X4_readCondition_4 h1 h1_0 h1_f1 x_85 x_86 h1_0 h1_0k h1_0c h0 h0_0 h0_f1 h0_2 h0_0 h0_0k h0_0c)) hD hS hA [0, 1, 2, 3] rfl
        refine va_callv (va_runV (As := [.ref h1, .int 4, .int 0]) (rest := []) ⟨hx, hb, hml, hown, hts⟩ (c_X4_readCondition_4 l dC dI H.size h0 h1 h1_0 h1_f1 x_85 x_86 h1_0k h1_0c h0_0 h0_f1 h0_2 h0_0k h0_0c ts4 tv4 (RG_w h_61 (by decide)) h_87 h_88 a_h1_0c g_h0_f1) (cwV 3 hts gf_c_X4_readUnit_4_c_X4_readCondition_4 rfl rfl rfl (by decide +kernel) ⟨Nat.le_of_ble_eq_true rfl, Nat.le_of_ble_eq_true rfl⟩) ⟨fun a U g mk q => by obtain ⟨q0, q1, qP, qK, qD, qE0, qE1, qE2, qE3, qE4, qE5⟩ := q; exact ⟨q0, q1, qP, va_K.moved (u := U) (U := U.calling g mk a) (Vm.Alike.refl U.vm) qK, qD, vk_R.same rfl qE0, va_Z.moved (u := U) (U := U.calling g mk a) (Vm.Alike.refl U.vm) qE1, va_OF.moved (u := U) (U := U.calling g mk a) (Vm.Alike.refl U.vm) qE2, va_O.moved (u := U) (U := U.calling g mk a) (Vm.Alike.refl U.vm) qE3, va_OF.moved (u := U) (U := U.calling g mk a) (Vm.Alike.refl U.vm) qE4, va_T.moved (u := U) (U := U.calling g mk a) (Vm.Alike.refl U.vm) qE5⟩, va_recv hKc hPc (ci := 4) (q0 := 2) rfl rfl, fun U hU hW => ⟨rfl, by rw [hU], by rw [hU]; exact hPc, va_K.moved hW.alike hKc, hDc.weaken (fun _ _ _ _ => trivial), vk_R.warm hW hE_32, va_Z.moved hW.alike (by rw [hU]; exact (hE_10.kept hS.2.1).narrow hFc), va_OF.moved hW.alike (by rw [hU]; exact (hE_34.kept hS.2.1).narrow hFc), va_O.moved hW.alike (by rw [hU]; exact (hE_33.kept hS.2.1).narrow hFc), va_OF.moved hW.alike (by rw [hU]; exact (hE_35.kept hS.2.1).narrow hFc), va_T.moved hW.alike (by rw [hU]; exact (hE_36.kept hS.2.1).narrow hFc)⟩⟩ rfl rfl hl.1 rfl (lv_room (Nat.le_of_ble_eq_true rfl)) dX4_readUnit_117 ⟨Nat.le_of_ble_eq_true rfl, Nat.le_of_ble_eq_true rfl⟩) hS (fun q _ h => hFc q h) hFc (fun u t H1 locs ht hvm hw hB hz1 hk1 hS => ?_)
        obtain ⟨x_92, x_93, x_94, w_95⟩ := u
        obtain ⟨hP1, hK1, hD1⟩ := hB
        rw [ht] at hP1
        obtain ⟨hP, hD⟩ := va_join (wr := []) (w1 := (wd_c_X4_readCondition_4 h1 h1_0 h1_f1 x_92 x_93 h1_0 h1_0k h1_0c h0 h0_0 x_94 h0_2 h0_0 h0_0k w_95)) hP hD [0, 1, 2, 3] [] rfl rfl (by decide) (by decide) hk1 hFc hP1 hD1
        have hP := hP.sub (ws' := (wd_c_X4_readUnit_4 h1 h1_0 h1_f1 x_92 x_93 h1_0 h1_0k h1_0c h0 h0_0 x_94 h0_2 h0_0 h0_0k w_95)) [0, 1, 2, 3] rfl
        have hD := hD.sub (ws' := (wd_c_X4_readUnit_4 h1 h1_0 h1_f1 x_92 x_93 h1_0 h1_0k h1_0c h0 h0_0 x_94 h0_2 h0_0 h0_0k w_95)) [0, 1, 2, 3] (by decide) rfl
        generalize H1 = H at hP hS ⊢
        rcases hw with ⟨h_96, h_97, h_98⟩
        refine lv_aload_n hx hb dX4_readUnit_120 rfl (lv_at hl 1 rfl) ?_
        refine lv_bipush (v := 41) hx hb dX4_readUnit_121 kc_bipush_41 ?_
        have hPc := hP.sub (ws' := (wd_c_X9_expect_1 h1 h1_0 h1_f1 x_92 x_93 h1_0 h1_0k h1_0c)) [0, 1] rfl
        have hDc := hD.sub (ws' := (wd_c_X9_expect_1 h1 h1_0 h1_f1 x_92 x_93 h1_0 h1_0k h1_0c)) [0, 1] (by decide) rfl
        have hKc := hK.sub (tys' := [(h1_0k, .int)]) [0] rfl
        have hFc := va_free (wc := (wd_c_X9_expect_1 h1 h1_0 h1_f1 x_92 x_93 h1_0 h1_0k h1_0c)) hD hS hA [0, 1] rfl
        refine va_callv (va_runV (As := [.int 41]) (rest := []) ⟨hx, hb, hml, hown, hts⟩ (c_X9_expect_1 l dC dI H.size h1 41 h1_0 h1_f1 x_92 x_93 h1_0k h1_0c (RG_w (RG_k 41 41 rfl) (by decide)) (RG_w h_61 (by decide)) h_96 h_97 a_h1_0c) (cwV 1 hts gf_c_X4_readUnit_4_c_X9_expect_1 rfl rfl rfl (by decide +kernel) ⟨Nat.le_of_ble_eq_true rfl, Nat.le_of_ble_eq_true rfl⟩) ⟨fun a U g mk q => by obtain ⟨q0, q1, qP, qK, qD⟩ := q; exact ⟨q0, q1, qP, va_K.moved (u := U) (U := U.calling g mk a) (Vm.Alike.refl U.vm) qK, qD⟩, va_recv hKc hPc (ci := 9) (q0 := 0) rfl rfl, fun U hU hW => ⟨rfl, by rw [hU], by rw [hU]; exact hPc, va_K.moved hW.alike hKc, hDc.weaken (fun _ _ _ _ => trivial)⟩⟩ rfl rfl hl.1 rfl (lv_room (Nat.le_of_ble_eq_true rfl)) dX4_readUnit_123 ⟨Nat.le_of_ble_eq_true rfl, Nat.le_of_ble_eq_true rfl⟩) hS (fun q _ h => hFc q h) hFc (fun u t H1 locs ht hvm hw hB hz1 hk1 hS => ?_)
        obtain ⟨x_100, x_101⟩ := u
        obtain ⟨hP1, hK1, hD1⟩ := hB
        rw [ht] at hP1
        obtain ⟨hP, hD⟩ := va_join (wr := [(h0, .inr (4, [.ref h0_0, .int x_94, .ref h0_2])), (h0_0, .inl (h0_0k, 240, .inl w_95))]) (w1 := (wd_c_X9_expect_1 h1 h1_0 h1_f1 x_100 x_101 h1_0 h1_0k h1_0c)) hP hD [0, 1] [2, 3] rfl rfl (by decide) (by decide) hk1 hFc hP1 hD1
        have hP := hP.sub (ws' := (wd_c_X4_readUnit_4 h1 h1_0 h1_f1 x_100 x_101 h1_0 h1_0k h1_0c h0 h0_0 x_94 h0_2 h0_0 h0_0k w_95)) [2, 3, 0, 1] rfl
        have hD := hD.sub (ws' := (wd_c_X4_readUnit_4 h1 h1_0 h1_f1 x_100 x_101 h1_0 h1_0k h1_0c h0 h0_0 x_94 h0_2 h0_0 h0_0k w_95)) [2, 3, 0, 1] (by decide) rfl
        generalize H1 = H at hP hS ⊢
        rcases hw with ⟨h_102, h_103, h_104⟩
        have hK9 := hK.sub (tys' := []) [] rfl
        exact W.vret hx hb hr (fun t ht hW => ⟨⟨(x_100, x_101, x_94, w_95), rfl, ⟨h_102, h_103, h_98⟩, by rw [ht]; exact hP, va_K.moved hW.alike hK9, hD⟩, hS.F ht⟩) hS.2.2 dX4_readUnit_126
      · rw [h_78]
        refine lv_if_eq (tgt := 105) hx hb dX4_readUnit_84 rfl (fun c_105 => absurd c_105 (by decide)) (fun c_105 => ?_)
        refine lv_aload_n hx hb dX4_readUnit_87 rfl (lv_at hl 0 rfl) ?_
        refine lv_aload_n hx hb dX4_readUnit_88 rfl (lv_at hl 1 rfl) ?_
        refine lv_iload_n hx hb dX4_readUnit_89 rfl (lv_at hl 2 rfl) ?_
        refine lv_iconst (v := 1) hx hb dX4_readUnit_90 kc_iconst_1 ?_
        refine lv_iadd hx hb dX4_readUnit_91 ?_
        refine lv_topi (fun x_106 ex_106 => ?_)
        obtain rfl : x_106 = 4 := ex_106.trans (by decide)
        refine lv_iconst (v := 0) hx hb dX4_readUnit_92 kc_iconst_0 ?_
        have hPc := hP.sub (ws' := (wd_c_X4_readUnit_5 h1 h1_0 h1_f1 x_74 h1_f3 h1_0 h1_0k h1_0c h0 h0_0 h0_f1 h0_2 h0_0 h0_0k h0_0c)) [0, 1, 2, 3] rfl
        have hDc := hD.sub (ws' := (wd_c_X4_readUnit_5 h1 h1_0 h1_f1 x_74 h1_f3 h1_0 h1_0k h1_0c h0 h0_0 h0_f1 h0_2 h0_0 h0_0k h0_0c)) [0, 1, 2, 3] (by decide) rfl
        have hKc := hK.sub (tys' := [(h1_0k, .int), (h0_0k, .int)]) [0, 1] rfl
        have hFc := va_free (wc := (wd_c_X4_readUnit_5 h1 h1_0 h1_f1 x_74 h1_f3 h1_0 h1_0k h1_0c h0 h0_0 h0_f1 h0_2 h0_0 h0_0k h0_0c)) hD hS hA [0, 1, 2, 3] rfl
        refine va_callv (va_runV (As := [.ref h1, .int 4, .int 0]) (rest := []) ⟨hx, hb, hml, hown, hts⟩ (c_X4_readUnit_5 l dC dI H.size h0 h1 h1_0 h1_f1 x_74 h1_f3 h1_0k h1_0c h0_0 h0_f1 h0_2 h0_0k h0_0c ts4 tv4 (RG_w h_61 (by decide)) (RG_w h_79 (by decide)) (RG_w h_81 (by decide)) a_h1_0c g_h0_f1) (cwV 3 hts gf_c_X4_readUnit_4_c_X4_readUnit_5 rfl rfl rfl (by decide +kernel) ⟨Nat.le_of_ble_eq_true rfl, Nat.le_of_ble_eq_true rfl⟩) ⟨fun a U g mk q => by obtain ⟨q0, q1, qP, qK, qD, qE0, qE1, qE2, qE3, qE4, qE5⟩ := q; exact ⟨q0, q1, qP, va_K.moved (u := U) (U := U.calling g mk a) (Vm.Alike.refl U.vm) qK, qD, vk_R.same rfl qE0, va_Z.moved (u := U) (U := U.calling g mk a) (Vm.Alike.refl U.vm) qE1, va_OF.moved (u := U) (U := U.calling g mk a) (Vm.Alike.refl U.vm) qE2, va_O.moved (u := U) (U := U.calling g mk a) (Vm.Alike.refl U.vm) qE3, va_OF.moved (u := U) (U := U.calling g mk a) (Vm.Alike.refl U.vm) qE4, va_T.moved (u := U) (U := U.calling g mk a) (Vm.Alike.refl U.vm) qE5⟩, va_recv hKc hPc (ci := 4) (q0 := 2) rfl rfl, fun U hU hW => ⟨rfl, by rw [hU], by rw [hU]; exact hPc, va_K.moved hW.alike hKc, hDc.weaken (fun _ _ _ _ => trivial), vk_R.warm hW hE_32, va_Z.moved hW.alike (by rw [hU]; exact (hE_10.kept hS.2.1).narrow hFc), va_OF.moved hW.alike (by rw [hU]; exact (hE_34.kept hS.2.1).narrow hFc), va_O.moved hW.alike (by rw [hU]; exact (hE_33.kept hS.2.1).narrow hFc), va_OF.moved hW.alike (by rw [hU]; exact (hE_35.kept hS.2.1).narrow hFc), va_T.moved hW.alike (by rw [hU]; exact (hE_36.kept hS.2.1).narrow hFc)⟩⟩ rfl rfl hl.1 rfl (lv_room (Nat.le_of_ble_eq_true rfl)) dX4_readUnit_93 ⟨Nat.le_of_ble_eq_true rfl, Nat.le_of_ble_eq_true rfl⟩) hS (fun q _ h => hFc q h) hFc (fun u t H1 locs ht hvm hw hB hz1 hk1 hS => ?_)
        obtain ⟨x_108, x_109, x_110, w_111⟩ := u
        obtain ⟨hP1, hK1, hD1⟩ := hB
        rw [ht] at hP1
        obtain ⟨hP, hD⟩ := va_join (wr := []) (w1 := (wd_c_X4_readUnit_5 h1 h1_0 h1_f1 x_108 x_109 h1_0 h1_0k h1_0c h0 h0_0 x_110 h0_2 h0_0 h0_0k w_111)) hP hD [0, 1, 2, 3] [] rfl rfl (by decide) (by decide) hk1 hFc hP1 hD1
        have hP := hP.sub (ws' := (wd_c_X4_readUnit_4 h1 h1_0 h1_f1 x_108 x_109 h1_0 h1_0k h1_0c h0 h0_0 x_110 h0_2 h0_0 h0_0k w_111)) [0, 1, 2, 3] rfl
        have hD := hD.sub (ws' := (wd_c_X4_readUnit_4 h1 h1_0 h1_f1 x_108 x_109 h1_0 h1_0k h1_0c h0 h0_0 x_110 h0_2 h0_0 h0_0k w_111)) [0, 1, 2, 3] (by decide) rfl
        generalize H1 = H at hP hS ⊢
        rcases hw with ⟨h_112, h_113, h_114⟩
        refine lv_aload_n hx hb dX4_readUnit_96 rfl (lv_at hl 0 rfl) ?_
        refine lv_bipush (v := (-33)) hx hb dX4_readUnit_97 kc_bipush_m33 ?_
        have hPc := hP.sub (ws' := (wd_c_X4_emit h0 h0_0 x_110 h0_2 h0_0 h0_0k w_111)) [2, 3] rfl
        have hDc := hD.sub (ws' := (wd_c_X4_emit h0 h0_0 x_110 h0_2 h0_0 h0_0k w_111)) [2, 3] (by decide) rfl
        have hKc := hK.sub (tys' := [(h0_0k, .int)]) [1] rfl
        have hFc := va_free (wc := (wd_c_X4_emit h0 h0_0 x_110 h0_2 h0_0 h0_0k w_111)) hD hS hA [2, 3] rfl
        refine va_callv (va_runV (As := [.int (-33)]) (rest := []) ⟨hx, hb, hml, hown, hts⟩ (c_X4_emit l dC dI H.size h0 (-33) h0_0 x_110 h0_2 h0_0k w_111 h_114) (cwV 1 hts gf_c_X4_readUnit_4_c_X4_emit rfl rfl rfl (by decide +kernel) ⟨Nat.le_of_ble_eq_true rfl, Nat.le_of_ble_eq_true rfl⟩) ⟨fun a U g mk q => by obtain ⟨q0, q1, qP, qK, qD⟩ := q; exact ⟨q0, q1, qP, va_K.moved (u := U) (U := U.calling g mk a) (Vm.Alike.refl U.vm) qK, qD⟩, va_recv hKc hPc (ci := 4) (q0 := 0) rfl rfl, fun U hU hW => ⟨rfl, by rw [hU], by rw [hU]; exact hPc, va_K.moved hW.alike hKc, hDc.weaken (fun _ _ _ _ => trivial)⟩⟩ rfl rfl hl.1 rfl (lv_room (Nat.le_of_ble_eq_true rfl)) dX4_readUnit_99 ⟨Nat.le_of_ble_eq_true rfl, Nat.le_of_ble_eq_true rfl⟩) hS (fun q _ h => hFc q h) hFc (fun u t H1 locs ht hvm hw hB hz1 hk1 hS => ?_)
        obtain ⟨x_116, w_117⟩ := u
        obtain ⟨hP1, hK1, hD1⟩ := hB
        rw [ht] at hP1
        obtain ⟨hP, hD⟩ := va_join (wr := [(h1, .inr (9, [.ref h1_0, .int h1_f1, .int x_108, .int x_109])), (h1_0, .inl (h1_0k, 240, .inl h1_0c))]) (w1 := (wd_c_X4_emit h0 h0_0 x_116 h0_2 h0_0 h0_0k w_117)) hP hD [2, 3] [0, 1] rfl rfl (by decide) (by decide) hk1 hFc hP1 hD1
        have hP := hP.sub (ws' := (wd_c_X4_readUnit_4 h1 h1_0 h1_f1 x_108 x_109 h1_0 h1_0k h1_0c h0 h0_0 x_116 h0_2 h0_0 h0_0k w_117)) [0, 1, 2, 3] rfl
        have hD := hD.sub (ws' := (wd_c_X4_readUnit_4 h1 h1_0 h1_f1 x_108 x_109 h1_0 h1_0k h1_0c h0 h0_0 x_116 h0_2 h0_0 h0_0k w_117)) [0, 1, 2, 3] (by decide) rfl
        generalize H1 = H at hP hS ⊢
        have h_118 := hw
        refine lv_goto (tgt := 126) hx hb dX4_readUnit_102 rfl ?_
        have hK9 := hK.sub (tys' := []) [] rfl
        exact W.vret hx hb hr (fun t ht hW => ⟨⟨(x_108, x_109, x_116, w_117), rfl, ⟨h_112, h_113, (RG_w h_118 (by decide))⟩, by rw [ht]; exact hP, va_K.moved hW.alike hK9, hD⟩, hS.F ht⟩) hS.2.2 dX4_readUnit_126
def wd_c_X4_readCondition_3 (a0 : Nat) (a1 : Nat) (a2 : Int32) (a3 : Int32) (a4 : Int32) (a5 : Nat) (a6 : ClassId) (a7 : Nat → Int32) (a8 : Nat) (a9 : Nat) (a10 : Int32) (a11 : Nat) (a12 : Nat) (a13 : ClassId) (a14 : Nat → Int32) : va_W := [(a0, .inr (9, [.ref a1, .int a2, .int a3, .int a4])), (a5, .inl (a6, 240, .inl a7)), (a8, .inr (4, [.ref a9, .int a10, .ref a11])), (a12, .inl (a13, 240, .inl a14))]
def wf_c_X4_readCondition_3 : List Cond := .code yX4_readCondition cX4_readCondition 7 none :: ([.methodLink RX4 72 yX9_isRight, .instanceMethod yX9_isRight, .selects RX9 yX9_isRight yX9_isRight, .initialized RX9, .code yX9_isRight cX9_isRight 1 (some .boolean), .fieldLink RX9 15 "BuoyVote$Tape" "wrong" "I", .methodLink RX4 76 yX4_readUnit, .instanceMethod yX4_readUnit, .selects RX4 yX4_readUnit yX4_readUnit, .initialized RX4, .code yX4_readUnit cX4_readUnit 5 none, .methodLink RX4 41 yX9_peek, .instanceMethod yX9_peek, .selects RX9 yX9_peek yX9_peek, .code yX9_peek cX9_peek 1 (some .int), .fieldLink RX9 22 "BuoyVote$Tape" "at" "I", .fieldLink RX9 19 "BuoyVote$Tape" "length" "I", .fieldLink RX9 11 "BuoyVote$Tape" "bytes" "[I", .methodLink RX4 45 yX4_startsUnit, .static yX4_startsUnit, .code yX4_startsUnit cX4_startsUnit 1 (some .boolean), .methodLink RX4 63 yX9_take, .instanceMethod yX9_take, .selects RX9 yX9_take yX9_take, .code yX9_take cX9_take 2 (some .boolean), .methodLink RX9 29 yX9_peek, .methodLink RX4 37 yX9_expect, .instanceMethod yX9_expect, .selects RX9 yX9_expect yX9_expect, .code yX9_expect cX9_expect 2 none, .methodLink RX9 25 yX9_refuse, .instanceMethod yX9_refuse, .selects RX9 yX9_refuse yX9_refuse, .code yX9_refuse cX9_refuse 2 none, .methodLink RX4 56 yX4_readCondition, .instanceMethod yX4_readCondition, .selects RX4 yX4_readCondition yX4_readCondition, .methodLink RX4 82 yX9_refuseHere, .instanceMethod yX9_refuseHere, .selects RX9 yX9_refuseHere yX9_refuseHere, .code yX9_refuseHere cX9_refuseHere 1 none, .methodLink RX4 49 yX4_readSum, .instanceMethod yX4_readSum, .selects RX4 yX4_readSum yX4_readSum, .code yX4_readSum cX4_readSum 6 none, .methodLink RX4 85 yX4_readAtom, .instanceMethod yX4_readAtom, .selects RX4 yX4_readAtom yX4_readAtom, .code yX4_readAtom cX4_readAtom 6 none, .methodLink RX4 93 yJ0_indexOf_0f7a4, .instanceMethod yJ0_indexOf_0f7a4, .selects RJ0 yJ0_indexOf_0f7a4 yJ0_indexOf_0f7a4, .initialized RJ0, .code yJ0_indexOf_0f7a4 cJ0_indexOf_0f7a4 2 (some .int), .methodLink RJ0 633 yJ0_indexOf_7cf53, .instanceMethod yJ0_indexOf_7cf53, .selects RJ0 yJ0_indexOf_7cf53 yJ0_indexOf_7cf53, .code yJ0_indexOf_7cf53 cJ0_indexOf_7cf53 3 (some .int), .methodLink RJ0 492 yJ0_isLatin1_aae02, .instanceMethod yJ0_isLatin1_aae02, .selects RJ0 yJ0_isLatin1_aae02 yJ0_isLatin1_aae02, .code yJ0_isLatin1_aae02 cJ0_isLatin1_aae02 1 (some .boolean), .fieldLink RJ0 38 "java/lang/String" "COMPACT_STRINGS" "Z", .fieldLink RJ0 15 "java/lang/String" "coder" "B", .fieldLink RJ0 9 "java/lang/String" "value" "[B", .methodLink RJ0 505 yJ0_length_8abf5, .instanceMethod yJ0_length_8abf5, .selects RJ0 yJ0_length_8abf5 yJ0_length_8abf5, .code yJ0_length_8abf5 cJ0_length_8abf5 1 (some .int), .methodLink RJ0 335 yJ0_coder_7d493, .instanceMethod yJ0_coder_7d493, .selects RJ0 yJ0_coder_7d493 yJ0_coder_7d493, .code yJ0_coder_7d493 cJ0_coder_7d493 1 (some .byte), .methodLink RJ0 637 yJ1_indexOf_4cfef, .static yJ1_indexOf_4cfef, .initialized RJ1, .code yJ1_indexOf_4cfef cJ1_indexOf_4cfef 4 (some .int), .methodLink RJ1 88 yJ1_canEncode_9a6ad, .static yJ1_canEncode_9a6ad, .code yJ1_canEncode_9a6ad cJ1_canEncode_9a6ad 1 (some .boolean), .methodLink RJ1 92 Lib.Math.max.name, .static Lib.Math.max.name, .initialized "java/lang/Math", .code Lib.Math.max.name Lib.Math.max.code 2 (some .int), .methodLink RJ1 38 Lib.Math.min.name, .static Lib.Math.min.name, .code Lib.Math.min.name Lib.Math.min.code 2 (some .int), .methodLink RJ1 95 yJ1_indexOfChar_4cfef, .static yJ1_indexOfChar_4cfef, .code yJ1_indexOfChar_4cfef cJ1_indexOfChar_4cfef 6 (some .int), .methodLink RX4 99 yX9_number, .instanceMethod yX9_number, .selects RX9 yX9_number yX9_number, .code yX9_number cX9_number 4 (some .int), .methodLink RX4 79 yX9_skip, .instanceMethod yX9_skip, .selects RX9 yX9_skip yX9_skip, .code yX9_skip cX9_skip 1 none, .methodLink RX4 60 yX4_emit, .instanceMethod yX4_emit, .selects RX4 yX4_emit yX4_emit, .code yX4_emit cX4_emit 2 none, .fieldLink RX4 20 "BuoyVote$Law" "length" "I", .fieldLink RX4 11 "BuoyVote$Law" "code" "[I", .methodLink RX4 88 yX9_takeEither, .instanceMethod yX9_takeEither, .selects RX9 yX9_takeEither yX9_takeEither, .code yX9_takeEither cX9_takeEither 4 (some .int), .methodLink RX4 53 yX4_isComparison, .static yX4_isComparison, .code yX4_isComparison cX4_isComparison 1 (some .boolean)] ++ wsX90 ++ wsX40)
theorem iw_c_X4_readCondition_3_X9 : ∀ w ∈ wsX90, w ∈ wf_c_X4_readCondition_3 := fun w h => List.mem_cons_of_mem _ (List.mem_append_left _ (List.mem_append_right _ h))
theorem iw_c_X4_readCondition_3_X4 : ∀ w ∈ wsX40, w ∈ wf_c_X4_readCondition_3 := fun w h => List.mem_cons_of_mem _ (List.mem_append_right _ h)
set_option maxRecDepth 20000 in
theorem gf_c_X4_readCondition_3_c_X9_take_1 : GoodIn wf_c_X4_readCondition_3 (wsV RX4 63 RX9 yX9_take wf_c_X9_take_1) := goodIn_app (gi_cons (j := 22) rfl rfl (gi_cons (j := 23) rfl rfl (gi_cons (j := 24) rfl rfl (gi_cons (j := 4) rfl rfl (gi_nil))))) (gi_cons (j := 25) rfl rfl (goodIn_app (gi_cons (j := 6) rfl rfl (gi_cons (j := 26) rfl rfl (gi_cons (j := 13) rfl rfl (gi_cons (j := 14) rfl rfl (gi_cons (j := 4) rfl rfl (gi_cons (j := 15) rfl rfl (gi_cons (j := 16) rfl rfl (gi_cons (j := 17) rfl rfl (gi_cons (j := 18) rfl rfl (gi_nil)))))))))) (goodIn_sub iw_c_X4_readCondition_3_X9 gw_X9)))
set_option maxRecDepth 20000 in
theorem gf_c_X4_readCondition_3_c_X9_take : GoodIn wf_c_X4_readCondition_3 (wsV RX4 63 RX9 yX9_take wf_c_X9_take) := goodIn_app (gi_cons (j := 22) rfl rfl (gi_cons (j := 23) rfl rfl (gi_cons (j := 24) rfl rfl (gi_cons (j := 4) rfl rfl (gi_nil))))) (gi_cons (j := 25) rfl rfl (goodIn_app (gi_cons (j := 6) rfl rfl (gi_cons (j := 26) rfl rfl (gi_cons (j := 13) rfl rfl (gi_cons (j := 14) rfl rfl (gi_cons (j := 4) rfl rfl (gi_cons (j := 15) rfl rfl (gi_cons (j := 16) rfl rfl (gi_cons (j := 17) rfl rfl (gi_cons (j := 18) rfl rfl (gi_nil)))))))))) (goodIn_sub iw_c_X4_readCondition_3_X9 gw_X9)))
set_option maxRecDepth 20000 in
theorem gf_c_X4_readCondition_3_c_X4_emit : GoodIn wf_c_X4_readCondition_3 (wsV RX4 60 RX4 yX4_emit wf_c_X4_emit) := goodIn_app (gi_cons (j := 99) rfl rfl (gi_cons (j := 100) rfl rfl (gi_cons (j := 101) rfl rfl (gi_cons (j := 10) rfl rfl (gi_nil))))) (gi_cons (j := 102) rfl rfl (goodIn_app (gi_cons (j := 103) rfl rfl (gi_cons (j := 104) rfl rfl (gi_nil))) (goodIn_sub iw_c_X4_readCondition_3_X4 gw_X4)))
set_option maxRecDepth 20000 in
theorem gf_c_X4_readCondition_3_c_X4_readUnit_4 : GoodIn wf_c_X4_readCondition_3 (wsV RX4 76 RX4 yX4_readUnit wf_c_X4_readUnit_4) := goodIn_app (gi_cons (j := 7) rfl rfl (gi_cons (j := 8) rfl rfl (gi_cons (j := 9) rfl rfl (gi_cons (j := 10) rfl rfl (gi_nil))))) (gi_cons (j := 11) rfl rfl (goodIn_app (goodIn_app (gi_cons (j := 12) rfl rfl (gi_cons (j := 13) rfl rfl (gi_cons (j := 14) rfl rfl (gi_cons (j := 4) rfl rfl (gi_cons (j := 15) rfl rfl (gi_cons (j := 16) rfl rfl (gi_cons (j := 17) rfl rfl (gi_cons (j := 18) rfl rfl (gi_cons (j := 19) rfl rfl (gi_cons (j := 20) rfl rfl (gi_cons (j := 10) rfl rfl (gi_cons (j := 21) rfl rfl (gi_cons (j := 22) rfl rfl (gi_cons (j := 23) rfl rfl (gi_cons (j := 24) rfl rfl (gi_cons (j := 25) rfl rfl (gi_cons (j := 6) rfl rfl (gi_cons (j := 26) rfl rfl (gi_cons (j := 27) rfl rfl (gi_cons (j := 28) rfl rfl (gi_cons (j := 29) rfl rfl (gi_cons (j := 30) rfl rfl (gi_cons (j := 31) rfl rfl (gi_cons (j := 32) rfl rfl (gi_cons (j := 33) rfl rfl (gi_cons (j := 34) rfl rfl (gi_cons (j := 35) rfl rfl (gi_cons (j := 36) rfl rfl (gi_cons (j := 37) rfl rfl (gi_cons (j := 0) rfl rfl (gi_cons (j := 1) rfl rfl (gi_cons (j := 2) rfl rfl (gi_cons (j := 3) rfl rfl (gi_cons (j := 5) rfl rfl (gi_cons (j := 7) rfl rfl (gi_cons (j := 8) rfl rfl (gi_cons (j := 9) rfl rfl (gi_cons (j := 38) rfl rfl (gi_cons (j := 39) rfl rfl (gi_cons (j := 40) rfl rfl (gi_cons (j := 41) rfl rfl (gi_cons (j := 42) rfl rfl (gi_cons (j := 43) rfl rfl (gi_cons (j := 44) rfl rfl (gi_cons (j := 45) rfl rfl (gi_cons (j := 46) rfl rfl (gi_cons (j := 47) rfl rfl (gi_cons (j := 48) rfl rfl (gi_cons (j := 49) rfl rfl (gi_cons (j := 50) rfl rfl (gi_cons (j := 51) rfl rfl (gi_cons (j := 52) rfl rfl (gi_cons (j := 53) rfl rfl (gi_cons (j := 54) rfl rfl (gi_cons (j := 55) rfl rfl (gi_cons (j := 56) rfl rfl (gi_cons (j := 57) rfl rfl (gi_cons (j := 58) rfl rfl (gi_cons (j := 59) rfl rfl (gi_cons (j := 60) rfl rfl (gi_cons (j := 61) rfl rfl (gi_cons (j := 62) rfl rfl (gi_cons (j := 63) rfl rfl (gi_cons (j := 64) rfl rfl (gi_cons (j := 65) rfl rfl (gi_cons (j := 66) rfl rfl (gi_cons (j := 67) rfl rfl (gi_cons (j := 68) rfl rfl (gi_cons (j := 69) rfl rfl (gi_cons (j := 70) rfl rfl (gi_cons (j := 71) rfl rfl (gi_cons (j := 72) rfl rfl (gi_cons (j := 73) rfl rfl (gi_cons (j := 74) rfl rfl (gi_cons (j := 75) rfl rfl (gi_cons (j := 76) rfl rfl (gi_cons (j := 77) rfl rfl (gi_cons (j := 78) rfl rfl (gi_cons (j := 79) rfl rfl (gi_cons (j := 80) rfl rfl (gi_cons (j := 81) rfl rfl (gi_cons (j := 82) rfl rfl (gi_cons (j := 83) rfl rfl (gi_cons (j := 84) rfl rfl (gi_cons (j := 85) rfl rfl (gi_cons (j := 86) rfl rfl (gi_cons (j := 87) rfl rfl (gi_cons (j := 88) rfl rfl (gi_cons (j := 89) rfl rfl (gi_cons (j := 90) rfl rfl (gi_cons (j := 91) rfl rfl (gi_cons (j := 92) rfl rfl (gi_cons (j := 93) rfl rfl (gi_cons (j := 94) rfl rfl (gi_cons (j := 95) rfl rfl (gi_cons (j := 96) rfl rfl (gi_cons (j := 97) rfl rfl (gi_cons (j := 98) rfl rfl (gi_cons (j := 99) rfl rfl (gi_cons (j := 100) rfl rfl (gi_cons (j := 101) rfl rfl (gi_cons (j := 102) rfl rfl (gi_cons (j := 103) rfl rfl (gi_cons (j := 104) rfl rfl (gi_cons (j := 105) rfl rfl (gi_cons (j := 106) rfl rfl (gi_cons (j := 107) rfl rfl (gi_cons (j := 108) rfl rfl (gi_cons (j := 109) rfl rfl (gi_cons (j := 110) rfl rfl (gi_cons (j := 111) rfl rfl (gi_nil)))))))))))))))))))))))))))))))))))))))))))))))))))))))))))))))))))))))))))))))))))))))))))))))))))))))))))))))) (goodIn_sub iw_c_X4_readCondition_3_X9 gw_X9)) (goodIn_sub iw_c_X4_readCondition_3_X4 gw_X4)))
set_option maxRecDepth 20000 in
theorem gf_c_X4_readCondition_3_c_X9_isRight : GoodIn wf_c_X4_readCondition_3 (wsV RX4 72 RX9 yX9_isRight wf_c_X9_isRight) := goodIn_app (gi_cons (j := 1) rfl rfl (gi_cons (j := 2) rfl rfl (gi_cons (j := 3) rfl rfl (gi_cons (j := 4) rfl rfl (gi_nil))))) (gi_cons (j := 5) rfl rfl (goodIn_app (gi_cons (j := 6) rfl rfl (gi_nil)) (goodIn_sub iw_c_X4_readCondition_3_X9 gw_X9)))
set_option maxHeartbeats 4000000 in
set_option maxRecDepth 100000 in
theorem c_X4_readCondition_3 (l : Launch) (dC : Nat → ClassId) (dI : Nat → Nat → Nat) (sz : Nat) (h0 : Nat) (h1 : Nat) (h1_0 : Nat) (h1_f1 : Int32) (h1_f2 : Int32) (h1_f3 : Int32) (h1_0k : ClassId) (h1_0c : Nat → Int32) (h0_0 : Nat) (h0_f1 : Int32) (h0_2 : Nat) (h0_0k : ClassId) (h0_0c : Nat → Int32) (ts4 : Nat) (tv4 : Nat) (g_h1_f1 : RG h1_f1 0 240) (g_h1_f2 : RG h1_f2 0 240) (g_h1_f3 : RG h1_f3 (-1) 240) (a_h1_0c : AI h1_0c 0 255) (g_h0_f1 : RG h0_f1 0 240) : Met l yX4_readCondition wf_c_X4_readCondition_3 ({ frames := 13, cells := 0, slots := 0, locals := 315 }) (va_Pc [.ref h0, .ref h1, .int 3, .int 0] (fun U => U.heap.size = sz ∧ va_P (dC, dI) vwCl (wd_c_X4_readCondition_3 h1 h1_0 h1_f1 h1_f2 h1_f3 h1_0 h1_0k h1_0c h0 h0_0 h0_f1 h0_2 h0_0 h0_0k h0_0c) U.heap ∧ va_K (dC, dI) vwCl [(h1_0k, .int), (h0_0k, .int)] U ∧ va_D (fun _ => True) (wd_c_X4_readCondition_3 h1 h1_0 h1_f1 h1_f2 h1_f3 h1_0 h1_0k h1_0c h0 h0_0 h0_f1 h0_2 h0_0 h0_0k h0_0c) ∧ vk_R RX4 91 "vlrdph" ts4 U ∧ va_Z "java/lang/String" "COMPACT_STRINGS" "Z" (.int 1) (va_A (wd_c_X4_readCondition_3 h1 h1_0 h1_f1 h1_f2 h1_f3 h1_0 h1_0k h1_0c h0 h0_0 h0_f1 h0_2 h0_0 h0_0k h0_0c) sz) U U.heap ∧ va_OF "java/lang/String" "coder" "B" (.int 0) ts4 (va_A (wd_c_X4_readCondition_3 h1 h1_0 h1_f1 h1_f2 h1_f3 h1_0 h1_0k h1_0c h0 h0_0 h0_f1 h0_2 h0_0 h0_0k h0_0c) sz) U U.heap ∧ va_O "java/lang/String" ts4 (va_A (wd_c_X4_readCondition_3 h1 h1_0 h1_f1 h1_f2 h1_f3 h1_0 h1_0k h1_0c h0 h0_0 h0_f1 h0_2 h0_0 h0_0k h0_0c) sz) U U.heap ∧ va_OF "java/lang/String" "value" "[B" (.ref tv4) ts4 (va_A (wd_c_X4_readCondition_3 h1 h1_0 h1_f1 h1_f2 h1_f3 h1_0 h1_0k h1_0c h0 h0_0 h0_f1 h0_2 h0_0 h0_0k h0_0c) sz) U U.heap ∧ va_T .byte tv4 6 (fun j => .int ([118, 108, 114, 100, 112, 104].getD j 0)) (va_A (wd_c_X4_readCondition_3 h1 h1_0 h1_f1 h1_f2 h1_f3 h1_0 h1_0k h1_0c h0 h0_0 h0_f1 h0_2 h0_0 h0_0k h0_0c) sz) U U.heap)) (va_Qv (fun (u : (Int32) × (Int32) × (Int32) × (Nat → Int32)) => (RG u.1 0 240 ∧ RG u.2.1 (-1) 240 ∧ RG u.2.2.1 0 240)) (fun (u : (Int32) × (Int32) × (Int32) × (Nat → Int32)) t => va_P (dC, dI) vwCl (wd_c_X4_readCondition_3 h1 h1_0 h1_f1 (u.1) (u.2.1) h1_0 h1_0k h1_0c h0 h0_0 (u.2.2.1) h0_2 h0_0 h0_0k (u.2.2.2)) t.heap ∧ va_K (dC, dI) vwCl [] t ∧ va_D (va_A (wd_c_X4_readCondition_3 h1 h1_0 h1_f1 h1_f2 h1_f3 h1_0 h1_0k h1_0c h0 h0_0 h0_f1 h0_2 h0_0 h0_0k h0_0c) sz) (wd_c_X4_readCondition_3 h1 h1_0 h1_f1 (u.1) (u.2.1) h1_0 h1_0k h1_0c h0 h0_0 (u.2.2.1) h0_2 h0_0 h0_0k (u.2.2.2))) (va_A (wd_c_X4_readCondition_3 h1 h1_0 h1_f1 h1_f2 h1_f3 h1_0 h1_0k h1_0c h0 h0_0 h0_f1 h0_2 h0_0 h0_0k h0_0c) sz)) 0 0 (va_A (wd_c_X4_readCondition_3 h1 h1_0 h1_f1 h1_f2 h1_f3 h1_0 h1_0k h1_0c h0 h0_0 h0_f1 h0_2 h0_0 h0_0k h0_0c) sz) := by
  refine Met.ofW (cc := cX4_readCondition) (maxL := 7) (ret := none) (by decide) rfl ?_
  intro p e s m args below meth c s₁ B hml hv
  obtain ⟨rfl, hsz, hP, hK, hD0, hE_32, hE_10, hE_34, hE_33, hE_35, hE_36⟩ := hv
  have hx := B.exec
  have hb := B.bytes
  have hr := B.returns
  have hts := atoms_spec (ws := wf_c_X4_readCondition_3) B.pre
  have hown : s.vm.findClass RX4 = some m.cls := findClass_of_methodNamed B.named
  have hlocks := B.notSynchronized
  subst hsz
  have hD := hD0.self (sz := s.heap.size)
  generalize hAe : va_A (wd_c_X4_readCondition_3 h1 h1_0 h1_f1 h1_f2 h1_f3 h1_0 h1_0k h1_0c h0 h0_0 h0_f1 h0_2 h0_0 h0_0k h0_0c) s.heap.size = A at hD hE_10 hE_34 hE_33 hE_35 hE_36 ⊢
  have hA : ∀ q : Nat, s.heap.size ≤ q → A q := fun q h => by rw [← hAe]; exact Or.inr h
  have hP : va_P (dC, dI) vwCl (wd_c_X4_readCondition_3 h1 h1_0 h1_f1 h1_f2 h1_f3 h1_0 h1_0k h1_0c h0 h0_0 h0_f1 h0_2 h0_0 h0_0k h0_0c) s.heap := hP
  have hl := lv_entry ([.ref h0, .ref h1, .int 3, .int 0]) (n := 7) (Nat.le_of_ble_eq_true rfl)
  rw [lg_entry_eq]
  generalize (lg_sl ([.ref h0, .ref h1, .int 3, .int 0]) ++ List.replicate (7 - (lg_sl ([.ref h0, .ref h1, .int 3, .int 0])).length) Slot.unset).toArray = ls at hl ⊢
  have hl : lv_has ls 7 [(0, .ref h0), (1, .ref h1), (2, .int 3), (3, .int 0)] := hl
  obtain ⟨H, hHe⟩ : ∃ H : Heap, s.heap = H := ⟨_, rfl⟩
  have hS : va_S A s.heap H [] := by rw [hHe]; exact va_S.rf
  have hP : va_P (dC, dI) vwCl (wd_c_X4_readCondition_3 h1 h1_0 h1_f1 h1_f2 h1_f3 h1_0 h1_0k h1_0c h0 h0_0 h0_f1 h0_2 h0_0 h0_0k h0_0c) H := by rw [← hHe]; exact hP
  rw [hHe]
  refine wj (fun G hG hU => ?_)
  have J9 : ∀ (n9 : Nat) (j9_l6 : Int32) (j9_l5 : Int32) (j9_l4 : Int32) (j9_h1_f2 : Int32) (j9_h1_f3 : Int32) (j9_h0_f1 : Int32) (j9_h0_0c : Nat → Int32) (hM9 : MU j9_l6 < n9) (g_h0_f1 : RG h0_f1 0 240) (g_h1_f1 : RG h1_f1 0 240) (g_h1_f2 : RG h1_f2 0 240) (g_h1_f3 : RG h1_f3 (-1) 240) (g_j9_h0_f1 : RG j9_h0_f1 0 240) (g_j9_h1_f2 : RG j9_h1_f2 0 240) (g_j9_h1_f3 : RG j9_h1_f3 (-1) 240) (g_j9_l4 : RG j9_l4 0 1) (g_j9_l5 : RG j9_l5 0 1) (g_j9_l6 : RG j9_l6 0 240) (H : Heap) (locs : List Loc) (ls : Array Slot) (hP : va_P (dC, dI) vwCl (wd_c_X4_readCondition_3 h1 h1_0 h1_f1 j9_h1_f2 j9_h1_f3 h1_0 h1_0k h1_0c h0 h0_0 j9_h0_f1 h0_2 h0_0 h0_0k j9_h0_0c) H) (hD : va_D A (wd_c_X4_readCondition_3 h1 h1_0 h1_f1 j9_h1_f2 j9_h1_f3 h1_0 h1_0k h1_0c h0 h0_0 j9_h0_f1 h0_2 h0_0 h0_0k j9_h0_0c)) (hS : va_S A s.heap H locs) (hl : lv_has ls 7 [(6, .int j9_l6), (5, .int j9_l5), (4, .int j9_l4), (0, .ref h0), (1, .ref h1), (2, .int 3), (3, .int 0)]), G H locs (F0 m 9 ls []) := by
    intro n9
    induction n9 with
    | zero => intros; exact absurd (by assumption) (Nat.not_lt_zero _)
    | succ n9 ih9 =>
      intro j9_l6 j9_l5 j9_l4 j9_h1_f2 j9_h1_f3 j9_h0_f1 j9_h0_0c hM9 g_h0_f1 g_h1_f1 g_h1_f2 g_h1_f3 g_j9_h0_f1 g_j9_h1_f2 g_j9_h1_f3 g_j9_l4 g_j9_l5 g_j9_l6 H locs ls hP hD hS hl
      have J93 : ∀ (j93_l4 : Int32) (j93_l5 : Int32) (j93_h1_f2 : Int32) (j93_h1_f3 : Int32) (j93_h0_f1 : Int32) (j93_h0_0c : Nat → Int32) (g_h0_f1 : RG h0_f1 0 240) (g_h1_f1 : RG h1_f1 1 240) (g_h1_f2 : RG h1_f2 0 240) (g_h1_f3 : RG h1_f3 (-1) 240) (g_j93_h0_f1 : RG j93_h0_f1 0 240) (g_j93_h1_f2 : RG j93_h1_f2 1 240) (g_j93_h1_f3 : RG j93_h1_f3 (-1) (-1)) (g_j93_l4 : RG j93_l4 0 1) (g_j93_l5 : RG j93_l5 0 1) (g_j9_h0_f1 : RG j9_h0_f1 0 240) (g_j9_h1_f2 : RG j9_h1_f2 0 240) (g_j9_h1_f3 : RG j9_h1_f3 (-1) (-1)) (g_j9_l4 : RG j9_l4 0 1) (g_j9_l5 : RG j9_l5 0 1) (g_j9_l6 : RG j9_l6 0 239) (H : Heap) (locs : List Loc) (ls : Array Slot) (hP : va_P (dC, dI) vwCl (wd_c_X4_readCondition_3 h1 h1_0 h1_f1 j93_h1_f2 j93_h1_f3 h1_0 h1_0k h1_0c h0 h0_0 j93_h0_f1 h0_2 h0_0 h0_0k j93_h0_0c) H) (hD : va_D A (wd_c_X4_readCondition_3 h1 h1_0 h1_f1 j93_h1_f2 j93_h1_f3 h1_0 h1_0k h1_0c h0 h0_0 j93_h0_f1 h0_2 h0_0 h0_0k j93_h0_0c)) (hS : va_S A s.heap H locs) (hl : lv_has ls 7 [(4, .int j93_l4), (6, .int j9_l6), (5, .int j93_l5), (0, .ref h0), (1, .ref h1), (2, .int 3), (3, .int 0)]), G H locs (F0 m 93 ls []) := by
        intro j93_l4 j93_l5 j93_h1_f2 j93_h1_f3 j93_h0_f1 j93_h0_0c g_h0_f1 g_h1_f1 g_h1_f2 g_h1_f3 g_j93_h0_f1 g_j93_h1_f2 g_j93_h1_f3 g_j93_l4 g_j93_l5 g_j9_h0_f1 g_j9_h1_f2 g_j9_h1_f3 g_j9_l4 g_j9_l5 g_j9_l6 H locs ls hP hD hS hl
        refine hG _ _ _ ?_
        obtain ⟨x_1, ex_1⟩ : ∃ y : Int32, y = j9_l6 + 1 := ⟨_, rfl⟩
        have g_2 : RG x_1 1 240 := RG_add ex_1 g_j9_l6 (RG_k 1 1 rfl) (by decide)
        refine lv_iinc (v := x_1) (lv' := [(6, .int x_1), (4, .int j93_l4), (5, .int j93_l5), (0, .ref h0), (1, .ref h1), (2, .int 3), (3, .int 0)]) hx hb dX4_readCondition_93 hl (k := 1) rfl (by rw [ex_1]; rfl) (Nat.le_of_ble_eq_true rfl) rfl (fun ls hl => ?_)
        refine lv_goto (tgt := 9) hx hb dX4_readCondition_96 rfl ?_
        exact hU _ _ _ (ih9 x_1 j93_l5 j93_l4 j93_h1_f2 j93_h1_f3 j93_h0_f1 j93_h0_0c (mu_s (MU_add ex_1 g_j9_l6 (q := 1) rfl (by decide)) hM9) g_h0_f1 (RG_w g_h1_f1 (by decide)) g_h1_f2 g_h1_f3 g_j93_h0_f1 (RG_w g_j93_h1_f2 (by decide)) (RG_w g_j93_h1_f3 (by decide)) g_j93_l4 g_j93_l5 (RG_w g_2 (by decide)) _ _ _ hP hD hS (lv_sub hl [0, 2, 1, 3, 4, 5, 6] rfl))
      have J79 : ∀ (j79_h1_f2 : Int32) (j79_h1_f3 : Int32) (j79_h0_f1 : Int32) (j79_h0_0c : Nat → Int32) (g_h0_f1 : RG h0_f1 0 240) (g_h1_f1 : RG h1_f1 0 240) (g_h1_f2 : RG h1_f2 0 240) (g_h1_f3 : RG h1_f3 (-1) 240) (g_j79_h0_f1 : RG j79_h0_f1 0 240) (g_j79_h1_f2 : RG j79_h1_f2 0 240) (g_j79_h1_f3 : RG j79_h1_f3 (-1) 240) (g_j9_h0_f1 : RG j9_h0_f1 0 240) (g_j9_h1_f2 : RG j9_h1_f2 0 240) (g_j9_h1_f3 : RG j9_h1_f3 (-1) (-1)) (g_j9_l4 : RG j9_l4 0 1) (g_j9_l5 : RG j9_l5 0 1) (g_j9_l6 : RG j9_l6 0 239) (H : Heap) (locs : List Loc) (ls : Array Slot) (hP : va_P (dC, dI) vwCl (wd_c_X4_readCondition_3 h1 h1_0 h1_f1 j79_h1_f2 j79_h1_f3 h1_0 h1_0k h1_0c h0 h0_0 j79_h0_f1 h0_2 h0_0 h0_0k j79_h0_0c) H) (hD : va_D A (wd_c_X4_readCondition_3 h1 h1_0 h1_f1 j79_h1_f2 j79_h1_f3 h1_0 h1_0k h1_0c h0 h0_0 j79_h0_f1 h0_2 h0_0 h0_0k j79_h0_0c)) (hS : va_S A s.heap H locs) (hl : lv_has ls 7 [(4, .int 0), (6, .int j9_l6), (0, .ref h0), (1, .ref h1), (2, .int 3), (3, .int 0)]), G H locs (F0 m 79 ls []) := by
        intro j79_h1_f2 j79_h1_f3 j79_h0_f1 j79_h0_0c g_h0_f1 g_h1_f1 g_h1_f2 g_h1_f3 g_j79_h0_f1 g_j79_h1_f2 g_j79_h1_f3 g_j9_h0_f1 g_j9_h1_f2 g_j9_h1_f3 g_j9_l4 g_j9_l5 g_j9_l6 H locs ls hP hD hS hl
        refine hG _ _ _ ?_
        refine lv_aload_n hx hb dX4_readCondition_79 rfl (lv_at hl 3 rfl) ?_
        refine lv_bipush (v := 124) hx hb dX4_readCondition_80 kc_bipush_124 ?_
        have hPc := hP.sub (ws' := (wd_c_X9_take_1 h1 h1_0 h1_f1 j79_h1_f2 j79_h1_f3 h1_0 h1_0k h1_0c)) [0, 1] rfl
        have hDc := hD.sub (ws' := (wd_c_X9_take_1 h1 h1_0 h1_f1 j79_h1_f2 j79_h1_f3 h1_0 h1_0k h1_0c)) [0, 1] (by decide) rfl
        have hKc := hK.sub (tys' := [(h1_0k, .int)]) [0] rfl
        have hFc := va_free (wc := (wd_c_X9_take_1 h1 h1_0 h1_f1 j79_h1_f2 j79_h1_f3 h1_0 h1_0k h1_0c)) hD hS hA [0, 1] rfl
        refine va_calli (va_runV (As := [.int 124]) (rest := []) ⟨hx, hb, hml, hown, hts⟩ (c_X9_take_1 l dC dI H.size h1 124 h1_0 h1_f1 j79_h1_f2 j79_h1_f3 h1_0k h1_0c (RG_w (RG_k 124 124 rfl) (by decide)) g_h1_f1 g_j79_h1_f2 g_j79_h1_f3 a_h1_0c) (cwV 1 hts gf_c_X4_readCondition_3_c_X9_take_1 rfl rfl rfl (by decide +kernel) ⟨Nat.le_of_ble_eq_true rfl, Nat.le_of_ble_eq_true rfl⟩) ⟨fun a U g mk q => by obtain ⟨q0, q1, qP, qK, qD⟩ := q; exact ⟨q0, q1, qP, va_K.moved (u := U) (U := U.calling g mk a) (Vm.Alike.refl U.vm) qK, qD⟩, va_recv hKc hPc (ci := 9) (q0 := 0) rfl rfl, fun U hU hW => ⟨rfl, by rw [hU], by rw [hU]; exact hPc, va_K.moved hW.alike hKc, hDc.weaken (fun _ _ _ _ => trivial)⟩⟩ rfl rfl hl.1 rfl (lv_room (Nat.le_of_ble_eq_true rfl)) dX4_readCondition_82 ⟨Nat.le_of_ble_eq_true rfl, Nat.le_of_ble_eq_true rfl⟩) hS (fun q _ h => hFc q h) hFc (fun r_3 x_4 t H1 locs ht hvm hw hB hz1 hk1 hS => ?_)
        obtain ⟨hP1, hK1, hD1⟩ := hB
        rw [ht] at hP1
        obtain ⟨hP, hD⟩ := va_join (wr := [(h0, .inr (4, [.ref h0_0, .int j79_h0_f1, .ref h0_2])), (h0_0, .inl (h0_0k, 240, .inl j79_h0_0c))]) (w1 := (wd_c_X9_take_1 h1 h1_0 h1_f1 x_4 j79_h1_f3 h1_0 h1_0k h1_0c)) hP hD [0, 1] [2, 3] rfl rfl (by decide) (by decide) hk1 hFc hP1 hD1
        have hP := hP.sub (ws' := (wd_c_X4_readCondition_3 h1 h1_0 h1_f1 x_4 j79_h1_f3 h1_0 h1_0k h1_0c h0 h0_0 j79_h0_f1 h0_2 h0_0 h0_0k j79_h0_0c)) [2, 3, 0, 1] rfl
        have hD := hD.sub (ws' := (wd_c_X4_readCondition_3 h1 h1_0 h1_f1 x_4 j79_h1_f3 h1_0 h1_0k h1_0c h0 h0_0 j79_h0_f1 h0_2 h0_0 h0_0k j79_h0_0c)) [2, 3, 0, 1] (by decide) rfl
        generalize H1 = H at hP hS ⊢
        rcases hw with ⟨h_5, h_6, h_7⟩ | ⟨h_8, h_9, h_10, h_11, h_12⟩
        · rw [h_5]
          refine lv_istore (lv' := [(5, .int 0), (4, .int 0), (6, .int j9_l6), (0, .ref h0), (1, .ref h1), (2, .int 3), (3, .int 0)]) hx hb dX4_readCondition_85 hl (Nat.le_of_ble_eq_true rfl) rfl (fun ls hl => ?_)
          refine lv_iload hx hb dX4_readCondition_87 (lv_at hl 0 rfl) ?_
          refine lv_if_ne (tgt := 93) hx hb dX4_readCondition_89 rfl (fun c_13 => absurd c_13 (by decide)) (fun c_13 => ?_)
          have hK9 := hK.sub (tys' := []) [] rfl
          exact W.vret hx hb hr (fun t ht hW => ⟨⟨(x_4, j79_h1_f3, j79_h0_f1, j79_h0_0c), rfl, ⟨h_6, g_j79_h1_f3, g_j79_h0_f1⟩, by rw [ht]; exact hP, va_K.moved hW.alike hK9, hD⟩, hS.F ht⟩) hS.2.2 dX4_readCondition_92
        · rw [h_8]
          refine lv_istore (lv' := [(5, .int 1), (4, .int 0), (6, .int j9_l6), (0, .ref h0), (1, .ref h1), (2, .int 3), (3, .int 0)]) hx hb dX4_readCondition_85 hl (Nat.le_of_ble_eq_true rfl) rfl (fun ls hl => ?_)
          refine lv_iload hx hb dX4_readCondition_87 (lv_at hl 0 rfl) ?_
          refine lv_if_ne (tgt := 93) hx hb dX4_readCondition_89 rfl (fun c_14 => ?_) (fun c_14 => absurd c_14 (by decide))
          exact hU _ _ _ (J93 0 1 x_4 j79_h1_f3 j79_h0_f1 j79_h0_0c g_h0_f1 h_10 g_h1_f2 g_h1_f3 g_j79_h0_f1 h_9 h_11 (RG_w (RG_k 0 0 rfl) (by decide)) (RG_w (RG_k 1 1 rfl) (by decide)) g_j9_h0_f1 g_j9_h1_f2 g_j9_h1_f3 g_j9_l4 g_j9_l5 g_j9_l6 _ _ _ hP hD hS (lv_sub hl [1, 2, 0, 3, 4, 5, 6] rfl))
      have J55 : ∀ (j55_h1_f2 : Int32) (j55_h1_f3 : Int32) (j55_h0_f1 : Int32) (j55_h0_0c : Nat → Int32) (g_h0_f1 : RG h0_f1 0 240) (g_h1_f1 : RG h1_f1 0 240) (g_h1_f2 : RG h1_f2 0 240) (g_h1_f3 : RG h1_f3 (-1) 240) (g_j55_h0_f1 : RG j55_h0_f1 0 240) (g_j55_h1_f2 : RG j55_h1_f2 0 240) (g_j55_h1_f3 : RG j55_h1_f3 (-1) 240) (g_j9_h0_f1 : RG j9_h0_f1 0 240) (g_j9_h1_f2 : RG j9_h1_f2 0 240) (g_j9_h1_f3 : RG j9_h1_f3 (-1) (-1)) (g_j9_l4 : RG j9_l4 0 1) (g_j9_l5 : RG j9_l5 0 1) (g_j9_l6 : RG j9_l6 0 239) (H : Heap) (locs : List Loc) (ls : Array Slot) (hP : va_P (dC, dI) vwCl (wd_c_X4_readCondition_3 h1 h1_0 h1_f1 j55_h1_f2 j55_h1_f3 h1_0 h1_0k h1_0c h0 h0_0 j55_h0_f1 h0_2 h0_0 h0_0k j55_h0_0c) H) (hD : va_D A (wd_c_X4_readCondition_3 h1 h1_0 h1_f1 j55_h1_f2 j55_h1_f3 h1_0 h1_0k h1_0c h0 h0_0 j55_h0_f1 h0_2 h0_0 h0_0k j55_h0_0c)) (hS : va_S A s.heap H locs) (hl : lv_has ls 7 [(6, .int j9_l6), (5, .int j9_l5), (0, .ref h0), (1, .ref h1), (2, .int 3), (3, .int 0)]), G H locs (F0 m 55 ls []) := by
        intro j55_h1_f2 j55_h1_f3 j55_h0_f1 j55_h0_0c g_h0_f1 g_h1_f1 g_h1_f2 g_h1_f3 g_j55_h0_f1 g_j55_h1_f2 g_j55_h1_f3 g_j9_h0_f1 g_j9_h1_f2 g_j9_h1_f3 g_j9_l4 g_j9_l5 g_j9_l6 H locs ls hP hD hS hl
        refine hG _ _ _ ?_
        refine lv_aload_n hx hb dX4_readCondition_55 rfl (lv_at hl 3 rfl) ?_
        refine lv_bipush (v := 38) hx hb dX4_readCondition_56 kc_bipush_38 ?_
        have hPc := hP.sub (ws' := (wd_c_X9_take h1 h1_0 h1_f1 j55_h1_f2 j55_h1_f3 h1_0 h1_0k h1_0c)) [0, 1] rfl
        have hDc := hD.sub (ws' := (wd_c_X9_take h1 h1_0 h1_f1 j55_h1_f2 j55_h1_f3 h1_0 h1_0k h1_0c)) [0, 1] (by decide) rfl
        have hKc := hK.sub (tys' := [(h1_0k, .int)]) [0] rfl
        have hFc := va_free (wc := (wd_c_X9_take h1 h1_0 h1_f1 j55_h1_f2 j55_h1_f3 h1_0 h1_0k h1_0c)) hD hS hA [0, 1] rfl
        refine va_calli (va_runV (As := [.int 38]) (rest := []) ⟨hx, hb, hml, hown, hts⟩ (c_X9_take l dC dI H.size h1 38 h1_0 h1_f1 j55_h1_f2 j55_h1_f3 h1_0k h1_0c (RG_w (RG_k 38 38 rfl) (by decide)) g_h1_f1 g_j55_h1_f2 g_j55_h1_f3 a_h1_0c) (cwV 1 hts gf_c_X4_readCondition_3_c_X9_take rfl rfl rfl (by decide +kernel) ⟨Nat.le_of_ble_eq_true rfl, Nat.le_of_ble_eq_true rfl⟩) ⟨fun a U g mk q => by obtain ⟨q0, q1, qP, qK, qD⟩ := q; exact ⟨q0, q1, qP, va_K.moved (u := U) (U := U.calling g mk a) (Vm.Alike.refl U.vm) qK, qD⟩, va_recv hKc hPc (ci := 9) (q0 := 0) rfl rfl, fun U hU hW => ⟨rfl, by rw [hU], by rw [hU]; exact hPc, va_K.moved hW.alike hKc, hDc.weaken (fun _ _ _ _ => trivial)⟩⟩ rfl rfl hl.1 rfl (lv_room (Nat.le_of_ble_eq_true rfl)) dX4_readCondition_58 ⟨Nat.le_of_ble_eq_true rfl, Nat.le_of_ble_eq_true rfl⟩) hS (fun q _ h => hFc q h) hFc (fun r_15 x_16 t H1 locs ht hvm hw hB hz1 hk1 hS => ?_)
        obtain ⟨hP1, hK1, hD1⟩ := hB
        rw [ht] at hP1
        obtain ⟨hP, hD⟩ := va_join (wr := [(h0, .inr (4, [.ref h0_0, .int j55_h0_f1, .ref h0_2])), (h0_0, .inl (h0_0k, 240, .inl j55_h0_0c))]) (w1 := (wd_c_X9_take h1 h1_0 h1_f1 x_16 j55_h1_f3 h1_0 h1_0k h1_0c)) hP hD [0, 1] [2, 3] rfl rfl (by decide) (by decide) hk1 hFc hP1 hD1
        have hP := hP.sub (ws' := (wd_c_X4_readCondition_3 h1 h1_0 h1_f1 x_16 j55_h1_f3 h1_0 h1_0k h1_0c h0 h0_0 j55_h0_f1 h0_2 h0_0 h0_0k j55_h0_0c)) [2, 3, 0, 1] rfl
        have hD := hD.sub (ws' := (wd_c_X4_readCondition_3 h1 h1_0 h1_f1 x_16 j55_h1_f3 h1_0 h1_0k h1_0c h0 h0_0 j55_h0_f1 h0_2 h0_0 h0_0k j55_h0_0c)) [2, 3, 0, 1] (by decide) rfl
        generalize H1 = H at hP hS ⊢
        rcases hw with ⟨h_17, h_18, h_19⟩ | ⟨h_20, h_21, h_22, h_23, h_24⟩
        · rw [h_17]
          refine lv_istore (lv' := [(4, .int 0), (6, .int j9_l6), (5, .int j9_l5), (0, .ref h0), (1, .ref h1), (2, .int 3), (3, .int 0)]) hx hb dX4_readCondition_61 hl (Nat.le_of_ble_eq_true rfl) rfl (fun ls hl => ?_)
          refine lv_iload hx hb dX4_readCondition_63 (lv_at hl 0 rfl) ?_
          refine lv_if_ne (tgt := 93) hx hb dX4_readCondition_65 rfl (fun c_25 => absurd c_25 (by decide)) (fun c_25 => ?_)
          refine lv_iload hx hb dX4_readCondition_68 (lv_at hl 2 rfl) ?_
          refine lv_if_eq (tgt := 79) hx hb dX4_readCondition_70 rfl (fun c_26 => ?_) (fun c_26 => ?_)
          · have g_27 : RG j9_l5 0 0 := RG_eq1 g_j9_l5 (RG_k 0 0 rfl) c_26 (by decide)
            exact hU _ _ _ (J79 x_16 j55_h1_f3 j55_h0_f1 j55_h0_0c g_h0_f1 g_h1_f1 g_h1_f2 g_h1_f3 g_j55_h0_f1 h_18 g_j55_h1_f3 g_j9_h0_f1 g_j9_h1_f2 g_j9_h1_f3 g_j9_l4 (RG_w g_27 (by decide)) g_j9_l6 _ _ _ hP hD hS (lv_sub hl [0, 1, 3, 4, 5, 6] rfl))
          · have g_28 : RG j9_l5 1 1 := RG_ne1 g_j9_l5 (q := 0) rfl c_26 (by decide)
            refine lv_aload_n hx hb dX4_readCondition_73 rfl (lv_at hl 3 rfl) ?_
            refine lv_bipush (v := (-124)) hx hb dX4_readCondition_74 kc_bipush_m124 ?_
            have hPc := hP.sub (ws' := (wd_c_X4_emit h0 h0_0 j55_h0_f1 h0_2 h0_0 h0_0k j55_h0_0c)) [2, 3] rfl
            have hDc := hD.sub (ws' := (wd_c_X4_emit h0 h0_0 j55_h0_f1 h0_2 h0_0 h0_0k j55_h0_0c)) [2, 3] (by decide) rfl
            have hKc := hK.sub (tys' := [(h0_0k, .int)]) [1] rfl
            have hFc := va_free (wc := (wd_c_X4_emit h0 h0_0 j55_h0_f1 h0_2 h0_0 h0_0k j55_h0_0c)) hD hS hA [2, 3] rfl
            refine va_callv (va_runV (As := [.int (-124)]) (rest := []) ⟨hx, hb, hml, hown, hts⟩ (c_X4_emit l dC dI H.size h0 (-124) h0_0 j55_h0_f1 h0_2 h0_0k j55_h0_0c g_j55_h0_f1) (cwV 1 hts gf_c_X4_readCondition_3_c_X4_emit rfl rfl rfl (by decide +kernel) ⟨Nat.le_of_ble_eq_true rfl, Nat.le_of_ble_eq_true rfl⟩) ⟨fun a U g mk q => by obtain ⟨q0, q1, qP, qK, qD⟩ := q; exact ⟨q0, q1, qP, va_K.moved (u := U) (U := U.calling g mk a) (Vm.Alike.refl U.vm) qK, qD⟩, va_recv hKc hPc (ci := 4) (q0 := 0) rfl rfl, fun U hU hW => ⟨rfl, by rw [hU], by rw [hU]; exact hPc, va_K.moved hW.alike hKc, hDc.weaken (fun _ _ _ _ => trivial)⟩⟩ rfl rfl hl.1 rfl (lv_room (Nat.le_of_ble_eq_true rfl)) dX4_readCondition_76 ⟨Nat.le_of_ble_eq_true rfl, Nat.le_of_ble_eq_true rfl⟩) hS (fun q _ h => hFc q h) hFc (fun u t H1 locs ht hvm hw hB hz1 hk1 hS => ?_)
            obtain ⟨x_30, w_31⟩ := u
            obtain ⟨hP1, hK1, hD1⟩ := hB
            rw [ht] at hP1
            obtain ⟨hP, hD⟩ := va_join (wr := [(h1, .inr (9, [.ref h1_0, .int h1_f1, .int x_16, .int j55_h1_f3])), (h1_0, .inl (h1_0k, 240, .inl h1_0c))]) (w1 := (wd_c_X4_emit h0 h0_0 x_30 h0_2 h0_0 h0_0k w_31)) hP hD [2, 3] [0, 1] rfl rfl (by decide) (by decide) hk1 hFc hP1 hD1
            have hP := hP.sub (ws' := (wd_c_X4_readCondition_3 h1 h1_0 h1_f1 x_16 j55_h1_f3 h1_0 h1_0k h1_0c h0 h0_0 x_30 h0_2 h0_0 h0_0k w_31)) [0, 1, 2, 3] rfl
            have hD := hD.sub (ws' := (wd_c_X4_readCondition_3 h1 h1_0 h1_f1 x_16 j55_h1_f3 h1_0 h1_0k h1_0c h0 h0_0 x_30 h0_2 h0_0 h0_0k w_31)) [0, 1, 2, 3] (by decide) rfl
            generalize H1 = H at hP hS ⊢
            have h_32 := hw
            exact hU _ _ _ (J79 x_16 j55_h1_f3 x_30 w_31 g_h0_f1 g_h1_f1 g_h1_f2 g_h1_f3 (RG_w h_32 (by decide)) h_18 g_j55_h1_f3 g_j9_h0_f1 g_j9_h1_f2 g_j9_h1_f3 g_j9_l4 (RG_w g_28 (by decide)) g_j9_l6 _ _ _ hP hD hS (lv_sub hl [0, 1, 3, 4, 5, 6] rfl))
        · rw [h_20]
          refine lv_istore (lv' := [(4, .int 1), (6, .int j9_l6), (5, .int j9_l5), (0, .ref h0), (1, .ref h1), (2, .int 3), (3, .int 0)]) hx hb dX4_readCondition_61 hl (Nat.le_of_ble_eq_true rfl) rfl (fun ls hl => ?_)
          refine lv_iload hx hb dX4_readCondition_63 (lv_at hl 0 rfl) ?_
          refine lv_if_ne (tgt := 93) hx hb dX4_readCondition_65 rfl (fun c_33 => ?_) (fun c_33 => absurd c_33 (by decide))
          exact hU _ _ _ (J93 1 j9_l5 x_16 j55_h1_f3 j55_h0_f1 j55_h0_0c g_h0_f1 h_22 g_h1_f2 g_h1_f3 g_j55_h0_f1 h_21 h_23 (RG_w (RG_k 1 1 rfl) (by decide)) g_j9_l5 g_j9_h0_f1 g_j9_h1_f2 g_j9_h1_f3 g_j9_l4 g_j9_l5 g_j9_l6 _ _ _ hP hD hS (lv_sub hl [0, 1, 2, 3, 4, 5, 6] rfl))
      have J41 : ∀ (g_h0_f1 : RG h0_f1 0 240) (g_h1_f1 : RG h1_f1 0 240) (g_h1_f2 : RG h1_f2 0 240) (g_h1_f3 : RG h1_f3 (-1) 240) (g_j9_h0_f1 : RG j9_h0_f1 0 240) (g_j9_h1_f2 : RG j9_h1_f2 0 240) (g_j9_h1_f3 : RG j9_h1_f3 (-1) (-1)) (g_j9_l4 : RG j9_l4 0 1) (g_j9_l5 : RG j9_l5 0 1) (g_j9_l6 : RG j9_l6 0 239) (H : Heap) (locs : List Loc) (ls : Array Slot) (hP : va_P (dC, dI) vwCl (wd_c_X4_readCondition_3 h1 h1_0 h1_f1 j9_h1_f2 j9_h1_f3 h1_0 h1_0k h1_0c h0 h0_0 j9_h0_f1 h0_2 h0_0 h0_0k j9_h0_0c) H) (hD : va_D A (wd_c_X4_readCondition_3 h1 h1_0 h1_f1 j9_h1_f2 j9_h1_f3 h1_0 h1_0k h1_0c h0 h0_0 j9_h0_f1 h0_2 h0_0 h0_0k j9_h0_0c)) (hS : va_S A s.heap H locs) (hl : lv_has ls 7 [(6, .int j9_l6), (5, .int j9_l5), (4, .int j9_l4), (0, .ref h0), (1, .ref h1), (2, .int 3), (3, .int 0)]), G H locs (F0 m 41 ls [.int 0, .int 3, .ref h1, .ref h0]) := by
        intro g_h0_f1 g_h1_f1 g_h1_f2 g_h1_f3 g_j9_h0_f1 g_j9_h1_f2 g_j9_h1_f3 g_j9_l4 g_j9_l5 g_j9_l6 H locs ls hP hD hS hl
        refine hG _ _ _ ?_
        have hPc := hP.sub (ws' := (wd_c_X4_readUnit_4 h1 h1_0 h1_f1 j9_h1_f2 j9_h1_f3 h1_0 h1_0k h1_0c h0 h0_0 j9_h0_f1 h0_2 h0_0 h0_0k j9_h0_0c)) [0, 1, 2, 3] rfl
        have hDc := hD.sub (ws' := (wd_c_X4_readUnit_4 h1 h1_0 h1_f1 j9_h1_f2 j9_h1_f3 h1_0 h1_0k h1_0c h0 h0_0 j9_h0_f1 h0_2 h0_0 h0_0k j9_h0_0c)) [0, 1, 2, 3] (by decide) rfl
        have hKc := hK.sub (tys' := [(h1_0k, .int), (h0_0k, .int)]) [0, 1] rfl
        have hFc := va_free (wc := (wd_c_X4_readUnit_4 h1 h1_0 h1_f1 j9_h1_f2 j9_h1_f3 h1_0 h1_0k h1_0c h0 h0_0 j9_h0_f1 h0_2 h0_0 h0_0k j9_h0_0c)) hD hS hA [0, 1, 2, 3] rfl
        refine va_callv (va_runV (As := [.ref h1, .int 3, .int 0]) (rest := []) ⟨hx, hb, hml, hown, hts⟩ (c_X4_readUnit_4 l dC dI H.size h0 h1 h1_0 h1_f1 j9_h1_f2 j9_h1_f3 h1_0k h1_0c h0_0 j9_h0_f1 h0_2 h0_0k j9_h0_0c ts4 tv4 g_h1_f1 g_j9_h1_f2 (RG_w g_j9_h1_f3 (by decide)) a_h1_0c g_j9_h0_f1) (cwV 3 hts gf_c_X4_readCondition_3_c_X4_readUnit_4 rfl rfl rfl (by decide +kernel) ⟨Nat.le_of_ble_eq_true rfl, Nat.le_of_ble_eq_true rfl⟩) ⟨fun a U g mk q => by obtain ⟨q0, q1, qP, qK, qD, qE0, qE1, qE2, qE3, qE4, qE5⟩ := q; exact ⟨q0, q1, qP, va_K.moved (u := U) (U := U.calling g mk a) (Vm.Alike.refl U.vm) qK, qD, vk_R.same rfl qE0, va_Z.moved (u := U) (U := U.calling g mk a) (Vm.Alike.refl U.vm) qE1, va_OF.moved (u := U) (U := U.calling g mk a) (Vm.Alike.refl U.vm) qE2, va_O.moved (u := U) (U := U.calling g mk a) (Vm.Alike.refl U.vm) qE3, va_OF.moved (u := U) (U := U.calling g mk a) (Vm.Alike.refl U.vm) qE4, va_T.moved (u := U) (U := U.calling g mk a) (Vm.Alike.refl U.vm) qE5⟩, va_recv hKc hPc (ci := 4) (q0 := 2) rfl rfl, fun U hU hW => ⟨rfl, by rw [hU], by rw [hU]; exact hPc, va_K.moved hW.alike hKc, hDc.weaken (fun _ _ _ _ => trivial), vk_R.warm hW hE_32, va_Z.moved hW.alike (by rw [hU]; exact (hE_10.kept hS.2.1).narrow hFc), va_OF.moved hW.alike (by rw [hU]; exact (hE_34.kept hS.2.1).narrow hFc), va_O.moved hW.alike (by rw [hU]; exact (hE_33.kept hS.2.1).narrow hFc), va_OF.moved hW.alike (by rw [hU]; exact (hE_35.kept hS.2.1).narrow hFc), va_T.moved hW.alike (by rw [hU]; exact (hE_36.kept hS.2.1).narrow hFc)⟩⟩ rfl rfl hl.1 rfl (lv_room (Nat.le_of_ble_eq_true rfl)) dX4_readCondition_41 ⟨Nat.le_of_ble_eq_true rfl, Nat.le_of_ble_eq_true rfl⟩) hS (fun q _ h => hFc q h) hFc (fun u t H1 locs ht hvm hw hB hz1 hk1 hS => ?_)
        obtain ⟨x_35, x_36, x_37, w_38⟩ := u
        obtain ⟨hP1, hK1, hD1⟩ := hB
        rw [ht] at hP1
        obtain ⟨hP, hD⟩ := va_join (wr := []) (w1 := (wd_c_X4_readUnit_4 h1 h1_0 h1_f1 x_35 x_36 h1_0 h1_0k h1_0c h0 h0_0 x_37 h0_2 h0_0 h0_0k w_38)) hP hD [0, 1, 2, 3] [] rfl rfl (by decide) (by decide) hk1 hFc hP1 hD1
        have hP := hP.sub (ws' := (wd_c_X4_readCondition_3 h1 h1_0 h1_f1 x_35 x_36 h1_0 h1_0k h1_0c h0 h0_0 x_37 h0_2 h0_0 h0_0k w_38)) [0, 1, 2, 3] rfl
        have hD := hD.sub (ws' := (wd_c_X4_readCondition_3 h1 h1_0 h1_f1 x_35 x_36 h1_0 h1_0k h1_0c h0 h0_0 x_37 h0_2 h0_0 h0_0k w_38)) [0, 1, 2, 3] (by decide) rfl
        generalize H1 = H at hP hS ⊢
        rcases hw with ⟨h_39, h_40, h_41⟩
        refine lv_iload hx hb dX4_readCondition_44 (lv_at hl 2 rfl) ?_
        refine lv_if_eq (tgt := 55) hx hb dX4_readCondition_46 rfl (fun c_42 => ?_) (fun c_42 => ?_)
        · have g_43 : RG j9_l4 0 0 := RG_eq1 g_j9_l4 (RG_k 0 0 rfl) c_42 (by decide)
          exact hU _ _ _ (J55 x_35 x_36 x_37 w_38 g_h0_f1 g_h1_f1 g_h1_f2 g_h1_f3 h_41 h_39 h_40 g_j9_h0_f1 g_j9_h1_f2 g_j9_h1_f3 (RG_w g_43 (by decide)) g_j9_l5 g_j9_l6 _ _ _ hP hD hS (lv_sub hl [0, 1, 3, 4, 5, 6] rfl))
        · have g_44 : RG j9_l4 1 1 := RG_ne1 g_j9_l4 (q := 0) rfl c_42 (by decide)
          refine lv_aload_n hx hb dX4_readCondition_49 rfl (lv_at hl 3 rfl) ?_
          refine lv_bipush (v := (-38)) hx hb dX4_readCondition_50 kc_bipush_m38 ?_
          have hPc := hP.sub (ws' := (wd_c_X4_emit h0 h0_0 x_37 h0_2 h0_0 h0_0k w_38)) [2, 3] rfl
          have hDc := hD.sub (ws' := (wd_c_X4_emit h0 h0_0 x_37 h0_2 h0_0 h0_0k w_38)) [2, 3] (by decide) rfl
          have hKc := hK.sub (tys' := [(h0_0k, .int)]) [1] rfl
          have hFc := va_free (wc := (wd_c_X4_emit h0 h0_0 x_37 h0_2 h0_0 h0_0k w_38)) hD hS hA [2, 3] rfl
          refine va_callv (va_runV (As := [.int (-38)]) (rest := []) ⟨hx, hb, hml, hown, hts⟩ (c_X4_emit l dC dI H.size h0 (-38) h0_0 x_37 h0_2 h0_0k w_38 h_41) (cwV 1 hts gf_c_X4_readCondition_3_c_X4_emit rfl rfl rfl (by decide +kernel) ⟨Nat.le_of_ble_eq_true rfl, Nat.le_of_ble_eq_true rfl⟩) ⟨fun a U g mk q => by obtain ⟨q0, q1, qP, qK, qD⟩ := q; exact ⟨q0, q1, qP, va_K.moved (u := U) (U := U.calling g mk a) (Vm.Alike.refl U.vm) qK, qD⟩, va_recv hKc hPc (ci := 4) (q0 := 0) rfl rfl, fun U hU hW => ⟨rfl, by rw [hU], by rw [hU]; exact hPc, va_K.moved hW.alike hKc, hDc.weaken (fun _ _ _ _ => trivial)⟩⟩ rfl rfl hl.1 rfl (lv_room (Nat.le_of_ble_eq_true rfl)) dX4_readCondition_52 ⟨Nat.le_of_ble_eq_true rfl, Nat.le_of_ble_eq_true rfl⟩) hS (fun q _ h => hFc q h) hFc (fun u t H1 locs ht hvm hw hB hz1 hk1 hS => ?_)
          obtain ⟨x_46, w_47⟩ := u
          obtain ⟨hP1, hK1, hD1⟩ := hB
          rw [ht] at hP1
          obtain ⟨hP, hD⟩ := va_join (wr := [(h1, .inr (9, [.ref h1_0, .int h1_f1, .int x_35, .int x_36])), (h1_0, .inl (h1_0k, 240, .inl h1_0c))]) (w1 := (wd_c_X4_emit h0 h0_0 x_46 h0_2 h0_0 h0_0k w_47)) hP hD [2, 3] [0, 1] rfl rfl (by decide) (by decide) hk1 hFc hP1 hD1
          have hP := hP.sub (ws' := (wd_c_X4_readCondition_3 h1 h1_0 h1_f1 x_35 x_36 h1_0 h1_0k h1_0c h0 h0_0 x_46 h0_2 h0_0 h0_0k w_47)) [0, 1, 2, 3] rfl
          have hD := hD.sub (ws' := (wd_c_X4_readCondition_3 h1 h1_0 h1_f1 x_35 x_36 h1_0 h1_0k h1_0c h0 h0_0 x_46 h0_2 h0_0 h0_0k w_47)) [0, 1, 2, 3] (by decide) rfl
          generalize H1 = H at hP hS ⊢
          have h_48 := hw
          exact hU _ _ _ (J55 x_35 x_36 x_46 w_47 g_h0_f1 g_h1_f1 g_h1_f2 g_h1_f3 (RG_w h_48 (by decide)) h_39 h_40 g_j9_h0_f1 g_j9_h1_f2 g_j9_h1_f3 (RG_w g_44 (by decide)) g_j9_l5 g_j9_l6 _ _ _ hP hD hS (lv_sub hl [0, 1, 3, 4, 5, 6] rfl))
      have J40 : ∀ (g_h0_f1 : RG h0_f1 0 240) (g_h1_f1 : RG h1_f1 0 240) (g_h1_f2 : RG h1_f2 0 240) (g_h1_f3 : RG h1_f3 (-1) 240) (g_j9_h0_f1 : RG j9_h0_f1 0 240) (g_j9_h1_f2 : RG j9_h1_f2 0 240) (g_j9_h1_f3 : RG j9_h1_f3 (-1) (-1)) (g_j9_l4 : RG j9_l4 0 1) (g_j9_l5 : RG j9_l5 0 1) (g_j9_l6 : RG j9_l6 0 239) (H : Heap) (locs : List Loc) (ls : Array Slot) (hP : va_P (dC, dI) vwCl (wd_c_X4_readCondition_3 h1 h1_0 h1_f1 j9_h1_f2 j9_h1_f3 h1_0 h1_0k h1_0c h0 h0_0 j9_h0_f1 h0_2 h0_0 h0_0k j9_h0_0c) H) (hD : va_D A (wd_c_X4_readCondition_3 h1 h1_0 h1_f1 j9_h1_f2 j9_h1_f3 h1_0 h1_0k h1_0c h0 h0_0 j9_h0_f1 h0_2 h0_0 h0_0k j9_h0_0c)) (hS : va_S A s.heap H locs) (hl : lv_has ls 7 [(6, .int j9_l6), (5, .int j9_l5), (4, .int j9_l4), (0, .ref h0), (1, .ref h1), (2, .int 3), (3, .int 0)]), G H locs (F0 m 40 ls [.int 3, .ref h1, .ref h0]) := by
        intro g_h0_f1 g_h1_f1 g_h1_f2 g_h1_f3 g_j9_h0_f1 g_j9_h1_f2 g_j9_h1_f3 g_j9_l4 g_j9_l5 g_j9_l6 H locs ls hP hD hS hl
        refine hG _ _ _ ?_
        refine lv_iconst (v := 0) hx hb dX4_readCondition_40 kc_iconst_0 ?_
        exact hU _ _ _ (J41 g_h0_f1 g_h1_f1 g_h1_f2 g_h1_f3 g_j9_h0_f1 g_j9_h1_f2 g_j9_h1_f3 g_j9_l4 g_j9_l5 g_j9_l6 _ _ _ hP hD hS (lv_sub hl [0, 1, 2, 3, 4, 5, 6] rfl))
      refine hG _ _ _ ?_
      refine lv_iload hx hb dX4_readCondition_9 (lv_at hl 0 rfl) ?_
      refine lv_sipush (v := 240) hx hb dX4_readCondition_11 kc_sipush_240 ?_
      refine lv_icmp_ge (tgt := 99) hx hb dX4_readCondition_14 rfl (fun c_49 => ?_) (fun c_49 => ?_)
      · have g_50 : RG j9_l6 240 240 := RG_le2 (RG_k 240 240 rfl) g_j9_l6 c_49 (by decide)
        have hK9 := hK.sub (tys' := []) [] rfl
        exact W.vret hx hb hr (fun t ht hW => ⟨⟨(j9_h1_f2, j9_h1_f3, j9_h0_f1, j9_h0_0c), rfl, ⟨g_j9_h1_f2, g_j9_h1_f3, g_j9_h0_f1⟩, by rw [ht]; exact hP, va_K.moved hW.alike hK9, hD⟩, hS.F ht⟩) hS.2.2 dX4_readCondition_99
      · have d_51 := Int32.not_le.mp c_49
        have g_52 : RG j9_l6 0 239 := RG_lt1 g_j9_l6 (RG_k 240 240 rfl) d_51 (by decide)
        refine lv_aload_n hx hb dX4_readCondition_17 rfl (lv_at hl 4 rfl) ?_
        have hPc := hP.sub (ws' := (wd_c_X9_isRight h1 h1_0 h1_f1 j9_h1_f2 j9_h1_f3)) [0] rfl
        have hDc := hD.sub (ws' := (wd_c_X9_isRight h1 h1_0 h1_f1 j9_h1_f2 j9_h1_f3)) [0] (by decide) rfl
        have hKc := hK.sub (tys' := []) [] rfl
        have hFc := va_free (wc := (wd_c_X9_isRight h1 h1_0 h1_f1 j9_h1_f2 j9_h1_f3)) hD hS hA [0] rfl
        refine va_calli (va_runV (As := []) (rest := []) ⟨hx, hb, hml, hown, hts⟩ (c_X9_isRight l dC dI H.size h1 h1_0 h1_f1 j9_h1_f2 j9_h1_f3 g_h1_f1 g_j9_h1_f2 g_j9_h1_f3) (cwV 0 hts gf_c_X4_readCondition_3_c_X9_isRight rfl rfl rfl (by decide +kernel) ⟨Nat.le_of_ble_eq_true rfl, Nat.le_of_ble_eq_true rfl⟩) ⟨fun a U g mk q => by obtain ⟨q0, q1, qP, qK, qD⟩ := q; exact ⟨q0, q1, qP, va_K.moved (u := U) (U := U.calling g mk a) (Vm.Alike.refl U.vm) qK, qD⟩, va_recv hKc hPc (ci := 9) (q0 := 0) rfl rfl, fun U hU hW => ⟨rfl, by rw [hU], by rw [hU]; exact hPc, va_K.moved hW.alike hKc, hDc.weaken (fun _ _ _ _ => trivial)⟩⟩ rfl rfl hl.1 rfl (lv_room (Nat.le_of_ble_eq_true rfl)) dX4_readCondition_18 ⟨Nat.le_of_ble_eq_true rfl, Nat.le_of_ble_eq_true rfl⟩) hS (fun q _ h => hFc q h) hFc (fun r_53 u t H1 locs ht hvm hw hB hz1 hk1 hS => ?_)
        obtain ⟨hP1, hK1, hD1⟩ := hB
        rw [ht] at hP1
        obtain ⟨hP, hD⟩ := va_join (wr := [(h1_0, .inl (h1_0k, 240, .inl h1_0c)), (h0, .inr (4, [.ref h0_0, .int j9_h0_f1, .ref h0_2])), (h0_0, .inl (h0_0k, 240, .inl j9_h0_0c))]) (w1 := (wd_c_X9_isRight h1 h1_0 h1_f1 j9_h1_f2 j9_h1_f3)) hP hD [0] [1, 2, 3] rfl rfl (by decide) (by decide) hk1 hFc hP1 hD1
        have hP := hP.sub (ws' := (wd_c_X4_readCondition_3 h1 h1_0 h1_f1 j9_h1_f2 j9_h1_f3 h1_0 h1_0k h1_0c h0 h0_0 j9_h0_f1 h0_2 h0_0 h0_0k j9_h0_0c)) [3, 0, 1, 2] rfl
        have hD := hD.sub (ws' := (wd_c_X4_readCondition_3 h1 h1_0 h1_f1 j9_h1_f2 j9_h1_f3 h1_0 h1_0k h1_0c h0 h0_0 j9_h0_f1 h0_2 h0_0 h0_0k j9_h0_0c)) [3, 0, 1, 2] (by decide) rfl
        generalize H1 = H at hP hS ⊢
        rcases hw with ⟨h_54, h_55⟩ | ⟨h_56, h_57⟩
        · rw [h_54]
          refine lv_if_eq (tgt := 99) hx hb dX4_readCondition_21 rfl (fun c_58 => ?_) (fun c_58 => absurd c_58 (by decide))
          have hK9 := hK.sub (tys' := []) [] rfl
          exact W.vret hx hb hr (fun t ht hW => ⟨⟨(j9_h1_f2, j9_h1_f3, j9_h0_f1, j9_h0_0c), rfl, ⟨g_j9_h1_f2, (RG_w h_55 (by decide)), g_j9_h0_f1⟩, by rw [ht]; exact hP, va_K.moved hW.alike hK9, hD⟩, hS.F ht⟩) hS.2.2 dX4_readCondition_99
        · rw [h_56]
          refine lv_if_eq (tgt := 99) hx hb dX4_readCondition_21 rfl (fun c_59 => absurd c_59 (by decide)) (fun c_59 => ?_)
          refine lv_aload_n hx hb dX4_readCondition_24 rfl (lv_at hl 3 rfl) ?_
          refine lv_aload_n hx hb dX4_readCondition_25 rfl (lv_at hl 4 rfl) ?_
          refine lv_iload_n hx hb dX4_readCondition_26 rfl (lv_at hl 5 rfl) ?_
          refine lv_iload_n hx hb dX4_readCondition_27 rfl (lv_at hl 6 rfl) ?_
          refine lv_if_eq (tgt := 40) hx hb dX4_readCondition_28 rfl (fun c_60 => ?_) (fun c_60 => absurd c_60 (by decide))
          exact hU _ _ _ (J40 g_h0_f1 g_h1_f1 g_h1_f2 g_h1_f3 g_j9_h0_f1 g_j9_h1_f2 h_57 g_j9_l4 g_j9_l5 g_52 _ _ _ hP hD hS (lv_sub hl [0, 1, 2, 3, 4, 5, 6] rfl))
  refine hG _ _ _ ?_
  refine lv_iconst (v := 0) hx hb dX4_readCondition_0 kc_iconst_0 ?_
  refine lv_istore (lv' := [(4, .int 0), (0, .ref h0), (1, .ref h1), (2, .int 3), (3, .int 0)]) hx hb dX4_readCondition_1 hl (Nat.le_of_ble_eq_true rfl) rfl (fun ls hl => ?_)
  refine lv_iconst (v := 0) hx hb dX4_readCondition_3 kc_iconst_0 ?_
  refine lv_istore (lv' := [(5, .int 0), (4, .int 0), (0, .ref h0), (1, .ref h1), (2, .int 3), (3, .int 0)]) hx hb dX4_readCondition_4 hl (Nat.le_of_ble_eq_true rfl) rfl (fun ls hl => ?_)
  refine lv_iconst (v := 0) hx hb dX4_readCondition_6 kc_iconst_0 ?_
  refine lv_istore (lv' := [(6, .int 0), (5, .int 0), (4, .int 0), (0, .ref h0), (1, .ref h1), (2, .int 3), (3, .int 0)]) hx hb dX4_readCondition_7 hl (Nat.le_of_ble_eq_true rfl) rfl (fun ls hl => ?_)
  exact hU _ _ _ (J9 _ 0 0 0 h1_f2 h1_f3 h0_f1 h0_0c (Nat.lt_succ_self _) g_h0_f1 g_h1_f1 g_h1_f2 g_h1_f3 g_h0_f1 g_h1_f2 g_h1_f3 (RG_w (RG_k 0 0 rfl) (by decide)) (RG_w (RG_k 0 0 rfl) (by decide)) (RG_w (RG_k 0 0 rfl) (by decide)) _ _ _ hP hD hS (lv_sub hl [0, 1, 2, 3, 4, 5, 6] rfl))
def wd_c_X4_readUnit_3 (a0 : Nat) (a1 : Nat) (a2 : Int32) (a3 : Int32) (a4 : Int32) (a5 : Nat) (a6 : ClassId) (a7 : Nat → Int32) (a8 : Nat) (a9 : Nat) (a10 : Int32) (a11 : Nat) (a12 : Nat) (a13 : ClassId) (a14 : Nat → Int32) : va_W := [(a0, .inr (9, [.ref a1, .int a2, .int a3, .int a4])), (a5, .inl (a6, 240, .inl a7)), (a8, .inr (4, [.ref a9, .int a10, .ref a11])), (a12, .inl (a13, 240, .inl a14))]
def wf_c_X4_readUnit_3 : List Cond := .code yX4_readUnit cX4_readUnit 5 none :: ([.methodLink RX4 41 yX9_peek, .instanceMethod yX9_peek, .selects RX9 yX9_peek yX9_peek, .initialized RX9, .code yX9_peek cX9_peek 1 (some .int), .fieldLink RX9 22 "BuoyVote$Tape" "at" "I", .fieldLink RX9 19 "BuoyVote$Tape" "length" "I", .fieldLink RX9 11 "BuoyVote$Tape" "bytes" "[I", .methodLink RX4 45 yX4_startsUnit, .static yX4_startsUnit, .initialized RX4, .code yX4_startsUnit cX4_startsUnit 1 (some .boolean), .methodLink RX4 63 yX9_take, .instanceMethod yX9_take, .selects RX9 yX9_take yX9_take, .code yX9_take cX9_take 2 (some .boolean), .fieldLink RX9 15 "BuoyVote$Tape" "wrong" "I", .methodLink RX9 29 yX9_peek, .methodLink RX4 37 yX9_expect, .instanceMethod yX9_expect, .selects RX9 yX9_expect yX9_expect, .code yX9_expect cX9_expect 2 none, .methodLink RX9 25 yX9_refuse, .instanceMethod yX9_refuse, .selects RX9 yX9_refuse yX9_refuse, .code yX9_refuse cX9_refuse 2 none, .methodLink RX4 56 yX4_readCondition, .instanceMethod yX4_readCondition, .selects RX4 yX4_readCondition yX4_readCondition, .code yX4_readCondition cX4_readCondition 7 none, .methodLink RX4 72 yX9_isRight, .instanceMethod yX9_isRight, .selects RX9 yX9_isRight yX9_isRight, .code yX9_isRight cX9_isRight 1 (some .boolean), .methodLink RX4 76 yX4_readUnit, .instanceMethod yX4_readUnit, .selects RX4 yX4_readUnit yX4_readUnit, .methodLink RX4 82 yX9_refuseHere, .instanceMethod yX9_refuseHere, .selects RX9 yX9_refuseHere yX9_refuseHere, .code yX9_refuseHere cX9_refuseHere 1 none, .methodLink RX4 49 yX4_readSum, .instanceMethod yX4_readSum, .selects RX4 yX4_readSum yX4_readSum, .code yX4_readSum cX4_readSum 6 none, .methodLink RX4 85 yX4_readAtom, .instanceMethod yX4_readAtom, .selects RX4 yX4_readAtom yX4_readAtom, .code yX4_readAtom cX4_readAtom 6 none, .methodLink RX4 93 yJ0_indexOf_0f7a4, .instanceMethod yJ0_indexOf_0f7a4, .selects RJ0 yJ0_indexOf_0f7a4 yJ0_indexOf_0f7a4, .initialized RJ0, .code yJ0_indexOf_0f7a4 cJ0_indexOf_0f7a4 2 (some .int), .methodLink RJ0 633 yJ0_indexOf_7cf53, .instanceMethod yJ0_indexOf_7cf53, .selects RJ0 yJ0_indexOf_7cf53 yJ0_indexOf_7cf53, .code yJ0_indexOf_7cf53 cJ0_indexOf_7cf53 3 (some .int), .methodLink RJ0 492 yJ0_isLatin1_aae02, .instanceMethod yJ0_isLatin1_aae02, .selects RJ0 yJ0_isLatin1_aae02 yJ0_isLatin1_aae02, .code yJ0_isLatin1_aae02 cJ0_isLatin1_aae02 1 (some .boolean), .fieldLink RJ0 38 "java/lang/String" "COMPACT_STRINGS" "Z", .fieldLink RJ0 15 "java/lang/String" "coder" "B", .fieldLink RJ0 9 "java/lang/String" "value" "[B", .methodLink RJ0 505 yJ0_length_8abf5, .instanceMethod yJ0_length_8abf5, .selects RJ0 yJ0_length_8abf5 yJ0_length_8abf5, .code yJ0_length_8abf5 cJ0_length_8abf5 1 (some .int), .methodLink RJ0 335 yJ0_coder_7d493, .instanceMethod yJ0_coder_7d493, .selects RJ0 yJ0_coder_7d493 yJ0_coder_7d493, .code yJ0_coder_7d493 cJ0_coder_7d493 1 (some .byte), .methodLink RJ0 637 yJ1_indexOf_4cfef, .static yJ1_indexOf_4cfef, .initialized RJ1, .code yJ1_indexOf_4cfef cJ1_indexOf_4cfef 4 (some .int), .methodLink RJ1 88 yJ1_canEncode_9a6ad, .static yJ1_canEncode_9a6ad, .code yJ1_canEncode_9a6ad cJ1_canEncode_9a6ad 1 (some .boolean), .methodLink RJ1 92 Lib.Math.max.name, .static Lib.Math.max.name, .initialized "java/lang/Math", .code Lib.Math.max.name Lib.Math.max.code 2 (some .int), .methodLink RJ1 38 Lib.Math.min.name, .static Lib.Math.min.name, .code Lib.Math.min.name Lib.Math.min.code 2 (some .int), .methodLink RJ1 95 yJ1_indexOfChar_4cfef, .static yJ1_indexOfChar_4cfef, .code yJ1_indexOfChar_4cfef cJ1_indexOfChar_4cfef 6 (some .int), .methodLink RX4 99 yX9_number, .instanceMethod yX9_number, .selects RX9 yX9_number yX9_number, .code yX9_number cX9_number 4 (some .int), .methodLink RX4 79 yX9_skip, .instanceMethod yX9_skip, .selects RX9 yX9_skip yX9_skip, .code yX9_skip cX9_skip 1 none, .methodLink RX4 60 yX4_emit, .instanceMethod yX4_emit, .selects RX4 yX4_emit yX4_emit, .code yX4_emit cX4_emit 2 none, .fieldLink RX4 20 "BuoyVote$Law" "length" "I", .fieldLink RX4 11 "BuoyVote$Law" "code" "[I", .methodLink RX4 88 yX9_takeEither, .instanceMethod yX9_takeEither, .selects RX9 yX9_takeEither yX9_takeEither, .code yX9_takeEither cX9_takeEither 4 (some .int), .methodLink RX4 53 yX4_isComparison, .static yX4_isComparison, .code yX4_isComparison cX4_isComparison 1 (some .boolean)] ++ wsX90 ++ wsX40)
theorem iw_c_X4_readUnit_3_X9 : ∀ w ∈ wsX90, w ∈ wf_c_X4_readUnit_3 := fun w h => List.mem_cons_of_mem _ (List.mem_append_left _ (List.mem_append_right _ h))
theorem iw_c_X4_readUnit_3_X4 : ∀ w ∈ wsX40, w ∈ wf_c_X4_readUnit_3 := fun w h => List.mem_cons_of_mem _ (List.mem_append_right _ h)
set_option maxRecDepth 20000 in
theorem gf_c_X4_readUnit_3_c_X9_peek : GoodIn wf_c_X4_readUnit_3 (wsV RX4 41 RX9 yX9_peek wf_c_X9_peek) := goodIn_app (gi_cons (j := 1) rfl rfl (gi_cons (j := 2) rfl rfl (gi_cons (j := 3) rfl rfl (gi_cons (j := 4) rfl rfl (gi_nil))))) (gi_cons (j := 5) rfl rfl (goodIn_app (gi_cons (j := 6) rfl rfl (gi_cons (j := 7) rfl rfl (gi_cons (j := 8) rfl rfl (gi_nil)))) (goodIn_sub iw_c_X4_readUnit_3_X9 gw_X9)))
set_option maxRecDepth 20000 in
theorem gf_c_X4_readUnit_3_c_X4_isComparison : GoodIn wf_c_X4_readUnit_3 (va_wsS RX4 53 yX4_isComparison wf_c_X4_isComparison) := goodIn_app (gi_cons (j := 109) rfl rfl (gi_cons (j := 110) rfl rfl (gi_cons (j := 11) rfl rfl (gi_nil)))) (gi_cons (j := 111) rfl rfl (gi_nil))
set_option maxRecDepth 20000 in
theorem gf_c_X4_readUnit_3_c_X9_refuseHere : GoodIn wf_c_X4_readUnit_3 (wsV RX4 82 RX9 yX9_refuseHere wf_c_X9_refuseHere) := goodIn_app (gi_cons (j := 38) rfl rfl (gi_cons (j := 39) rfl rfl (gi_cons (j := 40) rfl rfl (gi_cons (j := 4) rfl rfl (gi_nil))))) (gi_cons (j := 41) rfl rfl (goodIn_app (gi_cons (j := 6) rfl rfl (gi_cons (j := 23) rfl rfl (gi_cons (j := 24) rfl rfl (gi_cons (j := 25) rfl rfl (gi_cons (j := 4) rfl rfl (gi_cons (j := 26) rfl rfl (gi_cons (j := 17) rfl rfl (gi_nil)))))))) (goodIn_sub iw_c_X4_readUnit_3_X9 gw_X9)))
set_option maxRecDepth 20000 in
theorem gf_c_X4_readUnit_3_c_X4_isComparison_1 : GoodIn wf_c_X4_readUnit_3 (va_wsS RX4 53 yX4_isComparison wf_c_X4_isComparison_1) := goodIn_app (gi_cons (j := 109) rfl rfl (gi_cons (j := 110) rfl rfl (gi_cons (j := 11) rfl rfl (gi_nil)))) (gi_cons (j := 111) rfl rfl (gi_nil))
set_option maxRecDepth 20000 in
theorem gf_c_X4_readUnit_3_c_X9_skip : GoodIn wf_c_X4_readUnit_3 (wsV RX4 79 RX9 yX9_skip wf_c_X9_skip) := goodIn_app (gi_cons (j := 95) rfl rfl (gi_cons (j := 96) rfl rfl (gi_cons (j := 97) rfl rfl (gi_cons (j := 4) rfl rfl (gi_nil))))) (gi_cons (j := 98) rfl rfl (goodIn_app (gi_cons (j := 6) rfl rfl (gi_nil)) (goodIn_sub iw_c_X4_readUnit_3_X9 gw_X9)))
set_option maxRecDepth 20000 in
theorem gf_c_X4_readUnit_3_c_X4_readSum_2 : GoodIn wf_c_X4_readUnit_3 (wsV RX4 49 RX4 yX4_readSum wf_c_X4_readSum_2) := goodIn_app (gi_cons (j := 42) rfl rfl (gi_cons (j := 43) rfl rfl (gi_cons (j := 44) rfl rfl (gi_cons (j := 11) rfl rfl (gi_nil))))) (gi_cons (j := 45) rfl rfl (goodIn_app (goodIn_app (gi_cons (j := 31) rfl rfl (gi_cons (j := 32) rfl rfl (gi_cons (j := 33) rfl rfl (gi_cons (j := 4) rfl rfl (gi_cons (j := 34) rfl rfl (gi_cons (j := 17) rfl rfl (gi_cons (j := 46) rfl rfl (gi_cons (j := 47) rfl rfl (gi_cons (j := 48) rfl rfl (gi_cons (j := 11) rfl rfl (gi_cons (j := 49) rfl rfl (gi_cons (j := 1) rfl rfl (gi_cons (j := 2) rfl rfl (gi_cons (j := 3) rfl rfl (gi_cons (j := 5) rfl rfl (gi_cons (j := 6) rfl rfl (gi_cons (j := 7) rfl rfl (gi_cons (j := 8) rfl rfl (gi_cons (j := 50) rfl rfl (gi_cons (j := 51) rfl rfl (gi_cons (j := 52) rfl rfl (gi_cons (j := 53) rfl rfl (gi_cons (j := 54) rfl rfl (gi_cons (j := 55) rfl rfl (gi_cons (j := 56) rfl rfl (gi_cons (j := 57) rfl rfl (gi_cons (j := 58) rfl rfl (gi_cons (j := 59) rfl rfl (gi_cons (j := 60) rfl rfl (gi_cons (j := 61) rfl rfl (gi_cons (j := 62) rfl rfl (gi_cons (j := 63) rfl rfl (gi_cons (j := 64) rfl rfl (gi_cons (j := 65) rfl rfl (gi_cons (j := 66) rfl rfl (gi_cons (j := 67) rfl rfl (gi_cons (j := 68) rfl rfl (gi_cons (j := 69) rfl rfl (gi_cons (j := 70) rfl rfl (gi_cons (j := 71) rfl rfl (gi_cons (j := 72) rfl rfl (gi_cons (j := 73) rfl rfl (gi_cons (j := 74) rfl rfl (gi_cons (j := 75) rfl rfl (gi_cons (j := 76) rfl rfl (gi_cons (j := 77) rfl rfl (gi_cons (j := 78) rfl rfl (gi_cons (j := 79) rfl rfl (gi_cons (j := 80) rfl rfl (gi_cons (j := 81) rfl rfl (gi_cons (j := 82) rfl rfl (gi_cons (j := 83) rfl rfl (gi_cons (j := 84) rfl rfl (gi_cons (j := 85) rfl rfl (gi_cons (j := 86) rfl rfl (gi_cons (j := 87) rfl rfl (gi_cons (j := 88) rfl rfl (gi_cons (j := 89) rfl rfl (gi_cons (j := 90) rfl rfl (gi_cons (j := 91) rfl rfl (gi_cons (j := 92) rfl rfl (gi_cons (j := 93) rfl rfl (gi_cons (j := 94) rfl rfl (gi_cons (j := 38) rfl rfl (gi_cons (j := 39) rfl rfl (gi_cons (j := 40) rfl rfl (gi_cons (j := 41) rfl rfl (gi_cons (j := 23) rfl rfl (gi_cons (j := 24) rfl rfl (gi_cons (j := 25) rfl rfl (gi_cons (j := 26) rfl rfl (gi_cons (j := 95) rfl rfl (gi_cons (j := 96) rfl rfl (gi_cons (j := 97) rfl rfl (gi_cons (j := 98) rfl rfl (gi_cons (j := 42) rfl rfl (gi_cons (j := 43) rfl rfl (gi_cons (j := 44) rfl rfl (gi_cons (j := 99) rfl rfl (gi_cons (j := 100) rfl rfl (gi_cons (j := 101) rfl rfl (gi_cons (j := 102) rfl rfl (gi_cons (j := 103) rfl rfl (gi_cons (j := 104) rfl rfl (gi_cons (j := 105) rfl rfl (gi_cons (j := 106) rfl rfl (gi_cons (j := 107) rfl rfl (gi_cons (j := 108) rfl rfl (gi_cons (j := 18) rfl rfl (gi_cons (j := 19) rfl rfl (gi_cons (j := 20) rfl rfl (gi_cons (j := 21) rfl rfl (gi_cons (j := 22) rfl rfl (gi_nil)))))))))))))))))))))))))))))))))))))))))))))))))))))))))))))))))))))))))))))))))))))))))))))) (goodIn_sub iw_c_X4_readUnit_3_X9 gw_X9)) (goodIn_sub iw_c_X4_readUnit_3_X4 gw_X4)))
set_option maxRecDepth 20000 in
theorem gf_c_X4_readUnit_3_c_X4_emit : GoodIn wf_c_X4_readUnit_3 (wsV RX4 60 RX4 yX4_emit wf_c_X4_emit) := goodIn_app (gi_cons (j := 99) rfl rfl (gi_cons (j := 100) rfl rfl (gi_cons (j := 101) rfl rfl (gi_cons (j := 11) rfl rfl (gi_nil))))) (gi_cons (j := 102) rfl rfl (goodIn_app (gi_cons (j := 103) rfl rfl (gi_cons (j := 104) rfl rfl (gi_nil))) (goodIn_sub iw_c_X4_readUnit_3_X4 gw_X4)))
set_option maxRecDepth 20000 in
theorem gf_c_X4_readUnit_3_c_X4_startsUnit : GoodIn wf_c_X4_readUnit_3 (va_wsS RX4 45 yX4_startsUnit wf_c_X4_startsUnit) := goodIn_app (gi_cons (j := 9) rfl rfl (gi_cons (j := 10) rfl rfl (gi_cons (j := 11) rfl rfl (gi_nil)))) (gi_cons (j := 12) rfl rfl (gi_nil))
set_option maxRecDepth 20000 in
theorem gf_c_X4_readUnit_3_c_X4_startsUnit_1 : GoodIn wf_c_X4_readUnit_3 (va_wsS RX4 45 yX4_startsUnit wf_c_X4_startsUnit_1) := goodIn_app (gi_cons (j := 9) rfl rfl (gi_cons (j := 10) rfl rfl (gi_cons (j := 11) rfl rfl (gi_nil)))) (gi_cons (j := 12) rfl rfl (gi_nil))
set_option maxRecDepth 20000 in
theorem gf_c_X4_readUnit_3_c_X9_take : GoodIn wf_c_X4_readUnit_3 (wsV RX4 63 RX9 yX9_take wf_c_X9_take) := goodIn_app (gi_cons (j := 13) rfl rfl (gi_cons (j := 14) rfl rfl (gi_cons (j := 15) rfl rfl (gi_cons (j := 4) rfl rfl (gi_nil))))) (gi_cons (j := 16) rfl rfl (goodIn_app (gi_cons (j := 17) rfl rfl (gi_cons (j := 18) rfl rfl (gi_cons (j := 2) rfl rfl (gi_cons (j := 3) rfl rfl (gi_cons (j := 4) rfl rfl (gi_cons (j := 5) rfl rfl (gi_cons (j := 6) rfl rfl (gi_cons (j := 7) rfl rfl (gi_cons (j := 8) rfl rfl (gi_nil)))))))))) (goodIn_sub iw_c_X4_readUnit_3_X9 gw_X9)))
set_option maxRecDepth 20000 in
theorem gf_c_X4_readUnit_3_c_X9_expect_1 : GoodIn wf_c_X4_readUnit_3 (wsV RX4 37 RX9 yX9_expect wf_c_X9_expect_1) := goodIn_app (gi_cons (j := 19) rfl rfl (gi_cons (j := 20) rfl rfl (gi_cons (j := 21) rfl rfl (gi_cons (j := 4) rfl rfl (gi_nil))))) (gi_cons (j := 22) rfl rfl (goodIn_app (gi_cons (j := 17) rfl rfl (gi_cons (j := 18) rfl rfl (gi_cons (j := 2) rfl rfl (gi_cons (j := 3) rfl rfl (gi_cons (j := 4) rfl rfl (gi_cons (j := 5) rfl rfl (gi_cons (j := 6) rfl rfl (gi_cons (j := 7) rfl rfl (gi_cons (j := 8) rfl rfl (gi_cons (j := 23) rfl rfl (gi_cons (j := 24) rfl rfl (gi_cons (j := 25) rfl rfl (gi_cons (j := 26) rfl rfl (gi_nil)))))))))))))) (goodIn_sub iw_c_X4_readUnit_3_X9 gw_X9)))
set_option maxRecDepth 20000 in
theorem gf_c_X4_readUnit_3_c_X4_readCondition_3 : GoodIn wf_c_X4_readUnit_3 (wsV RX4 56 RX4 yX4_readCondition wf_c_X4_readCondition_3) := goodIn_app (gi_cons (j := 27) rfl rfl (gi_cons (j := 28) rfl rfl (gi_cons (j := 29) rfl rfl (gi_cons (j := 11) rfl rfl (gi_nil))))) (gi_cons (j := 30) rfl rfl (goodIn_app (goodIn_app (gi_cons (j := 31) rfl rfl (gi_cons (j := 32) rfl rfl (gi_cons (j := 33) rfl rfl (gi_cons (j := 4) rfl rfl (gi_cons (j := 34) rfl rfl (gi_cons (j := 17) rfl rfl (gi_cons (j := 35) rfl rfl (gi_cons (j := 36) rfl rfl (gi_cons (j := 37) rfl rfl (gi_cons (j := 11) rfl rfl (gi_cons (j := 0) rfl rfl (gi_cons (j := 1) rfl rfl (gi_cons (j := 2) rfl rfl (gi_cons (j := 3) rfl rfl (gi_cons (j := 5) rfl rfl (gi_cons (j := 6) rfl rfl (gi_cons (j := 7) rfl rfl (gi_cons (j := 8) rfl rfl (gi_cons (j := 9) rfl rfl (gi_cons (j := 10) rfl rfl (gi_cons (j := 12) rfl rfl (gi_cons (j := 13) rfl rfl (gi_cons (j := 14) rfl rfl (gi_cons (j := 15) rfl rfl (gi_cons (j := 16) rfl rfl (gi_cons (j := 18) rfl rfl (gi_cons (j := 19) rfl rfl (gi_cons (j := 20) rfl rfl (gi_cons (j := 21) rfl rfl (gi_cons (j := 22) rfl rfl (gi_cons (j := 23) rfl rfl (gi_cons (j := 24) rfl rfl (gi_cons (j := 25) rfl rfl (gi_cons (j := 26) rfl rfl (gi_cons (j := 27) rfl rfl (gi_cons (j := 28) rfl rfl (gi_cons (j := 29) rfl rfl (gi_cons (j := 38) rfl rfl (gi_cons (j := 39) rfl rfl (gi_cons (j := 40) rfl rfl (gi_cons (j := 41) rfl rfl (gi_cons (j := 42) rfl rfl (gi_cons (j := 43) rfl rfl (gi_cons (j := 44) rfl rfl (gi_cons (j := 45) rfl rfl (gi_cons (j := 46) rfl rfl (gi_cons (j := 47) rfl rfl (gi_cons (j := 48) rfl rfl (gi_cons (j := 49) rfl rfl (gi_cons (j := 50) rfl rfl (gi_cons (j := 51) rfl rfl (gi_cons (j := 52) rfl rfl (gi_cons (j := 53) rfl rfl (gi_cons (j := 54) rfl rfl (gi_cons (j := 55) rfl rfl (gi_cons (j := 56) rfl rfl (gi_cons (j := 57) rfl rfl (gi_cons (j := 58) rfl rfl (gi_cons (j := 59) rfl rfl (gi_cons (j := 60) rfl rfl (gi_cons (j := 61) rfl rfl (gi_cons (j := 62) rfl rfl (gi_cons (j := 63) rfl rfl (gi_cons (j := 64) rfl rfl (gi_cons (j := 65) rfl rfl (gi_cons (j := 66) rfl rfl (gi_cons (j := 67) rfl rfl (gi_cons (j := 68) rfl rfl (gi_cons (j := 69) rfl rfl (gi_cons (j := 70) rfl rfl (gi_cons (j := 71) rfl rfl (gi_cons (j := 72) rfl rfl (gi_cons (j := 73) rfl rfl (gi_cons (j := 74) rfl rfl (gi_cons (j := 75) rfl rfl (gi_cons (j := 76) rfl rfl (gi_cons (j := 77) rfl rfl (gi_cons (j := 78) rfl rfl (gi_cons (j := 79) rfl rfl (gi_cons (j := 80) rfl rfl (gi_cons (j := 81) rfl rfl (gi_cons (j := 82) rfl rfl (gi_cons (j := 83) rfl rfl (gi_cons (j := 84) rfl rfl (gi_cons (j := 85) rfl rfl (gi_cons (j := 86) rfl rfl (gi_cons (j := 87) rfl rfl (gi_cons (j := 88) rfl rfl (gi_cons (j := 89) rfl rfl (gi_cons (j := 90) rfl rfl (gi_cons (j := 91) rfl rfl (gi_cons (j := 92) rfl rfl (gi_cons (j := 93) rfl rfl (gi_cons (j := 94) rfl rfl (gi_cons (j := 95) rfl rfl (gi_cons (j := 96) rfl rfl (gi_cons (j := 97) rfl rfl (gi_cons (j := 98) rfl rfl (gi_cons (j := 99) rfl rfl (gi_cons (j := 100) rfl rfl (gi_cons (j := 101) rfl rfl (gi_cons (j := 102) rfl rfl (gi_cons (j := 103) rfl rfl (gi_cons (j := 104) rfl rfl (gi_cons (j := 105) rfl rfl (gi_cons (j := 106) rfl rfl (gi_cons (j := 107) rfl rfl (gi_cons (j := 108) rfl rfl (gi_cons (j := 109) rfl rfl (gi_cons (j := 110) rfl rfl (gi_cons (j := 111) rfl rfl (gi_nil)))))))))))))))))))))))))))))))))))))))))))))))))))))))))))))))))))))))))))))))))))))))))))))))))))))))))))))))) (goodIn_sub iw_c_X4_readUnit_3_X9 gw_X9)) (goodIn_sub iw_c_X4_readUnit_3_X4 gw_X4)))
set_option maxRecDepth 20000 in
theorem gf_c_X4_readUnit_3_c_X4_readUnit_4 : GoodIn wf_c_X4_readUnit_3 (wsV RX4 76 RX4 yX4_readUnit wf_c_X4_readUnit_4) := goodIn_app (gi_cons (j := 35) rfl rfl (gi_cons (j := 36) rfl rfl (gi_cons (j := 37) rfl rfl (gi_cons (j := 11) rfl rfl (gi_nil))))) (gi_cons (j := 0) rfl rfl (goodIn_app (goodIn_app (gi_cons (j := 1) rfl rfl (gi_cons (j := 2) rfl rfl (gi_cons (j := 3) rfl rfl (gi_cons (j := 4) rfl rfl (gi_cons (j := 5) rfl rfl (gi_cons (j := 6) rfl rfl (gi_cons (j := 7) rfl rfl (gi_cons (j := 8) rfl rfl (gi_cons (j := 9) rfl rfl (gi_cons (j := 10) rfl rfl (gi_cons (j := 11) rfl rfl (gi_cons (j := 12) rfl rfl (gi_cons (j := 13) rfl rfl (gi_cons (j := 14) rfl rfl (gi_cons (j := 15) rfl rfl (gi_cons (j := 16) rfl rfl (gi_cons (j := 17) rfl rfl (gi_cons (j := 18) rfl rfl (gi_cons (j := 19) rfl rfl (gi_cons (j := 20) rfl rfl (gi_cons (j := 21) rfl rfl (gi_cons (j := 22) rfl rfl (gi_cons (j := 23) rfl rfl (gi_cons (j := 24) rfl rfl (gi_cons (j := 25) rfl rfl (gi_cons (j := 26) rfl rfl (gi_cons (j := 27) rfl rfl (gi_cons (j := 28) rfl rfl (gi_cons (j := 29) rfl rfl (gi_cons (j := 30) rfl rfl (gi_cons (j := 31) rfl rfl (gi_cons (j := 32) rfl rfl (gi_cons (j := 33) rfl rfl (gi_cons (j := 34) rfl rfl (gi_cons (j := 35) rfl rfl (gi_cons (j := 36) rfl rfl (gi_cons (j := 37) rfl rfl (gi_cons (j := 38) rfl rfl (gi_cons (j := 39) rfl rfl (gi_cons (j := 40) rfl rfl (gi_cons (j := 41) rfl rfl (gi_cons (j := 42) rfl rfl (gi_cons (j := 43) rfl rfl (gi_cons (j := 44) rfl rfl (gi_cons (j := 45) rfl rfl (gi_cons (j := 46) rfl rfl (gi_cons (j := 47) rfl rfl (gi_cons (j := 48) rfl rfl (gi_cons (j := 49) rfl rfl (gi_cons (j := 50) rfl rfl (gi_cons (j := 51) rfl rfl (gi_cons (j := 52) rfl rfl (gi_cons (j := 53) rfl rfl (gi_cons (j := 54) rfl rfl (gi_cons (j := 55) rfl rfl (gi_cons (j := 56) rfl rfl (gi_cons (j := 57) rfl rfl (gi_cons (j := 58) rfl rfl (gi_cons (j := 59) rfl rfl (gi_cons (j := 60) rfl rfl (gi_cons (j := 61) rfl rfl (gi_cons (j := 62) rfl rfl (gi_cons (j := 63) rfl rfl (gi_cons (j := 64) rfl rfl (gi_cons (j := 65) rfl rfl (gi_cons (j := 66) rfl rfl (gi_cons (j := 67) rfl rfl (gi_cons (j := 68) rfl rfl (gi_cons (j := 69) rfl rfl (gi_cons (j := 70) rfl rfl (gi_cons (j := 71) rfl rfl (gi_cons (j := 72) rfl rfl (gi_cons (j := 73) rfl rfl (gi_cons (j := 74) rfl rfl (gi_cons (j := 75) rfl rfl (gi_cons (j := 76) rfl rfl (gi_cons (j := 77) rfl rfl (gi_cons (j := 78) rfl rfl (gi_cons (j := 79) rfl rfl (gi_cons (j := 80) rfl rfl (gi_cons (j := 81) rfl rfl (gi_cons (j := 82) rfl rfl (gi_cons (j := 83) rfl rfl (gi_cons (j := 84) rfl rfl (gi_cons (j := 85) rfl rfl (gi_cons (j := 86) rfl rfl (gi_cons (j := 87) rfl rfl (gi_cons (j := 88) rfl rfl (gi_cons (j := 89) rfl rfl (gi_cons (j := 90) rfl rfl (gi_cons (j := 91) rfl rfl (gi_cons (j := 92) rfl rfl (gi_cons (j := 93) rfl rfl (gi_cons (j := 94) rfl rfl (gi_cons (j := 95) rfl rfl (gi_cons (j := 96) rfl rfl (gi_cons (j := 97) rfl rfl (gi_cons (j := 98) rfl rfl (gi_cons (j := 99) rfl rfl (gi_cons (j := 100) rfl rfl (gi_cons (j := 101) rfl rfl (gi_cons (j := 102) rfl rfl (gi_cons (j := 103) rfl rfl (gi_cons (j := 104) rfl rfl (gi_cons (j := 105) rfl rfl (gi_cons (j := 106) rfl rfl (gi_cons (j := 107) rfl rfl (gi_cons (j := 108) rfl rfl (gi_cons (j := 109) rfl rfl (gi_cons (j := 110) rfl rfl (gi_cons (j := 111) rfl rfl (gi_nil)))))))))))))))))))))))))))))))))))))))))))))))))))))))))))))))))))))))))))))))))))))))))))))))))))))))))))))))) (goodIn_sub iw_c_X4_readUnit_3_X9 gw_X9)) (goodIn_sub iw_c_X4_readUnit_3_X4 gw_X4)))
set_option maxHeartbeats 4000000 in
set_option maxRecDepth 100000 in
theorem c_X4_readUnit_3 (l : Launch) (dC : Nat → ClassId) (dI : Nat → Nat → Nat) (sz : Nat) (h0 : Nat) (h1 : Nat) (h1_0 : Nat) (h1_f1 : Int32) (h1_f2 : Int32) (h1_f3 : Int32) (h1_0k : ClassId) (h1_0c : Nat → Int32) (h0_0 : Nat) (h0_f1 : Int32) (h0_2 : Nat) (h0_0k : ClassId) (h0_0c : Nat → Int32) (ts4 : Nat) (tv4 : Nat) (g_h1_f1 : RG h1_f1 0 240) (g_h1_f2 : RG h1_f2 0 240) (g_h1_f3 : RG h1_f3 (-1) 240) (a_h1_0c : AI h1_0c 0 255) (g_h0_f1 : RG h0_f1 0 240) : Met l yX4_readUnit wf_c_X4_readUnit_3 ({ frames := 14, cells := 0, slots := 0, locals := 341 }) (va_Pc [.ref h0, .ref h1, .int 2, .int 0] (fun U => U.heap.size = sz ∧ va_P (dC, dI) vwCl (wd_c_X4_readUnit_3 h1 h1_0 h1_f1 h1_f2 h1_f3 h1_0 h1_0k h1_0c h0 h0_0 h0_f1 h0_2 h0_0 h0_0k h0_0c) U.heap ∧ va_K (dC, dI) vwCl [(h1_0k, .int), (h0_0k, .int)] U ∧ va_D (fun _ => True) (wd_c_X4_readUnit_3 h1 h1_0 h1_f1 h1_f2 h1_f3 h1_0 h1_0k h1_0c h0 h0_0 h0_f1 h0_2 h0_0 h0_0k h0_0c) ∧ vk_R RX4 91 "vlrdph" ts4 U ∧ va_Z "java/lang/String" "COMPACT_STRINGS" "Z" (.int 1) (va_A (wd_c_X4_readUnit_3 h1 h1_0 h1_f1 h1_f2 h1_f3 h1_0 h1_0k h1_0c h0 h0_0 h0_f1 h0_2 h0_0 h0_0k h0_0c) sz) U U.heap ∧ va_OF "java/lang/String" "coder" "B" (.int 0) ts4 (va_A (wd_c_X4_readUnit_3 h1 h1_0 h1_f1 h1_f2 h1_f3 h1_0 h1_0k h1_0c h0 h0_0 h0_f1 h0_2 h0_0 h0_0k h0_0c) sz) U U.heap ∧ va_O "java/lang/String" ts4 (va_A (wd_c_X4_readUnit_3 h1 h1_0 h1_f1 h1_f2 h1_f3 h1_0 h1_0k h1_0c h0 h0_0 h0_f1 h0_2 h0_0 h0_0k h0_0c) sz) U U.heap ∧ va_OF "java/lang/String" "value" "[B" (.ref tv4) ts4 (va_A (wd_c_X4_readUnit_3 h1 h1_0 h1_f1 h1_f2 h1_f3 h1_0 h1_0k h1_0c h0 h0_0 h0_f1 h0_2 h0_0 h0_0k h0_0c) sz) U U.heap ∧ va_T .byte tv4 6 (fun j => .int ([118, 108, 114, 100, 112, 104].getD j 0)) (va_A (wd_c_X4_readUnit_3 h1 h1_0 h1_f1 h1_f2 h1_f3 h1_0 h1_0k h1_0c h0 h0_0 h0_f1 h0_2 h0_0 h0_0k h0_0c) sz) U U.heap)) (va_Qv (fun (u : (Int32) × (Int32) × (Int32) × (Nat → Int32)) => (RG u.1 0 240 ∧ RG u.2.1 (-1) 240 ∧ RG u.2.2.1 0 240)) (fun (u : (Int32) × (Int32) × (Int32) × (Nat → Int32)) t => va_P (dC, dI) vwCl (wd_c_X4_readUnit_3 h1 h1_0 h1_f1 (u.1) (u.2.1) h1_0 h1_0k h1_0c h0 h0_0 (u.2.2.1) h0_2 h0_0 h0_0k (u.2.2.2)) t.heap ∧ va_K (dC, dI) vwCl [] t ∧ va_D (va_A (wd_c_X4_readUnit_3 h1 h1_0 h1_f1 h1_f2 h1_f3 h1_0 h1_0k h1_0c h0 h0_0 h0_f1 h0_2 h0_0 h0_0k h0_0c) sz) (wd_c_X4_readUnit_3 h1 h1_0 h1_f1 (u.1) (u.2.1) h1_0 h1_0k h1_0c h0 h0_0 (u.2.2.1) h0_2 h0_0 h0_0k (u.2.2.2))) (va_A (wd_c_X4_readUnit_3 h1 h1_0 h1_f1 h1_f2 h1_f3 h1_0 h1_0k h1_0c h0 h0_0 h0_f1 h0_2 h0_0 h0_0k h0_0c) sz)) 0 0 (va_A (wd_c_X4_readUnit_3 h1 h1_0 h1_f1 h1_f2 h1_f3 h1_0 h1_0k h1_0c h0 h0_0 h0_f1 h0_2 h0_0 h0_0k h0_0c) sz) := by
  refine Met.ofW (cc := cX4_readUnit) (maxL := 5) (ret := none) (by decide) rfl ?_
  intro p e s m args below meth c s₁ B hml hv
  obtain ⟨rfl, hsz, hP, hK, hD0, hE_32, hE_10, hE_34, hE_33, hE_35, hE_36⟩ := hv
  have hx := B.exec
  have hb := B.bytes
  have hr := B.returns
  have hts := atoms_spec (ws := wf_c_X4_readUnit_3) B.pre
  have hown : s.vm.findClass RX4 = some m.cls := findClass_of_methodNamed B.named
  have hlocks := B.notSynchronized
  subst hsz
  have hD := hD0.self (sz := s.heap.size)
  generalize hAe : va_A (wd_c_X4_readUnit_3 h1 h1_0 h1_f1 h1_f2 h1_f3 h1_0 h1_0k h1_0c h0 h0_0 h0_f1 h0_2 h0_0 h0_0k h0_0c) s.heap.size = A at hD hE_10 hE_34 hE_33 hE_35 hE_36 ⊢
  have hA : ∀ q : Nat, s.heap.size ≤ q → A q := fun q h => by rw [← hAe]; exact Or.inr h
  have hP : va_P (dC, dI) vwCl (wd_c_X4_readUnit_3 h1 h1_0 h1_f1 h1_f2 h1_f3 h1_0 h1_0k h1_0c h0 h0_0 h0_f1 h0_2 h0_0 h0_0k h0_0c) s.heap := hP
  have hl := lv_entry ([.ref h0, .ref h1, .int 2, .int 0]) (n := 5) (Nat.le_of_ble_eq_true rfl)
  rw [lg_entry_eq]
  generalize (lg_sl ([.ref h0, .ref h1, .int 2, .int 0]) ++ List.replicate (5 - (lg_sl ([.ref h0, .ref h1, .int 2, .int 0])).length) Slot.unset).toArray = ls at hl ⊢
  have hl : lv_has ls 5 [(0, .ref h0), (1, .ref h1), (2, .int 2), (3, .int 0)] := hl
  obtain ⟨H, hHe⟩ : ∃ H : Heap, s.heap = H := ⟨_, rfl⟩
  have hS : va_S A s.heap H [] := by rw [hHe]; exact va_S.rf
  have hP : va_P (dC, dI) vwCl (wd_c_X4_readUnit_3 h1 h1_0 h1_f1 h1_f2 h1_f3 h1_0 h1_0k h1_0c h0 h0_0 h0_f1 h0_2 h0_0 h0_0k h0_0c) H := by rw [← hHe]; exact hP
  rw [hHe]
  refine wj (fun G hG hU => ?_)
  have J62 : ∀ (j62_h1_f2 : Int32) (j62_h1_f3 : Int32) (j62_h0_f1 : Int32) (j62_h0_0c : Nat → Int32) (g_h0_f1 : RG h0_f1 0 240) (g_h1_f1 : RG h1_f1 0 240) (g_h1_f2 : RG h1_f2 0 240) (g_h1_f3 : RG h1_f3 (-1) 240) (g_j62_h0_f1 : RG j62_h0_f1 0 240) (g_j62_h1_f2 : RG j62_h1_f2 0 240) (g_j62_h1_f3 : RG j62_h1_f3 (-1) 240) (H : Heap) (locs : List Loc) (ls : Array Slot) (hP : va_P (dC, dI) vwCl (wd_c_X4_readUnit_3 h1 h1_0 h1_f1 j62_h1_f2 j62_h1_f3 h1_0 h1_0k h1_0c h0 h0_0 j62_h0_f1 h0_2 h0_0 h0_0k j62_h0_0c) H) (hD : va_D A (wd_c_X4_readUnit_3 h1 h1_0 h1_f1 j62_h1_f2 j62_h1_f3 h1_0 h1_0k h1_0c h0 h0_0 j62_h0_f1 h0_2 h0_0 h0_0k j62_h0_0c)) (hS : va_S A s.heap H locs) (hl : lv_has ls 5 []), G H locs (F0 m 62 ls []) := by
    intro j62_h1_f2 j62_h1_f3 j62_h0_f1 j62_h0_0c g_h0_f1 g_h1_f1 g_h1_f2 g_h1_f3 g_j62_h0_f1 g_j62_h1_f2 g_j62_h1_f3 H locs ls hP hD hS hl
    refine hG _ _ _ ?_
    refine lv_goto (tgt := 126) hx hb dX4_readUnit_62 rfl ?_
    have hK9 := hK.sub (tys' := []) [] rfl
    exact W.vret hx hb hr (fun t ht hW => ⟨⟨(j62_h1_f2, j62_h1_f3, j62_h0_f1, j62_h0_0c), rfl, ⟨g_j62_h1_f2, g_j62_h1_f3, g_j62_h0_f1⟩, by rw [ht]; exact hP, va_K.moved hW.alike hK9, hD⟩, hS.F ht⟩) hS.2.2 dX4_readUnit_126
  have J24 : ∀ (j24_h1_f2 : Int32) (j24_h1_f3 : Int32) (j24_h0_f1 : Int32) (j24_h0_0c : Nat → Int32) (g_h0_f1 : RG h0_f1 0 240) (g_h1_f1 : RG h1_f1 0 240) (g_h1_f2 : RG h1_f2 0 240) (g_h1_f3 : RG h1_f3 (-1) 240) (g_j24_h0_f1 : RG j24_h0_f1 0 240) (g_j24_h1_f2 : RG j24_h1_f2 0 240) (g_j24_h1_f3 : RG j24_h1_f3 (-1) 240) (H : Heap) (locs : List Loc) (ls : Array Slot) (hP : va_P (dC, dI) vwCl (wd_c_X4_readUnit_3 h1 h1_0 h1_f1 j24_h1_f2 j24_h1_f3 h1_0 h1_0k h1_0c h0 h0_0 j24_h0_f1 h0_2 h0_0 h0_0k j24_h0_0c) H) (hD : va_D A (wd_c_X4_readUnit_3 h1 h1_0 h1_f1 j24_h1_f2 j24_h1_f3 h1_0 h1_0k h1_0c h0 h0_0 j24_h0_f1 h0_2 h0_0 h0_0k j24_h0_0c)) (hS : va_S A s.heap H locs) (hl : lv_has ls 5 [(0, .ref h0), (1, .ref h1), (2, .int 2)]), G H locs (F0 m 24 ls []) := by
    intro j24_h1_f2 j24_h1_f3 j24_h0_f1 j24_h0_0c g_h0_f1 g_h1_f1 g_h1_f2 g_h1_f3 g_j24_h0_f1 g_j24_h1_f2 g_j24_h1_f3 H locs ls hP hD hS hl
    refine hG _ _ _ ?_
    refine lv_aload_n hx hb dX4_readUnit_24 rfl (lv_at hl 1 rfl) ?_
    have hPc := hP.sub (ws' := (wd_c_X9_peek h1 h1_0 h1_f1 j24_h1_f2 j24_h1_f3 h1_0 h1_0k h1_0c)) [0, 1] rfl
    have hDc := hD.sub (ws' := (wd_c_X9_peek h1 h1_0 h1_f1 j24_h1_f2 j24_h1_f3 h1_0 h1_0k h1_0c)) [0, 1] (by decide) rfl
    have hKc := hK.sub (tys' := [(h1_0k, .int)]) [0] rfl
    have hFc := va_free (wc := (wd_c_X9_peek h1 h1_0 h1_f1 j24_h1_f2 j24_h1_f3 h1_0 h1_0k h1_0c)) hD hS hA [0, 1] rfl
    refine va_calli (va_runV (As := []) (rest := []) ⟨hx, hb, hml, hown, hts⟩ (c_X9_peek l dC dI H.size h1 h1_0 h1_f1 j24_h1_f2 j24_h1_f3 h1_0k h1_0c g_h1_f1 g_j24_h1_f2 g_j24_h1_f3 a_h1_0c) (cwV 0 hts gf_c_X4_readUnit_3_c_X9_peek rfl rfl rfl (by decide +kernel) ⟨Nat.le_of_ble_eq_true rfl, Nat.le_of_ble_eq_true rfl⟩) ⟨fun a U g mk q => by obtain ⟨q0, q1, qP, qK, qD⟩ := q; exact ⟨q0, q1, qP, va_K.moved (u := U) (U := U.calling g mk a) (Vm.Alike.refl U.vm) qK, qD⟩, va_recv hKc hPc (ci := 9) (q0 := 0) rfl rfl, fun U hU hW => ⟨rfl, by rw [hU], by rw [hU]; exact hPc, va_K.moved hW.alike hKc, hDc.weaken (fun _ _ _ _ => trivial)⟩⟩ rfl rfl hl.1 rfl (lv_room (Nat.le_of_ble_eq_true rfl)) dX4_readUnit_25 ⟨Nat.le_of_ble_eq_true rfl, Nat.le_of_ble_eq_true rfl⟩) hS (fun q _ h => hFc q h) hFc (fun r_1 x_2 t H1 locs ht hvm hw hB hz1 hk1 hS => ?_)
    obtain ⟨hP1, hK1, hD1⟩ := hB
    rw [ht] at hP1
    obtain ⟨hP, hD⟩ := va_join (wr := [(h0, .inr (4, [.ref h0_0, .int j24_h0_f1, .ref h0_2])), (h0_0, .inl (h0_0k, 240, .inl j24_h0_0c))]) (w1 := (wd_c_X9_peek h1 h1_0 h1_f1 x_2 j24_h1_f3 h1_0 h1_0k h1_0c)) hP hD [0, 1] [2, 3] rfl rfl (by decide) (by decide) hk1 hFc hP1 hD1
    have hP := hP.sub (ws' := (wd_c_X4_readUnit_3 h1 h1_0 h1_f1 x_2 j24_h1_f3 h1_0 h1_0k h1_0c h0 h0_0 j24_h0_f1 h0_2 h0_0 h0_0k j24_h0_0c)) [2, 3, 0, 1] rfl
    have hD := hD.sub (ws' := (wd_c_X4_readUnit_3 h1 h1_0 h1_f1 x_2 j24_h1_f3 h1_0 h1_0k h1_0c h0 h0_0 j24_h0_f1 h0_2 h0_0 h0_0k j24_h0_0c)) [2, 3, 0, 1] (by decide) rfl
    generalize H1 = H at hP hS ⊢
    rcases hw with ⟨h_3, h_4, h_5⟩ | ⟨h_6, h_7, h_8, h_9⟩
    · rw [h_3]
      refine lv_istore (lv' := [(4, .int (-1)), (0, .ref h0), (1, .ref h1), (2, .int 2)]) hx hb dX4_readUnit_28 hl (Nat.le_of_ble_eq_true rfl) rfl (fun ls hl => ?_)
      refine lv_iload hx hb dX4_readUnit_30 (lv_at hl 0 rfl) ?_
      have hPc := hP.sub (ws' := []) [] rfl
      have hDc := hD.sub (ws' := []) [] (by decide) rfl
      have hKc := hK.sub (tys' := []) [] rfl
      have hFc := va_free (wc := []) hD hS hA [] rfl
      refine va_calli (va_runS (As := [.int (-1)]) (rest := []) ⟨hx, hb, hml, hown, hts⟩ (c_X4_isComparison l dC dI H.size (-1) (RG_k (-1) (-1) rfl)) (va_cwS 1 hts gf_c_X4_readUnit_3_c_X4_isComparison rfl rfl rfl (by decide +kernel) ⟨Nat.le_of_ble_eq_true rfl, Nat.le_of_ble_eq_true rfl⟩) ⟨fun a U g mk q => by obtain ⟨q0, q1, qP, qK, qD⟩ := q; exact ⟨q0, q1, qP, va_K.moved (u := U) (U := U.calling g mk a) (Vm.Alike.refl U.vm) qK, qD⟩, fun U hU hW => ⟨rfl, by rw [hU], by rw [hU]; exact hPc, va_K.moved hW.alike hKc, hDc.weaken (fun _ _ _ _ => trivial)⟩⟩ rfl rfl hl.1 rfl (lv_room (Nat.le_of_ble_eq_true rfl)) dX4_readUnit_32 ⟨Nat.le_of_ble_eq_true rfl, Nat.le_of_ble_eq_true rfl⟩) hS (fun q _ h => hFc q h) hFc (fun r_10 u t H1 locs ht hvm hw hB hz1 hk1 hS => ?_)
      obtain ⟨hP1, hK1, hD1⟩ := hB
      rw [ht] at hP1
      have hP := bv_still hP hk1
      generalize H1 = H at hP hS ⊢
      have h_11 := hw
      rw [h_11]
      refine lv_if_eq (tgt := 58) hx hb dX4_readUnit_35 rfl (fun c_12 => ?_) (fun c_12 => absurd c_12 (by decide))
      refine lv_aload_n hx hb dX4_readUnit_58 rfl (lv_at hl 2 rfl) ?_
      have hPc := hP.sub (ws' := (wd_c_X9_refuseHere h1 h1_0 h1_f1 x_2 j24_h1_f3)) [0] rfl
      have hDc := hD.sub (ws' := (wd_c_X9_refuseHere h1 h1_0 h1_f1 x_2 j24_h1_f3)) [0] (by decide) rfl
      have hKc := hK.sub (tys' := []) [] rfl
      have hFc := va_free (wc := (wd_c_X9_refuseHere h1 h1_0 h1_f1 x_2 j24_h1_f3)) hD hS hA [0] rfl
      refine va_callv (va_runV (As := []) (rest := []) ⟨hx, hb, hml, hown, hts⟩ (c_X9_refuseHere l dC dI H.size h1 h1_0 h1_f1 x_2 j24_h1_f3 g_h1_f1 h_4 g_j24_h1_f3) (cwV 0 hts gf_c_X4_readUnit_3_c_X9_refuseHere rfl rfl rfl (by decide +kernel) ⟨Nat.le_of_ble_eq_true rfl, Nat.le_of_ble_eq_true rfl⟩) ⟨fun a U g mk q => by obtain ⟨q0, q1, qP, qK, qD⟩ := q; exact ⟨q0, q1, qP, va_K.moved (u := U) (U := U.calling g mk a) (Vm.Alike.refl U.vm) qK, qD⟩, va_recv hKc hPc (ci := 9) (q0 := 0) rfl rfl, fun U hU hW => ⟨rfl, by rw [hU], by rw [hU]; exact hPc, va_K.moved hW.alike hKc, hDc.weaken (fun _ _ _ _ => trivial)⟩⟩ rfl rfl hl.1 rfl (lv_room (Nat.le_of_ble_eq_true rfl)) dX4_readUnit_59 ⟨Nat.le_of_ble_eq_true rfl, Nat.le_of_ble_eq_true rfl⟩) hS (fun q _ h => hFc q h) hFc (fun x_14 t H1 locs ht hvm hw hB hz1 hk1 hS => ?_)
      obtain ⟨hP1, hK1, hD1⟩ := hB
      rw [ht] at hP1
      obtain ⟨hP, hD⟩ := va_join (wr := [(h1_0, .inl (h1_0k, 240, .inl h1_0c)), (h0, .inr (4, [.ref h0_0, .int j24_h0_f1, .ref h0_2])), (h0_0, .inl (h0_0k, 240, .inl j24_h0_0c))]) (w1 := (wd_c_X9_refuseHere h1 h1_0 h1_f1 x_2 x_14)) hP hD [0] [1, 2, 3] rfl rfl (by decide) (by decide) hk1 hFc hP1 hD1
      have hP := hP.sub (ws' := (wd_c_X4_readUnit_3 h1 h1_0 h1_f1 x_2 x_14 h1_0 h1_0k h1_0c h0 h0_0 j24_h0_f1 h0_2 h0_0 h0_0k j24_h0_0c)) [3, 0, 1, 2] rfl
      have hD := hD.sub (ws' := (wd_c_X4_readUnit_3 h1 h1_0 h1_f1 x_2 x_14 h1_0 h1_0k h1_0c h0 h0_0 j24_h0_f1 h0_2 h0_0 h0_0k j24_h0_0c)) [3, 0, 1, 2] (by decide) rfl
      generalize H1 = H at hP hS ⊢
      have h_15 := hw
      exact hU _ _ _ (J62 x_2 x_14 j24_h0_f1 j24_h0_0c g_h0_f1 g_h1_f1 g_h1_f2 g_h1_f3 g_j24_h0_f1 h_4 (RG_w h_15 (by decide)) _ _ _ hP hD hS (lv_sub hl [] rfl))
    · refine lv_istore (lv' := [(4, .int r_1), (0, .ref h0), (1, .ref h1), (2, .int 2)]) hx hb dX4_readUnit_28 hl (Nat.le_of_ble_eq_true rfl) rfl (fun ls hl => ?_)
      refine lv_iload hx hb dX4_readUnit_30 (lv_at hl 0 rfl) ?_
      have hPc := hP.sub (ws' := []) [] rfl
      have hDc := hD.sub (ws' := []) [] (by decide) rfl
      have hKc := hK.sub (tys' := []) [] rfl
      have hFc := va_free (wc := []) hD hS hA [] rfl
      refine va_calli (va_runS (As := [.int r_1]) (rest := []) ⟨hx, hb, hml, hown, hts⟩ (c_X4_isComparison_1 l dC dI H.size r_1 h_6) (va_cwS 1 hts gf_c_X4_readUnit_3_c_X4_isComparison_1 rfl rfl rfl (by decide +kernel) ⟨Nat.le_of_ble_eq_true rfl, Nat.le_of_ble_eq_true rfl⟩) ⟨fun a U g mk q => by obtain ⟨q0, q1, qP, qK, qD⟩ := q; exact ⟨q0, q1, qP, va_K.moved (u := U) (U := U.calling g mk a) (Vm.Alike.refl U.vm) qK, qD⟩, fun U hU hW => ⟨rfl, by rw [hU], by rw [hU]; exact hPc, va_K.moved hW.alike hKc, hDc.weaken (fun _ _ _ _ => trivial)⟩⟩ rfl rfl hl.1 rfl (lv_room (Nat.le_of_ble_eq_true rfl)) dX4_readUnit_32 ⟨Nat.le_of_ble_eq_true rfl, Nat.le_of_ble_eq_true rfl⟩) hS (fun q _ h => hFc q h) hFc (fun r_16 u t H1 locs ht hvm hw hB hz1 hk1 hS => ?_)
      obtain ⟨hP1, hK1, hD1⟩ := hB
      rw [ht] at hP1
      have hP := bv_still hP hk1
      generalize H1 = H at hP hS ⊢
      rcases hw with h_17 | ⟨h_18, h_19⟩
      · rw [h_17]
        refine lv_if_eq (tgt := 58) hx hb dX4_readUnit_35 rfl (fun c_20 => ?_) (fun c_20 => absurd c_20 (by decide))
        refine lv_aload_n hx hb dX4_readUnit_58 rfl (lv_at hl 2 rfl) ?_
        have hPc := hP.sub (ws' := (wd_c_X9_refuseHere h1 h1_0 h1_f1 x_2 j24_h1_f3)) [0] rfl
        have hDc := hD.sub (ws' := (wd_c_X9_refuseHere h1 h1_0 h1_f1 x_2 j24_h1_f3)) [0] (by decide) rfl
        have hKc := hK.sub (tys' := []) [] rfl
        have hFc := va_free (wc := (wd_c_X9_refuseHere h1 h1_0 h1_f1 x_2 j24_h1_f3)) hD hS hA [0] rfl
        refine va_callv (va_runV (As := []) (rest := []) ⟨hx, hb, hml, hown, hts⟩ (c_X9_refuseHere l dC dI H.size h1 h1_0 h1_f1 x_2 j24_h1_f3 (RG_w h_8 (by decide)) (RG_w h_7 (by decide)) g_j24_h1_f3) (cwV 0 hts gf_c_X4_readUnit_3_c_X9_refuseHere rfl rfl rfl (by decide +kernel) ⟨Nat.le_of_ble_eq_true rfl, Nat.le_of_ble_eq_true rfl⟩) ⟨fun a U g mk q => by obtain ⟨q0, q1, qP, qK, qD⟩ := q; exact ⟨q0, q1, qP, va_K.moved (u := U) (U := U.calling g mk a) (Vm.Alike.refl U.vm) qK, qD⟩, va_recv hKc hPc (ci := 9) (q0 := 0) rfl rfl, fun U hU hW => ⟨rfl, by rw [hU], by rw [hU]; exact hPc, va_K.moved hW.alike hKc, hDc.weaken (fun _ _ _ _ => trivial)⟩⟩ rfl rfl hl.1 rfl (lv_room (Nat.le_of_ble_eq_true rfl)) dX4_readUnit_59 ⟨Nat.le_of_ble_eq_true rfl, Nat.le_of_ble_eq_true rfl⟩) hS (fun q _ h => hFc q h) hFc (fun x_22 t H1 locs ht hvm hw hB hz1 hk1 hS => ?_)
        obtain ⟨hP1, hK1, hD1⟩ := hB
        rw [ht] at hP1
        obtain ⟨hP, hD⟩ := va_join (wr := [(h1_0, .inl (h1_0k, 240, .inl h1_0c)), (h0, .inr (4, [.ref h0_0, .int j24_h0_f1, .ref h0_2])), (h0_0, .inl (h0_0k, 240, .inl j24_h0_0c))]) (w1 := (wd_c_X9_refuseHere h1 h1_0 h1_f1 x_2 x_22)) hP hD [0] [1, 2, 3] rfl rfl (by decide) (by decide) hk1 hFc hP1 hD1
        have hP := hP.sub (ws' := (wd_c_X4_readUnit_3 h1 h1_0 h1_f1 x_2 x_22 h1_0 h1_0k h1_0c h0 h0_0 j24_h0_f1 h0_2 h0_0 h0_0k j24_h0_0c)) [3, 0, 1, 2] rfl
        have hD := hD.sub (ws' := (wd_c_X4_readUnit_3 h1 h1_0 h1_f1 x_2 x_22 h1_0 h1_0k h1_0c h0 h0_0 j24_h0_f1 h0_2 h0_0 h0_0k j24_h0_0c)) [3, 0, 1, 2] (by decide) rfl
        generalize H1 = H at hP hS ⊢
        have h_23 := hw
        exact hU _ _ _ (J62 x_2 x_22 j24_h0_f1 j24_h0_0c g_h0_f1 (RG_w h_8 (by decide)) g_h1_f2 g_h1_f3 g_j24_h0_f1 (RG_w h_7 (by decide)) (RG_w h_23 (by decide)) _ _ _ hP hD hS (lv_sub hl [] rfl))
      · rw [h_18]
        refine lv_if_eq (tgt := 58) hx hb dX4_readUnit_35 rfl (fun c_24 => absurd c_24 (by decide)) (fun c_24 => ?_)
        refine lv_aload_n hx hb dX4_readUnit_38 rfl (lv_at hl 2 rfl) ?_
        have hPc := hP.sub (ws' := (wd_c_X9_skip h1 h1_0 h1_f1 x_2 j24_h1_f3)) [0] rfl
        have hDc := hD.sub (ws' := (wd_c_X9_skip h1 h1_0 h1_f1 x_2 j24_h1_f3)) [0] (by decide) rfl
        have hKc := hK.sub (tys' := []) [] rfl
        have hFc := va_free (wc := (wd_c_X9_skip h1 h1_0 h1_f1 x_2 j24_h1_f3)) hD hS hA [0] rfl
        refine va_callv (va_runV (As := []) (rest := []) ⟨hx, hb, hml, hown, hts⟩ (c_X9_skip l dC dI H.size h1 h1_0 h1_f1 x_2 j24_h1_f3 (RG_w h_8 (by decide)) h_7 g_j24_h1_f3) (cwV 0 hts gf_c_X4_readUnit_3_c_X9_skip rfl rfl rfl (by decide +kernel) ⟨Nat.le_of_ble_eq_true rfl, Nat.le_of_ble_eq_true rfl⟩) ⟨fun a U g mk q => by obtain ⟨q0, q1, qP, qK, qD⟩ := q; exact ⟨q0, q1, qP, va_K.moved (u := U) (U := U.calling g mk a) (Vm.Alike.refl U.vm) qK, qD⟩, va_recv hKc hPc (ci := 9) (q0 := 0) rfl rfl, fun U hU hW => ⟨rfl, by rw [hU], by rw [hU]; exact hPc, va_K.moved hW.alike hKc, hDc.weaken (fun _ _ _ _ => trivial)⟩⟩ rfl rfl hl.1 rfl (lv_room (Nat.le_of_ble_eq_true rfl)) dX4_readUnit_39 ⟨Nat.le_of_ble_eq_true rfl, Nat.le_of_ble_eq_true rfl⟩) hS (fun q _ h => hFc q h) hFc (fun x_26 t H1 locs ht hvm hw hB hz1 hk1 hS => ?_)
        obtain ⟨hP1, hK1, hD1⟩ := hB
        rw [ht] at hP1
        obtain ⟨hP, hD⟩ := va_join (wr := [(h1_0, .inl (h1_0k, 240, .inl h1_0c)), (h0, .inr (4, [.ref h0_0, .int j24_h0_f1, .ref h0_2])), (h0_0, .inl (h0_0k, 240, .inl j24_h0_0c))]) (w1 := (wd_c_X9_skip h1 h1_0 h1_f1 x_26 j24_h1_f3)) hP hD [0] [1, 2, 3] rfl rfl (by decide) (by decide) hk1 hFc hP1 hD1
        have hP := hP.sub (ws' := (wd_c_X4_readUnit_3 h1 h1_0 h1_f1 x_26 j24_h1_f3 h1_0 h1_0k h1_0c h0 h0_0 j24_h0_f1 h0_2 h0_0 h0_0k j24_h0_0c)) [3, 0, 1, 2] rfl
        have hD := hD.sub (ws' := (wd_c_X4_readUnit_3 h1 h1_0 h1_f1 x_26 j24_h1_f3 h1_0 h1_0k h1_0c h0 h0_0 j24_h0_f1 h0_2 h0_0 h0_0k j24_h0_0c)) [3, 0, 1, 2] (by decide) rfl
        generalize H1 = H at hP hS ⊢
        rcases hw with ⟨h_27, h_28, h_29⟩
        refine lv_aload_n hx hb dX4_readUnit_42 rfl (lv_at hl 1 rfl) ?_
        refine lv_aload_n hx hb dX4_readUnit_43 rfl (lv_at hl 2 rfl) ?_
        refine lv_iload_n hx hb dX4_readUnit_44 rfl (lv_at hl 3 rfl) ?_
        have hPc := hP.sub (ws' := (wd_c_X4_readSum_2 h1 h1_0 h1_f1 x_26 j24_h1_f3 h1_0 h1_0k h1_0c h0 h0_0 j24_h0_f1 h0_2 h0_0 h0_0k j24_h0_0c)) [0, 1, 2, 3] rfl
        have hDc := hD.sub (ws' := (wd_c_X4_readSum_2 h1 h1_0 h1_f1 x_26 j24_h1_f3 h1_0 h1_0k h1_0c h0 h0_0 j24_h0_f1 h0_2 h0_0 h0_0k j24_h0_0c)) [0, 1, 2, 3] (by decide) rfl
        have hKc := hK.sub (tys' := [(h1_0k, .int), (h0_0k, .int)]) [0, 1] rfl
        have hFc := va_free (wc := (wd_c_X4_readSum_2 h1 h1_0 h1_f1 x_26 j24_h1_f3 h1_0 h1_0k h1_0c h0 h0_0 j24_h0_f1 h0_2 h0_0 h0_0k j24_h0_0c)) hD hS hA [0, 1, 2, 3] rfl
        refine va_callv (va_runV (As := [.ref h1, .int 2]) (rest := []) ⟨hx, hb, hml, hown, hts⟩ (c_X4_readSum_2 l dC dI H.size h0 h1 h1_0 h1_f1 x_26 j24_h1_f3 h1_0k h1_0c h0_0 j24_h0_f1 h0_2 h0_0k j24_h0_0c ts4 tv4 (RG_w h_8 (by decide)) (RG_w h_27 (by decide)) g_j24_h1_f3 a_h1_0c g_j24_h0_f1) (cwV 2 hts gf_c_X4_readUnit_3_c_X4_readSum_2 rfl rfl rfl (by decide +kernel) ⟨Nat.le_of_ble_eq_true rfl, Nat.le_of_ble_eq_true rfl⟩) ⟨fun a U g mk q => by obtain ⟨q0, q1, qP, qK, qD, qE0, qE1, qE2, qE3, qE4, qE5⟩ := q; exact ⟨q0, q1, qP, va_K.moved (u := U) (U := U.calling g mk a) (Vm.Alike.refl U.vm) qK, qD, vk_R.same rfl qE0, va_Z.moved (u := U) (U := U.calling g mk a) (Vm.Alike.refl U.vm) qE1, va_OF.moved (u := U) (U := U.calling g mk a) (Vm.Alike.refl U.vm) qE2, va_O.moved (u := U) (U := U.calling g mk a) (Vm.Alike.refl U.vm) qE3, va_OF.moved (u := U) (U := U.calling g mk a) (Vm.Alike.refl U.vm) qE4, va_T.moved (u := U) (U := U.calling g mk a) (Vm.Alike.refl U.vm) qE5⟩, va_recv hKc hPc (ci := 4) (q0 := 2) rfl rfl, fun U hU hW => ⟨rfl, by rw [hU], by rw [hU]; exact hPc, va_K.moved hW.alike hKc, hDc.weaken (fun _ _ _ _ => trivial), vk_R.warm hW hE_32, va_Z.moved hW.alike (by rw [hU]; exact (hE_10.kept hS.2.1).narrow hFc), va_OF.moved hW.alike (by rw [hU]; exact (hE_34.kept hS.2.1).narrow hFc), va_O.moved hW.alike (by rw [hU]; exact (hE_33.kept hS.2.1).narrow hFc), va_OF.moved hW.alike (by rw [hU]; exact (hE_35.kept hS.2.1).narrow hFc), va_T.moved hW.alike (by rw [hU]; exact (hE_36.kept hS.2.1).narrow hFc)⟩⟩ rfl rfl hl.1 rfl (lv_room (Nat.le_of_ble_eq_true rfl)) dX4_readUnit_45 ⟨Nat.le_of_ble_eq_true rfl, Nat.le_of_ble_eq_true rfl⟩) hS (fun q _ h => hFc q h) hFc (fun u t H1 locs ht hvm hw hB hz1 hk1 hS => ?_)
        obtain ⟨x_31, x_32, x_33, w_34⟩ := u
        obtain ⟨hP1, hK1, hD1⟩ := hB
        rw [ht] at hP1
        obtain ⟨hP, hD⟩ := va_join (wr := []) (w1 := (wd_c_X4_readSum_2 h1 h1_0 h1_f1 x_31 x_32 h1_0 h1_0k h1_0c h0 h0_0 x_33 h0_2 h0_0 h0_0k w_34)) hP hD [0, 1, 2, 3] [] rfl rfl (by decide) (by decide) hk1 hFc hP1 hD1
        have hP := hP.sub (ws' := (wd_c_X4_readUnit_3 h1 h1_0 h1_f1 x_31 x_32 h1_0 h1_0k h1_0c h0 h0_0 x_33 h0_2 h0_0 h0_0k w_34)) [0, 1, 2, 3] rfl
        have hD := hD.sub (ws' := (wd_c_X4_readUnit_3 h1 h1_0 h1_f1 x_31 x_32 h1_0 h1_0k h1_0c h0 h0_0 x_33 h0_2 h0_0 h0_0k w_34)) [0, 1, 2, 3] (by decide) rfl
        generalize H1 = H at hP hS ⊢
        rcases hw with ⟨h_35, h_36, h_37⟩
        refine lv_aload_n hx hb dX4_readUnit_48 rfl (lv_at hl 1 rfl) ?_
        refine lv_iload hx hb dX4_readUnit_49 (lv_at hl 0 rfl) ?_
        refine lv_ineg hx hb dX4_readUnit_51 ?_
        refine lv_topi (fun x_38 ex_38 => ?_)
        have g_39 : RG x_38 (-62) (-60) := RG_neg ex_38 h_19 (by decide)
        have hPc := hP.sub (ws' := (wd_c_X4_emit h0 h0_0 x_33 h0_2 h0_0 h0_0k w_34)) [2, 3] rfl
        have hDc := hD.sub (ws' := (wd_c_X4_emit h0 h0_0 x_33 h0_2 h0_0 h0_0k w_34)) [2, 3] (by decide) rfl
        have hKc := hK.sub (tys' := [(h0_0k, .int)]) [1] rfl
        have hFc := va_free (wc := (wd_c_X4_emit h0 h0_0 x_33 h0_2 h0_0 h0_0k w_34)) hD hS hA [2, 3] rfl
        refine va_callv (va_runV (As := [.int x_38]) (rest := []) ⟨hx, hb, hml, hown, hts⟩ (c_X4_emit l dC dI H.size h0 x_38 h0_0 x_33 h0_2 h0_0k w_34 h_37) (cwV 1 hts gf_c_X4_readUnit_3_c_X4_emit rfl rfl rfl (by decide +kernel) ⟨Nat.le_of_ble_eq_true rfl, Nat.le_of_ble_eq_true rfl⟩) ⟨fun a U g mk q => by obtain ⟨q0, q1, qP, qK, qD⟩ := q; exact ⟨q0, q1, qP, va_K.moved (u := U) (U := U.calling g mk a) (Vm.Alike.refl U.vm) qK, qD⟩, va_recv hKc hPc (ci := 4) (q0 := 0) rfl rfl, fun U hU hW => ⟨rfl, by rw [hU], by rw [hU]; exact hPc, va_K.moved hW.alike hKc, hDc.weaken (fun _ _ _ _ => trivial)⟩⟩ rfl rfl hl.1 rfl (lv_room (Nat.le_of_ble_eq_true rfl)) dX4_readUnit_52 ⟨Nat.le_of_ble_eq_true rfl, Nat.le_of_ble_eq_true rfl⟩) hS (fun q _ h => hFc q h) hFc (fun u t H1 locs ht hvm hw hB hz1 hk1 hS => ?_)
        obtain ⟨x_41, w_42⟩ := u
        obtain ⟨hP1, hK1, hD1⟩ := hB
        rw [ht] at hP1
        obtain ⟨hP, hD⟩ := va_join (wr := [(h1, .inr (9, [.ref h1_0, .int h1_f1, .int x_31, .int x_32])), (h1_0, .inl (h1_0k, 240, .inl h1_0c))]) (w1 := (wd_c_X4_emit h0 h0_0 x_41 h0_2 h0_0 h0_0k w_42)) hP hD [2, 3] [0, 1] rfl rfl (by decide) (by decide) hk1 hFc hP1 hD1
        have hP := hP.sub (ws' := (wd_c_X4_readUnit_3 h1 h1_0 h1_f1 x_31 x_32 h1_0 h1_0k h1_0c h0 h0_0 x_41 h0_2 h0_0 h0_0k w_42)) [0, 1, 2, 3] rfl
        have hD := hD.sub (ws' := (wd_c_X4_readUnit_3 h1 h1_0 h1_f1 x_31 x_32 h1_0 h1_0k h1_0c h0 h0_0 x_41 h0_2 h0_0 h0_0k w_42)) [0, 1, 2, 3] (by decide) rfl
        generalize H1 = H at hP hS ⊢
        have h_43 := hw
        refine lv_goto (tgt := 62) hx hb dX4_readUnit_55 rfl ?_
        exact hU _ _ _ (J62 x_31 x_32 x_41 w_42 g_h0_f1 (RG_w h_8 (by decide)) g_h1_f2 g_h1_f3 (RG_w h_43 (by decide)) h_35 h_36 _ _ _ hP hD hS (lv_sub hl [] rfl))
  have J14 : ∀ (j14_h1_f2 : Int32) (g_h0_f1 : RG h0_f1 0 240) (g_h1_f1 : RG h1_f1 0 240) (g_h1_f2 : RG h1_f2 0 240) (g_h1_f3 : RG h1_f3 (-1) 240) (g_j14_h1_f2 : RG j14_h1_f2 0 240) (H : Heap) (locs : List Loc) (ls : Array Slot) (hP : va_P (dC, dI) vwCl (wd_c_X4_readUnit_3 h1 h1_0 h1_f1 j14_h1_f2 h1_f3 h1_0 h1_0k h1_0c h0 h0_0 h0_f1 h0_2 h0_0 h0_0k h0_0c) H) (hD : va_D A (wd_c_X4_readUnit_3 h1 h1_0 h1_f1 j14_h1_f2 h1_f3 h1_0 h1_0k h1_0c h0 h0_0 h0_f1 h0_2 h0_0 h0_0k h0_0c)) (hS : va_S A s.heap H locs) (hl : lv_has ls 5 [(0, .ref h0), (1, .ref h1), (2, .int 2), (3, .int 0)]), G H locs (F0 m 14 ls []) := by
    intro j14_h1_f2 g_h0_f1 g_h1_f1 g_h1_f2 g_h1_f3 g_j14_h1_f2 H locs ls hP hD hS hl
    refine hG _ _ _ ?_
    refine lv_iload_n hx hb dX4_readUnit_14 rfl (lv_at hl 3 rfl) ?_
    refine lv_if_ne (tgt := 24) hx hb dX4_readUnit_15 rfl (fun c_44 => absurd c_44 (by decide)) (fun c_44 => ?_)
    refine lv_aload_n hx hb dX4_readUnit_18 rfl (lv_at hl 0 rfl) ?_
    refine lv_aload_n hx hb dX4_readUnit_19 rfl (lv_at hl 1 rfl) ?_
    refine lv_iload_n hx hb dX4_readUnit_20 rfl (lv_at hl 2 rfl) ?_
    have hPc := hP.sub (ws' := (wd_c_X4_readSum_2 h1 h1_0 h1_f1 j14_h1_f2 h1_f3 h1_0 h1_0k h1_0c h0 h0_0 h0_f1 h0_2 h0_0 h0_0k h0_0c)) [0, 1, 2, 3] rfl
    have hDc := hD.sub (ws' := (wd_c_X4_readSum_2 h1 h1_0 h1_f1 j14_h1_f2 h1_f3 h1_0 h1_0k h1_0c h0 h0_0 h0_f1 h0_2 h0_0 h0_0k h0_0c)) [0, 1, 2, 3] (by decide) rfl
    have hKc := hK.sub (tys' := [(h1_0k, .int), (h0_0k, .int)]) [0, 1] rfl
    have hFc := va_free (wc := (wd_c_X4_readSum_2 h1 h1_0 h1_f1 j14_h1_f2 h1_f3 h1_0 h1_0k h1_0c h0 h0_0 h0_f1 h0_2 h0_0 h0_0k h0_0c)) hD hS hA [0, 1, 2, 3] rfl
    refine va_callv (va_runV (As := [.ref h1, .int 2]) (rest := []) ⟨hx, hb, hml, hown, hts⟩ (c_X4_readSum_2 l dC dI H.size h0 h1 h1_0 h1_f1 j14_h1_f2 h1_f3 h1_0k h1_0c h0_0 h0_f1 h0_2 h0_0k h0_0c ts4 tv4 g_h1_f1 g_j14_h1_f2 g_h1_f3 a_h1_0c g_h0_f1) (cwV 2 hts gf_c_X4_readUnit_3_c_X4_readSum_2 rfl rfl rfl (by decide +kernel) ⟨Nat.le_of_ble_eq_true rfl, Nat.le_of_ble_eq_true rfl⟩) ⟨fun a U g mk q => by obtain ⟨q0, q1, qP, qK, qD, qE0, qE1, qE2, qE3, qE4, qE5⟩ := q; exact ⟨q0, q1, qP, va_K.moved (u := U) (U := U.calling g mk a) (Vm.Alike.refl U.vm) qK, qD, vk_R.same rfl qE0, va_Z.moved (u := U) (U := U.calling g mk a) (Vm.Alike.refl U.vm) qE1, va_OF.moved (u := U) (U := U.calling g mk a) (Vm.Alike.refl U.vm) qE2, va_O.moved (u := U) (U := U.calling g mk a) (Vm.Alike.refl U.vm) qE3, va_OF.moved (u := U) (U := U.calling g mk a) (Vm.Alike.refl U.vm) qE4, va_T.moved (u := U) (U := U.calling g mk a) (Vm.Alike.refl U.vm) qE5⟩, va_recv hKc hPc (ci := 4) (q0 := 2) rfl rfl, fun U hU hW => ⟨rfl, by rw [hU], by rw [hU]; exact hPc, va_K.moved hW.alike hKc, hDc.weaken (fun _ _ _ _ => trivial), vk_R.warm hW hE_32, va_Z.moved hW.alike (by rw [hU]; exact (hE_10.kept hS.2.1).narrow hFc), va_OF.moved hW.alike (by rw [hU]; exact (hE_34.kept hS.2.1).narrow hFc), va_O.moved hW.alike (by rw [hU]; exact (hE_33.kept hS.2.1).narrow hFc), va_OF.moved hW.alike (by rw [hU]; exact (hE_35.kept hS.2.1).narrow hFc), va_T.moved hW.alike (by rw [hU]; exact (hE_36.kept hS.2.1).narrow hFc)⟩⟩ rfl rfl hl.1 rfl (lv_room (Nat.le_of_ble_eq_true rfl)) dX4_readUnit_21 ⟨Nat.le_of_ble_eq_true rfl, Nat.le_of_ble_eq_true rfl⟩) hS (fun q _ h => hFc q h) hFc (fun u t H1 locs ht hvm hw hB hz1 hk1 hS => ?_)
    obtain ⟨x_46, x_47, x_48, w_49⟩ := u
    obtain ⟨hP1, hK1, hD1⟩ := hB
    rw [ht] at hP1
    obtain ⟨hP, hD⟩ := va_join (wr := []) (w1 := (wd_c_X4_readSum_2 h1 h1_0 h1_f1 x_46 x_47 h1_0 h1_0k h1_0c h0 h0_0 x_48 h0_2 h0_0 h0_0k w_49)) hP hD [0, 1, 2, 3] [] rfl rfl (by decide) (by decide) hk1 hFc hP1 hD1
    have hP := hP.sub (ws' := (wd_c_X4_readUnit_3 h1 h1_0 h1_f1 x_46 x_47 h1_0 h1_0k h1_0c h0 h0_0 x_48 h0_2 h0_0 h0_0k w_49)) [0, 1, 2, 3] rfl
    have hD := hD.sub (ws' := (wd_c_X4_readUnit_3 h1 h1_0 h1_f1 x_46 x_47 h1_0 h1_0k h1_0c h0 h0_0 x_48 h0_2 h0_0 h0_0k w_49)) [0, 1, 2, 3] (by decide) rfl
    generalize H1 = H at hP hS ⊢
    rcases hw with ⟨h_50, h_51, h_52⟩
    exact hU _ _ _ (J24 x_46 x_47 x_48 w_49 g_h0_f1 g_h1_f1 g_h1_f2 g_h1_f3 h_52 h_50 h_51 _ _ _ hP hD hS (lv_sub hl [0, 1, 2] rfl))
  refine hG _ _ _ ?_
  refine lv_iload_n hx hb dX4_readUnit_0 rfl (lv_at hl 3 rfl) ?_
  refine lv_if_ne (tgt := 14) hx hb dX4_readUnit_1 rfl (fun c_53 => absurd c_53 (by decide)) (fun c_53 => ?_)
  refine lv_aload_n hx hb dX4_readUnit_4 rfl (lv_at hl 1 rfl) ?_
  have hPc := hP.sub (ws' := (wd_c_X9_peek h1 h1_0 h1_f1 h1_f2 h1_f3 h1_0 h1_0k h1_0c)) [0, 1] rfl
  have hDc := hD.sub (ws' := (wd_c_X9_peek h1 h1_0 h1_f1 h1_f2 h1_f3 h1_0 h1_0k h1_0c)) [0, 1] (by decide) rfl
  have hKc := hK.sub (tys' := [(h1_0k, .int)]) [0] rfl
  have hFc := va_free (wc := (wd_c_X9_peek h1 h1_0 h1_f1 h1_f2 h1_f3 h1_0 h1_0k h1_0c)) hD hS hA [0, 1] rfl
  refine va_calli (va_runV (As := []) (rest := []) ⟨hx, hb, hml, hown, hts⟩ (c_X9_peek l dC dI H.size h1 h1_0 h1_f1 h1_f2 h1_f3 h1_0k h1_0c g_h1_f1 g_h1_f2 g_h1_f3 a_h1_0c) (cwV 0 hts gf_c_X4_readUnit_3_c_X9_peek rfl rfl rfl (by decide +kernel) ⟨Nat.le_of_ble_eq_true rfl, Nat.le_of_ble_eq_true rfl⟩) ⟨fun a U g mk q => by obtain ⟨q0, q1, qP, qK, qD⟩ := q; exact ⟨q0, q1, qP, va_K.moved (u := U) (U := U.calling g mk a) (Vm.Alike.refl U.vm) qK, qD⟩, va_recv hKc hPc (ci := 9) (q0 := 0) rfl rfl, fun U hU hW => ⟨rfl, by rw [hU], by rw [hU]; exact hPc, va_K.moved hW.alike hKc, hDc.weaken (fun _ _ _ _ => trivial)⟩⟩ rfl rfl hl.1 rfl (lv_room (Nat.le_of_ble_eq_true rfl)) dX4_readUnit_5 ⟨Nat.le_of_ble_eq_true rfl, Nat.le_of_ble_eq_true rfl⟩) hS (fun q _ h => hFc q h) hFc (fun r_54 x_55 t H1 locs ht hvm hw hB hz1 hk1 hS => ?_)
  obtain ⟨hP1, hK1, hD1⟩ := hB
  rw [ht] at hP1
  obtain ⟨hP, hD⟩ := va_join (wr := [(h0, .inr (4, [.ref h0_0, .int h0_f1, .ref h0_2])), (h0_0, .inl (h0_0k, 240, .inl h0_0c))]) (w1 := (wd_c_X9_peek h1 h1_0 h1_f1 x_55 h1_f3 h1_0 h1_0k h1_0c)) hP hD [0, 1] [2, 3] rfl rfl (by decide) (by decide) hk1 hFc hP1 hD1
  have hP := hP.sub (ws' := (wd_c_X4_readUnit_3 h1 h1_0 h1_f1 x_55 h1_f3 h1_0 h1_0k h1_0c h0 h0_0 h0_f1 h0_2 h0_0 h0_0k h0_0c)) [2, 3, 0, 1] rfl
  have hD := hD.sub (ws' := (wd_c_X4_readUnit_3 h1 h1_0 h1_f1 x_55 h1_f3 h1_0 h1_0k h1_0c h0 h0_0 h0_f1 h0_2 h0_0 h0_0k h0_0c)) [2, 3, 0, 1] (by decide) rfl
  generalize H1 = H at hP hS ⊢
  rcases hw with ⟨h_56, h_57, h_58⟩ | ⟨h_59, h_60, h_61, h_62⟩
  · rw [h_56]
    have hPc := hP.sub (ws' := []) [] rfl
    have hDc := hD.sub (ws' := []) [] (by decide) rfl
    have hKc := hK.sub (tys' := []) [] rfl
    have hFc := va_free (wc := []) hD hS hA [] rfl
    refine va_calli (va_runS (As := [.int (-1)]) (rest := []) ⟨hx, hb, hml, hown, hts⟩ (c_X4_startsUnit l dC dI H.size (-1) (RG_k (-1) (-1) rfl)) (va_cwS 1 hts gf_c_X4_readUnit_3_c_X4_startsUnit rfl rfl rfl (by decide +kernel) ⟨Nat.le_of_ble_eq_true rfl, Nat.le_of_ble_eq_true rfl⟩) ⟨fun a U g mk q => by obtain ⟨q0, q1, qP, qK, qD⟩ := q; exact ⟨q0, q1, qP, va_K.moved (u := U) (U := U.calling g mk a) (Vm.Alike.refl U.vm) qK, qD⟩, fun U hU hW => ⟨rfl, by rw [hU], by rw [hU]; exact hPc, va_K.moved hW.alike hKc, hDc.weaken (fun _ _ _ _ => trivial)⟩⟩ rfl rfl hl.1 rfl (lv_room (Nat.le_of_ble_eq_true rfl)) dX4_readUnit_8 ⟨Nat.le_of_ble_eq_true rfl, Nat.le_of_ble_eq_true rfl⟩) hS (fun q _ h => hFc q h) hFc (fun r_63 u t H1 locs ht hvm hw hB hz1 hk1 hS => ?_)
    obtain ⟨hP1, hK1, hD1⟩ := hB
    rw [ht] at hP1
    have hP := bv_still hP hk1
    generalize H1 = H at hP hS ⊢
    have h_64 := hw
    rw [h_64]
    refine lv_if_ne (tgt := 65) hx hb dX4_readUnit_11 rfl (fun c_65 => absurd c_65 (by decide)) (fun c_65 => ?_)
    exact hU _ _ _ (J14 x_55 g_h0_f1 g_h1_f1 g_h1_f2 g_h1_f3 h_57 _ _ _ hP hD hS (lv_sub hl [0, 1, 2, 3] rfl))
  · have hPc := hP.sub (ws' := []) [] rfl
    have hDc := hD.sub (ws' := []) [] (by decide) rfl
    have hKc := hK.sub (tys' := []) [] rfl
    have hFc := va_free (wc := []) hD hS hA [] rfl
    refine va_calli (va_runS (As := [.int r_54]) (rest := []) ⟨hx, hb, hml, hown, hts⟩ (c_X4_startsUnit_1 l dC dI H.size r_54 h_59) (va_cwS 1 hts gf_c_X4_readUnit_3_c_X4_startsUnit_1 rfl rfl rfl (by decide +kernel) ⟨Nat.le_of_ble_eq_true rfl, Nat.le_of_ble_eq_true rfl⟩) ⟨fun a U g mk q => by obtain ⟨q0, q1, qP, qK, qD⟩ := q; exact ⟨q0, q1, qP, va_K.moved (u := U) (U := U.calling g mk a) (Vm.Alike.refl U.vm) qK, qD⟩, fun U hU hW => ⟨rfl, by rw [hU], by rw [hU]; exact hPc, va_K.moved hW.alike hKc, hDc.weaken (fun _ _ _ _ => trivial)⟩⟩ rfl rfl hl.1 rfl (lv_room (Nat.le_of_ble_eq_true rfl)) dX4_readUnit_8 ⟨Nat.le_of_ble_eq_true rfl, Nat.le_of_ble_eq_true rfl⟩) hS (fun q _ h => hFc q h) hFc (fun r_66 u t H1 locs ht hvm hw hB hz1 hk1 hS => ?_)
    obtain ⟨hP1, hK1, hD1⟩ := hB
    rw [ht] at hP1
    have hP := bv_still hP hk1
    generalize H1 = H at hP hS ⊢
    rcases hw with h_67 | ⟨h_68, h_69⟩
    · rw [h_67]
      refine lv_if_ne (tgt := 65) hx hb dX4_readUnit_11 rfl (fun c_70 => absurd c_70 (by decide)) (fun c_70 => ?_)
      exact hU _ _ _ (J14 x_55 g_h0_f1 (RG_w h_61 (by decide)) g_h1_f2 g_h1_f3 (RG_w h_60 (by decide)) _ _ _ hP hD hS (lv_sub hl [0, 1, 2, 3] rfl))
    · rw [h_68]
      refine lv_if_ne (tgt := 65) hx hb dX4_readUnit_11 rfl (fun c_71 => ?_) (fun c_71 => absurd c_71 (by decide))
      refine lv_iload_n hx hb dX4_readUnit_65 rfl (lv_at hl 2 rfl) ?_
      refine lv_bipush (v := 6) hx hb dX4_readUnit_66 kc_bipush_6 ?_
      refine lv_icmp_lt (tgt := 78) hx hb dX4_readUnit_68 rfl (fun c_72 => ?_) (fun c_72 => absurd c_72 (by decide))
      refine lv_aload_n hx hb dX4_readUnit_78 rfl (lv_at hl 1 rfl) ?_
      refine lv_bipush (v := 33) hx hb dX4_readUnit_79 kc_bipush_33 ?_
      have hPc := hP.sub (ws' := (wd_c_X9_take h1 h1_0 h1_f1 x_55 h1_f3 h1_0 h1_0k h1_0c)) [0, 1] rfl
      have hDc := hD.sub (ws' := (wd_c_X9_take h1 h1_0 h1_f1 x_55 h1_f3 h1_0 h1_0k h1_0c)) [0, 1] (by decide) rfl
      have hKc := hK.sub (tys' := [(h1_0k, .int)]) [0] rfl
      have hFc := va_free (wc := (wd_c_X9_take h1 h1_0 h1_f1 x_55 h1_f3 h1_0 h1_0k h1_0c)) hD hS hA [0, 1] rfl
      refine va_calli (va_runV (As := [.int 33]) (rest := []) ⟨hx, hb, hml, hown, hts⟩ (c_X9_take l dC dI H.size h1 33 h1_0 h1_f1 x_55 h1_f3 h1_0k h1_0c (RG_w (RG_k 33 33 rfl) (by decide)) (RG_w h_61 (by decide)) (RG_w h_60 (by decide)) g_h1_f3 a_h1_0c) (cwV 1 hts gf_c_X4_readUnit_3_c_X9_take rfl rfl rfl (by decide +kernel) ⟨Nat.le_of_ble_eq_true rfl, Nat.le_of_ble_eq_true rfl⟩) ⟨fun a U g mk q => by obtain ⟨q0, q1, qP, qK, qD⟩ := q; exact ⟨q0, q1, qP, va_K.moved (u := U) (U := U.calling g mk a) (Vm.Alike.refl U.vm) qK, qD⟩, va_recv hKc hPc (ci := 9) (q0 := 0) rfl rfl, fun U hU hW => ⟨rfl, by rw [hU], by rw [hU]; exact hPc, va_K.moved hW.alike hKc, hDc.weaken (fun _ _ _ _ => trivial)⟩⟩ rfl rfl hl.1 rfl (lv_room (Nat.le_of_ble_eq_true rfl)) dX4_readUnit_81 ⟨Nat.le_of_ble_eq_true rfl, Nat.le_of_ble_eq_true rfl⟩) hS (fun q _ h => hFc q h) hFc (fun r_73 x_74 t H1 locs ht hvm hw hB hz1 hk1 hS => ?_)
      obtain ⟨hP1, hK1, hD1⟩ := hB
      rw [ht] at hP1
      obtain ⟨hP, hD⟩ := va_join (wr := [(h0, .inr (4, [.ref h0_0, .int h0_f1, .ref h0_2])), (h0_0, .inl (h0_0k, 240, .inl h0_0c))]) (w1 := (wd_c_X9_take h1 h1_0 h1_f1 x_74 h1_f3 h1_0 h1_0k h1_0c)) hP hD [0, 1] [2, 3] rfl rfl (by decide) (by decide) hk1 hFc hP1 hD1
      have hP := hP.sub (ws' := (wd_c_X4_readUnit_3 h1 h1_0 h1_f1 x_74 h1_f3 h1_0 h1_0k h1_0c h0 h0_0 h0_f1 h0_2 h0_0 h0_0k h0_0c)) [2, 3, 0, 1] rfl
      have hD := hD.sub (ws' := (wd_c_X4_readUnit_3 h1 h1_0 h1_f1 x_74 h1_f3 h1_0 h1_0k h1_0c h0 h0_0 h0_f1 h0_2 h0_0 h0_0k h0_0c)) [2, 3, 0, 1] (by decide) rfl
      generalize H1 = H at hP hS ⊢
      rcases hw with ⟨h_75, h_76, h_77⟩ | ⟨h_78, h_79, h_80, h_81, h_82⟩
      · rw [h_75]
        refine lv_if_eq (tgt := 105) hx hb dX4_readUnit_84 rfl (fun c_83 => ?_) (fun c_83 => absurd c_83 (by decide))
        refine lv_aload_n hx hb dX4_readUnit_105 rfl (lv_at hl 1 rfl) ?_
        refine lv_bipush (v := 40) hx hb dX4_readUnit_106 kc_bipush_40 ?_
        have hPc := hP.sub (ws' := (wd_c_X9_expect_1 h1 h1_0 h1_f1 x_74 h1_f3 h1_0 h1_0k h1_0c)) [0, 1] rfl
        have hDc := hD.sub (ws' := (wd_c_X9_expect_1 h1 h1_0 h1_f1 x_74 h1_f3 h1_0 h1_0k h1_0c)) [0, 1] (by decide) rfl
        have hKc := hK.sub (tys' := [(h1_0k, .int)]) [0] rfl
        have hFc := va_free (wc := (wd_c_X9_expect_1 h1 h1_0 h1_f1 x_74 h1_f3 h1_0 h1_0k h1_0c)) hD hS hA [0, 1] rfl
        refine va_callv (va_runV (As := [.int 40]) (rest := []) ⟨hx, hb, hml, hown, hts⟩ (c_X9_expect_1 l dC dI H.size h1 40 h1_0 h1_f1 x_74 h1_f3 h1_0k h1_0c (RG_w (RG_k 40 40 rfl) (by decide)) (RG_w h_61 (by decide)) h_76 g_h1_f3 a_h1_0c) (cwV 1 hts gf_c_X4_readUnit_3_c_X9_expect_1 rfl rfl rfl (by decide +kernel) ⟨Nat.le_of_ble_eq_true rfl, Nat.le_of_ble_eq_true rfl⟩) ⟨fun a U g mk q => by obtain ⟨q0, q1, qP, qK, qD⟩ := q; exact ⟨q0, q1, qP, va_K.moved (u := U) (U := U.calling g mk a) (Vm.Alike.refl U.vm) qK, qD⟩, va_recv hKc hPc (ci := 9) (q0 := 0) rfl rfl, fun U hU hW => ⟨rfl, by rw [hU], by rw [hU]; exact hPc, va_K.moved hW.alike hKc, hDc.weaken (fun _ _ _ _ => trivial)⟩⟩ rfl rfl hl.1 rfl (lv_room (Nat.le_of_ble_eq_true rfl)) dX4_readUnit_108 ⟨Nat.le_of_ble_eq_true rfl, Nat.le_of_ble_eq_true rfl⟩) hS (fun q _ h => hFc q h) hFc (fun u t H1 locs ht hvm hw hB hz1 hk1 hS => ?_)
        obtain ⟨x_85, x_86⟩ := u
        obtain ⟨hP1, hK1, hD1⟩ := hB
        rw [ht] at hP1
        obtain ⟨hP, hD⟩ := va_join (wr := [(h0, .inr (4, [.ref h0_0, .int h0_f1, .ref h0_2])), (h0_0, .inl (h0_0k, 240, .inl h0_0c))]) (w1 := (wd_c_X9_expect_1 h1 h1_0 h1_f1 x_85 x_86 h1_0 h1_0k h1_0c)) hP hD [0, 1] [2, 3] rfl rfl (by decide) (by decide) hk1 hFc hP1 hD1
        have hP := hP.sub (ws' := (wd_c_X4_readUnit_3 h1 h1_0 h1_f1 x_85 x_86 h1_0 h1_0k h1_0c h0 h0_0 h0_f1 h0_2 h0_0 h0_0k h0_0c)) [2, 3, 0, 1] rfl
        have hD := hD.sub (ws' := (wd_c_X4_readUnit_3 h1 h1_0 h1_f1 x_85 x_86 h1_0 h1_0k h1_0c h0 h0_0 h0_f1 h0_2 h0_0 h0_0k h0_0c)) [2, 3, 0, 1] (by decide) rfl
        generalize H1 = H at hP hS ⊢
        rcases hw with ⟨h_87, h_88, h_89⟩
        refine lv_aload_n hx hb dX4_readUnit_111 rfl (lv_at hl 0 rfl) ?_
        refine lv_aload_n hx hb dX4_readUnit_112 rfl (lv_at hl 1 rfl) ?_
        refine lv_iload_n hx hb dX4_readUnit_113 rfl (lv_at hl 2 rfl) ?_
        refine lv_iconst (v := 1) hx hb dX4_readUnit_114 kc_iconst_1 ?_
        refine lv_iadd hx hb dX4_readUnit_115 ?_
        refine lv_topi (fun x_90 ex_90 => ?_)
        obtain rfl : x_90 = 3 := ex_90.trans (by decide)
        refine lv_iconst (v := 0) hx hb dX4_readUnit_116 kc_iconst_0 ?_
        have hPc := hP.sub (ws' := (wd_c_X4_readCondition_3 h1 h1_0 h1_f1 x_85 x_86 h1_0 h1_0k h1_0c h0 h0_0 h0_f1 h0_2 h0_0 h0_0k h0_0c)) [0, 1, 2, 3] rfl
        have hDc := hD.sub (ws' := (wd_c_X4_readCondition_3 h1 h1_0 h1_f1 x_85 x_86 h1_0 h1_0k h1_0c h0 h0_0 h0_f1 h0_2 h0_0 h0_0k h0_0c)) [0, 1, 2, 3] (by decide) rfl
        have hKc := hK.sub (tys' := [(h1_0k, .int), (h0_0k, .int)]) [0, 1] rfl
        have hFc := va_free (wc := (wd_c_X4_readCondition_3 h1 h1_0 h1_f1 x_85 x_86 h1_0 h1_0k h1_0c h0 h0_0 h0_f1 h0_2 h0_0 h0_0k h0_0c)) hD hS hA [0, 1, 2, 3] rfl
        refine va_callv (va_runV (As := [.ref h1, .int 3, .int 0]) (rest := []) ⟨hx, hb, hml, hown, hts⟩ (c_X4_readCondition_3 l dC dI H.size h0 h1 h1_0 h1_f1 x_85 x_86 h1_0k h1_0c h0_0 h0_f1 h0_2 h0_0k h0_0c ts4 tv4 (RG_w h_61 (by decide)) h_87 h_88 a_h1_0c g_h0_f1) (cwV 3 hts gf_c_X4_readUnit_3_c_X4_readCondition_3 rfl rfl rfl (by decide +kernel) ⟨Nat.le_of_ble_eq_true rfl, Nat.le_of_ble_eq_true rfl⟩) ⟨fun a U g mk q => by obtain ⟨q0, q1, qP, qK, qD, qE0, qE1, qE2, qE3, qE4, qE5⟩ := q; exact ⟨q0, q1, qP, va_K.moved (u := U) (U := U.calling g mk a) (Vm.Alike.refl U.vm) qK, qD, vk_R.same rfl qE0, va_Z.moved (u := U) (U := U.calling g mk a) (Vm.Alike.refl U.vm) qE1, va_OF.moved (u := U) (U := U.calling g mk a) (Vm.Alike.refl U.vm) qE2, va_O.moved (u := U) (U := U.calling g mk a) (Vm.Alike.refl U.vm) qE3, va_OF.moved (u := U) (U := U.calling g mk a) (Vm.Alike.refl U.vm) qE4, va_T.moved (u := U) (U := U.calling g mk a) (Vm.Alike.refl U.vm) qE5⟩, va_recv hKc hPc (ci := 4) (q0 := 2) rfl rfl, fun U hU hW => ⟨rfl, by rw [hU], by rw [hU]; exact hPc, va_K.moved hW.alike hKc, hDc.weaken (fun _ _ _ _ => trivial), vk_R.warm hW hE_32, va_Z.moved hW.alike (by rw [hU]; exact (hE_10.kept hS.2.1).narrow hFc), va_OF.moved hW.alike (by rw [hU]; exact (hE_34.kept hS.2.1).narrow hFc), va_O.moved hW.alike (by rw [hU]; exact (hE_33.kept hS.2.1).narrow hFc), va_OF.moved hW.alike (by rw [hU]; exact (hE_35.kept hS.2.1).narrow hFc), va_T.moved hW.alike (by rw [hU]; exact (hE_36.kept hS.2.1).narrow hFc)⟩⟩ rfl rfl hl.1 rfl (lv_room (Nat.le_of_ble_eq_true rfl)) dX4_readUnit_117 ⟨Nat.le_of_ble_eq_true rfl, Nat.le_of_ble_eq_true rfl⟩) hS (fun q _ h => hFc q h) hFc (fun u t H1 locs ht hvm hw hB hz1 hk1 hS => ?_)
        obtain ⟨x_92, x_93, x_94, w_95⟩ := u
        obtain ⟨hP1, hK1, hD1⟩ := hB
        rw [ht] at hP1
        obtain ⟨hP, hD⟩ := va_join (wr := []) (w1 := (wd_c_X4_readCondition_3 h1 h1_0 h1_f1 x_92 x_93 h1_0 h1_0k h1_0c h0 h0_0 x_94 h0_2 h0_0 h0_0k w_95)) hP hD [0, 1, 2, 3] [] rfl rfl (by decide) (by decide) hk1 hFc hP1 hD1
        have hP := hP.sub (ws' := (wd_c_X4_readUnit_3 h1 h1_0 h1_f1 x_92 x_93 h1_0 h1_0k h1_0c h0 h0_0 x_94 h0_2 h0_0 h0_0k w_95)) [0, 1, 2, 3] rfl
        have hD := hD.sub (ws' := (wd_c_X4_readUnit_3 h1 h1_0 h1_f1 x_92 x_93 h1_0 h1_0k h1_0c h0 h0_0 x_94 h0_2 h0_0 h0_0k w_95)) [0, 1, 2, 3] (by decide) rfl
        generalize H1 = H at hP hS ⊢
        rcases hw with ⟨h_96, h_97, h_98⟩
        refine lv_aload_n hx hb dX4_readUnit_120 rfl (lv_at hl 1 rfl) ?_
        refine lv_bipush (v := 41) hx hb dX4_readUnit_121 kc_bipush_41 ?_
        have hPc := hP.sub (ws' := (wd_c_X9_expect_1 h1 h1_0 h1_f1 x_92 x_93 h1_0 h1_0k h1_0c)) [0, 1] rfl
        have hDc := hD.sub (ws' := (wd_c_X9_expect_1 h1 h1_0 h1_f1 x_92 x_93 h1_0 h1_0k h1_0c)) [0, 1] (by decide) rfl
        have hKc := hK.sub (tys' := [(h1_0k, .int)]) [0] rfl
        have hFc := va_free (wc := (wd_c_X9_expect_1 h1 h1_0 h1_f1 x_92 x_93 h1_0 h1_0k h1_0c)) hD hS hA [0, 1] rfl
        refine va_callv (va_runV (As := [.int 41]) (rest := []) ⟨hx, hb, hml, hown, hts⟩ (c_X9_expect_1 l dC dI H.size h1 41 h1_0 h1_f1 x_92 x_93 h1_0k h1_0c (RG_w (RG_k 41 41 rfl) (by decide)) (RG_w h_61 (by decide)) h_96 h_97 a_h1_0c) (cwV 1 hts gf_c_X4_readUnit_3_c_X9_expect_1 rfl rfl rfl (by decide +kernel) ⟨Nat.le_of_ble_eq_true rfl, Nat.le_of_ble_eq_true rfl⟩) ⟨fun a U g mk q => by obtain ⟨q0, q1, qP, qK, qD⟩ := q; exact ⟨q0, q1, qP, va_K.moved (u := U) (U := U.calling g mk a) (Vm.Alike.refl U.vm) qK, qD⟩, va_recv hKc hPc (ci := 9) (q0 := 0) rfl rfl, fun U hU hW => ⟨rfl, by rw [hU], by rw [hU]; exact hPc, va_K.moved hW.alike hKc, hDc.weaken (fun _ _ _ _ => trivial)⟩⟩ rfl rfl hl.1 rfl (lv_room (Nat.le_of_ble_eq_true rfl)) dX4_readUnit_123 ⟨Nat.le_of_ble_eq_true rfl, Nat.le_of_ble_eq_true rfl⟩) hS (fun q _ h => hFc q h) hFc (fun u t H1 locs ht hvm hw hB hz1 hk1 hS => ?_)
        obtain ⟨x_100, x_101⟩ := u
        obtain ⟨hP1, hK1, hD1⟩ := hB
        rw [ht] at hP1
        obtain ⟨hP, hD⟩ := va_join (wr := [(h0, .inr (4, [.ref h0_0, .int x_94, .ref h0_2])), (h0_0, .inl (h0_0k, 240, .inl w_95))]) (w1 := (wd_c_X9_expect_1 h1 h1_0 h1_f1 x_100 x_101 h1_0 h1_0k h1_0c)) hP hD [0, 1] [2, 3] rfl rfl (by decide) (by decide) hk1 hFc hP1 hD1
        have hP := hP.sub (ws' := (wd_c_X4_readUnit_3 h1 h1_0 h1_f1 x_100 x_101 h1_0 h1_0k h1_0c h0 h0_0 x_94 h0_2 h0_0 h0_0k w_95)) [2, 3, 0, 1] rfl
        have hD := hD.sub (ws' := (wd_c_X4_readUnit_3 h1 h1_0 h1_f1 x_100 x_101 h1_0 h1_0k h1_0c h0 h0_0 x_94 h0_2 h0_0 h0_0k w_95)) [2, 3, 0, 1] (by decide) rfl
        generalize H1 = H at hP hS ⊢
        rcases hw with ⟨h_102, h_103, h_104⟩
        have hK9 := hK.sub (tys' := []) [] rfl
        exact W.vret hx hb hr (fun t ht hW => ⟨⟨(x_100, x_101, x_94, w_95), rfl, ⟨h_102, h_103, h_98⟩, by rw [ht]; exact hP, va_K.moved hW.alike hK9, hD⟩, hS.F ht⟩) hS.2.2 dX4_readUnit_126
      · rw [h_78]
        refine lv_if_eq (tgt := 105) hx hb dX4_readUnit_84 rfl (fun c_105 => absurd c_105 (by decide)) (fun c_105 => ?_)
        refine lv_aload_n hx hb dX4_readUnit_87 rfl (lv_at hl 0 rfl) ?_
        refine lv_aload_n hx hb dX4_readUnit_88 rfl (lv_at hl 1 rfl) ?_
        refine lv_iload_n hx hb dX4_readUnit_89 rfl (lv_at hl 2 rfl) ?_
        refine lv_iconst (v := 1) hx hb dX4_readUnit_90 kc_iconst_1 ?_
        refine lv_iadd hx hb dX4_readUnit_91 ?_
        refine lv_topi (fun x_106 ex_106 => ?_)
        obtain rfl : x_106 = 3 := ex_106.trans (by decide)
        refine lv_iconst (v := 0) hx hb dX4_readUnit_92 kc_iconst_0 ?_
        have hPc := hP.sub (ws' := (wd_c_X4_readUnit_4 h1 h1_0 h1_f1 x_74 h1_f3 h1_0 h1_0k h1_0c h0 h0_0 h0_f1 h0_2 h0_0 h0_0k h0_0c)) [0, 1, 2, 3] rfl
        have hDc := hD.sub (ws' := (wd_c_X4_readUnit_4 h1 h1_0 h1_f1 x_74 h1_f3 h1_0 h1_0k h1_0c h0 h0_0 h0_f1 h0_2 h0_0 h0_0k h0_0c)) [0, 1, 2, 3] (by decide) rfl
        have hKc := hK.sub (tys' := [(h1_0k, .int), (h0_0k, .int)]) [0, 1] rfl
        have hFc := va_free (wc := (wd_c_X4_readUnit_4 h1 h1_0 h1_f1 x_74 h1_f3 h1_0 h1_0k h1_0c h0 h0_0 h0_f1 h0_2 h0_0 h0_0k h0_0c)) hD hS hA [0, 1, 2, 3] rfl
        refine va_callv (va_runV (As := [.ref h1, .int 3, .int 0]) (rest := []) ⟨hx, hb, hml, hown, hts⟩ (c_X4_readUnit_4 l dC dI H.size h0 h1 h1_0 h1_f1 x_74 h1_f3 h1_0k h1_0c h0_0 h0_f1 h0_2 h0_0k h0_0c ts4 tv4 (RG_w h_61 (by decide)) (RG_w h_79 (by decide)) (RG_w h_81 (by decide)) a_h1_0c g_h0_f1) (cwV 3 hts gf_c_X4_readUnit_3_c_X4_readUnit_4 rfl rfl rfl (by decide +kernel) ⟨Nat.le_of_ble_eq_true rfl, Nat.le_of_ble_eq_true rfl⟩) ⟨fun a U g mk q => by obtain ⟨q0, q1, qP, qK, qD, qE0, qE1, qE2, qE3, qE4, qE5⟩ := q; exact ⟨q0, q1, qP, va_K.moved (u := U) (U := U.calling g mk a) (Vm.Alike.refl U.vm) qK, qD, vk_R.same rfl qE0, va_Z.moved (u := U) (U := U.calling g mk a) (Vm.Alike.refl U.vm) qE1, va_OF.moved (u := U) (U := U.calling g mk a) (Vm.Alike.refl U.vm) qE2, va_O.moved (u := U) (U := U.calling g mk a) (Vm.Alike.refl U.vm) qE3, va_OF.moved (u := U) (U := U.calling g mk a) (Vm.Alike.refl U.vm) qE4, va_T.moved (u := U) (U := U.calling g mk a) (Vm.Alike.refl U.vm) qE5⟩, va_recv hKc hPc (ci := 4) (q0 := 2) rfl rfl, fun U hU hW => ⟨rfl, by rw [hU], by rw [hU]; exact hPc, va_K.moved hW.alike hKc, hDc.weaken (fun _ _ _ _ => trivial), vk_R.warm hW hE_32, va_Z.moved hW.alike (by rw [hU]; exact (hE_10.kept hS.2.1).narrow hFc), va_OF.moved hW.alike (by rw [hU]; exact (hE_34.kept hS.2.1).narrow hFc), va_O.moved hW.alike (by rw [hU]; exact (hE_33.kept hS.2.1).narrow hFc), va_OF.moved hW.alike (by rw [hU]; exact (hE_35.kept hS.2.1).narrow hFc), va_T.moved hW.alike (by rw [hU]; exact (hE_36.kept hS.2.1).narrow hFc)⟩⟩ rfl rfl hl.1 rfl (lv_room (Nat.le_of_ble_eq_true rfl)) dX4_readUnit_93 ⟨Nat.le_of_ble_eq_true rfl, Nat.le_of_ble_eq_true rfl⟩) hS (fun q _ h => hFc q h) hFc (fun u t H1 locs ht hvm hw hB hz1 hk1 hS => ?_)
        obtain ⟨x_108, x_109, x_110, w_111⟩ := u
        obtain ⟨hP1, hK1, hD1⟩ := hB
        rw [ht] at hP1
        obtain ⟨hP, hD⟩ := va_join (wr := []) (w1 := (wd_c_X4_readUnit_4 h1 h1_0 h1_f1 x_108 x_109 h1_0 h1_0k h1_0c h0 h0_0 x_110 h0_2 h0_0 h0_0k w_111)) hP hD [0, 1, 2, 3] [] rfl rfl (by decide) (by decide) hk1 hFc hP1 hD1
        have hP := hP.sub (ws' := (wd_c_X4_readUnit_3 h1 h1_0 h1_f1 x_108 x_109 h1_0 h1_0k h1_0c h0 h0_0 x_110 h0_2 h0_0 h0_0k w_111)) [0, 1, 2, 3] rfl
        have hD := hD.sub (ws' := (wd_c_X4_readUnit_3 h1 h1_0 h1_f1 x_108 x_109 h1_0 h1_0k h1_0c h0 h0_0 x_110 h0_2 h0_0 h0_0k w_111)) [0, 1, 2, 3] (by decide) rfl
        generalize H1 = H at hP hS ⊢
        rcases hw with ⟨h_112, h_113, h_114⟩
        refine lv_aload_n hx hb dX4_readUnit_96 rfl (lv_at hl 0 rfl) ?_
        refine lv_bipush (v := (-33)) hx hb dX4_readUnit_97 kc_bipush_m33 ?_
        have hPc := hP.sub (ws' := (wd_c_X4_emit h0 h0_0 x_110 h0_2 h0_0 h0_0k w_111)) [2, 3] rfl
        have hDc := hD.sub (ws' := (wd_c_X4_emit h0 h0_0 x_110 h0_2 h0_0 h0_0k w_111)) [2, 3] (by decide) rfl
        have hKc := hK.sub (tys' := [(h0_0k, .int)]) [1] rfl
        have hFc := va_free (wc := (wd_c_X4_emit h0 h0_0 x_110 h0_2 h0_0 h0_0k w_111)) hD hS hA [2, 3] rfl
        refine va_callv (va_runV (As := [.int (-33)]) (rest := []) ⟨hx, hb, hml, hown, hts⟩ (c_X4_emit l dC dI H.size h0 (-33) h0_0 x_110 h0_2 h0_0k w_111 h_114) (cwV 1 hts gf_c_X4_readUnit_3_c_X4_emit rfl rfl rfl (by decide +kernel) ⟨Nat.le_of_ble_eq_true rfl, Nat.le_of_ble_eq_true rfl⟩) ⟨fun a U g mk q => by obtain ⟨q0, q1, qP, qK, qD⟩ := q; exact ⟨q0, q1, qP, va_K.moved (u := U) (U := U.calling g mk a) (Vm.Alike.refl U.vm) qK, qD⟩, va_recv hKc hPc (ci := 4) (q0 := 0) rfl rfl, fun U hU hW => ⟨rfl, by rw [hU], by rw [hU]; exact hPc, va_K.moved hW.alike hKc, hDc.weaken (fun _ _ _ _ => trivial)⟩⟩ rfl rfl hl.1 rfl (lv_room (Nat.le_of_ble_eq_true rfl)) dX4_readUnit_99 ⟨Nat.le_of_ble_eq_true rfl, Nat.le_of_ble_eq_true rfl⟩) hS (fun q _ h => hFc q h) hFc (fun u t H1 locs ht hvm hw hB hz1 hk1 hS => ?_)
        obtain ⟨x_116, w_117⟩ := u
        obtain ⟨hP1, hK1, hD1⟩ := hB
        rw [ht] at hP1
        obtain ⟨hP, hD⟩ := va_join (wr := [(h1, .inr (9, [.ref h1_0, .int h1_f1, .int x_108, .int x_109])), (h1_0, .inl (h1_0k, 240, .inl h1_0c))]) (w1 := (wd_c_X4_emit h0 h0_0 x_116 h0_2 h0_0 h0_0k w_117)) hP hD [2, 3] [0, 1] rfl rfl (by decide) (by decide) hk1 hFc hP1 hD1
        have hP := hP.sub (ws' := (wd_c_X4_readUnit_3 h1 h1_0 h1_f1 x_108 x_109 h1_0 h1_0k h1_0c h0 h0_0 x_116 h0_2 h0_0 h0_0k w_117)) [0, 1, 2, 3] rfl
        have hD := hD.sub (ws' := (wd_c_X4_readUnit_3 h1 h1_0 h1_f1 x_108 x_109 h1_0 h1_0k h1_0c h0 h0_0 x_116 h0_2 h0_0 h0_0k w_117)) [0, 1, 2, 3] (by decide) rfl
        generalize H1 = H at hP hS ⊢
        have h_118 := hw
        refine lv_goto (tgt := 126) hx hb dX4_readUnit_102 rfl ?_
        have hK9 := hK.sub (tys' := []) [] rfl
        exact W.vret hx hb hr (fun t ht hW => ⟨⟨(x_108, x_109, x_116, w_117), rfl, ⟨h_112, h_113, (RG_w h_118 (by decide))⟩, by rw [ht]; exact hP, va_K.moved hW.alike hK9, hD⟩, hS.F ht⟩) hS.2.2 dX4_readUnit_126
def wd_c_X4_readCondition_2 (a0 : Nat) (a1 : Nat) (a2 : Int32) (a3 : Int32) (a4 : Int32) (a5 : Nat) (a6 : ClassId) (a7 : Nat → Int32) (a8 : Nat) (a9 : Nat) (a10 : Int32) (a11 : Nat) (a12 : Nat) (a13 : ClassId) (a14 : Nat → Int32) : va_W := [(a0, .inr (9, [.ref a1, .int a2, .int a3, .int a4])), (a5, .inl (a6, 240, .inl a7)), (a8, .inr (4, [.ref a9, .int a10, .ref a11])), (a12, .inl (a13, 240, .inl a14))]
def wf_c_X4_readCondition_2 : List Cond := .code yX4_readCondition cX4_readCondition 7 none :: ([.methodLink RX4 72 yX9_isRight, .instanceMethod yX9_isRight, .selects RX9 yX9_isRight yX9_isRight, .initialized RX9, .code yX9_isRight cX9_isRight 1 (some .boolean), .fieldLink RX9 15 "BuoyVote$Tape" "wrong" "I", .methodLink RX4 76 yX4_readUnit, .instanceMethod yX4_readUnit, .selects RX4 yX4_readUnit yX4_readUnit, .initialized RX4, .code yX4_readUnit cX4_readUnit 5 none, .methodLink RX4 41 yX9_peek, .instanceMethod yX9_peek, .selects RX9 yX9_peek yX9_peek, .code yX9_peek cX9_peek 1 (some .int), .fieldLink RX9 22 "BuoyVote$Tape" "at" "I", .fieldLink RX9 19 "BuoyVote$Tape" "length" "I", .fieldLink RX9 11 "BuoyVote$Tape" "bytes" "[I", .methodLink RX4 45 yX4_startsUnit, .static yX4_startsUnit, .code yX4_startsUnit cX4_startsUnit 1 (some .boolean), .methodLink RX4 63 yX9_take, .instanceMethod yX9_take, .selects RX9 yX9_take yX9_take, .code yX9_take cX9_take 2 (some .boolean), .methodLink RX9 29 yX9_peek, .methodLink RX4 37 yX9_expect, .instanceMethod yX9_expect, .selects RX9 yX9_expect yX9_expect, .code yX9_expect cX9_expect 2 none, .methodLink RX9 25 yX9_refuse, .instanceMethod yX9_refuse, .selects RX9 yX9_refuse yX9_refuse, .code yX9_refuse cX9_refuse 2 none, .methodLink RX4 56 yX4_readCondition, .instanceMethod yX4_readCondition, .selects RX4 yX4_readCondition yX4_readCondition, .methodLink RX4 82 yX9_refuseHere, .instanceMethod yX9_refuseHere, .selects RX9 yX9_refuseHere yX9_refuseHere, .code yX9_refuseHere cX9_refuseHere 1 none, .methodLink RX4 49 yX4_readSum, .instanceMethod yX4_readSum, .selects RX4 yX4_readSum yX4_readSum, .code yX4_readSum cX4_readSum 6 none, .methodLink RX4 85 yX4_readAtom, .instanceMethod yX4_readAtom, .selects RX4 yX4_readAtom yX4_readAtom, .code yX4_readAtom cX4_readAtom 6 none, .methodLink RX4 93 yJ0_indexOf_0f7a4, .instanceMethod yJ0_indexOf_0f7a4, .selects RJ0 yJ0_indexOf_0f7a4 yJ0_indexOf_0f7a4, .initialized RJ0, .code yJ0_indexOf_0f7a4 cJ0_indexOf_0f7a4 2 (some .int), .methodLink RJ0 633 yJ0_indexOf_7cf53, .instanceMethod yJ0_indexOf_7cf53, .selects RJ0 yJ0_indexOf_7cf53 yJ0_indexOf_7cf53, .code yJ0_indexOf_7cf53 cJ0_indexOf_7cf53 3 (some .int), .methodLink RJ0 492 yJ0_isLatin1_aae02, .instanceMethod yJ0_isLatin1_aae02, .selects RJ0 yJ0_isLatin1_aae02 yJ0_isLatin1_aae02, .code yJ0_isLatin1_aae02 cJ0_isLatin1_aae02 1 (some .boolean), .fieldLink RJ0 38 "java/lang/String" "COMPACT_STRINGS" "Z", .fieldLink RJ0 15 "java/lang/String" "coder" "B", .fieldLink RJ0 9 "java/lang/String" "value" "[B", .methodLink RJ0 505 yJ0_length_8abf5, .instanceMethod yJ0_length_8abf5, .selects RJ0 yJ0_length_8abf5 yJ0_length_8abf5, .code yJ0_length_8abf5 cJ0_length_8abf5 1 (some .int), .methodLink RJ0 335 yJ0_coder_7d493, .instanceMethod yJ0_coder_7d493, .selects RJ0 yJ0_coder_7d493 yJ0_coder_7d493, .code yJ0_coder_7d493 cJ0_coder_7d493 1 (some .byte), .methodLink RJ0 637 yJ1_indexOf_4cfef, .static yJ1_indexOf_4cfef, .initialized RJ1, .code yJ1_indexOf_4cfef cJ1_indexOf_4cfef 4 (some .int), .methodLink RJ1 88 yJ1_canEncode_9a6ad, .static yJ1_canEncode_9a6ad, .code yJ1_canEncode_9a6ad cJ1_canEncode_9a6ad 1 (some .boolean), .methodLink RJ1 92 Lib.Math.max.name, .static Lib.Math.max.name, .initialized "java/lang/Math", .code Lib.Math.max.name Lib.Math.max.code 2 (some .int), .methodLink RJ1 38 Lib.Math.min.name, .static Lib.Math.min.name, .code Lib.Math.min.name Lib.Math.min.code 2 (some .int), .methodLink RJ1 95 yJ1_indexOfChar_4cfef, .static yJ1_indexOfChar_4cfef, .code yJ1_indexOfChar_4cfef cJ1_indexOfChar_4cfef 6 (some .int), .methodLink RX4 99 yX9_number, .instanceMethod yX9_number, .selects RX9 yX9_number yX9_number, .code yX9_number cX9_number 4 (some .int), .methodLink RX4 79 yX9_skip, .instanceMethod yX9_skip, .selects RX9 yX9_skip yX9_skip, .code yX9_skip cX9_skip 1 none, .methodLink RX4 60 yX4_emit, .instanceMethod yX4_emit, .selects RX4 yX4_emit yX4_emit, .code yX4_emit cX4_emit 2 none, .fieldLink RX4 20 "BuoyVote$Law" "length" "I", .fieldLink RX4 11 "BuoyVote$Law" "code" "[I", .methodLink RX4 88 yX9_takeEither, .instanceMethod yX9_takeEither, .selects RX9 yX9_takeEither yX9_takeEither, .code yX9_takeEither cX9_takeEither 4 (some .int), .methodLink RX4 53 yX4_isComparison, .static yX4_isComparison, .code yX4_isComparison cX4_isComparison 1 (some .boolean)] ++ wsX90 ++ wsX40)
theorem iw_c_X4_readCondition_2_X9 : ∀ w ∈ wsX90, w ∈ wf_c_X4_readCondition_2 := fun w h => List.mem_cons_of_mem _ (List.mem_append_left _ (List.mem_append_right _ h))
theorem iw_c_X4_readCondition_2_X4 : ∀ w ∈ wsX40, w ∈ wf_c_X4_readCondition_2 := fun w h => List.mem_cons_of_mem _ (List.mem_append_right _ h)
set_option maxRecDepth 20000 in
theorem gf_c_X4_readCondition_2_c_X9_take_1 : GoodIn wf_c_X4_readCondition_2 (wsV RX4 63 RX9 yX9_take wf_c_X9_take_1) := goodIn_app (gi_cons (j := 22) rfl rfl (gi_cons (j := 23) rfl rfl (gi_cons (j := 24) rfl rfl (gi_cons (j := 4) rfl rfl (gi_nil))))) (gi_cons (j := 25) rfl rfl (goodIn_app (gi_cons (j := 6) rfl rfl (gi_cons (j := 26) rfl rfl (gi_cons (j := 13) rfl rfl (gi_cons (j := 14) rfl rfl (gi_cons (j := 4) rfl rfl (gi_cons (j := 15) rfl rfl (gi_cons (j := 16) rfl rfl (gi_cons (j := 17) rfl rfl (gi_cons (j := 18) rfl rfl (gi_nil)))))))))) (goodIn_sub iw_c_X4_readCondition_2_X9 gw_X9)))
set_option maxRecDepth 20000 in
theorem gf_c_X4_readCondition_2_c_X9_take : GoodIn wf_c_X4_readCondition_2 (wsV RX4 63 RX9 yX9_take wf_c_X9_take) := goodIn_app (gi_cons (j := 22) rfl rfl (gi_cons (j := 23) rfl rfl (gi_cons (j := 24) rfl rfl (gi_cons (j := 4) rfl rfl (gi_nil))))) (gi_cons (j := 25) rfl rfl (goodIn_app (gi_cons (j := 6) rfl rfl (gi_cons (j := 26) rfl rfl (gi_cons (j := 13) rfl rfl (gi_cons (j := 14) rfl rfl (gi_cons (j := 4) rfl rfl (gi_cons (j := 15) rfl rfl (gi_cons (j := 16) rfl rfl (gi_cons (j := 17) rfl rfl (gi_cons (j := 18) rfl rfl (gi_nil)))))))))) (goodIn_sub iw_c_X4_readCondition_2_X9 gw_X9)))
set_option maxRecDepth 20000 in
theorem gf_c_X4_readCondition_2_c_X4_emit : GoodIn wf_c_X4_readCondition_2 (wsV RX4 60 RX4 yX4_emit wf_c_X4_emit) := goodIn_app (gi_cons (j := 99) rfl rfl (gi_cons (j := 100) rfl rfl (gi_cons (j := 101) rfl rfl (gi_cons (j := 10) rfl rfl (gi_nil))))) (gi_cons (j := 102) rfl rfl (goodIn_app (gi_cons (j := 103) rfl rfl (gi_cons (j := 104) rfl rfl (gi_nil))) (goodIn_sub iw_c_X4_readCondition_2_X4 gw_X4)))
set_option maxRecDepth 20000 in
theorem gf_c_X4_readCondition_2_c_X4_readUnit_3 : GoodIn wf_c_X4_readCondition_2 (wsV RX4 76 RX4 yX4_readUnit wf_c_X4_readUnit_3) := goodIn_app (gi_cons (j := 7) rfl rfl (gi_cons (j := 8) rfl rfl (gi_cons (j := 9) rfl rfl (gi_cons (j := 10) rfl rfl (gi_nil))))) (gi_cons (j := 11) rfl rfl (goodIn_app (goodIn_app (gi_cons (j := 12) rfl rfl (gi_cons (j := 13) rfl rfl (gi_cons (j := 14) rfl rfl (gi_cons (j := 4) rfl rfl (gi_cons (j := 15) rfl rfl (gi_cons (j := 16) rfl rfl (gi_cons (j := 17) rfl rfl (gi_cons (j := 18) rfl rfl (gi_cons (j := 19) rfl rfl (gi_cons (j := 20) rfl rfl (gi_cons (j := 10) rfl rfl (gi_cons (j := 21) rfl rfl (gi_cons (j := 22) rfl rfl (gi_cons (j := 23) rfl rfl (gi_cons (j := 24) rfl rfl (gi_cons (j := 25) rfl rfl (gi_cons (j := 6) rfl rfl (gi_cons (j := 26) rfl rfl (gi_cons (j := 27) rfl rfl (gi_cons (j := 28) rfl rfl (gi_cons (j := 29) rfl rfl (gi_cons (j := 30) rfl rfl (gi_cons (j := 31) rfl rfl (gi_cons (j := 32) rfl rfl (gi_cons (j := 33) rfl rfl (gi_cons (j := 34) rfl rfl (gi_cons (j := 35) rfl rfl (gi_cons (j := 36) rfl rfl (gi_cons (j := 37) rfl rfl (gi_cons (j := 0) rfl rfl (gi_cons (j := 1) rfl rfl (gi_cons (j := 2) rfl rfl (gi_cons (j := 3) rfl rfl (gi_cons (j := 5) rfl rfl (gi_cons (j := 7) rfl rfl (gi_cons (j := 8) rfl rfl (gi_cons (j := 9) rfl rfl (gi_cons (j := 38) rfl rfl (gi_cons (j := 39) rfl rfl (gi_cons (j := 40) rfl rfl (gi_cons (j := 41) rfl rfl (gi_cons (j := 42) rfl rfl (gi_cons (j := 43) rfl rfl (gi_cons (j := 44) rfl rfl (gi_cons (j := 45) rfl rfl (gi_cons (j := 46) rfl rfl (gi_cons (j := 47) rfl rfl (gi_cons (j := 48) rfl rfl (gi_cons (j := 49) rfl rfl (gi_cons (j := 50) rfl rfl (gi_cons (j := 51) rfl rfl (gi_cons (j := 52) rfl rfl (gi_cons (j := 53) rfl rfl (gi_cons (j := 54) rfl rfl (gi_cons (j := 55) rfl rfl (gi_cons (j := 56) rfl rfl (gi_cons (j := 57) rfl rfl (gi_cons (j := 58) rfl rfl (gi_cons (j := 59) rfl rfl (gi_cons (j := 60) rfl rfl (gi_cons (j := 61) rfl rfl (gi_cons (j := 62) rfl rfl (gi_cons (j := 63) rfl rfl (gi_cons (j := 64) rfl rfl (gi_cons (j := 65) rfl rfl (gi_cons (j := 66) rfl rfl (gi_cons (j := 67) rfl rfl (gi_cons (j := 68) rfl rfl (gi_cons (j := 69) rfl rfl (gi_cons (j := 70) rfl rfl (gi_cons (j := 71) rfl rfl (gi_cons (j := 72) rfl rfl (gi_cons (j := 73) rfl rfl (gi_cons (j := 74) rfl rfl (gi_cons (j := 75) rfl rfl (gi_cons (j := 76) rfl rfl (gi_cons (j := 77) rfl rfl (gi_cons (j := 78) rfl rfl (gi_cons (j := 79) rfl rfl (gi_cons (j := 80) rfl rfl (gi_cons (j := 81) rfl rfl (gi_cons (j := 82) rfl rfl (gi_cons (j := 83) rfl rfl (gi_cons (j := 84) rfl rfl (gi_cons (j := 85) rfl rfl (gi_cons (j := 86) rfl rfl (gi_cons (j := 87) rfl rfl (gi_cons (j := 88) rfl rfl (gi_cons (j := 89) rfl rfl (gi_cons (j := 90) rfl rfl (gi_cons (j := 91) rfl rfl (gi_cons (j := 92) rfl rfl (gi_cons (j := 93) rfl rfl (gi_cons (j := 94) rfl rfl (gi_cons (j := 95) rfl rfl (gi_cons (j := 96) rfl rfl (gi_cons (j := 97) rfl rfl (gi_cons (j := 98) rfl rfl (gi_cons (j := 99) rfl rfl (gi_cons (j := 100) rfl rfl (gi_cons (j := 101) rfl rfl (gi_cons (j := 102) rfl rfl (gi_cons (j := 103) rfl rfl (gi_cons (j := 104) rfl rfl (gi_cons (j := 105) rfl rfl (gi_cons (j := 106) rfl rfl (gi_cons (j := 107) rfl rfl (gi_cons (j := 108) rfl rfl (gi_cons (j := 109) rfl rfl (gi_cons (j := 110) rfl rfl (gi_cons (j := 111) rfl rfl (gi_nil)))))))))))))))))))))))))))))))))))))))))))))))))))))))))))))))))))))))))))))))))))))))))))))))))))))))))))))))) (goodIn_sub iw_c_X4_readCondition_2_X9 gw_X9)) (goodIn_sub iw_c_X4_readCondition_2_X4 gw_X4)))
set_option maxRecDepth 20000 in
theorem gf_c_X4_readCondition_2_c_X9_isRight : GoodIn wf_c_X4_readCondition_2 (wsV RX4 72 RX9 yX9_isRight wf_c_X9_isRight) := goodIn_app (gi_cons (j := 1) rfl rfl (gi_cons (j := 2) rfl rfl (gi_cons (j := 3) rfl rfl (gi_cons (j := 4) rfl rfl (gi_nil))))) (gi_cons (j := 5) rfl rfl (goodIn_app (gi_cons (j := 6) rfl rfl (gi_nil)) (goodIn_sub iw_c_X4_readCondition_2_X9 gw_X9)))
set_option maxHeartbeats 4000000 in
set_option maxRecDepth 100000 in
theorem c_X4_readCondition_2 (l : Launch) (dC : Nat → ClassId) (dI : Nat → Nat → Nat) (sz : Nat) (h0 : Nat) (h1 : Nat) (h1_0 : Nat) (h1_f1 : Int32) (h1_f2 : Int32) (h1_f3 : Int32) (h1_0k : ClassId) (h1_0c : Nat → Int32) (h0_0 : Nat) (h0_f1 : Int32) (h0_2 : Nat) (h0_0k : ClassId) (h0_0c : Nat → Int32) (ts4 : Nat) (tv4 : Nat) (g_h1_f1 : RG h1_f1 0 240) (g_h1_f2 : RG h1_f2 0 240) (g_h1_f3 : RG h1_f3 (-1) 240) (a_h1_0c : AI h1_0c 0 255) (g_h0_f1 : RG h0_f1 0 240) : Met l yX4_readCondition wf_c_X4_readCondition_2 ({ frames := 15, cells := 0, slots := 0, locals := 365 }) (va_Pc [.ref h0, .ref h1, .int 2, .int 0] (fun U => U.heap.size = sz ∧ va_P (dC, dI) vwCl (wd_c_X4_readCondition_2 h1 h1_0 h1_f1 h1_f2 h1_f3 h1_0 h1_0k h1_0c h0 h0_0 h0_f1 h0_2 h0_0 h0_0k h0_0c) U.heap ∧ va_K (dC, dI) vwCl [(h1_0k, .int), (h0_0k, .int)] U ∧ va_D (fun _ => True) (wd_c_X4_readCondition_2 h1 h1_0 h1_f1 h1_f2 h1_f3 h1_0 h1_0k h1_0c h0 h0_0 h0_f1 h0_2 h0_0 h0_0k h0_0c) ∧ vk_R RX4 91 "vlrdph" ts4 U ∧ va_Z "java/lang/String" "COMPACT_STRINGS" "Z" (.int 1) (va_A (wd_c_X4_readCondition_2 h1 h1_0 h1_f1 h1_f2 h1_f3 h1_0 h1_0k h1_0c h0 h0_0 h0_f1 h0_2 h0_0 h0_0k h0_0c) sz) U U.heap ∧ va_OF "java/lang/String" "coder" "B" (.int 0) ts4 (va_A (wd_c_X4_readCondition_2 h1 h1_0 h1_f1 h1_f2 h1_f3 h1_0 h1_0k h1_0c h0 h0_0 h0_f1 h0_2 h0_0 h0_0k h0_0c) sz) U U.heap ∧ va_O "java/lang/String" ts4 (va_A (wd_c_X4_readCondition_2 h1 h1_0 h1_f1 h1_f2 h1_f3 h1_0 h1_0k h1_0c h0 h0_0 h0_f1 h0_2 h0_0 h0_0k h0_0c) sz) U U.heap ∧ va_OF "java/lang/String" "value" "[B" (.ref tv4) ts4 (va_A (wd_c_X4_readCondition_2 h1 h1_0 h1_f1 h1_f2 h1_f3 h1_0 h1_0k h1_0c h0 h0_0 h0_f1 h0_2 h0_0 h0_0k h0_0c) sz) U U.heap ∧ va_T .byte tv4 6 (fun j => .int ([118, 108, 114, 100, 112, 104].getD j 0)) (va_A (wd_c_X4_readCondition_2 h1 h1_0 h1_f1 h1_f2 h1_f3 h1_0 h1_0k h1_0c h0 h0_0 h0_f1 h0_2 h0_0 h0_0k h0_0c) sz) U U.heap)) (va_Qv (fun (u : (Int32) × (Int32) × (Int32) × (Nat → Int32)) => (RG u.1 0 240 ∧ RG u.2.1 (-1) 240 ∧ RG u.2.2.1 0 240)) (fun (u : (Int32) × (Int32) × (Int32) × (Nat → Int32)) t => va_P (dC, dI) vwCl (wd_c_X4_readCondition_2 h1 h1_0 h1_f1 (u.1) (u.2.1) h1_0 h1_0k h1_0c h0 h0_0 (u.2.2.1) h0_2 h0_0 h0_0k (u.2.2.2)) t.heap ∧ va_K (dC, dI) vwCl [] t ∧ va_D (va_A (wd_c_X4_readCondition_2 h1 h1_0 h1_f1 h1_f2 h1_f3 h1_0 h1_0k h1_0c h0 h0_0 h0_f1 h0_2 h0_0 h0_0k h0_0c) sz) (wd_c_X4_readCondition_2 h1 h1_0 h1_f1 (u.1) (u.2.1) h1_0 h1_0k h1_0c h0 h0_0 (u.2.2.1) h0_2 h0_0 h0_0k (u.2.2.2))) (va_A (wd_c_X4_readCondition_2 h1 h1_0 h1_f1 h1_f2 h1_f3 h1_0 h1_0k h1_0c h0 h0_0 h0_f1 h0_2 h0_0 h0_0k h0_0c) sz)) 0 0 (va_A (wd_c_X4_readCondition_2 h1 h1_0 h1_f1 h1_f2 h1_f3 h1_0 h1_0k h1_0c h0 h0_0 h0_f1 h0_2 h0_0 h0_0k h0_0c) sz) := by
  refine Met.ofW (cc := cX4_readCondition) (maxL := 7) (ret := none) (by decide) rfl ?_
  intro p e s m args below meth c s₁ B hml hv
  obtain ⟨rfl, hsz, hP, hK, hD0, hE_32, hE_10, hE_34, hE_33, hE_35, hE_36⟩ := hv
  have hx := B.exec
  have hb := B.bytes
  have hr := B.returns
  have hts := atoms_spec (ws := wf_c_X4_readCondition_2) B.pre
  have hown : s.vm.findClass RX4 = some m.cls := findClass_of_methodNamed B.named
  have hlocks := B.notSynchronized
  subst hsz
  have hD := hD0.self (sz := s.heap.size)
  generalize hAe : va_A (wd_c_X4_readCondition_2 h1 h1_0 h1_f1 h1_f2 h1_f3 h1_0 h1_0k h1_0c h0 h0_0 h0_f1 h0_2 h0_0 h0_0k h0_0c) s.heap.size = A at hD hE_10 hE_34 hE_33 hE_35 hE_36 ⊢
  have hA : ∀ q : Nat, s.heap.size ≤ q → A q := fun q h => by rw [← hAe]; exact Or.inr h
  have hP : va_P (dC, dI) vwCl (wd_c_X4_readCondition_2 h1 h1_0 h1_f1 h1_f2 h1_f3 h1_0 h1_0k h1_0c h0 h0_0 h0_f1 h0_2 h0_0 h0_0k h0_0c) s.heap := hP
  have hl := lv_entry ([.ref h0, .ref h1, .int 2, .int 0]) (n := 7) (Nat.le_of_ble_eq_true rfl)
  rw [lg_entry_eq]
  generalize (lg_sl ([.ref h0, .ref h1, .int 2, .int 0]) ++ List.replicate (7 - (lg_sl ([.ref h0, .ref h1, .int 2, .int 0])).length) Slot.unset).toArray = ls at hl ⊢
  have hl : lv_has ls 7 [(0, .ref h0), (1, .ref h1), (2, .int 2), (3, .int 0)] := hl
  obtain ⟨H, hHe⟩ : ∃ H : Heap, s.heap = H := ⟨_, rfl⟩
  have hS : va_S A s.heap H [] := by rw [hHe]; exact va_S.rf
  have hP : va_P (dC, dI) vwCl (wd_c_X4_readCondition_2 h1 h1_0 h1_f1 h1_f2 h1_f3 h1_0 h1_0k h1_0c h0 h0_0 h0_f1 h0_2 h0_0 h0_0k h0_0c) H := by rw [← hHe]; exact hP
  rw [hHe]
  refine wj (fun G hG hU => ?_)
  have J9 : ∀ (n9 : Nat) (j9_l6 : Int32) (j9_l5 : Int32) (j9_l4 : Int32) (j9_h1_f2 : Int32) (j9_h1_f3 : Int32) (j9_h0_f1 : Int32) (j9_h0_0c : Nat → Int32) (hM9 : MU j9_l6 < n9) (g_h0_f1 : RG h0_f1 0 240) (g_h1_f1 : RG h1_f1 0 240) (g_h1_f2 : RG h1_f2 0 240) (g_h1_f3 : RG h1_f3 (-1) 240) (g_j9_h0_f1 : RG j9_h0_f1 0 240) (g_j9_h1_f2 : RG j9_h1_f2 0 240) (g_j9_h1_f3 : RG j9_h1_f3 (-1) 240) (g_j9_l4 : RG j9_l4 0 1) (g_j9_l5 : RG j9_l5 0 1) (g_j9_l6 : RG j9_l6 0 240) (H : Heap) (locs : List Loc) (ls : Array Slot) (hP : va_P (dC, dI) vwCl (wd_c_X4_readCondition_2 h1 h1_0 h1_f1 j9_h1_f2 j9_h1_f3 h1_0 h1_0k h1_0c h0 h0_0 j9_h0_f1 h0_2 h0_0 h0_0k j9_h0_0c) H) (hD : va_D A (wd_c_X4_readCondition_2 h1 h1_0 h1_f1 j9_h1_f2 j9_h1_f3 h1_0 h1_0k h1_0c h0 h0_0 j9_h0_f1 h0_2 h0_0 h0_0k j9_h0_0c)) (hS : va_S A s.heap H locs) (hl : lv_has ls 7 [(6, .int j9_l6), (5, .int j9_l5), (4, .int j9_l4), (0, .ref h0), (1, .ref h1), (2, .int 2), (3, .int 0)]), G H locs (F0 m 9 ls []) := by
    intro n9
    induction n9 with
    | zero => intros; exact absurd (by assumption) (Nat.not_lt_zero _)
    | succ n9 ih9 =>
      intro j9_l6 j9_l5 j9_l4 j9_h1_f2 j9_h1_f3 j9_h0_f1 j9_h0_0c hM9 g_h0_f1 g_h1_f1 g_h1_f2 g_h1_f3 g_j9_h0_f1 g_j9_h1_f2 g_j9_h1_f3 g_j9_l4 g_j9_l5 g_j9_l6 H locs ls hP hD hS hl
      have J93 : ∀ (j93_l4 : Int32) (j93_l5 : Int32) (j93_h1_f2 : Int32) (j93_h1_f3 : Int32) (j93_h0_f1 : Int32) (j93_h0_0c : Nat → Int32) (g_h0_f1 : RG h0_f1 0 240) (g_h1_f1 : RG h1_f1 1 240) (g_h1_f2 : RG h1_f2 0 240) (g_h1_f3 : RG h1_f3 (-1) 240) (g_j93_h0_f1 : RG j93_h0_f1 0 240) (g_j93_h1_f2 : RG j93_h1_f2 1 240) (g_j93_h1_f3 : RG j93_h1_f3 (-1) (-1)) (g_j93_l4 : RG j93_l4 0 1) (g_j93_l5 : RG j93_l5 0 1) (g_j9_h0_f1 : RG j9_h0_f1 0 240) (g_j9_h1_f2 : RG j9_h1_f2 0 240) (g_j9_h1_f3 : RG j9_h1_f3 (-1) (-1)) (g_j9_l4 : RG j9_l4 0 1) (g_j9_l5 : RG j9_l5 0 1) (g_j9_l6 : RG j9_l6 0 239) (H : Heap) (locs : List Loc) (ls : Array Slot) (hP : va_P (dC, dI) vwCl (wd_c_X4_readCondition_2 h1 h1_0 h1_f1 j93_h1_f2 j93_h1_f3 h1_0 h1_0k h1_0c h0 h0_0 j93_h0_f1 h0_2 h0_0 h0_0k j93_h0_0c) H) (hD : va_D A (wd_c_X4_readCondition_2 h1 h1_0 h1_f1 j93_h1_f2 j93_h1_f3 h1_0 h1_0k h1_0c h0 h0_0 j93_h0_f1 h0_2 h0_0 h0_0k j93_h0_0c)) (hS : va_S A s.heap H locs) (hl : lv_has ls 7 [(4, .int j93_l4), (6, .int j9_l6), (5, .int j93_l5), (0, .ref h0), (1, .ref h1), (2, .int 2), (3, .int 0)]), G H locs (F0 m 93 ls []) := by
        intro j93_l4 j93_l5 j93_h1_f2 j93_h1_f3 j93_h0_f1 j93_h0_0c g_h0_f1 g_h1_f1 g_h1_f2 g_h1_f3 g_j93_h0_f1 g_j93_h1_f2 g_j93_h1_f3 g_j93_l4 g_j93_l5 g_j9_h0_f1 g_j9_h1_f2 g_j9_h1_f3 g_j9_l4 g_j9_l5 g_j9_l6 H locs ls hP hD hS hl
        refine hG _ _ _ ?_
        obtain ⟨x_1, ex_1⟩ : ∃ y : Int32, y = j9_l6 + 1 := ⟨_, rfl⟩
        have g_2 : RG x_1 1 240 := RG_add ex_1 g_j9_l6 (RG_k 1 1 rfl) (by decide)
        refine lv_iinc (v := x_1) (lv' := [(6, .int x_1), (4, .int j93_l4), (5, .int j93_l5), (0, .ref h0), (1, .ref h1), (2, .int 2), (3, .int 0)]) hx hb dX4_readCondition_93 hl (k := 1) rfl (by rw [ex_1]; rfl) (Nat.le_of_ble_eq_true rfl) rfl (fun ls hl => ?_)
        refine lv_goto (tgt := 9) hx hb dX4_readCondition_96 rfl ?_
        exact hU _ _ _ (ih9 x_1 j93_l5 j93_l4 j93_h1_f2 j93_h1_f3 j93_h0_f1 j93_h0_0c (mu_s (MU_add ex_1 g_j9_l6 (q := 1) rfl (by decide)) hM9) g_h0_f1 (RG_w g_h1_f1 (by decide)) g_h1_f2 g_h1_f3 g_j93_h0_f1 (RG_w g_j93_h1_f2 (by decide)) (RG_w g_j93_h1_f3 (by decide)) g_j93_l4 g_j93_l5 (RG_w g_2 (by decide)) _ _ _ hP hD hS (lv_sub hl [0, 2, 1, 3, 4, 5, 6] rfl))
      have J79 : ∀ (j79_h1_f2 : Int32) (j79_h1_f3 : Int32) (j79_h0_f1 : Int32) (j79_h0_0c : Nat → Int32) (g_h0_f1 : RG h0_f1 0 240) (g_h1_f1 : RG h1_f1 0 240) (g_h1_f2 : RG h1_f2 0 240) (g_h1_f3 : RG h1_f3 (-1) 240) (g_j79_h0_f1 : RG j79_h0_f1 0 240) (g_j79_h1_f2 : RG j79_h1_f2 0 240) (g_j79_h1_f3 : RG j79_h1_f3 (-1) 240) (g_j9_h0_f1 : RG j9_h0_f1 0 240) (g_j9_h1_f2 : RG j9_h1_f2 0 240) (g_j9_h1_f3 : RG j9_h1_f3 (-1) (-1)) (g_j9_l4 : RG j9_l4 0 1) (g_j9_l5 : RG j9_l5 0 1) (g_j9_l6 : RG j9_l6 0 239) (H : Heap) (locs : List Loc) (ls : Array Slot) (hP : va_P (dC, dI) vwCl (wd_c_X4_readCondition_2 h1 h1_0 h1_f1 j79_h1_f2 j79_h1_f3 h1_0 h1_0k h1_0c h0 h0_0 j79_h0_f1 h0_2 h0_0 h0_0k j79_h0_0c) H) (hD : va_D A (wd_c_X4_readCondition_2 h1 h1_0 h1_f1 j79_h1_f2 j79_h1_f3 h1_0 h1_0k h1_0c h0 h0_0 j79_h0_f1 h0_2 h0_0 h0_0k j79_h0_0c)) (hS : va_S A s.heap H locs) (hl : lv_has ls 7 [(4, .int 0), (6, .int j9_l6), (0, .ref h0), (1, .ref h1), (2, .int 2), (3, .int 0)]), G H locs (F0 m 79 ls []) := by
        intro j79_h1_f2 j79_h1_f3 j79_h0_f1 j79_h0_0c g_h0_f1 g_h1_f1 g_h1_f2 g_h1_f3 g_j79_h0_f1 g_j79_h1_f2 g_j79_h1_f3 g_j9_h0_f1 g_j9_h1_f2 g_j9_h1_f3 g_j9_l4 g_j9_l5 g_j9_l6 H locs ls hP hD hS hl
        refine hG _ _ _ ?_
        refine lv_aload_n hx hb dX4_readCondition_79 rfl (lv_at hl 3 rfl) ?_
        refine lv_bipush (v := 124) hx hb dX4_readCondition_80 kc_bipush_124 ?_
        have hPc := hP.sub (ws' := (wd_c_X9_take_1 h1 h1_0 h1_f1 j79_h1_f2 j79_h1_f3 h1_0 h1_0k h1_0c)) [0, 1] rfl
        have hDc := hD.sub (ws' := (wd_c_X9_take_1 h1 h1_0 h1_f1 j79_h1_f2 j79_h1_f3 h1_0 h1_0k h1_0c)) [0, 1] (by decide) rfl
        have hKc := hK.sub (tys' := [(h1_0k, .int)]) [0] rfl
        have hFc := va_free (wc := (wd_c_X9_take_1 h1 h1_0 h1_f1 j79_h1_f2 j79_h1_f3 h1_0 h1_0k h1_0c)) hD hS hA [0, 1] rfl
        refine va_calli (va_runV (As := [.int 124]) (rest := []) ⟨hx, hb, hml, hown, hts⟩ (c_X9_take_1 l dC dI H.size h1 124 h1_0 h1_f1 j79_h1_f2 j79_h1_f3 h1_0k h1_0c (RG_w (RG_k 124 124 rfl) (by decide)) g_h1_f1 g_j79_h1_f2 g_j79_h1_f3 a_h1_0c) (cwV 1 hts gf_c_X4_readCondition_2_c_X9_take_1 rfl rfl rfl (by decide +kernel) ⟨Nat.le_of_ble_eq_true rfl, Nat.le_of_ble_eq_true rfl⟩) ⟨fun a U g mk q => by obtain ⟨q0, q1, qP, qK, qD⟩ := q; exact ⟨q0, q1, qP, va_K.moved (u := U) (U := U.calling g mk a) (Vm.Alike.refl U.vm) qK, qD⟩, va_recv hKc hPc (ci := 9) (q0 := 0) rfl rfl, fun U hU hW => ⟨rfl, by rw [hU], by rw [hU]; exact hPc, va_K.moved hW.alike hKc, hDc.weaken (fun _ _ _ _ => trivial)⟩⟩ rfl rfl hl.1 rfl (lv_room (Nat.le_of_ble_eq_true rfl)) dX4_readCondition_82 ⟨Nat.le_of_ble_eq_true rfl, Nat.le_of_ble_eq_true rfl⟩) hS (fun q _ h => hFc q h) hFc (fun r_3 x_4 t H1 locs ht hvm hw hB hz1 hk1 hS => ?_)
        obtain ⟨hP1, hK1, hD1⟩ := hB
        rw [ht] at hP1
        obtain ⟨hP, hD⟩ := va_join (wr := [(h0, .inr (4, [.ref h0_0, .int j79_h0_f1, .ref h0_2])), (h0_0, .inl (h0_0k, 240, .inl j79_h0_0c))]) (w1 := (wd_c_X9_take_1 h1 h1_0 h1_f1 x_4 j79_h1_f3 h1_0 h1_0k h1_0c)) hP hD [0, 1] [2, 3] rfl rfl (by decide) (by decide) hk1 hFc hP1 hD1
        have hP := hP.sub (ws' := (wd_c_X4_readCondition_2 h1 h1_0 h1_f1 x_4 j79_h1_f3 h1_0 h1_0k h1_0c h0 h0_0 j79_h0_f1 h0_2 h0_0 h0_0k j79_h0_0c)) [2, 3, 0, 1] rfl
        have hD := hD.sub (ws' := (wd_c_X4_readCondition_2 h1 h1_0 h1_f1 x_4 j79_h1_f3 h1_0 h1_0k h1_0c h0 h0_0 j79_h0_f1 h0_2 h0_0 h0_0k j79_h0_0c)) [2, 3, 0, 1] (by decide) rfl
        generalize H1 = H at hP hS ⊢
        rcases hw with ⟨h_5, h_6, h_7⟩ | ⟨h_8, h_9, h_10, h_11, h_12⟩
        · rw [h_5]
          refine lv_istore (lv' := [(5, .int 0), (4, .int 0), (6, .int j9_l6), (0, .ref h0), (1, .ref h1), (2, .int 2), (3, .int 0)]) hx hb dX4_readCondition_85 hl (Nat.le_of_ble_eq_true rfl) rfl (fun ls hl => ?_)
          refine lv_iload hx hb dX4_readCondition_87 (lv_at hl 0 rfl) ?_
          refine lv_if_ne (tgt := 93) hx hb dX4_readCondition_89 rfl (fun c_13 => absurd c_13 (by decide)) (fun c_13 => ?_)
          have hK9 := hK.sub (tys' := []) [] rfl
          exact W.vret hx hb hr (fun t ht hW => ⟨⟨(x_4, j79_h1_f3, j79_h0_f1, j79_h0_0c), rfl, ⟨h_6, g_j79_h1_f3, g_j79_h0_f1⟩, by rw [ht]; exact hP, va_K.moved hW.alike hK9, hD⟩, hS.F ht⟩) hS.2.2 dX4_readCondition_92
        · rw [h_8]
          refine lv_istore (lv' := [(5, .int 1), (4, .int 0), (6, .int j9_l6), (0, .ref h0), (1, .ref h1), (2, .int 2), (3, .int 0)]) hx hb dX4_readCondition_85 hl (Nat.le_of_ble_eq_true rfl) rfl (fun ls hl => ?_)
          refine lv_iload hx hb dX4_readCondition_87 (lv_at hl 0 rfl) ?_
          refine lv_if_ne (tgt := 93) hx hb dX4_readCondition_89 rfl (fun c_14 => ?_) (fun c_14 => absurd c_14 (by decide))
          exact hU _ _ _ (J93 0 1 x_4 j79_h1_f3 j79_h0_f1 j79_h0_0c g_h0_f1 h_10 g_h1_f2 g_h1_f3 g_j79_h0_f1 h_9 h_11 (RG_w (RG_k 0 0 rfl) (by decide)) (RG_w (RG_k 1 1 rfl) (by decide)) g_j9_h0_f1 g_j9_h1_f2 g_j9_h1_f3 g_j9_l4 g_j9_l5 g_j9_l6 _ _ _ hP hD hS (lv_sub hl [1, 2, 0, 3, 4, 5, 6] rfl))
      have J55 : ∀ (j55_h1_f2 : Int32) (j55_h1_f3 : Int32) (j55_h0_f1 : Int32) (j55_h0_0c : Nat → Int32) (g_h0_f1 : RG h0_f1 0 240) (g_h1_f1 : RG h1_f1 0 240) (g_h1_f2 : RG h1_f2 0 240) (g_h1_f3 : RG h1_f3 (-1) 240) (g_j55_h0_f1 : RG j55_h0_f1 0 240) (g_j55_h1_f2 : RG j55_h1_f2 0 240) (g_j55_h1_f3 : RG j55_h1_f3 (-1) 240) (g_j9_h0_f1 : RG j9_h0_f1 0 240) (g_j9_h1_f2 : RG j9_h1_f2 0 240) (g_j9_h1_f3 : RG j9_h1_f3 (-1) (-1)) (g_j9_l4 : RG j9_l4 0 1) (g_j9_l5 : RG j9_l5 0 1) (g_j9_l6 : RG j9_l6 0 239) (H : Heap) (locs : List Loc) (ls : Array Slot) (hP : va_P (dC, dI) vwCl (wd_c_X4_readCondition_2 h1 h1_0 h1_f1 j55_h1_f2 j55_h1_f3 h1_0 h1_0k h1_0c h0 h0_0 j55_h0_f1 h0_2 h0_0 h0_0k j55_h0_0c) H) (hD : va_D A (wd_c_X4_readCondition_2 h1 h1_0 h1_f1 j55_h1_f2 j55_h1_f3 h1_0 h1_0k h1_0c h0 h0_0 j55_h0_f1 h0_2 h0_0 h0_0k j55_h0_0c)) (hS : va_S A s.heap H locs) (hl : lv_has ls 7 [(6, .int j9_l6), (5, .int j9_l5), (0, .ref h0), (1, .ref h1), (2, .int 2), (3, .int 0)]), G H locs (F0 m 55 ls []) := by
        intro j55_h1_f2 j55_h1_f3 j55_h0_f1 j55_h0_0c g_h0_f1 g_h1_f1 g_h1_f2 g_h1_f3 g_j55_h0_f1 g_j55_h1_f2 g_j55_h1_f3 g_j9_h0_f1 g_j9_h1_f2 g_j9_h1_f3 g_j9_l4 g_j9_l5 g_j9_l6 H locs ls hP hD hS hl
        refine hG _ _ _ ?_
        refine lv_aload_n hx hb dX4_readCondition_55 rfl (lv_at hl 3 rfl) ?_
        refine lv_bipush (v := 38) hx hb dX4_readCondition_56 kc_bipush_38 ?_
        have hPc := hP.sub (ws' := (wd_c_X9_take h1 h1_0 h1_f1 j55_h1_f2 j55_h1_f3 h1_0 h1_0k h1_0c)) [0, 1] rfl
        have hDc := hD.sub (ws' := (wd_c_X9_take h1 h1_0 h1_f1 j55_h1_f2 j55_h1_f3 h1_0 h1_0k h1_0c)) [0, 1] (by decide) rfl
        have hKc := hK.sub (tys' := [(h1_0k, .int)]) [0] rfl
        have hFc := va_free (wc := (wd_c_X9_take h1 h1_0 h1_f1 j55_h1_f2 j55_h1_f3 h1_0 h1_0k h1_0c)) hD hS hA [0, 1] rfl
        refine va_calli (va_runV (As := [.int 38]) (rest := []) ⟨hx, hb, hml, hown, hts⟩ (c_X9_take l dC dI H.size h1 38 h1_0 h1_f1 j55_h1_f2 j55_h1_f3 h1_0k h1_0c (RG_w (RG_k 38 38 rfl) (by decide)) g_h1_f1 g_j55_h1_f2 g_j55_h1_f3 a_h1_0c) (cwV 1 hts gf_c_X4_readCondition_2_c_X9_take rfl rfl rfl (by decide +kernel) ⟨Nat.le_of_ble_eq_true rfl, Nat.le_of_ble_eq_true rfl⟩) ⟨fun a U g mk q => by obtain ⟨q0, q1, qP, qK, qD⟩ := q; exact ⟨q0, q1, qP, va_K.moved (u := U) (U := U.calling g mk a) (Vm.Alike.refl U.vm) qK, qD⟩, va_recv hKc hPc (ci := 9) (q0 := 0) rfl rfl, fun U hU hW => ⟨rfl, by rw [hU], by rw [hU]; exact hPc, va_K.moved hW.alike hKc, hDc.weaken (fun _ _ _ _ => trivial)⟩⟩ rfl rfl hl.1 rfl (lv_room (Nat.le_of_ble_eq_true rfl)) dX4_readCondition_58 ⟨Nat.le_of_ble_eq_true rfl, Nat.le_of_ble_eq_true rfl⟩) hS (fun q _ h => hFc q h) hFc (fun r_15 x_16 t H1 locs ht hvm hw hB hz1 hk1 hS => ?_)
        obtain ⟨hP1, hK1, hD1⟩ := hB
        rw [ht] at hP1
        obtain ⟨hP, hD⟩ := va_join (wr := [(h0, .inr (4, [.ref h0_0, .int j55_h0_f1, .ref h0_2])), (h0_0, .inl (h0_0k, 240, .inl j55_h0_0c))]) (w1 := (wd_c_X9_take h1 h1_0 h1_f1 x_16 j55_h1_f3 h1_0 h1_0k h1_0c)) hP hD [0, 1] [2, 3] rfl rfl (by decide) (by decide) hk1 hFc hP1 hD1
        have hP := hP.sub (ws' := (wd_c_X4_readCondition_2 h1 h1_0 h1_f1 x_16 j55_h1_f3 h1_0 h1_0k h1_0c h0 h0_0 j55_h0_f1 h0_2 h0_0 h0_0k j55_h0_0c)) [2, 3, 0, 1] rfl
        have hD := hD.sub (ws' := (wd_c_X4_readCondition_2 h1 h1_0 h1_f1 x_16 j55_h1_f3 h1_0 h1_0k h1_0c h0 h0_0 j55_h0_f1 h0_2 h0_0 h0_0k j55_h0_0c)) [2, 3, 0, 1] (by decide) rfl
        generalize H1 = H at hP hS ⊢
        rcases hw with ⟨h_17, h_18, h_19⟩ | ⟨h_20, h_21, h_22, h_23, h_24⟩
        · rw [h_17]
          refine lv_istore (lv' := [(4, .int 0), (6, .int j9_l6), (5, .int j9_l5), (0, .ref h0), (1, .ref h1), (2, .int 2), (3, .int 0)]) hx hb dX4_readCondition_61 hl (Nat.le_of_ble_eq_true rfl) rfl (fun ls hl => ?_)
          refine lv_iload hx hb dX4_readCondition_63 (lv_at hl 0 rfl) ?_
          refine lv_if_ne (tgt := 93) hx hb dX4_readCondition_65 rfl (fun c_25 => absurd c_25 (by decide)) (fun c_25 => ?_)
          refine lv_iload hx hb dX4_readCondition_68 (lv_at hl 2 rfl) ?_
          refine lv_if_eq (tgt := 79) hx hb dX4_readCondition_70 rfl (fun c_26 => ?_) (fun c_26 => ?_)
          · have g_27 : RG j9_l5 0 0 := RG_eq1 g_j9_l5 (RG_k 0 0 rfl) c_26 (by decide)
            exact hU _ _ _ (J79 x_16 j55_h1_f3 j55_h0_f1 j55_h0_0c g_h0_f1 g_h1_f1 g_h1_f2 g_h1_f3 g_j55_h0_f1 h_18 g_j55_h1_f3 g_j9_h0_f1 g_j9_h1_f2 g_j9_h1_f3 g_j9_l4 (RG_w g_27 (by decide)) g_j9_l6 _ _ _ hP hD hS (lv_sub hl [0, 1, 3, 4, 5, 6] rfl))
          · have g_28 : RG j9_l5 1 1 := RG_ne1 g_j9_l5 (q := 0) rfl c_26 (by decide)
            refine lv_aload_n hx hb dX4_readCondition_73 rfl (lv_at hl 3 rfl) ?_
            refine lv_bipush (v := (-124)) hx hb dX4_readCondition_74 kc_bipush_m124 ?_
            have hPc := hP.sub (ws' := (wd_c_X4_emit h0 h0_0 j55_h0_f1 h0_2 h0_0 h0_0k j55_h0_0c)) [2, 3] rfl
            have hDc := hD.sub (ws' := (wd_c_X4_emit h0 h0_0 j55_h0_f1 h0_2 h0_0 h0_0k j55_h0_0c)) [2, 3] (by decide) rfl
            have hKc := hK.sub (tys' := [(h0_0k, .int)]) [1] rfl
            have hFc := va_free (wc := (wd_c_X4_emit h0 h0_0 j55_h0_f1 h0_2 h0_0 h0_0k j55_h0_0c)) hD hS hA [2, 3] rfl
            refine va_callv (va_runV (As := [.int (-124)]) (rest := []) ⟨hx, hb, hml, hown, hts⟩ (c_X4_emit l dC dI H.size h0 (-124) h0_0 j55_h0_f1 h0_2 h0_0k j55_h0_0c g_j55_h0_f1) (cwV 1 hts gf_c_X4_readCondition_2_c_X4_emit rfl rfl rfl (by decide +kernel) ⟨Nat.le_of_ble_eq_true rfl, Nat.le_of_ble_eq_true rfl⟩) ⟨fun a U g mk q => by obtain ⟨q0, q1, qP, qK, qD⟩ := q; exact ⟨q0, q1, qP, va_K.moved (u := U) (U := U.calling g mk a) (Vm.Alike.refl U.vm) qK, qD⟩, va_recv hKc hPc (ci := 4) (q0 := 0) rfl rfl, fun U hU hW => ⟨rfl, by rw [hU], by rw [hU]; exact hPc, va_K.moved hW.alike hKc, hDc.weaken (fun _ _ _ _ => trivial)⟩⟩ rfl rfl hl.1 rfl (lv_room (Nat.le_of_ble_eq_true rfl)) dX4_readCondition_76 ⟨Nat.le_of_ble_eq_true rfl, Nat.le_of_ble_eq_true rfl⟩) hS (fun q _ h => hFc q h) hFc (fun u t H1 locs ht hvm hw hB hz1 hk1 hS => ?_)
            obtain ⟨x_30, w_31⟩ := u
            obtain ⟨hP1, hK1, hD1⟩ := hB
            rw [ht] at hP1
            obtain ⟨hP, hD⟩ := va_join (wr := [(h1, .inr (9, [.ref h1_0, .int h1_f1, .int x_16, .int j55_h1_f3])), (h1_0, .inl (h1_0k, 240, .inl h1_0c))]) (w1 := (wd_c_X4_emit h0 h0_0 x_30 h0_2 h0_0 h0_0k w_31)) hP hD [2, 3] [0, 1] rfl rfl (by decide) (by decide) hk1 hFc hP1 hD1
            have hP := hP.sub (ws' := (wd_c_X4_readCondition_2 h1 h1_0 h1_f1 x_16 j55_h1_f3 h1_0 h1_0k h1_0c h0 h0_0 x_30 h0_2 h0_0 h0_0k w_31)) [0, 1, 2, 3] rfl
            have hD := hD.sub (ws' := (wd_c_X4_readCondition_2 h1 h1_0 h1_f1 x_16 j55_h1_f3 h1_0 h1_0k h1_0c h0 h0_0 x_30 h0_2 h0_0 h0_0k w_31)) [0, 1, 2, 3] (by decide) rfl
            generalize H1 = H at hP hS ⊢
            have h_32 := hw
            exact hU _ _ _ (J79 x_16 j55_h1_f3 x_30 w_31 g_h0_f1 g_h1_f1 g_h1_f2 g_h1_f3 (RG_w h_32 (by decide)) h_18 g_j55_h1_f3 g_j9_h0_f1 g_j9_h1_f2 g_j9_h1_f3 g_j9_l4 (RG_w g_28 (by decide)) g_j9_l6 _ _ _ hP hD hS (lv_sub hl [0, 1, 3, 4, 5, 6] rfl))
        · rw [h_20]
          refine lv_istore (lv' := [(4, .int 1), (6, .int j9_l6), (5, .int j9_l5), (0, .ref h0), (1, .ref h1), (2, .int 2), (3, .int 0)]) hx hb dX4_readCondition_61 hl (Nat.le_of_ble_eq_true rfl) rfl (fun ls hl => ?_)
          refine lv_iload hx hb dX4_readCondition_63 (lv_at hl 0 rfl) ?_
          refine lv_if_ne (tgt := 93) hx hb dX4_readCondition_65 rfl (fun c_33 => ?_) (fun c_33 => absurd c_33 (by decide))
          exact hU _ _ _ (J93 1 j9_l5 x_16 j55_h1_f3 j55_h0_f1 j55_h0_0c g_h0_f1 h_22 g_h1_f2 g_h1_f3 g_j55_h0_f1 h_21 h_23 (RG_w (RG_k 1 1 rfl) (by decide)) g_j9_l5 g_j9_h0_f1 g_j9_h1_f2 g_j9_h1_f3 g_j9_l4 g_j9_l5 g_j9_l6 _ _ _ hP hD hS (lv_sub hl [0, 1, 2, 3, 4, 5, 6] rfl))
      have J41 : ∀ (g_h0_f1 : RG h0_f1 0 240) (g_h1_f1 : RG h1_f1 0 240) (g_h1_f2 : RG h1_f2 0 240) (g_h1_f3 : RG h1_f3 (-1) 240) (g_j9_h0_f1 : RG j9_h0_f1 0 240) (g_j9_h1_f2 : RG j9_h1_f2 0 240) (g_j9_h1_f3 : RG j9_h1_f3 (-1) (-1)) (g_j9_l4 : RG j9_l4 0 1) (g_j9_l5 : RG j9_l5 0 1) (g_j9_l6 : RG j9_l6 0 239) (H : Heap) (locs : List Loc) (ls : Array Slot) (hP : va_P (dC, dI) vwCl (wd_c_X4_readCondition_2 h1 h1_0 h1_f1 j9_h1_f2 j9_h1_f3 h1_0 h1_0k h1_0c h0 h0_0 j9_h0_f1 h0_2 h0_0 h0_0k j9_h0_0c) H) (hD : va_D A (wd_c_X4_readCondition_2 h1 h1_0 h1_f1 j9_h1_f2 j9_h1_f3 h1_0 h1_0k h1_0c h0 h0_0 j9_h0_f1 h0_2 h0_0 h0_0k j9_h0_0c)) (hS : va_S A s.heap H locs) (hl : lv_has ls 7 [(6, .int j9_l6), (5, .int j9_l5), (4, .int j9_l4), (0, .ref h0), (1, .ref h1), (2, .int 2), (3, .int 0)]), G H locs (F0 m 41 ls [.int 0, .int 2, .ref h1, .ref h0]) := by
        intro g_h0_f1 g_h1_f1 g_h1_f2 g_h1_f3 g_j9_h0_f1 g_j9_h1_f2 g_j9_h1_f3 g_j9_l4 g_j9_l5 g_j9_l6 H locs ls hP hD hS hl
        refine hG _ _ _ ?_
        have hPc := hP.sub (ws' := (wd_c_X4_readUnit_3 h1 h1_0 h1_f1 j9_h1_f2 j9_h1_f3 h1_0 h1_0k h1_0c h0 h0_0 j9_h0_f1 h0_2 h0_0 h0_0k j9_h0_0c)) [0, 1, 2, 3] rfl
        have hDc := hD.sub (ws' := (wd_c_X4_readUnit_3 h1 h1_0 h1_f1 j9_h1_f2 j9_h1_f3 h1_0 h1_0k h1_0c h0 h0_0 j9_h0_f1 h0_2 h0_0 h0_0k j9_h0_0c)) [0, 1, 2, 3] (by decide) rfl
        have hKc := hK.sub (tys' := [(h1_0k, .int), (h0_0k, .int)]) [0, 1] rfl
        have hFc := va_free (wc := (wd_c_X4_readUnit_3 h1 h1_0 h1_f1 j9_h1_f2 j9_h1_f3 h1_0 h1_0k h1_0c h0 h0_0 j9_h0_f1 h0_2 h0_0 h0_0k j9_h0_0c)) hD hS hA [0, 1, 2, 3] rfl
        refine va_callv (va_runV (As := [.ref h1, .int 2, .int 0]) (rest := []) ⟨hx, hb, hml, hown, hts⟩ (c_X4_readUnit_3 l dC dI H.size h0 h1 h1_0 h1_f1 j9_h1_f2 j9_h1_f3 h1_0k h1_0c h0_0 j9_h0_f1 h0_2 h0_0k j9_h0_0c ts4 tv4 g_h1_f1 g_j9_h1_f2 (RG_w g_j9_h1_f3 (by decide)) a_h1_0c g_j9_h0_f1) (cwV 3 hts gf_c_X4_readCondition_2_c_X4_readUnit_3 rfl rfl rfl (by decide +kernel) ⟨Nat.le_of_ble_eq_true rfl, Nat.le_of_ble_eq_true rfl⟩) ⟨fun a U g mk q => by obtain ⟨q0, q1, qP, qK, qD, qE0, qE1, qE2, qE3, qE4, qE5⟩ := q; exact ⟨q0, q1, qP, va_K.moved (u := U) (U := U.calling g mk a) (Vm.Alike.refl U.vm) qK, qD, vk_R.same rfl qE0, va_Z.moved (u := U) (U := U.calling g mk a) (Vm.Alike.refl U.vm) qE1, va_OF.moved (u := U) (U := U.calling g mk a) (Vm.Alike.refl U.vm) qE2, va_O.moved (u := U) (U := U.calling g mk a) (Vm.Alike.refl U.vm) qE3, va_OF.moved (u := U) (U := U.calling g mk a) (Vm.Alike.refl U.vm) qE4, va_T.moved (u := U) (U := U.calling g mk a) (Vm.Alike.refl U.vm) qE5⟩, va_recv hKc hPc (ci := 4) (q0 := 2) rfl rfl, fun U hU hW => ⟨rfl, by rw [hU], by rw [hU]; exact hPc, va_K.moved hW.alike hKc, hDc.weaken (fun _ _ _ _ => trivial), vk_R.warm hW hE_32, va_Z.moved hW.alike (by rw [hU]; exact (hE_10.kept hS.2.1).narrow hFc), va_OF.moved hW.alike (by rw [hU]; exact (hE_34.kept hS.2.1).narrow hFc), va_O.moved hW.alike (by rw [hU]; exact (hE_33.kept hS.2.1).narrow hFc), va_OF.moved hW.alike (by rw [hU]; exact (hE_35.kept hS.2.1).narrow hFc), va_T.moved hW.alike (by rw [hU]; exact (hE_36.kept hS.2.1).narrow hFc)⟩⟩ rfl rfl hl.1 rfl (lv_room (Nat.le_of_ble_eq_true rfl)) dX4_readCondition_41 ⟨Nat.le_of_ble_eq_true rfl, Nat.le_of_ble_eq_true rfl⟩) hS (fun q _ h => hFc q h) hFc (fun u t H1 locs ht hvm hw hB hz1 hk1 hS => ?_)
        obtain ⟨x_35, x_36, x_37, w_38⟩ := u
        obtain ⟨hP1, hK1, hD1⟩ := hB
        rw [ht] at hP1
        obtain ⟨hP, hD⟩ := va_join (wr := []) (w1 := (wd_c_X4_readUnit_3 h1 h1_0 h1_f1 x_35 x_36 h1_0 h1_0k h1_0c h0 h0_0 x_37 h0_2 h0_0 h0_0k w_38)) hP hD [0, 1, 2, 3] [] rfl rfl (by decide) (by decide) hk1 hFc hP1 hD1
        have hP := hP.sub (ws' := (wd_c_X4_readCondition_2 h1 h1_0 h1_f1 x_35 x_36 h1_0 h1_0k h1_0c h0 h0_0 x_37 h0_2 h0_0 h0_0k w_38)) [0, 1, 2, 3] rfl
        have hD := hD.sub (ws' := (wd_c_X4_readCondition_2 h1 h1_0 h1_f1 x_35 x_36 h1_0 h1_0k h1_0c h0 h0_0 x_37 h0_2 h0_0 h0_0k w_38)) [0, 1, 2, 3] (by decide) rfl
        generalize H1 = H at hP hS ⊢
        rcases hw with ⟨h_39, h_40, h_41⟩
        refine lv_iload hx hb dX4_readCondition_44 (lv_at hl 2 rfl) ?_
        refine lv_if_eq (tgt := 55) hx hb dX4_readCondition_46 rfl (fun c_42 => ?_) (fun c_42 => ?_)
        · have g_43 : RG j9_l4 0 0 := RG_eq1 g_j9_l4 (RG_k 0 0 rfl) c_42 (by decide)
          exact hU _ _ _ (J55 x_35 x_36 x_37 w_38 g_h0_f1 g_h1_f1 g_h1_f2 g_h1_f3 h_41 h_39 h_40 g_j9_h0_f1 g_j9_h1_f2 g_j9_h1_f3 (RG_w g_43 (by decide)) g_j9_l5 g_j9_l6 _ _ _ hP hD hS (lv_sub hl [0, 1, 3, 4, 5, 6] rfl))
        · have g_44 : RG j9_l4 1 1 := RG_ne1 g_j9_l4 (q := 0) rfl c_42 (by decide)
          refine lv_aload_n hx hb dX4_readCondition_49 rfl (lv_at hl 3 rfl) ?_
          refine lv_bipush (v := (-38)) hx hb dX4_readCondition_50 kc_bipush_m38 ?_
          have hPc := hP.sub (ws' := (wd_c_X4_emit h0 h0_0 x_37 h0_2 h0_0 h0_0k w_38)) [2, 3] rfl
          have hDc := hD.sub (ws' := (wd_c_X4_emit h0 h0_0 x_37 h0_2 h0_0 h0_0k w_38)) [2, 3] (by decide) rfl
          have hKc := hK.sub (tys' := [(h0_0k, .int)]) [1] rfl
          have hFc := va_free (wc := (wd_c_X4_emit h0 h0_0 x_37 h0_2 h0_0 h0_0k w_38)) hD hS hA [2, 3] rfl
          refine va_callv (va_runV (As := [.int (-38)]) (rest := []) ⟨hx, hb, hml, hown, hts⟩ (c_X4_emit l dC dI H.size h0 (-38) h0_0 x_37 h0_2 h0_0k w_38 h_41) (cwV 1 hts gf_c_X4_readCondition_2_c_X4_emit rfl rfl rfl (by decide +kernel) ⟨Nat.le_of_ble_eq_true rfl, Nat.le_of_ble_eq_true rfl⟩) ⟨fun a U g mk q => by obtain ⟨q0, q1, qP, qK, qD⟩ := q; exact ⟨q0, q1, qP, va_K.moved (u := U) (U := U.calling g mk a) (Vm.Alike.refl U.vm) qK, qD⟩, va_recv hKc hPc (ci := 4) (q0 := 0) rfl rfl, fun U hU hW => ⟨rfl, by rw [hU], by rw [hU]; exact hPc, va_K.moved hW.alike hKc, hDc.weaken (fun _ _ _ _ => trivial)⟩⟩ rfl rfl hl.1 rfl (lv_room (Nat.le_of_ble_eq_true rfl)) dX4_readCondition_52 ⟨Nat.le_of_ble_eq_true rfl, Nat.le_of_ble_eq_true rfl⟩) hS (fun q _ h => hFc q h) hFc (fun u t H1 locs ht hvm hw hB hz1 hk1 hS => ?_)
          obtain ⟨x_46, w_47⟩ := u
          obtain ⟨hP1, hK1, hD1⟩ := hB
          rw [ht] at hP1
          obtain ⟨hP, hD⟩ := va_join (wr := [(h1, .inr (9, [.ref h1_0, .int h1_f1, .int x_35, .int x_36])), (h1_0, .inl (h1_0k, 240, .inl h1_0c))]) (w1 := (wd_c_X4_emit h0 h0_0 x_46 h0_2 h0_0 h0_0k w_47)) hP hD [2, 3] [0, 1] rfl rfl (by decide) (by decide) hk1 hFc hP1 hD1
          have hP := hP.sub (ws' := (wd_c_X4_readCondition_2 h1 h1_0 h1_f1 x_35 x_36 h1_0 h1_0k h1_0c h0 h0_0 x_46 h0_2 h0_0 h0_0k w_47)) [0, 1, 2, 3] rfl
          have hD := hD.sub (ws' := (wd_c_X4_readCondition_2 h1 h1_0 h1_f1 x_35 x_36 h1_0 h1_0k h1_0c h0 h0_0 x_46 h0_2 h0_0 h0_0k w_47)) [0, 1, 2, 3] (by decide) rfl
          generalize H1 = H at hP hS ⊢
          have h_48 := hw
          exact hU _ _ _ (J55 x_35 x_36 x_46 w_47 g_h0_f1 g_h1_f1 g_h1_f2 g_h1_f3 (RG_w h_48 (by decide)) h_39 h_40 g_j9_h0_f1 g_j9_h1_f2 g_j9_h1_f3 (RG_w g_44 (by decide)) g_j9_l5 g_j9_l6 _ _ _ hP hD hS (lv_sub hl [0, 1, 3, 4, 5, 6] rfl))
      have J40 : ∀ (g_h0_f1 : RG h0_f1 0 240) (g_h1_f1 : RG h1_f1 0 240) (g_h1_f2 : RG h1_f2 0 240) (g_h1_f3 : RG h1_f3 (-1) 240) (g_j9_h0_f1 : RG j9_h0_f1 0 240) (g_j9_h1_f2 : RG j9_h1_f2 0 240) (g_j9_h1_f3 : RG j9_h1_f3 (-1) (-1)) (g_j9_l4 : RG j9_l4 0 1) (g_j9_l5 : RG j9_l5 0 1) (g_j9_l6 : RG j9_l6 0 239) (H : Heap) (locs : List Loc) (ls : Array Slot) (hP : va_P (dC, dI) vwCl (wd_c_X4_readCondition_2 h1 h1_0 h1_f1 j9_h1_f2 j9_h1_f3 h1_0 h1_0k h1_0c h0 h0_0 j9_h0_f1 h0_2 h0_0 h0_0k j9_h0_0c) H) (hD : va_D A (wd_c_X4_readCondition_2 h1 h1_0 h1_f1 j9_h1_f2 j9_h1_f3 h1_0 h1_0k h1_0c h0 h0_0 j9_h0_f1 h0_2 h0_0 h0_0k j9_h0_0c)) (hS : va_S A s.heap H locs) (hl : lv_has ls 7 [(6, .int j9_l6), (5, .int j9_l5), (4, .int j9_l4), (0, .ref h0), (1, .ref h1), (2, .int 2), (3, .int 0)]), G H locs (F0 m 40 ls [.int 2, .ref h1, .ref h0]) := by
        intro g_h0_f1 g_h1_f1 g_h1_f2 g_h1_f3 g_j9_h0_f1 g_j9_h1_f2 g_j9_h1_f3 g_j9_l4 g_j9_l5 g_j9_l6 H locs ls hP hD hS hl
        refine hG _ _ _ ?_
        refine lv_iconst (v := 0) hx hb dX4_readCondition_40 kc_iconst_0 ?_
        exact hU _ _ _ (J41 g_h0_f1 g_h1_f1 g_h1_f2 g_h1_f3 g_j9_h0_f1 g_j9_h1_f2 g_j9_h1_f3 g_j9_l4 g_j9_l5 g_j9_l6 _ _ _ hP hD hS (lv_sub hl [0, 1, 2, 3, 4, 5, 6] rfl))
      refine hG _ _ _ ?_
      refine lv_iload hx hb dX4_readCondition_9 (lv_at hl 0 rfl) ?_
      refine lv_sipush (v := 240) hx hb dX4_readCondition_11 kc_sipush_240 ?_
      refine lv_icmp_ge (tgt := 99) hx hb dX4_readCondition_14 rfl (fun c_49 => ?_) (fun c_49 => ?_)
      · have g_50 : RG j9_l6 240 240 := RG_le2 (RG_k 240 240 rfl) g_j9_l6 c_49 (by decide)
        have hK9 := hK.sub (tys' := []) [] rfl
        exact W.vret hx hb hr (fun t ht hW => ⟨⟨(j9_h1_f2, j9_h1_f3, j9_h0_f1, j9_h0_0c), rfl, ⟨g_j9_h1_f2, g_j9_h1_f3, g_j9_h0_f1⟩, by rw [ht]; exact hP, va_K.moved hW.alike hK9, hD⟩, hS.F ht⟩) hS.2.2 dX4_readCondition_99
      · have d_51 := Int32.not_le.mp c_49
        have g_52 : RG j9_l6 0 239 := RG_lt1 g_j9_l6 (RG_k 240 240 rfl) d_51 (by decide)
        refine lv_aload_n hx hb dX4_readCondition_17 rfl (lv_at hl 4 rfl) ?_
        have hPc := hP.sub (ws' := (wd_c_X9_isRight h1 h1_0 h1_f1 j9_h1_f2 j9_h1_f3)) [0] rfl
        have hDc := hD.sub (ws' := (wd_c_X9_isRight h1 h1_0 h1_f1 j9_h1_f2 j9_h1_f3)) [0] (by decide) rfl
        have hKc := hK.sub (tys' := []) [] rfl
        have hFc := va_free (wc := (wd_c_X9_isRight h1 h1_0 h1_f1 j9_h1_f2 j9_h1_f3)) hD hS hA [0] rfl
        refine va_calli (va_runV (As := []) (rest := []) ⟨hx, hb, hml, hown, hts⟩ (c_X9_isRight l dC dI H.size h1 h1_0 h1_f1 j9_h1_f2 j9_h1_f3 g_h1_f1 g_j9_h1_f2 g_j9_h1_f3) (cwV 0 hts gf_c_X4_readCondition_2_c_X9_isRight rfl rfl rfl (by decide +kernel) ⟨Nat.le_of_ble_eq_true rfl, Nat.le_of_ble_eq_true rfl⟩) ⟨fun a U g mk q => by obtain ⟨q0, q1, qP, qK, qD⟩ := q; exact ⟨q0, q1, qP, va_K.moved (u := U) (U := U.calling g mk a) (Vm.Alike.refl U.vm) qK, qD⟩, va_recv hKc hPc (ci := 9) (q0 := 0) rfl rfl, fun U hU hW => ⟨rfl, by rw [hU], by rw [hU]; exact hPc, va_K.moved hW.alike hKc, hDc.weaken (fun _ _ _ _ => trivial)⟩⟩ rfl rfl hl.1 rfl (lv_room (Nat.le_of_ble_eq_true rfl)) dX4_readCondition_18 ⟨Nat.le_of_ble_eq_true rfl, Nat.le_of_ble_eq_true rfl⟩) hS (fun q _ h => hFc q h) hFc (fun r_53 u t H1 locs ht hvm hw hB hz1 hk1 hS => ?_)
        obtain ⟨hP1, hK1, hD1⟩ := hB
        rw [ht] at hP1
        obtain ⟨hP, hD⟩ := va_join (wr := [(h1_0, .inl (h1_0k, 240, .inl h1_0c)), (h0, .inr (4, [.ref h0_0, .int j9_h0_f1, .ref h0_2])), (h0_0, .inl (h0_0k, 240, .inl j9_h0_0c))]) (w1 := (wd_c_X9_isRight h1 h1_0 h1_f1 j9_h1_f2 j9_h1_f3)) hP hD [0] [1, 2, 3] rfl rfl (by decide) (by decide) hk1 hFc hP1 hD1
        have hP := hP.sub (ws' := (wd_c_X4_readCondition_2 h1 h1_0 h1_f1 j9_h1_f2 j9_h1_f3 h1_0 h1_0k h1_0c h0 h0_0 j9_h0_f1 h0_2 h0_0 h0_0k j9_h0_0c)) [3, 0, 1, 2] rfl
        have hD := hD.sub (ws' := (wd_c_X4_readCondition_2 h1 h1_0 h1_f1 j9_h1_f2 j9_h1_f3 h1_0 h1_0k h1_0c h0 h0_0 j9_h0_f1 h0_2 h0_0 h0_0k j9_h0_0c)) [3, 0, 1, 2] (by decide) rfl
        generalize H1 = H at hP hS ⊢
        rcases hw with ⟨h_54, h_55⟩ | ⟨h_56, h_57⟩
        · rw [h_54]
          refine lv_if_eq (tgt := 99) hx hb dX4_readCondition_21 rfl (fun c_58 => ?_) (fun c_58 => absurd c_58 (by decide))
          have hK9 := hK.sub (tys' := []) [] rfl
          exact W.vret hx hb hr (fun t ht hW => ⟨⟨(j9_h1_f2, j9_h1_f3, j9_h0_f1, j9_h0_0c), rfl, ⟨g_j9_h1_f2, (RG_w h_55 (by decide)), g_j9_h0_f1⟩, by rw [ht]; exact hP, va_K.moved hW.alike hK9, hD⟩, hS.F ht⟩) hS.2.2 dX4_readCondition_99
        · rw [h_56]
          refine lv_if_eq (tgt := 99) hx hb dX4_readCondition_21 rfl (fun c_59 => absurd c_59 (by decide)) (fun c_59 => ?_)
          refine lv_aload_n hx hb dX4_readCondition_24 rfl (lv_at hl 3 rfl) ?_
          refine lv_aload_n hx hb dX4_readCondition_25 rfl (lv_at hl 4 rfl) ?_
          refine lv_iload_n hx hb dX4_readCondition_26 rfl (lv_at hl 5 rfl) ?_
          refine lv_iload_n hx hb dX4_readCondition_27 rfl (lv_at hl 6 rfl) ?_
          refine lv_if_eq (tgt := 40) hx hb dX4_readCondition_28 rfl (fun c_60 => ?_) (fun c_60 => absurd c_60 (by decide))
          exact hU _ _ _ (J40 g_h0_f1 g_h1_f1 g_h1_f2 g_h1_f3 g_j9_h0_f1 g_j9_h1_f2 h_57 g_j9_l4 g_j9_l5 g_52 _ _ _ hP hD hS (lv_sub hl [0, 1, 2, 3, 4, 5, 6] rfl))
  refine hG _ _ _ ?_
  refine lv_iconst (v := 0) hx hb dX4_readCondition_0 kc_iconst_0 ?_
  refine lv_istore (lv' := [(4, .int 0), (0, .ref h0), (1, .ref h1), (2, .int 2), (3, .int 0)]) hx hb dX4_readCondition_1 hl (Nat.le_of_ble_eq_true rfl) rfl (fun ls hl => ?_)
  refine lv_iconst (v := 0) hx hb dX4_readCondition_3 kc_iconst_0 ?_
  refine lv_istore (lv' := [(5, .int 0), (4, .int 0), (0, .ref h0), (1, .ref h1), (2, .int 2), (3, .int 0)]) hx hb dX4_readCondition_4 hl (Nat.le_of_ble_eq_true rfl) rfl (fun ls hl => ?_)
  refine lv_iconst (v := 0) hx hb dX4_readCondition_6 kc_iconst_0 ?_
  refine lv_istore (lv' := [(6, .int 0), (5, .int 0), (4, .int 0), (0, .ref h0), (1, .ref h1), (2, .int 2), (3, .int 0)]) hx hb dX4_readCondition_7 hl (Nat.le_of_ble_eq_true rfl) rfl (fun ls hl => ?_)
  exact hU _ _ _ (J9 _ 0 0 0 h1_f2 h1_f3 h0_f1 h0_0c (Nat.lt_succ_self _) g_h0_f1 g_h1_f1 g_h1_f2 g_h1_f3 g_h0_f1 g_h1_f2 g_h1_f3 (RG_w (RG_k 0 0 rfl) (by decide)) (RG_w (RG_k 0 0 rfl) (by decide)) (RG_w (RG_k 0 0 rfl) (by decide)) _ _ _ hP hD hS (lv_sub hl [0, 1, 2, 3, 4, 5, 6] rfl))
def wd_c_X4_readUnit_2 (a0 : Nat) (a1 : Nat) (a2 : Int32) (a3 : Int32) (a4 : Int32) (a5 : Nat) (a6 : ClassId) (a7 : Nat → Int32) (a8 : Nat) (a9 : Nat) (a10 : Int32) (a11 : Nat) (a12 : Nat) (a13 : ClassId) (a14 : Nat → Int32) : va_W := [(a0, .inr (9, [.ref a1, .int a2, .int a3, .int a4])), (a5, .inl (a6, 240, .inl a7)), (a8, .inr (4, [.ref a9, .int a10, .ref a11])), (a12, .inl (a13, 240, .inl a14))]
def wf_c_X4_readUnit_2 : List Cond := .code yX4_readUnit cX4_readUnit 5 none :: ([.methodLink RX4 41 yX9_peek, .instanceMethod yX9_peek, .selects RX9 yX9_peek yX9_peek, .initialized RX9, .code yX9_peek cX9_peek 1 (some .int), .fieldLink RX9 22 "BuoyVote$Tape" "at" "I", .fieldLink RX9 19 "BuoyVote$Tape" "length" "I", .fieldLink RX9 11 "BuoyVote$Tape" "bytes" "[I", .methodLink RX4 45 yX4_startsUnit, .static yX4_startsUnit, .initialized RX4, .code yX4_startsUnit cX4_startsUnit 1 (some .boolean), .methodLink RX4 63 yX9_take, .instanceMethod yX9_take, .selects RX9 yX9_take yX9_take, .code yX9_take cX9_take 2 (some .boolean), .fieldLink RX9 15 "BuoyVote$Tape" "wrong" "I", .methodLink RX9 29 yX9_peek, .methodLink RX4 37 yX9_expect, .instanceMethod yX9_expect, .selects RX9 yX9_expect yX9_expect, .code yX9_expect cX9_expect 2 none, .methodLink RX9 25 yX9_refuse, .instanceMethod yX9_refuse, .selects RX9 yX9_refuse yX9_refuse, .code yX9_refuse cX9_refuse 2 none, .methodLink RX4 56 yX4_readCondition, .instanceMethod yX4_readCondition, .selects RX4 yX4_readCondition yX4_readCondition, .code yX4_readCondition cX4_readCondition 7 none, .methodLink RX4 72 yX9_isRight, .instanceMethod yX9_isRight, .selects RX9 yX9_isRight yX9_isRight, .code yX9_isRight cX9_isRight 1 (some .boolean), .methodLink RX4 76 yX4_readUnit, .instanceMethod yX4_readUnit, .selects RX4 yX4_readUnit yX4_readUnit, .methodLink RX4 82 yX9_refuseHere, .instanceMethod yX9_refuseHere, .selects RX9 yX9_refuseHere yX9_refuseHere, .code yX9_refuseHere cX9_refuseHere 1 none, .methodLink RX4 49 yX4_readSum, .instanceMethod yX4_readSum, .selects RX4 yX4_readSum yX4_readSum, .code yX4_readSum cX4_readSum 6 none, .methodLink RX4 85 yX4_readAtom, .instanceMethod yX4_readAtom, .selects RX4 yX4_readAtom yX4_readAtom, .code yX4_readAtom cX4_readAtom 6 none, .methodLink RX4 93 yJ0_indexOf_0f7a4, .instanceMethod yJ0_indexOf_0f7a4, .selects RJ0 yJ0_indexOf_0f7a4 yJ0_indexOf_0f7a4, .initialized RJ0, .code yJ0_indexOf_0f7a4 cJ0_indexOf_0f7a4 2 (some .int), .methodLink RJ0 633 yJ0_indexOf_7cf53, .instanceMethod yJ0_indexOf_7cf53, .selects RJ0 yJ0_indexOf_7cf53 yJ0_indexOf_7cf53, .code yJ0_indexOf_7cf53 cJ0_indexOf_7cf53 3 (some .int), .methodLink RJ0 492 yJ0_isLatin1_aae02, .instanceMethod yJ0_isLatin1_aae02, .selects RJ0 yJ0_isLatin1_aae02 yJ0_isLatin1_aae02, .code yJ0_isLatin1_aae02 cJ0_isLatin1_aae02 1 (some .boolean), .fieldLink RJ0 38 "java/lang/String" "COMPACT_STRINGS" "Z", .fieldLink RJ0 15 "java/lang/String" "coder" "B", .fieldLink RJ0 9 "java/lang/String" "value" "[B", .methodLink RJ0 505 yJ0_length_8abf5, .instanceMethod yJ0_length_8abf5, .selects RJ0 yJ0_length_8abf5 yJ0_length_8abf5, .code yJ0_length_8abf5 cJ0_length_8abf5 1 (some .int), .methodLink RJ0 335 yJ0_coder_7d493, .instanceMethod yJ0_coder_7d493, .selects RJ0 yJ0_coder_7d493 yJ0_coder_7d493, .code yJ0_coder_7d493 cJ0_coder_7d493 1 (some .byte), .methodLink RJ0 637 yJ1_indexOf_4cfef, .static yJ1_indexOf_4cfef, .initialized RJ1, .code yJ1_indexOf_4cfef cJ1_indexOf_4cfef 4 (some .int), .methodLink RJ1 88 yJ1_canEncode_9a6ad, .static yJ1_canEncode_9a6ad, .code yJ1_canEncode_9a6ad cJ1_canEncode_9a6ad 1 (some .boolean), .methodLink RJ1 92 Lib.Math.max.name, .static Lib.Math.max.name, .initialized "java/lang/Math", .code Lib.Math.max.name Lib.Math.max.code 2 (some .int), .methodLink RJ1 38 Lib.Math.min.name, .static Lib.Math.min.name, .code Lib.Math.min.name Lib.Math.min.code 2 (some .int), .methodLink RJ1 95 yJ1_indexOfChar_4cfef, .static yJ1_indexOfChar_4cfef, .code yJ1_indexOfChar_4cfef cJ1_indexOfChar_4cfef 6 (some .int), .methodLink RX4 99 yX9_number, .instanceMethod yX9_number, .selects RX9 yX9_number yX9_number, .code yX9_number cX9_number 4 (some .int), .methodLink RX4 79 yX9_skip, .instanceMethod yX9_skip, .selects RX9 yX9_skip yX9_skip, .code yX9_skip cX9_skip 1 none, .methodLink RX4 60 yX4_emit, .instanceMethod yX4_emit, .selects RX4 yX4_emit yX4_emit, .code yX4_emit cX4_emit 2 none, .fieldLink RX4 20 "BuoyVote$Law" "length" "I", .fieldLink RX4 11 "BuoyVote$Law" "code" "[I", .methodLink RX4 88 yX9_takeEither, .instanceMethod yX9_takeEither, .selects RX9 yX9_takeEither yX9_takeEither, .code yX9_takeEither cX9_takeEither 4 (some .int), .methodLink RX4 53 yX4_isComparison, .static yX4_isComparison, .code yX4_isComparison cX4_isComparison 1 (some .boolean)] ++ wsX90 ++ wsX40)
theorem iw_c_X4_readUnit_2_X9 : ∀ w ∈ wsX90, w ∈ wf_c_X4_readUnit_2 := fun w h => List.mem_cons_of_mem _ (List.mem_append_left _ (List.mem_append_right _ h))
theorem iw_c_X4_readUnit_2_X4 : ∀ w ∈ wsX40, w ∈ wf_c_X4_readUnit_2 := fun w h => List.mem_cons_of_mem _ (List.mem_append_right _ h)
set_option maxRecDepth 20000 in
theorem gf_c_X4_readUnit_2_c_X9_peek : GoodIn wf_c_X4_readUnit_2 (wsV RX4 41 RX9 yX9_peek wf_c_X9_peek) := goodIn_app (gi_cons (j := 1) rfl rfl (gi_cons (j := 2) rfl rfl (gi_cons (j := 3) rfl rfl (gi_cons (j := 4) rfl rfl (gi_nil))))) (gi_cons (j := 5) rfl rfl (goodIn_app (gi_cons (j := 6) rfl rfl (gi_cons (j := 7) rfl rfl (gi_cons (j := 8) rfl rfl (gi_nil)))) (goodIn_sub iw_c_X4_readUnit_2_X9 gw_X9)))
set_option maxRecDepth 20000 in
theorem gf_c_X4_readUnit_2_c_X4_isComparison : GoodIn wf_c_X4_readUnit_2 (va_wsS RX4 53 yX4_isComparison wf_c_X4_isComparison) := goodIn_app (gi_cons (j := 109) rfl rfl (gi_cons (j := 110) rfl rfl (gi_cons (j := 11) rfl rfl (gi_nil)))) (gi_cons (j := 111) rfl rfl (gi_nil))
set_option maxRecDepth 20000 in
theorem gf_c_X4_readUnit_2_c_X9_refuseHere : GoodIn wf_c_X4_readUnit_2 (wsV RX4 82 RX9 yX9_refuseHere wf_c_X9_refuseHere) := goodIn_app (gi_cons (j := 38) rfl rfl (gi_cons (j := 39) rfl rfl (gi_cons (j := 40) rfl rfl (gi_cons (j := 4) rfl rfl (gi_nil))))) (gi_cons (j := 41) rfl rfl (goodIn_app (gi_cons (j := 6) rfl rfl (gi_cons (j := 23) rfl rfl (gi_cons (j := 24) rfl rfl (gi_cons (j := 25) rfl rfl (gi_cons (j := 4) rfl rfl (gi_cons (j := 26) rfl rfl (gi_cons (j := 17) rfl rfl (gi_nil)))))))) (goodIn_sub iw_c_X4_readUnit_2_X9 gw_X9)))
set_option maxRecDepth 20000 in
theorem gf_c_X4_readUnit_2_c_X4_isComparison_1 : GoodIn wf_c_X4_readUnit_2 (va_wsS RX4 53 yX4_isComparison wf_c_X4_isComparison_1) := goodIn_app (gi_cons (j := 109) rfl rfl (gi_cons (j := 110) rfl rfl (gi_cons (j := 11) rfl rfl (gi_nil)))) (gi_cons (j := 111) rfl rfl (gi_nil))
set_option maxRecDepth 20000 in
theorem gf_c_X4_readUnit_2_c_X9_skip : GoodIn wf_c_X4_readUnit_2 (wsV RX4 79 RX9 yX9_skip wf_c_X9_skip) := goodIn_app (gi_cons (j := 95) rfl rfl (gi_cons (j := 96) rfl rfl (gi_cons (j := 97) rfl rfl (gi_cons (j := 4) rfl rfl (gi_nil))))) (gi_cons (j := 98) rfl rfl (goodIn_app (gi_cons (j := 6) rfl rfl (gi_nil)) (goodIn_sub iw_c_X4_readUnit_2_X9 gw_X9)))
set_option maxRecDepth 20000 in
theorem gf_c_X4_readUnit_2_c_X4_readSum_1 : GoodIn wf_c_X4_readUnit_2 (wsV RX4 49 RX4 yX4_readSum wf_c_X4_readSum_1) := goodIn_app (gi_cons (j := 42) rfl rfl (gi_cons (j := 43) rfl rfl (gi_cons (j := 44) rfl rfl (gi_cons (j := 11) rfl rfl (gi_nil))))) (gi_cons (j := 45) rfl rfl (goodIn_app (goodIn_app (gi_cons (j := 31) rfl rfl (gi_cons (j := 32) rfl rfl (gi_cons (j := 33) rfl rfl (gi_cons (j := 4) rfl rfl (gi_cons (j := 34) rfl rfl (gi_cons (j := 17) rfl rfl (gi_cons (j := 46) rfl rfl (gi_cons (j := 47) rfl rfl (gi_cons (j := 48) rfl rfl (gi_cons (j := 11) rfl rfl (gi_cons (j := 49) rfl rfl (gi_cons (j := 1) rfl rfl (gi_cons (j := 2) rfl rfl (gi_cons (j := 3) rfl rfl (gi_cons (j := 5) rfl rfl (gi_cons (j := 6) rfl rfl (gi_cons (j := 7) rfl rfl (gi_cons (j := 8) rfl rfl (gi_cons (j := 50) rfl rfl (gi_cons (j := 51) rfl rfl (gi_cons (j := 52) rfl rfl (gi_cons (j := 53) rfl rfl (gi_cons (j := 54) rfl rfl (gi_cons (j := 55) rfl rfl (gi_cons (j := 56) rfl rfl (gi_cons (j := 57) rfl rfl (gi_cons (j := 58) rfl rfl (gi_cons (j := 59) rfl rfl (gi_cons (j := 60) rfl rfl (gi_cons (j := 61) rfl rfl (gi_cons (j := 62) rfl rfl (gi_cons (j := 63) rfl rfl (gi_cons (j := 64) rfl rfl (gi_cons (j := 65) rfl rfl (gi_cons (j := 66) rfl rfl (gi_cons (j := 67) rfl rfl (gi_cons (j := 68) rfl rfl (gi_cons (j := 69) rfl rfl (gi_cons (j := 70) rfl rfl (gi_cons (j := 71) rfl rfl (gi_cons (j := 72) rfl rfl (gi_cons (j := 73) rfl rfl (gi_cons (j := 74) rfl rfl (gi_cons (j := 75) rfl rfl (gi_cons (j := 76) rfl rfl (gi_cons (j := 77) rfl rfl (gi_cons (j := 78) rfl rfl (gi_cons (j := 79) rfl rfl (gi_cons (j := 80) rfl rfl (gi_cons (j := 81) rfl rfl (gi_cons (j := 82) rfl rfl (gi_cons (j := 83) rfl rfl (gi_cons (j := 84) rfl rfl (gi_cons (j := 85) rfl rfl (gi_cons (j := 86) rfl rfl (gi_cons (j := 87) rfl rfl (gi_cons (j := 88) rfl rfl (gi_cons (j := 89) rfl rfl (gi_cons (j := 90) rfl rfl (gi_cons (j := 91) rfl rfl (gi_cons (j := 92) rfl rfl (gi_cons (j := 93) rfl rfl (gi_cons (j := 94) rfl rfl (gi_cons (j := 38) rfl rfl (gi_cons (j := 39) rfl rfl (gi_cons (j := 40) rfl rfl (gi_cons (j := 41) rfl rfl (gi_cons (j := 23) rfl rfl (gi_cons (j := 24) rfl rfl (gi_cons (j := 25) rfl rfl (gi_cons (j := 26) rfl rfl (gi_cons (j := 95) rfl rfl (gi_cons (j := 96) rfl rfl (gi_cons (j := 97) rfl rfl (gi_cons (j := 98) rfl rfl (gi_cons (j := 42) rfl rfl (gi_cons (j := 43) rfl rfl (gi_cons (j := 44) rfl rfl (gi_cons (j := 99) rfl rfl (gi_cons (j := 100) rfl rfl (gi_cons (j := 101) rfl rfl (gi_cons (j := 102) rfl rfl (gi_cons (j := 103) rfl rfl (gi_cons (j := 104) rfl rfl (gi_cons (j := 105) rfl rfl (gi_cons (j := 106) rfl rfl (gi_cons (j := 107) rfl rfl (gi_cons (j := 108) rfl rfl (gi_cons (j := 18) rfl rfl (gi_cons (j := 19) rfl rfl (gi_cons (j := 20) rfl rfl (gi_cons (j := 21) rfl rfl (gi_cons (j := 22) rfl rfl (gi_nil)))))))))))))))))))))))))))))))))))))))))))))))))))))))))))))))))))))))))))))))))))))))))))))) (goodIn_sub iw_c_X4_readUnit_2_X9 gw_X9)) (goodIn_sub iw_c_X4_readUnit_2_X4 gw_X4)))
set_option maxRecDepth 20000 in
theorem gf_c_X4_readUnit_2_c_X4_emit : GoodIn wf_c_X4_readUnit_2 (wsV RX4 60 RX4 yX4_emit wf_c_X4_emit) := goodIn_app (gi_cons (j := 99) rfl rfl (gi_cons (j := 100) rfl rfl (gi_cons (j := 101) rfl rfl (gi_cons (j := 11) rfl rfl (gi_nil))))) (gi_cons (j := 102) rfl rfl (goodIn_app (gi_cons (j := 103) rfl rfl (gi_cons (j := 104) rfl rfl (gi_nil))) (goodIn_sub iw_c_X4_readUnit_2_X4 gw_X4)))
set_option maxRecDepth 20000 in
theorem gf_c_X4_readUnit_2_c_X4_startsUnit : GoodIn wf_c_X4_readUnit_2 (va_wsS RX4 45 yX4_startsUnit wf_c_X4_startsUnit) := goodIn_app (gi_cons (j := 9) rfl rfl (gi_cons (j := 10) rfl rfl (gi_cons (j := 11) rfl rfl (gi_nil)))) (gi_cons (j := 12) rfl rfl (gi_nil))
set_option maxRecDepth 20000 in
theorem gf_c_X4_readUnit_2_c_X4_startsUnit_1 : GoodIn wf_c_X4_readUnit_2 (va_wsS RX4 45 yX4_startsUnit wf_c_X4_startsUnit_1) := goodIn_app (gi_cons (j := 9) rfl rfl (gi_cons (j := 10) rfl rfl (gi_cons (j := 11) rfl rfl (gi_nil)))) (gi_cons (j := 12) rfl rfl (gi_nil))
set_option maxRecDepth 20000 in
theorem gf_c_X4_readUnit_2_c_X9_take : GoodIn wf_c_X4_readUnit_2 (wsV RX4 63 RX9 yX9_take wf_c_X9_take) := goodIn_app (gi_cons (j := 13) rfl rfl (gi_cons (j := 14) rfl rfl (gi_cons (j := 15) rfl rfl (gi_cons (j := 4) rfl rfl (gi_nil))))) (gi_cons (j := 16) rfl rfl (goodIn_app (gi_cons (j := 17) rfl rfl (gi_cons (j := 18) rfl rfl (gi_cons (j := 2) rfl rfl (gi_cons (j := 3) rfl rfl (gi_cons (j := 4) rfl rfl (gi_cons (j := 5) rfl rfl (gi_cons (j := 6) rfl rfl (gi_cons (j := 7) rfl rfl (gi_cons (j := 8) rfl rfl (gi_nil)))))))))) (goodIn_sub iw_c_X4_readUnit_2_X9 gw_X9)))
set_option maxRecDepth 20000 in
theorem gf_c_X4_readUnit_2_c_X9_expect_1 : GoodIn wf_c_X4_readUnit_2 (wsV RX4 37 RX9 yX9_expect wf_c_X9_expect_1) := goodIn_app (gi_cons (j := 19) rfl rfl (gi_cons (j := 20) rfl rfl (gi_cons (j := 21) rfl rfl (gi_cons (j := 4) rfl rfl (gi_nil))))) (gi_cons (j := 22) rfl rfl (goodIn_app (gi_cons (j := 17) rfl rfl (gi_cons (j := 18) rfl rfl (gi_cons (j := 2) rfl rfl (gi_cons (j := 3) rfl rfl (gi_cons (j := 4) rfl rfl (gi_cons (j := 5) rfl rfl (gi_cons (j := 6) rfl rfl (gi_cons (j := 7) rfl rfl (gi_cons (j := 8) rfl rfl (gi_cons (j := 23) rfl rfl (gi_cons (j := 24) rfl rfl (gi_cons (j := 25) rfl rfl (gi_cons (j := 26) rfl rfl (gi_nil)))))))))))))) (goodIn_sub iw_c_X4_readUnit_2_X9 gw_X9)))
set_option maxRecDepth 20000 in
theorem gf_c_X4_readUnit_2_c_X4_readCondition_2 : GoodIn wf_c_X4_readUnit_2 (wsV RX4 56 RX4 yX4_readCondition wf_c_X4_readCondition_2) := goodIn_app (gi_cons (j := 27) rfl rfl (gi_cons (j := 28) rfl rfl (gi_cons (j := 29) rfl rfl (gi_cons (j := 11) rfl rfl (gi_nil))))) (gi_cons (j := 30) rfl rfl (goodIn_app (goodIn_app (gi_cons (j := 31) rfl rfl (gi_cons (j := 32) rfl rfl (gi_cons (j := 33) rfl rfl (gi_cons (j := 4) rfl rfl (gi_cons (j := 34) rfl rfl (gi_cons (j := 17) rfl rfl (gi_cons (j := 35) rfl rfl (gi_cons (j := 36) rfl rfl (gi_cons (j := 37) rfl rfl (gi_cons (j := 11) rfl rfl (gi_cons (j := 0) rfl rfl (gi_cons (j := 1) rfl rfl (gi_cons (j := 2) rfl rfl (gi_cons (j := 3) rfl rfl (gi_cons (j := 5) rfl rfl (gi_cons (j := 6) rfl rfl (gi_cons (j := 7) rfl rfl (gi_cons (j := 8) rfl rfl (gi_cons (j := 9) rfl rfl (gi_cons (j := 10) rfl rfl (gi_cons (j := 12) rfl rfl (gi_cons (j := 13) rfl rfl (gi_cons (j := 14) rfl rfl (gi_cons (j := 15) rfl rfl (gi_cons (j := 16) rfl rfl (gi_cons (j := 18) rfl rfl (gi_cons (j := 19) rfl rfl (gi_cons (j := 20) rfl rfl (gi_cons (j := 21) rfl rfl (gi_cons (j := 22) rfl rfl (gi_cons (j := 23) rfl rfl (gi_cons (j := 24) rfl rfl (gi_cons (j := 25) rfl rfl (gi_cons (j := 26) rfl rfl (gi_cons (j := 27) rfl rfl (gi_cons (j := 28) rfl rfl (gi_cons (j := 29) rfl rfl (gi_cons (j := 38) rfl rfl (gi_cons (j := 39) rfl rfl (gi_cons (j := 40) rfl rfl (gi_cons (j := 41) rfl rfl (gi_cons (j := 42) rfl rfl (gi_cons (j := 43) rfl rfl (gi_cons (j := 44) rfl rfl (gi_cons (j := 45) rfl rfl (gi_cons (j := 46) rfl rfl (gi_cons (j := 47) rfl rfl (gi_cons (j := 48) rfl rfl (gi_cons (j := 49) rfl rfl (gi_cons (j := 50) rfl rfl (gi_cons (j := 51) rfl rfl (gi_cons (j := 52) rfl rfl (gi_cons (j := 53) rfl rfl (gi_cons (j := 54) rfl rfl (gi_cons (j := 55) rfl rfl (gi_cons (j := 56) rfl rfl (gi_cons (j := 57) rfl rfl (gi_cons (j := 58) rfl rfl (gi_cons (j := 59) rfl rfl (gi_cons (j := 60) rfl rfl (gi_cons (j := 61) rfl rfl (gi_cons (j := 62) rfl rfl (gi_cons (j := 63) rfl rfl (gi_cons (j := 64) rfl rfl (gi_cons (j := 65) rfl rfl (gi_cons (j := 66) rfl rfl (gi_cons (j := 67) rfl rfl (gi_cons (j := 68) rfl rfl (gi_cons (j := 69) rfl rfl (gi_cons (j := 70) rfl rfl (gi_cons (j := 71) rfl rfl (gi_cons (j := 72) rfl rfl (gi_cons (j := 73) rfl rfl (gi_cons (j := 74) rfl rfl (gi_cons (j := 75) rfl rfl (gi_cons (j := 76) rfl rfl (gi_cons (j := 77) rfl rfl (gi_cons (j := 78) rfl rfl (gi_cons (j := 79) rfl rfl (gi_cons (j := 80) rfl rfl (gi_cons (j := 81) rfl rfl (gi_cons (j := 82) rfl rfl (gi_cons (j := 83) rfl rfl (gi_cons (j := 84) rfl rfl (gi_cons (j := 85) rfl rfl (gi_cons (j := 86) rfl rfl (gi_cons (j := 87) rfl rfl (gi_cons (j := 88) rfl rfl (gi_cons (j := 89) rfl rfl (gi_cons (j := 90) rfl rfl (gi_cons (j := 91) rfl rfl (gi_cons (j := 92) rfl rfl (gi_cons (j := 93) rfl rfl (gi_cons (j := 94) rfl rfl (gi_cons (j := 95) rfl rfl (gi_cons (j := 96) rfl rfl (gi_cons (j := 97) rfl rfl (gi_cons (j := 98) rfl rfl (gi_cons (j := 99) rfl rfl (gi_cons (j := 100) rfl rfl (gi_cons (j := 101) rfl rfl (gi_cons (j := 102) rfl rfl (gi_cons (j := 103) rfl rfl (gi_cons (j := 104) rfl rfl (gi_cons (j := 105) rfl rfl (gi_cons (j := 106) rfl rfl (gi_cons (j := 107) rfl rfl (gi_cons (j := 108) rfl rfl (gi_cons (j := 109) rfl rfl (gi_cons (j := 110) rfl rfl (gi_cons (j := 111) rfl rfl (gi_nil)))))))))))))))))))))))))))))))))))))))))))))))))))))))))))))))))))))))))))))))))))))))))))))))))))))))))))))))) (goodIn_sub iw_c_X4_readUnit_2_X9 gw_X9)) (goodIn_sub iw_c_X4_readUnit_2_X4 gw_X4)))
set_option maxRecDepth 20000 in
theorem gf_c_X4_readUnit_2_c_X4_readUnit_3 : GoodIn wf_c_X4_readUnit_2 (wsV RX4 76 RX4 yX4_readUnit wf_c_X4_readUnit_3) := goodIn_app (gi_cons (j := 35) rfl rfl (gi_cons (j := 36) rfl rfl (gi_cons (j := 37) rfl rfl (gi_cons (j := 11) rfl rfl (gi_nil))))) (gi_cons (j := 0) rfl rfl (goodIn_app (goodIn_app (gi_cons (j := 1) rfl rfl (gi_cons (j := 2) rfl rfl (gi_cons (j := 3) rfl rfl (gi_cons (j := 4) rfl rfl (gi_cons (j := 5) rfl rfl (gi_cons (j := 6) rfl rfl (gi_cons (j := 7) rfl rfl (gi_cons (j := 8) rfl rfl (gi_cons (j := 9) rfl rfl (gi_cons (j := 10) rfl rfl (gi_cons (j := 11) rfl rfl (gi_cons (j := 12) rfl rfl (gi_cons (j := 13) rfl rfl (gi_cons (j := 14) rfl rfl (gi_cons (j := 15) rfl rfl (gi_cons (j := 16) rfl rfl (gi_cons (j := 17) rfl rfl (gi_cons (j := 18) rfl rfl (gi_cons (j := 19) rfl rfl (gi_cons (j := 20) rfl rfl (gi_cons (j := 21) rfl rfl (gi_cons (j := 22) rfl rfl (gi_cons (j := 23) rfl rfl (gi_cons (j := 24) rfl rfl (gi_cons (j := 25) rfl rfl (gi_cons (j := 26) rfl rfl (gi_cons (j := 27) rfl rfl (gi_cons (j := 28) rfl rfl (gi_cons (j := 29) rfl rfl (gi_cons (j := 30) rfl rfl (gi_cons (j := 31) rfl rfl (gi_cons (j := 32) rfl rfl (gi_cons (j := 33) rfl rfl (gi_cons (j := 34) rfl rfl (gi_cons (j := 35) rfl rfl (gi_cons (j := 36) rfl rfl (gi_cons (j := 37) rfl rfl (gi_cons (j := 38) rfl rfl (gi_cons (j := 39) rfl rfl (gi_cons (j := 40) rfl rfl (gi_cons (j := 41) rfl rfl (gi_cons (j := 42) rfl rfl (gi_cons (j := 43) rfl rfl (gi_cons (j := 44) rfl rfl (gi_cons (j := 45) rfl rfl (gi_cons (j := 46) rfl rfl (gi_cons (j := 47) rfl rfl (gi_cons (j := 48) rfl rfl (gi_cons (j := 49) rfl rfl (gi_cons (j := 50) rfl rfl (gi_cons (j := 51) rfl rfl (gi_cons (j := 52) rfl rfl (gi_cons (j := 53) rfl rfl (gi_cons (j := 54) rfl rfl (gi_cons (j := 55) rfl rfl (gi_cons (j := 56) rfl rfl (gi_cons (j := 57) rfl rfl (gi_cons (j := 58) rfl rfl (gi_cons (j := 59) rfl rfl (gi_cons (j := 60) rfl rfl (gi_cons (j := 61) rfl rfl (gi_cons (j := 62) rfl rfl (gi_cons (j := 63) rfl rfl (gi_cons (j := 64) rfl rfl (gi_cons (j := 65) rfl rfl (gi_cons (j := 66) rfl rfl (gi_cons (j := 67) rfl rfl (gi_cons (j := 68) rfl rfl (gi_cons (j := 69) rfl rfl (gi_cons (j := 70) rfl rfl (gi_cons (j := 71) rfl rfl (gi_cons (j := 72) rfl rfl (gi_cons (j := 73) rfl rfl (gi_cons (j := 74) rfl rfl (gi_cons (j := 75) rfl rfl (gi_cons (j := 76) rfl rfl (gi_cons (j := 77) rfl rfl (gi_cons (j := 78) rfl rfl (gi_cons (j := 79) rfl rfl (gi_cons (j := 80) rfl rfl (gi_cons (j := 81) rfl rfl (gi_cons (j := 82) rfl rfl (gi_cons (j := 83) rfl rfl (gi_cons (j := 84) rfl rfl (gi_cons (j := 85) rfl rfl (gi_cons (j := 86) rfl rfl (gi_cons (j := 87) rfl rfl (gi_cons (j := 88) rfl rfl (gi_cons (j := 89) rfl rfl (gi_cons (j := 90) rfl rfl (gi_cons (j := 91) rfl rfl (gi_cons (j := 92) rfl rfl (gi_cons (j := 93) rfl rfl (gi_cons (j := 94) rfl rfl (gi_cons (j := 95) rfl rfl (gi_cons (j := 96) rfl rfl (gi_cons (j := 97) rfl rfl (gi_cons (j := 98) rfl rfl (gi_cons (j := 99) rfl rfl (gi_cons (j := 100) rfl rfl (gi_cons (j := 101) rfl rfl (gi_cons (j := 102) rfl rfl (gi_cons (j := 103) rfl rfl (gi_cons (j := 104) rfl rfl (gi_cons (j := 105) rfl rfl (gi_cons (j := 106) rfl rfl (gi_cons (j := 107) rfl rfl (gi_cons (j := 108) rfl rfl (gi_cons (j := 109) rfl rfl (gi_cons (j := 110) rfl rfl (gi_cons (j := 111) rfl rfl (gi_nil)))))))))))))))))))))))))))))))))))))))))))))))))))))))))))))))))))))))))))))))))))))))))))))))))))))))))))))))) (goodIn_sub iw_c_X4_readUnit_2_X9 gw_X9)) (goodIn_sub iw_c_X4_readUnit_2_X4 gw_X4)))
set_option maxHeartbeats 4000000 in
set_option maxRecDepth 100000 in
theorem c_X4_readUnit_2 (l : Launch) (dC : Nat → ClassId) (dI : Nat → Nat → Nat) (sz : Nat) (h0 : Nat) (h1 : Nat) (h1_0 : Nat) (h1_f1 : Int32) (h1_f2 : Int32) (h1_f3 : Int32) (h1_0k : ClassId) (h1_0c : Nat → Int32) (h0_0 : Nat) (h0_f1 : Int32) (h0_2 : Nat) (h0_0k : ClassId) (h0_0c : Nat → Int32) (ts4 : Nat) (tv4 : Nat) (g_h1_f1 : RG h1_f1 0 240) (g_h1_f2 : RG h1_f2 0 240) (g_h1_f3 : RG h1_f3 (-1) 240) (a_h1_0c : AI h1_0c 0 255) (g_h0_f1 : RG h0_f1 0 240) : Met l yX4_readUnit wf_c_X4_readUnit_2 ({ frames := 16, cells := 0, slots := 0, locals := 391 }) (va_Pc [.ref h0, .ref h1, .int 1, .int 0] (fun U => U.heap.size = sz ∧ va_P (dC, dI) vwCl (wd_c_X4_readUnit_2 h1 h1_0 h1_f1 h1_f2 h1_f3 h1_0 h1_0k h1_0c h0 h0_0 h0_f1 h0_2 h0_0 h0_0k h0_0c) U.heap ∧ va_K (dC, dI) vwCl [(h1_0k, .int), (h0_0k, .int)] U ∧ va_D (fun _ => True) (wd_c_X4_readUnit_2 h1 h1_0 h1_f1 h1_f2 h1_f3 h1_0 h1_0k h1_0c h0 h0_0 h0_f1 h0_2 h0_0 h0_0k h0_0c) ∧ vk_R RX4 91 "vlrdph" ts4 U ∧ va_Z "java/lang/String" "COMPACT_STRINGS" "Z" (.int 1) (va_A (wd_c_X4_readUnit_2 h1 h1_0 h1_f1 h1_f2 h1_f3 h1_0 h1_0k h1_0c h0 h0_0 h0_f1 h0_2 h0_0 h0_0k h0_0c) sz) U U.heap ∧ va_OF "java/lang/String" "coder" "B" (.int 0) ts4 (va_A (wd_c_X4_readUnit_2 h1 h1_0 h1_f1 h1_f2 h1_f3 h1_0 h1_0k h1_0c h0 h0_0 h0_f1 h0_2 h0_0 h0_0k h0_0c) sz) U U.heap ∧ va_O "java/lang/String" ts4 (va_A (wd_c_X4_readUnit_2 h1 h1_0 h1_f1 h1_f2 h1_f3 h1_0 h1_0k h1_0c h0 h0_0 h0_f1 h0_2 h0_0 h0_0k h0_0c) sz) U U.heap ∧ va_OF "java/lang/String" "value" "[B" (.ref tv4) ts4 (va_A (wd_c_X4_readUnit_2 h1 h1_0 h1_f1 h1_f2 h1_f3 h1_0 h1_0k h1_0c h0 h0_0 h0_f1 h0_2 h0_0 h0_0k h0_0c) sz) U U.heap ∧ va_T .byte tv4 6 (fun j => .int ([118, 108, 114, 100, 112, 104].getD j 0)) (va_A (wd_c_X4_readUnit_2 h1 h1_0 h1_f1 h1_f2 h1_f3 h1_0 h1_0k h1_0c h0 h0_0 h0_f1 h0_2 h0_0 h0_0k h0_0c) sz) U U.heap)) (va_Qv (fun (u : (Int32) × (Int32) × (Int32) × (Nat → Int32)) => (RG u.1 0 240 ∧ RG u.2.1 (-1) 240 ∧ RG u.2.2.1 0 240)) (fun (u : (Int32) × (Int32) × (Int32) × (Nat → Int32)) t => va_P (dC, dI) vwCl (wd_c_X4_readUnit_2 h1 h1_0 h1_f1 (u.1) (u.2.1) h1_0 h1_0k h1_0c h0 h0_0 (u.2.2.1) h0_2 h0_0 h0_0k (u.2.2.2)) t.heap ∧ va_K (dC, dI) vwCl [] t ∧ va_D (va_A (wd_c_X4_readUnit_2 h1 h1_0 h1_f1 h1_f2 h1_f3 h1_0 h1_0k h1_0c h0 h0_0 h0_f1 h0_2 h0_0 h0_0k h0_0c) sz) (wd_c_X4_readUnit_2 h1 h1_0 h1_f1 (u.1) (u.2.1) h1_0 h1_0k h1_0c h0 h0_0 (u.2.2.1) h0_2 h0_0 h0_0k (u.2.2.2))) (va_A (wd_c_X4_readUnit_2 h1 h1_0 h1_f1 h1_f2 h1_f3 h1_0 h1_0k h1_0c h0 h0_0 h0_f1 h0_2 h0_0 h0_0k h0_0c) sz)) 0 0 (va_A (wd_c_X4_readUnit_2 h1 h1_0 h1_f1 h1_f2 h1_f3 h1_0 h1_0k h1_0c h0 h0_0 h0_f1 h0_2 h0_0 h0_0k h0_0c) sz) := by
  refine Met.ofW (cc := cX4_readUnit) (maxL := 5) (ret := none) (by decide) rfl ?_
  intro p e s m args below meth c s₁ B hml hv
  obtain ⟨rfl, hsz, hP, hK, hD0, hE_32, hE_10, hE_34, hE_33, hE_35, hE_36⟩ := hv
  have hx := B.exec
  have hb := B.bytes
  have hr := B.returns
  have hts := atoms_spec (ws := wf_c_X4_readUnit_2) B.pre
  have hown : s.vm.findClass RX4 = some m.cls := findClass_of_methodNamed B.named
  have hlocks := B.notSynchronized
  subst hsz
  have hD := hD0.self (sz := s.heap.size)
  generalize hAe : va_A (wd_c_X4_readUnit_2 h1 h1_0 h1_f1 h1_f2 h1_f3 h1_0 h1_0k h1_0c h0 h0_0 h0_f1 h0_2 h0_0 h0_0k h0_0c) s.heap.size = A at hD hE_10 hE_34 hE_33 hE_35 hE_36 ⊢
  have hA : ∀ q : Nat, s.heap.size ≤ q → A q := fun q h => by rw [← hAe]; exact Or.inr h
  have hP : va_P (dC, dI) vwCl (wd_c_X4_readUnit_2 h1 h1_0 h1_f1 h1_f2 h1_f3 h1_0 h1_0k h1_0c h0 h0_0 h0_f1 h0_2 h0_0 h0_0k h0_0c) s.heap := hP
  have hl := lv_entry ([.ref h0, .ref h1, .int 1, .int 0]) (n := 5) (Nat.le_of_ble_eq_true rfl)
  rw [lg_entry_eq]
  generalize (lg_sl ([.ref h0, .ref h1, .int 1, .int 0]) ++ List.replicate (5 - (lg_sl ([.ref h0, .ref h1, .int 1, .int 0])).length) Slot.unset).toArray = ls at hl ⊢
  have hl : lv_has ls 5 [(0, .ref h0), (1, .ref h1), (2, .int 1), (3, .int 0)] := hl
  obtain ⟨H, hHe⟩ : ∃ H : Heap, s.heap = H := ⟨_, rfl⟩
  have hS : va_S A s.heap H [] := by rw [hHe]; exact va_S.rf
  have hP : va_P (dC, dI) vwCl (wd_c_X4_readUnit_2 h1 h1_0 h1_f1 h1_f2 h1_f3 h1_0 h1_0k h1_0c h0 h0_0 h0_f1 h0_2 h0_0 h0_0k h0_0c) H := by rw [← hHe]; exact hP
  rw [hHe]
  refine wj (fun G hG hU => ?_)
  have J62 : ∀ (j62_h1_f2 : Int32) (j62_h1_f3 : Int32) (j62_h0_f1 : Int32) (j62_h0_0c : Nat → Int32) (g_h0_f1 : RG h0_f1 0 240) (g_h1_f1 : RG h1_f1 0 240) (g_h1_f2 : RG h1_f2 0 240) (g_h1_f3 : RG h1_f3 (-1) 240) (g_j62_h0_f1 : RG j62_h0_f1 0 240) (g_j62_h1_f2 : RG j62_h1_f2 0 240) (g_j62_h1_f3 : RG j62_h1_f3 (-1) 240) (H : Heap) (locs : List Loc) (ls : Array Slot) (hP : va_P (dC, dI) vwCl (wd_c_X4_readUnit_2 h1 h1_0 h1_f1 j62_h1_f2 j62_h1_f3 h1_0 h1_0k h1_0c h0 h0_0 j62_h0_f1 h0_2 h0_0 h0_0k j62_h0_0c) H) (hD : va_D A (wd_c_X4_readUnit_2 h1 h1_0 h1_f1 j62_h1_f2 j62_h1_f3 h1_0 h1_0k h1_0c h0 h0_0 j62_h0_f1 h0_2 h0_0 h0_0k j62_h0_0c)) (hS : va_S A s.heap H locs) (hl : lv_has ls 5 []), G H locs (F0 m 62 ls []) := by
    intro j62_h1_f2 j62_h1_f3 j62_h0_f1 j62_h0_0c g_h0_f1 g_h1_f1 g_h1_f2 g_h1_f3 g_j62_h0_f1 g_j62_h1_f2 g_j62_h1_f3 H locs ls hP hD hS hl
    refine hG _ _ _ ?_
    refine lv_goto (tgt := 126) hx hb dX4_readUnit_62 rfl ?_
    have hK9 := hK.sub (tys' := []) [] rfl
    exact W.vret hx hb hr (fun t ht hW => ⟨⟨(j62_h1_f2, j62_h1_f3, j62_h0_f1, j62_h0_0c), rfl, ⟨g_j62_h1_f2, g_j62_h1_f3, g_j62_h0_f1⟩, by rw [ht]; exact hP, va_K.moved hW.alike hK9, hD⟩, hS.F ht⟩) hS.2.2 dX4_readUnit_126
  have J24 : ∀ (j24_h1_f2 : Int32) (j24_h1_f3 : Int32) (j24_h0_f1 : Int32) (j24_h0_0c : Nat → Int32) (g_h0_f1 : RG h0_f1 0 240) (g_h1_f1 : RG h1_f1 0 240) (g_h1_f2 : RG h1_f2 0 240) (g_h1_f3 : RG h1_f3 (-1) 240) (g_j24_h0_f1 : RG j24_h0_f1 0 240) (g_j24_h1_f2 : RG j24_h1_f2 0 240) (g_j24_h1_f3 : RG j24_h1_f3 (-1) 240) (H : Heap) (locs : List Loc) (ls : Array Slot) (hP : va_P (dC, dI) vwCl (wd_c_X4_readUnit_2 h1 h1_0 h1_f1 j24_h1_f2 j24_h1_f3 h1_0 h1_0k h1_0c h0 h0_0 j24_h0_f1 h0_2 h0_0 h0_0k j24_h0_0c) H) (hD : va_D A (wd_c_X4_readUnit_2 h1 h1_0 h1_f1 j24_h1_f2 j24_h1_f3 h1_0 h1_0k h1_0c h0 h0_0 j24_h0_f1 h0_2 h0_0 h0_0k j24_h0_0c)) (hS : va_S A s.heap H locs) (hl : lv_has ls 5 [(0, .ref h0), (1, .ref h1), (2, .int 1)]), G H locs (F0 m 24 ls []) := by
    intro j24_h1_f2 j24_h1_f3 j24_h0_f1 j24_h0_0c g_h0_f1 g_h1_f1 g_h1_f2 g_h1_f3 g_j24_h0_f1 g_j24_h1_f2 g_j24_h1_f3 H locs ls hP hD hS hl
    refine hG _ _ _ ?_
    refine lv_aload_n hx hb dX4_readUnit_24 rfl (lv_at hl 1 rfl) ?_
    have hPc := hP.sub (ws' := (wd_c_X9_peek h1 h1_0 h1_f1 j24_h1_f2 j24_h1_f3 h1_0 h1_0k h1_0c)) [0, 1] rfl
    have hDc := hD.sub (ws' := (wd_c_X9_peek h1 h1_0 h1_f1 j24_h1_f2 j24_h1_f3 h1_0 h1_0k h1_0c)) [0, 1] (by decide) rfl
    have hKc := hK.sub (tys' := [(h1_0k, .int)]) [0] rfl
    have hFc := va_free (wc := (wd_c_X9_peek h1 h1_0 h1_f1 j24_h1_f2 j24_h1_f3 h1_0 h1_0k h1_0c)) hD hS hA [0, 1] rfl
    refine va_calli (va_runV (As := []) (rest := []) ⟨hx, hb, hml, hown, hts⟩ (c_X9_peek l dC dI H.size h1 h1_0 h1_f1 j24_h1_f2 j24_h1_f3 h1_0k h1_0c g_h1_f1 g_j24_h1_f2 g_j24_h1_f3 a_h1_0c) (cwV 0 hts gf_c_X4_readUnit_2_c_X9_peek rfl rfl rfl (by decide +kernel) ⟨Nat.le_of_ble_eq_true rfl, Nat.le_of_ble_eq_true rfl⟩) ⟨fun a U g mk q => by obtain ⟨q0, q1, qP, qK, qD⟩ := q; exact ⟨q0, q1, qP, va_K.moved (u := U) (U := U.calling g mk a) (Vm.Alike.refl U.vm) qK, qD⟩, va_recv hKc hPc (ci := 9) (q0 := 0) rfl rfl, fun U hU hW => ⟨rfl, by rw [hU], by rw [hU]; exact hPc, va_K.moved hW.alike hKc, hDc.weaken (fun _ _ _ _ => trivial)⟩⟩ rfl rfl hl.1 rfl (lv_room (Nat.le_of_ble_eq_true rfl)) dX4_readUnit_25 ⟨Nat.le_of_ble_eq_true rfl, Nat.le_of_ble_eq_true rfl⟩) hS (fun q _ h => hFc q h) hFc (fun r_1 x_2 t H1 locs ht hvm hw hB hz1 hk1 hS => ?_)
    obtain ⟨hP1, hK1, hD1⟩ := hB
    rw [ht] at hP1
    obtain ⟨hP, hD⟩ := va_join (wr := [(h0, .inr (4, [.ref h0_0, .int j24_h0_f1, .ref h0_2])), (h0_0, .inl (h0_0k, 240, .inl j24_h0_0c))]) (w1 := (wd_c_X9_peek h1 h1_0 h1_f1 x_2 j24_h1_f3 h1_0 h1_0k h1_0c)) hP hD [0, 1] [2, 3] rfl rfl (by decide) (by decide) hk1 hFc hP1 hD1
    have hP := hP.sub (ws' := (wd_c_X4_readUnit_2 h1 h1_0 h1_f1 x_2 j24_h1_f3 h1_0 h1_0k h1_0c h0 h0_0 j24_h0_f1 h0_2 h0_0 h0_0k j24_h0_0c)) [2, 3, 0, 1] rfl
    have hD := hD.sub (ws' := (wd_c_X4_readUnit_2 h1 h1_0 h1_f1 x_2 j24_h1_f3 h1_0 h1_0k h1_0c h0 h0_0 j24_h0_f1 h0_2 h0_0 h0_0k j24_h0_0c)) [2, 3, 0, 1] (by decide) rfl
    generalize H1 = H at hP hS ⊢
    rcases hw with ⟨h_3, h_4, h_5⟩ | ⟨h_6, h_7, h_8, h_9⟩
    · rw [h_3]
      refine lv_istore (lv' := [(4, .int (-1)), (0, .ref h0), (1, .ref h1), (2, .int 1)]) hx hb dX4_readUnit_28 hl (Nat.le_of_ble_eq_true rfl) rfl (fun ls hl => ?_)
      refine lv_iload hx hb dX4_readUnit_30 (lv_at hl 0 rfl) ?_
      have hPc := hP.sub (ws' := []) [] rfl
      have hDc := hD.sub (ws' := []) [] (by decide) rfl
      have hKc := hK.sub (tys' := []) [] rfl
      have hFc := va_free (wc := []) hD hS hA [] rfl
      refine va_calli (va_runS (As := [.int (-1)]) (rest := []) ⟨hx, hb, hml, hown, hts⟩ (c_X4_isComparison l dC dI H.size (-1) (RG_k (-1) (-1) rfl)) (va_cwS 1 hts gf_c_X4_readUnit_2_c_X4_isComparison rfl rfl rfl (by decide +kernel) ⟨Nat.le_of_ble_eq_true rfl, Nat.le_of_ble_eq_true rfl⟩) ⟨fun a U g mk q => by obtain ⟨q0, q1, qP, qK, qD⟩ := q; exact ⟨q0, q1, qP, va_K.moved (u := U) (U := U.calling g mk a) (Vm.Alike.refl U.vm) qK, qD⟩, fun U hU hW => ⟨rfl, by rw [hU], by rw [hU]; exact hPc, va_K.moved hW.alike hKc, hDc.weaken (fun _ _ _ _ => trivial)⟩⟩ rfl rfl hl.1 rfl (lv_room (Nat.le_of_ble_eq_true rfl)) dX4_readUnit_32 ⟨Nat.le_of_ble_eq_true rfl, Nat.le_of_ble_eq_true rfl⟩) hS (fun q _ h => hFc q h) hFc (fun r_10 u t H1 locs ht hvm hw hB hz1 hk1 hS => ?_)
      obtain ⟨hP1, hK1, hD1⟩ := hB
      rw [ht] at hP1
      have hP := bv_still hP hk1
      generalize H1 = H at hP hS ⊢
      have h_11 := hw
      rw [h_11]
      refine lv_if_eq (tgt := 58) hx hb dX4_readUnit_35 rfl (fun c_12 => ?_) (fun c_12 => absurd c_12 (by decide))
      refine lv_aload_n hx hb dX4_readUnit_58 rfl (lv_at hl 2 rfl) ?_
      have hPc := hP.sub (ws' := (wd_c_X9_refuseHere h1 h1_0 h1_f1 x_2 j24_h1_f3)) [0] rfl
      have hDc := hD.sub (ws' := (wd_c_X9_refuseHere h1 h1_0 h1_f1 x_2 j24_h1_f3)) [0] (by decide) rfl
      have hKc := hK.sub (tys' := []) [] rfl
      have hFc := va_free (wc := (wd_c_X9_refuseHere h1 h1_0 h1_f1 x_2 j24_h1_f3)) hD hS hA [0] rfl
      refine va_callv (va_runV (As := []) (rest := []) ⟨hx, hb, hml, hown, hts⟩ (c_X9_refuseHere l dC dI H.size h1 h1_0 h1_f1 x_2 j24_h1_f3 g_h1_f1 h_4 g_j24_h1_f3) (cwV 0 hts gf_c_X4_readUnit_2_c_X9_refuseHere rfl rfl rfl (by decide +kernel) ⟨Nat.le_of_ble_eq_true rfl, Nat.le_of_ble_eq_true rfl⟩) ⟨fun a U g mk q => by obtain ⟨q0, q1, qP, qK, qD⟩ := q; exact ⟨q0, q1, qP, va_K.moved (u := U) (U := U.calling g mk a) (Vm.Alike.refl U.vm) qK, qD⟩, va_recv hKc hPc (ci := 9) (q0 := 0) rfl rfl, fun U hU hW => ⟨rfl, by rw [hU], by rw [hU]; exact hPc, va_K.moved hW.alike hKc, hDc.weaken (fun _ _ _ _ => trivial)⟩⟩ rfl rfl hl.1 rfl (lv_room (Nat.le_of_ble_eq_true rfl)) dX4_readUnit_59 ⟨Nat.le_of_ble_eq_true rfl, Nat.le_of_ble_eq_true rfl⟩) hS (fun q _ h => hFc q h) hFc (fun x_14 t H1 locs ht hvm hw hB hz1 hk1 hS => ?_)
      obtain ⟨hP1, hK1, hD1⟩ := hB
      rw [ht] at hP1
      obtain ⟨hP, hD⟩ := va_join (wr := [(h1_0, .inl (h1_0k, 240, .inl h1_0c)), (h0, .inr (4, [.ref h0_0, .int j24_h0_f1, .ref h0_2])), (h0_0, .inl (h0_0k, 240, .inl j24_h0_0c))]) (w1 := (wd_c_X9_refuseHere h1 h1_0 h1_f1 x_2 x_14)) hP hD [0] [1, 2, 3] rfl rfl (by decide) (by decide) hk1 hFc hP1 hD1
      have hP := hP.sub (ws' := (wd_c_X4_readUnit_2 h1 h1_0 h1_f1 x_2 x_14 h1_0 h1_0k h1_0c h0 h0_0 j24_h0_f1 h0_2 h0_0 h0_0k j24_h0_0c)) [3, 0, 1, 2] rfl
      have hD := hD.sub (ws' := (wd_c_X4_readUnit_2 h1 h1_0 h1_f1 x_2 x_14 h1_0 h1_0k h1_0c h0 h0_0 j24_h0_f1 h0_2 h0_0 h0_0k j24_h0_0c)) [3, 0, 1, 2] (by decide) rfl
      generalize H1 = H at hP hS ⊢
      have h_15 := hw
      exact hU _ _ _ (J62 x_2 x_14 j24_h0_f1 j24_h0_0c g_h0_f1 g_h1_f1 g_h1_f2 g_h1_f3 g_j24_h0_f1 h_4 (RG_w h_15 (by decide)) _ _ _ hP hD hS (lv_sub hl [] rfl))
    · refine lv_istore (lv' := [(4, .int r_1), (0, .ref h0), (1, .ref h1), (2, .int 1)]) hx hb dX4_readUnit_28 hl (Nat.le_of_ble_eq_true rfl) rfl (fun ls hl => ?_)
      refine lv_iload hx hb dX4_readUnit_30 (lv_at hl 0 rfl) ?_
      have hPc := hP.sub (ws' := []) [] rfl
      have hDc := hD.sub (ws' := []) [] (by decide) rfl
      have hKc := hK.sub (tys' := []) [] rfl
      have hFc := va_free (wc := []) hD hS hA [] rfl
      refine va_calli (va_runS (As := [.int r_1]) (rest := []) ⟨hx, hb, hml, hown, hts⟩ (c_X4_isComparison_1 l dC dI H.size r_1 h_6) (va_cwS 1 hts gf_c_X4_readUnit_2_c_X4_isComparison_1 rfl rfl rfl (by decide +kernel) ⟨Nat.le_of_ble_eq_true rfl, Nat.le_of_ble_eq_true rfl⟩) ⟨fun a U g mk q => by obtain ⟨q0, q1, qP, qK, qD⟩ := q; exact ⟨q0, q1, qP, va_K.moved (u := U) (U := U.calling g mk a) (Vm.Alike.refl U.vm) qK, qD⟩, fun U hU hW => ⟨rfl, by rw [hU], by rw [hU]; exact hPc, va_K.moved hW.alike hKc, hDc.weaken (fun _ _ _ _ => trivial)⟩⟩ rfl rfl hl.1 rfl (lv_room (Nat.le_of_ble_eq_true rfl)) dX4_readUnit_32 ⟨Nat.le_of_ble_eq_true rfl, Nat.le_of_ble_eq_true rfl⟩) hS (fun q _ h => hFc q h) hFc (fun r_16 u t H1 locs ht hvm hw hB hz1 hk1 hS => ?_)
      obtain ⟨hP1, hK1, hD1⟩ := hB
      rw [ht] at hP1
      have hP := bv_still hP hk1
      generalize H1 = H at hP hS ⊢
      rcases hw with h_17 | ⟨h_18, h_19⟩
      · rw [h_17]
        refine lv_if_eq (tgt := 58) hx hb dX4_readUnit_35 rfl (fun c_20 => ?_) (fun c_20 => absurd c_20 (by decide))
        refine lv_aload_n hx hb dX4_readUnit_58 rfl (lv_at hl 2 rfl) ?_
        have hPc := hP.sub (ws' := (wd_c_X9_refuseHere h1 h1_0 h1_f1 x_2 j24_h1_f3)) [0] rfl
        have hDc := hD.sub (ws' := (wd_c_X9_refuseHere h1 h1_0 h1_f1 x_2 j24_h1_f3)) [0] (by decide) rfl
        have hKc := hK.sub (tys' := []) [] rfl
        have hFc := va_free (wc := (wd_c_X9_refuseHere h1 h1_0 h1_f1 x_2 j24_h1_f3)) hD hS hA [0] rfl
        refine va_callv (va_runV (As := []) (rest := []) ⟨hx, hb, hml, hown, hts⟩ (c_X9_refuseHere l dC dI H.size h1 h1_0 h1_f1 x_2 j24_h1_f3 (RG_w h_8 (by decide)) (RG_w h_7 (by decide)) g_j24_h1_f3) (cwV 0 hts gf_c_X4_readUnit_2_c_X9_refuseHere rfl rfl rfl (by decide +kernel) ⟨Nat.le_of_ble_eq_true rfl, Nat.le_of_ble_eq_true rfl⟩) ⟨fun a U g mk q => by obtain ⟨q0, q1, qP, qK, qD⟩ := q; exact ⟨q0, q1, qP, va_K.moved (u := U) (U := U.calling g mk a) (Vm.Alike.refl U.vm) qK, qD⟩, va_recv hKc hPc (ci := 9) (q0 := 0) rfl rfl, fun U hU hW => ⟨rfl, by rw [hU], by rw [hU]; exact hPc, va_K.moved hW.alike hKc, hDc.weaken (fun _ _ _ _ => trivial)⟩⟩ rfl rfl hl.1 rfl (lv_room (Nat.le_of_ble_eq_true rfl)) dX4_readUnit_59 ⟨Nat.le_of_ble_eq_true rfl, Nat.le_of_ble_eq_true rfl⟩) hS (fun q _ h => hFc q h) hFc (fun x_22 t H1 locs ht hvm hw hB hz1 hk1 hS => ?_)
        obtain ⟨hP1, hK1, hD1⟩ := hB
        rw [ht] at hP1
        obtain ⟨hP, hD⟩ := va_join (wr := [(h1_0, .inl (h1_0k, 240, .inl h1_0c)), (h0, .inr (4, [.ref h0_0, .int j24_h0_f1, .ref h0_2])), (h0_0, .inl (h0_0k, 240, .inl j24_h0_0c))]) (w1 := (wd_c_X9_refuseHere h1 h1_0 h1_f1 x_2 x_22)) hP hD [0] [1, 2, 3] rfl rfl (by decide) (by decide) hk1 hFc hP1 hD1
        have hP := hP.sub (ws' := (wd_c_X4_readUnit_2 h1 h1_0 h1_f1 x_2 x_22 h1_0 h1_0k h1_0c h0 h0_0 j24_h0_f1 h0_2 h0_0 h0_0k j24_h0_0c)) [3, 0, 1, 2] rfl
        have hD := hD.sub (ws' := (wd_c_X4_readUnit_2 h1 h1_0 h1_f1 x_2 x_22 h1_0 h1_0k h1_0c h0 h0_0 j24_h0_f1 h0_2 h0_0 h0_0k j24_h0_0c)) [3, 0, 1, 2] (by decide) rfl
        generalize H1 = H at hP hS ⊢
        have h_23 := hw
        exact hU _ _ _ (J62 x_2 x_22 j24_h0_f1 j24_h0_0c g_h0_f1 (RG_w h_8 (by decide)) g_h1_f2 g_h1_f3 g_j24_h0_f1 (RG_w h_7 (by decide)) (RG_w h_23 (by decide)) _ _ _ hP hD hS (lv_sub hl [] rfl))
      · rw [h_18]
        refine lv_if_eq (tgt := 58) hx hb dX4_readUnit_35 rfl (fun c_24 => absurd c_24 (by decide)) (fun c_24 => ?_)
        refine lv_aload_n hx hb dX4_readUnit_38 rfl (lv_at hl 2 rfl) ?_
        have hPc := hP.sub (ws' := (wd_c_X9_skip h1 h1_0 h1_f1 x_2 j24_h1_f3)) [0] rfl
        have hDc := hD.sub (ws' := (wd_c_X9_skip h1 h1_0 h1_f1 x_2 j24_h1_f3)) [0] (by decide) rfl
        have hKc := hK.sub (tys' := []) [] rfl
        have hFc := va_free (wc := (wd_c_X9_skip h1 h1_0 h1_f1 x_2 j24_h1_f3)) hD hS hA [0] rfl
        refine va_callv (va_runV (As := []) (rest := []) ⟨hx, hb, hml, hown, hts⟩ (c_X9_skip l dC dI H.size h1 h1_0 h1_f1 x_2 j24_h1_f3 (RG_w h_8 (by decide)) h_7 g_j24_h1_f3) (cwV 0 hts gf_c_X4_readUnit_2_c_X9_skip rfl rfl rfl (by decide +kernel) ⟨Nat.le_of_ble_eq_true rfl, Nat.le_of_ble_eq_true rfl⟩) ⟨fun a U g mk q => by obtain ⟨q0, q1, qP, qK, qD⟩ := q; exact ⟨q0, q1, qP, va_K.moved (u := U) (U := U.calling g mk a) (Vm.Alike.refl U.vm) qK, qD⟩, va_recv hKc hPc (ci := 9) (q0 := 0) rfl rfl, fun U hU hW => ⟨rfl, by rw [hU], by rw [hU]; exact hPc, va_K.moved hW.alike hKc, hDc.weaken (fun _ _ _ _ => trivial)⟩⟩ rfl rfl hl.1 rfl (lv_room (Nat.le_of_ble_eq_true rfl)) dX4_readUnit_39 ⟨Nat.le_of_ble_eq_true rfl, Nat.le_of_ble_eq_true rfl⟩) hS (fun q _ h => hFc q h) hFc (fun x_26 t H1 locs ht hvm hw hB hz1 hk1 hS => ?_)
        obtain ⟨hP1, hK1, hD1⟩ := hB
        rw [ht] at hP1
        obtain ⟨hP, hD⟩ := va_join (wr := [(h1_0, .inl (h1_0k, 240, .inl h1_0c)), (h0, .inr (4, [.ref h0_0, .int j24_h0_f1, .ref h0_2])), (h0_0, .inl (h0_0k, 240, .inl j24_h0_0c))]) (w1 := (wd_c_X9_skip h1 h1_0 h1_f1 x_26 j24_h1_f3)) hP hD [0] [1, 2, 3] rfl rfl (by decide) (by decide) hk1 hFc hP1 hD1
        have hP := hP.sub (ws' := (wd_c_X4_readUnit_2 h1 h1_0 h1_f1 x_26 j24_h1_f3 h1_0 h1_0k h1_0c h0 h0_0 j24_h0_f1 h0_2 h0_0 h0_0k j24_h0_0c)) [3, 0, 1, 2] rfl
        have hD := hD.sub (ws' := (wd_c_X4_readUnit_2 h1 h1_0 h1_f1 x_26 j24_h1_f3 h1_0 h1_0k h1_0c h0 h0_0 j24_h0_f1 h0_2 h0_0 h0_0k j24_h0_0c)) [3, 0, 1, 2] (by decide) rfl
        generalize H1 = H at hP hS ⊢
        rcases hw with ⟨h_27, h_28, h_29⟩
        refine lv_aload_n hx hb dX4_readUnit_42 rfl (lv_at hl 1 rfl) ?_
        refine lv_aload_n hx hb dX4_readUnit_43 rfl (lv_at hl 2 rfl) ?_
        refine lv_iload_n hx hb dX4_readUnit_44 rfl (lv_at hl 3 rfl) ?_
        have hPc := hP.sub (ws' := (wd_c_X4_readSum_1 h1 h1_0 h1_f1 x_26 j24_h1_f3 h1_0 h1_0k h1_0c h0 h0_0 j24_h0_f1 h0_2 h0_0 h0_0k j24_h0_0c)) [0, 1, 2, 3] rfl
        have hDc := hD.sub (ws' := (wd_c_X4_readSum_1 h1 h1_0 h1_f1 x_26 j24_h1_f3 h1_0 h1_0k h1_0c h0 h0_0 j24_h0_f1 h0_2 h0_0 h0_0k j24_h0_0c)) [0, 1, 2, 3] (by decide) rfl
        have hKc := hK.sub (tys' := [(h1_0k, .int), (h0_0k, .int)]) [0, 1] rfl
        have hFc := va_free (wc := (wd_c_X4_readSum_1 h1 h1_0 h1_f1 x_26 j24_h1_f3 h1_0 h1_0k h1_0c h0 h0_0 j24_h0_f1 h0_2 h0_0 h0_0k j24_h0_0c)) hD hS hA [0, 1, 2, 3] rfl
        refine va_callv (va_runV (As := [.ref h1, .int 1]) (rest := []) ⟨hx, hb, hml, hown, hts⟩ (c_X4_readSum_1 l dC dI H.size h0 h1 h1_0 h1_f1 x_26 j24_h1_f3 h1_0k h1_0c h0_0 j24_h0_f1 h0_2 h0_0k j24_h0_0c ts4 tv4 (RG_w h_8 (by decide)) (RG_w h_27 (by decide)) g_j24_h1_f3 a_h1_0c g_j24_h0_f1) (cwV 2 hts gf_c_X4_readUnit_2_c_X4_readSum_1 rfl rfl rfl (by decide +kernel) ⟨Nat.le_of_ble_eq_true rfl, Nat.le_of_ble_eq_true rfl⟩) ⟨fun a U g mk q => by obtain ⟨q0, q1, qP, qK, qD, qE0, qE1, qE2, qE3, qE4, qE5⟩ := q; exact ⟨q0, q1, qP, va_K.moved (u := U) (U := U.calling g mk a) (Vm.Alike.refl U.vm) qK, qD, vk_R.same rfl qE0, va_Z.moved (u := U) (U := U.calling g mk a) (Vm.Alike.refl U.vm) qE1, va_OF.moved (u := U) (U := U.calling g mk a) (Vm.Alike.refl U.vm) qE2, va_O.moved (u := U) (U := U.calling g mk a) (Vm.Alike.refl U.vm) qE3, va_OF.moved (u := U) (U := U.calling g mk a) (Vm.Alike.refl U.vm) qE4, va_T.moved (u := U) (U := U.calling g mk a) (Vm.Alike.refl U.vm) qE5⟩, va_recv hKc hPc (ci := 4) (q0 := 2) rfl rfl, fun U hU hW => ⟨rfl, by rw [hU], by rw [hU]; exact hPc, va_K.moved hW.alike hKc, hDc.weaken (fun _ _ _ _ => trivial), vk_R.warm hW hE_32, va_Z.moved hW.alike (by rw [hU]; exact (hE_10.kept hS.2.1).narrow hFc), va_OF.moved hW.alike (by rw [hU]; exact (hE_34.kept hS.2.1).narrow hFc), va_O.moved hW.alike (by rw [hU]; exact (hE_33.kept hS.2.1).narrow hFc), va_OF.moved hW.alike (by rw [hU]; exact (hE_35.kept hS.2.1).narrow hFc), va_T.moved hW.alike (by rw [hU]; exact (hE_36.kept hS.2.1).narrow hFc)⟩⟩ rfl rfl hl.1 rfl (lv_room (Nat.le_of_ble_eq_true rfl)) dX4_readUnit_45 ⟨Nat.le_of_ble_eq_true rfl, Nat.le_of_ble_eq_true rfl⟩) hS (fun q _ h => hFc q h) hFc (fun u t H1 locs ht hvm hw hB hz1 hk1 hS => ?_)
        obtain ⟨x_31, x_32, x_33, w_34⟩ := u
        obtain ⟨hP1, hK1, hD1⟩ := hB
        rw [ht] at hP1
        obtain ⟨hP, hD⟩ := va_join (wr := []) (w1 := (wd_c_X4_readSum_1 h1 h1_0 h1_f1 x_31 x_32 h1_0 h1_0k h1_0c h0 h0_0 x_33 h0_2 h0_0 h0_0k w_34)) hP hD [0, 1, 2, 3] [] rfl rfl (by decide) (by decide) hk1 hFc hP1 hD1
        have hP := hP.sub (ws' := (wd_c_X4_readUnit_2 h1 h1_0 h1_f1 x_31 x_32 h1_0 h1_0k h1_0c h0 h0_0 x_33 h0_2 h0_0 h0_0k w_34)) [0, 1, 2, 3] rfl
        have hD := hD.sub (ws' := (wd_c_X4_readUnit_2 h1 h1_0 h1_f1 x_31 x_32 h1_0 h1_0k h1_0c h0 h0_0 x_33 h0_2 h0_0 h0_0k w_34)) [0, 1, 2, 3] (by decide) rfl
        generalize H1 = H at hP hS ⊢
        rcases hw with ⟨h_35, h_36, h_37⟩
        refine lv_aload_n hx hb dX4_readUnit_48 rfl (lv_at hl 1 rfl) ?_
        refine lv_iload hx hb dX4_readUnit_49 (lv_at hl 0 rfl) ?_
        refine lv_ineg hx hb dX4_readUnit_51 ?_
        refine lv_topi (fun x_38 ex_38 => ?_)
        have g_39 : RG x_38 (-62) (-60) := RG_neg ex_38 h_19 (by decide)
        have hPc := hP.sub (ws' := (wd_c_X4_emit h0 h0_0 x_33 h0_2 h0_0 h0_0k w_34)) [2, 3] rfl
        have hDc := hD.sub (ws' := (wd_c_X4_emit h0 h0_0 x_33 h0_2 h0_0 h0_0k w_34)) [2, 3] (by decide) rfl
        have hKc := hK.sub (tys' := [(h0_0k, .int)]) [1] rfl
        have hFc := va_free (wc := (wd_c_X4_emit h0 h0_0 x_33 h0_2 h0_0 h0_0k w_34)) hD hS hA [2, 3] rfl
        refine va_callv (va_runV (As := [.int x_38]) (rest := []) ⟨hx, hb, hml, hown, hts⟩ (c_X4_emit l dC dI H.size h0 x_38 h0_0 x_33 h0_2 h0_0k w_34 h_37) (cwV 1 hts gf_c_X4_readUnit_2_c_X4_emit rfl rfl rfl (by decide +kernel) ⟨Nat.le_of_ble_eq_true rfl, Nat.le_of_ble_eq_true rfl⟩) ⟨fun a U g mk q => by obtain ⟨q0, q1, qP, qK, qD⟩ := q; exact ⟨q0, q1, qP, va_K.moved (u := U) (U := U.calling g mk a) (Vm.Alike.refl U.vm) qK, qD⟩, va_recv hKc hPc (ci := 4) (q0 := 0) rfl rfl, fun U hU hW => ⟨rfl, by rw [hU], by rw [hU]; exact hPc, va_K.moved hW.alike hKc, hDc.weaken (fun _ _ _ _ => trivial)⟩⟩ rfl rfl hl.1 rfl (lv_room (Nat.le_of_ble_eq_true rfl)) dX4_readUnit_52 ⟨Nat.le_of_ble_eq_true rfl, Nat.le_of_ble_eq_true rfl⟩) hS (fun q _ h => hFc q h) hFc (fun u t H1 locs ht hvm hw hB hz1 hk1 hS => ?_)
        obtain ⟨x_41, w_42⟩ := u
        obtain ⟨hP1, hK1, hD1⟩ := hB
        rw [ht] at hP1
        obtain ⟨hP, hD⟩ := va_join (wr := [(h1, .inr (9, [.ref h1_0, .int h1_f1, .int x_31, .int x_32])), (h1_0, .inl (h1_0k, 240, .inl h1_0c))]) (w1 := (wd_c_X4_emit h0 h0_0 x_41 h0_2 h0_0 h0_0k w_42)) hP hD [2, 3] [0, 1] rfl rfl (by decide) (by decide) hk1 hFc hP1 hD1
        have hP := hP.sub (ws' := (wd_c_X4_readUnit_2 h1 h1_0 h1_f1 x_31 x_32 h1_0 h1_0k h1_0c h0 h0_0 x_41 h0_2 h0_0 h0_0k w_42)) [0, 1, 2, 3] rfl
        have hD := hD.sub (ws' := (wd_c_X4_readUnit_2 h1 h1_0 h1_f1 x_31 x_32 h1_0 h1_0k h1_0c h0 h0_0 x_41 h0_2 h0_0 h0_0k w_42)) [0, 1, 2, 3] (by decide) rfl
        generalize H1 = H at hP hS ⊢
        have h_43 := hw
        refine lv_goto (tgt := 62) hx hb dX4_readUnit_55 rfl ?_
        exact hU _ _ _ (J62 x_31 x_32 x_41 w_42 g_h0_f1 (RG_w h_8 (by decide)) g_h1_f2 g_h1_f3 (RG_w h_43 (by decide)) h_35 h_36 _ _ _ hP hD hS (lv_sub hl [] rfl))
  have J14 : ∀ (j14_h1_f2 : Int32) (g_h0_f1 : RG h0_f1 0 240) (g_h1_f1 : RG h1_f1 0 240) (g_h1_f2 : RG h1_f2 0 240) (g_h1_f3 : RG h1_f3 (-1) 240) (g_j14_h1_f2 : RG j14_h1_f2 0 240) (H : Heap) (locs : List Loc) (ls : Array Slot) (hP : va_P (dC, dI) vwCl (wd_c_X4_readUnit_2 h1 h1_0 h1_f1 j14_h1_f2 h1_f3 h1_0 h1_0k h1_0c h0 h0_0 h0_f1 h0_2 h0_0 h0_0k h0_0c) H) (hD : va_D A (wd_c_X4_readUnit_2 h1 h1_0 h1_f1 j14_h1_f2 h1_f3 h1_0 h1_0k h1_0c h0 h0_0 h0_f1 h0_2 h0_0 h0_0k h0_0c)) (hS : va_S A s.heap H locs) (hl : lv_has ls 5 [(0, .ref h0), (1, .ref h1), (2, .int 1), (3, .int 0)]), G H locs (F0 m 14 ls []) := by
    intro j14_h1_f2 g_h0_f1 g_h1_f1 g_h1_f2 g_h1_f3 g_j14_h1_f2 H locs ls hP hD hS hl
    refine hG _ _ _ ?_
    refine lv_iload_n hx hb dX4_readUnit_14 rfl (lv_at hl 3 rfl) ?_
    refine lv_if_ne (tgt := 24) hx hb dX4_readUnit_15 rfl (fun c_44 => absurd c_44 (by decide)) (fun c_44 => ?_)
    refine lv_aload_n hx hb dX4_readUnit_18 rfl (lv_at hl 0 rfl) ?_
    refine lv_aload_n hx hb dX4_readUnit_19 rfl (lv_at hl 1 rfl) ?_
    refine lv_iload_n hx hb dX4_readUnit_20 rfl (lv_at hl 2 rfl) ?_
    have hPc := hP.sub (ws' := (wd_c_X4_readSum_1 h1 h1_0 h1_f1 j14_h1_f2 h1_f3 h1_0 h1_0k h1_0c h0 h0_0 h0_f1 h0_2 h0_0 h0_0k h0_0c)) [0, 1, 2, 3] rfl
    have hDc := hD.sub (ws' := (wd_c_X4_readSum_1 h1 h1_0 h1_f1 j14_h1_f2 h1_f3 h1_0 h1_0k h1_0c h0 h0_0 h0_f1 h0_2 h0_0 h0_0k h0_0c)) [0, 1, 2, 3] (by decide) rfl
    have hKc := hK.sub (tys' := [(h1_0k, .int), (h0_0k, .int)]) [0, 1] rfl
    have hFc := va_free (wc := (wd_c_X4_readSum_1 h1 h1_0 h1_f1 j14_h1_f2 h1_f3 h1_0 h1_0k h1_0c h0 h0_0 h0_f1 h0_2 h0_0 h0_0k h0_0c)) hD hS hA [0, 1, 2, 3] rfl
    refine va_callv (va_runV (As := [.ref h1, .int 1]) (rest := []) ⟨hx, hb, hml, hown, hts⟩ (c_X4_readSum_1 l dC dI H.size h0 h1 h1_0 h1_f1 j14_h1_f2 h1_f3 h1_0k h1_0c h0_0 h0_f1 h0_2 h0_0k h0_0c ts4 tv4 g_h1_f1 g_j14_h1_f2 g_h1_f3 a_h1_0c g_h0_f1) (cwV 2 hts gf_c_X4_readUnit_2_c_X4_readSum_1 rfl rfl rfl (by decide +kernel) ⟨Nat.le_of_ble_eq_true rfl, Nat.le_of_ble_eq_true rfl⟩) ⟨fun a U g mk q => by obtain ⟨q0, q1, qP, qK, qD, qE0, qE1, qE2, qE3, qE4, qE5⟩ := q; exact ⟨q0, q1, qP, va_K.moved (u := U) (U := U.calling g mk a) (Vm.Alike.refl U.vm) qK, qD, vk_R.same rfl qE0, va_Z.moved (u := U) (U := U.calling g mk a) (Vm.Alike.refl U.vm) qE1, va_OF.moved (u := U) (U := U.calling g mk a) (Vm.Alike.refl U.vm) qE2, va_O.moved (u := U) (U := U.calling g mk a) (Vm.Alike.refl U.vm) qE3, va_OF.moved (u := U) (U := U.calling g mk a) (Vm.Alike.refl U.vm) qE4, va_T.moved (u := U) (U := U.calling g mk a) (Vm.Alike.refl U.vm) qE5⟩, va_recv hKc hPc (ci := 4) (q0 := 2) rfl rfl, fun U hU hW => ⟨rfl, by rw [hU], by rw [hU]; exact hPc, va_K.moved hW.alike hKc, hDc.weaken (fun _ _ _ _ => trivial), vk_R.warm hW hE_32, va_Z.moved hW.alike (by rw [hU]; exact (hE_10.kept hS.2.1).narrow hFc), va_OF.moved hW.alike (by rw [hU]; exact (hE_34.kept hS.2.1).narrow hFc), va_O.moved hW.alike (by rw [hU]; exact (hE_33.kept hS.2.1).narrow hFc), va_OF.moved hW.alike (by rw [hU]; exact (hE_35.kept hS.2.1).narrow hFc), va_T.moved hW.alike (by rw [hU]; exact (hE_36.kept hS.2.1).narrow hFc)⟩⟩ rfl rfl hl.1 rfl (lv_room (Nat.le_of_ble_eq_true rfl)) dX4_readUnit_21 ⟨Nat.le_of_ble_eq_true rfl, Nat.le_of_ble_eq_true rfl⟩) hS (fun q _ h => hFc q h) hFc (fun u t H1 locs ht hvm hw hB hz1 hk1 hS => ?_)
    obtain ⟨x_46, x_47, x_48, w_49⟩ := u
    obtain ⟨hP1, hK1, hD1⟩ := hB
    rw [ht] at hP1
    obtain ⟨hP, hD⟩ := va_join (wr := []) (w1 := (wd_c_X4_readSum_1 h1 h1_0 h1_f1 x_46 x_47 h1_0 h1_0k h1_0c h0 h0_0 x_48 h0_2 h0_0 h0_0k w_49)) hP hD [0, 1, 2, 3] [] rfl rfl (by decide) (by decide) hk1 hFc hP1 hD1
    have hP := hP.sub (ws' := (wd_c_X4_readUnit_2 h1 h1_0 h1_f1 x_46 x_47 h1_0 h1_0k h1_0c h0 h0_0 x_48 h0_2 h0_0 h0_0k w_49)) [0, 1, 2, 3] rfl
    have hD := hD.sub (ws' := (wd_c_X4_readUnit_2 h1 h1_0 h1_f1 x_46 x_47 h1_0 h1_0k h1_0c h0 h0_0 x_48 h0_2 h0_0 h0_0k w_49)) [0, 1, 2, 3] (by decide) rfl
    generalize H1 = H at hP hS ⊢
    rcases hw with ⟨h_50, h_51, h_52⟩
    exact hU _ _ _ (J24 x_46 x_47 x_48 w_49 g_h0_f1 g_h1_f1 g_h1_f2 g_h1_f3 h_52 h_50 h_51 _ _ _ hP hD hS (lv_sub hl [0, 1, 2] rfl))
  refine hG _ _ _ ?_
  refine lv_iload_n hx hb dX4_readUnit_0 rfl (lv_at hl 3 rfl) ?_
  refine lv_if_ne (tgt := 14) hx hb dX4_readUnit_1 rfl (fun c_53 => absurd c_53 (by decide)) (fun c_53 => ?_)
  refine lv_aload_n hx hb dX4_readUnit_4 rfl (lv_at hl 1 rfl) ?_
  have hPc := hP.sub (ws' := (wd_c_X9_peek h1 h1_0 h1_f1 h1_f2 h1_f3 h1_0 h1_0k h1_0c)) [0, 1] rfl
  have hDc := hD.sub (ws' := (wd_c_X9_peek h1 h1_0 h1_f1 h1_f2 h1_f3 h1_0 h1_0k h1_0c)) [0, 1] (by decide) rfl
  have hKc := hK.sub (tys' := [(h1_0k, .int)]) [0] rfl
  have hFc := va_free (wc := (wd_c_X9_peek h1 h1_0 h1_f1 h1_f2 h1_f3 h1_0 h1_0k h1_0c)) hD hS hA [0, 1] rfl
  refine va_calli (va_runV (As := []) (rest := []) ⟨hx, hb, hml, hown, hts⟩ (c_X9_peek l dC dI H.size h1 h1_0 h1_f1 h1_f2 h1_f3 h1_0k h1_0c g_h1_f1 g_h1_f2 g_h1_f3 a_h1_0c) (cwV 0 hts gf_c_X4_readUnit_2_c_X9_peek rfl rfl rfl (by decide +kernel) ⟨Nat.le_of_ble_eq_true rfl, Nat.le_of_ble_eq_true rfl⟩) ⟨fun a U g mk q => by obtain ⟨q0, q1, qP, qK, qD⟩ := q; exact ⟨q0, q1, qP, va_K.moved (u := U) (U := U.calling g mk a) (Vm.Alike.refl U.vm) qK, qD⟩, va_recv hKc hPc (ci := 9) (q0 := 0) rfl rfl, fun U hU hW => ⟨rfl, by rw [hU], by rw [hU]; exact hPc, va_K.moved hW.alike hKc, hDc.weaken (fun _ _ _ _ => trivial)⟩⟩ rfl rfl hl.1 rfl (lv_room (Nat.le_of_ble_eq_true rfl)) dX4_readUnit_5 ⟨Nat.le_of_ble_eq_true rfl, Nat.le_of_ble_eq_true rfl⟩) hS (fun q _ h => hFc q h) hFc (fun r_54 x_55 t H1 locs ht hvm hw hB hz1 hk1 hS => ?_)
  obtain ⟨hP1, hK1, hD1⟩ := hB
  rw [ht] at hP1
  obtain ⟨hP, hD⟩ := va_join (wr := [(h0, .inr (4, [.ref h0_0, .int h0_f1, .ref h0_2])), (h0_0, .inl (h0_0k, 240, .inl h0_0c))]) (w1 := (wd_c_X9_peek h1 h1_0 h1_f1 x_55 h1_f3 h1_0 h1_0k h1_0c)) hP hD [0, 1] [2, 3] rfl rfl (by decide) (by decide) hk1 hFc hP1 hD1
  have hP := hP.sub (ws' := (wd_c_X4_readUnit_2 h1 h1_0 h1_f1 x_55 h1_f3 h1_0 h1_0k h1_0c h0 h0_0 h0_f1 h0_2 h0_0 h0_0k h0_0c)) [2, 3, 0, 1] rfl
  have hD := hD.sub (ws' := (wd_c_X4_readUnit_2 h1 h1_0 h1_f1 x_55 h1_f3 h1_0 h1_0k h1_0c h0 h0_0 h0_f1 h0_2 h0_0 h0_0k h0_0c)) [2, 3, 0, 1] (by decide) rfl
  generalize H1 = H at hP hS ⊢
  rcases hw with ⟨h_56, h_57, h_58⟩ | ⟨h_59, h_60, h_61, h_62⟩
  · rw [h_56]
    have hPc := hP.sub (ws' := []) [] rfl
    have hDc := hD.sub (ws' := []) [] (by decide) rfl
    have hKc := hK.sub (tys' := []) [] rfl
    have hFc := va_free (wc := []) hD hS hA [] rfl
    refine va_calli (va_runS (As := [.int (-1)]) (rest := []) ⟨hx, hb, hml, hown, hts⟩ (c_X4_startsUnit l dC dI H.size (-1) (RG_k (-1) (-1) rfl)) (va_cwS 1 hts gf_c_X4_readUnit_2_c_X4_startsUnit rfl rfl rfl (by decide +kernel) ⟨Nat.le_of_ble_eq_true rfl, Nat.le_of_ble_eq_true rfl⟩) ⟨fun a U g mk q => by obtain ⟨q0, q1, qP, qK, qD⟩ := q; exact ⟨q0, q1, qP, va_K.moved (u := U) (U := U.calling g mk a) (Vm.Alike.refl U.vm) qK, qD⟩, fun U hU hW => ⟨rfl, by rw [hU], by rw [hU]; exact hPc, va_K.moved hW.alike hKc, hDc.weaken (fun _ _ _ _ => trivial)⟩⟩ rfl rfl hl.1 rfl (lv_room (Nat.le_of_ble_eq_true rfl)) dX4_readUnit_8 ⟨Nat.le_of_ble_eq_true rfl, Nat.le_of_ble_eq_true rfl⟩) hS (fun q _ h => hFc q h) hFc (fun r_63 u t H1 locs ht hvm hw hB hz1 hk1 hS => ?_)
    obtain ⟨hP1, hK1, hD1⟩ := hB
    rw [ht] at hP1
    have hP := bv_still hP hk1
    generalize H1 = H at hP hS ⊢
    have h_64 := hw
    rw [h_64]
    refine lv_if_ne (tgt := 65) hx hb dX4_readUnit_11 rfl (fun c_65 => absurd c_65 (by decide)) (fun c_65 => ?_)
    exact hU _ _ _ (J14 x_55 g_h0_f1 g_h1_f1 g_h1_f2 g_h1_f3 h_57 _ _ _ hP hD hS (lv_sub hl [0, 1, 2, 3] rfl))
  · have hPc := hP.sub (ws' := []) [] rfl
    have hDc := hD.sub (ws' := []) [] (by decide) rfl
    have hKc := hK.sub (tys' := []) [] rfl
    have hFc := va_free (wc := []) hD hS hA [] rfl
    refine va_calli (va_runS (As := [.int r_54]) (rest := []) ⟨hx, hb, hml, hown, hts⟩ (c_X4_startsUnit_1 l dC dI H.size r_54 h_59) (va_cwS 1 hts gf_c_X4_readUnit_2_c_X4_startsUnit_1 rfl rfl rfl (by decide +kernel) ⟨Nat.le_of_ble_eq_true rfl, Nat.le_of_ble_eq_true rfl⟩) ⟨fun a U g mk q => by obtain ⟨q0, q1, qP, qK, qD⟩ := q; exact ⟨q0, q1, qP, va_K.moved (u := U) (U := U.calling g mk a) (Vm.Alike.refl U.vm) qK, qD⟩, fun U hU hW => ⟨rfl, by rw [hU], by rw [hU]; exact hPc, va_K.moved hW.alike hKc, hDc.weaken (fun _ _ _ _ => trivial)⟩⟩ rfl rfl hl.1 rfl (lv_room (Nat.le_of_ble_eq_true rfl)) dX4_readUnit_8 ⟨Nat.le_of_ble_eq_true rfl, Nat.le_of_ble_eq_true rfl⟩) hS (fun q _ h => hFc q h) hFc (fun r_66 u t H1 locs ht hvm hw hB hz1 hk1 hS => ?_)
    obtain ⟨hP1, hK1, hD1⟩ := hB
    rw [ht] at hP1
    have hP := bv_still hP hk1
    generalize H1 = H at hP hS ⊢
    rcases hw with h_67 | ⟨h_68, h_69⟩
    · rw [h_67]
      refine lv_if_ne (tgt := 65) hx hb dX4_readUnit_11 rfl (fun c_70 => absurd c_70 (by decide)) (fun c_70 => ?_)
      exact hU _ _ _ (J14 x_55 g_h0_f1 (RG_w h_61 (by decide)) g_h1_f2 g_h1_f3 (RG_w h_60 (by decide)) _ _ _ hP hD hS (lv_sub hl [0, 1, 2, 3] rfl))
    · rw [h_68]
      refine lv_if_ne (tgt := 65) hx hb dX4_readUnit_11 rfl (fun c_71 => ?_) (fun c_71 => absurd c_71 (by decide))
      refine lv_iload_n hx hb dX4_readUnit_65 rfl (lv_at hl 2 rfl) ?_
      refine lv_bipush (v := 6) hx hb dX4_readUnit_66 kc_bipush_6 ?_
      refine lv_icmp_lt (tgt := 78) hx hb dX4_readUnit_68 rfl (fun c_72 => ?_) (fun c_72 => absurd c_72 (by decide))
      refine lv_aload_n hx hb dX4_readUnit_78 rfl (lv_at hl 1 rfl) ?_
      refine lv_bipush (v := 33) hx hb dX4_readUnit_79 kc_bipush_33 ?_
      have hPc := hP.sub (ws' := (wd_c_X9_take h1 h1_0 h1_f1 x_55 h1_f3 h1_0 h1_0k h1_0c)) [0, 1] rfl
      have hDc := hD.sub (ws' := (wd_c_X9_take h1 h1_0 h1_f1 x_55 h1_f3 h1_0 h1_0k h1_0c)) [0, 1] (by decide) rfl
      have hKc := hK.sub (tys' := [(h1_0k, .int)]) [0] rfl
      have hFc := va_free (wc := (wd_c_X9_take h1 h1_0 h1_f1 x_55 h1_f3 h1_0 h1_0k h1_0c)) hD hS hA [0, 1] rfl
      refine va_calli (va_runV (As := [.int 33]) (rest := []) ⟨hx, hb, hml, hown, hts⟩ (c_X9_take l dC dI H.size h1 33 h1_0 h1_f1 x_55 h1_f3 h1_0k h1_0c (RG_w (RG_k 33 33 rfl) (by decide)) (RG_w h_61 (by decide)) (RG_w h_60 (by decide)) g_h1_f3 a_h1_0c) (cwV 1 hts gf_c_X4_readUnit_2_c_X9_take rfl rfl rfl (by decide +kernel) ⟨Nat.le_of_ble_eq_true rfl, Nat.le_of_ble_eq_true rfl⟩) ⟨fun a U g mk q => by obtain ⟨q0, q1, qP, qK, qD⟩ := q; exact ⟨q0, q1, qP, va_K.moved (u := U) (U := U.calling g mk a) (Vm.Alike.refl U.vm) qK, qD⟩, va_recv hKc hPc (ci := 9) (q0 := 0) rfl rfl, fun U hU hW => ⟨rfl, by rw [hU], by rw [hU]; exact hPc, va_K.moved hW.alike hKc, hDc.weaken (fun _ _ _ _ => trivial)⟩⟩ rfl rfl hl.1 rfl (lv_room (Nat.le_of_ble_eq_true rfl)) dX4_readUnit_81 ⟨Nat.le_of_ble_eq_true rfl, Nat.le_of_ble_eq_true rfl⟩) hS (fun q _ h => hFc q h) hFc (fun r_73 x_74 t H1 locs ht hvm hw hB hz1 hk1 hS => ?_)
      obtain ⟨hP1, hK1, hD1⟩ := hB
      rw [ht] at hP1
      obtain ⟨hP, hD⟩ := va_join (wr := [(h0, .inr (4, [.ref h0_0, .int h0_f1, .ref h0_2])), (h0_0, .inl (h0_0k, 240, .inl h0_0c))]) (w1 := (wd_c_X9_take h1 h1_0 h1_f1 x_74 h1_f3 h1_0 h1_0k h1_0c)) hP hD [0, 1] [2, 3] rfl rfl (by decide) (by decide) hk1 hFc hP1 hD1
      have hP := hP.sub (ws' := (wd_c_X4_readUnit_2 h1 h1_0 h1_f1 x_74 h1_f3 h1_0 h1_0k h1_0c h0 h0_0 h0_f1 h0_2 h0_0 h0_0k h0_0c)) [2, 3, 0, 1] rfl
      have hD := hD.sub (ws' := (wd_c_X4_readUnit_2 h1 h1_0 h1_f1 x_74 h1_f3 h1_0 h1_0k h1_0c h0 h0_0 h0_f1 h0_2 h0_0 h0_0k h0_0c)) [2, 3, 0, 1] (by decide) rfl
      generalize H1 = H at hP hS ⊢
      rcases hw with ⟨h_75, h_76, h_77⟩ | ⟨h_78, h_79, h_80, h_81, h_82⟩
      · rw [h_75]
        refine lv_if_eq (tgt := 105) hx hb dX4_readUnit_84 rfl (fun c_83 => ?_) (fun c_83 => absurd c_83 (by decide))
        refine lv_aload_n hx hb dX4_readUnit_105 rfl (lv_at hl 1 rfl) ?_
        refine lv_bipush (v := 40) hx hb dX4_readUnit_106 kc_bipush_40 ?_
        have hPc := hP.sub (ws' := (wd_c_X9_expect_1 h1 h1_0 h1_f1 x_74 h1_f3 h1_0 h1_0k h1_0c)) [0, 1] rfl
        have hDc := hD.sub (ws' := (wd_c_X9_expect_1 h1 h1_0 h1_f1 x_74 h1_f3 h1_0 h1_0k h1_0c)) [0, 1] (by decide) rfl
        have hKc := hK.sub (tys' := [(h1_0k, .int)]) [0] rfl
        have hFc := va_free (wc := (wd_c_X9_expect_1 h1 h1_0 h1_f1 x_74 h1_f3 h1_0 h1_0k h1_0c)) hD hS hA [0, 1] rfl
        refine va_callv (va_runV (As := [.int 40]) (rest := []) ⟨hx, hb, hml, hown, hts⟩ (c_X9_expect_1 l dC dI H.size h1 40 h1_0 h1_f1 x_74 h1_f3 h1_0k h1_0c (RG_w (RG_k 40 40 rfl) (by decide)) (RG_w h_61 (by decide)) h_76 g_h1_f3 a_h1_0c) (cwV 1 hts gf_c_X4_readUnit_2_c_X9_expect_1 rfl rfl rfl (by decide +kernel) ⟨Nat.le_of_ble_eq_true rfl, Nat.le_of_ble_eq_true rfl⟩) ⟨fun a U g mk q => by obtain ⟨q0, q1, qP, qK, qD⟩ := q; exact ⟨q0, q1, qP, va_K.moved (u := U) (U := U.calling g mk a) (Vm.Alike.refl U.vm) qK, qD⟩, va_recv hKc hPc (ci := 9) (q0 := 0) rfl rfl, fun U hU hW => ⟨rfl, by rw [hU], by rw [hU]; exact hPc, va_K.moved hW.alike hKc, hDc.weaken (fun _ _ _ _ => trivial)⟩⟩ rfl rfl hl.1 rfl (lv_room (Nat.le_of_ble_eq_true rfl)) dX4_readUnit_108 ⟨Nat.le_of_ble_eq_true rfl, Nat.le_of_ble_eq_true rfl⟩) hS (fun q _ h => hFc q h) hFc (fun u t H1 locs ht hvm hw hB hz1 hk1 hS => ?_)
        obtain ⟨x_85, x_86⟩ := u
        obtain ⟨hP1, hK1, hD1⟩ := hB
        rw [ht] at hP1
        obtain ⟨hP, hD⟩ := va_join (wr := [(h0, .inr (4, [.ref h0_0, .int h0_f1, .ref h0_2])), (h0_0, .inl (h0_0k, 240, .inl h0_0c))]) (w1 := (wd_c_X9_expect_1 h1 h1_0 h1_f1 x_85 x_86 h1_0 h1_0k h1_0c)) hP hD [0, 1] [2, 3] rfl rfl (by decide) (by decide) hk1 hFc hP1 hD1
        have hP := hP.sub (ws' := (wd_c_X4_readUnit_2 h1 h1_0 h1_f1 x_85 x_86 h1_0 h1_0k h1_0c h0 h0_0 h0_f1 h0_2 h0_0 h0_0k h0_0c)) [2, 3, 0, 1] rfl
        have hD := hD.sub (ws' := (wd_c_X4_readUnit_2 h1 h1_0 h1_f1 x_85 x_86 h1_0 h1_0k h1_0c h0 h0_0 h0_f1 h0_2 h0_0 h0_0k h0_0c)) [2, 3, 0, 1] (by decide) rfl
        generalize H1 = H at hP hS ⊢
        rcases hw with ⟨h_87, h_88, h_89⟩
        refine lv_aload_n hx hb dX4_readUnit_111 rfl (lv_at hl 0 rfl) ?_
        refine lv_aload_n hx hb dX4_readUnit_112 rfl (lv_at hl 1 rfl) ?_
        refine lv_iload_n hx hb dX4_readUnit_113 rfl (lv_at hl 2 rfl) ?_
        refine lv_iconst (v := 1) hx hb dX4_readUnit_114 kc_iconst_1 ?_
        refine lv_iadd hx hb dX4_readUnit_115 ?_
        refine lv_topi (fun x_90 ex_90 => ?_)
        obtain rfl : x_90 = 2 := ex_90.trans (by decide)
        refine lv_iconst (v := 0) hx hb dX4_readUnit_116 kc_iconst_0 ?_
        have hPc := hP.sub (ws' := (wd_c_X4_readCondition_2 h1 h1_0 h1_f1 x_85 x_86 h1_0 h1_0k h1_0c h0 h0_0 h0_f1 h0_2 h0_0 h0_0k h0_0c)) [0, 1, 2, 3] rfl
        have hDc := hD.sub (ws' := (wd_c_X4_readCondition_2 h1 h1_0 h1_f1 x_85 x_86 h1_0 h1_0k h1_0c h0 h0_0 h0_f1 h0_2 h0_0 h0_0k h0_0c)) [0, 1, 2, 3] (by decide) rfl
        have hKc := hK.sub (tys' := [(h1_0k, .int), (h0_0k, .int)]) [0, 1] rfl
        have hFc := va_free (wc := (wd_c_X4_readCondition_2 h1 h1_0 h1_f1 x_85 x_86 h1_0 h1_0k h1_0c h0 h0_0 h0_f1 h0_2 h0_0 h0_0k h0_0c)) hD hS hA [0, 1, 2, 3] rfl
        refine va_callv (va_runV (As := [.ref h1, .int 2, .int 0]) (rest := []) ⟨hx, hb, hml, hown, hts⟩ (c_X4_readCondition_2 l dC dI H.size h0 h1 h1_0 h1_f1 x_85 x_86 h1_0k h1_0c h0_0 h0_f1 h0_2 h0_0k h0_0c ts4 tv4 (RG_w h_61 (by decide)) h_87 h_88 a_h1_0c g_h0_f1) (cwV 3 hts gf_c_X4_readUnit_2_c_X4_readCondition_2 rfl rfl rfl (by decide +kernel) ⟨Nat.le_of_ble_eq_true rfl, Nat.le_of_ble_eq_true rfl⟩) ⟨fun a U g mk q => by obtain ⟨q0, q1, qP, qK, qD, qE0, qE1, qE2, qE3, qE4, qE5⟩ := q; exact ⟨q0, q1, qP, va_K.moved (u := U) (U := U.calling g mk a) (Vm.Alike.refl U.vm) qK, qD, vk_R.same rfl qE0, va_Z.moved (u := U) (U := U.calling g mk a) (Vm.Alike.refl U.vm) qE1, va_OF.moved (u := U) (U := U.calling g mk a) (Vm.Alike.refl U.vm) qE2, va_O.moved (u := U) (U := U.calling g mk a) (Vm.Alike.refl U.vm) qE3, va_OF.moved (u := U) (U := U.calling g mk a) (Vm.Alike.refl U.vm) qE4, va_T.moved (u := U) (U := U.calling g mk a) (Vm.Alike.refl U.vm) qE5⟩, va_recv hKc hPc (ci := 4) (q0 := 2) rfl rfl, fun U hU hW => ⟨rfl, by rw [hU], by rw [hU]; exact hPc, va_K.moved hW.alike hKc, hDc.weaken (fun _ _ _ _ => trivial), vk_R.warm hW hE_32, va_Z.moved hW.alike (by rw [hU]; exact (hE_10.kept hS.2.1).narrow hFc), va_OF.moved hW.alike (by rw [hU]; exact (hE_34.kept hS.2.1).narrow hFc), va_O.moved hW.alike (by rw [hU]; exact (hE_33.kept hS.2.1).narrow hFc), va_OF.moved hW.alike (by rw [hU]; exact (hE_35.kept hS.2.1).narrow hFc), va_T.moved hW.alike (by rw [hU]; exact (hE_36.kept hS.2.1).narrow hFc)⟩⟩ rfl rfl hl.1 rfl (lv_room (Nat.le_of_ble_eq_true rfl)) dX4_readUnit_117 ⟨Nat.le_of_ble_eq_true rfl, Nat.le_of_ble_eq_true rfl⟩) hS (fun q _ h => hFc q h) hFc (fun u t H1 locs ht hvm hw hB hz1 hk1 hS => ?_)
        obtain ⟨x_92, x_93, x_94, w_95⟩ := u
        obtain ⟨hP1, hK1, hD1⟩ := hB
        rw [ht] at hP1
        obtain ⟨hP, hD⟩ := va_join (wr := []) (w1 := (wd_c_X4_readCondition_2 h1 h1_0 h1_f1 x_92 x_93 h1_0 h1_0k h1_0c h0 h0_0 x_94 h0_2 h0_0 h0_0k w_95)) hP hD [0, 1, 2, 3] [] rfl rfl (by decide) (by decide) hk1 hFc hP1 hD1
        have hP := hP.sub (ws' := (wd_c_X4_readUnit_2 h1 h1_0 h1_f1 x_92 x_93 h1_0 h1_0k h1_0c h0 h0_0 x_94 h0_2 h0_0 h0_0k w_95)) [0, 1, 2, 3] rfl
        have hD := hD.sub (ws' := (wd_c_X4_readUnit_2 h1 h1_0 h1_f1 x_92 x_93 h1_0 h1_0k h1_0c h0 h0_0 x_94 h0_2 h0_0 h0_0k w_95)) [0, 1, 2, 3] (by decide) rfl
        generalize H1 = H at hP hS ⊢
        rcases hw with ⟨h_96, h_97, h_98⟩
        refine lv_aload_n hx hb dX4_readUnit_120 rfl (lv_at hl 1 rfl) ?_
        refine lv_bipush (v := 41) hx hb dX4_readUnit_121 kc_bipush_41 ?_
        have hPc := hP.sub (ws' := (wd_c_X9_expect_1 h1 h1_0 h1_f1 x_92 x_93 h1_0 h1_0k h1_0c)) [0, 1] rfl
        have hDc := hD.sub (ws' := (wd_c_X9_expect_1 h1 h1_0 h1_f1 x_92 x_93 h1_0 h1_0k h1_0c)) [0, 1] (by decide) rfl
        have hKc := hK.sub (tys' := [(h1_0k, .int)]) [0] rfl
        have hFc := va_free (wc := (wd_c_X9_expect_1 h1 h1_0 h1_f1 x_92 x_93 h1_0 h1_0k h1_0c)) hD hS hA [0, 1] rfl
        refine va_callv (va_runV (As := [.int 41]) (rest := []) ⟨hx, hb, hml, hown, hts⟩ (c_X9_expect_1 l dC dI H.size h1 41 h1_0 h1_f1 x_92 x_93 h1_0k h1_0c (RG_w (RG_k 41 41 rfl) (by decide)) (RG_w h_61 (by decide)) h_96 h_97 a_h1_0c) (cwV 1 hts gf_c_X4_readUnit_2_c_X9_expect_1 rfl rfl rfl (by decide +kernel) ⟨Nat.le_of_ble_eq_true rfl, Nat.le_of_ble_eq_true rfl⟩) ⟨fun a U g mk q => by obtain ⟨q0, q1, qP, qK, qD⟩ := q; exact ⟨q0, q1, qP, va_K.moved (u := U) (U := U.calling g mk a) (Vm.Alike.refl U.vm) qK, qD⟩, va_recv hKc hPc (ci := 9) (q0 := 0) rfl rfl, fun U hU hW => ⟨rfl, by rw [hU], by rw [hU]; exact hPc, va_K.moved hW.alike hKc, hDc.weaken (fun _ _ _ _ => trivial)⟩⟩ rfl rfl hl.1 rfl (lv_room (Nat.le_of_ble_eq_true rfl)) dX4_readUnit_123 ⟨Nat.le_of_ble_eq_true rfl, Nat.le_of_ble_eq_true rfl⟩) hS (fun q _ h => hFc q h) hFc (fun u t H1 locs ht hvm hw hB hz1 hk1 hS => ?_)
        obtain ⟨x_100, x_101⟩ := u
        obtain ⟨hP1, hK1, hD1⟩ := hB
        rw [ht] at hP1
        obtain ⟨hP, hD⟩ := va_join (wr := [(h0, .inr (4, [.ref h0_0, .int x_94, .ref h0_2])), (h0_0, .inl (h0_0k, 240, .inl w_95))]) (w1 := (wd_c_X9_expect_1 h1 h1_0 h1_f1 x_100 x_101 h1_0 h1_0k h1_0c)) hP hD [0, 1] [2, 3] rfl rfl (by decide) (by decide) hk1 hFc hP1 hD1
        have hP := hP.sub (ws' := (wd_c_X4_readUnit_2 h1 h1_0 h1_f1 x_100 x_101 h1_0 h1_0k h1_0c h0 h0_0 x_94 h0_2 h0_0 h0_0k w_95)) [2, 3, 0, 1] rfl
        have hD := hD.sub (ws' := (wd_c_X4_readUnit_2 h1 h1_0 h1_f1 x_100 x_101 h1_0 h1_0k h1_0c h0 h0_0 x_94 h0_2 h0_0 h0_0k w_95)) [2, 3, 0, 1] (by decide) rfl
        generalize H1 = H at hP hS ⊢
        rcases hw with ⟨h_102, h_103, h_104⟩
        have hK9 := hK.sub (tys' := []) [] rfl
        exact W.vret hx hb hr (fun t ht hW => ⟨⟨(x_100, x_101, x_94, w_95), rfl, ⟨h_102, h_103, h_98⟩, by rw [ht]; exact hP, va_K.moved hW.alike hK9, hD⟩, hS.F ht⟩) hS.2.2 dX4_readUnit_126
      · rw [h_78]
        refine lv_if_eq (tgt := 105) hx hb dX4_readUnit_84 rfl (fun c_105 => absurd c_105 (by decide)) (fun c_105 => ?_)
        refine lv_aload_n hx hb dX4_readUnit_87 rfl (lv_at hl 0 rfl) ?_
        refine lv_aload_n hx hb dX4_readUnit_88 rfl (lv_at hl 1 rfl) ?_
        refine lv_iload_n hx hb dX4_readUnit_89 rfl (lv_at hl 2 rfl) ?_
        refine lv_iconst (v := 1) hx hb dX4_readUnit_90 kc_iconst_1 ?_
        refine lv_iadd hx hb dX4_readUnit_91 ?_
        refine lv_topi (fun x_106 ex_106 => ?_)
        obtain rfl : x_106 = 2 := ex_106.trans (by decide)
        refine lv_iconst (v := 0) hx hb dX4_readUnit_92 kc_iconst_0 ?_
        have hPc := hP.sub (ws' := (wd_c_X4_readUnit_3 h1 h1_0 h1_f1 x_74 h1_f3 h1_0 h1_0k h1_0c h0 h0_0 h0_f1 h0_2 h0_0 h0_0k h0_0c)) [0, 1, 2, 3] rfl
        have hDc := hD.sub (ws' := (wd_c_X4_readUnit_3 h1 h1_0 h1_f1 x_74 h1_f3 h1_0 h1_0k h1_0c h0 h0_0 h0_f1 h0_2 h0_0 h0_0k h0_0c)) [0, 1, 2, 3] (by decide) rfl
        have hKc := hK.sub (tys' := [(h1_0k, .int), (h0_0k, .int)]) [0, 1] rfl
        have hFc := va_free (wc := (wd_c_X4_readUnit_3 h1 h1_0 h1_f1 x_74 h1_f3 h1_0 h1_0k h1_0c h0 h0_0 h0_f1 h0_2 h0_0 h0_0k h0_0c)) hD hS hA [0, 1, 2, 3] rfl
        refine va_callv (va_runV (As := [.ref h1, .int 2, .int 0]) (rest := []) ⟨hx, hb, hml, hown, hts⟩ (c_X4_readUnit_3 l dC dI H.size h0 h1 h1_0 h1_f1 x_74 h1_f3 h1_0k h1_0c h0_0 h0_f1 h0_2 h0_0k h0_0c ts4 tv4 (RG_w h_61 (by decide)) (RG_w h_79 (by decide)) (RG_w h_81 (by decide)) a_h1_0c g_h0_f1) (cwV 3 hts gf_c_X4_readUnit_2_c_X4_readUnit_3 rfl rfl rfl (by decide +kernel) ⟨Nat.le_of_ble_eq_true rfl, Nat.le_of_ble_eq_true rfl⟩) ⟨fun a U g mk q => by obtain ⟨q0, q1, qP, qK, qD, qE0, qE1, qE2, qE3, qE4, qE5⟩ := q; exact ⟨q0, q1, qP, va_K.moved (u := U) (U := U.calling g mk a) (Vm.Alike.refl U.vm) qK, qD, vk_R.same rfl qE0, va_Z.moved (u := U) (U := U.calling g mk a) (Vm.Alike.refl U.vm) qE1, va_OF.moved (u := U) (U := U.calling g mk a) (Vm.Alike.refl U.vm) qE2, va_O.moved (u := U) (U := U.calling g mk a) (Vm.Alike.refl U.vm) qE3, va_OF.moved (u := U) (U := U.calling g mk a) (Vm.Alike.refl U.vm) qE4, va_T.moved (u := U) (U := U.calling g mk a) (Vm.Alike.refl U.vm) qE5⟩, va_recv hKc hPc (ci := 4) (q0 := 2) rfl rfl, fun U hU hW => ⟨rfl, by rw [hU], by rw [hU]; exact hPc, va_K.moved hW.alike hKc, hDc.weaken (fun _ _ _ _ => trivial), vk_R.warm hW hE_32, va_Z.moved hW.alike (by rw [hU]; exact (hE_10.kept hS.2.1).narrow hFc), va_OF.moved hW.alike (by rw [hU]; exact (hE_34.kept hS.2.1).narrow hFc), va_O.moved hW.alike (by rw [hU]; exact (hE_33.kept hS.2.1).narrow hFc), va_OF.moved hW.alike (by rw [hU]; exact (hE_35.kept hS.2.1).narrow hFc), va_T.moved hW.alike (by rw [hU]; exact (hE_36.kept hS.2.1).narrow hFc)⟩⟩ rfl rfl hl.1 rfl (lv_room (Nat.le_of_ble_eq_true rfl)) dX4_readUnit_93 ⟨Nat.le_of_ble_eq_true rfl, Nat.le_of_ble_eq_true rfl⟩) hS (fun q _ h => hFc q h) hFc (fun u t H1 locs ht hvm hw hB hz1 hk1 hS => ?_)
        obtain ⟨x_108, x_109, x_110, w_111⟩ := u
        obtain ⟨hP1, hK1, hD1⟩ := hB
        rw [ht] at hP1
        obtain ⟨hP, hD⟩ := va_join (wr := []) (w1 := (wd_c_X4_readUnit_3 h1 h1_0 h1_f1 x_108 x_109 h1_0 h1_0k h1_0c h0 h0_0 x_110 h0_2 h0_0 h0_0k w_111)) hP hD [0, 1, 2, 3] [] rfl rfl (by decide) (by decide) hk1 hFc hP1 hD1
        have hP := hP.sub (ws' := (wd_c_X4_readUnit_2 h1 h1_0 h1_f1 x_108 x_109 h1_0 h1_0k h1_0c h0 h0_0 x_110 h0_2 h0_0 h0_0k w_111)) [0, 1, 2, 3] rfl
        have hD := hD.sub (ws' := (wd_c_X4_readUnit_2 h1 h1_0 h1_f1 x_108 x_109 h1_0 h1_0k h1_0c h0 h0_0 x_110 h0_2 h0_0 h0_0k w_111)) [0, 1, 2, 3] (by decide) rfl
        generalize H1 = H at hP hS ⊢
        rcases hw with ⟨h_112, h_113, h_114⟩
        refine lv_aload_n hx hb dX4_readUnit_96 rfl (lv_at hl 0 rfl) ?_
        refine lv_bipush (v := (-33)) hx hb dX4_readUnit_97 kc_bipush_m33 ?_
        have hPc := hP.sub (ws' := (wd_c_X4_emit h0 h0_0 x_110 h0_2 h0_0 h0_0k w_111)) [2, 3] rfl
        have hDc := hD.sub (ws' := (wd_c_X4_emit h0 h0_0 x_110 h0_2 h0_0 h0_0k w_111)) [2, 3] (by decide) rfl
        have hKc := hK.sub (tys' := [(h0_0k, .int)]) [1] rfl
        have hFc := va_free (wc := (wd_c_X4_emit h0 h0_0 x_110 h0_2 h0_0 h0_0k w_111)) hD hS hA [2, 3] rfl
        refine va_callv (va_runV (As := [.int (-33)]) (rest := []) ⟨hx, hb, hml, hown, hts⟩ (c_X4_emit l dC dI H.size h0 (-33) h0_0 x_110 h0_2 h0_0k w_111 h_114) (cwV 1 hts gf_c_X4_readUnit_2_c_X4_emit rfl rfl rfl (by decide +kernel) ⟨Nat.le_of_ble_eq_true rfl, Nat.le_of_ble_eq_true rfl⟩) ⟨fun a U g mk q => by obtain ⟨q0, q1, qP, qK, qD⟩ := q; exact ⟨q0, q1, qP, va_K.moved (u := U) (U := U.calling g mk a) (Vm.Alike.refl U.vm) qK, qD⟩, va_recv hKc hPc (ci := 4) (q0 := 0) rfl rfl, fun U hU hW => ⟨rfl, by rw [hU], by rw [hU]; exact hPc, va_K.moved hW.alike hKc, hDc.weaken (fun _ _ _ _ => trivial)⟩⟩ rfl rfl hl.1 rfl (lv_room (Nat.le_of_ble_eq_true rfl)) dX4_readUnit_99 ⟨Nat.le_of_ble_eq_true rfl, Nat.le_of_ble_eq_true rfl⟩) hS (fun q _ h => hFc q h) hFc (fun u t H1 locs ht hvm hw hB hz1 hk1 hS => ?_)
        obtain ⟨x_116, w_117⟩ := u
        obtain ⟨hP1, hK1, hD1⟩ := hB
        rw [ht] at hP1
        obtain ⟨hP, hD⟩ := va_join (wr := [(h1, .inr (9, [.ref h1_0, .int h1_f1, .int x_108, .int x_109])), (h1_0, .inl (h1_0k, 240, .inl h1_0c))]) (w1 := (wd_c_X4_emit h0 h0_0 x_116 h0_2 h0_0 h0_0k w_117)) hP hD [2, 3] [0, 1] rfl rfl (by decide) (by decide) hk1 hFc hP1 hD1
        have hP := hP.sub (ws' := (wd_c_X4_readUnit_2 h1 h1_0 h1_f1 x_108 x_109 h1_0 h1_0k h1_0c h0 h0_0 x_116 h0_2 h0_0 h0_0k w_117)) [0, 1, 2, 3] rfl
        have hD := hD.sub (ws' := (wd_c_X4_readUnit_2 h1 h1_0 h1_f1 x_108 x_109 h1_0 h1_0k h1_0c h0 h0_0 x_116 h0_2 h0_0 h0_0k w_117)) [0, 1, 2, 3] (by decide) rfl
        generalize H1 = H at hP hS ⊢
        have h_118 := hw
        refine lv_goto (tgt := 126) hx hb dX4_readUnit_102 rfl ?_
        have hK9 := hK.sub (tys' := []) [] rfl
        exact W.vret hx hb hr (fun t ht hW => ⟨⟨(x_108, x_109, x_116, w_117), rfl, ⟨h_112, h_113, (RG_w h_118 (by decide))⟩, by rw [ht]; exact hP, va_K.moved hW.alike hK9, hD⟩, hS.F ht⟩) hS.2.2 dX4_readUnit_126
