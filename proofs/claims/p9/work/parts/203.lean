noncomputable def wd_c_X4_readAtom_2 (a0 : Nat) (a1 : Nat) (a2 : Int32) (a3 : Int32) (a4 : Int32) (a5 : Nat) (a6 : ClassId) (a7 : Nat → Int32) (a8 : Nat) (a9 : Nat) (a10 : Int32) (a11 : Nat) (a12 : Nat) (a13 : ClassId) (a14 : Nat → Int32) : va_W := [(a0, .inr (9, [.ref a1, .int a2, .int a3, .int a4])), (a5, .inl (a6, 240, .inl a7)), (a8, .inr (4, [.ref a9, .int a10, .ref a11])), (a12, .inl (a13, 240, .inl a14))]
noncomputable def wf_c_X4_readAtom_2 : List Cond := List.cons (.code yX4_readAtom cX4_readAtom 6 none) (@HAppend.hAppend (List Cond) (List Cond) (List Cond) _ (@HAppend.hAppend (List Cond) (List Cond) (List Cond) _ [.methodLink RX4 41 yX9_peek, .instanceMethod yX9_peek, .selects RX9 yX9_peek yX9_peek, .initialized RX9, .code yX9_peek cX9_peek 1 (some .int), .fieldLink RX9 22 "BuoyVote$Tape" "at" "I", .fieldLink RX9 19 "BuoyVote$Tape" "length" "I", .fieldLink RX9 11 "BuoyVote$Tape" "bytes" "[I", .methodLink RX4 93 yJ0_indexOf_0f7a4, .instanceMethod yJ0_indexOf_0f7a4, .selects RJ0 yJ0_indexOf_0f7a4 yJ0_indexOf_0f7a4, .initialized RJ0, .code yJ0_indexOf_0f7a4 cJ0_indexOf_0f7a4 2 (some .int), .methodLink RJ0 633 yJ0_indexOf_7cf53, .instanceMethod yJ0_indexOf_7cf53, .selects RJ0 yJ0_indexOf_7cf53 yJ0_indexOf_7cf53, .code yJ0_indexOf_7cf53 cJ0_indexOf_7cf53 3 (some .int), .methodLink RJ0 492 yJ0_isLatin1_aae02, .instanceMethod yJ0_isLatin1_aae02, .selects RJ0 yJ0_isLatin1_aae02 yJ0_isLatin1_aae02, .code yJ0_isLatin1_aae02 cJ0_isLatin1_aae02 1 (some .boolean), .fieldLink RJ0 38 "java/lang/String" "COMPACT_STRINGS" "Z", .fieldLink RJ0 15 "java/lang/String" "coder" "B", .fieldLink RJ0 9 "java/lang/String" "value" "[B", .methodLink RJ0 505 yJ0_length_8abf5, .instanceMethod yJ0_length_8abf5, .selects RJ0 yJ0_length_8abf5 yJ0_length_8abf5, .code yJ0_length_8abf5 cJ0_length_8abf5 1 (some .int), .methodLink RJ0 335 yJ0_coder_7d493, .instanceMethod yJ0_coder_7d493, .selects RJ0 yJ0_coder_7d493 yJ0_coder_7d493, .code yJ0_coder_7d493 cJ0_coder_7d493 1 (some .byte), .methodLink RJ0 637 yJ1_indexOf_4cfef, .static yJ1_indexOf_4cfef, .initialized RJ1, .code yJ1_indexOf_4cfef cJ1_indexOf_4cfef 4 (some .int), .methodLink RJ1 88 yJ1_canEncode_9a6ad, .static yJ1_canEncode_9a6ad, .code yJ1_canEncode_9a6ad cJ1_canEncode_9a6ad 1 (some .boolean), .methodLink RJ1 92 Lib.Math.max.name, .static Lib.Math.max.name, .initialized "java/lang/Math", .code Lib.Math.max.name Lib.Math.max.code 2 (some .int), .methodLink RJ1 38 Lib.Math.min.name, .static Lib.Math.min.name, .code Lib.Math.min.name Lib.Math.min.code 2 (some .int), .methodLink RJ1 95 yJ1_indexOfChar_4cfef, .static yJ1_indexOfChar_4cfef, .code yJ1_indexOfChar_4cfef cJ1_indexOfChar_4cfef 6 (some .int), .methodLink RX4 99 yX9_number, .instanceMethod yX9_number, .selects RX9 yX9_number yX9_number, .code yX9_number cX9_number 4 (some .int), .methodLink RX4 82 yX9_refuseHere, .instanceMethod yX9_refuseHere, .selects RX9 yX9_refuseHere yX9_refuseHere, .code yX9_refuseHere cX9_refuseHere 1 none, .methodLink RX9 25 yX9_refuse, .instanceMethod yX9_refuse, .selects RX9 yX9_refuse yX9_refuse, .code yX9_refuse cX9_refuse 2 none, .fieldLink RX9 15 "BuoyVote$Tape" "wrong" "I", .methodLink RX4 79 yX9_skip, .instanceMethod yX9_skip, .selects RX9 yX9_skip yX9_skip, .code yX9_skip cX9_skip 1 none, .methodLink RX4 49 yX4_readSum, .instanceMethod yX4_readSum, .selects RX4 yX4_readSum yX4_readSum, .initialized RX4, .code yX4_readSum cX4_readSum 6 none, .methodLink RX4 72 yX9_isRight, .instanceMethod yX9_isRight, .selects RX9 yX9_isRight yX9_isRight, .code yX9_isRight cX9_isRight 1 (some .boolean), .methodLink RX4 85 yX4_readAtom, .instanceMethod yX4_readAtom, .selects RX4 yX4_readAtom yX4_readAtom, .methodLink RX4 60 yX4_emit, .instanceMethod yX4_emit, .selects RX4 yX4_emit yX4_emit, .code yX4_emit cX4_emit 2 none, .fieldLink RX4 20 "BuoyVote$Law" "length" "I", .fieldLink RX4 11 "BuoyVote$Law" "code" "[I", .methodLink RX4 88 yX9_takeEither, .instanceMethod yX9_takeEither, .selects RX9 yX9_takeEither yX9_takeEither, .code yX9_takeEither cX9_takeEither 4 (some .int), .methodLink RX9 29 yX9_peek, .methodLink RX4 37 yX9_expect, .instanceMethod yX9_expect, .selects RX9 yX9_expect yX9_expect, .code yX9_expect cX9_expect 2 none] wsX90) wsX40)
theorem iw_c_X4_readAtom_2_X9 : ∀ w ∈ wsX90, w ∈ wf_c_X4_readAtom_2 := fun w h => List.mem_cons_of_mem _ (List.mem_append_left _ (List.mem_append_right _ h))
theorem iw_c_X4_readAtom_2_X4 : ∀ w ∈ wsX40, w ∈ wf_c_X4_readAtom_2 := fun w h => List.mem_cons_of_mem _ (List.mem_append_right _ h)
set_option maxRecDepth 20000 in
theorem gf_c_X4_readAtom_2_c_X4_emit_1 : GoodIn wf_c_X4_readAtom_2 (wsV RX4 60 RX4 yX4_emit wf_c_X4_emit_1) := goodIn_app (gi_l [79, 80, 81, 70] rfl rfl) (gi_cons (j := 82) rfl rfl (goodIn_app (gi_l [83, 84] rfl rfl) (goodIn_sub iw_c_X4_readAtom_2_X4 gw_X4)))
set_option maxRecDepth 20000 in
theorem gf_c_X4_readAtom_2_c_X9_number_1 : GoodIn wf_c_X4_readAtom_2 (wsV RX4 99 RX9 yX9_number wf_c_X9_number_1) := goodIn_app (gi_l [50, 51, 52, 4] rfl rfl) (gi_cons (j := 53) rfl rfl (goodIn_app (gi_l [6, 7, 8] rfl rfl) (goodIn_sub iw_c_X4_readAtom_2_X9 gw_X9)))
set_option maxRecDepth 20000 in
theorem gf_c_X4_readAtom_2_c_X9_refuseHere : GoodIn wf_c_X4_readAtom_2 (wsV RX4 82 RX9 yX9_refuseHere wf_c_X9_refuseHere) := goodIn_app (gi_l [54, 55, 56, 4] rfl rfl) (gi_cons (j := 57) rfl rfl (goodIn_app (gi_l [6, 58, 59, 60, 4, 61, 62] rfl rfl) (goodIn_sub iw_c_X4_readAtom_2_X9 gw_X9)))
set_option maxRecDepth 20000 in
theorem gf_c_X4_readAtom_2_c_X9_skip : GoodIn wf_c_X4_readAtom_2 (wsV RX4 79 RX9 yX9_skip wf_c_X9_skip) := goodIn_app (gi_l [63, 64, 65, 4] rfl rfl) (gi_cons (j := 66) rfl rfl (goodIn_app (gi_l [6] rfl rfl) (goodIn_sub iw_c_X4_readAtom_2_X9 gw_X9)))
set_option maxRecDepth 20000 in
theorem gf_c_X4_readAtom_2_c_X4_readSum_3 : GoodIn wf_c_X4_readAtom_2 (wsV RX4 49 RX4 yX4_readSum wf_c_X4_readSum_3) := goodIn_app (gi_l [67, 68, 69, 70] rfl rfl) (gi_cons (j := 71) rfl rfl (goodIn_app (goodIn_app (gi_l [72, 73, 74, 4, 75, 62, 76, 77, 78, 70, 0, 1, 2, 3, 5, 6, 7, 8, 9, 10, 11, 12, 13, 14, 15, 16, 17, 18, 19, 20, 21, 22, 23, 24, 25, 26, 27, 28, 29, 30, 31, 32, 33, 34, 35, 36, 37, 38, 39, 40, 41, 42, 43, 44, 45, 46, 47, 48, 49, 50, 51, 52, 53, 54, 55, 56, 57, 58, 59, 60, 61, 63, 64, 65, 66, 67, 68, 69, 79, 80, 81, 82, 83, 84, 85, 86, 87, 88, 89, 90, 91, 92, 93] rfl rfl) (goodIn_sub iw_c_X4_readAtom_2_X9 gw_X9)) (goodIn_sub iw_c_X4_readAtom_2_X4 gw_X4)))
set_option maxRecDepth 20000 in
theorem gf_c_X4_readAtom_2_c_X9_expect_2 : GoodIn wf_c_X4_readAtom_2 (wsV RX4 37 RX9 yX9_expect wf_c_X9_expect_2) := goodIn_app (gi_l [90, 91, 92, 4] rfl rfl) (gi_cons (j := 93) rfl rfl (goodIn_app (gi_l [62, 89, 2, 3, 4, 5, 6, 7, 8, 58, 59, 60, 61] rfl rfl) (goodIn_sub iw_c_X4_readAtom_2_X9 gw_X9)))
set_option maxRecDepth 20000 in
theorem gf_c_X4_readAtom_2_c_X4_emit : GoodIn wf_c_X4_readAtom_2 (wsV RX4 60 RX4 yX4_emit wf_c_X4_emit) := goodIn_app (gi_l [79, 80, 81, 70] rfl rfl) (gi_cons (j := 82) rfl rfl (goodIn_app (gi_l [83, 84] rfl rfl) (goodIn_sub iw_c_X4_readAtom_2_X4 gw_X4)))
set_option maxRecDepth 20000 in
theorem gf_c_X4_readAtom_2_c_X9_peek : GoodIn wf_c_X4_readAtom_2 (wsV RX4 41 RX9 yX9_peek wf_c_X9_peek) := goodIn_app (gi_l [1, 2, 3, 4] rfl rfl) (gi_cons (j := 5) rfl rfl (goodIn_app (gi_l [6, 7, 8] rfl rfl) (goodIn_sub iw_c_X4_readAtom_2_X9 gw_X9)))
set_option maxRecDepth 20000 in
theorem gf_c_X4_readAtom_2_c_J0_indexOf_0f7a4_4 : GoodIn wf_c_X4_readAtom_2 (wsV RX4 93 RJ0 yJ0_indexOf_0f7a4 wf_c_J0_indexOf_0f7a4_4) := goodIn_app (gi_l [9, 10, 11, 12] rfl rfl) (gi_cons (j := 13) rfl rfl (gi_l [14, 15, 16, 12, 17, 18, 19, 20, 21, 22, 23, 24, 25, 26, 27, 28, 29, 30, 31, 32, 33, 34, 35, 36, 37, 38, 39, 40, 41, 42, 43, 44, 45, 46, 47, 48, 49] rfl rfl))
set_option maxHeartbeats 4000000 in
set_option maxRecDepth 100000 in
theorem c_X4_readAtom_2 (l : Launch) (dC : Nat → ClassId) (dI : Nat → Nat → Nat) (sz : Nat) (h0 : Nat) (h1 : Nat) (h1_0 : Nat) (h1_f1 : Int32) (h1_f2 : Int32) (h1_f3 : Int32) (h1_0k : ClassId) (h1_0c : Nat → Int32) (h0_0 : Nat) (h0_f1 : Int32) (h0_2 : Nat) (h0_0k : ClassId) (h0_0c : Nat → Int32) (ts4 : Nat) (tv4 : Nat) (g_h1_f1 : RG h1_f1 0 240) (g_h1_f2 : RG h1_f2 0 240) (g_h1_f3 : RG h1_f3 (-1) 240) (a_h1_0c : AI h1_0c 0 255) (g_h0_f1 : RG h0_f1 0 240) : Met l yX4_readAtom wf_c_X4_readAtom_2 ({ frames := 12, cells := 0, slots := 0, locals := 291 }) (va_Pc [.ref h0, .ref h1, .int 2] (fun U => U.heap.size = sz ∧ va_P (dC, dI) vwCl (wd_c_X4_readAtom_2 h1 h1_0 h1_f1 h1_f2 h1_f3 h1_0 h1_0k h1_0c h0 h0_0 h0_f1 h0_2 h0_0 h0_0k h0_0c) U.heap ∧ va_K (dC, dI) vwCl [(h1_0k, .int), (h0_0k, .int)] U ∧ va_D (fun _ => True) (wd_c_X4_readAtom_2 h1 h1_0 h1_f1 h1_f2 h1_f3 h1_0 h1_0k h1_0c h0 h0_0 h0_f1 h0_2 h0_0 h0_0k h0_0c) ∧ vk_R RX4 91 "vlrdph" ts4 U ∧ va_Z "java/lang/String" "COMPACT_STRINGS" "Z" (.int 1) (va_A (wd_c_X4_readAtom_2 h1 h1_0 h1_f1 h1_f2 h1_f3 h1_0 h1_0k h1_0c h0 h0_0 h0_f1 h0_2 h0_0 h0_0k h0_0c) sz) U U.heap ∧ va_OF "java/lang/String" "coder" "B" (.int 0) ts4 (va_A (wd_c_X4_readAtom_2 h1 h1_0 h1_f1 h1_f2 h1_f3 h1_0 h1_0k h1_0c h0 h0_0 h0_f1 h0_2 h0_0 h0_0k h0_0c) sz) U U.heap ∧ va_O "java/lang/String" ts4 (va_A (wd_c_X4_readAtom_2 h1 h1_0 h1_f1 h1_f2 h1_f3 h1_0 h1_0k h1_0c h0 h0_0 h0_f1 h0_2 h0_0 h0_0k h0_0c) sz) U U.heap ∧ va_OF "java/lang/String" "value" "[B" (.ref tv4) ts4 (va_A (wd_c_X4_readAtom_2 h1 h1_0 h1_f1 h1_f2 h1_f3 h1_0 h1_0k h1_0c h0 h0_0 h0_f1 h0_2 h0_0 h0_0k h0_0c) sz) U U.heap ∧ va_T .byte tv4 6 (fun j => .int ([118, 108, 114, 100, 112, 104].getD j 0)) (va_A (wd_c_X4_readAtom_2 h1 h1_0 h1_f1 h1_f2 h1_f3 h1_0 h1_0k h1_0c h0 h0_0 h0_f1 h0_2 h0_0 h0_0k h0_0c) sz) U U.heap)) (va_Qv (fun (u : (Int32) × (Int32) × (Int32) × (Nat → Int32)) => (RG u.1 0 240 ∧ RG u.2.1 (-1) 240 ∧ RG u.2.2.1 0 240 ∧ (u.1, u.2.1, u.2.2.1, u.2.2.2) = fx_c_X4_readAtom_2 h1_f1 h1_f2 h1_f3 h1_0c h0_f1 h0_0c)) (fun (u : (Int32) × (Int32) × (Int32) × (Nat → Int32)) t => va_P (dC, dI) vwCl (wd_c_X4_readAtom_2 h1 h1_0 h1_f1 (u.1) (u.2.1) h1_0 h1_0k h1_0c h0 h0_0 (u.2.2.1) h0_2 h0_0 h0_0k (u.2.2.2)) t.heap ∧ va_K (dC, dI) vwCl [] t ∧ va_D (va_A (wd_c_X4_readAtom_2 h1 h1_0 h1_f1 h1_f2 h1_f3 h1_0 h1_0k h1_0c h0 h0_0 h0_f1 h0_2 h0_0 h0_0k h0_0c) sz) (wd_c_X4_readAtom_2 h1 h1_0 h1_f1 (u.1) (u.2.1) h1_0 h1_0k h1_0c h0 h0_0 (u.2.2.1) h0_2 h0_0 h0_0k (u.2.2.2))) (va_A (wd_c_X4_readAtom_2 h1 h1_0 h1_f1 h1_f2 h1_f3 h1_0 h1_0k h1_0c h0 h0_0 h0_f1 h0_2 h0_0 h0_0k h0_0c) sz)) 0 0 (va_A (wd_c_X4_readAtom_2 h1 h1_0 h1_f1 h1_f2 h1_f3 h1_0 h1_0k h1_0c h0 h0_0 h0_f1 h0_2 h0_0 h0_0k h0_0c) sz) := by
  refine Met.ofW (cc := cX4_readAtom) (maxL := 6) (ret := none) (by decide +kernel) rfl ?_
  intro p e s m args below meth c s₁ B hml hv
  obtain ⟨rfl, hsz, hP, hK, hD0, hE_32, hE_10, hE_34, hE_33, hE_35, hE_36⟩ := hv
  have hx := B.exec
  have hb := B.bytes
  have hr := B.returns
  have hts := atoms_spec (ws := wf_c_X4_readAtom_2) B.pre
  have hown : s.vm.findClass RX4 = some m.cls := findClass_of_methodNamed B.named
  have hlocks := B.notSynchronized
  subst hsz
  have hD := hD0.self (sz := s.heap.size)
  generalize hAe : va_A (wd_c_X4_readAtom_2 h1 h1_0 h1_f1 h1_f2 h1_f3 h1_0 h1_0k h1_0c h0 h0_0 h0_f1 h0_2 h0_0 h0_0k h0_0c) s.heap.size = A at hD hE_10 hE_34 hE_33 hE_35 hE_36 ⊢
  have hA : ∀ q : Nat, s.heap.size ≤ q → A q := fun q h => by rw [← hAe]; exact Or.inr h
  have hP : va_P (dC, dI) vwCl (wd_c_X4_readAtom_2 h1 h1_0 h1_f1 h1_f2 h1_f3 h1_0 h1_0k h1_0c h0 h0_0 h0_f1 h0_2 h0_0 h0_0k h0_0c) s.heap := hP
  have hl := lv_entry ([.ref h0, .ref h1, .int 2]) (n := 6) (Nat.le_of_ble_eq_true rfl)
  rw [lg_entry_eq]
  generalize (lg_sl ([.ref h0, .ref h1, .int 2]) ++ List.replicate (6 - (lg_sl ([.ref h0, .ref h1, .int 2])).length) Slot.unset).toArray = ls at hl ⊢
  have hl : lv_has ls 6 [(0, .ref h0), (1, .ref h1), (2, .int 2)] := hl
  obtain ⟨H, hHe⟩ : ∃ H : Heap, s.heap = H := ⟨_, rfl⟩
  have hS : va_S A s.heap H [] := by rw [hHe]; exact va_S.rf
  have hP : va_P (dC, dI) vwCl (wd_c_X4_readAtom_2 h1 h1_0 h1_f1 h1_f2 h1_f3 h1_0 h1_0k h1_0c h0 h0_0 h0_f1 h0_2 h0_0 h0_0k h0_0c) H := by rw [← hHe]; exact hP
  rw [hHe]
  obtain ⟨RES, hR⟩ : ∃ z, fx_c_X4_readAtom_2 h1_f1 h1_f2 h1_f3 h1_0c h0_f1 h0_0c = z := ⟨_, rfl⟩
  have hEX : RES = fx_c_X4_readAtom_2 h1_f1 h1_f2 h1_f3 h1_0c h0_f1 h0_0c := hR.symm
  refine wj (fun G hG hU => ?_)
  as_aux_lemma =>
  have J65 : ∀ (j65_l5 : Int32) (j65_h1_f2 : Int32) (j65_h1_f3 : Int32) (g_h0_f1 : RG h0_f1 0 240) (g_h1_f1 : RG h1_f1 0 240) (g_h1_f2 : RG h1_f2 0 240) (g_h1_f3 : RG h1_f3 (-1) 240) (g_j65_h1_f2 : RG j65_h1_f2 0 240) (g_j65_h1_f3 : RG j65_h1_f3 (-1) 240) (g_j65_l5 : RG j65_l5 (-1) 9999) (hEX : RES = fx_c_X4_readAtom_2_p65 h0_f1 h0_0c j65_l5 j65_h1_f2 j65_h1_f3) (H : Heap) (locs : List Loc) (ls : Array Slot) (hP : va_P (dC, dI) vwCl (wd_c_X4_readAtom_2 h1 h1_0 h1_f1 j65_h1_f2 j65_h1_f3 h1_0 h1_0k h1_0c h0 h0_0 h0_f1 h0_2 h0_0 h0_0k h0_0c) H) (hD : va_D A (wd_c_X4_readAtom_2 h1 h1_0 h1_f1 j65_h1_f2 j65_h1_f3 h1_0 h1_0k h1_0c h0 h0_0 h0_f1 h0_2 h0_0 h0_0k h0_0c)) (hS : va_S A s.heap H locs) (hl : lv_has ls 6 [(5, .int j65_l5), (0, .ref h0)]), G H locs (F0 m 65 ls []) := by
    as_aux_lemma =>
    intro j65_l5 j65_h1_f2 j65_h1_f3 g_h0_f1 g_h1_f1 g_h1_f2 g_h1_f3 g_j65_h1_f2 g_j65_h1_f3 g_j65_l5 hEX H locs ls hP hD hS hl
    refine hG _ _ _ ?_
    refine lv_aload_n hx hb dX4_readAtom_65 rfl (lv_at hl 1 rfl) ?_
    refine lv_iload hx hb dX4_readAtom_66 (lv_at hl 0 rfl) ?_
    obtain ⟨hPc, hDc, hFc, hqc⟩ := cl_cut (wc := (wd_c_X4_emit_1 h0 h0_0 h0_f1 h0_2 h0_0 h0_0k h0_0c)) hP hD hS hA [2, 3] (by decide +kernel) rfl
    have hKc := hK.sub (tys' := [(h0_0k, .int)]) [1] rfl
    have hrv := va_recv hKc hPc (ci := 4) (q0 := 0) rfl rfl
    refine va_callv (va_runV (As := [.int j65_l5]) (rest := []) ⟨hx, hb, hml, hown, hts⟩ (c_X4_emit_1 l dC dI H.size h0 j65_l5 h0_0 h0_f1 h0_2 h0_0k h0_0c (RG_w g_j65_l5 (by decide +kernel)) g_h0_f1) (cwV 1 hts gf_c_X4_readAtom_2_c_X4_emit_1 rfl rfl rfl mdV_X4_emit ⟨Nat.le_of_ble_eq_true rfl, Nat.le_of_ble_eq_true rfl⟩) ⟨fun a U g mk q => by obtain ⟨q0, q1, qP, qK, qD⟩ := q; exact ⟨q0, q1, qP, va_K.moved (u := U) (U := U.calling g mk a) (Vm.Alike.refl U.vm) qK, qD⟩, hrv, fun U hU hW => ⟨rfl, by rw [hU], by rw [hU]; exact hPc, va_K.moved hW.alike hKc, hDc.weaken (fun _ _ _ _ => trivial)⟩⟩ rfl rfl hl.1 rfl (lv_room (Nat.le_of_ble_eq_true rfl)) dX4_readAtom_68 ⟨Nat.le_of_ble_eq_true rfl, Nat.le_of_ble_eq_true rfl⟩) hS (fun q _ h => hFc q h) hFc (fun u t H1 locs ht hvm hw hB hz1 hk1 hS => ?_)
    obtain ⟨x_2, w_3⟩ := u
    obtain ⟨hP1, hK1, hD1⟩ := hB
    rw [ht] at hP1
    obtain ⟨hP, hD⟩ := cl_put (w1 := (wd_c_X4_emit_1 h0 h0_0 x_2 h0_2 h0_0 h0_0k w_3)) (nw := (wd_c_X4_readAtom_2 h1 h1_0 h1_f1 j65_h1_f2 j65_h1_f3 h1_0 h1_0k h1_0c h0 h0_0 x_2 h0_2 h0_0 h0_0k w_3)) hP hD [2, 3] [0, 1, 4, 5] 4 rfl hqc (by decide +kernel) rfl hk1 hFc hP1 hD1
    generalize H1 = H at hP hS ⊢
    as_aux_lemma =>
    rcases hw with ⟨h_4, h_5⟩
    have h_5 : (x_2, w_3) = _ := h_5
    replace hEX := hEX.trans (exc2_eq h_5)
    refine lv_goto (tgt := 105) hx hb dX4_readAtom_71 rfl ?_
    have hK9 := hK.sub (tys' := []) [] rfl
    exact W.vret hx hb hr (fun t ht hW => ⟨⟨(j65_h1_f2, j65_h1_f3, x_2, w_3), rfl, ⟨g_j65_h1_f2, g_j65_h1_f3, (RG_w h_4 (by decide +kernel)), (hR.trans hEX).symm⟩, by rw [ht]; exact hP, va_K.moved hW.alike hK9, hD⟩, hS.F ht⟩) hS.2.2 dX4_readAtom_105
  have J20 : ∀ (j20_h1_f2 : Int32) (g_h0_f1 : RG h0_f1 0 240) (g_h1_f1 : RG h1_f1 0 240) (g_h1_f2 : RG h1_f2 0 240) (g_h1_f3 : RG h1_f3 (-1) 240) (g_j20_h1_f2 : RG j20_h1_f2 0 240) (hEX : RES = fx_c_X4_readAtom_2_p20 h1_f1 h1_f3 h1_0c h0_f1 h0_0c j20_h1_f2) (H : Heap) (locs : List Loc) (ls : Array Slot) (hP : va_P (dC, dI) vwCl (wd_c_X4_readAtom_2 h1 h1_0 h1_f1 j20_h1_f2 h1_f3 h1_0 h1_0k h1_0c h0 h0_0 h0_f1 h0_2 h0_0 h0_0k h0_0c) H) (hD : va_D A (wd_c_X4_readAtom_2 h1 h1_0 h1_f1 j20_h1_f2 h1_f3 h1_0 h1_0k h1_0c h0 h0_0 h0_f1 h0_2 h0_0 h0_0k h0_0c)) (hS : va_S A s.heap H locs) (hl : lv_has ls 6 [(3, .int (-1)), (0, .ref h0), (1, .ref h1), (2, .int 2)]), G H locs (F0 m 20 ls [.int (-1)]) := by
    as_aux_lemma =>
    intro j20_h1_f2 g_h0_f1 g_h1_f1 g_h1_f2 g_h1_f3 g_j20_h1_f2 hEX H locs ls hP hD hS hl
    refine hG _ _ _ ?_
    refine lv_istore (lv' := [(4, .int (-1)), (3, .int (-1)), (0, .ref h0), (1, .ref h1), (2, .int 2)]) hx hb dX4_readAtom_20 hl (Nat.le_of_ble_eq_true rfl) rfl (fun ls hl => ?_)
    refine lv_iload hx hb dX4_readAtom_22 (lv_at hl 0 rfl) ?_
    refine lv_if_lt (tgt := 42) hx hb dX4_readAtom_24 rfl (fun c_6 => ?_) (fun c_6 => absurd c_6 (by decide +kernel))
    refine lv_iload_n hx hb dX4_readAtom_42 rfl (lv_at hl 1 rfl) ?_
    refine lv_bipush (v := 91) hx hb dX4_readAtom_43 kc_bipush_91 ?_
    refine lv_icmp_eq (tgt := 74) hx hb dX4_readAtom_45 rfl (fun c_7 => absurd c_7 (by decide +kernel)) (fun c_7 => ?_)
    refine lv_aload_n hx hb dX4_readAtom_48 rfl (lv_at hl 3 rfl) ?_
    refine lv_iconst (v := 4) hx hb dX4_readAtom_49 kc_iconst_4 ?_
    obtain ⟨hPc, hDc, hFc, hqc⟩ := cl_cut (wc := (wd_c_X9_number_1 h1 h1_0 h1_f1 j20_h1_f2 h1_f3 h1_0 h1_0k h1_0c)) hP hD hS hA [0, 1] (by decide +kernel) rfl
    have hKc := hK.sub (tys' := [(h1_0k, .int)]) [0] rfl
    have hrv := va_recv hKc hPc (ci := 9) (q0 := 0) rfl rfl
    refine va_calli (va_runV (As := [.int 4]) (rest := []) ⟨hx, hb, hml, hown, hts⟩ (c_X9_number_1 l dC dI H.size h1 h1_0 h1_f1 j20_h1_f2 h1_f3 h1_0k h1_0c g_h1_f1 g_j20_h1_f2 g_h1_f3 a_h1_0c) (cwV 1 hts gf_c_X4_readAtom_2_c_X9_number_1 rfl rfl rfl mdV_X9_number ⟨Nat.le_of_ble_eq_true rfl, Nat.le_of_ble_eq_true rfl⟩) ⟨fun a U g mk q => by obtain ⟨q0, q1, qP, qK, qD⟩ := q; exact ⟨q0, q1, qP, va_K.moved (u := U) (U := U.calling g mk a) (Vm.Alike.refl U.vm) qK, qD⟩, hrv, fun U hU hW => ⟨rfl, by rw [hU], by rw [hU]; exact hPc, va_K.moved hW.alike hKc, hDc.weaken (fun _ _ _ _ => trivial)⟩⟩ rfl rfl hl.1 rfl (lv_room (Nat.le_of_ble_eq_true rfl)) dX4_readAtom_50 ⟨Nat.le_of_ble_eq_true rfl, Nat.le_of_ble_eq_true rfl⟩) hS (fun q _ h => hFc q h) hFc (fun r_8 x_9 t H1 locs ht hvm hw hB hz1 hk1 hS => ?_)
    as_aux_lemma =>
    obtain ⟨hP1, hK1, hD1⟩ := hB
    rw [ht] at hP1
    obtain ⟨hP, hD⟩ := cl_put (w1 := (wd_c_X9_number_1 h1 h1_0 h1_f1 x_9 h1_f3 h1_0 h1_0k h1_0c)) (nw := (wd_c_X4_readAtom_2 h1 h1_0 h1_f1 x_9 h1_f3 h1_0 h1_0k h1_0c h0 h0_0 h0_f1 h0_2 h0_0 h0_0k h0_0c)) hP hD [0, 1] [4, 5, 2, 3] 4 rfl hqc (by decide +kernel) rfl hk1 hFc hP1 hD1
    generalize H1 = H at hP hS ⊢
    as_aux_lemma =>
    rcases hw with ⟨h_10, h_11, h_12, h_13⟩ | ⟨h_14, h_15, h_16, h_17, h_18, h_19⟩
    · have h_13 : (r_8, x_9) = _ := h_13
      replace hEX := hEX.trans (exc2_eq h_13)
      replace hEX := hEX.trans (if_pos (show r_8 = (-1) from h_10))
      rw [h_10]
      refine lv_istore (lv' := [(5, .int (-1)), (4, .int (-1)), (3, .int (-1)), (0, .ref h0), (1, .ref h1), (2, .int 2)]) hx hb dX4_readAtom_53 hl (Nat.le_of_ble_eq_true rfl) rfl (fun ls hl => ?_)
      refine lv_iload hx hb dX4_readAtom_55 (lv_at hl 0 rfl) ?_
      refine lv_iconst (v := (-1)) hx hb dX4_readAtom_57 kc_iconst_m1 ?_
      refine lv_icmp_ne (tgt := 65) hx hb dX4_readAtom_58 rfl (fun c_20 => absurd c_20 (by decide +kernel)) (fun c_20 => ?_)
      refine lv_aload_n hx hb dX4_readAtom_61 rfl (lv_at hl 4 rfl) ?_
      obtain ⟨hPc, hDc, hFc, hqc⟩ := cl_cut (wc := (wd_c_X9_refuseHere h1 h1_0 h1_f1 x_9 h1_f3)) hP hD hS hA [0] (by decide +kernel) rfl
      have hKc := hK.sub (tys' := []) [] rfl
      have hrv := va_recv hKc hPc (ci := 9) (q0 := 0) rfl rfl
      refine va_callv (va_runV (As := []) (rest := []) ⟨hx, hb, hml, hown, hts⟩ (c_X9_refuseHere l dC dI H.size h1 h1_0 h1_f1 x_9 h1_f3 g_h1_f1 h_11 g_h1_f3) (cwV 0 hts gf_c_X4_readAtom_2_c_X9_refuseHere rfl rfl rfl mdV_X9_refuseHere ⟨Nat.le_of_ble_eq_true rfl, Nat.le_of_ble_eq_true rfl⟩) ⟨fun a U g mk q => by obtain ⟨q0, q1, qP, qK, qD⟩ := q; exact ⟨q0, q1, qP, va_K.moved (u := U) (U := U.calling g mk a) (Vm.Alike.refl U.vm) qK, qD⟩, hrv, fun U hU hW => ⟨rfl, by rw [hU], by rw [hU]; exact hPc, va_K.moved hW.alike hKc, hDc.weaken (fun _ _ _ _ => trivial)⟩⟩ rfl rfl hl.1 rfl (lv_room (Nat.le_of_ble_eq_true rfl)) dX4_readAtom_62 ⟨Nat.le_of_ble_eq_true rfl, Nat.le_of_ble_eq_true rfl⟩) hS (fun q _ h => hFc q h) hFc (fun x_22 t H1 locs ht hvm hw hB hz1 hk1 hS => ?_)
      as_aux_lemma =>
      obtain ⟨hP1, hK1, hD1⟩ := hB
      rw [ht] at hP1
      obtain ⟨hP, hD⟩ := cl_put (w1 := (wd_c_X9_refuseHere h1 h1_0 h1_f1 x_9 x_22)) (nw := (wd_c_X4_readAtom_2 h1 h1_0 h1_f1 x_9 x_22 h1_0 h1_0k h1_0c h0 h0_0 h0_f1 h0_2 h0_0 h0_0k h0_0c)) hP hD [0] [4, 1, 2, 3] 4 rfl hqc (by decide +kernel) rfl hk1 hFc hP1 hD1
      generalize H1 = H at hP hS ⊢
      as_aux_lemma =>
      rcases hw with ⟨h_23, h_24⟩
      have h_24 : x_22 = _ := h_24
      replace hEX := hEX.trans (exc1_eq h_24)
      exact hU _ _ _ (J65 (-1) x_9 x_22 g_h0_f1 g_h1_f1 g_h1_f2 g_h1_f3 h_11 (RG_w h_23 (by decide +kernel)) (RG_w (RG_k (-1) (-1) rfl) (by decide +kernel)) hEX _ _ _ hP hD hS (lv_sub hl [0, 3] rfl))
    · have h_19 : (r_8, x_9) = _ := h_19
      replace hEX := hEX.trans (exc2_eq h_19)
      replace hEX := hEX.trans (if_neg (RG_neq (x := r_8) (c := (-1)) (show RG r_8 0 9999 from h_14) (by decide +kernel)))
      refine lv_istore (lv' := [(5, .int r_8), (4, .int (-1)), (3, .int (-1)), (0, .ref h0), (1, .ref h1), (2, .int 2)]) hx hb dX4_readAtom_53 hl (Nat.le_of_ble_eq_true rfl) rfl (fun ls hl => ?_)
      refine lv_iload hx hb dX4_readAtom_55 (lv_at hl 0 rfl) ?_
      refine lv_iconst (v := (-1)) hx hb dX4_readAtom_57 kc_iconst_m1 ?_
      refine lv_icmp_ne (tgt := 65) hx hb dX4_readAtom_58 rfl (fun c_25 => ?_) (fun c_25 => ?_)
      · replace hEX := hEX.trans (if_neg c_25)
        exact hU _ _ _ (J65 r_8 x_9 h1_f3 g_h0_f1 (RG_w h_16 (by decide +kernel)) g_h1_f2 g_h1_f3 (RG_w h_15 (by decide +kernel)) g_h1_f3 (RG_w h_14 (by decide +kernel)) hEX _ _ _ hP hD hS (lv_sub hl [0, 3] rfl))
      · replace hEX := hEX.trans (if_pos c_25)
        exact RG_dead (RG_eq1 h_14 (RG_k (-1) (-1) rfl) c_25 (a' := 0) (b' := (-1)) (by decide +kernel)) (by decide +kernel)
  have J65b : ∀ (j65b_l5 : Int32) (j65b_h1_f2 : Int32) (j65b_h1_f3 : Int32) (g_h0_f1 : RG h0_f1 0 240) (g_h1_f1 : RG h1_f1 1 240) (g_h1_f2 : RG h1_f2 0 240) (g_h1_f3 : RG h1_f3 (-1) 240) (g_j65b_h1_f2 : RG j65b_h1_f2 0 240) (g_j65b_h1_f3 : RG j65b_h1_f3 (-1) 240) (g_j65b_l5 : RG j65b_l5 (-1) 9999) (hEX : RES = fx_c_X4_readAtom_2_p65b h0_f1 h0_0c j65b_l5 j65b_h1_f2 j65b_h1_f3) (H : Heap) (locs : List Loc) (ls : Array Slot) (hP : va_P (dC, dI) vwCl (wd_c_X4_readAtom_2 h1 h1_0 h1_f1 j65b_h1_f2 j65b_h1_f3 h1_0 h1_0k h1_0c h0 h0_0 h0_f1 h0_2 h0_0 h0_0k h0_0c) H) (hD : va_D A (wd_c_X4_readAtom_2 h1 h1_0 h1_f1 j65b_h1_f2 j65b_h1_f3 h1_0 h1_0k h1_0c h0 h0_0 h0_f1 h0_2 h0_0 h0_0k h0_0c)) (hS : va_S A s.heap H locs) (hl : lv_has ls 6 [(5, .int j65b_l5), (0, .ref h0)]), G H locs (F0 m 65 ls []) := by
    as_aux_lemma =>
    intro j65b_l5 j65b_h1_f2 j65b_h1_f3 g_h0_f1 g_h1_f1 g_h1_f2 g_h1_f3 g_j65b_h1_f2 g_j65b_h1_f3 g_j65b_l5 hEX H locs ls hP hD hS hl
    refine hG _ _ _ ?_
    refine lv_aload_n hx hb dX4_readAtom_65 rfl (lv_at hl 1 rfl) ?_
    refine lv_iload hx hb dX4_readAtom_66 (lv_at hl 0 rfl) ?_
    obtain ⟨hPc, hDc, hFc, hqc⟩ := cl_cut (wc := (wd_c_X4_emit_1 h0 h0_0 h0_f1 h0_2 h0_0 h0_0k h0_0c)) hP hD hS hA [2, 3] (by decide +kernel) rfl
    have hKc := hK.sub (tys' := [(h0_0k, .int)]) [1] rfl
    have hrv := va_recv hKc hPc (ci := 4) (q0 := 0) rfl rfl
    refine va_callv (va_runV (As := [.int j65b_l5]) (rest := []) ⟨hx, hb, hml, hown, hts⟩ (c_X4_emit_1 l dC dI H.size h0 j65b_l5 h0_0 h0_f1 h0_2 h0_0k h0_0c (RG_w g_j65b_l5 (by decide +kernel)) g_h0_f1) (cwV 1 hts gf_c_X4_readAtom_2_c_X4_emit_1 rfl rfl rfl mdV_X4_emit ⟨Nat.le_of_ble_eq_true rfl, Nat.le_of_ble_eq_true rfl⟩) ⟨fun a U g mk q => by obtain ⟨q0, q1, qP, qK, qD⟩ := q; exact ⟨q0, q1, qP, va_K.moved (u := U) (U := U.calling g mk a) (Vm.Alike.refl U.vm) qK, qD⟩, hrv, fun U hU hW => ⟨rfl, by rw [hU], by rw [hU]; exact hPc, va_K.moved hW.alike hKc, hDc.weaken (fun _ _ _ _ => trivial)⟩⟩ rfl rfl hl.1 rfl (lv_room (Nat.le_of_ble_eq_true rfl)) dX4_readAtom_68 ⟨Nat.le_of_ble_eq_true rfl, Nat.le_of_ble_eq_true rfl⟩) hS (fun q _ h => hFc q h) hFc (fun u t H1 locs ht hvm hw hB hz1 hk1 hS => ?_)
    obtain ⟨x_27, w_28⟩ := u
    obtain ⟨hP1, hK1, hD1⟩ := hB
    rw [ht] at hP1
    obtain ⟨hP, hD⟩ := cl_put (w1 := (wd_c_X4_emit_1 h0 h0_0 x_27 h0_2 h0_0 h0_0k w_28)) (nw := (wd_c_X4_readAtom_2 h1 h1_0 h1_f1 j65b_h1_f2 j65b_h1_f3 h1_0 h1_0k h1_0c h0 h0_0 x_27 h0_2 h0_0 h0_0k w_28)) hP hD [2, 3] [0, 1, 4, 5] 4 rfl hqc (by decide +kernel) rfl hk1 hFc hP1 hD1
    generalize H1 = H at hP hS ⊢
    as_aux_lemma =>
    rcases hw with ⟨h_29, h_30⟩
    have h_30 : (x_27, w_28) = _ := h_30
    replace hEX := hEX.trans (exc2_eq h_30)
    refine lv_goto (tgt := 105) hx hb dX4_readAtom_71 rfl ?_
    have hK9 := hK.sub (tys' := []) [] rfl
    exact W.vret hx hb hr (fun t ht hW => ⟨⟨(j65b_h1_f2, j65b_h1_f3, x_27, w_28), rfl, ⟨g_j65b_h1_f2, g_j65b_h1_f3, (RG_w h_29 (by decide +kernel)), (hR.trans hEX).symm⟩, by rw [ht]; exact hP, va_K.moved hW.alike hK9, hD⟩, hS.F ht⟩) hS.2.2 dX4_readAtom_105
  have J20b : ∀ (j20b_l3 : Int32) (j20b_h1_f2 : Int32) (g_h0_f1 : RG h0_f1 0 240) (g_h1_f1 : RG h1_f1 1 240) (g_h1_f2 : RG h1_f2 0 240) (g_h1_f3 : RG h1_f3 (-1) 240) (g_j20b_h1_f2 : RG j20b_h1_f2 0 239) (g_j20b_l3 : RG j20b_l3 0 255) (hEX : RES = fx_c_X4_readAtom_2_p20b h1_f1 h1_f3 h1_0c h0_f1 h0_0c j20b_l3 j20b_h1_f2) (H : Heap) (locs : List Loc) (ls : Array Slot) (hP : va_P (dC, dI) vwCl (wd_c_X4_readAtom_2 h1 h1_0 h1_f1 j20b_h1_f2 h1_f3 h1_0 h1_0k h1_0c h0 h0_0 h0_f1 h0_2 h0_0 h0_0k h0_0c) H) (hD : va_D A (wd_c_X4_readAtom_2 h1 h1_0 h1_f1 j20b_h1_f2 h1_f3 h1_0 h1_0k h1_0c h0 h0_0 h0_f1 h0_2 h0_0 h0_0k h0_0c)) (hS : va_S A s.heap H locs) (hl : lv_has ls 6 [(3, .int j20b_l3), (0, .ref h0), (1, .ref h1), (2, .int 2)]), G H locs (F0 m 20 ls [.int (-1)]) := by
    as_aux_lemma =>
    intro j20b_l3 j20b_h1_f2 g_h0_f1 g_h1_f1 g_h1_f2 g_h1_f3 g_j20b_h1_f2 g_j20b_l3 hEX H locs ls hP hD hS hl
    refine hG _ _ _ ?_
    refine lv_istore (lv' := [(4, .int (-1)), (3, .int j20b_l3), (0, .ref h0), (1, .ref h1), (2, .int 2)]) hx hb dX4_readAtom_20 hl (Nat.le_of_ble_eq_true rfl) rfl (fun ls hl => ?_)
    refine lv_iload hx hb dX4_readAtom_22 (lv_at hl 0 rfl) ?_
    refine lv_if_lt (tgt := 42) hx hb dX4_readAtom_24 rfl (fun c_31 => ?_) (fun c_31 => absurd c_31 (by decide +kernel))
    refine lv_iload_n hx hb dX4_readAtom_42 rfl (lv_at hl 1 rfl) ?_
    refine lv_bipush (v := 91) hx hb dX4_readAtom_43 kc_bipush_91 ?_
    refine lv_icmp_eq (tgt := 74) hx hb dX4_readAtom_45 rfl (fun c_32 => ?_) (fun c_32 => ?_)
    · replace hEX := hEX.trans (if_pos c_32)
      have g_33 : RG j20b_l3 91 91 := RG_eq1 g_j20b_l3 (RG_k 91 91 rfl) c_32 (by decide +kernel)
      refine lv_iload_n hx hb dX4_readAtom_74 rfl (lv_at hl 4 rfl) ?_
      refine lv_bipush (v := 6) hx hb dX4_readAtom_75 kc_bipush_6 ?_
      refine lv_icmp_lt (tgt := 87) hx hb dX4_readAtom_77 rfl (fun c_34 => ?_) (fun c_34 => absurd c_34 (by decide +kernel))
      refine lv_aload_n hx hb dX4_readAtom_87 rfl (lv_at hl 3 rfl) ?_
      as_aux_lemma =>
      obtain ⟨hPc, hDc, hFc, hqc⟩ := cl_cut (wc := (wd_c_X9_skip h1 h1_0 h1_f1 j20b_h1_f2 h1_f3)) hP hD hS hA [0] (by decide +kernel) rfl
      have hKc := hK.sub (tys' := []) [] rfl
      have hrv := va_recv hKc hPc (ci := 9) (q0 := 0) rfl rfl
      refine va_callv (va_runV (As := []) (rest := []) ⟨hx, hb, hml, hown, hts⟩ (c_X9_skip l dC dI H.size h1 h1_0 h1_f1 j20b_h1_f2 h1_f3 (RG_w g_h1_f1 (by decide +kernel)) g_j20b_h1_f2 g_h1_f3) (cwV 0 hts gf_c_X4_readAtom_2_c_X9_skip rfl rfl rfl mdV_X9_skip ⟨Nat.le_of_ble_eq_true rfl, Nat.le_of_ble_eq_true rfl⟩) ⟨fun a U g mk q => by obtain ⟨q0, q1, qP, qK, qD⟩ := q; exact ⟨q0, q1, qP, va_K.moved (u := U) (U := U.calling g mk a) (Vm.Alike.refl U.vm) qK, qD⟩, hrv, fun U hU hW => ⟨rfl, by rw [hU], by rw [hU]; exact hPc, va_K.moved hW.alike hKc, hDc.weaken (fun _ _ _ _ => trivial)⟩⟩ rfl rfl hl.1 rfl (lv_room (Nat.le_of_ble_eq_true rfl)) dX4_readAtom_88 ⟨Nat.le_of_ble_eq_true rfl, Nat.le_of_ble_eq_true rfl⟩) hS (fun q _ h => hFc q h) hFc (fun x_36 t H1 locs ht hvm hw hB hz1 hk1 hS => ?_)
      obtain ⟨hP1, hK1, hD1⟩ := hB
      rw [ht] at hP1
      obtain ⟨hP, hD⟩ := cl_put (w1 := (wd_c_X9_skip h1 h1_0 h1_f1 x_36 h1_f3)) (nw := (wd_c_X4_readAtom_2 h1 h1_0 h1_f1 x_36 h1_f3 h1_0 h1_0k h1_0c h0 h0_0 h0_f1 h0_2 h0_0 h0_0k h0_0c)) hP hD [0] [4, 1, 2, 3] 4 rfl hqc (by decide +kernel) rfl hk1 hFc hP1 hD1
      generalize H1 = H at hP hS ⊢
      as_aux_lemma =>
      rcases hw with ⟨h_37, h_38, h_39, h_40⟩
      have h_40 : x_36 = _ := h_40
      replace hEX := hEX.trans (exc1_eq h_40)
      refine lv_aload_n hx hb dX4_readAtom_91 rfl (lv_at hl 2 rfl) ?_
      refine lv_aload_n hx hb dX4_readAtom_92 rfl (lv_at hl 3 rfl) ?_
      refine lv_iload_n hx hb dX4_readAtom_93 rfl (lv_at hl 4 rfl) ?_
      refine lv_iconst (v := 1) hx hb dX4_readAtom_94 kc_iconst_1 ?_
      refine lv_iadd hx hb dX4_readAtom_95 ?_
      refine lv_topi (fun x_41 ex_41 => ?_)
      obtain rfl : x_41 = 3 := ex_41.trans (by decide +kernel)
      obtain ⟨hPc, hDc, hFc, hqc⟩ := cl_cut (wc := (wd_c_X4_readSum_3 h1 h1_0 h1_f1 x_36 h1_f3 h1_0 h1_0k h1_0c h0 h0_0 h0_f1 h0_2 h0_0 h0_0k h0_0c)) hP hD hS hA [0, 1, 2, 3] (by decide +kernel) rfl
      have hKc := hK.sub (tys' := [(h1_0k, .int), (h0_0k, .int)]) [0, 1] rfl
      have hrv := va_recv hKc hPc (ci := 4) (q0 := 2) rfl rfl
      refine va_callv (va_runV (As := [.ref h1, .int 3]) (rest := []) ⟨hx, hb, hml, hown, hts⟩ (c_X4_readSum_3 l dC dI H.size h0 h1 h1_0 h1_f1 x_36 h1_f3 h1_0k h1_0c h0_0 h0_f1 h0_2 h0_0k h0_0c ts4 tv4 (RG_w g_h1_f1 (by decide +kernel)) (RG_w h_37 (by decide +kernel)) g_h1_f3 a_h1_0c g_h0_f1) (cwV 2 hts gf_c_X4_readAtom_2_c_X4_readSum_3 rfl rfl rfl mdV_X4_readSum ⟨Nat.le_of_ble_eq_true rfl, Nat.le_of_ble_eq_true rfl⟩) ⟨fun a U g mk q => by obtain ⟨q0, q1, qP, qK, qD, qE0, qE1, qE2, qE3, qE4, qE5⟩ := q; exact ⟨q0, q1, qP, va_K.moved (u := U) (U := U.calling g mk a) (Vm.Alike.refl U.vm) qK, qD, vk_R.same rfl qE0, va_Z.moved (u := U) (U := U.calling g mk a) (Vm.Alike.refl U.vm) qE1, va_OF.moved (u := U) (U := U.calling g mk a) (Vm.Alike.refl U.vm) qE2, va_O.moved (u := U) (U := U.calling g mk a) (Vm.Alike.refl U.vm) qE3, va_OF.moved (u := U) (U := U.calling g mk a) (Vm.Alike.refl U.vm) qE4, va_T.moved (u := U) (U := U.calling g mk a) (Vm.Alike.refl U.vm) qE5⟩, hrv, fun U hU hW => ⟨rfl, by rw [hU], by rw [hU]; exact hPc, va_K.moved hW.alike hKc, hDc.weaken (fun _ _ _ _ => trivial), vk_R.warm hW hE_32, va_Z.moved hW.alike (by rw [hU]; exact (hE_10.kept hS.2.1).narrow hFc), va_OF.moved hW.alike (by rw [hU]; exact (hE_34.kept hS.2.1).narrow hFc), va_O.moved hW.alike (by rw [hU]; exact (hE_33.kept hS.2.1).narrow hFc), va_OF.moved hW.alike (by rw [hU]; exact (hE_35.kept hS.2.1).narrow hFc), va_T.moved hW.alike (by rw [hU]; exact (hE_36.kept hS.2.1).narrow hFc)⟩⟩ rfl rfl hl.1 rfl (lv_room (Nat.le_of_ble_eq_true rfl)) dX4_readAtom_96 ⟨Nat.le_of_ble_eq_true rfl, Nat.le_of_ble_eq_true rfl⟩) hS (fun q _ h => hFc q h) hFc (fun u t H1 locs ht hvm hw hB hz1 hk1 hS => ?_)
      as_aux_lemma =>
      obtain ⟨x_43, x_44, x_45, w_46⟩ := u
      obtain ⟨hP1, hK1, hD1⟩ := hB
      rw [ht] at hP1
      obtain ⟨hP, hD⟩ := cl_put (w1 := (wd_c_X4_readSum_3 h1 h1_0 h1_f1 x_43 x_44 h1_0 h1_0k h1_0c h0 h0_0 x_45 h0_2 h0_0 h0_0k w_46)) (nw := (wd_c_X4_readAtom_2 h1 h1_0 h1_f1 x_43 x_44 h1_0 h1_0k h1_0c h0 h0_0 x_45 h0_2 h0_0 h0_0k w_46)) hP hD [0, 1, 2, 3] [4, 5, 6, 7] 4 rfl hqc (by decide +kernel) rfl hk1 hFc hP1 hD1
      generalize H1 = H at hP hS ⊢
      as_aux_lemma =>
      rcases hw with ⟨h_47, h_48, h_49, h_50⟩
      have h_50 : (x_43, x_44, x_45, w_46) = _ := h_50
      replace hEX := hEX.trans (exc4_eq h_50)
      refine lv_aload_n hx hb dX4_readAtom_99 rfl (lv_at hl 3 rfl) ?_
      refine lv_bipush (v := 93) hx hb dX4_readAtom_100 kc_bipush_93 ?_
      obtain ⟨hPc, hDc, hFc, hqc⟩ := cl_cut (wc := (wd_c_X9_expect_2 h1 h1_0 h1_f1 x_43 x_44 h1_0 h1_0k h1_0c)) hP hD hS hA [0, 1] (by decide +kernel) rfl
      have hKc := hK.sub (tys' := [(h1_0k, .int)]) [0] rfl
      have hrv := va_recv hKc hPc (ci := 9) (q0 := 0) rfl rfl
      refine va_callv (va_runV (As := [.int 93]) (rest := []) ⟨hx, hb, hml, hown, hts⟩ (c_X9_expect_2 l dC dI H.size h1 93 h1_0 h1_f1 x_43 x_44 h1_0k h1_0c (RG_w (RG_k 93 93 rfl) (by decide +kernel)) (RG_w g_h1_f1 (by decide +kernel)) h_47 h_48 a_h1_0c) (cwV 1 hts gf_c_X4_readAtom_2_c_X9_expect_2 rfl rfl rfl mdV_X9_expect ⟨Nat.le_of_ble_eq_true rfl, Nat.le_of_ble_eq_true rfl⟩) ⟨fun a U g mk q => by obtain ⟨q0, q1, qP, qK, qD⟩ := q; exact ⟨q0, q1, qP, va_K.moved (u := U) (U := U.calling g mk a) (Vm.Alike.refl U.vm) qK, qD⟩, hrv, fun U hU hW => ⟨rfl, by rw [hU], by rw [hU]; exact hPc, va_K.moved hW.alike hKc, hDc.weaken (fun _ _ _ _ => trivial)⟩⟩ rfl rfl hl.1 rfl (lv_room (Nat.le_of_ble_eq_true rfl)) dX4_readAtom_102 ⟨Nat.le_of_ble_eq_true rfl, Nat.le_of_ble_eq_true rfl⟩) hS (fun q _ h => hFc q h) hFc (fun u t H1 locs ht hvm hw hB hz1 hk1 hS => ?_)
      obtain ⟨x_52, x_53⟩ := u
      obtain ⟨hP1, hK1, hD1⟩ := hB
      rw [ht] at hP1
      obtain ⟨hP, hD⟩ := cl_put (w1 := (wd_c_X9_expect_2 h1 h1_0 h1_f1 x_52 x_53 h1_0 h1_0k h1_0c)) (nw := (wd_c_X4_readAtom_2 h1 h1_0 h1_f1 x_52 x_53 h1_0 h1_0k h1_0c h0 h0_0 x_45 h0_2 h0_0 h0_0k w_46)) hP hD [0, 1] [4, 5, 2, 3] 4 rfl hqc (by decide +kernel) rfl hk1 hFc hP1 hD1
      generalize H1 = H at hP hS ⊢
      as_aux_lemma =>
      rcases hw with ⟨h_54, h_55, h_56, h_57⟩
      have h_57 : (x_52, x_53) = _ := h_57
      replace hEX := hEX.trans (exc2_eq h_57)
      have hK9 := hK.sub (tys' := []) [] rfl
      exact W.vret hx hb hr (fun t ht hW => ⟨⟨(x_52, x_53, x_45, w_46), rfl, ⟨h_54, h_55, h_49, (hR.trans hEX).symm⟩, by rw [ht]; exact hP, va_K.moved hW.alike hK9, hD⟩, hS.F ht⟩) hS.2.2 dX4_readAtom_105
    · replace hEX := hEX.trans (if_neg c_32)
      refine lv_aload_n hx hb dX4_readAtom_48 rfl (lv_at hl 3 rfl) ?_
      refine lv_iconst (v := 4) hx hb dX4_readAtom_49 kc_iconst_4 ?_
      obtain ⟨hPc, hDc, hFc, hqc⟩ := cl_cut (wc := (wd_c_X9_number_1 h1 h1_0 h1_f1 j20b_h1_f2 h1_f3 h1_0 h1_0k h1_0c)) hP hD hS hA [0, 1] (by decide +kernel) rfl
      have hKc := hK.sub (tys' := [(h1_0k, .int)]) [0] rfl
      have hrv := va_recv hKc hPc (ci := 9) (q0 := 0) rfl rfl
      refine va_calli (va_runV (As := [.int 4]) (rest := []) ⟨hx, hb, hml, hown, hts⟩ (c_X9_number_1 l dC dI H.size h1 h1_0 h1_f1 j20b_h1_f2 h1_f3 h1_0k h1_0c (RG_w g_h1_f1 (by decide +kernel)) (RG_w g_j20b_h1_f2 (by decide +kernel)) g_h1_f3 a_h1_0c) (cwV 1 hts gf_c_X4_readAtom_2_c_X9_number_1 rfl rfl rfl mdV_X9_number ⟨Nat.le_of_ble_eq_true rfl, Nat.le_of_ble_eq_true rfl⟩) ⟨fun a U g mk q => by obtain ⟨q0, q1, qP, qK, qD⟩ := q; exact ⟨q0, q1, qP, va_K.moved (u := U) (U := U.calling g mk a) (Vm.Alike.refl U.vm) qK, qD⟩, hrv, fun U hU hW => ⟨rfl, by rw [hU], by rw [hU]; exact hPc, va_K.moved hW.alike hKc, hDc.weaken (fun _ _ _ _ => trivial)⟩⟩ rfl rfl hl.1 rfl (lv_room (Nat.le_of_ble_eq_true rfl)) dX4_readAtom_50 ⟨Nat.le_of_ble_eq_true rfl, Nat.le_of_ble_eq_true rfl⟩) hS (fun q _ h => hFc q h) hFc (fun r_58 x_59 t H1 locs ht hvm hw hB hz1 hk1 hS => ?_)
      obtain ⟨hP1, hK1, hD1⟩ := hB
      rw [ht] at hP1
      obtain ⟨hP, hD⟩ := cl_put (w1 := (wd_c_X9_number_1 h1 h1_0 h1_f1 x_59 h1_f3 h1_0 h1_0k h1_0c)) (nw := (wd_c_X4_readAtom_2 h1 h1_0 h1_f1 x_59 h1_f3 h1_0 h1_0k h1_0c h0 h0_0 h0_f1 h0_2 h0_0 h0_0k h0_0c)) hP hD [0, 1] [4, 5, 2, 3] 4 rfl hqc (by decide +kernel) rfl hk1 hFc hP1 hD1
      generalize H1 = H at hP hS ⊢
      as_aux_lemma =>
      rcases hw with ⟨h_60, h_61, h_62, h_63⟩ | ⟨h_64, h_65, h_66, h_67, h_68, h_69⟩
      · have h_63 : (r_58, x_59) = _ := h_63
        replace hEX := hEX.trans (exc2_eq h_63)
        replace hEX := hEX.trans (if_pos (show r_58 = (-1) from h_60))
        rw [h_60]
        refine lv_istore (lv' := [(5, .int (-1)), (4, .int (-1)), (3, .int j20b_l3), (0, .ref h0), (1, .ref h1), (2, .int 2)]) hx hb dX4_readAtom_53 hl (Nat.le_of_ble_eq_true rfl) rfl (fun ls hl => ?_)
        refine lv_iload hx hb dX4_readAtom_55 (lv_at hl 0 rfl) ?_
        refine lv_iconst (v := (-1)) hx hb dX4_readAtom_57 kc_iconst_m1 ?_
        refine lv_icmp_ne (tgt := 65) hx hb dX4_readAtom_58 rfl (fun c_70 => absurd c_70 (by decide +kernel)) (fun c_70 => ?_)
        refine lv_aload_n hx hb dX4_readAtom_61 rfl (lv_at hl 4 rfl) ?_
        obtain ⟨hPc, hDc, hFc, hqc⟩ := cl_cut (wc := (wd_c_X9_refuseHere h1 h1_0 h1_f1 x_59 h1_f3)) hP hD hS hA [0] (by decide +kernel) rfl
        have hKc := hK.sub (tys' := []) [] rfl
        have hrv := va_recv hKc hPc (ci := 9) (q0 := 0) rfl rfl
        refine va_callv (va_runV (As := []) (rest := []) ⟨hx, hb, hml, hown, hts⟩ (c_X9_refuseHere l dC dI H.size h1 h1_0 h1_f1 x_59 h1_f3 (RG_w g_h1_f1 (by decide +kernel)) h_61 g_h1_f3) (cwV 0 hts gf_c_X4_readAtom_2_c_X9_refuseHere rfl rfl rfl mdV_X9_refuseHere ⟨Nat.le_of_ble_eq_true rfl, Nat.le_of_ble_eq_true rfl⟩) ⟨fun a U g mk q => by obtain ⟨q0, q1, qP, qK, qD⟩ := q; exact ⟨q0, q1, qP, va_K.moved (u := U) (U := U.calling g mk a) (Vm.Alike.refl U.vm) qK, qD⟩, hrv, fun U hU hW => ⟨rfl, by rw [hU], by rw [hU]; exact hPc, va_K.moved hW.alike hKc, hDc.weaken (fun _ _ _ _ => trivial)⟩⟩ rfl rfl hl.1 rfl (lv_room (Nat.le_of_ble_eq_true rfl)) dX4_readAtom_62 ⟨Nat.le_of_ble_eq_true rfl, Nat.le_of_ble_eq_true rfl⟩) hS (fun q _ h => hFc q h) hFc (fun x_72 t H1 locs ht hvm hw hB hz1 hk1 hS => ?_)
        as_aux_lemma =>
        obtain ⟨hP1, hK1, hD1⟩ := hB
        rw [ht] at hP1
        obtain ⟨hP, hD⟩ := cl_put (w1 := (wd_c_X9_refuseHere h1 h1_0 h1_f1 x_59 x_72)) (nw := (wd_c_X4_readAtom_2 h1 h1_0 h1_f1 x_59 x_72 h1_0 h1_0k h1_0c h0 h0_0 h0_f1 h0_2 h0_0 h0_0k h0_0c)) hP hD [0] [4, 1, 2, 3] 4 rfl hqc (by decide +kernel) rfl hk1 hFc hP1 hD1
        generalize H1 = H at hP hS ⊢
        as_aux_lemma =>
        rcases hw with ⟨h_73, h_74⟩
        have h_74 : x_72 = _ := h_74
        replace hEX := hEX.trans (exc1_eq h_74)
        exact hU _ _ _ (J65b (-1) x_59 x_72 g_h0_f1 g_h1_f1 g_h1_f2 g_h1_f3 h_61 (RG_w h_73 (by decide +kernel)) (RG_w (RG_k (-1) (-1) rfl) (by decide +kernel)) hEX _ _ _ hP hD hS (lv_sub hl [0, 3] rfl))
      · have h_69 : (r_58, x_59) = _ := h_69
        replace hEX := hEX.trans (exc2_eq h_69)
        replace hEX := hEX.trans (if_neg (RG_neq (x := r_58) (c := (-1)) (show RG r_58 0 9999 from h_64) (by decide +kernel)))
        refine lv_istore (lv' := [(5, .int r_58), (4, .int (-1)), (3, .int j20b_l3), (0, .ref h0), (1, .ref h1), (2, .int 2)]) hx hb dX4_readAtom_53 hl (Nat.le_of_ble_eq_true rfl) rfl (fun ls hl => ?_)
        refine lv_iload hx hb dX4_readAtom_55 (lv_at hl 0 rfl) ?_
        refine lv_iconst (v := (-1)) hx hb dX4_readAtom_57 kc_iconst_m1 ?_
        refine lv_icmp_ne (tgt := 65) hx hb dX4_readAtom_58 rfl (fun c_75 => ?_) (fun c_75 => ?_)
        · replace hEX := hEX.trans (if_neg c_75)
          exact hU _ _ _ (J65b r_58 x_59 h1_f3 g_h0_f1 g_h1_f1 g_h1_f2 g_h1_f3 (RG_w h_65 (by decide +kernel)) g_h1_f3 (RG_w h_64 (by decide +kernel)) hEX _ _ _ hP hD hS (lv_sub hl [0, 3] rfl))
        · replace hEX := hEX.trans (if_pos c_75)
          exact RG_dead (RG_eq1 h_64 (RG_k (-1) (-1) rfl) c_75 (a' := 0) (b' := (-1)) (by decide +kernel)) (by decide +kernel)
  have J20c : ∀ (j20c_l3 : Int32) (j20c_s0 : Int32) (j20c_h1_f2 : Int32) (g_h0_f1 : RG h0_f1 0 240) (g_h1_f1 : RG h1_f1 1 240) (g_h1_f2 : RG h1_f2 0 240) (g_h1_f3 : RG h1_f3 (-1) 240) (g_j20c_h1_f2 : RG j20c_h1_f2 0 239) (g_j20c_l3 : RG j20c_l3 0 255) (g_j20c_s0 : RG j20c_s0 0 5) (hEX : RES = fx_c_X4_readAtom_2_p20c h1_f3 h0_f1 h0_0c j20c_s0 j20c_h1_f2) (H : Heap) (locs : List Loc) (ls : Array Slot) (hP : va_P (dC, dI) vwCl (wd_c_X4_readAtom_2 h1 h1_0 h1_f1 j20c_h1_f2 h1_f3 h1_0 h1_0k h1_0c h0 h0_0 h0_f1 h0_2 h0_0 h0_0k h0_0c) H) (hD : va_D A (wd_c_X4_readAtom_2 h1 h1_0 h1_f1 j20c_h1_f2 h1_f3 h1_0 h1_0k h1_0c h0 h0_0 h0_f1 h0_2 h0_0 h0_0k h0_0c)) (hS : va_S A s.heap H locs) (hl : lv_has ls 6 [(3, .int j20c_l3), (0, .ref h0), (1, .ref h1), (2, .int 2)]), G H locs (F0 m 20 ls [.int j20c_s0]) := by
    as_aux_lemma =>
    intro j20c_l3 j20c_s0 j20c_h1_f2 g_h0_f1 g_h1_f1 g_h1_f2 g_h1_f3 g_j20c_h1_f2 g_j20c_l3 g_j20c_s0 hEX H locs ls hP hD hS hl
    refine hG _ _ _ ?_
    refine lv_istore (lv' := [(4, .int j20c_s0), (3, .int j20c_l3), (0, .ref h0), (1, .ref h1), (2, .int 2)]) hx hb dX4_readAtom_20 hl (Nat.le_of_ble_eq_true rfl) rfl (fun ls hl => ?_)
    refine lv_iload hx hb dX4_readAtom_22 (lv_at hl 0 rfl) ?_
    refine lv_if_lt (tgt := 42) hx hb dX4_readAtom_24 rfl (fun c_76 => ?_) (fun c_76 => ?_)
    · replace hEX := hEX.trans (if_pos c_76)
      have g_77 : RG j20c_s0 0 (-1) := RG_lt1 g_j20c_s0 (RG_k 0 0 rfl) c_76 (by decide +kernel)
      exact RG_dead (RG_lt1 g_j20c_s0 (RG_k 0 0 rfl) c_76 (b' := (-1)) (by decide +kernel)) (by decide +kernel)
    · replace hEX := hEX.trans (if_neg c_76)
      have d_78 := Int32.not_lt.mp c_76
      refine lv_aload_n hx hb dX4_readAtom_27 rfl (lv_at hl 3 rfl) ?_
      obtain ⟨hPc, hDc, hFc, hqc⟩ := cl_cut (wc := (wd_c_X9_skip h1 h1_0 h1_f1 j20c_h1_f2 h1_f3)) hP hD hS hA [0] (by decide +kernel) rfl
      have hKc := hK.sub (tys' := []) [] rfl
      have hrv := va_recv hKc hPc (ci := 9) (q0 := 0) rfl rfl
      refine va_callv (va_runV (As := []) (rest := []) ⟨hx, hb, hml, hown, hts⟩ (c_X9_skip l dC dI H.size h1 h1_0 h1_f1 j20c_h1_f2 h1_f3 (RG_w g_h1_f1 (by decide +kernel)) g_j20c_h1_f2 g_h1_f3) (cwV 0 hts gf_c_X4_readAtom_2_c_X9_skip rfl rfl rfl mdV_X9_skip ⟨Nat.le_of_ble_eq_true rfl, Nat.le_of_ble_eq_true rfl⟩) ⟨fun a U g mk q => by obtain ⟨q0, q1, qP, qK, qD⟩ := q; exact ⟨q0, q1, qP, va_K.moved (u := U) (U := U.calling g mk a) (Vm.Alike.refl U.vm) qK, qD⟩, hrv, fun U hU hW => ⟨rfl, by rw [hU], by rw [hU]; exact hPc, va_K.moved hW.alike hKc, hDc.weaken (fun _ _ _ _ => trivial)⟩⟩ rfl rfl hl.1 rfl (lv_room (Nat.le_of_ble_eq_true rfl)) dX4_readAtom_28 ⟨Nat.le_of_ble_eq_true rfl, Nat.le_of_ble_eq_true rfl⟩) hS (fun q _ h => hFc q h) hFc (fun x_80 t H1 locs ht hvm hw hB hz1 hk1 hS => ?_)
      as_aux_lemma =>
      obtain ⟨hP1, hK1, hD1⟩ := hB
      rw [ht] at hP1
      obtain ⟨hP, hD⟩ := cl_put (w1 := (wd_c_X9_skip h1 h1_0 h1_f1 x_80 h1_f3)) (nw := (wd_c_X4_readAtom_2 h1 h1_0 h1_f1 x_80 h1_f3 h1_0 h1_0k h1_0c h0 h0_0 h0_f1 h0_2 h0_0 h0_0k h0_0c)) hP hD [0] [4, 1, 2, 3] 4 rfl hqc (by decide +kernel) rfl hk1 hFc hP1 hD1
      generalize H1 = H at hP hS ⊢
      as_aux_lemma =>
      rcases hw with ⟨h_81, h_82, h_83, h_84⟩
      have h_84 : x_80 = _ := h_84
      replace hEX := hEX.trans (exc1_eq h_84)
      refine lv_aload_n hx hb dX4_readAtom_31 rfl (lv_at hl 2 rfl) ?_
      refine lv_iconst (v := (-1)) hx hb dX4_readAtom_32 kc_iconst_m1 ?_
      refine lv_iload hx hb dX4_readAtom_33 (lv_at hl 0 rfl) ?_
      refine lv_isub hx hb dX4_readAtom_35 ?_
      refine lv_topi (fun x_85 ex_85 => ?_)
      replace hEX := hEX.trans (exl_eq ex_85)
      have g_86 : RG x_85 (-6) (-1) := RG_sub ex_85 (RG_k (-1) (-1) rfl) g_j20c_s0 (by decide +kernel)
      obtain ⟨hPc, hDc, hFc, hqc⟩ := cl_cut (wc := (wd_c_X4_emit h0 h0_0 h0_f1 h0_2 h0_0 h0_0k h0_0c)) hP hD hS hA [2, 3] (by decide +kernel) rfl
      have hKc := hK.sub (tys' := [(h0_0k, .int)]) [1] rfl
      have hrv := va_recv hKc hPc (ci := 4) (q0 := 0) rfl rfl
      refine va_callv (va_runV (As := [.int x_85]) (rest := []) ⟨hx, hb, hml, hown, hts⟩ (c_X4_emit l dC dI H.size h0 x_85 h0_0 h0_f1 h0_2 h0_0k h0_0c g_h0_f1) (cwV 1 hts gf_c_X4_readAtom_2_c_X4_emit rfl rfl rfl mdV_X4_emit ⟨Nat.le_of_ble_eq_true rfl, Nat.le_of_ble_eq_true rfl⟩) ⟨fun a U g mk q => by obtain ⟨q0, q1, qP, qK, qD⟩ := q; exact ⟨q0, q1, qP, va_K.moved (u := U) (U := U.calling g mk a) (Vm.Alike.refl U.vm) qK, qD⟩, hrv, fun U hU hW => ⟨rfl, by rw [hU], by rw [hU]; exact hPc, va_K.moved hW.alike hKc, hDc.weaken (fun _ _ _ _ => trivial)⟩⟩ rfl rfl hl.1 rfl (lv_room (Nat.le_of_ble_eq_true rfl)) dX4_readAtom_36 ⟨Nat.le_of_ble_eq_true rfl, Nat.le_of_ble_eq_true rfl⟩) hS (fun q _ h => hFc q h) hFc (fun u t H1 locs ht hvm hw hB hz1 hk1 hS => ?_)
      as_aux_lemma =>
      obtain ⟨x_88, w_89⟩ := u
      obtain ⟨hP1, hK1, hD1⟩ := hB
      rw [ht] at hP1
      obtain ⟨hP, hD⟩ := cl_put (w1 := (wd_c_X4_emit h0 h0_0 x_88 h0_2 h0_0 h0_0k w_89)) (nw := (wd_c_X4_readAtom_2 h1 h1_0 h1_f1 x_80 h1_f3 h1_0 h1_0k h1_0c h0 h0_0 x_88 h0_2 h0_0 h0_0k w_89)) hP hD [2, 3] [0, 1, 4, 5] 4 rfl hqc (by decide +kernel) rfl hk1 hFc hP1 hD1
      generalize H1 = H at hP hS ⊢
      as_aux_lemma =>
      rcases hw with ⟨h_90, h_91⟩
      have h_91 : (x_88, w_89) = _ := h_91
      replace hEX := hEX.trans (exc2_eq h_91)
      refine lv_goto (tgt := 105) hx hb dX4_readAtom_39 rfl ?_
      have hK9 := hK.sub (tys' := []) [] rfl
      exact W.vret hx hb hr (fun t ht hW => ⟨⟨(x_80, h1_f3, x_88, w_89), rfl, ⟨(RG_w h_81 (by decide +kernel)), g_h1_f3, (RG_w h_90 (by decide +kernel)), (hR.trans hEX).symm⟩, by rw [ht]; exact hP, va_K.moved hW.alike hK9, hD⟩, hS.F ht⟩) hS.2.2 dX4_readAtom_105
  refine hG _ _ _ ?_
  refine lv_aload_n hx hb dX4_readAtom_0 rfl (lv_at hl 1 rfl) ?_
  obtain ⟨hPc, hDc, hFc, hqc⟩ := cl_cut (wc := (wd_c_X9_peek h1 h1_0 h1_f1 h1_f2 h1_f3 h1_0 h1_0k h1_0c)) hP hD hS hA [0, 1] (by decide +kernel) rfl
  have hKc := hK.sub (tys' := [(h1_0k, .int)]) [0] rfl
  have hrv := va_recv hKc hPc (ci := 9) (q0 := 0) rfl rfl
  refine va_calli (va_runV (As := []) (rest := []) ⟨hx, hb, hml, hown, hts⟩ (c_X9_peek l dC dI H.size h1 h1_0 h1_f1 h1_f2 h1_f3 h1_0k h1_0c g_h1_f1 g_h1_f2 g_h1_f3 a_h1_0c) (cwV 0 hts gf_c_X4_readAtom_2_c_X9_peek rfl rfl rfl mdV_X9_peek ⟨Nat.le_of_ble_eq_true rfl, Nat.le_of_ble_eq_true rfl⟩) ⟨fun a U g mk q => by obtain ⟨q0, q1, qP, qK, qD⟩ := q; exact ⟨q0, q1, qP, va_K.moved (u := U) (U := U.calling g mk a) (Vm.Alike.refl U.vm) qK, qD⟩, hrv, fun U hU hW => ⟨rfl, by rw [hU], by rw [hU]; exact hPc, va_K.moved hW.alike hKc, hDc.weaken (fun _ _ _ _ => trivial)⟩⟩ rfl rfl hl.1 rfl (lv_room (Nat.le_of_ble_eq_true rfl)) dX4_readAtom_1 ⟨Nat.le_of_ble_eq_true rfl, Nat.le_of_ble_eq_true rfl⟩) hS (fun q _ h => hFc q h) hFc (fun r_92 x_93 t H1 locs ht hvm hw hB hz1 hk1 hS => ?_)
  obtain ⟨hP1, hK1, hD1⟩ := hB
  rw [ht] at hP1
  obtain ⟨hP, hD⟩ := cl_put (w1 := (wd_c_X9_peek h1 h1_0 h1_f1 x_93 h1_f3 h1_0 h1_0k h1_0c)) (nw := (wd_c_X4_readAtom_2 h1 h1_0 h1_f1 x_93 h1_f3 h1_0 h1_0k h1_0c h0 h0_0 h0_f1 h0_2 h0_0 h0_0k h0_0c)) hP hD [0, 1] [4, 5, 2, 3] 4 rfl hqc (by decide +kernel) rfl hk1 hFc hP1 hD1
  generalize H1 = H at hP hS ⊢
  as_aux_lemma =>
  rcases hw with ⟨h_94, h_95, h_96, h_97⟩ | ⟨h_98, h_99, h_100, h_101, h_102⟩
  · have h_97 : (r_92, x_93) = _ := h_97
    replace hEX := hEX.trans (exc2_eq h_97)
    replace hEX := hEX.trans (if_pos (show r_92 = (-1) from h_94))
    rw [h_94]
    refine lv_istore_n (lv' := [(3, .int (-1)), (0, .ref h0), (1, .ref h1), (2, .int 2)]) hx hb dX4_readAtom_4 rfl hl (Nat.le_of_ble_eq_true rfl) rfl (fun ls hl => ?_)
    refine lv_iload_n hx hb dX4_readAtom_5 rfl (lv_at hl 0 rfl) ?_
    refine lv_if_ge (tgt := 13) hx hb dX4_readAtom_6 rfl (fun c_103 => absurd c_103 (by decide +kernel)) (fun c_103 => ?_)
    refine lv_iconst (v := (-1)) hx hb dX4_readAtom_9 kc_iconst_m1 ?_
    refine lv_goto (tgt := 20) hx hb dX4_readAtom_10 rfl ?_
    exact hU _ _ _ (J20 x_93 g_h0_f1 g_h1_f1 g_h1_f2 g_h1_f3 h_95 hEX _ _ _ hP hD hS (lv_sub hl [0, 1, 2, 3] rfl))
  · have h_102 : (r_92, x_93) = _ := h_102
    replace hEX := hEX.trans (exc2_eq h_102)
    replace hEX := hEX.trans (if_neg (RG_neq (x := r_92) (c := (-1)) (show RG r_92 0 255 from h_98) (by decide +kernel)))
    refine lv_istore_n (lv' := [(3, .int r_92), (0, .ref h0), (1, .ref h1), (2, .int 2)]) hx hb dX4_readAtom_4 rfl hl (Nat.le_of_ble_eq_true rfl) rfl (fun ls hl => ?_)
    as_aux_lemma =>
    refine lv_iload_n hx hb dX4_readAtom_5 rfl (lv_at hl 0 rfl) ?_
    refine lv_if_ge (tgt := 13) hx hb dX4_readAtom_6 rfl (fun c_104 => ?_) (fun c_104 => ?_)
    · replace hEX := hEX.trans (if_pos c_104)
      refine va_ldcS hx hb hown hE_32 dX4_readAtom_13 ?_
      refine lv_iload_n hx hb dX4_readAtom_15 rfl (lv_at hl 0 rfl) ?_
      refine lv_i2c hx hb dX4_readAtom_16 rfl ?_
      refine lv_topi (fun x_105 ex_105 => ?_)
      replace hEX := hEX.trans (exl_eq ex_105)
      have g_106 : RG x_105 0 65535 := RG_i2c ex_105
      obtain ⟨hPc, hDc, hFc, hqc⟩ := cl_cut (wc := []) hP hD hS hA [] (by decide +kernel) rfl
      have hKc := hK.sub (tys' := []) [] rfl
      have hrv := bv_Orecv hE_33 hS
      refine va_calli (va_runV (As := [.int x_105]) (rest := []) ⟨hx, hb, hml, hown, hts⟩ (c_J0_indexOf_0f7a4_4 l dC dI H.size ts4 x_105 tv4 g_106) (cwV 1 hts gf_c_X4_readAtom_2_c_J0_indexOf_0f7a4_4 rfl rfl rfl mdV_J0_indexOf_0f7a4 ⟨Nat.le_of_ble_eq_true rfl, Nat.le_of_ble_eq_true rfl⟩) ⟨fun a U g mk q => by obtain ⟨q0, q1, qP, qK, qD, qE0, qE1, qE2, qE3, qE4⟩ := q; exact ⟨q0, q1, qP, va_K.moved (u := U) (U := U.calling g mk a) (Vm.Alike.refl U.vm) qK, qD, va_Z.moved (u := U) (U := U.calling g mk a) (Vm.Alike.refl U.vm) qE0, va_OF.moved (u := U) (U := U.calling g mk a) (Vm.Alike.refl U.vm) qE1, va_O.moved (u := U) (U := U.calling g mk a) (Vm.Alike.refl U.vm) qE2, va_OF.moved (u := U) (U := U.calling g mk a) (Vm.Alike.refl U.vm) qE3, va_T.moved (u := U) (U := U.calling g mk a) (Vm.Alike.refl U.vm) qE4⟩, hrv, fun U hU hW => ⟨rfl, by rw [hU], by rw [hU]; exact hPc, va_K.moved hW.alike hKc, hDc.weaken (fun _ _ _ _ => trivial), va_Z.moved hW.alike (by rw [hU]; exact (hE_10.kept hS.2.1).narrow hFc), va_OF.moved hW.alike (by rw [hU]; exact (hE_34.kept hS.2.1).narrow hFc), va_O.moved hW.alike (by rw [hU]; exact (hE_33.kept hS.2.1).narrow hFc), va_OF.moved hW.alike (by rw [hU]; exact (hE_35.kept hS.2.1).narrow hFc), va_T.moved hW.alike (by rw [hU]; exact (hE_36.kept hS.2.1).narrow hFc)⟩⟩ rfl rfl hl.1 rfl (lv_room (Nat.le_of_ble_eq_true rfl)) dX4_readAtom_17 ⟨Nat.le_of_ble_eq_true rfl, Nat.le_of_ble_eq_true rfl⟩) hS (fun q _ h => hFc q h) hFc (fun r_107 u t H1 locs ht hvm hw hB hz1 hk1 hS => ?_)
      obtain ⟨hP1, hK1, hD1⟩ := hB
      rw [ht] at hP1
      have hP := bv_still hP hk1
      generalize H1 = H at hP hS ⊢
      as_aux_lemma =>
      rcases hw with ⟨h_108, h_109⟩ | ⟨h_110, h_111, h_112⟩
      · have h_109 : r_107 = _ := h_109
        replace hEX := hEX.trans (exc1_eq h_109)
        replace hEX := hEX.trans (if_pos (show r_107 = (-1) from h_108))
        rw [h_108]
        exact hU _ _ _ (J20b r_92 x_93 g_h0_f1 h_100 g_h1_f2 g_h1_f3 h_99 h_98 hEX _ _ _ hP hD hS (lv_sub hl [0, 1, 2, 3] rfl))
      · have h_112 : r_107 = _ := h_112
        replace hEX := hEX.trans (exc1_eq h_112)
        replace hEX := hEX.trans (if_neg (RG_neq (x := r_107) (c := (-1)) (show RG r_107 0 5 from h_110) (by decide +kernel)))
        exact hU _ _ _ (J20c r_92 r_107 x_93 g_h0_f1 h_100 g_h1_f2 g_h1_f3 h_99 h_98 h_110 hEX _ _ _ hP hD hS (lv_sub hl [0, 1, 2, 3] rfl))
    · replace hEX := hEX.trans (if_neg c_104)
      have d_113 := Int32.not_le.mp c_104
      have g_114 : RG r_92 0 (-1) := RG_lt1 h_98 (RG_k 0 0 rfl) d_113 (by decide +kernel)
      exact RG_dead (RG_lt1 h_98 (RG_k 0 0 rfl) d_113 (b' := (-1)) (by decide +kernel)) (by decide +kernel)
noncomputable def wd_c_X4_readSum_2 (a0 : Nat) (a1 : Nat) (a2 : Int32) (a3 : Int32) (a4 : Int32) (a5 : Nat) (a6 : ClassId) (a7 : Nat → Int32) (a8 : Nat) (a9 : Nat) (a10 : Int32) (a11 : Nat) (a12 : Nat) (a13 : ClassId) (a14 : Nat → Int32) : va_W := [(a0, .inr (9, [.ref a1, .int a2, .int a3, .int a4])), (a5, .inl (a6, 240, .inl a7)), (a8, .inr (4, [.ref a9, .int a10, .ref a11])), (a12, .inl (a13, 240, .inl a14))]
noncomputable def wf_c_X4_readSum_2 : List Cond := List.cons (.code yX4_readSum cX4_readSum 6 none) (@HAppend.hAppend (List Cond) (List Cond) (List Cond) _ (@HAppend.hAppend (List Cond) (List Cond) (List Cond) _ [.methodLink RX4 72 yX9_isRight, .instanceMethod yX9_isRight, .selects RX9 yX9_isRight yX9_isRight, .initialized RX9, .code yX9_isRight cX9_isRight 1 (some .boolean), .fieldLink RX9 15 "BuoyVote$Tape" "wrong" "I", .methodLink RX4 85 yX4_readAtom, .instanceMethod yX4_readAtom, .selects RX4 yX4_readAtom yX4_readAtom, .initialized RX4, .code yX4_readAtom cX4_readAtom 6 none, .methodLink RX4 41 yX9_peek, .instanceMethod yX9_peek, .selects RX9 yX9_peek yX9_peek, .code yX9_peek cX9_peek 1 (some .int), .fieldLink RX9 22 "BuoyVote$Tape" "at" "I", .fieldLink RX9 19 "BuoyVote$Tape" "length" "I", .fieldLink RX9 11 "BuoyVote$Tape" "bytes" "[I", .methodLink RX4 93 yJ0_indexOf_0f7a4, .instanceMethod yJ0_indexOf_0f7a4, .selects RJ0 yJ0_indexOf_0f7a4 yJ0_indexOf_0f7a4, .initialized RJ0, .code yJ0_indexOf_0f7a4 cJ0_indexOf_0f7a4 2 (some .int), .methodLink RJ0 633 yJ0_indexOf_7cf53, .instanceMethod yJ0_indexOf_7cf53, .selects RJ0 yJ0_indexOf_7cf53 yJ0_indexOf_7cf53, .code yJ0_indexOf_7cf53 cJ0_indexOf_7cf53 3 (some .int), .methodLink RJ0 492 yJ0_isLatin1_aae02, .instanceMethod yJ0_isLatin1_aae02, .selects RJ0 yJ0_isLatin1_aae02 yJ0_isLatin1_aae02, .code yJ0_isLatin1_aae02 cJ0_isLatin1_aae02 1 (some .boolean), .fieldLink RJ0 38 "java/lang/String" "COMPACT_STRINGS" "Z", .fieldLink RJ0 15 "java/lang/String" "coder" "B", .fieldLink RJ0 9 "java/lang/String" "value" "[B", .methodLink RJ0 505 yJ0_length_8abf5, .instanceMethod yJ0_length_8abf5, .selects RJ0 yJ0_length_8abf5 yJ0_length_8abf5, .code yJ0_length_8abf5 cJ0_length_8abf5 1 (some .int), .methodLink RJ0 335 yJ0_coder_7d493, .instanceMethod yJ0_coder_7d493, .selects RJ0 yJ0_coder_7d493 yJ0_coder_7d493, .code yJ0_coder_7d493 cJ0_coder_7d493 1 (some .byte), .methodLink RJ0 637 yJ1_indexOf_4cfef, .static yJ1_indexOf_4cfef, .initialized RJ1, .code yJ1_indexOf_4cfef cJ1_indexOf_4cfef 4 (some .int), .methodLink RJ1 88 yJ1_canEncode_9a6ad, .static yJ1_canEncode_9a6ad, .code yJ1_canEncode_9a6ad cJ1_canEncode_9a6ad 1 (some .boolean), .methodLink RJ1 92 Lib.Math.max.name, .static Lib.Math.max.name, .initialized "java/lang/Math", .code Lib.Math.max.name Lib.Math.max.code 2 (some .int), .methodLink RJ1 38 Lib.Math.min.name, .static Lib.Math.min.name, .code Lib.Math.min.name Lib.Math.min.code 2 (some .int), .methodLink RJ1 95 yJ1_indexOfChar_4cfef, .static yJ1_indexOfChar_4cfef, .code yJ1_indexOfChar_4cfef cJ1_indexOfChar_4cfef 6 (some .int), .methodLink RX4 99 yX9_number, .instanceMethod yX9_number, .selects RX9 yX9_number yX9_number, .code yX9_number cX9_number 4 (some .int), .methodLink RX4 82 yX9_refuseHere, .instanceMethod yX9_refuseHere, .selects RX9 yX9_refuseHere yX9_refuseHere, .code yX9_refuseHere cX9_refuseHere 1 none, .methodLink RX9 25 yX9_refuse, .instanceMethod yX9_refuse, .selects RX9 yX9_refuse yX9_refuse, .code yX9_refuse cX9_refuse 2 none, .methodLink RX4 79 yX9_skip, .instanceMethod yX9_skip, .selects RX9 yX9_skip yX9_skip, .code yX9_skip cX9_skip 1 none, .methodLink RX4 49 yX4_readSum, .instanceMethod yX4_readSum, .selects RX4 yX4_readSum yX4_readSum, .methodLink RX4 60 yX4_emit, .instanceMethod yX4_emit, .selects RX4 yX4_emit yX4_emit, .code yX4_emit cX4_emit 2 none, .fieldLink RX4 20 "BuoyVote$Law" "length" "I", .fieldLink RX4 11 "BuoyVote$Law" "code" "[I", .methodLink RX4 88 yX9_takeEither, .instanceMethod yX9_takeEither, .selects RX9 yX9_takeEither yX9_takeEither, .code yX9_takeEither cX9_takeEither 4 (some .int), .methodLink RX9 29 yX9_peek, .methodLink RX4 37 yX9_expect, .instanceMethod yX9_expect, .selects RX9 yX9_expect yX9_expect, .code yX9_expect cX9_expect 2 none] wsX90) wsX40)
theorem iw_c_X4_readSum_2_X9 : ∀ w ∈ wsX90, w ∈ wf_c_X4_readSum_2 := fun w h => List.mem_cons_of_mem _ (List.mem_append_left _ (List.mem_append_right _ h))
theorem iw_c_X4_readSum_2_X4 : ∀ w ∈ wsX40, w ∈ wf_c_X4_readSum_2 := fun w h => List.mem_cons_of_mem _ (List.mem_append_right _ h)
set_option maxRecDepth 20000 in
theorem gf_c_X4_readSum_2_c_X9_takeEither : GoodIn wf_c_X4_readSum_2 (wsV RX4 88 RX9 yX9_takeEither wf_c_X9_takeEither) := goodIn_app (gi_l [85, 86, 87, 4] rfl rfl) (gi_cons (j := 88) rfl rfl (goodIn_app (gi_l [89, 13, 14, 4, 15, 16, 17, 18, 6] rfl rfl) (goodIn_sub iw_c_X4_readSum_2_X9 gw_X9)))
set_option maxRecDepth 20000 in
theorem gf_c_X4_readSum_2_c_X4_emit : GoodIn wf_c_X4_readSum_2 (wsV RX4 60 RX4 yX4_emit wf_c_X4_emit) := goodIn_app (gi_l [79, 80, 81, 10] rfl rfl) (gi_cons (j := 82) rfl rfl (goodIn_app (gi_l [83, 84] rfl rfl) (goodIn_sub iw_c_X4_readSum_2_X4 gw_X4)))
set_option maxRecDepth 20000 in
theorem gf_c_X4_readSum_2_c_X9_isRight : GoodIn wf_c_X4_readSum_2 (wsV RX4 72 RX9 yX9_isRight wf_c_X9_isRight) := goodIn_app (gi_l [1, 2, 3, 4] rfl rfl) (gi_cons (j := 5) rfl rfl (goodIn_app (gi_l [6] rfl rfl) (goodIn_sub iw_c_X4_readSum_2_X9 gw_X9)))
set_option maxRecDepth 20000 in
theorem gf_c_X4_readSum_2_c_X4_readAtom_2 : GoodIn wf_c_X4_readSum_2 (wsV RX4 85 RX4 yX4_readAtom wf_c_X4_readAtom_2) := goodIn_app (gi_l [7, 8, 9, 10] rfl rfl) (gi_cons (j := 11) rfl rfl (goodIn_app (goodIn_app (gi_l [12, 13, 14, 4, 15, 16, 17, 18, 19, 20, 21, 22, 23, 24, 25, 26, 27, 28, 29, 30, 31, 32, 33, 34, 35, 36, 37, 38, 39, 40, 41, 42, 43, 44, 45, 46, 47, 48, 49, 50, 51, 52, 53, 54, 55, 56, 57, 58, 59, 60, 61, 62, 63, 64, 65, 66, 67, 68, 69, 70, 71, 6, 72, 73, 74, 75, 76, 77, 78, 10, 0, 1, 2, 3, 5, 7, 8, 9, 79, 80, 81, 82, 83, 84, 85, 86, 87, 88, 89, 90, 91, 92, 93] rfl rfl) (goodIn_sub iw_c_X4_readSum_2_X9 gw_X9)) (goodIn_sub iw_c_X4_readSum_2_X4 gw_X4)))
set_option maxHeartbeats 4000000 in
set_option maxRecDepth 100000 in
theorem c_X4_readSum_2 (l : Launch) (dC : Nat → ClassId) (dI : Nat → Nat → Nat) (sz : Nat) (h0 : Nat) (h1 : Nat) (h1_0 : Nat) (h1_f1 : Int32) (h1_f2 : Int32) (h1_f3 : Int32) (h1_0k : ClassId) (h1_0c : Nat → Int32) (h0_0 : Nat) (h0_f1 : Int32) (h0_2 : Nat) (h0_0k : ClassId) (h0_0c : Nat → Int32) (ts4 : Nat) (tv4 : Nat) (g_h1_f1 : RG h1_f1 0 240) (g_h1_f2 : RG h1_f2 0 240) (g_h1_f3 : RG h1_f3 (-1) 240) (a_h1_0c : AI h1_0c 0 255) (g_h0_f1 : RG h0_f1 0 240) : Met l yX4_readSum wf_c_X4_readSum_2 ({ frames := 13, cells := 0, slots := 0, locals := 316 }) (va_Pc [.ref h0, .ref h1, .int 2] (fun U => U.heap.size = sz ∧ va_P (dC, dI) vwCl (wd_c_X4_readSum_2 h1 h1_0 h1_f1 h1_f2 h1_f3 h1_0 h1_0k h1_0c h0 h0_0 h0_f1 h0_2 h0_0 h0_0k h0_0c) U.heap ∧ va_K (dC, dI) vwCl [(h1_0k, .int), (h0_0k, .int)] U ∧ va_D (fun _ => True) (wd_c_X4_readSum_2 h1 h1_0 h1_f1 h1_f2 h1_f3 h1_0 h1_0k h1_0c h0 h0_0 h0_f1 h0_2 h0_0 h0_0k h0_0c) ∧ vk_R RX4 91 "vlrdph" ts4 U ∧ va_Z "java/lang/String" "COMPACT_STRINGS" "Z" (.int 1) (va_A (wd_c_X4_readSum_2 h1 h1_0 h1_f1 h1_f2 h1_f3 h1_0 h1_0k h1_0c h0 h0_0 h0_f1 h0_2 h0_0 h0_0k h0_0c) sz) U U.heap ∧ va_OF "java/lang/String" "coder" "B" (.int 0) ts4 (va_A (wd_c_X4_readSum_2 h1 h1_0 h1_f1 h1_f2 h1_f3 h1_0 h1_0k h1_0c h0 h0_0 h0_f1 h0_2 h0_0 h0_0k h0_0c) sz) U U.heap ∧ va_O "java/lang/String" ts4 (va_A (wd_c_X4_readSum_2 h1 h1_0 h1_f1 h1_f2 h1_f3 h1_0 h1_0k h1_0c h0 h0_0 h0_f1 h0_2 h0_0 h0_0k h0_0c) sz) U U.heap ∧ va_OF "java/lang/String" "value" "[B" (.ref tv4) ts4 (va_A (wd_c_X4_readSum_2 h1 h1_0 h1_f1 h1_f2 h1_f3 h1_0 h1_0k h1_0c h0 h0_0 h0_f1 h0_2 h0_0 h0_0k h0_0c) sz) U U.heap ∧ va_T .byte tv4 6 (fun j => .int ([118, 108, 114, 100, 112, 104].getD j 0)) (va_A (wd_c_X4_readSum_2 h1 h1_0 h1_f1 h1_f2 h1_f3 h1_0 h1_0k h1_0c h0 h0_0 h0_f1 h0_2 h0_0 h0_0k h0_0c) sz) U U.heap)) (va_Qv (fun (u : (Int32) × (Int32) × (Int32) × (Nat → Int32)) => (RG u.1 0 240 ∧ RG u.2.1 (-1) 240 ∧ RG u.2.2.1 0 240 ∧ (u.1, u.2.1, u.2.2.1, u.2.2.2) = fx_c_X4_readSum_2 h1_f1 h1_f2 h1_f3 h1_0c h0_f1 h0_0c)) (fun (u : (Int32) × (Int32) × (Int32) × (Nat → Int32)) t => va_P (dC, dI) vwCl (wd_c_X4_readSum_2 h1 h1_0 h1_f1 (u.1) (u.2.1) h1_0 h1_0k h1_0c h0 h0_0 (u.2.2.1) h0_2 h0_0 h0_0k (u.2.2.2)) t.heap ∧ va_K (dC, dI) vwCl [] t ∧ va_D (va_A (wd_c_X4_readSum_2 h1 h1_0 h1_f1 h1_f2 h1_f3 h1_0 h1_0k h1_0c h0 h0_0 h0_f1 h0_2 h0_0 h0_0k h0_0c) sz) (wd_c_X4_readSum_2 h1 h1_0 h1_f1 (u.1) (u.2.1) h1_0 h1_0k h1_0c h0 h0_0 (u.2.2.1) h0_2 h0_0 h0_0k (u.2.2.2))) (va_A (wd_c_X4_readSum_2 h1 h1_0 h1_f1 h1_f2 h1_f3 h1_0 h1_0k h1_0c h0 h0_0 h0_f1 h0_2 h0_0 h0_0k h0_0c) sz)) 0 0 (va_A (wd_c_X4_readSum_2 h1 h1_0 h1_f1 h1_f2 h1_f3 h1_0 h1_0k h1_0c h0 h0_0 h0_f1 h0_2 h0_0 h0_0k h0_0c) sz) := by
  refine Met.ofW (cc := cX4_readSum) (maxL := 6) (ret := none) (by decide +kernel) rfl ?_
  intro p e s m args below meth c s₁ B hml hv
  obtain ⟨rfl, hsz, hP, hK, hD0, hE_32, hE_10, hE_34, hE_33, hE_35, hE_36⟩ := hv
  have hx := B.exec
  have hb := B.bytes
  have hr := B.returns
  have hts := atoms_spec (ws := wf_c_X4_readSum_2) B.pre
  have hown : s.vm.findClass RX4 = some m.cls := findClass_of_methodNamed B.named
  have hlocks := B.notSynchronized
  subst hsz
  have hD := hD0.self (sz := s.heap.size)
  generalize hAe : va_A (wd_c_X4_readSum_2 h1 h1_0 h1_f1 h1_f2 h1_f3 h1_0 h1_0k h1_0c h0 h0_0 h0_f1 h0_2 h0_0 h0_0k h0_0c) s.heap.size = A at hD hE_10 hE_34 hE_33 hE_35 hE_36 ⊢
  have hA : ∀ q : Nat, s.heap.size ≤ q → A q := fun q h => by rw [← hAe]; exact Or.inr h
  have hP : va_P (dC, dI) vwCl (wd_c_X4_readSum_2 h1 h1_0 h1_f1 h1_f2 h1_f3 h1_0 h1_0k h1_0c h0 h0_0 h0_f1 h0_2 h0_0 h0_0k h0_0c) s.heap := hP
  have hl := lv_entry ([.ref h0, .ref h1, .int 2]) (n := 6) (Nat.le_of_ble_eq_true rfl)
  rw [lg_entry_eq]
  generalize (lg_sl ([.ref h0, .ref h1, .int 2]) ++ List.replicate (6 - (lg_sl ([.ref h0, .ref h1, .int 2])).length) Slot.unset).toArray = ls at hl ⊢
  have hl : lv_has ls 6 [(0, .ref h0), (1, .ref h1), (2, .int 2)] := hl
  obtain ⟨H, hHe⟩ : ∃ H : Heap, s.heap = H := ⟨_, rfl⟩
  have hS : va_S A s.heap H [] := by rw [hHe]; exact va_S.rf
  have hP : va_P (dC, dI) vwCl (wd_c_X4_readSum_2 h1 h1_0 h1_f1 h1_f2 h1_f3 h1_0 h1_0k h1_0c h0 h0_0 h0_f1 h0_2 h0_0 h0_0k h0_0c) H := by rw [← hHe]; exact hP
  rw [hHe]
  obtain ⟨RES, hR⟩ : ∃ z, fx_c_X4_readSum_2 h1_f1 h1_f2 h1_f3 h1_0c h0_f1 h0_0c = z := ⟨_, rfl⟩
  have hEX : RES = fx_c_X4_readSum_2 h1_f1 h1_f2 h1_f3 h1_0c h0_f1 h0_0c := hR.symm
  refine wj (fun G hG hU => ?_)
  as_aux_lemma =>
  have J8 : ∀ (n8 : Nat) (j8_l5 : Int32) (j8_l4 : Int32) (j8_l3 : Int32) (j8_h1_f2 : Int32) (j8_h1_f3 : Int32) (j8_h0_f1 : Int32) (j8_h0_0c : Nat → Int32) (hM8 : MU j8_l5 < n8) (g_h0_f1 : RG h0_f1 0 240) (g_h1_f1 : RG h1_f1 0 240) (g_h1_f2 : RG h1_f2 0 240) (g_h1_f3 : RG h1_f3 (-1) 240) (g_j8_h0_f1 : RG j8_h0_f1 0 240) (g_j8_h1_f2 : RG j8_h1_f2 0 240) (g_j8_h1_f3 : RG j8_h1_f3 (-1) 240) (g_j8_l3 : RG j8_l3 0 60) (g_j8_l4 : RG j8_l4 0 60) (g_j8_l5 : RG j8_l5 0 240) (hEX : RES = fx_c_X4_readSum_2_p8 h1_f1 h1_0c n8 j8_l5 j8_l4 j8_l3 j8_h1_f2 j8_h1_f3 j8_h0_f1 j8_h0_0c) (H : Heap) (locs : List Loc) (ls : Array Slot) (hP : va_P (dC, dI) vwCl (wd_c_X4_readSum_2 h1 h1_0 h1_f1 j8_h1_f2 j8_h1_f3 h1_0 h1_0k h1_0c h0 h0_0 j8_h0_f1 h0_2 h0_0 h0_0k j8_h0_0c) H) (hD : va_D A (wd_c_X4_readSum_2 h1 h1_0 h1_f1 j8_h1_f2 j8_h1_f3 h1_0 h1_0k h1_0c h0 h0_0 j8_h0_f1 h0_2 h0_0 h0_0k j8_h0_0c)) (hS : va_S A s.heap H locs) (hl : lv_has ls 6 [(5, .int j8_l5), (4, .int j8_l4), (3, .int j8_l3), (0, .ref h0), (1, .ref h1), (2, .int 2)]), G H locs (F0 m 8 ls []) := by
    as_aux_lemma =>
    intro n8
    induction n8 with
    | zero => intros; exact absurd (by assumption) (Nat.not_lt_zero _)
    | succ n8 ih8 =>
      intro j8_l5 j8_l4 j8_l3 j8_h1_f2 j8_h1_f3 j8_h0_f1 j8_h0_0c hM8 g_h0_f1 g_h1_f1 g_h1_f2 g_h1_f3 g_j8_h0_f1 g_j8_h1_f2 g_j8_h1_f3 g_j8_l3 g_j8_l4 g_j8_l5 hEX H locs ls hP hD hS hl
      have J80 : ∀ (j80_l3 : Int32) (j80_l4 : Int32) (j80_h1_f2 : Int32) (j80_h1_f3 : Int32) (j80_h0_f1 : Int32) (j80_h0_0c : Nat → Int32) (g_h0_f1 : RG h0_f1 0 240) (g_h1_f1 : RG h1_f1 0 240) (g_h1_f2 : RG h1_f2 0 240) (g_h1_f3 : RG h1_f3 (-1) 240) (g_j80_h0_f1 : RG j80_h0_f1 0 240) (g_j80_h1_f2 : RG j80_h1_f2 0 240) (g_j80_h1_f3 : RG j80_h1_f3 (-1) 240) (g_j80_l3 : RG j80_l3 0 60) (g_j80_l4 : RG j80_l4 0 60) (g_j8_h0_f1 : RG j8_h0_f1 0 240) (g_j8_h1_f2 : RG j8_h1_f2 0 240) (g_j8_h1_f3 : RG j8_h1_f3 (-1) (-1)) (g_j8_l3 : RG j8_l3 0 60) (g_j8_l4 : RG j8_l4 0 60) (g_j8_l5 : RG j8_l5 0 239) (hEX : RES = fx_c_X4_readSum_2_p80 j8_l5 (fx_c_X4_readSum_2_p8 h1_f1 h1_0c n8) j80_l3 j80_l4 j80_h1_f2 j80_h1_f3 j80_h0_f1 j80_h0_0c) (H : Heap) (locs : List Loc) (ls : Array Slot) (hP : va_P (dC, dI) vwCl (wd_c_X4_readSum_2 h1 h1_0 h1_f1 j80_h1_f2 j80_h1_f3 h1_0 h1_0k h1_0c h0 h0_0 j80_h0_f1 h0_2 h0_0 h0_0k j80_h0_0c) H) (hD : va_D A (wd_c_X4_readSum_2 h1 h1_0 h1_f1 j80_h1_f2 j80_h1_f3 h1_0 h1_0k h1_0c h0 h0_0 j80_h0_f1 h0_2 h0_0 h0_0k j80_h0_0c)) (hS : va_S A s.heap H locs) (hl : lv_has ls 6 [(3, .int j80_l3), (5, .int j8_l5), (4, .int j80_l4), (0, .ref h0), (1, .ref h1), (2, .int 2)]), G H locs (F0 m 80 ls []) := by
        as_aux_lemma =>
        intro j80_l3 j80_l4 j80_h1_f2 j80_h1_f3 j80_h0_f1 j80_h0_0c g_h0_f1 g_h1_f1 g_h1_f2 g_h1_f3 g_j80_h0_f1 g_j80_h1_f2 g_j80_h1_f3 g_j80_l3 g_j80_l4 g_j8_h0_f1 g_j8_h1_f2 g_j8_h1_f3 g_j8_l3 g_j8_l4 g_j8_l5 hEX H locs ls hP hD hS hl
        refine hG _ _ _ ?_
        obtain ⟨x_1, ex_1⟩ : ∃ y : Int32, y = j8_l5 + 1 := ⟨_, rfl⟩
        have g_2 : RG x_1 1 240 := RG_add ex_1 g_j8_l5 (RG_k 1 1 rfl) (by decide +kernel)
        replace hEX := hEX.trans (exl_eq ex_1)
        refine lv_iinc (v := x_1) (lv' := [(5, .int x_1), (3, .int j80_l3), (4, .int j80_l4), (0, .ref h0), (1, .ref h1), (2, .int 2)]) hx hb dX4_readSum_80 hl (k := 1) rfl (by rw [ex_1]; rfl) (Nat.le_of_ble_eq_true rfl) rfl (fun ls hl => ?_)
        refine lv_goto (tgt := 8) hx hb dX4_readSum_83 rfl ?_
        exact hU _ _ _ (ih8 x_1 j80_l4 j80_l3 j80_h1_f2 j80_h1_f3 j80_h0_f1 j80_h0_0c (mu_s (MU_add ex_1 g_j8_l5 (q := 1) rfl (by decide +kernel)) hM8) g_h0_f1 g_h1_f1 g_h1_f2 g_h1_f3 g_j80_h0_f1 g_j80_h1_f2 g_j80_h1_f3 g_j80_l3 g_j80_l4 (RG_w g_2 (by decide +kernel)) hEX _ _ _ hP hD hS (lv_sub hl [0, 2, 1, 3, 4, 5] rfl))
      have J64 : ∀ (j64_l3 : Int32) (j64_h1_f2 : Int32) (j64_h1_f3 : Int32) (j64_h0_f1 : Int32) (j64_h0_0c : Nat → Int32) (g_h0_f1 : RG h0_f1 0 240) (g_h1_f1 : RG h1_f1 0 240) (g_h1_f2 : RG h1_f2 0 240) (g_h1_f3 : RG h1_f3 (-1) 240) (g_j64_h0_f1 : RG j64_h0_f1 0 240) (g_j64_h1_f2 : RG j64_h1_f2 0 240) (g_j64_h1_f3 : RG j64_h1_f3 (-1) 240) (g_j64_l3 : RG j64_l3 0 0) (g_j8_h0_f1 : RG j8_h0_f1 0 240) (g_j8_h1_f2 : RG j8_h1_f2 0 240) (g_j8_h1_f3 : RG j8_h1_f3 (-1) (-1)) (g_j8_l3 : RG j8_l3 0 60) (g_j8_l4 : RG j8_l4 0 60) (g_j8_l5 : RG j8_l5 0 239) (hEX : RES = fx_c_X4_readSum_2_p64 h1_f1 h1_0c j8_l5 (fx_c_X4_readSum_2_p8 h1_f1 h1_0c n8) j64_l3 j64_h1_f2 j64_h1_f3 j64_h0_f1 j64_h0_0c) (H : Heap) (locs : List Loc) (ls : Array Slot) (hP : va_P (dC, dI) vwCl (wd_c_X4_readSum_2 h1 h1_0 h1_f1 j64_h1_f2 j64_h1_f3 h1_0 h1_0k h1_0c h0 h0_0 j64_h0_f1 h0_2 h0_0 h0_0k j64_h0_0c) H) (hD : va_D A (wd_c_X4_readSum_2 h1 h1_0 h1_f1 j64_h1_f2 j64_h1_f3 h1_0 h1_0k h1_0c h0 h0_0 j64_h0_f1 h0_2 h0_0 h0_0k j64_h0_0c)) (hS : va_S A s.heap H locs) (hl : lv_has ls 6 [(3, .int j64_l3), (5, .int j8_l5), (0, .ref h0), (1, .ref h1), (2, .int 2)]), G H locs (F0 m 64 ls []) := by
        as_aux_lemma =>
        intro j64_l3 j64_h1_f2 j64_h1_f3 j64_h0_f1 j64_h0_0c g_h0_f1 g_h1_f1 g_h1_f2 g_h1_f3 g_j64_h0_f1 g_j64_h1_f2 g_j64_h1_f3 g_j64_l3 g_j8_h0_f1 g_j8_h1_f2 g_j8_h1_f3 g_j8_l3 g_j8_l4 g_j8_l5 hEX H locs ls hP hD hS hl
        refine hG _ _ _ ?_
        refine lv_aload_n hx hb dX4_readSum_64 rfl (lv_at hl 3 rfl) ?_
        refine lv_bipush (v := 43) hx hb dX4_readSum_65 kc_bipush_43 ?_
        refine lv_bipush (v := 45) hx hb dX4_readSum_67 kc_bipush_45 ?_
        obtain ⟨hPc, hDc, hFc, hqc⟩ := cl_cut (wc := (wd_c_X9_takeEither h1 h1_0 h1_f1 j64_h1_f2 j64_h1_f3 h1_0 h1_0k h1_0c)) hP hD hS hA [0, 1] (by decide +kernel) rfl
        have hKc := hK.sub (tys' := [(h1_0k, .int)]) [0] rfl
        have hrv := va_recv hKc hPc (ci := 9) (q0 := 0) rfl rfl
        refine va_calli (va_runV (As := [.int 43, .int 45]) (rest := []) ⟨hx, hb, hml, hown, hts⟩ (c_X9_takeEither l dC dI H.size h1 43 45 h1_0 h1_f1 j64_h1_f2 j64_h1_f3 h1_0k h1_0c (RG_w (RG_k 43 43 rfl) (by decide +kernel)) (RG_w (RG_k 45 45 rfl) (by decide +kernel)) g_h1_f1 g_j64_h1_f2 g_j64_h1_f3 a_h1_0c) (cwV 2 hts gf_c_X4_readSum_2_c_X9_takeEither rfl rfl rfl mdV_X9_takeEither ⟨Nat.le_of_ble_eq_true rfl, Nat.le_of_ble_eq_true rfl⟩) ⟨fun a U g mk q => by obtain ⟨q0, q1, qP, qK, qD⟩ := q; exact ⟨q0, q1, qP, va_K.moved (u := U) (U := U.calling g mk a) (Vm.Alike.refl U.vm) qK, qD⟩, hrv, fun U hU hW => ⟨rfl, by rw [hU], by rw [hU]; exact hPc, va_K.moved hW.alike hKc, hDc.weaken (fun _ _ _ _ => trivial)⟩⟩ rfl rfl hl.1 rfl (lv_room (Nat.le_of_ble_eq_true rfl)) dX4_readSum_69 ⟨Nat.le_of_ble_eq_true rfl, Nat.le_of_ble_eq_true rfl⟩) hS (fun q _ h => hFc q h) hFc (fun r_3 x_4 t H1 locs ht hvm hw hB hz1 hk1 hS => ?_)
        obtain ⟨hP1, hK1, hD1⟩ := hB
        rw [ht] at hP1
        obtain ⟨hP, hD⟩ := cl_put (w1 := (wd_c_X9_takeEither h1 h1_0 h1_f1 x_4 j64_h1_f3 h1_0 h1_0k h1_0c)) (nw := (wd_c_X4_readSum_2 h1 h1_0 h1_f1 x_4 j64_h1_f3 h1_0 h1_0k h1_0c h0 h0_0 j64_h0_f1 h0_2 h0_0 h0_0k j64_h0_0c)) hP hD [0, 1] [4, 5, 2, 3] 4 rfl hqc (by decide +kernel) rfl hk1 hFc hP1 hD1
        generalize H1 = H at hP hS ⊢
        as_aux_lemma =>
        rcases hw with ⟨h_5, h_6, h_7, h_8⟩
        have h_8 : (r_3, x_4) = _ := h_8
        replace hEX := hEX.trans (exc2_eq h_8)
        refine lv_istore (lv' := [(4, .int r_3), (3, .int j64_l3), (5, .int j8_l5), (0, .ref h0), (1, .ref h1), (2, .int 2)]) hx hb dX4_readSum_72 hl (Nat.le_of_ble_eq_true rfl) rfl (fun ls hl => ?_)
        refine lv_iload hx hb dX4_readSum_74 (lv_at hl 0 rfl) ?_
        refine lv_if_ne (tgt := 80) hx hb dX4_readSum_76 rfl (fun c_9 => ?_) (fun c_9 => ?_)
        · replace hEX := hEX.trans (if_neg c_9)
          have g_10 : RG r_3 1 60 := RG_ne1 h_5 (q := 0) rfl c_9 (by decide +kernel)
          exact hU _ _ _ (J80 j64_l3 r_3 x_4 j64_h1_f3 j64_h0_f1 j64_h0_0c g_h0_f1 g_h1_f1 g_h1_f2 g_h1_f3 g_j64_h0_f1 h_6 g_j64_h1_f3 (RG_w g_j64_l3 (by decide +kernel)) (RG_w g_10 (by decide +kernel)) g_j8_h0_f1 g_j8_h1_f2 g_j8_h1_f3 g_j8_l3 g_j8_l4 g_j8_l5 hEX _ _ _ hP hD hS (lv_sub hl [1, 2, 0, 3, 4, 5] rfl))
        · replace hEX := hEX.trans (if_pos c_9)
          have g_11 : RG r_3 0 0 := RG_eq1 h_5 (RG_k 0 0 rfl) c_9 (by decide +kernel)
          have hK9 := hK.sub (tys' := []) [] rfl
          exact W.vret hx hb hr (fun t ht hW => ⟨⟨(x_4, j64_h1_f3, j64_h0_f1, j64_h0_0c), rfl, ⟨h_6, g_j64_h1_f3, g_j64_h0_f1, (hR.trans hEX).symm⟩, by rw [ht]; exact hP, va_K.moved hW.alike hK9, hD⟩, hS.F ht⟩) hS.2.2 dX4_readSum_79
      have J39 : ∀ (j39_h1_f2 : Int32) (j39_h1_f3 : Int32) (j39_h0_f1 : Int32) (j39_h0_0c : Nat → Int32) (g_h0_f1 : RG h0_f1 0 240) (g_h1_f1 : RG h1_f1 0 240) (g_h1_f2 : RG h1_f2 0 240) (g_h1_f3 : RG h1_f3 (-1) 240) (g_j39_h0_f1 : RG j39_h0_f1 0 240) (g_j39_h1_f2 : RG j39_h1_f2 0 240) (g_j39_h1_f3 : RG j39_h1_f3 (-1) 240) (g_j8_h0_f1 : RG j8_h0_f1 0 240) (g_j8_h1_f2 : RG j8_h1_f2 0 240) (g_j8_h1_f3 : RG j8_h1_f3 (-1) (-1)) (g_j8_l3 : RG j8_l3 0 60) (g_j8_l4 : RG j8_l4 0 60) (g_j8_l5 : RG j8_l5 0 239) (hEX : RES = fx_c_X4_readSum_2_p39 h1_f1 h1_0c j8_l5 j8_l4 (fx_c_X4_readSum_2_p8 h1_f1 h1_0c n8) j39_h1_f2 j39_h1_f3 j39_h0_f1 j39_h0_0c) (H : Heap) (locs : List Loc) (ls : Array Slot) (hP : va_P (dC, dI) vwCl (wd_c_X4_readSum_2 h1 h1_0 h1_f1 j39_h1_f2 j39_h1_f3 h1_0 h1_0k h1_0c h0 h0_0 j39_h0_f1 h0_2 h0_0 h0_0k j39_h0_0c) H) (hD : va_D A (wd_c_X4_readSum_2 h1 h1_0 h1_f1 j39_h1_f2 j39_h1_f3 h1_0 h1_0k h1_0c h0 h0_0 j39_h0_f1 h0_2 h0_0 h0_0k j39_h0_0c)) (hS : va_S A s.heap H locs) (hl : lv_has ls 6 [(5, .int j8_l5), (4, .int j8_l4), (0, .ref h0), (1, .ref h1), (2, .int 2)]), G H locs (F0 m 39 ls []) := by
        as_aux_lemma =>
        intro j39_h1_f2 j39_h1_f3 j39_h0_f1 j39_h0_0c g_h0_f1 g_h1_f1 g_h1_f2 g_h1_f3 g_j39_h0_f1 g_j39_h1_f2 g_j39_h1_f3 g_j8_h0_f1 g_j8_h1_f2 g_j8_h1_f3 g_j8_l3 g_j8_l4 g_j8_l5 hEX H locs ls hP hD hS hl
        refine hG _ _ _ ?_
        refine lv_aload_n hx hb dX4_readSum_39 rfl (lv_at hl 3 rfl) ?_
        refine lv_bipush (v := 42) hx hb dX4_readSum_40 kc_bipush_42 ?_
        refine lv_bipush (v := 47) hx hb dX4_readSum_42 kc_bipush_47 ?_
        obtain ⟨hPc, hDc, hFc, hqc⟩ := cl_cut (wc := (wd_c_X9_takeEither h1 h1_0 h1_f1 j39_h1_f2 j39_h1_f3 h1_0 h1_0k h1_0c)) hP hD hS hA [0, 1] (by decide +kernel) rfl
        have hKc := hK.sub (tys' := [(h1_0k, .int)]) [0] rfl
        have hrv := va_recv hKc hPc (ci := 9) (q0 := 0) rfl rfl
        refine va_calli (va_runV (As := [.int 42, .int 47]) (rest := []) ⟨hx, hb, hml, hown, hts⟩ (c_X9_takeEither l dC dI H.size h1 42 47 h1_0 h1_f1 j39_h1_f2 j39_h1_f3 h1_0k h1_0c (RG_w (RG_k 42 42 rfl) (by decide +kernel)) (RG_w (RG_k 47 47 rfl) (by decide +kernel)) g_h1_f1 g_j39_h1_f2 g_j39_h1_f3 a_h1_0c) (cwV 2 hts gf_c_X4_readSum_2_c_X9_takeEither rfl rfl rfl mdV_X9_takeEither ⟨Nat.le_of_ble_eq_true rfl, Nat.le_of_ble_eq_true rfl⟩) ⟨fun a U g mk q => by obtain ⟨q0, q1, qP, qK, qD⟩ := q; exact ⟨q0, q1, qP, va_K.moved (u := U) (U := U.calling g mk a) (Vm.Alike.refl U.vm) qK, qD⟩, hrv, fun U hU hW => ⟨rfl, by rw [hU], by rw [hU]; exact hPc, va_K.moved hW.alike hKc, hDc.weaken (fun _ _ _ _ => trivial)⟩⟩ rfl rfl hl.1 rfl (lv_room (Nat.le_of_ble_eq_true rfl)) dX4_readSum_44 ⟨Nat.le_of_ble_eq_true rfl, Nat.le_of_ble_eq_true rfl⟩) hS (fun q _ h => hFc q h) hFc (fun r_12 x_13 t H1 locs ht hvm hw hB hz1 hk1 hS => ?_)
        obtain ⟨hP1, hK1, hD1⟩ := hB
        rw [ht] at hP1
        obtain ⟨hP, hD⟩ := cl_put (w1 := (wd_c_X9_takeEither h1 h1_0 h1_f1 x_13 j39_h1_f3 h1_0 h1_0k h1_0c)) (nw := (wd_c_X4_readSum_2 h1 h1_0 h1_f1 x_13 j39_h1_f3 h1_0 h1_0k h1_0c h0 h0_0 j39_h0_f1 h0_2 h0_0 h0_0k j39_h0_0c)) hP hD [0, 1] [4, 5, 2, 3] 4 rfl hqc (by decide +kernel) rfl hk1 hFc hP1 hD1
        generalize H1 = H at hP hS ⊢
        as_aux_lemma =>
        rcases hw with ⟨h_14, h_15, h_16, h_17⟩
        have h_17 : (r_12, x_13) = _ := h_17
        replace hEX := hEX.trans (exc2_eq h_17)
        refine lv_istore_n (lv' := [(3, .int r_12), (5, .int j8_l5), (4, .int j8_l4), (0, .ref h0), (1, .ref h1), (2, .int 2)]) hx hb dX4_readSum_47 rfl hl (Nat.le_of_ble_eq_true rfl) rfl (fun ls hl => ?_)
        refine lv_iload_n hx hb dX4_readSum_48 rfl (lv_at hl 0 rfl) ?_
        refine lv_if_ne (tgt := 80) hx hb dX4_readSum_49 rfl (fun c_18 => ?_) (fun c_18 => ?_)
        · replace hEX := hEX.trans (if_neg c_18)
          have g_19 : RG r_12 1 60 := RG_ne1 h_14 (q := 0) rfl c_18 (by decide +kernel)
          exact hU _ _ _ (J80 r_12 j8_l4 x_13 j39_h1_f3 j39_h0_f1 j39_h0_0c g_h0_f1 g_h1_f1 g_h1_f2 g_h1_f3 g_j39_h0_f1 h_15 g_j39_h1_f3 (RG_w g_19 (by decide +kernel)) g_j8_l4 g_j8_h0_f1 g_j8_h1_f2 g_j8_h1_f3 g_j8_l3 g_j8_l4 g_j8_l5 hEX _ _ _ hP hD hS (lv_sub hl [0, 1, 2, 3, 4, 5] rfl))
        · replace hEX := hEX.trans (if_pos c_18)
          have g_20 : RG r_12 0 0 := RG_eq1 h_14 (RG_k 0 0 rfl) c_18 (by decide +kernel)
          refine lv_iload hx hb dX4_readSum_52 (lv_at hl 2 rfl) ?_
          refine lv_if_eq (tgt := 64) hx hb dX4_readSum_54 rfl (fun c_21 => ?_) (fun c_21 => ?_)
          · replace hEX := hEX.trans (if_pos c_21)
            have g_22 : RG j8_l4 0 0 := RG_eq1 g_j8_l4 (RG_k 0 0 rfl) c_21 (by decide +kernel)
            exact hU _ _ _ (J64 r_12 x_13 j39_h1_f3 j39_h0_f1 j39_h0_0c g_h0_f1 g_h1_f1 g_h1_f2 g_h1_f3 g_j39_h0_f1 h_15 g_j39_h1_f3 g_20 g_j8_h0_f1 g_j8_h1_f2 g_j8_h1_f3 g_j8_l3 (RG_w g_22 (by decide +kernel)) g_j8_l5 hEX _ _ _ hP hD hS (lv_sub hl [0, 1, 3, 4, 5] rfl))
          · replace hEX := hEX.trans (if_neg c_21)
            have g_23 : RG j8_l4 1 60 := RG_ne1 g_j8_l4 (q := 0) rfl c_21 (by decide +kernel)
            refine lv_aload_n hx hb dX4_readSum_57 rfl (lv_at hl 3 rfl) ?_
            as_aux_lemma =>
            refine lv_iload hx hb dX4_readSum_58 (lv_at hl 2 rfl) ?_
            refine lv_ineg hx hb dX4_readSum_60 ?_
            refine lv_topi (fun x_24 ex_24 => ?_)
            replace hEX := hEX.trans (exl_eq ex_24)
            have g_25 : RG x_24 (-60) (-1) := RG_neg ex_24 g_23 (by decide +kernel)
            obtain ⟨hPc, hDc, hFc, hqc⟩ := cl_cut (wc := (wd_c_X4_emit h0 h0_0 j39_h0_f1 h0_2 h0_0 h0_0k j39_h0_0c)) hP hD hS hA [2, 3] (by decide +kernel) rfl
            have hKc := hK.sub (tys' := [(h0_0k, .int)]) [1] rfl
            have hrv := va_recv hKc hPc (ci := 4) (q0 := 0) rfl rfl
            refine va_callv (va_runV (As := [.int x_24]) (rest := []) ⟨hx, hb, hml, hown, hts⟩ (c_X4_emit l dC dI H.size h0 x_24 h0_0 j39_h0_f1 h0_2 h0_0k j39_h0_0c g_j39_h0_f1) (cwV 1 hts gf_c_X4_readSum_2_c_X4_emit rfl rfl rfl mdV_X4_emit ⟨Nat.le_of_ble_eq_true rfl, Nat.le_of_ble_eq_true rfl⟩) ⟨fun a U g mk q => by obtain ⟨q0, q1, qP, qK, qD⟩ := q; exact ⟨q0, q1, qP, va_K.moved (u := U) (U := U.calling g mk a) (Vm.Alike.refl U.vm) qK, qD⟩, hrv, fun U hU hW => ⟨rfl, by rw [hU], by rw [hU]; exact hPc, va_K.moved hW.alike hKc, hDc.weaken (fun _ _ _ _ => trivial)⟩⟩ rfl rfl hl.1 rfl (lv_room (Nat.le_of_ble_eq_true rfl)) dX4_readSum_61 ⟨Nat.le_of_ble_eq_true rfl, Nat.le_of_ble_eq_true rfl⟩) hS (fun q _ h => hFc q h) hFc (fun u t H1 locs ht hvm hw hB hz1 hk1 hS => ?_)
            obtain ⟨x_27, w_28⟩ := u
            obtain ⟨hP1, hK1, hD1⟩ := hB
            rw [ht] at hP1
            obtain ⟨hP, hD⟩ := cl_put (w1 := (wd_c_X4_emit h0 h0_0 x_27 h0_2 h0_0 h0_0k w_28)) (nw := (wd_c_X4_readSum_2 h1 h1_0 h1_f1 x_13 j39_h1_f3 h1_0 h1_0k h1_0c h0 h0_0 x_27 h0_2 h0_0 h0_0k w_28)) hP hD [2, 3] [0, 1, 4, 5] 4 rfl hqc (by decide +kernel) rfl hk1 hFc hP1 hD1
            generalize H1 = H at hP hS ⊢
            as_aux_lemma =>
            rcases hw with ⟨h_29, h_30⟩
            have h_30 : (x_27, w_28) = _ := h_30
            replace hEX := hEX.trans (exc2_eq h_30)
            exact hU _ _ _ (J64 r_12 x_13 j39_h1_f3 x_27 w_28 g_h0_f1 g_h1_f1 g_h1_f2 g_h1_f3 (RG_w h_29 (by decide +kernel)) h_15 g_j39_h1_f3 g_20 g_j8_h0_f1 g_j8_h1_f2 g_j8_h1_f3 g_j8_l3 (RG_w g_23 (by decide +kernel)) g_j8_l5 hEX _ _ _ hP hD hS (lv_sub hl [0, 1, 3, 4, 5] rfl))
      refine hG _ _ _ ?_
      replace hEX := hEX.trans (if_pos (rfl : j8_l5 = j8_l5))
      refine lv_iload hx hb dX4_readSum_8 (lv_at hl 0 rfl) ?_
      refine lv_sipush (v := 240) hx hb dX4_readSum_10 kc_sipush_240 ?_
      refine lv_icmp_ge (tgt := 86) hx hb dX4_readSum_13 rfl (fun c_31 => ?_) (fun c_31 => ?_)
      · replace hEX := hEX.trans (if_pos c_31)
        have g_32 : RG j8_l5 240 240 := RG_le2 (RG_k 240 240 rfl) g_j8_l5 c_31 (by decide +kernel)
        have hK9 := hK.sub (tys' := []) [] rfl
        exact W.vret hx hb hr (fun t ht hW => ⟨⟨(j8_h1_f2, j8_h1_f3, j8_h0_f1, j8_h0_0c), rfl, ⟨g_j8_h1_f2, g_j8_h1_f3, g_j8_h0_f1, (hR.trans hEX).symm⟩, by rw [ht]; exact hP, va_K.moved hW.alike hK9, hD⟩, hS.F ht⟩) hS.2.2 dX4_readSum_86
      · replace hEX := hEX.trans (if_neg c_31)
        have d_33 := Int32.not_le.mp c_31
        have g_34 : RG j8_l5 0 239 := RG_lt1 g_j8_l5 (RG_k 240 240 rfl) d_33 (by decide +kernel)
        refine lv_aload_n hx hb dX4_readSum_16 rfl (lv_at hl 4 rfl) ?_
        as_aux_lemma =>
        obtain ⟨hPc, hDc, hFc, hqc⟩ := cl_cut (wc := (wd_c_X9_isRight h1 h1_0 h1_f1 j8_h1_f2 j8_h1_f3)) hP hD hS hA [0] (by decide +kernel) rfl
        have hKc := hK.sub (tys' := []) [] rfl
        have hrv := va_recv hKc hPc (ci := 9) (q0 := 0) rfl rfl
        refine va_calli (va_runV (As := []) (rest := []) ⟨hx, hb, hml, hown, hts⟩ (c_X9_isRight l dC dI H.size h1 h1_0 h1_f1 j8_h1_f2 j8_h1_f3 g_h1_f1 g_j8_h1_f2 g_j8_h1_f3) (cwV 0 hts gf_c_X4_readSum_2_c_X9_isRight rfl rfl rfl mdV_X9_isRight ⟨Nat.le_of_ble_eq_true rfl, Nat.le_of_ble_eq_true rfl⟩) ⟨fun a U g mk q => by obtain ⟨q0, q1, qP, qK, qD⟩ := q; exact ⟨q0, q1, qP, va_K.moved (u := U) (U := U.calling g mk a) (Vm.Alike.refl U.vm) qK, qD⟩, hrv, fun U hU hW => ⟨rfl, by rw [hU], by rw [hU]; exact hPc, va_K.moved hW.alike hKc, hDc.weaken (fun _ _ _ _ => trivial)⟩⟩ rfl rfl hl.1 rfl (lv_room (Nat.le_of_ble_eq_true rfl)) dX4_readSum_17 ⟨Nat.le_of_ble_eq_true rfl, Nat.le_of_ble_eq_true rfl⟩) hS (fun q _ h => hFc q h) hFc (fun r_35 u t H1 locs ht hvm hw hB hz1 hk1 hS => ?_)
        obtain ⟨hP1, hK1, hD1⟩ := hB
        rw [ht] at hP1
        obtain ⟨hP, hD⟩ := cl_put (w1 := (wd_c_X9_isRight h1 h1_0 h1_f1 j8_h1_f2 j8_h1_f3)) (nw := (wd_c_X4_readSum_2 h1 h1_0 h1_f1 j8_h1_f2 j8_h1_f3 h1_0 h1_0k h1_0c h0 h0_0 j8_h0_f1 h0_2 h0_0 h0_0k j8_h0_0c)) hP hD [0] [4, 1, 2, 3] 4 rfl hqc (by decide +kernel) rfl hk1 hFc hP1 hD1
        generalize H1 = H at hP hS ⊢
        as_aux_lemma =>
        rcases hw with ⟨h_36, h_37, h_38⟩ | ⟨h_39, h_40, h_41⟩
        · have h_38 : r_35 = _ := h_38
          replace hEX := hEX.trans (exc1_eq h_38)
          replace hEX := hEX.trans (if_pos (show r_35 = 0 from h_36))
          rw [h_36]
          refine lv_if_eq (tgt := 86) hx hb dX4_readSum_20 rfl (fun c_42 => ?_) (fun c_42 => absurd c_42 (by decide +kernel))
          have hK9 := hK.sub (tys' := []) [] rfl
          exact W.vret hx hb hr (fun t ht hW => ⟨⟨(j8_h1_f2, j8_h1_f3, j8_h0_f1, j8_h0_0c), rfl, ⟨g_j8_h1_f2, (RG_w h_37 (by decide +kernel)), g_j8_h0_f1, (hR.trans hEX).symm⟩, by rw [ht]; exact hP, va_K.moved hW.alike hK9, hD⟩, hS.F ht⟩) hS.2.2 dX4_readSum_86
        · have h_41 : r_35 = _ := h_41
          replace hEX := hEX.trans (exc1_eq h_41)
          replace hEX := hEX.trans (if_neg (fun q9 : r_35 = 0 => absurd ((show r_35 = 1 from h_39).symm.trans q9) (by decide +kernel)))
          rw [h_39]
          refine lv_if_eq (tgt := 86) hx hb dX4_readSum_20 rfl (fun c_43 => absurd c_43 (by decide +kernel)) (fun c_43 => ?_)
          refine lv_aload_n hx hb dX4_readSum_23 rfl (lv_at hl 3 rfl) ?_
          as_aux_lemma =>
          refine lv_aload_n hx hb dX4_readSum_24 rfl (lv_at hl 4 rfl) ?_
          refine lv_iload_n hx hb dX4_readSum_25 rfl (lv_at hl 5 rfl) ?_
          obtain ⟨hPc, hDc, hFc, hqc⟩ := cl_cut (wc := (wd_c_X4_readAtom_2 h1 h1_0 h1_f1 j8_h1_f2 j8_h1_f3 h1_0 h1_0k h1_0c h0 h0_0 j8_h0_f1 h0_2 h0_0 h0_0k j8_h0_0c)) hP hD hS hA [0, 1, 2, 3] (by decide +kernel) rfl
          have hKc := hK.sub (tys' := [(h1_0k, .int), (h0_0k, .int)]) [0, 1] rfl
          have hrv := va_recv hKc hPc (ci := 4) (q0 := 2) rfl rfl
          refine va_callv (va_runV (As := [.ref h1, .int 2]) (rest := []) ⟨hx, hb, hml, hown, hts⟩ (c_X4_readAtom_2 l dC dI H.size h0 h1 h1_0 h1_f1 j8_h1_f2 j8_h1_f3 h1_0k h1_0c h0_0 j8_h0_f1 h0_2 h0_0k j8_h0_0c ts4 tv4 g_h1_f1 g_j8_h1_f2 (RG_w h_40 (by decide +kernel)) a_h1_0c g_j8_h0_f1) (cwV 2 hts gf_c_X4_readSum_2_c_X4_readAtom_2 rfl rfl rfl mdV_X4_readAtom ⟨Nat.le_of_ble_eq_true rfl, Nat.le_of_ble_eq_true rfl⟩) ⟨fun a U g mk q => by obtain ⟨q0, q1, qP, qK, qD, qE0, qE1, qE2, qE3, qE4, qE5⟩ := q; exact ⟨q0, q1, qP, va_K.moved (u := U) (U := U.calling g mk a) (Vm.Alike.refl U.vm) qK, qD, vk_R.same rfl qE0, va_Z.moved (u := U) (U := U.calling g mk a) (Vm.Alike.refl U.vm) qE1, va_OF.moved (u := U) (U := U.calling g mk a) (Vm.Alike.refl U.vm) qE2, va_O.moved (u := U) (U := U.calling g mk a) (Vm.Alike.refl U.vm) qE3, va_OF.moved (u := U) (U := U.calling g mk a) (Vm.Alike.refl U.vm) qE4, va_T.moved (u := U) (U := U.calling g mk a) (Vm.Alike.refl U.vm) qE5⟩, hrv, fun U hU hW => ⟨rfl, by rw [hU], by rw [hU]; exact hPc, va_K.moved hW.alike hKc, hDc.weaken (fun _ _ _ _ => trivial), vk_R.warm hW hE_32, va_Z.moved hW.alike (by rw [hU]; exact (hE_10.kept hS.2.1).narrow hFc), va_OF.moved hW.alike (by rw [hU]; exact (hE_34.kept hS.2.1).narrow hFc), va_O.moved hW.alike (by rw [hU]; exact (hE_33.kept hS.2.1).narrow hFc), va_OF.moved hW.alike (by rw [hU]; exact (hE_35.kept hS.2.1).narrow hFc), va_T.moved hW.alike (by rw [hU]; exact (hE_36.kept hS.2.1).narrow hFc)⟩⟩ rfl rfl hl.1 rfl (lv_room (Nat.le_of_ble_eq_true rfl)) dX4_readSum_26 ⟨Nat.le_of_ble_eq_true rfl, Nat.le_of_ble_eq_true rfl⟩) hS (fun q _ h => hFc q h) hFc (fun u t H1 locs ht hvm hw hB hz1 hk1 hS => ?_)
          obtain ⟨x_45, x_46, x_47, w_48⟩ := u
          obtain ⟨hP1, hK1, hD1⟩ := hB
          rw [ht] at hP1
          obtain ⟨hP, hD⟩ := cl_put (w1 := (wd_c_X4_readAtom_2 h1 h1_0 h1_f1 x_45 x_46 h1_0 h1_0k h1_0c h0 h0_0 x_47 h0_2 h0_0 h0_0k w_48)) (nw := (wd_c_X4_readSum_2 h1 h1_0 h1_f1 x_45 x_46 h1_0 h1_0k h1_0c h0 h0_0 x_47 h0_2 h0_0 h0_0k w_48)) hP hD [0, 1, 2, 3] [4, 5, 6, 7] 4 rfl hqc (by decide +kernel) rfl hk1 hFc hP1 hD1
          generalize H1 = H at hP hS ⊢
          as_aux_lemma =>
          rcases hw with ⟨h_49, h_50, h_51, h_52⟩
          have h_52 : (x_45, x_46, x_47, w_48) = _ := h_52
          replace hEX := hEX.trans (exc4_eq h_52)
          refine lv_iload_n hx hb dX4_readSum_29 rfl (lv_at hl 2 rfl) ?_
          refine lv_if_eq (tgt := 39) hx hb dX4_readSum_30 rfl (fun c_53 => ?_) (fun c_53 => ?_)
          · replace hEX := hEX.trans (if_pos c_53)
            have g_54 : RG j8_l3 0 0 := RG_eq1 g_j8_l3 (RG_k 0 0 rfl) c_53 (by decide +kernel)
            exact hU _ _ _ (J39 x_45 x_46 x_47 w_48 g_h0_f1 g_h1_f1 g_h1_f2 g_h1_f3 h_51 h_49 h_50 g_j8_h0_f1 g_j8_h1_f2 h_40 (RG_w g_54 (by decide +kernel)) g_j8_l4 g_34 hEX _ _ _ hP hD hS (lv_sub hl [0, 1, 3, 4, 5] rfl))
          · replace hEX := hEX.trans (if_neg c_53)
            have g_55 : RG j8_l3 1 60 := RG_ne1 g_j8_l3 (q := 0) rfl c_53 (by decide +kernel)
            refine lv_aload_n hx hb dX4_readSum_33 rfl (lv_at hl 3 rfl) ?_
            refine lv_iload_n hx hb dX4_readSum_34 rfl (lv_at hl 2 rfl) ?_
            refine lv_ineg hx hb dX4_readSum_35 ?_
            refine lv_topi (fun x_56 ex_56 => ?_)
            as_aux_lemma =>
            replace hEX := hEX.trans (exl_eq ex_56)
            have g_57 : RG x_56 (-60) (-1) := RG_neg ex_56 g_55 (by decide +kernel)
            obtain ⟨hPc, hDc, hFc, hqc⟩ := cl_cut (wc := (wd_c_X4_emit h0 h0_0 x_47 h0_2 h0_0 h0_0k w_48)) hP hD hS hA [2, 3] (by decide +kernel) rfl
            have hKc := hK.sub (tys' := [(h0_0k, .int)]) [1] rfl
            have hrv := va_recv hKc hPc (ci := 4) (q0 := 0) rfl rfl
            refine va_callv (va_runV (As := [.int x_56]) (rest := []) ⟨hx, hb, hml, hown, hts⟩ (c_X4_emit l dC dI H.size h0 x_56 h0_0 x_47 h0_2 h0_0k w_48 h_51) (cwV 1 hts gf_c_X4_readSum_2_c_X4_emit rfl rfl rfl mdV_X4_emit ⟨Nat.le_of_ble_eq_true rfl, Nat.le_of_ble_eq_true rfl⟩) ⟨fun a U g mk q => by obtain ⟨q0, q1, qP, qK, qD⟩ := q; exact ⟨q0, q1, qP, va_K.moved (u := U) (U := U.calling g mk a) (Vm.Alike.refl U.vm) qK, qD⟩, hrv, fun U hU hW => ⟨rfl, by rw [hU], by rw [hU]; exact hPc, va_K.moved hW.alike hKc, hDc.weaken (fun _ _ _ _ => trivial)⟩⟩ rfl rfl hl.1 rfl (lv_room (Nat.le_of_ble_eq_true rfl)) dX4_readSum_36 ⟨Nat.le_of_ble_eq_true rfl, Nat.le_of_ble_eq_true rfl⟩) hS (fun q _ h => hFc q h) hFc (fun u t H1 locs ht hvm hw hB hz1 hk1 hS => ?_)
            obtain ⟨x_59, w_60⟩ := u
            obtain ⟨hP1, hK1, hD1⟩ := hB
            rw [ht] at hP1
            obtain ⟨hP, hD⟩ := cl_put (w1 := (wd_c_X4_emit h0 h0_0 x_59 h0_2 h0_0 h0_0k w_60)) (nw := (wd_c_X4_readSum_2 h1 h1_0 h1_f1 x_45 x_46 h1_0 h1_0k h1_0c h0 h0_0 x_59 h0_2 h0_0 h0_0k w_60)) hP hD [2, 3] [0, 1, 4, 5] 4 rfl hqc (by decide +kernel) rfl hk1 hFc hP1 hD1
            generalize H1 = H at hP hS ⊢
            as_aux_lemma =>
            rcases hw with ⟨h_61, h_62⟩
            have h_62 : (x_59, w_60) = _ := h_62
            replace hEX := hEX.trans (exc2_eq h_62)
            exact hU _ _ _ (J39 x_45 x_46 x_59 w_60 g_h0_f1 g_h1_f1 g_h1_f2 g_h1_f3 (RG_w h_61 (by decide +kernel)) h_49 h_50 g_j8_h0_f1 g_j8_h1_f2 h_40 (RG_w g_55 (by decide +kernel)) g_j8_l4 g_34 hEX _ _ _ hP hD hS (lv_sub hl [0, 1, 3, 4, 5] rfl))
  refine hG _ _ _ ?_
  refine lv_iconst (v := 0) hx hb dX4_readSum_0 kc_iconst_0 ?_
  refine lv_istore_n (lv' := [(3, .int 0), (0, .ref h0), (1, .ref h1), (2, .int 2)]) hx hb dX4_readSum_1 rfl hl (Nat.le_of_ble_eq_true rfl) rfl (fun ls hl => ?_)
  refine lv_iconst (v := 0) hx hb dX4_readSum_2 kc_iconst_0 ?_
  refine lv_istore (lv' := [(4, .int 0), (3, .int 0), (0, .ref h0), (1, .ref h1), (2, .int 2)]) hx hb dX4_readSum_3 hl (Nat.le_of_ble_eq_true rfl) rfl (fun ls hl => ?_)
  refine lv_iconst (v := 0) hx hb dX4_readSum_5 kc_iconst_0 ?_
  refine lv_istore (lv' := [(5, .int 0), (4, .int 0), (3, .int 0), (0, .ref h0), (1, .ref h1), (2, .int 2)]) hx hb dX4_readSum_6 hl (Nat.le_of_ble_eq_true rfl) rfl (fun ls hl => ?_)
  exact hU _ _ _ (J8 exF 0 0 0 h1_f2 h1_f3 h0_f1 h0_0c MU_F g_h0_f1 g_h1_f1 g_h1_f2 g_h1_f3 g_h0_f1 g_h1_f2 g_h1_f3 (RG_w (RG_k 0 0 rfl) (by decide +kernel)) (RG_w (RG_k 0 0 rfl) (by decide +kernel)) (RG_w (RG_k 0 0 rfl) (by decide +kernel)) hEX _ _ _ hP hD hS (lv_sub hl [0, 1, 2, 3, 4, 5] rfl))
noncomputable def wd_c_X4_readAtom_1 (a0 : Nat) (a1 : Nat) (a2 : Int32) (a3 : Int32) (a4 : Int32) (a5 : Nat) (a6 : ClassId) (a7 : Nat → Int32) (a8 : Nat) (a9 : Nat) (a10 : Int32) (a11 : Nat) (a12 : Nat) (a13 : ClassId) (a14 : Nat → Int32) : va_W := [(a0, .inr (9, [.ref a1, .int a2, .int a3, .int a4])), (a5, .inl (a6, 240, .inl a7)), (a8, .inr (4, [.ref a9, .int a10, .ref a11])), (a12, .inl (a13, 240, .inl a14))]
noncomputable def wf_c_X4_readAtom_1 : List Cond := List.cons (.code yX4_readAtom cX4_readAtom 6 none) (@HAppend.hAppend (List Cond) (List Cond) (List Cond) _ (@HAppend.hAppend (List Cond) (List Cond) (List Cond) _ [.methodLink RX4 41 yX9_peek, .instanceMethod yX9_peek, .selects RX9 yX9_peek yX9_peek, .initialized RX9, .code yX9_peek cX9_peek 1 (some .int), .fieldLink RX9 22 "BuoyVote$Tape" "at" "I", .fieldLink RX9 19 "BuoyVote$Tape" "length" "I", .fieldLink RX9 11 "BuoyVote$Tape" "bytes" "[I", .methodLink RX4 93 yJ0_indexOf_0f7a4, .instanceMethod yJ0_indexOf_0f7a4, .selects RJ0 yJ0_indexOf_0f7a4 yJ0_indexOf_0f7a4, .initialized RJ0, .code yJ0_indexOf_0f7a4 cJ0_indexOf_0f7a4 2 (some .int), .methodLink RJ0 633 yJ0_indexOf_7cf53, .instanceMethod yJ0_indexOf_7cf53, .selects RJ0 yJ0_indexOf_7cf53 yJ0_indexOf_7cf53, .code yJ0_indexOf_7cf53 cJ0_indexOf_7cf53 3 (some .int), .methodLink RJ0 492 yJ0_isLatin1_aae02, .instanceMethod yJ0_isLatin1_aae02, .selects RJ0 yJ0_isLatin1_aae02 yJ0_isLatin1_aae02, .code yJ0_isLatin1_aae02 cJ0_isLatin1_aae02 1 (some .boolean), .fieldLink RJ0 38 "java/lang/String" "COMPACT_STRINGS" "Z", .fieldLink RJ0 15 "java/lang/String" "coder" "B", .fieldLink RJ0 9 "java/lang/String" "value" "[B", .methodLink RJ0 505 yJ0_length_8abf5, .instanceMethod yJ0_length_8abf5, .selects RJ0 yJ0_length_8abf5 yJ0_length_8abf5, .code yJ0_length_8abf5 cJ0_length_8abf5 1 (some .int), .methodLink RJ0 335 yJ0_coder_7d493, .instanceMethod yJ0_coder_7d493, .selects RJ0 yJ0_coder_7d493 yJ0_coder_7d493, .code yJ0_coder_7d493 cJ0_coder_7d493 1 (some .byte), .methodLink RJ0 637 yJ1_indexOf_4cfef, .static yJ1_indexOf_4cfef, .initialized RJ1, .code yJ1_indexOf_4cfef cJ1_indexOf_4cfef 4 (some .int), .methodLink RJ1 88 yJ1_canEncode_9a6ad, .static yJ1_canEncode_9a6ad, .code yJ1_canEncode_9a6ad cJ1_canEncode_9a6ad 1 (some .boolean), .methodLink RJ1 92 Lib.Math.max.name, .static Lib.Math.max.name, .initialized "java/lang/Math", .code Lib.Math.max.name Lib.Math.max.code 2 (some .int), .methodLink RJ1 38 Lib.Math.min.name, .static Lib.Math.min.name, .code Lib.Math.min.name Lib.Math.min.code 2 (some .int), .methodLink RJ1 95 yJ1_indexOfChar_4cfef, .static yJ1_indexOfChar_4cfef, .code yJ1_indexOfChar_4cfef cJ1_indexOfChar_4cfef 6 (some .int), .methodLink RX4 99 yX9_number, .instanceMethod yX9_number, .selects RX9 yX9_number yX9_number, .code yX9_number cX9_number 4 (some .int), .methodLink RX4 82 yX9_refuseHere, .instanceMethod yX9_refuseHere, .selects RX9 yX9_refuseHere yX9_refuseHere, .code yX9_refuseHere cX9_refuseHere 1 none, .methodLink RX9 25 yX9_refuse, .instanceMethod yX9_refuse, .selects RX9 yX9_refuse yX9_refuse, .code yX9_refuse cX9_refuse 2 none, .fieldLink RX9 15 "BuoyVote$Tape" "wrong" "I", .methodLink RX4 79 yX9_skip, .instanceMethod yX9_skip, .selects RX9 yX9_skip yX9_skip, .code yX9_skip cX9_skip 1 none, .methodLink RX4 49 yX4_readSum, .instanceMethod yX4_readSum, .selects RX4 yX4_readSum yX4_readSum, .initialized RX4, .code yX4_readSum cX4_readSum 6 none, .methodLink RX4 72 yX9_isRight, .instanceMethod yX9_isRight, .selects RX9 yX9_isRight yX9_isRight, .code yX9_isRight cX9_isRight 1 (some .boolean), .methodLink RX4 85 yX4_readAtom, .instanceMethod yX4_readAtom, .selects RX4 yX4_readAtom yX4_readAtom, .methodLink RX4 60 yX4_emit, .instanceMethod yX4_emit, .selects RX4 yX4_emit yX4_emit, .code yX4_emit cX4_emit 2 none, .fieldLink RX4 20 "BuoyVote$Law" "length" "I", .fieldLink RX4 11 "BuoyVote$Law" "code" "[I", .methodLink RX4 88 yX9_takeEither, .instanceMethod yX9_takeEither, .selects RX9 yX9_takeEither yX9_takeEither, .code yX9_takeEither cX9_takeEither 4 (some .int), .methodLink RX9 29 yX9_peek, .methodLink RX4 37 yX9_expect, .instanceMethod yX9_expect, .selects RX9 yX9_expect yX9_expect, .code yX9_expect cX9_expect 2 none] wsX90) wsX40)
theorem iw_c_X4_readAtom_1_X9 : ∀ w ∈ wsX90, w ∈ wf_c_X4_readAtom_1 := fun w h => List.mem_cons_of_mem _ (List.mem_append_left _ (List.mem_append_right _ h))
theorem iw_c_X4_readAtom_1_X4 : ∀ w ∈ wsX40, w ∈ wf_c_X4_readAtom_1 := fun w h => List.mem_cons_of_mem _ (List.mem_append_right _ h)
set_option maxRecDepth 20000 in
theorem gf_c_X4_readAtom_1_c_X4_emit_1 : GoodIn wf_c_X4_readAtom_1 (wsV RX4 60 RX4 yX4_emit wf_c_X4_emit_1) := goodIn_app (gi_l [79, 80, 81, 70] rfl rfl) (gi_cons (j := 82) rfl rfl (goodIn_app (gi_l [83, 84] rfl rfl) (goodIn_sub iw_c_X4_readAtom_1_X4 gw_X4)))
set_option maxRecDepth 20000 in
theorem gf_c_X4_readAtom_1_c_X9_number_1 : GoodIn wf_c_X4_readAtom_1 (wsV RX4 99 RX9 yX9_number wf_c_X9_number_1) := goodIn_app (gi_l [50, 51, 52, 4] rfl rfl) (gi_cons (j := 53) rfl rfl (goodIn_app (gi_l [6, 7, 8] rfl rfl) (goodIn_sub iw_c_X4_readAtom_1_X9 gw_X9)))
set_option maxRecDepth 20000 in
theorem gf_c_X4_readAtom_1_c_X9_refuseHere : GoodIn wf_c_X4_readAtom_1 (wsV RX4 82 RX9 yX9_refuseHere wf_c_X9_refuseHere) := goodIn_app (gi_l [54, 55, 56, 4] rfl rfl) (gi_cons (j := 57) rfl rfl (goodIn_app (gi_l [6, 58, 59, 60, 4, 61, 62] rfl rfl) (goodIn_sub iw_c_X4_readAtom_1_X9 gw_X9)))
set_option maxRecDepth 20000 in
theorem gf_c_X4_readAtom_1_c_X9_skip : GoodIn wf_c_X4_readAtom_1 (wsV RX4 79 RX9 yX9_skip wf_c_X9_skip) := goodIn_app (gi_l [63, 64, 65, 4] rfl rfl) (gi_cons (j := 66) rfl rfl (goodIn_app (gi_l [6] rfl rfl) (goodIn_sub iw_c_X4_readAtom_1_X9 gw_X9)))
set_option maxRecDepth 20000 in
theorem gf_c_X4_readAtom_1_c_X4_readSum_2 : GoodIn wf_c_X4_readAtom_1 (wsV RX4 49 RX4 yX4_readSum wf_c_X4_readSum_2) := goodIn_app (gi_l [67, 68, 69, 70] rfl rfl) (gi_cons (j := 71) rfl rfl (goodIn_app (goodIn_app (gi_l [72, 73, 74, 4, 75, 62, 76, 77, 78, 70, 0, 1, 2, 3, 5, 6, 7, 8, 9, 10, 11, 12, 13, 14, 15, 16, 17, 18, 19, 20, 21, 22, 23, 24, 25, 26, 27, 28, 29, 30, 31, 32, 33, 34, 35, 36, 37, 38, 39, 40, 41, 42, 43, 44, 45, 46, 47, 48, 49, 50, 51, 52, 53, 54, 55, 56, 57, 58, 59, 60, 61, 63, 64, 65, 66, 67, 68, 69, 79, 80, 81, 82, 83, 84, 85, 86, 87, 88, 89, 90, 91, 92, 93] rfl rfl) (goodIn_sub iw_c_X4_readAtom_1_X9 gw_X9)) (goodIn_sub iw_c_X4_readAtom_1_X4 gw_X4)))
set_option maxRecDepth 20000 in
theorem gf_c_X4_readAtom_1_c_X9_expect_2 : GoodIn wf_c_X4_readAtom_1 (wsV RX4 37 RX9 yX9_expect wf_c_X9_expect_2) := goodIn_app (gi_l [90, 91, 92, 4] rfl rfl) (gi_cons (j := 93) rfl rfl (goodIn_app (gi_l [62, 89, 2, 3, 4, 5, 6, 7, 8, 58, 59, 60, 61] rfl rfl) (goodIn_sub iw_c_X4_readAtom_1_X9 gw_X9)))
set_option maxRecDepth 20000 in
theorem gf_c_X4_readAtom_1_c_X4_emit : GoodIn wf_c_X4_readAtom_1 (wsV RX4 60 RX4 yX4_emit wf_c_X4_emit) := goodIn_app (gi_l [79, 80, 81, 70] rfl rfl) (gi_cons (j := 82) rfl rfl (goodIn_app (gi_l [83, 84] rfl rfl) (goodIn_sub iw_c_X4_readAtom_1_X4 gw_X4)))
set_option maxRecDepth 20000 in
theorem gf_c_X4_readAtom_1_c_X9_peek : GoodIn wf_c_X4_readAtom_1 (wsV RX4 41 RX9 yX9_peek wf_c_X9_peek) := goodIn_app (gi_l [1, 2, 3, 4] rfl rfl) (gi_cons (j := 5) rfl rfl (goodIn_app (gi_l [6, 7, 8] rfl rfl) (goodIn_sub iw_c_X4_readAtom_1_X9 gw_X9)))
set_option maxRecDepth 20000 in
theorem gf_c_X4_readAtom_1_c_J0_indexOf_0f7a4_4 : GoodIn wf_c_X4_readAtom_1 (wsV RX4 93 RJ0 yJ0_indexOf_0f7a4 wf_c_J0_indexOf_0f7a4_4) := goodIn_app (gi_l [9, 10, 11, 12] rfl rfl) (gi_cons (j := 13) rfl rfl (gi_l [14, 15, 16, 12, 17, 18, 19, 20, 21, 22, 23, 24, 25, 26, 27, 28, 29, 30, 31, 32, 33, 34, 35, 36, 37, 38, 39, 40, 41, 42, 43, 44, 45, 46, 47, 48, 49] rfl rfl))
set_option maxHeartbeats 4000000 in
set_option maxRecDepth 100000 in
theorem c_X4_readAtom_1 (l : Launch) (dC : Nat → ClassId) (dI : Nat → Nat → Nat) (sz : Nat) (h0 : Nat) (h1 : Nat) (h1_0 : Nat) (h1_f1 : Int32) (h1_f2 : Int32) (h1_f3 : Int32) (h1_0k : ClassId) (h1_0c : Nat → Int32) (h0_0 : Nat) (h0_f1 : Int32) (h0_2 : Nat) (h0_0k : ClassId) (h0_0c : Nat → Int32) (ts4 : Nat) (tv4 : Nat) (g_h1_f1 : RG h1_f1 0 240) (g_h1_f2 : RG h1_f2 0 240) (g_h1_f3 : RG h1_f3 (-1) 240) (a_h1_0c : AI h1_0c 0 255) (g_h0_f1 : RG h0_f1 0 240) : Met l yX4_readAtom wf_c_X4_readAtom_1 ({ frames := 14, cells := 0, slots := 0, locals := 341 }) (va_Pc [.ref h0, .ref h1, .int 1] (fun U => U.heap.size = sz ∧ va_P (dC, dI) vwCl (wd_c_X4_readAtom_1 h1 h1_0 h1_f1 h1_f2 h1_f3 h1_0 h1_0k h1_0c h0 h0_0 h0_f1 h0_2 h0_0 h0_0k h0_0c) U.heap ∧ va_K (dC, dI) vwCl [(h1_0k, .int), (h0_0k, .int)] U ∧ va_D (fun _ => True) (wd_c_X4_readAtom_1 h1 h1_0 h1_f1 h1_f2 h1_f3 h1_0 h1_0k h1_0c h0 h0_0 h0_f1 h0_2 h0_0 h0_0k h0_0c) ∧ vk_R RX4 91 "vlrdph" ts4 U ∧ va_Z "java/lang/String" "COMPACT_STRINGS" "Z" (.int 1) (va_A (wd_c_X4_readAtom_1 h1 h1_0 h1_f1 h1_f2 h1_f3 h1_0 h1_0k h1_0c h0 h0_0 h0_f1 h0_2 h0_0 h0_0k h0_0c) sz) U U.heap ∧ va_OF "java/lang/String" "coder" "B" (.int 0) ts4 (va_A (wd_c_X4_readAtom_1 h1 h1_0 h1_f1 h1_f2 h1_f3 h1_0 h1_0k h1_0c h0 h0_0 h0_f1 h0_2 h0_0 h0_0k h0_0c) sz) U U.heap ∧ va_O "java/lang/String" ts4 (va_A (wd_c_X4_readAtom_1 h1 h1_0 h1_f1 h1_f2 h1_f3 h1_0 h1_0k h1_0c h0 h0_0 h0_f1 h0_2 h0_0 h0_0k h0_0c) sz) U U.heap ∧ va_OF "java/lang/String" "value" "[B" (.ref tv4) ts4 (va_A (wd_c_X4_readAtom_1 h1 h1_0 h1_f1 h1_f2 h1_f3 h1_0 h1_0k h1_0c h0 h0_0 h0_f1 h0_2 h0_0 h0_0k h0_0c) sz) U U.heap ∧ va_T .byte tv4 6 (fun j => .int ([118, 108, 114, 100, 112, 104].getD j 0)) (va_A (wd_c_X4_readAtom_1 h1 h1_0 h1_f1 h1_f2 h1_f3 h1_0 h1_0k h1_0c h0 h0_0 h0_f1 h0_2 h0_0 h0_0k h0_0c) sz) U U.heap)) (va_Qv (fun (u : (Int32) × (Int32) × (Int32) × (Nat → Int32)) => (RG u.1 0 240 ∧ RG u.2.1 (-1) 240 ∧ RG u.2.2.1 0 240 ∧ (u.1, u.2.1, u.2.2.1, u.2.2.2) = fx_c_X4_readAtom_1 h1_f1 h1_f2 h1_f3 h1_0c h0_f1 h0_0c)) (fun (u : (Int32) × (Int32) × (Int32) × (Nat → Int32)) t => va_P (dC, dI) vwCl (wd_c_X4_readAtom_1 h1 h1_0 h1_f1 (u.1) (u.2.1) h1_0 h1_0k h1_0c h0 h0_0 (u.2.2.1) h0_2 h0_0 h0_0k (u.2.2.2)) t.heap ∧ va_K (dC, dI) vwCl [] t ∧ va_D (va_A (wd_c_X4_readAtom_1 h1 h1_0 h1_f1 h1_f2 h1_f3 h1_0 h1_0k h1_0c h0 h0_0 h0_f1 h0_2 h0_0 h0_0k h0_0c) sz) (wd_c_X4_readAtom_1 h1 h1_0 h1_f1 (u.1) (u.2.1) h1_0 h1_0k h1_0c h0 h0_0 (u.2.2.1) h0_2 h0_0 h0_0k (u.2.2.2))) (va_A (wd_c_X4_readAtom_1 h1 h1_0 h1_f1 h1_f2 h1_f3 h1_0 h1_0k h1_0c h0 h0_0 h0_f1 h0_2 h0_0 h0_0k h0_0c) sz)) 0 0 (va_A (wd_c_X4_readAtom_1 h1 h1_0 h1_f1 h1_f2 h1_f3 h1_0 h1_0k h1_0c h0 h0_0 h0_f1 h0_2 h0_0 h0_0k h0_0c) sz) := by
  refine Met.ofW (cc := cX4_readAtom) (maxL := 6) (ret := none) (by decide +kernel) rfl ?_
  intro p e s m args below meth c s₁ B hml hv
  obtain ⟨rfl, hsz, hP, hK, hD0, hE_32, hE_10, hE_34, hE_33, hE_35, hE_36⟩ := hv
  have hx := B.exec
  have hb := B.bytes
  have hr := B.returns
  have hts := atoms_spec (ws := wf_c_X4_readAtom_1) B.pre
  have hown : s.vm.findClass RX4 = some m.cls := findClass_of_methodNamed B.named
  have hlocks := B.notSynchronized
  subst hsz
  have hD := hD0.self (sz := s.heap.size)
  generalize hAe : va_A (wd_c_X4_readAtom_1 h1 h1_0 h1_f1 h1_f2 h1_f3 h1_0 h1_0k h1_0c h0 h0_0 h0_f1 h0_2 h0_0 h0_0k h0_0c) s.heap.size = A at hD hE_10 hE_34 hE_33 hE_35 hE_36 ⊢
  have hA : ∀ q : Nat, s.heap.size ≤ q → A q := fun q h => by rw [← hAe]; exact Or.inr h
  have hP : va_P (dC, dI) vwCl (wd_c_X4_readAtom_1 h1 h1_0 h1_f1 h1_f2 h1_f3 h1_0 h1_0k h1_0c h0 h0_0 h0_f1 h0_2 h0_0 h0_0k h0_0c) s.heap := hP
  have hl := lv_entry ([.ref h0, .ref h1, .int 1]) (n := 6) (Nat.le_of_ble_eq_true rfl)
  rw [lg_entry_eq]
  generalize (lg_sl ([.ref h0, .ref h1, .int 1]) ++ List.replicate (6 - (lg_sl ([.ref h0, .ref h1, .int 1])).length) Slot.unset).toArray = ls at hl ⊢
  have hl : lv_has ls 6 [(0, .ref h0), (1, .ref h1), (2, .int 1)] := hl
  obtain ⟨H, hHe⟩ : ∃ H : Heap, s.heap = H := ⟨_, rfl⟩
  have hS : va_S A s.heap H [] := by rw [hHe]; exact va_S.rf
  have hP : va_P (dC, dI) vwCl (wd_c_X4_readAtom_1 h1 h1_0 h1_f1 h1_f2 h1_f3 h1_0 h1_0k h1_0c h0 h0_0 h0_f1 h0_2 h0_0 h0_0k h0_0c) H := by rw [← hHe]; exact hP
  rw [hHe]
  obtain ⟨RES, hR⟩ : ∃ z, fx_c_X4_readAtom_1 h1_f1 h1_f2 h1_f3 h1_0c h0_f1 h0_0c = z := ⟨_, rfl⟩
  have hEX : RES = fx_c_X4_readAtom_1 h1_f1 h1_f2 h1_f3 h1_0c h0_f1 h0_0c := hR.symm
  refine wj (fun G hG hU => ?_)
  as_aux_lemma =>
  have J65 : ∀ (j65_l5 : Int32) (j65_h1_f2 : Int32) (j65_h1_f3 : Int32) (g_h0_f1 : RG h0_f1 0 240) (g_h1_f1 : RG h1_f1 0 240) (g_h1_f2 : RG h1_f2 0 240) (g_h1_f3 : RG h1_f3 (-1) 240) (g_j65_h1_f2 : RG j65_h1_f2 0 240) (g_j65_h1_f3 : RG j65_h1_f3 (-1) 240) (g_j65_l5 : RG j65_l5 (-1) 9999) (hEX : RES = fx_c_X4_readAtom_1_p65 h0_f1 h0_0c j65_l5 j65_h1_f2 j65_h1_f3) (H : Heap) (locs : List Loc) (ls : Array Slot) (hP : va_P (dC, dI) vwCl (wd_c_X4_readAtom_1 h1 h1_0 h1_f1 j65_h1_f2 j65_h1_f3 h1_0 h1_0k h1_0c h0 h0_0 h0_f1 h0_2 h0_0 h0_0k h0_0c) H) (hD : va_D A (wd_c_X4_readAtom_1 h1 h1_0 h1_f1 j65_h1_f2 j65_h1_f3 h1_0 h1_0k h1_0c h0 h0_0 h0_f1 h0_2 h0_0 h0_0k h0_0c)) (hS : va_S A s.heap H locs) (hl : lv_has ls 6 [(5, .int j65_l5), (0, .ref h0)]), G H locs (F0 m 65 ls []) := by
    as_aux_lemma =>
    intro j65_l5 j65_h1_f2 j65_h1_f3 g_h0_f1 g_h1_f1 g_h1_f2 g_h1_f3 g_j65_h1_f2 g_j65_h1_f3 g_j65_l5 hEX H locs ls hP hD hS hl
    refine hG _ _ _ ?_
    refine lv_aload_n hx hb dX4_readAtom_65 rfl (lv_at hl 1 rfl) ?_
    refine lv_iload hx hb dX4_readAtom_66 (lv_at hl 0 rfl) ?_
    obtain ⟨hPc, hDc, hFc, hqc⟩ := cl_cut (wc := (wd_c_X4_emit_1 h0 h0_0 h0_f1 h0_2 h0_0 h0_0k h0_0c)) hP hD hS hA [2, 3] (by decide +kernel) rfl
    have hKc := hK.sub (tys' := [(h0_0k, .int)]) [1] rfl
    have hrv := va_recv hKc hPc (ci := 4) (q0 := 0) rfl rfl
    refine va_callv (va_runV (As := [.int j65_l5]) (rest := []) ⟨hx, hb, hml, hown, hts⟩ (c_X4_emit_1 l dC dI H.size h0 j65_l5 h0_0 h0_f1 h0_2 h0_0k h0_0c (RG_w g_j65_l5 (by decide +kernel)) g_h0_f1) (cwV 1 hts gf_c_X4_readAtom_1_c_X4_emit_1 rfl rfl rfl mdV_X4_emit ⟨Nat.le_of_ble_eq_true rfl, Nat.le_of_ble_eq_true rfl⟩) ⟨fun a U g mk q => by obtain ⟨q0, q1, qP, qK, qD⟩ := q; exact ⟨q0, q1, qP, va_K.moved (u := U) (U := U.calling g mk a) (Vm.Alike.refl U.vm) qK, qD⟩, hrv, fun U hU hW => ⟨rfl, by rw [hU], by rw [hU]; exact hPc, va_K.moved hW.alike hKc, hDc.weaken (fun _ _ _ _ => trivial)⟩⟩ rfl rfl hl.1 rfl (lv_room (Nat.le_of_ble_eq_true rfl)) dX4_readAtom_68 ⟨Nat.le_of_ble_eq_true rfl, Nat.le_of_ble_eq_true rfl⟩) hS (fun q _ h => hFc q h) hFc (fun u t H1 locs ht hvm hw hB hz1 hk1 hS => ?_)
    obtain ⟨x_2, w_3⟩ := u
    obtain ⟨hP1, hK1, hD1⟩ := hB
    rw [ht] at hP1
    obtain ⟨hP, hD⟩ := cl_put (w1 := (wd_c_X4_emit_1 h0 h0_0 x_2 h0_2 h0_0 h0_0k w_3)) (nw := (wd_c_X4_readAtom_1 h1 h1_0 h1_f1 j65_h1_f2 j65_h1_f3 h1_0 h1_0k h1_0c h0 h0_0 x_2 h0_2 h0_0 h0_0k w_3)) hP hD [2, 3] [0, 1, 4, 5] 4 rfl hqc (by decide +kernel) rfl hk1 hFc hP1 hD1
    generalize H1 = H at hP hS ⊢
    as_aux_lemma =>
    rcases hw with ⟨h_4, h_5⟩
    have h_5 : (x_2, w_3) = _ := h_5
    replace hEX := hEX.trans (exc2_eq h_5)
    refine lv_goto (tgt := 105) hx hb dX4_readAtom_71 rfl ?_
    have hK9 := hK.sub (tys' := []) [] rfl
    exact W.vret hx hb hr (fun t ht hW => ⟨⟨(j65_h1_f2, j65_h1_f3, x_2, w_3), rfl, ⟨g_j65_h1_f2, g_j65_h1_f3, (RG_w h_4 (by decide +kernel)), (hR.trans hEX).symm⟩, by rw [ht]; exact hP, va_K.moved hW.alike hK9, hD⟩, hS.F ht⟩) hS.2.2 dX4_readAtom_105
  have J20 : ∀ (j20_h1_f2 : Int32) (g_h0_f1 : RG h0_f1 0 240) (g_h1_f1 : RG h1_f1 0 240) (g_h1_f2 : RG h1_f2 0 240) (g_h1_f3 : RG h1_f3 (-1) 240) (g_j20_h1_f2 : RG j20_h1_f2 0 240) (hEX : RES = fx_c_X4_readAtom_1_p20 h1_f1 h1_f3 h1_0c h0_f1 h0_0c j20_h1_f2) (H : Heap) (locs : List Loc) (ls : Array Slot) (hP : va_P (dC, dI) vwCl (wd_c_X4_readAtom_1 h1 h1_0 h1_f1 j20_h1_f2 h1_f3 h1_0 h1_0k h1_0c h0 h0_0 h0_f1 h0_2 h0_0 h0_0k h0_0c) H) (hD : va_D A (wd_c_X4_readAtom_1 h1 h1_0 h1_f1 j20_h1_f2 h1_f3 h1_0 h1_0k h1_0c h0 h0_0 h0_f1 h0_2 h0_0 h0_0k h0_0c)) (hS : va_S A s.heap H locs) (hl : lv_has ls 6 [(3, .int (-1)), (0, .ref h0), (1, .ref h1), (2, .int 1)]), G H locs (F0 m 20 ls [.int (-1)]) := by
    as_aux_lemma =>
    intro j20_h1_f2 g_h0_f1 g_h1_f1 g_h1_f2 g_h1_f3 g_j20_h1_f2 hEX H locs ls hP hD hS hl
    refine hG _ _ _ ?_
    refine lv_istore (lv' := [(4, .int (-1)), (3, .int (-1)), (0, .ref h0), (1, .ref h1), (2, .int 1)]) hx hb dX4_readAtom_20 hl (Nat.le_of_ble_eq_true rfl) rfl (fun ls hl => ?_)
    refine lv_iload hx hb dX4_readAtom_22 (lv_at hl 0 rfl) ?_
    refine lv_if_lt (tgt := 42) hx hb dX4_readAtom_24 rfl (fun c_6 => ?_) (fun c_6 => absurd c_6 (by decide +kernel))
    refine lv_iload_n hx hb dX4_readAtom_42 rfl (lv_at hl 1 rfl) ?_
    refine lv_bipush (v := 91) hx hb dX4_readAtom_43 kc_bipush_91 ?_
    refine lv_icmp_eq (tgt := 74) hx hb dX4_readAtom_45 rfl (fun c_7 => absurd c_7 (by decide +kernel)) (fun c_7 => ?_)
    refine lv_aload_n hx hb dX4_readAtom_48 rfl (lv_at hl 3 rfl) ?_
    refine lv_iconst (v := 4) hx hb dX4_readAtom_49 kc_iconst_4 ?_
    obtain ⟨hPc, hDc, hFc, hqc⟩ := cl_cut (wc := (wd_c_X9_number_1 h1 h1_0 h1_f1 j20_h1_f2 h1_f3 h1_0 h1_0k h1_0c)) hP hD hS hA [0, 1] (by decide +kernel) rfl
    have hKc := hK.sub (tys' := [(h1_0k, .int)]) [0] rfl
    have hrv := va_recv hKc hPc (ci := 9) (q0 := 0) rfl rfl
    refine va_calli (va_runV (As := [.int 4]) (rest := []) ⟨hx, hb, hml, hown, hts⟩ (c_X9_number_1 l dC dI H.size h1 h1_0 h1_f1 j20_h1_f2 h1_f3 h1_0k h1_0c g_h1_f1 g_j20_h1_f2 g_h1_f3 a_h1_0c) (cwV 1 hts gf_c_X4_readAtom_1_c_X9_number_1 rfl rfl rfl mdV_X9_number ⟨Nat.le_of_ble_eq_true rfl, Nat.le_of_ble_eq_true rfl⟩) ⟨fun a U g mk q => by obtain ⟨q0, q1, qP, qK, qD⟩ := q; exact ⟨q0, q1, qP, va_K.moved (u := U) (U := U.calling g mk a) (Vm.Alike.refl U.vm) qK, qD⟩, hrv, fun U hU hW => ⟨rfl, by rw [hU], by rw [hU]; exact hPc, va_K.moved hW.alike hKc, hDc.weaken (fun _ _ _ _ => trivial)⟩⟩ rfl rfl hl.1 rfl (lv_room (Nat.le_of_ble_eq_true rfl)) dX4_readAtom_50 ⟨Nat.le_of_ble_eq_true rfl, Nat.le_of_ble_eq_true rfl⟩) hS (fun q _ h => hFc q h) hFc (fun r_8 x_9 t H1 locs ht hvm hw hB hz1 hk1 hS => ?_)
    as_aux_lemma =>
    obtain ⟨hP1, hK1, hD1⟩ := hB
    rw [ht] at hP1
    obtain ⟨hP, hD⟩ := cl_put (w1 := (wd_c_X9_number_1 h1 h1_0 h1_f1 x_9 h1_f3 h1_0 h1_0k h1_0c)) (nw := (wd_c_X4_readAtom_1 h1 h1_0 h1_f1 x_9 h1_f3 h1_0 h1_0k h1_0c h0 h0_0 h0_f1 h0_2 h0_0 h0_0k h0_0c)) hP hD [0, 1] [4, 5, 2, 3] 4 rfl hqc (by decide +kernel) rfl hk1 hFc hP1 hD1
    generalize H1 = H at hP hS ⊢
    as_aux_lemma =>
    rcases hw with ⟨h_10, h_11, h_12, h_13⟩ | ⟨h_14, h_15, h_16, h_17, h_18, h_19⟩
    · have h_13 : (r_8, x_9) = _ := h_13
      replace hEX := hEX.trans (exc2_eq h_13)
      replace hEX := hEX.trans (if_pos (show r_8 = (-1) from h_10))
      rw [h_10]
      refine lv_istore (lv' := [(5, .int (-1)), (4, .int (-1)), (3, .int (-1)), (0, .ref h0), (1, .ref h1), (2, .int 1)]) hx hb dX4_readAtom_53 hl (Nat.le_of_ble_eq_true rfl) rfl (fun ls hl => ?_)
      refine lv_iload hx hb dX4_readAtom_55 (lv_at hl 0 rfl) ?_
      refine lv_iconst (v := (-1)) hx hb dX4_readAtom_57 kc_iconst_m1 ?_
      refine lv_icmp_ne (tgt := 65) hx hb dX4_readAtom_58 rfl (fun c_20 => absurd c_20 (by decide +kernel)) (fun c_20 => ?_)
      refine lv_aload_n hx hb dX4_readAtom_61 rfl (lv_at hl 4 rfl) ?_
      obtain ⟨hPc, hDc, hFc, hqc⟩ := cl_cut (wc := (wd_c_X9_refuseHere h1 h1_0 h1_f1 x_9 h1_f3)) hP hD hS hA [0] (by decide +kernel) rfl
      have hKc := hK.sub (tys' := []) [] rfl
      have hrv := va_recv hKc hPc (ci := 9) (q0 := 0) rfl rfl
      refine va_callv (va_runV (As := []) (rest := []) ⟨hx, hb, hml, hown, hts⟩ (c_X9_refuseHere l dC dI H.size h1 h1_0 h1_f1 x_9 h1_f3 g_h1_f1 h_11 g_h1_f3) (cwV 0 hts gf_c_X4_readAtom_1_c_X9_refuseHere rfl rfl rfl mdV_X9_refuseHere ⟨Nat.le_of_ble_eq_true rfl, Nat.le_of_ble_eq_true rfl⟩) ⟨fun a U g mk q => by obtain ⟨q0, q1, qP, qK, qD⟩ := q; exact ⟨q0, q1, qP, va_K.moved (u := U) (U := U.calling g mk a) (Vm.Alike.refl U.vm) qK, qD⟩, hrv, fun U hU hW => ⟨rfl, by rw [hU], by rw [hU]; exact hPc, va_K.moved hW.alike hKc, hDc.weaken (fun _ _ _ _ => trivial)⟩⟩ rfl rfl hl.1 rfl (lv_room (Nat.le_of_ble_eq_true rfl)) dX4_readAtom_62 ⟨Nat.le_of_ble_eq_true rfl, Nat.le_of_ble_eq_true rfl⟩) hS (fun q _ h => hFc q h) hFc (fun x_22 t H1 locs ht hvm hw hB hz1 hk1 hS => ?_)
      as_aux_lemma =>
      obtain ⟨hP1, hK1, hD1⟩ := hB
      rw [ht] at hP1
      obtain ⟨hP, hD⟩ := cl_put (w1 := (wd_c_X9_refuseHere h1 h1_0 h1_f1 x_9 x_22)) (nw := (wd_c_X4_readAtom_1 h1 h1_0 h1_f1 x_9 x_22 h1_0 h1_0k h1_0c h0 h0_0 h0_f1 h0_2 h0_0 h0_0k h0_0c)) hP hD [0] [4, 1, 2, 3] 4 rfl hqc (by decide +kernel) rfl hk1 hFc hP1 hD1
      generalize H1 = H at hP hS ⊢
      as_aux_lemma =>
      rcases hw with ⟨h_23, h_24⟩
      have h_24 : x_22 = _ := h_24
      replace hEX := hEX.trans (exc1_eq h_24)
      exact hU _ _ _ (J65 (-1) x_9 x_22 g_h0_f1 g_h1_f1 g_h1_f2 g_h1_f3 h_11 (RG_w h_23 (by decide +kernel)) (RG_w (RG_k (-1) (-1) rfl) (by decide +kernel)) hEX _ _ _ hP hD hS (lv_sub hl [0, 3] rfl))
    · have h_19 : (r_8, x_9) = _ := h_19
      replace hEX := hEX.trans (exc2_eq h_19)
      replace hEX := hEX.trans (if_neg (RG_neq (x := r_8) (c := (-1)) (show RG r_8 0 9999 from h_14) (by decide +kernel)))
      refine lv_istore (lv' := [(5, .int r_8), (4, .int (-1)), (3, .int (-1)), (0, .ref h0), (1, .ref h1), (2, .int 1)]) hx hb dX4_readAtom_53 hl (Nat.le_of_ble_eq_true rfl) rfl (fun ls hl => ?_)
      refine lv_iload hx hb dX4_readAtom_55 (lv_at hl 0 rfl) ?_
      refine lv_iconst (v := (-1)) hx hb dX4_readAtom_57 kc_iconst_m1 ?_
      refine lv_icmp_ne (tgt := 65) hx hb dX4_readAtom_58 rfl (fun c_25 => ?_) (fun c_25 => ?_)
      · replace hEX := hEX.trans (if_neg c_25)
        exact hU _ _ _ (J65 r_8 x_9 h1_f3 g_h0_f1 (RG_w h_16 (by decide +kernel)) g_h1_f2 g_h1_f3 (RG_w h_15 (by decide +kernel)) g_h1_f3 (RG_w h_14 (by decide +kernel)) hEX _ _ _ hP hD hS (lv_sub hl [0, 3] rfl))
      · replace hEX := hEX.trans (if_pos c_25)
        exact RG_dead (RG_eq1 h_14 (RG_k (-1) (-1) rfl) c_25 (a' := 0) (b' := (-1)) (by decide +kernel)) (by decide +kernel)
  have J65b : ∀ (j65b_l5 : Int32) (j65b_h1_f2 : Int32) (j65b_h1_f3 : Int32) (g_h0_f1 : RG h0_f1 0 240) (g_h1_f1 : RG h1_f1 1 240) (g_h1_f2 : RG h1_f2 0 240) (g_h1_f3 : RG h1_f3 (-1) 240) (g_j65b_h1_f2 : RG j65b_h1_f2 0 240) (g_j65b_h1_f3 : RG j65b_h1_f3 (-1) 240) (g_j65b_l5 : RG j65b_l5 (-1) 9999) (hEX : RES = fx_c_X4_readAtom_1_p65b h0_f1 h0_0c j65b_l5 j65b_h1_f2 j65b_h1_f3) (H : Heap) (locs : List Loc) (ls : Array Slot) (hP : va_P (dC, dI) vwCl (wd_c_X4_readAtom_1 h1 h1_0 h1_f1 j65b_h1_f2 j65b_h1_f3 h1_0 h1_0k h1_0c h0 h0_0 h0_f1 h0_2 h0_0 h0_0k h0_0c) H) (hD : va_D A (wd_c_X4_readAtom_1 h1 h1_0 h1_f1 j65b_h1_f2 j65b_h1_f3 h1_0 h1_0k h1_0c h0 h0_0 h0_f1 h0_2 h0_0 h0_0k h0_0c)) (hS : va_S A s.heap H locs) (hl : lv_has ls 6 [(5, .int j65b_l5), (0, .ref h0)]), G H locs (F0 m 65 ls []) := by
    as_aux_lemma =>
    intro j65b_l5 j65b_h1_f2 j65b_h1_f3 g_h0_f1 g_h1_f1 g_h1_f2 g_h1_f3 g_j65b_h1_f2 g_j65b_h1_f3 g_j65b_l5 hEX H locs ls hP hD hS hl
    refine hG _ _ _ ?_
    refine lv_aload_n hx hb dX4_readAtom_65 rfl (lv_at hl 1 rfl) ?_
    refine lv_iload hx hb dX4_readAtom_66 (lv_at hl 0 rfl) ?_
    obtain ⟨hPc, hDc, hFc, hqc⟩ := cl_cut (wc := (wd_c_X4_emit_1 h0 h0_0 h0_f1 h0_2 h0_0 h0_0k h0_0c)) hP hD hS hA [2, 3] (by decide +kernel) rfl
    have hKc := hK.sub (tys' := [(h0_0k, .int)]) [1] rfl
    have hrv := va_recv hKc hPc (ci := 4) (q0 := 0) rfl rfl
    refine va_callv (va_runV (As := [.int j65b_l5]) (rest := []) ⟨hx, hb, hml, hown, hts⟩ (c_X4_emit_1 l dC dI H.size h0 j65b_l5 h0_0 h0_f1 h0_2 h0_0k h0_0c (RG_w g_j65b_l5 (by decide +kernel)) g_h0_f1) (cwV 1 hts gf_c_X4_readAtom_1_c_X4_emit_1 rfl rfl rfl mdV_X4_emit ⟨Nat.le_of_ble_eq_true rfl, Nat.le_of_ble_eq_true rfl⟩) ⟨fun a U g mk q => by obtain ⟨q0, q1, qP, qK, qD⟩ := q; exact ⟨q0, q1, qP, va_K.moved (u := U) (U := U.calling g mk a) (Vm.Alike.refl U.vm) qK, qD⟩, hrv, fun U hU hW => ⟨rfl, by rw [hU], by rw [hU]; exact hPc, va_K.moved hW.alike hKc, hDc.weaken (fun _ _ _ _ => trivial)⟩⟩ rfl rfl hl.1 rfl (lv_room (Nat.le_of_ble_eq_true rfl)) dX4_readAtom_68 ⟨Nat.le_of_ble_eq_true rfl, Nat.le_of_ble_eq_true rfl⟩) hS (fun q _ h => hFc q h) hFc (fun u t H1 locs ht hvm hw hB hz1 hk1 hS => ?_)
    obtain ⟨x_27, w_28⟩ := u
    obtain ⟨hP1, hK1, hD1⟩ := hB
    rw [ht] at hP1
    obtain ⟨hP, hD⟩ := cl_put (w1 := (wd_c_X4_emit_1 h0 h0_0 x_27 h0_2 h0_0 h0_0k w_28)) (nw := (wd_c_X4_readAtom_1 h1 h1_0 h1_f1 j65b_h1_f2 j65b_h1_f3 h1_0 h1_0k h1_0c h0 h0_0 x_27 h0_2 h0_0 h0_0k w_28)) hP hD [2, 3] [0, 1, 4, 5] 4 rfl hqc (by decide +kernel) rfl hk1 hFc hP1 hD1
    generalize H1 = H at hP hS ⊢
    as_aux_lemma =>
    rcases hw with ⟨h_29, h_30⟩
    have h_30 : (x_27, w_28) = _ := h_30
    replace hEX := hEX.trans (exc2_eq h_30)
    refine lv_goto (tgt := 105) hx hb dX4_readAtom_71 rfl ?_
    have hK9 := hK.sub (tys' := []) [] rfl
    exact W.vret hx hb hr (fun t ht hW => ⟨⟨(j65b_h1_f2, j65b_h1_f3, x_27, w_28), rfl, ⟨g_j65b_h1_f2, g_j65b_h1_f3, (RG_w h_29 (by decide +kernel)), (hR.trans hEX).symm⟩, by rw [ht]; exact hP, va_K.moved hW.alike hK9, hD⟩, hS.F ht⟩) hS.2.2 dX4_readAtom_105
  have J20b : ∀ (j20b_l3 : Int32) (j20b_h1_f2 : Int32) (g_h0_f1 : RG h0_f1 0 240) (g_h1_f1 : RG h1_f1 1 240) (g_h1_f2 : RG h1_f2 0 240) (g_h1_f3 : RG h1_f3 (-1) 240) (g_j20b_h1_f2 : RG j20b_h1_f2 0 239) (g_j20b_l3 : RG j20b_l3 0 255) (hEX : RES = fx_c_X4_readAtom_1_p20b h1_f1 h1_f3 h1_0c h0_f1 h0_0c j20b_l3 j20b_h1_f2) (H : Heap) (locs : List Loc) (ls : Array Slot) (hP : va_P (dC, dI) vwCl (wd_c_X4_readAtom_1 h1 h1_0 h1_f1 j20b_h1_f2 h1_f3 h1_0 h1_0k h1_0c h0 h0_0 h0_f1 h0_2 h0_0 h0_0k h0_0c) H) (hD : va_D A (wd_c_X4_readAtom_1 h1 h1_0 h1_f1 j20b_h1_f2 h1_f3 h1_0 h1_0k h1_0c h0 h0_0 h0_f1 h0_2 h0_0 h0_0k h0_0c)) (hS : va_S A s.heap H locs) (hl : lv_has ls 6 [(3, .int j20b_l3), (0, .ref h0), (1, .ref h1), (2, .int 1)]), G H locs (F0 m 20 ls [.int (-1)]) := by
    as_aux_lemma =>
    intro j20b_l3 j20b_h1_f2 g_h0_f1 g_h1_f1 g_h1_f2 g_h1_f3 g_j20b_h1_f2 g_j20b_l3 hEX H locs ls hP hD hS hl
    refine hG _ _ _ ?_
    refine lv_istore (lv' := [(4, .int (-1)), (3, .int j20b_l3), (0, .ref h0), (1, .ref h1), (2, .int 1)]) hx hb dX4_readAtom_20 hl (Nat.le_of_ble_eq_true rfl) rfl (fun ls hl => ?_)
    refine lv_iload hx hb dX4_readAtom_22 (lv_at hl 0 rfl) ?_
    refine lv_if_lt (tgt := 42) hx hb dX4_readAtom_24 rfl (fun c_31 => ?_) (fun c_31 => absurd c_31 (by decide +kernel))
    refine lv_iload_n hx hb dX4_readAtom_42 rfl (lv_at hl 1 rfl) ?_
    refine lv_bipush (v := 91) hx hb dX4_readAtom_43 kc_bipush_91 ?_
    refine lv_icmp_eq (tgt := 74) hx hb dX4_readAtom_45 rfl (fun c_32 => ?_) (fun c_32 => ?_)
    · replace hEX := hEX.trans (if_pos c_32)
      have g_33 : RG j20b_l3 91 91 := RG_eq1 g_j20b_l3 (RG_k 91 91 rfl) c_32 (by decide +kernel)
      refine lv_iload_n hx hb dX4_readAtom_74 rfl (lv_at hl 4 rfl) ?_
      refine lv_bipush (v := 6) hx hb dX4_readAtom_75 kc_bipush_6 ?_
      refine lv_icmp_lt (tgt := 87) hx hb dX4_readAtom_77 rfl (fun c_34 => ?_) (fun c_34 => absurd c_34 (by decide +kernel))
      refine lv_aload_n hx hb dX4_readAtom_87 rfl (lv_at hl 3 rfl) ?_
      as_aux_lemma =>
      obtain ⟨hPc, hDc, hFc, hqc⟩ := cl_cut (wc := (wd_c_X9_skip h1 h1_0 h1_f1 j20b_h1_f2 h1_f3)) hP hD hS hA [0] (by decide +kernel) rfl
      have hKc := hK.sub (tys' := []) [] rfl
      have hrv := va_recv hKc hPc (ci := 9) (q0 := 0) rfl rfl
      refine va_callv (va_runV (As := []) (rest := []) ⟨hx, hb, hml, hown, hts⟩ (c_X9_skip l dC dI H.size h1 h1_0 h1_f1 j20b_h1_f2 h1_f3 (RG_w g_h1_f1 (by decide +kernel)) g_j20b_h1_f2 g_h1_f3) (cwV 0 hts gf_c_X4_readAtom_1_c_X9_skip rfl rfl rfl mdV_X9_skip ⟨Nat.le_of_ble_eq_true rfl, Nat.le_of_ble_eq_true rfl⟩) ⟨fun a U g mk q => by obtain ⟨q0, q1, qP, qK, qD⟩ := q; exact ⟨q0, q1, qP, va_K.moved (u := U) (U := U.calling g mk a) (Vm.Alike.refl U.vm) qK, qD⟩, hrv, fun U hU hW => ⟨rfl, by rw [hU], by rw [hU]; exact hPc, va_K.moved hW.alike hKc, hDc.weaken (fun _ _ _ _ => trivial)⟩⟩ rfl rfl hl.1 rfl (lv_room (Nat.le_of_ble_eq_true rfl)) dX4_readAtom_88 ⟨Nat.le_of_ble_eq_true rfl, Nat.le_of_ble_eq_true rfl⟩) hS (fun q _ h => hFc q h) hFc (fun x_36 t H1 locs ht hvm hw hB hz1 hk1 hS => ?_)
      obtain ⟨hP1, hK1, hD1⟩ := hB
      rw [ht] at hP1
      obtain ⟨hP, hD⟩ := cl_put (w1 := (wd_c_X9_skip h1 h1_0 h1_f1 x_36 h1_f3)) (nw := (wd_c_X4_readAtom_1 h1 h1_0 h1_f1 x_36 h1_f3 h1_0 h1_0k h1_0c h0 h0_0 h0_f1 h0_2 h0_0 h0_0k h0_0c)) hP hD [0] [4, 1, 2, 3] 4 rfl hqc (by decide +kernel) rfl hk1 hFc hP1 hD1
      generalize H1 = H at hP hS ⊢
      as_aux_lemma =>
      rcases hw with ⟨h_37, h_38, h_39, h_40⟩
      have h_40 : x_36 = _ := h_40
      replace hEX := hEX.trans (exc1_eq h_40)
      refine lv_aload_n hx hb dX4_readAtom_91 rfl (lv_at hl 2 rfl) ?_
      refine lv_aload_n hx hb dX4_readAtom_92 rfl (lv_at hl 3 rfl) ?_
      refine lv_iload_n hx hb dX4_readAtom_93 rfl (lv_at hl 4 rfl) ?_
      refine lv_iconst (v := 1) hx hb dX4_readAtom_94 kc_iconst_1 ?_
      refine lv_iadd hx hb dX4_readAtom_95 ?_
      refine lv_topi (fun x_41 ex_41 => ?_)
      obtain rfl : x_41 = 2 := ex_41.trans (by decide +kernel)
      obtain ⟨hPc, hDc, hFc, hqc⟩ := cl_cut (wc := (wd_c_X4_readSum_2 h1 h1_0 h1_f1 x_36 h1_f3 h1_0 h1_0k h1_0c h0 h0_0 h0_f1 h0_2 h0_0 h0_0k h0_0c)) hP hD hS hA [0, 1, 2, 3] (by decide +kernel) rfl
      have hKc := hK.sub (tys' := [(h1_0k, .int), (h0_0k, .int)]) [0, 1] rfl
      have hrv := va_recv hKc hPc (ci := 4) (q0 := 2) rfl rfl
      refine va_callv (va_runV (As := [.ref h1, .int 2]) (rest := []) ⟨hx, hb, hml, hown, hts⟩ (c_X4_readSum_2 l dC dI H.size h0 h1 h1_0 h1_f1 x_36 h1_f3 h1_0k h1_0c h0_0 h0_f1 h0_2 h0_0k h0_0c ts4 tv4 (RG_w g_h1_f1 (by decide +kernel)) (RG_w h_37 (by decide +kernel)) g_h1_f3 a_h1_0c g_h0_f1) (cwV 2 hts gf_c_X4_readAtom_1_c_X4_readSum_2 rfl rfl rfl mdV_X4_readSum ⟨Nat.le_of_ble_eq_true rfl, Nat.le_of_ble_eq_true rfl⟩) ⟨fun a U g mk q => by obtain ⟨q0, q1, qP, qK, qD, qE0, qE1, qE2, qE3, qE4, qE5⟩ := q; exact ⟨q0, q1, qP, va_K.moved (u := U) (U := U.calling g mk a) (Vm.Alike.refl U.vm) qK, qD, vk_R.same rfl qE0, va_Z.moved (u := U) (U := U.calling g mk a) (Vm.Alike.refl U.vm) qE1, va_OF.moved (u := U) (U := U.calling g mk a) (Vm.Alike.refl U.vm) qE2, va_O.moved (u := U) (U := U.calling g mk a) (Vm.Alike.refl U.vm) qE3, va_OF.moved (u := U) (U := U.calling g mk a) (Vm.Alike.refl U.vm) qE4, va_T.moved (u := U) (U := U.calling g mk a) (Vm.Alike.refl U.vm) qE5⟩, hrv, fun U hU hW => ⟨rfl, by rw [hU], by rw [hU]; exact hPc, va_K.moved hW.alike hKc, hDc.weaken (fun _ _ _ _ => trivial), vk_R.warm hW hE_32, va_Z.moved hW.alike (by rw [hU]; exact (hE_10.kept hS.2.1).narrow hFc), va_OF.moved hW.alike (by rw [hU]; exact (hE_34.kept hS.2.1).narrow hFc), va_O.moved hW.alike (by rw [hU]; exact (hE_33.kept hS.2.1).narrow hFc), va_OF.moved hW.alike (by rw [hU]; exact (hE_35.kept hS.2.1).narrow hFc), va_T.moved hW.alike (by rw [hU]; exact (hE_36.kept hS.2.1).narrow hFc)⟩⟩ rfl rfl hl.1 rfl (lv_room (Nat.le_of_ble_eq_true rfl)) dX4_readAtom_96 ⟨Nat.le_of_ble_eq_true rfl, Nat.le_of_ble_eq_true rfl⟩) hS (fun q _ h => hFc q h) hFc (fun u t H1 locs ht hvm hw hB hz1 hk1 hS => ?_)
      as_aux_lemma =>
      obtain ⟨x_43, x_44, x_45, w_46⟩ := u
      obtain ⟨hP1, hK1, hD1⟩ := hB
      rw [ht] at hP1
      obtain ⟨hP, hD⟩ := cl_put (w1 := (wd_c_X4_readSum_2 h1 h1_0 h1_f1 x_43 x_44 h1_0 h1_0k h1_0c h0 h0_0 x_45 h0_2 h0_0 h0_0k w_46)) (nw := (wd_c_X4_readAtom_1 h1 h1_0 h1_f1 x_43 x_44 h1_0 h1_0k h1_0c h0 h0_0 x_45 h0_2 h0_0 h0_0k w_46)) hP hD [0, 1, 2, 3] [4, 5, 6, 7] 4 rfl hqc (by decide +kernel) rfl hk1 hFc hP1 hD1
      generalize H1 = H at hP hS ⊢
      as_aux_lemma =>
      rcases hw with ⟨h_47, h_48, h_49, h_50⟩
      have h_50 : (x_43, x_44, x_45, w_46) = _ := h_50
      replace hEX := hEX.trans (exc4_eq h_50)
      refine lv_aload_n hx hb dX4_readAtom_99 rfl (lv_at hl 3 rfl) ?_
      refine lv_bipush (v := 93) hx hb dX4_readAtom_100 kc_bipush_93 ?_
      obtain ⟨hPc, hDc, hFc, hqc⟩ := cl_cut (wc := (wd_c_X9_expect_2 h1 h1_0 h1_f1 x_43 x_44 h1_0 h1_0k h1_0c)) hP hD hS hA [0, 1] (by decide +kernel) rfl
      have hKc := hK.sub (tys' := [(h1_0k, .int)]) [0] rfl
      have hrv := va_recv hKc hPc (ci := 9) (q0 := 0) rfl rfl
      refine va_callv (va_runV (As := [.int 93]) (rest := []) ⟨hx, hb, hml, hown, hts⟩ (c_X9_expect_2 l dC dI H.size h1 93 h1_0 h1_f1 x_43 x_44 h1_0k h1_0c (RG_w (RG_k 93 93 rfl) (by decide +kernel)) (RG_w g_h1_f1 (by decide +kernel)) h_47 h_48 a_h1_0c) (cwV 1 hts gf_c_X4_readAtom_1_c_X9_expect_2 rfl rfl rfl mdV_X9_expect ⟨Nat.le_of_ble_eq_true rfl, Nat.le_of_ble_eq_true rfl⟩) ⟨fun a U g mk q => by obtain ⟨q0, q1, qP, qK, qD⟩ := q; exact ⟨q0, q1, qP, va_K.moved (u := U) (U := U.calling g mk a) (Vm.Alike.refl U.vm) qK, qD⟩, hrv, fun U hU hW => ⟨rfl, by rw [hU], by rw [hU]; exact hPc, va_K.moved hW.alike hKc, hDc.weaken (fun _ _ _ _ => trivial)⟩⟩ rfl rfl hl.1 rfl (lv_room (Nat.le_of_ble_eq_true rfl)) dX4_readAtom_102 ⟨Nat.le_of_ble_eq_true rfl, Nat.le_of_ble_eq_true rfl⟩) hS (fun q _ h => hFc q h) hFc (fun u t H1 locs ht hvm hw hB hz1 hk1 hS => ?_)
      obtain ⟨x_52, x_53⟩ := u
      obtain ⟨hP1, hK1, hD1⟩ := hB
      rw [ht] at hP1
      obtain ⟨hP, hD⟩ := cl_put (w1 := (wd_c_X9_expect_2 h1 h1_0 h1_f1 x_52 x_53 h1_0 h1_0k h1_0c)) (nw := (wd_c_X4_readAtom_1 h1 h1_0 h1_f1 x_52 x_53 h1_0 h1_0k h1_0c h0 h0_0 x_45 h0_2 h0_0 h0_0k w_46)) hP hD [0, 1] [4, 5, 2, 3] 4 rfl hqc (by decide +kernel) rfl hk1 hFc hP1 hD1
      generalize H1 = H at hP hS ⊢
      as_aux_lemma =>
      rcases hw with ⟨h_54, h_55, h_56, h_57⟩
      have h_57 : (x_52, x_53) = _ := h_57
      replace hEX := hEX.trans (exc2_eq h_57)
      have hK9 := hK.sub (tys' := []) [] rfl
      exact W.vret hx hb hr (fun t ht hW => ⟨⟨(x_52, x_53, x_45, w_46), rfl, ⟨h_54, h_55, h_49, (hR.trans hEX).symm⟩, by rw [ht]; exact hP, va_K.moved hW.alike hK9, hD⟩, hS.F ht⟩) hS.2.2 dX4_readAtom_105
    · replace hEX := hEX.trans (if_neg c_32)
      refine lv_aload_n hx hb dX4_readAtom_48 rfl (lv_at hl 3 rfl) ?_
      refine lv_iconst (v := 4) hx hb dX4_readAtom_49 kc_iconst_4 ?_
      obtain ⟨hPc, hDc, hFc, hqc⟩ := cl_cut (wc := (wd_c_X9_number_1 h1 h1_0 h1_f1 j20b_h1_f2 h1_f3 h1_0 h1_0k h1_0c)) hP hD hS hA [0, 1] (by decide +kernel) rfl
      have hKc := hK.sub (tys' := [(h1_0k, .int)]) [0] rfl
      have hrv := va_recv hKc hPc (ci := 9) (q0 := 0) rfl rfl
      refine va_calli (va_runV (As := [.int 4]) (rest := []) ⟨hx, hb, hml, hown, hts⟩ (c_X9_number_1 l dC dI H.size h1 h1_0 h1_f1 j20b_h1_f2 h1_f3 h1_0k h1_0c (RG_w g_h1_f1 (by decide +kernel)) (RG_w g_j20b_h1_f2 (by decide +kernel)) g_h1_f3 a_h1_0c) (cwV 1 hts gf_c_X4_readAtom_1_c_X9_number_1 rfl rfl rfl mdV_X9_number ⟨Nat.le_of_ble_eq_true rfl, Nat.le_of_ble_eq_true rfl⟩) ⟨fun a U g mk q => by obtain ⟨q0, q1, qP, qK, qD⟩ := q; exact ⟨q0, q1, qP, va_K.moved (u := U) (U := U.calling g mk a) (Vm.Alike.refl U.vm) qK, qD⟩, hrv, fun U hU hW => ⟨rfl, by rw [hU], by rw [hU]; exact hPc, va_K.moved hW.alike hKc, hDc.weaken (fun _ _ _ _ => trivial)⟩⟩ rfl rfl hl.1 rfl (lv_room (Nat.le_of_ble_eq_true rfl)) dX4_readAtom_50 ⟨Nat.le_of_ble_eq_true rfl, Nat.le_of_ble_eq_true rfl⟩) hS (fun q _ h => hFc q h) hFc (fun r_58 x_59 t H1 locs ht hvm hw hB hz1 hk1 hS => ?_)
      obtain ⟨hP1, hK1, hD1⟩ := hB
      rw [ht] at hP1
      obtain ⟨hP, hD⟩ := cl_put (w1 := (wd_c_X9_number_1 h1 h1_0 h1_f1 x_59 h1_f3 h1_0 h1_0k h1_0c)) (nw := (wd_c_X4_readAtom_1 h1 h1_0 h1_f1 x_59 h1_f3 h1_0 h1_0k h1_0c h0 h0_0 h0_f1 h0_2 h0_0 h0_0k h0_0c)) hP hD [0, 1] [4, 5, 2, 3] 4 rfl hqc (by decide +kernel) rfl hk1 hFc hP1 hD1
      generalize H1 = H at hP hS ⊢
      as_aux_lemma =>
      rcases hw with ⟨h_60, h_61, h_62, h_63⟩ | ⟨h_64, h_65, h_66, h_67, h_68, h_69⟩
      · have h_63 : (r_58, x_59) = _ := h_63
        replace hEX := hEX.trans (exc2_eq h_63)
        replace hEX := hEX.trans (if_pos (show r_58 = (-1) from h_60))
        rw [h_60]
        refine lv_istore (lv' := [(5, .int (-1)), (4, .int (-1)), (3, .int j20b_l3), (0, .ref h0), (1, .ref h1), (2, .int 1)]) hx hb dX4_readAtom_53 hl (Nat.le_of_ble_eq_true rfl) rfl (fun ls hl => ?_)
        refine lv_iload hx hb dX4_readAtom_55 (lv_at hl 0 rfl) ?_
        refine lv_iconst (v := (-1)) hx hb dX4_readAtom_57 kc_iconst_m1 ?_
        refine lv_icmp_ne (tgt := 65) hx hb dX4_readAtom_58 rfl (fun c_70 => absurd c_70 (by decide +kernel)) (fun c_70 => ?_)
        refine lv_aload_n hx hb dX4_readAtom_61 rfl (lv_at hl 4 rfl) ?_
        obtain ⟨hPc, hDc, hFc, hqc⟩ := cl_cut (wc := (wd_c_X9_refuseHere h1 h1_0 h1_f1 x_59 h1_f3)) hP hD hS hA [0] (by decide +kernel) rfl
        have hKc := hK.sub (tys' := []) [] rfl
        have hrv := va_recv hKc hPc (ci := 9) (q0 := 0) rfl rfl
        refine va_callv (va_runV (As := []) (rest := []) ⟨hx, hb, hml, hown, hts⟩ (c_X9_refuseHere l dC dI H.size h1 h1_0 h1_f1 x_59 h1_f3 (RG_w g_h1_f1 (by decide +kernel)) h_61 g_h1_f3) (cwV 0 hts gf_c_X4_readAtom_1_c_X9_refuseHere rfl rfl rfl mdV_X9_refuseHere ⟨Nat.le_of_ble_eq_true rfl, Nat.le_of_ble_eq_true rfl⟩) ⟨fun a U g mk q => by obtain ⟨q0, q1, qP, qK, qD⟩ := q; exact ⟨q0, q1, qP, va_K.moved (u := U) (U := U.calling g mk a) (Vm.Alike.refl U.vm) qK, qD⟩, hrv, fun U hU hW => ⟨rfl, by rw [hU], by rw [hU]; exact hPc, va_K.moved hW.alike hKc, hDc.weaken (fun _ _ _ _ => trivial)⟩⟩ rfl rfl hl.1 rfl (lv_room (Nat.le_of_ble_eq_true rfl)) dX4_readAtom_62 ⟨Nat.le_of_ble_eq_true rfl, Nat.le_of_ble_eq_true rfl⟩) hS (fun q _ h => hFc q h) hFc (fun x_72 t H1 locs ht hvm hw hB hz1 hk1 hS => ?_)
        as_aux_lemma =>
        obtain ⟨hP1, hK1, hD1⟩ := hB
        rw [ht] at hP1
        obtain ⟨hP, hD⟩ := cl_put (w1 := (wd_c_X9_refuseHere h1 h1_0 h1_f1 x_59 x_72)) (nw := (wd_c_X4_readAtom_1 h1 h1_0 h1_f1 x_59 x_72 h1_0 h1_0k h1_0c h0 h0_0 h0_f1 h0_2 h0_0 h0_0k h0_0c)) hP hD [0] [4, 1, 2, 3] 4 rfl hqc (by decide +kernel) rfl hk1 hFc hP1 hD1
        generalize H1 = H at hP hS ⊢
        as_aux_lemma =>
        rcases hw with ⟨h_73, h_74⟩
        have h_74 : x_72 = _ := h_74
        replace hEX := hEX.trans (exc1_eq h_74)
        exact hU _ _ _ (J65b (-1) x_59 x_72 g_h0_f1 g_h1_f1 g_h1_f2 g_h1_f3 h_61 (RG_w h_73 (by decide +kernel)) (RG_w (RG_k (-1) (-1) rfl) (by decide +kernel)) hEX _ _ _ hP hD hS (lv_sub hl [0, 3] rfl))
      · have h_69 : (r_58, x_59) = _ := h_69
        replace hEX := hEX.trans (exc2_eq h_69)
        replace hEX := hEX.trans (if_neg (RG_neq (x := r_58) (c := (-1)) (show RG r_58 0 9999 from h_64) (by decide +kernel)))
        refine lv_istore (lv' := [(5, .int r_58), (4, .int (-1)), (3, .int j20b_l3), (0, .ref h0), (1, .ref h1), (2, .int 1)]) hx hb dX4_readAtom_53 hl (Nat.le_of_ble_eq_true rfl) rfl (fun ls hl => ?_)
        refine lv_iload hx hb dX4_readAtom_55 (lv_at hl 0 rfl) ?_
        refine lv_iconst (v := (-1)) hx hb dX4_readAtom_57 kc_iconst_m1 ?_
        refine lv_icmp_ne (tgt := 65) hx hb dX4_readAtom_58 rfl (fun c_75 => ?_) (fun c_75 => ?_)
        · replace hEX := hEX.trans (if_neg c_75)
          exact hU _ _ _ (J65b r_58 x_59 h1_f3 g_h0_f1 g_h1_f1 g_h1_f2 g_h1_f3 (RG_w h_65 (by decide +kernel)) g_h1_f3 (RG_w h_64 (by decide +kernel)) hEX _ _ _ hP hD hS (lv_sub hl [0, 3] rfl))
        · replace hEX := hEX.trans (if_pos c_75)
          exact RG_dead (RG_eq1 h_64 (RG_k (-1) (-1) rfl) c_75 (a' := 0) (b' := (-1)) (by decide +kernel)) (by decide +kernel)
  have J20c : ∀ (j20c_l3 : Int32) (j20c_s0 : Int32) (j20c_h1_f2 : Int32) (g_h0_f1 : RG h0_f1 0 240) (g_h1_f1 : RG h1_f1 1 240) (g_h1_f2 : RG h1_f2 0 240) (g_h1_f3 : RG h1_f3 (-1) 240) (g_j20c_h1_f2 : RG j20c_h1_f2 0 239) (g_j20c_l3 : RG j20c_l3 0 255) (g_j20c_s0 : RG j20c_s0 0 5) (hEX : RES = fx_c_X4_readAtom_1_p20c h1_f3 h0_f1 h0_0c j20c_s0 j20c_h1_f2) (H : Heap) (locs : List Loc) (ls : Array Slot) (hP : va_P (dC, dI) vwCl (wd_c_X4_readAtom_1 h1 h1_0 h1_f1 j20c_h1_f2 h1_f3 h1_0 h1_0k h1_0c h0 h0_0 h0_f1 h0_2 h0_0 h0_0k h0_0c) H) (hD : va_D A (wd_c_X4_readAtom_1 h1 h1_0 h1_f1 j20c_h1_f2 h1_f3 h1_0 h1_0k h1_0c h0 h0_0 h0_f1 h0_2 h0_0 h0_0k h0_0c)) (hS : va_S A s.heap H locs) (hl : lv_has ls 6 [(3, .int j20c_l3), (0, .ref h0), (1, .ref h1), (2, .int 1)]), G H locs (F0 m 20 ls [.int j20c_s0]) := by
    as_aux_lemma =>
    intro j20c_l3 j20c_s0 j20c_h1_f2 g_h0_f1 g_h1_f1 g_h1_f2 g_h1_f3 g_j20c_h1_f2 g_j20c_l3 g_j20c_s0 hEX H locs ls hP hD hS hl
    refine hG _ _ _ ?_
    refine lv_istore (lv' := [(4, .int j20c_s0), (3, .int j20c_l3), (0, .ref h0), (1, .ref h1), (2, .int 1)]) hx hb dX4_readAtom_20 hl (Nat.le_of_ble_eq_true rfl) rfl (fun ls hl => ?_)
    refine lv_iload hx hb dX4_readAtom_22 (lv_at hl 0 rfl) ?_
    refine lv_if_lt (tgt := 42) hx hb dX4_readAtom_24 rfl (fun c_76 => ?_) (fun c_76 => ?_)
    · replace hEX := hEX.trans (if_pos c_76)
      have g_77 : RG j20c_s0 0 (-1) := RG_lt1 g_j20c_s0 (RG_k 0 0 rfl) c_76 (by decide +kernel)
      exact RG_dead (RG_lt1 g_j20c_s0 (RG_k 0 0 rfl) c_76 (b' := (-1)) (by decide +kernel)) (by decide +kernel)
    · replace hEX := hEX.trans (if_neg c_76)
      have d_78 := Int32.not_lt.mp c_76
      refine lv_aload_n hx hb dX4_readAtom_27 rfl (lv_at hl 3 rfl) ?_
      obtain ⟨hPc, hDc, hFc, hqc⟩ := cl_cut (wc := (wd_c_X9_skip h1 h1_0 h1_f1 j20c_h1_f2 h1_f3)) hP hD hS hA [0] (by decide +kernel) rfl
      have hKc := hK.sub (tys' := []) [] rfl
      have hrv := va_recv hKc hPc (ci := 9) (q0 := 0) rfl rfl
      refine va_callv (va_runV (As := []) (rest := []) ⟨hx, hb, hml, hown, hts⟩ (c_X9_skip l dC dI H.size h1 h1_0 h1_f1 j20c_h1_f2 h1_f3 (RG_w g_h1_f1 (by decide +kernel)) g_j20c_h1_f2 g_h1_f3) (cwV 0 hts gf_c_X4_readAtom_1_c_X9_skip rfl rfl rfl mdV_X9_skip ⟨Nat.le_of_ble_eq_true rfl, Nat.le_of_ble_eq_true rfl⟩) ⟨fun a U g mk q => by obtain ⟨q0, q1, qP, qK, qD⟩ := q; exact ⟨q0, q1, qP, va_K.moved (u := U) (U := U.calling g mk a) (Vm.Alike.refl U.vm) qK, qD⟩, hrv, fun U hU hW => ⟨rfl, by rw [hU], by rw [hU]; exact hPc, va_K.moved hW.alike hKc, hDc.weaken (fun _ _ _ _ => trivial)⟩⟩ rfl rfl hl.1 rfl (lv_room (Nat.le_of_ble_eq_true rfl)) dX4_readAtom_28 ⟨Nat.le_of_ble_eq_true rfl, Nat.le_of_ble_eq_true rfl⟩) hS (fun q _ h => hFc q h) hFc (fun x_80 t H1 locs ht hvm hw hB hz1 hk1 hS => ?_)
      as_aux_lemma =>
      obtain ⟨hP1, hK1, hD1⟩ := hB
      rw [ht] at hP1
      obtain ⟨hP, hD⟩ := cl_put (w1 := (wd_c_X9_skip h1 h1_0 h1_f1 x_80 h1_f3)) (nw := (wd_c_X4_readAtom_1 h1 h1_0 h1_f1 x_80 h1_f3 h1_0 h1_0k h1_0c h0 h0_0 h0_f1 h0_2 h0_0 h0_0k h0_0c)) hP hD [0] [4, 1, 2, 3] 4 rfl hqc (by decide +kernel) rfl hk1 hFc hP1 hD1
      generalize H1 = H at hP hS ⊢
      as_aux_lemma =>
      rcases hw with ⟨h_81, h_82, h_83, h_84⟩
      have h_84 : x_80 = _ := h_84
      replace hEX := hEX.trans (exc1_eq h_84)
      refine lv_aload_n hx hb dX4_readAtom_31 rfl (lv_at hl 2 rfl) ?_
      refine lv_iconst (v := (-1)) hx hb dX4_readAtom_32 kc_iconst_m1 ?_
      refine lv_iload hx hb dX4_readAtom_33 (lv_at hl 0 rfl) ?_
      refine lv_isub hx hb dX4_readAtom_35 ?_
      refine lv_topi (fun x_85 ex_85 => ?_)
      replace hEX := hEX.trans (exl_eq ex_85)
      have g_86 : RG x_85 (-6) (-1) := RG_sub ex_85 (RG_k (-1) (-1) rfl) g_j20c_s0 (by decide +kernel)
      obtain ⟨hPc, hDc, hFc, hqc⟩ := cl_cut (wc := (wd_c_X4_emit h0 h0_0 h0_f1 h0_2 h0_0 h0_0k h0_0c)) hP hD hS hA [2, 3] (by decide +kernel) rfl
      have hKc := hK.sub (tys' := [(h0_0k, .int)]) [1] rfl
      have hrv := va_recv hKc hPc (ci := 4) (q0 := 0) rfl rfl
      refine va_callv (va_runV (As := [.int x_85]) (rest := []) ⟨hx, hb, hml, hown, hts⟩ (c_X4_emit l dC dI H.size h0 x_85 h0_0 h0_f1 h0_2 h0_0k h0_0c g_h0_f1) (cwV 1 hts gf_c_X4_readAtom_1_c_X4_emit rfl rfl rfl mdV_X4_emit ⟨Nat.le_of_ble_eq_true rfl, Nat.le_of_ble_eq_true rfl⟩) ⟨fun a U g mk q => by obtain ⟨q0, q1, qP, qK, qD⟩ := q; exact ⟨q0, q1, qP, va_K.moved (u := U) (U := U.calling g mk a) (Vm.Alike.refl U.vm) qK, qD⟩, hrv, fun U hU hW => ⟨rfl, by rw [hU], by rw [hU]; exact hPc, va_K.moved hW.alike hKc, hDc.weaken (fun _ _ _ _ => trivial)⟩⟩ rfl rfl hl.1 rfl (lv_room (Nat.le_of_ble_eq_true rfl)) dX4_readAtom_36 ⟨Nat.le_of_ble_eq_true rfl, Nat.le_of_ble_eq_true rfl⟩) hS (fun q _ h => hFc q h) hFc (fun u t H1 locs ht hvm hw hB hz1 hk1 hS => ?_)
      as_aux_lemma =>
      obtain ⟨x_88, w_89⟩ := u
      obtain ⟨hP1, hK1, hD1⟩ := hB
      rw [ht] at hP1
      obtain ⟨hP, hD⟩ := cl_put (w1 := (wd_c_X4_emit h0 h0_0 x_88 h0_2 h0_0 h0_0k w_89)) (nw := (wd_c_X4_readAtom_1 h1 h1_0 h1_f1 x_80 h1_f3 h1_0 h1_0k h1_0c h0 h0_0 x_88 h0_2 h0_0 h0_0k w_89)) hP hD [2, 3] [0, 1, 4, 5] 4 rfl hqc (by decide +kernel) rfl hk1 hFc hP1 hD1
      generalize H1 = H at hP hS ⊢
      as_aux_lemma =>
      rcases hw with ⟨h_90, h_91⟩
      have h_91 : (x_88, w_89) = _ := h_91
      replace hEX := hEX.trans (exc2_eq h_91)
      refine lv_goto (tgt := 105) hx hb dX4_readAtom_39 rfl ?_
      have hK9 := hK.sub (tys' := []) [] rfl
      exact W.vret hx hb hr (fun t ht hW => ⟨⟨(x_80, h1_f3, x_88, w_89), rfl, ⟨(RG_w h_81 (by decide +kernel)), g_h1_f3, (RG_w h_90 (by decide +kernel)), (hR.trans hEX).symm⟩, by rw [ht]; exact hP, va_K.moved hW.alike hK9, hD⟩, hS.F ht⟩) hS.2.2 dX4_readAtom_105
  refine hG _ _ _ ?_
  refine lv_aload_n hx hb dX4_readAtom_0 rfl (lv_at hl 1 rfl) ?_
  obtain ⟨hPc, hDc, hFc, hqc⟩ := cl_cut (wc := (wd_c_X9_peek h1 h1_0 h1_f1 h1_f2 h1_f3 h1_0 h1_0k h1_0c)) hP hD hS hA [0, 1] (by decide +kernel) rfl
  have hKc := hK.sub (tys' := [(h1_0k, .int)]) [0] rfl
  have hrv := va_recv hKc hPc (ci := 9) (q0 := 0) rfl rfl
  refine va_calli (va_runV (As := []) (rest := []) ⟨hx, hb, hml, hown, hts⟩ (c_X9_peek l dC dI H.size h1 h1_0 h1_f1 h1_f2 h1_f3 h1_0k h1_0c g_h1_f1 g_h1_f2 g_h1_f3 a_h1_0c) (cwV 0 hts gf_c_X4_readAtom_1_c_X9_peek rfl rfl rfl mdV_X9_peek ⟨Nat.le_of_ble_eq_true rfl, Nat.le_of_ble_eq_true rfl⟩) ⟨fun a U g mk q => by obtain ⟨q0, q1, qP, qK, qD⟩ := q; exact ⟨q0, q1, qP, va_K.moved (u := U) (U := U.calling g mk a) (Vm.Alike.refl U.vm) qK, qD⟩, hrv, fun U hU hW => ⟨rfl, by rw [hU], by rw [hU]; exact hPc, va_K.moved hW.alike hKc, hDc.weaken (fun _ _ _ _ => trivial)⟩⟩ rfl rfl hl.1 rfl (lv_room (Nat.le_of_ble_eq_true rfl)) dX4_readAtom_1 ⟨Nat.le_of_ble_eq_true rfl, Nat.le_of_ble_eq_true rfl⟩) hS (fun q _ h => hFc q h) hFc (fun r_92 x_93 t H1 locs ht hvm hw hB hz1 hk1 hS => ?_)
  obtain ⟨hP1, hK1, hD1⟩ := hB
  rw [ht] at hP1
  obtain ⟨hP, hD⟩ := cl_put (w1 := (wd_c_X9_peek h1 h1_0 h1_f1 x_93 h1_f3 h1_0 h1_0k h1_0c)) (nw := (wd_c_X4_readAtom_1 h1 h1_0 h1_f1 x_93 h1_f3 h1_0 h1_0k h1_0c h0 h0_0 h0_f1 h0_2 h0_0 h0_0k h0_0c)) hP hD [0, 1] [4, 5, 2, 3] 4 rfl hqc (by decide +kernel) rfl hk1 hFc hP1 hD1
  generalize H1 = H at hP hS ⊢
  as_aux_lemma =>
  rcases hw with ⟨h_94, h_95, h_96, h_97⟩ | ⟨h_98, h_99, h_100, h_101, h_102⟩
  · have h_97 : (r_92, x_93) = _ := h_97
    replace hEX := hEX.trans (exc2_eq h_97)
    replace hEX := hEX.trans (if_pos (show r_92 = (-1) from h_94))
    rw [h_94]
    refine lv_istore_n (lv' := [(3, .int (-1)), (0, .ref h0), (1, .ref h1), (2, .int 1)]) hx hb dX4_readAtom_4 rfl hl (Nat.le_of_ble_eq_true rfl) rfl (fun ls hl => ?_)
    refine lv_iload_n hx hb dX4_readAtom_5 rfl (lv_at hl 0 rfl) ?_
    refine lv_if_ge (tgt := 13) hx hb dX4_readAtom_6 rfl (fun c_103 => absurd c_103 (by decide +kernel)) (fun c_103 => ?_)
    refine lv_iconst (v := (-1)) hx hb dX4_readAtom_9 kc_iconst_m1 ?_
    refine lv_goto (tgt := 20) hx hb dX4_readAtom_10 rfl ?_
    exact hU _ _ _ (J20 x_93 g_h0_f1 g_h1_f1 g_h1_f2 g_h1_f3 h_95 hEX _ _ _ hP hD hS (lv_sub hl [0, 1, 2, 3] rfl))
  · have h_102 : (r_92, x_93) = _ := h_102
    replace hEX := hEX.trans (exc2_eq h_102)
    replace hEX := hEX.trans (if_neg (RG_neq (x := r_92) (c := (-1)) (show RG r_92 0 255 from h_98) (by decide +kernel)))
    refine lv_istore_n (lv' := [(3, .int r_92), (0, .ref h0), (1, .ref h1), (2, .int 1)]) hx hb dX4_readAtom_4 rfl hl (Nat.le_of_ble_eq_true rfl) rfl (fun ls hl => ?_)
    as_aux_lemma =>
    refine lv_iload_n hx hb dX4_readAtom_5 rfl (lv_at hl 0 rfl) ?_
    refine lv_if_ge (tgt := 13) hx hb dX4_readAtom_6 rfl (fun c_104 => ?_) (fun c_104 => ?_)
    · replace hEX := hEX.trans (if_pos c_104)
      refine va_ldcS hx hb hown hE_32 dX4_readAtom_13 ?_
      refine lv_iload_n hx hb dX4_readAtom_15 rfl (lv_at hl 0 rfl) ?_
      refine lv_i2c hx hb dX4_readAtom_16 rfl ?_
      refine lv_topi (fun x_105 ex_105 => ?_)
      replace hEX := hEX.trans (exl_eq ex_105)
      have g_106 : RG x_105 0 65535 := RG_i2c ex_105
      obtain ⟨hPc, hDc, hFc, hqc⟩ := cl_cut (wc := []) hP hD hS hA [] (by decide +kernel) rfl
      have hKc := hK.sub (tys' := []) [] rfl
      have hrv := bv_Orecv hE_33 hS
      refine va_calli (va_runV (As := [.int x_105]) (rest := []) ⟨hx, hb, hml, hown, hts⟩ (c_J0_indexOf_0f7a4_4 l dC dI H.size ts4 x_105 tv4 g_106) (cwV 1 hts gf_c_X4_readAtom_1_c_J0_indexOf_0f7a4_4 rfl rfl rfl mdV_J0_indexOf_0f7a4 ⟨Nat.le_of_ble_eq_true rfl, Nat.le_of_ble_eq_true rfl⟩) ⟨fun a U g mk q => by obtain ⟨q0, q1, qP, qK, qD, qE0, qE1, qE2, qE3, qE4⟩ := q; exact ⟨q0, q1, qP, va_K.moved (u := U) (U := U.calling g mk a) (Vm.Alike.refl U.vm) qK, qD, va_Z.moved (u := U) (U := U.calling g mk a) (Vm.Alike.refl U.vm) qE0, va_OF.moved (u := U) (U := U.calling g mk a) (Vm.Alike.refl U.vm) qE1, va_O.moved (u := U) (U := U.calling g mk a) (Vm.Alike.refl U.vm) qE2, va_OF.moved (u := U) (U := U.calling g mk a) (Vm.Alike.refl U.vm) qE3, va_T.moved (u := U) (U := U.calling g mk a) (Vm.Alike.refl U.vm) qE4⟩, hrv, fun U hU hW => ⟨rfl, by rw [hU], by rw [hU]; exact hPc, va_K.moved hW.alike hKc, hDc.weaken (fun _ _ _ _ => trivial), va_Z.moved hW.alike (by rw [hU]; exact (hE_10.kept hS.2.1).narrow hFc), va_OF.moved hW.alike (by rw [hU]; exact (hE_34.kept hS.2.1).narrow hFc), va_O.moved hW.alike (by rw [hU]; exact (hE_33.kept hS.2.1).narrow hFc), va_OF.moved hW.alike (by rw [hU]; exact (hE_35.kept hS.2.1).narrow hFc), va_T.moved hW.alike (by rw [hU]; exact (hE_36.kept hS.2.1).narrow hFc)⟩⟩ rfl rfl hl.1 rfl (lv_room (Nat.le_of_ble_eq_true rfl)) dX4_readAtom_17 ⟨Nat.le_of_ble_eq_true rfl, Nat.le_of_ble_eq_true rfl⟩) hS (fun q _ h => hFc q h) hFc (fun r_107 u t H1 locs ht hvm hw hB hz1 hk1 hS => ?_)
      obtain ⟨hP1, hK1, hD1⟩ := hB
      rw [ht] at hP1
      have hP := bv_still hP hk1
      generalize H1 = H at hP hS ⊢
      as_aux_lemma =>
      rcases hw with ⟨h_108, h_109⟩ | ⟨h_110, h_111, h_112⟩
      · have h_109 : r_107 = _ := h_109
        replace hEX := hEX.trans (exc1_eq h_109)
        replace hEX := hEX.trans (if_pos (show r_107 = (-1) from h_108))
        rw [h_108]
        exact hU _ _ _ (J20b r_92 x_93 g_h0_f1 h_100 g_h1_f2 g_h1_f3 h_99 h_98 hEX _ _ _ hP hD hS (lv_sub hl [0, 1, 2, 3] rfl))
      · have h_112 : r_107 = _ := h_112
        replace hEX := hEX.trans (exc1_eq h_112)
        replace hEX := hEX.trans (if_neg (RG_neq (x := r_107) (c := (-1)) (show RG r_107 0 5 from h_110) (by decide +kernel)))
        exact hU _ _ _ (J20c r_92 r_107 x_93 g_h0_f1 h_100 g_h1_f2 g_h1_f3 h_99 h_98 h_110 hEX _ _ _ hP hD hS (lv_sub hl [0, 1, 2, 3] rfl))
    · replace hEX := hEX.trans (if_neg c_104)
      have d_113 := Int32.not_le.mp c_104
      have g_114 : RG r_92 0 (-1) := RG_lt1 h_98 (RG_k 0 0 rfl) d_113 (by decide +kernel)
      exact RG_dead (RG_lt1 h_98 (RG_k 0 0 rfl) d_113 (b' := (-1)) (by decide +kernel)) (by decide +kernel)
noncomputable def wd_c_X4_readSum_1 (a0 : Nat) (a1 : Nat) (a2 : Int32) (a3 : Int32) (a4 : Int32) (a5 : Nat) (a6 : ClassId) (a7 : Nat → Int32) (a8 : Nat) (a9 : Nat) (a10 : Int32) (a11 : Nat) (a12 : Nat) (a13 : ClassId) (a14 : Nat → Int32) : va_W := [(a0, .inr (9, [.ref a1, .int a2, .int a3, .int a4])), (a5, .inl (a6, 240, .inl a7)), (a8, .inr (4, [.ref a9, .int a10, .ref a11])), (a12, .inl (a13, 240, .inl a14))]
noncomputable def wf_c_X4_readSum_1 : List Cond := List.cons (.code yX4_readSum cX4_readSum 6 none) (@HAppend.hAppend (List Cond) (List Cond) (List Cond) _ (@HAppend.hAppend (List Cond) (List Cond) (List Cond) _ [.methodLink RX4 72 yX9_isRight, .instanceMethod yX9_isRight, .selects RX9 yX9_isRight yX9_isRight, .initialized RX9, .code yX9_isRight cX9_isRight 1 (some .boolean), .fieldLink RX9 15 "BuoyVote$Tape" "wrong" "I", .methodLink RX4 85 yX4_readAtom, .instanceMethod yX4_readAtom, .selects RX4 yX4_readAtom yX4_readAtom, .initialized RX4, .code yX4_readAtom cX4_readAtom 6 none, .methodLink RX4 41 yX9_peek, .instanceMethod yX9_peek, .selects RX9 yX9_peek yX9_peek, .code yX9_peek cX9_peek 1 (some .int), .fieldLink RX9 22 "BuoyVote$Tape" "at" "I", .fieldLink RX9 19 "BuoyVote$Tape" "length" "I", .fieldLink RX9 11 "BuoyVote$Tape" "bytes" "[I", .methodLink RX4 93 yJ0_indexOf_0f7a4, .instanceMethod yJ0_indexOf_0f7a4, .selects RJ0 yJ0_indexOf_0f7a4 yJ0_indexOf_0f7a4, .initialized RJ0, .code yJ0_indexOf_0f7a4 cJ0_indexOf_0f7a4 2 (some .int), .methodLink RJ0 633 yJ0_indexOf_7cf53, .instanceMethod yJ0_indexOf_7cf53, .selects RJ0 yJ0_indexOf_7cf53 yJ0_indexOf_7cf53, .code yJ0_indexOf_7cf53 cJ0_indexOf_7cf53 3 (some .int), .methodLink RJ0 492 yJ0_isLatin1_aae02, .instanceMethod yJ0_isLatin1_aae02, .selects RJ0 yJ0_isLatin1_aae02 yJ0_isLatin1_aae02, .code yJ0_isLatin1_aae02 cJ0_isLatin1_aae02 1 (some .boolean), .fieldLink RJ0 38 "java/lang/String" "COMPACT_STRINGS" "Z", .fieldLink RJ0 15 "java/lang/String" "coder" "B", .fieldLink RJ0 9 "java/lang/String" "value" "[B", .methodLink RJ0 505 yJ0_length_8abf5, .instanceMethod yJ0_length_8abf5, .selects RJ0 yJ0_length_8abf5 yJ0_length_8abf5, .code yJ0_length_8abf5 cJ0_length_8abf5 1 (some .int), .methodLink RJ0 335 yJ0_coder_7d493, .instanceMethod yJ0_coder_7d493, .selects RJ0 yJ0_coder_7d493 yJ0_coder_7d493, .code yJ0_coder_7d493 cJ0_coder_7d493 1 (some .byte), .methodLink RJ0 637 yJ1_indexOf_4cfef, .static yJ1_indexOf_4cfef, .initialized RJ1, .code yJ1_indexOf_4cfef cJ1_indexOf_4cfef 4 (some .int), .methodLink RJ1 88 yJ1_canEncode_9a6ad, .static yJ1_canEncode_9a6ad, .code yJ1_canEncode_9a6ad cJ1_canEncode_9a6ad 1 (some .boolean), .methodLink RJ1 92 Lib.Math.max.name, .static Lib.Math.max.name, .initialized "java/lang/Math", .code Lib.Math.max.name Lib.Math.max.code 2 (some .int), .methodLink RJ1 38 Lib.Math.min.name, .static Lib.Math.min.name, .code Lib.Math.min.name Lib.Math.min.code 2 (some .int), .methodLink RJ1 95 yJ1_indexOfChar_4cfef, .static yJ1_indexOfChar_4cfef, .code yJ1_indexOfChar_4cfef cJ1_indexOfChar_4cfef 6 (some .int), .methodLink RX4 99 yX9_number, .instanceMethod yX9_number, .selects RX9 yX9_number yX9_number, .code yX9_number cX9_number 4 (some .int), .methodLink RX4 82 yX9_refuseHere, .instanceMethod yX9_refuseHere, .selects RX9 yX9_refuseHere yX9_refuseHere, .code yX9_refuseHere cX9_refuseHere 1 none, .methodLink RX9 25 yX9_refuse, .instanceMethod yX9_refuse, .selects RX9 yX9_refuse yX9_refuse, .code yX9_refuse cX9_refuse 2 none, .methodLink RX4 79 yX9_skip, .instanceMethod yX9_skip, .selects RX9 yX9_skip yX9_skip, .code yX9_skip cX9_skip 1 none, .methodLink RX4 49 yX4_readSum, .instanceMethod yX4_readSum, .selects RX4 yX4_readSum yX4_readSum, .methodLink RX4 60 yX4_emit, .instanceMethod yX4_emit, .selects RX4 yX4_emit yX4_emit, .code yX4_emit cX4_emit 2 none, .fieldLink RX4 20 "BuoyVote$Law" "length" "I", .fieldLink RX4 11 "BuoyVote$Law" "code" "[I", .methodLink RX4 88 yX9_takeEither, .instanceMethod yX9_takeEither, .selects RX9 yX9_takeEither yX9_takeEither, .code yX9_takeEither cX9_takeEither 4 (some .int), .methodLink RX9 29 yX9_peek, .methodLink RX4 37 yX9_expect, .instanceMethod yX9_expect, .selects RX9 yX9_expect yX9_expect, .code yX9_expect cX9_expect 2 none] wsX90) wsX40)
theorem iw_c_X4_readSum_1_X9 : ∀ w ∈ wsX90, w ∈ wf_c_X4_readSum_1 := fun w h => List.mem_cons_of_mem _ (List.mem_append_left _ (List.mem_append_right _ h))
theorem iw_c_X4_readSum_1_X4 : ∀ w ∈ wsX40, w ∈ wf_c_X4_readSum_1 := fun w h => List.mem_cons_of_mem _ (List.mem_append_right _ h)
set_option maxRecDepth 20000 in
theorem gf_c_X4_readSum_1_c_X9_takeEither : GoodIn wf_c_X4_readSum_1 (wsV RX4 88 RX9 yX9_takeEither wf_c_X9_takeEither) := goodIn_app (gi_l [85, 86, 87, 4] rfl rfl) (gi_cons (j := 88) rfl rfl (goodIn_app (gi_l [89, 13, 14, 4, 15, 16, 17, 18, 6] rfl rfl) (goodIn_sub iw_c_X4_readSum_1_X9 gw_X9)))
set_option maxRecDepth 20000 in
theorem gf_c_X4_readSum_1_c_X4_emit : GoodIn wf_c_X4_readSum_1 (wsV RX4 60 RX4 yX4_emit wf_c_X4_emit) := goodIn_app (gi_l [79, 80, 81, 10] rfl rfl) (gi_cons (j := 82) rfl rfl (goodIn_app (gi_l [83, 84] rfl rfl) (goodIn_sub iw_c_X4_readSum_1_X4 gw_X4)))
set_option maxRecDepth 20000 in
theorem gf_c_X4_readSum_1_c_X9_isRight : GoodIn wf_c_X4_readSum_1 (wsV RX4 72 RX9 yX9_isRight wf_c_X9_isRight) := goodIn_app (gi_l [1, 2, 3, 4] rfl rfl) (gi_cons (j := 5) rfl rfl (goodIn_app (gi_l [6] rfl rfl) (goodIn_sub iw_c_X4_readSum_1_X9 gw_X9)))
set_option maxRecDepth 20000 in
theorem gf_c_X4_readSum_1_c_X4_readAtom_1 : GoodIn wf_c_X4_readSum_1 (wsV RX4 85 RX4 yX4_readAtom wf_c_X4_readAtom_1) := goodIn_app (gi_l [7, 8, 9, 10] rfl rfl) (gi_cons (j := 11) rfl rfl (goodIn_app (goodIn_app (gi_l [12, 13, 14, 4, 15, 16, 17, 18, 19, 20, 21, 22, 23, 24, 25, 26, 27, 28, 29, 30, 31, 32, 33, 34, 35, 36, 37, 38, 39, 40, 41, 42, 43, 44, 45, 46, 47, 48, 49, 50, 51, 52, 53, 54, 55, 56, 57, 58, 59, 60, 61, 62, 63, 64, 65, 66, 67, 68, 69, 70, 71, 6, 72, 73, 74, 75, 76, 77, 78, 10, 0, 1, 2, 3, 5, 7, 8, 9, 79, 80, 81, 82, 83, 84, 85, 86, 87, 88, 89, 90, 91, 92, 93] rfl rfl) (goodIn_sub iw_c_X4_readSum_1_X9 gw_X9)) (goodIn_sub iw_c_X4_readSum_1_X4 gw_X4)))
set_option maxHeartbeats 4000000 in
set_option maxRecDepth 100000 in
theorem c_X4_readSum_1 (l : Launch) (dC : Nat → ClassId) (dI : Nat → Nat → Nat) (sz : Nat) (h0 : Nat) (h1 : Nat) (h1_0 : Nat) (h1_f1 : Int32) (h1_f2 : Int32) (h1_f3 : Int32) (h1_0k : ClassId) (h1_0c : Nat → Int32) (h0_0 : Nat) (h0_f1 : Int32) (h0_2 : Nat) (h0_0k : ClassId) (h0_0c : Nat → Int32) (ts4 : Nat) (tv4 : Nat) (g_h1_f1 : RG h1_f1 0 240) (g_h1_f2 : RG h1_f2 0 240) (g_h1_f3 : RG h1_f3 (-1) 240) (a_h1_0c : AI h1_0c 0 255) (g_h0_f1 : RG h0_f1 0 240) : Met l yX4_readSum wf_c_X4_readSum_1 ({ frames := 15, cells := 0, slots := 0, locals := 366 }) (va_Pc [.ref h0, .ref h1, .int 1] (fun U => U.heap.size = sz ∧ va_P (dC, dI) vwCl (wd_c_X4_readSum_1 h1 h1_0 h1_f1 h1_f2 h1_f3 h1_0 h1_0k h1_0c h0 h0_0 h0_f1 h0_2 h0_0 h0_0k h0_0c) U.heap ∧ va_K (dC, dI) vwCl [(h1_0k, .int), (h0_0k, .int)] U ∧ va_D (fun _ => True) (wd_c_X4_readSum_1 h1 h1_0 h1_f1 h1_f2 h1_f3 h1_0 h1_0k h1_0c h0 h0_0 h0_f1 h0_2 h0_0 h0_0k h0_0c) ∧ vk_R RX4 91 "vlrdph" ts4 U ∧ va_Z "java/lang/String" "COMPACT_STRINGS" "Z" (.int 1) (va_A (wd_c_X4_readSum_1 h1 h1_0 h1_f1 h1_f2 h1_f3 h1_0 h1_0k h1_0c h0 h0_0 h0_f1 h0_2 h0_0 h0_0k h0_0c) sz) U U.heap ∧ va_OF "java/lang/String" "coder" "B" (.int 0) ts4 (va_A (wd_c_X4_readSum_1 h1 h1_0 h1_f1 h1_f2 h1_f3 h1_0 h1_0k h1_0c h0 h0_0 h0_f1 h0_2 h0_0 h0_0k h0_0c) sz) U U.heap ∧ va_O "java/lang/String" ts4 (va_A (wd_c_X4_readSum_1 h1 h1_0 h1_f1 h1_f2 h1_f3 h1_0 h1_0k h1_0c h0 h0_0 h0_f1 h0_2 h0_0 h0_0k h0_0c) sz) U U.heap ∧ va_OF "java/lang/String" "value" "[B" (.ref tv4) ts4 (va_A (wd_c_X4_readSum_1 h1 h1_0 h1_f1 h1_f2 h1_f3 h1_0 h1_0k h1_0c h0 h0_0 h0_f1 h0_2 h0_0 h0_0k h0_0c) sz) U U.heap ∧ va_T .byte tv4 6 (fun j => .int ([118, 108, 114, 100, 112, 104].getD j 0)) (va_A (wd_c_X4_readSum_1 h1 h1_0 h1_f1 h1_f2 h1_f3 h1_0 h1_0k h1_0c h0 h0_0 h0_f1 h0_2 h0_0 h0_0k h0_0c) sz) U U.heap)) (va_Qv (fun (u : (Int32) × (Int32) × (Int32) × (Nat → Int32)) => (RG u.1 0 240 ∧ RG u.2.1 (-1) 240 ∧ RG u.2.2.1 0 240 ∧ (u.1, u.2.1, u.2.2.1, u.2.2.2) = fx_c_X4_readSum_1 h1_f1 h1_f2 h1_f3 h1_0c h0_f1 h0_0c)) (fun (u : (Int32) × (Int32) × (Int32) × (Nat → Int32)) t => va_P (dC, dI) vwCl (wd_c_X4_readSum_1 h1 h1_0 h1_f1 (u.1) (u.2.1) h1_0 h1_0k h1_0c h0 h0_0 (u.2.2.1) h0_2 h0_0 h0_0k (u.2.2.2)) t.heap ∧ va_K (dC, dI) vwCl [] t ∧ va_D (va_A (wd_c_X4_readSum_1 h1 h1_0 h1_f1 h1_f2 h1_f3 h1_0 h1_0k h1_0c h0 h0_0 h0_f1 h0_2 h0_0 h0_0k h0_0c) sz) (wd_c_X4_readSum_1 h1 h1_0 h1_f1 (u.1) (u.2.1) h1_0 h1_0k h1_0c h0 h0_0 (u.2.2.1) h0_2 h0_0 h0_0k (u.2.2.2))) (va_A (wd_c_X4_readSum_1 h1 h1_0 h1_f1 h1_f2 h1_f3 h1_0 h1_0k h1_0c h0 h0_0 h0_f1 h0_2 h0_0 h0_0k h0_0c) sz)) 0 0 (va_A (wd_c_X4_readSum_1 h1 h1_0 h1_f1 h1_f2 h1_f3 h1_0 h1_0k h1_0c h0 h0_0 h0_f1 h0_2 h0_0 h0_0k h0_0c) sz) := by
  refine Met.ofW (cc := cX4_readSum) (maxL := 6) (ret := none) (by decide +kernel) rfl ?_
  intro p e s m args below meth c s₁ B hml hv
  obtain ⟨rfl, hsz, hP, hK, hD0, hE_32, hE_10, hE_34, hE_33, hE_35, hE_36⟩ := hv
  have hx := B.exec
  have hb := B.bytes
  have hr := B.returns
  have hts := atoms_spec (ws := wf_c_X4_readSum_1) B.pre
  have hown : s.vm.findClass RX4 = some m.cls := findClass_of_methodNamed B.named
  have hlocks := B.notSynchronized
  subst hsz
  have hD := hD0.self (sz := s.heap.size)
  generalize hAe : va_A (wd_c_X4_readSum_1 h1 h1_0 h1_f1 h1_f2 h1_f3 h1_0 h1_0k h1_0c h0 h0_0 h0_f1 h0_2 h0_0 h0_0k h0_0c) s.heap.size = A at hD hE_10 hE_34 hE_33 hE_35 hE_36 ⊢
  have hA : ∀ q : Nat, s.heap.size ≤ q → A q := fun q h => by rw [← hAe]; exact Or.inr h
  have hP : va_P (dC, dI) vwCl (wd_c_X4_readSum_1 h1 h1_0 h1_f1 h1_f2 h1_f3 h1_0 h1_0k h1_0c h0 h0_0 h0_f1 h0_2 h0_0 h0_0k h0_0c) s.heap := hP
  have hl := lv_entry ([.ref h0, .ref h1, .int 1]) (n := 6) (Nat.le_of_ble_eq_true rfl)
  rw [lg_entry_eq]
  generalize (lg_sl ([.ref h0, .ref h1, .int 1]) ++ List.replicate (6 - (lg_sl ([.ref h0, .ref h1, .int 1])).length) Slot.unset).toArray = ls at hl ⊢
  have hl : lv_has ls 6 [(0, .ref h0), (1, .ref h1), (2, .int 1)] := hl
  obtain ⟨H, hHe⟩ : ∃ H : Heap, s.heap = H := ⟨_, rfl⟩
  have hS : va_S A s.heap H [] := by rw [hHe]; exact va_S.rf
  have hP : va_P (dC, dI) vwCl (wd_c_X4_readSum_1 h1 h1_0 h1_f1 h1_f2 h1_f3 h1_0 h1_0k h1_0c h0 h0_0 h0_f1 h0_2 h0_0 h0_0k h0_0c) H := by rw [← hHe]; exact hP
  rw [hHe]
  obtain ⟨RES, hR⟩ : ∃ z, fx_c_X4_readSum_1 h1_f1 h1_f2 h1_f3 h1_0c h0_f1 h0_0c = z := ⟨_, rfl⟩
  have hEX : RES = fx_c_X4_readSum_1 h1_f1 h1_f2 h1_f3 h1_0c h0_f1 h0_0c := hR.symm
  refine wj (fun G hG hU => ?_)
  as_aux_lemma =>
  have J8 : ∀ (n8 : Nat) (j8_l5 : Int32) (j8_l4 : Int32) (j8_l3 : Int32) (j8_h1_f2 : Int32) (j8_h1_f3 : Int32) (j8_h0_f1 : Int32) (j8_h0_0c : Nat → Int32) (hM8 : MU j8_l5 < n8) (g_h0_f1 : RG h0_f1 0 240) (g_h1_f1 : RG h1_f1 0 240) (g_h1_f2 : RG h1_f2 0 240) (g_h1_f3 : RG h1_f3 (-1) 240) (g_j8_h0_f1 : RG j8_h0_f1 0 240) (g_j8_h1_f2 : RG j8_h1_f2 0 240) (g_j8_h1_f3 : RG j8_h1_f3 (-1) 240) (g_j8_l3 : RG j8_l3 0 60) (g_j8_l4 : RG j8_l4 0 60) (g_j8_l5 : RG j8_l5 0 240) (hEX : RES = fx_c_X4_readSum_1_p8 h1_f1 h1_0c n8 j8_l5 j8_l4 j8_l3 j8_h1_f2 j8_h1_f3 j8_h0_f1 j8_h0_0c) (H : Heap) (locs : List Loc) (ls : Array Slot) (hP : va_P (dC, dI) vwCl (wd_c_X4_readSum_1 h1 h1_0 h1_f1 j8_h1_f2 j8_h1_f3 h1_0 h1_0k h1_0c h0 h0_0 j8_h0_f1 h0_2 h0_0 h0_0k j8_h0_0c) H) (hD : va_D A (wd_c_X4_readSum_1 h1 h1_0 h1_f1 j8_h1_f2 j8_h1_f3 h1_0 h1_0k h1_0c h0 h0_0 j8_h0_f1 h0_2 h0_0 h0_0k j8_h0_0c)) (hS : va_S A s.heap H locs) (hl : lv_has ls 6 [(5, .int j8_l5), (4, .int j8_l4), (3, .int j8_l3), (0, .ref h0), (1, .ref h1), (2, .int 1)]), G H locs (F0 m 8 ls []) := by
    as_aux_lemma =>
    intro n8
    induction n8 with
    | zero => intros; exact absurd (by assumption) (Nat.not_lt_zero _)
    | succ n8 ih8 =>
      intro j8_l5 j8_l4 j8_l3 j8_h1_f2 j8_h1_f3 j8_h0_f1 j8_h0_0c hM8 g_h0_f1 g_h1_f1 g_h1_f2 g_h1_f3 g_j8_h0_f1 g_j8_h1_f2 g_j8_h1_f3 g_j8_l3 g_j8_l4 g_j8_l5 hEX H locs ls hP hD hS hl
      have J80 : ∀ (j80_l3 : Int32) (j80_l4 : Int32) (j80_h1_f2 : Int32) (j80_h1_f3 : Int32) (j80_h0_f1 : Int32) (j80_h0_0c : Nat → Int32) (g_h0_f1 : RG h0_f1 0 240) (g_h1_f1 : RG h1_f1 0 240) (g_h1_f2 : RG h1_f2 0 240) (g_h1_f3 : RG h1_f3 (-1) 240) (g_j80_h0_f1 : RG j80_h0_f1 0 240) (g_j80_h1_f2 : RG j80_h1_f2 0 240) (g_j80_h1_f3 : RG j80_h1_f3 (-1) 240) (g_j80_l3 : RG j80_l3 0 60) (g_j80_l4 : RG j80_l4 0 60) (g_j8_h0_f1 : RG j8_h0_f1 0 240) (g_j8_h1_f2 : RG j8_h1_f2 0 240) (g_j8_h1_f3 : RG j8_h1_f3 (-1) (-1)) (g_j8_l3 : RG j8_l3 0 60) (g_j8_l4 : RG j8_l4 0 60) (g_j8_l5 : RG j8_l5 0 239) (hEX : RES = fx_c_X4_readSum_1_p80 j8_l5 (fx_c_X4_readSum_1_p8 h1_f1 h1_0c n8) j80_l3 j80_l4 j80_h1_f2 j80_h1_f3 j80_h0_f1 j80_h0_0c) (H : Heap) (locs : List Loc) (ls : Array Slot) (hP : va_P (dC, dI) vwCl (wd_c_X4_readSum_1 h1 h1_0 h1_f1 j80_h1_f2 j80_h1_f3 h1_0 h1_0k h1_0c h0 h0_0 j80_h0_f1 h0_2 h0_0 h0_0k j80_h0_0c) H) (hD : va_D A (wd_c_X4_readSum_1 h1 h1_0 h1_f1 j80_h1_f2 j80_h1_f3 h1_0 h1_0k h1_0c h0 h0_0 j80_h0_f1 h0_2 h0_0 h0_0k j80_h0_0c)) (hS : va_S A s.heap H locs) (hl : lv_has ls 6 [(3, .int j80_l3), (5, .int j8_l5), (4, .int j80_l4), (0, .ref h0), (1, .ref h1), (2, .int 1)]), G H locs (F0 m 80 ls []) := by
        as_aux_lemma =>
        intro j80_l3 j80_l4 j80_h1_f2 j80_h1_f3 j80_h0_f1 j80_h0_0c g_h0_f1 g_h1_f1 g_h1_f2 g_h1_f3 g_j80_h0_f1 g_j80_h1_f2 g_j80_h1_f3 g_j80_l3 g_j80_l4 g_j8_h0_f1 g_j8_h1_f2 g_j8_h1_f3 g_j8_l3 g_j8_l4 g_j8_l5 hEX H locs ls hP hD hS hl
        refine hG _ _ _ ?_
        obtain ⟨x_1, ex_1⟩ : ∃ y : Int32, y = j8_l5 + 1 := ⟨_, rfl⟩
        have g_2 : RG x_1 1 240 := RG_add ex_1 g_j8_l5 (RG_k 1 1 rfl) (by decide +kernel)
        replace hEX := hEX.trans (exl_eq ex_1)
        refine lv_iinc (v := x_1) (lv' := [(5, .int x_1), (3, .int j80_l3), (4, .int j80_l4), (0, .ref h0), (1, .ref h1), (2, .int 1)]) hx hb dX4_readSum_80 hl (k := 1) rfl (by rw [ex_1]; rfl) (Nat.le_of_ble_eq_true rfl) rfl (fun ls hl => ?_)
        refine lv_goto (tgt := 8) hx hb dX4_readSum_83 rfl ?_
        exact hU _ _ _ (ih8 x_1 j80_l4 j80_l3 j80_h1_f2 j80_h1_f3 j80_h0_f1 j80_h0_0c (mu_s (MU_add ex_1 g_j8_l5 (q := 1) rfl (by decide +kernel)) hM8) g_h0_f1 g_h1_f1 g_h1_f2 g_h1_f3 g_j80_h0_f1 g_j80_h1_f2 g_j80_h1_f3 g_j80_l3 g_j80_l4 (RG_w g_2 (by decide +kernel)) hEX _ _ _ hP hD hS (lv_sub hl [0, 2, 1, 3, 4, 5] rfl))
      have J64 : ∀ (j64_l3 : Int32) (j64_h1_f2 : Int32) (j64_h1_f3 : Int32) (j64_h0_f1 : Int32) (j64_h0_0c : Nat → Int32) (g_h0_f1 : RG h0_f1 0 240) (g_h1_f1 : RG h1_f1 0 240) (g_h1_f2 : RG h1_f2 0 240) (g_h1_f3 : RG h1_f3 (-1) 240) (g_j64_h0_f1 : RG j64_h0_f1 0 240) (g_j64_h1_f2 : RG j64_h1_f2 0 240) (g_j64_h1_f3 : RG j64_h1_f3 (-1) 240) (g_j64_l3 : RG j64_l3 0 0) (g_j8_h0_f1 : RG j8_h0_f1 0 240) (g_j8_h1_f2 : RG j8_h1_f2 0 240) (g_j8_h1_f3 : RG j8_h1_f3 (-1) (-1)) (g_j8_l3 : RG j8_l3 0 60) (g_j8_l4 : RG j8_l4 0 60) (g_j8_l5 : RG j8_l5 0 239) (hEX : RES = fx_c_X4_readSum_1_p64 h1_f1 h1_0c j8_l5 (fx_c_X4_readSum_1_p8 h1_f1 h1_0c n8) j64_l3 j64_h1_f2 j64_h1_f3 j64_h0_f1 j64_h0_0c) (H : Heap) (locs : List Loc) (ls : Array Slot) (hP : va_P (dC, dI) vwCl (wd_c_X4_readSum_1 h1 h1_0 h1_f1 j64_h1_f2 j64_h1_f3 h1_0 h1_0k h1_0c h0 h0_0 j64_h0_f1 h0_2 h0_0 h0_0k j64_h0_0c) H) (hD : va_D A (wd_c_X4_readSum_1 h1 h1_0 h1_f1 j64_h1_f2 j64_h1_f3 h1_0 h1_0k h1_0c h0 h0_0 j64_h0_f1 h0_2 h0_0 h0_0k j64_h0_0c)) (hS : va_S A s.heap H locs) (hl : lv_has ls 6 [(3, .int j64_l3), (5, .int j8_l5), (0, .ref h0), (1, .ref h1), (2, .int 1)]), G H locs (F0 m 64 ls []) := by
        as_aux_lemma =>
        intro j64_l3 j64_h1_f2 j64_h1_f3 j64_h0_f1 j64_h0_0c g_h0_f1 g_h1_f1 g_h1_f2 g_h1_f3 g_j64_h0_f1 g_j64_h1_f2 g_j64_h1_f3 g_j64_l3 g_j8_h0_f1 g_j8_h1_f2 g_j8_h1_f3 g_j8_l3 g_j8_l4 g_j8_l5 hEX H locs ls hP hD hS hl
        refine hG _ _ _ ?_
        refine lv_aload_n hx hb dX4_readSum_64 rfl (lv_at hl 3 rfl) ?_
        refine lv_bipush (v := 43) hx hb dX4_readSum_65 kc_bipush_43 ?_
        refine lv_bipush (v := 45) hx hb dX4_readSum_67 kc_bipush_45 ?_
        obtain ⟨hPc, hDc, hFc, hqc⟩ := cl_cut (wc := (wd_c_X9_takeEither h1 h1_0 h1_f1 j64_h1_f2 j64_h1_f3 h1_0 h1_0k h1_0c)) hP hD hS hA [0, 1] (by decide +kernel) rfl
        have hKc := hK.sub (tys' := [(h1_0k, .int)]) [0] rfl
        have hrv := va_recv hKc hPc (ci := 9) (q0 := 0) rfl rfl
        refine va_calli (va_runV (As := [.int 43, .int 45]) (rest := []) ⟨hx, hb, hml, hown, hts⟩ (c_X9_takeEither l dC dI H.size h1 43 45 h1_0 h1_f1 j64_h1_f2 j64_h1_f3 h1_0k h1_0c (RG_w (RG_k 43 43 rfl) (by decide +kernel)) (RG_w (RG_k 45 45 rfl) (by decide +kernel)) g_h1_f1 g_j64_h1_f2 g_j64_h1_f3 a_h1_0c) (cwV 2 hts gf_c_X4_readSum_1_c_X9_takeEither rfl rfl rfl mdV_X9_takeEither ⟨Nat.le_of_ble_eq_true rfl, Nat.le_of_ble_eq_true rfl⟩) ⟨fun a U g mk q => by obtain ⟨q0, q1, qP, qK, qD⟩ := q; exact ⟨q0, q1, qP, va_K.moved (u := U) (U := U.calling g mk a) (Vm.Alike.refl U.vm) qK, qD⟩, hrv, fun U hU hW => ⟨rfl, by rw [hU], by rw [hU]; exact hPc, va_K.moved hW.alike hKc, hDc.weaken (fun _ _ _ _ => trivial)⟩⟩ rfl rfl hl.1 rfl (lv_room (Nat.le_of_ble_eq_true rfl)) dX4_readSum_69 ⟨Nat.le_of_ble_eq_true rfl, Nat.le_of_ble_eq_true rfl⟩) hS (fun q _ h => hFc q h) hFc (fun r_3 x_4 t H1 locs ht hvm hw hB hz1 hk1 hS => ?_)
        obtain ⟨hP1, hK1, hD1⟩ := hB
        rw [ht] at hP1
        obtain ⟨hP, hD⟩ := cl_put (w1 := (wd_c_X9_takeEither h1 h1_0 h1_f1 x_4 j64_h1_f3 h1_0 h1_0k h1_0c)) (nw := (wd_c_X4_readSum_1 h1 h1_0 h1_f1 x_4 j64_h1_f3 h1_0 h1_0k h1_0c h0 h0_0 j64_h0_f1 h0_2 h0_0 h0_0k j64_h0_0c)) hP hD [0, 1] [4, 5, 2, 3] 4 rfl hqc (by decide +kernel) rfl hk1 hFc hP1 hD1
        generalize H1 = H at hP hS ⊢
        as_aux_lemma =>
        rcases hw with ⟨h_5, h_6, h_7, h_8⟩
        have h_8 : (r_3, x_4) = _ := h_8
        replace hEX := hEX.trans (exc2_eq h_8)
        refine lv_istore (lv' := [(4, .int r_3), (3, .int j64_l3), (5, .int j8_l5), (0, .ref h0), (1, .ref h1), (2, .int 1)]) hx hb dX4_readSum_72 hl (Nat.le_of_ble_eq_true rfl) rfl (fun ls hl => ?_)
        refine lv_iload hx hb dX4_readSum_74 (lv_at hl 0 rfl) ?_
        refine lv_if_ne (tgt := 80) hx hb dX4_readSum_76 rfl (fun c_9 => ?_) (fun c_9 => ?_)
        · replace hEX := hEX.trans (if_neg c_9)
          have g_10 : RG r_3 1 60 := RG_ne1 h_5 (q := 0) rfl c_9 (by decide +kernel)
          exact hU _ _ _ (J80 j64_l3 r_3 x_4 j64_h1_f3 j64_h0_f1 j64_h0_0c g_h0_f1 g_h1_f1 g_h1_f2 g_h1_f3 g_j64_h0_f1 h_6 g_j64_h1_f3 (RG_w g_j64_l3 (by decide +kernel)) (RG_w g_10 (by decide +kernel)) g_j8_h0_f1 g_j8_h1_f2 g_j8_h1_f3 g_j8_l3 g_j8_l4 g_j8_l5 hEX _ _ _ hP hD hS (lv_sub hl [1, 2, 0, 3, 4, 5] rfl))
        · replace hEX := hEX.trans (if_pos c_9)
          have g_11 : RG r_3 0 0 := RG_eq1 h_5 (RG_k 0 0 rfl) c_9 (by decide +kernel)
          have hK9 := hK.sub (tys' := []) [] rfl
          exact W.vret hx hb hr (fun t ht hW => ⟨⟨(x_4, j64_h1_f3, j64_h0_f1, j64_h0_0c), rfl, ⟨h_6, g_j64_h1_f3, g_j64_h0_f1, (hR.trans hEX).symm⟩, by rw [ht]; exact hP, va_K.moved hW.alike hK9, hD⟩, hS.F ht⟩) hS.2.2 dX4_readSum_79
      have J39 : ∀ (j39_h1_f2 : Int32) (j39_h1_f3 : Int32) (j39_h0_f1 : Int32) (j39_h0_0c : Nat → Int32) (g_h0_f1 : RG h0_f1 0 240) (g_h1_f1 : RG h1_f1 0 240) (g_h1_f2 : RG h1_f2 0 240) (g_h1_f3 : RG h1_f3 (-1) 240) (g_j39_h0_f1 : RG j39_h0_f1 0 240) (g_j39_h1_f2 : RG j39_h1_f2 0 240) (g_j39_h1_f3 : RG j39_h1_f3 (-1) 240) (g_j8_h0_f1 : RG j8_h0_f1 0 240) (g_j8_h1_f2 : RG j8_h1_f2 0 240) (g_j8_h1_f3 : RG j8_h1_f3 (-1) (-1)) (g_j8_l3 : RG j8_l3 0 60) (g_j8_l4 : RG j8_l4 0 60) (g_j8_l5 : RG j8_l5 0 239) (hEX : RES = fx_c_X4_readSum_1_p39 h1_f1 h1_0c j8_l5 j8_l4 (fx_c_X4_readSum_1_p8 h1_f1 h1_0c n8) j39_h1_f2 j39_h1_f3 j39_h0_f1 j39_h0_0c) (H : Heap) (locs : List Loc) (ls : Array Slot) (hP : va_P (dC, dI) vwCl (wd_c_X4_readSum_1 h1 h1_0 h1_f1 j39_h1_f2 j39_h1_f3 h1_0 h1_0k h1_0c h0 h0_0 j39_h0_f1 h0_2 h0_0 h0_0k j39_h0_0c) H) (hD : va_D A (wd_c_X4_readSum_1 h1 h1_0 h1_f1 j39_h1_f2 j39_h1_f3 h1_0 h1_0k h1_0c h0 h0_0 j39_h0_f1 h0_2 h0_0 h0_0k j39_h0_0c)) (hS : va_S A s.heap H locs) (hl : lv_has ls 6 [(5, .int j8_l5), (4, .int j8_l4), (0, .ref h0), (1, .ref h1), (2, .int 1)]), G H locs (F0 m 39 ls []) := by
        as_aux_lemma =>
        intro j39_h1_f2 j39_h1_f3 j39_h0_f1 j39_h0_0c g_h0_f1 g_h1_f1 g_h1_f2 g_h1_f3 g_j39_h0_f1 g_j39_h1_f2 g_j39_h1_f3 g_j8_h0_f1 g_j8_h1_f2 g_j8_h1_f3 g_j8_l3 g_j8_l4 g_j8_l5 hEX H locs ls hP hD hS hl
        refine hG _ _ _ ?_
        refine lv_aload_n hx hb dX4_readSum_39 rfl (lv_at hl 3 rfl) ?_
        refine lv_bipush (v := 42) hx hb dX4_readSum_40 kc_bipush_42 ?_
        refine lv_bipush (v := 47) hx hb dX4_readSum_42 kc_bipush_47 ?_
        obtain ⟨hPc, hDc, hFc, hqc⟩ := cl_cut (wc := (wd_c_X9_takeEither h1 h1_0 h1_f1 j39_h1_f2 j39_h1_f3 h1_0 h1_0k h1_0c)) hP hD hS hA [0, 1] (by decide +kernel) rfl
        have hKc := hK.sub (tys' := [(h1_0k, .int)]) [0] rfl
        have hrv := va_recv hKc hPc (ci := 9) (q0 := 0) rfl rfl
        refine va_calli (va_runV (As := [.int 42, .int 47]) (rest := []) ⟨hx, hb, hml, hown, hts⟩ (c_X9_takeEither l dC dI H.size h1 42 47 h1_0 h1_f1 j39_h1_f2 j39_h1_f3 h1_0k h1_0c (RG_w (RG_k 42 42 rfl) (by decide +kernel)) (RG_w (RG_k 47 47 rfl) (by decide +kernel)) g_h1_f1 g_j39_h1_f2 g_j39_h1_f3 a_h1_0c) (cwV 2 hts gf_c_X4_readSum_1_c_X9_takeEither rfl rfl rfl mdV_X9_takeEither ⟨Nat.le_of_ble_eq_true rfl, Nat.le_of_ble_eq_true rfl⟩) ⟨fun a U g mk q => by obtain ⟨q0, q1, qP, qK, qD⟩ := q; exact ⟨q0, q1, qP, va_K.moved (u := U) (U := U.calling g mk a) (Vm.Alike.refl U.vm) qK, qD⟩, hrv, fun U hU hW => ⟨rfl, by rw [hU], by rw [hU]; exact hPc, va_K.moved hW.alike hKc, hDc.weaken (fun _ _ _ _ => trivial)⟩⟩ rfl rfl hl.1 rfl (lv_room (Nat.le_of_ble_eq_true rfl)) dX4_readSum_44 ⟨Nat.le_of_ble_eq_true rfl, Nat.le_of_ble_eq_true rfl⟩) hS (fun q _ h => hFc q h) hFc (fun r_12 x_13 t H1 locs ht hvm hw hB hz1 hk1 hS => ?_)
        obtain ⟨hP1, hK1, hD1⟩ := hB
        rw [ht] at hP1
        obtain ⟨hP, hD⟩ := cl_put (w1 := (wd_c_X9_takeEither h1 h1_0 h1_f1 x_13 j39_h1_f3 h1_0 h1_0k h1_0c)) (nw := (wd_c_X4_readSum_1 h1 h1_0 h1_f1 x_13 j39_h1_f3 h1_0 h1_0k h1_0c h0 h0_0 j39_h0_f1 h0_2 h0_0 h0_0k j39_h0_0c)) hP hD [0, 1] [4, 5, 2, 3] 4 rfl hqc (by decide +kernel) rfl hk1 hFc hP1 hD1
        generalize H1 = H at hP hS ⊢
        as_aux_lemma =>
        rcases hw with ⟨h_14, h_15, h_16, h_17⟩
        have h_17 : (r_12, x_13) = _ := h_17
        replace hEX := hEX.trans (exc2_eq h_17)
        refine lv_istore_n (lv' := [(3, .int r_12), (5, .int j8_l5), (4, .int j8_l4), (0, .ref h0), (1, .ref h1), (2, .int 1)]) hx hb dX4_readSum_47 rfl hl (Nat.le_of_ble_eq_true rfl) rfl (fun ls hl => ?_)
        refine lv_iload_n hx hb dX4_readSum_48 rfl (lv_at hl 0 rfl) ?_
        refine lv_if_ne (tgt := 80) hx hb dX4_readSum_49 rfl (fun c_18 => ?_) (fun c_18 => ?_)
        · replace hEX := hEX.trans (if_neg c_18)
          have g_19 : RG r_12 1 60 := RG_ne1 h_14 (q := 0) rfl c_18 (by decide +kernel)
          exact hU _ _ _ (J80 r_12 j8_l4 x_13 j39_h1_f3 j39_h0_f1 j39_h0_0c g_h0_f1 g_h1_f1 g_h1_f2 g_h1_f3 g_j39_h0_f1 h_15 g_j39_h1_f3 (RG_w g_19 (by decide +kernel)) g_j8_l4 g_j8_h0_f1 g_j8_h1_f2 g_j8_h1_f3 g_j8_l3 g_j8_l4 g_j8_l5 hEX _ _ _ hP hD hS (lv_sub hl [0, 1, 2, 3, 4, 5] rfl))
        · replace hEX := hEX.trans (if_pos c_18)
          have g_20 : RG r_12 0 0 := RG_eq1 h_14 (RG_k 0 0 rfl) c_18 (by decide +kernel)
          refine lv_iload hx hb dX4_readSum_52 (lv_at hl 2 rfl) ?_
          refine lv_if_eq (tgt := 64) hx hb dX4_readSum_54 rfl (fun c_21 => ?_) (fun c_21 => ?_)
          · replace hEX := hEX.trans (if_pos c_21)
            have g_22 : RG j8_l4 0 0 := RG_eq1 g_j8_l4 (RG_k 0 0 rfl) c_21 (by decide +kernel)
            exact hU _ _ _ (J64 r_12 x_13 j39_h1_f3 j39_h0_f1 j39_h0_0c g_h0_f1 g_h1_f1 g_h1_f2 g_h1_f3 g_j39_h0_f1 h_15 g_j39_h1_f3 g_20 g_j8_h0_f1 g_j8_h1_f2 g_j8_h1_f3 g_j8_l3 (RG_w g_22 (by decide +kernel)) g_j8_l5 hEX _ _ _ hP hD hS (lv_sub hl [0, 1, 3, 4, 5] rfl))
          · replace hEX := hEX.trans (if_neg c_21)
            have g_23 : RG j8_l4 1 60 := RG_ne1 g_j8_l4 (q := 0) rfl c_21 (by decide +kernel)
            refine lv_aload_n hx hb dX4_readSum_57 rfl (lv_at hl 3 rfl) ?_
            as_aux_lemma =>
            refine lv_iload hx hb dX4_readSum_58 (lv_at hl 2 rfl) ?_
            refine lv_ineg hx hb dX4_readSum_60 ?_
            refine lv_topi (fun x_24 ex_24 => ?_)
            replace hEX := hEX.trans (exl_eq ex_24)
            have g_25 : RG x_24 (-60) (-1) := RG_neg ex_24 g_23 (by decide +kernel)
            obtain ⟨hPc, hDc, hFc, hqc⟩ := cl_cut (wc := (wd_c_X4_emit h0 h0_0 j39_h0_f1 h0_2 h0_0 h0_0k j39_h0_0c)) hP hD hS hA [2, 3] (by decide +kernel) rfl
            have hKc := hK.sub (tys' := [(h0_0k, .int)]) [1] rfl
            have hrv := va_recv hKc hPc (ci := 4) (q0 := 0) rfl rfl
            refine va_callv (va_runV (As := [.int x_24]) (rest := []) ⟨hx, hb, hml, hown, hts⟩ (c_X4_emit l dC dI H.size h0 x_24 h0_0 j39_h0_f1 h0_2 h0_0k j39_h0_0c g_j39_h0_f1) (cwV 1 hts gf_c_X4_readSum_1_c_X4_emit rfl rfl rfl mdV_X4_emit ⟨Nat.le_of_ble_eq_true rfl, Nat.le_of_ble_eq_true rfl⟩) ⟨fun a U g mk q => by obtain ⟨q0, q1, qP, qK, qD⟩ := q; exact ⟨q0, q1, qP, va_K.moved (u := U) (U := U.calling g mk a) (Vm.Alike.refl U.vm) qK, qD⟩, hrv, fun U hU hW => ⟨rfl, by rw [hU], by rw [hU]; exact hPc, va_K.moved hW.alike hKc, hDc.weaken (fun _ _ _ _ => trivial)⟩⟩ rfl rfl hl.1 rfl (lv_room (Nat.le_of_ble_eq_true rfl)) dX4_readSum_61 ⟨Nat.le_of_ble_eq_true rfl, Nat.le_of_ble_eq_true rfl⟩) hS (fun q _ h => hFc q h) hFc (fun u t H1 locs ht hvm hw hB hz1 hk1 hS => ?_)
            obtain ⟨x_27, w_28⟩ := u
            obtain ⟨hP1, hK1, hD1⟩ := hB
            rw [ht] at hP1
            obtain ⟨hP, hD⟩ := cl_put (w1 := (wd_c_X4_emit h0 h0_0 x_27 h0_2 h0_0 h0_0k w_28)) (nw := (wd_c_X4_readSum_1 h1 h1_0 h1_f1 x_13 j39_h1_f3 h1_0 h1_0k h1_0c h0 h0_0 x_27 h0_2 h0_0 h0_0k w_28)) hP hD [2, 3] [0, 1, 4, 5] 4 rfl hqc (by decide +kernel) rfl hk1 hFc hP1 hD1
            generalize H1 = H at hP hS ⊢
            as_aux_lemma =>
            rcases hw with ⟨h_29, h_30⟩
            have h_30 : (x_27, w_28) = _ := h_30
            replace hEX := hEX.trans (exc2_eq h_30)
            exact hU _ _ _ (J64 r_12 x_13 j39_h1_f3 x_27 w_28 g_h0_f1 g_h1_f1 g_h1_f2 g_h1_f3 (RG_w h_29 (by decide +kernel)) h_15 g_j39_h1_f3 g_20 g_j8_h0_f1 g_j8_h1_f2 g_j8_h1_f3 g_j8_l3 (RG_w g_23 (by decide +kernel)) g_j8_l5 hEX _ _ _ hP hD hS (lv_sub hl [0, 1, 3, 4, 5] rfl))
      refine hG _ _ _ ?_
      replace hEX := hEX.trans (if_pos (rfl : j8_l5 = j8_l5))
      refine lv_iload hx hb dX4_readSum_8 (lv_at hl 0 rfl) ?_
      refine lv_sipush (v := 240) hx hb dX4_readSum_10 kc_sipush_240 ?_
      refine lv_icmp_ge (tgt := 86) hx hb dX4_readSum_13 rfl (fun c_31 => ?_) (fun c_31 => ?_)
      · replace hEX := hEX.trans (if_pos c_31)
        have g_32 : RG j8_l5 240 240 := RG_le2 (RG_k 240 240 rfl) g_j8_l5 c_31 (by decide +kernel)
        have hK9 := hK.sub (tys' := []) [] rfl
        exact W.vret hx hb hr (fun t ht hW => ⟨⟨(j8_h1_f2, j8_h1_f3, j8_h0_f1, j8_h0_0c), rfl, ⟨g_j8_h1_f2, g_j8_h1_f3, g_j8_h0_f1, (hR.trans hEX).symm⟩, by rw [ht]; exact hP, va_K.moved hW.alike hK9, hD⟩, hS.F ht⟩) hS.2.2 dX4_readSum_86
      · replace hEX := hEX.trans (if_neg c_31)
        have d_33 := Int32.not_le.mp c_31
        have g_34 : RG j8_l5 0 239 := RG_lt1 g_j8_l5 (RG_k 240 240 rfl) d_33 (by decide +kernel)
        refine lv_aload_n hx hb dX4_readSum_16 rfl (lv_at hl 4 rfl) ?_
        as_aux_lemma =>
        obtain ⟨hPc, hDc, hFc, hqc⟩ := cl_cut (wc := (wd_c_X9_isRight h1 h1_0 h1_f1 j8_h1_f2 j8_h1_f3)) hP hD hS hA [0] (by decide +kernel) rfl
        have hKc := hK.sub (tys' := []) [] rfl
        have hrv := va_recv hKc hPc (ci := 9) (q0 := 0) rfl rfl
        refine va_calli (va_runV (As := []) (rest := []) ⟨hx, hb, hml, hown, hts⟩ (c_X9_isRight l dC dI H.size h1 h1_0 h1_f1 j8_h1_f2 j8_h1_f3 g_h1_f1 g_j8_h1_f2 g_j8_h1_f3) (cwV 0 hts gf_c_X4_readSum_1_c_X9_isRight rfl rfl rfl mdV_X9_isRight ⟨Nat.le_of_ble_eq_true rfl, Nat.le_of_ble_eq_true rfl⟩) ⟨fun a U g mk q => by obtain ⟨q0, q1, qP, qK, qD⟩ := q; exact ⟨q0, q1, qP, va_K.moved (u := U) (U := U.calling g mk a) (Vm.Alike.refl U.vm) qK, qD⟩, hrv, fun U hU hW => ⟨rfl, by rw [hU], by rw [hU]; exact hPc, va_K.moved hW.alike hKc, hDc.weaken (fun _ _ _ _ => trivial)⟩⟩ rfl rfl hl.1 rfl (lv_room (Nat.le_of_ble_eq_true rfl)) dX4_readSum_17 ⟨Nat.le_of_ble_eq_true rfl, Nat.le_of_ble_eq_true rfl⟩) hS (fun q _ h => hFc q h) hFc (fun r_35 u t H1 locs ht hvm hw hB hz1 hk1 hS => ?_)
        obtain ⟨hP1, hK1, hD1⟩ := hB
        rw [ht] at hP1
        obtain ⟨hP, hD⟩ := cl_put (w1 := (wd_c_X9_isRight h1 h1_0 h1_f1 j8_h1_f2 j8_h1_f3)) (nw := (wd_c_X4_readSum_1 h1 h1_0 h1_f1 j8_h1_f2 j8_h1_f3 h1_0 h1_0k h1_0c h0 h0_0 j8_h0_f1 h0_2 h0_0 h0_0k j8_h0_0c)) hP hD [0] [4, 1, 2, 3] 4 rfl hqc (by decide +kernel) rfl hk1 hFc hP1 hD1
        generalize H1 = H at hP hS ⊢
        as_aux_lemma =>
        rcases hw with ⟨h_36, h_37, h_38⟩ | ⟨h_39, h_40, h_41⟩
        · have h_38 : r_35 = _ := h_38
          replace hEX := hEX.trans (exc1_eq h_38)
          replace hEX := hEX.trans (if_pos (show r_35 = 0 from h_36))
          rw [h_36]
          refine lv_if_eq (tgt := 86) hx hb dX4_readSum_20 rfl (fun c_42 => ?_) (fun c_42 => absurd c_42 (by decide +kernel))
          have hK9 := hK.sub (tys' := []) [] rfl
          exact W.vret hx hb hr (fun t ht hW => ⟨⟨(j8_h1_f2, j8_h1_f3, j8_h0_f1, j8_h0_0c), rfl, ⟨g_j8_h1_f2, (RG_w h_37 (by decide +kernel)), g_j8_h0_f1, (hR.trans hEX).symm⟩, by rw [ht]; exact hP, va_K.moved hW.alike hK9, hD⟩, hS.F ht⟩) hS.2.2 dX4_readSum_86
        · have h_41 : r_35 = _ := h_41
          replace hEX := hEX.trans (exc1_eq h_41)
          replace hEX := hEX.trans (if_neg (fun q9 : r_35 = 0 => absurd ((show r_35 = 1 from h_39).symm.trans q9) (by decide +kernel)))
          rw [h_39]
          refine lv_if_eq (tgt := 86) hx hb dX4_readSum_20 rfl (fun c_43 => absurd c_43 (by decide +kernel)) (fun c_43 => ?_)
          refine lv_aload_n hx hb dX4_readSum_23 rfl (lv_at hl 3 rfl) ?_
          as_aux_lemma =>
          refine lv_aload_n hx hb dX4_readSum_24 rfl (lv_at hl 4 rfl) ?_
          refine lv_iload_n hx hb dX4_readSum_25 rfl (lv_at hl 5 rfl) ?_
          obtain ⟨hPc, hDc, hFc, hqc⟩ := cl_cut (wc := (wd_c_X4_readAtom_1 h1 h1_0 h1_f1 j8_h1_f2 j8_h1_f3 h1_0 h1_0k h1_0c h0 h0_0 j8_h0_f1 h0_2 h0_0 h0_0k j8_h0_0c)) hP hD hS hA [0, 1, 2, 3] (by decide +kernel) rfl
          have hKc := hK.sub (tys' := [(h1_0k, .int), (h0_0k, .int)]) [0, 1] rfl
          have hrv := va_recv hKc hPc (ci := 4) (q0 := 2) rfl rfl
          refine va_callv (va_runV (As := [.ref h1, .int 1]) (rest := []) ⟨hx, hb, hml, hown, hts⟩ (c_X4_readAtom_1 l dC dI H.size h0 h1 h1_0 h1_f1 j8_h1_f2 j8_h1_f3 h1_0k h1_0c h0_0 j8_h0_f1 h0_2 h0_0k j8_h0_0c ts4 tv4 g_h1_f1 g_j8_h1_f2 (RG_w h_40 (by decide +kernel)) a_h1_0c g_j8_h0_f1) (cwV 2 hts gf_c_X4_readSum_1_c_X4_readAtom_1 rfl rfl rfl mdV_X4_readAtom ⟨Nat.le_of_ble_eq_true rfl, Nat.le_of_ble_eq_true rfl⟩) ⟨fun a U g mk q => by obtain ⟨q0, q1, qP, qK, qD, qE0, qE1, qE2, qE3, qE4, qE5⟩ := q; exact ⟨q0, q1, qP, va_K.moved (u := U) (U := U.calling g mk a) (Vm.Alike.refl U.vm) qK, qD, vk_R.same rfl qE0, va_Z.moved (u := U) (U := U.calling g mk a) (Vm.Alike.refl U.vm) qE1, va_OF.moved (u := U) (U := U.calling g mk a) (Vm.Alike.refl U.vm) qE2, va_O.moved (u := U) (U := U.calling g mk a) (Vm.Alike.refl U.vm) qE3, va_OF.moved (u := U) (U := U.calling g mk a) (Vm.Alike.refl U.vm) qE4, va_T.moved (u := U) (U := U.calling g mk a) (Vm.Alike.refl U.vm) qE5⟩, hrv, fun U hU hW => ⟨rfl, by rw [hU], by rw [hU]; exact hPc, va_K.moved hW.alike hKc, hDc.weaken (fun _ _ _ _ => trivial), vk_R.warm hW hE_32, va_Z.moved hW.alike (by rw [hU]; exact (hE_10.kept hS.2.1).narrow hFc), va_OF.moved hW.alike (by rw [hU]; exact (hE_34.kept hS.2.1).narrow hFc), va_O.moved hW.alike (by rw [hU]; exact (hE_33.kept hS.2.1).narrow hFc), va_OF.moved hW.alike (by rw [hU]; exact (hE_35.kept hS.2.1).narrow hFc), va_T.moved hW.alike (by rw [hU]; exact (hE_36.kept hS.2.1).narrow hFc)⟩⟩ rfl rfl hl.1 rfl (lv_room (Nat.le_of_ble_eq_true rfl)) dX4_readSum_26 ⟨Nat.le_of_ble_eq_true rfl, Nat.le_of_ble_eq_true rfl⟩) hS (fun q _ h => hFc q h) hFc (fun u t H1 locs ht hvm hw hB hz1 hk1 hS => ?_)
          obtain ⟨x_45, x_46, x_47, w_48⟩ := u
          obtain ⟨hP1, hK1, hD1⟩ := hB
          rw [ht] at hP1
          obtain ⟨hP, hD⟩ := cl_put (w1 := (wd_c_X4_readAtom_1 h1 h1_0 h1_f1 x_45 x_46 h1_0 h1_0k h1_0c h0 h0_0 x_47 h0_2 h0_0 h0_0k w_48)) (nw := (wd_c_X4_readSum_1 h1 h1_0 h1_f1 x_45 x_46 h1_0 h1_0k h1_0c h0 h0_0 x_47 h0_2 h0_0 h0_0k w_48)) hP hD [0, 1, 2, 3] [4, 5, 6, 7] 4 rfl hqc (by decide +kernel) rfl hk1 hFc hP1 hD1
          generalize H1 = H at hP hS ⊢
          as_aux_lemma =>
          rcases hw with ⟨h_49, h_50, h_51, h_52⟩
          have h_52 : (x_45, x_46, x_47, w_48) = _ := h_52
          replace hEX := hEX.trans (exc4_eq h_52)
          refine lv_iload_n hx hb dX4_readSum_29 rfl (lv_at hl 2 rfl) ?_
          refine lv_if_eq (tgt := 39) hx hb dX4_readSum_30 rfl (fun c_53 => ?_) (fun c_53 => ?_)
          · replace hEX := hEX.trans (if_pos c_53)
            have g_54 : RG j8_l3 0 0 := RG_eq1 g_j8_l3 (RG_k 0 0 rfl) c_53 (by decide +kernel)
            exact hU _ _ _ (J39 x_45 x_46 x_47 w_48 g_h0_f1 g_h1_f1 g_h1_f2 g_h1_f3 h_51 h_49 h_50 g_j8_h0_f1 g_j8_h1_f2 h_40 (RG_w g_54 (by decide +kernel)) g_j8_l4 g_34 hEX _ _ _ hP hD hS (lv_sub hl [0, 1, 3, 4, 5] rfl))
          · replace hEX := hEX.trans (if_neg c_53)
            have g_55 : RG j8_l3 1 60 := RG_ne1 g_j8_l3 (q := 0) rfl c_53 (by decide +kernel)
            refine lv_aload_n hx hb dX4_readSum_33 rfl (lv_at hl 3 rfl) ?_
            refine lv_iload_n hx hb dX4_readSum_34 rfl (lv_at hl 2 rfl) ?_
            refine lv_ineg hx hb dX4_readSum_35 ?_
            refine lv_topi (fun x_56 ex_56 => ?_)
            as_aux_lemma =>
            replace hEX := hEX.trans (exl_eq ex_56)
            have g_57 : RG x_56 (-60) (-1) := RG_neg ex_56 g_55 (by decide +kernel)
            obtain ⟨hPc, hDc, hFc, hqc⟩ := cl_cut (wc := (wd_c_X4_emit h0 h0_0 x_47 h0_2 h0_0 h0_0k w_48)) hP hD hS hA [2, 3] (by decide +kernel) rfl
            have hKc := hK.sub (tys' := [(h0_0k, .int)]) [1] rfl
            have hrv := va_recv hKc hPc (ci := 4) (q0 := 0) rfl rfl
            refine va_callv (va_runV (As := [.int x_56]) (rest := []) ⟨hx, hb, hml, hown, hts⟩ (c_X4_emit l dC dI H.size h0 x_56 h0_0 x_47 h0_2 h0_0k w_48 h_51) (cwV 1 hts gf_c_X4_readSum_1_c_X4_emit rfl rfl rfl mdV_X4_emit ⟨Nat.le_of_ble_eq_true rfl, Nat.le_of_ble_eq_true rfl⟩) ⟨fun a U g mk q => by obtain ⟨q0, q1, qP, qK, qD⟩ := q; exact ⟨q0, q1, qP, va_K.moved (u := U) (U := U.calling g mk a) (Vm.Alike.refl U.vm) qK, qD⟩, hrv, fun U hU hW => ⟨rfl, by rw [hU], by rw [hU]; exact hPc, va_K.moved hW.alike hKc, hDc.weaken (fun _ _ _ _ => trivial)⟩⟩ rfl rfl hl.1 rfl (lv_room (Nat.le_of_ble_eq_true rfl)) dX4_readSum_36 ⟨Nat.le_of_ble_eq_true rfl, Nat.le_of_ble_eq_true rfl⟩) hS (fun q _ h => hFc q h) hFc (fun u t H1 locs ht hvm hw hB hz1 hk1 hS => ?_)
            obtain ⟨x_59, w_60⟩ := u
            obtain ⟨hP1, hK1, hD1⟩ := hB
            rw [ht] at hP1
            obtain ⟨hP, hD⟩ := cl_put (w1 := (wd_c_X4_emit h0 h0_0 x_59 h0_2 h0_0 h0_0k w_60)) (nw := (wd_c_X4_readSum_1 h1 h1_0 h1_f1 x_45 x_46 h1_0 h1_0k h1_0c h0 h0_0 x_59 h0_2 h0_0 h0_0k w_60)) hP hD [2, 3] [0, 1, 4, 5] 4 rfl hqc (by decide +kernel) rfl hk1 hFc hP1 hD1
            generalize H1 = H at hP hS ⊢
            as_aux_lemma =>
            rcases hw with ⟨h_61, h_62⟩
            have h_62 : (x_59, w_60) = _ := h_62
            replace hEX := hEX.trans (exc2_eq h_62)
            exact hU _ _ _ (J39 x_45 x_46 x_59 w_60 g_h0_f1 g_h1_f1 g_h1_f2 g_h1_f3 (RG_w h_61 (by decide +kernel)) h_49 h_50 g_j8_h0_f1 g_j8_h1_f2 h_40 (RG_w g_55 (by decide +kernel)) g_j8_l4 g_34 hEX _ _ _ hP hD hS (lv_sub hl [0, 1, 3, 4, 5] rfl))
  refine hG _ _ _ ?_
  refine lv_iconst (v := 0) hx hb dX4_readSum_0 kc_iconst_0 ?_
  refine lv_istore_n (lv' := [(3, .int 0), (0, .ref h0), (1, .ref h1), (2, .int 1)]) hx hb dX4_readSum_1 rfl hl (Nat.le_of_ble_eq_true rfl) rfl (fun ls hl => ?_)
  refine lv_iconst (v := 0) hx hb dX4_readSum_2 kc_iconst_0 ?_
  refine lv_istore (lv' := [(4, .int 0), (3, .int 0), (0, .ref h0), (1, .ref h1), (2, .int 1)]) hx hb dX4_readSum_3 hl (Nat.le_of_ble_eq_true rfl) rfl (fun ls hl => ?_)
  refine lv_iconst (v := 0) hx hb dX4_readSum_5 kc_iconst_0 ?_
  refine lv_istore (lv' := [(5, .int 0), (4, .int 0), (3, .int 0), (0, .ref h0), (1, .ref h1), (2, .int 1)]) hx hb dX4_readSum_6 hl (Nat.le_of_ble_eq_true rfl) rfl (fun ls hl => ?_)
  exact hU _ _ _ (J8 exF 0 0 0 h1_f2 h1_f3 h0_f1 h0_0c MU_F g_h0_f1 g_h1_f1 g_h1_f2 g_h1_f3 g_h0_f1 g_h1_f2 g_h1_f3 (RG_w (RG_k 0 0 rfl) (by decide +kernel)) (RG_w (RG_k 0 0 rfl) (by decide +kernel)) (RG_w (RG_k 0 0 rfl) (by decide +kernel)) hEX _ _ _ hP hD hS (lv_sub hl [0, 1, 2, 3, 4, 5] rfl))
noncomputable def wd_c_X4_readAtom (a0 : Nat) (a1 : Nat) (a2 : Int32) (a3 : Int32) (a4 : Int32) (a5 : Nat) (a6 : ClassId) (a7 : Nat → Int32) (a8 : Nat) (a9 : Nat) (a10 : Int32) (a11 : Nat) (a12 : Nat) (a13 : ClassId) (a14 : Nat → Int32) : va_W := [(a0, .inr (9, [.ref a1, .int a2, .int a3, .int a4])), (a5, .inl (a6, 240, .inl a7)), (a8, .inr (4, [.ref a9, .int a10, .ref a11])), (a12, .inl (a13, 240, .inl a14))]
noncomputable def wf_c_X4_readAtom : List Cond := List.cons (.code yX4_readAtom cX4_readAtom 6 none) (@HAppend.hAppend (List Cond) (List Cond) (List Cond) _ (@HAppend.hAppend (List Cond) (List Cond) (List Cond) _ [.methodLink RX4 41 yX9_peek, .instanceMethod yX9_peek, .selects RX9 yX9_peek yX9_peek, .initialized RX9, .code yX9_peek cX9_peek 1 (some .int), .fieldLink RX9 22 "BuoyVote$Tape" "at" "I", .fieldLink RX9 19 "BuoyVote$Tape" "length" "I", .fieldLink RX9 11 "BuoyVote$Tape" "bytes" "[I", .methodLink RX4 93 yJ0_indexOf_0f7a4, .instanceMethod yJ0_indexOf_0f7a4, .selects RJ0 yJ0_indexOf_0f7a4 yJ0_indexOf_0f7a4, .initialized RJ0, .code yJ0_indexOf_0f7a4 cJ0_indexOf_0f7a4 2 (some .int), .methodLink RJ0 633 yJ0_indexOf_7cf53, .instanceMethod yJ0_indexOf_7cf53, .selects RJ0 yJ0_indexOf_7cf53 yJ0_indexOf_7cf53, .code yJ0_indexOf_7cf53 cJ0_indexOf_7cf53 3 (some .int), .methodLink RJ0 492 yJ0_isLatin1_aae02, .instanceMethod yJ0_isLatin1_aae02, .selects RJ0 yJ0_isLatin1_aae02 yJ0_isLatin1_aae02, .code yJ0_isLatin1_aae02 cJ0_isLatin1_aae02 1 (some .boolean), .fieldLink RJ0 38 "java/lang/String" "COMPACT_STRINGS" "Z", .fieldLink RJ0 15 "java/lang/String" "coder" "B", .fieldLink RJ0 9 "java/lang/String" "value" "[B", .methodLink RJ0 505 yJ0_length_8abf5, .instanceMethod yJ0_length_8abf5, .selects RJ0 yJ0_length_8abf5 yJ0_length_8abf5, .code yJ0_length_8abf5 cJ0_length_8abf5 1 (some .int), .methodLink RJ0 335 yJ0_coder_7d493, .instanceMethod yJ0_coder_7d493, .selects RJ0 yJ0_coder_7d493 yJ0_coder_7d493, .code yJ0_coder_7d493 cJ0_coder_7d493 1 (some .byte), .methodLink RJ0 637 yJ1_indexOf_4cfef, .static yJ1_indexOf_4cfef, .initialized RJ1, .code yJ1_indexOf_4cfef cJ1_indexOf_4cfef 4 (some .int), .methodLink RJ1 88 yJ1_canEncode_9a6ad, .static yJ1_canEncode_9a6ad, .code yJ1_canEncode_9a6ad cJ1_canEncode_9a6ad 1 (some .boolean), .methodLink RJ1 92 Lib.Math.max.name, .static Lib.Math.max.name, .initialized "java/lang/Math", .code Lib.Math.max.name Lib.Math.max.code 2 (some .int), .methodLink RJ1 38 Lib.Math.min.name, .static Lib.Math.min.name, .code Lib.Math.min.name Lib.Math.min.code 2 (some .int), .methodLink RJ1 95 yJ1_indexOfChar_4cfef, .static yJ1_indexOfChar_4cfef, .code yJ1_indexOfChar_4cfef cJ1_indexOfChar_4cfef 6 (some .int), .methodLink RX4 99 yX9_number, .instanceMethod yX9_number, .selects RX9 yX9_number yX9_number, .code yX9_number cX9_number 4 (some .int), .methodLink RX4 82 yX9_refuseHere, .instanceMethod yX9_refuseHere, .selects RX9 yX9_refuseHere yX9_refuseHere, .code yX9_refuseHere cX9_refuseHere 1 none, .methodLink RX9 25 yX9_refuse, .instanceMethod yX9_refuse, .selects RX9 yX9_refuse yX9_refuse, .code yX9_refuse cX9_refuse 2 none, .fieldLink RX9 15 "BuoyVote$Tape" "wrong" "I", .methodLink RX4 79 yX9_skip, .instanceMethod yX9_skip, .selects RX9 yX9_skip yX9_skip, .code yX9_skip cX9_skip 1 none, .methodLink RX4 49 yX4_readSum, .instanceMethod yX4_readSum, .selects RX4 yX4_readSum yX4_readSum, .initialized RX4, .code yX4_readSum cX4_readSum 6 none, .methodLink RX4 72 yX9_isRight, .instanceMethod yX9_isRight, .selects RX9 yX9_isRight yX9_isRight, .code yX9_isRight cX9_isRight 1 (some .boolean), .methodLink RX4 85 yX4_readAtom, .instanceMethod yX4_readAtom, .selects RX4 yX4_readAtom yX4_readAtom, .methodLink RX4 60 yX4_emit, .instanceMethod yX4_emit, .selects RX4 yX4_emit yX4_emit, .code yX4_emit cX4_emit 2 none, .fieldLink RX4 20 "BuoyVote$Law" "length" "I", .fieldLink RX4 11 "BuoyVote$Law" "code" "[I", .methodLink RX4 88 yX9_takeEither, .instanceMethod yX9_takeEither, .selects RX9 yX9_takeEither yX9_takeEither, .code yX9_takeEither cX9_takeEither 4 (some .int), .methodLink RX9 29 yX9_peek, .methodLink RX4 37 yX9_expect, .instanceMethod yX9_expect, .selects RX9 yX9_expect yX9_expect, .code yX9_expect cX9_expect 2 none] wsX90) wsX40)
theorem iw_c_X4_readAtom_X9 : ∀ w ∈ wsX90, w ∈ wf_c_X4_readAtom := fun w h => List.mem_cons_of_mem _ (List.mem_append_left _ (List.mem_append_right _ h))
theorem iw_c_X4_readAtom_X4 : ∀ w ∈ wsX40, w ∈ wf_c_X4_readAtom := fun w h => List.mem_cons_of_mem _ (List.mem_append_right _ h)
set_option maxRecDepth 20000 in
theorem gf_c_X4_readAtom_c_X4_emit_1 : GoodIn wf_c_X4_readAtom (wsV RX4 60 RX4 yX4_emit wf_c_X4_emit_1) := goodIn_app (gi_l [79, 80, 81, 70] rfl rfl) (gi_cons (j := 82) rfl rfl (goodIn_app (gi_l [83, 84] rfl rfl) (goodIn_sub iw_c_X4_readAtom_X4 gw_X4)))
set_option maxRecDepth 20000 in
theorem gf_c_X4_readAtom_c_X9_number_1 : GoodIn wf_c_X4_readAtom (wsV RX4 99 RX9 yX9_number wf_c_X9_number_1) := goodIn_app (gi_l [50, 51, 52, 4] rfl rfl) (gi_cons (j := 53) rfl rfl (goodIn_app (gi_l [6, 7, 8] rfl rfl) (goodIn_sub iw_c_X4_readAtom_X9 gw_X9)))
set_option maxRecDepth 20000 in
theorem gf_c_X4_readAtom_c_X9_refuseHere : GoodIn wf_c_X4_readAtom (wsV RX4 82 RX9 yX9_refuseHere wf_c_X9_refuseHere) := goodIn_app (gi_l [54, 55, 56, 4] rfl rfl) (gi_cons (j := 57) rfl rfl (goodIn_app (gi_l [6, 58, 59, 60, 4, 61, 62] rfl rfl) (goodIn_sub iw_c_X4_readAtom_X9 gw_X9)))
set_option maxRecDepth 20000 in
theorem gf_c_X4_readAtom_c_X9_skip : GoodIn wf_c_X4_readAtom (wsV RX4 79 RX9 yX9_skip wf_c_X9_skip) := goodIn_app (gi_l [63, 64, 65, 4] rfl rfl) (gi_cons (j := 66) rfl rfl (goodIn_app (gi_l [6] rfl rfl) (goodIn_sub iw_c_X4_readAtom_X9 gw_X9)))
set_option maxRecDepth 20000 in
theorem gf_c_X4_readAtom_c_X4_readSum_1 : GoodIn wf_c_X4_readAtom (wsV RX4 49 RX4 yX4_readSum wf_c_X4_readSum_1) := goodIn_app (gi_l [67, 68, 69, 70] rfl rfl) (gi_cons (j := 71) rfl rfl (goodIn_app (goodIn_app (gi_l [72, 73, 74, 4, 75, 62, 76, 77, 78, 70, 0, 1, 2, 3, 5, 6, 7, 8, 9, 10, 11, 12, 13, 14, 15, 16, 17, 18, 19, 20, 21, 22, 23, 24, 25, 26, 27, 28, 29, 30, 31, 32, 33, 34, 35, 36, 37, 38, 39, 40, 41, 42, 43, 44, 45, 46, 47, 48, 49, 50, 51, 52, 53, 54, 55, 56, 57, 58, 59, 60, 61, 63, 64, 65, 66, 67, 68, 69, 79, 80, 81, 82, 83, 84, 85, 86, 87, 88, 89, 90, 91, 92, 93] rfl rfl) (goodIn_sub iw_c_X4_readAtom_X9 gw_X9)) (goodIn_sub iw_c_X4_readAtom_X4 gw_X4)))
set_option maxRecDepth 20000 in
theorem gf_c_X4_readAtom_c_X9_expect_2 : GoodIn wf_c_X4_readAtom (wsV RX4 37 RX9 yX9_expect wf_c_X9_expect_2) := goodIn_app (gi_l [90, 91, 92, 4] rfl rfl) (gi_cons (j := 93) rfl rfl (goodIn_app (gi_l [62, 89, 2, 3, 4, 5, 6, 7, 8, 58, 59, 60, 61] rfl rfl) (goodIn_sub iw_c_X4_readAtom_X9 gw_X9)))
set_option maxRecDepth 20000 in
theorem gf_c_X4_readAtom_c_X4_emit : GoodIn wf_c_X4_readAtom (wsV RX4 60 RX4 yX4_emit wf_c_X4_emit) := goodIn_app (gi_l [79, 80, 81, 70] rfl rfl) (gi_cons (j := 82) rfl rfl (goodIn_app (gi_l [83, 84] rfl rfl) (goodIn_sub iw_c_X4_readAtom_X4 gw_X4)))
set_option maxRecDepth 20000 in
theorem gf_c_X4_readAtom_c_X9_peek : GoodIn wf_c_X4_readAtom (wsV RX4 41 RX9 yX9_peek wf_c_X9_peek) := goodIn_app (gi_l [1, 2, 3, 4] rfl rfl) (gi_cons (j := 5) rfl rfl (goodIn_app (gi_l [6, 7, 8] rfl rfl) (goodIn_sub iw_c_X4_readAtom_X9 gw_X9)))
set_option maxRecDepth 20000 in
theorem gf_c_X4_readAtom_c_J0_indexOf_0f7a4_4 : GoodIn wf_c_X4_readAtom (wsV RX4 93 RJ0 yJ0_indexOf_0f7a4 wf_c_J0_indexOf_0f7a4_4) := goodIn_app (gi_l [9, 10, 11, 12] rfl rfl) (gi_cons (j := 13) rfl rfl (gi_l [14, 15, 16, 12, 17, 18, 19, 20, 21, 22, 23, 24, 25, 26, 27, 28, 29, 30, 31, 32, 33, 34, 35, 36, 37, 38, 39, 40, 41, 42, 43, 44, 45, 46, 47, 48, 49] rfl rfl))
set_option maxHeartbeats 4000000 in
set_option maxRecDepth 100000 in
theorem c_X4_readAtom (l : Launch) (dC : Nat → ClassId) (dI : Nat → Nat → Nat) (sz : Nat) (h0 : Nat) (h1 : Nat) (h1_0 : Nat) (h1_f1 : Int32) (h1_f2 : Int32) (h1_f3 : Int32) (h1_0k : ClassId) (h1_0c : Nat → Int32) (h0_0 : Nat) (h0_f1 : Int32) (h0_2 : Nat) (h0_0k : ClassId) (h0_0c : Nat → Int32) (ts4 : Nat) (tv4 : Nat) (g_h1_f1 : RG h1_f1 0 240) (g_h1_f2 : RG h1_f2 0 240) (g_h1_f3 : RG h1_f3 (-1) 240) (a_h1_0c : AI h1_0c 0 255) (g_h0_f1 : RG h0_f1 0 240) : Met l yX4_readAtom wf_c_X4_readAtom ({ frames := 16, cells := 0, slots := 0, locals := 391 }) (va_Pc [.ref h0, .ref h1, .int 0] (fun U => U.heap.size = sz ∧ va_P (dC, dI) vwCl (wd_c_X4_readAtom h1 h1_0 h1_f1 h1_f2 h1_f3 h1_0 h1_0k h1_0c h0 h0_0 h0_f1 h0_2 h0_0 h0_0k h0_0c) U.heap ∧ va_K (dC, dI) vwCl [(h1_0k, .int), (h0_0k, .int)] U ∧ va_D (fun _ => True) (wd_c_X4_readAtom h1 h1_0 h1_f1 h1_f2 h1_f3 h1_0 h1_0k h1_0c h0 h0_0 h0_f1 h0_2 h0_0 h0_0k h0_0c) ∧ vk_R RX4 91 "vlrdph" ts4 U ∧ va_Z "java/lang/String" "COMPACT_STRINGS" "Z" (.int 1) (va_A (wd_c_X4_readAtom h1 h1_0 h1_f1 h1_f2 h1_f3 h1_0 h1_0k h1_0c h0 h0_0 h0_f1 h0_2 h0_0 h0_0k h0_0c) sz) U U.heap ∧ va_OF "java/lang/String" "coder" "B" (.int 0) ts4 (va_A (wd_c_X4_readAtom h1 h1_0 h1_f1 h1_f2 h1_f3 h1_0 h1_0k h1_0c h0 h0_0 h0_f1 h0_2 h0_0 h0_0k h0_0c) sz) U U.heap ∧ va_O "java/lang/String" ts4 (va_A (wd_c_X4_readAtom h1 h1_0 h1_f1 h1_f2 h1_f3 h1_0 h1_0k h1_0c h0 h0_0 h0_f1 h0_2 h0_0 h0_0k h0_0c) sz) U U.heap ∧ va_OF "java/lang/String" "value" "[B" (.ref tv4) ts4 (va_A (wd_c_X4_readAtom h1 h1_0 h1_f1 h1_f2 h1_f3 h1_0 h1_0k h1_0c h0 h0_0 h0_f1 h0_2 h0_0 h0_0k h0_0c) sz) U U.heap ∧ va_T .byte tv4 6 (fun j => .int ([118, 108, 114, 100, 112, 104].getD j 0)) (va_A (wd_c_X4_readAtom h1 h1_0 h1_f1 h1_f2 h1_f3 h1_0 h1_0k h1_0c h0 h0_0 h0_f1 h0_2 h0_0 h0_0k h0_0c) sz) U U.heap)) (va_Qv (fun (u : (Int32) × (Int32) × (Int32) × (Nat → Int32)) => (RG u.1 0 240 ∧ RG u.2.1 (-1) 240 ∧ RG u.2.2.1 0 240 ∧ (u.1, u.2.1, u.2.2.1, u.2.2.2) = fx_c_X4_readAtom h1_f1 h1_f2 h1_f3 h1_0c h0_f1 h0_0c)) (fun (u : (Int32) × (Int32) × (Int32) × (Nat → Int32)) t => va_P (dC, dI) vwCl (wd_c_X4_readAtom h1 h1_0 h1_f1 (u.1) (u.2.1) h1_0 h1_0k h1_0c h0 h0_0 (u.2.2.1) h0_2 h0_0 h0_0k (u.2.2.2)) t.heap ∧ va_K (dC, dI) vwCl [] t ∧ va_D (va_A (wd_c_X4_readAtom h1 h1_0 h1_f1 h1_f2 h1_f3 h1_0 h1_0k h1_0c h0 h0_0 h0_f1 h0_2 h0_0 h0_0k h0_0c) sz) (wd_c_X4_readAtom h1 h1_0 h1_f1 (u.1) (u.2.1) h1_0 h1_0k h1_0c h0 h0_0 (u.2.2.1) h0_2 h0_0 h0_0k (u.2.2.2))) (va_A (wd_c_X4_readAtom h1 h1_0 h1_f1 h1_f2 h1_f3 h1_0 h1_0k h1_0c h0 h0_0 h0_f1 h0_2 h0_0 h0_0k h0_0c) sz)) 0 0 (va_A (wd_c_X4_readAtom h1 h1_0 h1_f1 h1_f2 h1_f3 h1_0 h1_0k h1_0c h0 h0_0 h0_f1 h0_2 h0_0 h0_0k h0_0c) sz) := by
  refine Met.ofW (cc := cX4_readAtom) (maxL := 6) (ret := none) (by decide +kernel) rfl ?_
  intro p e s m args below meth c s₁ B hml hv
  obtain ⟨rfl, hsz, hP, hK, hD0, hE_32, hE_10, hE_34, hE_33, hE_35, hE_36⟩ := hv
  have hx := B.exec
  have hb := B.bytes
  have hr := B.returns
  have hts := atoms_spec (ws := wf_c_X4_readAtom) B.pre
  have hown : s.vm.findClass RX4 = some m.cls := findClass_of_methodNamed B.named
  have hlocks := B.notSynchronized
  subst hsz
  have hD := hD0.self (sz := s.heap.size)
  generalize hAe : va_A (wd_c_X4_readAtom h1 h1_0 h1_f1 h1_f2 h1_f3 h1_0 h1_0k h1_0c h0 h0_0 h0_f1 h0_2 h0_0 h0_0k h0_0c) s.heap.size = A at hD hE_10 hE_34 hE_33 hE_35 hE_36 ⊢
  have hA : ∀ q : Nat, s.heap.size ≤ q → A q := fun q h => by rw [← hAe]; exact Or.inr h
  have hP : va_P (dC, dI) vwCl (wd_c_X4_readAtom h1 h1_0 h1_f1 h1_f2 h1_f3 h1_0 h1_0k h1_0c h0 h0_0 h0_f1 h0_2 h0_0 h0_0k h0_0c) s.heap := hP
  have hl := lv_entry ([.ref h0, .ref h1, .int 0]) (n := 6) (Nat.le_of_ble_eq_true rfl)
  rw [lg_entry_eq]
  generalize (lg_sl ([.ref h0, .ref h1, .int 0]) ++ List.replicate (6 - (lg_sl ([.ref h0, .ref h1, .int 0])).length) Slot.unset).toArray = ls at hl ⊢
  have hl : lv_has ls 6 [(0, .ref h0), (1, .ref h1), (2, .int 0)] := hl
  obtain ⟨H, hHe⟩ : ∃ H : Heap, s.heap = H := ⟨_, rfl⟩
  have hS : va_S A s.heap H [] := by rw [hHe]; exact va_S.rf
  have hP : va_P (dC, dI) vwCl (wd_c_X4_readAtom h1 h1_0 h1_f1 h1_f2 h1_f3 h1_0 h1_0k h1_0c h0 h0_0 h0_f1 h0_2 h0_0 h0_0k h0_0c) H := by rw [← hHe]; exact hP
  rw [hHe]
  obtain ⟨RES, hR⟩ : ∃ z, fx_c_X4_readAtom h1_f1 h1_f2 h1_f3 h1_0c h0_f1 h0_0c = z := ⟨_, rfl⟩
  have hEX : RES = fx_c_X4_readAtom h1_f1 h1_f2 h1_f3 h1_0c h0_f1 h0_0c := hR.symm
  refine wj (fun G hG hU => ?_)
  as_aux_lemma =>
  have J65 : ∀ (j65_l5 : Int32) (j65_h1_f2 : Int32) (j65_h1_f3 : Int32) (g_h0_f1 : RG h0_f1 0 240) (g_h1_f1 : RG h1_f1 0 240) (g_h1_f2 : RG h1_f2 0 240) (g_h1_f3 : RG h1_f3 (-1) 240) (g_j65_h1_f2 : RG j65_h1_f2 0 240) (g_j65_h1_f3 : RG j65_h1_f3 (-1) 240) (g_j65_l5 : RG j65_l5 (-1) 9999) (hEX : RES = fx_c_X4_readAtom_p65 h0_f1 h0_0c j65_l5 j65_h1_f2 j65_h1_f3) (H : Heap) (locs : List Loc) (ls : Array Slot) (hP : va_P (dC, dI) vwCl (wd_c_X4_readAtom h1 h1_0 h1_f1 j65_h1_f2 j65_h1_f3 h1_0 h1_0k h1_0c h0 h0_0 h0_f1 h0_2 h0_0 h0_0k h0_0c) H) (hD : va_D A (wd_c_X4_readAtom h1 h1_0 h1_f1 j65_h1_f2 j65_h1_f3 h1_0 h1_0k h1_0c h0 h0_0 h0_f1 h0_2 h0_0 h0_0k h0_0c)) (hS : va_S A s.heap H locs) (hl : lv_has ls 6 [(5, .int j65_l5), (0, .ref h0)]), G H locs (F0 m 65 ls []) := by
    as_aux_lemma =>
    intro j65_l5 j65_h1_f2 j65_h1_f3 g_h0_f1 g_h1_f1 g_h1_f2 g_h1_f3 g_j65_h1_f2 g_j65_h1_f3 g_j65_l5 hEX H locs ls hP hD hS hl
    refine hG _ _ _ ?_
    refine lv_aload_n hx hb dX4_readAtom_65 rfl (lv_at hl 1 rfl) ?_
    refine lv_iload hx hb dX4_readAtom_66 (lv_at hl 0 rfl) ?_
    obtain ⟨hPc, hDc, hFc, hqc⟩ := cl_cut (wc := (wd_c_X4_emit_1 h0 h0_0 h0_f1 h0_2 h0_0 h0_0k h0_0c)) hP hD hS hA [2, 3] (by decide +kernel) rfl
    have hKc := hK.sub (tys' := [(h0_0k, .int)]) [1] rfl
    have hrv := va_recv hKc hPc (ci := 4) (q0 := 0) rfl rfl
    refine va_callv (va_runV (As := [.int j65_l5]) (rest := []) ⟨hx, hb, hml, hown, hts⟩ (c_X4_emit_1 l dC dI H.size h0 j65_l5 h0_0 h0_f1 h0_2 h0_0k h0_0c (RG_w g_j65_l5 (by decide +kernel)) g_h0_f1) (cwV 1 hts gf_c_X4_readAtom_c_X4_emit_1 rfl rfl rfl mdV_X4_emit ⟨Nat.le_of_ble_eq_true rfl, Nat.le_of_ble_eq_true rfl⟩) ⟨fun a U g mk q => by obtain ⟨q0, q1, qP, qK, qD⟩ := q; exact ⟨q0, q1, qP, va_K.moved (u := U) (U := U.calling g mk a) (Vm.Alike.refl U.vm) qK, qD⟩, hrv, fun U hU hW => ⟨rfl, by rw [hU], by rw [hU]; exact hPc, va_K.moved hW.alike hKc, hDc.weaken (fun _ _ _ _ => trivial)⟩⟩ rfl rfl hl.1 rfl (lv_room (Nat.le_of_ble_eq_true rfl)) dX4_readAtom_68 ⟨Nat.le_of_ble_eq_true rfl, Nat.le_of_ble_eq_true rfl⟩) hS (fun q _ h => hFc q h) hFc (fun u t H1 locs ht hvm hw hB hz1 hk1 hS => ?_)
    obtain ⟨x_2, w_3⟩ := u
    obtain ⟨hP1, hK1, hD1⟩ := hB
    rw [ht] at hP1
    obtain ⟨hP, hD⟩ := cl_put (w1 := (wd_c_X4_emit_1 h0 h0_0 x_2 h0_2 h0_0 h0_0k w_3)) (nw := (wd_c_X4_readAtom h1 h1_0 h1_f1 j65_h1_f2 j65_h1_f3 h1_0 h1_0k h1_0c h0 h0_0 x_2 h0_2 h0_0 h0_0k w_3)) hP hD [2, 3] [0, 1, 4, 5] 4 rfl hqc (by decide +kernel) rfl hk1 hFc hP1 hD1
    generalize H1 = H at hP hS ⊢
    as_aux_lemma =>
    rcases hw with ⟨h_4, h_5⟩
    have h_5 : (x_2, w_3) = _ := h_5
    replace hEX := hEX.trans (exc2_eq h_5)
    refine lv_goto (tgt := 105) hx hb dX4_readAtom_71 rfl ?_
    have hK9 := hK.sub (tys' := []) [] rfl
    exact W.vret hx hb hr (fun t ht hW => ⟨⟨(j65_h1_f2, j65_h1_f3, x_2, w_3), rfl, ⟨g_j65_h1_f2, g_j65_h1_f3, (RG_w h_4 (by decide +kernel)), (hR.trans hEX).symm⟩, by rw [ht]; exact hP, va_K.moved hW.alike hK9, hD⟩, hS.F ht⟩) hS.2.2 dX4_readAtom_105
  have J20 : ∀ (j20_h1_f2 : Int32) (g_h0_f1 : RG h0_f1 0 240) (g_h1_f1 : RG h1_f1 0 240) (g_h1_f2 : RG h1_f2 0 240) (g_h1_f3 : RG h1_f3 (-1) 240) (g_j20_h1_f2 : RG j20_h1_f2 0 240) (hEX : RES = fx_c_X4_readAtom_p20 h1_f1 h1_f3 h1_0c h0_f1 h0_0c j20_h1_f2) (H : Heap) (locs : List Loc) (ls : Array Slot) (hP : va_P (dC, dI) vwCl (wd_c_X4_readAtom h1 h1_0 h1_f1 j20_h1_f2 h1_f3 h1_0 h1_0k h1_0c h0 h0_0 h0_f1 h0_2 h0_0 h0_0k h0_0c) H) (hD : va_D A (wd_c_X4_readAtom h1 h1_0 h1_f1 j20_h1_f2 h1_f3 h1_0 h1_0k h1_0c h0 h0_0 h0_f1 h0_2 h0_0 h0_0k h0_0c)) (hS : va_S A s.heap H locs) (hl : lv_has ls 6 [(3, .int (-1)), (0, .ref h0), (1, .ref h1), (2, .int 0)]), G H locs (F0 m 20 ls [.int (-1)]) := by
    as_aux_lemma =>
    intro j20_h1_f2 g_h0_f1 g_h1_f1 g_h1_f2 g_h1_f3 g_j20_h1_f2 hEX H locs ls hP hD hS hl
    refine hG _ _ _ ?_
    refine lv_istore (lv' := [(4, .int (-1)), (3, .int (-1)), (0, .ref h0), (1, .ref h1), (2, .int 0)]) hx hb dX4_readAtom_20 hl (Nat.le_of_ble_eq_true rfl) rfl (fun ls hl => ?_)
    refine lv_iload hx hb dX4_readAtom_22 (lv_at hl 0 rfl) ?_
    refine lv_if_lt (tgt := 42) hx hb dX4_readAtom_24 rfl (fun c_6 => ?_) (fun c_6 => absurd c_6 (by decide +kernel))
    refine lv_iload_n hx hb dX4_readAtom_42 rfl (lv_at hl 1 rfl) ?_
    refine lv_bipush (v := 91) hx hb dX4_readAtom_43 kc_bipush_91 ?_
    refine lv_icmp_eq (tgt := 74) hx hb dX4_readAtom_45 rfl (fun c_7 => absurd c_7 (by decide +kernel)) (fun c_7 => ?_)
    refine lv_aload_n hx hb dX4_readAtom_48 rfl (lv_at hl 3 rfl) ?_
    refine lv_iconst (v := 4) hx hb dX4_readAtom_49 kc_iconst_4 ?_
    obtain ⟨hPc, hDc, hFc, hqc⟩ := cl_cut (wc := (wd_c_X9_number_1 h1 h1_0 h1_f1 j20_h1_f2 h1_f3 h1_0 h1_0k h1_0c)) hP hD hS hA [0, 1] (by decide +kernel) rfl
    have hKc := hK.sub (tys' := [(h1_0k, .int)]) [0] rfl
    have hrv := va_recv hKc hPc (ci := 9) (q0 := 0) rfl rfl
    refine va_calli (va_runV (As := [.int 4]) (rest := []) ⟨hx, hb, hml, hown, hts⟩ (c_X9_number_1 l dC dI H.size h1 h1_0 h1_f1 j20_h1_f2 h1_f3 h1_0k h1_0c g_h1_f1 g_j20_h1_f2 g_h1_f3 a_h1_0c) (cwV 1 hts gf_c_X4_readAtom_c_X9_number_1 rfl rfl rfl mdV_X9_number ⟨Nat.le_of_ble_eq_true rfl, Nat.le_of_ble_eq_true rfl⟩) ⟨fun a U g mk q => by obtain ⟨q0, q1, qP, qK, qD⟩ := q; exact ⟨q0, q1, qP, va_K.moved (u := U) (U := U.calling g mk a) (Vm.Alike.refl U.vm) qK, qD⟩, hrv, fun U hU hW => ⟨rfl, by rw [hU], by rw [hU]; exact hPc, va_K.moved hW.alike hKc, hDc.weaken (fun _ _ _ _ => trivial)⟩⟩ rfl rfl hl.1 rfl (lv_room (Nat.le_of_ble_eq_true rfl)) dX4_readAtom_50 ⟨Nat.le_of_ble_eq_true rfl, Nat.le_of_ble_eq_true rfl⟩) hS (fun q _ h => hFc q h) hFc (fun r_8 x_9 t H1 locs ht hvm hw hB hz1 hk1 hS => ?_)
    as_aux_lemma =>
    obtain ⟨hP1, hK1, hD1⟩ := hB
    rw [ht] at hP1
    obtain ⟨hP, hD⟩ := cl_put (w1 := (wd_c_X9_number_1 h1 h1_0 h1_f1 x_9 h1_f3 h1_0 h1_0k h1_0c)) (nw := (wd_c_X4_readAtom h1 h1_0 h1_f1 x_9 h1_f3 h1_0 h1_0k h1_0c h0 h0_0 h0_f1 h0_2 h0_0 h0_0k h0_0c)) hP hD [0, 1] [4, 5, 2, 3] 4 rfl hqc (by decide +kernel) rfl hk1 hFc hP1 hD1
    generalize H1 = H at hP hS ⊢
    as_aux_lemma =>
    rcases hw with ⟨h_10, h_11, h_12, h_13⟩ | ⟨h_14, h_15, h_16, h_17, h_18, h_19⟩
    · have h_13 : (r_8, x_9) = _ := h_13
      replace hEX := hEX.trans (exc2_eq h_13)
      replace hEX := hEX.trans (if_pos (show r_8 = (-1) from h_10))
      rw [h_10]
      refine lv_istore (lv' := [(5, .int (-1)), (4, .int (-1)), (3, .int (-1)), (0, .ref h0), (1, .ref h1), (2, .int 0)]) hx hb dX4_readAtom_53 hl (Nat.le_of_ble_eq_true rfl) rfl (fun ls hl => ?_)
      refine lv_iload hx hb dX4_readAtom_55 (lv_at hl 0 rfl) ?_
      refine lv_iconst (v := (-1)) hx hb dX4_readAtom_57 kc_iconst_m1 ?_
      refine lv_icmp_ne (tgt := 65) hx hb dX4_readAtom_58 rfl (fun c_20 => absurd c_20 (by decide +kernel)) (fun c_20 => ?_)
      refine lv_aload_n hx hb dX4_readAtom_61 rfl (lv_at hl 4 rfl) ?_
      obtain ⟨hPc, hDc, hFc, hqc⟩ := cl_cut (wc := (wd_c_X9_refuseHere h1 h1_0 h1_f1 x_9 h1_f3)) hP hD hS hA [0] (by decide +kernel) rfl
      have hKc := hK.sub (tys' := []) [] rfl
      have hrv := va_recv hKc hPc (ci := 9) (q0 := 0) rfl rfl
      refine va_callv (va_runV (As := []) (rest := []) ⟨hx, hb, hml, hown, hts⟩ (c_X9_refuseHere l dC dI H.size h1 h1_0 h1_f1 x_9 h1_f3 g_h1_f1 h_11 g_h1_f3) (cwV 0 hts gf_c_X4_readAtom_c_X9_refuseHere rfl rfl rfl mdV_X9_refuseHere ⟨Nat.le_of_ble_eq_true rfl, Nat.le_of_ble_eq_true rfl⟩) ⟨fun a U g mk q => by obtain ⟨q0, q1, qP, qK, qD⟩ := q; exact ⟨q0, q1, qP, va_K.moved (u := U) (U := U.calling g mk a) (Vm.Alike.refl U.vm) qK, qD⟩, hrv, fun U hU hW => ⟨rfl, by rw [hU], by rw [hU]; exact hPc, va_K.moved hW.alike hKc, hDc.weaken (fun _ _ _ _ => trivial)⟩⟩ rfl rfl hl.1 rfl (lv_room (Nat.le_of_ble_eq_true rfl)) dX4_readAtom_62 ⟨Nat.le_of_ble_eq_true rfl, Nat.le_of_ble_eq_true rfl⟩) hS (fun q _ h => hFc q h) hFc (fun x_22 t H1 locs ht hvm hw hB hz1 hk1 hS => ?_)
      as_aux_lemma =>
      obtain ⟨hP1, hK1, hD1⟩ := hB
      rw [ht] at hP1
      obtain ⟨hP, hD⟩ := cl_put (w1 := (wd_c_X9_refuseHere h1 h1_0 h1_f1 x_9 x_22)) (nw := (wd_c_X4_readAtom h1 h1_0 h1_f1 x_9 x_22 h1_0 h1_0k h1_0c h0 h0_0 h0_f1 h0_2 h0_0 h0_0k h0_0c)) hP hD [0] [4, 1, 2, 3] 4 rfl hqc (by decide +kernel) rfl hk1 hFc hP1 hD1
      generalize H1 = H at hP hS ⊢
      as_aux_lemma =>
      rcases hw with ⟨h_23, h_24⟩
      have h_24 : x_22 = _ := h_24
      replace hEX := hEX.trans (exc1_eq h_24)
      exact hU _ _ _ (J65 (-1) x_9 x_22 g_h0_f1 g_h1_f1 g_h1_f2 g_h1_f3 h_11 (RG_w h_23 (by decide +kernel)) (RG_w (RG_k (-1) (-1) rfl) (by decide +kernel)) hEX _ _ _ hP hD hS (lv_sub hl [0, 3] rfl))
    · have h_19 : (r_8, x_9) = _ := h_19
      replace hEX := hEX.trans (exc2_eq h_19)
      replace hEX := hEX.trans (if_neg (RG_neq (x := r_8) (c := (-1)) (show RG r_8 0 9999 from h_14) (by decide +kernel)))
      refine lv_istore (lv' := [(5, .int r_8), (4, .int (-1)), (3, .int (-1)), (0, .ref h0), (1, .ref h1), (2, .int 0)]) hx hb dX4_readAtom_53 hl (Nat.le_of_ble_eq_true rfl) rfl (fun ls hl => ?_)
      refine lv_iload hx hb dX4_readAtom_55 (lv_at hl 0 rfl) ?_
      refine lv_iconst (v := (-1)) hx hb dX4_readAtom_57 kc_iconst_m1 ?_
      refine lv_icmp_ne (tgt := 65) hx hb dX4_readAtom_58 rfl (fun c_25 => ?_) (fun c_25 => ?_)
      · replace hEX := hEX.trans (if_neg c_25)
        exact hU _ _ _ (J65 r_8 x_9 h1_f3 g_h0_f1 (RG_w h_16 (by decide +kernel)) g_h1_f2 g_h1_f3 (RG_w h_15 (by decide +kernel)) g_h1_f3 (RG_w h_14 (by decide +kernel)) hEX _ _ _ hP hD hS (lv_sub hl [0, 3] rfl))
      · replace hEX := hEX.trans (if_pos c_25)
        exact RG_dead (RG_eq1 h_14 (RG_k (-1) (-1) rfl) c_25 (a' := 0) (b' := (-1)) (by decide +kernel)) (by decide +kernel)
  have J65b : ∀ (j65b_l5 : Int32) (j65b_h1_f2 : Int32) (j65b_h1_f3 : Int32) (g_h0_f1 : RG h0_f1 0 240) (g_h1_f1 : RG h1_f1 1 240) (g_h1_f2 : RG h1_f2 0 240) (g_h1_f3 : RG h1_f3 (-1) 240) (g_j65b_h1_f2 : RG j65b_h1_f2 0 240) (g_j65b_h1_f3 : RG j65b_h1_f3 (-1) 240) (g_j65b_l5 : RG j65b_l5 (-1) 9999) (hEX : RES = fx_c_X4_readAtom_p65b h0_f1 h0_0c j65b_l5 j65b_h1_f2 j65b_h1_f3) (H : Heap) (locs : List Loc) (ls : Array Slot) (hP : va_P (dC, dI) vwCl (wd_c_X4_readAtom h1 h1_0 h1_f1 j65b_h1_f2 j65b_h1_f3 h1_0 h1_0k h1_0c h0 h0_0 h0_f1 h0_2 h0_0 h0_0k h0_0c) H) (hD : va_D A (wd_c_X4_readAtom h1 h1_0 h1_f1 j65b_h1_f2 j65b_h1_f3 h1_0 h1_0k h1_0c h0 h0_0 h0_f1 h0_2 h0_0 h0_0k h0_0c)) (hS : va_S A s.heap H locs) (hl : lv_has ls 6 [(5, .int j65b_l5), (0, .ref h0)]), G H locs (F0 m 65 ls []) := by
    as_aux_lemma =>
    intro j65b_l5 j65b_h1_f2 j65b_h1_f3 g_h0_f1 g_h1_f1 g_h1_f2 g_h1_f3 g_j65b_h1_f2 g_j65b_h1_f3 g_j65b_l5 hEX H locs ls hP hD hS hl
    refine hG _ _ _ ?_
    refine lv_aload_n hx hb dX4_readAtom_65 rfl (lv_at hl 1 rfl) ?_
    refine lv_iload hx hb dX4_readAtom_66 (lv_at hl 0 rfl) ?_
    obtain ⟨hPc, hDc, hFc, hqc⟩ := cl_cut (wc := (wd_c_X4_emit_1 h0 h0_0 h0_f1 h0_2 h0_0 h0_0k h0_0c)) hP hD hS hA [2, 3] (by decide +kernel) rfl
    have hKc := hK.sub (tys' := [(h0_0k, .int)]) [1] rfl
    have hrv := va_recv hKc hPc (ci := 4) (q0 := 0) rfl rfl
    refine va_callv (va_runV (As := [.int j65b_l5]) (rest := []) ⟨hx, hb, hml, hown, hts⟩ (c_X4_emit_1 l dC dI H.size h0 j65b_l5 h0_0 h0_f1 h0_2 h0_0k h0_0c (RG_w g_j65b_l5 (by decide +kernel)) g_h0_f1) (cwV 1 hts gf_c_X4_readAtom_c_X4_emit_1 rfl rfl rfl mdV_X4_emit ⟨Nat.le_of_ble_eq_true rfl, Nat.le_of_ble_eq_true rfl⟩) ⟨fun a U g mk q => by obtain ⟨q0, q1, qP, qK, qD⟩ := q; exact ⟨q0, q1, qP, va_K.moved (u := U) (U := U.calling g mk a) (Vm.Alike.refl U.vm) qK, qD⟩, hrv, fun U hU hW => ⟨rfl, by rw [hU], by rw [hU]; exact hPc, va_K.moved hW.alike hKc, hDc.weaken (fun _ _ _ _ => trivial)⟩⟩ rfl rfl hl.1 rfl (lv_room (Nat.le_of_ble_eq_true rfl)) dX4_readAtom_68 ⟨Nat.le_of_ble_eq_true rfl, Nat.le_of_ble_eq_true rfl⟩) hS (fun q _ h => hFc q h) hFc (fun u t H1 locs ht hvm hw hB hz1 hk1 hS => ?_)
    obtain ⟨x_27, w_28⟩ := u
    obtain ⟨hP1, hK1, hD1⟩ := hB
    rw [ht] at hP1
    obtain ⟨hP, hD⟩ := cl_put (w1 := (wd_c_X4_emit_1 h0 h0_0 x_27 h0_2 h0_0 h0_0k w_28)) (nw := (wd_c_X4_readAtom h1 h1_0 h1_f1 j65b_h1_f2 j65b_h1_f3 h1_0 h1_0k h1_0c h0 h0_0 x_27 h0_2 h0_0 h0_0k w_28)) hP hD [2, 3] [0, 1, 4, 5] 4 rfl hqc (by decide +kernel) rfl hk1 hFc hP1 hD1
    generalize H1 = H at hP hS ⊢
    as_aux_lemma =>
    rcases hw with ⟨h_29, h_30⟩
    have h_30 : (x_27, w_28) = _ := h_30
    replace hEX := hEX.trans (exc2_eq h_30)
    refine lv_goto (tgt := 105) hx hb dX4_readAtom_71 rfl ?_
    have hK9 := hK.sub (tys' := []) [] rfl
    exact W.vret hx hb hr (fun t ht hW => ⟨⟨(j65b_h1_f2, j65b_h1_f3, x_27, w_28), rfl, ⟨g_j65b_h1_f2, g_j65b_h1_f3, (RG_w h_29 (by decide +kernel)), (hR.trans hEX).symm⟩, by rw [ht]; exact hP, va_K.moved hW.alike hK9, hD⟩, hS.F ht⟩) hS.2.2 dX4_readAtom_105
  have J20b : ∀ (j20b_l3 : Int32) (j20b_h1_f2 : Int32) (g_h0_f1 : RG h0_f1 0 240) (g_h1_f1 : RG h1_f1 1 240) (g_h1_f2 : RG h1_f2 0 240) (g_h1_f3 : RG h1_f3 (-1) 240) (g_j20b_h1_f2 : RG j20b_h1_f2 0 239) (g_j20b_l3 : RG j20b_l3 0 255) (hEX : RES = fx_c_X4_readAtom_p20b h1_f1 h1_f3 h1_0c h0_f1 h0_0c j20b_l3 j20b_h1_f2) (H : Heap) (locs : List Loc) (ls : Array Slot) (hP : va_P (dC, dI) vwCl (wd_c_X4_readAtom h1 h1_0 h1_f1 j20b_h1_f2 h1_f3 h1_0 h1_0k h1_0c h0 h0_0 h0_f1 h0_2 h0_0 h0_0k h0_0c) H) (hD : va_D A (wd_c_X4_readAtom h1 h1_0 h1_f1 j20b_h1_f2 h1_f3 h1_0 h1_0k h1_0c h0 h0_0 h0_f1 h0_2 h0_0 h0_0k h0_0c)) (hS : va_S A s.heap H locs) (hl : lv_has ls 6 [(3, .int j20b_l3), (0, .ref h0), (1, .ref h1), (2, .int 0)]), G H locs (F0 m 20 ls [.int (-1)]) := by
    as_aux_lemma =>
    intro j20b_l3 j20b_h1_f2 g_h0_f1 g_h1_f1 g_h1_f2 g_h1_f3 g_j20b_h1_f2 g_j20b_l3 hEX H locs ls hP hD hS hl
    refine hG _ _ _ ?_
    refine lv_istore (lv' := [(4, .int (-1)), (3, .int j20b_l3), (0, .ref h0), (1, .ref h1), (2, .int 0)]) hx hb dX4_readAtom_20 hl (Nat.le_of_ble_eq_true rfl) rfl (fun ls hl => ?_)
    refine lv_iload hx hb dX4_readAtom_22 (lv_at hl 0 rfl) ?_
    refine lv_if_lt (tgt := 42) hx hb dX4_readAtom_24 rfl (fun c_31 => ?_) (fun c_31 => absurd c_31 (by decide +kernel))
    refine lv_iload_n hx hb dX4_readAtom_42 rfl (lv_at hl 1 rfl) ?_
    refine lv_bipush (v := 91) hx hb dX4_readAtom_43 kc_bipush_91 ?_
    refine lv_icmp_eq (tgt := 74) hx hb dX4_readAtom_45 rfl (fun c_32 => ?_) (fun c_32 => ?_)
    · replace hEX := hEX.trans (if_pos c_32)
      have g_33 : RG j20b_l3 91 91 := RG_eq1 g_j20b_l3 (RG_k 91 91 rfl) c_32 (by decide +kernel)
      refine lv_iload_n hx hb dX4_readAtom_74 rfl (lv_at hl 4 rfl) ?_
      refine lv_bipush (v := 6) hx hb dX4_readAtom_75 kc_bipush_6 ?_
      refine lv_icmp_lt (tgt := 87) hx hb dX4_readAtom_77 rfl (fun c_34 => ?_) (fun c_34 => absurd c_34 (by decide +kernel))
      refine lv_aload_n hx hb dX4_readAtom_87 rfl (lv_at hl 3 rfl) ?_
      as_aux_lemma =>
      obtain ⟨hPc, hDc, hFc, hqc⟩ := cl_cut (wc := (wd_c_X9_skip h1 h1_0 h1_f1 j20b_h1_f2 h1_f3)) hP hD hS hA [0] (by decide +kernel) rfl
      have hKc := hK.sub (tys' := []) [] rfl
      have hrv := va_recv hKc hPc (ci := 9) (q0 := 0) rfl rfl
      refine va_callv (va_runV (As := []) (rest := []) ⟨hx, hb, hml, hown, hts⟩ (c_X9_skip l dC dI H.size h1 h1_0 h1_f1 j20b_h1_f2 h1_f3 (RG_w g_h1_f1 (by decide +kernel)) g_j20b_h1_f2 g_h1_f3) (cwV 0 hts gf_c_X4_readAtom_c_X9_skip rfl rfl rfl mdV_X9_skip ⟨Nat.le_of_ble_eq_true rfl, Nat.le_of_ble_eq_true rfl⟩) ⟨fun a U g mk q => by obtain ⟨q0, q1, qP, qK, qD⟩ := q; exact ⟨q0, q1, qP, va_K.moved (u := U) (U := U.calling g mk a) (Vm.Alike.refl U.vm) qK, qD⟩, hrv, fun U hU hW => ⟨rfl, by rw [hU], by rw [hU]; exact hPc, va_K.moved hW.alike hKc, hDc.weaken (fun _ _ _ _ => trivial)⟩⟩ rfl rfl hl.1 rfl (lv_room (Nat.le_of_ble_eq_true rfl)) dX4_readAtom_88 ⟨Nat.le_of_ble_eq_true rfl, Nat.le_of_ble_eq_true rfl⟩) hS (fun q _ h => hFc q h) hFc (fun x_36 t H1 locs ht hvm hw hB hz1 hk1 hS => ?_)
      obtain ⟨hP1, hK1, hD1⟩ := hB
      rw [ht] at hP1
      obtain ⟨hP, hD⟩ := cl_put (w1 := (wd_c_X9_skip h1 h1_0 h1_f1 x_36 h1_f3)) (nw := (wd_c_X4_readAtom h1 h1_0 h1_f1 x_36 h1_f3 h1_0 h1_0k h1_0c h0 h0_0 h0_f1 h0_2 h0_0 h0_0k h0_0c)) hP hD [0] [4, 1, 2, 3] 4 rfl hqc (by decide +kernel) rfl hk1 hFc hP1 hD1
      generalize H1 = H at hP hS ⊢
      as_aux_lemma =>
      rcases hw with ⟨h_37, h_38, h_39, h_40⟩
      have h_40 : x_36 = _ := h_40
      replace hEX := hEX.trans (exc1_eq h_40)
      refine lv_aload_n hx hb dX4_readAtom_91 rfl (lv_at hl 2 rfl) ?_
      refine lv_aload_n hx hb dX4_readAtom_92 rfl (lv_at hl 3 rfl) ?_
      refine lv_iload_n hx hb dX4_readAtom_93 rfl (lv_at hl 4 rfl) ?_
      refine lv_iconst (v := 1) hx hb dX4_readAtom_94 kc_iconst_1 ?_
      refine lv_iadd hx hb dX4_readAtom_95 ?_
      refine lv_topi (fun x_41 ex_41 => ?_)
      obtain rfl : x_41 = 1 := ex_41.trans (by decide +kernel)
      obtain ⟨hPc, hDc, hFc, hqc⟩ := cl_cut (wc := (wd_c_X4_readSum_1 h1 h1_0 h1_f1 x_36 h1_f3 h1_0 h1_0k h1_0c h0 h0_0 h0_f1 h0_2 h0_0 h0_0k h0_0c)) hP hD hS hA [0, 1, 2, 3] (by decide +kernel) rfl
      have hKc := hK.sub (tys' := [(h1_0k, .int), (h0_0k, .int)]) [0, 1] rfl
      have hrv := va_recv hKc hPc (ci := 4) (q0 := 2) rfl rfl
      refine va_callv (va_runV (As := [.ref h1, .int 1]) (rest := []) ⟨hx, hb, hml, hown, hts⟩ (c_X4_readSum_1 l dC dI H.size h0 h1 h1_0 h1_f1 x_36 h1_f3 h1_0k h1_0c h0_0 h0_f1 h0_2 h0_0k h0_0c ts4 tv4 (RG_w g_h1_f1 (by decide +kernel)) (RG_w h_37 (by decide +kernel)) g_h1_f3 a_h1_0c g_h0_f1) (cwV 2 hts gf_c_X4_readAtom_c_X4_readSum_1 rfl rfl rfl mdV_X4_readSum ⟨Nat.le_of_ble_eq_true rfl, Nat.le_of_ble_eq_true rfl⟩) ⟨fun a U g mk q => by obtain ⟨q0, q1, qP, qK, qD, qE0, qE1, qE2, qE3, qE4, qE5⟩ := q; exact ⟨q0, q1, qP, va_K.moved (u := U) (U := U.calling g mk a) (Vm.Alike.refl U.vm) qK, qD, vk_R.same rfl qE0, va_Z.moved (u := U) (U := U.calling g mk a) (Vm.Alike.refl U.vm) qE1, va_OF.moved (u := U) (U := U.calling g mk a) (Vm.Alike.refl U.vm) qE2, va_O.moved (u := U) (U := U.calling g mk a) (Vm.Alike.refl U.vm) qE3, va_OF.moved (u := U) (U := U.calling g mk a) (Vm.Alike.refl U.vm) qE4, va_T.moved (u := U) (U := U.calling g mk a) (Vm.Alike.refl U.vm) qE5⟩, hrv, fun U hU hW => ⟨rfl, by rw [hU], by rw [hU]; exact hPc, va_K.moved hW.alike hKc, hDc.weaken (fun _ _ _ _ => trivial), vk_R.warm hW hE_32, va_Z.moved hW.alike (by rw [hU]; exact (hE_10.kept hS.2.1).narrow hFc), va_OF.moved hW.alike (by rw [hU]; exact (hE_34.kept hS.2.1).narrow hFc), va_O.moved hW.alike (by rw [hU]; exact (hE_33.kept hS.2.1).narrow hFc), va_OF.moved hW.alike (by rw [hU]; exact (hE_35.kept hS.2.1).narrow hFc), va_T.moved hW.alike (by rw [hU]; exact (hE_36.kept hS.2.1).narrow hFc)⟩⟩ rfl rfl hl.1 rfl (lv_room (Nat.le_of_ble_eq_true rfl)) dX4_readAtom_96 ⟨Nat.le_of_ble_eq_true rfl, Nat.le_of_ble_eq_true rfl⟩) hS (fun q _ h => hFc q h) hFc (fun u t H1 locs ht hvm hw hB hz1 hk1 hS => ?_)
      as_aux_lemma =>
      obtain ⟨x_43, x_44, x_45, w_46⟩ := u
      obtain ⟨hP1, hK1, hD1⟩ := hB
      rw [ht] at hP1
      obtain ⟨hP, hD⟩ := cl_put (w1 := (wd_c_X4_readSum_1 h1 h1_0 h1_f1 x_43 x_44 h1_0 h1_0k h1_0c h0 h0_0 x_45 h0_2 h0_0 h0_0k w_46)) (nw := (wd_c_X4_readAtom h1 h1_0 h1_f1 x_43 x_44 h1_0 h1_0k h1_0c h0 h0_0 x_45 h0_2 h0_0 h0_0k w_46)) hP hD [0, 1, 2, 3] [4, 5, 6, 7] 4 rfl hqc (by decide +kernel) rfl hk1 hFc hP1 hD1
      generalize H1 = H at hP hS ⊢
      as_aux_lemma =>
      rcases hw with ⟨h_47, h_48, h_49, h_50⟩
      have h_50 : (x_43, x_44, x_45, w_46) = _ := h_50
      replace hEX := hEX.trans (exc4_eq h_50)
      refine lv_aload_n hx hb dX4_readAtom_99 rfl (lv_at hl 3 rfl) ?_
      refine lv_bipush (v := 93) hx hb dX4_readAtom_100 kc_bipush_93 ?_
      obtain ⟨hPc, hDc, hFc, hqc⟩ := cl_cut (wc := (wd_c_X9_expect_2 h1 h1_0 h1_f1 x_43 x_44 h1_0 h1_0k h1_0c)) hP hD hS hA [0, 1] (by decide +kernel) rfl
      have hKc := hK.sub (tys' := [(h1_0k, .int)]) [0] rfl
      have hrv := va_recv hKc hPc (ci := 9) (q0 := 0) rfl rfl
      refine va_callv (va_runV (As := [.int 93]) (rest := []) ⟨hx, hb, hml, hown, hts⟩ (c_X9_expect_2 l dC dI H.size h1 93 h1_0 h1_f1 x_43 x_44 h1_0k h1_0c (RG_w (RG_k 93 93 rfl) (by decide +kernel)) (RG_w g_h1_f1 (by decide +kernel)) h_47 h_48 a_h1_0c) (cwV 1 hts gf_c_X4_readAtom_c_X9_expect_2 rfl rfl rfl mdV_X9_expect ⟨Nat.le_of_ble_eq_true rfl, Nat.le_of_ble_eq_true rfl⟩) ⟨fun a U g mk q => by obtain ⟨q0, q1, qP, qK, qD⟩ := q; exact ⟨q0, q1, qP, va_K.moved (u := U) (U := U.calling g mk a) (Vm.Alike.refl U.vm) qK, qD⟩, hrv, fun U hU hW => ⟨rfl, by rw [hU], by rw [hU]; exact hPc, va_K.moved hW.alike hKc, hDc.weaken (fun _ _ _ _ => trivial)⟩⟩ rfl rfl hl.1 rfl (lv_room (Nat.le_of_ble_eq_true rfl)) dX4_readAtom_102 ⟨Nat.le_of_ble_eq_true rfl, Nat.le_of_ble_eq_true rfl⟩) hS (fun q _ h => hFc q h) hFc (fun u t H1 locs ht hvm hw hB hz1 hk1 hS => ?_)
      obtain ⟨x_52, x_53⟩ := u
      obtain ⟨hP1, hK1, hD1⟩ := hB
      rw [ht] at hP1
      obtain ⟨hP, hD⟩ := cl_put (w1 := (wd_c_X9_expect_2 h1 h1_0 h1_f1 x_52 x_53 h1_0 h1_0k h1_0c)) (nw := (wd_c_X4_readAtom h1 h1_0 h1_f1 x_52 x_53 h1_0 h1_0k h1_0c h0 h0_0 x_45 h0_2 h0_0 h0_0k w_46)) hP hD [0, 1] [4, 5, 2, 3] 4 rfl hqc (by decide +kernel) rfl hk1 hFc hP1 hD1
      generalize H1 = H at hP hS ⊢
      as_aux_lemma =>
      rcases hw with ⟨h_54, h_55, h_56, h_57⟩
      have h_57 : (x_52, x_53) = _ := h_57
      replace hEX := hEX.trans (exc2_eq h_57)
      have hK9 := hK.sub (tys' := []) [] rfl
      exact W.vret hx hb hr (fun t ht hW => ⟨⟨(x_52, x_53, x_45, w_46), rfl, ⟨h_54, h_55, h_49, (hR.trans hEX).symm⟩, by rw [ht]; exact hP, va_K.moved hW.alike hK9, hD⟩, hS.F ht⟩) hS.2.2 dX4_readAtom_105
    · replace hEX := hEX.trans (if_neg c_32)
      refine lv_aload_n hx hb dX4_readAtom_48 rfl (lv_at hl 3 rfl) ?_
      refine lv_iconst (v := 4) hx hb dX4_readAtom_49 kc_iconst_4 ?_
      obtain ⟨hPc, hDc, hFc, hqc⟩ := cl_cut (wc := (wd_c_X9_number_1 h1 h1_0 h1_f1 j20b_h1_f2 h1_f3 h1_0 h1_0k h1_0c)) hP hD hS hA [0, 1] (by decide +kernel) rfl
      have hKc := hK.sub (tys' := [(h1_0k, .int)]) [0] rfl
      have hrv := va_recv hKc hPc (ci := 9) (q0 := 0) rfl rfl
      refine va_calli (va_runV (As := [.int 4]) (rest := []) ⟨hx, hb, hml, hown, hts⟩ (c_X9_number_1 l dC dI H.size h1 h1_0 h1_f1 j20b_h1_f2 h1_f3 h1_0k h1_0c (RG_w g_h1_f1 (by decide +kernel)) (RG_w g_j20b_h1_f2 (by decide +kernel)) g_h1_f3 a_h1_0c) (cwV 1 hts gf_c_X4_readAtom_c_X9_number_1 rfl rfl rfl mdV_X9_number ⟨Nat.le_of_ble_eq_true rfl, Nat.le_of_ble_eq_true rfl⟩) ⟨fun a U g mk q => by obtain ⟨q0, q1, qP, qK, qD⟩ := q; exact ⟨q0, q1, qP, va_K.moved (u := U) (U := U.calling g mk a) (Vm.Alike.refl U.vm) qK, qD⟩, hrv, fun U hU hW => ⟨rfl, by rw [hU], by rw [hU]; exact hPc, va_K.moved hW.alike hKc, hDc.weaken (fun _ _ _ _ => trivial)⟩⟩ rfl rfl hl.1 rfl (lv_room (Nat.le_of_ble_eq_true rfl)) dX4_readAtom_50 ⟨Nat.le_of_ble_eq_true rfl, Nat.le_of_ble_eq_true rfl⟩) hS (fun q _ h => hFc q h) hFc (fun r_58 x_59 t H1 locs ht hvm hw hB hz1 hk1 hS => ?_)
      obtain ⟨hP1, hK1, hD1⟩ := hB
      rw [ht] at hP1
      obtain ⟨hP, hD⟩ := cl_put (w1 := (wd_c_X9_number_1 h1 h1_0 h1_f1 x_59 h1_f3 h1_0 h1_0k h1_0c)) (nw := (wd_c_X4_readAtom h1 h1_0 h1_f1 x_59 h1_f3 h1_0 h1_0k h1_0c h0 h0_0 h0_f1 h0_2 h0_0 h0_0k h0_0c)) hP hD [0, 1] [4, 5, 2, 3] 4 rfl hqc (by decide +kernel) rfl hk1 hFc hP1 hD1
      generalize H1 = H at hP hS ⊢
      as_aux_lemma =>
      rcases hw with ⟨h_60, h_61, h_62, h_63⟩ | ⟨h_64, h_65, h_66, h_67, h_68, h_69⟩
      · have h_63 : (r_58, x_59) = _ := h_63
        replace hEX := hEX.trans (exc2_eq h_63)
        replace hEX := hEX.trans (if_pos (show r_58 = (-1) from h_60))
        rw [h_60]
        refine lv_istore (lv' := [(5, .int (-1)), (4, .int (-1)), (3, .int j20b_l3), (0, .ref h0), (1, .ref h1), (2, .int 0)]) hx hb dX4_readAtom_53 hl (Nat.le_of_ble_eq_true rfl) rfl (fun ls hl => ?_)
        refine lv_iload hx hb dX4_readAtom_55 (lv_at hl 0 rfl) ?_
        refine lv_iconst (v := (-1)) hx hb dX4_readAtom_57 kc_iconst_m1 ?_
        refine lv_icmp_ne (tgt := 65) hx hb dX4_readAtom_58 rfl (fun c_70 => absurd c_70 (by decide +kernel)) (fun c_70 => ?_)
        refine lv_aload_n hx hb dX4_readAtom_61 rfl (lv_at hl 4 rfl) ?_
        obtain ⟨hPc, hDc, hFc, hqc⟩ := cl_cut (wc := (wd_c_X9_refuseHere h1 h1_0 h1_f1 x_59 h1_f3)) hP hD hS hA [0] (by decide +kernel) rfl
        have hKc := hK.sub (tys' := []) [] rfl
        have hrv := va_recv hKc hPc (ci := 9) (q0 := 0) rfl rfl
        refine va_callv (va_runV (As := []) (rest := []) ⟨hx, hb, hml, hown, hts⟩ (c_X9_refuseHere l dC dI H.size h1 h1_0 h1_f1 x_59 h1_f3 (RG_w g_h1_f1 (by decide +kernel)) h_61 g_h1_f3) (cwV 0 hts gf_c_X4_readAtom_c_X9_refuseHere rfl rfl rfl mdV_X9_refuseHere ⟨Nat.le_of_ble_eq_true rfl, Nat.le_of_ble_eq_true rfl⟩) ⟨fun a U g mk q => by obtain ⟨q0, q1, qP, qK, qD⟩ := q; exact ⟨q0, q1, qP, va_K.moved (u := U) (U := U.calling g mk a) (Vm.Alike.refl U.vm) qK, qD⟩, hrv, fun U hU hW => ⟨rfl, by rw [hU], by rw [hU]; exact hPc, va_K.moved hW.alike hKc, hDc.weaken (fun _ _ _ _ => trivial)⟩⟩ rfl rfl hl.1 rfl (lv_room (Nat.le_of_ble_eq_true rfl)) dX4_readAtom_62 ⟨Nat.le_of_ble_eq_true rfl, Nat.le_of_ble_eq_true rfl⟩) hS (fun q _ h => hFc q h) hFc (fun x_72 t H1 locs ht hvm hw hB hz1 hk1 hS => ?_)
        as_aux_lemma =>
        obtain ⟨hP1, hK1, hD1⟩ := hB
        rw [ht] at hP1
        obtain ⟨hP, hD⟩ := cl_put (w1 := (wd_c_X9_refuseHere h1 h1_0 h1_f1 x_59 x_72)) (nw := (wd_c_X4_readAtom h1 h1_0 h1_f1 x_59 x_72 h1_0 h1_0k h1_0c h0 h0_0 h0_f1 h0_2 h0_0 h0_0k h0_0c)) hP hD [0] [4, 1, 2, 3] 4 rfl hqc (by decide +kernel) rfl hk1 hFc hP1 hD1
        generalize H1 = H at hP hS ⊢
        as_aux_lemma =>
        rcases hw with ⟨h_73, h_74⟩
        have h_74 : x_72 = _ := h_74
        replace hEX := hEX.trans (exc1_eq h_74)
        exact hU _ _ _ (J65b (-1) x_59 x_72 g_h0_f1 g_h1_f1 g_h1_f2 g_h1_f3 h_61 (RG_w h_73 (by decide +kernel)) (RG_w (RG_k (-1) (-1) rfl) (by decide +kernel)) hEX _ _ _ hP hD hS (lv_sub hl [0, 3] rfl))
      · have h_69 : (r_58, x_59) = _ := h_69
        replace hEX := hEX.trans (exc2_eq h_69)
        replace hEX := hEX.trans (if_neg (RG_neq (x := r_58) (c := (-1)) (show RG r_58 0 9999 from h_64) (by decide +kernel)))
        refine lv_istore (lv' := [(5, .int r_58), (4, .int (-1)), (3, .int j20b_l3), (0, .ref h0), (1, .ref h1), (2, .int 0)]) hx hb dX4_readAtom_53 hl (Nat.le_of_ble_eq_true rfl) rfl (fun ls hl => ?_)
        refine lv_iload hx hb dX4_readAtom_55 (lv_at hl 0 rfl) ?_
        refine lv_iconst (v := (-1)) hx hb dX4_readAtom_57 kc_iconst_m1 ?_
        refine lv_icmp_ne (tgt := 65) hx hb dX4_readAtom_58 rfl (fun c_75 => ?_) (fun c_75 => ?_)
        · replace hEX := hEX.trans (if_neg c_75)
          exact hU _ _ _ (J65b r_58 x_59 h1_f3 g_h0_f1 g_h1_f1 g_h1_f2 g_h1_f3 (RG_w h_65 (by decide +kernel)) g_h1_f3 (RG_w h_64 (by decide +kernel)) hEX _ _ _ hP hD hS (lv_sub hl [0, 3] rfl))
        · replace hEX := hEX.trans (if_pos c_75)
          exact RG_dead (RG_eq1 h_64 (RG_k (-1) (-1) rfl) c_75 (a' := 0) (b' := (-1)) (by decide +kernel)) (by decide +kernel)
  have J20c : ∀ (j20c_l3 : Int32) (j20c_s0 : Int32) (j20c_h1_f2 : Int32) (g_h0_f1 : RG h0_f1 0 240) (g_h1_f1 : RG h1_f1 1 240) (g_h1_f2 : RG h1_f2 0 240) (g_h1_f3 : RG h1_f3 (-1) 240) (g_j20c_h1_f2 : RG j20c_h1_f2 0 239) (g_j20c_l3 : RG j20c_l3 0 255) (g_j20c_s0 : RG j20c_s0 0 5) (hEX : RES = fx_c_X4_readAtom_p20c h1_f3 h0_f1 h0_0c j20c_s0 j20c_h1_f2) (H : Heap) (locs : List Loc) (ls : Array Slot) (hP : va_P (dC, dI) vwCl (wd_c_X4_readAtom h1 h1_0 h1_f1 j20c_h1_f2 h1_f3 h1_0 h1_0k h1_0c h0 h0_0 h0_f1 h0_2 h0_0 h0_0k h0_0c) H) (hD : va_D A (wd_c_X4_readAtom h1 h1_0 h1_f1 j20c_h1_f2 h1_f3 h1_0 h1_0k h1_0c h0 h0_0 h0_f1 h0_2 h0_0 h0_0k h0_0c)) (hS : va_S A s.heap H locs) (hl : lv_has ls 6 [(3, .int j20c_l3), (0, .ref h0), (1, .ref h1), (2, .int 0)]), G H locs (F0 m 20 ls [.int j20c_s0]) := by
    as_aux_lemma =>
    intro j20c_l3 j20c_s0 j20c_h1_f2 g_h0_f1 g_h1_f1 g_h1_f2 g_h1_f3 g_j20c_h1_f2 g_j20c_l3 g_j20c_s0 hEX H locs ls hP hD hS hl
    refine hG _ _ _ ?_
    refine lv_istore (lv' := [(4, .int j20c_s0), (3, .int j20c_l3), (0, .ref h0), (1, .ref h1), (2, .int 0)]) hx hb dX4_readAtom_20 hl (Nat.le_of_ble_eq_true rfl) rfl (fun ls hl => ?_)
    refine lv_iload hx hb dX4_readAtom_22 (lv_at hl 0 rfl) ?_
    refine lv_if_lt (tgt := 42) hx hb dX4_readAtom_24 rfl (fun c_76 => ?_) (fun c_76 => ?_)
    · replace hEX := hEX.trans (if_pos c_76)
      have g_77 : RG j20c_s0 0 (-1) := RG_lt1 g_j20c_s0 (RG_k 0 0 rfl) c_76 (by decide +kernel)
      exact RG_dead (RG_lt1 g_j20c_s0 (RG_k 0 0 rfl) c_76 (b' := (-1)) (by decide +kernel)) (by decide +kernel)
    · replace hEX := hEX.trans (if_neg c_76)
      have d_78 := Int32.not_lt.mp c_76
      refine lv_aload_n hx hb dX4_readAtom_27 rfl (lv_at hl 3 rfl) ?_
      obtain ⟨hPc, hDc, hFc, hqc⟩ := cl_cut (wc := (wd_c_X9_skip h1 h1_0 h1_f1 j20c_h1_f2 h1_f3)) hP hD hS hA [0] (by decide +kernel) rfl
      have hKc := hK.sub (tys' := []) [] rfl
      have hrv := va_recv hKc hPc (ci := 9) (q0 := 0) rfl rfl
      refine va_callv (va_runV (As := []) (rest := []) ⟨hx, hb, hml, hown, hts⟩ (c_X9_skip l dC dI H.size h1 h1_0 h1_f1 j20c_h1_f2 h1_f3 (RG_w g_h1_f1 (by decide +kernel)) g_j20c_h1_f2 g_h1_f3) (cwV 0 hts gf_c_X4_readAtom_c_X9_skip rfl rfl rfl mdV_X9_skip ⟨Nat.le_of_ble_eq_true rfl, Nat.le_of_ble_eq_true rfl⟩) ⟨fun a U g mk q => by obtain ⟨q0, q1, qP, qK, qD⟩ := q; exact ⟨q0, q1, qP, va_K.moved (u := U) (U := U.calling g mk a) (Vm.Alike.refl U.vm) qK, qD⟩, hrv, fun U hU hW => ⟨rfl, by rw [hU], by rw [hU]; exact hPc, va_K.moved hW.alike hKc, hDc.weaken (fun _ _ _ _ => trivial)⟩⟩ rfl rfl hl.1 rfl (lv_room (Nat.le_of_ble_eq_true rfl)) dX4_readAtom_28 ⟨Nat.le_of_ble_eq_true rfl, Nat.le_of_ble_eq_true rfl⟩) hS (fun q _ h => hFc q h) hFc (fun x_80 t H1 locs ht hvm hw hB hz1 hk1 hS => ?_)
      as_aux_lemma =>
      obtain ⟨hP1, hK1, hD1⟩ := hB
      rw [ht] at hP1
      obtain ⟨hP, hD⟩ := cl_put (w1 := (wd_c_X9_skip h1 h1_0 h1_f1 x_80 h1_f3)) (nw := (wd_c_X4_readAtom h1 h1_0 h1_f1 x_80 h1_f3 h1_0 h1_0k h1_0c h0 h0_0 h0_f1 h0_2 h0_0 h0_0k h0_0c)) hP hD [0] [4, 1, 2, 3] 4 rfl hqc (by decide +kernel) rfl hk1 hFc hP1 hD1
      generalize H1 = H at hP hS ⊢
      as_aux_lemma =>
      rcases hw with ⟨h_81, h_82, h_83, h_84⟩
      have h_84 : x_80 = _ := h_84
      replace hEX := hEX.trans (exc1_eq h_84)
      refine lv_aload_n hx hb dX4_readAtom_31 rfl (lv_at hl 2 rfl) ?_
      refine lv_iconst (v := (-1)) hx hb dX4_readAtom_32 kc_iconst_m1 ?_
      refine lv_iload hx hb dX4_readAtom_33 (lv_at hl 0 rfl) ?_
      refine lv_isub hx hb dX4_readAtom_35 ?_
      refine lv_topi (fun x_85 ex_85 => ?_)
      replace hEX := hEX.trans (exl_eq ex_85)
      have g_86 : RG x_85 (-6) (-1) := RG_sub ex_85 (RG_k (-1) (-1) rfl) g_j20c_s0 (by decide +kernel)
      obtain ⟨hPc, hDc, hFc, hqc⟩ := cl_cut (wc := (wd_c_X4_emit h0 h0_0 h0_f1 h0_2 h0_0 h0_0k h0_0c)) hP hD hS hA [2, 3] (by decide +kernel) rfl
      have hKc := hK.sub (tys' := [(h0_0k, .int)]) [1] rfl
      have hrv := va_recv hKc hPc (ci := 4) (q0 := 0) rfl rfl
      refine va_callv (va_runV (As := [.int x_85]) (rest := []) ⟨hx, hb, hml, hown, hts⟩ (c_X4_emit l dC dI H.size h0 x_85 h0_0 h0_f1 h0_2 h0_0k h0_0c g_h0_f1) (cwV 1 hts gf_c_X4_readAtom_c_X4_emit rfl rfl rfl mdV_X4_emit ⟨Nat.le_of_ble_eq_true rfl, Nat.le_of_ble_eq_true rfl⟩) ⟨fun a U g mk q => by obtain ⟨q0, q1, qP, qK, qD⟩ := q; exact ⟨q0, q1, qP, va_K.moved (u := U) (U := U.calling g mk a) (Vm.Alike.refl U.vm) qK, qD⟩, hrv, fun U hU hW => ⟨rfl, by rw [hU], by rw [hU]; exact hPc, va_K.moved hW.alike hKc, hDc.weaken (fun _ _ _ _ => trivial)⟩⟩ rfl rfl hl.1 rfl (lv_room (Nat.le_of_ble_eq_true rfl)) dX4_readAtom_36 ⟨Nat.le_of_ble_eq_true rfl, Nat.le_of_ble_eq_true rfl⟩) hS (fun q _ h => hFc q h) hFc (fun u t H1 locs ht hvm hw hB hz1 hk1 hS => ?_)
      as_aux_lemma =>
      obtain ⟨x_88, w_89⟩ := u
      obtain ⟨hP1, hK1, hD1⟩ := hB
      rw [ht] at hP1
      obtain ⟨hP, hD⟩ := cl_put (w1 := (wd_c_X4_emit h0 h0_0 x_88 h0_2 h0_0 h0_0k w_89)) (nw := (wd_c_X4_readAtom h1 h1_0 h1_f1 x_80 h1_f3 h1_0 h1_0k h1_0c h0 h0_0 x_88 h0_2 h0_0 h0_0k w_89)) hP hD [2, 3] [0, 1, 4, 5] 4 rfl hqc (by decide +kernel) rfl hk1 hFc hP1 hD1
      generalize H1 = H at hP hS ⊢
      as_aux_lemma =>
      rcases hw with ⟨h_90, h_91⟩
      have h_91 : (x_88, w_89) = _ := h_91
      replace hEX := hEX.trans (exc2_eq h_91)
      refine lv_goto (tgt := 105) hx hb dX4_readAtom_39 rfl ?_
      have hK9 := hK.sub (tys' := []) [] rfl
      exact W.vret hx hb hr (fun t ht hW => ⟨⟨(x_80, h1_f3, x_88, w_89), rfl, ⟨(RG_w h_81 (by decide +kernel)), g_h1_f3, (RG_w h_90 (by decide +kernel)), (hR.trans hEX).symm⟩, by rw [ht]; exact hP, va_K.moved hW.alike hK9, hD⟩, hS.F ht⟩) hS.2.2 dX4_readAtom_105
  refine hG _ _ _ ?_
  refine lv_aload_n hx hb dX4_readAtom_0 rfl (lv_at hl 1 rfl) ?_
  obtain ⟨hPc, hDc, hFc, hqc⟩ := cl_cut (wc := (wd_c_X9_peek h1 h1_0 h1_f1 h1_f2 h1_f3 h1_0 h1_0k h1_0c)) hP hD hS hA [0, 1] (by decide +kernel) rfl
  have hKc := hK.sub (tys' := [(h1_0k, .int)]) [0] rfl
  have hrv := va_recv hKc hPc (ci := 9) (q0 := 0) rfl rfl
  refine va_calli (va_runV (As := []) (rest := []) ⟨hx, hb, hml, hown, hts⟩ (c_X9_peek l dC dI H.size h1 h1_0 h1_f1 h1_f2 h1_f3 h1_0k h1_0c g_h1_f1 g_h1_f2 g_h1_f3 a_h1_0c) (cwV 0 hts gf_c_X4_readAtom_c_X9_peek rfl rfl rfl mdV_X9_peek ⟨Nat.le_of_ble_eq_true rfl, Nat.le_of_ble_eq_true rfl⟩) ⟨fun a U g mk q => by obtain ⟨q0, q1, qP, qK, qD⟩ := q; exact ⟨q0, q1, qP, va_K.moved (u := U) (U := U.calling g mk a) (Vm.Alike.refl U.vm) qK, qD⟩, hrv, fun U hU hW => ⟨rfl, by rw [hU], by rw [hU]; exact hPc, va_K.moved hW.alike hKc, hDc.weaken (fun _ _ _ _ => trivial)⟩⟩ rfl rfl hl.1 rfl (lv_room (Nat.le_of_ble_eq_true rfl)) dX4_readAtom_1 ⟨Nat.le_of_ble_eq_true rfl, Nat.le_of_ble_eq_true rfl⟩) hS (fun q _ h => hFc q h) hFc (fun r_92 x_93 t H1 locs ht hvm hw hB hz1 hk1 hS => ?_)
  obtain ⟨hP1, hK1, hD1⟩ := hB
  rw [ht] at hP1
  obtain ⟨hP, hD⟩ := cl_put (w1 := (wd_c_X9_peek h1 h1_0 h1_f1 x_93 h1_f3 h1_0 h1_0k h1_0c)) (nw := (wd_c_X4_readAtom h1 h1_0 h1_f1 x_93 h1_f3 h1_0 h1_0k h1_0c h0 h0_0 h0_f1 h0_2 h0_0 h0_0k h0_0c)) hP hD [0, 1] [4, 5, 2, 3] 4 rfl hqc (by decide +kernel) rfl hk1 hFc hP1 hD1
  generalize H1 = H at hP hS ⊢
  as_aux_lemma =>
  rcases hw with ⟨h_94, h_95, h_96, h_97⟩ | ⟨h_98, h_99, h_100, h_101, h_102⟩
  · have h_97 : (r_92, x_93) = _ := h_97
    replace hEX := hEX.trans (exc2_eq h_97)
    replace hEX := hEX.trans (if_pos (show r_92 = (-1) from h_94))
    rw [h_94]
    refine lv_istore_n (lv' := [(3, .int (-1)), (0, .ref h0), (1, .ref h1), (2, .int 0)]) hx hb dX4_readAtom_4 rfl hl (Nat.le_of_ble_eq_true rfl) rfl (fun ls hl => ?_)
    refine lv_iload_n hx hb dX4_readAtom_5 rfl (lv_at hl 0 rfl) ?_
    refine lv_if_ge (tgt := 13) hx hb dX4_readAtom_6 rfl (fun c_103 => absurd c_103 (by decide +kernel)) (fun c_103 => ?_)
    refine lv_iconst (v := (-1)) hx hb dX4_readAtom_9 kc_iconst_m1 ?_
    refine lv_goto (tgt := 20) hx hb dX4_readAtom_10 rfl ?_
    exact hU _ _ _ (J20 x_93 g_h0_f1 g_h1_f1 g_h1_f2 g_h1_f3 h_95 hEX _ _ _ hP hD hS (lv_sub hl [0, 1, 2, 3] rfl))
  · have h_102 : (r_92, x_93) = _ := h_102
    replace hEX := hEX.trans (exc2_eq h_102)
    replace hEX := hEX.trans (if_neg (RG_neq (x := r_92) (c := (-1)) (show RG r_92 0 255 from h_98) (by decide +kernel)))
    refine lv_istore_n (lv' := [(3, .int r_92), (0, .ref h0), (1, .ref h1), (2, .int 0)]) hx hb dX4_readAtom_4 rfl hl (Nat.le_of_ble_eq_true rfl) rfl (fun ls hl => ?_)
    as_aux_lemma =>
    refine lv_iload_n hx hb dX4_readAtom_5 rfl (lv_at hl 0 rfl) ?_
    refine lv_if_ge (tgt := 13) hx hb dX4_readAtom_6 rfl (fun c_104 => ?_) (fun c_104 => ?_)
    · replace hEX := hEX.trans (if_pos c_104)
      refine va_ldcS hx hb hown hE_32 dX4_readAtom_13 ?_
      refine lv_iload_n hx hb dX4_readAtom_15 rfl (lv_at hl 0 rfl) ?_
      refine lv_i2c hx hb dX4_readAtom_16 rfl ?_
      refine lv_topi (fun x_105 ex_105 => ?_)
      replace hEX := hEX.trans (exl_eq ex_105)
      have g_106 : RG x_105 0 65535 := RG_i2c ex_105
      obtain ⟨hPc, hDc, hFc, hqc⟩ := cl_cut (wc := []) hP hD hS hA [] (by decide +kernel) rfl
      have hKc := hK.sub (tys' := []) [] rfl
      have hrv := bv_Orecv hE_33 hS
      refine va_calli (va_runV (As := [.int x_105]) (rest := []) ⟨hx, hb, hml, hown, hts⟩ (c_J0_indexOf_0f7a4_4 l dC dI H.size ts4 x_105 tv4 g_106) (cwV 1 hts gf_c_X4_readAtom_c_J0_indexOf_0f7a4_4 rfl rfl rfl mdV_J0_indexOf_0f7a4 ⟨Nat.le_of_ble_eq_true rfl, Nat.le_of_ble_eq_true rfl⟩) ⟨fun a U g mk q => by obtain ⟨q0, q1, qP, qK, qD, qE0, qE1, qE2, qE3, qE4⟩ := q; exact ⟨q0, q1, qP, va_K.moved (u := U) (U := U.calling g mk a) (Vm.Alike.refl U.vm) qK, qD, va_Z.moved (u := U) (U := U.calling g mk a) (Vm.Alike.refl U.vm) qE0, va_OF.moved (u := U) (U := U.calling g mk a) (Vm.Alike.refl U.vm) qE1, va_O.moved (u := U) (U := U.calling g mk a) (Vm.Alike.refl U.vm) qE2, va_OF.moved (u := U) (U := U.calling g mk a) (Vm.Alike.refl U.vm) qE3, va_T.moved (u := U) (U := U.calling g mk a) (Vm.Alike.refl U.vm) qE4⟩, hrv, fun U hU hW => ⟨rfl, by rw [hU], by rw [hU]; exact hPc, va_K.moved hW.alike hKc, hDc.weaken (fun _ _ _ _ => trivial), va_Z.moved hW.alike (by rw [hU]; exact (hE_10.kept hS.2.1).narrow hFc), va_OF.moved hW.alike (by rw [hU]; exact (hE_34.kept hS.2.1).narrow hFc), va_O.moved hW.alike (by rw [hU]; exact (hE_33.kept hS.2.1).narrow hFc), va_OF.moved hW.alike (by rw [hU]; exact (hE_35.kept hS.2.1).narrow hFc), va_T.moved hW.alike (by rw [hU]; exact (hE_36.kept hS.2.1).narrow hFc)⟩⟩ rfl rfl hl.1 rfl (lv_room (Nat.le_of_ble_eq_true rfl)) dX4_readAtom_17 ⟨Nat.le_of_ble_eq_true rfl, Nat.le_of_ble_eq_true rfl⟩) hS (fun q _ h => hFc q h) hFc (fun r_107 u t H1 locs ht hvm hw hB hz1 hk1 hS => ?_)
      obtain ⟨hP1, hK1, hD1⟩ := hB
      rw [ht] at hP1
      have hP := bv_still hP hk1
      generalize H1 = H at hP hS ⊢
      as_aux_lemma =>
      rcases hw with ⟨h_108, h_109⟩ | ⟨h_110, h_111, h_112⟩
      · have h_109 : r_107 = _ := h_109
        replace hEX := hEX.trans (exc1_eq h_109)
        replace hEX := hEX.trans (if_pos (show r_107 = (-1) from h_108))
        rw [h_108]
        exact hU _ _ _ (J20b r_92 x_93 g_h0_f1 h_100 g_h1_f2 g_h1_f3 h_99 h_98 hEX _ _ _ hP hD hS (lv_sub hl [0, 1, 2, 3] rfl))
      · have h_112 : r_107 = _ := h_112
        replace hEX := hEX.trans (exc1_eq h_112)
        replace hEX := hEX.trans (if_neg (RG_neq (x := r_107) (c := (-1)) (show RG r_107 0 5 from h_110) (by decide +kernel)))
        exact hU _ _ _ (J20c r_92 r_107 x_93 g_h0_f1 h_100 g_h1_f2 g_h1_f3 h_99 h_98 h_110 hEX _ _ _ hP hD hS (lv_sub hl [0, 1, 2, 3] rfl))
    · replace hEX := hEX.trans (if_neg c_104)
      have d_113 := Int32.not_le.mp c_104
      have g_114 : RG r_92 0 (-1) := RG_lt1 h_98 (RG_k 0 0 rfl) d_113 (by decide +kernel)
      exact RG_dead (RG_lt1 h_98 (RG_k 0 0 rfl) d_113 (b' := (-1)) (by decide +kernel)) (by decide +kernel)
noncomputable def wd_c_X4_readSum (a0 : Nat) (a1 : Nat) (a2 : Int32) (a3 : Int32) (a4 : Int32) (a5 : Nat) (a6 : ClassId) (a7 : Nat → Int32) (a8 : Nat) (a9 : Nat) (a10 : Int32) (a11 : Nat) (a12 : Nat) (a13 : ClassId) (a14 : Nat → Int32) : va_W := [(a0, .inr (9, [.ref a1, .int a2, .int a3, .int a4])), (a5, .inl (a6, 240, .inl a7)), (a8, .inr (4, [.ref a9, .int a10, .ref a11])), (a12, .inl (a13, 240, .inl a14))]
noncomputable def wf_c_X4_readSum : List Cond := List.cons (.code yX4_readSum cX4_readSum 6 none) (@HAppend.hAppend (List Cond) (List Cond) (List Cond) _ (@HAppend.hAppend (List Cond) (List Cond) (List Cond) _ [.methodLink RX4 72 yX9_isRight, .instanceMethod yX9_isRight, .selects RX9 yX9_isRight yX9_isRight, .initialized RX9, .code yX9_isRight cX9_isRight 1 (some .boolean), .fieldLink RX9 15 "BuoyVote$Tape" "wrong" "I", .methodLink RX4 85 yX4_readAtom, .instanceMethod yX4_readAtom, .selects RX4 yX4_readAtom yX4_readAtom, .initialized RX4, .code yX4_readAtom cX4_readAtom 6 none, .methodLink RX4 41 yX9_peek, .instanceMethod yX9_peek, .selects RX9 yX9_peek yX9_peek, .code yX9_peek cX9_peek 1 (some .int), .fieldLink RX9 22 "BuoyVote$Tape" "at" "I", .fieldLink RX9 19 "BuoyVote$Tape" "length" "I", .fieldLink RX9 11 "BuoyVote$Tape" "bytes" "[I", .methodLink RX4 93 yJ0_indexOf_0f7a4, .instanceMethod yJ0_indexOf_0f7a4, .selects RJ0 yJ0_indexOf_0f7a4 yJ0_indexOf_0f7a4, .initialized RJ0, .code yJ0_indexOf_0f7a4 cJ0_indexOf_0f7a4 2 (some .int), .methodLink RJ0 633 yJ0_indexOf_7cf53, .instanceMethod yJ0_indexOf_7cf53, .selects RJ0 yJ0_indexOf_7cf53 yJ0_indexOf_7cf53, .code yJ0_indexOf_7cf53 cJ0_indexOf_7cf53 3 (some .int), .methodLink RJ0 492 yJ0_isLatin1_aae02, .instanceMethod yJ0_isLatin1_aae02, .selects RJ0 yJ0_isLatin1_aae02 yJ0_isLatin1_aae02, .code yJ0_isLatin1_aae02 cJ0_isLatin1_aae02 1 (some .boolean), .fieldLink RJ0 38 "java/lang/String" "COMPACT_STRINGS" "Z", .fieldLink RJ0 15 "java/lang/String" "coder" "B", .fieldLink RJ0 9 "java/lang/String" "value" "[B", .methodLink RJ0 505 yJ0_length_8abf5, .instanceMethod yJ0_length_8abf5, .selects RJ0 yJ0_length_8abf5 yJ0_length_8abf5, .code yJ0_length_8abf5 cJ0_length_8abf5 1 (some .int), .methodLink RJ0 335 yJ0_coder_7d493, .instanceMethod yJ0_coder_7d493, .selects RJ0 yJ0_coder_7d493 yJ0_coder_7d493, .code yJ0_coder_7d493 cJ0_coder_7d493 1 (some .byte), .methodLink RJ0 637 yJ1_indexOf_4cfef, .static yJ1_indexOf_4cfef, .initialized RJ1, .code yJ1_indexOf_4cfef cJ1_indexOf_4cfef 4 (some .int), .methodLink RJ1 88 yJ1_canEncode_9a6ad, .static yJ1_canEncode_9a6ad, .code yJ1_canEncode_9a6ad cJ1_canEncode_9a6ad 1 (some .boolean), .methodLink RJ1 92 Lib.Math.max.name, .static Lib.Math.max.name, .initialized "java/lang/Math", .code Lib.Math.max.name Lib.Math.max.code 2 (some .int), .methodLink RJ1 38 Lib.Math.min.name, .static Lib.Math.min.name, .code Lib.Math.min.name Lib.Math.min.code 2 (some .int), .methodLink RJ1 95 yJ1_indexOfChar_4cfef, .static yJ1_indexOfChar_4cfef, .code yJ1_indexOfChar_4cfef cJ1_indexOfChar_4cfef 6 (some .int), .methodLink RX4 99 yX9_number, .instanceMethod yX9_number, .selects RX9 yX9_number yX9_number, .code yX9_number cX9_number 4 (some .int), .methodLink RX4 82 yX9_refuseHere, .instanceMethod yX9_refuseHere, .selects RX9 yX9_refuseHere yX9_refuseHere, .code yX9_refuseHere cX9_refuseHere 1 none, .methodLink RX9 25 yX9_refuse, .instanceMethod yX9_refuse, .selects RX9 yX9_refuse yX9_refuse, .code yX9_refuse cX9_refuse 2 none, .methodLink RX4 79 yX9_skip, .instanceMethod yX9_skip, .selects RX9 yX9_skip yX9_skip, .code yX9_skip cX9_skip 1 none, .methodLink RX4 49 yX4_readSum, .instanceMethod yX4_readSum, .selects RX4 yX4_readSum yX4_readSum, .methodLink RX4 60 yX4_emit, .instanceMethod yX4_emit, .selects RX4 yX4_emit yX4_emit, .code yX4_emit cX4_emit 2 none, .fieldLink RX4 20 "BuoyVote$Law" "length" "I", .fieldLink RX4 11 "BuoyVote$Law" "code" "[I", .methodLink RX4 88 yX9_takeEither, .instanceMethod yX9_takeEither, .selects RX9 yX9_takeEither yX9_takeEither, .code yX9_takeEither cX9_takeEither 4 (some .int), .methodLink RX9 29 yX9_peek, .methodLink RX4 37 yX9_expect, .instanceMethod yX9_expect, .selects RX9 yX9_expect yX9_expect, .code yX9_expect cX9_expect 2 none] wsX90) wsX40)
theorem iw_c_X4_readSum_X9 : ∀ w ∈ wsX90, w ∈ wf_c_X4_readSum := fun w h => List.mem_cons_of_mem _ (List.mem_append_left _ (List.mem_append_right _ h))
theorem iw_c_X4_readSum_X4 : ∀ w ∈ wsX40, w ∈ wf_c_X4_readSum := fun w h => List.mem_cons_of_mem _ (List.mem_append_right _ h)
set_option maxRecDepth 20000 in
theorem gf_c_X4_readSum_c_X9_takeEither : GoodIn wf_c_X4_readSum (wsV RX4 88 RX9 yX9_takeEither wf_c_X9_takeEither) := goodIn_app (gi_l [85, 86, 87, 4] rfl rfl) (gi_cons (j := 88) rfl rfl (goodIn_app (gi_l [89, 13, 14, 4, 15, 16, 17, 18, 6] rfl rfl) (goodIn_sub iw_c_X4_readSum_X9 gw_X9)))
set_option maxRecDepth 20000 in
theorem gf_c_X4_readSum_c_X4_emit : GoodIn wf_c_X4_readSum (wsV RX4 60 RX4 yX4_emit wf_c_X4_emit) := goodIn_app (gi_l [79, 80, 81, 10] rfl rfl) (gi_cons (j := 82) rfl rfl (goodIn_app (gi_l [83, 84] rfl rfl) (goodIn_sub iw_c_X4_readSum_X4 gw_X4)))
set_option maxRecDepth 20000 in
theorem gf_c_X4_readSum_c_X9_isRight : GoodIn wf_c_X4_readSum (wsV RX4 72 RX9 yX9_isRight wf_c_X9_isRight) := goodIn_app (gi_l [1, 2, 3, 4] rfl rfl) (gi_cons (j := 5) rfl rfl (goodIn_app (gi_l [6] rfl rfl) (goodIn_sub iw_c_X4_readSum_X9 gw_X9)))
set_option maxRecDepth 20000 in
theorem gf_c_X4_readSum_c_X4_readAtom : GoodIn wf_c_X4_readSum (wsV RX4 85 RX4 yX4_readAtom wf_c_X4_readAtom) := goodIn_app (gi_l [7, 8, 9, 10] rfl rfl) (gi_cons (j := 11) rfl rfl (goodIn_app (goodIn_app (gi_l [12, 13, 14, 4, 15, 16, 17, 18, 19, 20, 21, 22, 23, 24, 25, 26, 27, 28, 29, 30, 31, 32, 33, 34, 35, 36, 37, 38, 39, 40, 41, 42, 43, 44, 45, 46, 47, 48, 49, 50, 51, 52, 53, 54, 55, 56, 57, 58, 59, 60, 61, 62, 63, 64, 65, 66, 67, 68, 69, 70, 71, 6, 72, 73, 74, 75, 76, 77, 78, 10, 0, 1, 2, 3, 5, 7, 8, 9, 79, 80, 81, 82, 83, 84, 85, 86, 87, 88, 89, 90, 91, 92, 93] rfl rfl) (goodIn_sub iw_c_X4_readSum_X9 gw_X9)) (goodIn_sub iw_c_X4_readSum_X4 gw_X4)))
set_option maxHeartbeats 4000000 in
set_option maxRecDepth 100000 in
theorem c_X4_readSum (l : Launch) (dC : Nat → ClassId) (dI : Nat → Nat → Nat) (sz : Nat) (h0 : Nat) (h1 : Nat) (h1_0 : Nat) (h1_f1 : Int32) (h1_f2 : Int32) (h1_f3 : Int32) (h1_0k : ClassId) (h1_0c : Nat → Int32) (h0_0 : Nat) (h0_f1 : Int32) (h0_2 : Nat) (h0_0k : ClassId) (h0_0c : Nat → Int32) (ts4 : Nat) (tv4 : Nat) (g_h1_f1 : RG h1_f1 0 240) (g_h1_f2 : RG h1_f2 0 240) (g_h1_f3 : RG h1_f3 (-1) 240) (a_h1_0c : AI h1_0c 0 255) (g_h0_f1 : RG h0_f1 0 240) : Met l yX4_readSum wf_c_X4_readSum ({ frames := 17, cells := 0, slots := 0, locals := 416 }) (va_Pc [.ref h0, .ref h1, .int 0] (fun U => U.heap.size = sz ∧ va_P (dC, dI) vwCl (wd_c_X4_readSum h1 h1_0 h1_f1 h1_f2 h1_f3 h1_0 h1_0k h1_0c h0 h0_0 h0_f1 h0_2 h0_0 h0_0k h0_0c) U.heap ∧ va_K (dC, dI) vwCl [(h1_0k, .int), (h0_0k, .int)] U ∧ va_D (fun _ => True) (wd_c_X4_readSum h1 h1_0 h1_f1 h1_f2 h1_f3 h1_0 h1_0k h1_0c h0 h0_0 h0_f1 h0_2 h0_0 h0_0k h0_0c) ∧ vk_R RX4 91 "vlrdph" ts4 U ∧ va_Z "java/lang/String" "COMPACT_STRINGS" "Z" (.int 1) (va_A (wd_c_X4_readSum h1 h1_0 h1_f1 h1_f2 h1_f3 h1_0 h1_0k h1_0c h0 h0_0 h0_f1 h0_2 h0_0 h0_0k h0_0c) sz) U U.heap ∧ va_OF "java/lang/String" "coder" "B" (.int 0) ts4 (va_A (wd_c_X4_readSum h1 h1_0 h1_f1 h1_f2 h1_f3 h1_0 h1_0k h1_0c h0 h0_0 h0_f1 h0_2 h0_0 h0_0k h0_0c) sz) U U.heap ∧ va_O "java/lang/String" ts4 (va_A (wd_c_X4_readSum h1 h1_0 h1_f1 h1_f2 h1_f3 h1_0 h1_0k h1_0c h0 h0_0 h0_f1 h0_2 h0_0 h0_0k h0_0c) sz) U U.heap ∧ va_OF "java/lang/String" "value" "[B" (.ref tv4) ts4 (va_A (wd_c_X4_readSum h1 h1_0 h1_f1 h1_f2 h1_f3 h1_0 h1_0k h1_0c h0 h0_0 h0_f1 h0_2 h0_0 h0_0k h0_0c) sz) U U.heap ∧ va_T .byte tv4 6 (fun j => .int ([118, 108, 114, 100, 112, 104].getD j 0)) (va_A (wd_c_X4_readSum h1 h1_0 h1_f1 h1_f2 h1_f3 h1_0 h1_0k h1_0c h0 h0_0 h0_f1 h0_2 h0_0 h0_0k h0_0c) sz) U U.heap)) (va_Qv (fun (u : (Int32) × (Int32) × (Int32) × (Nat → Int32)) => (RG u.1 0 240 ∧ RG u.2.1 (-1) 240 ∧ RG u.2.2.1 0 240 ∧ (u.1, u.2.1, u.2.2.1, u.2.2.2) = fx_c_X4_readSum h1_f1 h1_f2 h1_f3 h1_0c h0_f1 h0_0c)) (fun (u : (Int32) × (Int32) × (Int32) × (Nat → Int32)) t => va_P (dC, dI) vwCl (wd_c_X4_readSum h1 h1_0 h1_f1 (u.1) (u.2.1) h1_0 h1_0k h1_0c h0 h0_0 (u.2.2.1) h0_2 h0_0 h0_0k (u.2.2.2)) t.heap ∧ va_K (dC, dI) vwCl [] t ∧ va_D (va_A (wd_c_X4_readSum h1 h1_0 h1_f1 h1_f2 h1_f3 h1_0 h1_0k h1_0c h0 h0_0 h0_f1 h0_2 h0_0 h0_0k h0_0c) sz) (wd_c_X4_readSum h1 h1_0 h1_f1 (u.1) (u.2.1) h1_0 h1_0k h1_0c h0 h0_0 (u.2.2.1) h0_2 h0_0 h0_0k (u.2.2.2))) (va_A (wd_c_X4_readSum h1 h1_0 h1_f1 h1_f2 h1_f3 h1_0 h1_0k h1_0c h0 h0_0 h0_f1 h0_2 h0_0 h0_0k h0_0c) sz)) 0 0 (va_A (wd_c_X4_readSum h1 h1_0 h1_f1 h1_f2 h1_f3 h1_0 h1_0k h1_0c h0 h0_0 h0_f1 h0_2 h0_0 h0_0k h0_0c) sz) := by
  refine Met.ofW (cc := cX4_readSum) (maxL := 6) (ret := none) (by decide +kernel) rfl ?_
  intro p e s m args below meth c s₁ B hml hv
  obtain ⟨rfl, hsz, hP, hK, hD0, hE_32, hE_10, hE_34, hE_33, hE_35, hE_36⟩ := hv
  have hx := B.exec
  have hb := B.bytes
  have hr := B.returns
  have hts := atoms_spec (ws := wf_c_X4_readSum) B.pre
  have hown : s.vm.findClass RX4 = some m.cls := findClass_of_methodNamed B.named
  have hlocks := B.notSynchronized
  subst hsz
  have hD := hD0.self (sz := s.heap.size)
  generalize hAe : va_A (wd_c_X4_readSum h1 h1_0 h1_f1 h1_f2 h1_f3 h1_0 h1_0k h1_0c h0 h0_0 h0_f1 h0_2 h0_0 h0_0k h0_0c) s.heap.size = A at hD hE_10 hE_34 hE_33 hE_35 hE_36 ⊢
  have hA : ∀ q : Nat, s.heap.size ≤ q → A q := fun q h => by rw [← hAe]; exact Or.inr h
  have hP : va_P (dC, dI) vwCl (wd_c_X4_readSum h1 h1_0 h1_f1 h1_f2 h1_f3 h1_0 h1_0k h1_0c h0 h0_0 h0_f1 h0_2 h0_0 h0_0k h0_0c) s.heap := hP
  have hl := lv_entry ([.ref h0, .ref h1, .int 0]) (n := 6) (Nat.le_of_ble_eq_true rfl)
  rw [lg_entry_eq]
  generalize (lg_sl ([.ref h0, .ref h1, .int 0]) ++ List.replicate (6 - (lg_sl ([.ref h0, .ref h1, .int 0])).length) Slot.unset).toArray = ls at hl ⊢
  have hl : lv_has ls 6 [(0, .ref h0), (1, .ref h1), (2, .int 0)] := hl
  obtain ⟨H, hHe⟩ : ∃ H : Heap, s.heap = H := ⟨_, rfl⟩
  have hS : va_S A s.heap H [] := by rw [hHe]; exact va_S.rf
  have hP : va_P (dC, dI) vwCl (wd_c_X4_readSum h1 h1_0 h1_f1 h1_f2 h1_f3 h1_0 h1_0k h1_0c h0 h0_0 h0_f1 h0_2 h0_0 h0_0k h0_0c) H := by rw [← hHe]; exact hP
  rw [hHe]
  obtain ⟨RES, hR⟩ : ∃ z, fx_c_X4_readSum h1_f1 h1_f2 h1_f3 h1_0c h0_f1 h0_0c = z := ⟨_, rfl⟩
  have hEX : RES = fx_c_X4_readSum h1_f1 h1_f2 h1_f3 h1_0c h0_f1 h0_0c := hR.symm
  refine wj (fun G hG hU => ?_)
  as_aux_lemma =>
  have J8 : ∀ (n8 : Nat) (j8_l5 : Int32) (j8_l4 : Int32) (j8_l3 : Int32) (j8_h1_f2 : Int32) (j8_h1_f3 : Int32) (j8_h0_f1 : Int32) (j8_h0_0c : Nat → Int32) (hM8 : MU j8_l5 < n8) (g_h0_f1 : RG h0_f1 0 240) (g_h1_f1 : RG h1_f1 0 240) (g_h1_f2 : RG h1_f2 0 240) (g_h1_f3 : RG h1_f3 (-1) 240) (g_j8_h0_f1 : RG j8_h0_f1 0 240) (g_j8_h1_f2 : RG j8_h1_f2 0 240) (g_j8_h1_f3 : RG j8_h1_f3 (-1) 240) (g_j8_l3 : RG j8_l3 0 60) (g_j8_l4 : RG j8_l4 0 60) (g_j8_l5 : RG j8_l5 0 240) (hEX : RES = fx_c_X4_readSum_p8 h1_f1 h1_0c n8 j8_l5 j8_l4 j8_l3 j8_h1_f2 j8_h1_f3 j8_h0_f1 j8_h0_0c) (H : Heap) (locs : List Loc) (ls : Array Slot) (hP : va_P (dC, dI) vwCl (wd_c_X4_readSum h1 h1_0 h1_f1 j8_h1_f2 j8_h1_f3 h1_0 h1_0k h1_0c h0 h0_0 j8_h0_f1 h0_2 h0_0 h0_0k j8_h0_0c) H) (hD : va_D A (wd_c_X4_readSum h1 h1_0 h1_f1 j8_h1_f2 j8_h1_f3 h1_0 h1_0k h1_0c h0 h0_0 j8_h0_f1 h0_2 h0_0 h0_0k j8_h0_0c)) (hS : va_S A s.heap H locs) (hl : lv_has ls 6 [(5, .int j8_l5), (4, .int j8_l4), (3, .int j8_l3), (0, .ref h0), (1, .ref h1), (2, .int 0)]), G H locs (F0 m 8 ls []) := by
    as_aux_lemma =>
    intro n8
    induction n8 with
    | zero => intros; exact absurd (by assumption) (Nat.not_lt_zero _)
    | succ n8 ih8 =>
      intro j8_l5 j8_l4 j8_l3 j8_h1_f2 j8_h1_f3 j8_h0_f1 j8_h0_0c hM8 g_h0_f1 g_h1_f1 g_h1_f2 g_h1_f3 g_j8_h0_f1 g_j8_h1_f2 g_j8_h1_f3 g_j8_l3 g_j8_l4 g_j8_l5 hEX H locs ls hP hD hS hl
      have J80 : ∀ (j80_l3 : Int32) (j80_l4 : Int32) (j80_h1_f2 : Int32) (j80_h1_f3 : Int32) (j80_h0_f1 : Int32) (j80_h0_0c : Nat → Int32) (g_h0_f1 : RG h0_f1 0 240) (g_h1_f1 : RG h1_f1 0 240) (g_h1_f2 : RG h1_f2 0 240) (g_h1_f3 : RG h1_f3 (-1) 240) (g_j80_h0_f1 : RG j80_h0_f1 0 240) (g_j80_h1_f2 : RG j80_h1_f2 0 240) (g_j80_h1_f3 : RG j80_h1_f3 (-1) 240) (g_j80_l3 : RG j80_l3 0 60) (g_j80_l4 : RG j80_l4 0 60) (g_j8_h0_f1 : RG j8_h0_f1 0 240) (g_j8_h1_f2 : RG j8_h1_f2 0 240) (g_j8_h1_f3 : RG j8_h1_f3 (-1) (-1)) (g_j8_l3 : RG j8_l3 0 60) (g_j8_l4 : RG j8_l4 0 60) (g_j8_l5 : RG j8_l5 0 239) (hEX : RES = fx_c_X4_readSum_p80 j8_l5 (fx_c_X4_readSum_p8 h1_f1 h1_0c n8) j80_l3 j80_l4 j80_h1_f2 j80_h1_f3 j80_h0_f1 j80_h0_0c) (H : Heap) (locs : List Loc) (ls : Array Slot) (hP : va_P (dC, dI) vwCl (wd_c_X4_readSum h1 h1_0 h1_f1 j80_h1_f2 j80_h1_f3 h1_0 h1_0k h1_0c h0 h0_0 j80_h0_f1 h0_2 h0_0 h0_0k j80_h0_0c) H) (hD : va_D A (wd_c_X4_readSum h1 h1_0 h1_f1 j80_h1_f2 j80_h1_f3 h1_0 h1_0k h1_0c h0 h0_0 j80_h0_f1 h0_2 h0_0 h0_0k j80_h0_0c)) (hS : va_S A s.heap H locs) (hl : lv_has ls 6 [(3, .int j80_l3), (5, .int j8_l5), (4, .int j80_l4), (0, .ref h0), (1, .ref h1), (2, .int 0)]), G H locs (F0 m 80 ls []) := by
        as_aux_lemma =>
        intro j80_l3 j80_l4 j80_h1_f2 j80_h1_f3 j80_h0_f1 j80_h0_0c g_h0_f1 g_h1_f1 g_h1_f2 g_h1_f3 g_j80_h0_f1 g_j80_h1_f2 g_j80_h1_f3 g_j80_l3 g_j80_l4 g_j8_h0_f1 g_j8_h1_f2 g_j8_h1_f3 g_j8_l3 g_j8_l4 g_j8_l5 hEX H locs ls hP hD hS hl
        refine hG _ _ _ ?_
        obtain ⟨x_1, ex_1⟩ : ∃ y : Int32, y = j8_l5 + 1 := ⟨_, rfl⟩
        have g_2 : RG x_1 1 240 := RG_add ex_1 g_j8_l5 (RG_k 1 1 rfl) (by decide +kernel)
        replace hEX := hEX.trans (exl_eq ex_1)
        refine lv_iinc (v := x_1) (lv' := [(5, .int x_1), (3, .int j80_l3), (4, .int j80_l4), (0, .ref h0), (1, .ref h1), (2, .int 0)]) hx hb dX4_readSum_80 hl (k := 1) rfl (by rw [ex_1]; rfl) (Nat.le_of_ble_eq_true rfl) rfl (fun ls hl => ?_)
        refine lv_goto (tgt := 8) hx hb dX4_readSum_83 rfl ?_
        exact hU _ _ _ (ih8 x_1 j80_l4 j80_l3 j80_h1_f2 j80_h1_f3 j80_h0_f1 j80_h0_0c (mu_s (MU_add ex_1 g_j8_l5 (q := 1) rfl (by decide +kernel)) hM8) g_h0_f1 g_h1_f1 g_h1_f2 g_h1_f3 g_j80_h0_f1 g_j80_h1_f2 g_j80_h1_f3 g_j80_l3 g_j80_l4 (RG_w g_2 (by decide +kernel)) hEX _ _ _ hP hD hS (lv_sub hl [0, 2, 1, 3, 4, 5] rfl))
      have J64 : ∀ (j64_l3 : Int32) (j64_h1_f2 : Int32) (j64_h1_f3 : Int32) (j64_h0_f1 : Int32) (j64_h0_0c : Nat → Int32) (g_h0_f1 : RG h0_f1 0 240) (g_h1_f1 : RG h1_f1 0 240) (g_h1_f2 : RG h1_f2 0 240) (g_h1_f3 : RG h1_f3 (-1) 240) (g_j64_h0_f1 : RG j64_h0_f1 0 240) (g_j64_h1_f2 : RG j64_h1_f2 0 240) (g_j64_h1_f3 : RG j64_h1_f3 (-1) 240) (g_j64_l3 : RG j64_l3 0 0) (g_j8_h0_f1 : RG j8_h0_f1 0 240) (g_j8_h1_f2 : RG j8_h1_f2 0 240) (g_j8_h1_f3 : RG j8_h1_f3 (-1) (-1)) (g_j8_l3 : RG j8_l3 0 60) (g_j8_l4 : RG j8_l4 0 60) (g_j8_l5 : RG j8_l5 0 239) (hEX : RES = fx_c_X4_readSum_p64 h1_f1 h1_0c j8_l5 (fx_c_X4_readSum_p8 h1_f1 h1_0c n8) j64_l3 j64_h1_f2 j64_h1_f3 j64_h0_f1 j64_h0_0c) (H : Heap) (locs : List Loc) (ls : Array Slot) (hP : va_P (dC, dI) vwCl (wd_c_X4_readSum h1 h1_0 h1_f1 j64_h1_f2 j64_h1_f3 h1_0 h1_0k h1_0c h0 h0_0 j64_h0_f1 h0_2 h0_0 h0_0k j64_h0_0c) H) (hD : va_D A (wd_c_X4_readSum h1 h1_0 h1_f1 j64_h1_f2 j64_h1_f3 h1_0 h1_0k h1_0c h0 h0_0 j64_h0_f1 h0_2 h0_0 h0_0k j64_h0_0c)) (hS : va_S A s.heap H locs) (hl : lv_has ls 6 [(3, .int j64_l3), (5, .int j8_l5), (0, .ref h0), (1, .ref h1), (2, .int 0)]), G H locs (F0 m 64 ls []) := by
        as_aux_lemma =>
        intro j64_l3 j64_h1_f2 j64_h1_f3 j64_h0_f1 j64_h0_0c g_h0_f1 g_h1_f1 g_h1_f2 g_h1_f3 g_j64_h0_f1 g_j64_h1_f2 g_j64_h1_f3 g_j64_l3 g_j8_h0_f1 g_j8_h1_f2 g_j8_h1_f3 g_j8_l3 g_j8_l4 g_j8_l5 hEX H locs ls hP hD hS hl
        refine hG _ _ _ ?_
        refine lv_aload_n hx hb dX4_readSum_64 rfl (lv_at hl 3 rfl) ?_
        refine lv_bipush (v := 43) hx hb dX4_readSum_65 kc_bipush_43 ?_
        refine lv_bipush (v := 45) hx hb dX4_readSum_67 kc_bipush_45 ?_
        obtain ⟨hPc, hDc, hFc, hqc⟩ := cl_cut (wc := (wd_c_X9_takeEither h1 h1_0 h1_f1 j64_h1_f2 j64_h1_f3 h1_0 h1_0k h1_0c)) hP hD hS hA [0, 1] (by decide +kernel) rfl
        have hKc := hK.sub (tys' := [(h1_0k, .int)]) [0] rfl
        have hrv := va_recv hKc hPc (ci := 9) (q0 := 0) rfl rfl
        refine va_calli (va_runV (As := [.int 43, .int 45]) (rest := []) ⟨hx, hb, hml, hown, hts⟩ (c_X9_takeEither l dC dI H.size h1 43 45 h1_0 h1_f1 j64_h1_f2 j64_h1_f3 h1_0k h1_0c (RG_w (RG_k 43 43 rfl) (by decide +kernel)) (RG_w (RG_k 45 45 rfl) (by decide +kernel)) g_h1_f1 g_j64_h1_f2 g_j64_h1_f3 a_h1_0c) (cwV 2 hts gf_c_X4_readSum_c_X9_takeEither rfl rfl rfl mdV_X9_takeEither ⟨Nat.le_of_ble_eq_true rfl, Nat.le_of_ble_eq_true rfl⟩) ⟨fun a U g mk q => by obtain ⟨q0, q1, qP, qK, qD⟩ := q; exact ⟨q0, q1, qP, va_K.moved (u := U) (U := U.calling g mk a) (Vm.Alike.refl U.vm) qK, qD⟩, hrv, fun U hU hW => ⟨rfl, by rw [hU], by rw [hU]; exact hPc, va_K.moved hW.alike hKc, hDc.weaken (fun _ _ _ _ => trivial)⟩⟩ rfl rfl hl.1 rfl (lv_room (Nat.le_of_ble_eq_true rfl)) dX4_readSum_69 ⟨Nat.le_of_ble_eq_true rfl, Nat.le_of_ble_eq_true rfl⟩) hS (fun q _ h => hFc q h) hFc (fun r_3 x_4 t H1 locs ht hvm hw hB hz1 hk1 hS => ?_)
        obtain ⟨hP1, hK1, hD1⟩ := hB
        rw [ht] at hP1
        obtain ⟨hP, hD⟩ := cl_put (w1 := (wd_c_X9_takeEither h1 h1_0 h1_f1 x_4 j64_h1_f3 h1_0 h1_0k h1_0c)) (nw := (wd_c_X4_readSum h1 h1_0 h1_f1 x_4 j64_h1_f3 h1_0 h1_0k h1_0c h0 h0_0 j64_h0_f1 h0_2 h0_0 h0_0k j64_h0_0c)) hP hD [0, 1] [4, 5, 2, 3] 4 rfl hqc (by decide +kernel) rfl hk1 hFc hP1 hD1
        generalize H1 = H at hP hS ⊢
        as_aux_lemma =>
        rcases hw with ⟨h_5, h_6, h_7, h_8⟩
        have h_8 : (r_3, x_4) = _ := h_8
        replace hEX := hEX.trans (exc2_eq h_8)
        refine lv_istore (lv' := [(4, .int r_3), (3, .int j64_l3), (5, .int j8_l5), (0, .ref h0), (1, .ref h1), (2, .int 0)]) hx hb dX4_readSum_72 hl (Nat.le_of_ble_eq_true rfl) rfl (fun ls hl => ?_)
        refine lv_iload hx hb dX4_readSum_74 (lv_at hl 0 rfl) ?_
        refine lv_if_ne (tgt := 80) hx hb dX4_readSum_76 rfl (fun c_9 => ?_) (fun c_9 => ?_)
        · replace hEX := hEX.trans (if_neg c_9)
          have g_10 : RG r_3 1 60 := RG_ne1 h_5 (q := 0) rfl c_9 (by decide +kernel)
          exact hU _ _ _ (J80 j64_l3 r_3 x_4 j64_h1_f3 j64_h0_f1 j64_h0_0c g_h0_f1 g_h1_f1 g_h1_f2 g_h1_f3 g_j64_h0_f1 h_6 g_j64_h1_f3 (RG_w g_j64_l3 (by decide +kernel)) (RG_w g_10 (by decide +kernel)) g_j8_h0_f1 g_j8_h1_f2 g_j8_h1_f3 g_j8_l3 g_j8_l4 g_j8_l5 hEX _ _ _ hP hD hS (lv_sub hl [1, 2, 0, 3, 4, 5] rfl))
        · replace hEX := hEX.trans (if_pos c_9)
          have g_11 : RG r_3 0 0 := RG_eq1 h_5 (RG_k 0 0 rfl) c_9 (by decide +kernel)
          have hK9 := hK.sub (tys' := []) [] rfl
          exact W.vret hx hb hr (fun t ht hW => ⟨⟨(x_4, j64_h1_f3, j64_h0_f1, j64_h0_0c), rfl, ⟨h_6, g_j64_h1_f3, g_j64_h0_f1, (hR.trans hEX).symm⟩, by rw [ht]; exact hP, va_K.moved hW.alike hK9, hD⟩, hS.F ht⟩) hS.2.2 dX4_readSum_79
      have J39 : ∀ (j39_h1_f2 : Int32) (j39_h1_f3 : Int32) (j39_h0_f1 : Int32) (j39_h0_0c : Nat → Int32) (g_h0_f1 : RG h0_f1 0 240) (g_h1_f1 : RG h1_f1 0 240) (g_h1_f2 : RG h1_f2 0 240) (g_h1_f3 : RG h1_f3 (-1) 240) (g_j39_h0_f1 : RG j39_h0_f1 0 240) (g_j39_h1_f2 : RG j39_h1_f2 0 240) (g_j39_h1_f3 : RG j39_h1_f3 (-1) 240) (g_j8_h0_f1 : RG j8_h0_f1 0 240) (g_j8_h1_f2 : RG j8_h1_f2 0 240) (g_j8_h1_f3 : RG j8_h1_f3 (-1) (-1)) (g_j8_l3 : RG j8_l3 0 60) (g_j8_l4 : RG j8_l4 0 60) (g_j8_l5 : RG j8_l5 0 239) (hEX : RES = fx_c_X4_readSum_p39 h1_f1 h1_0c j8_l5 j8_l4 (fx_c_X4_readSum_p8 h1_f1 h1_0c n8) j39_h1_f2 j39_h1_f3 j39_h0_f1 j39_h0_0c) (H : Heap) (locs : List Loc) (ls : Array Slot) (hP : va_P (dC, dI) vwCl (wd_c_X4_readSum h1 h1_0 h1_f1 j39_h1_f2 j39_h1_f3 h1_0 h1_0k h1_0c h0 h0_0 j39_h0_f1 h0_2 h0_0 h0_0k j39_h0_0c) H) (hD : va_D A (wd_c_X4_readSum h1 h1_0 h1_f1 j39_h1_f2 j39_h1_f3 h1_0 h1_0k h1_0c h0 h0_0 j39_h0_f1 h0_2 h0_0 h0_0k j39_h0_0c)) (hS : va_S A s.heap H locs) (hl : lv_has ls 6 [(5, .int j8_l5), (4, .int j8_l4), (0, .ref h0), (1, .ref h1), (2, .int 0)]), G H locs (F0 m 39 ls []) := by
        as_aux_lemma =>
        intro j39_h1_f2 j39_h1_f3 j39_h0_f1 j39_h0_0c g_h0_f1 g_h1_f1 g_h1_f2 g_h1_f3 g_j39_h0_f1 g_j39_h1_f2 g_j39_h1_f3 g_j8_h0_f1 g_j8_h1_f2 g_j8_h1_f3 g_j8_l3 g_j8_l4 g_j8_l5 hEX H locs ls hP hD hS hl
        refine hG _ _ _ ?_
        refine lv_aload_n hx hb dX4_readSum_39 rfl (lv_at hl 3 rfl) ?_
        refine lv_bipush (v := 42) hx hb dX4_readSum_40 kc_bipush_42 ?_
        refine lv_bipush (v := 47) hx hb dX4_readSum_42 kc_bipush_47 ?_
        obtain ⟨hPc, hDc, hFc, hqc⟩ := cl_cut (wc := (wd_c_X9_takeEither h1 h1_0 h1_f1 j39_h1_f2 j39_h1_f3 h1_0 h1_0k h1_0c)) hP hD hS hA [0, 1] (by decide +kernel) rfl
        have hKc := hK.sub (tys' := [(h1_0k, .int)]) [0] rfl
        have hrv := va_recv hKc hPc (ci := 9) (q0 := 0) rfl rfl
        refine va_calli (va_runV (As := [.int 42, .int 47]) (rest := []) ⟨hx, hb, hml, hown, hts⟩ (c_X9_takeEither l dC dI H.size h1 42 47 h1_0 h1_f1 j39_h1_f2 j39_h1_f3 h1_0k h1_0c (RG_w (RG_k 42 42 rfl) (by decide +kernel)) (RG_w (RG_k 47 47 rfl) (by decide +kernel)) g_h1_f1 g_j39_h1_f2 g_j39_h1_f3 a_h1_0c) (cwV 2 hts gf_c_X4_readSum_c_X9_takeEither rfl rfl rfl mdV_X9_takeEither ⟨Nat.le_of_ble_eq_true rfl, Nat.le_of_ble_eq_true rfl⟩) ⟨fun a U g mk q => by obtain ⟨q0, q1, qP, qK, qD⟩ := q; exact ⟨q0, q1, qP, va_K.moved (u := U) (U := U.calling g mk a) (Vm.Alike.refl U.vm) qK, qD⟩, hrv, fun U hU hW => ⟨rfl, by rw [hU], by rw [hU]; exact hPc, va_K.moved hW.alike hKc, hDc.weaken (fun _ _ _ _ => trivial)⟩⟩ rfl rfl hl.1 rfl (lv_room (Nat.le_of_ble_eq_true rfl)) dX4_readSum_44 ⟨Nat.le_of_ble_eq_true rfl, Nat.le_of_ble_eq_true rfl⟩) hS (fun q _ h => hFc q h) hFc (fun r_12 x_13 t H1 locs ht hvm hw hB hz1 hk1 hS => ?_)
        obtain ⟨hP1, hK1, hD1⟩ := hB
        rw [ht] at hP1
        obtain ⟨hP, hD⟩ := cl_put (w1 := (wd_c_X9_takeEither h1 h1_0 h1_f1 x_13 j39_h1_f3 h1_0 h1_0k h1_0c)) (nw := (wd_c_X4_readSum h1 h1_0 h1_f1 x_13 j39_h1_f3 h1_0 h1_0k h1_0c h0 h0_0 j39_h0_f1 h0_2 h0_0 h0_0k j39_h0_0c)) hP hD [0, 1] [4, 5, 2, 3] 4 rfl hqc (by decide +kernel) rfl hk1 hFc hP1 hD1
        generalize H1 = H at hP hS ⊢
        as_aux_lemma =>
        rcases hw with ⟨h_14, h_15, h_16, h_17⟩
        have h_17 : (r_12, x_13) = _ := h_17
        replace hEX := hEX.trans (exc2_eq h_17)
        refine lv_istore_n (lv' := [(3, .int r_12), (5, .int j8_l5), (4, .int j8_l4), (0, .ref h0), (1, .ref h1), (2, .int 0)]) hx hb dX4_readSum_47 rfl hl (Nat.le_of_ble_eq_true rfl) rfl (fun ls hl => ?_)
        refine lv_iload_n hx hb dX4_readSum_48 rfl (lv_at hl 0 rfl) ?_
        refine lv_if_ne (tgt := 80) hx hb dX4_readSum_49 rfl (fun c_18 => ?_) (fun c_18 => ?_)
        · replace hEX := hEX.trans (if_neg c_18)
          have g_19 : RG r_12 1 60 := RG_ne1 h_14 (q := 0) rfl c_18 (by decide +kernel)
          exact hU _ _ _ (J80 r_12 j8_l4 x_13 j39_h1_f3 j39_h0_f1 j39_h0_0c g_h0_f1 g_h1_f1 g_h1_f2 g_h1_f3 g_j39_h0_f1 h_15 g_j39_h1_f3 (RG_w g_19 (by decide +kernel)) g_j8_l4 g_j8_h0_f1 g_j8_h1_f2 g_j8_h1_f3 g_j8_l3 g_j8_l4 g_j8_l5 hEX _ _ _ hP hD hS (lv_sub hl [0, 1, 2, 3, 4, 5] rfl))
        · replace hEX := hEX.trans (if_pos c_18)
          have g_20 : RG r_12 0 0 := RG_eq1 h_14 (RG_k 0 0 rfl) c_18 (by decide +kernel)
          refine lv_iload hx hb dX4_readSum_52 (lv_at hl 2 rfl) ?_
          refine lv_if_eq (tgt := 64) hx hb dX4_readSum_54 rfl (fun c_21 => ?_) (fun c_21 => ?_)
          · replace hEX := hEX.trans (if_pos c_21)
            have g_22 : RG j8_l4 0 0 := RG_eq1 g_j8_l4 (RG_k 0 0 rfl) c_21 (by decide +kernel)
            exact hU _ _ _ (J64 r_12 x_13 j39_h1_f3 j39_h0_f1 j39_h0_0c g_h0_f1 g_h1_f1 g_h1_f2 g_h1_f3 g_j39_h0_f1 h_15 g_j39_h1_f3 g_20 g_j8_h0_f1 g_j8_h1_f2 g_j8_h1_f3 g_j8_l3 (RG_w g_22 (by decide +kernel)) g_j8_l5 hEX _ _ _ hP hD hS (lv_sub hl [0, 1, 3, 4, 5] rfl))
          · replace hEX := hEX.trans (if_neg c_21)
            have g_23 : RG j8_l4 1 60 := RG_ne1 g_j8_l4 (q := 0) rfl c_21 (by decide +kernel)
            refine lv_aload_n hx hb dX4_readSum_57 rfl (lv_at hl 3 rfl) ?_
            as_aux_lemma =>
            refine lv_iload hx hb dX4_readSum_58 (lv_at hl 2 rfl) ?_
            refine lv_ineg hx hb dX4_readSum_60 ?_
            refine lv_topi (fun x_24 ex_24 => ?_)
            replace hEX := hEX.trans (exl_eq ex_24)
            have g_25 : RG x_24 (-60) (-1) := RG_neg ex_24 g_23 (by decide +kernel)
            obtain ⟨hPc, hDc, hFc, hqc⟩ := cl_cut (wc := (wd_c_X4_emit h0 h0_0 j39_h0_f1 h0_2 h0_0 h0_0k j39_h0_0c)) hP hD hS hA [2, 3] (by decide +kernel) rfl
            have hKc := hK.sub (tys' := [(h0_0k, .int)]) [1] rfl
            have hrv := va_recv hKc hPc (ci := 4) (q0 := 0) rfl rfl
            refine va_callv (va_runV (As := [.int x_24]) (rest := []) ⟨hx, hb, hml, hown, hts⟩ (c_X4_emit l dC dI H.size h0 x_24 h0_0 j39_h0_f1 h0_2 h0_0k j39_h0_0c g_j39_h0_f1) (cwV 1 hts gf_c_X4_readSum_c_X4_emit rfl rfl rfl mdV_X4_emit ⟨Nat.le_of_ble_eq_true rfl, Nat.le_of_ble_eq_true rfl⟩) ⟨fun a U g mk q => by obtain ⟨q0, q1, qP, qK, qD⟩ := q; exact ⟨q0, q1, qP, va_K.moved (u := U) (U := U.calling g mk a) (Vm.Alike.refl U.vm) qK, qD⟩, hrv, fun U hU hW => ⟨rfl, by rw [hU], by rw [hU]; exact hPc, va_K.moved hW.alike hKc, hDc.weaken (fun _ _ _ _ => trivial)⟩⟩ rfl rfl hl.1 rfl (lv_room (Nat.le_of_ble_eq_true rfl)) dX4_readSum_61 ⟨Nat.le_of_ble_eq_true rfl, Nat.le_of_ble_eq_true rfl⟩) hS (fun q _ h => hFc q h) hFc (fun u t H1 locs ht hvm hw hB hz1 hk1 hS => ?_)
            obtain ⟨x_27, w_28⟩ := u
            obtain ⟨hP1, hK1, hD1⟩ := hB
            rw [ht] at hP1
            obtain ⟨hP, hD⟩ := cl_put (w1 := (wd_c_X4_emit h0 h0_0 x_27 h0_2 h0_0 h0_0k w_28)) (nw := (wd_c_X4_readSum h1 h1_0 h1_f1 x_13 j39_h1_f3 h1_0 h1_0k h1_0c h0 h0_0 x_27 h0_2 h0_0 h0_0k w_28)) hP hD [2, 3] [0, 1, 4, 5] 4 rfl hqc (by decide +kernel) rfl hk1 hFc hP1 hD1
            generalize H1 = H at hP hS ⊢
            as_aux_lemma =>
            rcases hw with ⟨h_29, h_30⟩
            have h_30 : (x_27, w_28) = _ := h_30
            replace hEX := hEX.trans (exc2_eq h_30)
            exact hU _ _ _ (J64 r_12 x_13 j39_h1_f3 x_27 w_28 g_h0_f1 g_h1_f1 g_h1_f2 g_h1_f3 (RG_w h_29 (by decide +kernel)) h_15 g_j39_h1_f3 g_20 g_j8_h0_f1 g_j8_h1_f2 g_j8_h1_f3 g_j8_l3 (RG_w g_23 (by decide +kernel)) g_j8_l5 hEX _ _ _ hP hD hS (lv_sub hl [0, 1, 3, 4, 5] rfl))
      refine hG _ _ _ ?_
      replace hEX := hEX.trans (if_pos (rfl : j8_l5 = j8_l5))
      refine lv_iload hx hb dX4_readSum_8 (lv_at hl 0 rfl) ?_
      refine lv_sipush (v := 240) hx hb dX4_readSum_10 kc_sipush_240 ?_
      refine lv_icmp_ge (tgt := 86) hx hb dX4_readSum_13 rfl (fun c_31 => ?_) (fun c_31 => ?_)
      · replace hEX := hEX.trans (if_pos c_31)
        have g_32 : RG j8_l5 240 240 := RG_le2 (RG_k 240 240 rfl) g_j8_l5 c_31 (by decide +kernel)
        have hK9 := hK.sub (tys' := []) [] rfl
        exact W.vret hx hb hr (fun t ht hW => ⟨⟨(j8_h1_f2, j8_h1_f3, j8_h0_f1, j8_h0_0c), rfl, ⟨g_j8_h1_f2, g_j8_h1_f3, g_j8_h0_f1, (hR.trans hEX).symm⟩, by rw [ht]; exact hP, va_K.moved hW.alike hK9, hD⟩, hS.F ht⟩) hS.2.2 dX4_readSum_86
      · replace hEX := hEX.trans (if_neg c_31)
        have d_33 := Int32.not_le.mp c_31
        have g_34 : RG j8_l5 0 239 := RG_lt1 g_j8_l5 (RG_k 240 240 rfl) d_33 (by decide +kernel)
        refine lv_aload_n hx hb dX4_readSum_16 rfl (lv_at hl 4 rfl) ?_
        as_aux_lemma =>
        obtain ⟨hPc, hDc, hFc, hqc⟩ := cl_cut (wc := (wd_c_X9_isRight h1 h1_0 h1_f1 j8_h1_f2 j8_h1_f3)) hP hD hS hA [0] (by decide +kernel) rfl
        have hKc := hK.sub (tys' := []) [] rfl
        have hrv := va_recv hKc hPc (ci := 9) (q0 := 0) rfl rfl
        refine va_calli (va_runV (As := []) (rest := []) ⟨hx, hb, hml, hown, hts⟩ (c_X9_isRight l dC dI H.size h1 h1_0 h1_f1 j8_h1_f2 j8_h1_f3 g_h1_f1 g_j8_h1_f2 g_j8_h1_f3) (cwV 0 hts gf_c_X4_readSum_c_X9_isRight rfl rfl rfl mdV_X9_isRight ⟨Nat.le_of_ble_eq_true rfl, Nat.le_of_ble_eq_true rfl⟩) ⟨fun a U g mk q => by obtain ⟨q0, q1, qP, qK, qD⟩ := q; exact ⟨q0, q1, qP, va_K.moved (u := U) (U := U.calling g mk a) (Vm.Alike.refl U.vm) qK, qD⟩, hrv, fun U hU hW => ⟨rfl, by rw [hU], by rw [hU]; exact hPc, va_K.moved hW.alike hKc, hDc.weaken (fun _ _ _ _ => trivial)⟩⟩ rfl rfl hl.1 rfl (lv_room (Nat.le_of_ble_eq_true rfl)) dX4_readSum_17 ⟨Nat.le_of_ble_eq_true rfl, Nat.le_of_ble_eq_true rfl⟩) hS (fun q _ h => hFc q h) hFc (fun r_35 u t H1 locs ht hvm hw hB hz1 hk1 hS => ?_)
        obtain ⟨hP1, hK1, hD1⟩ := hB
        rw [ht] at hP1
        obtain ⟨hP, hD⟩ := cl_put (w1 := (wd_c_X9_isRight h1 h1_0 h1_f1 j8_h1_f2 j8_h1_f3)) (nw := (wd_c_X4_readSum h1 h1_0 h1_f1 j8_h1_f2 j8_h1_f3 h1_0 h1_0k h1_0c h0 h0_0 j8_h0_f1 h0_2 h0_0 h0_0k j8_h0_0c)) hP hD [0] [4, 1, 2, 3] 4 rfl hqc (by decide +kernel) rfl hk1 hFc hP1 hD1
        generalize H1 = H at hP hS ⊢
        as_aux_lemma =>
        rcases hw with ⟨h_36, h_37, h_38⟩ | ⟨h_39, h_40, h_41⟩
        · have h_38 : r_35 = _ := h_38
          replace hEX := hEX.trans (exc1_eq h_38)
          replace hEX := hEX.trans (if_pos (show r_35 = 0 from h_36))
          rw [h_36]
          refine lv_if_eq (tgt := 86) hx hb dX4_readSum_20 rfl (fun c_42 => ?_) (fun c_42 => absurd c_42 (by decide +kernel))
          have hK9 := hK.sub (tys' := []) [] rfl
          exact W.vret hx hb hr (fun t ht hW => ⟨⟨(j8_h1_f2, j8_h1_f3, j8_h0_f1, j8_h0_0c), rfl, ⟨g_j8_h1_f2, (RG_w h_37 (by decide +kernel)), g_j8_h0_f1, (hR.trans hEX).symm⟩, by rw [ht]; exact hP, va_K.moved hW.alike hK9, hD⟩, hS.F ht⟩) hS.2.2 dX4_readSum_86
        · have h_41 : r_35 = _ := h_41
          replace hEX := hEX.trans (exc1_eq h_41)
          replace hEX := hEX.trans (if_neg (fun q9 : r_35 = 0 => absurd ((show r_35 = 1 from h_39).symm.trans q9) (by decide +kernel)))
          rw [h_39]
          refine lv_if_eq (tgt := 86) hx hb dX4_readSum_20 rfl (fun c_43 => absurd c_43 (by decide +kernel)) (fun c_43 => ?_)
          refine lv_aload_n hx hb dX4_readSum_23 rfl (lv_at hl 3 rfl) ?_
          as_aux_lemma =>
          refine lv_aload_n hx hb dX4_readSum_24 rfl (lv_at hl 4 rfl) ?_
          refine lv_iload_n hx hb dX4_readSum_25 rfl (lv_at hl 5 rfl) ?_
          obtain ⟨hPc, hDc, hFc, hqc⟩ := cl_cut (wc := (wd_c_X4_readAtom h1 h1_0 h1_f1 j8_h1_f2 j8_h1_f3 h1_0 h1_0k h1_0c h0 h0_0 j8_h0_f1 h0_2 h0_0 h0_0k j8_h0_0c)) hP hD hS hA [0, 1, 2, 3] (by decide +kernel) rfl
          have hKc := hK.sub (tys' := [(h1_0k, .int), (h0_0k, .int)]) [0, 1] rfl
          have hrv := va_recv hKc hPc (ci := 4) (q0 := 2) rfl rfl
          refine va_callv (va_runV (As := [.ref h1, .int 0]) (rest := []) ⟨hx, hb, hml, hown, hts⟩ (c_X4_readAtom l dC dI H.size h0 h1 h1_0 h1_f1 j8_h1_f2 j8_h1_f3 h1_0k h1_0c h0_0 j8_h0_f1 h0_2 h0_0k j8_h0_0c ts4 tv4 g_h1_f1 g_j8_h1_f2 (RG_w h_40 (by decide +kernel)) a_h1_0c g_j8_h0_f1) (cwV 2 hts gf_c_X4_readSum_c_X4_readAtom rfl rfl rfl mdV_X4_readAtom ⟨Nat.le_of_ble_eq_true rfl, Nat.le_of_ble_eq_true rfl⟩) ⟨fun a U g mk q => by obtain ⟨q0, q1, qP, qK, qD, qE0, qE1, qE2, qE3, qE4, qE5⟩ := q; exact ⟨q0, q1, qP, va_K.moved (u := U) (U := U.calling g mk a) (Vm.Alike.refl U.vm) qK, qD, vk_R.same rfl qE0, va_Z.moved (u := U) (U := U.calling g mk a) (Vm.Alike.refl U.vm) qE1, va_OF.moved (u := U) (U := U.calling g mk a) (Vm.Alike.refl U.vm) qE2, va_O.moved (u := U) (U := U.calling g mk a) (Vm.Alike.refl U.vm) qE3, va_OF.moved (u := U) (U := U.calling g mk a) (Vm.Alike.refl U.vm) qE4, va_T.moved (u := U) (U := U.calling g mk a) (Vm.Alike.refl U.vm) qE5⟩, hrv, fun U hU hW => ⟨rfl, by rw [hU], by rw [hU]; exact hPc, va_K.moved hW.alike hKc, hDc.weaken (fun _ _ _ _ => trivial), vk_R.warm hW hE_32, va_Z.moved hW.alike (by rw [hU]; exact (hE_10.kept hS.2.1).narrow hFc), va_OF.moved hW.alike (by rw [hU]; exact (hE_34.kept hS.2.1).narrow hFc), va_O.moved hW.alike (by rw [hU]; exact (hE_33.kept hS.2.1).narrow hFc), va_OF.moved hW.alike (by rw [hU]; exact (hE_35.kept hS.2.1).narrow hFc), va_T.moved hW.alike (by rw [hU]; exact (hE_36.kept hS.2.1).narrow hFc)⟩⟩ rfl rfl hl.1 rfl (lv_room (Nat.le_of_ble_eq_true rfl)) dX4_readSum_26 ⟨Nat.le_of_ble_eq_true rfl, Nat.le_of_ble_eq_true rfl⟩) hS (fun q _ h => hFc q h) hFc (fun u t H1 locs ht hvm hw hB hz1 hk1 hS => ?_)
          obtain ⟨x_45, x_46, x_47, w_48⟩ := u
          obtain ⟨hP1, hK1, hD1⟩ := hB
          rw [ht] at hP1
          obtain ⟨hP, hD⟩ := cl_put (w1 := (wd_c_X4_readAtom h1 h1_0 h1_f1 x_45 x_46 h1_0 h1_0k h1_0c h0 h0_0 x_47 h0_2 h0_0 h0_0k w_48)) (nw := (wd_c_X4_readSum h1 h1_0 h1_f1 x_45 x_46 h1_0 h1_0k h1_0c h0 h0_0 x_47 h0_2 h0_0 h0_0k w_48)) hP hD [0, 1, 2, 3] [4, 5, 6, 7] 4 rfl hqc (by decide +kernel) rfl hk1 hFc hP1 hD1
          generalize H1 = H at hP hS ⊢
          as_aux_lemma =>
          rcases hw with ⟨h_49, h_50, h_51, h_52⟩
          have h_52 : (x_45, x_46, x_47, w_48) = _ := h_52
          replace hEX := hEX.trans (exc4_eq h_52)
          refine lv_iload_n hx hb dX4_readSum_29 rfl (lv_at hl 2 rfl) ?_
          refine lv_if_eq (tgt := 39) hx hb dX4_readSum_30 rfl (fun c_53 => ?_) (fun c_53 => ?_)
          · replace hEX := hEX.trans (if_pos c_53)
            have g_54 : RG j8_l3 0 0 := RG_eq1 g_j8_l3 (RG_k 0 0 rfl) c_53 (by decide +kernel)
            exact hU _ _ _ (J39 x_45 x_46 x_47 w_48 g_h0_f1 g_h1_f1 g_h1_f2 g_h1_f3 h_51 h_49 h_50 g_j8_h0_f1 g_j8_h1_f2 h_40 (RG_w g_54 (by decide +kernel)) g_j8_l4 g_34 hEX _ _ _ hP hD hS (lv_sub hl [0, 1, 3, 4, 5] rfl))
          · replace hEX := hEX.trans (if_neg c_53)
            have g_55 : RG j8_l3 1 60 := RG_ne1 g_j8_l3 (q := 0) rfl c_53 (by decide +kernel)
            refine lv_aload_n hx hb dX4_readSum_33 rfl (lv_at hl 3 rfl) ?_
            refine lv_iload_n hx hb dX4_readSum_34 rfl (lv_at hl 2 rfl) ?_
            refine lv_ineg hx hb dX4_readSum_35 ?_
            refine lv_topi (fun x_56 ex_56 => ?_)
            as_aux_lemma =>
            replace hEX := hEX.trans (exl_eq ex_56)
            have g_57 : RG x_56 (-60) (-1) := RG_neg ex_56 g_55 (by decide +kernel)
            obtain ⟨hPc, hDc, hFc, hqc⟩ := cl_cut (wc := (wd_c_X4_emit h0 h0_0 x_47 h0_2 h0_0 h0_0k w_48)) hP hD hS hA [2, 3] (by decide +kernel) rfl
            have hKc := hK.sub (tys' := [(h0_0k, .int)]) [1] rfl
            have hrv := va_recv hKc hPc (ci := 4) (q0 := 0) rfl rfl
            refine va_callv (va_runV (As := [.int x_56]) (rest := []) ⟨hx, hb, hml, hown, hts⟩ (c_X4_emit l dC dI H.size h0 x_56 h0_0 x_47 h0_2 h0_0k w_48 h_51) (cwV 1 hts gf_c_X4_readSum_c_X4_emit rfl rfl rfl mdV_X4_emit ⟨Nat.le_of_ble_eq_true rfl, Nat.le_of_ble_eq_true rfl⟩) ⟨fun a U g mk q => by obtain ⟨q0, q1, qP, qK, qD⟩ := q; exact ⟨q0, q1, qP, va_K.moved (u := U) (U := U.calling g mk a) (Vm.Alike.refl U.vm) qK, qD⟩, hrv, fun U hU hW => ⟨rfl, by rw [hU], by rw [hU]; exact hPc, va_K.moved hW.alike hKc, hDc.weaken (fun _ _ _ _ => trivial)⟩⟩ rfl rfl hl.1 rfl (lv_room (Nat.le_of_ble_eq_true rfl)) dX4_readSum_36 ⟨Nat.le_of_ble_eq_true rfl, Nat.le_of_ble_eq_true rfl⟩) hS (fun q _ h => hFc q h) hFc (fun u t H1 locs ht hvm hw hB hz1 hk1 hS => ?_)
            obtain ⟨x_59, w_60⟩ := u
            obtain ⟨hP1, hK1, hD1⟩ := hB
            rw [ht] at hP1
            obtain ⟨hP, hD⟩ := cl_put (w1 := (wd_c_X4_emit h0 h0_0 x_59 h0_2 h0_0 h0_0k w_60)) (nw := (wd_c_X4_readSum h1 h1_0 h1_f1 x_45 x_46 h1_0 h1_0k h1_0c h0 h0_0 x_59 h0_2 h0_0 h0_0k w_60)) hP hD [2, 3] [0, 1, 4, 5] 4 rfl hqc (by decide +kernel) rfl hk1 hFc hP1 hD1
            generalize H1 = H at hP hS ⊢
            as_aux_lemma =>
            rcases hw with ⟨h_61, h_62⟩
            have h_62 : (x_59, w_60) = _ := h_62
            replace hEX := hEX.trans (exc2_eq h_62)
            exact hU _ _ _ (J39 x_45 x_46 x_59 w_60 g_h0_f1 g_h1_f1 g_h1_f2 g_h1_f3 (RG_w h_61 (by decide +kernel)) h_49 h_50 g_j8_h0_f1 g_j8_h1_f2 h_40 (RG_w g_55 (by decide +kernel)) g_j8_l4 g_34 hEX _ _ _ hP hD hS (lv_sub hl [0, 1, 3, 4, 5] rfl))
  refine hG _ _ _ ?_
  refine lv_iconst (v := 0) hx hb dX4_readSum_0 kc_iconst_0 ?_
  refine lv_istore_n (lv' := [(3, .int 0), (0, .ref h0), (1, .ref h1), (2, .int 0)]) hx hb dX4_readSum_1 rfl hl (Nat.le_of_ble_eq_true rfl) rfl (fun ls hl => ?_)
  refine lv_iconst (v := 0) hx hb dX4_readSum_2 kc_iconst_0 ?_
  refine lv_istore (lv' := [(4, .int 0), (3, .int 0), (0, .ref h0), (1, .ref h1), (2, .int 0)]) hx hb dX4_readSum_3 hl (Nat.le_of_ble_eq_true rfl) rfl (fun ls hl => ?_)
  refine lv_iconst (v := 0) hx hb dX4_readSum_5 kc_iconst_0 ?_
  refine lv_istore (lv' := [(5, .int 0), (4, .int 0), (3, .int 0), (0, .ref h0), (1, .ref h1), (2, .int 0)]) hx hb dX4_readSum_6 hl (Nat.le_of_ble_eq_true rfl) rfl (fun ls hl => ?_)
  exact hU _ _ _ (J8 exF 0 0 0 h1_f2 h1_f3 h0_f1 h0_0c MU_F g_h0_f1 g_h1_f1 g_h1_f2 g_h1_f3 g_h0_f1 g_h1_f2 g_h1_f3 (RG_w (RG_k 0 0 rfl) (by decide +kernel)) (RG_w (RG_k 0 0 rfl) (by decide +kernel)) (RG_w (RG_k 0 0 rfl) (by decide +kernel)) hEX _ _ _ hP hD hS (lv_sub hl [0, 1, 2, 3, 4, 5] rfl))
noncomputable def wf_c_X4_isComparison : List Cond := .code yX4_isComparison cX4_isComparison 1 (some .boolean) :: ([])
set_option maxHeartbeats 4000000 in
set_option maxRecDepth 100000 in
theorem c_X4_isComparison (l : Launch) (dC : Nat → ClassId) (dI : Nat → Nat → Nat) (sz : Nat) (p0 : Int32) (g_p0 : RG p0 (-1) (-1)) : Met l yX4_isComparison wf_c_X4_isComparison ({ frames := 0, cells := 0, slots := 0, locals := 0 }) (va_Pc [.int p0] (fun U => U.heap.size = sz ∧ va_P (dC, dI) vwCl [] U.heap ∧ va_K (dC, dI) vwCl [] U ∧ va_D (fun _ => True) [])) (va_Qi (fun (r : Int32) (u : Unit) => (r = 0 ∧ r = fx_c_X4_isComparison p0)) (fun (u : Unit) t => va_P (dC, dI) vwCl [] t.heap ∧ va_K (dC, dI) vwCl [] t ∧ va_D (va_A [] sz) []) (va_A [] sz)) 0 0 (va_A [] sz) := by
  refine Met.ofW (cc := cX4_isComparison) (maxL := 1) (ret := (some .boolean)) (by decide +kernel) rfl ?_
  intro p e s m args below meth c s₁ B hml hv
  obtain ⟨rfl, hsz, hP, hK, hD0⟩ := hv
  have hx := B.exec
  have hb := B.bytes
  have hr := B.returns
  have hts := atoms_spec (ws := wf_c_X4_isComparison) B.pre
  have hown : s.vm.findClass RX4 = some m.cls := findClass_of_methodNamed B.named
  have hlocks := B.notSynchronized
  subst hsz
  have hD := hD0.self (sz := s.heap.size)
  generalize hAe : va_A [] s.heap.size = A at hD ⊢
  have hA : ∀ q : Nat, s.heap.size ≤ q → A q := fun q h => by rw [← hAe]; exact Or.inr h
  have hP : va_P (dC, dI) vwCl [] s.heap := hP
  have hl := lv_entry ([.int p0]) (n := 1) (Nat.le_of_ble_eq_true rfl)
  rw [lg_entry_eq]
  generalize (lg_sl ([.int p0]) ++ List.replicate (1 - (lg_sl ([.int p0])).length) Slot.unset).toArray = ls at hl ⊢
  have hl : lv_has ls 1 [(0, .int p0)] := hl
  obtain ⟨H, hHe⟩ : ∃ H : Heap, s.heap = H := ⟨_, rfl⟩
  have hS : va_S A s.heap H [] := by rw [hHe]; exact va_S.rf
  have hP : va_P (dC, dI) vwCl [] H := by rw [← hHe]; exact hP
  rw [hHe]
  obtain ⟨RES, hR⟩ : ∃ z, fx_c_X4_isComparison p0 = z := ⟨_, rfl⟩
  have hEX : RES = fx_c_X4_isComparison p0 := hR.symm
  refine lv_iload_n hx hb dX4_isComparison_0 rfl (lv_at hl 0 rfl) ?_
  as_aux_lemma =>
  refine lv_bipush (v := 61) hx hb dX4_isComparison_1 kc_bipush_61 ?_
  refine lv_icmp_eq (tgt := 18) hx hb dX4_isComparison_3 rfl (fun c_1 => ?_) (fun c_1 => ?_)
  · replace hEX := hEX.trans (if_pos c_1)
    exact RG_dead (RG_eq1 g_p0 (RG_k 61 61 rfl) c_1 (a' := 61) (b' := (-1)) (by decide +kernel)) (by decide +kernel)
  · replace hEX := hEX.trans (if_neg c_1)
    refine lv_iload_n hx hb dX4_isComparison_6 rfl (lv_at hl 0 rfl) ?_
    refine lv_bipush (v := 60) hx hb dX4_isComparison_7 kc_bipush_60 ?_
    refine lv_icmp_eq (tgt := 18) hx hb dX4_isComparison_9 rfl (fun c_2 => ?_) (fun c_2 => ?_)
    · replace hEX := hEX.trans (if_pos c_2)
      exact RG_dead (RG_eq1 g_p0 (RG_k 60 60 rfl) c_2 (a' := 60) (b' := (-1)) (by decide +kernel)) (by decide +kernel)
    · replace hEX := hEX.trans (if_neg c_2)
      refine lv_iload_n hx hb dX4_isComparison_12 rfl (lv_at hl 0 rfl) ?_
      refine lv_bipush (v := 62) hx hb dX4_isComparison_13 kc_bipush_62 ?_
      refine lv_icmp_ne (tgt := 22) hx hb dX4_isComparison_15 rfl (fun c_3 => ?_) (fun c_3 => ?_)
      · replace hEX := hEX.trans (if_neg c_3)
        refine lv_iconst (v := 0) hx hb dX4_isComparison_22 kc_iconst_0 ?_
        as_aux_lemma =>
        have hK9 := hK.sub (tys' := []) [] rfl
        exact W.zret (v := 0) hx hb hr rfl (fun t ht hW => ⟨⟨0, (), rfl, ⟨rfl, (hR.trans hEX).symm⟩, by rw [ht]; exact hP, va_K.moved hW.alike hK9, hD⟩, hS.F ht⟩) hS.2.2 dX4_isComparison_23
      · replace hEX := hEX.trans (if_pos c_3)
        exact RG_dead (RG_eq1 g_p0 (RG_k 62 62 rfl) c_3 (a' := 62) (b' := (-1)) (by decide +kernel)) (by decide +kernel)
noncomputable def wf_c_X4_isComparison_1 : List Cond := .code yX4_isComparison cX4_isComparison 1 (some .boolean) :: ([])
set_option maxHeartbeats 4000000 in
set_option maxRecDepth 100000 in
theorem c_X4_isComparison_1 (l : Launch) (dC : Nat → ClassId) (dI : Nat → Nat → Nat) (sz : Nat) (p0 : Int32) (g_p0 : RG p0 0 255) : Met l yX4_isComparison wf_c_X4_isComparison_1 ({ frames := 0, cells := 0, slots := 0, locals := 0 }) (va_Pc [.int p0] (fun U => U.heap.size = sz ∧ va_P (dC, dI) vwCl [] U.heap ∧ va_K (dC, dI) vwCl [] U ∧ va_D (fun _ => True) [])) (va_Qi (fun (r : Int32) (u : Unit) => (r = 0 ∧ r = fx_c_X4_isComparison_1 p0) ∨ (r = 1 ∧ RG p0 60 62 ∧ r = fx_c_X4_isComparison_1 p0)) (fun (u : Unit) t => va_P (dC, dI) vwCl [] t.heap ∧ va_K (dC, dI) vwCl [] t ∧ va_D (va_A [] sz) []) (va_A [] sz)) 0 0 (va_A [] sz) := by
  refine Met.ofW (cc := cX4_isComparison) (maxL := 1) (ret := (some .boolean)) (by decide +kernel) rfl ?_
  intro p e s m args below meth c s₁ B hml hv
  obtain ⟨rfl, hsz, hP, hK, hD0⟩ := hv
  have hx := B.exec
  have hb := B.bytes
  have hr := B.returns
  have hts := atoms_spec (ws := wf_c_X4_isComparison_1) B.pre
  have hown : s.vm.findClass RX4 = some m.cls := findClass_of_methodNamed B.named
  have hlocks := B.notSynchronized
  subst hsz
  have hD := hD0.self (sz := s.heap.size)
  generalize hAe : va_A [] s.heap.size = A at hD ⊢
  have hA : ∀ q : Nat, s.heap.size ≤ q → A q := fun q h => by rw [← hAe]; exact Or.inr h
  have hP : va_P (dC, dI) vwCl [] s.heap := hP
  have hl := lv_entry ([.int p0]) (n := 1) (Nat.le_of_ble_eq_true rfl)
  rw [lg_entry_eq]
  generalize (lg_sl ([.int p0]) ++ List.replicate (1 - (lg_sl ([.int p0])).length) Slot.unset).toArray = ls at hl ⊢
  have hl : lv_has ls 1 [(0, .int p0)] := hl
  obtain ⟨H, hHe⟩ : ∃ H : Heap, s.heap = H := ⟨_, rfl⟩
  have hS : va_S A s.heap H [] := by rw [hHe]; exact va_S.rf
  have hP : va_P (dC, dI) vwCl [] H := by rw [← hHe]; exact hP
  rw [hHe]
  obtain ⟨RES, hR⟩ : ∃ z, fx_c_X4_isComparison_1 p0 = z := ⟨_, rfl⟩
  have hEX : RES = fx_c_X4_isComparison_1 p0 := hR.symm
  refine wj (fun G hG hU => ?_)
  as_aux_lemma =>
  have J18 : ∀ (g_p0 : RG p0 60 62) (hEX : RES = fx_c_X4_isComparison_1_p18) (H : Heap) (locs : List Loc) (ls : Array Slot) (hP : va_P (dC, dI) vwCl [] H) (hD : va_D A []) (hS : va_S A s.heap H locs) (hl : lv_has ls 1 []), G H locs (F0 m 18 ls []) := by
    as_aux_lemma =>
    intro g_p0 hEX H locs ls hP hD hS hl
    refine hG _ _ _ ?_
    refine lv_iconst (v := 1) hx hb dX4_isComparison_18 kc_iconst_1 ?_
    refine lv_goto (tgt := 23) hx hb dX4_isComparison_19 rfl ?_
    have hK9 := hK.sub (tys' := []) [] rfl
    exact W.zret (v := 1) hx hb hr rfl (fun t ht hW => ⟨⟨1, (), rfl, (Or.inr ⟨rfl, g_p0, (hR.trans hEX).symm⟩), by rw [ht]; exact hP, va_K.moved hW.alike hK9, hD⟩, hS.F ht⟩) hS.2.2 dX4_isComparison_23
  refine hG _ _ _ ?_
  refine lv_iload_n hx hb dX4_isComparison_0 rfl (lv_at hl 0 rfl) ?_
  refine lv_bipush (v := 61) hx hb dX4_isComparison_1 kc_bipush_61 ?_
  refine lv_icmp_eq (tgt := 18) hx hb dX4_isComparison_3 rfl (fun c_1 => ?_) (fun c_1 => ?_)
  · replace hEX := hEX.trans (if_pos c_1)
    have g_2 : RG p0 61 61 := RG_eq1 g_p0 (RG_k 61 61 rfl) c_1 (by decide +kernel)
    exact hU _ _ _ (J18 (RG_w g_2 (by decide +kernel)) hEX _ _ _ hP hD hS (lv_sub hl [] rfl))
  · replace hEX := hEX.trans (if_neg c_1)
    refine lv_iload_n hx hb dX4_isComparison_6 rfl (lv_at hl 0 rfl) ?_
    as_aux_lemma =>
    refine lv_bipush (v := 60) hx hb dX4_isComparison_7 kc_bipush_60 ?_
    refine lv_icmp_eq (tgt := 18) hx hb dX4_isComparison_9 rfl (fun c_3 => ?_) (fun c_3 => ?_)
    · replace hEX := hEX.trans (if_pos c_3)
      have g_4 : RG p0 60 60 := RG_eq1 g_p0 (RG_k 60 60 rfl) c_3 (by decide +kernel)
      exact hU _ _ _ (J18 (RG_w g_4 (by decide +kernel)) hEX _ _ _ hP hD hS (lv_sub hl [] rfl))
    · replace hEX := hEX.trans (if_neg c_3)
      refine lv_iload_n hx hb dX4_isComparison_12 rfl (lv_at hl 0 rfl) ?_
      refine lv_bipush (v := 62) hx hb dX4_isComparison_13 kc_bipush_62 ?_
      refine lv_icmp_ne (tgt := 22) hx hb dX4_isComparison_15 rfl (fun c_5 => ?_) (fun c_5 => ?_)
      · replace hEX := hEX.trans (if_neg c_5)
        refine lv_iconst (v := 0) hx hb dX4_isComparison_22 kc_iconst_0 ?_
        have hK9 := hK.sub (tys' := []) [] rfl
        exact W.zret (v := 0) hx hb hr rfl (fun t ht hW => ⟨⟨0, (), rfl, (Or.inl ⟨rfl, (hR.trans hEX).symm⟩), by rw [ht]; exact hP, va_K.moved hW.alike hK9, hD⟩, hS.F ht⟩) hS.2.2 dX4_isComparison_23
      · replace hEX := hEX.trans (if_pos c_5)
        have g_6 : RG p0 62 62 := RG_eq1 g_p0 (RG_k 62 62 rfl) c_5 (by decide +kernel)
        exact hU _ _ _ (J18 (RG_w g_6 (by decide +kernel)) hEX _ _ _ hP hD hS (lv_sub hl [] rfl))
noncomputable def wd_c_X4_readUnit (a0 : Nat) (a1 : Nat) (a2 : Int32) (a3 : Int32) (a4 : Int32) (a5 : Nat) (a6 : ClassId) (a7 : Nat → Int32) (a8 : Nat) (a9 : Nat) (a10 : Int32) (a11 : Nat) (a12 : Nat) (a13 : ClassId) (a14 : Nat → Int32) : va_W := [(a0, .inr (9, [.ref a1, .int a2, .int a3, .int a4])), (a5, .inl (a6, 240, .inl a7)), (a8, .inr (4, [.ref a9, .int a10, .ref a11])), (a12, .inl (a13, 240, .inl a14))]
noncomputable def wf_c_X4_readUnit : List Cond := List.cons (.code yX4_readUnit cX4_readUnit 5 none) (@HAppend.hAppend (List Cond) (List Cond) (List Cond) _ (@HAppend.hAppend (List Cond) (List Cond) (List Cond) _ [.methodLink RX4 41 yX9_peek, .instanceMethod yX9_peek, .selects RX9 yX9_peek yX9_peek, .initialized RX9, .code yX9_peek cX9_peek 1 (some .int), .fieldLink RX9 22 "BuoyVote$Tape" "at" "I", .fieldLink RX9 19 "BuoyVote$Tape" "length" "I", .fieldLink RX9 11 "BuoyVote$Tape" "bytes" "[I", .methodLink RX4 53 yX4_isComparison, .static yX4_isComparison, .initialized RX4, .code yX4_isComparison cX4_isComparison 1 (some .boolean), .methodLink RX4 82 yX9_refuseHere, .instanceMethod yX9_refuseHere, .selects RX9 yX9_refuseHere yX9_refuseHere, .code yX9_refuseHere cX9_refuseHere 1 none, .methodLink RX9 25 yX9_refuse, .instanceMethod yX9_refuse, .selects RX9 yX9_refuse yX9_refuse, .code yX9_refuse cX9_refuse 2 none, .fieldLink RX9 15 "BuoyVote$Tape" "wrong" "I", .methodLink RX4 79 yX9_skip, .instanceMethod yX9_skip, .selects RX9 yX9_skip yX9_skip, .code yX9_skip cX9_skip 1 none, .methodLink RX4 49 yX4_readSum, .instanceMethod yX4_readSum, .selects RX4 yX4_readSum yX4_readSum, .code yX4_readSum cX4_readSum 6 none, .methodLink RX4 72 yX9_isRight, .instanceMethod yX9_isRight, .selects RX9 yX9_isRight yX9_isRight, .code yX9_isRight cX9_isRight 1 (some .boolean), .methodLink RX4 85 yX4_readAtom, .instanceMethod yX4_readAtom, .selects RX4 yX4_readAtom yX4_readAtom, .code yX4_readAtom cX4_readAtom 6 none, .methodLink RX4 93 yJ0_indexOf_0f7a4, .instanceMethod yJ0_indexOf_0f7a4, .selects RJ0 yJ0_indexOf_0f7a4 yJ0_indexOf_0f7a4, .initialized RJ0, .code yJ0_indexOf_0f7a4 cJ0_indexOf_0f7a4 2 (some .int), .methodLink RJ0 633 yJ0_indexOf_7cf53, .instanceMethod yJ0_indexOf_7cf53, .selects RJ0 yJ0_indexOf_7cf53 yJ0_indexOf_7cf53, .code yJ0_indexOf_7cf53 cJ0_indexOf_7cf53 3 (some .int), .methodLink RJ0 492 yJ0_isLatin1_aae02, .instanceMethod yJ0_isLatin1_aae02, .selects RJ0 yJ0_isLatin1_aae02 yJ0_isLatin1_aae02, .code yJ0_isLatin1_aae02 cJ0_isLatin1_aae02 1 (some .boolean), .fieldLink RJ0 38 "java/lang/String" "COMPACT_STRINGS" "Z", .fieldLink RJ0 15 "java/lang/String" "coder" "B", .fieldLink RJ0 9 "java/lang/String" "value" "[B", .methodLink RJ0 505 yJ0_length_8abf5, .instanceMethod yJ0_length_8abf5, .selects RJ0 yJ0_length_8abf5 yJ0_length_8abf5, .code yJ0_length_8abf5 cJ0_length_8abf5 1 (some .int), .methodLink RJ0 335 yJ0_coder_7d493, .instanceMethod yJ0_coder_7d493, .selects RJ0 yJ0_coder_7d493 yJ0_coder_7d493, .code yJ0_coder_7d493 cJ0_coder_7d493 1 (some .byte), .methodLink RJ0 637 yJ1_indexOf_4cfef, .static yJ1_indexOf_4cfef, .initialized RJ1, .code yJ1_indexOf_4cfef cJ1_indexOf_4cfef 4 (some .int), .methodLink RJ1 88 yJ1_canEncode_9a6ad, .static yJ1_canEncode_9a6ad, .code yJ1_canEncode_9a6ad cJ1_canEncode_9a6ad 1 (some .boolean), .methodLink RJ1 92 Lib.Math.max.name, .static Lib.Math.max.name, .initialized "java/lang/Math", .code Lib.Math.max.name Lib.Math.max.code 2 (some .int), .methodLink RJ1 38 Lib.Math.min.name, .static Lib.Math.min.name, .code Lib.Math.min.name Lib.Math.min.code 2 (some .int), .methodLink RJ1 95 yJ1_indexOfChar_4cfef, .static yJ1_indexOfChar_4cfef, .code yJ1_indexOfChar_4cfef cJ1_indexOfChar_4cfef 6 (some .int), .methodLink RX4 99 yX9_number, .instanceMethod yX9_number, .selects RX9 yX9_number yX9_number, .code yX9_number cX9_number 4 (some .int), .methodLink RX4 60 yX4_emit, .instanceMethod yX4_emit, .selects RX4 yX4_emit yX4_emit, .code yX4_emit cX4_emit 2 none, .fieldLink RX4 20 "BuoyVote$Law" "length" "I", .fieldLink RX4 11 "BuoyVote$Law" "code" "[I", .methodLink RX4 88 yX9_takeEither, .instanceMethod yX9_takeEither, .selects RX9 yX9_takeEither yX9_takeEither, .code yX9_takeEither cX9_takeEither 4 (some .int), .methodLink RX9 29 yX9_peek, .methodLink RX4 37 yX9_expect, .instanceMethod yX9_expect, .selects RX9 yX9_expect yX9_expect, .code yX9_expect cX9_expect 2 none] wsX90) wsX40)
theorem iw_c_X4_readUnit_X9 : ∀ w ∈ wsX90, w ∈ wf_c_X4_readUnit := fun w h => List.mem_cons_of_mem _ (List.mem_append_left _ (List.mem_append_right _ h))
theorem iw_c_X4_readUnit_X4 : ∀ w ∈ wsX40, w ∈ wf_c_X4_readUnit := fun w h => List.mem_cons_of_mem _ (List.mem_append_right _ h)
set_option maxRecDepth 20000 in
theorem gf_c_X4_readUnit_c_X9_peek : GoodIn wf_c_X4_readUnit (wsV RX4 41 RX9 yX9_peek wf_c_X9_peek) := goodIn_app (gi_l [1, 2, 3, 4] rfl rfl) (gi_cons (j := 5) rfl rfl (goodIn_app (gi_l [6, 7, 8] rfl rfl) (goodIn_sub iw_c_X4_readUnit_X9 gw_X9)))
set_option maxRecDepth 20000 in
theorem gf_c_X4_readUnit_c_X4_isComparison : GoodIn wf_c_X4_readUnit (va_wsS RX4 53 yX4_isComparison wf_c_X4_isComparison) := goodIn_app (gi_l [9, 10, 11] rfl rfl) (gi_cons (j := 12) rfl rfl gi_nil)
set_option maxRecDepth 20000 in
theorem gf_c_X4_readUnit_c_X9_refuseHere : GoodIn wf_c_X4_readUnit (wsV RX4 82 RX9 yX9_refuseHere wf_c_X9_refuseHere) := goodIn_app (gi_l [13, 14, 15, 4] rfl rfl) (gi_cons (j := 16) rfl rfl (goodIn_app (gi_l [6, 17, 18, 19, 4, 20, 21] rfl rfl) (goodIn_sub iw_c_X4_readUnit_X9 gw_X9)))
set_option maxRecDepth 20000 in
theorem gf_c_X4_readUnit_c_X4_isComparison_1 : GoodIn wf_c_X4_readUnit (va_wsS RX4 53 yX4_isComparison wf_c_X4_isComparison_1) := goodIn_app (gi_l [9, 10, 11] rfl rfl) (gi_cons (j := 12) rfl rfl gi_nil)
set_option maxRecDepth 20000 in
theorem gf_c_X4_readUnit_c_X9_skip : GoodIn wf_c_X4_readUnit (wsV RX4 79 RX9 yX9_skip wf_c_X9_skip) := goodIn_app (gi_l [22, 23, 24, 4] rfl rfl) (gi_cons (j := 25) rfl rfl (goodIn_app (gi_l [6] rfl rfl) (goodIn_sub iw_c_X4_readUnit_X9 gw_X9)))
set_option maxRecDepth 20000 in
theorem gf_c_X4_readUnit_c_X4_readSum : GoodIn wf_c_X4_readUnit (wsV RX4 49 RX4 yX4_readSum wf_c_X4_readSum) := goodIn_app (gi_l [26, 27, 28, 11] rfl rfl) (gi_cons (j := 29) rfl rfl (goodIn_app (goodIn_app (gi_l [30, 31, 32, 4, 33, 21, 34, 35, 36, 11, 37, 1, 2, 3, 5, 6, 7, 8, 38, 39, 40, 41, 42, 43, 44, 45, 46, 47, 48, 49, 50, 51, 52, 53, 54, 55, 56, 57, 58, 59, 60, 61, 62, 63, 64, 65, 66, 67, 68, 69, 70, 71, 72, 73, 74, 75, 76, 77, 78, 79, 80, 81, 82, 13, 14, 15, 16, 17, 18, 19, 20, 22, 23, 24, 25, 26, 27, 28, 83, 84, 85, 86, 87, 88, 89, 90, 91, 92, 93, 94, 95, 96, 97] rfl rfl) (goodIn_sub iw_c_X4_readUnit_X9 gw_X9)) (goodIn_sub iw_c_X4_readUnit_X4 gw_X4)))
set_option maxRecDepth 20000 in
theorem gf_c_X4_readUnit_c_X4_emit : GoodIn wf_c_X4_readUnit (wsV RX4 60 RX4 yX4_emit wf_c_X4_emit) := goodIn_app (gi_l [83, 84, 85, 11] rfl rfl) (gi_cons (j := 86) rfl rfl (goodIn_app (gi_l [87, 88] rfl rfl) (goodIn_sub iw_c_X4_readUnit_X4 gw_X4)))
set_option maxHeartbeats 4000000 in
set_option maxRecDepth 100000 in
theorem c_X4_readUnit (l : Launch) (dC : Nat → ClassId) (dI : Nat → Nat → Nat) (sz : Nat) (h0 : Nat) (h1 : Nat) (h1_0 : Nat) (h1_f1 : Int32) (h1_f2 : Int32) (h1_f3 : Int32) (h1_0k : ClassId) (h1_0c : Nat → Int32) (h0_0 : Nat) (h0_f1 : Int32) (h0_2 : Nat) (h0_0k : ClassId) (h0_0c : Nat → Int32) (ts4 : Nat) (tv4 : Nat) (g_h1_f1 : RG h1_f1 0 240) (g_h1_f2 : RG h1_f2 0 240) (g_h1_f3 : RG h1_f3 (-1) 240) (a_h1_0c : AI h1_0c 0 255) (g_h0_f1 : RG h0_f1 0 240) : Met l yX4_readUnit wf_c_X4_readUnit ({ frames := 18, cells := 0, slots := 0, locals := 441 }) (va_Pc [.ref h0, .ref h1, .int 0, .int 1] (fun U => U.heap.size = sz ∧ va_P (dC, dI) vwCl (wd_c_X4_readUnit h1 h1_0 h1_f1 h1_f2 h1_f3 h1_0 h1_0k h1_0c h0 h0_0 h0_f1 h0_2 h0_0 h0_0k h0_0c) U.heap ∧ va_K (dC, dI) vwCl [(h1_0k, .int), (h0_0k, .int)] U ∧ va_D (fun _ => True) (wd_c_X4_readUnit h1 h1_0 h1_f1 h1_f2 h1_f3 h1_0 h1_0k h1_0c h0 h0_0 h0_f1 h0_2 h0_0 h0_0k h0_0c) ∧ vk_R RX4 91 "vlrdph" ts4 U ∧ va_Z "java/lang/String" "COMPACT_STRINGS" "Z" (.int 1) (va_A (wd_c_X4_readUnit h1 h1_0 h1_f1 h1_f2 h1_f3 h1_0 h1_0k h1_0c h0 h0_0 h0_f1 h0_2 h0_0 h0_0k h0_0c) sz) U U.heap ∧ va_OF "java/lang/String" "coder" "B" (.int 0) ts4 (va_A (wd_c_X4_readUnit h1 h1_0 h1_f1 h1_f2 h1_f3 h1_0 h1_0k h1_0c h0 h0_0 h0_f1 h0_2 h0_0 h0_0k h0_0c) sz) U U.heap ∧ va_O "java/lang/String" ts4 (va_A (wd_c_X4_readUnit h1 h1_0 h1_f1 h1_f2 h1_f3 h1_0 h1_0k h1_0c h0 h0_0 h0_f1 h0_2 h0_0 h0_0k h0_0c) sz) U U.heap ∧ va_OF "java/lang/String" "value" "[B" (.ref tv4) ts4 (va_A (wd_c_X4_readUnit h1 h1_0 h1_f1 h1_f2 h1_f3 h1_0 h1_0k h1_0c h0 h0_0 h0_f1 h0_2 h0_0 h0_0k h0_0c) sz) U U.heap ∧ va_T .byte tv4 6 (fun j => .int ([118, 108, 114, 100, 112, 104].getD j 0)) (va_A (wd_c_X4_readUnit h1 h1_0 h1_f1 h1_f2 h1_f3 h1_0 h1_0k h1_0c h0 h0_0 h0_f1 h0_2 h0_0 h0_0k h0_0c) sz) U U.heap)) (va_Qv (fun (u : (Int32) × (Int32) × (Int32) × (Nat → Int32)) => (RG u.1 0 240 ∧ RG u.2.1 (-1) 240 ∧ RG u.2.2.1 0 240 ∧ (u.1, u.2.1, u.2.2.1, u.2.2.2) = fx_c_X4_readUnit h1_f1 h1_f2 h1_f3 h1_0c h0_f1 h0_0c)) (fun (u : (Int32) × (Int32) × (Int32) × (Nat → Int32)) t => va_P (dC, dI) vwCl (wd_c_X4_readUnit h1 h1_0 h1_f1 (u.1) (u.2.1) h1_0 h1_0k h1_0c h0 h0_0 (u.2.2.1) h0_2 h0_0 h0_0k (u.2.2.2)) t.heap ∧ va_K (dC, dI) vwCl [] t ∧ va_D (va_A (wd_c_X4_readUnit h1 h1_0 h1_f1 h1_f2 h1_f3 h1_0 h1_0k h1_0c h0 h0_0 h0_f1 h0_2 h0_0 h0_0k h0_0c) sz) (wd_c_X4_readUnit h1 h1_0 h1_f1 (u.1) (u.2.1) h1_0 h1_0k h1_0c h0 h0_0 (u.2.2.1) h0_2 h0_0 h0_0k (u.2.2.2))) (va_A (wd_c_X4_readUnit h1 h1_0 h1_f1 h1_f2 h1_f3 h1_0 h1_0k h1_0c h0 h0_0 h0_f1 h0_2 h0_0 h0_0k h0_0c) sz)) 0 0 (va_A (wd_c_X4_readUnit h1 h1_0 h1_f1 h1_f2 h1_f3 h1_0 h1_0k h1_0c h0 h0_0 h0_f1 h0_2 h0_0 h0_0k h0_0c) sz) := by
  refine Met.ofW (cc := cX4_readUnit) (maxL := 5) (ret := none) (by decide +kernel) rfl ?_
  intro p e s m args below meth c s₁ B hml hv
  obtain ⟨rfl, hsz, hP, hK, hD0, hE_32, hE_10, hE_34, hE_33, hE_35, hE_36⟩ := hv
  have hx := B.exec
  have hb := B.bytes
  have hr := B.returns
  have hts := atoms_spec (ws := wf_c_X4_readUnit) B.pre
  have hown : s.vm.findClass RX4 = some m.cls := findClass_of_methodNamed B.named
  have hlocks := B.notSynchronized
  subst hsz
  have hD := hD0.self (sz := s.heap.size)
  generalize hAe : va_A (wd_c_X4_readUnit h1 h1_0 h1_f1 h1_f2 h1_f3 h1_0 h1_0k h1_0c h0 h0_0 h0_f1 h0_2 h0_0 h0_0k h0_0c) s.heap.size = A at hD hE_10 hE_34 hE_33 hE_35 hE_36 ⊢
  have hA : ∀ q : Nat, s.heap.size ≤ q → A q := fun q h => by rw [← hAe]; exact Or.inr h
  have hP : va_P (dC, dI) vwCl (wd_c_X4_readUnit h1 h1_0 h1_f1 h1_f2 h1_f3 h1_0 h1_0k h1_0c h0 h0_0 h0_f1 h0_2 h0_0 h0_0k h0_0c) s.heap := hP
  have hl := lv_entry ([.ref h0, .ref h1, .int 0, .int 1]) (n := 5) (Nat.le_of_ble_eq_true rfl)
  rw [lg_entry_eq]
  generalize (lg_sl ([.ref h0, .ref h1, .int 0, .int 1]) ++ List.replicate (5 - (lg_sl ([.ref h0, .ref h1, .int 0, .int 1])).length) Slot.unset).toArray = ls at hl ⊢
  have hl : lv_has ls 5 [(0, .ref h0), (1, .ref h1), (2, .int 0), (3, .int 1)] := hl
  obtain ⟨H, hHe⟩ : ∃ H : Heap, s.heap = H := ⟨_, rfl⟩
  have hS : va_S A s.heap H [] := by rw [hHe]; exact va_S.rf
  have hP : va_P (dC, dI) vwCl (wd_c_X4_readUnit h1 h1_0 h1_f1 h1_f2 h1_f3 h1_0 h1_0k h1_0c h0 h0_0 h0_f1 h0_2 h0_0 h0_0k h0_0c) H := by rw [← hHe]; exact hP
  rw [hHe]
  obtain ⟨RES, hR⟩ : ∃ z, fx_c_X4_readUnit h1_f1 h1_f2 h1_f3 h1_0c h0_f1 h0_0c = z := ⟨_, rfl⟩
  have hEX : RES = fx_c_X4_readUnit h1_f1 h1_f2 h1_f3 h1_0c h0_f1 h0_0c := hR.symm
  refine wj (fun G hG hU => ?_)
  as_aux_lemma =>
  have J62 : ∀ (j62_h1_f2 : Int32) (j62_h1_f3 : Int32) (j62_h0_f1 : Int32) (j62_h0_0c : Nat → Int32) (g_h0_f1 : RG h0_f1 0 240) (g_h1_f1 : RG h1_f1 0 240) (g_h1_f2 : RG h1_f2 0 240) (g_h1_f3 : RG h1_f3 (-1) 240) (g_j62_h0_f1 : RG j62_h0_f1 0 240) (g_j62_h1_f2 : RG j62_h1_f2 0 240) (g_j62_h1_f3 : RG j62_h1_f3 (-1) 240) (hEX : RES = fx_c_X4_readUnit_p62 j62_h1_f2 j62_h1_f3 j62_h0_f1 j62_h0_0c) (H : Heap) (locs : List Loc) (ls : Array Slot) (hP : va_P (dC, dI) vwCl (wd_c_X4_readUnit h1 h1_0 h1_f1 j62_h1_f2 j62_h1_f3 h1_0 h1_0k h1_0c h0 h0_0 j62_h0_f1 h0_2 h0_0 h0_0k j62_h0_0c) H) (hD : va_D A (wd_c_X4_readUnit h1 h1_0 h1_f1 j62_h1_f2 j62_h1_f3 h1_0 h1_0k h1_0c h0 h0_0 j62_h0_f1 h0_2 h0_0 h0_0k j62_h0_0c)) (hS : va_S A s.heap H locs) (hl : lv_has ls 5 []), G H locs (F0 m 62 ls []) := by
    as_aux_lemma =>
    intro j62_h1_f2 j62_h1_f3 j62_h0_f1 j62_h0_0c g_h0_f1 g_h1_f1 g_h1_f2 g_h1_f3 g_j62_h0_f1 g_j62_h1_f2 g_j62_h1_f3 hEX H locs ls hP hD hS hl
    refine hG _ _ _ ?_
    refine lv_goto (tgt := 126) hx hb dX4_readUnit_62 rfl ?_
    have hK9 := hK.sub (tys' := []) [] rfl
    exact W.vret hx hb hr (fun t ht hW => ⟨⟨(j62_h1_f2, j62_h1_f3, j62_h0_f1, j62_h0_0c), rfl, ⟨g_j62_h1_f2, g_j62_h1_f3, g_j62_h0_f1, (hR.trans hEX).symm⟩, by rw [ht]; exact hP, va_K.moved hW.alike hK9, hD⟩, hS.F ht⟩) hS.2.2 dX4_readUnit_126
  have J24 : ∀ (g_h0_f1 : RG h0_f1 0 240) (g_h1_f1 : RG h1_f1 0 240) (g_h1_f2 : RG h1_f2 0 240) (g_h1_f3 : RG h1_f3 (-1) 240) (hEX : RES = fx_c_X4_readUnit_p24 h1_f1 h1_f2 h1_f3 h1_0c h0_f1 h0_0c) (H : Heap) (locs : List Loc) (ls : Array Slot) (hP : va_P (dC, dI) vwCl (wd_c_X4_readUnit h1 h1_0 h1_f1 h1_f2 h1_f3 h1_0 h1_0k h1_0c h0 h0_0 h0_f1 h0_2 h0_0 h0_0k h0_0c) H) (hD : va_D A (wd_c_X4_readUnit h1 h1_0 h1_f1 h1_f2 h1_f3 h1_0 h1_0k h1_0c h0 h0_0 h0_f1 h0_2 h0_0 h0_0k h0_0c)) (hS : va_S A s.heap H locs) (hl : lv_has ls 5 [(0, .ref h0), (1, .ref h1), (2, .int 0)]), G H locs (F0 m 24 ls []) := by
    as_aux_lemma =>
    intro g_h0_f1 g_h1_f1 g_h1_f2 g_h1_f3 hEX H locs ls hP hD hS hl
    refine hG _ _ _ ?_
    refine lv_aload_n hx hb dX4_readUnit_24 rfl (lv_at hl 1 rfl) ?_
    obtain ⟨hPc, hDc, hFc, hqc⟩ := cl_cut (wc := (wd_c_X9_peek h1 h1_0 h1_f1 h1_f2 h1_f3 h1_0 h1_0k h1_0c)) hP hD hS hA [0, 1] (by decide +kernel) rfl
    have hKc := hK.sub (tys' := [(h1_0k, .int)]) [0] rfl
    have hrv := va_recv hKc hPc (ci := 9) (q0 := 0) rfl rfl
    refine va_calli (va_runV (As := []) (rest := []) ⟨hx, hb, hml, hown, hts⟩ (c_X9_peek l dC dI H.size h1 h1_0 h1_f1 h1_f2 h1_f3 h1_0k h1_0c g_h1_f1 g_h1_f2 g_h1_f3 a_h1_0c) (cwV 0 hts gf_c_X4_readUnit_c_X9_peek rfl rfl rfl mdV_X9_peek ⟨Nat.le_of_ble_eq_true rfl, Nat.le_of_ble_eq_true rfl⟩) ⟨fun a U g mk q => by obtain ⟨q0, q1, qP, qK, qD⟩ := q; exact ⟨q0, q1, qP, va_K.moved (u := U) (U := U.calling g mk a) (Vm.Alike.refl U.vm) qK, qD⟩, hrv, fun U hU hW => ⟨rfl, by rw [hU], by rw [hU]; exact hPc, va_K.moved hW.alike hKc, hDc.weaken (fun _ _ _ _ => trivial)⟩⟩ rfl rfl hl.1 rfl (lv_room (Nat.le_of_ble_eq_true rfl)) dX4_readUnit_25 ⟨Nat.le_of_ble_eq_true rfl, Nat.le_of_ble_eq_true rfl⟩) hS (fun q _ h => hFc q h) hFc (fun r_1 x_2 t H1 locs ht hvm hw hB hz1 hk1 hS => ?_)
    obtain ⟨hP1, hK1, hD1⟩ := hB
    rw [ht] at hP1
    obtain ⟨hP, hD⟩ := cl_put (w1 := (wd_c_X9_peek h1 h1_0 h1_f1 x_2 h1_f3 h1_0 h1_0k h1_0c)) (nw := (wd_c_X4_readUnit h1 h1_0 h1_f1 x_2 h1_f3 h1_0 h1_0k h1_0c h0 h0_0 h0_f1 h0_2 h0_0 h0_0k h0_0c)) hP hD [0, 1] [4, 5, 2, 3] 4 rfl hqc (by decide +kernel) rfl hk1 hFc hP1 hD1
    generalize H1 = H at hP hS ⊢
    as_aux_lemma =>
    rcases hw with ⟨h_3, h_4, h_5, h_6⟩ | ⟨h_7, h_8, h_9, h_10, h_11⟩
    · have h_6 : (r_1, x_2) = _ := h_6
      replace hEX := hEX.trans (exc2_eq h_6)
      replace hEX := hEX.trans (if_pos (show r_1 = (-1) from h_3))
      rw [h_3]
      refine lv_istore (lv' := [(4, .int (-1)), (0, .ref h0), (1, .ref h1), (2, .int 0)]) hx hb dX4_readUnit_28 hl (Nat.le_of_ble_eq_true rfl) rfl (fun ls hl => ?_)
      refine lv_iload hx hb dX4_readUnit_30 (lv_at hl 0 rfl) ?_
      obtain ⟨hPc, hDc, hFc, hqc⟩ := cl_cut (wc := []) hP hD hS hA [] (by decide +kernel) rfl
      have hKc := hK.sub (tys' := []) [] rfl
      refine va_calli (va_runS (As := [.int (-1)]) (rest := []) ⟨hx, hb, hml, hown, hts⟩ (c_X4_isComparison l dC dI H.size (-1) (RG_k (-1) (-1) rfl)) (va_cwS 1 hts gf_c_X4_readUnit_c_X4_isComparison rfl rfl rfl md_X4_isComparison ⟨Nat.le_of_ble_eq_true rfl, Nat.le_of_ble_eq_true rfl⟩) ⟨fun a U g mk q => by obtain ⟨q0, q1, qP, qK, qD⟩ := q; exact ⟨q0, q1, qP, va_K.moved (u := U) (U := U.calling g mk a) (Vm.Alike.refl U.vm) qK, qD⟩, fun U hU hW => ⟨rfl, by rw [hU], by rw [hU]; exact hPc, va_K.moved hW.alike hKc, hDc.weaken (fun _ _ _ _ => trivial)⟩⟩ rfl rfl hl.1 rfl (lv_room (Nat.le_of_ble_eq_true rfl)) dX4_readUnit_32 ⟨Nat.le_of_ble_eq_true rfl, Nat.le_of_ble_eq_true rfl⟩) hS (fun q _ h => hFc q h) hFc (fun r_12 u t H1 locs ht hvm hw hB hz1 hk1 hS => ?_)
      obtain ⟨hP1, hK1, hD1⟩ := hB
      rw [ht] at hP1
      have hP := bv_still hP hk1
      generalize H1 = H at hP hS ⊢
      as_aux_lemma =>
      rcases hw with ⟨h_13, h_14⟩
      have h_14 : r_12 = _ := h_14
      replace hEX := hEX.trans (exc1_eq h_14)
      rw [h_13]
      refine lv_if_eq (tgt := 58) hx hb dX4_readUnit_35 rfl (fun c_15 => ?_) (fun c_15 => absurd c_15 (by decide +kernel))
      refine lv_aload_n hx hb dX4_readUnit_58 rfl (lv_at hl 2 rfl) ?_
      obtain ⟨hPc, hDc, hFc, hqc⟩ := cl_cut (wc := (wd_c_X9_refuseHere h1 h1_0 h1_f1 x_2 h1_f3)) hP hD hS hA [0] (by decide +kernel) rfl
      have hKc := hK.sub (tys' := []) [] rfl
      have hrv := va_recv hKc hPc (ci := 9) (q0 := 0) rfl rfl
      refine va_callv (va_runV (As := []) (rest := []) ⟨hx, hb, hml, hown, hts⟩ (c_X9_refuseHere l dC dI H.size h1 h1_0 h1_f1 x_2 h1_f3 g_h1_f1 h_4 g_h1_f3) (cwV 0 hts gf_c_X4_readUnit_c_X9_refuseHere rfl rfl rfl mdV_X9_refuseHere ⟨Nat.le_of_ble_eq_true rfl, Nat.le_of_ble_eq_true rfl⟩) ⟨fun a U g mk q => by obtain ⟨q0, q1, qP, qK, qD⟩ := q; exact ⟨q0, q1, qP, va_K.moved (u := U) (U := U.calling g mk a) (Vm.Alike.refl U.vm) qK, qD⟩, hrv, fun U hU hW => ⟨rfl, by rw [hU], by rw [hU]; exact hPc, va_K.moved hW.alike hKc, hDc.weaken (fun _ _ _ _ => trivial)⟩⟩ rfl rfl hl.1 rfl (lv_room (Nat.le_of_ble_eq_true rfl)) dX4_readUnit_59 ⟨Nat.le_of_ble_eq_true rfl, Nat.le_of_ble_eq_true rfl⟩) hS (fun q _ h => hFc q h) hFc (fun x_17 t H1 locs ht hvm hw hB hz1 hk1 hS => ?_)
      obtain ⟨hP1, hK1, hD1⟩ := hB
      rw [ht] at hP1
      obtain ⟨hP, hD⟩ := cl_put (w1 := (wd_c_X9_refuseHere h1 h1_0 h1_f1 x_2 x_17)) (nw := (wd_c_X4_readUnit h1 h1_0 h1_f1 x_2 x_17 h1_0 h1_0k h1_0c h0 h0_0 h0_f1 h0_2 h0_0 h0_0k h0_0c)) hP hD [0] [4, 1, 2, 3] 4 rfl hqc (by decide +kernel) rfl hk1 hFc hP1 hD1
      generalize H1 = H at hP hS ⊢
      as_aux_lemma =>
      rcases hw with ⟨h_18, h_19⟩
      have h_19 : x_17 = _ := h_19
      replace hEX := hEX.trans (exc1_eq h_19)
      exact hU _ _ _ (J62 x_2 x_17 h0_f1 h0_0c g_h0_f1 g_h1_f1 g_h1_f2 g_h1_f3 g_h0_f1 h_4 (RG_w h_18 (by decide +kernel)) hEX _ _ _ hP hD hS (lv_sub hl [] rfl))
    · have h_11 : (r_1, x_2) = _ := h_11
      replace hEX := hEX.trans (exc2_eq h_11)
      replace hEX := hEX.trans (if_neg (RG_neq (x := r_1) (c := (-1)) (show RG r_1 0 255 from h_7) (by decide +kernel)))
      refine lv_istore (lv' := [(4, .int r_1), (0, .ref h0), (1, .ref h1), (2, .int 0)]) hx hb dX4_readUnit_28 hl (Nat.le_of_ble_eq_true rfl) rfl (fun ls hl => ?_)
      refine lv_iload hx hb dX4_readUnit_30 (lv_at hl 0 rfl) ?_
      obtain ⟨hPc, hDc, hFc, hqc⟩ := cl_cut (wc := []) hP hD hS hA [] (by decide +kernel) rfl
      have hKc := hK.sub (tys' := []) [] rfl
      refine va_calli (va_runS (As := [.int r_1]) (rest := []) ⟨hx, hb, hml, hown, hts⟩ (c_X4_isComparison_1 l dC dI H.size r_1 h_7) (va_cwS 1 hts gf_c_X4_readUnit_c_X4_isComparison_1 rfl rfl rfl md_X4_isComparison ⟨Nat.le_of_ble_eq_true rfl, Nat.le_of_ble_eq_true rfl⟩) ⟨fun a U g mk q => by obtain ⟨q0, q1, qP, qK, qD⟩ := q; exact ⟨q0, q1, qP, va_K.moved (u := U) (U := U.calling g mk a) (Vm.Alike.refl U.vm) qK, qD⟩, fun U hU hW => ⟨rfl, by rw [hU], by rw [hU]; exact hPc, va_K.moved hW.alike hKc, hDc.weaken (fun _ _ _ _ => trivial)⟩⟩ rfl rfl hl.1 rfl (lv_room (Nat.le_of_ble_eq_true rfl)) dX4_readUnit_32 ⟨Nat.le_of_ble_eq_true rfl, Nat.le_of_ble_eq_true rfl⟩) hS (fun q _ h => hFc q h) hFc (fun r_20 u t H1 locs ht hvm hw hB hz1 hk1 hS => ?_)
      obtain ⟨hP1, hK1, hD1⟩ := hB
      rw [ht] at hP1
      have hP := bv_still hP hk1
      generalize H1 = H at hP hS ⊢
      as_aux_lemma =>
      rcases hw with ⟨h_21, h_22⟩ | ⟨h_23, h_24, h_25⟩
      · have h_22 : r_20 = _ := h_22
        replace hEX := hEX.trans (exc1_eq h_22)
        replace hEX := hEX.trans (if_pos (show r_20 = 0 from h_21))
        rw [h_21]
        refine lv_if_eq (tgt := 58) hx hb dX4_readUnit_35 rfl (fun c_26 => ?_) (fun c_26 => absurd c_26 (by decide +kernel))
        refine lv_aload_n hx hb dX4_readUnit_58 rfl (lv_at hl 2 rfl) ?_
        obtain ⟨hPc, hDc, hFc, hqc⟩ := cl_cut (wc := (wd_c_X9_refuseHere h1 h1_0 h1_f1 x_2 h1_f3)) hP hD hS hA [0] (by decide +kernel) rfl
        have hKc := hK.sub (tys' := []) [] rfl
        have hrv := va_recv hKc hPc (ci := 9) (q0 := 0) rfl rfl
        refine va_callv (va_runV (As := []) (rest := []) ⟨hx, hb, hml, hown, hts⟩ (c_X9_refuseHere l dC dI H.size h1 h1_0 h1_f1 x_2 h1_f3 (RG_w h_9 (by decide +kernel)) (RG_w h_8 (by decide +kernel)) g_h1_f3) (cwV 0 hts gf_c_X4_readUnit_c_X9_refuseHere rfl rfl rfl mdV_X9_refuseHere ⟨Nat.le_of_ble_eq_true rfl, Nat.le_of_ble_eq_true rfl⟩) ⟨fun a U g mk q => by obtain ⟨q0, q1, qP, qK, qD⟩ := q; exact ⟨q0, q1, qP, va_K.moved (u := U) (U := U.calling g mk a) (Vm.Alike.refl U.vm) qK, qD⟩, hrv, fun U hU hW => ⟨rfl, by rw [hU], by rw [hU]; exact hPc, va_K.moved hW.alike hKc, hDc.weaken (fun _ _ _ _ => trivial)⟩⟩ rfl rfl hl.1 rfl (lv_room (Nat.le_of_ble_eq_true rfl)) dX4_readUnit_59 ⟨Nat.le_of_ble_eq_true rfl, Nat.le_of_ble_eq_true rfl⟩) hS (fun q _ h => hFc q h) hFc (fun x_28 t H1 locs ht hvm hw hB hz1 hk1 hS => ?_)
        obtain ⟨hP1, hK1, hD1⟩ := hB
        rw [ht] at hP1
        obtain ⟨hP, hD⟩ := cl_put (w1 := (wd_c_X9_refuseHere h1 h1_0 h1_f1 x_2 x_28)) (nw := (wd_c_X4_readUnit h1 h1_0 h1_f1 x_2 x_28 h1_0 h1_0k h1_0c h0 h0_0 h0_f1 h0_2 h0_0 h0_0k h0_0c)) hP hD [0] [4, 1, 2, 3] 4 rfl hqc (by decide +kernel) rfl hk1 hFc hP1 hD1
        generalize H1 = H at hP hS ⊢
        as_aux_lemma =>
        rcases hw with ⟨h_29, h_30⟩
        have h_30 : x_28 = _ := h_30
        replace hEX := hEX.trans (exc1_eq h_30)
        exact hU _ _ _ (J62 x_2 x_28 h0_f1 h0_0c g_h0_f1 (RG_w h_9 (by decide +kernel)) g_h1_f2 g_h1_f3 g_h0_f1 (RG_w h_8 (by decide +kernel)) (RG_w h_29 (by decide +kernel)) hEX _ _ _ hP hD hS (lv_sub hl [] rfl))
      · have h_25 : r_20 = _ := h_25
        replace hEX := hEX.trans (exc1_eq h_25)
        replace hEX := hEX.trans (if_neg (fun q9 : r_20 = 0 => absurd ((show r_20 = 1 from h_23).symm.trans q9) (by decide +kernel)))
        rw [h_23]
        refine lv_if_eq (tgt := 58) hx hb dX4_readUnit_35 rfl (fun c_31 => absurd c_31 (by decide +kernel)) (fun c_31 => ?_)
        refine lv_aload_n hx hb dX4_readUnit_38 rfl (lv_at hl 2 rfl) ?_
        obtain ⟨hPc, hDc, hFc, hqc⟩ := cl_cut (wc := (wd_c_X9_skip h1 h1_0 h1_f1 x_2 h1_f3)) hP hD hS hA [0] (by decide +kernel) rfl
        have hKc := hK.sub (tys' := []) [] rfl
        have hrv := va_recv hKc hPc (ci := 9) (q0 := 0) rfl rfl
        refine va_callv (va_runV (As := []) (rest := []) ⟨hx, hb, hml, hown, hts⟩ (c_X9_skip l dC dI H.size h1 h1_0 h1_f1 x_2 h1_f3 (RG_w h_9 (by decide +kernel)) h_8 g_h1_f3) (cwV 0 hts gf_c_X4_readUnit_c_X9_skip rfl rfl rfl mdV_X9_skip ⟨Nat.le_of_ble_eq_true rfl, Nat.le_of_ble_eq_true rfl⟩) ⟨fun a U g mk q => by obtain ⟨q0, q1, qP, qK, qD⟩ := q; exact ⟨q0, q1, qP, va_K.moved (u := U) (U := U.calling g mk a) (Vm.Alike.refl U.vm) qK, qD⟩, hrv, fun U hU hW => ⟨rfl, by rw [hU], by rw [hU]; exact hPc, va_K.moved hW.alike hKc, hDc.weaken (fun _ _ _ _ => trivial)⟩⟩ rfl rfl hl.1 rfl (lv_room (Nat.le_of_ble_eq_true rfl)) dX4_readUnit_39 ⟨Nat.le_of_ble_eq_true rfl, Nat.le_of_ble_eq_true rfl⟩) hS (fun q _ h => hFc q h) hFc (fun x_33 t H1 locs ht hvm hw hB hz1 hk1 hS => ?_)
        as_aux_lemma =>
        obtain ⟨hP1, hK1, hD1⟩ := hB
        rw [ht] at hP1
        obtain ⟨hP, hD⟩ := cl_put (w1 := (wd_c_X9_skip h1 h1_0 h1_f1 x_33 h1_f3)) (nw := (wd_c_X4_readUnit h1 h1_0 h1_f1 x_33 h1_f3 h1_0 h1_0k h1_0c h0 h0_0 h0_f1 h0_2 h0_0 h0_0k h0_0c)) hP hD [0] [4, 1, 2, 3] 4 rfl hqc (by decide +kernel) rfl hk1 hFc hP1 hD1
        generalize H1 = H at hP hS ⊢
        as_aux_lemma =>
        rcases hw with ⟨h_34, h_35, h_36, h_37⟩
        have h_37 : x_33 = _ := h_37
        replace hEX := hEX.trans (exc1_eq h_37)
        refine lv_aload_n hx hb dX4_readUnit_42 rfl (lv_at hl 1 rfl) ?_
        refine lv_aload_n hx hb dX4_readUnit_43 rfl (lv_at hl 2 rfl) ?_
        refine lv_iload_n hx hb dX4_readUnit_44 rfl (lv_at hl 3 rfl) ?_
        obtain ⟨hPc, hDc, hFc, hqc⟩ := cl_cut (wc := (wd_c_X4_readSum h1 h1_0 h1_f1 x_33 h1_f3 h1_0 h1_0k h1_0c h0 h0_0 h0_f1 h0_2 h0_0 h0_0k h0_0c)) hP hD hS hA [0, 1, 2, 3] (by decide +kernel) rfl
        have hKc := hK.sub (tys' := [(h1_0k, .int), (h0_0k, .int)]) [0, 1] rfl
        have hrv := va_recv hKc hPc (ci := 4) (q0 := 2) rfl rfl
        refine va_callv (va_runV (As := [.ref h1, .int 0]) (rest := []) ⟨hx, hb, hml, hown, hts⟩ (c_X4_readSum l dC dI H.size h0 h1 h1_0 h1_f1 x_33 h1_f3 h1_0k h1_0c h0_0 h0_f1 h0_2 h0_0k h0_0c ts4 tv4 (RG_w h_9 (by decide +kernel)) (RG_w h_34 (by decide +kernel)) g_h1_f3 a_h1_0c g_h0_f1) (cwV 2 hts gf_c_X4_readUnit_c_X4_readSum rfl rfl rfl mdV_X4_readSum ⟨Nat.le_of_ble_eq_true rfl, Nat.le_of_ble_eq_true rfl⟩) ⟨fun a U g mk q => by obtain ⟨q0, q1, qP, qK, qD, qE0, qE1, qE2, qE3, qE4, qE5⟩ := q; exact ⟨q0, q1, qP, va_K.moved (u := U) (U := U.calling g mk a) (Vm.Alike.refl U.vm) qK, qD, vk_R.same rfl qE0, va_Z.moved (u := U) (U := U.calling g mk a) (Vm.Alike.refl U.vm) qE1, va_OF.moved (u := U) (U := U.calling g mk a) (Vm.Alike.refl U.vm) qE2, va_O.moved (u := U) (U := U.calling g mk a) (Vm.Alike.refl U.vm) qE3, va_OF.moved (u := U) (U := U.calling g mk a) (Vm.Alike.refl U.vm) qE4, va_T.moved (u := U) (U := U.calling g mk a) (Vm.Alike.refl U.vm) qE5⟩, hrv, fun U hU hW => ⟨rfl, by rw [hU], by rw [hU]; exact hPc, va_K.moved hW.alike hKc, hDc.weaken (fun _ _ _ _ => trivial), vk_R.warm hW hE_32, va_Z.moved hW.alike (by rw [hU]; exact (hE_10.kept hS.2.1).narrow hFc), va_OF.moved hW.alike (by rw [hU]; exact (hE_34.kept hS.2.1).narrow hFc), va_O.moved hW.alike (by rw [hU]; exact (hE_33.kept hS.2.1).narrow hFc), va_OF.moved hW.alike (by rw [hU]; exact (hE_35.kept hS.2.1).narrow hFc), va_T.moved hW.alike (by rw [hU]; exact (hE_36.kept hS.2.1).narrow hFc)⟩⟩ rfl rfl hl.1 rfl (lv_room (Nat.le_of_ble_eq_true rfl)) dX4_readUnit_45 ⟨Nat.le_of_ble_eq_true rfl, Nat.le_of_ble_eq_true rfl⟩) hS (fun q _ h => hFc q h) hFc (fun u t H1 locs ht hvm hw hB hz1 hk1 hS => ?_)
        obtain ⟨x_39, x_40, x_41, w_42⟩ := u
        obtain ⟨hP1, hK1, hD1⟩ := hB
        rw [ht] at hP1
        obtain ⟨hP, hD⟩ := cl_put (w1 := (wd_c_X4_readSum h1 h1_0 h1_f1 x_39 x_40 h1_0 h1_0k h1_0c h0 h0_0 x_41 h0_2 h0_0 h0_0k w_42)) (nw := (wd_c_X4_readUnit h1 h1_0 h1_f1 x_39 x_40 h1_0 h1_0k h1_0c h0 h0_0 x_41 h0_2 h0_0 h0_0k w_42)) hP hD [0, 1, 2, 3] [4, 5, 6, 7] 4 rfl hqc (by decide +kernel) rfl hk1 hFc hP1 hD1
        generalize H1 = H at hP hS ⊢
        as_aux_lemma =>
        rcases hw with ⟨h_43, h_44, h_45, h_46⟩
        have h_46 : (x_39, x_40, x_41, w_42) = _ := h_46
        replace hEX := hEX.trans (exc4_eq h_46)
        refine lv_aload_n hx hb dX4_readUnit_48 rfl (lv_at hl 1 rfl) ?_
        refine lv_iload hx hb dX4_readUnit_49 (lv_at hl 0 rfl) ?_
        refine lv_ineg hx hb dX4_readUnit_51 ?_
        refine lv_topi (fun x_47 ex_47 => ?_)
        replace hEX := hEX.trans (exl_eq ex_47)
        have g_48 : RG x_47 (-62) (-60) := RG_neg ex_47 h_24 (by decide +kernel)
        obtain ⟨hPc, hDc, hFc, hqc⟩ := cl_cut (wc := (wd_c_X4_emit h0 h0_0 x_41 h0_2 h0_0 h0_0k w_42)) hP hD hS hA [2, 3] (by decide +kernel) rfl
        have hKc := hK.sub (tys' := [(h0_0k, .int)]) [1] rfl
        have hrv := va_recv hKc hPc (ci := 4) (q0 := 0) rfl rfl
        refine va_callv (va_runV (As := [.int x_47]) (rest := []) ⟨hx, hb, hml, hown, hts⟩ (c_X4_emit l dC dI H.size h0 x_47 h0_0 x_41 h0_2 h0_0k w_42 h_45) (cwV 1 hts gf_c_X4_readUnit_c_X4_emit rfl rfl rfl mdV_X4_emit ⟨Nat.le_of_ble_eq_true rfl, Nat.le_of_ble_eq_true rfl⟩) ⟨fun a U g mk q => by obtain ⟨q0, q1, qP, qK, qD⟩ := q; exact ⟨q0, q1, qP, va_K.moved (u := U) (U := U.calling g mk a) (Vm.Alike.refl U.vm) qK, qD⟩, hrv, fun U hU hW => ⟨rfl, by rw [hU], by rw [hU]; exact hPc, va_K.moved hW.alike hKc, hDc.weaken (fun _ _ _ _ => trivial)⟩⟩ rfl rfl hl.1 rfl (lv_room (Nat.le_of_ble_eq_true rfl)) dX4_readUnit_52 ⟨Nat.le_of_ble_eq_true rfl, Nat.le_of_ble_eq_true rfl⟩) hS (fun q _ h => hFc q h) hFc (fun u t H1 locs ht hvm hw hB hz1 hk1 hS => ?_)
        obtain ⟨x_50, w_51⟩ := u
        obtain ⟨hP1, hK1, hD1⟩ := hB
        rw [ht] at hP1
        obtain ⟨hP, hD⟩ := cl_put (w1 := (wd_c_X4_emit h0 h0_0 x_50 h0_2 h0_0 h0_0k w_51)) (nw := (wd_c_X4_readUnit h1 h1_0 h1_f1 x_39 x_40 h1_0 h1_0k h1_0c h0 h0_0 x_50 h0_2 h0_0 h0_0k w_51)) hP hD [2, 3] [0, 1, 4, 5] 4 rfl hqc (by decide +kernel) rfl hk1 hFc hP1 hD1
        generalize H1 = H at hP hS ⊢
        as_aux_lemma =>
        rcases hw with ⟨h_52, h_53⟩
        have h_53 : (x_50, w_51) = _ := h_53
        replace hEX := hEX.trans (exc2_eq h_53)
        refine lv_goto (tgt := 62) hx hb dX4_readUnit_55 rfl ?_
        exact hU _ _ _ (J62 x_39 x_40 x_50 w_51 g_h0_f1 (RG_w h_9 (by decide +kernel)) g_h1_f2 g_h1_f3 (RG_w h_52 (by decide +kernel)) h_43 h_44 hEX _ _ _ hP hD hS (lv_sub hl [] rfl))
  have J14 : ∀ (g_h0_f1 : RG h0_f1 0 240) (g_h1_f1 : RG h1_f1 0 240) (g_h1_f2 : RG h1_f2 0 240) (g_h1_f3 : RG h1_f3 (-1) 240) (hEX : RES = fx_c_X4_readUnit_p14 h1_f1 h1_f2 h1_f3 h1_0c h0_f1 h0_0c) (H : Heap) (locs : List Loc) (ls : Array Slot) (hP : va_P (dC, dI) vwCl (wd_c_X4_readUnit h1 h1_0 h1_f1 h1_f2 h1_f3 h1_0 h1_0k h1_0c h0 h0_0 h0_f1 h0_2 h0_0 h0_0k h0_0c) H) (hD : va_D A (wd_c_X4_readUnit h1 h1_0 h1_f1 h1_f2 h1_f3 h1_0 h1_0k h1_0c h0 h0_0 h0_f1 h0_2 h0_0 h0_0k h0_0c)) (hS : va_S A s.heap H locs) (hl : lv_has ls 5 [(0, .ref h0), (1, .ref h1), (2, .int 0), (3, .int 1)]), G H locs (F0 m 14 ls []) := by
    as_aux_lemma =>
    intro g_h0_f1 g_h1_f1 g_h1_f2 g_h1_f3 hEX H locs ls hP hD hS hl
    refine hG _ _ _ ?_
    refine lv_iload_n hx hb dX4_readUnit_14 rfl (lv_at hl 3 rfl) ?_
    refine lv_if_ne (tgt := 24) hx hb dX4_readUnit_15 rfl (fun c_54 => ?_) (fun c_54 => absurd c_54 (by decide +kernel))
    exact hU _ _ _ (J24 g_h0_f1 g_h1_f1 g_h1_f2 g_h1_f3 hEX _ _ _ hP hD hS (lv_sub hl [0, 1, 2] rfl))
  refine hG _ _ _ ?_
  refine lv_iload_n hx hb dX4_readUnit_0 rfl (lv_at hl 3 rfl) ?_
  refine lv_if_ne (tgt := 14) hx hb dX4_readUnit_1 rfl (fun c_55 => ?_) (fun c_55 => absurd c_55 (by decide +kernel))
  exact hU _ _ _ (J14 g_h0_f1 g_h1_f1 g_h1_f2 g_h1_f3 hEX _ _ _ hP hD hS (lv_sub hl [0, 1, 2, 3] rfl))
noncomputable def wd_c_X4_readUnit_7 (a0 : Nat) (a1 : Nat) (a2 : Int32) (a3 : Int32) (a4 : Int32) (a5 : Nat) (a6 : ClassId) (a7 : Nat → Int32) (a8 : Nat) (a9 : Nat) (a10 : Int32) (a11 : Nat) (a12 : Nat) (a13 : ClassId) (a14 : Nat → Int32) : va_W := [(a0, .inr (9, [.ref a1, .int a2, .int a3, .int a4])), (a5, .inl (a6, 240, .inl a7)), (a8, .inr (4, [.ref a9, .int a10, .ref a11])), (a12, .inl (a13, 240, .inl a14))]
noncomputable def wf_c_X4_readUnit_7 : List Cond := List.cons (.code yX4_readUnit cX4_readUnit 5 none) (@HAppend.hAppend (List Cond) (List Cond) (List Cond) _ (@HAppend.hAppend (List Cond) (List Cond) (List Cond) _ [.methodLink RX4 41 yX9_peek, .instanceMethod yX9_peek, .selects RX9 yX9_peek yX9_peek, .initialized RX9, .code yX9_peek cX9_peek 1 (some .int), .fieldLink RX9 22 "BuoyVote$Tape" "at" "I", .fieldLink RX9 19 "BuoyVote$Tape" "length" "I", .fieldLink RX9 11 "BuoyVote$Tape" "bytes" "[I", .methodLink RX4 45 yX4_startsUnit, .static yX4_startsUnit, .initialized RX4, .code yX4_startsUnit cX4_startsUnit 1 (some .boolean), .methodLink RX4 82 yX9_refuseHere, .instanceMethod yX9_refuseHere, .selects RX9 yX9_refuseHere yX9_refuseHere, .code yX9_refuseHere cX9_refuseHere 1 none, .methodLink RX9 25 yX9_refuse, .instanceMethod yX9_refuse, .selects RX9 yX9_refuse yX9_refuse, .code yX9_refuse cX9_refuse 2 none, .fieldLink RX9 15 "BuoyVote$Tape" "wrong" "I", .methodLink RX4 49 yX4_readSum, .instanceMethod yX4_readSum, .selects RX4 yX4_readSum yX4_readSum, .code yX4_readSum cX4_readSum 6 none, .methodLink RX4 72 yX9_isRight, .instanceMethod yX9_isRight, .selects RX9 yX9_isRight yX9_isRight, .code yX9_isRight cX9_isRight 1 (some .boolean), .methodLink RX4 85 yX4_readAtom, .instanceMethod yX4_readAtom, .selects RX4 yX4_readAtom yX4_readAtom, .code yX4_readAtom cX4_readAtom 6 none, .methodLink RX4 93 yJ0_indexOf_0f7a4, .instanceMethod yJ0_indexOf_0f7a4, .selects RJ0 yJ0_indexOf_0f7a4 yJ0_indexOf_0f7a4, .initialized RJ0, .code yJ0_indexOf_0f7a4 cJ0_indexOf_0f7a4 2 (some .int), .methodLink RJ0 633 yJ0_indexOf_7cf53, .instanceMethod yJ0_indexOf_7cf53, .selects RJ0 yJ0_indexOf_7cf53 yJ0_indexOf_7cf53, .code yJ0_indexOf_7cf53 cJ0_indexOf_7cf53 3 (some .int), .methodLink RJ0 492 yJ0_isLatin1_aae02, .instanceMethod yJ0_isLatin1_aae02, .selects RJ0 yJ0_isLatin1_aae02 yJ0_isLatin1_aae02, .code yJ0_isLatin1_aae02 cJ0_isLatin1_aae02 1 (some .boolean), .fieldLink RJ0 38 "java/lang/String" "COMPACT_STRINGS" "Z", .fieldLink RJ0 15 "java/lang/String" "coder" "B", .fieldLink RJ0 9 "java/lang/String" "value" "[B", .methodLink RJ0 505 yJ0_length_8abf5, .instanceMethod yJ0_length_8abf5, .selects RJ0 yJ0_length_8abf5 yJ0_length_8abf5, .code yJ0_length_8abf5 cJ0_length_8abf5 1 (some .int), .methodLink RJ0 335 yJ0_coder_7d493, .instanceMethod yJ0_coder_7d493, .selects RJ0 yJ0_coder_7d493 yJ0_coder_7d493, .code yJ0_coder_7d493 cJ0_coder_7d493 1 (some .byte), .methodLink RJ0 637 yJ1_indexOf_4cfef, .static yJ1_indexOf_4cfef, .initialized RJ1, .code yJ1_indexOf_4cfef cJ1_indexOf_4cfef 4 (some .int), .methodLink RJ1 88 yJ1_canEncode_9a6ad, .static yJ1_canEncode_9a6ad, .code yJ1_canEncode_9a6ad cJ1_canEncode_9a6ad 1 (some .boolean), .methodLink RJ1 92 Lib.Math.max.name, .static Lib.Math.max.name, .initialized "java/lang/Math", .code Lib.Math.max.name Lib.Math.max.code 2 (some .int), .methodLink RJ1 38 Lib.Math.min.name, .static Lib.Math.min.name, .code Lib.Math.min.name Lib.Math.min.code 2 (some .int), .methodLink RJ1 95 yJ1_indexOfChar_4cfef, .static yJ1_indexOfChar_4cfef, .code yJ1_indexOfChar_4cfef cJ1_indexOfChar_4cfef 6 (some .int), .methodLink RX4 99 yX9_number, .instanceMethod yX9_number, .selects RX9 yX9_number yX9_number, .code yX9_number cX9_number 4 (some .int), .methodLink RX4 79 yX9_skip, .instanceMethod yX9_skip, .selects RX9 yX9_skip yX9_skip, .code yX9_skip cX9_skip 1 none, .methodLink RX4 60 yX4_emit, .instanceMethod yX4_emit, .selects RX4 yX4_emit yX4_emit, .code yX4_emit cX4_emit 2 none, .fieldLink RX4 20 "BuoyVote$Law" "length" "I", .fieldLink RX4 11 "BuoyVote$Law" "code" "[I", .methodLink RX4 88 yX9_takeEither, .instanceMethod yX9_takeEither, .selects RX9 yX9_takeEither yX9_takeEither, .code yX9_takeEither cX9_takeEither 4 (some .int), .methodLink RX9 29 yX9_peek, .methodLink RX4 53 yX4_isComparison, .static yX4_isComparison, .code yX4_isComparison cX4_isComparison 1 (some .boolean)] wsX90) wsX40)
theorem iw_c_X4_readUnit_7_X9 : ∀ w ∈ wsX90, w ∈ wf_c_X4_readUnit_7 := fun w h => List.mem_cons_of_mem _ (List.mem_append_left _ (List.mem_append_right _ h))
theorem iw_c_X4_readUnit_7_X4 : ∀ w ∈ wsX40, w ∈ wf_c_X4_readUnit_7 := fun w h => List.mem_cons_of_mem _ (List.mem_append_right _ h)
set_option maxRecDepth 20000 in
theorem gf_c_X4_readUnit_7_c_X9_peek : GoodIn wf_c_X4_readUnit_7 (wsV RX4 41 RX9 yX9_peek wf_c_X9_peek) := goodIn_app (gi_l [1, 2, 3, 4] rfl rfl) (gi_cons (j := 5) rfl rfl (goodIn_app (gi_l [6, 7, 8] rfl rfl) (goodIn_sub iw_c_X4_readUnit_7_X9 gw_X9)))
set_option maxRecDepth 20000 in
theorem gf_c_X4_readUnit_7_c_X4_isComparison : GoodIn wf_c_X4_readUnit_7 (va_wsS RX4 53 yX4_isComparison wf_c_X4_isComparison) := goodIn_app (gi_l [94, 95, 11] rfl rfl) (gi_cons (j := 96) rfl rfl gi_nil)
set_option maxRecDepth 20000 in
theorem gf_c_X4_readUnit_7_c_X9_refuseHere : GoodIn wf_c_X4_readUnit_7 (wsV RX4 82 RX9 yX9_refuseHere wf_c_X9_refuseHere) := goodIn_app (gi_l [13, 14, 15, 4] rfl rfl) (gi_cons (j := 16) rfl rfl (goodIn_app (gi_l [6, 17, 18, 19, 4, 20, 21] rfl rfl) (goodIn_sub iw_c_X4_readUnit_7_X9 gw_X9)))
set_option maxRecDepth 20000 in
theorem gf_c_X4_readUnit_7_c_X4_isComparison_1 : GoodIn wf_c_X4_readUnit_7 (va_wsS RX4 53 yX4_isComparison wf_c_X4_isComparison_1) := goodIn_app (gi_l [94, 95, 11] rfl rfl) (gi_cons (j := 96) rfl rfl gi_nil)
set_option maxRecDepth 20000 in
theorem gf_c_X4_readUnit_7_c_X9_skip : GoodIn wf_c_X4_readUnit_7 (wsV RX4 79 RX9 yX9_skip wf_c_X9_skip) := goodIn_app (gi_l [79, 80, 81, 4] rfl rfl) (gi_cons (j := 82) rfl rfl (goodIn_app (gi_l [6] rfl rfl) (goodIn_sub iw_c_X4_readUnit_7_X9 gw_X9)))
set_option maxRecDepth 20000 in
theorem gf_c_X4_readUnit_7_c_X4_readSum_6 : GoodIn wf_c_X4_readUnit_7 (wsV RX4 49 RX4 yX4_readSum wf_c_X4_readSum_6) := goodIn_app (gi_l [22, 23, 24, 11] rfl rfl) (gi_cons (j := 25) rfl rfl (goodIn_app (goodIn_app (gi_l [26, 27, 28, 4, 29, 21, 30, 31, 32, 11, 33, 1, 2, 3, 5, 6, 7, 8, 34, 35, 36, 37, 38, 39, 40, 41, 42, 43, 44, 45, 46, 47, 48, 49, 50, 51, 52, 53, 54, 55, 56, 57, 58, 59, 60, 61, 62, 63, 64, 65, 66, 67, 68, 69, 70, 71, 72, 73, 74, 75, 76, 77, 78, 13, 14, 15, 16, 17, 18, 19, 20, 79, 80, 81, 82, 83, 84, 85, 86, 87, 88, 89, 90, 91, 92, 93] rfl rfl) (goodIn_sub iw_c_X4_readUnit_7_X9 gw_X9)) (goodIn_sub iw_c_X4_readUnit_7_X4 gw_X4)))
set_option maxRecDepth 20000 in
theorem gf_c_X4_readUnit_7_c_X4_emit : GoodIn wf_c_X4_readUnit_7 (wsV RX4 60 RX4 yX4_emit wf_c_X4_emit) := goodIn_app (gi_l [83, 84, 85, 11] rfl rfl) (gi_cons (j := 86) rfl rfl (goodIn_app (gi_l [87, 88] rfl rfl) (goodIn_sub iw_c_X4_readUnit_7_X4 gw_X4)))
set_option maxRecDepth 20000 in
theorem gf_c_X4_readUnit_7_c_X4_startsUnit : GoodIn wf_c_X4_readUnit_7 (va_wsS RX4 45 yX4_startsUnit wf_c_X4_startsUnit) := goodIn_app (gi_l [9, 10, 11] rfl rfl) (gi_cons (j := 12) rfl rfl gi_nil)
set_option maxRecDepth 20000 in
theorem gf_c_X4_readUnit_7_c_X4_startsUnit_1 : GoodIn wf_c_X4_readUnit_7 (va_wsS RX4 45 yX4_startsUnit wf_c_X4_startsUnit_1) := goodIn_app (gi_l [9, 10, 11] rfl rfl) (gi_cons (j := 12) rfl rfl gi_nil)
set_option maxHeartbeats 4000000 in
set_option maxRecDepth 100000 in
theorem c_X4_readUnit_7 (l : Launch) (dC : Nat → ClassId) (dI : Nat → Nat → Nat) (sz : Nat) (h0 : Nat) (h1 : Nat) (h1_0 : Nat) (h1_f1 : Int32) (h1_f2 : Int32) (h1_f3 : Int32) (h1_0k : ClassId) (h1_0c : Nat → Int32) (h0_0 : Nat) (h0_f1 : Int32) (h0_2 : Nat) (h0_0k : ClassId) (h0_0c : Nat → Int32) (ts4 : Nat) (tv4 : Nat) (g_h1_f1 : RG h1_f1 0 240) (g_h1_f2 : RG h1_f2 0 240) (g_h1_f3 : RG h1_f3 (-1) 240) (a_h1_0c : AI h1_0c 0 255) (g_h0_f1 : RG h0_f1 0 240) : Met l yX4_readUnit wf_c_X4_readUnit_7 ({ frames := 6, cells := 0, slots := 0, locals := 141 }) (va_Pc [.ref h0, .ref h1, .int 6, .int 0] (fun U => U.heap.size = sz ∧ va_P (dC, dI) vwCl (wd_c_X4_readUnit_7 h1 h1_0 h1_f1 h1_f2 h1_f3 h1_0 h1_0k h1_0c h0 h0_0 h0_f1 h0_2 h0_0 h0_0k h0_0c) U.heap ∧ va_K (dC, dI) vwCl [(h1_0k, .int), (h0_0k, .int)] U ∧ va_D (fun _ => True) (wd_c_X4_readUnit_7 h1 h1_0 h1_f1 h1_f2 h1_f3 h1_0 h1_0k h1_0c h0 h0_0 h0_f1 h0_2 h0_0 h0_0k h0_0c) ∧ vk_R RX4 91 "vlrdph" ts4 U ∧ va_Z "java/lang/String" "COMPACT_STRINGS" "Z" (.int 1) (va_A (wd_c_X4_readUnit_7 h1 h1_0 h1_f1 h1_f2 h1_f3 h1_0 h1_0k h1_0c h0 h0_0 h0_f1 h0_2 h0_0 h0_0k h0_0c) sz) U U.heap ∧ va_OF "java/lang/String" "coder" "B" (.int 0) ts4 (va_A (wd_c_X4_readUnit_7 h1 h1_0 h1_f1 h1_f2 h1_f3 h1_0 h1_0k h1_0c h0 h0_0 h0_f1 h0_2 h0_0 h0_0k h0_0c) sz) U U.heap ∧ va_O "java/lang/String" ts4 (va_A (wd_c_X4_readUnit_7 h1 h1_0 h1_f1 h1_f2 h1_f3 h1_0 h1_0k h1_0c h0 h0_0 h0_f1 h0_2 h0_0 h0_0k h0_0c) sz) U U.heap ∧ va_OF "java/lang/String" "value" "[B" (.ref tv4) ts4 (va_A (wd_c_X4_readUnit_7 h1 h1_0 h1_f1 h1_f2 h1_f3 h1_0 h1_0k h1_0c h0 h0_0 h0_f1 h0_2 h0_0 h0_0k h0_0c) sz) U U.heap ∧ va_T .byte tv4 6 (fun j => .int ([118, 108, 114, 100, 112, 104].getD j 0)) (va_A (wd_c_X4_readUnit_7 h1 h1_0 h1_f1 h1_f2 h1_f3 h1_0 h1_0k h1_0c h0 h0_0 h0_f1 h0_2 h0_0 h0_0k h0_0c) sz) U U.heap)) (va_Qv (fun (u : (Int32) × (Int32) × (Int32) × (Nat → Int32)) => (RG u.1 0 240 ∧ RG u.2.1 (-1) 240 ∧ RG u.2.2.1 0 240 ∧ (u.1, u.2.1, u.2.2.1, u.2.2.2) = fx_c_X4_readUnit_7 h1_f1 h1_f2 h1_f3 h1_0c h0_f1 h0_0c)) (fun (u : (Int32) × (Int32) × (Int32) × (Nat → Int32)) t => va_P (dC, dI) vwCl (wd_c_X4_readUnit_7 h1 h1_0 h1_f1 (u.1) (u.2.1) h1_0 h1_0k h1_0c h0 h0_0 (u.2.2.1) h0_2 h0_0 h0_0k (u.2.2.2)) t.heap ∧ va_K (dC, dI) vwCl [] t ∧ va_D (va_A (wd_c_X4_readUnit_7 h1 h1_0 h1_f1 h1_f2 h1_f3 h1_0 h1_0k h1_0c h0 h0_0 h0_f1 h0_2 h0_0 h0_0k h0_0c) sz) (wd_c_X4_readUnit_7 h1 h1_0 h1_f1 (u.1) (u.2.1) h1_0 h1_0k h1_0c h0 h0_0 (u.2.2.1) h0_2 h0_0 h0_0k (u.2.2.2))) (va_A (wd_c_X4_readUnit_7 h1 h1_0 h1_f1 h1_f2 h1_f3 h1_0 h1_0k h1_0c h0 h0_0 h0_f1 h0_2 h0_0 h0_0k h0_0c) sz)) 0 0 (va_A (wd_c_X4_readUnit_7 h1 h1_0 h1_f1 h1_f2 h1_f3 h1_0 h1_0k h1_0c h0 h0_0 h0_f1 h0_2 h0_0 h0_0k h0_0c) sz) := by
  refine Met.ofW (cc := cX4_readUnit) (maxL := 5) (ret := none) (by decide +kernel) rfl ?_
  intro p e s m args below meth c s₁ B hml hv
  obtain ⟨rfl, hsz, hP, hK, hD0, hE_32, hE_10, hE_34, hE_33, hE_35, hE_36⟩ := hv
  have hx := B.exec
  have hb := B.bytes
  have hr := B.returns
  have hts := atoms_spec (ws := wf_c_X4_readUnit_7) B.pre
  have hown : s.vm.findClass RX4 = some m.cls := findClass_of_methodNamed B.named
  have hlocks := B.notSynchronized
  subst hsz
  have hD := hD0.self (sz := s.heap.size)
  generalize hAe : va_A (wd_c_X4_readUnit_7 h1 h1_0 h1_f1 h1_f2 h1_f3 h1_0 h1_0k h1_0c h0 h0_0 h0_f1 h0_2 h0_0 h0_0k h0_0c) s.heap.size = A at hD hE_10 hE_34 hE_33 hE_35 hE_36 ⊢
  have hA : ∀ q : Nat, s.heap.size ≤ q → A q := fun q h => by rw [← hAe]; exact Or.inr h
  have hP : va_P (dC, dI) vwCl (wd_c_X4_readUnit_7 h1 h1_0 h1_f1 h1_f2 h1_f3 h1_0 h1_0k h1_0c h0 h0_0 h0_f1 h0_2 h0_0 h0_0k h0_0c) s.heap := hP
  have hl := lv_entry ([.ref h0, .ref h1, .int 6, .int 0]) (n := 5) (Nat.le_of_ble_eq_true rfl)
  rw [lg_entry_eq]
  generalize (lg_sl ([.ref h0, .ref h1, .int 6, .int 0]) ++ List.replicate (5 - (lg_sl ([.ref h0, .ref h1, .int 6, .int 0])).length) Slot.unset).toArray = ls at hl ⊢
  have hl : lv_has ls 5 [(0, .ref h0), (1, .ref h1), (2, .int 6), (3, .int 0)] := hl
  obtain ⟨H, hHe⟩ : ∃ H : Heap, s.heap = H := ⟨_, rfl⟩
  have hS : va_S A s.heap H [] := by rw [hHe]; exact va_S.rf
  have hP : va_P (dC, dI) vwCl (wd_c_X4_readUnit_7 h1 h1_0 h1_f1 h1_f2 h1_f3 h1_0 h1_0k h1_0c h0 h0_0 h0_f1 h0_2 h0_0 h0_0k h0_0c) H := by rw [← hHe]; exact hP
  rw [hHe]
  obtain ⟨RES, hR⟩ : ∃ z, fx_c_X4_readUnit_7 h1_f1 h1_f2 h1_f3 h1_0c h0_f1 h0_0c = z := ⟨_, rfl⟩
  have hEX : RES = fx_c_X4_readUnit_7 h1_f1 h1_f2 h1_f3 h1_0c h0_f1 h0_0c := hR.symm
  refine wj (fun G hG hU => ?_)
  as_aux_lemma =>
  have J62 : ∀ (j62_h1_f2 : Int32) (j62_h1_f3 : Int32) (j62_h0_f1 : Int32) (j62_h0_0c : Nat → Int32) (g_h0_f1 : RG h0_f1 0 240) (g_h1_f1 : RG h1_f1 0 240) (g_h1_f2 : RG h1_f2 0 240) (g_h1_f3 : RG h1_f3 (-1) 240) (g_j62_h0_f1 : RG j62_h0_f1 0 240) (g_j62_h1_f2 : RG j62_h1_f2 0 240) (g_j62_h1_f3 : RG j62_h1_f3 (-1) 240) (hEX : RES = fx_c_X4_readUnit_7_p62 j62_h1_f2 j62_h1_f3 j62_h0_f1 j62_h0_0c) (H : Heap) (locs : List Loc) (ls : Array Slot) (hP : va_P (dC, dI) vwCl (wd_c_X4_readUnit_7 h1 h1_0 h1_f1 j62_h1_f2 j62_h1_f3 h1_0 h1_0k h1_0c h0 h0_0 j62_h0_f1 h0_2 h0_0 h0_0k j62_h0_0c) H) (hD : va_D A (wd_c_X4_readUnit_7 h1 h1_0 h1_f1 j62_h1_f2 j62_h1_f3 h1_0 h1_0k h1_0c h0 h0_0 j62_h0_f1 h0_2 h0_0 h0_0k j62_h0_0c)) (hS : va_S A s.heap H locs) (hl : lv_has ls 5 []), G H locs (F0 m 62 ls []) := by
    as_aux_lemma =>
    intro j62_h1_f2 j62_h1_f3 j62_h0_f1 j62_h0_0c g_h0_f1 g_h1_f1 g_h1_f2 g_h1_f3 g_j62_h0_f1 g_j62_h1_f2 g_j62_h1_f3 hEX H locs ls hP hD hS hl
    refine hG _ _ _ ?_
    refine lv_goto (tgt := 126) hx hb dX4_readUnit_62 rfl ?_
    have hK9 := hK.sub (tys' := []) [] rfl
    exact W.vret hx hb hr (fun t ht hW => ⟨⟨(j62_h1_f2, j62_h1_f3, j62_h0_f1, j62_h0_0c), rfl, ⟨g_j62_h1_f2, g_j62_h1_f3, g_j62_h0_f1, (hR.trans hEX).symm⟩, by rw [ht]; exact hP, va_K.moved hW.alike hK9, hD⟩, hS.F ht⟩) hS.2.2 dX4_readUnit_126
  have J24 : ∀ (j24_h1_f2 : Int32) (j24_h1_f3 : Int32) (j24_h0_f1 : Int32) (j24_h0_0c : Nat → Int32) (g_h0_f1 : RG h0_f1 0 240) (g_h1_f1 : RG h1_f1 0 240) (g_h1_f2 : RG h1_f2 0 240) (g_h1_f3 : RG h1_f3 (-1) 240) (g_j24_h0_f1 : RG j24_h0_f1 0 240) (g_j24_h1_f2 : RG j24_h1_f2 0 240) (g_j24_h1_f3 : RG j24_h1_f3 (-1) 240) (hEX : RES = fx_c_X4_readUnit_7_p24 h1_f1 h1_0c j24_h1_f2 j24_h1_f3 j24_h0_f1 j24_h0_0c) (H : Heap) (locs : List Loc) (ls : Array Slot) (hP : va_P (dC, dI) vwCl (wd_c_X4_readUnit_7 h1 h1_0 h1_f1 j24_h1_f2 j24_h1_f3 h1_0 h1_0k h1_0c h0 h0_0 j24_h0_f1 h0_2 h0_0 h0_0k j24_h0_0c) H) (hD : va_D A (wd_c_X4_readUnit_7 h1 h1_0 h1_f1 j24_h1_f2 j24_h1_f3 h1_0 h1_0k h1_0c h0 h0_0 j24_h0_f1 h0_2 h0_0 h0_0k j24_h0_0c)) (hS : va_S A s.heap H locs) (hl : lv_has ls 5 [(0, .ref h0), (1, .ref h1), (2, .int 6)]), G H locs (F0 m 24 ls []) := by
    as_aux_lemma =>
    intro j24_h1_f2 j24_h1_f3 j24_h0_f1 j24_h0_0c g_h0_f1 g_h1_f1 g_h1_f2 g_h1_f3 g_j24_h0_f1 g_j24_h1_f2 g_j24_h1_f3 hEX H locs ls hP hD hS hl
    refine hG _ _ _ ?_
    refine lv_aload_n hx hb dX4_readUnit_24 rfl (lv_at hl 1 rfl) ?_
    obtain ⟨hPc, hDc, hFc, hqc⟩ := cl_cut (wc := (wd_c_X9_peek h1 h1_0 h1_f1 j24_h1_f2 j24_h1_f3 h1_0 h1_0k h1_0c)) hP hD hS hA [0, 1] (by decide +kernel) rfl
    have hKc := hK.sub (tys' := [(h1_0k, .int)]) [0] rfl
    have hrv := va_recv hKc hPc (ci := 9) (q0 := 0) rfl rfl
    refine va_calli (va_runV (As := []) (rest := []) ⟨hx, hb, hml, hown, hts⟩ (c_X9_peek l dC dI H.size h1 h1_0 h1_f1 j24_h1_f2 j24_h1_f3 h1_0k h1_0c g_h1_f1 g_j24_h1_f2 g_j24_h1_f3 a_h1_0c) (cwV 0 hts gf_c_X4_readUnit_7_c_X9_peek rfl rfl rfl mdV_X9_peek ⟨Nat.le_of_ble_eq_true rfl, Nat.le_of_ble_eq_true rfl⟩) ⟨fun a U g mk q => by obtain ⟨q0, q1, qP, qK, qD⟩ := q; exact ⟨q0, q1, qP, va_K.moved (u := U) (U := U.calling g mk a) (Vm.Alike.refl U.vm) qK, qD⟩, hrv, fun U hU hW => ⟨rfl, by rw [hU], by rw [hU]; exact hPc, va_K.moved hW.alike hKc, hDc.weaken (fun _ _ _ _ => trivial)⟩⟩ rfl rfl hl.1 rfl (lv_room (Nat.le_of_ble_eq_true rfl)) dX4_readUnit_25 ⟨Nat.le_of_ble_eq_true rfl, Nat.le_of_ble_eq_true rfl⟩) hS (fun q _ h => hFc q h) hFc (fun r_1 x_2 t H1 locs ht hvm hw hB hz1 hk1 hS => ?_)
    obtain ⟨hP1, hK1, hD1⟩ := hB
    rw [ht] at hP1
    obtain ⟨hP, hD⟩ := cl_put (w1 := (wd_c_X9_peek h1 h1_0 h1_f1 x_2 j24_h1_f3 h1_0 h1_0k h1_0c)) (nw := (wd_c_X4_readUnit_7 h1 h1_0 h1_f1 x_2 j24_h1_f3 h1_0 h1_0k h1_0c h0 h0_0 j24_h0_f1 h0_2 h0_0 h0_0k j24_h0_0c)) hP hD [0, 1] [4, 5, 2, 3] 4 rfl hqc (by decide +kernel) rfl hk1 hFc hP1 hD1
    generalize H1 = H at hP hS ⊢
    as_aux_lemma =>
    rcases hw with ⟨h_3, h_4, h_5, h_6⟩ | ⟨h_7, h_8, h_9, h_10, h_11⟩
    · have h_6 : (r_1, x_2) = _ := h_6
      replace hEX := hEX.trans (exc2_eq h_6)
      replace hEX := hEX.trans (if_pos (show r_1 = (-1) from h_3))
      rw [h_3]
      refine lv_istore (lv' := [(4, .int (-1)), (0, .ref h0), (1, .ref h1), (2, .int 6)]) hx hb dX4_readUnit_28 hl (Nat.le_of_ble_eq_true rfl) rfl (fun ls hl => ?_)
      refine lv_iload hx hb dX4_readUnit_30 (lv_at hl 0 rfl) ?_
      obtain ⟨hPc, hDc, hFc, hqc⟩ := cl_cut (wc := []) hP hD hS hA [] (by decide +kernel) rfl
      have hKc := hK.sub (tys' := []) [] rfl
      refine va_calli (va_runS (As := [.int (-1)]) (rest := []) ⟨hx, hb, hml, hown, hts⟩ (c_X4_isComparison l dC dI H.size (-1) (RG_k (-1) (-1) rfl)) (va_cwS 1 hts gf_c_X4_readUnit_7_c_X4_isComparison rfl rfl rfl md_X4_isComparison ⟨Nat.le_of_ble_eq_true rfl, Nat.le_of_ble_eq_true rfl⟩) ⟨fun a U g mk q => by obtain ⟨q0, q1, qP, qK, qD⟩ := q; exact ⟨q0, q1, qP, va_K.moved (u := U) (U := U.calling g mk a) (Vm.Alike.refl U.vm) qK, qD⟩, fun U hU hW => ⟨rfl, by rw [hU], by rw [hU]; exact hPc, va_K.moved hW.alike hKc, hDc.weaken (fun _ _ _ _ => trivial)⟩⟩ rfl rfl hl.1 rfl (lv_room (Nat.le_of_ble_eq_true rfl)) dX4_readUnit_32 ⟨Nat.le_of_ble_eq_true rfl, Nat.le_of_ble_eq_true rfl⟩) hS (fun q _ h => hFc q h) hFc (fun r_12 u t H1 locs ht hvm hw hB hz1 hk1 hS => ?_)
      obtain ⟨hP1, hK1, hD1⟩ := hB
      rw [ht] at hP1
      have hP := bv_still hP hk1
      generalize H1 = H at hP hS ⊢
      as_aux_lemma =>
      rcases hw with ⟨h_13, h_14⟩
      have h_14 : r_12 = _ := h_14
      replace hEX := hEX.trans (exc1_eq h_14)
      rw [h_13]
      refine lv_if_eq (tgt := 58) hx hb dX4_readUnit_35 rfl (fun c_15 => ?_) (fun c_15 => absurd c_15 (by decide +kernel))
      refine lv_aload_n hx hb dX4_readUnit_58 rfl (lv_at hl 2 rfl) ?_
      obtain ⟨hPc, hDc, hFc, hqc⟩ := cl_cut (wc := (wd_c_X9_refuseHere h1 h1_0 h1_f1 x_2 j24_h1_f3)) hP hD hS hA [0] (by decide +kernel) rfl
      have hKc := hK.sub (tys' := []) [] rfl
      have hrv := va_recv hKc hPc (ci := 9) (q0 := 0) rfl rfl
      refine va_callv (va_runV (As := []) (rest := []) ⟨hx, hb, hml, hown, hts⟩ (c_X9_refuseHere l dC dI H.size h1 h1_0 h1_f1 x_2 j24_h1_f3 g_h1_f1 h_4 g_j24_h1_f3) (cwV 0 hts gf_c_X4_readUnit_7_c_X9_refuseHere rfl rfl rfl mdV_X9_refuseHere ⟨Nat.le_of_ble_eq_true rfl, Nat.le_of_ble_eq_true rfl⟩) ⟨fun a U g mk q => by obtain ⟨q0, q1, qP, qK, qD⟩ := q; exact ⟨q0, q1, qP, va_K.moved (u := U) (U := U.calling g mk a) (Vm.Alike.refl U.vm) qK, qD⟩, hrv, fun U hU hW => ⟨rfl, by rw [hU], by rw [hU]; exact hPc, va_K.moved hW.alike hKc, hDc.weaken (fun _ _ _ _ => trivial)⟩⟩ rfl rfl hl.1 rfl (lv_room (Nat.le_of_ble_eq_true rfl)) dX4_readUnit_59 ⟨Nat.le_of_ble_eq_true rfl, Nat.le_of_ble_eq_true rfl⟩) hS (fun q _ h => hFc q h) hFc (fun x_17 t H1 locs ht hvm hw hB hz1 hk1 hS => ?_)
      obtain ⟨hP1, hK1, hD1⟩ := hB
      rw [ht] at hP1
      obtain ⟨hP, hD⟩ := cl_put (w1 := (wd_c_X9_refuseHere h1 h1_0 h1_f1 x_2 x_17)) (nw := (wd_c_X4_readUnit_7 h1 h1_0 h1_f1 x_2 x_17 h1_0 h1_0k h1_0c h0 h0_0 j24_h0_f1 h0_2 h0_0 h0_0k j24_h0_0c)) hP hD [0] [4, 1, 2, 3] 4 rfl hqc (by decide +kernel) rfl hk1 hFc hP1 hD1
      generalize H1 = H at hP hS ⊢
      as_aux_lemma =>
      rcases hw with ⟨h_18, h_19⟩
      have h_19 : x_17 = _ := h_19
      replace hEX := hEX.trans (exc1_eq h_19)
      exact hU _ _ _ (J62 x_2 x_17 j24_h0_f1 j24_h0_0c g_h0_f1 g_h1_f1 g_h1_f2 g_h1_f3 g_j24_h0_f1 h_4 (RG_w h_18 (by decide +kernel)) hEX _ _ _ hP hD hS (lv_sub hl [] rfl))
    · have h_11 : (r_1, x_2) = _ := h_11
      replace hEX := hEX.trans (exc2_eq h_11)
      replace hEX := hEX.trans (if_neg (RG_neq (x := r_1) (c := (-1)) (show RG r_1 0 255 from h_7) (by decide +kernel)))
      refine lv_istore (lv' := [(4, .int r_1), (0, .ref h0), (1, .ref h1), (2, .int 6)]) hx hb dX4_readUnit_28 hl (Nat.le_of_ble_eq_true rfl) rfl (fun ls hl => ?_)
      refine lv_iload hx hb dX4_readUnit_30 (lv_at hl 0 rfl) ?_
      obtain ⟨hPc, hDc, hFc, hqc⟩ := cl_cut (wc := []) hP hD hS hA [] (by decide +kernel) rfl
      have hKc := hK.sub (tys' := []) [] rfl
      refine va_calli (va_runS (As := [.int r_1]) (rest := []) ⟨hx, hb, hml, hown, hts⟩ (c_X4_isComparison_1 l dC dI H.size r_1 h_7) (va_cwS 1 hts gf_c_X4_readUnit_7_c_X4_isComparison_1 rfl rfl rfl md_X4_isComparison ⟨Nat.le_of_ble_eq_true rfl, Nat.le_of_ble_eq_true rfl⟩) ⟨fun a U g mk q => by obtain ⟨q0, q1, qP, qK, qD⟩ := q; exact ⟨q0, q1, qP, va_K.moved (u := U) (U := U.calling g mk a) (Vm.Alike.refl U.vm) qK, qD⟩, fun U hU hW => ⟨rfl, by rw [hU], by rw [hU]; exact hPc, va_K.moved hW.alike hKc, hDc.weaken (fun _ _ _ _ => trivial)⟩⟩ rfl rfl hl.1 rfl (lv_room (Nat.le_of_ble_eq_true rfl)) dX4_readUnit_32 ⟨Nat.le_of_ble_eq_true rfl, Nat.le_of_ble_eq_true rfl⟩) hS (fun q _ h => hFc q h) hFc (fun r_20 u t H1 locs ht hvm hw hB hz1 hk1 hS => ?_)
      obtain ⟨hP1, hK1, hD1⟩ := hB
      rw [ht] at hP1
      have hP := bv_still hP hk1
      generalize H1 = H at hP hS ⊢
      as_aux_lemma =>
      rcases hw with ⟨h_21, h_22⟩ | ⟨h_23, h_24, h_25⟩
      · have h_22 : r_20 = _ := h_22
        replace hEX := hEX.trans (exc1_eq h_22)
        replace hEX := hEX.trans (if_pos (show r_20 = 0 from h_21))
        rw [h_21]
        refine lv_if_eq (tgt := 58) hx hb dX4_readUnit_35 rfl (fun c_26 => ?_) (fun c_26 => absurd c_26 (by decide +kernel))
        refine lv_aload_n hx hb dX4_readUnit_58 rfl (lv_at hl 2 rfl) ?_
        obtain ⟨hPc, hDc, hFc, hqc⟩ := cl_cut (wc := (wd_c_X9_refuseHere h1 h1_0 h1_f1 x_2 j24_h1_f3)) hP hD hS hA [0] (by decide +kernel) rfl
        have hKc := hK.sub (tys' := []) [] rfl
        have hrv := va_recv hKc hPc (ci := 9) (q0 := 0) rfl rfl
        refine va_callv (va_runV (As := []) (rest := []) ⟨hx, hb, hml, hown, hts⟩ (c_X9_refuseHere l dC dI H.size h1 h1_0 h1_f1 x_2 j24_h1_f3 (RG_w h_9 (by decide +kernel)) (RG_w h_8 (by decide +kernel)) g_j24_h1_f3) (cwV 0 hts gf_c_X4_readUnit_7_c_X9_refuseHere rfl rfl rfl mdV_X9_refuseHere ⟨Nat.le_of_ble_eq_true rfl, Nat.le_of_ble_eq_true rfl⟩) ⟨fun a U g mk q => by obtain ⟨q0, q1, qP, qK, qD⟩ := q; exact ⟨q0, q1, qP, va_K.moved (u := U) (U := U.calling g mk a) (Vm.Alike.refl U.vm) qK, qD⟩, hrv, fun U hU hW => ⟨rfl, by rw [hU], by rw [hU]; exact hPc, va_K.moved hW.alike hKc, hDc.weaken (fun _ _ _ _ => trivial)⟩⟩ rfl rfl hl.1 rfl (lv_room (Nat.le_of_ble_eq_true rfl)) dX4_readUnit_59 ⟨Nat.le_of_ble_eq_true rfl, Nat.le_of_ble_eq_true rfl⟩) hS (fun q _ h => hFc q h) hFc (fun x_28 t H1 locs ht hvm hw hB hz1 hk1 hS => ?_)
        obtain ⟨hP1, hK1, hD1⟩ := hB
        rw [ht] at hP1
        obtain ⟨hP, hD⟩ := cl_put (w1 := (wd_c_X9_refuseHere h1 h1_0 h1_f1 x_2 x_28)) (nw := (wd_c_X4_readUnit_7 h1 h1_0 h1_f1 x_2 x_28 h1_0 h1_0k h1_0c h0 h0_0 j24_h0_f1 h0_2 h0_0 h0_0k j24_h0_0c)) hP hD [0] [4, 1, 2, 3] 4 rfl hqc (by decide +kernel) rfl hk1 hFc hP1 hD1
        generalize H1 = H at hP hS ⊢
        as_aux_lemma =>
        rcases hw with ⟨h_29, h_30⟩
        have h_30 : x_28 = _ := h_30
        replace hEX := hEX.trans (exc1_eq h_30)
        exact hU _ _ _ (J62 x_2 x_28 j24_h0_f1 j24_h0_0c g_h0_f1 (RG_w h_9 (by decide +kernel)) g_h1_f2 g_h1_f3 g_j24_h0_f1 (RG_w h_8 (by decide +kernel)) (RG_w h_29 (by decide +kernel)) hEX _ _ _ hP hD hS (lv_sub hl [] rfl))
      · have h_25 : r_20 = _ := h_25
        replace hEX := hEX.trans (exc1_eq h_25)
        replace hEX := hEX.trans (if_neg (fun q9 : r_20 = 0 => absurd ((show r_20 = 1 from h_23).symm.trans q9) (by decide +kernel)))
        rw [h_23]
        refine lv_if_eq (tgt := 58) hx hb dX4_readUnit_35 rfl (fun c_31 => absurd c_31 (by decide +kernel)) (fun c_31 => ?_)
        refine lv_aload_n hx hb dX4_readUnit_38 rfl (lv_at hl 2 rfl) ?_
        obtain ⟨hPc, hDc, hFc, hqc⟩ := cl_cut (wc := (wd_c_X9_skip h1 h1_0 h1_f1 x_2 j24_h1_f3)) hP hD hS hA [0] (by decide +kernel) rfl
        have hKc := hK.sub (tys' := []) [] rfl
        have hrv := va_recv hKc hPc (ci := 9) (q0 := 0) rfl rfl
        refine va_callv (va_runV (As := []) (rest := []) ⟨hx, hb, hml, hown, hts⟩ (c_X9_skip l dC dI H.size h1 h1_0 h1_f1 x_2 j24_h1_f3 (RG_w h_9 (by decide +kernel)) h_8 g_j24_h1_f3) (cwV 0 hts gf_c_X4_readUnit_7_c_X9_skip rfl rfl rfl mdV_X9_skip ⟨Nat.le_of_ble_eq_true rfl, Nat.le_of_ble_eq_true rfl⟩) ⟨fun a U g mk q => by obtain ⟨q0, q1, qP, qK, qD⟩ := q; exact ⟨q0, q1, qP, va_K.moved (u := U) (U := U.calling g mk a) (Vm.Alike.refl U.vm) qK, qD⟩, hrv, fun U hU hW => ⟨rfl, by rw [hU], by rw [hU]; exact hPc, va_K.moved hW.alike hKc, hDc.weaken (fun _ _ _ _ => trivial)⟩⟩ rfl rfl hl.1 rfl (lv_room (Nat.le_of_ble_eq_true rfl)) dX4_readUnit_39 ⟨Nat.le_of_ble_eq_true rfl, Nat.le_of_ble_eq_true rfl⟩) hS (fun q _ h => hFc q h) hFc (fun x_33 t H1 locs ht hvm hw hB hz1 hk1 hS => ?_)
        as_aux_lemma =>
        obtain ⟨hP1, hK1, hD1⟩ := hB
        rw [ht] at hP1
        obtain ⟨hP, hD⟩ := cl_put (w1 := (wd_c_X9_skip h1 h1_0 h1_f1 x_33 j24_h1_f3)) (nw := (wd_c_X4_readUnit_7 h1 h1_0 h1_f1 x_33 j24_h1_f3 h1_0 h1_0k h1_0c h0 h0_0 j24_h0_f1 h0_2 h0_0 h0_0k j24_h0_0c)) hP hD [0] [4, 1, 2, 3] 4 rfl hqc (by decide +kernel) rfl hk1 hFc hP1 hD1
        generalize H1 = H at hP hS ⊢
        as_aux_lemma =>
        rcases hw with ⟨h_34, h_35, h_36, h_37⟩
        have h_37 : x_33 = _ := h_37
        replace hEX := hEX.trans (exc1_eq h_37)
        refine lv_aload_n hx hb dX4_readUnit_42 rfl (lv_at hl 1 rfl) ?_
        refine lv_aload_n hx hb dX4_readUnit_43 rfl (lv_at hl 2 rfl) ?_
        refine lv_iload_n hx hb dX4_readUnit_44 rfl (lv_at hl 3 rfl) ?_
        obtain ⟨hPc, hDc, hFc, hqc⟩ := cl_cut (wc := (wd_c_X4_readSum_6 h1 h1_0 h1_f1 x_33 j24_h1_f3 h1_0 h1_0k h1_0c h0 h0_0 j24_h0_f1 h0_2 h0_0 h0_0k j24_h0_0c)) hP hD hS hA [0, 1, 2, 3] (by decide +kernel) rfl
        have hKc := hK.sub (tys' := [(h1_0k, .int), (h0_0k, .int)]) [0, 1] rfl
        have hrv := va_recv hKc hPc (ci := 4) (q0 := 2) rfl rfl
        refine va_callv (va_runV (As := [.ref h1, .int 6]) (rest := []) ⟨hx, hb, hml, hown, hts⟩ (c_X4_readSum_6 l dC dI H.size h0 h1 h1_0 h1_f1 x_33 j24_h1_f3 h1_0k h1_0c h0_0 j24_h0_f1 h0_2 h0_0k j24_h0_0c ts4 tv4 (RG_w h_9 (by decide +kernel)) (RG_w h_34 (by decide +kernel)) g_j24_h1_f3 a_h1_0c g_j24_h0_f1) (cwV 2 hts gf_c_X4_readUnit_7_c_X4_readSum_6 rfl rfl rfl mdV_X4_readSum ⟨Nat.le_of_ble_eq_true rfl, Nat.le_of_ble_eq_true rfl⟩) ⟨fun a U g mk q => by obtain ⟨q0, q1, qP, qK, qD, qE0, qE1, qE2, qE3, qE4, qE5⟩ := q; exact ⟨q0, q1, qP, va_K.moved (u := U) (U := U.calling g mk a) (Vm.Alike.refl U.vm) qK, qD, vk_R.same rfl qE0, va_Z.moved (u := U) (U := U.calling g mk a) (Vm.Alike.refl U.vm) qE1, va_OF.moved (u := U) (U := U.calling g mk a) (Vm.Alike.refl U.vm) qE2, va_O.moved (u := U) (U := U.calling g mk a) (Vm.Alike.refl U.vm) qE3, va_OF.moved (u := U) (U := U.calling g mk a) (Vm.Alike.refl U.vm) qE4, va_T.moved (u := U) (U := U.calling g mk a) (Vm.Alike.refl U.vm) qE5⟩, hrv, fun U hU hW => ⟨rfl, by rw [hU], by rw [hU]; exact hPc, va_K.moved hW.alike hKc, hDc.weaken (fun _ _ _ _ => trivial), vk_R.warm hW hE_32, va_Z.moved hW.alike (by rw [hU]; exact (hE_10.kept hS.2.1).narrow hFc), va_OF.moved hW.alike (by rw [hU]; exact (hE_34.kept hS.2.1).narrow hFc), va_O.moved hW.alike (by rw [hU]; exact (hE_33.kept hS.2.1).narrow hFc), va_OF.moved hW.alike (by rw [hU]; exact (hE_35.kept hS.2.1).narrow hFc), va_T.moved hW.alike (by rw [hU]; exact (hE_36.kept hS.2.1).narrow hFc)⟩⟩ rfl rfl hl.1 rfl (lv_room (Nat.le_of_ble_eq_true rfl)) dX4_readUnit_45 ⟨Nat.le_of_ble_eq_true rfl, Nat.le_of_ble_eq_true rfl⟩) hS (fun q _ h => hFc q h) hFc (fun u t H1 locs ht hvm hw hB hz1 hk1 hS => ?_)
        obtain ⟨x_39, x_40, x_41, w_42⟩ := u
        obtain ⟨hP1, hK1, hD1⟩ := hB
        rw [ht] at hP1
        obtain ⟨hP, hD⟩ := cl_put (w1 := (wd_c_X4_readSum_6 h1 h1_0 h1_f1 x_39 x_40 h1_0 h1_0k h1_0c h0 h0_0 x_41 h0_2 h0_0 h0_0k w_42)) (nw := (wd_c_X4_readUnit_7 h1 h1_0 h1_f1 x_39 x_40 h1_0 h1_0k h1_0c h0 h0_0 x_41 h0_2 h0_0 h0_0k w_42)) hP hD [0, 1, 2, 3] [4, 5, 6, 7] 4 rfl hqc (by decide +kernel) rfl hk1 hFc hP1 hD1
        generalize H1 = H at hP hS ⊢
        as_aux_lemma =>
        rcases hw with ⟨h_43, h_44, h_45, h_46⟩
        have h_46 : (x_39, x_40, x_41, w_42) = _ := h_46
        replace hEX := hEX.trans (exc4_eq h_46)
        refine lv_aload_n hx hb dX4_readUnit_48 rfl (lv_at hl 1 rfl) ?_
        refine lv_iload hx hb dX4_readUnit_49 (lv_at hl 0 rfl) ?_
        refine lv_ineg hx hb dX4_readUnit_51 ?_
        refine lv_topi (fun x_47 ex_47 => ?_)
        replace hEX := hEX.trans (exl_eq ex_47)
        have g_48 : RG x_47 (-62) (-60) := RG_neg ex_47 h_24 (by decide +kernel)
        obtain ⟨hPc, hDc, hFc, hqc⟩ := cl_cut (wc := (wd_c_X4_emit h0 h0_0 x_41 h0_2 h0_0 h0_0k w_42)) hP hD hS hA [2, 3] (by decide +kernel) rfl
        have hKc := hK.sub (tys' := [(h0_0k, .int)]) [1] rfl
        have hrv := va_recv hKc hPc (ci := 4) (q0 := 0) rfl rfl
        refine va_callv (va_runV (As := [.int x_47]) (rest := []) ⟨hx, hb, hml, hown, hts⟩ (c_X4_emit l dC dI H.size h0 x_47 h0_0 x_41 h0_2 h0_0k w_42 h_45) (cwV 1 hts gf_c_X4_readUnit_7_c_X4_emit rfl rfl rfl mdV_X4_emit ⟨Nat.le_of_ble_eq_true rfl, Nat.le_of_ble_eq_true rfl⟩) ⟨fun a U g mk q => by obtain ⟨q0, q1, qP, qK, qD⟩ := q; exact ⟨q0, q1, qP, va_K.moved (u := U) (U := U.calling g mk a) (Vm.Alike.refl U.vm) qK, qD⟩, hrv, fun U hU hW => ⟨rfl, by rw [hU], by rw [hU]; exact hPc, va_K.moved hW.alike hKc, hDc.weaken (fun _ _ _ _ => trivial)⟩⟩ rfl rfl hl.1 rfl (lv_room (Nat.le_of_ble_eq_true rfl)) dX4_readUnit_52 ⟨Nat.le_of_ble_eq_true rfl, Nat.le_of_ble_eq_true rfl⟩) hS (fun q _ h => hFc q h) hFc (fun u t H1 locs ht hvm hw hB hz1 hk1 hS => ?_)
        obtain ⟨x_50, w_51⟩ := u
        obtain ⟨hP1, hK1, hD1⟩ := hB
        rw [ht] at hP1
        obtain ⟨hP, hD⟩ := cl_put (w1 := (wd_c_X4_emit h0 h0_0 x_50 h0_2 h0_0 h0_0k w_51)) (nw := (wd_c_X4_readUnit_7 h1 h1_0 h1_f1 x_39 x_40 h1_0 h1_0k h1_0c h0 h0_0 x_50 h0_2 h0_0 h0_0k w_51)) hP hD [2, 3] [0, 1, 4, 5] 4 rfl hqc (by decide +kernel) rfl hk1 hFc hP1 hD1
        generalize H1 = H at hP hS ⊢
        as_aux_lemma =>
        rcases hw with ⟨h_52, h_53⟩
        have h_53 : (x_50, w_51) = _ := h_53
        replace hEX := hEX.trans (exc2_eq h_53)
        refine lv_goto (tgt := 62) hx hb dX4_readUnit_55 rfl ?_
        exact hU _ _ _ (J62 x_39 x_40 x_50 w_51 g_h0_f1 (RG_w h_9 (by decide +kernel)) g_h1_f2 g_h1_f3 (RG_w h_52 (by decide +kernel)) h_43 h_44 hEX _ _ _ hP hD hS (lv_sub hl [] rfl))
  have J14 : ∀ (j14_h1_f2 : Int32) (g_h0_f1 : RG h0_f1 0 240) (g_h1_f1 : RG h1_f1 0 240) (g_h1_f2 : RG h1_f2 0 240) (g_h1_f3 : RG h1_f3 (-1) 240) (g_j14_h1_f2 : RG j14_h1_f2 0 240) (hEX : RES = fx_c_X4_readUnit_7_p14 h1_f1 h1_f3 h1_0c h0_f1 h0_0c j14_h1_f2) (H : Heap) (locs : List Loc) (ls : Array Slot) (hP : va_P (dC, dI) vwCl (wd_c_X4_readUnit_7 h1 h1_0 h1_f1 j14_h1_f2 h1_f3 h1_0 h1_0k h1_0c h0 h0_0 h0_f1 h0_2 h0_0 h0_0k h0_0c) H) (hD : va_D A (wd_c_X4_readUnit_7 h1 h1_0 h1_f1 j14_h1_f2 h1_f3 h1_0 h1_0k h1_0c h0 h0_0 h0_f1 h0_2 h0_0 h0_0k h0_0c)) (hS : va_S A s.heap H locs) (hl : lv_has ls 5 [(0, .ref h0), (1, .ref h1), (2, .int 6), (3, .int 0)]), G H locs (F0 m 14 ls []) := by
    as_aux_lemma =>
    intro j14_h1_f2 g_h0_f1 g_h1_f1 g_h1_f2 g_h1_f3 g_j14_h1_f2 hEX H locs ls hP hD hS hl
    refine hG _ _ _ ?_
    refine lv_iload_n hx hb dX4_readUnit_14 rfl (lv_at hl 3 rfl) ?_
    refine lv_if_ne (tgt := 24) hx hb dX4_readUnit_15 rfl (fun c_54 => absurd c_54 (by decide +kernel)) (fun c_54 => ?_)
    refine lv_aload_n hx hb dX4_readUnit_18 rfl (lv_at hl 0 rfl) ?_
    refine lv_aload_n hx hb dX4_readUnit_19 rfl (lv_at hl 1 rfl) ?_
    refine lv_iload_n hx hb dX4_readUnit_20 rfl (lv_at hl 2 rfl) ?_
    obtain ⟨hPc, hDc, hFc, hqc⟩ := cl_cut (wc := (wd_c_X4_readSum_6 h1 h1_0 h1_f1 j14_h1_f2 h1_f3 h1_0 h1_0k h1_0c h0 h0_0 h0_f1 h0_2 h0_0 h0_0k h0_0c)) hP hD hS hA [0, 1, 2, 3] (by decide +kernel) rfl
    have hKc := hK.sub (tys' := [(h1_0k, .int), (h0_0k, .int)]) [0, 1] rfl
    have hrv := va_recv hKc hPc (ci := 4) (q0 := 2) rfl rfl
    refine va_callv (va_runV (As := [.ref h1, .int 6]) (rest := []) ⟨hx, hb, hml, hown, hts⟩ (c_X4_readSum_6 l dC dI H.size h0 h1 h1_0 h1_f1 j14_h1_f2 h1_f3 h1_0k h1_0c h0_0 h0_f1 h0_2 h0_0k h0_0c ts4 tv4 g_h1_f1 g_j14_h1_f2 g_h1_f3 a_h1_0c g_h0_f1) (cwV 2 hts gf_c_X4_readUnit_7_c_X4_readSum_6 rfl rfl rfl mdV_X4_readSum ⟨Nat.le_of_ble_eq_true rfl, Nat.le_of_ble_eq_true rfl⟩) ⟨fun a U g mk q => by obtain ⟨q0, q1, qP, qK, qD, qE0, qE1, qE2, qE3, qE4, qE5⟩ := q; exact ⟨q0, q1, qP, va_K.moved (u := U) (U := U.calling g mk a) (Vm.Alike.refl U.vm) qK, qD, vk_R.same rfl qE0, va_Z.moved (u := U) (U := U.calling g mk a) (Vm.Alike.refl U.vm) qE1, va_OF.moved (u := U) (U := U.calling g mk a) (Vm.Alike.refl U.vm) qE2, va_O.moved (u := U) (U := U.calling g mk a) (Vm.Alike.refl U.vm) qE3, va_OF.moved (u := U) (U := U.calling g mk a) (Vm.Alike.refl U.vm) qE4, va_T.moved (u := U) (U := U.calling g mk a) (Vm.Alike.refl U.vm) qE5⟩, hrv, fun U hU hW => ⟨rfl, by rw [hU], by rw [hU]; exact hPc, va_K.moved hW.alike hKc, hDc.weaken (fun _ _ _ _ => trivial), vk_R.warm hW hE_32, va_Z.moved hW.alike (by rw [hU]; exact (hE_10.kept hS.2.1).narrow hFc), va_OF.moved hW.alike (by rw [hU]; exact (hE_34.kept hS.2.1).narrow hFc), va_O.moved hW.alike (by rw [hU]; exact (hE_33.kept hS.2.1).narrow hFc), va_OF.moved hW.alike (by rw [hU]; exact (hE_35.kept hS.2.1).narrow hFc), va_T.moved hW.alike (by rw [hU]; exact (hE_36.kept hS.2.1).narrow hFc)⟩⟩ rfl rfl hl.1 rfl (lv_room (Nat.le_of_ble_eq_true rfl)) dX4_readUnit_21 ⟨Nat.le_of_ble_eq_true rfl, Nat.le_of_ble_eq_true rfl⟩) hS (fun q _ h => hFc q h) hFc (fun u t H1 locs ht hvm hw hB hz1 hk1 hS => ?_)
    obtain ⟨x_56, x_57, x_58, w_59⟩ := u
    obtain ⟨hP1, hK1, hD1⟩ := hB
    rw [ht] at hP1
    obtain ⟨hP, hD⟩ := cl_put (w1 := (wd_c_X4_readSum_6 h1 h1_0 h1_f1 x_56 x_57 h1_0 h1_0k h1_0c h0 h0_0 x_58 h0_2 h0_0 h0_0k w_59)) (nw := (wd_c_X4_readUnit_7 h1 h1_0 h1_f1 x_56 x_57 h1_0 h1_0k h1_0c h0 h0_0 x_58 h0_2 h0_0 h0_0k w_59)) hP hD [0, 1, 2, 3] [4, 5, 6, 7] 4 rfl hqc (by decide +kernel) rfl hk1 hFc hP1 hD1
    generalize H1 = H at hP hS ⊢
    as_aux_lemma =>
    rcases hw with ⟨h_60, h_61, h_62, h_63⟩
    have h_63 : (x_56, x_57, x_58, w_59) = _ := h_63
    replace hEX := hEX.trans (exc4_eq h_63)
    exact hU _ _ _ (J24 x_56 x_57 x_58 w_59 g_h0_f1 g_h1_f1 g_h1_f2 g_h1_f3 h_62 h_60 h_61 hEX _ _ _ hP hD hS (lv_sub hl [0, 1, 2] rfl))
  refine hG _ _ _ ?_
  refine lv_iload_n hx hb dX4_readUnit_0 rfl (lv_at hl 3 rfl) ?_
  refine lv_if_ne (tgt := 14) hx hb dX4_readUnit_1 rfl (fun c_64 => absurd c_64 (by decide +kernel)) (fun c_64 => ?_)
  refine lv_aload_n hx hb dX4_readUnit_4 rfl (lv_at hl 1 rfl) ?_
  obtain ⟨hPc, hDc, hFc, hqc⟩ := cl_cut (wc := (wd_c_X9_peek h1 h1_0 h1_f1 h1_f2 h1_f3 h1_0 h1_0k h1_0c)) hP hD hS hA [0, 1] (by decide +kernel) rfl
  have hKc := hK.sub (tys' := [(h1_0k, .int)]) [0] rfl
  have hrv := va_recv hKc hPc (ci := 9) (q0 := 0) rfl rfl
  refine va_calli (va_runV (As := []) (rest := []) ⟨hx, hb, hml, hown, hts⟩ (c_X9_peek l dC dI H.size h1 h1_0 h1_f1 h1_f2 h1_f3 h1_0k h1_0c g_h1_f1 g_h1_f2 g_h1_f3 a_h1_0c) (cwV 0 hts gf_c_X4_readUnit_7_c_X9_peek rfl rfl rfl mdV_X9_peek ⟨Nat.le_of_ble_eq_true rfl, Nat.le_of_ble_eq_true rfl⟩) ⟨fun a U g mk q => by obtain ⟨q0, q1, qP, qK, qD⟩ := q; exact ⟨q0, q1, qP, va_K.moved (u := U) (U := U.calling g mk a) (Vm.Alike.refl U.vm) qK, qD⟩, hrv, fun U hU hW => ⟨rfl, by rw [hU], by rw [hU]; exact hPc, va_K.moved hW.alike hKc, hDc.weaken (fun _ _ _ _ => trivial)⟩⟩ rfl rfl hl.1 rfl (lv_room (Nat.le_of_ble_eq_true rfl)) dX4_readUnit_5 ⟨Nat.le_of_ble_eq_true rfl, Nat.le_of_ble_eq_true rfl⟩) hS (fun q _ h => hFc q h) hFc (fun r_65 x_66 t H1 locs ht hvm hw hB hz1 hk1 hS => ?_)
  obtain ⟨hP1, hK1, hD1⟩ := hB
  rw [ht] at hP1
  obtain ⟨hP, hD⟩ := cl_put (w1 := (wd_c_X9_peek h1 h1_0 h1_f1 x_66 h1_f3 h1_0 h1_0k h1_0c)) (nw := (wd_c_X4_readUnit_7 h1 h1_0 h1_f1 x_66 h1_f3 h1_0 h1_0k h1_0c h0 h0_0 h0_f1 h0_2 h0_0 h0_0k h0_0c)) hP hD [0, 1] [4, 5, 2, 3] 4 rfl hqc (by decide +kernel) rfl hk1 hFc hP1 hD1
  generalize H1 = H at hP hS ⊢
  as_aux_lemma =>
  rcases hw with ⟨h_67, h_68, h_69, h_70⟩ | ⟨h_71, h_72, h_73, h_74, h_75⟩
  · have h_70 : (r_65, x_66) = _ := h_70
    replace hEX := hEX.trans (exc2_eq h_70)
    replace hEX := hEX.trans (if_pos (show r_65 = (-1) from h_67))
    rw [h_67]
    obtain ⟨hPc, hDc, hFc, hqc⟩ := cl_cut (wc := []) hP hD hS hA [] (by decide +kernel) rfl
    have hKc := hK.sub (tys' := []) [] rfl
    refine va_calli (va_runS (As := [.int (-1)]) (rest := []) ⟨hx, hb, hml, hown, hts⟩ (c_X4_startsUnit l dC dI H.size (-1) (RG_k (-1) (-1) rfl)) (va_cwS 1 hts gf_c_X4_readUnit_7_c_X4_startsUnit rfl rfl rfl md_X4_startsUnit ⟨Nat.le_of_ble_eq_true rfl, Nat.le_of_ble_eq_true rfl⟩) ⟨fun a U g mk q => by obtain ⟨q0, q1, qP, qK, qD⟩ := q; exact ⟨q0, q1, qP, va_K.moved (u := U) (U := U.calling g mk a) (Vm.Alike.refl U.vm) qK, qD⟩, fun U hU hW => ⟨rfl, by rw [hU], by rw [hU]; exact hPc, va_K.moved hW.alike hKc, hDc.weaken (fun _ _ _ _ => trivial)⟩⟩ rfl rfl hl.1 rfl (lv_room (Nat.le_of_ble_eq_true rfl)) dX4_readUnit_8 ⟨Nat.le_of_ble_eq_true rfl, Nat.le_of_ble_eq_true rfl⟩) hS (fun q _ h => hFc q h) hFc (fun r_76 u t H1 locs ht hvm hw hB hz1 hk1 hS => ?_)
    obtain ⟨hP1, hK1, hD1⟩ := hB
    rw [ht] at hP1
    have hP := bv_still hP hk1
    generalize H1 = H at hP hS ⊢
    as_aux_lemma =>
    rcases hw with ⟨h_77, h_78⟩
    have h_78 : r_76 = _ := h_78
    replace hEX := hEX.trans (exc1_eq h_78)
    rw [h_77]
    refine lv_if_ne (tgt := 65) hx hb dX4_readUnit_11 rfl (fun c_79 => absurd c_79 (by decide +kernel)) (fun c_79 => ?_)
    exact hU _ _ _ (J14 x_66 g_h0_f1 g_h1_f1 g_h1_f2 g_h1_f3 h_68 hEX _ _ _ hP hD hS (lv_sub hl [0, 1, 2, 3] rfl))
  · have h_75 : (r_65, x_66) = _ := h_75
    replace hEX := hEX.trans (exc2_eq h_75)
    replace hEX := hEX.trans (if_neg (RG_neq (x := r_65) (c := (-1)) (show RG r_65 0 255 from h_71) (by decide +kernel)))
    obtain ⟨hPc, hDc, hFc, hqc⟩ := cl_cut (wc := []) hP hD hS hA [] (by decide +kernel) rfl
    have hKc := hK.sub (tys' := []) [] rfl
    refine va_calli (va_runS (As := [.int r_65]) (rest := []) ⟨hx, hb, hml, hown, hts⟩ (c_X4_startsUnit_1 l dC dI H.size r_65 h_71) (va_cwS 1 hts gf_c_X4_readUnit_7_c_X4_startsUnit_1 rfl rfl rfl md_X4_startsUnit ⟨Nat.le_of_ble_eq_true rfl, Nat.le_of_ble_eq_true rfl⟩) ⟨fun a U g mk q => by obtain ⟨q0, q1, qP, qK, qD⟩ := q; exact ⟨q0, q1, qP, va_K.moved (u := U) (U := U.calling g mk a) (Vm.Alike.refl U.vm) qK, qD⟩, fun U hU hW => ⟨rfl, by rw [hU], by rw [hU]; exact hPc, va_K.moved hW.alike hKc, hDc.weaken (fun _ _ _ _ => trivial)⟩⟩ rfl rfl hl.1 rfl (lv_room (Nat.le_of_ble_eq_true rfl)) dX4_readUnit_8 ⟨Nat.le_of_ble_eq_true rfl, Nat.le_of_ble_eq_true rfl⟩) hS (fun q _ h => hFc q h) hFc (fun r_80 u t H1 locs ht hvm hw hB hz1 hk1 hS => ?_)
    obtain ⟨hP1, hK1, hD1⟩ := hB
    rw [ht] at hP1
    have hP := bv_still hP hk1
    generalize H1 = H at hP hS ⊢
    as_aux_lemma =>
    rcases hw with ⟨h_81, h_82⟩ | ⟨h_83, h_84, h_85⟩
    · have h_82 : r_80 = _ := h_82
      replace hEX := hEX.trans (exc1_eq h_82)
      replace hEX := hEX.trans (if_pos (show r_80 = 0 from h_81))
      rw [h_81]
      refine lv_if_ne (tgt := 65) hx hb dX4_readUnit_11 rfl (fun c_86 => absurd c_86 (by decide +kernel)) (fun c_86 => ?_)
      exact hU _ _ _ (J14 x_66 g_h0_f1 (RG_w h_73 (by decide +kernel)) g_h1_f2 g_h1_f3 (RG_w h_72 (by decide +kernel)) hEX _ _ _ hP hD hS (lv_sub hl [0, 1, 2, 3] rfl))
    · have h_85 : r_80 = _ := h_85
      replace hEX := hEX.trans (exc1_eq h_85)
      replace hEX := hEX.trans (if_neg (fun q9 : r_80 = 0 => absurd ((show r_80 = 1 from h_83).symm.trans q9) (by decide +kernel)))
      rw [h_83]
      refine lv_if_ne (tgt := 65) hx hb dX4_readUnit_11 rfl (fun c_87 => ?_) (fun c_87 => absurd c_87 (by decide +kernel))
      refine lv_iload_n hx hb dX4_readUnit_65 rfl (lv_at hl 2 rfl) ?_
      refine lv_bipush (v := 6) hx hb dX4_readUnit_66 kc_bipush_6 ?_
      as_aux_lemma =>
      refine lv_icmp_lt (tgt := 78) hx hb dX4_readUnit_68 rfl (fun c_88 => absurd c_88 (by decide +kernel)) (fun c_88 => ?_)
      refine lv_aload_n hx hb dX4_readUnit_71 rfl (lv_at hl 1 rfl) ?_
      obtain ⟨hPc, hDc, hFc, hqc⟩ := cl_cut (wc := (wd_c_X9_refuseHere h1 h1_0 h1_f1 x_66 h1_f3)) hP hD hS hA [0] (by decide +kernel) rfl
      have hKc := hK.sub (tys' := []) [] rfl
      have hrv := va_recv hKc hPc (ci := 9) (q0 := 0) rfl rfl
      refine va_callv (va_runV (As := []) (rest := []) ⟨hx, hb, hml, hown, hts⟩ (c_X9_refuseHere l dC dI H.size h1 h1_0 h1_f1 x_66 h1_f3 (RG_w h_73 (by decide +kernel)) (RG_w h_72 (by decide +kernel)) g_h1_f3) (cwV 0 hts gf_c_X4_readUnit_7_c_X9_refuseHere rfl rfl rfl mdV_X9_refuseHere ⟨Nat.le_of_ble_eq_true rfl, Nat.le_of_ble_eq_true rfl⟩) ⟨fun a U g mk q => by obtain ⟨q0, q1, qP, qK, qD⟩ := q; exact ⟨q0, q1, qP, va_K.moved (u := U) (U := U.calling g mk a) (Vm.Alike.refl U.vm) qK, qD⟩, hrv, fun U hU hW => ⟨rfl, by rw [hU], by rw [hU]; exact hPc, va_K.moved hW.alike hKc, hDc.weaken (fun _ _ _ _ => trivial)⟩⟩ rfl rfl hl.1 rfl (lv_room (Nat.le_of_ble_eq_true rfl)) dX4_readUnit_72 ⟨Nat.le_of_ble_eq_true rfl, Nat.le_of_ble_eq_true rfl⟩) hS (fun q _ h => hFc q h) hFc (fun x_90 t H1 locs ht hvm hw hB hz1 hk1 hS => ?_)
      obtain ⟨hP1, hK1, hD1⟩ := hB
      rw [ht] at hP1
      obtain ⟨hP, hD⟩ := cl_put (w1 := (wd_c_X9_refuseHere h1 h1_0 h1_f1 x_66 x_90)) (nw := (wd_c_X4_readUnit_7 h1 h1_0 h1_f1 x_66 x_90 h1_0 h1_0k h1_0c h0 h0_0 h0_f1 h0_2 h0_0 h0_0k h0_0c)) hP hD [0] [4, 1, 2, 3] 4 rfl hqc (by decide +kernel) rfl hk1 hFc hP1 hD1
      generalize H1 = H at hP hS ⊢
      as_aux_lemma =>
      rcases hw with ⟨h_91, h_92⟩
      have h_92 : x_90 = _ := h_92
      replace hEX := hEX.trans (exc1_eq h_92)
      refine lv_goto (tgt := 126) hx hb dX4_readUnit_75 rfl ?_
      have hK9 := hK.sub (tys' := []) [] rfl
      exact W.vret hx hb hr (fun t ht hW => ⟨⟨(x_66, x_90, h0_f1, h0_0c), rfl, ⟨(RG_w h_72 (by decide +kernel)), (RG_w h_91 (by decide +kernel)), g_h0_f1, (hR.trans hEX).symm⟩, by rw [ht]; exact hP, va_K.moved hW.alike hK9, hD⟩, hS.F ht⟩) hS.2.2 dX4_readUnit_126
noncomputable def wd_c_X9_take_1 (a0 : Nat) (a1 : Nat) (a2 : Int32) (a3 : Int32) (a4 : Int32) (a5 : Nat) (a6 : ClassId) (a7 : Nat → Int32) : va_W := [(a0, .inr (9, [.ref a1, .int a2, .int a3, .int a4])), (a5, .inl (a6, 240, .inl a7))]
noncomputable def wf_c_X9_take_1 : List Cond := List.cons (.code yX9_take cX9_take 2 (some .boolean)) (@HAppend.hAppend (List Cond) (List Cond) (List Cond) _ [.fieldLink RX9 15 "BuoyVote$Tape" "wrong" "I", .methodLink RX9 29 yX9_peek, .instanceMethod yX9_peek, .selects RX9 yX9_peek yX9_peek, .initialized RX9, .code yX9_peek cX9_peek 1 (some .int), .fieldLink RX9 22 "BuoyVote$Tape" "at" "I", .fieldLink RX9 19 "BuoyVote$Tape" "length" "I", .fieldLink RX9 11 "BuoyVote$Tape" "bytes" "[I"] wsX90)
theorem iw_c_X9_take_1_X9 : ∀ w ∈ wsX90, w ∈ wf_c_X9_take_1 := fun w h => List.mem_cons_of_mem _ (List.mem_append_right _ h)
set_option maxRecDepth 20000 in
theorem gf_c_X9_take_1_c_X9_peek : GoodIn wf_c_X9_take_1 (wsV RX9 29 RX9 yX9_peek wf_c_X9_peek) := goodIn_app (gi_l [2, 3, 4, 5] rfl rfl) (gi_cons (j := 6) rfl rfl (goodIn_app (gi_l [7, 8, 9] rfl rfl) (goodIn_sub iw_c_X9_take_1_X9 gw_X9)))
set_option maxHeartbeats 4000000 in
set_option maxRecDepth 100000 in
theorem c_X9_take_1 (l : Launch) (dC : Nat → ClassId) (dI : Nat → Nat → Nat) (sz : Nat) (h0 : Nat) (p1 : Int32) (h0_0 : Nat) (h0_f1 : Int32) (h0_f2 : Int32) (h0_f3 : Int32) (h0_0k : ClassId) (h0_0c : Nat → Int32) (g_p1 : RG p1 0 239) (g_h0_f1 : RG h0_f1 0 240) (g_h0_f2 : RG h0_f2 0 240) (g_h0_f3 : RG h0_f3 (-1) 240) (a_h0_0c : AI h0_0c 0 255) : Met l yX9_take wf_c_X9_take_1 ({ frames := 1, cells := 0, slots := 0, locals := 20 }) (va_Pc [.ref h0, .int p1] (fun U => U.heap.size = sz ∧ va_P (dC, dI) vwCl (wd_c_X9_take_1 h0 h0_0 h0_f1 h0_f2 h0_f3 h0_0 h0_0k h0_0c) U.heap ∧ va_K (dC, dI) vwCl [(h0_0k, .int)] U ∧ va_D (fun _ => True) (wd_c_X9_take_1 h0 h0_0 h0_f1 h0_f2 h0_f3 h0_0 h0_0k h0_0c))) (va_Qi (fun (r : Int32) (u : (Int32)) => (r = 0 ∧ RG u 0 240 ∧ h0_f2.toInt + 0 ≤ (u).toInt ∧ (r, u) = fx_c_X9_take_1 p1 h0_f1 h0_f2 h0_f3 h0_0c) ∨ (r = 1 ∧ RG u 1 240 ∧ RG h0_f1 1 240 ∧ RG h0_f3 (-1) (-1) ∧ h0_f2.toInt + 1 ≤ (u).toInt ∧ (r, u) = fx_c_X9_take_1 p1 h0_f1 h0_f2 h0_f3 h0_0c)) (fun (u : (Int32)) t => va_P (dC, dI) vwCl (wd_c_X9_take_1 h0 h0_0 h0_f1 u h0_f3 h0_0 h0_0k h0_0c) t.heap ∧ va_K (dC, dI) vwCl [] t ∧ va_D (va_A (wd_c_X9_take_1 h0 h0_0 h0_f1 h0_f2 h0_f3 h0_0 h0_0k h0_0c) sz) (wd_c_X9_take_1 h0 h0_0 h0_f1 u h0_f3 h0_0 h0_0k h0_0c)) (va_A (wd_c_X9_take_1 h0 h0_0 h0_f1 h0_f2 h0_f3 h0_0 h0_0k h0_0c) sz)) 0 0 (va_A (wd_c_X9_take_1 h0 h0_0 h0_f1 h0_f2 h0_f3 h0_0 h0_0k h0_0c) sz) := by
  refine Met.ofW (cc := cX9_take) (maxL := 2) (ret := (some .boolean)) (by decide +kernel) rfl ?_
  intro p e s m args below meth c s₁ B hml hv
  obtain ⟨rfl, hsz, hP, hK, hD0⟩ := hv
  have hx := B.exec
  have hb := B.bytes
  have hr := B.returns
  have hts := atoms_spec (ws := wf_c_X9_take_1) B.pre
  have hown : s.vm.findClass RX9 = some m.cls := findClass_of_methodNamed B.named
  have hlocks := B.notSynchronized
  subst hsz
  have hD := hD0.self (sz := s.heap.size)
  generalize hAe : va_A (wd_c_X9_take_1 h0 h0_0 h0_f1 h0_f2 h0_f3 h0_0 h0_0k h0_0c) s.heap.size = A at hD ⊢
  have hA : ∀ q : Nat, s.heap.size ≤ q → A q := fun q h => by rw [← hAe]; exact Or.inr h
  have hP : va_P (dC, dI) vwCl (wd_c_X9_take_1 h0 h0_0 h0_f1 h0_f2 h0_f3 h0_0 h0_0k h0_0c) s.heap := hP
  have hl := lv_entry ([.ref h0, .int p1]) (n := 2) (Nat.le_of_ble_eq_true rfl)
  rw [lg_entry_eq]
  generalize (lg_sl ([.ref h0, .int p1]) ++ List.replicate (2 - (lg_sl ([.ref h0, .int p1])).length) Slot.unset).toArray = ls at hl ⊢
  have hl : lv_has ls 2 [(0, .ref h0), (1, .int p1)] := hl
  obtain ⟨H, hHe⟩ : ∃ H : Heap, s.heap = H := ⟨_, rfl⟩
  have hS : va_S A s.heap H [] := by rw [hHe]; exact va_S.rf
  have hP : va_P (dC, dI) vwCl (wd_c_X9_take_1 h0 h0_0 h0_f1 h0_f2 h0_f3 h0_0 h0_0k h0_0c) H := by rw [← hHe]; exact hP
  rw [hHe]
  obtain ⟨RES, hR⟩ : ∃ z, fx_c_X9_take_1 p1 h0_f1 h0_f2 h0_f3 h0_0c = z := ⟨_, rfl⟩
  have hEX : RES = fx_c_X9_take_1 p1 h0_f1 h0_f2 h0_f3 h0_0c := hR.symm
  refine lv_aload_n hx hb dX9_take_0 rfl (lv_at hl 0 rfl) ?_
  as_aux_lemma =>
  refine va_get (D := (dC, dI)) (ci := 9) (v := .int h0_f3) (C := RX9) (T := TX9) (N := 4) hx hb hts iw_c_X9_take_1_X9 hown hK hP 0 rfl rfl 3 (by decide +kernel) (hts (.fieldLink RX9 15 "BuoyVote$Tape" "wrong" "I") (List.mem_of_getElem? (i := 1) rfl)) (fun _ h9 => h9) rfl dX9_take_1 ?_
  refine lv_iconst (v := (-1)) hx hb dX9_take_4 kc_iconst_m1 ?_
  refine lv_icmp_ne (tgt := 16) hx hb dX9_take_5 rfl (fun c_1 => ?_) (fun c_1 => ?_)
  · replace hEX := hEX.trans (if_neg c_1)
    have g_2 : RG h0_f3 0 240 := RG_ne1 g_h0_f3 (q := (-1)) rfl c_1 (by decide +kernel)
    refine lv_iconst (v := 0) hx hb dX9_take_16 kc_iconst_0 ?_
    have hK9 := hK.sub (tys' := []) [] rfl
    exact W.zret (v := 0) hx hb hr rfl (fun t ht hW => ⟨⟨0, h0_f2, rfl, (Or.inl ⟨rfl, g_h0_f2, (by show h0_f2.toInt + 0 ≤ h0_f2.toInt; omega), (hR.trans hEX).symm⟩), by rw [ht]; exact hP, va_K.moved hW.alike hK9, hD⟩, hS.F ht⟩) hS.2.2 dX9_take_17
  · replace hEX := hEX.trans (if_pos c_1)
    have g_3 : RG h0_f3 (-1) (-1) := RG_eq1 g_h0_f3 (RG_k (-1) (-1) rfl) c_1 (by decide +kernel)
    refine lv_aload_n hx hb dX9_take_8 rfl (lv_at hl 0 rfl) ?_
    obtain ⟨hPc, hDc, hFc, hqc⟩ := cl_cut (wc := (wd_c_X9_peek h0 h0_0 h0_f1 h0_f2 h0_f3 h0_0 h0_0k h0_0c)) hP hD hS hA [0, 1] (by decide +kernel) rfl
    have hKc := hK.sub (tys' := [(h0_0k, .int)]) [0] rfl
    have hrv := va_recv hKc hPc (ci := 9) (q0 := 0) rfl rfl
    refine va_calli (va_runV (As := []) (rest := []) ⟨hx, hb, hml, hown, hts⟩ (c_X9_peek l dC dI H.size h0 h0_0 h0_f1 h0_f2 h0_f3 h0_0k h0_0c g_h0_f1 g_h0_f2 (RG_w g_3 (by decide +kernel)) a_h0_0c) (cwV 0 hts gf_c_X9_take_1_c_X9_peek rfl rfl rfl mdV_X9_peek ⟨Nat.le_of_ble_eq_true rfl, Nat.le_of_ble_eq_true rfl⟩) ⟨fun a U g mk q => by obtain ⟨q0, q1, qP, qK, qD⟩ := q; exact ⟨q0, q1, qP, va_K.moved (u := U) (U := U.calling g mk a) (Vm.Alike.refl U.vm) qK, qD⟩, hrv, fun U hU hW => ⟨rfl, by rw [hU], by rw [hU]; exact hPc, va_K.moved hW.alike hKc, hDc.weaken (fun _ _ _ _ => trivial)⟩⟩ rfl rfl hl.1 rfl (lv_room (Nat.le_of_ble_eq_true rfl)) dX9_take_9 ⟨Nat.le_of_ble_eq_true rfl, Nat.le_of_ble_eq_true rfl⟩) hS (fun q _ h => hFc q h) hFc (fun r_4 x_5 t H1 locs ht hvm hw hB hz1 hk1 hS => ?_)
    as_aux_lemma =>
    obtain ⟨hP1, hK1, hD1⟩ := hB
    rw [ht] at hP1
    obtain ⟨hP, hD⟩ := cl_put (w1 := (wd_c_X9_peek h0 h0_0 h0_f1 x_5 h0_f3 h0_0 h0_0k h0_0c)) (nw := (wd_c_X9_take_1 h0 h0_0 h0_f1 x_5 h0_f3 h0_0 h0_0k h0_0c)) hP hD [0, 1] [2, 3] 2 rfl hqc (by decide +kernel) rfl hk1 hFc hP1 hD1
    generalize H1 = H at hP hS ⊢
    as_aux_lemma =>
    rcases hw with ⟨h_6, h_7, h_8, h_9⟩ | ⟨h_10, h_11, h_12, h_13, h_14⟩
    · have h_9 : (r_4, x_5) = _ := h_9
      replace hEX := hEX.trans (exc2_eq h_9)
      replace hEX := hEX.trans (if_pos (show r_4 = (-1) from h_6))
      rw [h_6]
      refine lv_iload_n hx hb dX9_take_12 rfl (lv_at hl 1 rfl) ?_
      refine lv_icmp_eq (tgt := 18) hx hb dX9_take_13 rfl (fun c_15 => ?_) (fun c_15 => ?_)
      · replace hEX := hEX.trans (if_pos c_15)
        exact RG_dead (RG_eq1 (RG_k (-1) (-1) rfl) g_p1 c_15 (a' := 0) (b' := (-1)) (by decide +kernel)) (by decide +kernel)
      · replace hEX := hEX.trans (if_neg c_15)
        refine lv_iconst (v := 0) hx hb dX9_take_16 kc_iconst_0 ?_
        have hK9 := hK.sub (tys' := []) [] rfl
        exact W.zret (v := 0) hx hb hr rfl (fun t ht hW => ⟨⟨0, x_5, rfl, (Or.inl ⟨rfl, h_7, (by have := h_8; show h0_f2.toInt + 0 ≤ x_5.toInt; omega), (hR.trans hEX).symm⟩), by rw [ht]; exact hP, va_K.moved hW.alike hK9, hD⟩, hS.F ht⟩) hS.2.2 dX9_take_17
    · have h_14 : (r_4, x_5) = _ := h_14
      replace hEX := hEX.trans (exc2_eq h_14)
      replace hEX := hEX.trans (if_neg (RG_neq (x := r_4) (c := (-1)) (show RG r_4 0 255 from h_10) (by decide +kernel)))
      refine lv_iload_n hx hb dX9_take_12 rfl (lv_at hl 1 rfl) ?_
      as_aux_lemma =>
      refine lv_icmp_eq (tgt := 18) hx hb dX9_take_13 rfl (fun c_16 => ?_) (fun c_16 => ?_)
      · replace hEX := hEX.trans (if_pos c_16)
        have g_17 : RG r_4 0 239 := RG_eq1 h_10 g_p1 c_16 (by decide +kernel)
        refine lv_aload_n hx hb dX9_take_18 rfl (lv_at hl 0 rfl) ?_
        refine lv_dup hx hb dX9_take_19 rfl ?_
        refine va_get (D := (dC, dI)) (ci := 9) (v := .int x_5) (C := RX9) (T := TX9) (N := 4) hx hb hts iw_c_X9_take_1_X9 hown hK hP 0 rfl rfl 2 (by decide +kernel) (hts (.fieldLink RX9 22 "BuoyVote$Tape" "at" "I") (List.mem_of_getElem? (i := 7) rfl)) (fun _ h9 => h9) rfl dX9_take_20 ?_
        refine lv_iconst (v := 1) hx hb dX9_take_23 kc_iconst_1 ?_
        refine lv_iadd hx hb dX9_take_24 ?_
        refine lv_topi (fun x_18 ex_18 => ?_)
        replace hEX := hEX.trans (exl_eq ex_18)
        have g_19 : RG x_18 1 240 := RG_add ex_18 h_11 (RG_k 1 1 rfl) (by decide +kernel)
        have q_20 : x_18.toInt = x_5.toInt + 1 := eq_add ex_18 h_11 (q := 1) rfl (by decide +kernel)
        refine va_put (D := (dC, dI)) (ci := 9) (v := .int x_18) (ty := .int) (C := RX9) (T := TX9) (N := 4) hx hb hts iw_c_X9_take_1_X9 tyX9 tyX9_ok nmX9 hown hK hP hD hS 0 rfl rfl 2 (by decide +kernel) (hts (.fieldLink RX9 22 "BuoyVote$Tape" "at" "I") (List.mem_of_getElem? (i := 7) rfl)) (fun _ h9 => h9) rfl (by decide +kernel) rfl rfl (Nat.le_of_ble_eq_true rfl) dX9_take_25 (fun H locs hP hD hS => ?_)
        have hP : va_P (dC, dI) vwCl (wd_c_X9_take_1 h0 h0_0 h0_f1 x_18 h0_f3 h0_0 h0_0k h0_0c) H := hP
        have hD : va_D A (wd_c_X9_take_1 h0 h0_0 h0_f1 x_18 h0_f3 h0_0 h0_0k h0_0c) := hD
        refine lv_iconst (v := 1) hx hb dX9_take_28 kc_iconst_1 ?_
        as_aux_lemma =>
        have hK9 := hK.sub (tys' := []) [] rfl
        exact W.zret (v := 1) hx hb hr rfl (fun t ht hW => ⟨⟨1, x_18, rfl, (Or.inr ⟨rfl, g_19, h_12, g_3, (by have := h_13; have := q_20; show h0_f2.toInt + 1 ≤ x_18.toInt; omega), (hR.trans hEX).symm⟩), by rw [ht]; exact hP, va_K.moved hW.alike hK9, hD⟩, hS.F ht⟩) hS.2.2 dX9_take_29
      · replace hEX := hEX.trans (if_neg c_16)
        refine lv_iconst (v := 0) hx hb dX9_take_16 kc_iconst_0 ?_
        have hK9 := hK.sub (tys' := []) [] rfl
        exact W.zret (v := 0) hx hb hr rfl (fun t ht hW => ⟨⟨0, x_5, rfl, (Or.inl ⟨rfl, (RG_w h_11 (by decide +kernel)), (by have := h_13; show h0_f2.toInt + 0 ≤ x_5.toInt; omega), (hR.trans hEX).symm⟩), by rw [ht]; exact hP, va_K.moved hW.alike hK9, hD⟩, hS.F ht⟩) hS.2.2 dX9_take_17
noncomputable def wd_c_X4_readCondition_6 (a0 : Nat) (a1 : Nat) (a2 : Int32) (a3 : Int32) (a4 : Int32) (a5 : Nat) (a6 : ClassId) (a7 : Nat → Int32) (a8 : Nat) (a9 : Nat) (a10 : Int32) (a11 : Nat) (a12 : Nat) (a13 : ClassId) (a14 : Nat → Int32) : va_W := [(a0, .inr (9, [.ref a1, .int a2, .int a3, .int a4])), (a5, .inl (a6, 240, .inl a7)), (a8, .inr (4, [.ref a9, .int a10, .ref a11])), (a12, .inl (a13, 240, .inl a14))]
noncomputable def wf_c_X4_readCondition_6 : List Cond := List.cons (.code yX4_readCondition cX4_readCondition 7 none) (@HAppend.hAppend (List Cond) (List Cond) (List Cond) _ (@HAppend.hAppend (List Cond) (List Cond) (List Cond) _ [.methodLink RX4 72 yX9_isRight, .instanceMethod yX9_isRight, .selects RX9 yX9_isRight yX9_isRight, .initialized RX9, .code yX9_isRight cX9_isRight 1 (some .boolean), .fieldLink RX9 15 "BuoyVote$Tape" "wrong" "I", .methodLink RX4 76 yX4_readUnit, .instanceMethod yX4_readUnit, .selects RX4 yX4_readUnit yX4_readUnit, .initialized RX4, .code yX4_readUnit cX4_readUnit 5 none, .methodLink RX4 41 yX9_peek, .instanceMethod yX9_peek, .selects RX9 yX9_peek yX9_peek, .code yX9_peek cX9_peek 1 (some .int), .fieldLink RX9 22 "BuoyVote$Tape" "at" "I", .fieldLink RX9 19 "BuoyVote$Tape" "length" "I", .fieldLink RX9 11 "BuoyVote$Tape" "bytes" "[I", .methodLink RX4 45 yX4_startsUnit, .static yX4_startsUnit, .code yX4_startsUnit cX4_startsUnit 1 (some .boolean), .methodLink RX4 82 yX9_refuseHere, .instanceMethod yX9_refuseHere, .selects RX9 yX9_refuseHere yX9_refuseHere, .code yX9_refuseHere cX9_refuseHere 1 none, .methodLink RX9 25 yX9_refuse, .instanceMethod yX9_refuse, .selects RX9 yX9_refuse yX9_refuse, .code yX9_refuse cX9_refuse 2 none, .methodLink RX4 49 yX4_readSum, .instanceMethod yX4_readSum, .selects RX4 yX4_readSum yX4_readSum, .code yX4_readSum cX4_readSum 6 none, .methodLink RX4 85 yX4_readAtom, .instanceMethod yX4_readAtom, .selects RX4 yX4_readAtom yX4_readAtom, .code yX4_readAtom cX4_readAtom 6 none, .methodLink RX4 93 yJ0_indexOf_0f7a4, .instanceMethod yJ0_indexOf_0f7a4, .selects RJ0 yJ0_indexOf_0f7a4 yJ0_indexOf_0f7a4, .initialized RJ0, .code yJ0_indexOf_0f7a4 cJ0_indexOf_0f7a4 2 (some .int), .methodLink RJ0 633 yJ0_indexOf_7cf53, .instanceMethod yJ0_indexOf_7cf53, .selects RJ0 yJ0_indexOf_7cf53 yJ0_indexOf_7cf53, .code yJ0_indexOf_7cf53 cJ0_indexOf_7cf53 3 (some .int), .methodLink RJ0 492 yJ0_isLatin1_aae02, .instanceMethod yJ0_isLatin1_aae02, .selects RJ0 yJ0_isLatin1_aae02 yJ0_isLatin1_aae02, .code yJ0_isLatin1_aae02 cJ0_isLatin1_aae02 1 (some .boolean), .fieldLink RJ0 38 "java/lang/String" "COMPACT_STRINGS" "Z", .fieldLink RJ0 15 "java/lang/String" "coder" "B", .fieldLink RJ0 9 "java/lang/String" "value" "[B", .methodLink RJ0 505 yJ0_length_8abf5, .instanceMethod yJ0_length_8abf5, .selects RJ0 yJ0_length_8abf5 yJ0_length_8abf5, .code yJ0_length_8abf5 cJ0_length_8abf5 1 (some .int), .methodLink RJ0 335 yJ0_coder_7d493, .instanceMethod yJ0_coder_7d493, .selects RJ0 yJ0_coder_7d493 yJ0_coder_7d493, .code yJ0_coder_7d493 cJ0_coder_7d493 1 (some .byte), .methodLink RJ0 637 yJ1_indexOf_4cfef, .static yJ1_indexOf_4cfef, .initialized RJ1, .code yJ1_indexOf_4cfef cJ1_indexOf_4cfef 4 (some .int), .methodLink RJ1 88 yJ1_canEncode_9a6ad, .static yJ1_canEncode_9a6ad, .code yJ1_canEncode_9a6ad cJ1_canEncode_9a6ad 1 (some .boolean), .methodLink RJ1 92 Lib.Math.max.name, .static Lib.Math.max.name, .initialized "java/lang/Math", .code Lib.Math.max.name Lib.Math.max.code 2 (some .int), .methodLink RJ1 38 Lib.Math.min.name, .static Lib.Math.min.name, .code Lib.Math.min.name Lib.Math.min.code 2 (some .int), .methodLink RJ1 95 yJ1_indexOfChar_4cfef, .static yJ1_indexOfChar_4cfef, .code yJ1_indexOfChar_4cfef cJ1_indexOfChar_4cfef 6 (some .int), .methodLink RX4 99 yX9_number, .instanceMethod yX9_number, .selects RX9 yX9_number yX9_number, .code yX9_number cX9_number 4 (some .int), .methodLink RX4 79 yX9_skip, .instanceMethod yX9_skip, .selects RX9 yX9_skip yX9_skip, .code yX9_skip cX9_skip 1 none, .methodLink RX4 60 yX4_emit, .instanceMethod yX4_emit, .selects RX4 yX4_emit yX4_emit, .code yX4_emit cX4_emit 2 none, .fieldLink RX4 20 "BuoyVote$Law" "length" "I", .fieldLink RX4 11 "BuoyVote$Law" "code" "[I", .methodLink RX4 88 yX9_takeEither, .instanceMethod yX9_takeEither, .selects RX9 yX9_takeEither yX9_takeEither, .code yX9_takeEither cX9_takeEither 4 (some .int), .methodLink RX9 29 yX9_peek, .methodLink RX4 53 yX4_isComparison, .static yX4_isComparison, .code yX4_isComparison cX4_isComparison 1 (some .boolean), .methodLink RX4 63 yX9_take, .instanceMethod yX9_take, .selects RX9 yX9_take yX9_take, .code yX9_take cX9_take 2 (some .boolean)] wsX90) wsX40)
theorem iw_c_X4_readCondition_6_X9 : ∀ w ∈ wsX90, w ∈ wf_c_X4_readCondition_6 := fun w h => List.mem_cons_of_mem _ (List.mem_append_left _ (List.mem_append_right _ h))
theorem iw_c_X4_readCondition_6_X4 : ∀ w ∈ wsX40, w ∈ wf_c_X4_readCondition_6 := fun w h => List.mem_cons_of_mem _ (List.mem_append_right _ h)
set_option maxRecDepth 20000 in
theorem gf_c_X4_readCondition_6_c_X9_take_1 : GoodIn wf_c_X4_readCondition_6 (wsV RX4 63 RX9 yX9_take wf_c_X9_take_1) := goodIn_app (gi_l [101, 102, 103, 4] rfl rfl) (gi_cons (j := 104) rfl rfl (goodIn_app (gi_l [6, 97, 13, 14, 4, 15, 16, 17, 18] rfl rfl) (goodIn_sub iw_c_X4_readCondition_6_X9 gw_X9)))
set_option maxRecDepth 20000 in
theorem gf_c_X4_readCondition_6_c_X9_take : GoodIn wf_c_X4_readCondition_6 (wsV RX4 63 RX9 yX9_take wf_c_X9_take) := goodIn_app (gi_l [101, 102, 103, 4] rfl rfl) (gi_cons (j := 104) rfl rfl (goodIn_app (gi_l [6, 97, 13, 14, 4, 15, 16, 17, 18] rfl rfl) (goodIn_sub iw_c_X4_readCondition_6_X9 gw_X9)))
set_option maxRecDepth 20000 in
theorem gf_c_X4_readCondition_6_c_X4_emit : GoodIn wf_c_X4_readCondition_6 (wsV RX4 60 RX4 yX4_emit wf_c_X4_emit) := goodIn_app (gi_l [87, 88, 89, 10] rfl rfl) (gi_cons (j := 90) rfl rfl (goodIn_app (gi_l [91, 92] rfl rfl) (goodIn_sub iw_c_X4_readCondition_6_X4 gw_X4)))
set_option maxRecDepth 20000 in
theorem gf_c_X4_readCondition_6_c_X4_readUnit_7 : GoodIn wf_c_X4_readCondition_6 (wsV RX4 76 RX4 yX4_readUnit wf_c_X4_readUnit_7) := goodIn_app (gi_l [7, 8, 9, 10] rfl rfl) (gi_cons (j := 11) rfl rfl (goodIn_app (goodIn_app (gi_l [12, 13, 14, 4, 15, 16, 17, 18, 19, 20, 10, 21, 22, 23, 24, 25, 26, 27, 28, 29, 6, 30, 31, 32, 33, 1, 2, 3, 5, 34, 35, 36, 37, 38, 39, 40, 41, 42, 43, 44, 45, 46, 47, 48, 49, 50, 51, 52, 53, 54, 55, 56, 57, 58, 59, 60, 61, 62, 63, 64, 65, 66, 67, 68, 69, 70, 71, 72, 73, 74, 75, 76, 77, 78, 79, 80, 81, 82, 83, 84, 85, 86, 87, 88, 89, 90, 91, 92, 93, 94, 95, 96, 97, 98, 99, 100] rfl rfl) (goodIn_sub iw_c_X4_readCondition_6_X9 gw_X9)) (goodIn_sub iw_c_X4_readCondition_6_X4 gw_X4)))
set_option maxRecDepth 20000 in
theorem gf_c_X4_readCondition_6_c_X9_isRight : GoodIn wf_c_X4_readCondition_6 (wsV RX4 72 RX9 yX9_isRight wf_c_X9_isRight) := goodIn_app (gi_l [1, 2, 3, 4] rfl rfl) (gi_cons (j := 5) rfl rfl (goodIn_app (gi_l [6] rfl rfl) (goodIn_sub iw_c_X4_readCondition_6_X9 gw_X9)))
set_option maxHeartbeats 4000000 in
set_option maxRecDepth 100000 in
theorem c_X4_readCondition_6 (l : Launch) (dC : Nat → ClassId) (dI : Nat → Nat → Nat) (sz : Nat) (h0 : Nat) (h1 : Nat) (h1_0 : Nat) (h1_f1 : Int32) (h1_f2 : Int32) (h1_f3 : Int32) (h1_0k : ClassId) (h1_0c : Nat → Int32) (h0_0 : Nat) (h0_f1 : Int32) (h0_2 : Nat) (h0_0k : ClassId) (h0_0c : Nat → Int32) (ts4 : Nat) (tv4 : Nat) (g_h1_f1 : RG h1_f1 0 240) (g_h1_f2 : RG h1_f2 0 240) (g_h1_f3 : RG h1_f3 (-1) 240) (a_h1_0c : AI h1_0c 0 255) (g_h0_f1 : RG h0_f1 0 240) : Met l yX4_readCondition wf_c_X4_readCondition_6 ({ frames := 7, cells := 0, slots := 0, locals := 165 }) (va_Pc [.ref h0, .ref h1, .int 6, .int 0] (fun U => U.heap.size = sz ∧ va_P (dC, dI) vwCl (wd_c_X4_readCondition_6 h1 h1_0 h1_f1 h1_f2 h1_f3 h1_0 h1_0k h1_0c h0 h0_0 h0_f1 h0_2 h0_0 h0_0k h0_0c) U.heap ∧ va_K (dC, dI) vwCl [(h1_0k, .int), (h0_0k, .int)] U ∧ va_D (fun _ => True) (wd_c_X4_readCondition_6 h1 h1_0 h1_f1 h1_f2 h1_f3 h1_0 h1_0k h1_0c h0 h0_0 h0_f1 h0_2 h0_0 h0_0k h0_0c) ∧ vk_R RX4 91 "vlrdph" ts4 U ∧ va_Z "java/lang/String" "COMPACT_STRINGS" "Z" (.int 1) (va_A (wd_c_X4_readCondition_6 h1 h1_0 h1_f1 h1_f2 h1_f3 h1_0 h1_0k h1_0c h0 h0_0 h0_f1 h0_2 h0_0 h0_0k h0_0c) sz) U U.heap ∧ va_OF "java/lang/String" "coder" "B" (.int 0) ts4 (va_A (wd_c_X4_readCondition_6 h1 h1_0 h1_f1 h1_f2 h1_f3 h1_0 h1_0k h1_0c h0 h0_0 h0_f1 h0_2 h0_0 h0_0k h0_0c) sz) U U.heap ∧ va_O "java/lang/String" ts4 (va_A (wd_c_X4_readCondition_6 h1 h1_0 h1_f1 h1_f2 h1_f3 h1_0 h1_0k h1_0c h0 h0_0 h0_f1 h0_2 h0_0 h0_0k h0_0c) sz) U U.heap ∧ va_OF "java/lang/String" "value" "[B" (.ref tv4) ts4 (va_A (wd_c_X4_readCondition_6 h1 h1_0 h1_f1 h1_f2 h1_f3 h1_0 h1_0k h1_0c h0 h0_0 h0_f1 h0_2 h0_0 h0_0k h0_0c) sz) U U.heap ∧ va_T .byte tv4 6 (fun j => .int ([118, 108, 114, 100, 112, 104].getD j 0)) (va_A (wd_c_X4_readCondition_6 h1 h1_0 h1_f1 h1_f2 h1_f3 h1_0 h1_0k h1_0c h0 h0_0 h0_f1 h0_2 h0_0 h0_0k h0_0c) sz) U U.heap)) (va_Qv (fun (u : (Int32) × (Int32) × (Int32) × (Nat → Int32)) => (RG u.1 0 240 ∧ RG u.2.1 (-1) 240 ∧ RG u.2.2.1 0 240 ∧ (u.1, u.2.1, u.2.2.1, u.2.2.2) = fx_c_X4_readCondition_6 h1_f1 h1_f2 h1_f3 h1_0c h0_f1 h0_0c)) (fun (u : (Int32) × (Int32) × (Int32) × (Nat → Int32)) t => va_P (dC, dI) vwCl (wd_c_X4_readCondition_6 h1 h1_0 h1_f1 (u.1) (u.2.1) h1_0 h1_0k h1_0c h0 h0_0 (u.2.2.1) h0_2 h0_0 h0_0k (u.2.2.2)) t.heap ∧ va_K (dC, dI) vwCl [] t ∧ va_D (va_A (wd_c_X4_readCondition_6 h1 h1_0 h1_f1 h1_f2 h1_f3 h1_0 h1_0k h1_0c h0 h0_0 h0_f1 h0_2 h0_0 h0_0k h0_0c) sz) (wd_c_X4_readCondition_6 h1 h1_0 h1_f1 (u.1) (u.2.1) h1_0 h1_0k h1_0c h0 h0_0 (u.2.2.1) h0_2 h0_0 h0_0k (u.2.2.2))) (va_A (wd_c_X4_readCondition_6 h1 h1_0 h1_f1 h1_f2 h1_f3 h1_0 h1_0k h1_0c h0 h0_0 h0_f1 h0_2 h0_0 h0_0k h0_0c) sz)) 0 0 (va_A (wd_c_X4_readCondition_6 h1 h1_0 h1_f1 h1_f2 h1_f3 h1_0 h1_0k h1_0c h0 h0_0 h0_f1 h0_2 h0_0 h0_0k h0_0c) sz) := by
  refine Met.ofW (cc := cX4_readCondition) (maxL := 7) (ret := none) (by decide +kernel) rfl ?_
  intro p e s m args below meth c s₁ B hml hv
  obtain ⟨rfl, hsz, hP, hK, hD0, hE_32, hE_10, hE_34, hE_33, hE_35, hE_36⟩ := hv
  have hx := B.exec
  have hb := B.bytes
  have hr := B.returns
  have hts := atoms_spec (ws := wf_c_X4_readCondition_6) B.pre
  have hown : s.vm.findClass RX4 = some m.cls := findClass_of_methodNamed B.named
  have hlocks := B.notSynchronized
  subst hsz
  have hD := hD0.self (sz := s.heap.size)
  generalize hAe : va_A (wd_c_X4_readCondition_6 h1 h1_0 h1_f1 h1_f2 h1_f3 h1_0 h1_0k h1_0c h0 h0_0 h0_f1 h0_2 h0_0 h0_0k h0_0c) s.heap.size = A at hD hE_10 hE_34 hE_33 hE_35 hE_36 ⊢
  have hA : ∀ q : Nat, s.heap.size ≤ q → A q := fun q h => by rw [← hAe]; exact Or.inr h
  have hP : va_P (dC, dI) vwCl (wd_c_X4_readCondition_6 h1 h1_0 h1_f1 h1_f2 h1_f3 h1_0 h1_0k h1_0c h0 h0_0 h0_f1 h0_2 h0_0 h0_0k h0_0c) s.heap := hP
  have hl := lv_entry ([.ref h0, .ref h1, .int 6, .int 0]) (n := 7) (Nat.le_of_ble_eq_true rfl)
  rw [lg_entry_eq]
  generalize (lg_sl ([.ref h0, .ref h1, .int 6, .int 0]) ++ List.replicate (7 - (lg_sl ([.ref h0, .ref h1, .int 6, .int 0])).length) Slot.unset).toArray = ls at hl ⊢
  have hl : lv_has ls 7 [(0, .ref h0), (1, .ref h1), (2, .int 6), (3, .int 0)] := hl
  obtain ⟨H, hHe⟩ : ∃ H : Heap, s.heap = H := ⟨_, rfl⟩
  have hS : va_S A s.heap H [] := by rw [hHe]; exact va_S.rf
  have hP : va_P (dC, dI) vwCl (wd_c_X4_readCondition_6 h1 h1_0 h1_f1 h1_f2 h1_f3 h1_0 h1_0k h1_0c h0 h0_0 h0_f1 h0_2 h0_0 h0_0k h0_0c) H := by rw [← hHe]; exact hP
  rw [hHe]
  obtain ⟨RES, hR⟩ : ∃ z, fx_c_X4_readCondition_6 h1_f1 h1_f2 h1_f3 h1_0c h0_f1 h0_0c = z := ⟨_, rfl⟩
  have hEX : RES = fx_c_X4_readCondition_6 h1_f1 h1_f2 h1_f3 h1_0c h0_f1 h0_0c := hR.symm
  refine wj (fun G hG hU => ?_)
  as_aux_lemma =>
  have J9 : ∀ (n9 : Nat) (j9_l6 : Int32) (j9_l5 : Int32) (j9_l4 : Int32) (j9_h1_f2 : Int32) (j9_h1_f3 : Int32) (j9_h0_f1 : Int32) (j9_h0_0c : Nat → Int32) (hM9 : MU j9_l6 < n9) (g_h0_f1 : RG h0_f1 0 240) (g_h1_f1 : RG h1_f1 0 240) (g_h1_f2 : RG h1_f2 0 240) (g_h1_f3 : RG h1_f3 (-1) 240) (g_j9_h0_f1 : RG j9_h0_f1 0 240) (g_j9_h1_f2 : RG j9_h1_f2 0 240) (g_j9_h1_f3 : RG j9_h1_f3 (-1) 240) (g_j9_l4 : RG j9_l4 0 1) (g_j9_l5 : RG j9_l5 0 1) (g_j9_l6 : RG j9_l6 0 240) (hEX : RES = fx_c_X4_readCondition_6_p9 h1_f1 h1_0c n9 j9_l6 j9_l5 j9_l4 j9_h1_f2 j9_h1_f3 j9_h0_f1 j9_h0_0c) (H : Heap) (locs : List Loc) (ls : Array Slot) (hP : va_P (dC, dI) vwCl (wd_c_X4_readCondition_6 h1 h1_0 h1_f1 j9_h1_f2 j9_h1_f3 h1_0 h1_0k h1_0c h0 h0_0 j9_h0_f1 h0_2 h0_0 h0_0k j9_h0_0c) H) (hD : va_D A (wd_c_X4_readCondition_6 h1 h1_0 h1_f1 j9_h1_f2 j9_h1_f3 h1_0 h1_0k h1_0c h0 h0_0 j9_h0_f1 h0_2 h0_0 h0_0k j9_h0_0c)) (hS : va_S A s.heap H locs) (hl : lv_has ls 7 [(6, .int j9_l6), (5, .int j9_l5), (4, .int j9_l4), (0, .ref h0), (1, .ref h1), (2, .int 6), (3, .int 0)]), G H locs (F0 m 9 ls []) := by
    as_aux_lemma =>
    intro n9
    induction n9 with
    | zero => intros; exact absurd (by assumption) (Nat.not_lt_zero _)
    | succ n9 ih9 =>
      intro j9_l6 j9_l5 j9_l4 j9_h1_f2 j9_h1_f3 j9_h0_f1 j9_h0_0c hM9 g_h0_f1 g_h1_f1 g_h1_f2 g_h1_f3 g_j9_h0_f1 g_j9_h1_f2 g_j9_h1_f3 g_j9_l4 g_j9_l5 g_j9_l6 hEX H locs ls hP hD hS hl
      have J93 : ∀ (j93_l4 : Int32) (j93_l5 : Int32) (j93_h1_f2 : Int32) (j93_h1_f3 : Int32) (j93_h0_f1 : Int32) (j93_h0_0c : Nat → Int32) (g_h0_f1 : RG h0_f1 0 240) (g_h1_f1 : RG h1_f1 1 240) (g_h1_f2 : RG h1_f2 0 240) (g_h1_f3 : RG h1_f3 (-1) 240) (g_j93_h0_f1 : RG j93_h0_f1 0 240) (g_j93_h1_f2 : RG j93_h1_f2 1 240) (g_j93_h1_f3 : RG j93_h1_f3 (-1) (-1)) (g_j93_l4 : RG j93_l4 0 1) (g_j93_l5 : RG j93_l5 0 1) (g_j9_h0_f1 : RG j9_h0_f1 0 240) (g_j9_h1_f2 : RG j9_h1_f2 0 240) (g_j9_h1_f3 : RG j9_h1_f3 (-1) (-1)) (g_j9_l4 : RG j9_l4 0 1) (g_j9_l5 : RG j9_l5 0 1) (g_j9_l6 : RG j9_l6 0 239) (hEX : RES = fx_c_X4_readCondition_6_p93 j9_l6 (fx_c_X4_readCondition_6_p9 h1_f1 h1_0c n9) j93_l4 j93_l5 j93_h1_f2 j93_h1_f3 j93_h0_f1 j93_h0_0c) (H : Heap) (locs : List Loc) (ls : Array Slot) (hP : va_P (dC, dI) vwCl (wd_c_X4_readCondition_6 h1 h1_0 h1_f1 j93_h1_f2 j93_h1_f3 h1_0 h1_0k h1_0c h0 h0_0 j93_h0_f1 h0_2 h0_0 h0_0k j93_h0_0c) H) (hD : va_D A (wd_c_X4_readCondition_6 h1 h1_0 h1_f1 j93_h1_f2 j93_h1_f3 h1_0 h1_0k h1_0c h0 h0_0 j93_h0_f1 h0_2 h0_0 h0_0k j93_h0_0c)) (hS : va_S A s.heap H locs) (hl : lv_has ls 7 [(4, .int j93_l4), (6, .int j9_l6), (5, .int j93_l5), (0, .ref h0), (1, .ref h1), (2, .int 6), (3, .int 0)]), G H locs (F0 m 93 ls []) := by
        as_aux_lemma =>
        intro j93_l4 j93_l5 j93_h1_f2 j93_h1_f3 j93_h0_f1 j93_h0_0c g_h0_f1 g_h1_f1 g_h1_f2 g_h1_f3 g_j93_h0_f1 g_j93_h1_f2 g_j93_h1_f3 g_j93_l4 g_j93_l5 g_j9_h0_f1 g_j9_h1_f2 g_j9_h1_f3 g_j9_l4 g_j9_l5 g_j9_l6 hEX H locs ls hP hD hS hl
        refine hG _ _ _ ?_
        obtain ⟨x_1, ex_1⟩ : ∃ y : Int32, y = j9_l6 + 1 := ⟨_, rfl⟩
        have g_2 : RG x_1 1 240 := RG_add ex_1 g_j9_l6 (RG_k 1 1 rfl) (by decide +kernel)
        replace hEX := hEX.trans (exl_eq ex_1)
        refine lv_iinc (v := x_1) (lv' := [(6, .int x_1), (4, .int j93_l4), (5, .int j93_l5), (0, .ref h0), (1, .ref h1), (2, .int 6), (3, .int 0)]) hx hb dX4_readCondition_93 hl (k := 1) rfl (by rw [ex_1]; rfl) (Nat.le_of_ble_eq_true rfl) rfl (fun ls hl => ?_)
        refine lv_goto (tgt := 9) hx hb dX4_readCondition_96 rfl ?_
        exact hU _ _ _ (ih9 x_1 j93_l5 j93_l4 j93_h1_f2 j93_h1_f3 j93_h0_f1 j93_h0_0c (mu_s (MU_add ex_1 g_j9_l6 (q := 1) rfl (by decide +kernel)) hM9) g_h0_f1 (RG_w g_h1_f1 (by decide +kernel)) g_h1_f2 g_h1_f3 g_j93_h0_f1 (RG_w g_j93_h1_f2 (by decide +kernel)) (RG_w g_j93_h1_f3 (by decide +kernel)) g_j93_l4 g_j93_l5 (RG_w g_2 (by decide +kernel)) hEX _ _ _ hP hD hS (lv_sub hl [0, 2, 1, 3, 4, 5, 6] rfl))
      have J79 : ∀ (j79_h1_f2 : Int32) (j79_h1_f3 : Int32) (j79_h0_f1 : Int32) (j79_h0_0c : Nat → Int32) (g_h0_f1 : RG h0_f1 0 240) (g_h1_f1 : RG h1_f1 0 240) (g_h1_f2 : RG h1_f2 0 240) (g_h1_f3 : RG h1_f3 (-1) 240) (g_j79_h0_f1 : RG j79_h0_f1 0 240) (g_j79_h1_f2 : RG j79_h1_f2 0 240) (g_j79_h1_f3 : RG j79_h1_f3 (-1) 240) (g_j9_h0_f1 : RG j9_h0_f1 0 240) (g_j9_h1_f2 : RG j9_h1_f2 0 240) (g_j9_h1_f3 : RG j9_h1_f3 (-1) (-1)) (g_j9_l4 : RG j9_l4 0 1) (g_j9_l5 : RG j9_l5 0 1) (g_j9_l6 : RG j9_l6 0 239) (hEX : RES = fx_c_X4_readCondition_6_p79 h1_f1 h1_0c j9_l6 (fx_c_X4_readCondition_6_p9 h1_f1 h1_0c n9) j79_h1_f2 j79_h1_f3 j79_h0_f1 j79_h0_0c) (H : Heap) (locs : List Loc) (ls : Array Slot) (hP : va_P (dC, dI) vwCl (wd_c_X4_readCondition_6 h1 h1_0 h1_f1 j79_h1_f2 j79_h1_f3 h1_0 h1_0k h1_0c h0 h0_0 j79_h0_f1 h0_2 h0_0 h0_0k j79_h0_0c) H) (hD : va_D A (wd_c_X4_readCondition_6 h1 h1_0 h1_f1 j79_h1_f2 j79_h1_f3 h1_0 h1_0k h1_0c h0 h0_0 j79_h0_f1 h0_2 h0_0 h0_0k j79_h0_0c)) (hS : va_S A s.heap H locs) (hl : lv_has ls 7 [(4, .int 0), (6, .int j9_l6), (0, .ref h0), (1, .ref h1), (2, .int 6), (3, .int 0)]), G H locs (F0 m 79 ls []) := by
        as_aux_lemma =>
        intro j79_h1_f2 j79_h1_f3 j79_h0_f1 j79_h0_0c g_h0_f1 g_h1_f1 g_h1_f2 g_h1_f3 g_j79_h0_f1 g_j79_h1_f2 g_j79_h1_f3 g_j9_h0_f1 g_j9_h1_f2 g_j9_h1_f3 g_j9_l4 g_j9_l5 g_j9_l6 hEX H locs ls hP hD hS hl
        refine hG _ _ _ ?_
        refine lv_aload_n hx hb dX4_readCondition_79 rfl (lv_at hl 3 rfl) ?_
        refine lv_bipush (v := 124) hx hb dX4_readCondition_80 kc_bipush_124 ?_
        obtain ⟨hPc, hDc, hFc, hqc⟩ := cl_cut (wc := (wd_c_X9_take_1 h1 h1_0 h1_f1 j79_h1_f2 j79_h1_f3 h1_0 h1_0k h1_0c)) hP hD hS hA [0, 1] (by decide +kernel) rfl
        have hKc := hK.sub (tys' := [(h1_0k, .int)]) [0] rfl
        have hrv := va_recv hKc hPc (ci := 9) (q0 := 0) rfl rfl
        refine va_calli (va_runV (As := [.int 124]) (rest := []) ⟨hx, hb, hml, hown, hts⟩ (c_X9_take_1 l dC dI H.size h1 124 h1_0 h1_f1 j79_h1_f2 j79_h1_f3 h1_0k h1_0c (RG_w (RG_k 124 124 rfl) (by decide +kernel)) g_h1_f1 g_j79_h1_f2 g_j79_h1_f3 a_h1_0c) (cwV 1 hts gf_c_X4_readCondition_6_c_X9_take_1 rfl rfl rfl mdV_X9_take ⟨Nat.le_of_ble_eq_true rfl, Nat.le_of_ble_eq_true rfl⟩) ⟨fun a U g mk q => by obtain ⟨q0, q1, qP, qK, qD⟩ := q; exact ⟨q0, q1, qP, va_K.moved (u := U) (U := U.calling g mk a) (Vm.Alike.refl U.vm) qK, qD⟩, hrv, fun U hU hW => ⟨rfl, by rw [hU], by rw [hU]; exact hPc, va_K.moved hW.alike hKc, hDc.weaken (fun _ _ _ _ => trivial)⟩⟩ rfl rfl hl.1 rfl (lv_room (Nat.le_of_ble_eq_true rfl)) dX4_readCondition_82 ⟨Nat.le_of_ble_eq_true rfl, Nat.le_of_ble_eq_true rfl⟩) hS (fun q _ h => hFc q h) hFc (fun r_3 x_4 t H1 locs ht hvm hw hB hz1 hk1 hS => ?_)
        obtain ⟨hP1, hK1, hD1⟩ := hB
        rw [ht] at hP1
        obtain ⟨hP, hD⟩ := cl_put (w1 := (wd_c_X9_take_1 h1 h1_0 h1_f1 x_4 j79_h1_f3 h1_0 h1_0k h1_0c)) (nw := (wd_c_X4_readCondition_6 h1 h1_0 h1_f1 x_4 j79_h1_f3 h1_0 h1_0k h1_0c h0 h0_0 j79_h0_f1 h0_2 h0_0 h0_0k j79_h0_0c)) hP hD [0, 1] [4, 5, 2, 3] 4 rfl hqc (by decide +kernel) rfl hk1 hFc hP1 hD1
        generalize H1 = H at hP hS ⊢
        as_aux_lemma =>
        rcases hw with ⟨h_5, h_6, h_7, h_8⟩ | ⟨h_9, h_10, h_11, h_12, h_13, h_14⟩
        · have h_8 : (r_3, x_4) = _ := h_8
          replace hEX := hEX.trans (exc2_eq h_8)
          replace hEX := hEX.trans (if_pos (show r_3 = 0 from h_5))
          rw [h_5]
          refine lv_istore (lv' := [(5, .int 0), (4, .int 0), (6, .int j9_l6), (0, .ref h0), (1, .ref h1), (2, .int 6), (3, .int 0)]) hx hb dX4_readCondition_85 hl (Nat.le_of_ble_eq_true rfl) rfl (fun ls hl => ?_)
          refine lv_iload hx hb dX4_readCondition_87 (lv_at hl 0 rfl) ?_
          refine lv_if_ne (tgt := 93) hx hb dX4_readCondition_89 rfl (fun c_15 => absurd c_15 (by decide +kernel)) (fun c_15 => ?_)
          have hK9 := hK.sub (tys' := []) [] rfl
          exact W.vret hx hb hr (fun t ht hW => ⟨⟨(x_4, j79_h1_f3, j79_h0_f1, j79_h0_0c), rfl, ⟨h_6, g_j79_h1_f3, g_j79_h0_f1, (hR.trans hEX).symm⟩, by rw [ht]; exact hP, va_K.moved hW.alike hK9, hD⟩, hS.F ht⟩) hS.2.2 dX4_readCondition_92
        · have h_14 : (r_3, x_4) = _ := h_14
          replace hEX := hEX.trans (exc2_eq h_14)
          replace hEX := hEX.trans (if_neg (fun q9 : r_3 = 0 => absurd ((show r_3 = 1 from h_9).symm.trans q9) (by decide +kernel)))
          rw [h_9]
          refine lv_istore (lv' := [(5, .int 1), (4, .int 0), (6, .int j9_l6), (0, .ref h0), (1, .ref h1), (2, .int 6), (3, .int 0)]) hx hb dX4_readCondition_85 hl (Nat.le_of_ble_eq_true rfl) rfl (fun ls hl => ?_)
          as_aux_lemma =>
          refine lv_iload hx hb dX4_readCondition_87 (lv_at hl 0 rfl) ?_
          refine lv_if_ne (tgt := 93) hx hb dX4_readCondition_89 rfl (fun c_16 => ?_) (fun c_16 => absurd c_16 (by decide +kernel))
          exact hU _ _ _ (J93 0 1 x_4 j79_h1_f3 j79_h0_f1 j79_h0_0c g_h0_f1 h_11 g_h1_f2 g_h1_f3 g_j79_h0_f1 h_10 h_12 (RG_w (RG_k 0 0 rfl) (by decide +kernel)) (RG_w (RG_k 1 1 rfl) (by decide +kernel)) g_j9_h0_f1 g_j9_h1_f2 g_j9_h1_f3 g_j9_l4 g_j9_l5 g_j9_l6 hEX _ _ _ hP hD hS (lv_sub hl [1, 2, 0, 3, 4, 5, 6] rfl))
      have J55 : ∀ (j55_h1_f2 : Int32) (j55_h1_f3 : Int32) (j55_h0_f1 : Int32) (j55_h0_0c : Nat → Int32) (g_h0_f1 : RG h0_f1 0 240) (g_h1_f1 : RG h1_f1 0 240) (g_h1_f2 : RG h1_f2 0 240) (g_h1_f3 : RG h1_f3 (-1) 240) (g_j55_h0_f1 : RG j55_h0_f1 0 240) (g_j55_h1_f2 : RG j55_h1_f2 0 240) (g_j55_h1_f3 : RG j55_h1_f3 (-1) 240) (g_j9_h0_f1 : RG j9_h0_f1 0 240) (g_j9_h1_f2 : RG j9_h1_f2 0 240) (g_j9_h1_f3 : RG j9_h1_f3 (-1) (-1)) (g_j9_l4 : RG j9_l4 0 1) (g_j9_l5 : RG j9_l5 0 1) (g_j9_l6 : RG j9_l6 0 239) (hEX : RES = fx_c_X4_readCondition_6_p55 h1_f1 h1_0c j9_l6 j9_l5 (fx_c_X4_readCondition_6_p9 h1_f1 h1_0c n9) j55_h1_f2 j55_h1_f3 j55_h0_f1 j55_h0_0c) (H : Heap) (locs : List Loc) (ls : Array Slot) (hP : va_P (dC, dI) vwCl (wd_c_X4_readCondition_6 h1 h1_0 h1_f1 j55_h1_f2 j55_h1_f3 h1_0 h1_0k h1_0c h0 h0_0 j55_h0_f1 h0_2 h0_0 h0_0k j55_h0_0c) H) (hD : va_D A (wd_c_X4_readCondition_6 h1 h1_0 h1_f1 j55_h1_f2 j55_h1_f3 h1_0 h1_0k h1_0c h0 h0_0 j55_h0_f1 h0_2 h0_0 h0_0k j55_h0_0c)) (hS : va_S A s.heap H locs) (hl : lv_has ls 7 [(6, .int j9_l6), (5, .int j9_l5), (0, .ref h0), (1, .ref h1), (2, .int 6), (3, .int 0)]), G H locs (F0 m 55 ls []) := by
        as_aux_lemma =>
        intro j55_h1_f2 j55_h1_f3 j55_h0_f1 j55_h0_0c g_h0_f1 g_h1_f1 g_h1_f2 g_h1_f3 g_j55_h0_f1 g_j55_h1_f2 g_j55_h1_f3 g_j9_h0_f1 g_j9_h1_f2 g_j9_h1_f3 g_j9_l4 g_j9_l5 g_j9_l6 hEX H locs ls hP hD hS hl
        refine hG _ _ _ ?_
        refine lv_aload_n hx hb dX4_readCondition_55 rfl (lv_at hl 3 rfl) ?_
        refine lv_bipush (v := 38) hx hb dX4_readCondition_56 kc_bipush_38 ?_
        obtain ⟨hPc, hDc, hFc, hqc⟩ := cl_cut (wc := (wd_c_X9_take h1 h1_0 h1_f1 j55_h1_f2 j55_h1_f3 h1_0 h1_0k h1_0c)) hP hD hS hA [0, 1] (by decide +kernel) rfl
        have hKc := hK.sub (tys' := [(h1_0k, .int)]) [0] rfl
        have hrv := va_recv hKc hPc (ci := 9) (q0 := 0) rfl rfl
        refine va_calli (va_runV (As := [.int 38]) (rest := []) ⟨hx, hb, hml, hown, hts⟩ (c_X9_take l dC dI H.size h1 38 h1_0 h1_f1 j55_h1_f2 j55_h1_f3 h1_0k h1_0c (RG_w (RG_k 38 38 rfl) (by decide +kernel)) g_h1_f1 g_j55_h1_f2 g_j55_h1_f3 a_h1_0c) (cwV 1 hts gf_c_X4_readCondition_6_c_X9_take rfl rfl rfl mdV_X9_take ⟨Nat.le_of_ble_eq_true rfl, Nat.le_of_ble_eq_true rfl⟩) ⟨fun a U g mk q => by obtain ⟨q0, q1, qP, qK, qD⟩ := q; exact ⟨q0, q1, qP, va_K.moved (u := U) (U := U.calling g mk a) (Vm.Alike.refl U.vm) qK, qD⟩, hrv, fun U hU hW => ⟨rfl, by rw [hU], by rw [hU]; exact hPc, va_K.moved hW.alike hKc, hDc.weaken (fun _ _ _ _ => trivial)⟩⟩ rfl rfl hl.1 rfl (lv_room (Nat.le_of_ble_eq_true rfl)) dX4_readCondition_58 ⟨Nat.le_of_ble_eq_true rfl, Nat.le_of_ble_eq_true rfl⟩) hS (fun q _ h => hFc q h) hFc (fun r_17 x_18 t H1 locs ht hvm hw hB hz1 hk1 hS => ?_)
        obtain ⟨hP1, hK1, hD1⟩ := hB
        rw [ht] at hP1
        obtain ⟨hP, hD⟩ := cl_put (w1 := (wd_c_X9_take h1 h1_0 h1_f1 x_18 j55_h1_f3 h1_0 h1_0k h1_0c)) (nw := (wd_c_X4_readCondition_6 h1 h1_0 h1_f1 x_18 j55_h1_f3 h1_0 h1_0k h1_0c h0 h0_0 j55_h0_f1 h0_2 h0_0 h0_0k j55_h0_0c)) hP hD [0, 1] [4, 5, 2, 3] 4 rfl hqc (by decide +kernel) rfl hk1 hFc hP1 hD1
        generalize H1 = H at hP hS ⊢
        as_aux_lemma =>
        rcases hw with ⟨h_19, h_20, h_21, h_22⟩ | ⟨h_23, h_24, h_25, h_26, h_27, h_28⟩
        · have h_22 : (r_17, x_18) = _ := h_22
          replace hEX := hEX.trans (exc2_eq h_22)
          replace hEX := hEX.trans (if_pos (show r_17 = 0 from h_19))
          rw [h_19]
          refine lv_istore (lv' := [(4, .int 0), (6, .int j9_l6), (5, .int j9_l5), (0, .ref h0), (1, .ref h1), (2, .int 6), (3, .int 0)]) hx hb dX4_readCondition_61 hl (Nat.le_of_ble_eq_true rfl) rfl (fun ls hl => ?_)
          refine lv_iload hx hb dX4_readCondition_63 (lv_at hl 0 rfl) ?_
          refine lv_if_ne (tgt := 93) hx hb dX4_readCondition_65 rfl (fun c_29 => absurd c_29 (by decide +kernel)) (fun c_29 => ?_)
          refine lv_iload hx hb dX4_readCondition_68 (lv_at hl 2 rfl) ?_
          refine lv_if_eq (tgt := 79) hx hb dX4_readCondition_70 rfl (fun c_30 => ?_) (fun c_30 => ?_)
          · replace hEX := hEX.trans (if_pos c_30)
            have g_31 : RG j9_l5 0 0 := RG_eq1 g_j9_l5 (RG_k 0 0 rfl) c_30 (by decide +kernel)
            exact hU _ _ _ (J79 x_18 j55_h1_f3 j55_h0_f1 j55_h0_0c g_h0_f1 g_h1_f1 g_h1_f2 g_h1_f3 g_j55_h0_f1 h_20 g_j55_h1_f3 g_j9_h0_f1 g_j9_h1_f2 g_j9_h1_f3 g_j9_l4 (RG_w g_31 (by decide +kernel)) g_j9_l6 hEX _ _ _ hP hD hS (lv_sub hl [0, 1, 3, 4, 5, 6] rfl))
          · replace hEX := hEX.trans (if_neg c_30)
            have g_32 : RG j9_l5 1 1 := RG_ne1 g_j9_l5 (q := 0) rfl c_30 (by decide +kernel)
            refine lv_aload_n hx hb dX4_readCondition_73 rfl (lv_at hl 3 rfl) ?_
            as_aux_lemma =>
            refine lv_bipush (v := (-124)) hx hb dX4_readCondition_74 kc_bipush_m124 ?_
            obtain ⟨hPc, hDc, hFc, hqc⟩ := cl_cut (wc := (wd_c_X4_emit h0 h0_0 j55_h0_f1 h0_2 h0_0 h0_0k j55_h0_0c)) hP hD hS hA [2, 3] (by decide +kernel) rfl
            have hKc := hK.sub (tys' := [(h0_0k, .int)]) [1] rfl
            have hrv := va_recv hKc hPc (ci := 4) (q0 := 0) rfl rfl
            refine va_callv (va_runV (As := [.int (-124)]) (rest := []) ⟨hx, hb, hml, hown, hts⟩ (c_X4_emit l dC dI H.size h0 (-124) h0_0 j55_h0_f1 h0_2 h0_0k j55_h0_0c g_j55_h0_f1) (cwV 1 hts gf_c_X4_readCondition_6_c_X4_emit rfl rfl rfl mdV_X4_emit ⟨Nat.le_of_ble_eq_true rfl, Nat.le_of_ble_eq_true rfl⟩) ⟨fun a U g mk q => by obtain ⟨q0, q1, qP, qK, qD⟩ := q; exact ⟨q0, q1, qP, va_K.moved (u := U) (U := U.calling g mk a) (Vm.Alike.refl U.vm) qK, qD⟩, hrv, fun U hU hW => ⟨rfl, by rw [hU], by rw [hU]; exact hPc, va_K.moved hW.alike hKc, hDc.weaken (fun _ _ _ _ => trivial)⟩⟩ rfl rfl hl.1 rfl (lv_room (Nat.le_of_ble_eq_true rfl)) dX4_readCondition_76 ⟨Nat.le_of_ble_eq_true rfl, Nat.le_of_ble_eq_true rfl⟩) hS (fun q _ h => hFc q h) hFc (fun u t H1 locs ht hvm hw hB hz1 hk1 hS => ?_)
            obtain ⟨x_34, w_35⟩ := u
            obtain ⟨hP1, hK1, hD1⟩ := hB
            rw [ht] at hP1
            obtain ⟨hP, hD⟩ := cl_put (w1 := (wd_c_X4_emit h0 h0_0 x_34 h0_2 h0_0 h0_0k w_35)) (nw := (wd_c_X4_readCondition_6 h1 h1_0 h1_f1 x_18 j55_h1_f3 h1_0 h1_0k h1_0c h0 h0_0 x_34 h0_2 h0_0 h0_0k w_35)) hP hD [2, 3] [0, 1, 4, 5] 4 rfl hqc (by decide +kernel) rfl hk1 hFc hP1 hD1
            generalize H1 = H at hP hS ⊢
            as_aux_lemma =>
            rcases hw with ⟨h_36, h_37⟩
            have h_37 : (x_34, w_35) = _ := h_37
            replace hEX := hEX.trans (exc2_eq h_37)
            exact hU _ _ _ (J79 x_18 j55_h1_f3 x_34 w_35 g_h0_f1 g_h1_f1 g_h1_f2 g_h1_f3 (RG_w h_36 (by decide +kernel)) h_20 g_j55_h1_f3 g_j9_h0_f1 g_j9_h1_f2 g_j9_h1_f3 g_j9_l4 (RG_w g_32 (by decide +kernel)) g_j9_l6 hEX _ _ _ hP hD hS (lv_sub hl [0, 1, 3, 4, 5, 6] rfl))
        · have h_28 : (r_17, x_18) = _ := h_28
          replace hEX := hEX.trans (exc2_eq h_28)
          replace hEX := hEX.trans (if_neg (fun q9 : r_17 = 0 => absurd ((show r_17 = 1 from h_23).symm.trans q9) (by decide +kernel)))
          rw [h_23]
          refine lv_istore (lv' := [(4, .int 1), (6, .int j9_l6), (5, .int j9_l5), (0, .ref h0), (1, .ref h1), (2, .int 6), (3, .int 0)]) hx hb dX4_readCondition_61 hl (Nat.le_of_ble_eq_true rfl) rfl (fun ls hl => ?_)
          refine lv_iload hx hb dX4_readCondition_63 (lv_at hl 0 rfl) ?_
          refine lv_if_ne (tgt := 93) hx hb dX4_readCondition_65 rfl (fun c_38 => ?_) (fun c_38 => absurd c_38 (by decide +kernel))
          exact hU _ _ _ (J93 1 j9_l5 x_18 j55_h1_f3 j55_h0_f1 j55_h0_0c g_h0_f1 h_25 g_h1_f2 g_h1_f3 g_j55_h0_f1 h_24 h_26 (RG_w (RG_k 1 1 rfl) (by decide +kernel)) g_j9_l5 g_j9_h0_f1 g_j9_h1_f2 g_j9_h1_f3 g_j9_l4 g_j9_l5 g_j9_l6 hEX _ _ _ hP hD hS (lv_sub hl [0, 1, 2, 3, 4, 5, 6] rfl))
      have J41 : ∀ (g_h0_f1 : RG h0_f1 0 240) (g_h1_f1 : RG h1_f1 0 240) (g_h1_f2 : RG h1_f2 0 240) (g_h1_f3 : RG h1_f3 (-1) 240) (g_j9_h0_f1 : RG j9_h0_f1 0 240) (g_j9_h1_f2 : RG j9_h1_f2 0 240) (g_j9_h1_f3 : RG j9_h1_f3 (-1) (-1)) (g_j9_l4 : RG j9_l4 0 1) (g_j9_l5 : RG j9_l5 0 1) (g_j9_l6 : RG j9_l6 0 239) (hEX : RES = fx_c_X4_readCondition_6_p41 h1_f1 h1_0c j9_l6 j9_l5 j9_l4 j9_h1_f2 j9_h1_f3 j9_h0_f1 j9_h0_0c (fx_c_X4_readCondition_6_p9 h1_f1 h1_0c n9)) (H : Heap) (locs : List Loc) (ls : Array Slot) (hP : va_P (dC, dI) vwCl (wd_c_X4_readCondition_6 h1 h1_0 h1_f1 j9_h1_f2 j9_h1_f3 h1_0 h1_0k h1_0c h0 h0_0 j9_h0_f1 h0_2 h0_0 h0_0k j9_h0_0c) H) (hD : va_D A (wd_c_X4_readCondition_6 h1 h1_0 h1_f1 j9_h1_f2 j9_h1_f3 h1_0 h1_0k h1_0c h0 h0_0 j9_h0_f1 h0_2 h0_0 h0_0k j9_h0_0c)) (hS : va_S A s.heap H locs) (hl : lv_has ls 7 [(6, .int j9_l6), (5, .int j9_l5), (4, .int j9_l4), (0, .ref h0), (1, .ref h1), (2, .int 6), (3, .int 0)]), G H locs (F0 m 41 ls [.int 0, .int 6, .ref h1, .ref h0]) := by
        as_aux_lemma =>
        intro g_h0_f1 g_h1_f1 g_h1_f2 g_h1_f3 g_j9_h0_f1 g_j9_h1_f2 g_j9_h1_f3 g_j9_l4 g_j9_l5 g_j9_l6 hEX H locs ls hP hD hS hl
        refine hG _ _ _ ?_
        obtain ⟨hPc, hDc, hFc, hqc⟩ := cl_cut (wc := (wd_c_X4_readUnit_7 h1 h1_0 h1_f1 j9_h1_f2 j9_h1_f3 h1_0 h1_0k h1_0c h0 h0_0 j9_h0_f1 h0_2 h0_0 h0_0k j9_h0_0c)) hP hD hS hA [0, 1, 2, 3] (by decide +kernel) rfl
        have hKc := hK.sub (tys' := [(h1_0k, .int), (h0_0k, .int)]) [0, 1] rfl
        have hrv := va_recv hKc hPc (ci := 4) (q0 := 2) rfl rfl
        refine va_callv (va_runV (As := [.ref h1, .int 6, .int 0]) (rest := []) ⟨hx, hb, hml, hown, hts⟩ (c_X4_readUnit_7 l dC dI H.size h0 h1 h1_0 h1_f1 j9_h1_f2 j9_h1_f3 h1_0k h1_0c h0_0 j9_h0_f1 h0_2 h0_0k j9_h0_0c ts4 tv4 g_h1_f1 g_j9_h1_f2 (RG_w g_j9_h1_f3 (by decide +kernel)) a_h1_0c g_j9_h0_f1) (cwV 3 hts gf_c_X4_readCondition_6_c_X4_readUnit_7 rfl rfl rfl mdV_X4_readUnit ⟨Nat.le_of_ble_eq_true rfl, Nat.le_of_ble_eq_true rfl⟩) ⟨fun a U g mk q => by obtain ⟨q0, q1, qP, qK, qD, qE0, qE1, qE2, qE3, qE4, qE5⟩ := q; exact ⟨q0, q1, qP, va_K.moved (u := U) (U := U.calling g mk a) (Vm.Alike.refl U.vm) qK, qD, vk_R.same rfl qE0, va_Z.moved (u := U) (U := U.calling g mk a) (Vm.Alike.refl U.vm) qE1, va_OF.moved (u := U) (U := U.calling g mk a) (Vm.Alike.refl U.vm) qE2, va_O.moved (u := U) (U := U.calling g mk a) (Vm.Alike.refl U.vm) qE3, va_OF.moved (u := U) (U := U.calling g mk a) (Vm.Alike.refl U.vm) qE4, va_T.moved (u := U) (U := U.calling g mk a) (Vm.Alike.refl U.vm) qE5⟩, hrv, fun U hU hW => ⟨rfl, by rw [hU], by rw [hU]; exact hPc, va_K.moved hW.alike hKc, hDc.weaken (fun _ _ _ _ => trivial), vk_R.warm hW hE_32, va_Z.moved hW.alike (by rw [hU]; exact (hE_10.kept hS.2.1).narrow hFc), va_OF.moved hW.alike (by rw [hU]; exact (hE_34.kept hS.2.1).narrow hFc), va_O.moved hW.alike (by rw [hU]; exact (hE_33.kept hS.2.1).narrow hFc), va_OF.moved hW.alike (by rw [hU]; exact (hE_35.kept hS.2.1).narrow hFc), va_T.moved hW.alike (by rw [hU]; exact (hE_36.kept hS.2.1).narrow hFc)⟩⟩ rfl rfl hl.1 rfl (lv_room (Nat.le_of_ble_eq_true rfl)) dX4_readCondition_41 ⟨Nat.le_of_ble_eq_true rfl, Nat.le_of_ble_eq_true rfl⟩) hS (fun q _ h => hFc q h) hFc (fun u t H1 locs ht hvm hw hB hz1 hk1 hS => ?_)
        obtain ⟨x_40, x_41, x_42, w_43⟩ := u
        obtain ⟨hP1, hK1, hD1⟩ := hB
        rw [ht] at hP1
        obtain ⟨hP, hD⟩ := cl_put (w1 := (wd_c_X4_readUnit_7 h1 h1_0 h1_f1 x_40 x_41 h1_0 h1_0k h1_0c h0 h0_0 x_42 h0_2 h0_0 h0_0k w_43)) (nw := (wd_c_X4_readCondition_6 h1 h1_0 h1_f1 x_40 x_41 h1_0 h1_0k h1_0c h0 h0_0 x_42 h0_2 h0_0 h0_0k w_43)) hP hD [0, 1, 2, 3] [4, 5, 6, 7] 4 rfl hqc (by decide +kernel) rfl hk1 hFc hP1 hD1
        generalize H1 = H at hP hS ⊢
        as_aux_lemma =>
        rcases hw with ⟨h_44, h_45, h_46, h_47⟩
        have h_47 : (x_40, x_41, x_42, w_43) = _ := h_47
        replace hEX := hEX.trans (exc4_eq h_47)
        refine lv_iload hx hb dX4_readCondition_44 (lv_at hl 2 rfl) ?_
        refine lv_if_eq (tgt := 55) hx hb dX4_readCondition_46 rfl (fun c_48 => ?_) (fun c_48 => ?_)
        · replace hEX := hEX.trans (if_pos c_48)
          have g_49 : RG j9_l4 0 0 := RG_eq1 g_j9_l4 (RG_k 0 0 rfl) c_48 (by decide +kernel)
          exact hU _ _ _ (J55 x_40 x_41 x_42 w_43 g_h0_f1 g_h1_f1 g_h1_f2 g_h1_f3 h_46 h_44 h_45 g_j9_h0_f1 g_j9_h1_f2 g_j9_h1_f3 (RG_w g_49 (by decide +kernel)) g_j9_l5 g_j9_l6 hEX _ _ _ hP hD hS (lv_sub hl [0, 1, 3, 4, 5, 6] rfl))
        · replace hEX := hEX.trans (if_neg c_48)
          have g_50 : RG j9_l4 1 1 := RG_ne1 g_j9_l4 (q := 0) rfl c_48 (by decide +kernel)
          refine lv_aload_n hx hb dX4_readCondition_49 rfl (lv_at hl 3 rfl) ?_
          refine lv_bipush (v := (-38)) hx hb dX4_readCondition_50 kc_bipush_m38 ?_
          obtain ⟨hPc, hDc, hFc, hqc⟩ := cl_cut (wc := (wd_c_X4_emit h0 h0_0 x_42 h0_2 h0_0 h0_0k w_43)) hP hD hS hA [2, 3] (by decide +kernel) rfl
          have hKc := hK.sub (tys' := [(h0_0k, .int)]) [1] rfl
          have hrv := va_recv hKc hPc (ci := 4) (q0 := 0) rfl rfl
          refine va_callv (va_runV (As := [.int (-38)]) (rest := []) ⟨hx, hb, hml, hown, hts⟩ (c_X4_emit l dC dI H.size h0 (-38) h0_0 x_42 h0_2 h0_0k w_43 h_46) (cwV 1 hts gf_c_X4_readCondition_6_c_X4_emit rfl rfl rfl mdV_X4_emit ⟨Nat.le_of_ble_eq_true rfl, Nat.le_of_ble_eq_true rfl⟩) ⟨fun a U g mk q => by obtain ⟨q0, q1, qP, qK, qD⟩ := q; exact ⟨q0, q1, qP, va_K.moved (u := U) (U := U.calling g mk a) (Vm.Alike.refl U.vm) qK, qD⟩, hrv, fun U hU hW => ⟨rfl, by rw [hU], by rw [hU]; exact hPc, va_K.moved hW.alike hKc, hDc.weaken (fun _ _ _ _ => trivial)⟩⟩ rfl rfl hl.1 rfl (lv_room (Nat.le_of_ble_eq_true rfl)) dX4_readCondition_52 ⟨Nat.le_of_ble_eq_true rfl, Nat.le_of_ble_eq_true rfl⟩) hS (fun q _ h => hFc q h) hFc (fun u t H1 locs ht hvm hw hB hz1 hk1 hS => ?_)
          as_aux_lemma =>
          obtain ⟨x_52, w_53⟩ := u
          obtain ⟨hP1, hK1, hD1⟩ := hB
          rw [ht] at hP1
          obtain ⟨hP, hD⟩ := cl_put (w1 := (wd_c_X4_emit h0 h0_0 x_52 h0_2 h0_0 h0_0k w_53)) (nw := (wd_c_X4_readCondition_6 h1 h1_0 h1_f1 x_40 x_41 h1_0 h1_0k h1_0c h0 h0_0 x_52 h0_2 h0_0 h0_0k w_53)) hP hD [2, 3] [0, 1, 4, 5] 4 rfl hqc (by decide +kernel) rfl hk1 hFc hP1 hD1
          generalize H1 = H at hP hS ⊢
          as_aux_lemma =>
          rcases hw with ⟨h_54, h_55⟩
          have h_55 : (x_52, w_53) = _ := h_55
          replace hEX := hEX.trans (exc2_eq h_55)
          exact hU _ _ _ (J55 x_40 x_41 x_52 w_53 g_h0_f1 g_h1_f1 g_h1_f2 g_h1_f3 (RG_w h_54 (by decide +kernel)) h_44 h_45 g_j9_h0_f1 g_j9_h1_f2 g_j9_h1_f3 (RG_w g_50 (by decide +kernel)) g_j9_l5 g_j9_l6 hEX _ _ _ hP hD hS (lv_sub hl [0, 1, 3, 4, 5, 6] rfl))
      have J40 : ∀ (g_h0_f1 : RG h0_f1 0 240) (g_h1_f1 : RG h1_f1 0 240) (g_h1_f2 : RG h1_f2 0 240) (g_h1_f3 : RG h1_f3 (-1) 240) (g_j9_h0_f1 : RG j9_h0_f1 0 240) (g_j9_h1_f2 : RG j9_h1_f2 0 240) (g_j9_h1_f3 : RG j9_h1_f3 (-1) (-1)) (g_j9_l4 : RG j9_l4 0 1) (g_j9_l5 : RG j9_l5 0 1) (g_j9_l6 : RG j9_l6 0 239) (hEX : RES = fx_c_X4_readCondition_6_p40 h1_f1 h1_0c j9_l6 j9_l5 j9_l4 j9_h1_f2 j9_h1_f3 j9_h0_f1 j9_h0_0c (fx_c_X4_readCondition_6_p9 h1_f1 h1_0c n9)) (H : Heap) (locs : List Loc) (ls : Array Slot) (hP : va_P (dC, dI) vwCl (wd_c_X4_readCondition_6 h1 h1_0 h1_f1 j9_h1_f2 j9_h1_f3 h1_0 h1_0k h1_0c h0 h0_0 j9_h0_f1 h0_2 h0_0 h0_0k j9_h0_0c) H) (hD : va_D A (wd_c_X4_readCondition_6 h1 h1_0 h1_f1 j9_h1_f2 j9_h1_f3 h1_0 h1_0k h1_0c h0 h0_0 j9_h0_f1 h0_2 h0_0 h0_0k j9_h0_0c)) (hS : va_S A s.heap H locs) (hl : lv_has ls 7 [(6, .int j9_l6), (5, .int j9_l5), (4, .int j9_l4), (0, .ref h0), (1, .ref h1), (2, .int 6), (3, .int 0)]), G H locs (F0 m 40 ls [.int 6, .ref h1, .ref h0]) := by
        as_aux_lemma =>
        intro g_h0_f1 g_h1_f1 g_h1_f2 g_h1_f3 g_j9_h0_f1 g_j9_h1_f2 g_j9_h1_f3 g_j9_l4 g_j9_l5 g_j9_l6 hEX H locs ls hP hD hS hl
        refine hG _ _ _ ?_
        refine lv_iconst (v := 0) hx hb dX4_readCondition_40 kc_iconst_0 ?_
        exact hU _ _ _ (J41 g_h0_f1 g_h1_f1 g_h1_f2 g_h1_f3 g_j9_h0_f1 g_j9_h1_f2 g_j9_h1_f3 g_j9_l4 g_j9_l5 g_j9_l6 hEX _ _ _ hP hD hS (lv_sub hl [0, 1, 2, 3, 4, 5, 6] rfl))
      refine hG _ _ _ ?_
      replace hEX := hEX.trans (if_pos (rfl : j9_l6 = j9_l6))
      refine lv_iload hx hb dX4_readCondition_9 (lv_at hl 0 rfl) ?_
      refine lv_sipush (v := 240) hx hb dX4_readCondition_11 kc_sipush_240 ?_
      refine lv_icmp_ge (tgt := 99) hx hb dX4_readCondition_14 rfl (fun c_56 => ?_) (fun c_56 => ?_)
      · replace hEX := hEX.trans (if_pos c_56)
        have g_57 : RG j9_l6 240 240 := RG_le2 (RG_k 240 240 rfl) g_j9_l6 c_56 (by decide +kernel)
        have hK9 := hK.sub (tys' := []) [] rfl
        exact W.vret hx hb hr (fun t ht hW => ⟨⟨(j9_h1_f2, j9_h1_f3, j9_h0_f1, j9_h0_0c), rfl, ⟨g_j9_h1_f2, g_j9_h1_f3, g_j9_h0_f1, (hR.trans hEX).symm⟩, by rw [ht]; exact hP, va_K.moved hW.alike hK9, hD⟩, hS.F ht⟩) hS.2.2 dX4_readCondition_99
      · replace hEX := hEX.trans (if_neg c_56)
        have d_58 := Int32.not_le.mp c_56
        have g_59 : RG j9_l6 0 239 := RG_lt1 g_j9_l6 (RG_k 240 240 rfl) d_58 (by decide +kernel)
        refine lv_aload_n hx hb dX4_readCondition_17 rfl (lv_at hl 4 rfl) ?_
        as_aux_lemma =>
        obtain ⟨hPc, hDc, hFc, hqc⟩ := cl_cut (wc := (wd_c_X9_isRight h1 h1_0 h1_f1 j9_h1_f2 j9_h1_f3)) hP hD hS hA [0] (by decide +kernel) rfl
        have hKc := hK.sub (tys' := []) [] rfl
        have hrv := va_recv hKc hPc (ci := 9) (q0 := 0) rfl rfl
        refine va_calli (va_runV (As := []) (rest := []) ⟨hx, hb, hml, hown, hts⟩ (c_X9_isRight l dC dI H.size h1 h1_0 h1_f1 j9_h1_f2 j9_h1_f3 g_h1_f1 g_j9_h1_f2 g_j9_h1_f3) (cwV 0 hts gf_c_X4_readCondition_6_c_X9_isRight rfl rfl rfl mdV_X9_isRight ⟨Nat.le_of_ble_eq_true rfl, Nat.le_of_ble_eq_true rfl⟩) ⟨fun a U g mk q => by obtain ⟨q0, q1, qP, qK, qD⟩ := q; exact ⟨q0, q1, qP, va_K.moved (u := U) (U := U.calling g mk a) (Vm.Alike.refl U.vm) qK, qD⟩, hrv, fun U hU hW => ⟨rfl, by rw [hU], by rw [hU]; exact hPc, va_K.moved hW.alike hKc, hDc.weaken (fun _ _ _ _ => trivial)⟩⟩ rfl rfl hl.1 rfl (lv_room (Nat.le_of_ble_eq_true rfl)) dX4_readCondition_18 ⟨Nat.le_of_ble_eq_true rfl, Nat.le_of_ble_eq_true rfl⟩) hS (fun q _ h => hFc q h) hFc (fun r_60 u t H1 locs ht hvm hw hB hz1 hk1 hS => ?_)
        obtain ⟨hP1, hK1, hD1⟩ := hB
        rw [ht] at hP1
        obtain ⟨hP, hD⟩ := cl_put (w1 := (wd_c_X9_isRight h1 h1_0 h1_f1 j9_h1_f2 j9_h1_f3)) (nw := (wd_c_X4_readCondition_6 h1 h1_0 h1_f1 j9_h1_f2 j9_h1_f3 h1_0 h1_0k h1_0c h0 h0_0 j9_h0_f1 h0_2 h0_0 h0_0k j9_h0_0c)) hP hD [0] [4, 1, 2, 3] 4 rfl hqc (by decide +kernel) rfl hk1 hFc hP1 hD1
        generalize H1 = H at hP hS ⊢
        as_aux_lemma =>
        rcases hw with ⟨h_61, h_62, h_63⟩ | ⟨h_64, h_65, h_66⟩
        · have h_63 : r_60 = _ := h_63
          replace hEX := hEX.trans (exc1_eq h_63)
          replace hEX := hEX.trans (if_pos (show r_60 = 0 from h_61))
          rw [h_61]
          refine lv_if_eq (tgt := 99) hx hb dX4_readCondition_21 rfl (fun c_67 => ?_) (fun c_67 => absurd c_67 (by decide +kernel))
          have hK9 := hK.sub (tys' := []) [] rfl
          exact W.vret hx hb hr (fun t ht hW => ⟨⟨(j9_h1_f2, j9_h1_f3, j9_h0_f1, j9_h0_0c), rfl, ⟨g_j9_h1_f2, (RG_w h_62 (by decide +kernel)), g_j9_h0_f1, (hR.trans hEX).symm⟩, by rw [ht]; exact hP, va_K.moved hW.alike hK9, hD⟩, hS.F ht⟩) hS.2.2 dX4_readCondition_99
        · have h_66 : r_60 = _ := h_66
          replace hEX := hEX.trans (exc1_eq h_66)
          replace hEX := hEX.trans (if_neg (fun q9 : r_60 = 0 => absurd ((show r_60 = 1 from h_64).symm.trans q9) (by decide +kernel)))
          rw [h_64]
          refine lv_if_eq (tgt := 99) hx hb dX4_readCondition_21 rfl (fun c_68 => absurd c_68 (by decide +kernel)) (fun c_68 => ?_)
          refine lv_aload_n hx hb dX4_readCondition_24 rfl (lv_at hl 3 rfl) ?_
          as_aux_lemma =>
          refine lv_aload_n hx hb dX4_readCondition_25 rfl (lv_at hl 4 rfl) ?_
          refine lv_iload_n hx hb dX4_readCondition_26 rfl (lv_at hl 5 rfl) ?_
          refine lv_iload_n hx hb dX4_readCondition_27 rfl (lv_at hl 6 rfl) ?_
          refine lv_if_eq (tgt := 40) hx hb dX4_readCondition_28 rfl (fun c_69 => ?_) (fun c_69 => absurd c_69 (by decide +kernel))
          exact hU _ _ _ (J40 g_h0_f1 g_h1_f1 g_h1_f2 g_h1_f3 g_j9_h0_f1 g_j9_h1_f2 h_65 g_j9_l4 g_j9_l5 g_59 hEX _ _ _ hP hD hS (lv_sub hl [0, 1, 2, 3, 4, 5, 6] rfl))
  refine hG _ _ _ ?_
  refine lv_iconst (v := 0) hx hb dX4_readCondition_0 kc_iconst_0 ?_
  refine lv_istore (lv' := [(4, .int 0), (0, .ref h0), (1, .ref h1), (2, .int 6), (3, .int 0)]) hx hb dX4_readCondition_1 hl (Nat.le_of_ble_eq_true rfl) rfl (fun ls hl => ?_)
  refine lv_iconst (v := 0) hx hb dX4_readCondition_3 kc_iconst_0 ?_
  refine lv_istore (lv' := [(5, .int 0), (4, .int 0), (0, .ref h0), (1, .ref h1), (2, .int 6), (3, .int 0)]) hx hb dX4_readCondition_4 hl (Nat.le_of_ble_eq_true rfl) rfl (fun ls hl => ?_)
  refine lv_iconst (v := 0) hx hb dX4_readCondition_6 kc_iconst_0 ?_
  refine lv_istore (lv' := [(6, .int 0), (5, .int 0), (4, .int 0), (0, .ref h0), (1, .ref h1), (2, .int 6), (3, .int 0)]) hx hb dX4_readCondition_7 hl (Nat.le_of_ble_eq_true rfl) rfl (fun ls hl => ?_)
  exact hU _ _ _ (J9 exF 0 0 0 h1_f2 h1_f3 h0_f1 h0_0c MU_F g_h0_f1 g_h1_f1 g_h1_f2 g_h1_f3 g_h0_f1 g_h1_f2 g_h1_f3 (RG_w (RG_k 0 0 rfl) (by decide +kernel)) (RG_w (RG_k 0 0 rfl) (by decide +kernel)) (RG_w (RG_k 0 0 rfl) (by decide +kernel)) hEX _ _ _ hP hD hS (lv_sub hl [0, 1, 2, 3, 4, 5, 6] rfl))
noncomputable def wd_c_X4_readUnit_6 (a0 : Nat) (a1 : Nat) (a2 : Int32) (a3 : Int32) (a4 : Int32) (a5 : Nat) (a6 : ClassId) (a7 : Nat → Int32) (a8 : Nat) (a9 : Nat) (a10 : Int32) (a11 : Nat) (a12 : Nat) (a13 : ClassId) (a14 : Nat → Int32) : va_W := [(a0, .inr (9, [.ref a1, .int a2, .int a3, .int a4])), (a5, .inl (a6, 240, .inl a7)), (a8, .inr (4, [.ref a9, .int a10, .ref a11])), (a12, .inl (a13, 240, .inl a14))]
noncomputable def wf_c_X4_readUnit_6 : List Cond := List.cons (.code yX4_readUnit cX4_readUnit 5 none) (@HAppend.hAppend (List Cond) (List Cond) (List Cond) _ (@HAppend.hAppend (List Cond) (List Cond) (List Cond) _ [.methodLink RX4 41 yX9_peek, .instanceMethod yX9_peek, .selects RX9 yX9_peek yX9_peek, .initialized RX9, .code yX9_peek cX9_peek 1 (some .int), .fieldLink RX9 22 "BuoyVote$Tape" "at" "I", .fieldLink RX9 19 "BuoyVote$Tape" "length" "I", .fieldLink RX9 11 "BuoyVote$Tape" "bytes" "[I", .methodLink RX4 45 yX4_startsUnit, .static yX4_startsUnit, .initialized RX4, .code yX4_startsUnit cX4_startsUnit 1 (some .boolean), .methodLink RX4 63 yX9_take, .instanceMethod yX9_take, .selects RX9 yX9_take yX9_take, .code yX9_take cX9_take 2 (some .boolean), .fieldLink RX9 15 "BuoyVote$Tape" "wrong" "I", .methodLink RX9 29 yX9_peek, .methodLink RX4 37 yX9_expect, .instanceMethod yX9_expect, .selects RX9 yX9_expect yX9_expect, .code yX9_expect cX9_expect 2 none, .methodLink RX9 25 yX9_refuse, .instanceMethod yX9_refuse, .selects RX9 yX9_refuse yX9_refuse, .code yX9_refuse cX9_refuse 2 none, .methodLink RX4 56 yX4_readCondition, .instanceMethod yX4_readCondition, .selects RX4 yX4_readCondition yX4_readCondition, .code yX4_readCondition cX4_readCondition 7 none, .methodLink RX4 72 yX9_isRight, .instanceMethod yX9_isRight, .selects RX9 yX9_isRight yX9_isRight, .code yX9_isRight cX9_isRight 1 (some .boolean), .methodLink RX4 76 yX4_readUnit, .instanceMethod yX4_readUnit, .selects RX4 yX4_readUnit yX4_readUnit, .methodLink RX4 82 yX9_refuseHere, .instanceMethod yX9_refuseHere, .selects RX9 yX9_refuseHere yX9_refuseHere, .code yX9_refuseHere cX9_refuseHere 1 none, .methodLink RX4 49 yX4_readSum, .instanceMethod yX4_readSum, .selects RX4 yX4_readSum yX4_readSum, .code yX4_readSum cX4_readSum 6 none, .methodLink RX4 85 yX4_readAtom, .instanceMethod yX4_readAtom, .selects RX4 yX4_readAtom yX4_readAtom, .code yX4_readAtom cX4_readAtom 6 none, .methodLink RX4 93 yJ0_indexOf_0f7a4, .instanceMethod yJ0_indexOf_0f7a4, .selects RJ0 yJ0_indexOf_0f7a4 yJ0_indexOf_0f7a4, .initialized RJ0, .code yJ0_indexOf_0f7a4 cJ0_indexOf_0f7a4 2 (some .int), .methodLink RJ0 633 yJ0_indexOf_7cf53, .instanceMethod yJ0_indexOf_7cf53, .selects RJ0 yJ0_indexOf_7cf53 yJ0_indexOf_7cf53, .code yJ0_indexOf_7cf53 cJ0_indexOf_7cf53 3 (some .int), .methodLink RJ0 492 yJ0_isLatin1_aae02, .instanceMethod yJ0_isLatin1_aae02, .selects RJ0 yJ0_isLatin1_aae02 yJ0_isLatin1_aae02, .code yJ0_isLatin1_aae02 cJ0_isLatin1_aae02 1 (some .boolean), .fieldLink RJ0 38 "java/lang/String" "COMPACT_STRINGS" "Z", .fieldLink RJ0 15 "java/lang/String" "coder" "B", .fieldLink RJ0 9 "java/lang/String" "value" "[B", .methodLink RJ0 505 yJ0_length_8abf5, .instanceMethod yJ0_length_8abf5, .selects RJ0 yJ0_length_8abf5 yJ0_length_8abf5, .code yJ0_length_8abf5 cJ0_length_8abf5 1 (some .int), .methodLink RJ0 335 yJ0_coder_7d493, .instanceMethod yJ0_coder_7d493, .selects RJ0 yJ0_coder_7d493 yJ0_coder_7d493, .code yJ0_coder_7d493 cJ0_coder_7d493 1 (some .byte), .methodLink RJ0 637 yJ1_indexOf_4cfef, .static yJ1_indexOf_4cfef, .initialized RJ1, .code yJ1_indexOf_4cfef cJ1_indexOf_4cfef 4 (some .int), .methodLink RJ1 88 yJ1_canEncode_9a6ad, .static yJ1_canEncode_9a6ad, .code yJ1_canEncode_9a6ad cJ1_canEncode_9a6ad 1 (some .boolean), .methodLink RJ1 92 Lib.Math.max.name, .static Lib.Math.max.name, .initialized "java/lang/Math", .code Lib.Math.max.name Lib.Math.max.code 2 (some .int), .methodLink RJ1 38 Lib.Math.min.name, .static Lib.Math.min.name, .code Lib.Math.min.name Lib.Math.min.code 2 (some .int), .methodLink RJ1 95 yJ1_indexOfChar_4cfef, .static yJ1_indexOfChar_4cfef, .code yJ1_indexOfChar_4cfef cJ1_indexOfChar_4cfef 6 (some .int), .methodLink RX4 99 yX9_number, .instanceMethod yX9_number, .selects RX9 yX9_number yX9_number, .code yX9_number cX9_number 4 (some .int), .methodLink RX4 79 yX9_skip, .instanceMethod yX9_skip, .selects RX9 yX9_skip yX9_skip, .code yX9_skip cX9_skip 1 none, .methodLink RX4 60 yX4_emit, .instanceMethod yX4_emit, .selects RX4 yX4_emit yX4_emit, .code yX4_emit cX4_emit 2 none, .fieldLink RX4 20 "BuoyVote$Law" "length" "I", .fieldLink RX4 11 "BuoyVote$Law" "code" "[I", .methodLink RX4 88 yX9_takeEither, .instanceMethod yX9_takeEither, .selects RX9 yX9_takeEither yX9_takeEither, .code yX9_takeEither cX9_takeEither 4 (some .int), .methodLink RX4 53 yX4_isComparison, .static yX4_isComparison, .code yX4_isComparison cX4_isComparison 1 (some .boolean)] wsX90) wsX40)
theorem iw_c_X4_readUnit_6_X9 : ∀ w ∈ wsX90, w ∈ wf_c_X4_readUnit_6 := fun w h => List.mem_cons_of_mem _ (List.mem_append_left _ (List.mem_append_right _ h))
theorem iw_c_X4_readUnit_6_X4 : ∀ w ∈ wsX40, w ∈ wf_c_X4_readUnit_6 := fun w h => List.mem_cons_of_mem _ (List.mem_append_right _ h)
set_option maxRecDepth 20000 in
theorem gf_c_X4_readUnit_6_c_X9_peek : GoodIn wf_c_X4_readUnit_6 (wsV RX4 41 RX9 yX9_peek wf_c_X9_peek) := goodIn_app (gi_l [1, 2, 3, 4] rfl rfl) (gi_cons (j := 5) rfl rfl (goodIn_app (gi_l [6, 7, 8] rfl rfl) (goodIn_sub iw_c_X4_readUnit_6_X9 gw_X9)))
set_option maxRecDepth 20000 in
theorem gf_c_X4_readUnit_6_c_X4_isComparison : GoodIn wf_c_X4_readUnit_6 (va_wsS RX4 53 yX4_isComparison wf_c_X4_isComparison) := goodIn_app (gi_l [109, 110, 11] rfl rfl) (gi_cons (j := 111) rfl rfl gi_nil)
set_option maxRecDepth 20000 in
theorem gf_c_X4_readUnit_6_c_X9_refuseHere : GoodIn wf_c_X4_readUnit_6 (wsV RX4 82 RX9 yX9_refuseHere wf_c_X9_refuseHere) := goodIn_app (gi_l [38, 39, 40, 4] rfl rfl) (gi_cons (j := 41) rfl rfl (goodIn_app (gi_l [6, 23, 24, 25, 4, 26, 17] rfl rfl) (goodIn_sub iw_c_X4_readUnit_6_X9 gw_X9)))
set_option maxRecDepth 20000 in
theorem gf_c_X4_readUnit_6_c_X4_isComparison_1 : GoodIn wf_c_X4_readUnit_6 (va_wsS RX4 53 yX4_isComparison wf_c_X4_isComparison_1) := goodIn_app (gi_l [109, 110, 11] rfl rfl) (gi_cons (j := 111) rfl rfl gi_nil)
set_option maxRecDepth 20000 in
theorem gf_c_X4_readUnit_6_c_X9_skip : GoodIn wf_c_X4_readUnit_6 (wsV RX4 79 RX9 yX9_skip wf_c_X9_skip) := goodIn_app (gi_l [95, 96, 97, 4] rfl rfl) (gi_cons (j := 98) rfl rfl (goodIn_app (gi_l [6] rfl rfl) (goodIn_sub iw_c_X4_readUnit_6_X9 gw_X9)))
set_option maxRecDepth 20000 in
theorem gf_c_X4_readUnit_6_c_X4_readSum_5 : GoodIn wf_c_X4_readUnit_6 (wsV RX4 49 RX4 yX4_readSum wf_c_X4_readSum_5) := goodIn_app (gi_l [42, 43, 44, 11] rfl rfl) (gi_cons (j := 45) rfl rfl (goodIn_app (goodIn_app (gi_l [31, 32, 33, 4, 34, 17, 46, 47, 48, 11, 49, 1, 2, 3, 5, 6, 7, 8, 50, 51, 52, 53, 54, 55, 56, 57, 58, 59, 60, 61, 62, 63, 64, 65, 66, 67, 68, 69, 70, 71, 72, 73, 74, 75, 76, 77, 78, 79, 80, 81, 82, 83, 84, 85, 86, 87, 88, 89, 90, 91, 92, 93, 94, 38, 39, 40, 41, 23, 24, 25, 26, 95, 96, 97, 98, 42, 43, 44, 99, 100, 101, 102, 103, 104, 105, 106, 107, 108, 18, 19, 20, 21, 22] rfl rfl) (goodIn_sub iw_c_X4_readUnit_6_X9 gw_X9)) (goodIn_sub iw_c_X4_readUnit_6_X4 gw_X4)))
set_option maxRecDepth 20000 in
theorem gf_c_X4_readUnit_6_c_X4_emit : GoodIn wf_c_X4_readUnit_6 (wsV RX4 60 RX4 yX4_emit wf_c_X4_emit) := goodIn_app (gi_l [99, 100, 101, 11] rfl rfl) (gi_cons (j := 102) rfl rfl (goodIn_app (gi_l [103, 104] rfl rfl) (goodIn_sub iw_c_X4_readUnit_6_X4 gw_X4)))
set_option maxRecDepth 20000 in
theorem gf_c_X4_readUnit_6_c_X4_startsUnit : GoodIn wf_c_X4_readUnit_6 (va_wsS RX4 45 yX4_startsUnit wf_c_X4_startsUnit) := goodIn_app (gi_l [9, 10, 11] rfl rfl) (gi_cons (j := 12) rfl rfl gi_nil)
set_option maxRecDepth 20000 in
theorem gf_c_X4_readUnit_6_c_X4_startsUnit_1 : GoodIn wf_c_X4_readUnit_6 (va_wsS RX4 45 yX4_startsUnit wf_c_X4_startsUnit_1) := goodIn_app (gi_l [9, 10, 11] rfl rfl) (gi_cons (j := 12) rfl rfl gi_nil)
set_option maxRecDepth 20000 in
theorem gf_c_X4_readUnit_6_c_X9_take : GoodIn wf_c_X4_readUnit_6 (wsV RX4 63 RX9 yX9_take wf_c_X9_take) := goodIn_app (gi_l [13, 14, 15, 4] rfl rfl) (gi_cons (j := 16) rfl rfl (goodIn_app (gi_l [17, 18, 2, 3, 4, 5, 6, 7, 8] rfl rfl) (goodIn_sub iw_c_X4_readUnit_6_X9 gw_X9)))
set_option maxRecDepth 20000 in
theorem gf_c_X4_readUnit_6_c_X9_expect_1 : GoodIn wf_c_X4_readUnit_6 (wsV RX4 37 RX9 yX9_expect wf_c_X9_expect_1) := goodIn_app (gi_l [19, 20, 21, 4] rfl rfl) (gi_cons (j := 22) rfl rfl (goodIn_app (gi_l [17, 18, 2, 3, 4, 5, 6, 7, 8, 23, 24, 25, 26] rfl rfl) (goodIn_sub iw_c_X4_readUnit_6_X9 gw_X9)))
set_option maxRecDepth 20000 in
theorem gf_c_X4_readUnit_6_c_X4_readCondition_6 : GoodIn wf_c_X4_readUnit_6 (wsV RX4 56 RX4 yX4_readCondition wf_c_X4_readCondition_6) := goodIn_app (gi_l [27, 28, 29, 11] rfl rfl) (gi_cons (j := 30) rfl rfl (goodIn_app (goodIn_app (gi_l [31, 32, 33, 4, 34, 17, 35, 36, 37, 11, 0, 1, 2, 3, 5, 6, 7, 8, 9, 10, 12, 38, 39, 40, 41, 23, 24, 25, 26, 42, 43, 44, 45, 46, 47, 48, 49, 50, 51, 52, 53, 54, 55, 56, 57, 58, 59, 60, 61, 62, 63, 64, 65, 66, 67, 68, 69, 70, 71, 72, 73, 74, 75, 76, 77, 78, 79, 80, 81, 82, 83, 84, 85, 86, 87, 88, 89, 90, 91, 92, 93, 94, 95, 96, 97, 98, 99, 100, 101, 102, 103, 104, 105, 106, 107, 108, 18, 109, 110, 111, 13, 14, 15, 16] rfl rfl) (goodIn_sub iw_c_X4_readUnit_6_X9 gw_X9)) (goodIn_sub iw_c_X4_readUnit_6_X4 gw_X4)))
set_option maxRecDepth 20000 in
theorem gf_c_X4_readUnit_6_c_X4_readUnit_7 : GoodIn wf_c_X4_readUnit_6 (wsV RX4 76 RX4 yX4_readUnit wf_c_X4_readUnit_7) := goodIn_app (gi_l [35, 36, 37, 11] rfl rfl) (gi_cons (j := 0) rfl rfl (goodIn_app (goodIn_app (gi_l [1, 2, 3, 4, 5, 6, 7, 8, 9, 10, 11, 12, 38, 39, 40, 41, 23, 24, 25, 26, 17, 42, 43, 44, 45, 31, 32, 33, 34, 46, 47, 48, 49, 50, 51, 52, 53, 54, 55, 56, 57, 58, 59, 60, 61, 62, 63, 64, 65, 66, 67, 68, 69, 70, 71, 72, 73, 74, 75, 76, 77, 78, 79, 80, 81, 82, 83, 84, 85, 86, 87, 88, 89, 90, 91, 92, 93, 94, 95, 96, 97, 98, 99, 100, 101, 102, 103, 104, 105, 106, 107, 108, 18, 109, 110, 111] rfl rfl) (goodIn_sub iw_c_X4_readUnit_6_X9 gw_X9)) (goodIn_sub iw_c_X4_readUnit_6_X4 gw_X4)))
set_option maxHeartbeats 4000000 in
set_option maxRecDepth 100000 in
theorem c_X4_readUnit_6 (l : Launch) (dC : Nat → ClassId) (dI : Nat → Nat → Nat) (sz : Nat) (h0 : Nat) (h1 : Nat) (h1_0 : Nat) (h1_f1 : Int32) (h1_f2 : Int32) (h1_f3 : Int32) (h1_0k : ClassId) (h1_0c : Nat → Int32) (h0_0 : Nat) (h0_f1 : Int32) (h0_2 : Nat) (h0_0k : ClassId) (h0_0c : Nat → Int32) (ts4 : Nat) (tv4 : Nat) (g_h1_f1 : RG h1_f1 0 240) (g_h1_f2 : RG h1_f2 0 240) (g_h1_f3 : RG h1_f3 (-1) 240) (a_h1_0c : AI h1_0c 0 255) (g_h0_f1 : RG h0_f1 0 240) : Met l yX4_readUnit wf_c_X4_readUnit_6 ({ frames := 8, cells := 0, slots := 0, locals := 191 }) (va_Pc [.ref h0, .ref h1, .int 5, .int 0] (fun U => U.heap.size = sz ∧ va_P (dC, dI) vwCl (wd_c_X4_readUnit_6 h1 h1_0 h1_f1 h1_f2 h1_f3 h1_0 h1_0k h1_0c h0 h0_0 h0_f1 h0_2 h0_0 h0_0k h0_0c) U.heap ∧ va_K (dC, dI) vwCl [(h1_0k, .int), (h0_0k, .int)] U ∧ va_D (fun _ => True) (wd_c_X4_readUnit_6 h1 h1_0 h1_f1 h1_f2 h1_f3 h1_0 h1_0k h1_0c h0 h0_0 h0_f1 h0_2 h0_0 h0_0k h0_0c) ∧ vk_R RX4 91 "vlrdph" ts4 U ∧ va_Z "java/lang/String" "COMPACT_STRINGS" "Z" (.int 1) (va_A (wd_c_X4_readUnit_6 h1 h1_0 h1_f1 h1_f2 h1_f3 h1_0 h1_0k h1_0c h0 h0_0 h0_f1 h0_2 h0_0 h0_0k h0_0c) sz) U U.heap ∧ va_OF "java/lang/String" "coder" "B" (.int 0) ts4 (va_A (wd_c_X4_readUnit_6 h1 h1_0 h1_f1 h1_f2 h1_f3 h1_0 h1_0k h1_0c h0 h0_0 h0_f1 h0_2 h0_0 h0_0k h0_0c) sz) U U.heap ∧ va_O "java/lang/String" ts4 (va_A (wd_c_X4_readUnit_6 h1 h1_0 h1_f1 h1_f2 h1_f3 h1_0 h1_0k h1_0c h0 h0_0 h0_f1 h0_2 h0_0 h0_0k h0_0c) sz) U U.heap ∧ va_OF "java/lang/String" "value" "[B" (.ref tv4) ts4 (va_A (wd_c_X4_readUnit_6 h1 h1_0 h1_f1 h1_f2 h1_f3 h1_0 h1_0k h1_0c h0 h0_0 h0_f1 h0_2 h0_0 h0_0k h0_0c) sz) U U.heap ∧ va_T .byte tv4 6 (fun j => .int ([118, 108, 114, 100, 112, 104].getD j 0)) (va_A (wd_c_X4_readUnit_6 h1 h1_0 h1_f1 h1_f2 h1_f3 h1_0 h1_0k h1_0c h0 h0_0 h0_f1 h0_2 h0_0 h0_0k h0_0c) sz) U U.heap)) (va_Qv (fun (u : (Int32) × (Int32) × (Int32) × (Nat → Int32)) => (RG u.1 0 240 ∧ RG u.2.1 (-1) 240 ∧ RG u.2.2.1 0 240 ∧ (u.1, u.2.1, u.2.2.1, u.2.2.2) = fx_c_X4_readUnit_6 h1_f1 h1_f2 h1_f3 h1_0c h0_f1 h0_0c)) (fun (u : (Int32) × (Int32) × (Int32) × (Nat → Int32)) t => va_P (dC, dI) vwCl (wd_c_X4_readUnit_6 h1 h1_0 h1_f1 (u.1) (u.2.1) h1_0 h1_0k h1_0c h0 h0_0 (u.2.2.1) h0_2 h0_0 h0_0k (u.2.2.2)) t.heap ∧ va_K (dC, dI) vwCl [] t ∧ va_D (va_A (wd_c_X4_readUnit_6 h1 h1_0 h1_f1 h1_f2 h1_f3 h1_0 h1_0k h1_0c h0 h0_0 h0_f1 h0_2 h0_0 h0_0k h0_0c) sz) (wd_c_X4_readUnit_6 h1 h1_0 h1_f1 (u.1) (u.2.1) h1_0 h1_0k h1_0c h0 h0_0 (u.2.2.1) h0_2 h0_0 h0_0k (u.2.2.2))) (va_A (wd_c_X4_readUnit_6 h1 h1_0 h1_f1 h1_f2 h1_f3 h1_0 h1_0k h1_0c h0 h0_0 h0_f1 h0_2 h0_0 h0_0k h0_0c) sz)) 0 0 (va_A (wd_c_X4_readUnit_6 h1 h1_0 h1_f1 h1_f2 h1_f3 h1_0 h1_0k h1_0c h0 h0_0 h0_f1 h0_2 h0_0 h0_0k h0_0c) sz) := by
  refine Met.ofW (cc := cX4_readUnit) (maxL := 5) (ret := none) (by decide +kernel) rfl ?_
  intro p e s m args below meth c s₁ B hml hv
  obtain ⟨rfl, hsz, hP, hK, hD0, hE_32, hE_10, hE_34, hE_33, hE_35, hE_36⟩ := hv
  have hx := B.exec
  have hb := B.bytes
  have hr := B.returns
  have hts := atoms_spec (ws := wf_c_X4_readUnit_6) B.pre
  have hown : s.vm.findClass RX4 = some m.cls := findClass_of_methodNamed B.named
  have hlocks := B.notSynchronized
  subst hsz
  have hD := hD0.self (sz := s.heap.size)
  generalize hAe : va_A (wd_c_X4_readUnit_6 h1 h1_0 h1_f1 h1_f2 h1_f3 h1_0 h1_0k h1_0c h0 h0_0 h0_f1 h0_2 h0_0 h0_0k h0_0c) s.heap.size = A at hD hE_10 hE_34 hE_33 hE_35 hE_36 ⊢
  have hA : ∀ q : Nat, s.heap.size ≤ q → A q := fun q h => by rw [← hAe]; exact Or.inr h
  have hP : va_P (dC, dI) vwCl (wd_c_X4_readUnit_6 h1 h1_0 h1_f1 h1_f2 h1_f3 h1_0 h1_0k h1_0c h0 h0_0 h0_f1 h0_2 h0_0 h0_0k h0_0c) s.heap := hP
  have hl := lv_entry ([.ref h0, .ref h1, .int 5, .int 0]) (n := 5) (Nat.le_of_ble_eq_true rfl)
  rw [lg_entry_eq]
  generalize (lg_sl ([.ref h0, .ref h1, .int 5, .int 0]) ++ List.replicate (5 - (lg_sl ([.ref h0, .ref h1, .int 5, .int 0])).length) Slot.unset).toArray = ls at hl ⊢
  have hl : lv_has ls 5 [(0, .ref h0), (1, .ref h1), (2, .int 5), (3, .int 0)] := hl
  obtain ⟨H, hHe⟩ : ∃ H : Heap, s.heap = H := ⟨_, rfl⟩
  have hS : va_S A s.heap H [] := by rw [hHe]; exact va_S.rf
  have hP : va_P (dC, dI) vwCl (wd_c_X4_readUnit_6 h1 h1_0 h1_f1 h1_f2 h1_f3 h1_0 h1_0k h1_0c h0 h0_0 h0_f1 h0_2 h0_0 h0_0k h0_0c) H := by rw [← hHe]; exact hP
  rw [hHe]
  obtain ⟨RES, hR⟩ : ∃ z, fx_c_X4_readUnit_6 h1_f1 h1_f2 h1_f3 h1_0c h0_f1 h0_0c = z := ⟨_, rfl⟩
  have hEX : RES = fx_c_X4_readUnit_6 h1_f1 h1_f2 h1_f3 h1_0c h0_f1 h0_0c := hR.symm
  refine wj (fun G hG hU => ?_)
  as_aux_lemma =>
  have J62 : ∀ (j62_h1_f2 : Int32) (j62_h1_f3 : Int32) (j62_h0_f1 : Int32) (j62_h0_0c : Nat → Int32) (g_h0_f1 : RG h0_f1 0 240) (g_h1_f1 : RG h1_f1 0 240) (g_h1_f2 : RG h1_f2 0 240) (g_h1_f3 : RG h1_f3 (-1) 240) (g_j62_h0_f1 : RG j62_h0_f1 0 240) (g_j62_h1_f2 : RG j62_h1_f2 0 240) (g_j62_h1_f3 : RG j62_h1_f3 (-1) 240) (hEX : RES = fx_c_X4_readUnit_6_p62 j62_h1_f2 j62_h1_f3 j62_h0_f1 j62_h0_0c) (H : Heap) (locs : List Loc) (ls : Array Slot) (hP : va_P (dC, dI) vwCl (wd_c_X4_readUnit_6 h1 h1_0 h1_f1 j62_h1_f2 j62_h1_f3 h1_0 h1_0k h1_0c h0 h0_0 j62_h0_f1 h0_2 h0_0 h0_0k j62_h0_0c) H) (hD : va_D A (wd_c_X4_readUnit_6 h1 h1_0 h1_f1 j62_h1_f2 j62_h1_f3 h1_0 h1_0k h1_0c h0 h0_0 j62_h0_f1 h0_2 h0_0 h0_0k j62_h0_0c)) (hS : va_S A s.heap H locs) (hl : lv_has ls 5 []), G H locs (F0 m 62 ls []) := by
    as_aux_lemma =>
    intro j62_h1_f2 j62_h1_f3 j62_h0_f1 j62_h0_0c g_h0_f1 g_h1_f1 g_h1_f2 g_h1_f3 g_j62_h0_f1 g_j62_h1_f2 g_j62_h1_f3 hEX H locs ls hP hD hS hl
    refine hG _ _ _ ?_
    refine lv_goto (tgt := 126) hx hb dX4_readUnit_62 rfl ?_
    have hK9 := hK.sub (tys' := []) [] rfl
    exact W.vret hx hb hr (fun t ht hW => ⟨⟨(j62_h1_f2, j62_h1_f3, j62_h0_f1, j62_h0_0c), rfl, ⟨g_j62_h1_f2, g_j62_h1_f3, g_j62_h0_f1, (hR.trans hEX).symm⟩, by rw [ht]; exact hP, va_K.moved hW.alike hK9, hD⟩, hS.F ht⟩) hS.2.2 dX4_readUnit_126
  have J24 : ∀ (j24_h1_f2 : Int32) (j24_h1_f3 : Int32) (j24_h0_f1 : Int32) (j24_h0_0c : Nat → Int32) (g_h0_f1 : RG h0_f1 0 240) (g_h1_f1 : RG h1_f1 0 240) (g_h1_f2 : RG h1_f2 0 240) (g_h1_f3 : RG h1_f3 (-1) 240) (g_j24_h0_f1 : RG j24_h0_f1 0 240) (g_j24_h1_f2 : RG j24_h1_f2 0 240) (g_j24_h1_f3 : RG j24_h1_f3 (-1) 240) (hEX : RES = fx_c_X4_readUnit_6_p24 h1_f1 h1_0c j24_h1_f2 j24_h1_f3 j24_h0_f1 j24_h0_0c) (H : Heap) (locs : List Loc) (ls : Array Slot) (hP : va_P (dC, dI) vwCl (wd_c_X4_readUnit_6 h1 h1_0 h1_f1 j24_h1_f2 j24_h1_f3 h1_0 h1_0k h1_0c h0 h0_0 j24_h0_f1 h0_2 h0_0 h0_0k j24_h0_0c) H) (hD : va_D A (wd_c_X4_readUnit_6 h1 h1_0 h1_f1 j24_h1_f2 j24_h1_f3 h1_0 h1_0k h1_0c h0 h0_0 j24_h0_f1 h0_2 h0_0 h0_0k j24_h0_0c)) (hS : va_S A s.heap H locs) (hl : lv_has ls 5 [(0, .ref h0), (1, .ref h1), (2, .int 5)]), G H locs (F0 m 24 ls []) := by
    as_aux_lemma =>
    intro j24_h1_f2 j24_h1_f3 j24_h0_f1 j24_h0_0c g_h0_f1 g_h1_f1 g_h1_f2 g_h1_f3 g_j24_h0_f1 g_j24_h1_f2 g_j24_h1_f3 hEX H locs ls hP hD hS hl
    refine hG _ _ _ ?_
    refine lv_aload_n hx hb dX4_readUnit_24 rfl (lv_at hl 1 rfl) ?_
    obtain ⟨hPc, hDc, hFc, hqc⟩ := cl_cut (wc := (wd_c_X9_peek h1 h1_0 h1_f1 j24_h1_f2 j24_h1_f3 h1_0 h1_0k h1_0c)) hP hD hS hA [0, 1] (by decide +kernel) rfl
    have hKc := hK.sub (tys' := [(h1_0k, .int)]) [0] rfl
    have hrv := va_recv hKc hPc (ci := 9) (q0 := 0) rfl rfl
    refine va_calli (va_runV (As := []) (rest := []) ⟨hx, hb, hml, hown, hts⟩ (c_X9_peek l dC dI H.size h1 h1_0 h1_f1 j24_h1_f2 j24_h1_f3 h1_0k h1_0c g_h1_f1 g_j24_h1_f2 g_j24_h1_f3 a_h1_0c) (cwV 0 hts gf_c_X4_readUnit_6_c_X9_peek rfl rfl rfl mdV_X9_peek ⟨Nat.le_of_ble_eq_true rfl, Nat.le_of_ble_eq_true rfl⟩) ⟨fun a U g mk q => by obtain ⟨q0, q1, qP, qK, qD⟩ := q; exact ⟨q0, q1, qP, va_K.moved (u := U) (U := U.calling g mk a) (Vm.Alike.refl U.vm) qK, qD⟩, hrv, fun U hU hW => ⟨rfl, by rw [hU], by rw [hU]; exact hPc, va_K.moved hW.alike hKc, hDc.weaken (fun _ _ _ _ => trivial)⟩⟩ rfl rfl hl.1 rfl (lv_room (Nat.le_of_ble_eq_true rfl)) dX4_readUnit_25 ⟨Nat.le_of_ble_eq_true rfl, Nat.le_of_ble_eq_true rfl⟩) hS (fun q _ h => hFc q h) hFc (fun r_1 x_2 t H1 locs ht hvm hw hB hz1 hk1 hS => ?_)
    obtain ⟨hP1, hK1, hD1⟩ := hB
    rw [ht] at hP1
    obtain ⟨hP, hD⟩ := cl_put (w1 := (wd_c_X9_peek h1 h1_0 h1_f1 x_2 j24_h1_f3 h1_0 h1_0k h1_0c)) (nw := (wd_c_X4_readUnit_6 h1 h1_0 h1_f1 x_2 j24_h1_f3 h1_0 h1_0k h1_0c h0 h0_0 j24_h0_f1 h0_2 h0_0 h0_0k j24_h0_0c)) hP hD [0, 1] [4, 5, 2, 3] 4 rfl hqc (by decide +kernel) rfl hk1 hFc hP1 hD1
    generalize H1 = H at hP hS ⊢
    as_aux_lemma =>
    rcases hw with ⟨h_3, h_4, h_5, h_6⟩ | ⟨h_7, h_8, h_9, h_10, h_11⟩
    · have h_6 : (r_1, x_2) = _ := h_6
      replace hEX := hEX.trans (exc2_eq h_6)
      replace hEX := hEX.trans (if_pos (show r_1 = (-1) from h_3))
      rw [h_3]
      refine lv_istore (lv' := [(4, .int (-1)), (0, .ref h0), (1, .ref h1), (2, .int 5)]) hx hb dX4_readUnit_28 hl (Nat.le_of_ble_eq_true rfl) rfl (fun ls hl => ?_)
      refine lv_iload hx hb dX4_readUnit_30 (lv_at hl 0 rfl) ?_
      obtain ⟨hPc, hDc, hFc, hqc⟩ := cl_cut (wc := []) hP hD hS hA [] (by decide +kernel) rfl
      have hKc := hK.sub (tys' := []) [] rfl
      refine va_calli (va_runS (As := [.int (-1)]) (rest := []) ⟨hx, hb, hml, hown, hts⟩ (c_X4_isComparison l dC dI H.size (-1) (RG_k (-1) (-1) rfl)) (va_cwS 1 hts gf_c_X4_readUnit_6_c_X4_isComparison rfl rfl rfl md_X4_isComparison ⟨Nat.le_of_ble_eq_true rfl, Nat.le_of_ble_eq_true rfl⟩) ⟨fun a U g mk q => by obtain ⟨q0, q1, qP, qK, qD⟩ := q; exact ⟨q0, q1, qP, va_K.moved (u := U) (U := U.calling g mk a) (Vm.Alike.refl U.vm) qK, qD⟩, fun U hU hW => ⟨rfl, by rw [hU], by rw [hU]; exact hPc, va_K.moved hW.alike hKc, hDc.weaken (fun _ _ _ _ => trivial)⟩⟩ rfl rfl hl.1 rfl (lv_room (Nat.le_of_ble_eq_true rfl)) dX4_readUnit_32 ⟨Nat.le_of_ble_eq_true rfl, Nat.le_of_ble_eq_true rfl⟩) hS (fun q _ h => hFc q h) hFc (fun r_12 u t H1 locs ht hvm hw hB hz1 hk1 hS => ?_)
      obtain ⟨hP1, hK1, hD1⟩ := hB
      rw [ht] at hP1
      have hP := bv_still hP hk1
      generalize H1 = H at hP hS ⊢
      as_aux_lemma =>
      rcases hw with ⟨h_13, h_14⟩
      have h_14 : r_12 = _ := h_14
      replace hEX := hEX.trans (exc1_eq h_14)
      rw [h_13]
      refine lv_if_eq (tgt := 58) hx hb dX4_readUnit_35 rfl (fun c_15 => ?_) (fun c_15 => absurd c_15 (by decide +kernel))
      refine lv_aload_n hx hb dX4_readUnit_58 rfl (lv_at hl 2 rfl) ?_
      obtain ⟨hPc, hDc, hFc, hqc⟩ := cl_cut (wc := (wd_c_X9_refuseHere h1 h1_0 h1_f1 x_2 j24_h1_f3)) hP hD hS hA [0] (by decide +kernel) rfl
      have hKc := hK.sub (tys' := []) [] rfl
      have hrv := va_recv hKc hPc (ci := 9) (q0 := 0) rfl rfl
      refine va_callv (va_runV (As := []) (rest := []) ⟨hx, hb, hml, hown, hts⟩ (c_X9_refuseHere l dC dI H.size h1 h1_0 h1_f1 x_2 j24_h1_f3 g_h1_f1 h_4 g_j24_h1_f3) (cwV 0 hts gf_c_X4_readUnit_6_c_X9_refuseHere rfl rfl rfl mdV_X9_refuseHere ⟨Nat.le_of_ble_eq_true rfl, Nat.le_of_ble_eq_true rfl⟩) ⟨fun a U g mk q => by obtain ⟨q0, q1, qP, qK, qD⟩ := q; exact ⟨q0, q1, qP, va_K.moved (u := U) (U := U.calling g mk a) (Vm.Alike.refl U.vm) qK, qD⟩, hrv, fun U hU hW => ⟨rfl, by rw [hU], by rw [hU]; exact hPc, va_K.moved hW.alike hKc, hDc.weaken (fun _ _ _ _ => trivial)⟩⟩ rfl rfl hl.1 rfl (lv_room (Nat.le_of_ble_eq_true rfl)) dX4_readUnit_59 ⟨Nat.le_of_ble_eq_true rfl, Nat.le_of_ble_eq_true rfl⟩) hS (fun q _ h => hFc q h) hFc (fun x_17 t H1 locs ht hvm hw hB hz1 hk1 hS => ?_)
      obtain ⟨hP1, hK1, hD1⟩ := hB
      rw [ht] at hP1
      obtain ⟨hP, hD⟩ := cl_put (w1 := (wd_c_X9_refuseHere h1 h1_0 h1_f1 x_2 x_17)) (nw := (wd_c_X4_readUnit_6 h1 h1_0 h1_f1 x_2 x_17 h1_0 h1_0k h1_0c h0 h0_0 j24_h0_f1 h0_2 h0_0 h0_0k j24_h0_0c)) hP hD [0] [4, 1, 2, 3] 4 rfl hqc (by decide +kernel) rfl hk1 hFc hP1 hD1
      generalize H1 = H at hP hS ⊢
      as_aux_lemma =>
      rcases hw with ⟨h_18, h_19⟩
      have h_19 : x_17 = _ := h_19
      replace hEX := hEX.trans (exc1_eq h_19)
      exact hU _ _ _ (J62 x_2 x_17 j24_h0_f1 j24_h0_0c g_h0_f1 g_h1_f1 g_h1_f2 g_h1_f3 g_j24_h0_f1 h_4 (RG_w h_18 (by decide +kernel)) hEX _ _ _ hP hD hS (lv_sub hl [] rfl))
    · have h_11 : (r_1, x_2) = _ := h_11
      replace hEX := hEX.trans (exc2_eq h_11)
      replace hEX := hEX.trans (if_neg (RG_neq (x := r_1) (c := (-1)) (show RG r_1 0 255 from h_7) (by decide +kernel)))
      refine lv_istore (lv' := [(4, .int r_1), (0, .ref h0), (1, .ref h1), (2, .int 5)]) hx hb dX4_readUnit_28 hl (Nat.le_of_ble_eq_true rfl) rfl (fun ls hl => ?_)
      refine lv_iload hx hb dX4_readUnit_30 (lv_at hl 0 rfl) ?_
      obtain ⟨hPc, hDc, hFc, hqc⟩ := cl_cut (wc := []) hP hD hS hA [] (by decide +kernel) rfl
      have hKc := hK.sub (tys' := []) [] rfl
      refine va_calli (va_runS (As := [.int r_1]) (rest := []) ⟨hx, hb, hml, hown, hts⟩ (c_X4_isComparison_1 l dC dI H.size r_1 h_7) (va_cwS 1 hts gf_c_X4_readUnit_6_c_X4_isComparison_1 rfl rfl rfl md_X4_isComparison ⟨Nat.le_of_ble_eq_true rfl, Nat.le_of_ble_eq_true rfl⟩) ⟨fun a U g mk q => by obtain ⟨q0, q1, qP, qK, qD⟩ := q; exact ⟨q0, q1, qP, va_K.moved (u := U) (U := U.calling g mk a) (Vm.Alike.refl U.vm) qK, qD⟩, fun U hU hW => ⟨rfl, by rw [hU], by rw [hU]; exact hPc, va_K.moved hW.alike hKc, hDc.weaken (fun _ _ _ _ => trivial)⟩⟩ rfl rfl hl.1 rfl (lv_room (Nat.le_of_ble_eq_true rfl)) dX4_readUnit_32 ⟨Nat.le_of_ble_eq_true rfl, Nat.le_of_ble_eq_true rfl⟩) hS (fun q _ h => hFc q h) hFc (fun r_20 u t H1 locs ht hvm hw hB hz1 hk1 hS => ?_)
      obtain ⟨hP1, hK1, hD1⟩ := hB
      rw [ht] at hP1
      have hP := bv_still hP hk1
      generalize H1 = H at hP hS ⊢
      as_aux_lemma =>
      rcases hw with ⟨h_21, h_22⟩ | ⟨h_23, h_24, h_25⟩
      · have h_22 : r_20 = _ := h_22
        replace hEX := hEX.trans (exc1_eq h_22)
        replace hEX := hEX.trans (if_pos (show r_20 = 0 from h_21))
        rw [h_21]
        refine lv_if_eq (tgt := 58) hx hb dX4_readUnit_35 rfl (fun c_26 => ?_) (fun c_26 => absurd c_26 (by decide +kernel))
        refine lv_aload_n hx hb dX4_readUnit_58 rfl (lv_at hl 2 rfl) ?_
        obtain ⟨hPc, hDc, hFc, hqc⟩ := cl_cut (wc := (wd_c_X9_refuseHere h1 h1_0 h1_f1 x_2 j24_h1_f3)) hP hD hS hA [0] (by decide +kernel) rfl
        have hKc := hK.sub (tys' := []) [] rfl
        have hrv := va_recv hKc hPc (ci := 9) (q0 := 0) rfl rfl
        refine va_callv (va_runV (As := []) (rest := []) ⟨hx, hb, hml, hown, hts⟩ (c_X9_refuseHere l dC dI H.size h1 h1_0 h1_f1 x_2 j24_h1_f3 (RG_w h_9 (by decide +kernel)) (RG_w h_8 (by decide +kernel)) g_j24_h1_f3) (cwV 0 hts gf_c_X4_readUnit_6_c_X9_refuseHere rfl rfl rfl mdV_X9_refuseHere ⟨Nat.le_of_ble_eq_true rfl, Nat.le_of_ble_eq_true rfl⟩) ⟨fun a U g mk q => by obtain ⟨q0, q1, qP, qK, qD⟩ := q; exact ⟨q0, q1, qP, va_K.moved (u := U) (U := U.calling g mk a) (Vm.Alike.refl U.vm) qK, qD⟩, hrv, fun U hU hW => ⟨rfl, by rw [hU], by rw [hU]; exact hPc, va_K.moved hW.alike hKc, hDc.weaken (fun _ _ _ _ => trivial)⟩⟩ rfl rfl hl.1 rfl (lv_room (Nat.le_of_ble_eq_true rfl)) dX4_readUnit_59 ⟨Nat.le_of_ble_eq_true rfl, Nat.le_of_ble_eq_true rfl⟩) hS (fun q _ h => hFc q h) hFc (fun x_28 t H1 locs ht hvm hw hB hz1 hk1 hS => ?_)
        obtain ⟨hP1, hK1, hD1⟩ := hB
        rw [ht] at hP1
        obtain ⟨hP, hD⟩ := cl_put (w1 := (wd_c_X9_refuseHere h1 h1_0 h1_f1 x_2 x_28)) (nw := (wd_c_X4_readUnit_6 h1 h1_0 h1_f1 x_2 x_28 h1_0 h1_0k h1_0c h0 h0_0 j24_h0_f1 h0_2 h0_0 h0_0k j24_h0_0c)) hP hD [0] [4, 1, 2, 3] 4 rfl hqc (by decide +kernel) rfl hk1 hFc hP1 hD1
        generalize H1 = H at hP hS ⊢
        as_aux_lemma =>
        rcases hw with ⟨h_29, h_30⟩
        have h_30 : x_28 = _ := h_30
        replace hEX := hEX.trans (exc1_eq h_30)
        exact hU _ _ _ (J62 x_2 x_28 j24_h0_f1 j24_h0_0c g_h0_f1 (RG_w h_9 (by decide +kernel)) g_h1_f2 g_h1_f3 g_j24_h0_f1 (RG_w h_8 (by decide +kernel)) (RG_w h_29 (by decide +kernel)) hEX _ _ _ hP hD hS (lv_sub hl [] rfl))
      · have h_25 : r_20 = _ := h_25
        replace hEX := hEX.trans (exc1_eq h_25)
        replace hEX := hEX.trans (if_neg (fun q9 : r_20 = 0 => absurd ((show r_20 = 1 from h_23).symm.trans q9) (by decide +kernel)))
        rw [h_23]
        refine lv_if_eq (tgt := 58) hx hb dX4_readUnit_35 rfl (fun c_31 => absurd c_31 (by decide +kernel)) (fun c_31 => ?_)
        refine lv_aload_n hx hb dX4_readUnit_38 rfl (lv_at hl 2 rfl) ?_
        obtain ⟨hPc, hDc, hFc, hqc⟩ := cl_cut (wc := (wd_c_X9_skip h1 h1_0 h1_f1 x_2 j24_h1_f3)) hP hD hS hA [0] (by decide +kernel) rfl
        have hKc := hK.sub (tys' := []) [] rfl
        have hrv := va_recv hKc hPc (ci := 9) (q0 := 0) rfl rfl
        refine va_callv (va_runV (As := []) (rest := []) ⟨hx, hb, hml, hown, hts⟩ (c_X9_skip l dC dI H.size h1 h1_0 h1_f1 x_2 j24_h1_f3 (RG_w h_9 (by decide +kernel)) h_8 g_j24_h1_f3) (cwV 0 hts gf_c_X4_readUnit_6_c_X9_skip rfl rfl rfl mdV_X9_skip ⟨Nat.le_of_ble_eq_true rfl, Nat.le_of_ble_eq_true rfl⟩) ⟨fun a U g mk q => by obtain ⟨q0, q1, qP, qK, qD⟩ := q; exact ⟨q0, q1, qP, va_K.moved (u := U) (U := U.calling g mk a) (Vm.Alike.refl U.vm) qK, qD⟩, hrv, fun U hU hW => ⟨rfl, by rw [hU], by rw [hU]; exact hPc, va_K.moved hW.alike hKc, hDc.weaken (fun _ _ _ _ => trivial)⟩⟩ rfl rfl hl.1 rfl (lv_room (Nat.le_of_ble_eq_true rfl)) dX4_readUnit_39 ⟨Nat.le_of_ble_eq_true rfl, Nat.le_of_ble_eq_true rfl⟩) hS (fun q _ h => hFc q h) hFc (fun x_33 t H1 locs ht hvm hw hB hz1 hk1 hS => ?_)
        as_aux_lemma =>
        obtain ⟨hP1, hK1, hD1⟩ := hB
        rw [ht] at hP1
        obtain ⟨hP, hD⟩ := cl_put (w1 := (wd_c_X9_skip h1 h1_0 h1_f1 x_33 j24_h1_f3)) (nw := (wd_c_X4_readUnit_6 h1 h1_0 h1_f1 x_33 j24_h1_f3 h1_0 h1_0k h1_0c h0 h0_0 j24_h0_f1 h0_2 h0_0 h0_0k j24_h0_0c)) hP hD [0] [4, 1, 2, 3] 4 rfl hqc (by decide +kernel) rfl hk1 hFc hP1 hD1
        generalize H1 = H at hP hS ⊢
        as_aux_lemma =>
        rcases hw with ⟨h_34, h_35, h_36, h_37⟩
        have h_37 : x_33 = _ := h_37
        replace hEX := hEX.trans (exc1_eq h_37)
        refine lv_aload_n hx hb dX4_readUnit_42 rfl (lv_at hl 1 rfl) ?_
        refine lv_aload_n hx hb dX4_readUnit_43 rfl (lv_at hl 2 rfl) ?_
        refine lv_iload_n hx hb dX4_readUnit_44 rfl (lv_at hl 3 rfl) ?_
        obtain ⟨hPc, hDc, hFc, hqc⟩ := cl_cut (wc := (wd_c_X4_readSum_5 h1 h1_0 h1_f1 x_33 j24_h1_f3 h1_0 h1_0k h1_0c h0 h0_0 j24_h0_f1 h0_2 h0_0 h0_0k j24_h0_0c)) hP hD hS hA [0, 1, 2, 3] (by decide +kernel) rfl
        have hKc := hK.sub (tys' := [(h1_0k, .int), (h0_0k, .int)]) [0, 1] rfl
        have hrv := va_recv hKc hPc (ci := 4) (q0 := 2) rfl rfl
        refine va_callv (va_runV (As := [.ref h1, .int 5]) (rest := []) ⟨hx, hb, hml, hown, hts⟩ (c_X4_readSum_5 l dC dI H.size h0 h1 h1_0 h1_f1 x_33 j24_h1_f3 h1_0k h1_0c h0_0 j24_h0_f1 h0_2 h0_0k j24_h0_0c ts4 tv4 (RG_w h_9 (by decide +kernel)) (RG_w h_34 (by decide +kernel)) g_j24_h1_f3 a_h1_0c g_j24_h0_f1) (cwV 2 hts gf_c_X4_readUnit_6_c_X4_readSum_5 rfl rfl rfl mdV_X4_readSum ⟨Nat.le_of_ble_eq_true rfl, Nat.le_of_ble_eq_true rfl⟩) ⟨fun a U g mk q => by obtain ⟨q0, q1, qP, qK, qD, qE0, qE1, qE2, qE3, qE4, qE5⟩ := q; exact ⟨q0, q1, qP, va_K.moved (u := U) (U := U.calling g mk a) (Vm.Alike.refl U.vm) qK, qD, vk_R.same rfl qE0, va_Z.moved (u := U) (U := U.calling g mk a) (Vm.Alike.refl U.vm) qE1, va_OF.moved (u := U) (U := U.calling g mk a) (Vm.Alike.refl U.vm) qE2, va_O.moved (u := U) (U := U.calling g mk a) (Vm.Alike.refl U.vm) qE3, va_OF.moved (u := U) (U := U.calling g mk a) (Vm.Alike.refl U.vm) qE4, va_T.moved (u := U) (U := U.calling g mk a) (Vm.Alike.refl U.vm) qE5⟩, hrv, fun U hU hW => ⟨rfl, by rw [hU], by rw [hU]; exact hPc, va_K.moved hW.alike hKc, hDc.weaken (fun _ _ _ _ => trivial), vk_R.warm hW hE_32, va_Z.moved hW.alike (by rw [hU]; exact (hE_10.kept hS.2.1).narrow hFc), va_OF.moved hW.alike (by rw [hU]; exact (hE_34.kept hS.2.1).narrow hFc), va_O.moved hW.alike (by rw [hU]; exact (hE_33.kept hS.2.1).narrow hFc), va_OF.moved hW.alike (by rw [hU]; exact (hE_35.kept hS.2.1).narrow hFc), va_T.moved hW.alike (by rw [hU]; exact (hE_36.kept hS.2.1).narrow hFc)⟩⟩ rfl rfl hl.1 rfl (lv_room (Nat.le_of_ble_eq_true rfl)) dX4_readUnit_45 ⟨Nat.le_of_ble_eq_true rfl, Nat.le_of_ble_eq_true rfl⟩) hS (fun q _ h => hFc q h) hFc (fun u t H1 locs ht hvm hw hB hz1 hk1 hS => ?_)
        obtain ⟨x_39, x_40, x_41, w_42⟩ := u
        obtain ⟨hP1, hK1, hD1⟩ := hB
        rw [ht] at hP1
        obtain ⟨hP, hD⟩ := cl_put (w1 := (wd_c_X4_readSum_5 h1 h1_0 h1_f1 x_39 x_40 h1_0 h1_0k h1_0c h0 h0_0 x_41 h0_2 h0_0 h0_0k w_42)) (nw := (wd_c_X4_readUnit_6 h1 h1_0 h1_f1 x_39 x_40 h1_0 h1_0k h1_0c h0 h0_0 x_41 h0_2 h0_0 h0_0k w_42)) hP hD [0, 1, 2, 3] [4, 5, 6, 7] 4 rfl hqc (by decide +kernel) rfl hk1 hFc hP1 hD1
        generalize H1 = H at hP hS ⊢
        as_aux_lemma =>
        rcases hw with ⟨h_43, h_44, h_45, h_46⟩
        have h_46 : (x_39, x_40, x_41, w_42) = _ := h_46
        replace hEX := hEX.trans (exc4_eq h_46)
        refine lv_aload_n hx hb dX4_readUnit_48 rfl (lv_at hl 1 rfl) ?_
        refine lv_iload hx hb dX4_readUnit_49 (lv_at hl 0 rfl) ?_
        refine lv_ineg hx hb dX4_readUnit_51 ?_
        refine lv_topi (fun x_47 ex_47 => ?_)
        replace hEX := hEX.trans (exl_eq ex_47)
        have g_48 : RG x_47 (-62) (-60) := RG_neg ex_47 h_24 (by decide +kernel)
        obtain ⟨hPc, hDc, hFc, hqc⟩ := cl_cut (wc := (wd_c_X4_emit h0 h0_0 x_41 h0_2 h0_0 h0_0k w_42)) hP hD hS hA [2, 3] (by decide +kernel) rfl
        have hKc := hK.sub (tys' := [(h0_0k, .int)]) [1] rfl
        have hrv := va_recv hKc hPc (ci := 4) (q0 := 0) rfl rfl
        refine va_callv (va_runV (As := [.int x_47]) (rest := []) ⟨hx, hb, hml, hown, hts⟩ (c_X4_emit l dC dI H.size h0 x_47 h0_0 x_41 h0_2 h0_0k w_42 h_45) (cwV 1 hts gf_c_X4_readUnit_6_c_X4_emit rfl rfl rfl mdV_X4_emit ⟨Nat.le_of_ble_eq_true rfl, Nat.le_of_ble_eq_true rfl⟩) ⟨fun a U g mk q => by obtain ⟨q0, q1, qP, qK, qD⟩ := q; exact ⟨q0, q1, qP, va_K.moved (u := U) (U := U.calling g mk a) (Vm.Alike.refl U.vm) qK, qD⟩, hrv, fun U hU hW => ⟨rfl, by rw [hU], by rw [hU]; exact hPc, va_K.moved hW.alike hKc, hDc.weaken (fun _ _ _ _ => trivial)⟩⟩ rfl rfl hl.1 rfl (lv_room (Nat.le_of_ble_eq_true rfl)) dX4_readUnit_52 ⟨Nat.le_of_ble_eq_true rfl, Nat.le_of_ble_eq_true rfl⟩) hS (fun q _ h => hFc q h) hFc (fun u t H1 locs ht hvm hw hB hz1 hk1 hS => ?_)
        obtain ⟨x_50, w_51⟩ := u
        obtain ⟨hP1, hK1, hD1⟩ := hB
        rw [ht] at hP1
        obtain ⟨hP, hD⟩ := cl_put (w1 := (wd_c_X4_emit h0 h0_0 x_50 h0_2 h0_0 h0_0k w_51)) (nw := (wd_c_X4_readUnit_6 h1 h1_0 h1_f1 x_39 x_40 h1_0 h1_0k h1_0c h0 h0_0 x_50 h0_2 h0_0 h0_0k w_51)) hP hD [2, 3] [0, 1, 4, 5] 4 rfl hqc (by decide +kernel) rfl hk1 hFc hP1 hD1
        generalize H1 = H at hP hS ⊢
        as_aux_lemma =>
        rcases hw with ⟨h_52, h_53⟩
        have h_53 : (x_50, w_51) = _ := h_53
        replace hEX := hEX.trans (exc2_eq h_53)
        refine lv_goto (tgt := 62) hx hb dX4_readUnit_55 rfl ?_
        exact hU _ _ _ (J62 x_39 x_40 x_50 w_51 g_h0_f1 (RG_w h_9 (by decide +kernel)) g_h1_f2 g_h1_f3 (RG_w h_52 (by decide +kernel)) h_43 h_44 hEX _ _ _ hP hD hS (lv_sub hl [] rfl))
  have J14 : ∀ (j14_h1_f2 : Int32) (g_h0_f1 : RG h0_f1 0 240) (g_h1_f1 : RG h1_f1 0 240) (g_h1_f2 : RG h1_f2 0 240) (g_h1_f3 : RG h1_f3 (-1) 240) (g_j14_h1_f2 : RG j14_h1_f2 0 240) (hEX : RES = fx_c_X4_readUnit_6_p14 h1_f1 h1_f3 h1_0c h0_f1 h0_0c j14_h1_f2) (H : Heap) (locs : List Loc) (ls : Array Slot) (hP : va_P (dC, dI) vwCl (wd_c_X4_readUnit_6 h1 h1_0 h1_f1 j14_h1_f2 h1_f3 h1_0 h1_0k h1_0c h0 h0_0 h0_f1 h0_2 h0_0 h0_0k h0_0c) H) (hD : va_D A (wd_c_X4_readUnit_6 h1 h1_0 h1_f1 j14_h1_f2 h1_f3 h1_0 h1_0k h1_0c h0 h0_0 h0_f1 h0_2 h0_0 h0_0k h0_0c)) (hS : va_S A s.heap H locs) (hl : lv_has ls 5 [(0, .ref h0), (1, .ref h1), (2, .int 5), (3, .int 0)]), G H locs (F0 m 14 ls []) := by
    as_aux_lemma =>
    intro j14_h1_f2 g_h0_f1 g_h1_f1 g_h1_f2 g_h1_f3 g_j14_h1_f2 hEX H locs ls hP hD hS hl
    refine hG _ _ _ ?_
    refine lv_iload_n hx hb dX4_readUnit_14 rfl (lv_at hl 3 rfl) ?_
    refine lv_if_ne (tgt := 24) hx hb dX4_readUnit_15 rfl (fun c_54 => absurd c_54 (by decide +kernel)) (fun c_54 => ?_)
    refine lv_aload_n hx hb dX4_readUnit_18 rfl (lv_at hl 0 rfl) ?_
    refine lv_aload_n hx hb dX4_readUnit_19 rfl (lv_at hl 1 rfl) ?_
    refine lv_iload_n hx hb dX4_readUnit_20 rfl (lv_at hl 2 rfl) ?_
    obtain ⟨hPc, hDc, hFc, hqc⟩ := cl_cut (wc := (wd_c_X4_readSum_5 h1 h1_0 h1_f1 j14_h1_f2 h1_f3 h1_0 h1_0k h1_0c h0 h0_0 h0_f1 h0_2 h0_0 h0_0k h0_0c)) hP hD hS hA [0, 1, 2, 3] (by decide +kernel) rfl
    have hKc := hK.sub (tys' := [(h1_0k, .int), (h0_0k, .int)]) [0, 1] rfl
    have hrv := va_recv hKc hPc (ci := 4) (q0 := 2) rfl rfl
    refine va_callv (va_runV (As := [.ref h1, .int 5]) (rest := []) ⟨hx, hb, hml, hown, hts⟩ (c_X4_readSum_5 l dC dI H.size h0 h1 h1_0 h1_f1 j14_h1_f2 h1_f3 h1_0k h1_0c h0_0 h0_f1 h0_2 h0_0k h0_0c ts4 tv4 g_h1_f1 g_j14_h1_f2 g_h1_f3 a_h1_0c g_h0_f1) (cwV 2 hts gf_c_X4_readUnit_6_c_X4_readSum_5 rfl rfl rfl mdV_X4_readSum ⟨Nat.le_of_ble_eq_true rfl, Nat.le_of_ble_eq_true rfl⟩) ⟨fun a U g mk q => by obtain ⟨q0, q1, qP, qK, qD, qE0, qE1, qE2, qE3, qE4, qE5⟩ := q; exact ⟨q0, q1, qP, va_K.moved (u := U) (U := U.calling g mk a) (Vm.Alike.refl U.vm) qK, qD, vk_R.same rfl qE0, va_Z.moved (u := U) (U := U.calling g mk a) (Vm.Alike.refl U.vm) qE1, va_OF.moved (u := U) (U := U.calling g mk a) (Vm.Alike.refl U.vm) qE2, va_O.moved (u := U) (U := U.calling g mk a) (Vm.Alike.refl U.vm) qE3, va_OF.moved (u := U) (U := U.calling g mk a) (Vm.Alike.refl U.vm) qE4, va_T.moved (u := U) (U := U.calling g mk a) (Vm.Alike.refl U.vm) qE5⟩, hrv, fun U hU hW => ⟨rfl, by rw [hU], by rw [hU]; exact hPc, va_K.moved hW.alike hKc, hDc.weaken (fun _ _ _ _ => trivial), vk_R.warm hW hE_32, va_Z.moved hW.alike (by rw [hU]; exact (hE_10.kept hS.2.1).narrow hFc), va_OF.moved hW.alike (by rw [hU]; exact (hE_34.kept hS.2.1).narrow hFc), va_O.moved hW.alike (by rw [hU]; exact (hE_33.kept hS.2.1).narrow hFc), va_OF.moved hW.alike (by rw [hU]; exact (hE_35.kept hS.2.1).narrow hFc), va_T.moved hW.alike (by rw [hU]; exact (hE_36.kept hS.2.1).narrow hFc)⟩⟩ rfl rfl hl.1 rfl (lv_room (Nat.le_of_ble_eq_true rfl)) dX4_readUnit_21 ⟨Nat.le_of_ble_eq_true rfl, Nat.le_of_ble_eq_true rfl⟩) hS (fun q _ h => hFc q h) hFc (fun u t H1 locs ht hvm hw hB hz1 hk1 hS => ?_)
    obtain ⟨x_56, x_57, x_58, w_59⟩ := u
    obtain ⟨hP1, hK1, hD1⟩ := hB
    rw [ht] at hP1
    obtain ⟨hP, hD⟩ := cl_put (w1 := (wd_c_X4_readSum_5 h1 h1_0 h1_f1 x_56 x_57 h1_0 h1_0k h1_0c h0 h0_0 x_58 h0_2 h0_0 h0_0k w_59)) (nw := (wd_c_X4_readUnit_6 h1 h1_0 h1_f1 x_56 x_57 h1_0 h1_0k h1_0c h0 h0_0 x_58 h0_2 h0_0 h0_0k w_59)) hP hD [0, 1, 2, 3] [4, 5, 6, 7] 4 rfl hqc (by decide +kernel) rfl hk1 hFc hP1 hD1
    generalize H1 = H at hP hS ⊢
    as_aux_lemma =>
    rcases hw with ⟨h_60, h_61, h_62, h_63⟩
    have h_63 : (x_56, x_57, x_58, w_59) = _ := h_63
    replace hEX := hEX.trans (exc4_eq h_63)
    exact hU _ _ _ (J24 x_56 x_57 x_58 w_59 g_h0_f1 g_h1_f1 g_h1_f2 g_h1_f3 h_62 h_60 h_61 hEX _ _ _ hP hD hS (lv_sub hl [0, 1, 2] rfl))
  refine hG _ _ _ ?_
  refine lv_iload_n hx hb dX4_readUnit_0 rfl (lv_at hl 3 rfl) ?_
  refine lv_if_ne (tgt := 14) hx hb dX4_readUnit_1 rfl (fun c_64 => absurd c_64 (by decide +kernel)) (fun c_64 => ?_)
  refine lv_aload_n hx hb dX4_readUnit_4 rfl (lv_at hl 1 rfl) ?_
  obtain ⟨hPc, hDc, hFc, hqc⟩ := cl_cut (wc := (wd_c_X9_peek h1 h1_0 h1_f1 h1_f2 h1_f3 h1_0 h1_0k h1_0c)) hP hD hS hA [0, 1] (by decide +kernel) rfl
  have hKc := hK.sub (tys' := [(h1_0k, .int)]) [0] rfl
  have hrv := va_recv hKc hPc (ci := 9) (q0 := 0) rfl rfl
  refine va_calli (va_runV (As := []) (rest := []) ⟨hx, hb, hml, hown, hts⟩ (c_X9_peek l dC dI H.size h1 h1_0 h1_f1 h1_f2 h1_f3 h1_0k h1_0c g_h1_f1 g_h1_f2 g_h1_f3 a_h1_0c) (cwV 0 hts gf_c_X4_readUnit_6_c_X9_peek rfl rfl rfl mdV_X9_peek ⟨Nat.le_of_ble_eq_true rfl, Nat.le_of_ble_eq_true rfl⟩) ⟨fun a U g mk q => by obtain ⟨q0, q1, qP, qK, qD⟩ := q; exact ⟨q0, q1, qP, va_K.moved (u := U) (U := U.calling g mk a) (Vm.Alike.refl U.vm) qK, qD⟩, hrv, fun U hU hW => ⟨rfl, by rw [hU], by rw [hU]; exact hPc, va_K.moved hW.alike hKc, hDc.weaken (fun _ _ _ _ => trivial)⟩⟩ rfl rfl hl.1 rfl (lv_room (Nat.le_of_ble_eq_true rfl)) dX4_readUnit_5 ⟨Nat.le_of_ble_eq_true rfl, Nat.le_of_ble_eq_true rfl⟩) hS (fun q _ h => hFc q h) hFc (fun r_65 x_66 t H1 locs ht hvm hw hB hz1 hk1 hS => ?_)
  obtain ⟨hP1, hK1, hD1⟩ := hB
  rw [ht] at hP1
  obtain ⟨hP, hD⟩ := cl_put (w1 := (wd_c_X9_peek h1 h1_0 h1_f1 x_66 h1_f3 h1_0 h1_0k h1_0c)) (nw := (wd_c_X4_readUnit_6 h1 h1_0 h1_f1 x_66 h1_f3 h1_0 h1_0k h1_0c h0 h0_0 h0_f1 h0_2 h0_0 h0_0k h0_0c)) hP hD [0, 1] [4, 5, 2, 3] 4 rfl hqc (by decide +kernel) rfl hk1 hFc hP1 hD1
  generalize H1 = H at hP hS ⊢
  as_aux_lemma =>
  rcases hw with ⟨h_67, h_68, h_69, h_70⟩ | ⟨h_71, h_72, h_73, h_74, h_75⟩
  · have h_70 : (r_65, x_66) = _ := h_70
    replace hEX := hEX.trans (exc2_eq h_70)
    replace hEX := hEX.trans (if_pos (show r_65 = (-1) from h_67))
    rw [h_67]
    obtain ⟨hPc, hDc, hFc, hqc⟩ := cl_cut (wc := []) hP hD hS hA [] (by decide +kernel) rfl
    have hKc := hK.sub (tys' := []) [] rfl
    refine va_calli (va_runS (As := [.int (-1)]) (rest := []) ⟨hx, hb, hml, hown, hts⟩ (c_X4_startsUnit l dC dI H.size (-1) (RG_k (-1) (-1) rfl)) (va_cwS 1 hts gf_c_X4_readUnit_6_c_X4_startsUnit rfl rfl rfl md_X4_startsUnit ⟨Nat.le_of_ble_eq_true rfl, Nat.le_of_ble_eq_true rfl⟩) ⟨fun a U g mk q => by obtain ⟨q0, q1, qP, qK, qD⟩ := q; exact ⟨q0, q1, qP, va_K.moved (u := U) (U := U.calling g mk a) (Vm.Alike.refl U.vm) qK, qD⟩, fun U hU hW => ⟨rfl, by rw [hU], by rw [hU]; exact hPc, va_K.moved hW.alike hKc, hDc.weaken (fun _ _ _ _ => trivial)⟩⟩ rfl rfl hl.1 rfl (lv_room (Nat.le_of_ble_eq_true rfl)) dX4_readUnit_8 ⟨Nat.le_of_ble_eq_true rfl, Nat.le_of_ble_eq_true rfl⟩) hS (fun q _ h => hFc q h) hFc (fun r_76 u t H1 locs ht hvm hw hB hz1 hk1 hS => ?_)
    obtain ⟨hP1, hK1, hD1⟩ := hB
    rw [ht] at hP1
    have hP := bv_still hP hk1
    generalize H1 = H at hP hS ⊢
    as_aux_lemma =>
    rcases hw with ⟨h_77, h_78⟩
    have h_78 : r_76 = _ := h_78
    replace hEX := hEX.trans (exc1_eq h_78)
    rw [h_77]
    refine lv_if_ne (tgt := 65) hx hb dX4_readUnit_11 rfl (fun c_79 => absurd c_79 (by decide +kernel)) (fun c_79 => ?_)
    exact hU _ _ _ (J14 x_66 g_h0_f1 g_h1_f1 g_h1_f2 g_h1_f3 h_68 hEX _ _ _ hP hD hS (lv_sub hl [0, 1, 2, 3] rfl))
  · have h_75 : (r_65, x_66) = _ := h_75
    replace hEX := hEX.trans (exc2_eq h_75)
    replace hEX := hEX.trans (if_neg (RG_neq (x := r_65) (c := (-1)) (show RG r_65 0 255 from h_71) (by decide +kernel)))
    obtain ⟨hPc, hDc, hFc, hqc⟩ := cl_cut (wc := []) hP hD hS hA [] (by decide +kernel) rfl
    have hKc := hK.sub (tys' := []) [] rfl
    refine va_calli (va_runS (As := [.int r_65]) (rest := []) ⟨hx, hb, hml, hown, hts⟩ (c_X4_startsUnit_1 l dC dI H.size r_65 h_71) (va_cwS 1 hts gf_c_X4_readUnit_6_c_X4_startsUnit_1 rfl rfl rfl md_X4_startsUnit ⟨Nat.le_of_ble_eq_true rfl, Nat.le_of_ble_eq_true rfl⟩) ⟨fun a U g mk q => by obtain ⟨q0, q1, qP, qK, qD⟩ := q; exact ⟨q0, q1, qP, va_K.moved (u := U) (U := U.calling g mk a) (Vm.Alike.refl U.vm) qK, qD⟩, fun U hU hW => ⟨rfl, by rw [hU], by rw [hU]; exact hPc, va_K.moved hW.alike hKc, hDc.weaken (fun _ _ _ _ => trivial)⟩⟩ rfl rfl hl.1 rfl (lv_room (Nat.le_of_ble_eq_true rfl)) dX4_readUnit_8 ⟨Nat.le_of_ble_eq_true rfl, Nat.le_of_ble_eq_true rfl⟩) hS (fun q _ h => hFc q h) hFc (fun r_80 u t H1 locs ht hvm hw hB hz1 hk1 hS => ?_)
    obtain ⟨hP1, hK1, hD1⟩ := hB
    rw [ht] at hP1
    have hP := bv_still hP hk1
    generalize H1 = H at hP hS ⊢
    as_aux_lemma =>
    rcases hw with ⟨h_81, h_82⟩ | ⟨h_83, h_84, h_85⟩
    · have h_82 : r_80 = _ := h_82
      replace hEX := hEX.trans (exc1_eq h_82)
      replace hEX := hEX.trans (if_pos (show r_80 = 0 from h_81))
      rw [h_81]
      refine lv_if_ne (tgt := 65) hx hb dX4_readUnit_11 rfl (fun c_86 => absurd c_86 (by decide +kernel)) (fun c_86 => ?_)
      exact hU _ _ _ (J14 x_66 g_h0_f1 (RG_w h_73 (by decide +kernel)) g_h1_f2 g_h1_f3 (RG_w h_72 (by decide +kernel)) hEX _ _ _ hP hD hS (lv_sub hl [0, 1, 2, 3] rfl))
    · have h_85 : r_80 = _ := h_85
      replace hEX := hEX.trans (exc1_eq h_85)
      replace hEX := hEX.trans (if_neg (fun q9 : r_80 = 0 => absurd ((show r_80 = 1 from h_83).symm.trans q9) (by decide +kernel)))
      rw [h_83]
      refine lv_if_ne (tgt := 65) hx hb dX4_readUnit_11 rfl (fun c_87 => ?_) (fun c_87 => absurd c_87 (by decide +kernel))
      refine lv_iload_n hx hb dX4_readUnit_65 rfl (lv_at hl 2 rfl) ?_
      refine lv_bipush (v := 6) hx hb dX4_readUnit_66 kc_bipush_6 ?_
      as_aux_lemma =>
      refine lv_icmp_lt (tgt := 78) hx hb dX4_readUnit_68 rfl (fun c_88 => ?_) (fun c_88 => absurd c_88 (by decide +kernel))
      refine lv_aload_n hx hb dX4_readUnit_78 rfl (lv_at hl 1 rfl) ?_
      refine lv_bipush (v := 33) hx hb dX4_readUnit_79 kc_bipush_33 ?_
      obtain ⟨hPc, hDc, hFc, hqc⟩ := cl_cut (wc := (wd_c_X9_take h1 h1_0 h1_f1 x_66 h1_f3 h1_0 h1_0k h1_0c)) hP hD hS hA [0, 1] (by decide +kernel) rfl
      have hKc := hK.sub (tys' := [(h1_0k, .int)]) [0] rfl
      have hrv := va_recv hKc hPc (ci := 9) (q0 := 0) rfl rfl
      refine va_calli (va_runV (As := [.int 33]) (rest := []) ⟨hx, hb, hml, hown, hts⟩ (c_X9_take l dC dI H.size h1 33 h1_0 h1_f1 x_66 h1_f3 h1_0k h1_0c (RG_w (RG_k 33 33 rfl) (by decide +kernel)) (RG_w h_73 (by decide +kernel)) (RG_w h_72 (by decide +kernel)) g_h1_f3 a_h1_0c) (cwV 1 hts gf_c_X4_readUnit_6_c_X9_take rfl rfl rfl mdV_X9_take ⟨Nat.le_of_ble_eq_true rfl, Nat.le_of_ble_eq_true rfl⟩) ⟨fun a U g mk q => by obtain ⟨q0, q1, qP, qK, qD⟩ := q; exact ⟨q0, q1, qP, va_K.moved (u := U) (U := U.calling g mk a) (Vm.Alike.refl U.vm) qK, qD⟩, hrv, fun U hU hW => ⟨rfl, by rw [hU], by rw [hU]; exact hPc, va_K.moved hW.alike hKc, hDc.weaken (fun _ _ _ _ => trivial)⟩⟩ rfl rfl hl.1 rfl (lv_room (Nat.le_of_ble_eq_true rfl)) dX4_readUnit_81 ⟨Nat.le_of_ble_eq_true rfl, Nat.le_of_ble_eq_true rfl⟩) hS (fun q _ h => hFc q h) hFc (fun r_89 x_90 t H1 locs ht hvm hw hB hz1 hk1 hS => ?_)
      obtain ⟨hP1, hK1, hD1⟩ := hB
      rw [ht] at hP1
      obtain ⟨hP, hD⟩ := cl_put (w1 := (wd_c_X9_take h1 h1_0 h1_f1 x_90 h1_f3 h1_0 h1_0k h1_0c)) (nw := (wd_c_X4_readUnit_6 h1 h1_0 h1_f1 x_90 h1_f3 h1_0 h1_0k h1_0c h0 h0_0 h0_f1 h0_2 h0_0 h0_0k h0_0c)) hP hD [0, 1] [4, 5, 2, 3] 4 rfl hqc (by decide +kernel) rfl hk1 hFc hP1 hD1
      generalize H1 = H at hP hS ⊢
      as_aux_lemma =>
      rcases hw with ⟨h_91, h_92, h_93, h_94⟩ | ⟨h_95, h_96, h_97, h_98, h_99, h_100⟩
      · have h_94 : (r_89, x_90) = _ := h_94
        replace hEX := hEX.trans (exc2_eq h_94)
        replace hEX := hEX.trans (if_pos (show r_89 = 0 from h_91))
        rw [h_91]
        refine lv_if_eq (tgt := 105) hx hb dX4_readUnit_84 rfl (fun c_101 => ?_) (fun c_101 => absurd c_101 (by decide +kernel))
        refine lv_aload_n hx hb dX4_readUnit_105 rfl (lv_at hl 1 rfl) ?_
        refine lv_bipush (v := 40) hx hb dX4_readUnit_106 kc_bipush_40 ?_
        obtain ⟨hPc, hDc, hFc, hqc⟩ := cl_cut (wc := (wd_c_X9_expect_1 h1 h1_0 h1_f1 x_90 h1_f3 h1_0 h1_0k h1_0c)) hP hD hS hA [0, 1] (by decide +kernel) rfl
        have hKc := hK.sub (tys' := [(h1_0k, .int)]) [0] rfl
        have hrv := va_recv hKc hPc (ci := 9) (q0 := 0) rfl rfl
        refine va_callv (va_runV (As := [.int 40]) (rest := []) ⟨hx, hb, hml, hown, hts⟩ (c_X9_expect_1 l dC dI H.size h1 40 h1_0 h1_f1 x_90 h1_f3 h1_0k h1_0c (RG_w (RG_k 40 40 rfl) (by decide +kernel)) (RG_w h_73 (by decide +kernel)) h_92 g_h1_f3 a_h1_0c) (cwV 1 hts gf_c_X4_readUnit_6_c_X9_expect_1 rfl rfl rfl mdV_X9_expect ⟨Nat.le_of_ble_eq_true rfl, Nat.le_of_ble_eq_true rfl⟩) ⟨fun a U g mk q => by obtain ⟨q0, q1, qP, qK, qD⟩ := q; exact ⟨q0, q1, qP, va_K.moved (u := U) (U := U.calling g mk a) (Vm.Alike.refl U.vm) qK, qD⟩, hrv, fun U hU hW => ⟨rfl, by rw [hU], by rw [hU]; exact hPc, va_K.moved hW.alike hKc, hDc.weaken (fun _ _ _ _ => trivial)⟩⟩ rfl rfl hl.1 rfl (lv_room (Nat.le_of_ble_eq_true rfl)) dX4_readUnit_108 ⟨Nat.le_of_ble_eq_true rfl, Nat.le_of_ble_eq_true rfl⟩) hS (fun q _ h => hFc q h) hFc (fun u t H1 locs ht hvm hw hB hz1 hk1 hS => ?_)
        obtain ⟨x_103, x_104⟩ := u
        obtain ⟨hP1, hK1, hD1⟩ := hB
        rw [ht] at hP1
        obtain ⟨hP, hD⟩ := cl_put (w1 := (wd_c_X9_expect_1 h1 h1_0 h1_f1 x_103 x_104 h1_0 h1_0k h1_0c)) (nw := (wd_c_X4_readUnit_6 h1 h1_0 h1_f1 x_103 x_104 h1_0 h1_0k h1_0c h0 h0_0 h0_f1 h0_2 h0_0 h0_0k h0_0c)) hP hD [0, 1] [4, 5, 2, 3] 4 rfl hqc (by decide +kernel) rfl hk1 hFc hP1 hD1
        generalize H1 = H at hP hS ⊢
        as_aux_lemma =>
        rcases hw with ⟨h_105, h_106, h_107, h_108⟩
        have h_108 : (x_103, x_104) = _ := h_108
        replace hEX := hEX.trans (exc2_eq h_108)
        refine lv_aload_n hx hb dX4_readUnit_111 rfl (lv_at hl 0 rfl) ?_
        refine lv_aload_n hx hb dX4_readUnit_112 rfl (lv_at hl 1 rfl) ?_
        refine lv_iload_n hx hb dX4_readUnit_113 rfl (lv_at hl 2 rfl) ?_
        refine lv_iconst (v := 1) hx hb dX4_readUnit_114 kc_iconst_1 ?_
        refine lv_iadd hx hb dX4_readUnit_115 ?_
        refine lv_topi (fun x_109 ex_109 => ?_)
        obtain rfl : x_109 = 6 := ex_109.trans (by decide +kernel)
        refine lv_iconst (v := 0) hx hb dX4_readUnit_116 kc_iconst_0 ?_
        obtain ⟨hPc, hDc, hFc, hqc⟩ := cl_cut (wc := (wd_c_X4_readCondition_6 h1 h1_0 h1_f1 x_103 x_104 h1_0 h1_0k h1_0c h0 h0_0 h0_f1 h0_2 h0_0 h0_0k h0_0c)) hP hD hS hA [0, 1, 2, 3] (by decide +kernel) rfl
        have hKc := hK.sub (tys' := [(h1_0k, .int), (h0_0k, .int)]) [0, 1] rfl
        have hrv := va_recv hKc hPc (ci := 4) (q0 := 2) rfl rfl
        refine va_callv (va_runV (As := [.ref h1, .int 6, .int 0]) (rest := []) ⟨hx, hb, hml, hown, hts⟩ (c_X4_readCondition_6 l dC dI H.size h0 h1 h1_0 h1_f1 x_103 x_104 h1_0k h1_0c h0_0 h0_f1 h0_2 h0_0k h0_0c ts4 tv4 (RG_w h_73 (by decide +kernel)) h_105 h_106 a_h1_0c g_h0_f1) (cwV 3 hts gf_c_X4_readUnit_6_c_X4_readCondition_6 rfl rfl rfl mdV_X4_readCondition ⟨Nat.le_of_ble_eq_true rfl, Nat.le_of_ble_eq_true rfl⟩) ⟨fun a U g mk q => by obtain ⟨q0, q1, qP, qK, qD, qE0, qE1, qE2, qE3, qE4, qE5⟩ := q; exact ⟨q0, q1, qP, va_K.moved (u := U) (U := U.calling g mk a) (Vm.Alike.refl U.vm) qK, qD, vk_R.same rfl qE0, va_Z.moved (u := U) (U := U.calling g mk a) (Vm.Alike.refl U.vm) qE1, va_OF.moved (u := U) (U := U.calling g mk a) (Vm.Alike.refl U.vm) qE2, va_O.moved (u := U) (U := U.calling g mk a) (Vm.Alike.refl U.vm) qE3, va_OF.moved (u := U) (U := U.calling g mk a) (Vm.Alike.refl U.vm) qE4, va_T.moved (u := U) (U := U.calling g mk a) (Vm.Alike.refl U.vm) qE5⟩, hrv, fun U hU hW => ⟨rfl, by rw [hU], by rw [hU]; exact hPc, va_K.moved hW.alike hKc, hDc.weaken (fun _ _ _ _ => trivial), vk_R.warm hW hE_32, va_Z.moved hW.alike (by rw [hU]; exact (hE_10.kept hS.2.1).narrow hFc), va_OF.moved hW.alike (by rw [hU]; exact (hE_34.kept hS.2.1).narrow hFc), va_O.moved hW.alike (by rw [hU]; exact (hE_33.kept hS.2.1).narrow hFc), va_OF.moved hW.alike (by rw [hU]; exact (hE_35.kept hS.2.1).narrow hFc), va_T.moved hW.alike (by rw [hU]; exact (hE_36.kept hS.2.1).narrow hFc)⟩⟩ rfl rfl hl.1 rfl (lv_room (Nat.le_of_ble_eq_true rfl)) dX4_readUnit_117 ⟨Nat.le_of_ble_eq_true rfl, Nat.le_of_ble_eq_true rfl⟩) hS (fun q _ h => hFc q h) hFc (fun u t H1 locs ht hvm hw hB hz1 hk1 hS => ?_)
        as_aux_lemma =>
        obtain ⟨x_111, x_112, x_113, w_114⟩ := u
        obtain ⟨hP1, hK1, hD1⟩ := hB
        rw [ht] at hP1
        obtain ⟨hP, hD⟩ := cl_put (w1 := (wd_c_X4_readCondition_6 h1 h1_0 h1_f1 x_111 x_112 h1_0 h1_0k h1_0c h0 h0_0 x_113 h0_2 h0_0 h0_0k w_114)) (nw := (wd_c_X4_readUnit_6 h1 h1_0 h1_f1 x_111 x_112 h1_0 h1_0k h1_0c h0 h0_0 x_113 h0_2 h0_0 h0_0k w_114)) hP hD [0, 1, 2, 3] [4, 5, 6, 7] 4 rfl hqc (by decide +kernel) rfl hk1 hFc hP1 hD1
        generalize H1 = H at hP hS ⊢
        as_aux_lemma =>
        rcases hw with ⟨h_115, h_116, h_117, h_118⟩
        have h_118 : (x_111, x_112, x_113, w_114) = _ := h_118
        replace hEX := hEX.trans (exc4_eq h_118)
        refine lv_aload_n hx hb dX4_readUnit_120 rfl (lv_at hl 1 rfl) ?_
        refine lv_bipush (v := 41) hx hb dX4_readUnit_121 kc_bipush_41 ?_
        obtain ⟨hPc, hDc, hFc, hqc⟩ := cl_cut (wc := (wd_c_X9_expect_1 h1 h1_0 h1_f1 x_111 x_112 h1_0 h1_0k h1_0c)) hP hD hS hA [0, 1] (by decide +kernel) rfl
        have hKc := hK.sub (tys' := [(h1_0k, .int)]) [0] rfl
        have hrv := va_recv hKc hPc (ci := 9) (q0 := 0) rfl rfl
        refine va_callv (va_runV (As := [.int 41]) (rest := []) ⟨hx, hb, hml, hown, hts⟩ (c_X9_expect_1 l dC dI H.size h1 41 h1_0 h1_f1 x_111 x_112 h1_0k h1_0c (RG_w (RG_k 41 41 rfl) (by decide +kernel)) (RG_w h_73 (by decide +kernel)) h_115 h_116 a_h1_0c) (cwV 1 hts gf_c_X4_readUnit_6_c_X9_expect_1 rfl rfl rfl mdV_X9_expect ⟨Nat.le_of_ble_eq_true rfl, Nat.le_of_ble_eq_true rfl⟩) ⟨fun a U g mk q => by obtain ⟨q0, q1, qP, qK, qD⟩ := q; exact ⟨q0, q1, qP, va_K.moved (u := U) (U := U.calling g mk a) (Vm.Alike.refl U.vm) qK, qD⟩, hrv, fun U hU hW => ⟨rfl, by rw [hU], by rw [hU]; exact hPc, va_K.moved hW.alike hKc, hDc.weaken (fun _ _ _ _ => trivial)⟩⟩ rfl rfl hl.1 rfl (lv_room (Nat.le_of_ble_eq_true rfl)) dX4_readUnit_123 ⟨Nat.le_of_ble_eq_true rfl, Nat.le_of_ble_eq_true rfl⟩) hS (fun q _ h => hFc q h) hFc (fun u t H1 locs ht hvm hw hB hz1 hk1 hS => ?_)
        obtain ⟨x_120, x_121⟩ := u
        obtain ⟨hP1, hK1, hD1⟩ := hB
        rw [ht] at hP1
        obtain ⟨hP, hD⟩ := cl_put (w1 := (wd_c_X9_expect_1 h1 h1_0 h1_f1 x_120 x_121 h1_0 h1_0k h1_0c)) (nw := (wd_c_X4_readUnit_6 h1 h1_0 h1_f1 x_120 x_121 h1_0 h1_0k h1_0c h0 h0_0 x_113 h0_2 h0_0 h0_0k w_114)) hP hD [0, 1] [4, 5, 2, 3] 4 rfl hqc (by decide +kernel) rfl hk1 hFc hP1 hD1
        generalize H1 = H at hP hS ⊢
        as_aux_lemma =>
        rcases hw with ⟨h_122, h_123, h_124, h_125⟩
        have h_125 : (x_120, x_121) = _ := h_125
        replace hEX := hEX.trans (exc2_eq h_125)
        have hK9 := hK.sub (tys' := []) [] rfl
        exact W.vret hx hb hr (fun t ht hW => ⟨⟨(x_120, x_121, x_113, w_114), rfl, ⟨h_122, h_123, h_117, (hR.trans hEX).symm⟩, by rw [ht]; exact hP, va_K.moved hW.alike hK9, hD⟩, hS.F ht⟩) hS.2.2 dX4_readUnit_126
      · have h_100 : (r_89, x_90) = _ := h_100
        replace hEX := hEX.trans (exc2_eq h_100)
        replace hEX := hEX.trans (if_neg (fun q9 : r_89 = 0 => absurd ((show r_89 = 1 from h_95).symm.trans q9) (by decide +kernel)))
        rw [h_95]
        refine lv_if_eq (tgt := 105) hx hb dX4_readUnit_84 rfl (fun c_126 => absurd c_126 (by decide +kernel)) (fun c_126 => ?_)
        refine lv_aload_n hx hb dX4_readUnit_87 rfl (lv_at hl 0 rfl) ?_
        refine lv_aload_n hx hb dX4_readUnit_88 rfl (lv_at hl 1 rfl) ?_
        refine lv_iload_n hx hb dX4_readUnit_89 rfl (lv_at hl 2 rfl) ?_
        refine lv_iconst (v := 1) hx hb dX4_readUnit_90 kc_iconst_1 ?_
        as_aux_lemma =>
        refine lv_iadd hx hb dX4_readUnit_91 ?_
        refine lv_topi (fun x_127 ex_127 => ?_)
        obtain rfl : x_127 = 6 := ex_127.trans (by decide +kernel)
        refine lv_iconst (v := 0) hx hb dX4_readUnit_92 kc_iconst_0 ?_
        obtain ⟨hPc, hDc, hFc, hqc⟩ := cl_cut (wc := (wd_c_X4_readUnit_7 h1 h1_0 h1_f1 x_90 h1_f3 h1_0 h1_0k h1_0c h0 h0_0 h0_f1 h0_2 h0_0 h0_0k h0_0c)) hP hD hS hA [0, 1, 2, 3] (by decide +kernel) rfl
        have hKc := hK.sub (tys' := [(h1_0k, .int), (h0_0k, .int)]) [0, 1] rfl
        have hrv := va_recv hKc hPc (ci := 4) (q0 := 2) rfl rfl
        refine va_callv (va_runV (As := [.ref h1, .int 6, .int 0]) (rest := []) ⟨hx, hb, hml, hown, hts⟩ (c_X4_readUnit_7 l dC dI H.size h0 h1 h1_0 h1_f1 x_90 h1_f3 h1_0k h1_0c h0_0 h0_f1 h0_2 h0_0k h0_0c ts4 tv4 (RG_w h_73 (by decide +kernel)) (RG_w h_96 (by decide +kernel)) (RG_w h_98 (by decide +kernel)) a_h1_0c g_h0_f1) (cwV 3 hts gf_c_X4_readUnit_6_c_X4_readUnit_7 rfl rfl rfl mdV_X4_readUnit ⟨Nat.le_of_ble_eq_true rfl, Nat.le_of_ble_eq_true rfl⟩) ⟨fun a U g mk q => by obtain ⟨q0, q1, qP, qK, qD, qE0, qE1, qE2, qE3, qE4, qE5⟩ := q; exact ⟨q0, q1, qP, va_K.moved (u := U) (U := U.calling g mk a) (Vm.Alike.refl U.vm) qK, qD, vk_R.same rfl qE0, va_Z.moved (u := U) (U := U.calling g mk a) (Vm.Alike.refl U.vm) qE1, va_OF.moved (u := U) (U := U.calling g mk a) (Vm.Alike.refl U.vm) qE2, va_O.moved (u := U) (U := U.calling g mk a) (Vm.Alike.refl U.vm) qE3, va_OF.moved (u := U) (U := U.calling g mk a) (Vm.Alike.refl U.vm) qE4, va_T.moved (u := U) (U := U.calling g mk a) (Vm.Alike.refl U.vm) qE5⟩, hrv, fun U hU hW => ⟨rfl, by rw [hU], by rw [hU]; exact hPc, va_K.moved hW.alike hKc, hDc.weaken (fun _ _ _ _ => trivial), vk_R.warm hW hE_32, va_Z.moved hW.alike (by rw [hU]; exact (hE_10.kept hS.2.1).narrow hFc), va_OF.moved hW.alike (by rw [hU]; exact (hE_34.kept hS.2.1).narrow hFc), va_O.moved hW.alike (by rw [hU]; exact (hE_33.kept hS.2.1).narrow hFc), va_OF.moved hW.alike (by rw [hU]; exact (hE_35.kept hS.2.1).narrow hFc), va_T.moved hW.alike (by rw [hU]; exact (hE_36.kept hS.2.1).narrow hFc)⟩⟩ rfl rfl hl.1 rfl (lv_room (Nat.le_of_ble_eq_true rfl)) dX4_readUnit_93 ⟨Nat.le_of_ble_eq_true rfl, Nat.le_of_ble_eq_true rfl⟩) hS (fun q _ h => hFc q h) hFc (fun u t H1 locs ht hvm hw hB hz1 hk1 hS => ?_)
        obtain ⟨x_129, x_130, x_131, w_132⟩ := u
        obtain ⟨hP1, hK1, hD1⟩ := hB
        rw [ht] at hP1
        obtain ⟨hP, hD⟩ := cl_put (w1 := (wd_c_X4_readUnit_7 h1 h1_0 h1_f1 x_129 x_130 h1_0 h1_0k h1_0c h0 h0_0 x_131 h0_2 h0_0 h0_0k w_132)) (nw := (wd_c_X4_readUnit_6 h1 h1_0 h1_f1 x_129 x_130 h1_0 h1_0k h1_0c h0 h0_0 x_131 h0_2 h0_0 h0_0k w_132)) hP hD [0, 1, 2, 3] [4, 5, 6, 7] 4 rfl hqc (by decide +kernel) rfl hk1 hFc hP1 hD1
        generalize H1 = H at hP hS ⊢
        as_aux_lemma =>
        rcases hw with ⟨h_133, h_134, h_135, h_136⟩
        have h_136 : (x_129, x_130, x_131, w_132) = _ := h_136
        replace hEX := hEX.trans (exc4_eq h_136)
        refine lv_aload_n hx hb dX4_readUnit_96 rfl (lv_at hl 0 rfl) ?_
        refine lv_bipush (v := (-33)) hx hb dX4_readUnit_97 kc_bipush_m33 ?_
        obtain ⟨hPc, hDc, hFc, hqc⟩ := cl_cut (wc := (wd_c_X4_emit h0 h0_0 x_131 h0_2 h0_0 h0_0k w_132)) hP hD hS hA [2, 3] (by decide +kernel) rfl
        have hKc := hK.sub (tys' := [(h0_0k, .int)]) [1] rfl
        have hrv := va_recv hKc hPc (ci := 4) (q0 := 0) rfl rfl
        refine va_callv (va_runV (As := [.int (-33)]) (rest := []) ⟨hx, hb, hml, hown, hts⟩ (c_X4_emit l dC dI H.size h0 (-33) h0_0 x_131 h0_2 h0_0k w_132 h_135) (cwV 1 hts gf_c_X4_readUnit_6_c_X4_emit rfl rfl rfl mdV_X4_emit ⟨Nat.le_of_ble_eq_true rfl, Nat.le_of_ble_eq_true rfl⟩) ⟨fun a U g mk q => by obtain ⟨q0, q1, qP, qK, qD⟩ := q; exact ⟨q0, q1, qP, va_K.moved (u := U) (U := U.calling g mk a) (Vm.Alike.refl U.vm) qK, qD⟩, hrv, fun U hU hW => ⟨rfl, by rw [hU], by rw [hU]; exact hPc, va_K.moved hW.alike hKc, hDc.weaken (fun _ _ _ _ => trivial)⟩⟩ rfl rfl hl.1 rfl (lv_room (Nat.le_of_ble_eq_true rfl)) dX4_readUnit_99 ⟨Nat.le_of_ble_eq_true rfl, Nat.le_of_ble_eq_true rfl⟩) hS (fun q _ h => hFc q h) hFc (fun u t H1 locs ht hvm hw hB hz1 hk1 hS => ?_)
        obtain ⟨x_138, w_139⟩ := u
        obtain ⟨hP1, hK1, hD1⟩ := hB
        rw [ht] at hP1
        obtain ⟨hP, hD⟩ := cl_put (w1 := (wd_c_X4_emit h0 h0_0 x_138 h0_2 h0_0 h0_0k w_139)) (nw := (wd_c_X4_readUnit_6 h1 h1_0 h1_f1 x_129 x_130 h1_0 h1_0k h1_0c h0 h0_0 x_138 h0_2 h0_0 h0_0k w_139)) hP hD [2, 3] [0, 1, 4, 5] 4 rfl hqc (by decide +kernel) rfl hk1 hFc hP1 hD1
        generalize H1 = H at hP hS ⊢
        as_aux_lemma =>
        rcases hw with ⟨h_140, h_141⟩
        have h_141 : (x_138, w_139) = _ := h_141
        replace hEX := hEX.trans (exc2_eq h_141)
        refine lv_goto (tgt := 126) hx hb dX4_readUnit_102 rfl ?_
        have hK9 := hK.sub (tys' := []) [] rfl
        exact W.vret hx hb hr (fun t ht hW => ⟨⟨(x_129, x_130, x_138, w_139), rfl, ⟨h_133, h_134, (RG_w h_140 (by decide +kernel)), (hR.trans hEX).symm⟩, by rw [ht]; exact hP, va_K.moved hW.alike hK9, hD⟩, hS.F ht⟩) hS.2.2 dX4_readUnit_126
