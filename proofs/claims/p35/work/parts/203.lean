noncomputable def wd_c_X4_readAtom (a0 : Nat) (a1 : Nat) (a2 : Int32) (a3 : Int32) (a4 : Int32) (a5 : Nat) (a6 : ClassId) (a7 : Nat → Int32) (a8 : Nat) (a9 : Nat) (a10 : Int32) (a11 : Nat) (a12 : Nat) (a13 : ClassId) (a14 : Nat → Int32) : va_W := [(a0, .inr (9, [.ref a1, .int a2, .int a3, .int a4])), (a5, .inl (a6, 240, .inl a7)), (a8, .inr (4, [.ref a9, .int a10, .ref a11])), (a12, .inl (a13, 240, .inl a14))]
noncomputable def wf_c_X4_readAtom : List Cond := List.cons (.code yX4_readAtom cX4_readAtom 6 none) (@HAppend.hAppend (List Cond) (List Cond) (List Cond) _ (@HAppend.hAppend (List Cond) (List Cond) (List Cond) _ [.methodLink RX4 41 yX9_peek, .instanceMethod yX9_peek, .selects RX9 yX9_peek yX9_peek, .initialized RX9, .code yX9_peek cX9_peek 1 (some .int), .fieldLink RX9 22 "BuoyVote$Tape" "at" "I", .fieldLink RX9 19 "BuoyVote$Tape" "length" "I", .fieldLink RX9 11 "BuoyVote$Tape" "bytes" "[I", .methodLink RX4 93 yJ0_indexOf_0f7a4, .instanceMethod yJ0_indexOf_0f7a4, .selects RJ0 yJ0_indexOf_0f7a4 yJ0_indexOf_0f7a4, .initialized RJ0, .code yJ0_indexOf_0f7a4 cJ0_indexOf_0f7a4 2 (some .int), .methodLink RJ0 633 yJ0_indexOf_7cf53, .instanceMethod yJ0_indexOf_7cf53, .selects RJ0 yJ0_indexOf_7cf53 yJ0_indexOf_7cf53, .code yJ0_indexOf_7cf53 cJ0_indexOf_7cf53 3 (some .int), .methodLink RJ0 492 yJ0_isLatin1_aae02, .instanceMethod yJ0_isLatin1_aae02, .selects RJ0 yJ0_isLatin1_aae02 yJ0_isLatin1_aae02, .code yJ0_isLatin1_aae02 cJ0_isLatin1_aae02 1 (some .boolean), .fieldLink RJ0 38 "java/lang/String" "COMPACT_STRINGS" "Z", .fieldLink RJ0 15 "java/lang/String" "coder" "B", .fieldLink RJ0 9 "java/lang/String" "value" "[B", .methodLink RJ0 505 yJ0_length_8abf5, .instanceMethod yJ0_length_8abf5, .selects RJ0 yJ0_length_8abf5 yJ0_length_8abf5, .code yJ0_length_8abf5 cJ0_length_8abf5 1 (some .int), .methodLink RJ0 335 yJ0_coder_7d493, .instanceMethod yJ0_coder_7d493, .selects RJ0 yJ0_coder_7d493 yJ0_coder_7d493, .code yJ0_coder_7d493 cJ0_coder_7d493 1 (some .byte), .methodLink RJ0 637 yJ1_indexOf_4cfef, .static yJ1_indexOf_4cfef, .initialized RJ1, .code yJ1_indexOf_4cfef cJ1_indexOf_4cfef 4 (some .int), .methodLink RJ1 88 yJ1_canEncode_9a6ad, .static yJ1_canEncode_9a6ad, .code yJ1_canEncode_9a6ad cJ1_canEncode_9a6ad 1 (some .boolean), .methodLink RJ1 92 Lib.Math.max.name, .static Lib.Math.max.name, .initialized "java/lang/Math", .code Lib.Math.max.name Lib.Math.max.code 2 (some .int), .methodLink RJ1 38 Lib.Math.min.name, .static Lib.Math.min.name, .code Lib.Math.min.name Lib.Math.min.code 2 (some .int), .methodLink RJ1 95 yJ1_indexOfChar_4cfef, .static yJ1_indexOfChar_4cfef, .code yJ1_indexOfChar_4cfef cJ1_indexOfChar_4cfef 6 (some .int), .methodLink RX4 99 yX9_number, .instanceMethod yX9_number, .selects RX9 yX9_number yX9_number, .code yX9_number cX9_number 4 (some .int), .methodLink RX4 82 yX9_refuseHere, .instanceMethod yX9_refuseHere, .selects RX9 yX9_refuseHere yX9_refuseHere, .code yX9_refuseHere cX9_refuseHere 1 none, .methodLink RX9 25 yX9_refuse, .instanceMethod yX9_refuse, .selects RX9 yX9_refuse yX9_refuse, .code yX9_refuse cX9_refuse 2 none, .fieldLink RX9 15 "BuoyVote$Tape" "wrong" "I", .methodLink RX4 79 yX9_skip, .instanceMethod yX9_skip, .selects RX9 yX9_skip yX9_skip, .code yX9_skip cX9_skip 1 none, .methodLink RX4 49 yX4_readSum, .instanceMethod yX4_readSum, .selects RX4 yX4_readSum yX4_readSum, .initialized RX4, .code yX4_readSum cX4_readSum 6 none, .methodLink RX4 72 yX9_isRight, .instanceMethod yX9_isRight, .selects RX9 yX9_isRight yX9_isRight, .code yX9_isRight cX9_isRight 1 (some .boolean), .methodLink RX4 85 yX4_readAtom, .instanceMethod yX4_readAtom, .selects RX4 yX4_readAtom yX4_readAtom, .methodLink RX4 60 yX4_emit, .instanceMethod yX4_emit, .selects RX4 yX4_emit yX4_emit, .code yX4_emit cX4_emit 2 none, .fieldLink RX4 20 "BuoyVote$Law" "length" "I", .fieldLink RX4 11 "BuoyVote$Law" "code" "[I", .methodLink RX4 88 yX9_takeEither, .instanceMethod yX9_takeEither, .selects RX9 yX9_takeEither yX9_takeEither, .code yX9_takeEither cX9_takeEither 4 (some .int), .methodLink RX9 29 yX9_peek, .methodLink RX4 37 yX9_expect, .instanceMethod yX9_expect, .selects RX9 yX9_expect yX9_expect, .code yX9_expect cX9_expect 2 none] wsX90) wsX40)
theorem iw_c_X4_readAtom_X9 : ∀ w ∈ wsX90, w ∈ wf_c_X4_readAtom := fun w h => List.mem_cons_of_mem _ (List.mem_append_left _ (List.mem_append_right _ h))
theorem iw_c_X4_readAtom_X4 : ∀ w ∈ wsX40, w ∈ wf_c_X4_readAtom := fun w h => List.mem_cons_of_mem _ (List.mem_append_right _ h)
set_option maxRecDepth 20000 in
theorem gf_c_X4_readAtom_c_X4_emit_1 : GoodIn wf_c_X4_readAtom (wsV RX4 60 RX4 yX4_emit wf_c_X4_emit_1) := goodIn_app (gi_l [79, 80, 81, 70] rfl rfl) (gi_cons (j := 82) rfl rfl (goodIn_app (gi_l [83, 84] rfl rfl) (goodIn_sub iw_c_X4_readAtom_X4 gw_X4)))
set_option maxRecDepth 20000 in
theorem gf_c_X4_readAtom_c_X9_number_1 : GoodIn wf_c_X4_readAtom (wsV RX4 99 RX9 yX9_number wf_c_X9_number_1) := goodIn_app (gi_l [50, 51, 52, 4] rfl rfl) (gi_cons (j := 53) rfl rfl (goodIn_app (gi_l [6, 7, 8] rfl rfl) (goodIn_sub iw_c_X4_readAtom_X9 gw_X9)))
set_option maxRecDepth 20000 in
theorem gf_c_X4_readAtom_c_X9_refuseHere : GoodIn wf_c_X4_readAtom (wsV RX4 82 RX9 yX9_refuseHere wf_c_X9_refuseHere) := goodIn_app (gi_l [54, 55, 56, 4] rfl rfl) (gi_cons (j := 57) rfl rfl (goodIn_app (gi_l [6, 58, 59, 60, 4, 61, 62] rfl rfl) (goodIn_sub iw_c_X4_readAtom_X9 gw_X9)))
set_option maxRecDepth 20000 in
theorem gf_c_X4_readAtom_c_X9_skip : GoodIn wf_c_X4_readAtom (wsV RX4 79 RX9 yX9_skip wf_c_X9_skip) := goodIn_app (gi_l [63, 64, 65, 4] rfl rfl) (gi_cons (j := 66) rfl rfl (goodIn_app (gi_l [6] rfl rfl) (goodIn_sub iw_c_X4_readAtom_X9 gw_X9)))
set_option maxRecDepth 20000 in
theorem gf_c_X4_readAtom_c_X4_readSum_1 : GoodIn wf_c_X4_readAtom (wsV RX4 49 RX4 yX4_readSum wf_c_X4_readSum_1) := goodIn_app (gi_l [67, 68, 69, 70] rfl rfl) (gi_cons (j := 71) rfl rfl (goodIn_app (goodIn_app (gi_l [72, 73, 74, 4, 75, 62, 76, 77, 78, 70, 0, 1, 2, 3, 5, 6, 7, 8, 9, 10, 11, 12, 13, 14, 15, 16, 17, 18, 19, 20, 21, 22, 23, 24, 25, 26, 27, 28, 29, 30, 31, 32, 33, 34, 35, 36, 37, 38, 39, 40, 41, 42, 43, 44, 45, 46, 47, 48, 49, 50, 51, 52, 53, 54, 55, 56, 57, 58, 59, 60, 61, 63, 64, 65, 66, 67, 68, 69, 79, 80, 81, 82, 83, 84, 85, 86, 87, 88, 89, 90, 91, 92, 93] rfl rfl) (goodIn_sub iw_c_X4_readAtom_X9 gw_X9)) (goodIn_sub iw_c_X4_readAtom_X4 gw_X4)))
set_option maxRecDepth 20000 in
theorem gf_c_X4_readAtom_c_X9_expect_2 : GoodIn wf_c_X4_readAtom (wsV RX4 37 RX9 yX9_expect wf_c_X9_expect_2) := goodIn_app (gi_l [90, 91, 92, 4] rfl rfl) (gi_cons (j := 93) rfl rfl (goodIn_app (gi_l [62, 89, 2, 3, 4, 5, 6, 7, 8, 58, 59, 60, 61] rfl rfl) (goodIn_sub iw_c_X4_readAtom_X9 gw_X9)))
set_option maxRecDepth 20000 in
theorem gf_c_X4_readAtom_c_X4_emit : GoodIn wf_c_X4_readAtom (wsV RX4 60 RX4 yX4_emit wf_c_X4_emit) := goodIn_app (gi_l [79, 80, 81, 70] rfl rfl) (gi_cons (j := 82) rfl rfl (goodIn_app (gi_l [83, 84] rfl rfl) (goodIn_sub iw_c_X4_readAtom_X4 gw_X4)))
set_option maxRecDepth 20000 in
theorem gf_c_X4_readAtom_c_X9_peek : GoodIn wf_c_X4_readAtom (wsV RX4 41 RX9 yX9_peek wf_c_X9_peek) := goodIn_app (gi_l [1, 2, 3, 4] rfl rfl) (gi_cons (j := 5) rfl rfl (goodIn_app (gi_l [6, 7, 8] rfl rfl) (goodIn_sub iw_c_X4_readAtom_X9 gw_X9)))
set_option maxRecDepth 20000 in
theorem gf_c_X4_readAtom_c_J0_indexOf_0f7a4_4 : GoodIn wf_c_X4_readAtom (wsV RX4 93 RJ0 yJ0_indexOf_0f7a4 wf_c_J0_indexOf_0f7a4_4) := goodIn_app (gi_l [9, 10, 11, 12] rfl rfl) (gi_cons (j := 13) rfl rfl (gi_l [14, 15, 16, 12, 17, 18, 19, 20, 21, 22, 23, 24, 25, 26, 27, 28, 29, 30, 31, 32, 33, 34, 35, 36, 37, 38, 39, 40, 41, 42, 43, 44, 45, 46, 47, 48, 49] rfl rfl))
set_option maxHeartbeats 4000000 in
set_option maxRecDepth 100000 in
theorem c_X4_readAtom (l : Launch) (dC : Nat → ClassId) (dI : Nat → Nat → Nat) (sz : Nat) (h0 : Nat) (h1 : Nat) (h1_0 : Nat) (h1_f1 : Int32) (h1_f2 : Int32) (h1_f3 : Int32) (h1_0k : ClassId) (h1_0c : Nat → Int32) (h0_0 : Nat) (h0_f1 : Int32) (h0_2 : Nat) (h0_0k : ClassId) (h0_0c : Nat → Int32) (ts4 : Nat) (tv4 : Nat) (g_h1_f1 : RG h1_f1 0 240) (g_h1_f2 : RG h1_f2 0 240) (g_h1_f3 : RG h1_f3 (-1) 240) (a_h1_0c : AI h1_0c 0 255) (g_h0_f1 : RG h0_f1 0 240) : Met l yX4_readAtom wf_c_X4_readAtom ({ frames := 16, cells := 0, slots := 0, locals := 391 }) (va_Pc [.ref h0, .ref h1, .int 0] (fun U => U.heap.size = sz ∧ va_P (dC, dI) vwCl (wd_c_X4_readAtom h1 h1_0 h1_f1 h1_f2 h1_f3 h1_0 h1_0k h1_0c h0 h0_0 h0_f1 h0_2 h0_0 h0_0k h0_0c) U.heap ∧ va_K (dC, dI) vwCl [(h1_0k, .int), (h0_0k, .int)] U ∧ va_D (fun _ => True) (wd_c_X4_readAtom h1 h1_0 h1_f1 h1_f2 h1_f3 h1_0 h1_0k h1_0c h0 h0_0 h0_f1 h0_2 h0_0 h0_0k h0_0c) ∧ vk_R RX4 91 "vlrdph" ts4 U ∧ va_Z "java/lang/String" "COMPACT_STRINGS" "Z" (.int 1) (va_A (wd_c_X4_readAtom h1 h1_0 h1_f1 h1_f2 h1_f3 h1_0 h1_0k h1_0c h0 h0_0 h0_f1 h0_2 h0_0 h0_0k h0_0c) sz) U U.heap ∧ va_OF "java/lang/String" "coder" "B" (.int 0) ts4 (va_A (wd_c_X4_readAtom h1 h1_0 h1_f1 h1_f2 h1_f3 h1_0 h1_0k h1_0c h0 h0_0 h0_f1 h0_2 h0_0 h0_0k h0_0c) sz) U U.heap ∧ va_O "java/lang/String" ts4 (va_A (wd_c_X4_readAtom h1 h1_0 h1_f1 h1_f2 h1_f3 h1_0 h1_0k h1_0c h0 h0_0 h0_f1 h0_2 h0_0 h0_0k h0_0c) sz) U U.heap ∧ va_OF "java/lang/String" "value" "[B" (.ref tv4) ts4 (va_A (wd_c_X4_readAtom h1 h1_0 h1_f1 h1_f2 h1_f3 h1_0 h1_0k h1_0c h0 h0_0 h0_f1 h0_2 h0_0 h0_0k h0_0c) sz) U U.heap ∧ va_T .byte tv4 6 (fun j => .int ([118, 108, 114, 100, 112, 104].getD j 0)) (va_A (wd_c_X4_readAtom h1 h1_0 h1_f1 h1_f2 h1_f3 h1_0 h1_0k h1_0c h0 h0_0 h0_f1 h0_2 h0_0 h0_0k h0_0c) sz) U U.heap)) (va_Qv (fun (u : (Int32) × (Int32) × (Int32) × (Nat → Int32)) => (RG u.1 0 240 ∧ RG u.2.1 (-1) 240 ∧ RG u.2.2.1 0 240)) (fun (u : (Int32) × (Int32) × (Int32) × (Nat → Int32)) t => va_P (dC, dI) vwCl (wd_c_X4_readAtom h1 h1_0 h1_f1 (u.1) (u.2.1) h1_0 h1_0k h1_0c h0 h0_0 (u.2.2.1) h0_2 h0_0 h0_0k (u.2.2.2)) t.heap ∧ va_K (dC, dI) vwCl [] t ∧ va_D (va_A (wd_c_X4_readAtom h1 h1_0 h1_f1 h1_f2 h1_f3 h1_0 h1_0k h1_0c h0 h0_0 h0_f1 h0_2 h0_0 h0_0k h0_0c) sz) (wd_c_X4_readAtom h1 h1_0 h1_f1 (u.1) (u.2.1) h1_0 h1_0k h1_0c h0 h0_0 (u.2.2.1) h0_2 h0_0 h0_0k (u.2.2.2))) (va_A (wd_c_X4_readAtom h1 h1_0 h1_f1 h1_f2 h1_f3 h1_0 h1_0k h1_0c h0 h0_0 h0_f1 h0_2 h0_0 h0_0k h0_0c) sz)) 0 0 (va_A (wd_c_X4_readAtom h1 h1_0 h1_f1 h1_f2 h1_f3 h1_0 h1_0k h1_0c h0 h0_0 h0_f1 h0_2 h0_0 h0_0k h0_0c) sz) := by
  refine Met.ofW (cc := cX4_readAtom) (maxL := 6) (ret := none) (by decide +kernel) rfl ?_
  intro p e s m args below meth c s₁ B hml hv
  obtain ⟨rfl, hsz, hP, hK, hD0, hE_32, hE_10, hE_34, hE_33, hE_35, hE_36⟩ := hv
  have hx := B.exec
  have hb := B.bytes
  have hr := B.returns
  have hts := atoms_spec (ws := wf_c_X4_readAtom) B.pre
  have hown : s.vm.findClass RX4 = some m.cls := findClass_of_methodNamed B.named
  have hlocks := B.notSynchronized
  subst hsz
  have hD := hD0.self (sz := s.heap.size)
  generalize hAe : va_A (wd_c_X4_readAtom h1 h1_0 h1_f1 h1_f2 h1_f3 h1_0 h1_0k h1_0c h0 h0_0 h0_f1 h0_2 h0_0 h0_0k h0_0c) s.heap.size = A at hD hE_10 hE_34 hE_33 hE_35 hE_36 ⊢
  have hA : ∀ q : Nat, s.heap.size ≤ q → A q := fun q h => by rw [← hAe]; exact Or.inr h
  have hP : va_P (dC, dI) vwCl (wd_c_X4_readAtom h1 h1_0 h1_f1 h1_f2 h1_f3 h1_0 h1_0k h1_0c h0 h0_0 h0_f1 h0_2 h0_0 h0_0k h0_0c) s.heap := hP
  have hl := lv_entry ([.ref h0, .ref h1, .int 0]) (n := 6) (Nat.le_of_ble_eq_true rfl)
  rw [lg_entry_eq]
  generalize (lg_sl ([.ref h0, .ref h1, .int 0]) ++ List.replicate (6 - (lg_sl ([.ref h0, .ref h1, .int 0])).length) Slot.unset).toArray = ls at hl ⊢
  have hl : lv_has ls 6 [(0, .ref h0), (1, .ref h1), (2, .int 0)] := hl
  obtain ⟨H, hHe⟩ : ∃ H : Heap, s.heap = H := ⟨_, rfl⟩
  have hS : va_S A s.heap H [] := by rw [hHe]; exact va_S.rf
  have hP : va_P (dC, dI) vwCl (wd_c_X4_readAtom h1 h1_0 h1_f1 h1_f2 h1_f3 h1_0 h1_0k h1_0c h0 h0_0 h0_f1 h0_2 h0_0 h0_0k h0_0c) H := by rw [← hHe]; exact hP
  rw [hHe]
  refine wj (fun G hG hU => ?_)
  as_aux_lemma =>
  have J65 : ∀ (j65_l5 : Int32) (j65_h1_f2 : Int32) (j65_h1_f3 : Int32) (g_h0_f1 : RG h0_f1 0 240) (g_h1_f1 : RG h1_f1 0 240) (g_h1_f2 : RG h1_f2 0 240) (g_h1_f3 : RG h1_f3 (-1) 240) (g_j65_h1_f2 : RG j65_h1_f2 0 240) (g_j65_h1_f3 : RG j65_h1_f3 (-1) 240) (g_j65_l5 : RG j65_l5 (-1) 9999) (H : Heap) (locs : List Loc) (ls : Array Slot) (hP : va_P (dC, dI) vwCl (wd_c_X4_readAtom h1 h1_0 h1_f1 j65_h1_f2 j65_h1_f3 h1_0 h1_0k h1_0c h0 h0_0 h0_f1 h0_2 h0_0 h0_0k h0_0c) H) (hD : va_D A (wd_c_X4_readAtom h1 h1_0 h1_f1 j65_h1_f2 j65_h1_f3 h1_0 h1_0k h1_0c h0 h0_0 h0_f1 h0_2 h0_0 h0_0k h0_0c)) (hS : va_S A s.heap H locs) (hl : lv_has ls 6 [(5, .int j65_l5), (0, .ref h0)]), G H locs (F0 m 65 ls []) := by
    as_aux_lemma =>
    intro j65_l5 j65_h1_f2 j65_h1_f3 g_h0_f1 g_h1_f1 g_h1_f2 g_h1_f3 g_j65_h1_f2 g_j65_h1_f3 g_j65_l5 H locs ls hP hD hS hl
    refine hG _ _ _ ?_
    refine lv_aload_n hx hb dX4_readAtom_65 rfl (lv_at hl 1 rfl) ?_
    refine lv_iload hx hb dX4_readAtom_66 (lv_at hl 0 rfl) ?_
    obtain ⟨hPc, hDc, hFc, hqc⟩ := cl_cut (wc := (wd_c_X4_emit_1 h0 h0_0 h0_f1 h0_2 h0_0 h0_0k h0_0c)) hP hD hS hA [2, 3] (by decide +kernel) rfl
    have hKc := hK.sub (tys' := [(h0_0k, .int)]) [1] rfl
    have hrv := va_recv hKc hPc (ci := 4) (q0 := 0) rfl rfl
    refine va_callv (va_runV (As := [.int j65_l5]) (rest := []) ⟨hx, hb, hml, hown, hts⟩ (c_X4_emit_1 l dC dI H.size h0 j65_l5 h0_0 h0_f1 h0_2 h0_0k h0_0c (RG_w g_j65_l5 (by decide +kernel)) g_h0_f1) (cwV 1 hts gf_c_X4_readAtom_c_X4_emit_1 rfl rfl rfl mdV_X4_emit ⟨Nat.le_of_ble_eq_true rfl, Nat.le_of_ble_eq_true rfl⟩) ⟨fun a U g mk q => by obtain ⟨q0, q1, qP, qK, qD⟩ := q; exact ⟨q0, q1, qP, va_K.moved (u := U) (U := U.calling g mk a) (Vm.Alike.refl U.vm) qK, qD⟩, hrv, fun U hU hW => ⟨rfl, by rw [hU], by rw [hU]; exact hPc, va_K.moved hW.alike hKc, hDc.weaken (fun _ _ _ _ => trivial)⟩⟩ rfl rfl hl.1 rfl (lv_room (Nat.le_of_ble_eq_true rfl)) dX4_readAtom_68 ⟨Nat.le_of_ble_eq_true rfl, Nat.le_of_ble_eq_true rfl⟩) hS (fun q _ h => hFc q h) hFc (fun u t H1 locs ht hvm hw hB hz1 hk1 hS => ?_)
    obtain ⟨x_2, w_3⟩ := u
    obtain ⟨hP1, hK1, hD1⟩ := hB
    rw [ht] at hP1
    obtain ⟨hP, hD⟩ := cl_put (w1 := (wd_c_X4_emit_1 h0 h0_0 x_2 h0_2 h0_0 h0_0k w_3)) (nw := (wd_c_X4_readAtom h1 h1_0 h1_f1 j65_h1_f2 j65_h1_f3 h1_0 h1_0k h1_0c h0 h0_0 x_2 h0_2 h0_0 h0_0k w_3)) hP hD [2, 3] [0, 1, 4, 5] 4 rfl hqc (by decide +kernel) rfl hk1 hFc hP1 hD1
    generalize H1 = H at hP hS ⊢
    as_aux_lemma =>
    have h_4 := hw
    refine lv_goto (tgt := 105) hx hb dX4_readAtom_71 rfl ?_
    have hK9 := hK.sub (tys' := []) [] rfl
    exact W.vret hx hb hr (fun t ht hW => ⟨⟨(j65_h1_f2, j65_h1_f3, x_2, w_3), rfl, ⟨g_j65_h1_f2, g_j65_h1_f3, (RG_w h_4 (by decide +kernel))⟩, by rw [ht]; exact hP, va_K.moved hW.alike hK9, hD⟩, hS.F ht⟩) hS.2.2 dX4_readAtom_105
  have J20 : ∀ (j20_h1_f2 : Int32) (g_h0_f1 : RG h0_f1 0 240) (g_h1_f1 : RG h1_f1 0 240) (g_h1_f2 : RG h1_f2 0 240) (g_h1_f3 : RG h1_f3 (-1) 240) (g_j20_h1_f2 : RG j20_h1_f2 0 240) (H : Heap) (locs : List Loc) (ls : Array Slot) (hP : va_P (dC, dI) vwCl (wd_c_X4_readAtom h1 h1_0 h1_f1 j20_h1_f2 h1_f3 h1_0 h1_0k h1_0c h0 h0_0 h0_f1 h0_2 h0_0 h0_0k h0_0c) H) (hD : va_D A (wd_c_X4_readAtom h1 h1_0 h1_f1 j20_h1_f2 h1_f3 h1_0 h1_0k h1_0c h0 h0_0 h0_f1 h0_2 h0_0 h0_0k h0_0c)) (hS : va_S A s.heap H locs) (hl : lv_has ls 6 [(3, .int (-1)), (0, .ref h0), (1, .ref h1), (2, .int 0)]), G H locs (F0 m 20 ls [.int (-1)]) := by
    as_aux_lemma =>
    intro j20_h1_f2 g_h0_f1 g_h1_f1 g_h1_f2 g_h1_f3 g_j20_h1_f2 H locs ls hP hD hS hl
    refine hG _ _ _ ?_
    refine lv_istore (lv' := [(4, .int (-1)), (3, .int (-1)), (0, .ref h0), (1, .ref h1), (2, .int 0)]) hx hb dX4_readAtom_20 hl (Nat.le_of_ble_eq_true rfl) rfl (fun ls hl => ?_)
    refine lv_iload hx hb dX4_readAtom_22 (lv_at hl 0 rfl) ?_
    refine lv_if_lt (tgt := 42) hx hb dX4_readAtom_24 rfl (fun c_5 => ?_) (fun c_5 => absurd c_5 (by decide +kernel))
    refine lv_iload_n hx hb dX4_readAtom_42 rfl (lv_at hl 1 rfl) ?_
    refine lv_bipush (v := 91) hx hb dX4_readAtom_43 kc_bipush_91 ?_
    refine lv_icmp_eq (tgt := 74) hx hb dX4_readAtom_45 rfl (fun c_6 => absurd c_6 (by decide +kernel)) (fun c_6 => ?_)
    refine lv_aload_n hx hb dX4_readAtom_48 rfl (lv_at hl 3 rfl) ?_
    refine lv_iconst (v := 4) hx hb dX4_readAtom_49 kc_iconst_4 ?_
    obtain ⟨hPc, hDc, hFc, hqc⟩ := cl_cut (wc := (wd_c_X9_number_1 h1 h1_0 h1_f1 j20_h1_f2 h1_f3 h1_0 h1_0k h1_0c)) hP hD hS hA [0, 1] (by decide +kernel) rfl
    have hKc := hK.sub (tys' := [(h1_0k, .int)]) [0] rfl
    have hrv := va_recv hKc hPc (ci := 9) (q0 := 0) rfl rfl
    refine va_calli (va_runV (As := [.int 4]) (rest := []) ⟨hx, hb, hml, hown, hts⟩ (c_X9_number_1 l dC dI H.size h1 h1_0 h1_f1 j20_h1_f2 h1_f3 h1_0k h1_0c g_h1_f1 g_j20_h1_f2 g_h1_f3 a_h1_0c) (cwV 1 hts gf_c_X4_readAtom_c_X9_number_1 rfl rfl rfl mdV_X9_number ⟨Nat.le_of_ble_eq_true rfl, Nat.le_of_ble_eq_true rfl⟩) ⟨fun a U g mk q => by obtain ⟨q0, q1, qP, qK, qD⟩ := q; exact ⟨q0, q1, qP, va_K.moved (u := U) (U := U.calling g mk a) (Vm.Alike.refl U.vm) qK, qD⟩, hrv, fun U hU hW => ⟨rfl, by rw [hU], by rw [hU]; exact hPc, va_K.moved hW.alike hKc, hDc.weaken (fun _ _ _ _ => trivial)⟩⟩ rfl rfl hl.1 rfl (lv_room (Nat.le_of_ble_eq_true rfl)) dX4_readAtom_50 ⟨Nat.le_of_ble_eq_true rfl, Nat.le_of_ble_eq_true rfl⟩) hS (fun q _ h => hFc q h) hFc (fun r_7 x_8 t H1 locs ht hvm hw hB hz1 hk1 hS => ?_)
    as_aux_lemma =>
    obtain ⟨hP1, hK1, hD1⟩ := hB
    rw [ht] at hP1
    obtain ⟨hP, hD⟩ := cl_put (w1 := (wd_c_X9_number_1 h1 h1_0 h1_f1 x_8 h1_f3 h1_0 h1_0k h1_0c)) (nw := (wd_c_X4_readAtom h1 h1_0 h1_f1 x_8 h1_f3 h1_0 h1_0k h1_0c h0 h0_0 h0_f1 h0_2 h0_0 h0_0k h0_0c)) hP hD [0, 1] [4, 5, 2, 3] 4 rfl hqc (by decide +kernel) rfl hk1 hFc hP1 hD1
    generalize H1 = H at hP hS ⊢
    as_aux_lemma =>
    rcases hw with ⟨h_9, h_10, h_11⟩ | ⟨h_12, h_13, h_14, h_15, h_16⟩
    · rw [h_9]
      refine lv_istore (lv' := [(5, .int (-1)), (4, .int (-1)), (3, .int (-1)), (0, .ref h0), (1, .ref h1), (2, .int 0)]) hx hb dX4_readAtom_53 hl (Nat.le_of_ble_eq_true rfl) rfl (fun ls hl => ?_)
      refine lv_iload hx hb dX4_readAtom_55 (lv_at hl 0 rfl) ?_
      refine lv_iconst (v := (-1)) hx hb dX4_readAtom_57 kc_iconst_m1 ?_
      refine lv_icmp_ne (tgt := 65) hx hb dX4_readAtom_58 rfl (fun c_17 => absurd c_17 (by decide +kernel)) (fun c_17 => ?_)
      refine lv_aload_n hx hb dX4_readAtom_61 rfl (lv_at hl 4 rfl) ?_
      obtain ⟨hPc, hDc, hFc, hqc⟩ := cl_cut (wc := (wd_c_X9_refuseHere h1 h1_0 h1_f1 x_8 h1_f3)) hP hD hS hA [0] (by decide +kernel) rfl
      have hKc := hK.sub (tys' := []) [] rfl
      have hrv := va_recv hKc hPc (ci := 9) (q0 := 0) rfl rfl
      refine va_callv (va_runV (As := []) (rest := []) ⟨hx, hb, hml, hown, hts⟩ (c_X9_refuseHere l dC dI H.size h1 h1_0 h1_f1 x_8 h1_f3 g_h1_f1 h_10 g_h1_f3) (cwV 0 hts gf_c_X4_readAtom_c_X9_refuseHere rfl rfl rfl mdV_X9_refuseHere ⟨Nat.le_of_ble_eq_true rfl, Nat.le_of_ble_eq_true rfl⟩) ⟨fun a U g mk q => by obtain ⟨q0, q1, qP, qK, qD⟩ := q; exact ⟨q0, q1, qP, va_K.moved (u := U) (U := U.calling g mk a) (Vm.Alike.refl U.vm) qK, qD⟩, hrv, fun U hU hW => ⟨rfl, by rw [hU], by rw [hU]; exact hPc, va_K.moved hW.alike hKc, hDc.weaken (fun _ _ _ _ => trivial)⟩⟩ rfl rfl hl.1 rfl (lv_room (Nat.le_of_ble_eq_true rfl)) dX4_readAtom_62 ⟨Nat.le_of_ble_eq_true rfl, Nat.le_of_ble_eq_true rfl⟩) hS (fun q _ h => hFc q h) hFc (fun x_19 t H1 locs ht hvm hw hB hz1 hk1 hS => ?_)
      obtain ⟨hP1, hK1, hD1⟩ := hB
      rw [ht] at hP1
      obtain ⟨hP, hD⟩ := cl_put (w1 := (wd_c_X9_refuseHere h1 h1_0 h1_f1 x_8 x_19)) (nw := (wd_c_X4_readAtom h1 h1_0 h1_f1 x_8 x_19 h1_0 h1_0k h1_0c h0 h0_0 h0_f1 h0_2 h0_0 h0_0k h0_0c)) hP hD [0] [4, 1, 2, 3] 4 rfl hqc (by decide +kernel) rfl hk1 hFc hP1 hD1
      generalize H1 = H at hP hS ⊢
      as_aux_lemma =>
      have h_20 := hw
      exact hU _ _ _ (J65 (-1) x_8 x_19 g_h0_f1 g_h1_f1 g_h1_f2 g_h1_f3 h_10 (RG_w h_20 (by decide +kernel)) (RG_w (RG_k (-1) (-1) rfl) (by decide +kernel)) _ _ _ hP hD hS (lv_sub hl [0, 3] rfl))
    · refine lv_istore (lv' := [(5, .int r_7), (4, .int (-1)), (3, .int (-1)), (0, .ref h0), (1, .ref h1), (2, .int 0)]) hx hb dX4_readAtom_53 hl (Nat.le_of_ble_eq_true rfl) rfl (fun ls hl => ?_)
      refine lv_iload hx hb dX4_readAtom_55 (lv_at hl 0 rfl) ?_
      refine lv_iconst (v := (-1)) hx hb dX4_readAtom_57 kc_iconst_m1 ?_
      refine lv_icmp_ne (tgt := 65) hx hb dX4_readAtom_58 rfl (fun c_21 => ?_) (fun c_21 => ?_)
      · exact hU _ _ _ (J65 r_7 x_8 h1_f3 g_h0_f1 (RG_w h_14 (by decide +kernel)) g_h1_f2 g_h1_f3 (RG_w h_13 (by decide +kernel)) g_h1_f3 (RG_w h_12 (by decide +kernel)) _ _ _ hP hD hS (lv_sub hl [0, 3] rfl))
      · exact RG_dead (RG_eq1 h_12 (RG_k (-1) (-1) rfl) c_21 (a' := 0) (b' := (-1)) (by decide +kernel)) (by decide +kernel)
  have J65b : ∀ (j65b_l5 : Int32) (j65b_h1_f2 : Int32) (j65b_h1_f3 : Int32) (g_h0_f1 : RG h0_f1 0 240) (g_h1_f1 : RG h1_f1 1 240) (g_h1_f2 : RG h1_f2 0 240) (g_h1_f3 : RG h1_f3 (-1) 240) (g_j65b_h1_f2 : RG j65b_h1_f2 0 240) (g_j65b_h1_f3 : RG j65b_h1_f3 (-1) 240) (g_j65b_l5 : RG j65b_l5 (-1) 9999) (H : Heap) (locs : List Loc) (ls : Array Slot) (hP : va_P (dC, dI) vwCl (wd_c_X4_readAtom h1 h1_0 h1_f1 j65b_h1_f2 j65b_h1_f3 h1_0 h1_0k h1_0c h0 h0_0 h0_f1 h0_2 h0_0 h0_0k h0_0c) H) (hD : va_D A (wd_c_X4_readAtom h1 h1_0 h1_f1 j65b_h1_f2 j65b_h1_f3 h1_0 h1_0k h1_0c h0 h0_0 h0_f1 h0_2 h0_0 h0_0k h0_0c)) (hS : va_S A s.heap H locs) (hl : lv_has ls 6 [(5, .int j65b_l5), (0, .ref h0)]), G H locs (F0 m 65 ls []) := by
    as_aux_lemma =>
    intro j65b_l5 j65b_h1_f2 j65b_h1_f3 g_h0_f1 g_h1_f1 g_h1_f2 g_h1_f3 g_j65b_h1_f2 g_j65b_h1_f3 g_j65b_l5 H locs ls hP hD hS hl
    refine hG _ _ _ ?_
    refine lv_aload_n hx hb dX4_readAtom_65 rfl (lv_at hl 1 rfl) ?_
    refine lv_iload hx hb dX4_readAtom_66 (lv_at hl 0 rfl) ?_
    obtain ⟨hPc, hDc, hFc, hqc⟩ := cl_cut (wc := (wd_c_X4_emit_1 h0 h0_0 h0_f1 h0_2 h0_0 h0_0k h0_0c)) hP hD hS hA [2, 3] (by decide +kernel) rfl
    have hKc := hK.sub (tys' := [(h0_0k, .int)]) [1] rfl
    have hrv := va_recv hKc hPc (ci := 4) (q0 := 0) rfl rfl
    refine va_callv (va_runV (As := [.int j65b_l5]) (rest := []) ⟨hx, hb, hml, hown, hts⟩ (c_X4_emit_1 l dC dI H.size h0 j65b_l5 h0_0 h0_f1 h0_2 h0_0k h0_0c (RG_w g_j65b_l5 (by decide +kernel)) g_h0_f1) (cwV 1 hts gf_c_X4_readAtom_c_X4_emit_1 rfl rfl rfl mdV_X4_emit ⟨Nat.le_of_ble_eq_true rfl, Nat.le_of_ble_eq_true rfl⟩) ⟨fun a U g mk q => by obtain ⟨q0, q1, qP, qK, qD⟩ := q; exact ⟨q0, q1, qP, va_K.moved (u := U) (U := U.calling g mk a) (Vm.Alike.refl U.vm) qK, qD⟩, hrv, fun U hU hW => ⟨rfl, by rw [hU], by rw [hU]; exact hPc, va_K.moved hW.alike hKc, hDc.weaken (fun _ _ _ _ => trivial)⟩⟩ rfl rfl hl.1 rfl (lv_room (Nat.le_of_ble_eq_true rfl)) dX4_readAtom_68 ⟨Nat.le_of_ble_eq_true rfl, Nat.le_of_ble_eq_true rfl⟩) hS (fun q _ h => hFc q h) hFc (fun u t H1 locs ht hvm hw hB hz1 hk1 hS => ?_)
    obtain ⟨x_23, w_24⟩ := u
    obtain ⟨hP1, hK1, hD1⟩ := hB
    rw [ht] at hP1
    obtain ⟨hP, hD⟩ := cl_put (w1 := (wd_c_X4_emit_1 h0 h0_0 x_23 h0_2 h0_0 h0_0k w_24)) (nw := (wd_c_X4_readAtom h1 h1_0 h1_f1 j65b_h1_f2 j65b_h1_f3 h1_0 h1_0k h1_0c h0 h0_0 x_23 h0_2 h0_0 h0_0k w_24)) hP hD [2, 3] [0, 1, 4, 5] 4 rfl hqc (by decide +kernel) rfl hk1 hFc hP1 hD1
    generalize H1 = H at hP hS ⊢
    as_aux_lemma =>
    have h_25 := hw
    refine lv_goto (tgt := 105) hx hb dX4_readAtom_71 rfl ?_
    have hK9 := hK.sub (tys' := []) [] rfl
    exact W.vret hx hb hr (fun t ht hW => ⟨⟨(j65b_h1_f2, j65b_h1_f3, x_23, w_24), rfl, ⟨g_j65b_h1_f2, g_j65b_h1_f3, (RG_w h_25 (by decide +kernel))⟩, by rw [ht]; exact hP, va_K.moved hW.alike hK9, hD⟩, hS.F ht⟩) hS.2.2 dX4_readAtom_105
  have J20b : ∀ (j20b_l3 : Int32) (j20b_h1_f2 : Int32) (g_h0_f1 : RG h0_f1 0 240) (g_h1_f1 : RG h1_f1 1 240) (g_h1_f2 : RG h1_f2 0 240) (g_h1_f3 : RG h1_f3 (-1) 240) (g_j20b_h1_f2 : RG j20b_h1_f2 0 239) (g_j20b_l3 : RG j20b_l3 0 255) (H : Heap) (locs : List Loc) (ls : Array Slot) (hP : va_P (dC, dI) vwCl (wd_c_X4_readAtom h1 h1_0 h1_f1 j20b_h1_f2 h1_f3 h1_0 h1_0k h1_0c h0 h0_0 h0_f1 h0_2 h0_0 h0_0k h0_0c) H) (hD : va_D A (wd_c_X4_readAtom h1 h1_0 h1_f1 j20b_h1_f2 h1_f3 h1_0 h1_0k h1_0c h0 h0_0 h0_f1 h0_2 h0_0 h0_0k h0_0c)) (hS : va_S A s.heap H locs) (hl : lv_has ls 6 [(3, .int j20b_l3), (0, .ref h0), (1, .ref h1), (2, .int 0)]), G H locs (F0 m 20 ls [.int (-1)]) := by
    as_aux_lemma =>
    intro j20b_l3 j20b_h1_f2 g_h0_f1 g_h1_f1 g_h1_f2 g_h1_f3 g_j20b_h1_f2 g_j20b_l3 H locs ls hP hD hS hl
    refine hG _ _ _ ?_
    refine lv_istore (lv' := [(4, .int (-1)), (3, .int j20b_l3), (0, .ref h0), (1, .ref h1), (2, .int 0)]) hx hb dX4_readAtom_20 hl (Nat.le_of_ble_eq_true rfl) rfl (fun ls hl => ?_)
    refine lv_iload hx hb dX4_readAtom_22 (lv_at hl 0 rfl) ?_
    refine lv_if_lt (tgt := 42) hx hb dX4_readAtom_24 rfl (fun c_26 => ?_) (fun c_26 => absurd c_26 (by decide +kernel))
    refine lv_iload_n hx hb dX4_readAtom_42 rfl (lv_at hl 1 rfl) ?_
    refine lv_bipush (v := 91) hx hb dX4_readAtom_43 kc_bipush_91 ?_
    refine lv_icmp_eq (tgt := 74) hx hb dX4_readAtom_45 rfl (fun c_27 => ?_) (fun c_27 => ?_)
    · have g_28 : RG j20b_l3 91 91 := RG_eq1 g_j20b_l3 (RG_k 91 91 rfl) c_27 (by decide +kernel)
      refine lv_iload_n hx hb dX4_readAtom_74 rfl (lv_at hl 4 rfl) ?_
      refine lv_bipush (v := 6) hx hb dX4_readAtom_75 kc_bipush_6 ?_
      refine lv_icmp_lt (tgt := 87) hx hb dX4_readAtom_77 rfl (fun c_29 => ?_) (fun c_29 => absurd c_29 (by decide +kernel))
      refine lv_aload_n hx hb dX4_readAtom_87 rfl (lv_at hl 3 rfl) ?_
      obtain ⟨hPc, hDc, hFc, hqc⟩ := cl_cut (wc := (wd_c_X9_skip h1 h1_0 h1_f1 j20b_h1_f2 h1_f3)) hP hD hS hA [0] (by decide +kernel) rfl
      have hKc := hK.sub (tys' := []) [] rfl
      have hrv := va_recv hKc hPc (ci := 9) (q0 := 0) rfl rfl
      refine va_callv (va_runV (As := []) (rest := []) ⟨hx, hb, hml, hown, hts⟩ (c_X9_skip l dC dI H.size h1 h1_0 h1_f1 j20b_h1_f2 h1_f3 (RG_w g_h1_f1 (by decide +kernel)) g_j20b_h1_f2 g_h1_f3) (cwV 0 hts gf_c_X4_readAtom_c_X9_skip rfl rfl rfl mdV_X9_skip ⟨Nat.le_of_ble_eq_true rfl, Nat.le_of_ble_eq_true rfl⟩) ⟨fun a U g mk q => by obtain ⟨q0, q1, qP, qK, qD⟩ := q; exact ⟨q0, q1, qP, va_K.moved (u := U) (U := U.calling g mk a) (Vm.Alike.refl U.vm) qK, qD⟩, hrv, fun U hU hW => ⟨rfl, by rw [hU], by rw [hU]; exact hPc, va_K.moved hW.alike hKc, hDc.weaken (fun _ _ _ _ => trivial)⟩⟩ rfl rfl hl.1 rfl (lv_room (Nat.le_of_ble_eq_true rfl)) dX4_readAtom_88 ⟨Nat.le_of_ble_eq_true rfl, Nat.le_of_ble_eq_true rfl⟩) hS (fun q _ h => hFc q h) hFc (fun x_31 t H1 locs ht hvm hw hB hz1 hk1 hS => ?_)
      as_aux_lemma =>
      obtain ⟨hP1, hK1, hD1⟩ := hB
      rw [ht] at hP1
      obtain ⟨hP, hD⟩ := cl_put (w1 := (wd_c_X9_skip h1 h1_0 h1_f1 x_31 h1_f3)) (nw := (wd_c_X4_readAtom h1 h1_0 h1_f1 x_31 h1_f3 h1_0 h1_0k h1_0c h0 h0_0 h0_f1 h0_2 h0_0 h0_0k h0_0c)) hP hD [0] [4, 1, 2, 3] 4 rfl hqc (by decide +kernel) rfl hk1 hFc hP1 hD1
      generalize H1 = H at hP hS ⊢
      as_aux_lemma =>
      rcases hw with ⟨h_32, h_33, h_34⟩
      refine lv_aload_n hx hb dX4_readAtom_91 rfl (lv_at hl 2 rfl) ?_
      refine lv_aload_n hx hb dX4_readAtom_92 rfl (lv_at hl 3 rfl) ?_
      refine lv_iload_n hx hb dX4_readAtom_93 rfl (lv_at hl 4 rfl) ?_
      refine lv_iconst (v := 1) hx hb dX4_readAtom_94 kc_iconst_1 ?_
      refine lv_iadd hx hb dX4_readAtom_95 ?_
      refine lv_topi (fun x_35 ex_35 => ?_)
      obtain rfl : x_35 = 1 := ex_35.trans (by decide +kernel)
      obtain ⟨hPc, hDc, hFc, hqc⟩ := cl_cut (wc := (wd_c_X4_readSum_1 h1 h1_0 h1_f1 x_31 h1_f3 h1_0 h1_0k h1_0c h0 h0_0 h0_f1 h0_2 h0_0 h0_0k h0_0c)) hP hD hS hA [0, 1, 2, 3] (by decide +kernel) rfl
      have hKc := hK.sub (tys' := [(h1_0k, .int), (h0_0k, .int)]) [0, 1] rfl
      have hrv := va_recv hKc hPc (ci := 4) (q0 := 2) rfl rfl
      refine va_callv (va_runV (As := [.ref h1, .int 1]) (rest := []) ⟨hx, hb, hml, hown, hts⟩ (c_X4_readSum_1 l dC dI H.size h0 h1 h1_0 h1_f1 x_31 h1_f3 h1_0k h1_0c h0_0 h0_f1 h0_2 h0_0k h0_0c ts4 tv4 (RG_w g_h1_f1 (by decide +kernel)) (RG_w h_32 (by decide +kernel)) g_h1_f3 a_h1_0c g_h0_f1) (cwV 2 hts gf_c_X4_readAtom_c_X4_readSum_1 rfl rfl rfl mdV_X4_readSum ⟨Nat.le_of_ble_eq_true rfl, Nat.le_of_ble_eq_true rfl⟩) ⟨fun a U g mk q => by obtain ⟨q0, q1, qP, qK, qD, qE0, qE1, qE2, qE3, qE4, qE5⟩ := q; exact ⟨q0, q1, qP, va_K.moved (u := U) (U := U.calling g mk a) (Vm.Alike.refl U.vm) qK, qD, vk_R.same rfl qE0, va_Z.moved (u := U) (U := U.calling g mk a) (Vm.Alike.refl U.vm) qE1, va_OF.moved (u := U) (U := U.calling g mk a) (Vm.Alike.refl U.vm) qE2, va_O.moved (u := U) (U := U.calling g mk a) (Vm.Alike.refl U.vm) qE3, va_OF.moved (u := U) (U := U.calling g mk a) (Vm.Alike.refl U.vm) qE4, va_T.moved (u := U) (U := U.calling g mk a) (Vm.Alike.refl U.vm) qE5⟩, hrv, fun U hU hW => ⟨rfl, by rw [hU], by rw [hU]; exact hPc, va_K.moved hW.alike hKc, hDc.weaken (fun _ _ _ _ => trivial), vk_R.warm hW hE_32, va_Z.moved hW.alike (by rw [hU]; exact (hE_10.kept hS.2.1).narrow hFc), va_OF.moved hW.alike (by rw [hU]; exact (hE_34.kept hS.2.1).narrow hFc), va_O.moved hW.alike (by rw [hU]; exact (hE_33.kept hS.2.1).narrow hFc), va_OF.moved hW.alike (by rw [hU]; exact (hE_35.kept hS.2.1).narrow hFc), va_T.moved hW.alike (by rw [hU]; exact (hE_36.kept hS.2.1).narrow hFc)⟩⟩ rfl rfl hl.1 rfl (lv_room (Nat.le_of_ble_eq_true rfl)) dX4_readAtom_96 ⟨Nat.le_of_ble_eq_true rfl, Nat.le_of_ble_eq_true rfl⟩) hS (fun q _ h => hFc q h) hFc (fun u t H1 locs ht hvm hw hB hz1 hk1 hS => ?_)
      obtain ⟨x_37, x_38, x_39, w_40⟩ := u
      obtain ⟨hP1, hK1, hD1⟩ := hB
      rw [ht] at hP1
      obtain ⟨hP, hD⟩ := cl_put (w1 := (wd_c_X4_readSum_1 h1 h1_0 h1_f1 x_37 x_38 h1_0 h1_0k h1_0c h0 h0_0 x_39 h0_2 h0_0 h0_0k w_40)) (nw := (wd_c_X4_readAtom h1 h1_0 h1_f1 x_37 x_38 h1_0 h1_0k h1_0c h0 h0_0 x_39 h0_2 h0_0 h0_0k w_40)) hP hD [0, 1, 2, 3] [4, 5, 6, 7] 4 rfl hqc (by decide +kernel) rfl hk1 hFc hP1 hD1
      generalize H1 = H at hP hS ⊢
      as_aux_lemma =>
      rcases hw with ⟨h_41, h_42, h_43⟩
      refine lv_aload_n hx hb dX4_readAtom_99 rfl (lv_at hl 3 rfl) ?_
      refine lv_bipush (v := 93) hx hb dX4_readAtom_100 kc_bipush_93 ?_
      obtain ⟨hPc, hDc, hFc, hqc⟩ := cl_cut (wc := (wd_c_X9_expect_2 h1 h1_0 h1_f1 x_37 x_38 h1_0 h1_0k h1_0c)) hP hD hS hA [0, 1] (by decide +kernel) rfl
      have hKc := hK.sub (tys' := [(h1_0k, .int)]) [0] rfl
      have hrv := va_recv hKc hPc (ci := 9) (q0 := 0) rfl rfl
      refine va_callv (va_runV (As := [.int 93]) (rest := []) ⟨hx, hb, hml, hown, hts⟩ (c_X9_expect_2 l dC dI H.size h1 93 h1_0 h1_f1 x_37 x_38 h1_0k h1_0c (RG_w (RG_k 93 93 rfl) (by decide +kernel)) (RG_w g_h1_f1 (by decide +kernel)) h_41 h_42 a_h1_0c) (cwV 1 hts gf_c_X4_readAtom_c_X9_expect_2 rfl rfl rfl mdV_X9_expect ⟨Nat.le_of_ble_eq_true rfl, Nat.le_of_ble_eq_true rfl⟩) ⟨fun a U g mk q => by obtain ⟨q0, q1, qP, qK, qD⟩ := q; exact ⟨q0, q1, qP, va_K.moved (u := U) (U := U.calling g mk a) (Vm.Alike.refl U.vm) qK, qD⟩, hrv, fun U hU hW => ⟨rfl, by rw [hU], by rw [hU]; exact hPc, va_K.moved hW.alike hKc, hDc.weaken (fun _ _ _ _ => trivial)⟩⟩ rfl rfl hl.1 rfl (lv_room (Nat.le_of_ble_eq_true rfl)) dX4_readAtom_102 ⟨Nat.le_of_ble_eq_true rfl, Nat.le_of_ble_eq_true rfl⟩) hS (fun q _ h => hFc q h) hFc (fun u t H1 locs ht hvm hw hB hz1 hk1 hS => ?_)
      obtain ⟨x_45, x_46⟩ := u
      obtain ⟨hP1, hK1, hD1⟩ := hB
      rw [ht] at hP1
      obtain ⟨hP, hD⟩ := cl_put (w1 := (wd_c_X9_expect_2 h1 h1_0 h1_f1 x_45 x_46 h1_0 h1_0k h1_0c)) (nw := (wd_c_X4_readAtom h1 h1_0 h1_f1 x_45 x_46 h1_0 h1_0k h1_0c h0 h0_0 x_39 h0_2 h0_0 h0_0k w_40)) hP hD [0, 1] [4, 5, 2, 3] 4 rfl hqc (by decide +kernel) rfl hk1 hFc hP1 hD1
      generalize H1 = H at hP hS ⊢
      as_aux_lemma =>
      rcases hw with ⟨h_47, h_48, h_49⟩
      have hK9 := hK.sub (tys' := []) [] rfl
      exact W.vret hx hb hr (fun t ht hW => ⟨⟨(x_45, x_46, x_39, w_40), rfl, ⟨h_47, h_48, h_43⟩, by rw [ht]; exact hP, va_K.moved hW.alike hK9, hD⟩, hS.F ht⟩) hS.2.2 dX4_readAtom_105
    · refine lv_aload_n hx hb dX4_readAtom_48 rfl (lv_at hl 3 rfl) ?_
      refine lv_iconst (v := 4) hx hb dX4_readAtom_49 kc_iconst_4 ?_
      obtain ⟨hPc, hDc, hFc, hqc⟩ := cl_cut (wc := (wd_c_X9_number_1 h1 h1_0 h1_f1 j20b_h1_f2 h1_f3 h1_0 h1_0k h1_0c)) hP hD hS hA [0, 1] (by decide +kernel) rfl
      have hKc := hK.sub (tys' := [(h1_0k, .int)]) [0] rfl
      have hrv := va_recv hKc hPc (ci := 9) (q0 := 0) rfl rfl
      refine va_calli (va_runV (As := [.int 4]) (rest := []) ⟨hx, hb, hml, hown, hts⟩ (c_X9_number_1 l dC dI H.size h1 h1_0 h1_f1 j20b_h1_f2 h1_f3 h1_0k h1_0c (RG_w g_h1_f1 (by decide +kernel)) (RG_w g_j20b_h1_f2 (by decide +kernel)) g_h1_f3 a_h1_0c) (cwV 1 hts gf_c_X4_readAtom_c_X9_number_1 rfl rfl rfl mdV_X9_number ⟨Nat.le_of_ble_eq_true rfl, Nat.le_of_ble_eq_true rfl⟩) ⟨fun a U g mk q => by obtain ⟨q0, q1, qP, qK, qD⟩ := q; exact ⟨q0, q1, qP, va_K.moved (u := U) (U := U.calling g mk a) (Vm.Alike.refl U.vm) qK, qD⟩, hrv, fun U hU hW => ⟨rfl, by rw [hU], by rw [hU]; exact hPc, va_K.moved hW.alike hKc, hDc.weaken (fun _ _ _ _ => trivial)⟩⟩ rfl rfl hl.1 rfl (lv_room (Nat.le_of_ble_eq_true rfl)) dX4_readAtom_50 ⟨Nat.le_of_ble_eq_true rfl, Nat.le_of_ble_eq_true rfl⟩) hS (fun q _ h => hFc q h) hFc (fun r_50 x_51 t H1 locs ht hvm hw hB hz1 hk1 hS => ?_)
      obtain ⟨hP1, hK1, hD1⟩ := hB
      rw [ht] at hP1
      obtain ⟨hP, hD⟩ := cl_put (w1 := (wd_c_X9_number_1 h1 h1_0 h1_f1 x_51 h1_f3 h1_0 h1_0k h1_0c)) (nw := (wd_c_X4_readAtom h1 h1_0 h1_f1 x_51 h1_f3 h1_0 h1_0k h1_0c h0 h0_0 h0_f1 h0_2 h0_0 h0_0k h0_0c)) hP hD [0, 1] [4, 5, 2, 3] 4 rfl hqc (by decide +kernel) rfl hk1 hFc hP1 hD1
      generalize H1 = H at hP hS ⊢
      as_aux_lemma =>
      rcases hw with ⟨h_52, h_53, h_54⟩ | ⟨h_55, h_56, h_57, h_58, h_59⟩
      · rw [h_52]
        refine lv_istore (lv' := [(5, .int (-1)), (4, .int (-1)), (3, .int j20b_l3), (0, .ref h0), (1, .ref h1), (2, .int 0)]) hx hb dX4_readAtom_53 hl (Nat.le_of_ble_eq_true rfl) rfl (fun ls hl => ?_)
        refine lv_iload hx hb dX4_readAtom_55 (lv_at hl 0 rfl) ?_
        refine lv_iconst (v := (-1)) hx hb dX4_readAtom_57 kc_iconst_m1 ?_
        refine lv_icmp_ne (tgt := 65) hx hb dX4_readAtom_58 rfl (fun c_60 => absurd c_60 (by decide +kernel)) (fun c_60 => ?_)
        refine lv_aload_n hx hb dX4_readAtom_61 rfl (lv_at hl 4 rfl) ?_
        obtain ⟨hPc, hDc, hFc, hqc⟩ := cl_cut (wc := (wd_c_X9_refuseHere h1 h1_0 h1_f1 x_51 h1_f3)) hP hD hS hA [0] (by decide +kernel) rfl
        have hKc := hK.sub (tys' := []) [] rfl
        have hrv := va_recv hKc hPc (ci := 9) (q0 := 0) rfl rfl
        refine va_callv (va_runV (As := []) (rest := []) ⟨hx, hb, hml, hown, hts⟩ (c_X9_refuseHere l dC dI H.size h1 h1_0 h1_f1 x_51 h1_f3 (RG_w g_h1_f1 (by decide +kernel)) h_53 g_h1_f3) (cwV 0 hts gf_c_X4_readAtom_c_X9_refuseHere rfl rfl rfl mdV_X9_refuseHere ⟨Nat.le_of_ble_eq_true rfl, Nat.le_of_ble_eq_true rfl⟩) ⟨fun a U g mk q => by obtain ⟨q0, q1, qP, qK, qD⟩ := q; exact ⟨q0, q1, qP, va_K.moved (u := U) (U := U.calling g mk a) (Vm.Alike.refl U.vm) qK, qD⟩, hrv, fun U hU hW => ⟨rfl, by rw [hU], by rw [hU]; exact hPc, va_K.moved hW.alike hKc, hDc.weaken (fun _ _ _ _ => trivial)⟩⟩ rfl rfl hl.1 rfl (lv_room (Nat.le_of_ble_eq_true rfl)) dX4_readAtom_62 ⟨Nat.le_of_ble_eq_true rfl, Nat.le_of_ble_eq_true rfl⟩) hS (fun q _ h => hFc q h) hFc (fun x_62 t H1 locs ht hvm hw hB hz1 hk1 hS => ?_)
        obtain ⟨hP1, hK1, hD1⟩ := hB
        rw [ht] at hP1
        obtain ⟨hP, hD⟩ := cl_put (w1 := (wd_c_X9_refuseHere h1 h1_0 h1_f1 x_51 x_62)) (nw := (wd_c_X4_readAtom h1 h1_0 h1_f1 x_51 x_62 h1_0 h1_0k h1_0c h0 h0_0 h0_f1 h0_2 h0_0 h0_0k h0_0c)) hP hD [0] [4, 1, 2, 3] 4 rfl hqc (by decide +kernel) rfl hk1 hFc hP1 hD1
        generalize H1 = H at hP hS ⊢
        as_aux_lemma =>
        have h_63 := hw
        exact hU _ _ _ (J65b (-1) x_51 x_62 g_h0_f1 g_h1_f1 g_h1_f2 g_h1_f3 h_53 (RG_w h_63 (by decide +kernel)) (RG_w (RG_k (-1) (-1) rfl) (by decide +kernel)) _ _ _ hP hD hS (lv_sub hl [0, 3] rfl))
      · refine lv_istore (lv' := [(5, .int r_50), (4, .int (-1)), (3, .int j20b_l3), (0, .ref h0), (1, .ref h1), (2, .int 0)]) hx hb dX4_readAtom_53 hl (Nat.le_of_ble_eq_true rfl) rfl (fun ls hl => ?_)
        refine lv_iload hx hb dX4_readAtom_55 (lv_at hl 0 rfl) ?_
        refine lv_iconst (v := (-1)) hx hb dX4_readAtom_57 kc_iconst_m1 ?_
        refine lv_icmp_ne (tgt := 65) hx hb dX4_readAtom_58 rfl (fun c_64 => ?_) (fun c_64 => ?_)
        · exact hU _ _ _ (J65b r_50 x_51 h1_f3 g_h0_f1 g_h1_f1 g_h1_f2 g_h1_f3 (RG_w h_56 (by decide +kernel)) g_h1_f3 (RG_w h_55 (by decide +kernel)) _ _ _ hP hD hS (lv_sub hl [0, 3] rfl))
        · exact RG_dead (RG_eq1 h_55 (RG_k (-1) (-1) rfl) c_64 (a' := 0) (b' := (-1)) (by decide +kernel)) (by decide +kernel)
  have J20c : ∀ (j20c_l3 : Int32) (j20c_s0 : Int32) (j20c_h1_f2 : Int32) (g_h0_f1 : RG h0_f1 0 240) (g_h1_f1 : RG h1_f1 1 240) (g_h1_f2 : RG h1_f2 0 240) (g_h1_f3 : RG h1_f3 (-1) 240) (g_j20c_h1_f2 : RG j20c_h1_f2 0 239) (g_j20c_l3 : RG j20c_l3 0 255) (g_j20c_s0 : RG j20c_s0 0 5) (H : Heap) (locs : List Loc) (ls : Array Slot) (hP : va_P (dC, dI) vwCl (wd_c_X4_readAtom h1 h1_0 h1_f1 j20c_h1_f2 h1_f3 h1_0 h1_0k h1_0c h0 h0_0 h0_f1 h0_2 h0_0 h0_0k h0_0c) H) (hD : va_D A (wd_c_X4_readAtom h1 h1_0 h1_f1 j20c_h1_f2 h1_f3 h1_0 h1_0k h1_0c h0 h0_0 h0_f1 h0_2 h0_0 h0_0k h0_0c)) (hS : va_S A s.heap H locs) (hl : lv_has ls 6 [(3, .int j20c_l3), (0, .ref h0), (1, .ref h1), (2, .int 0)]), G H locs (F0 m 20 ls [.int j20c_s0]) := by
    as_aux_lemma =>
    intro j20c_l3 j20c_s0 j20c_h1_f2 g_h0_f1 g_h1_f1 g_h1_f2 g_h1_f3 g_j20c_h1_f2 g_j20c_l3 g_j20c_s0 H locs ls hP hD hS hl
    refine hG _ _ _ ?_
    refine lv_istore (lv' := [(4, .int j20c_s0), (3, .int j20c_l3), (0, .ref h0), (1, .ref h1), (2, .int 0)]) hx hb dX4_readAtom_20 hl (Nat.le_of_ble_eq_true rfl) rfl (fun ls hl => ?_)
    refine lv_iload hx hb dX4_readAtom_22 (lv_at hl 0 rfl) ?_
    refine lv_if_lt (tgt := 42) hx hb dX4_readAtom_24 rfl (fun c_65 => ?_) (fun c_65 => ?_)
    · have g_66 : RG j20c_s0 0 (-1) := RG_lt1 g_j20c_s0 (RG_k 0 0 rfl) c_65 (by decide +kernel)
      exact RG_dead (RG_lt1 g_j20c_s0 (RG_k 0 0 rfl) c_65 (b' := (-1)) (by decide +kernel)) (by decide +kernel)
    · have d_67 := Int32.not_lt.mp c_65
      refine lv_aload_n hx hb dX4_readAtom_27 rfl (lv_at hl 3 rfl) ?_
      obtain ⟨hPc, hDc, hFc, hqc⟩ := cl_cut (wc := (wd_c_X9_skip h1 h1_0 h1_f1 j20c_h1_f2 h1_f3)) hP hD hS hA [0] (by decide +kernel) rfl
      have hKc := hK.sub (tys' := []) [] rfl
      have hrv := va_recv hKc hPc (ci := 9) (q0 := 0) rfl rfl
      refine va_callv (va_runV (As := []) (rest := []) ⟨hx, hb, hml, hown, hts⟩ (c_X9_skip l dC dI H.size h1 h1_0 h1_f1 j20c_h1_f2 h1_f3 (RG_w g_h1_f1 (by decide +kernel)) g_j20c_h1_f2 g_h1_f3) (cwV 0 hts gf_c_X4_readAtom_c_X9_skip rfl rfl rfl mdV_X9_skip ⟨Nat.le_of_ble_eq_true rfl, Nat.le_of_ble_eq_true rfl⟩) ⟨fun a U g mk q => by obtain ⟨q0, q1, qP, qK, qD⟩ := q; exact ⟨q0, q1, qP, va_K.moved (u := U) (U := U.calling g mk a) (Vm.Alike.refl U.vm) qK, qD⟩, hrv, fun U hU hW => ⟨rfl, by rw [hU], by rw [hU]; exact hPc, va_K.moved hW.alike hKc, hDc.weaken (fun _ _ _ _ => trivial)⟩⟩ rfl rfl hl.1 rfl (lv_room (Nat.le_of_ble_eq_true rfl)) dX4_readAtom_28 ⟨Nat.le_of_ble_eq_true rfl, Nat.le_of_ble_eq_true rfl⟩) hS (fun q _ h => hFc q h) hFc (fun x_69 t H1 locs ht hvm hw hB hz1 hk1 hS => ?_)
      obtain ⟨hP1, hK1, hD1⟩ := hB
      rw [ht] at hP1
      obtain ⟨hP, hD⟩ := cl_put (w1 := (wd_c_X9_skip h1 h1_0 h1_f1 x_69 h1_f3)) (nw := (wd_c_X4_readAtom h1 h1_0 h1_f1 x_69 h1_f3 h1_0 h1_0k h1_0c h0 h0_0 h0_f1 h0_2 h0_0 h0_0k h0_0c)) hP hD [0] [4, 1, 2, 3] 4 rfl hqc (by decide +kernel) rfl hk1 hFc hP1 hD1
      generalize H1 = H at hP hS ⊢
      as_aux_lemma =>
      rcases hw with ⟨h_70, h_71, h_72⟩
      refine lv_aload_n hx hb dX4_readAtom_31 rfl (lv_at hl 2 rfl) ?_
      refine lv_iconst (v := (-1)) hx hb dX4_readAtom_32 kc_iconst_m1 ?_
      refine lv_iload hx hb dX4_readAtom_33 (lv_at hl 0 rfl) ?_
      refine lv_isub hx hb dX4_readAtom_35 ?_
      refine lv_topi (fun x_73 ex_73 => ?_)
      have g_74 : RG x_73 (-6) (-1) := RG_sub ex_73 (RG_k (-1) (-1) rfl) g_j20c_s0 (by decide +kernel)
      obtain ⟨hPc, hDc, hFc, hqc⟩ := cl_cut (wc := (wd_c_X4_emit h0 h0_0 h0_f1 h0_2 h0_0 h0_0k h0_0c)) hP hD hS hA [2, 3] (by decide +kernel) rfl
      have hKc := hK.sub (tys' := [(h0_0k, .int)]) [1] rfl
      have hrv := va_recv hKc hPc (ci := 4) (q0 := 0) rfl rfl
      refine va_callv (va_runV (As := [.int x_73]) (rest := []) ⟨hx, hb, hml, hown, hts⟩ (c_X4_emit l dC dI H.size h0 x_73 h0_0 h0_f1 h0_2 h0_0k h0_0c g_h0_f1) (cwV 1 hts gf_c_X4_readAtom_c_X4_emit rfl rfl rfl mdV_X4_emit ⟨Nat.le_of_ble_eq_true rfl, Nat.le_of_ble_eq_true rfl⟩) ⟨fun a U g mk q => by obtain ⟨q0, q1, qP, qK, qD⟩ := q; exact ⟨q0, q1, qP, va_K.moved (u := U) (U := U.calling g mk a) (Vm.Alike.refl U.vm) qK, qD⟩, hrv, fun U hU hW => ⟨rfl, by rw [hU], by rw [hU]; exact hPc, va_K.moved hW.alike hKc, hDc.weaken (fun _ _ _ _ => trivial)⟩⟩ rfl rfl hl.1 rfl (lv_room (Nat.le_of_ble_eq_true rfl)) dX4_readAtom_36 ⟨Nat.le_of_ble_eq_true rfl, Nat.le_of_ble_eq_true rfl⟩) hS (fun q _ h => hFc q h) hFc (fun u t H1 locs ht hvm hw hB hz1 hk1 hS => ?_)
      obtain ⟨x_76, w_77⟩ := u
      obtain ⟨hP1, hK1, hD1⟩ := hB
      rw [ht] at hP1
      obtain ⟨hP, hD⟩ := cl_put (w1 := (wd_c_X4_emit h0 h0_0 x_76 h0_2 h0_0 h0_0k w_77)) (nw := (wd_c_X4_readAtom h1 h1_0 h1_f1 x_69 h1_f3 h1_0 h1_0k h1_0c h0 h0_0 x_76 h0_2 h0_0 h0_0k w_77)) hP hD [2, 3] [0, 1, 4, 5] 4 rfl hqc (by decide +kernel) rfl hk1 hFc hP1 hD1
      generalize H1 = H at hP hS ⊢
      as_aux_lemma =>
      have h_78 := hw
      refine lv_goto (tgt := 105) hx hb dX4_readAtom_39 rfl ?_
      have hK9 := hK.sub (tys' := []) [] rfl
      exact W.vret hx hb hr (fun t ht hW => ⟨⟨(x_69, h1_f3, x_76, w_77), rfl, ⟨(RG_w h_70 (by decide +kernel)), g_h1_f3, (RG_w h_78 (by decide +kernel))⟩, by rw [ht]; exact hP, va_K.moved hW.alike hK9, hD⟩, hS.F ht⟩) hS.2.2 dX4_readAtom_105
  refine hG _ _ _ ?_
  refine lv_aload_n hx hb dX4_readAtom_0 rfl (lv_at hl 1 rfl) ?_
  obtain ⟨hPc, hDc, hFc, hqc⟩ := cl_cut (wc := (wd_c_X9_peek h1 h1_0 h1_f1 h1_f2 h1_f3 h1_0 h1_0k h1_0c)) hP hD hS hA [0, 1] (by decide +kernel) rfl
  have hKc := hK.sub (tys' := [(h1_0k, .int)]) [0] rfl
  have hrv := va_recv hKc hPc (ci := 9) (q0 := 0) rfl rfl
  refine va_calli (va_runV (As := []) (rest := []) ⟨hx, hb, hml, hown, hts⟩ (c_X9_peek l dC dI H.size h1 h1_0 h1_f1 h1_f2 h1_f3 h1_0k h1_0c g_h1_f1 g_h1_f2 g_h1_f3 a_h1_0c) (cwV 0 hts gf_c_X4_readAtom_c_X9_peek rfl rfl rfl mdV_X9_peek ⟨Nat.le_of_ble_eq_true rfl, Nat.le_of_ble_eq_true rfl⟩) ⟨fun a U g mk q => by obtain ⟨q0, q1, qP, qK, qD⟩ := q; exact ⟨q0, q1, qP, va_K.moved (u := U) (U := U.calling g mk a) (Vm.Alike.refl U.vm) qK, qD⟩, hrv, fun U hU hW => ⟨rfl, by rw [hU], by rw [hU]; exact hPc, va_K.moved hW.alike hKc, hDc.weaken (fun _ _ _ _ => trivial)⟩⟩ rfl rfl hl.1 rfl (lv_room (Nat.le_of_ble_eq_true rfl)) dX4_readAtom_1 ⟨Nat.le_of_ble_eq_true rfl, Nat.le_of_ble_eq_true rfl⟩) hS (fun q _ h => hFc q h) hFc (fun r_79 x_80 t H1 locs ht hvm hw hB hz1 hk1 hS => ?_)
  obtain ⟨hP1, hK1, hD1⟩ := hB
  rw [ht] at hP1
  obtain ⟨hP, hD⟩ := cl_put (w1 := (wd_c_X9_peek h1 h1_0 h1_f1 x_80 h1_f3 h1_0 h1_0k h1_0c)) (nw := (wd_c_X4_readAtom h1 h1_0 h1_f1 x_80 h1_f3 h1_0 h1_0k h1_0c h0 h0_0 h0_f1 h0_2 h0_0 h0_0k h0_0c)) hP hD [0, 1] [4, 5, 2, 3] 4 rfl hqc (by decide +kernel) rfl hk1 hFc hP1 hD1
  generalize H1 = H at hP hS ⊢
  as_aux_lemma =>
  rcases hw with ⟨h_81, h_82, h_83⟩ | ⟨h_84, h_85, h_86, h_87⟩
  · rw [h_81]
    refine lv_istore_n (lv' := [(3, .int (-1)), (0, .ref h0), (1, .ref h1), (2, .int 0)]) hx hb dX4_readAtom_4 rfl hl (Nat.le_of_ble_eq_true rfl) rfl (fun ls hl => ?_)
    refine lv_iload_n hx hb dX4_readAtom_5 rfl (lv_at hl 0 rfl) ?_
    refine lv_if_ge (tgt := 13) hx hb dX4_readAtom_6 rfl (fun c_88 => absurd c_88 (by decide +kernel)) (fun c_88 => ?_)
    refine lv_iconst (v := (-1)) hx hb dX4_readAtom_9 kc_iconst_m1 ?_
    refine lv_goto (tgt := 20) hx hb dX4_readAtom_10 rfl ?_
    exact hU _ _ _ (J20 x_80 g_h0_f1 g_h1_f1 g_h1_f2 g_h1_f3 h_82 _ _ _ hP hD hS (lv_sub hl [0, 1, 2, 3] rfl))
  · refine lv_istore_n (lv' := [(3, .int r_79), (0, .ref h0), (1, .ref h1), (2, .int 0)]) hx hb dX4_readAtom_4 rfl hl (Nat.le_of_ble_eq_true rfl) rfl (fun ls hl => ?_)
    refine lv_iload_n hx hb dX4_readAtom_5 rfl (lv_at hl 0 rfl) ?_
    refine lv_if_ge (tgt := 13) hx hb dX4_readAtom_6 rfl (fun c_89 => ?_) (fun c_89 => ?_)
    · refine va_ldcS hx hb hown hE_32 dX4_readAtom_13 ?_
      refine lv_iload_n hx hb dX4_readAtom_15 rfl (lv_at hl 0 rfl) ?_
      refine lv_i2c hx hb dX4_readAtom_16 rfl ?_
      as_aux_lemma =>
      refine lv_topi (fun x_90 ex_90 => ?_)
      have g_91 : RG x_90 0 65535 := RG_i2c ex_90
      obtain ⟨hPc, hDc, hFc, hqc⟩ := cl_cut (wc := []) hP hD hS hA [] (by decide +kernel) rfl
      have hKc := hK.sub (tys' := []) [] rfl
      have hrv := bv_Orecv hE_33 hS
      refine va_calli (va_runV (As := [.int x_90]) (rest := []) ⟨hx, hb, hml, hown, hts⟩ (c_J0_indexOf_0f7a4_4 l dC dI H.size ts4 x_90 tv4 g_91) (cwV 1 hts gf_c_X4_readAtom_c_J0_indexOf_0f7a4_4 rfl rfl rfl mdV_J0_indexOf_0f7a4 ⟨Nat.le_of_ble_eq_true rfl, Nat.le_of_ble_eq_true rfl⟩) ⟨fun a U g mk q => by obtain ⟨q0, q1, qP, qK, qD, qE0, qE1, qE2, qE3, qE4⟩ := q; exact ⟨q0, q1, qP, va_K.moved (u := U) (U := U.calling g mk a) (Vm.Alike.refl U.vm) qK, qD, va_Z.moved (u := U) (U := U.calling g mk a) (Vm.Alike.refl U.vm) qE0, va_OF.moved (u := U) (U := U.calling g mk a) (Vm.Alike.refl U.vm) qE1, va_O.moved (u := U) (U := U.calling g mk a) (Vm.Alike.refl U.vm) qE2, va_OF.moved (u := U) (U := U.calling g mk a) (Vm.Alike.refl U.vm) qE3, va_T.moved (u := U) (U := U.calling g mk a) (Vm.Alike.refl U.vm) qE4⟩, hrv, fun U hU hW => ⟨rfl, by rw [hU], by rw [hU]; exact hPc, va_K.moved hW.alike hKc, hDc.weaken (fun _ _ _ _ => trivial), va_Z.moved hW.alike (by rw [hU]; exact (hE_10.kept hS.2.1).narrow hFc), va_OF.moved hW.alike (by rw [hU]; exact (hE_34.kept hS.2.1).narrow hFc), va_O.moved hW.alike (by rw [hU]; exact (hE_33.kept hS.2.1).narrow hFc), va_OF.moved hW.alike (by rw [hU]; exact (hE_35.kept hS.2.1).narrow hFc), va_T.moved hW.alike (by rw [hU]; exact (hE_36.kept hS.2.1).narrow hFc)⟩⟩ rfl rfl hl.1 rfl (lv_room (Nat.le_of_ble_eq_true rfl)) dX4_readAtom_17 ⟨Nat.le_of_ble_eq_true rfl, Nat.le_of_ble_eq_true rfl⟩) hS (fun q _ h => hFc q h) hFc (fun r_92 u t H1 locs ht hvm hw hB hz1 hk1 hS => ?_)
      obtain ⟨hP1, hK1, hD1⟩ := hB
      rw [ht] at hP1
      have hP := bv_still hP hk1
      generalize H1 = H at hP hS ⊢
      as_aux_lemma =>
      rcases hw with h_93 | ⟨h_94, h_95⟩
      · rw [h_93]
        exact hU _ _ _ (J20b r_79 x_80 g_h0_f1 h_86 g_h1_f2 g_h1_f3 h_85 h_84 _ _ _ hP hD hS (lv_sub hl [0, 1, 2, 3] rfl))
      · exact hU _ _ _ (J20c r_79 r_92 x_80 g_h0_f1 h_86 g_h1_f2 g_h1_f3 h_85 h_84 h_94 _ _ _ hP hD hS (lv_sub hl [0, 1, 2, 3] rfl))
    · have d_96 := Int32.not_le.mp c_89
      have g_97 : RG r_79 0 (-1) := RG_lt1 h_84 (RG_k 0 0 rfl) d_96 (by decide +kernel)
      exact RG_dead (RG_lt1 h_84 (RG_k 0 0 rfl) d_96 (b' := (-1)) (by decide +kernel)) (by decide +kernel)
noncomputable def wd_c_X4_readSum (a0 : Nat) (a1 : Nat) (a2 : Int32) (a3 : Int32) (a4 : Int32) (a5 : Nat) (a6 : ClassId) (a7 : Nat → Int32) (a8 : Nat) (a9 : Nat) (a10 : Int32) (a11 : Nat) (a12 : Nat) (a13 : ClassId) (a14 : Nat → Int32) : va_W := [(a0, .inr (9, [.ref a1, .int a2, .int a3, .int a4])), (a5, .inl (a6, 240, .inl a7)), (a8, .inr (4, [.ref a9, .int a10, .ref a11])), (a12, .inl (a13, 240, .inl a14))]
noncomputable def wf_c_X4_readSum : List Cond := List.cons (.code yX4_readSum cX4_readSum 6 none) (@HAppend.hAppend (List Cond) (List Cond) (List Cond) _ (@HAppend.hAppend (List Cond) (List Cond) (List Cond) _ [.methodLink RX4 72 yX9_isRight, .instanceMethod yX9_isRight, .selects RX9 yX9_isRight yX9_isRight, .initialized RX9, .code yX9_isRight cX9_isRight 1 (some .boolean), .fieldLink RX9 15 "BuoyVote$Tape" "wrong" "I", .methodLink RX4 85 yX4_readAtom, .instanceMethod yX4_readAtom, .selects RX4 yX4_readAtom yX4_readAtom, .initialized RX4, .code yX4_readAtom cX4_readAtom 6 none, .methodLink RX4 41 yX9_peek, .instanceMethod yX9_peek, .selects RX9 yX9_peek yX9_peek, .code yX9_peek cX9_peek 1 (some .int), .fieldLink RX9 22 "BuoyVote$Tape" "at" "I", .fieldLink RX9 19 "BuoyVote$Tape" "length" "I", .fieldLink RX9 11 "BuoyVote$Tape" "bytes" "[I", .methodLink RX4 93 yJ0_indexOf_0f7a4, .instanceMethod yJ0_indexOf_0f7a4, .selects RJ0 yJ0_indexOf_0f7a4 yJ0_indexOf_0f7a4, .initialized RJ0, .code yJ0_indexOf_0f7a4 cJ0_indexOf_0f7a4 2 (some .int), .methodLink RJ0 633 yJ0_indexOf_7cf53, .instanceMethod yJ0_indexOf_7cf53, .selects RJ0 yJ0_indexOf_7cf53 yJ0_indexOf_7cf53, .code yJ0_indexOf_7cf53 cJ0_indexOf_7cf53 3 (some .int), .methodLink RJ0 492 yJ0_isLatin1_aae02, .instanceMethod yJ0_isLatin1_aae02, .selects RJ0 yJ0_isLatin1_aae02 yJ0_isLatin1_aae02, .code yJ0_isLatin1_aae02 cJ0_isLatin1_aae02 1 (some .boolean), .fieldLink RJ0 38 "java/lang/String" "COMPACT_STRINGS" "Z", .fieldLink RJ0 15 "java/lang/String" "coder" "B", .fieldLink RJ0 9 "java/lang/String" "value" "[B", .methodLink RJ0 505 yJ0_length_8abf5, .instanceMethod yJ0_length_8abf5, .selects RJ0 yJ0_length_8abf5 yJ0_length_8abf5, .code yJ0_length_8abf5 cJ0_length_8abf5 1 (some .int), .methodLink RJ0 335 yJ0_coder_7d493, .instanceMethod yJ0_coder_7d493, .selects RJ0 yJ0_coder_7d493 yJ0_coder_7d493, .code yJ0_coder_7d493 cJ0_coder_7d493 1 (some .byte), .methodLink RJ0 637 yJ1_indexOf_4cfef, .static yJ1_indexOf_4cfef, .initialized RJ1, .code yJ1_indexOf_4cfef cJ1_indexOf_4cfef 4 (some .int), .methodLink RJ1 88 yJ1_canEncode_9a6ad, .static yJ1_canEncode_9a6ad, .code yJ1_canEncode_9a6ad cJ1_canEncode_9a6ad 1 (some .boolean), .methodLink RJ1 92 Lib.Math.max.name, .static Lib.Math.max.name, .initialized "java/lang/Math", .code Lib.Math.max.name Lib.Math.max.code 2 (some .int), .methodLink RJ1 38 Lib.Math.min.name, .static Lib.Math.min.name, .code Lib.Math.min.name Lib.Math.min.code 2 (some .int), .methodLink RJ1 95 yJ1_indexOfChar_4cfef, .static yJ1_indexOfChar_4cfef, .code yJ1_indexOfChar_4cfef cJ1_indexOfChar_4cfef 6 (some .int), .methodLink RX4 99 yX9_number, .instanceMethod yX9_number, .selects RX9 yX9_number yX9_number, .code yX9_number cX9_number 4 (some .int), .methodLink RX4 82 yX9_refuseHere, .instanceMethod yX9_refuseHere, .selects RX9 yX9_refuseHere yX9_refuseHere, .code yX9_refuseHere cX9_refuseHere 1 none, .methodLink RX9 25 yX9_refuse, .instanceMethod yX9_refuse, .selects RX9 yX9_refuse yX9_refuse, .code yX9_refuse cX9_refuse 2 none, .methodLink RX4 79 yX9_skip, .instanceMethod yX9_skip, .selects RX9 yX9_skip yX9_skip, .code yX9_skip cX9_skip 1 none, .methodLink RX4 49 yX4_readSum, .instanceMethod yX4_readSum, .selects RX4 yX4_readSum yX4_readSum, .methodLink RX4 60 yX4_emit, .instanceMethod yX4_emit, .selects RX4 yX4_emit yX4_emit, .code yX4_emit cX4_emit 2 none, .fieldLink RX4 20 "BuoyVote$Law" "length" "I", .fieldLink RX4 11 "BuoyVote$Law" "code" "[I", .methodLink RX4 88 yX9_takeEither, .instanceMethod yX9_takeEither, .selects RX9 yX9_takeEither yX9_takeEither, .code yX9_takeEither cX9_takeEither 4 (some .int), .methodLink RX9 29 yX9_peek, .methodLink RX4 37 yX9_expect, .instanceMethod yX9_expect, .selects RX9 yX9_expect yX9_expect, .code yX9_expect cX9_expect 2 none] wsX90) wsX40)
theorem iw_c_X4_readSum_X9 : ∀ w ∈ wsX90, w ∈ wf_c_X4_readSum := fun w h => List.mem_cons_of_mem _ (List.mem_append_left _ (List.mem_append_right _ h))
theorem iw_c_X4_readSum_X4 : ∀ w ∈ wsX40, w ∈ wf_c_X4_readSum := fun w h => List.mem_cons_of_mem _ (List.mem_append_right _ h)
set_option maxRecDepth 20000 in
theorem gf_c_X4_readSum_c_X9_takeEither : GoodIn wf_c_X4_readSum (wsV RX4 88 RX9 yX9_takeEither wf_c_X9_takeEither) := goodIn_app (gi_l [85, 86, 87, 4] rfl rfl) (gi_cons (j := 88) rfl rfl (goodIn_app (gi_l [89, 13, 14, 4, 15, 16, 17, 18, 6] rfl rfl) (goodIn_sub iw_c_X4_readSum_X9 gw_X9)))
set_option maxRecDepth 20000 in
theorem gf_c_X4_readSum_c_X4_emit : GoodIn wf_c_X4_readSum (wsV RX4 60 RX4 yX4_emit wf_c_X4_emit) := goodIn_app (gi_l [79, 80, 81, 10] rfl rfl) (gi_cons (j := 82) rfl rfl (goodIn_app (gi_l [83, 84] rfl rfl) (goodIn_sub iw_c_X4_readSum_X4 gw_X4)))
set_option maxRecDepth 20000 in
theorem gf_c_X4_readSum_c_X9_isRight : GoodIn wf_c_X4_readSum (wsV RX4 72 RX9 yX9_isRight wf_c_X9_isRight) := goodIn_app (gi_l [1, 2, 3, 4] rfl rfl) (gi_cons (j := 5) rfl rfl (goodIn_app (gi_l [6] rfl rfl) (goodIn_sub iw_c_X4_readSum_X9 gw_X9)))
set_option maxRecDepth 20000 in
theorem gf_c_X4_readSum_c_X4_readAtom : GoodIn wf_c_X4_readSum (wsV RX4 85 RX4 yX4_readAtom wf_c_X4_readAtom) := goodIn_app (gi_l [7, 8, 9, 10] rfl rfl) (gi_cons (j := 11) rfl rfl (goodIn_app (goodIn_app (gi_l [12, 13, 14, 4, 15, 16, 17, 18, 19, 20, 21, 22, 23, 24, 25, 26, 27, 28, 29, 30, 31, 32, 33, 34, 35, 36, 37, 38, 39, 40, 41, 42, 43, 44, 45, 46, 47, 48, 49, 50, 51, 52, 53, 54, 55, 56, 57, 58, 59, 60, 61, 62, 63, 64, 65, 66, 67, 68, 69, 70, 71, 6, 72, 73, 74, 75, 76, 77, 78, 10, 0, 1, 2, 3, 5, 7, 8, 9, 79, 80, 81, 82, 83, 84, 85, 86, 87, 88, 89, 90, 91, 92, 93] rfl rfl) (goodIn_sub iw_c_X4_readSum_X9 gw_X9)) (goodIn_sub iw_c_X4_readSum_X4 gw_X4)))
set_option maxHeartbeats 4000000 in
set_option maxRecDepth 100000 in
theorem c_X4_readSum (l : Launch) (dC : Nat → ClassId) (dI : Nat → Nat → Nat) (sz : Nat) (h0 : Nat) (h1 : Nat) (h1_0 : Nat) (h1_f1 : Int32) (h1_f2 : Int32) (h1_f3 : Int32) (h1_0k : ClassId) (h1_0c : Nat → Int32) (h0_0 : Nat) (h0_f1 : Int32) (h0_2 : Nat) (h0_0k : ClassId) (h0_0c : Nat → Int32) (ts4 : Nat) (tv4 : Nat) (g_h1_f1 : RG h1_f1 0 240) (g_h1_f2 : RG h1_f2 0 240) (g_h1_f3 : RG h1_f3 (-1) 240) (a_h1_0c : AI h1_0c 0 255) (g_h0_f1 : RG h0_f1 0 240) : Met l yX4_readSum wf_c_X4_readSum ({ frames := 17, cells := 0, slots := 0, locals := 416 }) (va_Pc [.ref h0, .ref h1, .int 0] (fun U => U.heap.size = sz ∧ va_P (dC, dI) vwCl (wd_c_X4_readSum h1 h1_0 h1_f1 h1_f2 h1_f3 h1_0 h1_0k h1_0c h0 h0_0 h0_f1 h0_2 h0_0 h0_0k h0_0c) U.heap ∧ va_K (dC, dI) vwCl [(h1_0k, .int), (h0_0k, .int)] U ∧ va_D (fun _ => True) (wd_c_X4_readSum h1 h1_0 h1_f1 h1_f2 h1_f3 h1_0 h1_0k h1_0c h0 h0_0 h0_f1 h0_2 h0_0 h0_0k h0_0c) ∧ vk_R RX4 91 "vlrdph" ts4 U ∧ va_Z "java/lang/String" "COMPACT_STRINGS" "Z" (.int 1) (va_A (wd_c_X4_readSum h1 h1_0 h1_f1 h1_f2 h1_f3 h1_0 h1_0k h1_0c h0 h0_0 h0_f1 h0_2 h0_0 h0_0k h0_0c) sz) U U.heap ∧ va_OF "java/lang/String" "coder" "B" (.int 0) ts4 (va_A (wd_c_X4_readSum h1 h1_0 h1_f1 h1_f2 h1_f3 h1_0 h1_0k h1_0c h0 h0_0 h0_f1 h0_2 h0_0 h0_0k h0_0c) sz) U U.heap ∧ va_O "java/lang/String" ts4 (va_A (wd_c_X4_readSum h1 h1_0 h1_f1 h1_f2 h1_f3 h1_0 h1_0k h1_0c h0 h0_0 h0_f1 h0_2 h0_0 h0_0k h0_0c) sz) U U.heap ∧ va_OF "java/lang/String" "value" "[B" (.ref tv4) ts4 (va_A (wd_c_X4_readSum h1 h1_0 h1_f1 h1_f2 h1_f3 h1_0 h1_0k h1_0c h0 h0_0 h0_f1 h0_2 h0_0 h0_0k h0_0c) sz) U U.heap ∧ va_T .byte tv4 6 (fun j => .int ([118, 108, 114, 100, 112, 104].getD j 0)) (va_A (wd_c_X4_readSum h1 h1_0 h1_f1 h1_f2 h1_f3 h1_0 h1_0k h1_0c h0 h0_0 h0_f1 h0_2 h0_0 h0_0k h0_0c) sz) U U.heap)) (va_Qv (fun (u : (Int32) × (Int32) × (Int32) × (Nat → Int32)) => (RG u.1 0 240 ∧ RG u.2.1 (-1) 240 ∧ RG u.2.2.1 0 240)) (fun (u : (Int32) × (Int32) × (Int32) × (Nat → Int32)) t => va_P (dC, dI) vwCl (wd_c_X4_readSum h1 h1_0 h1_f1 (u.1) (u.2.1) h1_0 h1_0k h1_0c h0 h0_0 (u.2.2.1) h0_2 h0_0 h0_0k (u.2.2.2)) t.heap ∧ va_K (dC, dI) vwCl [] t ∧ va_D (va_A (wd_c_X4_readSum h1 h1_0 h1_f1 h1_f2 h1_f3 h1_0 h1_0k h1_0c h0 h0_0 h0_f1 h0_2 h0_0 h0_0k h0_0c) sz) (wd_c_X4_readSum h1 h1_0 h1_f1 (u.1) (u.2.1) h1_0 h1_0k h1_0c h0 h0_0 (u.2.2.1) h0_2 h0_0 h0_0k (u.2.2.2))) (va_A (wd_c_X4_readSum h1 h1_0 h1_f1 h1_f2 h1_f3 h1_0 h1_0k h1_0c h0 h0_0 h0_f1 h0_2 h0_0 h0_0k h0_0c) sz)) 0 0 (va_A (wd_c_X4_readSum h1 h1_0 h1_f1 h1_f2 h1_f3 h1_0 h1_0k h1_0c h0 h0_0 h0_f1 h0_2 h0_0 h0_0k h0_0c) sz) := by
  refine Met.ofW (cc := cX4_readSum) (maxL := 6) (ret := none) (by decide +kernel) rfl ?_
  intro p e s m args below meth c s₁ B hml hv
  obtain ⟨rfl, hsz, hP, hK, hD0, hE_32, hE_10, hE_34, hE_33, hE_35, hE_36⟩ := hv
  have hx := B.exec
  have hb := B.bytes
  have hr := B.returns
  have hts := atoms_spec (ws := wf_c_X4_readSum) B.pre
  have hown : s.vm.findClass RX4 = some m.cls := findClass_of_methodNamed B.named
  have hlocks := B.notSynchronized
  subst hsz
  have hD := hD0.self (sz := s.heap.size)
  generalize hAe : va_A (wd_c_X4_readSum h1 h1_0 h1_f1 h1_f2 h1_f3 h1_0 h1_0k h1_0c h0 h0_0 h0_f1 h0_2 h0_0 h0_0k h0_0c) s.heap.size = A at hD hE_10 hE_34 hE_33 hE_35 hE_36 ⊢
  have hA : ∀ q : Nat, s.heap.size ≤ q → A q := fun q h => by rw [← hAe]; exact Or.inr h
  have hP : va_P (dC, dI) vwCl (wd_c_X4_readSum h1 h1_0 h1_f1 h1_f2 h1_f3 h1_0 h1_0k h1_0c h0 h0_0 h0_f1 h0_2 h0_0 h0_0k h0_0c) s.heap := hP
  have hl := lv_entry ([.ref h0, .ref h1, .int 0]) (n := 6) (Nat.le_of_ble_eq_true rfl)
  rw [lg_entry_eq]
  generalize (lg_sl ([.ref h0, .ref h1, .int 0]) ++ List.replicate (6 - (lg_sl ([.ref h0, .ref h1, .int 0])).length) Slot.unset).toArray = ls at hl ⊢
  have hl : lv_has ls 6 [(0, .ref h0), (1, .ref h1), (2, .int 0)] := hl
  obtain ⟨H, hHe⟩ : ∃ H : Heap, s.heap = H := ⟨_, rfl⟩
  have hS : va_S A s.heap H [] := by rw [hHe]; exact va_S.rf
  have hP : va_P (dC, dI) vwCl (wd_c_X4_readSum h1 h1_0 h1_f1 h1_f2 h1_f3 h1_0 h1_0k h1_0c h0 h0_0 h0_f1 h0_2 h0_0 h0_0k h0_0c) H := by rw [← hHe]; exact hP
  rw [hHe]
  refine wj (fun G hG hU => ?_)
  as_aux_lemma =>
  have J8 : ∀ (n8 : Nat) (j8_l5 : Int32) (j8_l4 : Int32) (j8_l3 : Int32) (j8_h1_f2 : Int32) (j8_h1_f3 : Int32) (j8_h0_f1 : Int32) (j8_h0_0c : Nat → Int32) (hM8 : MU j8_l5 < n8) (g_h0_f1 : RG h0_f1 0 240) (g_h1_f1 : RG h1_f1 0 240) (g_h1_f2 : RG h1_f2 0 240) (g_h1_f3 : RG h1_f3 (-1) 240) (g_j8_h0_f1 : RG j8_h0_f1 0 240) (g_j8_h1_f2 : RG j8_h1_f2 0 240) (g_j8_h1_f3 : RG j8_h1_f3 (-1) 240) (g_j8_l3 : RG j8_l3 0 60) (g_j8_l4 : RG j8_l4 0 60) (g_j8_l5 : RG j8_l5 0 240) (H : Heap) (locs : List Loc) (ls : Array Slot) (hP : va_P (dC, dI) vwCl (wd_c_X4_readSum h1 h1_0 h1_f1 j8_h1_f2 j8_h1_f3 h1_0 h1_0k h1_0c h0 h0_0 j8_h0_f1 h0_2 h0_0 h0_0k j8_h0_0c) H) (hD : va_D A (wd_c_X4_readSum h1 h1_0 h1_f1 j8_h1_f2 j8_h1_f3 h1_0 h1_0k h1_0c h0 h0_0 j8_h0_f1 h0_2 h0_0 h0_0k j8_h0_0c)) (hS : va_S A s.heap H locs) (hl : lv_has ls 6 [(5, .int j8_l5), (4, .int j8_l4), (3, .int j8_l3), (0, .ref h0), (1, .ref h1), (2, .int 0)]), G H locs (F0 m 8 ls []) := by
    as_aux_lemma =>
    intro n8
    induction n8 with
    | zero => intros; exact absurd (by assumption) (Nat.not_lt_zero _)
    | succ n8 ih8 =>
      intro j8_l5 j8_l4 j8_l3 j8_h1_f2 j8_h1_f3 j8_h0_f1 j8_h0_0c hM8 g_h0_f1 g_h1_f1 g_h1_f2 g_h1_f3 g_j8_h0_f1 g_j8_h1_f2 g_j8_h1_f3 g_j8_l3 g_j8_l4 g_j8_l5 H locs ls hP hD hS hl
      have J80 : ∀ (j80_l3 : Int32) (j80_l4 : Int32) (j80_h1_f2 : Int32) (j80_h1_f3 : Int32) (j80_h0_f1 : Int32) (j80_h0_0c : Nat → Int32) (g_h0_f1 : RG h0_f1 0 240) (g_h1_f1 : RG h1_f1 1 240) (g_h1_f2 : RG h1_f2 0 240) (g_h1_f3 : RG h1_f3 (-1) 240) (g_j80_h0_f1 : RG j80_h0_f1 0 240) (g_j80_h1_f2 : RG j80_h1_f2 1 240) (g_j80_h1_f3 : RG j80_h1_f3 (-1) (-1)) (g_j80_l3 : RG j80_l3 0 60) (g_j80_l4 : RG j80_l4 0 60) (g_j8_h0_f1 : RG j8_h0_f1 0 240) (g_j8_h1_f2 : RG j8_h1_f2 0 240) (g_j8_h1_f3 : RG j8_h1_f3 (-1) (-1)) (g_j8_l3 : RG j8_l3 0 60) (g_j8_l4 : RG j8_l4 0 60) (g_j8_l5 : RG j8_l5 0 239) (H : Heap) (locs : List Loc) (ls : Array Slot) (hP : va_P (dC, dI) vwCl (wd_c_X4_readSum h1 h1_0 h1_f1 j80_h1_f2 j80_h1_f3 h1_0 h1_0k h1_0c h0 h0_0 j80_h0_f1 h0_2 h0_0 h0_0k j80_h0_0c) H) (hD : va_D A (wd_c_X4_readSum h1 h1_0 h1_f1 j80_h1_f2 j80_h1_f3 h1_0 h1_0k h1_0c h0 h0_0 j80_h0_f1 h0_2 h0_0 h0_0k j80_h0_0c)) (hS : va_S A s.heap H locs) (hl : lv_has ls 6 [(3, .int j80_l3), (5, .int j8_l5), (4, .int j80_l4), (0, .ref h0), (1, .ref h1), (2, .int 0)]), G H locs (F0 m 80 ls []) := by
        as_aux_lemma =>
        intro j80_l3 j80_l4 j80_h1_f2 j80_h1_f3 j80_h0_f1 j80_h0_0c g_h0_f1 g_h1_f1 g_h1_f2 g_h1_f3 g_j80_h0_f1 g_j80_h1_f2 g_j80_h1_f3 g_j80_l3 g_j80_l4 g_j8_h0_f1 g_j8_h1_f2 g_j8_h1_f3 g_j8_l3 g_j8_l4 g_j8_l5 H locs ls hP hD hS hl
        refine hG _ _ _ ?_
        obtain ⟨x_1, ex_1⟩ : ∃ y : Int32, y = j8_l5 + 1 := ⟨_, rfl⟩
        have g_2 : RG x_1 1 240 := RG_add ex_1 g_j8_l5 (RG_k 1 1 rfl) (by decide +kernel)
        refine lv_iinc (v := x_1) (lv' := [(5, .int x_1), (3, .int j80_l3), (4, .int j80_l4), (0, .ref h0), (1, .ref h1), (2, .int 0)]) hx hb dX4_readSum_80 hl (k := 1) rfl (by rw [ex_1]; rfl) (Nat.le_of_ble_eq_true rfl) rfl (fun ls hl => ?_)
        refine lv_goto (tgt := 8) hx hb dX4_readSum_83 rfl ?_
        exact hU _ _ _ (ih8 x_1 j80_l4 j80_l3 j80_h1_f2 j80_h1_f3 j80_h0_f1 j80_h0_0c (mu_s (MU_add ex_1 g_j8_l5 (q := 1) rfl (by decide +kernel)) hM8) g_h0_f1 (RG_w g_h1_f1 (by decide +kernel)) g_h1_f2 g_h1_f3 g_j80_h0_f1 (RG_w g_j80_h1_f2 (by decide +kernel)) (RG_w g_j80_h1_f3 (by decide +kernel)) g_j80_l3 g_j80_l4 (RG_w g_2 (by decide +kernel)) _ _ _ hP hD hS (lv_sub hl [0, 2, 1, 3, 4, 5] rfl))
      have J64 : ∀ (j64_l3 : Int32) (j64_h1_f2 : Int32) (j64_h1_f3 : Int32) (j64_h0_f1 : Int32) (j64_h0_0c : Nat → Int32) (g_h0_f1 : RG h0_f1 0 240) (g_h1_f1 : RG h1_f1 0 240) (g_h1_f2 : RG h1_f2 0 240) (g_h1_f3 : RG h1_f3 (-1) 240) (g_j64_h0_f1 : RG j64_h0_f1 0 240) (g_j64_h1_f2 : RG j64_h1_f2 0 240) (g_j64_h1_f3 : RG j64_h1_f3 (-1) 240) (g_j64_l3 : RG j64_l3 0 0) (g_j8_h0_f1 : RG j8_h0_f1 0 240) (g_j8_h1_f2 : RG j8_h1_f2 0 240) (g_j8_h1_f3 : RG j8_h1_f3 (-1) (-1)) (g_j8_l3 : RG j8_l3 0 60) (g_j8_l4 : RG j8_l4 0 60) (g_j8_l5 : RG j8_l5 0 239) (H : Heap) (locs : List Loc) (ls : Array Slot) (hP : va_P (dC, dI) vwCl (wd_c_X4_readSum h1 h1_0 h1_f1 j64_h1_f2 j64_h1_f3 h1_0 h1_0k h1_0c h0 h0_0 j64_h0_f1 h0_2 h0_0 h0_0k j64_h0_0c) H) (hD : va_D A (wd_c_X4_readSum h1 h1_0 h1_f1 j64_h1_f2 j64_h1_f3 h1_0 h1_0k h1_0c h0 h0_0 j64_h0_f1 h0_2 h0_0 h0_0k j64_h0_0c)) (hS : va_S A s.heap H locs) (hl : lv_has ls 6 [(3, .int j64_l3), (5, .int j8_l5), (0, .ref h0), (1, .ref h1), (2, .int 0)]), G H locs (F0 m 64 ls []) := by
        as_aux_lemma =>
        intro j64_l3 j64_h1_f2 j64_h1_f3 j64_h0_f1 j64_h0_0c g_h0_f1 g_h1_f1 g_h1_f2 g_h1_f3 g_j64_h0_f1 g_j64_h1_f2 g_j64_h1_f3 g_j64_l3 g_j8_h0_f1 g_j8_h1_f2 g_j8_h1_f3 g_j8_l3 g_j8_l4 g_j8_l5 H locs ls hP hD hS hl
        refine hG _ _ _ ?_
        refine lv_aload_n hx hb dX4_readSum_64 rfl (lv_at hl 3 rfl) ?_
        refine lv_bipush (v := 43) hx hb dX4_readSum_65 kc_bipush_43 ?_
        refine lv_bipush (v := 45) hx hb dX4_readSum_67 kc_bipush_45 ?_
        obtain ⟨hPc, hDc, hFc, hqc⟩ := cl_cut (wc := (wd_c_X9_takeEither h1 h1_0 h1_f1 j64_h1_f2 j64_h1_f3 h1_0 h1_0k h1_0c)) hP hD hS hA [0, 1] (by decide +kernel) rfl
        have hKc := hK.sub (tys' := [(h1_0k, .int)]) [0] rfl
        have hrv := va_recv hKc hPc (ci := 9) (q0 := 0) rfl rfl
        refine va_calli (va_runV (As := [.int 43, .int 45]) (rest := []) ⟨hx, hb, hml, hown, hts⟩ (c_X9_takeEither l dC dI H.size h1 43 45 h1_0 h1_f1 j64_h1_f2 j64_h1_f3 h1_0k h1_0c (RG_w (RG_k 43 43 rfl) (by decide +kernel)) (RG_w (RG_k 45 45 rfl) (by decide +kernel)) g_h1_f1 g_j64_h1_f2 g_j64_h1_f3 a_h1_0c) (cwV 2 hts gf_c_X4_readSum_c_X9_takeEither rfl rfl rfl mdV_X9_takeEither ⟨Nat.le_of_ble_eq_true rfl, Nat.le_of_ble_eq_true rfl⟩) ⟨fun a U g mk q => by obtain ⟨q0, q1, qP, qK, qD⟩ := q; exact ⟨q0, q1, qP, va_K.moved (u := U) (U := U.calling g mk a) (Vm.Alike.refl U.vm) qK, qD⟩, hrv, fun U hU hW => ⟨rfl, by rw [hU], by rw [hU]; exact hPc, va_K.moved hW.alike hKc, hDc.weaken (fun _ _ _ _ => trivial)⟩⟩ rfl rfl hl.1 rfl (lv_room (Nat.le_of_ble_eq_true rfl)) dX4_readSum_69 ⟨Nat.le_of_ble_eq_true rfl, Nat.le_of_ble_eq_true rfl⟩) hS (fun q _ h => hFc q h) hFc (fun r_3 x_4 t H1 locs ht hvm hw hB hz1 hk1 hS => ?_)
        obtain ⟨hP1, hK1, hD1⟩ := hB
        rw [ht] at hP1
        obtain ⟨hP, hD⟩ := cl_put (w1 := (wd_c_X9_takeEither h1 h1_0 h1_f1 x_4 j64_h1_f3 h1_0 h1_0k h1_0c)) (nw := (wd_c_X4_readSum h1 h1_0 h1_f1 x_4 j64_h1_f3 h1_0 h1_0k h1_0c h0 h0_0 j64_h0_f1 h0_2 h0_0 h0_0k j64_h0_0c)) hP hD [0, 1] [4, 5, 2, 3] 4 rfl hqc (by decide +kernel) rfl hk1 hFc hP1 hD1
        generalize H1 = H at hP hS ⊢
        as_aux_lemma =>
        rcases hw with ⟨h_5, h_6, h_7⟩ | ⟨h_8, h_9, h_10, h_11, h_12⟩
        · rw [h_5]
          refine lv_istore (lv' := [(4, .int 0), (3, .int j64_l3), (5, .int j8_l5), (0, .ref h0), (1, .ref h1), (2, .int 0)]) hx hb dX4_readSum_72 hl (Nat.le_of_ble_eq_true rfl) rfl (fun ls hl => ?_)
          refine lv_iload hx hb dX4_readSum_74 (lv_at hl 0 rfl) ?_
          refine lv_if_ne (tgt := 80) hx hb dX4_readSum_76 rfl (fun c_13 => absurd c_13 (by decide +kernel)) (fun c_13 => ?_)
          have hK9 := hK.sub (tys' := []) [] rfl
          exact W.vret hx hb hr (fun t ht hW => ⟨⟨(x_4, j64_h1_f3, j64_h0_f1, j64_h0_0c), rfl, ⟨h_6, g_j64_h1_f3, g_j64_h0_f1⟩, by rw [ht]; exact hP, va_K.moved hW.alike hK9, hD⟩, hS.F ht⟩) hS.2.2 dX4_readSum_79
        · refine lv_istore (lv' := [(4, .int r_3), (3, .int j64_l3), (5, .int j8_l5), (0, .ref h0), (1, .ref h1), (2, .int 0)]) hx hb dX4_readSum_72 hl (Nat.le_of_ble_eq_true rfl) rfl (fun ls hl => ?_)
          refine lv_iload hx hb dX4_readSum_74 (lv_at hl 0 rfl) ?_
          refine lv_if_ne (tgt := 80) hx hb dX4_readSum_76 rfl (fun c_14 => ?_) (fun c_14 => ?_)
          · have g_15 : RG r_3 1 60 := RG_ne1 h_8 (q := 0) rfl c_14 (by decide +kernel)
            exact hU _ _ _ (J80 j64_l3 r_3 x_4 j64_h1_f3 j64_h0_f1 j64_h0_0c g_h0_f1 h_10 g_h1_f2 g_h1_f3 g_j64_h0_f1 h_9 h_11 (RG_w g_j64_l3 (by decide +kernel)) (RG_w g_15 (by decide +kernel)) g_j8_h0_f1 g_j8_h1_f2 g_j8_h1_f3 g_j8_l3 g_j8_l4 g_j8_l5 _ _ _ hP hD hS (lv_sub hl [1, 2, 0, 3, 4, 5] rfl))
          · have g_16 : RG r_3 0 0 := RG_eq1 h_8 (RG_k 0 0 rfl) c_14 (by decide +kernel)
            have hK9 := hK.sub (tys' := []) [] rfl
            exact W.vret hx hb hr (fun t ht hW => ⟨⟨(x_4, j64_h1_f3, j64_h0_f1, j64_h0_0c), rfl, ⟨(RG_w h_9 (by decide +kernel)), (RG_w h_11 (by decide +kernel)), g_j64_h0_f1⟩, by rw [ht]; exact hP, va_K.moved hW.alike hK9, hD⟩, hS.F ht⟩) hS.2.2 dX4_readSum_79
      have J39 : ∀ (j39_h1_f2 : Int32) (j39_h1_f3 : Int32) (j39_h0_f1 : Int32) (j39_h0_0c : Nat → Int32) (g_h0_f1 : RG h0_f1 0 240) (g_h1_f1 : RG h1_f1 0 240) (g_h1_f2 : RG h1_f2 0 240) (g_h1_f3 : RG h1_f3 (-1) 240) (g_j39_h0_f1 : RG j39_h0_f1 0 240) (g_j39_h1_f2 : RG j39_h1_f2 0 240) (g_j39_h1_f3 : RG j39_h1_f3 (-1) 240) (g_j8_h0_f1 : RG j8_h0_f1 0 240) (g_j8_h1_f2 : RG j8_h1_f2 0 240) (g_j8_h1_f3 : RG j8_h1_f3 (-1) (-1)) (g_j8_l3 : RG j8_l3 0 60) (g_j8_l4 : RG j8_l4 0 60) (g_j8_l5 : RG j8_l5 0 239) (H : Heap) (locs : List Loc) (ls : Array Slot) (hP : va_P (dC, dI) vwCl (wd_c_X4_readSum h1 h1_0 h1_f1 j39_h1_f2 j39_h1_f3 h1_0 h1_0k h1_0c h0 h0_0 j39_h0_f1 h0_2 h0_0 h0_0k j39_h0_0c) H) (hD : va_D A (wd_c_X4_readSum h1 h1_0 h1_f1 j39_h1_f2 j39_h1_f3 h1_0 h1_0k h1_0c h0 h0_0 j39_h0_f1 h0_2 h0_0 h0_0k j39_h0_0c)) (hS : va_S A s.heap H locs) (hl : lv_has ls 6 [(5, .int j8_l5), (4, .int j8_l4), (0, .ref h0), (1, .ref h1), (2, .int 0)]), G H locs (F0 m 39 ls []) := by
        as_aux_lemma =>
        intro j39_h1_f2 j39_h1_f3 j39_h0_f1 j39_h0_0c g_h0_f1 g_h1_f1 g_h1_f2 g_h1_f3 g_j39_h0_f1 g_j39_h1_f2 g_j39_h1_f3 g_j8_h0_f1 g_j8_h1_f2 g_j8_h1_f3 g_j8_l3 g_j8_l4 g_j8_l5 H locs ls hP hD hS hl
        refine hG _ _ _ ?_
        refine lv_aload_n hx hb dX4_readSum_39 rfl (lv_at hl 3 rfl) ?_
        refine lv_bipush (v := 42) hx hb dX4_readSum_40 kc_bipush_42 ?_
        refine lv_bipush (v := 47) hx hb dX4_readSum_42 kc_bipush_47 ?_
        obtain ⟨hPc, hDc, hFc, hqc⟩ := cl_cut (wc := (wd_c_X9_takeEither h1 h1_0 h1_f1 j39_h1_f2 j39_h1_f3 h1_0 h1_0k h1_0c)) hP hD hS hA [0, 1] (by decide +kernel) rfl
        have hKc := hK.sub (tys' := [(h1_0k, .int)]) [0] rfl
        have hrv := va_recv hKc hPc (ci := 9) (q0 := 0) rfl rfl
        refine va_calli (va_runV (As := [.int 42, .int 47]) (rest := []) ⟨hx, hb, hml, hown, hts⟩ (c_X9_takeEither l dC dI H.size h1 42 47 h1_0 h1_f1 j39_h1_f2 j39_h1_f3 h1_0k h1_0c (RG_w (RG_k 42 42 rfl) (by decide +kernel)) (RG_w (RG_k 47 47 rfl) (by decide +kernel)) g_h1_f1 g_j39_h1_f2 g_j39_h1_f3 a_h1_0c) (cwV 2 hts gf_c_X4_readSum_c_X9_takeEither rfl rfl rfl mdV_X9_takeEither ⟨Nat.le_of_ble_eq_true rfl, Nat.le_of_ble_eq_true rfl⟩) ⟨fun a U g mk q => by obtain ⟨q0, q1, qP, qK, qD⟩ := q; exact ⟨q0, q1, qP, va_K.moved (u := U) (U := U.calling g mk a) (Vm.Alike.refl U.vm) qK, qD⟩, hrv, fun U hU hW => ⟨rfl, by rw [hU], by rw [hU]; exact hPc, va_K.moved hW.alike hKc, hDc.weaken (fun _ _ _ _ => trivial)⟩⟩ rfl rfl hl.1 rfl (lv_room (Nat.le_of_ble_eq_true rfl)) dX4_readSum_44 ⟨Nat.le_of_ble_eq_true rfl, Nat.le_of_ble_eq_true rfl⟩) hS (fun q _ h => hFc q h) hFc (fun r_17 x_18 t H1 locs ht hvm hw hB hz1 hk1 hS => ?_)
        obtain ⟨hP1, hK1, hD1⟩ := hB
        rw [ht] at hP1
        obtain ⟨hP, hD⟩ := cl_put (w1 := (wd_c_X9_takeEither h1 h1_0 h1_f1 x_18 j39_h1_f3 h1_0 h1_0k h1_0c)) (nw := (wd_c_X4_readSum h1 h1_0 h1_f1 x_18 j39_h1_f3 h1_0 h1_0k h1_0c h0 h0_0 j39_h0_f1 h0_2 h0_0 h0_0k j39_h0_0c)) hP hD [0, 1] [4, 5, 2, 3] 4 rfl hqc (by decide +kernel) rfl hk1 hFc hP1 hD1
        generalize H1 = H at hP hS ⊢
        as_aux_lemma =>
        rcases hw with ⟨h_19, h_20, h_21⟩ | ⟨h_22, h_23, h_24, h_25, h_26⟩
        · rw [h_19]
          refine lv_istore_n (lv' := [(3, .int 0), (5, .int j8_l5), (4, .int j8_l4), (0, .ref h0), (1, .ref h1), (2, .int 0)]) hx hb dX4_readSum_47 rfl hl (Nat.le_of_ble_eq_true rfl) rfl (fun ls hl => ?_)
          refine lv_iload_n hx hb dX4_readSum_48 rfl (lv_at hl 0 rfl) ?_
          refine lv_if_ne (tgt := 80) hx hb dX4_readSum_49 rfl (fun c_27 => absurd c_27 (by decide +kernel)) (fun c_27 => ?_)
          refine lv_iload hx hb dX4_readSum_52 (lv_at hl 2 rfl) ?_
          refine lv_if_eq (tgt := 64) hx hb dX4_readSum_54 rfl (fun c_28 => ?_) (fun c_28 => ?_)
          · have g_29 : RG j8_l4 0 0 := RG_eq1 g_j8_l4 (RG_k 0 0 rfl) c_28 (by decide +kernel)
            exact hU _ _ _ (J64 0 x_18 j39_h1_f3 j39_h0_f1 j39_h0_0c g_h0_f1 g_h1_f1 g_h1_f2 g_h1_f3 g_j39_h0_f1 h_20 g_j39_h1_f3 (RG_k 0 0 rfl) g_j8_h0_f1 g_j8_h1_f2 g_j8_h1_f3 g_j8_l3 (RG_w g_29 (by decide +kernel)) g_j8_l5 _ _ _ hP hD hS (lv_sub hl [0, 1, 3, 4, 5] rfl))
          · have g_30 : RG j8_l4 1 60 := RG_ne1 g_j8_l4 (q := 0) rfl c_28 (by decide +kernel)
            refine lv_aload_n hx hb dX4_readSum_57 rfl (lv_at hl 3 rfl) ?_
            refine lv_iload hx hb dX4_readSum_58 (lv_at hl 2 rfl) ?_
            refine lv_ineg hx hb dX4_readSum_60 ?_
            refine lv_topi (fun x_31 ex_31 => ?_)
            as_aux_lemma =>
            have g_32 : RG x_31 (-60) (-1) := RG_neg ex_31 g_30 (by decide +kernel)
            obtain ⟨hPc, hDc, hFc, hqc⟩ := cl_cut (wc := (wd_c_X4_emit h0 h0_0 j39_h0_f1 h0_2 h0_0 h0_0k j39_h0_0c)) hP hD hS hA [2, 3] (by decide +kernel) rfl
            have hKc := hK.sub (tys' := [(h0_0k, .int)]) [1] rfl
            have hrv := va_recv hKc hPc (ci := 4) (q0 := 0) rfl rfl
            refine va_callv (va_runV (As := [.int x_31]) (rest := []) ⟨hx, hb, hml, hown, hts⟩ (c_X4_emit l dC dI H.size h0 x_31 h0_0 j39_h0_f1 h0_2 h0_0k j39_h0_0c g_j39_h0_f1) (cwV 1 hts gf_c_X4_readSum_c_X4_emit rfl rfl rfl mdV_X4_emit ⟨Nat.le_of_ble_eq_true rfl, Nat.le_of_ble_eq_true rfl⟩) ⟨fun a U g mk q => by obtain ⟨q0, q1, qP, qK, qD⟩ := q; exact ⟨q0, q1, qP, va_K.moved (u := U) (U := U.calling g mk a) (Vm.Alike.refl U.vm) qK, qD⟩, hrv, fun U hU hW => ⟨rfl, by rw [hU], by rw [hU]; exact hPc, va_K.moved hW.alike hKc, hDc.weaken (fun _ _ _ _ => trivial)⟩⟩ rfl rfl hl.1 rfl (lv_room (Nat.le_of_ble_eq_true rfl)) dX4_readSum_61 ⟨Nat.le_of_ble_eq_true rfl, Nat.le_of_ble_eq_true rfl⟩) hS (fun q _ h => hFc q h) hFc (fun u t H1 locs ht hvm hw hB hz1 hk1 hS => ?_)
            obtain ⟨x_34, w_35⟩ := u
            obtain ⟨hP1, hK1, hD1⟩ := hB
            rw [ht] at hP1
            obtain ⟨hP, hD⟩ := cl_put (w1 := (wd_c_X4_emit h0 h0_0 x_34 h0_2 h0_0 h0_0k w_35)) (nw := (wd_c_X4_readSum h1 h1_0 h1_f1 x_18 j39_h1_f3 h1_0 h1_0k h1_0c h0 h0_0 x_34 h0_2 h0_0 h0_0k w_35)) hP hD [2, 3] [0, 1, 4, 5] 4 rfl hqc (by decide +kernel) rfl hk1 hFc hP1 hD1
            generalize H1 = H at hP hS ⊢
            as_aux_lemma =>
            have h_36 := hw
            exact hU _ _ _ (J64 0 x_18 j39_h1_f3 x_34 w_35 g_h0_f1 g_h1_f1 g_h1_f2 g_h1_f3 (RG_w h_36 (by decide +kernel)) h_20 g_j39_h1_f3 (RG_k 0 0 rfl) g_j8_h0_f1 g_j8_h1_f2 g_j8_h1_f3 g_j8_l3 (RG_w g_30 (by decide +kernel)) g_j8_l5 _ _ _ hP hD hS (lv_sub hl [0, 1, 3, 4, 5] rfl))
        · refine lv_istore_n (lv' := [(3, .int r_17), (5, .int j8_l5), (4, .int j8_l4), (0, .ref h0), (1, .ref h1), (2, .int 0)]) hx hb dX4_readSum_47 rfl hl (Nat.le_of_ble_eq_true rfl) rfl (fun ls hl => ?_)
          refine lv_iload_n hx hb dX4_readSum_48 rfl (lv_at hl 0 rfl) ?_
          refine lv_if_ne (tgt := 80) hx hb dX4_readSum_49 rfl (fun c_37 => ?_) (fun c_37 => ?_)
          · have g_38 : RG r_17 1 60 := RG_ne1 h_22 (q := 0) rfl c_37 (by decide +kernel)
            exact hU _ _ _ (J80 r_17 j8_l4 x_18 j39_h1_f3 j39_h0_f1 j39_h0_0c g_h0_f1 h_24 g_h1_f2 g_h1_f3 g_j39_h0_f1 h_23 h_25 (RG_w g_38 (by decide +kernel)) g_j8_l4 g_j8_h0_f1 g_j8_h1_f2 g_j8_h1_f3 g_j8_l3 g_j8_l4 g_j8_l5 _ _ _ hP hD hS (lv_sub hl [0, 1, 2, 3, 4, 5] rfl))
          · have g_39 : RG r_17 0 0 := RG_eq1 h_22 (RG_k 0 0 rfl) c_37 (by decide +kernel)
            refine lv_iload hx hb dX4_readSum_52 (lv_at hl 2 rfl) ?_
            refine lv_if_eq (tgt := 64) hx hb dX4_readSum_54 rfl (fun c_40 => ?_) (fun c_40 => ?_)
            · have g_41 : RG j8_l4 0 0 := RG_eq1 g_j8_l4 (RG_k 0 0 rfl) c_40 (by decide +kernel)
              exact hU _ _ _ (J64 r_17 x_18 j39_h1_f3 j39_h0_f1 j39_h0_0c g_h0_f1 (RG_w h_24 (by decide +kernel)) g_h1_f2 g_h1_f3 g_j39_h0_f1 (RG_w h_23 (by decide +kernel)) (RG_w h_25 (by decide +kernel)) g_39 g_j8_h0_f1 g_j8_h1_f2 g_j8_h1_f3 g_j8_l3 (RG_w g_41 (by decide +kernel)) g_j8_l5 _ _ _ hP hD hS (lv_sub hl [0, 1, 3, 4, 5] rfl))
            · have g_42 : RG j8_l4 1 60 := RG_ne1 g_j8_l4 (q := 0) rfl c_40 (by decide +kernel)
              refine lv_aload_n hx hb dX4_readSum_57 rfl (lv_at hl 3 rfl) ?_
              as_aux_lemma =>
              refine lv_iload hx hb dX4_readSum_58 (lv_at hl 2 rfl) ?_
              refine lv_ineg hx hb dX4_readSum_60 ?_
              refine lv_topi (fun x_43 ex_43 => ?_)
              have g_44 : RG x_43 (-60) (-1) := RG_neg ex_43 g_42 (by decide +kernel)
              obtain ⟨hPc, hDc, hFc, hqc⟩ := cl_cut (wc := (wd_c_X4_emit h0 h0_0 j39_h0_f1 h0_2 h0_0 h0_0k j39_h0_0c)) hP hD hS hA [2, 3] (by decide +kernel) rfl
              have hKc := hK.sub (tys' := [(h0_0k, .int)]) [1] rfl
              have hrv := va_recv hKc hPc (ci := 4) (q0 := 0) rfl rfl
              refine va_callv (va_runV (As := [.int x_43]) (rest := []) ⟨hx, hb, hml, hown, hts⟩ (c_X4_emit l dC dI H.size h0 x_43 h0_0 j39_h0_f1 h0_2 h0_0k j39_h0_0c g_j39_h0_f1) (cwV 1 hts gf_c_X4_readSum_c_X4_emit rfl rfl rfl mdV_X4_emit ⟨Nat.le_of_ble_eq_true rfl, Nat.le_of_ble_eq_true rfl⟩) ⟨fun a U g mk q => by obtain ⟨q0, q1, qP, qK, qD⟩ := q; exact ⟨q0, q1, qP, va_K.moved (u := U) (U := U.calling g mk a) (Vm.Alike.refl U.vm) qK, qD⟩, hrv, fun U hU hW => ⟨rfl, by rw [hU], by rw [hU]; exact hPc, va_K.moved hW.alike hKc, hDc.weaken (fun _ _ _ _ => trivial)⟩⟩ rfl rfl hl.1 rfl (lv_room (Nat.le_of_ble_eq_true rfl)) dX4_readSum_61 ⟨Nat.le_of_ble_eq_true rfl, Nat.le_of_ble_eq_true rfl⟩) hS (fun q _ h => hFc q h) hFc (fun u t H1 locs ht hvm hw hB hz1 hk1 hS => ?_)
              obtain ⟨x_46, w_47⟩ := u
              obtain ⟨hP1, hK1, hD1⟩ := hB
              rw [ht] at hP1
              obtain ⟨hP, hD⟩ := cl_put (w1 := (wd_c_X4_emit h0 h0_0 x_46 h0_2 h0_0 h0_0k w_47)) (nw := (wd_c_X4_readSum h1 h1_0 h1_f1 x_18 j39_h1_f3 h1_0 h1_0k h1_0c h0 h0_0 x_46 h0_2 h0_0 h0_0k w_47)) hP hD [2, 3] [0, 1, 4, 5] 4 rfl hqc (by decide +kernel) rfl hk1 hFc hP1 hD1
              generalize H1 = H at hP hS ⊢
              as_aux_lemma =>
              have h_48 := hw
              exact hU _ _ _ (J64 r_17 x_18 j39_h1_f3 x_46 w_47 g_h0_f1 (RG_w h_24 (by decide +kernel)) g_h1_f2 g_h1_f3 (RG_w h_48 (by decide +kernel)) (RG_w h_23 (by decide +kernel)) (RG_w h_25 (by decide +kernel)) g_39 g_j8_h0_f1 g_j8_h1_f2 g_j8_h1_f3 g_j8_l3 (RG_w g_42 (by decide +kernel)) g_j8_l5 _ _ _ hP hD hS (lv_sub hl [0, 1, 3, 4, 5] rfl))
      refine hG _ _ _ ?_
      refine lv_iload hx hb dX4_readSum_8 (lv_at hl 0 rfl) ?_
      refine lv_sipush (v := 240) hx hb dX4_readSum_10 kc_sipush_240 ?_
      refine lv_icmp_ge (tgt := 86) hx hb dX4_readSum_13 rfl (fun c_49 => ?_) (fun c_49 => ?_)
      · have g_50 : RG j8_l5 240 240 := RG_le2 (RG_k 240 240 rfl) g_j8_l5 c_49 (by decide +kernel)
        have hK9 := hK.sub (tys' := []) [] rfl
        exact W.vret hx hb hr (fun t ht hW => ⟨⟨(j8_h1_f2, j8_h1_f3, j8_h0_f1, j8_h0_0c), rfl, ⟨g_j8_h1_f2, g_j8_h1_f3, g_j8_h0_f1⟩, by rw [ht]; exact hP, va_K.moved hW.alike hK9, hD⟩, hS.F ht⟩) hS.2.2 dX4_readSum_86
      · have d_51 := Int32.not_le.mp c_49
        have g_52 : RG j8_l5 0 239 := RG_lt1 g_j8_l5 (RG_k 240 240 rfl) d_51 (by decide +kernel)
        refine lv_aload_n hx hb dX4_readSum_16 rfl (lv_at hl 4 rfl) ?_
        obtain ⟨hPc, hDc, hFc, hqc⟩ := cl_cut (wc := (wd_c_X9_isRight h1 h1_0 h1_f1 j8_h1_f2 j8_h1_f3)) hP hD hS hA [0] (by decide +kernel) rfl
        have hKc := hK.sub (tys' := []) [] rfl
        have hrv := va_recv hKc hPc (ci := 9) (q0 := 0) rfl rfl
        refine va_calli (va_runV (As := []) (rest := []) ⟨hx, hb, hml, hown, hts⟩ (c_X9_isRight l dC dI H.size h1 h1_0 h1_f1 j8_h1_f2 j8_h1_f3 g_h1_f1 g_j8_h1_f2 g_j8_h1_f3) (cwV 0 hts gf_c_X4_readSum_c_X9_isRight rfl rfl rfl mdV_X9_isRight ⟨Nat.le_of_ble_eq_true rfl, Nat.le_of_ble_eq_true rfl⟩) ⟨fun a U g mk q => by obtain ⟨q0, q1, qP, qK, qD⟩ := q; exact ⟨q0, q1, qP, va_K.moved (u := U) (U := U.calling g mk a) (Vm.Alike.refl U.vm) qK, qD⟩, hrv, fun U hU hW => ⟨rfl, by rw [hU], by rw [hU]; exact hPc, va_K.moved hW.alike hKc, hDc.weaken (fun _ _ _ _ => trivial)⟩⟩ rfl rfl hl.1 rfl (lv_room (Nat.le_of_ble_eq_true rfl)) dX4_readSum_17 ⟨Nat.le_of_ble_eq_true rfl, Nat.le_of_ble_eq_true rfl⟩) hS (fun q _ h => hFc q h) hFc (fun r_53 u t H1 locs ht hvm hw hB hz1 hk1 hS => ?_)
        as_aux_lemma =>
        obtain ⟨hP1, hK1, hD1⟩ := hB
        rw [ht] at hP1
        obtain ⟨hP, hD⟩ := cl_put (w1 := (wd_c_X9_isRight h1 h1_0 h1_f1 j8_h1_f2 j8_h1_f3)) (nw := (wd_c_X4_readSum h1 h1_0 h1_f1 j8_h1_f2 j8_h1_f3 h1_0 h1_0k h1_0c h0 h0_0 j8_h0_f1 h0_2 h0_0 h0_0k j8_h0_0c)) hP hD [0] [4, 1, 2, 3] 4 rfl hqc (by decide +kernel) rfl hk1 hFc hP1 hD1
        generalize H1 = H at hP hS ⊢
        as_aux_lemma =>
        rcases hw with ⟨h_54, h_55⟩ | ⟨h_56, h_57⟩
        · rw [h_54]
          refine lv_if_eq (tgt := 86) hx hb dX4_readSum_20 rfl (fun c_58 => ?_) (fun c_58 => absurd c_58 (by decide +kernel))
          have hK9 := hK.sub (tys' := []) [] rfl
          exact W.vret hx hb hr (fun t ht hW => ⟨⟨(j8_h1_f2, j8_h1_f3, j8_h0_f1, j8_h0_0c), rfl, ⟨g_j8_h1_f2, (RG_w h_55 (by decide +kernel)), g_j8_h0_f1⟩, by rw [ht]; exact hP, va_K.moved hW.alike hK9, hD⟩, hS.F ht⟩) hS.2.2 dX4_readSum_86
        · rw [h_56]
          refine lv_if_eq (tgt := 86) hx hb dX4_readSum_20 rfl (fun c_59 => absurd c_59 (by decide +kernel)) (fun c_59 => ?_)
          refine lv_aload_n hx hb dX4_readSum_23 rfl (lv_at hl 3 rfl) ?_
          refine lv_aload_n hx hb dX4_readSum_24 rfl (lv_at hl 4 rfl) ?_
          refine lv_iload_n hx hb dX4_readSum_25 rfl (lv_at hl 5 rfl) ?_
          obtain ⟨hPc, hDc, hFc, hqc⟩ := cl_cut (wc := (wd_c_X4_readAtom h1 h1_0 h1_f1 j8_h1_f2 j8_h1_f3 h1_0 h1_0k h1_0c h0 h0_0 j8_h0_f1 h0_2 h0_0 h0_0k j8_h0_0c)) hP hD hS hA [0, 1, 2, 3] (by decide +kernel) rfl
          have hKc := hK.sub (tys' := [(h1_0k, .int), (h0_0k, .int)]) [0, 1] rfl
          have hrv := va_recv hKc hPc (ci := 4) (q0 := 2) rfl rfl
          refine va_callv (va_runV (As := [.ref h1, .int 0]) (rest := []) ⟨hx, hb, hml, hown, hts⟩ (c_X4_readAtom l dC dI H.size h0 h1 h1_0 h1_f1 j8_h1_f2 j8_h1_f3 h1_0k h1_0c h0_0 j8_h0_f1 h0_2 h0_0k j8_h0_0c ts4 tv4 g_h1_f1 g_j8_h1_f2 (RG_w h_57 (by decide +kernel)) a_h1_0c g_j8_h0_f1) (cwV 2 hts gf_c_X4_readSum_c_X4_readAtom rfl rfl rfl mdV_X4_readAtom ⟨Nat.le_of_ble_eq_true rfl, Nat.le_of_ble_eq_true rfl⟩) ⟨fun a U g mk q => by obtain ⟨q0, q1, qP, qK, qD, qE0, qE1, qE2, qE3, qE4, qE5⟩ := q; exact ⟨q0, q1, qP, va_K.moved (u := U) (U := U.calling g mk a) (Vm.Alike.refl U.vm) qK, qD, vk_R.same rfl qE0, va_Z.moved (u := U) (U := U.calling g mk a) (Vm.Alike.refl U.vm) qE1, va_OF.moved (u := U) (U := U.calling g mk a) (Vm.Alike.refl U.vm) qE2, va_O.moved (u := U) (U := U.calling g mk a) (Vm.Alike.refl U.vm) qE3, va_OF.moved (u := U) (U := U.calling g mk a) (Vm.Alike.refl U.vm) qE4, va_T.moved (u := U) (U := U.calling g mk a) (Vm.Alike.refl U.vm) qE5⟩, hrv, fun U hU hW => ⟨rfl, by rw [hU], by rw [hU]; exact hPc, va_K.moved hW.alike hKc, hDc.weaken (fun _ _ _ _ => trivial), vk_R.warm hW hE_32, va_Z.moved hW.alike (by rw [hU]; exact (hE_10.kept hS.2.1).narrow hFc), va_OF.moved hW.alike (by rw [hU]; exact (hE_34.kept hS.2.1).narrow hFc), va_O.moved hW.alike (by rw [hU]; exact (hE_33.kept hS.2.1).narrow hFc), va_OF.moved hW.alike (by rw [hU]; exact (hE_35.kept hS.2.1).narrow hFc), va_T.moved hW.alike (by rw [hU]; exact (hE_36.kept hS.2.1).narrow hFc)⟩⟩ rfl rfl hl.1 rfl (lv_room (Nat.le_of_ble_eq_true rfl)) dX4_readSum_26 ⟨Nat.le_of_ble_eq_true rfl, Nat.le_of_ble_eq_true rfl⟩) hS (fun q _ h => hFc q h) hFc (fun u t H1 locs ht hvm hw hB hz1 hk1 hS => ?_)
          as_aux_lemma =>
          obtain ⟨x_61, x_62, x_63, w_64⟩ := u
          obtain ⟨hP1, hK1, hD1⟩ := hB
          rw [ht] at hP1
          obtain ⟨hP, hD⟩ := cl_put (w1 := (wd_c_X4_readAtom h1 h1_0 h1_f1 x_61 x_62 h1_0 h1_0k h1_0c h0 h0_0 x_63 h0_2 h0_0 h0_0k w_64)) (nw := (wd_c_X4_readSum h1 h1_0 h1_f1 x_61 x_62 h1_0 h1_0k h1_0c h0 h0_0 x_63 h0_2 h0_0 h0_0k w_64)) hP hD [0, 1, 2, 3] [4, 5, 6, 7] 4 rfl hqc (by decide +kernel) rfl hk1 hFc hP1 hD1
          generalize H1 = H at hP hS ⊢
          as_aux_lemma =>
          rcases hw with ⟨h_65, h_66, h_67⟩
          refine lv_iload_n hx hb dX4_readSum_29 rfl (lv_at hl 2 rfl) ?_
          refine lv_if_eq (tgt := 39) hx hb dX4_readSum_30 rfl (fun c_68 => ?_) (fun c_68 => ?_)
          · have g_69 : RG j8_l3 0 0 := RG_eq1 g_j8_l3 (RG_k 0 0 rfl) c_68 (by decide +kernel)
            exact hU _ _ _ (J39 x_61 x_62 x_63 w_64 g_h0_f1 g_h1_f1 g_h1_f2 g_h1_f3 h_67 h_65 h_66 g_j8_h0_f1 g_j8_h1_f2 h_57 (RG_w g_69 (by decide +kernel)) g_j8_l4 g_52 _ _ _ hP hD hS (lv_sub hl [0, 1, 3, 4, 5] rfl))
          · have g_70 : RG j8_l3 1 60 := RG_ne1 g_j8_l3 (q := 0) rfl c_68 (by decide +kernel)
            refine lv_aload_n hx hb dX4_readSum_33 rfl (lv_at hl 3 rfl) ?_
            refine lv_iload_n hx hb dX4_readSum_34 rfl (lv_at hl 2 rfl) ?_
            refine lv_ineg hx hb dX4_readSum_35 ?_
            refine lv_topi (fun x_71 ex_71 => ?_)
            have g_72 : RG x_71 (-60) (-1) := RG_neg ex_71 g_70 (by decide +kernel)
            obtain ⟨hPc, hDc, hFc, hqc⟩ := cl_cut (wc := (wd_c_X4_emit h0 h0_0 x_63 h0_2 h0_0 h0_0k w_64)) hP hD hS hA [2, 3] (by decide +kernel) rfl
            have hKc := hK.sub (tys' := [(h0_0k, .int)]) [1] rfl
            have hrv := va_recv hKc hPc (ci := 4) (q0 := 0) rfl rfl
            refine va_callv (va_runV (As := [.int x_71]) (rest := []) ⟨hx, hb, hml, hown, hts⟩ (c_X4_emit l dC dI H.size h0 x_71 h0_0 x_63 h0_2 h0_0k w_64 h_67) (cwV 1 hts gf_c_X4_readSum_c_X4_emit rfl rfl rfl mdV_X4_emit ⟨Nat.le_of_ble_eq_true rfl, Nat.le_of_ble_eq_true rfl⟩) ⟨fun a U g mk q => by obtain ⟨q0, q1, qP, qK, qD⟩ := q; exact ⟨q0, q1, qP, va_K.moved (u := U) (U := U.calling g mk a) (Vm.Alike.refl U.vm) qK, qD⟩, hrv, fun U hU hW => ⟨rfl, by rw [hU], by rw [hU]; exact hPc, va_K.moved hW.alike hKc, hDc.weaken (fun _ _ _ _ => trivial)⟩⟩ rfl rfl hl.1 rfl (lv_room (Nat.le_of_ble_eq_true rfl)) dX4_readSum_36 ⟨Nat.le_of_ble_eq_true rfl, Nat.le_of_ble_eq_true rfl⟩) hS (fun q _ h => hFc q h) hFc (fun u t H1 locs ht hvm hw hB hz1 hk1 hS => ?_)
            as_aux_lemma =>
            obtain ⟨x_74, w_75⟩ := u
            obtain ⟨hP1, hK1, hD1⟩ := hB
            rw [ht] at hP1
            obtain ⟨hP, hD⟩ := cl_put (w1 := (wd_c_X4_emit h0 h0_0 x_74 h0_2 h0_0 h0_0k w_75)) (nw := (wd_c_X4_readSum h1 h1_0 h1_f1 x_61 x_62 h1_0 h1_0k h1_0c h0 h0_0 x_74 h0_2 h0_0 h0_0k w_75)) hP hD [2, 3] [0, 1, 4, 5] 4 rfl hqc (by decide +kernel) rfl hk1 hFc hP1 hD1
            generalize H1 = H at hP hS ⊢
            as_aux_lemma =>
            have h_76 := hw
            exact hU _ _ _ (J39 x_61 x_62 x_74 w_75 g_h0_f1 g_h1_f1 g_h1_f2 g_h1_f3 (RG_w h_76 (by decide +kernel)) h_65 h_66 g_j8_h0_f1 g_j8_h1_f2 h_57 (RG_w g_70 (by decide +kernel)) g_j8_l4 g_52 _ _ _ hP hD hS (lv_sub hl [0, 1, 3, 4, 5] rfl))
  refine hG _ _ _ ?_
  refine lv_iconst (v := 0) hx hb dX4_readSum_0 kc_iconst_0 ?_
  refine lv_istore_n (lv' := [(3, .int 0), (0, .ref h0), (1, .ref h1), (2, .int 0)]) hx hb dX4_readSum_1 rfl hl (Nat.le_of_ble_eq_true rfl) rfl (fun ls hl => ?_)
  refine lv_iconst (v := 0) hx hb dX4_readSum_2 kc_iconst_0 ?_
  refine lv_istore (lv' := [(4, .int 0), (3, .int 0), (0, .ref h0), (1, .ref h1), (2, .int 0)]) hx hb dX4_readSum_3 hl (Nat.le_of_ble_eq_true rfl) rfl (fun ls hl => ?_)
  refine lv_iconst (v := 0) hx hb dX4_readSum_5 kc_iconst_0 ?_
  refine lv_istore (lv' := [(5, .int 0), (4, .int 0), (3, .int 0), (0, .ref h0), (1, .ref h1), (2, .int 0)]) hx hb dX4_readSum_6 hl (Nat.le_of_ble_eq_true rfl) rfl (fun ls hl => ?_)
  exact hU _ _ _ (J8 _ 0 0 0 h1_f2 h1_f3 h0_f1 h0_0c (Nat.lt_succ_self _) g_h0_f1 g_h1_f1 g_h1_f2 g_h1_f3 g_h0_f1 g_h1_f2 g_h1_f3 (RG_w (RG_k 0 0 rfl) (by decide +kernel)) (RG_w (RG_k 0 0 rfl) (by decide +kernel)) (RG_w (RG_k 0 0 rfl) (by decide +kernel)) _ _ _ hP hD hS (lv_sub hl [0, 1, 2, 3, 4, 5] rfl))
noncomputable def wf_c_X4_isComparison : List Cond := .code yX4_isComparison cX4_isComparison 1 (some .boolean) :: ([])
set_option maxHeartbeats 4000000 in
set_option maxRecDepth 100000 in
theorem c_X4_isComparison (l : Launch) (dC : Nat → ClassId) (dI : Nat → Nat → Nat) (sz : Nat) (p0 : Int32) (g_p0 : RG p0 (-1) (-1)) : Met l yX4_isComparison wf_c_X4_isComparison ({ frames := 0, cells := 0, slots := 0, locals := 0 }) (va_Pc [.int p0] (fun U => U.heap.size = sz ∧ va_P (dC, dI) vwCl [] U.heap ∧ va_K (dC, dI) vwCl [] U ∧ va_D (fun _ => True) [])) (va_Qi (fun (r : Int32) (u : Unit) => (r = 0)) (fun (u : Unit) t => va_P (dC, dI) vwCl [] t.heap ∧ va_K (dC, dI) vwCl [] t ∧ va_D (va_A [] sz) []) (va_A [] sz)) 0 0 (va_A [] sz) := by
  refine Met.ofW (cc := cX4_isComparison) (maxL := 1) (ret := (some .boolean)) (by decide +kernel) rfl ?_
  intro p e s m args below meth c s₁ B hml hv
  obtain ⟨rfl, hsz, hP, hK, hD0⟩ := hv
  have hx := B.exec
  have hb := B.bytes
  have hr := B.returns
  have hts := atoms_spec (ws := wf_c_X4_isComparison) B.pre
  have hown : s.vm.findClass RX4 = some m.cls := findClass_of_methodNamed B.named
  have hlocks := B.notSynchronized
  subst hsz
  have hD := hD0.self (sz := s.heap.size)
  generalize hAe : va_A [] s.heap.size = A at hD ⊢
  have hA : ∀ q : Nat, s.heap.size ≤ q → A q := fun q h => by rw [← hAe]; exact Or.inr h
  have hP : va_P (dC, dI) vwCl [] s.heap := hP
  have hl := lv_entry ([.int p0]) (n := 1) (Nat.le_of_ble_eq_true rfl)
  rw [lg_entry_eq]
  generalize (lg_sl ([.int p0]) ++ List.replicate (1 - (lg_sl ([.int p0])).length) Slot.unset).toArray = ls at hl ⊢
  have hl : lv_has ls 1 [(0, .int p0)] := hl
  obtain ⟨H, hHe⟩ : ∃ H : Heap, s.heap = H := ⟨_, rfl⟩
  have hS : va_S A s.heap H [] := by rw [hHe]; exact va_S.rf
  have hP : va_P (dC, dI) vwCl [] H := by rw [← hHe]; exact hP
  rw [hHe]
  refine lv_iload_n hx hb dX4_isComparison_0 rfl (lv_at hl 0 rfl) ?_
  as_aux_lemma =>
  refine lv_bipush (v := 61) hx hb dX4_isComparison_1 kc_bipush_61 ?_
  refine lv_icmp_eq (tgt := 18) hx hb dX4_isComparison_3 rfl (fun c_1 => ?_) (fun c_1 => ?_)
  · exact RG_dead (RG_eq1 g_p0 (RG_k 61 61 rfl) c_1 (a' := 61) (b' := (-1)) (by decide +kernel)) (by decide +kernel)
  · refine lv_iload_n hx hb dX4_isComparison_6 rfl (lv_at hl 0 rfl) ?_
    refine lv_bipush (v := 60) hx hb dX4_isComparison_7 kc_bipush_60 ?_
    refine lv_icmp_eq (tgt := 18) hx hb dX4_isComparison_9 rfl (fun c_2 => ?_) (fun c_2 => ?_)
    · exact RG_dead (RG_eq1 g_p0 (RG_k 60 60 rfl) c_2 (a' := 60) (b' := (-1)) (by decide +kernel)) (by decide +kernel)
    · refine lv_iload_n hx hb dX4_isComparison_12 rfl (lv_at hl 0 rfl) ?_
      refine lv_bipush (v := 62) hx hb dX4_isComparison_13 kc_bipush_62 ?_
      refine lv_icmp_ne (tgt := 22) hx hb dX4_isComparison_15 rfl (fun c_3 => ?_) (fun c_3 => ?_)
      · refine lv_iconst (v := 0) hx hb dX4_isComparison_22 kc_iconst_0 ?_
        have hK9 := hK.sub (tys' := []) [] rfl
        exact W.zret (v := 0) hx hb hr rfl (fun t ht hW => ⟨⟨0, (), rfl, rfl, by rw [ht]; exact hP, va_K.moved hW.alike hK9, hD⟩, hS.F ht⟩) hS.2.2 dX4_isComparison_23
      · exact RG_dead (RG_eq1 g_p0 (RG_k 62 62 rfl) c_3 (a' := 62) (b' := (-1)) (by decide +kernel)) (by decide +kernel)
noncomputable def wf_c_X4_isComparison_1 : List Cond := .code yX4_isComparison cX4_isComparison 1 (some .boolean) :: ([])
set_option maxHeartbeats 4000000 in
set_option maxRecDepth 100000 in
theorem c_X4_isComparison_1 (l : Launch) (dC : Nat → ClassId) (dI : Nat → Nat → Nat) (sz : Nat) (p0 : Int32) (g_p0 : RG p0 0 255) : Met l yX4_isComparison wf_c_X4_isComparison_1 ({ frames := 0, cells := 0, slots := 0, locals := 0 }) (va_Pc [.int p0] (fun U => U.heap.size = sz ∧ va_P (dC, dI) vwCl [] U.heap ∧ va_K (dC, dI) vwCl [] U ∧ va_D (fun _ => True) [])) (va_Qi (fun (r : Int32) (u : Unit) => (r = 0) ∨ (r = 1 ∧ RG p0 60 62)) (fun (u : Unit) t => va_P (dC, dI) vwCl [] t.heap ∧ va_K (dC, dI) vwCl [] t ∧ va_D (va_A [] sz) []) (va_A [] sz)) 0 0 (va_A [] sz) := by
  refine Met.ofW (cc := cX4_isComparison) (maxL := 1) (ret := (some .boolean)) (by decide +kernel) rfl ?_
  intro p e s m args below meth c s₁ B hml hv
  obtain ⟨rfl, hsz, hP, hK, hD0⟩ := hv
  have hx := B.exec
  have hb := B.bytes
  have hr := B.returns
  have hts := atoms_spec (ws := wf_c_X4_isComparison_1) B.pre
  have hown : s.vm.findClass RX4 = some m.cls := findClass_of_methodNamed B.named
  have hlocks := B.notSynchronized
  subst hsz
  have hD := hD0.self (sz := s.heap.size)
  generalize hAe : va_A [] s.heap.size = A at hD ⊢
  have hA : ∀ q : Nat, s.heap.size ≤ q → A q := fun q h => by rw [← hAe]; exact Or.inr h
  have hP : va_P (dC, dI) vwCl [] s.heap := hP
  have hl := lv_entry ([.int p0]) (n := 1) (Nat.le_of_ble_eq_true rfl)
  rw [lg_entry_eq]
  generalize (lg_sl ([.int p0]) ++ List.replicate (1 - (lg_sl ([.int p0])).length) Slot.unset).toArray = ls at hl ⊢
  have hl : lv_has ls 1 [(0, .int p0)] := hl
  obtain ⟨H, hHe⟩ : ∃ H : Heap, s.heap = H := ⟨_, rfl⟩
  have hS : va_S A s.heap H [] := by rw [hHe]; exact va_S.rf
  have hP : va_P (dC, dI) vwCl [] H := by rw [← hHe]; exact hP
  rw [hHe]
  refine wj (fun G hG hU => ?_)
  as_aux_lemma =>
  have J18 : ∀ (g_p0 : RG p0 60 62) (H : Heap) (locs : List Loc) (ls : Array Slot) (hP : va_P (dC, dI) vwCl [] H) (hD : va_D A []) (hS : va_S A s.heap H locs) (hl : lv_has ls 1 []), G H locs (F0 m 18 ls []) := by
    as_aux_lemma =>
    intro g_p0 H locs ls hP hD hS hl
    refine hG _ _ _ ?_
    refine lv_iconst (v := 1) hx hb dX4_isComparison_18 kc_iconst_1 ?_
    refine lv_goto (tgt := 23) hx hb dX4_isComparison_19 rfl ?_
    have hK9 := hK.sub (tys' := []) [] rfl
    exact W.zret (v := 1) hx hb hr rfl (fun t ht hW => ⟨⟨1, (), rfl, (Or.inr ⟨rfl, g_p0⟩), by rw [ht]; exact hP, va_K.moved hW.alike hK9, hD⟩, hS.F ht⟩) hS.2.2 dX4_isComparison_23
  refine hG _ _ _ ?_
  refine lv_iload_n hx hb dX4_isComparison_0 rfl (lv_at hl 0 rfl) ?_
  refine lv_bipush (v := 61) hx hb dX4_isComparison_1 kc_bipush_61 ?_
  refine lv_icmp_eq (tgt := 18) hx hb dX4_isComparison_3 rfl (fun c_1 => ?_) (fun c_1 => ?_)
  · have g_2 : RG p0 61 61 := RG_eq1 g_p0 (RG_k 61 61 rfl) c_1 (by decide +kernel)
    exact hU _ _ _ (J18 (RG_w g_2 (by decide +kernel)) _ _ _ hP hD hS (lv_sub hl [] rfl))
  · refine lv_iload_n hx hb dX4_isComparison_6 rfl (lv_at hl 0 rfl) ?_
    refine lv_bipush (v := 60) hx hb dX4_isComparison_7 kc_bipush_60 ?_
    as_aux_lemma =>
    refine lv_icmp_eq (tgt := 18) hx hb dX4_isComparison_9 rfl (fun c_3 => ?_) (fun c_3 => ?_)
    · have g_4 : RG p0 60 60 := RG_eq1 g_p0 (RG_k 60 60 rfl) c_3 (by decide +kernel)
      exact hU _ _ _ (J18 (RG_w g_4 (by decide +kernel)) _ _ _ hP hD hS (lv_sub hl [] rfl))
    · refine lv_iload_n hx hb dX4_isComparison_12 rfl (lv_at hl 0 rfl) ?_
      refine lv_bipush (v := 62) hx hb dX4_isComparison_13 kc_bipush_62 ?_
      refine lv_icmp_ne (tgt := 22) hx hb dX4_isComparison_15 rfl (fun c_5 => ?_) (fun c_5 => ?_)
      · refine lv_iconst (v := 0) hx hb dX4_isComparison_22 kc_iconst_0 ?_
        have hK9 := hK.sub (tys' := []) [] rfl
        exact W.zret (v := 0) hx hb hr rfl (fun t ht hW => ⟨⟨0, (), rfl, (Or.inl rfl), by rw [ht]; exact hP, va_K.moved hW.alike hK9, hD⟩, hS.F ht⟩) hS.2.2 dX4_isComparison_23
      · have g_6 : RG p0 62 62 := RG_eq1 g_p0 (RG_k 62 62 rfl) c_5 (by decide +kernel)
        exact hU _ _ _ (J18 (RG_w g_6 (by decide +kernel)) _ _ _ hP hD hS (lv_sub hl [] rfl))
noncomputable def wd_c_X4_readUnit (a0 : Nat) (a1 : Nat) (a2 : Int32) (a3 : Int32) (a4 : Int32) (a5 : Nat) (a6 : ClassId) (a7 : Nat → Int32) (a8 : Nat) (a9 : Nat) (a10 : Int32) (a11 : Nat) (a12 : Nat) (a13 : ClassId) (a14 : Nat → Int32) : va_W := [(a0, .inr (9, [.ref a1, .int a2, .int a3, .int a4])), (a5, .inl (a6, 240, .inl a7)), (a8, .inr (4, [.ref a9, .int a10, .ref a11])), (a12, .inl (a13, 240, .inl a14))]
noncomputable def wf_c_X4_readUnit : List Cond := List.cons (.code yX4_readUnit cX4_readUnit 5 none) (@HAppend.hAppend (List Cond) (List Cond) (List Cond) _ (@HAppend.hAppend (List Cond) (List Cond) (List Cond) _ [.methodLink RX4 41 yX9_peek, .instanceMethod yX9_peek, .selects RX9 yX9_peek yX9_peek, .initialized RX9, .code yX9_peek cX9_peek 1 (some .int), .fieldLink RX9 22 "BuoyVote$Tape" "at" "I", .fieldLink RX9 19 "BuoyVote$Tape" "length" "I", .fieldLink RX9 11 "BuoyVote$Tape" "bytes" "[I", .methodLink RX4 53 yX4_isComparison, .static yX4_isComparison, .initialized RX4, .code yX4_isComparison cX4_isComparison 1 (some .boolean), .methodLink RX4 82 yX9_refuseHere, .instanceMethod yX9_refuseHere, .selects RX9 yX9_refuseHere yX9_refuseHere, .code yX9_refuseHere cX9_refuseHere 1 none, .methodLink RX9 25 yX9_refuse, .instanceMethod yX9_refuse, .selects RX9 yX9_refuse yX9_refuse, .code yX9_refuse cX9_refuse 2 none, .fieldLink RX9 15 "BuoyVote$Tape" "wrong" "I", .methodLink RX4 79 yX9_skip, .instanceMethod yX9_skip, .selects RX9 yX9_skip yX9_skip, .code yX9_skip cX9_skip 1 none, .methodLink RX4 49 yX4_readSum, .instanceMethod yX4_readSum, .selects RX4 yX4_readSum yX4_readSum, .code yX4_readSum cX4_readSum 6 none, .methodLink RX4 72 yX9_isRight, .instanceMethod yX9_isRight, .selects RX9 yX9_isRight yX9_isRight, .code yX9_isRight cX9_isRight 1 (some .boolean), .methodLink RX4 85 yX4_readAtom, .instanceMethod yX4_readAtom, .selects RX4 yX4_readAtom yX4_readAtom, .code yX4_readAtom cX4_readAtom 6 none, .methodLink RX4 93 yJ0_indexOf_0f7a4, .instanceMethod yJ0_indexOf_0f7a4, .selects RJ0 yJ0_indexOf_0f7a4 yJ0_indexOf_0f7a4, .initialized RJ0, .code yJ0_indexOf_0f7a4 cJ0_indexOf_0f7a4 2 (some .int), .methodLink RJ0 633 yJ0_indexOf_7cf53, .instanceMethod yJ0_indexOf_7cf53, .selects RJ0 yJ0_indexOf_7cf53 yJ0_indexOf_7cf53, .code yJ0_indexOf_7cf53 cJ0_indexOf_7cf53 3 (some .int), .methodLink RJ0 492 yJ0_isLatin1_aae02, .instanceMethod yJ0_isLatin1_aae02, .selects RJ0 yJ0_isLatin1_aae02 yJ0_isLatin1_aae02, .code yJ0_isLatin1_aae02 cJ0_isLatin1_aae02 1 (some .boolean), .fieldLink RJ0 38 "java/lang/String" "COMPACT_STRINGS" "Z", .fieldLink RJ0 15 "java/lang/String" "coder" "B", .fieldLink RJ0 9 "java/lang/String" "value" "[B", .methodLink RJ0 505 yJ0_length_8abf5, .instanceMethod yJ0_length_8abf5, .selects RJ0 yJ0_length_8abf5 yJ0_length_8abf5, .code yJ0_length_8abf5 cJ0_length_8abf5 1 (some .int), .methodLink RJ0 335 yJ0_coder_7d493, .instanceMethod yJ0_coder_7d493, .selects RJ0 yJ0_coder_7d493 yJ0_coder_7d493, .code yJ0_coder_7d493 cJ0_coder_7d493 1 (some .byte), .methodLink RJ0 637 yJ1_indexOf_4cfef, .static yJ1_indexOf_4cfef, .initialized RJ1, .code yJ1_indexOf_4cfef cJ1_indexOf_4cfef 4 (some .int), .methodLink RJ1 88 yJ1_canEncode_9a6ad, .static yJ1_canEncode_9a6ad, .code yJ1_canEncode_9a6ad cJ1_canEncode_9a6ad 1 (some .boolean), .methodLink RJ1 92 Lib.Math.max.name, .static Lib.Math.max.name, .initialized "java/lang/Math", .code Lib.Math.max.name Lib.Math.max.code 2 (some .int), .methodLink RJ1 38 Lib.Math.min.name, .static Lib.Math.min.name, .code Lib.Math.min.name Lib.Math.min.code 2 (some .int), .methodLink RJ1 95 yJ1_indexOfChar_4cfef, .static yJ1_indexOfChar_4cfef, .code yJ1_indexOfChar_4cfef cJ1_indexOfChar_4cfef 6 (some .int), .methodLink RX4 99 yX9_number, .instanceMethod yX9_number, .selects RX9 yX9_number yX9_number, .code yX9_number cX9_number 4 (some .int), .methodLink RX4 60 yX4_emit, .instanceMethod yX4_emit, .selects RX4 yX4_emit yX4_emit, .code yX4_emit cX4_emit 2 none, .fieldLink RX4 20 "BuoyVote$Law" "length" "I", .fieldLink RX4 11 "BuoyVote$Law" "code" "[I", .methodLink RX4 88 yX9_takeEither, .instanceMethod yX9_takeEither, .selects RX9 yX9_takeEither yX9_takeEither, .code yX9_takeEither cX9_takeEither 4 (some .int), .methodLink RX9 29 yX9_peek, .methodLink RX4 37 yX9_expect, .instanceMethod yX9_expect, .selects RX9 yX9_expect yX9_expect, .code yX9_expect cX9_expect 2 none] wsX90) wsX40)
theorem iw_c_X4_readUnit_X9 : ∀ w ∈ wsX90, w ∈ wf_c_X4_readUnit := fun w h => List.mem_cons_of_mem _ (List.mem_append_left _ (List.mem_append_right _ h))
theorem iw_c_X4_readUnit_X4 : ∀ w ∈ wsX40, w ∈ wf_c_X4_readUnit := fun w h => List.mem_cons_of_mem _ (List.mem_append_right _ h)
set_option maxRecDepth 20000 in
theorem gf_c_X4_readUnit_c_X9_peek : GoodIn wf_c_X4_readUnit (wsV RX4 41 RX9 yX9_peek wf_c_X9_peek) := goodIn_app (gi_l [1, 2, 3, 4] rfl rfl) (gi_cons (j := 5) rfl rfl (goodIn_app (gi_l [6, 7, 8] rfl rfl) (goodIn_sub iw_c_X4_readUnit_X9 gw_X9)))
set_option maxRecDepth 20000 in
theorem gf_c_X4_readUnit_c_X4_isComparison : GoodIn wf_c_X4_readUnit (va_wsS RX4 53 yX4_isComparison wf_c_X4_isComparison) := goodIn_app (gi_l [9, 10, 11] rfl rfl) (gi_cons (j := 12) rfl rfl gi_nil)
set_option maxRecDepth 20000 in
theorem gf_c_X4_readUnit_c_X9_refuseHere : GoodIn wf_c_X4_readUnit (wsV RX4 82 RX9 yX9_refuseHere wf_c_X9_refuseHere) := goodIn_app (gi_l [13, 14, 15, 4] rfl rfl) (gi_cons (j := 16) rfl rfl (goodIn_app (gi_l [6, 17, 18, 19, 4, 20, 21] rfl rfl) (goodIn_sub iw_c_X4_readUnit_X9 gw_X9)))
set_option maxRecDepth 20000 in
theorem gf_c_X4_readUnit_c_X4_isComparison_1 : GoodIn wf_c_X4_readUnit (va_wsS RX4 53 yX4_isComparison wf_c_X4_isComparison_1) := goodIn_app (gi_l [9, 10, 11] rfl rfl) (gi_cons (j := 12) rfl rfl gi_nil)
set_option maxRecDepth 20000 in
theorem gf_c_X4_readUnit_c_X9_skip : GoodIn wf_c_X4_readUnit (wsV RX4 79 RX9 yX9_skip wf_c_X9_skip) := goodIn_app (gi_l [22, 23, 24, 4] rfl rfl) (gi_cons (j := 25) rfl rfl (goodIn_app (gi_l [6] rfl rfl) (goodIn_sub iw_c_X4_readUnit_X9 gw_X9)))
set_option maxRecDepth 20000 in
theorem gf_c_X4_readUnit_c_X4_readSum : GoodIn wf_c_X4_readUnit (wsV RX4 49 RX4 yX4_readSum wf_c_X4_readSum) := goodIn_app (gi_l [26, 27, 28, 11] rfl rfl) (gi_cons (j := 29) rfl rfl (goodIn_app (goodIn_app (gi_l [30, 31, 32, 4, 33, 21, 34, 35, 36, 11, 37, 1, 2, 3, 5, 6, 7, 8, 38, 39, 40, 41, 42, 43, 44, 45, 46, 47, 48, 49, 50, 51, 52, 53, 54, 55, 56, 57, 58, 59, 60, 61, 62, 63, 64, 65, 66, 67, 68, 69, 70, 71, 72, 73, 74, 75, 76, 77, 78, 79, 80, 81, 82, 13, 14, 15, 16, 17, 18, 19, 20, 22, 23, 24, 25, 26, 27, 28, 83, 84, 85, 86, 87, 88, 89, 90, 91, 92, 93, 94, 95, 96, 97] rfl rfl) (goodIn_sub iw_c_X4_readUnit_X9 gw_X9)) (goodIn_sub iw_c_X4_readUnit_X4 gw_X4)))
set_option maxRecDepth 20000 in
theorem gf_c_X4_readUnit_c_X4_emit : GoodIn wf_c_X4_readUnit (wsV RX4 60 RX4 yX4_emit wf_c_X4_emit) := goodIn_app (gi_l [83, 84, 85, 11] rfl rfl) (gi_cons (j := 86) rfl rfl (goodIn_app (gi_l [87, 88] rfl rfl) (goodIn_sub iw_c_X4_readUnit_X4 gw_X4)))
set_option maxHeartbeats 4000000 in
set_option maxRecDepth 100000 in
theorem c_X4_readUnit (l : Launch) (dC : Nat → ClassId) (dI : Nat → Nat → Nat) (sz : Nat) (h0 : Nat) (h1 : Nat) (h1_0 : Nat) (h1_f1 : Int32) (h1_f2 : Int32) (h1_f3 : Int32) (h1_0k : ClassId) (h1_0c : Nat → Int32) (h0_0 : Nat) (h0_f1 : Int32) (h0_2 : Nat) (h0_0k : ClassId) (h0_0c : Nat → Int32) (ts4 : Nat) (tv4 : Nat) (g_h1_f1 : RG h1_f1 0 240) (g_h1_f2 : RG h1_f2 0 240) (g_h1_f3 : RG h1_f3 (-1) 240) (a_h1_0c : AI h1_0c 0 255) (g_h0_f1 : RG h0_f1 0 240) : Met l yX4_readUnit wf_c_X4_readUnit ({ frames := 18, cells := 0, slots := 0, locals := 441 }) (va_Pc [.ref h0, .ref h1, .int 0, .int 1] (fun U => U.heap.size = sz ∧ va_P (dC, dI) vwCl (wd_c_X4_readUnit h1 h1_0 h1_f1 h1_f2 h1_f3 h1_0 h1_0k h1_0c h0 h0_0 h0_f1 h0_2 h0_0 h0_0k h0_0c) U.heap ∧ va_K (dC, dI) vwCl [(h1_0k, .int), (h0_0k, .int)] U ∧ va_D (fun _ => True) (wd_c_X4_readUnit h1 h1_0 h1_f1 h1_f2 h1_f3 h1_0 h1_0k h1_0c h0 h0_0 h0_f1 h0_2 h0_0 h0_0k h0_0c) ∧ vk_R RX4 91 "vlrdph" ts4 U ∧ va_Z "java/lang/String" "COMPACT_STRINGS" "Z" (.int 1) (va_A (wd_c_X4_readUnit h1 h1_0 h1_f1 h1_f2 h1_f3 h1_0 h1_0k h1_0c h0 h0_0 h0_f1 h0_2 h0_0 h0_0k h0_0c) sz) U U.heap ∧ va_OF "java/lang/String" "coder" "B" (.int 0) ts4 (va_A (wd_c_X4_readUnit h1 h1_0 h1_f1 h1_f2 h1_f3 h1_0 h1_0k h1_0c h0 h0_0 h0_f1 h0_2 h0_0 h0_0k h0_0c) sz) U U.heap ∧ va_O "java/lang/String" ts4 (va_A (wd_c_X4_readUnit h1 h1_0 h1_f1 h1_f2 h1_f3 h1_0 h1_0k h1_0c h0 h0_0 h0_f1 h0_2 h0_0 h0_0k h0_0c) sz) U U.heap ∧ va_OF "java/lang/String" "value" "[B" (.ref tv4) ts4 (va_A (wd_c_X4_readUnit h1 h1_0 h1_f1 h1_f2 h1_f3 h1_0 h1_0k h1_0c h0 h0_0 h0_f1 h0_2 h0_0 h0_0k h0_0c) sz) U U.heap ∧ va_T .byte tv4 6 (fun j => .int ([118, 108, 114, 100, 112, 104].getD j 0)) (va_A (wd_c_X4_readUnit h1 h1_0 h1_f1 h1_f2 h1_f3 h1_0 h1_0k h1_0c h0 h0_0 h0_f1 h0_2 h0_0 h0_0k h0_0c) sz) U U.heap)) (va_Qv (fun (u : (Int32) × (Int32) × (Int32) × (Nat → Int32)) => (RG u.1 0 240 ∧ RG u.2.1 (-1) 240 ∧ RG u.2.2.1 0 240)) (fun (u : (Int32) × (Int32) × (Int32) × (Nat → Int32)) t => va_P (dC, dI) vwCl (wd_c_X4_readUnit h1 h1_0 h1_f1 (u.1) (u.2.1) h1_0 h1_0k h1_0c h0 h0_0 (u.2.2.1) h0_2 h0_0 h0_0k (u.2.2.2)) t.heap ∧ va_K (dC, dI) vwCl [] t ∧ va_D (va_A (wd_c_X4_readUnit h1 h1_0 h1_f1 h1_f2 h1_f3 h1_0 h1_0k h1_0c h0 h0_0 h0_f1 h0_2 h0_0 h0_0k h0_0c) sz) (wd_c_X4_readUnit h1 h1_0 h1_f1 (u.1) (u.2.1) h1_0 h1_0k h1_0c h0 h0_0 (u.2.2.1) h0_2 h0_0 h0_0k (u.2.2.2))) (va_A (wd_c_X4_readUnit h1 h1_0 h1_f1 h1_f2 h1_f3 h1_0 h1_0k h1_0c h0 h0_0 h0_f1 h0_2 h0_0 h0_0k h0_0c) sz)) 0 0 (va_A (wd_c_X4_readUnit h1 h1_0 h1_f1 h1_f2 h1_f3 h1_0 h1_0k h1_0c h0 h0_0 h0_f1 h0_2 h0_0 h0_0k h0_0c) sz) := by
  refine Met.ofW (cc := cX4_readUnit) (maxL := 5) (ret := none) (by decide +kernel) rfl ?_
  intro p e s m args below meth c s₁ B hml hv
  obtain ⟨rfl, hsz, hP, hK, hD0, hE_32, hE_10, hE_34, hE_33, hE_35, hE_36⟩ := hv
  have hx := B.exec
  have hb := B.bytes
  have hr := B.returns
  have hts := atoms_spec (ws := wf_c_X4_readUnit) B.pre
  have hown : s.vm.findClass RX4 = some m.cls := findClass_of_methodNamed B.named
  have hlocks := B.notSynchronized
  subst hsz
  have hD := hD0.self (sz := s.heap.size)
  generalize hAe : va_A (wd_c_X4_readUnit h1 h1_0 h1_f1 h1_f2 h1_f3 h1_0 h1_0k h1_0c h0 h0_0 h0_f1 h0_2 h0_0 h0_0k h0_0c) s.heap.size = A at hD hE_10 hE_34 hE_33 hE_35 hE_36 ⊢
  have hA : ∀ q : Nat, s.heap.size ≤ q → A q := fun q h => by rw [← hAe]; exact Or.inr h
  have hP : va_P (dC, dI) vwCl (wd_c_X4_readUnit h1 h1_0 h1_f1 h1_f2 h1_f3 h1_0 h1_0k h1_0c h0 h0_0 h0_f1 h0_2 h0_0 h0_0k h0_0c) s.heap := hP
  have hl := lv_entry ([.ref h0, .ref h1, .int 0, .int 1]) (n := 5) (Nat.le_of_ble_eq_true rfl)
  rw [lg_entry_eq]
  generalize (lg_sl ([.ref h0, .ref h1, .int 0, .int 1]) ++ List.replicate (5 - (lg_sl ([.ref h0, .ref h1, .int 0, .int 1])).length) Slot.unset).toArray = ls at hl ⊢
  have hl : lv_has ls 5 [(0, .ref h0), (1, .ref h1), (2, .int 0), (3, .int 1)] := hl
  obtain ⟨H, hHe⟩ : ∃ H : Heap, s.heap = H := ⟨_, rfl⟩
  have hS : va_S A s.heap H [] := by rw [hHe]; exact va_S.rf
  have hP : va_P (dC, dI) vwCl (wd_c_X4_readUnit h1 h1_0 h1_f1 h1_f2 h1_f3 h1_0 h1_0k h1_0c h0 h0_0 h0_f1 h0_2 h0_0 h0_0k h0_0c) H := by rw [← hHe]; exact hP
  rw [hHe]
  refine wj (fun G hG hU => ?_)
  as_aux_lemma =>
  have J62 : ∀ (j62_h1_f2 : Int32) (j62_h1_f3 : Int32) (j62_h0_f1 : Int32) (j62_h0_0c : Nat → Int32) (g_h0_f1 : RG h0_f1 0 240) (g_h1_f1 : RG h1_f1 0 240) (g_h1_f2 : RG h1_f2 0 240) (g_h1_f3 : RG h1_f3 (-1) 240) (g_j62_h0_f1 : RG j62_h0_f1 0 240) (g_j62_h1_f2 : RG j62_h1_f2 0 240) (g_j62_h1_f3 : RG j62_h1_f3 (-1) 240) (H : Heap) (locs : List Loc) (ls : Array Slot) (hP : va_P (dC, dI) vwCl (wd_c_X4_readUnit h1 h1_0 h1_f1 j62_h1_f2 j62_h1_f3 h1_0 h1_0k h1_0c h0 h0_0 j62_h0_f1 h0_2 h0_0 h0_0k j62_h0_0c) H) (hD : va_D A (wd_c_X4_readUnit h1 h1_0 h1_f1 j62_h1_f2 j62_h1_f3 h1_0 h1_0k h1_0c h0 h0_0 j62_h0_f1 h0_2 h0_0 h0_0k j62_h0_0c)) (hS : va_S A s.heap H locs) (hl : lv_has ls 5 []), G H locs (F0 m 62 ls []) := by
    as_aux_lemma =>
    intro j62_h1_f2 j62_h1_f3 j62_h0_f1 j62_h0_0c g_h0_f1 g_h1_f1 g_h1_f2 g_h1_f3 g_j62_h0_f1 g_j62_h1_f2 g_j62_h1_f3 H locs ls hP hD hS hl
    refine hG _ _ _ ?_
    refine lv_goto (tgt := 126) hx hb dX4_readUnit_62 rfl ?_
    have hK9 := hK.sub (tys' := []) [] rfl
    exact W.vret hx hb hr (fun t ht hW => ⟨⟨(j62_h1_f2, j62_h1_f3, j62_h0_f1, j62_h0_0c), rfl, ⟨g_j62_h1_f2, g_j62_h1_f3, g_j62_h0_f1⟩, by rw [ht]; exact hP, va_K.moved hW.alike hK9, hD⟩, hS.F ht⟩) hS.2.2 dX4_readUnit_126
  have J24 : ∀ (g_h0_f1 : RG h0_f1 0 240) (g_h1_f1 : RG h1_f1 0 240) (g_h1_f2 : RG h1_f2 0 240) (g_h1_f3 : RG h1_f3 (-1) 240) (H : Heap) (locs : List Loc) (ls : Array Slot) (hP : va_P (dC, dI) vwCl (wd_c_X4_readUnit h1 h1_0 h1_f1 h1_f2 h1_f3 h1_0 h1_0k h1_0c h0 h0_0 h0_f1 h0_2 h0_0 h0_0k h0_0c) H) (hD : va_D A (wd_c_X4_readUnit h1 h1_0 h1_f1 h1_f2 h1_f3 h1_0 h1_0k h1_0c h0 h0_0 h0_f1 h0_2 h0_0 h0_0k h0_0c)) (hS : va_S A s.heap H locs) (hl : lv_has ls 5 [(0, .ref h0), (1, .ref h1), (2, .int 0)]), G H locs (F0 m 24 ls []) := by
    as_aux_lemma =>
    intro g_h0_f1 g_h1_f1 g_h1_f2 g_h1_f3 H locs ls hP hD hS hl
    refine hG _ _ _ ?_
    refine lv_aload_n hx hb dX4_readUnit_24 rfl (lv_at hl 1 rfl) ?_
    obtain ⟨hPc, hDc, hFc, hqc⟩ := cl_cut (wc := (wd_c_X9_peek h1 h1_0 h1_f1 h1_f2 h1_f3 h1_0 h1_0k h1_0c)) hP hD hS hA [0, 1] (by decide +kernel) rfl
    have hKc := hK.sub (tys' := [(h1_0k, .int)]) [0] rfl
    have hrv := va_recv hKc hPc (ci := 9) (q0 := 0) rfl rfl
    refine va_calli (va_runV (As := []) (rest := []) ⟨hx, hb, hml, hown, hts⟩ (c_X9_peek l dC dI H.size h1 h1_0 h1_f1 h1_f2 h1_f3 h1_0k h1_0c g_h1_f1 g_h1_f2 g_h1_f3 a_h1_0c) (cwV 0 hts gf_c_X4_readUnit_c_X9_peek rfl rfl rfl mdV_X9_peek ⟨Nat.le_of_ble_eq_true rfl, Nat.le_of_ble_eq_true rfl⟩) ⟨fun a U g mk q => by obtain ⟨q0, q1, qP, qK, qD⟩ := q; exact ⟨q0, q1, qP, va_K.moved (u := U) (U := U.calling g mk a) (Vm.Alike.refl U.vm) qK, qD⟩, hrv, fun U hU hW => ⟨rfl, by rw [hU], by rw [hU]; exact hPc, va_K.moved hW.alike hKc, hDc.weaken (fun _ _ _ _ => trivial)⟩⟩ rfl rfl hl.1 rfl (lv_room (Nat.le_of_ble_eq_true rfl)) dX4_readUnit_25 ⟨Nat.le_of_ble_eq_true rfl, Nat.le_of_ble_eq_true rfl⟩) hS (fun q _ h => hFc q h) hFc (fun r_1 x_2 t H1 locs ht hvm hw hB hz1 hk1 hS => ?_)
    obtain ⟨hP1, hK1, hD1⟩ := hB
    rw [ht] at hP1
    obtain ⟨hP, hD⟩ := cl_put (w1 := (wd_c_X9_peek h1 h1_0 h1_f1 x_2 h1_f3 h1_0 h1_0k h1_0c)) (nw := (wd_c_X4_readUnit h1 h1_0 h1_f1 x_2 h1_f3 h1_0 h1_0k h1_0c h0 h0_0 h0_f1 h0_2 h0_0 h0_0k h0_0c)) hP hD [0, 1] [4, 5, 2, 3] 4 rfl hqc (by decide +kernel) rfl hk1 hFc hP1 hD1
    generalize H1 = H at hP hS ⊢
    as_aux_lemma =>
    rcases hw with ⟨h_3, h_4, h_5⟩ | ⟨h_6, h_7, h_8, h_9⟩
    · rw [h_3]
      refine lv_istore (lv' := [(4, .int (-1)), (0, .ref h0), (1, .ref h1), (2, .int 0)]) hx hb dX4_readUnit_28 hl (Nat.le_of_ble_eq_true rfl) rfl (fun ls hl => ?_)
      refine lv_iload hx hb dX4_readUnit_30 (lv_at hl 0 rfl) ?_
      obtain ⟨hPc, hDc, hFc, hqc⟩ := cl_cut (wc := []) hP hD hS hA [] (by decide +kernel) rfl
      have hKc := hK.sub (tys' := []) [] rfl
      refine va_calli (va_runS (As := [.int (-1)]) (rest := []) ⟨hx, hb, hml, hown, hts⟩ (c_X4_isComparison l dC dI H.size (-1) (RG_k (-1) (-1) rfl)) (va_cwS 1 hts gf_c_X4_readUnit_c_X4_isComparison rfl rfl rfl md_X4_isComparison ⟨Nat.le_of_ble_eq_true rfl, Nat.le_of_ble_eq_true rfl⟩) ⟨fun a U g mk q => by obtain ⟨q0, q1, qP, qK, qD⟩ := q; exact ⟨q0, q1, qP, va_K.moved (u := U) (U := U.calling g mk a) (Vm.Alike.refl U.vm) qK, qD⟩, fun U hU hW => ⟨rfl, by rw [hU], by rw [hU]; exact hPc, va_K.moved hW.alike hKc, hDc.weaken (fun _ _ _ _ => trivial)⟩⟩ rfl rfl hl.1 rfl (lv_room (Nat.le_of_ble_eq_true rfl)) dX4_readUnit_32 ⟨Nat.le_of_ble_eq_true rfl, Nat.le_of_ble_eq_true rfl⟩) hS (fun q _ h => hFc q h) hFc (fun r_10 u t H1 locs ht hvm hw hB hz1 hk1 hS => ?_)
      obtain ⟨hP1, hK1, hD1⟩ := hB
      rw [ht] at hP1
      have hP := bv_still hP hk1
      generalize H1 = H at hP hS ⊢
      as_aux_lemma =>
      have h_11 := hw
      rw [h_11]
      refine lv_if_eq (tgt := 58) hx hb dX4_readUnit_35 rfl (fun c_12 => ?_) (fun c_12 => absurd c_12 (by decide +kernel))
      refine lv_aload_n hx hb dX4_readUnit_58 rfl (lv_at hl 2 rfl) ?_
      obtain ⟨hPc, hDc, hFc, hqc⟩ := cl_cut (wc := (wd_c_X9_refuseHere h1 h1_0 h1_f1 x_2 h1_f3)) hP hD hS hA [0] (by decide +kernel) rfl
      have hKc := hK.sub (tys' := []) [] rfl
      have hrv := va_recv hKc hPc (ci := 9) (q0 := 0) rfl rfl
      refine va_callv (va_runV (As := []) (rest := []) ⟨hx, hb, hml, hown, hts⟩ (c_X9_refuseHere l dC dI H.size h1 h1_0 h1_f1 x_2 h1_f3 g_h1_f1 h_4 g_h1_f3) (cwV 0 hts gf_c_X4_readUnit_c_X9_refuseHere rfl rfl rfl mdV_X9_refuseHere ⟨Nat.le_of_ble_eq_true rfl, Nat.le_of_ble_eq_true rfl⟩) ⟨fun a U g mk q => by obtain ⟨q0, q1, qP, qK, qD⟩ := q; exact ⟨q0, q1, qP, va_K.moved (u := U) (U := U.calling g mk a) (Vm.Alike.refl U.vm) qK, qD⟩, hrv, fun U hU hW => ⟨rfl, by rw [hU], by rw [hU]; exact hPc, va_K.moved hW.alike hKc, hDc.weaken (fun _ _ _ _ => trivial)⟩⟩ rfl rfl hl.1 rfl (lv_room (Nat.le_of_ble_eq_true rfl)) dX4_readUnit_59 ⟨Nat.le_of_ble_eq_true rfl, Nat.le_of_ble_eq_true rfl⟩) hS (fun q _ h => hFc q h) hFc (fun x_14 t H1 locs ht hvm hw hB hz1 hk1 hS => ?_)
      obtain ⟨hP1, hK1, hD1⟩ := hB
      rw [ht] at hP1
      obtain ⟨hP, hD⟩ := cl_put (w1 := (wd_c_X9_refuseHere h1 h1_0 h1_f1 x_2 x_14)) (nw := (wd_c_X4_readUnit h1 h1_0 h1_f1 x_2 x_14 h1_0 h1_0k h1_0c h0 h0_0 h0_f1 h0_2 h0_0 h0_0k h0_0c)) hP hD [0] [4, 1, 2, 3] 4 rfl hqc (by decide +kernel) rfl hk1 hFc hP1 hD1
      generalize H1 = H at hP hS ⊢
      as_aux_lemma =>
      have h_15 := hw
      exact hU _ _ _ (J62 x_2 x_14 h0_f1 h0_0c g_h0_f1 g_h1_f1 g_h1_f2 g_h1_f3 g_h0_f1 h_4 (RG_w h_15 (by decide +kernel)) _ _ _ hP hD hS (lv_sub hl [] rfl))
    · refine lv_istore (lv' := [(4, .int r_1), (0, .ref h0), (1, .ref h1), (2, .int 0)]) hx hb dX4_readUnit_28 hl (Nat.le_of_ble_eq_true rfl) rfl (fun ls hl => ?_)
      refine lv_iload hx hb dX4_readUnit_30 (lv_at hl 0 rfl) ?_
      obtain ⟨hPc, hDc, hFc, hqc⟩ := cl_cut (wc := []) hP hD hS hA [] (by decide +kernel) rfl
      have hKc := hK.sub (tys' := []) [] rfl
      refine va_calli (va_runS (As := [.int r_1]) (rest := []) ⟨hx, hb, hml, hown, hts⟩ (c_X4_isComparison_1 l dC dI H.size r_1 h_6) (va_cwS 1 hts gf_c_X4_readUnit_c_X4_isComparison_1 rfl rfl rfl md_X4_isComparison ⟨Nat.le_of_ble_eq_true rfl, Nat.le_of_ble_eq_true rfl⟩) ⟨fun a U g mk q => by obtain ⟨q0, q1, qP, qK, qD⟩ := q; exact ⟨q0, q1, qP, va_K.moved (u := U) (U := U.calling g mk a) (Vm.Alike.refl U.vm) qK, qD⟩, fun U hU hW => ⟨rfl, by rw [hU], by rw [hU]; exact hPc, va_K.moved hW.alike hKc, hDc.weaken (fun _ _ _ _ => trivial)⟩⟩ rfl rfl hl.1 rfl (lv_room (Nat.le_of_ble_eq_true rfl)) dX4_readUnit_32 ⟨Nat.le_of_ble_eq_true rfl, Nat.le_of_ble_eq_true rfl⟩) hS (fun q _ h => hFc q h) hFc (fun r_16 u t H1 locs ht hvm hw hB hz1 hk1 hS => ?_)
      obtain ⟨hP1, hK1, hD1⟩ := hB
      rw [ht] at hP1
      have hP := bv_still hP hk1
      generalize H1 = H at hP hS ⊢
      as_aux_lemma =>
      rcases hw with h_17 | ⟨h_18, h_19⟩
      · rw [h_17]
        refine lv_if_eq (tgt := 58) hx hb dX4_readUnit_35 rfl (fun c_20 => ?_) (fun c_20 => absurd c_20 (by decide +kernel))
        refine lv_aload_n hx hb dX4_readUnit_58 rfl (lv_at hl 2 rfl) ?_
        obtain ⟨hPc, hDc, hFc, hqc⟩ := cl_cut (wc := (wd_c_X9_refuseHere h1 h1_0 h1_f1 x_2 h1_f3)) hP hD hS hA [0] (by decide +kernel) rfl
        have hKc := hK.sub (tys' := []) [] rfl
        have hrv := va_recv hKc hPc (ci := 9) (q0 := 0) rfl rfl
        refine va_callv (va_runV (As := []) (rest := []) ⟨hx, hb, hml, hown, hts⟩ (c_X9_refuseHere l dC dI H.size h1 h1_0 h1_f1 x_2 h1_f3 (RG_w h_8 (by decide +kernel)) (RG_w h_7 (by decide +kernel)) g_h1_f3) (cwV 0 hts gf_c_X4_readUnit_c_X9_refuseHere rfl rfl rfl mdV_X9_refuseHere ⟨Nat.le_of_ble_eq_true rfl, Nat.le_of_ble_eq_true rfl⟩) ⟨fun a U g mk q => by obtain ⟨q0, q1, qP, qK, qD⟩ := q; exact ⟨q0, q1, qP, va_K.moved (u := U) (U := U.calling g mk a) (Vm.Alike.refl U.vm) qK, qD⟩, hrv, fun U hU hW => ⟨rfl, by rw [hU], by rw [hU]; exact hPc, va_K.moved hW.alike hKc, hDc.weaken (fun _ _ _ _ => trivial)⟩⟩ rfl rfl hl.1 rfl (lv_room (Nat.le_of_ble_eq_true rfl)) dX4_readUnit_59 ⟨Nat.le_of_ble_eq_true rfl, Nat.le_of_ble_eq_true rfl⟩) hS (fun q _ h => hFc q h) hFc (fun x_22 t H1 locs ht hvm hw hB hz1 hk1 hS => ?_)
        obtain ⟨hP1, hK1, hD1⟩ := hB
        rw [ht] at hP1
        obtain ⟨hP, hD⟩ := cl_put (w1 := (wd_c_X9_refuseHere h1 h1_0 h1_f1 x_2 x_22)) (nw := (wd_c_X4_readUnit h1 h1_0 h1_f1 x_2 x_22 h1_0 h1_0k h1_0c h0 h0_0 h0_f1 h0_2 h0_0 h0_0k h0_0c)) hP hD [0] [4, 1, 2, 3] 4 rfl hqc (by decide +kernel) rfl hk1 hFc hP1 hD1
        generalize H1 = H at hP hS ⊢
        as_aux_lemma =>
        have h_23 := hw
        exact hU _ _ _ (J62 x_2 x_22 h0_f1 h0_0c g_h0_f1 (RG_w h_8 (by decide +kernel)) g_h1_f2 g_h1_f3 g_h0_f1 (RG_w h_7 (by decide +kernel)) (RG_w h_23 (by decide +kernel)) _ _ _ hP hD hS (lv_sub hl [] rfl))
      · rw [h_18]
        refine lv_if_eq (tgt := 58) hx hb dX4_readUnit_35 rfl (fun c_24 => absurd c_24 (by decide +kernel)) (fun c_24 => ?_)
        refine lv_aload_n hx hb dX4_readUnit_38 rfl (lv_at hl 2 rfl) ?_
        obtain ⟨hPc, hDc, hFc, hqc⟩ := cl_cut (wc := (wd_c_X9_skip h1 h1_0 h1_f1 x_2 h1_f3)) hP hD hS hA [0] (by decide +kernel) rfl
        have hKc := hK.sub (tys' := []) [] rfl
        have hrv := va_recv hKc hPc (ci := 9) (q0 := 0) rfl rfl
        refine va_callv (va_runV (As := []) (rest := []) ⟨hx, hb, hml, hown, hts⟩ (c_X9_skip l dC dI H.size h1 h1_0 h1_f1 x_2 h1_f3 (RG_w h_8 (by decide +kernel)) h_7 g_h1_f3) (cwV 0 hts gf_c_X4_readUnit_c_X9_skip rfl rfl rfl mdV_X9_skip ⟨Nat.le_of_ble_eq_true rfl, Nat.le_of_ble_eq_true rfl⟩) ⟨fun a U g mk q => by obtain ⟨q0, q1, qP, qK, qD⟩ := q; exact ⟨q0, q1, qP, va_K.moved (u := U) (U := U.calling g mk a) (Vm.Alike.refl U.vm) qK, qD⟩, hrv, fun U hU hW => ⟨rfl, by rw [hU], by rw [hU]; exact hPc, va_K.moved hW.alike hKc, hDc.weaken (fun _ _ _ _ => trivial)⟩⟩ rfl rfl hl.1 rfl (lv_room (Nat.le_of_ble_eq_true rfl)) dX4_readUnit_39 ⟨Nat.le_of_ble_eq_true rfl, Nat.le_of_ble_eq_true rfl⟩) hS (fun q _ h => hFc q h) hFc (fun x_26 t H1 locs ht hvm hw hB hz1 hk1 hS => ?_)
        obtain ⟨hP1, hK1, hD1⟩ := hB
        rw [ht] at hP1
        obtain ⟨hP, hD⟩ := cl_put (w1 := (wd_c_X9_skip h1 h1_0 h1_f1 x_26 h1_f3)) (nw := (wd_c_X4_readUnit h1 h1_0 h1_f1 x_26 h1_f3 h1_0 h1_0k h1_0c h0 h0_0 h0_f1 h0_2 h0_0 h0_0k h0_0c)) hP hD [0] [4, 1, 2, 3] 4 rfl hqc (by decide +kernel) rfl hk1 hFc hP1 hD1
        generalize H1 = H at hP hS ⊢
        as_aux_lemma =>
        rcases hw with ⟨h_27, h_28, h_29⟩
        refine lv_aload_n hx hb dX4_readUnit_42 rfl (lv_at hl 1 rfl) ?_
        refine lv_aload_n hx hb dX4_readUnit_43 rfl (lv_at hl 2 rfl) ?_
        refine lv_iload_n hx hb dX4_readUnit_44 rfl (lv_at hl 3 rfl) ?_
        obtain ⟨hPc, hDc, hFc, hqc⟩ := cl_cut (wc := (wd_c_X4_readSum h1 h1_0 h1_f1 x_26 h1_f3 h1_0 h1_0k h1_0c h0 h0_0 h0_f1 h0_2 h0_0 h0_0k h0_0c)) hP hD hS hA [0, 1, 2, 3] (by decide +kernel) rfl
        have hKc := hK.sub (tys' := [(h1_0k, .int), (h0_0k, .int)]) [0, 1] rfl
        have hrv := va_recv hKc hPc (ci := 4) (q0 := 2) rfl rfl
        refine va_callv (va_runV (As := [.ref h1, .int 0]) (rest := []) ⟨hx, hb, hml, hown, hts⟩ (c_X4_readSum l dC dI H.size h0 h1 h1_0 h1_f1 x_26 h1_f3 h1_0k h1_0c h0_0 h0_f1 h0_2 h0_0k h0_0c ts4 tv4 (RG_w h_8 (by decide +kernel)) (RG_w h_27 (by decide +kernel)) g_h1_f3 a_h1_0c g_h0_f1) (cwV 2 hts gf_c_X4_readUnit_c_X4_readSum rfl rfl rfl mdV_X4_readSum ⟨Nat.le_of_ble_eq_true rfl, Nat.le_of_ble_eq_true rfl⟩) ⟨fun a U g mk q => by obtain ⟨q0, q1, qP, qK, qD, qE0, qE1, qE2, qE3, qE4, qE5⟩ := q; exact ⟨q0, q1, qP, va_K.moved (u := U) (U := U.calling g mk a) (Vm.Alike.refl U.vm) qK, qD, vk_R.same rfl qE0, va_Z.moved (u := U) (U := U.calling g mk a) (Vm.Alike.refl U.vm) qE1, va_OF.moved (u := U) (U := U.calling g mk a) (Vm.Alike.refl U.vm) qE2, va_O.moved (u := U) (U := U.calling g mk a) (Vm.Alike.refl U.vm) qE3, va_OF.moved (u := U) (U := U.calling g mk a) (Vm.Alike.refl U.vm) qE4, va_T.moved (u := U) (U := U.calling g mk a) (Vm.Alike.refl U.vm) qE5⟩, hrv, fun U hU hW => ⟨rfl, by rw [hU], by rw [hU]; exact hPc, va_K.moved hW.alike hKc, hDc.weaken (fun _ _ _ _ => trivial), vk_R.warm hW hE_32, va_Z.moved hW.alike (by rw [hU]; exact (hE_10.kept hS.2.1).narrow hFc), va_OF.moved hW.alike (by rw [hU]; exact (hE_34.kept hS.2.1).narrow hFc), va_O.moved hW.alike (by rw [hU]; exact (hE_33.kept hS.2.1).narrow hFc), va_OF.moved hW.alike (by rw [hU]; exact (hE_35.kept hS.2.1).narrow hFc), va_T.moved hW.alike (by rw [hU]; exact (hE_36.kept hS.2.1).narrow hFc)⟩⟩ rfl rfl hl.1 rfl (lv_room (Nat.le_of_ble_eq_true rfl)) dX4_readUnit_45 ⟨Nat.le_of_ble_eq_true rfl, Nat.le_of_ble_eq_true rfl⟩) hS (fun q _ h => hFc q h) hFc (fun u t H1 locs ht hvm hw hB hz1 hk1 hS => ?_)
        obtain ⟨x_31, x_32, x_33, w_34⟩ := u
        obtain ⟨hP1, hK1, hD1⟩ := hB
        rw [ht] at hP1
        obtain ⟨hP, hD⟩ := cl_put (w1 := (wd_c_X4_readSum h1 h1_0 h1_f1 x_31 x_32 h1_0 h1_0k h1_0c h0 h0_0 x_33 h0_2 h0_0 h0_0k w_34)) (nw := (wd_c_X4_readUnit h1 h1_0 h1_f1 x_31 x_32 h1_0 h1_0k h1_0c h0 h0_0 x_33 h0_2 h0_0 h0_0k w_34)) hP hD [0, 1, 2, 3] [4, 5, 6, 7] 4 rfl hqc (by decide +kernel) rfl hk1 hFc hP1 hD1
        generalize H1 = H at hP hS ⊢
        as_aux_lemma =>
        rcases hw with ⟨h_35, h_36, h_37⟩
        refine lv_aload_n hx hb dX4_readUnit_48 rfl (lv_at hl 1 rfl) ?_
        refine lv_iload hx hb dX4_readUnit_49 (lv_at hl 0 rfl) ?_
        refine lv_ineg hx hb dX4_readUnit_51 ?_
        refine lv_topi (fun x_38 ex_38 => ?_)
        have g_39 : RG x_38 (-62) (-60) := RG_neg ex_38 h_19 (by decide +kernel)
        obtain ⟨hPc, hDc, hFc, hqc⟩ := cl_cut (wc := (wd_c_X4_emit h0 h0_0 x_33 h0_2 h0_0 h0_0k w_34)) hP hD hS hA [2, 3] (by decide +kernel) rfl
        have hKc := hK.sub (tys' := [(h0_0k, .int)]) [1] rfl
        have hrv := va_recv hKc hPc (ci := 4) (q0 := 0) rfl rfl
        refine va_callv (va_runV (As := [.int x_38]) (rest := []) ⟨hx, hb, hml, hown, hts⟩ (c_X4_emit l dC dI H.size h0 x_38 h0_0 x_33 h0_2 h0_0k w_34 h_37) (cwV 1 hts gf_c_X4_readUnit_c_X4_emit rfl rfl rfl mdV_X4_emit ⟨Nat.le_of_ble_eq_true rfl, Nat.le_of_ble_eq_true rfl⟩) ⟨fun a U g mk q => by obtain ⟨q0, q1, qP, qK, qD⟩ := q; exact ⟨q0, q1, qP, va_K.moved (u := U) (U := U.calling g mk a) (Vm.Alike.refl U.vm) qK, qD⟩, hrv, fun U hU hW => ⟨rfl, by rw [hU], by rw [hU]; exact hPc, va_K.moved hW.alike hKc, hDc.weaken (fun _ _ _ _ => trivial)⟩⟩ rfl rfl hl.1 rfl (lv_room (Nat.le_of_ble_eq_true rfl)) dX4_readUnit_52 ⟨Nat.le_of_ble_eq_true rfl, Nat.le_of_ble_eq_true rfl⟩) hS (fun q _ h => hFc q h) hFc (fun u t H1 locs ht hvm hw hB hz1 hk1 hS => ?_)
        obtain ⟨x_41, w_42⟩ := u
        obtain ⟨hP1, hK1, hD1⟩ := hB
        rw [ht] at hP1
        obtain ⟨hP, hD⟩ := cl_put (w1 := (wd_c_X4_emit h0 h0_0 x_41 h0_2 h0_0 h0_0k w_42)) (nw := (wd_c_X4_readUnit h1 h1_0 h1_f1 x_31 x_32 h1_0 h1_0k h1_0c h0 h0_0 x_41 h0_2 h0_0 h0_0k w_42)) hP hD [2, 3] [0, 1, 4, 5] 4 rfl hqc (by decide +kernel) rfl hk1 hFc hP1 hD1
        generalize H1 = H at hP hS ⊢
        as_aux_lemma =>
        have h_43 := hw
        refine lv_goto (tgt := 62) hx hb dX4_readUnit_55 rfl ?_
        exact hU _ _ _ (J62 x_31 x_32 x_41 w_42 g_h0_f1 (RG_w h_8 (by decide +kernel)) g_h1_f2 g_h1_f3 (RG_w h_43 (by decide +kernel)) h_35 h_36 _ _ _ hP hD hS (lv_sub hl [] rfl))
  have J14 : ∀ (g_h0_f1 : RG h0_f1 0 240) (g_h1_f1 : RG h1_f1 0 240) (g_h1_f2 : RG h1_f2 0 240) (g_h1_f3 : RG h1_f3 (-1) 240) (H : Heap) (locs : List Loc) (ls : Array Slot) (hP : va_P (dC, dI) vwCl (wd_c_X4_readUnit h1 h1_0 h1_f1 h1_f2 h1_f3 h1_0 h1_0k h1_0c h0 h0_0 h0_f1 h0_2 h0_0 h0_0k h0_0c) H) (hD : va_D A (wd_c_X4_readUnit h1 h1_0 h1_f1 h1_f2 h1_f3 h1_0 h1_0k h1_0c h0 h0_0 h0_f1 h0_2 h0_0 h0_0k h0_0c)) (hS : va_S A s.heap H locs) (hl : lv_has ls 5 [(0, .ref h0), (1, .ref h1), (2, .int 0), (3, .int 1)]), G H locs (F0 m 14 ls []) := by
    as_aux_lemma =>
    intro g_h0_f1 g_h1_f1 g_h1_f2 g_h1_f3 H locs ls hP hD hS hl
    refine hG _ _ _ ?_
    refine lv_iload_n hx hb dX4_readUnit_14 rfl (lv_at hl 3 rfl) ?_
    refine lv_if_ne (tgt := 24) hx hb dX4_readUnit_15 rfl (fun c_44 => ?_) (fun c_44 => absurd c_44 (by decide +kernel))
    exact hU _ _ _ (J24 g_h0_f1 g_h1_f1 g_h1_f2 g_h1_f3 _ _ _ hP hD hS (lv_sub hl [0, 1, 2] rfl))
  refine hG _ _ _ ?_
  refine lv_iload_n hx hb dX4_readUnit_0 rfl (lv_at hl 3 rfl) ?_
  refine lv_if_ne (tgt := 14) hx hb dX4_readUnit_1 rfl (fun c_45 => ?_) (fun c_45 => absurd c_45 (by decide +kernel))
  exact hU _ _ _ (J14 g_h0_f1 g_h1_f1 g_h1_f2 g_h1_f3 _ _ _ hP hD hS (lv_sub hl [0, 1, 2, 3] rfl))
noncomputable def wd_c_X4_readUnit_7 (a0 : Nat) (a1 : Nat) (a2 : Int32) (a3 : Int32) (a4 : Int32) (a5 : Nat) (a6 : ClassId) (a7 : Nat → Int32) (a8 : Nat) (a9 : Nat) (a10 : Int32) (a11 : Nat) (a12 : Nat) (a13 : ClassId) (a14 : Nat → Int32) : va_W := [(a0, .inr (9, [.ref a1, .int a2, .int a3, .int a4])), (a5, .inl (a6, 240, .inl a7)), (a8, .inr (4, [.ref a9, .int a10, .ref a11])), (a12, .inl (a13, 240, .inl a14))]
noncomputable def wf_c_X4_readUnit_7 : List Cond := List.cons (.code yX4_readUnit cX4_readUnit 5 none) (@HAppend.hAppend (List Cond) (List Cond) (List Cond) _ (@HAppend.hAppend (List Cond) (List Cond) (List Cond) _ [.methodLink RX4 41 yX9_peek, .instanceMethod yX9_peek, .selects RX9 yX9_peek yX9_peek, .initialized RX9, .code yX9_peek cX9_peek 1 (some .int), .fieldLink RX9 22 "BuoyVote$Tape" "at" "I", .fieldLink RX9 19 "BuoyVote$Tape" "length" "I", .fieldLink RX9 11 "BuoyVote$Tape" "bytes" "[I", .methodLink RX4 45 yX4_startsUnit, .static yX4_startsUnit, .initialized RX4, .code yX4_startsUnit cX4_startsUnit 1 (some .boolean), .methodLink RX4 82 yX9_refuseHere, .instanceMethod yX9_refuseHere, .selects RX9 yX9_refuseHere yX9_refuseHere, .code yX9_refuseHere cX9_refuseHere 1 none, .methodLink RX9 25 yX9_refuse, .instanceMethod yX9_refuse, .selects RX9 yX9_refuse yX9_refuse, .code yX9_refuse cX9_refuse 2 none, .fieldLink RX9 15 "BuoyVote$Tape" "wrong" "I", .methodLink RX4 49 yX4_readSum, .instanceMethod yX4_readSum, .selects RX4 yX4_readSum yX4_readSum, .code yX4_readSum cX4_readSum 6 none, .methodLink RX4 72 yX9_isRight, .instanceMethod yX9_isRight, .selects RX9 yX9_isRight yX9_isRight, .code yX9_isRight cX9_isRight 1 (some .boolean), .methodLink RX4 85 yX4_readAtom, .instanceMethod yX4_readAtom, .selects RX4 yX4_readAtom yX4_readAtom, .code yX4_readAtom cX4_readAtom 6 none, .methodLink RX4 93 yJ0_indexOf_0f7a4, .instanceMethod yJ0_indexOf_0f7a4, .selects RJ0 yJ0_indexOf_0f7a4 yJ0_indexOf_0f7a4, .initialized RJ0, .code yJ0_indexOf_0f7a4 cJ0_indexOf_0f7a4 2 (some .int), .methodLink RJ0 633 yJ0_indexOf_7cf53, .instanceMethod yJ0_indexOf_7cf53, .selects RJ0 yJ0_indexOf_7cf53 yJ0_indexOf_7cf53, .code yJ0_indexOf_7cf53 cJ0_indexOf_7cf53 3 (some .int), .methodLink RJ0 492 yJ0_isLatin1_aae02, .instanceMethod yJ0_isLatin1_aae02, .selects RJ0 yJ0_isLatin1_aae02 yJ0_isLatin1_aae02, .code yJ0_isLatin1_aae02 cJ0_isLatin1_aae02 1 (some .boolean), .fieldLink RJ0 38 "java/lang/String" "COMPACT_STRINGS" "Z", .fieldLink RJ0 15 "java/lang/String" "coder" "B", .fieldLink RJ0 9 "java/lang/String" "value" "[B", .methodLink RJ0 505 yJ0_length_8abf5, .instanceMethod yJ0_length_8abf5, .selects RJ0 yJ0_length_8abf5 yJ0_length_8abf5, .code yJ0_length_8abf5 cJ0_length_8abf5 1 (some .int), .methodLink RJ0 335 yJ0_coder_7d493, .instanceMethod yJ0_coder_7d493, .selects RJ0 yJ0_coder_7d493 yJ0_coder_7d493, .code yJ0_coder_7d493 cJ0_coder_7d493 1 (some .byte), .methodLink RJ0 637 yJ1_indexOf_4cfef, .static yJ1_indexOf_4cfef, .initialized RJ1, .code yJ1_indexOf_4cfef cJ1_indexOf_4cfef 4 (some .int), .methodLink RJ1 88 yJ1_canEncode_9a6ad, .static yJ1_canEncode_9a6ad, .code yJ1_canEncode_9a6ad cJ1_canEncode_9a6ad 1 (some .boolean), .methodLink RJ1 92 Lib.Math.max.name, .static Lib.Math.max.name, .initialized "java/lang/Math", .code Lib.Math.max.name Lib.Math.max.code 2 (some .int), .methodLink RJ1 38 Lib.Math.min.name, .static Lib.Math.min.name, .code Lib.Math.min.name Lib.Math.min.code 2 (some .int), .methodLink RJ1 95 yJ1_indexOfChar_4cfef, .static yJ1_indexOfChar_4cfef, .code yJ1_indexOfChar_4cfef cJ1_indexOfChar_4cfef 6 (some .int), .methodLink RX4 99 yX9_number, .instanceMethod yX9_number, .selects RX9 yX9_number yX9_number, .code yX9_number cX9_number 4 (some .int), .methodLink RX4 79 yX9_skip, .instanceMethod yX9_skip, .selects RX9 yX9_skip yX9_skip, .code yX9_skip cX9_skip 1 none, .methodLink RX4 60 yX4_emit, .instanceMethod yX4_emit, .selects RX4 yX4_emit yX4_emit, .code yX4_emit cX4_emit 2 none, .fieldLink RX4 20 "BuoyVote$Law" "length" "I", .fieldLink RX4 11 "BuoyVote$Law" "code" "[I", .methodLink RX4 88 yX9_takeEither, .instanceMethod yX9_takeEither, .selects RX9 yX9_takeEither yX9_takeEither, .code yX9_takeEither cX9_takeEither 4 (some .int), .methodLink RX9 29 yX9_peek, .methodLink RX4 53 yX4_isComparison, .static yX4_isComparison, .code yX4_isComparison cX4_isComparison 1 (some .boolean)] wsX90) wsX40)
theorem iw_c_X4_readUnit_7_X9 : ∀ w ∈ wsX90, w ∈ wf_c_X4_readUnit_7 := fun w h => List.mem_cons_of_mem _ (List.mem_append_left _ (List.mem_append_right _ h))
theorem iw_c_X4_readUnit_7_X4 : ∀ w ∈ wsX40, w ∈ wf_c_X4_readUnit_7 := fun w h => List.mem_cons_of_mem _ (List.mem_append_right _ h)
set_option maxRecDepth 20000 in
theorem gf_c_X4_readUnit_7_c_X9_peek : GoodIn wf_c_X4_readUnit_7 (wsV RX4 41 RX9 yX9_peek wf_c_X9_peek) := goodIn_app (gi_l [1, 2, 3, 4] rfl rfl) (gi_cons (j := 5) rfl rfl (goodIn_app (gi_l [6, 7, 8] rfl rfl) (goodIn_sub iw_c_X4_readUnit_7_X9 gw_X9)))
set_option maxRecDepth 20000 in
theorem gf_c_X4_readUnit_7_c_X4_isComparison : GoodIn wf_c_X4_readUnit_7 (va_wsS RX4 53 yX4_isComparison wf_c_X4_isComparison) := goodIn_app (gi_l [94, 95, 11] rfl rfl) (gi_cons (j := 96) rfl rfl gi_nil)
set_option maxRecDepth 20000 in
theorem gf_c_X4_readUnit_7_c_X9_refuseHere : GoodIn wf_c_X4_readUnit_7 (wsV RX4 82 RX9 yX9_refuseHere wf_c_X9_refuseHere) := goodIn_app (gi_l [13, 14, 15, 4] rfl rfl) (gi_cons (j := 16) rfl rfl (goodIn_app (gi_l [6, 17, 18, 19, 4, 20, 21] rfl rfl) (goodIn_sub iw_c_X4_readUnit_7_X9 gw_X9)))
set_option maxRecDepth 20000 in
theorem gf_c_X4_readUnit_7_c_X4_isComparison_1 : GoodIn wf_c_X4_readUnit_7 (va_wsS RX4 53 yX4_isComparison wf_c_X4_isComparison_1) := goodIn_app (gi_l [94, 95, 11] rfl rfl) (gi_cons (j := 96) rfl rfl gi_nil)
set_option maxRecDepth 20000 in
theorem gf_c_X4_readUnit_7_c_X9_skip : GoodIn wf_c_X4_readUnit_7 (wsV RX4 79 RX9 yX9_skip wf_c_X9_skip) := goodIn_app (gi_l [79, 80, 81, 4] rfl rfl) (gi_cons (j := 82) rfl rfl (goodIn_app (gi_l [6] rfl rfl) (goodIn_sub iw_c_X4_readUnit_7_X9 gw_X9)))
set_option maxRecDepth 20000 in
theorem gf_c_X4_readUnit_7_c_X4_readSum_6 : GoodIn wf_c_X4_readUnit_7 (wsV RX4 49 RX4 yX4_readSum wf_c_X4_readSum_6) := goodIn_app (gi_l [22, 23, 24, 11] rfl rfl) (gi_cons (j := 25) rfl rfl (goodIn_app (goodIn_app (gi_l [26, 27, 28, 4, 29, 21, 30, 31, 32, 11, 33, 1, 2, 3, 5, 6, 7, 8, 34, 35, 36, 37, 38, 39, 40, 41, 42, 43, 44, 45, 46, 47, 48, 49, 50, 51, 52, 53, 54, 55, 56, 57, 58, 59, 60, 61, 62, 63, 64, 65, 66, 67, 68, 69, 70, 71, 72, 73, 74, 75, 76, 77, 78, 13, 14, 15, 16, 17, 18, 19, 20, 79, 80, 81, 82, 83, 84, 85, 86, 87, 88, 89, 90, 91, 92, 93] rfl rfl) (goodIn_sub iw_c_X4_readUnit_7_X9 gw_X9)) (goodIn_sub iw_c_X4_readUnit_7_X4 gw_X4)))
set_option maxRecDepth 20000 in
theorem gf_c_X4_readUnit_7_c_X4_emit : GoodIn wf_c_X4_readUnit_7 (wsV RX4 60 RX4 yX4_emit wf_c_X4_emit) := goodIn_app (gi_l [83, 84, 85, 11] rfl rfl) (gi_cons (j := 86) rfl rfl (goodIn_app (gi_l [87, 88] rfl rfl) (goodIn_sub iw_c_X4_readUnit_7_X4 gw_X4)))
set_option maxRecDepth 20000 in
theorem gf_c_X4_readUnit_7_c_X4_startsUnit : GoodIn wf_c_X4_readUnit_7 (va_wsS RX4 45 yX4_startsUnit wf_c_X4_startsUnit) := goodIn_app (gi_l [9, 10, 11] rfl rfl) (gi_cons (j := 12) rfl rfl gi_nil)
set_option maxRecDepth 20000 in
theorem gf_c_X4_readUnit_7_c_X4_startsUnit_1 : GoodIn wf_c_X4_readUnit_7 (va_wsS RX4 45 yX4_startsUnit wf_c_X4_startsUnit_1) := goodIn_app (gi_l [9, 10, 11] rfl rfl) (gi_cons (j := 12) rfl rfl gi_nil)
set_option maxHeartbeats 4000000 in
set_option maxRecDepth 100000 in
theorem c_X4_readUnit_7 (l : Launch) (dC : Nat → ClassId) (dI : Nat → Nat → Nat) (sz : Nat) (h0 : Nat) (h1 : Nat) (h1_0 : Nat) (h1_f1 : Int32) (h1_f2 : Int32) (h1_f3 : Int32) (h1_0k : ClassId) (h1_0c : Nat → Int32) (h0_0 : Nat) (h0_f1 : Int32) (h0_2 : Nat) (h0_0k : ClassId) (h0_0c : Nat → Int32) (ts4 : Nat) (tv4 : Nat) (g_h1_f1 : RG h1_f1 0 240) (g_h1_f2 : RG h1_f2 0 240) (g_h1_f3 : RG h1_f3 (-1) 240) (a_h1_0c : AI h1_0c 0 255) (g_h0_f1 : RG h0_f1 0 240) : Met l yX4_readUnit wf_c_X4_readUnit_7 ({ frames := 6, cells := 0, slots := 0, locals := 141 }) (va_Pc [.ref h0, .ref h1, .int 6, .int 0] (fun U => U.heap.size = sz ∧ va_P (dC, dI) vwCl (wd_c_X4_readUnit_7 h1 h1_0 h1_f1 h1_f2 h1_f3 h1_0 h1_0k h1_0c h0 h0_0 h0_f1 h0_2 h0_0 h0_0k h0_0c) U.heap ∧ va_K (dC, dI) vwCl [(h1_0k, .int), (h0_0k, .int)] U ∧ va_D (fun _ => True) (wd_c_X4_readUnit_7 h1 h1_0 h1_f1 h1_f2 h1_f3 h1_0 h1_0k h1_0c h0 h0_0 h0_f1 h0_2 h0_0 h0_0k h0_0c) ∧ vk_R RX4 91 "vlrdph" ts4 U ∧ va_Z "java/lang/String" "COMPACT_STRINGS" "Z" (.int 1) (va_A (wd_c_X4_readUnit_7 h1 h1_0 h1_f1 h1_f2 h1_f3 h1_0 h1_0k h1_0c h0 h0_0 h0_f1 h0_2 h0_0 h0_0k h0_0c) sz) U U.heap ∧ va_OF "java/lang/String" "coder" "B" (.int 0) ts4 (va_A (wd_c_X4_readUnit_7 h1 h1_0 h1_f1 h1_f2 h1_f3 h1_0 h1_0k h1_0c h0 h0_0 h0_f1 h0_2 h0_0 h0_0k h0_0c) sz) U U.heap ∧ va_O "java/lang/String" ts4 (va_A (wd_c_X4_readUnit_7 h1 h1_0 h1_f1 h1_f2 h1_f3 h1_0 h1_0k h1_0c h0 h0_0 h0_f1 h0_2 h0_0 h0_0k h0_0c) sz) U U.heap ∧ va_OF "java/lang/String" "value" "[B" (.ref tv4) ts4 (va_A (wd_c_X4_readUnit_7 h1 h1_0 h1_f1 h1_f2 h1_f3 h1_0 h1_0k h1_0c h0 h0_0 h0_f1 h0_2 h0_0 h0_0k h0_0c) sz) U U.heap ∧ va_T .byte tv4 6 (fun j => .int ([118, 108, 114, 100, 112, 104].getD j 0)) (va_A (wd_c_X4_readUnit_7 h1 h1_0 h1_f1 h1_f2 h1_f3 h1_0 h1_0k h1_0c h0 h0_0 h0_f1 h0_2 h0_0 h0_0k h0_0c) sz) U U.heap)) (va_Qv (fun (u : (Int32) × (Int32) × (Int32) × (Nat → Int32)) => (RG u.1 0 240 ∧ RG u.2.1 (-1) 240 ∧ RG u.2.2.1 0 240)) (fun (u : (Int32) × (Int32) × (Int32) × (Nat → Int32)) t => va_P (dC, dI) vwCl (wd_c_X4_readUnit_7 h1 h1_0 h1_f1 (u.1) (u.2.1) h1_0 h1_0k h1_0c h0 h0_0 (u.2.2.1) h0_2 h0_0 h0_0k (u.2.2.2)) t.heap ∧ va_K (dC, dI) vwCl [] t ∧ va_D (va_A (wd_c_X4_readUnit_7 h1 h1_0 h1_f1 h1_f2 h1_f3 h1_0 h1_0k h1_0c h0 h0_0 h0_f1 h0_2 h0_0 h0_0k h0_0c) sz) (wd_c_X4_readUnit_7 h1 h1_0 h1_f1 (u.1) (u.2.1) h1_0 h1_0k h1_0c h0 h0_0 (u.2.2.1) h0_2 h0_0 h0_0k (u.2.2.2))) (va_A (wd_c_X4_readUnit_7 h1 h1_0 h1_f1 h1_f2 h1_f3 h1_0 h1_0k h1_0c h0 h0_0 h0_f1 h0_2 h0_0 h0_0k h0_0c) sz)) 0 0 (va_A (wd_c_X4_readUnit_7 h1 h1_0 h1_f1 h1_f2 h1_f3 h1_0 h1_0k h1_0c h0 h0_0 h0_f1 h0_2 h0_0 h0_0k h0_0c) sz) := by
  refine Met.ofW (cc := cX4_readUnit) (maxL := 5) (ret := none) (by decide +kernel) rfl ?_
  intro p e s m args below meth c s₁ B hml hv
  obtain ⟨rfl, hsz, hP, hK, hD0, hE_32, hE_10, hE_34, hE_33, hE_35, hE_36⟩ := hv
  have hx := B.exec
  have hb := B.bytes
  have hr := B.returns
  have hts := atoms_spec (ws := wf_c_X4_readUnit_7) B.pre
  have hown : s.vm.findClass RX4 = some m.cls := findClass_of_methodNamed B.named
  have hlocks := B.notSynchronized
  subst hsz
  have hD := hD0.self (sz := s.heap.size)
  generalize hAe : va_A (wd_c_X4_readUnit_7 h1 h1_0 h1_f1 h1_f2 h1_f3 h1_0 h1_0k h1_0c h0 h0_0 h0_f1 h0_2 h0_0 h0_0k h0_0c) s.heap.size = A at hD hE_10 hE_34 hE_33 hE_35 hE_36 ⊢
  have hA : ∀ q : Nat, s.heap.size ≤ q → A q := fun q h => by rw [← hAe]; exact Or.inr h
  have hP : va_P (dC, dI) vwCl (wd_c_X4_readUnit_7 h1 h1_0 h1_f1 h1_f2 h1_f3 h1_0 h1_0k h1_0c h0 h0_0 h0_f1 h0_2 h0_0 h0_0k h0_0c) s.heap := hP
  have hl := lv_entry ([.ref h0, .ref h1, .int 6, .int 0]) (n := 5) (Nat.le_of_ble_eq_true rfl)
  rw [lg_entry_eq]
  generalize (lg_sl ([.ref h0, .ref h1, .int 6, .int 0]) ++ List.replicate (5 - (lg_sl ([.ref h0, .ref h1, .int 6, .int 0])).length) Slot.unset).toArray = ls at hl ⊢
  have hl : lv_has ls 5 [(0, .ref h0), (1, .ref h1), (2, .int 6), (3, .int 0)] := hl
  obtain ⟨H, hHe⟩ : ∃ H : Heap, s.heap = H := ⟨_, rfl⟩
  have hS : va_S A s.heap H [] := by rw [hHe]; exact va_S.rf
  have hP : va_P (dC, dI) vwCl (wd_c_X4_readUnit_7 h1 h1_0 h1_f1 h1_f2 h1_f3 h1_0 h1_0k h1_0c h0 h0_0 h0_f1 h0_2 h0_0 h0_0k h0_0c) H := by rw [← hHe]; exact hP
  rw [hHe]
  refine wj (fun G hG hU => ?_)
  as_aux_lemma =>
  have J62 : ∀ (j62_h1_f2 : Int32) (j62_h1_f3 : Int32) (j62_h0_f1 : Int32) (j62_h0_0c : Nat → Int32) (g_h0_f1 : RG h0_f1 0 240) (g_h1_f1 : RG h1_f1 0 240) (g_h1_f2 : RG h1_f2 0 240) (g_h1_f3 : RG h1_f3 (-1) 240) (g_j62_h0_f1 : RG j62_h0_f1 0 240) (g_j62_h1_f2 : RG j62_h1_f2 0 240) (g_j62_h1_f3 : RG j62_h1_f3 (-1) 240) (H : Heap) (locs : List Loc) (ls : Array Slot) (hP : va_P (dC, dI) vwCl (wd_c_X4_readUnit_7 h1 h1_0 h1_f1 j62_h1_f2 j62_h1_f3 h1_0 h1_0k h1_0c h0 h0_0 j62_h0_f1 h0_2 h0_0 h0_0k j62_h0_0c) H) (hD : va_D A (wd_c_X4_readUnit_7 h1 h1_0 h1_f1 j62_h1_f2 j62_h1_f3 h1_0 h1_0k h1_0c h0 h0_0 j62_h0_f1 h0_2 h0_0 h0_0k j62_h0_0c)) (hS : va_S A s.heap H locs) (hl : lv_has ls 5 []), G H locs (F0 m 62 ls []) := by
    as_aux_lemma =>
    intro j62_h1_f2 j62_h1_f3 j62_h0_f1 j62_h0_0c g_h0_f1 g_h1_f1 g_h1_f2 g_h1_f3 g_j62_h0_f1 g_j62_h1_f2 g_j62_h1_f3 H locs ls hP hD hS hl
    refine hG _ _ _ ?_
    refine lv_goto (tgt := 126) hx hb dX4_readUnit_62 rfl ?_
    have hK9 := hK.sub (tys' := []) [] rfl
    exact W.vret hx hb hr (fun t ht hW => ⟨⟨(j62_h1_f2, j62_h1_f3, j62_h0_f1, j62_h0_0c), rfl, ⟨g_j62_h1_f2, g_j62_h1_f3, g_j62_h0_f1⟩, by rw [ht]; exact hP, va_K.moved hW.alike hK9, hD⟩, hS.F ht⟩) hS.2.2 dX4_readUnit_126
  have J24 : ∀ (j24_h1_f2 : Int32) (j24_h1_f3 : Int32) (j24_h0_f1 : Int32) (j24_h0_0c : Nat → Int32) (g_h0_f1 : RG h0_f1 0 240) (g_h1_f1 : RG h1_f1 0 240) (g_h1_f2 : RG h1_f2 0 240) (g_h1_f3 : RG h1_f3 (-1) 240) (g_j24_h0_f1 : RG j24_h0_f1 0 240) (g_j24_h1_f2 : RG j24_h1_f2 0 240) (g_j24_h1_f3 : RG j24_h1_f3 (-1) 240) (H : Heap) (locs : List Loc) (ls : Array Slot) (hP : va_P (dC, dI) vwCl (wd_c_X4_readUnit_7 h1 h1_0 h1_f1 j24_h1_f2 j24_h1_f3 h1_0 h1_0k h1_0c h0 h0_0 j24_h0_f1 h0_2 h0_0 h0_0k j24_h0_0c) H) (hD : va_D A (wd_c_X4_readUnit_7 h1 h1_0 h1_f1 j24_h1_f2 j24_h1_f3 h1_0 h1_0k h1_0c h0 h0_0 j24_h0_f1 h0_2 h0_0 h0_0k j24_h0_0c)) (hS : va_S A s.heap H locs) (hl : lv_has ls 5 [(0, .ref h0), (1, .ref h1), (2, .int 6)]), G H locs (F0 m 24 ls []) := by
    as_aux_lemma =>
    intro j24_h1_f2 j24_h1_f3 j24_h0_f1 j24_h0_0c g_h0_f1 g_h1_f1 g_h1_f2 g_h1_f3 g_j24_h0_f1 g_j24_h1_f2 g_j24_h1_f3 H locs ls hP hD hS hl
    refine hG _ _ _ ?_
    refine lv_aload_n hx hb dX4_readUnit_24 rfl (lv_at hl 1 rfl) ?_
    obtain ⟨hPc, hDc, hFc, hqc⟩ := cl_cut (wc := (wd_c_X9_peek h1 h1_0 h1_f1 j24_h1_f2 j24_h1_f3 h1_0 h1_0k h1_0c)) hP hD hS hA [0, 1] (by decide +kernel) rfl
    have hKc := hK.sub (tys' := [(h1_0k, .int)]) [0] rfl
    have hrv := va_recv hKc hPc (ci := 9) (q0 := 0) rfl rfl
    refine va_calli (va_runV (As := []) (rest := []) ⟨hx, hb, hml, hown, hts⟩ (c_X9_peek l dC dI H.size h1 h1_0 h1_f1 j24_h1_f2 j24_h1_f3 h1_0k h1_0c g_h1_f1 g_j24_h1_f2 g_j24_h1_f3 a_h1_0c) (cwV 0 hts gf_c_X4_readUnit_7_c_X9_peek rfl rfl rfl mdV_X9_peek ⟨Nat.le_of_ble_eq_true rfl, Nat.le_of_ble_eq_true rfl⟩) ⟨fun a U g mk q => by obtain ⟨q0, q1, qP, qK, qD⟩ := q; exact ⟨q0, q1, qP, va_K.moved (u := U) (U := U.calling g mk a) (Vm.Alike.refl U.vm) qK, qD⟩, hrv, fun U hU hW => ⟨rfl, by rw [hU], by rw [hU]; exact hPc, va_K.moved hW.alike hKc, hDc.weaken (fun _ _ _ _ => trivial)⟩⟩ rfl rfl hl.1 rfl (lv_room (Nat.le_of_ble_eq_true rfl)) dX4_readUnit_25 ⟨Nat.le_of_ble_eq_true rfl, Nat.le_of_ble_eq_true rfl⟩) hS (fun q _ h => hFc q h) hFc (fun r_1 x_2 t H1 locs ht hvm hw hB hz1 hk1 hS => ?_)
    obtain ⟨hP1, hK1, hD1⟩ := hB
    rw [ht] at hP1
    obtain ⟨hP, hD⟩ := cl_put (w1 := (wd_c_X9_peek h1 h1_0 h1_f1 x_2 j24_h1_f3 h1_0 h1_0k h1_0c)) (nw := (wd_c_X4_readUnit_7 h1 h1_0 h1_f1 x_2 j24_h1_f3 h1_0 h1_0k h1_0c h0 h0_0 j24_h0_f1 h0_2 h0_0 h0_0k j24_h0_0c)) hP hD [0, 1] [4, 5, 2, 3] 4 rfl hqc (by decide +kernel) rfl hk1 hFc hP1 hD1
    generalize H1 = H at hP hS ⊢
    as_aux_lemma =>
    rcases hw with ⟨h_3, h_4, h_5⟩ | ⟨h_6, h_7, h_8, h_9⟩
    · rw [h_3]
      refine lv_istore (lv' := [(4, .int (-1)), (0, .ref h0), (1, .ref h1), (2, .int 6)]) hx hb dX4_readUnit_28 hl (Nat.le_of_ble_eq_true rfl) rfl (fun ls hl => ?_)
      refine lv_iload hx hb dX4_readUnit_30 (lv_at hl 0 rfl) ?_
      obtain ⟨hPc, hDc, hFc, hqc⟩ := cl_cut (wc := []) hP hD hS hA [] (by decide +kernel) rfl
      have hKc := hK.sub (tys' := []) [] rfl
      refine va_calli (va_runS (As := [.int (-1)]) (rest := []) ⟨hx, hb, hml, hown, hts⟩ (c_X4_isComparison l dC dI H.size (-1) (RG_k (-1) (-1) rfl)) (va_cwS 1 hts gf_c_X4_readUnit_7_c_X4_isComparison rfl rfl rfl md_X4_isComparison ⟨Nat.le_of_ble_eq_true rfl, Nat.le_of_ble_eq_true rfl⟩) ⟨fun a U g mk q => by obtain ⟨q0, q1, qP, qK, qD⟩ := q; exact ⟨q0, q1, qP, va_K.moved (u := U) (U := U.calling g mk a) (Vm.Alike.refl U.vm) qK, qD⟩, fun U hU hW => ⟨rfl, by rw [hU], by rw [hU]; exact hPc, va_K.moved hW.alike hKc, hDc.weaken (fun _ _ _ _ => trivial)⟩⟩ rfl rfl hl.1 rfl (lv_room (Nat.le_of_ble_eq_true rfl)) dX4_readUnit_32 ⟨Nat.le_of_ble_eq_true rfl, Nat.le_of_ble_eq_true rfl⟩) hS (fun q _ h => hFc q h) hFc (fun r_10 u t H1 locs ht hvm hw hB hz1 hk1 hS => ?_)
      obtain ⟨hP1, hK1, hD1⟩ := hB
      rw [ht] at hP1
      have hP := bv_still hP hk1
      generalize H1 = H at hP hS ⊢
      as_aux_lemma =>
      have h_11 := hw
      rw [h_11]
      refine lv_if_eq (tgt := 58) hx hb dX4_readUnit_35 rfl (fun c_12 => ?_) (fun c_12 => absurd c_12 (by decide +kernel))
      refine lv_aload_n hx hb dX4_readUnit_58 rfl (lv_at hl 2 rfl) ?_
      obtain ⟨hPc, hDc, hFc, hqc⟩ := cl_cut (wc := (wd_c_X9_refuseHere h1 h1_0 h1_f1 x_2 j24_h1_f3)) hP hD hS hA [0] (by decide +kernel) rfl
      have hKc := hK.sub (tys' := []) [] rfl
      have hrv := va_recv hKc hPc (ci := 9) (q0 := 0) rfl rfl
      refine va_callv (va_runV (As := []) (rest := []) ⟨hx, hb, hml, hown, hts⟩ (c_X9_refuseHere l dC dI H.size h1 h1_0 h1_f1 x_2 j24_h1_f3 g_h1_f1 h_4 g_j24_h1_f3) (cwV 0 hts gf_c_X4_readUnit_7_c_X9_refuseHere rfl rfl rfl mdV_X9_refuseHere ⟨Nat.le_of_ble_eq_true rfl, Nat.le_of_ble_eq_true rfl⟩) ⟨fun a U g mk q => by obtain ⟨q0, q1, qP, qK, qD⟩ := q; exact ⟨q0, q1, qP, va_K.moved (u := U) (U := U.calling g mk a) (Vm.Alike.refl U.vm) qK, qD⟩, hrv, fun U hU hW => ⟨rfl, by rw [hU], by rw [hU]; exact hPc, va_K.moved hW.alike hKc, hDc.weaken (fun _ _ _ _ => trivial)⟩⟩ rfl rfl hl.1 rfl (lv_room (Nat.le_of_ble_eq_true rfl)) dX4_readUnit_59 ⟨Nat.le_of_ble_eq_true rfl, Nat.le_of_ble_eq_true rfl⟩) hS (fun q _ h => hFc q h) hFc (fun x_14 t H1 locs ht hvm hw hB hz1 hk1 hS => ?_)
      obtain ⟨hP1, hK1, hD1⟩ := hB
      rw [ht] at hP1
      obtain ⟨hP, hD⟩ := cl_put (w1 := (wd_c_X9_refuseHere h1 h1_0 h1_f1 x_2 x_14)) (nw := (wd_c_X4_readUnit_7 h1 h1_0 h1_f1 x_2 x_14 h1_0 h1_0k h1_0c h0 h0_0 j24_h0_f1 h0_2 h0_0 h0_0k j24_h0_0c)) hP hD [0] [4, 1, 2, 3] 4 rfl hqc (by decide +kernel) rfl hk1 hFc hP1 hD1
      generalize H1 = H at hP hS ⊢
      as_aux_lemma =>
      have h_15 := hw
      exact hU _ _ _ (J62 x_2 x_14 j24_h0_f1 j24_h0_0c g_h0_f1 g_h1_f1 g_h1_f2 g_h1_f3 g_j24_h0_f1 h_4 (RG_w h_15 (by decide +kernel)) _ _ _ hP hD hS (lv_sub hl [] rfl))
    · refine lv_istore (lv' := [(4, .int r_1), (0, .ref h0), (1, .ref h1), (2, .int 6)]) hx hb dX4_readUnit_28 hl (Nat.le_of_ble_eq_true rfl) rfl (fun ls hl => ?_)
      refine lv_iload hx hb dX4_readUnit_30 (lv_at hl 0 rfl) ?_
      obtain ⟨hPc, hDc, hFc, hqc⟩ := cl_cut (wc := []) hP hD hS hA [] (by decide +kernel) rfl
      have hKc := hK.sub (tys' := []) [] rfl
      refine va_calli (va_runS (As := [.int r_1]) (rest := []) ⟨hx, hb, hml, hown, hts⟩ (c_X4_isComparison_1 l dC dI H.size r_1 h_6) (va_cwS 1 hts gf_c_X4_readUnit_7_c_X4_isComparison_1 rfl rfl rfl md_X4_isComparison ⟨Nat.le_of_ble_eq_true rfl, Nat.le_of_ble_eq_true rfl⟩) ⟨fun a U g mk q => by obtain ⟨q0, q1, qP, qK, qD⟩ := q; exact ⟨q0, q1, qP, va_K.moved (u := U) (U := U.calling g mk a) (Vm.Alike.refl U.vm) qK, qD⟩, fun U hU hW => ⟨rfl, by rw [hU], by rw [hU]; exact hPc, va_K.moved hW.alike hKc, hDc.weaken (fun _ _ _ _ => trivial)⟩⟩ rfl rfl hl.1 rfl (lv_room (Nat.le_of_ble_eq_true rfl)) dX4_readUnit_32 ⟨Nat.le_of_ble_eq_true rfl, Nat.le_of_ble_eq_true rfl⟩) hS (fun q _ h => hFc q h) hFc (fun r_16 u t H1 locs ht hvm hw hB hz1 hk1 hS => ?_)
      obtain ⟨hP1, hK1, hD1⟩ := hB
      rw [ht] at hP1
      have hP := bv_still hP hk1
      generalize H1 = H at hP hS ⊢
      as_aux_lemma =>
      rcases hw with h_17 | ⟨h_18, h_19⟩
      · rw [h_17]
        refine lv_if_eq (tgt := 58) hx hb dX4_readUnit_35 rfl (fun c_20 => ?_) (fun c_20 => absurd c_20 (by decide +kernel))
        refine lv_aload_n hx hb dX4_readUnit_58 rfl (lv_at hl 2 rfl) ?_
        obtain ⟨hPc, hDc, hFc, hqc⟩ := cl_cut (wc := (wd_c_X9_refuseHere h1 h1_0 h1_f1 x_2 j24_h1_f3)) hP hD hS hA [0] (by decide +kernel) rfl
        have hKc := hK.sub (tys' := []) [] rfl
        have hrv := va_recv hKc hPc (ci := 9) (q0 := 0) rfl rfl
        refine va_callv (va_runV (As := []) (rest := []) ⟨hx, hb, hml, hown, hts⟩ (c_X9_refuseHere l dC dI H.size h1 h1_0 h1_f1 x_2 j24_h1_f3 (RG_w h_8 (by decide +kernel)) (RG_w h_7 (by decide +kernel)) g_j24_h1_f3) (cwV 0 hts gf_c_X4_readUnit_7_c_X9_refuseHere rfl rfl rfl mdV_X9_refuseHere ⟨Nat.le_of_ble_eq_true rfl, Nat.le_of_ble_eq_true rfl⟩) ⟨fun a U g mk q => by obtain ⟨q0, q1, qP, qK, qD⟩ := q; exact ⟨q0, q1, qP, va_K.moved (u := U) (U := U.calling g mk a) (Vm.Alike.refl U.vm) qK, qD⟩, hrv, fun U hU hW => ⟨rfl, by rw [hU], by rw [hU]; exact hPc, va_K.moved hW.alike hKc, hDc.weaken (fun _ _ _ _ => trivial)⟩⟩ rfl rfl hl.1 rfl (lv_room (Nat.le_of_ble_eq_true rfl)) dX4_readUnit_59 ⟨Nat.le_of_ble_eq_true rfl, Nat.le_of_ble_eq_true rfl⟩) hS (fun q _ h => hFc q h) hFc (fun x_22 t H1 locs ht hvm hw hB hz1 hk1 hS => ?_)
        obtain ⟨hP1, hK1, hD1⟩ := hB
        rw [ht] at hP1
        obtain ⟨hP, hD⟩ := cl_put (w1 := (wd_c_X9_refuseHere h1 h1_0 h1_f1 x_2 x_22)) (nw := (wd_c_X4_readUnit_7 h1 h1_0 h1_f1 x_2 x_22 h1_0 h1_0k h1_0c h0 h0_0 j24_h0_f1 h0_2 h0_0 h0_0k j24_h0_0c)) hP hD [0] [4, 1, 2, 3] 4 rfl hqc (by decide +kernel) rfl hk1 hFc hP1 hD1
        generalize H1 = H at hP hS ⊢
        as_aux_lemma =>
        have h_23 := hw
        exact hU _ _ _ (J62 x_2 x_22 j24_h0_f1 j24_h0_0c g_h0_f1 (RG_w h_8 (by decide +kernel)) g_h1_f2 g_h1_f3 g_j24_h0_f1 (RG_w h_7 (by decide +kernel)) (RG_w h_23 (by decide +kernel)) _ _ _ hP hD hS (lv_sub hl [] rfl))
      · rw [h_18]
        refine lv_if_eq (tgt := 58) hx hb dX4_readUnit_35 rfl (fun c_24 => absurd c_24 (by decide +kernel)) (fun c_24 => ?_)
        refine lv_aload_n hx hb dX4_readUnit_38 rfl (lv_at hl 2 rfl) ?_
        obtain ⟨hPc, hDc, hFc, hqc⟩ := cl_cut (wc := (wd_c_X9_skip h1 h1_0 h1_f1 x_2 j24_h1_f3)) hP hD hS hA [0] (by decide +kernel) rfl
        have hKc := hK.sub (tys' := []) [] rfl
        have hrv := va_recv hKc hPc (ci := 9) (q0 := 0) rfl rfl
        refine va_callv (va_runV (As := []) (rest := []) ⟨hx, hb, hml, hown, hts⟩ (c_X9_skip l dC dI H.size h1 h1_0 h1_f1 x_2 j24_h1_f3 (RG_w h_8 (by decide +kernel)) h_7 g_j24_h1_f3) (cwV 0 hts gf_c_X4_readUnit_7_c_X9_skip rfl rfl rfl mdV_X9_skip ⟨Nat.le_of_ble_eq_true rfl, Nat.le_of_ble_eq_true rfl⟩) ⟨fun a U g mk q => by obtain ⟨q0, q1, qP, qK, qD⟩ := q; exact ⟨q0, q1, qP, va_K.moved (u := U) (U := U.calling g mk a) (Vm.Alike.refl U.vm) qK, qD⟩, hrv, fun U hU hW => ⟨rfl, by rw [hU], by rw [hU]; exact hPc, va_K.moved hW.alike hKc, hDc.weaken (fun _ _ _ _ => trivial)⟩⟩ rfl rfl hl.1 rfl (lv_room (Nat.le_of_ble_eq_true rfl)) dX4_readUnit_39 ⟨Nat.le_of_ble_eq_true rfl, Nat.le_of_ble_eq_true rfl⟩) hS (fun q _ h => hFc q h) hFc (fun x_26 t H1 locs ht hvm hw hB hz1 hk1 hS => ?_)
        obtain ⟨hP1, hK1, hD1⟩ := hB
        rw [ht] at hP1
        obtain ⟨hP, hD⟩ := cl_put (w1 := (wd_c_X9_skip h1 h1_0 h1_f1 x_26 j24_h1_f3)) (nw := (wd_c_X4_readUnit_7 h1 h1_0 h1_f1 x_26 j24_h1_f3 h1_0 h1_0k h1_0c h0 h0_0 j24_h0_f1 h0_2 h0_0 h0_0k j24_h0_0c)) hP hD [0] [4, 1, 2, 3] 4 rfl hqc (by decide +kernel) rfl hk1 hFc hP1 hD1
        generalize H1 = H at hP hS ⊢
        as_aux_lemma =>
        rcases hw with ⟨h_27, h_28, h_29⟩
        refine lv_aload_n hx hb dX4_readUnit_42 rfl (lv_at hl 1 rfl) ?_
        refine lv_aload_n hx hb dX4_readUnit_43 rfl (lv_at hl 2 rfl) ?_
        refine lv_iload_n hx hb dX4_readUnit_44 rfl (lv_at hl 3 rfl) ?_
        obtain ⟨hPc, hDc, hFc, hqc⟩ := cl_cut (wc := (wd_c_X4_readSum_6 h1 h1_0 h1_f1 x_26 j24_h1_f3 h1_0 h1_0k h1_0c h0 h0_0 j24_h0_f1 h0_2 h0_0 h0_0k j24_h0_0c)) hP hD hS hA [0, 1, 2, 3] (by decide +kernel) rfl
        have hKc := hK.sub (tys' := [(h1_0k, .int), (h0_0k, .int)]) [0, 1] rfl
        have hrv := va_recv hKc hPc (ci := 4) (q0 := 2) rfl rfl
        refine va_callv (va_runV (As := [.ref h1, .int 6]) (rest := []) ⟨hx, hb, hml, hown, hts⟩ (c_X4_readSum_6 l dC dI H.size h0 h1 h1_0 h1_f1 x_26 j24_h1_f3 h1_0k h1_0c h0_0 j24_h0_f1 h0_2 h0_0k j24_h0_0c ts4 tv4 (RG_w h_8 (by decide +kernel)) (RG_w h_27 (by decide +kernel)) g_j24_h1_f3 a_h1_0c g_j24_h0_f1) (cwV 2 hts gf_c_X4_readUnit_7_c_X4_readSum_6 rfl rfl rfl mdV_X4_readSum ⟨Nat.le_of_ble_eq_true rfl, Nat.le_of_ble_eq_true rfl⟩) ⟨fun a U g mk q => by obtain ⟨q0, q1, qP, qK, qD, qE0, qE1, qE2, qE3, qE4, qE5⟩ := q; exact ⟨q0, q1, qP, va_K.moved (u := U) (U := U.calling g mk a) (Vm.Alike.refl U.vm) qK, qD, vk_R.same rfl qE0, va_Z.moved (u := U) (U := U.calling g mk a) (Vm.Alike.refl U.vm) qE1, va_OF.moved (u := U) (U := U.calling g mk a) (Vm.Alike.refl U.vm) qE2, va_O.moved (u := U) (U := U.calling g mk a) (Vm.Alike.refl U.vm) qE3, va_OF.moved (u := U) (U := U.calling g mk a) (Vm.Alike.refl U.vm) qE4, va_T.moved (u := U) (U := U.calling g mk a) (Vm.Alike.refl U.vm) qE5⟩, hrv, fun U hU hW => ⟨rfl, by rw [hU], by rw [hU]; exact hPc, va_K.moved hW.alike hKc, hDc.weaken (fun _ _ _ _ => trivial), vk_R.warm hW hE_32, va_Z.moved hW.alike (by rw [hU]; exact (hE_10.kept hS.2.1).narrow hFc), va_OF.moved hW.alike (by rw [hU]; exact (hE_34.kept hS.2.1).narrow hFc), va_O.moved hW.alike (by rw [hU]; exact (hE_33.kept hS.2.1).narrow hFc), va_OF.moved hW.alike (by rw [hU]; exact (hE_35.kept hS.2.1).narrow hFc), va_T.moved hW.alike (by rw [hU]; exact (hE_36.kept hS.2.1).narrow hFc)⟩⟩ rfl rfl hl.1 rfl (lv_room (Nat.le_of_ble_eq_true rfl)) dX4_readUnit_45 ⟨Nat.le_of_ble_eq_true rfl, Nat.le_of_ble_eq_true rfl⟩) hS (fun q _ h => hFc q h) hFc (fun u t H1 locs ht hvm hw hB hz1 hk1 hS => ?_)
        obtain ⟨x_31, x_32, x_33, w_34⟩ := u
        obtain ⟨hP1, hK1, hD1⟩ := hB
        rw [ht] at hP1
        obtain ⟨hP, hD⟩ := cl_put (w1 := (wd_c_X4_readSum_6 h1 h1_0 h1_f1 x_31 x_32 h1_0 h1_0k h1_0c h0 h0_0 x_33 h0_2 h0_0 h0_0k w_34)) (nw := (wd_c_X4_readUnit_7 h1 h1_0 h1_f1 x_31 x_32 h1_0 h1_0k h1_0c h0 h0_0 x_33 h0_2 h0_0 h0_0k w_34)) hP hD [0, 1, 2, 3] [4, 5, 6, 7] 4 rfl hqc (by decide +kernel) rfl hk1 hFc hP1 hD1
        generalize H1 = H at hP hS ⊢
        as_aux_lemma =>
        rcases hw with ⟨h_35, h_36, h_37⟩
        refine lv_aload_n hx hb dX4_readUnit_48 rfl (lv_at hl 1 rfl) ?_
        refine lv_iload hx hb dX4_readUnit_49 (lv_at hl 0 rfl) ?_
        refine lv_ineg hx hb dX4_readUnit_51 ?_
        refine lv_topi (fun x_38 ex_38 => ?_)
        have g_39 : RG x_38 (-62) (-60) := RG_neg ex_38 h_19 (by decide +kernel)
        obtain ⟨hPc, hDc, hFc, hqc⟩ := cl_cut (wc := (wd_c_X4_emit h0 h0_0 x_33 h0_2 h0_0 h0_0k w_34)) hP hD hS hA [2, 3] (by decide +kernel) rfl
        have hKc := hK.sub (tys' := [(h0_0k, .int)]) [1] rfl
        have hrv := va_recv hKc hPc (ci := 4) (q0 := 0) rfl rfl
        refine va_callv (va_runV (As := [.int x_38]) (rest := []) ⟨hx, hb, hml, hown, hts⟩ (c_X4_emit l dC dI H.size h0 x_38 h0_0 x_33 h0_2 h0_0k w_34 h_37) (cwV 1 hts gf_c_X4_readUnit_7_c_X4_emit rfl rfl rfl mdV_X4_emit ⟨Nat.le_of_ble_eq_true rfl, Nat.le_of_ble_eq_true rfl⟩) ⟨fun a U g mk q => by obtain ⟨q0, q1, qP, qK, qD⟩ := q; exact ⟨q0, q1, qP, va_K.moved (u := U) (U := U.calling g mk a) (Vm.Alike.refl U.vm) qK, qD⟩, hrv, fun U hU hW => ⟨rfl, by rw [hU], by rw [hU]; exact hPc, va_K.moved hW.alike hKc, hDc.weaken (fun _ _ _ _ => trivial)⟩⟩ rfl rfl hl.1 rfl (lv_room (Nat.le_of_ble_eq_true rfl)) dX4_readUnit_52 ⟨Nat.le_of_ble_eq_true rfl, Nat.le_of_ble_eq_true rfl⟩) hS (fun q _ h => hFc q h) hFc (fun u t H1 locs ht hvm hw hB hz1 hk1 hS => ?_)
        obtain ⟨x_41, w_42⟩ := u
        obtain ⟨hP1, hK1, hD1⟩ := hB
        rw [ht] at hP1
        obtain ⟨hP, hD⟩ := cl_put (w1 := (wd_c_X4_emit h0 h0_0 x_41 h0_2 h0_0 h0_0k w_42)) (nw := (wd_c_X4_readUnit_7 h1 h1_0 h1_f1 x_31 x_32 h1_0 h1_0k h1_0c h0 h0_0 x_41 h0_2 h0_0 h0_0k w_42)) hP hD [2, 3] [0, 1, 4, 5] 4 rfl hqc (by decide +kernel) rfl hk1 hFc hP1 hD1
        generalize H1 = H at hP hS ⊢
        as_aux_lemma =>
        have h_43 := hw
        refine lv_goto (tgt := 62) hx hb dX4_readUnit_55 rfl ?_
        exact hU _ _ _ (J62 x_31 x_32 x_41 w_42 g_h0_f1 (RG_w h_8 (by decide +kernel)) g_h1_f2 g_h1_f3 (RG_w h_43 (by decide +kernel)) h_35 h_36 _ _ _ hP hD hS (lv_sub hl [] rfl))
  have J14 : ∀ (j14_h1_f2 : Int32) (g_h0_f1 : RG h0_f1 0 240) (g_h1_f1 : RG h1_f1 0 240) (g_h1_f2 : RG h1_f2 0 240) (g_h1_f3 : RG h1_f3 (-1) 240) (g_j14_h1_f2 : RG j14_h1_f2 0 240) (H : Heap) (locs : List Loc) (ls : Array Slot) (hP : va_P (dC, dI) vwCl (wd_c_X4_readUnit_7 h1 h1_0 h1_f1 j14_h1_f2 h1_f3 h1_0 h1_0k h1_0c h0 h0_0 h0_f1 h0_2 h0_0 h0_0k h0_0c) H) (hD : va_D A (wd_c_X4_readUnit_7 h1 h1_0 h1_f1 j14_h1_f2 h1_f3 h1_0 h1_0k h1_0c h0 h0_0 h0_f1 h0_2 h0_0 h0_0k h0_0c)) (hS : va_S A s.heap H locs) (hl : lv_has ls 5 [(0, .ref h0), (1, .ref h1), (2, .int 6), (3, .int 0)]), G H locs (F0 m 14 ls []) := by
    as_aux_lemma =>
    intro j14_h1_f2 g_h0_f1 g_h1_f1 g_h1_f2 g_h1_f3 g_j14_h1_f2 H locs ls hP hD hS hl
    refine hG _ _ _ ?_
    refine lv_iload_n hx hb dX4_readUnit_14 rfl (lv_at hl 3 rfl) ?_
    refine lv_if_ne (tgt := 24) hx hb dX4_readUnit_15 rfl (fun c_44 => absurd c_44 (by decide +kernel)) (fun c_44 => ?_)
    refine lv_aload_n hx hb dX4_readUnit_18 rfl (lv_at hl 0 rfl) ?_
    refine lv_aload_n hx hb dX4_readUnit_19 rfl (lv_at hl 1 rfl) ?_
    refine lv_iload_n hx hb dX4_readUnit_20 rfl (lv_at hl 2 rfl) ?_
    obtain ⟨hPc, hDc, hFc, hqc⟩ := cl_cut (wc := (wd_c_X4_readSum_6 h1 h1_0 h1_f1 j14_h1_f2 h1_f3 h1_0 h1_0k h1_0c h0 h0_0 h0_f1 h0_2 h0_0 h0_0k h0_0c)) hP hD hS hA [0, 1, 2, 3] (by decide +kernel) rfl
    have hKc := hK.sub (tys' := [(h1_0k, .int), (h0_0k, .int)]) [0, 1] rfl
    have hrv := va_recv hKc hPc (ci := 4) (q0 := 2) rfl rfl
    refine va_callv (va_runV (As := [.ref h1, .int 6]) (rest := []) ⟨hx, hb, hml, hown, hts⟩ (c_X4_readSum_6 l dC dI H.size h0 h1 h1_0 h1_f1 j14_h1_f2 h1_f3 h1_0k h1_0c h0_0 h0_f1 h0_2 h0_0k h0_0c ts4 tv4 g_h1_f1 g_j14_h1_f2 g_h1_f3 a_h1_0c g_h0_f1) (cwV 2 hts gf_c_X4_readUnit_7_c_X4_readSum_6 rfl rfl rfl mdV_X4_readSum ⟨Nat.le_of_ble_eq_true rfl, Nat.le_of_ble_eq_true rfl⟩) ⟨fun a U g mk q => by obtain ⟨q0, q1, qP, qK, qD, qE0, qE1, qE2, qE3, qE4, qE5⟩ := q; exact ⟨q0, q1, qP, va_K.moved (u := U) (U := U.calling g mk a) (Vm.Alike.refl U.vm) qK, qD, vk_R.same rfl qE0, va_Z.moved (u := U) (U := U.calling g mk a) (Vm.Alike.refl U.vm) qE1, va_OF.moved (u := U) (U := U.calling g mk a) (Vm.Alike.refl U.vm) qE2, va_O.moved (u := U) (U := U.calling g mk a) (Vm.Alike.refl U.vm) qE3, va_OF.moved (u := U) (U := U.calling g mk a) (Vm.Alike.refl U.vm) qE4, va_T.moved (u := U) (U := U.calling g mk a) (Vm.Alike.refl U.vm) qE5⟩, hrv, fun U hU hW => ⟨rfl, by rw [hU], by rw [hU]; exact hPc, va_K.moved hW.alike hKc, hDc.weaken (fun _ _ _ _ => trivial), vk_R.warm hW hE_32, va_Z.moved hW.alike (by rw [hU]; exact (hE_10.kept hS.2.1).narrow hFc), va_OF.moved hW.alike (by rw [hU]; exact (hE_34.kept hS.2.1).narrow hFc), va_O.moved hW.alike (by rw [hU]; exact (hE_33.kept hS.2.1).narrow hFc), va_OF.moved hW.alike (by rw [hU]; exact (hE_35.kept hS.2.1).narrow hFc), va_T.moved hW.alike (by rw [hU]; exact (hE_36.kept hS.2.1).narrow hFc)⟩⟩ rfl rfl hl.1 rfl (lv_room (Nat.le_of_ble_eq_true rfl)) dX4_readUnit_21 ⟨Nat.le_of_ble_eq_true rfl, Nat.le_of_ble_eq_true rfl⟩) hS (fun q _ h => hFc q h) hFc (fun u t H1 locs ht hvm hw hB hz1 hk1 hS => ?_)
    obtain ⟨x_46, x_47, x_48, w_49⟩ := u
    obtain ⟨hP1, hK1, hD1⟩ := hB
    rw [ht] at hP1
    obtain ⟨hP, hD⟩ := cl_put (w1 := (wd_c_X4_readSum_6 h1 h1_0 h1_f1 x_46 x_47 h1_0 h1_0k h1_0c h0 h0_0 x_48 h0_2 h0_0 h0_0k w_49)) (nw := (wd_c_X4_readUnit_7 h1 h1_0 h1_f1 x_46 x_47 h1_0 h1_0k h1_0c h0 h0_0 x_48 h0_2 h0_0 h0_0k w_49)) hP hD [0, 1, 2, 3] [4, 5, 6, 7] 4 rfl hqc (by decide +kernel) rfl hk1 hFc hP1 hD1
    generalize H1 = H at hP hS ⊢
    as_aux_lemma =>
    rcases hw with ⟨h_50, h_51, h_52⟩
    exact hU _ _ _ (J24 x_46 x_47 x_48 w_49 g_h0_f1 g_h1_f1 g_h1_f2 g_h1_f3 h_52 h_50 h_51 _ _ _ hP hD hS (lv_sub hl [0, 1, 2] rfl))
  refine hG _ _ _ ?_
  refine lv_iload_n hx hb dX4_readUnit_0 rfl (lv_at hl 3 rfl) ?_
  refine lv_if_ne (tgt := 14) hx hb dX4_readUnit_1 rfl (fun c_53 => absurd c_53 (by decide +kernel)) (fun c_53 => ?_)
  refine lv_aload_n hx hb dX4_readUnit_4 rfl (lv_at hl 1 rfl) ?_
  obtain ⟨hPc, hDc, hFc, hqc⟩ := cl_cut (wc := (wd_c_X9_peek h1 h1_0 h1_f1 h1_f2 h1_f3 h1_0 h1_0k h1_0c)) hP hD hS hA [0, 1] (by decide +kernel) rfl
  have hKc := hK.sub (tys' := [(h1_0k, .int)]) [0] rfl
  have hrv := va_recv hKc hPc (ci := 9) (q0 := 0) rfl rfl
  refine va_calli (va_runV (As := []) (rest := []) ⟨hx, hb, hml, hown, hts⟩ (c_X9_peek l dC dI H.size h1 h1_0 h1_f1 h1_f2 h1_f3 h1_0k h1_0c g_h1_f1 g_h1_f2 g_h1_f3 a_h1_0c) (cwV 0 hts gf_c_X4_readUnit_7_c_X9_peek rfl rfl rfl mdV_X9_peek ⟨Nat.le_of_ble_eq_true rfl, Nat.le_of_ble_eq_true rfl⟩) ⟨fun a U g mk q => by obtain ⟨q0, q1, qP, qK, qD⟩ := q; exact ⟨q0, q1, qP, va_K.moved (u := U) (U := U.calling g mk a) (Vm.Alike.refl U.vm) qK, qD⟩, hrv, fun U hU hW => ⟨rfl, by rw [hU], by rw [hU]; exact hPc, va_K.moved hW.alike hKc, hDc.weaken (fun _ _ _ _ => trivial)⟩⟩ rfl rfl hl.1 rfl (lv_room (Nat.le_of_ble_eq_true rfl)) dX4_readUnit_5 ⟨Nat.le_of_ble_eq_true rfl, Nat.le_of_ble_eq_true rfl⟩) hS (fun q _ h => hFc q h) hFc (fun r_54 x_55 t H1 locs ht hvm hw hB hz1 hk1 hS => ?_)
  obtain ⟨hP1, hK1, hD1⟩ := hB
  rw [ht] at hP1
  obtain ⟨hP, hD⟩ := cl_put (w1 := (wd_c_X9_peek h1 h1_0 h1_f1 x_55 h1_f3 h1_0 h1_0k h1_0c)) (nw := (wd_c_X4_readUnit_7 h1 h1_0 h1_f1 x_55 h1_f3 h1_0 h1_0k h1_0c h0 h0_0 h0_f1 h0_2 h0_0 h0_0k h0_0c)) hP hD [0, 1] [4, 5, 2, 3] 4 rfl hqc (by decide +kernel) rfl hk1 hFc hP1 hD1
  generalize H1 = H at hP hS ⊢
  as_aux_lemma =>
  rcases hw with ⟨h_56, h_57, h_58⟩ | ⟨h_59, h_60, h_61, h_62⟩
  · rw [h_56]
    obtain ⟨hPc, hDc, hFc, hqc⟩ := cl_cut (wc := []) hP hD hS hA [] (by decide +kernel) rfl
    have hKc := hK.sub (tys' := []) [] rfl
    refine va_calli (va_runS (As := [.int (-1)]) (rest := []) ⟨hx, hb, hml, hown, hts⟩ (c_X4_startsUnit l dC dI H.size (-1) (RG_k (-1) (-1) rfl)) (va_cwS 1 hts gf_c_X4_readUnit_7_c_X4_startsUnit rfl rfl rfl md_X4_startsUnit ⟨Nat.le_of_ble_eq_true rfl, Nat.le_of_ble_eq_true rfl⟩) ⟨fun a U g mk q => by obtain ⟨q0, q1, qP, qK, qD⟩ := q; exact ⟨q0, q1, qP, va_K.moved (u := U) (U := U.calling g mk a) (Vm.Alike.refl U.vm) qK, qD⟩, fun U hU hW => ⟨rfl, by rw [hU], by rw [hU]; exact hPc, va_K.moved hW.alike hKc, hDc.weaken (fun _ _ _ _ => trivial)⟩⟩ rfl rfl hl.1 rfl (lv_room (Nat.le_of_ble_eq_true rfl)) dX4_readUnit_8 ⟨Nat.le_of_ble_eq_true rfl, Nat.le_of_ble_eq_true rfl⟩) hS (fun q _ h => hFc q h) hFc (fun r_63 u t H1 locs ht hvm hw hB hz1 hk1 hS => ?_)
    obtain ⟨hP1, hK1, hD1⟩ := hB
    rw [ht] at hP1
    have hP := bv_still hP hk1
    generalize H1 = H at hP hS ⊢
    as_aux_lemma =>
    have h_64 := hw
    rw [h_64]
    refine lv_if_ne (tgt := 65) hx hb dX4_readUnit_11 rfl (fun c_65 => absurd c_65 (by decide +kernel)) (fun c_65 => ?_)
    exact hU _ _ _ (J14 x_55 g_h0_f1 g_h1_f1 g_h1_f2 g_h1_f3 h_57 _ _ _ hP hD hS (lv_sub hl [0, 1, 2, 3] rfl))
  · obtain ⟨hPc, hDc, hFc, hqc⟩ := cl_cut (wc := []) hP hD hS hA [] (by decide +kernel) rfl
    have hKc := hK.sub (tys' := []) [] rfl
    refine va_calli (va_runS (As := [.int r_54]) (rest := []) ⟨hx, hb, hml, hown, hts⟩ (c_X4_startsUnit_1 l dC dI H.size r_54 h_59) (va_cwS 1 hts gf_c_X4_readUnit_7_c_X4_startsUnit_1 rfl rfl rfl md_X4_startsUnit ⟨Nat.le_of_ble_eq_true rfl, Nat.le_of_ble_eq_true rfl⟩) ⟨fun a U g mk q => by obtain ⟨q0, q1, qP, qK, qD⟩ := q; exact ⟨q0, q1, qP, va_K.moved (u := U) (U := U.calling g mk a) (Vm.Alike.refl U.vm) qK, qD⟩, fun U hU hW => ⟨rfl, by rw [hU], by rw [hU]; exact hPc, va_K.moved hW.alike hKc, hDc.weaken (fun _ _ _ _ => trivial)⟩⟩ rfl rfl hl.1 rfl (lv_room (Nat.le_of_ble_eq_true rfl)) dX4_readUnit_8 ⟨Nat.le_of_ble_eq_true rfl, Nat.le_of_ble_eq_true rfl⟩) hS (fun q _ h => hFc q h) hFc (fun r_66 u t H1 locs ht hvm hw hB hz1 hk1 hS => ?_)
    obtain ⟨hP1, hK1, hD1⟩ := hB
    rw [ht] at hP1
    have hP := bv_still hP hk1
    generalize H1 = H at hP hS ⊢
    as_aux_lemma =>
    rcases hw with h_67 | ⟨h_68, h_69⟩
    · rw [h_67]
      refine lv_if_ne (tgt := 65) hx hb dX4_readUnit_11 rfl (fun c_70 => absurd c_70 (by decide +kernel)) (fun c_70 => ?_)
      exact hU _ _ _ (J14 x_55 g_h0_f1 (RG_w h_61 (by decide +kernel)) g_h1_f2 g_h1_f3 (RG_w h_60 (by decide +kernel)) _ _ _ hP hD hS (lv_sub hl [0, 1, 2, 3] rfl))
    · rw [h_68]
      refine lv_if_ne (tgt := 65) hx hb dX4_readUnit_11 rfl (fun c_71 => ?_) (fun c_71 => absurd c_71 (by decide +kernel))
      refine lv_iload_n hx hb dX4_readUnit_65 rfl (lv_at hl 2 rfl) ?_
      refine lv_bipush (v := 6) hx hb dX4_readUnit_66 kc_bipush_6 ?_
      refine lv_icmp_lt (tgt := 78) hx hb dX4_readUnit_68 rfl (fun c_72 => absurd c_72 (by decide +kernel)) (fun c_72 => ?_)
      refine lv_aload_n hx hb dX4_readUnit_71 rfl (lv_at hl 1 rfl) ?_
      obtain ⟨hPc, hDc, hFc, hqc⟩ := cl_cut (wc := (wd_c_X9_refuseHere h1 h1_0 h1_f1 x_55 h1_f3)) hP hD hS hA [0] (by decide +kernel) rfl
      have hKc := hK.sub (tys' := []) [] rfl
      have hrv := va_recv hKc hPc (ci := 9) (q0 := 0) rfl rfl
      refine va_callv (va_runV (As := []) (rest := []) ⟨hx, hb, hml, hown, hts⟩ (c_X9_refuseHere l dC dI H.size h1 h1_0 h1_f1 x_55 h1_f3 (RG_w h_61 (by decide +kernel)) (RG_w h_60 (by decide +kernel)) g_h1_f3) (cwV 0 hts gf_c_X4_readUnit_7_c_X9_refuseHere rfl rfl rfl mdV_X9_refuseHere ⟨Nat.le_of_ble_eq_true rfl, Nat.le_of_ble_eq_true rfl⟩) ⟨fun a U g mk q => by obtain ⟨q0, q1, qP, qK, qD⟩ := q; exact ⟨q0, q1, qP, va_K.moved (u := U) (U := U.calling g mk a) (Vm.Alike.refl U.vm) qK, qD⟩, hrv, fun U hU hW => ⟨rfl, by rw [hU], by rw [hU]; exact hPc, va_K.moved hW.alike hKc, hDc.weaken (fun _ _ _ _ => trivial)⟩⟩ rfl rfl hl.1 rfl (lv_room (Nat.le_of_ble_eq_true rfl)) dX4_readUnit_72 ⟨Nat.le_of_ble_eq_true rfl, Nat.le_of_ble_eq_true rfl⟩) hS (fun q _ h => hFc q h) hFc (fun x_74 t H1 locs ht hvm hw hB hz1 hk1 hS => ?_)
      as_aux_lemma =>
      obtain ⟨hP1, hK1, hD1⟩ := hB
      rw [ht] at hP1
      obtain ⟨hP, hD⟩ := cl_put (w1 := (wd_c_X9_refuseHere h1 h1_0 h1_f1 x_55 x_74)) (nw := (wd_c_X4_readUnit_7 h1 h1_0 h1_f1 x_55 x_74 h1_0 h1_0k h1_0c h0 h0_0 h0_f1 h0_2 h0_0 h0_0k h0_0c)) hP hD [0] [4, 1, 2, 3] 4 rfl hqc (by decide +kernel) rfl hk1 hFc hP1 hD1
      generalize H1 = H at hP hS ⊢
      as_aux_lemma =>
      have h_75 := hw
      refine lv_goto (tgt := 126) hx hb dX4_readUnit_75 rfl ?_
      have hK9 := hK.sub (tys' := []) [] rfl
      exact W.vret hx hb hr (fun t ht hW => ⟨⟨(x_55, x_74, h0_f1, h0_0c), rfl, ⟨(RG_w h_60 (by decide +kernel)), (RG_w h_75 (by decide +kernel)), g_h0_f1⟩, by rw [ht]; exact hP, va_K.moved hW.alike hK9, hD⟩, hS.F ht⟩) hS.2.2 dX4_readUnit_126
noncomputable def wd_c_X9_take_1 (a0 : Nat) (a1 : Nat) (a2 : Int32) (a3 : Int32) (a4 : Int32) (a5 : Nat) (a6 : ClassId) (a7 : Nat → Int32) : va_W := [(a0, .inr (9, [.ref a1, .int a2, .int a3, .int a4])), (a5, .inl (a6, 240, .inl a7))]
noncomputable def wf_c_X9_take_1 : List Cond := List.cons (.code yX9_take cX9_take 2 (some .boolean)) (@HAppend.hAppend (List Cond) (List Cond) (List Cond) _ [.fieldLink RX9 15 "BuoyVote$Tape" "wrong" "I", .methodLink RX9 29 yX9_peek, .instanceMethod yX9_peek, .selects RX9 yX9_peek yX9_peek, .initialized RX9, .code yX9_peek cX9_peek 1 (some .int), .fieldLink RX9 22 "BuoyVote$Tape" "at" "I", .fieldLink RX9 19 "BuoyVote$Tape" "length" "I", .fieldLink RX9 11 "BuoyVote$Tape" "bytes" "[I"] wsX90)
theorem iw_c_X9_take_1_X9 : ∀ w ∈ wsX90, w ∈ wf_c_X9_take_1 := fun w h => List.mem_cons_of_mem _ (List.mem_append_right _ h)
set_option maxRecDepth 20000 in
theorem gf_c_X9_take_1_c_X9_peek : GoodIn wf_c_X9_take_1 (wsV RX9 29 RX9 yX9_peek wf_c_X9_peek) := goodIn_app (gi_l [2, 3, 4, 5] rfl rfl) (gi_cons (j := 6) rfl rfl (goodIn_app (gi_l [7, 8, 9] rfl rfl) (goodIn_sub iw_c_X9_take_1_X9 gw_X9)))
set_option maxHeartbeats 4000000 in
set_option maxRecDepth 100000 in
theorem c_X9_take_1 (l : Launch) (dC : Nat → ClassId) (dI : Nat → Nat → Nat) (sz : Nat) (h0 : Nat) (p1 : Int32) (h0_0 : Nat) (h0_f1 : Int32) (h0_f2 : Int32) (h0_f3 : Int32) (h0_0k : ClassId) (h0_0c : Nat → Int32) (g_p1 : RG p1 0 239) (g_h0_f1 : RG h0_f1 0 240) (g_h0_f2 : RG h0_f2 0 240) (g_h0_f3 : RG h0_f3 (-1) 240) (a_h0_0c : AI h0_0c 0 255) : Met l yX9_take wf_c_X9_take_1 ({ frames := 1, cells := 0, slots := 0, locals := 20 }) (va_Pc [.ref h0, .int p1] (fun U => U.heap.size = sz ∧ va_P (dC, dI) vwCl (wd_c_X9_take_1 h0 h0_0 h0_f1 h0_f2 h0_f3 h0_0 h0_0k h0_0c) U.heap ∧ va_K (dC, dI) vwCl [(h0_0k, .int)] U ∧ va_D (fun _ => True) (wd_c_X9_take_1 h0 h0_0 h0_f1 h0_f2 h0_f3 h0_0 h0_0k h0_0c))) (va_Qi (fun (r : Int32) (u : (Int32)) => (r = 0 ∧ RG u 0 240 ∧ h0_f2.toInt + 0 ≤ (u).toInt) ∨ (r = 1 ∧ RG u 1 240 ∧ RG h0_f1 1 240 ∧ RG h0_f3 (-1) (-1) ∧ h0_f2.toInt + 1 ≤ (u).toInt)) (fun (u : (Int32)) t => va_P (dC, dI) vwCl (wd_c_X9_take_1 h0 h0_0 h0_f1 u h0_f3 h0_0 h0_0k h0_0c) t.heap ∧ va_K (dC, dI) vwCl [] t ∧ va_D (va_A (wd_c_X9_take_1 h0 h0_0 h0_f1 h0_f2 h0_f3 h0_0 h0_0k h0_0c) sz) (wd_c_X9_take_1 h0 h0_0 h0_f1 u h0_f3 h0_0 h0_0k h0_0c)) (va_A (wd_c_X9_take_1 h0 h0_0 h0_f1 h0_f2 h0_f3 h0_0 h0_0k h0_0c) sz)) 0 0 (va_A (wd_c_X9_take_1 h0 h0_0 h0_f1 h0_f2 h0_f3 h0_0 h0_0k h0_0c) sz) := by
  refine Met.ofW (cc := cX9_take) (maxL := 2) (ret := (some .boolean)) (by decide +kernel) rfl ?_
  intro p e s m args below meth c s₁ B hml hv
  obtain ⟨rfl, hsz, hP, hK, hD0⟩ := hv
  have hx := B.exec
  have hb := B.bytes
  have hr := B.returns
  have hts := atoms_spec (ws := wf_c_X9_take_1) B.pre
  have hown : s.vm.findClass RX9 = some m.cls := findClass_of_methodNamed B.named
  have hlocks := B.notSynchronized
  subst hsz
  have hD := hD0.self (sz := s.heap.size)
  generalize hAe : va_A (wd_c_X9_take_1 h0 h0_0 h0_f1 h0_f2 h0_f3 h0_0 h0_0k h0_0c) s.heap.size = A at hD ⊢
  have hA : ∀ q : Nat, s.heap.size ≤ q → A q := fun q h => by rw [← hAe]; exact Or.inr h
  have hP : va_P (dC, dI) vwCl (wd_c_X9_take_1 h0 h0_0 h0_f1 h0_f2 h0_f3 h0_0 h0_0k h0_0c) s.heap := hP
  have hl := lv_entry ([.ref h0, .int p1]) (n := 2) (Nat.le_of_ble_eq_true rfl)
  rw [lg_entry_eq]
  generalize (lg_sl ([.ref h0, .int p1]) ++ List.replicate (2 - (lg_sl ([.ref h0, .int p1])).length) Slot.unset).toArray = ls at hl ⊢
  have hl : lv_has ls 2 [(0, .ref h0), (1, .int p1)] := hl
  obtain ⟨H, hHe⟩ : ∃ H : Heap, s.heap = H := ⟨_, rfl⟩
  have hS : va_S A s.heap H [] := by rw [hHe]; exact va_S.rf
  have hP : va_P (dC, dI) vwCl (wd_c_X9_take_1 h0 h0_0 h0_f1 h0_f2 h0_f3 h0_0 h0_0k h0_0c) H := by rw [← hHe]; exact hP
  rw [hHe]
  refine lv_aload_n hx hb dX9_take_0 rfl (lv_at hl 0 rfl) ?_
  as_aux_lemma =>
  refine va_get (D := (dC, dI)) (ci := 9) (v := .int h0_f3) (C := RX9) (T := TX9) (N := 4) hx hb hts iw_c_X9_take_1_X9 hown hK hP 0 rfl rfl 3 (by decide +kernel) (hts (.fieldLink RX9 15 "BuoyVote$Tape" "wrong" "I") (List.mem_of_getElem? (i := 1) rfl)) (fun _ h9 => h9) rfl dX9_take_1 ?_
  refine lv_iconst (v := (-1)) hx hb dX9_take_4 kc_iconst_m1 ?_
  refine lv_icmp_ne (tgt := 16) hx hb dX9_take_5 rfl (fun c_1 => ?_) (fun c_1 => ?_)
  · have g_2 : RG h0_f3 0 240 := RG_ne1 g_h0_f3 (q := (-1)) rfl c_1 (by decide +kernel)
    refine lv_iconst (v := 0) hx hb dX9_take_16 kc_iconst_0 ?_
    have hK9 := hK.sub (tys' := []) [] rfl
    exact W.zret (v := 0) hx hb hr rfl (fun t ht hW => ⟨⟨0, h0_f2, rfl, (Or.inl ⟨rfl, g_h0_f2, (by show h0_f2.toInt + 0 ≤ h0_f2.toInt; omega)⟩), by rw [ht]; exact hP, va_K.moved hW.alike hK9, hD⟩, hS.F ht⟩) hS.2.2 dX9_take_17
  · have g_3 : RG h0_f3 (-1) (-1) := RG_eq1 g_h0_f3 (RG_k (-1) (-1) rfl) c_1 (by decide +kernel)
    refine lv_aload_n hx hb dX9_take_8 rfl (lv_at hl 0 rfl) ?_
    obtain ⟨hPc, hDc, hFc, hqc⟩ := cl_cut (wc := (wd_c_X9_peek h0 h0_0 h0_f1 h0_f2 h0_f3 h0_0 h0_0k h0_0c)) hP hD hS hA [0, 1] (by decide +kernel) rfl
    have hKc := hK.sub (tys' := [(h0_0k, .int)]) [0] rfl
    have hrv := va_recv hKc hPc (ci := 9) (q0 := 0) rfl rfl
    refine va_calli (va_runV (As := []) (rest := []) ⟨hx, hb, hml, hown, hts⟩ (c_X9_peek l dC dI H.size h0 h0_0 h0_f1 h0_f2 h0_f3 h0_0k h0_0c g_h0_f1 g_h0_f2 (RG_w g_3 (by decide +kernel)) a_h0_0c) (cwV 0 hts gf_c_X9_take_1_c_X9_peek rfl rfl rfl mdV_X9_peek ⟨Nat.le_of_ble_eq_true rfl, Nat.le_of_ble_eq_true rfl⟩) ⟨fun a U g mk q => by obtain ⟨q0, q1, qP, qK, qD⟩ := q; exact ⟨q0, q1, qP, va_K.moved (u := U) (U := U.calling g mk a) (Vm.Alike.refl U.vm) qK, qD⟩, hrv, fun U hU hW => ⟨rfl, by rw [hU], by rw [hU]; exact hPc, va_K.moved hW.alike hKc, hDc.weaken (fun _ _ _ _ => trivial)⟩⟩ rfl rfl hl.1 rfl (lv_room (Nat.le_of_ble_eq_true rfl)) dX9_take_9 ⟨Nat.le_of_ble_eq_true rfl, Nat.le_of_ble_eq_true rfl⟩) hS (fun q _ h => hFc q h) hFc (fun r_4 x_5 t H1 locs ht hvm hw hB hz1 hk1 hS => ?_)
    obtain ⟨hP1, hK1, hD1⟩ := hB
    rw [ht] at hP1
    obtain ⟨hP, hD⟩ := cl_put (w1 := (wd_c_X9_peek h0 h0_0 h0_f1 x_5 h0_f3 h0_0 h0_0k h0_0c)) (nw := (wd_c_X9_take_1 h0 h0_0 h0_f1 x_5 h0_f3 h0_0 h0_0k h0_0c)) hP hD [0, 1] [2, 3] 2 rfl hqc (by decide +kernel) rfl hk1 hFc hP1 hD1
    generalize H1 = H at hP hS ⊢
    as_aux_lemma =>
    rcases hw with ⟨h_6, h_7, h_8⟩ | ⟨h_9, h_10, h_11, h_12⟩
    · rw [h_6]
      refine lv_iload_n hx hb dX9_take_12 rfl (lv_at hl 1 rfl) ?_
      refine lv_icmp_eq (tgt := 18) hx hb dX9_take_13 rfl (fun c_13 => ?_) (fun c_13 => ?_)
      · exact RG_dead (RG_eq1 (RG_k (-1) (-1) rfl) g_p1 c_13 (a' := 0) (b' := (-1)) (by decide +kernel)) (by decide +kernel)
      · refine lv_iconst (v := 0) hx hb dX9_take_16 kc_iconst_0 ?_
        have hK9 := hK.sub (tys' := []) [] rfl
        exact W.zret (v := 0) hx hb hr rfl (fun t ht hW => ⟨⟨0, x_5, rfl, (Or.inl ⟨rfl, h_7, (by have := h_8; show h0_f2.toInt + 0 ≤ x_5.toInt; omega)⟩), by rw [ht]; exact hP, va_K.moved hW.alike hK9, hD⟩, hS.F ht⟩) hS.2.2 dX9_take_17
    · refine lv_iload_n hx hb dX9_take_12 rfl (lv_at hl 1 rfl) ?_
      refine lv_icmp_eq (tgt := 18) hx hb dX9_take_13 rfl (fun c_14 => ?_) (fun c_14 => ?_)
      · have g_15 : RG r_4 0 239 := RG_eq1 h_9 g_p1 c_14 (by decide +kernel)
        refine lv_aload_n hx hb dX9_take_18 rfl (lv_at hl 0 rfl) ?_
        refine lv_dup hx hb dX9_take_19 rfl ?_
        refine va_get (D := (dC, dI)) (ci := 9) (v := .int x_5) (C := RX9) (T := TX9) (N := 4) hx hb hts iw_c_X9_take_1_X9 hown hK hP 0 rfl rfl 2 (by decide +kernel) (hts (.fieldLink RX9 22 "BuoyVote$Tape" "at" "I") (List.mem_of_getElem? (i := 7) rfl)) (fun _ h9 => h9) rfl dX9_take_20 ?_
        as_aux_lemma =>
        refine lv_iconst (v := 1) hx hb dX9_take_23 kc_iconst_1 ?_
        refine lv_iadd hx hb dX9_take_24 ?_
        refine lv_topi (fun x_16 ex_16 => ?_)
        have g_17 : RG x_16 1 240 := RG_add ex_16 h_10 (RG_k 1 1 rfl) (by decide +kernel)
        have q_18 : x_16.toInt = x_5.toInt + 1 := eq_add ex_16 h_10 (q := 1) rfl (by decide +kernel)
        refine va_put (D := (dC, dI)) (ci := 9) (v := .int x_16) (ty := .int) (C := RX9) (T := TX9) (N := 4) hx hb hts iw_c_X9_take_1_X9 tyX9 tyX9_ok nmX9 hown hK hP hD hS 0 rfl rfl 2 (by decide +kernel) (hts (.fieldLink RX9 22 "BuoyVote$Tape" "at" "I") (List.mem_of_getElem? (i := 7) rfl)) (fun _ h9 => h9) rfl (by decide +kernel) rfl rfl (Nat.le_of_ble_eq_true rfl) dX9_take_25 (fun H locs hP hD hS => ?_)
        have hP : va_P (dC, dI) vwCl (wd_c_X9_take_1 h0 h0_0 h0_f1 x_16 h0_f3 h0_0 h0_0k h0_0c) H := hP
        have hD : va_D A (wd_c_X9_take_1 h0 h0_0 h0_f1 x_16 h0_f3 h0_0 h0_0k h0_0c) := hD
        refine lv_iconst (v := 1) hx hb dX9_take_28 kc_iconst_1 ?_
        have hK9 := hK.sub (tys' := []) [] rfl
        exact W.zret (v := 1) hx hb hr rfl (fun t ht hW => ⟨⟨1, x_16, rfl, (Or.inr ⟨rfl, g_17, h_11, g_3, (by have := h_12; have := q_18; show h0_f2.toInt + 1 ≤ x_16.toInt; omega)⟩), by rw [ht]; exact hP, va_K.moved hW.alike hK9, hD⟩, hS.F ht⟩) hS.2.2 dX9_take_29
      · refine lv_iconst (v := 0) hx hb dX9_take_16 kc_iconst_0 ?_
        have hK9 := hK.sub (tys' := []) [] rfl
        exact W.zret (v := 0) hx hb hr rfl (fun t ht hW => ⟨⟨0, x_5, rfl, (Or.inl ⟨rfl, (RG_w h_10 (by decide +kernel)), (by have := h_12; show h0_f2.toInt + 0 ≤ x_5.toInt; omega)⟩), by rw [ht]; exact hP, va_K.moved hW.alike hK9, hD⟩, hS.F ht⟩) hS.2.2 dX9_take_17
noncomputable def wd_c_X4_readCondition_6 (a0 : Nat) (a1 : Nat) (a2 : Int32) (a3 : Int32) (a4 : Int32) (a5 : Nat) (a6 : ClassId) (a7 : Nat → Int32) (a8 : Nat) (a9 : Nat) (a10 : Int32) (a11 : Nat) (a12 : Nat) (a13 : ClassId) (a14 : Nat → Int32) : va_W := [(a0, .inr (9, [.ref a1, .int a2, .int a3, .int a4])), (a5, .inl (a6, 240, .inl a7)), (a8, .inr (4, [.ref a9, .int a10, .ref a11])), (a12, .inl (a13, 240, .inl a14))]
noncomputable def wf_c_X4_readCondition_6 : List Cond := List.cons (.code yX4_readCondition cX4_readCondition 7 none) (@HAppend.hAppend (List Cond) (List Cond) (List Cond) _ (@HAppend.hAppend (List Cond) (List Cond) (List Cond) _ [.methodLink RX4 72 yX9_isRight, .instanceMethod yX9_isRight, .selects RX9 yX9_isRight yX9_isRight, .initialized RX9, .code yX9_isRight cX9_isRight 1 (some .boolean), .fieldLink RX9 15 "BuoyVote$Tape" "wrong" "I", .methodLink RX4 76 yX4_readUnit, .instanceMethod yX4_readUnit, .selects RX4 yX4_readUnit yX4_readUnit, .initialized RX4, .code yX4_readUnit cX4_readUnit 5 none, .methodLink RX4 41 yX9_peek, .instanceMethod yX9_peek, .selects RX9 yX9_peek yX9_peek, .code yX9_peek cX9_peek 1 (some .int), .fieldLink RX9 22 "BuoyVote$Tape" "at" "I", .fieldLink RX9 19 "BuoyVote$Tape" "length" "I", .fieldLink RX9 11 "BuoyVote$Tape" "bytes" "[I", .methodLink RX4 45 yX4_startsUnit, .static yX4_startsUnit, .code yX4_startsUnit cX4_startsUnit 1 (some .boolean), .methodLink RX4 82 yX9_refuseHere, .instanceMethod yX9_refuseHere, .selects RX9 yX9_refuseHere yX9_refuseHere, .code yX9_refuseHere cX9_refuseHere 1 none, .methodLink RX9 25 yX9_refuse, .instanceMethod yX9_refuse, .selects RX9 yX9_refuse yX9_refuse, .code yX9_refuse cX9_refuse 2 none, .methodLink RX4 49 yX4_readSum, .instanceMethod yX4_readSum, .selects RX4 yX4_readSum yX4_readSum, .code yX4_readSum cX4_readSum 6 none, .methodLink RX4 85 yX4_readAtom, .instanceMethod yX4_readAtom, .selects RX4 yX4_readAtom yX4_readAtom, .code yX4_readAtom cX4_readAtom 6 none, .methodLink RX4 93 yJ0_indexOf_0f7a4, .instanceMethod yJ0_indexOf_0f7a4, .selects RJ0 yJ0_indexOf_0f7a4 yJ0_indexOf_0f7a4, .initialized RJ0, .code yJ0_indexOf_0f7a4 cJ0_indexOf_0f7a4 2 (some .int), .methodLink RJ0 633 yJ0_indexOf_7cf53, .instanceMethod yJ0_indexOf_7cf53, .selects RJ0 yJ0_indexOf_7cf53 yJ0_indexOf_7cf53, .code yJ0_indexOf_7cf53 cJ0_indexOf_7cf53 3 (some .int), .methodLink RJ0 492 yJ0_isLatin1_aae02, .instanceMethod yJ0_isLatin1_aae02, .selects RJ0 yJ0_isLatin1_aae02 yJ0_isLatin1_aae02, .code yJ0_isLatin1_aae02 cJ0_isLatin1_aae02 1 (some .boolean), .fieldLink RJ0 38 "java/lang/String" "COMPACT_STRINGS" "Z", .fieldLink RJ0 15 "java/lang/String" "coder" "B", .fieldLink RJ0 9 "java/lang/String" "value" "[B", .methodLink RJ0 505 yJ0_length_8abf5, .instanceMethod yJ0_length_8abf5, .selects RJ0 yJ0_length_8abf5 yJ0_length_8abf5, .code yJ0_length_8abf5 cJ0_length_8abf5 1 (some .int), .methodLink RJ0 335 yJ0_coder_7d493, .instanceMethod yJ0_coder_7d493, .selects RJ0 yJ0_coder_7d493 yJ0_coder_7d493, .code yJ0_coder_7d493 cJ0_coder_7d493 1 (some .byte), .methodLink RJ0 637 yJ1_indexOf_4cfef, .static yJ1_indexOf_4cfef, .initialized RJ1, .code yJ1_indexOf_4cfef cJ1_indexOf_4cfef 4 (some .int), .methodLink RJ1 88 yJ1_canEncode_9a6ad, .static yJ1_canEncode_9a6ad, .code yJ1_canEncode_9a6ad cJ1_canEncode_9a6ad 1 (some .boolean), .methodLink RJ1 92 Lib.Math.max.name, .static Lib.Math.max.name, .initialized "java/lang/Math", .code Lib.Math.max.name Lib.Math.max.code 2 (some .int), .methodLink RJ1 38 Lib.Math.min.name, .static Lib.Math.min.name, .code Lib.Math.min.name Lib.Math.min.code 2 (some .int), .methodLink RJ1 95 yJ1_indexOfChar_4cfef, .static yJ1_indexOfChar_4cfef, .code yJ1_indexOfChar_4cfef cJ1_indexOfChar_4cfef 6 (some .int), .methodLink RX4 99 yX9_number, .instanceMethod yX9_number, .selects RX9 yX9_number yX9_number, .code yX9_number cX9_number 4 (some .int), .methodLink RX4 79 yX9_skip, .instanceMethod yX9_skip, .selects RX9 yX9_skip yX9_skip, .code yX9_skip cX9_skip 1 none, .methodLink RX4 60 yX4_emit, .instanceMethod yX4_emit, .selects RX4 yX4_emit yX4_emit, .code yX4_emit cX4_emit 2 none, .fieldLink RX4 20 "BuoyVote$Law" "length" "I", .fieldLink RX4 11 "BuoyVote$Law" "code" "[I", .methodLink RX4 88 yX9_takeEither, .instanceMethod yX9_takeEither, .selects RX9 yX9_takeEither yX9_takeEither, .code yX9_takeEither cX9_takeEither 4 (some .int), .methodLink RX9 29 yX9_peek, .methodLink RX4 53 yX4_isComparison, .static yX4_isComparison, .code yX4_isComparison cX4_isComparison 1 (some .boolean), .methodLink RX4 63 yX9_take, .instanceMethod yX9_take, .selects RX9 yX9_take yX9_take, .code yX9_take cX9_take 2 (some .boolean)] wsX90) wsX40)
theorem iw_c_X4_readCondition_6_X9 : ∀ w ∈ wsX90, w ∈ wf_c_X4_readCondition_6 := fun w h => List.mem_cons_of_mem _ (List.mem_append_left _ (List.mem_append_right _ h))
theorem iw_c_X4_readCondition_6_X4 : ∀ w ∈ wsX40, w ∈ wf_c_X4_readCondition_6 := fun w h => List.mem_cons_of_mem _ (List.mem_append_right _ h)
set_option maxRecDepth 20000 in
theorem gf_c_X4_readCondition_6_c_X9_take_1 : GoodIn wf_c_X4_readCondition_6 (wsV RX4 63 RX9 yX9_take wf_c_X9_take_1) := goodIn_app (gi_l [101, 102, 103, 4] rfl rfl) (gi_cons (j := 104) rfl rfl (goodIn_app (gi_l [6, 97, 13, 14, 4, 15, 16, 17, 18] rfl rfl) (goodIn_sub iw_c_X4_readCondition_6_X9 gw_X9)))
set_option maxRecDepth 20000 in
theorem gf_c_X4_readCondition_6_c_X9_take : GoodIn wf_c_X4_readCondition_6 (wsV RX4 63 RX9 yX9_take wf_c_X9_take) := goodIn_app (gi_l [101, 102, 103, 4] rfl rfl) (gi_cons (j := 104) rfl rfl (goodIn_app (gi_l [6, 97, 13, 14, 4, 15, 16, 17, 18] rfl rfl) (goodIn_sub iw_c_X4_readCondition_6_X9 gw_X9)))
set_option maxRecDepth 20000 in
theorem gf_c_X4_readCondition_6_c_X4_emit : GoodIn wf_c_X4_readCondition_6 (wsV RX4 60 RX4 yX4_emit wf_c_X4_emit) := goodIn_app (gi_l [87, 88, 89, 10] rfl rfl) (gi_cons (j := 90) rfl rfl (goodIn_app (gi_l [91, 92] rfl rfl) (goodIn_sub iw_c_X4_readCondition_6_X4 gw_X4)))
set_option maxRecDepth 20000 in
theorem gf_c_X4_readCondition_6_c_X4_readUnit_7 : GoodIn wf_c_X4_readCondition_6 (wsV RX4 76 RX4 yX4_readUnit wf_c_X4_readUnit_7) := goodIn_app (gi_l [7, 8, 9, 10] rfl rfl) (gi_cons (j := 11) rfl rfl (goodIn_app (goodIn_app (gi_l [12, 13, 14, 4, 15, 16, 17, 18, 19, 20, 10, 21, 22, 23, 24, 25, 26, 27, 28, 29, 6, 30, 31, 32, 33, 1, 2, 3, 5, 34, 35, 36, 37, 38, 39, 40, 41, 42, 43, 44, 45, 46, 47, 48, 49, 50, 51, 52, 53, 54, 55, 56, 57, 58, 59, 60, 61, 62, 63, 64, 65, 66, 67, 68, 69, 70, 71, 72, 73, 74, 75, 76, 77, 78, 79, 80, 81, 82, 83, 84, 85, 86, 87, 88, 89, 90, 91, 92, 93, 94, 95, 96, 97, 98, 99, 100] rfl rfl) (goodIn_sub iw_c_X4_readCondition_6_X9 gw_X9)) (goodIn_sub iw_c_X4_readCondition_6_X4 gw_X4)))
set_option maxRecDepth 20000 in
theorem gf_c_X4_readCondition_6_c_X9_isRight : GoodIn wf_c_X4_readCondition_6 (wsV RX4 72 RX9 yX9_isRight wf_c_X9_isRight) := goodIn_app (gi_l [1, 2, 3, 4] rfl rfl) (gi_cons (j := 5) rfl rfl (goodIn_app (gi_l [6] rfl rfl) (goodIn_sub iw_c_X4_readCondition_6_X9 gw_X9)))
set_option maxHeartbeats 4000000 in
set_option maxRecDepth 100000 in
theorem c_X4_readCondition_6 (l : Launch) (dC : Nat → ClassId) (dI : Nat → Nat → Nat) (sz : Nat) (h0 : Nat) (h1 : Nat) (h1_0 : Nat) (h1_f1 : Int32) (h1_f2 : Int32) (h1_f3 : Int32) (h1_0k : ClassId) (h1_0c : Nat → Int32) (h0_0 : Nat) (h0_f1 : Int32) (h0_2 : Nat) (h0_0k : ClassId) (h0_0c : Nat → Int32) (ts4 : Nat) (tv4 : Nat) (g_h1_f1 : RG h1_f1 0 240) (g_h1_f2 : RG h1_f2 0 240) (g_h1_f3 : RG h1_f3 (-1) 240) (a_h1_0c : AI h1_0c 0 255) (g_h0_f1 : RG h0_f1 0 240) : Met l yX4_readCondition wf_c_X4_readCondition_6 ({ frames := 7, cells := 0, slots := 0, locals := 165 }) (va_Pc [.ref h0, .ref h1, .int 6, .int 0] (fun U => U.heap.size = sz ∧ va_P (dC, dI) vwCl (wd_c_X4_readCondition_6 h1 h1_0 h1_f1 h1_f2 h1_f3 h1_0 h1_0k h1_0c h0 h0_0 h0_f1 h0_2 h0_0 h0_0k h0_0c) U.heap ∧ va_K (dC, dI) vwCl [(h1_0k, .int), (h0_0k, .int)] U ∧ va_D (fun _ => True) (wd_c_X4_readCondition_6 h1 h1_0 h1_f1 h1_f2 h1_f3 h1_0 h1_0k h1_0c h0 h0_0 h0_f1 h0_2 h0_0 h0_0k h0_0c) ∧ vk_R RX4 91 "vlrdph" ts4 U ∧ va_Z "java/lang/String" "COMPACT_STRINGS" "Z" (.int 1) (va_A (wd_c_X4_readCondition_6 h1 h1_0 h1_f1 h1_f2 h1_f3 h1_0 h1_0k h1_0c h0 h0_0 h0_f1 h0_2 h0_0 h0_0k h0_0c) sz) U U.heap ∧ va_OF "java/lang/String" "coder" "B" (.int 0) ts4 (va_A (wd_c_X4_readCondition_6 h1 h1_0 h1_f1 h1_f2 h1_f3 h1_0 h1_0k h1_0c h0 h0_0 h0_f1 h0_2 h0_0 h0_0k h0_0c) sz) U U.heap ∧ va_O "java/lang/String" ts4 (va_A (wd_c_X4_readCondition_6 h1 h1_0 h1_f1 h1_f2 h1_f3 h1_0 h1_0k h1_0c h0 h0_0 h0_f1 h0_2 h0_0 h0_0k h0_0c) sz) U U.heap ∧ va_OF "java/lang/String" "value" "[B" (.ref tv4) ts4 (va_A (wd_c_X4_readCondition_6 h1 h1_0 h1_f1 h1_f2 h1_f3 h1_0 h1_0k h1_0c h0 h0_0 h0_f1 h0_2 h0_0 h0_0k h0_0c) sz) U U.heap ∧ va_T .byte tv4 6 (fun j => .int ([118, 108, 114, 100, 112, 104].getD j 0)) (va_A (wd_c_X4_readCondition_6 h1 h1_0 h1_f1 h1_f2 h1_f3 h1_0 h1_0k h1_0c h0 h0_0 h0_f1 h0_2 h0_0 h0_0k h0_0c) sz) U U.heap)) (va_Qv (fun (u : (Int32) × (Int32) × (Int32) × (Nat → Int32)) => (RG u.1 0 240 ∧ RG u.2.1 (-1) 240 ∧ RG u.2.2.1 0 240)) (fun (u : (Int32) × (Int32) × (Int32) × (Nat → Int32)) t => va_P (dC, dI) vwCl (wd_c_X4_readCondition_6 h1 h1_0 h1_f1 (u.1) (u.2.1) h1_0 h1_0k h1_0c h0 h0_0 (u.2.2.1) h0_2 h0_0 h0_0k (u.2.2.2)) t.heap ∧ va_K (dC, dI) vwCl [] t ∧ va_D (va_A (wd_c_X4_readCondition_6 h1 h1_0 h1_f1 h1_f2 h1_f3 h1_0 h1_0k h1_0c h0 h0_0 h0_f1 h0_2 h0_0 h0_0k h0_0c) sz) (wd_c_X4_readCondition_6 h1 h1_0 h1_f1 (u.1) (u.2.1) h1_0 h1_0k h1_0c h0 h0_0 (u.2.2.1) h0_2 h0_0 h0_0k (u.2.2.2))) (va_A (wd_c_X4_readCondition_6 h1 h1_0 h1_f1 h1_f2 h1_f3 h1_0 h1_0k h1_0c h0 h0_0 h0_f1 h0_2 h0_0 h0_0k h0_0c) sz)) 0 0 (va_A (wd_c_X4_readCondition_6 h1 h1_0 h1_f1 h1_f2 h1_f3 h1_0 h1_0k h1_0c h0 h0_0 h0_f1 h0_2 h0_0 h0_0k h0_0c) sz) := by
  refine Met.ofW (cc := cX4_readCondition) (maxL := 7) (ret := none) (by decide +kernel) rfl ?_
  intro p e s m args below meth c s₁ B hml hv
  obtain ⟨rfl, hsz, hP, hK, hD0, hE_32, hE_10, hE_34, hE_33, hE_35, hE_36⟩ := hv
  have hx := B.exec
  have hb := B.bytes
  have hr := B.returns
  have hts := atoms_spec (ws := wf_c_X4_readCondition_6) B.pre
  have hown : s.vm.findClass RX4 = some m.cls := findClass_of_methodNamed B.named
  have hlocks := B.notSynchronized
  subst hsz
  have hD := hD0.self (sz := s.heap.size)
  generalize hAe : va_A (wd_c_X4_readCondition_6 h1 h1_0 h1_f1 h1_f2 h1_f3 h1_0 h1_0k h1_0c h0 h0_0 h0_f1 h0_2 h0_0 h0_0k h0_0c) s.heap.size = A at hD hE_10 hE_34 hE_33 hE_35 hE_36 ⊢
  have hA : ∀ q : Nat, s.heap.size ≤ q → A q := fun q h => by rw [← hAe]; exact Or.inr h
  have hP : va_P (dC, dI) vwCl (wd_c_X4_readCondition_6 h1 h1_0 h1_f1 h1_f2 h1_f3 h1_0 h1_0k h1_0c h0 h0_0 h0_f1 h0_2 h0_0 h0_0k h0_0c) s.heap := hP
  have hl := lv_entry ([.ref h0, .ref h1, .int 6, .int 0]) (n := 7) (Nat.le_of_ble_eq_true rfl)
  rw [lg_entry_eq]
  generalize (lg_sl ([.ref h0, .ref h1, .int 6, .int 0]) ++ List.replicate (7 - (lg_sl ([.ref h0, .ref h1, .int 6, .int 0])).length) Slot.unset).toArray = ls at hl ⊢
  have hl : lv_has ls 7 [(0, .ref h0), (1, .ref h1), (2, .int 6), (3, .int 0)] := hl
  obtain ⟨H, hHe⟩ : ∃ H : Heap, s.heap = H := ⟨_, rfl⟩
  have hS : va_S A s.heap H [] := by rw [hHe]; exact va_S.rf
  have hP : va_P (dC, dI) vwCl (wd_c_X4_readCondition_6 h1 h1_0 h1_f1 h1_f2 h1_f3 h1_0 h1_0k h1_0c h0 h0_0 h0_f1 h0_2 h0_0 h0_0k h0_0c) H := by rw [← hHe]; exact hP
  rw [hHe]
  refine wj (fun G hG hU => ?_)
  as_aux_lemma =>
  have J9 : ∀ (n9 : Nat) (j9_l6 : Int32) (j9_l5 : Int32) (j9_l4 : Int32) (j9_h1_f2 : Int32) (j9_h1_f3 : Int32) (j9_h0_f1 : Int32) (j9_h0_0c : Nat → Int32) (hM9 : MU j9_l6 < n9) (g_h0_f1 : RG h0_f1 0 240) (g_h1_f1 : RG h1_f1 0 240) (g_h1_f2 : RG h1_f2 0 240) (g_h1_f3 : RG h1_f3 (-1) 240) (g_j9_h0_f1 : RG j9_h0_f1 0 240) (g_j9_h1_f2 : RG j9_h1_f2 0 240) (g_j9_h1_f3 : RG j9_h1_f3 (-1) 240) (g_j9_l4 : RG j9_l4 0 1) (g_j9_l5 : RG j9_l5 0 1) (g_j9_l6 : RG j9_l6 0 240) (H : Heap) (locs : List Loc) (ls : Array Slot) (hP : va_P (dC, dI) vwCl (wd_c_X4_readCondition_6 h1 h1_0 h1_f1 j9_h1_f2 j9_h1_f3 h1_0 h1_0k h1_0c h0 h0_0 j9_h0_f1 h0_2 h0_0 h0_0k j9_h0_0c) H) (hD : va_D A (wd_c_X4_readCondition_6 h1 h1_0 h1_f1 j9_h1_f2 j9_h1_f3 h1_0 h1_0k h1_0c h0 h0_0 j9_h0_f1 h0_2 h0_0 h0_0k j9_h0_0c)) (hS : va_S A s.heap H locs) (hl : lv_has ls 7 [(6, .int j9_l6), (5, .int j9_l5), (4, .int j9_l4), (0, .ref h0), (1, .ref h1), (2, .int 6), (3, .int 0)]), G H locs (F0 m 9 ls []) := by
    as_aux_lemma =>
    intro n9
    induction n9 with
    | zero => intros; exact absurd (by assumption) (Nat.not_lt_zero _)
    | succ n9 ih9 =>
      intro j9_l6 j9_l5 j9_l4 j9_h1_f2 j9_h1_f3 j9_h0_f1 j9_h0_0c hM9 g_h0_f1 g_h1_f1 g_h1_f2 g_h1_f3 g_j9_h0_f1 g_j9_h1_f2 g_j9_h1_f3 g_j9_l4 g_j9_l5 g_j9_l6 H locs ls hP hD hS hl
      have J93 : ∀ (j93_l4 : Int32) (j93_l5 : Int32) (j93_h1_f2 : Int32) (j93_h1_f3 : Int32) (j93_h0_f1 : Int32) (j93_h0_0c : Nat → Int32) (g_h0_f1 : RG h0_f1 0 240) (g_h1_f1 : RG h1_f1 1 240) (g_h1_f2 : RG h1_f2 0 240) (g_h1_f3 : RG h1_f3 (-1) 240) (g_j93_h0_f1 : RG j93_h0_f1 0 240) (g_j93_h1_f2 : RG j93_h1_f2 1 240) (g_j93_h1_f3 : RG j93_h1_f3 (-1) (-1)) (g_j93_l4 : RG j93_l4 0 1) (g_j93_l5 : RG j93_l5 0 1) (g_j9_h0_f1 : RG j9_h0_f1 0 240) (g_j9_h1_f2 : RG j9_h1_f2 0 240) (g_j9_h1_f3 : RG j9_h1_f3 (-1) (-1)) (g_j9_l4 : RG j9_l4 0 1) (g_j9_l5 : RG j9_l5 0 1) (g_j9_l6 : RG j9_l6 0 239) (H : Heap) (locs : List Loc) (ls : Array Slot) (hP : va_P (dC, dI) vwCl (wd_c_X4_readCondition_6 h1 h1_0 h1_f1 j93_h1_f2 j93_h1_f3 h1_0 h1_0k h1_0c h0 h0_0 j93_h0_f1 h0_2 h0_0 h0_0k j93_h0_0c) H) (hD : va_D A (wd_c_X4_readCondition_6 h1 h1_0 h1_f1 j93_h1_f2 j93_h1_f3 h1_0 h1_0k h1_0c h0 h0_0 j93_h0_f1 h0_2 h0_0 h0_0k j93_h0_0c)) (hS : va_S A s.heap H locs) (hl : lv_has ls 7 [(4, .int j93_l4), (6, .int j9_l6), (5, .int j93_l5), (0, .ref h0), (1, .ref h1), (2, .int 6), (3, .int 0)]), G H locs (F0 m 93 ls []) := by
        as_aux_lemma =>
        intro j93_l4 j93_l5 j93_h1_f2 j93_h1_f3 j93_h0_f1 j93_h0_0c g_h0_f1 g_h1_f1 g_h1_f2 g_h1_f3 g_j93_h0_f1 g_j93_h1_f2 g_j93_h1_f3 g_j93_l4 g_j93_l5 g_j9_h0_f1 g_j9_h1_f2 g_j9_h1_f3 g_j9_l4 g_j9_l5 g_j9_l6 H locs ls hP hD hS hl
        refine hG _ _ _ ?_
        obtain ⟨x_1, ex_1⟩ : ∃ y : Int32, y = j9_l6 + 1 := ⟨_, rfl⟩
        have g_2 : RG x_1 1 240 := RG_add ex_1 g_j9_l6 (RG_k 1 1 rfl) (by decide +kernel)
        refine lv_iinc (v := x_1) (lv' := [(6, .int x_1), (4, .int j93_l4), (5, .int j93_l5), (0, .ref h0), (1, .ref h1), (2, .int 6), (3, .int 0)]) hx hb dX4_readCondition_93 hl (k := 1) rfl (by rw [ex_1]; rfl) (Nat.le_of_ble_eq_true rfl) rfl (fun ls hl => ?_)
        refine lv_goto (tgt := 9) hx hb dX4_readCondition_96 rfl ?_
        exact hU _ _ _ (ih9 x_1 j93_l5 j93_l4 j93_h1_f2 j93_h1_f3 j93_h0_f1 j93_h0_0c (mu_s (MU_add ex_1 g_j9_l6 (q := 1) rfl (by decide +kernel)) hM9) g_h0_f1 (RG_w g_h1_f1 (by decide +kernel)) g_h1_f2 g_h1_f3 g_j93_h0_f1 (RG_w g_j93_h1_f2 (by decide +kernel)) (RG_w g_j93_h1_f3 (by decide +kernel)) g_j93_l4 g_j93_l5 (RG_w g_2 (by decide +kernel)) _ _ _ hP hD hS (lv_sub hl [0, 2, 1, 3, 4, 5, 6] rfl))
      have J79 : ∀ (j79_h1_f2 : Int32) (j79_h1_f3 : Int32) (j79_h0_f1 : Int32) (j79_h0_0c : Nat → Int32) (g_h0_f1 : RG h0_f1 0 240) (g_h1_f1 : RG h1_f1 0 240) (g_h1_f2 : RG h1_f2 0 240) (g_h1_f3 : RG h1_f3 (-1) 240) (g_j79_h0_f1 : RG j79_h0_f1 0 240) (g_j79_h1_f2 : RG j79_h1_f2 0 240) (g_j79_h1_f3 : RG j79_h1_f3 (-1) 240) (g_j9_h0_f1 : RG j9_h0_f1 0 240) (g_j9_h1_f2 : RG j9_h1_f2 0 240) (g_j9_h1_f3 : RG j9_h1_f3 (-1) (-1)) (g_j9_l4 : RG j9_l4 0 1) (g_j9_l5 : RG j9_l5 0 1) (g_j9_l6 : RG j9_l6 0 239) (H : Heap) (locs : List Loc) (ls : Array Slot) (hP : va_P (dC, dI) vwCl (wd_c_X4_readCondition_6 h1 h1_0 h1_f1 j79_h1_f2 j79_h1_f3 h1_0 h1_0k h1_0c h0 h0_0 j79_h0_f1 h0_2 h0_0 h0_0k j79_h0_0c) H) (hD : va_D A (wd_c_X4_readCondition_6 h1 h1_0 h1_f1 j79_h1_f2 j79_h1_f3 h1_0 h1_0k h1_0c h0 h0_0 j79_h0_f1 h0_2 h0_0 h0_0k j79_h0_0c)) (hS : va_S A s.heap H locs) (hl : lv_has ls 7 [(4, .int 0), (6, .int j9_l6), (0, .ref h0), (1, .ref h1), (2, .int 6), (3, .int 0)]), G H locs (F0 m 79 ls []) := by
        as_aux_lemma =>
        intro j79_h1_f2 j79_h1_f3 j79_h0_f1 j79_h0_0c g_h0_f1 g_h1_f1 g_h1_f2 g_h1_f3 g_j79_h0_f1 g_j79_h1_f2 g_j79_h1_f3 g_j9_h0_f1 g_j9_h1_f2 g_j9_h1_f3 g_j9_l4 g_j9_l5 g_j9_l6 H locs ls hP hD hS hl
        refine hG _ _ _ ?_
        refine lv_aload_n hx hb dX4_readCondition_79 rfl (lv_at hl 3 rfl) ?_
        refine lv_bipush (v := 124) hx hb dX4_readCondition_80 kc_bipush_124 ?_
        obtain ⟨hPc, hDc, hFc, hqc⟩ := cl_cut (wc := (wd_c_X9_take_1 h1 h1_0 h1_f1 j79_h1_f2 j79_h1_f3 h1_0 h1_0k h1_0c)) hP hD hS hA [0, 1] (by decide +kernel) rfl
        have hKc := hK.sub (tys' := [(h1_0k, .int)]) [0] rfl
        have hrv := va_recv hKc hPc (ci := 9) (q0 := 0) rfl rfl
        refine va_calli (va_runV (As := [.int 124]) (rest := []) ⟨hx, hb, hml, hown, hts⟩ (c_X9_take_1 l dC dI H.size h1 124 h1_0 h1_f1 j79_h1_f2 j79_h1_f3 h1_0k h1_0c (RG_w (RG_k 124 124 rfl) (by decide +kernel)) g_h1_f1 g_j79_h1_f2 g_j79_h1_f3 a_h1_0c) (cwV 1 hts gf_c_X4_readCondition_6_c_X9_take_1 rfl rfl rfl mdV_X9_take ⟨Nat.le_of_ble_eq_true rfl, Nat.le_of_ble_eq_true rfl⟩) ⟨fun a U g mk q => by obtain ⟨q0, q1, qP, qK, qD⟩ := q; exact ⟨q0, q1, qP, va_K.moved (u := U) (U := U.calling g mk a) (Vm.Alike.refl U.vm) qK, qD⟩, hrv, fun U hU hW => ⟨rfl, by rw [hU], by rw [hU]; exact hPc, va_K.moved hW.alike hKc, hDc.weaken (fun _ _ _ _ => trivial)⟩⟩ rfl rfl hl.1 rfl (lv_room (Nat.le_of_ble_eq_true rfl)) dX4_readCondition_82 ⟨Nat.le_of_ble_eq_true rfl, Nat.le_of_ble_eq_true rfl⟩) hS (fun q _ h => hFc q h) hFc (fun r_3 x_4 t H1 locs ht hvm hw hB hz1 hk1 hS => ?_)
        obtain ⟨hP1, hK1, hD1⟩ := hB
        rw [ht] at hP1
        obtain ⟨hP, hD⟩ := cl_put (w1 := (wd_c_X9_take_1 h1 h1_0 h1_f1 x_4 j79_h1_f3 h1_0 h1_0k h1_0c)) (nw := (wd_c_X4_readCondition_6 h1 h1_0 h1_f1 x_4 j79_h1_f3 h1_0 h1_0k h1_0c h0 h0_0 j79_h0_f1 h0_2 h0_0 h0_0k j79_h0_0c)) hP hD [0, 1] [4, 5, 2, 3] 4 rfl hqc (by decide +kernel) rfl hk1 hFc hP1 hD1
        generalize H1 = H at hP hS ⊢
        as_aux_lemma =>
        rcases hw with ⟨h_5, h_6, h_7⟩ | ⟨h_8, h_9, h_10, h_11, h_12⟩
        · rw [h_5]
          refine lv_istore (lv' := [(5, .int 0), (4, .int 0), (6, .int j9_l6), (0, .ref h0), (1, .ref h1), (2, .int 6), (3, .int 0)]) hx hb dX4_readCondition_85 hl (Nat.le_of_ble_eq_true rfl) rfl (fun ls hl => ?_)
          refine lv_iload hx hb dX4_readCondition_87 (lv_at hl 0 rfl) ?_
          refine lv_if_ne (tgt := 93) hx hb dX4_readCondition_89 rfl (fun c_13 => absurd c_13 (by decide +kernel)) (fun c_13 => ?_)
          have hK9 := hK.sub (tys' := []) [] rfl
          exact W.vret hx hb hr (fun t ht hW => ⟨⟨(x_4, j79_h1_f3, j79_h0_f1, j79_h0_0c), rfl, ⟨h_6, g_j79_h1_f3, g_j79_h0_f1⟩, by rw [ht]; exact hP, va_K.moved hW.alike hK9, hD⟩, hS.F ht⟩) hS.2.2 dX4_readCondition_92
        · rw [h_8]
          refine lv_istore (lv' := [(5, .int 1), (4, .int 0), (6, .int j9_l6), (0, .ref h0), (1, .ref h1), (2, .int 6), (3, .int 0)]) hx hb dX4_readCondition_85 hl (Nat.le_of_ble_eq_true rfl) rfl (fun ls hl => ?_)
          refine lv_iload hx hb dX4_readCondition_87 (lv_at hl 0 rfl) ?_
          refine lv_if_ne (tgt := 93) hx hb dX4_readCondition_89 rfl (fun c_14 => ?_) (fun c_14 => absurd c_14 (by decide +kernel))
          exact hU _ _ _ (J93 0 1 x_4 j79_h1_f3 j79_h0_f1 j79_h0_0c g_h0_f1 h_10 g_h1_f2 g_h1_f3 g_j79_h0_f1 h_9 h_11 (RG_w (RG_k 0 0 rfl) (by decide +kernel)) (RG_w (RG_k 1 1 rfl) (by decide +kernel)) g_j9_h0_f1 g_j9_h1_f2 g_j9_h1_f3 g_j9_l4 g_j9_l5 g_j9_l6 _ _ _ hP hD hS (lv_sub hl [1, 2, 0, 3, 4, 5, 6] rfl))
      have J55 : ∀ (j55_h1_f2 : Int32) (j55_h1_f3 : Int32) (j55_h0_f1 : Int32) (j55_h0_0c : Nat → Int32) (g_h0_f1 : RG h0_f1 0 240) (g_h1_f1 : RG h1_f1 0 240) (g_h1_f2 : RG h1_f2 0 240) (g_h1_f3 : RG h1_f3 (-1) 240) (g_j55_h0_f1 : RG j55_h0_f1 0 240) (g_j55_h1_f2 : RG j55_h1_f2 0 240) (g_j55_h1_f3 : RG j55_h1_f3 (-1) 240) (g_j9_h0_f1 : RG j9_h0_f1 0 240) (g_j9_h1_f2 : RG j9_h1_f2 0 240) (g_j9_h1_f3 : RG j9_h1_f3 (-1) (-1)) (g_j9_l4 : RG j9_l4 0 1) (g_j9_l5 : RG j9_l5 0 1) (g_j9_l6 : RG j9_l6 0 239) (H : Heap) (locs : List Loc) (ls : Array Slot) (hP : va_P (dC, dI) vwCl (wd_c_X4_readCondition_6 h1 h1_0 h1_f1 j55_h1_f2 j55_h1_f3 h1_0 h1_0k h1_0c h0 h0_0 j55_h0_f1 h0_2 h0_0 h0_0k j55_h0_0c) H) (hD : va_D A (wd_c_X4_readCondition_6 h1 h1_0 h1_f1 j55_h1_f2 j55_h1_f3 h1_0 h1_0k h1_0c h0 h0_0 j55_h0_f1 h0_2 h0_0 h0_0k j55_h0_0c)) (hS : va_S A s.heap H locs) (hl : lv_has ls 7 [(6, .int j9_l6), (5, .int j9_l5), (0, .ref h0), (1, .ref h1), (2, .int 6), (3, .int 0)]), G H locs (F0 m 55 ls []) := by
        as_aux_lemma =>
        intro j55_h1_f2 j55_h1_f3 j55_h0_f1 j55_h0_0c g_h0_f1 g_h1_f1 g_h1_f2 g_h1_f3 g_j55_h0_f1 g_j55_h1_f2 g_j55_h1_f3 g_j9_h0_f1 g_j9_h1_f2 g_j9_h1_f3 g_j9_l4 g_j9_l5 g_j9_l6 H locs ls hP hD hS hl
        refine hG _ _ _ ?_
        refine lv_aload_n hx hb dX4_readCondition_55 rfl (lv_at hl 3 rfl) ?_
        refine lv_bipush (v := 38) hx hb dX4_readCondition_56 kc_bipush_38 ?_
        obtain ⟨hPc, hDc, hFc, hqc⟩ := cl_cut (wc := (wd_c_X9_take h1 h1_0 h1_f1 j55_h1_f2 j55_h1_f3 h1_0 h1_0k h1_0c)) hP hD hS hA [0, 1] (by decide +kernel) rfl
        have hKc := hK.sub (tys' := [(h1_0k, .int)]) [0] rfl
        have hrv := va_recv hKc hPc (ci := 9) (q0 := 0) rfl rfl
        refine va_calli (va_runV (As := [.int 38]) (rest := []) ⟨hx, hb, hml, hown, hts⟩ (c_X9_take l dC dI H.size h1 38 h1_0 h1_f1 j55_h1_f2 j55_h1_f3 h1_0k h1_0c (RG_w (RG_k 38 38 rfl) (by decide +kernel)) g_h1_f1 g_j55_h1_f2 g_j55_h1_f3 a_h1_0c) (cwV 1 hts gf_c_X4_readCondition_6_c_X9_take rfl rfl rfl mdV_X9_take ⟨Nat.le_of_ble_eq_true rfl, Nat.le_of_ble_eq_true rfl⟩) ⟨fun a U g mk q => by obtain ⟨q0, q1, qP, qK, qD⟩ := q; exact ⟨q0, q1, qP, va_K.moved (u := U) (U := U.calling g mk a) (Vm.Alike.refl U.vm) qK, qD⟩, hrv, fun U hU hW => ⟨rfl, by rw [hU], by rw [hU]; exact hPc, va_K.moved hW.alike hKc, hDc.weaken (fun _ _ _ _ => trivial)⟩⟩ rfl rfl hl.1 rfl (lv_room (Nat.le_of_ble_eq_true rfl)) dX4_readCondition_58 ⟨Nat.le_of_ble_eq_true rfl, Nat.le_of_ble_eq_true rfl⟩) hS (fun q _ h => hFc q h) hFc (fun r_15 x_16 t H1 locs ht hvm hw hB hz1 hk1 hS => ?_)
        obtain ⟨hP1, hK1, hD1⟩ := hB
        rw [ht] at hP1
        obtain ⟨hP, hD⟩ := cl_put (w1 := (wd_c_X9_take h1 h1_0 h1_f1 x_16 j55_h1_f3 h1_0 h1_0k h1_0c)) (nw := (wd_c_X4_readCondition_6 h1 h1_0 h1_f1 x_16 j55_h1_f3 h1_0 h1_0k h1_0c h0 h0_0 j55_h0_f1 h0_2 h0_0 h0_0k j55_h0_0c)) hP hD [0, 1] [4, 5, 2, 3] 4 rfl hqc (by decide +kernel) rfl hk1 hFc hP1 hD1
        generalize H1 = H at hP hS ⊢
        as_aux_lemma =>
        rcases hw with ⟨h_17, h_18, h_19⟩ | ⟨h_20, h_21, h_22, h_23, h_24⟩
        · rw [h_17]
          refine lv_istore (lv' := [(4, .int 0), (6, .int j9_l6), (5, .int j9_l5), (0, .ref h0), (1, .ref h1), (2, .int 6), (3, .int 0)]) hx hb dX4_readCondition_61 hl (Nat.le_of_ble_eq_true rfl) rfl (fun ls hl => ?_)
          refine lv_iload hx hb dX4_readCondition_63 (lv_at hl 0 rfl) ?_
          refine lv_if_ne (tgt := 93) hx hb dX4_readCondition_65 rfl (fun c_25 => absurd c_25 (by decide +kernel)) (fun c_25 => ?_)
          refine lv_iload hx hb dX4_readCondition_68 (lv_at hl 2 rfl) ?_
          refine lv_if_eq (tgt := 79) hx hb dX4_readCondition_70 rfl (fun c_26 => ?_) (fun c_26 => ?_)
          · have g_27 : RG j9_l5 0 0 := RG_eq1 g_j9_l5 (RG_k 0 0 rfl) c_26 (by decide +kernel)
            exact hU _ _ _ (J79 x_16 j55_h1_f3 j55_h0_f1 j55_h0_0c g_h0_f1 g_h1_f1 g_h1_f2 g_h1_f3 g_j55_h0_f1 h_18 g_j55_h1_f3 g_j9_h0_f1 g_j9_h1_f2 g_j9_h1_f3 g_j9_l4 (RG_w g_27 (by decide +kernel)) g_j9_l6 _ _ _ hP hD hS (lv_sub hl [0, 1, 3, 4, 5, 6] rfl))
          · have g_28 : RG j9_l5 1 1 := RG_ne1 g_j9_l5 (q := 0) rfl c_26 (by decide +kernel)
            refine lv_aload_n hx hb dX4_readCondition_73 rfl (lv_at hl 3 rfl) ?_
            refine lv_bipush (v := (-124)) hx hb dX4_readCondition_74 kc_bipush_m124 ?_
            obtain ⟨hPc, hDc, hFc, hqc⟩ := cl_cut (wc := (wd_c_X4_emit h0 h0_0 j55_h0_f1 h0_2 h0_0 h0_0k j55_h0_0c)) hP hD hS hA [2, 3] (by decide +kernel) rfl
            have hKc := hK.sub (tys' := [(h0_0k, .int)]) [1] rfl
            have hrv := va_recv hKc hPc (ci := 4) (q0 := 0) rfl rfl
            refine va_callv (va_runV (As := [.int (-124)]) (rest := []) ⟨hx, hb, hml, hown, hts⟩ (c_X4_emit l dC dI H.size h0 (-124) h0_0 j55_h0_f1 h0_2 h0_0k j55_h0_0c g_j55_h0_f1) (cwV 1 hts gf_c_X4_readCondition_6_c_X4_emit rfl rfl rfl mdV_X4_emit ⟨Nat.le_of_ble_eq_true rfl, Nat.le_of_ble_eq_true rfl⟩) ⟨fun a U g mk q => by obtain ⟨q0, q1, qP, qK, qD⟩ := q; exact ⟨q0, q1, qP, va_K.moved (u := U) (U := U.calling g mk a) (Vm.Alike.refl U.vm) qK, qD⟩, hrv, fun U hU hW => ⟨rfl, by rw [hU], by rw [hU]; exact hPc, va_K.moved hW.alike hKc, hDc.weaken (fun _ _ _ _ => trivial)⟩⟩ rfl rfl hl.1 rfl (lv_room (Nat.le_of_ble_eq_true rfl)) dX4_readCondition_76 ⟨Nat.le_of_ble_eq_true rfl, Nat.le_of_ble_eq_true rfl⟩) hS (fun q _ h => hFc q h) hFc (fun u t H1 locs ht hvm hw hB hz1 hk1 hS => ?_)
            as_aux_lemma =>
            obtain ⟨x_30, w_31⟩ := u
            obtain ⟨hP1, hK1, hD1⟩ := hB
            rw [ht] at hP1
            obtain ⟨hP, hD⟩ := cl_put (w1 := (wd_c_X4_emit h0 h0_0 x_30 h0_2 h0_0 h0_0k w_31)) (nw := (wd_c_X4_readCondition_6 h1 h1_0 h1_f1 x_16 j55_h1_f3 h1_0 h1_0k h1_0c h0 h0_0 x_30 h0_2 h0_0 h0_0k w_31)) hP hD [2, 3] [0, 1, 4, 5] 4 rfl hqc (by decide +kernel) rfl hk1 hFc hP1 hD1
            generalize H1 = H at hP hS ⊢
            as_aux_lemma =>
            have h_32 := hw
            exact hU _ _ _ (J79 x_16 j55_h1_f3 x_30 w_31 g_h0_f1 g_h1_f1 g_h1_f2 g_h1_f3 (RG_w h_32 (by decide +kernel)) h_18 g_j55_h1_f3 g_j9_h0_f1 g_j9_h1_f2 g_j9_h1_f3 g_j9_l4 (RG_w g_28 (by decide +kernel)) g_j9_l6 _ _ _ hP hD hS (lv_sub hl [0, 1, 3, 4, 5, 6] rfl))
        · rw [h_20]
          refine lv_istore (lv' := [(4, .int 1), (6, .int j9_l6), (5, .int j9_l5), (0, .ref h0), (1, .ref h1), (2, .int 6), (3, .int 0)]) hx hb dX4_readCondition_61 hl (Nat.le_of_ble_eq_true rfl) rfl (fun ls hl => ?_)
          refine lv_iload hx hb dX4_readCondition_63 (lv_at hl 0 rfl) ?_
          refine lv_if_ne (tgt := 93) hx hb dX4_readCondition_65 rfl (fun c_33 => ?_) (fun c_33 => absurd c_33 (by decide +kernel))
          exact hU _ _ _ (J93 1 j9_l5 x_16 j55_h1_f3 j55_h0_f1 j55_h0_0c g_h0_f1 h_22 g_h1_f2 g_h1_f3 g_j55_h0_f1 h_21 h_23 (RG_w (RG_k 1 1 rfl) (by decide +kernel)) g_j9_l5 g_j9_h0_f1 g_j9_h1_f2 g_j9_h1_f3 g_j9_l4 g_j9_l5 g_j9_l6 _ _ _ hP hD hS (lv_sub hl [0, 1, 2, 3, 4, 5, 6] rfl))
      have J41 : ∀ (g_h0_f1 : RG h0_f1 0 240) (g_h1_f1 : RG h1_f1 0 240) (g_h1_f2 : RG h1_f2 0 240) (g_h1_f3 : RG h1_f3 (-1) 240) (g_j9_h0_f1 : RG j9_h0_f1 0 240) (g_j9_h1_f2 : RG j9_h1_f2 0 240) (g_j9_h1_f3 : RG j9_h1_f3 (-1) (-1)) (g_j9_l4 : RG j9_l4 0 1) (g_j9_l5 : RG j9_l5 0 1) (g_j9_l6 : RG j9_l6 0 239) (H : Heap) (locs : List Loc) (ls : Array Slot) (hP : va_P (dC, dI) vwCl (wd_c_X4_readCondition_6 h1 h1_0 h1_f1 j9_h1_f2 j9_h1_f3 h1_0 h1_0k h1_0c h0 h0_0 j9_h0_f1 h0_2 h0_0 h0_0k j9_h0_0c) H) (hD : va_D A (wd_c_X4_readCondition_6 h1 h1_0 h1_f1 j9_h1_f2 j9_h1_f3 h1_0 h1_0k h1_0c h0 h0_0 j9_h0_f1 h0_2 h0_0 h0_0k j9_h0_0c)) (hS : va_S A s.heap H locs) (hl : lv_has ls 7 [(6, .int j9_l6), (5, .int j9_l5), (4, .int j9_l4), (0, .ref h0), (1, .ref h1), (2, .int 6), (3, .int 0)]), G H locs (F0 m 41 ls [.int 0, .int 6, .ref h1, .ref h0]) := by
        as_aux_lemma =>
        intro g_h0_f1 g_h1_f1 g_h1_f2 g_h1_f3 g_j9_h0_f1 g_j9_h1_f2 g_j9_h1_f3 g_j9_l4 g_j9_l5 g_j9_l6 H locs ls hP hD hS hl
        refine hG _ _ _ ?_
        obtain ⟨hPc, hDc, hFc, hqc⟩ := cl_cut (wc := (wd_c_X4_readUnit_7 h1 h1_0 h1_f1 j9_h1_f2 j9_h1_f3 h1_0 h1_0k h1_0c h0 h0_0 j9_h0_f1 h0_2 h0_0 h0_0k j9_h0_0c)) hP hD hS hA [0, 1, 2, 3] (by decide +kernel) rfl
        have hKc := hK.sub (tys' := [(h1_0k, .int), (h0_0k, .int)]) [0, 1] rfl
        have hrv := va_recv hKc hPc (ci := 4) (q0 := 2) rfl rfl
        refine va_callv (va_runV (As := [.ref h1, .int 6, .int 0]) (rest := []) ⟨hx, hb, hml, hown, hts⟩ (c_X4_readUnit_7 l dC dI H.size h0 h1 h1_0 h1_f1 j9_h1_f2 j9_h1_f3 h1_0k h1_0c h0_0 j9_h0_f1 h0_2 h0_0k j9_h0_0c ts4 tv4 g_h1_f1 g_j9_h1_f2 (RG_w g_j9_h1_f3 (by decide +kernel)) a_h1_0c g_j9_h0_f1) (cwV 3 hts gf_c_X4_readCondition_6_c_X4_readUnit_7 rfl rfl rfl mdV_X4_readUnit ⟨Nat.le_of_ble_eq_true rfl, Nat.le_of_ble_eq_true rfl⟩) ⟨fun a U g mk q => by obtain ⟨q0, q1, qP, qK, qD, qE0, qE1, qE2, qE3, qE4, qE5⟩ := q; exact ⟨q0, q1, qP, va_K.moved (u := U) (U := U.calling g mk a) (Vm.Alike.refl U.vm) qK, qD, vk_R.same rfl qE0, va_Z.moved (u := U) (U := U.calling g mk a) (Vm.Alike.refl U.vm) qE1, va_OF.moved (u := U) (U := U.calling g mk a) (Vm.Alike.refl U.vm) qE2, va_O.moved (u := U) (U := U.calling g mk a) (Vm.Alike.refl U.vm) qE3, va_OF.moved (u := U) (U := U.calling g mk a) (Vm.Alike.refl U.vm) qE4, va_T.moved (u := U) (U := U.calling g mk a) (Vm.Alike.refl U.vm) qE5⟩, hrv, fun U hU hW => ⟨rfl, by rw [hU], by rw [hU]; exact hPc, va_K.moved hW.alike hKc, hDc.weaken (fun _ _ _ _ => trivial), vk_R.warm hW hE_32, va_Z.moved hW.alike (by rw [hU]; exact (hE_10.kept hS.2.1).narrow hFc), va_OF.moved hW.alike (by rw [hU]; exact (hE_34.kept hS.2.1).narrow hFc), va_O.moved hW.alike (by rw [hU]; exact (hE_33.kept hS.2.1).narrow hFc), va_OF.moved hW.alike (by rw [hU]; exact (hE_35.kept hS.2.1).narrow hFc), va_T.moved hW.alike (by rw [hU]; exact (hE_36.kept hS.2.1).narrow hFc)⟩⟩ rfl rfl hl.1 rfl (lv_room (Nat.le_of_ble_eq_true rfl)) dX4_readCondition_41 ⟨Nat.le_of_ble_eq_true rfl, Nat.le_of_ble_eq_true rfl⟩) hS (fun q _ h => hFc q h) hFc (fun u t H1 locs ht hvm hw hB hz1 hk1 hS => ?_)
        obtain ⟨x_35, x_36, x_37, w_38⟩ := u
        obtain ⟨hP1, hK1, hD1⟩ := hB
        rw [ht] at hP1
        obtain ⟨hP, hD⟩ := cl_put (w1 := (wd_c_X4_readUnit_7 h1 h1_0 h1_f1 x_35 x_36 h1_0 h1_0k h1_0c h0 h0_0 x_37 h0_2 h0_0 h0_0k w_38)) (nw := (wd_c_X4_readCondition_6 h1 h1_0 h1_f1 x_35 x_36 h1_0 h1_0k h1_0c h0 h0_0 x_37 h0_2 h0_0 h0_0k w_38)) hP hD [0, 1, 2, 3] [4, 5, 6, 7] 4 rfl hqc (by decide +kernel) rfl hk1 hFc hP1 hD1
        generalize H1 = H at hP hS ⊢
        as_aux_lemma =>
        rcases hw with ⟨h_39, h_40, h_41⟩
        refine lv_iload hx hb dX4_readCondition_44 (lv_at hl 2 rfl) ?_
        refine lv_if_eq (tgt := 55) hx hb dX4_readCondition_46 rfl (fun c_42 => ?_) (fun c_42 => ?_)
        · have g_43 : RG j9_l4 0 0 := RG_eq1 g_j9_l4 (RG_k 0 0 rfl) c_42 (by decide +kernel)
          exact hU _ _ _ (J55 x_35 x_36 x_37 w_38 g_h0_f1 g_h1_f1 g_h1_f2 g_h1_f3 h_41 h_39 h_40 g_j9_h0_f1 g_j9_h1_f2 g_j9_h1_f3 (RG_w g_43 (by decide +kernel)) g_j9_l5 g_j9_l6 _ _ _ hP hD hS (lv_sub hl [0, 1, 3, 4, 5, 6] rfl))
        · have g_44 : RG j9_l4 1 1 := RG_ne1 g_j9_l4 (q := 0) rfl c_42 (by decide +kernel)
          refine lv_aload_n hx hb dX4_readCondition_49 rfl (lv_at hl 3 rfl) ?_
          refine lv_bipush (v := (-38)) hx hb dX4_readCondition_50 kc_bipush_m38 ?_
          obtain ⟨hPc, hDc, hFc, hqc⟩ := cl_cut (wc := (wd_c_X4_emit h0 h0_0 x_37 h0_2 h0_0 h0_0k w_38)) hP hD hS hA [2, 3] (by decide +kernel) rfl
          have hKc := hK.sub (tys' := [(h0_0k, .int)]) [1] rfl
          have hrv := va_recv hKc hPc (ci := 4) (q0 := 0) rfl rfl
          refine va_callv (va_runV (As := [.int (-38)]) (rest := []) ⟨hx, hb, hml, hown, hts⟩ (c_X4_emit l dC dI H.size h0 (-38) h0_0 x_37 h0_2 h0_0k w_38 h_41) (cwV 1 hts gf_c_X4_readCondition_6_c_X4_emit rfl rfl rfl mdV_X4_emit ⟨Nat.le_of_ble_eq_true rfl, Nat.le_of_ble_eq_true rfl⟩) ⟨fun a U g mk q => by obtain ⟨q0, q1, qP, qK, qD⟩ := q; exact ⟨q0, q1, qP, va_K.moved (u := U) (U := U.calling g mk a) (Vm.Alike.refl U.vm) qK, qD⟩, hrv, fun U hU hW => ⟨rfl, by rw [hU], by rw [hU]; exact hPc, va_K.moved hW.alike hKc, hDc.weaken (fun _ _ _ _ => trivial)⟩⟩ rfl rfl hl.1 rfl (lv_room (Nat.le_of_ble_eq_true rfl)) dX4_readCondition_52 ⟨Nat.le_of_ble_eq_true rfl, Nat.le_of_ble_eq_true rfl⟩) hS (fun q _ h => hFc q h) hFc (fun u t H1 locs ht hvm hw hB hz1 hk1 hS => ?_)
          obtain ⟨x_46, w_47⟩ := u
          obtain ⟨hP1, hK1, hD1⟩ := hB
          rw [ht] at hP1
          obtain ⟨hP, hD⟩ := cl_put (w1 := (wd_c_X4_emit h0 h0_0 x_46 h0_2 h0_0 h0_0k w_47)) (nw := (wd_c_X4_readCondition_6 h1 h1_0 h1_f1 x_35 x_36 h1_0 h1_0k h1_0c h0 h0_0 x_46 h0_2 h0_0 h0_0k w_47)) hP hD [2, 3] [0, 1, 4, 5] 4 rfl hqc (by decide +kernel) rfl hk1 hFc hP1 hD1
          generalize H1 = H at hP hS ⊢
          as_aux_lemma =>
          have h_48 := hw
          exact hU _ _ _ (J55 x_35 x_36 x_46 w_47 g_h0_f1 g_h1_f1 g_h1_f2 g_h1_f3 (RG_w h_48 (by decide +kernel)) h_39 h_40 g_j9_h0_f1 g_j9_h1_f2 g_j9_h1_f3 (RG_w g_44 (by decide +kernel)) g_j9_l5 g_j9_l6 _ _ _ hP hD hS (lv_sub hl [0, 1, 3, 4, 5, 6] rfl))
      have J40 : ∀ (g_h0_f1 : RG h0_f1 0 240) (g_h1_f1 : RG h1_f1 0 240) (g_h1_f2 : RG h1_f2 0 240) (g_h1_f3 : RG h1_f3 (-1) 240) (g_j9_h0_f1 : RG j9_h0_f1 0 240) (g_j9_h1_f2 : RG j9_h1_f2 0 240) (g_j9_h1_f3 : RG j9_h1_f3 (-1) (-1)) (g_j9_l4 : RG j9_l4 0 1) (g_j9_l5 : RG j9_l5 0 1) (g_j9_l6 : RG j9_l6 0 239) (H : Heap) (locs : List Loc) (ls : Array Slot) (hP : va_P (dC, dI) vwCl (wd_c_X4_readCondition_6 h1 h1_0 h1_f1 j9_h1_f2 j9_h1_f3 h1_0 h1_0k h1_0c h0 h0_0 j9_h0_f1 h0_2 h0_0 h0_0k j9_h0_0c) H) (hD : va_D A (wd_c_X4_readCondition_6 h1 h1_0 h1_f1 j9_h1_f2 j9_h1_f3 h1_0 h1_0k h1_0c h0 h0_0 j9_h0_f1 h0_2 h0_0 h0_0k j9_h0_0c)) (hS : va_S A s.heap H locs) (hl : lv_has ls 7 [(6, .int j9_l6), (5, .int j9_l5), (4, .int j9_l4), (0, .ref h0), (1, .ref h1), (2, .int 6), (3, .int 0)]), G H locs (F0 m 40 ls [.int 6, .ref h1, .ref h0]) := by
        as_aux_lemma =>
        intro g_h0_f1 g_h1_f1 g_h1_f2 g_h1_f3 g_j9_h0_f1 g_j9_h1_f2 g_j9_h1_f3 g_j9_l4 g_j9_l5 g_j9_l6 H locs ls hP hD hS hl
        refine hG _ _ _ ?_
        refine lv_iconst (v := 0) hx hb dX4_readCondition_40 kc_iconst_0 ?_
        exact hU _ _ _ (J41 g_h0_f1 g_h1_f1 g_h1_f2 g_h1_f3 g_j9_h0_f1 g_j9_h1_f2 g_j9_h1_f3 g_j9_l4 g_j9_l5 g_j9_l6 _ _ _ hP hD hS (lv_sub hl [0, 1, 2, 3, 4, 5, 6] rfl))
      refine hG _ _ _ ?_
      refine lv_iload hx hb dX4_readCondition_9 (lv_at hl 0 rfl) ?_
      refine lv_sipush (v := 240) hx hb dX4_readCondition_11 kc_sipush_240 ?_
      refine lv_icmp_ge (tgt := 99) hx hb dX4_readCondition_14 rfl (fun c_49 => ?_) (fun c_49 => ?_)
      · have g_50 : RG j9_l6 240 240 := RG_le2 (RG_k 240 240 rfl) g_j9_l6 c_49 (by decide +kernel)
        have hK9 := hK.sub (tys' := []) [] rfl
        exact W.vret hx hb hr (fun t ht hW => ⟨⟨(j9_h1_f2, j9_h1_f3, j9_h0_f1, j9_h0_0c), rfl, ⟨g_j9_h1_f2, g_j9_h1_f3, g_j9_h0_f1⟩, by rw [ht]; exact hP, va_K.moved hW.alike hK9, hD⟩, hS.F ht⟩) hS.2.2 dX4_readCondition_99
      · have d_51 := Int32.not_le.mp c_49
        have g_52 : RG j9_l6 0 239 := RG_lt1 g_j9_l6 (RG_k 240 240 rfl) d_51 (by decide +kernel)
        refine lv_aload_n hx hb dX4_readCondition_17 rfl (lv_at hl 4 rfl) ?_
        as_aux_lemma =>
        obtain ⟨hPc, hDc, hFc, hqc⟩ := cl_cut (wc := (wd_c_X9_isRight h1 h1_0 h1_f1 j9_h1_f2 j9_h1_f3)) hP hD hS hA [0] (by decide +kernel) rfl
        have hKc := hK.sub (tys' := []) [] rfl
        have hrv := va_recv hKc hPc (ci := 9) (q0 := 0) rfl rfl
        refine va_calli (va_runV (As := []) (rest := []) ⟨hx, hb, hml, hown, hts⟩ (c_X9_isRight l dC dI H.size h1 h1_0 h1_f1 j9_h1_f2 j9_h1_f3 g_h1_f1 g_j9_h1_f2 g_j9_h1_f3) (cwV 0 hts gf_c_X4_readCondition_6_c_X9_isRight rfl rfl rfl mdV_X9_isRight ⟨Nat.le_of_ble_eq_true rfl, Nat.le_of_ble_eq_true rfl⟩) ⟨fun a U g mk q => by obtain ⟨q0, q1, qP, qK, qD⟩ := q; exact ⟨q0, q1, qP, va_K.moved (u := U) (U := U.calling g mk a) (Vm.Alike.refl U.vm) qK, qD⟩, hrv, fun U hU hW => ⟨rfl, by rw [hU], by rw [hU]; exact hPc, va_K.moved hW.alike hKc, hDc.weaken (fun _ _ _ _ => trivial)⟩⟩ rfl rfl hl.1 rfl (lv_room (Nat.le_of_ble_eq_true rfl)) dX4_readCondition_18 ⟨Nat.le_of_ble_eq_true rfl, Nat.le_of_ble_eq_true rfl⟩) hS (fun q _ h => hFc q h) hFc (fun r_53 u t H1 locs ht hvm hw hB hz1 hk1 hS => ?_)
        obtain ⟨hP1, hK1, hD1⟩ := hB
        rw [ht] at hP1
        obtain ⟨hP, hD⟩ := cl_put (w1 := (wd_c_X9_isRight h1 h1_0 h1_f1 j9_h1_f2 j9_h1_f3)) (nw := (wd_c_X4_readCondition_6 h1 h1_0 h1_f1 j9_h1_f2 j9_h1_f3 h1_0 h1_0k h1_0c h0 h0_0 j9_h0_f1 h0_2 h0_0 h0_0k j9_h0_0c)) hP hD [0] [4, 1, 2, 3] 4 rfl hqc (by decide +kernel) rfl hk1 hFc hP1 hD1
        generalize H1 = H at hP hS ⊢
        as_aux_lemma =>
        rcases hw with ⟨h_54, h_55⟩ | ⟨h_56, h_57⟩
        · rw [h_54]
          refine lv_if_eq (tgt := 99) hx hb dX4_readCondition_21 rfl (fun c_58 => ?_) (fun c_58 => absurd c_58 (by decide +kernel))
          have hK9 := hK.sub (tys' := []) [] rfl
          exact W.vret hx hb hr (fun t ht hW => ⟨⟨(j9_h1_f2, j9_h1_f3, j9_h0_f1, j9_h0_0c), rfl, ⟨g_j9_h1_f2, (RG_w h_55 (by decide +kernel)), g_j9_h0_f1⟩, by rw [ht]; exact hP, va_K.moved hW.alike hK9, hD⟩, hS.F ht⟩) hS.2.2 dX4_readCondition_99
        · rw [h_56]
          refine lv_if_eq (tgt := 99) hx hb dX4_readCondition_21 rfl (fun c_59 => absurd c_59 (by decide +kernel)) (fun c_59 => ?_)
          refine lv_aload_n hx hb dX4_readCondition_24 rfl (lv_at hl 3 rfl) ?_
          refine lv_aload_n hx hb dX4_readCondition_25 rfl (lv_at hl 4 rfl) ?_
          refine lv_iload_n hx hb dX4_readCondition_26 rfl (lv_at hl 5 rfl) ?_
          refine lv_iload_n hx hb dX4_readCondition_27 rfl (lv_at hl 6 rfl) ?_
          refine lv_if_eq (tgt := 40) hx hb dX4_readCondition_28 rfl (fun c_60 => ?_) (fun c_60 => absurd c_60 (by decide +kernel))
          exact hU _ _ _ (J40 g_h0_f1 g_h1_f1 g_h1_f2 g_h1_f3 g_j9_h0_f1 g_j9_h1_f2 h_57 g_j9_l4 g_j9_l5 g_52 _ _ _ hP hD hS (lv_sub hl [0, 1, 2, 3, 4, 5, 6] rfl))
  refine hG _ _ _ ?_
  as_aux_lemma =>
  refine lv_iconst (v := 0) hx hb dX4_readCondition_0 kc_iconst_0 ?_
  refine lv_istore (lv' := [(4, .int 0), (0, .ref h0), (1, .ref h1), (2, .int 6), (3, .int 0)]) hx hb dX4_readCondition_1 hl (Nat.le_of_ble_eq_true rfl) rfl (fun ls hl => ?_)
  refine lv_iconst (v := 0) hx hb dX4_readCondition_3 kc_iconst_0 ?_
  refine lv_istore (lv' := [(5, .int 0), (4, .int 0), (0, .ref h0), (1, .ref h1), (2, .int 6), (3, .int 0)]) hx hb dX4_readCondition_4 hl (Nat.le_of_ble_eq_true rfl) rfl (fun ls hl => ?_)
  refine lv_iconst (v := 0) hx hb dX4_readCondition_6 kc_iconst_0 ?_
  refine lv_istore (lv' := [(6, .int 0), (5, .int 0), (4, .int 0), (0, .ref h0), (1, .ref h1), (2, .int 6), (3, .int 0)]) hx hb dX4_readCondition_7 hl (Nat.le_of_ble_eq_true rfl) rfl (fun ls hl => ?_)
  exact hU _ _ _ (J9 _ 0 0 0 h1_f2 h1_f3 h0_f1 h0_0c (Nat.lt_succ_self _) g_h0_f1 g_h1_f1 g_h1_f2 g_h1_f3 g_h0_f1 g_h1_f2 g_h1_f3 (RG_w (RG_k 0 0 rfl) (by decide +kernel)) (RG_w (RG_k 0 0 rfl) (by decide +kernel)) (RG_w (RG_k 0 0 rfl) (by decide +kernel)) _ _ _ hP hD hS (lv_sub hl [0, 1, 2, 3, 4, 5, 6] rfl))
noncomputable def wd_c_X4_readUnit_6 (a0 : Nat) (a1 : Nat) (a2 : Int32) (a3 : Int32) (a4 : Int32) (a5 : Nat) (a6 : ClassId) (a7 : Nat → Int32) (a8 : Nat) (a9 : Nat) (a10 : Int32) (a11 : Nat) (a12 : Nat) (a13 : ClassId) (a14 : Nat → Int32) : va_W := [(a0, .inr (9, [.ref a1, .int a2, .int a3, .int a4])), (a5, .inl (a6, 240, .inl a7)), (a8, .inr (4, [.ref a9, .int a10, .ref a11])), (a12, .inl (a13, 240, .inl a14))]
noncomputable def wf_c_X4_readUnit_6 : List Cond := List.cons (.code yX4_readUnit cX4_readUnit 5 none) (@HAppend.hAppend (List Cond) (List Cond) (List Cond) _ (@HAppend.hAppend (List Cond) (List Cond) (List Cond) _ [.methodLink RX4 41 yX9_peek, .instanceMethod yX9_peek, .selects RX9 yX9_peek yX9_peek, .initialized RX9, .code yX9_peek cX9_peek 1 (some .int), .fieldLink RX9 22 "BuoyVote$Tape" "at" "I", .fieldLink RX9 19 "BuoyVote$Tape" "length" "I", .fieldLink RX9 11 "BuoyVote$Tape" "bytes" "[I", .methodLink RX4 45 yX4_startsUnit, .static yX4_startsUnit, .initialized RX4, .code yX4_startsUnit cX4_startsUnit 1 (some .boolean), .methodLink RX4 63 yX9_take, .instanceMethod yX9_take, .selects RX9 yX9_take yX9_take, .code yX9_take cX9_take 2 (some .boolean), .fieldLink RX9 15 "BuoyVote$Tape" "wrong" "I", .methodLink RX9 29 yX9_peek, .methodLink RX4 37 yX9_expect, .instanceMethod yX9_expect, .selects RX9 yX9_expect yX9_expect, .code yX9_expect cX9_expect 2 none, .methodLink RX9 25 yX9_refuse, .instanceMethod yX9_refuse, .selects RX9 yX9_refuse yX9_refuse, .code yX9_refuse cX9_refuse 2 none, .methodLink RX4 56 yX4_readCondition, .instanceMethod yX4_readCondition, .selects RX4 yX4_readCondition yX4_readCondition, .code yX4_readCondition cX4_readCondition 7 none, .methodLink RX4 72 yX9_isRight, .instanceMethod yX9_isRight, .selects RX9 yX9_isRight yX9_isRight, .code yX9_isRight cX9_isRight 1 (some .boolean), .methodLink RX4 76 yX4_readUnit, .instanceMethod yX4_readUnit, .selects RX4 yX4_readUnit yX4_readUnit, .methodLink RX4 82 yX9_refuseHere, .instanceMethod yX9_refuseHere, .selects RX9 yX9_refuseHere yX9_refuseHere, .code yX9_refuseHere cX9_refuseHere 1 none, .methodLink RX4 49 yX4_readSum, .instanceMethod yX4_readSum, .selects RX4 yX4_readSum yX4_readSum, .code yX4_readSum cX4_readSum 6 none, .methodLink RX4 85 yX4_readAtom, .instanceMethod yX4_readAtom, .selects RX4 yX4_readAtom yX4_readAtom, .code yX4_readAtom cX4_readAtom 6 none, .methodLink RX4 93 yJ0_indexOf_0f7a4, .instanceMethod yJ0_indexOf_0f7a4, .selects RJ0 yJ0_indexOf_0f7a4 yJ0_indexOf_0f7a4, .initialized RJ0, .code yJ0_indexOf_0f7a4 cJ0_indexOf_0f7a4 2 (some .int), .methodLink RJ0 633 yJ0_indexOf_7cf53, .instanceMethod yJ0_indexOf_7cf53, .selects RJ0 yJ0_indexOf_7cf53 yJ0_indexOf_7cf53, .code yJ0_indexOf_7cf53 cJ0_indexOf_7cf53 3 (some .int), .methodLink RJ0 492 yJ0_isLatin1_aae02, .instanceMethod yJ0_isLatin1_aae02, .selects RJ0 yJ0_isLatin1_aae02 yJ0_isLatin1_aae02, .code yJ0_isLatin1_aae02 cJ0_isLatin1_aae02 1 (some .boolean), .fieldLink RJ0 38 "java/lang/String" "COMPACT_STRINGS" "Z", .fieldLink RJ0 15 "java/lang/String" "coder" "B", .fieldLink RJ0 9 "java/lang/String" "value" "[B", .methodLink RJ0 505 yJ0_length_8abf5, .instanceMethod yJ0_length_8abf5, .selects RJ0 yJ0_length_8abf5 yJ0_length_8abf5, .code yJ0_length_8abf5 cJ0_length_8abf5 1 (some .int), .methodLink RJ0 335 yJ0_coder_7d493, .instanceMethod yJ0_coder_7d493, .selects RJ0 yJ0_coder_7d493 yJ0_coder_7d493, .code yJ0_coder_7d493 cJ0_coder_7d493 1 (some .byte), .methodLink RJ0 637 yJ1_indexOf_4cfef, .static yJ1_indexOf_4cfef, .initialized RJ1, .code yJ1_indexOf_4cfef cJ1_indexOf_4cfef 4 (some .int), .methodLink RJ1 88 yJ1_canEncode_9a6ad, .static yJ1_canEncode_9a6ad, .code yJ1_canEncode_9a6ad cJ1_canEncode_9a6ad 1 (some .boolean), .methodLink RJ1 92 Lib.Math.max.name, .static Lib.Math.max.name, .initialized "java/lang/Math", .code Lib.Math.max.name Lib.Math.max.code 2 (some .int), .methodLink RJ1 38 Lib.Math.min.name, .static Lib.Math.min.name, .code Lib.Math.min.name Lib.Math.min.code 2 (some .int), .methodLink RJ1 95 yJ1_indexOfChar_4cfef, .static yJ1_indexOfChar_4cfef, .code yJ1_indexOfChar_4cfef cJ1_indexOfChar_4cfef 6 (some .int), .methodLink RX4 99 yX9_number, .instanceMethod yX9_number, .selects RX9 yX9_number yX9_number, .code yX9_number cX9_number 4 (some .int), .methodLink RX4 79 yX9_skip, .instanceMethod yX9_skip, .selects RX9 yX9_skip yX9_skip, .code yX9_skip cX9_skip 1 none, .methodLink RX4 60 yX4_emit, .instanceMethod yX4_emit, .selects RX4 yX4_emit yX4_emit, .code yX4_emit cX4_emit 2 none, .fieldLink RX4 20 "BuoyVote$Law" "length" "I", .fieldLink RX4 11 "BuoyVote$Law" "code" "[I", .methodLink RX4 88 yX9_takeEither, .instanceMethod yX9_takeEither, .selects RX9 yX9_takeEither yX9_takeEither, .code yX9_takeEither cX9_takeEither 4 (some .int), .methodLink RX4 53 yX4_isComparison, .static yX4_isComparison, .code yX4_isComparison cX4_isComparison 1 (some .boolean)] wsX90) wsX40)
theorem iw_c_X4_readUnit_6_X9 : ∀ w ∈ wsX90, w ∈ wf_c_X4_readUnit_6 := fun w h => List.mem_cons_of_mem _ (List.mem_append_left _ (List.mem_append_right _ h))
theorem iw_c_X4_readUnit_6_X4 : ∀ w ∈ wsX40, w ∈ wf_c_X4_readUnit_6 := fun w h => List.mem_cons_of_mem _ (List.mem_append_right _ h)
set_option maxRecDepth 20000 in
theorem gf_c_X4_readUnit_6_c_X9_peek : GoodIn wf_c_X4_readUnit_6 (wsV RX4 41 RX9 yX9_peek wf_c_X9_peek) := goodIn_app (gi_l [1, 2, 3, 4] rfl rfl) (gi_cons (j := 5) rfl rfl (goodIn_app (gi_l [6, 7, 8] rfl rfl) (goodIn_sub iw_c_X4_readUnit_6_X9 gw_X9)))
set_option maxRecDepth 20000 in
theorem gf_c_X4_readUnit_6_c_X4_isComparison : GoodIn wf_c_X4_readUnit_6 (va_wsS RX4 53 yX4_isComparison wf_c_X4_isComparison) := goodIn_app (gi_l [109, 110, 11] rfl rfl) (gi_cons (j := 111) rfl rfl gi_nil)
set_option maxRecDepth 20000 in
theorem gf_c_X4_readUnit_6_c_X9_refuseHere : GoodIn wf_c_X4_readUnit_6 (wsV RX4 82 RX9 yX9_refuseHere wf_c_X9_refuseHere) := goodIn_app (gi_l [38, 39, 40, 4] rfl rfl) (gi_cons (j := 41) rfl rfl (goodIn_app (gi_l [6, 23, 24, 25, 4, 26, 17] rfl rfl) (goodIn_sub iw_c_X4_readUnit_6_X9 gw_X9)))
set_option maxRecDepth 20000 in
theorem gf_c_X4_readUnit_6_c_X4_isComparison_1 : GoodIn wf_c_X4_readUnit_6 (va_wsS RX4 53 yX4_isComparison wf_c_X4_isComparison_1) := goodIn_app (gi_l [109, 110, 11] rfl rfl) (gi_cons (j := 111) rfl rfl gi_nil)
set_option maxRecDepth 20000 in
theorem gf_c_X4_readUnit_6_c_X9_skip : GoodIn wf_c_X4_readUnit_6 (wsV RX4 79 RX9 yX9_skip wf_c_X9_skip) := goodIn_app (gi_l [95, 96, 97, 4] rfl rfl) (gi_cons (j := 98) rfl rfl (goodIn_app (gi_l [6] rfl rfl) (goodIn_sub iw_c_X4_readUnit_6_X9 gw_X9)))
set_option maxRecDepth 20000 in
theorem gf_c_X4_readUnit_6_c_X4_readSum_5 : GoodIn wf_c_X4_readUnit_6 (wsV RX4 49 RX4 yX4_readSum wf_c_X4_readSum_5) := goodIn_app (gi_l [42, 43, 44, 11] rfl rfl) (gi_cons (j := 45) rfl rfl (goodIn_app (goodIn_app (gi_l [31, 32, 33, 4, 34, 17, 46, 47, 48, 11, 49, 1, 2, 3, 5, 6, 7, 8, 50, 51, 52, 53, 54, 55, 56, 57, 58, 59, 60, 61, 62, 63, 64, 65, 66, 67, 68, 69, 70, 71, 72, 73, 74, 75, 76, 77, 78, 79, 80, 81, 82, 83, 84, 85, 86, 87, 88, 89, 90, 91, 92, 93, 94, 38, 39, 40, 41, 23, 24, 25, 26, 95, 96, 97, 98, 42, 43, 44, 99, 100, 101, 102, 103, 104, 105, 106, 107, 108, 18, 19, 20, 21, 22] rfl rfl) (goodIn_sub iw_c_X4_readUnit_6_X9 gw_X9)) (goodIn_sub iw_c_X4_readUnit_6_X4 gw_X4)))
set_option maxRecDepth 20000 in
theorem gf_c_X4_readUnit_6_c_X4_emit : GoodIn wf_c_X4_readUnit_6 (wsV RX4 60 RX4 yX4_emit wf_c_X4_emit) := goodIn_app (gi_l [99, 100, 101, 11] rfl rfl) (gi_cons (j := 102) rfl rfl (goodIn_app (gi_l [103, 104] rfl rfl) (goodIn_sub iw_c_X4_readUnit_6_X4 gw_X4)))
set_option maxRecDepth 20000 in
theorem gf_c_X4_readUnit_6_c_X4_startsUnit : GoodIn wf_c_X4_readUnit_6 (va_wsS RX4 45 yX4_startsUnit wf_c_X4_startsUnit) := goodIn_app (gi_l [9, 10, 11] rfl rfl) (gi_cons (j := 12) rfl rfl gi_nil)
set_option maxRecDepth 20000 in
theorem gf_c_X4_readUnit_6_c_X4_startsUnit_1 : GoodIn wf_c_X4_readUnit_6 (va_wsS RX4 45 yX4_startsUnit wf_c_X4_startsUnit_1) := goodIn_app (gi_l [9, 10, 11] rfl rfl) (gi_cons (j := 12) rfl rfl gi_nil)
set_option maxRecDepth 20000 in
theorem gf_c_X4_readUnit_6_c_X9_take : GoodIn wf_c_X4_readUnit_6 (wsV RX4 63 RX9 yX9_take wf_c_X9_take) := goodIn_app (gi_l [13, 14, 15, 4] rfl rfl) (gi_cons (j := 16) rfl rfl (goodIn_app (gi_l [17, 18, 2, 3, 4, 5, 6, 7, 8] rfl rfl) (goodIn_sub iw_c_X4_readUnit_6_X9 gw_X9)))
set_option maxRecDepth 20000 in
theorem gf_c_X4_readUnit_6_c_X9_expect_1 : GoodIn wf_c_X4_readUnit_6 (wsV RX4 37 RX9 yX9_expect wf_c_X9_expect_1) := goodIn_app (gi_l [19, 20, 21, 4] rfl rfl) (gi_cons (j := 22) rfl rfl (goodIn_app (gi_l [17, 18, 2, 3, 4, 5, 6, 7, 8, 23, 24, 25, 26] rfl rfl) (goodIn_sub iw_c_X4_readUnit_6_X9 gw_X9)))
set_option maxRecDepth 20000 in
theorem gf_c_X4_readUnit_6_c_X4_readCondition_6 : GoodIn wf_c_X4_readUnit_6 (wsV RX4 56 RX4 yX4_readCondition wf_c_X4_readCondition_6) := goodIn_app (gi_l [27, 28, 29, 11] rfl rfl) (gi_cons (j := 30) rfl rfl (goodIn_app (goodIn_app (gi_l [31, 32, 33, 4, 34, 17, 35, 36, 37, 11, 0, 1, 2, 3, 5, 6, 7, 8, 9, 10, 12, 38, 39, 40, 41, 23, 24, 25, 26, 42, 43, 44, 45, 46, 47, 48, 49, 50, 51, 52, 53, 54, 55, 56, 57, 58, 59, 60, 61, 62, 63, 64, 65, 66, 67, 68, 69, 70, 71, 72, 73, 74, 75, 76, 77, 78, 79, 80, 81, 82, 83, 84, 85, 86, 87, 88, 89, 90, 91, 92, 93, 94, 95, 96, 97, 98, 99, 100, 101, 102, 103, 104, 105, 106, 107, 108, 18, 109, 110, 111, 13, 14, 15, 16] rfl rfl) (goodIn_sub iw_c_X4_readUnit_6_X9 gw_X9)) (goodIn_sub iw_c_X4_readUnit_6_X4 gw_X4)))
set_option maxRecDepth 20000 in
theorem gf_c_X4_readUnit_6_c_X4_readUnit_7 : GoodIn wf_c_X4_readUnit_6 (wsV RX4 76 RX4 yX4_readUnit wf_c_X4_readUnit_7) := goodIn_app (gi_l [35, 36, 37, 11] rfl rfl) (gi_cons (j := 0) rfl rfl (goodIn_app (goodIn_app (gi_l [1, 2, 3, 4, 5, 6, 7, 8, 9, 10, 11, 12, 38, 39, 40, 41, 23, 24, 25, 26, 17, 42, 43, 44, 45, 31, 32, 33, 34, 46, 47, 48, 49, 50, 51, 52, 53, 54, 55, 56, 57, 58, 59, 60, 61, 62, 63, 64, 65, 66, 67, 68, 69, 70, 71, 72, 73, 74, 75, 76, 77, 78, 79, 80, 81, 82, 83, 84, 85, 86, 87, 88, 89, 90, 91, 92, 93, 94, 95, 96, 97, 98, 99, 100, 101, 102, 103, 104, 105, 106, 107, 108, 18, 109, 110, 111] rfl rfl) (goodIn_sub iw_c_X4_readUnit_6_X9 gw_X9)) (goodIn_sub iw_c_X4_readUnit_6_X4 gw_X4)))
set_option maxHeartbeats 4000000 in
set_option maxRecDepth 100000 in
theorem c_X4_readUnit_6 (l : Launch) (dC : Nat → ClassId) (dI : Nat → Nat → Nat) (sz : Nat) (h0 : Nat) (h1 : Nat) (h1_0 : Nat) (h1_f1 : Int32) (h1_f2 : Int32) (h1_f3 : Int32) (h1_0k : ClassId) (h1_0c : Nat → Int32) (h0_0 : Nat) (h0_f1 : Int32) (h0_2 : Nat) (h0_0k : ClassId) (h0_0c : Nat → Int32) (ts4 : Nat) (tv4 : Nat) (g_h1_f1 : RG h1_f1 0 240) (g_h1_f2 : RG h1_f2 0 240) (g_h1_f3 : RG h1_f3 (-1) 240) (a_h1_0c : AI h1_0c 0 255) (g_h0_f1 : RG h0_f1 0 240) : Met l yX4_readUnit wf_c_X4_readUnit_6 ({ frames := 8, cells := 0, slots := 0, locals := 191 }) (va_Pc [.ref h0, .ref h1, .int 5, .int 0] (fun U => U.heap.size = sz ∧ va_P (dC, dI) vwCl (wd_c_X4_readUnit_6 h1 h1_0 h1_f1 h1_f2 h1_f3 h1_0 h1_0k h1_0c h0 h0_0 h0_f1 h0_2 h0_0 h0_0k h0_0c) U.heap ∧ va_K (dC, dI) vwCl [(h1_0k, .int), (h0_0k, .int)] U ∧ va_D (fun _ => True) (wd_c_X4_readUnit_6 h1 h1_0 h1_f1 h1_f2 h1_f3 h1_0 h1_0k h1_0c h0 h0_0 h0_f1 h0_2 h0_0 h0_0k h0_0c) ∧ vk_R RX4 91 "vlrdph" ts4 U ∧ va_Z "java/lang/String" "COMPACT_STRINGS" "Z" (.int 1) (va_A (wd_c_X4_readUnit_6 h1 h1_0 h1_f1 h1_f2 h1_f3 h1_0 h1_0k h1_0c h0 h0_0 h0_f1 h0_2 h0_0 h0_0k h0_0c) sz) U U.heap ∧ va_OF "java/lang/String" "coder" "B" (.int 0) ts4 (va_A (wd_c_X4_readUnit_6 h1 h1_0 h1_f1 h1_f2 h1_f3 h1_0 h1_0k h1_0c h0 h0_0 h0_f1 h0_2 h0_0 h0_0k h0_0c) sz) U U.heap ∧ va_O "java/lang/String" ts4 (va_A (wd_c_X4_readUnit_6 h1 h1_0 h1_f1 h1_f2 h1_f3 h1_0 h1_0k h1_0c h0 h0_0 h0_f1 h0_2 h0_0 h0_0k h0_0c) sz) U U.heap ∧ va_OF "java/lang/String" "value" "[B" (.ref tv4) ts4 (va_A (wd_c_X4_readUnit_6 h1 h1_0 h1_f1 h1_f2 h1_f3 h1_0 h1_0k h1_0c h0 h0_0 h0_f1 h0_2 h0_0 h0_0k h0_0c) sz) U U.heap ∧ va_T .byte tv4 6 (fun j => .int ([118, 108, 114, 100, 112, 104].getD j 0)) (va_A (wd_c_X4_readUnit_6 h1 h1_0 h1_f1 h1_f2 h1_f3 h1_0 h1_0k h1_0c h0 h0_0 h0_f1 h0_2 h0_0 h0_0k h0_0c) sz) U U.heap)) (va_Qv (fun (u : (Int32) × (Int32) × (Int32) × (Nat → Int32)) => (RG u.1 0 240 ∧ RG u.2.1 (-1) 240 ∧ RG u.2.2.1 0 240)) (fun (u : (Int32) × (Int32) × (Int32) × (Nat → Int32)) t => va_P (dC, dI) vwCl (wd_c_X4_readUnit_6 h1 h1_0 h1_f1 (u.1) (u.2.1) h1_0 h1_0k h1_0c h0 h0_0 (u.2.2.1) h0_2 h0_0 h0_0k (u.2.2.2)) t.heap ∧ va_K (dC, dI) vwCl [] t ∧ va_D (va_A (wd_c_X4_readUnit_6 h1 h1_0 h1_f1 h1_f2 h1_f3 h1_0 h1_0k h1_0c h0 h0_0 h0_f1 h0_2 h0_0 h0_0k h0_0c) sz) (wd_c_X4_readUnit_6 h1 h1_0 h1_f1 (u.1) (u.2.1) h1_0 h1_0k h1_0c h0 h0_0 (u.2.2.1) h0_2 h0_0 h0_0k (u.2.2.2))) (va_A (wd_c_X4_readUnit_6 h1 h1_0 h1_f1 h1_f2 h1_f3 h1_0 h1_0k h1_0c h0 h0_0 h0_f1 h0_2 h0_0 h0_0k h0_0c) sz)) 0 0 (va_A (wd_c_X4_readUnit_6 h1 h1_0 h1_f1 h1_f2 h1_f3 h1_0 h1_0k h1_0c h0 h0_0 h0_f1 h0_2 h0_0 h0_0k h0_0c) sz) := by
  refine Met.ofW (cc := cX4_readUnit) (maxL := 5) (ret := none) (by decide +kernel) rfl ?_
  intro p e s m args below meth c s₁ B hml hv
  obtain ⟨rfl, hsz, hP, hK, hD0, hE_32, hE_10, hE_34, hE_33, hE_35, hE_36⟩ := hv
  have hx := B.exec
  have hb := B.bytes
  have hr := B.returns
  have hts := atoms_spec (ws := wf_c_X4_readUnit_6) B.pre
  have hown : s.vm.findClass RX4 = some m.cls := findClass_of_methodNamed B.named
  have hlocks := B.notSynchronized
  subst hsz
  have hD := hD0.self (sz := s.heap.size)
  generalize hAe : va_A (wd_c_X4_readUnit_6 h1 h1_0 h1_f1 h1_f2 h1_f3 h1_0 h1_0k h1_0c h0 h0_0 h0_f1 h0_2 h0_0 h0_0k h0_0c) s.heap.size = A at hD hE_10 hE_34 hE_33 hE_35 hE_36 ⊢
  have hA : ∀ q : Nat, s.heap.size ≤ q → A q := fun q h => by rw [← hAe]; exact Or.inr h
  have hP : va_P (dC, dI) vwCl (wd_c_X4_readUnit_6 h1 h1_0 h1_f1 h1_f2 h1_f3 h1_0 h1_0k h1_0c h0 h0_0 h0_f1 h0_2 h0_0 h0_0k h0_0c) s.heap := hP
  have hl := lv_entry ([.ref h0, .ref h1, .int 5, .int 0]) (n := 5) (Nat.le_of_ble_eq_true rfl)
  rw [lg_entry_eq]
  generalize (lg_sl ([.ref h0, .ref h1, .int 5, .int 0]) ++ List.replicate (5 - (lg_sl ([.ref h0, .ref h1, .int 5, .int 0])).length) Slot.unset).toArray = ls at hl ⊢
  have hl : lv_has ls 5 [(0, .ref h0), (1, .ref h1), (2, .int 5), (3, .int 0)] := hl
  obtain ⟨H, hHe⟩ : ∃ H : Heap, s.heap = H := ⟨_, rfl⟩
  have hS : va_S A s.heap H [] := by rw [hHe]; exact va_S.rf
  have hP : va_P (dC, dI) vwCl (wd_c_X4_readUnit_6 h1 h1_0 h1_f1 h1_f2 h1_f3 h1_0 h1_0k h1_0c h0 h0_0 h0_f1 h0_2 h0_0 h0_0k h0_0c) H := by rw [← hHe]; exact hP
  rw [hHe]
  refine wj (fun G hG hU => ?_)
  as_aux_lemma =>
  have J62 : ∀ (j62_h1_f2 : Int32) (j62_h1_f3 : Int32) (j62_h0_f1 : Int32) (j62_h0_0c : Nat → Int32) (g_h0_f1 : RG h0_f1 0 240) (g_h1_f1 : RG h1_f1 0 240) (g_h1_f2 : RG h1_f2 0 240) (g_h1_f3 : RG h1_f3 (-1) 240) (g_j62_h0_f1 : RG j62_h0_f1 0 240) (g_j62_h1_f2 : RG j62_h1_f2 0 240) (g_j62_h1_f3 : RG j62_h1_f3 (-1) 240) (H : Heap) (locs : List Loc) (ls : Array Slot) (hP : va_P (dC, dI) vwCl (wd_c_X4_readUnit_6 h1 h1_0 h1_f1 j62_h1_f2 j62_h1_f3 h1_0 h1_0k h1_0c h0 h0_0 j62_h0_f1 h0_2 h0_0 h0_0k j62_h0_0c) H) (hD : va_D A (wd_c_X4_readUnit_6 h1 h1_0 h1_f1 j62_h1_f2 j62_h1_f3 h1_0 h1_0k h1_0c h0 h0_0 j62_h0_f1 h0_2 h0_0 h0_0k j62_h0_0c)) (hS : va_S A s.heap H locs) (hl : lv_has ls 5 []), G H locs (F0 m 62 ls []) := by
    as_aux_lemma =>
    intro j62_h1_f2 j62_h1_f3 j62_h0_f1 j62_h0_0c g_h0_f1 g_h1_f1 g_h1_f2 g_h1_f3 g_j62_h0_f1 g_j62_h1_f2 g_j62_h1_f3 H locs ls hP hD hS hl
    refine hG _ _ _ ?_
    refine lv_goto (tgt := 126) hx hb dX4_readUnit_62 rfl ?_
    have hK9 := hK.sub (tys' := []) [] rfl
    exact W.vret hx hb hr (fun t ht hW => ⟨⟨(j62_h1_f2, j62_h1_f3, j62_h0_f1, j62_h0_0c), rfl, ⟨g_j62_h1_f2, g_j62_h1_f3, g_j62_h0_f1⟩, by rw [ht]; exact hP, va_K.moved hW.alike hK9, hD⟩, hS.F ht⟩) hS.2.2 dX4_readUnit_126
  have J24 : ∀ (j24_h1_f2 : Int32) (j24_h1_f3 : Int32) (j24_h0_f1 : Int32) (j24_h0_0c : Nat → Int32) (g_h0_f1 : RG h0_f1 0 240) (g_h1_f1 : RG h1_f1 0 240) (g_h1_f2 : RG h1_f2 0 240) (g_h1_f3 : RG h1_f3 (-1) 240) (g_j24_h0_f1 : RG j24_h0_f1 0 240) (g_j24_h1_f2 : RG j24_h1_f2 0 240) (g_j24_h1_f3 : RG j24_h1_f3 (-1) 240) (H : Heap) (locs : List Loc) (ls : Array Slot) (hP : va_P (dC, dI) vwCl (wd_c_X4_readUnit_6 h1 h1_0 h1_f1 j24_h1_f2 j24_h1_f3 h1_0 h1_0k h1_0c h0 h0_0 j24_h0_f1 h0_2 h0_0 h0_0k j24_h0_0c) H) (hD : va_D A (wd_c_X4_readUnit_6 h1 h1_0 h1_f1 j24_h1_f2 j24_h1_f3 h1_0 h1_0k h1_0c h0 h0_0 j24_h0_f1 h0_2 h0_0 h0_0k j24_h0_0c)) (hS : va_S A s.heap H locs) (hl : lv_has ls 5 [(0, .ref h0), (1, .ref h1), (2, .int 5)]), G H locs (F0 m 24 ls []) := by
    as_aux_lemma =>
    intro j24_h1_f2 j24_h1_f3 j24_h0_f1 j24_h0_0c g_h0_f1 g_h1_f1 g_h1_f2 g_h1_f3 g_j24_h0_f1 g_j24_h1_f2 g_j24_h1_f3 H locs ls hP hD hS hl
    refine hG _ _ _ ?_
    refine lv_aload_n hx hb dX4_readUnit_24 rfl (lv_at hl 1 rfl) ?_
    obtain ⟨hPc, hDc, hFc, hqc⟩ := cl_cut (wc := (wd_c_X9_peek h1 h1_0 h1_f1 j24_h1_f2 j24_h1_f3 h1_0 h1_0k h1_0c)) hP hD hS hA [0, 1] (by decide +kernel) rfl
    have hKc := hK.sub (tys' := [(h1_0k, .int)]) [0] rfl
    have hrv := va_recv hKc hPc (ci := 9) (q0 := 0) rfl rfl
    refine va_calli (va_runV (As := []) (rest := []) ⟨hx, hb, hml, hown, hts⟩ (c_X9_peek l dC dI H.size h1 h1_0 h1_f1 j24_h1_f2 j24_h1_f3 h1_0k h1_0c g_h1_f1 g_j24_h1_f2 g_j24_h1_f3 a_h1_0c) (cwV 0 hts gf_c_X4_readUnit_6_c_X9_peek rfl rfl rfl mdV_X9_peek ⟨Nat.le_of_ble_eq_true rfl, Nat.le_of_ble_eq_true rfl⟩) ⟨fun a U g mk q => by obtain ⟨q0, q1, qP, qK, qD⟩ := q; exact ⟨q0, q1, qP, va_K.moved (u := U) (U := U.calling g mk a) (Vm.Alike.refl U.vm) qK, qD⟩, hrv, fun U hU hW => ⟨rfl, by rw [hU], by rw [hU]; exact hPc, va_K.moved hW.alike hKc, hDc.weaken (fun _ _ _ _ => trivial)⟩⟩ rfl rfl hl.1 rfl (lv_room (Nat.le_of_ble_eq_true rfl)) dX4_readUnit_25 ⟨Nat.le_of_ble_eq_true rfl, Nat.le_of_ble_eq_true rfl⟩) hS (fun q _ h => hFc q h) hFc (fun r_1 x_2 t H1 locs ht hvm hw hB hz1 hk1 hS => ?_)
    obtain ⟨hP1, hK1, hD1⟩ := hB
    rw [ht] at hP1
    obtain ⟨hP, hD⟩ := cl_put (w1 := (wd_c_X9_peek h1 h1_0 h1_f1 x_2 j24_h1_f3 h1_0 h1_0k h1_0c)) (nw := (wd_c_X4_readUnit_6 h1 h1_0 h1_f1 x_2 j24_h1_f3 h1_0 h1_0k h1_0c h0 h0_0 j24_h0_f1 h0_2 h0_0 h0_0k j24_h0_0c)) hP hD [0, 1] [4, 5, 2, 3] 4 rfl hqc (by decide +kernel) rfl hk1 hFc hP1 hD1
    generalize H1 = H at hP hS ⊢
    as_aux_lemma =>
    rcases hw with ⟨h_3, h_4, h_5⟩ | ⟨h_6, h_7, h_8, h_9⟩
    · rw [h_3]
      refine lv_istore (lv' := [(4, .int (-1)), (0, .ref h0), (1, .ref h1), (2, .int 5)]) hx hb dX4_readUnit_28 hl (Nat.le_of_ble_eq_true rfl) rfl (fun ls hl => ?_)
      refine lv_iload hx hb dX4_readUnit_30 (lv_at hl 0 rfl) ?_
      obtain ⟨hPc, hDc, hFc, hqc⟩ := cl_cut (wc := []) hP hD hS hA [] (by decide +kernel) rfl
      have hKc := hK.sub (tys' := []) [] rfl
      refine va_calli (va_runS (As := [.int (-1)]) (rest := []) ⟨hx, hb, hml, hown, hts⟩ (c_X4_isComparison l dC dI H.size (-1) (RG_k (-1) (-1) rfl)) (va_cwS 1 hts gf_c_X4_readUnit_6_c_X4_isComparison rfl rfl rfl md_X4_isComparison ⟨Nat.le_of_ble_eq_true rfl, Nat.le_of_ble_eq_true rfl⟩) ⟨fun a U g mk q => by obtain ⟨q0, q1, qP, qK, qD⟩ := q; exact ⟨q0, q1, qP, va_K.moved (u := U) (U := U.calling g mk a) (Vm.Alike.refl U.vm) qK, qD⟩, fun U hU hW => ⟨rfl, by rw [hU], by rw [hU]; exact hPc, va_K.moved hW.alike hKc, hDc.weaken (fun _ _ _ _ => trivial)⟩⟩ rfl rfl hl.1 rfl (lv_room (Nat.le_of_ble_eq_true rfl)) dX4_readUnit_32 ⟨Nat.le_of_ble_eq_true rfl, Nat.le_of_ble_eq_true rfl⟩) hS (fun q _ h => hFc q h) hFc (fun r_10 u t H1 locs ht hvm hw hB hz1 hk1 hS => ?_)
      obtain ⟨hP1, hK1, hD1⟩ := hB
      rw [ht] at hP1
      have hP := bv_still hP hk1
      generalize H1 = H at hP hS ⊢
      as_aux_lemma =>
      have h_11 := hw
      rw [h_11]
      refine lv_if_eq (tgt := 58) hx hb dX4_readUnit_35 rfl (fun c_12 => ?_) (fun c_12 => absurd c_12 (by decide +kernel))
      refine lv_aload_n hx hb dX4_readUnit_58 rfl (lv_at hl 2 rfl) ?_
      obtain ⟨hPc, hDc, hFc, hqc⟩ := cl_cut (wc := (wd_c_X9_refuseHere h1 h1_0 h1_f1 x_2 j24_h1_f3)) hP hD hS hA [0] (by decide +kernel) rfl
      have hKc := hK.sub (tys' := []) [] rfl
      have hrv := va_recv hKc hPc (ci := 9) (q0 := 0) rfl rfl
      refine va_callv (va_runV (As := []) (rest := []) ⟨hx, hb, hml, hown, hts⟩ (c_X9_refuseHere l dC dI H.size h1 h1_0 h1_f1 x_2 j24_h1_f3 g_h1_f1 h_4 g_j24_h1_f3) (cwV 0 hts gf_c_X4_readUnit_6_c_X9_refuseHere rfl rfl rfl mdV_X9_refuseHere ⟨Nat.le_of_ble_eq_true rfl, Nat.le_of_ble_eq_true rfl⟩) ⟨fun a U g mk q => by obtain ⟨q0, q1, qP, qK, qD⟩ := q; exact ⟨q0, q1, qP, va_K.moved (u := U) (U := U.calling g mk a) (Vm.Alike.refl U.vm) qK, qD⟩, hrv, fun U hU hW => ⟨rfl, by rw [hU], by rw [hU]; exact hPc, va_K.moved hW.alike hKc, hDc.weaken (fun _ _ _ _ => trivial)⟩⟩ rfl rfl hl.1 rfl (lv_room (Nat.le_of_ble_eq_true rfl)) dX4_readUnit_59 ⟨Nat.le_of_ble_eq_true rfl, Nat.le_of_ble_eq_true rfl⟩) hS (fun q _ h => hFc q h) hFc (fun x_14 t H1 locs ht hvm hw hB hz1 hk1 hS => ?_)
      obtain ⟨hP1, hK1, hD1⟩ := hB
      rw [ht] at hP1
      obtain ⟨hP, hD⟩ := cl_put (w1 := (wd_c_X9_refuseHere h1 h1_0 h1_f1 x_2 x_14)) (nw := (wd_c_X4_readUnit_6 h1 h1_0 h1_f1 x_2 x_14 h1_0 h1_0k h1_0c h0 h0_0 j24_h0_f1 h0_2 h0_0 h0_0k j24_h0_0c)) hP hD [0] [4, 1, 2, 3] 4 rfl hqc (by decide +kernel) rfl hk1 hFc hP1 hD1
      generalize H1 = H at hP hS ⊢
      as_aux_lemma =>
      have h_15 := hw
      exact hU _ _ _ (J62 x_2 x_14 j24_h0_f1 j24_h0_0c g_h0_f1 g_h1_f1 g_h1_f2 g_h1_f3 g_j24_h0_f1 h_4 (RG_w h_15 (by decide +kernel)) _ _ _ hP hD hS (lv_sub hl [] rfl))
    · refine lv_istore (lv' := [(4, .int r_1), (0, .ref h0), (1, .ref h1), (2, .int 5)]) hx hb dX4_readUnit_28 hl (Nat.le_of_ble_eq_true rfl) rfl (fun ls hl => ?_)
      refine lv_iload hx hb dX4_readUnit_30 (lv_at hl 0 rfl) ?_
      obtain ⟨hPc, hDc, hFc, hqc⟩ := cl_cut (wc := []) hP hD hS hA [] (by decide +kernel) rfl
      have hKc := hK.sub (tys' := []) [] rfl
      refine va_calli (va_runS (As := [.int r_1]) (rest := []) ⟨hx, hb, hml, hown, hts⟩ (c_X4_isComparison_1 l dC dI H.size r_1 h_6) (va_cwS 1 hts gf_c_X4_readUnit_6_c_X4_isComparison_1 rfl rfl rfl md_X4_isComparison ⟨Nat.le_of_ble_eq_true rfl, Nat.le_of_ble_eq_true rfl⟩) ⟨fun a U g mk q => by obtain ⟨q0, q1, qP, qK, qD⟩ := q; exact ⟨q0, q1, qP, va_K.moved (u := U) (U := U.calling g mk a) (Vm.Alike.refl U.vm) qK, qD⟩, fun U hU hW => ⟨rfl, by rw [hU], by rw [hU]; exact hPc, va_K.moved hW.alike hKc, hDc.weaken (fun _ _ _ _ => trivial)⟩⟩ rfl rfl hl.1 rfl (lv_room (Nat.le_of_ble_eq_true rfl)) dX4_readUnit_32 ⟨Nat.le_of_ble_eq_true rfl, Nat.le_of_ble_eq_true rfl⟩) hS (fun q _ h => hFc q h) hFc (fun r_16 u t H1 locs ht hvm hw hB hz1 hk1 hS => ?_)
      obtain ⟨hP1, hK1, hD1⟩ := hB
      rw [ht] at hP1
      have hP := bv_still hP hk1
      generalize H1 = H at hP hS ⊢
      as_aux_lemma =>
      rcases hw with h_17 | ⟨h_18, h_19⟩
      · rw [h_17]
        refine lv_if_eq (tgt := 58) hx hb dX4_readUnit_35 rfl (fun c_20 => ?_) (fun c_20 => absurd c_20 (by decide +kernel))
        refine lv_aload_n hx hb dX4_readUnit_58 rfl (lv_at hl 2 rfl) ?_
        obtain ⟨hPc, hDc, hFc, hqc⟩ := cl_cut (wc := (wd_c_X9_refuseHere h1 h1_0 h1_f1 x_2 j24_h1_f3)) hP hD hS hA [0] (by decide +kernel) rfl
        have hKc := hK.sub (tys' := []) [] rfl
        have hrv := va_recv hKc hPc (ci := 9) (q0 := 0) rfl rfl
        refine va_callv (va_runV (As := []) (rest := []) ⟨hx, hb, hml, hown, hts⟩ (c_X9_refuseHere l dC dI H.size h1 h1_0 h1_f1 x_2 j24_h1_f3 (RG_w h_8 (by decide +kernel)) (RG_w h_7 (by decide +kernel)) g_j24_h1_f3) (cwV 0 hts gf_c_X4_readUnit_6_c_X9_refuseHere rfl rfl rfl mdV_X9_refuseHere ⟨Nat.le_of_ble_eq_true rfl, Nat.le_of_ble_eq_true rfl⟩) ⟨fun a U g mk q => by obtain ⟨q0, q1, qP, qK, qD⟩ := q; exact ⟨q0, q1, qP, va_K.moved (u := U) (U := U.calling g mk a) (Vm.Alike.refl U.vm) qK, qD⟩, hrv, fun U hU hW => ⟨rfl, by rw [hU], by rw [hU]; exact hPc, va_K.moved hW.alike hKc, hDc.weaken (fun _ _ _ _ => trivial)⟩⟩ rfl rfl hl.1 rfl (lv_room (Nat.le_of_ble_eq_true rfl)) dX4_readUnit_59 ⟨Nat.le_of_ble_eq_true rfl, Nat.le_of_ble_eq_true rfl⟩) hS (fun q _ h => hFc q h) hFc (fun x_22 t H1 locs ht hvm hw hB hz1 hk1 hS => ?_)
        obtain ⟨hP1, hK1, hD1⟩ := hB
        rw [ht] at hP1
        obtain ⟨hP, hD⟩ := cl_put (w1 := (wd_c_X9_refuseHere h1 h1_0 h1_f1 x_2 x_22)) (nw := (wd_c_X4_readUnit_6 h1 h1_0 h1_f1 x_2 x_22 h1_0 h1_0k h1_0c h0 h0_0 j24_h0_f1 h0_2 h0_0 h0_0k j24_h0_0c)) hP hD [0] [4, 1, 2, 3] 4 rfl hqc (by decide +kernel) rfl hk1 hFc hP1 hD1
        generalize H1 = H at hP hS ⊢
        as_aux_lemma =>
        have h_23 := hw
        exact hU _ _ _ (J62 x_2 x_22 j24_h0_f1 j24_h0_0c g_h0_f1 (RG_w h_8 (by decide +kernel)) g_h1_f2 g_h1_f3 g_j24_h0_f1 (RG_w h_7 (by decide +kernel)) (RG_w h_23 (by decide +kernel)) _ _ _ hP hD hS (lv_sub hl [] rfl))
      · rw [h_18]
        refine lv_if_eq (tgt := 58) hx hb dX4_readUnit_35 rfl (fun c_24 => absurd c_24 (by decide +kernel)) (fun c_24 => ?_)
        refine lv_aload_n hx hb dX4_readUnit_38 rfl (lv_at hl 2 rfl) ?_
        obtain ⟨hPc, hDc, hFc, hqc⟩ := cl_cut (wc := (wd_c_X9_skip h1 h1_0 h1_f1 x_2 j24_h1_f3)) hP hD hS hA [0] (by decide +kernel) rfl
        have hKc := hK.sub (tys' := []) [] rfl
        have hrv := va_recv hKc hPc (ci := 9) (q0 := 0) rfl rfl
        refine va_callv (va_runV (As := []) (rest := []) ⟨hx, hb, hml, hown, hts⟩ (c_X9_skip l dC dI H.size h1 h1_0 h1_f1 x_2 j24_h1_f3 (RG_w h_8 (by decide +kernel)) h_7 g_j24_h1_f3) (cwV 0 hts gf_c_X4_readUnit_6_c_X9_skip rfl rfl rfl mdV_X9_skip ⟨Nat.le_of_ble_eq_true rfl, Nat.le_of_ble_eq_true rfl⟩) ⟨fun a U g mk q => by obtain ⟨q0, q1, qP, qK, qD⟩ := q; exact ⟨q0, q1, qP, va_K.moved (u := U) (U := U.calling g mk a) (Vm.Alike.refl U.vm) qK, qD⟩, hrv, fun U hU hW => ⟨rfl, by rw [hU], by rw [hU]; exact hPc, va_K.moved hW.alike hKc, hDc.weaken (fun _ _ _ _ => trivial)⟩⟩ rfl rfl hl.1 rfl (lv_room (Nat.le_of_ble_eq_true rfl)) dX4_readUnit_39 ⟨Nat.le_of_ble_eq_true rfl, Nat.le_of_ble_eq_true rfl⟩) hS (fun q _ h => hFc q h) hFc (fun x_26 t H1 locs ht hvm hw hB hz1 hk1 hS => ?_)
        obtain ⟨hP1, hK1, hD1⟩ := hB
        rw [ht] at hP1
        obtain ⟨hP, hD⟩ := cl_put (w1 := (wd_c_X9_skip h1 h1_0 h1_f1 x_26 j24_h1_f3)) (nw := (wd_c_X4_readUnit_6 h1 h1_0 h1_f1 x_26 j24_h1_f3 h1_0 h1_0k h1_0c h0 h0_0 j24_h0_f1 h0_2 h0_0 h0_0k j24_h0_0c)) hP hD [0] [4, 1, 2, 3] 4 rfl hqc (by decide +kernel) rfl hk1 hFc hP1 hD1
        generalize H1 = H at hP hS ⊢
        as_aux_lemma =>
        rcases hw with ⟨h_27, h_28, h_29⟩
        refine lv_aload_n hx hb dX4_readUnit_42 rfl (lv_at hl 1 rfl) ?_
        refine lv_aload_n hx hb dX4_readUnit_43 rfl (lv_at hl 2 rfl) ?_
        refine lv_iload_n hx hb dX4_readUnit_44 rfl (lv_at hl 3 rfl) ?_
        obtain ⟨hPc, hDc, hFc, hqc⟩ := cl_cut (wc := (wd_c_X4_readSum_5 h1 h1_0 h1_f1 x_26 j24_h1_f3 h1_0 h1_0k h1_0c h0 h0_0 j24_h0_f1 h0_2 h0_0 h0_0k j24_h0_0c)) hP hD hS hA [0, 1, 2, 3] (by decide +kernel) rfl
        have hKc := hK.sub (tys' := [(h1_0k, .int), (h0_0k, .int)]) [0, 1] rfl
        have hrv := va_recv hKc hPc (ci := 4) (q0 := 2) rfl rfl
        refine va_callv (va_runV (As := [.ref h1, .int 5]) (rest := []) ⟨hx, hb, hml, hown, hts⟩ (c_X4_readSum_5 l dC dI H.size h0 h1 h1_0 h1_f1 x_26 j24_h1_f3 h1_0k h1_0c h0_0 j24_h0_f1 h0_2 h0_0k j24_h0_0c ts4 tv4 (RG_w h_8 (by decide +kernel)) (RG_w h_27 (by decide +kernel)) g_j24_h1_f3 a_h1_0c g_j24_h0_f1) (cwV 2 hts gf_c_X4_readUnit_6_c_X4_readSum_5 rfl rfl rfl mdV_X4_readSum ⟨Nat.le_of_ble_eq_true rfl, Nat.le_of_ble_eq_true rfl⟩) ⟨fun a U g mk q => by obtain ⟨q0, q1, qP, qK, qD, qE0, qE1, qE2, qE3, qE4, qE5⟩ := q; exact ⟨q0, q1, qP, va_K.moved (u := U) (U := U.calling g mk a) (Vm.Alike.refl U.vm) qK, qD, vk_R.same rfl qE0, va_Z.moved (u := U) (U := U.calling g mk a) (Vm.Alike.refl U.vm) qE1, va_OF.moved (u := U) (U := U.calling g mk a) (Vm.Alike.refl U.vm) qE2, va_O.moved (u := U) (U := U.calling g mk a) (Vm.Alike.refl U.vm) qE3, va_OF.moved (u := U) (U := U.calling g mk a) (Vm.Alike.refl U.vm) qE4, va_T.moved (u := U) (U := U.calling g mk a) (Vm.Alike.refl U.vm) qE5⟩, hrv, fun U hU hW => ⟨rfl, by rw [hU], by rw [hU]; exact hPc, va_K.moved hW.alike hKc, hDc.weaken (fun _ _ _ _ => trivial), vk_R.warm hW hE_32, va_Z.moved hW.alike (by rw [hU]; exact (hE_10.kept hS.2.1).narrow hFc), va_OF.moved hW.alike (by rw [hU]; exact (hE_34.kept hS.2.1).narrow hFc), va_O.moved hW.alike (by rw [hU]; exact (hE_33.kept hS.2.1).narrow hFc), va_OF.moved hW.alike (by rw [hU]; exact (hE_35.kept hS.2.1).narrow hFc), va_T.moved hW.alike (by rw [hU]; exact (hE_36.kept hS.2.1).narrow hFc)⟩⟩ rfl rfl hl.1 rfl (lv_room (Nat.le_of_ble_eq_true rfl)) dX4_readUnit_45 ⟨Nat.le_of_ble_eq_true rfl, Nat.le_of_ble_eq_true rfl⟩) hS (fun q _ h => hFc q h) hFc (fun u t H1 locs ht hvm hw hB hz1 hk1 hS => ?_)
        obtain ⟨x_31, x_32, x_33, w_34⟩ := u
        obtain ⟨hP1, hK1, hD1⟩ := hB
        rw [ht] at hP1
        obtain ⟨hP, hD⟩ := cl_put (w1 := (wd_c_X4_readSum_5 h1 h1_0 h1_f1 x_31 x_32 h1_0 h1_0k h1_0c h0 h0_0 x_33 h0_2 h0_0 h0_0k w_34)) (nw := (wd_c_X4_readUnit_6 h1 h1_0 h1_f1 x_31 x_32 h1_0 h1_0k h1_0c h0 h0_0 x_33 h0_2 h0_0 h0_0k w_34)) hP hD [0, 1, 2, 3] [4, 5, 6, 7] 4 rfl hqc (by decide +kernel) rfl hk1 hFc hP1 hD1
        generalize H1 = H at hP hS ⊢
        as_aux_lemma =>
        rcases hw with ⟨h_35, h_36, h_37⟩
        refine lv_aload_n hx hb dX4_readUnit_48 rfl (lv_at hl 1 rfl) ?_
        refine lv_iload hx hb dX4_readUnit_49 (lv_at hl 0 rfl) ?_
        refine lv_ineg hx hb dX4_readUnit_51 ?_
        refine lv_topi (fun x_38 ex_38 => ?_)
        have g_39 : RG x_38 (-62) (-60) := RG_neg ex_38 h_19 (by decide +kernel)
        obtain ⟨hPc, hDc, hFc, hqc⟩ := cl_cut (wc := (wd_c_X4_emit h0 h0_0 x_33 h0_2 h0_0 h0_0k w_34)) hP hD hS hA [2, 3] (by decide +kernel) rfl
        have hKc := hK.sub (tys' := [(h0_0k, .int)]) [1] rfl
        have hrv := va_recv hKc hPc (ci := 4) (q0 := 0) rfl rfl
        refine va_callv (va_runV (As := [.int x_38]) (rest := []) ⟨hx, hb, hml, hown, hts⟩ (c_X4_emit l dC dI H.size h0 x_38 h0_0 x_33 h0_2 h0_0k w_34 h_37) (cwV 1 hts gf_c_X4_readUnit_6_c_X4_emit rfl rfl rfl mdV_X4_emit ⟨Nat.le_of_ble_eq_true rfl, Nat.le_of_ble_eq_true rfl⟩) ⟨fun a U g mk q => by obtain ⟨q0, q1, qP, qK, qD⟩ := q; exact ⟨q0, q1, qP, va_K.moved (u := U) (U := U.calling g mk a) (Vm.Alike.refl U.vm) qK, qD⟩, hrv, fun U hU hW => ⟨rfl, by rw [hU], by rw [hU]; exact hPc, va_K.moved hW.alike hKc, hDc.weaken (fun _ _ _ _ => trivial)⟩⟩ rfl rfl hl.1 rfl (lv_room (Nat.le_of_ble_eq_true rfl)) dX4_readUnit_52 ⟨Nat.le_of_ble_eq_true rfl, Nat.le_of_ble_eq_true rfl⟩) hS (fun q _ h => hFc q h) hFc (fun u t H1 locs ht hvm hw hB hz1 hk1 hS => ?_)
        obtain ⟨x_41, w_42⟩ := u
        obtain ⟨hP1, hK1, hD1⟩ := hB
        rw [ht] at hP1
        obtain ⟨hP, hD⟩ := cl_put (w1 := (wd_c_X4_emit h0 h0_0 x_41 h0_2 h0_0 h0_0k w_42)) (nw := (wd_c_X4_readUnit_6 h1 h1_0 h1_f1 x_31 x_32 h1_0 h1_0k h1_0c h0 h0_0 x_41 h0_2 h0_0 h0_0k w_42)) hP hD [2, 3] [0, 1, 4, 5] 4 rfl hqc (by decide +kernel) rfl hk1 hFc hP1 hD1
        generalize H1 = H at hP hS ⊢
        as_aux_lemma =>
        have h_43 := hw
        refine lv_goto (tgt := 62) hx hb dX4_readUnit_55 rfl ?_
        exact hU _ _ _ (J62 x_31 x_32 x_41 w_42 g_h0_f1 (RG_w h_8 (by decide +kernel)) g_h1_f2 g_h1_f3 (RG_w h_43 (by decide +kernel)) h_35 h_36 _ _ _ hP hD hS (lv_sub hl [] rfl))
  have J14 : ∀ (j14_h1_f2 : Int32) (g_h0_f1 : RG h0_f1 0 240) (g_h1_f1 : RG h1_f1 0 240) (g_h1_f2 : RG h1_f2 0 240) (g_h1_f3 : RG h1_f3 (-1) 240) (g_j14_h1_f2 : RG j14_h1_f2 0 240) (H : Heap) (locs : List Loc) (ls : Array Slot) (hP : va_P (dC, dI) vwCl (wd_c_X4_readUnit_6 h1 h1_0 h1_f1 j14_h1_f2 h1_f3 h1_0 h1_0k h1_0c h0 h0_0 h0_f1 h0_2 h0_0 h0_0k h0_0c) H) (hD : va_D A (wd_c_X4_readUnit_6 h1 h1_0 h1_f1 j14_h1_f2 h1_f3 h1_0 h1_0k h1_0c h0 h0_0 h0_f1 h0_2 h0_0 h0_0k h0_0c)) (hS : va_S A s.heap H locs) (hl : lv_has ls 5 [(0, .ref h0), (1, .ref h1), (2, .int 5), (3, .int 0)]), G H locs (F0 m 14 ls []) := by
    as_aux_lemma =>
    intro j14_h1_f2 g_h0_f1 g_h1_f1 g_h1_f2 g_h1_f3 g_j14_h1_f2 H locs ls hP hD hS hl
    refine hG _ _ _ ?_
    refine lv_iload_n hx hb dX4_readUnit_14 rfl (lv_at hl 3 rfl) ?_
    refine lv_if_ne (tgt := 24) hx hb dX4_readUnit_15 rfl (fun c_44 => absurd c_44 (by decide +kernel)) (fun c_44 => ?_)
    refine lv_aload_n hx hb dX4_readUnit_18 rfl (lv_at hl 0 rfl) ?_
    refine lv_aload_n hx hb dX4_readUnit_19 rfl (lv_at hl 1 rfl) ?_
    refine lv_iload_n hx hb dX4_readUnit_20 rfl (lv_at hl 2 rfl) ?_
    obtain ⟨hPc, hDc, hFc, hqc⟩ := cl_cut (wc := (wd_c_X4_readSum_5 h1 h1_0 h1_f1 j14_h1_f2 h1_f3 h1_0 h1_0k h1_0c h0 h0_0 h0_f1 h0_2 h0_0 h0_0k h0_0c)) hP hD hS hA [0, 1, 2, 3] (by decide +kernel) rfl
    have hKc := hK.sub (tys' := [(h1_0k, .int), (h0_0k, .int)]) [0, 1] rfl
    have hrv := va_recv hKc hPc (ci := 4) (q0 := 2) rfl rfl
    refine va_callv (va_runV (As := [.ref h1, .int 5]) (rest := []) ⟨hx, hb, hml, hown, hts⟩ (c_X4_readSum_5 l dC dI H.size h0 h1 h1_0 h1_f1 j14_h1_f2 h1_f3 h1_0k h1_0c h0_0 h0_f1 h0_2 h0_0k h0_0c ts4 tv4 g_h1_f1 g_j14_h1_f2 g_h1_f3 a_h1_0c g_h0_f1) (cwV 2 hts gf_c_X4_readUnit_6_c_X4_readSum_5 rfl rfl rfl mdV_X4_readSum ⟨Nat.le_of_ble_eq_true rfl, Nat.le_of_ble_eq_true rfl⟩) ⟨fun a U g mk q => by obtain ⟨q0, q1, qP, qK, qD, qE0, qE1, qE2, qE3, qE4, qE5⟩ := q; exact ⟨q0, q1, qP, va_K.moved (u := U) (U := U.calling g mk a) (Vm.Alike.refl U.vm) qK, qD, vk_R.same rfl qE0, va_Z.moved (u := U) (U := U.calling g mk a) (Vm.Alike.refl U.vm) qE1, va_OF.moved (u := U) (U := U.calling g mk a) (Vm.Alike.refl U.vm) qE2, va_O.moved (u := U) (U := U.calling g mk a) (Vm.Alike.refl U.vm) qE3, va_OF.moved (u := U) (U := U.calling g mk a) (Vm.Alike.refl U.vm) qE4, va_T.moved (u := U) (U := U.calling g mk a) (Vm.Alike.refl U.vm) qE5⟩, hrv, fun U hU hW => ⟨rfl, by rw [hU], by rw [hU]; exact hPc, va_K.moved hW.alike hKc, hDc.weaken (fun _ _ _ _ => trivial), vk_R.warm hW hE_32, va_Z.moved hW.alike (by rw [hU]; exact (hE_10.kept hS.2.1).narrow hFc), va_OF.moved hW.alike (by rw [hU]; exact (hE_34.kept hS.2.1).narrow hFc), va_O.moved hW.alike (by rw [hU]; exact (hE_33.kept hS.2.1).narrow hFc), va_OF.moved hW.alike (by rw [hU]; exact (hE_35.kept hS.2.1).narrow hFc), va_T.moved hW.alike (by rw [hU]; exact (hE_36.kept hS.2.1).narrow hFc)⟩⟩ rfl rfl hl.1 rfl (lv_room (Nat.le_of_ble_eq_true rfl)) dX4_readUnit_21 ⟨Nat.le_of_ble_eq_true rfl, Nat.le_of_ble_eq_true rfl⟩) hS (fun q _ h => hFc q h) hFc (fun u t H1 locs ht hvm hw hB hz1 hk1 hS => ?_)
    obtain ⟨x_46, x_47, x_48, w_49⟩ := u
    obtain ⟨hP1, hK1, hD1⟩ := hB
    rw [ht] at hP1
    obtain ⟨hP, hD⟩ := cl_put (w1 := (wd_c_X4_readSum_5 h1 h1_0 h1_f1 x_46 x_47 h1_0 h1_0k h1_0c h0 h0_0 x_48 h0_2 h0_0 h0_0k w_49)) (nw := (wd_c_X4_readUnit_6 h1 h1_0 h1_f1 x_46 x_47 h1_0 h1_0k h1_0c h0 h0_0 x_48 h0_2 h0_0 h0_0k w_49)) hP hD [0, 1, 2, 3] [4, 5, 6, 7] 4 rfl hqc (by decide +kernel) rfl hk1 hFc hP1 hD1
    generalize H1 = H at hP hS ⊢
    as_aux_lemma =>
    rcases hw with ⟨h_50, h_51, h_52⟩
    exact hU _ _ _ (J24 x_46 x_47 x_48 w_49 g_h0_f1 g_h1_f1 g_h1_f2 g_h1_f3 h_52 h_50 h_51 _ _ _ hP hD hS (lv_sub hl [0, 1, 2] rfl))
  refine hG _ _ _ ?_
  refine lv_iload_n hx hb dX4_readUnit_0 rfl (lv_at hl 3 rfl) ?_
  refine lv_if_ne (tgt := 14) hx hb dX4_readUnit_1 rfl (fun c_53 => absurd c_53 (by decide +kernel)) (fun c_53 => ?_)
  refine lv_aload_n hx hb dX4_readUnit_4 rfl (lv_at hl 1 rfl) ?_
  obtain ⟨hPc, hDc, hFc, hqc⟩ := cl_cut (wc := (wd_c_X9_peek h1 h1_0 h1_f1 h1_f2 h1_f3 h1_0 h1_0k h1_0c)) hP hD hS hA [0, 1] (by decide +kernel) rfl
  have hKc := hK.sub (tys' := [(h1_0k, .int)]) [0] rfl
  have hrv := va_recv hKc hPc (ci := 9) (q0 := 0) rfl rfl
  refine va_calli (va_runV (As := []) (rest := []) ⟨hx, hb, hml, hown, hts⟩ (c_X9_peek l dC dI H.size h1 h1_0 h1_f1 h1_f2 h1_f3 h1_0k h1_0c g_h1_f1 g_h1_f2 g_h1_f3 a_h1_0c) (cwV 0 hts gf_c_X4_readUnit_6_c_X9_peek rfl rfl rfl mdV_X9_peek ⟨Nat.le_of_ble_eq_true rfl, Nat.le_of_ble_eq_true rfl⟩) ⟨fun a U g mk q => by obtain ⟨q0, q1, qP, qK, qD⟩ := q; exact ⟨q0, q1, qP, va_K.moved (u := U) (U := U.calling g mk a) (Vm.Alike.refl U.vm) qK, qD⟩, hrv, fun U hU hW => ⟨rfl, by rw [hU], by rw [hU]; exact hPc, va_K.moved hW.alike hKc, hDc.weaken (fun _ _ _ _ => trivial)⟩⟩ rfl rfl hl.1 rfl (lv_room (Nat.le_of_ble_eq_true rfl)) dX4_readUnit_5 ⟨Nat.le_of_ble_eq_true rfl, Nat.le_of_ble_eq_true rfl⟩) hS (fun q _ h => hFc q h) hFc (fun r_54 x_55 t H1 locs ht hvm hw hB hz1 hk1 hS => ?_)
  obtain ⟨hP1, hK1, hD1⟩ := hB
  rw [ht] at hP1
  obtain ⟨hP, hD⟩ := cl_put (w1 := (wd_c_X9_peek h1 h1_0 h1_f1 x_55 h1_f3 h1_0 h1_0k h1_0c)) (nw := (wd_c_X4_readUnit_6 h1 h1_0 h1_f1 x_55 h1_f3 h1_0 h1_0k h1_0c h0 h0_0 h0_f1 h0_2 h0_0 h0_0k h0_0c)) hP hD [0, 1] [4, 5, 2, 3] 4 rfl hqc (by decide +kernel) rfl hk1 hFc hP1 hD1
  generalize H1 = H at hP hS ⊢
  as_aux_lemma =>
  rcases hw with ⟨h_56, h_57, h_58⟩ | ⟨h_59, h_60, h_61, h_62⟩
  · rw [h_56]
    obtain ⟨hPc, hDc, hFc, hqc⟩ := cl_cut (wc := []) hP hD hS hA [] (by decide +kernel) rfl
    have hKc := hK.sub (tys' := []) [] rfl
    refine va_calli (va_runS (As := [.int (-1)]) (rest := []) ⟨hx, hb, hml, hown, hts⟩ (c_X4_startsUnit l dC dI H.size (-1) (RG_k (-1) (-1) rfl)) (va_cwS 1 hts gf_c_X4_readUnit_6_c_X4_startsUnit rfl rfl rfl md_X4_startsUnit ⟨Nat.le_of_ble_eq_true rfl, Nat.le_of_ble_eq_true rfl⟩) ⟨fun a U g mk q => by obtain ⟨q0, q1, qP, qK, qD⟩ := q; exact ⟨q0, q1, qP, va_K.moved (u := U) (U := U.calling g mk a) (Vm.Alike.refl U.vm) qK, qD⟩, fun U hU hW => ⟨rfl, by rw [hU], by rw [hU]; exact hPc, va_K.moved hW.alike hKc, hDc.weaken (fun _ _ _ _ => trivial)⟩⟩ rfl rfl hl.1 rfl (lv_room (Nat.le_of_ble_eq_true rfl)) dX4_readUnit_8 ⟨Nat.le_of_ble_eq_true rfl, Nat.le_of_ble_eq_true rfl⟩) hS (fun q _ h => hFc q h) hFc (fun r_63 u t H1 locs ht hvm hw hB hz1 hk1 hS => ?_)
    obtain ⟨hP1, hK1, hD1⟩ := hB
    rw [ht] at hP1
    have hP := bv_still hP hk1
    generalize H1 = H at hP hS ⊢
    as_aux_lemma =>
    have h_64 := hw
    rw [h_64]
    refine lv_if_ne (tgt := 65) hx hb dX4_readUnit_11 rfl (fun c_65 => absurd c_65 (by decide +kernel)) (fun c_65 => ?_)
    exact hU _ _ _ (J14 x_55 g_h0_f1 g_h1_f1 g_h1_f2 g_h1_f3 h_57 _ _ _ hP hD hS (lv_sub hl [0, 1, 2, 3] rfl))
  · obtain ⟨hPc, hDc, hFc, hqc⟩ := cl_cut (wc := []) hP hD hS hA [] (by decide +kernel) rfl
    have hKc := hK.sub (tys' := []) [] rfl
    refine va_calli (va_runS (As := [.int r_54]) (rest := []) ⟨hx, hb, hml, hown, hts⟩ (c_X4_startsUnit_1 l dC dI H.size r_54 h_59) (va_cwS 1 hts gf_c_X4_readUnit_6_c_X4_startsUnit_1 rfl rfl rfl md_X4_startsUnit ⟨Nat.le_of_ble_eq_true rfl, Nat.le_of_ble_eq_true rfl⟩) ⟨fun a U g mk q => by obtain ⟨q0, q1, qP, qK, qD⟩ := q; exact ⟨q0, q1, qP, va_K.moved (u := U) (U := U.calling g mk a) (Vm.Alike.refl U.vm) qK, qD⟩, fun U hU hW => ⟨rfl, by rw [hU], by rw [hU]; exact hPc, va_K.moved hW.alike hKc, hDc.weaken (fun _ _ _ _ => trivial)⟩⟩ rfl rfl hl.1 rfl (lv_room (Nat.le_of_ble_eq_true rfl)) dX4_readUnit_8 ⟨Nat.le_of_ble_eq_true rfl, Nat.le_of_ble_eq_true rfl⟩) hS (fun q _ h => hFc q h) hFc (fun r_66 u t H1 locs ht hvm hw hB hz1 hk1 hS => ?_)
    obtain ⟨hP1, hK1, hD1⟩ := hB
    rw [ht] at hP1
    have hP := bv_still hP hk1
    generalize H1 = H at hP hS ⊢
    as_aux_lemma =>
    rcases hw with h_67 | ⟨h_68, h_69⟩
    · rw [h_67]
      refine lv_if_ne (tgt := 65) hx hb dX4_readUnit_11 rfl (fun c_70 => absurd c_70 (by decide +kernel)) (fun c_70 => ?_)
      exact hU _ _ _ (J14 x_55 g_h0_f1 (RG_w h_61 (by decide +kernel)) g_h1_f2 g_h1_f3 (RG_w h_60 (by decide +kernel)) _ _ _ hP hD hS (lv_sub hl [0, 1, 2, 3] rfl))
    · rw [h_68]
      refine lv_if_ne (tgt := 65) hx hb dX4_readUnit_11 rfl (fun c_71 => ?_) (fun c_71 => absurd c_71 (by decide +kernel))
      refine lv_iload_n hx hb dX4_readUnit_65 rfl (lv_at hl 2 rfl) ?_
      refine lv_bipush (v := 6) hx hb dX4_readUnit_66 kc_bipush_6 ?_
      refine lv_icmp_lt (tgt := 78) hx hb dX4_readUnit_68 rfl (fun c_72 => ?_) (fun c_72 => absurd c_72 (by decide +kernel))
      refine lv_aload_n hx hb dX4_readUnit_78 rfl (lv_at hl 1 rfl) ?_
      refine lv_bipush (v := 33) hx hb dX4_readUnit_79 kc_bipush_33 ?_
      obtain ⟨hPc, hDc, hFc, hqc⟩ := cl_cut (wc := (wd_c_X9_take h1 h1_0 h1_f1 x_55 h1_f3 h1_0 h1_0k h1_0c)) hP hD hS hA [0, 1] (by decide +kernel) rfl
      have hKc := hK.sub (tys' := [(h1_0k, .int)]) [0] rfl
      have hrv := va_recv hKc hPc (ci := 9) (q0 := 0) rfl rfl
      refine va_calli (va_runV (As := [.int 33]) (rest := []) ⟨hx, hb, hml, hown, hts⟩ (c_X9_take l dC dI H.size h1 33 h1_0 h1_f1 x_55 h1_f3 h1_0k h1_0c (RG_w (RG_k 33 33 rfl) (by decide +kernel)) (RG_w h_61 (by decide +kernel)) (RG_w h_60 (by decide +kernel)) g_h1_f3 a_h1_0c) (cwV 1 hts gf_c_X4_readUnit_6_c_X9_take rfl rfl rfl mdV_X9_take ⟨Nat.le_of_ble_eq_true rfl, Nat.le_of_ble_eq_true rfl⟩) ⟨fun a U g mk q => by obtain ⟨q0, q1, qP, qK, qD⟩ := q; exact ⟨q0, q1, qP, va_K.moved (u := U) (U := U.calling g mk a) (Vm.Alike.refl U.vm) qK, qD⟩, hrv, fun U hU hW => ⟨rfl, by rw [hU], by rw [hU]; exact hPc, va_K.moved hW.alike hKc, hDc.weaken (fun _ _ _ _ => trivial)⟩⟩ rfl rfl hl.1 rfl (lv_room (Nat.le_of_ble_eq_true rfl)) dX4_readUnit_81 ⟨Nat.le_of_ble_eq_true rfl, Nat.le_of_ble_eq_true rfl⟩) hS (fun q _ h => hFc q h) hFc (fun r_73 x_74 t H1 locs ht hvm hw hB hz1 hk1 hS => ?_)
      as_aux_lemma =>
      obtain ⟨hP1, hK1, hD1⟩ := hB
      rw [ht] at hP1
      obtain ⟨hP, hD⟩ := cl_put (w1 := (wd_c_X9_take h1 h1_0 h1_f1 x_74 h1_f3 h1_0 h1_0k h1_0c)) (nw := (wd_c_X4_readUnit_6 h1 h1_0 h1_f1 x_74 h1_f3 h1_0 h1_0k h1_0c h0 h0_0 h0_f1 h0_2 h0_0 h0_0k h0_0c)) hP hD [0, 1] [4, 5, 2, 3] 4 rfl hqc (by decide +kernel) rfl hk1 hFc hP1 hD1
      generalize H1 = H at hP hS ⊢
      as_aux_lemma =>
      rcases hw with ⟨h_75, h_76, h_77⟩ | ⟨h_78, h_79, h_80, h_81, h_82⟩
      · rw [h_75]
        refine lv_if_eq (tgt := 105) hx hb dX4_readUnit_84 rfl (fun c_83 => ?_) (fun c_83 => absurd c_83 (by decide +kernel))
        refine lv_aload_n hx hb dX4_readUnit_105 rfl (lv_at hl 1 rfl) ?_
        refine lv_bipush (v := 40) hx hb dX4_readUnit_106 kc_bipush_40 ?_
        obtain ⟨hPc, hDc, hFc, hqc⟩ := cl_cut (wc := (wd_c_X9_expect_1 h1 h1_0 h1_f1 x_74 h1_f3 h1_0 h1_0k h1_0c)) hP hD hS hA [0, 1] (by decide +kernel) rfl
        have hKc := hK.sub (tys' := [(h1_0k, .int)]) [0] rfl
        have hrv := va_recv hKc hPc (ci := 9) (q0 := 0) rfl rfl
        refine va_callv (va_runV (As := [.int 40]) (rest := []) ⟨hx, hb, hml, hown, hts⟩ (c_X9_expect_1 l dC dI H.size h1 40 h1_0 h1_f1 x_74 h1_f3 h1_0k h1_0c (RG_w (RG_k 40 40 rfl) (by decide +kernel)) (RG_w h_61 (by decide +kernel)) h_76 g_h1_f3 a_h1_0c) (cwV 1 hts gf_c_X4_readUnit_6_c_X9_expect_1 rfl rfl rfl mdV_X9_expect ⟨Nat.le_of_ble_eq_true rfl, Nat.le_of_ble_eq_true rfl⟩) ⟨fun a U g mk q => by obtain ⟨q0, q1, qP, qK, qD⟩ := q; exact ⟨q0, q1, qP, va_K.moved (u := U) (U := U.calling g mk a) (Vm.Alike.refl U.vm) qK, qD⟩, hrv, fun U hU hW => ⟨rfl, by rw [hU], by rw [hU]; exact hPc, va_K.moved hW.alike hKc, hDc.weaken (fun _ _ _ _ => trivial)⟩⟩ rfl rfl hl.1 rfl (lv_room (Nat.le_of_ble_eq_true rfl)) dX4_readUnit_108 ⟨Nat.le_of_ble_eq_true rfl, Nat.le_of_ble_eq_true rfl⟩) hS (fun q _ h => hFc q h) hFc (fun u t H1 locs ht hvm hw hB hz1 hk1 hS => ?_)
        obtain ⟨x_85, x_86⟩ := u
        obtain ⟨hP1, hK1, hD1⟩ := hB
        rw [ht] at hP1
        obtain ⟨hP, hD⟩ := cl_put (w1 := (wd_c_X9_expect_1 h1 h1_0 h1_f1 x_85 x_86 h1_0 h1_0k h1_0c)) (nw := (wd_c_X4_readUnit_6 h1 h1_0 h1_f1 x_85 x_86 h1_0 h1_0k h1_0c h0 h0_0 h0_f1 h0_2 h0_0 h0_0k h0_0c)) hP hD [0, 1] [4, 5, 2, 3] 4 rfl hqc (by decide +kernel) rfl hk1 hFc hP1 hD1
        generalize H1 = H at hP hS ⊢
        as_aux_lemma =>
        rcases hw with ⟨h_87, h_88, h_89⟩
        refine lv_aload_n hx hb dX4_readUnit_111 rfl (lv_at hl 0 rfl) ?_
        refine lv_aload_n hx hb dX4_readUnit_112 rfl (lv_at hl 1 rfl) ?_
        refine lv_iload_n hx hb dX4_readUnit_113 rfl (lv_at hl 2 rfl) ?_
        refine lv_iconst (v := 1) hx hb dX4_readUnit_114 kc_iconst_1 ?_
        refine lv_iadd hx hb dX4_readUnit_115 ?_
        refine lv_topi (fun x_90 ex_90 => ?_)
        obtain rfl : x_90 = 6 := ex_90.trans (by decide +kernel)
        refine lv_iconst (v := 0) hx hb dX4_readUnit_116 kc_iconst_0 ?_
        obtain ⟨hPc, hDc, hFc, hqc⟩ := cl_cut (wc := (wd_c_X4_readCondition_6 h1 h1_0 h1_f1 x_85 x_86 h1_0 h1_0k h1_0c h0 h0_0 h0_f1 h0_2 h0_0 h0_0k h0_0c)) hP hD hS hA [0, 1, 2, 3] (by decide +kernel) rfl
        have hKc := hK.sub (tys' := [(h1_0k, .int), (h0_0k, .int)]) [0, 1] rfl
        have hrv := va_recv hKc hPc (ci := 4) (q0 := 2) rfl rfl
        refine va_callv (va_runV (As := [.ref h1, .int 6, .int 0]) (rest := []) ⟨hx, hb, hml, hown, hts⟩ (c_X4_readCondition_6 l dC dI H.size h0 h1 h1_0 h1_f1 x_85 x_86 h1_0k h1_0c h0_0 h0_f1 h0_2 h0_0k h0_0c ts4 tv4 (RG_w h_61 (by decide +kernel)) h_87 h_88 a_h1_0c g_h0_f1) (cwV 3 hts gf_c_X4_readUnit_6_c_X4_readCondition_6 rfl rfl rfl mdV_X4_readCondition ⟨Nat.le_of_ble_eq_true rfl, Nat.le_of_ble_eq_true rfl⟩) ⟨fun a U g mk q => by obtain ⟨q0, q1, qP, qK, qD, qE0, qE1, qE2, qE3, qE4, qE5⟩ := q; exact ⟨q0, q1, qP, va_K.moved (u := U) (U := U.calling g mk a) (Vm.Alike.refl U.vm) qK, qD, vk_R.same rfl qE0, va_Z.moved (u := U) (U := U.calling g mk a) (Vm.Alike.refl U.vm) qE1, va_OF.moved (u := U) (U := U.calling g mk a) (Vm.Alike.refl U.vm) qE2, va_O.moved (u := U) (U := U.calling g mk a) (Vm.Alike.refl U.vm) qE3, va_OF.moved (u := U) (U := U.calling g mk a) (Vm.Alike.refl U.vm) qE4, va_T.moved (u := U) (U := U.calling g mk a) (Vm.Alike.refl U.vm) qE5⟩, hrv, fun U hU hW => ⟨rfl, by rw [hU], by rw [hU]; exact hPc, va_K.moved hW.alike hKc, hDc.weaken (fun _ _ _ _ => trivial), vk_R.warm hW hE_32, va_Z.moved hW.alike (by rw [hU]; exact (hE_10.kept hS.2.1).narrow hFc), va_OF.moved hW.alike (by rw [hU]; exact (hE_34.kept hS.2.1).narrow hFc), va_O.moved hW.alike (by rw [hU]; exact (hE_33.kept hS.2.1).narrow hFc), va_OF.moved hW.alike (by rw [hU]; exact (hE_35.kept hS.2.1).narrow hFc), va_T.moved hW.alike (by rw [hU]; exact (hE_36.kept hS.2.1).narrow hFc)⟩⟩ rfl rfl hl.1 rfl (lv_room (Nat.le_of_ble_eq_true rfl)) dX4_readUnit_117 ⟨Nat.le_of_ble_eq_true rfl, Nat.le_of_ble_eq_true rfl⟩) hS (fun q _ h => hFc q h) hFc (fun u t H1 locs ht hvm hw hB hz1 hk1 hS => ?_)
        obtain ⟨x_92, x_93, x_94, w_95⟩ := u
        obtain ⟨hP1, hK1, hD1⟩ := hB
        rw [ht] at hP1
        obtain ⟨hP, hD⟩ := cl_put (w1 := (wd_c_X4_readCondition_6 h1 h1_0 h1_f1 x_92 x_93 h1_0 h1_0k h1_0c h0 h0_0 x_94 h0_2 h0_0 h0_0k w_95)) (nw := (wd_c_X4_readUnit_6 h1 h1_0 h1_f1 x_92 x_93 h1_0 h1_0k h1_0c h0 h0_0 x_94 h0_2 h0_0 h0_0k w_95)) hP hD [0, 1, 2, 3] [4, 5, 6, 7] 4 rfl hqc (by decide +kernel) rfl hk1 hFc hP1 hD1
        generalize H1 = H at hP hS ⊢
        as_aux_lemma =>
        rcases hw with ⟨h_96, h_97, h_98⟩
        refine lv_aload_n hx hb dX4_readUnit_120 rfl (lv_at hl 1 rfl) ?_
        refine lv_bipush (v := 41) hx hb dX4_readUnit_121 kc_bipush_41 ?_
        obtain ⟨hPc, hDc, hFc, hqc⟩ := cl_cut (wc := (wd_c_X9_expect_1 h1 h1_0 h1_f1 x_92 x_93 h1_0 h1_0k h1_0c)) hP hD hS hA [0, 1] (by decide +kernel) rfl
        have hKc := hK.sub (tys' := [(h1_0k, .int)]) [0] rfl
        have hrv := va_recv hKc hPc (ci := 9) (q0 := 0) rfl rfl
        refine va_callv (va_runV (As := [.int 41]) (rest := []) ⟨hx, hb, hml, hown, hts⟩ (c_X9_expect_1 l dC dI H.size h1 41 h1_0 h1_f1 x_92 x_93 h1_0k h1_0c (RG_w (RG_k 41 41 rfl) (by decide +kernel)) (RG_w h_61 (by decide +kernel)) h_96 h_97 a_h1_0c) (cwV 1 hts gf_c_X4_readUnit_6_c_X9_expect_1 rfl rfl rfl mdV_X9_expect ⟨Nat.le_of_ble_eq_true rfl, Nat.le_of_ble_eq_true rfl⟩) ⟨fun a U g mk q => by obtain ⟨q0, q1, qP, qK, qD⟩ := q; exact ⟨q0, q1, qP, va_K.moved (u := U) (U := U.calling g mk a) (Vm.Alike.refl U.vm) qK, qD⟩, hrv, fun U hU hW => ⟨rfl, by rw [hU], by rw [hU]; exact hPc, va_K.moved hW.alike hKc, hDc.weaken (fun _ _ _ _ => trivial)⟩⟩ rfl rfl hl.1 rfl (lv_room (Nat.le_of_ble_eq_true rfl)) dX4_readUnit_123 ⟨Nat.le_of_ble_eq_true rfl, Nat.le_of_ble_eq_true rfl⟩) hS (fun q _ h => hFc q h) hFc (fun u t H1 locs ht hvm hw hB hz1 hk1 hS => ?_)
        obtain ⟨x_100, x_101⟩ := u
        obtain ⟨hP1, hK1, hD1⟩ := hB
        rw [ht] at hP1
        obtain ⟨hP, hD⟩ := cl_put (w1 := (wd_c_X9_expect_1 h1 h1_0 h1_f1 x_100 x_101 h1_0 h1_0k h1_0c)) (nw := (wd_c_X4_readUnit_6 h1 h1_0 h1_f1 x_100 x_101 h1_0 h1_0k h1_0c h0 h0_0 x_94 h0_2 h0_0 h0_0k w_95)) hP hD [0, 1] [4, 5, 2, 3] 4 rfl hqc (by decide +kernel) rfl hk1 hFc hP1 hD1
        generalize H1 = H at hP hS ⊢
        as_aux_lemma =>
        rcases hw with ⟨h_102, h_103, h_104⟩
        have hK9 := hK.sub (tys' := []) [] rfl
        exact W.vret hx hb hr (fun t ht hW => ⟨⟨(x_100, x_101, x_94, w_95), rfl, ⟨h_102, h_103, h_98⟩, by rw [ht]; exact hP, va_K.moved hW.alike hK9, hD⟩, hS.F ht⟩) hS.2.2 dX4_readUnit_126
      · rw [h_78]
        refine lv_if_eq (tgt := 105) hx hb dX4_readUnit_84 rfl (fun c_105 => absurd c_105 (by decide +kernel)) (fun c_105 => ?_)
        refine lv_aload_n hx hb dX4_readUnit_87 rfl (lv_at hl 0 rfl) ?_
        refine lv_aload_n hx hb dX4_readUnit_88 rfl (lv_at hl 1 rfl) ?_
        refine lv_iload_n hx hb dX4_readUnit_89 rfl (lv_at hl 2 rfl) ?_
        refine lv_iconst (v := 1) hx hb dX4_readUnit_90 kc_iconst_1 ?_
        refine lv_iadd hx hb dX4_readUnit_91 ?_
        refine lv_topi (fun x_106 ex_106 => ?_)
        obtain rfl : x_106 = 6 := ex_106.trans (by decide +kernel)
        refine lv_iconst (v := 0) hx hb dX4_readUnit_92 kc_iconst_0 ?_
        obtain ⟨hPc, hDc, hFc, hqc⟩ := cl_cut (wc := (wd_c_X4_readUnit_7 h1 h1_0 h1_f1 x_74 h1_f3 h1_0 h1_0k h1_0c h0 h0_0 h0_f1 h0_2 h0_0 h0_0k h0_0c)) hP hD hS hA [0, 1, 2, 3] (by decide +kernel) rfl
        have hKc := hK.sub (tys' := [(h1_0k, .int), (h0_0k, .int)]) [0, 1] rfl
        have hrv := va_recv hKc hPc (ci := 4) (q0 := 2) rfl rfl
        refine va_callv (va_runV (As := [.ref h1, .int 6, .int 0]) (rest := []) ⟨hx, hb, hml, hown, hts⟩ (c_X4_readUnit_7 l dC dI H.size h0 h1 h1_0 h1_f1 x_74 h1_f3 h1_0k h1_0c h0_0 h0_f1 h0_2 h0_0k h0_0c ts4 tv4 (RG_w h_61 (by decide +kernel)) (RG_w h_79 (by decide +kernel)) (RG_w h_81 (by decide +kernel)) a_h1_0c g_h0_f1) (cwV 3 hts gf_c_X4_readUnit_6_c_X4_readUnit_7 rfl rfl rfl mdV_X4_readUnit ⟨Nat.le_of_ble_eq_true rfl, Nat.le_of_ble_eq_true rfl⟩) ⟨fun a U g mk q => by obtain ⟨q0, q1, qP, qK, qD, qE0, qE1, qE2, qE3, qE4, qE5⟩ := q; exact ⟨q0, q1, qP, va_K.moved (u := U) (U := U.calling g mk a) (Vm.Alike.refl U.vm) qK, qD, vk_R.same rfl qE0, va_Z.moved (u := U) (U := U.calling g mk a) (Vm.Alike.refl U.vm) qE1, va_OF.moved (u := U) (U := U.calling g mk a) (Vm.Alike.refl U.vm) qE2, va_O.moved (u := U) (U := U.calling g mk a) (Vm.Alike.refl U.vm) qE3, va_OF.moved (u := U) (U := U.calling g mk a) (Vm.Alike.refl U.vm) qE4, va_T.moved (u := U) (U := U.calling g mk a) (Vm.Alike.refl U.vm) qE5⟩, hrv, fun U hU hW => ⟨rfl, by rw [hU], by rw [hU]; exact hPc, va_K.moved hW.alike hKc, hDc.weaken (fun _ _ _ _ => trivial), vk_R.warm hW hE_32, va_Z.moved hW.alike (by rw [hU]; exact (hE_10.kept hS.2.1).narrow hFc), va_OF.moved hW.alike (by rw [hU]; exact (hE_34.kept hS.2.1).narrow hFc), va_O.moved hW.alike (by rw [hU]; exact (hE_33.kept hS.2.1).narrow hFc), va_OF.moved hW.alike (by rw [hU]; exact (hE_35.kept hS.2.1).narrow hFc), va_T.moved hW.alike (by rw [hU]; exact (hE_36.kept hS.2.1).narrow hFc)⟩⟩ rfl rfl hl.1 rfl (lv_room (Nat.le_of_ble_eq_true rfl)) dX4_readUnit_93 ⟨Nat.le_of_ble_eq_true rfl, Nat.le_of_ble_eq_true rfl⟩) hS (fun q _ h => hFc q h) hFc (fun u t H1 locs ht hvm hw hB hz1 hk1 hS => ?_)
        as_aux_lemma =>
        obtain ⟨x_108, x_109, x_110, w_111⟩ := u
        obtain ⟨hP1, hK1, hD1⟩ := hB
        rw [ht] at hP1
        obtain ⟨hP, hD⟩ := cl_put (w1 := (wd_c_X4_readUnit_7 h1 h1_0 h1_f1 x_108 x_109 h1_0 h1_0k h1_0c h0 h0_0 x_110 h0_2 h0_0 h0_0k w_111)) (nw := (wd_c_X4_readUnit_6 h1 h1_0 h1_f1 x_108 x_109 h1_0 h1_0k h1_0c h0 h0_0 x_110 h0_2 h0_0 h0_0k w_111)) hP hD [0, 1, 2, 3] [4, 5, 6, 7] 4 rfl hqc (by decide +kernel) rfl hk1 hFc hP1 hD1
        generalize H1 = H at hP hS ⊢
        as_aux_lemma =>
        rcases hw with ⟨h_112, h_113, h_114⟩
        refine lv_aload_n hx hb dX4_readUnit_96 rfl (lv_at hl 0 rfl) ?_
        refine lv_bipush (v := (-33)) hx hb dX4_readUnit_97 kc_bipush_m33 ?_
        obtain ⟨hPc, hDc, hFc, hqc⟩ := cl_cut (wc := (wd_c_X4_emit h0 h0_0 x_110 h0_2 h0_0 h0_0k w_111)) hP hD hS hA [2, 3] (by decide +kernel) rfl
        have hKc := hK.sub (tys' := [(h0_0k, .int)]) [1] rfl
        have hrv := va_recv hKc hPc (ci := 4) (q0 := 0) rfl rfl
        refine va_callv (va_runV (As := [.int (-33)]) (rest := []) ⟨hx, hb, hml, hown, hts⟩ (c_X4_emit l dC dI H.size h0 (-33) h0_0 x_110 h0_2 h0_0k w_111 h_114) (cwV 1 hts gf_c_X4_readUnit_6_c_X4_emit rfl rfl rfl mdV_X4_emit ⟨Nat.le_of_ble_eq_true rfl, Nat.le_of_ble_eq_true rfl⟩) ⟨fun a U g mk q => by obtain ⟨q0, q1, qP, qK, qD⟩ := q; exact ⟨q0, q1, qP, va_K.moved (u := U) (U := U.calling g mk a) (Vm.Alike.refl U.vm) qK, qD⟩, hrv, fun U hU hW => ⟨rfl, by rw [hU], by rw [hU]; exact hPc, va_K.moved hW.alike hKc, hDc.weaken (fun _ _ _ _ => trivial)⟩⟩ rfl rfl hl.1 rfl (lv_room (Nat.le_of_ble_eq_true rfl)) dX4_readUnit_99 ⟨Nat.le_of_ble_eq_true rfl, Nat.le_of_ble_eq_true rfl⟩) hS (fun q _ h => hFc q h) hFc (fun u t H1 locs ht hvm hw hB hz1 hk1 hS => ?_)
        obtain ⟨x_116, w_117⟩ := u
        obtain ⟨hP1, hK1, hD1⟩ := hB
        rw [ht] at hP1
        obtain ⟨hP, hD⟩ := cl_put (w1 := (wd_c_X4_emit h0 h0_0 x_116 h0_2 h0_0 h0_0k w_117)) (nw := (wd_c_X4_readUnit_6 h1 h1_0 h1_f1 x_108 x_109 h1_0 h1_0k h1_0c h0 h0_0 x_116 h0_2 h0_0 h0_0k w_117)) hP hD [2, 3] [0, 1, 4, 5] 4 rfl hqc (by decide +kernel) rfl hk1 hFc hP1 hD1
        generalize H1 = H at hP hS ⊢
        as_aux_lemma =>
        have h_118 := hw
        refine lv_goto (tgt := 126) hx hb dX4_readUnit_102 rfl ?_
        have hK9 := hK.sub (tys' := []) [] rfl
        exact W.vret hx hb hr (fun t ht hW => ⟨⟨(x_108, x_109, x_116, w_117), rfl, ⟨h_112, h_113, (RG_w h_118 (by decide +kernel))⟩, by rw [ht]; exact hP, va_K.moved hW.alike hK9, hD⟩, hS.F ht⟩) hS.2.2 dX4_readUnit_126
noncomputable def wd_c_X4_readCondition_5 (a0 : Nat) (a1 : Nat) (a2 : Int32) (a3 : Int32) (a4 : Int32) (a5 : Nat) (a6 : ClassId) (a7 : Nat → Int32) (a8 : Nat) (a9 : Nat) (a10 : Int32) (a11 : Nat) (a12 : Nat) (a13 : ClassId) (a14 : Nat → Int32) : va_W := [(a0, .inr (9, [.ref a1, .int a2, .int a3, .int a4])), (a5, .inl (a6, 240, .inl a7)), (a8, .inr (4, [.ref a9, .int a10, .ref a11])), (a12, .inl (a13, 240, .inl a14))]
noncomputable def wf_c_X4_readCondition_5 : List Cond := List.cons (.code yX4_readCondition cX4_readCondition 7 none) (@HAppend.hAppend (List Cond) (List Cond) (List Cond) _ (@HAppend.hAppend (List Cond) (List Cond) (List Cond) _ [.methodLink RX4 72 yX9_isRight, .instanceMethod yX9_isRight, .selects RX9 yX9_isRight yX9_isRight, .initialized RX9, .code yX9_isRight cX9_isRight 1 (some .boolean), .fieldLink RX9 15 "BuoyVote$Tape" "wrong" "I", .methodLink RX4 76 yX4_readUnit, .instanceMethod yX4_readUnit, .selects RX4 yX4_readUnit yX4_readUnit, .initialized RX4, .code yX4_readUnit cX4_readUnit 5 none, .methodLink RX4 41 yX9_peek, .instanceMethod yX9_peek, .selects RX9 yX9_peek yX9_peek, .code yX9_peek cX9_peek 1 (some .int), .fieldLink RX9 22 "BuoyVote$Tape" "at" "I", .fieldLink RX9 19 "BuoyVote$Tape" "length" "I", .fieldLink RX9 11 "BuoyVote$Tape" "bytes" "[I", .methodLink RX4 45 yX4_startsUnit, .static yX4_startsUnit, .code yX4_startsUnit cX4_startsUnit 1 (some .boolean), .methodLink RX4 63 yX9_take, .instanceMethod yX9_take, .selects RX9 yX9_take yX9_take, .code yX9_take cX9_take 2 (some .boolean), .methodLink RX9 29 yX9_peek, .methodLink RX4 37 yX9_expect, .instanceMethod yX9_expect, .selects RX9 yX9_expect yX9_expect, .code yX9_expect cX9_expect 2 none, .methodLink RX9 25 yX9_refuse, .instanceMethod yX9_refuse, .selects RX9 yX9_refuse yX9_refuse, .code yX9_refuse cX9_refuse 2 none, .methodLink RX4 56 yX4_readCondition, .instanceMethod yX4_readCondition, .selects RX4 yX4_readCondition yX4_readCondition, .methodLink RX4 82 yX9_refuseHere, .instanceMethod yX9_refuseHere, .selects RX9 yX9_refuseHere yX9_refuseHere, .code yX9_refuseHere cX9_refuseHere 1 none, .methodLink RX4 49 yX4_readSum, .instanceMethod yX4_readSum, .selects RX4 yX4_readSum yX4_readSum, .code yX4_readSum cX4_readSum 6 none, .methodLink RX4 85 yX4_readAtom, .instanceMethod yX4_readAtom, .selects RX4 yX4_readAtom yX4_readAtom, .code yX4_readAtom cX4_readAtom 6 none, .methodLink RX4 93 yJ0_indexOf_0f7a4, .instanceMethod yJ0_indexOf_0f7a4, .selects RJ0 yJ0_indexOf_0f7a4 yJ0_indexOf_0f7a4, .initialized RJ0, .code yJ0_indexOf_0f7a4 cJ0_indexOf_0f7a4 2 (some .int), .methodLink RJ0 633 yJ0_indexOf_7cf53, .instanceMethod yJ0_indexOf_7cf53, .selects RJ0 yJ0_indexOf_7cf53 yJ0_indexOf_7cf53, .code yJ0_indexOf_7cf53 cJ0_indexOf_7cf53 3 (some .int), .methodLink RJ0 492 yJ0_isLatin1_aae02, .instanceMethod yJ0_isLatin1_aae02, .selects RJ0 yJ0_isLatin1_aae02 yJ0_isLatin1_aae02, .code yJ0_isLatin1_aae02 cJ0_isLatin1_aae02 1 (some .boolean), .fieldLink RJ0 38 "java/lang/String" "COMPACT_STRINGS" "Z", .fieldLink RJ0 15 "java/lang/String" "coder" "B", .fieldLink RJ0 9 "java/lang/String" "value" "[B", .methodLink RJ0 505 yJ0_length_8abf5, .instanceMethod yJ0_length_8abf5, .selects RJ0 yJ0_length_8abf5 yJ0_length_8abf5, .code yJ0_length_8abf5 cJ0_length_8abf5 1 (some .int), .methodLink RJ0 335 yJ0_coder_7d493, .instanceMethod yJ0_coder_7d493, .selects RJ0 yJ0_coder_7d493 yJ0_coder_7d493, .code yJ0_coder_7d493 cJ0_coder_7d493 1 (some .byte), .methodLink RJ0 637 yJ1_indexOf_4cfef, .static yJ1_indexOf_4cfef, .initialized RJ1, .code yJ1_indexOf_4cfef cJ1_indexOf_4cfef 4 (some .int), .methodLink RJ1 88 yJ1_canEncode_9a6ad, .static yJ1_canEncode_9a6ad, .code yJ1_canEncode_9a6ad cJ1_canEncode_9a6ad 1 (some .boolean), .methodLink RJ1 92 Lib.Math.max.name, .static Lib.Math.max.name, .initialized "java/lang/Math", .code Lib.Math.max.name Lib.Math.max.code 2 (some .int), .methodLink RJ1 38 Lib.Math.min.name, .static Lib.Math.min.name, .code Lib.Math.min.name Lib.Math.min.code 2 (some .int), .methodLink RJ1 95 yJ1_indexOfChar_4cfef, .static yJ1_indexOfChar_4cfef, .code yJ1_indexOfChar_4cfef cJ1_indexOfChar_4cfef 6 (some .int), .methodLink RX4 99 yX9_number, .instanceMethod yX9_number, .selects RX9 yX9_number yX9_number, .code yX9_number cX9_number 4 (some .int), .methodLink RX4 79 yX9_skip, .instanceMethod yX9_skip, .selects RX9 yX9_skip yX9_skip, .code yX9_skip cX9_skip 1 none, .methodLink RX4 60 yX4_emit, .instanceMethod yX4_emit, .selects RX4 yX4_emit yX4_emit, .code yX4_emit cX4_emit 2 none, .fieldLink RX4 20 "BuoyVote$Law" "length" "I", .fieldLink RX4 11 "BuoyVote$Law" "code" "[I", .methodLink RX4 88 yX9_takeEither, .instanceMethod yX9_takeEither, .selects RX9 yX9_takeEither yX9_takeEither, .code yX9_takeEither cX9_takeEither 4 (some .int), .methodLink RX4 53 yX4_isComparison, .static yX4_isComparison, .code yX4_isComparison cX4_isComparison 1 (some .boolean)] wsX90) wsX40)
theorem iw_c_X4_readCondition_5_X9 : ∀ w ∈ wsX90, w ∈ wf_c_X4_readCondition_5 := fun w h => List.mem_cons_of_mem _ (List.mem_append_left _ (List.mem_append_right _ h))
theorem iw_c_X4_readCondition_5_X4 : ∀ w ∈ wsX40, w ∈ wf_c_X4_readCondition_5 := fun w h => List.mem_cons_of_mem _ (List.mem_append_right _ h)
set_option maxRecDepth 20000 in
theorem gf_c_X4_readCondition_5_c_X9_take_1 : GoodIn wf_c_X4_readCondition_5 (wsV RX4 63 RX9 yX9_take wf_c_X9_take_1) := goodIn_app (gi_l [22, 23, 24, 4] rfl rfl) (gi_cons (j := 25) rfl rfl (goodIn_app (gi_l [6, 26, 13, 14, 4, 15, 16, 17, 18] rfl rfl) (goodIn_sub iw_c_X4_readCondition_5_X9 gw_X9)))
set_option maxRecDepth 20000 in
theorem gf_c_X4_readCondition_5_c_X9_take : GoodIn wf_c_X4_readCondition_5 (wsV RX4 63 RX9 yX9_take wf_c_X9_take) := goodIn_app (gi_l [22, 23, 24, 4] rfl rfl) (gi_cons (j := 25) rfl rfl (goodIn_app (gi_l [6, 26, 13, 14, 4, 15, 16, 17, 18] rfl rfl) (goodIn_sub iw_c_X4_readCondition_5_X9 gw_X9)))
set_option maxRecDepth 20000 in
theorem gf_c_X4_readCondition_5_c_X4_emit : GoodIn wf_c_X4_readCondition_5 (wsV RX4 60 RX4 yX4_emit wf_c_X4_emit) := goodIn_app (gi_l [99, 100, 101, 10] rfl rfl) (gi_cons (j := 102) rfl rfl (goodIn_app (gi_l [103, 104] rfl rfl) (goodIn_sub iw_c_X4_readCondition_5_X4 gw_X4)))
set_option maxRecDepth 20000 in
theorem gf_c_X4_readCondition_5_c_X4_readUnit_6 : GoodIn wf_c_X4_readCondition_5 (wsV RX4 76 RX4 yX4_readUnit wf_c_X4_readUnit_6) := goodIn_app (gi_l [7, 8, 9, 10] rfl rfl) (gi_cons (j := 11) rfl rfl (goodIn_app (goodIn_app (gi_l [12, 13, 14, 4, 15, 16, 17, 18, 19, 20, 10, 21, 22, 23, 24, 25, 6, 26, 27, 28, 29, 30, 31, 32, 33, 34, 35, 36, 37, 0, 1, 2, 3, 5, 7, 8, 9, 38, 39, 40, 41, 42, 43, 44, 45, 46, 47, 48, 49, 50, 51, 52, 53, 54, 55, 56, 57, 58, 59, 60, 61, 62, 63, 64, 65, 66, 67, 68, 69, 70, 71, 72, 73, 74, 75, 76, 77, 78, 79, 80, 81, 82, 83, 84, 85, 86, 87, 88, 89, 90, 91, 92, 93, 94, 95, 96, 97, 98, 99, 100, 101, 102, 103, 104, 105, 106, 107, 108, 109, 110, 111] rfl rfl) (goodIn_sub iw_c_X4_readCondition_5_X9 gw_X9)) (goodIn_sub iw_c_X4_readCondition_5_X4 gw_X4)))
set_option maxRecDepth 20000 in
theorem gf_c_X4_readCondition_5_c_X9_isRight : GoodIn wf_c_X4_readCondition_5 (wsV RX4 72 RX9 yX9_isRight wf_c_X9_isRight) := goodIn_app (gi_l [1, 2, 3, 4] rfl rfl) (gi_cons (j := 5) rfl rfl (goodIn_app (gi_l [6] rfl rfl) (goodIn_sub iw_c_X4_readCondition_5_X9 gw_X9)))
set_option maxHeartbeats 4000000 in
set_option maxRecDepth 100000 in
theorem c_X4_readCondition_5 (l : Launch) (dC : Nat → ClassId) (dI : Nat → Nat → Nat) (sz : Nat) (h0 : Nat) (h1 : Nat) (h1_0 : Nat) (h1_f1 : Int32) (h1_f2 : Int32) (h1_f3 : Int32) (h1_0k : ClassId) (h1_0c : Nat → Int32) (h0_0 : Nat) (h0_f1 : Int32) (h0_2 : Nat) (h0_0k : ClassId) (h0_0c : Nat → Int32) (ts4 : Nat) (tv4 : Nat) (g_h1_f1 : RG h1_f1 0 240) (g_h1_f2 : RG h1_f2 0 240) (g_h1_f3 : RG h1_f3 (-1) 240) (a_h1_0c : AI h1_0c 0 255) (g_h0_f1 : RG h0_f1 0 240) : Met l yX4_readCondition wf_c_X4_readCondition_5 ({ frames := 9, cells := 0, slots := 0, locals := 215 }) (va_Pc [.ref h0, .ref h1, .int 5, .int 0] (fun U => U.heap.size = sz ∧ va_P (dC, dI) vwCl (wd_c_X4_readCondition_5 h1 h1_0 h1_f1 h1_f2 h1_f3 h1_0 h1_0k h1_0c h0 h0_0 h0_f1 h0_2 h0_0 h0_0k h0_0c) U.heap ∧ va_K (dC, dI) vwCl [(h1_0k, .int), (h0_0k, .int)] U ∧ va_D (fun _ => True) (wd_c_X4_readCondition_5 h1 h1_0 h1_f1 h1_f2 h1_f3 h1_0 h1_0k h1_0c h0 h0_0 h0_f1 h0_2 h0_0 h0_0k h0_0c) ∧ vk_R RX4 91 "vlrdph" ts4 U ∧ va_Z "java/lang/String" "COMPACT_STRINGS" "Z" (.int 1) (va_A (wd_c_X4_readCondition_5 h1 h1_0 h1_f1 h1_f2 h1_f3 h1_0 h1_0k h1_0c h0 h0_0 h0_f1 h0_2 h0_0 h0_0k h0_0c) sz) U U.heap ∧ va_OF "java/lang/String" "coder" "B" (.int 0) ts4 (va_A (wd_c_X4_readCondition_5 h1 h1_0 h1_f1 h1_f2 h1_f3 h1_0 h1_0k h1_0c h0 h0_0 h0_f1 h0_2 h0_0 h0_0k h0_0c) sz) U U.heap ∧ va_O "java/lang/String" ts4 (va_A (wd_c_X4_readCondition_5 h1 h1_0 h1_f1 h1_f2 h1_f3 h1_0 h1_0k h1_0c h0 h0_0 h0_f1 h0_2 h0_0 h0_0k h0_0c) sz) U U.heap ∧ va_OF "java/lang/String" "value" "[B" (.ref tv4) ts4 (va_A (wd_c_X4_readCondition_5 h1 h1_0 h1_f1 h1_f2 h1_f3 h1_0 h1_0k h1_0c h0 h0_0 h0_f1 h0_2 h0_0 h0_0k h0_0c) sz) U U.heap ∧ va_T .byte tv4 6 (fun j => .int ([118, 108, 114, 100, 112, 104].getD j 0)) (va_A (wd_c_X4_readCondition_5 h1 h1_0 h1_f1 h1_f2 h1_f3 h1_0 h1_0k h1_0c h0 h0_0 h0_f1 h0_2 h0_0 h0_0k h0_0c) sz) U U.heap)) (va_Qv (fun (u : (Int32) × (Int32) × (Int32) × (Nat → Int32)) => (RG u.1 0 240 ∧ RG u.2.1 (-1) 240 ∧ RG u.2.2.1 0 240)) (fun (u : (Int32) × (Int32) × (Int32) × (Nat → Int32)) t => va_P (dC, dI) vwCl (wd_c_X4_readCondition_5 h1 h1_0 h1_f1 (u.1) (u.2.1) h1_0 h1_0k h1_0c h0 h0_0 (u.2.2.1) h0_2 h0_0 h0_0k (u.2.2.2)) t.heap ∧ va_K (dC, dI) vwCl [] t ∧ va_D (va_A (wd_c_X4_readCondition_5 h1 h1_0 h1_f1 h1_f2 h1_f3 h1_0 h1_0k h1_0c h0 h0_0 h0_f1 h0_2 h0_0 h0_0k h0_0c) sz) (wd_c_X4_readCondition_5 h1 h1_0 h1_f1 (u.1) (u.2.1) h1_0 h1_0k h1_0c h0 h0_0 (u.2.2.1) h0_2 h0_0 h0_0k (u.2.2.2))) (va_A (wd_c_X4_readCondition_5 h1 h1_0 h1_f1 h1_f2 h1_f3 h1_0 h1_0k h1_0c h0 h0_0 h0_f1 h0_2 h0_0 h0_0k h0_0c) sz)) 0 0 (va_A (wd_c_X4_readCondition_5 h1 h1_0 h1_f1 h1_f2 h1_f3 h1_0 h1_0k h1_0c h0 h0_0 h0_f1 h0_2 h0_0 h0_0k h0_0c) sz) := by
  refine Met.ofW (cc := cX4_readCondition) (maxL := 7) (ret := none) (by decide +kernel) rfl ?_
  intro p e s m args below meth c s₁ B hml hv
  obtain ⟨rfl, hsz, hP, hK, hD0, hE_32, hE_10, hE_34, hE_33, hE_35, hE_36⟩ := hv
  have hx := B.exec
  have hb := B.bytes
  have hr := B.returns
  have hts := atoms_spec (ws := wf_c_X4_readCondition_5) B.pre
  have hown : s.vm.findClass RX4 = some m.cls := findClass_of_methodNamed B.named
  have hlocks := B.notSynchronized
  subst hsz
  have hD := hD0.self (sz := s.heap.size)
  generalize hAe : va_A (wd_c_X4_readCondition_5 h1 h1_0 h1_f1 h1_f2 h1_f3 h1_0 h1_0k h1_0c h0 h0_0 h0_f1 h0_2 h0_0 h0_0k h0_0c) s.heap.size = A at hD hE_10 hE_34 hE_33 hE_35 hE_36 ⊢
  have hA : ∀ q : Nat, s.heap.size ≤ q → A q := fun q h => by rw [← hAe]; exact Or.inr h
  have hP : va_P (dC, dI) vwCl (wd_c_X4_readCondition_5 h1 h1_0 h1_f1 h1_f2 h1_f3 h1_0 h1_0k h1_0c h0 h0_0 h0_f1 h0_2 h0_0 h0_0k h0_0c) s.heap := hP
  have hl := lv_entry ([.ref h0, .ref h1, .int 5, .int 0]) (n := 7) (Nat.le_of_ble_eq_true rfl)
  rw [lg_entry_eq]
  generalize (lg_sl ([.ref h0, .ref h1, .int 5, .int 0]) ++ List.replicate (7 - (lg_sl ([.ref h0, .ref h1, .int 5, .int 0])).length) Slot.unset).toArray = ls at hl ⊢
  have hl : lv_has ls 7 [(0, .ref h0), (1, .ref h1), (2, .int 5), (3, .int 0)] := hl
  obtain ⟨H, hHe⟩ : ∃ H : Heap, s.heap = H := ⟨_, rfl⟩
  have hS : va_S A s.heap H [] := by rw [hHe]; exact va_S.rf
  have hP : va_P (dC, dI) vwCl (wd_c_X4_readCondition_5 h1 h1_0 h1_f1 h1_f2 h1_f3 h1_0 h1_0k h1_0c h0 h0_0 h0_f1 h0_2 h0_0 h0_0k h0_0c) H := by rw [← hHe]; exact hP
  rw [hHe]
  refine wj (fun G hG hU => ?_)
  as_aux_lemma =>
  have J9 : ∀ (n9 : Nat) (j9_l6 : Int32) (j9_l5 : Int32) (j9_l4 : Int32) (j9_h1_f2 : Int32) (j9_h1_f3 : Int32) (j9_h0_f1 : Int32) (j9_h0_0c : Nat → Int32) (hM9 : MU j9_l6 < n9) (g_h0_f1 : RG h0_f1 0 240) (g_h1_f1 : RG h1_f1 0 240) (g_h1_f2 : RG h1_f2 0 240) (g_h1_f3 : RG h1_f3 (-1) 240) (g_j9_h0_f1 : RG j9_h0_f1 0 240) (g_j9_h1_f2 : RG j9_h1_f2 0 240) (g_j9_h1_f3 : RG j9_h1_f3 (-1) 240) (g_j9_l4 : RG j9_l4 0 1) (g_j9_l5 : RG j9_l5 0 1) (g_j9_l6 : RG j9_l6 0 240) (H : Heap) (locs : List Loc) (ls : Array Slot) (hP : va_P (dC, dI) vwCl (wd_c_X4_readCondition_5 h1 h1_0 h1_f1 j9_h1_f2 j9_h1_f3 h1_0 h1_0k h1_0c h0 h0_0 j9_h0_f1 h0_2 h0_0 h0_0k j9_h0_0c) H) (hD : va_D A (wd_c_X4_readCondition_5 h1 h1_0 h1_f1 j9_h1_f2 j9_h1_f3 h1_0 h1_0k h1_0c h0 h0_0 j9_h0_f1 h0_2 h0_0 h0_0k j9_h0_0c)) (hS : va_S A s.heap H locs) (hl : lv_has ls 7 [(6, .int j9_l6), (5, .int j9_l5), (4, .int j9_l4), (0, .ref h0), (1, .ref h1), (2, .int 5), (3, .int 0)]), G H locs (F0 m 9 ls []) := by
    as_aux_lemma =>
    intro n9
    induction n9 with
    | zero => intros; exact absurd (by assumption) (Nat.not_lt_zero _)
    | succ n9 ih9 =>
      intro j9_l6 j9_l5 j9_l4 j9_h1_f2 j9_h1_f3 j9_h0_f1 j9_h0_0c hM9 g_h0_f1 g_h1_f1 g_h1_f2 g_h1_f3 g_j9_h0_f1 g_j9_h1_f2 g_j9_h1_f3 g_j9_l4 g_j9_l5 g_j9_l6 H locs ls hP hD hS hl
      have J93 : ∀ (j93_l4 : Int32) (j93_l5 : Int32) (j93_h1_f2 : Int32) (j93_h1_f3 : Int32) (j93_h0_f1 : Int32) (j93_h0_0c : Nat → Int32) (g_h0_f1 : RG h0_f1 0 240) (g_h1_f1 : RG h1_f1 1 240) (g_h1_f2 : RG h1_f2 0 240) (g_h1_f3 : RG h1_f3 (-1) 240) (g_j93_h0_f1 : RG j93_h0_f1 0 240) (g_j93_h1_f2 : RG j93_h1_f2 1 240) (g_j93_h1_f3 : RG j93_h1_f3 (-1) (-1)) (g_j93_l4 : RG j93_l4 0 1) (g_j93_l5 : RG j93_l5 0 1) (g_j9_h0_f1 : RG j9_h0_f1 0 240) (g_j9_h1_f2 : RG j9_h1_f2 0 240) (g_j9_h1_f3 : RG j9_h1_f3 (-1) (-1)) (g_j9_l4 : RG j9_l4 0 1) (g_j9_l5 : RG j9_l5 0 1) (g_j9_l6 : RG j9_l6 0 239) (H : Heap) (locs : List Loc) (ls : Array Slot) (hP : va_P (dC, dI) vwCl (wd_c_X4_readCondition_5 h1 h1_0 h1_f1 j93_h1_f2 j93_h1_f3 h1_0 h1_0k h1_0c h0 h0_0 j93_h0_f1 h0_2 h0_0 h0_0k j93_h0_0c) H) (hD : va_D A (wd_c_X4_readCondition_5 h1 h1_0 h1_f1 j93_h1_f2 j93_h1_f3 h1_0 h1_0k h1_0c h0 h0_0 j93_h0_f1 h0_2 h0_0 h0_0k j93_h0_0c)) (hS : va_S A s.heap H locs) (hl : lv_has ls 7 [(4, .int j93_l4), (6, .int j9_l6), (5, .int j93_l5), (0, .ref h0), (1, .ref h1), (2, .int 5), (3, .int 0)]), G H locs (F0 m 93 ls []) := by
        as_aux_lemma =>
        intro j93_l4 j93_l5 j93_h1_f2 j93_h1_f3 j93_h0_f1 j93_h0_0c g_h0_f1 g_h1_f1 g_h1_f2 g_h1_f3 g_j93_h0_f1 g_j93_h1_f2 g_j93_h1_f3 g_j93_l4 g_j93_l5 g_j9_h0_f1 g_j9_h1_f2 g_j9_h1_f3 g_j9_l4 g_j9_l5 g_j9_l6 H locs ls hP hD hS hl
        refine hG _ _ _ ?_
        obtain ⟨x_1, ex_1⟩ : ∃ y : Int32, y = j9_l6 + 1 := ⟨_, rfl⟩
        have g_2 : RG x_1 1 240 := RG_add ex_1 g_j9_l6 (RG_k 1 1 rfl) (by decide +kernel)
        refine lv_iinc (v := x_1) (lv' := [(6, .int x_1), (4, .int j93_l4), (5, .int j93_l5), (0, .ref h0), (1, .ref h1), (2, .int 5), (3, .int 0)]) hx hb dX4_readCondition_93 hl (k := 1) rfl (by rw [ex_1]; rfl) (Nat.le_of_ble_eq_true rfl) rfl (fun ls hl => ?_)
        refine lv_goto (tgt := 9) hx hb dX4_readCondition_96 rfl ?_
        exact hU _ _ _ (ih9 x_1 j93_l5 j93_l4 j93_h1_f2 j93_h1_f3 j93_h0_f1 j93_h0_0c (mu_s (MU_add ex_1 g_j9_l6 (q := 1) rfl (by decide +kernel)) hM9) g_h0_f1 (RG_w g_h1_f1 (by decide +kernel)) g_h1_f2 g_h1_f3 g_j93_h0_f1 (RG_w g_j93_h1_f2 (by decide +kernel)) (RG_w g_j93_h1_f3 (by decide +kernel)) g_j93_l4 g_j93_l5 (RG_w g_2 (by decide +kernel)) _ _ _ hP hD hS (lv_sub hl [0, 2, 1, 3, 4, 5, 6] rfl))
      have J79 : ∀ (j79_h1_f2 : Int32) (j79_h1_f3 : Int32) (j79_h0_f1 : Int32) (j79_h0_0c : Nat → Int32) (g_h0_f1 : RG h0_f1 0 240) (g_h1_f1 : RG h1_f1 0 240) (g_h1_f2 : RG h1_f2 0 240) (g_h1_f3 : RG h1_f3 (-1) 240) (g_j79_h0_f1 : RG j79_h0_f1 0 240) (g_j79_h1_f2 : RG j79_h1_f2 0 240) (g_j79_h1_f3 : RG j79_h1_f3 (-1) 240) (g_j9_h0_f1 : RG j9_h0_f1 0 240) (g_j9_h1_f2 : RG j9_h1_f2 0 240) (g_j9_h1_f3 : RG j9_h1_f3 (-1) (-1)) (g_j9_l4 : RG j9_l4 0 1) (g_j9_l5 : RG j9_l5 0 1) (g_j9_l6 : RG j9_l6 0 239) (H : Heap) (locs : List Loc) (ls : Array Slot) (hP : va_P (dC, dI) vwCl (wd_c_X4_readCondition_5 h1 h1_0 h1_f1 j79_h1_f2 j79_h1_f3 h1_0 h1_0k h1_0c h0 h0_0 j79_h0_f1 h0_2 h0_0 h0_0k j79_h0_0c) H) (hD : va_D A (wd_c_X4_readCondition_5 h1 h1_0 h1_f1 j79_h1_f2 j79_h1_f3 h1_0 h1_0k h1_0c h0 h0_0 j79_h0_f1 h0_2 h0_0 h0_0k j79_h0_0c)) (hS : va_S A s.heap H locs) (hl : lv_has ls 7 [(4, .int 0), (6, .int j9_l6), (0, .ref h0), (1, .ref h1), (2, .int 5), (3, .int 0)]), G H locs (F0 m 79 ls []) := by
        as_aux_lemma =>
        intro j79_h1_f2 j79_h1_f3 j79_h0_f1 j79_h0_0c g_h0_f1 g_h1_f1 g_h1_f2 g_h1_f3 g_j79_h0_f1 g_j79_h1_f2 g_j79_h1_f3 g_j9_h0_f1 g_j9_h1_f2 g_j9_h1_f3 g_j9_l4 g_j9_l5 g_j9_l6 H locs ls hP hD hS hl
        refine hG _ _ _ ?_
        refine lv_aload_n hx hb dX4_readCondition_79 rfl (lv_at hl 3 rfl) ?_
        refine lv_bipush (v := 124) hx hb dX4_readCondition_80 kc_bipush_124 ?_
        obtain ⟨hPc, hDc, hFc, hqc⟩ := cl_cut (wc := (wd_c_X9_take_1 h1 h1_0 h1_f1 j79_h1_f2 j79_h1_f3 h1_0 h1_0k h1_0c)) hP hD hS hA [0, 1] (by decide +kernel) rfl
        have hKc := hK.sub (tys' := [(h1_0k, .int)]) [0] rfl
        have hrv := va_recv hKc hPc (ci := 9) (q0 := 0) rfl rfl
        refine va_calli (va_runV (As := [.int 124]) (rest := []) ⟨hx, hb, hml, hown, hts⟩ (c_X9_take_1 l dC dI H.size h1 124 h1_0 h1_f1 j79_h1_f2 j79_h1_f3 h1_0k h1_0c (RG_w (RG_k 124 124 rfl) (by decide +kernel)) g_h1_f1 g_j79_h1_f2 g_j79_h1_f3 a_h1_0c) (cwV 1 hts gf_c_X4_readCondition_5_c_X9_take_1 rfl rfl rfl mdV_X9_take ⟨Nat.le_of_ble_eq_true rfl, Nat.le_of_ble_eq_true rfl⟩) ⟨fun a U g mk q => by obtain ⟨q0, q1, qP, qK, qD⟩ := q; exact ⟨q0, q1, qP, va_K.moved (u := U) (U := U.calling g mk a) (Vm.Alike.refl U.vm) qK, qD⟩, hrv, fun U hU hW => ⟨rfl, by rw [hU], by rw [hU]; exact hPc, va_K.moved hW.alike hKc, hDc.weaken (fun _ _ _ _ => trivial)⟩⟩ rfl rfl hl.1 rfl (lv_room (Nat.le_of_ble_eq_true rfl)) dX4_readCondition_82 ⟨Nat.le_of_ble_eq_true rfl, Nat.le_of_ble_eq_true rfl⟩) hS (fun q _ h => hFc q h) hFc (fun r_3 x_4 t H1 locs ht hvm hw hB hz1 hk1 hS => ?_)
        obtain ⟨hP1, hK1, hD1⟩ := hB
        rw [ht] at hP1
        obtain ⟨hP, hD⟩ := cl_put (w1 := (wd_c_X9_take_1 h1 h1_0 h1_f1 x_4 j79_h1_f3 h1_0 h1_0k h1_0c)) (nw := (wd_c_X4_readCondition_5 h1 h1_0 h1_f1 x_4 j79_h1_f3 h1_0 h1_0k h1_0c h0 h0_0 j79_h0_f1 h0_2 h0_0 h0_0k j79_h0_0c)) hP hD [0, 1] [4, 5, 2, 3] 4 rfl hqc (by decide +kernel) rfl hk1 hFc hP1 hD1
        generalize H1 = H at hP hS ⊢
        as_aux_lemma =>
        rcases hw with ⟨h_5, h_6, h_7⟩ | ⟨h_8, h_9, h_10, h_11, h_12⟩
        · rw [h_5]
          refine lv_istore (lv' := [(5, .int 0), (4, .int 0), (6, .int j9_l6), (0, .ref h0), (1, .ref h1), (2, .int 5), (3, .int 0)]) hx hb dX4_readCondition_85 hl (Nat.le_of_ble_eq_true rfl) rfl (fun ls hl => ?_)
          refine lv_iload hx hb dX4_readCondition_87 (lv_at hl 0 rfl) ?_
          refine lv_if_ne (tgt := 93) hx hb dX4_readCondition_89 rfl (fun c_13 => absurd c_13 (by decide +kernel)) (fun c_13 => ?_)
          have hK9 := hK.sub (tys' := []) [] rfl
          exact W.vret hx hb hr (fun t ht hW => ⟨⟨(x_4, j79_h1_f3, j79_h0_f1, j79_h0_0c), rfl, ⟨h_6, g_j79_h1_f3, g_j79_h0_f1⟩, by rw [ht]; exact hP, va_K.moved hW.alike hK9, hD⟩, hS.F ht⟩) hS.2.2 dX4_readCondition_92
        · rw [h_8]
          refine lv_istore (lv' := [(5, .int 1), (4, .int 0), (6, .int j9_l6), (0, .ref h0), (1, .ref h1), (2, .int 5), (3, .int 0)]) hx hb dX4_readCondition_85 hl (Nat.le_of_ble_eq_true rfl) rfl (fun ls hl => ?_)
          refine lv_iload hx hb dX4_readCondition_87 (lv_at hl 0 rfl) ?_
          refine lv_if_ne (tgt := 93) hx hb dX4_readCondition_89 rfl (fun c_14 => ?_) (fun c_14 => absurd c_14 (by decide +kernel))
          exact hU _ _ _ (J93 0 1 x_4 j79_h1_f3 j79_h0_f1 j79_h0_0c g_h0_f1 h_10 g_h1_f2 g_h1_f3 g_j79_h0_f1 h_9 h_11 (RG_w (RG_k 0 0 rfl) (by decide +kernel)) (RG_w (RG_k 1 1 rfl) (by decide +kernel)) g_j9_h0_f1 g_j9_h1_f2 g_j9_h1_f3 g_j9_l4 g_j9_l5 g_j9_l6 _ _ _ hP hD hS (lv_sub hl [1, 2, 0, 3, 4, 5, 6] rfl))
      have J55 : ∀ (j55_h1_f2 : Int32) (j55_h1_f3 : Int32) (j55_h0_f1 : Int32) (j55_h0_0c : Nat → Int32) (g_h0_f1 : RG h0_f1 0 240) (g_h1_f1 : RG h1_f1 0 240) (g_h1_f2 : RG h1_f2 0 240) (g_h1_f3 : RG h1_f3 (-1) 240) (g_j55_h0_f1 : RG j55_h0_f1 0 240) (g_j55_h1_f2 : RG j55_h1_f2 0 240) (g_j55_h1_f3 : RG j55_h1_f3 (-1) 240) (g_j9_h0_f1 : RG j9_h0_f1 0 240) (g_j9_h1_f2 : RG j9_h1_f2 0 240) (g_j9_h1_f3 : RG j9_h1_f3 (-1) (-1)) (g_j9_l4 : RG j9_l4 0 1) (g_j9_l5 : RG j9_l5 0 1) (g_j9_l6 : RG j9_l6 0 239) (H : Heap) (locs : List Loc) (ls : Array Slot) (hP : va_P (dC, dI) vwCl (wd_c_X4_readCondition_5 h1 h1_0 h1_f1 j55_h1_f2 j55_h1_f3 h1_0 h1_0k h1_0c h0 h0_0 j55_h0_f1 h0_2 h0_0 h0_0k j55_h0_0c) H) (hD : va_D A (wd_c_X4_readCondition_5 h1 h1_0 h1_f1 j55_h1_f2 j55_h1_f3 h1_0 h1_0k h1_0c h0 h0_0 j55_h0_f1 h0_2 h0_0 h0_0k j55_h0_0c)) (hS : va_S A s.heap H locs) (hl : lv_has ls 7 [(6, .int j9_l6), (5, .int j9_l5), (0, .ref h0), (1, .ref h1), (2, .int 5), (3, .int 0)]), G H locs (F0 m 55 ls []) := by
        as_aux_lemma =>
        intro j55_h1_f2 j55_h1_f3 j55_h0_f1 j55_h0_0c g_h0_f1 g_h1_f1 g_h1_f2 g_h1_f3 g_j55_h0_f1 g_j55_h1_f2 g_j55_h1_f3 g_j9_h0_f1 g_j9_h1_f2 g_j9_h1_f3 g_j9_l4 g_j9_l5 g_j9_l6 H locs ls hP hD hS hl
        refine hG _ _ _ ?_
        refine lv_aload_n hx hb dX4_readCondition_55 rfl (lv_at hl 3 rfl) ?_
        refine lv_bipush (v := 38) hx hb dX4_readCondition_56 kc_bipush_38 ?_
        obtain ⟨hPc, hDc, hFc, hqc⟩ := cl_cut (wc := (wd_c_X9_take h1 h1_0 h1_f1 j55_h1_f2 j55_h1_f3 h1_0 h1_0k h1_0c)) hP hD hS hA [0, 1] (by decide +kernel) rfl
        have hKc := hK.sub (tys' := [(h1_0k, .int)]) [0] rfl
        have hrv := va_recv hKc hPc (ci := 9) (q0 := 0) rfl rfl
        refine va_calli (va_runV (As := [.int 38]) (rest := []) ⟨hx, hb, hml, hown, hts⟩ (c_X9_take l dC dI H.size h1 38 h1_0 h1_f1 j55_h1_f2 j55_h1_f3 h1_0k h1_0c (RG_w (RG_k 38 38 rfl) (by decide +kernel)) g_h1_f1 g_j55_h1_f2 g_j55_h1_f3 a_h1_0c) (cwV 1 hts gf_c_X4_readCondition_5_c_X9_take rfl rfl rfl mdV_X9_take ⟨Nat.le_of_ble_eq_true rfl, Nat.le_of_ble_eq_true rfl⟩) ⟨fun a U g mk q => by obtain ⟨q0, q1, qP, qK, qD⟩ := q; exact ⟨q0, q1, qP, va_K.moved (u := U) (U := U.calling g mk a) (Vm.Alike.refl U.vm) qK, qD⟩, hrv, fun U hU hW => ⟨rfl, by rw [hU], by rw [hU]; exact hPc, va_K.moved hW.alike hKc, hDc.weaken (fun _ _ _ _ => trivial)⟩⟩ rfl rfl hl.1 rfl (lv_room (Nat.le_of_ble_eq_true rfl)) dX4_readCondition_58 ⟨Nat.le_of_ble_eq_true rfl, Nat.le_of_ble_eq_true rfl⟩) hS (fun q _ h => hFc q h) hFc (fun r_15 x_16 t H1 locs ht hvm hw hB hz1 hk1 hS => ?_)
        obtain ⟨hP1, hK1, hD1⟩ := hB
        rw [ht] at hP1
        obtain ⟨hP, hD⟩ := cl_put (w1 := (wd_c_X9_take h1 h1_0 h1_f1 x_16 j55_h1_f3 h1_0 h1_0k h1_0c)) (nw := (wd_c_X4_readCondition_5 h1 h1_0 h1_f1 x_16 j55_h1_f3 h1_0 h1_0k h1_0c h0 h0_0 j55_h0_f1 h0_2 h0_0 h0_0k j55_h0_0c)) hP hD [0, 1] [4, 5, 2, 3] 4 rfl hqc (by decide +kernel) rfl hk1 hFc hP1 hD1
        generalize H1 = H at hP hS ⊢
        as_aux_lemma =>
        rcases hw with ⟨h_17, h_18, h_19⟩ | ⟨h_20, h_21, h_22, h_23, h_24⟩
        · rw [h_17]
          refine lv_istore (lv' := [(4, .int 0), (6, .int j9_l6), (5, .int j9_l5), (0, .ref h0), (1, .ref h1), (2, .int 5), (3, .int 0)]) hx hb dX4_readCondition_61 hl (Nat.le_of_ble_eq_true rfl) rfl (fun ls hl => ?_)
          refine lv_iload hx hb dX4_readCondition_63 (lv_at hl 0 rfl) ?_
          refine lv_if_ne (tgt := 93) hx hb dX4_readCondition_65 rfl (fun c_25 => absurd c_25 (by decide +kernel)) (fun c_25 => ?_)
          refine lv_iload hx hb dX4_readCondition_68 (lv_at hl 2 rfl) ?_
          refine lv_if_eq (tgt := 79) hx hb dX4_readCondition_70 rfl (fun c_26 => ?_) (fun c_26 => ?_)
          · have g_27 : RG j9_l5 0 0 := RG_eq1 g_j9_l5 (RG_k 0 0 rfl) c_26 (by decide +kernel)
            exact hU _ _ _ (J79 x_16 j55_h1_f3 j55_h0_f1 j55_h0_0c g_h0_f1 g_h1_f1 g_h1_f2 g_h1_f3 g_j55_h0_f1 h_18 g_j55_h1_f3 g_j9_h0_f1 g_j9_h1_f2 g_j9_h1_f3 g_j9_l4 (RG_w g_27 (by decide +kernel)) g_j9_l6 _ _ _ hP hD hS (lv_sub hl [0, 1, 3, 4, 5, 6] rfl))
          · have g_28 : RG j9_l5 1 1 := RG_ne1 g_j9_l5 (q := 0) rfl c_26 (by decide +kernel)
            refine lv_aload_n hx hb dX4_readCondition_73 rfl (lv_at hl 3 rfl) ?_
            refine lv_bipush (v := (-124)) hx hb dX4_readCondition_74 kc_bipush_m124 ?_
            obtain ⟨hPc, hDc, hFc, hqc⟩ := cl_cut (wc := (wd_c_X4_emit h0 h0_0 j55_h0_f1 h0_2 h0_0 h0_0k j55_h0_0c)) hP hD hS hA [2, 3] (by decide +kernel) rfl
            have hKc := hK.sub (tys' := [(h0_0k, .int)]) [1] rfl
            have hrv := va_recv hKc hPc (ci := 4) (q0 := 0) rfl rfl
            refine va_callv (va_runV (As := [.int (-124)]) (rest := []) ⟨hx, hb, hml, hown, hts⟩ (c_X4_emit l dC dI H.size h0 (-124) h0_0 j55_h0_f1 h0_2 h0_0k j55_h0_0c g_j55_h0_f1) (cwV 1 hts gf_c_X4_readCondition_5_c_X4_emit rfl rfl rfl mdV_X4_emit ⟨Nat.le_of_ble_eq_true rfl, Nat.le_of_ble_eq_true rfl⟩) ⟨fun a U g mk q => by obtain ⟨q0, q1, qP, qK, qD⟩ := q; exact ⟨q0, q1, qP, va_K.moved (u := U) (U := U.calling g mk a) (Vm.Alike.refl U.vm) qK, qD⟩, hrv, fun U hU hW => ⟨rfl, by rw [hU], by rw [hU]; exact hPc, va_K.moved hW.alike hKc, hDc.weaken (fun _ _ _ _ => trivial)⟩⟩ rfl rfl hl.1 rfl (lv_room (Nat.le_of_ble_eq_true rfl)) dX4_readCondition_76 ⟨Nat.le_of_ble_eq_true rfl, Nat.le_of_ble_eq_true rfl⟩) hS (fun q _ h => hFc q h) hFc (fun u t H1 locs ht hvm hw hB hz1 hk1 hS => ?_)
            as_aux_lemma =>
            obtain ⟨x_30, w_31⟩ := u
            obtain ⟨hP1, hK1, hD1⟩ := hB
            rw [ht] at hP1
            obtain ⟨hP, hD⟩ := cl_put (w1 := (wd_c_X4_emit h0 h0_0 x_30 h0_2 h0_0 h0_0k w_31)) (nw := (wd_c_X4_readCondition_5 h1 h1_0 h1_f1 x_16 j55_h1_f3 h1_0 h1_0k h1_0c h0 h0_0 x_30 h0_2 h0_0 h0_0k w_31)) hP hD [2, 3] [0, 1, 4, 5] 4 rfl hqc (by decide +kernel) rfl hk1 hFc hP1 hD1
            generalize H1 = H at hP hS ⊢
            as_aux_lemma =>
            have h_32 := hw
            exact hU _ _ _ (J79 x_16 j55_h1_f3 x_30 w_31 g_h0_f1 g_h1_f1 g_h1_f2 g_h1_f3 (RG_w h_32 (by decide +kernel)) h_18 g_j55_h1_f3 g_j9_h0_f1 g_j9_h1_f2 g_j9_h1_f3 g_j9_l4 (RG_w g_28 (by decide +kernel)) g_j9_l6 _ _ _ hP hD hS (lv_sub hl [0, 1, 3, 4, 5, 6] rfl))
        · rw [h_20]
          refine lv_istore (lv' := [(4, .int 1), (6, .int j9_l6), (5, .int j9_l5), (0, .ref h0), (1, .ref h1), (2, .int 5), (3, .int 0)]) hx hb dX4_readCondition_61 hl (Nat.le_of_ble_eq_true rfl) rfl (fun ls hl => ?_)
          refine lv_iload hx hb dX4_readCondition_63 (lv_at hl 0 rfl) ?_
          refine lv_if_ne (tgt := 93) hx hb dX4_readCondition_65 rfl (fun c_33 => ?_) (fun c_33 => absurd c_33 (by decide +kernel))
          exact hU _ _ _ (J93 1 j9_l5 x_16 j55_h1_f3 j55_h0_f1 j55_h0_0c g_h0_f1 h_22 g_h1_f2 g_h1_f3 g_j55_h0_f1 h_21 h_23 (RG_w (RG_k 1 1 rfl) (by decide +kernel)) g_j9_l5 g_j9_h0_f1 g_j9_h1_f2 g_j9_h1_f3 g_j9_l4 g_j9_l5 g_j9_l6 _ _ _ hP hD hS (lv_sub hl [0, 1, 2, 3, 4, 5, 6] rfl))
      have J41 : ∀ (g_h0_f1 : RG h0_f1 0 240) (g_h1_f1 : RG h1_f1 0 240) (g_h1_f2 : RG h1_f2 0 240) (g_h1_f3 : RG h1_f3 (-1) 240) (g_j9_h0_f1 : RG j9_h0_f1 0 240) (g_j9_h1_f2 : RG j9_h1_f2 0 240) (g_j9_h1_f3 : RG j9_h1_f3 (-1) (-1)) (g_j9_l4 : RG j9_l4 0 1) (g_j9_l5 : RG j9_l5 0 1) (g_j9_l6 : RG j9_l6 0 239) (H : Heap) (locs : List Loc) (ls : Array Slot) (hP : va_P (dC, dI) vwCl (wd_c_X4_readCondition_5 h1 h1_0 h1_f1 j9_h1_f2 j9_h1_f3 h1_0 h1_0k h1_0c h0 h0_0 j9_h0_f1 h0_2 h0_0 h0_0k j9_h0_0c) H) (hD : va_D A (wd_c_X4_readCondition_5 h1 h1_0 h1_f1 j9_h1_f2 j9_h1_f3 h1_0 h1_0k h1_0c h0 h0_0 j9_h0_f1 h0_2 h0_0 h0_0k j9_h0_0c)) (hS : va_S A s.heap H locs) (hl : lv_has ls 7 [(6, .int j9_l6), (5, .int j9_l5), (4, .int j9_l4), (0, .ref h0), (1, .ref h1), (2, .int 5), (3, .int 0)]), G H locs (F0 m 41 ls [.int 0, .int 5, .ref h1, .ref h0]) := by
        as_aux_lemma =>
        intro g_h0_f1 g_h1_f1 g_h1_f2 g_h1_f3 g_j9_h0_f1 g_j9_h1_f2 g_j9_h1_f3 g_j9_l4 g_j9_l5 g_j9_l6 H locs ls hP hD hS hl
        refine hG _ _ _ ?_
        obtain ⟨hPc, hDc, hFc, hqc⟩ := cl_cut (wc := (wd_c_X4_readUnit_6 h1 h1_0 h1_f1 j9_h1_f2 j9_h1_f3 h1_0 h1_0k h1_0c h0 h0_0 j9_h0_f1 h0_2 h0_0 h0_0k j9_h0_0c)) hP hD hS hA [0, 1, 2, 3] (by decide +kernel) rfl
        have hKc := hK.sub (tys' := [(h1_0k, .int), (h0_0k, .int)]) [0, 1] rfl
        have hrv := va_recv hKc hPc (ci := 4) (q0 := 2) rfl rfl
        refine va_callv (va_runV (As := [.ref h1, .int 5, .int 0]) (rest := []) ⟨hx, hb, hml, hown, hts⟩ (c_X4_readUnit_6 l dC dI H.size h0 h1 h1_0 h1_f1 j9_h1_f2 j9_h1_f3 h1_0k h1_0c h0_0 j9_h0_f1 h0_2 h0_0k j9_h0_0c ts4 tv4 g_h1_f1 g_j9_h1_f2 (RG_w g_j9_h1_f3 (by decide +kernel)) a_h1_0c g_j9_h0_f1) (cwV 3 hts gf_c_X4_readCondition_5_c_X4_readUnit_6 rfl rfl rfl mdV_X4_readUnit ⟨Nat.le_of_ble_eq_true rfl, Nat.le_of_ble_eq_true rfl⟩) ⟨fun a U g mk q => by obtain ⟨q0, q1, qP, qK, qD, qE0, qE1, qE2, qE3, qE4, qE5⟩ := q; exact ⟨q0, q1, qP, va_K.moved (u := U) (U := U.calling g mk a) (Vm.Alike.refl U.vm) qK, qD, vk_R.same rfl qE0, va_Z.moved (u := U) (U := U.calling g mk a) (Vm.Alike.refl U.vm) qE1, va_OF.moved (u := U) (U := U.calling g mk a) (Vm.Alike.refl U.vm) qE2, va_O.moved (u := U) (U := U.calling g mk a) (Vm.Alike.refl U.vm) qE3, va_OF.moved (u := U) (U := U.calling g mk a) (Vm.Alike.refl U.vm) qE4, va_T.moved (u := U) (U := U.calling g mk a) (Vm.Alike.refl U.vm) qE5⟩, hrv, fun U hU hW => ⟨rfl, by rw [hU], by rw [hU]; exact hPc, va_K.moved hW.alike hKc, hDc.weaken (fun _ _ _ _ => trivial), vk_R.warm hW hE_32, va_Z.moved hW.alike (by rw [hU]; exact (hE_10.kept hS.2.1).narrow hFc), va_OF.moved hW.alike (by rw [hU]; exact (hE_34.kept hS.2.1).narrow hFc), va_O.moved hW.alike (by rw [hU]; exact (hE_33.kept hS.2.1).narrow hFc), va_OF.moved hW.alike (by rw [hU]; exact (hE_35.kept hS.2.1).narrow hFc), va_T.moved hW.alike (by rw [hU]; exact (hE_36.kept hS.2.1).narrow hFc)⟩⟩ rfl rfl hl.1 rfl (lv_room (Nat.le_of_ble_eq_true rfl)) dX4_readCondition_41 ⟨Nat.le_of_ble_eq_true rfl, Nat.le_of_ble_eq_true rfl⟩) hS (fun q _ h => hFc q h) hFc (fun u t H1 locs ht hvm hw hB hz1 hk1 hS => ?_)
        obtain ⟨x_35, x_36, x_37, w_38⟩ := u
        obtain ⟨hP1, hK1, hD1⟩ := hB
        rw [ht] at hP1
        obtain ⟨hP, hD⟩ := cl_put (w1 := (wd_c_X4_readUnit_6 h1 h1_0 h1_f1 x_35 x_36 h1_0 h1_0k h1_0c h0 h0_0 x_37 h0_2 h0_0 h0_0k w_38)) (nw := (wd_c_X4_readCondition_5 h1 h1_0 h1_f1 x_35 x_36 h1_0 h1_0k h1_0c h0 h0_0 x_37 h0_2 h0_0 h0_0k w_38)) hP hD [0, 1, 2, 3] [4, 5, 6, 7] 4 rfl hqc (by decide +kernel) rfl hk1 hFc hP1 hD1
        generalize H1 = H at hP hS ⊢
        as_aux_lemma =>
        rcases hw with ⟨h_39, h_40, h_41⟩
        refine lv_iload hx hb dX4_readCondition_44 (lv_at hl 2 rfl) ?_
        refine lv_if_eq (tgt := 55) hx hb dX4_readCondition_46 rfl (fun c_42 => ?_) (fun c_42 => ?_)
        · have g_43 : RG j9_l4 0 0 := RG_eq1 g_j9_l4 (RG_k 0 0 rfl) c_42 (by decide +kernel)
          exact hU _ _ _ (J55 x_35 x_36 x_37 w_38 g_h0_f1 g_h1_f1 g_h1_f2 g_h1_f3 h_41 h_39 h_40 g_j9_h0_f1 g_j9_h1_f2 g_j9_h1_f3 (RG_w g_43 (by decide +kernel)) g_j9_l5 g_j9_l6 _ _ _ hP hD hS (lv_sub hl [0, 1, 3, 4, 5, 6] rfl))
        · have g_44 : RG j9_l4 1 1 := RG_ne1 g_j9_l4 (q := 0) rfl c_42 (by decide +kernel)
          refine lv_aload_n hx hb dX4_readCondition_49 rfl (lv_at hl 3 rfl) ?_
          refine lv_bipush (v := (-38)) hx hb dX4_readCondition_50 kc_bipush_m38 ?_
          obtain ⟨hPc, hDc, hFc, hqc⟩ := cl_cut (wc := (wd_c_X4_emit h0 h0_0 x_37 h0_2 h0_0 h0_0k w_38)) hP hD hS hA [2, 3] (by decide +kernel) rfl
          have hKc := hK.sub (tys' := [(h0_0k, .int)]) [1] rfl
          have hrv := va_recv hKc hPc (ci := 4) (q0 := 0) rfl rfl
          refine va_callv (va_runV (As := [.int (-38)]) (rest := []) ⟨hx, hb, hml, hown, hts⟩ (c_X4_emit l dC dI H.size h0 (-38) h0_0 x_37 h0_2 h0_0k w_38 h_41) (cwV 1 hts gf_c_X4_readCondition_5_c_X4_emit rfl rfl rfl mdV_X4_emit ⟨Nat.le_of_ble_eq_true rfl, Nat.le_of_ble_eq_true rfl⟩) ⟨fun a U g mk q => by obtain ⟨q0, q1, qP, qK, qD⟩ := q; exact ⟨q0, q1, qP, va_K.moved (u := U) (U := U.calling g mk a) (Vm.Alike.refl U.vm) qK, qD⟩, hrv, fun U hU hW => ⟨rfl, by rw [hU], by rw [hU]; exact hPc, va_K.moved hW.alike hKc, hDc.weaken (fun _ _ _ _ => trivial)⟩⟩ rfl rfl hl.1 rfl (lv_room (Nat.le_of_ble_eq_true rfl)) dX4_readCondition_52 ⟨Nat.le_of_ble_eq_true rfl, Nat.le_of_ble_eq_true rfl⟩) hS (fun q _ h => hFc q h) hFc (fun u t H1 locs ht hvm hw hB hz1 hk1 hS => ?_)
          obtain ⟨x_46, w_47⟩ := u
          obtain ⟨hP1, hK1, hD1⟩ := hB
          rw [ht] at hP1
          obtain ⟨hP, hD⟩ := cl_put (w1 := (wd_c_X4_emit h0 h0_0 x_46 h0_2 h0_0 h0_0k w_47)) (nw := (wd_c_X4_readCondition_5 h1 h1_0 h1_f1 x_35 x_36 h1_0 h1_0k h1_0c h0 h0_0 x_46 h0_2 h0_0 h0_0k w_47)) hP hD [2, 3] [0, 1, 4, 5] 4 rfl hqc (by decide +kernel) rfl hk1 hFc hP1 hD1
          generalize H1 = H at hP hS ⊢
          as_aux_lemma =>
          have h_48 := hw
          exact hU _ _ _ (J55 x_35 x_36 x_46 w_47 g_h0_f1 g_h1_f1 g_h1_f2 g_h1_f3 (RG_w h_48 (by decide +kernel)) h_39 h_40 g_j9_h0_f1 g_j9_h1_f2 g_j9_h1_f3 (RG_w g_44 (by decide +kernel)) g_j9_l5 g_j9_l6 _ _ _ hP hD hS (lv_sub hl [0, 1, 3, 4, 5, 6] rfl))
      have J40 : ∀ (g_h0_f1 : RG h0_f1 0 240) (g_h1_f1 : RG h1_f1 0 240) (g_h1_f2 : RG h1_f2 0 240) (g_h1_f3 : RG h1_f3 (-1) 240) (g_j9_h0_f1 : RG j9_h0_f1 0 240) (g_j9_h1_f2 : RG j9_h1_f2 0 240) (g_j9_h1_f3 : RG j9_h1_f3 (-1) (-1)) (g_j9_l4 : RG j9_l4 0 1) (g_j9_l5 : RG j9_l5 0 1) (g_j9_l6 : RG j9_l6 0 239) (H : Heap) (locs : List Loc) (ls : Array Slot) (hP : va_P (dC, dI) vwCl (wd_c_X4_readCondition_5 h1 h1_0 h1_f1 j9_h1_f2 j9_h1_f3 h1_0 h1_0k h1_0c h0 h0_0 j9_h0_f1 h0_2 h0_0 h0_0k j9_h0_0c) H) (hD : va_D A (wd_c_X4_readCondition_5 h1 h1_0 h1_f1 j9_h1_f2 j9_h1_f3 h1_0 h1_0k h1_0c h0 h0_0 j9_h0_f1 h0_2 h0_0 h0_0k j9_h0_0c)) (hS : va_S A s.heap H locs) (hl : lv_has ls 7 [(6, .int j9_l6), (5, .int j9_l5), (4, .int j9_l4), (0, .ref h0), (1, .ref h1), (2, .int 5), (3, .int 0)]), G H locs (F0 m 40 ls [.int 5, .ref h1, .ref h0]) := by
        as_aux_lemma =>
        intro g_h0_f1 g_h1_f1 g_h1_f2 g_h1_f3 g_j9_h0_f1 g_j9_h1_f2 g_j9_h1_f3 g_j9_l4 g_j9_l5 g_j9_l6 H locs ls hP hD hS hl
        refine hG _ _ _ ?_
        refine lv_iconst (v := 0) hx hb dX4_readCondition_40 kc_iconst_0 ?_
        exact hU _ _ _ (J41 g_h0_f1 g_h1_f1 g_h1_f2 g_h1_f3 g_j9_h0_f1 g_j9_h1_f2 g_j9_h1_f3 g_j9_l4 g_j9_l5 g_j9_l6 _ _ _ hP hD hS (lv_sub hl [0, 1, 2, 3, 4, 5, 6] rfl))
      refine hG _ _ _ ?_
      refine lv_iload hx hb dX4_readCondition_9 (lv_at hl 0 rfl) ?_
      refine lv_sipush (v := 240) hx hb dX4_readCondition_11 kc_sipush_240 ?_
      refine lv_icmp_ge (tgt := 99) hx hb dX4_readCondition_14 rfl (fun c_49 => ?_) (fun c_49 => ?_)
      · have g_50 : RG j9_l6 240 240 := RG_le2 (RG_k 240 240 rfl) g_j9_l6 c_49 (by decide +kernel)
        have hK9 := hK.sub (tys' := []) [] rfl
        exact W.vret hx hb hr (fun t ht hW => ⟨⟨(j9_h1_f2, j9_h1_f3, j9_h0_f1, j9_h0_0c), rfl, ⟨g_j9_h1_f2, g_j9_h1_f3, g_j9_h0_f1⟩, by rw [ht]; exact hP, va_K.moved hW.alike hK9, hD⟩, hS.F ht⟩) hS.2.2 dX4_readCondition_99
      · have d_51 := Int32.not_le.mp c_49
        have g_52 : RG j9_l6 0 239 := RG_lt1 g_j9_l6 (RG_k 240 240 rfl) d_51 (by decide +kernel)
        refine lv_aload_n hx hb dX4_readCondition_17 rfl (lv_at hl 4 rfl) ?_
        as_aux_lemma =>
        obtain ⟨hPc, hDc, hFc, hqc⟩ := cl_cut (wc := (wd_c_X9_isRight h1 h1_0 h1_f1 j9_h1_f2 j9_h1_f3)) hP hD hS hA [0] (by decide +kernel) rfl
        have hKc := hK.sub (tys' := []) [] rfl
        have hrv := va_recv hKc hPc (ci := 9) (q0 := 0) rfl rfl
        refine va_calli (va_runV (As := []) (rest := []) ⟨hx, hb, hml, hown, hts⟩ (c_X9_isRight l dC dI H.size h1 h1_0 h1_f1 j9_h1_f2 j9_h1_f3 g_h1_f1 g_j9_h1_f2 g_j9_h1_f3) (cwV 0 hts gf_c_X4_readCondition_5_c_X9_isRight rfl rfl rfl mdV_X9_isRight ⟨Nat.le_of_ble_eq_true rfl, Nat.le_of_ble_eq_true rfl⟩) ⟨fun a U g mk q => by obtain ⟨q0, q1, qP, qK, qD⟩ := q; exact ⟨q0, q1, qP, va_K.moved (u := U) (U := U.calling g mk a) (Vm.Alike.refl U.vm) qK, qD⟩, hrv, fun U hU hW => ⟨rfl, by rw [hU], by rw [hU]; exact hPc, va_K.moved hW.alike hKc, hDc.weaken (fun _ _ _ _ => trivial)⟩⟩ rfl rfl hl.1 rfl (lv_room (Nat.le_of_ble_eq_true rfl)) dX4_readCondition_18 ⟨Nat.le_of_ble_eq_true rfl, Nat.le_of_ble_eq_true rfl⟩) hS (fun q _ h => hFc q h) hFc (fun r_53 u t H1 locs ht hvm hw hB hz1 hk1 hS => ?_)
        obtain ⟨hP1, hK1, hD1⟩ := hB
        rw [ht] at hP1
        obtain ⟨hP, hD⟩ := cl_put (w1 := (wd_c_X9_isRight h1 h1_0 h1_f1 j9_h1_f2 j9_h1_f3)) (nw := (wd_c_X4_readCondition_5 h1 h1_0 h1_f1 j9_h1_f2 j9_h1_f3 h1_0 h1_0k h1_0c h0 h0_0 j9_h0_f1 h0_2 h0_0 h0_0k j9_h0_0c)) hP hD [0] [4, 1, 2, 3] 4 rfl hqc (by decide +kernel) rfl hk1 hFc hP1 hD1
        generalize H1 = H at hP hS ⊢
        as_aux_lemma =>
        rcases hw with ⟨h_54, h_55⟩ | ⟨h_56, h_57⟩
        · rw [h_54]
          refine lv_if_eq (tgt := 99) hx hb dX4_readCondition_21 rfl (fun c_58 => ?_) (fun c_58 => absurd c_58 (by decide +kernel))
          have hK9 := hK.sub (tys' := []) [] rfl
          exact W.vret hx hb hr (fun t ht hW => ⟨⟨(j9_h1_f2, j9_h1_f3, j9_h0_f1, j9_h0_0c), rfl, ⟨g_j9_h1_f2, (RG_w h_55 (by decide +kernel)), g_j9_h0_f1⟩, by rw [ht]; exact hP, va_K.moved hW.alike hK9, hD⟩, hS.F ht⟩) hS.2.2 dX4_readCondition_99
        · rw [h_56]
          refine lv_if_eq (tgt := 99) hx hb dX4_readCondition_21 rfl (fun c_59 => absurd c_59 (by decide +kernel)) (fun c_59 => ?_)
          refine lv_aload_n hx hb dX4_readCondition_24 rfl (lv_at hl 3 rfl) ?_
          refine lv_aload_n hx hb dX4_readCondition_25 rfl (lv_at hl 4 rfl) ?_
          refine lv_iload_n hx hb dX4_readCondition_26 rfl (lv_at hl 5 rfl) ?_
          refine lv_iload_n hx hb dX4_readCondition_27 rfl (lv_at hl 6 rfl) ?_
          refine lv_if_eq (tgt := 40) hx hb dX4_readCondition_28 rfl (fun c_60 => ?_) (fun c_60 => absurd c_60 (by decide +kernel))
          exact hU _ _ _ (J40 g_h0_f1 g_h1_f1 g_h1_f2 g_h1_f3 g_j9_h0_f1 g_j9_h1_f2 h_57 g_j9_l4 g_j9_l5 g_52 _ _ _ hP hD hS (lv_sub hl [0, 1, 2, 3, 4, 5, 6] rfl))
  refine hG _ _ _ ?_
  as_aux_lemma =>
  refine lv_iconst (v := 0) hx hb dX4_readCondition_0 kc_iconst_0 ?_
  refine lv_istore (lv' := [(4, .int 0), (0, .ref h0), (1, .ref h1), (2, .int 5), (3, .int 0)]) hx hb dX4_readCondition_1 hl (Nat.le_of_ble_eq_true rfl) rfl (fun ls hl => ?_)
  refine lv_iconst (v := 0) hx hb dX4_readCondition_3 kc_iconst_0 ?_
  refine lv_istore (lv' := [(5, .int 0), (4, .int 0), (0, .ref h0), (1, .ref h1), (2, .int 5), (3, .int 0)]) hx hb dX4_readCondition_4 hl (Nat.le_of_ble_eq_true rfl) rfl (fun ls hl => ?_)
  refine lv_iconst (v := 0) hx hb dX4_readCondition_6 kc_iconst_0 ?_
  refine lv_istore (lv' := [(6, .int 0), (5, .int 0), (4, .int 0), (0, .ref h0), (1, .ref h1), (2, .int 5), (3, .int 0)]) hx hb dX4_readCondition_7 hl (Nat.le_of_ble_eq_true rfl) rfl (fun ls hl => ?_)
  exact hU _ _ _ (J9 _ 0 0 0 h1_f2 h1_f3 h0_f1 h0_0c (Nat.lt_succ_self _) g_h0_f1 g_h1_f1 g_h1_f2 g_h1_f3 g_h0_f1 g_h1_f2 g_h1_f3 (RG_w (RG_k 0 0 rfl) (by decide +kernel)) (RG_w (RG_k 0 0 rfl) (by decide +kernel)) (RG_w (RG_k 0 0 rfl) (by decide +kernel)) _ _ _ hP hD hS (lv_sub hl [0, 1, 2, 3, 4, 5, 6] rfl))
noncomputable def wd_c_X4_readUnit_5 (a0 : Nat) (a1 : Nat) (a2 : Int32) (a3 : Int32) (a4 : Int32) (a5 : Nat) (a6 : ClassId) (a7 : Nat → Int32) (a8 : Nat) (a9 : Nat) (a10 : Int32) (a11 : Nat) (a12 : Nat) (a13 : ClassId) (a14 : Nat → Int32) : va_W := [(a0, .inr (9, [.ref a1, .int a2, .int a3, .int a4])), (a5, .inl (a6, 240, .inl a7)), (a8, .inr (4, [.ref a9, .int a10, .ref a11])), (a12, .inl (a13, 240, .inl a14))]
noncomputable def wf_c_X4_readUnit_5 : List Cond := List.cons (.code yX4_readUnit cX4_readUnit 5 none) (@HAppend.hAppend (List Cond) (List Cond) (List Cond) _ (@HAppend.hAppend (List Cond) (List Cond) (List Cond) _ [.methodLink RX4 41 yX9_peek, .instanceMethod yX9_peek, .selects RX9 yX9_peek yX9_peek, .initialized RX9, .code yX9_peek cX9_peek 1 (some .int), .fieldLink RX9 22 "BuoyVote$Tape" "at" "I", .fieldLink RX9 19 "BuoyVote$Tape" "length" "I", .fieldLink RX9 11 "BuoyVote$Tape" "bytes" "[I", .methodLink RX4 45 yX4_startsUnit, .static yX4_startsUnit, .initialized RX4, .code yX4_startsUnit cX4_startsUnit 1 (some .boolean), .methodLink RX4 63 yX9_take, .instanceMethod yX9_take, .selects RX9 yX9_take yX9_take, .code yX9_take cX9_take 2 (some .boolean), .fieldLink RX9 15 "BuoyVote$Tape" "wrong" "I", .methodLink RX9 29 yX9_peek, .methodLink RX4 37 yX9_expect, .instanceMethod yX9_expect, .selects RX9 yX9_expect yX9_expect, .code yX9_expect cX9_expect 2 none, .methodLink RX9 25 yX9_refuse, .instanceMethod yX9_refuse, .selects RX9 yX9_refuse yX9_refuse, .code yX9_refuse cX9_refuse 2 none, .methodLink RX4 56 yX4_readCondition, .instanceMethod yX4_readCondition, .selects RX4 yX4_readCondition yX4_readCondition, .code yX4_readCondition cX4_readCondition 7 none, .methodLink RX4 72 yX9_isRight, .instanceMethod yX9_isRight, .selects RX9 yX9_isRight yX9_isRight, .code yX9_isRight cX9_isRight 1 (some .boolean), .methodLink RX4 76 yX4_readUnit, .instanceMethod yX4_readUnit, .selects RX4 yX4_readUnit yX4_readUnit, .methodLink RX4 82 yX9_refuseHere, .instanceMethod yX9_refuseHere, .selects RX9 yX9_refuseHere yX9_refuseHere, .code yX9_refuseHere cX9_refuseHere 1 none, .methodLink RX4 49 yX4_readSum, .instanceMethod yX4_readSum, .selects RX4 yX4_readSum yX4_readSum, .code yX4_readSum cX4_readSum 6 none, .methodLink RX4 85 yX4_readAtom, .instanceMethod yX4_readAtom, .selects RX4 yX4_readAtom yX4_readAtom, .code yX4_readAtom cX4_readAtom 6 none, .methodLink RX4 93 yJ0_indexOf_0f7a4, .instanceMethod yJ0_indexOf_0f7a4, .selects RJ0 yJ0_indexOf_0f7a4 yJ0_indexOf_0f7a4, .initialized RJ0, .code yJ0_indexOf_0f7a4 cJ0_indexOf_0f7a4 2 (some .int), .methodLink RJ0 633 yJ0_indexOf_7cf53, .instanceMethod yJ0_indexOf_7cf53, .selects RJ0 yJ0_indexOf_7cf53 yJ0_indexOf_7cf53, .code yJ0_indexOf_7cf53 cJ0_indexOf_7cf53 3 (some .int), .methodLink RJ0 492 yJ0_isLatin1_aae02, .instanceMethod yJ0_isLatin1_aae02, .selects RJ0 yJ0_isLatin1_aae02 yJ0_isLatin1_aae02, .code yJ0_isLatin1_aae02 cJ0_isLatin1_aae02 1 (some .boolean), .fieldLink RJ0 38 "java/lang/String" "COMPACT_STRINGS" "Z", .fieldLink RJ0 15 "java/lang/String" "coder" "B", .fieldLink RJ0 9 "java/lang/String" "value" "[B", .methodLink RJ0 505 yJ0_length_8abf5, .instanceMethod yJ0_length_8abf5, .selects RJ0 yJ0_length_8abf5 yJ0_length_8abf5, .code yJ0_length_8abf5 cJ0_length_8abf5 1 (some .int), .methodLink RJ0 335 yJ0_coder_7d493, .instanceMethod yJ0_coder_7d493, .selects RJ0 yJ0_coder_7d493 yJ0_coder_7d493, .code yJ0_coder_7d493 cJ0_coder_7d493 1 (some .byte), .methodLink RJ0 637 yJ1_indexOf_4cfef, .static yJ1_indexOf_4cfef, .initialized RJ1, .code yJ1_indexOf_4cfef cJ1_indexOf_4cfef 4 (some .int), .methodLink RJ1 88 yJ1_canEncode_9a6ad, .static yJ1_canEncode_9a6ad, .code yJ1_canEncode_9a6ad cJ1_canEncode_9a6ad 1 (some .boolean), .methodLink RJ1 92 Lib.Math.max.name, .static Lib.Math.max.name, .initialized "java/lang/Math", .code Lib.Math.max.name Lib.Math.max.code 2 (some .int), .methodLink RJ1 38 Lib.Math.min.name, .static Lib.Math.min.name, .code Lib.Math.min.name Lib.Math.min.code 2 (some .int), .methodLink RJ1 95 yJ1_indexOfChar_4cfef, .static yJ1_indexOfChar_4cfef, .code yJ1_indexOfChar_4cfef cJ1_indexOfChar_4cfef 6 (some .int), .methodLink RX4 99 yX9_number, .instanceMethod yX9_number, .selects RX9 yX9_number yX9_number, .code yX9_number cX9_number 4 (some .int), .methodLink RX4 79 yX9_skip, .instanceMethod yX9_skip, .selects RX9 yX9_skip yX9_skip, .code yX9_skip cX9_skip 1 none, .methodLink RX4 60 yX4_emit, .instanceMethod yX4_emit, .selects RX4 yX4_emit yX4_emit, .code yX4_emit cX4_emit 2 none, .fieldLink RX4 20 "BuoyVote$Law" "length" "I", .fieldLink RX4 11 "BuoyVote$Law" "code" "[I", .methodLink RX4 88 yX9_takeEither, .instanceMethod yX9_takeEither, .selects RX9 yX9_takeEither yX9_takeEither, .code yX9_takeEither cX9_takeEither 4 (some .int), .methodLink RX4 53 yX4_isComparison, .static yX4_isComparison, .code yX4_isComparison cX4_isComparison 1 (some .boolean)] wsX90) wsX40)
theorem iw_c_X4_readUnit_5_X9 : ∀ w ∈ wsX90, w ∈ wf_c_X4_readUnit_5 := fun w h => List.mem_cons_of_mem _ (List.mem_append_left _ (List.mem_append_right _ h))
theorem iw_c_X4_readUnit_5_X4 : ∀ w ∈ wsX40, w ∈ wf_c_X4_readUnit_5 := fun w h => List.mem_cons_of_mem _ (List.mem_append_right _ h)
set_option maxRecDepth 20000 in
theorem gf_c_X4_readUnit_5_c_X9_peek : GoodIn wf_c_X4_readUnit_5 (wsV RX4 41 RX9 yX9_peek wf_c_X9_peek) := goodIn_app (gi_l [1, 2, 3, 4] rfl rfl) (gi_cons (j := 5) rfl rfl (goodIn_app (gi_l [6, 7, 8] rfl rfl) (goodIn_sub iw_c_X4_readUnit_5_X9 gw_X9)))
set_option maxRecDepth 20000 in
theorem gf_c_X4_readUnit_5_c_X4_isComparison : GoodIn wf_c_X4_readUnit_5 (va_wsS RX4 53 yX4_isComparison wf_c_X4_isComparison) := goodIn_app (gi_l [109, 110, 11] rfl rfl) (gi_cons (j := 111) rfl rfl gi_nil)
set_option maxRecDepth 20000 in
theorem gf_c_X4_readUnit_5_c_X9_refuseHere : GoodIn wf_c_X4_readUnit_5 (wsV RX4 82 RX9 yX9_refuseHere wf_c_X9_refuseHere) := goodIn_app (gi_l [38, 39, 40, 4] rfl rfl) (gi_cons (j := 41) rfl rfl (goodIn_app (gi_l [6, 23, 24, 25, 4, 26, 17] rfl rfl) (goodIn_sub iw_c_X4_readUnit_5_X9 gw_X9)))
set_option maxRecDepth 20000 in
theorem gf_c_X4_readUnit_5_c_X4_isComparison_1 : GoodIn wf_c_X4_readUnit_5 (va_wsS RX4 53 yX4_isComparison wf_c_X4_isComparison_1) := goodIn_app (gi_l [109, 110, 11] rfl rfl) (gi_cons (j := 111) rfl rfl gi_nil)
set_option maxRecDepth 20000 in
theorem gf_c_X4_readUnit_5_c_X9_skip : GoodIn wf_c_X4_readUnit_5 (wsV RX4 79 RX9 yX9_skip wf_c_X9_skip) := goodIn_app (gi_l [95, 96, 97, 4] rfl rfl) (gi_cons (j := 98) rfl rfl (goodIn_app (gi_l [6] rfl rfl) (goodIn_sub iw_c_X4_readUnit_5_X9 gw_X9)))
set_option maxRecDepth 20000 in
theorem gf_c_X4_readUnit_5_c_X4_readSum_4 : GoodIn wf_c_X4_readUnit_5 (wsV RX4 49 RX4 yX4_readSum wf_c_X4_readSum_4) := goodIn_app (gi_l [42, 43, 44, 11] rfl rfl) (gi_cons (j := 45) rfl rfl (goodIn_app (goodIn_app (gi_l [31, 32, 33, 4, 34, 17, 46, 47, 48, 11, 49, 1, 2, 3, 5, 6, 7, 8, 50, 51, 52, 53, 54, 55, 56, 57, 58, 59, 60, 61, 62, 63, 64, 65, 66, 67, 68, 69, 70, 71, 72, 73, 74, 75, 76, 77, 78, 79, 80, 81, 82, 83, 84, 85, 86, 87, 88, 89, 90, 91, 92, 93, 94, 38, 39, 40, 41, 23, 24, 25, 26, 95, 96, 97, 98, 42, 43, 44, 99, 100, 101, 102, 103, 104, 105, 106, 107, 108, 18, 19, 20, 21, 22] rfl rfl) (goodIn_sub iw_c_X4_readUnit_5_X9 gw_X9)) (goodIn_sub iw_c_X4_readUnit_5_X4 gw_X4)))
set_option maxRecDepth 20000 in
theorem gf_c_X4_readUnit_5_c_X4_emit : GoodIn wf_c_X4_readUnit_5 (wsV RX4 60 RX4 yX4_emit wf_c_X4_emit) := goodIn_app (gi_l [99, 100, 101, 11] rfl rfl) (gi_cons (j := 102) rfl rfl (goodIn_app (gi_l [103, 104] rfl rfl) (goodIn_sub iw_c_X4_readUnit_5_X4 gw_X4)))
set_option maxRecDepth 20000 in
theorem gf_c_X4_readUnit_5_c_X4_startsUnit : GoodIn wf_c_X4_readUnit_5 (va_wsS RX4 45 yX4_startsUnit wf_c_X4_startsUnit) := goodIn_app (gi_l [9, 10, 11] rfl rfl) (gi_cons (j := 12) rfl rfl gi_nil)
set_option maxRecDepth 20000 in
theorem gf_c_X4_readUnit_5_c_X4_startsUnit_1 : GoodIn wf_c_X4_readUnit_5 (va_wsS RX4 45 yX4_startsUnit wf_c_X4_startsUnit_1) := goodIn_app (gi_l [9, 10, 11] rfl rfl) (gi_cons (j := 12) rfl rfl gi_nil)
set_option maxRecDepth 20000 in
theorem gf_c_X4_readUnit_5_c_X9_take : GoodIn wf_c_X4_readUnit_5 (wsV RX4 63 RX9 yX9_take wf_c_X9_take) := goodIn_app (gi_l [13, 14, 15, 4] rfl rfl) (gi_cons (j := 16) rfl rfl (goodIn_app (gi_l [17, 18, 2, 3, 4, 5, 6, 7, 8] rfl rfl) (goodIn_sub iw_c_X4_readUnit_5_X9 gw_X9)))
set_option maxRecDepth 20000 in
theorem gf_c_X4_readUnit_5_c_X9_expect_1 : GoodIn wf_c_X4_readUnit_5 (wsV RX4 37 RX9 yX9_expect wf_c_X9_expect_1) := goodIn_app (gi_l [19, 20, 21, 4] rfl rfl) (gi_cons (j := 22) rfl rfl (goodIn_app (gi_l [17, 18, 2, 3, 4, 5, 6, 7, 8, 23, 24, 25, 26] rfl rfl) (goodIn_sub iw_c_X4_readUnit_5_X9 gw_X9)))
set_option maxRecDepth 20000 in
theorem gf_c_X4_readUnit_5_c_X4_readCondition_5 : GoodIn wf_c_X4_readUnit_5 (wsV RX4 56 RX4 yX4_readCondition wf_c_X4_readCondition_5) := goodIn_app (gi_l [27, 28, 29, 11] rfl rfl) (gi_cons (j := 30) rfl rfl (goodIn_app (goodIn_app (gi_l [31, 32, 33, 4, 34, 17, 35, 36, 37, 11, 0, 1, 2, 3, 5, 6, 7, 8, 9, 10, 12, 13, 14, 15, 16, 18, 19, 20, 21, 22, 23, 24, 25, 26, 27, 28, 29, 38, 39, 40, 41, 42, 43, 44, 45, 46, 47, 48, 49, 50, 51, 52, 53, 54, 55, 56, 57, 58, 59, 60, 61, 62, 63, 64, 65, 66, 67, 68, 69, 70, 71, 72, 73, 74, 75, 76, 77, 78, 79, 80, 81, 82, 83, 84, 85, 86, 87, 88, 89, 90, 91, 92, 93, 94, 95, 96, 97, 98, 99, 100, 101, 102, 103, 104, 105, 106, 107, 108, 109, 110, 111] rfl rfl) (goodIn_sub iw_c_X4_readUnit_5_X9 gw_X9)) (goodIn_sub iw_c_X4_readUnit_5_X4 gw_X4)))
set_option maxRecDepth 20000 in
theorem gf_c_X4_readUnit_5_c_X4_readUnit_6 : GoodIn wf_c_X4_readUnit_5 (wsV RX4 76 RX4 yX4_readUnit wf_c_X4_readUnit_6) := goodIn_app (gi_l [35, 36, 37, 11] rfl rfl) (gi_cons (j := 0) rfl rfl (goodIn_app (goodIn_app (gi_l [1, 2, 3, 4, 5, 6, 7, 8, 9, 10, 11, 12, 13, 14, 15, 16, 17, 18, 19, 20, 21, 22, 23, 24, 25, 26, 27, 28, 29, 30, 31, 32, 33, 34, 35, 36, 37, 38, 39, 40, 41, 42, 43, 44, 45, 46, 47, 48, 49, 50, 51, 52, 53, 54, 55, 56, 57, 58, 59, 60, 61, 62, 63, 64, 65, 66, 67, 68, 69, 70, 71, 72, 73, 74, 75, 76, 77, 78, 79, 80, 81, 82, 83, 84, 85, 86, 87, 88, 89, 90, 91, 92, 93, 94, 95, 96, 97, 98, 99, 100, 101, 102, 103, 104, 105, 106, 107, 108, 109, 110, 111] rfl rfl) (goodIn_sub iw_c_X4_readUnit_5_X9 gw_X9)) (goodIn_sub iw_c_X4_readUnit_5_X4 gw_X4)))
set_option maxHeartbeats 4000000 in
set_option maxRecDepth 100000 in
theorem c_X4_readUnit_5 (l : Launch) (dC : Nat → ClassId) (dI : Nat → Nat → Nat) (sz : Nat) (h0 : Nat) (h1 : Nat) (h1_0 : Nat) (h1_f1 : Int32) (h1_f2 : Int32) (h1_f3 : Int32) (h1_0k : ClassId) (h1_0c : Nat → Int32) (h0_0 : Nat) (h0_f1 : Int32) (h0_2 : Nat) (h0_0k : ClassId) (h0_0c : Nat → Int32) (ts4 : Nat) (tv4 : Nat) (g_h1_f1 : RG h1_f1 0 240) (g_h1_f2 : RG h1_f2 0 240) (g_h1_f3 : RG h1_f3 (-1) 240) (a_h1_0c : AI h1_0c 0 255) (g_h0_f1 : RG h0_f1 0 240) : Met l yX4_readUnit wf_c_X4_readUnit_5 ({ frames := 10, cells := 0, slots := 0, locals := 241 }) (va_Pc [.ref h0, .ref h1, .int 4, .int 0] (fun U => U.heap.size = sz ∧ va_P (dC, dI) vwCl (wd_c_X4_readUnit_5 h1 h1_0 h1_f1 h1_f2 h1_f3 h1_0 h1_0k h1_0c h0 h0_0 h0_f1 h0_2 h0_0 h0_0k h0_0c) U.heap ∧ va_K (dC, dI) vwCl [(h1_0k, .int), (h0_0k, .int)] U ∧ va_D (fun _ => True) (wd_c_X4_readUnit_5 h1 h1_0 h1_f1 h1_f2 h1_f3 h1_0 h1_0k h1_0c h0 h0_0 h0_f1 h0_2 h0_0 h0_0k h0_0c) ∧ vk_R RX4 91 "vlrdph" ts4 U ∧ va_Z "java/lang/String" "COMPACT_STRINGS" "Z" (.int 1) (va_A (wd_c_X4_readUnit_5 h1 h1_0 h1_f1 h1_f2 h1_f3 h1_0 h1_0k h1_0c h0 h0_0 h0_f1 h0_2 h0_0 h0_0k h0_0c) sz) U U.heap ∧ va_OF "java/lang/String" "coder" "B" (.int 0) ts4 (va_A (wd_c_X4_readUnit_5 h1 h1_0 h1_f1 h1_f2 h1_f3 h1_0 h1_0k h1_0c h0 h0_0 h0_f1 h0_2 h0_0 h0_0k h0_0c) sz) U U.heap ∧ va_O "java/lang/String" ts4 (va_A (wd_c_X4_readUnit_5 h1 h1_0 h1_f1 h1_f2 h1_f3 h1_0 h1_0k h1_0c h0 h0_0 h0_f1 h0_2 h0_0 h0_0k h0_0c) sz) U U.heap ∧ va_OF "java/lang/String" "value" "[B" (.ref tv4) ts4 (va_A (wd_c_X4_readUnit_5 h1 h1_0 h1_f1 h1_f2 h1_f3 h1_0 h1_0k h1_0c h0 h0_0 h0_f1 h0_2 h0_0 h0_0k h0_0c) sz) U U.heap ∧ va_T .byte tv4 6 (fun j => .int ([118, 108, 114, 100, 112, 104].getD j 0)) (va_A (wd_c_X4_readUnit_5 h1 h1_0 h1_f1 h1_f2 h1_f3 h1_0 h1_0k h1_0c h0 h0_0 h0_f1 h0_2 h0_0 h0_0k h0_0c) sz) U U.heap)) (va_Qv (fun (u : (Int32) × (Int32) × (Int32) × (Nat → Int32)) => (RG u.1 0 240 ∧ RG u.2.1 (-1) 240 ∧ RG u.2.2.1 0 240)) (fun (u : (Int32) × (Int32) × (Int32) × (Nat → Int32)) t => va_P (dC, dI) vwCl (wd_c_X4_readUnit_5 h1 h1_0 h1_f1 (u.1) (u.2.1) h1_0 h1_0k h1_0c h0 h0_0 (u.2.2.1) h0_2 h0_0 h0_0k (u.2.2.2)) t.heap ∧ va_K (dC, dI) vwCl [] t ∧ va_D (va_A (wd_c_X4_readUnit_5 h1 h1_0 h1_f1 h1_f2 h1_f3 h1_0 h1_0k h1_0c h0 h0_0 h0_f1 h0_2 h0_0 h0_0k h0_0c) sz) (wd_c_X4_readUnit_5 h1 h1_0 h1_f1 (u.1) (u.2.1) h1_0 h1_0k h1_0c h0 h0_0 (u.2.2.1) h0_2 h0_0 h0_0k (u.2.2.2))) (va_A (wd_c_X4_readUnit_5 h1 h1_0 h1_f1 h1_f2 h1_f3 h1_0 h1_0k h1_0c h0 h0_0 h0_f1 h0_2 h0_0 h0_0k h0_0c) sz)) 0 0 (va_A (wd_c_X4_readUnit_5 h1 h1_0 h1_f1 h1_f2 h1_f3 h1_0 h1_0k h1_0c h0 h0_0 h0_f1 h0_2 h0_0 h0_0k h0_0c) sz) := by
  refine Met.ofW (cc := cX4_readUnit) (maxL := 5) (ret := none) (by decide +kernel) rfl ?_
  intro p e s m args below meth c s₁ B hml hv
  obtain ⟨rfl, hsz, hP, hK, hD0, hE_32, hE_10, hE_34, hE_33, hE_35, hE_36⟩ := hv
  have hx := B.exec
  have hb := B.bytes
  have hr := B.returns
  have hts := atoms_spec (ws := wf_c_X4_readUnit_5) B.pre
  have hown : s.vm.findClass RX4 = some m.cls := findClass_of_methodNamed B.named
  have hlocks := B.notSynchronized
  subst hsz
  have hD := hD0.self (sz := s.heap.size)
  generalize hAe : va_A (wd_c_X4_readUnit_5 h1 h1_0 h1_f1 h1_f2 h1_f3 h1_0 h1_0k h1_0c h0 h0_0 h0_f1 h0_2 h0_0 h0_0k h0_0c) s.heap.size = A at hD hE_10 hE_34 hE_33 hE_35 hE_36 ⊢
  have hA : ∀ q : Nat, s.heap.size ≤ q → A q := fun q h => by rw [← hAe]; exact Or.inr h
  have hP : va_P (dC, dI) vwCl (wd_c_X4_readUnit_5 h1 h1_0 h1_f1 h1_f2 h1_f3 h1_0 h1_0k h1_0c h0 h0_0 h0_f1 h0_2 h0_0 h0_0k h0_0c) s.heap := hP
  have hl := lv_entry ([.ref h0, .ref h1, .int 4, .int 0]) (n := 5) (Nat.le_of_ble_eq_true rfl)
  rw [lg_entry_eq]
  generalize (lg_sl ([.ref h0, .ref h1, .int 4, .int 0]) ++ List.replicate (5 - (lg_sl ([.ref h0, .ref h1, .int 4, .int 0])).length) Slot.unset).toArray = ls at hl ⊢
  have hl : lv_has ls 5 [(0, .ref h0), (1, .ref h1), (2, .int 4), (3, .int 0)] := hl
  obtain ⟨H, hHe⟩ : ∃ H : Heap, s.heap = H := ⟨_, rfl⟩
  have hS : va_S A s.heap H [] := by rw [hHe]; exact va_S.rf
  have hP : va_P (dC, dI) vwCl (wd_c_X4_readUnit_5 h1 h1_0 h1_f1 h1_f2 h1_f3 h1_0 h1_0k h1_0c h0 h0_0 h0_f1 h0_2 h0_0 h0_0k h0_0c) H := by rw [← hHe]; exact hP
  rw [hHe]
  refine wj (fun G hG hU => ?_)
  as_aux_lemma =>
  have J62 : ∀ (j62_h1_f2 : Int32) (j62_h1_f3 : Int32) (j62_h0_f1 : Int32) (j62_h0_0c : Nat → Int32) (g_h0_f1 : RG h0_f1 0 240) (g_h1_f1 : RG h1_f1 0 240) (g_h1_f2 : RG h1_f2 0 240) (g_h1_f3 : RG h1_f3 (-1) 240) (g_j62_h0_f1 : RG j62_h0_f1 0 240) (g_j62_h1_f2 : RG j62_h1_f2 0 240) (g_j62_h1_f3 : RG j62_h1_f3 (-1) 240) (H : Heap) (locs : List Loc) (ls : Array Slot) (hP : va_P (dC, dI) vwCl (wd_c_X4_readUnit_5 h1 h1_0 h1_f1 j62_h1_f2 j62_h1_f3 h1_0 h1_0k h1_0c h0 h0_0 j62_h0_f1 h0_2 h0_0 h0_0k j62_h0_0c) H) (hD : va_D A (wd_c_X4_readUnit_5 h1 h1_0 h1_f1 j62_h1_f2 j62_h1_f3 h1_0 h1_0k h1_0c h0 h0_0 j62_h0_f1 h0_2 h0_0 h0_0k j62_h0_0c)) (hS : va_S A s.heap H locs) (hl : lv_has ls 5 []), G H locs (F0 m 62 ls []) := by
    as_aux_lemma =>
    intro j62_h1_f2 j62_h1_f3 j62_h0_f1 j62_h0_0c g_h0_f1 g_h1_f1 g_h1_f2 g_h1_f3 g_j62_h0_f1 g_j62_h1_f2 g_j62_h1_f3 H locs ls hP hD hS hl
    refine hG _ _ _ ?_
    refine lv_goto (tgt := 126) hx hb dX4_readUnit_62 rfl ?_
    have hK9 := hK.sub (tys' := []) [] rfl
    exact W.vret hx hb hr (fun t ht hW => ⟨⟨(j62_h1_f2, j62_h1_f3, j62_h0_f1, j62_h0_0c), rfl, ⟨g_j62_h1_f2, g_j62_h1_f3, g_j62_h0_f1⟩, by rw [ht]; exact hP, va_K.moved hW.alike hK9, hD⟩, hS.F ht⟩) hS.2.2 dX4_readUnit_126
  have J24 : ∀ (j24_h1_f2 : Int32) (j24_h1_f3 : Int32) (j24_h0_f1 : Int32) (j24_h0_0c : Nat → Int32) (g_h0_f1 : RG h0_f1 0 240) (g_h1_f1 : RG h1_f1 0 240) (g_h1_f2 : RG h1_f2 0 240) (g_h1_f3 : RG h1_f3 (-1) 240) (g_j24_h0_f1 : RG j24_h0_f1 0 240) (g_j24_h1_f2 : RG j24_h1_f2 0 240) (g_j24_h1_f3 : RG j24_h1_f3 (-1) 240) (H : Heap) (locs : List Loc) (ls : Array Slot) (hP : va_P (dC, dI) vwCl (wd_c_X4_readUnit_5 h1 h1_0 h1_f1 j24_h1_f2 j24_h1_f3 h1_0 h1_0k h1_0c h0 h0_0 j24_h0_f1 h0_2 h0_0 h0_0k j24_h0_0c) H) (hD : va_D A (wd_c_X4_readUnit_5 h1 h1_0 h1_f1 j24_h1_f2 j24_h1_f3 h1_0 h1_0k h1_0c h0 h0_0 j24_h0_f1 h0_2 h0_0 h0_0k j24_h0_0c)) (hS : va_S A s.heap H locs) (hl : lv_has ls 5 [(0, .ref h0), (1, .ref h1), (2, .int 4)]), G H locs (F0 m 24 ls []) := by
    as_aux_lemma =>
    intro j24_h1_f2 j24_h1_f3 j24_h0_f1 j24_h0_0c g_h0_f1 g_h1_f1 g_h1_f2 g_h1_f3 g_j24_h0_f1 g_j24_h1_f2 g_j24_h1_f3 H locs ls hP hD hS hl
    refine hG _ _ _ ?_
    refine lv_aload_n hx hb dX4_readUnit_24 rfl (lv_at hl 1 rfl) ?_
    obtain ⟨hPc, hDc, hFc, hqc⟩ := cl_cut (wc := (wd_c_X9_peek h1 h1_0 h1_f1 j24_h1_f2 j24_h1_f3 h1_0 h1_0k h1_0c)) hP hD hS hA [0, 1] (by decide +kernel) rfl
    have hKc := hK.sub (tys' := [(h1_0k, .int)]) [0] rfl
    have hrv := va_recv hKc hPc (ci := 9) (q0 := 0) rfl rfl
    refine va_calli (va_runV (As := []) (rest := []) ⟨hx, hb, hml, hown, hts⟩ (c_X9_peek l dC dI H.size h1 h1_0 h1_f1 j24_h1_f2 j24_h1_f3 h1_0k h1_0c g_h1_f1 g_j24_h1_f2 g_j24_h1_f3 a_h1_0c) (cwV 0 hts gf_c_X4_readUnit_5_c_X9_peek rfl rfl rfl mdV_X9_peek ⟨Nat.le_of_ble_eq_true rfl, Nat.le_of_ble_eq_true rfl⟩) ⟨fun a U g mk q => by obtain ⟨q0, q1, qP, qK, qD⟩ := q; exact ⟨q0, q1, qP, va_K.moved (u := U) (U := U.calling g mk a) (Vm.Alike.refl U.vm) qK, qD⟩, hrv, fun U hU hW => ⟨rfl, by rw [hU], by rw [hU]; exact hPc, va_K.moved hW.alike hKc, hDc.weaken (fun _ _ _ _ => trivial)⟩⟩ rfl rfl hl.1 rfl (lv_room (Nat.le_of_ble_eq_true rfl)) dX4_readUnit_25 ⟨Nat.le_of_ble_eq_true rfl, Nat.le_of_ble_eq_true rfl⟩) hS (fun q _ h => hFc q h) hFc (fun r_1 x_2 t H1 locs ht hvm hw hB hz1 hk1 hS => ?_)
    obtain ⟨hP1, hK1, hD1⟩ := hB
    rw [ht] at hP1
    obtain ⟨hP, hD⟩ := cl_put (w1 := (wd_c_X9_peek h1 h1_0 h1_f1 x_2 j24_h1_f3 h1_0 h1_0k h1_0c)) (nw := (wd_c_X4_readUnit_5 h1 h1_0 h1_f1 x_2 j24_h1_f3 h1_0 h1_0k h1_0c h0 h0_0 j24_h0_f1 h0_2 h0_0 h0_0k j24_h0_0c)) hP hD [0, 1] [4, 5, 2, 3] 4 rfl hqc (by decide +kernel) rfl hk1 hFc hP1 hD1
    generalize H1 = H at hP hS ⊢
    as_aux_lemma =>
    rcases hw with ⟨h_3, h_4, h_5⟩ | ⟨h_6, h_7, h_8, h_9⟩
    · rw [h_3]
      refine lv_istore (lv' := [(4, .int (-1)), (0, .ref h0), (1, .ref h1), (2, .int 4)]) hx hb dX4_readUnit_28 hl (Nat.le_of_ble_eq_true rfl) rfl (fun ls hl => ?_)
      refine lv_iload hx hb dX4_readUnit_30 (lv_at hl 0 rfl) ?_
      obtain ⟨hPc, hDc, hFc, hqc⟩ := cl_cut (wc := []) hP hD hS hA [] (by decide +kernel) rfl
      have hKc := hK.sub (tys' := []) [] rfl
      refine va_calli (va_runS (As := [.int (-1)]) (rest := []) ⟨hx, hb, hml, hown, hts⟩ (c_X4_isComparison l dC dI H.size (-1) (RG_k (-1) (-1) rfl)) (va_cwS 1 hts gf_c_X4_readUnit_5_c_X4_isComparison rfl rfl rfl md_X4_isComparison ⟨Nat.le_of_ble_eq_true rfl, Nat.le_of_ble_eq_true rfl⟩) ⟨fun a U g mk q => by obtain ⟨q0, q1, qP, qK, qD⟩ := q; exact ⟨q0, q1, qP, va_K.moved (u := U) (U := U.calling g mk a) (Vm.Alike.refl U.vm) qK, qD⟩, fun U hU hW => ⟨rfl, by rw [hU], by rw [hU]; exact hPc, va_K.moved hW.alike hKc, hDc.weaken (fun _ _ _ _ => trivial)⟩⟩ rfl rfl hl.1 rfl (lv_room (Nat.le_of_ble_eq_true rfl)) dX4_readUnit_32 ⟨Nat.le_of_ble_eq_true rfl, Nat.le_of_ble_eq_true rfl⟩) hS (fun q _ h => hFc q h) hFc (fun r_10 u t H1 locs ht hvm hw hB hz1 hk1 hS => ?_)
      obtain ⟨hP1, hK1, hD1⟩ := hB
      rw [ht] at hP1
      have hP := bv_still hP hk1
      generalize H1 = H at hP hS ⊢
      as_aux_lemma =>
      have h_11 := hw
      rw [h_11]
      refine lv_if_eq (tgt := 58) hx hb dX4_readUnit_35 rfl (fun c_12 => ?_) (fun c_12 => absurd c_12 (by decide +kernel))
      refine lv_aload_n hx hb dX4_readUnit_58 rfl (lv_at hl 2 rfl) ?_
      obtain ⟨hPc, hDc, hFc, hqc⟩ := cl_cut (wc := (wd_c_X9_refuseHere h1 h1_0 h1_f1 x_2 j24_h1_f3)) hP hD hS hA [0] (by decide +kernel) rfl
      have hKc := hK.sub (tys' := []) [] rfl
      have hrv := va_recv hKc hPc (ci := 9) (q0 := 0) rfl rfl
      refine va_callv (va_runV (As := []) (rest := []) ⟨hx, hb, hml, hown, hts⟩ (c_X9_refuseHere l dC dI H.size h1 h1_0 h1_f1 x_2 j24_h1_f3 g_h1_f1 h_4 g_j24_h1_f3) (cwV 0 hts gf_c_X4_readUnit_5_c_X9_refuseHere rfl rfl rfl mdV_X9_refuseHere ⟨Nat.le_of_ble_eq_true rfl, Nat.le_of_ble_eq_true rfl⟩) ⟨fun a U g mk q => by obtain ⟨q0, q1, qP, qK, qD⟩ := q; exact ⟨q0, q1, qP, va_K.moved (u := U) (U := U.calling g mk a) (Vm.Alike.refl U.vm) qK, qD⟩, hrv, fun U hU hW => ⟨rfl, by rw [hU], by rw [hU]; exact hPc, va_K.moved hW.alike hKc, hDc.weaken (fun _ _ _ _ => trivial)⟩⟩ rfl rfl hl.1 rfl (lv_room (Nat.le_of_ble_eq_true rfl)) dX4_readUnit_59 ⟨Nat.le_of_ble_eq_true rfl, Nat.le_of_ble_eq_true rfl⟩) hS (fun q _ h => hFc q h) hFc (fun x_14 t H1 locs ht hvm hw hB hz1 hk1 hS => ?_)
      obtain ⟨hP1, hK1, hD1⟩ := hB
      rw [ht] at hP1
      obtain ⟨hP, hD⟩ := cl_put (w1 := (wd_c_X9_refuseHere h1 h1_0 h1_f1 x_2 x_14)) (nw := (wd_c_X4_readUnit_5 h1 h1_0 h1_f1 x_2 x_14 h1_0 h1_0k h1_0c h0 h0_0 j24_h0_f1 h0_2 h0_0 h0_0k j24_h0_0c)) hP hD [0] [4, 1, 2, 3] 4 rfl hqc (by decide +kernel) rfl hk1 hFc hP1 hD1
      generalize H1 = H at hP hS ⊢
      as_aux_lemma =>
      have h_15 := hw
      exact hU _ _ _ (J62 x_2 x_14 j24_h0_f1 j24_h0_0c g_h0_f1 g_h1_f1 g_h1_f2 g_h1_f3 g_j24_h0_f1 h_4 (RG_w h_15 (by decide +kernel)) _ _ _ hP hD hS (lv_sub hl [] rfl))
    · refine lv_istore (lv' := [(4, .int r_1), (0, .ref h0), (1, .ref h1), (2, .int 4)]) hx hb dX4_readUnit_28 hl (Nat.le_of_ble_eq_true rfl) rfl (fun ls hl => ?_)
      refine lv_iload hx hb dX4_readUnit_30 (lv_at hl 0 rfl) ?_
      obtain ⟨hPc, hDc, hFc, hqc⟩ := cl_cut (wc := []) hP hD hS hA [] (by decide +kernel) rfl
      have hKc := hK.sub (tys' := []) [] rfl
      refine va_calli (va_runS (As := [.int r_1]) (rest := []) ⟨hx, hb, hml, hown, hts⟩ (c_X4_isComparison_1 l dC dI H.size r_1 h_6) (va_cwS 1 hts gf_c_X4_readUnit_5_c_X4_isComparison_1 rfl rfl rfl md_X4_isComparison ⟨Nat.le_of_ble_eq_true rfl, Nat.le_of_ble_eq_true rfl⟩) ⟨fun a U g mk q => by obtain ⟨q0, q1, qP, qK, qD⟩ := q; exact ⟨q0, q1, qP, va_K.moved (u := U) (U := U.calling g mk a) (Vm.Alike.refl U.vm) qK, qD⟩, fun U hU hW => ⟨rfl, by rw [hU], by rw [hU]; exact hPc, va_K.moved hW.alike hKc, hDc.weaken (fun _ _ _ _ => trivial)⟩⟩ rfl rfl hl.1 rfl (lv_room (Nat.le_of_ble_eq_true rfl)) dX4_readUnit_32 ⟨Nat.le_of_ble_eq_true rfl, Nat.le_of_ble_eq_true rfl⟩) hS (fun q _ h => hFc q h) hFc (fun r_16 u t H1 locs ht hvm hw hB hz1 hk1 hS => ?_)
      obtain ⟨hP1, hK1, hD1⟩ := hB
      rw [ht] at hP1
      have hP := bv_still hP hk1
      generalize H1 = H at hP hS ⊢
      as_aux_lemma =>
      rcases hw with h_17 | ⟨h_18, h_19⟩
      · rw [h_17]
        refine lv_if_eq (tgt := 58) hx hb dX4_readUnit_35 rfl (fun c_20 => ?_) (fun c_20 => absurd c_20 (by decide +kernel))
        refine lv_aload_n hx hb dX4_readUnit_58 rfl (lv_at hl 2 rfl) ?_
        obtain ⟨hPc, hDc, hFc, hqc⟩ := cl_cut (wc := (wd_c_X9_refuseHere h1 h1_0 h1_f1 x_2 j24_h1_f3)) hP hD hS hA [0] (by decide +kernel) rfl
        have hKc := hK.sub (tys' := []) [] rfl
        have hrv := va_recv hKc hPc (ci := 9) (q0 := 0) rfl rfl
        refine va_callv (va_runV (As := []) (rest := []) ⟨hx, hb, hml, hown, hts⟩ (c_X9_refuseHere l dC dI H.size h1 h1_0 h1_f1 x_2 j24_h1_f3 (RG_w h_8 (by decide +kernel)) (RG_w h_7 (by decide +kernel)) g_j24_h1_f3) (cwV 0 hts gf_c_X4_readUnit_5_c_X9_refuseHere rfl rfl rfl mdV_X9_refuseHere ⟨Nat.le_of_ble_eq_true rfl, Nat.le_of_ble_eq_true rfl⟩) ⟨fun a U g mk q => by obtain ⟨q0, q1, qP, qK, qD⟩ := q; exact ⟨q0, q1, qP, va_K.moved (u := U) (U := U.calling g mk a) (Vm.Alike.refl U.vm) qK, qD⟩, hrv, fun U hU hW => ⟨rfl, by rw [hU], by rw [hU]; exact hPc, va_K.moved hW.alike hKc, hDc.weaken (fun _ _ _ _ => trivial)⟩⟩ rfl rfl hl.1 rfl (lv_room (Nat.le_of_ble_eq_true rfl)) dX4_readUnit_59 ⟨Nat.le_of_ble_eq_true rfl, Nat.le_of_ble_eq_true rfl⟩) hS (fun q _ h => hFc q h) hFc (fun x_22 t H1 locs ht hvm hw hB hz1 hk1 hS => ?_)
        obtain ⟨hP1, hK1, hD1⟩ := hB
        rw [ht] at hP1
        obtain ⟨hP, hD⟩ := cl_put (w1 := (wd_c_X9_refuseHere h1 h1_0 h1_f1 x_2 x_22)) (nw := (wd_c_X4_readUnit_5 h1 h1_0 h1_f1 x_2 x_22 h1_0 h1_0k h1_0c h0 h0_0 j24_h0_f1 h0_2 h0_0 h0_0k j24_h0_0c)) hP hD [0] [4, 1, 2, 3] 4 rfl hqc (by decide +kernel) rfl hk1 hFc hP1 hD1
        generalize H1 = H at hP hS ⊢
        as_aux_lemma =>
        have h_23 := hw
        exact hU _ _ _ (J62 x_2 x_22 j24_h0_f1 j24_h0_0c g_h0_f1 (RG_w h_8 (by decide +kernel)) g_h1_f2 g_h1_f3 g_j24_h0_f1 (RG_w h_7 (by decide +kernel)) (RG_w h_23 (by decide +kernel)) _ _ _ hP hD hS (lv_sub hl [] rfl))
      · rw [h_18]
        refine lv_if_eq (tgt := 58) hx hb dX4_readUnit_35 rfl (fun c_24 => absurd c_24 (by decide +kernel)) (fun c_24 => ?_)
        refine lv_aload_n hx hb dX4_readUnit_38 rfl (lv_at hl 2 rfl) ?_
        obtain ⟨hPc, hDc, hFc, hqc⟩ := cl_cut (wc := (wd_c_X9_skip h1 h1_0 h1_f1 x_2 j24_h1_f3)) hP hD hS hA [0] (by decide +kernel) rfl
        have hKc := hK.sub (tys' := []) [] rfl
        have hrv := va_recv hKc hPc (ci := 9) (q0 := 0) rfl rfl
        refine va_callv (va_runV (As := []) (rest := []) ⟨hx, hb, hml, hown, hts⟩ (c_X9_skip l dC dI H.size h1 h1_0 h1_f1 x_2 j24_h1_f3 (RG_w h_8 (by decide +kernel)) h_7 g_j24_h1_f3) (cwV 0 hts gf_c_X4_readUnit_5_c_X9_skip rfl rfl rfl mdV_X9_skip ⟨Nat.le_of_ble_eq_true rfl, Nat.le_of_ble_eq_true rfl⟩) ⟨fun a U g mk q => by obtain ⟨q0, q1, qP, qK, qD⟩ := q; exact ⟨q0, q1, qP, va_K.moved (u := U) (U := U.calling g mk a) (Vm.Alike.refl U.vm) qK, qD⟩, hrv, fun U hU hW => ⟨rfl, by rw [hU], by rw [hU]; exact hPc, va_K.moved hW.alike hKc, hDc.weaken (fun _ _ _ _ => trivial)⟩⟩ rfl rfl hl.1 rfl (lv_room (Nat.le_of_ble_eq_true rfl)) dX4_readUnit_39 ⟨Nat.le_of_ble_eq_true rfl, Nat.le_of_ble_eq_true rfl⟩) hS (fun q _ h => hFc q h) hFc (fun x_26 t H1 locs ht hvm hw hB hz1 hk1 hS => ?_)
        obtain ⟨hP1, hK1, hD1⟩ := hB
        rw [ht] at hP1
        obtain ⟨hP, hD⟩ := cl_put (w1 := (wd_c_X9_skip h1 h1_0 h1_f1 x_26 j24_h1_f3)) (nw := (wd_c_X4_readUnit_5 h1 h1_0 h1_f1 x_26 j24_h1_f3 h1_0 h1_0k h1_0c h0 h0_0 j24_h0_f1 h0_2 h0_0 h0_0k j24_h0_0c)) hP hD [0] [4, 1, 2, 3] 4 rfl hqc (by decide +kernel) rfl hk1 hFc hP1 hD1
        generalize H1 = H at hP hS ⊢
        as_aux_lemma =>
        rcases hw with ⟨h_27, h_28, h_29⟩
        refine lv_aload_n hx hb dX4_readUnit_42 rfl (lv_at hl 1 rfl) ?_
        refine lv_aload_n hx hb dX4_readUnit_43 rfl (lv_at hl 2 rfl) ?_
        refine lv_iload_n hx hb dX4_readUnit_44 rfl (lv_at hl 3 rfl) ?_
        obtain ⟨hPc, hDc, hFc, hqc⟩ := cl_cut (wc := (wd_c_X4_readSum_4 h1 h1_0 h1_f1 x_26 j24_h1_f3 h1_0 h1_0k h1_0c h0 h0_0 j24_h0_f1 h0_2 h0_0 h0_0k j24_h0_0c)) hP hD hS hA [0, 1, 2, 3] (by decide +kernel) rfl
        have hKc := hK.sub (tys' := [(h1_0k, .int), (h0_0k, .int)]) [0, 1] rfl
        have hrv := va_recv hKc hPc (ci := 4) (q0 := 2) rfl rfl
        refine va_callv (va_runV (As := [.ref h1, .int 4]) (rest := []) ⟨hx, hb, hml, hown, hts⟩ (c_X4_readSum_4 l dC dI H.size h0 h1 h1_0 h1_f1 x_26 j24_h1_f3 h1_0k h1_0c h0_0 j24_h0_f1 h0_2 h0_0k j24_h0_0c ts4 tv4 (RG_w h_8 (by decide +kernel)) (RG_w h_27 (by decide +kernel)) g_j24_h1_f3 a_h1_0c g_j24_h0_f1) (cwV 2 hts gf_c_X4_readUnit_5_c_X4_readSum_4 rfl rfl rfl mdV_X4_readSum ⟨Nat.le_of_ble_eq_true rfl, Nat.le_of_ble_eq_true rfl⟩) ⟨fun a U g mk q => by obtain ⟨q0, q1, qP, qK, qD, qE0, qE1, qE2, qE3, qE4, qE5⟩ := q; exact ⟨q0, q1, qP, va_K.moved (u := U) (U := U.calling g mk a) (Vm.Alike.refl U.vm) qK, qD, vk_R.same rfl qE0, va_Z.moved (u := U) (U := U.calling g mk a) (Vm.Alike.refl U.vm) qE1, va_OF.moved (u := U) (U := U.calling g mk a) (Vm.Alike.refl U.vm) qE2, va_O.moved (u := U) (U := U.calling g mk a) (Vm.Alike.refl U.vm) qE3, va_OF.moved (u := U) (U := U.calling g mk a) (Vm.Alike.refl U.vm) qE4, va_T.moved (u := U) (U := U.calling g mk a) (Vm.Alike.refl U.vm) qE5⟩, hrv, fun U hU hW => ⟨rfl, by rw [hU], by rw [hU]; exact hPc, va_K.moved hW.alike hKc, hDc.weaken (fun _ _ _ _ => trivial), vk_R.warm hW hE_32, va_Z.moved hW.alike (by rw [hU]; exact (hE_10.kept hS.2.1).narrow hFc), va_OF.moved hW.alike (by rw [hU]; exact (hE_34.kept hS.2.1).narrow hFc), va_O.moved hW.alike (by rw [hU]; exact (hE_33.kept hS.2.1).narrow hFc), va_OF.moved hW.alike (by rw [hU]; exact (hE_35.kept hS.2.1).narrow hFc), va_T.moved hW.alike (by rw [hU]; exact (hE_36.kept hS.2.1).narrow hFc)⟩⟩ rfl rfl hl.1 rfl (lv_room (Nat.le_of_ble_eq_true rfl)) dX4_readUnit_45 ⟨Nat.le_of_ble_eq_true rfl, Nat.le_of_ble_eq_true rfl⟩) hS (fun q _ h => hFc q h) hFc (fun u t H1 locs ht hvm hw hB hz1 hk1 hS => ?_)
        obtain ⟨x_31, x_32, x_33, w_34⟩ := u
        obtain ⟨hP1, hK1, hD1⟩ := hB
        rw [ht] at hP1
        obtain ⟨hP, hD⟩ := cl_put (w1 := (wd_c_X4_readSum_4 h1 h1_0 h1_f1 x_31 x_32 h1_0 h1_0k h1_0c h0 h0_0 x_33 h0_2 h0_0 h0_0k w_34)) (nw := (wd_c_X4_readUnit_5 h1 h1_0 h1_f1 x_31 x_32 h1_0 h1_0k h1_0c h0 h0_0 x_33 h0_2 h0_0 h0_0k w_34)) hP hD [0, 1, 2, 3] [4, 5, 6, 7] 4 rfl hqc (by decide +kernel) rfl hk1 hFc hP1 hD1
        generalize H1 = H at hP hS ⊢
        as_aux_lemma =>
        rcases hw with ⟨h_35, h_36, h_37⟩
        refine lv_aload_n hx hb dX4_readUnit_48 rfl (lv_at hl 1 rfl) ?_
        refine lv_iload hx hb dX4_readUnit_49 (lv_at hl 0 rfl) ?_
        refine lv_ineg hx hb dX4_readUnit_51 ?_
        refine lv_topi (fun x_38 ex_38 => ?_)
        have g_39 : RG x_38 (-62) (-60) := RG_neg ex_38 h_19 (by decide +kernel)
        obtain ⟨hPc, hDc, hFc, hqc⟩ := cl_cut (wc := (wd_c_X4_emit h0 h0_0 x_33 h0_2 h0_0 h0_0k w_34)) hP hD hS hA [2, 3] (by decide +kernel) rfl
        have hKc := hK.sub (tys' := [(h0_0k, .int)]) [1] rfl
        have hrv := va_recv hKc hPc (ci := 4) (q0 := 0) rfl rfl
        refine va_callv (va_runV (As := [.int x_38]) (rest := []) ⟨hx, hb, hml, hown, hts⟩ (c_X4_emit l dC dI H.size h0 x_38 h0_0 x_33 h0_2 h0_0k w_34 h_37) (cwV 1 hts gf_c_X4_readUnit_5_c_X4_emit rfl rfl rfl mdV_X4_emit ⟨Nat.le_of_ble_eq_true rfl, Nat.le_of_ble_eq_true rfl⟩) ⟨fun a U g mk q => by obtain ⟨q0, q1, qP, qK, qD⟩ := q; exact ⟨q0, q1, qP, va_K.moved (u := U) (U := U.calling g mk a) (Vm.Alike.refl U.vm) qK, qD⟩, hrv, fun U hU hW => ⟨rfl, by rw [hU], by rw [hU]; exact hPc, va_K.moved hW.alike hKc, hDc.weaken (fun _ _ _ _ => trivial)⟩⟩ rfl rfl hl.1 rfl (lv_room (Nat.le_of_ble_eq_true rfl)) dX4_readUnit_52 ⟨Nat.le_of_ble_eq_true rfl, Nat.le_of_ble_eq_true rfl⟩) hS (fun q _ h => hFc q h) hFc (fun u t H1 locs ht hvm hw hB hz1 hk1 hS => ?_)
        obtain ⟨x_41, w_42⟩ := u
        obtain ⟨hP1, hK1, hD1⟩ := hB
        rw [ht] at hP1
        obtain ⟨hP, hD⟩ := cl_put (w1 := (wd_c_X4_emit h0 h0_0 x_41 h0_2 h0_0 h0_0k w_42)) (nw := (wd_c_X4_readUnit_5 h1 h1_0 h1_f1 x_31 x_32 h1_0 h1_0k h1_0c h0 h0_0 x_41 h0_2 h0_0 h0_0k w_42)) hP hD [2, 3] [0, 1, 4, 5] 4 rfl hqc (by decide +kernel) rfl hk1 hFc hP1 hD1
        generalize H1 = H at hP hS ⊢
        as_aux_lemma =>
        have h_43 := hw
        refine lv_goto (tgt := 62) hx hb dX4_readUnit_55 rfl ?_
        exact hU _ _ _ (J62 x_31 x_32 x_41 w_42 g_h0_f1 (RG_w h_8 (by decide +kernel)) g_h1_f2 g_h1_f3 (RG_w h_43 (by decide +kernel)) h_35 h_36 _ _ _ hP hD hS (lv_sub hl [] rfl))
  have J14 : ∀ (j14_h1_f2 : Int32) (g_h0_f1 : RG h0_f1 0 240) (g_h1_f1 : RG h1_f1 0 240) (g_h1_f2 : RG h1_f2 0 240) (g_h1_f3 : RG h1_f3 (-1) 240) (g_j14_h1_f2 : RG j14_h1_f2 0 240) (H : Heap) (locs : List Loc) (ls : Array Slot) (hP : va_P (dC, dI) vwCl (wd_c_X4_readUnit_5 h1 h1_0 h1_f1 j14_h1_f2 h1_f3 h1_0 h1_0k h1_0c h0 h0_0 h0_f1 h0_2 h0_0 h0_0k h0_0c) H) (hD : va_D A (wd_c_X4_readUnit_5 h1 h1_0 h1_f1 j14_h1_f2 h1_f3 h1_0 h1_0k h1_0c h0 h0_0 h0_f1 h0_2 h0_0 h0_0k h0_0c)) (hS : va_S A s.heap H locs) (hl : lv_has ls 5 [(0, .ref h0), (1, .ref h1), (2, .int 4), (3, .int 0)]), G H locs (F0 m 14 ls []) := by
    as_aux_lemma =>
    intro j14_h1_f2 g_h0_f1 g_h1_f1 g_h1_f2 g_h1_f3 g_j14_h1_f2 H locs ls hP hD hS hl
    refine hG _ _ _ ?_
    refine lv_iload_n hx hb dX4_readUnit_14 rfl (lv_at hl 3 rfl) ?_
    refine lv_if_ne (tgt := 24) hx hb dX4_readUnit_15 rfl (fun c_44 => absurd c_44 (by decide +kernel)) (fun c_44 => ?_)
    refine lv_aload_n hx hb dX4_readUnit_18 rfl (lv_at hl 0 rfl) ?_
    refine lv_aload_n hx hb dX4_readUnit_19 rfl (lv_at hl 1 rfl) ?_
    refine lv_iload_n hx hb dX4_readUnit_20 rfl (lv_at hl 2 rfl) ?_
    obtain ⟨hPc, hDc, hFc, hqc⟩ := cl_cut (wc := (wd_c_X4_readSum_4 h1 h1_0 h1_f1 j14_h1_f2 h1_f3 h1_0 h1_0k h1_0c h0 h0_0 h0_f1 h0_2 h0_0 h0_0k h0_0c)) hP hD hS hA [0, 1, 2, 3] (by decide +kernel) rfl
    have hKc := hK.sub (tys' := [(h1_0k, .int), (h0_0k, .int)]) [0, 1] rfl
    have hrv := va_recv hKc hPc (ci := 4) (q0 := 2) rfl rfl
    refine va_callv (va_runV (As := [.ref h1, .int 4]) (rest := []) ⟨hx, hb, hml, hown, hts⟩ (c_X4_readSum_4 l dC dI H.size h0 h1 h1_0 h1_f1 j14_h1_f2 h1_f3 h1_0k h1_0c h0_0 h0_f1 h0_2 h0_0k h0_0c ts4 tv4 g_h1_f1 g_j14_h1_f2 g_h1_f3 a_h1_0c g_h0_f1) (cwV 2 hts gf_c_X4_readUnit_5_c_X4_readSum_4 rfl rfl rfl mdV_X4_readSum ⟨Nat.le_of_ble_eq_true rfl, Nat.le_of_ble_eq_true rfl⟩) ⟨fun a U g mk q => by obtain ⟨q0, q1, qP, qK, qD, qE0, qE1, qE2, qE3, qE4, qE5⟩ := q; exact ⟨q0, q1, qP, va_K.moved (u := U) (U := U.calling g mk a) (Vm.Alike.refl U.vm) qK, qD, vk_R.same rfl qE0, va_Z.moved (u := U) (U := U.calling g mk a) (Vm.Alike.refl U.vm) qE1, va_OF.moved (u := U) (U := U.calling g mk a) (Vm.Alike.refl U.vm) qE2, va_O.moved (u := U) (U := U.calling g mk a) (Vm.Alike.refl U.vm) qE3, va_OF.moved (u := U) (U := U.calling g mk a) (Vm.Alike.refl U.vm) qE4, va_T.moved (u := U) (U := U.calling g mk a) (Vm.Alike.refl U.vm) qE5⟩, hrv, fun U hU hW => ⟨rfl, by rw [hU], by rw [hU]; exact hPc, va_K.moved hW.alike hKc, hDc.weaken (fun _ _ _ _ => trivial), vk_R.warm hW hE_32, va_Z.moved hW.alike (by rw [hU]; exact (hE_10.kept hS.2.1).narrow hFc), va_OF.moved hW.alike (by rw [hU]; exact (hE_34.kept hS.2.1).narrow hFc), va_O.moved hW.alike (by rw [hU]; exact (hE_33.kept hS.2.1).narrow hFc), va_OF.moved hW.alike (by rw [hU]; exact (hE_35.kept hS.2.1).narrow hFc), va_T.moved hW.alike (by rw [hU]; exact (hE_36.kept hS.2.1).narrow hFc)⟩⟩ rfl rfl hl.1 rfl (lv_room (Nat.le_of_ble_eq_true rfl)) dX4_readUnit_21 ⟨Nat.le_of_ble_eq_true rfl, Nat.le_of_ble_eq_true rfl⟩) hS (fun q _ h => hFc q h) hFc (fun u t H1 locs ht hvm hw hB hz1 hk1 hS => ?_)
    obtain ⟨x_46, x_47, x_48, w_49⟩ := u
    obtain ⟨hP1, hK1, hD1⟩ := hB
    rw [ht] at hP1
    obtain ⟨hP, hD⟩ := cl_put (w1 := (wd_c_X4_readSum_4 h1 h1_0 h1_f1 x_46 x_47 h1_0 h1_0k h1_0c h0 h0_0 x_48 h0_2 h0_0 h0_0k w_49)) (nw := (wd_c_X4_readUnit_5 h1 h1_0 h1_f1 x_46 x_47 h1_0 h1_0k h1_0c h0 h0_0 x_48 h0_2 h0_0 h0_0k w_49)) hP hD [0, 1, 2, 3] [4, 5, 6, 7] 4 rfl hqc (by decide +kernel) rfl hk1 hFc hP1 hD1
    generalize H1 = H at hP hS ⊢
    as_aux_lemma =>
    rcases hw with ⟨h_50, h_51, h_52⟩
    exact hU _ _ _ (J24 x_46 x_47 x_48 w_49 g_h0_f1 g_h1_f1 g_h1_f2 g_h1_f3 h_52 h_50 h_51 _ _ _ hP hD hS (lv_sub hl [0, 1, 2] rfl))
  refine hG _ _ _ ?_
  refine lv_iload_n hx hb dX4_readUnit_0 rfl (lv_at hl 3 rfl) ?_
  refine lv_if_ne (tgt := 14) hx hb dX4_readUnit_1 rfl (fun c_53 => absurd c_53 (by decide +kernel)) (fun c_53 => ?_)
  refine lv_aload_n hx hb dX4_readUnit_4 rfl (lv_at hl 1 rfl) ?_
  obtain ⟨hPc, hDc, hFc, hqc⟩ := cl_cut (wc := (wd_c_X9_peek h1 h1_0 h1_f1 h1_f2 h1_f3 h1_0 h1_0k h1_0c)) hP hD hS hA [0, 1] (by decide +kernel) rfl
  have hKc := hK.sub (tys' := [(h1_0k, .int)]) [0] rfl
  have hrv := va_recv hKc hPc (ci := 9) (q0 := 0) rfl rfl
  refine va_calli (va_runV (As := []) (rest := []) ⟨hx, hb, hml, hown, hts⟩ (c_X9_peek l dC dI H.size h1 h1_0 h1_f1 h1_f2 h1_f3 h1_0k h1_0c g_h1_f1 g_h1_f2 g_h1_f3 a_h1_0c) (cwV 0 hts gf_c_X4_readUnit_5_c_X9_peek rfl rfl rfl mdV_X9_peek ⟨Nat.le_of_ble_eq_true rfl, Nat.le_of_ble_eq_true rfl⟩) ⟨fun a U g mk q => by obtain ⟨q0, q1, qP, qK, qD⟩ := q; exact ⟨q0, q1, qP, va_K.moved (u := U) (U := U.calling g mk a) (Vm.Alike.refl U.vm) qK, qD⟩, hrv, fun U hU hW => ⟨rfl, by rw [hU], by rw [hU]; exact hPc, va_K.moved hW.alike hKc, hDc.weaken (fun _ _ _ _ => trivial)⟩⟩ rfl rfl hl.1 rfl (lv_room (Nat.le_of_ble_eq_true rfl)) dX4_readUnit_5 ⟨Nat.le_of_ble_eq_true rfl, Nat.le_of_ble_eq_true rfl⟩) hS (fun q _ h => hFc q h) hFc (fun r_54 x_55 t H1 locs ht hvm hw hB hz1 hk1 hS => ?_)
  obtain ⟨hP1, hK1, hD1⟩ := hB
  rw [ht] at hP1
  obtain ⟨hP, hD⟩ := cl_put (w1 := (wd_c_X9_peek h1 h1_0 h1_f1 x_55 h1_f3 h1_0 h1_0k h1_0c)) (nw := (wd_c_X4_readUnit_5 h1 h1_0 h1_f1 x_55 h1_f3 h1_0 h1_0k h1_0c h0 h0_0 h0_f1 h0_2 h0_0 h0_0k h0_0c)) hP hD [0, 1] [4, 5, 2, 3] 4 rfl hqc (by decide +kernel) rfl hk1 hFc hP1 hD1
  generalize H1 = H at hP hS ⊢
  as_aux_lemma =>
  rcases hw with ⟨h_56, h_57, h_58⟩ | ⟨h_59, h_60, h_61, h_62⟩
  · rw [h_56]
    obtain ⟨hPc, hDc, hFc, hqc⟩ := cl_cut (wc := []) hP hD hS hA [] (by decide +kernel) rfl
    have hKc := hK.sub (tys' := []) [] rfl
    refine va_calli (va_runS (As := [.int (-1)]) (rest := []) ⟨hx, hb, hml, hown, hts⟩ (c_X4_startsUnit l dC dI H.size (-1) (RG_k (-1) (-1) rfl)) (va_cwS 1 hts gf_c_X4_readUnit_5_c_X4_startsUnit rfl rfl rfl md_X4_startsUnit ⟨Nat.le_of_ble_eq_true rfl, Nat.le_of_ble_eq_true rfl⟩) ⟨fun a U g mk q => by obtain ⟨q0, q1, qP, qK, qD⟩ := q; exact ⟨q0, q1, qP, va_K.moved (u := U) (U := U.calling g mk a) (Vm.Alike.refl U.vm) qK, qD⟩, fun U hU hW => ⟨rfl, by rw [hU], by rw [hU]; exact hPc, va_K.moved hW.alike hKc, hDc.weaken (fun _ _ _ _ => trivial)⟩⟩ rfl rfl hl.1 rfl (lv_room (Nat.le_of_ble_eq_true rfl)) dX4_readUnit_8 ⟨Nat.le_of_ble_eq_true rfl, Nat.le_of_ble_eq_true rfl⟩) hS (fun q _ h => hFc q h) hFc (fun r_63 u t H1 locs ht hvm hw hB hz1 hk1 hS => ?_)
    obtain ⟨hP1, hK1, hD1⟩ := hB
    rw [ht] at hP1
    have hP := bv_still hP hk1
    generalize H1 = H at hP hS ⊢
    as_aux_lemma =>
    have h_64 := hw
    rw [h_64]
    refine lv_if_ne (tgt := 65) hx hb dX4_readUnit_11 rfl (fun c_65 => absurd c_65 (by decide +kernel)) (fun c_65 => ?_)
    exact hU _ _ _ (J14 x_55 g_h0_f1 g_h1_f1 g_h1_f2 g_h1_f3 h_57 _ _ _ hP hD hS (lv_sub hl [0, 1, 2, 3] rfl))
  · obtain ⟨hPc, hDc, hFc, hqc⟩ := cl_cut (wc := []) hP hD hS hA [] (by decide +kernel) rfl
    have hKc := hK.sub (tys' := []) [] rfl
    refine va_calli (va_runS (As := [.int r_54]) (rest := []) ⟨hx, hb, hml, hown, hts⟩ (c_X4_startsUnit_1 l dC dI H.size r_54 h_59) (va_cwS 1 hts gf_c_X4_readUnit_5_c_X4_startsUnit_1 rfl rfl rfl md_X4_startsUnit ⟨Nat.le_of_ble_eq_true rfl, Nat.le_of_ble_eq_true rfl⟩) ⟨fun a U g mk q => by obtain ⟨q0, q1, qP, qK, qD⟩ := q; exact ⟨q0, q1, qP, va_K.moved (u := U) (U := U.calling g mk a) (Vm.Alike.refl U.vm) qK, qD⟩, fun U hU hW => ⟨rfl, by rw [hU], by rw [hU]; exact hPc, va_K.moved hW.alike hKc, hDc.weaken (fun _ _ _ _ => trivial)⟩⟩ rfl rfl hl.1 rfl (lv_room (Nat.le_of_ble_eq_true rfl)) dX4_readUnit_8 ⟨Nat.le_of_ble_eq_true rfl, Nat.le_of_ble_eq_true rfl⟩) hS (fun q _ h => hFc q h) hFc (fun r_66 u t H1 locs ht hvm hw hB hz1 hk1 hS => ?_)
    obtain ⟨hP1, hK1, hD1⟩ := hB
    rw [ht] at hP1
    have hP := bv_still hP hk1
    generalize H1 = H at hP hS ⊢
    as_aux_lemma =>
    rcases hw with h_67 | ⟨h_68, h_69⟩
    · rw [h_67]
      refine lv_if_ne (tgt := 65) hx hb dX4_readUnit_11 rfl (fun c_70 => absurd c_70 (by decide +kernel)) (fun c_70 => ?_)
      exact hU _ _ _ (J14 x_55 g_h0_f1 (RG_w h_61 (by decide +kernel)) g_h1_f2 g_h1_f3 (RG_w h_60 (by decide +kernel)) _ _ _ hP hD hS (lv_sub hl [0, 1, 2, 3] rfl))
    · rw [h_68]
      refine lv_if_ne (tgt := 65) hx hb dX4_readUnit_11 rfl (fun c_71 => ?_) (fun c_71 => absurd c_71 (by decide +kernel))
      refine lv_iload_n hx hb dX4_readUnit_65 rfl (lv_at hl 2 rfl) ?_
      refine lv_bipush (v := 6) hx hb dX4_readUnit_66 kc_bipush_6 ?_
      refine lv_icmp_lt (tgt := 78) hx hb dX4_readUnit_68 rfl (fun c_72 => ?_) (fun c_72 => absurd c_72 (by decide +kernel))
      refine lv_aload_n hx hb dX4_readUnit_78 rfl (lv_at hl 1 rfl) ?_
      refine lv_bipush (v := 33) hx hb dX4_readUnit_79 kc_bipush_33 ?_
      obtain ⟨hPc, hDc, hFc, hqc⟩ := cl_cut (wc := (wd_c_X9_take h1 h1_0 h1_f1 x_55 h1_f3 h1_0 h1_0k h1_0c)) hP hD hS hA [0, 1] (by decide +kernel) rfl
      have hKc := hK.sub (tys' := [(h1_0k, .int)]) [0] rfl
      have hrv := va_recv hKc hPc (ci := 9) (q0 := 0) rfl rfl
      refine va_calli (va_runV (As := [.int 33]) (rest := []) ⟨hx, hb, hml, hown, hts⟩ (c_X9_take l dC dI H.size h1 33 h1_0 h1_f1 x_55 h1_f3 h1_0k h1_0c (RG_w (RG_k 33 33 rfl) (by decide +kernel)) (RG_w h_61 (by decide +kernel)) (RG_w h_60 (by decide +kernel)) g_h1_f3 a_h1_0c) (cwV 1 hts gf_c_X4_readUnit_5_c_X9_take rfl rfl rfl mdV_X9_take ⟨Nat.le_of_ble_eq_true rfl, Nat.le_of_ble_eq_true rfl⟩) ⟨fun a U g mk q => by obtain ⟨q0, q1, qP, qK, qD⟩ := q; exact ⟨q0, q1, qP, va_K.moved (u := U) (U := U.calling g mk a) (Vm.Alike.refl U.vm) qK, qD⟩, hrv, fun U hU hW => ⟨rfl, by rw [hU], by rw [hU]; exact hPc, va_K.moved hW.alike hKc, hDc.weaken (fun _ _ _ _ => trivial)⟩⟩ rfl rfl hl.1 rfl (lv_room (Nat.le_of_ble_eq_true rfl)) dX4_readUnit_81 ⟨Nat.le_of_ble_eq_true rfl, Nat.le_of_ble_eq_true rfl⟩) hS (fun q _ h => hFc q h) hFc (fun r_73 x_74 t H1 locs ht hvm hw hB hz1 hk1 hS => ?_)
      as_aux_lemma =>
      obtain ⟨hP1, hK1, hD1⟩ := hB
      rw [ht] at hP1
      obtain ⟨hP, hD⟩ := cl_put (w1 := (wd_c_X9_take h1 h1_0 h1_f1 x_74 h1_f3 h1_0 h1_0k h1_0c)) (nw := (wd_c_X4_readUnit_5 h1 h1_0 h1_f1 x_74 h1_f3 h1_0 h1_0k h1_0c h0 h0_0 h0_f1 h0_2 h0_0 h0_0k h0_0c)) hP hD [0, 1] [4, 5, 2, 3] 4 rfl hqc (by decide +kernel) rfl hk1 hFc hP1 hD1
      generalize H1 = H at hP hS ⊢
      as_aux_lemma =>
      rcases hw with ⟨h_75, h_76, h_77⟩ | ⟨h_78, h_79, h_80, h_81, h_82⟩
      · rw [h_75]
        refine lv_if_eq (tgt := 105) hx hb dX4_readUnit_84 rfl (fun c_83 => ?_) (fun c_83 => absurd c_83 (by decide +kernel))
        refine lv_aload_n hx hb dX4_readUnit_105 rfl (lv_at hl 1 rfl) ?_
        refine lv_bipush (v := 40) hx hb dX4_readUnit_106 kc_bipush_40 ?_
        obtain ⟨hPc, hDc, hFc, hqc⟩ := cl_cut (wc := (wd_c_X9_expect_1 h1 h1_0 h1_f1 x_74 h1_f3 h1_0 h1_0k h1_0c)) hP hD hS hA [0, 1] (by decide +kernel) rfl
        have hKc := hK.sub (tys' := [(h1_0k, .int)]) [0] rfl
        have hrv := va_recv hKc hPc (ci := 9) (q0 := 0) rfl rfl
        refine va_callv (va_runV (As := [.int 40]) (rest := []) ⟨hx, hb, hml, hown, hts⟩ (c_X9_expect_1 l dC dI H.size h1 40 h1_0 h1_f1 x_74 h1_f3 h1_0k h1_0c (RG_w (RG_k 40 40 rfl) (by decide +kernel)) (RG_w h_61 (by decide +kernel)) h_76 g_h1_f3 a_h1_0c) (cwV 1 hts gf_c_X4_readUnit_5_c_X9_expect_1 rfl rfl rfl mdV_X9_expect ⟨Nat.le_of_ble_eq_true rfl, Nat.le_of_ble_eq_true rfl⟩) ⟨fun a U g mk q => by obtain ⟨q0, q1, qP, qK, qD⟩ := q; exact ⟨q0, q1, qP, va_K.moved (u := U) (U := U.calling g mk a) (Vm.Alike.refl U.vm) qK, qD⟩, hrv, fun U hU hW => ⟨rfl, by rw [hU], by rw [hU]; exact hPc, va_K.moved hW.alike hKc, hDc.weaken (fun _ _ _ _ => trivial)⟩⟩ rfl rfl hl.1 rfl (lv_room (Nat.le_of_ble_eq_true rfl)) dX4_readUnit_108 ⟨Nat.le_of_ble_eq_true rfl, Nat.le_of_ble_eq_true rfl⟩) hS (fun q _ h => hFc q h) hFc (fun u t H1 locs ht hvm hw hB hz1 hk1 hS => ?_)
        obtain ⟨x_85, x_86⟩ := u
        obtain ⟨hP1, hK1, hD1⟩ := hB
        rw [ht] at hP1
        obtain ⟨hP, hD⟩ := cl_put (w1 := (wd_c_X9_expect_1 h1 h1_0 h1_f1 x_85 x_86 h1_0 h1_0k h1_0c)) (nw := (wd_c_X4_readUnit_5 h1 h1_0 h1_f1 x_85 x_86 h1_0 h1_0k h1_0c h0 h0_0 h0_f1 h0_2 h0_0 h0_0k h0_0c)) hP hD [0, 1] [4, 5, 2, 3] 4 rfl hqc (by decide +kernel) rfl hk1 hFc hP1 hD1
        generalize H1 = H at hP hS ⊢
        as_aux_lemma =>
        rcases hw with ⟨h_87, h_88, h_89⟩
        refine lv_aload_n hx hb dX4_readUnit_111 rfl (lv_at hl 0 rfl) ?_
        refine lv_aload_n hx hb dX4_readUnit_112 rfl (lv_at hl 1 rfl) ?_
        refine lv_iload_n hx hb dX4_readUnit_113 rfl (lv_at hl 2 rfl) ?_
        refine lv_iconst (v := 1) hx hb dX4_readUnit_114 kc_iconst_1 ?_
        refine lv_iadd hx hb dX4_readUnit_115 ?_
        refine lv_topi (fun x_90 ex_90 => ?_)
        obtain rfl : x_90 = 5 := ex_90.trans (by decide +kernel)
        refine lv_iconst (v := 0) hx hb dX4_readUnit_116 kc_iconst_0 ?_
        obtain ⟨hPc, hDc, hFc, hqc⟩ := cl_cut (wc := (wd_c_X4_readCondition_5 h1 h1_0 h1_f1 x_85 x_86 h1_0 h1_0k h1_0c h0 h0_0 h0_f1 h0_2 h0_0 h0_0k h0_0c)) hP hD hS hA [0, 1, 2, 3] (by decide +kernel) rfl
        have hKc := hK.sub (tys' := [(h1_0k, .int), (h0_0k, .int)]) [0, 1] rfl
        have hrv := va_recv hKc hPc (ci := 4) (q0 := 2) rfl rfl
        refine va_callv (va_runV (As := [.ref h1, .int 5, .int 0]) (rest := []) ⟨hx, hb, hml, hown, hts⟩ (c_X4_readCondition_5 l dC dI H.size h0 h1 h1_0 h1_f1 x_85 x_86 h1_0k h1_0c h0_0 h0_f1 h0_2 h0_0k h0_0c ts4 tv4 (RG_w h_61 (by decide +kernel)) h_87 h_88 a_h1_0c g_h0_f1) (cwV 3 hts gf_c_X4_readUnit_5_c_X4_readCondition_5 rfl rfl rfl mdV_X4_readCondition ⟨Nat.le_of_ble_eq_true rfl, Nat.le_of_ble_eq_true rfl⟩) ⟨fun a U g mk q => by obtain ⟨q0, q1, qP, qK, qD, qE0, qE1, qE2, qE3, qE4, qE5⟩ := q; exact ⟨q0, q1, qP, va_K.moved (u := U) (U := U.calling g mk a) (Vm.Alike.refl U.vm) qK, qD, vk_R.same rfl qE0, va_Z.moved (u := U) (U := U.calling g mk a) (Vm.Alike.refl U.vm) qE1, va_OF.moved (u := U) (U := U.calling g mk a) (Vm.Alike.refl U.vm) qE2, va_O.moved (u := U) (U := U.calling g mk a) (Vm.Alike.refl U.vm) qE3, va_OF.moved (u := U) (U := U.calling g mk a) (Vm.Alike.refl U.vm) qE4, va_T.moved (u := U) (U := U.calling g mk a) (Vm.Alike.refl U.vm) qE5⟩, hrv, fun U hU hW => ⟨rfl, by rw [hU], by rw [hU]; exact hPc, va_K.moved hW.alike hKc, hDc.weaken (fun _ _ _ _ => trivial), vk_R.warm hW hE_32, va_Z.moved hW.alike (by rw [hU]; exact (hE_10.kept hS.2.1).narrow hFc), va_OF.moved hW.alike (by rw [hU]; exact (hE_34.kept hS.2.1).narrow hFc), va_O.moved hW.alike (by rw [hU]; exact (hE_33.kept hS.2.1).narrow hFc), va_OF.moved hW.alike (by rw [hU]; exact (hE_35.kept hS.2.1).narrow hFc), va_T.moved hW.alike (by rw [hU]; exact (hE_36.kept hS.2.1).narrow hFc)⟩⟩ rfl rfl hl.1 rfl (lv_room (Nat.le_of_ble_eq_true rfl)) dX4_readUnit_117 ⟨Nat.le_of_ble_eq_true rfl, Nat.le_of_ble_eq_true rfl⟩) hS (fun q _ h => hFc q h) hFc (fun u t H1 locs ht hvm hw hB hz1 hk1 hS => ?_)
        obtain ⟨x_92, x_93, x_94, w_95⟩ := u
        obtain ⟨hP1, hK1, hD1⟩ := hB
        rw [ht] at hP1
        obtain ⟨hP, hD⟩ := cl_put (w1 := (wd_c_X4_readCondition_5 h1 h1_0 h1_f1 x_92 x_93 h1_0 h1_0k h1_0c h0 h0_0 x_94 h0_2 h0_0 h0_0k w_95)) (nw := (wd_c_X4_readUnit_5 h1 h1_0 h1_f1 x_92 x_93 h1_0 h1_0k h1_0c h0 h0_0 x_94 h0_2 h0_0 h0_0k w_95)) hP hD [0, 1, 2, 3] [4, 5, 6, 7] 4 rfl hqc (by decide +kernel) rfl hk1 hFc hP1 hD1
        generalize H1 = H at hP hS ⊢
        as_aux_lemma =>
        rcases hw with ⟨h_96, h_97, h_98⟩
        refine lv_aload_n hx hb dX4_readUnit_120 rfl (lv_at hl 1 rfl) ?_
        refine lv_bipush (v := 41) hx hb dX4_readUnit_121 kc_bipush_41 ?_
        obtain ⟨hPc, hDc, hFc, hqc⟩ := cl_cut (wc := (wd_c_X9_expect_1 h1 h1_0 h1_f1 x_92 x_93 h1_0 h1_0k h1_0c)) hP hD hS hA [0, 1] (by decide +kernel) rfl
        have hKc := hK.sub (tys' := [(h1_0k, .int)]) [0] rfl
        have hrv := va_recv hKc hPc (ci := 9) (q0 := 0) rfl rfl
        refine va_callv (va_runV (As := [.int 41]) (rest := []) ⟨hx, hb, hml, hown, hts⟩ (c_X9_expect_1 l dC dI H.size h1 41 h1_0 h1_f1 x_92 x_93 h1_0k h1_0c (RG_w (RG_k 41 41 rfl) (by decide +kernel)) (RG_w h_61 (by decide +kernel)) h_96 h_97 a_h1_0c) (cwV 1 hts gf_c_X4_readUnit_5_c_X9_expect_1 rfl rfl rfl mdV_X9_expect ⟨Nat.le_of_ble_eq_true rfl, Nat.le_of_ble_eq_true rfl⟩) ⟨fun a U g mk q => by obtain ⟨q0, q1, qP, qK, qD⟩ := q; exact ⟨q0, q1, qP, va_K.moved (u := U) (U := U.calling g mk a) (Vm.Alike.refl U.vm) qK, qD⟩, hrv, fun U hU hW => ⟨rfl, by rw [hU], by rw [hU]; exact hPc, va_K.moved hW.alike hKc, hDc.weaken (fun _ _ _ _ => trivial)⟩⟩ rfl rfl hl.1 rfl (lv_room (Nat.le_of_ble_eq_true rfl)) dX4_readUnit_123 ⟨Nat.le_of_ble_eq_true rfl, Nat.le_of_ble_eq_true rfl⟩) hS (fun q _ h => hFc q h) hFc (fun u t H1 locs ht hvm hw hB hz1 hk1 hS => ?_)
        obtain ⟨x_100, x_101⟩ := u
        obtain ⟨hP1, hK1, hD1⟩ := hB
        rw [ht] at hP1
        obtain ⟨hP, hD⟩ := cl_put (w1 := (wd_c_X9_expect_1 h1 h1_0 h1_f1 x_100 x_101 h1_0 h1_0k h1_0c)) (nw := (wd_c_X4_readUnit_5 h1 h1_0 h1_f1 x_100 x_101 h1_0 h1_0k h1_0c h0 h0_0 x_94 h0_2 h0_0 h0_0k w_95)) hP hD [0, 1] [4, 5, 2, 3] 4 rfl hqc (by decide +kernel) rfl hk1 hFc hP1 hD1
        generalize H1 = H at hP hS ⊢
        as_aux_lemma =>
        rcases hw with ⟨h_102, h_103, h_104⟩
        have hK9 := hK.sub (tys' := []) [] rfl
        exact W.vret hx hb hr (fun t ht hW => ⟨⟨(x_100, x_101, x_94, w_95), rfl, ⟨h_102, h_103, h_98⟩, by rw [ht]; exact hP, va_K.moved hW.alike hK9, hD⟩, hS.F ht⟩) hS.2.2 dX4_readUnit_126
      · rw [h_78]
        refine lv_if_eq (tgt := 105) hx hb dX4_readUnit_84 rfl (fun c_105 => absurd c_105 (by decide +kernel)) (fun c_105 => ?_)
        refine lv_aload_n hx hb dX4_readUnit_87 rfl (lv_at hl 0 rfl) ?_
        refine lv_aload_n hx hb dX4_readUnit_88 rfl (lv_at hl 1 rfl) ?_
        refine lv_iload_n hx hb dX4_readUnit_89 rfl (lv_at hl 2 rfl) ?_
        refine lv_iconst (v := 1) hx hb dX4_readUnit_90 kc_iconst_1 ?_
        refine lv_iadd hx hb dX4_readUnit_91 ?_
        refine lv_topi (fun x_106 ex_106 => ?_)
        obtain rfl : x_106 = 5 := ex_106.trans (by decide +kernel)
        refine lv_iconst (v := 0) hx hb dX4_readUnit_92 kc_iconst_0 ?_
        obtain ⟨hPc, hDc, hFc, hqc⟩ := cl_cut (wc := (wd_c_X4_readUnit_6 h1 h1_0 h1_f1 x_74 h1_f3 h1_0 h1_0k h1_0c h0 h0_0 h0_f1 h0_2 h0_0 h0_0k h0_0c)) hP hD hS hA [0, 1, 2, 3] (by decide +kernel) rfl
        have hKc := hK.sub (tys' := [(h1_0k, .int), (h0_0k, .int)]) [0, 1] rfl
        have hrv := va_recv hKc hPc (ci := 4) (q0 := 2) rfl rfl
        refine va_callv (va_runV (As := [.ref h1, .int 5, .int 0]) (rest := []) ⟨hx, hb, hml, hown, hts⟩ (c_X4_readUnit_6 l dC dI H.size h0 h1 h1_0 h1_f1 x_74 h1_f3 h1_0k h1_0c h0_0 h0_f1 h0_2 h0_0k h0_0c ts4 tv4 (RG_w h_61 (by decide +kernel)) (RG_w h_79 (by decide +kernel)) (RG_w h_81 (by decide +kernel)) a_h1_0c g_h0_f1) (cwV 3 hts gf_c_X4_readUnit_5_c_X4_readUnit_6 rfl rfl rfl mdV_X4_readUnit ⟨Nat.le_of_ble_eq_true rfl, Nat.le_of_ble_eq_true rfl⟩) ⟨fun a U g mk q => by obtain ⟨q0, q1, qP, qK, qD, qE0, qE1, qE2, qE3, qE4, qE5⟩ := q; exact ⟨q0, q1, qP, va_K.moved (u := U) (U := U.calling g mk a) (Vm.Alike.refl U.vm) qK, qD, vk_R.same rfl qE0, va_Z.moved (u := U) (U := U.calling g mk a) (Vm.Alike.refl U.vm) qE1, va_OF.moved (u := U) (U := U.calling g mk a) (Vm.Alike.refl U.vm) qE2, va_O.moved (u := U) (U := U.calling g mk a) (Vm.Alike.refl U.vm) qE3, va_OF.moved (u := U) (U := U.calling g mk a) (Vm.Alike.refl U.vm) qE4, va_T.moved (u := U) (U := U.calling g mk a) (Vm.Alike.refl U.vm) qE5⟩, hrv, fun U hU hW => ⟨rfl, by rw [hU], by rw [hU]; exact hPc, va_K.moved hW.alike hKc, hDc.weaken (fun _ _ _ _ => trivial), vk_R.warm hW hE_32, va_Z.moved hW.alike (by rw [hU]; exact (hE_10.kept hS.2.1).narrow hFc), va_OF.moved hW.alike (by rw [hU]; exact (hE_34.kept hS.2.1).narrow hFc), va_O.moved hW.alike (by rw [hU]; exact (hE_33.kept hS.2.1).narrow hFc), va_OF.moved hW.alike (by rw [hU]; exact (hE_35.kept hS.2.1).narrow hFc), va_T.moved hW.alike (by rw [hU]; exact (hE_36.kept hS.2.1).narrow hFc)⟩⟩ rfl rfl hl.1 rfl (lv_room (Nat.le_of_ble_eq_true rfl)) dX4_readUnit_93 ⟨Nat.le_of_ble_eq_true rfl, Nat.le_of_ble_eq_true rfl⟩) hS (fun q _ h => hFc q h) hFc (fun u t H1 locs ht hvm hw hB hz1 hk1 hS => ?_)
        as_aux_lemma =>
        obtain ⟨x_108, x_109, x_110, w_111⟩ := u
        obtain ⟨hP1, hK1, hD1⟩ := hB
        rw [ht] at hP1
        obtain ⟨hP, hD⟩ := cl_put (w1 := (wd_c_X4_readUnit_6 h1 h1_0 h1_f1 x_108 x_109 h1_0 h1_0k h1_0c h0 h0_0 x_110 h0_2 h0_0 h0_0k w_111)) (nw := (wd_c_X4_readUnit_5 h1 h1_0 h1_f1 x_108 x_109 h1_0 h1_0k h1_0c h0 h0_0 x_110 h0_2 h0_0 h0_0k w_111)) hP hD [0, 1, 2, 3] [4, 5, 6, 7] 4 rfl hqc (by decide +kernel) rfl hk1 hFc hP1 hD1
        generalize H1 = H at hP hS ⊢
        as_aux_lemma =>
        rcases hw with ⟨h_112, h_113, h_114⟩
        refine lv_aload_n hx hb dX4_readUnit_96 rfl (lv_at hl 0 rfl) ?_
        refine lv_bipush (v := (-33)) hx hb dX4_readUnit_97 kc_bipush_m33 ?_
        obtain ⟨hPc, hDc, hFc, hqc⟩ := cl_cut (wc := (wd_c_X4_emit h0 h0_0 x_110 h0_2 h0_0 h0_0k w_111)) hP hD hS hA [2, 3] (by decide +kernel) rfl
        have hKc := hK.sub (tys' := [(h0_0k, .int)]) [1] rfl
        have hrv := va_recv hKc hPc (ci := 4) (q0 := 0) rfl rfl
        refine va_callv (va_runV (As := [.int (-33)]) (rest := []) ⟨hx, hb, hml, hown, hts⟩ (c_X4_emit l dC dI H.size h0 (-33) h0_0 x_110 h0_2 h0_0k w_111 h_114) (cwV 1 hts gf_c_X4_readUnit_5_c_X4_emit rfl rfl rfl mdV_X4_emit ⟨Nat.le_of_ble_eq_true rfl, Nat.le_of_ble_eq_true rfl⟩) ⟨fun a U g mk q => by obtain ⟨q0, q1, qP, qK, qD⟩ := q; exact ⟨q0, q1, qP, va_K.moved (u := U) (U := U.calling g mk a) (Vm.Alike.refl U.vm) qK, qD⟩, hrv, fun U hU hW => ⟨rfl, by rw [hU], by rw [hU]; exact hPc, va_K.moved hW.alike hKc, hDc.weaken (fun _ _ _ _ => trivial)⟩⟩ rfl rfl hl.1 rfl (lv_room (Nat.le_of_ble_eq_true rfl)) dX4_readUnit_99 ⟨Nat.le_of_ble_eq_true rfl, Nat.le_of_ble_eq_true rfl⟩) hS (fun q _ h => hFc q h) hFc (fun u t H1 locs ht hvm hw hB hz1 hk1 hS => ?_)
        obtain ⟨x_116, w_117⟩ := u
        obtain ⟨hP1, hK1, hD1⟩ := hB
        rw [ht] at hP1
        obtain ⟨hP, hD⟩ := cl_put (w1 := (wd_c_X4_emit h0 h0_0 x_116 h0_2 h0_0 h0_0k w_117)) (nw := (wd_c_X4_readUnit_5 h1 h1_0 h1_f1 x_108 x_109 h1_0 h1_0k h1_0c h0 h0_0 x_116 h0_2 h0_0 h0_0k w_117)) hP hD [2, 3] [0, 1, 4, 5] 4 rfl hqc (by decide +kernel) rfl hk1 hFc hP1 hD1
        generalize H1 = H at hP hS ⊢
        as_aux_lemma =>
        have h_118 := hw
        refine lv_goto (tgt := 126) hx hb dX4_readUnit_102 rfl ?_
        have hK9 := hK.sub (tys' := []) [] rfl
        exact W.vret hx hb hr (fun t ht hW => ⟨⟨(x_108, x_109, x_116, w_117), rfl, ⟨h_112, h_113, (RG_w h_118 (by decide +kernel))⟩, by rw [ht]; exact hP, va_K.moved hW.alike hK9, hD⟩, hS.F ht⟩) hS.2.2 dX4_readUnit_126
noncomputable def wd_c_X4_readCondition_4 (a0 : Nat) (a1 : Nat) (a2 : Int32) (a3 : Int32) (a4 : Int32) (a5 : Nat) (a6 : ClassId) (a7 : Nat → Int32) (a8 : Nat) (a9 : Nat) (a10 : Int32) (a11 : Nat) (a12 : Nat) (a13 : ClassId) (a14 : Nat → Int32) : va_W := [(a0, .inr (9, [.ref a1, .int a2, .int a3, .int a4])), (a5, .inl (a6, 240, .inl a7)), (a8, .inr (4, [.ref a9, .int a10, .ref a11])), (a12, .inl (a13, 240, .inl a14))]
noncomputable def wf_c_X4_readCondition_4 : List Cond := List.cons (.code yX4_readCondition cX4_readCondition 7 none) (@HAppend.hAppend (List Cond) (List Cond) (List Cond) _ (@HAppend.hAppend (List Cond) (List Cond) (List Cond) _ [.methodLink RX4 72 yX9_isRight, .instanceMethod yX9_isRight, .selects RX9 yX9_isRight yX9_isRight, .initialized RX9, .code yX9_isRight cX9_isRight 1 (some .boolean), .fieldLink RX9 15 "BuoyVote$Tape" "wrong" "I", .methodLink RX4 76 yX4_readUnit, .instanceMethod yX4_readUnit, .selects RX4 yX4_readUnit yX4_readUnit, .initialized RX4, .code yX4_readUnit cX4_readUnit 5 none, .methodLink RX4 41 yX9_peek, .instanceMethod yX9_peek, .selects RX9 yX9_peek yX9_peek, .code yX9_peek cX9_peek 1 (some .int), .fieldLink RX9 22 "BuoyVote$Tape" "at" "I", .fieldLink RX9 19 "BuoyVote$Tape" "length" "I", .fieldLink RX9 11 "BuoyVote$Tape" "bytes" "[I", .methodLink RX4 45 yX4_startsUnit, .static yX4_startsUnit, .code yX4_startsUnit cX4_startsUnit 1 (some .boolean), .methodLink RX4 63 yX9_take, .instanceMethod yX9_take, .selects RX9 yX9_take yX9_take, .code yX9_take cX9_take 2 (some .boolean), .methodLink RX9 29 yX9_peek, .methodLink RX4 37 yX9_expect, .instanceMethod yX9_expect, .selects RX9 yX9_expect yX9_expect, .code yX9_expect cX9_expect 2 none, .methodLink RX9 25 yX9_refuse, .instanceMethod yX9_refuse, .selects RX9 yX9_refuse yX9_refuse, .code yX9_refuse cX9_refuse 2 none, .methodLink RX4 56 yX4_readCondition, .instanceMethod yX4_readCondition, .selects RX4 yX4_readCondition yX4_readCondition, .methodLink RX4 82 yX9_refuseHere, .instanceMethod yX9_refuseHere, .selects RX9 yX9_refuseHere yX9_refuseHere, .code yX9_refuseHere cX9_refuseHere 1 none, .methodLink RX4 49 yX4_readSum, .instanceMethod yX4_readSum, .selects RX4 yX4_readSum yX4_readSum, .code yX4_readSum cX4_readSum 6 none, .methodLink RX4 85 yX4_readAtom, .instanceMethod yX4_readAtom, .selects RX4 yX4_readAtom yX4_readAtom, .code yX4_readAtom cX4_readAtom 6 none, .methodLink RX4 93 yJ0_indexOf_0f7a4, .instanceMethod yJ0_indexOf_0f7a4, .selects RJ0 yJ0_indexOf_0f7a4 yJ0_indexOf_0f7a4, .initialized RJ0, .code yJ0_indexOf_0f7a4 cJ0_indexOf_0f7a4 2 (some .int), .methodLink RJ0 633 yJ0_indexOf_7cf53, .instanceMethod yJ0_indexOf_7cf53, .selects RJ0 yJ0_indexOf_7cf53 yJ0_indexOf_7cf53, .code yJ0_indexOf_7cf53 cJ0_indexOf_7cf53 3 (some .int), .methodLink RJ0 492 yJ0_isLatin1_aae02, .instanceMethod yJ0_isLatin1_aae02, .selects RJ0 yJ0_isLatin1_aae02 yJ0_isLatin1_aae02, .code yJ0_isLatin1_aae02 cJ0_isLatin1_aae02 1 (some .boolean), .fieldLink RJ0 38 "java/lang/String" "COMPACT_STRINGS" "Z", .fieldLink RJ0 15 "java/lang/String" "coder" "B", .fieldLink RJ0 9 "java/lang/String" "value" "[B", .methodLink RJ0 505 yJ0_length_8abf5, .instanceMethod yJ0_length_8abf5, .selects RJ0 yJ0_length_8abf5 yJ0_length_8abf5, .code yJ0_length_8abf5 cJ0_length_8abf5 1 (some .int), .methodLink RJ0 335 yJ0_coder_7d493, .instanceMethod yJ0_coder_7d493, .selects RJ0 yJ0_coder_7d493 yJ0_coder_7d493, .code yJ0_coder_7d493 cJ0_coder_7d493 1 (some .byte), .methodLink RJ0 637 yJ1_indexOf_4cfef, .static yJ1_indexOf_4cfef, .initialized RJ1, .code yJ1_indexOf_4cfef cJ1_indexOf_4cfef 4 (some .int), .methodLink RJ1 88 yJ1_canEncode_9a6ad, .static yJ1_canEncode_9a6ad, .code yJ1_canEncode_9a6ad cJ1_canEncode_9a6ad 1 (some .boolean), .methodLink RJ1 92 Lib.Math.max.name, .static Lib.Math.max.name, .initialized "java/lang/Math", .code Lib.Math.max.name Lib.Math.max.code 2 (some .int), .methodLink RJ1 38 Lib.Math.min.name, .static Lib.Math.min.name, .code Lib.Math.min.name Lib.Math.min.code 2 (some .int), .methodLink RJ1 95 yJ1_indexOfChar_4cfef, .static yJ1_indexOfChar_4cfef, .code yJ1_indexOfChar_4cfef cJ1_indexOfChar_4cfef 6 (some .int), .methodLink RX4 99 yX9_number, .instanceMethod yX9_number, .selects RX9 yX9_number yX9_number, .code yX9_number cX9_number 4 (some .int), .methodLink RX4 79 yX9_skip, .instanceMethod yX9_skip, .selects RX9 yX9_skip yX9_skip, .code yX9_skip cX9_skip 1 none, .methodLink RX4 60 yX4_emit, .instanceMethod yX4_emit, .selects RX4 yX4_emit yX4_emit, .code yX4_emit cX4_emit 2 none, .fieldLink RX4 20 "BuoyVote$Law" "length" "I", .fieldLink RX4 11 "BuoyVote$Law" "code" "[I", .methodLink RX4 88 yX9_takeEither, .instanceMethod yX9_takeEither, .selects RX9 yX9_takeEither yX9_takeEither, .code yX9_takeEither cX9_takeEither 4 (some .int), .methodLink RX4 53 yX4_isComparison, .static yX4_isComparison, .code yX4_isComparison cX4_isComparison 1 (some .boolean)] wsX90) wsX40)
theorem iw_c_X4_readCondition_4_X9 : ∀ w ∈ wsX90, w ∈ wf_c_X4_readCondition_4 := fun w h => List.mem_cons_of_mem _ (List.mem_append_left _ (List.mem_append_right _ h))
theorem iw_c_X4_readCondition_4_X4 : ∀ w ∈ wsX40, w ∈ wf_c_X4_readCondition_4 := fun w h => List.mem_cons_of_mem _ (List.mem_append_right _ h)
set_option maxRecDepth 20000 in
theorem gf_c_X4_readCondition_4_c_X9_take_1 : GoodIn wf_c_X4_readCondition_4 (wsV RX4 63 RX9 yX9_take wf_c_X9_take_1) := goodIn_app (gi_l [22, 23, 24, 4] rfl rfl) (gi_cons (j := 25) rfl rfl (goodIn_app (gi_l [6, 26, 13, 14, 4, 15, 16, 17, 18] rfl rfl) (goodIn_sub iw_c_X4_readCondition_4_X9 gw_X9)))
set_option maxRecDepth 20000 in
theorem gf_c_X4_readCondition_4_c_X9_take : GoodIn wf_c_X4_readCondition_4 (wsV RX4 63 RX9 yX9_take wf_c_X9_take) := goodIn_app (gi_l [22, 23, 24, 4] rfl rfl) (gi_cons (j := 25) rfl rfl (goodIn_app (gi_l [6, 26, 13, 14, 4, 15, 16, 17, 18] rfl rfl) (goodIn_sub iw_c_X4_readCondition_4_X9 gw_X9)))
set_option maxRecDepth 20000 in
theorem gf_c_X4_readCondition_4_c_X4_emit : GoodIn wf_c_X4_readCondition_4 (wsV RX4 60 RX4 yX4_emit wf_c_X4_emit) := goodIn_app (gi_l [99, 100, 101, 10] rfl rfl) (gi_cons (j := 102) rfl rfl (goodIn_app (gi_l [103, 104] rfl rfl) (goodIn_sub iw_c_X4_readCondition_4_X4 gw_X4)))
set_option maxRecDepth 20000 in
theorem gf_c_X4_readCondition_4_c_X4_readUnit_5 : GoodIn wf_c_X4_readCondition_4 (wsV RX4 76 RX4 yX4_readUnit wf_c_X4_readUnit_5) := goodIn_app (gi_l [7, 8, 9, 10] rfl rfl) (gi_cons (j := 11) rfl rfl (goodIn_app (goodIn_app (gi_l [12, 13, 14, 4, 15, 16, 17, 18, 19, 20, 10, 21, 22, 23, 24, 25, 6, 26, 27, 28, 29, 30, 31, 32, 33, 34, 35, 36, 37, 0, 1, 2, 3, 5, 7, 8, 9, 38, 39, 40, 41, 42, 43, 44, 45, 46, 47, 48, 49, 50, 51, 52, 53, 54, 55, 56, 57, 58, 59, 60, 61, 62, 63, 64, 65, 66, 67, 68, 69, 70, 71, 72, 73, 74, 75, 76, 77, 78, 79, 80, 81, 82, 83, 84, 85, 86, 87, 88, 89, 90, 91, 92, 93, 94, 95, 96, 97, 98, 99, 100, 101, 102, 103, 104, 105, 106, 107, 108, 109, 110, 111] rfl rfl) (goodIn_sub iw_c_X4_readCondition_4_X9 gw_X9)) (goodIn_sub iw_c_X4_readCondition_4_X4 gw_X4)))
set_option maxRecDepth 20000 in
theorem gf_c_X4_readCondition_4_c_X9_isRight : GoodIn wf_c_X4_readCondition_4 (wsV RX4 72 RX9 yX9_isRight wf_c_X9_isRight) := goodIn_app (gi_l [1, 2, 3, 4] rfl rfl) (gi_cons (j := 5) rfl rfl (goodIn_app (gi_l [6] rfl rfl) (goodIn_sub iw_c_X4_readCondition_4_X9 gw_X9)))
set_option maxHeartbeats 4000000 in
set_option maxRecDepth 100000 in
theorem c_X4_readCondition_4 (l : Launch) (dC : Nat → ClassId) (dI : Nat → Nat → Nat) (sz : Nat) (h0 : Nat) (h1 : Nat) (h1_0 : Nat) (h1_f1 : Int32) (h1_f2 : Int32) (h1_f3 : Int32) (h1_0k : ClassId) (h1_0c : Nat → Int32) (h0_0 : Nat) (h0_f1 : Int32) (h0_2 : Nat) (h0_0k : ClassId) (h0_0c : Nat → Int32) (ts4 : Nat) (tv4 : Nat) (g_h1_f1 : RG h1_f1 0 240) (g_h1_f2 : RG h1_f2 0 240) (g_h1_f3 : RG h1_f3 (-1) 240) (a_h1_0c : AI h1_0c 0 255) (g_h0_f1 : RG h0_f1 0 240) : Met l yX4_readCondition wf_c_X4_readCondition_4 ({ frames := 11, cells := 0, slots := 0, locals := 265 }) (va_Pc [.ref h0, .ref h1, .int 4, .int 0] (fun U => U.heap.size = sz ∧ va_P (dC, dI) vwCl (wd_c_X4_readCondition_4 h1 h1_0 h1_f1 h1_f2 h1_f3 h1_0 h1_0k h1_0c h0 h0_0 h0_f1 h0_2 h0_0 h0_0k h0_0c) U.heap ∧ va_K (dC, dI) vwCl [(h1_0k, .int), (h0_0k, .int)] U ∧ va_D (fun _ => True) (wd_c_X4_readCondition_4 h1 h1_0 h1_f1 h1_f2 h1_f3 h1_0 h1_0k h1_0c h0 h0_0 h0_f1 h0_2 h0_0 h0_0k h0_0c) ∧ vk_R RX4 91 "vlrdph" ts4 U ∧ va_Z "java/lang/String" "COMPACT_STRINGS" "Z" (.int 1) (va_A (wd_c_X4_readCondition_4 h1 h1_0 h1_f1 h1_f2 h1_f3 h1_0 h1_0k h1_0c h0 h0_0 h0_f1 h0_2 h0_0 h0_0k h0_0c) sz) U U.heap ∧ va_OF "java/lang/String" "coder" "B" (.int 0) ts4 (va_A (wd_c_X4_readCondition_4 h1 h1_0 h1_f1 h1_f2 h1_f3 h1_0 h1_0k h1_0c h0 h0_0 h0_f1 h0_2 h0_0 h0_0k h0_0c) sz) U U.heap ∧ va_O "java/lang/String" ts4 (va_A (wd_c_X4_readCondition_4 h1 h1_0 h1_f1 h1_f2 h1_f3 h1_0 h1_0k h1_0c h0 h0_0 h0_f1 h0_2 h0_0 h0_0k h0_0c) sz) U U.heap ∧ va_OF "java/lang/String" "value" "[B" (.ref tv4) ts4 (va_A (wd_c_X4_readCondition_4 h1 h1_0 h1_f1 h1_f2 h1_f3 h1_0 h1_0k h1_0c h0 h0_0 h0_f1 h0_2 h0_0 h0_0k h0_0c) sz) U U.heap ∧ va_T .byte tv4 6 (fun j => .int ([118, 108, 114, 100, 112, 104].getD j 0)) (va_A (wd_c_X4_readCondition_4 h1 h1_0 h1_f1 h1_f2 h1_f3 h1_0 h1_0k h1_0c h0 h0_0 h0_f1 h0_2 h0_0 h0_0k h0_0c) sz) U U.heap)) (va_Qv (fun (u : (Int32) × (Int32) × (Int32) × (Nat → Int32)) => (RG u.1 0 240 ∧ RG u.2.1 (-1) 240 ∧ RG u.2.2.1 0 240)) (fun (u : (Int32) × (Int32) × (Int32) × (Nat → Int32)) t => va_P (dC, dI) vwCl (wd_c_X4_readCondition_4 h1 h1_0 h1_f1 (u.1) (u.2.1) h1_0 h1_0k h1_0c h0 h0_0 (u.2.2.1) h0_2 h0_0 h0_0k (u.2.2.2)) t.heap ∧ va_K (dC, dI) vwCl [] t ∧ va_D (va_A (wd_c_X4_readCondition_4 h1 h1_0 h1_f1 h1_f2 h1_f3 h1_0 h1_0k h1_0c h0 h0_0 h0_f1 h0_2 h0_0 h0_0k h0_0c) sz) (wd_c_X4_readCondition_4 h1 h1_0 h1_f1 (u.1) (u.2.1) h1_0 h1_0k h1_0c h0 h0_0 (u.2.2.1) h0_2 h0_0 h0_0k (u.2.2.2))) (va_A (wd_c_X4_readCondition_4 h1 h1_0 h1_f1 h1_f2 h1_f3 h1_0 h1_0k h1_0c h0 h0_0 h0_f1 h0_2 h0_0 h0_0k h0_0c) sz)) 0 0 (va_A (wd_c_X4_readCondition_4 h1 h1_0 h1_f1 h1_f2 h1_f3 h1_0 h1_0k h1_0c h0 h0_0 h0_f1 h0_2 h0_0 h0_0k h0_0c) sz) := by
  refine Met.ofW (cc := cX4_readCondition) (maxL := 7) (ret := none) (by decide +kernel) rfl ?_
  intro p e s m args below meth c s₁ B hml hv
  obtain ⟨rfl, hsz, hP, hK, hD0, hE_32, hE_10, hE_34, hE_33, hE_35, hE_36⟩ := hv
  have hx := B.exec
  have hb := B.bytes
  have hr := B.returns
  have hts := atoms_spec (ws := wf_c_X4_readCondition_4) B.pre
  have hown : s.vm.findClass RX4 = some m.cls := findClass_of_methodNamed B.named
  have hlocks := B.notSynchronized
  subst hsz
  have hD := hD0.self (sz := s.heap.size)
  generalize hAe : va_A (wd_c_X4_readCondition_4 h1 h1_0 h1_f1 h1_f2 h1_f3 h1_0 h1_0k h1_0c h0 h0_0 h0_f1 h0_2 h0_0 h0_0k h0_0c) s.heap.size = A at hD hE_10 hE_34 hE_33 hE_35 hE_36 ⊢
  have hA : ∀ q : Nat, s.heap.size ≤ q → A q := fun q h => by rw [← hAe]; exact Or.inr h
  have hP : va_P (dC, dI) vwCl (wd_c_X4_readCondition_4 h1 h1_0 h1_f1 h1_f2 h1_f3 h1_0 h1_0k h1_0c h0 h0_0 h0_f1 h0_2 h0_0 h0_0k h0_0c) s.heap := hP
  have hl := lv_entry ([.ref h0, .ref h1, .int 4, .int 0]) (n := 7) (Nat.le_of_ble_eq_true rfl)
  rw [lg_entry_eq]
  generalize (lg_sl ([.ref h0, .ref h1, .int 4, .int 0]) ++ List.replicate (7 - (lg_sl ([.ref h0, .ref h1, .int 4, .int 0])).length) Slot.unset).toArray = ls at hl ⊢
  have hl : lv_has ls 7 [(0, .ref h0), (1, .ref h1), (2, .int 4), (3, .int 0)] := hl
  obtain ⟨H, hHe⟩ : ∃ H : Heap, s.heap = H := ⟨_, rfl⟩
  have hS : va_S A s.heap H [] := by rw [hHe]; exact va_S.rf
  have hP : va_P (dC, dI) vwCl (wd_c_X4_readCondition_4 h1 h1_0 h1_f1 h1_f2 h1_f3 h1_0 h1_0k h1_0c h0 h0_0 h0_f1 h0_2 h0_0 h0_0k h0_0c) H := by rw [← hHe]; exact hP
  rw [hHe]
  refine wj (fun G hG hU => ?_)
  as_aux_lemma =>
  have J9 : ∀ (n9 : Nat) (j9_l6 : Int32) (j9_l5 : Int32) (j9_l4 : Int32) (j9_h1_f2 : Int32) (j9_h1_f3 : Int32) (j9_h0_f1 : Int32) (j9_h0_0c : Nat → Int32) (hM9 : MU j9_l6 < n9) (g_h0_f1 : RG h0_f1 0 240) (g_h1_f1 : RG h1_f1 0 240) (g_h1_f2 : RG h1_f2 0 240) (g_h1_f3 : RG h1_f3 (-1) 240) (g_j9_h0_f1 : RG j9_h0_f1 0 240) (g_j9_h1_f2 : RG j9_h1_f2 0 240) (g_j9_h1_f3 : RG j9_h1_f3 (-1) 240) (g_j9_l4 : RG j9_l4 0 1) (g_j9_l5 : RG j9_l5 0 1) (g_j9_l6 : RG j9_l6 0 240) (H : Heap) (locs : List Loc) (ls : Array Slot) (hP : va_P (dC, dI) vwCl (wd_c_X4_readCondition_4 h1 h1_0 h1_f1 j9_h1_f2 j9_h1_f3 h1_0 h1_0k h1_0c h0 h0_0 j9_h0_f1 h0_2 h0_0 h0_0k j9_h0_0c) H) (hD : va_D A (wd_c_X4_readCondition_4 h1 h1_0 h1_f1 j9_h1_f2 j9_h1_f3 h1_0 h1_0k h1_0c h0 h0_0 j9_h0_f1 h0_2 h0_0 h0_0k j9_h0_0c)) (hS : va_S A s.heap H locs) (hl : lv_has ls 7 [(6, .int j9_l6), (5, .int j9_l5), (4, .int j9_l4), (0, .ref h0), (1, .ref h1), (2, .int 4), (3, .int 0)]), G H locs (F0 m 9 ls []) := by
    as_aux_lemma =>
    intro n9
    induction n9 with
    | zero => intros; exact absurd (by assumption) (Nat.not_lt_zero _)
    | succ n9 ih9 =>
      intro j9_l6 j9_l5 j9_l4 j9_h1_f2 j9_h1_f3 j9_h0_f1 j9_h0_0c hM9 g_h0_f1 g_h1_f1 g_h1_f2 g_h1_f3 g_j9_h0_f1 g_j9_h1_f2 g_j9_h1_f3 g_j9_l4 g_j9_l5 g_j9_l6 H locs ls hP hD hS hl
      have J93 : ∀ (j93_l4 : Int32) (j93_l5 : Int32) (j93_h1_f2 : Int32) (j93_h1_f3 : Int32) (j93_h0_f1 : Int32) (j93_h0_0c : Nat → Int32) (g_h0_f1 : RG h0_f1 0 240) (g_h1_f1 : RG h1_f1 1 240) (g_h1_f2 : RG h1_f2 0 240) (g_h1_f3 : RG h1_f3 (-1) 240) (g_j93_h0_f1 : RG j93_h0_f1 0 240) (g_j93_h1_f2 : RG j93_h1_f2 1 240) (g_j93_h1_f3 : RG j93_h1_f3 (-1) (-1)) (g_j93_l4 : RG j93_l4 0 1) (g_j93_l5 : RG j93_l5 0 1) (g_j9_h0_f1 : RG j9_h0_f1 0 240) (g_j9_h1_f2 : RG j9_h1_f2 0 240) (g_j9_h1_f3 : RG j9_h1_f3 (-1) (-1)) (g_j9_l4 : RG j9_l4 0 1) (g_j9_l5 : RG j9_l5 0 1) (g_j9_l6 : RG j9_l6 0 239) (H : Heap) (locs : List Loc) (ls : Array Slot) (hP : va_P (dC, dI) vwCl (wd_c_X4_readCondition_4 h1 h1_0 h1_f1 j93_h1_f2 j93_h1_f3 h1_0 h1_0k h1_0c h0 h0_0 j93_h0_f1 h0_2 h0_0 h0_0k j93_h0_0c) H) (hD : va_D A (wd_c_X4_readCondition_4 h1 h1_0 h1_f1 j93_h1_f2 j93_h1_f3 h1_0 h1_0k h1_0c h0 h0_0 j93_h0_f1 h0_2 h0_0 h0_0k j93_h0_0c)) (hS : va_S A s.heap H locs) (hl : lv_has ls 7 [(4, .int j93_l4), (6, .int j9_l6), (5, .int j93_l5), (0, .ref h0), (1, .ref h1), (2, .int 4), (3, .int 0)]), G H locs (F0 m 93 ls []) := by
        as_aux_lemma =>
        intro j93_l4 j93_l5 j93_h1_f2 j93_h1_f3 j93_h0_f1 j93_h0_0c g_h0_f1 g_h1_f1 g_h1_f2 g_h1_f3 g_j93_h0_f1 g_j93_h1_f2 g_j93_h1_f3 g_j93_l4 g_j93_l5 g_j9_h0_f1 g_j9_h1_f2 g_j9_h1_f3 g_j9_l4 g_j9_l5 g_j9_l6 H locs ls hP hD hS hl
        refine hG _ _ _ ?_
        obtain ⟨x_1, ex_1⟩ : ∃ y : Int32, y = j9_l6 + 1 := ⟨_, rfl⟩
        have g_2 : RG x_1 1 240 := RG_add ex_1 g_j9_l6 (RG_k 1 1 rfl) (by decide +kernel)
        refine lv_iinc (v := x_1) (lv' := [(6, .int x_1), (4, .int j93_l4), (5, .int j93_l5), (0, .ref h0), (1, .ref h1), (2, .int 4), (3, .int 0)]) hx hb dX4_readCondition_93 hl (k := 1) rfl (by rw [ex_1]; rfl) (Nat.le_of_ble_eq_true rfl) rfl (fun ls hl => ?_)
        refine lv_goto (tgt := 9) hx hb dX4_readCondition_96 rfl ?_
        exact hU _ _ _ (ih9 x_1 j93_l5 j93_l4 j93_h1_f2 j93_h1_f3 j93_h0_f1 j93_h0_0c (mu_s (MU_add ex_1 g_j9_l6 (q := 1) rfl (by decide +kernel)) hM9) g_h0_f1 (RG_w g_h1_f1 (by decide +kernel)) g_h1_f2 g_h1_f3 g_j93_h0_f1 (RG_w g_j93_h1_f2 (by decide +kernel)) (RG_w g_j93_h1_f3 (by decide +kernel)) g_j93_l4 g_j93_l5 (RG_w g_2 (by decide +kernel)) _ _ _ hP hD hS (lv_sub hl [0, 2, 1, 3, 4, 5, 6] rfl))
      have J79 : ∀ (j79_h1_f2 : Int32) (j79_h1_f3 : Int32) (j79_h0_f1 : Int32) (j79_h0_0c : Nat → Int32) (g_h0_f1 : RG h0_f1 0 240) (g_h1_f1 : RG h1_f1 0 240) (g_h1_f2 : RG h1_f2 0 240) (g_h1_f3 : RG h1_f3 (-1) 240) (g_j79_h0_f1 : RG j79_h0_f1 0 240) (g_j79_h1_f2 : RG j79_h1_f2 0 240) (g_j79_h1_f3 : RG j79_h1_f3 (-1) 240) (g_j9_h0_f1 : RG j9_h0_f1 0 240) (g_j9_h1_f2 : RG j9_h1_f2 0 240) (g_j9_h1_f3 : RG j9_h1_f3 (-1) (-1)) (g_j9_l4 : RG j9_l4 0 1) (g_j9_l5 : RG j9_l5 0 1) (g_j9_l6 : RG j9_l6 0 239) (H : Heap) (locs : List Loc) (ls : Array Slot) (hP : va_P (dC, dI) vwCl (wd_c_X4_readCondition_4 h1 h1_0 h1_f1 j79_h1_f2 j79_h1_f3 h1_0 h1_0k h1_0c h0 h0_0 j79_h0_f1 h0_2 h0_0 h0_0k j79_h0_0c) H) (hD : va_D A (wd_c_X4_readCondition_4 h1 h1_0 h1_f1 j79_h1_f2 j79_h1_f3 h1_0 h1_0k h1_0c h0 h0_0 j79_h0_f1 h0_2 h0_0 h0_0k j79_h0_0c)) (hS : va_S A s.heap H locs) (hl : lv_has ls 7 [(4, .int 0), (6, .int j9_l6), (0, .ref h0), (1, .ref h1), (2, .int 4), (3, .int 0)]), G H locs (F0 m 79 ls []) := by
        as_aux_lemma =>
        intro j79_h1_f2 j79_h1_f3 j79_h0_f1 j79_h0_0c g_h0_f1 g_h1_f1 g_h1_f2 g_h1_f3 g_j79_h0_f1 g_j79_h1_f2 g_j79_h1_f3 g_j9_h0_f1 g_j9_h1_f2 g_j9_h1_f3 g_j9_l4 g_j9_l5 g_j9_l6 H locs ls hP hD hS hl
        refine hG _ _ _ ?_
        refine lv_aload_n hx hb dX4_readCondition_79 rfl (lv_at hl 3 rfl) ?_
        refine lv_bipush (v := 124) hx hb dX4_readCondition_80 kc_bipush_124 ?_
        obtain ⟨hPc, hDc, hFc, hqc⟩ := cl_cut (wc := (wd_c_X9_take_1 h1 h1_0 h1_f1 j79_h1_f2 j79_h1_f3 h1_0 h1_0k h1_0c)) hP hD hS hA [0, 1] (by decide +kernel) rfl
        have hKc := hK.sub (tys' := [(h1_0k, .int)]) [0] rfl
        have hrv := va_recv hKc hPc (ci := 9) (q0 := 0) rfl rfl
        refine va_calli (va_runV (As := [.int 124]) (rest := []) ⟨hx, hb, hml, hown, hts⟩ (c_X9_take_1 l dC dI H.size h1 124 h1_0 h1_f1 j79_h1_f2 j79_h1_f3 h1_0k h1_0c (RG_w (RG_k 124 124 rfl) (by decide +kernel)) g_h1_f1 g_j79_h1_f2 g_j79_h1_f3 a_h1_0c) (cwV 1 hts gf_c_X4_readCondition_4_c_X9_take_1 rfl rfl rfl mdV_X9_take ⟨Nat.le_of_ble_eq_true rfl, Nat.le_of_ble_eq_true rfl⟩) ⟨fun a U g mk q => by obtain ⟨q0, q1, qP, qK, qD⟩ := q; exact ⟨q0, q1, qP, va_K.moved (u := U) (U := U.calling g mk a) (Vm.Alike.refl U.vm) qK, qD⟩, hrv, fun U hU hW => ⟨rfl, by rw [hU], by rw [hU]; exact hPc, va_K.moved hW.alike hKc, hDc.weaken (fun _ _ _ _ => trivial)⟩⟩ rfl rfl hl.1 rfl (lv_room (Nat.le_of_ble_eq_true rfl)) dX4_readCondition_82 ⟨Nat.le_of_ble_eq_true rfl, Nat.le_of_ble_eq_true rfl⟩) hS (fun q _ h => hFc q h) hFc (fun r_3 x_4 t H1 locs ht hvm hw hB hz1 hk1 hS => ?_)
        obtain ⟨hP1, hK1, hD1⟩ := hB
        rw [ht] at hP1
        obtain ⟨hP, hD⟩ := cl_put (w1 := (wd_c_X9_take_1 h1 h1_0 h1_f1 x_4 j79_h1_f3 h1_0 h1_0k h1_0c)) (nw := (wd_c_X4_readCondition_4 h1 h1_0 h1_f1 x_4 j79_h1_f3 h1_0 h1_0k h1_0c h0 h0_0 j79_h0_f1 h0_2 h0_0 h0_0k j79_h0_0c)) hP hD [0, 1] [4, 5, 2, 3] 4 rfl hqc (by decide +kernel) rfl hk1 hFc hP1 hD1
        generalize H1 = H at hP hS ⊢
        as_aux_lemma =>
        rcases hw with ⟨h_5, h_6, h_7⟩ | ⟨h_8, h_9, h_10, h_11, h_12⟩
        · rw [h_5]
          refine lv_istore (lv' := [(5, .int 0), (4, .int 0), (6, .int j9_l6), (0, .ref h0), (1, .ref h1), (2, .int 4), (3, .int 0)]) hx hb dX4_readCondition_85 hl (Nat.le_of_ble_eq_true rfl) rfl (fun ls hl => ?_)
          refine lv_iload hx hb dX4_readCondition_87 (lv_at hl 0 rfl) ?_
          refine lv_if_ne (tgt := 93) hx hb dX4_readCondition_89 rfl (fun c_13 => absurd c_13 (by decide +kernel)) (fun c_13 => ?_)
          have hK9 := hK.sub (tys' := []) [] rfl
          exact W.vret hx hb hr (fun t ht hW => ⟨⟨(x_4, j79_h1_f3, j79_h0_f1, j79_h0_0c), rfl, ⟨h_6, g_j79_h1_f3, g_j79_h0_f1⟩, by rw [ht]; exact hP, va_K.moved hW.alike hK9, hD⟩, hS.F ht⟩) hS.2.2 dX4_readCondition_92
        · rw [h_8]
          refine lv_istore (lv' := [(5, .int 1), (4, .int 0), (6, .int j9_l6), (0, .ref h0), (1, .ref h1), (2, .int 4), (3, .int 0)]) hx hb dX4_readCondition_85 hl (Nat.le_of_ble_eq_true rfl) rfl (fun ls hl => ?_)
          refine lv_iload hx hb dX4_readCondition_87 (lv_at hl 0 rfl) ?_
          refine lv_if_ne (tgt := 93) hx hb dX4_readCondition_89 rfl (fun c_14 => ?_) (fun c_14 => absurd c_14 (by decide +kernel))
          exact hU _ _ _ (J93 0 1 x_4 j79_h1_f3 j79_h0_f1 j79_h0_0c g_h0_f1 h_10 g_h1_f2 g_h1_f3 g_j79_h0_f1 h_9 h_11 (RG_w (RG_k 0 0 rfl) (by decide +kernel)) (RG_w (RG_k 1 1 rfl) (by decide +kernel)) g_j9_h0_f1 g_j9_h1_f2 g_j9_h1_f3 g_j9_l4 g_j9_l5 g_j9_l6 _ _ _ hP hD hS (lv_sub hl [1, 2, 0, 3, 4, 5, 6] rfl))
      have J55 : ∀ (j55_h1_f2 : Int32) (j55_h1_f3 : Int32) (j55_h0_f1 : Int32) (j55_h0_0c : Nat → Int32) (g_h0_f1 : RG h0_f1 0 240) (g_h1_f1 : RG h1_f1 0 240) (g_h1_f2 : RG h1_f2 0 240) (g_h1_f3 : RG h1_f3 (-1) 240) (g_j55_h0_f1 : RG j55_h0_f1 0 240) (g_j55_h1_f2 : RG j55_h1_f2 0 240) (g_j55_h1_f3 : RG j55_h1_f3 (-1) 240) (g_j9_h0_f1 : RG j9_h0_f1 0 240) (g_j9_h1_f2 : RG j9_h1_f2 0 240) (g_j9_h1_f3 : RG j9_h1_f3 (-1) (-1)) (g_j9_l4 : RG j9_l4 0 1) (g_j9_l5 : RG j9_l5 0 1) (g_j9_l6 : RG j9_l6 0 239) (H : Heap) (locs : List Loc) (ls : Array Slot) (hP : va_P (dC, dI) vwCl (wd_c_X4_readCondition_4 h1 h1_0 h1_f1 j55_h1_f2 j55_h1_f3 h1_0 h1_0k h1_0c h0 h0_0 j55_h0_f1 h0_2 h0_0 h0_0k j55_h0_0c) H) (hD : va_D A (wd_c_X4_readCondition_4 h1 h1_0 h1_f1 j55_h1_f2 j55_h1_f3 h1_0 h1_0k h1_0c h0 h0_0 j55_h0_f1 h0_2 h0_0 h0_0k j55_h0_0c)) (hS : va_S A s.heap H locs) (hl : lv_has ls 7 [(6, .int j9_l6), (5, .int j9_l5), (0, .ref h0), (1, .ref h1), (2, .int 4), (3, .int 0)]), G H locs (F0 m 55 ls []) := by
        as_aux_lemma =>
        intro j55_h1_f2 j55_h1_f3 j55_h0_f1 j55_h0_0c g_h0_f1 g_h1_f1 g_h1_f2 g_h1_f3 g_j55_h0_f1 g_j55_h1_f2 g_j55_h1_f3 g_j9_h0_f1 g_j9_h1_f2 g_j9_h1_f3 g_j9_l4 g_j9_l5 g_j9_l6 H locs ls hP hD hS hl
        refine hG _ _ _ ?_
        refine lv_aload_n hx hb dX4_readCondition_55 rfl (lv_at hl 3 rfl) ?_
        refine lv_bipush (v := 38) hx hb dX4_readCondition_56 kc_bipush_38 ?_
        obtain ⟨hPc, hDc, hFc, hqc⟩ := cl_cut (wc := (wd_c_X9_take h1 h1_0 h1_f1 j55_h1_f2 j55_h1_f3 h1_0 h1_0k h1_0c)) hP hD hS hA [0, 1] (by decide +kernel) rfl
        have hKc := hK.sub (tys' := [(h1_0k, .int)]) [0] rfl
        have hrv := va_recv hKc hPc (ci := 9) (q0 := 0) rfl rfl
        refine va_calli (va_runV (As := [.int 38]) (rest := []) ⟨hx, hb, hml, hown, hts⟩ (c_X9_take l dC dI H.size h1 38 h1_0 h1_f1 j55_h1_f2 j55_h1_f3 h1_0k h1_0c (RG_w (RG_k 38 38 rfl) (by decide +kernel)) g_h1_f1 g_j55_h1_f2 g_j55_h1_f3 a_h1_0c) (cwV 1 hts gf_c_X4_readCondition_4_c_X9_take rfl rfl rfl mdV_X9_take ⟨Nat.le_of_ble_eq_true rfl, Nat.le_of_ble_eq_true rfl⟩) ⟨fun a U g mk q => by obtain ⟨q0, q1, qP, qK, qD⟩ := q; exact ⟨q0, q1, qP, va_K.moved (u := U) (U := U.calling g mk a) (Vm.Alike.refl U.vm) qK, qD⟩, hrv, fun U hU hW => ⟨rfl, by rw [hU], by rw [hU]; exact hPc, va_K.moved hW.alike hKc, hDc.weaken (fun _ _ _ _ => trivial)⟩⟩ rfl rfl hl.1 rfl (lv_room (Nat.le_of_ble_eq_true rfl)) dX4_readCondition_58 ⟨Nat.le_of_ble_eq_true rfl, Nat.le_of_ble_eq_true rfl⟩) hS (fun q _ h => hFc q h) hFc (fun r_15 x_16 t H1 locs ht hvm hw hB hz1 hk1 hS => ?_)
        obtain ⟨hP1, hK1, hD1⟩ := hB
        rw [ht] at hP1
        obtain ⟨hP, hD⟩ := cl_put (w1 := (wd_c_X9_take h1 h1_0 h1_f1 x_16 j55_h1_f3 h1_0 h1_0k h1_0c)) (nw := (wd_c_X4_readCondition_4 h1 h1_0 h1_f1 x_16 j55_h1_f3 h1_0 h1_0k h1_0c h0 h0_0 j55_h0_f1 h0_2 h0_0 h0_0k j55_h0_0c)) hP hD [0, 1] [4, 5, 2, 3] 4 rfl hqc (by decide +kernel) rfl hk1 hFc hP1 hD1
        generalize H1 = H at hP hS ⊢
        as_aux_lemma =>
        rcases hw with ⟨h_17, h_18, h_19⟩ | ⟨h_20, h_21, h_22, h_23, h_24⟩
        · rw [h_17]
          refine lv_istore (lv' := [(4, .int 0), (6, .int j9_l6), (5, .int j9_l5), (0, .ref h0), (1, .ref h1), (2, .int 4), (3, .int 0)]) hx hb dX4_readCondition_61 hl (Nat.le_of_ble_eq_true rfl) rfl (fun ls hl => ?_)
          refine lv_iload hx hb dX4_readCondition_63 (lv_at hl 0 rfl) ?_
          refine lv_if_ne (tgt := 93) hx hb dX4_readCondition_65 rfl (fun c_25 => absurd c_25 (by decide +kernel)) (fun c_25 => ?_)
          refine lv_iload hx hb dX4_readCondition_68 (lv_at hl 2 rfl) ?_
          refine lv_if_eq (tgt := 79) hx hb dX4_readCondition_70 rfl (fun c_26 => ?_) (fun c_26 => ?_)
          · have g_27 : RG j9_l5 0 0 := RG_eq1 g_j9_l5 (RG_k 0 0 rfl) c_26 (by decide +kernel)
            exact hU _ _ _ (J79 x_16 j55_h1_f3 j55_h0_f1 j55_h0_0c g_h0_f1 g_h1_f1 g_h1_f2 g_h1_f3 g_j55_h0_f1 h_18 g_j55_h1_f3 g_j9_h0_f1 g_j9_h1_f2 g_j9_h1_f3 g_j9_l4 (RG_w g_27 (by decide +kernel)) g_j9_l6 _ _ _ hP hD hS (lv_sub hl [0, 1, 3, 4, 5, 6] rfl))
          · have g_28 : RG j9_l5 1 1 := RG_ne1 g_j9_l5 (q := 0) rfl c_26 (by decide +kernel)
            refine lv_aload_n hx hb dX4_readCondition_73 rfl (lv_at hl 3 rfl) ?_
            refine lv_bipush (v := (-124)) hx hb dX4_readCondition_74 kc_bipush_m124 ?_
            obtain ⟨hPc, hDc, hFc, hqc⟩ := cl_cut (wc := (wd_c_X4_emit h0 h0_0 j55_h0_f1 h0_2 h0_0 h0_0k j55_h0_0c)) hP hD hS hA [2, 3] (by decide +kernel) rfl
            have hKc := hK.sub (tys' := [(h0_0k, .int)]) [1] rfl
            have hrv := va_recv hKc hPc (ci := 4) (q0 := 0) rfl rfl
            refine va_callv (va_runV (As := [.int (-124)]) (rest := []) ⟨hx, hb, hml, hown, hts⟩ (c_X4_emit l dC dI H.size h0 (-124) h0_0 j55_h0_f1 h0_2 h0_0k j55_h0_0c g_j55_h0_f1) (cwV 1 hts gf_c_X4_readCondition_4_c_X4_emit rfl rfl rfl mdV_X4_emit ⟨Nat.le_of_ble_eq_true rfl, Nat.le_of_ble_eq_true rfl⟩) ⟨fun a U g mk q => by obtain ⟨q0, q1, qP, qK, qD⟩ := q; exact ⟨q0, q1, qP, va_K.moved (u := U) (U := U.calling g mk a) (Vm.Alike.refl U.vm) qK, qD⟩, hrv, fun U hU hW => ⟨rfl, by rw [hU], by rw [hU]; exact hPc, va_K.moved hW.alike hKc, hDc.weaken (fun _ _ _ _ => trivial)⟩⟩ rfl rfl hl.1 rfl (lv_room (Nat.le_of_ble_eq_true rfl)) dX4_readCondition_76 ⟨Nat.le_of_ble_eq_true rfl, Nat.le_of_ble_eq_true rfl⟩) hS (fun q _ h => hFc q h) hFc (fun u t H1 locs ht hvm hw hB hz1 hk1 hS => ?_)
            as_aux_lemma =>
            obtain ⟨x_30, w_31⟩ := u
            obtain ⟨hP1, hK1, hD1⟩ := hB
            rw [ht] at hP1
            obtain ⟨hP, hD⟩ := cl_put (w1 := (wd_c_X4_emit h0 h0_0 x_30 h0_2 h0_0 h0_0k w_31)) (nw := (wd_c_X4_readCondition_4 h1 h1_0 h1_f1 x_16 j55_h1_f3 h1_0 h1_0k h1_0c h0 h0_0 x_30 h0_2 h0_0 h0_0k w_31)) hP hD [2, 3] [0, 1, 4, 5] 4 rfl hqc (by decide +kernel) rfl hk1 hFc hP1 hD1
            generalize H1 = H at hP hS ⊢
            as_aux_lemma =>
            have h_32 := hw
            exact hU _ _ _ (J79 x_16 j55_h1_f3 x_30 w_31 g_h0_f1 g_h1_f1 g_h1_f2 g_h1_f3 (RG_w h_32 (by decide +kernel)) h_18 g_j55_h1_f3 g_j9_h0_f1 g_j9_h1_f2 g_j9_h1_f3 g_j9_l4 (RG_w g_28 (by decide +kernel)) g_j9_l6 _ _ _ hP hD hS (lv_sub hl [0, 1, 3, 4, 5, 6] rfl))
        · rw [h_20]
          refine lv_istore (lv' := [(4, .int 1), (6, .int j9_l6), (5, .int j9_l5), (0, .ref h0), (1, .ref h1), (2, .int 4), (3, .int 0)]) hx hb dX4_readCondition_61 hl (Nat.le_of_ble_eq_true rfl) rfl (fun ls hl => ?_)
          refine lv_iload hx hb dX4_readCondition_63 (lv_at hl 0 rfl) ?_
          refine lv_if_ne (tgt := 93) hx hb dX4_readCondition_65 rfl (fun c_33 => ?_) (fun c_33 => absurd c_33 (by decide +kernel))
          exact hU _ _ _ (J93 1 j9_l5 x_16 j55_h1_f3 j55_h0_f1 j55_h0_0c g_h0_f1 h_22 g_h1_f2 g_h1_f3 g_j55_h0_f1 h_21 h_23 (RG_w (RG_k 1 1 rfl) (by decide +kernel)) g_j9_l5 g_j9_h0_f1 g_j9_h1_f2 g_j9_h1_f3 g_j9_l4 g_j9_l5 g_j9_l6 _ _ _ hP hD hS (lv_sub hl [0, 1, 2, 3, 4, 5, 6] rfl))
      have J41 : ∀ (g_h0_f1 : RG h0_f1 0 240) (g_h1_f1 : RG h1_f1 0 240) (g_h1_f2 : RG h1_f2 0 240) (g_h1_f3 : RG h1_f3 (-1) 240) (g_j9_h0_f1 : RG j9_h0_f1 0 240) (g_j9_h1_f2 : RG j9_h1_f2 0 240) (g_j9_h1_f3 : RG j9_h1_f3 (-1) (-1)) (g_j9_l4 : RG j9_l4 0 1) (g_j9_l5 : RG j9_l5 0 1) (g_j9_l6 : RG j9_l6 0 239) (H : Heap) (locs : List Loc) (ls : Array Slot) (hP : va_P (dC, dI) vwCl (wd_c_X4_readCondition_4 h1 h1_0 h1_f1 j9_h1_f2 j9_h1_f3 h1_0 h1_0k h1_0c h0 h0_0 j9_h0_f1 h0_2 h0_0 h0_0k j9_h0_0c) H) (hD : va_D A (wd_c_X4_readCondition_4 h1 h1_0 h1_f1 j9_h1_f2 j9_h1_f3 h1_0 h1_0k h1_0c h0 h0_0 j9_h0_f1 h0_2 h0_0 h0_0k j9_h0_0c)) (hS : va_S A s.heap H locs) (hl : lv_has ls 7 [(6, .int j9_l6), (5, .int j9_l5), (4, .int j9_l4), (0, .ref h0), (1, .ref h1), (2, .int 4), (3, .int 0)]), G H locs (F0 m 41 ls [.int 0, .int 4, .ref h1, .ref h0]) := by
        as_aux_lemma =>
        intro g_h0_f1 g_h1_f1 g_h1_f2 g_h1_f3 g_j9_h0_f1 g_j9_h1_f2 g_j9_h1_f3 g_j9_l4 g_j9_l5 g_j9_l6 H locs ls hP hD hS hl
        refine hG _ _ _ ?_
        obtain ⟨hPc, hDc, hFc, hqc⟩ := cl_cut (wc := (wd_c_X4_readUnit_5 h1 h1_0 h1_f1 j9_h1_f2 j9_h1_f3 h1_0 h1_0k h1_0c h0 h0_0 j9_h0_f1 h0_2 h0_0 h0_0k j9_h0_0c)) hP hD hS hA [0, 1, 2, 3] (by decide +kernel) rfl
        have hKc := hK.sub (tys' := [(h1_0k, .int), (h0_0k, .int)]) [0, 1] rfl
        have hrv := va_recv hKc hPc (ci := 4) (q0 := 2) rfl rfl
        refine va_callv (va_runV (As := [.ref h1, .int 4, .int 0]) (rest := []) ⟨hx, hb, hml, hown, hts⟩ (c_X4_readUnit_5 l dC dI H.size h0 h1 h1_0 h1_f1 j9_h1_f2 j9_h1_f3 h1_0k h1_0c h0_0 j9_h0_f1 h0_2 h0_0k j9_h0_0c ts4 tv4 g_h1_f1 g_j9_h1_f2 (RG_w g_j9_h1_f3 (by decide +kernel)) a_h1_0c g_j9_h0_f1) (cwV 3 hts gf_c_X4_readCondition_4_c_X4_readUnit_5 rfl rfl rfl mdV_X4_readUnit ⟨Nat.le_of_ble_eq_true rfl, Nat.le_of_ble_eq_true rfl⟩) ⟨fun a U g mk q => by obtain ⟨q0, q1, qP, qK, qD, qE0, qE1, qE2, qE3, qE4, qE5⟩ := q; exact ⟨q0, q1, qP, va_K.moved (u := U) (U := U.calling g mk a) (Vm.Alike.refl U.vm) qK, qD, vk_R.same rfl qE0, va_Z.moved (u := U) (U := U.calling g mk a) (Vm.Alike.refl U.vm) qE1, va_OF.moved (u := U) (U := U.calling g mk a) (Vm.Alike.refl U.vm) qE2, va_O.moved (u := U) (U := U.calling g mk a) (Vm.Alike.refl U.vm) qE3, va_OF.moved (u := U) (U := U.calling g mk a) (Vm.Alike.refl U.vm) qE4, va_T.moved (u := U) (U := U.calling g mk a) (Vm.Alike.refl U.vm) qE5⟩, hrv, fun U hU hW => ⟨rfl, by rw [hU], by rw [hU]; exact hPc, va_K.moved hW.alike hKc, hDc.weaken (fun _ _ _ _ => trivial), vk_R.warm hW hE_32, va_Z.moved hW.alike (by rw [hU]; exact (hE_10.kept hS.2.1).narrow hFc), va_OF.moved hW.alike (by rw [hU]; exact (hE_34.kept hS.2.1).narrow hFc), va_O.moved hW.alike (by rw [hU]; exact (hE_33.kept hS.2.1).narrow hFc), va_OF.moved hW.alike (by rw [hU]; exact (hE_35.kept hS.2.1).narrow hFc), va_T.moved hW.alike (by rw [hU]; exact (hE_36.kept hS.2.1).narrow hFc)⟩⟩ rfl rfl hl.1 rfl (lv_room (Nat.le_of_ble_eq_true rfl)) dX4_readCondition_41 ⟨Nat.le_of_ble_eq_true rfl, Nat.le_of_ble_eq_true rfl⟩) hS (fun q _ h => hFc q h) hFc (fun u t H1 locs ht hvm hw hB hz1 hk1 hS => ?_)
        obtain ⟨x_35, x_36, x_37, w_38⟩ := u
        obtain ⟨hP1, hK1, hD1⟩ := hB
        rw [ht] at hP1
        obtain ⟨hP, hD⟩ := cl_put (w1 := (wd_c_X4_readUnit_5 h1 h1_0 h1_f1 x_35 x_36 h1_0 h1_0k h1_0c h0 h0_0 x_37 h0_2 h0_0 h0_0k w_38)) (nw := (wd_c_X4_readCondition_4 h1 h1_0 h1_f1 x_35 x_36 h1_0 h1_0k h1_0c h0 h0_0 x_37 h0_2 h0_0 h0_0k w_38)) hP hD [0, 1, 2, 3] [4, 5, 6, 7] 4 rfl hqc (by decide +kernel) rfl hk1 hFc hP1 hD1
        generalize H1 = H at hP hS ⊢
        as_aux_lemma =>
        rcases hw with ⟨h_39, h_40, h_41⟩
        refine lv_iload hx hb dX4_readCondition_44 (lv_at hl 2 rfl) ?_
        refine lv_if_eq (tgt := 55) hx hb dX4_readCondition_46 rfl (fun c_42 => ?_) (fun c_42 => ?_)
        · have g_43 : RG j9_l4 0 0 := RG_eq1 g_j9_l4 (RG_k 0 0 rfl) c_42 (by decide +kernel)
          exact hU _ _ _ (J55 x_35 x_36 x_37 w_38 g_h0_f1 g_h1_f1 g_h1_f2 g_h1_f3 h_41 h_39 h_40 g_j9_h0_f1 g_j9_h1_f2 g_j9_h1_f3 (RG_w g_43 (by decide +kernel)) g_j9_l5 g_j9_l6 _ _ _ hP hD hS (lv_sub hl [0, 1, 3, 4, 5, 6] rfl))
        · have g_44 : RG j9_l4 1 1 := RG_ne1 g_j9_l4 (q := 0) rfl c_42 (by decide +kernel)
          refine lv_aload_n hx hb dX4_readCondition_49 rfl (lv_at hl 3 rfl) ?_
          refine lv_bipush (v := (-38)) hx hb dX4_readCondition_50 kc_bipush_m38 ?_
          obtain ⟨hPc, hDc, hFc, hqc⟩ := cl_cut (wc := (wd_c_X4_emit h0 h0_0 x_37 h0_2 h0_0 h0_0k w_38)) hP hD hS hA [2, 3] (by decide +kernel) rfl
          have hKc := hK.sub (tys' := [(h0_0k, .int)]) [1] rfl
          have hrv := va_recv hKc hPc (ci := 4) (q0 := 0) rfl rfl
          refine va_callv (va_runV (As := [.int (-38)]) (rest := []) ⟨hx, hb, hml, hown, hts⟩ (c_X4_emit l dC dI H.size h0 (-38) h0_0 x_37 h0_2 h0_0k w_38 h_41) (cwV 1 hts gf_c_X4_readCondition_4_c_X4_emit rfl rfl rfl mdV_X4_emit ⟨Nat.le_of_ble_eq_true rfl, Nat.le_of_ble_eq_true rfl⟩) ⟨fun a U g mk q => by obtain ⟨q0, q1, qP, qK, qD⟩ := q; exact ⟨q0, q1, qP, va_K.moved (u := U) (U := U.calling g mk a) (Vm.Alike.refl U.vm) qK, qD⟩, hrv, fun U hU hW => ⟨rfl, by rw [hU], by rw [hU]; exact hPc, va_K.moved hW.alike hKc, hDc.weaken (fun _ _ _ _ => trivial)⟩⟩ rfl rfl hl.1 rfl (lv_room (Nat.le_of_ble_eq_true rfl)) dX4_readCondition_52 ⟨Nat.le_of_ble_eq_true rfl, Nat.le_of_ble_eq_true rfl⟩) hS (fun q _ h => hFc q h) hFc (fun u t H1 locs ht hvm hw hB hz1 hk1 hS => ?_)
          obtain ⟨x_46, w_47⟩ := u
          obtain ⟨hP1, hK1, hD1⟩ := hB
          rw [ht] at hP1
          obtain ⟨hP, hD⟩ := cl_put (w1 := (wd_c_X4_emit h0 h0_0 x_46 h0_2 h0_0 h0_0k w_47)) (nw := (wd_c_X4_readCondition_4 h1 h1_0 h1_f1 x_35 x_36 h1_0 h1_0k h1_0c h0 h0_0 x_46 h0_2 h0_0 h0_0k w_47)) hP hD [2, 3] [0, 1, 4, 5] 4 rfl hqc (by decide +kernel) rfl hk1 hFc hP1 hD1
          generalize H1 = H at hP hS ⊢
          as_aux_lemma =>
          have h_48 := hw
          exact hU _ _ _ (J55 x_35 x_36 x_46 w_47 g_h0_f1 g_h1_f1 g_h1_f2 g_h1_f3 (RG_w h_48 (by decide +kernel)) h_39 h_40 g_j9_h0_f1 g_j9_h1_f2 g_j9_h1_f3 (RG_w g_44 (by decide +kernel)) g_j9_l5 g_j9_l6 _ _ _ hP hD hS (lv_sub hl [0, 1, 3, 4, 5, 6] rfl))
      have J40 : ∀ (g_h0_f1 : RG h0_f1 0 240) (g_h1_f1 : RG h1_f1 0 240) (g_h1_f2 : RG h1_f2 0 240) (g_h1_f3 : RG h1_f3 (-1) 240) (g_j9_h0_f1 : RG j9_h0_f1 0 240) (g_j9_h1_f2 : RG j9_h1_f2 0 240) (g_j9_h1_f3 : RG j9_h1_f3 (-1) (-1)) (g_j9_l4 : RG j9_l4 0 1) (g_j9_l5 : RG j9_l5 0 1) (g_j9_l6 : RG j9_l6 0 239) (H : Heap) (locs : List Loc) (ls : Array Slot) (hP : va_P (dC, dI) vwCl (wd_c_X4_readCondition_4 h1 h1_0 h1_f1 j9_h1_f2 j9_h1_f3 h1_0 h1_0k h1_0c h0 h0_0 j9_h0_f1 h0_2 h0_0 h0_0k j9_h0_0c) H) (hD : va_D A (wd_c_X4_readCondition_4 h1 h1_0 h1_f1 j9_h1_f2 j9_h1_f3 h1_0 h1_0k h1_0c h0 h0_0 j9_h0_f1 h0_2 h0_0 h0_0k j9_h0_0c)) (hS : va_S A s.heap H locs) (hl : lv_has ls 7 [(6, .int j9_l6), (5, .int j9_l5), (4, .int j9_l4), (0, .ref h0), (1, .ref h1), (2, .int 4), (3, .int 0)]), G H locs (F0 m 40 ls [.int 4, .ref h1, .ref h0]) := by
        as_aux_lemma =>
        intro g_h0_f1 g_h1_f1 g_h1_f2 g_h1_f3 g_j9_h0_f1 g_j9_h1_f2 g_j9_h1_f3 g_j9_l4 g_j9_l5 g_j9_l6 H locs ls hP hD hS hl
        refine hG _ _ _ ?_
        refine lv_iconst (v := 0) hx hb dX4_readCondition_40 kc_iconst_0 ?_
        exact hU _ _ _ (J41 g_h0_f1 g_h1_f1 g_h1_f2 g_h1_f3 g_j9_h0_f1 g_j9_h1_f2 g_j9_h1_f3 g_j9_l4 g_j9_l5 g_j9_l6 _ _ _ hP hD hS (lv_sub hl [0, 1, 2, 3, 4, 5, 6] rfl))
      refine hG _ _ _ ?_
      refine lv_iload hx hb dX4_readCondition_9 (lv_at hl 0 rfl) ?_
      refine lv_sipush (v := 240) hx hb dX4_readCondition_11 kc_sipush_240 ?_
      refine lv_icmp_ge (tgt := 99) hx hb dX4_readCondition_14 rfl (fun c_49 => ?_) (fun c_49 => ?_)
      · have g_50 : RG j9_l6 240 240 := RG_le2 (RG_k 240 240 rfl) g_j9_l6 c_49 (by decide +kernel)
        have hK9 := hK.sub (tys' := []) [] rfl
        exact W.vret hx hb hr (fun t ht hW => ⟨⟨(j9_h1_f2, j9_h1_f3, j9_h0_f1, j9_h0_0c), rfl, ⟨g_j9_h1_f2, g_j9_h1_f3, g_j9_h0_f1⟩, by rw [ht]; exact hP, va_K.moved hW.alike hK9, hD⟩, hS.F ht⟩) hS.2.2 dX4_readCondition_99
      · have d_51 := Int32.not_le.mp c_49
        have g_52 : RG j9_l6 0 239 := RG_lt1 g_j9_l6 (RG_k 240 240 rfl) d_51 (by decide +kernel)
        refine lv_aload_n hx hb dX4_readCondition_17 rfl (lv_at hl 4 rfl) ?_
        as_aux_lemma =>
        obtain ⟨hPc, hDc, hFc, hqc⟩ := cl_cut (wc := (wd_c_X9_isRight h1 h1_0 h1_f1 j9_h1_f2 j9_h1_f3)) hP hD hS hA [0] (by decide +kernel) rfl
        have hKc := hK.sub (tys' := []) [] rfl
        have hrv := va_recv hKc hPc (ci := 9) (q0 := 0) rfl rfl
        refine va_calli (va_runV (As := []) (rest := []) ⟨hx, hb, hml, hown, hts⟩ (c_X9_isRight l dC dI H.size h1 h1_0 h1_f1 j9_h1_f2 j9_h1_f3 g_h1_f1 g_j9_h1_f2 g_j9_h1_f3) (cwV 0 hts gf_c_X4_readCondition_4_c_X9_isRight rfl rfl rfl mdV_X9_isRight ⟨Nat.le_of_ble_eq_true rfl, Nat.le_of_ble_eq_true rfl⟩) ⟨fun a U g mk q => by obtain ⟨q0, q1, qP, qK, qD⟩ := q; exact ⟨q0, q1, qP, va_K.moved (u := U) (U := U.calling g mk a) (Vm.Alike.refl U.vm) qK, qD⟩, hrv, fun U hU hW => ⟨rfl, by rw [hU], by rw [hU]; exact hPc, va_K.moved hW.alike hKc, hDc.weaken (fun _ _ _ _ => trivial)⟩⟩ rfl rfl hl.1 rfl (lv_room (Nat.le_of_ble_eq_true rfl)) dX4_readCondition_18 ⟨Nat.le_of_ble_eq_true rfl, Nat.le_of_ble_eq_true rfl⟩) hS (fun q _ h => hFc q h) hFc (fun r_53 u t H1 locs ht hvm hw hB hz1 hk1 hS => ?_)
        obtain ⟨hP1, hK1, hD1⟩ := hB
        rw [ht] at hP1
        obtain ⟨hP, hD⟩ := cl_put (w1 := (wd_c_X9_isRight h1 h1_0 h1_f1 j9_h1_f2 j9_h1_f3)) (nw := (wd_c_X4_readCondition_4 h1 h1_0 h1_f1 j9_h1_f2 j9_h1_f3 h1_0 h1_0k h1_0c h0 h0_0 j9_h0_f1 h0_2 h0_0 h0_0k j9_h0_0c)) hP hD [0] [4, 1, 2, 3] 4 rfl hqc (by decide +kernel) rfl hk1 hFc hP1 hD1
        generalize H1 = H at hP hS ⊢
        as_aux_lemma =>
        rcases hw with ⟨h_54, h_55⟩ | ⟨h_56, h_57⟩
        · rw [h_54]
          refine lv_if_eq (tgt := 99) hx hb dX4_readCondition_21 rfl (fun c_58 => ?_) (fun c_58 => absurd c_58 (by decide +kernel))
          have hK9 := hK.sub (tys' := []) [] rfl
          exact W.vret hx hb hr (fun t ht hW => ⟨⟨(j9_h1_f2, j9_h1_f3, j9_h0_f1, j9_h0_0c), rfl, ⟨g_j9_h1_f2, (RG_w h_55 (by decide +kernel)), g_j9_h0_f1⟩, by rw [ht]; exact hP, va_K.moved hW.alike hK9, hD⟩, hS.F ht⟩) hS.2.2 dX4_readCondition_99
        · rw [h_56]
          refine lv_if_eq (tgt := 99) hx hb dX4_readCondition_21 rfl (fun c_59 => absurd c_59 (by decide +kernel)) (fun c_59 => ?_)
          refine lv_aload_n hx hb dX4_readCondition_24 rfl (lv_at hl 3 rfl) ?_
          refine lv_aload_n hx hb dX4_readCondition_25 rfl (lv_at hl 4 rfl) ?_
          refine lv_iload_n hx hb dX4_readCondition_26 rfl (lv_at hl 5 rfl) ?_
          refine lv_iload_n hx hb dX4_readCondition_27 rfl (lv_at hl 6 rfl) ?_
          refine lv_if_eq (tgt := 40) hx hb dX4_readCondition_28 rfl (fun c_60 => ?_) (fun c_60 => absurd c_60 (by decide +kernel))
          exact hU _ _ _ (J40 g_h0_f1 g_h1_f1 g_h1_f2 g_h1_f3 g_j9_h0_f1 g_j9_h1_f2 h_57 g_j9_l4 g_j9_l5 g_52 _ _ _ hP hD hS (lv_sub hl [0, 1, 2, 3, 4, 5, 6] rfl))
  refine hG _ _ _ ?_
  as_aux_lemma =>
  refine lv_iconst (v := 0) hx hb dX4_readCondition_0 kc_iconst_0 ?_
  refine lv_istore (lv' := [(4, .int 0), (0, .ref h0), (1, .ref h1), (2, .int 4), (3, .int 0)]) hx hb dX4_readCondition_1 hl (Nat.le_of_ble_eq_true rfl) rfl (fun ls hl => ?_)
  refine lv_iconst (v := 0) hx hb dX4_readCondition_3 kc_iconst_0 ?_
  refine lv_istore (lv' := [(5, .int 0), (4, .int 0), (0, .ref h0), (1, .ref h1), (2, .int 4), (3, .int 0)]) hx hb dX4_readCondition_4 hl (Nat.le_of_ble_eq_true rfl) rfl (fun ls hl => ?_)
  refine lv_iconst (v := 0) hx hb dX4_readCondition_6 kc_iconst_0 ?_
  refine lv_istore (lv' := [(6, .int 0), (5, .int 0), (4, .int 0), (0, .ref h0), (1, .ref h1), (2, .int 4), (3, .int 0)]) hx hb dX4_readCondition_7 hl (Nat.le_of_ble_eq_true rfl) rfl (fun ls hl => ?_)
  exact hU _ _ _ (J9 _ 0 0 0 h1_f2 h1_f3 h0_f1 h0_0c (Nat.lt_succ_self _) g_h0_f1 g_h1_f1 g_h1_f2 g_h1_f3 g_h0_f1 g_h1_f2 g_h1_f3 (RG_w (RG_k 0 0 rfl) (by decide +kernel)) (RG_w (RG_k 0 0 rfl) (by decide +kernel)) (RG_w (RG_k 0 0 rfl) (by decide +kernel)) _ _ _ hP hD hS (lv_sub hl [0, 1, 2, 3, 4, 5, 6] rfl))
noncomputable def wd_c_X4_readUnit_4 (a0 : Nat) (a1 : Nat) (a2 : Int32) (a3 : Int32) (a4 : Int32) (a5 : Nat) (a6 : ClassId) (a7 : Nat → Int32) (a8 : Nat) (a9 : Nat) (a10 : Int32) (a11 : Nat) (a12 : Nat) (a13 : ClassId) (a14 : Nat → Int32) : va_W := [(a0, .inr (9, [.ref a1, .int a2, .int a3, .int a4])), (a5, .inl (a6, 240, .inl a7)), (a8, .inr (4, [.ref a9, .int a10, .ref a11])), (a12, .inl (a13, 240, .inl a14))]
noncomputable def wf_c_X4_readUnit_4 : List Cond := List.cons (.code yX4_readUnit cX4_readUnit 5 none) (@HAppend.hAppend (List Cond) (List Cond) (List Cond) _ (@HAppend.hAppend (List Cond) (List Cond) (List Cond) _ [.methodLink RX4 41 yX9_peek, .instanceMethod yX9_peek, .selects RX9 yX9_peek yX9_peek, .initialized RX9, .code yX9_peek cX9_peek 1 (some .int), .fieldLink RX9 22 "BuoyVote$Tape" "at" "I", .fieldLink RX9 19 "BuoyVote$Tape" "length" "I", .fieldLink RX9 11 "BuoyVote$Tape" "bytes" "[I", .methodLink RX4 45 yX4_startsUnit, .static yX4_startsUnit, .initialized RX4, .code yX4_startsUnit cX4_startsUnit 1 (some .boolean), .methodLink RX4 63 yX9_take, .instanceMethod yX9_take, .selects RX9 yX9_take yX9_take, .code yX9_take cX9_take 2 (some .boolean), .fieldLink RX9 15 "BuoyVote$Tape" "wrong" "I", .methodLink RX9 29 yX9_peek, .methodLink RX4 37 yX9_expect, .instanceMethod yX9_expect, .selects RX9 yX9_expect yX9_expect, .code yX9_expect cX9_expect 2 none, .methodLink RX9 25 yX9_refuse, .instanceMethod yX9_refuse, .selects RX9 yX9_refuse yX9_refuse, .code yX9_refuse cX9_refuse 2 none, .methodLink RX4 56 yX4_readCondition, .instanceMethod yX4_readCondition, .selects RX4 yX4_readCondition yX4_readCondition, .code yX4_readCondition cX4_readCondition 7 none, .methodLink RX4 72 yX9_isRight, .instanceMethod yX9_isRight, .selects RX9 yX9_isRight yX9_isRight, .code yX9_isRight cX9_isRight 1 (some .boolean), .methodLink RX4 76 yX4_readUnit, .instanceMethod yX4_readUnit, .selects RX4 yX4_readUnit yX4_readUnit, .methodLink RX4 82 yX9_refuseHere, .instanceMethod yX9_refuseHere, .selects RX9 yX9_refuseHere yX9_refuseHere, .code yX9_refuseHere cX9_refuseHere 1 none, .methodLink RX4 49 yX4_readSum, .instanceMethod yX4_readSum, .selects RX4 yX4_readSum yX4_readSum, .code yX4_readSum cX4_readSum 6 none, .methodLink RX4 85 yX4_readAtom, .instanceMethod yX4_readAtom, .selects RX4 yX4_readAtom yX4_readAtom, .code yX4_readAtom cX4_readAtom 6 none, .methodLink RX4 93 yJ0_indexOf_0f7a4, .instanceMethod yJ0_indexOf_0f7a4, .selects RJ0 yJ0_indexOf_0f7a4 yJ0_indexOf_0f7a4, .initialized RJ0, .code yJ0_indexOf_0f7a4 cJ0_indexOf_0f7a4 2 (some .int), .methodLink RJ0 633 yJ0_indexOf_7cf53, .instanceMethod yJ0_indexOf_7cf53, .selects RJ0 yJ0_indexOf_7cf53 yJ0_indexOf_7cf53, .code yJ0_indexOf_7cf53 cJ0_indexOf_7cf53 3 (some .int), .methodLink RJ0 492 yJ0_isLatin1_aae02, .instanceMethod yJ0_isLatin1_aae02, .selects RJ0 yJ0_isLatin1_aae02 yJ0_isLatin1_aae02, .code yJ0_isLatin1_aae02 cJ0_isLatin1_aae02 1 (some .boolean), .fieldLink RJ0 38 "java/lang/String" "COMPACT_STRINGS" "Z", .fieldLink RJ0 15 "java/lang/String" "coder" "B", .fieldLink RJ0 9 "java/lang/String" "value" "[B", .methodLink RJ0 505 yJ0_length_8abf5, .instanceMethod yJ0_length_8abf5, .selects RJ0 yJ0_length_8abf5 yJ0_length_8abf5, .code yJ0_length_8abf5 cJ0_length_8abf5 1 (some .int), .methodLink RJ0 335 yJ0_coder_7d493, .instanceMethod yJ0_coder_7d493, .selects RJ0 yJ0_coder_7d493 yJ0_coder_7d493, .code yJ0_coder_7d493 cJ0_coder_7d493 1 (some .byte), .methodLink RJ0 637 yJ1_indexOf_4cfef, .static yJ1_indexOf_4cfef, .initialized RJ1, .code yJ1_indexOf_4cfef cJ1_indexOf_4cfef 4 (some .int), .methodLink RJ1 88 yJ1_canEncode_9a6ad, .static yJ1_canEncode_9a6ad, .code yJ1_canEncode_9a6ad cJ1_canEncode_9a6ad 1 (some .boolean), .methodLink RJ1 92 Lib.Math.max.name, .static Lib.Math.max.name, .initialized "java/lang/Math", .code Lib.Math.max.name Lib.Math.max.code 2 (some .int), .methodLink RJ1 38 Lib.Math.min.name, .static Lib.Math.min.name, .code Lib.Math.min.name Lib.Math.min.code 2 (some .int), .methodLink RJ1 95 yJ1_indexOfChar_4cfef, .static yJ1_indexOfChar_4cfef, .code yJ1_indexOfChar_4cfef cJ1_indexOfChar_4cfef 6 (some .int), .methodLink RX4 99 yX9_number, .instanceMethod yX9_number, .selects RX9 yX9_number yX9_number, .code yX9_number cX9_number 4 (some .int), .methodLink RX4 79 yX9_skip, .instanceMethod yX9_skip, .selects RX9 yX9_skip yX9_skip, .code yX9_skip cX9_skip 1 none, .methodLink RX4 60 yX4_emit, .instanceMethod yX4_emit, .selects RX4 yX4_emit yX4_emit, .code yX4_emit cX4_emit 2 none, .fieldLink RX4 20 "BuoyVote$Law" "length" "I", .fieldLink RX4 11 "BuoyVote$Law" "code" "[I", .methodLink RX4 88 yX9_takeEither, .instanceMethod yX9_takeEither, .selects RX9 yX9_takeEither yX9_takeEither, .code yX9_takeEither cX9_takeEither 4 (some .int), .methodLink RX4 53 yX4_isComparison, .static yX4_isComparison, .code yX4_isComparison cX4_isComparison 1 (some .boolean)] wsX90) wsX40)
theorem iw_c_X4_readUnit_4_X9 : ∀ w ∈ wsX90, w ∈ wf_c_X4_readUnit_4 := fun w h => List.mem_cons_of_mem _ (List.mem_append_left _ (List.mem_append_right _ h))
theorem iw_c_X4_readUnit_4_X4 : ∀ w ∈ wsX40, w ∈ wf_c_X4_readUnit_4 := fun w h => List.mem_cons_of_mem _ (List.mem_append_right _ h)
set_option maxRecDepth 20000 in
theorem gf_c_X4_readUnit_4_c_X9_peek : GoodIn wf_c_X4_readUnit_4 (wsV RX4 41 RX9 yX9_peek wf_c_X9_peek) := goodIn_app (gi_l [1, 2, 3, 4] rfl rfl) (gi_cons (j := 5) rfl rfl (goodIn_app (gi_l [6, 7, 8] rfl rfl) (goodIn_sub iw_c_X4_readUnit_4_X9 gw_X9)))
set_option maxRecDepth 20000 in
theorem gf_c_X4_readUnit_4_c_X4_isComparison : GoodIn wf_c_X4_readUnit_4 (va_wsS RX4 53 yX4_isComparison wf_c_X4_isComparison) := goodIn_app (gi_l [109, 110, 11] rfl rfl) (gi_cons (j := 111) rfl rfl gi_nil)
set_option maxRecDepth 20000 in
theorem gf_c_X4_readUnit_4_c_X9_refuseHere : GoodIn wf_c_X4_readUnit_4 (wsV RX4 82 RX9 yX9_refuseHere wf_c_X9_refuseHere) := goodIn_app (gi_l [38, 39, 40, 4] rfl rfl) (gi_cons (j := 41) rfl rfl (goodIn_app (gi_l [6, 23, 24, 25, 4, 26, 17] rfl rfl) (goodIn_sub iw_c_X4_readUnit_4_X9 gw_X9)))
set_option maxRecDepth 20000 in
theorem gf_c_X4_readUnit_4_c_X4_isComparison_1 : GoodIn wf_c_X4_readUnit_4 (va_wsS RX4 53 yX4_isComparison wf_c_X4_isComparison_1) := goodIn_app (gi_l [109, 110, 11] rfl rfl) (gi_cons (j := 111) rfl rfl gi_nil)
set_option maxRecDepth 20000 in
theorem gf_c_X4_readUnit_4_c_X9_skip : GoodIn wf_c_X4_readUnit_4 (wsV RX4 79 RX9 yX9_skip wf_c_X9_skip) := goodIn_app (gi_l [95, 96, 97, 4] rfl rfl) (gi_cons (j := 98) rfl rfl (goodIn_app (gi_l [6] rfl rfl) (goodIn_sub iw_c_X4_readUnit_4_X9 gw_X9)))
set_option maxRecDepth 20000 in
theorem gf_c_X4_readUnit_4_c_X4_readSum_3 : GoodIn wf_c_X4_readUnit_4 (wsV RX4 49 RX4 yX4_readSum wf_c_X4_readSum_3) := goodIn_app (gi_l [42, 43, 44, 11] rfl rfl) (gi_cons (j := 45) rfl rfl (goodIn_app (goodIn_app (gi_l [31, 32, 33, 4, 34, 17, 46, 47, 48, 11, 49, 1, 2, 3, 5, 6, 7, 8, 50, 51, 52, 53, 54, 55, 56, 57, 58, 59, 60, 61, 62, 63, 64, 65, 66, 67, 68, 69, 70, 71, 72, 73, 74, 75, 76, 77, 78, 79, 80, 81, 82, 83, 84, 85, 86, 87, 88, 89, 90, 91, 92, 93, 94, 38, 39, 40, 41, 23, 24, 25, 26, 95, 96, 97, 98, 42, 43, 44, 99, 100, 101, 102, 103, 104, 105, 106, 107, 108, 18, 19, 20, 21, 22] rfl rfl) (goodIn_sub iw_c_X4_readUnit_4_X9 gw_X9)) (goodIn_sub iw_c_X4_readUnit_4_X4 gw_X4)))
set_option maxRecDepth 20000 in
theorem gf_c_X4_readUnit_4_c_X4_emit : GoodIn wf_c_X4_readUnit_4 (wsV RX4 60 RX4 yX4_emit wf_c_X4_emit) := goodIn_app (gi_l [99, 100, 101, 11] rfl rfl) (gi_cons (j := 102) rfl rfl (goodIn_app (gi_l [103, 104] rfl rfl) (goodIn_sub iw_c_X4_readUnit_4_X4 gw_X4)))
set_option maxRecDepth 20000 in
theorem gf_c_X4_readUnit_4_c_X4_startsUnit : GoodIn wf_c_X4_readUnit_4 (va_wsS RX4 45 yX4_startsUnit wf_c_X4_startsUnit) := goodIn_app (gi_l [9, 10, 11] rfl rfl) (gi_cons (j := 12) rfl rfl gi_nil)
set_option maxRecDepth 20000 in
theorem gf_c_X4_readUnit_4_c_X4_startsUnit_1 : GoodIn wf_c_X4_readUnit_4 (va_wsS RX4 45 yX4_startsUnit wf_c_X4_startsUnit_1) := goodIn_app (gi_l [9, 10, 11] rfl rfl) (gi_cons (j := 12) rfl rfl gi_nil)
set_option maxRecDepth 20000 in
theorem gf_c_X4_readUnit_4_c_X9_take : GoodIn wf_c_X4_readUnit_4 (wsV RX4 63 RX9 yX9_take wf_c_X9_take) := goodIn_app (gi_l [13, 14, 15, 4] rfl rfl) (gi_cons (j := 16) rfl rfl (goodIn_app (gi_l [17, 18, 2, 3, 4, 5, 6, 7, 8] rfl rfl) (goodIn_sub iw_c_X4_readUnit_4_X9 gw_X9)))
set_option maxRecDepth 20000 in
theorem gf_c_X4_readUnit_4_c_X9_expect_1 : GoodIn wf_c_X4_readUnit_4 (wsV RX4 37 RX9 yX9_expect wf_c_X9_expect_1) := goodIn_app (gi_l [19, 20, 21, 4] rfl rfl) (gi_cons (j := 22) rfl rfl (goodIn_app (gi_l [17, 18, 2, 3, 4, 5, 6, 7, 8, 23, 24, 25, 26] rfl rfl) (goodIn_sub iw_c_X4_readUnit_4_X9 gw_X9)))
set_option maxRecDepth 20000 in
theorem gf_c_X4_readUnit_4_c_X4_readCondition_4 : GoodIn wf_c_X4_readUnit_4 (wsV RX4 56 RX4 yX4_readCondition wf_c_X4_readCondition_4) := goodIn_app (gi_l [27, 28, 29, 11] rfl rfl) (gi_cons (j := 30) rfl rfl (goodIn_app (goodIn_app (gi_l [31, 32, 33, 4, 34, 17, 35, 36, 37, 11, 0, 1, 2, 3, 5, 6, 7, 8, 9, 10, 12, 13, 14, 15, 16, 18, 19, 20, 21, 22, 23, 24, 25, 26, 27, 28, 29, 38, 39, 40, 41, 42, 43, 44, 45, 46, 47, 48, 49, 50, 51, 52, 53, 54, 55, 56, 57, 58, 59, 60, 61, 62, 63, 64, 65, 66, 67, 68, 69, 70, 71, 72, 73, 74, 75, 76, 77, 78, 79, 80, 81, 82, 83, 84, 85, 86, 87, 88, 89, 90, 91, 92, 93, 94, 95, 96, 97, 98, 99, 100, 101, 102, 103, 104, 105, 106, 107, 108, 109, 110, 111] rfl rfl) (goodIn_sub iw_c_X4_readUnit_4_X9 gw_X9)) (goodIn_sub iw_c_X4_readUnit_4_X4 gw_X4)))
set_option maxRecDepth 20000 in
theorem gf_c_X4_readUnit_4_c_X4_readUnit_5 : GoodIn wf_c_X4_readUnit_4 (wsV RX4 76 RX4 yX4_readUnit wf_c_X4_readUnit_5) := goodIn_app (gi_l [35, 36, 37, 11] rfl rfl) (gi_cons (j := 0) rfl rfl (goodIn_app (goodIn_app (gi_l [1, 2, 3, 4, 5, 6, 7, 8, 9, 10, 11, 12, 13, 14, 15, 16, 17, 18, 19, 20, 21, 22, 23, 24, 25, 26, 27, 28, 29, 30, 31, 32, 33, 34, 35, 36, 37, 38, 39, 40, 41, 42, 43, 44, 45, 46, 47, 48, 49, 50, 51, 52, 53, 54, 55, 56, 57, 58, 59, 60, 61, 62, 63, 64, 65, 66, 67, 68, 69, 70, 71, 72, 73, 74, 75, 76, 77, 78, 79, 80, 81, 82, 83, 84, 85, 86, 87, 88, 89, 90, 91, 92, 93, 94, 95, 96, 97, 98, 99, 100, 101, 102, 103, 104, 105, 106, 107, 108, 109, 110, 111] rfl rfl) (goodIn_sub iw_c_X4_readUnit_4_X9 gw_X9)) (goodIn_sub iw_c_X4_readUnit_4_X4 gw_X4)))
set_option maxHeartbeats 4000000 in
set_option maxRecDepth 100000 in
theorem c_X4_readUnit_4 (l : Launch) (dC : Nat → ClassId) (dI : Nat → Nat → Nat) (sz : Nat) (h0 : Nat) (h1 : Nat) (h1_0 : Nat) (h1_f1 : Int32) (h1_f2 : Int32) (h1_f3 : Int32) (h1_0k : ClassId) (h1_0c : Nat → Int32) (h0_0 : Nat) (h0_f1 : Int32) (h0_2 : Nat) (h0_0k : ClassId) (h0_0c : Nat → Int32) (ts4 : Nat) (tv4 : Nat) (g_h1_f1 : RG h1_f1 0 240) (g_h1_f2 : RG h1_f2 0 240) (g_h1_f3 : RG h1_f3 (-1) 240) (a_h1_0c : AI h1_0c 0 255) (g_h0_f1 : RG h0_f1 0 240) : Met l yX4_readUnit wf_c_X4_readUnit_4 ({ frames := 12, cells := 0, slots := 0, locals := 291 }) (va_Pc [.ref h0, .ref h1, .int 3, .int 0] (fun U => U.heap.size = sz ∧ va_P (dC, dI) vwCl (wd_c_X4_readUnit_4 h1 h1_0 h1_f1 h1_f2 h1_f3 h1_0 h1_0k h1_0c h0 h0_0 h0_f1 h0_2 h0_0 h0_0k h0_0c) U.heap ∧ va_K (dC, dI) vwCl [(h1_0k, .int), (h0_0k, .int)] U ∧ va_D (fun _ => True) (wd_c_X4_readUnit_4 h1 h1_0 h1_f1 h1_f2 h1_f3 h1_0 h1_0k h1_0c h0 h0_0 h0_f1 h0_2 h0_0 h0_0k h0_0c) ∧ vk_R RX4 91 "vlrdph" ts4 U ∧ va_Z "java/lang/String" "COMPACT_STRINGS" "Z" (.int 1) (va_A (wd_c_X4_readUnit_4 h1 h1_0 h1_f1 h1_f2 h1_f3 h1_0 h1_0k h1_0c h0 h0_0 h0_f1 h0_2 h0_0 h0_0k h0_0c) sz) U U.heap ∧ va_OF "java/lang/String" "coder" "B" (.int 0) ts4 (va_A (wd_c_X4_readUnit_4 h1 h1_0 h1_f1 h1_f2 h1_f3 h1_0 h1_0k h1_0c h0 h0_0 h0_f1 h0_2 h0_0 h0_0k h0_0c) sz) U U.heap ∧ va_O "java/lang/String" ts4 (va_A (wd_c_X4_readUnit_4 h1 h1_0 h1_f1 h1_f2 h1_f3 h1_0 h1_0k h1_0c h0 h0_0 h0_f1 h0_2 h0_0 h0_0k h0_0c) sz) U U.heap ∧ va_OF "java/lang/String" "value" "[B" (.ref tv4) ts4 (va_A (wd_c_X4_readUnit_4 h1 h1_0 h1_f1 h1_f2 h1_f3 h1_0 h1_0k h1_0c h0 h0_0 h0_f1 h0_2 h0_0 h0_0k h0_0c) sz) U U.heap ∧ va_T .byte tv4 6 (fun j => .int ([118, 108, 114, 100, 112, 104].getD j 0)) (va_A (wd_c_X4_readUnit_4 h1 h1_0 h1_f1 h1_f2 h1_f3 h1_0 h1_0k h1_0c h0 h0_0 h0_f1 h0_2 h0_0 h0_0k h0_0c) sz) U U.heap)) (va_Qv (fun (u : (Int32) × (Int32) × (Int32) × (Nat → Int32)) => (RG u.1 0 240 ∧ RG u.2.1 (-1) 240 ∧ RG u.2.2.1 0 240)) (fun (u : (Int32) × (Int32) × (Int32) × (Nat → Int32)) t => va_P (dC, dI) vwCl (wd_c_X4_readUnit_4 h1 h1_0 h1_f1 (u.1) (u.2.1) h1_0 h1_0k h1_0c h0 h0_0 (u.2.2.1) h0_2 h0_0 h0_0k (u.2.2.2)) t.heap ∧ va_K (dC, dI) vwCl [] t ∧ va_D (va_A (wd_c_X4_readUnit_4 h1 h1_0 h1_f1 h1_f2 h1_f3 h1_0 h1_0k h1_0c h0 h0_0 h0_f1 h0_2 h0_0 h0_0k h0_0c) sz) (wd_c_X4_readUnit_4 h1 h1_0 h1_f1 (u.1) (u.2.1) h1_0 h1_0k h1_0c h0 h0_0 (u.2.2.1) h0_2 h0_0 h0_0k (u.2.2.2))) (va_A (wd_c_X4_readUnit_4 h1 h1_0 h1_f1 h1_f2 h1_f3 h1_0 h1_0k h1_0c h0 h0_0 h0_f1 h0_2 h0_0 h0_0k h0_0c) sz)) 0 0 (va_A (wd_c_X4_readUnit_4 h1 h1_0 h1_f1 h1_f2 h1_f3 h1_0 h1_0k h1_0c h0 h0_0 h0_f1 h0_2 h0_0 h0_0k h0_0c) sz) := by
  refine Met.ofW (cc := cX4_readUnit) (maxL := 5) (ret := none) (by decide +kernel) rfl ?_
  intro p e s m args below meth c s₁ B hml hv
  obtain ⟨rfl, hsz, hP, hK, hD0, hE_32, hE_10, hE_34, hE_33, hE_35, hE_36⟩ := hv
  have hx := B.exec
  have hb := B.bytes
  have hr := B.returns
  have hts := atoms_spec (ws := wf_c_X4_readUnit_4) B.pre
  have hown : s.vm.findClass RX4 = some m.cls := findClass_of_methodNamed B.named
  have hlocks := B.notSynchronized
  subst hsz
  have hD := hD0.self (sz := s.heap.size)
  generalize hAe : va_A (wd_c_X4_readUnit_4 h1 h1_0 h1_f1 h1_f2 h1_f3 h1_0 h1_0k h1_0c h0 h0_0 h0_f1 h0_2 h0_0 h0_0k h0_0c) s.heap.size = A at hD hE_10 hE_34 hE_33 hE_35 hE_36 ⊢
  have hA : ∀ q : Nat, s.heap.size ≤ q → A q := fun q h => by rw [← hAe]; exact Or.inr h
  have hP : va_P (dC, dI) vwCl (wd_c_X4_readUnit_4 h1 h1_0 h1_f1 h1_f2 h1_f3 h1_0 h1_0k h1_0c h0 h0_0 h0_f1 h0_2 h0_0 h0_0k h0_0c) s.heap := hP
  have hl := lv_entry ([.ref h0, .ref h1, .int 3, .int 0]) (n := 5) (Nat.le_of_ble_eq_true rfl)
  rw [lg_entry_eq]
  generalize (lg_sl ([.ref h0, .ref h1, .int 3, .int 0]) ++ List.replicate (5 - (lg_sl ([.ref h0, .ref h1, .int 3, .int 0])).length) Slot.unset).toArray = ls at hl ⊢
  have hl : lv_has ls 5 [(0, .ref h0), (1, .ref h1), (2, .int 3), (3, .int 0)] := hl
  obtain ⟨H, hHe⟩ : ∃ H : Heap, s.heap = H := ⟨_, rfl⟩
  have hS : va_S A s.heap H [] := by rw [hHe]; exact va_S.rf
  have hP : va_P (dC, dI) vwCl (wd_c_X4_readUnit_4 h1 h1_0 h1_f1 h1_f2 h1_f3 h1_0 h1_0k h1_0c h0 h0_0 h0_f1 h0_2 h0_0 h0_0k h0_0c) H := by rw [← hHe]; exact hP
  rw [hHe]
  refine wj (fun G hG hU => ?_)
  as_aux_lemma =>
  have J62 : ∀ (j62_h1_f2 : Int32) (j62_h1_f3 : Int32) (j62_h0_f1 : Int32) (j62_h0_0c : Nat → Int32) (g_h0_f1 : RG h0_f1 0 240) (g_h1_f1 : RG h1_f1 0 240) (g_h1_f2 : RG h1_f2 0 240) (g_h1_f3 : RG h1_f3 (-1) 240) (g_j62_h0_f1 : RG j62_h0_f1 0 240) (g_j62_h1_f2 : RG j62_h1_f2 0 240) (g_j62_h1_f3 : RG j62_h1_f3 (-1) 240) (H : Heap) (locs : List Loc) (ls : Array Slot) (hP : va_P (dC, dI) vwCl (wd_c_X4_readUnit_4 h1 h1_0 h1_f1 j62_h1_f2 j62_h1_f3 h1_0 h1_0k h1_0c h0 h0_0 j62_h0_f1 h0_2 h0_0 h0_0k j62_h0_0c) H) (hD : va_D A (wd_c_X4_readUnit_4 h1 h1_0 h1_f1 j62_h1_f2 j62_h1_f3 h1_0 h1_0k h1_0c h0 h0_0 j62_h0_f1 h0_2 h0_0 h0_0k j62_h0_0c)) (hS : va_S A s.heap H locs) (hl : lv_has ls 5 []), G H locs (F0 m 62 ls []) := by
    as_aux_lemma =>
    intro j62_h1_f2 j62_h1_f3 j62_h0_f1 j62_h0_0c g_h0_f1 g_h1_f1 g_h1_f2 g_h1_f3 g_j62_h0_f1 g_j62_h1_f2 g_j62_h1_f3 H locs ls hP hD hS hl
    refine hG _ _ _ ?_
    refine lv_goto (tgt := 126) hx hb dX4_readUnit_62 rfl ?_
    have hK9 := hK.sub (tys' := []) [] rfl
    exact W.vret hx hb hr (fun t ht hW => ⟨⟨(j62_h1_f2, j62_h1_f3, j62_h0_f1, j62_h0_0c), rfl, ⟨g_j62_h1_f2, g_j62_h1_f3, g_j62_h0_f1⟩, by rw [ht]; exact hP, va_K.moved hW.alike hK9, hD⟩, hS.F ht⟩) hS.2.2 dX4_readUnit_126
  have J24 : ∀ (j24_h1_f2 : Int32) (j24_h1_f3 : Int32) (j24_h0_f1 : Int32) (j24_h0_0c : Nat → Int32) (g_h0_f1 : RG h0_f1 0 240) (g_h1_f1 : RG h1_f1 0 240) (g_h1_f2 : RG h1_f2 0 240) (g_h1_f3 : RG h1_f3 (-1) 240) (g_j24_h0_f1 : RG j24_h0_f1 0 240) (g_j24_h1_f2 : RG j24_h1_f2 0 240) (g_j24_h1_f3 : RG j24_h1_f3 (-1) 240) (H : Heap) (locs : List Loc) (ls : Array Slot) (hP : va_P (dC, dI) vwCl (wd_c_X4_readUnit_4 h1 h1_0 h1_f1 j24_h1_f2 j24_h1_f3 h1_0 h1_0k h1_0c h0 h0_0 j24_h0_f1 h0_2 h0_0 h0_0k j24_h0_0c) H) (hD : va_D A (wd_c_X4_readUnit_4 h1 h1_0 h1_f1 j24_h1_f2 j24_h1_f3 h1_0 h1_0k h1_0c h0 h0_0 j24_h0_f1 h0_2 h0_0 h0_0k j24_h0_0c)) (hS : va_S A s.heap H locs) (hl : lv_has ls 5 [(0, .ref h0), (1, .ref h1), (2, .int 3)]), G H locs (F0 m 24 ls []) := by
    as_aux_lemma =>
    intro j24_h1_f2 j24_h1_f3 j24_h0_f1 j24_h0_0c g_h0_f1 g_h1_f1 g_h1_f2 g_h1_f3 g_j24_h0_f1 g_j24_h1_f2 g_j24_h1_f3 H locs ls hP hD hS hl
    refine hG _ _ _ ?_
    refine lv_aload_n hx hb dX4_readUnit_24 rfl (lv_at hl 1 rfl) ?_
    obtain ⟨hPc, hDc, hFc, hqc⟩ := cl_cut (wc := (wd_c_X9_peek h1 h1_0 h1_f1 j24_h1_f2 j24_h1_f3 h1_0 h1_0k h1_0c)) hP hD hS hA [0, 1] (by decide +kernel) rfl
    have hKc := hK.sub (tys' := [(h1_0k, .int)]) [0] rfl
    have hrv := va_recv hKc hPc (ci := 9) (q0 := 0) rfl rfl
    refine va_calli (va_runV (As := []) (rest := []) ⟨hx, hb, hml, hown, hts⟩ (c_X9_peek l dC dI H.size h1 h1_0 h1_f1 j24_h1_f2 j24_h1_f3 h1_0k h1_0c g_h1_f1 g_j24_h1_f2 g_j24_h1_f3 a_h1_0c) (cwV 0 hts gf_c_X4_readUnit_4_c_X9_peek rfl rfl rfl mdV_X9_peek ⟨Nat.le_of_ble_eq_true rfl, Nat.le_of_ble_eq_true rfl⟩) ⟨fun a U g mk q => by obtain ⟨q0, q1, qP, qK, qD⟩ := q; exact ⟨q0, q1, qP, va_K.moved (u := U) (U := U.calling g mk a) (Vm.Alike.refl U.vm) qK, qD⟩, hrv, fun U hU hW => ⟨rfl, by rw [hU], by rw [hU]; exact hPc, va_K.moved hW.alike hKc, hDc.weaken (fun _ _ _ _ => trivial)⟩⟩ rfl rfl hl.1 rfl (lv_room (Nat.le_of_ble_eq_true rfl)) dX4_readUnit_25 ⟨Nat.le_of_ble_eq_true rfl, Nat.le_of_ble_eq_true rfl⟩) hS (fun q _ h => hFc q h) hFc (fun r_1 x_2 t H1 locs ht hvm hw hB hz1 hk1 hS => ?_)
    obtain ⟨hP1, hK1, hD1⟩ := hB
    rw [ht] at hP1
    obtain ⟨hP, hD⟩ := cl_put (w1 := (wd_c_X9_peek h1 h1_0 h1_f1 x_2 j24_h1_f3 h1_0 h1_0k h1_0c)) (nw := (wd_c_X4_readUnit_4 h1 h1_0 h1_f1 x_2 j24_h1_f3 h1_0 h1_0k h1_0c h0 h0_0 j24_h0_f1 h0_2 h0_0 h0_0k j24_h0_0c)) hP hD [0, 1] [4, 5, 2, 3] 4 rfl hqc (by decide +kernel) rfl hk1 hFc hP1 hD1
    generalize H1 = H at hP hS ⊢
    as_aux_lemma =>
    rcases hw with ⟨h_3, h_4, h_5⟩ | ⟨h_6, h_7, h_8, h_9⟩
    · rw [h_3]
      refine lv_istore (lv' := [(4, .int (-1)), (0, .ref h0), (1, .ref h1), (2, .int 3)]) hx hb dX4_readUnit_28 hl (Nat.le_of_ble_eq_true rfl) rfl (fun ls hl => ?_)
      refine lv_iload hx hb dX4_readUnit_30 (lv_at hl 0 rfl) ?_
      obtain ⟨hPc, hDc, hFc, hqc⟩ := cl_cut (wc := []) hP hD hS hA [] (by decide +kernel) rfl
      have hKc := hK.sub (tys' := []) [] rfl
      refine va_calli (va_runS (As := [.int (-1)]) (rest := []) ⟨hx, hb, hml, hown, hts⟩ (c_X4_isComparison l dC dI H.size (-1) (RG_k (-1) (-1) rfl)) (va_cwS 1 hts gf_c_X4_readUnit_4_c_X4_isComparison rfl rfl rfl md_X4_isComparison ⟨Nat.le_of_ble_eq_true rfl, Nat.le_of_ble_eq_true rfl⟩) ⟨fun a U g mk q => by obtain ⟨q0, q1, qP, qK, qD⟩ := q; exact ⟨q0, q1, qP, va_K.moved (u := U) (U := U.calling g mk a) (Vm.Alike.refl U.vm) qK, qD⟩, fun U hU hW => ⟨rfl, by rw [hU], by rw [hU]; exact hPc, va_K.moved hW.alike hKc, hDc.weaken (fun _ _ _ _ => trivial)⟩⟩ rfl rfl hl.1 rfl (lv_room (Nat.le_of_ble_eq_true rfl)) dX4_readUnit_32 ⟨Nat.le_of_ble_eq_true rfl, Nat.le_of_ble_eq_true rfl⟩) hS (fun q _ h => hFc q h) hFc (fun r_10 u t H1 locs ht hvm hw hB hz1 hk1 hS => ?_)
      obtain ⟨hP1, hK1, hD1⟩ := hB
      rw [ht] at hP1
      have hP := bv_still hP hk1
      generalize H1 = H at hP hS ⊢
      as_aux_lemma =>
      have h_11 := hw
      rw [h_11]
      refine lv_if_eq (tgt := 58) hx hb dX4_readUnit_35 rfl (fun c_12 => ?_) (fun c_12 => absurd c_12 (by decide +kernel))
      refine lv_aload_n hx hb dX4_readUnit_58 rfl (lv_at hl 2 rfl) ?_
      obtain ⟨hPc, hDc, hFc, hqc⟩ := cl_cut (wc := (wd_c_X9_refuseHere h1 h1_0 h1_f1 x_2 j24_h1_f3)) hP hD hS hA [0] (by decide +kernel) rfl
      have hKc := hK.sub (tys' := []) [] rfl
      have hrv := va_recv hKc hPc (ci := 9) (q0 := 0) rfl rfl
      refine va_callv (va_runV (As := []) (rest := []) ⟨hx, hb, hml, hown, hts⟩ (c_X9_refuseHere l dC dI H.size h1 h1_0 h1_f1 x_2 j24_h1_f3 g_h1_f1 h_4 g_j24_h1_f3) (cwV 0 hts gf_c_X4_readUnit_4_c_X9_refuseHere rfl rfl rfl mdV_X9_refuseHere ⟨Nat.le_of_ble_eq_true rfl, Nat.le_of_ble_eq_true rfl⟩) ⟨fun a U g mk q => by obtain ⟨q0, q1, qP, qK, qD⟩ := q; exact ⟨q0, q1, qP, va_K.moved (u := U) (U := U.calling g mk a) (Vm.Alike.refl U.vm) qK, qD⟩, hrv, fun U hU hW => ⟨rfl, by rw [hU], by rw [hU]; exact hPc, va_K.moved hW.alike hKc, hDc.weaken (fun _ _ _ _ => trivial)⟩⟩ rfl rfl hl.1 rfl (lv_room (Nat.le_of_ble_eq_true rfl)) dX4_readUnit_59 ⟨Nat.le_of_ble_eq_true rfl, Nat.le_of_ble_eq_true rfl⟩) hS (fun q _ h => hFc q h) hFc (fun x_14 t H1 locs ht hvm hw hB hz1 hk1 hS => ?_)
      obtain ⟨hP1, hK1, hD1⟩ := hB
      rw [ht] at hP1
      obtain ⟨hP, hD⟩ := cl_put (w1 := (wd_c_X9_refuseHere h1 h1_0 h1_f1 x_2 x_14)) (nw := (wd_c_X4_readUnit_4 h1 h1_0 h1_f1 x_2 x_14 h1_0 h1_0k h1_0c h0 h0_0 j24_h0_f1 h0_2 h0_0 h0_0k j24_h0_0c)) hP hD [0] [4, 1, 2, 3] 4 rfl hqc (by decide +kernel) rfl hk1 hFc hP1 hD1
      generalize H1 = H at hP hS ⊢
      as_aux_lemma =>
      have h_15 := hw
      exact hU _ _ _ (J62 x_2 x_14 j24_h0_f1 j24_h0_0c g_h0_f1 g_h1_f1 g_h1_f2 g_h1_f3 g_j24_h0_f1 h_4 (RG_w h_15 (by decide +kernel)) _ _ _ hP hD hS (lv_sub hl [] rfl))
    · refine lv_istore (lv' := [(4, .int r_1), (0, .ref h0), (1, .ref h1), (2, .int 3)]) hx hb dX4_readUnit_28 hl (Nat.le_of_ble_eq_true rfl) rfl (fun ls hl => ?_)
      refine lv_iload hx hb dX4_readUnit_30 (lv_at hl 0 rfl) ?_
      obtain ⟨hPc, hDc, hFc, hqc⟩ := cl_cut (wc := []) hP hD hS hA [] (by decide +kernel) rfl
      have hKc := hK.sub (tys' := []) [] rfl
      refine va_calli (va_runS (As := [.int r_1]) (rest := []) ⟨hx, hb, hml, hown, hts⟩ (c_X4_isComparison_1 l dC dI H.size r_1 h_6) (va_cwS 1 hts gf_c_X4_readUnit_4_c_X4_isComparison_1 rfl rfl rfl md_X4_isComparison ⟨Nat.le_of_ble_eq_true rfl, Nat.le_of_ble_eq_true rfl⟩) ⟨fun a U g mk q => by obtain ⟨q0, q1, qP, qK, qD⟩ := q; exact ⟨q0, q1, qP, va_K.moved (u := U) (U := U.calling g mk a) (Vm.Alike.refl U.vm) qK, qD⟩, fun U hU hW => ⟨rfl, by rw [hU], by rw [hU]; exact hPc, va_K.moved hW.alike hKc, hDc.weaken (fun _ _ _ _ => trivial)⟩⟩ rfl rfl hl.1 rfl (lv_room (Nat.le_of_ble_eq_true rfl)) dX4_readUnit_32 ⟨Nat.le_of_ble_eq_true rfl, Nat.le_of_ble_eq_true rfl⟩) hS (fun q _ h => hFc q h) hFc (fun r_16 u t H1 locs ht hvm hw hB hz1 hk1 hS => ?_)
      obtain ⟨hP1, hK1, hD1⟩ := hB
      rw [ht] at hP1
      have hP := bv_still hP hk1
      generalize H1 = H at hP hS ⊢
      as_aux_lemma =>
      rcases hw with h_17 | ⟨h_18, h_19⟩
      · rw [h_17]
        refine lv_if_eq (tgt := 58) hx hb dX4_readUnit_35 rfl (fun c_20 => ?_) (fun c_20 => absurd c_20 (by decide +kernel))
        refine lv_aload_n hx hb dX4_readUnit_58 rfl (lv_at hl 2 rfl) ?_
        obtain ⟨hPc, hDc, hFc, hqc⟩ := cl_cut (wc := (wd_c_X9_refuseHere h1 h1_0 h1_f1 x_2 j24_h1_f3)) hP hD hS hA [0] (by decide +kernel) rfl
        have hKc := hK.sub (tys' := []) [] rfl
        have hrv := va_recv hKc hPc (ci := 9) (q0 := 0) rfl rfl
        refine va_callv (va_runV (As := []) (rest := []) ⟨hx, hb, hml, hown, hts⟩ (c_X9_refuseHere l dC dI H.size h1 h1_0 h1_f1 x_2 j24_h1_f3 (RG_w h_8 (by decide +kernel)) (RG_w h_7 (by decide +kernel)) g_j24_h1_f3) (cwV 0 hts gf_c_X4_readUnit_4_c_X9_refuseHere rfl rfl rfl mdV_X9_refuseHere ⟨Nat.le_of_ble_eq_true rfl, Nat.le_of_ble_eq_true rfl⟩) ⟨fun a U g mk q => by obtain ⟨q0, q1, qP, qK, qD⟩ := q; exact ⟨q0, q1, qP, va_K.moved (u := U) (U := U.calling g mk a) (Vm.Alike.refl U.vm) qK, qD⟩, hrv, fun U hU hW => ⟨rfl, by rw [hU], by rw [hU]; exact hPc, va_K.moved hW.alike hKc, hDc.weaken (fun _ _ _ _ => trivial)⟩⟩ rfl rfl hl.1 rfl (lv_room (Nat.le_of_ble_eq_true rfl)) dX4_readUnit_59 ⟨Nat.le_of_ble_eq_true rfl, Nat.le_of_ble_eq_true rfl⟩) hS (fun q _ h => hFc q h) hFc (fun x_22 t H1 locs ht hvm hw hB hz1 hk1 hS => ?_)
        obtain ⟨hP1, hK1, hD1⟩ := hB
        rw [ht] at hP1
        obtain ⟨hP, hD⟩ := cl_put (w1 := (wd_c_X9_refuseHere h1 h1_0 h1_f1 x_2 x_22)) (nw := (wd_c_X4_readUnit_4 h1 h1_0 h1_f1 x_2 x_22 h1_0 h1_0k h1_0c h0 h0_0 j24_h0_f1 h0_2 h0_0 h0_0k j24_h0_0c)) hP hD [0] [4, 1, 2, 3] 4 rfl hqc (by decide +kernel) rfl hk1 hFc hP1 hD1
        generalize H1 = H at hP hS ⊢
        as_aux_lemma =>
        have h_23 := hw
        exact hU _ _ _ (J62 x_2 x_22 j24_h0_f1 j24_h0_0c g_h0_f1 (RG_w h_8 (by decide +kernel)) g_h1_f2 g_h1_f3 g_j24_h0_f1 (RG_w h_7 (by decide +kernel)) (RG_w h_23 (by decide +kernel)) _ _ _ hP hD hS (lv_sub hl [] rfl))
      · rw [h_18]
        refine lv_if_eq (tgt := 58) hx hb dX4_readUnit_35 rfl (fun c_24 => absurd c_24 (by decide +kernel)) (fun c_24 => ?_)
        refine lv_aload_n hx hb dX4_readUnit_38 rfl (lv_at hl 2 rfl) ?_
        obtain ⟨hPc, hDc, hFc, hqc⟩ := cl_cut (wc := (wd_c_X9_skip h1 h1_0 h1_f1 x_2 j24_h1_f3)) hP hD hS hA [0] (by decide +kernel) rfl
        have hKc := hK.sub (tys' := []) [] rfl
        have hrv := va_recv hKc hPc (ci := 9) (q0 := 0) rfl rfl
        refine va_callv (va_runV (As := []) (rest := []) ⟨hx, hb, hml, hown, hts⟩ (c_X9_skip l dC dI H.size h1 h1_0 h1_f1 x_2 j24_h1_f3 (RG_w h_8 (by decide +kernel)) h_7 g_j24_h1_f3) (cwV 0 hts gf_c_X4_readUnit_4_c_X9_skip rfl rfl rfl mdV_X9_skip ⟨Nat.le_of_ble_eq_true rfl, Nat.le_of_ble_eq_true rfl⟩) ⟨fun a U g mk q => by obtain ⟨q0, q1, qP, qK, qD⟩ := q; exact ⟨q0, q1, qP, va_K.moved (u := U) (U := U.calling g mk a) (Vm.Alike.refl U.vm) qK, qD⟩, hrv, fun U hU hW => ⟨rfl, by rw [hU], by rw [hU]; exact hPc, va_K.moved hW.alike hKc, hDc.weaken (fun _ _ _ _ => trivial)⟩⟩ rfl rfl hl.1 rfl (lv_room (Nat.le_of_ble_eq_true rfl)) dX4_readUnit_39 ⟨Nat.le_of_ble_eq_true rfl, Nat.le_of_ble_eq_true rfl⟩) hS (fun q _ h => hFc q h) hFc (fun x_26 t H1 locs ht hvm hw hB hz1 hk1 hS => ?_)
        obtain ⟨hP1, hK1, hD1⟩ := hB
        rw [ht] at hP1
        obtain ⟨hP, hD⟩ := cl_put (w1 := (wd_c_X9_skip h1 h1_0 h1_f1 x_26 j24_h1_f3)) (nw := (wd_c_X4_readUnit_4 h1 h1_0 h1_f1 x_26 j24_h1_f3 h1_0 h1_0k h1_0c h0 h0_0 j24_h0_f1 h0_2 h0_0 h0_0k j24_h0_0c)) hP hD [0] [4, 1, 2, 3] 4 rfl hqc (by decide +kernel) rfl hk1 hFc hP1 hD1
        generalize H1 = H at hP hS ⊢
        as_aux_lemma =>
        rcases hw with ⟨h_27, h_28, h_29⟩
        refine lv_aload_n hx hb dX4_readUnit_42 rfl (lv_at hl 1 rfl) ?_
        refine lv_aload_n hx hb dX4_readUnit_43 rfl (lv_at hl 2 rfl) ?_
        refine lv_iload_n hx hb dX4_readUnit_44 rfl (lv_at hl 3 rfl) ?_
        obtain ⟨hPc, hDc, hFc, hqc⟩ := cl_cut (wc := (wd_c_X4_readSum_3 h1 h1_0 h1_f1 x_26 j24_h1_f3 h1_0 h1_0k h1_0c h0 h0_0 j24_h0_f1 h0_2 h0_0 h0_0k j24_h0_0c)) hP hD hS hA [0, 1, 2, 3] (by decide +kernel) rfl
        have hKc := hK.sub (tys' := [(h1_0k, .int), (h0_0k, .int)]) [0, 1] rfl
        have hrv := va_recv hKc hPc (ci := 4) (q0 := 2) rfl rfl
        refine va_callv (va_runV (As := [.ref h1, .int 3]) (rest := []) ⟨hx, hb, hml, hown, hts⟩ (c_X4_readSum_3 l dC dI H.size h0 h1 h1_0 h1_f1 x_26 j24_h1_f3 h1_0k h1_0c h0_0 j24_h0_f1 h0_2 h0_0k j24_h0_0c ts4 tv4 (RG_w h_8 (by decide +kernel)) (RG_w h_27 (by decide +kernel)) g_j24_h1_f3 a_h1_0c g_j24_h0_f1) (cwV 2 hts gf_c_X4_readUnit_4_c_X4_readSum_3 rfl rfl rfl mdV_X4_readSum ⟨Nat.le_of_ble_eq_true rfl, Nat.le_of_ble_eq_true rfl⟩) ⟨fun a U g mk q => by obtain ⟨q0, q1, qP, qK, qD, qE0, qE1, qE2, qE3, qE4, qE5⟩ := q; exact ⟨q0, q1, qP, va_K.moved (u := U) (U := U.calling g mk a) (Vm.Alike.refl U.vm) qK, qD, vk_R.same rfl qE0, va_Z.moved (u := U) (U := U.calling g mk a) (Vm.Alike.refl U.vm) qE1, va_OF.moved (u := U) (U := U.calling g mk a) (Vm.Alike.refl U.vm) qE2, va_O.moved (u := U) (U := U.calling g mk a) (Vm.Alike.refl U.vm) qE3, va_OF.moved (u := U) (U := U.calling g mk a) (Vm.Alike.refl U.vm) qE4, va_T.moved (u := U) (U := U.calling g mk a) (Vm.Alike.refl U.vm) qE5⟩, hrv, fun U hU hW => ⟨rfl, by rw [hU], by rw [hU]; exact hPc, va_K.moved hW.alike hKc, hDc.weaken (fun _ _ _ _ => trivial), vk_R.warm hW hE_32, va_Z.moved hW.alike (by rw [hU]; exact (hE_10.kept hS.2.1).narrow hFc), va_OF.moved hW.alike (by rw [hU]; exact (hE_34.kept hS.2.1).narrow hFc), va_O.moved hW.alike (by rw [hU]; exact (hE_33.kept hS.2.1).narrow hFc), va_OF.moved hW.alike (by rw [hU]; exact (hE_35.kept hS.2.1).narrow hFc), va_T.moved hW.alike (by rw [hU]; exact (hE_36.kept hS.2.1).narrow hFc)⟩⟩ rfl rfl hl.1 rfl (lv_room (Nat.le_of_ble_eq_true rfl)) dX4_readUnit_45 ⟨Nat.le_of_ble_eq_true rfl, Nat.le_of_ble_eq_true rfl⟩) hS (fun q _ h => hFc q h) hFc (fun u t H1 locs ht hvm hw hB hz1 hk1 hS => ?_)
        obtain ⟨x_31, x_32, x_33, w_34⟩ := u
        obtain ⟨hP1, hK1, hD1⟩ := hB
        rw [ht] at hP1
        obtain ⟨hP, hD⟩ := cl_put (w1 := (wd_c_X4_readSum_3 h1 h1_0 h1_f1 x_31 x_32 h1_0 h1_0k h1_0c h0 h0_0 x_33 h0_2 h0_0 h0_0k w_34)) (nw := (wd_c_X4_readUnit_4 h1 h1_0 h1_f1 x_31 x_32 h1_0 h1_0k h1_0c h0 h0_0 x_33 h0_2 h0_0 h0_0k w_34)) hP hD [0, 1, 2, 3] [4, 5, 6, 7] 4 rfl hqc (by decide +kernel) rfl hk1 hFc hP1 hD1
        generalize H1 = H at hP hS ⊢
        as_aux_lemma =>
        rcases hw with ⟨h_35, h_36, h_37⟩
        refine lv_aload_n hx hb dX4_readUnit_48 rfl (lv_at hl 1 rfl) ?_
        refine lv_iload hx hb dX4_readUnit_49 (lv_at hl 0 rfl) ?_
        refine lv_ineg hx hb dX4_readUnit_51 ?_
        refine lv_topi (fun x_38 ex_38 => ?_)
        have g_39 : RG x_38 (-62) (-60) := RG_neg ex_38 h_19 (by decide +kernel)
        obtain ⟨hPc, hDc, hFc, hqc⟩ := cl_cut (wc := (wd_c_X4_emit h0 h0_0 x_33 h0_2 h0_0 h0_0k w_34)) hP hD hS hA [2, 3] (by decide +kernel) rfl
        have hKc := hK.sub (tys' := [(h0_0k, .int)]) [1] rfl
        have hrv := va_recv hKc hPc (ci := 4) (q0 := 0) rfl rfl
        refine va_callv (va_runV (As := [.int x_38]) (rest := []) ⟨hx, hb, hml, hown, hts⟩ (c_X4_emit l dC dI H.size h0 x_38 h0_0 x_33 h0_2 h0_0k w_34 h_37) (cwV 1 hts gf_c_X4_readUnit_4_c_X4_emit rfl rfl rfl mdV_X4_emit ⟨Nat.le_of_ble_eq_true rfl, Nat.le_of_ble_eq_true rfl⟩) ⟨fun a U g mk q => by obtain ⟨q0, q1, qP, qK, qD⟩ := q; exact ⟨q0, q1, qP, va_K.moved (u := U) (U := U.calling g mk a) (Vm.Alike.refl U.vm) qK, qD⟩, hrv, fun U hU hW => ⟨rfl, by rw [hU], by rw [hU]; exact hPc, va_K.moved hW.alike hKc, hDc.weaken (fun _ _ _ _ => trivial)⟩⟩ rfl rfl hl.1 rfl (lv_room (Nat.le_of_ble_eq_true rfl)) dX4_readUnit_52 ⟨Nat.le_of_ble_eq_true rfl, Nat.le_of_ble_eq_true rfl⟩) hS (fun q _ h => hFc q h) hFc (fun u t H1 locs ht hvm hw hB hz1 hk1 hS => ?_)
        obtain ⟨x_41, w_42⟩ := u
        obtain ⟨hP1, hK1, hD1⟩ := hB
        rw [ht] at hP1
        obtain ⟨hP, hD⟩ := cl_put (w1 := (wd_c_X4_emit h0 h0_0 x_41 h0_2 h0_0 h0_0k w_42)) (nw := (wd_c_X4_readUnit_4 h1 h1_0 h1_f1 x_31 x_32 h1_0 h1_0k h1_0c h0 h0_0 x_41 h0_2 h0_0 h0_0k w_42)) hP hD [2, 3] [0, 1, 4, 5] 4 rfl hqc (by decide +kernel) rfl hk1 hFc hP1 hD1
        generalize H1 = H at hP hS ⊢
        as_aux_lemma =>
        have h_43 := hw
        refine lv_goto (tgt := 62) hx hb dX4_readUnit_55 rfl ?_
        exact hU _ _ _ (J62 x_31 x_32 x_41 w_42 g_h0_f1 (RG_w h_8 (by decide +kernel)) g_h1_f2 g_h1_f3 (RG_w h_43 (by decide +kernel)) h_35 h_36 _ _ _ hP hD hS (lv_sub hl [] rfl))
  have J14 : ∀ (j14_h1_f2 : Int32) (g_h0_f1 : RG h0_f1 0 240) (g_h1_f1 : RG h1_f1 0 240) (g_h1_f2 : RG h1_f2 0 240) (g_h1_f3 : RG h1_f3 (-1) 240) (g_j14_h1_f2 : RG j14_h1_f2 0 240) (H : Heap) (locs : List Loc) (ls : Array Slot) (hP : va_P (dC, dI) vwCl (wd_c_X4_readUnit_4 h1 h1_0 h1_f1 j14_h1_f2 h1_f3 h1_0 h1_0k h1_0c h0 h0_0 h0_f1 h0_2 h0_0 h0_0k h0_0c) H) (hD : va_D A (wd_c_X4_readUnit_4 h1 h1_0 h1_f1 j14_h1_f2 h1_f3 h1_0 h1_0k h1_0c h0 h0_0 h0_f1 h0_2 h0_0 h0_0k h0_0c)) (hS : va_S A s.heap H locs) (hl : lv_has ls 5 [(0, .ref h0), (1, .ref h1), (2, .int 3), (3, .int 0)]), G H locs (F0 m 14 ls []) := by
    as_aux_lemma =>
    intro j14_h1_f2 g_h0_f1 g_h1_f1 g_h1_f2 g_h1_f3 g_j14_h1_f2 H locs ls hP hD hS hl
    refine hG _ _ _ ?_
    refine lv_iload_n hx hb dX4_readUnit_14 rfl (lv_at hl 3 rfl) ?_
    refine lv_if_ne (tgt := 24) hx hb dX4_readUnit_15 rfl (fun c_44 => absurd c_44 (by decide +kernel)) (fun c_44 => ?_)
    refine lv_aload_n hx hb dX4_readUnit_18 rfl (lv_at hl 0 rfl) ?_
    refine lv_aload_n hx hb dX4_readUnit_19 rfl (lv_at hl 1 rfl) ?_
    refine lv_iload_n hx hb dX4_readUnit_20 rfl (lv_at hl 2 rfl) ?_
    obtain ⟨hPc, hDc, hFc, hqc⟩ := cl_cut (wc := (wd_c_X4_readSum_3 h1 h1_0 h1_f1 j14_h1_f2 h1_f3 h1_0 h1_0k h1_0c h0 h0_0 h0_f1 h0_2 h0_0 h0_0k h0_0c)) hP hD hS hA [0, 1, 2, 3] (by decide +kernel) rfl
    have hKc := hK.sub (tys' := [(h1_0k, .int), (h0_0k, .int)]) [0, 1] rfl
    have hrv := va_recv hKc hPc (ci := 4) (q0 := 2) rfl rfl
    refine va_callv (va_runV (As := [.ref h1, .int 3]) (rest := []) ⟨hx, hb, hml, hown, hts⟩ (c_X4_readSum_3 l dC dI H.size h0 h1 h1_0 h1_f1 j14_h1_f2 h1_f3 h1_0k h1_0c h0_0 h0_f1 h0_2 h0_0k h0_0c ts4 tv4 g_h1_f1 g_j14_h1_f2 g_h1_f3 a_h1_0c g_h0_f1) (cwV 2 hts gf_c_X4_readUnit_4_c_X4_readSum_3 rfl rfl rfl mdV_X4_readSum ⟨Nat.le_of_ble_eq_true rfl, Nat.le_of_ble_eq_true rfl⟩) ⟨fun a U g mk q => by obtain ⟨q0, q1, qP, qK, qD, qE0, qE1, qE2, qE3, qE4, qE5⟩ := q; exact ⟨q0, q1, qP, va_K.moved (u := U) (U := U.calling g mk a) (Vm.Alike.refl U.vm) qK, qD, vk_R.same rfl qE0, va_Z.moved (u := U) (U := U.calling g mk a) (Vm.Alike.refl U.vm) qE1, va_OF.moved (u := U) (U := U.calling g mk a) (Vm.Alike.refl U.vm) qE2, va_O.moved (u := U) (U := U.calling g mk a) (Vm.Alike.refl U.vm) qE3, va_OF.moved (u := U) (U := U.calling g mk a) (Vm.Alike.refl U.vm) qE4, va_T.moved (u := U) (U := U.calling g mk a) (Vm.Alike.refl U.vm) qE5⟩, hrv, fun U hU hW => ⟨rfl, by rw [hU], by rw [hU]; exact hPc, va_K.moved hW.alike hKc, hDc.weaken (fun _ _ _ _ => trivial), vk_R.warm hW hE_32, va_Z.moved hW.alike (by rw [hU]; exact (hE_10.kept hS.2.1).narrow hFc), va_OF.moved hW.alike (by rw [hU]; exact (hE_34.kept hS.2.1).narrow hFc), va_O.moved hW.alike (by rw [hU]; exact (hE_33.kept hS.2.1).narrow hFc), va_OF.moved hW.alike (by rw [hU]; exact (hE_35.kept hS.2.1).narrow hFc), va_T.moved hW.alike (by rw [hU]; exact (hE_36.kept hS.2.1).narrow hFc)⟩⟩ rfl rfl hl.1 rfl (lv_room (Nat.le_of_ble_eq_true rfl)) dX4_readUnit_21 ⟨Nat.le_of_ble_eq_true rfl, Nat.le_of_ble_eq_true rfl⟩) hS (fun q _ h => hFc q h) hFc (fun u t H1 locs ht hvm hw hB hz1 hk1 hS => ?_)
    obtain ⟨x_46, x_47, x_48, w_49⟩ := u
    obtain ⟨hP1, hK1, hD1⟩ := hB
    rw [ht] at hP1
    obtain ⟨hP, hD⟩ := cl_put (w1 := (wd_c_X4_readSum_3 h1 h1_0 h1_f1 x_46 x_47 h1_0 h1_0k h1_0c h0 h0_0 x_48 h0_2 h0_0 h0_0k w_49)) (nw := (wd_c_X4_readUnit_4 h1 h1_0 h1_f1 x_46 x_47 h1_0 h1_0k h1_0c h0 h0_0 x_48 h0_2 h0_0 h0_0k w_49)) hP hD [0, 1, 2, 3] [4, 5, 6, 7] 4 rfl hqc (by decide +kernel) rfl hk1 hFc hP1 hD1
    generalize H1 = H at hP hS ⊢
    as_aux_lemma =>
    rcases hw with ⟨h_50, h_51, h_52⟩
    exact hU _ _ _ (J24 x_46 x_47 x_48 w_49 g_h0_f1 g_h1_f1 g_h1_f2 g_h1_f3 h_52 h_50 h_51 _ _ _ hP hD hS (lv_sub hl [0, 1, 2] rfl))
  refine hG _ _ _ ?_
  refine lv_iload_n hx hb dX4_readUnit_0 rfl (lv_at hl 3 rfl) ?_
  refine lv_if_ne (tgt := 14) hx hb dX4_readUnit_1 rfl (fun c_53 => absurd c_53 (by decide +kernel)) (fun c_53 => ?_)
  refine lv_aload_n hx hb dX4_readUnit_4 rfl (lv_at hl 1 rfl) ?_
  obtain ⟨hPc, hDc, hFc, hqc⟩ := cl_cut (wc := (wd_c_X9_peek h1 h1_0 h1_f1 h1_f2 h1_f3 h1_0 h1_0k h1_0c)) hP hD hS hA [0, 1] (by decide +kernel) rfl
  have hKc := hK.sub (tys' := [(h1_0k, .int)]) [0] rfl
  have hrv := va_recv hKc hPc (ci := 9) (q0 := 0) rfl rfl
  refine va_calli (va_runV (As := []) (rest := []) ⟨hx, hb, hml, hown, hts⟩ (c_X9_peek l dC dI H.size h1 h1_0 h1_f1 h1_f2 h1_f3 h1_0k h1_0c g_h1_f1 g_h1_f2 g_h1_f3 a_h1_0c) (cwV 0 hts gf_c_X4_readUnit_4_c_X9_peek rfl rfl rfl mdV_X9_peek ⟨Nat.le_of_ble_eq_true rfl, Nat.le_of_ble_eq_true rfl⟩) ⟨fun a U g mk q => by obtain ⟨q0, q1, qP, qK, qD⟩ := q; exact ⟨q0, q1, qP, va_K.moved (u := U) (U := U.calling g mk a) (Vm.Alike.refl U.vm) qK, qD⟩, hrv, fun U hU hW => ⟨rfl, by rw [hU], by rw [hU]; exact hPc, va_K.moved hW.alike hKc, hDc.weaken (fun _ _ _ _ => trivial)⟩⟩ rfl rfl hl.1 rfl (lv_room (Nat.le_of_ble_eq_true rfl)) dX4_readUnit_5 ⟨Nat.le_of_ble_eq_true rfl, Nat.le_of_ble_eq_true rfl⟩) hS (fun q _ h => hFc q h) hFc (fun r_54 x_55 t H1 locs ht hvm hw hB hz1 hk1 hS => ?_)
  obtain ⟨hP1, hK1, hD1⟩ := hB
  rw [ht] at hP1
  obtain ⟨hP, hD⟩ := cl_put (w1 := (wd_c_X9_peek h1 h1_0 h1_f1 x_55 h1_f3 h1_0 h1_0k h1_0c)) (nw := (wd_c_X4_readUnit_4 h1 h1_0 h1_f1 x_55 h1_f3 h1_0 h1_0k h1_0c h0 h0_0 h0_f1 h0_2 h0_0 h0_0k h0_0c)) hP hD [0, 1] [4, 5, 2, 3] 4 rfl hqc (by decide +kernel) rfl hk1 hFc hP1 hD1
  generalize H1 = H at hP hS ⊢
  as_aux_lemma =>
  rcases hw with ⟨h_56, h_57, h_58⟩ | ⟨h_59, h_60, h_61, h_62⟩
  · rw [h_56]
    obtain ⟨hPc, hDc, hFc, hqc⟩ := cl_cut (wc := []) hP hD hS hA [] (by decide +kernel) rfl
    have hKc := hK.sub (tys' := []) [] rfl
    refine va_calli (va_runS (As := [.int (-1)]) (rest := []) ⟨hx, hb, hml, hown, hts⟩ (c_X4_startsUnit l dC dI H.size (-1) (RG_k (-1) (-1) rfl)) (va_cwS 1 hts gf_c_X4_readUnit_4_c_X4_startsUnit rfl rfl rfl md_X4_startsUnit ⟨Nat.le_of_ble_eq_true rfl, Nat.le_of_ble_eq_true rfl⟩) ⟨fun a U g mk q => by obtain ⟨q0, q1, qP, qK, qD⟩ := q; exact ⟨q0, q1, qP, va_K.moved (u := U) (U := U.calling g mk a) (Vm.Alike.refl U.vm) qK, qD⟩, fun U hU hW => ⟨rfl, by rw [hU], by rw [hU]; exact hPc, va_K.moved hW.alike hKc, hDc.weaken (fun _ _ _ _ => trivial)⟩⟩ rfl rfl hl.1 rfl (lv_room (Nat.le_of_ble_eq_true rfl)) dX4_readUnit_8 ⟨Nat.le_of_ble_eq_true rfl, Nat.le_of_ble_eq_true rfl⟩) hS (fun q _ h => hFc q h) hFc (fun r_63 u t H1 locs ht hvm hw hB hz1 hk1 hS => ?_)
    obtain ⟨hP1, hK1, hD1⟩ := hB
    rw [ht] at hP1
    have hP := bv_still hP hk1
    generalize H1 = H at hP hS ⊢
    as_aux_lemma =>
    have h_64 := hw
    rw [h_64]
    refine lv_if_ne (tgt := 65) hx hb dX4_readUnit_11 rfl (fun c_65 => absurd c_65 (by decide +kernel)) (fun c_65 => ?_)
    exact hU _ _ _ (J14 x_55 g_h0_f1 g_h1_f1 g_h1_f2 g_h1_f3 h_57 _ _ _ hP hD hS (lv_sub hl [0, 1, 2, 3] rfl))
  · obtain ⟨hPc, hDc, hFc, hqc⟩ := cl_cut (wc := []) hP hD hS hA [] (by decide +kernel) rfl
    have hKc := hK.sub (tys' := []) [] rfl
    refine va_calli (va_runS (As := [.int r_54]) (rest := []) ⟨hx, hb, hml, hown, hts⟩ (c_X4_startsUnit_1 l dC dI H.size r_54 h_59) (va_cwS 1 hts gf_c_X4_readUnit_4_c_X4_startsUnit_1 rfl rfl rfl md_X4_startsUnit ⟨Nat.le_of_ble_eq_true rfl, Nat.le_of_ble_eq_true rfl⟩) ⟨fun a U g mk q => by obtain ⟨q0, q1, qP, qK, qD⟩ := q; exact ⟨q0, q1, qP, va_K.moved (u := U) (U := U.calling g mk a) (Vm.Alike.refl U.vm) qK, qD⟩, fun U hU hW => ⟨rfl, by rw [hU], by rw [hU]; exact hPc, va_K.moved hW.alike hKc, hDc.weaken (fun _ _ _ _ => trivial)⟩⟩ rfl rfl hl.1 rfl (lv_room (Nat.le_of_ble_eq_true rfl)) dX4_readUnit_8 ⟨Nat.le_of_ble_eq_true rfl, Nat.le_of_ble_eq_true rfl⟩) hS (fun q _ h => hFc q h) hFc (fun r_66 u t H1 locs ht hvm hw hB hz1 hk1 hS => ?_)
    obtain ⟨hP1, hK1, hD1⟩ := hB
    rw [ht] at hP1
    have hP := bv_still hP hk1
    generalize H1 = H at hP hS ⊢
    as_aux_lemma =>
    rcases hw with h_67 | ⟨h_68, h_69⟩
    · rw [h_67]
      refine lv_if_ne (tgt := 65) hx hb dX4_readUnit_11 rfl (fun c_70 => absurd c_70 (by decide +kernel)) (fun c_70 => ?_)
      exact hU _ _ _ (J14 x_55 g_h0_f1 (RG_w h_61 (by decide +kernel)) g_h1_f2 g_h1_f3 (RG_w h_60 (by decide +kernel)) _ _ _ hP hD hS (lv_sub hl [0, 1, 2, 3] rfl))
    · rw [h_68]
      refine lv_if_ne (tgt := 65) hx hb dX4_readUnit_11 rfl (fun c_71 => ?_) (fun c_71 => absurd c_71 (by decide +kernel))
      refine lv_iload_n hx hb dX4_readUnit_65 rfl (lv_at hl 2 rfl) ?_
      refine lv_bipush (v := 6) hx hb dX4_readUnit_66 kc_bipush_6 ?_
      refine lv_icmp_lt (tgt := 78) hx hb dX4_readUnit_68 rfl (fun c_72 => ?_) (fun c_72 => absurd c_72 (by decide +kernel))
      refine lv_aload_n hx hb dX4_readUnit_78 rfl (lv_at hl 1 rfl) ?_
      refine lv_bipush (v := 33) hx hb dX4_readUnit_79 kc_bipush_33 ?_
      obtain ⟨hPc, hDc, hFc, hqc⟩ := cl_cut (wc := (wd_c_X9_take h1 h1_0 h1_f1 x_55 h1_f3 h1_0 h1_0k h1_0c)) hP hD hS hA [0, 1] (by decide +kernel) rfl
      have hKc := hK.sub (tys' := [(h1_0k, .int)]) [0] rfl
      have hrv := va_recv hKc hPc (ci := 9) (q0 := 0) rfl rfl
      refine va_calli (va_runV (As := [.int 33]) (rest := []) ⟨hx, hb, hml, hown, hts⟩ (c_X9_take l dC dI H.size h1 33 h1_0 h1_f1 x_55 h1_f3 h1_0k h1_0c (RG_w (RG_k 33 33 rfl) (by decide +kernel)) (RG_w h_61 (by decide +kernel)) (RG_w h_60 (by decide +kernel)) g_h1_f3 a_h1_0c) (cwV 1 hts gf_c_X4_readUnit_4_c_X9_take rfl rfl rfl mdV_X9_take ⟨Nat.le_of_ble_eq_true rfl, Nat.le_of_ble_eq_true rfl⟩) ⟨fun a U g mk q => by obtain ⟨q0, q1, qP, qK, qD⟩ := q; exact ⟨q0, q1, qP, va_K.moved (u := U) (U := U.calling g mk a) (Vm.Alike.refl U.vm) qK, qD⟩, hrv, fun U hU hW => ⟨rfl, by rw [hU], by rw [hU]; exact hPc, va_K.moved hW.alike hKc, hDc.weaken (fun _ _ _ _ => trivial)⟩⟩ rfl rfl hl.1 rfl (lv_room (Nat.le_of_ble_eq_true rfl)) dX4_readUnit_81 ⟨Nat.le_of_ble_eq_true rfl, Nat.le_of_ble_eq_true rfl⟩) hS (fun q _ h => hFc q h) hFc (fun r_73 x_74 t H1 locs ht hvm hw hB hz1 hk1 hS => ?_)
      as_aux_lemma =>
      obtain ⟨hP1, hK1, hD1⟩ := hB
      rw [ht] at hP1
      obtain ⟨hP, hD⟩ := cl_put (w1 := (wd_c_X9_take h1 h1_0 h1_f1 x_74 h1_f3 h1_0 h1_0k h1_0c)) (nw := (wd_c_X4_readUnit_4 h1 h1_0 h1_f1 x_74 h1_f3 h1_0 h1_0k h1_0c h0 h0_0 h0_f1 h0_2 h0_0 h0_0k h0_0c)) hP hD [0, 1] [4, 5, 2, 3] 4 rfl hqc (by decide +kernel) rfl hk1 hFc hP1 hD1
      generalize H1 = H at hP hS ⊢
      as_aux_lemma =>
      rcases hw with ⟨h_75, h_76, h_77⟩ | ⟨h_78, h_79, h_80, h_81, h_82⟩
      · rw [h_75]
        refine lv_if_eq (tgt := 105) hx hb dX4_readUnit_84 rfl (fun c_83 => ?_) (fun c_83 => absurd c_83 (by decide +kernel))
        refine lv_aload_n hx hb dX4_readUnit_105 rfl (lv_at hl 1 rfl) ?_
        refine lv_bipush (v := 40) hx hb dX4_readUnit_106 kc_bipush_40 ?_
        obtain ⟨hPc, hDc, hFc, hqc⟩ := cl_cut (wc := (wd_c_X9_expect_1 h1 h1_0 h1_f1 x_74 h1_f3 h1_0 h1_0k h1_0c)) hP hD hS hA [0, 1] (by decide +kernel) rfl
        have hKc := hK.sub (tys' := [(h1_0k, .int)]) [0] rfl
        have hrv := va_recv hKc hPc (ci := 9) (q0 := 0) rfl rfl
        refine va_callv (va_runV (As := [.int 40]) (rest := []) ⟨hx, hb, hml, hown, hts⟩ (c_X9_expect_1 l dC dI H.size h1 40 h1_0 h1_f1 x_74 h1_f3 h1_0k h1_0c (RG_w (RG_k 40 40 rfl) (by decide +kernel)) (RG_w h_61 (by decide +kernel)) h_76 g_h1_f3 a_h1_0c) (cwV 1 hts gf_c_X4_readUnit_4_c_X9_expect_1 rfl rfl rfl mdV_X9_expect ⟨Nat.le_of_ble_eq_true rfl, Nat.le_of_ble_eq_true rfl⟩) ⟨fun a U g mk q => by obtain ⟨q0, q1, qP, qK, qD⟩ := q; exact ⟨q0, q1, qP, va_K.moved (u := U) (U := U.calling g mk a) (Vm.Alike.refl U.vm) qK, qD⟩, hrv, fun U hU hW => ⟨rfl, by rw [hU], by rw [hU]; exact hPc, va_K.moved hW.alike hKc, hDc.weaken (fun _ _ _ _ => trivial)⟩⟩ rfl rfl hl.1 rfl (lv_room (Nat.le_of_ble_eq_true rfl)) dX4_readUnit_108 ⟨Nat.le_of_ble_eq_true rfl, Nat.le_of_ble_eq_true rfl⟩) hS (fun q _ h => hFc q h) hFc (fun u t H1 locs ht hvm hw hB hz1 hk1 hS => ?_)
        obtain ⟨x_85, x_86⟩ := u
        obtain ⟨hP1, hK1, hD1⟩ := hB
        rw [ht] at hP1
        obtain ⟨hP, hD⟩ := cl_put (w1 := (wd_c_X9_expect_1 h1 h1_0 h1_f1 x_85 x_86 h1_0 h1_0k h1_0c)) (nw := (wd_c_X4_readUnit_4 h1 h1_0 h1_f1 x_85 x_86 h1_0 h1_0k h1_0c h0 h0_0 h0_f1 h0_2 h0_0 h0_0k h0_0c)) hP hD [0, 1] [4, 5, 2, 3] 4 rfl hqc (by decide +kernel) rfl hk1 hFc hP1 hD1
        generalize H1 = H at hP hS ⊢
        as_aux_lemma =>
        rcases hw with ⟨h_87, h_88, h_89⟩
        refine lv_aload_n hx hb dX4_readUnit_111 rfl (lv_at hl 0 rfl) ?_
        refine lv_aload_n hx hb dX4_readUnit_112 rfl (lv_at hl 1 rfl) ?_
        refine lv_iload_n hx hb dX4_readUnit_113 rfl (lv_at hl 2 rfl) ?_
        refine lv_iconst (v := 1) hx hb dX4_readUnit_114 kc_iconst_1 ?_
        refine lv_iadd hx hb dX4_readUnit_115 ?_
        refine lv_topi (fun x_90 ex_90 => ?_)
        obtain rfl : x_90 = 4 := ex_90.trans (by decide +kernel)
        refine lv_iconst (v := 0) hx hb dX4_readUnit_116 kc_iconst_0 ?_
        obtain ⟨hPc, hDc, hFc, hqc⟩ := cl_cut (wc := (wd_c_X4_readCondition_4 h1 h1_0 h1_f1 x_85 x_86 h1_0 h1_0k h1_0c h0 h0_0 h0_f1 h0_2 h0_0 h0_0k h0_0c)) hP hD hS hA [0, 1, 2, 3] (by decide +kernel) rfl
        have hKc := hK.sub (tys' := [(h1_0k, .int), (h0_0k, .int)]) [0, 1] rfl
        have hrv := va_recv hKc hPc (ci := 4) (q0 := 2) rfl rfl
        refine va_callv (va_runV (As := [.ref h1, .int 4, .int 0]) (rest := []) ⟨hx, hb, hml, hown, hts⟩ (c_X4_readCondition_4 l dC dI H.size h0 h1 h1_0 h1_f1 x_85 x_86 h1_0k h1_0c h0_0 h0_f1 h0_2 h0_0k h0_0c ts4 tv4 (RG_w h_61 (by decide +kernel)) h_87 h_88 a_h1_0c g_h0_f1) (cwV 3 hts gf_c_X4_readUnit_4_c_X4_readCondition_4 rfl rfl rfl mdV_X4_readCondition ⟨Nat.le_of_ble_eq_true rfl, Nat.le_of_ble_eq_true rfl⟩) ⟨fun a U g mk q => by obtain ⟨q0, q1, qP, qK, qD, qE0, qE1, qE2, qE3, qE4, qE5⟩ := q; exact ⟨q0, q1, qP, va_K.moved (u := U) (U := U.calling g mk a) (Vm.Alike.refl U.vm) qK, qD, vk_R.same rfl qE0, va_Z.moved (u := U) (U := U.calling g mk a) (Vm.Alike.refl U.vm) qE1, va_OF.moved (u := U) (U := U.calling g mk a) (Vm.Alike.refl U.vm) qE2, va_O.moved (u := U) (U := U.calling g mk a) (Vm.Alike.refl U.vm) qE3, va_OF.moved (u := U) (U := U.calling g mk a) (Vm.Alike.refl U.vm) qE4, va_T.moved (u := U) (U := U.calling g mk a) (Vm.Alike.refl U.vm) qE5⟩, hrv, fun U hU hW => ⟨rfl, by rw [hU], by rw [hU]; exact hPc, va_K.moved hW.alike hKc, hDc.weaken (fun _ _ _ _ => trivial), vk_R.warm hW hE_32, va_Z.moved hW.alike (by rw [hU]; exact (hE_10.kept hS.2.1).narrow hFc), va_OF.moved hW.alike (by rw [hU]; exact (hE_34.kept hS.2.1).narrow hFc), va_O.moved hW.alike (by rw [hU]; exact (hE_33.kept hS.2.1).narrow hFc), va_OF.moved hW.alike (by rw [hU]; exact (hE_35.kept hS.2.1).narrow hFc), va_T.moved hW.alike (by rw [hU]; exact (hE_36.kept hS.2.1).narrow hFc)⟩⟩ rfl rfl hl.1 rfl (lv_room (Nat.le_of_ble_eq_true rfl)) dX4_readUnit_117 ⟨Nat.le_of_ble_eq_true rfl, Nat.le_of_ble_eq_true rfl⟩) hS (fun q _ h => hFc q h) hFc (fun u t H1 locs ht hvm hw hB hz1 hk1 hS => ?_)
        obtain ⟨x_92, x_93, x_94, w_95⟩ := u
        obtain ⟨hP1, hK1, hD1⟩ := hB
        rw [ht] at hP1
        obtain ⟨hP, hD⟩ := cl_put (w1 := (wd_c_X4_readCondition_4 h1 h1_0 h1_f1 x_92 x_93 h1_0 h1_0k h1_0c h0 h0_0 x_94 h0_2 h0_0 h0_0k w_95)) (nw := (wd_c_X4_readUnit_4 h1 h1_0 h1_f1 x_92 x_93 h1_0 h1_0k h1_0c h0 h0_0 x_94 h0_2 h0_0 h0_0k w_95)) hP hD [0, 1, 2, 3] [4, 5, 6, 7] 4 rfl hqc (by decide +kernel) rfl hk1 hFc hP1 hD1
        generalize H1 = H at hP hS ⊢
        as_aux_lemma =>
        rcases hw with ⟨h_96, h_97, h_98⟩
        refine lv_aload_n hx hb dX4_readUnit_120 rfl (lv_at hl 1 rfl) ?_
        refine lv_bipush (v := 41) hx hb dX4_readUnit_121 kc_bipush_41 ?_
        obtain ⟨hPc, hDc, hFc, hqc⟩ := cl_cut (wc := (wd_c_X9_expect_1 h1 h1_0 h1_f1 x_92 x_93 h1_0 h1_0k h1_0c)) hP hD hS hA [0, 1] (by decide +kernel) rfl
        have hKc := hK.sub (tys' := [(h1_0k, .int)]) [0] rfl
        have hrv := va_recv hKc hPc (ci := 9) (q0 := 0) rfl rfl
        refine va_callv (va_runV (As := [.int 41]) (rest := []) ⟨hx, hb, hml, hown, hts⟩ (c_X9_expect_1 l dC dI H.size h1 41 h1_0 h1_f1 x_92 x_93 h1_0k h1_0c (RG_w (RG_k 41 41 rfl) (by decide +kernel)) (RG_w h_61 (by decide +kernel)) h_96 h_97 a_h1_0c) (cwV 1 hts gf_c_X4_readUnit_4_c_X9_expect_1 rfl rfl rfl mdV_X9_expect ⟨Nat.le_of_ble_eq_true rfl, Nat.le_of_ble_eq_true rfl⟩) ⟨fun a U g mk q => by obtain ⟨q0, q1, qP, qK, qD⟩ := q; exact ⟨q0, q1, qP, va_K.moved (u := U) (U := U.calling g mk a) (Vm.Alike.refl U.vm) qK, qD⟩, hrv, fun U hU hW => ⟨rfl, by rw [hU], by rw [hU]; exact hPc, va_K.moved hW.alike hKc, hDc.weaken (fun _ _ _ _ => trivial)⟩⟩ rfl rfl hl.1 rfl (lv_room (Nat.le_of_ble_eq_true rfl)) dX4_readUnit_123 ⟨Nat.le_of_ble_eq_true rfl, Nat.le_of_ble_eq_true rfl⟩) hS (fun q _ h => hFc q h) hFc (fun u t H1 locs ht hvm hw hB hz1 hk1 hS => ?_)
        obtain ⟨x_100, x_101⟩ := u
        obtain ⟨hP1, hK1, hD1⟩ := hB
        rw [ht] at hP1
        obtain ⟨hP, hD⟩ := cl_put (w1 := (wd_c_X9_expect_1 h1 h1_0 h1_f1 x_100 x_101 h1_0 h1_0k h1_0c)) (nw := (wd_c_X4_readUnit_4 h1 h1_0 h1_f1 x_100 x_101 h1_0 h1_0k h1_0c h0 h0_0 x_94 h0_2 h0_0 h0_0k w_95)) hP hD [0, 1] [4, 5, 2, 3] 4 rfl hqc (by decide +kernel) rfl hk1 hFc hP1 hD1
        generalize H1 = H at hP hS ⊢
        as_aux_lemma =>
        rcases hw with ⟨h_102, h_103, h_104⟩
        have hK9 := hK.sub (tys' := []) [] rfl
        exact W.vret hx hb hr (fun t ht hW => ⟨⟨(x_100, x_101, x_94, w_95), rfl, ⟨h_102, h_103, h_98⟩, by rw [ht]; exact hP, va_K.moved hW.alike hK9, hD⟩, hS.F ht⟩) hS.2.2 dX4_readUnit_126
      · rw [h_78]
        refine lv_if_eq (tgt := 105) hx hb dX4_readUnit_84 rfl (fun c_105 => absurd c_105 (by decide +kernel)) (fun c_105 => ?_)
        refine lv_aload_n hx hb dX4_readUnit_87 rfl (lv_at hl 0 rfl) ?_
        refine lv_aload_n hx hb dX4_readUnit_88 rfl (lv_at hl 1 rfl) ?_
        refine lv_iload_n hx hb dX4_readUnit_89 rfl (lv_at hl 2 rfl) ?_
        refine lv_iconst (v := 1) hx hb dX4_readUnit_90 kc_iconst_1 ?_
        refine lv_iadd hx hb dX4_readUnit_91 ?_
        refine lv_topi (fun x_106 ex_106 => ?_)
        obtain rfl : x_106 = 4 := ex_106.trans (by decide +kernel)
        refine lv_iconst (v := 0) hx hb dX4_readUnit_92 kc_iconst_0 ?_
        obtain ⟨hPc, hDc, hFc, hqc⟩ := cl_cut (wc := (wd_c_X4_readUnit_5 h1 h1_0 h1_f1 x_74 h1_f3 h1_0 h1_0k h1_0c h0 h0_0 h0_f1 h0_2 h0_0 h0_0k h0_0c)) hP hD hS hA [0, 1, 2, 3] (by decide +kernel) rfl
        have hKc := hK.sub (tys' := [(h1_0k, .int), (h0_0k, .int)]) [0, 1] rfl
        have hrv := va_recv hKc hPc (ci := 4) (q0 := 2) rfl rfl
        refine va_callv (va_runV (As := [.ref h1, .int 4, .int 0]) (rest := []) ⟨hx, hb, hml, hown, hts⟩ (c_X4_readUnit_5 l dC dI H.size h0 h1 h1_0 h1_f1 x_74 h1_f3 h1_0k h1_0c h0_0 h0_f1 h0_2 h0_0k h0_0c ts4 tv4 (RG_w h_61 (by decide +kernel)) (RG_w h_79 (by decide +kernel)) (RG_w h_81 (by decide +kernel)) a_h1_0c g_h0_f1) (cwV 3 hts gf_c_X4_readUnit_4_c_X4_readUnit_5 rfl rfl rfl mdV_X4_readUnit ⟨Nat.le_of_ble_eq_true rfl, Nat.le_of_ble_eq_true rfl⟩) ⟨fun a U g mk q => by obtain ⟨q0, q1, qP, qK, qD, qE0, qE1, qE2, qE3, qE4, qE5⟩ := q; exact ⟨q0, q1, qP, va_K.moved (u := U) (U := U.calling g mk a) (Vm.Alike.refl U.vm) qK, qD, vk_R.same rfl qE0, va_Z.moved (u := U) (U := U.calling g mk a) (Vm.Alike.refl U.vm) qE1, va_OF.moved (u := U) (U := U.calling g mk a) (Vm.Alike.refl U.vm) qE2, va_O.moved (u := U) (U := U.calling g mk a) (Vm.Alike.refl U.vm) qE3, va_OF.moved (u := U) (U := U.calling g mk a) (Vm.Alike.refl U.vm) qE4, va_T.moved (u := U) (U := U.calling g mk a) (Vm.Alike.refl U.vm) qE5⟩, hrv, fun U hU hW => ⟨rfl, by rw [hU], by rw [hU]; exact hPc, va_K.moved hW.alike hKc, hDc.weaken (fun _ _ _ _ => trivial), vk_R.warm hW hE_32, va_Z.moved hW.alike (by rw [hU]; exact (hE_10.kept hS.2.1).narrow hFc), va_OF.moved hW.alike (by rw [hU]; exact (hE_34.kept hS.2.1).narrow hFc), va_O.moved hW.alike (by rw [hU]; exact (hE_33.kept hS.2.1).narrow hFc), va_OF.moved hW.alike (by rw [hU]; exact (hE_35.kept hS.2.1).narrow hFc), va_T.moved hW.alike (by rw [hU]; exact (hE_36.kept hS.2.1).narrow hFc)⟩⟩ rfl rfl hl.1 rfl (lv_room (Nat.le_of_ble_eq_true rfl)) dX4_readUnit_93 ⟨Nat.le_of_ble_eq_true rfl, Nat.le_of_ble_eq_true rfl⟩) hS (fun q _ h => hFc q h) hFc (fun u t H1 locs ht hvm hw hB hz1 hk1 hS => ?_)
        as_aux_lemma =>
        obtain ⟨x_108, x_109, x_110, w_111⟩ := u
        obtain ⟨hP1, hK1, hD1⟩ := hB
        rw [ht] at hP1
        obtain ⟨hP, hD⟩ := cl_put (w1 := (wd_c_X4_readUnit_5 h1 h1_0 h1_f1 x_108 x_109 h1_0 h1_0k h1_0c h0 h0_0 x_110 h0_2 h0_0 h0_0k w_111)) (nw := (wd_c_X4_readUnit_4 h1 h1_0 h1_f1 x_108 x_109 h1_0 h1_0k h1_0c h0 h0_0 x_110 h0_2 h0_0 h0_0k w_111)) hP hD [0, 1, 2, 3] [4, 5, 6, 7] 4 rfl hqc (by decide +kernel) rfl hk1 hFc hP1 hD1
        generalize H1 = H at hP hS ⊢
        as_aux_lemma =>
        rcases hw with ⟨h_112, h_113, h_114⟩
        refine lv_aload_n hx hb dX4_readUnit_96 rfl (lv_at hl 0 rfl) ?_
        refine lv_bipush (v := (-33)) hx hb dX4_readUnit_97 kc_bipush_m33 ?_
        obtain ⟨hPc, hDc, hFc, hqc⟩ := cl_cut (wc := (wd_c_X4_emit h0 h0_0 x_110 h0_2 h0_0 h0_0k w_111)) hP hD hS hA [2, 3] (by decide +kernel) rfl
        have hKc := hK.sub (tys' := [(h0_0k, .int)]) [1] rfl
        have hrv := va_recv hKc hPc (ci := 4) (q0 := 0) rfl rfl
        refine va_callv (va_runV (As := [.int (-33)]) (rest := []) ⟨hx, hb, hml, hown, hts⟩ (c_X4_emit l dC dI H.size h0 (-33) h0_0 x_110 h0_2 h0_0k w_111 h_114) (cwV 1 hts gf_c_X4_readUnit_4_c_X4_emit rfl rfl rfl mdV_X4_emit ⟨Nat.le_of_ble_eq_true rfl, Nat.le_of_ble_eq_true rfl⟩) ⟨fun a U g mk q => by obtain ⟨q0, q1, qP, qK, qD⟩ := q; exact ⟨q0, q1, qP, va_K.moved (u := U) (U := U.calling g mk a) (Vm.Alike.refl U.vm) qK, qD⟩, hrv, fun U hU hW => ⟨rfl, by rw [hU], by rw [hU]; exact hPc, va_K.moved hW.alike hKc, hDc.weaken (fun _ _ _ _ => trivial)⟩⟩ rfl rfl hl.1 rfl (lv_room (Nat.le_of_ble_eq_true rfl)) dX4_readUnit_99 ⟨Nat.le_of_ble_eq_true rfl, Nat.le_of_ble_eq_true rfl⟩) hS (fun q _ h => hFc q h) hFc (fun u t H1 locs ht hvm hw hB hz1 hk1 hS => ?_)
        obtain ⟨x_116, w_117⟩ := u
        obtain ⟨hP1, hK1, hD1⟩ := hB
        rw [ht] at hP1
        obtain ⟨hP, hD⟩ := cl_put (w1 := (wd_c_X4_emit h0 h0_0 x_116 h0_2 h0_0 h0_0k w_117)) (nw := (wd_c_X4_readUnit_4 h1 h1_0 h1_f1 x_108 x_109 h1_0 h1_0k h1_0c h0 h0_0 x_116 h0_2 h0_0 h0_0k w_117)) hP hD [2, 3] [0, 1, 4, 5] 4 rfl hqc (by decide +kernel) rfl hk1 hFc hP1 hD1
        generalize H1 = H at hP hS ⊢
        as_aux_lemma =>
        have h_118 := hw
        refine lv_goto (tgt := 126) hx hb dX4_readUnit_102 rfl ?_
        have hK9 := hK.sub (tys' := []) [] rfl
        exact W.vret hx hb hr (fun t ht hW => ⟨⟨(x_108, x_109, x_116, w_117), rfl, ⟨h_112, h_113, (RG_w h_118 (by decide +kernel))⟩, by rw [ht]; exact hP, va_K.moved hW.alike hK9, hD⟩, hS.F ht⟩) hS.2.2 dX4_readUnit_126
noncomputable def wd_c_X4_readCondition_3 (a0 : Nat) (a1 : Nat) (a2 : Int32) (a3 : Int32) (a4 : Int32) (a5 : Nat) (a6 : ClassId) (a7 : Nat → Int32) (a8 : Nat) (a9 : Nat) (a10 : Int32) (a11 : Nat) (a12 : Nat) (a13 : ClassId) (a14 : Nat → Int32) : va_W := [(a0, .inr (9, [.ref a1, .int a2, .int a3, .int a4])), (a5, .inl (a6, 240, .inl a7)), (a8, .inr (4, [.ref a9, .int a10, .ref a11])), (a12, .inl (a13, 240, .inl a14))]
noncomputable def wf_c_X4_readCondition_3 : List Cond := List.cons (.code yX4_readCondition cX4_readCondition 7 none) (@HAppend.hAppend (List Cond) (List Cond) (List Cond) _ (@HAppend.hAppend (List Cond) (List Cond) (List Cond) _ [.methodLink RX4 72 yX9_isRight, .instanceMethod yX9_isRight, .selects RX9 yX9_isRight yX9_isRight, .initialized RX9, .code yX9_isRight cX9_isRight 1 (some .boolean), .fieldLink RX9 15 "BuoyVote$Tape" "wrong" "I", .methodLink RX4 76 yX4_readUnit, .instanceMethod yX4_readUnit, .selects RX4 yX4_readUnit yX4_readUnit, .initialized RX4, .code yX4_readUnit cX4_readUnit 5 none, .methodLink RX4 41 yX9_peek, .instanceMethod yX9_peek, .selects RX9 yX9_peek yX9_peek, .code yX9_peek cX9_peek 1 (some .int), .fieldLink RX9 22 "BuoyVote$Tape" "at" "I", .fieldLink RX9 19 "BuoyVote$Tape" "length" "I", .fieldLink RX9 11 "BuoyVote$Tape" "bytes" "[I", .methodLink RX4 45 yX4_startsUnit, .static yX4_startsUnit, .code yX4_startsUnit cX4_startsUnit 1 (some .boolean), .methodLink RX4 63 yX9_take, .instanceMethod yX9_take, .selects RX9 yX9_take yX9_take, .code yX9_take cX9_take 2 (some .boolean), .methodLink RX9 29 yX9_peek, .methodLink RX4 37 yX9_expect, .instanceMethod yX9_expect, .selects RX9 yX9_expect yX9_expect, .code yX9_expect cX9_expect 2 none, .methodLink RX9 25 yX9_refuse, .instanceMethod yX9_refuse, .selects RX9 yX9_refuse yX9_refuse, .code yX9_refuse cX9_refuse 2 none, .methodLink RX4 56 yX4_readCondition, .instanceMethod yX4_readCondition, .selects RX4 yX4_readCondition yX4_readCondition, .methodLink RX4 82 yX9_refuseHere, .instanceMethod yX9_refuseHere, .selects RX9 yX9_refuseHere yX9_refuseHere, .code yX9_refuseHere cX9_refuseHere 1 none, .methodLink RX4 49 yX4_readSum, .instanceMethod yX4_readSum, .selects RX4 yX4_readSum yX4_readSum, .code yX4_readSum cX4_readSum 6 none, .methodLink RX4 85 yX4_readAtom, .instanceMethod yX4_readAtom, .selects RX4 yX4_readAtom yX4_readAtom, .code yX4_readAtom cX4_readAtom 6 none, .methodLink RX4 93 yJ0_indexOf_0f7a4, .instanceMethod yJ0_indexOf_0f7a4, .selects RJ0 yJ0_indexOf_0f7a4 yJ0_indexOf_0f7a4, .initialized RJ0, .code yJ0_indexOf_0f7a4 cJ0_indexOf_0f7a4 2 (some .int), .methodLink RJ0 633 yJ0_indexOf_7cf53, .instanceMethod yJ0_indexOf_7cf53, .selects RJ0 yJ0_indexOf_7cf53 yJ0_indexOf_7cf53, .code yJ0_indexOf_7cf53 cJ0_indexOf_7cf53 3 (some .int), .methodLink RJ0 492 yJ0_isLatin1_aae02, .instanceMethod yJ0_isLatin1_aae02, .selects RJ0 yJ0_isLatin1_aae02 yJ0_isLatin1_aae02, .code yJ0_isLatin1_aae02 cJ0_isLatin1_aae02 1 (some .boolean), .fieldLink RJ0 38 "java/lang/String" "COMPACT_STRINGS" "Z", .fieldLink RJ0 15 "java/lang/String" "coder" "B", .fieldLink RJ0 9 "java/lang/String" "value" "[B", .methodLink RJ0 505 yJ0_length_8abf5, .instanceMethod yJ0_length_8abf5, .selects RJ0 yJ0_length_8abf5 yJ0_length_8abf5, .code yJ0_length_8abf5 cJ0_length_8abf5 1 (some .int), .methodLink RJ0 335 yJ0_coder_7d493, .instanceMethod yJ0_coder_7d493, .selects RJ0 yJ0_coder_7d493 yJ0_coder_7d493, .code yJ0_coder_7d493 cJ0_coder_7d493 1 (some .byte), .methodLink RJ0 637 yJ1_indexOf_4cfef, .static yJ1_indexOf_4cfef, .initialized RJ1, .code yJ1_indexOf_4cfef cJ1_indexOf_4cfef 4 (some .int), .methodLink RJ1 88 yJ1_canEncode_9a6ad, .static yJ1_canEncode_9a6ad, .code yJ1_canEncode_9a6ad cJ1_canEncode_9a6ad 1 (some .boolean), .methodLink RJ1 92 Lib.Math.max.name, .static Lib.Math.max.name, .initialized "java/lang/Math", .code Lib.Math.max.name Lib.Math.max.code 2 (some .int), .methodLink RJ1 38 Lib.Math.min.name, .static Lib.Math.min.name, .code Lib.Math.min.name Lib.Math.min.code 2 (some .int), .methodLink RJ1 95 yJ1_indexOfChar_4cfef, .static yJ1_indexOfChar_4cfef, .code yJ1_indexOfChar_4cfef cJ1_indexOfChar_4cfef 6 (some .int), .methodLink RX4 99 yX9_number, .instanceMethod yX9_number, .selects RX9 yX9_number yX9_number, .code yX9_number cX9_number 4 (some .int), .methodLink RX4 79 yX9_skip, .instanceMethod yX9_skip, .selects RX9 yX9_skip yX9_skip, .code yX9_skip cX9_skip 1 none, .methodLink RX4 60 yX4_emit, .instanceMethod yX4_emit, .selects RX4 yX4_emit yX4_emit, .code yX4_emit cX4_emit 2 none, .fieldLink RX4 20 "BuoyVote$Law" "length" "I", .fieldLink RX4 11 "BuoyVote$Law" "code" "[I", .methodLink RX4 88 yX9_takeEither, .instanceMethod yX9_takeEither, .selects RX9 yX9_takeEither yX9_takeEither, .code yX9_takeEither cX9_takeEither 4 (some .int), .methodLink RX4 53 yX4_isComparison, .static yX4_isComparison, .code yX4_isComparison cX4_isComparison 1 (some .boolean)] wsX90) wsX40)
theorem iw_c_X4_readCondition_3_X9 : ∀ w ∈ wsX90, w ∈ wf_c_X4_readCondition_3 := fun w h => List.mem_cons_of_mem _ (List.mem_append_left _ (List.mem_append_right _ h))
theorem iw_c_X4_readCondition_3_X4 : ∀ w ∈ wsX40, w ∈ wf_c_X4_readCondition_3 := fun w h => List.mem_cons_of_mem _ (List.mem_append_right _ h)
set_option maxRecDepth 20000 in
theorem gf_c_X4_readCondition_3_c_X9_take_1 : GoodIn wf_c_X4_readCondition_3 (wsV RX4 63 RX9 yX9_take wf_c_X9_take_1) := goodIn_app (gi_l [22, 23, 24, 4] rfl rfl) (gi_cons (j := 25) rfl rfl (goodIn_app (gi_l [6, 26, 13, 14, 4, 15, 16, 17, 18] rfl rfl) (goodIn_sub iw_c_X4_readCondition_3_X9 gw_X9)))
set_option maxRecDepth 20000 in
theorem gf_c_X4_readCondition_3_c_X9_take : GoodIn wf_c_X4_readCondition_3 (wsV RX4 63 RX9 yX9_take wf_c_X9_take) := goodIn_app (gi_l [22, 23, 24, 4] rfl rfl) (gi_cons (j := 25) rfl rfl (goodIn_app (gi_l [6, 26, 13, 14, 4, 15, 16, 17, 18] rfl rfl) (goodIn_sub iw_c_X4_readCondition_3_X9 gw_X9)))
set_option maxRecDepth 20000 in
theorem gf_c_X4_readCondition_3_c_X4_emit : GoodIn wf_c_X4_readCondition_3 (wsV RX4 60 RX4 yX4_emit wf_c_X4_emit) := goodIn_app (gi_l [99, 100, 101, 10] rfl rfl) (gi_cons (j := 102) rfl rfl (goodIn_app (gi_l [103, 104] rfl rfl) (goodIn_sub iw_c_X4_readCondition_3_X4 gw_X4)))
set_option maxRecDepth 20000 in
theorem gf_c_X4_readCondition_3_c_X4_readUnit_4 : GoodIn wf_c_X4_readCondition_3 (wsV RX4 76 RX4 yX4_readUnit wf_c_X4_readUnit_4) := goodIn_app (gi_l [7, 8, 9, 10] rfl rfl) (gi_cons (j := 11) rfl rfl (goodIn_app (goodIn_app (gi_l [12, 13, 14, 4, 15, 16, 17, 18, 19, 20, 10, 21, 22, 23, 24, 25, 6, 26, 27, 28, 29, 30, 31, 32, 33, 34, 35, 36, 37, 0, 1, 2, 3, 5, 7, 8, 9, 38, 39, 40, 41, 42, 43, 44, 45, 46, 47, 48, 49, 50, 51, 52, 53, 54, 55, 56, 57, 58, 59, 60, 61, 62, 63, 64, 65, 66, 67, 68, 69, 70, 71, 72, 73, 74, 75, 76, 77, 78, 79, 80, 81, 82, 83, 84, 85, 86, 87, 88, 89, 90, 91, 92, 93, 94, 95, 96, 97, 98, 99, 100, 101, 102, 103, 104, 105, 106, 107, 108, 109, 110, 111] rfl rfl) (goodIn_sub iw_c_X4_readCondition_3_X9 gw_X9)) (goodIn_sub iw_c_X4_readCondition_3_X4 gw_X4)))
set_option maxRecDepth 20000 in
theorem gf_c_X4_readCondition_3_c_X9_isRight : GoodIn wf_c_X4_readCondition_3 (wsV RX4 72 RX9 yX9_isRight wf_c_X9_isRight) := goodIn_app (gi_l [1, 2, 3, 4] rfl rfl) (gi_cons (j := 5) rfl rfl (goodIn_app (gi_l [6] rfl rfl) (goodIn_sub iw_c_X4_readCondition_3_X9 gw_X9)))
set_option maxHeartbeats 4000000 in
set_option maxRecDepth 100000 in
theorem c_X4_readCondition_3 (l : Launch) (dC : Nat → ClassId) (dI : Nat → Nat → Nat) (sz : Nat) (h0 : Nat) (h1 : Nat) (h1_0 : Nat) (h1_f1 : Int32) (h1_f2 : Int32) (h1_f3 : Int32) (h1_0k : ClassId) (h1_0c : Nat → Int32) (h0_0 : Nat) (h0_f1 : Int32) (h0_2 : Nat) (h0_0k : ClassId) (h0_0c : Nat → Int32) (ts4 : Nat) (tv4 : Nat) (g_h1_f1 : RG h1_f1 0 240) (g_h1_f2 : RG h1_f2 0 240) (g_h1_f3 : RG h1_f3 (-1) 240) (a_h1_0c : AI h1_0c 0 255) (g_h0_f1 : RG h0_f1 0 240) : Met l yX4_readCondition wf_c_X4_readCondition_3 ({ frames := 13, cells := 0, slots := 0, locals := 315 }) (va_Pc [.ref h0, .ref h1, .int 3, .int 0] (fun U => U.heap.size = sz ∧ va_P (dC, dI) vwCl (wd_c_X4_readCondition_3 h1 h1_0 h1_f1 h1_f2 h1_f3 h1_0 h1_0k h1_0c h0 h0_0 h0_f1 h0_2 h0_0 h0_0k h0_0c) U.heap ∧ va_K (dC, dI) vwCl [(h1_0k, .int), (h0_0k, .int)] U ∧ va_D (fun _ => True) (wd_c_X4_readCondition_3 h1 h1_0 h1_f1 h1_f2 h1_f3 h1_0 h1_0k h1_0c h0 h0_0 h0_f1 h0_2 h0_0 h0_0k h0_0c) ∧ vk_R RX4 91 "vlrdph" ts4 U ∧ va_Z "java/lang/String" "COMPACT_STRINGS" "Z" (.int 1) (va_A (wd_c_X4_readCondition_3 h1 h1_0 h1_f1 h1_f2 h1_f3 h1_0 h1_0k h1_0c h0 h0_0 h0_f1 h0_2 h0_0 h0_0k h0_0c) sz) U U.heap ∧ va_OF "java/lang/String" "coder" "B" (.int 0) ts4 (va_A (wd_c_X4_readCondition_3 h1 h1_0 h1_f1 h1_f2 h1_f3 h1_0 h1_0k h1_0c h0 h0_0 h0_f1 h0_2 h0_0 h0_0k h0_0c) sz) U U.heap ∧ va_O "java/lang/String" ts4 (va_A (wd_c_X4_readCondition_3 h1 h1_0 h1_f1 h1_f2 h1_f3 h1_0 h1_0k h1_0c h0 h0_0 h0_f1 h0_2 h0_0 h0_0k h0_0c) sz) U U.heap ∧ va_OF "java/lang/String" "value" "[B" (.ref tv4) ts4 (va_A (wd_c_X4_readCondition_3 h1 h1_0 h1_f1 h1_f2 h1_f3 h1_0 h1_0k h1_0c h0 h0_0 h0_f1 h0_2 h0_0 h0_0k h0_0c) sz) U U.heap ∧ va_T .byte tv4 6 (fun j => .int ([118, 108, 114, 100, 112, 104].getD j 0)) (va_A (wd_c_X4_readCondition_3 h1 h1_0 h1_f1 h1_f2 h1_f3 h1_0 h1_0k h1_0c h0 h0_0 h0_f1 h0_2 h0_0 h0_0k h0_0c) sz) U U.heap)) (va_Qv (fun (u : (Int32) × (Int32) × (Int32) × (Nat → Int32)) => (RG u.1 0 240 ∧ RG u.2.1 (-1) 240 ∧ RG u.2.2.1 0 240)) (fun (u : (Int32) × (Int32) × (Int32) × (Nat → Int32)) t => va_P (dC, dI) vwCl (wd_c_X4_readCondition_3 h1 h1_0 h1_f1 (u.1) (u.2.1) h1_0 h1_0k h1_0c h0 h0_0 (u.2.2.1) h0_2 h0_0 h0_0k (u.2.2.2)) t.heap ∧ va_K (dC, dI) vwCl [] t ∧ va_D (va_A (wd_c_X4_readCondition_3 h1 h1_0 h1_f1 h1_f2 h1_f3 h1_0 h1_0k h1_0c h0 h0_0 h0_f1 h0_2 h0_0 h0_0k h0_0c) sz) (wd_c_X4_readCondition_3 h1 h1_0 h1_f1 (u.1) (u.2.1) h1_0 h1_0k h1_0c h0 h0_0 (u.2.2.1) h0_2 h0_0 h0_0k (u.2.2.2))) (va_A (wd_c_X4_readCondition_3 h1 h1_0 h1_f1 h1_f2 h1_f3 h1_0 h1_0k h1_0c h0 h0_0 h0_f1 h0_2 h0_0 h0_0k h0_0c) sz)) 0 0 (va_A (wd_c_X4_readCondition_3 h1 h1_0 h1_f1 h1_f2 h1_f3 h1_0 h1_0k h1_0c h0 h0_0 h0_f1 h0_2 h0_0 h0_0k h0_0c) sz) := by
  refine Met.ofW (cc := cX4_readCondition) (maxL := 7) (ret := none) (by decide +kernel) rfl ?_
  intro p e s m args below meth c s₁ B hml hv
  obtain ⟨rfl, hsz, hP, hK, hD0, hE_32, hE_10, hE_34, hE_33, hE_35, hE_36⟩ := hv
  have hx := B.exec
  have hb := B.bytes
  have hr := B.returns
  have hts := atoms_spec (ws := wf_c_X4_readCondition_3) B.pre
  have hown : s.vm.findClass RX4 = some m.cls := findClass_of_methodNamed B.named
  have hlocks := B.notSynchronized
  subst hsz
  have hD := hD0.self (sz := s.heap.size)
  generalize hAe : va_A (wd_c_X4_readCondition_3 h1 h1_0 h1_f1 h1_f2 h1_f3 h1_0 h1_0k h1_0c h0 h0_0 h0_f1 h0_2 h0_0 h0_0k h0_0c) s.heap.size = A at hD hE_10 hE_34 hE_33 hE_35 hE_36 ⊢
  have hA : ∀ q : Nat, s.heap.size ≤ q → A q := fun q h => by rw [← hAe]; exact Or.inr h
  have hP : va_P (dC, dI) vwCl (wd_c_X4_readCondition_3 h1 h1_0 h1_f1 h1_f2 h1_f3 h1_0 h1_0k h1_0c h0 h0_0 h0_f1 h0_2 h0_0 h0_0k h0_0c) s.heap := hP
  have hl := lv_entry ([.ref h0, .ref h1, .int 3, .int 0]) (n := 7) (Nat.le_of_ble_eq_true rfl)
  rw [lg_entry_eq]
  generalize (lg_sl ([.ref h0, .ref h1, .int 3, .int 0]) ++ List.replicate (7 - (lg_sl ([.ref h0, .ref h1, .int 3, .int 0])).length) Slot.unset).toArray = ls at hl ⊢
  have hl : lv_has ls 7 [(0, .ref h0), (1, .ref h1), (2, .int 3), (3, .int 0)] := hl
  obtain ⟨H, hHe⟩ : ∃ H : Heap, s.heap = H := ⟨_, rfl⟩
  have hS : va_S A s.heap H [] := by rw [hHe]; exact va_S.rf
  have hP : va_P (dC, dI) vwCl (wd_c_X4_readCondition_3 h1 h1_0 h1_f1 h1_f2 h1_f3 h1_0 h1_0k h1_0c h0 h0_0 h0_f1 h0_2 h0_0 h0_0k h0_0c) H := by rw [← hHe]; exact hP
  rw [hHe]
  refine wj (fun G hG hU => ?_)
  as_aux_lemma =>
  have J9 : ∀ (n9 : Nat) (j9_l6 : Int32) (j9_l5 : Int32) (j9_l4 : Int32) (j9_h1_f2 : Int32) (j9_h1_f3 : Int32) (j9_h0_f1 : Int32) (j9_h0_0c : Nat → Int32) (hM9 : MU j9_l6 < n9) (g_h0_f1 : RG h0_f1 0 240) (g_h1_f1 : RG h1_f1 0 240) (g_h1_f2 : RG h1_f2 0 240) (g_h1_f3 : RG h1_f3 (-1) 240) (g_j9_h0_f1 : RG j9_h0_f1 0 240) (g_j9_h1_f2 : RG j9_h1_f2 0 240) (g_j9_h1_f3 : RG j9_h1_f3 (-1) 240) (g_j9_l4 : RG j9_l4 0 1) (g_j9_l5 : RG j9_l5 0 1) (g_j9_l6 : RG j9_l6 0 240) (H : Heap) (locs : List Loc) (ls : Array Slot) (hP : va_P (dC, dI) vwCl (wd_c_X4_readCondition_3 h1 h1_0 h1_f1 j9_h1_f2 j9_h1_f3 h1_0 h1_0k h1_0c h0 h0_0 j9_h0_f1 h0_2 h0_0 h0_0k j9_h0_0c) H) (hD : va_D A (wd_c_X4_readCondition_3 h1 h1_0 h1_f1 j9_h1_f2 j9_h1_f3 h1_0 h1_0k h1_0c h0 h0_0 j9_h0_f1 h0_2 h0_0 h0_0k j9_h0_0c)) (hS : va_S A s.heap H locs) (hl : lv_has ls 7 [(6, .int j9_l6), (5, .int j9_l5), (4, .int j9_l4), (0, .ref h0), (1, .ref h1), (2, .int 3), (3, .int 0)]), G H locs (F0 m 9 ls []) := by
    as_aux_lemma =>
    intro n9
    induction n9 with
    | zero => intros; exact absurd (by assumption) (Nat.not_lt_zero _)
    | succ n9 ih9 =>
      intro j9_l6 j9_l5 j9_l4 j9_h1_f2 j9_h1_f3 j9_h0_f1 j9_h0_0c hM9 g_h0_f1 g_h1_f1 g_h1_f2 g_h1_f3 g_j9_h0_f1 g_j9_h1_f2 g_j9_h1_f3 g_j9_l4 g_j9_l5 g_j9_l6 H locs ls hP hD hS hl
      have J93 : ∀ (j93_l4 : Int32) (j93_l5 : Int32) (j93_h1_f2 : Int32) (j93_h1_f3 : Int32) (j93_h0_f1 : Int32) (j93_h0_0c : Nat → Int32) (g_h0_f1 : RG h0_f1 0 240) (g_h1_f1 : RG h1_f1 1 240) (g_h1_f2 : RG h1_f2 0 240) (g_h1_f3 : RG h1_f3 (-1) 240) (g_j93_h0_f1 : RG j93_h0_f1 0 240) (g_j93_h1_f2 : RG j93_h1_f2 1 240) (g_j93_h1_f3 : RG j93_h1_f3 (-1) (-1)) (g_j93_l4 : RG j93_l4 0 1) (g_j93_l5 : RG j93_l5 0 1) (g_j9_h0_f1 : RG j9_h0_f1 0 240) (g_j9_h1_f2 : RG j9_h1_f2 0 240) (g_j9_h1_f3 : RG j9_h1_f3 (-1) (-1)) (g_j9_l4 : RG j9_l4 0 1) (g_j9_l5 : RG j9_l5 0 1) (g_j9_l6 : RG j9_l6 0 239) (H : Heap) (locs : List Loc) (ls : Array Slot) (hP : va_P (dC, dI) vwCl (wd_c_X4_readCondition_3 h1 h1_0 h1_f1 j93_h1_f2 j93_h1_f3 h1_0 h1_0k h1_0c h0 h0_0 j93_h0_f1 h0_2 h0_0 h0_0k j93_h0_0c) H) (hD : va_D A (wd_c_X4_readCondition_3 h1 h1_0 h1_f1 j93_h1_f2 j93_h1_f3 h1_0 h1_0k h1_0c h0 h0_0 j93_h0_f1 h0_2 h0_0 h0_0k j93_h0_0c)) (hS : va_S A s.heap H locs) (hl : lv_has ls 7 [(4, .int j93_l4), (6, .int j9_l6), (5, .int j93_l5), (0, .ref h0), (1, .ref h1), (2, .int 3), (3, .int 0)]), G H locs (F0 m 93 ls []) := by
        as_aux_lemma =>
        intro j93_l4 j93_l5 j93_h1_f2 j93_h1_f3 j93_h0_f1 j93_h0_0c g_h0_f1 g_h1_f1 g_h1_f2 g_h1_f3 g_j93_h0_f1 g_j93_h1_f2 g_j93_h1_f3 g_j93_l4 g_j93_l5 g_j9_h0_f1 g_j9_h1_f2 g_j9_h1_f3 g_j9_l4 g_j9_l5 g_j9_l6 H locs ls hP hD hS hl
        refine hG _ _ _ ?_
        obtain ⟨x_1, ex_1⟩ : ∃ y : Int32, y = j9_l6 + 1 := ⟨_, rfl⟩
        have g_2 : RG x_1 1 240 := RG_add ex_1 g_j9_l6 (RG_k 1 1 rfl) (by decide +kernel)
        refine lv_iinc (v := x_1) (lv' := [(6, .int x_1), (4, .int j93_l4), (5, .int j93_l5), (0, .ref h0), (1, .ref h1), (2, .int 3), (3, .int 0)]) hx hb dX4_readCondition_93 hl (k := 1) rfl (by rw [ex_1]; rfl) (Nat.le_of_ble_eq_true rfl) rfl (fun ls hl => ?_)
        refine lv_goto (tgt := 9) hx hb dX4_readCondition_96 rfl ?_
        exact hU _ _ _ (ih9 x_1 j93_l5 j93_l4 j93_h1_f2 j93_h1_f3 j93_h0_f1 j93_h0_0c (mu_s (MU_add ex_1 g_j9_l6 (q := 1) rfl (by decide +kernel)) hM9) g_h0_f1 (RG_w g_h1_f1 (by decide +kernel)) g_h1_f2 g_h1_f3 g_j93_h0_f1 (RG_w g_j93_h1_f2 (by decide +kernel)) (RG_w g_j93_h1_f3 (by decide +kernel)) g_j93_l4 g_j93_l5 (RG_w g_2 (by decide +kernel)) _ _ _ hP hD hS (lv_sub hl [0, 2, 1, 3, 4, 5, 6] rfl))
      have J79 : ∀ (j79_h1_f2 : Int32) (j79_h1_f3 : Int32) (j79_h0_f1 : Int32) (j79_h0_0c : Nat → Int32) (g_h0_f1 : RG h0_f1 0 240) (g_h1_f1 : RG h1_f1 0 240) (g_h1_f2 : RG h1_f2 0 240) (g_h1_f3 : RG h1_f3 (-1) 240) (g_j79_h0_f1 : RG j79_h0_f1 0 240) (g_j79_h1_f2 : RG j79_h1_f2 0 240) (g_j79_h1_f3 : RG j79_h1_f3 (-1) 240) (g_j9_h0_f1 : RG j9_h0_f1 0 240) (g_j9_h1_f2 : RG j9_h1_f2 0 240) (g_j9_h1_f3 : RG j9_h1_f3 (-1) (-1)) (g_j9_l4 : RG j9_l4 0 1) (g_j9_l5 : RG j9_l5 0 1) (g_j9_l6 : RG j9_l6 0 239) (H : Heap) (locs : List Loc) (ls : Array Slot) (hP : va_P (dC, dI) vwCl (wd_c_X4_readCondition_3 h1 h1_0 h1_f1 j79_h1_f2 j79_h1_f3 h1_0 h1_0k h1_0c h0 h0_0 j79_h0_f1 h0_2 h0_0 h0_0k j79_h0_0c) H) (hD : va_D A (wd_c_X4_readCondition_3 h1 h1_0 h1_f1 j79_h1_f2 j79_h1_f3 h1_0 h1_0k h1_0c h0 h0_0 j79_h0_f1 h0_2 h0_0 h0_0k j79_h0_0c)) (hS : va_S A s.heap H locs) (hl : lv_has ls 7 [(4, .int 0), (6, .int j9_l6), (0, .ref h0), (1, .ref h1), (2, .int 3), (3, .int 0)]), G H locs (F0 m 79 ls []) := by
        as_aux_lemma =>
        intro j79_h1_f2 j79_h1_f3 j79_h0_f1 j79_h0_0c g_h0_f1 g_h1_f1 g_h1_f2 g_h1_f3 g_j79_h0_f1 g_j79_h1_f2 g_j79_h1_f3 g_j9_h0_f1 g_j9_h1_f2 g_j9_h1_f3 g_j9_l4 g_j9_l5 g_j9_l6 H locs ls hP hD hS hl
        refine hG _ _ _ ?_
        refine lv_aload_n hx hb dX4_readCondition_79 rfl (lv_at hl 3 rfl) ?_
        refine lv_bipush (v := 124) hx hb dX4_readCondition_80 kc_bipush_124 ?_
        obtain ⟨hPc, hDc, hFc, hqc⟩ := cl_cut (wc := (wd_c_X9_take_1 h1 h1_0 h1_f1 j79_h1_f2 j79_h1_f3 h1_0 h1_0k h1_0c)) hP hD hS hA [0, 1] (by decide +kernel) rfl
        have hKc := hK.sub (tys' := [(h1_0k, .int)]) [0] rfl
        have hrv := va_recv hKc hPc (ci := 9) (q0 := 0) rfl rfl
        refine va_calli (va_runV (As := [.int 124]) (rest := []) ⟨hx, hb, hml, hown, hts⟩ (c_X9_take_1 l dC dI H.size h1 124 h1_0 h1_f1 j79_h1_f2 j79_h1_f3 h1_0k h1_0c (RG_w (RG_k 124 124 rfl) (by decide +kernel)) g_h1_f1 g_j79_h1_f2 g_j79_h1_f3 a_h1_0c) (cwV 1 hts gf_c_X4_readCondition_3_c_X9_take_1 rfl rfl rfl mdV_X9_take ⟨Nat.le_of_ble_eq_true rfl, Nat.le_of_ble_eq_true rfl⟩) ⟨fun a U g mk q => by obtain ⟨q0, q1, qP, qK, qD⟩ := q; exact ⟨q0, q1, qP, va_K.moved (u := U) (U := U.calling g mk a) (Vm.Alike.refl U.vm) qK, qD⟩, hrv, fun U hU hW => ⟨rfl, by rw [hU], by rw [hU]; exact hPc, va_K.moved hW.alike hKc, hDc.weaken (fun _ _ _ _ => trivial)⟩⟩ rfl rfl hl.1 rfl (lv_room (Nat.le_of_ble_eq_true rfl)) dX4_readCondition_82 ⟨Nat.le_of_ble_eq_true rfl, Nat.le_of_ble_eq_true rfl⟩) hS (fun q _ h => hFc q h) hFc (fun r_3 x_4 t H1 locs ht hvm hw hB hz1 hk1 hS => ?_)
        obtain ⟨hP1, hK1, hD1⟩ := hB
        rw [ht] at hP1
        obtain ⟨hP, hD⟩ := cl_put (w1 := (wd_c_X9_take_1 h1 h1_0 h1_f1 x_4 j79_h1_f3 h1_0 h1_0k h1_0c)) (nw := (wd_c_X4_readCondition_3 h1 h1_0 h1_f1 x_4 j79_h1_f3 h1_0 h1_0k h1_0c h0 h0_0 j79_h0_f1 h0_2 h0_0 h0_0k j79_h0_0c)) hP hD [0, 1] [4, 5, 2, 3] 4 rfl hqc (by decide +kernel) rfl hk1 hFc hP1 hD1
        generalize H1 = H at hP hS ⊢
        as_aux_lemma =>
        rcases hw with ⟨h_5, h_6, h_7⟩ | ⟨h_8, h_9, h_10, h_11, h_12⟩
        · rw [h_5]
          refine lv_istore (lv' := [(5, .int 0), (4, .int 0), (6, .int j9_l6), (0, .ref h0), (1, .ref h1), (2, .int 3), (3, .int 0)]) hx hb dX4_readCondition_85 hl (Nat.le_of_ble_eq_true rfl) rfl (fun ls hl => ?_)
          refine lv_iload hx hb dX4_readCondition_87 (lv_at hl 0 rfl) ?_
          refine lv_if_ne (tgt := 93) hx hb dX4_readCondition_89 rfl (fun c_13 => absurd c_13 (by decide +kernel)) (fun c_13 => ?_)
          have hK9 := hK.sub (tys' := []) [] rfl
          exact W.vret hx hb hr (fun t ht hW => ⟨⟨(x_4, j79_h1_f3, j79_h0_f1, j79_h0_0c), rfl, ⟨h_6, g_j79_h1_f3, g_j79_h0_f1⟩, by rw [ht]; exact hP, va_K.moved hW.alike hK9, hD⟩, hS.F ht⟩) hS.2.2 dX4_readCondition_92
        · rw [h_8]
          refine lv_istore (lv' := [(5, .int 1), (4, .int 0), (6, .int j9_l6), (0, .ref h0), (1, .ref h1), (2, .int 3), (3, .int 0)]) hx hb dX4_readCondition_85 hl (Nat.le_of_ble_eq_true rfl) rfl (fun ls hl => ?_)
          refine lv_iload hx hb dX4_readCondition_87 (lv_at hl 0 rfl) ?_
          refine lv_if_ne (tgt := 93) hx hb dX4_readCondition_89 rfl (fun c_14 => ?_) (fun c_14 => absurd c_14 (by decide +kernel))
          exact hU _ _ _ (J93 0 1 x_4 j79_h1_f3 j79_h0_f1 j79_h0_0c g_h0_f1 h_10 g_h1_f2 g_h1_f3 g_j79_h0_f1 h_9 h_11 (RG_w (RG_k 0 0 rfl) (by decide +kernel)) (RG_w (RG_k 1 1 rfl) (by decide +kernel)) g_j9_h0_f1 g_j9_h1_f2 g_j9_h1_f3 g_j9_l4 g_j9_l5 g_j9_l6 _ _ _ hP hD hS (lv_sub hl [1, 2, 0, 3, 4, 5, 6] rfl))
      have J55 : ∀ (j55_h1_f2 : Int32) (j55_h1_f3 : Int32) (j55_h0_f1 : Int32) (j55_h0_0c : Nat → Int32) (g_h0_f1 : RG h0_f1 0 240) (g_h1_f1 : RG h1_f1 0 240) (g_h1_f2 : RG h1_f2 0 240) (g_h1_f3 : RG h1_f3 (-1) 240) (g_j55_h0_f1 : RG j55_h0_f1 0 240) (g_j55_h1_f2 : RG j55_h1_f2 0 240) (g_j55_h1_f3 : RG j55_h1_f3 (-1) 240) (g_j9_h0_f1 : RG j9_h0_f1 0 240) (g_j9_h1_f2 : RG j9_h1_f2 0 240) (g_j9_h1_f3 : RG j9_h1_f3 (-1) (-1)) (g_j9_l4 : RG j9_l4 0 1) (g_j9_l5 : RG j9_l5 0 1) (g_j9_l6 : RG j9_l6 0 239) (H : Heap) (locs : List Loc) (ls : Array Slot) (hP : va_P (dC, dI) vwCl (wd_c_X4_readCondition_3 h1 h1_0 h1_f1 j55_h1_f2 j55_h1_f3 h1_0 h1_0k h1_0c h0 h0_0 j55_h0_f1 h0_2 h0_0 h0_0k j55_h0_0c) H) (hD : va_D A (wd_c_X4_readCondition_3 h1 h1_0 h1_f1 j55_h1_f2 j55_h1_f3 h1_0 h1_0k h1_0c h0 h0_0 j55_h0_f1 h0_2 h0_0 h0_0k j55_h0_0c)) (hS : va_S A s.heap H locs) (hl : lv_has ls 7 [(6, .int j9_l6), (5, .int j9_l5), (0, .ref h0), (1, .ref h1), (2, .int 3), (3, .int 0)]), G H locs (F0 m 55 ls []) := by
        as_aux_lemma =>
        intro j55_h1_f2 j55_h1_f3 j55_h0_f1 j55_h0_0c g_h0_f1 g_h1_f1 g_h1_f2 g_h1_f3 g_j55_h0_f1 g_j55_h1_f2 g_j55_h1_f3 g_j9_h0_f1 g_j9_h1_f2 g_j9_h1_f3 g_j9_l4 g_j9_l5 g_j9_l6 H locs ls hP hD hS hl
        refine hG _ _ _ ?_
        refine lv_aload_n hx hb dX4_readCondition_55 rfl (lv_at hl 3 rfl) ?_
        refine lv_bipush (v := 38) hx hb dX4_readCondition_56 kc_bipush_38 ?_
        obtain ⟨hPc, hDc, hFc, hqc⟩ := cl_cut (wc := (wd_c_X9_take h1 h1_0 h1_f1 j55_h1_f2 j55_h1_f3 h1_0 h1_0k h1_0c)) hP hD hS hA [0, 1] (by decide +kernel) rfl
        have hKc := hK.sub (tys' := [(h1_0k, .int)]) [0] rfl
        have hrv := va_recv hKc hPc (ci := 9) (q0 := 0) rfl rfl
        refine va_calli (va_runV (As := [.int 38]) (rest := []) ⟨hx, hb, hml, hown, hts⟩ (c_X9_take l dC dI H.size h1 38 h1_0 h1_f1 j55_h1_f2 j55_h1_f3 h1_0k h1_0c (RG_w (RG_k 38 38 rfl) (by decide +kernel)) g_h1_f1 g_j55_h1_f2 g_j55_h1_f3 a_h1_0c) (cwV 1 hts gf_c_X4_readCondition_3_c_X9_take rfl rfl rfl mdV_X9_take ⟨Nat.le_of_ble_eq_true rfl, Nat.le_of_ble_eq_true rfl⟩) ⟨fun a U g mk q => by obtain ⟨q0, q1, qP, qK, qD⟩ := q; exact ⟨q0, q1, qP, va_K.moved (u := U) (U := U.calling g mk a) (Vm.Alike.refl U.vm) qK, qD⟩, hrv, fun U hU hW => ⟨rfl, by rw [hU], by rw [hU]; exact hPc, va_K.moved hW.alike hKc, hDc.weaken (fun _ _ _ _ => trivial)⟩⟩ rfl rfl hl.1 rfl (lv_room (Nat.le_of_ble_eq_true rfl)) dX4_readCondition_58 ⟨Nat.le_of_ble_eq_true rfl, Nat.le_of_ble_eq_true rfl⟩) hS (fun q _ h => hFc q h) hFc (fun r_15 x_16 t H1 locs ht hvm hw hB hz1 hk1 hS => ?_)
        obtain ⟨hP1, hK1, hD1⟩ := hB
        rw [ht] at hP1
        obtain ⟨hP, hD⟩ := cl_put (w1 := (wd_c_X9_take h1 h1_0 h1_f1 x_16 j55_h1_f3 h1_0 h1_0k h1_0c)) (nw := (wd_c_X4_readCondition_3 h1 h1_0 h1_f1 x_16 j55_h1_f3 h1_0 h1_0k h1_0c h0 h0_0 j55_h0_f1 h0_2 h0_0 h0_0k j55_h0_0c)) hP hD [0, 1] [4, 5, 2, 3] 4 rfl hqc (by decide +kernel) rfl hk1 hFc hP1 hD1
        generalize H1 = H at hP hS ⊢
        as_aux_lemma =>
        rcases hw with ⟨h_17, h_18, h_19⟩ | ⟨h_20, h_21, h_22, h_23, h_24⟩
        · rw [h_17]
          refine lv_istore (lv' := [(4, .int 0), (6, .int j9_l6), (5, .int j9_l5), (0, .ref h0), (1, .ref h1), (2, .int 3), (3, .int 0)]) hx hb dX4_readCondition_61 hl (Nat.le_of_ble_eq_true rfl) rfl (fun ls hl => ?_)
          refine lv_iload hx hb dX4_readCondition_63 (lv_at hl 0 rfl) ?_
          refine lv_if_ne (tgt := 93) hx hb dX4_readCondition_65 rfl (fun c_25 => absurd c_25 (by decide +kernel)) (fun c_25 => ?_)
          refine lv_iload hx hb dX4_readCondition_68 (lv_at hl 2 rfl) ?_
          refine lv_if_eq (tgt := 79) hx hb dX4_readCondition_70 rfl (fun c_26 => ?_) (fun c_26 => ?_)
          · have g_27 : RG j9_l5 0 0 := RG_eq1 g_j9_l5 (RG_k 0 0 rfl) c_26 (by decide +kernel)
            exact hU _ _ _ (J79 x_16 j55_h1_f3 j55_h0_f1 j55_h0_0c g_h0_f1 g_h1_f1 g_h1_f2 g_h1_f3 g_j55_h0_f1 h_18 g_j55_h1_f3 g_j9_h0_f1 g_j9_h1_f2 g_j9_h1_f3 g_j9_l4 (RG_w g_27 (by decide +kernel)) g_j9_l6 _ _ _ hP hD hS (lv_sub hl [0, 1, 3, 4, 5, 6] rfl))
          · have g_28 : RG j9_l5 1 1 := RG_ne1 g_j9_l5 (q := 0) rfl c_26 (by decide +kernel)
            refine lv_aload_n hx hb dX4_readCondition_73 rfl (lv_at hl 3 rfl) ?_
            refine lv_bipush (v := (-124)) hx hb dX4_readCondition_74 kc_bipush_m124 ?_
            obtain ⟨hPc, hDc, hFc, hqc⟩ := cl_cut (wc := (wd_c_X4_emit h0 h0_0 j55_h0_f1 h0_2 h0_0 h0_0k j55_h0_0c)) hP hD hS hA [2, 3] (by decide +kernel) rfl
            have hKc := hK.sub (tys' := [(h0_0k, .int)]) [1] rfl
            have hrv := va_recv hKc hPc (ci := 4) (q0 := 0) rfl rfl
            refine va_callv (va_runV (As := [.int (-124)]) (rest := []) ⟨hx, hb, hml, hown, hts⟩ (c_X4_emit l dC dI H.size h0 (-124) h0_0 j55_h0_f1 h0_2 h0_0k j55_h0_0c g_j55_h0_f1) (cwV 1 hts gf_c_X4_readCondition_3_c_X4_emit rfl rfl rfl mdV_X4_emit ⟨Nat.le_of_ble_eq_true rfl, Nat.le_of_ble_eq_true rfl⟩) ⟨fun a U g mk q => by obtain ⟨q0, q1, qP, qK, qD⟩ := q; exact ⟨q0, q1, qP, va_K.moved (u := U) (U := U.calling g mk a) (Vm.Alike.refl U.vm) qK, qD⟩, hrv, fun U hU hW => ⟨rfl, by rw [hU], by rw [hU]; exact hPc, va_K.moved hW.alike hKc, hDc.weaken (fun _ _ _ _ => trivial)⟩⟩ rfl rfl hl.1 rfl (lv_room (Nat.le_of_ble_eq_true rfl)) dX4_readCondition_76 ⟨Nat.le_of_ble_eq_true rfl, Nat.le_of_ble_eq_true rfl⟩) hS (fun q _ h => hFc q h) hFc (fun u t H1 locs ht hvm hw hB hz1 hk1 hS => ?_)
            as_aux_lemma =>
            obtain ⟨x_30, w_31⟩ := u
            obtain ⟨hP1, hK1, hD1⟩ := hB
            rw [ht] at hP1
            obtain ⟨hP, hD⟩ := cl_put (w1 := (wd_c_X4_emit h0 h0_0 x_30 h0_2 h0_0 h0_0k w_31)) (nw := (wd_c_X4_readCondition_3 h1 h1_0 h1_f1 x_16 j55_h1_f3 h1_0 h1_0k h1_0c h0 h0_0 x_30 h0_2 h0_0 h0_0k w_31)) hP hD [2, 3] [0, 1, 4, 5] 4 rfl hqc (by decide +kernel) rfl hk1 hFc hP1 hD1
            generalize H1 = H at hP hS ⊢
            as_aux_lemma =>
            have h_32 := hw
            exact hU _ _ _ (J79 x_16 j55_h1_f3 x_30 w_31 g_h0_f1 g_h1_f1 g_h1_f2 g_h1_f3 (RG_w h_32 (by decide +kernel)) h_18 g_j55_h1_f3 g_j9_h0_f1 g_j9_h1_f2 g_j9_h1_f3 g_j9_l4 (RG_w g_28 (by decide +kernel)) g_j9_l6 _ _ _ hP hD hS (lv_sub hl [0, 1, 3, 4, 5, 6] rfl))
        · rw [h_20]
          refine lv_istore (lv' := [(4, .int 1), (6, .int j9_l6), (5, .int j9_l5), (0, .ref h0), (1, .ref h1), (2, .int 3), (3, .int 0)]) hx hb dX4_readCondition_61 hl (Nat.le_of_ble_eq_true rfl) rfl (fun ls hl => ?_)
          refine lv_iload hx hb dX4_readCondition_63 (lv_at hl 0 rfl) ?_
          refine lv_if_ne (tgt := 93) hx hb dX4_readCondition_65 rfl (fun c_33 => ?_) (fun c_33 => absurd c_33 (by decide +kernel))
          exact hU _ _ _ (J93 1 j9_l5 x_16 j55_h1_f3 j55_h0_f1 j55_h0_0c g_h0_f1 h_22 g_h1_f2 g_h1_f3 g_j55_h0_f1 h_21 h_23 (RG_w (RG_k 1 1 rfl) (by decide +kernel)) g_j9_l5 g_j9_h0_f1 g_j9_h1_f2 g_j9_h1_f3 g_j9_l4 g_j9_l5 g_j9_l6 _ _ _ hP hD hS (lv_sub hl [0, 1, 2, 3, 4, 5, 6] rfl))
      have J41 : ∀ (g_h0_f1 : RG h0_f1 0 240) (g_h1_f1 : RG h1_f1 0 240) (g_h1_f2 : RG h1_f2 0 240) (g_h1_f3 : RG h1_f3 (-1) 240) (g_j9_h0_f1 : RG j9_h0_f1 0 240) (g_j9_h1_f2 : RG j9_h1_f2 0 240) (g_j9_h1_f3 : RG j9_h1_f3 (-1) (-1)) (g_j9_l4 : RG j9_l4 0 1) (g_j9_l5 : RG j9_l5 0 1) (g_j9_l6 : RG j9_l6 0 239) (H : Heap) (locs : List Loc) (ls : Array Slot) (hP : va_P (dC, dI) vwCl (wd_c_X4_readCondition_3 h1 h1_0 h1_f1 j9_h1_f2 j9_h1_f3 h1_0 h1_0k h1_0c h0 h0_0 j9_h0_f1 h0_2 h0_0 h0_0k j9_h0_0c) H) (hD : va_D A (wd_c_X4_readCondition_3 h1 h1_0 h1_f1 j9_h1_f2 j9_h1_f3 h1_0 h1_0k h1_0c h0 h0_0 j9_h0_f1 h0_2 h0_0 h0_0k j9_h0_0c)) (hS : va_S A s.heap H locs) (hl : lv_has ls 7 [(6, .int j9_l6), (5, .int j9_l5), (4, .int j9_l4), (0, .ref h0), (1, .ref h1), (2, .int 3), (3, .int 0)]), G H locs (F0 m 41 ls [.int 0, .int 3, .ref h1, .ref h0]) := by
        as_aux_lemma =>
        intro g_h0_f1 g_h1_f1 g_h1_f2 g_h1_f3 g_j9_h0_f1 g_j9_h1_f2 g_j9_h1_f3 g_j9_l4 g_j9_l5 g_j9_l6 H locs ls hP hD hS hl
        refine hG _ _ _ ?_
        obtain ⟨hPc, hDc, hFc, hqc⟩ := cl_cut (wc := (wd_c_X4_readUnit_4 h1 h1_0 h1_f1 j9_h1_f2 j9_h1_f3 h1_0 h1_0k h1_0c h0 h0_0 j9_h0_f1 h0_2 h0_0 h0_0k j9_h0_0c)) hP hD hS hA [0, 1, 2, 3] (by decide +kernel) rfl
        have hKc := hK.sub (tys' := [(h1_0k, .int), (h0_0k, .int)]) [0, 1] rfl
        have hrv := va_recv hKc hPc (ci := 4) (q0 := 2) rfl rfl
        refine va_callv (va_runV (As := [.ref h1, .int 3, .int 0]) (rest := []) ⟨hx, hb, hml, hown, hts⟩ (c_X4_readUnit_4 l dC dI H.size h0 h1 h1_0 h1_f1 j9_h1_f2 j9_h1_f3 h1_0k h1_0c h0_0 j9_h0_f1 h0_2 h0_0k j9_h0_0c ts4 tv4 g_h1_f1 g_j9_h1_f2 (RG_w g_j9_h1_f3 (by decide +kernel)) a_h1_0c g_j9_h0_f1) (cwV 3 hts gf_c_X4_readCondition_3_c_X4_readUnit_4 rfl rfl rfl mdV_X4_readUnit ⟨Nat.le_of_ble_eq_true rfl, Nat.le_of_ble_eq_true rfl⟩) ⟨fun a U g mk q => by obtain ⟨q0, q1, qP, qK, qD, qE0, qE1, qE2, qE3, qE4, qE5⟩ := q; exact ⟨q0, q1, qP, va_K.moved (u := U) (U := U.calling g mk a) (Vm.Alike.refl U.vm) qK, qD, vk_R.same rfl qE0, va_Z.moved (u := U) (U := U.calling g mk a) (Vm.Alike.refl U.vm) qE1, va_OF.moved (u := U) (U := U.calling g mk a) (Vm.Alike.refl U.vm) qE2, va_O.moved (u := U) (U := U.calling g mk a) (Vm.Alike.refl U.vm) qE3, va_OF.moved (u := U) (U := U.calling g mk a) (Vm.Alike.refl U.vm) qE4, va_T.moved (u := U) (U := U.calling g mk a) (Vm.Alike.refl U.vm) qE5⟩, hrv, fun U hU hW => ⟨rfl, by rw [hU], by rw [hU]; exact hPc, va_K.moved hW.alike hKc, hDc.weaken (fun _ _ _ _ => trivial), vk_R.warm hW hE_32, va_Z.moved hW.alike (by rw [hU]; exact (hE_10.kept hS.2.1).narrow hFc), va_OF.moved hW.alike (by rw [hU]; exact (hE_34.kept hS.2.1).narrow hFc), va_O.moved hW.alike (by rw [hU]; exact (hE_33.kept hS.2.1).narrow hFc), va_OF.moved hW.alike (by rw [hU]; exact (hE_35.kept hS.2.1).narrow hFc), va_T.moved hW.alike (by rw [hU]; exact (hE_36.kept hS.2.1).narrow hFc)⟩⟩ rfl rfl hl.1 rfl (lv_room (Nat.le_of_ble_eq_true rfl)) dX4_readCondition_41 ⟨Nat.le_of_ble_eq_true rfl, Nat.le_of_ble_eq_true rfl⟩) hS (fun q _ h => hFc q h) hFc (fun u t H1 locs ht hvm hw hB hz1 hk1 hS => ?_)
        obtain ⟨x_35, x_36, x_37, w_38⟩ := u
        obtain ⟨hP1, hK1, hD1⟩ := hB
        rw [ht] at hP1
        obtain ⟨hP, hD⟩ := cl_put (w1 := (wd_c_X4_readUnit_4 h1 h1_0 h1_f1 x_35 x_36 h1_0 h1_0k h1_0c h0 h0_0 x_37 h0_2 h0_0 h0_0k w_38)) (nw := (wd_c_X4_readCondition_3 h1 h1_0 h1_f1 x_35 x_36 h1_0 h1_0k h1_0c h0 h0_0 x_37 h0_2 h0_0 h0_0k w_38)) hP hD [0, 1, 2, 3] [4, 5, 6, 7] 4 rfl hqc (by decide +kernel) rfl hk1 hFc hP1 hD1
        generalize H1 = H at hP hS ⊢
        as_aux_lemma =>
        rcases hw with ⟨h_39, h_40, h_41⟩
        refine lv_iload hx hb dX4_readCondition_44 (lv_at hl 2 rfl) ?_
        refine lv_if_eq (tgt := 55) hx hb dX4_readCondition_46 rfl (fun c_42 => ?_) (fun c_42 => ?_)
        · have g_43 : RG j9_l4 0 0 := RG_eq1 g_j9_l4 (RG_k 0 0 rfl) c_42 (by decide +kernel)
          exact hU _ _ _ (J55 x_35 x_36 x_37 w_38 g_h0_f1 g_h1_f1 g_h1_f2 g_h1_f3 h_41 h_39 h_40 g_j9_h0_f1 g_j9_h1_f2 g_j9_h1_f3 (RG_w g_43 (by decide +kernel)) g_j9_l5 g_j9_l6 _ _ _ hP hD hS (lv_sub hl [0, 1, 3, 4, 5, 6] rfl))
        · have g_44 : RG j9_l4 1 1 := RG_ne1 g_j9_l4 (q := 0) rfl c_42 (by decide +kernel)
          refine lv_aload_n hx hb dX4_readCondition_49 rfl (lv_at hl 3 rfl) ?_
          refine lv_bipush (v := (-38)) hx hb dX4_readCondition_50 kc_bipush_m38 ?_
          obtain ⟨hPc, hDc, hFc, hqc⟩ := cl_cut (wc := (wd_c_X4_emit h0 h0_0 x_37 h0_2 h0_0 h0_0k w_38)) hP hD hS hA [2, 3] (by decide +kernel) rfl
          have hKc := hK.sub (tys' := [(h0_0k, .int)]) [1] rfl
          have hrv := va_recv hKc hPc (ci := 4) (q0 := 0) rfl rfl
          refine va_callv (va_runV (As := [.int (-38)]) (rest := []) ⟨hx, hb, hml, hown, hts⟩ (c_X4_emit l dC dI H.size h0 (-38) h0_0 x_37 h0_2 h0_0k w_38 h_41) (cwV 1 hts gf_c_X4_readCondition_3_c_X4_emit rfl rfl rfl mdV_X4_emit ⟨Nat.le_of_ble_eq_true rfl, Nat.le_of_ble_eq_true rfl⟩) ⟨fun a U g mk q => by obtain ⟨q0, q1, qP, qK, qD⟩ := q; exact ⟨q0, q1, qP, va_K.moved (u := U) (U := U.calling g mk a) (Vm.Alike.refl U.vm) qK, qD⟩, hrv, fun U hU hW => ⟨rfl, by rw [hU], by rw [hU]; exact hPc, va_K.moved hW.alike hKc, hDc.weaken (fun _ _ _ _ => trivial)⟩⟩ rfl rfl hl.1 rfl (lv_room (Nat.le_of_ble_eq_true rfl)) dX4_readCondition_52 ⟨Nat.le_of_ble_eq_true rfl, Nat.le_of_ble_eq_true rfl⟩) hS (fun q _ h => hFc q h) hFc (fun u t H1 locs ht hvm hw hB hz1 hk1 hS => ?_)
          obtain ⟨x_46, w_47⟩ := u
          obtain ⟨hP1, hK1, hD1⟩ := hB
          rw [ht] at hP1
          obtain ⟨hP, hD⟩ := cl_put (w1 := (wd_c_X4_emit h0 h0_0 x_46 h0_2 h0_0 h0_0k w_47)) (nw := (wd_c_X4_readCondition_3 h1 h1_0 h1_f1 x_35 x_36 h1_0 h1_0k h1_0c h0 h0_0 x_46 h0_2 h0_0 h0_0k w_47)) hP hD [2, 3] [0, 1, 4, 5] 4 rfl hqc (by decide +kernel) rfl hk1 hFc hP1 hD1
          generalize H1 = H at hP hS ⊢
          as_aux_lemma =>
          have h_48 := hw
          exact hU _ _ _ (J55 x_35 x_36 x_46 w_47 g_h0_f1 g_h1_f1 g_h1_f2 g_h1_f3 (RG_w h_48 (by decide +kernel)) h_39 h_40 g_j9_h0_f1 g_j9_h1_f2 g_j9_h1_f3 (RG_w g_44 (by decide +kernel)) g_j9_l5 g_j9_l6 _ _ _ hP hD hS (lv_sub hl [0, 1, 3, 4, 5, 6] rfl))
      have J40 : ∀ (g_h0_f1 : RG h0_f1 0 240) (g_h1_f1 : RG h1_f1 0 240) (g_h1_f2 : RG h1_f2 0 240) (g_h1_f3 : RG h1_f3 (-1) 240) (g_j9_h0_f1 : RG j9_h0_f1 0 240) (g_j9_h1_f2 : RG j9_h1_f2 0 240) (g_j9_h1_f3 : RG j9_h1_f3 (-1) (-1)) (g_j9_l4 : RG j9_l4 0 1) (g_j9_l5 : RG j9_l5 0 1) (g_j9_l6 : RG j9_l6 0 239) (H : Heap) (locs : List Loc) (ls : Array Slot) (hP : va_P (dC, dI) vwCl (wd_c_X4_readCondition_3 h1 h1_0 h1_f1 j9_h1_f2 j9_h1_f3 h1_0 h1_0k h1_0c h0 h0_0 j9_h0_f1 h0_2 h0_0 h0_0k j9_h0_0c) H) (hD : va_D A (wd_c_X4_readCondition_3 h1 h1_0 h1_f1 j9_h1_f2 j9_h1_f3 h1_0 h1_0k h1_0c h0 h0_0 j9_h0_f1 h0_2 h0_0 h0_0k j9_h0_0c)) (hS : va_S A s.heap H locs) (hl : lv_has ls 7 [(6, .int j9_l6), (5, .int j9_l5), (4, .int j9_l4), (0, .ref h0), (1, .ref h1), (2, .int 3), (3, .int 0)]), G H locs (F0 m 40 ls [.int 3, .ref h1, .ref h0]) := by
        as_aux_lemma =>
        intro g_h0_f1 g_h1_f1 g_h1_f2 g_h1_f3 g_j9_h0_f1 g_j9_h1_f2 g_j9_h1_f3 g_j9_l4 g_j9_l5 g_j9_l6 H locs ls hP hD hS hl
        refine hG _ _ _ ?_
        refine lv_iconst (v := 0) hx hb dX4_readCondition_40 kc_iconst_0 ?_
        exact hU _ _ _ (J41 g_h0_f1 g_h1_f1 g_h1_f2 g_h1_f3 g_j9_h0_f1 g_j9_h1_f2 g_j9_h1_f3 g_j9_l4 g_j9_l5 g_j9_l6 _ _ _ hP hD hS (lv_sub hl [0, 1, 2, 3, 4, 5, 6] rfl))
      refine hG _ _ _ ?_
      refine lv_iload hx hb dX4_readCondition_9 (lv_at hl 0 rfl) ?_
      refine lv_sipush (v := 240) hx hb dX4_readCondition_11 kc_sipush_240 ?_
      refine lv_icmp_ge (tgt := 99) hx hb dX4_readCondition_14 rfl (fun c_49 => ?_) (fun c_49 => ?_)
      · have g_50 : RG j9_l6 240 240 := RG_le2 (RG_k 240 240 rfl) g_j9_l6 c_49 (by decide +kernel)
        have hK9 := hK.sub (tys' := []) [] rfl
        exact W.vret hx hb hr (fun t ht hW => ⟨⟨(j9_h1_f2, j9_h1_f3, j9_h0_f1, j9_h0_0c), rfl, ⟨g_j9_h1_f2, g_j9_h1_f3, g_j9_h0_f1⟩, by rw [ht]; exact hP, va_K.moved hW.alike hK9, hD⟩, hS.F ht⟩) hS.2.2 dX4_readCondition_99
      · have d_51 := Int32.not_le.mp c_49
        have g_52 : RG j9_l6 0 239 := RG_lt1 g_j9_l6 (RG_k 240 240 rfl) d_51 (by decide +kernel)
        refine lv_aload_n hx hb dX4_readCondition_17 rfl (lv_at hl 4 rfl) ?_
        as_aux_lemma =>
        obtain ⟨hPc, hDc, hFc, hqc⟩ := cl_cut (wc := (wd_c_X9_isRight h1 h1_0 h1_f1 j9_h1_f2 j9_h1_f3)) hP hD hS hA [0] (by decide +kernel) rfl
        have hKc := hK.sub (tys' := []) [] rfl
        have hrv := va_recv hKc hPc (ci := 9) (q0 := 0) rfl rfl
        refine va_calli (va_runV (As := []) (rest := []) ⟨hx, hb, hml, hown, hts⟩ (c_X9_isRight l dC dI H.size h1 h1_0 h1_f1 j9_h1_f2 j9_h1_f3 g_h1_f1 g_j9_h1_f2 g_j9_h1_f3) (cwV 0 hts gf_c_X4_readCondition_3_c_X9_isRight rfl rfl rfl mdV_X9_isRight ⟨Nat.le_of_ble_eq_true rfl, Nat.le_of_ble_eq_true rfl⟩) ⟨fun a U g mk q => by obtain ⟨q0, q1, qP, qK, qD⟩ := q; exact ⟨q0, q1, qP, va_K.moved (u := U) (U := U.calling g mk a) (Vm.Alike.refl U.vm) qK, qD⟩, hrv, fun U hU hW => ⟨rfl, by rw [hU], by rw [hU]; exact hPc, va_K.moved hW.alike hKc, hDc.weaken (fun _ _ _ _ => trivial)⟩⟩ rfl rfl hl.1 rfl (lv_room (Nat.le_of_ble_eq_true rfl)) dX4_readCondition_18 ⟨Nat.le_of_ble_eq_true rfl, Nat.le_of_ble_eq_true rfl⟩) hS (fun q _ h => hFc q h) hFc (fun r_53 u t H1 locs ht hvm hw hB hz1 hk1 hS => ?_)
        obtain ⟨hP1, hK1, hD1⟩ := hB
        rw [ht] at hP1
        obtain ⟨hP, hD⟩ := cl_put (w1 := (wd_c_X9_isRight h1 h1_0 h1_f1 j9_h1_f2 j9_h1_f3)) (nw := (wd_c_X4_readCondition_3 h1 h1_0 h1_f1 j9_h1_f2 j9_h1_f3 h1_0 h1_0k h1_0c h0 h0_0 j9_h0_f1 h0_2 h0_0 h0_0k j9_h0_0c)) hP hD [0] [4, 1, 2, 3] 4 rfl hqc (by decide +kernel) rfl hk1 hFc hP1 hD1
        generalize H1 = H at hP hS ⊢
        as_aux_lemma =>
        rcases hw with ⟨h_54, h_55⟩ | ⟨h_56, h_57⟩
        · rw [h_54]
          refine lv_if_eq (tgt := 99) hx hb dX4_readCondition_21 rfl (fun c_58 => ?_) (fun c_58 => absurd c_58 (by decide +kernel))
          have hK9 := hK.sub (tys' := []) [] rfl
          exact W.vret hx hb hr (fun t ht hW => ⟨⟨(j9_h1_f2, j9_h1_f3, j9_h0_f1, j9_h0_0c), rfl, ⟨g_j9_h1_f2, (RG_w h_55 (by decide +kernel)), g_j9_h0_f1⟩, by rw [ht]; exact hP, va_K.moved hW.alike hK9, hD⟩, hS.F ht⟩) hS.2.2 dX4_readCondition_99
        · rw [h_56]
          refine lv_if_eq (tgt := 99) hx hb dX4_readCondition_21 rfl (fun c_59 => absurd c_59 (by decide +kernel)) (fun c_59 => ?_)
          refine lv_aload_n hx hb dX4_readCondition_24 rfl (lv_at hl 3 rfl) ?_
          refine lv_aload_n hx hb dX4_readCondition_25 rfl (lv_at hl 4 rfl) ?_
          refine lv_iload_n hx hb dX4_readCondition_26 rfl (lv_at hl 5 rfl) ?_
          refine lv_iload_n hx hb dX4_readCondition_27 rfl (lv_at hl 6 rfl) ?_
          refine lv_if_eq (tgt := 40) hx hb dX4_readCondition_28 rfl (fun c_60 => ?_) (fun c_60 => absurd c_60 (by decide +kernel))
          exact hU _ _ _ (J40 g_h0_f1 g_h1_f1 g_h1_f2 g_h1_f3 g_j9_h0_f1 g_j9_h1_f2 h_57 g_j9_l4 g_j9_l5 g_52 _ _ _ hP hD hS (lv_sub hl [0, 1, 2, 3, 4, 5, 6] rfl))
  refine hG _ _ _ ?_
  as_aux_lemma =>
  refine lv_iconst (v := 0) hx hb dX4_readCondition_0 kc_iconst_0 ?_
  refine lv_istore (lv' := [(4, .int 0), (0, .ref h0), (1, .ref h1), (2, .int 3), (3, .int 0)]) hx hb dX4_readCondition_1 hl (Nat.le_of_ble_eq_true rfl) rfl (fun ls hl => ?_)
  refine lv_iconst (v := 0) hx hb dX4_readCondition_3 kc_iconst_0 ?_
  refine lv_istore (lv' := [(5, .int 0), (4, .int 0), (0, .ref h0), (1, .ref h1), (2, .int 3), (3, .int 0)]) hx hb dX4_readCondition_4 hl (Nat.le_of_ble_eq_true rfl) rfl (fun ls hl => ?_)
  refine lv_iconst (v := 0) hx hb dX4_readCondition_6 kc_iconst_0 ?_
  refine lv_istore (lv' := [(6, .int 0), (5, .int 0), (4, .int 0), (0, .ref h0), (1, .ref h1), (2, .int 3), (3, .int 0)]) hx hb dX4_readCondition_7 hl (Nat.le_of_ble_eq_true rfl) rfl (fun ls hl => ?_)
  exact hU _ _ _ (J9 _ 0 0 0 h1_f2 h1_f3 h0_f1 h0_0c (Nat.lt_succ_self _) g_h0_f1 g_h1_f1 g_h1_f2 g_h1_f3 g_h0_f1 g_h1_f2 g_h1_f3 (RG_w (RG_k 0 0 rfl) (by decide +kernel)) (RG_w (RG_k 0 0 rfl) (by decide +kernel)) (RG_w (RG_k 0 0 rfl) (by decide +kernel)) _ _ _ hP hD hS (lv_sub hl [0, 1, 2, 3, 4, 5, 6] rfl))
