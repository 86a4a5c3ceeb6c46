noncomputable def wd_c_X4_readCondition_5 (a0 : Nat) (a1 : Nat) (a2 : Int32) (a3 : Int32) (a4 : Int32) (a5 : Nat) (a6 : ClassId) (a7 : Nat → Int32) (a8 : Nat) (a9 : Nat) (a10 : Int32) (a11 : Nat) (a12 : Nat) (a13 : ClassId) (a14 : Nat → Int32) : va_W := [(a0, .inr (9, [.ref a1, .int a2, .int a3, .int a4])), (a5, .inl (a6, 240, .inl a7)), (a8, .inr (4, [.ref a9, .int a10, .ref a11])), (a12, .inl (a13, 240, .inl a14))]
noncomputable def wf_c_X4_readCondition_5 : List Cond := List.cons (.code yX4_readCondition cX4_readCondition 7 none) (@HAppend.hAppend (List Cond) (List Cond) (List Cond) _ (@HAppend.hAppend (List Cond) (List Cond) (List Cond) _ [.methodLink RX4 72 yX9_isRight, .instanceMethod yX9_isRight, .selects RX9 yX9_isRight yX9_isRight, .initialized RX9, .code yX9_isRight cX9_isRight 1 (some .boolean), .fieldLink RX9 15 "BuoyVote$Tape" "wrong" "I", .methodLink RX4 76 yX4_readUnit, .instanceMethod yX4_readUnit, .selects RX4 yX4_readUnit yX4_readUnit, .initialized RX4, .code yX4_readUnit cX4_readUnit 5 none, .methodLink RX4 41 yX9_peek, .instanceMethod yX9_peek, .selects RX9 yX9_peek yX9_peek, .code yX9_peek cX9_peek 1 (some .int), .fieldLink RX9 22 "BuoyVote$Tape" "at" "I", .fieldLink RX9 19 "BuoyVote$Tape" "length" "I", .fieldLink RX9 11 "BuoyVote$Tape" "bytes" "[I", .methodLink RX4 45 yX4_startsUnit, .static yX4_startsUnit, .code yX4_startsUnit cX4_startsUnit 1 (some .boolean), .methodLink RX4 63 yX9_take, .instanceMethod yX9_take, .selects RX9 yX9_take yX9_take, .code yX9_take cX9_take 2 (some .boolean), .methodLink RX9 29 yX9_peek, .methodLink RX4 37 yX9_expect, .instanceMethod yX9_expect, .selects RX9 yX9_expect yX9_expect, .code yX9_expect cX9_expect 2 none, .methodLink RX9 25 yX9_refuse, .instanceMethod yX9_refuse, .selects RX9 yX9_refuse yX9_refuse, .code yX9_refuse cX9_refuse 2 none, .methodLink RX4 56 yX4_readCondition, .instanceMethod yX4_readCondition, .selects RX4 yX4_readCondition yX4_readCondition, .methodLink RX4 82 yX9_refuseHere, .instanceMethod yX9_refuseHere, .selects RX9 yX9_refuseHere yX9_refuseHere, .code yX9_refuseHere cX9_refuseHere 1 none, .methodLink RX4 49 yX4_readSum, .instanceMethod yX4_readSum, .selects RX4 yX4_readSum yX4_readSum, .code yX4_readSum cX4_readSum 6 none, .methodLink RX4 85 yX4_readAtom, .instanceMethod yX4_readAtom, .selects RX4 yX4_readAtom yX4_readAtom, .code yX4_readAtom cX4_readAtom 6 none, .methodLink RX4 93 yJ0_indexOf_0f7a4, .instanceMethod yJ0_indexOf_0f7a4, .selects RJ0 yJ0_indexOf_0f7a4 yJ0_indexOf_0f7a4, .initialized RJ0, .code yJ0_indexOf_0f7a4 cJ0_indexOf_0f7a4 2 (some .int), .methodLink RJ0 633 yJ0_indexOf_7cf53, .instanceMethod yJ0_indexOf_7cf53, .selects RJ0 yJ0_indexOf_7cf53 yJ0_indexOf_7cf53, .code yJ0_indexOf_7cf53 cJ0_indexOf_7cf53 3 (some .int), .methodLink RJ0 492 yJ0_isLatin1_aae02, .instanceMethod yJ0_isLatin1_aae02, .selects RJ0 yJ0_isLatin1_aae02 yJ0_isLatin1_aae02, .code yJ0_isLatin1_aae02 cJ0_isLatin1_aae02 1 (some .boolean), .fieldLink RJ0 38 "java/lang/String" "COMPACT_STRINGS" "Z", .fieldLink RJ0 15 "java/lang/String" "coder" "B", .fieldLink RJ0 9 "java/lang/String" "value" "[B", .methodLink RJ0 505 yJ0_length_8abf5, .instanceMethod yJ0_length_8abf5, .selects RJ0 yJ0_length_8abf5 yJ0_length_8abf5, .code yJ0_length_8abf5 cJ0_length_8abf5 1 (some .int), .methodLink RJ0 335 yJ0_coder_7d493, .instanceMethod yJ0_coder_7d493, .selects RJ0 yJ0_coder_7d493 yJ0_coder_7d493, .code yJ0_coder_7d493 cJ0_coder_7d493 1 (some .byte), .methodLink RJ0 637 yJ1_indexOf_4cfef, .static yJ1_indexOf_4cfef, .initialized RJ1, .code yJ1_indexOf_4cfef cJ1_indexOf_4cfef 4 (some .int), .methodLink RJ1 88 yJ1_canEncode_9a6ad, .static yJ1_canEncode_9a6ad, .code yJ1_canEncode_9a6ad cJ1_canEncode_9a6ad 1 (some .boolean), .methodLink RJ1 92 Lib.Math.max.name, .static Lib.Math.max.name, .initialized "java/lang/Math", .code Lib.Math.max.name Lib.Math.max.code 2 (some .int), .methodLink RJ1 38 Lib.Math.min.name, .static Lib.Math.min.name, .code Lib.Math.min.name Lib.Math.min.code 2 (some .int), .methodLink RJ1 95 yJ1_indexOfChar_4cfef, .static yJ1_indexOfChar_4cfef, .code yJ1_indexOfChar_4cfef cJ1_indexOfChar_4cfef 6 (some .int), .methodLink RX4 99 yX9_number, .instanceMethod yX9_number, .selects RX9 yX9_number yX9_number, .code yX9_number cX9_number 4 (some .int), .methodLink RX4 79 yX9_skip, .instanceMethod yX9_skip, .selects RX9 yX9_skip yX9_skip, .code yX9_skip cX9_skip 1 none, .methodLink RX4 60 yX4_emit, .instanceMethod yX4_emit, .selects RX4 yX4_emit yX4_emit, .code yX4_emit cX4_emit 2 none, .fieldLink RX4 20 "BuoyVote$Law" "length" "I", .fieldLink RX4 11 "BuoyVote$Law" "code" "[I", .methodLink RX4 88 yX9_takeEither, .instanceMethod yX9_takeEither, .selects RX9 yX9_takeEither yX9_takeEither, .code yX9_takeEither cX9_takeEither 4 (some .int), .methodLink RX4 53 yX4_isComparison, .static yX4_isComparison, .code yX4_isComparison cX4_isComparison 1 (some .boolean)] wsX90) wsX40)
theorem iw_c_X4_readCondition_5_X9 : ∀ w ∈ wsX90, w ∈ wf_c_X4_readCondition_5 := fun w h => List.mem_cons_of_mem _ (List.mem_append_left _ (List.mem_append_right _ h))
theorem iw_c_X4_readCondition_5_X4 : ∀ w ∈ wsX40, w ∈ wf_c_X4_readCondition_5 := fun w h => List.mem_cons_of_mem _ (List.mem_append_right _ h)
set_option maxRecDepth 20000 in
theorem gf_c_X4_readCondition_5_c_X9_take_1 : GoodIn wf_c_X4_readCondition_5 (wsV RX4 63 RX9 yX9_take wf_c_X9_take_1) := goodIn_app (gi_l [22, 23, 24, 4] rfl rfl) (gi_cons (j := 25) rfl rfl (goodIn_app (gi_l [6, 26, 13, 14, 4, 15, 16, 17, 18] rfl rfl) (goodIn_sub iw_c_X4_readCondition_5_X9 gw_X9)))
set_option maxRecDepth 20000 in
theorem gf_c_X4_readCondition_5_c_X9_take : GoodIn wf_c_X4_readCondition_5 (wsV RX4 63 RX9 yX9_take wf_c_X9_take) := goodIn_app (gi_l [22, 23, 24, 4] rfl rfl) (gi_cons (j := 25) rfl rfl (goodIn_app (gi_l [6, 26, 13, 14, 4, 15, 16, 17, 18] rfl rfl) (goodIn_sub iw_c_X4_readCondition_5_X9 gw_X9)))
set_option maxRecDepth 20000 in
theorem gf_c_X4_readCondition_5_c_X4_emit : GoodIn wf_c_X4_readCondition_5 (wsV RX4 60 RX4 yX4_emit wf_c_X4_emit) := goodIn_app (gi_l [99, 100, 101, 10] rfl rfl) (gi_cons (j := 102) rfl rfl (goodIn_app (gi_l [103, 104] rfl rfl) (goodIn_sub iw_c_X4_readCondition_5_X4 gw_X4)))
set_option maxRecDepth 20000 in
theorem gf_c_X4_readCondition_5_c_X4_readUnit_6 : GoodIn wf_c_X4_readCondition_5 (wsV RX4 76 RX4 yX4_readUnit wf_c_X4_readUnit_6) := goodIn_app (gi_l [7, 8, 9, 10] rfl rfl) (gi_cons (j := 11) rfl rfl (goodIn_app (goodIn_app (gi_l [12, 13, 14, 4, 15, 16, 17, 18, 19, 20, 10, 21, 22, 23, 24, 25, 6, 26, 27, 28, 29, 30, 31, 32, 33, 34, 35, 36, 37, 0, 1, 2, 3, 5, 7, 8, 9, 38, 39, 40, 41, 42, 43, 44, 45, 46, 47, 48, 49, 50, 51, 52, 53, 54, 55, 56, 57, 58, 59, 60, 61, 62, 63, 64, 65, 66, 67, 68, 69, 70, 71, 72, 73, 74, 75, 76, 77, 78, 79, 80, 81, 82, 83, 84, 85, 86, 87, 88, 89, 90, 91, 92, 93, 94, 95, 96, 97, 98, 99, 100, 101, 102, 103, 104, 105, 106, 107, 108, 109, 110, 111] rfl rfl) (goodIn_sub iw_c_X4_readCondition_5_X9 gw_X9)) (goodIn_sub iw_c_X4_readCondition_5_X4 gw_X4)))
set_option maxRecDepth 20000 in
theorem gf_c_X4_readCondition_5_c_X9_isRight : GoodIn wf_c_X4_readCondition_5 (wsV RX4 72 RX9 yX9_isRight wf_c_X9_isRight) := goodIn_app (gi_l [1, 2, 3, 4] rfl rfl) (gi_cons (j := 5) rfl rfl (goodIn_app (gi_l [6] rfl rfl) (goodIn_sub iw_c_X4_readCondition_5_X9 gw_X9)))
set_option maxHeartbeats 4000000 in
set_option maxRecDepth 100000 in
theorem c_X4_readCondition_5 (l : Launch) (dC : Nat → ClassId) (dI : Nat → Nat → Nat) (sz : Nat) (h0 : Nat) (h1 : Nat) (h1_0 : Nat) (h1_f1 : Int32) (h1_f2 : Int32) (h1_f3 : Int32) (h1_0k : ClassId) (h1_0c : Nat → Int32) (h0_0 : Nat) (h0_f1 : Int32) (h0_2 : Nat) (h0_0k : ClassId) (h0_0c : Nat → Int32) (ts4 : Nat) (tv4 : Nat) (g_h1_f1 : RG h1_f1 0 240) (g_h1_f2 : RG h1_f2 0 240) (g_h1_f3 : RG h1_f3 (-1) 240) (a_h1_0c : AI h1_0c 0 255) (g_h0_f1 : RG h0_f1 0 240) : Met l yX4_readCondition wf_c_X4_readCondition_5 ({ frames := 9, cells := 0, slots := 0, locals := 215 }) (va_Pc [.ref h0, .ref h1, .int 5, .int 0] (fun U => U.heap.size = sz ∧ va_P (dC, dI) vwCl (wd_c_X4_readCondition_5 h1 h1_0 h1_f1 h1_f2 h1_f3 h1_0 h1_0k h1_0c h0 h0_0 h0_f1 h0_2 h0_0 h0_0k h0_0c) U.heap ∧ va_K (dC, dI) vwCl [(h1_0k, .int), (h0_0k, .int)] U ∧ va_D (fun _ => True) (wd_c_X4_readCondition_5 h1 h1_0 h1_f1 h1_f2 h1_f3 h1_0 h1_0k h1_0c h0 h0_0 h0_f1 h0_2 h0_0 h0_0k h0_0c) ∧ vk_R RX4 91 "vlrdph" ts4 U ∧ va_Z "java/lang/String" "COMPACT_STRINGS" "Z" (.int 1) (va_A (wd_c_X4_readCondition_5 h1 h1_0 h1_f1 h1_f2 h1_f3 h1_0 h1_0k h1_0c h0 h0_0 h0_f1 h0_2 h0_0 h0_0k h0_0c) sz) U U.heap ∧ va_OF "java/lang/String" "coder" "B" (.int 0) ts4 (va_A (wd_c_X4_readCondition_5 h1 h1_0 h1_f1 h1_f2 h1_f3 h1_0 h1_0k h1_0c h0 h0_0 h0_f1 h0_2 h0_0 h0_0k h0_0c) sz) U U.heap ∧ va_O "java/lang/String" ts4 (va_A (wd_c_X4_readCondition_5 h1 h1_0 h1_f1 h1_f2 h1_f3 h1_0 h1_0k h1_0c h0 h0_0 h0_f1 h0_2 h0_0 h0_0k h0_0c) sz) U U.heap ∧ va_OF "java/lang/String" "value" "[B" (.ref tv4) ts4 (va_A (wd_c_X4_readCondition_5 h1 h1_0 h1_f1 h1_f2 h1_f3 h1_0 h1_0k h1_0c h0 h0_0 h0_f1 h0_2 h0_0 h0_0k h0_0c) sz) U U.heap ∧ va_T .byte tv4 6 (fun j => .int ([118, 108, 114, 100, 112, 104].getD j 0)) (va_A (wd_c_X4_readCondition_5 h1 h1_0 h1_f1 h1_f2 h1_f3 h1_0 h1_0k h1_0c h0 h0_0 h0_f1 h0_2 h0_0 h0_0k h0_0c) sz) U U.heap)) (va_Qv (fun (u : (Int32) × (Int32) × (Int32) × (Nat → Int32)) => (RG u.1 0 240 ∧ RG u.2.1 (-1) 240 ∧ RG u.2.2.1 0 240 ∧ (u.1, u.2.1, u.2.2.1, u.2.2.2) = fx_c_X4_readCondition_5 h1_f1 h1_f2 h1_f3 h1_0c h0_f1 h0_0c)) (fun (u : (Int32) × (Int32) × (Int32) × (Nat → Int32)) t => va_P (dC, dI) vwCl (wd_c_X4_readCondition_5 h1 h1_0 h1_f1 (u.1) (u.2.1) h1_0 h1_0k h1_0c h0 h0_0 (u.2.2.1) h0_2 h0_0 h0_0k (u.2.2.2)) t.heap ∧ va_K (dC, dI) vwCl [] t ∧ va_D (va_A (wd_c_X4_readCondition_5 h1 h1_0 h1_f1 h1_f2 h1_f3 h1_0 h1_0k h1_0c h0 h0_0 h0_f1 h0_2 h0_0 h0_0k h0_0c) sz) (wd_c_X4_readCondition_5 h1 h1_0 h1_f1 (u.1) (u.2.1) h1_0 h1_0k h1_0c h0 h0_0 (u.2.2.1) h0_2 h0_0 h0_0k (u.2.2.2))) (va_A (wd_c_X4_readCondition_5 h1 h1_0 h1_f1 h1_f2 h1_f3 h1_0 h1_0k h1_0c h0 h0_0 h0_f1 h0_2 h0_0 h0_0k h0_0c) sz)) 0 0 (va_A (wd_c_X4_readCondition_5 h1 h1_0 h1_f1 h1_f2 h1_f3 h1_0 h1_0k h1_0c h0 h0_0 h0_f1 h0_2 h0_0 h0_0k h0_0c) sz) := by
  refine Met.ofW (cc := cX4_readCondition) (maxL := 7) (ret := none) (by decide +kernel) rfl ?_
  intro p e s m args below meth c s₁ B hml hv
  obtain ⟨rfl, hsz, hP, hK, hD0, hE_32, hE_10, hE_34, hE_33, hE_35, hE_36⟩ := hv
  have hx := B.exec
  have hb := B.bytes
  have hr := B.returns
  have hts := atoms_spec (ws := wf_c_X4_readCondition_5) B.pre
  have hown : s.vm.findClass RX4 = some m.cls := findClass_of_methodNamed B.named
  have hlocks := B.notSynchronized
  subst hsz
  have hD := hD0.self (sz := s.heap.size)
  generalize hAe : va_A (wd_c_X4_readCondition_5 h1 h1_0 h1_f1 h1_f2 h1_f3 h1_0 h1_0k h1_0c h0 h0_0 h0_f1 h0_2 h0_0 h0_0k h0_0c) s.heap.size = A at hD hE_10 hE_34 hE_33 hE_35 hE_36 ⊢
  have hA : ∀ q : Nat, s.heap.size ≤ q → A q := fun q h => by rw [← hAe]; exact Or.inr h
  have hP : va_P (dC, dI) vwCl (wd_c_X4_readCondition_5 h1 h1_0 h1_f1 h1_f2 h1_f3 h1_0 h1_0k h1_0c h0 h0_0 h0_f1 h0_2 h0_0 h0_0k h0_0c) s.heap := hP
  have hl := lv_entry ([.ref h0, .ref h1, .int 5, .int 0]) (n := 7) (Nat.le_of_ble_eq_true rfl)
  rw [lg_entry_eq]
  generalize (lg_sl ([.ref h0, .ref h1, .int 5, .int 0]) ++ List.replicate (7 - (lg_sl ([.ref h0, .ref h1, .int 5, .int 0])).length) Slot.unset).toArray = ls at hl ⊢
  have hl : lv_has ls 7 [(0, .ref h0), (1, .ref h1), (2, .int 5), (3, .int 0)] := hl
  obtain ⟨H, hHe⟩ : ∃ H : Heap, s.heap = H := ⟨_, rfl⟩
  have hS : va_S A s.heap H [] := by rw [hHe]; exact va_S.rf
  have hP : va_P (dC, dI) vwCl (wd_c_X4_readCondition_5 h1 h1_0 h1_f1 h1_f2 h1_f3 h1_0 h1_0k h1_0c h0 h0_0 h0_f1 h0_2 h0_0 h0_0k h0_0c) H := by rw [← hHe]; exact hP
  rw [hHe]
  obtain ⟨RES, hR⟩ : ∃ z, fx_c_X4_readCondition_5 h1_f1 h1_f2 h1_f3 h1_0c h0_f1 h0_0c = z := ⟨_, rfl⟩
  have hEX : RES = fx_c_X4_readCondition_5 h1_f1 h1_f2 h1_f3 h1_0c h0_f1 h0_0c := hR.symm
  refine wj (fun G hG hU => ?_)
  as_aux_lemma =>
  have J9 : ∀ (n9 : Nat) (j9_l6 : Int32) (j9_l5 : Int32) (j9_l4 : Int32) (j9_h1_f2 : Int32) (j9_h1_f3 : Int32) (j9_h0_f1 : Int32) (j9_h0_0c : Nat → Int32) (hM9 : MU j9_l6 < n9) (g_h0_f1 : RG h0_f1 0 240) (g_h1_f1 : RG h1_f1 0 240) (g_h1_f2 : RG h1_f2 0 240) (g_h1_f3 : RG h1_f3 (-1) 240) (g_j9_h0_f1 : RG j9_h0_f1 0 240) (g_j9_h1_f2 : RG j9_h1_f2 0 240) (g_j9_h1_f3 : RG j9_h1_f3 (-1) 240) (g_j9_l4 : RG j9_l4 0 1) (g_j9_l5 : RG j9_l5 0 1) (g_j9_l6 : RG j9_l6 0 240) (hEX : RES = fx_c_X4_readCondition_5_p9 h1_f1 h1_0c n9 j9_l6 j9_l5 j9_l4 j9_h1_f2 j9_h1_f3 j9_h0_f1 j9_h0_0c) (H : Heap) (locs : List Loc) (ls : Array Slot) (hP : va_P (dC, dI) vwCl (wd_c_X4_readCondition_5 h1 h1_0 h1_f1 j9_h1_f2 j9_h1_f3 h1_0 h1_0k h1_0c h0 h0_0 j9_h0_f1 h0_2 h0_0 h0_0k j9_h0_0c) H) (hD : va_D A (wd_c_X4_readCondition_5 h1 h1_0 h1_f1 j9_h1_f2 j9_h1_f3 h1_0 h1_0k h1_0c h0 h0_0 j9_h0_f1 h0_2 h0_0 h0_0k j9_h0_0c)) (hS : va_S A s.heap H locs) (hl : lv_has ls 7 [(6, .int j9_l6), (5, .int j9_l5), (4, .int j9_l4), (0, .ref h0), (1, .ref h1), (2, .int 5), (3, .int 0)]), G H locs (F0 m 9 ls []) := by
    as_aux_lemma =>
    intro n9
    induction n9 with
    | zero => intros; exact absurd (by assumption) (Nat.not_lt_zero _)
    | succ n9 ih9 =>
      intro j9_l6 j9_l5 j9_l4 j9_h1_f2 j9_h1_f3 j9_h0_f1 j9_h0_0c hM9 g_h0_f1 g_h1_f1 g_h1_f2 g_h1_f3 g_j9_h0_f1 g_j9_h1_f2 g_j9_h1_f3 g_j9_l4 g_j9_l5 g_j9_l6 hEX H locs ls hP hD hS hl
      have J93 : ∀ (j93_l4 : Int32) (j93_l5 : Int32) (j93_h1_f2 : Int32) (j93_h1_f3 : Int32) (j93_h0_f1 : Int32) (j93_h0_0c : Nat → Int32) (g_h0_f1 : RG h0_f1 0 240) (g_h1_f1 : RG h1_f1 1 240) (g_h1_f2 : RG h1_f2 0 240) (g_h1_f3 : RG h1_f3 (-1) 240) (g_j93_h0_f1 : RG j93_h0_f1 0 240) (g_j93_h1_f2 : RG j93_h1_f2 1 240) (g_j93_h1_f3 : RG j93_h1_f3 (-1) (-1)) (g_j93_l4 : RG j93_l4 0 1) (g_j93_l5 : RG j93_l5 0 1) (g_j9_h0_f1 : RG j9_h0_f1 0 240) (g_j9_h1_f2 : RG j9_h1_f2 0 240) (g_j9_h1_f3 : RG j9_h1_f3 (-1) (-1)) (g_j9_l4 : RG j9_l4 0 1) (g_j9_l5 : RG j9_l5 0 1) (g_j9_l6 : RG j9_l6 0 239) (hEX : RES = fx_c_X4_readCondition_5_p93 j9_l6 (fx_c_X4_readCondition_5_p9 h1_f1 h1_0c n9) j93_l4 j93_l5 j93_h1_f2 j93_h1_f3 j93_h0_f1 j93_h0_0c) (H : Heap) (locs : List Loc) (ls : Array Slot) (hP : va_P (dC, dI) vwCl (wd_c_X4_readCondition_5 h1 h1_0 h1_f1 j93_h1_f2 j93_h1_f3 h1_0 h1_0k h1_0c h0 h0_0 j93_h0_f1 h0_2 h0_0 h0_0k j93_h0_0c) H) (hD : va_D A (wd_c_X4_readCondition_5 h1 h1_0 h1_f1 j93_h1_f2 j93_h1_f3 h1_0 h1_0k h1_0c h0 h0_0 j93_h0_f1 h0_2 h0_0 h0_0k j93_h0_0c)) (hS : va_S A s.heap H locs) (hl : lv_has ls 7 [(4, .int j93_l4), (6, .int j9_l6), (5, .int j93_l5), (0, .ref h0), (1, .ref h1), (2, .int 5), (3, .int 0)]), G H locs (F0 m 93 ls []) := by
        as_aux_lemma =>
        intro j93_l4 j93_l5 j93_h1_f2 j93_h1_f3 j93_h0_f1 j93_h0_0c g_h0_f1 g_h1_f1 g_h1_f2 g_h1_f3 g_j93_h0_f1 g_j93_h1_f2 g_j93_h1_f3 g_j93_l4 g_j93_l5 g_j9_h0_f1 g_j9_h1_f2 g_j9_h1_f3 g_j9_l4 g_j9_l5 g_j9_l6 hEX H locs ls hP hD hS hl
        refine hG _ _ _ ?_
        obtain ⟨x_1, ex_1⟩ : ∃ y : Int32, y = j9_l6 + 1 := ⟨_, rfl⟩
        have g_2 : RG x_1 1 240 := RG_add ex_1 g_j9_l6 (RG_k 1 1 rfl) (by decide +kernel)
        replace hEX := hEX.trans (exl_eq ex_1)
        refine lv_iinc (v := x_1) (lv' := [(6, .int x_1), (4, .int j93_l4), (5, .int j93_l5), (0, .ref h0), (1, .ref h1), (2, .int 5), (3, .int 0)]) hx hb dX4_readCondition_93 hl (k := 1) rfl (by rw [ex_1]; rfl) (Nat.le_of_ble_eq_true rfl) rfl (fun ls hl => ?_)
        refine lv_goto (tgt := 9) hx hb dX4_readCondition_96 rfl ?_
        exact hU _ _ _ (ih9 x_1 j93_l5 j93_l4 j93_h1_f2 j93_h1_f3 j93_h0_f1 j93_h0_0c (mu_s (MU_add ex_1 g_j9_l6 (q := 1) rfl (by decide +kernel)) hM9) g_h0_f1 (RG_w g_h1_f1 (by decide +kernel)) g_h1_f2 g_h1_f3 g_j93_h0_f1 (RG_w g_j93_h1_f2 (by decide +kernel)) (RG_w g_j93_h1_f3 (by decide +kernel)) g_j93_l4 g_j93_l5 (RG_w g_2 (by decide +kernel)) hEX _ _ _ hP hD hS (lv_sub hl [0, 2, 1, 3, 4, 5, 6] rfl))
      have J79 : ∀ (j79_h1_f2 : Int32) (j79_h1_f3 : Int32) (j79_h0_f1 : Int32) (j79_h0_0c : Nat → Int32) (g_h0_f1 : RG h0_f1 0 240) (g_h1_f1 : RG h1_f1 0 240) (g_h1_f2 : RG h1_f2 0 240) (g_h1_f3 : RG h1_f3 (-1) 240) (g_j79_h0_f1 : RG j79_h0_f1 0 240) (g_j79_h1_f2 : RG j79_h1_f2 0 240) (g_j79_h1_f3 : RG j79_h1_f3 (-1) 240) (g_j9_h0_f1 : RG j9_h0_f1 0 240) (g_j9_h1_f2 : RG j9_h1_f2 0 240) (g_j9_h1_f3 : RG j9_h1_f3 (-1) (-1)) (g_j9_l4 : RG j9_l4 0 1) (g_j9_l5 : RG j9_l5 0 1) (g_j9_l6 : RG j9_l6 0 239) (hEX : RES = fx_c_X4_readCondition_5_p79 h1_f1 h1_0c j9_l6 (fx_c_X4_readCondition_5_p9 h1_f1 h1_0c n9) j79_h1_f2 j79_h1_f3 j79_h0_f1 j79_h0_0c) (H : Heap) (locs : List Loc) (ls : Array Slot) (hP : va_P (dC, dI) vwCl (wd_c_X4_readCondition_5 h1 h1_0 h1_f1 j79_h1_f2 j79_h1_f3 h1_0 h1_0k h1_0c h0 h0_0 j79_h0_f1 h0_2 h0_0 h0_0k j79_h0_0c) H) (hD : va_D A (wd_c_X4_readCondition_5 h1 h1_0 h1_f1 j79_h1_f2 j79_h1_f3 h1_0 h1_0k h1_0c h0 h0_0 j79_h0_f1 h0_2 h0_0 h0_0k j79_h0_0c)) (hS : va_S A s.heap H locs) (hl : lv_has ls 7 [(4, .int 0), (6, .int j9_l6), (0, .ref h0), (1, .ref h1), (2, .int 5), (3, .int 0)]), G H locs (F0 m 79 ls []) := by
        as_aux_lemma =>
        intro j79_h1_f2 j79_h1_f3 j79_h0_f1 j79_h0_0c g_h0_f1 g_h1_f1 g_h1_f2 g_h1_f3 g_j79_h0_f1 g_j79_h1_f2 g_j79_h1_f3 g_j9_h0_f1 g_j9_h1_f2 g_j9_h1_f3 g_j9_l4 g_j9_l5 g_j9_l6 hEX H locs ls hP hD hS hl
        refine hG _ _ _ ?_
        refine lv_aload_n hx hb dX4_readCondition_79 rfl (lv_at hl 3 rfl) ?_
        refine lv_bipush (v := 124) hx hb dX4_readCondition_80 kc_bipush_124 ?_
        obtain ⟨hPc, hDc, hFc, hqc⟩ := cl_cut (wc := (wd_c_X9_take_1 h1 h1_0 h1_f1 j79_h1_f2 j79_h1_f3 h1_0 h1_0k h1_0c)) hP hD hS hA [0, 1] (by decide +kernel) rfl
        have hKc := hK.sub (tys' := [(h1_0k, .int)]) [0] rfl
        have hrv := va_recv hKc hPc (ci := 9) (q0 := 0) rfl rfl
        refine va_calli (va_runV (As := [.int 124]) (rest := []) ⟨hx, hb, hml, hown, hts⟩ (c_X9_take_1 l dC dI H.size h1 124 h1_0 h1_f1 j79_h1_f2 j79_h1_f3 h1_0k h1_0c (RG_w (RG_k 124 124 rfl) (by decide +kernel)) g_h1_f1 g_j79_h1_f2 g_j79_h1_f3 a_h1_0c) (cwV 1 hts gf_c_X4_readCondition_5_c_X9_take_1 rfl rfl rfl mdV_X9_take ⟨Nat.le_of_ble_eq_true rfl, Nat.le_of_ble_eq_true rfl⟩) ⟨fun a U g mk q => by obtain ⟨q0, q1, qP, qK, qD⟩ := q; exact ⟨q0, q1, qP, va_K.moved (u := U) (U := U.calling g mk a) (Vm.Alike.refl U.vm) qK, qD⟩, hrv, fun U hU hW => ⟨rfl, by rw [hU], by rw [hU]; exact hPc, va_K.moved hW.alike hKc, hDc.weaken (fun _ _ _ _ => trivial)⟩⟩ rfl rfl hl.1 rfl (lv_room (Nat.le_of_ble_eq_true rfl)) dX4_readCondition_82 ⟨Nat.le_of_ble_eq_true rfl, Nat.le_of_ble_eq_true rfl⟩) hS (fun q _ h => hFc q h) hFc (fun r_3 x_4 t H1 locs ht hvm hw hB hz1 hk1 hS => ?_)
        obtain ⟨hP1, hK1, hD1⟩ := hB
        rw [ht] at hP1
        obtain ⟨hP, hD⟩ := cl_put (w1 := (wd_c_X9_take_1 h1 h1_0 h1_f1 x_4 j79_h1_f3 h1_0 h1_0k h1_0c)) (nw := (wd_c_X4_readCondition_5 h1 h1_0 h1_f1 x_4 j79_h1_f3 h1_0 h1_0k h1_0c h0 h0_0 j79_h0_f1 h0_2 h0_0 h0_0k j79_h0_0c)) hP hD [0, 1] [4, 5, 2, 3] 4 rfl hqc (by decide +kernel) rfl hk1 hFc hP1 hD1
        generalize H1 = H at hP hS ⊢
        as_aux_lemma =>
        rcases hw with ⟨h_5, h_6, h_7, h_8⟩ | ⟨h_9, h_10, h_11, h_12, h_13, h_14⟩
        · have h_8 : (r_3, x_4) = _ := h_8
          replace hEX := hEX.trans (exc2_eq h_8)
          replace hEX := hEX.trans (if_pos (show r_3 = 0 from h_5))
          rw [h_5]
          refine lv_istore (lv' := [(5, .int 0), (4, .int 0), (6, .int j9_l6), (0, .ref h0), (1, .ref h1), (2, .int 5), (3, .int 0)]) hx hb dX4_readCondition_85 hl (Nat.le_of_ble_eq_true rfl) rfl (fun ls hl => ?_)
          refine lv_iload hx hb dX4_readCondition_87 (lv_at hl 0 rfl) ?_
          refine lv_if_ne (tgt := 93) hx hb dX4_readCondition_89 rfl (fun c_15 => absurd c_15 (by decide +kernel)) (fun c_15 => ?_)
          have hK9 := hK.sub (tys' := []) [] rfl
          exact W.vret hx hb hr (fun t ht hW => ⟨⟨(x_4, j79_h1_f3, j79_h0_f1, j79_h0_0c), rfl, ⟨h_6, g_j79_h1_f3, g_j79_h0_f1, (hR.trans hEX).symm⟩, by rw [ht]; exact hP, va_K.moved hW.alike hK9, hD⟩, hS.F ht⟩) hS.2.2 dX4_readCondition_92
        · have h_14 : (r_3, x_4) = _ := h_14
          replace hEX := hEX.trans (exc2_eq h_14)
          replace hEX := hEX.trans (if_neg (fun q9 : r_3 = 0 => absurd ((show r_3 = 1 from h_9).symm.trans q9) (by decide +kernel)))
          rw [h_9]
          refine lv_istore (lv' := [(5, .int 1), (4, .int 0), (6, .int j9_l6), (0, .ref h0), (1, .ref h1), (2, .int 5), (3, .int 0)]) hx hb dX4_readCondition_85 hl (Nat.le_of_ble_eq_true rfl) rfl (fun ls hl => ?_)
          as_aux_lemma =>
          refine lv_iload hx hb dX4_readCondition_87 (lv_at hl 0 rfl) ?_
          refine lv_if_ne (tgt := 93) hx hb dX4_readCondition_89 rfl (fun c_16 => ?_) (fun c_16 => absurd c_16 (by decide +kernel))
          exact hU _ _ _ (J93 0 1 x_4 j79_h1_f3 j79_h0_f1 j79_h0_0c g_h0_f1 h_11 g_h1_f2 g_h1_f3 g_j79_h0_f1 h_10 h_12 (RG_w (RG_k 0 0 rfl) (by decide +kernel)) (RG_w (RG_k 1 1 rfl) (by decide +kernel)) g_j9_h0_f1 g_j9_h1_f2 g_j9_h1_f3 g_j9_l4 g_j9_l5 g_j9_l6 hEX _ _ _ hP hD hS (lv_sub hl [1, 2, 0, 3, 4, 5, 6] rfl))
      have J55 : ∀ (j55_h1_f2 : Int32) (j55_h1_f3 : Int32) (j55_h0_f1 : Int32) (j55_h0_0c : Nat → Int32) (g_h0_f1 : RG h0_f1 0 240) (g_h1_f1 : RG h1_f1 0 240) (g_h1_f2 : RG h1_f2 0 240) (g_h1_f3 : RG h1_f3 (-1) 240) (g_j55_h0_f1 : RG j55_h0_f1 0 240) (g_j55_h1_f2 : RG j55_h1_f2 0 240) (g_j55_h1_f3 : RG j55_h1_f3 (-1) 240) (g_j9_h0_f1 : RG j9_h0_f1 0 240) (g_j9_h1_f2 : RG j9_h1_f2 0 240) (g_j9_h1_f3 : RG j9_h1_f3 (-1) (-1)) (g_j9_l4 : RG j9_l4 0 1) (g_j9_l5 : RG j9_l5 0 1) (g_j9_l6 : RG j9_l6 0 239) (hEX : RES = fx_c_X4_readCondition_5_p55 h1_f1 h1_0c j9_l6 j9_l5 (fx_c_X4_readCondition_5_p9 h1_f1 h1_0c n9) j55_h1_f2 j55_h1_f3 j55_h0_f1 j55_h0_0c) (H : Heap) (locs : List Loc) (ls : Array Slot) (hP : va_P (dC, dI) vwCl (wd_c_X4_readCondition_5 h1 h1_0 h1_f1 j55_h1_f2 j55_h1_f3 h1_0 h1_0k h1_0c h0 h0_0 j55_h0_f1 h0_2 h0_0 h0_0k j55_h0_0c) H) (hD : va_D A (wd_c_X4_readCondition_5 h1 h1_0 h1_f1 j55_h1_f2 j55_h1_f3 h1_0 h1_0k h1_0c h0 h0_0 j55_h0_f1 h0_2 h0_0 h0_0k j55_h0_0c)) (hS : va_S A s.heap H locs) (hl : lv_has ls 7 [(6, .int j9_l6), (5, .int j9_l5), (0, .ref h0), (1, .ref h1), (2, .int 5), (3, .int 0)]), G H locs (F0 m 55 ls []) := by
        as_aux_lemma =>
        intro j55_h1_f2 j55_h1_f3 j55_h0_f1 j55_h0_0c g_h0_f1 g_h1_f1 g_h1_f2 g_h1_f3 g_j55_h0_f1 g_j55_h1_f2 g_j55_h1_f3 g_j9_h0_f1 g_j9_h1_f2 g_j9_h1_f3 g_j9_l4 g_j9_l5 g_j9_l6 hEX H locs ls hP hD hS hl
        refine hG _ _ _ ?_
        refine lv_aload_n hx hb dX4_readCondition_55 rfl (lv_at hl 3 rfl) ?_
        refine lv_bipush (v := 38) hx hb dX4_readCondition_56 kc_bipush_38 ?_
        obtain ⟨hPc, hDc, hFc, hqc⟩ := cl_cut (wc := (wd_c_X9_take h1 h1_0 h1_f1 j55_h1_f2 j55_h1_f3 h1_0 h1_0k h1_0c)) hP hD hS hA [0, 1] (by decide +kernel) rfl
        have hKc := hK.sub (tys' := [(h1_0k, .int)]) [0] rfl
        have hrv := va_recv hKc hPc (ci := 9) (q0 := 0) rfl rfl
        refine va_calli (va_runV (As := [.int 38]) (rest := []) ⟨hx, hb, hml, hown, hts⟩ (c_X9_take l dC dI H.size h1 38 h1_0 h1_f1 j55_h1_f2 j55_h1_f3 h1_0k h1_0c (RG_w (RG_k 38 38 rfl) (by decide +kernel)) g_h1_f1 g_j55_h1_f2 g_j55_h1_f3 a_h1_0c) (cwV 1 hts gf_c_X4_readCondition_5_c_X9_take rfl rfl rfl mdV_X9_take ⟨Nat.le_of_ble_eq_true rfl, Nat.le_of_ble_eq_true rfl⟩) ⟨fun a U g mk q => by obtain ⟨q0, q1, qP, qK, qD⟩ := q; exact ⟨q0, q1, qP, va_K.moved (u := U) (U := U.calling g mk a) (Vm.Alike.refl U.vm) qK, qD⟩, hrv, fun U hU hW => ⟨rfl, by rw [hU], by rw [hU]; exact hPc, va_K.moved hW.alike hKc, hDc.weaken (fun _ _ _ _ => trivial)⟩⟩ rfl rfl hl.1 rfl (lv_room (Nat.le_of_ble_eq_true rfl)) dX4_readCondition_58 ⟨Nat.le_of_ble_eq_true rfl, Nat.le_of_ble_eq_true rfl⟩) hS (fun q _ h => hFc q h) hFc (fun r_17 x_18 t H1 locs ht hvm hw hB hz1 hk1 hS => ?_)
        obtain ⟨hP1, hK1, hD1⟩ := hB
        rw [ht] at hP1
        obtain ⟨hP, hD⟩ := cl_put (w1 := (wd_c_X9_take h1 h1_0 h1_f1 x_18 j55_h1_f3 h1_0 h1_0k h1_0c)) (nw := (wd_c_X4_readCondition_5 h1 h1_0 h1_f1 x_18 j55_h1_f3 h1_0 h1_0k h1_0c h0 h0_0 j55_h0_f1 h0_2 h0_0 h0_0k j55_h0_0c)) hP hD [0, 1] [4, 5, 2, 3] 4 rfl hqc (by decide +kernel) rfl hk1 hFc hP1 hD1
        generalize H1 = H at hP hS ⊢
        as_aux_lemma =>
        rcases hw with ⟨h_19, h_20, h_21, h_22⟩ | ⟨h_23, h_24, h_25, h_26, h_27, h_28⟩
        · have h_22 : (r_17, x_18) = _ := h_22
          replace hEX := hEX.trans (exc2_eq h_22)
          replace hEX := hEX.trans (if_pos (show r_17 = 0 from h_19))
          rw [h_19]
          refine lv_istore (lv' := [(4, .int 0), (6, .int j9_l6), (5, .int j9_l5), (0, .ref h0), (1, .ref h1), (2, .int 5), (3, .int 0)]) hx hb dX4_readCondition_61 hl (Nat.le_of_ble_eq_true rfl) rfl (fun ls hl => ?_)
          refine lv_iload hx hb dX4_readCondition_63 (lv_at hl 0 rfl) ?_
          refine lv_if_ne (tgt := 93) hx hb dX4_readCondition_65 rfl (fun c_29 => absurd c_29 (by decide +kernel)) (fun c_29 => ?_)
          refine lv_iload hx hb dX4_readCondition_68 (lv_at hl 2 rfl) ?_
          refine lv_if_eq (tgt := 79) hx hb dX4_readCondition_70 rfl (fun c_30 => ?_) (fun c_30 => ?_)
          · replace hEX := hEX.trans (if_pos c_30)
            have g_31 : RG j9_l5 0 0 := RG_eq1 g_j9_l5 (RG_k 0 0 rfl) c_30 (by decide +kernel)
            exact hU _ _ _ (J79 x_18 j55_h1_f3 j55_h0_f1 j55_h0_0c g_h0_f1 g_h1_f1 g_h1_f2 g_h1_f3 g_j55_h0_f1 h_20 g_j55_h1_f3 g_j9_h0_f1 g_j9_h1_f2 g_j9_h1_f3 g_j9_l4 (RG_w g_31 (by decide +kernel)) g_j9_l6 hEX _ _ _ hP hD hS (lv_sub hl [0, 1, 3, 4, 5, 6] rfl))
          · replace hEX := hEX.trans (if_neg c_30)
            have g_32 : RG j9_l5 1 1 := RG_ne1 g_j9_l5 (q := 0) rfl c_30 (by decide +kernel)
            refine lv_aload_n hx hb dX4_readCondition_73 rfl (lv_at hl 3 rfl) ?_
            as_aux_lemma =>
            refine lv_bipush (v := (-124)) hx hb dX4_readCondition_74 kc_bipush_m124 ?_
            obtain ⟨hPc, hDc, hFc, hqc⟩ := cl_cut (wc := (wd_c_X4_emit h0 h0_0 j55_h0_f1 h0_2 h0_0 h0_0k j55_h0_0c)) hP hD hS hA [2, 3] (by decide +kernel) rfl
            have hKc := hK.sub (tys' := [(h0_0k, .int)]) [1] rfl
            have hrv := va_recv hKc hPc (ci := 4) (q0 := 0) rfl rfl
            refine va_callv (va_runV (As := [.int (-124)]) (rest := []) ⟨hx, hb, hml, hown, hts⟩ (c_X4_emit l dC dI H.size h0 (-124) h0_0 j55_h0_f1 h0_2 h0_0k j55_h0_0c g_j55_h0_f1) (cwV 1 hts gf_c_X4_readCondition_5_c_X4_emit rfl rfl rfl mdV_X4_emit ⟨Nat.le_of_ble_eq_true rfl, Nat.le_of_ble_eq_true rfl⟩) ⟨fun a U g mk q => by obtain ⟨q0, q1, qP, qK, qD⟩ := q; exact ⟨q0, q1, qP, va_K.moved (u := U) (U := U.calling g mk a) (Vm.Alike.refl U.vm) qK, qD⟩, hrv, fun U hU hW => ⟨rfl, by rw [hU], by rw [hU]; exact hPc, va_K.moved hW.alike hKc, hDc.weaken (fun _ _ _ _ => trivial)⟩⟩ rfl rfl hl.1 rfl (lv_room (Nat.le_of_ble_eq_true rfl)) dX4_readCondition_76 ⟨Nat.le_of_ble_eq_true rfl, Nat.le_of_ble_eq_true rfl⟩) hS (fun q _ h => hFc q h) hFc (fun u t H1 locs ht hvm hw hB hz1 hk1 hS => ?_)
            obtain ⟨x_34, w_35⟩ := u
            obtain ⟨hP1, hK1, hD1⟩ := hB
            rw [ht] at hP1
            obtain ⟨hP, hD⟩ := cl_put (w1 := (wd_c_X4_emit h0 h0_0 x_34 h0_2 h0_0 h0_0k w_35)) (nw := (wd_c_X4_readCondition_5 h1 h1_0 h1_f1 x_18 j55_h1_f3 h1_0 h1_0k h1_0c h0 h0_0 x_34 h0_2 h0_0 h0_0k w_35)) hP hD [2, 3] [0, 1, 4, 5] 4 rfl hqc (by decide +kernel) rfl hk1 hFc hP1 hD1
            generalize H1 = H at hP hS ⊢
            as_aux_lemma =>
            rcases hw with ⟨h_36, h_37⟩
            have h_37 : (x_34, w_35) = _ := h_37
            replace hEX := hEX.trans (exc2_eq h_37)
            exact hU _ _ _ (J79 x_18 j55_h1_f3 x_34 w_35 g_h0_f1 g_h1_f1 g_h1_f2 g_h1_f3 (RG_w h_36 (by decide +kernel)) h_20 g_j55_h1_f3 g_j9_h0_f1 g_j9_h1_f2 g_j9_h1_f3 g_j9_l4 (RG_w g_32 (by decide +kernel)) g_j9_l6 hEX _ _ _ hP hD hS (lv_sub hl [0, 1, 3, 4, 5, 6] rfl))
        · have h_28 : (r_17, x_18) = _ := h_28
          replace hEX := hEX.trans (exc2_eq h_28)
          replace hEX := hEX.trans (if_neg (fun q9 : r_17 = 0 => absurd ((show r_17 = 1 from h_23).symm.trans q9) (by decide +kernel)))
          rw [h_23]
          refine lv_istore (lv' := [(4, .int 1), (6, .int j9_l6), (5, .int j9_l5), (0, .ref h0), (1, .ref h1), (2, .int 5), (3, .int 0)]) hx hb dX4_readCondition_61 hl (Nat.le_of_ble_eq_true rfl) rfl (fun ls hl => ?_)
          refine lv_iload hx hb dX4_readCondition_63 (lv_at hl 0 rfl) ?_
          refine lv_if_ne (tgt := 93) hx hb dX4_readCondition_65 rfl (fun c_38 => ?_) (fun c_38 => absurd c_38 (by decide +kernel))
          exact hU _ _ _ (J93 1 j9_l5 x_18 j55_h1_f3 j55_h0_f1 j55_h0_0c g_h0_f1 h_25 g_h1_f2 g_h1_f3 g_j55_h0_f1 h_24 h_26 (RG_w (RG_k 1 1 rfl) (by decide +kernel)) g_j9_l5 g_j9_h0_f1 g_j9_h1_f2 g_j9_h1_f3 g_j9_l4 g_j9_l5 g_j9_l6 hEX _ _ _ hP hD hS (lv_sub hl [0, 1, 2, 3, 4, 5, 6] rfl))
      have J41 : ∀ (g_h0_f1 : RG h0_f1 0 240) (g_h1_f1 : RG h1_f1 0 240) (g_h1_f2 : RG h1_f2 0 240) (g_h1_f3 : RG h1_f3 (-1) 240) (g_j9_h0_f1 : RG j9_h0_f1 0 240) (g_j9_h1_f2 : RG j9_h1_f2 0 240) (g_j9_h1_f3 : RG j9_h1_f3 (-1) (-1)) (g_j9_l4 : RG j9_l4 0 1) (g_j9_l5 : RG j9_l5 0 1) (g_j9_l6 : RG j9_l6 0 239) (hEX : RES = fx_c_X4_readCondition_5_p41 h1_f1 h1_0c j9_l6 j9_l5 j9_l4 j9_h1_f2 j9_h1_f3 j9_h0_f1 j9_h0_0c (fx_c_X4_readCondition_5_p9 h1_f1 h1_0c n9)) (H : Heap) (locs : List Loc) (ls : Array Slot) (hP : va_P (dC, dI) vwCl (wd_c_X4_readCondition_5 h1 h1_0 h1_f1 j9_h1_f2 j9_h1_f3 h1_0 h1_0k h1_0c h0 h0_0 j9_h0_f1 h0_2 h0_0 h0_0k j9_h0_0c) H) (hD : va_D A (wd_c_X4_readCondition_5 h1 h1_0 h1_f1 j9_h1_f2 j9_h1_f3 h1_0 h1_0k h1_0c h0 h0_0 j9_h0_f1 h0_2 h0_0 h0_0k j9_h0_0c)) (hS : va_S A s.heap H locs) (hl : lv_has ls 7 [(6, .int j9_l6), (5, .int j9_l5), (4, .int j9_l4), (0, .ref h0), (1, .ref h1), (2, .int 5), (3, .int 0)]), G H locs (F0 m 41 ls [.int 0, .int 5, .ref h1, .ref h0]) := by
        as_aux_lemma =>
        intro g_h0_f1 g_h1_f1 g_h1_f2 g_h1_f3 g_j9_h0_f1 g_j9_h1_f2 g_j9_h1_f3 g_j9_l4 g_j9_l5 g_j9_l6 hEX H locs ls hP hD hS hl
        refine hG _ _ _ ?_
        obtain ⟨hPc, hDc, hFc, hqc⟩ := cl_cut (wc := (wd_c_X4_readUnit_6 h1 h1_0 h1_f1 j9_h1_f2 j9_h1_f3 h1_0 h1_0k h1_0c h0 h0_0 j9_h0_f1 h0_2 h0_0 h0_0k j9_h0_0c)) hP hD hS hA [0, 1, 2, 3] (by decide +kernel) rfl
        have hKc := hK.sub (tys' := [(h1_0k, .int), (h0_0k, .int)]) [0, 1] rfl
        have hrv := va_recv hKc hPc (ci := 4) (q0 := 2) rfl rfl
        refine va_callv (va_runV (As := [.ref h1, .int 5, .int 0]) (rest := []) ⟨hx, hb, hml, hown, hts⟩ (c_X4_readUnit_6 l dC dI H.size h0 h1 h1_0 h1_f1 j9_h1_f2 j9_h1_f3 h1_0k h1_0c h0_0 j9_h0_f1 h0_2 h0_0k j9_h0_0c ts4 tv4 g_h1_f1 g_j9_h1_f2 (RG_w g_j9_h1_f3 (by decide +kernel)) a_h1_0c g_j9_h0_f1) (cwV 3 hts gf_c_X4_readCondition_5_c_X4_readUnit_6 rfl rfl rfl mdV_X4_readUnit ⟨Nat.le_of_ble_eq_true rfl, Nat.le_of_ble_eq_true rfl⟩) ⟨fun a U g mk q => by obtain ⟨q0, q1, qP, qK, qD, qE0, qE1, qE2, qE3, qE4, qE5⟩ := q; exact ⟨q0, q1, qP, va_K.moved (u := U) (U := U.calling g mk a) (Vm.Alike.refl U.vm) qK, qD, vk_R.same rfl qE0, va_Z.moved (u := U) (U := U.calling g mk a) (Vm.Alike.refl U.vm) qE1, va_OF.moved (u := U) (U := U.calling g mk a) (Vm.Alike.refl U.vm) qE2, va_O.moved (u := U) (U := U.calling g mk a) (Vm.Alike.refl U.vm) qE3, va_OF.moved (u := U) (U := U.calling g mk a) (Vm.Alike.refl U.vm) qE4, va_T.moved (u := U) (U := U.calling g mk a) (Vm.Alike.refl U.vm) qE5⟩, hrv, fun U hU hW => ⟨rfl, by rw [hU], by rw [hU]; exact hPc, va_K.moved hW.alike hKc, hDc.weaken (fun _ _ _ _ => trivial), vk_R.warm hW hE_32, va_Z.moved hW.alike (by rw [hU]; exact (hE_10.kept hS.2.1).narrow hFc), va_OF.moved hW.alike (by rw [hU]; exact (hE_34.kept hS.2.1).narrow hFc), va_O.moved hW.alike (by rw [hU]; exact (hE_33.kept hS.2.1).narrow hFc), va_OF.moved hW.alike (by rw [hU]; exact (hE_35.kept hS.2.1).narrow hFc), va_T.moved hW.alike (by rw [hU]; exact (hE_36.kept hS.2.1).narrow hFc)⟩⟩ rfl rfl hl.1 rfl (lv_room (Nat.le_of_ble_eq_true rfl)) dX4_readCondition_41 ⟨Nat.le_of_ble_eq_true rfl, Nat.le_of_ble_eq_true rfl⟩) hS (fun q _ h => hFc q h) hFc (fun u t H1 locs ht hvm hw hB hz1 hk1 hS => ?_)
        obtain ⟨x_40, x_41, x_42, w_43⟩ := u
        obtain ⟨hP1, hK1, hD1⟩ := hB
        rw [ht] at hP1
        obtain ⟨hP, hD⟩ := cl_put (w1 := (wd_c_X4_readUnit_6 h1 h1_0 h1_f1 x_40 x_41 h1_0 h1_0k h1_0c h0 h0_0 x_42 h0_2 h0_0 h0_0k w_43)) (nw := (wd_c_X4_readCondition_5 h1 h1_0 h1_f1 x_40 x_41 h1_0 h1_0k h1_0c h0 h0_0 x_42 h0_2 h0_0 h0_0k w_43)) hP hD [0, 1, 2, 3] [4, 5, 6, 7] 4 rfl hqc (by decide +kernel) rfl hk1 hFc hP1 hD1
        generalize H1 = H at hP hS ⊢
        as_aux_lemma =>
        rcases hw with ⟨h_44, h_45, h_46, h_47⟩
        have h_47 : (x_40, x_41, x_42, w_43) = _ := h_47
        replace hEX := hEX.trans (exc4_eq h_47)
        refine lv_iload hx hb dX4_readCondition_44 (lv_at hl 2 rfl) ?_
        refine lv_if_eq (tgt := 55) hx hb dX4_readCondition_46 rfl (fun c_48 => ?_) (fun c_48 => ?_)
        · replace hEX := hEX.trans (if_pos c_48)
          have g_49 : RG j9_l4 0 0 := RG_eq1 g_j9_l4 (RG_k 0 0 rfl) c_48 (by decide +kernel)
          exact hU _ _ _ (J55 x_40 x_41 x_42 w_43 g_h0_f1 g_h1_f1 g_h1_f2 g_h1_f3 h_46 h_44 h_45 g_j9_h0_f1 g_j9_h1_f2 g_j9_h1_f3 (RG_w g_49 (by decide +kernel)) g_j9_l5 g_j9_l6 hEX _ _ _ hP hD hS (lv_sub hl [0, 1, 3, 4, 5, 6] rfl))
        · replace hEX := hEX.trans (if_neg c_48)
          have g_50 : RG j9_l4 1 1 := RG_ne1 g_j9_l4 (q := 0) rfl c_48 (by decide +kernel)
          refine lv_aload_n hx hb dX4_readCondition_49 rfl (lv_at hl 3 rfl) ?_
          refine lv_bipush (v := (-38)) hx hb dX4_readCondition_50 kc_bipush_m38 ?_
          obtain ⟨hPc, hDc, hFc, hqc⟩ := cl_cut (wc := (wd_c_X4_emit h0 h0_0 x_42 h0_2 h0_0 h0_0k w_43)) hP hD hS hA [2, 3] (by decide +kernel) rfl
          have hKc := hK.sub (tys' := [(h0_0k, .int)]) [1] rfl
          have hrv := va_recv hKc hPc (ci := 4) (q0 := 0) rfl rfl
          refine va_callv (va_runV (As := [.int (-38)]) (rest := []) ⟨hx, hb, hml, hown, hts⟩ (c_X4_emit l dC dI H.size h0 (-38) h0_0 x_42 h0_2 h0_0k w_43 h_46) (cwV 1 hts gf_c_X4_readCondition_5_c_X4_emit rfl rfl rfl mdV_X4_emit ⟨Nat.le_of_ble_eq_true rfl, Nat.le_of_ble_eq_true rfl⟩) ⟨fun a U g mk q => by obtain ⟨q0, q1, qP, qK, qD⟩ := q; exact ⟨q0, q1, qP, va_K.moved (u := U) (U := U.calling g mk a) (Vm.Alike.refl U.vm) qK, qD⟩, hrv, fun U hU hW => ⟨rfl, by rw [hU], by rw [hU]; exact hPc, va_K.moved hW.alike hKc, hDc.weaken (fun _ _ _ _ => trivial)⟩⟩ rfl rfl hl.1 rfl (lv_room (Nat.le_of_ble_eq_true rfl)) dX4_readCondition_52 ⟨Nat.le_of_ble_eq_true rfl, Nat.le_of_ble_eq_true rfl⟩) hS (fun q _ h => hFc q h) hFc (fun u t H1 locs ht hvm hw hB hz1 hk1 hS => ?_)
          as_aux_lemma =>
          obtain ⟨x_52, w_53⟩ := u
          obtain ⟨hP1, hK1, hD1⟩ := hB
          rw [ht] at hP1
          obtain ⟨hP, hD⟩ := cl_put (w1 := (wd_c_X4_emit h0 h0_0 x_52 h0_2 h0_0 h0_0k w_53)) (nw := (wd_c_X4_readCondition_5 h1 h1_0 h1_f1 x_40 x_41 h1_0 h1_0k h1_0c h0 h0_0 x_52 h0_2 h0_0 h0_0k w_53)) hP hD [2, 3] [0, 1, 4, 5] 4 rfl hqc (by decide +kernel) rfl hk1 hFc hP1 hD1
          generalize H1 = H at hP hS ⊢
          as_aux_lemma =>
          rcases hw with ⟨h_54, h_55⟩
          have h_55 : (x_52, w_53) = _ := h_55
          replace hEX := hEX.trans (exc2_eq h_55)
          exact hU _ _ _ (J55 x_40 x_41 x_52 w_53 g_h0_f1 g_h1_f1 g_h1_f2 g_h1_f3 (RG_w h_54 (by decide +kernel)) h_44 h_45 g_j9_h0_f1 g_j9_h1_f2 g_j9_h1_f3 (RG_w g_50 (by decide +kernel)) g_j9_l5 g_j9_l6 hEX _ _ _ hP hD hS (lv_sub hl [0, 1, 3, 4, 5, 6] rfl))
      have J40 : ∀ (g_h0_f1 : RG h0_f1 0 240) (g_h1_f1 : RG h1_f1 0 240) (g_h1_f2 : RG h1_f2 0 240) (g_h1_f3 : RG h1_f3 (-1) 240) (g_j9_h0_f1 : RG j9_h0_f1 0 240) (g_j9_h1_f2 : RG j9_h1_f2 0 240) (g_j9_h1_f3 : RG j9_h1_f3 (-1) (-1)) (g_j9_l4 : RG j9_l4 0 1) (g_j9_l5 : RG j9_l5 0 1) (g_j9_l6 : RG j9_l6 0 239) (hEX : RES = fx_c_X4_readCondition_5_p40 h1_f1 h1_0c j9_l6 j9_l5 j9_l4 j9_h1_f2 j9_h1_f3 j9_h0_f1 j9_h0_0c (fx_c_X4_readCondition_5_p9 h1_f1 h1_0c n9)) (H : Heap) (locs : List Loc) (ls : Array Slot) (hP : va_P (dC, dI) vwCl (wd_c_X4_readCondition_5 h1 h1_0 h1_f1 j9_h1_f2 j9_h1_f3 h1_0 h1_0k h1_0c h0 h0_0 j9_h0_f1 h0_2 h0_0 h0_0k j9_h0_0c) H) (hD : va_D A (wd_c_X4_readCondition_5 h1 h1_0 h1_f1 j9_h1_f2 j9_h1_f3 h1_0 h1_0k h1_0c h0 h0_0 j9_h0_f1 h0_2 h0_0 h0_0k j9_h0_0c)) (hS : va_S A s.heap H locs) (hl : lv_has ls 7 [(6, .int j9_l6), (5, .int j9_l5), (4, .int j9_l4), (0, .ref h0), (1, .ref h1), (2, .int 5), (3, .int 0)]), G H locs (F0 m 40 ls [.int 5, .ref h1, .ref h0]) := by
        as_aux_lemma =>
        intro g_h0_f1 g_h1_f1 g_h1_f2 g_h1_f3 g_j9_h0_f1 g_j9_h1_f2 g_j9_h1_f3 g_j9_l4 g_j9_l5 g_j9_l6 hEX H locs ls hP hD hS hl
        refine hG _ _ _ ?_
        refine lv_iconst (v := 0) hx hb dX4_readCondition_40 kc_iconst_0 ?_
        exact hU _ _ _ (J41 g_h0_f1 g_h1_f1 g_h1_f2 g_h1_f3 g_j9_h0_f1 g_j9_h1_f2 g_j9_h1_f3 g_j9_l4 g_j9_l5 g_j9_l6 hEX _ _ _ hP hD hS (lv_sub hl [0, 1, 2, 3, 4, 5, 6] rfl))
      refine hG _ _ _ ?_
      replace hEX := hEX.trans (if_pos (rfl : j9_l6 = j9_l6))
      refine lv_iload hx hb dX4_readCondition_9 (lv_at hl 0 rfl) ?_
      refine lv_sipush (v := 240) hx hb dX4_readCondition_11 kc_sipush_240 ?_
      refine lv_icmp_ge (tgt := 99) hx hb dX4_readCondition_14 rfl (fun c_56 => ?_) (fun c_56 => ?_)
      · replace hEX := hEX.trans (if_pos c_56)
        have g_57 : RG j9_l6 240 240 := RG_le2 (RG_k 240 240 rfl) g_j9_l6 c_56 (by decide +kernel)
        have hK9 := hK.sub (tys' := []) [] rfl
        exact W.vret hx hb hr (fun t ht hW => ⟨⟨(j9_h1_f2, j9_h1_f3, j9_h0_f1, j9_h0_0c), rfl, ⟨g_j9_h1_f2, g_j9_h1_f3, g_j9_h0_f1, (hR.trans hEX).symm⟩, by rw [ht]; exact hP, va_K.moved hW.alike hK9, hD⟩, hS.F ht⟩) hS.2.2 dX4_readCondition_99
      · replace hEX := hEX.trans (if_neg c_56)
        have d_58 := Int32.not_le.mp c_56
        have g_59 : RG j9_l6 0 239 := RG_lt1 g_j9_l6 (RG_k 240 240 rfl) d_58 (by decide +kernel)
        refine lv_aload_n hx hb dX4_readCondition_17 rfl (lv_at hl 4 rfl) ?_
        as_aux_lemma =>
        obtain ⟨hPc, hDc, hFc, hqc⟩ := cl_cut (wc := (wd_c_X9_isRight h1 h1_0 h1_f1 j9_h1_f2 j9_h1_f3)) hP hD hS hA [0] (by decide +kernel) rfl
        have hKc := hK.sub (tys' := []) [] rfl
        have hrv := va_recv hKc hPc (ci := 9) (q0 := 0) rfl rfl
        refine va_calli (va_runV (As := []) (rest := []) ⟨hx, hb, hml, hown, hts⟩ (c_X9_isRight l dC dI H.size h1 h1_0 h1_f1 j9_h1_f2 j9_h1_f3 g_h1_f1 g_j9_h1_f2 g_j9_h1_f3) (cwV 0 hts gf_c_X4_readCondition_5_c_X9_isRight rfl rfl rfl mdV_X9_isRight ⟨Nat.le_of_ble_eq_true rfl, Nat.le_of_ble_eq_true rfl⟩) ⟨fun a U g mk q => by obtain ⟨q0, q1, qP, qK, qD⟩ := q; exact ⟨q0, q1, qP, va_K.moved (u := U) (U := U.calling g mk a) (Vm.Alike.refl U.vm) qK, qD⟩, hrv, fun U hU hW => ⟨rfl, by rw [hU], by rw [hU]; exact hPc, va_K.moved hW.alike hKc, hDc.weaken (fun _ _ _ _ => trivial)⟩⟩ rfl rfl hl.1 rfl (lv_room (Nat.le_of_ble_eq_true rfl)) dX4_readCondition_18 ⟨Nat.le_of_ble_eq_true rfl, Nat.le_of_ble_eq_true rfl⟩) hS (fun q _ h => hFc q h) hFc (fun r_60 u t H1 locs ht hvm hw hB hz1 hk1 hS => ?_)
        obtain ⟨hP1, hK1, hD1⟩ := hB
        rw [ht] at hP1
        obtain ⟨hP, hD⟩ := cl_put (w1 := (wd_c_X9_isRight h1 h1_0 h1_f1 j9_h1_f2 j9_h1_f3)) (nw := (wd_c_X4_readCondition_5 h1 h1_0 h1_f1 j9_h1_f2 j9_h1_f3 h1_0 h1_0k h1_0c h0 h0_0 j9_h0_f1 h0_2 h0_0 h0_0k j9_h0_0c)) hP hD [0] [4, 1, 2, 3] 4 rfl hqc (by decide +kernel) rfl hk1 hFc hP1 hD1
        generalize H1 = H at hP hS ⊢
        as_aux_lemma =>
        rcases hw with ⟨h_61, h_62, h_63⟩ | ⟨h_64, h_65, h_66⟩
        · have h_63 : r_60 = _ := h_63
          replace hEX := hEX.trans (exc1_eq h_63)
          replace hEX := hEX.trans (if_pos (show r_60 = 0 from h_61))
          rw [h_61]
          refine lv_if_eq (tgt := 99) hx hb dX4_readCondition_21 rfl (fun c_67 => ?_) (fun c_67 => absurd c_67 (by decide +kernel))
          have hK9 := hK.sub (tys' := []) [] rfl
          exact W.vret hx hb hr (fun t ht hW => ⟨⟨(j9_h1_f2, j9_h1_f3, j9_h0_f1, j9_h0_0c), rfl, ⟨g_j9_h1_f2, (RG_w h_62 (by decide +kernel)), g_j9_h0_f1, (hR.trans hEX).symm⟩, by rw [ht]; exact hP, va_K.moved hW.alike hK9, hD⟩, hS.F ht⟩) hS.2.2 dX4_readCondition_99
        · have h_66 : r_60 = _ := h_66
          replace hEX := hEX.trans (exc1_eq h_66)
          replace hEX := hEX.trans (if_neg (fun q9 : r_60 = 0 => absurd ((show r_60 = 1 from h_64).symm.trans q9) (by decide +kernel)))
          rw [h_64]
          refine lv_if_eq (tgt := 99) hx hb dX4_readCondition_21 rfl (fun c_68 => absurd c_68 (by decide +kernel)) (fun c_68 => ?_)
          refine lv_aload_n hx hb dX4_readCondition_24 rfl (lv_at hl 3 rfl) ?_
          as_aux_lemma =>
          refine lv_aload_n hx hb dX4_readCondition_25 rfl (lv_at hl 4 rfl) ?_
          refine lv_iload_n hx hb dX4_readCondition_26 rfl (lv_at hl 5 rfl) ?_
          refine lv_iload_n hx hb dX4_readCondition_27 rfl (lv_at hl 6 rfl) ?_
          refine lv_if_eq (tgt := 40) hx hb dX4_readCondition_28 rfl (fun c_69 => ?_) (fun c_69 => absurd c_69 (by decide +kernel))
          exact hU _ _ _ (J40 g_h0_f1 g_h1_f1 g_h1_f2 g_h1_f3 g_j9_h0_f1 g_j9_h1_f2 h_65 g_j9_l4 g_j9_l5 g_59 hEX _ _ _ hP hD hS (lv_sub hl [0, 1, 2, 3, 4, 5, 6] rfl))
  refine hG _ _ _ ?_
  refine lv_iconst (v := 0) hx hb dX4_readCondition_0 kc_iconst_0 ?_
  refine lv_istore (lv' := [(4, .int 0), (0, .ref h0), (1, .ref h1), (2, .int 5), (3, .int 0)]) hx hb dX4_readCondition_1 hl (Nat.le_of_ble_eq_true rfl) rfl (fun ls hl => ?_)
  refine lv_iconst (v := 0) hx hb dX4_readCondition_3 kc_iconst_0 ?_
  refine lv_istore (lv' := [(5, .int 0), (4, .int 0), (0, .ref h0), (1, .ref h1), (2, .int 5), (3, .int 0)]) hx hb dX4_readCondition_4 hl (Nat.le_of_ble_eq_true rfl) rfl (fun ls hl => ?_)
  refine lv_iconst (v := 0) hx hb dX4_readCondition_6 kc_iconst_0 ?_
  refine lv_istore (lv' := [(6, .int 0), (5, .int 0), (4, .int 0), (0, .ref h0), (1, .ref h1), (2, .int 5), (3, .int 0)]) hx hb dX4_readCondition_7 hl (Nat.le_of_ble_eq_true rfl) rfl (fun ls hl => ?_)
  exact hU _ _ _ (J9 exF 0 0 0 h1_f2 h1_f3 h0_f1 h0_0c MU_F g_h0_f1 g_h1_f1 g_h1_f2 g_h1_f3 g_h0_f1 g_h1_f2 g_h1_f3 (RG_w (RG_k 0 0 rfl) (by decide +kernel)) (RG_w (RG_k 0 0 rfl) (by decide +kernel)) (RG_w (RG_k 0 0 rfl) (by decide +kernel)) hEX _ _ _ hP hD hS (lv_sub hl [0, 1, 2, 3, 4, 5, 6] rfl))
noncomputable def wd_c_X4_readUnit_5 (a0 : Nat) (a1 : Nat) (a2 : Int32) (a3 : Int32) (a4 : Int32) (a5 : Nat) (a6 : ClassId) (a7 : Nat → Int32) (a8 : Nat) (a9 : Nat) (a10 : Int32) (a11 : Nat) (a12 : Nat) (a13 : ClassId) (a14 : Nat → Int32) : va_W := [(a0, .inr (9, [.ref a1, .int a2, .int a3, .int a4])), (a5, .inl (a6, 240, .inl a7)), (a8, .inr (4, [.ref a9, .int a10, .ref a11])), (a12, .inl (a13, 240, .inl a14))]
noncomputable def wf_c_X4_readUnit_5 : List Cond := List.cons (.code yX4_readUnit cX4_readUnit 5 none) (@HAppend.hAppend (List Cond) (List Cond) (List Cond) _ (@HAppend.hAppend (List Cond) (List Cond) (List Cond) _ [.methodLink RX4 41 yX9_peek, .instanceMethod yX9_peek, .selects RX9 yX9_peek yX9_peek, .initialized RX9, .code yX9_peek cX9_peek 1 (some .int), .fieldLink RX9 22 "BuoyVote$Tape" "at" "I", .fieldLink RX9 19 "BuoyVote$Tape" "length" "I", .fieldLink RX9 11 "BuoyVote$Tape" "bytes" "[I", .methodLink RX4 45 yX4_startsUnit, .static yX4_startsUnit, .initialized RX4, .code yX4_startsUnit cX4_startsUnit 1 (some .boolean), .methodLink RX4 63 yX9_take, .instanceMethod yX9_take, .selects RX9 yX9_take yX9_take, .code yX9_take cX9_take 2 (some .boolean), .fieldLink RX9 15 "BuoyVote$Tape" "wrong" "I", .methodLink RX9 29 yX9_peek, .methodLink RX4 37 yX9_expect, .instanceMethod yX9_expect, .selects RX9 yX9_expect yX9_expect, .code yX9_expect cX9_expect 2 none, .methodLink RX9 25 yX9_refuse, .instanceMethod yX9_refuse, .selects RX9 yX9_refuse yX9_refuse, .code yX9_refuse cX9_refuse 2 none, .methodLink RX4 56 yX4_readCondition, .instanceMethod yX4_readCondition, .selects RX4 yX4_readCondition yX4_readCondition, .code yX4_readCondition cX4_readCondition 7 none, .methodLink RX4 72 yX9_isRight, .instanceMethod yX9_isRight, .selects RX9 yX9_isRight yX9_isRight, .code yX9_isRight cX9_isRight 1 (some .boolean), .methodLink RX4 76 yX4_readUnit, .instanceMethod yX4_readUnit, .selects RX4 yX4_readUnit yX4_readUnit, .methodLink RX4 82 yX9_refuseHere, .instanceMethod yX9_refuseHere, .selects RX9 yX9_refuseHere yX9_refuseHere, .code yX9_refuseHere cX9_refuseHere 1 none, .methodLink RX4 49 yX4_readSum, .instanceMethod yX4_readSum, .selects RX4 yX4_readSum yX4_readSum, .code yX4_readSum cX4_readSum 6 none, .methodLink RX4 85 yX4_readAtom, .instanceMethod yX4_readAtom, .selects RX4 yX4_readAtom yX4_readAtom, .code yX4_readAtom cX4_readAtom 6 none, .methodLink RX4 93 yJ0_indexOf_0f7a4, .instanceMethod yJ0_indexOf_0f7a4, .selects RJ0 yJ0_indexOf_0f7a4 yJ0_indexOf_0f7a4, .initialized RJ0, .code yJ0_indexOf_0f7a4 cJ0_indexOf_0f7a4 2 (some .int), .methodLink RJ0 633 yJ0_indexOf_7cf53, .instanceMethod yJ0_indexOf_7cf53, .selects RJ0 yJ0_indexOf_7cf53 yJ0_indexOf_7cf53, .code yJ0_indexOf_7cf53 cJ0_indexOf_7cf53 3 (some .int), .methodLink RJ0 492 yJ0_isLatin1_aae02, .instanceMethod yJ0_isLatin1_aae02, .selects RJ0 yJ0_isLatin1_aae02 yJ0_isLatin1_aae02, .code yJ0_isLatin1_aae02 cJ0_isLatin1_aae02 1 (some .boolean), .fieldLink RJ0 38 "java/lang/String" "COMPACT_STRINGS" "Z", .fieldLink RJ0 15 "java/lang/String" "coder" "B", .fieldLink RJ0 9 "java/lang/String" "value" "[B", .methodLink RJ0 505 yJ0_length_8abf5, .instanceMethod yJ0_length_8abf5, .selects RJ0 yJ0_length_8abf5 yJ0_length_8abf5, .code yJ0_length_8abf5 cJ0_length_8abf5 1 (some .int), .methodLink RJ0 335 yJ0_coder_7d493, .instanceMethod yJ0_coder_7d493, .selects RJ0 yJ0_coder_7d493 yJ0_coder_7d493, .code yJ0_coder_7d493 cJ0_coder_7d493 1 (some .byte), .methodLink RJ0 637 yJ1_indexOf_4cfef, .static yJ1_indexOf_4cfef, .initialized RJ1, .code yJ1_indexOf_4cfef cJ1_indexOf_4cfef 4 (some .int), .methodLink RJ1 88 yJ1_canEncode_9a6ad, .static yJ1_canEncode_9a6ad, .code yJ1_canEncode_9a6ad cJ1_canEncode_9a6ad 1 (some .boolean), .methodLink RJ1 92 Lib.Math.max.name, .static Lib.Math.max.name, .initialized "java/lang/Math", .code Lib.Math.max.name Lib.Math.max.code 2 (some .int), .methodLink RJ1 38 Lib.Math.min.name, .static Lib.Math.min.name, .code Lib.Math.min.name Lib.Math.min.code 2 (some .int), .methodLink RJ1 95 yJ1_indexOfChar_4cfef, .static yJ1_indexOfChar_4cfef, .code yJ1_indexOfChar_4cfef cJ1_indexOfChar_4cfef 6 (some .int), .methodLink RX4 99 yX9_number, .instanceMethod yX9_number, .selects RX9 yX9_number yX9_number, .code yX9_number cX9_number 4 (some .int), .methodLink RX4 79 yX9_skip, .instanceMethod yX9_skip, .selects RX9 yX9_skip yX9_skip, .code yX9_skip cX9_skip 1 none, .methodLink RX4 60 yX4_emit, .instanceMethod yX4_emit, .selects RX4 yX4_emit yX4_emit, .code yX4_emit cX4_emit 2 none, .fieldLink RX4 20 "BuoyVote$Law" "length" "I", .fieldLink RX4 11 "BuoyVote$Law" "code" "[I", .methodLink RX4 88 yX9_takeEither, .instanceMethod yX9_takeEither, .selects RX9 yX9_takeEither yX9_takeEither, .code yX9_takeEither cX9_takeEither 4 (some .int), .methodLink RX4 53 yX4_isComparison, .static yX4_isComparison, .code yX4_isComparison cX4_isComparison 1 (some .boolean)] wsX90) wsX40)
theorem iw_c_X4_readUnit_5_X9 : ∀ w ∈ wsX90, w ∈ wf_c_X4_readUnit_5 := fun w h => List.mem_cons_of_mem _ (List.mem_append_left _ (List.mem_append_right _ h))
theorem iw_c_X4_readUnit_5_X4 : ∀ w ∈ wsX40, w ∈ wf_c_X4_readUnit_5 := fun w h => List.mem_cons_of_mem _ (List.mem_append_right _ h)
set_option maxRecDepth 20000 in
theorem gf_c_X4_readUnit_5_c_X9_peek : GoodIn wf_c_X4_readUnit_5 (wsV RX4 41 RX9 yX9_peek wf_c_X9_peek) := goodIn_app (gi_l [1, 2, 3, 4] rfl rfl) (gi_cons (j := 5) rfl rfl (goodIn_app (gi_l [6, 7, 8] rfl rfl) (goodIn_sub iw_c_X4_readUnit_5_X9 gw_X9)))
set_option maxRecDepth 20000 in
theorem gf_c_X4_readUnit_5_c_X4_isComparison : GoodIn wf_c_X4_readUnit_5 (va_wsS RX4 53 yX4_isComparison wf_c_X4_isComparison) := goodIn_app (gi_l [109, 110, 11] rfl rfl) (gi_cons (j := 111) rfl rfl gi_nil)
set_option maxRecDepth 20000 in
theorem gf_c_X4_readUnit_5_c_X9_refuseHere : GoodIn wf_c_X4_readUnit_5 (wsV RX4 82 RX9 yX9_refuseHere wf_c_X9_refuseHere) := goodIn_app (gi_l [38, 39, 40, 4] rfl rfl) (gi_cons (j := 41) rfl rfl (goodIn_app (gi_l [6, 23, 24, 25, 4, 26, 17] rfl rfl) (goodIn_sub iw_c_X4_readUnit_5_X9 gw_X9)))
set_option maxRecDepth 20000 in
theorem gf_c_X4_readUnit_5_c_X4_isComparison_1 : GoodIn wf_c_X4_readUnit_5 (va_wsS RX4 53 yX4_isComparison wf_c_X4_isComparison_1) := goodIn_app (gi_l [109, 110, 11] rfl rfl) (gi_cons (j := 111) rfl rfl gi_nil)
set_option maxRecDepth 20000 in
theorem gf_c_X4_readUnit_5_c_X9_skip : GoodIn wf_c_X4_readUnit_5 (wsV RX4 79 RX9 yX9_skip wf_c_X9_skip) := goodIn_app (gi_l [95, 96, 97, 4] rfl rfl) (gi_cons (j := 98) rfl rfl (goodIn_app (gi_l [6] rfl rfl) (goodIn_sub iw_c_X4_readUnit_5_X9 gw_X9)))
set_option maxRecDepth 20000 in
theorem gf_c_X4_readUnit_5_c_X4_readSum_4 : GoodIn wf_c_X4_readUnit_5 (wsV RX4 49 RX4 yX4_readSum wf_c_X4_readSum_4) := goodIn_app (gi_l [42, 43, 44, 11] rfl rfl) (gi_cons (j := 45) rfl rfl (goodIn_app (goodIn_app (gi_l [31, 32, 33, 4, 34, 17, 46, 47, 48, 11, 49, 1, 2, 3, 5, 6, 7, 8, 50, 51, 52, 53, 54, 55, 56, 57, 58, 59, 60, 61, 62, 63, 64, 65, 66, 67, 68, 69, 70, 71, 72, 73, 74, 75, 76, 77, 78, 79, 80, 81, 82, 83, 84, 85, 86, 87, 88, 89, 90, 91, 92, 93, 94, 38, 39, 40, 41, 23, 24, 25, 26, 95, 96, 97, 98, 42, 43, 44, 99, 100, 101, 102, 103, 104, 105, 106, 107, 108, 18, 19, 20, 21, 22] rfl rfl) (goodIn_sub iw_c_X4_readUnit_5_X9 gw_X9)) (goodIn_sub iw_c_X4_readUnit_5_X4 gw_X4)))
set_option maxRecDepth 20000 in
theorem gf_c_X4_readUnit_5_c_X4_emit : GoodIn wf_c_X4_readUnit_5 (wsV RX4 60 RX4 yX4_emit wf_c_X4_emit) := goodIn_app (gi_l [99, 100, 101, 11] rfl rfl) (gi_cons (j := 102) rfl rfl (goodIn_app (gi_l [103, 104] rfl rfl) (goodIn_sub iw_c_X4_readUnit_5_X4 gw_X4)))
set_option maxRecDepth 20000 in
theorem gf_c_X4_readUnit_5_c_X4_startsUnit : GoodIn wf_c_X4_readUnit_5 (va_wsS RX4 45 yX4_startsUnit wf_c_X4_startsUnit) := goodIn_app (gi_l [9, 10, 11] rfl rfl) (gi_cons (j := 12) rfl rfl gi_nil)
set_option maxRecDepth 20000 in
theorem gf_c_X4_readUnit_5_c_X4_startsUnit_1 : GoodIn wf_c_X4_readUnit_5 (va_wsS RX4 45 yX4_startsUnit wf_c_X4_startsUnit_1) := goodIn_app (gi_l [9, 10, 11] rfl rfl) (gi_cons (j := 12) rfl rfl gi_nil)
set_option maxRecDepth 20000 in
theorem gf_c_X4_readUnit_5_c_X9_take : GoodIn wf_c_X4_readUnit_5 (wsV RX4 63 RX9 yX9_take wf_c_X9_take) := goodIn_app (gi_l [13, 14, 15, 4] rfl rfl) (gi_cons (j := 16) rfl rfl (goodIn_app (gi_l [17, 18, 2, 3, 4, 5, 6, 7, 8] rfl rfl) (goodIn_sub iw_c_X4_readUnit_5_X9 gw_X9)))
set_option maxRecDepth 20000 in
theorem gf_c_X4_readUnit_5_c_X9_expect_1 : GoodIn wf_c_X4_readUnit_5 (wsV RX4 37 RX9 yX9_expect wf_c_X9_expect_1) := goodIn_app (gi_l [19, 20, 21, 4] rfl rfl) (gi_cons (j := 22) rfl rfl (goodIn_app (gi_l [17, 18, 2, 3, 4, 5, 6, 7, 8, 23, 24, 25, 26] rfl rfl) (goodIn_sub iw_c_X4_readUnit_5_X9 gw_X9)))
set_option maxRecDepth 20000 in
theorem gf_c_X4_readUnit_5_c_X4_readCondition_5 : GoodIn wf_c_X4_readUnit_5 (wsV RX4 56 RX4 yX4_readCondition wf_c_X4_readCondition_5) := goodIn_app (gi_l [27, 28, 29, 11] rfl rfl) (gi_cons (j := 30) rfl rfl (goodIn_app (goodIn_app (gi_l [31, 32, 33, 4, 34, 17, 35, 36, 37, 11, 0, 1, 2, 3, 5, 6, 7, 8, 9, 10, 12, 13, 14, 15, 16, 18, 19, 20, 21, 22, 23, 24, 25, 26, 27, 28, 29, 38, 39, 40, 41, 42, 43, 44, 45, 46, 47, 48, 49, 50, 51, 52, 53, 54, 55, 56, 57, 58, 59, 60, 61, 62, 63, 64, 65, 66, 67, 68, 69, 70, 71, 72, 73, 74, 75, 76, 77, 78, 79, 80, 81, 82, 83, 84, 85, 86, 87, 88, 89, 90, 91, 92, 93, 94, 95, 96, 97, 98, 99, 100, 101, 102, 103, 104, 105, 106, 107, 108, 109, 110, 111] rfl rfl) (goodIn_sub iw_c_X4_readUnit_5_X9 gw_X9)) (goodIn_sub iw_c_X4_readUnit_5_X4 gw_X4)))
set_option maxRecDepth 20000 in
theorem gf_c_X4_readUnit_5_c_X4_readUnit_6 : GoodIn wf_c_X4_readUnit_5 (wsV RX4 76 RX4 yX4_readUnit wf_c_X4_readUnit_6) := goodIn_app (gi_l [35, 36, 37, 11] rfl rfl) (gi_cons (j := 0) rfl rfl (goodIn_app (goodIn_app (gi_l [1, 2, 3, 4, 5, 6, 7, 8, 9, 10, 11, 12, 13, 14, 15, 16, 17, 18, 19, 20, 21, 22, 23, 24, 25, 26, 27, 28, 29, 30, 31, 32, 33, 34, 35, 36, 37, 38, 39, 40, 41, 42, 43, 44, 45, 46, 47, 48, 49, 50, 51, 52, 53, 54, 55, 56, 57, 58, 59, 60, 61, 62, 63, 64, 65, 66, 67, 68, 69, 70, 71, 72, 73, 74, 75, 76, 77, 78, 79, 80, 81, 82, 83, 84, 85, 86, 87, 88, 89, 90, 91, 92, 93, 94, 95, 96, 97, 98, 99, 100, 101, 102, 103, 104, 105, 106, 107, 108, 109, 110, 111] rfl rfl) (goodIn_sub iw_c_X4_readUnit_5_X9 gw_X9)) (goodIn_sub iw_c_X4_readUnit_5_X4 gw_X4)))
set_option maxHeartbeats 4000000 in
set_option maxRecDepth 100000 in
theorem c_X4_readUnit_5 (l : Launch) (dC : Nat → ClassId) (dI : Nat → Nat → Nat) (sz : Nat) (h0 : Nat) (h1 : Nat) (h1_0 : Nat) (h1_f1 : Int32) (h1_f2 : Int32) (h1_f3 : Int32) (h1_0k : ClassId) (h1_0c : Nat → Int32) (h0_0 : Nat) (h0_f1 : Int32) (h0_2 : Nat) (h0_0k : ClassId) (h0_0c : Nat → Int32) (ts4 : Nat) (tv4 : Nat) (g_h1_f1 : RG h1_f1 0 240) (g_h1_f2 : RG h1_f2 0 240) (g_h1_f3 : RG h1_f3 (-1) 240) (a_h1_0c : AI h1_0c 0 255) (g_h0_f1 : RG h0_f1 0 240) : Met l yX4_readUnit wf_c_X4_readUnit_5 ({ frames := 10, cells := 0, slots := 0, locals := 241 }) (va_Pc [.ref h0, .ref h1, .int 4, .int 0] (fun U => U.heap.size = sz ∧ va_P (dC, dI) vwCl (wd_c_X4_readUnit_5 h1 h1_0 h1_f1 h1_f2 h1_f3 h1_0 h1_0k h1_0c h0 h0_0 h0_f1 h0_2 h0_0 h0_0k h0_0c) U.heap ∧ va_K (dC, dI) vwCl [(h1_0k, .int), (h0_0k, .int)] U ∧ va_D (fun _ => True) (wd_c_X4_readUnit_5 h1 h1_0 h1_f1 h1_f2 h1_f3 h1_0 h1_0k h1_0c h0 h0_0 h0_f1 h0_2 h0_0 h0_0k h0_0c) ∧ vk_R RX4 91 "vlrdph" ts4 U ∧ va_Z "java/lang/String" "COMPACT_STRINGS" "Z" (.int 1) (va_A (wd_c_X4_readUnit_5 h1 h1_0 h1_f1 h1_f2 h1_f3 h1_0 h1_0k h1_0c h0 h0_0 h0_f1 h0_2 h0_0 h0_0k h0_0c) sz) U U.heap ∧ va_OF "java/lang/String" "coder" "B" (.int 0) ts4 (va_A (wd_c_X4_readUnit_5 h1 h1_0 h1_f1 h1_f2 h1_f3 h1_0 h1_0k h1_0c h0 h0_0 h0_f1 h0_2 h0_0 h0_0k h0_0c) sz) U U.heap ∧ va_O "java/lang/String" ts4 (va_A (wd_c_X4_readUnit_5 h1 h1_0 h1_f1 h1_f2 h1_f3 h1_0 h1_0k h1_0c h0 h0_0 h0_f1 h0_2 h0_0 h0_0k h0_0c) sz) U U.heap ∧ va_OF "java/lang/String" "value" "[B" (.ref tv4) ts4 (va_A (wd_c_X4_readUnit_5 h1 h1_0 h1_f1 h1_f2 h1_f3 h1_0 h1_0k h1_0c h0 h0_0 h0_f1 h0_2 h0_0 h0_0k h0_0c) sz) U U.heap ∧ va_T .byte tv4 6 (fun j => .int ([118, 108, 114, 100, 112, 104].getD j 0)) (va_A (wd_c_X4_readUnit_5 h1 h1_0 h1_f1 h1_f2 h1_f3 h1_0 h1_0k h1_0c h0 h0_0 h0_f1 h0_2 h0_0 h0_0k h0_0c) sz) U U.heap)) (va_Qv (fun (u : (Int32) × (Int32) × (Int32) × (Nat → Int32)) => (RG u.1 0 240 ∧ RG u.2.1 (-1) 240 ∧ RG u.2.2.1 0 240 ∧ (u.1, u.2.1, u.2.2.1, u.2.2.2) = fx_c_X4_readUnit_5 h1_f1 h1_f2 h1_f3 h1_0c h0_f1 h0_0c)) (fun (u : (Int32) × (Int32) × (Int32) × (Nat → Int32)) t => va_P (dC, dI) vwCl (wd_c_X4_readUnit_5 h1 h1_0 h1_f1 (u.1) (u.2.1) h1_0 h1_0k h1_0c h0 h0_0 (u.2.2.1) h0_2 h0_0 h0_0k (u.2.2.2)) t.heap ∧ va_K (dC, dI) vwCl [] t ∧ va_D (va_A (wd_c_X4_readUnit_5 h1 h1_0 h1_f1 h1_f2 h1_f3 h1_0 h1_0k h1_0c h0 h0_0 h0_f1 h0_2 h0_0 h0_0k h0_0c) sz) (wd_c_X4_readUnit_5 h1 h1_0 h1_f1 (u.1) (u.2.1) h1_0 h1_0k h1_0c h0 h0_0 (u.2.2.1) h0_2 h0_0 h0_0k (u.2.2.2))) (va_A (wd_c_X4_readUnit_5 h1 h1_0 h1_f1 h1_f2 h1_f3 h1_0 h1_0k h1_0c h0 h0_0 h0_f1 h0_2 h0_0 h0_0k h0_0c) sz)) 0 0 (va_A (wd_c_X4_readUnit_5 h1 h1_0 h1_f1 h1_f2 h1_f3 h1_0 h1_0k h1_0c h0 h0_0 h0_f1 h0_2 h0_0 h0_0k h0_0c) sz) := by
  refine Met.ofW (cc := cX4_readUnit) (maxL := 5) (ret := none) (by decide +kernel) rfl ?_
  intro p e s m args below meth c s₁ B hml hv
  obtain ⟨rfl, hsz, hP, hK, hD0, hE_32, hE_10, hE_34, hE_33, hE_35, hE_36⟩ := hv
  have hx := B.exec
  have hb := B.bytes
  have hr := B.returns
  have hts := atoms_spec (ws := wf_c_X4_readUnit_5) B.pre
  have hown : s.vm.findClass RX4 = some m.cls := findClass_of_methodNamed B.named
  have hlocks := B.notSynchronized
  subst hsz
  have hD := hD0.self (sz := s.heap.size)
  generalize hAe : va_A (wd_c_X4_readUnit_5 h1 h1_0 h1_f1 h1_f2 h1_f3 h1_0 h1_0k h1_0c h0 h0_0 h0_f1 h0_2 h0_0 h0_0k h0_0c) s.heap.size = A at hD hE_10 hE_34 hE_33 hE_35 hE_36 ⊢
  have hA : ∀ q : Nat, s.heap.size ≤ q → A q := fun q h => by rw [← hAe]; exact Or.inr h
  have hP : va_P (dC, dI) vwCl (wd_c_X4_readUnit_5 h1 h1_0 h1_f1 h1_f2 h1_f3 h1_0 h1_0k h1_0c h0 h0_0 h0_f1 h0_2 h0_0 h0_0k h0_0c) s.heap := hP
  have hl := lv_entry ([.ref h0, .ref h1, .int 4, .int 0]) (n := 5) (Nat.le_of_ble_eq_true rfl)
  rw [lg_entry_eq]
  generalize (lg_sl ([.ref h0, .ref h1, .int 4, .int 0]) ++ List.replicate (5 - (lg_sl ([.ref h0, .ref h1, .int 4, .int 0])).length) Slot.unset).toArray = ls at hl ⊢
  have hl : lv_has ls 5 [(0, .ref h0), (1, .ref h1), (2, .int 4), (3, .int 0)] := hl
  obtain ⟨H, hHe⟩ : ∃ H : Heap, s.heap = H := ⟨_, rfl⟩
  have hS : va_S A s.heap H [] := by rw [hHe]; exact va_S.rf
  have hP : va_P (dC, dI) vwCl (wd_c_X4_readUnit_5 h1 h1_0 h1_f1 h1_f2 h1_f3 h1_0 h1_0k h1_0c h0 h0_0 h0_f1 h0_2 h0_0 h0_0k h0_0c) H := by rw [← hHe]; exact hP
  rw [hHe]
  obtain ⟨RES, hR⟩ : ∃ z, fx_c_X4_readUnit_5 h1_f1 h1_f2 h1_f3 h1_0c h0_f1 h0_0c = z := ⟨_, rfl⟩
  have hEX : RES = fx_c_X4_readUnit_5 h1_f1 h1_f2 h1_f3 h1_0c h0_f1 h0_0c := hR.symm
  refine wj (fun G hG hU => ?_)
  as_aux_lemma =>
  have J62 : ∀ (j62_h1_f2 : Int32) (j62_h1_f3 : Int32) (j62_h0_f1 : Int32) (j62_h0_0c : Nat → Int32) (g_h0_f1 : RG h0_f1 0 240) (g_h1_f1 : RG h1_f1 0 240) (g_h1_f2 : RG h1_f2 0 240) (g_h1_f3 : RG h1_f3 (-1) 240) (g_j62_h0_f1 : RG j62_h0_f1 0 240) (g_j62_h1_f2 : RG j62_h1_f2 0 240) (g_j62_h1_f3 : RG j62_h1_f3 (-1) 240) (hEX : RES = fx_c_X4_readUnit_5_p62 j62_h1_f2 j62_h1_f3 j62_h0_f1 j62_h0_0c) (H : Heap) (locs : List Loc) (ls : Array Slot) (hP : va_P (dC, dI) vwCl (wd_c_X4_readUnit_5 h1 h1_0 h1_f1 j62_h1_f2 j62_h1_f3 h1_0 h1_0k h1_0c h0 h0_0 j62_h0_f1 h0_2 h0_0 h0_0k j62_h0_0c) H) (hD : va_D A (wd_c_X4_readUnit_5 h1 h1_0 h1_f1 j62_h1_f2 j62_h1_f3 h1_0 h1_0k h1_0c h0 h0_0 j62_h0_f1 h0_2 h0_0 h0_0k j62_h0_0c)) (hS : va_S A s.heap H locs) (hl : lv_has ls 5 []), G H locs (F0 m 62 ls []) := by
    as_aux_lemma =>
    intro j62_h1_f2 j62_h1_f3 j62_h0_f1 j62_h0_0c g_h0_f1 g_h1_f1 g_h1_f2 g_h1_f3 g_j62_h0_f1 g_j62_h1_f2 g_j62_h1_f3 hEX H locs ls hP hD hS hl
    refine hG _ _ _ ?_
    refine lv_goto (tgt := 126) hx hb dX4_readUnit_62 rfl ?_
    have hK9 := hK.sub (tys' := []) [] rfl
    exact W.vret hx hb hr (fun t ht hW => ⟨⟨(j62_h1_f2, j62_h1_f3, j62_h0_f1, j62_h0_0c), rfl, ⟨g_j62_h1_f2, g_j62_h1_f3, g_j62_h0_f1, (hR.trans hEX).symm⟩, by rw [ht]; exact hP, va_K.moved hW.alike hK9, hD⟩, hS.F ht⟩) hS.2.2 dX4_readUnit_126
  have J24 : ∀ (j24_h1_f2 : Int32) (j24_h1_f3 : Int32) (j24_h0_f1 : Int32) (j24_h0_0c : Nat → Int32) (g_h0_f1 : RG h0_f1 0 240) (g_h1_f1 : RG h1_f1 0 240) (g_h1_f2 : RG h1_f2 0 240) (g_h1_f3 : RG h1_f3 (-1) 240) (g_j24_h0_f1 : RG j24_h0_f1 0 240) (g_j24_h1_f2 : RG j24_h1_f2 0 240) (g_j24_h1_f3 : RG j24_h1_f3 (-1) 240) (hEX : RES = fx_c_X4_readUnit_5_p24 h1_f1 h1_0c j24_h1_f2 j24_h1_f3 j24_h0_f1 j24_h0_0c) (H : Heap) (locs : List Loc) (ls : Array Slot) (hP : va_P (dC, dI) vwCl (wd_c_X4_readUnit_5 h1 h1_0 h1_f1 j24_h1_f2 j24_h1_f3 h1_0 h1_0k h1_0c h0 h0_0 j24_h0_f1 h0_2 h0_0 h0_0k j24_h0_0c) H) (hD : va_D A (wd_c_X4_readUnit_5 h1 h1_0 h1_f1 j24_h1_f2 j24_h1_f3 h1_0 h1_0k h1_0c h0 h0_0 j24_h0_f1 h0_2 h0_0 h0_0k j24_h0_0c)) (hS : va_S A s.heap H locs) (hl : lv_has ls 5 [(0, .ref h0), (1, .ref h1), (2, .int 4)]), G H locs (F0 m 24 ls []) := by
    as_aux_lemma =>
    intro j24_h1_f2 j24_h1_f3 j24_h0_f1 j24_h0_0c g_h0_f1 g_h1_f1 g_h1_f2 g_h1_f3 g_j24_h0_f1 g_j24_h1_f2 g_j24_h1_f3 hEX H locs ls hP hD hS hl
    refine hG _ _ _ ?_
    refine lv_aload_n hx hb dX4_readUnit_24 rfl (lv_at hl 1 rfl) ?_
    obtain ⟨hPc, hDc, hFc, hqc⟩ := cl_cut (wc := (wd_c_X9_peek h1 h1_0 h1_f1 j24_h1_f2 j24_h1_f3 h1_0 h1_0k h1_0c)) hP hD hS hA [0, 1] (by decide +kernel) rfl
    have hKc := hK.sub (tys' := [(h1_0k, .int)]) [0] rfl
    have hrv := va_recv hKc hPc (ci := 9) (q0 := 0) rfl rfl
    refine va_calli (va_runV (As := []) (rest := []) ⟨hx, hb, hml, hown, hts⟩ (c_X9_peek l dC dI H.size h1 h1_0 h1_f1 j24_h1_f2 j24_h1_f3 h1_0k h1_0c g_h1_f1 g_j24_h1_f2 g_j24_h1_f3 a_h1_0c) (cwV 0 hts gf_c_X4_readUnit_5_c_X9_peek rfl rfl rfl mdV_X9_peek ⟨Nat.le_of_ble_eq_true rfl, Nat.le_of_ble_eq_true rfl⟩) ⟨fun a U g mk q => by obtain ⟨q0, q1, qP, qK, qD⟩ := q; exact ⟨q0, q1, qP, va_K.moved (u := U) (U := U.calling g mk a) (Vm.Alike.refl U.vm) qK, qD⟩, hrv, fun U hU hW => ⟨rfl, by rw [hU], by rw [hU]; exact hPc, va_K.moved hW.alike hKc, hDc.weaken (fun _ _ _ _ => trivial)⟩⟩ rfl rfl hl.1 rfl (lv_room (Nat.le_of_ble_eq_true rfl)) dX4_readUnit_25 ⟨Nat.le_of_ble_eq_true rfl, Nat.le_of_ble_eq_true rfl⟩) hS (fun q _ h => hFc q h) hFc (fun r_1 x_2 t H1 locs ht hvm hw hB hz1 hk1 hS => ?_)
    obtain ⟨hP1, hK1, hD1⟩ := hB
    rw [ht] at hP1
    obtain ⟨hP, hD⟩ := cl_put (w1 := (wd_c_X9_peek h1 h1_0 h1_f1 x_2 j24_h1_f3 h1_0 h1_0k h1_0c)) (nw := (wd_c_X4_readUnit_5 h1 h1_0 h1_f1 x_2 j24_h1_f3 h1_0 h1_0k h1_0c h0 h0_0 j24_h0_f1 h0_2 h0_0 h0_0k j24_h0_0c)) hP hD [0, 1] [4, 5, 2, 3] 4 rfl hqc (by decide +kernel) rfl hk1 hFc hP1 hD1
    generalize H1 = H at hP hS ⊢
    as_aux_lemma =>
    rcases hw with ⟨h_3, h_4, h_5, h_6⟩ | ⟨h_7, h_8, h_9, h_10, h_11⟩
    · have h_6 : (r_1, x_2) = _ := h_6
      replace hEX := hEX.trans (exc2_eq h_6)
      replace hEX := hEX.trans (if_pos (show r_1 = (-1) from h_3))
      rw [h_3]
      refine lv_istore (lv' := [(4, .int (-1)), (0, .ref h0), (1, .ref h1), (2, .int 4)]) hx hb dX4_readUnit_28 hl (Nat.le_of_ble_eq_true rfl) rfl (fun ls hl => ?_)
      refine lv_iload hx hb dX4_readUnit_30 (lv_at hl 0 rfl) ?_
      obtain ⟨hPc, hDc, hFc, hqc⟩ := cl_cut (wc := []) hP hD hS hA [] (by decide +kernel) rfl
      have hKc := hK.sub (tys' := []) [] rfl
      refine va_calli (va_runS (As := [.int (-1)]) (rest := []) ⟨hx, hb, hml, hown, hts⟩ (c_X4_isComparison l dC dI H.size (-1) (RG_k (-1) (-1) rfl)) (va_cwS 1 hts gf_c_X4_readUnit_5_c_X4_isComparison rfl rfl rfl md_X4_isComparison ⟨Nat.le_of_ble_eq_true rfl, Nat.le_of_ble_eq_true rfl⟩) ⟨fun a U g mk q => by obtain ⟨q0, q1, qP, qK, qD⟩ := q; exact ⟨q0, q1, qP, va_K.moved (u := U) (U := U.calling g mk a) (Vm.Alike.refl U.vm) qK, qD⟩, fun U hU hW => ⟨rfl, by rw [hU], by rw [hU]; exact hPc, va_K.moved hW.alike hKc, hDc.weaken (fun _ _ _ _ => trivial)⟩⟩ rfl rfl hl.1 rfl (lv_room (Nat.le_of_ble_eq_true rfl)) dX4_readUnit_32 ⟨Nat.le_of_ble_eq_true rfl, Nat.le_of_ble_eq_true rfl⟩) hS (fun q _ h => hFc q h) hFc (fun r_12 u t H1 locs ht hvm hw hB hz1 hk1 hS => ?_)
      obtain ⟨hP1, hK1, hD1⟩ := hB
      rw [ht] at hP1
      have hP := bv_still hP hk1
      generalize H1 = H at hP hS ⊢
      as_aux_lemma =>
      rcases hw with ⟨h_13, h_14⟩
      have h_14 : r_12 = _ := h_14
      replace hEX := hEX.trans (exc1_eq h_14)
      rw [h_13]
      refine lv_if_eq (tgt := 58) hx hb dX4_readUnit_35 rfl (fun c_15 => ?_) (fun c_15 => absurd c_15 (by decide +kernel))
      refine lv_aload_n hx hb dX4_readUnit_58 rfl (lv_at hl 2 rfl) ?_
      obtain ⟨hPc, hDc, hFc, hqc⟩ := cl_cut (wc := (wd_c_X9_refuseHere h1 h1_0 h1_f1 x_2 j24_h1_f3)) hP hD hS hA [0] (by decide +kernel) rfl
      have hKc := hK.sub (tys' := []) [] rfl
      have hrv := va_recv hKc hPc (ci := 9) (q0 := 0) rfl rfl
      refine va_callv (va_runV (As := []) (rest := []) ⟨hx, hb, hml, hown, hts⟩ (c_X9_refuseHere l dC dI H.size h1 h1_0 h1_f1 x_2 j24_h1_f3 g_h1_f1 h_4 g_j24_h1_f3) (cwV 0 hts gf_c_X4_readUnit_5_c_X9_refuseHere rfl rfl rfl mdV_X9_refuseHere ⟨Nat.le_of_ble_eq_true rfl, Nat.le_of_ble_eq_true rfl⟩) ⟨fun a U g mk q => by obtain ⟨q0, q1, qP, qK, qD⟩ := q; exact ⟨q0, q1, qP, va_K.moved (u := U) (U := U.calling g mk a) (Vm.Alike.refl U.vm) qK, qD⟩, hrv, fun U hU hW => ⟨rfl, by rw [hU], by rw [hU]; exact hPc, va_K.moved hW.alike hKc, hDc.weaken (fun _ _ _ _ => trivial)⟩⟩ rfl rfl hl.1 rfl (lv_room (Nat.le_of_ble_eq_true rfl)) dX4_readUnit_59 ⟨Nat.le_of_ble_eq_true rfl, Nat.le_of_ble_eq_true rfl⟩) hS (fun q _ h => hFc q h) hFc (fun x_17 t H1 locs ht hvm hw hB hz1 hk1 hS => ?_)
      obtain ⟨hP1, hK1, hD1⟩ := hB
      rw [ht] at hP1
      obtain ⟨hP, hD⟩ := cl_put (w1 := (wd_c_X9_refuseHere h1 h1_0 h1_f1 x_2 x_17)) (nw := (wd_c_X4_readUnit_5 h1 h1_0 h1_f1 x_2 x_17 h1_0 h1_0k h1_0c h0 h0_0 j24_h0_f1 h0_2 h0_0 h0_0k j24_h0_0c)) hP hD [0] [4, 1, 2, 3] 4 rfl hqc (by decide +kernel) rfl hk1 hFc hP1 hD1
      generalize H1 = H at hP hS ⊢
      as_aux_lemma =>
      rcases hw with ⟨h_18, h_19⟩
      have h_19 : x_17 = _ := h_19
      replace hEX := hEX.trans (exc1_eq h_19)
      exact hU _ _ _ (J62 x_2 x_17 j24_h0_f1 j24_h0_0c g_h0_f1 g_h1_f1 g_h1_f2 g_h1_f3 g_j24_h0_f1 h_4 (RG_w h_18 (by decide +kernel)) hEX _ _ _ hP hD hS (lv_sub hl [] rfl))
    · have h_11 : (r_1, x_2) = _ := h_11
      replace hEX := hEX.trans (exc2_eq h_11)
      replace hEX := hEX.trans (if_neg (RG_neq (x := r_1) (c := (-1)) (show RG r_1 0 255 from h_7) (by decide +kernel)))
      refine lv_istore (lv' := [(4, .int r_1), (0, .ref h0), (1, .ref h1), (2, .int 4)]) hx hb dX4_readUnit_28 hl (Nat.le_of_ble_eq_true rfl) rfl (fun ls hl => ?_)
      refine lv_iload hx hb dX4_readUnit_30 (lv_at hl 0 rfl) ?_
      obtain ⟨hPc, hDc, hFc, hqc⟩ := cl_cut (wc := []) hP hD hS hA [] (by decide +kernel) rfl
      have hKc := hK.sub (tys' := []) [] rfl
      refine va_calli (va_runS (As := [.int r_1]) (rest := []) ⟨hx, hb, hml, hown, hts⟩ (c_X4_isComparison_1 l dC dI H.size r_1 h_7) (va_cwS 1 hts gf_c_X4_readUnit_5_c_X4_isComparison_1 rfl rfl rfl md_X4_isComparison ⟨Nat.le_of_ble_eq_true rfl, Nat.le_of_ble_eq_true rfl⟩) ⟨fun a U g mk q => by obtain ⟨q0, q1, qP, qK, qD⟩ := q; exact ⟨q0, q1, qP, va_K.moved (u := U) (U := U.calling g mk a) (Vm.Alike.refl U.vm) qK, qD⟩, fun U hU hW => ⟨rfl, by rw [hU], by rw [hU]; exact hPc, va_K.moved hW.alike hKc, hDc.weaken (fun _ _ _ _ => trivial)⟩⟩ rfl rfl hl.1 rfl (lv_room (Nat.le_of_ble_eq_true rfl)) dX4_readUnit_32 ⟨Nat.le_of_ble_eq_true rfl, Nat.le_of_ble_eq_true rfl⟩) hS (fun q _ h => hFc q h) hFc (fun r_20 u t H1 locs ht hvm hw hB hz1 hk1 hS => ?_)
      obtain ⟨hP1, hK1, hD1⟩ := hB
      rw [ht] at hP1
      have hP := bv_still hP hk1
      generalize H1 = H at hP hS ⊢
      as_aux_lemma =>
      rcases hw with ⟨h_21, h_22⟩ | ⟨h_23, h_24, h_25⟩
      · have h_22 : r_20 = _ := h_22
        replace hEX := hEX.trans (exc1_eq h_22)
        replace hEX := hEX.trans (if_pos (show r_20 = 0 from h_21))
        rw [h_21]
        refine lv_if_eq (tgt := 58) hx hb dX4_readUnit_35 rfl (fun c_26 => ?_) (fun c_26 => absurd c_26 (by decide +kernel))
        refine lv_aload_n hx hb dX4_readUnit_58 rfl (lv_at hl 2 rfl) ?_
        obtain ⟨hPc, hDc, hFc, hqc⟩ := cl_cut (wc := (wd_c_X9_refuseHere h1 h1_0 h1_f1 x_2 j24_h1_f3)) hP hD hS hA [0] (by decide +kernel) rfl
        have hKc := hK.sub (tys' := []) [] rfl
        have hrv := va_recv hKc hPc (ci := 9) (q0 := 0) rfl rfl
        refine va_callv (va_runV (As := []) (rest := []) ⟨hx, hb, hml, hown, hts⟩ (c_X9_refuseHere l dC dI H.size h1 h1_0 h1_f1 x_2 j24_h1_f3 (RG_w h_9 (by decide +kernel)) (RG_w h_8 (by decide +kernel)) g_j24_h1_f3) (cwV 0 hts gf_c_X4_readUnit_5_c_X9_refuseHere rfl rfl rfl mdV_X9_refuseHere ⟨Nat.le_of_ble_eq_true rfl, Nat.le_of_ble_eq_true rfl⟩) ⟨fun a U g mk q => by obtain ⟨q0, q1, qP, qK, qD⟩ := q; exact ⟨q0, q1, qP, va_K.moved (u := U) (U := U.calling g mk a) (Vm.Alike.refl U.vm) qK, qD⟩, hrv, fun U hU hW => ⟨rfl, by rw [hU], by rw [hU]; exact hPc, va_K.moved hW.alike hKc, hDc.weaken (fun _ _ _ _ => trivial)⟩⟩ rfl rfl hl.1 rfl (lv_room (Nat.le_of_ble_eq_true rfl)) dX4_readUnit_59 ⟨Nat.le_of_ble_eq_true rfl, Nat.le_of_ble_eq_true rfl⟩) hS (fun q _ h => hFc q h) hFc (fun x_28 t H1 locs ht hvm hw hB hz1 hk1 hS => ?_)
        obtain ⟨hP1, hK1, hD1⟩ := hB
        rw [ht] at hP1
        obtain ⟨hP, hD⟩ := cl_put (w1 := (wd_c_X9_refuseHere h1 h1_0 h1_f1 x_2 x_28)) (nw := (wd_c_X4_readUnit_5 h1 h1_0 h1_f1 x_2 x_28 h1_0 h1_0k h1_0c h0 h0_0 j24_h0_f1 h0_2 h0_0 h0_0k j24_h0_0c)) hP hD [0] [4, 1, 2, 3] 4 rfl hqc (by decide +kernel) rfl hk1 hFc hP1 hD1
        generalize H1 = H at hP hS ⊢
        as_aux_lemma =>
        rcases hw with ⟨h_29, h_30⟩
        have h_30 : x_28 = _ := h_30
        replace hEX := hEX.trans (exc1_eq h_30)
        exact hU _ _ _ (J62 x_2 x_28 j24_h0_f1 j24_h0_0c g_h0_f1 (RG_w h_9 (by decide +kernel)) g_h1_f2 g_h1_f3 g_j24_h0_f1 (RG_w h_8 (by decide +kernel)) (RG_w h_29 (by decide +kernel)) hEX _ _ _ hP hD hS (lv_sub hl [] rfl))
      · have h_25 : r_20 = _ := h_25
        replace hEX := hEX.trans (exc1_eq h_25)
        replace hEX := hEX.trans (if_neg (fun q9 : r_20 = 0 => absurd ((show r_20 = 1 from h_23).symm.trans q9) (by decide +kernel)))
        rw [h_23]
        refine lv_if_eq (tgt := 58) hx hb dX4_readUnit_35 rfl (fun c_31 => absurd c_31 (by decide +kernel)) (fun c_31 => ?_)
        refine lv_aload_n hx hb dX4_readUnit_38 rfl (lv_at hl 2 rfl) ?_
        obtain ⟨hPc, hDc, hFc, hqc⟩ := cl_cut (wc := (wd_c_X9_skip h1 h1_0 h1_f1 x_2 j24_h1_f3)) hP hD hS hA [0] (by decide +kernel) rfl
        have hKc := hK.sub (tys' := []) [] rfl
        have hrv := va_recv hKc hPc (ci := 9) (q0 := 0) rfl rfl
        refine va_callv (va_runV (As := []) (rest := []) ⟨hx, hb, hml, hown, hts⟩ (c_X9_skip l dC dI H.size h1 h1_0 h1_f1 x_2 j24_h1_f3 (RG_w h_9 (by decide +kernel)) h_8 g_j24_h1_f3) (cwV 0 hts gf_c_X4_readUnit_5_c_X9_skip rfl rfl rfl mdV_X9_skip ⟨Nat.le_of_ble_eq_true rfl, Nat.le_of_ble_eq_true rfl⟩) ⟨fun a U g mk q => by obtain ⟨q0, q1, qP, qK, qD⟩ := q; exact ⟨q0, q1, qP, va_K.moved (u := U) (U := U.calling g mk a) (Vm.Alike.refl U.vm) qK, qD⟩, hrv, fun U hU hW => ⟨rfl, by rw [hU], by rw [hU]; exact hPc, va_K.moved hW.alike hKc, hDc.weaken (fun _ _ _ _ => trivial)⟩⟩ rfl rfl hl.1 rfl (lv_room (Nat.le_of_ble_eq_true rfl)) dX4_readUnit_39 ⟨Nat.le_of_ble_eq_true rfl, Nat.le_of_ble_eq_true rfl⟩) hS (fun q _ h => hFc q h) hFc (fun x_33 t H1 locs ht hvm hw hB hz1 hk1 hS => ?_)
        as_aux_lemma =>
        obtain ⟨hP1, hK1, hD1⟩ := hB
        rw [ht] at hP1
        obtain ⟨hP, hD⟩ := cl_put (w1 := (wd_c_X9_skip h1 h1_0 h1_f1 x_33 j24_h1_f3)) (nw := (wd_c_X4_readUnit_5 h1 h1_0 h1_f1 x_33 j24_h1_f3 h1_0 h1_0k h1_0c h0 h0_0 j24_h0_f1 h0_2 h0_0 h0_0k j24_h0_0c)) hP hD [0] [4, 1, 2, 3] 4 rfl hqc (by decide +kernel) rfl hk1 hFc hP1 hD1
        generalize H1 = H at hP hS ⊢
        as_aux_lemma =>
        rcases hw with ⟨h_34, h_35, h_36, h_37⟩
        have h_37 : x_33 = _ := h_37
        replace hEX := hEX.trans (exc1_eq h_37)
        refine lv_aload_n hx hb dX4_readUnit_42 rfl (lv_at hl 1 rfl) ?_
        refine lv_aload_n hx hb dX4_readUnit_43 rfl (lv_at hl 2 rfl) ?_
        refine lv_iload_n hx hb dX4_readUnit_44 rfl (lv_at hl 3 rfl) ?_
        obtain ⟨hPc, hDc, hFc, hqc⟩ := cl_cut (wc := (wd_c_X4_readSum_4 h1 h1_0 h1_f1 x_33 j24_h1_f3 h1_0 h1_0k h1_0c h0 h0_0 j24_h0_f1 h0_2 h0_0 h0_0k j24_h0_0c)) hP hD hS hA [0, 1, 2, 3] (by decide +kernel) rfl
        have hKc := hK.sub (tys' := [(h1_0k, .int), (h0_0k, .int)]) [0, 1] rfl
        have hrv := va_recv hKc hPc (ci := 4) (q0 := 2) rfl rfl
        refine va_callv (va_runV (As := [.ref h1, .int 4]) (rest := []) ⟨hx, hb, hml, hown, hts⟩ (c_X4_readSum_4 l dC dI H.size h0 h1 h1_0 h1_f1 x_33 j24_h1_f3 h1_0k h1_0c h0_0 j24_h0_f1 h0_2 h0_0k j24_h0_0c ts4 tv4 (RG_w h_9 (by decide +kernel)) (RG_w h_34 (by decide +kernel)) g_j24_h1_f3 a_h1_0c g_j24_h0_f1) (cwV 2 hts gf_c_X4_readUnit_5_c_X4_readSum_4 rfl rfl rfl mdV_X4_readSum ⟨Nat.le_of_ble_eq_true rfl, Nat.le_of_ble_eq_true rfl⟩) ⟨fun a U g mk q => by obtain ⟨q0, q1, qP, qK, qD, qE0, qE1, qE2, qE3, qE4, qE5⟩ := q; exact ⟨q0, q1, qP, va_K.moved (u := U) (U := U.calling g mk a) (Vm.Alike.refl U.vm) qK, qD, vk_R.same rfl qE0, va_Z.moved (u := U) (U := U.calling g mk a) (Vm.Alike.refl U.vm) qE1, va_OF.moved (u := U) (U := U.calling g mk a) (Vm.Alike.refl U.vm) qE2, va_O.moved (u := U) (U := U.calling g mk a) (Vm.Alike.refl U.vm) qE3, va_OF.moved (u := U) (U := U.calling g mk a) (Vm.Alike.refl U.vm) qE4, va_T.moved (u := U) (U := U.calling g mk a) (Vm.Alike.refl U.vm) qE5⟩, hrv, fun U hU hW => ⟨rfl, by rw [hU], by rw [hU]; exact hPc, va_K.moved hW.alike hKc, hDc.weaken (fun _ _ _ _ => trivial), vk_R.warm hW hE_32, va_Z.moved hW.alike (by rw [hU]; exact (hE_10.kept hS.2.1).narrow hFc), va_OF.moved hW.alike (by rw [hU]; exact (hE_34.kept hS.2.1).narrow hFc), va_O.moved hW.alike (by rw [hU]; exact (hE_33.kept hS.2.1).narrow hFc), va_OF.moved hW.alike (by rw [hU]; exact (hE_35.kept hS.2.1).narrow hFc), va_T.moved hW.alike (by rw [hU]; exact (hE_36.kept hS.2.1).narrow hFc)⟩⟩ rfl rfl hl.1 rfl (lv_room (Nat.le_of_ble_eq_true rfl)) dX4_readUnit_45 ⟨Nat.le_of_ble_eq_true rfl, Nat.le_of_ble_eq_true rfl⟩) hS (fun q _ h => hFc q h) hFc (fun u t H1 locs ht hvm hw hB hz1 hk1 hS => ?_)
        obtain ⟨x_39, x_40, x_41, w_42⟩ := u
        obtain ⟨hP1, hK1, hD1⟩ := hB
        rw [ht] at hP1
        obtain ⟨hP, hD⟩ := cl_put (w1 := (wd_c_X4_readSum_4 h1 h1_0 h1_f1 x_39 x_40 h1_0 h1_0k h1_0c h0 h0_0 x_41 h0_2 h0_0 h0_0k w_42)) (nw := (wd_c_X4_readUnit_5 h1 h1_0 h1_f1 x_39 x_40 h1_0 h1_0k h1_0c h0 h0_0 x_41 h0_2 h0_0 h0_0k w_42)) hP hD [0, 1, 2, 3] [4, 5, 6, 7] 4 rfl hqc (by decide +kernel) rfl hk1 hFc hP1 hD1
        generalize H1 = H at hP hS ⊢
        as_aux_lemma =>
        rcases hw with ⟨h_43, h_44, h_45, h_46⟩
        have h_46 : (x_39, x_40, x_41, w_42) = _ := h_46
        replace hEX := hEX.trans (exc4_eq h_46)
        refine lv_aload_n hx hb dX4_readUnit_48 rfl (lv_at hl 1 rfl) ?_
        refine lv_iload hx hb dX4_readUnit_49 (lv_at hl 0 rfl) ?_
        refine lv_ineg hx hb dX4_readUnit_51 ?_
        refine lv_topi (fun x_47 ex_47 => ?_)
        replace hEX := hEX.trans (exl_eq ex_47)
        have g_48 : RG x_47 (-62) (-60) := RG_neg ex_47 h_24 (by decide +kernel)
        obtain ⟨hPc, hDc, hFc, hqc⟩ := cl_cut (wc := (wd_c_X4_emit h0 h0_0 x_41 h0_2 h0_0 h0_0k w_42)) hP hD hS hA [2, 3] (by decide +kernel) rfl
        have hKc := hK.sub (tys' := [(h0_0k, .int)]) [1] rfl
        have hrv := va_recv hKc hPc (ci := 4) (q0 := 0) rfl rfl
        refine va_callv (va_runV (As := [.int x_47]) (rest := []) ⟨hx, hb, hml, hown, hts⟩ (c_X4_emit l dC dI H.size h0 x_47 h0_0 x_41 h0_2 h0_0k w_42 h_45) (cwV 1 hts gf_c_X4_readUnit_5_c_X4_emit rfl rfl rfl mdV_X4_emit ⟨Nat.le_of_ble_eq_true rfl, Nat.le_of_ble_eq_true rfl⟩) ⟨fun a U g mk q => by obtain ⟨q0, q1, qP, qK, qD⟩ := q; exact ⟨q0, q1, qP, va_K.moved (u := U) (U := U.calling g mk a) (Vm.Alike.refl U.vm) qK, qD⟩, hrv, fun U hU hW => ⟨rfl, by rw [hU], by rw [hU]; exact hPc, va_K.moved hW.alike hKc, hDc.weaken (fun _ _ _ _ => trivial)⟩⟩ rfl rfl hl.1 rfl (lv_room (Nat.le_of_ble_eq_true rfl)) dX4_readUnit_52 ⟨Nat.le_of_ble_eq_true rfl, Nat.le_of_ble_eq_true rfl⟩) hS (fun q _ h => hFc q h) hFc (fun u t H1 locs ht hvm hw hB hz1 hk1 hS => ?_)
        obtain ⟨x_50, w_51⟩ := u
        obtain ⟨hP1, hK1, hD1⟩ := hB
        rw [ht] at hP1
        obtain ⟨hP, hD⟩ := cl_put (w1 := (wd_c_X4_emit h0 h0_0 x_50 h0_2 h0_0 h0_0k w_51)) (nw := (wd_c_X4_readUnit_5 h1 h1_0 h1_f1 x_39 x_40 h1_0 h1_0k h1_0c h0 h0_0 x_50 h0_2 h0_0 h0_0k w_51)) hP hD [2, 3] [0, 1, 4, 5] 4 rfl hqc (by decide +kernel) rfl hk1 hFc hP1 hD1
        generalize H1 = H at hP hS ⊢
        as_aux_lemma =>
        rcases hw with ⟨h_52, h_53⟩
        have h_53 : (x_50, w_51) = _ := h_53
        replace hEX := hEX.trans (exc2_eq h_53)
        refine lv_goto (tgt := 62) hx hb dX4_readUnit_55 rfl ?_
        exact hU _ _ _ (J62 x_39 x_40 x_50 w_51 g_h0_f1 (RG_w h_9 (by decide +kernel)) g_h1_f2 g_h1_f3 (RG_w h_52 (by decide +kernel)) h_43 h_44 hEX _ _ _ hP hD hS (lv_sub hl [] rfl))
  have J14 : ∀ (j14_h1_f2 : Int32) (g_h0_f1 : RG h0_f1 0 240) (g_h1_f1 : RG h1_f1 0 240) (g_h1_f2 : RG h1_f2 0 240) (g_h1_f3 : RG h1_f3 (-1) 240) (g_j14_h1_f2 : RG j14_h1_f2 0 240) (hEX : RES = fx_c_X4_readUnit_5_p14 h1_f1 h1_f3 h1_0c h0_f1 h0_0c j14_h1_f2) (H : Heap) (locs : List Loc) (ls : Array Slot) (hP : va_P (dC, dI) vwCl (wd_c_X4_readUnit_5 h1 h1_0 h1_f1 j14_h1_f2 h1_f3 h1_0 h1_0k h1_0c h0 h0_0 h0_f1 h0_2 h0_0 h0_0k h0_0c) H) (hD : va_D A (wd_c_X4_readUnit_5 h1 h1_0 h1_f1 j14_h1_f2 h1_f3 h1_0 h1_0k h1_0c h0 h0_0 h0_f1 h0_2 h0_0 h0_0k h0_0c)) (hS : va_S A s.heap H locs) (hl : lv_has ls 5 [(0, .ref h0), (1, .ref h1), (2, .int 4), (3, .int 0)]), G H locs (F0 m 14 ls []) := by
    as_aux_lemma =>
    intro j14_h1_f2 g_h0_f1 g_h1_f1 g_h1_f2 g_h1_f3 g_j14_h1_f2 hEX H locs ls hP hD hS hl
    refine hG _ _ _ ?_
    refine lv_iload_n hx hb dX4_readUnit_14 rfl (lv_at hl 3 rfl) ?_
    refine lv_if_ne (tgt := 24) hx hb dX4_readUnit_15 rfl (fun c_54 => absurd c_54 (by decide +kernel)) (fun c_54 => ?_)
    refine lv_aload_n hx hb dX4_readUnit_18 rfl (lv_at hl 0 rfl) ?_
    refine lv_aload_n hx hb dX4_readUnit_19 rfl (lv_at hl 1 rfl) ?_
    refine lv_iload_n hx hb dX4_readUnit_20 rfl (lv_at hl 2 rfl) ?_
    obtain ⟨hPc, hDc, hFc, hqc⟩ := cl_cut (wc := (wd_c_X4_readSum_4 h1 h1_0 h1_f1 j14_h1_f2 h1_f3 h1_0 h1_0k h1_0c h0 h0_0 h0_f1 h0_2 h0_0 h0_0k h0_0c)) hP hD hS hA [0, 1, 2, 3] (by decide +kernel) rfl
    have hKc := hK.sub (tys' := [(h1_0k, .int), (h0_0k, .int)]) [0, 1] rfl
    have hrv := va_recv hKc hPc (ci := 4) (q0 := 2) rfl rfl
    refine va_callv (va_runV (As := [.ref h1, .int 4]) (rest := []) ⟨hx, hb, hml, hown, hts⟩ (c_X4_readSum_4 l dC dI H.size h0 h1 h1_0 h1_f1 j14_h1_f2 h1_f3 h1_0k h1_0c h0_0 h0_f1 h0_2 h0_0k h0_0c ts4 tv4 g_h1_f1 g_j14_h1_f2 g_h1_f3 a_h1_0c g_h0_f1) (cwV 2 hts gf_c_X4_readUnit_5_c_X4_readSum_4 rfl rfl rfl mdV_X4_readSum ⟨Nat.le_of_ble_eq_true rfl, Nat.le_of_ble_eq_true rfl⟩) ⟨fun a U g mk q => by obtain ⟨q0, q1, qP, qK, qD, qE0, qE1, qE2, qE3, qE4, qE5⟩ := q; exact ⟨q0, q1, qP, va_K.moved (u := U) (U := U.calling g mk a) (Vm.Alike.refl U.vm) qK, qD, vk_R.same rfl qE0, va_Z.moved (u := U) (U := U.calling g mk a) (Vm.Alike.refl U.vm) qE1, va_OF.moved (u := U) (U := U.calling g mk a) (Vm.Alike.refl U.vm) qE2, va_O.moved (u := U) (U := U.calling g mk a) (Vm.Alike.refl U.vm) qE3, va_OF.moved (u := U) (U := U.calling g mk a) (Vm.Alike.refl U.vm) qE4, va_T.moved (u := U) (U := U.calling g mk a) (Vm.Alike.refl U.vm) qE5⟩, hrv, fun U hU hW => ⟨rfl, by rw [hU], by rw [hU]; exact hPc, va_K.moved hW.alike hKc, hDc.weaken (fun _ _ _ _ => trivial), vk_R.warm hW hE_32, va_Z.moved hW.alike (by rw [hU]; exact (hE_10.kept hS.2.1).narrow hFc), va_OF.moved hW.alike (by rw [hU]; exact (hE_34.kept hS.2.1).narrow hFc), va_O.moved hW.alike (by rw [hU]; exact (hE_33.kept hS.2.1).narrow hFc), va_OF.moved hW.alike (by rw [hU]; exact (hE_35.kept hS.2.1).narrow hFc), va_T.moved hW.alike (by rw [hU]; exact (hE_36.kept hS.2.1).narrow hFc)⟩⟩ rfl rfl hl.1 rfl (lv_room (Nat.le_of_ble_eq_true rfl)) dX4_readUnit_21 ⟨Nat.le_of_ble_eq_true rfl, Nat.le_of_ble_eq_true rfl⟩) hS (fun q _ h => hFc q h) hFc (fun u t H1 locs ht hvm hw hB hz1 hk1 hS => ?_)
    obtain ⟨x_56, x_57, x_58, w_59⟩ := u
    obtain ⟨hP1, hK1, hD1⟩ := hB
    rw [ht] at hP1
    obtain ⟨hP, hD⟩ := cl_put (w1 := (wd_c_X4_readSum_4 h1 h1_0 h1_f1 x_56 x_57 h1_0 h1_0k h1_0c h0 h0_0 x_58 h0_2 h0_0 h0_0k w_59)) (nw := (wd_c_X4_readUnit_5 h1 h1_0 h1_f1 x_56 x_57 h1_0 h1_0k h1_0c h0 h0_0 x_58 h0_2 h0_0 h0_0k w_59)) hP hD [0, 1, 2, 3] [4, 5, 6, 7] 4 rfl hqc (by decide +kernel) rfl hk1 hFc hP1 hD1
    generalize H1 = H at hP hS ⊢
    as_aux_lemma =>
    rcases hw with ⟨h_60, h_61, h_62, h_63⟩
    have h_63 : (x_56, x_57, x_58, w_59) = _ := h_63
    replace hEX := hEX.trans (exc4_eq h_63)
    exact hU _ _ _ (J24 x_56 x_57 x_58 w_59 g_h0_f1 g_h1_f1 g_h1_f2 g_h1_f3 h_62 h_60 h_61 hEX _ _ _ hP hD hS (lv_sub hl [0, 1, 2] rfl))
  refine hG _ _ _ ?_
  refine lv_iload_n hx hb dX4_readUnit_0 rfl (lv_at hl 3 rfl) ?_
  refine lv_if_ne (tgt := 14) hx hb dX4_readUnit_1 rfl (fun c_64 => absurd c_64 (by decide +kernel)) (fun c_64 => ?_)
  refine lv_aload_n hx hb dX4_readUnit_4 rfl (lv_at hl 1 rfl) ?_
  obtain ⟨hPc, hDc, hFc, hqc⟩ := cl_cut (wc := (wd_c_X9_peek h1 h1_0 h1_f1 h1_f2 h1_f3 h1_0 h1_0k h1_0c)) hP hD hS hA [0, 1] (by decide +kernel) rfl
  have hKc := hK.sub (tys' := [(h1_0k, .int)]) [0] rfl
  have hrv := va_recv hKc hPc (ci := 9) (q0 := 0) rfl rfl
  refine va_calli (va_runV (As := []) (rest := []) ⟨hx, hb, hml, hown, hts⟩ (c_X9_peek l dC dI H.size h1 h1_0 h1_f1 h1_f2 h1_f3 h1_0k h1_0c g_h1_f1 g_h1_f2 g_h1_f3 a_h1_0c) (cwV 0 hts gf_c_X4_readUnit_5_c_X9_peek rfl rfl rfl mdV_X9_peek ⟨Nat.le_of_ble_eq_true rfl, Nat.le_of_ble_eq_true rfl⟩) ⟨fun a U g mk q => by obtain ⟨q0, q1, qP, qK, qD⟩ := q; exact ⟨q0, q1, qP, va_K.moved (u := U) (U := U.calling g mk a) (Vm.Alike.refl U.vm) qK, qD⟩, hrv, fun U hU hW => ⟨rfl, by rw [hU], by rw [hU]; exact hPc, va_K.moved hW.alike hKc, hDc.weaken (fun _ _ _ _ => trivial)⟩⟩ rfl rfl hl.1 rfl (lv_room (Nat.le_of_ble_eq_true rfl)) dX4_readUnit_5 ⟨Nat.le_of_ble_eq_true rfl, Nat.le_of_ble_eq_true rfl⟩) hS (fun q _ h => hFc q h) hFc (fun r_65 x_66 t H1 locs ht hvm hw hB hz1 hk1 hS => ?_)
  obtain ⟨hP1, hK1, hD1⟩ := hB
  rw [ht] at hP1
  obtain ⟨hP, hD⟩ := cl_put (w1 := (wd_c_X9_peek h1 h1_0 h1_f1 x_66 h1_f3 h1_0 h1_0k h1_0c)) (nw := (wd_c_X4_readUnit_5 h1 h1_0 h1_f1 x_66 h1_f3 h1_0 h1_0k h1_0c h0 h0_0 h0_f1 h0_2 h0_0 h0_0k h0_0c)) hP hD [0, 1] [4, 5, 2, 3] 4 rfl hqc (by decide +kernel) rfl hk1 hFc hP1 hD1
  generalize H1 = H at hP hS ⊢
  as_aux_lemma =>
  rcases hw with ⟨h_67, h_68, h_69, h_70⟩ | ⟨h_71, h_72, h_73, h_74, h_75⟩
  · have h_70 : (r_65, x_66) = _ := h_70
    replace hEX := hEX.trans (exc2_eq h_70)
    replace hEX := hEX.trans (if_pos (show r_65 = (-1) from h_67))
    rw [h_67]
    obtain ⟨hPc, hDc, hFc, hqc⟩ := cl_cut (wc := []) hP hD hS hA [] (by decide +kernel) rfl
    have hKc := hK.sub (tys' := []) [] rfl
    refine va_calli (va_runS (As := [.int (-1)]) (rest := []) ⟨hx, hb, hml, hown, hts⟩ (c_X4_startsUnit l dC dI H.size (-1) (RG_k (-1) (-1) rfl)) (va_cwS 1 hts gf_c_X4_readUnit_5_c_X4_startsUnit rfl rfl rfl md_X4_startsUnit ⟨Nat.le_of_ble_eq_true rfl, Nat.le_of_ble_eq_true rfl⟩) ⟨fun a U g mk q => by obtain ⟨q0, q1, qP, qK, qD⟩ := q; exact ⟨q0, q1, qP, va_K.moved (u := U) (U := U.calling g mk a) (Vm.Alike.refl U.vm) qK, qD⟩, fun U hU hW => ⟨rfl, by rw [hU], by rw [hU]; exact hPc, va_K.moved hW.alike hKc, hDc.weaken (fun _ _ _ _ => trivial)⟩⟩ rfl rfl hl.1 rfl (lv_room (Nat.le_of_ble_eq_true rfl)) dX4_readUnit_8 ⟨Nat.le_of_ble_eq_true rfl, Nat.le_of_ble_eq_true rfl⟩) hS (fun q _ h => hFc q h) hFc (fun r_76 u t H1 locs ht hvm hw hB hz1 hk1 hS => ?_)
    obtain ⟨hP1, hK1, hD1⟩ := hB
    rw [ht] at hP1
    have hP := bv_still hP hk1
    generalize H1 = H at hP hS ⊢
    as_aux_lemma =>
    rcases hw with ⟨h_77, h_78⟩
    have h_78 : r_76 = _ := h_78
    replace hEX := hEX.trans (exc1_eq h_78)
    rw [h_77]
    refine lv_if_ne (tgt := 65) hx hb dX4_readUnit_11 rfl (fun c_79 => absurd c_79 (by decide +kernel)) (fun c_79 => ?_)
    exact hU _ _ _ (J14 x_66 g_h0_f1 g_h1_f1 g_h1_f2 g_h1_f3 h_68 hEX _ _ _ hP hD hS (lv_sub hl [0, 1, 2, 3] rfl))
  · have h_75 : (r_65, x_66) = _ := h_75
    replace hEX := hEX.trans (exc2_eq h_75)
    replace hEX := hEX.trans (if_neg (RG_neq (x := r_65) (c := (-1)) (show RG r_65 0 255 from h_71) (by decide +kernel)))
    obtain ⟨hPc, hDc, hFc, hqc⟩ := cl_cut (wc := []) hP hD hS hA [] (by decide +kernel) rfl
    have hKc := hK.sub (tys' := []) [] rfl
    refine va_calli (va_runS (As := [.int r_65]) (rest := []) ⟨hx, hb, hml, hown, hts⟩ (c_X4_startsUnit_1 l dC dI H.size r_65 h_71) (va_cwS 1 hts gf_c_X4_readUnit_5_c_X4_startsUnit_1 rfl rfl rfl md_X4_startsUnit ⟨Nat.le_of_ble_eq_true rfl, Nat.le_of_ble_eq_true rfl⟩) ⟨fun a U g mk q => by obtain ⟨q0, q1, qP, qK, qD⟩ := q; exact ⟨q0, q1, qP, va_K.moved (u := U) (U := U.calling g mk a) (Vm.Alike.refl U.vm) qK, qD⟩, fun U hU hW => ⟨rfl, by rw [hU], by rw [hU]; exact hPc, va_K.moved hW.alike hKc, hDc.weaken (fun _ _ _ _ => trivial)⟩⟩ rfl rfl hl.1 rfl (lv_room (Nat.le_of_ble_eq_true rfl)) dX4_readUnit_8 ⟨Nat.le_of_ble_eq_true rfl, Nat.le_of_ble_eq_true rfl⟩) hS (fun q _ h => hFc q h) hFc (fun r_80 u t H1 locs ht hvm hw hB hz1 hk1 hS => ?_)
    obtain ⟨hP1, hK1, hD1⟩ := hB
    rw [ht] at hP1
    have hP := bv_still hP hk1
    generalize H1 = H at hP hS ⊢
    as_aux_lemma =>
    rcases hw with ⟨h_81, h_82⟩ | ⟨h_83, h_84, h_85⟩
    · have h_82 : r_80 = _ := h_82
      replace hEX := hEX.trans (exc1_eq h_82)
      replace hEX := hEX.trans (if_pos (show r_80 = 0 from h_81))
      rw [h_81]
      refine lv_if_ne (tgt := 65) hx hb dX4_readUnit_11 rfl (fun c_86 => absurd c_86 (by decide +kernel)) (fun c_86 => ?_)
      exact hU _ _ _ (J14 x_66 g_h0_f1 (RG_w h_73 (by decide +kernel)) g_h1_f2 g_h1_f3 (RG_w h_72 (by decide +kernel)) hEX _ _ _ hP hD hS (lv_sub hl [0, 1, 2, 3] rfl))
    · have h_85 : r_80 = _ := h_85
      replace hEX := hEX.trans (exc1_eq h_85)
      replace hEX := hEX.trans (if_neg (fun q9 : r_80 = 0 => absurd ((show r_80 = 1 from h_83).symm.trans q9) (by decide +kernel)))
      rw [h_83]
      refine lv_if_ne (tgt := 65) hx hb dX4_readUnit_11 rfl (fun c_87 => ?_) (fun c_87 => absurd c_87 (by decide +kernel))
      refine lv_iload_n hx hb dX4_readUnit_65 rfl (lv_at hl 2 rfl) ?_
      refine lv_bipush (v := 6) hx hb dX4_readUnit_66 kc_bipush_6 ?_
      as_aux_lemma =>
      refine lv_icmp_lt (tgt := 78) hx hb dX4_readUnit_68 rfl (fun c_88 => ?_) (fun c_88 => absurd c_88 (by decide +kernel))
      refine lv_aload_n hx hb dX4_readUnit_78 rfl (lv_at hl 1 rfl) ?_
      refine lv_bipush (v := 33) hx hb dX4_readUnit_79 kc_bipush_33 ?_
      obtain ⟨hPc, hDc, hFc, hqc⟩ := cl_cut (wc := (wd_c_X9_take h1 h1_0 h1_f1 x_66 h1_f3 h1_0 h1_0k h1_0c)) hP hD hS hA [0, 1] (by decide +kernel) rfl
      have hKc := hK.sub (tys' := [(h1_0k, .int)]) [0] rfl
      have hrv := va_recv hKc hPc (ci := 9) (q0 := 0) rfl rfl
      refine va_calli (va_runV (As := [.int 33]) (rest := []) ⟨hx, hb, hml, hown, hts⟩ (c_X9_take l dC dI H.size h1 33 h1_0 h1_f1 x_66 h1_f3 h1_0k h1_0c (RG_w (RG_k 33 33 rfl) (by decide +kernel)) (RG_w h_73 (by decide +kernel)) (RG_w h_72 (by decide +kernel)) g_h1_f3 a_h1_0c) (cwV 1 hts gf_c_X4_readUnit_5_c_X9_take rfl rfl rfl mdV_X9_take ⟨Nat.le_of_ble_eq_true rfl, Nat.le_of_ble_eq_true rfl⟩) ⟨fun a U g mk q => by obtain ⟨q0, q1, qP, qK, qD⟩ := q; exact ⟨q0, q1, qP, va_K.moved (u := U) (U := U.calling g mk a) (Vm.Alike.refl U.vm) qK, qD⟩, hrv, fun U hU hW => ⟨rfl, by rw [hU], by rw [hU]; exact hPc, va_K.moved hW.alike hKc, hDc.weaken (fun _ _ _ _ => trivial)⟩⟩ rfl rfl hl.1 rfl (lv_room (Nat.le_of_ble_eq_true rfl)) dX4_readUnit_81 ⟨Nat.le_of_ble_eq_true rfl, Nat.le_of_ble_eq_true rfl⟩) hS (fun q _ h => hFc q h) hFc (fun r_89 x_90 t H1 locs ht hvm hw hB hz1 hk1 hS => ?_)
      obtain ⟨hP1, hK1, hD1⟩ := hB
      rw [ht] at hP1
      obtain ⟨hP, hD⟩ := cl_put (w1 := (wd_c_X9_take h1 h1_0 h1_f1 x_90 h1_f3 h1_0 h1_0k h1_0c)) (nw := (wd_c_X4_readUnit_5 h1 h1_0 h1_f1 x_90 h1_f3 h1_0 h1_0k h1_0c h0 h0_0 h0_f1 h0_2 h0_0 h0_0k h0_0c)) hP hD [0, 1] [4, 5, 2, 3] 4 rfl hqc (by decide +kernel) rfl hk1 hFc hP1 hD1
      generalize H1 = H at hP hS ⊢
      as_aux_lemma =>
      rcases hw with ⟨h_91, h_92, h_93, h_94⟩ | ⟨h_95, h_96, h_97, h_98, h_99, h_100⟩
      · have h_94 : (r_89, x_90) = _ := h_94
        replace hEX := hEX.trans (exc2_eq h_94)
        replace hEX := hEX.trans (if_pos (show r_89 = 0 from h_91))
        rw [h_91]
        refine lv_if_eq (tgt := 105) hx hb dX4_readUnit_84 rfl (fun c_101 => ?_) (fun c_101 => absurd c_101 (by decide +kernel))
        refine lv_aload_n hx hb dX4_readUnit_105 rfl (lv_at hl 1 rfl) ?_
        refine lv_bipush (v := 40) hx hb dX4_readUnit_106 kc_bipush_40 ?_
        obtain ⟨hPc, hDc, hFc, hqc⟩ := cl_cut (wc := (wd_c_X9_expect_1 h1 h1_0 h1_f1 x_90 h1_f3 h1_0 h1_0k h1_0c)) hP hD hS hA [0, 1] (by decide +kernel) rfl
        have hKc := hK.sub (tys' := [(h1_0k, .int)]) [0] rfl
        have hrv := va_recv hKc hPc (ci := 9) (q0 := 0) rfl rfl
        refine va_callv (va_runV (As := [.int 40]) (rest := []) ⟨hx, hb, hml, hown, hts⟩ (c_X9_expect_1 l dC dI H.size h1 40 h1_0 h1_f1 x_90 h1_f3 h1_0k h1_0c (RG_w (RG_k 40 40 rfl) (by decide +kernel)) (RG_w h_73 (by decide +kernel)) h_92 g_h1_f3 a_h1_0c) (cwV 1 hts gf_c_X4_readUnit_5_c_X9_expect_1 rfl rfl rfl mdV_X9_expect ⟨Nat.le_of_ble_eq_true rfl, Nat.le_of_ble_eq_true rfl⟩) ⟨fun a U g mk q => by obtain ⟨q0, q1, qP, qK, qD⟩ := q; exact ⟨q0, q1, qP, va_K.moved (u := U) (U := U.calling g mk a) (Vm.Alike.refl U.vm) qK, qD⟩, hrv, fun U hU hW => ⟨rfl, by rw [hU], by rw [hU]; exact hPc, va_K.moved hW.alike hKc, hDc.weaken (fun _ _ _ _ => trivial)⟩⟩ rfl rfl hl.1 rfl (lv_room (Nat.le_of_ble_eq_true rfl)) dX4_readUnit_108 ⟨Nat.le_of_ble_eq_true rfl, Nat.le_of_ble_eq_true rfl⟩) hS (fun q _ h => hFc q h) hFc (fun u t H1 locs ht hvm hw hB hz1 hk1 hS => ?_)
        obtain ⟨x_103, x_104⟩ := u
        obtain ⟨hP1, hK1, hD1⟩ := hB
        rw [ht] at hP1
        obtain ⟨hP, hD⟩ := cl_put (w1 := (wd_c_X9_expect_1 h1 h1_0 h1_f1 x_103 x_104 h1_0 h1_0k h1_0c)) (nw := (wd_c_X4_readUnit_5 h1 h1_0 h1_f1 x_103 x_104 h1_0 h1_0k h1_0c h0 h0_0 h0_f1 h0_2 h0_0 h0_0k h0_0c)) hP hD [0, 1] [4, 5, 2, 3] 4 rfl hqc (by decide +kernel) rfl hk1 hFc hP1 hD1
        generalize H1 = H at hP hS ⊢
        as_aux_lemma =>
        rcases hw with ⟨h_105, h_106, h_107, h_108⟩
        have h_108 : (x_103, x_104) = _ := h_108
        replace hEX := hEX.trans (exc2_eq h_108)
        refine lv_aload_n hx hb dX4_readUnit_111 rfl (lv_at hl 0 rfl) ?_
        refine lv_aload_n hx hb dX4_readUnit_112 rfl (lv_at hl 1 rfl) ?_
        refine lv_iload_n hx hb dX4_readUnit_113 rfl (lv_at hl 2 rfl) ?_
        refine lv_iconst (v := 1) hx hb dX4_readUnit_114 kc_iconst_1 ?_
        refine lv_iadd hx hb dX4_readUnit_115 ?_
        refine lv_topi (fun x_109 ex_109 => ?_)
        obtain rfl : x_109 = 5 := ex_109.trans (by decide +kernel)
        refine lv_iconst (v := 0) hx hb dX4_readUnit_116 kc_iconst_0 ?_
        obtain ⟨hPc, hDc, hFc, hqc⟩ := cl_cut (wc := (wd_c_X4_readCondition_5 h1 h1_0 h1_f1 x_103 x_104 h1_0 h1_0k h1_0c h0 h0_0 h0_f1 h0_2 h0_0 h0_0k h0_0c)) hP hD hS hA [0, 1, 2, 3] (by decide +kernel) rfl
        have hKc := hK.sub (tys' := [(h1_0k, .int), (h0_0k, .int)]) [0, 1] rfl
        have hrv := va_recv hKc hPc (ci := 4) (q0 := 2) rfl rfl
        refine va_callv (va_runV (As := [.ref h1, .int 5, .int 0]) (rest := []) ⟨hx, hb, hml, hown, hts⟩ (c_X4_readCondition_5 l dC dI H.size h0 h1 h1_0 h1_f1 x_103 x_104 h1_0k h1_0c h0_0 h0_f1 h0_2 h0_0k h0_0c ts4 tv4 (RG_w h_73 (by decide +kernel)) h_105 h_106 a_h1_0c g_h0_f1) (cwV 3 hts gf_c_X4_readUnit_5_c_X4_readCondition_5 rfl rfl rfl mdV_X4_readCondition ⟨Nat.le_of_ble_eq_true rfl, Nat.le_of_ble_eq_true rfl⟩) ⟨fun a U g mk q => by obtain ⟨q0, q1, qP, qK, qD, qE0, qE1, qE2, qE3, qE4, qE5⟩ := q; exact ⟨q0, q1, qP, va_K.moved (u := U) (U := U.calling g mk a) (Vm.Alike.refl U.vm) qK, qD, vk_R.same rfl qE0, va_Z.moved (u := U) (U := U.calling g mk a) (Vm.Alike.refl U.vm) qE1, va_OF.moved (u := U) (U := U.calling g mk a) (Vm.Alike.refl U.vm) qE2, va_O.moved (u := U) (U := U.calling g mk a) (Vm.Alike.refl U.vm) qE3, va_OF.moved (u := U) (U := U.calling g mk a) (Vm.Alike.refl U.vm) qE4, va_T.moved (u := U) (U := U.calling g mk a) (Vm.Alike.refl U.vm) qE5⟩, hrv, fun U hU hW => ⟨rfl, by rw [hU], by rw [hU]; exact hPc, va_K.moved hW.alike hKc, hDc.weaken (fun _ _ _ _ => trivial), vk_R.warm hW hE_32, va_Z.moved hW.alike (by rw [hU]; exact (hE_10.kept hS.2.1).narrow hFc), va_OF.moved hW.alike (by rw [hU]; exact (hE_34.kept hS.2.1).narrow hFc), va_O.moved hW.alike (by rw [hU]; exact (hE_33.kept hS.2.1).narrow hFc), va_OF.moved hW.alike (by rw [hU]; exact (hE_35.kept hS.2.1).narrow hFc), va_T.moved hW.alike (by rw [hU]; exact (hE_36.kept hS.2.1).narrow hFc)⟩⟩ rfl rfl hl.1 rfl (lv_room (Nat.le_of_ble_eq_true rfl)) dX4_readUnit_117 ⟨Nat.le_of_ble_eq_true rfl, Nat.le_of_ble_eq_true rfl⟩) hS (fun q _ h => hFc q h) hFc (fun u t H1 locs ht hvm hw hB hz1 hk1 hS => ?_)
        as_aux_lemma =>
        obtain ⟨x_111, x_112, x_113, w_114⟩ := u
        obtain ⟨hP1, hK1, hD1⟩ := hB
        rw [ht] at hP1
        obtain ⟨hP, hD⟩ := cl_put (w1 := (wd_c_X4_readCondition_5 h1 h1_0 h1_f1 x_111 x_112 h1_0 h1_0k h1_0c h0 h0_0 x_113 h0_2 h0_0 h0_0k w_114)) (nw := (wd_c_X4_readUnit_5 h1 h1_0 h1_f1 x_111 x_112 h1_0 h1_0k h1_0c h0 h0_0 x_113 h0_2 h0_0 h0_0k w_114)) hP hD [0, 1, 2, 3] [4, 5, 6, 7] 4 rfl hqc (by decide +kernel) rfl hk1 hFc hP1 hD1
        generalize H1 = H at hP hS ⊢
        as_aux_lemma =>
        rcases hw with ⟨h_115, h_116, h_117, h_118⟩
        have h_118 : (x_111, x_112, x_113, w_114) = _ := h_118
        replace hEX := hEX.trans (exc4_eq h_118)
        refine lv_aload_n hx hb dX4_readUnit_120 rfl (lv_at hl 1 rfl) ?_
        refine lv_bipush (v := 41) hx hb dX4_readUnit_121 kc_bipush_41 ?_
        obtain ⟨hPc, hDc, hFc, hqc⟩ := cl_cut (wc := (wd_c_X9_expect_1 h1 h1_0 h1_f1 x_111 x_112 h1_0 h1_0k h1_0c)) hP hD hS hA [0, 1] (by decide +kernel) rfl
        have hKc := hK.sub (tys' := [(h1_0k, .int)]) [0] rfl
        have hrv := va_recv hKc hPc (ci := 9) (q0 := 0) rfl rfl
        refine va_callv (va_runV (As := [.int 41]) (rest := []) ⟨hx, hb, hml, hown, hts⟩ (c_X9_expect_1 l dC dI H.size h1 41 h1_0 h1_f1 x_111 x_112 h1_0k h1_0c (RG_w (RG_k 41 41 rfl) (by decide +kernel)) (RG_w h_73 (by decide +kernel)) h_115 h_116 a_h1_0c) (cwV 1 hts gf_c_X4_readUnit_5_c_X9_expect_1 rfl rfl rfl mdV_X9_expect ⟨Nat.le_of_ble_eq_true rfl, Nat.le_of_ble_eq_true rfl⟩) ⟨fun a U g mk q => by obtain ⟨q0, q1, qP, qK, qD⟩ := q; exact ⟨q0, q1, qP, va_K.moved (u := U) (U := U.calling g mk a) (Vm.Alike.refl U.vm) qK, qD⟩, hrv, fun U hU hW => ⟨rfl, by rw [hU], by rw [hU]; exact hPc, va_K.moved hW.alike hKc, hDc.weaken (fun _ _ _ _ => trivial)⟩⟩ rfl rfl hl.1 rfl (lv_room (Nat.le_of_ble_eq_true rfl)) dX4_readUnit_123 ⟨Nat.le_of_ble_eq_true rfl, Nat.le_of_ble_eq_true rfl⟩) hS (fun q _ h => hFc q h) hFc (fun u t H1 locs ht hvm hw hB hz1 hk1 hS => ?_)
        obtain ⟨x_120, x_121⟩ := u
        obtain ⟨hP1, hK1, hD1⟩ := hB
        rw [ht] at hP1
        obtain ⟨hP, hD⟩ := cl_put (w1 := (wd_c_X9_expect_1 h1 h1_0 h1_f1 x_120 x_121 h1_0 h1_0k h1_0c)) (nw := (wd_c_X4_readUnit_5 h1 h1_0 h1_f1 x_120 x_121 h1_0 h1_0k h1_0c h0 h0_0 x_113 h0_2 h0_0 h0_0k w_114)) hP hD [0, 1] [4, 5, 2, 3] 4 rfl hqc (by decide +kernel) rfl hk1 hFc hP1 hD1
        generalize H1 = H at hP hS ⊢
        as_aux_lemma =>
        rcases hw with ⟨h_122, h_123, h_124, h_125⟩
        have h_125 : (x_120, x_121) = _ := h_125
        replace hEX := hEX.trans (exc2_eq h_125)
        have hK9 := hK.sub (tys' := []) [] rfl
        exact W.vret hx hb hr (fun t ht hW => ⟨⟨(x_120, x_121, x_113, w_114), rfl, ⟨h_122, h_123, h_117, (hR.trans hEX).symm⟩, by rw [ht]; exact hP, va_K.moved hW.alike hK9, hD⟩, hS.F ht⟩) hS.2.2 dX4_readUnit_126
      · have h_100 : (r_89, x_90) = _ := h_100
        replace hEX := hEX.trans (exc2_eq h_100)
        replace hEX := hEX.trans (if_neg (fun q9 : r_89 = 0 => absurd ((show r_89 = 1 from h_95).symm.trans q9) (by decide +kernel)))
        rw [h_95]
        refine lv_if_eq (tgt := 105) hx hb dX4_readUnit_84 rfl (fun c_126 => absurd c_126 (by decide +kernel)) (fun c_126 => ?_)
        refine lv_aload_n hx hb dX4_readUnit_87 rfl (lv_at hl 0 rfl) ?_
        refine lv_aload_n hx hb dX4_readUnit_88 rfl (lv_at hl 1 rfl) ?_
        refine lv_iload_n hx hb dX4_readUnit_89 rfl (lv_at hl 2 rfl) ?_
        refine lv_iconst (v := 1) hx hb dX4_readUnit_90 kc_iconst_1 ?_
        as_aux_lemma =>
        refine lv_iadd hx hb dX4_readUnit_91 ?_
        refine lv_topi (fun x_127 ex_127 => ?_)
        obtain rfl : x_127 = 5 := ex_127.trans (by decide +kernel)
        refine lv_iconst (v := 0) hx hb dX4_readUnit_92 kc_iconst_0 ?_
        obtain ⟨hPc, hDc, hFc, hqc⟩ := cl_cut (wc := (wd_c_X4_readUnit_6 h1 h1_0 h1_f1 x_90 h1_f3 h1_0 h1_0k h1_0c h0 h0_0 h0_f1 h0_2 h0_0 h0_0k h0_0c)) hP hD hS hA [0, 1, 2, 3] (by decide +kernel) rfl
        have hKc := hK.sub (tys' := [(h1_0k, .int), (h0_0k, .int)]) [0, 1] rfl
        have hrv := va_recv hKc hPc (ci := 4) (q0 := 2) rfl rfl
        refine va_callv (va_runV (As := [.ref h1, .int 5, .int 0]) (rest := []) ⟨hx, hb, hml, hown, hts⟩ (c_X4_readUnit_6 l dC dI H.size h0 h1 h1_0 h1_f1 x_90 h1_f3 h1_0k h1_0c h0_0 h0_f1 h0_2 h0_0k h0_0c ts4 tv4 (RG_w h_73 (by decide +kernel)) (RG_w h_96 (by decide +kernel)) (RG_w h_98 (by decide +kernel)) a_h1_0c g_h0_f1) (cwV 3 hts gf_c_X4_readUnit_5_c_X4_readUnit_6 rfl rfl rfl mdV_X4_readUnit ⟨Nat.le_of_ble_eq_true rfl, Nat.le_of_ble_eq_true rfl⟩) ⟨fun a U g mk q => by obtain ⟨q0, q1, qP, qK, qD, qE0, qE1, qE2, qE3, qE4, qE5⟩ := q; exact ⟨q0, q1, qP, va_K.moved (u := U) (U := U.calling g mk a) (Vm.Alike.refl U.vm) qK, qD, vk_R.same rfl qE0, va_Z.moved (u := U) (U := U.calling g mk a) (Vm.Alike.refl U.vm) qE1, va_OF.moved (u := U) (U := U.calling g mk a) (Vm.Alike.refl U.vm) qE2, va_O.moved (u := U) (U := U.calling g mk a) (Vm.Alike.refl U.vm) qE3, va_OF.moved (u := U) (U := U.calling g mk a) (Vm.Alike.refl U.vm) qE4, va_T.moved (u := U) (U := U.calling g mk a) (Vm.Alike.refl U.vm) qE5⟩, hrv, fun U hU hW => ⟨rfl, by rw [hU], by rw [hU]; exact hPc, va_K.moved hW.alike hKc, hDc.weaken (fun _ _ _ _ => trivial), vk_R.warm hW hE_32, va_Z.moved hW.alike (by rw [hU]; exact (hE_10.kept hS.2.1).narrow hFc), va_OF.moved hW.alike (by rw [hU]; exact (hE_34.kept hS.2.1).narrow hFc), va_O.moved hW.alike (by rw [hU]; exact (hE_33.kept hS.2.1).narrow hFc), va_OF.moved hW.alike (by rw [hU]; exact (hE_35.kept hS.2.1).narrow hFc), va_T.moved hW.alike (by rw [hU]; exact (hE_36.kept hS.2.1).narrow hFc)⟩⟩ rfl rfl hl.1 rfl (lv_room (Nat.le_of_ble_eq_true rfl)) dX4_readUnit_93 ⟨Nat.le_of_ble_eq_true rfl, Nat.le_of_ble_eq_true rfl⟩) hS (fun q _ h => hFc q h) hFc (fun u t H1 locs ht hvm hw hB hz1 hk1 hS => ?_)
        obtain ⟨x_129, x_130, x_131, w_132⟩ := u
        obtain ⟨hP1, hK1, hD1⟩ := hB
        rw [ht] at hP1
        obtain ⟨hP, hD⟩ := cl_put (w1 := (wd_c_X4_readUnit_6 h1 h1_0 h1_f1 x_129 x_130 h1_0 h1_0k h1_0c h0 h0_0 x_131 h0_2 h0_0 h0_0k w_132)) (nw := (wd_c_X4_readUnit_5 h1 h1_0 h1_f1 x_129 x_130 h1_0 h1_0k h1_0c h0 h0_0 x_131 h0_2 h0_0 h0_0k w_132)) hP hD [0, 1, 2, 3] [4, 5, 6, 7] 4 rfl hqc (by decide +kernel) rfl hk1 hFc hP1 hD1
        generalize H1 = H at hP hS ⊢
        as_aux_lemma =>
        rcases hw with ⟨h_133, h_134, h_135, h_136⟩
        have h_136 : (x_129, x_130, x_131, w_132) = _ := h_136
        replace hEX := hEX.trans (exc4_eq h_136)
        refine lv_aload_n hx hb dX4_readUnit_96 rfl (lv_at hl 0 rfl) ?_
        refine lv_bipush (v := (-33)) hx hb dX4_readUnit_97 kc_bipush_m33 ?_
        obtain ⟨hPc, hDc, hFc, hqc⟩ := cl_cut (wc := (wd_c_X4_emit h0 h0_0 x_131 h0_2 h0_0 h0_0k w_132)) hP hD hS hA [2, 3] (by decide +kernel) rfl
        have hKc := hK.sub (tys' := [(h0_0k, .int)]) [1] rfl
        have hrv := va_recv hKc hPc (ci := 4) (q0 := 0) rfl rfl
        refine va_callv (va_runV (As := [.int (-33)]) (rest := []) ⟨hx, hb, hml, hown, hts⟩ (c_X4_emit l dC dI H.size h0 (-33) h0_0 x_131 h0_2 h0_0k w_132 h_135) (cwV 1 hts gf_c_X4_readUnit_5_c_X4_emit rfl rfl rfl mdV_X4_emit ⟨Nat.le_of_ble_eq_true rfl, Nat.le_of_ble_eq_true rfl⟩) ⟨fun a U g mk q => by obtain ⟨q0, q1, qP, qK, qD⟩ := q; exact ⟨q0, q1, qP, va_K.moved (u := U) (U := U.calling g mk a) (Vm.Alike.refl U.vm) qK, qD⟩, hrv, fun U hU hW => ⟨rfl, by rw [hU], by rw [hU]; exact hPc, va_K.moved hW.alike hKc, hDc.weaken (fun _ _ _ _ => trivial)⟩⟩ rfl rfl hl.1 rfl (lv_room (Nat.le_of_ble_eq_true rfl)) dX4_readUnit_99 ⟨Nat.le_of_ble_eq_true rfl, Nat.le_of_ble_eq_true rfl⟩) hS (fun q _ h => hFc q h) hFc (fun u t H1 locs ht hvm hw hB hz1 hk1 hS => ?_)
        obtain ⟨x_138, w_139⟩ := u
        obtain ⟨hP1, hK1, hD1⟩ := hB
        rw [ht] at hP1
        obtain ⟨hP, hD⟩ := cl_put (w1 := (wd_c_X4_emit h0 h0_0 x_138 h0_2 h0_0 h0_0k w_139)) (nw := (wd_c_X4_readUnit_5 h1 h1_0 h1_f1 x_129 x_130 h1_0 h1_0k h1_0c h0 h0_0 x_138 h0_2 h0_0 h0_0k w_139)) hP hD [2, 3] [0, 1, 4, 5] 4 rfl hqc (by decide +kernel) rfl hk1 hFc hP1 hD1
        generalize H1 = H at hP hS ⊢
        as_aux_lemma =>
        rcases hw with ⟨h_140, h_141⟩
        have h_141 : (x_138, w_139) = _ := h_141
        replace hEX := hEX.trans (exc2_eq h_141)
        refine lv_goto (tgt := 126) hx hb dX4_readUnit_102 rfl ?_
        have hK9 := hK.sub (tys' := []) [] rfl
        exact W.vret hx hb hr (fun t ht hW => ⟨⟨(x_129, x_130, x_138, w_139), rfl, ⟨h_133, h_134, (RG_w h_140 (by decide +kernel)), (hR.trans hEX).symm⟩, by rw [ht]; exact hP, va_K.moved hW.alike hK9, hD⟩, hS.F ht⟩) hS.2.2 dX4_readUnit_126
noncomputable def wd_c_X4_readCondition_4 (a0 : Nat) (a1 : Nat) (a2 : Int32) (a3 : Int32) (a4 : Int32) (a5 : Nat) (a6 : ClassId) (a7 : Nat → Int32) (a8 : Nat) (a9 : Nat) (a10 : Int32) (a11 : Nat) (a12 : Nat) (a13 : ClassId) (a14 : Nat → Int32) : va_W := [(a0, .inr (9, [.ref a1, .int a2, .int a3, .int a4])), (a5, .inl (a6, 240, .inl a7)), (a8, .inr (4, [.ref a9, .int a10, .ref a11])), (a12, .inl (a13, 240, .inl a14))]
noncomputable def wf_c_X4_readCondition_4 : List Cond := List.cons (.code yX4_readCondition cX4_readCondition 7 none) (@HAppend.hAppend (List Cond) (List Cond) (List Cond) _ (@HAppend.hAppend (List Cond) (List Cond) (List Cond) _ [.methodLink RX4 72 yX9_isRight, .instanceMethod yX9_isRight, .selects RX9 yX9_isRight yX9_isRight, .initialized RX9, .code yX9_isRight cX9_isRight 1 (some .boolean), .fieldLink RX9 15 "BuoyVote$Tape" "wrong" "I", .methodLink RX4 76 yX4_readUnit, .instanceMethod yX4_readUnit, .selects RX4 yX4_readUnit yX4_readUnit, .initialized RX4, .code yX4_readUnit cX4_readUnit 5 none, .methodLink RX4 41 yX9_peek, .instanceMethod yX9_peek, .selects RX9 yX9_peek yX9_peek, .code yX9_peek cX9_peek 1 (some .int), .fieldLink RX9 22 "BuoyVote$Tape" "at" "I", .fieldLink RX9 19 "BuoyVote$Tape" "length" "I", .fieldLink RX9 11 "BuoyVote$Tape" "bytes" "[I", .methodLink RX4 45 yX4_startsUnit, .static yX4_startsUnit, .code yX4_startsUnit cX4_startsUnit 1 (some .boolean), .methodLink RX4 63 yX9_take, .instanceMethod yX9_take, .selects RX9 yX9_take yX9_take, .code yX9_take cX9_take 2 (some .boolean), .methodLink RX9 29 yX9_peek, .methodLink RX4 37 yX9_expect, .instanceMethod yX9_expect, .selects RX9 yX9_expect yX9_expect, .code yX9_expect cX9_expect 2 none, .methodLink RX9 25 yX9_refuse, .instanceMethod yX9_refuse, .selects RX9 yX9_refuse yX9_refuse, .code yX9_refuse cX9_refuse 2 none, .methodLink RX4 56 yX4_readCondition, .instanceMethod yX4_readCondition, .selects RX4 yX4_readCondition yX4_readCondition, .methodLink RX4 82 yX9_refuseHere, .instanceMethod yX9_refuseHere, .selects RX9 yX9_refuseHere yX9_refuseHere, .code yX9_refuseHere cX9_refuseHere 1 none, .methodLink RX4 49 yX4_readSum, .instanceMethod yX4_readSum, .selects RX4 yX4_readSum yX4_readSum, .code yX4_readSum cX4_readSum 6 none, .methodLink RX4 85 yX4_readAtom, .instanceMethod yX4_readAtom, .selects RX4 yX4_readAtom yX4_readAtom, .code yX4_readAtom cX4_readAtom 6 none, .methodLink RX4 93 yJ0_indexOf_0f7a4, .instanceMethod yJ0_indexOf_0f7a4, .selects RJ0 yJ0_indexOf_0f7a4 yJ0_indexOf_0f7a4, .initialized RJ0, .code yJ0_indexOf_0f7a4 cJ0_indexOf_0f7a4 2 (some .int), .methodLink RJ0 633 yJ0_indexOf_7cf53, .instanceMethod yJ0_indexOf_7cf53, .selects RJ0 yJ0_indexOf_7cf53 yJ0_indexOf_7cf53, .code yJ0_indexOf_7cf53 cJ0_indexOf_7cf53 3 (some .int), .methodLink RJ0 492 yJ0_isLatin1_aae02, .instanceMethod yJ0_isLatin1_aae02, .selects RJ0 yJ0_isLatin1_aae02 yJ0_isLatin1_aae02, .code yJ0_isLatin1_aae02 cJ0_isLatin1_aae02 1 (some .boolean), .fieldLink RJ0 38 "java/lang/String" "COMPACT_STRINGS" "Z", .fieldLink RJ0 15 "java/lang/String" "coder" "B", .fieldLink RJ0 9 "java/lang/String" "value" "[B", .methodLink RJ0 505 yJ0_length_8abf5, .instanceMethod yJ0_length_8abf5, .selects RJ0 yJ0_length_8abf5 yJ0_length_8abf5, .code yJ0_length_8abf5 cJ0_length_8abf5 1 (some .int), .methodLink RJ0 335 yJ0_coder_7d493, .instanceMethod yJ0_coder_7d493, .selects RJ0 yJ0_coder_7d493 yJ0_coder_7d493, .code yJ0_coder_7d493 cJ0_coder_7d493 1 (some .byte), .methodLink RJ0 637 yJ1_indexOf_4cfef, .static yJ1_indexOf_4cfef, .initialized RJ1, .code yJ1_indexOf_4cfef cJ1_indexOf_4cfef 4 (some .int), .methodLink RJ1 88 yJ1_canEncode_9a6ad, .static yJ1_canEncode_9a6ad, .code yJ1_canEncode_9a6ad cJ1_canEncode_9a6ad 1 (some .boolean), .methodLink RJ1 92 Lib.Math.max.name, .static Lib.Math.max.name, .initialized "java/lang/Math", .code Lib.Math.max.name Lib.Math.max.code 2 (some .int), .methodLink RJ1 38 Lib.Math.min.name, .static Lib.Math.min.name, .code Lib.Math.min.name Lib.Math.min.code 2 (some .int), .methodLink RJ1 95 yJ1_indexOfChar_4cfef, .static yJ1_indexOfChar_4cfef, .code yJ1_indexOfChar_4cfef cJ1_indexOfChar_4cfef 6 (some .int), .methodLink RX4 99 yX9_number, .instanceMethod yX9_number, .selects RX9 yX9_number yX9_number, .code yX9_number cX9_number 4 (some .int), .methodLink RX4 79 yX9_skip, .instanceMethod yX9_skip, .selects RX9 yX9_skip yX9_skip, .code yX9_skip cX9_skip 1 none, .methodLink RX4 60 yX4_emit, .instanceMethod yX4_emit, .selects RX4 yX4_emit yX4_emit, .code yX4_emit cX4_emit 2 none, .fieldLink RX4 20 "BuoyVote$Law" "length" "I", .fieldLink RX4 11 "BuoyVote$Law" "code" "[I", .methodLink RX4 88 yX9_takeEither, .instanceMethod yX9_takeEither, .selects RX9 yX9_takeEither yX9_takeEither, .code yX9_takeEither cX9_takeEither 4 (some .int), .methodLink RX4 53 yX4_isComparison, .static yX4_isComparison, .code yX4_isComparison cX4_isComparison 1 (some .boolean)] wsX90) wsX40)
theorem iw_c_X4_readCondition_4_X9 : ∀ w ∈ wsX90, w ∈ wf_c_X4_readCondition_4 := fun w h => List.mem_cons_of_mem _ (List.mem_append_left _ (List.mem_append_right _ h))
theorem iw_c_X4_readCondition_4_X4 : ∀ w ∈ wsX40, w ∈ wf_c_X4_readCondition_4 := fun w h => List.mem_cons_of_mem _ (List.mem_append_right _ h)
set_option maxRecDepth 20000 in
theorem gf_c_X4_readCondition_4_c_X9_take_1 : GoodIn wf_c_X4_readCondition_4 (wsV RX4 63 RX9 yX9_take wf_c_X9_take_1) := goodIn_app (gi_l [22, 23, 24, 4] rfl rfl) (gi_cons (j := 25) rfl rfl (goodIn_app (gi_l [6, 26, 13, 14, 4, 15, 16, 17, 18] rfl rfl) (goodIn_sub iw_c_X4_readCondition_4_X9 gw_X9)))
set_option maxRecDepth 20000 in
theorem gf_c_X4_readCondition_4_c_X9_take : GoodIn wf_c_X4_readCondition_4 (wsV RX4 63 RX9 yX9_take wf_c_X9_take) := goodIn_app (gi_l [22, 23, 24, 4] rfl rfl) (gi_cons (j := 25) rfl rfl (goodIn_app (gi_l [6, 26, 13, 14, 4, 15, 16, 17, 18] rfl rfl) (goodIn_sub iw_c_X4_readCondition_4_X9 gw_X9)))
set_option maxRecDepth 20000 in
theorem gf_c_X4_readCondition_4_c_X4_emit : GoodIn wf_c_X4_readCondition_4 (wsV RX4 60 RX4 yX4_emit wf_c_X4_emit) := goodIn_app (gi_l [99, 100, 101, 10] rfl rfl) (gi_cons (j := 102) rfl rfl (goodIn_app (gi_l [103, 104] rfl rfl) (goodIn_sub iw_c_X4_readCondition_4_X4 gw_X4)))
set_option maxRecDepth 20000 in
theorem gf_c_X4_readCondition_4_c_X4_readUnit_5 : GoodIn wf_c_X4_readCondition_4 (wsV RX4 76 RX4 yX4_readUnit wf_c_X4_readUnit_5) := goodIn_app (gi_l [7, 8, 9, 10] rfl rfl) (gi_cons (j := 11) rfl rfl (goodIn_app (goodIn_app (gi_l [12, 13, 14, 4, 15, 16, 17, 18, 19, 20, 10, 21, 22, 23, 24, 25, 6, 26, 27, 28, 29, 30, 31, 32, 33, 34, 35, 36, 37, 0, 1, 2, 3, 5, 7, 8, 9, 38, 39, 40, 41, 42, 43, 44, 45, 46, 47, 48, 49, 50, 51, 52, 53, 54, 55, 56, 57, 58, 59, 60, 61, 62, 63, 64, 65, 66, 67, 68, 69, 70, 71, 72, 73, 74, 75, 76, 77, 78, 79, 80, 81, 82, 83, 84, 85, 86, 87, 88, 89, 90, 91, 92, 93, 94, 95, 96, 97, 98, 99, 100, 101, 102, 103, 104, 105, 106, 107, 108, 109, 110, 111] rfl rfl) (goodIn_sub iw_c_X4_readCondition_4_X9 gw_X9)) (goodIn_sub iw_c_X4_readCondition_4_X4 gw_X4)))
set_option maxRecDepth 20000 in
theorem gf_c_X4_readCondition_4_c_X9_isRight : GoodIn wf_c_X4_readCondition_4 (wsV RX4 72 RX9 yX9_isRight wf_c_X9_isRight) := goodIn_app (gi_l [1, 2, 3, 4] rfl rfl) (gi_cons (j := 5) rfl rfl (goodIn_app (gi_l [6] rfl rfl) (goodIn_sub iw_c_X4_readCondition_4_X9 gw_X9)))
set_option maxHeartbeats 4000000 in
set_option maxRecDepth 100000 in
theorem c_X4_readCondition_4 (l : Launch) (dC : Nat → ClassId) (dI : Nat → Nat → Nat) (sz : Nat) (h0 : Nat) (h1 : Nat) (h1_0 : Nat) (h1_f1 : Int32) (h1_f2 : Int32) (h1_f3 : Int32) (h1_0k : ClassId) (h1_0c : Nat → Int32) (h0_0 : Nat) (h0_f1 : Int32) (h0_2 : Nat) (h0_0k : ClassId) (h0_0c : Nat → Int32) (ts4 : Nat) (tv4 : Nat) (g_h1_f1 : RG h1_f1 0 240) (g_h1_f2 : RG h1_f2 0 240) (g_h1_f3 : RG h1_f3 (-1) 240) (a_h1_0c : AI h1_0c 0 255) (g_h0_f1 : RG h0_f1 0 240) : Met l yX4_readCondition wf_c_X4_readCondition_4 ({ frames := 11, cells := 0, slots := 0, locals := 265 }) (va_Pc [.ref h0, .ref h1, .int 4, .int 0] (fun U => U.heap.size = sz ∧ va_P (dC, dI) vwCl (wd_c_X4_readCondition_4 h1 h1_0 h1_f1 h1_f2 h1_f3 h1_0 h1_0k h1_0c h0 h0_0 h0_f1 h0_2 h0_0 h0_0k h0_0c) U.heap ∧ va_K (dC, dI) vwCl [(h1_0k, .int), (h0_0k, .int)] U ∧ va_D (fun _ => True) (wd_c_X4_readCondition_4 h1 h1_0 h1_f1 h1_f2 h1_f3 h1_0 h1_0k h1_0c h0 h0_0 h0_f1 h0_2 h0_0 h0_0k h0_0c) ∧ vk_R RX4 91 "vlrdph" ts4 U ∧ va_Z "java/lang/String" "COMPACT_STRINGS" "Z" (.int 1) (va_A (wd_c_X4_readCondition_4 h1 h1_0 h1_f1 h1_f2 h1_f3 h1_0 h1_0k h1_0c h0 h0_0 h0_f1 h0_2 h0_0 h0_0k h0_0c) sz) U U.heap ∧ va_OF "java/lang/String" "coder" "B" (.int 0) ts4 (va_A (wd_c_X4_readCondition_4 h1 h1_0 h1_f1 h1_f2 h1_f3 h1_0 h1_0k h1_0c h0 h0_0 h0_f1 h0_2 h0_0 h0_0k h0_0c) sz) U U.heap ∧ va_O "java/lang/String" ts4 (va_A (wd_c_X4_readCondition_4 h1 h1_0 h1_f1 h1_f2 h1_f3 h1_0 h1_0k h1_0c h0 h0_0 h0_f1 h0_2 h0_0 h0_0k h0_0c) sz) U U.heap ∧ va_OF "java/lang/String" "value" "[B" (.ref tv4) ts4 (va_A (wd_c_X4_readCondition_4 h1 h1_0 h1_f1 h1_f2 h1_f3 h1_0 h1_0k h1_0c h0 h0_0 h0_f1 h0_2 h0_0 h0_0k h0_0c) sz) U U.heap ∧ va_T .byte tv4 6 (fun j => .int ([118, 108, 114, 100, 112, 104].getD j 0)) (va_A (wd_c_X4_readCondition_4 h1 h1_0 h1_f1 h1_f2 h1_f3 h1_0 h1_0k h1_0c h0 h0_0 h0_f1 h0_2 h0_0 h0_0k h0_0c) sz) U U.heap)) (va_Qv (fun (u : (Int32) × (Int32) × (Int32) × (Nat → Int32)) => (RG u.1 0 240 ∧ RG u.2.1 (-1) 240 ∧ RG u.2.2.1 0 240 ∧ (u.1, u.2.1, u.2.2.1, u.2.2.2) = fx_c_X4_readCondition_4 h1_f1 h1_f2 h1_f3 h1_0c h0_f1 h0_0c)) (fun (u : (Int32) × (Int32) × (Int32) × (Nat → Int32)) t => va_P (dC, dI) vwCl (wd_c_X4_readCondition_4 h1 h1_0 h1_f1 (u.1) (u.2.1) h1_0 h1_0k h1_0c h0 h0_0 (u.2.2.1) h0_2 h0_0 h0_0k (u.2.2.2)) t.heap ∧ va_K (dC, dI) vwCl [] t ∧ va_D (va_A (wd_c_X4_readCondition_4 h1 h1_0 h1_f1 h1_f2 h1_f3 h1_0 h1_0k h1_0c h0 h0_0 h0_f1 h0_2 h0_0 h0_0k h0_0c) sz) (wd_c_X4_readCondition_4 h1 h1_0 h1_f1 (u.1) (u.2.1) h1_0 h1_0k h1_0c h0 h0_0 (u.2.2.1) h0_2 h0_0 h0_0k (u.2.2.2))) (va_A (wd_c_X4_readCondition_4 h1 h1_0 h1_f1 h1_f2 h1_f3 h1_0 h1_0k h1_0c h0 h0_0 h0_f1 h0_2 h0_0 h0_0k h0_0c) sz)) 0 0 (va_A (wd_c_X4_readCondition_4 h1 h1_0 h1_f1 h1_f2 h1_f3 h1_0 h1_0k h1_0c h0 h0_0 h0_f1 h0_2 h0_0 h0_0k h0_0c) sz) := by
  refine Met.ofW (cc := cX4_readCondition) (maxL := 7) (ret := none) (by decide +kernel) rfl ?_
  intro p e s m args below meth c s₁ B hml hv
  obtain ⟨rfl, hsz, hP, hK, hD0, hE_32, hE_10, hE_34, hE_33, hE_35, hE_36⟩ := hv
  have hx := B.exec
  have hb := B.bytes
  have hr := B.returns
  have hts := atoms_spec (ws := wf_c_X4_readCondition_4) B.pre
  have hown : s.vm.findClass RX4 = some m.cls := findClass_of_methodNamed B.named
  have hlocks := B.notSynchronized
  subst hsz
  have hD := hD0.self (sz := s.heap.size)
  generalize hAe : va_A (wd_c_X4_readCondition_4 h1 h1_0 h1_f1 h1_f2 h1_f3 h1_0 h1_0k h1_0c h0 h0_0 h0_f1 h0_2 h0_0 h0_0k h0_0c) s.heap.size = A at hD hE_10 hE_34 hE_33 hE_35 hE_36 ⊢
  have hA : ∀ q : Nat, s.heap.size ≤ q → A q := fun q h => by rw [← hAe]; exact Or.inr h
  have hP : va_P (dC, dI) vwCl (wd_c_X4_readCondition_4 h1 h1_0 h1_f1 h1_f2 h1_f3 h1_0 h1_0k h1_0c h0 h0_0 h0_f1 h0_2 h0_0 h0_0k h0_0c) s.heap := hP
  have hl := lv_entry ([.ref h0, .ref h1, .int 4, .int 0]) (n := 7) (Nat.le_of_ble_eq_true rfl)
  rw [lg_entry_eq]
  generalize (lg_sl ([.ref h0, .ref h1, .int 4, .int 0]) ++ List.replicate (7 - (lg_sl ([.ref h0, .ref h1, .int 4, .int 0])).length) Slot.unset).toArray = ls at hl ⊢
  have hl : lv_has ls 7 [(0, .ref h0), (1, .ref h1), (2, .int 4), (3, .int 0)] := hl
  obtain ⟨H, hHe⟩ : ∃ H : Heap, s.heap = H := ⟨_, rfl⟩
  have hS : va_S A s.heap H [] := by rw [hHe]; exact va_S.rf
  have hP : va_P (dC, dI) vwCl (wd_c_X4_readCondition_4 h1 h1_0 h1_f1 h1_f2 h1_f3 h1_0 h1_0k h1_0c h0 h0_0 h0_f1 h0_2 h0_0 h0_0k h0_0c) H := by rw [← hHe]; exact hP
  rw [hHe]
  obtain ⟨RES, hR⟩ : ∃ z, fx_c_X4_readCondition_4 h1_f1 h1_f2 h1_f3 h1_0c h0_f1 h0_0c = z := ⟨_, rfl⟩
  have hEX : RES = fx_c_X4_readCondition_4 h1_f1 h1_f2 h1_f3 h1_0c h0_f1 h0_0c := hR.symm
  refine wj (fun G hG hU => ?_)
  as_aux_lemma =>
  have J9 : ∀ (n9 : Nat) (j9_l6 : Int32) (j9_l5 : Int32) (j9_l4 : Int32) (j9_h1_f2 : Int32) (j9_h1_f3 : Int32) (j9_h0_f1 : Int32) (j9_h0_0c : Nat → Int32) (hM9 : MU j9_l6 < n9) (g_h0_f1 : RG h0_f1 0 240) (g_h1_f1 : RG h1_f1 0 240) (g_h1_f2 : RG h1_f2 0 240) (g_h1_f3 : RG h1_f3 (-1) 240) (g_j9_h0_f1 : RG j9_h0_f1 0 240) (g_j9_h1_f2 : RG j9_h1_f2 0 240) (g_j9_h1_f3 : RG j9_h1_f3 (-1) 240) (g_j9_l4 : RG j9_l4 0 1) (g_j9_l5 : RG j9_l5 0 1) (g_j9_l6 : RG j9_l6 0 240) (hEX : RES = fx_c_X4_readCondition_4_p9 h1_f1 h1_0c n9 j9_l6 j9_l5 j9_l4 j9_h1_f2 j9_h1_f3 j9_h0_f1 j9_h0_0c) (H : Heap) (locs : List Loc) (ls : Array Slot) (hP : va_P (dC, dI) vwCl (wd_c_X4_readCondition_4 h1 h1_0 h1_f1 j9_h1_f2 j9_h1_f3 h1_0 h1_0k h1_0c h0 h0_0 j9_h0_f1 h0_2 h0_0 h0_0k j9_h0_0c) H) (hD : va_D A (wd_c_X4_readCondition_4 h1 h1_0 h1_f1 j9_h1_f2 j9_h1_f3 h1_0 h1_0k h1_0c h0 h0_0 j9_h0_f1 h0_2 h0_0 h0_0k j9_h0_0c)) (hS : va_S A s.heap H locs) (hl : lv_has ls 7 [(6, .int j9_l6), (5, .int j9_l5), (4, .int j9_l4), (0, .ref h0), (1, .ref h1), (2, .int 4), (3, .int 0)]), G H locs (F0 m 9 ls []) := by
    as_aux_lemma =>
    intro n9
    induction n9 with
    | zero => intros; exact absurd (by assumption) (Nat.not_lt_zero _)
    | succ n9 ih9 =>
      intro j9_l6 j9_l5 j9_l4 j9_h1_f2 j9_h1_f3 j9_h0_f1 j9_h0_0c hM9 g_h0_f1 g_h1_f1 g_h1_f2 g_h1_f3 g_j9_h0_f1 g_j9_h1_f2 g_j9_h1_f3 g_j9_l4 g_j9_l5 g_j9_l6 hEX H locs ls hP hD hS hl
      have J93 : ∀ (j93_l4 : Int32) (j93_l5 : Int32) (j93_h1_f2 : Int32) (j93_h1_f3 : Int32) (j93_h0_f1 : Int32) (j93_h0_0c : Nat → Int32) (g_h0_f1 : RG h0_f1 0 240) (g_h1_f1 : RG h1_f1 1 240) (g_h1_f2 : RG h1_f2 0 240) (g_h1_f3 : RG h1_f3 (-1) 240) (g_j93_h0_f1 : RG j93_h0_f1 0 240) (g_j93_h1_f2 : RG j93_h1_f2 1 240) (g_j93_h1_f3 : RG j93_h1_f3 (-1) (-1)) (g_j93_l4 : RG j93_l4 0 1) (g_j93_l5 : RG j93_l5 0 1) (g_j9_h0_f1 : RG j9_h0_f1 0 240) (g_j9_h1_f2 : RG j9_h1_f2 0 240) (g_j9_h1_f3 : RG j9_h1_f3 (-1) (-1)) (g_j9_l4 : RG j9_l4 0 1) (g_j9_l5 : RG j9_l5 0 1) (g_j9_l6 : RG j9_l6 0 239) (hEX : RES = fx_c_X4_readCondition_4_p93 j9_l6 (fx_c_X4_readCondition_4_p9 h1_f1 h1_0c n9) j93_l4 j93_l5 j93_h1_f2 j93_h1_f3 j93_h0_f1 j93_h0_0c) (H : Heap) (locs : List Loc) (ls : Array Slot) (hP : va_P (dC, dI) vwCl (wd_c_X4_readCondition_4 h1 h1_0 h1_f1 j93_h1_f2 j93_h1_f3 h1_0 h1_0k h1_0c h0 h0_0 j93_h0_f1 h0_2 h0_0 h0_0k j93_h0_0c) H) (hD : va_D A (wd_c_X4_readCondition_4 h1 h1_0 h1_f1 j93_h1_f2 j93_h1_f3 h1_0 h1_0k h1_0c h0 h0_0 j93_h0_f1 h0_2 h0_0 h0_0k j93_h0_0c)) (hS : va_S A s.heap H locs) (hl : lv_has ls 7 [(4, .int j93_l4), (6, .int j9_l6), (5, .int j93_l5), (0, .ref h0), (1, .ref h1), (2, .int 4), (3, .int 0)]), G H locs (F0 m 93 ls []) := by
        as_aux_lemma =>
        intro j93_l4 j93_l5 j93_h1_f2 j93_h1_f3 j93_h0_f1 j93_h0_0c g_h0_f1 g_h1_f1 g_h1_f2 g_h1_f3 g_j93_h0_f1 g_j93_h1_f2 g_j93_h1_f3 g_j93_l4 g_j93_l5 g_j9_h0_f1 g_j9_h1_f2 g_j9_h1_f3 g_j9_l4 g_j9_l5 g_j9_l6 hEX H locs ls hP hD hS hl
        refine hG _ _ _ ?_
        obtain ⟨x_1, ex_1⟩ : ∃ y : Int32, y = j9_l6 + 1 := ⟨_, rfl⟩
        have g_2 : RG x_1 1 240 := RG_add ex_1 g_j9_l6 (RG_k 1 1 rfl) (by decide +kernel)
        replace hEX := hEX.trans (exl_eq ex_1)
        refine lv_iinc (v := x_1) (lv' := [(6, .int x_1), (4, .int j93_l4), (5, .int j93_l5), (0, .ref h0), (1, .ref h1), (2, .int 4), (3, .int 0)]) hx hb dX4_readCondition_93 hl (k := 1) rfl (by rw [ex_1]; rfl) (Nat.le_of_ble_eq_true rfl) rfl (fun ls hl => ?_)
        refine lv_goto (tgt := 9) hx hb dX4_readCondition_96 rfl ?_
        exact hU _ _ _ (ih9 x_1 j93_l5 j93_l4 j93_h1_f2 j93_h1_f3 j93_h0_f1 j93_h0_0c (mu_s (MU_add ex_1 g_j9_l6 (q := 1) rfl (by decide +kernel)) hM9) g_h0_f1 (RG_w g_h1_f1 (by decide +kernel)) g_h1_f2 g_h1_f3 g_j93_h0_f1 (RG_w g_j93_h1_f2 (by decide +kernel)) (RG_w g_j93_h1_f3 (by decide +kernel)) g_j93_l4 g_j93_l5 (RG_w g_2 (by decide +kernel)) hEX _ _ _ hP hD hS (lv_sub hl [0, 2, 1, 3, 4, 5, 6] rfl))
      have J79 : ∀ (j79_h1_f2 : Int32) (j79_h1_f3 : Int32) (j79_h0_f1 : Int32) (j79_h0_0c : Nat → Int32) (g_h0_f1 : RG h0_f1 0 240) (g_h1_f1 : RG h1_f1 0 240) (g_h1_f2 : RG h1_f2 0 240) (g_h1_f3 : RG h1_f3 (-1) 240) (g_j79_h0_f1 : RG j79_h0_f1 0 240) (g_j79_h1_f2 : RG j79_h1_f2 0 240) (g_j79_h1_f3 : RG j79_h1_f3 (-1) 240) (g_j9_h0_f1 : RG j9_h0_f1 0 240) (g_j9_h1_f2 : RG j9_h1_f2 0 240) (g_j9_h1_f3 : RG j9_h1_f3 (-1) (-1)) (g_j9_l4 : RG j9_l4 0 1) (g_j9_l5 : RG j9_l5 0 1) (g_j9_l6 : RG j9_l6 0 239) (hEX : RES = fx_c_X4_readCondition_4_p79 h1_f1 h1_0c j9_l6 (fx_c_X4_readCondition_4_p9 h1_f1 h1_0c n9) j79_h1_f2 j79_h1_f3 j79_h0_f1 j79_h0_0c) (H : Heap) (locs : List Loc) (ls : Array Slot) (hP : va_P (dC, dI) vwCl (wd_c_X4_readCondition_4 h1 h1_0 h1_f1 j79_h1_f2 j79_h1_f3 h1_0 h1_0k h1_0c h0 h0_0 j79_h0_f1 h0_2 h0_0 h0_0k j79_h0_0c) H) (hD : va_D A (wd_c_X4_readCondition_4 h1 h1_0 h1_f1 j79_h1_f2 j79_h1_f3 h1_0 h1_0k h1_0c h0 h0_0 j79_h0_f1 h0_2 h0_0 h0_0k j79_h0_0c)) (hS : va_S A s.heap H locs) (hl : lv_has ls 7 [(4, .int 0), (6, .int j9_l6), (0, .ref h0), (1, .ref h1), (2, .int 4), (3, .int 0)]), G H locs (F0 m 79 ls []) := by
        as_aux_lemma =>
        intro j79_h1_f2 j79_h1_f3 j79_h0_f1 j79_h0_0c g_h0_f1 g_h1_f1 g_h1_f2 g_h1_f3 g_j79_h0_f1 g_j79_h1_f2 g_j79_h1_f3 g_j9_h0_f1 g_j9_h1_f2 g_j9_h1_f3 g_j9_l4 g_j9_l5 g_j9_l6 hEX H locs ls hP hD hS hl
        refine hG _ _ _ ?_
        refine lv_aload_n hx hb dX4_readCondition_79 rfl (lv_at hl 3 rfl) ?_
        refine lv_bipush (v := 124) hx hb dX4_readCondition_80 kc_bipush_124 ?_
        obtain ⟨hPc, hDc, hFc, hqc⟩ := cl_cut (wc := (wd_c_X9_take_1 h1 h1_0 h1_f1 j79_h1_f2 j79_h1_f3 h1_0 h1_0k h1_0c)) hP hD hS hA [0, 1] (by decide +kernel) rfl
        have hKc := hK.sub (tys' := [(h1_0k, .int)]) [0] rfl
        have hrv := va_recv hKc hPc (ci := 9) (q0 := 0) rfl rfl
        refine va_calli (va_runV (As := [.int 124]) (rest := []) ⟨hx, hb, hml, hown, hts⟩ (c_X9_take_1 l dC dI H.size h1 124 h1_0 h1_f1 j79_h1_f2 j79_h1_f3 h1_0k h1_0c (RG_w (RG_k 124 124 rfl) (by decide +kernel)) g_h1_f1 g_j79_h1_f2 g_j79_h1_f3 a_h1_0c) (cwV 1 hts gf_c_X4_readCondition_4_c_X9_take_1 rfl rfl rfl mdV_X9_take ⟨Nat.le_of_ble_eq_true rfl, Nat.le_of_ble_eq_true rfl⟩) ⟨fun a U g mk q => by obtain ⟨q0, q1, qP, qK, qD⟩ := q; exact ⟨q0, q1, qP, va_K.moved (u := U) (U := U.calling g mk a) (Vm.Alike.refl U.vm) qK, qD⟩, hrv, fun U hU hW => ⟨rfl, by rw [hU], by rw [hU]; exact hPc, va_K.moved hW.alike hKc, hDc.weaken (fun _ _ _ _ => trivial)⟩⟩ rfl rfl hl.1 rfl (lv_room (Nat.le_of_ble_eq_true rfl)) dX4_readCondition_82 ⟨Nat.le_of_ble_eq_true rfl, Nat.le_of_ble_eq_true rfl⟩) hS (fun q _ h => hFc q h) hFc (fun r_3 x_4 t H1 locs ht hvm hw hB hz1 hk1 hS => ?_)
        obtain ⟨hP1, hK1, hD1⟩ := hB
        rw [ht] at hP1
        obtain ⟨hP, hD⟩ := cl_put (w1 := (wd_c_X9_take_1 h1 h1_0 h1_f1 x_4 j79_h1_f3 h1_0 h1_0k h1_0c)) (nw := (wd_c_X4_readCondition_4 h1 h1_0 h1_f1 x_4 j79_h1_f3 h1_0 h1_0k h1_0c h0 h0_0 j79_h0_f1 h0_2 h0_0 h0_0k j79_h0_0c)) hP hD [0, 1] [4, 5, 2, 3] 4 rfl hqc (by decide +kernel) rfl hk1 hFc hP1 hD1
        generalize H1 = H at hP hS ⊢
        as_aux_lemma =>
        rcases hw with ⟨h_5, h_6, h_7, h_8⟩ | ⟨h_9, h_10, h_11, h_12, h_13, h_14⟩
        · have h_8 : (r_3, x_4) = _ := h_8
          replace hEX := hEX.trans (exc2_eq h_8)
          replace hEX := hEX.trans (if_pos (show r_3 = 0 from h_5))
          rw [h_5]
          refine lv_istore (lv' := [(5, .int 0), (4, .int 0), (6, .int j9_l6), (0, .ref h0), (1, .ref h1), (2, .int 4), (3, .int 0)]) hx hb dX4_readCondition_85 hl (Nat.le_of_ble_eq_true rfl) rfl (fun ls hl => ?_)
          refine lv_iload hx hb dX4_readCondition_87 (lv_at hl 0 rfl) ?_
          refine lv_if_ne (tgt := 93) hx hb dX4_readCondition_89 rfl (fun c_15 => absurd c_15 (by decide +kernel)) (fun c_15 => ?_)
          have hK9 := hK.sub (tys' := []) [] rfl
          exact W.vret hx hb hr (fun t ht hW => ⟨⟨(x_4, j79_h1_f3, j79_h0_f1, j79_h0_0c), rfl, ⟨h_6, g_j79_h1_f3, g_j79_h0_f1, (hR.trans hEX).symm⟩, by rw [ht]; exact hP, va_K.moved hW.alike hK9, hD⟩, hS.F ht⟩) hS.2.2 dX4_readCondition_92
        · have h_14 : (r_3, x_4) = _ := h_14
          replace hEX := hEX.trans (exc2_eq h_14)
          replace hEX := hEX.trans (if_neg (fun q9 : r_3 = 0 => absurd ((show r_3 = 1 from h_9).symm.trans q9) (by decide +kernel)))
          rw [h_9]
          refine lv_istore (lv' := [(5, .int 1), (4, .int 0), (6, .int j9_l6), (0, .ref h0), (1, .ref h1), (2, .int 4), (3, .int 0)]) hx hb dX4_readCondition_85 hl (Nat.le_of_ble_eq_true rfl) rfl (fun ls hl => ?_)
          as_aux_lemma =>
          refine lv_iload hx hb dX4_readCondition_87 (lv_at hl 0 rfl) ?_
          refine lv_if_ne (tgt := 93) hx hb dX4_readCondition_89 rfl (fun c_16 => ?_) (fun c_16 => absurd c_16 (by decide +kernel))
          exact hU _ _ _ (J93 0 1 x_4 j79_h1_f3 j79_h0_f1 j79_h0_0c g_h0_f1 h_11 g_h1_f2 g_h1_f3 g_j79_h0_f1 h_10 h_12 (RG_w (RG_k 0 0 rfl) (by decide +kernel)) (RG_w (RG_k 1 1 rfl) (by decide +kernel)) g_j9_h0_f1 g_j9_h1_f2 g_j9_h1_f3 g_j9_l4 g_j9_l5 g_j9_l6 hEX _ _ _ hP hD hS (lv_sub hl [1, 2, 0, 3, 4, 5, 6] rfl))
      have J55 : ∀ (j55_h1_f2 : Int32) (j55_h1_f3 : Int32) (j55_h0_f1 : Int32) (j55_h0_0c : Nat → Int32) (g_h0_f1 : RG h0_f1 0 240) (g_h1_f1 : RG h1_f1 0 240) (g_h1_f2 : RG h1_f2 0 240) (g_h1_f3 : RG h1_f3 (-1) 240) (g_j55_h0_f1 : RG j55_h0_f1 0 240) (g_j55_h1_f2 : RG j55_h1_f2 0 240) (g_j55_h1_f3 : RG j55_h1_f3 (-1) 240) (g_j9_h0_f1 : RG j9_h0_f1 0 240) (g_j9_h1_f2 : RG j9_h1_f2 0 240) (g_j9_h1_f3 : RG j9_h1_f3 (-1) (-1)) (g_j9_l4 : RG j9_l4 0 1) (g_j9_l5 : RG j9_l5 0 1) (g_j9_l6 : RG j9_l6 0 239) (hEX : RES = fx_c_X4_readCondition_4_p55 h1_f1 h1_0c j9_l6 j9_l5 (fx_c_X4_readCondition_4_p9 h1_f1 h1_0c n9) j55_h1_f2 j55_h1_f3 j55_h0_f1 j55_h0_0c) (H : Heap) (locs : List Loc) (ls : Array Slot) (hP : va_P (dC, dI) vwCl (wd_c_X4_readCondition_4 h1 h1_0 h1_f1 j55_h1_f2 j55_h1_f3 h1_0 h1_0k h1_0c h0 h0_0 j55_h0_f1 h0_2 h0_0 h0_0k j55_h0_0c) H) (hD : va_D A (wd_c_X4_readCondition_4 h1 h1_0 h1_f1 j55_h1_f2 j55_h1_f3 h1_0 h1_0k h1_0c h0 h0_0 j55_h0_f1 h0_2 h0_0 h0_0k j55_h0_0c)) (hS : va_S A s.heap H locs) (hl : lv_has ls 7 [(6, .int j9_l6), (5, .int j9_l5), (0, .ref h0), (1, .ref h1), (2, .int 4), (3, .int 0)]), G H locs (F0 m 55 ls []) := by
        as_aux_lemma =>
        intro j55_h1_f2 j55_h1_f3 j55_h0_f1 j55_h0_0c g_h0_f1 g_h1_f1 g_h1_f2 g_h1_f3 g_j55_h0_f1 g_j55_h1_f2 g_j55_h1_f3 g_j9_h0_f1 g_j9_h1_f2 g_j9_h1_f3 g_j9_l4 g_j9_l5 g_j9_l6 hEX H locs ls hP hD hS hl
        refine hG _ _ _ ?_
        refine lv_aload_n hx hb dX4_readCondition_55 rfl (lv_at hl 3 rfl) ?_
        refine lv_bipush (v := 38) hx hb dX4_readCondition_56 kc_bipush_38 ?_
        obtain ⟨hPc, hDc, hFc, hqc⟩ := cl_cut (wc := (wd_c_X9_take h1 h1_0 h1_f1 j55_h1_f2 j55_h1_f3 h1_0 h1_0k h1_0c)) hP hD hS hA [0, 1] (by decide +kernel) rfl
        have hKc := hK.sub (tys' := [(h1_0k, .int)]) [0] rfl
        have hrv := va_recv hKc hPc (ci := 9) (q0 := 0) rfl rfl
        refine va_calli (va_runV (As := [.int 38]) (rest := []) ⟨hx, hb, hml, hown, hts⟩ (c_X9_take l dC dI H.size h1 38 h1_0 h1_f1 j55_h1_f2 j55_h1_f3 h1_0k h1_0c (RG_w (RG_k 38 38 rfl) (by decide +kernel)) g_h1_f1 g_j55_h1_f2 g_j55_h1_f3 a_h1_0c) (cwV 1 hts gf_c_X4_readCondition_4_c_X9_take rfl rfl rfl mdV_X9_take ⟨Nat.le_of_ble_eq_true rfl, Nat.le_of_ble_eq_true rfl⟩) ⟨fun a U g mk q => by obtain ⟨q0, q1, qP, qK, qD⟩ := q; exact ⟨q0, q1, qP, va_K.moved (u := U) (U := U.calling g mk a) (Vm.Alike.refl U.vm) qK, qD⟩, hrv, fun U hU hW => ⟨rfl, by rw [hU], by rw [hU]; exact hPc, va_K.moved hW.alike hKc, hDc.weaken (fun _ _ _ _ => trivial)⟩⟩ rfl rfl hl.1 rfl (lv_room (Nat.le_of_ble_eq_true rfl)) dX4_readCondition_58 ⟨Nat.le_of_ble_eq_true rfl, Nat.le_of_ble_eq_true rfl⟩) hS (fun q _ h => hFc q h) hFc (fun r_17 x_18 t H1 locs ht hvm hw hB hz1 hk1 hS => ?_)
        obtain ⟨hP1, hK1, hD1⟩ := hB
        rw [ht] at hP1
        obtain ⟨hP, hD⟩ := cl_put (w1 := (wd_c_X9_take h1 h1_0 h1_f1 x_18 j55_h1_f3 h1_0 h1_0k h1_0c)) (nw := (wd_c_X4_readCondition_4 h1 h1_0 h1_f1 x_18 j55_h1_f3 h1_0 h1_0k h1_0c h0 h0_0 j55_h0_f1 h0_2 h0_0 h0_0k j55_h0_0c)) hP hD [0, 1] [4, 5, 2, 3] 4 rfl hqc (by decide +kernel) rfl hk1 hFc hP1 hD1
        generalize H1 = H at hP hS ⊢
        as_aux_lemma =>
        rcases hw with ⟨h_19, h_20, h_21, h_22⟩ | ⟨h_23, h_24, h_25, h_26, h_27, h_28⟩
        · have h_22 : (r_17, x_18) = _ := h_22
          replace hEX := hEX.trans (exc2_eq h_22)
          replace hEX := hEX.trans (if_pos (show r_17 = 0 from h_19))
          rw [h_19]
          refine lv_istore (lv' := [(4, .int 0), (6, .int j9_l6), (5, .int j9_l5), (0, .ref h0), (1, .ref h1), (2, .int 4), (3, .int 0)]) hx hb dX4_readCondition_61 hl (Nat.le_of_ble_eq_true rfl) rfl (fun ls hl => ?_)
          refine lv_iload hx hb dX4_readCondition_63 (lv_at hl 0 rfl) ?_
          refine lv_if_ne (tgt := 93) hx hb dX4_readCondition_65 rfl (fun c_29 => absurd c_29 (by decide +kernel)) (fun c_29 => ?_)
          refine lv_iload hx hb dX4_readCondition_68 (lv_at hl 2 rfl) ?_
          refine lv_if_eq (tgt := 79) hx hb dX4_readCondition_70 rfl (fun c_30 => ?_) (fun c_30 => ?_)
          · replace hEX := hEX.trans (if_pos c_30)
            have g_31 : RG j9_l5 0 0 := RG_eq1 g_j9_l5 (RG_k 0 0 rfl) c_30 (by decide +kernel)
            exact hU _ _ _ (J79 x_18 j55_h1_f3 j55_h0_f1 j55_h0_0c g_h0_f1 g_h1_f1 g_h1_f2 g_h1_f3 g_j55_h0_f1 h_20 g_j55_h1_f3 g_j9_h0_f1 g_j9_h1_f2 g_j9_h1_f3 g_j9_l4 (RG_w g_31 (by decide +kernel)) g_j9_l6 hEX _ _ _ hP hD hS (lv_sub hl [0, 1, 3, 4, 5, 6] rfl))
          · replace hEX := hEX.trans (if_neg c_30)
            have g_32 : RG j9_l5 1 1 := RG_ne1 g_j9_l5 (q := 0) rfl c_30 (by decide +kernel)
            refine lv_aload_n hx hb dX4_readCondition_73 rfl (lv_at hl 3 rfl) ?_
            as_aux_lemma =>
            refine lv_bipush (v := (-124)) hx hb dX4_readCondition_74 kc_bipush_m124 ?_
            obtain ⟨hPc, hDc, hFc, hqc⟩ := cl_cut (wc := (wd_c_X4_emit h0 h0_0 j55_h0_f1 h0_2 h0_0 h0_0k j55_h0_0c)) hP hD hS hA [2, 3] (by decide +kernel) rfl
            have hKc := hK.sub (tys' := [(h0_0k, .int)]) [1] rfl
            have hrv := va_recv hKc hPc (ci := 4) (q0 := 0) rfl rfl
            refine va_callv (va_runV (As := [.int (-124)]) (rest := []) ⟨hx, hb, hml, hown, hts⟩ (c_X4_emit l dC dI H.size h0 (-124) h0_0 j55_h0_f1 h0_2 h0_0k j55_h0_0c g_j55_h0_f1) (cwV 1 hts gf_c_X4_readCondition_4_c_X4_emit rfl rfl rfl mdV_X4_emit ⟨Nat.le_of_ble_eq_true rfl, Nat.le_of_ble_eq_true rfl⟩) ⟨fun a U g mk q => by obtain ⟨q0, q1, qP, qK, qD⟩ := q; exact ⟨q0, q1, qP, va_K.moved (u := U) (U := U.calling g mk a) (Vm.Alike.refl U.vm) qK, qD⟩, hrv, fun U hU hW => ⟨rfl, by rw [hU], by rw [hU]; exact hPc, va_K.moved hW.alike hKc, hDc.weaken (fun _ _ _ _ => trivial)⟩⟩ rfl rfl hl.1 rfl (lv_room (Nat.le_of_ble_eq_true rfl)) dX4_readCondition_76 ⟨Nat.le_of_ble_eq_true rfl, Nat.le_of_ble_eq_true rfl⟩) hS (fun q _ h => hFc q h) hFc (fun u t H1 locs ht hvm hw hB hz1 hk1 hS => ?_)
            obtain ⟨x_34, w_35⟩ := u
            obtain ⟨hP1, hK1, hD1⟩ := hB
            rw [ht] at hP1
            obtain ⟨hP, hD⟩ := cl_put (w1 := (wd_c_X4_emit h0 h0_0 x_34 h0_2 h0_0 h0_0k w_35)) (nw := (wd_c_X4_readCondition_4 h1 h1_0 h1_f1 x_18 j55_h1_f3 h1_0 h1_0k h1_0c h0 h0_0 x_34 h0_2 h0_0 h0_0k w_35)) hP hD [2, 3] [0, 1, 4, 5] 4 rfl hqc (by decide +kernel) rfl hk1 hFc hP1 hD1
            generalize H1 = H at hP hS ⊢
            as_aux_lemma =>
            rcases hw with ⟨h_36, h_37⟩
            have h_37 : (x_34, w_35) = _ := h_37
            replace hEX := hEX.trans (exc2_eq h_37)
            exact hU _ _ _ (J79 x_18 j55_h1_f3 x_34 w_35 g_h0_f1 g_h1_f1 g_h1_f2 g_h1_f3 (RG_w h_36 (by decide +kernel)) h_20 g_j55_h1_f3 g_j9_h0_f1 g_j9_h1_f2 g_j9_h1_f3 g_j9_l4 (RG_w g_32 (by decide +kernel)) g_j9_l6 hEX _ _ _ hP hD hS (lv_sub hl [0, 1, 3, 4, 5, 6] rfl))
        · have h_28 : (r_17, x_18) = _ := h_28
          replace hEX := hEX.trans (exc2_eq h_28)
          replace hEX := hEX.trans (if_neg (fun q9 : r_17 = 0 => absurd ((show r_17 = 1 from h_23).symm.trans q9) (by decide +kernel)))
          rw [h_23]
          refine lv_istore (lv' := [(4, .int 1), (6, .int j9_l6), (5, .int j9_l5), (0, .ref h0), (1, .ref h1), (2, .int 4), (3, .int 0)]) hx hb dX4_readCondition_61 hl (Nat.le_of_ble_eq_true rfl) rfl (fun ls hl => ?_)
          refine lv_iload hx hb dX4_readCondition_63 (lv_at hl 0 rfl) ?_
          refine lv_if_ne (tgt := 93) hx hb dX4_readCondition_65 rfl (fun c_38 => ?_) (fun c_38 => absurd c_38 (by decide +kernel))
          exact hU _ _ _ (J93 1 j9_l5 x_18 j55_h1_f3 j55_h0_f1 j55_h0_0c g_h0_f1 h_25 g_h1_f2 g_h1_f3 g_j55_h0_f1 h_24 h_26 (RG_w (RG_k 1 1 rfl) (by decide +kernel)) g_j9_l5 g_j9_h0_f1 g_j9_h1_f2 g_j9_h1_f3 g_j9_l4 g_j9_l5 g_j9_l6 hEX _ _ _ hP hD hS (lv_sub hl [0, 1, 2, 3, 4, 5, 6] rfl))
      have J41 : ∀ (g_h0_f1 : RG h0_f1 0 240) (g_h1_f1 : RG h1_f1 0 240) (g_h1_f2 : RG h1_f2 0 240) (g_h1_f3 : RG h1_f3 (-1) 240) (g_j9_h0_f1 : RG j9_h0_f1 0 240) (g_j9_h1_f2 : RG j9_h1_f2 0 240) (g_j9_h1_f3 : RG j9_h1_f3 (-1) (-1)) (g_j9_l4 : RG j9_l4 0 1) (g_j9_l5 : RG j9_l5 0 1) (g_j9_l6 : RG j9_l6 0 239) (hEX : RES = fx_c_X4_readCondition_4_p41 h1_f1 h1_0c j9_l6 j9_l5 j9_l4 j9_h1_f2 j9_h1_f3 j9_h0_f1 j9_h0_0c (fx_c_X4_readCondition_4_p9 h1_f1 h1_0c n9)) (H : Heap) (locs : List Loc) (ls : Array Slot) (hP : va_P (dC, dI) vwCl (wd_c_X4_readCondition_4 h1 h1_0 h1_f1 j9_h1_f2 j9_h1_f3 h1_0 h1_0k h1_0c h0 h0_0 j9_h0_f1 h0_2 h0_0 h0_0k j9_h0_0c) H) (hD : va_D A (wd_c_X4_readCondition_4 h1 h1_0 h1_f1 j9_h1_f2 j9_h1_f3 h1_0 h1_0k h1_0c h0 h0_0 j9_h0_f1 h0_2 h0_0 h0_0k j9_h0_0c)) (hS : va_S A s.heap H locs) (hl : lv_has ls 7 [(6, .int j9_l6), (5, .int j9_l5), (4, .int j9_l4), (0, .ref h0), (1, .ref h1), (2, .int 4), (3, .int 0)]), G H locs (F0 m 41 ls [.int 0, .int 4, .ref h1, .ref h0]) := by
        as_aux_lemma =>
        intro g_h0_f1 g_h1_f1 g_h1_f2 g_h1_f3 g_j9_h0_f1 g_j9_h1_f2 g_j9_h1_f3 g_j9_l4 g_j9_l5 g_j9_l6 hEX H locs ls hP hD hS hl
        refine hG _ _ _ ?_
        obtain ⟨hPc, hDc, hFc, hqc⟩ := cl_cut (wc := (wd_c_X4_readUnit_5 h1 h1_0 h1_f1 j9_h1_f2 j9_h1_f3 h1_0 h1_0k h1_0c h0 h0_0 j9_h0_f1 h0_2 h0_0 h0_0k j9_h0_0c)) hP hD hS hA [0, 1, 2, 3] (by decide +kernel) rfl
        have hKc := hK.sub (tys' := [(h1_0k, .int), (h0_0k, .int)]) [0, 1] rfl
        have hrv := va_recv hKc hPc (ci := 4) (q0 := 2) rfl rfl
        refine va_callv (va_runV (As := [.ref h1, .int 4, .int 0]) (rest := []) ⟨hx, hb, hml, hown, hts⟩ (c_X4_readUnit_5 l dC dI H.size h0 h1 h1_0 h1_f1 j9_h1_f2 j9_h1_f3 h1_0k h1_0c h0_0 j9_h0_f1 h0_2 h0_0k j9_h0_0c ts4 tv4 g_h1_f1 g_j9_h1_f2 (RG_w g_j9_h1_f3 (by decide +kernel)) a_h1_0c g_j9_h0_f1) (cwV 3 hts gf_c_X4_readCondition_4_c_X4_readUnit_5 rfl rfl rfl mdV_X4_readUnit ⟨Nat.le_of_ble_eq_true rfl, Nat.le_of_ble_eq_true rfl⟩) ⟨fun a U g mk q => by obtain ⟨q0, q1, qP, qK, qD, qE0, qE1, qE2, qE3, qE4, qE5⟩ := q; exact ⟨q0, q1, qP, va_K.moved (u := U) (U := U.calling g mk a) (Vm.Alike.refl U.vm) qK, qD, vk_R.same rfl qE0, va_Z.moved (u := U) (U := U.calling g mk a) (Vm.Alike.refl U.vm) qE1, va_OF.moved (u := U) (U := U.calling g mk a) (Vm.Alike.refl U.vm) qE2, va_O.moved (u := U) (U := U.calling g mk a) (Vm.Alike.refl U.vm) qE3, va_OF.moved (u := U) (U := U.calling g mk a) (Vm.Alike.refl U.vm) qE4, va_T.moved (u := U) (U := U.calling g mk a) (Vm.Alike.refl U.vm) qE5⟩, hrv, fun U hU hW => ⟨rfl, by rw [hU], by rw [hU]; exact hPc, va_K.moved hW.alike hKc, hDc.weaken (fun _ _ _ _ => trivial), vk_R.warm hW hE_32, va_Z.moved hW.alike (by rw [hU]; exact (hE_10.kept hS.2.1).narrow hFc), va_OF.moved hW.alike (by rw [hU]; exact (hE_34.kept hS.2.1).narrow hFc), va_O.moved hW.alike (by rw [hU]; exact (hE_33.kept hS.2.1).narrow hFc), va_OF.moved hW.alike (by rw [hU]; exact (hE_35.kept hS.2.1).narrow hFc), va_T.moved hW.alike (by rw [hU]; exact (hE_36.kept hS.2.1).narrow hFc)⟩⟩ rfl rfl hl.1 rfl (lv_room (Nat.le_of_ble_eq_true rfl)) dX4_readCondition_41 ⟨Nat.le_of_ble_eq_true rfl, Nat.le_of_ble_eq_true rfl⟩) hS (fun q _ h => hFc q h) hFc (fun u t H1 locs ht hvm hw hB hz1 hk1 hS => ?_)
        obtain ⟨x_40, x_41, x_42, w_43⟩ := u
        obtain ⟨hP1, hK1, hD1⟩ := hB
        rw [ht] at hP1
        obtain ⟨hP, hD⟩ := cl_put (w1 := (wd_c_X4_readUnit_5 h1 h1_0 h1_f1 x_40 x_41 h1_0 h1_0k h1_0c h0 h0_0 x_42 h0_2 h0_0 h0_0k w_43)) (nw := (wd_c_X4_readCondition_4 h1 h1_0 h1_f1 x_40 x_41 h1_0 h1_0k h1_0c h0 h0_0 x_42 h0_2 h0_0 h0_0k w_43)) hP hD [0, 1, 2, 3] [4, 5, 6, 7] 4 rfl hqc (by decide +kernel) rfl hk1 hFc hP1 hD1
        generalize H1 = H at hP hS ⊢
        as_aux_lemma =>
        rcases hw with ⟨h_44, h_45, h_46, h_47⟩
        have h_47 : (x_40, x_41, x_42, w_43) = _ := h_47
        replace hEX := hEX.trans (exc4_eq h_47)
        refine lv_iload hx hb dX4_readCondition_44 (lv_at hl 2 rfl) ?_
        refine lv_if_eq (tgt := 55) hx hb dX4_readCondition_46 rfl (fun c_48 => ?_) (fun c_48 => ?_)
        · replace hEX := hEX.trans (if_pos c_48)
          have g_49 : RG j9_l4 0 0 := RG_eq1 g_j9_l4 (RG_k 0 0 rfl) c_48 (by decide +kernel)
          exact hU _ _ _ (J55 x_40 x_41 x_42 w_43 g_h0_f1 g_h1_f1 g_h1_f2 g_h1_f3 h_46 h_44 h_45 g_j9_h0_f1 g_j9_h1_f2 g_j9_h1_f3 (RG_w g_49 (by decide +kernel)) g_j9_l5 g_j9_l6 hEX _ _ _ hP hD hS (lv_sub hl [0, 1, 3, 4, 5, 6] rfl))
        · replace hEX := hEX.trans (if_neg c_48)
          have g_50 : RG j9_l4 1 1 := RG_ne1 g_j9_l4 (q := 0) rfl c_48 (by decide +kernel)
          refine lv_aload_n hx hb dX4_readCondition_49 rfl (lv_at hl 3 rfl) ?_
          refine lv_bipush (v := (-38)) hx hb dX4_readCondition_50 kc_bipush_m38 ?_
          obtain ⟨hPc, hDc, hFc, hqc⟩ := cl_cut (wc := (wd_c_X4_emit h0 h0_0 x_42 h0_2 h0_0 h0_0k w_43)) hP hD hS hA [2, 3] (by decide +kernel) rfl
          have hKc := hK.sub (tys' := [(h0_0k, .int)]) [1] rfl
          have hrv := va_recv hKc hPc (ci := 4) (q0 := 0) rfl rfl
          refine va_callv (va_runV (As := [.int (-38)]) (rest := []) ⟨hx, hb, hml, hown, hts⟩ (c_X4_emit l dC dI H.size h0 (-38) h0_0 x_42 h0_2 h0_0k w_43 h_46) (cwV 1 hts gf_c_X4_readCondition_4_c_X4_emit rfl rfl rfl mdV_X4_emit ⟨Nat.le_of_ble_eq_true rfl, Nat.le_of_ble_eq_true rfl⟩) ⟨fun a U g mk q => by obtain ⟨q0, q1, qP, qK, qD⟩ := q; exact ⟨q0, q1, qP, va_K.moved (u := U) (U := U.calling g mk a) (Vm.Alike.refl U.vm) qK, qD⟩, hrv, fun U hU hW => ⟨rfl, by rw [hU], by rw [hU]; exact hPc, va_K.moved hW.alike hKc, hDc.weaken (fun _ _ _ _ => trivial)⟩⟩ rfl rfl hl.1 rfl (lv_room (Nat.le_of_ble_eq_true rfl)) dX4_readCondition_52 ⟨Nat.le_of_ble_eq_true rfl, Nat.le_of_ble_eq_true rfl⟩) hS (fun q _ h => hFc q h) hFc (fun u t H1 locs ht hvm hw hB hz1 hk1 hS => ?_)
          as_aux_lemma =>
          obtain ⟨x_52, w_53⟩ := u
          obtain ⟨hP1, hK1, hD1⟩ := hB
          rw [ht] at hP1
          obtain ⟨hP, hD⟩ := cl_put (w1 := (wd_c_X4_emit h0 h0_0 x_52 h0_2 h0_0 h0_0k w_53)) (nw := (wd_c_X4_readCondition_4 h1 h1_0 h1_f1 x_40 x_41 h1_0 h1_0k h1_0c h0 h0_0 x_52 h0_2 h0_0 h0_0k w_53)) hP hD [2, 3] [0, 1, 4, 5] 4 rfl hqc (by decide +kernel) rfl hk1 hFc hP1 hD1
          generalize H1 = H at hP hS ⊢
          as_aux_lemma =>
          rcases hw with ⟨h_54, h_55⟩
          have h_55 : (x_52, w_53) = _ := h_55
          replace hEX := hEX.trans (exc2_eq h_55)
          exact hU _ _ _ (J55 x_40 x_41 x_52 w_53 g_h0_f1 g_h1_f1 g_h1_f2 g_h1_f3 (RG_w h_54 (by decide +kernel)) h_44 h_45 g_j9_h0_f1 g_j9_h1_f2 g_j9_h1_f3 (RG_w g_50 (by decide +kernel)) g_j9_l5 g_j9_l6 hEX _ _ _ hP hD hS (lv_sub hl [0, 1, 3, 4, 5, 6] rfl))
      have J40 : ∀ (g_h0_f1 : RG h0_f1 0 240) (g_h1_f1 : RG h1_f1 0 240) (g_h1_f2 : RG h1_f2 0 240) (g_h1_f3 : RG h1_f3 (-1) 240) (g_j9_h0_f1 : RG j9_h0_f1 0 240) (g_j9_h1_f2 : RG j9_h1_f2 0 240) (g_j9_h1_f3 : RG j9_h1_f3 (-1) (-1)) (g_j9_l4 : RG j9_l4 0 1) (g_j9_l5 : RG j9_l5 0 1) (g_j9_l6 : RG j9_l6 0 239) (hEX : RES = fx_c_X4_readCondition_4_p40 h1_f1 h1_0c j9_l6 j9_l5 j9_l4 j9_h1_f2 j9_h1_f3 j9_h0_f1 j9_h0_0c (fx_c_X4_readCondition_4_p9 h1_f1 h1_0c n9)) (H : Heap) (locs : List Loc) (ls : Array Slot) (hP : va_P (dC, dI) vwCl (wd_c_X4_readCondition_4 h1 h1_0 h1_f1 j9_h1_f2 j9_h1_f3 h1_0 h1_0k h1_0c h0 h0_0 j9_h0_f1 h0_2 h0_0 h0_0k j9_h0_0c) H) (hD : va_D A (wd_c_X4_readCondition_4 h1 h1_0 h1_f1 j9_h1_f2 j9_h1_f3 h1_0 h1_0k h1_0c h0 h0_0 j9_h0_f1 h0_2 h0_0 h0_0k j9_h0_0c)) (hS : va_S A s.heap H locs) (hl : lv_has ls 7 [(6, .int j9_l6), (5, .int j9_l5), (4, .int j9_l4), (0, .ref h0), (1, .ref h1), (2, .int 4), (3, .int 0)]), G H locs (F0 m 40 ls [.int 4, .ref h1, .ref h0]) := by
        as_aux_lemma =>
        intro g_h0_f1 g_h1_f1 g_h1_f2 g_h1_f3 g_j9_h0_f1 g_j9_h1_f2 g_j9_h1_f3 g_j9_l4 g_j9_l5 g_j9_l6 hEX H locs ls hP hD hS hl
        refine hG _ _ _ ?_
        refine lv_iconst (v := 0) hx hb dX4_readCondition_40 kc_iconst_0 ?_
        exact hU _ _ _ (J41 g_h0_f1 g_h1_f1 g_h1_f2 g_h1_f3 g_j9_h0_f1 g_j9_h1_f2 g_j9_h1_f3 g_j9_l4 g_j9_l5 g_j9_l6 hEX _ _ _ hP hD hS (lv_sub hl [0, 1, 2, 3, 4, 5, 6] rfl))
      refine hG _ _ _ ?_
      replace hEX := hEX.trans (if_pos (rfl : j9_l6 = j9_l6))
      refine lv_iload hx hb dX4_readCondition_9 (lv_at hl 0 rfl) ?_
      refine lv_sipush (v := 240) hx hb dX4_readCondition_11 kc_sipush_240 ?_
      refine lv_icmp_ge (tgt := 99) hx hb dX4_readCondition_14 rfl (fun c_56 => ?_) (fun c_56 => ?_)
      · replace hEX := hEX.trans (if_pos c_56)
        have g_57 : RG j9_l6 240 240 := RG_le2 (RG_k 240 240 rfl) g_j9_l6 c_56 (by decide +kernel)
        have hK9 := hK.sub (tys' := []) [] rfl
        exact W.vret hx hb hr (fun t ht hW => ⟨⟨(j9_h1_f2, j9_h1_f3, j9_h0_f1, j9_h0_0c), rfl, ⟨g_j9_h1_f2, g_j9_h1_f3, g_j9_h0_f1, (hR.trans hEX).symm⟩, by rw [ht]; exact hP, va_K.moved hW.alike hK9, hD⟩, hS.F ht⟩) hS.2.2 dX4_readCondition_99
      · replace hEX := hEX.trans (if_neg c_56)
        have d_58 := Int32.not_le.mp c_56
        have g_59 : RG j9_l6 0 239 := RG_lt1 g_j9_l6 (RG_k 240 240 rfl) d_58 (by decide +kernel)
        refine lv_aload_n hx hb dX4_readCondition_17 rfl (lv_at hl 4 rfl) ?_
        as_aux_lemma =>
        obtain ⟨hPc, hDc, hFc, hqc⟩ := cl_cut (wc := (wd_c_X9_isRight h1 h1_0 h1_f1 j9_h1_f2 j9_h1_f3)) hP hD hS hA [0] (by decide +kernel) rfl
        have hKc := hK.sub (tys' := []) [] rfl
        have hrv := va_recv hKc hPc (ci := 9) (q0 := 0) rfl rfl
        refine va_calli (va_runV (As := []) (rest := []) ⟨hx, hb, hml, hown, hts⟩ (c_X9_isRight l dC dI H.size h1 h1_0 h1_f1 j9_h1_f2 j9_h1_f3 g_h1_f1 g_j9_h1_f2 g_j9_h1_f3) (cwV 0 hts gf_c_X4_readCondition_4_c_X9_isRight rfl rfl rfl mdV_X9_isRight ⟨Nat.le_of_ble_eq_true rfl, Nat.le_of_ble_eq_true rfl⟩) ⟨fun a U g mk q => by obtain ⟨q0, q1, qP, qK, qD⟩ := q; exact ⟨q0, q1, qP, va_K.moved (u := U) (U := U.calling g mk a) (Vm.Alike.refl U.vm) qK, qD⟩, hrv, fun U hU hW => ⟨rfl, by rw [hU], by rw [hU]; exact hPc, va_K.moved hW.alike hKc, hDc.weaken (fun _ _ _ _ => trivial)⟩⟩ rfl rfl hl.1 rfl (lv_room (Nat.le_of_ble_eq_true rfl)) dX4_readCondition_18 ⟨Nat.le_of_ble_eq_true rfl, Nat.le_of_ble_eq_true rfl⟩) hS (fun q _ h => hFc q h) hFc (fun r_60 u t H1 locs ht hvm hw hB hz1 hk1 hS => ?_)
        obtain ⟨hP1, hK1, hD1⟩ := hB
        rw [ht] at hP1
        obtain ⟨hP, hD⟩ := cl_put (w1 := (wd_c_X9_isRight h1 h1_0 h1_f1 j9_h1_f2 j9_h1_f3)) (nw := (wd_c_X4_readCondition_4 h1 h1_0 h1_f1 j9_h1_f2 j9_h1_f3 h1_0 h1_0k h1_0c h0 h0_0 j9_h0_f1 h0_2 h0_0 h0_0k j9_h0_0c)) hP hD [0] [4, 1, 2, 3] 4 rfl hqc (by decide +kernel) rfl hk1 hFc hP1 hD1
        generalize H1 = H at hP hS ⊢
        as_aux_lemma =>
        rcases hw with ⟨h_61, h_62, h_63⟩ | ⟨h_64, h_65, h_66⟩
        · have h_63 : r_60 = _ := h_63
          replace hEX := hEX.trans (exc1_eq h_63)
          replace hEX := hEX.trans (if_pos (show r_60 = 0 from h_61))
          rw [h_61]
          refine lv_if_eq (tgt := 99) hx hb dX4_readCondition_21 rfl (fun c_67 => ?_) (fun c_67 => absurd c_67 (by decide +kernel))
          have hK9 := hK.sub (tys' := []) [] rfl
          exact W.vret hx hb hr (fun t ht hW => ⟨⟨(j9_h1_f2, j9_h1_f3, j9_h0_f1, j9_h0_0c), rfl, ⟨g_j9_h1_f2, (RG_w h_62 (by decide +kernel)), g_j9_h0_f1, (hR.trans hEX).symm⟩, by rw [ht]; exact hP, va_K.moved hW.alike hK9, hD⟩, hS.F ht⟩) hS.2.2 dX4_readCondition_99
        · have h_66 : r_60 = _ := h_66
          replace hEX := hEX.trans (exc1_eq h_66)
          replace hEX := hEX.trans (if_neg (fun q9 : r_60 = 0 => absurd ((show r_60 = 1 from h_64).symm.trans q9) (by decide +kernel)))
          rw [h_64]
          refine lv_if_eq (tgt := 99) hx hb dX4_readCondition_21 rfl (fun c_68 => absurd c_68 (by decide +kernel)) (fun c_68 => ?_)
          refine lv_aload_n hx hb dX4_readCondition_24 rfl (lv_at hl 3 rfl) ?_
          as_aux_lemma =>
          refine lv_aload_n hx hb dX4_readCondition_25 rfl (lv_at hl 4 rfl) ?_
          refine lv_iload_n hx hb dX4_readCondition_26 rfl (lv_at hl 5 rfl) ?_
          refine lv_iload_n hx hb dX4_readCondition_27 rfl (lv_at hl 6 rfl) ?_
          refine lv_if_eq (tgt := 40) hx hb dX4_readCondition_28 rfl (fun c_69 => ?_) (fun c_69 => absurd c_69 (by decide +kernel))
          exact hU _ _ _ (J40 g_h0_f1 g_h1_f1 g_h1_f2 g_h1_f3 g_j9_h0_f1 g_j9_h1_f2 h_65 g_j9_l4 g_j9_l5 g_59 hEX _ _ _ hP hD hS (lv_sub hl [0, 1, 2, 3, 4, 5, 6] rfl))
  refine hG _ _ _ ?_
  refine lv_iconst (v := 0) hx hb dX4_readCondition_0 kc_iconst_0 ?_
  refine lv_istore (lv' := [(4, .int 0), (0, .ref h0), (1, .ref h1), (2, .int 4), (3, .int 0)]) hx hb dX4_readCondition_1 hl (Nat.le_of_ble_eq_true rfl) rfl (fun ls hl => ?_)
  refine lv_iconst (v := 0) hx hb dX4_readCondition_3 kc_iconst_0 ?_
  refine lv_istore (lv' := [(5, .int 0), (4, .int 0), (0, .ref h0), (1, .ref h1), (2, .int 4), (3, .int 0)]) hx hb dX4_readCondition_4 hl (Nat.le_of_ble_eq_true rfl) rfl (fun ls hl => ?_)
  refine lv_iconst (v := 0) hx hb dX4_readCondition_6 kc_iconst_0 ?_
  refine lv_istore (lv' := [(6, .int 0), (5, .int 0), (4, .int 0), (0, .ref h0), (1, .ref h1), (2, .int 4), (3, .int 0)]) hx hb dX4_readCondition_7 hl (Nat.le_of_ble_eq_true rfl) rfl (fun ls hl => ?_)
  exact hU _ _ _ (J9 exF 0 0 0 h1_f2 h1_f3 h0_f1 h0_0c MU_F g_h0_f1 g_h1_f1 g_h1_f2 g_h1_f3 g_h0_f1 g_h1_f2 g_h1_f3 (RG_w (RG_k 0 0 rfl) (by decide +kernel)) (RG_w (RG_k 0 0 rfl) (by decide +kernel)) (RG_w (RG_k 0 0 rfl) (by decide +kernel)) hEX _ _ _ hP hD hS (lv_sub hl [0, 1, 2, 3, 4, 5, 6] rfl))
noncomputable def wd_c_X4_readUnit_4 (a0 : Nat) (a1 : Nat) (a2 : Int32) (a3 : Int32) (a4 : Int32) (a5 : Nat) (a6 : ClassId) (a7 : Nat → Int32) (a8 : Nat) (a9 : Nat) (a10 : Int32) (a11 : Nat) (a12 : Nat) (a13 : ClassId) (a14 : Nat → Int32) : va_W := [(a0, .inr (9, [.ref a1, .int a2, .int a3, .int a4])), (a5, .inl (a6, 240, .inl a7)), (a8, .inr (4, [.ref a9, .int a10, .ref a11])), (a12, .inl (a13, 240, .inl a14))]
noncomputable def wf_c_X4_readUnit_4 : List Cond := List.cons (.code yX4_readUnit cX4_readUnit 5 none) (@HAppend.hAppend (List Cond) (List Cond) (List Cond) _ (@HAppend.hAppend (List Cond) (List Cond) (List Cond) _ [.methodLink RX4 41 yX9_peek, .instanceMethod yX9_peek, .selects RX9 yX9_peek yX9_peek, .initialized RX9, .code yX9_peek cX9_peek 1 (some .int), .fieldLink RX9 22 "BuoyVote$Tape" "at" "I", .fieldLink RX9 19 "BuoyVote$Tape" "length" "I", .fieldLink RX9 11 "BuoyVote$Tape" "bytes" "[I", .methodLink RX4 45 yX4_startsUnit, .static yX4_startsUnit, .initialized RX4, .code yX4_startsUnit cX4_startsUnit 1 (some .boolean), .methodLink RX4 63 yX9_take, .instanceMethod yX9_take, .selects RX9 yX9_take yX9_take, .code yX9_take cX9_take 2 (some .boolean), .fieldLink RX9 15 "BuoyVote$Tape" "wrong" "I", .methodLink RX9 29 yX9_peek, .methodLink RX4 37 yX9_expect, .instanceMethod yX9_expect, .selects RX9 yX9_expect yX9_expect, .code yX9_expect cX9_expect 2 none, .methodLink RX9 25 yX9_refuse, .instanceMethod yX9_refuse, .selects RX9 yX9_refuse yX9_refuse, .code yX9_refuse cX9_refuse 2 none, .methodLink RX4 56 yX4_readCondition, .instanceMethod yX4_readCondition, .selects RX4 yX4_readCondition yX4_readCondition, .code yX4_readCondition cX4_readCondition 7 none, .methodLink RX4 72 yX9_isRight, .instanceMethod yX9_isRight, .selects RX9 yX9_isRight yX9_isRight, .code yX9_isRight cX9_isRight 1 (some .boolean), .methodLink RX4 76 yX4_readUnit, .instanceMethod yX4_readUnit, .selects RX4 yX4_readUnit yX4_readUnit, .methodLink RX4 82 yX9_refuseHere, .instanceMethod yX9_refuseHere, .selects RX9 yX9_refuseHere yX9_refuseHere, .code yX9_refuseHere cX9_refuseHere 1 none, .methodLink RX4 49 yX4_readSum, .instanceMethod yX4_readSum, .selects RX4 yX4_readSum yX4_readSum, .code yX4_readSum cX4_readSum 6 none, .methodLink RX4 85 yX4_readAtom, .instanceMethod yX4_readAtom, .selects RX4 yX4_readAtom yX4_readAtom, .code yX4_readAtom cX4_readAtom 6 none, .methodLink RX4 93 yJ0_indexOf_0f7a4, .instanceMethod yJ0_indexOf_0f7a4, .selects RJ0 yJ0_indexOf_0f7a4 yJ0_indexOf_0f7a4, .initialized RJ0, .code yJ0_indexOf_0f7a4 cJ0_indexOf_0f7a4 2 (some .int), .methodLink RJ0 633 yJ0_indexOf_7cf53, .instanceMethod yJ0_indexOf_7cf53, .selects RJ0 yJ0_indexOf_7cf53 yJ0_indexOf_7cf53, .code yJ0_indexOf_7cf53 cJ0_indexOf_7cf53 3 (some .int), .methodLink RJ0 492 yJ0_isLatin1_aae02, .instanceMethod yJ0_isLatin1_aae02, .selects RJ0 yJ0_isLatin1_aae02 yJ0_isLatin1_aae02, .code yJ0_isLatin1_aae02 cJ0_isLatin1_aae02 1 (some .boolean), .fieldLink RJ0 38 "java/lang/String" "COMPACT_STRINGS" "Z", .fieldLink RJ0 15 "java/lang/String" "coder" "B", .fieldLink RJ0 9 "java/lang/String" "value" "[B", .methodLink RJ0 505 yJ0_length_8abf5, .instanceMethod yJ0_length_8abf5, .selects RJ0 yJ0_length_8abf5 yJ0_length_8abf5, .code yJ0_length_8abf5 cJ0_length_8abf5 1 (some .int), .methodLink RJ0 335 yJ0_coder_7d493, .instanceMethod yJ0_coder_7d493, .selects RJ0 yJ0_coder_7d493 yJ0_coder_7d493, .code yJ0_coder_7d493 cJ0_coder_7d493 1 (some .byte), .methodLink RJ0 637 yJ1_indexOf_4cfef, .static yJ1_indexOf_4cfef, .initialized RJ1, .code yJ1_indexOf_4cfef cJ1_indexOf_4cfef 4 (some .int), .methodLink RJ1 88 yJ1_canEncode_9a6ad, .static yJ1_canEncode_9a6ad, .code yJ1_canEncode_9a6ad cJ1_canEncode_9a6ad 1 (some .boolean), .methodLink RJ1 92 Lib.Math.max.name, .static Lib.Math.max.name, .initialized "java/lang/Math", .code Lib.Math.max.name Lib.Math.max.code 2 (some .int), .methodLink RJ1 38 Lib.Math.min.name, .static Lib.Math.min.name, .code Lib.Math.min.name Lib.Math.min.code 2 (some .int), .methodLink RJ1 95 yJ1_indexOfChar_4cfef, .static yJ1_indexOfChar_4cfef, .code yJ1_indexOfChar_4cfef cJ1_indexOfChar_4cfef 6 (some .int), .methodLink RX4 99 yX9_number, .instanceMethod yX9_number, .selects RX9 yX9_number yX9_number, .code yX9_number cX9_number 4 (some .int), .methodLink RX4 79 yX9_skip, .instanceMethod yX9_skip, .selects RX9 yX9_skip yX9_skip, .code yX9_skip cX9_skip 1 none, .methodLink RX4 60 yX4_emit, .instanceMethod yX4_emit, .selects RX4 yX4_emit yX4_emit, .code yX4_emit cX4_emit 2 none, .fieldLink RX4 20 "BuoyVote$Law" "length" "I", .fieldLink RX4 11 "BuoyVote$Law" "code" "[I", .methodLink RX4 88 yX9_takeEither, .instanceMethod yX9_takeEither, .selects RX9 yX9_takeEither yX9_takeEither, .code yX9_takeEither cX9_takeEither 4 (some .int), .methodLink RX4 53 yX4_isComparison, .static yX4_isComparison, .code yX4_isComparison cX4_isComparison 1 (some .boolean)] wsX90) wsX40)
theorem iw_c_X4_readUnit_4_X9 : ∀ w ∈ wsX90, w ∈ wf_c_X4_readUnit_4 := fun w h => List.mem_cons_of_mem _ (List.mem_append_left _ (List.mem_append_right _ h))
theorem iw_c_X4_readUnit_4_X4 : ∀ w ∈ wsX40, w ∈ wf_c_X4_readUnit_4 := fun w h => List.mem_cons_of_mem _ (List.mem_append_right _ h)
set_option maxRecDepth 20000 in
theorem gf_c_X4_readUnit_4_c_X9_peek : GoodIn wf_c_X4_readUnit_4 (wsV RX4 41 RX9 yX9_peek wf_c_X9_peek) := goodIn_app (gi_l [1, 2, 3, 4] rfl rfl) (gi_cons (j := 5) rfl rfl (goodIn_app (gi_l [6, 7, 8] rfl rfl) (goodIn_sub iw_c_X4_readUnit_4_X9 gw_X9)))
set_option maxRecDepth 20000 in
theorem gf_c_X4_readUnit_4_c_X4_isComparison : GoodIn wf_c_X4_readUnit_4 (va_wsS RX4 53 yX4_isComparison wf_c_X4_isComparison) := goodIn_app (gi_l [109, 110, 11] rfl rfl) (gi_cons (j := 111) rfl rfl gi_nil)
set_option maxRecDepth 20000 in
theorem gf_c_X4_readUnit_4_c_X9_refuseHere : GoodIn wf_c_X4_readUnit_4 (wsV RX4 82 RX9 yX9_refuseHere wf_c_X9_refuseHere) := goodIn_app (gi_l [38, 39, 40, 4] rfl rfl) (gi_cons (j := 41) rfl rfl (goodIn_app (gi_l [6, 23, 24, 25, 4, 26, 17] rfl rfl) (goodIn_sub iw_c_X4_readUnit_4_X9 gw_X9)))
set_option maxRecDepth 20000 in
theorem gf_c_X4_readUnit_4_c_X4_isComparison_1 : GoodIn wf_c_X4_readUnit_4 (va_wsS RX4 53 yX4_isComparison wf_c_X4_isComparison_1) := goodIn_app (gi_l [109, 110, 11] rfl rfl) (gi_cons (j := 111) rfl rfl gi_nil)
set_option maxRecDepth 20000 in
theorem gf_c_X4_readUnit_4_c_X9_skip : GoodIn wf_c_X4_readUnit_4 (wsV RX4 79 RX9 yX9_skip wf_c_X9_skip) := goodIn_app (gi_l [95, 96, 97, 4] rfl rfl) (gi_cons (j := 98) rfl rfl (goodIn_app (gi_l [6] rfl rfl) (goodIn_sub iw_c_X4_readUnit_4_X9 gw_X9)))
set_option maxRecDepth 20000 in
theorem gf_c_X4_readUnit_4_c_X4_readSum_3 : GoodIn wf_c_X4_readUnit_4 (wsV RX4 49 RX4 yX4_readSum wf_c_X4_readSum_3) := goodIn_app (gi_l [42, 43, 44, 11] rfl rfl) (gi_cons (j := 45) rfl rfl (goodIn_app (goodIn_app (gi_l [31, 32, 33, 4, 34, 17, 46, 47, 48, 11, 49, 1, 2, 3, 5, 6, 7, 8, 50, 51, 52, 53, 54, 55, 56, 57, 58, 59, 60, 61, 62, 63, 64, 65, 66, 67, 68, 69, 70, 71, 72, 73, 74, 75, 76, 77, 78, 79, 80, 81, 82, 83, 84, 85, 86, 87, 88, 89, 90, 91, 92, 93, 94, 38, 39, 40, 41, 23, 24, 25, 26, 95, 96, 97, 98, 42, 43, 44, 99, 100, 101, 102, 103, 104, 105, 106, 107, 108, 18, 19, 20, 21, 22] rfl rfl) (goodIn_sub iw_c_X4_readUnit_4_X9 gw_X9)) (goodIn_sub iw_c_X4_readUnit_4_X4 gw_X4)))
set_option maxRecDepth 20000 in
theorem gf_c_X4_readUnit_4_c_X4_emit : GoodIn wf_c_X4_readUnit_4 (wsV RX4 60 RX4 yX4_emit wf_c_X4_emit) := goodIn_app (gi_l [99, 100, 101, 11] rfl rfl) (gi_cons (j := 102) rfl rfl (goodIn_app (gi_l [103, 104] rfl rfl) (goodIn_sub iw_c_X4_readUnit_4_X4 gw_X4)))
set_option maxRecDepth 20000 in
theorem gf_c_X4_readUnit_4_c_X4_startsUnit : GoodIn wf_c_X4_readUnit_4 (va_wsS RX4 45 yX4_startsUnit wf_c_X4_startsUnit) := goodIn_app (gi_l [9, 10, 11] rfl rfl) (gi_cons (j := 12) rfl rfl gi_nil)
set_option maxRecDepth 20000 in
theorem gf_c_X4_readUnit_4_c_X4_startsUnit_1 : GoodIn wf_c_X4_readUnit_4 (va_wsS RX4 45 yX4_startsUnit wf_c_X4_startsUnit_1) := goodIn_app (gi_l [9, 10, 11] rfl rfl) (gi_cons (j := 12) rfl rfl gi_nil)
set_option maxRecDepth 20000 in
theorem gf_c_X4_readUnit_4_c_X9_take : GoodIn wf_c_X4_readUnit_4 (wsV RX4 63 RX9 yX9_take wf_c_X9_take) := goodIn_app (gi_l [13, 14, 15, 4] rfl rfl) (gi_cons (j := 16) rfl rfl (goodIn_app (gi_l [17, 18, 2, 3, 4, 5, 6, 7, 8] rfl rfl) (goodIn_sub iw_c_X4_readUnit_4_X9 gw_X9)))
set_option maxRecDepth 20000 in
theorem gf_c_X4_readUnit_4_c_X9_expect_1 : GoodIn wf_c_X4_readUnit_4 (wsV RX4 37 RX9 yX9_expect wf_c_X9_expect_1) := goodIn_app (gi_l [19, 20, 21, 4] rfl rfl) (gi_cons (j := 22) rfl rfl (goodIn_app (gi_l [17, 18, 2, 3, 4, 5, 6, 7, 8, 23, 24, 25, 26] rfl rfl) (goodIn_sub iw_c_X4_readUnit_4_X9 gw_X9)))
set_option maxRecDepth 20000 in
theorem gf_c_X4_readUnit_4_c_X4_readCondition_4 : GoodIn wf_c_X4_readUnit_4 (wsV RX4 56 RX4 yX4_readCondition wf_c_X4_readCondition_4) := goodIn_app (gi_l [27, 28, 29, 11] rfl rfl) (gi_cons (j := 30) rfl rfl (goodIn_app (goodIn_app (gi_l [31, 32, 33, 4, 34, 17, 35, 36, 37, 11, 0, 1, 2, 3, 5, 6, 7, 8, 9, 10, 12, 13, 14, 15, 16, 18, 19, 20, 21, 22, 23, 24, 25, 26, 27, 28, 29, 38, 39, 40, 41, 42, 43, 44, 45, 46, 47, 48, 49, 50, 51, 52, 53, 54, 55, 56, 57, 58, 59, 60, 61, 62, 63, 64, 65, 66, 67, 68, 69, 70, 71, 72, 73, 74, 75, 76, 77, 78, 79, 80, 81, 82, 83, 84, 85, 86, 87, 88, 89, 90, 91, 92, 93, 94, 95, 96, 97, 98, 99, 100, 101, 102, 103, 104, 105, 106, 107, 108, 109, 110, 111] rfl rfl) (goodIn_sub iw_c_X4_readUnit_4_X9 gw_X9)) (goodIn_sub iw_c_X4_readUnit_4_X4 gw_X4)))
set_option maxRecDepth 20000 in
theorem gf_c_X4_readUnit_4_c_X4_readUnit_5 : GoodIn wf_c_X4_readUnit_4 (wsV RX4 76 RX4 yX4_readUnit wf_c_X4_readUnit_5) := goodIn_app (gi_l [35, 36, 37, 11] rfl rfl) (gi_cons (j := 0) rfl rfl (goodIn_app (goodIn_app (gi_l [1, 2, 3, 4, 5, 6, 7, 8, 9, 10, 11, 12, 13, 14, 15, 16, 17, 18, 19, 20, 21, 22, 23, 24, 25, 26, 27, 28, 29, 30, 31, 32, 33, 34, 35, 36, 37, 38, 39, 40, 41, 42, 43, 44, 45, 46, 47, 48, 49, 50, 51, 52, 53, 54, 55, 56, 57, 58, 59, 60, 61, 62, 63, 64, 65, 66, 67, 68, 69, 70, 71, 72, 73, 74, 75, 76, 77, 78, 79, 80, 81, 82, 83, 84, 85, 86, 87, 88, 89, 90, 91, 92, 93, 94, 95, 96, 97, 98, 99, 100, 101, 102, 103, 104, 105, 106, 107, 108, 109, 110, 111] rfl rfl) (goodIn_sub iw_c_X4_readUnit_4_X9 gw_X9)) (goodIn_sub iw_c_X4_readUnit_4_X4 gw_X4)))
set_option maxHeartbeats 4000000 in
set_option maxRecDepth 100000 in
theorem c_X4_readUnit_4 (l : Launch) (dC : Nat → ClassId) (dI : Nat → Nat → Nat) (sz : Nat) (h0 : Nat) (h1 : Nat) (h1_0 : Nat) (h1_f1 : Int32) (h1_f2 : Int32) (h1_f3 : Int32) (h1_0k : ClassId) (h1_0c : Nat → Int32) (h0_0 : Nat) (h0_f1 : Int32) (h0_2 : Nat) (h0_0k : ClassId) (h0_0c : Nat → Int32) (ts4 : Nat) (tv4 : Nat) (g_h1_f1 : RG h1_f1 0 240) (g_h1_f2 : RG h1_f2 0 240) (g_h1_f3 : RG h1_f3 (-1) 240) (a_h1_0c : AI h1_0c 0 255) (g_h0_f1 : RG h0_f1 0 240) : Met l yX4_readUnit wf_c_X4_readUnit_4 ({ frames := 12, cells := 0, slots := 0, locals := 291 }) (va_Pc [.ref h0, .ref h1, .int 3, .int 0] (fun U => U.heap.size = sz ∧ va_P (dC, dI) vwCl (wd_c_X4_readUnit_4 h1 h1_0 h1_f1 h1_f2 h1_f3 h1_0 h1_0k h1_0c h0 h0_0 h0_f1 h0_2 h0_0 h0_0k h0_0c) U.heap ∧ va_K (dC, dI) vwCl [(h1_0k, .int), (h0_0k, .int)] U ∧ va_D (fun _ => True) (wd_c_X4_readUnit_4 h1 h1_0 h1_f1 h1_f2 h1_f3 h1_0 h1_0k h1_0c h0 h0_0 h0_f1 h0_2 h0_0 h0_0k h0_0c) ∧ vk_R RX4 91 "vlrdph" ts4 U ∧ va_Z "java/lang/String" "COMPACT_STRINGS" "Z" (.int 1) (va_A (wd_c_X4_readUnit_4 h1 h1_0 h1_f1 h1_f2 h1_f3 h1_0 h1_0k h1_0c h0 h0_0 h0_f1 h0_2 h0_0 h0_0k h0_0c) sz) U U.heap ∧ va_OF "java/lang/String" "coder" "B" (.int 0) ts4 (va_A (wd_c_X4_readUnit_4 h1 h1_0 h1_f1 h1_f2 h1_f3 h1_0 h1_0k h1_0c h0 h0_0 h0_f1 h0_2 h0_0 h0_0k h0_0c) sz) U U.heap ∧ va_O "java/lang/String" ts4 (va_A (wd_c_X4_readUnit_4 h1 h1_0 h1_f1 h1_f2 h1_f3 h1_0 h1_0k h1_0c h0 h0_0 h0_f1 h0_2 h0_0 h0_0k h0_0c) sz) U U.heap ∧ va_OF "java/lang/String" "value" "[B" (.ref tv4) ts4 (va_A (wd_c_X4_readUnit_4 h1 h1_0 h1_f1 h1_f2 h1_f3 h1_0 h1_0k h1_0c h0 h0_0 h0_f1 h0_2 h0_0 h0_0k h0_0c) sz) U U.heap ∧ va_T .byte tv4 6 (fun j => .int ([118, 108, 114, 100, 112, 104].getD j 0)) (va_A (wd_c_X4_readUnit_4 h1 h1_0 h1_f1 h1_f2 h1_f3 h1_0 h1_0k h1_0c h0 h0_0 h0_f1 h0_2 h0_0 h0_0k h0_0c) sz) U U.heap)) (va_Qv (fun (u : (Int32) × (Int32) × (Int32) × (Nat → Int32)) => (RG u.1 0 240 ∧ RG u.2.1 (-1) 240 ∧ RG u.2.2.1 0 240 ∧ (u.1, u.2.1, u.2.2.1, u.2.2.2) = fx_c_X4_readUnit_4 h1_f1 h1_f2 h1_f3 h1_0c h0_f1 h0_0c)) (fun (u : (Int32) × (Int32) × (Int32) × (Nat → Int32)) t => va_P (dC, dI) vwCl (wd_c_X4_readUnit_4 h1 h1_0 h1_f1 (u.1) (u.2.1) h1_0 h1_0k h1_0c h0 h0_0 (u.2.2.1) h0_2 h0_0 h0_0k (u.2.2.2)) t.heap ∧ va_K (dC, dI) vwCl [] t ∧ va_D (va_A (wd_c_X4_readUnit_4 h1 h1_0 h1_f1 h1_f2 h1_f3 h1_0 h1_0k h1_0c h0 h0_0 h0_f1 h0_2 h0_0 h0_0k h0_0c) sz) (wd_c_X4_readUnit_4 h1 h1_0 h1_f1 (u.1) (u.2.1) h1_0 h1_0k h1_0c h0 h0_0 (u.2.2.1) h0_2 h0_0 h0_0k (u.2.2.2))) (va_A (wd_c_X4_readUnit_4 h1 h1_0 h1_f1 h1_f2 h1_f3 h1_0 h1_0k h1_0c h0 h0_0 h0_f1 h0_2 h0_0 h0_0k h0_0c) sz)) 0 0 (va_A (wd_c_X4_readUnit_4 h1 h1_0 h1_f1 h1_f2 h1_f3 h1_0 h1_0k h1_0c h0 h0_0 h0_f1 h0_2 h0_0 h0_0k h0_0c) sz) := by
  refine Met.ofW (cc := cX4_readUnit) (maxL := 5) (ret := none) (by decide +kernel) rfl ?_
  intro p e s m args below meth c s₁ B hml hv
  obtain ⟨rfl, hsz, hP, hK, hD0, hE_32, hE_10, hE_34, hE_33, hE_35, hE_36⟩ := hv
  have hx := B.exec
  have hb := B.bytes
  have hr := B.returns
  have hts := atoms_spec (ws := wf_c_X4_readUnit_4) B.pre
  have hown : s.vm.findClass RX4 = some m.cls := findClass_of_methodNamed B.named
  have hlocks := B.notSynchronized
  subst hsz
  have hD := hD0.self (sz := s.heap.size)
  generalize hAe : va_A (wd_c_X4_readUnit_4 h1 h1_0 h1_f1 h1_f2 h1_f3 h1_0 h1_0k h1_0c h0 h0_0 h0_f1 h0_2 h0_0 h0_0k h0_0c) s.heap.size = A at hD hE_10 hE_34 hE_33 hE_35 hE_36 ⊢
  have hA : ∀ q : Nat, s.heap.size ≤ q → A q := fun q h => by rw [← hAe]; exact Or.inr h
  have hP : va_P (dC, dI) vwCl (wd_c_X4_readUnit_4 h1 h1_0 h1_f1 h1_f2 h1_f3 h1_0 h1_0k h1_0c h0 h0_0 h0_f1 h0_2 h0_0 h0_0k h0_0c) s.heap := hP
  have hl := lv_entry ([.ref h0, .ref h1, .int 3, .int 0]) (n := 5) (Nat.le_of_ble_eq_true rfl)
  rw [lg_entry_eq]
  generalize (lg_sl ([.ref h0, .ref h1, .int 3, .int 0]) ++ List.replicate (5 - (lg_sl ([.ref h0, .ref h1, .int 3, .int 0])).length) Slot.unset).toArray = ls at hl ⊢
  have hl : lv_has ls 5 [(0, .ref h0), (1, .ref h1), (2, .int 3), (3, .int 0)] := hl
  obtain ⟨H, hHe⟩ : ∃ H : Heap, s.heap = H := ⟨_, rfl⟩
  have hS : va_S A s.heap H [] := by rw [hHe]; exact va_S.rf
  have hP : va_P (dC, dI) vwCl (wd_c_X4_readUnit_4 h1 h1_0 h1_f1 h1_f2 h1_f3 h1_0 h1_0k h1_0c h0 h0_0 h0_f1 h0_2 h0_0 h0_0k h0_0c) H := by rw [← hHe]; exact hP
  rw [hHe]
  obtain ⟨RES, hR⟩ : ∃ z, fx_c_X4_readUnit_4 h1_f1 h1_f2 h1_f3 h1_0c h0_f1 h0_0c = z := ⟨_, rfl⟩
  have hEX : RES = fx_c_X4_readUnit_4 h1_f1 h1_f2 h1_f3 h1_0c h0_f1 h0_0c := hR.symm
  refine wj (fun G hG hU => ?_)
  as_aux_lemma =>
  have J62 : ∀ (j62_h1_f2 : Int32) (j62_h1_f3 : Int32) (j62_h0_f1 : Int32) (j62_h0_0c : Nat → Int32) (g_h0_f1 : RG h0_f1 0 240) (g_h1_f1 : RG h1_f1 0 240) (g_h1_f2 : RG h1_f2 0 240) (g_h1_f3 : RG h1_f3 (-1) 240) (g_j62_h0_f1 : RG j62_h0_f1 0 240) (g_j62_h1_f2 : RG j62_h1_f2 0 240) (g_j62_h1_f3 : RG j62_h1_f3 (-1) 240) (hEX : RES = fx_c_X4_readUnit_4_p62 j62_h1_f2 j62_h1_f3 j62_h0_f1 j62_h0_0c) (H : Heap) (locs : List Loc) (ls : Array Slot) (hP : va_P (dC, dI) vwCl (wd_c_X4_readUnit_4 h1 h1_0 h1_f1 j62_h1_f2 j62_h1_f3 h1_0 h1_0k h1_0c h0 h0_0 j62_h0_f1 h0_2 h0_0 h0_0k j62_h0_0c) H) (hD : va_D A (wd_c_X4_readUnit_4 h1 h1_0 h1_f1 j62_h1_f2 j62_h1_f3 h1_0 h1_0k h1_0c h0 h0_0 j62_h0_f1 h0_2 h0_0 h0_0k j62_h0_0c)) (hS : va_S A s.heap H locs) (hl : lv_has ls 5 []), G H locs (F0 m 62 ls []) := by
    as_aux_lemma =>
    intro j62_h1_f2 j62_h1_f3 j62_h0_f1 j62_h0_0c g_h0_f1 g_h1_f1 g_h1_f2 g_h1_f3 g_j62_h0_f1 g_j62_h1_f2 g_j62_h1_f3 hEX H locs ls hP hD hS hl
    refine hG _ _ _ ?_
    refine lv_goto (tgt := 126) hx hb dX4_readUnit_62 rfl ?_
    have hK9 := hK.sub (tys' := []) [] rfl
    exact W.vret hx hb hr (fun t ht hW => ⟨⟨(j62_h1_f2, j62_h1_f3, j62_h0_f1, j62_h0_0c), rfl, ⟨g_j62_h1_f2, g_j62_h1_f3, g_j62_h0_f1, (hR.trans hEX).symm⟩, by rw [ht]; exact hP, va_K.moved hW.alike hK9, hD⟩, hS.F ht⟩) hS.2.2 dX4_readUnit_126
  have J24 : ∀ (j24_h1_f2 : Int32) (j24_h1_f3 : Int32) (j24_h0_f1 : Int32) (j24_h0_0c : Nat → Int32) (g_h0_f1 : RG h0_f1 0 240) (g_h1_f1 : RG h1_f1 0 240) (g_h1_f2 : RG h1_f2 0 240) (g_h1_f3 : RG h1_f3 (-1) 240) (g_j24_h0_f1 : RG j24_h0_f1 0 240) (g_j24_h1_f2 : RG j24_h1_f2 0 240) (g_j24_h1_f3 : RG j24_h1_f3 (-1) 240) (hEX : RES = fx_c_X4_readUnit_4_p24 h1_f1 h1_0c j24_h1_f2 j24_h1_f3 j24_h0_f1 j24_h0_0c) (H : Heap) (locs : List Loc) (ls : Array Slot) (hP : va_P (dC, dI) vwCl (wd_c_X4_readUnit_4 h1 h1_0 h1_f1 j24_h1_f2 j24_h1_f3 h1_0 h1_0k h1_0c h0 h0_0 j24_h0_f1 h0_2 h0_0 h0_0k j24_h0_0c) H) (hD : va_D A (wd_c_X4_readUnit_4 h1 h1_0 h1_f1 j24_h1_f2 j24_h1_f3 h1_0 h1_0k h1_0c h0 h0_0 j24_h0_f1 h0_2 h0_0 h0_0k j24_h0_0c)) (hS : va_S A s.heap H locs) (hl : lv_has ls 5 [(0, .ref h0), (1, .ref h1), (2, .int 3)]), G H locs (F0 m 24 ls []) := by
    as_aux_lemma =>
    intro j24_h1_f2 j24_h1_f3 j24_h0_f1 j24_h0_0c g_h0_f1 g_h1_f1 g_h1_f2 g_h1_f3 g_j24_h0_f1 g_j24_h1_f2 g_j24_h1_f3 hEX H locs ls hP hD hS hl
    refine hG _ _ _ ?_
    refine lv_aload_n hx hb dX4_readUnit_24 rfl (lv_at hl 1 rfl) ?_
    obtain ⟨hPc, hDc, hFc, hqc⟩ := cl_cut (wc := (wd_c_X9_peek h1 h1_0 h1_f1 j24_h1_f2 j24_h1_f3 h1_0 h1_0k h1_0c)) hP hD hS hA [0, 1] (by decide +kernel) rfl
    have hKc := hK.sub (tys' := [(h1_0k, .int)]) [0] rfl
    have hrv := va_recv hKc hPc (ci := 9) (q0 := 0) rfl rfl
    refine va_calli (va_runV (As := []) (rest := []) ⟨hx, hb, hml, hown, hts⟩ (c_X9_peek l dC dI H.size h1 h1_0 h1_f1 j24_h1_f2 j24_h1_f3 h1_0k h1_0c g_h1_f1 g_j24_h1_f2 g_j24_h1_f3 a_h1_0c) (cwV 0 hts gf_c_X4_readUnit_4_c_X9_peek rfl rfl rfl mdV_X9_peek ⟨Nat.le_of_ble_eq_true rfl, Nat.le_of_ble_eq_true rfl⟩) ⟨fun a U g mk q => by obtain ⟨q0, q1, qP, qK, qD⟩ := q; exact ⟨q0, q1, qP, va_K.moved (u := U) (U := U.calling g mk a) (Vm.Alike.refl U.vm) qK, qD⟩, hrv, fun U hU hW => ⟨rfl, by rw [hU], by rw [hU]; exact hPc, va_K.moved hW.alike hKc, hDc.weaken (fun _ _ _ _ => trivial)⟩⟩ rfl rfl hl.1 rfl (lv_room (Nat.le_of_ble_eq_true rfl)) dX4_readUnit_25 ⟨Nat.le_of_ble_eq_true rfl, Nat.le_of_ble_eq_true rfl⟩) hS (fun q _ h => hFc q h) hFc (fun r_1 x_2 t H1 locs ht hvm hw hB hz1 hk1 hS => ?_)
    obtain ⟨hP1, hK1, hD1⟩ := hB
    rw [ht] at hP1
    obtain ⟨hP, hD⟩ := cl_put (w1 := (wd_c_X9_peek h1 h1_0 h1_f1 x_2 j24_h1_f3 h1_0 h1_0k h1_0c)) (nw := (wd_c_X4_readUnit_4 h1 h1_0 h1_f1 x_2 j24_h1_f3 h1_0 h1_0k h1_0c h0 h0_0 j24_h0_f1 h0_2 h0_0 h0_0k j24_h0_0c)) hP hD [0, 1] [4, 5, 2, 3] 4 rfl hqc (by decide +kernel) rfl hk1 hFc hP1 hD1
    generalize H1 = H at hP hS ⊢
    as_aux_lemma =>
    rcases hw with ⟨h_3, h_4, h_5, h_6⟩ | ⟨h_7, h_8, h_9, h_10, h_11⟩
    · have h_6 : (r_1, x_2) = _ := h_6
      replace hEX := hEX.trans (exc2_eq h_6)
      replace hEX := hEX.trans (if_pos (show r_1 = (-1) from h_3))
      rw [h_3]
      refine lv_istore (lv' := [(4, .int (-1)), (0, .ref h0), (1, .ref h1), (2, .int 3)]) hx hb dX4_readUnit_28 hl (Nat.le_of_ble_eq_true rfl) rfl (fun ls hl => ?_)
      refine lv_iload hx hb dX4_readUnit_30 (lv_at hl 0 rfl) ?_
      obtain ⟨hPc, hDc, hFc, hqc⟩ := cl_cut (wc := []) hP hD hS hA [] (by decide +kernel) rfl
      have hKc := hK.sub (tys' := []) [] rfl
      refine va_calli (va_runS (As := [.int (-1)]) (rest := []) ⟨hx, hb, hml, hown, hts⟩ (c_X4_isComparison l dC dI H.size (-1) (RG_k (-1) (-1) rfl)) (va_cwS 1 hts gf_c_X4_readUnit_4_c_X4_isComparison rfl rfl rfl md_X4_isComparison ⟨Nat.le_of_ble_eq_true rfl, Nat.le_of_ble_eq_true rfl⟩) ⟨fun a U g mk q => by obtain ⟨q0, q1, qP, qK, qD⟩ := q; exact ⟨q0, q1, qP, va_K.moved (u := U) (U := U.calling g mk a) (Vm.Alike.refl U.vm) qK, qD⟩, fun U hU hW => ⟨rfl, by rw [hU], by rw [hU]; exact hPc, va_K.moved hW.alike hKc, hDc.weaken (fun _ _ _ _ => trivial)⟩⟩ rfl rfl hl.1 rfl (lv_room (Nat.le_of_ble_eq_true rfl)) dX4_readUnit_32 ⟨Nat.le_of_ble_eq_true rfl, Nat.le_of_ble_eq_true rfl⟩) hS (fun q _ h => hFc q h) hFc (fun r_12 u t H1 locs ht hvm hw hB hz1 hk1 hS => ?_)
      obtain ⟨hP1, hK1, hD1⟩ := hB
      rw [ht] at hP1
      have hP := bv_still hP hk1
      generalize H1 = H at hP hS ⊢
      as_aux_lemma =>
      rcases hw with ⟨h_13, h_14⟩
      have h_14 : r_12 = _ := h_14
      replace hEX := hEX.trans (exc1_eq h_14)
      rw [h_13]
      refine lv_if_eq (tgt := 58) hx hb dX4_readUnit_35 rfl (fun c_15 => ?_) (fun c_15 => absurd c_15 (by decide +kernel))
      refine lv_aload_n hx hb dX4_readUnit_58 rfl (lv_at hl 2 rfl) ?_
      obtain ⟨hPc, hDc, hFc, hqc⟩ := cl_cut (wc := (wd_c_X9_refuseHere h1 h1_0 h1_f1 x_2 j24_h1_f3)) hP hD hS hA [0] (by decide +kernel) rfl
      have hKc := hK.sub (tys' := []) [] rfl
      have hrv := va_recv hKc hPc (ci := 9) (q0 := 0) rfl rfl
      refine va_callv (va_runV (As := []) (rest := []) ⟨hx, hb, hml, hown, hts⟩ (c_X9_refuseHere l dC dI H.size h1 h1_0 h1_f1 x_2 j24_h1_f3 g_h1_f1 h_4 g_j24_h1_f3) (cwV 0 hts gf_c_X4_readUnit_4_c_X9_refuseHere rfl rfl rfl mdV_X9_refuseHere ⟨Nat.le_of_ble_eq_true rfl, Nat.le_of_ble_eq_true rfl⟩) ⟨fun a U g mk q => by obtain ⟨q0, q1, qP, qK, qD⟩ := q; exact ⟨q0, q1, qP, va_K.moved (u := U) (U := U.calling g mk a) (Vm.Alike.refl U.vm) qK, qD⟩, hrv, fun U hU hW => ⟨rfl, by rw [hU], by rw [hU]; exact hPc, va_K.moved hW.alike hKc, hDc.weaken (fun _ _ _ _ => trivial)⟩⟩ rfl rfl hl.1 rfl (lv_room (Nat.le_of_ble_eq_true rfl)) dX4_readUnit_59 ⟨Nat.le_of_ble_eq_true rfl, Nat.le_of_ble_eq_true rfl⟩) hS (fun q _ h => hFc q h) hFc (fun x_17 t H1 locs ht hvm hw hB hz1 hk1 hS => ?_)
      obtain ⟨hP1, hK1, hD1⟩ := hB
      rw [ht] at hP1
      obtain ⟨hP, hD⟩ := cl_put (w1 := (wd_c_X9_refuseHere h1 h1_0 h1_f1 x_2 x_17)) (nw := (wd_c_X4_readUnit_4 h1 h1_0 h1_f1 x_2 x_17 h1_0 h1_0k h1_0c h0 h0_0 j24_h0_f1 h0_2 h0_0 h0_0k j24_h0_0c)) hP hD [0] [4, 1, 2, 3] 4 rfl hqc (by decide +kernel) rfl hk1 hFc hP1 hD1
      generalize H1 = H at hP hS ⊢
      as_aux_lemma =>
      rcases hw with ⟨h_18, h_19⟩
      have h_19 : x_17 = _ := h_19
      replace hEX := hEX.trans (exc1_eq h_19)
      exact hU _ _ _ (J62 x_2 x_17 j24_h0_f1 j24_h0_0c g_h0_f1 g_h1_f1 g_h1_f2 g_h1_f3 g_j24_h0_f1 h_4 (RG_w h_18 (by decide +kernel)) hEX _ _ _ hP hD hS (lv_sub hl [] rfl))
    · have h_11 : (r_1, x_2) = _ := h_11
      replace hEX := hEX.trans (exc2_eq h_11)
      replace hEX := hEX.trans (if_neg (RG_neq (x := r_1) (c := (-1)) (show RG r_1 0 255 from h_7) (by decide +kernel)))
      refine lv_istore (lv' := [(4, .int r_1), (0, .ref h0), (1, .ref h1), (2, .int 3)]) hx hb dX4_readUnit_28 hl (Nat.le_of_ble_eq_true rfl) rfl (fun ls hl => ?_)
      refine lv_iload hx hb dX4_readUnit_30 (lv_at hl 0 rfl) ?_
      obtain ⟨hPc, hDc, hFc, hqc⟩ := cl_cut (wc := []) hP hD hS hA [] (by decide +kernel) rfl
      have hKc := hK.sub (tys' := []) [] rfl
      refine va_calli (va_runS (As := [.int r_1]) (rest := []) ⟨hx, hb, hml, hown, hts⟩ (c_X4_isComparison_1 l dC dI H.size r_1 h_7) (va_cwS 1 hts gf_c_X4_readUnit_4_c_X4_isComparison_1 rfl rfl rfl md_X4_isComparison ⟨Nat.le_of_ble_eq_true rfl, Nat.le_of_ble_eq_true rfl⟩) ⟨fun a U g mk q => by obtain ⟨q0, q1, qP, qK, qD⟩ := q; exact ⟨q0, q1, qP, va_K.moved (u := U) (U := U.calling g mk a) (Vm.Alike.refl U.vm) qK, qD⟩, fun U hU hW => ⟨rfl, by rw [hU], by rw [hU]; exact hPc, va_K.moved hW.alike hKc, hDc.weaken (fun _ _ _ _ => trivial)⟩⟩ rfl rfl hl.1 rfl (lv_room (Nat.le_of_ble_eq_true rfl)) dX4_readUnit_32 ⟨Nat.le_of_ble_eq_true rfl, Nat.le_of_ble_eq_true rfl⟩) hS (fun q _ h => hFc q h) hFc (fun r_20 u t H1 locs ht hvm hw hB hz1 hk1 hS => ?_)
      obtain ⟨hP1, hK1, hD1⟩ := hB
      rw [ht] at hP1
      have hP := bv_still hP hk1
      generalize H1 = H at hP hS ⊢
      as_aux_lemma =>
      rcases hw with ⟨h_21, h_22⟩ | ⟨h_23, h_24, h_25⟩
      · have h_22 : r_20 = _ := h_22
        replace hEX := hEX.trans (exc1_eq h_22)
        replace hEX := hEX.trans (if_pos (show r_20 = 0 from h_21))
        rw [h_21]
        refine lv_if_eq (tgt := 58) hx hb dX4_readUnit_35 rfl (fun c_26 => ?_) (fun c_26 => absurd c_26 (by decide +kernel))
        refine lv_aload_n hx hb dX4_readUnit_58 rfl (lv_at hl 2 rfl) ?_
        obtain ⟨hPc, hDc, hFc, hqc⟩ := cl_cut (wc := (wd_c_X9_refuseHere h1 h1_0 h1_f1 x_2 j24_h1_f3)) hP hD hS hA [0] (by decide +kernel) rfl
        have hKc := hK.sub (tys' := []) [] rfl
        have hrv := va_recv hKc hPc (ci := 9) (q0 := 0) rfl rfl
        refine va_callv (va_runV (As := []) (rest := []) ⟨hx, hb, hml, hown, hts⟩ (c_X9_refuseHere l dC dI H.size h1 h1_0 h1_f1 x_2 j24_h1_f3 (RG_w h_9 (by decide +kernel)) (RG_w h_8 (by decide +kernel)) g_j24_h1_f3) (cwV 0 hts gf_c_X4_readUnit_4_c_X9_refuseHere rfl rfl rfl mdV_X9_refuseHere ⟨Nat.le_of_ble_eq_true rfl, Nat.le_of_ble_eq_true rfl⟩) ⟨fun a U g mk q => by obtain ⟨q0, q1, qP, qK, qD⟩ := q; exact ⟨q0, q1, qP, va_K.moved (u := U) (U := U.calling g mk a) (Vm.Alike.refl U.vm) qK, qD⟩, hrv, fun U hU hW => ⟨rfl, by rw [hU], by rw [hU]; exact hPc, va_K.moved hW.alike hKc, hDc.weaken (fun _ _ _ _ => trivial)⟩⟩ rfl rfl hl.1 rfl (lv_room (Nat.le_of_ble_eq_true rfl)) dX4_readUnit_59 ⟨Nat.le_of_ble_eq_true rfl, Nat.le_of_ble_eq_true rfl⟩) hS (fun q _ h => hFc q h) hFc (fun x_28 t H1 locs ht hvm hw hB hz1 hk1 hS => ?_)
        obtain ⟨hP1, hK1, hD1⟩ := hB
        rw [ht] at hP1
        obtain ⟨hP, hD⟩ := cl_put (w1 := (wd_c_X9_refuseHere h1 h1_0 h1_f1 x_2 x_28)) (nw := (wd_c_X4_readUnit_4 h1 h1_0 h1_f1 x_2 x_28 h1_0 h1_0k h1_0c h0 h0_0 j24_h0_f1 h0_2 h0_0 h0_0k j24_h0_0c)) hP hD [0] [4, 1, 2, 3] 4 rfl hqc (by decide +kernel) rfl hk1 hFc hP1 hD1
        generalize H1 = H at hP hS ⊢
        as_aux_lemma =>
        rcases hw with ⟨h_29, h_30⟩
        have h_30 : x_28 = _ := h_30
        replace hEX := hEX.trans (exc1_eq h_30)
        exact hU _ _ _ (J62 x_2 x_28 j24_h0_f1 j24_h0_0c g_h0_f1 (RG_w h_9 (by decide +kernel)) g_h1_f2 g_h1_f3 g_j24_h0_f1 (RG_w h_8 (by decide +kernel)) (RG_w h_29 (by decide +kernel)) hEX _ _ _ hP hD hS (lv_sub hl [] rfl))
      · have h_25 : r_20 = _ := h_25
        replace hEX := hEX.trans (exc1_eq h_25)
        replace hEX := hEX.trans (if_neg (fun q9 : r_20 = 0 => absurd ((show r_20 = 1 from h_23).symm.trans q9) (by decide +kernel)))
        rw [h_23]
        refine lv_if_eq (tgt := 58) hx hb dX4_readUnit_35 rfl (fun c_31 => absurd c_31 (by decide +kernel)) (fun c_31 => ?_)
        refine lv_aload_n hx hb dX4_readUnit_38 rfl (lv_at hl 2 rfl) ?_
        obtain ⟨hPc, hDc, hFc, hqc⟩ := cl_cut (wc := (wd_c_X9_skip h1 h1_0 h1_f1 x_2 j24_h1_f3)) hP hD hS hA [0] (by decide +kernel) rfl
        have hKc := hK.sub (tys' := []) [] rfl
        have hrv := va_recv hKc hPc (ci := 9) (q0 := 0) rfl rfl
        refine va_callv (va_runV (As := []) (rest := []) ⟨hx, hb, hml, hown, hts⟩ (c_X9_skip l dC dI H.size h1 h1_0 h1_f1 x_2 j24_h1_f3 (RG_w h_9 (by decide +kernel)) h_8 g_j24_h1_f3) (cwV 0 hts gf_c_X4_readUnit_4_c_X9_skip rfl rfl rfl mdV_X9_skip ⟨Nat.le_of_ble_eq_true rfl, Nat.le_of_ble_eq_true rfl⟩) ⟨fun a U g mk q => by obtain ⟨q0, q1, qP, qK, qD⟩ := q; exact ⟨q0, q1, qP, va_K.moved (u := U) (U := U.calling g mk a) (Vm.Alike.refl U.vm) qK, qD⟩, hrv, fun U hU hW => ⟨rfl, by rw [hU], by rw [hU]; exact hPc, va_K.moved hW.alike hKc, hDc.weaken (fun _ _ _ _ => trivial)⟩⟩ rfl rfl hl.1 rfl (lv_room (Nat.le_of_ble_eq_true rfl)) dX4_readUnit_39 ⟨Nat.le_of_ble_eq_true rfl, Nat.le_of_ble_eq_true rfl⟩) hS (fun q _ h => hFc q h) hFc (fun x_33 t H1 locs ht hvm hw hB hz1 hk1 hS => ?_)
        as_aux_lemma =>
        obtain ⟨hP1, hK1, hD1⟩ := hB
        rw [ht] at hP1
        obtain ⟨hP, hD⟩ := cl_put (w1 := (wd_c_X9_skip h1 h1_0 h1_f1 x_33 j24_h1_f3)) (nw := (wd_c_X4_readUnit_4 h1 h1_0 h1_f1 x_33 j24_h1_f3 h1_0 h1_0k h1_0c h0 h0_0 j24_h0_f1 h0_2 h0_0 h0_0k j24_h0_0c)) hP hD [0] [4, 1, 2, 3] 4 rfl hqc (by decide +kernel) rfl hk1 hFc hP1 hD1
        generalize H1 = H at hP hS ⊢
        as_aux_lemma =>
        rcases hw with ⟨h_34, h_35, h_36, h_37⟩
        have h_37 : x_33 = _ := h_37
        replace hEX := hEX.trans (exc1_eq h_37)
        refine lv_aload_n hx hb dX4_readUnit_42 rfl (lv_at hl 1 rfl) ?_
        refine lv_aload_n hx hb dX4_readUnit_43 rfl (lv_at hl 2 rfl) ?_
        refine lv_iload_n hx hb dX4_readUnit_44 rfl (lv_at hl 3 rfl) ?_
        obtain ⟨hPc, hDc, hFc, hqc⟩ := cl_cut (wc := (wd_c_X4_readSum_3 h1 h1_0 h1_f1 x_33 j24_h1_f3 h1_0 h1_0k h1_0c h0 h0_0 j24_h0_f1 h0_2 h0_0 h0_0k j24_h0_0c)) hP hD hS hA [0, 1, 2, 3] (by decide +kernel) rfl
        have hKc := hK.sub (tys' := [(h1_0k, .int), (h0_0k, .int)]) [0, 1] rfl
        have hrv := va_recv hKc hPc (ci := 4) (q0 := 2) rfl rfl
        refine va_callv (va_runV (As := [.ref h1, .int 3]) (rest := []) ⟨hx, hb, hml, hown, hts⟩ (c_X4_readSum_3 l dC dI H.size h0 h1 h1_0 h1_f1 x_33 j24_h1_f3 h1_0k h1_0c h0_0 j24_h0_f1 h0_2 h0_0k j24_h0_0c ts4 tv4 (RG_w h_9 (by decide +kernel)) (RG_w h_34 (by decide +kernel)) g_j24_h1_f3 a_h1_0c g_j24_h0_f1) (cwV 2 hts gf_c_X4_readUnit_4_c_X4_readSum_3 rfl rfl rfl mdV_X4_readSum ⟨Nat.le_of_ble_eq_true rfl, Nat.le_of_ble_eq_true rfl⟩) ⟨fun a U g mk q => by obtain ⟨q0, q1, qP, qK, qD, qE0, qE1, qE2, qE3, qE4, qE5⟩ := q; exact ⟨q0, q1, qP, va_K.moved (u := U) (U := U.calling g mk a) (Vm.Alike.refl U.vm) qK, qD, vk_R.same rfl qE0, va_Z.moved (u := U) (U := U.calling g mk a) (Vm.Alike.refl U.vm) qE1, va_OF.moved (u := U) (U := U.calling g mk a) (Vm.Alike.refl U.vm) qE2, va_O.moved (u := U) (U := U.calling g mk a) (Vm.Alike.refl U.vm) qE3, va_OF.moved (u := U) (U := U.calling g mk a) (Vm.Alike.refl U.vm) qE4, va_T.moved (u := U) (U := U.calling g mk a) (Vm.Alike.refl U.vm) qE5⟩, hrv, fun U hU hW => ⟨rfl, by rw [hU], by rw [hU]; exact hPc, va_K.moved hW.alike hKc, hDc.weaken (fun _ _ _ _ => trivial), vk_R.warm hW hE_32, va_Z.moved hW.alike (by rw [hU]; exact (hE_10.kept hS.2.1).narrow hFc), va_OF.moved hW.alike (by rw [hU]; exact (hE_34.kept hS.2.1).narrow hFc), va_O.moved hW.alike (by rw [hU]; exact (hE_33.kept hS.2.1).narrow hFc), va_OF.moved hW.alike (by rw [hU]; exact (hE_35.kept hS.2.1).narrow hFc), va_T.moved hW.alike (by rw [hU]; exact (hE_36.kept hS.2.1).narrow hFc)⟩⟩ rfl rfl hl.1 rfl (lv_room (Nat.le_of_ble_eq_true rfl)) dX4_readUnit_45 ⟨Nat.le_of_ble_eq_true rfl, Nat.le_of_ble_eq_true rfl⟩) hS (fun q _ h => hFc q h) hFc (fun u t H1 locs ht hvm hw hB hz1 hk1 hS => ?_)
        obtain ⟨x_39, x_40, x_41, w_42⟩ := u
        obtain ⟨hP1, hK1, hD1⟩ := hB
        rw [ht] at hP1
        obtain ⟨hP, hD⟩ := cl_put (w1 := (wd_c_X4_readSum_3 h1 h1_0 h1_f1 x_39 x_40 h1_0 h1_0k h1_0c h0 h0_0 x_41 h0_2 h0_0 h0_0k w_42)) (nw := (wd_c_X4_readUnit_4 h1 h1_0 h1_f1 x_39 x_40 h1_0 h1_0k h1_0c h0 h0_0 x_41 h0_2 h0_0 h0_0k w_42)) hP hD [0, 1, 2, 3] [4, 5, 6, 7] 4 rfl hqc (by decide +kernel) rfl hk1 hFc hP1 hD1
        generalize H1 = H at hP hS ⊢
        as_aux_lemma =>
        rcases hw with ⟨h_43, h_44, h_45, h_46⟩
        have h_46 : (x_39, x_40, x_41, w_42) = _ := h_46
        replace hEX := hEX.trans (exc4_eq h_46)
        refine lv_aload_n hx hb dX4_readUnit_48 rfl (lv_at hl 1 rfl) ?_
        refine lv_iload hx hb dX4_readUnit_49 (lv_at hl 0 rfl) ?_
        refine lv_ineg hx hb dX4_readUnit_51 ?_
        refine lv_topi (fun x_47 ex_47 => ?_)
        replace hEX := hEX.trans (exl_eq ex_47)
        have g_48 : RG x_47 (-62) (-60) := RG_neg ex_47 h_24 (by decide +kernel)
        obtain ⟨hPc, hDc, hFc, hqc⟩ := cl_cut (wc := (wd_c_X4_emit h0 h0_0 x_41 h0_2 h0_0 h0_0k w_42)) hP hD hS hA [2, 3] (by decide +kernel) rfl
        have hKc := hK.sub (tys' := [(h0_0k, .int)]) [1] rfl
        have hrv := va_recv hKc hPc (ci := 4) (q0 := 0) rfl rfl
        refine va_callv (va_runV (As := [.int x_47]) (rest := []) ⟨hx, hb, hml, hown, hts⟩ (c_X4_emit l dC dI H.size h0 x_47 h0_0 x_41 h0_2 h0_0k w_42 h_45) (cwV 1 hts gf_c_X4_readUnit_4_c_X4_emit rfl rfl rfl mdV_X4_emit ⟨Nat.le_of_ble_eq_true rfl, Nat.le_of_ble_eq_true rfl⟩) ⟨fun a U g mk q => by obtain ⟨q0, q1, qP, qK, qD⟩ := q; exact ⟨q0, q1, qP, va_K.moved (u := U) (U := U.calling g mk a) (Vm.Alike.refl U.vm) qK, qD⟩, hrv, fun U hU hW => ⟨rfl, by rw [hU], by rw [hU]; exact hPc, va_K.moved hW.alike hKc, hDc.weaken (fun _ _ _ _ => trivial)⟩⟩ rfl rfl hl.1 rfl (lv_room (Nat.le_of_ble_eq_true rfl)) dX4_readUnit_52 ⟨Nat.le_of_ble_eq_true rfl, Nat.le_of_ble_eq_true rfl⟩) hS (fun q _ h => hFc q h) hFc (fun u t H1 locs ht hvm hw hB hz1 hk1 hS => ?_)
        obtain ⟨x_50, w_51⟩ := u
        obtain ⟨hP1, hK1, hD1⟩ := hB
        rw [ht] at hP1
        obtain ⟨hP, hD⟩ := cl_put (w1 := (wd_c_X4_emit h0 h0_0 x_50 h0_2 h0_0 h0_0k w_51)) (nw := (wd_c_X4_readUnit_4 h1 h1_0 h1_f1 x_39 x_40 h1_0 h1_0k h1_0c h0 h0_0 x_50 h0_2 h0_0 h0_0k w_51)) hP hD [2, 3] [0, 1, 4, 5] 4 rfl hqc (by decide +kernel) rfl hk1 hFc hP1 hD1
        generalize H1 = H at hP hS ⊢
        as_aux_lemma =>
        rcases hw with ⟨h_52, h_53⟩
        have h_53 : (x_50, w_51) = _ := h_53
        replace hEX := hEX.trans (exc2_eq h_53)
        refine lv_goto (tgt := 62) hx hb dX4_readUnit_55 rfl ?_
        exact hU _ _ _ (J62 x_39 x_40 x_50 w_51 g_h0_f1 (RG_w h_9 (by decide +kernel)) g_h1_f2 g_h1_f3 (RG_w h_52 (by decide +kernel)) h_43 h_44 hEX _ _ _ hP hD hS (lv_sub hl [] rfl))
  have J14 : ∀ (j14_h1_f2 : Int32) (g_h0_f1 : RG h0_f1 0 240) (g_h1_f1 : RG h1_f1 0 240) (g_h1_f2 : RG h1_f2 0 240) (g_h1_f3 : RG h1_f3 (-1) 240) (g_j14_h1_f2 : RG j14_h1_f2 0 240) (hEX : RES = fx_c_X4_readUnit_4_p14 h1_f1 h1_f3 h1_0c h0_f1 h0_0c j14_h1_f2) (H : Heap) (locs : List Loc) (ls : Array Slot) (hP : va_P (dC, dI) vwCl (wd_c_X4_readUnit_4 h1 h1_0 h1_f1 j14_h1_f2 h1_f3 h1_0 h1_0k h1_0c h0 h0_0 h0_f1 h0_2 h0_0 h0_0k h0_0c) H) (hD : va_D A (wd_c_X4_readUnit_4 h1 h1_0 h1_f1 j14_h1_f2 h1_f3 h1_0 h1_0k h1_0c h0 h0_0 h0_f1 h0_2 h0_0 h0_0k h0_0c)) (hS : va_S A s.heap H locs) (hl : lv_has ls 5 [(0, .ref h0), (1, .ref h1), (2, .int 3), (3, .int 0)]), G H locs (F0 m 14 ls []) := by
    as_aux_lemma =>
    intro j14_h1_f2 g_h0_f1 g_h1_f1 g_h1_f2 g_h1_f3 g_j14_h1_f2 hEX H locs ls hP hD hS hl
    refine hG _ _ _ ?_
    refine lv_iload_n hx hb dX4_readUnit_14 rfl (lv_at hl 3 rfl) ?_
    refine lv_if_ne (tgt := 24) hx hb dX4_readUnit_15 rfl (fun c_54 => absurd c_54 (by decide +kernel)) (fun c_54 => ?_)
    refine lv_aload_n hx hb dX4_readUnit_18 rfl (lv_at hl 0 rfl) ?_
    refine lv_aload_n hx hb dX4_readUnit_19 rfl (lv_at hl 1 rfl) ?_
    refine lv_iload_n hx hb dX4_readUnit_20 rfl (lv_at hl 2 rfl) ?_
    obtain ⟨hPc, hDc, hFc, hqc⟩ := cl_cut (wc := (wd_c_X4_readSum_3 h1 h1_0 h1_f1 j14_h1_f2 h1_f3 h1_0 h1_0k h1_0c h0 h0_0 h0_f1 h0_2 h0_0 h0_0k h0_0c)) hP hD hS hA [0, 1, 2, 3] (by decide +kernel) rfl
    have hKc := hK.sub (tys' := [(h1_0k, .int), (h0_0k, .int)]) [0, 1] rfl
    have hrv := va_recv hKc hPc (ci := 4) (q0 := 2) rfl rfl
    refine va_callv (va_runV (As := [.ref h1, .int 3]) (rest := []) ⟨hx, hb, hml, hown, hts⟩ (c_X4_readSum_3 l dC dI H.size h0 h1 h1_0 h1_f1 j14_h1_f2 h1_f3 h1_0k h1_0c h0_0 h0_f1 h0_2 h0_0k h0_0c ts4 tv4 g_h1_f1 g_j14_h1_f2 g_h1_f3 a_h1_0c g_h0_f1) (cwV 2 hts gf_c_X4_readUnit_4_c_X4_readSum_3 rfl rfl rfl mdV_X4_readSum ⟨Nat.le_of_ble_eq_true rfl, Nat.le_of_ble_eq_true rfl⟩) ⟨fun a U g mk q => by obtain ⟨q0, q1, qP, qK, qD, qE0, qE1, qE2, qE3, qE4, qE5⟩ := q; exact ⟨q0, q1, qP, va_K.moved (u := U) (U := U.calling g mk a) (Vm.Alike.refl U.vm) qK, qD, vk_R.same rfl qE0, va_Z.moved (u := U) (U := U.calling g mk a) (Vm.Alike.refl U.vm) qE1, va_OF.moved (u := U) (U := U.calling g mk a) (Vm.Alike.refl U.vm) qE2, va_O.moved (u := U) (U := U.calling g mk a) (Vm.Alike.refl U.vm) qE3, va_OF.moved (u := U) (U := U.calling g mk a) (Vm.Alike.refl U.vm) qE4, va_T.moved (u := U) (U := U.calling g mk a) (Vm.Alike.refl U.vm) qE5⟩, hrv, fun U hU hW => ⟨rfl, by rw [hU], by rw [hU]; exact hPc, va_K.moved hW.alike hKc, hDc.weaken (fun _ _ _ _ => trivial), vk_R.warm hW hE_32, va_Z.moved hW.alike (by rw [hU]; exact (hE_10.kept hS.2.1).narrow hFc), va_OF.moved hW.alike (by rw [hU]; exact (hE_34.kept hS.2.1).narrow hFc), va_O.moved hW.alike (by rw [hU]; exact (hE_33.kept hS.2.1).narrow hFc), va_OF.moved hW.alike (by rw [hU]; exact (hE_35.kept hS.2.1).narrow hFc), va_T.moved hW.alike (by rw [hU]; exact (hE_36.kept hS.2.1).narrow hFc)⟩⟩ rfl rfl hl.1 rfl (lv_room (Nat.le_of_ble_eq_true rfl)) dX4_readUnit_21 ⟨Nat.le_of_ble_eq_true rfl, Nat.le_of_ble_eq_true rfl⟩) hS (fun q _ h => hFc q h) hFc (fun u t H1 locs ht hvm hw hB hz1 hk1 hS => ?_)
    obtain ⟨x_56, x_57, x_58, w_59⟩ := u
    obtain ⟨hP1, hK1, hD1⟩ := hB
    rw [ht] at hP1
    obtain ⟨hP, hD⟩ := cl_put (w1 := (wd_c_X4_readSum_3 h1 h1_0 h1_f1 x_56 x_57 h1_0 h1_0k h1_0c h0 h0_0 x_58 h0_2 h0_0 h0_0k w_59)) (nw := (wd_c_X4_readUnit_4 h1 h1_0 h1_f1 x_56 x_57 h1_0 h1_0k h1_0c h0 h0_0 x_58 h0_2 h0_0 h0_0k w_59)) hP hD [0, 1, 2, 3] [4, 5, 6, 7] 4 rfl hqc (by decide +kernel) rfl hk1 hFc hP1 hD1
    generalize H1 = H at hP hS ⊢
    as_aux_lemma =>
    rcases hw with ⟨h_60, h_61, h_62, h_63⟩
    have h_63 : (x_56, x_57, x_58, w_59) = _ := h_63
    replace hEX := hEX.trans (exc4_eq h_63)
    exact hU _ _ _ (J24 x_56 x_57 x_58 w_59 g_h0_f1 g_h1_f1 g_h1_f2 g_h1_f3 h_62 h_60 h_61 hEX _ _ _ hP hD hS (lv_sub hl [0, 1, 2] rfl))
  refine hG _ _ _ ?_
  refine lv_iload_n hx hb dX4_readUnit_0 rfl (lv_at hl 3 rfl) ?_
  refine lv_if_ne (tgt := 14) hx hb dX4_readUnit_1 rfl (fun c_64 => absurd c_64 (by decide +kernel)) (fun c_64 => ?_)
  refine lv_aload_n hx hb dX4_readUnit_4 rfl (lv_at hl 1 rfl) ?_
  obtain ⟨hPc, hDc, hFc, hqc⟩ := cl_cut (wc := (wd_c_X9_peek h1 h1_0 h1_f1 h1_f2 h1_f3 h1_0 h1_0k h1_0c)) hP hD hS hA [0, 1] (by decide +kernel) rfl
  have hKc := hK.sub (tys' := [(h1_0k, .int)]) [0] rfl
  have hrv := va_recv hKc hPc (ci := 9) (q0 := 0) rfl rfl
  refine va_calli (va_runV (As := []) (rest := []) ⟨hx, hb, hml, hown, hts⟩ (c_X9_peek l dC dI H.size h1 h1_0 h1_f1 h1_f2 h1_f3 h1_0k h1_0c g_h1_f1 g_h1_f2 g_h1_f3 a_h1_0c) (cwV 0 hts gf_c_X4_readUnit_4_c_X9_peek rfl rfl rfl mdV_X9_peek ⟨Nat.le_of_ble_eq_true rfl, Nat.le_of_ble_eq_true rfl⟩) ⟨fun a U g mk q => by obtain ⟨q0, q1, qP, qK, qD⟩ := q; exact ⟨q0, q1, qP, va_K.moved (u := U) (U := U.calling g mk a) (Vm.Alike.refl U.vm) qK, qD⟩, hrv, fun U hU hW => ⟨rfl, by rw [hU], by rw [hU]; exact hPc, va_K.moved hW.alike hKc, hDc.weaken (fun _ _ _ _ => trivial)⟩⟩ rfl rfl hl.1 rfl (lv_room (Nat.le_of_ble_eq_true rfl)) dX4_readUnit_5 ⟨Nat.le_of_ble_eq_true rfl, Nat.le_of_ble_eq_true rfl⟩) hS (fun q _ h => hFc q h) hFc (fun r_65 x_66 t H1 locs ht hvm hw hB hz1 hk1 hS => ?_)
  obtain ⟨hP1, hK1, hD1⟩ := hB
  rw [ht] at hP1
  obtain ⟨hP, hD⟩ := cl_put (w1 := (wd_c_X9_peek h1 h1_0 h1_f1 x_66 h1_f3 h1_0 h1_0k h1_0c)) (nw := (wd_c_X4_readUnit_4 h1 h1_0 h1_f1 x_66 h1_f3 h1_0 h1_0k h1_0c h0 h0_0 h0_f1 h0_2 h0_0 h0_0k h0_0c)) hP hD [0, 1] [4, 5, 2, 3] 4 rfl hqc (by decide +kernel) rfl hk1 hFc hP1 hD1
  generalize H1 = H at hP hS ⊢
  as_aux_lemma =>
  rcases hw with ⟨h_67, h_68, h_69, h_70⟩ | ⟨h_71, h_72, h_73, h_74, h_75⟩
  · have h_70 : (r_65, x_66) = _ := h_70
    replace hEX := hEX.trans (exc2_eq h_70)
    replace hEX := hEX.trans (if_pos (show r_65 = (-1) from h_67))
    rw [h_67]
    obtain ⟨hPc, hDc, hFc, hqc⟩ := cl_cut (wc := []) hP hD hS hA [] (by decide +kernel) rfl
    have hKc := hK.sub (tys' := []) [] rfl
    refine va_calli (va_runS (As := [.int (-1)]) (rest := []) ⟨hx, hb, hml, hown, hts⟩ (c_X4_startsUnit l dC dI H.size (-1) (RG_k (-1) (-1) rfl)) (va_cwS 1 hts gf_c_X4_readUnit_4_c_X4_startsUnit rfl rfl rfl md_X4_startsUnit ⟨Nat.le_of_ble_eq_true rfl, Nat.le_of_ble_eq_true rfl⟩) ⟨fun a U g mk q => by obtain ⟨q0, q1, qP, qK, qD⟩ := q; exact ⟨q0, q1, qP, va_K.moved (u := U) (U := U.calling g mk a) (Vm.Alike.refl U.vm) qK, qD⟩, fun U hU hW => ⟨rfl, by rw [hU], by rw [hU]; exact hPc, va_K.moved hW.alike hKc, hDc.weaken (fun _ _ _ _ => trivial)⟩⟩ rfl rfl hl.1 rfl (lv_room (Nat.le_of_ble_eq_true rfl)) dX4_readUnit_8 ⟨Nat.le_of_ble_eq_true rfl, Nat.le_of_ble_eq_true rfl⟩) hS (fun q _ h => hFc q h) hFc (fun r_76 u t H1 locs ht hvm hw hB hz1 hk1 hS => ?_)
    obtain ⟨hP1, hK1, hD1⟩ := hB
    rw [ht] at hP1
    have hP := bv_still hP hk1
    generalize H1 = H at hP hS ⊢
    as_aux_lemma =>
    rcases hw with ⟨h_77, h_78⟩
    have h_78 : r_76 = _ := h_78
    replace hEX := hEX.trans (exc1_eq h_78)
    rw [h_77]
    refine lv_if_ne (tgt := 65) hx hb dX4_readUnit_11 rfl (fun c_79 => absurd c_79 (by decide +kernel)) (fun c_79 => ?_)
    exact hU _ _ _ (J14 x_66 g_h0_f1 g_h1_f1 g_h1_f2 g_h1_f3 h_68 hEX _ _ _ hP hD hS (lv_sub hl [0, 1, 2, 3] rfl))
  · have h_75 : (r_65, x_66) = _ := h_75
    replace hEX := hEX.trans (exc2_eq h_75)
    replace hEX := hEX.trans (if_neg (RG_neq (x := r_65) (c := (-1)) (show RG r_65 0 255 from h_71) (by decide +kernel)))
    obtain ⟨hPc, hDc, hFc, hqc⟩ := cl_cut (wc := []) hP hD hS hA [] (by decide +kernel) rfl
    have hKc := hK.sub (tys' := []) [] rfl
    refine va_calli (va_runS (As := [.int r_65]) (rest := []) ⟨hx, hb, hml, hown, hts⟩ (c_X4_startsUnit_1 l dC dI H.size r_65 h_71) (va_cwS 1 hts gf_c_X4_readUnit_4_c_X4_startsUnit_1 rfl rfl rfl md_X4_startsUnit ⟨Nat.le_of_ble_eq_true rfl, Nat.le_of_ble_eq_true rfl⟩) ⟨fun a U g mk q => by obtain ⟨q0, q1, qP, qK, qD⟩ := q; exact ⟨q0, q1, qP, va_K.moved (u := U) (U := U.calling g mk a) (Vm.Alike.refl U.vm) qK, qD⟩, fun U hU hW => ⟨rfl, by rw [hU], by rw [hU]; exact hPc, va_K.moved hW.alike hKc, hDc.weaken (fun _ _ _ _ => trivial)⟩⟩ rfl rfl hl.1 rfl (lv_room (Nat.le_of_ble_eq_true rfl)) dX4_readUnit_8 ⟨Nat.le_of_ble_eq_true rfl, Nat.le_of_ble_eq_true rfl⟩) hS (fun q _ h => hFc q h) hFc (fun r_80 u t H1 locs ht hvm hw hB hz1 hk1 hS => ?_)
    obtain ⟨hP1, hK1, hD1⟩ := hB
    rw [ht] at hP1
    have hP := bv_still hP hk1
    generalize H1 = H at hP hS ⊢
    as_aux_lemma =>
    rcases hw with ⟨h_81, h_82⟩ | ⟨h_83, h_84, h_85⟩
    · have h_82 : r_80 = _ := h_82
      replace hEX := hEX.trans (exc1_eq h_82)
      replace hEX := hEX.trans (if_pos (show r_80 = 0 from h_81))
      rw [h_81]
      refine lv_if_ne (tgt := 65) hx hb dX4_readUnit_11 rfl (fun c_86 => absurd c_86 (by decide +kernel)) (fun c_86 => ?_)
      exact hU _ _ _ (J14 x_66 g_h0_f1 (RG_w h_73 (by decide +kernel)) g_h1_f2 g_h1_f3 (RG_w h_72 (by decide +kernel)) hEX _ _ _ hP hD hS (lv_sub hl [0, 1, 2, 3] rfl))
    · have h_85 : r_80 = _ := h_85
      replace hEX := hEX.trans (exc1_eq h_85)
      replace hEX := hEX.trans (if_neg (fun q9 : r_80 = 0 => absurd ((show r_80 = 1 from h_83).symm.trans q9) (by decide +kernel)))
      rw [h_83]
      refine lv_if_ne (tgt := 65) hx hb dX4_readUnit_11 rfl (fun c_87 => ?_) (fun c_87 => absurd c_87 (by decide +kernel))
      refine lv_iload_n hx hb dX4_readUnit_65 rfl (lv_at hl 2 rfl) ?_
      refine lv_bipush (v := 6) hx hb dX4_readUnit_66 kc_bipush_6 ?_
      as_aux_lemma =>
      refine lv_icmp_lt (tgt := 78) hx hb dX4_readUnit_68 rfl (fun c_88 => ?_) (fun c_88 => absurd c_88 (by decide +kernel))
      refine lv_aload_n hx hb dX4_readUnit_78 rfl (lv_at hl 1 rfl) ?_
      refine lv_bipush (v := 33) hx hb dX4_readUnit_79 kc_bipush_33 ?_
      obtain ⟨hPc, hDc, hFc, hqc⟩ := cl_cut (wc := (wd_c_X9_take h1 h1_0 h1_f1 x_66 h1_f3 h1_0 h1_0k h1_0c)) hP hD hS hA [0, 1] (by decide +kernel) rfl
      have hKc := hK.sub (tys' := [(h1_0k, .int)]) [0] rfl
      have hrv := va_recv hKc hPc (ci := 9) (q0 := 0) rfl rfl
      refine va_calli (va_runV (As := [.int 33]) (rest := []) ⟨hx, hb, hml, hown, hts⟩ (c_X9_take l dC dI H.size h1 33 h1_0 h1_f1 x_66 h1_f3 h1_0k h1_0c (RG_w (RG_k 33 33 rfl) (by decide +kernel)) (RG_w h_73 (by decide +kernel)) (RG_w h_72 (by decide +kernel)) g_h1_f3 a_h1_0c) (cwV 1 hts gf_c_X4_readUnit_4_c_X9_take rfl rfl rfl mdV_X9_take ⟨Nat.le_of_ble_eq_true rfl, Nat.le_of_ble_eq_true rfl⟩) ⟨fun a U g mk q => by obtain ⟨q0, q1, qP, qK, qD⟩ := q; exact ⟨q0, q1, qP, va_K.moved (u := U) (U := U.calling g mk a) (Vm.Alike.refl U.vm) qK, qD⟩, hrv, fun U hU hW => ⟨rfl, by rw [hU], by rw [hU]; exact hPc, va_K.moved hW.alike hKc, hDc.weaken (fun _ _ _ _ => trivial)⟩⟩ rfl rfl hl.1 rfl (lv_room (Nat.le_of_ble_eq_true rfl)) dX4_readUnit_81 ⟨Nat.le_of_ble_eq_true rfl, Nat.le_of_ble_eq_true rfl⟩) hS (fun q _ h => hFc q h) hFc (fun r_89 x_90 t H1 locs ht hvm hw hB hz1 hk1 hS => ?_)
      obtain ⟨hP1, hK1, hD1⟩ := hB
      rw [ht] at hP1
      obtain ⟨hP, hD⟩ := cl_put (w1 := (wd_c_X9_take h1 h1_0 h1_f1 x_90 h1_f3 h1_0 h1_0k h1_0c)) (nw := (wd_c_X4_readUnit_4 h1 h1_0 h1_f1 x_90 h1_f3 h1_0 h1_0k h1_0c h0 h0_0 h0_f1 h0_2 h0_0 h0_0k h0_0c)) hP hD [0, 1] [4, 5, 2, 3] 4 rfl hqc (by decide +kernel) rfl hk1 hFc hP1 hD1
      generalize H1 = H at hP hS ⊢
      as_aux_lemma =>
      rcases hw with ⟨h_91, h_92, h_93, h_94⟩ | ⟨h_95, h_96, h_97, h_98, h_99, h_100⟩
      · have h_94 : (r_89, x_90) = _ := h_94
        replace hEX := hEX.trans (exc2_eq h_94)
        replace hEX := hEX.trans (if_pos (show r_89 = 0 from h_91))
        rw [h_91]
        refine lv_if_eq (tgt := 105) hx hb dX4_readUnit_84 rfl (fun c_101 => ?_) (fun c_101 => absurd c_101 (by decide +kernel))
        refine lv_aload_n hx hb dX4_readUnit_105 rfl (lv_at hl 1 rfl) ?_
        refine lv_bipush (v := 40) hx hb dX4_readUnit_106 kc_bipush_40 ?_
        obtain ⟨hPc, hDc, hFc, hqc⟩ := cl_cut (wc := (wd_c_X9_expect_1 h1 h1_0 h1_f1 x_90 h1_f3 h1_0 h1_0k h1_0c)) hP hD hS hA [0, 1] (by decide +kernel) rfl
        have hKc := hK.sub (tys' := [(h1_0k, .int)]) [0] rfl
        have hrv := va_recv hKc hPc (ci := 9) (q0 := 0) rfl rfl
        refine va_callv (va_runV (As := [.int 40]) (rest := []) ⟨hx, hb, hml, hown, hts⟩ (c_X9_expect_1 l dC dI H.size h1 40 h1_0 h1_f1 x_90 h1_f3 h1_0k h1_0c (RG_w (RG_k 40 40 rfl) (by decide +kernel)) (RG_w h_73 (by decide +kernel)) h_92 g_h1_f3 a_h1_0c) (cwV 1 hts gf_c_X4_readUnit_4_c_X9_expect_1 rfl rfl rfl mdV_X9_expect ⟨Nat.le_of_ble_eq_true rfl, Nat.le_of_ble_eq_true rfl⟩) ⟨fun a U g mk q => by obtain ⟨q0, q1, qP, qK, qD⟩ := q; exact ⟨q0, q1, qP, va_K.moved (u := U) (U := U.calling g mk a) (Vm.Alike.refl U.vm) qK, qD⟩, hrv, fun U hU hW => ⟨rfl, by rw [hU], by rw [hU]; exact hPc, va_K.moved hW.alike hKc, hDc.weaken (fun _ _ _ _ => trivial)⟩⟩ rfl rfl hl.1 rfl (lv_room (Nat.le_of_ble_eq_true rfl)) dX4_readUnit_108 ⟨Nat.le_of_ble_eq_true rfl, Nat.le_of_ble_eq_true rfl⟩) hS (fun q _ h => hFc q h) hFc (fun u t H1 locs ht hvm hw hB hz1 hk1 hS => ?_)
        obtain ⟨x_103, x_104⟩ := u
        obtain ⟨hP1, hK1, hD1⟩ := hB
        rw [ht] at hP1
        obtain ⟨hP, hD⟩ := cl_put (w1 := (wd_c_X9_expect_1 h1 h1_0 h1_f1 x_103 x_104 h1_0 h1_0k h1_0c)) (nw := (wd_c_X4_readUnit_4 h1 h1_0 h1_f1 x_103 x_104 h1_0 h1_0k h1_0c h0 h0_0 h0_f1 h0_2 h0_0 h0_0k h0_0c)) hP hD [0, 1] [4, 5, 2, 3] 4 rfl hqc (by decide +kernel) rfl hk1 hFc hP1 hD1
        generalize H1 = H at hP hS ⊢
        as_aux_lemma =>
        rcases hw with ⟨h_105, h_106, h_107, h_108⟩
        have h_108 : (x_103, x_104) = _ := h_108
        replace hEX := hEX.trans (exc2_eq h_108)
        refine lv_aload_n hx hb dX4_readUnit_111 rfl (lv_at hl 0 rfl) ?_
        refine lv_aload_n hx hb dX4_readUnit_112 rfl (lv_at hl 1 rfl) ?_
        refine lv_iload_n hx hb dX4_readUnit_113 rfl (lv_at hl 2 rfl) ?_
        refine lv_iconst (v := 1) hx hb dX4_readUnit_114 kc_iconst_1 ?_
        refine lv_iadd hx hb dX4_readUnit_115 ?_
        refine lv_topi (fun x_109 ex_109 => ?_)
        obtain rfl : x_109 = 4 := ex_109.trans (by decide +kernel)
        refine lv_iconst (v := 0) hx hb dX4_readUnit_116 kc_iconst_0 ?_
        obtain ⟨hPc, hDc, hFc, hqc⟩ := cl_cut (wc := (wd_c_X4_readCondition_4 h1 h1_0 h1_f1 x_103 x_104 h1_0 h1_0k h1_0c h0 h0_0 h0_f1 h0_2 h0_0 h0_0k h0_0c)) hP hD hS hA [0, 1, 2, 3] (by decide +kernel) rfl
        have hKc := hK.sub (tys' := [(h1_0k, .int), (h0_0k, .int)]) [0, 1] rfl
        have hrv := va_recv hKc hPc (ci := 4) (q0 := 2) rfl rfl
        refine va_callv (va_runV (As := [.ref h1, .int 4, .int 0]) (rest := []) ⟨hx, hb, hml, hown, hts⟩ (c_X4_readCondition_4 l dC dI H.size h0 h1 h1_0 h1_f1 x_103 x_104 h1_0k h1_0c h0_0 h0_f1 h0_2 h0_0k h0_0c ts4 tv4 (RG_w h_73 (by decide +kernel)) h_105 h_106 a_h1_0c g_h0_f1) (cwV 3 hts gf_c_X4_readUnit_4_c_X4_readCondition_4 rfl rfl rfl mdV_X4_readCondition ⟨Nat.le_of_ble_eq_true rfl, Nat.le_of_ble_eq_true rfl⟩) ⟨fun a U g mk q => by obtain ⟨q0, q1, qP, qK, qD, qE0, qE1, qE2, qE3, qE4, qE5⟩ := q; exact ⟨q0, q1, qP, va_K.moved (u := U) (U := U.calling g mk a) (Vm.Alike.refl U.vm) qK, qD, vk_R.same rfl qE0, va_Z.moved (u := U) (U := U.calling g mk a) (Vm.Alike.refl U.vm) qE1, va_OF.moved (u := U) (U := U.calling g mk a) (Vm.Alike.refl U.vm) qE2, va_O.moved (u := U) (U := U.calling g mk a) (Vm.Alike.refl U.vm) qE3, va_OF.moved (u := U) (U := U.calling g mk a) (Vm.Alike.refl U.vm) qE4, va_T.moved (u := U) (U := U.calling g mk a) (Vm.Alike.refl U.vm) qE5⟩, hrv, fun U hU hW => ⟨rfl, by rw [hU], by rw [hU]; exact hPc, va_K.moved hW.alike hKc, hDc.weaken (fun _ _ _ _ => trivial), vk_R.warm hW hE_32, va_Z.moved hW.alike (by rw [hU]; exact (hE_10.kept hS.2.1).narrow hFc), va_OF.moved hW.alike (by rw [hU]; exact (hE_34.kept hS.2.1).narrow hFc), va_O.moved hW.alike (by rw [hU]; exact (hE_33.kept hS.2.1).narrow hFc), va_OF.moved hW.alike (by rw [hU]; exact (hE_35.kept hS.2.1).narrow hFc), va_T.moved hW.alike (by rw [hU]; exact (hE_36.kept hS.2.1).narrow hFc)⟩⟩ rfl rfl hl.1 rfl (lv_room (Nat.le_of_ble_eq_true rfl)) dX4_readUnit_117 ⟨Nat.le_of_ble_eq_true rfl, Nat.le_of_ble_eq_true rfl⟩) hS (fun q _ h => hFc q h) hFc (fun u t H1 locs ht hvm hw hB hz1 hk1 hS => ?_)
        as_aux_lemma =>
        obtain ⟨x_111, x_112, x_113, w_114⟩ := u
        obtain ⟨hP1, hK1, hD1⟩ := hB
        rw [ht] at hP1
        obtain ⟨hP, hD⟩ := cl_put (w1 := (wd_c_X4_readCondition_4 h1 h1_0 h1_f1 x_111 x_112 h1_0 h1_0k h1_0c h0 h0_0 x_113 h0_2 h0_0 h0_0k w_114)) (nw := (wd_c_X4_readUnit_4 h1 h1_0 h1_f1 x_111 x_112 h1_0 h1_0k h1_0c h0 h0_0 x_113 h0_2 h0_0 h0_0k w_114)) hP hD [0, 1, 2, 3] [4, 5, 6, 7] 4 rfl hqc (by decide +kernel) rfl hk1 hFc hP1 hD1
        generalize H1 = H at hP hS ⊢
        as_aux_lemma =>
        rcases hw with ⟨h_115, h_116, h_117, h_118⟩
        have h_118 : (x_111, x_112, x_113, w_114) = _ := h_118
        replace hEX := hEX.trans (exc4_eq h_118)
        refine lv_aload_n hx hb dX4_readUnit_120 rfl (lv_at hl 1 rfl) ?_
        refine lv_bipush (v := 41) hx hb dX4_readUnit_121 kc_bipush_41 ?_
        obtain ⟨hPc, hDc, hFc, hqc⟩ := cl_cut (wc := (wd_c_X9_expect_1 h1 h1_0 h1_f1 x_111 x_112 h1_0 h1_0k h1_0c)) hP hD hS hA [0, 1] (by decide +kernel) rfl
        have hKc := hK.sub (tys' := [(h1_0k, .int)]) [0] rfl
        have hrv := va_recv hKc hPc (ci := 9) (q0 := 0) rfl rfl
        refine va_callv (va_runV (As := [.int 41]) (rest := []) ⟨hx, hb, hml, hown, hts⟩ (c_X9_expect_1 l dC dI H.size h1 41 h1_0 h1_f1 x_111 x_112 h1_0k h1_0c (RG_w (RG_k 41 41 rfl) (by decide +kernel)) (RG_w h_73 (by decide +kernel)) h_115 h_116 a_h1_0c) (cwV 1 hts gf_c_X4_readUnit_4_c_X9_expect_1 rfl rfl rfl mdV_X9_expect ⟨Nat.le_of_ble_eq_true rfl, Nat.le_of_ble_eq_true rfl⟩) ⟨fun a U g mk q => by obtain ⟨q0, q1, qP, qK, qD⟩ := q; exact ⟨q0, q1, qP, va_K.moved (u := U) (U := U.calling g mk a) (Vm.Alike.refl U.vm) qK, qD⟩, hrv, fun U hU hW => ⟨rfl, by rw [hU], by rw [hU]; exact hPc, va_K.moved hW.alike hKc, hDc.weaken (fun _ _ _ _ => trivial)⟩⟩ rfl rfl hl.1 rfl (lv_room (Nat.le_of_ble_eq_true rfl)) dX4_readUnit_123 ⟨Nat.le_of_ble_eq_true rfl, Nat.le_of_ble_eq_true rfl⟩) hS (fun q _ h => hFc q h) hFc (fun u t H1 locs ht hvm hw hB hz1 hk1 hS => ?_)
        obtain ⟨x_120, x_121⟩ := u
        obtain ⟨hP1, hK1, hD1⟩ := hB
        rw [ht] at hP1
        obtain ⟨hP, hD⟩ := cl_put (w1 := (wd_c_X9_expect_1 h1 h1_0 h1_f1 x_120 x_121 h1_0 h1_0k h1_0c)) (nw := (wd_c_X4_readUnit_4 h1 h1_0 h1_f1 x_120 x_121 h1_0 h1_0k h1_0c h0 h0_0 x_113 h0_2 h0_0 h0_0k w_114)) hP hD [0, 1] [4, 5, 2, 3] 4 rfl hqc (by decide +kernel) rfl hk1 hFc hP1 hD1
        generalize H1 = H at hP hS ⊢
        as_aux_lemma =>
        rcases hw with ⟨h_122, h_123, h_124, h_125⟩
        have h_125 : (x_120, x_121) = _ := h_125
        replace hEX := hEX.trans (exc2_eq h_125)
        have hK9 := hK.sub (tys' := []) [] rfl
        exact W.vret hx hb hr (fun t ht hW => ⟨⟨(x_120, x_121, x_113, w_114), rfl, ⟨h_122, h_123, h_117, (hR.trans hEX).symm⟩, by rw [ht]; exact hP, va_K.moved hW.alike hK9, hD⟩, hS.F ht⟩) hS.2.2 dX4_readUnit_126
      · have h_100 : (r_89, x_90) = _ := h_100
        replace hEX := hEX.trans (exc2_eq h_100)
        replace hEX := hEX.trans (if_neg (fun q9 : r_89 = 0 => absurd ((show r_89 = 1 from h_95).symm.trans q9) (by decide +kernel)))
        rw [h_95]
        refine lv_if_eq (tgt := 105) hx hb dX4_readUnit_84 rfl (fun c_126 => absurd c_126 (by decide +kernel)) (fun c_126 => ?_)
        refine lv_aload_n hx hb dX4_readUnit_87 rfl (lv_at hl 0 rfl) ?_
        refine lv_aload_n hx hb dX4_readUnit_88 rfl (lv_at hl 1 rfl) ?_
        refine lv_iload_n hx hb dX4_readUnit_89 rfl (lv_at hl 2 rfl) ?_
        refine lv_iconst (v := 1) hx hb dX4_readUnit_90 kc_iconst_1 ?_
        as_aux_lemma =>
        refine lv_iadd hx hb dX4_readUnit_91 ?_
        refine lv_topi (fun x_127 ex_127 => ?_)
        obtain rfl : x_127 = 4 := ex_127.trans (by decide +kernel)
        refine lv_iconst (v := 0) hx hb dX4_readUnit_92 kc_iconst_0 ?_
        obtain ⟨hPc, hDc, hFc, hqc⟩ := cl_cut (wc := (wd_c_X4_readUnit_5 h1 h1_0 h1_f1 x_90 h1_f3 h1_0 h1_0k h1_0c h0 h0_0 h0_f1 h0_2 h0_0 h0_0k h0_0c)) hP hD hS hA [0, 1, 2, 3] (by decide +kernel) rfl
        have hKc := hK.sub (tys' := [(h1_0k, .int), (h0_0k, .int)]) [0, 1] rfl
        have hrv := va_recv hKc hPc (ci := 4) (q0 := 2) rfl rfl
        refine va_callv (va_runV (As := [.ref h1, .int 4, .int 0]) (rest := []) ⟨hx, hb, hml, hown, hts⟩ (c_X4_readUnit_5 l dC dI H.size h0 h1 h1_0 h1_f1 x_90 h1_f3 h1_0k h1_0c h0_0 h0_f1 h0_2 h0_0k h0_0c ts4 tv4 (RG_w h_73 (by decide +kernel)) (RG_w h_96 (by decide +kernel)) (RG_w h_98 (by decide +kernel)) a_h1_0c g_h0_f1) (cwV 3 hts gf_c_X4_readUnit_4_c_X4_readUnit_5 rfl rfl rfl mdV_X4_readUnit ⟨Nat.le_of_ble_eq_true rfl, Nat.le_of_ble_eq_true rfl⟩) ⟨fun a U g mk q => by obtain ⟨q0, q1, qP, qK, qD, qE0, qE1, qE2, qE3, qE4, qE5⟩ := q; exact ⟨q0, q1, qP, va_K.moved (u := U) (U := U.calling g mk a) (Vm.Alike.refl U.vm) qK, qD, vk_R.same rfl qE0, va_Z.moved (u := U) (U := U.calling g mk a) (Vm.Alike.refl U.vm) qE1, va_OF.moved (u := U) (U := U.calling g mk a) (Vm.Alike.refl U.vm) qE2, va_O.moved (u := U) (U := U.calling g mk a) (Vm.Alike.refl U.vm) qE3, va_OF.moved (u := U) (U := U.calling g mk a) (Vm.Alike.refl U.vm) qE4, va_T.moved (u := U) (U := U.calling g mk a) (Vm.Alike.refl U.vm) qE5⟩, hrv, fun U hU hW => ⟨rfl, by rw [hU], by rw [hU]; exact hPc, va_K.moved hW.alike hKc, hDc.weaken (fun _ _ _ _ => trivial), vk_R.warm hW hE_32, va_Z.moved hW.alike (by rw [hU]; exact (hE_10.kept hS.2.1).narrow hFc), va_OF.moved hW.alike (by rw [hU]; exact (hE_34.kept hS.2.1).narrow hFc), va_O.moved hW.alike (by rw [hU]; exact (hE_33.kept hS.2.1).narrow hFc), va_OF.moved hW.alike (by rw [hU]; exact (hE_35.kept hS.2.1).narrow hFc), va_T.moved hW.alike (by rw [hU]; exact (hE_36.kept hS.2.1).narrow hFc)⟩⟩ rfl rfl hl.1 rfl (lv_room (Nat.le_of_ble_eq_true rfl)) dX4_readUnit_93 ⟨Nat.le_of_ble_eq_true rfl, Nat.le_of_ble_eq_true rfl⟩) hS (fun q _ h => hFc q h) hFc (fun u t H1 locs ht hvm hw hB hz1 hk1 hS => ?_)
        obtain ⟨x_129, x_130, x_131, w_132⟩ := u
        obtain ⟨hP1, hK1, hD1⟩ := hB
        rw [ht] at hP1
        obtain ⟨hP, hD⟩ := cl_put (w1 := (wd_c_X4_readUnit_5 h1 h1_0 h1_f1 x_129 x_130 h1_0 h1_0k h1_0c h0 h0_0 x_131 h0_2 h0_0 h0_0k w_132)) (nw := (wd_c_X4_readUnit_4 h1 h1_0 h1_f1 x_129 x_130 h1_0 h1_0k h1_0c h0 h0_0 x_131 h0_2 h0_0 h0_0k w_132)) hP hD [0, 1, 2, 3] [4, 5, 6, 7] 4 rfl hqc (by decide +kernel) rfl hk1 hFc hP1 hD1
        generalize H1 = H at hP hS ⊢
        as_aux_lemma =>
        rcases hw with ⟨h_133, h_134, h_135, h_136⟩
        have h_136 : (x_129, x_130, x_131, w_132) = _ := h_136
        replace hEX := hEX.trans (exc4_eq h_136)
        refine lv_aload_n hx hb dX4_readUnit_96 rfl (lv_at hl 0 rfl) ?_
        refine lv_bipush (v := (-33)) hx hb dX4_readUnit_97 kc_bipush_m33 ?_
        obtain ⟨hPc, hDc, hFc, hqc⟩ := cl_cut (wc := (wd_c_X4_emit h0 h0_0 x_131 h0_2 h0_0 h0_0k w_132)) hP hD hS hA [2, 3] (by decide +kernel) rfl
        have hKc := hK.sub (tys' := [(h0_0k, .int)]) [1] rfl
        have hrv := va_recv hKc hPc (ci := 4) (q0 := 0) rfl rfl
        refine va_callv (va_runV (As := [.int (-33)]) (rest := []) ⟨hx, hb, hml, hown, hts⟩ (c_X4_emit l dC dI H.size h0 (-33) h0_0 x_131 h0_2 h0_0k w_132 h_135) (cwV 1 hts gf_c_X4_readUnit_4_c_X4_emit rfl rfl rfl mdV_X4_emit ⟨Nat.le_of_ble_eq_true rfl, Nat.le_of_ble_eq_true rfl⟩) ⟨fun a U g mk q => by obtain ⟨q0, q1, qP, qK, qD⟩ := q; exact ⟨q0, q1, qP, va_K.moved (u := U) (U := U.calling g mk a) (Vm.Alike.refl U.vm) qK, qD⟩, hrv, fun U hU hW => ⟨rfl, by rw [hU], by rw [hU]; exact hPc, va_K.moved hW.alike hKc, hDc.weaken (fun _ _ _ _ => trivial)⟩⟩ rfl rfl hl.1 rfl (lv_room (Nat.le_of_ble_eq_true rfl)) dX4_readUnit_99 ⟨Nat.le_of_ble_eq_true rfl, Nat.le_of_ble_eq_true rfl⟩) hS (fun q _ h => hFc q h) hFc (fun u t H1 locs ht hvm hw hB hz1 hk1 hS => ?_)
        obtain ⟨x_138, w_139⟩ := u
        obtain ⟨hP1, hK1, hD1⟩ := hB
        rw [ht] at hP1
        obtain ⟨hP, hD⟩ := cl_put (w1 := (wd_c_X4_emit h0 h0_0 x_138 h0_2 h0_0 h0_0k w_139)) (nw := (wd_c_X4_readUnit_4 h1 h1_0 h1_f1 x_129 x_130 h1_0 h1_0k h1_0c h0 h0_0 x_138 h0_2 h0_0 h0_0k w_139)) hP hD [2, 3] [0, 1, 4, 5] 4 rfl hqc (by decide +kernel) rfl hk1 hFc hP1 hD1
        generalize H1 = H at hP hS ⊢
        as_aux_lemma =>
        rcases hw with ⟨h_140, h_141⟩
        have h_141 : (x_138, w_139) = _ := h_141
        replace hEX := hEX.trans (exc2_eq h_141)
        refine lv_goto (tgt := 126) hx hb dX4_readUnit_102 rfl ?_
        have hK9 := hK.sub (tys' := []) [] rfl
        exact W.vret hx hb hr (fun t ht hW => ⟨⟨(x_129, x_130, x_138, w_139), rfl, ⟨h_133, h_134, (RG_w h_140 (by decide +kernel)), (hR.trans hEX).symm⟩, by rw [ht]; exact hP, va_K.moved hW.alike hK9, hD⟩, hS.F ht⟩) hS.2.2 dX4_readUnit_126
noncomputable def wd_c_X4_readCondition_3 (a0 : Nat) (a1 : Nat) (a2 : Int32) (a3 : Int32) (a4 : Int32) (a5 : Nat) (a6 : ClassId) (a7 : Nat → Int32) (a8 : Nat) (a9 : Nat) (a10 : Int32) (a11 : Nat) (a12 : Nat) (a13 : ClassId) (a14 : Nat → Int32) : va_W := [(a0, .inr (9, [.ref a1, .int a2, .int a3, .int a4])), (a5, .inl (a6, 240, .inl a7)), (a8, .inr (4, [.ref a9, .int a10, .ref a11])), (a12, .inl (a13, 240, .inl a14))]
noncomputable def wf_c_X4_readCondition_3 : List Cond := List.cons (.code yX4_readCondition cX4_readCondition 7 none) (@HAppend.hAppend (List Cond) (List Cond) (List Cond) _ (@HAppend.hAppend (List Cond) (List Cond) (List Cond) _ [.methodLink RX4 72 yX9_isRight, .instanceMethod yX9_isRight, .selects RX9 yX9_isRight yX9_isRight, .initialized RX9, .code yX9_isRight cX9_isRight 1 (some .boolean), .fieldLink RX9 15 "BuoyVote$Tape" "wrong" "I", .methodLink RX4 76 yX4_readUnit, .instanceMethod yX4_readUnit, .selects RX4 yX4_readUnit yX4_readUnit, .initialized RX4, .code yX4_readUnit cX4_readUnit 5 none, .methodLink RX4 41 yX9_peek, .instanceMethod yX9_peek, .selects RX9 yX9_peek yX9_peek, .code yX9_peek cX9_peek 1 (some .int), .fieldLink RX9 22 "BuoyVote$Tape" "at" "I", .fieldLink RX9 19 "BuoyVote$Tape" "length" "I", .fieldLink RX9 11 "BuoyVote$Tape" "bytes" "[I", .methodLink RX4 45 yX4_startsUnit, .static yX4_startsUnit, .code yX4_startsUnit cX4_startsUnit 1 (some .boolean), .methodLink RX4 63 yX9_take, .instanceMethod yX9_take, .selects RX9 yX9_take yX9_take, .code yX9_take cX9_take 2 (some .boolean), .methodLink RX9 29 yX9_peek, .methodLink RX4 37 yX9_expect, .instanceMethod yX9_expect, .selects RX9 yX9_expect yX9_expect, .code yX9_expect cX9_expect 2 none, .methodLink RX9 25 yX9_refuse, .instanceMethod yX9_refuse, .selects RX9 yX9_refuse yX9_refuse, .code yX9_refuse cX9_refuse 2 none, .methodLink RX4 56 yX4_readCondition, .instanceMethod yX4_readCondition, .selects RX4 yX4_readCondition yX4_readCondition, .methodLink RX4 82 yX9_refuseHere, .instanceMethod yX9_refuseHere, .selects RX9 yX9_refuseHere yX9_refuseHere, .code yX9_refuseHere cX9_refuseHere 1 none, .methodLink RX4 49 yX4_readSum, .instanceMethod yX4_readSum, .selects RX4 yX4_readSum yX4_readSum, .code yX4_readSum cX4_readSum 6 none, .methodLink RX4 85 yX4_readAtom, .instanceMethod yX4_readAtom, .selects RX4 yX4_readAtom yX4_readAtom, .code yX4_readAtom cX4_readAtom 6 none, .methodLink RX4 93 yJ0_indexOf_0f7a4, .instanceMethod yJ0_indexOf_0f7a4, .selects RJ0 yJ0_indexOf_0f7a4 yJ0_indexOf_0f7a4, .initialized RJ0, .code yJ0_indexOf_0f7a4 cJ0_indexOf_0f7a4 2 (some .int), .methodLink RJ0 633 yJ0_indexOf_7cf53, .instanceMethod yJ0_indexOf_7cf53, .selects RJ0 yJ0_indexOf_7cf53 yJ0_indexOf_7cf53, .code yJ0_indexOf_7cf53 cJ0_indexOf_7cf53 3 (some .int), .methodLink RJ0 492 yJ0_isLatin1_aae02, .instanceMethod yJ0_isLatin1_aae02, .selects RJ0 yJ0_isLatin1_aae02 yJ0_isLatin1_aae02, .code yJ0_isLatin1_aae02 cJ0_isLatin1_aae02 1 (some .boolean), .fieldLink RJ0 38 "java/lang/String" "COMPACT_STRINGS" "Z", .fieldLink RJ0 15 "java/lang/String" "coder" "B", .fieldLink RJ0 9 "java/lang/String" "value" "[B", .methodLink RJ0 505 yJ0_length_8abf5, .instanceMethod yJ0_length_8abf5, .selects RJ0 yJ0_length_8abf5 yJ0_length_8abf5, .code yJ0_length_8abf5 cJ0_length_8abf5 1 (some .int), .methodLink RJ0 335 yJ0_coder_7d493, .instanceMethod yJ0_coder_7d493, .selects RJ0 yJ0_coder_7d493 yJ0_coder_7d493, .code yJ0_coder_7d493 cJ0_coder_7d493 1 (some .byte), .methodLink RJ0 637 yJ1_indexOf_4cfef, .static yJ1_indexOf_4cfef, .initialized RJ1, .code yJ1_indexOf_4cfef cJ1_indexOf_4cfef 4 (some .int), .methodLink RJ1 88 yJ1_canEncode_9a6ad, .static yJ1_canEncode_9a6ad, .code yJ1_canEncode_9a6ad cJ1_canEncode_9a6ad 1 (some .boolean), .methodLink RJ1 92 Lib.Math.max.name, .static Lib.Math.max.name, .initialized "java/lang/Math", .code Lib.Math.max.name Lib.Math.max.code 2 (some .int), .methodLink RJ1 38 Lib.Math.min.name, .static Lib.Math.min.name, .code Lib.Math.min.name Lib.Math.min.code 2 (some .int), .methodLink RJ1 95 yJ1_indexOfChar_4cfef, .static yJ1_indexOfChar_4cfef, .code yJ1_indexOfChar_4cfef cJ1_indexOfChar_4cfef 6 (some .int), .methodLink RX4 99 yX9_number, .instanceMethod yX9_number, .selects RX9 yX9_number yX9_number, .code yX9_number cX9_number 4 (some .int), .methodLink RX4 79 yX9_skip, .instanceMethod yX9_skip, .selects RX9 yX9_skip yX9_skip, .code yX9_skip cX9_skip 1 none, .methodLink RX4 60 yX4_emit, .instanceMethod yX4_emit, .selects RX4 yX4_emit yX4_emit, .code yX4_emit cX4_emit 2 none, .fieldLink RX4 20 "BuoyVote$Law" "length" "I", .fieldLink RX4 11 "BuoyVote$Law" "code" "[I", .methodLink RX4 88 yX9_takeEither, .instanceMethod yX9_takeEither, .selects RX9 yX9_takeEither yX9_takeEither, .code yX9_takeEither cX9_takeEither 4 (some .int), .methodLink RX4 53 yX4_isComparison, .static yX4_isComparison, .code yX4_isComparison cX4_isComparison 1 (some .boolean)] wsX90) wsX40)
theorem iw_c_X4_readCondition_3_X9 : ∀ w ∈ wsX90, w ∈ wf_c_X4_readCondition_3 := fun w h => List.mem_cons_of_mem _ (List.mem_append_left _ (List.mem_append_right _ h))
theorem iw_c_X4_readCondition_3_X4 : ∀ w ∈ wsX40, w ∈ wf_c_X4_readCondition_3 := fun w h => List.mem_cons_of_mem _ (List.mem_append_right _ h)
set_option maxRecDepth 20000 in
theorem gf_c_X4_readCondition_3_c_X9_take_1 : GoodIn wf_c_X4_readCondition_3 (wsV RX4 63 RX9 yX9_take wf_c_X9_take_1) := goodIn_app (gi_l [22, 23, 24, 4] rfl rfl) (gi_cons (j := 25) rfl rfl (goodIn_app (gi_l [6, 26, 13, 14, 4, 15, 16, 17, 18] rfl rfl) (goodIn_sub iw_c_X4_readCondition_3_X9 gw_X9)))
set_option maxRecDepth 20000 in
theorem gf_c_X4_readCondition_3_c_X9_take : GoodIn wf_c_X4_readCondition_3 (wsV RX4 63 RX9 yX9_take wf_c_X9_take) := goodIn_app (gi_l [22, 23, 24, 4] rfl rfl) (gi_cons (j := 25) rfl rfl (goodIn_app (gi_l [6, 26, 13, 14, 4, 15, 16, 17, 18] rfl rfl) (goodIn_sub iw_c_X4_readCondition_3_X9 gw_X9)))
set_option maxRecDepth 20000 in
theorem gf_c_X4_readCondition_3_c_X4_emit : GoodIn wf_c_X4_readCondition_3 (wsV RX4 60 RX4 yX4_emit wf_c_X4_emit) := goodIn_app (gi_l [99, 100, 101, 10] rfl rfl) (gi_cons (j := 102) rfl rfl (goodIn_app (gi_l [103, 104] rfl rfl) (goodIn_sub iw_c_X4_readCondition_3_X4 gw_X4)))
set_option maxRecDepth 20000 in
theorem gf_c_X4_readCondition_3_c_X4_readUnit_4 : GoodIn wf_c_X4_readCondition_3 (wsV RX4 76 RX4 yX4_readUnit wf_c_X4_readUnit_4) := goodIn_app (gi_l [7, 8, 9, 10] rfl rfl) (gi_cons (j := 11) rfl rfl (goodIn_app (goodIn_app (gi_l [12, 13, 14, 4, 15, 16, 17, 18, 19, 20, 10, 21, 22, 23, 24, 25, 6, 26, 27, 28, 29, 30, 31, 32, 33, 34, 35, 36, 37, 0, 1, 2, 3, 5, 7, 8, 9, 38, 39, 40, 41, 42, 43, 44, 45, 46, 47, 48, 49, 50, 51, 52, 53, 54, 55, 56, 57, 58, 59, 60, 61, 62, 63, 64, 65, 66, 67, 68, 69, 70, 71, 72, 73, 74, 75, 76, 77, 78, 79, 80, 81, 82, 83, 84, 85, 86, 87, 88, 89, 90, 91, 92, 93, 94, 95, 96, 97, 98, 99, 100, 101, 102, 103, 104, 105, 106, 107, 108, 109, 110, 111] rfl rfl) (goodIn_sub iw_c_X4_readCondition_3_X9 gw_X9)) (goodIn_sub iw_c_X4_readCondition_3_X4 gw_X4)))
set_option maxRecDepth 20000 in
theorem gf_c_X4_readCondition_3_c_X9_isRight : GoodIn wf_c_X4_readCondition_3 (wsV RX4 72 RX9 yX9_isRight wf_c_X9_isRight) := goodIn_app (gi_l [1, 2, 3, 4] rfl rfl) (gi_cons (j := 5) rfl rfl (goodIn_app (gi_l [6] rfl rfl) (goodIn_sub iw_c_X4_readCondition_3_X9 gw_X9)))
set_option maxHeartbeats 4000000 in
set_option maxRecDepth 100000 in
theorem c_X4_readCondition_3 (l : Launch) (dC : Nat → ClassId) (dI : Nat → Nat → Nat) (sz : Nat) (h0 : Nat) (h1 : Nat) (h1_0 : Nat) (h1_f1 : Int32) (h1_f2 : Int32) (h1_f3 : Int32) (h1_0k : ClassId) (h1_0c : Nat → Int32) (h0_0 : Nat) (h0_f1 : Int32) (h0_2 : Nat) (h0_0k : ClassId) (h0_0c : Nat → Int32) (ts4 : Nat) (tv4 : Nat) (g_h1_f1 : RG h1_f1 0 240) (g_h1_f2 : RG h1_f2 0 240) (g_h1_f3 : RG h1_f3 (-1) 240) (a_h1_0c : AI h1_0c 0 255) (g_h0_f1 : RG h0_f1 0 240) : Met l yX4_readCondition wf_c_X4_readCondition_3 ({ frames := 13, cells := 0, slots := 0, locals := 315 }) (va_Pc [.ref h0, .ref h1, .int 3, .int 0] (fun U => U.heap.size = sz ∧ va_P (dC, dI) vwCl (wd_c_X4_readCondition_3 h1 h1_0 h1_f1 h1_f2 h1_f3 h1_0 h1_0k h1_0c h0 h0_0 h0_f1 h0_2 h0_0 h0_0k h0_0c) U.heap ∧ va_K (dC, dI) vwCl [(h1_0k, .int), (h0_0k, .int)] U ∧ va_D (fun _ => True) (wd_c_X4_readCondition_3 h1 h1_0 h1_f1 h1_f2 h1_f3 h1_0 h1_0k h1_0c h0 h0_0 h0_f1 h0_2 h0_0 h0_0k h0_0c) ∧ vk_R RX4 91 "vlrdph" ts4 U ∧ va_Z "java/lang/String" "COMPACT_STRINGS" "Z" (.int 1) (va_A (wd_c_X4_readCondition_3 h1 h1_0 h1_f1 h1_f2 h1_f3 h1_0 h1_0k h1_0c h0 h0_0 h0_f1 h0_2 h0_0 h0_0k h0_0c) sz) U U.heap ∧ va_OF "java/lang/String" "coder" "B" (.int 0) ts4 (va_A (wd_c_X4_readCondition_3 h1 h1_0 h1_f1 h1_f2 h1_f3 h1_0 h1_0k h1_0c h0 h0_0 h0_f1 h0_2 h0_0 h0_0k h0_0c) sz) U U.heap ∧ va_O "java/lang/String" ts4 (va_A (wd_c_X4_readCondition_3 h1 h1_0 h1_f1 h1_f2 h1_f3 h1_0 h1_0k h1_0c h0 h0_0 h0_f1 h0_2 h0_0 h0_0k h0_0c) sz) U U.heap ∧ va_OF "java/lang/String" "value" "[B" (.ref tv4) ts4 (va_A (wd_c_X4_readCondition_3 h1 h1_0 h1_f1 h1_f2 h1_f3 h1_0 h1_0k h1_0c h0 h0_0 h0_f1 h0_2 h0_0 h0_0k h0_0c) sz) U U.heap ∧ va_T .byte tv4 6 (fun j => .int ([118, 108, 114, 100, 112, 104].getD j 0)) (va_A (wd_c_X4_readCondition_3 h1 h1_0 h1_f1 h1_f2 h1_f3 h1_0 h1_0k h1_0c h0 h0_0 h0_f1 h0_2 h0_0 h0_0k h0_0c) sz) U U.heap)) (va_Qv (fun (u : (Int32) × (Int32) × (Int32) × (Nat → Int32)) => (RG u.1 0 240 ∧ RG u.2.1 (-1) 240 ∧ RG u.2.2.1 0 240 ∧ (u.1, u.2.1, u.2.2.1, u.2.2.2) = fx_c_X4_readCondition_3 h1_f1 h1_f2 h1_f3 h1_0c h0_f1 h0_0c)) (fun (u : (Int32) × (Int32) × (Int32) × (Nat → Int32)) t => va_P (dC, dI) vwCl (wd_c_X4_readCondition_3 h1 h1_0 h1_f1 (u.1) (u.2.1) h1_0 h1_0k h1_0c h0 h0_0 (u.2.2.1) h0_2 h0_0 h0_0k (u.2.2.2)) t.heap ∧ va_K (dC, dI) vwCl [] t ∧ va_D (va_A (wd_c_X4_readCondition_3 h1 h1_0 h1_f1 h1_f2 h1_f3 h1_0 h1_0k h1_0c h0 h0_0 h0_f1 h0_2 h0_0 h0_0k h0_0c) sz) (wd_c_X4_readCondition_3 h1 h1_0 h1_f1 (u.1) (u.2.1) h1_0 h1_0k h1_0c h0 h0_0 (u.2.2.1) h0_2 h0_0 h0_0k (u.2.2.2))) (va_A (wd_c_X4_readCondition_3 h1 h1_0 h1_f1 h1_f2 h1_f3 h1_0 h1_0k h1_0c h0 h0_0 h0_f1 h0_2 h0_0 h0_0k h0_0c) sz)) 0 0 (va_A (wd_c_X4_readCondition_3 h1 h1_0 h1_f1 h1_f2 h1_f3 h1_0 h1_0k h1_0c h0 h0_0 h0_f1 h0_2 h0_0 h0_0k h0_0c) sz) := by
  refine Met.ofW (cc := cX4_readCondition) (maxL := 7) (ret := none) (by decide +kernel) rfl ?_
  intro p e s m args below meth c s₁ B hml hv
  obtain ⟨rfl, hsz, hP, hK, hD0, hE_32, hE_10, hE_34, hE_33, hE_35, hE_36⟩ := hv
  have hx := B.exec
  have hb := B.bytes
  have hr := B.returns
  have hts := atoms_spec (ws := wf_c_X4_readCondition_3) B.pre
  have hown : s.vm.findClass RX4 = some m.cls := findClass_of_methodNamed B.named
  have hlocks := B.notSynchronized
  subst hsz
  have hD := hD0.self (sz := s.heap.size)
  generalize hAe : va_A (wd_c_X4_readCondition_3 h1 h1_0 h1_f1 h1_f2 h1_f3 h1_0 h1_0k h1_0c h0 h0_0 h0_f1 h0_2 h0_0 h0_0k h0_0c) s.heap.size = A at hD hE_10 hE_34 hE_33 hE_35 hE_36 ⊢
  have hA : ∀ q : Nat, s.heap.size ≤ q → A q := fun q h => by rw [← hAe]; exact Or.inr h
  have hP : va_P (dC, dI) vwCl (wd_c_X4_readCondition_3 h1 h1_0 h1_f1 h1_f2 h1_f3 h1_0 h1_0k h1_0c h0 h0_0 h0_f1 h0_2 h0_0 h0_0k h0_0c) s.heap := hP
  have hl := lv_entry ([.ref h0, .ref h1, .int 3, .int 0]) (n := 7) (Nat.le_of_ble_eq_true rfl)
  rw [lg_entry_eq]
  generalize (lg_sl ([.ref h0, .ref h1, .int 3, .int 0]) ++ List.replicate (7 - (lg_sl ([.ref h0, .ref h1, .int 3, .int 0])).length) Slot.unset).toArray = ls at hl ⊢
  have hl : lv_has ls 7 [(0, .ref h0), (1, .ref h1), (2, .int 3), (3, .int 0)] := hl
  obtain ⟨H, hHe⟩ : ∃ H : Heap, s.heap = H := ⟨_, rfl⟩
  have hS : va_S A s.heap H [] := by rw [hHe]; exact va_S.rf
  have hP : va_P (dC, dI) vwCl (wd_c_X4_readCondition_3 h1 h1_0 h1_f1 h1_f2 h1_f3 h1_0 h1_0k h1_0c h0 h0_0 h0_f1 h0_2 h0_0 h0_0k h0_0c) H := by rw [← hHe]; exact hP
  rw [hHe]
  obtain ⟨RES, hR⟩ : ∃ z, fx_c_X4_readCondition_3 h1_f1 h1_f2 h1_f3 h1_0c h0_f1 h0_0c = z := ⟨_, rfl⟩
  have hEX : RES = fx_c_X4_readCondition_3 h1_f1 h1_f2 h1_f3 h1_0c h0_f1 h0_0c := hR.symm
  refine wj (fun G hG hU => ?_)
  as_aux_lemma =>
  have J9 : ∀ (n9 : Nat) (j9_l6 : Int32) (j9_l5 : Int32) (j9_l4 : Int32) (j9_h1_f2 : Int32) (j9_h1_f3 : Int32) (j9_h0_f1 : Int32) (j9_h0_0c : Nat → Int32) (hM9 : MU j9_l6 < n9) (g_h0_f1 : RG h0_f1 0 240) (g_h1_f1 : RG h1_f1 0 240) (g_h1_f2 : RG h1_f2 0 240) (g_h1_f3 : RG h1_f3 (-1) 240) (g_j9_h0_f1 : RG j9_h0_f1 0 240) (g_j9_h1_f2 : RG j9_h1_f2 0 240) (g_j9_h1_f3 : RG j9_h1_f3 (-1) 240) (g_j9_l4 : RG j9_l4 0 1) (g_j9_l5 : RG j9_l5 0 1) (g_j9_l6 : RG j9_l6 0 240) (hEX : RES = fx_c_X4_readCondition_3_p9 h1_f1 h1_0c n9 j9_l6 j9_l5 j9_l4 j9_h1_f2 j9_h1_f3 j9_h0_f1 j9_h0_0c) (H : Heap) (locs : List Loc) (ls : Array Slot) (hP : va_P (dC, dI) vwCl (wd_c_X4_readCondition_3 h1 h1_0 h1_f1 j9_h1_f2 j9_h1_f3 h1_0 h1_0k h1_0c h0 h0_0 j9_h0_f1 h0_2 h0_0 h0_0k j9_h0_0c) H) (hD : va_D A (wd_c_X4_readCondition_3 h1 h1_0 h1_f1 j9_h1_f2 j9_h1_f3 h1_0 h1_0k h1_0c h0 h0_0 j9_h0_f1 h0_2 h0_0 h0_0k j9_h0_0c)) (hS : va_S A s.heap H locs) (hl : lv_has ls 7 [(6, .int j9_l6), (5, .int j9_l5), (4, .int j9_l4), (0, .ref h0), (1, .ref h1), (2, .int 3), (3, .int 0)]), G H locs (F0 m 9 ls []) := by
    as_aux_lemma =>
    intro n9
    induction n9 with
    | zero => intros; exact absurd (by assumption) (Nat.not_lt_zero _)
    | succ n9 ih9 =>
      intro j9_l6 j9_l5 j9_l4 j9_h1_f2 j9_h1_f3 j9_h0_f1 j9_h0_0c hM9 g_h0_f1 g_h1_f1 g_h1_f2 g_h1_f3 g_j9_h0_f1 g_j9_h1_f2 g_j9_h1_f3 g_j9_l4 g_j9_l5 g_j9_l6 hEX H locs ls hP hD hS hl
      have J93 : ∀ (j93_l4 : Int32) (j93_l5 : Int32) (j93_h1_f2 : Int32) (j93_h1_f3 : Int32) (j93_h0_f1 : Int32) (j93_h0_0c : Nat → Int32) (g_h0_f1 : RG h0_f1 0 240) (g_h1_f1 : RG h1_f1 1 240) (g_h1_f2 : RG h1_f2 0 240) (g_h1_f3 : RG h1_f3 (-1) 240) (g_j93_h0_f1 : RG j93_h0_f1 0 240) (g_j93_h1_f2 : RG j93_h1_f2 1 240) (g_j93_h1_f3 : RG j93_h1_f3 (-1) (-1)) (g_j93_l4 : RG j93_l4 0 1) (g_j93_l5 : RG j93_l5 0 1) (g_j9_h0_f1 : RG j9_h0_f1 0 240) (g_j9_h1_f2 : RG j9_h1_f2 0 240) (g_j9_h1_f3 : RG j9_h1_f3 (-1) (-1)) (g_j9_l4 : RG j9_l4 0 1) (g_j9_l5 : RG j9_l5 0 1) (g_j9_l6 : RG j9_l6 0 239) (hEX : RES = fx_c_X4_readCondition_3_p93 j9_l6 (fx_c_X4_readCondition_3_p9 h1_f1 h1_0c n9) j93_l4 j93_l5 j93_h1_f2 j93_h1_f3 j93_h0_f1 j93_h0_0c) (H : Heap) (locs : List Loc) (ls : Array Slot) (hP : va_P (dC, dI) vwCl (wd_c_X4_readCondition_3 h1 h1_0 h1_f1 j93_h1_f2 j93_h1_f3 h1_0 h1_0k h1_0c h0 h0_0 j93_h0_f1 h0_2 h0_0 h0_0k j93_h0_0c) H) (hD : va_D A (wd_c_X4_readCondition_3 h1 h1_0 h1_f1 j93_h1_f2 j93_h1_f3 h1_0 h1_0k h1_0c h0 h0_0 j93_h0_f1 h0_2 h0_0 h0_0k j93_h0_0c)) (hS : va_S A s.heap H locs) (hl : lv_has ls 7 [(4, .int j93_l4), (6, .int j9_l6), (5, .int j93_l5), (0, .ref h0), (1, .ref h1), (2, .int 3), (3, .int 0)]), G H locs (F0 m 93 ls []) := by
        as_aux_lemma =>
        intro j93_l4 j93_l5 j93_h1_f2 j93_h1_f3 j93_h0_f1 j93_h0_0c g_h0_f1 g_h1_f1 g_h1_f2 g_h1_f3 g_j93_h0_f1 g_j93_h1_f2 g_j93_h1_f3 g_j93_l4 g_j93_l5 g_j9_h0_f1 g_j9_h1_f2 g_j9_h1_f3 g_j9_l4 g_j9_l5 g_j9_l6 hEX H locs ls hP hD hS hl
        refine hG _ _ _ ?_
        obtain ⟨x_1, ex_1⟩ : ∃ y : Int32, y = j9_l6 + 1 := ⟨_, rfl⟩
        have g_2 : RG x_1 1 240 := RG_add ex_1 g_j9_l6 (RG_k 1 1 rfl) (by decide +kernel)
        replace hEX := hEX.trans (exl_eq ex_1)
        refine lv_iinc (v := x_1) (lv' := [(6, .int x_1), (4, .int j93_l4), (5, .int j93_l5), (0, .ref h0), (1, .ref h1), (2, .int 3), (3, .int 0)]) hx hb dX4_readCondition_93 hl (k := 1) rfl (by rw [ex_1]; rfl) (Nat.le_of_ble_eq_true rfl) rfl (fun ls hl => ?_)
        refine lv_goto (tgt := 9) hx hb dX4_readCondition_96 rfl ?_
        exact hU _ _ _ (ih9 x_1 j93_l5 j93_l4 j93_h1_f2 j93_h1_f3 j93_h0_f1 j93_h0_0c (mu_s (MU_add ex_1 g_j9_l6 (q := 1) rfl (by decide +kernel)) hM9) g_h0_f1 (RG_w g_h1_f1 (by decide +kernel)) g_h1_f2 g_h1_f3 g_j93_h0_f1 (RG_w g_j93_h1_f2 (by decide +kernel)) (RG_w g_j93_h1_f3 (by decide +kernel)) g_j93_l4 g_j93_l5 (RG_w g_2 (by decide +kernel)) hEX _ _ _ hP hD hS (lv_sub hl [0, 2, 1, 3, 4, 5, 6] rfl))
      have J79 : ∀ (j79_h1_f2 : Int32) (j79_h1_f3 : Int32) (j79_h0_f1 : Int32) (j79_h0_0c : Nat → Int32) (g_h0_f1 : RG h0_f1 0 240) (g_h1_f1 : RG h1_f1 0 240) (g_h1_f2 : RG h1_f2 0 240) (g_h1_f3 : RG h1_f3 (-1) 240) (g_j79_h0_f1 : RG j79_h0_f1 0 240) (g_j79_h1_f2 : RG j79_h1_f2 0 240) (g_j79_h1_f3 : RG j79_h1_f3 (-1) 240) (g_j9_h0_f1 : RG j9_h0_f1 0 240) (g_j9_h1_f2 : RG j9_h1_f2 0 240) (g_j9_h1_f3 : RG j9_h1_f3 (-1) (-1)) (g_j9_l4 : RG j9_l4 0 1) (g_j9_l5 : RG j9_l5 0 1) (g_j9_l6 : RG j9_l6 0 239) (hEX : RES = fx_c_X4_readCondition_3_p79 h1_f1 h1_0c j9_l6 (fx_c_X4_readCondition_3_p9 h1_f1 h1_0c n9) j79_h1_f2 j79_h1_f3 j79_h0_f1 j79_h0_0c) (H : Heap) (locs : List Loc) (ls : Array Slot) (hP : va_P (dC, dI) vwCl (wd_c_X4_readCondition_3 h1 h1_0 h1_f1 j79_h1_f2 j79_h1_f3 h1_0 h1_0k h1_0c h0 h0_0 j79_h0_f1 h0_2 h0_0 h0_0k j79_h0_0c) H) (hD : va_D A (wd_c_X4_readCondition_3 h1 h1_0 h1_f1 j79_h1_f2 j79_h1_f3 h1_0 h1_0k h1_0c h0 h0_0 j79_h0_f1 h0_2 h0_0 h0_0k j79_h0_0c)) (hS : va_S A s.heap H locs) (hl : lv_has ls 7 [(4, .int 0), (6, .int j9_l6), (0, .ref h0), (1, .ref h1), (2, .int 3), (3, .int 0)]), G H locs (F0 m 79 ls []) := by
        as_aux_lemma =>
        intro j79_h1_f2 j79_h1_f3 j79_h0_f1 j79_h0_0c g_h0_f1 g_h1_f1 g_h1_f2 g_h1_f3 g_j79_h0_f1 g_j79_h1_f2 g_j79_h1_f3 g_j9_h0_f1 g_j9_h1_f2 g_j9_h1_f3 g_j9_l4 g_j9_l5 g_j9_l6 hEX H locs ls hP hD hS hl
        refine hG _ _ _ ?_
        refine lv_aload_n hx hb dX4_readCondition_79 rfl (lv_at hl 3 rfl) ?_
        refine lv_bipush (v := 124) hx hb dX4_readCondition_80 kc_bipush_124 ?_
        obtain ⟨hPc, hDc, hFc, hqc⟩ := cl_cut (wc := (wd_c_X9_take_1 h1 h1_0 h1_f1 j79_h1_f2 j79_h1_f3 h1_0 h1_0k h1_0c)) hP hD hS hA [0, 1] (by decide +kernel) rfl
        have hKc := hK.sub (tys' := [(h1_0k, .int)]) [0] rfl
        have hrv := va_recv hKc hPc (ci := 9) (q0 := 0) rfl rfl
        refine va_calli (va_runV (As := [.int 124]) (rest := []) ⟨hx, hb, hml, hown, hts⟩ (c_X9_take_1 l dC dI H.size h1 124 h1_0 h1_f1 j79_h1_f2 j79_h1_f3 h1_0k h1_0c (RG_w (RG_k 124 124 rfl) (by decide +kernel)) g_h1_f1 g_j79_h1_f2 g_j79_h1_f3 a_h1_0c) (cwV 1 hts gf_c_X4_readCondition_3_c_X9_take_1 rfl rfl rfl mdV_X9_take ⟨Nat.le_of_ble_eq_true rfl, Nat.le_of_ble_eq_true rfl⟩) ⟨fun a U g mk q => by obtain ⟨q0, q1, qP, qK, qD⟩ := q; exact ⟨q0, q1, qP, va_K.moved (u := U) (U := U.calling g mk a) (Vm.Alike.refl U.vm) qK, qD⟩, hrv, fun U hU hW => ⟨rfl, by rw [hU], by rw [hU]; exact hPc, va_K.moved hW.alike hKc, hDc.weaken (fun _ _ _ _ => trivial)⟩⟩ rfl rfl hl.1 rfl (lv_room (Nat.le_of_ble_eq_true rfl)) dX4_readCondition_82 ⟨Nat.le_of_ble_eq_true rfl, Nat.le_of_ble_eq_true rfl⟩) hS (fun q _ h => hFc q h) hFc (fun r_3 x_4 t H1 locs ht hvm hw hB hz1 hk1 hS => ?_)
        obtain ⟨hP1, hK1, hD1⟩ := hB
        rw [ht] at hP1
        obtain ⟨hP, hD⟩ := cl_put (w1 := (wd_c_X9_take_1 h1 h1_0 h1_f1 x_4 j79_h1_f3 h1_0 h1_0k h1_0c)) (nw := (wd_c_X4_readCondition_3 h1 h1_0 h1_f1 x_4 j79_h1_f3 h1_0 h1_0k h1_0c h0 h0_0 j79_h0_f1 h0_2 h0_0 h0_0k j79_h0_0c)) hP hD [0, 1] [4, 5, 2, 3] 4 rfl hqc (by decide +kernel) rfl hk1 hFc hP1 hD1
        generalize H1 = H at hP hS ⊢
        as_aux_lemma =>
        rcases hw with ⟨h_5, h_6, h_7, h_8⟩ | ⟨h_9, h_10, h_11, h_12, h_13, h_14⟩
        · have h_8 : (r_3, x_4) = _ := h_8
          replace hEX := hEX.trans (exc2_eq h_8)
          replace hEX := hEX.trans (if_pos (show r_3 = 0 from h_5))
          rw [h_5]
          refine lv_istore (lv' := [(5, .int 0), (4, .int 0), (6, .int j9_l6), (0, .ref h0), (1, .ref h1), (2, .int 3), (3, .int 0)]) hx hb dX4_readCondition_85 hl (Nat.le_of_ble_eq_true rfl) rfl (fun ls hl => ?_)
          refine lv_iload hx hb dX4_readCondition_87 (lv_at hl 0 rfl) ?_
          refine lv_if_ne (tgt := 93) hx hb dX4_readCondition_89 rfl (fun c_15 => absurd c_15 (by decide +kernel)) (fun c_15 => ?_)
          have hK9 := hK.sub (tys' := []) [] rfl
          exact W.vret hx hb hr (fun t ht hW => ⟨⟨(x_4, j79_h1_f3, j79_h0_f1, j79_h0_0c), rfl, ⟨h_6, g_j79_h1_f3, g_j79_h0_f1, (hR.trans hEX).symm⟩, by rw [ht]; exact hP, va_K.moved hW.alike hK9, hD⟩, hS.F ht⟩) hS.2.2 dX4_readCondition_92
        · have h_14 : (r_3, x_4) = _ := h_14
          replace hEX := hEX.trans (exc2_eq h_14)
          replace hEX := hEX.trans (if_neg (fun q9 : r_3 = 0 => absurd ((show r_3 = 1 from h_9).symm.trans q9) (by decide +kernel)))
          rw [h_9]
          refine lv_istore (lv' := [(5, .int 1), (4, .int 0), (6, .int j9_l6), (0, .ref h0), (1, .ref h1), (2, .int 3), (3, .int 0)]) hx hb dX4_readCondition_85 hl (Nat.le_of_ble_eq_true rfl) rfl (fun ls hl => ?_)
          as_aux_lemma =>
          refine lv_iload hx hb dX4_readCondition_87 (lv_at hl 0 rfl) ?_
          refine lv_if_ne (tgt := 93) hx hb dX4_readCondition_89 rfl (fun c_16 => ?_) (fun c_16 => absurd c_16 (by decide +kernel))
          exact hU _ _ _ (J93 0 1 x_4 j79_h1_f3 j79_h0_f1 j79_h0_0c g_h0_f1 h_11 g_h1_f2 g_h1_f3 g_j79_h0_f1 h_10 h_12 (RG_w (RG_k 0 0 rfl) (by decide +kernel)) (RG_w (RG_k 1 1 rfl) (by decide +kernel)) g_j9_h0_f1 g_j9_h1_f2 g_j9_h1_f3 g_j9_l4 g_j9_l5 g_j9_l6 hEX _ _ _ hP hD hS (lv_sub hl [1, 2, 0, 3, 4, 5, 6] rfl))
      have J55 : ∀ (j55_h1_f2 : Int32) (j55_h1_f3 : Int32) (j55_h0_f1 : Int32) (j55_h0_0c : Nat → Int32) (g_h0_f1 : RG h0_f1 0 240) (g_h1_f1 : RG h1_f1 0 240) (g_h1_f2 : RG h1_f2 0 240) (g_h1_f3 : RG h1_f3 (-1) 240) (g_j55_h0_f1 : RG j55_h0_f1 0 240) (g_j55_h1_f2 : RG j55_h1_f2 0 240) (g_j55_h1_f3 : RG j55_h1_f3 (-1) 240) (g_j9_h0_f1 : RG j9_h0_f1 0 240) (g_j9_h1_f2 : RG j9_h1_f2 0 240) (g_j9_h1_f3 : RG j9_h1_f3 (-1) (-1)) (g_j9_l4 : RG j9_l4 0 1) (g_j9_l5 : RG j9_l5 0 1) (g_j9_l6 : RG j9_l6 0 239) (hEX : RES = fx_c_X4_readCondition_3_p55 h1_f1 h1_0c j9_l6 j9_l5 (fx_c_X4_readCondition_3_p9 h1_f1 h1_0c n9) j55_h1_f2 j55_h1_f3 j55_h0_f1 j55_h0_0c) (H : Heap) (locs : List Loc) (ls : Array Slot) (hP : va_P (dC, dI) vwCl (wd_c_X4_readCondition_3 h1 h1_0 h1_f1 j55_h1_f2 j55_h1_f3 h1_0 h1_0k h1_0c h0 h0_0 j55_h0_f1 h0_2 h0_0 h0_0k j55_h0_0c) H) (hD : va_D A (wd_c_X4_readCondition_3 h1 h1_0 h1_f1 j55_h1_f2 j55_h1_f3 h1_0 h1_0k h1_0c h0 h0_0 j55_h0_f1 h0_2 h0_0 h0_0k j55_h0_0c)) (hS : va_S A s.heap H locs) (hl : lv_has ls 7 [(6, .int j9_l6), (5, .int j9_l5), (0, .ref h0), (1, .ref h1), (2, .int 3), (3, .int 0)]), G H locs (F0 m 55 ls []) := by
        as_aux_lemma =>
        intro j55_h1_f2 j55_h1_f3 j55_h0_f1 j55_h0_0c g_h0_f1 g_h1_f1 g_h1_f2 g_h1_f3 g_j55_h0_f1 g_j55_h1_f2 g_j55_h1_f3 g_j9_h0_f1 g_j9_h1_f2 g_j9_h1_f3 g_j9_l4 g_j9_l5 g_j9_l6 hEX H locs ls hP hD hS hl
        refine hG _ _ _ ?_
        refine lv_aload_n hx hb dX4_readCondition_55 rfl (lv_at hl 3 rfl) ?_
        refine lv_bipush (v := 38) hx hb dX4_readCondition_56 kc_bipush_38 ?_
        obtain ⟨hPc, hDc, hFc, hqc⟩ := cl_cut (wc := (wd_c_X9_take h1 h1_0 h1_f1 j55_h1_f2 j55_h1_f3 h1_0 h1_0k h1_0c)) hP hD hS hA [0, 1] (by decide +kernel) rfl
        have hKc := hK.sub (tys' := [(h1_0k, .int)]) [0] rfl
        have hrv := va_recv hKc hPc (ci := 9) (q0 := 0) rfl rfl
        refine va_calli (va_runV (As := [.int 38]) (rest := []) ⟨hx, hb, hml, hown, hts⟩ (c_X9_take l dC dI H.size h1 38 h1_0 h1_f1 j55_h1_f2 j55_h1_f3 h1_0k h1_0c (RG_w (RG_k 38 38 rfl) (by decide +kernel)) g_h1_f1 g_j55_h1_f2 g_j55_h1_f3 a_h1_0c) (cwV 1 hts gf_c_X4_readCondition_3_c_X9_take rfl rfl rfl mdV_X9_take ⟨Nat.le_of_ble_eq_true rfl, Nat.le_of_ble_eq_true rfl⟩) ⟨fun a U g mk q => by obtain ⟨q0, q1, qP, qK, qD⟩ := q; exact ⟨q0, q1, qP, va_K.moved (u := U) (U := U.calling g mk a) (Vm.Alike.refl U.vm) qK, qD⟩, hrv, fun U hU hW => ⟨rfl, by rw [hU], by rw [hU]; exact hPc, va_K.moved hW.alike hKc, hDc.weaken (fun _ _ _ _ => trivial)⟩⟩ rfl rfl hl.1 rfl (lv_room (Nat.le_of_ble_eq_true rfl)) dX4_readCondition_58 ⟨Nat.le_of_ble_eq_true rfl, Nat.le_of_ble_eq_true rfl⟩) hS (fun q _ h => hFc q h) hFc (fun r_17 x_18 t H1 locs ht hvm hw hB hz1 hk1 hS => ?_)
        obtain ⟨hP1, hK1, hD1⟩ := hB
        rw [ht] at hP1
        obtain ⟨hP, hD⟩ := cl_put (w1 := (wd_c_X9_take h1 h1_0 h1_f1 x_18 j55_h1_f3 h1_0 h1_0k h1_0c)) (nw := (wd_c_X4_readCondition_3 h1 h1_0 h1_f1 x_18 j55_h1_f3 h1_0 h1_0k h1_0c h0 h0_0 j55_h0_f1 h0_2 h0_0 h0_0k j55_h0_0c)) hP hD [0, 1] [4, 5, 2, 3] 4 rfl hqc (by decide +kernel) rfl hk1 hFc hP1 hD1
        generalize H1 = H at hP hS ⊢
        as_aux_lemma =>
        rcases hw with ⟨h_19, h_20, h_21, h_22⟩ | ⟨h_23, h_24, h_25, h_26, h_27, h_28⟩
        · have h_22 : (r_17, x_18) = _ := h_22
          replace hEX := hEX.trans (exc2_eq h_22)
          replace hEX := hEX.trans (if_pos (show r_17 = 0 from h_19))
          rw [h_19]
          refine lv_istore (lv' := [(4, .int 0), (6, .int j9_l6), (5, .int j9_l5), (0, .ref h0), (1, .ref h1), (2, .int 3), (3, .int 0)]) hx hb dX4_readCondition_61 hl (Nat.le_of_ble_eq_true rfl) rfl (fun ls hl => ?_)
          refine lv_iload hx hb dX4_readCondition_63 (lv_at hl 0 rfl) ?_
          refine lv_if_ne (tgt := 93) hx hb dX4_readCondition_65 rfl (fun c_29 => absurd c_29 (by decide +kernel)) (fun c_29 => ?_)
          refine lv_iload hx hb dX4_readCondition_68 (lv_at hl 2 rfl) ?_
          refine lv_if_eq (tgt := 79) hx hb dX4_readCondition_70 rfl (fun c_30 => ?_) (fun c_30 => ?_)
          · replace hEX := hEX.trans (if_pos c_30)
            have g_31 : RG j9_l5 0 0 := RG_eq1 g_j9_l5 (RG_k 0 0 rfl) c_30 (by decide +kernel)
            exact hU _ _ _ (J79 x_18 j55_h1_f3 j55_h0_f1 j55_h0_0c g_h0_f1 g_h1_f1 g_h1_f2 g_h1_f3 g_j55_h0_f1 h_20 g_j55_h1_f3 g_j9_h0_f1 g_j9_h1_f2 g_j9_h1_f3 g_j9_l4 (RG_w g_31 (by decide +kernel)) g_j9_l6 hEX _ _ _ hP hD hS (lv_sub hl [0, 1, 3, 4, 5, 6] rfl))
          · replace hEX := hEX.trans (if_neg c_30)
            have g_32 : RG j9_l5 1 1 := RG_ne1 g_j9_l5 (q := 0) rfl c_30 (by decide +kernel)
            refine lv_aload_n hx hb dX4_readCondition_73 rfl (lv_at hl 3 rfl) ?_
            as_aux_lemma =>
            refine lv_bipush (v := (-124)) hx hb dX4_readCondition_74 kc_bipush_m124 ?_
            obtain ⟨hPc, hDc, hFc, hqc⟩ := cl_cut (wc := (wd_c_X4_emit h0 h0_0 j55_h0_f1 h0_2 h0_0 h0_0k j55_h0_0c)) hP hD hS hA [2, 3] (by decide +kernel) rfl
            have hKc := hK.sub (tys' := [(h0_0k, .int)]) [1] rfl
            have hrv := va_recv hKc hPc (ci := 4) (q0 := 0) rfl rfl
            refine va_callv (va_runV (As := [.int (-124)]) (rest := []) ⟨hx, hb, hml, hown, hts⟩ (c_X4_emit l dC dI H.size h0 (-124) h0_0 j55_h0_f1 h0_2 h0_0k j55_h0_0c g_j55_h0_f1) (cwV 1 hts gf_c_X4_readCondition_3_c_X4_emit rfl rfl rfl mdV_X4_emit ⟨Nat.le_of_ble_eq_true rfl, Nat.le_of_ble_eq_true rfl⟩) ⟨fun a U g mk q => by obtain ⟨q0, q1, qP, qK, qD⟩ := q; exact ⟨q0, q1, qP, va_K.moved (u := U) (U := U.calling g mk a) (Vm.Alike.refl U.vm) qK, qD⟩, hrv, fun U hU hW => ⟨rfl, by rw [hU], by rw [hU]; exact hPc, va_K.moved hW.alike hKc, hDc.weaken (fun _ _ _ _ => trivial)⟩⟩ rfl rfl hl.1 rfl (lv_room (Nat.le_of_ble_eq_true rfl)) dX4_readCondition_76 ⟨Nat.le_of_ble_eq_true rfl, Nat.le_of_ble_eq_true rfl⟩) hS (fun q _ h => hFc q h) hFc (fun u t H1 locs ht hvm hw hB hz1 hk1 hS => ?_)
            obtain ⟨x_34, w_35⟩ := u
            obtain ⟨hP1, hK1, hD1⟩ := hB
            rw [ht] at hP1
            obtain ⟨hP, hD⟩ := cl_put (w1 := (wd_c_X4_emit h0 h0_0 x_34 h0_2 h0_0 h0_0k w_35)) (nw := (wd_c_X4_readCondition_3 h1 h1_0 h1_f1 x_18 j55_h1_f3 h1_0 h1_0k h1_0c h0 h0_0 x_34 h0_2 h0_0 h0_0k w_35)) hP hD [2, 3] [0, 1, 4, 5] 4 rfl hqc (by decide +kernel) rfl hk1 hFc hP1 hD1
            generalize H1 = H at hP hS ⊢
            as_aux_lemma =>
            rcases hw with ⟨h_36, h_37⟩
            have h_37 : (x_34, w_35) = _ := h_37
            replace hEX := hEX.trans (exc2_eq h_37)
            exact hU _ _ _ (J79 x_18 j55_h1_f3 x_34 w_35 g_h0_f1 g_h1_f1 g_h1_f2 g_h1_f3 (RG_w h_36 (by decide +kernel)) h_20 g_j55_h1_f3 g_j9_h0_f1 g_j9_h1_f2 g_j9_h1_f3 g_j9_l4 (RG_w g_32 (by decide +kernel)) g_j9_l6 hEX _ _ _ hP hD hS (lv_sub hl [0, 1, 3, 4, 5, 6] rfl))
        · have h_28 : (r_17, x_18) = _ := h_28
          replace hEX := hEX.trans (exc2_eq h_28)
          replace hEX := hEX.trans (if_neg (fun q9 : r_17 = 0 => absurd ((show r_17 = 1 from h_23).symm.trans q9) (by decide +kernel)))
          rw [h_23]
          refine lv_istore (lv' := [(4, .int 1), (6, .int j9_l6), (5, .int j9_l5), (0, .ref h0), (1, .ref h1), (2, .int 3), (3, .int 0)]) hx hb dX4_readCondition_61 hl (Nat.le_of_ble_eq_true rfl) rfl (fun ls hl => ?_)
          refine lv_iload hx hb dX4_readCondition_63 (lv_at hl 0 rfl) ?_
          refine lv_if_ne (tgt := 93) hx hb dX4_readCondition_65 rfl (fun c_38 => ?_) (fun c_38 => absurd c_38 (by decide +kernel))
          exact hU _ _ _ (J93 1 j9_l5 x_18 j55_h1_f3 j55_h0_f1 j55_h0_0c g_h0_f1 h_25 g_h1_f2 g_h1_f3 g_j55_h0_f1 h_24 h_26 (RG_w (RG_k 1 1 rfl) (by decide +kernel)) g_j9_l5 g_j9_h0_f1 g_j9_h1_f2 g_j9_h1_f3 g_j9_l4 g_j9_l5 g_j9_l6 hEX _ _ _ hP hD hS (lv_sub hl [0, 1, 2, 3, 4, 5, 6] rfl))
      have J41 : ∀ (g_h0_f1 : RG h0_f1 0 240) (g_h1_f1 : RG h1_f1 0 240) (g_h1_f2 : RG h1_f2 0 240) (g_h1_f3 : RG h1_f3 (-1) 240) (g_j9_h0_f1 : RG j9_h0_f1 0 240) (g_j9_h1_f2 : RG j9_h1_f2 0 240) (g_j9_h1_f3 : RG j9_h1_f3 (-1) (-1)) (g_j9_l4 : RG j9_l4 0 1) (g_j9_l5 : RG j9_l5 0 1) (g_j9_l6 : RG j9_l6 0 239) (hEX : RES = fx_c_X4_readCondition_3_p41 h1_f1 h1_0c j9_l6 j9_l5 j9_l4 j9_h1_f2 j9_h1_f3 j9_h0_f1 j9_h0_0c (fx_c_X4_readCondition_3_p9 h1_f1 h1_0c n9)) (H : Heap) (locs : List Loc) (ls : Array Slot) (hP : va_P (dC, dI) vwCl (wd_c_X4_readCondition_3 h1 h1_0 h1_f1 j9_h1_f2 j9_h1_f3 h1_0 h1_0k h1_0c h0 h0_0 j9_h0_f1 h0_2 h0_0 h0_0k j9_h0_0c) H) (hD : va_D A (wd_c_X4_readCondition_3 h1 h1_0 h1_f1 j9_h1_f2 j9_h1_f3 h1_0 h1_0k h1_0c h0 h0_0 j9_h0_f1 h0_2 h0_0 h0_0k j9_h0_0c)) (hS : va_S A s.heap H locs) (hl : lv_has ls 7 [(6, .int j9_l6), (5, .int j9_l5), (4, .int j9_l4), (0, .ref h0), (1, .ref h1), (2, .int 3), (3, .int 0)]), G H locs (F0 m 41 ls [.int 0, .int 3, .ref h1, .ref h0]) := by
        as_aux_lemma =>
        intro g_h0_f1 g_h1_f1 g_h1_f2 g_h1_f3 g_j9_h0_f1 g_j9_h1_f2 g_j9_h1_f3 g_j9_l4 g_j9_l5 g_j9_l6 hEX H locs ls hP hD hS hl
        refine hG _ _ _ ?_
        obtain ⟨hPc, hDc, hFc, hqc⟩ := cl_cut (wc := (wd_c_X4_readUnit_4 h1 h1_0 h1_f1 j9_h1_f2 j9_h1_f3 h1_0 h1_0k h1_0c h0 h0_0 j9_h0_f1 h0_2 h0_0 h0_0k j9_h0_0c)) hP hD hS hA [0, 1, 2, 3] (by decide +kernel) rfl
        have hKc := hK.sub (tys' := [(h1_0k, .int), (h0_0k, .int)]) [0, 1] rfl
        have hrv := va_recv hKc hPc (ci := 4) (q0 := 2) rfl rfl
        refine va_callv (va_runV (As := [.ref h1, .int 3, .int 0]) (rest := []) ⟨hx, hb, hml, hown, hts⟩ (c_X4_readUnit_4 l dC dI H.size h0 h1 h1_0 h1_f1 j9_h1_f2 j9_h1_f3 h1_0k h1_0c h0_0 j9_h0_f1 h0_2 h0_0k j9_h0_0c ts4 tv4 g_h1_f1 g_j9_h1_f2 (RG_w g_j9_h1_f3 (by decide +kernel)) a_h1_0c g_j9_h0_f1) (cwV 3 hts gf_c_X4_readCondition_3_c_X4_readUnit_4 rfl rfl rfl mdV_X4_readUnit ⟨Nat.le_of_ble_eq_true rfl, Nat.le_of_ble_eq_true rfl⟩) ⟨fun a U g mk q => by obtain ⟨q0, q1, qP, qK, qD, qE0, qE1, qE2, qE3, qE4, qE5⟩ := q; exact ⟨q0, q1, qP, va_K.moved (u := U) (U := U.calling g mk a) (Vm.Alike.refl U.vm) qK, qD, vk_R.same rfl qE0, va_Z.moved (u := U) (U := U.calling g mk a) (Vm.Alike.refl U.vm) qE1, va_OF.moved (u := U) (U := U.calling g mk a) (Vm.Alike.refl U.vm) qE2, va_O.moved (u := U) (U := U.calling g mk a) (Vm.Alike.refl U.vm) qE3, va_OF.moved (u := U) (U := U.calling g mk a) (Vm.Alike.refl U.vm) qE4, va_T.moved (u := U) (U := U.calling g mk a) (Vm.Alike.refl U.vm) qE5⟩, hrv, fun U hU hW => ⟨rfl, by rw [hU], by rw [hU]; exact hPc, va_K.moved hW.alike hKc, hDc.weaken (fun _ _ _ _ => trivial), vk_R.warm hW hE_32, va_Z.moved hW.alike (by rw [hU]; exact (hE_10.kept hS.2.1).narrow hFc), va_OF.moved hW.alike (by rw [hU]; exact (hE_34.kept hS.2.1).narrow hFc), va_O.moved hW.alike (by rw [hU]; exact (hE_33.kept hS.2.1).narrow hFc), va_OF.moved hW.alike (by rw [hU]; exact (hE_35.kept hS.2.1).narrow hFc), va_T.moved hW.alike (by rw [hU]; exact (hE_36.kept hS.2.1).narrow hFc)⟩⟩ rfl rfl hl.1 rfl (lv_room (Nat.le_of_ble_eq_true rfl)) dX4_readCondition_41 ⟨Nat.le_of_ble_eq_true rfl, Nat.le_of_ble_eq_true rfl⟩) hS (fun q _ h => hFc q h) hFc (fun u t H1 locs ht hvm hw hB hz1 hk1 hS => ?_)
        obtain ⟨x_40, x_41, x_42, w_43⟩ := u
        obtain ⟨hP1, hK1, hD1⟩ := hB
        rw [ht] at hP1
        obtain ⟨hP, hD⟩ := cl_put (w1 := (wd_c_X4_readUnit_4 h1 h1_0 h1_f1 x_40 x_41 h1_0 h1_0k h1_0c h0 h0_0 x_42 h0_2 h0_0 h0_0k w_43)) (nw := (wd_c_X4_readCondition_3 h1 h1_0 h1_f1 x_40 x_41 h1_0 h1_0k h1_0c h0 h0_0 x_42 h0_2 h0_0 h0_0k w_43)) hP hD [0, 1, 2, 3] [4, 5, 6, 7] 4 rfl hqc (by decide +kernel) rfl hk1 hFc hP1 hD1
        generalize H1 = H at hP hS ⊢
        as_aux_lemma =>
        rcases hw with ⟨h_44, h_45, h_46, h_47⟩
        have h_47 : (x_40, x_41, x_42, w_43) = _ := h_47
        replace hEX := hEX.trans (exc4_eq h_47)
        refine lv_iload hx hb dX4_readCondition_44 (lv_at hl 2 rfl) ?_
        refine lv_if_eq (tgt := 55) hx hb dX4_readCondition_46 rfl (fun c_48 => ?_) (fun c_48 => ?_)
        · replace hEX := hEX.trans (if_pos c_48)
          have g_49 : RG j9_l4 0 0 := RG_eq1 g_j9_l4 (RG_k 0 0 rfl) c_48 (by decide +kernel)
          exact hU _ _ _ (J55 x_40 x_41 x_42 w_43 g_h0_f1 g_h1_f1 g_h1_f2 g_h1_f3 h_46 h_44 h_45 g_j9_h0_f1 g_j9_h1_f2 g_j9_h1_f3 (RG_w g_49 (by decide +kernel)) g_j9_l5 g_j9_l6 hEX _ _ _ hP hD hS (lv_sub hl [0, 1, 3, 4, 5, 6] rfl))
        · replace hEX := hEX.trans (if_neg c_48)
          have g_50 : RG j9_l4 1 1 := RG_ne1 g_j9_l4 (q := 0) rfl c_48 (by decide +kernel)
          refine lv_aload_n hx hb dX4_readCondition_49 rfl (lv_at hl 3 rfl) ?_
          refine lv_bipush (v := (-38)) hx hb dX4_readCondition_50 kc_bipush_m38 ?_
          obtain ⟨hPc, hDc, hFc, hqc⟩ := cl_cut (wc := (wd_c_X4_emit h0 h0_0 x_42 h0_2 h0_0 h0_0k w_43)) hP hD hS hA [2, 3] (by decide +kernel) rfl
          have hKc := hK.sub (tys' := [(h0_0k, .int)]) [1] rfl
          have hrv := va_recv hKc hPc (ci := 4) (q0 := 0) rfl rfl
          refine va_callv (va_runV (As := [.int (-38)]) (rest := []) ⟨hx, hb, hml, hown, hts⟩ (c_X4_emit l dC dI H.size h0 (-38) h0_0 x_42 h0_2 h0_0k w_43 h_46) (cwV 1 hts gf_c_X4_readCondition_3_c_X4_emit rfl rfl rfl mdV_X4_emit ⟨Nat.le_of_ble_eq_true rfl, Nat.le_of_ble_eq_true rfl⟩) ⟨fun a U g mk q => by obtain ⟨q0, q1, qP, qK, qD⟩ := q; exact ⟨q0, q1, qP, va_K.moved (u := U) (U := U.calling g mk a) (Vm.Alike.refl U.vm) qK, qD⟩, hrv, fun U hU hW => ⟨rfl, by rw [hU], by rw [hU]; exact hPc, va_K.moved hW.alike hKc, hDc.weaken (fun _ _ _ _ => trivial)⟩⟩ rfl rfl hl.1 rfl (lv_room (Nat.le_of_ble_eq_true rfl)) dX4_readCondition_52 ⟨Nat.le_of_ble_eq_true rfl, Nat.le_of_ble_eq_true rfl⟩) hS (fun q _ h => hFc q h) hFc (fun u t H1 locs ht hvm hw hB hz1 hk1 hS => ?_)
          as_aux_lemma =>
          obtain ⟨x_52, w_53⟩ := u
          obtain ⟨hP1, hK1, hD1⟩ := hB
          rw [ht] at hP1
          obtain ⟨hP, hD⟩ := cl_put (w1 := (wd_c_X4_emit h0 h0_0 x_52 h0_2 h0_0 h0_0k w_53)) (nw := (wd_c_X4_readCondition_3 h1 h1_0 h1_f1 x_40 x_41 h1_0 h1_0k h1_0c h0 h0_0 x_52 h0_2 h0_0 h0_0k w_53)) hP hD [2, 3] [0, 1, 4, 5] 4 rfl hqc (by decide +kernel) rfl hk1 hFc hP1 hD1
          generalize H1 = H at hP hS ⊢
          as_aux_lemma =>
          rcases hw with ⟨h_54, h_55⟩
          have h_55 : (x_52, w_53) = _ := h_55
          replace hEX := hEX.trans (exc2_eq h_55)
          exact hU _ _ _ (J55 x_40 x_41 x_52 w_53 g_h0_f1 g_h1_f1 g_h1_f2 g_h1_f3 (RG_w h_54 (by decide +kernel)) h_44 h_45 g_j9_h0_f1 g_j9_h1_f2 g_j9_h1_f3 (RG_w g_50 (by decide +kernel)) g_j9_l5 g_j9_l6 hEX _ _ _ hP hD hS (lv_sub hl [0, 1, 3, 4, 5, 6] rfl))
      have J40 : ∀ (g_h0_f1 : RG h0_f1 0 240) (g_h1_f1 : RG h1_f1 0 240) (g_h1_f2 : RG h1_f2 0 240) (g_h1_f3 : RG h1_f3 (-1) 240) (g_j9_h0_f1 : RG j9_h0_f1 0 240) (g_j9_h1_f2 : RG j9_h1_f2 0 240) (g_j9_h1_f3 : RG j9_h1_f3 (-1) (-1)) (g_j9_l4 : RG j9_l4 0 1) (g_j9_l5 : RG j9_l5 0 1) (g_j9_l6 : RG j9_l6 0 239) (hEX : RES = fx_c_X4_readCondition_3_p40 h1_f1 h1_0c j9_l6 j9_l5 j9_l4 j9_h1_f2 j9_h1_f3 j9_h0_f1 j9_h0_0c (fx_c_X4_readCondition_3_p9 h1_f1 h1_0c n9)) (H : Heap) (locs : List Loc) (ls : Array Slot) (hP : va_P (dC, dI) vwCl (wd_c_X4_readCondition_3 h1 h1_0 h1_f1 j9_h1_f2 j9_h1_f3 h1_0 h1_0k h1_0c h0 h0_0 j9_h0_f1 h0_2 h0_0 h0_0k j9_h0_0c) H) (hD : va_D A (wd_c_X4_readCondition_3 h1 h1_0 h1_f1 j9_h1_f2 j9_h1_f3 h1_0 h1_0k h1_0c h0 h0_0 j9_h0_f1 h0_2 h0_0 h0_0k j9_h0_0c)) (hS : va_S A s.heap H locs) (hl : lv_has ls 7 [(6, .int j9_l6), (5, .int j9_l5), (4, .int j9_l4), (0, .ref h0), (1, .ref h1), (2, .int 3), (3, .int 0)]), G H locs (F0 m 40 ls [.int 3, .ref h1, .ref h0]) := by
        as_aux_lemma =>
        intro g_h0_f1 g_h1_f1 g_h1_f2 g_h1_f3 g_j9_h0_f1 g_j9_h1_f2 g_j9_h1_f3 g_j9_l4 g_j9_l5 g_j9_l6 hEX H locs ls hP hD hS hl
        refine hG _ _ _ ?_
        refine lv_iconst (v := 0) hx hb dX4_readCondition_40 kc_iconst_0 ?_
        exact hU _ _ _ (J41 g_h0_f1 g_h1_f1 g_h1_f2 g_h1_f3 g_j9_h0_f1 g_j9_h1_f2 g_j9_h1_f3 g_j9_l4 g_j9_l5 g_j9_l6 hEX _ _ _ hP hD hS (lv_sub hl [0, 1, 2, 3, 4, 5, 6] rfl))
      refine hG _ _ _ ?_
      replace hEX := hEX.trans (if_pos (rfl : j9_l6 = j9_l6))
      refine lv_iload hx hb dX4_readCondition_9 (lv_at hl 0 rfl) ?_
      refine lv_sipush (v := 240) hx hb dX4_readCondition_11 kc_sipush_240 ?_
      refine lv_icmp_ge (tgt := 99) hx hb dX4_readCondition_14 rfl (fun c_56 => ?_) (fun c_56 => ?_)
      · replace hEX := hEX.trans (if_pos c_56)
        have g_57 : RG j9_l6 240 240 := RG_le2 (RG_k 240 240 rfl) g_j9_l6 c_56 (by decide +kernel)
        have hK9 := hK.sub (tys' := []) [] rfl
        exact W.vret hx hb hr (fun t ht hW => ⟨⟨(j9_h1_f2, j9_h1_f3, j9_h0_f1, j9_h0_0c), rfl, ⟨g_j9_h1_f2, g_j9_h1_f3, g_j9_h0_f1, (hR.trans hEX).symm⟩, by rw [ht]; exact hP, va_K.moved hW.alike hK9, hD⟩, hS.F ht⟩) hS.2.2 dX4_readCondition_99
      · replace hEX := hEX.trans (if_neg c_56)
        have d_58 := Int32.not_le.mp c_56
        have g_59 : RG j9_l6 0 239 := RG_lt1 g_j9_l6 (RG_k 240 240 rfl) d_58 (by decide +kernel)
        refine lv_aload_n hx hb dX4_readCondition_17 rfl (lv_at hl 4 rfl) ?_
        as_aux_lemma =>
        obtain ⟨hPc, hDc, hFc, hqc⟩ := cl_cut (wc := (wd_c_X9_isRight h1 h1_0 h1_f1 j9_h1_f2 j9_h1_f3)) hP hD hS hA [0] (by decide +kernel) rfl
        have hKc := hK.sub (tys' := []) [] rfl
        have hrv := va_recv hKc hPc (ci := 9) (q0 := 0) rfl rfl
        refine va_calli (va_runV (As := []) (rest := []) ⟨hx, hb, hml, hown, hts⟩ (c_X9_isRight l dC dI H.size h1 h1_0 h1_f1 j9_h1_f2 j9_h1_f3 g_h1_f1 g_j9_h1_f2 g_j9_h1_f3) (cwV 0 hts gf_c_X4_readCondition_3_c_X9_isRight rfl rfl rfl mdV_X9_isRight ⟨Nat.le_of_ble_eq_true rfl, Nat.le_of_ble_eq_true rfl⟩) ⟨fun a U g mk q => by obtain ⟨q0, q1, qP, qK, qD⟩ := q; exact ⟨q0, q1, qP, va_K.moved (u := U) (U := U.calling g mk a) (Vm.Alike.refl U.vm) qK, qD⟩, hrv, fun U hU hW => ⟨rfl, by rw [hU], by rw [hU]; exact hPc, va_K.moved hW.alike hKc, hDc.weaken (fun _ _ _ _ => trivial)⟩⟩ rfl rfl hl.1 rfl (lv_room (Nat.le_of_ble_eq_true rfl)) dX4_readCondition_18 ⟨Nat.le_of_ble_eq_true rfl, Nat.le_of_ble_eq_true rfl⟩) hS (fun q _ h => hFc q h) hFc (fun r_60 u t H1 locs ht hvm hw hB hz1 hk1 hS => ?_)
        obtain ⟨hP1, hK1, hD1⟩ := hB
        rw [ht] at hP1
        obtain ⟨hP, hD⟩ := cl_put (w1 := (wd_c_X9_isRight h1 h1_0 h1_f1 j9_h1_f2 j9_h1_f3)) (nw := (wd_c_X4_readCondition_3 h1 h1_0 h1_f1 j9_h1_f2 j9_h1_f3 h1_0 h1_0k h1_0c h0 h0_0 j9_h0_f1 h0_2 h0_0 h0_0k j9_h0_0c)) hP hD [0] [4, 1, 2, 3] 4 rfl hqc (by decide +kernel) rfl hk1 hFc hP1 hD1
        generalize H1 = H at hP hS ⊢
        as_aux_lemma =>
        rcases hw with ⟨h_61, h_62, h_63⟩ | ⟨h_64, h_65, h_66⟩
        · have h_63 : r_60 = _ := h_63
          replace hEX := hEX.trans (exc1_eq h_63)
          replace hEX := hEX.trans (if_pos (show r_60 = 0 from h_61))
          rw [h_61]
          refine lv_if_eq (tgt := 99) hx hb dX4_readCondition_21 rfl (fun c_67 => ?_) (fun c_67 => absurd c_67 (by decide +kernel))
          have hK9 := hK.sub (tys' := []) [] rfl
          exact W.vret hx hb hr (fun t ht hW => ⟨⟨(j9_h1_f2, j9_h1_f3, j9_h0_f1, j9_h0_0c), rfl, ⟨g_j9_h1_f2, (RG_w h_62 (by decide +kernel)), g_j9_h0_f1, (hR.trans hEX).symm⟩, by rw [ht]; exact hP, va_K.moved hW.alike hK9, hD⟩, hS.F ht⟩) hS.2.2 dX4_readCondition_99
        · have h_66 : r_60 = _ := h_66
          replace hEX := hEX.trans (exc1_eq h_66)
          replace hEX := hEX.trans (if_neg (fun q9 : r_60 = 0 => absurd ((show r_60 = 1 from h_64).symm.trans q9) (by decide +kernel)))
          rw [h_64]
          refine lv_if_eq (tgt := 99) hx hb dX4_readCondition_21 rfl (fun c_68 => absurd c_68 (by decide +kernel)) (fun c_68 => ?_)
          refine lv_aload_n hx hb dX4_readCondition_24 rfl (lv_at hl 3 rfl) ?_
          as_aux_lemma =>
          refine lv_aload_n hx hb dX4_readCondition_25 rfl (lv_at hl 4 rfl) ?_
          refine lv_iload_n hx hb dX4_readCondition_26 rfl (lv_at hl 5 rfl) ?_
          refine lv_iload_n hx hb dX4_readCondition_27 rfl (lv_at hl 6 rfl) ?_
          refine lv_if_eq (tgt := 40) hx hb dX4_readCondition_28 rfl (fun c_69 => ?_) (fun c_69 => absurd c_69 (by decide +kernel))
          exact hU _ _ _ (J40 g_h0_f1 g_h1_f1 g_h1_f2 g_h1_f3 g_j9_h0_f1 g_j9_h1_f2 h_65 g_j9_l4 g_j9_l5 g_59 hEX _ _ _ hP hD hS (lv_sub hl [0, 1, 2, 3, 4, 5, 6] rfl))
  refine hG _ _ _ ?_
  refine lv_iconst (v := 0) hx hb dX4_readCondition_0 kc_iconst_0 ?_
  refine lv_istore (lv' := [(4, .int 0), (0, .ref h0), (1, .ref h1), (2, .int 3), (3, .int 0)]) hx hb dX4_readCondition_1 hl (Nat.le_of_ble_eq_true rfl) rfl (fun ls hl => ?_)
  refine lv_iconst (v := 0) hx hb dX4_readCondition_3 kc_iconst_0 ?_
  refine lv_istore (lv' := [(5, .int 0), (4, .int 0), (0, .ref h0), (1, .ref h1), (2, .int 3), (3, .int 0)]) hx hb dX4_readCondition_4 hl (Nat.le_of_ble_eq_true rfl) rfl (fun ls hl => ?_)
  refine lv_iconst (v := 0) hx hb dX4_readCondition_6 kc_iconst_0 ?_
  refine lv_istore (lv' := [(6, .int 0), (5, .int 0), (4, .int 0), (0, .ref h0), (1, .ref h1), (2, .int 3), (3, .int 0)]) hx hb dX4_readCondition_7 hl (Nat.le_of_ble_eq_true rfl) rfl (fun ls hl => ?_)
  exact hU _ _ _ (J9 exF 0 0 0 h1_f2 h1_f3 h0_f1 h0_0c MU_F g_h0_f1 g_h1_f1 g_h1_f2 g_h1_f3 g_h0_f1 g_h1_f2 g_h1_f3 (RG_w (RG_k 0 0 rfl) (by decide +kernel)) (RG_w (RG_k 0 0 rfl) (by decide +kernel)) (RG_w (RG_k 0 0 rfl) (by decide +kernel)) hEX _ _ _ hP hD hS (lv_sub hl [0, 1, 2, 3, 4, 5, 6] rfl))
noncomputable def wd_c_X4_readUnit_3 (a0 : Nat) (a1 : Nat) (a2 : Int32) (a3 : Int32) (a4 : Int32) (a5 : Nat) (a6 : ClassId) (a7 : Nat → Int32) (a8 : Nat) (a9 : Nat) (a10 : Int32) (a11 : Nat) (a12 : Nat) (a13 : ClassId) (a14 : Nat → Int32) : va_W := [(a0, .inr (9, [.ref a1, .int a2, .int a3, .int a4])), (a5, .inl (a6, 240, .inl a7)), (a8, .inr (4, [.ref a9, .int a10, .ref a11])), (a12, .inl (a13, 240, .inl a14))]
noncomputable def wf_c_X4_readUnit_3 : List Cond := List.cons (.code yX4_readUnit cX4_readUnit 5 none) (@HAppend.hAppend (List Cond) (List Cond) (List Cond) _ (@HAppend.hAppend (List Cond) (List Cond) (List Cond) _ [.methodLink RX4 41 yX9_peek, .instanceMethod yX9_peek, .selects RX9 yX9_peek yX9_peek, .initialized RX9, .code yX9_peek cX9_peek 1 (some .int), .fieldLink RX9 22 "BuoyVote$Tape" "at" "I", .fieldLink RX9 19 "BuoyVote$Tape" "length" "I", .fieldLink RX9 11 "BuoyVote$Tape" "bytes" "[I", .methodLink RX4 45 yX4_startsUnit, .static yX4_startsUnit, .initialized RX4, .code yX4_startsUnit cX4_startsUnit 1 (some .boolean), .methodLink RX4 63 yX9_take, .instanceMethod yX9_take, .selects RX9 yX9_take yX9_take, .code yX9_take cX9_take 2 (some .boolean), .fieldLink RX9 15 "BuoyVote$Tape" "wrong" "I", .methodLink RX9 29 yX9_peek, .methodLink RX4 37 yX9_expect, .instanceMethod yX9_expect, .selects RX9 yX9_expect yX9_expect, .code yX9_expect cX9_expect 2 none, .methodLink RX9 25 yX9_refuse, .instanceMethod yX9_refuse, .selects RX9 yX9_refuse yX9_refuse, .code yX9_refuse cX9_refuse 2 none, .methodLink RX4 56 yX4_readCondition, .instanceMethod yX4_readCondition, .selects RX4 yX4_readCondition yX4_readCondition, .code yX4_readCondition cX4_readCondition 7 none, .methodLink RX4 72 yX9_isRight, .instanceMethod yX9_isRight, .selects RX9 yX9_isRight yX9_isRight, .code yX9_isRight cX9_isRight 1 (some .boolean), .methodLink RX4 76 yX4_readUnit, .instanceMethod yX4_readUnit, .selects RX4 yX4_readUnit yX4_readUnit, .methodLink RX4 82 yX9_refuseHere, .instanceMethod yX9_refuseHere, .selects RX9 yX9_refuseHere yX9_refuseHere, .code yX9_refuseHere cX9_refuseHere 1 none, .methodLink RX4 49 yX4_readSum, .instanceMethod yX4_readSum, .selects RX4 yX4_readSum yX4_readSum, .code yX4_readSum cX4_readSum 6 none, .methodLink RX4 85 yX4_readAtom, .instanceMethod yX4_readAtom, .selects RX4 yX4_readAtom yX4_readAtom, .code yX4_readAtom cX4_readAtom 6 none, .methodLink RX4 93 yJ0_indexOf_0f7a4, .instanceMethod yJ0_indexOf_0f7a4, .selects RJ0 yJ0_indexOf_0f7a4 yJ0_indexOf_0f7a4, .initialized RJ0, .code yJ0_indexOf_0f7a4 cJ0_indexOf_0f7a4 2 (some .int), .methodLink RJ0 633 yJ0_indexOf_7cf53, .instanceMethod yJ0_indexOf_7cf53, .selects RJ0 yJ0_indexOf_7cf53 yJ0_indexOf_7cf53, .code yJ0_indexOf_7cf53 cJ0_indexOf_7cf53 3 (some .int), .methodLink RJ0 492 yJ0_isLatin1_aae02, .instanceMethod yJ0_isLatin1_aae02, .selects RJ0 yJ0_isLatin1_aae02 yJ0_isLatin1_aae02, .code yJ0_isLatin1_aae02 cJ0_isLatin1_aae02 1 (some .boolean), .fieldLink RJ0 38 "java/lang/String" "COMPACT_STRINGS" "Z", .fieldLink RJ0 15 "java/lang/String" "coder" "B", .fieldLink RJ0 9 "java/lang/String" "value" "[B", .methodLink RJ0 505 yJ0_length_8abf5, .instanceMethod yJ0_length_8abf5, .selects RJ0 yJ0_length_8abf5 yJ0_length_8abf5, .code yJ0_length_8abf5 cJ0_length_8abf5 1 (some .int), .methodLink RJ0 335 yJ0_coder_7d493, .instanceMethod yJ0_coder_7d493, .selects RJ0 yJ0_coder_7d493 yJ0_coder_7d493, .code yJ0_coder_7d493 cJ0_coder_7d493 1 (some .byte), .methodLink RJ0 637 yJ1_indexOf_4cfef, .static yJ1_indexOf_4cfef, .initialized RJ1, .code yJ1_indexOf_4cfef cJ1_indexOf_4cfef 4 (some .int), .methodLink RJ1 88 yJ1_canEncode_9a6ad, .static yJ1_canEncode_9a6ad, .code yJ1_canEncode_9a6ad cJ1_canEncode_9a6ad 1 (some .boolean), .methodLink RJ1 92 Lib.Math.max.name, .static Lib.Math.max.name, .initialized "java/lang/Math", .code Lib.Math.max.name Lib.Math.max.code 2 (some .int), .methodLink RJ1 38 Lib.Math.min.name, .static Lib.Math.min.name, .code Lib.Math.min.name Lib.Math.min.code 2 (some .int), .methodLink RJ1 95 yJ1_indexOfChar_4cfef, .static yJ1_indexOfChar_4cfef, .code yJ1_indexOfChar_4cfef cJ1_indexOfChar_4cfef 6 (some .int), .methodLink RX4 99 yX9_number, .instanceMethod yX9_number, .selects RX9 yX9_number yX9_number, .code yX9_number cX9_number 4 (some .int), .methodLink RX4 79 yX9_skip, .instanceMethod yX9_skip, .selects RX9 yX9_skip yX9_skip, .code yX9_skip cX9_skip 1 none, .methodLink RX4 60 yX4_emit, .instanceMethod yX4_emit, .selects RX4 yX4_emit yX4_emit, .code yX4_emit cX4_emit 2 none, .fieldLink RX4 20 "BuoyVote$Law" "length" "I", .fieldLink RX4 11 "BuoyVote$Law" "code" "[I", .methodLink RX4 88 yX9_takeEither, .instanceMethod yX9_takeEither, .selects RX9 yX9_takeEither yX9_takeEither, .code yX9_takeEither cX9_takeEither 4 (some .int), .methodLink RX4 53 yX4_isComparison, .static yX4_isComparison, .code yX4_isComparison cX4_isComparison 1 (some .boolean)] wsX90) wsX40)
theorem iw_c_X4_readUnit_3_X9 : ∀ w ∈ wsX90, w ∈ wf_c_X4_readUnit_3 := fun w h => List.mem_cons_of_mem _ (List.mem_append_left _ (List.mem_append_right _ h))
theorem iw_c_X4_readUnit_3_X4 : ∀ w ∈ wsX40, w ∈ wf_c_X4_readUnit_3 := fun w h => List.mem_cons_of_mem _ (List.mem_append_right _ h)
set_option maxRecDepth 20000 in
theorem gf_c_X4_readUnit_3_c_X9_peek : GoodIn wf_c_X4_readUnit_3 (wsV RX4 41 RX9 yX9_peek wf_c_X9_peek) := goodIn_app (gi_l [1, 2, 3, 4] rfl rfl) (gi_cons (j := 5) rfl rfl (goodIn_app (gi_l [6, 7, 8] rfl rfl) (goodIn_sub iw_c_X4_readUnit_3_X9 gw_X9)))
set_option maxRecDepth 20000 in
theorem gf_c_X4_readUnit_3_c_X4_isComparison : GoodIn wf_c_X4_readUnit_3 (va_wsS RX4 53 yX4_isComparison wf_c_X4_isComparison) := goodIn_app (gi_l [109, 110, 11] rfl rfl) (gi_cons (j := 111) rfl rfl gi_nil)
set_option maxRecDepth 20000 in
theorem gf_c_X4_readUnit_3_c_X9_refuseHere : GoodIn wf_c_X4_readUnit_3 (wsV RX4 82 RX9 yX9_refuseHere wf_c_X9_refuseHere) := goodIn_app (gi_l [38, 39, 40, 4] rfl rfl) (gi_cons (j := 41) rfl rfl (goodIn_app (gi_l [6, 23, 24, 25, 4, 26, 17] rfl rfl) (goodIn_sub iw_c_X4_readUnit_3_X9 gw_X9)))
set_option maxRecDepth 20000 in
theorem gf_c_X4_readUnit_3_c_X4_isComparison_1 : GoodIn wf_c_X4_readUnit_3 (va_wsS RX4 53 yX4_isComparison wf_c_X4_isComparison_1) := goodIn_app (gi_l [109, 110, 11] rfl rfl) (gi_cons (j := 111) rfl rfl gi_nil)
set_option maxRecDepth 20000 in
theorem gf_c_X4_readUnit_3_c_X9_skip : GoodIn wf_c_X4_readUnit_3 (wsV RX4 79 RX9 yX9_skip wf_c_X9_skip) := goodIn_app (gi_l [95, 96, 97, 4] rfl rfl) (gi_cons (j := 98) rfl rfl (goodIn_app (gi_l [6] rfl rfl) (goodIn_sub iw_c_X4_readUnit_3_X9 gw_X9)))
set_option maxRecDepth 20000 in
theorem gf_c_X4_readUnit_3_c_X4_readSum_2 : GoodIn wf_c_X4_readUnit_3 (wsV RX4 49 RX4 yX4_readSum wf_c_X4_readSum_2) := goodIn_app (gi_l [42, 43, 44, 11] rfl rfl) (gi_cons (j := 45) rfl rfl (goodIn_app (goodIn_app (gi_l [31, 32, 33, 4, 34, 17, 46, 47, 48, 11, 49, 1, 2, 3, 5, 6, 7, 8, 50, 51, 52, 53, 54, 55, 56, 57, 58, 59, 60, 61, 62, 63, 64, 65, 66, 67, 68, 69, 70, 71, 72, 73, 74, 75, 76, 77, 78, 79, 80, 81, 82, 83, 84, 85, 86, 87, 88, 89, 90, 91, 92, 93, 94, 38, 39, 40, 41, 23, 24, 25, 26, 95, 96, 97, 98, 42, 43, 44, 99, 100, 101, 102, 103, 104, 105, 106, 107, 108, 18, 19, 20, 21, 22] rfl rfl) (goodIn_sub iw_c_X4_readUnit_3_X9 gw_X9)) (goodIn_sub iw_c_X4_readUnit_3_X4 gw_X4)))
set_option maxRecDepth 20000 in
theorem gf_c_X4_readUnit_3_c_X4_emit : GoodIn wf_c_X4_readUnit_3 (wsV RX4 60 RX4 yX4_emit wf_c_X4_emit) := goodIn_app (gi_l [99, 100, 101, 11] rfl rfl) (gi_cons (j := 102) rfl rfl (goodIn_app (gi_l [103, 104] rfl rfl) (goodIn_sub iw_c_X4_readUnit_3_X4 gw_X4)))
set_option maxRecDepth 20000 in
theorem gf_c_X4_readUnit_3_c_X4_startsUnit : GoodIn wf_c_X4_readUnit_3 (va_wsS RX4 45 yX4_startsUnit wf_c_X4_startsUnit) := goodIn_app (gi_l [9, 10, 11] rfl rfl) (gi_cons (j := 12) rfl rfl gi_nil)
set_option maxRecDepth 20000 in
theorem gf_c_X4_readUnit_3_c_X4_startsUnit_1 : GoodIn wf_c_X4_readUnit_3 (va_wsS RX4 45 yX4_startsUnit wf_c_X4_startsUnit_1) := goodIn_app (gi_l [9, 10, 11] rfl rfl) (gi_cons (j := 12) rfl rfl gi_nil)
set_option maxRecDepth 20000 in
theorem gf_c_X4_readUnit_3_c_X9_take : GoodIn wf_c_X4_readUnit_3 (wsV RX4 63 RX9 yX9_take wf_c_X9_take) := goodIn_app (gi_l [13, 14, 15, 4] rfl rfl) (gi_cons (j := 16) rfl rfl (goodIn_app (gi_l [17, 18, 2, 3, 4, 5, 6, 7, 8] rfl rfl) (goodIn_sub iw_c_X4_readUnit_3_X9 gw_X9)))
set_option maxRecDepth 20000 in
theorem gf_c_X4_readUnit_3_c_X9_expect_1 : GoodIn wf_c_X4_readUnit_3 (wsV RX4 37 RX9 yX9_expect wf_c_X9_expect_1) := goodIn_app (gi_l [19, 20, 21, 4] rfl rfl) (gi_cons (j := 22) rfl rfl (goodIn_app (gi_l [17, 18, 2, 3, 4, 5, 6, 7, 8, 23, 24, 25, 26] rfl rfl) (goodIn_sub iw_c_X4_readUnit_3_X9 gw_X9)))
set_option maxRecDepth 20000 in
theorem gf_c_X4_readUnit_3_c_X4_readCondition_3 : GoodIn wf_c_X4_readUnit_3 (wsV RX4 56 RX4 yX4_readCondition wf_c_X4_readCondition_3) := goodIn_app (gi_l [27, 28, 29, 11] rfl rfl) (gi_cons (j := 30) rfl rfl (goodIn_app (goodIn_app (gi_l [31, 32, 33, 4, 34, 17, 35, 36, 37, 11, 0, 1, 2, 3, 5, 6, 7, 8, 9, 10, 12, 13, 14, 15, 16, 18, 19, 20, 21, 22, 23, 24, 25, 26, 27, 28, 29, 38, 39, 40, 41, 42, 43, 44, 45, 46, 47, 48, 49, 50, 51, 52, 53, 54, 55, 56, 57, 58, 59, 60, 61, 62, 63, 64, 65, 66, 67, 68, 69, 70, 71, 72, 73, 74, 75, 76, 77, 78, 79, 80, 81, 82, 83, 84, 85, 86, 87, 88, 89, 90, 91, 92, 93, 94, 95, 96, 97, 98, 99, 100, 101, 102, 103, 104, 105, 106, 107, 108, 109, 110, 111] rfl rfl) (goodIn_sub iw_c_X4_readUnit_3_X9 gw_X9)) (goodIn_sub iw_c_X4_readUnit_3_X4 gw_X4)))
set_option maxRecDepth 20000 in
theorem gf_c_X4_readUnit_3_c_X4_readUnit_4 : GoodIn wf_c_X4_readUnit_3 (wsV RX4 76 RX4 yX4_readUnit wf_c_X4_readUnit_4) := goodIn_app (gi_l [35, 36, 37, 11] rfl rfl) (gi_cons (j := 0) rfl rfl (goodIn_app (goodIn_app (gi_l [1, 2, 3, 4, 5, 6, 7, 8, 9, 10, 11, 12, 13, 14, 15, 16, 17, 18, 19, 20, 21, 22, 23, 24, 25, 26, 27, 28, 29, 30, 31, 32, 33, 34, 35, 36, 37, 38, 39, 40, 41, 42, 43, 44, 45, 46, 47, 48, 49, 50, 51, 52, 53, 54, 55, 56, 57, 58, 59, 60, 61, 62, 63, 64, 65, 66, 67, 68, 69, 70, 71, 72, 73, 74, 75, 76, 77, 78, 79, 80, 81, 82, 83, 84, 85, 86, 87, 88, 89, 90, 91, 92, 93, 94, 95, 96, 97, 98, 99, 100, 101, 102, 103, 104, 105, 106, 107, 108, 109, 110, 111] rfl rfl) (goodIn_sub iw_c_X4_readUnit_3_X9 gw_X9)) (goodIn_sub iw_c_X4_readUnit_3_X4 gw_X4)))
set_option maxHeartbeats 4000000 in
set_option maxRecDepth 100000 in
theorem c_X4_readUnit_3 (l : Launch) (dC : Nat → ClassId) (dI : Nat → Nat → Nat) (sz : Nat) (h0 : Nat) (h1 : Nat) (h1_0 : Nat) (h1_f1 : Int32) (h1_f2 : Int32) (h1_f3 : Int32) (h1_0k : ClassId) (h1_0c : Nat → Int32) (h0_0 : Nat) (h0_f1 : Int32) (h0_2 : Nat) (h0_0k : ClassId) (h0_0c : Nat → Int32) (ts4 : Nat) (tv4 : Nat) (g_h1_f1 : RG h1_f1 0 240) (g_h1_f2 : RG h1_f2 0 240) (g_h1_f3 : RG h1_f3 (-1) 240) (a_h1_0c : AI h1_0c 0 255) (g_h0_f1 : RG h0_f1 0 240) : Met l yX4_readUnit wf_c_X4_readUnit_3 ({ frames := 14, cells := 0, slots := 0, locals := 341 }) (va_Pc [.ref h0, .ref h1, .int 2, .int 0] (fun U => U.heap.size = sz ∧ va_P (dC, dI) vwCl (wd_c_X4_readUnit_3 h1 h1_0 h1_f1 h1_f2 h1_f3 h1_0 h1_0k h1_0c h0 h0_0 h0_f1 h0_2 h0_0 h0_0k h0_0c) U.heap ∧ va_K (dC, dI) vwCl [(h1_0k, .int), (h0_0k, .int)] U ∧ va_D (fun _ => True) (wd_c_X4_readUnit_3 h1 h1_0 h1_f1 h1_f2 h1_f3 h1_0 h1_0k h1_0c h0 h0_0 h0_f1 h0_2 h0_0 h0_0k h0_0c) ∧ vk_R RX4 91 "vlrdph" ts4 U ∧ va_Z "java/lang/String" "COMPACT_STRINGS" "Z" (.int 1) (va_A (wd_c_X4_readUnit_3 h1 h1_0 h1_f1 h1_f2 h1_f3 h1_0 h1_0k h1_0c h0 h0_0 h0_f1 h0_2 h0_0 h0_0k h0_0c) sz) U U.heap ∧ va_OF "java/lang/String" "coder" "B" (.int 0) ts4 (va_A (wd_c_X4_readUnit_3 h1 h1_0 h1_f1 h1_f2 h1_f3 h1_0 h1_0k h1_0c h0 h0_0 h0_f1 h0_2 h0_0 h0_0k h0_0c) sz) U U.heap ∧ va_O "java/lang/String" ts4 (va_A (wd_c_X4_readUnit_3 h1 h1_0 h1_f1 h1_f2 h1_f3 h1_0 h1_0k h1_0c h0 h0_0 h0_f1 h0_2 h0_0 h0_0k h0_0c) sz) U U.heap ∧ va_OF "java/lang/String" "value" "[B" (.ref tv4) ts4 (va_A (wd_c_X4_readUnit_3 h1 h1_0 h1_f1 h1_f2 h1_f3 h1_0 h1_0k h1_0c h0 h0_0 h0_f1 h0_2 h0_0 h0_0k h0_0c) sz) U U.heap ∧ va_T .byte tv4 6 (fun j => .int ([118, 108, 114, 100, 112, 104].getD j 0)) (va_A (wd_c_X4_readUnit_3 h1 h1_0 h1_f1 h1_f2 h1_f3 h1_0 h1_0k h1_0c h0 h0_0 h0_f1 h0_2 h0_0 h0_0k h0_0c) sz) U U.heap)) (va_Qv (fun (u : (Int32) × (Int32) × (Int32) × (Nat → Int32)) => (RG u.1 0 240 ∧ RG u.2.1 (-1) 240 ∧ RG u.2.2.1 0 240 ∧ (u.1, u.2.1, u.2.2.1, u.2.2.2) = fx_c_X4_readUnit_3 h1_f1 h1_f2 h1_f3 h1_0c h0_f1 h0_0c)) (fun (u : (Int32) × (Int32) × (Int32) × (Nat → Int32)) t => va_P (dC, dI) vwCl (wd_c_X4_readUnit_3 h1 h1_0 h1_f1 (u.1) (u.2.1) h1_0 h1_0k h1_0c h0 h0_0 (u.2.2.1) h0_2 h0_0 h0_0k (u.2.2.2)) t.heap ∧ va_K (dC, dI) vwCl [] t ∧ va_D (va_A (wd_c_X4_readUnit_3 h1 h1_0 h1_f1 h1_f2 h1_f3 h1_0 h1_0k h1_0c h0 h0_0 h0_f1 h0_2 h0_0 h0_0k h0_0c) sz) (wd_c_X4_readUnit_3 h1 h1_0 h1_f1 (u.1) (u.2.1) h1_0 h1_0k h1_0c h0 h0_0 (u.2.2.1) h0_2 h0_0 h0_0k (u.2.2.2))) (va_A (wd_c_X4_readUnit_3 h1 h1_0 h1_f1 h1_f2 h1_f3 h1_0 h1_0k h1_0c h0 h0_0 h0_f1 h0_2 h0_0 h0_0k h0_0c) sz)) 0 0 (va_A (wd_c_X4_readUnit_3 h1 h1_0 h1_f1 h1_f2 h1_f3 h1_0 h1_0k h1_0c h0 h0_0 h0_f1 h0_2 h0_0 h0_0k h0_0c) sz) := by
  refine Met.ofW (cc := cX4_readUnit) (maxL := 5) (ret := none) (by decide +kernel) rfl ?_
  intro p e s m args below meth c s₁ B hml hv
  obtain ⟨rfl, hsz, hP, hK, hD0, hE_32, hE_10, hE_34, hE_33, hE_35, hE_36⟩ := hv
  have hx := B.exec
  have hb := B.bytes
  have hr := B.returns
  have hts := atoms_spec (ws := wf_c_X4_readUnit_3) B.pre
  have hown : s.vm.findClass RX4 = some m.cls := findClass_of_methodNamed B.named
  have hlocks := B.notSynchronized
  subst hsz
  have hD := hD0.self (sz := s.heap.size)
  generalize hAe : va_A (wd_c_X4_readUnit_3 h1 h1_0 h1_f1 h1_f2 h1_f3 h1_0 h1_0k h1_0c h0 h0_0 h0_f1 h0_2 h0_0 h0_0k h0_0c) s.heap.size = A at hD hE_10 hE_34 hE_33 hE_35 hE_36 ⊢
  have hA : ∀ q : Nat, s.heap.size ≤ q → A q := fun q h => by rw [← hAe]; exact Or.inr h
  have hP : va_P (dC, dI) vwCl (wd_c_X4_readUnit_3 h1 h1_0 h1_f1 h1_f2 h1_f3 h1_0 h1_0k h1_0c h0 h0_0 h0_f1 h0_2 h0_0 h0_0k h0_0c) s.heap := hP
  have hl := lv_entry ([.ref h0, .ref h1, .int 2, .int 0]) (n := 5) (Nat.le_of_ble_eq_true rfl)
  rw [lg_entry_eq]
  generalize (lg_sl ([.ref h0, .ref h1, .int 2, .int 0]) ++ List.replicate (5 - (lg_sl ([.ref h0, .ref h1, .int 2, .int 0])).length) Slot.unset).toArray = ls at hl ⊢
  have hl : lv_has ls 5 [(0, .ref h0), (1, .ref h1), (2, .int 2), (3, .int 0)] := hl
  obtain ⟨H, hHe⟩ : ∃ H : Heap, s.heap = H := ⟨_, rfl⟩
  have hS : va_S A s.heap H [] := by rw [hHe]; exact va_S.rf
  have hP : va_P (dC, dI) vwCl (wd_c_X4_readUnit_3 h1 h1_0 h1_f1 h1_f2 h1_f3 h1_0 h1_0k h1_0c h0 h0_0 h0_f1 h0_2 h0_0 h0_0k h0_0c) H := by rw [← hHe]; exact hP
  rw [hHe]
  obtain ⟨RES, hR⟩ : ∃ z, fx_c_X4_readUnit_3 h1_f1 h1_f2 h1_f3 h1_0c h0_f1 h0_0c = z := ⟨_, rfl⟩
  have hEX : RES = fx_c_X4_readUnit_3 h1_f1 h1_f2 h1_f3 h1_0c h0_f1 h0_0c := hR.symm
  refine wj (fun G hG hU => ?_)
  as_aux_lemma =>
  have J62 : ∀ (j62_h1_f2 : Int32) (j62_h1_f3 : Int32) (j62_h0_f1 : Int32) (j62_h0_0c : Nat → Int32) (g_h0_f1 : RG h0_f1 0 240) (g_h1_f1 : RG h1_f1 0 240) (g_h1_f2 : RG h1_f2 0 240) (g_h1_f3 : RG h1_f3 (-1) 240) (g_j62_h0_f1 : RG j62_h0_f1 0 240) (g_j62_h1_f2 : RG j62_h1_f2 0 240) (g_j62_h1_f3 : RG j62_h1_f3 (-1) 240) (hEX : RES = fx_c_X4_readUnit_3_p62 j62_h1_f2 j62_h1_f3 j62_h0_f1 j62_h0_0c) (H : Heap) (locs : List Loc) (ls : Array Slot) (hP : va_P (dC, dI) vwCl (wd_c_X4_readUnit_3 h1 h1_0 h1_f1 j62_h1_f2 j62_h1_f3 h1_0 h1_0k h1_0c h0 h0_0 j62_h0_f1 h0_2 h0_0 h0_0k j62_h0_0c) H) (hD : va_D A (wd_c_X4_readUnit_3 h1 h1_0 h1_f1 j62_h1_f2 j62_h1_f3 h1_0 h1_0k h1_0c h0 h0_0 j62_h0_f1 h0_2 h0_0 h0_0k j62_h0_0c)) (hS : va_S A s.heap H locs) (hl : lv_has ls 5 []), G H locs (F0 m 62 ls []) := by
    as_aux_lemma =>
    intro j62_h1_f2 j62_h1_f3 j62_h0_f1 j62_h0_0c g_h0_f1 g_h1_f1 g_h1_f2 g_h1_f3 g_j62_h0_f1 g_j62_h1_f2 g_j62_h1_f3 hEX H locs ls hP hD hS hl
    refine hG _ _ _ ?_
    refine lv_goto (tgt := 126) hx hb dX4_readUnit_62 rfl ?_
    have hK9 := hK.sub (tys' := []) [] rfl
    exact W.vret hx hb hr (fun t ht hW => ⟨⟨(j62_h1_f2, j62_h1_f3, j62_h0_f1, j62_h0_0c), rfl, ⟨g_j62_h1_f2, g_j62_h1_f3, g_j62_h0_f1, (hR.trans hEX).symm⟩, by rw [ht]; exact hP, va_K.moved hW.alike hK9, hD⟩, hS.F ht⟩) hS.2.2 dX4_readUnit_126
  have J24 : ∀ (j24_h1_f2 : Int32) (j24_h1_f3 : Int32) (j24_h0_f1 : Int32) (j24_h0_0c : Nat → Int32) (g_h0_f1 : RG h0_f1 0 240) (g_h1_f1 : RG h1_f1 0 240) (g_h1_f2 : RG h1_f2 0 240) (g_h1_f3 : RG h1_f3 (-1) 240) (g_j24_h0_f1 : RG j24_h0_f1 0 240) (g_j24_h1_f2 : RG j24_h1_f2 0 240) (g_j24_h1_f3 : RG j24_h1_f3 (-1) 240) (hEX : RES = fx_c_X4_readUnit_3_p24 h1_f1 h1_0c j24_h1_f2 j24_h1_f3 j24_h0_f1 j24_h0_0c) (H : Heap) (locs : List Loc) (ls : Array Slot) (hP : va_P (dC, dI) vwCl (wd_c_X4_readUnit_3 h1 h1_0 h1_f1 j24_h1_f2 j24_h1_f3 h1_0 h1_0k h1_0c h0 h0_0 j24_h0_f1 h0_2 h0_0 h0_0k j24_h0_0c) H) (hD : va_D A (wd_c_X4_readUnit_3 h1 h1_0 h1_f1 j24_h1_f2 j24_h1_f3 h1_0 h1_0k h1_0c h0 h0_0 j24_h0_f1 h0_2 h0_0 h0_0k j24_h0_0c)) (hS : va_S A s.heap H locs) (hl : lv_has ls 5 [(0, .ref h0), (1, .ref h1), (2, .int 2)]), G H locs (F0 m 24 ls []) := by
    as_aux_lemma =>
    intro j24_h1_f2 j24_h1_f3 j24_h0_f1 j24_h0_0c g_h0_f1 g_h1_f1 g_h1_f2 g_h1_f3 g_j24_h0_f1 g_j24_h1_f2 g_j24_h1_f3 hEX H locs ls hP hD hS hl
    refine hG _ _ _ ?_
    refine lv_aload_n hx hb dX4_readUnit_24 rfl (lv_at hl 1 rfl) ?_
    obtain ⟨hPc, hDc, hFc, hqc⟩ := cl_cut (wc := (wd_c_X9_peek h1 h1_0 h1_f1 j24_h1_f2 j24_h1_f3 h1_0 h1_0k h1_0c)) hP hD hS hA [0, 1] (by decide +kernel) rfl
    have hKc := hK.sub (tys' := [(h1_0k, .int)]) [0] rfl
    have hrv := va_recv hKc hPc (ci := 9) (q0 := 0) rfl rfl
    refine va_calli (va_runV (As := []) (rest := []) ⟨hx, hb, hml, hown, hts⟩ (c_X9_peek l dC dI H.size h1 h1_0 h1_f1 j24_h1_f2 j24_h1_f3 h1_0k h1_0c g_h1_f1 g_j24_h1_f2 g_j24_h1_f3 a_h1_0c) (cwV 0 hts gf_c_X4_readUnit_3_c_X9_peek rfl rfl rfl mdV_X9_peek ⟨Nat.le_of_ble_eq_true rfl, Nat.le_of_ble_eq_true rfl⟩) ⟨fun a U g mk q => by obtain ⟨q0, q1, qP, qK, qD⟩ := q; exact ⟨q0, q1, qP, va_K.moved (u := U) (U := U.calling g mk a) (Vm.Alike.refl U.vm) qK, qD⟩, hrv, fun U hU hW => ⟨rfl, by rw [hU], by rw [hU]; exact hPc, va_K.moved hW.alike hKc, hDc.weaken (fun _ _ _ _ => trivial)⟩⟩ rfl rfl hl.1 rfl (lv_room (Nat.le_of_ble_eq_true rfl)) dX4_readUnit_25 ⟨Nat.le_of_ble_eq_true rfl, Nat.le_of_ble_eq_true rfl⟩) hS (fun q _ h => hFc q h) hFc (fun r_1 x_2 t H1 locs ht hvm hw hB hz1 hk1 hS => ?_)
    obtain ⟨hP1, hK1, hD1⟩ := hB
    rw [ht] at hP1
    obtain ⟨hP, hD⟩ := cl_put (w1 := (wd_c_X9_peek h1 h1_0 h1_f1 x_2 j24_h1_f3 h1_0 h1_0k h1_0c)) (nw := (wd_c_X4_readUnit_3 h1 h1_0 h1_f1 x_2 j24_h1_f3 h1_0 h1_0k h1_0c h0 h0_0 j24_h0_f1 h0_2 h0_0 h0_0k j24_h0_0c)) hP hD [0, 1] [4, 5, 2, 3] 4 rfl hqc (by decide +kernel) rfl hk1 hFc hP1 hD1
    generalize H1 = H at hP hS ⊢
    as_aux_lemma =>
    rcases hw with ⟨h_3, h_4, h_5, h_6⟩ | ⟨h_7, h_8, h_9, h_10, h_11⟩
    · have h_6 : (r_1, x_2) = _ := h_6
      replace hEX := hEX.trans (exc2_eq h_6)
      replace hEX := hEX.trans (if_pos (show r_1 = (-1) from h_3))
      rw [h_3]
      refine lv_istore (lv' := [(4, .int (-1)), (0, .ref h0), (1, .ref h1), (2, .int 2)]) hx hb dX4_readUnit_28 hl (Nat.le_of_ble_eq_true rfl) rfl (fun ls hl => ?_)
      refine lv_iload hx hb dX4_readUnit_30 (lv_at hl 0 rfl) ?_
      obtain ⟨hPc, hDc, hFc, hqc⟩ := cl_cut (wc := []) hP hD hS hA [] (by decide +kernel) rfl
      have hKc := hK.sub (tys' := []) [] rfl
      refine va_calli (va_runS (As := [.int (-1)]) (rest := []) ⟨hx, hb, hml, hown, hts⟩ (c_X4_isComparison l dC dI H.size (-1) (RG_k (-1) (-1) rfl)) (va_cwS 1 hts gf_c_X4_readUnit_3_c_X4_isComparison rfl rfl rfl md_X4_isComparison ⟨Nat.le_of_ble_eq_true rfl, Nat.le_of_ble_eq_true rfl⟩) ⟨fun a U g mk q => by obtain ⟨q0, q1, qP, qK, qD⟩ := q; exact ⟨q0, q1, qP, va_K.moved (u := U) (U := U.calling g mk a) (Vm.Alike.refl U.vm) qK, qD⟩, fun U hU hW => ⟨rfl, by rw [hU], by rw [hU]; exact hPc, va_K.moved hW.alike hKc, hDc.weaken (fun _ _ _ _ => trivial)⟩⟩ rfl rfl hl.1 rfl (lv_room (Nat.le_of_ble_eq_true rfl)) dX4_readUnit_32 ⟨Nat.le_of_ble_eq_true rfl, Nat.le_of_ble_eq_true rfl⟩) hS (fun q _ h => hFc q h) hFc (fun r_12 u t H1 locs ht hvm hw hB hz1 hk1 hS => ?_)
      obtain ⟨hP1, hK1, hD1⟩ := hB
      rw [ht] at hP1
      have hP := bv_still hP hk1
      generalize H1 = H at hP hS ⊢
      as_aux_lemma =>
      rcases hw with ⟨h_13, h_14⟩
      have h_14 : r_12 = _ := h_14
      replace hEX := hEX.trans (exc1_eq h_14)
      rw [h_13]
      refine lv_if_eq (tgt := 58) hx hb dX4_readUnit_35 rfl (fun c_15 => ?_) (fun c_15 => absurd c_15 (by decide +kernel))
      refine lv_aload_n hx hb dX4_readUnit_58 rfl (lv_at hl 2 rfl) ?_
      obtain ⟨hPc, hDc, hFc, hqc⟩ := cl_cut (wc := (wd_c_X9_refuseHere h1 h1_0 h1_f1 x_2 j24_h1_f3)) hP hD hS hA [0] (by decide +kernel) rfl
      have hKc := hK.sub (tys' := []) [] rfl
      have hrv := va_recv hKc hPc (ci := 9) (q0 := 0) rfl rfl
      refine va_callv (va_runV (As := []) (rest := []) ⟨hx, hb, hml, hown, hts⟩ (c_X9_refuseHere l dC dI H.size h1 h1_0 h1_f1 x_2 j24_h1_f3 g_h1_f1 h_4 g_j24_h1_f3) (cwV 0 hts gf_c_X4_readUnit_3_c_X9_refuseHere rfl rfl rfl mdV_X9_refuseHere ⟨Nat.le_of_ble_eq_true rfl, Nat.le_of_ble_eq_true rfl⟩) ⟨fun a U g mk q => by obtain ⟨q0, q1, qP, qK, qD⟩ := q; exact ⟨q0, q1, qP, va_K.moved (u := U) (U := U.calling g mk a) (Vm.Alike.refl U.vm) qK, qD⟩, hrv, fun U hU hW => ⟨rfl, by rw [hU], by rw [hU]; exact hPc, va_K.moved hW.alike hKc, hDc.weaken (fun _ _ _ _ => trivial)⟩⟩ rfl rfl hl.1 rfl (lv_room (Nat.le_of_ble_eq_true rfl)) dX4_readUnit_59 ⟨Nat.le_of_ble_eq_true rfl, Nat.le_of_ble_eq_true rfl⟩) hS (fun q _ h => hFc q h) hFc (fun x_17 t H1 locs ht hvm hw hB hz1 hk1 hS => ?_)
      obtain ⟨hP1, hK1, hD1⟩ := hB
      rw [ht] at hP1
      obtain ⟨hP, hD⟩ := cl_put (w1 := (wd_c_X9_refuseHere h1 h1_0 h1_f1 x_2 x_17)) (nw := (wd_c_X4_readUnit_3 h1 h1_0 h1_f1 x_2 x_17 h1_0 h1_0k h1_0c h0 h0_0 j24_h0_f1 h0_2 h0_0 h0_0k j24_h0_0c)) hP hD [0] [4, 1, 2, 3] 4 rfl hqc (by decide +kernel) rfl hk1 hFc hP1 hD1
      generalize H1 = H at hP hS ⊢
      as_aux_lemma =>
      rcases hw with ⟨h_18, h_19⟩
      have h_19 : x_17 = _ := h_19
      replace hEX := hEX.trans (exc1_eq h_19)
      exact hU _ _ _ (J62 x_2 x_17 j24_h0_f1 j24_h0_0c g_h0_f1 g_h1_f1 g_h1_f2 g_h1_f3 g_j24_h0_f1 h_4 (RG_w h_18 (by decide +kernel)) hEX _ _ _ hP hD hS (lv_sub hl [] rfl))
    · have h_11 : (r_1, x_2) = _ := h_11
      replace hEX := hEX.trans (exc2_eq h_11)
      replace hEX := hEX.trans (if_neg (RG_neq (x := r_1) (c := (-1)) (show RG r_1 0 255 from h_7) (by decide +kernel)))
      refine lv_istore (lv' := [(4, .int r_1), (0, .ref h0), (1, .ref h1), (2, .int 2)]) hx hb dX4_readUnit_28 hl (Nat.le_of_ble_eq_true rfl) rfl (fun ls hl => ?_)
      refine lv_iload hx hb dX4_readUnit_30 (lv_at hl 0 rfl) ?_
      obtain ⟨hPc, hDc, hFc, hqc⟩ := cl_cut (wc := []) hP hD hS hA [] (by decide +kernel) rfl
      have hKc := hK.sub (tys' := []) [] rfl
      refine va_calli (va_runS (As := [.int r_1]) (rest := []) ⟨hx, hb, hml, hown, hts⟩ (c_X4_isComparison_1 l dC dI H.size r_1 h_7) (va_cwS 1 hts gf_c_X4_readUnit_3_c_X4_isComparison_1 rfl rfl rfl md_X4_isComparison ⟨Nat.le_of_ble_eq_true rfl, Nat.le_of_ble_eq_true rfl⟩) ⟨fun a U g mk q => by obtain ⟨q0, q1, qP, qK, qD⟩ := q; exact ⟨q0, q1, qP, va_K.moved (u := U) (U := U.calling g mk a) (Vm.Alike.refl U.vm) qK, qD⟩, fun U hU hW => ⟨rfl, by rw [hU], by rw [hU]; exact hPc, va_K.moved hW.alike hKc, hDc.weaken (fun _ _ _ _ => trivial)⟩⟩ rfl rfl hl.1 rfl (lv_room (Nat.le_of_ble_eq_true rfl)) dX4_readUnit_32 ⟨Nat.le_of_ble_eq_true rfl, Nat.le_of_ble_eq_true rfl⟩) hS (fun q _ h => hFc q h) hFc (fun r_20 u t H1 locs ht hvm hw hB hz1 hk1 hS => ?_)
      obtain ⟨hP1, hK1, hD1⟩ := hB
      rw [ht] at hP1
      have hP := bv_still hP hk1
      generalize H1 = H at hP hS ⊢
      as_aux_lemma =>
      rcases hw with ⟨h_21, h_22⟩ | ⟨h_23, h_24, h_25⟩
      · have h_22 : r_20 = _ := h_22
        replace hEX := hEX.trans (exc1_eq h_22)
        replace hEX := hEX.trans (if_pos (show r_20 = 0 from h_21))
        rw [h_21]
        refine lv_if_eq (tgt := 58) hx hb dX4_readUnit_35 rfl (fun c_26 => ?_) (fun c_26 => absurd c_26 (by decide +kernel))
        refine lv_aload_n hx hb dX4_readUnit_58 rfl (lv_at hl 2 rfl) ?_
        obtain ⟨hPc, hDc, hFc, hqc⟩ := cl_cut (wc := (wd_c_X9_refuseHere h1 h1_0 h1_f1 x_2 j24_h1_f3)) hP hD hS hA [0] (by decide +kernel) rfl
        have hKc := hK.sub (tys' := []) [] rfl
        have hrv := va_recv hKc hPc (ci := 9) (q0 := 0) rfl rfl
        refine va_callv (va_runV (As := []) (rest := []) ⟨hx, hb, hml, hown, hts⟩ (c_X9_refuseHere l dC dI H.size h1 h1_0 h1_f1 x_2 j24_h1_f3 (RG_w h_9 (by decide +kernel)) (RG_w h_8 (by decide +kernel)) g_j24_h1_f3) (cwV 0 hts gf_c_X4_readUnit_3_c_X9_refuseHere rfl rfl rfl mdV_X9_refuseHere ⟨Nat.le_of_ble_eq_true rfl, Nat.le_of_ble_eq_true rfl⟩) ⟨fun a U g mk q => by obtain ⟨q0, q1, qP, qK, qD⟩ := q; exact ⟨q0, q1, qP, va_K.moved (u := U) (U := U.calling g mk a) (Vm.Alike.refl U.vm) qK, qD⟩, hrv, fun U hU hW => ⟨rfl, by rw [hU], by rw [hU]; exact hPc, va_K.moved hW.alike hKc, hDc.weaken (fun _ _ _ _ => trivial)⟩⟩ rfl rfl hl.1 rfl (lv_room (Nat.le_of_ble_eq_true rfl)) dX4_readUnit_59 ⟨Nat.le_of_ble_eq_true rfl, Nat.le_of_ble_eq_true rfl⟩) hS (fun q _ h => hFc q h) hFc (fun x_28 t H1 locs ht hvm hw hB hz1 hk1 hS => ?_)
        obtain ⟨hP1, hK1, hD1⟩ := hB
        rw [ht] at hP1
        obtain ⟨hP, hD⟩ := cl_put (w1 := (wd_c_X9_refuseHere h1 h1_0 h1_f1 x_2 x_28)) (nw := (wd_c_X4_readUnit_3 h1 h1_0 h1_f1 x_2 x_28 h1_0 h1_0k h1_0c h0 h0_0 j24_h0_f1 h0_2 h0_0 h0_0k j24_h0_0c)) hP hD [0] [4, 1, 2, 3] 4 rfl hqc (by decide +kernel) rfl hk1 hFc hP1 hD1
        generalize H1 = H at hP hS ⊢
        as_aux_lemma =>
        rcases hw with ⟨h_29, h_30⟩
        have h_30 : x_28 = _ := h_30
        replace hEX := hEX.trans (exc1_eq h_30)
        exact hU _ _ _ (J62 x_2 x_28 j24_h0_f1 j24_h0_0c g_h0_f1 (RG_w h_9 (by decide +kernel)) g_h1_f2 g_h1_f3 g_j24_h0_f1 (RG_w h_8 (by decide +kernel)) (RG_w h_29 (by decide +kernel)) hEX _ _ _ hP hD hS (lv_sub hl [] rfl))
      · have h_25 : r_20 = _ := h_25
        replace hEX := hEX.trans (exc1_eq h_25)
        replace hEX := hEX.trans (if_neg (fun q9 : r_20 = 0 => absurd ((show r_20 = 1 from h_23).symm.trans q9) (by decide +kernel)))
        rw [h_23]
        refine lv_if_eq (tgt := 58) hx hb dX4_readUnit_35 rfl (fun c_31 => absurd c_31 (by decide +kernel)) (fun c_31 => ?_)
        refine lv_aload_n hx hb dX4_readUnit_38 rfl (lv_at hl 2 rfl) ?_
        obtain ⟨hPc, hDc, hFc, hqc⟩ := cl_cut (wc := (wd_c_X9_skip h1 h1_0 h1_f1 x_2 j24_h1_f3)) hP hD hS hA [0] (by decide +kernel) rfl
        have hKc := hK.sub (tys' := []) [] rfl
        have hrv := va_recv hKc hPc (ci := 9) (q0 := 0) rfl rfl
        refine va_callv (va_runV (As := []) (rest := []) ⟨hx, hb, hml, hown, hts⟩ (c_X9_skip l dC dI H.size h1 h1_0 h1_f1 x_2 j24_h1_f3 (RG_w h_9 (by decide +kernel)) h_8 g_j24_h1_f3) (cwV 0 hts gf_c_X4_readUnit_3_c_X9_skip rfl rfl rfl mdV_X9_skip ⟨Nat.le_of_ble_eq_true rfl, Nat.le_of_ble_eq_true rfl⟩) ⟨fun a U g mk q => by obtain ⟨q0, q1, qP, qK, qD⟩ := q; exact ⟨q0, q1, qP, va_K.moved (u := U) (U := U.calling g mk a) (Vm.Alike.refl U.vm) qK, qD⟩, hrv, fun U hU hW => ⟨rfl, by rw [hU], by rw [hU]; exact hPc, va_K.moved hW.alike hKc, hDc.weaken (fun _ _ _ _ => trivial)⟩⟩ rfl rfl hl.1 rfl (lv_room (Nat.le_of_ble_eq_true rfl)) dX4_readUnit_39 ⟨Nat.le_of_ble_eq_true rfl, Nat.le_of_ble_eq_true rfl⟩) hS (fun q _ h => hFc q h) hFc (fun x_33 t H1 locs ht hvm hw hB hz1 hk1 hS => ?_)
        as_aux_lemma =>
        obtain ⟨hP1, hK1, hD1⟩ := hB
        rw [ht] at hP1
        obtain ⟨hP, hD⟩ := cl_put (w1 := (wd_c_X9_skip h1 h1_0 h1_f1 x_33 j24_h1_f3)) (nw := (wd_c_X4_readUnit_3 h1 h1_0 h1_f1 x_33 j24_h1_f3 h1_0 h1_0k h1_0c h0 h0_0 j24_h0_f1 h0_2 h0_0 h0_0k j24_h0_0c)) hP hD [0] [4, 1, 2, 3] 4 rfl hqc (by decide +kernel) rfl hk1 hFc hP1 hD1
        generalize H1 = H at hP hS ⊢
        as_aux_lemma =>
        rcases hw with ⟨h_34, h_35, h_36, h_37⟩
        have h_37 : x_33 = _ := h_37
        replace hEX := hEX.trans (exc1_eq h_37)
        refine lv_aload_n hx hb dX4_readUnit_42 rfl (lv_at hl 1 rfl) ?_
        refine lv_aload_n hx hb dX4_readUnit_43 rfl (lv_at hl 2 rfl) ?_
        refine lv_iload_n hx hb dX4_readUnit_44 rfl (lv_at hl 3 rfl) ?_
        obtain ⟨hPc, hDc, hFc, hqc⟩ := cl_cut (wc := (wd_c_X4_readSum_2 h1 h1_0 h1_f1 x_33 j24_h1_f3 h1_0 h1_0k h1_0c h0 h0_0 j24_h0_f1 h0_2 h0_0 h0_0k j24_h0_0c)) hP hD hS hA [0, 1, 2, 3] (by decide +kernel) rfl
        have hKc := hK.sub (tys' := [(h1_0k, .int), (h0_0k, .int)]) [0, 1] rfl
        have hrv := va_recv hKc hPc (ci := 4) (q0 := 2) rfl rfl
        refine va_callv (va_runV (As := [.ref h1, .int 2]) (rest := []) ⟨hx, hb, hml, hown, hts⟩ (c_X4_readSum_2 l dC dI H.size h0 h1 h1_0 h1_f1 x_33 j24_h1_f3 h1_0k h1_0c h0_0 j24_h0_f1 h0_2 h0_0k j24_h0_0c ts4 tv4 (RG_w h_9 (by decide +kernel)) (RG_w h_34 (by decide +kernel)) g_j24_h1_f3 a_h1_0c g_j24_h0_f1) (cwV 2 hts gf_c_X4_readUnit_3_c_X4_readSum_2 rfl rfl rfl mdV_X4_readSum ⟨Nat.le_of_ble_eq_true rfl, Nat.le_of_ble_eq_true rfl⟩) ⟨fun a U g mk q => by obtain ⟨q0, q1, qP, qK, qD, qE0, qE1, qE2, qE3, qE4, qE5⟩ := q; exact ⟨q0, q1, qP, va_K.moved (u := U) (U := U.calling g mk a) (Vm.Alike.refl U.vm) qK, qD, vk_R.same rfl qE0, va_Z.moved (u := U) (U := U.calling g mk a) (Vm.Alike.refl U.vm) qE1, va_OF.moved (u := U) (U := U.calling g mk a) (Vm.Alike.refl U.vm) qE2, va_O.moved (u := U) (U := U.calling g mk a) (Vm.Alike.refl U.vm) qE3, va_OF.moved (u := U) (U := U.calling g mk a) (Vm.Alike.refl U.vm) qE4, va_T.moved (u := U) (U := U.calling g mk a) (Vm.Alike.refl U.vm) qE5⟩, hrv, fun U hU hW => ⟨rfl, by rw [hU], by rw [hU]; exact hPc, va_K.moved hW.alike hKc, hDc.weaken (fun _ _ _ _ => trivial), vk_R.warm hW hE_32, va_Z.moved hW.alike (by rw [hU]; exact (hE_10.kept hS.2.1).narrow hFc), va_OF.moved hW.alike (by rw [hU]; exact (hE_34.kept hS.2.1).narrow hFc), va_O.moved hW.alike (by rw [hU]; exact (hE_33.kept hS.2.1).narrow hFc), va_OF.moved hW.alike (by rw [hU]; exact (hE_35.kept hS.2.1).narrow hFc), va_T.moved hW.alike (by rw [hU]; exact (hE_36.kept hS.2.1).narrow hFc)⟩⟩ rfl rfl hl.1 rfl (lv_room (Nat.le_of_ble_eq_true rfl)) dX4_readUnit_45 ⟨Nat.le_of_ble_eq_true rfl, Nat.le_of_ble_eq_true rfl⟩) hS (fun q _ h => hFc q h) hFc (fun u t H1 locs ht hvm hw hB hz1 hk1 hS => ?_)
        obtain ⟨x_39, x_40, x_41, w_42⟩ := u
        obtain ⟨hP1, hK1, hD1⟩ := hB
        rw [ht] at hP1
        obtain ⟨hP, hD⟩ := cl_put (w1 := (wd_c_X4_readSum_2 h1 h1_0 h1_f1 x_39 x_40 h1_0 h1_0k h1_0c h0 h0_0 x_41 h0_2 h0_0 h0_0k w_42)) (nw := (wd_c_X4_readUnit_3 h1 h1_0 h1_f1 x_39 x_40 h1_0 h1_0k h1_0c h0 h0_0 x_41 h0_2 h0_0 h0_0k w_42)) hP hD [0, 1, 2, 3] [4, 5, 6, 7] 4 rfl hqc (by decide +kernel) rfl hk1 hFc hP1 hD1
        generalize H1 = H at hP hS ⊢
        as_aux_lemma =>
        rcases hw with ⟨h_43, h_44, h_45, h_46⟩
        have h_46 : (x_39, x_40, x_41, w_42) = _ := h_46
        replace hEX := hEX.trans (exc4_eq h_46)
        refine lv_aload_n hx hb dX4_readUnit_48 rfl (lv_at hl 1 rfl) ?_
        refine lv_iload hx hb dX4_readUnit_49 (lv_at hl 0 rfl) ?_
        refine lv_ineg hx hb dX4_readUnit_51 ?_
        refine lv_topi (fun x_47 ex_47 => ?_)
        replace hEX := hEX.trans (exl_eq ex_47)
        have g_48 : RG x_47 (-62) (-60) := RG_neg ex_47 h_24 (by decide +kernel)
        obtain ⟨hPc, hDc, hFc, hqc⟩ := cl_cut (wc := (wd_c_X4_emit h0 h0_0 x_41 h0_2 h0_0 h0_0k w_42)) hP hD hS hA [2, 3] (by decide +kernel) rfl
        have hKc := hK.sub (tys' := [(h0_0k, .int)]) [1] rfl
        have hrv := va_recv hKc hPc (ci := 4) (q0 := 0) rfl rfl
        refine va_callv (va_runV (As := [.int x_47]) (rest := []) ⟨hx, hb, hml, hown, hts⟩ (c_X4_emit l dC dI H.size h0 x_47 h0_0 x_41 h0_2 h0_0k w_42 h_45) (cwV 1 hts gf_c_X4_readUnit_3_c_X4_emit rfl rfl rfl mdV_X4_emit ⟨Nat.le_of_ble_eq_true rfl, Nat.le_of_ble_eq_true rfl⟩) ⟨fun a U g mk q => by obtain ⟨q0, q1, qP, qK, qD⟩ := q; exact ⟨q0, q1, qP, va_K.moved (u := U) (U := U.calling g mk a) (Vm.Alike.refl U.vm) qK, qD⟩, hrv, fun U hU hW => ⟨rfl, by rw [hU], by rw [hU]; exact hPc, va_K.moved hW.alike hKc, hDc.weaken (fun _ _ _ _ => trivial)⟩⟩ rfl rfl hl.1 rfl (lv_room (Nat.le_of_ble_eq_true rfl)) dX4_readUnit_52 ⟨Nat.le_of_ble_eq_true rfl, Nat.le_of_ble_eq_true rfl⟩) hS (fun q _ h => hFc q h) hFc (fun u t H1 locs ht hvm hw hB hz1 hk1 hS => ?_)
        obtain ⟨x_50, w_51⟩ := u
        obtain ⟨hP1, hK1, hD1⟩ := hB
        rw [ht] at hP1
        obtain ⟨hP, hD⟩ := cl_put (w1 := (wd_c_X4_emit h0 h0_0 x_50 h0_2 h0_0 h0_0k w_51)) (nw := (wd_c_X4_readUnit_3 h1 h1_0 h1_f1 x_39 x_40 h1_0 h1_0k h1_0c h0 h0_0 x_50 h0_2 h0_0 h0_0k w_51)) hP hD [2, 3] [0, 1, 4, 5] 4 rfl hqc (by decide +kernel) rfl hk1 hFc hP1 hD1
        generalize H1 = H at hP hS ⊢
        as_aux_lemma =>
        rcases hw with ⟨h_52, h_53⟩
        have h_53 : (x_50, w_51) = _ := h_53
        replace hEX := hEX.trans (exc2_eq h_53)
        refine lv_goto (tgt := 62) hx hb dX4_readUnit_55 rfl ?_
        exact hU _ _ _ (J62 x_39 x_40 x_50 w_51 g_h0_f1 (RG_w h_9 (by decide +kernel)) g_h1_f2 g_h1_f3 (RG_w h_52 (by decide +kernel)) h_43 h_44 hEX _ _ _ hP hD hS (lv_sub hl [] rfl))
  have J14 : ∀ (j14_h1_f2 : Int32) (g_h0_f1 : RG h0_f1 0 240) (g_h1_f1 : RG h1_f1 0 240) (g_h1_f2 : RG h1_f2 0 240) (g_h1_f3 : RG h1_f3 (-1) 240) (g_j14_h1_f2 : RG j14_h1_f2 0 240) (hEX : RES = fx_c_X4_readUnit_3_p14 h1_f1 h1_f3 h1_0c h0_f1 h0_0c j14_h1_f2) (H : Heap) (locs : List Loc) (ls : Array Slot) (hP : va_P (dC, dI) vwCl (wd_c_X4_readUnit_3 h1 h1_0 h1_f1 j14_h1_f2 h1_f3 h1_0 h1_0k h1_0c h0 h0_0 h0_f1 h0_2 h0_0 h0_0k h0_0c) H) (hD : va_D A (wd_c_X4_readUnit_3 h1 h1_0 h1_f1 j14_h1_f2 h1_f3 h1_0 h1_0k h1_0c h0 h0_0 h0_f1 h0_2 h0_0 h0_0k h0_0c)) (hS : va_S A s.heap H locs) (hl : lv_has ls 5 [(0, .ref h0), (1, .ref h1), (2, .int 2), (3, .int 0)]), G H locs (F0 m 14 ls []) := by
    as_aux_lemma =>
    intro j14_h1_f2 g_h0_f1 g_h1_f1 g_h1_f2 g_h1_f3 g_j14_h1_f2 hEX H locs ls hP hD hS hl
    refine hG _ _ _ ?_
    refine lv_iload_n hx hb dX4_readUnit_14 rfl (lv_at hl 3 rfl) ?_
    refine lv_if_ne (tgt := 24) hx hb dX4_readUnit_15 rfl (fun c_54 => absurd c_54 (by decide +kernel)) (fun c_54 => ?_)
    refine lv_aload_n hx hb dX4_readUnit_18 rfl (lv_at hl 0 rfl) ?_
    refine lv_aload_n hx hb dX4_readUnit_19 rfl (lv_at hl 1 rfl) ?_
    refine lv_iload_n hx hb dX4_readUnit_20 rfl (lv_at hl 2 rfl) ?_
    obtain ⟨hPc, hDc, hFc, hqc⟩ := cl_cut (wc := (wd_c_X4_readSum_2 h1 h1_0 h1_f1 j14_h1_f2 h1_f3 h1_0 h1_0k h1_0c h0 h0_0 h0_f1 h0_2 h0_0 h0_0k h0_0c)) hP hD hS hA [0, 1, 2, 3] (by decide +kernel) rfl
    have hKc := hK.sub (tys' := [(h1_0k, .int), (h0_0k, .int)]) [0, 1] rfl
    have hrv := va_recv hKc hPc (ci := 4) (q0 := 2) rfl rfl
    refine va_callv (va_runV (As := [.ref h1, .int 2]) (rest := []) ⟨hx, hb, hml, hown, hts⟩ (c_X4_readSum_2 l dC dI H.size h0 h1 h1_0 h1_f1 j14_h1_f2 h1_f3 h1_0k h1_0c h0_0 h0_f1 h0_2 h0_0k h0_0c ts4 tv4 g_h1_f1 g_j14_h1_f2 g_h1_f3 a_h1_0c g_h0_f1) (cwV 2 hts gf_c_X4_readUnit_3_c_X4_readSum_2 rfl rfl rfl mdV_X4_readSum ⟨Nat.le_of_ble_eq_true rfl, Nat.le_of_ble_eq_true rfl⟩) ⟨fun a U g mk q => by obtain ⟨q0, q1, qP, qK, qD, qE0, qE1, qE2, qE3, qE4, qE5⟩ := q; exact ⟨q0, q1, qP, va_K.moved (u := U) (U := U.calling g mk a) (Vm.Alike.refl U.vm) qK, qD, vk_R.same rfl qE0, va_Z.moved (u := U) (U := U.calling g mk a) (Vm.Alike.refl U.vm) qE1, va_OF.moved (u := U) (U := U.calling g mk a) (Vm.Alike.refl U.vm) qE2, va_O.moved (u := U) (U := U.calling g mk a) (Vm.Alike.refl U.vm) qE3, va_OF.moved (u := U) (U := U.calling g mk a) (Vm.Alike.refl U.vm) qE4, va_T.moved (u := U) (U := U.calling g mk a) (Vm.Alike.refl U.vm) qE5⟩, hrv, fun U hU hW => ⟨rfl, by rw [hU], by rw [hU]; exact hPc, va_K.moved hW.alike hKc, hDc.weaken (fun _ _ _ _ => trivial), vk_R.warm hW hE_32, va_Z.moved hW.alike (by rw [hU]; exact (hE_10.kept hS.2.1).narrow hFc), va_OF.moved hW.alike (by rw [hU]; exact (hE_34.kept hS.2.1).narrow hFc), va_O.moved hW.alike (by rw [hU]; exact (hE_33.kept hS.2.1).narrow hFc), va_OF.moved hW.alike (by rw [hU]; exact (hE_35.kept hS.2.1).narrow hFc), va_T.moved hW.alike (by rw [hU]; exact (hE_36.kept hS.2.1).narrow hFc)⟩⟩ rfl rfl hl.1 rfl (lv_room (Nat.le_of_ble_eq_true rfl)) dX4_readUnit_21 ⟨Nat.le_of_ble_eq_true rfl, Nat.le_of_ble_eq_true rfl⟩) hS (fun q _ h => hFc q h) hFc (fun u t H1 locs ht hvm hw hB hz1 hk1 hS => ?_)
    obtain ⟨x_56, x_57, x_58, w_59⟩ := u
    obtain ⟨hP1, hK1, hD1⟩ := hB
    rw [ht] at hP1
    obtain ⟨hP, hD⟩ := cl_put (w1 := (wd_c_X4_readSum_2 h1 h1_0 h1_f1 x_56 x_57 h1_0 h1_0k h1_0c h0 h0_0 x_58 h0_2 h0_0 h0_0k w_59)) (nw := (wd_c_X4_readUnit_3 h1 h1_0 h1_f1 x_56 x_57 h1_0 h1_0k h1_0c h0 h0_0 x_58 h0_2 h0_0 h0_0k w_59)) hP hD [0, 1, 2, 3] [4, 5, 6, 7] 4 rfl hqc (by decide +kernel) rfl hk1 hFc hP1 hD1
    generalize H1 = H at hP hS ⊢
    as_aux_lemma =>
    rcases hw with ⟨h_60, h_61, h_62, h_63⟩
    have h_63 : (x_56, x_57, x_58, w_59) = _ := h_63
    replace hEX := hEX.trans (exc4_eq h_63)
    exact hU _ _ _ (J24 x_56 x_57 x_58 w_59 g_h0_f1 g_h1_f1 g_h1_f2 g_h1_f3 h_62 h_60 h_61 hEX _ _ _ hP hD hS (lv_sub hl [0, 1, 2] rfl))
  refine hG _ _ _ ?_
  refine lv_iload_n hx hb dX4_readUnit_0 rfl (lv_at hl 3 rfl) ?_
  refine lv_if_ne (tgt := 14) hx hb dX4_readUnit_1 rfl (fun c_64 => absurd c_64 (by decide +kernel)) (fun c_64 => ?_)
  refine lv_aload_n hx hb dX4_readUnit_4 rfl (lv_at hl 1 rfl) ?_
  obtain ⟨hPc, hDc, hFc, hqc⟩ := cl_cut (wc := (wd_c_X9_peek h1 h1_0 h1_f1 h1_f2 h1_f3 h1_0 h1_0k h1_0c)) hP hD hS hA [0, 1] (by decide +kernel) rfl
  have hKc := hK.sub (tys' := [(h1_0k, .int)]) [0] rfl
  have hrv := va_recv hKc hPc (ci := 9) (q0 := 0) rfl rfl
  refine va_calli (va_runV (As := []) (rest := []) ⟨hx, hb, hml, hown, hts⟩ (c_X9_peek l dC dI H.size h1 h1_0 h1_f1 h1_f2 h1_f3 h1_0k h1_0c g_h1_f1 g_h1_f2 g_h1_f3 a_h1_0c) (cwV 0 hts gf_c_X4_readUnit_3_c_X9_peek rfl rfl rfl mdV_X9_peek ⟨Nat.le_of_ble_eq_true rfl, Nat.le_of_ble_eq_true rfl⟩) ⟨fun a U g mk q => by obtain ⟨q0, q1, qP, qK, qD⟩ := q; exact ⟨q0, q1, qP, va_K.moved (u := U) (U := U.calling g mk a) (Vm.Alike.refl U.vm) qK, qD⟩, hrv, fun U hU hW => ⟨rfl, by rw [hU], by rw [hU]; exact hPc, va_K.moved hW.alike hKc, hDc.weaken (fun _ _ _ _ => trivial)⟩⟩ rfl rfl hl.1 rfl (lv_room (Nat.le_of_ble_eq_true rfl)) dX4_readUnit_5 ⟨Nat.le_of_ble_eq_true rfl, Nat.le_of_ble_eq_true rfl⟩) hS (fun q _ h => hFc q h) hFc (fun r_65 x_66 t H1 locs ht hvm hw hB hz1 hk1 hS => ?_)
  obtain ⟨hP1, hK1, hD1⟩ := hB
  rw [ht] at hP1
  obtain ⟨hP, hD⟩ := cl_put (w1 := (wd_c_X9_peek h1 h1_0 h1_f1 x_66 h1_f3 h1_0 h1_0k h1_0c)) (nw := (wd_c_X4_readUnit_3 h1 h1_0 h1_f1 x_66 h1_f3 h1_0 h1_0k h1_0c h0 h0_0 h0_f1 h0_2 h0_0 h0_0k h0_0c)) hP hD [0, 1] [4, 5, 2, 3] 4 rfl hqc (by decide +kernel) rfl hk1 hFc hP1 hD1
  generalize H1 = H at hP hS ⊢
  as_aux_lemma =>
  rcases hw with ⟨h_67, h_68, h_69, h_70⟩ | ⟨h_71, h_72, h_73, h_74, h_75⟩
  · have h_70 : (r_65, x_66) = _ := h_70
    replace hEX := hEX.trans (exc2_eq h_70)
    replace hEX := hEX.trans (if_pos (show r_65 = (-1) from h_67))
    rw [h_67]
    obtain ⟨hPc, hDc, hFc, hqc⟩ := cl_cut (wc := []) hP hD hS hA [] (by decide +kernel) rfl
    have hKc := hK.sub (tys' := []) [] rfl
    refine va_calli (va_runS (As := [.int (-1)]) (rest := []) ⟨hx, hb, hml, hown, hts⟩ (c_X4_startsUnit l dC dI H.size (-1) (RG_k (-1) (-1) rfl)) (va_cwS 1 hts gf_c_X4_readUnit_3_c_X4_startsUnit rfl rfl rfl md_X4_startsUnit ⟨Nat.le_of_ble_eq_true rfl, Nat.le_of_ble_eq_true rfl⟩) ⟨fun a U g mk q => by obtain ⟨q0, q1, qP, qK, qD⟩ := q; exact ⟨q0, q1, qP, va_K.moved (u := U) (U := U.calling g mk a) (Vm.Alike.refl U.vm) qK, qD⟩, fun U hU hW => ⟨rfl, by rw [hU], by rw [hU]; exact hPc, va_K.moved hW.alike hKc, hDc.weaken (fun _ _ _ _ => trivial)⟩⟩ rfl rfl hl.1 rfl (lv_room (Nat.le_of_ble_eq_true rfl)) dX4_readUnit_8 ⟨Nat.le_of_ble_eq_true rfl, Nat.le_of_ble_eq_true rfl⟩) hS (fun q _ h => hFc q h) hFc (fun r_76 u t H1 locs ht hvm hw hB hz1 hk1 hS => ?_)
    obtain ⟨hP1, hK1, hD1⟩ := hB
    rw [ht] at hP1
    have hP := bv_still hP hk1
    generalize H1 = H at hP hS ⊢
    as_aux_lemma =>
    rcases hw with ⟨h_77, h_78⟩
    have h_78 : r_76 = _ := h_78
    replace hEX := hEX.trans (exc1_eq h_78)
    rw [h_77]
    refine lv_if_ne (tgt := 65) hx hb dX4_readUnit_11 rfl (fun c_79 => absurd c_79 (by decide +kernel)) (fun c_79 => ?_)
    exact hU _ _ _ (J14 x_66 g_h0_f1 g_h1_f1 g_h1_f2 g_h1_f3 h_68 hEX _ _ _ hP hD hS (lv_sub hl [0, 1, 2, 3] rfl))
  · have h_75 : (r_65, x_66) = _ := h_75
    replace hEX := hEX.trans (exc2_eq h_75)
    replace hEX := hEX.trans (if_neg (RG_neq (x := r_65) (c := (-1)) (show RG r_65 0 255 from h_71) (by decide +kernel)))
    obtain ⟨hPc, hDc, hFc, hqc⟩ := cl_cut (wc := []) hP hD hS hA [] (by decide +kernel) rfl
    have hKc := hK.sub (tys' := []) [] rfl
    refine va_calli (va_runS (As := [.int r_65]) (rest := []) ⟨hx, hb, hml, hown, hts⟩ (c_X4_startsUnit_1 l dC dI H.size r_65 h_71) (va_cwS 1 hts gf_c_X4_readUnit_3_c_X4_startsUnit_1 rfl rfl rfl md_X4_startsUnit ⟨Nat.le_of_ble_eq_true rfl, Nat.le_of_ble_eq_true rfl⟩) ⟨fun a U g mk q => by obtain ⟨q0, q1, qP, qK, qD⟩ := q; exact ⟨q0, q1, qP, va_K.moved (u := U) (U := U.calling g mk a) (Vm.Alike.refl U.vm) qK, qD⟩, fun U hU hW => ⟨rfl, by rw [hU], by rw [hU]; exact hPc, va_K.moved hW.alike hKc, hDc.weaken (fun _ _ _ _ => trivial)⟩⟩ rfl rfl hl.1 rfl (lv_room (Nat.le_of_ble_eq_true rfl)) dX4_readUnit_8 ⟨Nat.le_of_ble_eq_true rfl, Nat.le_of_ble_eq_true rfl⟩) hS (fun q _ h => hFc q h) hFc (fun r_80 u t H1 locs ht hvm hw hB hz1 hk1 hS => ?_)
    obtain ⟨hP1, hK1, hD1⟩ := hB
    rw [ht] at hP1
    have hP := bv_still hP hk1
    generalize H1 = H at hP hS ⊢
    as_aux_lemma =>
    rcases hw with ⟨h_81, h_82⟩ | ⟨h_83, h_84, h_85⟩
    · have h_82 : r_80 = _ := h_82
      replace hEX := hEX.trans (exc1_eq h_82)
      replace hEX := hEX.trans (if_pos (show r_80 = 0 from h_81))
      rw [h_81]
      refine lv_if_ne (tgt := 65) hx hb dX4_readUnit_11 rfl (fun c_86 => absurd c_86 (by decide +kernel)) (fun c_86 => ?_)
      exact hU _ _ _ (J14 x_66 g_h0_f1 (RG_w h_73 (by decide +kernel)) g_h1_f2 g_h1_f3 (RG_w h_72 (by decide +kernel)) hEX _ _ _ hP hD hS (lv_sub hl [0, 1, 2, 3] rfl))
    · have h_85 : r_80 = _ := h_85
      replace hEX := hEX.trans (exc1_eq h_85)
      replace hEX := hEX.trans (if_neg (fun q9 : r_80 = 0 => absurd ((show r_80 = 1 from h_83).symm.trans q9) (by decide +kernel)))
      rw [h_83]
      refine lv_if_ne (tgt := 65) hx hb dX4_readUnit_11 rfl (fun c_87 => ?_) (fun c_87 => absurd c_87 (by decide +kernel))
      refine lv_iload_n hx hb dX4_readUnit_65 rfl (lv_at hl 2 rfl) ?_
      refine lv_bipush (v := 6) hx hb dX4_readUnit_66 kc_bipush_6 ?_
      as_aux_lemma =>
      refine lv_icmp_lt (tgt := 78) hx hb dX4_readUnit_68 rfl (fun c_88 => ?_) (fun c_88 => absurd c_88 (by decide +kernel))
      refine lv_aload_n hx hb dX4_readUnit_78 rfl (lv_at hl 1 rfl) ?_
      refine lv_bipush (v := 33) hx hb dX4_readUnit_79 kc_bipush_33 ?_
      obtain ⟨hPc, hDc, hFc, hqc⟩ := cl_cut (wc := (wd_c_X9_take h1 h1_0 h1_f1 x_66 h1_f3 h1_0 h1_0k h1_0c)) hP hD hS hA [0, 1] (by decide +kernel) rfl
      have hKc := hK.sub (tys' := [(h1_0k, .int)]) [0] rfl
      have hrv := va_recv hKc hPc (ci := 9) (q0 := 0) rfl rfl
      refine va_calli (va_runV (As := [.int 33]) (rest := []) ⟨hx, hb, hml, hown, hts⟩ (c_X9_take l dC dI H.size h1 33 h1_0 h1_f1 x_66 h1_f3 h1_0k h1_0c (RG_w (RG_k 33 33 rfl) (by decide +kernel)) (RG_w h_73 (by decide +kernel)) (RG_w h_72 (by decide +kernel)) g_h1_f3 a_h1_0c) (cwV 1 hts gf_c_X4_readUnit_3_c_X9_take rfl rfl rfl mdV_X9_take ⟨Nat.le_of_ble_eq_true rfl, Nat.le_of_ble_eq_true rfl⟩) ⟨fun a U g mk q => by obtain ⟨q0, q1, qP, qK, qD⟩ := q; exact ⟨q0, q1, qP, va_K.moved (u := U) (U := U.calling g mk a) (Vm.Alike.refl U.vm) qK, qD⟩, hrv, fun U hU hW => ⟨rfl, by rw [hU], by rw [hU]; exact hPc, va_K.moved hW.alike hKc, hDc.weaken (fun _ _ _ _ => trivial)⟩⟩ rfl rfl hl.1 rfl (lv_room (Nat.le_of_ble_eq_true rfl)) dX4_readUnit_81 ⟨Nat.le_of_ble_eq_true rfl, Nat.le_of_ble_eq_true rfl⟩) hS (fun q _ h => hFc q h) hFc (fun r_89 x_90 t H1 locs ht hvm hw hB hz1 hk1 hS => ?_)
      obtain ⟨hP1, hK1, hD1⟩ := hB
      rw [ht] at hP1
      obtain ⟨hP, hD⟩ := cl_put (w1 := (wd_c_X9_take h1 h1_0 h1_f1 x_90 h1_f3 h1_0 h1_0k h1_0c)) (nw := (wd_c_X4_readUnit_3 h1 h1_0 h1_f1 x_90 h1_f3 h1_0 h1_0k h1_0c h0 h0_0 h0_f1 h0_2 h0_0 h0_0k h0_0c)) hP hD [0, 1] [4, 5, 2, 3] 4 rfl hqc (by decide +kernel) rfl hk1 hFc hP1 hD1
      generalize H1 = H at hP hS ⊢
      as_aux_lemma =>
      rcases hw with ⟨h_91, h_92, h_93, h_94⟩ | ⟨h_95, h_96, h_97, h_98, h_99, h_100⟩
      · have h_94 : (r_89, x_90) = _ := h_94
        replace hEX := hEX.trans (exc2_eq h_94)
        replace hEX := hEX.trans (if_pos (show r_89 = 0 from h_91))
        rw [h_91]
        refine lv_if_eq (tgt := 105) hx hb dX4_readUnit_84 rfl (fun c_101 => ?_) (fun c_101 => absurd c_101 (by decide +kernel))
        refine lv_aload_n hx hb dX4_readUnit_105 rfl (lv_at hl 1 rfl) ?_
        refine lv_bipush (v := 40) hx hb dX4_readUnit_106 kc_bipush_40 ?_
        obtain ⟨hPc, hDc, hFc, hqc⟩ := cl_cut (wc := (wd_c_X9_expect_1 h1 h1_0 h1_f1 x_90 h1_f3 h1_0 h1_0k h1_0c)) hP hD hS hA [0, 1] (by decide +kernel) rfl
        have hKc := hK.sub (tys' := [(h1_0k, .int)]) [0] rfl
        have hrv := va_recv hKc hPc (ci := 9) (q0 := 0) rfl rfl
        refine va_callv (va_runV (As := [.int 40]) (rest := []) ⟨hx, hb, hml, hown, hts⟩ (c_X9_expect_1 l dC dI H.size h1 40 h1_0 h1_f1 x_90 h1_f3 h1_0k h1_0c (RG_w (RG_k 40 40 rfl) (by decide +kernel)) (RG_w h_73 (by decide +kernel)) h_92 g_h1_f3 a_h1_0c) (cwV 1 hts gf_c_X4_readUnit_3_c_X9_expect_1 rfl rfl rfl mdV_X9_expect ⟨Nat.le_of_ble_eq_true rfl, Nat.le_of_ble_eq_true rfl⟩) ⟨fun a U g mk q => by obtain ⟨q0, q1, qP, qK, qD⟩ := q; exact ⟨q0, q1, qP, va_K.moved (u := U) (U := U.calling g mk a) (Vm.Alike.refl U.vm) qK, qD⟩, hrv, fun U hU hW => ⟨rfl, by rw [hU], by rw [hU]; exact hPc, va_K.moved hW.alike hKc, hDc.weaken (fun _ _ _ _ => trivial)⟩⟩ rfl rfl hl.1 rfl (lv_room (Nat.le_of_ble_eq_true rfl)) dX4_readUnit_108 ⟨Nat.le_of_ble_eq_true rfl, Nat.le_of_ble_eq_true rfl⟩) hS (fun q _ h => hFc q h) hFc (fun u t H1 locs ht hvm hw hB hz1 hk1 hS => ?_)
        obtain ⟨x_103, x_104⟩ := u
        obtain ⟨hP1, hK1, hD1⟩ := hB
        rw [ht] at hP1
        obtain ⟨hP, hD⟩ := cl_put (w1 := (wd_c_X9_expect_1 h1 h1_0 h1_f1 x_103 x_104 h1_0 h1_0k h1_0c)) (nw := (wd_c_X4_readUnit_3 h1 h1_0 h1_f1 x_103 x_104 h1_0 h1_0k h1_0c h0 h0_0 h0_f1 h0_2 h0_0 h0_0k h0_0c)) hP hD [0, 1] [4, 5, 2, 3] 4 rfl hqc (by decide +kernel) rfl hk1 hFc hP1 hD1
        generalize H1 = H at hP hS ⊢
        as_aux_lemma =>
        rcases hw with ⟨h_105, h_106, h_107, h_108⟩
        have h_108 : (x_103, x_104) = _ := h_108
        replace hEX := hEX.trans (exc2_eq h_108)
        refine lv_aload_n hx hb dX4_readUnit_111 rfl (lv_at hl 0 rfl) ?_
        refine lv_aload_n hx hb dX4_readUnit_112 rfl (lv_at hl 1 rfl) ?_
        refine lv_iload_n hx hb dX4_readUnit_113 rfl (lv_at hl 2 rfl) ?_
        refine lv_iconst (v := 1) hx hb dX4_readUnit_114 kc_iconst_1 ?_
        refine lv_iadd hx hb dX4_readUnit_115 ?_
        refine lv_topi (fun x_109 ex_109 => ?_)
        obtain rfl : x_109 = 3 := ex_109.trans (by decide +kernel)
        refine lv_iconst (v := 0) hx hb dX4_readUnit_116 kc_iconst_0 ?_
        obtain ⟨hPc, hDc, hFc, hqc⟩ := cl_cut (wc := (wd_c_X4_readCondition_3 h1 h1_0 h1_f1 x_103 x_104 h1_0 h1_0k h1_0c h0 h0_0 h0_f1 h0_2 h0_0 h0_0k h0_0c)) hP hD hS hA [0, 1, 2, 3] (by decide +kernel) rfl
        have hKc := hK.sub (tys' := [(h1_0k, .int), (h0_0k, .int)]) [0, 1] rfl
        have hrv := va_recv hKc hPc (ci := 4) (q0 := 2) rfl rfl
        refine va_callv (va_runV (As := [.ref h1, .int 3, .int 0]) (rest := []) ⟨hx, hb, hml, hown, hts⟩ (c_X4_readCondition_3 l dC dI H.size h0 h1 h1_0 h1_f1 x_103 x_104 h1_0k h1_0c h0_0 h0_f1 h0_2 h0_0k h0_0c ts4 tv4 (RG_w h_73 (by decide +kernel)) h_105 h_106 a_h1_0c g_h0_f1) (cwV 3 hts gf_c_X4_readUnit_3_c_X4_readCondition_3 rfl rfl rfl mdV_X4_readCondition ⟨Nat.le_of_ble_eq_true rfl, Nat.le_of_ble_eq_true rfl⟩) ⟨fun a U g mk q => by obtain ⟨q0, q1, qP, qK, qD, qE0, qE1, qE2, qE3, qE4, qE5⟩ := q; exact ⟨q0, q1, qP, va_K.moved (u := U) (U := U.calling g mk a) (Vm.Alike.refl U.vm) qK, qD, vk_R.same rfl qE0, va_Z.moved (u := U) (U := U.calling g mk a) (Vm.Alike.refl U.vm) qE1, va_OF.moved (u := U) (U := U.calling g mk a) (Vm.Alike.refl U.vm) qE2, va_O.moved (u := U) (U := U.calling g mk a) (Vm.Alike.refl U.vm) qE3, va_OF.moved (u := U) (U := U.calling g mk a) (Vm.Alike.refl U.vm) qE4, va_T.moved (u := U) (U := U.calling g mk a) (Vm.Alike.refl U.vm) qE5⟩, hrv, fun U hU hW => ⟨rfl, by rw [hU], by rw [hU]; exact hPc, va_K.moved hW.alike hKc, hDc.weaken (fun _ _ _ _ => trivial), vk_R.warm hW hE_32, va_Z.moved hW.alike (by rw [hU]; exact (hE_10.kept hS.2.1).narrow hFc), va_OF.moved hW.alike (by rw [hU]; exact (hE_34.kept hS.2.1).narrow hFc), va_O.moved hW.alike (by rw [hU]; exact (hE_33.kept hS.2.1).narrow hFc), va_OF.moved hW.alike (by rw [hU]; exact (hE_35.kept hS.2.1).narrow hFc), va_T.moved hW.alike (by rw [hU]; exact (hE_36.kept hS.2.1).narrow hFc)⟩⟩ rfl rfl hl.1 rfl (lv_room (Nat.le_of_ble_eq_true rfl)) dX4_readUnit_117 ⟨Nat.le_of_ble_eq_true rfl, Nat.le_of_ble_eq_true rfl⟩) hS (fun q _ h => hFc q h) hFc (fun u t H1 locs ht hvm hw hB hz1 hk1 hS => ?_)
        as_aux_lemma =>
        obtain ⟨x_111, x_112, x_113, w_114⟩ := u
        obtain ⟨hP1, hK1, hD1⟩ := hB
        rw [ht] at hP1
        obtain ⟨hP, hD⟩ := cl_put (w1 := (wd_c_X4_readCondition_3 h1 h1_0 h1_f1 x_111 x_112 h1_0 h1_0k h1_0c h0 h0_0 x_113 h0_2 h0_0 h0_0k w_114)) (nw := (wd_c_X4_readUnit_3 h1 h1_0 h1_f1 x_111 x_112 h1_0 h1_0k h1_0c h0 h0_0 x_113 h0_2 h0_0 h0_0k w_114)) hP hD [0, 1, 2, 3] [4, 5, 6, 7] 4 rfl hqc (by decide +kernel) rfl hk1 hFc hP1 hD1
        generalize H1 = H at hP hS ⊢
        as_aux_lemma =>
        rcases hw with ⟨h_115, h_116, h_117, h_118⟩
        have h_118 : (x_111, x_112, x_113, w_114) = _ := h_118
        replace hEX := hEX.trans (exc4_eq h_118)
        refine lv_aload_n hx hb dX4_readUnit_120 rfl (lv_at hl 1 rfl) ?_
        refine lv_bipush (v := 41) hx hb dX4_readUnit_121 kc_bipush_41 ?_
        obtain ⟨hPc, hDc, hFc, hqc⟩ := cl_cut (wc := (wd_c_X9_expect_1 h1 h1_0 h1_f1 x_111 x_112 h1_0 h1_0k h1_0c)) hP hD hS hA [0, 1] (by decide +kernel) rfl
        have hKc := hK.sub (tys' := [(h1_0k, .int)]) [0] rfl
        have hrv := va_recv hKc hPc (ci := 9) (q0 := 0) rfl rfl
        refine va_callv (va_runV (As := [.int 41]) (rest := []) ⟨hx, hb, hml, hown, hts⟩ (c_X9_expect_1 l dC dI H.size h1 41 h1_0 h1_f1 x_111 x_112 h1_0k h1_0c (RG_w (RG_k 41 41 rfl) (by decide +kernel)) (RG_w h_73 (by decide +kernel)) h_115 h_116 a_h1_0c) (cwV 1 hts gf_c_X4_readUnit_3_c_X9_expect_1 rfl rfl rfl mdV_X9_expect ⟨Nat.le_of_ble_eq_true rfl, Nat.le_of_ble_eq_true rfl⟩) ⟨fun a U g mk q => by obtain ⟨q0, q1, qP, qK, qD⟩ := q; exact ⟨q0, q1, qP, va_K.moved (u := U) (U := U.calling g mk a) (Vm.Alike.refl U.vm) qK, qD⟩, hrv, fun U hU hW => ⟨rfl, by rw [hU], by rw [hU]; exact hPc, va_K.moved hW.alike hKc, hDc.weaken (fun _ _ _ _ => trivial)⟩⟩ rfl rfl hl.1 rfl (lv_room (Nat.le_of_ble_eq_true rfl)) dX4_readUnit_123 ⟨Nat.le_of_ble_eq_true rfl, Nat.le_of_ble_eq_true rfl⟩) hS (fun q _ h => hFc q h) hFc (fun u t H1 locs ht hvm hw hB hz1 hk1 hS => ?_)
        obtain ⟨x_120, x_121⟩ := u
        obtain ⟨hP1, hK1, hD1⟩ := hB
        rw [ht] at hP1
        obtain ⟨hP, hD⟩ := cl_put (w1 := (wd_c_X9_expect_1 h1 h1_0 h1_f1 x_120 x_121 h1_0 h1_0k h1_0c)) (nw := (wd_c_X4_readUnit_3 h1 h1_0 h1_f1 x_120 x_121 h1_0 h1_0k h1_0c h0 h0_0 x_113 h0_2 h0_0 h0_0k w_114)) hP hD [0, 1] [4, 5, 2, 3] 4 rfl hqc (by decide +kernel) rfl hk1 hFc hP1 hD1
        generalize H1 = H at hP hS ⊢
        as_aux_lemma =>
        rcases hw with ⟨h_122, h_123, h_124, h_125⟩
        have h_125 : (x_120, x_121) = _ := h_125
        replace hEX := hEX.trans (exc2_eq h_125)
        have hK9 := hK.sub (tys' := []) [] rfl
        exact W.vret hx hb hr (fun t ht hW => ⟨⟨(x_120, x_121, x_113, w_114), rfl, ⟨h_122, h_123, h_117, (hR.trans hEX).symm⟩, by rw [ht]; exact hP, va_K.moved hW.alike hK9, hD⟩, hS.F ht⟩) hS.2.2 dX4_readUnit_126
      · have h_100 : (r_89, x_90) = _ := h_100
        replace hEX := hEX.trans (exc2_eq h_100)
        replace hEX := hEX.trans (if_neg (fun q9 : r_89 = 0 => absurd ((show r_89 = 1 from h_95).symm.trans q9) (by decide +kernel)))
        rw [h_95]
        refine lv_if_eq (tgt := 105) hx hb dX4_readUnit_84 rfl (fun c_126 => absurd c_126 (by decide +kernel)) (fun c_126 => ?_)
        refine lv_aload_n hx hb dX4_readUnit_87 rfl (lv_at hl 0 rfl) ?_
        refine lv_aload_n hx hb dX4_readUnit_88 rfl (lv_at hl 1 rfl) ?_
        refine lv_iload_n hx hb dX4_readUnit_89 rfl (lv_at hl 2 rfl) ?_
        refine lv_iconst (v := 1) hx hb dX4_readUnit_90 kc_iconst_1 ?_
        as_aux_lemma =>
        refine lv_iadd hx hb dX4_readUnit_91 ?_
        refine lv_topi (fun x_127 ex_127 => ?_)
        obtain rfl : x_127 = 3 := ex_127.trans (by decide +kernel)
        refine lv_iconst (v := 0) hx hb dX4_readUnit_92 kc_iconst_0 ?_
        obtain ⟨hPc, hDc, hFc, hqc⟩ := cl_cut (wc := (wd_c_X4_readUnit_4 h1 h1_0 h1_f1 x_90 h1_f3 h1_0 h1_0k h1_0c h0 h0_0 h0_f1 h0_2 h0_0 h0_0k h0_0c)) hP hD hS hA [0, 1, 2, 3] (by decide +kernel) rfl
        have hKc := hK.sub (tys' := [(h1_0k, .int), (h0_0k, .int)]) [0, 1] rfl
        have hrv := va_recv hKc hPc (ci := 4) (q0 := 2) rfl rfl
        refine va_callv (va_runV (As := [.ref h1, .int 3, .int 0]) (rest := []) ⟨hx, hb, hml, hown, hts⟩ (c_X4_readUnit_4 l dC dI H.size h0 h1 h1_0 h1_f1 x_90 h1_f3 h1_0k h1_0c h0_0 h0_f1 h0_2 h0_0k h0_0c ts4 tv4 (RG_w h_73 (by decide +kernel)) (RG_w h_96 (by decide +kernel)) (RG_w h_98 (by decide +kernel)) a_h1_0c g_h0_f1) (cwV 3 hts gf_c_X4_readUnit_3_c_X4_readUnit_4 rfl rfl rfl mdV_X4_readUnit ⟨Nat.le_of_ble_eq_true rfl, Nat.le_of_ble_eq_true rfl⟩) ⟨fun a U g mk q => by obtain ⟨q0, q1, qP, qK, qD, qE0, qE1, qE2, qE3, qE4, qE5⟩ := q; exact ⟨q0, q1, qP, va_K.moved (u := U) (U := U.calling g mk a) (Vm.Alike.refl U.vm) qK, qD, vk_R.same rfl qE0, va_Z.moved (u := U) (U := U.calling g mk a) (Vm.Alike.refl U.vm) qE1, va_OF.moved (u := U) (U := U.calling g mk a) (Vm.Alike.refl U.vm) qE2, va_O.moved (u := U) (U := U.calling g mk a) (Vm.Alike.refl U.vm) qE3, va_OF.moved (u := U) (U := U.calling g mk a) (Vm.Alike.refl U.vm) qE4, va_T.moved (u := U) (U := U.calling g mk a) (Vm.Alike.refl U.vm) qE5⟩, hrv, fun U hU hW => ⟨rfl, by rw [hU], by rw [hU]; exact hPc, va_K.moved hW.alike hKc, hDc.weaken (fun _ _ _ _ => trivial), vk_R.warm hW hE_32, va_Z.moved hW.alike (by rw [hU]; exact (hE_10.kept hS.2.1).narrow hFc), va_OF.moved hW.alike (by rw [hU]; exact (hE_34.kept hS.2.1).narrow hFc), va_O.moved hW.alike (by rw [hU]; exact (hE_33.kept hS.2.1).narrow hFc), va_OF.moved hW.alike (by rw [hU]; exact (hE_35.kept hS.2.1).narrow hFc), va_T.moved hW.alike (by rw [hU]; exact (hE_36.kept hS.2.1).narrow hFc)⟩⟩ rfl rfl hl.1 rfl (lv_room (Nat.le_of_ble_eq_true rfl)) dX4_readUnit_93 ⟨Nat.le_of_ble_eq_true rfl, Nat.le_of_ble_eq_true rfl⟩) hS (fun q _ h => hFc q h) hFc (fun u t H1 locs ht hvm hw hB hz1 hk1 hS => ?_)
        obtain ⟨x_129, x_130, x_131, w_132⟩ := u
        obtain ⟨hP1, hK1, hD1⟩ := hB
        rw [ht] at hP1
        obtain ⟨hP, hD⟩ := cl_put (w1 := (wd_c_X4_readUnit_4 h1 h1_0 h1_f1 x_129 x_130 h1_0 h1_0k h1_0c h0 h0_0 x_131 h0_2 h0_0 h0_0k w_132)) (nw := (wd_c_X4_readUnit_3 h1 h1_0 h1_f1 x_129 x_130 h1_0 h1_0k h1_0c h0 h0_0 x_131 h0_2 h0_0 h0_0k w_132)) hP hD [0, 1, 2, 3] [4, 5, 6, 7] 4 rfl hqc (by decide +kernel) rfl hk1 hFc hP1 hD1
        generalize H1 = H at hP hS ⊢
        as_aux_lemma =>
        rcases hw with ⟨h_133, h_134, h_135, h_136⟩
        have h_136 : (x_129, x_130, x_131, w_132) = _ := h_136
        replace hEX := hEX.trans (exc4_eq h_136)
        refine lv_aload_n hx hb dX4_readUnit_96 rfl (lv_at hl 0 rfl) ?_
        refine lv_bipush (v := (-33)) hx hb dX4_readUnit_97 kc_bipush_m33 ?_
        obtain ⟨hPc, hDc, hFc, hqc⟩ := cl_cut (wc := (wd_c_X4_emit h0 h0_0 x_131 h0_2 h0_0 h0_0k w_132)) hP hD hS hA [2, 3] (by decide +kernel) rfl
        have hKc := hK.sub (tys' := [(h0_0k, .int)]) [1] rfl
        have hrv := va_recv hKc hPc (ci := 4) (q0 := 0) rfl rfl
        refine va_callv (va_runV (As := [.int (-33)]) (rest := []) ⟨hx, hb, hml, hown, hts⟩ (c_X4_emit l dC dI H.size h0 (-33) h0_0 x_131 h0_2 h0_0k w_132 h_135) (cwV 1 hts gf_c_X4_readUnit_3_c_X4_emit rfl rfl rfl mdV_X4_emit ⟨Nat.le_of_ble_eq_true rfl, Nat.le_of_ble_eq_true rfl⟩) ⟨fun a U g mk q => by obtain ⟨q0, q1, qP, qK, qD⟩ := q; exact ⟨q0, q1, qP, va_K.moved (u := U) (U := U.calling g mk a) (Vm.Alike.refl U.vm) qK, qD⟩, hrv, fun U hU hW => ⟨rfl, by rw [hU], by rw [hU]; exact hPc, va_K.moved hW.alike hKc, hDc.weaken (fun _ _ _ _ => trivial)⟩⟩ rfl rfl hl.1 rfl (lv_room (Nat.le_of_ble_eq_true rfl)) dX4_readUnit_99 ⟨Nat.le_of_ble_eq_true rfl, Nat.le_of_ble_eq_true rfl⟩) hS (fun q _ h => hFc q h) hFc (fun u t H1 locs ht hvm hw hB hz1 hk1 hS => ?_)
        obtain ⟨x_138, w_139⟩ := u
        obtain ⟨hP1, hK1, hD1⟩ := hB
        rw [ht] at hP1
        obtain ⟨hP, hD⟩ := cl_put (w1 := (wd_c_X4_emit h0 h0_0 x_138 h0_2 h0_0 h0_0k w_139)) (nw := (wd_c_X4_readUnit_3 h1 h1_0 h1_f1 x_129 x_130 h1_0 h1_0k h1_0c h0 h0_0 x_138 h0_2 h0_0 h0_0k w_139)) hP hD [2, 3] [0, 1, 4, 5] 4 rfl hqc (by decide +kernel) rfl hk1 hFc hP1 hD1
        generalize H1 = H at hP hS ⊢
        as_aux_lemma =>
        rcases hw with ⟨h_140, h_141⟩
        have h_141 : (x_138, w_139) = _ := h_141
        replace hEX := hEX.trans (exc2_eq h_141)
        refine lv_goto (tgt := 126) hx hb dX4_readUnit_102 rfl ?_
        have hK9 := hK.sub (tys' := []) [] rfl
        exact W.vret hx hb hr (fun t ht hW => ⟨⟨(x_129, x_130, x_138, w_139), rfl, ⟨h_133, h_134, (RG_w h_140 (by decide +kernel)), (hR.trans hEX).symm⟩, by rw [ht]; exact hP, va_K.moved hW.alike hK9, hD⟩, hS.F ht⟩) hS.2.2 dX4_readUnit_126
noncomputable def wd_c_X4_readCondition_2 (a0 : Nat) (a1 : Nat) (a2 : Int32) (a3 : Int32) (a4 : Int32) (a5 : Nat) (a6 : ClassId) (a7 : Nat → Int32) (a8 : Nat) (a9 : Nat) (a10 : Int32) (a11 : Nat) (a12 : Nat) (a13 : ClassId) (a14 : Nat → Int32) : va_W := [(a0, .inr (9, [.ref a1, .int a2, .int a3, .int a4])), (a5, .inl (a6, 240, .inl a7)), (a8, .inr (4, [.ref a9, .int a10, .ref a11])), (a12, .inl (a13, 240, .inl a14))]
noncomputable def wf_c_X4_readCondition_2 : List Cond := List.cons (.code yX4_readCondition cX4_readCondition 7 none) (@HAppend.hAppend (List Cond) (List Cond) (List Cond) _ (@HAppend.hAppend (List Cond) (List Cond) (List Cond) _ [.methodLink RX4 72 yX9_isRight, .instanceMethod yX9_isRight, .selects RX9 yX9_isRight yX9_isRight, .initialized RX9, .code yX9_isRight cX9_isRight 1 (some .boolean), .fieldLink RX9 15 "BuoyVote$Tape" "wrong" "I", .methodLink RX4 76 yX4_readUnit, .instanceMethod yX4_readUnit, .selects RX4 yX4_readUnit yX4_readUnit, .initialized RX4, .code yX4_readUnit cX4_readUnit 5 none, .methodLink RX4 41 yX9_peek, .instanceMethod yX9_peek, .selects RX9 yX9_peek yX9_peek, .code yX9_peek cX9_peek 1 (some .int), .fieldLink RX9 22 "BuoyVote$Tape" "at" "I", .fieldLink RX9 19 "BuoyVote$Tape" "length" "I", .fieldLink RX9 11 "BuoyVote$Tape" "bytes" "[I", .methodLink RX4 45 yX4_startsUnit, .static yX4_startsUnit, .code yX4_startsUnit cX4_startsUnit 1 (some .boolean), .methodLink RX4 63 yX9_take, .instanceMethod yX9_take, .selects RX9 yX9_take yX9_take, .code yX9_take cX9_take 2 (some .boolean), .methodLink RX9 29 yX9_peek, .methodLink RX4 37 yX9_expect, .instanceMethod yX9_expect, .selects RX9 yX9_expect yX9_expect, .code yX9_expect cX9_expect 2 none, .methodLink RX9 25 yX9_refuse, .instanceMethod yX9_refuse, .selects RX9 yX9_refuse yX9_refuse, .code yX9_refuse cX9_refuse 2 none, .methodLink RX4 56 yX4_readCondition, .instanceMethod yX4_readCondition, .selects RX4 yX4_readCondition yX4_readCondition, .methodLink RX4 82 yX9_refuseHere, .instanceMethod yX9_refuseHere, .selects RX9 yX9_refuseHere yX9_refuseHere, .code yX9_refuseHere cX9_refuseHere 1 none, .methodLink RX4 49 yX4_readSum, .instanceMethod yX4_readSum, .selects RX4 yX4_readSum yX4_readSum, .code yX4_readSum cX4_readSum 6 none, .methodLink RX4 85 yX4_readAtom, .instanceMethod yX4_readAtom, .selects RX4 yX4_readAtom yX4_readAtom, .code yX4_readAtom cX4_readAtom 6 none, .methodLink RX4 93 yJ0_indexOf_0f7a4, .instanceMethod yJ0_indexOf_0f7a4, .selects RJ0 yJ0_indexOf_0f7a4 yJ0_indexOf_0f7a4, .initialized RJ0, .code yJ0_indexOf_0f7a4 cJ0_indexOf_0f7a4 2 (some .int), .methodLink RJ0 633 yJ0_indexOf_7cf53, .instanceMethod yJ0_indexOf_7cf53, .selects RJ0 yJ0_indexOf_7cf53 yJ0_indexOf_7cf53, .code yJ0_indexOf_7cf53 cJ0_indexOf_7cf53 3 (some .int), .methodLink RJ0 492 yJ0_isLatin1_aae02, .instanceMethod yJ0_isLatin1_aae02, .selects RJ0 yJ0_isLatin1_aae02 yJ0_isLatin1_aae02, .code yJ0_isLatin1_aae02 cJ0_isLatin1_aae02 1 (some .boolean), .fieldLink RJ0 38 "java/lang/String" "COMPACT_STRINGS" "Z", .fieldLink RJ0 15 "java/lang/String" "coder" "B", .fieldLink RJ0 9 "java/lang/String" "value" "[B", .methodLink RJ0 505 yJ0_length_8abf5, .instanceMethod yJ0_length_8abf5, .selects RJ0 yJ0_length_8abf5 yJ0_length_8abf5, .code yJ0_length_8abf5 cJ0_length_8abf5 1 (some .int), .methodLink RJ0 335 yJ0_coder_7d493, .instanceMethod yJ0_coder_7d493, .selects RJ0 yJ0_coder_7d493 yJ0_coder_7d493, .code yJ0_coder_7d493 cJ0_coder_7d493 1 (some .byte), .methodLink RJ0 637 yJ1_indexOf_4cfef, .static yJ1_indexOf_4cfef, .initialized RJ1, .code yJ1_indexOf_4cfef cJ1_indexOf_4cfef 4 (some .int), .methodLink RJ1 88 yJ1_canEncode_9a6ad, .static yJ1_canEncode_9a6ad, .code yJ1_canEncode_9a6ad cJ1_canEncode_9a6ad 1 (some .boolean), .methodLink RJ1 92 Lib.Math.max.name, .static Lib.Math.max.name, .initialized "java/lang/Math", .code Lib.Math.max.name Lib.Math.max.code 2 (some .int), .methodLink RJ1 38 Lib.Math.min.name, .static Lib.Math.min.name, .code Lib.Math.min.name Lib.Math.min.code 2 (some .int), .methodLink RJ1 95 yJ1_indexOfChar_4cfef, .static yJ1_indexOfChar_4cfef, .code yJ1_indexOfChar_4cfef cJ1_indexOfChar_4cfef 6 (some .int), .methodLink RX4 99 yX9_number, .instanceMethod yX9_number, .selects RX9 yX9_number yX9_number, .code yX9_number cX9_number 4 (some .int), .methodLink RX4 79 yX9_skip, .instanceMethod yX9_skip, .selects RX9 yX9_skip yX9_skip, .code yX9_skip cX9_skip 1 none, .methodLink RX4 60 yX4_emit, .instanceMethod yX4_emit, .selects RX4 yX4_emit yX4_emit, .code yX4_emit cX4_emit 2 none, .fieldLink RX4 20 "BuoyVote$Law" "length" "I", .fieldLink RX4 11 "BuoyVote$Law" "code" "[I", .methodLink RX4 88 yX9_takeEither, .instanceMethod yX9_takeEither, .selects RX9 yX9_takeEither yX9_takeEither, .code yX9_takeEither cX9_takeEither 4 (some .int), .methodLink RX4 53 yX4_isComparison, .static yX4_isComparison, .code yX4_isComparison cX4_isComparison 1 (some .boolean)] wsX90) wsX40)
theorem iw_c_X4_readCondition_2_X9 : ∀ w ∈ wsX90, w ∈ wf_c_X4_readCondition_2 := fun w h => List.mem_cons_of_mem _ (List.mem_append_left _ (List.mem_append_right _ h))
theorem iw_c_X4_readCondition_2_X4 : ∀ w ∈ wsX40, w ∈ wf_c_X4_readCondition_2 := fun w h => List.mem_cons_of_mem _ (List.mem_append_right _ h)
set_option maxRecDepth 20000 in
theorem gf_c_X4_readCondition_2_c_X9_take_1 : GoodIn wf_c_X4_readCondition_2 (wsV RX4 63 RX9 yX9_take wf_c_X9_take_1) := goodIn_app (gi_l [22, 23, 24, 4] rfl rfl) (gi_cons (j := 25) rfl rfl (goodIn_app (gi_l [6, 26, 13, 14, 4, 15, 16, 17, 18] rfl rfl) (goodIn_sub iw_c_X4_readCondition_2_X9 gw_X9)))
set_option maxRecDepth 20000 in
theorem gf_c_X4_readCondition_2_c_X9_take : GoodIn wf_c_X4_readCondition_2 (wsV RX4 63 RX9 yX9_take wf_c_X9_take) := goodIn_app (gi_l [22, 23, 24, 4] rfl rfl) (gi_cons (j := 25) rfl rfl (goodIn_app (gi_l [6, 26, 13, 14, 4, 15, 16, 17, 18] rfl rfl) (goodIn_sub iw_c_X4_readCondition_2_X9 gw_X9)))
set_option maxRecDepth 20000 in
theorem gf_c_X4_readCondition_2_c_X4_emit : GoodIn wf_c_X4_readCondition_2 (wsV RX4 60 RX4 yX4_emit wf_c_X4_emit) := goodIn_app (gi_l [99, 100, 101, 10] rfl rfl) (gi_cons (j := 102) rfl rfl (goodIn_app (gi_l [103, 104] rfl rfl) (goodIn_sub iw_c_X4_readCondition_2_X4 gw_X4)))
set_option maxRecDepth 20000 in
theorem gf_c_X4_readCondition_2_c_X4_readUnit_3 : GoodIn wf_c_X4_readCondition_2 (wsV RX4 76 RX4 yX4_readUnit wf_c_X4_readUnit_3) := goodIn_app (gi_l [7, 8, 9, 10] rfl rfl) (gi_cons (j := 11) rfl rfl (goodIn_app (goodIn_app (gi_l [12, 13, 14, 4, 15, 16, 17, 18, 19, 20, 10, 21, 22, 23, 24, 25, 6, 26, 27, 28, 29, 30, 31, 32, 33, 34, 35, 36, 37, 0, 1, 2, 3, 5, 7, 8, 9, 38, 39, 40, 41, 42, 43, 44, 45, 46, 47, 48, 49, 50, 51, 52, 53, 54, 55, 56, 57, 58, 59, 60, 61, 62, 63, 64, 65, 66, 67, 68, 69, 70, 71, 72, 73, 74, 75, 76, 77, 78, 79, 80, 81, 82, 83, 84, 85, 86, 87, 88, 89, 90, 91, 92, 93, 94, 95, 96, 97, 98, 99, 100, 101, 102, 103, 104, 105, 106, 107, 108, 109, 110, 111] rfl rfl) (goodIn_sub iw_c_X4_readCondition_2_X9 gw_X9)) (goodIn_sub iw_c_X4_readCondition_2_X4 gw_X4)))
set_option maxRecDepth 20000 in
theorem gf_c_X4_readCondition_2_c_X9_isRight : GoodIn wf_c_X4_readCondition_2 (wsV RX4 72 RX9 yX9_isRight wf_c_X9_isRight) := goodIn_app (gi_l [1, 2, 3, 4] rfl rfl) (gi_cons (j := 5) rfl rfl (goodIn_app (gi_l [6] rfl rfl) (goodIn_sub iw_c_X4_readCondition_2_X9 gw_X9)))
set_option maxHeartbeats 4000000 in
set_option maxRecDepth 100000 in
theorem c_X4_readCondition_2 (l : Launch) (dC : Nat → ClassId) (dI : Nat → Nat → Nat) (sz : Nat) (h0 : Nat) (h1 : Nat) (h1_0 : Nat) (h1_f1 : Int32) (h1_f2 : Int32) (h1_f3 : Int32) (h1_0k : ClassId) (h1_0c : Nat → Int32) (h0_0 : Nat) (h0_f1 : Int32) (h0_2 : Nat) (h0_0k : ClassId) (h0_0c : Nat → Int32) (ts4 : Nat) (tv4 : Nat) (g_h1_f1 : RG h1_f1 0 240) (g_h1_f2 : RG h1_f2 0 240) (g_h1_f3 : RG h1_f3 (-1) 240) (a_h1_0c : AI h1_0c 0 255) (g_h0_f1 : RG h0_f1 0 240) : Met l yX4_readCondition wf_c_X4_readCondition_2 ({ frames := 15, cells := 0, slots := 0, locals := 365 }) (va_Pc [.ref h0, .ref h1, .int 2, .int 0] (fun U => U.heap.size = sz ∧ va_P (dC, dI) vwCl (wd_c_X4_readCondition_2 h1 h1_0 h1_f1 h1_f2 h1_f3 h1_0 h1_0k h1_0c h0 h0_0 h0_f1 h0_2 h0_0 h0_0k h0_0c) U.heap ∧ va_K (dC, dI) vwCl [(h1_0k, .int), (h0_0k, .int)] U ∧ va_D (fun _ => True) (wd_c_X4_readCondition_2 h1 h1_0 h1_f1 h1_f2 h1_f3 h1_0 h1_0k h1_0c h0 h0_0 h0_f1 h0_2 h0_0 h0_0k h0_0c) ∧ vk_R RX4 91 "vlrdph" ts4 U ∧ va_Z "java/lang/String" "COMPACT_STRINGS" "Z" (.int 1) (va_A (wd_c_X4_readCondition_2 h1 h1_0 h1_f1 h1_f2 h1_f3 h1_0 h1_0k h1_0c h0 h0_0 h0_f1 h0_2 h0_0 h0_0k h0_0c) sz) U U.heap ∧ va_OF "java/lang/String" "coder" "B" (.int 0) ts4 (va_A (wd_c_X4_readCondition_2 h1 h1_0 h1_f1 h1_f2 h1_f3 h1_0 h1_0k h1_0c h0 h0_0 h0_f1 h0_2 h0_0 h0_0k h0_0c) sz) U U.heap ∧ va_O "java/lang/String" ts4 (va_A (wd_c_X4_readCondition_2 h1 h1_0 h1_f1 h1_f2 h1_f3 h1_0 h1_0k h1_0c h0 h0_0 h0_f1 h0_2 h0_0 h0_0k h0_0c) sz) U U.heap ∧ va_OF "java/lang/String" "value" "[B" (.ref tv4) ts4 (va_A (wd_c_X4_readCondition_2 h1 h1_0 h1_f1 h1_f2 h1_f3 h1_0 h1_0k h1_0c h0 h0_0 h0_f1 h0_2 h0_0 h0_0k h0_0c) sz) U U.heap ∧ va_T .byte tv4 6 (fun j => .int ([118, 108, 114, 100, 112, 104].getD j 0)) (va_A (wd_c_X4_readCondition_2 h1 h1_0 h1_f1 h1_f2 h1_f3 h1_0 h1_0k h1_0c h0 h0_0 h0_f1 h0_2 h0_0 h0_0k h0_0c) sz) U U.heap)) (va_Qv (fun (u : (Int32) × (Int32) × (Int32) × (Nat → Int32)) => (RG u.1 0 240 ∧ RG u.2.1 (-1) 240 ∧ RG u.2.2.1 0 240 ∧ (u.1, u.2.1, u.2.2.1, u.2.2.2) = fx_c_X4_readCondition_2 h1_f1 h1_f2 h1_f3 h1_0c h0_f1 h0_0c)) (fun (u : (Int32) × (Int32) × (Int32) × (Nat → Int32)) t => va_P (dC, dI) vwCl (wd_c_X4_readCondition_2 h1 h1_0 h1_f1 (u.1) (u.2.1) h1_0 h1_0k h1_0c h0 h0_0 (u.2.2.1) h0_2 h0_0 h0_0k (u.2.2.2)) t.heap ∧ va_K (dC, dI) vwCl [] t ∧ va_D (va_A (wd_c_X4_readCondition_2 h1 h1_0 h1_f1 h1_f2 h1_f3 h1_0 h1_0k h1_0c h0 h0_0 h0_f1 h0_2 h0_0 h0_0k h0_0c) sz) (wd_c_X4_readCondition_2 h1 h1_0 h1_f1 (u.1) (u.2.1) h1_0 h1_0k h1_0c h0 h0_0 (u.2.2.1) h0_2 h0_0 h0_0k (u.2.2.2))) (va_A (wd_c_X4_readCondition_2 h1 h1_0 h1_f1 h1_f2 h1_f3 h1_0 h1_0k h1_0c h0 h0_0 h0_f1 h0_2 h0_0 h0_0k h0_0c) sz)) 0 0 (va_A (wd_c_X4_readCondition_2 h1 h1_0 h1_f1 h1_f2 h1_f3 h1_0 h1_0k h1_0c h0 h0_0 h0_f1 h0_2 h0_0 h0_0k h0_0c) sz) := by
  refine Met.ofW (cc := cX4_readCondition) (maxL := 7) (ret := none) (by decide +kernel) rfl ?_
  intro p e s m args below meth c s₁ B hml hv
  obtain ⟨rfl, hsz, hP, hK, hD0, hE_32, hE_10, hE_34, hE_33, hE_35, hE_36⟩ := hv
  have hx := B.exec
  have hb := B.bytes
  have hr := B.returns
  have hts := atoms_spec (ws := wf_c_X4_readCondition_2) B.pre
  have hown : s.vm.findClass RX4 = some m.cls := findClass_of_methodNamed B.named
  have hlocks := B.notSynchronized
  subst hsz
  have hD := hD0.self (sz := s.heap.size)
  generalize hAe : va_A (wd_c_X4_readCondition_2 h1 h1_0 h1_f1 h1_f2 h1_f3 h1_0 h1_0k h1_0c h0 h0_0 h0_f1 h0_2 h0_0 h0_0k h0_0c) s.heap.size = A at hD hE_10 hE_34 hE_33 hE_35 hE_36 ⊢
  have hA : ∀ q : Nat, s.heap.size ≤ q → A q := fun q h => by rw [← hAe]; exact Or.inr h
  have hP : va_P (dC, dI) vwCl (wd_c_X4_readCondition_2 h1 h1_0 h1_f1 h1_f2 h1_f3 h1_0 h1_0k h1_0c h0 h0_0 h0_f1 h0_2 h0_0 h0_0k h0_0c) s.heap := hP
  have hl := lv_entry ([.ref h0, .ref h1, .int 2, .int 0]) (n := 7) (Nat.le_of_ble_eq_true rfl)
  rw [lg_entry_eq]
  generalize (lg_sl ([.ref h0, .ref h1, .int 2, .int 0]) ++ List.replicate (7 - (lg_sl ([.ref h0, .ref h1, .int 2, .int 0])).length) Slot.unset).toArray = ls at hl ⊢
  have hl : lv_has ls 7 [(0, .ref h0), (1, .ref h1), (2, .int 2), (3, .int 0)] := hl
  obtain ⟨H, hHe⟩ : ∃ H : Heap, s.heap = H := ⟨_, rfl⟩
  have hS : va_S A s.heap H [] := by rw [hHe]; exact va_S.rf
  have hP : va_P (dC, dI) vwCl (wd_c_X4_readCondition_2 h1 h1_0 h1_f1 h1_f2 h1_f3 h1_0 h1_0k h1_0c h0 h0_0 h0_f1 h0_2 h0_0 h0_0k h0_0c) H := by rw [← hHe]; exact hP
  rw [hHe]
  obtain ⟨RES, hR⟩ : ∃ z, fx_c_X4_readCondition_2 h1_f1 h1_f2 h1_f3 h1_0c h0_f1 h0_0c = z := ⟨_, rfl⟩
  have hEX : RES = fx_c_X4_readCondition_2 h1_f1 h1_f2 h1_f3 h1_0c h0_f1 h0_0c := hR.symm
  refine wj (fun G hG hU => ?_)
  as_aux_lemma =>
  have J9 : ∀ (n9 : Nat) (j9_l6 : Int32) (j9_l5 : Int32) (j9_l4 : Int32) (j9_h1_f2 : Int32) (j9_h1_f3 : Int32) (j9_h0_f1 : Int32) (j9_h0_0c : Nat → Int32) (hM9 : MU j9_l6 < n9) (g_h0_f1 : RG h0_f1 0 240) (g_h1_f1 : RG h1_f1 0 240) (g_h1_f2 : RG h1_f2 0 240) (g_h1_f3 : RG h1_f3 (-1) 240) (g_j9_h0_f1 : RG j9_h0_f1 0 240) (g_j9_h1_f2 : RG j9_h1_f2 0 240) (g_j9_h1_f3 : RG j9_h1_f3 (-1) 240) (g_j9_l4 : RG j9_l4 0 1) (g_j9_l5 : RG j9_l5 0 1) (g_j9_l6 : RG j9_l6 0 240) (hEX : RES = fx_c_X4_readCondition_2_p9 h1_f1 h1_0c n9 j9_l6 j9_l5 j9_l4 j9_h1_f2 j9_h1_f3 j9_h0_f1 j9_h0_0c) (H : Heap) (locs : List Loc) (ls : Array Slot) (hP : va_P (dC, dI) vwCl (wd_c_X4_readCondition_2 h1 h1_0 h1_f1 j9_h1_f2 j9_h1_f3 h1_0 h1_0k h1_0c h0 h0_0 j9_h0_f1 h0_2 h0_0 h0_0k j9_h0_0c) H) (hD : va_D A (wd_c_X4_readCondition_2 h1 h1_0 h1_f1 j9_h1_f2 j9_h1_f3 h1_0 h1_0k h1_0c h0 h0_0 j9_h0_f1 h0_2 h0_0 h0_0k j9_h0_0c)) (hS : va_S A s.heap H locs) (hl : lv_has ls 7 [(6, .int j9_l6), (5, .int j9_l5), (4, .int j9_l4), (0, .ref h0), (1, .ref h1), (2, .int 2), (3, .int 0)]), G H locs (F0 m 9 ls []) := by
    as_aux_lemma =>
    intro n9
    induction n9 with
    | zero => intros; exact absurd (by assumption) (Nat.not_lt_zero _)
    | succ n9 ih9 =>
      intro j9_l6 j9_l5 j9_l4 j9_h1_f2 j9_h1_f3 j9_h0_f1 j9_h0_0c hM9 g_h0_f1 g_h1_f1 g_h1_f2 g_h1_f3 g_j9_h0_f1 g_j9_h1_f2 g_j9_h1_f3 g_j9_l4 g_j9_l5 g_j9_l6 hEX H locs ls hP hD hS hl
      have J93 : ∀ (j93_l4 : Int32) (j93_l5 : Int32) (j93_h1_f2 : Int32) (j93_h1_f3 : Int32) (j93_h0_f1 : Int32) (j93_h0_0c : Nat → Int32) (g_h0_f1 : RG h0_f1 0 240) (g_h1_f1 : RG h1_f1 1 240) (g_h1_f2 : RG h1_f2 0 240) (g_h1_f3 : RG h1_f3 (-1) 240) (g_j93_h0_f1 : RG j93_h0_f1 0 240) (g_j93_h1_f2 : RG j93_h1_f2 1 240) (g_j93_h1_f3 : RG j93_h1_f3 (-1) (-1)) (g_j93_l4 : RG j93_l4 0 1) (g_j93_l5 : RG j93_l5 0 1) (g_j9_h0_f1 : RG j9_h0_f1 0 240) (g_j9_h1_f2 : RG j9_h1_f2 0 240) (g_j9_h1_f3 : RG j9_h1_f3 (-1) (-1)) (g_j9_l4 : RG j9_l4 0 1) (g_j9_l5 : RG j9_l5 0 1) (g_j9_l6 : RG j9_l6 0 239) (hEX : RES = fx_c_X4_readCondition_2_p93 j9_l6 (fx_c_X4_readCondition_2_p9 h1_f1 h1_0c n9) j93_l4 j93_l5 j93_h1_f2 j93_h1_f3 j93_h0_f1 j93_h0_0c) (H : Heap) (locs : List Loc) (ls : Array Slot) (hP : va_P (dC, dI) vwCl (wd_c_X4_readCondition_2 h1 h1_0 h1_f1 j93_h1_f2 j93_h1_f3 h1_0 h1_0k h1_0c h0 h0_0 j93_h0_f1 h0_2 h0_0 h0_0k j93_h0_0c) H) (hD : va_D A (wd_c_X4_readCondition_2 h1 h1_0 h1_f1 j93_h1_f2 j93_h1_f3 h1_0 h1_0k h1_0c h0 h0_0 j93_h0_f1 h0_2 h0_0 h0_0k j93_h0_0c)) (hS : va_S A s.heap H locs) (hl : lv_has ls 7 [(4, .int j93_l4), (6, .int j9_l6), (5, .int j93_l5), (0, .ref h0), (1, .ref h1), (2, .int 2), (3, .int 0)]), G H locs (F0 m 93 ls []) := by
        as_aux_lemma =>
        intro j93_l4 j93_l5 j93_h1_f2 j93_h1_f3 j93_h0_f1 j93_h0_0c g_h0_f1 g_h1_f1 g_h1_f2 g_h1_f3 g_j93_h0_f1 g_j93_h1_f2 g_j93_h1_f3 g_j93_l4 g_j93_l5 g_j9_h0_f1 g_j9_h1_f2 g_j9_h1_f3 g_j9_l4 g_j9_l5 g_j9_l6 hEX H locs ls hP hD hS hl
        refine hG _ _ _ ?_
        obtain ⟨x_1, ex_1⟩ : ∃ y : Int32, y = j9_l6 + 1 := ⟨_, rfl⟩
        have g_2 : RG x_1 1 240 := RG_add ex_1 g_j9_l6 (RG_k 1 1 rfl) (by decide +kernel)
        replace hEX := hEX.trans (exl_eq ex_1)
        refine lv_iinc (v := x_1) (lv' := [(6, .int x_1), (4, .int j93_l4), (5, .int j93_l5), (0, .ref h0), (1, .ref h1), (2, .int 2), (3, .int 0)]) hx hb dX4_readCondition_93 hl (k := 1) rfl (by rw [ex_1]; rfl) (Nat.le_of_ble_eq_true rfl) rfl (fun ls hl => ?_)
        refine lv_goto (tgt := 9) hx hb dX4_readCondition_96 rfl ?_
        exact hU _ _ _ (ih9 x_1 j93_l5 j93_l4 j93_h1_f2 j93_h1_f3 j93_h0_f1 j93_h0_0c (mu_s (MU_add ex_1 g_j9_l6 (q := 1) rfl (by decide +kernel)) hM9) g_h0_f1 (RG_w g_h1_f1 (by decide +kernel)) g_h1_f2 g_h1_f3 g_j93_h0_f1 (RG_w g_j93_h1_f2 (by decide +kernel)) (RG_w g_j93_h1_f3 (by decide +kernel)) g_j93_l4 g_j93_l5 (RG_w g_2 (by decide +kernel)) hEX _ _ _ hP hD hS (lv_sub hl [0, 2, 1, 3, 4, 5, 6] rfl))
      have J79 : ∀ (j79_h1_f2 : Int32) (j79_h1_f3 : Int32) (j79_h0_f1 : Int32) (j79_h0_0c : Nat → Int32) (g_h0_f1 : RG h0_f1 0 240) (g_h1_f1 : RG h1_f1 0 240) (g_h1_f2 : RG h1_f2 0 240) (g_h1_f3 : RG h1_f3 (-1) 240) (g_j79_h0_f1 : RG j79_h0_f1 0 240) (g_j79_h1_f2 : RG j79_h1_f2 0 240) (g_j79_h1_f3 : RG j79_h1_f3 (-1) 240) (g_j9_h0_f1 : RG j9_h0_f1 0 240) (g_j9_h1_f2 : RG j9_h1_f2 0 240) (g_j9_h1_f3 : RG j9_h1_f3 (-1) (-1)) (g_j9_l4 : RG j9_l4 0 1) (g_j9_l5 : RG j9_l5 0 1) (g_j9_l6 : RG j9_l6 0 239) (hEX : RES = fx_c_X4_readCondition_2_p79 h1_f1 h1_0c j9_l6 (fx_c_X4_readCondition_2_p9 h1_f1 h1_0c n9) j79_h1_f2 j79_h1_f3 j79_h0_f1 j79_h0_0c) (H : Heap) (locs : List Loc) (ls : Array Slot) (hP : va_P (dC, dI) vwCl (wd_c_X4_readCondition_2 h1 h1_0 h1_f1 j79_h1_f2 j79_h1_f3 h1_0 h1_0k h1_0c h0 h0_0 j79_h0_f1 h0_2 h0_0 h0_0k j79_h0_0c) H) (hD : va_D A (wd_c_X4_readCondition_2 h1 h1_0 h1_f1 j79_h1_f2 j79_h1_f3 h1_0 h1_0k h1_0c h0 h0_0 j79_h0_f1 h0_2 h0_0 h0_0k j79_h0_0c)) (hS : va_S A s.heap H locs) (hl : lv_has ls 7 [(4, .int 0), (6, .int j9_l6), (0, .ref h0), (1, .ref h1), (2, .int 2), (3, .int 0)]), G H locs (F0 m 79 ls []) := by
        as_aux_lemma =>
        intro j79_h1_f2 j79_h1_f3 j79_h0_f1 j79_h0_0c g_h0_f1 g_h1_f1 g_h1_f2 g_h1_f3 g_j79_h0_f1 g_j79_h1_f2 g_j79_h1_f3 g_j9_h0_f1 g_j9_h1_f2 g_j9_h1_f3 g_j9_l4 g_j9_l5 g_j9_l6 hEX H locs ls hP hD hS hl
        refine hG _ _ _ ?_
        refine lv_aload_n hx hb dX4_readCondition_79 rfl (lv_at hl 3 rfl) ?_
        refine lv_bipush (v := 124) hx hb dX4_readCondition_80 kc_bipush_124 ?_
        obtain ⟨hPc, hDc, hFc, hqc⟩ := cl_cut (wc := (wd_c_X9_take_1 h1 h1_0 h1_f1 j79_h1_f2 j79_h1_f3 h1_0 h1_0k h1_0c)) hP hD hS hA [0, 1] (by decide +kernel) rfl
        have hKc := hK.sub (tys' := [(h1_0k, .int)]) [0] rfl
        have hrv := va_recv hKc hPc (ci := 9) (q0 := 0) rfl rfl
        refine va_calli (va_runV (As := [.int 124]) (rest := []) ⟨hx, hb, hml, hown, hts⟩ (c_X9_take_1 l dC dI H.size h1 124 h1_0 h1_f1 j79_h1_f2 j79_h1_f3 h1_0k h1_0c (RG_w (RG_k 124 124 rfl) (by decide +kernel)) g_h1_f1 g_j79_h1_f2 g_j79_h1_f3 a_h1_0c) (cwV 1 hts gf_c_X4_readCondition_2_c_X9_take_1 rfl rfl rfl mdV_X9_take ⟨Nat.le_of_ble_eq_true rfl, Nat.le_of_ble_eq_true rfl⟩) ⟨fun a U g mk q => by obtain ⟨q0, q1, qP, qK, qD⟩ := q; exact ⟨q0, q1, qP, va_K.moved (u := U) (U := U.calling g mk a) (Vm.Alike.refl U.vm) qK, qD⟩, hrv, fun U hU hW => ⟨rfl, by rw [hU], by rw [hU]; exact hPc, va_K.moved hW.alike hKc, hDc.weaken (fun _ _ _ _ => trivial)⟩⟩ rfl rfl hl.1 rfl (lv_room (Nat.le_of_ble_eq_true rfl)) dX4_readCondition_82 ⟨Nat.le_of_ble_eq_true rfl, Nat.le_of_ble_eq_true rfl⟩) hS (fun q _ h => hFc q h) hFc (fun r_3 x_4 t H1 locs ht hvm hw hB hz1 hk1 hS => ?_)
        obtain ⟨hP1, hK1, hD1⟩ := hB
        rw [ht] at hP1
        obtain ⟨hP, hD⟩ := cl_put (w1 := (wd_c_X9_take_1 h1 h1_0 h1_f1 x_4 j79_h1_f3 h1_0 h1_0k h1_0c)) (nw := (wd_c_X4_readCondition_2 h1 h1_0 h1_f1 x_4 j79_h1_f3 h1_0 h1_0k h1_0c h0 h0_0 j79_h0_f1 h0_2 h0_0 h0_0k j79_h0_0c)) hP hD [0, 1] [4, 5, 2, 3] 4 rfl hqc (by decide +kernel) rfl hk1 hFc hP1 hD1
        generalize H1 = H at hP hS ⊢
        as_aux_lemma =>
        rcases hw with ⟨h_5, h_6, h_7, h_8⟩ | ⟨h_9, h_10, h_11, h_12, h_13, h_14⟩
        · have h_8 : (r_3, x_4) = _ := h_8
          replace hEX := hEX.trans (exc2_eq h_8)
          replace hEX := hEX.trans (if_pos (show r_3 = 0 from h_5))
          rw [h_5]
          refine lv_istore (lv' := [(5, .int 0), (4, .int 0), (6, .int j9_l6), (0, .ref h0), (1, .ref h1), (2, .int 2), (3, .int 0)]) hx hb dX4_readCondition_85 hl (Nat.le_of_ble_eq_true rfl) rfl (fun ls hl => ?_)
          refine lv_iload hx hb dX4_readCondition_87 (lv_at hl 0 rfl) ?_
          refine lv_if_ne (tgt := 93) hx hb dX4_readCondition_89 rfl (fun c_15 => absurd c_15 (by decide +kernel)) (fun c_15 => ?_)
          have hK9 := hK.sub (tys' := []) [] rfl
          exact W.vret hx hb hr (fun t ht hW => ⟨⟨(x_4, j79_h1_f3, j79_h0_f1, j79_h0_0c), rfl, ⟨h_6, g_j79_h1_f3, g_j79_h0_f1, (hR.trans hEX).symm⟩, by rw [ht]; exact hP, va_K.moved hW.alike hK9, hD⟩, hS.F ht⟩) hS.2.2 dX4_readCondition_92
        · have h_14 : (r_3, x_4) = _ := h_14
          replace hEX := hEX.trans (exc2_eq h_14)
          replace hEX := hEX.trans (if_neg (fun q9 : r_3 = 0 => absurd ((show r_3 = 1 from h_9).symm.trans q9) (by decide +kernel)))
          rw [h_9]
          refine lv_istore (lv' := [(5, .int 1), (4, .int 0), (6, .int j9_l6), (0, .ref h0), (1, .ref h1), (2, .int 2), (3, .int 0)]) hx hb dX4_readCondition_85 hl (Nat.le_of_ble_eq_true rfl) rfl (fun ls hl => ?_)
          as_aux_lemma =>
          refine lv_iload hx hb dX4_readCondition_87 (lv_at hl 0 rfl) ?_
          refine lv_if_ne (tgt := 93) hx hb dX4_readCondition_89 rfl (fun c_16 => ?_) (fun c_16 => absurd c_16 (by decide +kernel))
          exact hU _ _ _ (J93 0 1 x_4 j79_h1_f3 j79_h0_f1 j79_h0_0c g_h0_f1 h_11 g_h1_f2 g_h1_f3 g_j79_h0_f1 h_10 h_12 (RG_w (RG_k 0 0 rfl) (by decide +kernel)) (RG_w (RG_k 1 1 rfl) (by decide +kernel)) g_j9_h0_f1 g_j9_h1_f2 g_j9_h1_f3 g_j9_l4 g_j9_l5 g_j9_l6 hEX _ _ _ hP hD hS (lv_sub hl [1, 2, 0, 3, 4, 5, 6] rfl))
      have J55 : ∀ (j55_h1_f2 : Int32) (j55_h1_f3 : Int32) (j55_h0_f1 : Int32) (j55_h0_0c : Nat → Int32) (g_h0_f1 : RG h0_f1 0 240) (g_h1_f1 : RG h1_f1 0 240) (g_h1_f2 : RG h1_f2 0 240) (g_h1_f3 : RG h1_f3 (-1) 240) (g_j55_h0_f1 : RG j55_h0_f1 0 240) (g_j55_h1_f2 : RG j55_h1_f2 0 240) (g_j55_h1_f3 : RG j55_h1_f3 (-1) 240) (g_j9_h0_f1 : RG j9_h0_f1 0 240) (g_j9_h1_f2 : RG j9_h1_f2 0 240) (g_j9_h1_f3 : RG j9_h1_f3 (-1) (-1)) (g_j9_l4 : RG j9_l4 0 1) (g_j9_l5 : RG j9_l5 0 1) (g_j9_l6 : RG j9_l6 0 239) (hEX : RES = fx_c_X4_readCondition_2_p55 h1_f1 h1_0c j9_l6 j9_l5 (fx_c_X4_readCondition_2_p9 h1_f1 h1_0c n9) j55_h1_f2 j55_h1_f3 j55_h0_f1 j55_h0_0c) (H : Heap) (locs : List Loc) (ls : Array Slot) (hP : va_P (dC, dI) vwCl (wd_c_X4_readCondition_2 h1 h1_0 h1_f1 j55_h1_f2 j55_h1_f3 h1_0 h1_0k h1_0c h0 h0_0 j55_h0_f1 h0_2 h0_0 h0_0k j55_h0_0c) H) (hD : va_D A (wd_c_X4_readCondition_2 h1 h1_0 h1_f1 j55_h1_f2 j55_h1_f3 h1_0 h1_0k h1_0c h0 h0_0 j55_h0_f1 h0_2 h0_0 h0_0k j55_h0_0c)) (hS : va_S A s.heap H locs) (hl : lv_has ls 7 [(6, .int j9_l6), (5, .int j9_l5), (0, .ref h0), (1, .ref h1), (2, .int 2), (3, .int 0)]), G H locs (F0 m 55 ls []) := by
        as_aux_lemma =>
        intro j55_h1_f2 j55_h1_f3 j55_h0_f1 j55_h0_0c g_h0_f1 g_h1_f1 g_h1_f2 g_h1_f3 g_j55_h0_f1 g_j55_h1_f2 g_j55_h1_f3 g_j9_h0_f1 g_j9_h1_f2 g_j9_h1_f3 g_j9_l4 g_j9_l5 g_j9_l6 hEX H locs ls hP hD hS hl
        refine hG _ _ _ ?_
        refine lv_aload_n hx hb dX4_readCondition_55 rfl (lv_at hl 3 rfl) ?_
        refine lv_bipush (v := 38) hx hb dX4_readCondition_56 kc_bipush_38 ?_
        obtain ⟨hPc, hDc, hFc, hqc⟩ := cl_cut (wc := (wd_c_X9_take h1 h1_0 h1_f1 j55_h1_f2 j55_h1_f3 h1_0 h1_0k h1_0c)) hP hD hS hA [0, 1] (by decide +kernel) rfl
        have hKc := hK.sub (tys' := [(h1_0k, .int)]) [0] rfl
        have hrv := va_recv hKc hPc (ci := 9) (q0 := 0) rfl rfl
        refine va_calli (va_runV (As := [.int 38]) (rest := []) ⟨hx, hb, hml, hown, hts⟩ (c_X9_take l dC dI H.size h1 38 h1_0 h1_f1 j55_h1_f2 j55_h1_f3 h1_0k h1_0c (RG_w (RG_k 38 38 rfl) (by decide +kernel)) g_h1_f1 g_j55_h1_f2 g_j55_h1_f3 a_h1_0c) (cwV 1 hts gf_c_X4_readCondition_2_c_X9_take rfl rfl rfl mdV_X9_take ⟨Nat.le_of_ble_eq_true rfl, Nat.le_of_ble_eq_true rfl⟩) ⟨fun a U g mk q => by obtain ⟨q0, q1, qP, qK, qD⟩ := q; exact ⟨q0, q1, qP, va_K.moved (u := U) (U := U.calling g mk a) (Vm.Alike.refl U.vm) qK, qD⟩, hrv, fun U hU hW => ⟨rfl, by rw [hU], by rw [hU]; exact hPc, va_K.moved hW.alike hKc, hDc.weaken (fun _ _ _ _ => trivial)⟩⟩ rfl rfl hl.1 rfl (lv_room (Nat.le_of_ble_eq_true rfl)) dX4_readCondition_58 ⟨Nat.le_of_ble_eq_true rfl, Nat.le_of_ble_eq_true rfl⟩) hS (fun q _ h => hFc q h) hFc (fun r_17 x_18 t H1 locs ht hvm hw hB hz1 hk1 hS => ?_)
        obtain ⟨hP1, hK1, hD1⟩ := hB
        rw [ht] at hP1
        obtain ⟨hP, hD⟩ := cl_put (w1 := (wd_c_X9_take h1 h1_0 h1_f1 x_18 j55_h1_f3 h1_0 h1_0k h1_0c)) (nw := (wd_c_X4_readCondition_2 h1 h1_0 h1_f1 x_18 j55_h1_f3 h1_0 h1_0k h1_0c h0 h0_0 j55_h0_f1 h0_2 h0_0 h0_0k j55_h0_0c)) hP hD [0, 1] [4, 5, 2, 3] 4 rfl hqc (by decide +kernel) rfl hk1 hFc hP1 hD1
        generalize H1 = H at hP hS ⊢
        as_aux_lemma =>
        rcases hw with ⟨h_19, h_20, h_21, h_22⟩ | ⟨h_23, h_24, h_25, h_26, h_27, h_28⟩
        · have h_22 : (r_17, x_18) = _ := h_22
          replace hEX := hEX.trans (exc2_eq h_22)
          replace hEX := hEX.trans (if_pos (show r_17 = 0 from h_19))
          rw [h_19]
          refine lv_istore (lv' := [(4, .int 0), (6, .int j9_l6), (5, .int j9_l5), (0, .ref h0), (1, .ref h1), (2, .int 2), (3, .int 0)]) hx hb dX4_readCondition_61 hl (Nat.le_of_ble_eq_true rfl) rfl (fun ls hl => ?_)
          refine lv_iload hx hb dX4_readCondition_63 (lv_at hl 0 rfl) ?_
          refine lv_if_ne (tgt := 93) hx hb dX4_readCondition_65 rfl (fun c_29 => absurd c_29 (by decide +kernel)) (fun c_29 => ?_)
          refine lv_iload hx hb dX4_readCondition_68 (lv_at hl 2 rfl) ?_
          refine lv_if_eq (tgt := 79) hx hb dX4_readCondition_70 rfl (fun c_30 => ?_) (fun c_30 => ?_)
          · replace hEX := hEX.trans (if_pos c_30)
            have g_31 : RG j9_l5 0 0 := RG_eq1 g_j9_l5 (RG_k 0 0 rfl) c_30 (by decide +kernel)
            exact hU _ _ _ (J79 x_18 j55_h1_f3 j55_h0_f1 j55_h0_0c g_h0_f1 g_h1_f1 g_h1_f2 g_h1_f3 g_j55_h0_f1 h_20 g_j55_h1_f3 g_j9_h0_f1 g_j9_h1_f2 g_j9_h1_f3 g_j9_l4 (RG_w g_31 (by decide +kernel)) g_j9_l6 hEX _ _ _ hP hD hS (lv_sub hl [0, 1, 3, 4, 5, 6] rfl))
          · replace hEX := hEX.trans (if_neg c_30)
            have g_32 : RG j9_l5 1 1 := RG_ne1 g_j9_l5 (q := 0) rfl c_30 (by decide +kernel)
            refine lv_aload_n hx hb dX4_readCondition_73 rfl (lv_at hl 3 rfl) ?_
            as_aux_lemma =>
            refine lv_bipush (v := (-124)) hx hb dX4_readCondition_74 kc_bipush_m124 ?_
            obtain ⟨hPc, hDc, hFc, hqc⟩ := cl_cut (wc := (wd_c_X4_emit h0 h0_0 j55_h0_f1 h0_2 h0_0 h0_0k j55_h0_0c)) hP hD hS hA [2, 3] (by decide +kernel) rfl
            have hKc := hK.sub (tys' := [(h0_0k, .int)]) [1] rfl
            have hrv := va_recv hKc hPc (ci := 4) (q0 := 0) rfl rfl
            refine va_callv (va_runV (As := [.int (-124)]) (rest := []) ⟨hx, hb, hml, hown, hts⟩ (c_X4_emit l dC dI H.size h0 (-124) h0_0 j55_h0_f1 h0_2 h0_0k j55_h0_0c g_j55_h0_f1) (cwV 1 hts gf_c_X4_readCondition_2_c_X4_emit rfl rfl rfl mdV_X4_emit ⟨Nat.le_of_ble_eq_true rfl, Nat.le_of_ble_eq_true rfl⟩) ⟨fun a U g mk q => by obtain ⟨q0, q1, qP, qK, qD⟩ := q; exact ⟨q0, q1, qP, va_K.moved (u := U) (U := U.calling g mk a) (Vm.Alike.refl U.vm) qK, qD⟩, hrv, fun U hU hW => ⟨rfl, by rw [hU], by rw [hU]; exact hPc, va_K.moved hW.alike hKc, hDc.weaken (fun _ _ _ _ => trivial)⟩⟩ rfl rfl hl.1 rfl (lv_room (Nat.le_of_ble_eq_true rfl)) dX4_readCondition_76 ⟨Nat.le_of_ble_eq_true rfl, Nat.le_of_ble_eq_true rfl⟩) hS (fun q _ h => hFc q h) hFc (fun u t H1 locs ht hvm hw hB hz1 hk1 hS => ?_)
            obtain ⟨x_34, w_35⟩ := u
            obtain ⟨hP1, hK1, hD1⟩ := hB
            rw [ht] at hP1
            obtain ⟨hP, hD⟩ := cl_put (w1 := (wd_c_X4_emit h0 h0_0 x_34 h0_2 h0_0 h0_0k w_35)) (nw := (wd_c_X4_readCondition_2 h1 h1_0 h1_f1 x_18 j55_h1_f3 h1_0 h1_0k h1_0c h0 h0_0 x_34 h0_2 h0_0 h0_0k w_35)) hP hD [2, 3] [0, 1, 4, 5] 4 rfl hqc (by decide +kernel) rfl hk1 hFc hP1 hD1
            generalize H1 = H at hP hS ⊢
            as_aux_lemma =>
            rcases hw with ⟨h_36, h_37⟩
            have h_37 : (x_34, w_35) = _ := h_37
            replace hEX := hEX.trans (exc2_eq h_37)
            exact hU _ _ _ (J79 x_18 j55_h1_f3 x_34 w_35 g_h0_f1 g_h1_f1 g_h1_f2 g_h1_f3 (RG_w h_36 (by decide +kernel)) h_20 g_j55_h1_f3 g_j9_h0_f1 g_j9_h1_f2 g_j9_h1_f3 g_j9_l4 (RG_w g_32 (by decide +kernel)) g_j9_l6 hEX _ _ _ hP hD hS (lv_sub hl [0, 1, 3, 4, 5, 6] rfl))
        · have h_28 : (r_17, x_18) = _ := h_28
          replace hEX := hEX.trans (exc2_eq h_28)
          replace hEX := hEX.trans (if_neg (fun q9 : r_17 = 0 => absurd ((show r_17 = 1 from h_23).symm.trans q9) (by decide +kernel)))
          rw [h_23]
          refine lv_istore (lv' := [(4, .int 1), (6, .int j9_l6), (5, .int j9_l5), (0, .ref h0), (1, .ref h1), (2, .int 2), (3, .int 0)]) hx hb dX4_readCondition_61 hl (Nat.le_of_ble_eq_true rfl) rfl (fun ls hl => ?_)
          refine lv_iload hx hb dX4_readCondition_63 (lv_at hl 0 rfl) ?_
          refine lv_if_ne (tgt := 93) hx hb dX4_readCondition_65 rfl (fun c_38 => ?_) (fun c_38 => absurd c_38 (by decide +kernel))
          exact hU _ _ _ (J93 1 j9_l5 x_18 j55_h1_f3 j55_h0_f1 j55_h0_0c g_h0_f1 h_25 g_h1_f2 g_h1_f3 g_j55_h0_f1 h_24 h_26 (RG_w (RG_k 1 1 rfl) (by decide +kernel)) g_j9_l5 g_j9_h0_f1 g_j9_h1_f2 g_j9_h1_f3 g_j9_l4 g_j9_l5 g_j9_l6 hEX _ _ _ hP hD hS (lv_sub hl [0, 1, 2, 3, 4, 5, 6] rfl))
      have J41 : ∀ (g_h0_f1 : RG h0_f1 0 240) (g_h1_f1 : RG h1_f1 0 240) (g_h1_f2 : RG h1_f2 0 240) (g_h1_f3 : RG h1_f3 (-1) 240) (g_j9_h0_f1 : RG j9_h0_f1 0 240) (g_j9_h1_f2 : RG j9_h1_f2 0 240) (g_j9_h1_f3 : RG j9_h1_f3 (-1) (-1)) (g_j9_l4 : RG j9_l4 0 1) (g_j9_l5 : RG j9_l5 0 1) (g_j9_l6 : RG j9_l6 0 239) (hEX : RES = fx_c_X4_readCondition_2_p41 h1_f1 h1_0c j9_l6 j9_l5 j9_l4 j9_h1_f2 j9_h1_f3 j9_h0_f1 j9_h0_0c (fx_c_X4_readCondition_2_p9 h1_f1 h1_0c n9)) (H : Heap) (locs : List Loc) (ls : Array Slot) (hP : va_P (dC, dI) vwCl (wd_c_X4_readCondition_2 h1 h1_0 h1_f1 j9_h1_f2 j9_h1_f3 h1_0 h1_0k h1_0c h0 h0_0 j9_h0_f1 h0_2 h0_0 h0_0k j9_h0_0c) H) (hD : va_D A (wd_c_X4_readCondition_2 h1 h1_0 h1_f1 j9_h1_f2 j9_h1_f3 h1_0 h1_0k h1_0c h0 h0_0 j9_h0_f1 h0_2 h0_0 h0_0k j9_h0_0c)) (hS : va_S A s.heap H locs) (hl : lv_has ls 7 [(6, .int j9_l6), (5, .int j9_l5), (4, .int j9_l4), (0, .ref h0), (1, .ref h1), (2, .int 2), (3, .int 0)]), G H locs (F0 m 41 ls [.int 0, .int 2, .ref h1, .ref h0]) := by
        as_aux_lemma =>
        intro g_h0_f1 g_h1_f1 g_h1_f2 g_h1_f3 g_j9_h0_f1 g_j9_h1_f2 g_j9_h1_f3 g_j9_l4 g_j9_l5 g_j9_l6 hEX H locs ls hP hD hS hl
        refine hG _ _ _ ?_
        obtain ⟨hPc, hDc, hFc, hqc⟩ := cl_cut (wc := (wd_c_X4_readUnit_3 h1 h1_0 h1_f1 j9_h1_f2 j9_h1_f3 h1_0 h1_0k h1_0c h0 h0_0 j9_h0_f1 h0_2 h0_0 h0_0k j9_h0_0c)) hP hD hS hA [0, 1, 2, 3] (by decide +kernel) rfl
        have hKc := hK.sub (tys' := [(h1_0k, .int), (h0_0k, .int)]) [0, 1] rfl
        have hrv := va_recv hKc hPc (ci := 4) (q0 := 2) rfl rfl
        refine va_callv (va_runV (As := [.ref h1, .int 2, .int 0]) (rest := []) ⟨hx, hb, hml, hown, hts⟩ (c_X4_readUnit_3 l dC dI H.size h0 h1 h1_0 h1_f1 j9_h1_f2 j9_h1_f3 h1_0k h1_0c h0_0 j9_h0_f1 h0_2 h0_0k j9_h0_0c ts4 tv4 g_h1_f1 g_j9_h1_f2 (RG_w g_j9_h1_f3 (by decide +kernel)) a_h1_0c g_j9_h0_f1) (cwV 3 hts gf_c_X4_readCondition_2_c_X4_readUnit_3 rfl rfl rfl mdV_X4_readUnit ⟨Nat.le_of_ble_eq_true rfl, Nat.le_of_ble_eq_true rfl⟩) ⟨fun a U g mk q => by obtain ⟨q0, q1, qP, qK, qD, qE0, qE1, qE2, qE3, qE4, qE5⟩ := q; exact ⟨q0, q1, qP, va_K.moved (u := U) (U := U.calling g mk a) (Vm.Alike.refl U.vm) qK, qD, vk_R.same rfl qE0, va_Z.moved (u := U) (U := U.calling g mk a) (Vm.Alike.refl U.vm) qE1, va_OF.moved (u := U) (U := U.calling g mk a) (Vm.Alike.refl U.vm) qE2, va_O.moved (u := U) (U := U.calling g mk a) (Vm.Alike.refl U.vm) qE3, va_OF.moved (u := U) (U := U.calling g mk a) (Vm.Alike.refl U.vm) qE4, va_T.moved (u := U) (U := U.calling g mk a) (Vm.Alike.refl U.vm) qE5⟩, hrv, fun U hU hW => ⟨rfl, by rw [hU], by rw [hU]; exact hPc, va_K.moved hW.alike hKc, hDc.weaken (fun _ _ _ _ => trivial), vk_R.warm hW hE_32, va_Z.moved hW.alike (by rw [hU]; exact (hE_10.kept hS.2.1).narrow hFc), va_OF.moved hW.alike (by rw [hU]; exact (hE_34.kept hS.2.1).narrow hFc), va_O.moved hW.alike (by rw [hU]; exact (hE_33.kept hS.2.1).narrow hFc), va_OF.moved hW.alike (by rw [hU]; exact (hE_35.kept hS.2.1).narrow hFc), va_T.moved hW.alike (by rw [hU]; exact (hE_36.kept hS.2.1).narrow hFc)⟩⟩ rfl rfl hl.1 rfl (lv_room (Nat.le_of_ble_eq_true rfl)) dX4_readCondition_41 ⟨Nat.le_of_ble_eq_true rfl, Nat.le_of_ble_eq_true rfl⟩) hS (fun q _ h => hFc q h) hFc (fun u t H1 locs ht hvm hw hB hz1 hk1 hS => ?_)
        obtain ⟨x_40, x_41, x_42, w_43⟩ := u
        obtain ⟨hP1, hK1, hD1⟩ := hB
        rw [ht] at hP1
        obtain ⟨hP, hD⟩ := cl_put (w1 := (wd_c_X4_readUnit_3 h1 h1_0 h1_f1 x_40 x_41 h1_0 h1_0k h1_0c h0 h0_0 x_42 h0_2 h0_0 h0_0k w_43)) (nw := (wd_c_X4_readCondition_2 h1 h1_0 h1_f1 x_40 x_41 h1_0 h1_0k h1_0c h0 h0_0 x_42 h0_2 h0_0 h0_0k w_43)) hP hD [0, 1, 2, 3] [4, 5, 6, 7] 4 rfl hqc (by decide +kernel) rfl hk1 hFc hP1 hD1
        generalize H1 = H at hP hS ⊢
        as_aux_lemma =>
        rcases hw with ⟨h_44, h_45, h_46, h_47⟩
        have h_47 : (x_40, x_41, x_42, w_43) = _ := h_47
        replace hEX := hEX.trans (exc4_eq h_47)
        refine lv_iload hx hb dX4_readCondition_44 (lv_at hl 2 rfl) ?_
        refine lv_if_eq (tgt := 55) hx hb dX4_readCondition_46 rfl (fun c_48 => ?_) (fun c_48 => ?_)
        · replace hEX := hEX.trans (if_pos c_48)
          have g_49 : RG j9_l4 0 0 := RG_eq1 g_j9_l4 (RG_k 0 0 rfl) c_48 (by decide +kernel)
          exact hU _ _ _ (J55 x_40 x_41 x_42 w_43 g_h0_f1 g_h1_f1 g_h1_f2 g_h1_f3 h_46 h_44 h_45 g_j9_h0_f1 g_j9_h1_f2 g_j9_h1_f3 (RG_w g_49 (by decide +kernel)) g_j9_l5 g_j9_l6 hEX _ _ _ hP hD hS (lv_sub hl [0, 1, 3, 4, 5, 6] rfl))
        · replace hEX := hEX.trans (if_neg c_48)
          have g_50 : RG j9_l4 1 1 := RG_ne1 g_j9_l4 (q := 0) rfl c_48 (by decide +kernel)
          refine lv_aload_n hx hb dX4_readCondition_49 rfl (lv_at hl 3 rfl) ?_
          refine lv_bipush (v := (-38)) hx hb dX4_readCondition_50 kc_bipush_m38 ?_
          obtain ⟨hPc, hDc, hFc, hqc⟩ := cl_cut (wc := (wd_c_X4_emit h0 h0_0 x_42 h0_2 h0_0 h0_0k w_43)) hP hD hS hA [2, 3] (by decide +kernel) rfl
          have hKc := hK.sub (tys' := [(h0_0k, .int)]) [1] rfl
          have hrv := va_recv hKc hPc (ci := 4) (q0 := 0) rfl rfl
          refine va_callv (va_runV (As := [.int (-38)]) (rest := []) ⟨hx, hb, hml, hown, hts⟩ (c_X4_emit l dC dI H.size h0 (-38) h0_0 x_42 h0_2 h0_0k w_43 h_46) (cwV 1 hts gf_c_X4_readCondition_2_c_X4_emit rfl rfl rfl mdV_X4_emit ⟨Nat.le_of_ble_eq_true rfl, Nat.le_of_ble_eq_true rfl⟩) ⟨fun a U g mk q => by obtain ⟨q0, q1, qP, qK, qD⟩ := q; exact ⟨q0, q1, qP, va_K.moved (u := U) (U := U.calling g mk a) (Vm.Alike.refl U.vm) qK, qD⟩, hrv, fun U hU hW => ⟨rfl, by rw [hU], by rw [hU]; exact hPc, va_K.moved hW.alike hKc, hDc.weaken (fun _ _ _ _ => trivial)⟩⟩ rfl rfl hl.1 rfl (lv_room (Nat.le_of_ble_eq_true rfl)) dX4_readCondition_52 ⟨Nat.le_of_ble_eq_true rfl, Nat.le_of_ble_eq_true rfl⟩) hS (fun q _ h => hFc q h) hFc (fun u t H1 locs ht hvm hw hB hz1 hk1 hS => ?_)
          as_aux_lemma =>
          obtain ⟨x_52, w_53⟩ := u
          obtain ⟨hP1, hK1, hD1⟩ := hB
          rw [ht] at hP1
          obtain ⟨hP, hD⟩ := cl_put (w1 := (wd_c_X4_emit h0 h0_0 x_52 h0_2 h0_0 h0_0k w_53)) (nw := (wd_c_X4_readCondition_2 h1 h1_0 h1_f1 x_40 x_41 h1_0 h1_0k h1_0c h0 h0_0 x_52 h0_2 h0_0 h0_0k w_53)) hP hD [2, 3] [0, 1, 4, 5] 4 rfl hqc (by decide +kernel) rfl hk1 hFc hP1 hD1
          generalize H1 = H at hP hS ⊢
          as_aux_lemma =>
          rcases hw with ⟨h_54, h_55⟩
          have h_55 : (x_52, w_53) = _ := h_55
          replace hEX := hEX.trans (exc2_eq h_55)
          exact hU _ _ _ (J55 x_40 x_41 x_52 w_53 g_h0_f1 g_h1_f1 g_h1_f2 g_h1_f3 (RG_w h_54 (by decide +kernel)) h_44 h_45 g_j9_h0_f1 g_j9_h1_f2 g_j9_h1_f3 (RG_w g_50 (by decide +kernel)) g_j9_l5 g_j9_l6 hEX _ _ _ hP hD hS (lv_sub hl [0, 1, 3, 4, 5, 6] rfl))
      have J40 : ∀ (g_h0_f1 : RG h0_f1 0 240) (g_h1_f1 : RG h1_f1 0 240) (g_h1_f2 : RG h1_f2 0 240) (g_h1_f3 : RG h1_f3 (-1) 240) (g_j9_h0_f1 : RG j9_h0_f1 0 240) (g_j9_h1_f2 : RG j9_h1_f2 0 240) (g_j9_h1_f3 : RG j9_h1_f3 (-1) (-1)) (g_j9_l4 : RG j9_l4 0 1) (g_j9_l5 : RG j9_l5 0 1) (g_j9_l6 : RG j9_l6 0 239) (hEX : RES = fx_c_X4_readCondition_2_p40 h1_f1 h1_0c j9_l6 j9_l5 j9_l4 j9_h1_f2 j9_h1_f3 j9_h0_f1 j9_h0_0c (fx_c_X4_readCondition_2_p9 h1_f1 h1_0c n9)) (H : Heap) (locs : List Loc) (ls : Array Slot) (hP : va_P (dC, dI) vwCl (wd_c_X4_readCondition_2 h1 h1_0 h1_f1 j9_h1_f2 j9_h1_f3 h1_0 h1_0k h1_0c h0 h0_0 j9_h0_f1 h0_2 h0_0 h0_0k j9_h0_0c) H) (hD : va_D A (wd_c_X4_readCondition_2 h1 h1_0 h1_f1 j9_h1_f2 j9_h1_f3 h1_0 h1_0k h1_0c h0 h0_0 j9_h0_f1 h0_2 h0_0 h0_0k j9_h0_0c)) (hS : va_S A s.heap H locs) (hl : lv_has ls 7 [(6, .int j9_l6), (5, .int j9_l5), (4, .int j9_l4), (0, .ref h0), (1, .ref h1), (2, .int 2), (3, .int 0)]), G H locs (F0 m 40 ls [.int 2, .ref h1, .ref h0]) := by
        as_aux_lemma =>
        intro g_h0_f1 g_h1_f1 g_h1_f2 g_h1_f3 g_j9_h0_f1 g_j9_h1_f2 g_j9_h1_f3 g_j9_l4 g_j9_l5 g_j9_l6 hEX H locs ls hP hD hS hl
        refine hG _ _ _ ?_
        refine lv_iconst (v := 0) hx hb dX4_readCondition_40 kc_iconst_0 ?_
        exact hU _ _ _ (J41 g_h0_f1 g_h1_f1 g_h1_f2 g_h1_f3 g_j9_h0_f1 g_j9_h1_f2 g_j9_h1_f3 g_j9_l4 g_j9_l5 g_j9_l6 hEX _ _ _ hP hD hS (lv_sub hl [0, 1, 2, 3, 4, 5, 6] rfl))
      refine hG _ _ _ ?_
      replace hEX := hEX.trans (if_pos (rfl : j9_l6 = j9_l6))
      refine lv_iload hx hb dX4_readCondition_9 (lv_at hl 0 rfl) ?_
      refine lv_sipush (v := 240) hx hb dX4_readCondition_11 kc_sipush_240 ?_
      refine lv_icmp_ge (tgt := 99) hx hb dX4_readCondition_14 rfl (fun c_56 => ?_) (fun c_56 => ?_)
      · replace hEX := hEX.trans (if_pos c_56)
        have g_57 : RG j9_l6 240 240 := RG_le2 (RG_k 240 240 rfl) g_j9_l6 c_56 (by decide +kernel)
        have hK9 := hK.sub (tys' := []) [] rfl
        exact W.vret hx hb hr (fun t ht hW => ⟨⟨(j9_h1_f2, j9_h1_f3, j9_h0_f1, j9_h0_0c), rfl, ⟨g_j9_h1_f2, g_j9_h1_f3, g_j9_h0_f1, (hR.trans hEX).symm⟩, by rw [ht]; exact hP, va_K.moved hW.alike hK9, hD⟩, hS.F ht⟩) hS.2.2 dX4_readCondition_99
      · replace hEX := hEX.trans (if_neg c_56)
        have d_58 := Int32.not_le.mp c_56
        have g_59 : RG j9_l6 0 239 := RG_lt1 g_j9_l6 (RG_k 240 240 rfl) d_58 (by decide +kernel)
        refine lv_aload_n hx hb dX4_readCondition_17 rfl (lv_at hl 4 rfl) ?_
        as_aux_lemma =>
        obtain ⟨hPc, hDc, hFc, hqc⟩ := cl_cut (wc := (wd_c_X9_isRight h1 h1_0 h1_f1 j9_h1_f2 j9_h1_f3)) hP hD hS hA [0] (by decide +kernel) rfl
        have hKc := hK.sub (tys' := []) [] rfl
        have hrv := va_recv hKc hPc (ci := 9) (q0 := 0) rfl rfl
        refine va_calli (va_runV (As := []) (rest := []) ⟨hx, hb, hml, hown, hts⟩ (c_X9_isRight l dC dI H.size h1 h1_0 h1_f1 j9_h1_f2 j9_h1_f3 g_h1_f1 g_j9_h1_f2 g_j9_h1_f3) (cwV 0 hts gf_c_X4_readCondition_2_c_X9_isRight rfl rfl rfl mdV_X9_isRight ⟨Nat.le_of_ble_eq_true rfl, Nat.le_of_ble_eq_true rfl⟩) ⟨fun a U g mk q => by obtain ⟨q0, q1, qP, qK, qD⟩ := q; exact ⟨q0, q1, qP, va_K.moved (u := U) (U := U.calling g mk a) (Vm.Alike.refl U.vm) qK, qD⟩, hrv, fun U hU hW => ⟨rfl, by rw [hU], by rw [hU]; exact hPc, va_K.moved hW.alike hKc, hDc.weaken (fun _ _ _ _ => trivial)⟩⟩ rfl rfl hl.1 rfl (lv_room (Nat.le_of_ble_eq_true rfl)) dX4_readCondition_18 ⟨Nat.le_of_ble_eq_true rfl, Nat.le_of_ble_eq_true rfl⟩) hS (fun q _ h => hFc q h) hFc (fun r_60 u t H1 locs ht hvm hw hB hz1 hk1 hS => ?_)
        obtain ⟨hP1, hK1, hD1⟩ := hB
        rw [ht] at hP1
        obtain ⟨hP, hD⟩ := cl_put (w1 := (wd_c_X9_isRight h1 h1_0 h1_f1 j9_h1_f2 j9_h1_f3)) (nw := (wd_c_X4_readCondition_2 h1 h1_0 h1_f1 j9_h1_f2 j9_h1_f3 h1_0 h1_0k h1_0c h0 h0_0 j9_h0_f1 h0_2 h0_0 h0_0k j9_h0_0c)) hP hD [0] [4, 1, 2, 3] 4 rfl hqc (by decide +kernel) rfl hk1 hFc hP1 hD1
        generalize H1 = H at hP hS ⊢
        as_aux_lemma =>
        rcases hw with ⟨h_61, h_62, h_63⟩ | ⟨h_64, h_65, h_66⟩
        · have h_63 : r_60 = _ := h_63
          replace hEX := hEX.trans (exc1_eq h_63)
          replace hEX := hEX.trans (if_pos (show r_60 = 0 from h_61))
          rw [h_61]
          refine lv_if_eq (tgt := 99) hx hb dX4_readCondition_21 rfl (fun c_67 => ?_) (fun c_67 => absurd c_67 (by decide +kernel))
          have hK9 := hK.sub (tys' := []) [] rfl
          exact W.vret hx hb hr (fun t ht hW => ⟨⟨(j9_h1_f2, j9_h1_f3, j9_h0_f1, j9_h0_0c), rfl, ⟨g_j9_h1_f2, (RG_w h_62 (by decide +kernel)), g_j9_h0_f1, (hR.trans hEX).symm⟩, by rw [ht]; exact hP, va_K.moved hW.alike hK9, hD⟩, hS.F ht⟩) hS.2.2 dX4_readCondition_99
        · have h_66 : r_60 = _ := h_66
          replace hEX := hEX.trans (exc1_eq h_66)
          replace hEX := hEX.trans (if_neg (fun q9 : r_60 = 0 => absurd ((show r_60 = 1 from h_64).symm.trans q9) (by decide +kernel)))
          rw [h_64]
          refine lv_if_eq (tgt := 99) hx hb dX4_readCondition_21 rfl (fun c_68 => absurd c_68 (by decide +kernel)) (fun c_68 => ?_)
          refine lv_aload_n hx hb dX4_readCondition_24 rfl (lv_at hl 3 rfl) ?_
          as_aux_lemma =>
          refine lv_aload_n hx hb dX4_readCondition_25 rfl (lv_at hl 4 rfl) ?_
          refine lv_iload_n hx hb dX4_readCondition_26 rfl (lv_at hl 5 rfl) ?_
          refine lv_iload_n hx hb dX4_readCondition_27 rfl (lv_at hl 6 rfl) ?_
          refine lv_if_eq (tgt := 40) hx hb dX4_readCondition_28 rfl (fun c_69 => ?_) (fun c_69 => absurd c_69 (by decide +kernel))
          exact hU _ _ _ (J40 g_h0_f1 g_h1_f1 g_h1_f2 g_h1_f3 g_j9_h0_f1 g_j9_h1_f2 h_65 g_j9_l4 g_j9_l5 g_59 hEX _ _ _ hP hD hS (lv_sub hl [0, 1, 2, 3, 4, 5, 6] rfl))
  refine hG _ _ _ ?_
  refine lv_iconst (v := 0) hx hb dX4_readCondition_0 kc_iconst_0 ?_
  refine lv_istore (lv' := [(4, .int 0), (0, .ref h0), (1, .ref h1), (2, .int 2), (3, .int 0)]) hx hb dX4_readCondition_1 hl (Nat.le_of_ble_eq_true rfl) rfl (fun ls hl => ?_)
  refine lv_iconst (v := 0) hx hb dX4_readCondition_3 kc_iconst_0 ?_
  refine lv_istore (lv' := [(5, .int 0), (4, .int 0), (0, .ref h0), (1, .ref h1), (2, .int 2), (3, .int 0)]) hx hb dX4_readCondition_4 hl (Nat.le_of_ble_eq_true rfl) rfl (fun ls hl => ?_)
  refine lv_iconst (v := 0) hx hb dX4_readCondition_6 kc_iconst_0 ?_
  refine lv_istore (lv' := [(6, .int 0), (5, .int 0), (4, .int 0), (0, .ref h0), (1, .ref h1), (2, .int 2), (3, .int 0)]) hx hb dX4_readCondition_7 hl (Nat.le_of_ble_eq_true rfl) rfl (fun ls hl => ?_)
  exact hU _ _ _ (J9 exF 0 0 0 h1_f2 h1_f3 h0_f1 h0_0c MU_F g_h0_f1 g_h1_f1 g_h1_f2 g_h1_f3 g_h0_f1 g_h1_f2 g_h1_f3 (RG_w (RG_k 0 0 rfl) (by decide +kernel)) (RG_w (RG_k 0 0 rfl) (by decide +kernel)) (RG_w (RG_k 0 0 rfl) (by decide +kernel)) hEX _ _ _ hP hD hS (lv_sub hl [0, 1, 2, 3, 4, 5, 6] rfl))
noncomputable def wd_c_X4_readUnit_2 (a0 : Nat) (a1 : Nat) (a2 : Int32) (a3 : Int32) (a4 : Int32) (a5 : Nat) (a6 : ClassId) (a7 : Nat → Int32) (a8 : Nat) (a9 : Nat) (a10 : Int32) (a11 : Nat) (a12 : Nat) (a13 : ClassId) (a14 : Nat → Int32) : va_W := [(a0, .inr (9, [.ref a1, .int a2, .int a3, .int a4])), (a5, .inl (a6, 240, .inl a7)), (a8, .inr (4, [.ref a9, .int a10, .ref a11])), (a12, .inl (a13, 240, .inl a14))]
noncomputable def wf_c_X4_readUnit_2 : List Cond := List.cons (.code yX4_readUnit cX4_readUnit 5 none) (@HAppend.hAppend (List Cond) (List Cond) (List Cond) _ (@HAppend.hAppend (List Cond) (List Cond) (List Cond) _ [.methodLink RX4 41 yX9_peek, .instanceMethod yX9_peek, .selects RX9 yX9_peek yX9_peek, .initialized RX9, .code yX9_peek cX9_peek 1 (some .int), .fieldLink RX9 22 "BuoyVote$Tape" "at" "I", .fieldLink RX9 19 "BuoyVote$Tape" "length" "I", .fieldLink RX9 11 "BuoyVote$Tape" "bytes" "[I", .methodLink RX4 45 yX4_startsUnit, .static yX4_startsUnit, .initialized RX4, .code yX4_startsUnit cX4_startsUnit 1 (some .boolean), .methodLink RX4 63 yX9_take, .instanceMethod yX9_take, .selects RX9 yX9_take yX9_take, .code yX9_take cX9_take 2 (some .boolean), .fieldLink RX9 15 "BuoyVote$Tape" "wrong" "I", .methodLink RX9 29 yX9_peek, .methodLink RX4 37 yX9_expect, .instanceMethod yX9_expect, .selects RX9 yX9_expect yX9_expect, .code yX9_expect cX9_expect 2 none, .methodLink RX9 25 yX9_refuse, .instanceMethod yX9_refuse, .selects RX9 yX9_refuse yX9_refuse, .code yX9_refuse cX9_refuse 2 none, .methodLink RX4 56 yX4_readCondition, .instanceMethod yX4_readCondition, .selects RX4 yX4_readCondition yX4_readCondition, .code yX4_readCondition cX4_readCondition 7 none, .methodLink RX4 72 yX9_isRight, .instanceMethod yX9_isRight, .selects RX9 yX9_isRight yX9_isRight, .code yX9_isRight cX9_isRight 1 (some .boolean), .methodLink RX4 76 yX4_readUnit, .instanceMethod yX4_readUnit, .selects RX4 yX4_readUnit yX4_readUnit, .methodLink RX4 82 yX9_refuseHere, .instanceMethod yX9_refuseHere, .selects RX9 yX9_refuseHere yX9_refuseHere, .code yX9_refuseHere cX9_refuseHere 1 none, .methodLink RX4 49 yX4_readSum, .instanceMethod yX4_readSum, .selects RX4 yX4_readSum yX4_readSum, .code yX4_readSum cX4_readSum 6 none, .methodLink RX4 85 yX4_readAtom, .instanceMethod yX4_readAtom, .selects RX4 yX4_readAtom yX4_readAtom, .code yX4_readAtom cX4_readAtom 6 none, .methodLink RX4 93 yJ0_indexOf_0f7a4, .instanceMethod yJ0_indexOf_0f7a4, .selects RJ0 yJ0_indexOf_0f7a4 yJ0_indexOf_0f7a4, .initialized RJ0, .code yJ0_indexOf_0f7a4 cJ0_indexOf_0f7a4 2 (some .int), .methodLink RJ0 633 yJ0_indexOf_7cf53, .instanceMethod yJ0_indexOf_7cf53, .selects RJ0 yJ0_indexOf_7cf53 yJ0_indexOf_7cf53, .code yJ0_indexOf_7cf53 cJ0_indexOf_7cf53 3 (some .int), .methodLink RJ0 492 yJ0_isLatin1_aae02, .instanceMethod yJ0_isLatin1_aae02, .selects RJ0 yJ0_isLatin1_aae02 yJ0_isLatin1_aae02, .code yJ0_isLatin1_aae02 cJ0_isLatin1_aae02 1 (some .boolean), .fieldLink RJ0 38 "java/lang/String" "COMPACT_STRINGS" "Z", .fieldLink RJ0 15 "java/lang/String" "coder" "B", .fieldLink RJ0 9 "java/lang/String" "value" "[B", .methodLink RJ0 505 yJ0_length_8abf5, .instanceMethod yJ0_length_8abf5, .selects RJ0 yJ0_length_8abf5 yJ0_length_8abf5, .code yJ0_length_8abf5 cJ0_length_8abf5 1 (some .int), .methodLink RJ0 335 yJ0_coder_7d493, .instanceMethod yJ0_coder_7d493, .selects RJ0 yJ0_coder_7d493 yJ0_coder_7d493, .code yJ0_coder_7d493 cJ0_coder_7d493 1 (some .byte), .methodLink RJ0 637 yJ1_indexOf_4cfef, .static yJ1_indexOf_4cfef, .initialized RJ1, .code yJ1_indexOf_4cfef cJ1_indexOf_4cfef 4 (some .int), .methodLink RJ1 88 yJ1_canEncode_9a6ad, .static yJ1_canEncode_9a6ad, .code yJ1_canEncode_9a6ad cJ1_canEncode_9a6ad 1 (some .boolean), .methodLink RJ1 92 Lib.Math.max.name, .static Lib.Math.max.name, .initialized "java/lang/Math", .code Lib.Math.max.name Lib.Math.max.code 2 (some .int), .methodLink RJ1 38 Lib.Math.min.name, .static Lib.Math.min.name, .code Lib.Math.min.name Lib.Math.min.code 2 (some .int), .methodLink RJ1 95 yJ1_indexOfChar_4cfef, .static yJ1_indexOfChar_4cfef, .code yJ1_indexOfChar_4cfef cJ1_indexOfChar_4cfef 6 (some .int), .methodLink RX4 99 yX9_number, .instanceMethod yX9_number, .selects RX9 yX9_number yX9_number, .code yX9_number cX9_number 4 (some .int), .methodLink RX4 79 yX9_skip, .instanceMethod yX9_skip, .selects RX9 yX9_skip yX9_skip, .code yX9_skip cX9_skip 1 none, .methodLink RX4 60 yX4_emit, .instanceMethod yX4_emit, .selects RX4 yX4_emit yX4_emit, .code yX4_emit cX4_emit 2 none, .fieldLink RX4 20 "BuoyVote$Law" "length" "I", .fieldLink RX4 11 "BuoyVote$Law" "code" "[I", .methodLink RX4 88 yX9_takeEither, .instanceMethod yX9_takeEither, .selects RX9 yX9_takeEither yX9_takeEither, .code yX9_takeEither cX9_takeEither 4 (some .int), .methodLink RX4 53 yX4_isComparison, .static yX4_isComparison, .code yX4_isComparison cX4_isComparison 1 (some .boolean)] wsX90) wsX40)
theorem iw_c_X4_readUnit_2_X9 : ∀ w ∈ wsX90, w ∈ wf_c_X4_readUnit_2 := fun w h => List.mem_cons_of_mem _ (List.mem_append_left _ (List.mem_append_right _ h))
theorem iw_c_X4_readUnit_2_X4 : ∀ w ∈ wsX40, w ∈ wf_c_X4_readUnit_2 := fun w h => List.mem_cons_of_mem _ (List.mem_append_right _ h)
set_option maxRecDepth 20000 in
theorem gf_c_X4_readUnit_2_c_X9_peek : GoodIn wf_c_X4_readUnit_2 (wsV RX4 41 RX9 yX9_peek wf_c_X9_peek) := goodIn_app (gi_l [1, 2, 3, 4] rfl rfl) (gi_cons (j := 5) rfl rfl (goodIn_app (gi_l [6, 7, 8] rfl rfl) (goodIn_sub iw_c_X4_readUnit_2_X9 gw_X9)))
set_option maxRecDepth 20000 in
theorem gf_c_X4_readUnit_2_c_X4_isComparison : GoodIn wf_c_X4_readUnit_2 (va_wsS RX4 53 yX4_isComparison wf_c_X4_isComparison) := goodIn_app (gi_l [109, 110, 11] rfl rfl) (gi_cons (j := 111) rfl rfl gi_nil)
set_option maxRecDepth 20000 in
theorem gf_c_X4_readUnit_2_c_X9_refuseHere : GoodIn wf_c_X4_readUnit_2 (wsV RX4 82 RX9 yX9_refuseHere wf_c_X9_refuseHere) := goodIn_app (gi_l [38, 39, 40, 4] rfl rfl) (gi_cons (j := 41) rfl rfl (goodIn_app (gi_l [6, 23, 24, 25, 4, 26, 17] rfl rfl) (goodIn_sub iw_c_X4_readUnit_2_X9 gw_X9)))
set_option maxRecDepth 20000 in
theorem gf_c_X4_readUnit_2_c_X4_isComparison_1 : GoodIn wf_c_X4_readUnit_2 (va_wsS RX4 53 yX4_isComparison wf_c_X4_isComparison_1) := goodIn_app (gi_l [109, 110, 11] rfl rfl) (gi_cons (j := 111) rfl rfl gi_nil)
set_option maxRecDepth 20000 in
theorem gf_c_X4_readUnit_2_c_X9_skip : GoodIn wf_c_X4_readUnit_2 (wsV RX4 79 RX9 yX9_skip wf_c_X9_skip) := goodIn_app (gi_l [95, 96, 97, 4] rfl rfl) (gi_cons (j := 98) rfl rfl (goodIn_app (gi_l [6] rfl rfl) (goodIn_sub iw_c_X4_readUnit_2_X9 gw_X9)))
set_option maxRecDepth 20000 in
theorem gf_c_X4_readUnit_2_c_X4_readSum_1 : GoodIn wf_c_X4_readUnit_2 (wsV RX4 49 RX4 yX4_readSum wf_c_X4_readSum_1) := goodIn_app (gi_l [42, 43, 44, 11] rfl rfl) (gi_cons (j := 45) rfl rfl (goodIn_app (goodIn_app (gi_l [31, 32, 33, 4, 34, 17, 46, 47, 48, 11, 49, 1, 2, 3, 5, 6, 7, 8, 50, 51, 52, 53, 54, 55, 56, 57, 58, 59, 60, 61, 62, 63, 64, 65, 66, 67, 68, 69, 70, 71, 72, 73, 74, 75, 76, 77, 78, 79, 80, 81, 82, 83, 84, 85, 86, 87, 88, 89, 90, 91, 92, 93, 94, 38, 39, 40, 41, 23, 24, 25, 26, 95, 96, 97, 98, 42, 43, 44, 99, 100, 101, 102, 103, 104, 105, 106, 107, 108, 18, 19, 20, 21, 22] rfl rfl) (goodIn_sub iw_c_X4_readUnit_2_X9 gw_X9)) (goodIn_sub iw_c_X4_readUnit_2_X4 gw_X4)))
set_option maxRecDepth 20000 in
theorem gf_c_X4_readUnit_2_c_X4_emit : GoodIn wf_c_X4_readUnit_2 (wsV RX4 60 RX4 yX4_emit wf_c_X4_emit) := goodIn_app (gi_l [99, 100, 101, 11] rfl rfl) (gi_cons (j := 102) rfl rfl (goodIn_app (gi_l [103, 104] rfl rfl) (goodIn_sub iw_c_X4_readUnit_2_X4 gw_X4)))
set_option maxRecDepth 20000 in
theorem gf_c_X4_readUnit_2_c_X4_startsUnit : GoodIn wf_c_X4_readUnit_2 (va_wsS RX4 45 yX4_startsUnit wf_c_X4_startsUnit) := goodIn_app (gi_l [9, 10, 11] rfl rfl) (gi_cons (j := 12) rfl rfl gi_nil)
set_option maxRecDepth 20000 in
theorem gf_c_X4_readUnit_2_c_X4_startsUnit_1 : GoodIn wf_c_X4_readUnit_2 (va_wsS RX4 45 yX4_startsUnit wf_c_X4_startsUnit_1) := goodIn_app (gi_l [9, 10, 11] rfl rfl) (gi_cons (j := 12) rfl rfl gi_nil)
set_option maxRecDepth 20000 in
theorem gf_c_X4_readUnit_2_c_X9_take : GoodIn wf_c_X4_readUnit_2 (wsV RX4 63 RX9 yX9_take wf_c_X9_take) := goodIn_app (gi_l [13, 14, 15, 4] rfl rfl) (gi_cons (j := 16) rfl rfl (goodIn_app (gi_l [17, 18, 2, 3, 4, 5, 6, 7, 8] rfl rfl) (goodIn_sub iw_c_X4_readUnit_2_X9 gw_X9)))
set_option maxRecDepth 20000 in
theorem gf_c_X4_readUnit_2_c_X9_expect_1 : GoodIn wf_c_X4_readUnit_2 (wsV RX4 37 RX9 yX9_expect wf_c_X9_expect_1) := goodIn_app (gi_l [19, 20, 21, 4] rfl rfl) (gi_cons (j := 22) rfl rfl (goodIn_app (gi_l [17, 18, 2, 3, 4, 5, 6, 7, 8, 23, 24, 25, 26] rfl rfl) (goodIn_sub iw_c_X4_readUnit_2_X9 gw_X9)))
set_option maxRecDepth 20000 in
theorem gf_c_X4_readUnit_2_c_X4_readCondition_2 : GoodIn wf_c_X4_readUnit_2 (wsV RX4 56 RX4 yX4_readCondition wf_c_X4_readCondition_2) := goodIn_app (gi_l [27, 28, 29, 11] rfl rfl) (gi_cons (j := 30) rfl rfl (goodIn_app (goodIn_app (gi_l [31, 32, 33, 4, 34, 17, 35, 36, 37, 11, 0, 1, 2, 3, 5, 6, 7, 8, 9, 10, 12, 13, 14, 15, 16, 18, 19, 20, 21, 22, 23, 24, 25, 26, 27, 28, 29, 38, 39, 40, 41, 42, 43, 44, 45, 46, 47, 48, 49, 50, 51, 52, 53, 54, 55, 56, 57, 58, 59, 60, 61, 62, 63, 64, 65, 66, 67, 68, 69, 70, 71, 72, 73, 74, 75, 76, 77, 78, 79, 80, 81, 82, 83, 84, 85, 86, 87, 88, 89, 90, 91, 92, 93, 94, 95, 96, 97, 98, 99, 100, 101, 102, 103, 104, 105, 106, 107, 108, 109, 110, 111] rfl rfl) (goodIn_sub iw_c_X4_readUnit_2_X9 gw_X9)) (goodIn_sub iw_c_X4_readUnit_2_X4 gw_X4)))
set_option maxRecDepth 20000 in
theorem gf_c_X4_readUnit_2_c_X4_readUnit_3 : GoodIn wf_c_X4_readUnit_2 (wsV RX4 76 RX4 yX4_readUnit wf_c_X4_readUnit_3) := goodIn_app (gi_l [35, 36, 37, 11] rfl rfl) (gi_cons (j := 0) rfl rfl (goodIn_app (goodIn_app (gi_l [1, 2, 3, 4, 5, 6, 7, 8, 9, 10, 11, 12, 13, 14, 15, 16, 17, 18, 19, 20, 21, 22, 23, 24, 25, 26, 27, 28, 29, 30, 31, 32, 33, 34, 35, 36, 37, 38, 39, 40, 41, 42, 43, 44, 45, 46, 47, 48, 49, 50, 51, 52, 53, 54, 55, 56, 57, 58, 59, 60, 61, 62, 63, 64, 65, 66, 67, 68, 69, 70, 71, 72, 73, 74, 75, 76, 77, 78, 79, 80, 81, 82, 83, 84, 85, 86, 87, 88, 89, 90, 91, 92, 93, 94, 95, 96, 97, 98, 99, 100, 101, 102, 103, 104, 105, 106, 107, 108, 109, 110, 111] rfl rfl) (goodIn_sub iw_c_X4_readUnit_2_X9 gw_X9)) (goodIn_sub iw_c_X4_readUnit_2_X4 gw_X4)))
set_option maxHeartbeats 4000000 in
set_option maxRecDepth 100000 in
theorem c_X4_readUnit_2 (l : Launch) (dC : Nat → ClassId) (dI : Nat → Nat → Nat) (sz : Nat) (h0 : Nat) (h1 : Nat) (h1_0 : Nat) (h1_f1 : Int32) (h1_f2 : Int32) (h1_f3 : Int32) (h1_0k : ClassId) (h1_0c : Nat → Int32) (h0_0 : Nat) (h0_f1 : Int32) (h0_2 : Nat) (h0_0k : ClassId) (h0_0c : Nat → Int32) (ts4 : Nat) (tv4 : Nat) (g_h1_f1 : RG h1_f1 0 240) (g_h1_f2 : RG h1_f2 0 240) (g_h1_f3 : RG h1_f3 (-1) 240) (a_h1_0c : AI h1_0c 0 255) (g_h0_f1 : RG h0_f1 0 240) : Met l yX4_readUnit wf_c_X4_readUnit_2 ({ frames := 16, cells := 0, slots := 0, locals := 391 }) (va_Pc [.ref h0, .ref h1, .int 1, .int 0] (fun U => U.heap.size = sz ∧ va_P (dC, dI) vwCl (wd_c_X4_readUnit_2 h1 h1_0 h1_f1 h1_f2 h1_f3 h1_0 h1_0k h1_0c h0 h0_0 h0_f1 h0_2 h0_0 h0_0k h0_0c) U.heap ∧ va_K (dC, dI) vwCl [(h1_0k, .int), (h0_0k, .int)] U ∧ va_D (fun _ => True) (wd_c_X4_readUnit_2 h1 h1_0 h1_f1 h1_f2 h1_f3 h1_0 h1_0k h1_0c h0 h0_0 h0_f1 h0_2 h0_0 h0_0k h0_0c) ∧ vk_R RX4 91 "vlrdph" ts4 U ∧ va_Z "java/lang/String" "COMPACT_STRINGS" "Z" (.int 1) (va_A (wd_c_X4_readUnit_2 h1 h1_0 h1_f1 h1_f2 h1_f3 h1_0 h1_0k h1_0c h0 h0_0 h0_f1 h0_2 h0_0 h0_0k h0_0c) sz) U U.heap ∧ va_OF "java/lang/String" "coder" "B" (.int 0) ts4 (va_A (wd_c_X4_readUnit_2 h1 h1_0 h1_f1 h1_f2 h1_f3 h1_0 h1_0k h1_0c h0 h0_0 h0_f1 h0_2 h0_0 h0_0k h0_0c) sz) U U.heap ∧ va_O "java/lang/String" ts4 (va_A (wd_c_X4_readUnit_2 h1 h1_0 h1_f1 h1_f2 h1_f3 h1_0 h1_0k h1_0c h0 h0_0 h0_f1 h0_2 h0_0 h0_0k h0_0c) sz) U U.heap ∧ va_OF "java/lang/String" "value" "[B" (.ref tv4) ts4 (va_A (wd_c_X4_readUnit_2 h1 h1_0 h1_f1 h1_f2 h1_f3 h1_0 h1_0k h1_0c h0 h0_0 h0_f1 h0_2 h0_0 h0_0k h0_0c) sz) U U.heap ∧ va_T .byte tv4 6 (fun j => .int ([118, 108, 114, 100, 112, 104].getD j 0)) (va_A (wd_c_X4_readUnit_2 h1 h1_0 h1_f1 h1_f2 h1_f3 h1_0 h1_0k h1_0c h0 h0_0 h0_f1 h0_2 h0_0 h0_0k h0_0c) sz) U U.heap)) (va_Qv (fun (u : (Int32) × (Int32) × (Int32) × (Nat → Int32)) => (RG u.1 0 240 ∧ RG u.2.1 (-1) 240 ∧ RG u.2.2.1 0 240 ∧ (u.1, u.2.1, u.2.2.1, u.2.2.2) = fx_c_X4_readUnit_2 h1_f1 h1_f2 h1_f3 h1_0c h0_f1 h0_0c)) (fun (u : (Int32) × (Int32) × (Int32) × (Nat → Int32)) t => va_P (dC, dI) vwCl (wd_c_X4_readUnit_2 h1 h1_0 h1_f1 (u.1) (u.2.1) h1_0 h1_0k h1_0c h0 h0_0 (u.2.2.1) h0_2 h0_0 h0_0k (u.2.2.2)) t.heap ∧ va_K (dC, dI) vwCl [] t ∧ va_D (va_A (wd_c_X4_readUnit_2 h1 h1_0 h1_f1 h1_f2 h1_f3 h1_0 h1_0k h1_0c h0 h0_0 h0_f1 h0_2 h0_0 h0_0k h0_0c) sz) (wd_c_X4_readUnit_2 h1 h1_0 h1_f1 (u.1) (u.2.1) h1_0 h1_0k h1_0c h0 h0_0 (u.2.2.1) h0_2 h0_0 h0_0k (u.2.2.2))) (va_A (wd_c_X4_readUnit_2 h1 h1_0 h1_f1 h1_f2 h1_f3 h1_0 h1_0k h1_0c h0 h0_0 h0_f1 h0_2 h0_0 h0_0k h0_0c) sz)) 0 0 (va_A (wd_c_X4_readUnit_2 h1 h1_0 h1_f1 h1_f2 h1_f3 h1_0 h1_0k h1_0c h0 h0_0 h0_f1 h0_2 h0_0 h0_0k h0_0c) sz) := by
  refine Met.ofW (cc := cX4_readUnit) (maxL := 5) (ret := none) (by decide +kernel) rfl ?_
  intro p e s m args below meth c s₁ B hml hv
  obtain ⟨rfl, hsz, hP, hK, hD0, hE_32, hE_10, hE_34, hE_33, hE_35, hE_36⟩ := hv
  have hx := B.exec
  have hb := B.bytes
  have hr := B.returns
  have hts := atoms_spec (ws := wf_c_X4_readUnit_2) B.pre
  have hown : s.vm.findClass RX4 = some m.cls := findClass_of_methodNamed B.named
  have hlocks := B.notSynchronized
  subst hsz
  have hD := hD0.self (sz := s.heap.size)
  generalize hAe : va_A (wd_c_X4_readUnit_2 h1 h1_0 h1_f1 h1_f2 h1_f3 h1_0 h1_0k h1_0c h0 h0_0 h0_f1 h0_2 h0_0 h0_0k h0_0c) s.heap.size = A at hD hE_10 hE_34 hE_33 hE_35 hE_36 ⊢
  have hA : ∀ q : Nat, s.heap.size ≤ q → A q := fun q h => by rw [← hAe]; exact Or.inr h
  have hP : va_P (dC, dI) vwCl (wd_c_X4_readUnit_2 h1 h1_0 h1_f1 h1_f2 h1_f3 h1_0 h1_0k h1_0c h0 h0_0 h0_f1 h0_2 h0_0 h0_0k h0_0c) s.heap := hP
  have hl := lv_entry ([.ref h0, .ref h1, .int 1, .int 0]) (n := 5) (Nat.le_of_ble_eq_true rfl)
  rw [lg_entry_eq]
  generalize (lg_sl ([.ref h0, .ref h1, .int 1, .int 0]) ++ List.replicate (5 - (lg_sl ([.ref h0, .ref h1, .int 1, .int 0])).length) Slot.unset).toArray = ls at hl ⊢
  have hl : lv_has ls 5 [(0, .ref h0), (1, .ref h1), (2, .int 1), (3, .int 0)] := hl
  obtain ⟨H, hHe⟩ : ∃ H : Heap, s.heap = H := ⟨_, rfl⟩
  have hS : va_S A s.heap H [] := by rw [hHe]; exact va_S.rf
  have hP : va_P (dC, dI) vwCl (wd_c_X4_readUnit_2 h1 h1_0 h1_f1 h1_f2 h1_f3 h1_0 h1_0k h1_0c h0 h0_0 h0_f1 h0_2 h0_0 h0_0k h0_0c) H := by rw [← hHe]; exact hP
  rw [hHe]
  obtain ⟨RES, hR⟩ : ∃ z, fx_c_X4_readUnit_2 h1_f1 h1_f2 h1_f3 h1_0c h0_f1 h0_0c = z := ⟨_, rfl⟩
  have hEX : RES = fx_c_X4_readUnit_2 h1_f1 h1_f2 h1_f3 h1_0c h0_f1 h0_0c := hR.symm
  refine wj (fun G hG hU => ?_)
  as_aux_lemma =>
  have J62 : ∀ (j62_h1_f2 : Int32) (j62_h1_f3 : Int32) (j62_h0_f1 : Int32) (j62_h0_0c : Nat → Int32) (g_h0_f1 : RG h0_f1 0 240) (g_h1_f1 : RG h1_f1 0 240) (g_h1_f2 : RG h1_f2 0 240) (g_h1_f3 : RG h1_f3 (-1) 240) (g_j62_h0_f1 : RG j62_h0_f1 0 240) (g_j62_h1_f2 : RG j62_h1_f2 0 240) (g_j62_h1_f3 : RG j62_h1_f3 (-1) 240) (hEX : RES = fx_c_X4_readUnit_2_p62 j62_h1_f2 j62_h1_f3 j62_h0_f1 j62_h0_0c) (H : Heap) (locs : List Loc) (ls : Array Slot) (hP : va_P (dC, dI) vwCl (wd_c_X4_readUnit_2 h1 h1_0 h1_f1 j62_h1_f2 j62_h1_f3 h1_0 h1_0k h1_0c h0 h0_0 j62_h0_f1 h0_2 h0_0 h0_0k j62_h0_0c) H) (hD : va_D A (wd_c_X4_readUnit_2 h1 h1_0 h1_f1 j62_h1_f2 j62_h1_f3 h1_0 h1_0k h1_0c h0 h0_0 j62_h0_f1 h0_2 h0_0 h0_0k j62_h0_0c)) (hS : va_S A s.heap H locs) (hl : lv_has ls 5 []), G H locs (F0 m 62 ls []) := by
    as_aux_lemma =>
    intro j62_h1_f2 j62_h1_f3 j62_h0_f1 j62_h0_0c g_h0_f1 g_h1_f1 g_h1_f2 g_h1_f3 g_j62_h0_f1 g_j62_h1_f2 g_j62_h1_f3 hEX H locs ls hP hD hS hl
    refine hG _ _ _ ?_
    refine lv_goto (tgt := 126) hx hb dX4_readUnit_62 rfl ?_
    have hK9 := hK.sub (tys' := []) [] rfl
    exact W.vret hx hb hr (fun t ht hW => ⟨⟨(j62_h1_f2, j62_h1_f3, j62_h0_f1, j62_h0_0c), rfl, ⟨g_j62_h1_f2, g_j62_h1_f3, g_j62_h0_f1, (hR.trans hEX).symm⟩, by rw [ht]; exact hP, va_K.moved hW.alike hK9, hD⟩, hS.F ht⟩) hS.2.2 dX4_readUnit_126
  have J24 : ∀ (j24_h1_f2 : Int32) (j24_h1_f3 : Int32) (j24_h0_f1 : Int32) (j24_h0_0c : Nat → Int32) (g_h0_f1 : RG h0_f1 0 240) (g_h1_f1 : RG h1_f1 0 240) (g_h1_f2 : RG h1_f2 0 240) (g_h1_f3 : RG h1_f3 (-1) 240) (g_j24_h0_f1 : RG j24_h0_f1 0 240) (g_j24_h1_f2 : RG j24_h1_f2 0 240) (g_j24_h1_f3 : RG j24_h1_f3 (-1) 240) (hEX : RES = fx_c_X4_readUnit_2_p24 h1_f1 h1_0c j24_h1_f2 j24_h1_f3 j24_h0_f1 j24_h0_0c) (H : Heap) (locs : List Loc) (ls : Array Slot) (hP : va_P (dC, dI) vwCl (wd_c_X4_readUnit_2 h1 h1_0 h1_f1 j24_h1_f2 j24_h1_f3 h1_0 h1_0k h1_0c h0 h0_0 j24_h0_f1 h0_2 h0_0 h0_0k j24_h0_0c) H) (hD : va_D A (wd_c_X4_readUnit_2 h1 h1_0 h1_f1 j24_h1_f2 j24_h1_f3 h1_0 h1_0k h1_0c h0 h0_0 j24_h0_f1 h0_2 h0_0 h0_0k j24_h0_0c)) (hS : va_S A s.heap H locs) (hl : lv_has ls 5 [(0, .ref h0), (1, .ref h1), (2, .int 1)]), G H locs (F0 m 24 ls []) := by
    as_aux_lemma =>
    intro j24_h1_f2 j24_h1_f3 j24_h0_f1 j24_h0_0c g_h0_f1 g_h1_f1 g_h1_f2 g_h1_f3 g_j24_h0_f1 g_j24_h1_f2 g_j24_h1_f3 hEX H locs ls hP hD hS hl
    refine hG _ _ _ ?_
    refine lv_aload_n hx hb dX4_readUnit_24 rfl (lv_at hl 1 rfl) ?_
    obtain ⟨hPc, hDc, hFc, hqc⟩ := cl_cut (wc := (wd_c_X9_peek h1 h1_0 h1_f1 j24_h1_f2 j24_h1_f3 h1_0 h1_0k h1_0c)) hP hD hS hA [0, 1] (by decide +kernel) rfl
    have hKc := hK.sub (tys' := [(h1_0k, .int)]) [0] rfl
    have hrv := va_recv hKc hPc (ci := 9) (q0 := 0) rfl rfl
    refine va_calli (va_runV (As := []) (rest := []) ⟨hx, hb, hml, hown, hts⟩ (c_X9_peek l dC dI H.size h1 h1_0 h1_f1 j24_h1_f2 j24_h1_f3 h1_0k h1_0c g_h1_f1 g_j24_h1_f2 g_j24_h1_f3 a_h1_0c) (cwV 0 hts gf_c_X4_readUnit_2_c_X9_peek rfl rfl rfl mdV_X9_peek ⟨Nat.le_of_ble_eq_true rfl, Nat.le_of_ble_eq_true rfl⟩) ⟨fun a U g mk q => by obtain ⟨q0, q1, qP, qK, qD⟩ := q; exact ⟨q0, q1, qP, va_K.moved (u := U) (U := U.calling g mk a) (Vm.Alike.refl U.vm) qK, qD⟩, hrv, fun U hU hW => ⟨rfl, by rw [hU], by rw [hU]; exact hPc, va_K.moved hW.alike hKc, hDc.weaken (fun _ _ _ _ => trivial)⟩⟩ rfl rfl hl.1 rfl (lv_room (Nat.le_of_ble_eq_true rfl)) dX4_readUnit_25 ⟨Nat.le_of_ble_eq_true rfl, Nat.le_of_ble_eq_true rfl⟩) hS (fun q _ h => hFc q h) hFc (fun r_1 x_2 t H1 locs ht hvm hw hB hz1 hk1 hS => ?_)
    obtain ⟨hP1, hK1, hD1⟩ := hB
    rw [ht] at hP1
    obtain ⟨hP, hD⟩ := cl_put (w1 := (wd_c_X9_peek h1 h1_0 h1_f1 x_2 j24_h1_f3 h1_0 h1_0k h1_0c)) (nw := (wd_c_X4_readUnit_2 h1 h1_0 h1_f1 x_2 j24_h1_f3 h1_0 h1_0k h1_0c h0 h0_0 j24_h0_f1 h0_2 h0_0 h0_0k j24_h0_0c)) hP hD [0, 1] [4, 5, 2, 3] 4 rfl hqc (by decide +kernel) rfl hk1 hFc hP1 hD1
    generalize H1 = H at hP hS ⊢
    as_aux_lemma =>
    rcases hw with ⟨h_3, h_4, h_5, h_6⟩ | ⟨h_7, h_8, h_9, h_10, h_11⟩
    · have h_6 : (r_1, x_2) = _ := h_6
      replace hEX := hEX.trans (exc2_eq h_6)
      replace hEX := hEX.trans (if_pos (show r_1 = (-1) from h_3))
      rw [h_3]
      refine lv_istore (lv' := [(4, .int (-1)), (0, .ref h0), (1, .ref h1), (2, .int 1)]) hx hb dX4_readUnit_28 hl (Nat.le_of_ble_eq_true rfl) rfl (fun ls hl => ?_)
      refine lv_iload hx hb dX4_readUnit_30 (lv_at hl 0 rfl) ?_
      obtain ⟨hPc, hDc, hFc, hqc⟩ := cl_cut (wc := []) hP hD hS hA [] (by decide +kernel) rfl
      have hKc := hK.sub (tys' := []) [] rfl
      refine va_calli (va_runS (As := [.int (-1)]) (rest := []) ⟨hx, hb, hml, hown, hts⟩ (c_X4_isComparison l dC dI H.size (-1) (RG_k (-1) (-1) rfl)) (va_cwS 1 hts gf_c_X4_readUnit_2_c_X4_isComparison rfl rfl rfl md_X4_isComparison ⟨Nat.le_of_ble_eq_true rfl, Nat.le_of_ble_eq_true rfl⟩) ⟨fun a U g mk q => by obtain ⟨q0, q1, qP, qK, qD⟩ := q; exact ⟨q0, q1, qP, va_K.moved (u := U) (U := U.calling g mk a) (Vm.Alike.refl U.vm) qK, qD⟩, fun U hU hW => ⟨rfl, by rw [hU], by rw [hU]; exact hPc, va_K.moved hW.alike hKc, hDc.weaken (fun _ _ _ _ => trivial)⟩⟩ rfl rfl hl.1 rfl (lv_room (Nat.le_of_ble_eq_true rfl)) dX4_readUnit_32 ⟨Nat.le_of_ble_eq_true rfl, Nat.le_of_ble_eq_true rfl⟩) hS (fun q _ h => hFc q h) hFc (fun r_12 u t H1 locs ht hvm hw hB hz1 hk1 hS => ?_)
      obtain ⟨hP1, hK1, hD1⟩ := hB
      rw [ht] at hP1
      have hP := bv_still hP hk1
      generalize H1 = H at hP hS ⊢
      as_aux_lemma =>
      rcases hw with ⟨h_13, h_14⟩
      have h_14 : r_12 = _ := h_14
      replace hEX := hEX.trans (exc1_eq h_14)
      rw [h_13]
      refine lv_if_eq (tgt := 58) hx hb dX4_readUnit_35 rfl (fun c_15 => ?_) (fun c_15 => absurd c_15 (by decide +kernel))
      refine lv_aload_n hx hb dX4_readUnit_58 rfl (lv_at hl 2 rfl) ?_
      obtain ⟨hPc, hDc, hFc, hqc⟩ := cl_cut (wc := (wd_c_X9_refuseHere h1 h1_0 h1_f1 x_2 j24_h1_f3)) hP hD hS hA [0] (by decide +kernel) rfl
      have hKc := hK.sub (tys' := []) [] rfl
      have hrv := va_recv hKc hPc (ci := 9) (q0 := 0) rfl rfl
      refine va_callv (va_runV (As := []) (rest := []) ⟨hx, hb, hml, hown, hts⟩ (c_X9_refuseHere l dC dI H.size h1 h1_0 h1_f1 x_2 j24_h1_f3 g_h1_f1 h_4 g_j24_h1_f3) (cwV 0 hts gf_c_X4_readUnit_2_c_X9_refuseHere rfl rfl rfl mdV_X9_refuseHere ⟨Nat.le_of_ble_eq_true rfl, Nat.le_of_ble_eq_true rfl⟩) ⟨fun a U g mk q => by obtain ⟨q0, q1, qP, qK, qD⟩ := q; exact ⟨q0, q1, qP, va_K.moved (u := U) (U := U.calling g mk a) (Vm.Alike.refl U.vm) qK, qD⟩, hrv, fun U hU hW => ⟨rfl, by rw [hU], by rw [hU]; exact hPc, va_K.moved hW.alike hKc, hDc.weaken (fun _ _ _ _ => trivial)⟩⟩ rfl rfl hl.1 rfl (lv_room (Nat.le_of_ble_eq_true rfl)) dX4_readUnit_59 ⟨Nat.le_of_ble_eq_true rfl, Nat.le_of_ble_eq_true rfl⟩) hS (fun q _ h => hFc q h) hFc (fun x_17 t H1 locs ht hvm hw hB hz1 hk1 hS => ?_)
      obtain ⟨hP1, hK1, hD1⟩ := hB
      rw [ht] at hP1
      obtain ⟨hP, hD⟩ := cl_put (w1 := (wd_c_X9_refuseHere h1 h1_0 h1_f1 x_2 x_17)) (nw := (wd_c_X4_readUnit_2 h1 h1_0 h1_f1 x_2 x_17 h1_0 h1_0k h1_0c h0 h0_0 j24_h0_f1 h0_2 h0_0 h0_0k j24_h0_0c)) hP hD [0] [4, 1, 2, 3] 4 rfl hqc (by decide +kernel) rfl hk1 hFc hP1 hD1
      generalize H1 = H at hP hS ⊢
      as_aux_lemma =>
      rcases hw with ⟨h_18, h_19⟩
      have h_19 : x_17 = _ := h_19
      replace hEX := hEX.trans (exc1_eq h_19)
      exact hU _ _ _ (J62 x_2 x_17 j24_h0_f1 j24_h0_0c g_h0_f1 g_h1_f1 g_h1_f2 g_h1_f3 g_j24_h0_f1 h_4 (RG_w h_18 (by decide +kernel)) hEX _ _ _ hP hD hS (lv_sub hl [] rfl))
    · have h_11 : (r_1, x_2) = _ := h_11
      replace hEX := hEX.trans (exc2_eq h_11)
      replace hEX := hEX.trans (if_neg (RG_neq (x := r_1) (c := (-1)) (show RG r_1 0 255 from h_7) (by decide +kernel)))
      refine lv_istore (lv' := [(4, .int r_1), (0, .ref h0), (1, .ref h1), (2, .int 1)]) hx hb dX4_readUnit_28 hl (Nat.le_of_ble_eq_true rfl) rfl (fun ls hl => ?_)
      refine lv_iload hx hb dX4_readUnit_30 (lv_at hl 0 rfl) ?_
      obtain ⟨hPc, hDc, hFc, hqc⟩ := cl_cut (wc := []) hP hD hS hA [] (by decide +kernel) rfl
      have hKc := hK.sub (tys' := []) [] rfl
      refine va_calli (va_runS (As := [.int r_1]) (rest := []) ⟨hx, hb, hml, hown, hts⟩ (c_X4_isComparison_1 l dC dI H.size r_1 h_7) (va_cwS 1 hts gf_c_X4_readUnit_2_c_X4_isComparison_1 rfl rfl rfl md_X4_isComparison ⟨Nat.le_of_ble_eq_true rfl, Nat.le_of_ble_eq_true rfl⟩) ⟨fun a U g mk q => by obtain ⟨q0, q1, qP, qK, qD⟩ := q; exact ⟨q0, q1, qP, va_K.moved (u := U) (U := U.calling g mk a) (Vm.Alike.refl U.vm) qK, qD⟩, fun U hU hW => ⟨rfl, by rw [hU], by rw [hU]; exact hPc, va_K.moved hW.alike hKc, hDc.weaken (fun _ _ _ _ => trivial)⟩⟩ rfl rfl hl.1 rfl (lv_room (Nat.le_of_ble_eq_true rfl)) dX4_readUnit_32 ⟨Nat.le_of_ble_eq_true rfl, Nat.le_of_ble_eq_true rfl⟩) hS (fun q _ h => hFc q h) hFc (fun r_20 u t H1 locs ht hvm hw hB hz1 hk1 hS => ?_)
      obtain ⟨hP1, hK1, hD1⟩ := hB
      rw [ht] at hP1
      have hP := bv_still hP hk1
      generalize H1 = H at hP hS ⊢
      as_aux_lemma =>
      rcases hw with ⟨h_21, h_22⟩ | ⟨h_23, h_24, h_25⟩
      · have h_22 : r_20 = _ := h_22
        replace hEX := hEX.trans (exc1_eq h_22)
        replace hEX := hEX.trans (if_pos (show r_20 = 0 from h_21))
        rw [h_21]
        refine lv_if_eq (tgt := 58) hx hb dX4_readUnit_35 rfl (fun c_26 => ?_) (fun c_26 => absurd c_26 (by decide +kernel))
        refine lv_aload_n hx hb dX4_readUnit_58 rfl (lv_at hl 2 rfl) ?_
        obtain ⟨hPc, hDc, hFc, hqc⟩ := cl_cut (wc := (wd_c_X9_refuseHere h1 h1_0 h1_f1 x_2 j24_h1_f3)) hP hD hS hA [0] (by decide +kernel) rfl
        have hKc := hK.sub (tys' := []) [] rfl
        have hrv := va_recv hKc hPc (ci := 9) (q0 := 0) rfl rfl
        refine va_callv (va_runV (As := []) (rest := []) ⟨hx, hb, hml, hown, hts⟩ (c_X9_refuseHere l dC dI H.size h1 h1_0 h1_f1 x_2 j24_h1_f3 (RG_w h_9 (by decide +kernel)) (RG_w h_8 (by decide +kernel)) g_j24_h1_f3) (cwV 0 hts gf_c_X4_readUnit_2_c_X9_refuseHere rfl rfl rfl mdV_X9_refuseHere ⟨Nat.le_of_ble_eq_true rfl, Nat.le_of_ble_eq_true rfl⟩) ⟨fun a U g mk q => by obtain ⟨q0, q1, qP, qK, qD⟩ := q; exact ⟨q0, q1, qP, va_K.moved (u := U) (U := U.calling g mk a) (Vm.Alike.refl U.vm) qK, qD⟩, hrv, fun U hU hW => ⟨rfl, by rw [hU], by rw [hU]; exact hPc, va_K.moved hW.alike hKc, hDc.weaken (fun _ _ _ _ => trivial)⟩⟩ rfl rfl hl.1 rfl (lv_room (Nat.le_of_ble_eq_true rfl)) dX4_readUnit_59 ⟨Nat.le_of_ble_eq_true rfl, Nat.le_of_ble_eq_true rfl⟩) hS (fun q _ h => hFc q h) hFc (fun x_28 t H1 locs ht hvm hw hB hz1 hk1 hS => ?_)
        obtain ⟨hP1, hK1, hD1⟩ := hB
        rw [ht] at hP1
        obtain ⟨hP, hD⟩ := cl_put (w1 := (wd_c_X9_refuseHere h1 h1_0 h1_f1 x_2 x_28)) (nw := (wd_c_X4_readUnit_2 h1 h1_0 h1_f1 x_2 x_28 h1_0 h1_0k h1_0c h0 h0_0 j24_h0_f1 h0_2 h0_0 h0_0k j24_h0_0c)) hP hD [0] [4, 1, 2, 3] 4 rfl hqc (by decide +kernel) rfl hk1 hFc hP1 hD1
        generalize H1 = H at hP hS ⊢
        as_aux_lemma =>
        rcases hw with ⟨h_29, h_30⟩
        have h_30 : x_28 = _ := h_30
        replace hEX := hEX.trans (exc1_eq h_30)
        exact hU _ _ _ (J62 x_2 x_28 j24_h0_f1 j24_h0_0c g_h0_f1 (RG_w h_9 (by decide +kernel)) g_h1_f2 g_h1_f3 g_j24_h0_f1 (RG_w h_8 (by decide +kernel)) (RG_w h_29 (by decide +kernel)) hEX _ _ _ hP hD hS (lv_sub hl [] rfl))
      · have h_25 : r_20 = _ := h_25
        replace hEX := hEX.trans (exc1_eq h_25)
        replace hEX := hEX.trans (if_neg (fun q9 : r_20 = 0 => absurd ((show r_20 = 1 from h_23).symm.trans q9) (by decide +kernel)))
        rw [h_23]
        refine lv_if_eq (tgt := 58) hx hb dX4_readUnit_35 rfl (fun c_31 => absurd c_31 (by decide +kernel)) (fun c_31 => ?_)
        refine lv_aload_n hx hb dX4_readUnit_38 rfl (lv_at hl 2 rfl) ?_
        obtain ⟨hPc, hDc, hFc, hqc⟩ := cl_cut (wc := (wd_c_X9_skip h1 h1_0 h1_f1 x_2 j24_h1_f3)) hP hD hS hA [0] (by decide +kernel) rfl
        have hKc := hK.sub (tys' := []) [] rfl
        have hrv := va_recv hKc hPc (ci := 9) (q0 := 0) rfl rfl
        refine va_callv (va_runV (As := []) (rest := []) ⟨hx, hb, hml, hown, hts⟩ (c_X9_skip l dC dI H.size h1 h1_0 h1_f1 x_2 j24_h1_f3 (RG_w h_9 (by decide +kernel)) h_8 g_j24_h1_f3) (cwV 0 hts gf_c_X4_readUnit_2_c_X9_skip rfl rfl rfl mdV_X9_skip ⟨Nat.le_of_ble_eq_true rfl, Nat.le_of_ble_eq_true rfl⟩) ⟨fun a U g mk q => by obtain ⟨q0, q1, qP, qK, qD⟩ := q; exact ⟨q0, q1, qP, va_K.moved (u := U) (U := U.calling g mk a) (Vm.Alike.refl U.vm) qK, qD⟩, hrv, fun U hU hW => ⟨rfl, by rw [hU], by rw [hU]; exact hPc, va_K.moved hW.alike hKc, hDc.weaken (fun _ _ _ _ => trivial)⟩⟩ rfl rfl hl.1 rfl (lv_room (Nat.le_of_ble_eq_true rfl)) dX4_readUnit_39 ⟨Nat.le_of_ble_eq_true rfl, Nat.le_of_ble_eq_true rfl⟩) hS (fun q _ h => hFc q h) hFc (fun x_33 t H1 locs ht hvm hw hB hz1 hk1 hS => ?_)
        as_aux_lemma =>
        obtain ⟨hP1, hK1, hD1⟩ := hB
        rw [ht] at hP1
        obtain ⟨hP, hD⟩ := cl_put (w1 := (wd_c_X9_skip h1 h1_0 h1_f1 x_33 j24_h1_f3)) (nw := (wd_c_X4_readUnit_2 h1 h1_0 h1_f1 x_33 j24_h1_f3 h1_0 h1_0k h1_0c h0 h0_0 j24_h0_f1 h0_2 h0_0 h0_0k j24_h0_0c)) hP hD [0] [4, 1, 2, 3] 4 rfl hqc (by decide +kernel) rfl hk1 hFc hP1 hD1
        generalize H1 = H at hP hS ⊢
        as_aux_lemma =>
        rcases hw with ⟨h_34, h_35, h_36, h_37⟩
        have h_37 : x_33 = _ := h_37
        replace hEX := hEX.trans (exc1_eq h_37)
        refine lv_aload_n hx hb dX4_readUnit_42 rfl (lv_at hl 1 rfl) ?_
        refine lv_aload_n hx hb dX4_readUnit_43 rfl (lv_at hl 2 rfl) ?_
        refine lv_iload_n hx hb dX4_readUnit_44 rfl (lv_at hl 3 rfl) ?_
        obtain ⟨hPc, hDc, hFc, hqc⟩ := cl_cut (wc := (wd_c_X4_readSum_1 h1 h1_0 h1_f1 x_33 j24_h1_f3 h1_0 h1_0k h1_0c h0 h0_0 j24_h0_f1 h0_2 h0_0 h0_0k j24_h0_0c)) hP hD hS hA [0, 1, 2, 3] (by decide +kernel) rfl
        have hKc := hK.sub (tys' := [(h1_0k, .int), (h0_0k, .int)]) [0, 1] rfl
        have hrv := va_recv hKc hPc (ci := 4) (q0 := 2) rfl rfl
        refine va_callv (va_runV (As := [.ref h1, .int 1]) (rest := []) ⟨hx, hb, hml, hown, hts⟩ (c_X4_readSum_1 l dC dI H.size h0 h1 h1_0 h1_f1 x_33 j24_h1_f3 h1_0k h1_0c h0_0 j24_h0_f1 h0_2 h0_0k j24_h0_0c ts4 tv4 (RG_w h_9 (by decide +kernel)) (RG_w h_34 (by decide +kernel)) g_j24_h1_f3 a_h1_0c g_j24_h0_f1) (cwV 2 hts gf_c_X4_readUnit_2_c_X4_readSum_1 rfl rfl rfl mdV_X4_readSum ⟨Nat.le_of_ble_eq_true rfl, Nat.le_of_ble_eq_true rfl⟩) ⟨fun a U g mk q => by obtain ⟨q0, q1, qP, qK, qD, qE0, qE1, qE2, qE3, qE4, qE5⟩ := q; exact ⟨q0, q1, qP, va_K.moved (u := U) (U := U.calling g mk a) (Vm.Alike.refl U.vm) qK, qD, vk_R.same rfl qE0, va_Z.moved (u := U) (U := U.calling g mk a) (Vm.Alike.refl U.vm) qE1, va_OF.moved (u := U) (U := U.calling g mk a) (Vm.Alike.refl U.vm) qE2, va_O.moved (u := U) (U := U.calling g mk a) (Vm.Alike.refl U.vm) qE3, va_OF.moved (u := U) (U := U.calling g mk a) (Vm.Alike.refl U.vm) qE4, va_T.moved (u := U) (U := U.calling g mk a) (Vm.Alike.refl U.vm) qE5⟩, hrv, fun U hU hW => ⟨rfl, by rw [hU], by rw [hU]; exact hPc, va_K.moved hW.alike hKc, hDc.weaken (fun _ _ _ _ => trivial), vk_R.warm hW hE_32, va_Z.moved hW.alike (by rw [hU]; exact (hE_10.kept hS.2.1).narrow hFc), va_OF.moved hW.alike (by rw [hU]; exact (hE_34.kept hS.2.1).narrow hFc), va_O.moved hW.alike (by rw [hU]; exact (hE_33.kept hS.2.1).narrow hFc), va_OF.moved hW.alike (by rw [hU]; exact (hE_35.kept hS.2.1).narrow hFc), va_T.moved hW.alike (by rw [hU]; exact (hE_36.kept hS.2.1).narrow hFc)⟩⟩ rfl rfl hl.1 rfl (lv_room (Nat.le_of_ble_eq_true rfl)) dX4_readUnit_45 ⟨Nat.le_of_ble_eq_true rfl, Nat.le_of_ble_eq_true rfl⟩) hS (fun q _ h => hFc q h) hFc (fun u t H1 locs ht hvm hw hB hz1 hk1 hS => ?_)
        obtain ⟨x_39, x_40, x_41, w_42⟩ := u
        obtain ⟨hP1, hK1, hD1⟩ := hB
        rw [ht] at hP1
        obtain ⟨hP, hD⟩ := cl_put (w1 := (wd_c_X4_readSum_1 h1 h1_0 h1_f1 x_39 x_40 h1_0 h1_0k h1_0c h0 h0_0 x_41 h0_2 h0_0 h0_0k w_42)) (nw := (wd_c_X4_readUnit_2 h1 h1_0 h1_f1 x_39 x_40 h1_0 h1_0k h1_0c h0 h0_0 x_41 h0_2 h0_0 h0_0k w_42)) hP hD [0, 1, 2, 3] [4, 5, 6, 7] 4 rfl hqc (by decide +kernel) rfl hk1 hFc hP1 hD1
        generalize H1 = H at hP hS ⊢
        as_aux_lemma =>
        rcases hw with ⟨h_43, h_44, h_45, h_46⟩
        have h_46 : (x_39, x_40, x_41, w_42) = _ := h_46
        replace hEX := hEX.trans (exc4_eq h_46)
        refine lv_aload_n hx hb dX4_readUnit_48 rfl (lv_at hl 1 rfl) ?_
        refine lv_iload hx hb dX4_readUnit_49 (lv_at hl 0 rfl) ?_
        refine lv_ineg hx hb dX4_readUnit_51 ?_
        refine lv_topi (fun x_47 ex_47 => ?_)
        replace hEX := hEX.trans (exl_eq ex_47)
        have g_48 : RG x_47 (-62) (-60) := RG_neg ex_47 h_24 (by decide +kernel)
        obtain ⟨hPc, hDc, hFc, hqc⟩ := cl_cut (wc := (wd_c_X4_emit h0 h0_0 x_41 h0_2 h0_0 h0_0k w_42)) hP hD hS hA [2, 3] (by decide +kernel) rfl
        have hKc := hK.sub (tys' := [(h0_0k, .int)]) [1] rfl
        have hrv := va_recv hKc hPc (ci := 4) (q0 := 0) rfl rfl
        refine va_callv (va_runV (As := [.int x_47]) (rest := []) ⟨hx, hb, hml, hown, hts⟩ (c_X4_emit l dC dI H.size h0 x_47 h0_0 x_41 h0_2 h0_0k w_42 h_45) (cwV 1 hts gf_c_X4_readUnit_2_c_X4_emit rfl rfl rfl mdV_X4_emit ⟨Nat.le_of_ble_eq_true rfl, Nat.le_of_ble_eq_true rfl⟩) ⟨fun a U g mk q => by obtain ⟨q0, q1, qP, qK, qD⟩ := q; exact ⟨q0, q1, qP, va_K.moved (u := U) (U := U.calling g mk a) (Vm.Alike.refl U.vm) qK, qD⟩, hrv, fun U hU hW => ⟨rfl, by rw [hU], by rw [hU]; exact hPc, va_K.moved hW.alike hKc, hDc.weaken (fun _ _ _ _ => trivial)⟩⟩ rfl rfl hl.1 rfl (lv_room (Nat.le_of_ble_eq_true rfl)) dX4_readUnit_52 ⟨Nat.le_of_ble_eq_true rfl, Nat.le_of_ble_eq_true rfl⟩) hS (fun q _ h => hFc q h) hFc (fun u t H1 locs ht hvm hw hB hz1 hk1 hS => ?_)
        obtain ⟨x_50, w_51⟩ := u
        obtain ⟨hP1, hK1, hD1⟩ := hB
        rw [ht] at hP1
        obtain ⟨hP, hD⟩ := cl_put (w1 := (wd_c_X4_emit h0 h0_0 x_50 h0_2 h0_0 h0_0k w_51)) (nw := (wd_c_X4_readUnit_2 h1 h1_0 h1_f1 x_39 x_40 h1_0 h1_0k h1_0c h0 h0_0 x_50 h0_2 h0_0 h0_0k w_51)) hP hD [2, 3] [0, 1, 4, 5] 4 rfl hqc (by decide +kernel) rfl hk1 hFc hP1 hD1
        generalize H1 = H at hP hS ⊢
        as_aux_lemma =>
        rcases hw with ⟨h_52, h_53⟩
        have h_53 : (x_50, w_51) = _ := h_53
        replace hEX := hEX.trans (exc2_eq h_53)
        refine lv_goto (tgt := 62) hx hb dX4_readUnit_55 rfl ?_
        exact hU _ _ _ (J62 x_39 x_40 x_50 w_51 g_h0_f1 (RG_w h_9 (by decide +kernel)) g_h1_f2 g_h1_f3 (RG_w h_52 (by decide +kernel)) h_43 h_44 hEX _ _ _ hP hD hS (lv_sub hl [] rfl))
  have J14 : ∀ (j14_h1_f2 : Int32) (g_h0_f1 : RG h0_f1 0 240) (g_h1_f1 : RG h1_f1 0 240) (g_h1_f2 : RG h1_f2 0 240) (g_h1_f3 : RG h1_f3 (-1) 240) (g_j14_h1_f2 : RG j14_h1_f2 0 240) (hEX : RES = fx_c_X4_readUnit_2_p14 h1_f1 h1_f3 h1_0c h0_f1 h0_0c j14_h1_f2) (H : Heap) (locs : List Loc) (ls : Array Slot) (hP : va_P (dC, dI) vwCl (wd_c_X4_readUnit_2 h1 h1_0 h1_f1 j14_h1_f2 h1_f3 h1_0 h1_0k h1_0c h0 h0_0 h0_f1 h0_2 h0_0 h0_0k h0_0c) H) (hD : va_D A (wd_c_X4_readUnit_2 h1 h1_0 h1_f1 j14_h1_f2 h1_f3 h1_0 h1_0k h1_0c h0 h0_0 h0_f1 h0_2 h0_0 h0_0k h0_0c)) (hS : va_S A s.heap H locs) (hl : lv_has ls 5 [(0, .ref h0), (1, .ref h1), (2, .int 1), (3, .int 0)]), G H locs (F0 m 14 ls []) := by
    as_aux_lemma =>
    intro j14_h1_f2 g_h0_f1 g_h1_f1 g_h1_f2 g_h1_f3 g_j14_h1_f2 hEX H locs ls hP hD hS hl
    refine hG _ _ _ ?_
    refine lv_iload_n hx hb dX4_readUnit_14 rfl (lv_at hl 3 rfl) ?_
    refine lv_if_ne (tgt := 24) hx hb dX4_readUnit_15 rfl (fun c_54 => absurd c_54 (by decide +kernel)) (fun c_54 => ?_)
    refine lv_aload_n hx hb dX4_readUnit_18 rfl (lv_at hl 0 rfl) ?_
    refine lv_aload_n hx hb dX4_readUnit_19 rfl (lv_at hl 1 rfl) ?_
    refine lv_iload_n hx hb dX4_readUnit_20 rfl (lv_at hl 2 rfl) ?_
    obtain ⟨hPc, hDc, hFc, hqc⟩ := cl_cut (wc := (wd_c_X4_readSum_1 h1 h1_0 h1_f1 j14_h1_f2 h1_f3 h1_0 h1_0k h1_0c h0 h0_0 h0_f1 h0_2 h0_0 h0_0k h0_0c)) hP hD hS hA [0, 1, 2, 3] (by decide +kernel) rfl
    have hKc := hK.sub (tys' := [(h1_0k, .int), (h0_0k, .int)]) [0, 1] rfl
    have hrv := va_recv hKc hPc (ci := 4) (q0 := 2) rfl rfl
    refine va_callv (va_runV (As := [.ref h1, .int 1]) (rest := []) ⟨hx, hb, hml, hown, hts⟩ (c_X4_readSum_1 l dC dI H.size h0 h1 h1_0 h1_f1 j14_h1_f2 h1_f3 h1_0k h1_0c h0_0 h0_f1 h0_2 h0_0k h0_0c ts4 tv4 g_h1_f1 g_j14_h1_f2 g_h1_f3 a_h1_0c g_h0_f1) (cwV 2 hts gf_c_X4_readUnit_2_c_X4_readSum_1 rfl rfl rfl mdV_X4_readSum ⟨Nat.le_of_ble_eq_true rfl, Nat.le_of_ble_eq_true rfl⟩) ⟨fun a U g mk q => by obtain ⟨q0, q1, qP, qK, qD, qE0, qE1, qE2, qE3, qE4, qE5⟩ := q; exact ⟨q0, q1, qP, va_K.moved (u := U) (U := U.calling g mk a) (Vm.Alike.refl U.vm) qK, qD, vk_R.same rfl qE0, va_Z.moved (u := U) (U := U.calling g mk a) (Vm.Alike.refl U.vm) qE1, va_OF.moved (u := U) (U := U.calling g mk a) (Vm.Alike.refl U.vm) qE2, va_O.moved (u := U) (U := U.calling g mk a) (Vm.Alike.refl U.vm) qE3, va_OF.moved (u := U) (U := U.calling g mk a) (Vm.Alike.refl U.vm) qE4, va_T.moved (u := U) (U := U.calling g mk a) (Vm.Alike.refl U.vm) qE5⟩, hrv, fun U hU hW => ⟨rfl, by rw [hU], by rw [hU]; exact hPc, va_K.moved hW.alike hKc, hDc.weaken (fun _ _ _ _ => trivial), vk_R.warm hW hE_32, va_Z.moved hW.alike (by rw [hU]; exact (hE_10.kept hS.2.1).narrow hFc), va_OF.moved hW.alike (by rw [hU]; exact (hE_34.kept hS.2.1).narrow hFc), va_O.moved hW.alike (by rw [hU]; exact (hE_33.kept hS.2.1).narrow hFc), va_OF.moved hW.alike (by rw [hU]; exact (hE_35.kept hS.2.1).narrow hFc), va_T.moved hW.alike (by rw [hU]; exact (hE_36.kept hS.2.1).narrow hFc)⟩⟩ rfl rfl hl.1 rfl (lv_room (Nat.le_of_ble_eq_true rfl)) dX4_readUnit_21 ⟨Nat.le_of_ble_eq_true rfl, Nat.le_of_ble_eq_true rfl⟩) hS (fun q _ h => hFc q h) hFc (fun u t H1 locs ht hvm hw hB hz1 hk1 hS => ?_)
    obtain ⟨x_56, x_57, x_58, w_59⟩ := u
    obtain ⟨hP1, hK1, hD1⟩ := hB
    rw [ht] at hP1
    obtain ⟨hP, hD⟩ := cl_put (w1 := (wd_c_X4_readSum_1 h1 h1_0 h1_f1 x_56 x_57 h1_0 h1_0k h1_0c h0 h0_0 x_58 h0_2 h0_0 h0_0k w_59)) (nw := (wd_c_X4_readUnit_2 h1 h1_0 h1_f1 x_56 x_57 h1_0 h1_0k h1_0c h0 h0_0 x_58 h0_2 h0_0 h0_0k w_59)) hP hD [0, 1, 2, 3] [4, 5, 6, 7] 4 rfl hqc (by decide +kernel) rfl hk1 hFc hP1 hD1
    generalize H1 = H at hP hS ⊢
    as_aux_lemma =>
    rcases hw with ⟨h_60, h_61, h_62, h_63⟩
    have h_63 : (x_56, x_57, x_58, w_59) = _ := h_63
    replace hEX := hEX.trans (exc4_eq h_63)
    exact hU _ _ _ (J24 x_56 x_57 x_58 w_59 g_h0_f1 g_h1_f1 g_h1_f2 g_h1_f3 h_62 h_60 h_61 hEX _ _ _ hP hD hS (lv_sub hl [0, 1, 2] rfl))
  refine hG _ _ _ ?_
  refine lv_iload_n hx hb dX4_readUnit_0 rfl (lv_at hl 3 rfl) ?_
  refine lv_if_ne (tgt := 14) hx hb dX4_readUnit_1 rfl (fun c_64 => absurd c_64 (by decide +kernel)) (fun c_64 => ?_)
  refine lv_aload_n hx hb dX4_readUnit_4 rfl (lv_at hl 1 rfl) ?_
  obtain ⟨hPc, hDc, hFc, hqc⟩ := cl_cut (wc := (wd_c_X9_peek h1 h1_0 h1_f1 h1_f2 h1_f3 h1_0 h1_0k h1_0c)) hP hD hS hA [0, 1] (by decide +kernel) rfl
  have hKc := hK.sub (tys' := [(h1_0k, .int)]) [0] rfl
  have hrv := va_recv hKc hPc (ci := 9) (q0 := 0) rfl rfl
  refine va_calli (va_runV (As := []) (rest := []) ⟨hx, hb, hml, hown, hts⟩ (c_X9_peek l dC dI H.size h1 h1_0 h1_f1 h1_f2 h1_f3 h1_0k h1_0c g_h1_f1 g_h1_f2 g_h1_f3 a_h1_0c) (cwV 0 hts gf_c_X4_readUnit_2_c_X9_peek rfl rfl rfl mdV_X9_peek ⟨Nat.le_of_ble_eq_true rfl, Nat.le_of_ble_eq_true rfl⟩) ⟨fun a U g mk q => by obtain ⟨q0, q1, qP, qK, qD⟩ := q; exact ⟨q0, q1, qP, va_K.moved (u := U) (U := U.calling g mk a) (Vm.Alike.refl U.vm) qK, qD⟩, hrv, fun U hU hW => ⟨rfl, by rw [hU], by rw [hU]; exact hPc, va_K.moved hW.alike hKc, hDc.weaken (fun _ _ _ _ => trivial)⟩⟩ rfl rfl hl.1 rfl (lv_room (Nat.le_of_ble_eq_true rfl)) dX4_readUnit_5 ⟨Nat.le_of_ble_eq_true rfl, Nat.le_of_ble_eq_true rfl⟩) hS (fun q _ h => hFc q h) hFc (fun r_65 x_66 t H1 locs ht hvm hw hB hz1 hk1 hS => ?_)
  obtain ⟨hP1, hK1, hD1⟩ := hB
  rw [ht] at hP1
  obtain ⟨hP, hD⟩ := cl_put (w1 := (wd_c_X9_peek h1 h1_0 h1_f1 x_66 h1_f3 h1_0 h1_0k h1_0c)) (nw := (wd_c_X4_readUnit_2 h1 h1_0 h1_f1 x_66 h1_f3 h1_0 h1_0k h1_0c h0 h0_0 h0_f1 h0_2 h0_0 h0_0k h0_0c)) hP hD [0, 1] [4, 5, 2, 3] 4 rfl hqc (by decide +kernel) rfl hk1 hFc hP1 hD1
  generalize H1 = H at hP hS ⊢
  as_aux_lemma =>
  rcases hw with ⟨h_67, h_68, h_69, h_70⟩ | ⟨h_71, h_72, h_73, h_74, h_75⟩
  · have h_70 : (r_65, x_66) = _ := h_70
    replace hEX := hEX.trans (exc2_eq h_70)
    replace hEX := hEX.trans (if_pos (show r_65 = (-1) from h_67))
    rw [h_67]
    obtain ⟨hPc, hDc, hFc, hqc⟩ := cl_cut (wc := []) hP hD hS hA [] (by decide +kernel) rfl
    have hKc := hK.sub (tys' := []) [] rfl
    refine va_calli (va_runS (As := [.int (-1)]) (rest := []) ⟨hx, hb, hml, hown, hts⟩ (c_X4_startsUnit l dC dI H.size (-1) (RG_k (-1) (-1) rfl)) (va_cwS 1 hts gf_c_X4_readUnit_2_c_X4_startsUnit rfl rfl rfl md_X4_startsUnit ⟨Nat.le_of_ble_eq_true rfl, Nat.le_of_ble_eq_true rfl⟩) ⟨fun a U g mk q => by obtain ⟨q0, q1, qP, qK, qD⟩ := q; exact ⟨q0, q1, qP, va_K.moved (u := U) (U := U.calling g mk a) (Vm.Alike.refl U.vm) qK, qD⟩, fun U hU hW => ⟨rfl, by rw [hU], by rw [hU]; exact hPc, va_K.moved hW.alike hKc, hDc.weaken (fun _ _ _ _ => trivial)⟩⟩ rfl rfl hl.1 rfl (lv_room (Nat.le_of_ble_eq_true rfl)) dX4_readUnit_8 ⟨Nat.le_of_ble_eq_true rfl, Nat.le_of_ble_eq_true rfl⟩) hS (fun q _ h => hFc q h) hFc (fun r_76 u t H1 locs ht hvm hw hB hz1 hk1 hS => ?_)
    obtain ⟨hP1, hK1, hD1⟩ := hB
    rw [ht] at hP1
    have hP := bv_still hP hk1
    generalize H1 = H at hP hS ⊢
    as_aux_lemma =>
    rcases hw with ⟨h_77, h_78⟩
    have h_78 : r_76 = _ := h_78
    replace hEX := hEX.trans (exc1_eq h_78)
    rw [h_77]
    refine lv_if_ne (tgt := 65) hx hb dX4_readUnit_11 rfl (fun c_79 => absurd c_79 (by decide +kernel)) (fun c_79 => ?_)
    exact hU _ _ _ (J14 x_66 g_h0_f1 g_h1_f1 g_h1_f2 g_h1_f3 h_68 hEX _ _ _ hP hD hS (lv_sub hl [0, 1, 2, 3] rfl))
  · have h_75 : (r_65, x_66) = _ := h_75
    replace hEX := hEX.trans (exc2_eq h_75)
    replace hEX := hEX.trans (if_neg (RG_neq (x := r_65) (c := (-1)) (show RG r_65 0 255 from h_71) (by decide +kernel)))
    obtain ⟨hPc, hDc, hFc, hqc⟩ := cl_cut (wc := []) hP hD hS hA [] (by decide +kernel) rfl
    have hKc := hK.sub (tys' := []) [] rfl
    refine va_calli (va_runS (As := [.int r_65]) (rest := []) ⟨hx, hb, hml, hown, hts⟩ (c_X4_startsUnit_1 l dC dI H.size r_65 h_71) (va_cwS 1 hts gf_c_X4_readUnit_2_c_X4_startsUnit_1 rfl rfl rfl md_X4_startsUnit ⟨Nat.le_of_ble_eq_true rfl, Nat.le_of_ble_eq_true rfl⟩) ⟨fun a U g mk q => by obtain ⟨q0, q1, qP, qK, qD⟩ := q; exact ⟨q0, q1, qP, va_K.moved (u := U) (U := U.calling g mk a) (Vm.Alike.refl U.vm) qK, qD⟩, fun U hU hW => ⟨rfl, by rw [hU], by rw [hU]; exact hPc, va_K.moved hW.alike hKc, hDc.weaken (fun _ _ _ _ => trivial)⟩⟩ rfl rfl hl.1 rfl (lv_room (Nat.le_of_ble_eq_true rfl)) dX4_readUnit_8 ⟨Nat.le_of_ble_eq_true rfl, Nat.le_of_ble_eq_true rfl⟩) hS (fun q _ h => hFc q h) hFc (fun r_80 u t H1 locs ht hvm hw hB hz1 hk1 hS => ?_)
    obtain ⟨hP1, hK1, hD1⟩ := hB
    rw [ht] at hP1
    have hP := bv_still hP hk1
    generalize H1 = H at hP hS ⊢
    as_aux_lemma =>
    rcases hw with ⟨h_81, h_82⟩ | ⟨h_83, h_84, h_85⟩
    · have h_82 : r_80 = _ := h_82
      replace hEX := hEX.trans (exc1_eq h_82)
      replace hEX := hEX.trans (if_pos (show r_80 = 0 from h_81))
      rw [h_81]
      refine lv_if_ne (tgt := 65) hx hb dX4_readUnit_11 rfl (fun c_86 => absurd c_86 (by decide +kernel)) (fun c_86 => ?_)
      exact hU _ _ _ (J14 x_66 g_h0_f1 (RG_w h_73 (by decide +kernel)) g_h1_f2 g_h1_f3 (RG_w h_72 (by decide +kernel)) hEX _ _ _ hP hD hS (lv_sub hl [0, 1, 2, 3] rfl))
    · have h_85 : r_80 = _ := h_85
      replace hEX := hEX.trans (exc1_eq h_85)
      replace hEX := hEX.trans (if_neg (fun q9 : r_80 = 0 => absurd ((show r_80 = 1 from h_83).symm.trans q9) (by decide +kernel)))
      rw [h_83]
      refine lv_if_ne (tgt := 65) hx hb dX4_readUnit_11 rfl (fun c_87 => ?_) (fun c_87 => absurd c_87 (by decide +kernel))
      refine lv_iload_n hx hb dX4_readUnit_65 rfl (lv_at hl 2 rfl) ?_
      refine lv_bipush (v := 6) hx hb dX4_readUnit_66 kc_bipush_6 ?_
      as_aux_lemma =>
      refine lv_icmp_lt (tgt := 78) hx hb dX4_readUnit_68 rfl (fun c_88 => ?_) (fun c_88 => absurd c_88 (by decide +kernel))
      refine lv_aload_n hx hb dX4_readUnit_78 rfl (lv_at hl 1 rfl) ?_
      refine lv_bipush (v := 33) hx hb dX4_readUnit_79 kc_bipush_33 ?_
      obtain ⟨hPc, hDc, hFc, hqc⟩ := cl_cut (wc := (wd_c_X9_take h1 h1_0 h1_f1 x_66 h1_f3 h1_0 h1_0k h1_0c)) hP hD hS hA [0, 1] (by decide +kernel) rfl
      have hKc := hK.sub (tys' := [(h1_0k, .int)]) [0] rfl
      have hrv := va_recv hKc hPc (ci := 9) (q0 := 0) rfl rfl
      refine va_calli (va_runV (As := [.int 33]) (rest := []) ⟨hx, hb, hml, hown, hts⟩ (c_X9_take l dC dI H.size h1 33 h1_0 h1_f1 x_66 h1_f3 h1_0k h1_0c (RG_w (RG_k 33 33 rfl) (by decide +kernel)) (RG_w h_73 (by decide +kernel)) (RG_w h_72 (by decide +kernel)) g_h1_f3 a_h1_0c) (cwV 1 hts gf_c_X4_readUnit_2_c_X9_take rfl rfl rfl mdV_X9_take ⟨Nat.le_of_ble_eq_true rfl, Nat.le_of_ble_eq_true rfl⟩) ⟨fun a U g mk q => by obtain ⟨q0, q1, qP, qK, qD⟩ := q; exact ⟨q0, q1, qP, va_K.moved (u := U) (U := U.calling g mk a) (Vm.Alike.refl U.vm) qK, qD⟩, hrv, fun U hU hW => ⟨rfl, by rw [hU], by rw [hU]; exact hPc, va_K.moved hW.alike hKc, hDc.weaken (fun _ _ _ _ => trivial)⟩⟩ rfl rfl hl.1 rfl (lv_room (Nat.le_of_ble_eq_true rfl)) dX4_readUnit_81 ⟨Nat.le_of_ble_eq_true rfl, Nat.le_of_ble_eq_true rfl⟩) hS (fun q _ h => hFc q h) hFc (fun r_89 x_90 t H1 locs ht hvm hw hB hz1 hk1 hS => ?_)
      obtain ⟨hP1, hK1, hD1⟩ := hB
      rw [ht] at hP1
      obtain ⟨hP, hD⟩ := cl_put (w1 := (wd_c_X9_take h1 h1_0 h1_f1 x_90 h1_f3 h1_0 h1_0k h1_0c)) (nw := (wd_c_X4_readUnit_2 h1 h1_0 h1_f1 x_90 h1_f3 h1_0 h1_0k h1_0c h0 h0_0 h0_f1 h0_2 h0_0 h0_0k h0_0c)) hP hD [0, 1] [4, 5, 2, 3] 4 rfl hqc (by decide +kernel) rfl hk1 hFc hP1 hD1
      generalize H1 = H at hP hS ⊢
      as_aux_lemma =>
      rcases hw with ⟨h_91, h_92, h_93, h_94⟩ | ⟨h_95, h_96, h_97, h_98, h_99, h_100⟩
      · have h_94 : (r_89, x_90) = _ := h_94
        replace hEX := hEX.trans (exc2_eq h_94)
        replace hEX := hEX.trans (if_pos (show r_89 = 0 from h_91))
        rw [h_91]
        refine lv_if_eq (tgt := 105) hx hb dX4_readUnit_84 rfl (fun c_101 => ?_) (fun c_101 => absurd c_101 (by decide +kernel))
        refine lv_aload_n hx hb dX4_readUnit_105 rfl (lv_at hl 1 rfl) ?_
        refine lv_bipush (v := 40) hx hb dX4_readUnit_106 kc_bipush_40 ?_
        obtain ⟨hPc, hDc, hFc, hqc⟩ := cl_cut (wc := (wd_c_X9_expect_1 h1 h1_0 h1_f1 x_90 h1_f3 h1_0 h1_0k h1_0c)) hP hD hS hA [0, 1] (by decide +kernel) rfl
        have hKc := hK.sub (tys' := [(h1_0k, .int)]) [0] rfl
        have hrv := va_recv hKc hPc (ci := 9) (q0 := 0) rfl rfl
        refine va_callv (va_runV (As := [.int 40]) (rest := []) ⟨hx, hb, hml, hown, hts⟩ (c_X9_expect_1 l dC dI H.size h1 40 h1_0 h1_f1 x_90 h1_f3 h1_0k h1_0c (RG_w (RG_k 40 40 rfl) (by decide +kernel)) (RG_w h_73 (by decide +kernel)) h_92 g_h1_f3 a_h1_0c) (cwV 1 hts gf_c_X4_readUnit_2_c_X9_expect_1 rfl rfl rfl mdV_X9_expect ⟨Nat.le_of_ble_eq_true rfl, Nat.le_of_ble_eq_true rfl⟩) ⟨fun a U g mk q => by obtain ⟨q0, q1, qP, qK, qD⟩ := q; exact ⟨q0, q1, qP, va_K.moved (u := U) (U := U.calling g mk a) (Vm.Alike.refl U.vm) qK, qD⟩, hrv, fun U hU hW => ⟨rfl, by rw [hU], by rw [hU]; exact hPc, va_K.moved hW.alike hKc, hDc.weaken (fun _ _ _ _ => trivial)⟩⟩ rfl rfl hl.1 rfl (lv_room (Nat.le_of_ble_eq_true rfl)) dX4_readUnit_108 ⟨Nat.le_of_ble_eq_true rfl, Nat.le_of_ble_eq_true rfl⟩) hS (fun q _ h => hFc q h) hFc (fun u t H1 locs ht hvm hw hB hz1 hk1 hS => ?_)
        obtain ⟨x_103, x_104⟩ := u
        obtain ⟨hP1, hK1, hD1⟩ := hB
        rw [ht] at hP1
        obtain ⟨hP, hD⟩ := cl_put (w1 := (wd_c_X9_expect_1 h1 h1_0 h1_f1 x_103 x_104 h1_0 h1_0k h1_0c)) (nw := (wd_c_X4_readUnit_2 h1 h1_0 h1_f1 x_103 x_104 h1_0 h1_0k h1_0c h0 h0_0 h0_f1 h0_2 h0_0 h0_0k h0_0c)) hP hD [0, 1] [4, 5, 2, 3] 4 rfl hqc (by decide +kernel) rfl hk1 hFc hP1 hD1
        generalize H1 = H at hP hS ⊢
        as_aux_lemma =>
        rcases hw with ⟨h_105, h_106, h_107, h_108⟩
        have h_108 : (x_103, x_104) = _ := h_108
        replace hEX := hEX.trans (exc2_eq h_108)
        refine lv_aload_n hx hb dX4_readUnit_111 rfl (lv_at hl 0 rfl) ?_
        refine lv_aload_n hx hb dX4_readUnit_112 rfl (lv_at hl 1 rfl) ?_
        refine lv_iload_n hx hb dX4_readUnit_113 rfl (lv_at hl 2 rfl) ?_
        refine lv_iconst (v := 1) hx hb dX4_readUnit_114 kc_iconst_1 ?_
        refine lv_iadd hx hb dX4_readUnit_115 ?_
        refine lv_topi (fun x_109 ex_109 => ?_)
        obtain rfl : x_109 = 2 := ex_109.trans (by decide +kernel)
        refine lv_iconst (v := 0) hx hb dX4_readUnit_116 kc_iconst_0 ?_
        obtain ⟨hPc, hDc, hFc, hqc⟩ := cl_cut (wc := (wd_c_X4_readCondition_2 h1 h1_0 h1_f1 x_103 x_104 h1_0 h1_0k h1_0c h0 h0_0 h0_f1 h0_2 h0_0 h0_0k h0_0c)) hP hD hS hA [0, 1, 2, 3] (by decide +kernel) rfl
        have hKc := hK.sub (tys' := [(h1_0k, .int), (h0_0k, .int)]) [0, 1] rfl
        have hrv := va_recv hKc hPc (ci := 4) (q0 := 2) rfl rfl
        refine va_callv (va_runV (As := [.ref h1, .int 2, .int 0]) (rest := []) ⟨hx, hb, hml, hown, hts⟩ (c_X4_readCondition_2 l dC dI H.size h0 h1 h1_0 h1_f1 x_103 x_104 h1_0k h1_0c h0_0 h0_f1 h0_2 h0_0k h0_0c ts4 tv4 (RG_w h_73 (by decide +kernel)) h_105 h_106 a_h1_0c g_h0_f1) (cwV 3 hts gf_c_X4_readUnit_2_c_X4_readCondition_2 rfl rfl rfl mdV_X4_readCondition ⟨Nat.le_of_ble_eq_true rfl, Nat.le_of_ble_eq_true rfl⟩) ⟨fun a U g mk q => by obtain ⟨q0, q1, qP, qK, qD, qE0, qE1, qE2, qE3, qE4, qE5⟩ := q; exact ⟨q0, q1, qP, va_K.moved (u := U) (U := U.calling g mk a) (Vm.Alike.refl U.vm) qK, qD, vk_R.same rfl qE0, va_Z.moved (u := U) (U := U.calling g mk a) (Vm.Alike.refl U.vm) qE1, va_OF.moved (u := U) (U := U.calling g mk a) (Vm.Alike.refl U.vm) qE2, va_O.moved (u := U) (U := U.calling g mk a) (Vm.Alike.refl U.vm) qE3, va_OF.moved (u := U) (U := U.calling g mk a) (Vm.Alike.refl U.vm) qE4, va_T.moved (u := U) (U := U.calling g mk a) (Vm.Alike.refl U.vm) qE5⟩, hrv, fun U hU hW => ⟨rfl, by rw [hU], by rw [hU]; exact hPc, va_K.moved hW.alike hKc, hDc.weaken (fun _ _ _ _ => trivial), vk_R.warm hW hE_32, va_Z.moved hW.alike (by rw [hU]; exact (hE_10.kept hS.2.1).narrow hFc), va_OF.moved hW.alike (by rw [hU]; exact (hE_34.kept hS.2.1).narrow hFc), va_O.moved hW.alike (by rw [hU]; exact (hE_33.kept hS.2.1).narrow hFc), va_OF.moved hW.alike (by rw [hU]; exact (hE_35.kept hS.2.1).narrow hFc), va_T.moved hW.alike (by rw [hU]; exact (hE_36.kept hS.2.1).narrow hFc)⟩⟩ rfl rfl hl.1 rfl (lv_room (Nat.le_of_ble_eq_true rfl)) dX4_readUnit_117 ⟨Nat.le_of_ble_eq_true rfl, Nat.le_of_ble_eq_true rfl⟩) hS (fun q _ h => hFc q h) hFc (fun u t H1 locs ht hvm hw hB hz1 hk1 hS => ?_)
        as_aux_lemma =>
        obtain ⟨x_111, x_112, x_113, w_114⟩ := u
        obtain ⟨hP1, hK1, hD1⟩ := hB
        rw [ht] at hP1
        obtain ⟨hP, hD⟩ := cl_put (w1 := (wd_c_X4_readCondition_2 h1 h1_0 h1_f1 x_111 x_112 h1_0 h1_0k h1_0c h0 h0_0 x_113 h0_2 h0_0 h0_0k w_114)) (nw := (wd_c_X4_readUnit_2 h1 h1_0 h1_f1 x_111 x_112 h1_0 h1_0k h1_0c h0 h0_0 x_113 h0_2 h0_0 h0_0k w_114)) hP hD [0, 1, 2, 3] [4, 5, 6, 7] 4 rfl hqc (by decide +kernel) rfl hk1 hFc hP1 hD1
        generalize H1 = H at hP hS ⊢
        as_aux_lemma =>
        rcases hw with ⟨h_115, h_116, h_117, h_118⟩
        have h_118 : (x_111, x_112, x_113, w_114) = _ := h_118
        replace hEX := hEX.trans (exc4_eq h_118)
        refine lv_aload_n hx hb dX4_readUnit_120 rfl (lv_at hl 1 rfl) ?_
        refine lv_bipush (v := 41) hx hb dX4_readUnit_121 kc_bipush_41 ?_
        obtain ⟨hPc, hDc, hFc, hqc⟩ := cl_cut (wc := (wd_c_X9_expect_1 h1 h1_0 h1_f1 x_111 x_112 h1_0 h1_0k h1_0c)) hP hD hS hA [0, 1] (by decide +kernel) rfl
        have hKc := hK.sub (tys' := [(h1_0k, .int)]) [0] rfl
        have hrv := va_recv hKc hPc (ci := 9) (q0 := 0) rfl rfl
        refine va_callv (va_runV (As := [.int 41]) (rest := []) ⟨hx, hb, hml, hown, hts⟩ (c_X9_expect_1 l dC dI H.size h1 41 h1_0 h1_f1 x_111 x_112 h1_0k h1_0c (RG_w (RG_k 41 41 rfl) (by decide +kernel)) (RG_w h_73 (by decide +kernel)) h_115 h_116 a_h1_0c) (cwV 1 hts gf_c_X4_readUnit_2_c_X9_expect_1 rfl rfl rfl mdV_X9_expect ⟨Nat.le_of_ble_eq_true rfl, Nat.le_of_ble_eq_true rfl⟩) ⟨fun a U g mk q => by obtain ⟨q0, q1, qP, qK, qD⟩ := q; exact ⟨q0, q1, qP, va_K.moved (u := U) (U := U.calling g mk a) (Vm.Alike.refl U.vm) qK, qD⟩, hrv, fun U hU hW => ⟨rfl, by rw [hU], by rw [hU]; exact hPc, va_K.moved hW.alike hKc, hDc.weaken (fun _ _ _ _ => trivial)⟩⟩ rfl rfl hl.1 rfl (lv_room (Nat.le_of_ble_eq_true rfl)) dX4_readUnit_123 ⟨Nat.le_of_ble_eq_true rfl, Nat.le_of_ble_eq_true rfl⟩) hS (fun q _ h => hFc q h) hFc (fun u t H1 locs ht hvm hw hB hz1 hk1 hS => ?_)
        obtain ⟨x_120, x_121⟩ := u
        obtain ⟨hP1, hK1, hD1⟩ := hB
        rw [ht] at hP1
        obtain ⟨hP, hD⟩ := cl_put (w1 := (wd_c_X9_expect_1 h1 h1_0 h1_f1 x_120 x_121 h1_0 h1_0k h1_0c)) (nw := (wd_c_X4_readUnit_2 h1 h1_0 h1_f1 x_120 x_121 h1_0 h1_0k h1_0c h0 h0_0 x_113 h0_2 h0_0 h0_0k w_114)) hP hD [0, 1] [4, 5, 2, 3] 4 rfl hqc (by decide +kernel) rfl hk1 hFc hP1 hD1
        generalize H1 = H at hP hS ⊢
        as_aux_lemma =>
        rcases hw with ⟨h_122, h_123, h_124, h_125⟩
        have h_125 : (x_120, x_121) = _ := h_125
        replace hEX := hEX.trans (exc2_eq h_125)
        have hK9 := hK.sub (tys' := []) [] rfl
        exact W.vret hx hb hr (fun t ht hW => ⟨⟨(x_120, x_121, x_113, w_114), rfl, ⟨h_122, h_123, h_117, (hR.trans hEX).symm⟩, by rw [ht]; exact hP, va_K.moved hW.alike hK9, hD⟩, hS.F ht⟩) hS.2.2 dX4_readUnit_126
      · have h_100 : (r_89, x_90) = _ := h_100
        replace hEX := hEX.trans (exc2_eq h_100)
        replace hEX := hEX.trans (if_neg (fun q9 : r_89 = 0 => absurd ((show r_89 = 1 from h_95).symm.trans q9) (by decide +kernel)))
        rw [h_95]
        refine lv_if_eq (tgt := 105) hx hb dX4_readUnit_84 rfl (fun c_126 => absurd c_126 (by decide +kernel)) (fun c_126 => ?_)
        refine lv_aload_n hx hb dX4_readUnit_87 rfl (lv_at hl 0 rfl) ?_
        refine lv_aload_n hx hb dX4_readUnit_88 rfl (lv_at hl 1 rfl) ?_
        refine lv_iload_n hx hb dX4_readUnit_89 rfl (lv_at hl 2 rfl) ?_
        refine lv_iconst (v := 1) hx hb dX4_readUnit_90 kc_iconst_1 ?_
        as_aux_lemma =>
        refine lv_iadd hx hb dX4_readUnit_91 ?_
        refine lv_topi (fun x_127 ex_127 => ?_)
        obtain rfl : x_127 = 2 := ex_127.trans (by decide +kernel)
        refine lv_iconst (v := 0) hx hb dX4_readUnit_92 kc_iconst_0 ?_
        obtain ⟨hPc, hDc, hFc, hqc⟩ := cl_cut (wc := (wd_c_X4_readUnit_3 h1 h1_0 h1_f1 x_90 h1_f3 h1_0 h1_0k h1_0c h0 h0_0 h0_f1 h0_2 h0_0 h0_0k h0_0c)) hP hD hS hA [0, 1, 2, 3] (by decide +kernel) rfl
        have hKc := hK.sub (tys' := [(h1_0k, .int), (h0_0k, .int)]) [0, 1] rfl
        have hrv := va_recv hKc hPc (ci := 4) (q0 := 2) rfl rfl
        refine va_callv (va_runV (As := [.ref h1, .int 2, .int 0]) (rest := []) ⟨hx, hb, hml, hown, hts⟩ (c_X4_readUnit_3 l dC dI H.size h0 h1 h1_0 h1_f1 x_90 h1_f3 h1_0k h1_0c h0_0 h0_f1 h0_2 h0_0k h0_0c ts4 tv4 (RG_w h_73 (by decide +kernel)) (RG_w h_96 (by decide +kernel)) (RG_w h_98 (by decide +kernel)) a_h1_0c g_h0_f1) (cwV 3 hts gf_c_X4_readUnit_2_c_X4_readUnit_3 rfl rfl rfl mdV_X4_readUnit ⟨Nat.le_of_ble_eq_true rfl, Nat.le_of_ble_eq_true rfl⟩) ⟨fun a U g mk q => by obtain ⟨q0, q1, qP, qK, qD, qE0, qE1, qE2, qE3, qE4, qE5⟩ := q; exact ⟨q0, q1, qP, va_K.moved (u := U) (U := U.calling g mk a) (Vm.Alike.refl U.vm) qK, qD, vk_R.same rfl qE0, va_Z.moved (u := U) (U := U.calling g mk a) (Vm.Alike.refl U.vm) qE1, va_OF.moved (u := U) (U := U.calling g mk a) (Vm.Alike.refl U.vm) qE2, va_O.moved (u := U) (U := U.calling g mk a) (Vm.Alike.refl U.vm) qE3, va_OF.moved (u := U) (U := U.calling g mk a) (Vm.Alike.refl U.vm) qE4, va_T.moved (u := U) (U := U.calling g mk a) (Vm.Alike.refl U.vm) qE5⟩, hrv, fun U hU hW => ⟨rfl, by rw [hU], by rw [hU]; exact hPc, va_K.moved hW.alike hKc, hDc.weaken (fun _ _ _ _ => trivial), vk_R.warm hW hE_32, va_Z.moved hW.alike (by rw [hU]; exact (hE_10.kept hS.2.1).narrow hFc), va_OF.moved hW.alike (by rw [hU]; exact (hE_34.kept hS.2.1).narrow hFc), va_O.moved hW.alike (by rw [hU]; exact (hE_33.kept hS.2.1).narrow hFc), va_OF.moved hW.alike (by rw [hU]; exact (hE_35.kept hS.2.1).narrow hFc), va_T.moved hW.alike (by rw [hU]; exact (hE_36.kept hS.2.1).narrow hFc)⟩⟩ rfl rfl hl.1 rfl (lv_room (Nat.le_of_ble_eq_true rfl)) dX4_readUnit_93 ⟨Nat.le_of_ble_eq_true rfl, Nat.le_of_ble_eq_true rfl⟩) hS (fun q _ h => hFc q h) hFc (fun u t H1 locs ht hvm hw hB hz1 hk1 hS => ?_)
        obtain ⟨x_129, x_130, x_131, w_132⟩ := u
        obtain ⟨hP1, hK1, hD1⟩ := hB
        rw [ht] at hP1
        obtain ⟨hP, hD⟩ := cl_put (w1 := (wd_c_X4_readUnit_3 h1 h1_0 h1_f1 x_129 x_130 h1_0 h1_0k h1_0c h0 h0_0 x_131 h0_2 h0_0 h0_0k w_132)) (nw := (wd_c_X4_readUnit_2 h1 h1_0 h1_f1 x_129 x_130 h1_0 h1_0k h1_0c h0 h0_0 x_131 h0_2 h0_0 h0_0k w_132)) hP hD [0, 1, 2, 3] [4, 5, 6, 7] 4 rfl hqc (by decide +kernel) rfl hk1 hFc hP1 hD1
        generalize H1 = H at hP hS ⊢
        as_aux_lemma =>
        rcases hw with ⟨h_133, h_134, h_135, h_136⟩
        have h_136 : (x_129, x_130, x_131, w_132) = _ := h_136
        replace hEX := hEX.trans (exc4_eq h_136)
        refine lv_aload_n hx hb dX4_readUnit_96 rfl (lv_at hl 0 rfl) ?_
        refine lv_bipush (v := (-33)) hx hb dX4_readUnit_97 kc_bipush_m33 ?_
        obtain ⟨hPc, hDc, hFc, hqc⟩ := cl_cut (wc := (wd_c_X4_emit h0 h0_0 x_131 h0_2 h0_0 h0_0k w_132)) hP hD hS hA [2, 3] (by decide +kernel) rfl
        have hKc := hK.sub (tys' := [(h0_0k, .int)]) [1] rfl
        have hrv := va_recv hKc hPc (ci := 4) (q0 := 0) rfl rfl
        refine va_callv (va_runV (As := [.int (-33)]) (rest := []) ⟨hx, hb, hml, hown, hts⟩ (c_X4_emit l dC dI H.size h0 (-33) h0_0 x_131 h0_2 h0_0k w_132 h_135) (cwV 1 hts gf_c_X4_readUnit_2_c_X4_emit rfl rfl rfl mdV_X4_emit ⟨Nat.le_of_ble_eq_true rfl, Nat.le_of_ble_eq_true rfl⟩) ⟨fun a U g mk q => by obtain ⟨q0, q1, qP, qK, qD⟩ := q; exact ⟨q0, q1, qP, va_K.moved (u := U) (U := U.calling g mk a) (Vm.Alike.refl U.vm) qK, qD⟩, hrv, fun U hU hW => ⟨rfl, by rw [hU], by rw [hU]; exact hPc, va_K.moved hW.alike hKc, hDc.weaken (fun _ _ _ _ => trivial)⟩⟩ rfl rfl hl.1 rfl (lv_room (Nat.le_of_ble_eq_true rfl)) dX4_readUnit_99 ⟨Nat.le_of_ble_eq_true rfl, Nat.le_of_ble_eq_true rfl⟩) hS (fun q _ h => hFc q h) hFc (fun u t H1 locs ht hvm hw hB hz1 hk1 hS => ?_)
        obtain ⟨x_138, w_139⟩ := u
        obtain ⟨hP1, hK1, hD1⟩ := hB
        rw [ht] at hP1
        obtain ⟨hP, hD⟩ := cl_put (w1 := (wd_c_X4_emit h0 h0_0 x_138 h0_2 h0_0 h0_0k w_139)) (nw := (wd_c_X4_readUnit_2 h1 h1_0 h1_f1 x_129 x_130 h1_0 h1_0k h1_0c h0 h0_0 x_138 h0_2 h0_0 h0_0k w_139)) hP hD [2, 3] [0, 1, 4, 5] 4 rfl hqc (by decide +kernel) rfl hk1 hFc hP1 hD1
        generalize H1 = H at hP hS ⊢
        as_aux_lemma =>
        rcases hw with ⟨h_140, h_141⟩
        have h_141 : (x_138, w_139) = _ := h_141
        replace hEX := hEX.trans (exc2_eq h_141)
        refine lv_goto (tgt := 126) hx hb dX4_readUnit_102 rfl ?_
        have hK9 := hK.sub (tys' := []) [] rfl
        exact W.vret hx hb hr (fun t ht hW => ⟨⟨(x_129, x_130, x_138, w_139), rfl, ⟨h_133, h_134, (RG_w h_140 (by decide +kernel)), (hR.trans hEX).symm⟩, by rw [ht]; exact hP, va_K.moved hW.alike hK9, hD⟩, hS.F ht⟩) hS.2.2 dX4_readUnit_126
noncomputable def wd_c_X4_readCondition_1 (a0 : Nat) (a1 : Nat) (a2 : Int32) (a3 : Int32) (a4 : Int32) (a5 : Nat) (a6 : ClassId) (a7 : Nat → Int32) (a8 : Nat) (a9 : Nat) (a10 : Int32) (a11 : Nat) (a12 : Nat) (a13 : ClassId) (a14 : Nat → Int32) : va_W := [(a0, .inr (9, [.ref a1, .int a2, .int a3, .int a4])), (a5, .inl (a6, 240, .inl a7)), (a8, .inr (4, [.ref a9, .int a10, .ref a11])), (a12, .inl (a13, 240, .inl a14))]
noncomputable def wf_c_X4_readCondition_1 : List Cond := List.cons (.code yX4_readCondition cX4_readCondition 7 none) (@HAppend.hAppend (List Cond) (List Cond) (List Cond) _ (@HAppend.hAppend (List Cond) (List Cond) (List Cond) _ [.methodLink RX4 72 yX9_isRight, .instanceMethod yX9_isRight, .selects RX9 yX9_isRight yX9_isRight, .initialized RX9, .code yX9_isRight cX9_isRight 1 (some .boolean), .fieldLink RX9 15 "BuoyVote$Tape" "wrong" "I", .methodLink RX4 76 yX4_readUnit, .instanceMethod yX4_readUnit, .selects RX4 yX4_readUnit yX4_readUnit, .initialized RX4, .code yX4_readUnit cX4_readUnit 5 none, .methodLink RX4 41 yX9_peek, .instanceMethod yX9_peek, .selects RX9 yX9_peek yX9_peek, .code yX9_peek cX9_peek 1 (some .int), .fieldLink RX9 22 "BuoyVote$Tape" "at" "I", .fieldLink RX9 19 "BuoyVote$Tape" "length" "I", .fieldLink RX9 11 "BuoyVote$Tape" "bytes" "[I", .methodLink RX4 45 yX4_startsUnit, .static yX4_startsUnit, .code yX4_startsUnit cX4_startsUnit 1 (some .boolean), .methodLink RX4 63 yX9_take, .instanceMethod yX9_take, .selects RX9 yX9_take yX9_take, .code yX9_take cX9_take 2 (some .boolean), .methodLink RX9 29 yX9_peek, .methodLink RX4 37 yX9_expect, .instanceMethod yX9_expect, .selects RX9 yX9_expect yX9_expect, .code yX9_expect cX9_expect 2 none, .methodLink RX9 25 yX9_refuse, .instanceMethod yX9_refuse, .selects RX9 yX9_refuse yX9_refuse, .code yX9_refuse cX9_refuse 2 none, .methodLink RX4 56 yX4_readCondition, .instanceMethod yX4_readCondition, .selects RX4 yX4_readCondition yX4_readCondition, .methodLink RX4 82 yX9_refuseHere, .instanceMethod yX9_refuseHere, .selects RX9 yX9_refuseHere yX9_refuseHere, .code yX9_refuseHere cX9_refuseHere 1 none, .methodLink RX4 49 yX4_readSum, .instanceMethod yX4_readSum, .selects RX4 yX4_readSum yX4_readSum, .code yX4_readSum cX4_readSum 6 none, .methodLink RX4 85 yX4_readAtom, .instanceMethod yX4_readAtom, .selects RX4 yX4_readAtom yX4_readAtom, .code yX4_readAtom cX4_readAtom 6 none, .methodLink RX4 93 yJ0_indexOf_0f7a4, .instanceMethod yJ0_indexOf_0f7a4, .selects RJ0 yJ0_indexOf_0f7a4 yJ0_indexOf_0f7a4, .initialized RJ0, .code yJ0_indexOf_0f7a4 cJ0_indexOf_0f7a4 2 (some .int), .methodLink RJ0 633 yJ0_indexOf_7cf53, .instanceMethod yJ0_indexOf_7cf53, .selects RJ0 yJ0_indexOf_7cf53 yJ0_indexOf_7cf53, .code yJ0_indexOf_7cf53 cJ0_indexOf_7cf53 3 (some .int), .methodLink RJ0 492 yJ0_isLatin1_aae02, .instanceMethod yJ0_isLatin1_aae02, .selects RJ0 yJ0_isLatin1_aae02 yJ0_isLatin1_aae02, .code yJ0_isLatin1_aae02 cJ0_isLatin1_aae02 1 (some .boolean), .fieldLink RJ0 38 "java/lang/String" "COMPACT_STRINGS" "Z", .fieldLink RJ0 15 "java/lang/String" "coder" "B", .fieldLink RJ0 9 "java/lang/String" "value" "[B", .methodLink RJ0 505 yJ0_length_8abf5, .instanceMethod yJ0_length_8abf5, .selects RJ0 yJ0_length_8abf5 yJ0_length_8abf5, .code yJ0_length_8abf5 cJ0_length_8abf5 1 (some .int), .methodLink RJ0 335 yJ0_coder_7d493, .instanceMethod yJ0_coder_7d493, .selects RJ0 yJ0_coder_7d493 yJ0_coder_7d493, .code yJ0_coder_7d493 cJ0_coder_7d493 1 (some .byte), .methodLink RJ0 637 yJ1_indexOf_4cfef, .static yJ1_indexOf_4cfef, .initialized RJ1, .code yJ1_indexOf_4cfef cJ1_indexOf_4cfef 4 (some .int), .methodLink RJ1 88 yJ1_canEncode_9a6ad, .static yJ1_canEncode_9a6ad, .code yJ1_canEncode_9a6ad cJ1_canEncode_9a6ad 1 (some .boolean), .methodLink RJ1 92 Lib.Math.max.name, .static Lib.Math.max.name, .initialized "java/lang/Math", .code Lib.Math.max.name Lib.Math.max.code 2 (some .int), .methodLink RJ1 38 Lib.Math.min.name, .static Lib.Math.min.name, .code Lib.Math.min.name Lib.Math.min.code 2 (some .int), .methodLink RJ1 95 yJ1_indexOfChar_4cfef, .static yJ1_indexOfChar_4cfef, .code yJ1_indexOfChar_4cfef cJ1_indexOfChar_4cfef 6 (some .int), .methodLink RX4 99 yX9_number, .instanceMethod yX9_number, .selects RX9 yX9_number yX9_number, .code yX9_number cX9_number 4 (some .int), .methodLink RX4 79 yX9_skip, .instanceMethod yX9_skip, .selects RX9 yX9_skip yX9_skip, .code yX9_skip cX9_skip 1 none, .methodLink RX4 60 yX4_emit, .instanceMethod yX4_emit, .selects RX4 yX4_emit yX4_emit, .code yX4_emit cX4_emit 2 none, .fieldLink RX4 20 "BuoyVote$Law" "length" "I", .fieldLink RX4 11 "BuoyVote$Law" "code" "[I", .methodLink RX4 88 yX9_takeEither, .instanceMethod yX9_takeEither, .selects RX9 yX9_takeEither yX9_takeEither, .code yX9_takeEither cX9_takeEither 4 (some .int), .methodLink RX4 53 yX4_isComparison, .static yX4_isComparison, .code yX4_isComparison cX4_isComparison 1 (some .boolean)] wsX90) wsX40)
theorem iw_c_X4_readCondition_1_X9 : ∀ w ∈ wsX90, w ∈ wf_c_X4_readCondition_1 := fun w h => List.mem_cons_of_mem _ (List.mem_append_left _ (List.mem_append_right _ h))
theorem iw_c_X4_readCondition_1_X4 : ∀ w ∈ wsX40, w ∈ wf_c_X4_readCondition_1 := fun w h => List.mem_cons_of_mem _ (List.mem_append_right _ h)
set_option maxRecDepth 20000 in
theorem gf_c_X4_readCondition_1_c_X9_take_1 : GoodIn wf_c_X4_readCondition_1 (wsV RX4 63 RX9 yX9_take wf_c_X9_take_1) := goodIn_app (gi_l [22, 23, 24, 4] rfl rfl) (gi_cons (j := 25) rfl rfl (goodIn_app (gi_l [6, 26, 13, 14, 4, 15, 16, 17, 18] rfl rfl) (goodIn_sub iw_c_X4_readCondition_1_X9 gw_X9)))
set_option maxRecDepth 20000 in
theorem gf_c_X4_readCondition_1_c_X9_take : GoodIn wf_c_X4_readCondition_1 (wsV RX4 63 RX9 yX9_take wf_c_X9_take) := goodIn_app (gi_l [22, 23, 24, 4] rfl rfl) (gi_cons (j := 25) rfl rfl (goodIn_app (gi_l [6, 26, 13, 14, 4, 15, 16, 17, 18] rfl rfl) (goodIn_sub iw_c_X4_readCondition_1_X9 gw_X9)))
set_option maxRecDepth 20000 in
theorem gf_c_X4_readCondition_1_c_X4_emit : GoodIn wf_c_X4_readCondition_1 (wsV RX4 60 RX4 yX4_emit wf_c_X4_emit) := goodIn_app (gi_l [99, 100, 101, 10] rfl rfl) (gi_cons (j := 102) rfl rfl (goodIn_app (gi_l [103, 104] rfl rfl) (goodIn_sub iw_c_X4_readCondition_1_X4 gw_X4)))
set_option maxRecDepth 20000 in
theorem gf_c_X4_readCondition_1_c_X4_readUnit_2 : GoodIn wf_c_X4_readCondition_1 (wsV RX4 76 RX4 yX4_readUnit wf_c_X4_readUnit_2) := goodIn_app (gi_l [7, 8, 9, 10] rfl rfl) (gi_cons (j := 11) rfl rfl (goodIn_app (goodIn_app (gi_l [12, 13, 14, 4, 15, 16, 17, 18, 19, 20, 10, 21, 22, 23, 24, 25, 6, 26, 27, 28, 29, 30, 31, 32, 33, 34, 35, 36, 37, 0, 1, 2, 3, 5, 7, 8, 9, 38, 39, 40, 41, 42, 43, 44, 45, 46, 47, 48, 49, 50, 51, 52, 53, 54, 55, 56, 57, 58, 59, 60, 61, 62, 63, 64, 65, 66, 67, 68, 69, 70, 71, 72, 73, 74, 75, 76, 77, 78, 79, 80, 81, 82, 83, 84, 85, 86, 87, 88, 89, 90, 91, 92, 93, 94, 95, 96, 97, 98, 99, 100, 101, 102, 103, 104, 105, 106, 107, 108, 109, 110, 111] rfl rfl) (goodIn_sub iw_c_X4_readCondition_1_X9 gw_X9)) (goodIn_sub iw_c_X4_readCondition_1_X4 gw_X4)))
set_option maxRecDepth 20000 in
theorem gf_c_X4_readCondition_1_c_X9_isRight : GoodIn wf_c_X4_readCondition_1 (wsV RX4 72 RX9 yX9_isRight wf_c_X9_isRight) := goodIn_app (gi_l [1, 2, 3, 4] rfl rfl) (gi_cons (j := 5) rfl rfl (goodIn_app (gi_l [6] rfl rfl) (goodIn_sub iw_c_X4_readCondition_1_X9 gw_X9)))
set_option maxHeartbeats 4000000 in
set_option maxRecDepth 100000 in
theorem c_X4_readCondition_1 (l : Launch) (dC : Nat → ClassId) (dI : Nat → Nat → Nat) (sz : Nat) (h0 : Nat) (h1 : Nat) (h1_0 : Nat) (h1_f1 : Int32) (h1_f2 : Int32) (h1_f3 : Int32) (h1_0k : ClassId) (h1_0c : Nat → Int32) (h0_0 : Nat) (h0_f1 : Int32) (h0_2 : Nat) (h0_0k : ClassId) (h0_0c : Nat → Int32) (ts4 : Nat) (tv4 : Nat) (g_h1_f1 : RG h1_f1 0 240) (g_h1_f2 : RG h1_f2 0 240) (g_h1_f3 : RG h1_f3 (-1) 240) (a_h1_0c : AI h1_0c 0 255) (g_h0_f1 : RG h0_f1 0 240) : Met l yX4_readCondition wf_c_X4_readCondition_1 ({ frames := 17, cells := 0, slots := 0, locals := 415 }) (va_Pc [.ref h0, .ref h1, .int 1, .int 0] (fun U => U.heap.size = sz ∧ va_P (dC, dI) vwCl (wd_c_X4_readCondition_1 h1 h1_0 h1_f1 h1_f2 h1_f3 h1_0 h1_0k h1_0c h0 h0_0 h0_f1 h0_2 h0_0 h0_0k h0_0c) U.heap ∧ va_K (dC, dI) vwCl [(h1_0k, .int), (h0_0k, .int)] U ∧ va_D (fun _ => True) (wd_c_X4_readCondition_1 h1 h1_0 h1_f1 h1_f2 h1_f3 h1_0 h1_0k h1_0c h0 h0_0 h0_f1 h0_2 h0_0 h0_0k h0_0c) ∧ vk_R RX4 91 "vlrdph" ts4 U ∧ va_Z "java/lang/String" "COMPACT_STRINGS" "Z" (.int 1) (va_A (wd_c_X4_readCondition_1 h1 h1_0 h1_f1 h1_f2 h1_f3 h1_0 h1_0k h1_0c h0 h0_0 h0_f1 h0_2 h0_0 h0_0k h0_0c) sz) U U.heap ∧ va_OF "java/lang/String" "coder" "B" (.int 0) ts4 (va_A (wd_c_X4_readCondition_1 h1 h1_0 h1_f1 h1_f2 h1_f3 h1_0 h1_0k h1_0c h0 h0_0 h0_f1 h0_2 h0_0 h0_0k h0_0c) sz) U U.heap ∧ va_O "java/lang/String" ts4 (va_A (wd_c_X4_readCondition_1 h1 h1_0 h1_f1 h1_f2 h1_f3 h1_0 h1_0k h1_0c h0 h0_0 h0_f1 h0_2 h0_0 h0_0k h0_0c) sz) U U.heap ∧ va_OF "java/lang/String" "value" "[B" (.ref tv4) ts4 (va_A (wd_c_X4_readCondition_1 h1 h1_0 h1_f1 h1_f2 h1_f3 h1_0 h1_0k h1_0c h0 h0_0 h0_f1 h0_2 h0_0 h0_0k h0_0c) sz) U U.heap ∧ va_T .byte tv4 6 (fun j => .int ([118, 108, 114, 100, 112, 104].getD j 0)) (va_A (wd_c_X4_readCondition_1 h1 h1_0 h1_f1 h1_f2 h1_f3 h1_0 h1_0k h1_0c h0 h0_0 h0_f1 h0_2 h0_0 h0_0k h0_0c) sz) U U.heap)) (va_Qv (fun (u : (Int32) × (Int32) × (Int32) × (Nat → Int32)) => (RG u.1 0 240 ∧ RG u.2.1 (-1) 240 ∧ RG u.2.2.1 0 240 ∧ (u.1, u.2.1, u.2.2.1, u.2.2.2) = fx_c_X4_readCondition_1 h1_f1 h1_f2 h1_f3 h1_0c h0_f1 h0_0c)) (fun (u : (Int32) × (Int32) × (Int32) × (Nat → Int32)) t => va_P (dC, dI) vwCl (wd_c_X4_readCondition_1 h1 h1_0 h1_f1 (u.1) (u.2.1) h1_0 h1_0k h1_0c h0 h0_0 (u.2.2.1) h0_2 h0_0 h0_0k (u.2.2.2)) t.heap ∧ va_K (dC, dI) vwCl [] t ∧ va_D (va_A (wd_c_X4_readCondition_1 h1 h1_0 h1_f1 h1_f2 h1_f3 h1_0 h1_0k h1_0c h0 h0_0 h0_f1 h0_2 h0_0 h0_0k h0_0c) sz) (wd_c_X4_readCondition_1 h1 h1_0 h1_f1 (u.1) (u.2.1) h1_0 h1_0k h1_0c h0 h0_0 (u.2.2.1) h0_2 h0_0 h0_0k (u.2.2.2))) (va_A (wd_c_X4_readCondition_1 h1 h1_0 h1_f1 h1_f2 h1_f3 h1_0 h1_0k h1_0c h0 h0_0 h0_f1 h0_2 h0_0 h0_0k h0_0c) sz)) 0 0 (va_A (wd_c_X4_readCondition_1 h1 h1_0 h1_f1 h1_f2 h1_f3 h1_0 h1_0k h1_0c h0 h0_0 h0_f1 h0_2 h0_0 h0_0k h0_0c) sz) := by
  refine Met.ofW (cc := cX4_readCondition) (maxL := 7) (ret := none) (by decide +kernel) rfl ?_
  intro p e s m args below meth c s₁ B hml hv
  obtain ⟨rfl, hsz, hP, hK, hD0, hE_32, hE_10, hE_34, hE_33, hE_35, hE_36⟩ := hv
  have hx := B.exec
  have hb := B.bytes
  have hr := B.returns
  have hts := atoms_spec (ws := wf_c_X4_readCondition_1) B.pre
  have hown : s.vm.findClass RX4 = some m.cls := findClass_of_methodNamed B.named
  have hlocks := B.notSynchronized
  subst hsz
  have hD := hD0.self (sz := s.heap.size)
  generalize hAe : va_A (wd_c_X4_readCondition_1 h1 h1_0 h1_f1 h1_f2 h1_f3 h1_0 h1_0k h1_0c h0 h0_0 h0_f1 h0_2 h0_0 h0_0k h0_0c) s.heap.size = A at hD hE_10 hE_34 hE_33 hE_35 hE_36 ⊢
  have hA : ∀ q : Nat, s.heap.size ≤ q → A q := fun q h => by rw [← hAe]; exact Or.inr h
  have hP : va_P (dC, dI) vwCl (wd_c_X4_readCondition_1 h1 h1_0 h1_f1 h1_f2 h1_f3 h1_0 h1_0k h1_0c h0 h0_0 h0_f1 h0_2 h0_0 h0_0k h0_0c) s.heap := hP
  have hl := lv_entry ([.ref h0, .ref h1, .int 1, .int 0]) (n := 7) (Nat.le_of_ble_eq_true rfl)
  rw [lg_entry_eq]
  generalize (lg_sl ([.ref h0, .ref h1, .int 1, .int 0]) ++ List.replicate (7 - (lg_sl ([.ref h0, .ref h1, .int 1, .int 0])).length) Slot.unset).toArray = ls at hl ⊢
  have hl : lv_has ls 7 [(0, .ref h0), (1, .ref h1), (2, .int 1), (3, .int 0)] := hl
  obtain ⟨H, hHe⟩ : ∃ H : Heap, s.heap = H := ⟨_, rfl⟩
  have hS : va_S A s.heap H [] := by rw [hHe]; exact va_S.rf
  have hP : va_P (dC, dI) vwCl (wd_c_X4_readCondition_1 h1 h1_0 h1_f1 h1_f2 h1_f3 h1_0 h1_0k h1_0c h0 h0_0 h0_f1 h0_2 h0_0 h0_0k h0_0c) H := by rw [← hHe]; exact hP
  rw [hHe]
  obtain ⟨RES, hR⟩ : ∃ z, fx_c_X4_readCondition_1 h1_f1 h1_f2 h1_f3 h1_0c h0_f1 h0_0c = z := ⟨_, rfl⟩
  have hEX : RES = fx_c_X4_readCondition_1 h1_f1 h1_f2 h1_f3 h1_0c h0_f1 h0_0c := hR.symm
  refine wj (fun G hG hU => ?_)
  as_aux_lemma =>
  have J9 : ∀ (n9 : Nat) (j9_l6 : Int32) (j9_l5 : Int32) (j9_l4 : Int32) (j9_h1_f2 : Int32) (j9_h1_f3 : Int32) (j9_h0_f1 : Int32) (j9_h0_0c : Nat → Int32) (hM9 : MU j9_l6 < n9) (g_h0_f1 : RG h0_f1 0 240) (g_h1_f1 : RG h1_f1 0 240) (g_h1_f2 : RG h1_f2 0 240) (g_h1_f3 : RG h1_f3 (-1) 240) (g_j9_h0_f1 : RG j9_h0_f1 0 240) (g_j9_h1_f2 : RG j9_h1_f2 0 240) (g_j9_h1_f3 : RG j9_h1_f3 (-1) 240) (g_j9_l4 : RG j9_l4 0 1) (g_j9_l5 : RG j9_l5 0 1) (g_j9_l6 : RG j9_l6 0 240) (hEX : RES = fx_c_X4_readCondition_1_p9 h1_f1 h1_0c n9 j9_l6 j9_l5 j9_l4 j9_h1_f2 j9_h1_f3 j9_h0_f1 j9_h0_0c) (H : Heap) (locs : List Loc) (ls : Array Slot) (hP : va_P (dC, dI) vwCl (wd_c_X4_readCondition_1 h1 h1_0 h1_f1 j9_h1_f2 j9_h1_f3 h1_0 h1_0k h1_0c h0 h0_0 j9_h0_f1 h0_2 h0_0 h0_0k j9_h0_0c) H) (hD : va_D A (wd_c_X4_readCondition_1 h1 h1_0 h1_f1 j9_h1_f2 j9_h1_f3 h1_0 h1_0k h1_0c h0 h0_0 j9_h0_f1 h0_2 h0_0 h0_0k j9_h0_0c)) (hS : va_S A s.heap H locs) (hl : lv_has ls 7 [(6, .int j9_l6), (5, .int j9_l5), (4, .int j9_l4), (0, .ref h0), (1, .ref h1), (2, .int 1), (3, .int 0)]), G H locs (F0 m 9 ls []) := by
    as_aux_lemma =>
    intro n9
    induction n9 with
    | zero => intros; exact absurd (by assumption) (Nat.not_lt_zero _)
    | succ n9 ih9 =>
      intro j9_l6 j9_l5 j9_l4 j9_h1_f2 j9_h1_f3 j9_h0_f1 j9_h0_0c hM9 g_h0_f1 g_h1_f1 g_h1_f2 g_h1_f3 g_j9_h0_f1 g_j9_h1_f2 g_j9_h1_f3 g_j9_l4 g_j9_l5 g_j9_l6 hEX H locs ls hP hD hS hl
      have J93 : ∀ (j93_l4 : Int32) (j93_l5 : Int32) (j93_h1_f2 : Int32) (j93_h1_f3 : Int32) (j93_h0_f1 : Int32) (j93_h0_0c : Nat → Int32) (g_h0_f1 : RG h0_f1 0 240) (g_h1_f1 : RG h1_f1 1 240) (g_h1_f2 : RG h1_f2 0 240) (g_h1_f3 : RG h1_f3 (-1) 240) (g_j93_h0_f1 : RG j93_h0_f1 0 240) (g_j93_h1_f2 : RG j93_h1_f2 1 240) (g_j93_h1_f3 : RG j93_h1_f3 (-1) (-1)) (g_j93_l4 : RG j93_l4 0 1) (g_j93_l5 : RG j93_l5 0 1) (g_j9_h0_f1 : RG j9_h0_f1 0 240) (g_j9_h1_f2 : RG j9_h1_f2 0 240) (g_j9_h1_f3 : RG j9_h1_f3 (-1) (-1)) (g_j9_l4 : RG j9_l4 0 1) (g_j9_l5 : RG j9_l5 0 1) (g_j9_l6 : RG j9_l6 0 239) (hEX : RES = fx_c_X4_readCondition_1_p93 j9_l6 (fx_c_X4_readCondition_1_p9 h1_f1 h1_0c n9) j93_l4 j93_l5 j93_h1_f2 j93_h1_f3 j93_h0_f1 j93_h0_0c) (H : Heap) (locs : List Loc) (ls : Array Slot) (hP : va_P (dC, dI) vwCl (wd_c_X4_readCondition_1 h1 h1_0 h1_f1 j93_h1_f2 j93_h1_f3 h1_0 h1_0k h1_0c h0 h0_0 j93_h0_f1 h0_2 h0_0 h0_0k j93_h0_0c) H) (hD : va_D A (wd_c_X4_readCondition_1 h1 h1_0 h1_f1 j93_h1_f2 j93_h1_f3 h1_0 h1_0k h1_0c h0 h0_0 j93_h0_f1 h0_2 h0_0 h0_0k j93_h0_0c)) (hS : va_S A s.heap H locs) (hl : lv_has ls 7 [(4, .int j93_l4), (6, .int j9_l6), (5, .int j93_l5), (0, .ref h0), (1, .ref h1), (2, .int 1), (3, .int 0)]), G H locs (F0 m 93 ls []) := by
        as_aux_lemma =>
        intro j93_l4 j93_l5 j93_h1_f2 j93_h1_f3 j93_h0_f1 j93_h0_0c g_h0_f1 g_h1_f1 g_h1_f2 g_h1_f3 g_j93_h0_f1 g_j93_h1_f2 g_j93_h1_f3 g_j93_l4 g_j93_l5 g_j9_h0_f1 g_j9_h1_f2 g_j9_h1_f3 g_j9_l4 g_j9_l5 g_j9_l6 hEX H locs ls hP hD hS hl
        refine hG _ _ _ ?_
        obtain ⟨x_1, ex_1⟩ : ∃ y : Int32, y = j9_l6 + 1 := ⟨_, rfl⟩
        have g_2 : RG x_1 1 240 := RG_add ex_1 g_j9_l6 (RG_k 1 1 rfl) (by decide +kernel)
        replace hEX := hEX.trans (exl_eq ex_1)
        refine lv_iinc (v := x_1) (lv' := [(6, .int x_1), (4, .int j93_l4), (5, .int j93_l5), (0, .ref h0), (1, .ref h1), (2, .int 1), (3, .int 0)]) hx hb dX4_readCondition_93 hl (k := 1) rfl (by rw [ex_1]; rfl) (Nat.le_of_ble_eq_true rfl) rfl (fun ls hl => ?_)
        refine lv_goto (tgt := 9) hx hb dX4_readCondition_96 rfl ?_
        exact hU _ _ _ (ih9 x_1 j93_l5 j93_l4 j93_h1_f2 j93_h1_f3 j93_h0_f1 j93_h0_0c (mu_s (MU_add ex_1 g_j9_l6 (q := 1) rfl (by decide +kernel)) hM9) g_h0_f1 (RG_w g_h1_f1 (by decide +kernel)) g_h1_f2 g_h1_f3 g_j93_h0_f1 (RG_w g_j93_h1_f2 (by decide +kernel)) (RG_w g_j93_h1_f3 (by decide +kernel)) g_j93_l4 g_j93_l5 (RG_w g_2 (by decide +kernel)) hEX _ _ _ hP hD hS (lv_sub hl [0, 2, 1, 3, 4, 5, 6] rfl))
      have J79 : ∀ (j79_h1_f2 : Int32) (j79_h1_f3 : Int32) (j79_h0_f1 : Int32) (j79_h0_0c : Nat → Int32) (g_h0_f1 : RG h0_f1 0 240) (g_h1_f1 : RG h1_f1 0 240) (g_h1_f2 : RG h1_f2 0 240) (g_h1_f3 : RG h1_f3 (-1) 240) (g_j79_h0_f1 : RG j79_h0_f1 0 240) (g_j79_h1_f2 : RG j79_h1_f2 0 240) (g_j79_h1_f3 : RG j79_h1_f3 (-1) 240) (g_j9_h0_f1 : RG j9_h0_f1 0 240) (g_j9_h1_f2 : RG j9_h1_f2 0 240) (g_j9_h1_f3 : RG j9_h1_f3 (-1) (-1)) (g_j9_l4 : RG j9_l4 0 1) (g_j9_l5 : RG j9_l5 0 1) (g_j9_l6 : RG j9_l6 0 239) (hEX : RES = fx_c_X4_readCondition_1_p79 h1_f1 h1_0c j9_l6 (fx_c_X4_readCondition_1_p9 h1_f1 h1_0c n9) j79_h1_f2 j79_h1_f3 j79_h0_f1 j79_h0_0c) (H : Heap) (locs : List Loc) (ls : Array Slot) (hP : va_P (dC, dI) vwCl (wd_c_X4_readCondition_1 h1 h1_0 h1_f1 j79_h1_f2 j79_h1_f3 h1_0 h1_0k h1_0c h0 h0_0 j79_h0_f1 h0_2 h0_0 h0_0k j79_h0_0c) H) (hD : va_D A (wd_c_X4_readCondition_1 h1 h1_0 h1_f1 j79_h1_f2 j79_h1_f3 h1_0 h1_0k h1_0c h0 h0_0 j79_h0_f1 h0_2 h0_0 h0_0k j79_h0_0c)) (hS : va_S A s.heap H locs) (hl : lv_has ls 7 [(4, .int 0), (6, .int j9_l6), (0, .ref h0), (1, .ref h1), (2, .int 1), (3, .int 0)]), G H locs (F0 m 79 ls []) := by
        as_aux_lemma =>
        intro j79_h1_f2 j79_h1_f3 j79_h0_f1 j79_h0_0c g_h0_f1 g_h1_f1 g_h1_f2 g_h1_f3 g_j79_h0_f1 g_j79_h1_f2 g_j79_h1_f3 g_j9_h0_f1 g_j9_h1_f2 g_j9_h1_f3 g_j9_l4 g_j9_l5 g_j9_l6 hEX H locs ls hP hD hS hl
        refine hG _ _ _ ?_
        refine lv_aload_n hx hb dX4_readCondition_79 rfl (lv_at hl 3 rfl) ?_
        refine lv_bipush (v := 124) hx hb dX4_readCondition_80 kc_bipush_124 ?_
        obtain ⟨hPc, hDc, hFc, hqc⟩ := cl_cut (wc := (wd_c_X9_take_1 h1 h1_0 h1_f1 j79_h1_f2 j79_h1_f3 h1_0 h1_0k h1_0c)) hP hD hS hA [0, 1] (by decide +kernel) rfl
        have hKc := hK.sub (tys' := [(h1_0k, .int)]) [0] rfl
        have hrv := va_recv hKc hPc (ci := 9) (q0 := 0) rfl rfl
        refine va_calli (va_runV (As := [.int 124]) (rest := []) ⟨hx, hb, hml, hown, hts⟩ (c_X9_take_1 l dC dI H.size h1 124 h1_0 h1_f1 j79_h1_f2 j79_h1_f3 h1_0k h1_0c (RG_w (RG_k 124 124 rfl) (by decide +kernel)) g_h1_f1 g_j79_h1_f2 g_j79_h1_f3 a_h1_0c) (cwV 1 hts gf_c_X4_readCondition_1_c_X9_take_1 rfl rfl rfl mdV_X9_take ⟨Nat.le_of_ble_eq_true rfl, Nat.le_of_ble_eq_true rfl⟩) ⟨fun a U g mk q => by obtain ⟨q0, q1, qP, qK, qD⟩ := q; exact ⟨q0, q1, qP, va_K.moved (u := U) (U := U.calling g mk a) (Vm.Alike.refl U.vm) qK, qD⟩, hrv, fun U hU hW => ⟨rfl, by rw [hU], by rw [hU]; exact hPc, va_K.moved hW.alike hKc, hDc.weaken (fun _ _ _ _ => trivial)⟩⟩ rfl rfl hl.1 rfl (lv_room (Nat.le_of_ble_eq_true rfl)) dX4_readCondition_82 ⟨Nat.le_of_ble_eq_true rfl, Nat.le_of_ble_eq_true rfl⟩) hS (fun q _ h => hFc q h) hFc (fun r_3 x_4 t H1 locs ht hvm hw hB hz1 hk1 hS => ?_)
        obtain ⟨hP1, hK1, hD1⟩ := hB
        rw [ht] at hP1
        obtain ⟨hP, hD⟩ := cl_put (w1 := (wd_c_X9_take_1 h1 h1_0 h1_f1 x_4 j79_h1_f3 h1_0 h1_0k h1_0c)) (nw := (wd_c_X4_readCondition_1 h1 h1_0 h1_f1 x_4 j79_h1_f3 h1_0 h1_0k h1_0c h0 h0_0 j79_h0_f1 h0_2 h0_0 h0_0k j79_h0_0c)) hP hD [0, 1] [4, 5, 2, 3] 4 rfl hqc (by decide +kernel) rfl hk1 hFc hP1 hD1
        generalize H1 = H at hP hS ⊢
        as_aux_lemma =>
        rcases hw with ⟨h_5, h_6, h_7, h_8⟩ | ⟨h_9, h_10, h_11, h_12, h_13, h_14⟩
        · have h_8 : (r_3, x_4) = _ := h_8
          replace hEX := hEX.trans (exc2_eq h_8)
          replace hEX := hEX.trans (if_pos (show r_3 = 0 from h_5))
          rw [h_5]
          refine lv_istore (lv' := [(5, .int 0), (4, .int 0), (6, .int j9_l6), (0, .ref h0), (1, .ref h1), (2, .int 1), (3, .int 0)]) hx hb dX4_readCondition_85 hl (Nat.le_of_ble_eq_true rfl) rfl (fun ls hl => ?_)
          refine lv_iload hx hb dX4_readCondition_87 (lv_at hl 0 rfl) ?_
          refine lv_if_ne (tgt := 93) hx hb dX4_readCondition_89 rfl (fun c_15 => absurd c_15 (by decide +kernel)) (fun c_15 => ?_)
          have hK9 := hK.sub (tys' := []) [] rfl
          exact W.vret hx hb hr (fun t ht hW => ⟨⟨(x_4, j79_h1_f3, j79_h0_f1, j79_h0_0c), rfl, ⟨h_6, g_j79_h1_f3, g_j79_h0_f1, (hR.trans hEX).symm⟩, by rw [ht]; exact hP, va_K.moved hW.alike hK9, hD⟩, hS.F ht⟩) hS.2.2 dX4_readCondition_92
        · have h_14 : (r_3, x_4) = _ := h_14
          replace hEX := hEX.trans (exc2_eq h_14)
          replace hEX := hEX.trans (if_neg (fun q9 : r_3 = 0 => absurd ((show r_3 = 1 from h_9).symm.trans q9) (by decide +kernel)))
          rw [h_9]
          refine lv_istore (lv' := [(5, .int 1), (4, .int 0), (6, .int j9_l6), (0, .ref h0), (1, .ref h1), (2, .int 1), (3, .int 0)]) hx hb dX4_readCondition_85 hl (Nat.le_of_ble_eq_true rfl) rfl (fun ls hl => ?_)
          as_aux_lemma =>
          refine lv_iload hx hb dX4_readCondition_87 (lv_at hl 0 rfl) ?_
          refine lv_if_ne (tgt := 93) hx hb dX4_readCondition_89 rfl (fun c_16 => ?_) (fun c_16 => absurd c_16 (by decide +kernel))
          exact hU _ _ _ (J93 0 1 x_4 j79_h1_f3 j79_h0_f1 j79_h0_0c g_h0_f1 h_11 g_h1_f2 g_h1_f3 g_j79_h0_f1 h_10 h_12 (RG_w (RG_k 0 0 rfl) (by decide +kernel)) (RG_w (RG_k 1 1 rfl) (by decide +kernel)) g_j9_h0_f1 g_j9_h1_f2 g_j9_h1_f3 g_j9_l4 g_j9_l5 g_j9_l6 hEX _ _ _ hP hD hS (lv_sub hl [1, 2, 0, 3, 4, 5, 6] rfl))
      have J55 : ∀ (j55_h1_f2 : Int32) (j55_h1_f3 : Int32) (j55_h0_f1 : Int32) (j55_h0_0c : Nat → Int32) (g_h0_f1 : RG h0_f1 0 240) (g_h1_f1 : RG h1_f1 0 240) (g_h1_f2 : RG h1_f2 0 240) (g_h1_f3 : RG h1_f3 (-1) 240) (g_j55_h0_f1 : RG j55_h0_f1 0 240) (g_j55_h1_f2 : RG j55_h1_f2 0 240) (g_j55_h1_f3 : RG j55_h1_f3 (-1) 240) (g_j9_h0_f1 : RG j9_h0_f1 0 240) (g_j9_h1_f2 : RG j9_h1_f2 0 240) (g_j9_h1_f3 : RG j9_h1_f3 (-1) (-1)) (g_j9_l4 : RG j9_l4 0 1) (g_j9_l5 : RG j9_l5 0 1) (g_j9_l6 : RG j9_l6 0 239) (hEX : RES = fx_c_X4_readCondition_1_p55 h1_f1 h1_0c j9_l6 j9_l5 (fx_c_X4_readCondition_1_p9 h1_f1 h1_0c n9) j55_h1_f2 j55_h1_f3 j55_h0_f1 j55_h0_0c) (H : Heap) (locs : List Loc) (ls : Array Slot) (hP : va_P (dC, dI) vwCl (wd_c_X4_readCondition_1 h1 h1_0 h1_f1 j55_h1_f2 j55_h1_f3 h1_0 h1_0k h1_0c h0 h0_0 j55_h0_f1 h0_2 h0_0 h0_0k j55_h0_0c) H) (hD : va_D A (wd_c_X4_readCondition_1 h1 h1_0 h1_f1 j55_h1_f2 j55_h1_f3 h1_0 h1_0k h1_0c h0 h0_0 j55_h0_f1 h0_2 h0_0 h0_0k j55_h0_0c)) (hS : va_S A s.heap H locs) (hl : lv_has ls 7 [(6, .int j9_l6), (5, .int j9_l5), (0, .ref h0), (1, .ref h1), (2, .int 1), (3, .int 0)]), G H locs (F0 m 55 ls []) := by
        as_aux_lemma =>
        intro j55_h1_f2 j55_h1_f3 j55_h0_f1 j55_h0_0c g_h0_f1 g_h1_f1 g_h1_f2 g_h1_f3 g_j55_h0_f1 g_j55_h1_f2 g_j55_h1_f3 g_j9_h0_f1 g_j9_h1_f2 g_j9_h1_f3 g_j9_l4 g_j9_l5 g_j9_l6 hEX H locs ls hP hD hS hl
        refine hG _ _ _ ?_
        refine lv_aload_n hx hb dX4_readCondition_55 rfl (lv_at hl 3 rfl) ?_
        refine lv_bipush (v := 38) hx hb dX4_readCondition_56 kc_bipush_38 ?_
        obtain ⟨hPc, hDc, hFc, hqc⟩ := cl_cut (wc := (wd_c_X9_take h1 h1_0 h1_f1 j55_h1_f2 j55_h1_f3 h1_0 h1_0k h1_0c)) hP hD hS hA [0, 1] (by decide +kernel) rfl
        have hKc := hK.sub (tys' := [(h1_0k, .int)]) [0] rfl
        have hrv := va_recv hKc hPc (ci := 9) (q0 := 0) rfl rfl
        refine va_calli (va_runV (As := [.int 38]) (rest := []) ⟨hx, hb, hml, hown, hts⟩ (c_X9_take l dC dI H.size h1 38 h1_0 h1_f1 j55_h1_f2 j55_h1_f3 h1_0k h1_0c (RG_w (RG_k 38 38 rfl) (by decide +kernel)) g_h1_f1 g_j55_h1_f2 g_j55_h1_f3 a_h1_0c) (cwV 1 hts gf_c_X4_readCondition_1_c_X9_take rfl rfl rfl mdV_X9_take ⟨Nat.le_of_ble_eq_true rfl, Nat.le_of_ble_eq_true rfl⟩) ⟨fun a U g mk q => by obtain ⟨q0, q1, qP, qK, qD⟩ := q; exact ⟨q0, q1, qP, va_K.moved (u := U) (U := U.calling g mk a) (Vm.Alike.refl U.vm) qK, qD⟩, hrv, fun U hU hW => ⟨rfl, by rw [hU], by rw [hU]; exact hPc, va_K.moved hW.alike hKc, hDc.weaken (fun _ _ _ _ => trivial)⟩⟩ rfl rfl hl.1 rfl (lv_room (Nat.le_of_ble_eq_true rfl)) dX4_readCondition_58 ⟨Nat.le_of_ble_eq_true rfl, Nat.le_of_ble_eq_true rfl⟩) hS (fun q _ h => hFc q h) hFc (fun r_17 x_18 t H1 locs ht hvm hw hB hz1 hk1 hS => ?_)
        obtain ⟨hP1, hK1, hD1⟩ := hB
        rw [ht] at hP1
        obtain ⟨hP, hD⟩ := cl_put (w1 := (wd_c_X9_take h1 h1_0 h1_f1 x_18 j55_h1_f3 h1_0 h1_0k h1_0c)) (nw := (wd_c_X4_readCondition_1 h1 h1_0 h1_f1 x_18 j55_h1_f3 h1_0 h1_0k h1_0c h0 h0_0 j55_h0_f1 h0_2 h0_0 h0_0k j55_h0_0c)) hP hD [0, 1] [4, 5, 2, 3] 4 rfl hqc (by decide +kernel) rfl hk1 hFc hP1 hD1
        generalize H1 = H at hP hS ⊢
        as_aux_lemma =>
        rcases hw with ⟨h_19, h_20, h_21, h_22⟩ | ⟨h_23, h_24, h_25, h_26, h_27, h_28⟩
        · have h_22 : (r_17, x_18) = _ := h_22
          replace hEX := hEX.trans (exc2_eq h_22)
          replace hEX := hEX.trans (if_pos (show r_17 = 0 from h_19))
          rw [h_19]
          refine lv_istore (lv' := [(4, .int 0), (6, .int j9_l6), (5, .int j9_l5), (0, .ref h0), (1, .ref h1), (2, .int 1), (3, .int 0)]) hx hb dX4_readCondition_61 hl (Nat.le_of_ble_eq_true rfl) rfl (fun ls hl => ?_)
          refine lv_iload hx hb dX4_readCondition_63 (lv_at hl 0 rfl) ?_
          refine lv_if_ne (tgt := 93) hx hb dX4_readCondition_65 rfl (fun c_29 => absurd c_29 (by decide +kernel)) (fun c_29 => ?_)
          refine lv_iload hx hb dX4_readCondition_68 (lv_at hl 2 rfl) ?_
          refine lv_if_eq (tgt := 79) hx hb dX4_readCondition_70 rfl (fun c_30 => ?_) (fun c_30 => ?_)
          · replace hEX := hEX.trans (if_pos c_30)
            have g_31 : RG j9_l5 0 0 := RG_eq1 g_j9_l5 (RG_k 0 0 rfl) c_30 (by decide +kernel)
            exact hU _ _ _ (J79 x_18 j55_h1_f3 j55_h0_f1 j55_h0_0c g_h0_f1 g_h1_f1 g_h1_f2 g_h1_f3 g_j55_h0_f1 h_20 g_j55_h1_f3 g_j9_h0_f1 g_j9_h1_f2 g_j9_h1_f3 g_j9_l4 (RG_w g_31 (by decide +kernel)) g_j9_l6 hEX _ _ _ hP hD hS (lv_sub hl [0, 1, 3, 4, 5, 6] rfl))
          · replace hEX := hEX.trans (if_neg c_30)
            have g_32 : RG j9_l5 1 1 := RG_ne1 g_j9_l5 (q := 0) rfl c_30 (by decide +kernel)
            refine lv_aload_n hx hb dX4_readCondition_73 rfl (lv_at hl 3 rfl) ?_
            as_aux_lemma =>
            refine lv_bipush (v := (-124)) hx hb dX4_readCondition_74 kc_bipush_m124 ?_
            obtain ⟨hPc, hDc, hFc, hqc⟩ := cl_cut (wc := (wd_c_X4_emit h0 h0_0 j55_h0_f1 h0_2 h0_0 h0_0k j55_h0_0c)) hP hD hS hA [2, 3] (by decide +kernel) rfl
            have hKc := hK.sub (tys' := [(h0_0k, .int)]) [1] rfl
            have hrv := va_recv hKc hPc (ci := 4) (q0 := 0) rfl rfl
            refine va_callv (va_runV (As := [.int (-124)]) (rest := []) ⟨hx, hb, hml, hown, hts⟩ (c_X4_emit l dC dI H.size h0 (-124) h0_0 j55_h0_f1 h0_2 h0_0k j55_h0_0c g_j55_h0_f1) (cwV 1 hts gf_c_X4_readCondition_1_c_X4_emit rfl rfl rfl mdV_X4_emit ⟨Nat.le_of_ble_eq_true rfl, Nat.le_of_ble_eq_true rfl⟩) ⟨fun a U g mk q => by obtain ⟨q0, q1, qP, qK, qD⟩ := q; exact ⟨q0, q1, qP, va_K.moved (u := U) (U := U.calling g mk a) (Vm.Alike.refl U.vm) qK, qD⟩, hrv, fun U hU hW => ⟨rfl, by rw [hU], by rw [hU]; exact hPc, va_K.moved hW.alike hKc, hDc.weaken (fun _ _ _ _ => trivial)⟩⟩ rfl rfl hl.1 rfl (lv_room (Nat.le_of_ble_eq_true rfl)) dX4_readCondition_76 ⟨Nat.le_of_ble_eq_true rfl, Nat.le_of_ble_eq_true rfl⟩) hS (fun q _ h => hFc q h) hFc (fun u t H1 locs ht hvm hw hB hz1 hk1 hS => ?_)
            obtain ⟨x_34, w_35⟩ := u
            obtain ⟨hP1, hK1, hD1⟩ := hB
            rw [ht] at hP1
            obtain ⟨hP, hD⟩ := cl_put (w1 := (wd_c_X4_emit h0 h0_0 x_34 h0_2 h0_0 h0_0k w_35)) (nw := (wd_c_X4_readCondition_1 h1 h1_0 h1_f1 x_18 j55_h1_f3 h1_0 h1_0k h1_0c h0 h0_0 x_34 h0_2 h0_0 h0_0k w_35)) hP hD [2, 3] [0, 1, 4, 5] 4 rfl hqc (by decide +kernel) rfl hk1 hFc hP1 hD1
            generalize H1 = H at hP hS ⊢
            as_aux_lemma =>
            rcases hw with ⟨h_36, h_37⟩
            have h_37 : (x_34, w_35) = _ := h_37
            replace hEX := hEX.trans (exc2_eq h_37)
            exact hU _ _ _ (J79 x_18 j55_h1_f3 x_34 w_35 g_h0_f1 g_h1_f1 g_h1_f2 g_h1_f3 (RG_w h_36 (by decide +kernel)) h_20 g_j55_h1_f3 g_j9_h0_f1 g_j9_h1_f2 g_j9_h1_f3 g_j9_l4 (RG_w g_32 (by decide +kernel)) g_j9_l6 hEX _ _ _ hP hD hS (lv_sub hl [0, 1, 3, 4, 5, 6] rfl))
        · have h_28 : (r_17, x_18) = _ := h_28
          replace hEX := hEX.trans (exc2_eq h_28)
          replace hEX := hEX.trans (if_neg (fun q9 : r_17 = 0 => absurd ((show r_17 = 1 from h_23).symm.trans q9) (by decide +kernel)))
          rw [h_23]
          refine lv_istore (lv' := [(4, .int 1), (6, .int j9_l6), (5, .int j9_l5), (0, .ref h0), (1, .ref h1), (2, .int 1), (3, .int 0)]) hx hb dX4_readCondition_61 hl (Nat.le_of_ble_eq_true rfl) rfl (fun ls hl => ?_)
          refine lv_iload hx hb dX4_readCondition_63 (lv_at hl 0 rfl) ?_
          refine lv_if_ne (tgt := 93) hx hb dX4_readCondition_65 rfl (fun c_38 => ?_) (fun c_38 => absurd c_38 (by decide +kernel))
          exact hU _ _ _ (J93 1 j9_l5 x_18 j55_h1_f3 j55_h0_f1 j55_h0_0c g_h0_f1 h_25 g_h1_f2 g_h1_f3 g_j55_h0_f1 h_24 h_26 (RG_w (RG_k 1 1 rfl) (by decide +kernel)) g_j9_l5 g_j9_h0_f1 g_j9_h1_f2 g_j9_h1_f3 g_j9_l4 g_j9_l5 g_j9_l6 hEX _ _ _ hP hD hS (lv_sub hl [0, 1, 2, 3, 4, 5, 6] rfl))
      have J41 : ∀ (g_h0_f1 : RG h0_f1 0 240) (g_h1_f1 : RG h1_f1 0 240) (g_h1_f2 : RG h1_f2 0 240) (g_h1_f3 : RG h1_f3 (-1) 240) (g_j9_h0_f1 : RG j9_h0_f1 0 240) (g_j9_h1_f2 : RG j9_h1_f2 0 240) (g_j9_h1_f3 : RG j9_h1_f3 (-1) (-1)) (g_j9_l4 : RG j9_l4 0 1) (g_j9_l5 : RG j9_l5 0 1) (g_j9_l6 : RG j9_l6 0 239) (hEX : RES = fx_c_X4_readCondition_1_p41 h1_f1 h1_0c j9_l6 j9_l5 j9_l4 j9_h1_f2 j9_h1_f3 j9_h0_f1 j9_h0_0c (fx_c_X4_readCondition_1_p9 h1_f1 h1_0c n9)) (H : Heap) (locs : List Loc) (ls : Array Slot) (hP : va_P (dC, dI) vwCl (wd_c_X4_readCondition_1 h1 h1_0 h1_f1 j9_h1_f2 j9_h1_f3 h1_0 h1_0k h1_0c h0 h0_0 j9_h0_f1 h0_2 h0_0 h0_0k j9_h0_0c) H) (hD : va_D A (wd_c_X4_readCondition_1 h1 h1_0 h1_f1 j9_h1_f2 j9_h1_f3 h1_0 h1_0k h1_0c h0 h0_0 j9_h0_f1 h0_2 h0_0 h0_0k j9_h0_0c)) (hS : va_S A s.heap H locs) (hl : lv_has ls 7 [(6, .int j9_l6), (5, .int j9_l5), (4, .int j9_l4), (0, .ref h0), (1, .ref h1), (2, .int 1), (3, .int 0)]), G H locs (F0 m 41 ls [.int 0, .int 1, .ref h1, .ref h0]) := by
        as_aux_lemma =>
        intro g_h0_f1 g_h1_f1 g_h1_f2 g_h1_f3 g_j9_h0_f1 g_j9_h1_f2 g_j9_h1_f3 g_j9_l4 g_j9_l5 g_j9_l6 hEX H locs ls hP hD hS hl
        refine hG _ _ _ ?_
        obtain ⟨hPc, hDc, hFc, hqc⟩ := cl_cut (wc := (wd_c_X4_readUnit_2 h1 h1_0 h1_f1 j9_h1_f2 j9_h1_f3 h1_0 h1_0k h1_0c h0 h0_0 j9_h0_f1 h0_2 h0_0 h0_0k j9_h0_0c)) hP hD hS hA [0, 1, 2, 3] (by decide +kernel) rfl
        have hKc := hK.sub (tys' := [(h1_0k, .int), (h0_0k, .int)]) [0, 1] rfl
        have hrv := va_recv hKc hPc (ci := 4) (q0 := 2) rfl rfl
        refine va_callv (va_runV (As := [.ref h1, .int 1, .int 0]) (rest := []) ⟨hx, hb, hml, hown, hts⟩ (c_X4_readUnit_2 l dC dI H.size h0 h1 h1_0 h1_f1 j9_h1_f2 j9_h1_f3 h1_0k h1_0c h0_0 j9_h0_f1 h0_2 h0_0k j9_h0_0c ts4 tv4 g_h1_f1 g_j9_h1_f2 (RG_w g_j9_h1_f3 (by decide +kernel)) a_h1_0c g_j9_h0_f1) (cwV 3 hts gf_c_X4_readCondition_1_c_X4_readUnit_2 rfl rfl rfl mdV_X4_readUnit ⟨Nat.le_of_ble_eq_true rfl, Nat.le_of_ble_eq_true rfl⟩) ⟨fun a U g mk q => by obtain ⟨q0, q1, qP, qK, qD, qE0, qE1, qE2, qE3, qE4, qE5⟩ := q; exact ⟨q0, q1, qP, va_K.moved (u := U) (U := U.calling g mk a) (Vm.Alike.refl U.vm) qK, qD, vk_R.same rfl qE0, va_Z.moved (u := U) (U := U.calling g mk a) (Vm.Alike.refl U.vm) qE1, va_OF.moved (u := U) (U := U.calling g mk a) (Vm.Alike.refl U.vm) qE2, va_O.moved (u := U) (U := U.calling g mk a) (Vm.Alike.refl U.vm) qE3, va_OF.moved (u := U) (U := U.calling g mk a) (Vm.Alike.refl U.vm) qE4, va_T.moved (u := U) (U := U.calling g mk a) (Vm.Alike.refl U.vm) qE5⟩, hrv, fun U hU hW => ⟨rfl, by rw [hU], by rw [hU]; exact hPc, va_K.moved hW.alike hKc, hDc.weaken (fun _ _ _ _ => trivial), vk_R.warm hW hE_32, va_Z.moved hW.alike (by rw [hU]; exact (hE_10.kept hS.2.1).narrow hFc), va_OF.moved hW.alike (by rw [hU]; exact (hE_34.kept hS.2.1).narrow hFc), va_O.moved hW.alike (by rw [hU]; exact (hE_33.kept hS.2.1).narrow hFc), va_OF.moved hW.alike (by rw [hU]; exact (hE_35.kept hS.2.1).narrow hFc), va_T.moved hW.alike (by rw [hU]; exact (hE_36.kept hS.2.1).narrow hFc)⟩⟩ rfl rfl hl.1 rfl (lv_room (Nat.le_of_ble_eq_true rfl)) dX4_readCondition_41 ⟨Nat.le_of_ble_eq_true rfl, Nat.le_of_ble_eq_true rfl⟩) hS (fun q _ h => hFc q h) hFc (fun u t H1 locs ht hvm hw hB hz1 hk1 hS => ?_)
        obtain ⟨x_40, x_41, x_42, w_43⟩ := u
        obtain ⟨hP1, hK1, hD1⟩ := hB
        rw [ht] at hP1
        obtain ⟨hP, hD⟩ := cl_put (w1 := (wd_c_X4_readUnit_2 h1 h1_0 h1_f1 x_40 x_41 h1_0 h1_0k h1_0c h0 h0_0 x_42 h0_2 h0_0 h0_0k w_43)) (nw := (wd_c_X4_readCondition_1 h1 h1_0 h1_f1 x_40 x_41 h1_0 h1_0k h1_0c h0 h0_0 x_42 h0_2 h0_0 h0_0k w_43)) hP hD [0, 1, 2, 3] [4, 5, 6, 7] 4 rfl hqc (by decide +kernel) rfl hk1 hFc hP1 hD1
        generalize H1 = H at hP hS ⊢
        as_aux_lemma =>
        rcases hw with ⟨h_44, h_45, h_46, h_47⟩
        have h_47 : (x_40, x_41, x_42, w_43) = _ := h_47
        replace hEX := hEX.trans (exc4_eq h_47)
        refine lv_iload hx hb dX4_readCondition_44 (lv_at hl 2 rfl) ?_
        refine lv_if_eq (tgt := 55) hx hb dX4_readCondition_46 rfl (fun c_48 => ?_) (fun c_48 => ?_)
        · replace hEX := hEX.trans (if_pos c_48)
          have g_49 : RG j9_l4 0 0 := RG_eq1 g_j9_l4 (RG_k 0 0 rfl) c_48 (by decide +kernel)
          exact hU _ _ _ (J55 x_40 x_41 x_42 w_43 g_h0_f1 g_h1_f1 g_h1_f2 g_h1_f3 h_46 h_44 h_45 g_j9_h0_f1 g_j9_h1_f2 g_j9_h1_f3 (RG_w g_49 (by decide +kernel)) g_j9_l5 g_j9_l6 hEX _ _ _ hP hD hS (lv_sub hl [0, 1, 3, 4, 5, 6] rfl))
        · replace hEX := hEX.trans (if_neg c_48)
          have g_50 : RG j9_l4 1 1 := RG_ne1 g_j9_l4 (q := 0) rfl c_48 (by decide +kernel)
          refine lv_aload_n hx hb dX4_readCondition_49 rfl (lv_at hl 3 rfl) ?_
          refine lv_bipush (v := (-38)) hx hb dX4_readCondition_50 kc_bipush_m38 ?_
          obtain ⟨hPc, hDc, hFc, hqc⟩ := cl_cut (wc := (wd_c_X4_emit h0 h0_0 x_42 h0_2 h0_0 h0_0k w_43)) hP hD hS hA [2, 3] (by decide +kernel) rfl
          have hKc := hK.sub (tys' := [(h0_0k, .int)]) [1] rfl
          have hrv := va_recv hKc hPc (ci := 4) (q0 := 0) rfl rfl
          refine va_callv (va_runV (As := [.int (-38)]) (rest := []) ⟨hx, hb, hml, hown, hts⟩ (c_X4_emit l dC dI H.size h0 (-38) h0_0 x_42 h0_2 h0_0k w_43 h_46) (cwV 1 hts gf_c_X4_readCondition_1_c_X4_emit rfl rfl rfl mdV_X4_emit ⟨Nat.le_of_ble_eq_true rfl, Nat.le_of_ble_eq_true rfl⟩) ⟨fun a U g mk q => by obtain ⟨q0, q1, qP, qK, qD⟩ := q; exact ⟨q0, q1, qP, va_K.moved (u := U) (U := U.calling g mk a) (Vm.Alike.refl U.vm) qK, qD⟩, hrv, fun U hU hW => ⟨rfl, by rw [hU], by rw [hU]; exact hPc, va_K.moved hW.alike hKc, hDc.weaken (fun _ _ _ _ => trivial)⟩⟩ rfl rfl hl.1 rfl (lv_room (Nat.le_of_ble_eq_true rfl)) dX4_readCondition_52 ⟨Nat.le_of_ble_eq_true rfl, Nat.le_of_ble_eq_true rfl⟩) hS (fun q _ h => hFc q h) hFc (fun u t H1 locs ht hvm hw hB hz1 hk1 hS => ?_)
          as_aux_lemma =>
          obtain ⟨x_52, w_53⟩ := u
          obtain ⟨hP1, hK1, hD1⟩ := hB
          rw [ht] at hP1
          obtain ⟨hP, hD⟩ := cl_put (w1 := (wd_c_X4_emit h0 h0_0 x_52 h0_2 h0_0 h0_0k w_53)) (nw := (wd_c_X4_readCondition_1 h1 h1_0 h1_f1 x_40 x_41 h1_0 h1_0k h1_0c h0 h0_0 x_52 h0_2 h0_0 h0_0k w_53)) hP hD [2, 3] [0, 1, 4, 5] 4 rfl hqc (by decide +kernel) rfl hk1 hFc hP1 hD1
          generalize H1 = H at hP hS ⊢
          as_aux_lemma =>
          rcases hw with ⟨h_54, h_55⟩
          have h_55 : (x_52, w_53) = _ := h_55
          replace hEX := hEX.trans (exc2_eq h_55)
          exact hU _ _ _ (J55 x_40 x_41 x_52 w_53 g_h0_f1 g_h1_f1 g_h1_f2 g_h1_f3 (RG_w h_54 (by decide +kernel)) h_44 h_45 g_j9_h0_f1 g_j9_h1_f2 g_j9_h1_f3 (RG_w g_50 (by decide +kernel)) g_j9_l5 g_j9_l6 hEX _ _ _ hP hD hS (lv_sub hl [0, 1, 3, 4, 5, 6] rfl))
      have J40 : ∀ (g_h0_f1 : RG h0_f1 0 240) (g_h1_f1 : RG h1_f1 0 240) (g_h1_f2 : RG h1_f2 0 240) (g_h1_f3 : RG h1_f3 (-1) 240) (g_j9_h0_f1 : RG j9_h0_f1 0 240) (g_j9_h1_f2 : RG j9_h1_f2 0 240) (g_j9_h1_f3 : RG j9_h1_f3 (-1) (-1)) (g_j9_l4 : RG j9_l4 0 1) (g_j9_l5 : RG j9_l5 0 1) (g_j9_l6 : RG j9_l6 0 239) (hEX : RES = fx_c_X4_readCondition_1_p40 h1_f1 h1_0c j9_l6 j9_l5 j9_l4 j9_h1_f2 j9_h1_f3 j9_h0_f1 j9_h0_0c (fx_c_X4_readCondition_1_p9 h1_f1 h1_0c n9)) (H : Heap) (locs : List Loc) (ls : Array Slot) (hP : va_P (dC, dI) vwCl (wd_c_X4_readCondition_1 h1 h1_0 h1_f1 j9_h1_f2 j9_h1_f3 h1_0 h1_0k h1_0c h0 h0_0 j9_h0_f1 h0_2 h0_0 h0_0k j9_h0_0c) H) (hD : va_D A (wd_c_X4_readCondition_1 h1 h1_0 h1_f1 j9_h1_f2 j9_h1_f3 h1_0 h1_0k h1_0c h0 h0_0 j9_h0_f1 h0_2 h0_0 h0_0k j9_h0_0c)) (hS : va_S A s.heap H locs) (hl : lv_has ls 7 [(6, .int j9_l6), (5, .int j9_l5), (4, .int j9_l4), (0, .ref h0), (1, .ref h1), (2, .int 1), (3, .int 0)]), G H locs (F0 m 40 ls [.int 1, .ref h1, .ref h0]) := by
        as_aux_lemma =>
        intro g_h0_f1 g_h1_f1 g_h1_f2 g_h1_f3 g_j9_h0_f1 g_j9_h1_f2 g_j9_h1_f3 g_j9_l4 g_j9_l5 g_j9_l6 hEX H locs ls hP hD hS hl
        refine hG _ _ _ ?_
        refine lv_iconst (v := 0) hx hb dX4_readCondition_40 kc_iconst_0 ?_
        exact hU _ _ _ (J41 g_h0_f1 g_h1_f1 g_h1_f2 g_h1_f3 g_j9_h0_f1 g_j9_h1_f2 g_j9_h1_f3 g_j9_l4 g_j9_l5 g_j9_l6 hEX _ _ _ hP hD hS (lv_sub hl [0, 1, 2, 3, 4, 5, 6] rfl))
      refine hG _ _ _ ?_
      replace hEX := hEX.trans (if_pos (rfl : j9_l6 = j9_l6))
      refine lv_iload hx hb dX4_readCondition_9 (lv_at hl 0 rfl) ?_
      refine lv_sipush (v := 240) hx hb dX4_readCondition_11 kc_sipush_240 ?_
      refine lv_icmp_ge (tgt := 99) hx hb dX4_readCondition_14 rfl (fun c_56 => ?_) (fun c_56 => ?_)
      · replace hEX := hEX.trans (if_pos c_56)
        have g_57 : RG j9_l6 240 240 := RG_le2 (RG_k 240 240 rfl) g_j9_l6 c_56 (by decide +kernel)
        have hK9 := hK.sub (tys' := []) [] rfl
        exact W.vret hx hb hr (fun t ht hW => ⟨⟨(j9_h1_f2, j9_h1_f3, j9_h0_f1, j9_h0_0c), rfl, ⟨g_j9_h1_f2, g_j9_h1_f3, g_j9_h0_f1, (hR.trans hEX).symm⟩, by rw [ht]; exact hP, va_K.moved hW.alike hK9, hD⟩, hS.F ht⟩) hS.2.2 dX4_readCondition_99
      · replace hEX := hEX.trans (if_neg c_56)
        have d_58 := Int32.not_le.mp c_56
        have g_59 : RG j9_l6 0 239 := RG_lt1 g_j9_l6 (RG_k 240 240 rfl) d_58 (by decide +kernel)
        refine lv_aload_n hx hb dX4_readCondition_17 rfl (lv_at hl 4 rfl) ?_
        as_aux_lemma =>
        obtain ⟨hPc, hDc, hFc, hqc⟩ := cl_cut (wc := (wd_c_X9_isRight h1 h1_0 h1_f1 j9_h1_f2 j9_h1_f3)) hP hD hS hA [0] (by decide +kernel) rfl
        have hKc := hK.sub (tys' := []) [] rfl
        have hrv := va_recv hKc hPc (ci := 9) (q0 := 0) rfl rfl
        refine va_calli (va_runV (As := []) (rest := []) ⟨hx, hb, hml, hown, hts⟩ (c_X9_isRight l dC dI H.size h1 h1_0 h1_f1 j9_h1_f2 j9_h1_f3 g_h1_f1 g_j9_h1_f2 g_j9_h1_f3) (cwV 0 hts gf_c_X4_readCondition_1_c_X9_isRight rfl rfl rfl mdV_X9_isRight ⟨Nat.le_of_ble_eq_true rfl, Nat.le_of_ble_eq_true rfl⟩) ⟨fun a U g mk q => by obtain ⟨q0, q1, qP, qK, qD⟩ := q; exact ⟨q0, q1, qP, va_K.moved (u := U) (U := U.calling g mk a) (Vm.Alike.refl U.vm) qK, qD⟩, hrv, fun U hU hW => ⟨rfl, by rw [hU], by rw [hU]; exact hPc, va_K.moved hW.alike hKc, hDc.weaken (fun _ _ _ _ => trivial)⟩⟩ rfl rfl hl.1 rfl (lv_room (Nat.le_of_ble_eq_true rfl)) dX4_readCondition_18 ⟨Nat.le_of_ble_eq_true rfl, Nat.le_of_ble_eq_true rfl⟩) hS (fun q _ h => hFc q h) hFc (fun r_60 u t H1 locs ht hvm hw hB hz1 hk1 hS => ?_)
        obtain ⟨hP1, hK1, hD1⟩ := hB
        rw [ht] at hP1
        obtain ⟨hP, hD⟩ := cl_put (w1 := (wd_c_X9_isRight h1 h1_0 h1_f1 j9_h1_f2 j9_h1_f3)) (nw := (wd_c_X4_readCondition_1 h1 h1_0 h1_f1 j9_h1_f2 j9_h1_f3 h1_0 h1_0k h1_0c h0 h0_0 j9_h0_f1 h0_2 h0_0 h0_0k j9_h0_0c)) hP hD [0] [4, 1, 2, 3] 4 rfl hqc (by decide +kernel) rfl hk1 hFc hP1 hD1
        generalize H1 = H at hP hS ⊢
        as_aux_lemma =>
        rcases hw with ⟨h_61, h_62, h_63⟩ | ⟨h_64, h_65, h_66⟩
        · have h_63 : r_60 = _ := h_63
          replace hEX := hEX.trans (exc1_eq h_63)
          replace hEX := hEX.trans (if_pos (show r_60 = 0 from h_61))
          rw [h_61]
          refine lv_if_eq (tgt := 99) hx hb dX4_readCondition_21 rfl (fun c_67 => ?_) (fun c_67 => absurd c_67 (by decide +kernel))
          have hK9 := hK.sub (tys' := []) [] rfl
          exact W.vret hx hb hr (fun t ht hW => ⟨⟨(j9_h1_f2, j9_h1_f3, j9_h0_f1, j9_h0_0c), rfl, ⟨g_j9_h1_f2, (RG_w h_62 (by decide +kernel)), g_j9_h0_f1, (hR.trans hEX).symm⟩, by rw [ht]; exact hP, va_K.moved hW.alike hK9, hD⟩, hS.F ht⟩) hS.2.2 dX4_readCondition_99
        · have h_66 : r_60 = _ := h_66
          replace hEX := hEX.trans (exc1_eq h_66)
          replace hEX := hEX.trans (if_neg (fun q9 : r_60 = 0 => absurd ((show r_60 = 1 from h_64).symm.trans q9) (by decide +kernel)))
          rw [h_64]
          refine lv_if_eq (tgt := 99) hx hb dX4_readCondition_21 rfl (fun c_68 => absurd c_68 (by decide +kernel)) (fun c_68 => ?_)
          refine lv_aload_n hx hb dX4_readCondition_24 rfl (lv_at hl 3 rfl) ?_
          as_aux_lemma =>
          refine lv_aload_n hx hb dX4_readCondition_25 rfl (lv_at hl 4 rfl) ?_
          refine lv_iload_n hx hb dX4_readCondition_26 rfl (lv_at hl 5 rfl) ?_
          refine lv_iload_n hx hb dX4_readCondition_27 rfl (lv_at hl 6 rfl) ?_
          refine lv_if_eq (tgt := 40) hx hb dX4_readCondition_28 rfl (fun c_69 => ?_) (fun c_69 => absurd c_69 (by decide +kernel))
          exact hU _ _ _ (J40 g_h0_f1 g_h1_f1 g_h1_f2 g_h1_f3 g_j9_h0_f1 g_j9_h1_f2 h_65 g_j9_l4 g_j9_l5 g_59 hEX _ _ _ hP hD hS (lv_sub hl [0, 1, 2, 3, 4, 5, 6] rfl))
  refine hG _ _ _ ?_
  refine lv_iconst (v := 0) hx hb dX4_readCondition_0 kc_iconst_0 ?_
  refine lv_istore (lv' := [(4, .int 0), (0, .ref h0), (1, .ref h1), (2, .int 1), (3, .int 0)]) hx hb dX4_readCondition_1 hl (Nat.le_of_ble_eq_true rfl) rfl (fun ls hl => ?_)
  refine lv_iconst (v := 0) hx hb dX4_readCondition_3 kc_iconst_0 ?_
  refine lv_istore (lv' := [(5, .int 0), (4, .int 0), (0, .ref h0), (1, .ref h1), (2, .int 1), (3, .int 0)]) hx hb dX4_readCondition_4 hl (Nat.le_of_ble_eq_true rfl) rfl (fun ls hl => ?_)
  refine lv_iconst (v := 0) hx hb dX4_readCondition_6 kc_iconst_0 ?_
  refine lv_istore (lv' := [(6, .int 0), (5, .int 0), (4, .int 0), (0, .ref h0), (1, .ref h1), (2, .int 1), (3, .int 0)]) hx hb dX4_readCondition_7 hl (Nat.le_of_ble_eq_true rfl) rfl (fun ls hl => ?_)
  exact hU _ _ _ (J9 exF 0 0 0 h1_f2 h1_f3 h0_f1 h0_0c MU_F g_h0_f1 g_h1_f1 g_h1_f2 g_h1_f3 g_h0_f1 g_h1_f2 g_h1_f3 (RG_w (RG_k 0 0 rfl) (by decide +kernel)) (RG_w (RG_k 0 0 rfl) (by decide +kernel)) (RG_w (RG_k 0 0 rfl) (by decide +kernel)) hEX _ _ _ hP hD hS (lv_sub hl [0, 1, 2, 3, 4, 5, 6] rfl))
